theorem sCls_len {T : Int → Int} {L : Int} (hT : TX T L) : ∀ (m : Nat) (p : Int), 0 ≤ p → p ≤ L → (sCls T L m p).1 = true → (codeX (sCls T L m p).2.2).length + p ≤ L
  | 0, p, p0, pL, h => by rw [sCls] at h; simp at h
  | m + 1, p, p0, pL, h => by
    rw [sCls_nx] at h ⊢
    by_cases c1 : (sCl T p).1 = true
    · rw [if_pos c1] at h ⊢
      obtain ⟨s1, s2⟩ := sCl_G hT p0 pL c1
      have cl := cX_len s2 s1.1
      by_cases c2 : (sCl T p).2.1 = L
      · rw [if_pos c2]
        show ((codeX [(sCl T p).2.2]).length : Int) + p ≤ L
        rw [codeX_one]
        omega
      · rw [if_neg c2] at h ⊢
        by_cases c3 : (sNx T L m (sCl T p).2.1).1 = true
        · rw [if_pos c3]
          show ((codeX ((sCl T p).2.2 :: (sNx T L m (sCl T p).2.1).2.2)).length : Int) + p ≤ L
          have e : codeX ((sCl T p).2.2 :: (sNx T L m (sCl T p).2.1).2.2) = cX (sCl T p).2.2 ++ codeX (sNx T L m (sCl T p).2.1).2.2 := by
            rw [← codeX_one, ← codeX_app]
            rfl
          rw [e, List.length_append]
          unfold sNx at c3 ⊢
          by_cases d1 : m = 0
          · rw [if_pos d1] at c3; simp at c3
          · rw [if_neg d1] at c3 ⊢
            by_cases d2 : T (sCl T p).2.1 = 59
            · have pL2 := lt_L hT (p := (sCl T p).2.1) (by omega)
              rw [if_pos d2] at c3 ⊢
              have := sCls_len hT m ((sCl T p).2.1 + 1) (by omega) (by omega) c3
              omega
            · rw [if_neg d2] at c3; simp at c3
        · rw [if_neg c3] at h; simp at h
    · rw [if_neg c1] at h; simp at h
theorem MO.cgf {A A' : HH} {f : Int} {L : List CL} (H : MO A f L) (e1 : A' 201 f = A 201 f) (e2 : ∀ c i, 202 ≤ c → c ≤ 205 → 10 * f ≤ i → i < 10 * f + 10 → A' c i = A c i) (e3 : ∀ j, 100 * f ≤ j → j < 100 * f + 100 → A' 206 j = A 206 j) : MO A' f L := by
  obtain ⟨h1, h2, h3, h4⟩ := H
  refine ⟨by rw [e1]; exact h1, h2, h3, fun i hi => ?_⟩
  exact (h4 i hi).cg ⟨e2 _ _ (by omega) (by omega) (by omega) (by omega), e2 _ _ (by omega) (by omega) (by omega) (by omega), e2 _ _ (by omega) (by omega) (by omega) (by omega), e2 _ _ (by omega) (by omega) (by omega) (by omega)⟩ e3
theorem XT.off {S : SS} {h h' A A' : HH} (T : XT S h A) (e : ∀ c j, c = 151 ∨ (165 ≤ c ∧ c ≤ 174) ∨ (243 ≤ c ∧ S.1 c (-1) = 27) → h' c j = h c j) (a : ∀ c j, (c = 193 ∧ j = 71) ∨ (238 ≤ c ∧ c ≤ 241) → A' c j = A c j) (h1 : h' 148 1 = 0) (a1 : A' 193 11 = 0) : XT S h' A' := by
  obtain ⟨t1, t2, t3, t4, t5, t6, tz, t7⟩ := T
  unfold XT
  rw [h1, a1, a 193 71 (by omega), e 151 2 (by omega), e 151 1 (by omega)]
  refine ⟨rfl, by omega, fun i p q => by omega, fun t p q => ?_, t5, t6, fun j p q => by rw [e 165 j (by omega)]; exact tz j p q, ?_⟩
  · rw [e 166 t (by omega), e 167 t (by omega), a 239 t (by omega), a 240 t (by omega)]
    obtain ⟨g1, g2, g3, g4, g5, g6⟩ := t4 t p q
    refine ⟨g1, g2, g3, g4, g5, fun i x y => ?_⟩
    rw [e (169 + t) i (by omega), a 241 _ (by omega)]
    exact g6 i x y
  · rcases t7 with t7 | ⟨g1, g2, g3, g4, g5, g6, g7⟩
    · exact .inl t7
    · refine .inr ⟨g1, g2, g3, g4, g5, g6, fun i x y => ?_⟩
      rw [e _ i (.inr (.inr ⟨g2, g4⟩)), a 238 i (by omega)]
      exact g7 i x y
/-- what orchards change of the abstract -/
def oC (f c j : Int) : Prop := (c = 193 ∧ (j = 9 ∨ j = 10 ∨ j = 11 ∨ j = 12 ∨ j = 13 ∨ j = 22 ∨ j = 23 ∨ j = 24)) ∨ c = 207 ∨ (c = 206 ∧ 100 * f ≤ j) ∨ ((202 ≤ c ∧ c ≤ 205) ∧ 10 * f ≤ j ∧ j < 10 * f + 10) ∨ (c = 201 ∧ j = f)
/-- the class's side after a text was read: k is the memory that both sides stand on -/
theorem orch_XR {S : SS} {h h' A A' : HH} {O O' : Int → List CL} {f N x : Int} (hX : XR S h h A O) (hf : f = A 193 9) (e : ∀ c j, ¬ ((c = 148 ∧ 1 ≤ j ∧ j ≤ 3) ∨ (175 + 3 * f ≤ c ∧ c ≤ 177 + 3 * f) ∨ (c = 1 ∧ j = 11) ∨ (c = 0 ∧ j = 6) ∨ (193 ≤ c ∧ c ≤ 242)) → h' c j = h c j) (a : ∀ c j, ¬ oC f c j → A' c j = A c j) (h1 : h' 148 1 = 0) (a1 : A' 193 11 = 0) (hN : A' 193 9 = N ∧ h' 0 6 = N ∧ f ≤ N ∧ N ≤ 6) (a10 : h' 1 11 = if A' 193 10 < 0 then 0 else 176 + 3 * A' 193 10) (hO : ∀ g, 0 ≤ g → g < f → O' g = O g) (hg : ∀ g, f ≤ g → g < N → XO h' g (O' g) ∧ MO A' g (O' g)) : XR S h' h' A' O' := by
  obtain ⟨x1, x2, x3, x4, x5, x6, x7, x8, x9, x10⟩ := hX
  have nC : ∀ c j, coreC c j → ¬ (c = 193 ∧ j = 10) → A' c j = A c j := fun c j q z => a c j (by unfold coreC at q; unfold oC; omega)
  have i1 : ∀ c j, imgC c j → A' c j = A c j := fun c j q => a c j (by unfold imgC at q; unfold oC; omega)
  have f6 : 0 ≤ f ∧ f ≤ 6 := by omega
  refine ⟨fun _ _ _ _ => rfl, ?_, x3.cg (fun c j q => e c j (by omega)) (fun c j q => a c j (by unfold listC at q; unfold oC; omega)), x4.off (fun c j q => e c j (by omega)) (fun c j q => a c j (by unfold oC; omega)) h1 a1, ?_, ?_, ?_, ?_, ?_, fun g g0 g1 => ?_⟩
  · have C : XC S (u2 h' 1 11 (h 1 11)) 1 (u2 A' 193 10 (A 193 10)) := x2.cg (fun c j q => by
      by_cases z : c = 1 ∧ j = 11
      · obtain ⟨rfl, rfl⟩ := z
        rw [u2S]
      · rw [u2N (by omega)]
        exact e c j (by rcases q with q | q; omega; have := isHb_ge q; omega)) (fun c j q => by
      by_cases z : c = 193 ∧ j = 10
      · obtain ⟨rfl, rfl⟩ := z
        rw [u2S]
      · rw [u2N (by omega)]
        exact nC c j q z)
    obtain ⟨c1, c2, c3, c4, c5, c6, c7, c8, c9, c10⟩ := C
    have r : ∀ c j, c ≠ 1 ∨ j ≠ 11 → u2 h' 1 11 (h 1 11) c j = h' c j := fun c j z => u2N (by omega)
    have ra : ∀ c j, c ≠ 193 ∨ j ≠ 10 → u2 A' 193 10 (A 193 10) c j = A' c j := fun c j z => u2N (by omega)
    rw [ra 193 0 (by omega), r 1 4 (by omega)] at c1
    rw [r 1 7 (by omega), ra 193 2 (by omega)] at c2
    refine ⟨c1, c2, a10, fun p p0 p1 => ?_, fun p p0 p1 => ?_, fun p p0 p1 => ?_, fun p t p0 p1 t0 t1 => ?_, fun p t p0 p1 t0 t1 => ?_, fun t t0 t1 => ?_, fun t t0 t1 => ?_⟩
    · have := c4 p p0 p1
      rw [r _ _ (by omega), r _ _ (by omega)] at this
      exact this
    · have := c5 p p0 (by rw [ra _ _ (by omega)]; exact p1)
      rw [r (1 + 1) p (by omega), ra 194 p (by omega), ra 195 p (by omega)] at this
      obtain ⟨g1, g2, g3, g4, g5⟩ := this
      have gg := isHb_ge g1
      rw [r _ 0 (by omega)] at g3
      rw [r _ 1 (by omega)] at g4
      rw [r _ 2 (by omega)] at g5
      exact ⟨g1, g2, g3, g4, g5⟩
    · have := c6 p p0 (by rw [ra _ _ (by omega)]; exact p1)
      rw [r _ _ (by omega), ra _ _ (by omega)] at this
      exact this
    · have := c7 p t p0 (by rw [ra _ _ (by omega)]; exact p1) t0 t1
      rw [r _ _ (by omega), ra _ _ (by omega)] at this
      exact this
    · have := c8 p t p0 (by rw [ra _ _ (by omega)]; exact p1) t0 t1
      rw [r _ _ (by omega), ra _ _ (by omega)] at this
      exact this
    · have := c9 t t0 t1
      rw [r _ _ (by omega), ra _ _ (by omega)] at this
      exact this
    · have := c10 t t0 t1
      rw [r _ _ (by omega), ra _ _ (by omega)] at this
      exact this
  · rw [e 0 3 (by omega), a 193 49 (by unfold oC; omega)]; exact x5
  · rw [a 193 49 (by unfold oC; omega)]; exact x6
  · rw [a 193 49 (by unfold oC; omega)]
    exact fun z => ⟨(x7 z).1.cg (fun c j q => e c j (by rcases q with q | q; omega; have := isHb_ge q; omega)) (imA.cC i1), (x7 z).2.cg (fun c j q => e c j (by omega)) (imA.cL i1)⟩
  · rw [hN.1, hN.2.1]
  · rw [hN.1]; omega
  · rw [hN.1] at g1
    by_cases c : g < f
    · rw [hO g g0 c]
      obtain ⟨y1, y2⟩ := x10 g g0 (by omega)
      exact ⟨y1.cg (fun c j _ _ => e c j (by omega)), y2.cgf (a _ _ (by unfold oC; omega)) (fun c i _ _ _ _ => a c i (by unfold oC; omega)) (fun j _ _ => a _ _ (by unfold oC; omega))⟩
    · exact hg g (by omega) g1
theorem orch_AOK {A A' : HH} {f N : Int} (H : AOK A) (a : ∀ c j, ¬ oC f c j → A' c j = A c j) (hN : A' 193 9 = N ∧ A 193 9 ≤ N) (h10 : -1 ≤ A' 193 10 ∧ A' 193 10 < N) : AOK A' := by
  obtain ⟨h1, h2, h3, h4, h5⟩ := H
  have i1 : ∀ c j, imgC c j → A' c j = A c j := fun c j q => a c j (by unfold imgC at q; unfold oC; omega)
  have up : ∀ {Y M M' : Int} {B : HH}, WOK Y M B → M ≤ M' → WOK Y M' B := fun w z => ⟨w.1, w.2.1, w.2.2.1, ⟨w.2.2.2.1.1, by have := w.2.2.2.1.2; omega⟩, w.2.2.2.2⟩
  unfold AOK
  rw [a 193 27 (by unfold oC; omega), a 193 49 (by unfold oC; omega), hN.1]
  refine ⟨h1, fun i hi => by rw [a 208 i (by unfold oC; omega)]; exact h2 i hi, ?_, h4.cg (fun c j q => a c j (by unfold listC at q; unfold oC; omega)) (by rw [a 193 0 (by unfold oC; omega)]; exact Int.le_refl _), fun z => ⟨up ((h5 z).1.core (imA.cC i1)) hN.2, (h5 z).2.cg (imA.cL i1) (by rw [imA.cC i1 193 0 (by unfold coreC; omega)]; exact Int.le_refl _)⟩⟩
  have w : WOK 9999 (A 193 9) (u2 A' 193 10 (A 193 10)) := h3.core fun c j q => by
    by_cases z : c = 193 ∧ j = 10
    · obtain ⟨rfl, rfl⟩ := z
      rw [u2S]
    · rw [u2N (by omega)]
      exact a c j (by unfold coreC at q; unfold oC; omega)
  obtain ⟨w1, w2, w3, w4, w5, w6, w7, w8, w9, w10, w11⟩ := w
  have ra : ∀ c j, c ≠ 193 ∨ j ≠ 10 → u2 A' 193 10 (A 193 10) c j = A' c j := fun c j z => u2N (by omega)
  have e0 := ra 193 0 (by omega)
  have e1 := ra 193 1 (by omega)
  have e2 := ra 193 2 (by omega)
  have e4 : ∀ j, u2 A' 193 10 (A 193 10) 194 j = A' 194 j := fun j => ra _ _ (by omega)
  have e5 : ∀ j, u2 A' 193 10 (A 193 10) 195 j = A' 195 j := fun j => ra _ _ (by omega)
  have e6 : ∀ j, u2 A' 193 10 (A 193 10) 196 j = A' 196 j := fun j => ra _ _ (by omega)
  have e7 : ∀ j, u2 A' 193 10 (A 193 10) 197 j = A' 197 j := fun j => ra _ _ (by omega)
  have e8 : ∀ j, u2 A' 193 10 (A 193 10) 198 j = A' 198 j := fun j => ra _ _ (by omega)
  have e9 : ∀ j, u2 A' 193 10 (A 193 10) 199 j = A' 199 j := fun j => ra _ _ (by omega)
  simp only [e0, e1, e2, e4, e5, e6, e7, e8, e9] at w1 w2 w3 w5 w6 w7 w8 w9 w10 w11
  exact ⟨w1, w2, w3, h10, w5, w6, w7, w8, w9, w10, w11⟩
theorem st_orchard {S : SS} {h : HH} (F : Fx S) (I : Inv h S) : ∃ r, ((x_orchard h).bind fun q => (m_orchard q.2).bind fun q1 => if ww q.1 = ww q1.1 then some (q1.2, S) else none) = some r ∧ Fx r.2 ∧ Inv r.1 r.2 := by
  obtain ⟨A, O, hA, hX, hM⟩ := I
  have W := hA.2.2.1
  have x8 := hX.2.2.2.2.2.2.2.1
  have x9 := hX.2.2.2.2.2.2.2.2.1
  have C := hX.2.1
  obtain ⟨t1, t2, t3, -⟩ := hX.2.2.2.1
  by_cases c6 : A 193 9 = 6
  · have ex : x_orchard h = some (-4, h) := by
      unfold x_orchard
      rw [x8, c6, if_neg (by decide)]
    rw [ex]
    refine glueW (m := fun g => m_orchard g) (a := -4) (b := -4) F hA hX hM (fun k g H => ⟨g, ?_, H⟩) rfl
    show m_orchard g = _
    unfold m_orchard
    rw [H.s9, c6, if_pos (by decide)]
  · have f6 : 0 ≤ A 193 9 ∧ A 193 9 < 6 := by omega
    have hT : TX (fun i => if 0 ≤ i ∧ i < A 193 11 then A 200 i else -1) (A 193 11) := ⟨t2, fun i hi => if_neg (by omega), fun i i0 i1 => by
      show 0 ≤ (if 0 ≤ i ∧ i < A 193 11 then A 200 i else -1)
      rw [if_pos ⟨i0, i1⟩]
      exact (t3 i i0 i1).2.1⟩
    have tE : ∀ i, 0 ≤ i → i < A 193 11 → (fun i => if 0 ≤ i ∧ i < A 193 11 then A 200 i else -1) i = A 200 i := fun i i0 i1 => if_pos ⟨i0, i1⟩
    generalize (fun i => if 0 ≤ i ∧ i < A 193 11 then A 200 i else -1 : Int → Int) = T at hT tE
    have X : XTX T (A 193 11) (175 + 3 * A 193 9) h := ⟨hT, t1, fun i i0 i1 => by rw [tE i i0 i1]; exact ⟨(t3 i i0 i1).1, (t3 i i0 i1).2.2⟩, by omega⟩
    have XM : MTX T (A 193 11) A := ⟨hT, rfl, fun i i0 i1 => by rw [tE i i0 i1]; exact ⟨rfl, (t3 i i0 i1).2.2⟩⟩
    obtain ⟨h1, e1, F1, g1⟩ := X_clauses X
    have off1 : ∀ c j, ¬ ((c = 148 ∧ 1 ≤ j ∧ j ≤ 3) ∨ (175 + 3 * A 193 9 ≤ c ∧ c ≤ 177 + 3 * A 193 9)) → h1 c j = h c j := fun c j z => F1.2 c j (by omega)
    have w06 : ww (h 0 6) = A 193 9 := by rw [x8, wwP (by omega)]
    by_cases ok : (sCls T (A 193 11) 10 0).1 = true
    · -- it is an orchard
      have hx : x_orchard h = some (A 193 9, u2 (u2 (u2 h1 148 1 0) 1 11 (175 + 3 * A 193 9 + 1)) 0 6 (A 193 9 + 1)) := by
        unfold x_orchard
        rw [w06, if_pos (by omega), ckP (by omega), e1, Option.bind_some, if_pos ok, if_neg (show ¬ ww (1 : Int) = 0 by decide)]
        dsimp only
        have r6 : u2 (u2 h1 148 1 0) 1 11 (175 + 3 * A 193 9 + 1) 0 6 = A 193 9 := by
          rw [u2N (by omega), u2N (by omega), off1 _ _ (by omega)]
          exact x8
        rw [r6, u2S, show A 193 9 + 1 - 1 = A 193 9 by omega]
      generalize hh2 : u2 (u2 (u2 h1 148 1 0) 1 11 (175 + 3 * A 193 9 + 1)) 0 6 (A 193 9 + 1) = h2 at hx
      have o2 : ∀ c j, ¬ ((c = 148 ∧ 1 ≤ j ∧ j ≤ 3) ∨ (175 + 3 * A 193 9 ≤ c ∧ c ≤ 177 + 3 * A 193 9) ∨ (c = 1 ∧ j = 11) ∨ (c = 0 ∧ j = 6)) → h2 c j = h c j := fun c j z => by
        rw [← hh2, u2N (by omega), u2N (by omega), u2N (by omega)]
        exact off1 c j (by omega)
      have H2 : MR h2 h2 A := ⟨fun _ _ _ => rfl, fun c j q => by
        have := rel_c q
        rw [o2 c j (by omega)]
        exact hM.2 c j q⟩
      obtain ⟨h3, B3, e3, H3, G3, p3, m3⟩ := M_goesT XM f6 hA.2.1 H2
      have r9 : h3 193 9 = A 193 9 := by rw [H3.s9, G3 _ _ (by omega)]
      have em : m_orchard h2 = some (A 193 9, u2 (u2 (u2 h3 193 11 0) 193 10 (A 193 9)) 193 9 (A 193 9 + 1)) := by
        unfold m_orchard
        rw [if_neg (by rw [H2.s9, wwP (by omega)]; exact c6), H2.s9, e3, Option.bind_some, if_pos ok, if_neg (show ¬ ww (1 : Int) = 0 by decide)]
        dsimp only
        have q9 : u2 h3 193 11 0 193 9 = A 193 9 := by rw [u2N (by omega)]; exact r9
        have q9' : u2 (u2 h3 193 11 0) 193 10 (A 193 9) 193 9 = A 193 9 := by rw [u2N (by omega)]; exact q9
        rw [q9, q9', u2N (f := u2 (u2 h3 193 11 0) 193 10 (A 193 9)) (by omega), u2S]
      have H4 : MR h2 (u2 (u2 (u2 h3 193 11 0) 193 10 (A 193 9)) 193 9 (A 193 9 + 1)) (u2 (u2 (u2 B3 193 11 0) 193 10 (A 193 9)) 193 9 (A 193 9 + 1)) := ((H3.w (by omega)).w (by omega)).w (by omega)
      have m3 := m3 ok
      have a4 : ∀ c j, ¬ oC (A 193 9) c j → u2 (u2 (u2 B3 193 11 0) 193 10 (A 193 9)) 193 9 (A 193 9 + 1) c j = A c j := fun c j z => by
        unfold oC at z
        rw [u2N (by omega), u2N (by omega), u2N (by omega)]
        exact G3 c j (by omega)
      have M4 : MO (u2 (u2 (u2 B3 193 11 0) 193 10 (A 193 9)) 193 9 (A 193 9 + 1)) (A 193 9) (sCls T (A 193 11) 10 0).2.2 := m3.cgf (by simp (disch := omega) only [u2S, u2N, u2T]) (fun c i _ _ _ _ => by simp (disch := omega) only [u2S, u2N, u2T]) (fun j _ _ => by simp (disch := omega) only [u2S, u2N, u2T])
      have b9 : u2 (u2 (u2 B3 193 11 0) 193 10 (A 193 9)) 193 9 (A 193 9 + 1) 193 9 = A 193 9 + 1 := u2S
      have b10 : u2 (u2 (u2 B3 193 11 0) 193 10 (A 193 9)) 193 9 (A 193 9 + 1) 193 10 = A 193 9 := by simp (disch := omega) only [u2S, u2N, u2T]
      have b11 : u2 (u2 (u2 B3 193 11 0) 193 10 (A 193 9)) 193 9 (A 193 9 + 1) 193 11 = 0 := by simp (disch := omega) only [u2S, u2N, u2T]
      generalize hh4 : u2 (u2 (u2 h3 193 11 0) 193 10 (A 193 9)) 193 9 (A 193 9 + 1) = h4 at em H4
      generalize u2 (u2 (u2 B3 193 11 0) 193 10 (A 193 9)) 193 9 (A 193 9 + 1) = B4 at *
      have o4 : ∀ c j, ¬ (193 ≤ c ∧ c ≤ 242) → h4 c j = h2 c j := fun c j z => H4.1 c j (by omega)
      rw [hx, Option.bind_some]
      dsimp only
      rw [em, Option.bind_some]
      refine ⟨(h4, S), by rw [if_pos rfl], F, B4, fun g => if g = A 193 9 then (sCls T (A 193 11) 10 0).2.2 else O g, orch_AOK hA a4 ⟨b9, by omega⟩ (by rw [b10]; omega), ?_, ⟨fun _ _ _ => rfl, H4.2⟩⟩
      have ln := sCls_len hT 10 0 (by omega) t2.1 ok
      obtain ⟨r1, r2, r3, r4⟩ := g1 ok
      have z1 : ∀ c j, 175 + 3 * A 193 9 ≤ c → c ≤ 177 + 3 * A 193 9 → h4 c j = h1 c j := fun c j p q => by
        rw [o4 c j (by omega), ← hh2, u2N (by omega), u2N (by omega), u2N (by omega)]
      show XR S h4 h4 B4 _
      refine orch_XR (N := A 193 9 + 1) (x := 0) hX rfl (fun c j z => by rw [o4 c j (by omega)]; exact o2 c j (by omega)) a4 ?_ b11 ⟨b9, ?_, by omega, by omega⟩ ?_ (fun g g0 g1 => if_neg (by omega)) (fun g g0 g1 => ?_)
      · rw [o4 _ _ (by omega), ← hh2]
        simp (disch := omega) only [u2S, u2N, u2T]
      · rw [o4 _ _ (by omega), ← hh2, u2S]
      · rw [o4 _ _ (by omega), ← hh2, b10, if_neg (by omega), u2N (by omega), u2S]
        omega
      · have eg : g = A 193 9 := by omega
        subst eg
        rw [if_pos rfl]
        refine ⟨?_, M4⟩
        refine ⟨by rw [z1 _ _ (by omega) (by omega)]; exact r3, by rw [z1 _ _ (by omega) (by omega)]; exact r4, by rw [z1 _ _ (by omega) (by omega)]; exact r1, by omega, fun i hi => ?_⟩
        have := r2 i hi
        rw [show (175 : Int) + 3 * A 193 9 + 1 = 176 + 3 * A 193 9 by omega, show (175 : Int) + 3 * A 193 9 + 2 = 177 + 3 * A 193 9 by omega] at this
        rw [z1 _ _ (by omega) (by omega), z1 _ _ (by omega) (by omega)]
        exact this
    · -- it is none
      have hx : x_orchard h = some (-10 - (sCls T (A 193 11) 10 0).2.1, u2 h1 148 1 0) := by
        unfold x_orchard
        rw [w06, if_pos (by omega), ckP (by omega), e1, Option.bind_some, if_neg ok, if_pos (show ww (0 : Int) = 0 by decide)]
        dsimp only
        rw [u2N (by omega), F1.1]
      generalize hh2 : u2 h1 148 1 0 = h2 at hx
      have o2 : ∀ c j, ¬ ((c = 148 ∧ 1 ≤ j ∧ j ≤ 3) ∨ (175 + 3 * A 193 9 ≤ c ∧ c ≤ 177 + 3 * A 193 9)) → h2 c j = h c j := fun c j z => by
        rw [← hh2, u2N (by omega)]
        exact off1 c j (by omega)
      have H2 : MR h2 h2 A := ⟨fun _ _ _ => rfl, fun c j q => by
        have := rel_c q
        rw [o2 c j (by omega)]
        exact hM.2 c j q⟩
      obtain ⟨h3, B3, e3, H3, G3, p3, m3⟩ := M_goesT XM f6 hA.2.1 H2
      have em : m_orchard h2 = some (-10 - (sCls T (A 193 11) 10 0).2.1, u2 h3 193 11 0) := by
        unfold m_orchard
        rw [if_neg (by rw [H2.s9, wwP (by omega)]; exact c6), H2.s9, e3, Option.bind_some, if_neg ok, if_pos (show ww (0 : Int) = 0 by decide)]
        dsimp only
        rw [u2N (by omega), H3.s12, p3]
      have H4 : MR h2 (u2 h3 193 11 0) (u2 B3 193 11 0) := H3.w (by omega)
      have a4 : ∀ c j, ¬ oC (A 193 9) c j → u2 B3 193 11 0 c j = A c j := fun c j z => by
        unfold oC at z
        rw [u2N (by omega)]
        exact G3 c j (by omega)
      have b9 : u2 B3 193 11 0 193 9 = A 193 9 := by rw [u2N (by omega)]; exact G3 _ _ (by omega)
      have b10 : u2 B3 193 11 0 193 10 = A 193 10 := by rw [u2N (by omega)]; exact G3 _ _ (by omega)
      have b11 : u2 B3 193 11 0 193 11 = 0 := u2S
      generalize u2 h3 193 11 0 = h4 at em H4
      generalize u2 B3 193 11 0 = B4 at *
      have o4 : ∀ c j, ¬ (193 ≤ c ∧ c ≤ 242) → h4 c j = h2 c j := fun c j z => H4.1 c j (by omega)
      rw [hx, Option.bind_some]
      dsimp only
      rw [em, Option.bind_some]
      refine ⟨(h4, S), by rw [if_pos rfl], F, B4, O, orch_AOK hA a4 ⟨b9, Int.le_refl _⟩ (by rw [b10]; exact W.2.2.2.1), ?_, ⟨fun _ _ _ => rfl, H4.2⟩⟩
      show XR S h4 h4 B4 _
      refine orch_XR (N := A 193 9) (x := 0) hX rfl (fun c j z => by rw [o4 c j (by omega)]; exact o2 c j (by omega)) a4 ?_ b11 ⟨b9, ?_, Int.le_refl _, by omega⟩ ?_ (fun _ _ _ => rfl) (fun g g0 g1 => by omega)
      · rw [o4 _ _ (by omega), ← hh2, u2S]
      · rw [o4 _ _ (by omega), o2 _ _ (by omega)]
        exact x8
      · rw [o4 _ _ (by omega), o2 _ _ (by omega), b10]
        exact C.2.2.1
