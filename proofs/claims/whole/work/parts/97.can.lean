/-- how many of the boldnesses below d are so, and the least -/
def cntV (P A : HH) (O : Int → List CL) (y p : Int) : Nat → Int → Int → Int × Int
  | 0, c, l => (c, l)
  | d + 1, c, l => if seenN P (u2 A 195 p d) O y p (-1) (P 193 38).toNat 0 = 0 then cntV P A O y p d c l else cntV P A O y p d (c + 1) d
theorem v_WO {A : HH} {Y N p v : Int} (W : WO Y N A) (hv : 0 ≤ v ∧ v ≤ 9) : WO Y N (u2 A 195 p v) := by
  obtain ⟨h1, h2, h3, h4, h5, h6, h7, h8, h9, h10, h11⟩ := W
  refine ⟨by simp (disch := omega) only [u2S, u2N, u2T]; exact h1, by simp (disch := omega) only [u2S, u2N, u2T]; exact h2, by simp (disch := omega) only [u2S, u2N, u2T]; exact h3, by simp (disch := omega) only [u2S, u2N, u2T]; exact h4, fun p => by simp (disch := omega) only [u2S, u2N, u2T]; exact h5 p, fun q => ?_, fun p t => by simp (disch := omega) only [u2S, u2N, u2T]; exact h7 p t, fun p i => by simp (disch := omega) only [u2S, u2N, u2T]; exact h8 p i, fun t => by simp (disch := omega) only [u2S, u2N, u2T]; exact h9 t, fun t => by simp (disch := omega) only [u2S, u2N, u2T]; exact h10 t, fun t u => by simp (disch := omega) only [u2S, u2N, u2T]; exact h11 t u⟩
  intro a b
  by_cases e : q = p
  · subst e
    rw [u2S]
    exact hv
  · rw [u2N (by omega)]
    rw [u2N (by omega)] at b
    exact h6 q a b
theorem v_OM {A : HH} {O : Int → List CL} {j v : Int} (hO : OM A O) : OM (u2 A 195 j v) O := hO.cg (u2N (by omega)) (fun c i q => u2N (by unfold orchC at q; omega))
theorem M_can_L {k A : HH} {Y N p what sv : Int} (W : WO Y N A) (hY : Y ≤ 19000) (L : LOK A) (hp : 0 ≤ p ∧ p < A 193 0) (hsv : sv = A 195 p) (hwhat : what = 0 ∨ what = 1) {O : Int → List CL} (hO : OM A O) : ∀ (d n : Nat) (h : HH) (c l v : Int), d ≤ 10 → d < n → MR k h (u2 A 195 p v) → cntV A A O (A 193 2) p d c l = cntV A A O (A 193 2) p 10 0 (-5) → ∃ h', m_can_L38 p what sv n h c l ((d : Int) - 1) = some (if what = 0 then (cntV A A O (A 193 2) p 10 0 (-5)).1 else (cntV A A O (A 193 2) p 10 0 (-5)).2, h') ∧ MR k h' A := by
  intro d
  induction d with
  | zero =>
    intro n h c l v hd hn H hc
    obtain ⟨n, rfl⟩ : ∃ m, n = m + 1 := ⟨n - 1, by omega⟩
    have n0 := W.1
    rw [m_can_L38, if_pos (by rw [wwP (by omega)]; omega), wwP (by omega), ckP (by omega), ← hc]
    refine ⟨u2 h 195 p sv, ?_, ?_⟩
    · rcases hwhat with rfl | rfl
      · rw [if_pos (by decide), if_pos rfl]; rfl
      · rw [if_neg (by decide), if_neg (by decide)]; rfl
    · exact (H.w (c := 195) (j := p) (v := sv) (by omega)).eq fun i j _ => by
        unfold u2
        by_cases z : i = 195 ∧ j = p
        · rw [if_pos z, z.1, z.2, hsv]
        · rw [if_neg z, if_neg z]
  | succ d ih =>
    intro n h c l v hd hn H hc
    obtain ⟨n, rfl⟩ : ∃ m, n = m + 1 := ⟨n - 1, by omega⟩
    have n0 := W.1
    rw [cntV] at hc
    have e0 : (((d + 1 : Nat) : Int) - 1) = (d : Int) := by omega
    rw [e0, m_can_L38]
    have H1 : MR k (u2 h 195 p d) (u2 A 195 p d) := (H.w (c := 195) (j := p) (v := d) (by omega)).eq fun c j _ => by
      unfold u2
      by_cases z : c = 195 ∧ j = p
      · rw [if_pos z, if_pos z]
      · rw [if_neg z, if_neg z, if_neg z]
    have R : rowsOK (u2 A 195 p d) := by
      unfold rowsOK
      simp (disch := omega) only [u2S, u2N, u2T]
      exact L.rows
    have l0 := L.1
    have Ps : ∀ (m : Nat) (i : Int), seenN (u2 A 195 p d) (u2 A 195 p d) O (A 193 2) p (-1) m i = seenN A (u2 A 195 p d) O (A 193 2) p (-1) m i := by
      intro m
      induction m with
      | zero => intro i; rfl
      | succ m im =>
        intro i
        rw [seenN, seenN, im]
        simp (disch := omega) only [u2S, u2N, u2T]
    obtain ⟨h2, e5, H2⟩ := M_seen_L (k := k) (A := u2 A 195 p d) (t := -1) (v_WO W (by omega)) hY R (y := A 193 2) (by simp (disch := omega) only [u2S, u2N, u2T]) (by simp (disch := omega) only [u2S, u2N, u2T]; exact hp) (by omega) (v_OM hO) (A 193 38).toNat FU (u2 h 195 p d) _ 0 1 (by simp (disch := omega) only [u2S, u2N, u2T]; omega) (by omega) (by unfold FU; omega) H1 (fun _ _ _ => rfl) (.inr rfl)
    rw [if_neg (by decide : ¬ (1 : Int) = 0), Ps] at e5
    have e6 : m_isSeen (u2 h 195 p d) p (-1) = some (seenN A (u2 A 195 p d) O (A 193 2) p (-1) (A 193 38).toNat 0, h2) := by
      unfold m_isSeen
      have y2 : u2 h 195 p d 193 2 = A 193 2 := by simp (disch := omega) only [u2S, u2N, u2T]; rw [H.s2]; simp (disch := omega) only [u2S, u2N, u2T]
      rw [y2]
      exact e5
    rw [show (d : Int) + -1 = (d : Int) - 1 by omega]
    rcases seen_01 (P := A) (A := u2 A 195 p d) (O := O) (y := A 193 2) (p := p) (t := -1) (A 193 38).toNat 0 with b | b
    · rw [b] at e6
      rw [if_pos b] at hc
      simp (disch := omega) only [reduceIte, ltT, ltF, eqT, eqF, leT, leF, wwP, ckP, ckzP, ckbP, u2S, u2N, u2T, ↓Option.bind_some, inB_T, inB_F, Bool.false_eq_true, m_in0, m_in1, e6]
      exact ih n h2 c l d (by omega) (by omega) H2 hc
    · rw [b] at e6
      rw [if_neg (by omega)] at hc
      simp (disch := omega) only [reduceIte, ltT, ltF, eqT, eqF, leT, leF, wwP, ckP, ckzP, ckbP, u2S, u2N, u2T, ↓Option.bind_some, inB_T, inB_F, Bool.false_eq_true, m_in0, m_in1, e6]
      exact ih n h2 (c + 1) d d (by omega) (by omega) H2 hc
/-- the class's memory with p's hater in the world that is asked another -/
def newvX (S : SS) (h : HH) (w kd p d : Int) : HH := u2 (u2 (u2 (u2 (nh h S.2) S.2 0 kd) S.2 1 p) S.2 2 d) (w + 1) p (S.2 + 1)
theorem newvX_f {S : SS} {h : HH} {w kd p d : Int} (i j : Int) (hi : i < S.2) (hi2 : ¬ (i = w + 1 ∧ j = p)) : newvX S h w kd p d i j = h i j := by
  unfold newvX
  simp (disch := omega) only [u2N, nhN]
theorem XC.newv {S : SS} {h B : HH} {w p d : Int} (hw : 1 ≤ w ∧ w ≤ 99) (F : 243 ≤ S.2) (C : XC S h w B) (hp : 0 ≤ p ∧ p < B 193 0) : XC (nSS S (B 194 p)) (newvX S h w (B 194 p) p d) w (u2 B 195 p d) := by
  have x : SXt S (nSS S (B 194 p)) := nSS_x
  have hb := nSS_hb (S := S) (k := B 194 p) F
  have C' := C.ext x
  obtain ⟨⟨n0, n6, n1⟩, c2, c3, c4, c5, c6, c7, c8, c9, c10⟩ := C'
  have c5' := C.2.2.2.2.1
  have f := @newvX_f S h w (B 194 p) p d
  have fh : ∀ q, isHb S q = true → ∀ j, newvX S h w (B 194 p) p d q j = h q j := fun q z j => by
    have := isHb_ge z
    exact f q j (by omega) (by omega)
  have e1 : newvX S h w (B 194 p) p d (w + 1) p = S.2 + 1 := by unfold newvX; rw [u2S]
  unfold XC
  rw [u2N (f := B) (by omega), u2N (f := B) (by omega), u2N (f := B) (by omega), u2N (f := B) (by omega)]
  refine ⟨⟨n0, n6, ?_⟩, ?_, ?_, fun q p0 p6 => ?_, fun q p0 p1 => ?_, fun q p0 p1 => ?_, fun q t p0 p1 t0 t1 => ?_, fun q t p0 p1 t0 t1 => ?_, fun t t0 t1 => ?_, fun t t0 t1 => ?_⟩
  · rw [f _ _ (by omega) (by omega)]; exact n1
  · rw [f _ _ (by omega) (by omega)]; exact c2
  · rw [f _ _ (by omega) (by omega)]; exact c3
  · rw [f (w + 2) q (by omega) (by omega)]
    by_cases e : q = p
    · subst e
      rw [e1]
      exact ⟨.inr (by rw [show (S.2 : Int) + 1 - 1 = S.2 by omega]; exact hb), (c4 q p0 p6).2⟩
    · rw [f _ _ (by omega) (by omega)]
      exact c4 q p0 p6
  · rw [u2N (f := B) (by omega)]
    by_cases e : q = p
    · subst e
      rw [e1, show (S.2 : Int) + 1 - 1 = S.2 by omega, u2S]
      refine ⟨hb, nSS_kind, ?_, ?_, ?_⟩
      · unfold newvX; simp (disch := omega) only [u2N, u2S]
      · unfold newvX; simp (disch := omega) only [u2N, u2S]
      · unfold newvX; simp (disch := omega) only [u2N, u2S]
    · obtain ⟨g1, -⟩ := c5' q p0 (by omega)
      obtain ⟨-, g2⟩ := c5 q p0 (by omega)
      rw [f (w + 1) q (by omega) (by omega), fh _ g1, fh _ g1, fh _ g1, u2N (f := B) (by omega)]
      exact ⟨isHb_ext x g1, g2⟩
  · rw [f _ _ (by omega) (by omega)]; exact c6 q p0 p1
  · rw [f _ _ (by omega) (by omega), u2N (f := B) (by omega)]; exact c7 q t p0 p1 t0 t1
  · rw [f _ _ (by omega) (by omega), u2N (f := B) (by omega)]; exact c8 q t p0 p1 t0 t1
  · rw [f _ _ (by omega) (by omega), u2N (f := B) (by omega)]; exact c9 t t0 t1
  · rw [f _ _ (by omega) (by omega), u2N (f := B) (by omega)]; exact c10 t t0 t1
theorem SXt.refl {S : SS} : SXt S S := ⟨Nat.le_refl _, fun _ _ _ => rfl⟩
theorem SXt.trans {S S' S'' : SS} (a : SXt S S') (b : SXt S' S'') : SXt S S'' := ⟨Nat.le_trans a.1 b.1, fun k j h => by
  have := a.1
  rw [b.2 k j (by omega), a.2 k j h]⟩
/-- only scratch others, and new cells -/
theorem XR.scrX {S S' : SS} {k h h' A : HH} {O : Int → List CL} (H : XR S k h A O) (x : SXt S S') (F : 243 ≤ S.2) (e : ∀ c j : Int, c < S.2 → ¬ (99 ≤ c ∧ c ≤ 147) → h' c j = h c j) : XR S' k h' A O := by
  have H1 : XR S k (fun c j => if 99 ≤ c ∧ c ≤ 147 then h' c j else h c j) A O := H.scr fun c j q => by
    show (if 99 ≤ c ∧ c ≤ 147 then h' c j else h c j) = h c j
    rw [if_neg (by omega)]
  refine H1.coreX x (fun c j q1 q2 => ?_) F (fun _ _ _ => rfl) ?_
  · show h' c j = (if 99 ≤ c ∧ c ≤ 147 then h' c j else h c j)
    by_cases z : 99 ≤ c ∧ c ≤ 147
    · rw [if_pos z]
    · rw [if_neg z]; exact e c j q1 z
  · exact (H.2.1.cg (fun c j q => by
      rcases q with q | q
      · exact e c j (by omega) (by omega)
      · have := isHb_ge q
        exact e c j (by omega) (by omega)) (fun _ _ _ => rfl)).ext x
theorem X_can_L {A : HH} {Y N p what : Int} (W : WO Y N A) (hY : Y ≤ 19000) (L : LOK A) (hp : 0 ≤ p ∧ p < A 193 0) {O : Int → List CL} (hO : OM A O) {S0 : SS} (F : Fx S0) (h0 : HH) (hX : OX h0 A O) (h7 : h0 1 7 = A 193 2) (xl : h0 20 1 = A 193 38 ∧ ∀ i, 0 ≤ i → i < A 193 38 → h0 (22 + i) 0 = A 216 i ∧ h0 (22 + i) 1 = A 217 i ∧ h0 (22 + i) 2 = A 218 i ∧ h0 (22 + i) 3 = A 219 i) (C0 : XC S0 h0 1 A) (hwhat : what = 0 ∨ what = 1) : ∀ (d n : Nat) (S : SS) (h B : HH) (c l : Int), d ≤ 10 → d < n → SXt S0 S → XC S h 99 B → (∀ a j, ¬ (a = 193 ∧ j = 2) → ¬ (a = 195 ∧ j = p) → B a j = A a j) → cntV A A O (A 193 2) p d c l = cntV A A O (A 193 2) p 10 0 (-5) → (∀ a j : Int, a < S0.2 → ¬ (99 ≤ a ∧ a ≤ 147) → h a j = h0 a j) → ∃ h' S', x_can_L43 p what n S h c l ((d : Int) - 1) = some (if what = 0 then (cntV A A O (A 193 2) p 10 0 (-5)).1 else (cntV A A O (A 193 2) p 10 0 (-5)).2, h', S') ∧ SXt S0 S' ∧ ∀ a j : Int, a < S0.2 → ¬ (99 ≤ a ∧ a ≤ 147) → h' a j = h0 a j := by
  have F0 := F.1
  intro d
  induction d with
  | zero =>
    intro n S h B c l hd hn x C hB hc f
    obtain ⟨n, rfl⟩ : ∃ m, n = m + 1 := ⟨n - 1, by omega⟩
    rw [x_can_L43, if_pos (by rw [wwP (by omega)]; omega), ← hc]
    refine ⟨h, S, ?_, x, f⟩
    rcases hwhat with rfl | rfl
    · rw [if_pos (by decide), if_pos rfl]; rfl
    · rw [if_neg (by decide), if_neg (by decide)]; rfl
  | succ d ih =>
    intro n S h B c l hd hn x C hB hc f
    obtain ⟨n, rfl⟩ : ∃ m, n = m + 1 := ⟨n - 1, by omega⟩
    have n0 := W.1
    have y0 := W.2.1
    have l0 := L.1
    have x1 := x.1
    have F1 : 243 ≤ S.2 := by omega
    rw [cntV] at hc
    have e0 : (((d + 1 : Nat) : Int) - 1) = (d : Int) := by omega
    have eN : B 193 0 = A 193 0 := hB _ _ (by omega) (by omega)
    have eK : B 194 p = A 194 p := hB _ _ (by omega) (by omega)
    obtain ⟨g1, g2, g3, g4, g5⟩ := C0.2.2.2.2.1 p hp.1 hp.2
    have e2p : h 2 p = h0 2 p := f _ _ (by omega) (by omega)
    have gg : 243 ≤ h0 2 p - 1 ∧ h0 2 p - 1 < S0.2 := isHb_ge g1
    have hb1 : isHb S (h 2 p - 1) = true := by rw [e2p]; exact isHb_ext x g1
    have ek : h (h 2 p - 1) 0 = A 194 p := by
      rw [e2p, f _ _ (by omega) (by omega)]
      exact g3
    have k6 := W.2.2.2.2.1 p hp.1 hp.2
    have C1 := C.newv (p := p) (d := (d : Int)) (by omega) F1 (by omega)
    rw [eK] at C1
    rw [e0, x_can_L43, if_neg (by rw [wwP (by omega)]; omega), wwP (z := p) (by omega), ckP (by omega), ckhP hb1, ek]
    have e4 : x_newHater S h (A 194 p) p (d : Int) = some ((S.2 : Int), u2 (u2 (u2 (nh h S.2) S.2 0 (A 194 p)) S.2 1 p) S.2 2 d, nSS S (A 194 p)) := by
      unfold x_newHater
      rw [wwP (by omega)]
      rfl
    rw [e4, Option.bind_some]
    show ∃ h' S', ckX S (nSS S (A 194 p)) (ckh (nSS S (A 194 p)) S.2 (ck p 6 ((x_isAsSeen (nSS S (A 194 p)) (newvX S h 99 (A 194 p) p d) p (-5)).bind _))) = _ ∧ _
    have f1 : ∀ a j : Int, a < S0.2 → ¬ (99 ≤ a ∧ a ≤ 147) → newvX S h 99 (A 194 p) p d a j = h0 a j := fun a j q1 q2 => by
      rw [newvX_f a j (by omega) (by omega)]; exact f a j q1 q2
    rw [ckX_ok nSS_x, ckhP (nSS_hb F1), ckP (by omega)]
    have hB1 : ∀ a j, ¬ (a = 193 ∧ j = 2) → u2 B 195 p d a j = u2 A 195 p d a j := fun a j z => by
      unfold u2
      by_cases q : a = 195 ∧ j = p
      · rw [if_pos q, if_pos q]
      · rw [if_neg q, if_neg q]; exact hB a j z q
    have hX1 : OX (newvX S h 99 (A 194 p) p d) (u2 A 195 p d) O := fun z => by
      rw [u2N (by omega)] at z ⊢
      exact (hX z).cg (fun a b _ _ => f1 a b (by have := hO.2.1; omega) (by omega))
    obtain ⟨h2, B2, e5, C2, hB2, f2⟩ := X_seen_L (S := nSS S (A 194 p)) (P := A) (A := u2 A 195 p d) (t := -5) (y := A 193 2) (v_WO W (by omega)) hY L.rows (by simp (disch := omega) only [u2S, u2N, u2T]) y0 (by simp (disch := omega) only [u2S, u2N, u2T]; exact hp) (.inl rfl) (v_OM hO) (newvX S h 99 (A 194 p) p d) hX1 (by rw [f1 _ _ (by omega) (by omega)]; exact h7) ⟨by rw [f1 _ _ (by omega) (by omega)]; exact xl.1, fun i i0 i1 => by
        rw [f1 _ _ (by omega) (by omega), f1 _ _ (by omega) (by omega), f1 _ _ (by omega) (by omega), f1 _ _ (by omega) (by omega)]
        exact xl.2 i i0 i1⟩ (A 193 38).toNat FU (newvX S h 99 (A 194 p) p d) (u2 B 195 p d) 0 (by omega) (by omega) (by unfold FU; omega) C1 hB1 (fun _ _ _ => rfl)
    rw [seen_neg (t := -5) (u := -1) (by omega) (by omega)] at e5
    have e6 : x_isAsSeen (nSS S (A 194 p)) (newvX S h 99 (A 194 p) p d) p (-5) = some (seenN A (u2 A 195 p d) O (A 193 2) p (-1) (A 193 38).toNat 0, h2) := e5
    have hB3 : ∀ a j, ¬ (a = 193 ∧ j = 2) → ¬ (a = 195 ∧ j = p) → B2 a j = A a j := fun a j z q => by rw [hB2 a j z, u2N (by omega)]
    have f3 : ∀ a j : Int, a < S0.2 → ¬ (99 ≤ a ∧ a ≤ 147) → h2 a j = h0 a j := fun a j q1 q2 => by rw [f2 a j q2]; exact f1 a j q1 q2
    rw [e6, Option.bind_some]
    have e9 : (d : Int) + -1 = (d : Int) - 1 := by omega
    rcases seen_01 (P := A) (A := u2 A 195 p d) (O := O) (y := A 193 2) (p := p) (t := -1) (A 193 38).toNat 0 with b | b
    · rw [if_pos b] at hc
      rw [b]
      show ∃ h' S', (if ww 0 = 0 then x_can_L43 p what n (nSS S (A 194 p)) h2 c l ((d : Int) + -1) else _) = _ ∧ _
      rw [if_pos (by decide), e9]
      exact ih n _ h2 B2 c l (by omega) (by omega) (x.trans nSS_x) C2 hB3 hc f3
    · rw [if_neg (by omega)] at hc
      rw [b]
      show ∃ h' S', (if ww 1 = 0 then _ else x_can_L43 p what n (nSS S (A 194 p)) h2 (c + 1) d ((d : Int) + -1)) = _ ∧ _
      rw [if_neg (by decide), e9]
      exact ih n _ h2 B2 (c + 1) d (by omega) (by omega) (x.trans nSS_x) C2 hB3 hc f3
theorem st_can {S : SS} {h : HH} {a b : Int} (F : Fx S) (I : Inv h S) (ha : -2147483648 ≤ a ∧ a ≤ 2147483647) (hb : -2147483648 ≤ b ∧ b ≤ 2147483647) : ∃ r, ((x_can S h a b).bind fun q1 => ckX S q1.2.2 <| (m_can q1.2.1 a b).bind fun q3 => if ww q1.1 = ww q3.1 then some (q3.2, q1.2.2) else none) = some r ∧ Fx r.2 ∧ Inv r.1 r.2 := by
  obtain ⟨A, O, hA, hX, hM⟩ := I
  have W := hA.2.2.1
  have L := hA.2.2.2.1
  have n0 := W.1
  have C := hX.2.1
  have n1 : h 1 4 = A 193 0 := C.1.2.2
  have hO := hX.OM W
  have key : ∀ v, x_can S h a b = some (v, h, S) → (∀ k g, MR k g A → m_can g a b = some (v, g)) → ∃ r, ((x_can S h a b).bind fun q1 => ckX S q1.2.2 <| (m_can q1.2.1 a b).bind fun q3 => if ww q1.1 = ww q3.1 then some (q3.2, q1.2.2) else none) = some r ∧ Fx r.2 ∧ Inv r.1 r.2 := fun v e1 e2 => by
    rw [e1, Option.bind_some]
    show ∃ r, ckX S S _ = some r ∧ _
    rw [ckX_ok SXt.refl]
    exact glueW (m := fun g => m_can g a b) (a := v) (b := v) F hA hX hM (fun k g H => ⟨g, e2 k g H, H⟩) rfl
  by_cases c1 : 0 ≤ a ∧ a < A 193 0
  · by_cases c3 : b = 0 ∨ b = 1
    · obtain ⟨h1, e1, C1, f1⟩ := X_goFrom (S := S) (h := h) (a := 99) (b := 1) (.inl ⟨rfl, rfl⟩) C
      obtain ⟨h2, S2, e2, x2, f2⟩ := X_can_L (what := b) (W.wo (by omega)) (by omega) L c1 hO F h (hX.OX W) C.2.1 ⟨hX.2.2.1.1.2, hX.2.2.1.2.2.2.1⟩ C c3 10 FU S h1 A 0 (-5) (by decide) (by decide) SXt.refl C1 (fun _ _ _ _ => rfl) rfl (fun i j _ q => f1 i j (by omega))
      have e3 : x_can S h a b = some (if b = 0 then (cntV A A O (A 193 2) a 10 0 (-5)).1 else (cntV A A O (A 193 2) a 10 0 (-5)).2, h2, S2) := by
        unfold x_can
        rw [if_neg (by rw [ww_hasT (by omega)]; decide)]
        rcases c3 with rfl | rfl
        · rw [if_pos (by decide), e1, Option.bind_some]; exact e2
        · rw [if_neg (by decide), if_pos (by decide), e1, Option.bind_some]; exact e2
      rw [e3, Option.bind_some]
      show ∃ r, ckX S S2 _ = some r ∧ _
      rw [ckX_ok x2]
      refine glueW (S' := S2) (m := fun g => m_can g a b) (a := if b = 0 then (cntV A A O (A 193 2) a 10 0 (-5)).1 else (cntV A A O (A 193 2) a 10 0 (-5)).2) (b := if b = 0 then (cntV A A O (A 193 2) a 10 0 (-5)).1 else (cntV A A O (A 193 2) a 10 0 (-5)).2) (Fx_x x2 F) hA (hX.scrX x2 F.1 (fun i j q1 q2 => f2 i j q1 q2)) hM (fun k g H => ?_) rfl
      show ∃ h', m_can g a b = _ ∧ _
      unfold m_can m_isHater
      rw [if_neg (by rw [H.s0, m_in0 (by omega)]; decide), if_neg (by rw [m_in0 (by omega)]; decide), wwP (by omega), ckP (by omega), H.r195]
      exact M_can_L (k := k) (what := b) (sv := A 195 a) (W.wo (by omega)) (by omega) L c1 rfl c3 hO 10 FU g 0 (-5) (A 195 a) (by decide) (by decide) (H.eq fun i j _ => by
        unfold u2
        by_cases z : i = 195 ∧ j = a
        · rw [if_pos z, z.1, z.2]
        · rw [if_neg z]) rfl
    · refine key (-1) ?_ (fun k g H => ?_)
      · unfold x_can; simp (disch := omega) only [reduceIte, ltT, ltF, eqT, eqF, leT, leF, wwP, ckP, ckzP, ckbP, u2S, u2N, u2T, ↓Option.bind_some, inB_T, inB_F, Bool.false_eq_true, m_in0, m_in1, ww_hasT]
      · unfold m_can m_isHater; simp (disch := omega) only [reduceIte, ltT, ltF, eqT, eqF, leT, leF, wwP, ckP, ckzP, ckbP, u2S, u2N, u2T, ↓Option.bind_some, inB_T, inB_F, Bool.false_eq_true, m_in0, m_in1, H.s0]
  · refine key (-1) ?_ (fun k g H => ?_)
    · unfold x_can; simp (disch := omega) only [reduceIte, ltT, ltF, eqT, eqF, leT, leF, wwP, ckP, ckzP, ckbP, u2S, u2N, u2T, ↓Option.bind_some, inB_T, inB_F, Bool.false_eq_true, m_in0, m_in1, ww_hasF]
    · unfold m_can m_isHater; simp (disch := omega) only [reduceIte, ltT, ltF, eqT, eqF, leT, leF, wwP, ckP, ckzP, ckbP, u2S, u2N, u2T, ↓Option.bind_some, inB_T, inB_F, Bool.false_eq_true, m_in0, m_in1, H.s0]
