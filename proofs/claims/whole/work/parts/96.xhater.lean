theorem nhN {h : HH} {N : Nat} {a b : Int} (q : a ≠ N) : nh h N a b = h a b := by unfold nh; rw [if_neg q]
theorem XT.ext {S S' : SS} {h A : HH} (x : SXt S S') (H : XT S h A) : XT S' h A := by
  obtain ⟨h1, h2, h3, h4, h5, h6, hz, h7⟩ := H
  refine ⟨h1, h2, h3, h4, h5, h6, hz, ?_⟩
  rcases h7 with h7 | ⟨g1, g2, g3, g4, g5, g6, g7⟩
  · exact .inl h7
  · have x1 := x.1
    refine .inr ⟨g1, g2, by omega, ?_, ?_, ?_, g7⟩
    · rw [x.2 _ _ g3]; exact g4
    · rw [x.2 _ _ g3]; exact g5
    · rw [x.2 _ _ g3]; exact g6
/-- the present world's core another, and new cells -/
theorem XR.coreX {S S' : SS} {k h h' A A' : HH} {O : Int → List CL} (H : XR S k h A O) (x : SXt S S') (e : ∀ c j : Int, c < S.2 → ¬ (1 ≤ c ∧ c ≤ 19) → h' c j = h c j) (F : 243 ≤ S.2) (a : ∀ c j, ¬ coreC c j → A' c j = A c j) (C : XC S' h' 1 A') : XR S' k h' A' O := by
  obtain ⟨h1, h2, h3, h4, h5, h6, h7, h8, h9, h10⟩ := H
  have i1 : ∀ c j, imgC c j → A' c j = A c j := fun c j q => a c j (by unfold coreC; unfold imgC at q; omega)
  have h4' : XT S h' A' := by
    obtain ⟨t1, t2, t3, t4, t5, t6, tz, t7⟩ := h4
    have A1 := a 193 11 (by unfold coreC; omega)
    have A2 := a 193 71 (by unfold coreC; omega)
    have f : ∀ c, 200 ≤ c → ∀ j, A' c j = A c j := fun c p j => a c j (by unfold coreC; omega)
    unfold XT
    have f1 := f 200 (by omega)
    have f2 := f 238 (by omega)
    have f3 := f 239 (by omega)
    have f4 := f 240 (by omega)
    have f5 := f 241 (by omega)
    simp only [f1, f2, f3, f4, f5]
    rw [A1, A2, e 148 1 (by omega) (by omega), e 151 2 (by omega) (by omega), e 151 1 (by omega) (by omega)]
    refine ⟨t1, t2, fun i p q => by rw [e 149 i (by omega) (by omega)]; exact t3 i p q, fun t p q => ?_, t5, t6, fun j p q => by rw [e 165 j (by omega) (by omega)]; exact tz j p q, ?_⟩
    · rw [e 166 t (by omega) (by omega), e 167 t (by omega) (by omega)]
      obtain ⟨g1, g2, g3, g4, g5, g6⟩ := t4 t p q
      exact ⟨g1, g2, g3, g4, g5, fun i x y => by rw [e (169 + t) i (by omega) (by omega)]; exact g6 i x y⟩
    · rcases t7 with t7 | ⟨g1, g2, g3, g4, g5, g6, g7⟩
      · exact .inl t7
      · exact .inr ⟨g1, g2, g3, g4, g5, g6, fun i x y => by rw [e _ i g3 (by omega)]; exact g7 i x y⟩
  refine ⟨fun c j p q => by rw [e c j (by omega) (by omega)]; exact h1 c j p q, C, h3.cg (fun c j q => e c j (by omega) (by omega)) (fun c j q => a c j (by unfold coreC; unfold listC at q; omega)), h4'.ext x, ?_, ?_, ?_, ?_, ?_, ?_⟩
  · rw [e 0 3 (by omega) (by omega), a 193 49 (by unfold coreC; omega)]; exact h5
  · rw [a 193 49 (by unfold coreC; omega)]; exact h6
  · rw [a 193 49 (by unfold coreC; omega)]
    exact fun z => ⟨((h7 z).1.cg (fun c j q => by rcases q with q | q; exact e c j (by omega) (by omega); have := isHb_ge q; exact e c j (by omega) (by omega)) (imA.cC i1)).ext x, (h7 z).2.cg (fun c j q => e c j (by omega) (by omega)) (imA.cL i1)⟩
  · rw [e 0 6 (by omega) (by omega), a 193 9 (by unfold coreC; omega)]; exact h8
  · rw [a 193 9 (by unfold coreC; omega)]; exact h9
  · rw [a 193 9 (by unfold coreC; omega)]
    exact fun f p q => ⟨(h10 f p q).1.cg (fun c j _ _ => e c j (by omega) (by omega)), (h10 f p q).2.cg (fun c j z => a c j (by unfold coreC; unfold orchC at z; omega))⟩
theorem haterA_s {A : HH} {a b c j : Int} (q : j ≠ 0 ∧ j ≠ 1) : haterA A a b c 193 j = A 193 j := by
  unfold haterA
  simp (disch := omega) only [u2N, filN]
theorem haterA_0 {A : HH} {a b c : Int} : haterA A a b c 193 0 = A 193 0 + 1 := by unfold haterA; rw [u2S]
theorem haterA_1 {A : HH} {a b c : Int} : haterA A a b c 193 1 = zand (A 193 1) (zxor (zshl 1 (A 193 0)) (-1)) := by
  unfold haterA
  simp (disch := omega) only [u2N, filN, u2S]
theorem haterA_k {A : HH} {a b c p : Int} (q : p ≠ A 193 0) : haterA A a b c 194 p = A 194 p ∧ haterA A a b c 195 p = A 195 p := by
  unfold haterA
  simp (disch := omega) only [u2N, filN, and_self]
theorem haterA_kn {A : HH} {a b c : Int} : haterA A a b c 194 (A 193 0) = a ∧ haterA A a b c 195 (A 193 0) = b := by
  unfold haterA
  simp (disch := omega) only [u2N, filN, u2S, and_self]
theorem haterA_h {A : HH} {a b c j : Int} (q : j < 5 * A 193 0) : haterA A a b c 196 j = A 196 j := by
  unfold haterA
  simp (disch := omega) only [u2N, filN]
theorem haterA_hn {A : HH} {a b c j : Int} (q : 5 * A 193 0 ≤ j ∧ j < 5 * A 193 0 + 5) : haterA A a b c 196 j = c := by
  unfold haterA
  simp (disch := omega) only [u2N, filN, filT]
theorem haterA_r {A : HH} {a b c j : Int} (q : j < 4 * A 193 0) : haterA A a b c 197 j = A 197 j := by
  unfold haterA
  simp (disch := omega) only [u2N, filN]
theorem haterA_rn {A : HH} {a b c j : Int} (q : 4 * A 193 0 ≤ j ∧ j < 4 * A 193 0 + 4) : haterA A a b c 197 j = 0 := by
  unfold haterA
  simp (disch := omega) only [u2N, filN, filT]
theorem haterA_b {A : HH} {a b c j : Int} : haterA A a b c 198 j = A 198 j ∧ haterA A a b c 199 j = A 199 j := by
  unfold haterA
  simp (disch := omega) only [u2N, filN, and_self]
theorem haterA_x {A : HH} {a b c d j : Int} (q : ¬ coreC d j) : haterA A a b c d j = A d j := by
  unfold coreC at q
  unfold haterA
  simp (disch := omega) only [u2N, filN]
/-- the class's memory after a new hater -/
def haterX (S : SS) (h : HH) (n a b c : Int) : HH := u2 (flA (flA (u2 (u2 (u2 (u2 (u2 (nh h S.2) S.2 0 a) S.2 1 n) S.2 2 b) 2 n (S.2 + 1)) 3 n 0) (5 + n) 5 c) (12 + n) 4 0) 1 4 (n + 1)
theorem haterX_e {S : SS} {h : HH} {n a b c : Int} (F : 243 ≤ S.2) (hn : 0 ≤ n ∧ n < 6) : x_newHater S h a n b = some ((S.2 : Int), u2 (u2 (u2 (nh h S.2) S.2 0 a) S.2 1 n) S.2 2 b, nSS S (ww a)) ∧ (h 1 4 = n → xw_welcome (nSS S (ww a)) (u2 (u2 (u2 (nh h S.2) S.2 0 a) S.2 1 n) S.2 2 b) 1 S.2 c = some (n, haterX S h n a b c)) := by
  refine ⟨rfl, fun e => ?_⟩
  have e1 : u2 (u2 (u2 (nh h S.2) S.2 0 a) S.2 1 n) S.2 2 b 1 4 = n := by
    simp (disch := omega) only [u2N, nhN, e]
  unfold xw_welcome haterX
  rw [e1, wwP (by omega), ckP (by omega), ckP (by omega), ckP (by omega), ckP (by omega)]
  have e2 : (flA (flA (u2 (u2 (u2 (u2 (u2 (nh h S.2) S.2 0 a) S.2 1 n) S.2 2 b) (1 + 1) n (S.2 + 1)) (1 + 2) n 0) (1 + 4 + n) 5 c) (1 + 11 + n) 4 0) 1 4 = n := by
    simp (disch := omega) only [u2N, flAN, nhN, e]
  rw [e2, show (1 : Int) + 4 + n = 5 + n by omega, show (1 : Int) + 11 + n = 12 + n by omega]
  rfl
theorem haterX_f {S : SS} {h : HH} {n a b c : Int} (F : 243 ≤ S.2) (hn : 0 ≤ n ∧ n < 6) (i j : Int) (hi : i < S.2) (hi2 : ¬ (1 ≤ i ∧ i ≤ 19)) : haterX S h n a b c i j = h i j := by
  unfold haterX
  simp (disch := omega) only [u2N, flAN, nhN]
theorem haterX_C {S : SS} {h A : HH} {a b c : Int} (F : 243 ≤ S.2) (C : XC S h 1 A) (hG : 0 ≤ A 193 1 ∧ A 193 1 < 64) (hn : A 193 0 < 6) (ha : 0 ≤ a ∧ a < 7) : XC (nSS S a) (haterX S h (A 193 0) a b c) 1 (haterA A a b c) := by
  have x : SXt S (nSS S a) := nSS_x
  have hb := nSS_hb (S := S) (k := a) F
  have C' := C.ext x
  obtain ⟨⟨n0, n6, n1⟩, c2, c3, c4, c5, c6, c7, c8, c9, c10⟩ := C'
  have c5' := C.2.2.2.2.1
  have f := @haterX_f S h (A 193 0) a b c F ⟨n0, hn⟩
  have fh : ∀ q, isHb S q = true → ∀ j, haterX S h (A 193 0) a b c q j = h q j := fun q z j => by
    have := isHb_ge z
    exact f q j (by omega) (by omega)
  unfold XC
  rw [haterA_0, haterA_1, haterA_s (j := 2) (by omega), haterA_s (j := 10) (by omega)]
  refine ⟨⟨by omega, by omega, ?_⟩, ?_, ?_, fun p p0 p6 => ?_, fun p p0 p1 => ?_, fun p p0 p1 => ?_, fun p t p0 p1 t0 t1 => ?_, fun p t p0 p1 t0 t1 => ?_, fun t t0 t1 => ?_, fun t t0 t1 => ?_⟩
  · unfold haterX; rw [u2S]
  · unfold haterX; simp (disch := omega) only [u2N, flAN, nhN]; exact c2
  · unfold haterX; simp (disch := omega) only [u2N, flAN, nhN]; exact c3
  · by_cases e : p = A 193 0
    · subst e
      unfold haterX
      simp (disch := omega) only [u2N, flAN, nhN, u2S, u2T]
      exact ⟨.inr (by rw [show (S.2 : Int) + 1 - 1 = S.2 by omega]; exact hb), .inl trivial⟩
    · unfold haterX
      simp (disch := omega) only [u2N, flAN, nhN]
      exact c4 p p0 p6
  · by_cases e : p = A 193 0
    · subst e
      have e1 : haterX S h (A 193 0) a b c (1 + 1) (A 193 0) = S.2 + 1 := by
        unfold haterX
        simp (disch := omega) only [u2N, flAN, nhN, u2S, u2T]
      rw [e1, show (S.2 : Int) + 1 - 1 = S.2 by omega, haterA_kn.1, haterA_kn.2]
      refine ⟨hb, nSS_kind, ?_, ?_, ?_⟩
      · unfold haterX; simp (disch := omega) only [u2N, flAN, u2S]
      · unfold haterX; simp (disch := omega) only [u2N, flAN, u2S]
      · unfold haterX; simp (disch := omega) only [u2N, flAN, u2S]
    · have e1 : haterX S h (A 193 0) a b c (1 + 1) p = h (1 + 1) p := by
        unfold haterX
        simp (disch := omega) only [u2N, flAN, nhN]
      obtain ⟨g1, -⟩ := c5' p p0 (by omega)
      obtain ⟨-, g2⟩ := c5 p p0 (by omega)
      rw [e1, (haterA_k e).1, (haterA_k e).2, fh _ g1, fh _ g1, fh _ g1]
      exact ⟨isHb_ext x g1, g2⟩
  · rw [has_clr hG ⟨n0, hn⟩ (by omega)]
    by_cases e : p = A 193 0
    · subst e
      rw [if_pos rfl]
      unfold haterX
      simp (disch := omega) only [u2N, flAN, nhN, u2S, u2T]
    · rw [if_neg e]
      unfold haterX
      simp (disch := omega) only [u2N, flAN, nhN]
      exact c6 p p0 (by omega)
  · by_cases e : p = A 193 0
    · subst e
      rw [haterA_hn (by omega)]
      unfold haterX
      simp (disch := omega) only [u2N, flAN, flAT]
    · rw [haterA_h (by omega)]
      unfold haterX
      simp (disch := omega) only [u2N, flAN, nhN]
      exact c7 p t p0 (by omega) t0 t1
  · by_cases e : p = A 193 0
    · subst e
      rw [haterA_rn (by omega)]
      unfold haterX
      simp (disch := omega) only [u2N, flAT]
    · rw [haterA_r (by omega)]
      unfold haterX
      simp (disch := omega) only [u2N, flAN, nhN]
      exact c8 p t p0 (by omega) t0 t1
  · rw [haterA_b.1]
    unfold haterX
    simp (disch := omega) only [u2N, flAN, nhN]
    exact c9 t t0 t1
  · rw [haterA_b.2]
    unfold haterX
    simp (disch := omega) only [u2N, flAN, nhN]
    exact c10 t t0 t1
theorem A_hater {A : HH} (H : AOK A) {a b c : Int} (ha : 0 ≤ a ∧ a < 7) (hb : 0 ≤ b ∧ b < 10) (hc : 0 ≤ c ∧ c < 100) (hn : A 193 0 < 6) : AOK (haterA A a b c) := by
  obtain ⟨w1, w2, w3, w4, w5, w6, w7, w8, w9, w10, w11⟩ := H.2.2.1
  refine H.core (fun i j q => haterA_x q) (by rw [haterA_0]; omega) ?_
  unfold WOK
  rw [haterA_0, haterA_1, haterA_s (j := 2) (by omega), haterA_s (j := 10) (by omega)]
  refine ⟨by omega, w2, clr_b w3 (by omega), w4, fun p p0 p1 => ?_, fun p p0 p1 => ?_, fun p t p0 p1 t0 t1 => ?_, fun p t p0 p1 t0 t1 => ?_, fun t t0 t1 => ?_, fun t t0 t1 => ?_, fun t u a1 a2 a3 a4 a5 a6 => ?_⟩
  · by_cases e : p = A 193 0
    · subst e; rw [haterA_kn.1]; omega
    · rw [(haterA_k e).1]; exact w5 p p0 (by omega)
  · by_cases e : p = A 193 0
    · subst e; rw [haterA_kn.2]; omega
    · rw [(haterA_k e).2]; exact w6 p p0 (by omega)
  · by_cases e : p = A 193 0
    · subst e; rw [haterA_hn (by omega)]; omega
    · rw [haterA_h (by omega)]; exact w7 p t p0 (by omega) t0 t1
  · by_cases e : p = A 193 0
    · subst e; rw [haterA_rn (by omega)]; omega
    · rw [haterA_r (by omega)]; exact w8 p t p0 (by omega) t0 t1
  · rw [haterA_b.1]; exact w9 t t0 t1
  · rw [haterA_b.2]
    have := w10 t t0 t1
    omega
  · rw [haterA_b.2] at a6 ⊢
    rw [haterA_b.2] at a6
    exact w11 t u a1 a2 a3 a4 a5 a6
theorem st_hater {S : SS} {h : HH} {a b c : Int} (F : Fx S) (I : Inv h S) (ha : -2147483648 ≤ a ∧ a ≤ 2147483647) (hb : -2147483648 ≤ b ∧ b ≤ 2147483647) (hc : -2147483648 ≤ c ∧ c ≤ 2147483647) : ∃ r, ((x_hater S h a b c).bind fun q1 => ckX S q1.2.2 <| (m_hater q1.2.1 a b c).bind fun q3 => if ww q1.1 = ww q3.1 then some (q3.2, q1.2.2) else none) = some r ∧ Fx r.2 ∧ Inv r.1 r.2 := by
  obtain ⟨A, O, hA, hX, hM⟩ := I
  have W := hA.2.2.1
  have n0 := W.1
  have C := hX.2.1
  have n1 : h 1 4 = A 193 0 := C.1.2.2
  have key : ∀ v, x_hater S h a b c = some (v, h, S) → sHater A a b c = (v, A) → ∃ r, ((x_hater S h a b c).bind fun q1 => ckX S q1.2.2 <| (m_hater q1.2.1 a b c).bind fun q3 => if ww q1.1 = ww q3.1 then some (q3.2, q1.2.2) else none) = some r ∧ Fx r.2 ∧ Inv r.1 r.2 := fun v e1 e2 => by
    rw [e1, Option.bind_some]
    show ∃ r, ckX S S _ = some r ∧ _
    rw [ckX_ok ⟨Nat.le_refl _, fun _ _ _ => rfl⟩]
    refine glueW (m := fun g => m_hater g a b c) (a := v) (b := v) F hA hX hM (fun k g H => ?_) rfl
    have := M_hater H n0 ha hb hc
    rw [e2] at this
    exact this
  by_cases c1 : 0 ≤ a ∧ a < 7
  · by_cases c2 : 0 ≤ b ∧ b < 10
    · by_cases c3 : 0 ≤ c ∧ c < 100
      · by_cases c4 : A 193 0 = 6
        · refine key (-4) ?_ ?_
          · unfold x_hater; simp (disch := omega) only [reduceIte, ltT, ltF, eqT, eqF, leT, leF, wwP, ckP, ckzP, ckbP, u2S, u2N, u2T, ↓Option.bind_some, inB_T, inB_F, Bool.false_eq_true, m_in0, m_in1, ww_hateT]
          · unfold sHater; simp (disch := omega) only [reduceIte, ltT, ltF, eqT, eqF, leT, leF, wwP, ckP, ckzP, ckbP, u2S, u2N, u2T, ↓Option.bind_some, inB_T, inB_F, Bool.false_eq_true, m_in0, m_in1]
        · have e1 : x_hater S h a b c = some (A 193 0, haterX S h (A 193 0) a b c, nSS S a) := by
            have q := haterX_e (S := S) (h := h) (n := A 193 0) (a := a) (b := b) (c := c) F.1 (by omega)
            unfold x_hater
            rw [if_neg (by rw [wwP ha]; omega), if_pos (by rw [wwP ha]; omega), if_neg (by rw [wwP hb]; omega), if_neg (by rw [wwP hb]; omega), if_neg (by rw [ww_hateT (by omega)]; decide), if_pos (by rw [n1, wwP (by omega)]; omega), n1, q.1, Option.bind_some]
            show ckX S (nSS S (ww a)) (ckh (nSS S (ww a)) S.2 ((xw_welcome (nSS S (ww a)) _ 1 S.2 c).bind _)) = _
            rw [ckX_ok nSS_x, ckhP (nSS_hb F.1), q.2 n1, wwP ha]
            rfl
          rw [e1, Option.bind_some]
          show ∃ r, ckX S (nSS S a) _ = some r ∧ _
          rw [ckX_ok nSS_x]
          refine glueW (S' := nSS S a) (m := fun g => m_hater g a b c) (a := A 193 0) (b := A 193 0) (Fx_x nSS_x F) (A_hater hA c1 c2 c3 (by omega)) (hX.coreX nSS_x (fun i j q1 q2 => haterX_f F.1 (by omega) i j q1 q2) F.1 (fun i j q => haterA_x q) (haterX_C F.1 C W.2.2.1 (by omega) c1)) hM (fun k g H => ?_) rfl
          have := M_hater H n0 ha hb hc
          have e2 : sHater A a b c = (A 193 0, haterA A a b c) := by unfold sHater; simp (disch := omega) only [reduceIte, ltT, ltF, eqT, eqF, leT, leF, wwP, ckP, ckzP, ckbP, u2S, u2N, u2T, ↓Option.bind_some, inB_T, inB_F, Bool.false_eq_true, m_in0, m_in1]
          rw [e2] at this
          exact this
      · refine key (-2) ?_ ?_
        · unfold x_hater; simp (disch := omega) only [reduceIte, ltT, ltF, eqT, eqF, leT, leF, wwP, ckP, ckzP, ckbP, u2S, u2N, u2T, ↓Option.bind_some, inB_T, inB_F, Bool.false_eq_true, m_in0, m_in1, ww_hateF]
        · unfold sHater; simp (disch := omega) only [reduceIte, ltT, ltF, eqT, eqF, leT, leF, wwP, ckP, ckzP, ckbP, u2S, u2N, u2T, ↓Option.bind_some, inB_T, inB_F, Bool.false_eq_true, m_in0, m_in1]
    · refine key (-2) ?_ ?_
      · by_cases c5 : b < 0
        · unfold x_hater; simp (disch := omega) only [reduceIte, ltT, ltF, eqT, eqF, leT, leF, wwP, ckP, ckzP, ckbP, u2S, u2N, u2T, ↓Option.bind_some, inB_T, inB_F, Bool.false_eq_true, m_in0, m_in1]
        · unfold x_hater; simp (disch := omega) only [reduceIte, ltT, ltF, eqT, eqF, leT, leF, wwP, ckP, ckzP, ckbP, u2S, u2N, u2T, ↓Option.bind_some, inB_T, inB_F, Bool.false_eq_true, m_in0, m_in1]
      · unfold sHater; simp (disch := omega) only [reduceIte, ltT, ltF, eqT, eqF, leT, leF, wwP, ckP, ckzP, ckbP, u2S, u2N, u2T, ↓Option.bind_some, inB_T, inB_F, Bool.false_eq_true, m_in0, m_in1]
  · refine key (-1) ?_ ?_
    · by_cases c5 : a < 0
      · unfold x_hater; simp (disch := omega) only [reduceIte, ltT, ltF, eqT, eqF, leT, leF, wwP, ckP, ckzP, ckbP, u2S, u2N, u2T, ↓Option.bind_some, inB_T, inB_F, Bool.false_eq_true, m_in0, m_in1]
      · unfold x_hater; simp (disch := omega) only [reduceIte, ltT, ltF, eqT, eqF, leT, leF, wwP, ckP, ckzP, ckbP, u2S, u2N, u2T, ↓Option.bind_some, inB_T, inB_F, Bool.false_eq_true, m_in0, m_in1]
    · unfold sHater; simp (disch := omega) only [reduceIte, ltT, ltF, eqT, eqF, leT, leF, wwP, ckP, ckzP, ckbP, u2S, u2N, u2T, ↓Option.bind_some, inB_T, inB_F, Bool.false_eq_true, m_in0, m_in1]
