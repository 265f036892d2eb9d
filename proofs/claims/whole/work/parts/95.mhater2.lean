def sHater (A : HH) (a b c : Int) : Int × HH := if inB a 0 7 then (if inB b 0 10 then (if inB c 0 100 then (if A 193 0 = 6 then (-4, A) else (A 193 0, haterA A a b c)) else (-2, A)) else (-2, A)) else (-1, A)
theorem M_hater {k h A : HH} (H : MR k h A) (n0 : 0 ≤ A 193 0 ∧ A 193 0 ≤ 6) {a b c : Int} (ha : -2147483648 ≤ a ∧ a ≤ 2147483647) (hb : -2147483648 ≤ b ∧ b ≤ 2147483647) (hc : -2147483648 ≤ c ∧ c ≤ 2147483647) : ∃ h', m_hater h a b c = some ((sHater A a b c).1, h') ∧ MR k h' (sHater A a b c).2 := by
  unfold sHater m_hater m_isHate
  by_cases c1 : 0 ≤ a ∧ a < 7
  · by_cases c2 : 0 ≤ b ∧ b < 10
    · by_cases c3 : 0 ≤ c ∧ c < 100
      · by_cases c4 : A 193 0 = 6
        · simp (disch := omega) only [reduceIte, ltT, ltF, eqT, eqF, leT, leF, wwP, ckP, ckzP, ckbP, u2S, u2N, u2T, ↓Option.bind_some, inB_T, inB_F, Bool.false_eq_true, m_in0, m_in1, H.s0]
          exact ⟨_, rfl, H⟩
        · have H1 := ((H.w (c := 194) (j := A 193 0) (v := a) (by omega)).w (c := 195) (j := A 193 0) (v := b) (by omega)).w (c := 193) (j := 1) (v := zand (A 193 1) (zxor (zshl 1 (A 193 0)) (-1))) (by omega)
          simp (disch := omega) only [reduceIte, ltT, ltF, eqT, eqF, leT, leF, wwP, ckP, ckzP, ckbP, u2S, u2N, u2T, ↓Option.bind_some, inB_T, inB_F, Bool.false_eq_true, m_in0, m_in1, H.s0, H.s1]
          generalize hA1 : u2 (u2 (u2 A 194 (A 193 0) a) 195 (A 193 0) b) 193 1 (zand (A 193 1) (zxor (zshl 1 (A 193 0)) (-1))) = A1 at H1
          have e0 : A1 193 0 = A 193 0 := by rw [← hA1]; simp (disch := omega) only [u2S, u2N, u2T]
          obtain ⟨q, e, h', rfl, H'⟩ := M_h87 (k := k) (A := A1) (v := c) (by omega) (fun h1 => m_hater_L117 FU h1 0) (fun q => ∃ h', q = (A 193 0, h') ∧ MR k h' (haterA A a b c)) (fun h2 H2 => by
            have e1 : fil A1 196 (5 * A1 193 0) 5 c 193 0 = A 193 0 := by rw [filN (by omega), e0]
            obtain ⟨h3, e3, H3⟩ := M_h117 (k := k) (A := fil A1 196 (5 * A1 193 0) 5 c) (by omega) 4 FU h2 0 rfl (by omega) (by decide) (H2.eq fun i j _ => filN (by omega))
            rw [e1] at e3 H3
            refine ⟨_, e3, h3, rfl, ?_⟩
            unfold haterA
            rw [hA1]
            rw [e0] at H3
            exact H3) 5 FU _ 0 rfl (by omega) (by decide) (H1.eq fun i j _ => filN (by omega))
          exact ⟨h', e, H'⟩
      · simp (disch := omega) only [reduceIte, ltT, ltF, eqT, eqF, leT, leF, wwP, ckP, ckzP, ckbP, u2S, u2N, u2T, ↓Option.bind_some, inB_T, inB_F, Bool.false_eq_true, m_in0, m_in1, H.s0]
        exact ⟨_, rfl, H⟩
    · simp (disch := omega) only [reduceIte, ltT, ltF, eqT, eqF, leT, leF, wwP, ckP, ckzP, ckbP, u2S, u2N, u2T, ↓Option.bind_some, inB_T, inB_F, Bool.false_eq_true, m_in0, m_in1, H.s0]
      exact ⟨_, rfl, H⟩
  · simp (disch := omega) only [reduceIte, ltT, ltF, eqT, eqF, leT, leF, wwP, ckP, ckzP, ckbP, u2S, u2N, u2T, ↓Option.bind_some, inB_T, inB_F, Bool.false_eq_true, m_in0, m_in1, H.s0]
    exact ⟨_, rfl, H⟩
