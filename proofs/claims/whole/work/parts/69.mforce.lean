set_option maxHeartbeats 4000000 in
theorem M_force {k h A : HH} {Y N p t : Int} (H : MR k h A) (W : WO Y N A) (hY : Y ≤ 20000) (hp : 0 ≤ p ∧ p < A 193 0) (ht : 0 ≤ t ∧ t < 5) {O : Int → List CL} (hO : OM A O) : ∃ h', m_force h p t = some (forceA A O p t, h') ∧ MR k h' A := by
  obtain ⟨h1, e1, H1⟩ := M_sum H W hY hp ht hO
  have sb := sum_b hO W hp ht
  have n0 := W.1
  have y0 := W.2.1
  have k0 := W.2.2.2.2.1 p hp.1 hp.2
  have v0 := W.2.2.2.2.2.1 p hp.1 hp.2
  have hh := W.2.2.2.2.2.2.1 p t hp.1 hp.2 ht.1 ht.2
  refine ⟨h1, ?_, H1⟩
  unfold m_force forceA
  rw [e1]
  have k6 : A 194 p = 0 ∨ A 194 p = 1 ∨ A 194 p = 2 ∨ A 194 p = 3 ∨ A 194 p = 4 ∨ A 194 p = 5 ∨ A 194 p = 6 := by omega
  have p6 : 0 ≤ p ∧ p < 6 := by omega
  have t31 : (0 ≤ t ∧ t ≤ 2147483647) := by omega
  have y31 : (0 ≤ A 193 2 ∧ A 193 2 ≤ 2147483647) := by omega
  rcases (by omega : t % 2 = 0 ∨ t % 2 = 1) with c1 | c1
  · by_cases c2 : A 196 (5 * p + t) < 50
    · rcases k6 with q | q | q | q | q | q | q
      · simp (disch := omega) only [reduceIte, ltT, ltF, eqT, eqF, leT, leF, wwP, ckP, ckzP, ckbP, u2S, u2N, u2T, ↓Option.bind_some, inB_T, inB_F, Bool.false_eq_true, m_in0, m_in1, H1.r196, H1.r194, q, c1, zremP]
      · simp (disch := omega) only [reduceIte, ltT, ltF, eqT, eqF, leT, leF, wwP, ckP, ckzP, ckbP, u2S, u2N, u2T, ↓Option.bind_some, inB_T, inB_F, Bool.false_eq_true, m_in0, m_in1, H1.r196, H1.r194, q, c1, zremP, Int.add_zero]
      · simp (disch := omega) only [reduceIte, ltT, ltF, eqT, eqF, leT, leF, wwP, ckP, ckzP, ckbP, u2S, u2N, u2T, ↓Option.bind_some, inB_T, inB_F, Bool.false_eq_true, m_in0, m_in1, H1.r196, H1.r194, q, c1, zremP]
      · simp (disch := omega) only [reduceIte, ltT, ltF, eqT, eqF, leT, leF, wwP, ckP, ckzP, ckbP, u2S, u2N, u2T, ↓Option.bind_some, inB_T, inB_F, Bool.false_eq_true, m_in0, m_in1, H1.r196, H1.r194, q, c1, zremP]
      · rcases (by omega : A 193 2 % 2 = 0 ∨ A 193 2 % 2 = 1) with c3 | c3
        · simp (disch := omega) only [reduceIte, ltT, ltF, eqT, eqF, leT, leF, wwP, ckP, ckzP, ckbP, u2S, u2N, u2T, ↓Option.bind_some, inB_T, inB_F, Bool.false_eq_true, m_in0, m_in1, H1.r196, H1.r194, q, c1, c3, zremP, H1.s2, Int.add_zero]
        · simp (disch := omega) only [reduceIte, ltT, ltF, eqT, eqF, leT, leF, wwP, ckP, ckzP, ckbP, u2S, u2N, u2T, ↓Option.bind_some, inB_T, inB_F, Bool.false_eq_true, m_in0, m_in1, H1.r196, H1.r194, q, c1, c3, zremP, H1.s2, zdiv2, Int.add_zero]
      · simp (disch := omega) only [reduceIte, ltT, ltF, eqT, eqF, leT, leF, wwP, ckP, ckzP, ckbP, u2S, u2N, u2T, ↓Option.bind_some, inB_T, inB_F, Bool.false_eq_true, m_in0, m_in1, H1.r196, H1.r194, q, c1, zremP, H1.s2]
      · simp (disch := omega) only [reduceIte, ltT, ltF, eqT, eqF, leT, leF, wwP, ckP, ckzP, ckbP, u2S, u2N, u2T, ↓Option.bind_some, inB_T, inB_F, Bool.false_eq_true, m_in0, m_in1, H1.r196, H1.r194, H1.r197, q, c1, zremP, H1.s2]
    · rcases k6 with q | q | q | q | q | q | q
      · simp (disch := omega) only [reduceIte, ltT, ltF, eqT, eqF, leT, leF, wwP, ckP, ckzP, ckbP, u2S, u2N, u2T, ↓Option.bind_some, inB_T, inB_F, Bool.false_eq_true, m_in0, m_in1, H1.r196, H1.r194, q, c1, zremP]
      · simp (disch := omega) only [reduceIte, ltT, ltF, eqT, eqF, leT, leF, wwP, ckP, ckzP, ckbP, u2S, u2N, u2T, ↓Option.bind_some, inB_T, inB_F, Bool.false_eq_true, m_in0, m_in1, H1.r196, H1.r194, q, c1, zremP, Int.add_zero]
      · simp (disch := omega) only [reduceIte, ltT, ltF, eqT, eqF, leT, leF, wwP, ckP, ckzP, ckbP, u2S, u2N, u2T, ↓Option.bind_some, inB_T, inB_F, Bool.false_eq_true, m_in0, m_in1, H1.r196, H1.r194, q, c1, zremP]
      · simp (disch := omega) only [reduceIte, ltT, ltF, eqT, eqF, leT, leF, wwP, ckP, ckzP, ckbP, u2S, u2N, u2T, ↓Option.bind_some, inB_T, inB_F, Bool.false_eq_true, m_in0, m_in1, H1.r196, H1.r194, q, c1, zremP]
      · rcases (by omega : A 193 2 % 2 = 0 ∨ A 193 2 % 2 = 1) with c3 | c3
        · simp (disch := omega) only [reduceIte, ltT, ltF, eqT, eqF, leT, leF, wwP, ckP, ckzP, ckbP, u2S, u2N, u2T, ↓Option.bind_some, inB_T, inB_F, Bool.false_eq_true, m_in0, m_in1, H1.r196, H1.r194, q, c1, c3, zremP, H1.s2, Int.add_zero]
        · simp (disch := omega) only [reduceIte, ltT, ltF, eqT, eqF, leT, leF, wwP, ckP, ckzP, ckbP, u2S, u2N, u2T, ↓Option.bind_some, inB_T, inB_F, Bool.false_eq_true, m_in0, m_in1, H1.r196, H1.r194, q, c1, c3, zremP, H1.s2, zdiv2, Int.add_zero]
      · simp (disch := omega) only [reduceIte, ltT, ltF, eqT, eqF, leT, leF, wwP, ckP, ckzP, ckbP, u2S, u2N, u2T, ↓Option.bind_some, inB_T, inB_F, Bool.false_eq_true, m_in0, m_in1, H1.r196, H1.r194, q, c1, zremP, H1.s2]
      · simp (disch := omega) only [reduceIte, ltT, ltF, eqT, eqF, leT, leF, wwP, ckP, ckzP, ckbP, u2S, u2N, u2T, ↓Option.bind_some, inB_T, inB_F, Bool.false_eq_true, m_in0, m_in1, H1.r196, H1.r194, H1.r197, q, c1, zremP, H1.s2]
  · by_cases c2 : A 196 (5 * p + t) < 50
    · rcases k6 with q | q | q | q | q | q | q
      · simp (disch := omega) only [reduceIte, ltT, ltF, eqT, eqF, leT, leF, wwP, ckP, ckzP, ckbP, u2S, u2N, u2T, ↓Option.bind_some, inB_T, inB_F, Bool.false_eq_true, m_in0, m_in1, H1.r196, H1.r194, q, c1, zremP]
      · simp (disch := omega) only [reduceIte, ltT, ltF, eqT, eqF, leT, leF, wwP, ckP, ckzP, ckbP, u2S, u2N, u2T, ↓Option.bind_some, inB_T, inB_F, Bool.false_eq_true, m_in0, m_in1, H1.r196, H1.r194, H1.r195, q, c1, zremP]
      · simp (disch := omega) only [reduceIte, ltT, ltF, eqT, eqF, leT, leF, wwP, ckP, ckzP, ckbP, u2S, u2N, u2T, ↓Option.bind_some, inB_T, inB_F, Bool.false_eq_true, m_in0, m_in1, H1.r196, H1.r194, q, c1, zremP]
      · simp (disch := omega) only [reduceIte, ltT, ltF, eqT, eqF, leT, leF, wwP, ckP, ckzP, ckbP, u2S, u2N, u2T, ↓Option.bind_some, inB_T, inB_F, Bool.false_eq_true, m_in0, m_in1, H1.r196, H1.r194, q, c1, zremP]
      · rcases (by omega : A 193 2 % 2 = 0 ∨ A 193 2 % 2 = 1) with c3 | c3
        · simp (disch := omega) only [reduceIte, ltT, ltF, eqT, eqF, leT, leF, wwP, ckP, ckzP, ckbP, u2S, u2N, u2T, ↓Option.bind_some, inB_T, inB_F, Bool.false_eq_true, m_in0, m_in1, H1.r196, H1.r194, H1.r195, q, c1, c3, zremP, H1.s2]
        · simp (disch := omega) only [reduceIte, ltT, ltF, eqT, eqF, leT, leF, wwP, ckP, ckzP, ckbP, u2S, u2N, u2T, ↓Option.bind_some, inB_T, inB_F, Bool.false_eq_true, m_in0, m_in1, H1.r196, H1.r194, H1.r195, q, c1, c3, zremP, H1.s2, zdiv2]
      · simp (disch := omega) only [reduceIte, ltT, ltF, eqT, eqF, leT, leF, wwP, ckP, ckzP, ckbP, u2S, u2N, u2T, ↓Option.bind_some, inB_T, inB_F, Bool.false_eq_true, m_in0, m_in1, H1.r196, H1.r194, q, c1, zremP, H1.s2]
      · simp (disch := omega) only [reduceIte, ltT, ltF, eqT, eqF, leT, leF, wwP, ckP, ckzP, ckbP, u2S, u2N, u2T, ↓Option.bind_some, inB_T, inB_F, Bool.false_eq_true, m_in0, m_in1, H1.r196, H1.r194, H1.r197, q, c1, zremP, H1.s2]
    · rcases k6 with q | q | q | q | q | q | q
      · simp (disch := omega) only [reduceIte, ltT, ltF, eqT, eqF, leT, leF, wwP, ckP, ckzP, ckbP, u2S, u2N, u2T, ↓Option.bind_some, inB_T, inB_F, Bool.false_eq_true, m_in0, m_in1, H1.r196, H1.r194, q, c1, zremP]
      · simp (disch := omega) only [reduceIte, ltT, ltF, eqT, eqF, leT, leF, wwP, ckP, ckzP, ckbP, u2S, u2N, u2T, ↓Option.bind_some, inB_T, inB_F, Bool.false_eq_true, m_in0, m_in1, H1.r196, H1.r194, H1.r195, q, c1, zremP]
      · simp (disch := omega) only [reduceIte, ltT, ltF, eqT, eqF, leT, leF, wwP, ckP, ckzP, ckbP, u2S, u2N, u2T, ↓Option.bind_some, inB_T, inB_F, Bool.false_eq_true, m_in0, m_in1, H1.r196, H1.r194, q, c1, zremP]
      · simp (disch := omega) only [reduceIte, ltT, ltF, eqT, eqF, leT, leF, wwP, ckP, ckzP, ckbP, u2S, u2N, u2T, ↓Option.bind_some, inB_T, inB_F, Bool.false_eq_true, m_in0, m_in1, H1.r196, H1.r194, q, c1, zremP]
      · rcases (by omega : A 193 2 % 2 = 0 ∨ A 193 2 % 2 = 1) with c3 | c3
        · simp (disch := omega) only [reduceIte, ltT, ltF, eqT, eqF, leT, leF, wwP, ckP, ckzP, ckbP, u2S, u2N, u2T, ↓Option.bind_some, inB_T, inB_F, Bool.false_eq_true, m_in0, m_in1, H1.r196, H1.r194, H1.r195, q, c1, c3, zremP, H1.s2]
        · simp (disch := omega) only [reduceIte, ltT, ltF, eqT, eqF, leT, leF, wwP, ckP, ckzP, ckbP, u2S, u2N, u2T, ↓Option.bind_some, inB_T, inB_F, Bool.false_eq_true, m_in0, m_in1, H1.r196, H1.r194, H1.r195, q, c1, c3, zremP, H1.s2, zdiv2]
      · simp (disch := omega) only [reduceIte, ltT, ltF, eqT, eqF, leT, leF, wwP, ckP, ckzP, ckbP, u2S, u2N, u2T, ↓Option.bind_some, inB_T, inB_F, Bool.false_eq_true, m_in0, m_in1, H1.r196, H1.r194, q, c1, zremP, H1.s2]
      · simp (disch := omega) only [reduceIte, ltT, ltF, eqT, eqF, leT, leF, wwP, ckP, ckzP, ckbP, u2S, u2N, u2T, ↓Option.bind_some, inB_T, inB_F, Bool.false_eq_true, m_in0, m_in1, H1.r196, H1.r194, H1.r197, q, c1, zremP, H1.s2]
def bearA (A : HH) (O : Int → List CL) (p t : Int) : Int := if m_has (A 193 1) p = 0 then (if forceA A O p t < needA A O then 0 else 1) else 0
theorem M_bears {k h A : HH} {Y N p t : Int} (H : MR k h A) (W : WO Y N A) (hY : Y ≤ 20000) (hp : 0 ≤ p ∧ p < A 193 0) (ht : 0 ≤ t ∧ t < 5) {O : Int → List CL} (hO : OM A O) : ∃ h', m_bears h p t = some (bearA A O p t, h') ∧ MR k h' A := by
  unfold m_bears bearA
  obtain ⟨h1, e1, H1⟩ := M_force H W hY hp ht hO
  have fb := force_b hO W hp ht
  have nb := need_b hO
  have nn := M_need H1 hO
  rcases @has_01 (A 193 1) p with c | c
  · by_cases c2 : forceA A O p t < needA A O
    · simp (disch := omega) only [reduceIte, ltT, ltF, eqT, eqF, leT, leF, wwP, ckP, ckzP, ckbP, u2S, u2N, u2T, ↓Option.bind_some, inB_T, inB_F, Bool.false_eq_true, m_in0, m_in1, H.s1, ww_has, c, e1, nn]
      exact ⟨h1, rfl, H1⟩
    · simp (disch := omega) only [reduceIte, ltT, ltF, eqT, eqF, leT, leF, wwP, ckP, ckzP, ckbP, u2S, u2N, u2T, ↓Option.bind_some, inB_T, inB_F, Bool.false_eq_true, m_in0, m_in1, H.s1, ww_has, c, e1, nn]
      exact ⟨h1, rfl, H1⟩
  · simp (disch := omega) only [reduceIte, ltT, ltF, eqT, eqF, leT, leF, wwP, ckP, ckzP, ckbP, u2S, u2N, u2T, ↓Option.bind_some, inB_T, inB_F, Bool.false_eq_true, m_in0, m_in1, H.s1, ww_has, c, e1, nn]
    exact ⟨h, rfl, H⟩
