/- plan -/
def canP (A : HH) (a b : Int) : Bool := if a = 0 then true else if a = 1 then inB b 0 (A 193 0) else if a = 2 then inB b 0 (A 193 0) else if a = 3 then decide (0 ≤ b ∧ b / 10 < 5 ∧ (b % 10 = 9 ∨ b % 10 < A 193 0)) else false
def sPlan (A : HH) (a b : Int) : Int × HH := if a = -1 then (0, u2 A 193 43 0) else if canP A a b then (if A 193 43 = 10 then (-4, A) else (A 193 43 + 1, u2 (u2 (u2 A 220 (A 193 43) a) 221 (A 193 43) (if a = 0 then 0 else b)) 193 43 (A 193 43 + 1))) else (-1, A)
theorem m_isLeadP {h : HH} {n b : Int} (hn : h 193 0 = n) (n0 : 0 ≤ n ∧ n ≤ 6) (hb : -2147483648 ≤ b ∧ b ≤ 2147483647) : ww (m_isLead h b) = if 0 ≤ b ∧ b / 10 < 5 ∧ (b % 10 = 9 ∨ b % 10 < n) then 1 else 0 := by
  unfold m_isLead m_isTree m_isHater
  rcases Int.lt_or_le b 0 with c | c
  · rw [if_neg (by omega : ¬ (0 ≤ b ∧ _))]
    simp (disch := omega) only [reduceIte, ltT, ltF, eqT, eqF, leT, leF, wwP, ckP, ckzP, ckbP, u2S, u2N, u2T, ↓Option.bind_some, inB_T, inB_F, Bool.false_eq_true, m_in0, m_in1]
  · by_cases c2 : b / 10 < 5
    · by_cases c3 : b % 10 = 9
      · rw [if_pos (⟨c, c2, .inl c3⟩ : 0 ≤ b ∧ b / 10 < 5 ∧ (b % 10 = 9 ∨ b % 10 < n))]
        simp (disch := omega) only [reduceIte, ltT, ltF, eqT, eqF, leT, leF, wwP, ckP, ckzP, ckbP, u2S, u2N, u2T, ↓Option.bind_some, inB_T, inB_F, Bool.false_eq_true, m_in0, m_in1, zdivP, zremP]
      · by_cases c4 : b % 10 < n
        · rw [if_pos (⟨c, c2, .inr c4⟩ : 0 ≤ b ∧ b / 10 < 5 ∧ (b % 10 = 9 ∨ b % 10 < n))]
          simp (disch := omega) only [reduceIte, ltT, ltF, eqT, eqF, leT, leF, wwP, ckP, ckzP, ckbP, u2S, u2N, u2T, ↓Option.bind_some, inB_T, inB_F, Bool.false_eq_true, m_in0, m_in1, zdivP, zremP, hn]
        · rw [if_neg (by omega : ¬ (0 ≤ b ∧ b / 10 < 5 ∧ (b % 10 = 9 ∨ b % 10 < n)))]
          simp (disch := omega) only [reduceIte, ltT, ltF, eqT, eqF, leT, leF, wwP, ckP, ckzP, ckbP, u2S, u2N, u2T, ↓Option.bind_some, inB_T, inB_F, Bool.false_eq_true, m_in0, m_in1, zdivP, zremP, hn]
    · rw [if_neg (by omega : ¬ (0 ≤ b ∧ b / 10 < 5 ∧ (b % 10 = 9 ∨ b % 10 < n)))]
      simp (disch := omega) only [reduceIte, ltT, ltF, eqT, eqF, leT, leF, wwP, ckP, ckzP, ckbP, u2S, u2N, u2T, ↓Option.bind_some, inB_T, inB_F, Bool.false_eq_true, m_in0, m_in1, zdivP, zremP, hn]
theorem x_canP {h A : HH} {a b : Int} (hn : h 1 4 = A 193 0) (n0 : 0 ≤ A 193 0 ∧ A 193 0 ≤ 6) (ha : -2147483648 ≤ a ∧ a ≤ 2147483647) (hb : -2147483648 ≤ b ∧ b ≤ 2147483647) : ww (x_canPlan h a b) = if canP A a b then 1 else 0 := by
  unfold x_canPlan canP
  by_cases a0 : a = 0
  · subst a0; rfl
  by_cases a1 : a = 1
  · subst a1
    by_cases c : 0 ≤ b ∧ b < A 193 0
    · simp (disch := omega) only [reduceIte, ltT, ltF, eqT, eqF, leT, leF, wwP, ckP, ckzP, ckbP, u2S, u2N, u2T, ↓Option.bind_some, inB_T, inB_F, Bool.false_eq_true, m_in0, m_in1, ww_hasT, ww_hasF]
    · simp (disch := omega) only [reduceIte, ltT, ltF, eqT, eqF, leT, leF, wwP, ckP, ckzP, ckbP, u2S, u2N, u2T, ↓Option.bind_some, inB_T, inB_F, Bool.false_eq_true, m_in0, m_in1, ww_hasT, ww_hasF]
  by_cases a2 : a = 2
  · subst a2
    by_cases c : 0 ≤ b ∧ b < A 193 0
    · simp (disch := omega) only [reduceIte, ltT, ltF, eqT, eqF, leT, leF, wwP, ckP, ckzP, ckbP, u2S, u2N, u2T, ↓Option.bind_some, inB_T, inB_F, Bool.false_eq_true, m_in0, m_in1, ww_hasT, ww_hasF]
    · simp (disch := omega) only [reduceIte, ltT, ltF, eqT, eqF, leT, leF, wwP, ckP, ckzP, ckbP, u2S, u2N, u2T, ↓Option.bind_some, inB_T, inB_F, Bool.false_eq_true, m_in0, m_in1, ww_hasT, ww_hasF]
  by_cases a3 : a = 3
  · subst a3
    simp (disch := omega) only [reduceIte, ltT, ltF, eqT, eqF, leT, leF, wwP, ckP, ckzP, ckbP, u2S, u2N, u2T, ↓Option.bind_some, inB_T, inB_F, Bool.false_eq_true, m_in0, m_in1]
    rcases Int.lt_or_le b 0 with c | c
    · rw [decide_eq_false (by omega : ¬ (0 ≤ b ∧ _))]
      simp (disch := omega) only [reduceIte, ltT, ltF, eqT, eqF, leT, leF, wwP, ckP, ckzP, ckbP, u2S, u2N, u2T, ↓Option.bind_some, inB_T, inB_F, Bool.false_eq_true, m_in0, m_in1]
    · by_cases c2 : b / 10 < 5
      · by_cases c3 : b % 10 = 9
        · rw [decide_eq_true (⟨c, c2, .inl c3⟩ : 0 ≤ b ∧ b / 10 < 5 ∧ (b % 10 = 9 ∨ b % 10 < A 193 0))]
          simp (disch := omega) only [reduceIte, ltT, ltF, eqT, eqF, leT, leF, wwP, ckP, ckzP, ckbP, u2S, u2N, u2T, ↓Option.bind_some, inB_T, inB_F, Bool.false_eq_true, m_in0, m_in1, zdivP, zremP, ww_treeT, ww_treeF]
        · by_cases c4 : b % 10 < A 193 0
          · rw [decide_eq_true (⟨c, c2, .inr c4⟩ : 0 ≤ b ∧ b / 10 < 5 ∧ (b % 10 = 9 ∨ b % 10 < A 193 0))]
            simp (disch := omega) only [reduceIte, ltT, ltF, eqT, eqF, leT, leF, wwP, ckP, ckzP, ckbP, u2S, u2N, u2T, ↓Option.bind_some, inB_T, inB_F, Bool.false_eq_true, m_in0, m_in1, zdivP, zremP, ww_treeT, ww_treeF, ww_hasT, ww_hasF]
          · rw [decide_eq_false (by omega : ¬ (0 ≤ b ∧ b / 10 < 5 ∧ (b % 10 = 9 ∨ b % 10 < A 193 0)))]
            simp (disch := omega) only [reduceIte, ltT, ltF, eqT, eqF, leT, leF, wwP, ckP, ckzP, ckbP, u2S, u2N, u2T, ↓Option.bind_some, inB_T, inB_F, Bool.false_eq_true, m_in0, m_in1, zdivP, zremP, ww_treeT, ww_treeF, ww_hasT, ww_hasF]
      · rw [decide_eq_false (by omega : ¬ (0 ≤ b ∧ b / 10 < 5 ∧ (b % 10 = 9 ∨ b % 10 < A 193 0)))]
        simp (disch := omega) only [reduceIte, ltT, ltF, eqT, eqF, leT, leF, wwP, ckP, ckzP, ckbP, u2S, u2N, u2T, ↓Option.bind_some, inB_T, inB_F, Bool.false_eq_true, m_in0, m_in1, zdivP, zremP, ww_treeT, ww_treeF, ww_hasT, ww_hasF]
  simp (disch := omega) only [reduceIte, ltT, ltF, eqT, eqF, leT, leF, wwP, ckP, ckzP, ckbP, u2S, u2N, u2T, ↓Option.bind_some, inB_T, inB_F, Bool.false_eq_true, m_in0, m_in1]
theorem M_plan {k h A : HH} (H : MR k h A) (W : WOK 9999 (A 193 9) A) (L : LOK A) {a b : Int} (ha : -2147483648 ≤ a ∧ a ≤ 2147483647) (hb : -2147483648 ≤ b ∧ b ≤ 2147483647) : ∃ h', m_plan h a b = some ((sPlan A a b).1, h') ∧ MR k h' (sPlan A a b).2 := by
  unfold sPlan m_plan
  have n0 := W.1
  have l0 := L.2.1
  by_cases am : a = -1
  · simp (disch := omega) only [reduceIte, ltT, ltF, eqT, eqF, leT, leF, wwP, ckP, ckzP, ckbP, u2S, u2N, u2T, ↓Option.bind_some, inB_T, inB_F, Bool.false_eq_true, m_in0, m_in1]
    exact ⟨_, rfl, H.w (by omega)⟩
  have il := m_isLeadP (b := b) H.s0 n0 hb
  have K : ∀ x, MR k (u2 (u2 (u2 h 220 (A 193 43) a) 221 (A 193 43) x) 193 43 (A 193 43 + 1)) (u2 (u2 (u2 A 220 (A 193 43) a) 221 (A 193 43) x) 193 43 (A 193 43 + 1)) := fun x => ((H.w (by omega)).w (by omega)).w (by omega)
  by_cases a0 : a = 0
  · subst a0
    have e : canP A 0 b = true := rfl
    by_cases c4 : A 193 43 = 10
    · simp (disch := omega) only [reduceIte, ltT, ltF, eqT, eqF, leT, leF, wwP, ckP, ckzP, ckbP, u2S, u2N, u2T, ↓Option.bind_some, inB_T, inB_F, Bool.false_eq_true, m_in0, m_in1, H.s43, e]
      exact ⟨_, rfl, H⟩
    · simp (disch := omega) only [reduceIte, ltT, ltF, eqT, eqF, leT, leF, wwP, ckP, ckzP, ckbP, u2S, u2N, u2T, ↓Option.bind_some, inB_T, inB_F, Bool.false_eq_true, m_in0, m_in1, H.s43, e]
      exact ⟨_, rfl, K _⟩
  by_cases a1 : a = 1 ∨ a = 2
  · by_cases c : 0 ≤ b ∧ b < A 193 0
    · have e : canP A a b = true := by rcases a1 with rfl | rfl <;> exact inB_T c
      have e2 : ww (m_isHater h b) = 1 := by unfold m_isHater; simp (disch := omega) only [reduceIte, ltT, ltF, eqT, eqF, leT, leF, wwP, ckP, ckzP, ckbP, u2S, u2N, u2T, ↓Option.bind_some, inB_T, inB_F, Bool.false_eq_true, m_in0, m_in1, H.s0]
      by_cases c4 : A 193 43 = 10
      · simp (disch := omega) only [reduceIte, ltT, ltF, eqT, eqF, leT, leF, wwP, ckP, ckzP, ckbP, u2S, u2N, u2T, ↓Option.bind_some, inB_T, inB_F, Bool.false_eq_true, m_in0, m_in1, H.s43, e, e2]
        exact ⟨_, rfl, H⟩
      · simp (disch := omega) only [reduceIte, ltT, ltF, eqT, eqF, leT, leF, wwP, ckP, ckzP, ckbP, u2S, u2N, u2T, ↓Option.bind_some, inB_T, inB_F, Bool.false_eq_true, m_in0, m_in1, H.s43, e, e2]
        exact ⟨_, rfl, K _⟩
    · have e : canP A a b = false := by rcases a1 with rfl | rfl <;> exact inB_F c
      have e2 : ww (m_isHater h b) = 0 := by unfold m_isHater; simp (disch := omega) only [reduceIte, ltT, ltF, eqT, eqF, leT, leF, wwP, ckP, ckzP, ckbP, u2S, u2N, u2T, ↓Option.bind_some, inB_T, inB_F, Bool.false_eq_true, m_in0, m_in1, H.s0]
      simp (disch := omega) only [reduceIte, ltT, ltF, eqT, eqF, leT, leF, wwP, ckP, ckzP, ckbP, u2S, u2N, u2T, ↓Option.bind_some, inB_T, inB_F, Bool.false_eq_true, m_in0, m_in1, H.s43, e, e2]
      exact ⟨_, rfl, H⟩
  by_cases a3 : a = 3
  · subst a3
    by_cases c : 0 ≤ b ∧ b / 10 < 5 ∧ (b % 10 = 9 ∨ b % 10 < A 193 0)
    · have e : canP A 3 b = true := decide_eq_true c
      rw [if_pos c] at il
      by_cases c4 : A 193 43 = 10
      · simp (disch := omega) only [reduceIte, ltT, ltF, eqT, eqF, leT, leF, wwP, ckP, ckzP, ckbP, u2S, u2N, u2T, ↓Option.bind_some, inB_T, inB_F, Bool.false_eq_true, m_in0, m_in1, H.s43, e, il]
        exact ⟨_, rfl, H⟩
      · simp (disch := omega) only [reduceIte, ltT, ltF, eqT, eqF, leT, leF, wwP, ckP, ckzP, ckbP, u2S, u2N, u2T, ↓Option.bind_some, inB_T, inB_F, Bool.false_eq_true, m_in0, m_in1, H.s43, e, il]
        exact ⟨_, rfl, K _⟩
    · have e : canP A 3 b = false := decide_eq_false c
      rw [if_neg c] at il
      simp (disch := omega) only [reduceIte, ltT, ltF, eqT, eqF, leT, leF, wwP, ckP, ckzP, ckbP, u2S, u2N, u2T, ↓Option.bind_some, inB_T, inB_F, Bool.false_eq_true, m_in0, m_in1, H.s43, e, il]
      exact ⟨_, rfl, H⟩
  have e : canP A a b = false := by unfold canP; rw [if_neg a0, if_neg (by omega), if_neg (by omega), if_neg a3]
  simp (disch := omega) only [reduceIte, ltT, ltF, eqT, eqF, leT, leF, wwP, ckP, ckzP, ckbP, u2S, u2N, u2T, ↓Option.bind_some, inB_T, inB_F, Bool.false_eq_true, m_in0, m_in1, H.s43, e]
  exact ⟨_, rfl, H⟩
theorem X_plan {S : SS} {k h A : HH} {O : Int → List CL} (H : XR S k h A O) (L : LOK A) {a b : Int} (ha : -2147483648 ≤ a ∧ a ≤ 2147483647) (hb : -2147483648 ≤ b ∧ b ≤ 2147483647) : ∃ h', x_plan h a b = some ((sPlan A a b).1, h') ∧ XR S k h' (sPlan A a b).2 O := by
  have l0 := L.2.1
  have C := H.2.1
  obtain ⟨n0, n6, n1⟩ := C.1
  have n1 : h 1 4 = A 193 0 := n1
  obtain ⟨g1, g2, g3, g4, g5, g6⟩ := H.2.2.1
  have q1 : h 27 1 = A 193 43 := g2.2
  have cp := x_canP (a := a) (b := b) n1 (by omega) ha hb
  unfold sPlan x_plan xr_append
  rw [rlen_27]
  by_cases c0 : a = -1
  · simp (disch := omega) only [reduceIte, ltT, ltF, eqT, eqF, leT, leF, wwP, ckP, ckzP, ckbP, u2S, u2N, u2T, ↓Option.bind_some, inB_T, inB_F, Bool.false_eq_true, m_in0, m_in1]
    refine ⟨_, rfl, H.list (fun c j q => u2N (by omega)) (fun c j q => u2N (by unfold listC at q; omega)) ?_⟩
    refine ⟨by simp (disch := omega) only [u2S, u2N, u2T]; exact g1, ⟨by simp (disch := omega) only [u2S, u2N, u2T]; omega, by simp (disch := omega) only [u2S, u2N, u2T]⟩, by simp (disch := omega) only [u2S, u2N, u2T]; exact g3, by simp (disch := omega) only [u2S, u2N, u2T]; intro i p q; (try simp (disch := omega) only [u2S, u2N, u2T]); exact g4 i p q, fun i p q => ?_, by simp (disch := omega) only [u2S, u2N, u2T]; intro i p q; (try simp (disch := omega) only [u2S, u2N, u2T]); exact g6 i p q⟩
    revert q; simp (disch := omega) only [u2S, u2N, u2T]; intro q; omega
  · by_cases c1 : canP A a b = true
    · rw [if_pos c1] at cp
      by_cases c4 : A 193 43 = 10
      · simp (disch := omega) only [reduceIte, ltT, ltF, eqT, eqF, leT, leF, wwP, ckP, ckzP, ckbP, u2S, u2N, u2T, ↓Option.bind_some, inB_T, inB_F, Bool.false_eq_true, m_in0, m_in1, cp, c1, q1]
        exact ⟨_, rfl, H⟩
      · simp (disch := omega) only [reduceIte, ltT, ltF, eqT, eqF, leT, leF, wwP, ckP, ckzP, ckbP, u2S, u2N, u2T, ↓Option.bind_some, inB_T, inB_F, Bool.false_eq_true, m_in0, m_in1, cp, c1, q1]
        refine ⟨_, rfl, H.list (fun c j q => by (try simp (disch := omega) only [u2S, u2N, u2T])) (fun c j q => by unfold listC at q; (try simp (disch := omega) only [u2S, u2N, u2T])) ?_⟩
        refine ⟨by simp (disch := omega) only [u2S, u2N, u2T]; exact g1, ⟨by simp (disch := omega) only [u2S, u2N, u2T]; omega, by simp (disch := omega) only [u2S, u2N, u2T]⟩, by simp (disch := omega) only [u2S, u2N, u2T]; exact g3, by simp (disch := omega) only [u2S, u2N, u2T]; intro i p q; (try simp (disch := omega) only [u2S, u2N, u2T]); exact g4 i p q, fun i p q => ?_, by simp (disch := omega) only [u2S, u2N, u2T]; intro i p q; (try simp (disch := omega) only [u2S, u2N, u2T]); exact g6 i p q⟩
        revert q; simp (disch := omega) only [u2S, u2N, u2T]; intro q
        by_cases e : i = A 193 43
        · subst e
          refine ⟨by simp (disch := omega) only [u2S, u2N, u2T], ?_⟩
          simp (disch := omega) only [u2S, u2N, u2T]
          intro z
          rw [if_neg z]
        · simp (disch := omega) only [u2S, u2N, u2T]; exact g5 i p (by omega)
    · rw [if_neg c1] at cp
      rw [if_neg c1]
      simp (disch := omega) only [reduceIte, ltT, ltF, eqT, eqF, leT, leF, wwP, ckP, ckzP, ckbP, u2S, u2N, u2T, ↓Option.bind_some, inB_T, inB_F, Bool.false_eq_true, m_in0, m_in1, cp]
      exact ⟨_, rfl, H⟩
theorem A_plan {A : HH} (H : AOK A) {a b : Int} : AOK (sPlan A a b).2 := by
  unfold sPlan
  obtain ⟨g1, g2, g3, g4, g5, g6⟩ := H.2.2.2.1
  by_cases c0 : a = -1
  · simp (disch := omega) only [reduceIte, ltT, ltF, eqT, eqF, leT, leF, wwP, ckP, ckzP, ckbP, u2S, u2N, u2T, ↓Option.bind_some, inB_T, inB_F, Bool.false_eq_true, m_in0, m_in1]
    refine H.list (fun c j q => u2N (by unfold listC at q; omega)) ⟨by simp (disch := omega) only [u2S, u2N, u2T]; exact g1, by simp (disch := omega) only [u2S, u2N, u2T]; omega, by simp (disch := omega) only [u2S, u2N, u2T]; exact g3, by simp (disch := omega) only [u2S, u2N, u2T]; exact g4, fun i p q => ?_, by simp (disch := omega) only [u2S, u2N, u2T]; exact g6⟩
    revert q; simp (disch := omega) only [u2S, u2N, u2T]; intro q; omega
  · by_cases c1 : canP A a b = true
    · by_cases c4 : A 193 43 = 10 <;> simp (disch := omega) only [reduceIte, ltT, ltF, eqT, eqF, leT, leF, wwP, ckP, ckzP, ckbP, u2S, u2N, u2T, ↓Option.bind_some, inB_T, inB_F, Bool.false_eq_true, m_in0, m_in1, c1]
      all_goals first | exact H | skip
      refine H.list (fun c j q => by unfold listC at q; (try simp (disch := omega) only [u2S, u2N, u2T])) ⟨by simp (disch := omega) only [u2S, u2N, u2T]; exact g1, by simp (disch := omega) only [u2S, u2N, u2T]; omega, by simp (disch := omega) only [u2S, u2N, u2T]; exact g3, by simp (disch := omega) only [u2S, u2N, u2T]; exact g4, fun i p q => ?_, by simp (disch := omega) only [u2S, u2N, u2T]; exact g6⟩
      revert q; simp (disch := omega) only [u2S, u2N, u2T]; intro q
      by_cases e : i = A 193 43
      · subst e
        simp (disch := omega) only [u2S, u2N, u2T]
        unfold canP at c1
        by_cases a0 : a = 0
        · subst a0; rw [if_pos rfl]; omega
        rw [if_neg a0] at c1
        rw [if_neg a0]
        by_cases a1 : a = 1
        · rw [if_pos a1] at c1; have := of_decide_eq_true c1; omega
        rw [if_neg a1] at c1
        by_cases a2 : a = 2
        · rw [if_pos a2] at c1; have := of_decide_eq_true c1; omega
        rw [if_neg a2] at c1
        by_cases a3 : a = 3
        · rw [if_pos a3] at c1; have := of_decide_eq_true c1; omega
        rw [if_neg a3] at c1
        cases c1
      · simp (disch := omega) only [u2S, u2N, u2T]; exact g5 i p (by omega)
    · rw [if_neg c0, if_neg c1]; exact H
theorem st_plan {S : SS} {h : HH} {a b : Int} (F : Fx S) (I : Inv h S) (ha : -2147483648 ≤ a ∧ a ≤ 2147483647) (hb : -2147483648 ≤ b ∧ b ≤ 2147483647) : ∃ r, ((x_plan h a b).bind fun q => (m_plan q.2 a b).bind fun q1 => if ww q.1 = ww q1.1 then some (q1.2, S) else none) = some r ∧ Fx r.2 ∧ Inv r.1 r.2 := by
  obtain ⟨A, O, hA, hX, hM⟩ := I
  obtain ⟨h1, e1, X1⟩ := X_plan hX hA.2.2.2.1 ha hb
  rw [e1]
  exact glueW F (A_plan hA) X1 hM (fun k h H => M_plan H hA.2.2.1 hA.2.2.2.1 ha hb) rfl
