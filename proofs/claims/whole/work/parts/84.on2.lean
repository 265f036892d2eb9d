theorem st_on {S : SS} {h : HH} {a w : Int} (F : Fx S) (I : Inv h S) (ha : -2147483648 ≤ a ∧ a ≤ 2147483647) (hw : -2147483648 ≤ w ∧ w ≤ 2147483647) : ∃ r, ((x_on S h a w).bind fun q => (m_on q.2 a w).bind fun q1 => if ww q.1 = ww q1.1 then some (q1.2, S) else none) = some r ∧ Fx r.2 ∧ Inv r.1 r.2 := by
  obtain ⟨A, O, hA, hX, hM⟩ := I
  have W := hA.2.2.1
  have n0 := W.1
  have C := hX.2.1
  have n1 : h 1 4 = A 193 0 := C.1.2.2
  have hO := hX.OM W
  have c27 := hA.1
  have key : ∀ v, x_on S h a w = some (v, h) → (∀ k g, MR k g A → m_on g a w = some (v, g)) → ∃ r, ((x_on S h a w).bind fun q => (m_on q.2 a w).bind fun q1 => if ww q.1 = ww q1.1 then some (q1.2, S) else none) = some r ∧ Fx r.2 ∧ Inv r.1 r.2 := fun v e1 e2 => by
    rw [e1]
    exact glueW (m := fun g => m_on g a w) (a := v) (b := v) F hA hX hM (fun k g H => ⟨g, e2 k g H, H⟩) rfl
  by_cases v : w = 0 ∨ (10 ≤ w ∧ w ≤ 14) ∨ (20 ≤ w ∧ w < 20 + 5 * A 193 0)
  · by_cases c : 0 ≤ a ∧ a ≤ 60
    · obtain ⟨d, rfl⟩ := nat_of c.1
      obtain ⟨h1, e1, f1⟩ := X_onK (S := S) (d := d) C W hO (hX.OX W) (by omega) v
      rw [e1]
      refine glueS (m := fun g => m_on g d w) (a := ansOn A O d w) (b := ansOn A O d w) F hA (hX.scr (fun c j q => f1 c j (by omega))) hM (fun k g H => ?_) rfl
      exact M_onK H W c27 hO (by omega) v
    · have yF := ww_yearF (a := a) (by omega)
      refine key (-2) ?_ (fun k g H => ?_)
      · unfold x_on
        rcases v with rfl | v | v
        · simp (disch := omega) only [reduceIte, ltT, ltF, eqT, eqF, leT, leF, wwP, ckP, ckzP, ckbP, u2S, u2N, u2T, ↓Option.bind_some, inB_T, inB_F, Bool.false_eq_true, m_in0, m_in1, zdivP, yF]
        · have q1 : w / 10 = 1 := by omega
          have q2 : w % 10 = w - 10 := by omega
          simp (disch := omega) only [reduceIte, ltT, ltF, eqT, eqF, leT, leF, wwP, ckP, ckzP, ckbP, u2S, u2N, u2T, ↓Option.bind_some, inB_T, inB_F, Bool.false_eq_true, m_in0, m_in1, zdivP, zremP, q1, q2, ww_treeT, yF]
        · simp (disch := omega) only [reduceIte, ltT, ltF, eqT, eqF, leT, leF, wwP, ckP, ckzP, ckbP, u2S, u2N, u2T, ↓Option.bind_some, inB_T, inB_F, Bool.false_eq_true, m_in0, m_in1, zdivP, zremP, ww_hasT, ww_treeT, yF]
      · unfold m_on m_isYears
        rcases v with rfl | v | v
        · rw [if_pos (by decide), if_pos (by rw [m_in1 (by omega)])]
        · rw [if_neg (by rw [wwP (by omega)]; omega), if_neg (by rw [m_in0 (by omega)]; decide), if_pos (by rw [m_in1 (by omega)])]
        · rw [if_neg (by rw [wwP (by omega)]; omega), if_pos (by rw [m_in1 (by omega)]), if_neg (by rw [H.s0, m_in0 (by omega)]; decide), if_pos (by rw [m_in1 (by omega)])]
  · refine key (-1) ?_ (fun k g H => ?_)
    · unfold x_on
      rcases Int.lt_or_le w 0 with c | c
      · have zd := zdivM (a := w) (b := 10) (by omega)
        simp (disch := omega) only [reduceIte, ltT, ltF, eqT, eqF, leT, leF, wwP, ckP, ckzP, ckbP, u2S, u2N, u2T, ↓Option.bind_some, inB_T, inB_F, Bool.false_eq_true, m_in0, m_in1, zd]
      · by_cases c2 : w < 20
        · by_cases c3 : w / 10 = 1
          · have q2 : ¬ (0 ≤ w % 10 ∧ w % 10 < 5) := by omega
            simp (disch := omega) only [reduceIte, ltT, ltF, eqT, eqF, leT, leF, wwP, ckP, ckzP, ckbP, u2S, u2N, u2T, ↓Option.bind_some, inB_T, inB_F, Bool.false_eq_true, m_in0, m_in1, zdivP, zremP, c3, ww_treeF]
          · simp (disch := omega) only [reduceIte, ltT, ltF, eqT, eqF, leT, leF, wwP, ckP, ckzP, ckbP, u2S, u2N, u2T, ↓Option.bind_some, inB_T, inB_F, Bool.false_eq_true, m_in0, m_in1, zdivP, zremP]
        · simp (disch := omega) only [reduceIte, ltT, ltF, eqT, eqF, leT, leF, wwP, ckP, ckzP, ckbP, u2S, u2N, u2T, ↓Option.bind_some, inB_T, inB_F, Bool.false_eq_true, m_in0, m_in1, zdivP, zremP, ww_hasF]
    · unfold m_on
      rw [if_neg (by rw [wwP hw]; omega), if_pos (by rw [m_in1 (by omega)]), if_pos (by rw [H.s0, m_in1 (by omega)])]
