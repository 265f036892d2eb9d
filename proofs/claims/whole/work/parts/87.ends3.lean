theorem endsE_agr {A B : HH} (H : agr A B) {w : Int} : ansE A w = ansE B w := by
  unfold ansE
  rw [sumR_cg (A := A) (B := B) (c := 198) (fun j => H _ _ (by unfold scC; omega) (by omega)), sumR_cg (A := A) (B := B) (c := 196) (fun j => H _ _ (by unfold scC; omega) (by omega)), H 193 0 (by unfold scC; omega) (by omega)]
theorem st_ends {S : SS} {h : HH} {w : Int} (F : Fx S) (I : Inv h S) (hw : -2147483648 ≤ w ∧ w ≤ 2147483647) : ∃ r, ((x_ends S h w).bind fun q => (m_ends q.2 w).bind fun q1 => if ww q.1 = ww q1.1 then some (q1.2, S) else none) = some r ∧ Fx r.2 ∧ Inv r.1 r.2 := by
  obtain ⟨A, O, hA, hX, hM⟩ := I
  have W := hA.2.2.1
  have L := hA.2.2.2.1
  have l0 := L.2.1
  have n0 := W.1
  have C := hX.2.1
  have hO := hX.OM W
  have c27 := hA.1
  by_cases v : w = 0 ∨ w = 1
  · obtain ⟨h1, e1, C1, f1⟩ := X_goFrom (S := S) (h := h) (a := 99) (b := 1) (.inl ⟨rfl, rfl⟩) C
    obtain ⟨h2, e2, f2⟩ := X_ends_L (S := S) L v n0 h (hX.OX W) hX.2.2.1 (A 193 43).toNat FU h1 A 0 9999 (by omega) (by omega) (by unfold FU; omega) C1 W (by omega) hO (fun _ _ _ => rfl) (fun c j q => f1 c j (by omega))
    have e3 : x_ends S h w = some (ansE (runP A O (A 193 43).toNat 0 A) w, h2) := by
      unfold x_ends
      rcases v with rfl | rfl
      · rw [if_pos (by decide), e1, Option.bind_some]; exact e2
      · rw [if_neg (by decide), if_pos (by decide), e1, Option.bind_some]; exact e2
    rw [e3]
    refine glueS (m := fun g => m_ends g w) (a := ansE (runP A O (A 193 43).toNat 0 A) w) (b := ansE (runP A O (A 193 43).toNat 0 A) w) F hA (hX.scr (fun c j q => f2 c j (by omega))) hM (fun k g H => ?_) rfl
    show ∃ h' A'', m_ends g w = _ ∧ _
    unfold m_ends
    obtain ⟨g1, e4, H1⟩ := M_save H
    rw [if_neg (by rw [m_in0 (by omega)]; decide), e4, Option.bind_some, ← endsE_agr (agr.runE (P := A) (O := O) (A 193 43).toNat 0 _ _ (saveA_agr (A := A)))]
    exact M_ends_L L c27 v n0 (A 193 43).toNat FU g1 (saveA A) 0 9999 (by omega) (by omega) (by unfold FU; omega) H1 (saveA_WOK W) (by omega) (saveA_OM hO) (fun _ _ _ => rfl)
  · have e1 : x_ends S h w = some (-1, h) := by
      unfold x_ends
      simp (disch := omega) only [reduceIte, ltT, ltF, eqT, eqF, leT, leF, wwP, ckP, ckzP, ckbP, u2S, u2N, u2T, ↓Option.bind_some, inB_T, inB_F, Bool.false_eq_true, m_in0, m_in1]
    rw [e1]
    exact glueW (m := fun g => m_ends g w) (a := -1) (b := -1) F hA hX hM (fun k g H => ⟨g, by show m_ends g w = _; unfold m_ends; simp (disch := omega) only [reduceIte, ltT, ltF, eqT, eqF, leT, leF, wwP, ckP, ckzP, ckbP, u2S, u2N, u2T, ↓Option.bind_some, inB_T, inB_F, Bool.false_eq_true, m_in0, m_in1], H⟩) rfl
