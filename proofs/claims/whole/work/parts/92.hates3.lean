theorem st_hates {S : SS} {h : HH} {a b c : Int} (F : Fx S) (I : Inv h S) (ha : -2147483648 ≤ a ∧ a ≤ 2147483647) (hb : -2147483648 ≤ b ∧ b ≤ 2147483647) (hc : -2147483648 ≤ c ∧ c ≤ 2147483647) : ∃ r, ((x_hates S h a b c).bind fun q => (m_hates q.2 a b c).bind fun q1 => if ww q.1 = ww q1.1 then some (q1.2, S) else none) = some r ∧ Fx r.2 ∧ Inv r.1 r.2 := by
  obtain ⟨A, O, hA, hX, hM⟩ := I
  have W := hA.2.2.1
  have L := hA.2.2.2.1
  have n0 := W.1
  have C := hX.2.1
  have n1 : h 1 4 = A 193 0 := C.1.2.2
  have hO := hX.OM W
  have key : ∀ v, x_hates S h a b c = some (v, h) → (∀ k g, MR k g A → m_hates g a b c = some (v, g)) → ∃ r, ((x_hates S h a b c).bind fun q => (m_hates q.2 a b c).bind fun q1 => if ww q.1 = ww q1.1 then some (q1.2, S) else none) = some r ∧ Fx r.2 ∧ Inv r.1 r.2 := fun v e1 e2 => by
    rw [e1]
    exact glueW (m := fun g => m_hates g a b c) (a := v) (b := v) F hA hX hM (fun k g H => ⟨g, e2 k g H, H⟩) rfl
  by_cases c1 : 0 ≤ a ∧ a < A 193 0
  · by_cases c2 : 0 ≤ b ∧ b < 5
    · by_cases c3 : c = 0 ∨ c = 1
      · obtain ⟨h1, e1, C1, f1⟩ := X_goFrom (S := S) (h := h) (a := 99) (b := 1) (.inl ⟨rfl, rfl⟩) C
        obtain ⟨h2, e2, f2⟩ := X_hates_L (S := S) (what := c) (W.wo (by omega)) (by omega) L c1 c2 hO h (hX.OX W) C.2.1 ⟨hX.2.2.1.1.2, hX.2.2.1.2.2.2.1⟩ c3 100 FU h1 A 0 (-5) (by decide) (by decide) C1 (fun _ _ _ _ => rfl) rfl (fun i j q => f1 i j (by omega))
        have e3 : x_hates S h a b c = some (if c = 0 then (cntH A A O (A 193 2) a b 100 0 (-5)).1 else (cntH A A O (A 193 2) a b 100 0 (-5)).2, h2) := by
          unfold x_hates
          rw [if_neg (by rw [ww_hasT (by omega)]; decide), if_neg (by rw [ww_treeT c2]; decide)]
          rcases c3 with rfl | rfl
          · rw [if_pos (by decide), e1, Option.bind_some]; exact e2
          · rw [if_neg (by decide), if_pos (by decide), e1, Option.bind_some]; exact e2
        rw [e3]
        refine glueW (m := fun g => m_hates g a b c) (a := if c = 0 then (cntH A A O (A 193 2) a b 100 0 (-5)).1 else (cntH A A O (A 193 2) a b 100 0 (-5)).2) (b := if c = 0 then (cntH A A O (A 193 2) a b 100 0 (-5)).1 else (cntH A A O (A 193 2) a b 100 0 (-5)).2) F hA (hX.scr (fun i j q => f2 i j (by omega))) hM (fun k g H => ?_) rfl
        show ∃ h', m_hates g a b c = _ ∧ _
        unfold m_hates m_isHater m_isTree
        rw [if_neg (by rw [H.s0, m_in0 (by omega)]; decide), if_neg (by rw [m_in0 (by omega)]; decide), if_neg (by rw [m_in0 (by omega)]; decide), wwP (by omega), ckP (by omega), H.r196]
        obtain ⟨q, e4, h', rfl, H'⟩ := M_hates_L (k := k) (what := c) (sv := A 196 (5 * a + b)) (W.wo (by omega)) (by omega) L c1 c2 hO (fun h4 y2 y3 => ck (5 * a + b) 30 <| if ww c = 0 then (some (y2, u2 h4 196 (5 * a + b) (A 196 (5 * a + b)))) else (some (y3, u2 h4 196 (5 * a + b) (A 196 (5 * a + b))))) (fun q => ∃ h', q = (if c = 0 then (cntH A A O (A 193 2) a b 100 0 (-5)).1 else (cntH A A O (A 193 2) a b 100 0 (-5)).2, h') ∧ MR k h' A) (fun h4 v H4 => by
          have H5 : MR k (u2 h4 196 (5 * a + b) (A 196 (5 * a + b))) A := (H4.w (c := 196) (j := 5 * a + b) (v := A 196 (5 * a + b)) (by omega)).eq fun i j _ => by
            unfold u2
            by_cases z : i = 196 ∧ j = 5 * a + b
            · rw [if_pos z, z.1, z.2]
            · rw [if_neg z, if_neg z]
          rcases c3 with rfl | rfl
          · refine ⟨_, ?_, _, rfl, H5⟩
            rw [ckP (by omega), if_pos (by decide), if_pos rfl]
          · refine ⟨_, ?_, _, rfl, H5⟩
            rw [ckP (by omega), if_neg (by decide), if_neg (by decide)]) 100 FU g 0 (-5) (A 196 (5 * a + b)) (by decide) (by decide) (H.eq fun i j _ => by
            unfold u2
            by_cases z : i = 196 ∧ j = 5 * a + b
            · rw [if_pos z, z.1, z.2]
            · rw [if_neg z]) rfl
        exact ⟨h', e4, H'⟩
      · refine key (-1) ?_ (fun k g H => ?_)
        · unfold x_hates; simp (disch := omega) only [reduceIte, ltT, ltF, eqT, eqF, leT, leF, wwP, ckP, ckzP, ckbP, u2S, u2N, u2T, ↓Option.bind_some, inB_T, inB_F, Bool.false_eq_true, m_in0, m_in1, ww_hasT, ww_treeT]
        · unfold m_hates m_isHater m_isTree; simp (disch := omega) only [reduceIte, ltT, ltF, eqT, eqF, leT, leF, wwP, ckP, ckzP, ckbP, u2S, u2N, u2T, ↓Option.bind_some, inB_T, inB_F, Bool.false_eq_true, m_in0, m_in1, H.s0]
    · refine key (-1) ?_ (fun k g H => ?_)
      · unfold x_hates; simp (disch := omega) only [reduceIte, ltT, ltF, eqT, eqF, leT, leF, wwP, ckP, ckzP, ckbP, u2S, u2N, u2T, ↓Option.bind_some, inB_T, inB_F, Bool.false_eq_true, m_in0, m_in1, ww_hasT, ww_treeF]
      · unfold m_hates m_isHater m_isTree; simp (disch := omega) only [reduceIte, ltT, ltF, eqT, eqF, leT, leF, wwP, ckP, ckzP, ckbP, u2S, u2N, u2T, ↓Option.bind_some, inB_T, inB_F, Bool.false_eq_true, m_in0, m_in1, H.s0]
  · refine key (-1) ?_ (fun k g H => ?_)
    · unfold x_hates; simp (disch := omega) only [reduceIte, ltT, ltF, eqT, eqF, leT, leF, wwP, ckP, ckzP, ckbP, u2S, u2N, u2T, ↓Option.bind_some, inB_T, inB_F, Bool.false_eq_true, m_in0, m_in1, ww_hasF]
    · unfold m_hates m_isHater m_isTree; simp (disch := omega) only [reduceIte, ltT, ltF, eqT, eqF, leT, leF, wwP, ckP, ckzP, ckbP, u2S, u2N, u2T, ↓Option.bind_some, inB_T, inB_F, Bool.false_eq_true, m_in0, m_in1, H.s0]
