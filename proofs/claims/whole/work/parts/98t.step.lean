/-- one step of the law -/
theorem inv_step (h : HH) (S : SS) (w : Int → Int) (F : Fx S) (I : Inv h S) (hw : ∀ k, ∃ x : Int32, w k = x.toInt) : ∃ r, law_case S h w = some r ∧ Fx r.2 ∧ Inv r.1 r.2 := by
  have b : ∀ k, -2147483648 ≤ w k ∧ w k ≤ 2147483647 := fun k => isI_of (hw k)
  unfold law_case
  by_cases c0 : ww (zand (w 0) 63) = 0
  · rw [if_pos c0]
    exact st_hater F I (b 1) (b 2) (b 3)
  rw [if_neg c0]
  by_cases c1 : ww (zand (w 0) 63) = 1
  · rw [if_pos c1]
    exact st_of F I (b 1) (b 2)
  rw [if_neg c1]
  by_cases c2 : ww (zand (w 0) 63) = 2
  · rw [if_pos c2]
    exact st_hate F I (b 1) (b 2) (b 3)
  rw [if_neg c2]
  by_cases c3 : ww (zand (w 0) 63) = 3
  · rw [if_pos c3]
    exact st_lead F I (b 1) (b 2)
  rw [if_neg c3]
  by_cases c4 : ww (zand (w 0) 63) = 4
  · rw [if_pos c4]
    by_cases z : ww (w 2) = 0
    · simp only [z, ↓reduceIte]
      exact st_leave F I (b 1) (.inl rfl)
    · simp only [z, ↓reduceIte]
      exact st_leave F I (b 1) (.inr rfl)
  rw [if_neg c4]
  by_cases c5 : ww (zand (w 0) 63) = 5
  · rw [if_pos c5]
    exact st_row F I (b 1) (b 2) (b 3)
  rw [if_neg c5]
  by_cases c6 : ww (zand (w 0) 63) = 6
  · rw [if_pos c6]
    exact st_feed F I (b 1)
  rw [if_neg c6]
  by_cases c7 : ww (zand (w 0) 63) = 7
  · rw [if_pos c7]
    exact st_orchard F I 
  rw [if_neg c7]
  by_cases c8 : ww (zand (w 0) 63) = 8
  · rw [if_pos c8]
    exact st_told F I (b 1)
  rw [if_neg c8]
  by_cases c9 : ww (zand (w 0) 63) = 9
  · rw [if_pos c9]
    exact st_pass F I (b 1)
  rw [if_neg c9]
  by_cases c10 : ww (zand (w 0) 63) = 10
  · rw [if_pos c10]
    exact st_on F I (b 1) (b 2)
  rw [if_neg c10]
  by_cases c11 : ww (zand (w 0) 63) = 11
  · rw [if_pos c11]
    exact st_ring F I (b 1)
  rw [if_neg c11]
  by_cases c12 : ww (zand (w 0) 63) = 12
  · rw [if_pos c12]
    exact st_turn F I (b 1) (b 2) (b 3)
  rw [if_neg c12]
  by_cases c13 : ww (zand (w 0) 63) = 13
  · rw [if_pos c13]
    by_cases z : ww (w 4) = 0
    · simp only [z, ↓reduceIte]
      exact st_see F I (b 1) (b 2) (b 3) (.inl rfl)
    · simp only [z, ↓reduceIte]
      exact st_see F I (b 1) (b 2) (b 3) (.inr rfl)
  rw [if_neg c13]
  by_cases c14 : ww (zand (w 0) 63) = 14
  · rw [if_pos c14]
    exact st_hates F I (b 1) (b 2) (b 3)
  rw [if_neg c14]
  by_cases c15 : ww (zand (w 0) 63) = 15
  · rw [if_pos c15]
    exact st_can F I (b 1) (b 2)
  rw [if_neg c15]
  by_cases c16 : ww (zand (w 0) 63) = 16
  · rw [if_pos c16]
    exact st_odds F I (b 1) (b 2)
  rw [if_neg c16]
  by_cases c17 : ww (zand (w 0) 63) = 17
  · rw [if_pos c17]
    exact st_mean F I (b 1) (b 2)
  rw [if_neg c17]
  by_cases c18 : ww (zand (w 0) 63) = 18
  · rw [if_pos c18]
    exact st_plan F I (b 1) (b 2)
  rw [if_neg c18]
  by_cases c19 : ww (zand (w 0) 63) = 19
  · rw [if_pos c19]
    exact st_ends F I (b 1)
  rw [if_neg c19]
  by_cases c20 : ww (zand (w 0) 63) = 20
  · rw [if_pos c20]
    exact st_book F I (b 1) (b 2)
  rw [if_neg c20]
  by_cases c21 : ww (zand (w 0) 63) = 21
  · rw [if_pos c21]
    exact st_looked F I 
  rw [if_neg c21]
  by_cases c22 : ww (zand (w 0) 63) = 22
  · rw [if_pos c22]
    exact st_judge F I (b 1) (b 2)
  rw [if_neg c22]
  by_cases c23 : ww (zand (w 0) 63) = 23
  · rw [if_pos c23]
    exact st_image F I 
  rw [if_neg c23]
  by_cases c24 : ww (zand (w 0) 63) = 24
  · rw [if_pos c24]
    exact st_undo F I 
  rw [if_neg c24]
  by_cases c25 : ww (zand (w 0) 63) = 25
  · rw [if_pos c25]
    exact st_act F I (b 1) (b 2)
  rw [if_neg c25]
  by_cases c26 : ww (zand (w 0) 63) = 26
  · rw [if_pos c26]
    exact st_trace F I (b 1)
  rw [if_neg c26]
  by_cases c27 : ww (zand (w 0) 63) = 27
  · rw [if_pos c27]
    exact st_taken F I (b 1) (b 2)
  rw [if_neg c27]
  by_cases c28 : ww (zand (w 0) 63) = 28
  · rw [if_pos c28]
    exact st_count F I (b 1)
  rw [if_neg c28]
  by_cases c29 : ww (zand (w 0) 63) = 29
  · rw [if_pos c29]
    exact st_tape F I (b 1) (b 2) (b 3)
  rw [if_neg c29]
  by_cases c30 : ww (zand (w 0) 63) = 30
  · rw [if_pos c30]
    exact st_item F I (b 1) (b 2)
  rw [if_neg c30]
  by_cases c31 : ww (zand (w 0) 63) = 31
  · rw [if_pos c31]
    exact st_read F I (b 1) (b 2)
  rw [if_neg c31]
  by_cases c32 : ww (zand (w 0) 63) = 32
  · rw [if_pos c32]
    exact st_shift F I (b 1) (b 2) (b 3) (b 4) (b 5)
  rw [if_neg c32]
  exact ⟨(h, S), rfl, F, I⟩
