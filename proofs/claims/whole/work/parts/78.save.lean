def saveA (A : HH) : HH := mv g_211_212 (mv g_210 (u2 (u2 (u2 A 193 27 2000000000) 193 28 (A 193 1)) 193 29 (A 193 2)) 30) 5
def backA (B : HH) : HH := mv g_198_199 (mv g_196 (u2 (u2 (u2 B 193 27 9999) 193 1 (B 193 28)) 193 2 (B 193 29)) 30) 5
theorem M_save {k h A : HH} (H : MR k h A) : ∃ h', m_save h = some h' ∧ MR k h' (saveA A) := by
  unfold m_save saveA
  simp (disch := omega) only [reduceIte, ltT, ltF, eqT, eqF, leT, leF, wwP, ckP, ckzP, ckbP, u2S, u2N, u2T, ↓Option.bind_some, inB_T, inB_F, Bool.false_eq_true, m_in0, m_in1, H.s1, H.s2]
  have H1 := ((H.w (c := 193) (j := 27) (v := 2000000000) (by omega)).w (c := 193) (j := 28) (v := A 193 1) (by omega)).w (c := 193) (j := 29) (v := A 193 2) (by omega)
  exact m_save_L25_ok (A := u2 (u2 (u2 A 193 27 2000000000) 193 28 (A 193 1)) 193 29 (A 193 2)) (fun h1 => m_save_L51 FU h1 0) (fun q => MR k q _) (fun h2 H2 => m_save_L51_ok 5 FU h2 0 rfl (by omega) (by decide) (H2.eq fun c j _ => mv_N (by omega))) 30 FU _ 0 rfl (by omega) (by decide) (H1.eq fun c j _ => mv_N (by omega))
theorem M_back {k h B : HH} (H : MR k h B) : ∃ h', m_putBack h = some h' ∧ MR k h' (backA B) := by
  unfold m_putBack backA
  simp (disch := omega) only [reduceIte, ltT, ltF, eqT, eqF, leT, leF, wwP, ckP, ckzP, ckbP, u2S, u2N, u2T, ↓Option.bind_some, inB_T, inB_F, Bool.false_eq_true, m_in0, m_in1, H.s28, H.s29]
  have H1 := ((H.w (c := 193) (j := 27) (v := 9999) (by omega)).w (c := 193) (j := 1) (v := B 193 28) (by omega)).w (c := 193) (j := 2) (v := B 193 29) (by omega)
  exact m_putBack_L25_ok (A := u2 (u2 (u2 B 193 27 9999) 193 1 (B 193 28)) 193 2 (B 193 29)) (fun h1 => m_putBack_L51 FU h1 0) (fun q => MR k q _) (fun h2 H2 => m_putBack_L51_ok 5 FU h2 0 rfl (by omega) (by decide) (H2.eq fun c j _ => mv_N (by omega))) 30 FU _ 0 rfl (by omega) (by decide) (H1.eq fun c j _ => mv_N (by omega))
theorem saveA_off {A : HH} {c j : Int} (h : ¬ scC c j) (h2 : ¬ (c = 193 ∧ j = 27)) : saveA A c j = A c j := by
  unfold scC at h
  unfold saveA
  rw [mv_N (.inl (g_211_212_N (by omega))), mv_N (.inl (g_210_N (by omega)))]
  simp (disch := omega) only [u2S, u2N, u2T]
theorem saveA_27 {A : HH} : saveA A 193 27 = 2000000000 := by
  unfold saveA
  rw [mv_N (.inl rfl), mv_N (.inl rfl)]
  simp (disch := omega) only [u2S, u2N, u2T]
theorem saveA_s {A : HH} : saveA A 193 28 = A 193 1 ∧ saveA A 193 29 = A 193 2 ∧ (∀ j, 0 ≤ j → j < 30 → saveA A 210 j = A 196 j) ∧ (∀ j, 0 ≤ j → j < 5 → saveA A 211 j = A 198 j ∧ saveA A 212 j = A 199 j) := by
  unfold saveA
  refine ⟨?_, ?_, fun j a b => ?_, fun j a b => ⟨?_, ?_⟩⟩
  · rw [mv_N (.inl rfl), mv_N (.inl rfl)]; simp (disch := omega) only [u2S, u2N, u2T]
  · rw [mv_N (.inl rfl), mv_N (.inl rfl)]; simp (disch := omega) only [u2S, u2N, u2T]
  · rw [mv_N (.inl rfl), mv_T ⟨by decide, a, b⟩, g_210_210]; simp (disch := omega) only [u2S, u2N, u2T]
  · rw [mv_T ⟨by decide, a, b⟩, g_211_212_211, mv_N (.inl rfl)]; simp (disch := omega) only [u2S, u2N, u2T]
  · rw [mv_T ⟨by decide, a, b⟩, g_211_212_212, mv_N (.inl rfl)]; simp (disch := omega) only [u2S, u2N, u2T]
/-- what a year, a plan's row or the like changes -/
def coreI (c j : Int) : Prop := (c = 193 ∧ (j = 1 ∨ j = 2)) ∨ (c = 196 ∧ 0 ≤ j ∧ j < 30) ∨ ((c = 198 ∨ c = 199) ∧ 0 ≤ j ∧ j < 5)
theorem back_ok {A B : HH} (h27 : A 193 27 = 9999) (hB : ∀ c j, ¬ coreI c j → B c j = saveA A c j) (c j : Int) (h : ¬ scC c j) : backA B c j = A c j := by
  obtain ⟨s1, s2, s3, s4⟩ := @saveA_s A
  have h' := h
  unfold scC at h'
  unfold backA
  by_cases c1 : (c = 198 ∨ c = 199) ∧ 0 ≤ j ∧ j < 5
  · obtain ⟨c1, j0, j5⟩ := c1
    have b1 := hB 211 j (by unfold coreI; omega)
    have b2 := hB 212 j (by unfold coreI; omega)
    obtain ⟨q1, q2⟩ := s4 j j0 j5
    rcases c1 with rfl | rfl
    · rw [mv_T ⟨by decide, j0, j5⟩, g_198_199_198, mv_N (.inl rfl)]; simp (disch := omega) only [u2S, u2N, u2T]; rw [b1, q1]
    · rw [mv_T ⟨by decide, j0, j5⟩, g_198_199_199, mv_N (.inl rfl)]; simp (disch := omega) only [u2S, u2N, u2T]; rw [b2, q2]
  · rw [mv_N (by
      by_cases z : c = 198 ∨ c = 199
      · omega
      · exact .inl (g_198_199_N (by omega)))]
    by_cases c2 : c = 196 ∧ 0 ≤ j ∧ j < 30
    · obtain ⟨rfl, j0, j5⟩ := c2
      have b1 := hB 210 j (by unfold coreI; omega)
      rw [mv_T ⟨by decide, j0, j5⟩, g_196_196]; simp (disch := omega) only [u2S, u2N, u2T]; rw [b1, s3 j j0 j5]
    · rw [mv_N (by
        by_cases z : c = 196
        · omega
        · exact .inl (g_196_N z))]
      have b28 := hB 193 28 (by unfold coreI; omega)
      have b29 := hB 193 29 (by unfold coreI; omega)
      by_cases e : c = 193
      · subst e
        by_cases e1 : j = 27
        · subst e1; simp (disch := omega) only [u2S, u2N, u2T]; exact h27.symm
        · by_cases e2 : j = 1
          · subst e2; simp (disch := omega) only [u2S, u2N, u2T]; rw [b28, s1]
          · by_cases e3 : j = 2
            · subst e3; simp (disch := omega) only [u2S, u2N, u2T]; rw [b29, s2]
            · simp (disch := omega) only [u2S, u2N, u2T]; rw [hB 193 j (by unfold coreI; omega), saveA_off h (by omega)]
      · simp (disch := omega) only [u2S, u2N, u2T]; rw [hB c j (by unfold coreI; omega), saveA_off h (by omega)]
theorem M_wears {k h A : HH} {Y N p t : Int} (H : MR k h A) (W : WO Y N A) (hp : 0 ≤ p ∧ p < A 193 0) (ht : 0 ≤ t ∧ t < 5) {O : Int → List CL} (hO : OM A O) : ∃ h', m_wears h p t = some h' ∧ MR k h' (u2 A 196 (5 * p + t) (max0 (A 196 (5 * p + t) - wearA A O))) := by
  unfold m_wears
  have n0 := W.1
  have wr := M_wear H hO
  have wb := wear_b hO
  have hh := W.2.2.2.2.2.2.1 p t hp.1 hp.2 ht.1 ht.2
  have H2 := H.w (c := 196) (j := 5 * p + t) (v := max0 (A 196 (5 * p + t) - wearA A O)) (by omega)
  by_cases c : A 196 (5 * p + t) - wearA A O < 0
  · have em : max0 (A 196 (5 * p + t) - wearA A O) = 0 := by unfold max0; rw [if_pos c]
    rw [em] at H2 ⊢
    simp (disch := omega) only [reduceIte, ltT, ltF, eqT, eqF, leT, leF, wwP, ckP, ckzP, ckbP, u2S, u2N, u2T, ↓Option.bind_some, inB_T, inB_F, Bool.false_eq_true, m_in0, m_in1, wr, H.r196]
    exact ⟨_, rfl, H2⟩
  · have em : max0 (A 196 (5 * p + t) - wearA A O) = A 196 (5 * p + t) - wearA A O := by unfold max0; rw [if_neg c]
    rw [em] at H2 ⊢
    simp (disch := omega) only [reduceIte, ltT, ltF, eqT, eqF, leT, leF, wwP, ckP, ckzP, ckbP, u2S, u2N, u2T, ↓Option.bind_some, inB_T, inB_F, Bool.false_eq_true, m_in0, m_in1, wr, H.r196]
    exact ⟨_, rfl, H2⟩
