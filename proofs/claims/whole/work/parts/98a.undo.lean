def un0 (A : HH) : HH := u2 (u2 (u2 (u2 (u2 (u2 (u2 A 193 10 (A 193 50)) 193 0 (A 193 51)) 193 1 (A 193 52)) 193 2 (A 193 53)) 193 38 (A 193 54)) 193 43 (A 193 55)) 193 44 (A 193 56)
def undoA (A : HH) : HH := mv gu_222_223 (mv gu_220_221 (mv gu_198_199_216_217_218_219 (mv gu_197 (mv gu_196 (mv gu_194_195 (un0 A) 6) 30) 24) 5) 10) 8
theorem un0_N {A : HH} {c j : Int} (h : c ≠ 193) : un0 A c j = A c j := by unfold un0; simp (disch := omega) only [u2S, u2N, u2T]
theorem undoA_s {A : HH} {j : Int} : undoA A 193 j = un0 A 193 j := by
  unfold undoA
  rw [mv_N (.inl (gu_222_223_N (by omega))), mv_N (.inl (gu_220_221_N (by omega))), mv_N (.inl (gu_198_199_216_217_218_219_N (by omega))), mv_N (.inl (gu_197_N (by omega))), mv_N (.inl (gu_196_N (by omega))), mv_N (.inl (gu_194_195_N (by omega)))]
theorem undoA_off {A : HH} {c j : Int} (h : ¬ (coreC c j ∨ listC c j)) : undoA A c j = A c j := by
  unfold coreC listC at h
  by_cases e : c = 193
  · subst e
    rw [undoA_s]
    unfold un0
    simp (disch := omega) only [u2S, u2N, u2T]
  · unfold undoA
    rw [mv_N (.inl (gu_222_223_N (by omega))), mv_N (.inl (gu_220_221_N (by omega))), mv_N (.inl (gu_198_199_216_217_218_219_N (by omega))), mv_N (.inl (gu_197_N (by omega))), mv_N (.inl (gu_196_N (by omega))), mv_N (.inl (gu_194_195_N (by omega))), un0_N (by omega)]
theorem undoA_r {A : HH} {j : Int} (h0 : 0 ≤ j) : (j < 6 → undoA A 194 j = A 224 j ∧ undoA A 195 j = A 225 j) ∧ (j < 30 → undoA A 196 j = A 226 j) ∧ (j < 24 → undoA A 197 j = A 227 j) ∧ (j < 5 → undoA A 198 j = A 228 j ∧ undoA A 199 j = A 229 j ∧ undoA A 216 j = A 230 j ∧ undoA A 217 j = A 231 j ∧ undoA A 218 j = A 232 j ∧ undoA A 219 j = A 237 j) ∧ (j < 10 → undoA A 220 j = A 233 j ∧ undoA A 221 j = A 234 j) ∧ (j < 8 → undoA A 222 j = A 235 j ∧ undoA A 223 j = A 236 j) := by
  have N5 : ∀ {B : HH} {x c j : Int}, (c ≠ 222 ∧ c ≠ 223) → mv gu_222_223 B x c j = B c j := fun q => mv_N (.inl (gu_222_223_N q))
  have N4 : ∀ {B : HH} {x c j : Int}, (c ≠ 220 ∧ c ≠ 221) → mv gu_220_221 B x c j = B c j := fun q => mv_N (.inl (gu_220_221_N q))
  have N3 : ∀ {B : HH} {x c j : Int}, (c ≠ 198 ∧ c ≠ 199 ∧ c ≠ 216 ∧ c ≠ 217 ∧ c ≠ 218 ∧ c ≠ 219) → mv gu_198_199_216_217_218_219 B x c j = B c j := fun q => mv_N (.inl (gu_198_199_216_217_218_219_N q))
  have N2 : ∀ {B : HH} {x c j : Int}, c ≠ 197 → mv gu_197 B x c j = B c j := fun q => mv_N (.inl (gu_197_N q))
  have N1 : ∀ {B : HH} {x c j : Int}, c ≠ 196 → mv gu_196 B x c j = B c j := fun q => mv_N (.inl (gu_196_N q))
  have N0 : ∀ {B : HH} {x c j : Int}, (c ≠ 194 ∧ c ≠ 195) → mv gu_194_195 B x c j = B c j := fun q => mv_N (.inl (gu_194_195_N q))
  unfold undoA
  refine ⟨fun h => ⟨?_, ?_⟩, fun h => ?_, fun h => ?_, fun h => ⟨?_, ?_, ?_, ?_, ?_, ?_⟩, fun h => ⟨?_, ?_⟩, fun h => ⟨?_, ?_⟩⟩
  · rw [N5 (by omega), N4 (by omega), N3 (by omega), N2 (by omega), N1 (by omega), mv_T ⟨by decide, by omega, by omega⟩, gu_194_195_194, un0_N (by omega)]
  · rw [N5 (by omega), N4 (by omega), N3 (by omega), N2 (by omega), N1 (by omega), mv_T ⟨by decide, by omega, by omega⟩, gu_194_195_195, un0_N (by omega)]
  · rw [N5 (by omega), N4 (by omega), N3 (by omega), N2 (by omega), mv_T ⟨by decide, by omega, by omega⟩, gu_196_196, N0 (by omega), un0_N (by omega)]
  · rw [N5 (by omega), N4 (by omega), N3 (by omega), mv_T ⟨by decide, by omega, by omega⟩, gu_197_197, N1 (by omega), N0 (by omega), un0_N (by omega)]
  · rw [N5 (by omega), N4 (by omega), mv_T ⟨by decide, by omega, by omega⟩, gu_198_199_216_217_218_219_198, N2 (by omega), N1 (by omega), N0 (by omega), un0_N (by omega)]
  · rw [N5 (by omega), N4 (by omega), mv_T ⟨by decide, by omega, by omega⟩, gu_198_199_216_217_218_219_199, N2 (by omega), N1 (by omega), N0 (by omega), un0_N (by omega)]
  · rw [N5 (by omega), N4 (by omega), mv_T ⟨by decide, by omega, by omega⟩, gu_198_199_216_217_218_219_216, N2 (by omega), N1 (by omega), N0 (by omega), un0_N (by omega)]
  · rw [N5 (by omega), N4 (by omega), mv_T ⟨by decide, by omega, by omega⟩, gu_198_199_216_217_218_219_217, N2 (by omega), N1 (by omega), N0 (by omega), un0_N (by omega)]
  · rw [N5 (by omega), N4 (by omega), mv_T ⟨by decide, by omega, by omega⟩, gu_198_199_216_217_218_219_218, N2 (by omega), N1 (by omega), N0 (by omega), un0_N (by omega)]
  · rw [N5 (by omega), N4 (by omega), mv_T ⟨by decide, by omega, by omega⟩, gu_198_199_216_217_218_219_219, N2 (by omega), N1 (by omega), N0 (by omega), un0_N (by omega)]
  · rw [N5 (by omega), mv_T ⟨by decide, by omega, by omega⟩, gu_220_221_220, N3 (by omega), N2 (by omega), N1 (by omega), N0 (by omega), un0_N (by omega)]
  · rw [N5 (by omega), mv_T ⟨by decide, by omega, by omega⟩, gu_220_221_221, N3 (by omega), N2 (by omega), N1 (by omega), N0 (by omega), un0_N (by omega)]
  · rw [mv_T ⟨by decide, by omega, by omega⟩, gu_222_223_222, N4 (by omega), N3 (by omega), N2 (by omega), N1 (by omega), N0 (by omega), un0_N (by omega)]
  · rw [mv_T ⟨by decide, by omega, by omega⟩, gu_222_223_223, N4 (by omega), N3 (by omega), N2 (by omega), N1 (by omega), N0 (by omega), un0_N (by omega)]
theorem undoA_im {A : HH} (c j : Int) (h : coreR c j ∨ listR c j) : undoA A c j = imA A c j := by
  by_cases e : c = 193
  · subst e
    rw [imA_s, undoA_s]
    have q := row0 h
    rcases q with rfl | rfl | rfl | rfl | rfl | rfl | rfl
    · show un0 A 193 0 = A 193 51
      unfold un0; simp (disch := omega) only [u2S, u2N, u2T]
    · show un0 A 193 1 = A 193 52
      unfold un0; simp (disch := omega) only [u2S, u2N, u2T]
    · show un0 A 193 2 = A 193 53
      unfold un0; simp (disch := omega) only [u2S, u2N, u2T]
    · show un0 A 193 10 = A 193 50
      unfold un0; simp (disch := omega) only [u2S, u2N, u2T]
    · show un0 A 193 38 = A 193 54
      unfold un0; simp (disch := omega) only [u2S, u2N, u2T]
    · show un0 A 193 43 = A 193 55
      unfold un0; simp (disch := omega) only [u2S, u2N, u2T]
    · show un0 A 193 44 = A 193 56
      unfold un0; simp (disch := omega) only [u2S, u2N, u2T]
  · refine rowC e h (fun c j => undoA A c j = imA A c j) (fun j0 => ?_)
    obtain ⟨r1, r2, r3, r4, r5, r6⟩ := undoA_r (A := A) j0
    refine ⟨fun q => ⟨?_, ?_⟩, fun q => ?_, fun q => ?_, fun q => ⟨?_, ?_, ?_, ?_, ?_, ?_⟩, fun q => ⟨?_, ?_⟩, fun q => ⟨?_, ?_⟩⟩ <;> rw [imA_c (by decide)]
    · exact (r1 q).1
    · exact (r1 q).2
    · exact r2 q
    · exact r3 q
    · exact (r4 q).1
    · exact (r4 q).2.1
    · exact (r4 q).2.2.1
    · exact (r4 q).2.2.2.1
    · exact (r4 q).2.2.2.2.1
    · exact (r4 q).2.2.2.2.2
    · exact (r5 q).1
    · exact (r5 q).2
    · exact (r6 q).1
    · exact (r6 q).2
theorem M_undo {k h A : HH} (H : MR k h A) (h49 : A 193 49 = 1) (L : LOK (imA A)) : ∃ h', m_undo h = some (undoA A 193 0, h') ∧ MR k h' (undoA A) := by
  have H0 := ((((((H.w (c := 193) (j := 10) (v := A 193 50) (by omega)).w (c := 193) (j := 0) (v := A 193 51) (by omega)).w (c := 193) (j := 1) (v := A 193 52) (by omega)).w (c := 193) (j := 2) (v := A 193 53) (by omega)).w (c := 193) (j := 38) (v := A 193 54) (by omega)).w (c := 193) (j := 43) (v := A 193 55) (by omega)).w (c := 193) (j := 44) (v := A 193 56) (by omega)
  have z : ∀ {g : Int → Int} {B : HH} {c j : Int}, mv g B 0 c j = B c j := fun {g B c j} => by rw [mv_N (by omega)]
  obtain ⟨q, e, h', rfl, H'⟩ := m_undo_L68_ok (k := k) (A := un0 A) (fun h1 => m_undo_L106 (fun h2 => m_undo_L132 (fun h3 => m_undo_L158 (fun h4 => m_undo_L243 (fun h5 => m_undo_L281 FU h5 0) FU h4 0) FU h3 0) FU h2 0) FU h1 0) (fun q => ∃ h', q = (undoA A 193 0, h') ∧ MR k h' (undoA A)) (fun h1 H1 =>
    m_undo_L106_ok (A := mv gu_194_195 (un0 A) 6) (fun h2 => m_undo_L132 (fun h3 => m_undo_L158 (fun h4 => m_undo_L243 (fun h5 => m_undo_L281 FU h5 0) FU h4 0) FU h3 0) FU h2 0) (fun q => ∃ h', q = (undoA A 193 0, h') ∧ MR k h' (undoA A)) (fun h2 H2 =>
    m_undo_L132_ok (A := mv gu_196 (mv gu_194_195 (un0 A) 6) 30) (fun h3 => m_undo_L158 (fun h4 => m_undo_L243 (fun h5 => m_undo_L281 FU h5 0) FU h4 0) FU h3 0) (fun q => ∃ h', q = (undoA A 193 0, h') ∧ MR k h' (undoA A)) (fun h3 H3 =>
    m_undo_L158_ok (A := mv gu_197 (mv gu_196 (mv gu_194_195 (un0 A) 6) 30) 24) (fun h4 => m_undo_L243 (fun h5 => m_undo_L281 FU h5 0) FU h4 0) (fun q => ∃ h', q = (undoA A 193 0, h') ∧ MR k h' (undoA A)) (fun i i0 i1 => by
      rw [mv_N (.inl (gu_197_N (by omega))), mv_N (.inl (gu_196_N (by omega))), mv_N (.inl (gu_194_195_N (by omega))), un0_N (by omega)]
      exact L.2.2.2.2.2.2 i i0 i1) (fun h4 H4 =>
    m_undo_L243_ok (A := mv gu_198_199_216_217_218_219 (mv gu_197 (mv gu_196 (mv gu_194_195 (un0 A) 6) 30) 24) 5) (fun h5 => m_undo_L281 FU h5 0) (fun q => ∃ h', q = (undoA A 193 0, h') ∧ MR k h' (undoA A)) (fun h5 H5 => by
      obtain ⟨h6, e6, H6⟩ := m_undo_L281_ok (A := mv gu_220_221 (mv gu_198_199_216_217_218_219 (mv gu_197 (mv gu_196 (mv gu_194_195 (un0 A) 6) 30) 24) 5) 10) 8 FU h5 0 rfl (by omega) (by decide) (H5.eq fun c j _ => z)
      refine ⟨_, e6, h6, ?_, H6⟩
      unfold undoA
      rw [mv_N (g := gu_222_223) (.inl (gu_222_223_N (by omega)))]) 10 FU h4 0 rfl (by omega) (by decide) (H4.eq fun c j _ => z)) 5 FU h3 0 rfl (by omega) (by decide) (H3.eq fun c j _ => z)) 24 FU h2 0 rfl (by omega) (by decide) (H2.eq fun c j _ => z)) 30 FU h1 0 rfl (by omega) (by decide) (H1.eq fun c j _ => z)) 6 FU _ 0 rfl (by omega) (by decide) (H0.eq fun c j _ => z)
  refine ⟨h', ?_, H'⟩
  unfold m_undo
  rw [if_neg (by rw [H.s49, h49]; decide)]
  simp (disch := omega) only [u2S, u2N, u2T, H.s50, H.s51, H.s52, H.s53, H.s54, H.s55, H.s56]
  exact e
