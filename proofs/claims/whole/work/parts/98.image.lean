/- image and undo -/
def coreR (c j : Int) : Prop := (c = 193 ∧ (j = 0 ∨ j = 1 ∨ j = 2 ∨ j = 10)) ∨ ((c = 194 ∨ c = 195) ∧ 0 ≤ j ∧ j < 6) ∨ (c = 196 ∧ 0 ≤ j ∧ j < 30) ∨ (c = 197 ∧ 0 ≤ j ∧ j < 24) ∨ ((c = 198 ∨ c = 199) ∧ 0 ≤ j ∧ j < 5)
def listR (c j : Int) : Prop := (c = 193 ∧ (j = 38 ∨ j = 43 ∨ j = 44)) ∨ (216 ≤ c ∧ c ≤ 219 ∧ 0 ≤ j ∧ j < 5) ∨ ((c = 220 ∨ c = 221) ∧ 0 ≤ j ∧ j < 10) ∨ ((c = 222 ∨ c = 223) ∧ 0 ≤ j ∧ j < 8)
theorem XC.cgR {S : SS} {h : HH} {w : Int} {A A' : HH} (H : XC S h w A) (a : ∀ c j, coreR c j → A' c j = A c j) : XC S h w A' := by
  obtain ⟨h1, h2, h3, h4, h5, h6, h7, h8, h9, h10⟩ := H
  obtain ⟨n0, n6, h1⟩ := h1
  unfold XC
  rw [a 193 0 (by unfold coreR; omega), a 193 1 (by unfold coreR; omega), a 193 2 (by unfold coreR; omega), a 193 10 (by unfold coreR; omega)]
  refine ⟨⟨n0, n6, h1⟩, h2, h3, h4, fun p q r => ?_, h6, fun p t q r u v => ?_, fun p t q r u v => ?_, fun t u v => ?_, fun t u v => ?_⟩
  · rw [a 194 p (by unfold coreR; omega), a 195 p (by unfold coreR; omega)]; exact h5 p q r
  · rw [a 196 _ (by unfold coreR; omega)]; exact h7 p t q r u v
  · rw [a 197 _ (by unfold coreR; omega)]; exact h8 p t q r u v
  · rw [a 198 _ (by unfold coreR; omega)]; exact h9 t u v
  · rw [a 199 _ (by unfold coreR; omega)]; exact h10 t u v
theorem XL.cgR {h : HH} {w : Int} {A A' : HH} (H : XL h w A) (a : ∀ c j, listR c j → A' c j = A c j) : XL h w A' := by
  obtain ⟨h1, h2, h3, h4, h5, h6⟩ := H
  unfold XL
  rw [a 193 38 (by unfold listR; omega), a 193 43 (by unfold listR; omega), a 193 44 (by unfold listR; omega)]
  refine ⟨h1, h2, h3, fun i p q => ?_, fun i p q => ?_, fun i p q => ?_⟩
  · rw [a 216 i (by unfold listR; omega), a 217 i (by unfold listR; omega), a 218 i (by unfold listR; omega), a 219 i (by unfold listR; omega)]
    exact h4 i p q
  · rw [a 220 i (by unfold listR; omega), a 221 i (by unfold listR; omega)]
    exact h5 i p q
  · rw [a 222 i (by unfold listR; omega), a 223 i (by unfold listR; omega)]
    exact h6 i p q
theorem WOK.cgR {Y N : Int} {A A' : HH} (H : WOK Y N A) (a : ∀ c j, coreR c j → A' c j = A c j) : WOK Y N A' := by
  obtain ⟨h1, h2, h3, h4, h5, h6, h7, h8, h9, h10, h11⟩ := H
  unfold WOK
  rw [a 193 0 (by unfold coreR; omega), a 193 1 (by unfold coreR; omega), a 193 2 (by unfold coreR; omega), a 193 10 (by unfold coreR; omega)]
  refine ⟨h1, h2, h3, h4, fun p q r => ?_, fun p q r => ?_, fun p t q r u v => ?_, fun p t q r u v => ?_, fun t u v => ?_, fun t u v => ?_, fun t u a1 a2 a3 a4 a5 => ?_⟩
  · rw [a 194 p (by unfold coreR; omega)]; exact h5 p q r
  · rw [a 195 p (by unfold coreR; omega)]; exact h6 p q r
  · rw [a 196 _ (by unfold coreR; omega)]; exact h7 p t q r u v
  · rw [a 197 _ (by unfold coreR; omega)]; exact h8 p t q r u v
  · rw [a 198 _ (by unfold coreR; omega)]; exact h9 t u v
  · rw [a 199 _ (by unfold coreR; omega)]; exact h10 t u v
  · rw [a 199 t (by unfold coreR; omega), a 199 u (by unfold coreR; omega)]; exact h11 t u a1 a2 a3 a4 a5
theorem LOK.cgR {A A' : HH} (H : LOK A) (a : ∀ c j, listR c j → A' c j = A c j) (n : A 193 0 ≤ A' 193 0) : LOK A' := by
  obtain ⟨h1, h2, h3, h4, h5, h6, h7⟩ := H
  unfold LOK
  rw [a 193 38 (by unfold listR; omega), a 193 43 (by unfold listR; omega), a 193 44 (by unfold listR; omega)]
  refine ⟨h1, h2, h3, fun i p q => ?_, fun i p q => ?_, fun i p q => ?_, fun i p q => ?_⟩
  · rw [a 216 i (by unfold listR; omega), a 217 i (by unfold listR; omega), a 218 i (by unfold listR; omega), a 219 i (by unfold listR; omega)]
    have := h4 i p q; omega
  · rw [a 220 i (by unfold listR; omega), a 221 i (by unfold listR; omega)]
    have := h5 i p q; omega
  · rw [a 222 i (by unfold listR; omega), a 223 i (by unfold listR; omega)]
    exact h6 i p q
  · rw [a 219 i (by unfold listR; omega)]
    exact h7 i p q
def im0 (A : HH) : HH := u2 (u2 (u2 (u2 (u2 (u2 (u2 (u2 A 193 49 1) 193 50 (A 193 10)) 193 51 (A 193 0)) 193 52 (A 193 1)) 193 53 (A 193 2)) 193 54 (A 193 38)) 193 55 (A 193 43)) 193 56 (A 193 44)
def imageA (A : HH) : HH := mv g_235_236 (mv g_233_234 (mv g_228_229_230_231_232_237 (mv g_227 (mv g_226 (mv g_224_225 (im0 A) 6) 30) 24) 5) 10) 8
theorem im0_N {A : HH} {c j : Int} (h : c ≠ 193 ∨ j < 49 ∨ 56 < j) : im0 A c j = A c j := by unfold im0; simp (disch := omega) only [u2S, u2N, u2T]
theorem imageA_off {A : HH} {c j : Int} (h : ¬ imgC c j) : imageA A c j = A c j := by
  unfold imgC at h
  unfold imageA
  rw [mv_N (.inl (g_235_236_N (by omega))), mv_N (.inl (g_233_234_N (by omega))), mv_N (.inl (g_228_229_230_231_232_237_N (by omega))), mv_N (.inl (g_227_N (by omega))), mv_N (.inl (g_226_N (by omega))), mv_N (.inl (g_224_225_N (by omega))), im0_N (by omega)]
theorem imageA_s {A : HH} {j : Int} : imageA A 193 j = im0 A 193 j := by
  unfold imageA
  rw [mv_N (.inl (g_235_236_N (by omega))), mv_N (.inl (g_233_234_N (by omega))), mv_N (.inl (g_228_229_230_231_232_237_N (by omega))), mv_N (.inl (g_227_N (by omega))), mv_N (.inl (g_226_N (by omega))), mv_N (.inl (g_224_225_N (by omega)))]
theorem imageA_49 {A : HH} : imageA A 193 49 = 1 := by rw [imageA_s]; unfold im0; simp (disch := omega) only [u2S, u2N, u2T]
theorem imageA_r {A : HH} {j : Int} (h0 : 0 ≤ j) : (j < 6 → imageA A 224 j = A 194 j ∧ imageA A 225 j = A 195 j) ∧ (j < 30 → imageA A 226 j = A 196 j) ∧ (j < 24 → imageA A 227 j = A 197 j) ∧ (j < 5 → imageA A 228 j = A 198 j ∧ imageA A 229 j = A 199 j ∧ imageA A 230 j = A 216 j ∧ imageA A 231 j = A 217 j ∧ imageA A 232 j = A 218 j ∧ imageA A 237 j = A 219 j) ∧ (j < 10 → imageA A 233 j = A 220 j ∧ imageA A 234 j = A 221 j) ∧ (j < 8 → imageA A 235 j = A 222 j ∧ imageA A 236 j = A 223 j) := by
  have N5 : ∀ {B : HH} {x c j : Int}, (c ≠ 235 ∧ c ≠ 236) → mv g_235_236 B x c j = B c j := fun q => mv_N (.inl (g_235_236_N q))
  have N4 : ∀ {B : HH} {x c j : Int}, (c ≠ 233 ∧ c ≠ 234) → mv g_233_234 B x c j = B c j := fun q => mv_N (.inl (g_233_234_N q))
  have N3 : ∀ {B : HH} {x c j : Int}, (c ≠ 228 ∧ c ≠ 229 ∧ c ≠ 230 ∧ c ≠ 231 ∧ c ≠ 232 ∧ c ≠ 237) → mv g_228_229_230_231_232_237 B x c j = B c j := fun q => mv_N (.inl (g_228_229_230_231_232_237_N q))
  have N2 : ∀ {B : HH} {x c j : Int}, c ≠ 227 → mv g_227 B x c j = B c j := fun q => mv_N (.inl (g_227_N q))
  have N1 : ∀ {B : HH} {x c j : Int}, c ≠ 226 → mv g_226 B x c j = B c j := fun q => mv_N (.inl (g_226_N q))
  have N0 : ∀ {B : HH} {x c j : Int}, (c ≠ 224 ∧ c ≠ 225) → mv g_224_225 B x c j = B c j := fun q => mv_N (.inl (g_224_225_N q))
  unfold imageA
  refine ⟨fun h => ⟨?_, ?_⟩, fun h => ?_, fun h => ?_, fun h => ⟨?_, ?_, ?_, ?_, ?_, ?_⟩, fun h => ⟨?_, ?_⟩, fun h => ⟨?_, ?_⟩⟩
  · rw [N5 (by omega), N4 (by omega), N3 (by omega), N2 (by omega), N1 (by omega), mv_T ⟨by decide, by omega, by omega⟩, g_224_225_224, im0_N (by omega)]
  · rw [N5 (by omega), N4 (by omega), N3 (by omega), N2 (by omega), N1 (by omega), mv_T ⟨by decide, by omega, by omega⟩, g_224_225_225, im0_N (by omega)]
  · rw [N5 (by omega), N4 (by omega), N3 (by omega), N2 (by omega), mv_T ⟨by decide, by omega, by omega⟩, g_226_226, N0 (by omega), im0_N (by omega)]
  · rw [N5 (by omega), N4 (by omega), N3 (by omega), mv_T ⟨by decide, by omega, by omega⟩, g_227_227, N1 (by omega), N0 (by omega), im0_N (by omega)]
  · rw [N5 (by omega), N4 (by omega), mv_T ⟨by decide, by omega, by omega⟩, g_228_229_230_231_232_237_228, N2 (by omega), N1 (by omega), N0 (by omega), im0_N (by omega)]
  · rw [N5 (by omega), N4 (by omega), mv_T ⟨by decide, by omega, by omega⟩, g_228_229_230_231_232_237_229, N2 (by omega), N1 (by omega), N0 (by omega), im0_N (by omega)]
  · rw [N5 (by omega), N4 (by omega), mv_T ⟨by decide, by omega, by omega⟩, g_228_229_230_231_232_237_230, N2 (by omega), N1 (by omega), N0 (by omega), im0_N (by omega)]
  · rw [N5 (by omega), N4 (by omega), mv_T ⟨by decide, by omega, by omega⟩, g_228_229_230_231_232_237_231, N2 (by omega), N1 (by omega), N0 (by omega), im0_N (by omega)]
  · rw [N5 (by omega), N4 (by omega), mv_T ⟨by decide, by omega, by omega⟩, g_228_229_230_231_232_237_232, N2 (by omega), N1 (by omega), N0 (by omega), im0_N (by omega)]
  · rw [N5 (by omega), N4 (by omega), mv_T ⟨by decide, by omega, by omega⟩, g_228_229_230_231_232_237_237, N2 (by omega), N1 (by omega), N0 (by omega), im0_N (by omega)]
  · rw [N5 (by omega), mv_T ⟨by decide, by omega, by omega⟩, g_233_234_233, N3 (by omega), N2 (by omega), N1 (by omega), N0 (by omega), im0_N (by omega)]
  · rw [N5 (by omega), mv_T ⟨by decide, by omega, by omega⟩, g_233_234_234, N3 (by omega), N2 (by omega), N1 (by omega), N0 (by omega), im0_N (by omega)]
  · rw [mv_T ⟨by decide, by omega, by omega⟩, g_235_236_235, N4 (by omega), N3 (by omega), N2 (by omega), N1 (by omega), N0 (by omega), im0_N (by omega)]
  · rw [mv_T ⟨by decide, by omega, by omega⟩, g_235_236_236, N4 (by omega), N3 (by omega), N2 (by omega), N1 (by omega), N0 (by omega), im0_N (by omega)]
theorem imA_s {A : HH} {j : Int} : imA A 193 j = A 193 (imS j) := by unfold imA; rw [if_pos rfl]
theorem imA_c {A : HH} {c j : Int} (h : c ≠ 193) : imA A c j = A (imC c) j := by unfold imA; rw [if_neg h]
theorem rowC {c j : Int} (e : c ≠ 193) (h : coreR c j ∨ listR c j) (P : Int → Int → Prop) (hP : 0 ≤ j → (j < 6 → P 194 j ∧ P 195 j) ∧ (j < 30 → P 196 j) ∧ (j < 24 → P 197 j) ∧ (j < 5 → P 198 j ∧ P 199 j ∧ P 216 j ∧ P 217 j ∧ P 218 j ∧ P 219 j) ∧ (j < 10 → P 220 j ∧ P 221 j) ∧ (j < 8 → P 222 j ∧ P 223 j)) : P c j := by
  unfold coreR listR at h
  rcases h with (⟨h, -⟩ | ⟨rfl | rfl, a, b⟩ | ⟨rfl, a, b⟩ | ⟨rfl, a, b⟩ | ⟨rfl | rfl, a, b⟩) | (⟨h, -⟩ | ⟨h1, h2, a, b⟩ | ⟨rfl | rfl, a, b⟩ | ⟨rfl | rfl, a, b⟩)
  · exact absurd h e
  · exact ((hP a).1 b).1
  · exact ((hP a).1 b).2
  · exact (hP a).2.1 b
  · exact (hP a).2.2.1 b
  · exact ((hP a).2.2.2.1 b).1
  · exact ((hP a).2.2.2.1 b).2.1
  · exact absurd h e
  · have q := ((hP a).2.2.2.1 b).2.2
    have z : c = 216 ∨ c = 217 ∨ c = 218 ∨ c = 219 := by omega
    rcases z with rfl | rfl | rfl | rfl
    · exact q.1
    · exact q.2.1
    · exact q.2.2.1
    · exact q.2.2.2
  · exact ((hP a).2.2.2.2.1 b).1
  · exact ((hP a).2.2.2.2.1 b).2
  · exact ((hP a).2.2.2.2.2 b).1
  · exact ((hP a).2.2.2.2.2 b).2
theorem row0 {j : Int} (h : coreR 193 j ∨ listR 193 j) : j = 0 ∨ j = 1 ∨ j = 2 ∨ j = 10 ∨ j = 38 ∨ j = 43 ∨ j = 44 := by
  unfold coreR listR at h
  omega
theorem imageA_im {A : HH} (c j : Int) (h : coreR c j ∨ listR c j) : imA (imageA A) c j = A c j := by
  by_cases e : c = 193
  · subst e
    rw [imA_s, imageA_s]
    have q := row0 h
    rcases q with rfl | rfl | rfl | rfl | rfl | rfl | rfl
    · show im0 A 193 51 = _
      unfold im0; simp (disch := omega) only [u2S, u2N, u2T]
    · show im0 A 193 52 = _
      unfold im0; simp (disch := omega) only [u2S, u2N, u2T]
    · show im0 A 193 53 = _
      unfold im0; simp (disch := omega) only [u2S, u2N, u2T]
    · show im0 A 193 50 = _
      unfold im0; simp (disch := omega) only [u2S, u2N, u2T]
    · show im0 A 193 54 = _
      unfold im0; simp (disch := omega) only [u2S, u2N, u2T]
    · show im0 A 193 55 = _
      unfold im0; simp (disch := omega) only [u2S, u2N, u2T]
    · show im0 A 193 56 = _
      unfold im0; simp (disch := omega) only [u2S, u2N, u2T]
  · refine rowC e h (fun c j => imA (imageA A) c j = A c j) (fun j0 => ?_)
    obtain ⟨r1, r2, r3, r4, r5, r6⟩ := imageA_r (A := A) j0
    refine ⟨fun q => ⟨?_, ?_⟩, fun q => ?_, fun q => ?_, fun q => ⟨?_, ?_, ?_, ?_, ?_, ?_⟩, fun q => ⟨?_, ?_⟩, fun q => ⟨?_, ?_⟩⟩ <;> rw [imA_c (by decide)]
    · exact (r1 q).1
    · exact (r1 q).2
    · exact r2 q
    · exact r3 q
    · exact (r4 q).1
    · exact (r4 q).2.1
    · exact (r4 q).2.2.1
    · exact (r4 q).2.2.2.1
    · exact (r4 q).2.2.2.2.1
    · exact (r4 q).2.2.2.2.2
    · exact (r5 q).1
    · exact (r5 q).2
    · exact (r6 q).1
    · exact (r6 q).2
theorem M_image {k h A : HH} (H : MR k h A) (L : LOK A) : ∃ h', m_image h = some (A 193 0, h') ∧ MR k h' (imageA A) := by
  have H0 := (((((((H.w (c := 193) (j := 49) (v := 1) (by omega)).w (c := 193) (j := 50) (v := A 193 10) (by omega)).w (c := 193) (j := 51) (v := A 193 0) (by omega)).w (c := 193) (j := 52) (v := A 193 1) (by omega)).w (c := 193) (j := 53) (v := A 193 2) (by omega)).w (c := 193) (j := 54) (v := A 193 38) (by omega)).w (c := 193) (j := 55) (v := A 193 43) (by omega)).w (c := 193) (j := 56) (v := A 193 44) (by omega)
  have z : ∀ {g : Int → Int} {B : HH} {c j : Int}, mv g B 0 c j = B c j := fun {g B c j} => by rw [mv_N (by omega)]
  have fin : ∀ q : Int × HH, (∃ h', q = (A 193 0, h') ∧ MR k h' (imageA A)) → q.1 = A 193 0 ∧ MR k q.2 (imageA A) := fun q ⟨h', e, H'⟩ => by rw [e]; exact ⟨rfl, H'⟩
  obtain ⟨q, e, h', rfl, H'⟩ := m_image_L63_ok (k := k) (A := im0 A) (fun h1 => m_image_L101 (fun h2 => m_image_L127 (fun h3 => m_image_L153 (fun h4 => m_image_L238 (fun h5 => m_image_L276 FU h5 0) FU h4 0) FU h3 0) FU h2 0) FU h1 0) (fun q => ∃ h', q = (A 193 0, h') ∧ MR k h' (imageA A)) (fun h1 H1 =>
    m_image_L101_ok (A := mv g_224_225 (im0 A) 6) (fun h2 => m_image_L127 (fun h3 => m_image_L153 (fun h4 => m_image_L238 (fun h5 => m_image_L276 FU h5 0) FU h4 0) FU h3 0) FU h2 0) (fun q => ∃ h', q = (A 193 0, h') ∧ MR k h' (imageA A)) (fun h2 H2 =>
    m_image_L127_ok (A := mv g_226 (mv g_224_225 (im0 A) 6) 30) (fun h3 => m_image_L153 (fun h4 => m_image_L238 (fun h5 => m_image_L276 FU h5 0) FU h4 0) FU h3 0) (fun q => ∃ h', q = (A 193 0, h') ∧ MR k h' (imageA A)) (fun h3 H3 =>
    m_image_L153_ok (A := mv g_227 (mv g_226 (mv g_224_225 (im0 A) 6) 30) 24) (fun h4 => m_image_L238 (fun h5 => m_image_L276 FU h5 0) FU h4 0) (fun q => ∃ h', q = (A 193 0, h') ∧ MR k h' (imageA A)) (fun i i0 i1 => by
      rw [mv_N (.inl (g_227_N (by omega))), mv_N (.inl (g_226_N (by omega))), mv_N (.inl (g_224_225_N (by omega))), im0_N (by omega)]
      exact L.2.2.2.2.2.2 i i0 i1) (fun h4 H4 =>
    m_image_L238_ok (A := mv g_228_229_230_231_232_237 (mv g_227 (mv g_226 (mv g_224_225 (im0 A) 6) 30) 24) 5) (fun h5 => m_image_L276 FU h5 0) (fun q => ∃ h', q = (A 193 0, h') ∧ MR k h' (imageA A)) (fun h5 H5 => by
      obtain ⟨h6, e6, H6⟩ := m_image_L276_ok (A := mv g_233_234 (mv g_228_229_230_231_232_237 (mv g_227 (mv g_226 (mv g_224_225 (im0 A) 6) 30) 24) 5) 10) 8 FU h5 0 rfl (by omega) (by decide) (H5.eq fun c j _ => z)
      refine ⟨_, e6, h6, ?_, H6⟩
      rw [mv_N (.inl (g_233_234_N (by omega))), mv_N (.inl (g_228_229_230_231_232_237_N (by omega))), mv_N (.inl (g_227_N (by omega))), mv_N (.inl (g_226_N (by omega))), mv_N (.inl (g_224_225_N (by omega))), im0_N (by omega)]) 10 FU h4 0 rfl (by omega) (by decide) (H4.eq fun c j _ => z)) 5 FU h3 0 rfl (by omega) (by decide) (H3.eq fun c j _ => z)) 24 FU h2 0 rfl (by omega) (by decide) (H2.eq fun c j _ => z)) 30 FU h1 0 rfl (by omega) (by decide) (H1.eq fun c j _ => z)) 6 FU _ 0 rfl (by omega) (by decide) (H0.eq fun c j _ => z)
  refine ⟨h', ?_, H'⟩
  unfold m_image
  simp (disch := omega) only [u2S, u2N, u2T, H.s0, H.s1, H.s2, H.s10, H.s38, H.s43, H.s44]
  exact e
