/-- the rows of g(c) are copied to c, the first x items -/
def mv (g : Int → Int) (A : HH) (x : Int) : HH := fun c j => if g c ≠ 0 ∧ 0 ≤ j ∧ j < x then A (g c) j else A c j
theorem mv_at {g : Int → Int} {A : HH} {x c j : Int} : mv g A x c j = if g c ≠ 0 ∧ 0 ≤ j ∧ j < x then A (g c) j else A c j := rfl
theorem mv_N {g : Int → Int} {A : HH} {x c j : Int} (h : g c = 0 ∨ j < 0 ∨ x ≤ j) : mv g A x c j = A c j := by rw [mv_at, if_neg (by omega)]
theorem mv_T {g : Int → Int} {A : HH} {x c j : Int} (h : g c ≠ 0 ∧ 0 ≤ j ∧ j < x) : mv g A x c j = A (g c) j := by rw [mv_at, if_pos h]
def g_210 (c : Int) : Int := if c = 210 then 196 else 0
theorem g_210_210 : g_210 210 = 196 := rfl
theorem g_210_N {c : Int} (h : c ≠ 210) : g_210 c = 0 := by unfold g_210; rw [if_neg (by omega)]
theorem g_210_st {A : HH} {x : Int} (hx : 0 ≤ x) (c j : Int) : mv g_210 A (x + 1) c j = u2 (mv g_210 A x) 210 x (A 196 x) c j := by
  by_cases e : j = x
  · subst e
    by_cases c210 : c = 210
    · subst c210
      rw [mv_T ⟨by decide, by omega, by omega⟩, g_210_210]
      simp (disch := omega) only [u2S, u2N, u2T]
    simp (disch := omega) only [u2S, u2N, u2T]
    rw [mv_N (.inl (g_210_N c210)), mv_N (.inl (g_210_N c210))]
  · simp (disch := omega) only [u2S, u2N, u2T]
    rw [mv_at, mv_at]
    by_cases q : g_210 c ≠ 0 ∧ 0 ≤ j ∧ j < x
    · rw [if_pos q, if_pos (by omega)]
    · rw [if_neg q, if_neg (by omega)]
theorem m_save_L25_ok {k A : HH} (kk : HH → Option (HH)) (r : HH → Prop) (hk : ∀ h, MR k h (mv g_210 A 30) → ∃ q, kk h = some q ∧ r q) : ∀ (d n : Nat) (h : HH) (x : Int), x + d = 30 → 0 ≤ x → d < n → MR k h (mv g_210 A x) → ∃ q, m_save_L25 kk n h x = some q ∧ r q := by
  intro d
  induction d with
  | zero =>
    intro n h x e h0 hn H
    obtain ⟨n, rfl⟩ : ∃ m, n = m + 1 := ⟨n - 1, by omega⟩
    have e : x = 30 := by omega
    subst e
    rw [m_save_L25]
    simp (disch := omega) only [reduceIte, ltT, ltF, eqT, eqF, leT, leF, wwP, ckP, ckzP, ckbP, u2S, u2N, u2T, ↓Option.bind_some, inB_T, inB_F, Bool.false_eq_true, m_in0, m_in1]
    exact hk h H
  | succ d ih =>
    intro n h x e h0 hn H
    obtain ⟨n, rfl⟩ : ∃ m, n = m + 1 := ⟨n - 1, by omega⟩
    rw [m_save_L25]
    have r0 : h 196 x = A 196 x := by rw [H.r196, mv_N (.inl rfl)]
    simp (disch := omega) only [reduceIte, ltT, ltF, eqT, eqF, leT, leF, wwP, ckP, ckzP, ckbP, u2S, u2N, u2T, ↓Option.bind_some, inB_T, inB_F, Bool.false_eq_true, m_in0, m_in1, r0]
    exact ih n _ (x + 1) (by omega) (by omega) (by omega) ((H.w (c := 210) (j := x) (v := A 196 x) (by omega)).eq fun c j _ => g_210_st h0 c j)
def g_211_212 (c : Int) : Int := if c = 211 then 198 else if c = 212 then 199 else 0
theorem g_211_212_211 : g_211_212 211 = 198 := rfl
theorem g_211_212_212 : g_211_212 212 = 199 := rfl
theorem g_211_212_N {c : Int} (h : c ≠ 211 ∧ c ≠ 212) : g_211_212 c = 0 := by unfold g_211_212; rw [if_neg (by omega), if_neg (by omega)]
theorem g_211_212_st {A : HH} {x : Int} (hx : 0 ≤ x) (c j : Int) : mv g_211_212 A (x + 1) c j = u2 (u2 (mv g_211_212 A x) 211 x (A 198 x)) 212 x (A 199 x) c j := by
  by_cases e : j = x
  · subst e
    by_cases c211 : c = 211
    · subst c211
      rw [mv_T ⟨by decide, by omega, by omega⟩, g_211_212_211]
      simp (disch := omega) only [u2S, u2N, u2T]
    by_cases c212 : c = 212
    · subst c212
      rw [mv_T ⟨by decide, by omega, by omega⟩, g_211_212_212]
      simp (disch := omega) only [u2S, u2N, u2T]
    simp (disch := omega) only [u2S, u2N, u2T]
    rw [mv_N (.inl (g_211_212_N ⟨c211, c212⟩)), mv_N (.inl (g_211_212_N ⟨c211, c212⟩))]
  · simp (disch := omega) only [u2S, u2N, u2T]
    rw [mv_at, mv_at]
    by_cases q : g_211_212 c ≠ 0 ∧ 0 ≤ j ∧ j < x
    · rw [if_pos q, if_pos (by omega)]
    · rw [if_neg q, if_neg (by omega)]
theorem m_save_L51_ok {k A : HH} : ∀ (d n : Nat) (h : HH) (x : Int), x + d = 5 → 0 ≤ x → d < n → MR k h (mv g_211_212 A x) → ∃ h', m_save_L51 n h x = some h' ∧ MR k h' (mv g_211_212 A 5) := by
  intro d
  induction d with
  | zero =>
    intro n h x e h0 hn H
    obtain ⟨n, rfl⟩ : ∃ m, n = m + 1 := ⟨n - 1, by omega⟩
    have e : x = 5 := by omega
    subst e
    rw [m_save_L51]
    simp (disch := omega) only [reduceIte, ltT, ltF, eqT, eqF, leT, leF, wwP, ckP, ckzP, ckbP, u2S, u2N, u2T, ↓Option.bind_some, inB_T, inB_F, Bool.false_eq_true, m_in0, m_in1]
    exact ⟨h, rfl, H⟩
  | succ d ih =>
    intro n h x e h0 hn H
    obtain ⟨n, rfl⟩ : ∃ m, n = m + 1 := ⟨n - 1, by omega⟩
    rw [m_save_L51]
    have r0 : h 198 x = A 198 x := by rw [H.r198, mv_N (.inl rfl)]
    have r1 : h 199 x = A 199 x := by rw [H.r199, mv_N (.inl rfl)]
    simp (disch := omega) only [reduceIte, ltT, ltF, eqT, eqF, leT, leF, wwP, ckP, ckzP, ckbP, u2S, u2N, u2T, ↓Option.bind_some, inB_T, inB_F, Bool.false_eq_true, m_in0, m_in1, r0, r1]
    exact ih n _ (x + 1) (by omega) (by omega) (by omega) (((H.w (c := 211) (j := x) (v := A 198 x) (by omega)).w (c := 212) (j := x) (v := A 199 x) (by omega)).eq fun c j _ => g_211_212_st h0 c j)
def g_196 (c : Int) : Int := if c = 196 then 210 else 0
theorem g_196_196 : g_196 196 = 210 := rfl
theorem g_196_N {c : Int} (h : c ≠ 196) : g_196 c = 0 := by unfold g_196; rw [if_neg (by omega)]
theorem g_196_st {A : HH} {x : Int} (hx : 0 ≤ x) (c j : Int) : mv g_196 A (x + 1) c j = u2 (mv g_196 A x) 196 x (A 210 x) c j := by
  by_cases e : j = x
  · subst e
    by_cases c196 : c = 196
    · subst c196
      rw [mv_T ⟨by decide, by omega, by omega⟩, g_196_196]
      simp (disch := omega) only [u2S, u2N, u2T]
    simp (disch := omega) only [u2S, u2N, u2T]
    rw [mv_N (.inl (g_196_N c196)), mv_N (.inl (g_196_N c196))]
  · simp (disch := omega) only [u2S, u2N, u2T]
    rw [mv_at, mv_at]
    by_cases q : g_196 c ≠ 0 ∧ 0 ≤ j ∧ j < x
    · rw [if_pos q, if_pos (by omega)]
    · rw [if_neg q, if_neg (by omega)]
theorem m_putBack_L25_ok {k A : HH} (kk : HH → Option (HH)) (r : HH → Prop) (hk : ∀ h, MR k h (mv g_196 A 30) → ∃ q, kk h = some q ∧ r q) : ∀ (d n : Nat) (h : HH) (x : Int), x + d = 30 → 0 ≤ x → d < n → MR k h (mv g_196 A x) → ∃ q, m_putBack_L25 kk n h x = some q ∧ r q := by
  intro d
  induction d with
  | zero =>
    intro n h x e h0 hn H
    obtain ⟨n, rfl⟩ : ∃ m, n = m + 1 := ⟨n - 1, by omega⟩
    have e : x = 30 := by omega
    subst e
    rw [m_putBack_L25]
    simp (disch := omega) only [reduceIte, ltT, ltF, eqT, eqF, leT, leF, wwP, ckP, ckzP, ckbP, u2S, u2N, u2T, ↓Option.bind_some, inB_T, inB_F, Bool.false_eq_true, m_in0, m_in1]
    exact hk h H
  | succ d ih =>
    intro n h x e h0 hn H
    obtain ⟨n, rfl⟩ : ∃ m, n = m + 1 := ⟨n - 1, by omega⟩
    rw [m_putBack_L25]
    have r0 : h 210 x = A 210 x := by rw [H.r210, mv_N (.inl rfl)]
    simp (disch := omega) only [reduceIte, ltT, ltF, eqT, eqF, leT, leF, wwP, ckP, ckzP, ckbP, u2S, u2N, u2T, ↓Option.bind_some, inB_T, inB_F, Bool.false_eq_true, m_in0, m_in1, r0]
    exact ih n _ (x + 1) (by omega) (by omega) (by omega) ((H.w (c := 196) (j := x) (v := A 210 x) (by omega)).eq fun c j _ => g_196_st h0 c j)
def g_198_199 (c : Int) : Int := if c = 198 then 211 else if c = 199 then 212 else 0
theorem g_198_199_198 : g_198_199 198 = 211 := rfl
theorem g_198_199_199 : g_198_199 199 = 212 := rfl
theorem g_198_199_N {c : Int} (h : c ≠ 198 ∧ c ≠ 199) : g_198_199 c = 0 := by unfold g_198_199; rw [if_neg (by omega), if_neg (by omega)]
theorem g_198_199_st {A : HH} {x : Int} (hx : 0 ≤ x) (c j : Int) : mv g_198_199 A (x + 1) c j = u2 (u2 (mv g_198_199 A x) 198 x (A 211 x)) 199 x (A 212 x) c j := by
  by_cases e : j = x
  · subst e
    by_cases c198 : c = 198
    · subst c198
      rw [mv_T ⟨by decide, by omega, by omega⟩, g_198_199_198]
      simp (disch := omega) only [u2S, u2N, u2T]
    by_cases c199 : c = 199
    · subst c199
      rw [mv_T ⟨by decide, by omega, by omega⟩, g_198_199_199]
      simp (disch := omega) only [u2S, u2N, u2T]
    simp (disch := omega) only [u2S, u2N, u2T]
    rw [mv_N (.inl (g_198_199_N ⟨c198, c199⟩)), mv_N (.inl (g_198_199_N ⟨c198, c199⟩))]
  · simp (disch := omega) only [u2S, u2N, u2T]
    rw [mv_at, mv_at]
    by_cases q : g_198_199 c ≠ 0 ∧ 0 ≤ j ∧ j < x
    · rw [if_pos q, if_pos (by omega)]
    · rw [if_neg q, if_neg (by omega)]
theorem m_putBack_L51_ok {k A : HH} : ∀ (d n : Nat) (h : HH) (x : Int), x + d = 5 → 0 ≤ x → d < n → MR k h (mv g_198_199 A x) → ∃ h', m_putBack_L51 n h x = some h' ∧ MR k h' (mv g_198_199 A 5) := by
  intro d
  induction d with
  | zero =>
    intro n h x e h0 hn H
    obtain ⟨n, rfl⟩ : ∃ m, n = m + 1 := ⟨n - 1, by omega⟩
    have e : x = 5 := by omega
    subst e
    rw [m_putBack_L51]
    simp (disch := omega) only [reduceIte, ltT, ltF, eqT, eqF, leT, leF, wwP, ckP, ckzP, ckbP, u2S, u2N, u2T, ↓Option.bind_some, inB_T, inB_F, Bool.false_eq_true, m_in0, m_in1]
    exact ⟨h, rfl, H⟩
  | succ d ih =>
    intro n h x e h0 hn H
    obtain ⟨n, rfl⟩ : ∃ m, n = m + 1 := ⟨n - 1, by omega⟩
    rw [m_putBack_L51]
    have r0 : h 211 x = A 211 x := by rw [H.r211, mv_N (.inl rfl)]
    have r1 : h 212 x = A 212 x := by rw [H.r212, mv_N (.inl rfl)]
    simp (disch := omega) only [reduceIte, ltT, ltF, eqT, eqF, leT, leF, wwP, ckP, ckzP, ckbP, u2S, u2N, u2T, ↓Option.bind_some, inB_T, inB_F, Bool.false_eq_true, m_in0, m_in1, r0, r1]
    exact ih n _ (x + 1) (by omega) (by omega) (by omega) (((H.w (c := 198) (j := x) (v := A 211 x) (by omega)).w (c := 199) (j := x) (v := A 212 x) (by omega)).eq fun c j _ => g_198_199_st h0 c j)
def g_224_225 (c : Int) : Int := if c = 224 then 194 else if c = 225 then 195 else 0
theorem g_224_225_224 : g_224_225 224 = 194 := rfl
theorem g_224_225_225 : g_224_225 225 = 195 := rfl
theorem g_224_225_N {c : Int} (h : c ≠ 224 ∧ c ≠ 225) : g_224_225 c = 0 := by unfold g_224_225; rw [if_neg (by omega), if_neg (by omega)]
theorem g_224_225_st {A : HH} {x : Int} (hx : 0 ≤ x) (c j : Int) : mv g_224_225 A (x + 1) c j = u2 (u2 (mv g_224_225 A x) 224 x (A 194 x)) 225 x (A 195 x) c j := by
  by_cases e : j = x
  · subst e
    by_cases c224 : c = 224
    · subst c224
      rw [mv_T ⟨by decide, by omega, by omega⟩, g_224_225_224]
      simp (disch := omega) only [u2S, u2N, u2T]
    by_cases c225 : c = 225
    · subst c225
      rw [mv_T ⟨by decide, by omega, by omega⟩, g_224_225_225]
      simp (disch := omega) only [u2S, u2N, u2T]
    simp (disch := omega) only [u2S, u2N, u2T]
    rw [mv_N (.inl (g_224_225_N ⟨c224, c225⟩)), mv_N (.inl (g_224_225_N ⟨c224, c225⟩))]
  · simp (disch := omega) only [u2S, u2N, u2T]
    rw [mv_at, mv_at]
    by_cases q : g_224_225 c ≠ 0 ∧ 0 ≤ j ∧ j < x
    · rw [if_pos q, if_pos (by omega)]
    · rw [if_neg q, if_neg (by omega)]
theorem m_image_L63_ok {k A : HH} (kk : HH → Option (Int × HH)) (r : Int × HH → Prop) (hk : ∀ h, MR k h (mv g_224_225 A 6) → ∃ q, kk h = some q ∧ r q) : ∀ (d n : Nat) (h : HH) (x : Int), x + d = 6 → 0 ≤ x → d < n → MR k h (mv g_224_225 A x) → ∃ q, m_image_L63 kk n h x = some q ∧ r q := by
  intro d
  induction d with
  | zero =>
    intro n h x e h0 hn H
    obtain ⟨n, rfl⟩ : ∃ m, n = m + 1 := ⟨n - 1, by omega⟩
    have e : x = 6 := by omega
    subst e
    rw [m_image_L63]
    simp (disch := omega) only [reduceIte, ltT, ltF, eqT, eqF, leT, leF, wwP, ckP, ckzP, ckbP, u2S, u2N, u2T, ↓Option.bind_some, inB_T, inB_F, Bool.false_eq_true, m_in0, m_in1]
    exact hk h H
  | succ d ih =>
    intro n h x e h0 hn H
    obtain ⟨n, rfl⟩ : ∃ m, n = m + 1 := ⟨n - 1, by omega⟩
    rw [m_image_L63]
    have r0 : h 194 x = A 194 x := by rw [H.r194, mv_N (.inl rfl)]
    have r1 : h 195 x = A 195 x := by rw [H.r195, mv_N (.inl rfl)]
    simp (disch := omega) only [reduceIte, ltT, ltF, eqT, eqF, leT, leF, wwP, ckP, ckzP, ckbP, u2S, u2N, u2T, ↓Option.bind_some, inB_T, inB_F, Bool.false_eq_true, m_in0, m_in1, r0, r1]
    exact ih n _ (x + 1) (by omega) (by omega) (by omega) (((H.w (c := 224) (j := x) (v := A 194 x) (by omega)).w (c := 225) (j := x) (v := A 195 x) (by omega)).eq fun c j _ => g_224_225_st h0 c j)
def g_226 (c : Int) : Int := if c = 226 then 196 else 0
theorem g_226_226 : g_226 226 = 196 := rfl
theorem g_226_N {c : Int} (h : c ≠ 226) : g_226 c = 0 := by unfold g_226; rw [if_neg (by omega)]
theorem g_226_st {A : HH} {x : Int} (hx : 0 ≤ x) (c j : Int) : mv g_226 A (x + 1) c j = u2 (mv g_226 A x) 226 x (A 196 x) c j := by
  by_cases e : j = x
  · subst e
    by_cases c226 : c = 226
    · subst c226
      rw [mv_T ⟨by decide, by omega, by omega⟩, g_226_226]
      simp (disch := omega) only [u2S, u2N, u2T]
    simp (disch := omega) only [u2S, u2N, u2T]
    rw [mv_N (.inl (g_226_N c226)), mv_N (.inl (g_226_N c226))]
  · simp (disch := omega) only [u2S, u2N, u2T]
    rw [mv_at, mv_at]
    by_cases q : g_226 c ≠ 0 ∧ 0 ≤ j ∧ j < x
    · rw [if_pos q, if_pos (by omega)]
    · rw [if_neg q, if_neg (by omega)]
theorem m_image_L101_ok {k A : HH} (kk : HH → Option (Int × HH)) (r : Int × HH → Prop) (hk : ∀ h, MR k h (mv g_226 A 30) → ∃ q, kk h = some q ∧ r q) : ∀ (d n : Nat) (h : HH) (x : Int), x + d = 30 → 0 ≤ x → d < n → MR k h (mv g_226 A x) → ∃ q, m_image_L101 kk n h x = some q ∧ r q := by
  intro d
  induction d with
  | zero =>
    intro n h x e h0 hn H
    obtain ⟨n, rfl⟩ : ∃ m, n = m + 1 := ⟨n - 1, by omega⟩
    have e : x = 30 := by omega
    subst e
    rw [m_image_L101]
    simp (disch := omega) only [reduceIte, ltT, ltF, eqT, eqF, leT, leF, wwP, ckP, ckzP, ckbP, u2S, u2N, u2T, ↓Option.bind_some, inB_T, inB_F, Bool.false_eq_true, m_in0, m_in1]
    exact hk h H
  | succ d ih =>
    intro n h x e h0 hn H
    obtain ⟨n, rfl⟩ : ∃ m, n = m + 1 := ⟨n - 1, by omega⟩
    rw [m_image_L101]
    have r0 : h 196 x = A 196 x := by rw [H.r196, mv_N (.inl rfl)]
    simp (disch := omega) only [reduceIte, ltT, ltF, eqT, eqF, leT, leF, wwP, ckP, ckzP, ckbP, u2S, u2N, u2T, ↓Option.bind_some, inB_T, inB_F, Bool.false_eq_true, m_in0, m_in1, r0]
    exact ih n _ (x + 1) (by omega) (by omega) (by omega) ((H.w (c := 226) (j := x) (v := A 196 x) (by omega)).eq fun c j _ => g_226_st h0 c j)
def g_227 (c : Int) : Int := if c = 227 then 197 else 0
theorem g_227_227 : g_227 227 = 197 := rfl
theorem g_227_N {c : Int} (h : c ≠ 227) : g_227 c = 0 := by unfold g_227; rw [if_neg (by omega)]
theorem g_227_st {A : HH} {x : Int} (hx : 0 ≤ x) (c j : Int) : mv g_227 A (x + 1) c j = u2 (mv g_227 A x) 227 x (A 197 x) c j := by
  by_cases e : j = x
  · subst e
    by_cases c227 : c = 227
    · subst c227
      rw [mv_T ⟨by decide, by omega, by omega⟩, g_227_227]
      simp (disch := omega) only [u2S, u2N, u2T]
    simp (disch := omega) only [u2S, u2N, u2T]
    rw [mv_N (.inl (g_227_N c227)), mv_N (.inl (g_227_N c227))]
  · simp (disch := omega) only [u2S, u2N, u2T]
    rw [mv_at, mv_at]
    by_cases q : g_227 c ≠ 0 ∧ 0 ≤ j ∧ j < x
    · rw [if_pos q, if_pos (by omega)]
    · rw [if_neg q, if_neg (by omega)]
theorem m_image_L127_ok {k A : HH} (kk : HH → Option (Int × HH)) (r : Int × HH → Prop) (hk : ∀ h, MR k h (mv g_227 A 24) → ∃ q, kk h = some q ∧ r q) : ∀ (d n : Nat) (h : HH) (x : Int), x + d = 24 → 0 ≤ x → d < n → MR k h (mv g_227 A x) → ∃ q, m_image_L127 kk n h x = some q ∧ r q := by
  intro d
  induction d with
  | zero =>
    intro n h x e h0 hn H
    obtain ⟨n, rfl⟩ : ∃ m, n = m + 1 := ⟨n - 1, by omega⟩
    have e : x = 24 := by omega
    subst e
    rw [m_image_L127]
    simp (disch := omega) only [reduceIte, ltT, ltF, eqT, eqF, leT, leF, wwP, ckP, ckzP, ckbP, u2S, u2N, u2T, ↓Option.bind_some, inB_T, inB_F, Bool.false_eq_true, m_in0, m_in1]
    exact hk h H
  | succ d ih =>
    intro n h x e h0 hn H
    obtain ⟨n, rfl⟩ : ∃ m, n = m + 1 := ⟨n - 1, by omega⟩
    rw [m_image_L127]
    have r0 : h 197 x = A 197 x := by rw [H.r197, mv_N (.inl rfl)]
    simp (disch := omega) only [reduceIte, ltT, ltF, eqT, eqF, leT, leF, wwP, ckP, ckzP, ckbP, u2S, u2N, u2T, ↓Option.bind_some, inB_T, inB_F, Bool.false_eq_true, m_in0, m_in1, r0]
    exact ih n _ (x + 1) (by omega) (by omega) (by omega) ((H.w (c := 227) (j := x) (v := A 197 x) (by omega)).eq fun c j _ => g_227_st h0 c j)
def g_228_229_230_231_232_237 (c : Int) : Int := if c = 228 then 198 else if c = 229 then 199 else if c = 230 then 216 else if c = 231 then 217 else if c = 232 then 218 else if c = 237 then 219 else 0
theorem g_228_229_230_231_232_237_228 : g_228_229_230_231_232_237 228 = 198 := rfl
theorem g_228_229_230_231_232_237_229 : g_228_229_230_231_232_237 229 = 199 := rfl
theorem g_228_229_230_231_232_237_230 : g_228_229_230_231_232_237 230 = 216 := rfl
theorem g_228_229_230_231_232_237_231 : g_228_229_230_231_232_237 231 = 217 := rfl
theorem g_228_229_230_231_232_237_232 : g_228_229_230_231_232_237 232 = 218 := rfl
theorem g_228_229_230_231_232_237_237 : g_228_229_230_231_232_237 237 = 219 := rfl
theorem g_228_229_230_231_232_237_N {c : Int} (h : c ≠ 228 ∧ c ≠ 229 ∧ c ≠ 230 ∧ c ≠ 231 ∧ c ≠ 232 ∧ c ≠ 237) : g_228_229_230_231_232_237 c = 0 := by unfold g_228_229_230_231_232_237; rw [if_neg (by omega), if_neg (by omega), if_neg (by omega), if_neg (by omega), if_neg (by omega), if_neg (by omega)]
theorem g_228_229_230_231_232_237_st {A : HH} {x : Int} (hx : 0 ≤ x) (c j : Int) : mv g_228_229_230_231_232_237 A (x + 1) c j = u2 (u2 (u2 (u2 (u2 (u2 (mv g_228_229_230_231_232_237 A x) 228 x (A 198 x)) 229 x (A 199 x)) 230 x (A 216 x)) 231 x (A 217 x)) 232 x (A 218 x)) 237 x (A 219 x) c j := by
  by_cases e : j = x
  · subst e
    by_cases c228 : c = 228
    · subst c228
      rw [mv_T ⟨by decide, by omega, by omega⟩, g_228_229_230_231_232_237_228]
      simp (disch := omega) only [u2S, u2N, u2T]
    by_cases c229 : c = 229
    · subst c229
      rw [mv_T ⟨by decide, by omega, by omega⟩, g_228_229_230_231_232_237_229]
      simp (disch := omega) only [u2S, u2N, u2T]
    by_cases c230 : c = 230
    · subst c230
      rw [mv_T ⟨by decide, by omega, by omega⟩, g_228_229_230_231_232_237_230]
      simp (disch := omega) only [u2S, u2N, u2T]
    by_cases c231 : c = 231
    · subst c231
      rw [mv_T ⟨by decide, by omega, by omega⟩, g_228_229_230_231_232_237_231]
      simp (disch := omega) only [u2S, u2N, u2T]
    by_cases c232 : c = 232
    · subst c232
      rw [mv_T ⟨by decide, by omega, by omega⟩, g_228_229_230_231_232_237_232]
      simp (disch := omega) only [u2S, u2N, u2T]
    by_cases c237 : c = 237
    · subst c237
      rw [mv_T ⟨by decide, by omega, by omega⟩, g_228_229_230_231_232_237_237]
      simp (disch := omega) only [u2S, u2N, u2T]
    simp (disch := omega) only [u2S, u2N, u2T]
    rw [mv_N (.inl (g_228_229_230_231_232_237_N ⟨c228, c229, c230, c231, c232, c237⟩)), mv_N (.inl (g_228_229_230_231_232_237_N ⟨c228, c229, c230, c231, c232, c237⟩))]
  · simp (disch := omega) only [u2S, u2N, u2T]
    rw [mv_at, mv_at]
    by_cases q : g_228_229_230_231_232_237 c ≠ 0 ∧ 0 ≤ j ∧ j < x
    · rw [if_pos q, if_pos (by omega)]
    · rw [if_neg q, if_neg (by omega)]
theorem m_image_L153_ok {k A : HH} (kk : HH → Option (Int × HH)) (r : Int × HH → Prop) (hb : ∀ i, 0 ≤ i → i < 5 → A 219 i = 0 ∨ A 219 i = 1) (hk : ∀ h, MR k h (mv g_228_229_230_231_232_237 A 5) → ∃ q, kk h = some q ∧ r q) : ∀ (d n : Nat) (h : HH) (x : Int), x + d = 5 → 0 ≤ x → d < n → MR k h (mv g_228_229_230_231_232_237 A x) → ∃ q, m_image_L153 kk n h x = some q ∧ r q := by
  intro d
  induction d with
  | zero =>
    intro n h x e h0 hn H
    obtain ⟨n, rfl⟩ : ∃ m, n = m + 1 := ⟨n - 1, by omega⟩
    have e : x = 5 := by omega
    subst e
    rw [m_image_L153]
    simp (disch := omega) only [reduceIte, ltT, ltF, eqT, eqF, leT, leF, wwP, ckP, ckzP, ckbP, u2S, u2N, u2T, ↓Option.bind_some, inB_T, inB_F, Bool.false_eq_true, m_in0, m_in1]
    exact hk h H
  | succ d ih =>
    intro n h x e h0 hn H
    obtain ⟨n, rfl⟩ : ∃ m, n = m + 1 := ⟨n - 1, by omega⟩
    rw [m_image_L153]
    have r0 : h 198 x = A 198 x := by rw [H.r198, mv_N (.inl rfl)]
    have r1 : h 199 x = A 199 x := by rw [H.r199, mv_N (.inl rfl)]
    have r2 : h 216 x = A 216 x := by rw [H.r216, mv_N (.inl rfl)]
    have r3 : h 217 x = A 217 x := by rw [H.r217, mv_N (.inl rfl)]
    have r4 : h 218 x = A 218 x := by rw [H.r218, mv_N (.inl rfl)]
    have r5 : h 219 x = A 219 x := by rw [H.r219, mv_N (.inl rfl)]
    have b1 := hb x h0 (by omega)
    simp (disch := omega) only [reduceIte, ltT, ltF, eqT, eqF, leT, leF, wwP, ckP, ckzP, ckbP, u2S, u2N, u2T, ↓Option.bind_some, inB_T, inB_F, Bool.false_eq_true, m_in0, m_in1, r0, r1, r2, r3, r4, r5]
    exact ih n _ (x + 1) (by omega) (by omega) (by omega) (((((((H.w (c := 228) (j := x) (v := A 198 x) (by omega)).w (c := 229) (j := x) (v := A 199 x) (by omega)).w (c := 230) (j := x) (v := A 216 x) (by omega)).w (c := 231) (j := x) (v := A 217 x) (by omega)).w (c := 232) (j := x) (v := A 218 x) (by omega)).w (c := 237) (j := x) (v := A 219 x) (by omega)).eq fun c j _ => g_228_229_230_231_232_237_st h0 c j)
def g_233_234 (c : Int) : Int := if c = 233 then 220 else if c = 234 then 221 else 0
theorem g_233_234_233 : g_233_234 233 = 220 := rfl
theorem g_233_234_234 : g_233_234 234 = 221 := rfl
theorem g_233_234_N {c : Int} (h : c ≠ 233 ∧ c ≠ 234) : g_233_234 c = 0 := by unfold g_233_234; rw [if_neg (by omega), if_neg (by omega)]
theorem g_233_234_st {A : HH} {x : Int} (hx : 0 ≤ x) (c j : Int) : mv g_233_234 A (x + 1) c j = u2 (u2 (mv g_233_234 A x) 233 x (A 220 x)) 234 x (A 221 x) c j := by
  by_cases e : j = x
  · subst e
    by_cases c233 : c = 233
    · subst c233
      rw [mv_T ⟨by decide, by omega, by omega⟩, g_233_234_233]
      simp (disch := omega) only [u2S, u2N, u2T]
    by_cases c234 : c = 234
    · subst c234
      rw [mv_T ⟨by decide, by omega, by omega⟩, g_233_234_234]
      simp (disch := omega) only [u2S, u2N, u2T]
    simp (disch := omega) only [u2S, u2N, u2T]
    rw [mv_N (.inl (g_233_234_N ⟨c233, c234⟩)), mv_N (.inl (g_233_234_N ⟨c233, c234⟩))]
  · simp (disch := omega) only [u2S, u2N, u2T]
    rw [mv_at, mv_at]
    by_cases q : g_233_234 c ≠ 0 ∧ 0 ≤ j ∧ j < x
    · rw [if_pos q, if_pos (by omega)]
    · rw [if_neg q, if_neg (by omega)]
theorem m_image_L238_ok {k A : HH} (kk : HH → Option (Int × HH)) (r : Int × HH → Prop) (hk : ∀ h, MR k h (mv g_233_234 A 10) → ∃ q, kk h = some q ∧ r q) : ∀ (d n : Nat) (h : HH) (x : Int), x + d = 10 → 0 ≤ x → d < n → MR k h (mv g_233_234 A x) → ∃ q, m_image_L238 kk n h x = some q ∧ r q := by
  intro d
  induction d with
  | zero =>
    intro n h x e h0 hn H
    obtain ⟨n, rfl⟩ : ∃ m, n = m + 1 := ⟨n - 1, by omega⟩
    have e : x = 10 := by omega
    subst e
    rw [m_image_L238]
    simp (disch := omega) only [reduceIte, ltT, ltF, eqT, eqF, leT, leF, wwP, ckP, ckzP, ckbP, u2S, u2N, u2T, ↓Option.bind_some, inB_T, inB_F, Bool.false_eq_true, m_in0, m_in1]
    exact hk h H
  | succ d ih =>
    intro n h x e h0 hn H
    obtain ⟨n, rfl⟩ : ∃ m, n = m + 1 := ⟨n - 1, by omega⟩
    rw [m_image_L238]
    have r0 : h 220 x = A 220 x := by rw [H.r220, mv_N (.inl rfl)]
    have r1 : h 221 x = A 221 x := by rw [H.r221, mv_N (.inl rfl)]
    simp (disch := omega) only [reduceIte, ltT, ltF, eqT, eqF, leT, leF, wwP, ckP, ckzP, ckbP, u2S, u2N, u2T, ↓Option.bind_some, inB_T, inB_F, Bool.false_eq_true, m_in0, m_in1, r0, r1]
    exact ih n _ (x + 1) (by omega) (by omega) (by omega) (((H.w (c := 233) (j := x) (v := A 220 x) (by omega)).w (c := 234) (j := x) (v := A 221 x) (by omega)).eq fun c j _ => g_233_234_st h0 c j)
def g_235_236 (c : Int) : Int := if c = 235 then 222 else if c = 236 then 223 else 0
theorem g_235_236_235 : g_235_236 235 = 222 := rfl
theorem g_235_236_236 : g_235_236 236 = 223 := rfl
theorem g_235_236_N {c : Int} (h : c ≠ 235 ∧ c ≠ 236) : g_235_236 c = 0 := by unfold g_235_236; rw [if_neg (by omega), if_neg (by omega)]
theorem g_235_236_st {A : HH} {x : Int} (hx : 0 ≤ x) (c j : Int) : mv g_235_236 A (x + 1) c j = u2 (u2 (mv g_235_236 A x) 235 x (A 222 x)) 236 x (A 223 x) c j := by
  by_cases e : j = x
  · subst e
    by_cases c235 : c = 235
    · subst c235
      rw [mv_T ⟨by decide, by omega, by omega⟩, g_235_236_235]
      simp (disch := omega) only [u2S, u2N, u2T]
    by_cases c236 : c = 236
    · subst c236
      rw [mv_T ⟨by decide, by omega, by omega⟩, g_235_236_236]
      simp (disch := omega) only [u2S, u2N, u2T]
    simp (disch := omega) only [u2S, u2N, u2T]
    rw [mv_N (.inl (g_235_236_N ⟨c235, c236⟩)), mv_N (.inl (g_235_236_N ⟨c235, c236⟩))]
  · simp (disch := omega) only [u2S, u2N, u2T]
    rw [mv_at, mv_at]
    by_cases q : g_235_236 c ≠ 0 ∧ 0 ≤ j ∧ j < x
    · rw [if_pos q, if_pos (by omega)]
    · rw [if_neg q, if_neg (by omega)]
theorem m_image_L276_ok {k A : HH} : ∀ (d n : Nat) (h : HH) (x : Int), x + d = 8 → 0 ≤ x → d < n → MR k h (mv g_235_236 A x) → ∃ h', m_image_L276 n h x = some (A 193 0, h') ∧ MR k h' (mv g_235_236 A 8) := by
  intro d
  induction d with
  | zero =>
    intro n h x e h0 hn H
    obtain ⟨n, rfl⟩ : ∃ m, n = m + 1 := ⟨n - 1, by omega⟩
    have e : x = 8 := by omega
    subst e
    rw [m_image_L276]
    have r0 : h 193 0 = A 193 0 := by rw [H.s0, mv_N (.inl rfl)]
    simp (disch := omega) only [reduceIte, ltT, ltF, eqT, eqF, leT, leF, wwP, ckP, ckzP, ckbP, u2S, u2N, u2T, ↓Option.bind_some, inB_T, inB_F, Bool.false_eq_true, m_in0, m_in1, r0]
    exact ⟨h, rfl, H⟩
  | succ d ih =>
    intro n h x e h0 hn H
    obtain ⟨n, rfl⟩ : ∃ m, n = m + 1 := ⟨n - 1, by omega⟩
    rw [m_image_L276]
    have r0 : h 222 x = A 222 x := by rw [H.r222, mv_N (.inl rfl)]
    have r1 : h 223 x = A 223 x := by rw [H.r223, mv_N (.inl rfl)]
    simp (disch := omega) only [reduceIte, ltT, ltF, eqT, eqF, leT, leF, wwP, ckP, ckzP, ckbP, u2S, u2N, u2T, ↓Option.bind_some, inB_T, inB_F, Bool.false_eq_true, m_in0, m_in1, r0, r1]
    exact ih n _ (x + 1) (by omega) (by omega) (by omega) (((H.w (c := 235) (j := x) (v := A 222 x) (by omega)).w (c := 236) (j := x) (v := A 223 x) (by omega)).eq fun c j _ => g_235_236_st h0 c j)
def gu_194_195 (c : Int) : Int := if c = 194 then 224 else if c = 195 then 225 else 0
theorem gu_194_195_194 : gu_194_195 194 = 224 := rfl
theorem gu_194_195_195 : gu_194_195 195 = 225 := rfl
theorem gu_194_195_N {c : Int} (h : c ≠ 194 ∧ c ≠ 195) : gu_194_195 c = 0 := by unfold gu_194_195; rw [if_neg (by omega), if_neg (by omega)]
theorem gu_194_195_st {A : HH} {x : Int} (hx : 0 ≤ x) (c j : Int) : mv gu_194_195 A (x + 1) c j = u2 (u2 (mv gu_194_195 A x) 194 x (A 224 x)) 195 x (A 225 x) c j := by
  by_cases e : j = x
  · subst e
    by_cases c194 : c = 194
    · subst c194
      rw [mv_T ⟨by decide, by omega, by omega⟩, gu_194_195_194]
      simp (disch := omega) only [u2S, u2N, u2T]
    by_cases c195 : c = 195
    · subst c195
      rw [mv_T ⟨by decide, by omega, by omega⟩, gu_194_195_195]
      simp (disch := omega) only [u2S, u2N, u2T]
    simp (disch := omega) only [u2S, u2N, u2T]
    rw [mv_N (.inl (gu_194_195_N ⟨c194, c195⟩)), mv_N (.inl (gu_194_195_N ⟨c194, c195⟩))]
  · simp (disch := omega) only [u2S, u2N, u2T]
    rw [mv_at, mv_at]
    by_cases q : gu_194_195 c ≠ 0 ∧ 0 ≤ j ∧ j < x
    · rw [if_pos q, if_pos (by omega)]
    · rw [if_neg q, if_neg (by omega)]
theorem m_undo_L68_ok {k A : HH} (kk : HH → Option (Int × HH)) (r : Int × HH → Prop) (hk : ∀ h, MR k h (mv gu_194_195 A 6) → ∃ q, kk h = some q ∧ r q) : ∀ (d n : Nat) (h : HH) (x : Int), x + d = 6 → 0 ≤ x → d < n → MR k h (mv gu_194_195 A x) → ∃ q, m_undo_L68 kk n h x = some q ∧ r q := by
  intro d
  induction d with
  | zero =>
    intro n h x e h0 hn H
    obtain ⟨n, rfl⟩ : ∃ m, n = m + 1 := ⟨n - 1, by omega⟩
    have e : x = 6 := by omega
    subst e
    rw [m_undo_L68]
    simp (disch := omega) only [reduceIte, ltT, ltF, eqT, eqF, leT, leF, wwP, ckP, ckzP, ckbP, u2S, u2N, u2T, ↓Option.bind_some, inB_T, inB_F, Bool.false_eq_true, m_in0, m_in1]
    exact hk h H
  | succ d ih =>
    intro n h x e h0 hn H
    obtain ⟨n, rfl⟩ : ∃ m, n = m + 1 := ⟨n - 1, by omega⟩
    rw [m_undo_L68]
    have r0 : h 224 x = A 224 x := by rw [H.r224, mv_N (.inl rfl)]
    have r1 : h 225 x = A 225 x := by rw [H.r225, mv_N (.inl rfl)]
    simp (disch := omega) only [reduceIte, ltT, ltF, eqT, eqF, leT, leF, wwP, ckP, ckzP, ckbP, u2S, u2N, u2T, ↓Option.bind_some, inB_T, inB_F, Bool.false_eq_true, m_in0, m_in1, r0, r1]
    exact ih n _ (x + 1) (by omega) (by omega) (by omega) (((H.w (c := 194) (j := x) (v := A 224 x) (by omega)).w (c := 195) (j := x) (v := A 225 x) (by omega)).eq fun c j _ => gu_194_195_st h0 c j)
def gu_196 (c : Int) : Int := if c = 196 then 226 else 0
theorem gu_196_196 : gu_196 196 = 226 := rfl
theorem gu_196_N {c : Int} (h : c ≠ 196) : gu_196 c = 0 := by unfold gu_196; rw [if_neg (by omega)]
theorem gu_196_st {A : HH} {x : Int} (hx : 0 ≤ x) (c j : Int) : mv gu_196 A (x + 1) c j = u2 (mv gu_196 A x) 196 x (A 226 x) c j := by
  by_cases e : j = x
  · subst e
    by_cases c196 : c = 196
    · subst c196
      rw [mv_T ⟨by decide, by omega, by omega⟩, gu_196_196]
      simp (disch := omega) only [u2S, u2N, u2T]
    simp (disch := omega) only [u2S, u2N, u2T]
    rw [mv_N (.inl (gu_196_N c196)), mv_N (.inl (gu_196_N c196))]
  · simp (disch := omega) only [u2S, u2N, u2T]
    rw [mv_at, mv_at]
    by_cases q : gu_196 c ≠ 0 ∧ 0 ≤ j ∧ j < x
    · rw [if_pos q, if_pos (by omega)]
    · rw [if_neg q, if_neg (by omega)]
theorem m_undo_L106_ok {k A : HH} (kk : HH → Option (Int × HH)) (r : Int × HH → Prop) (hk : ∀ h, MR k h (mv gu_196 A 30) → ∃ q, kk h = some q ∧ r q) : ∀ (d n : Nat) (h : HH) (x : Int), x + d = 30 → 0 ≤ x → d < n → MR k h (mv gu_196 A x) → ∃ q, m_undo_L106 kk n h x = some q ∧ r q := by
  intro d
  induction d with
  | zero =>
    intro n h x e h0 hn H
    obtain ⟨n, rfl⟩ : ∃ m, n = m + 1 := ⟨n - 1, by omega⟩
    have e : x = 30 := by omega
    subst e
    rw [m_undo_L106]
    simp (disch := omega) only [reduceIte, ltT, ltF, eqT, eqF, leT, leF, wwP, ckP, ckzP, ckbP, u2S, u2N, u2T, ↓Option.bind_some, inB_T, inB_F, Bool.false_eq_true, m_in0, m_in1]
    exact hk h H
  | succ d ih =>
    intro n h x e h0 hn H
    obtain ⟨n, rfl⟩ : ∃ m, n = m + 1 := ⟨n - 1, by omega⟩
    rw [m_undo_L106]
    have r0 : h 226 x = A 226 x := by rw [H.r226, mv_N (.inl rfl)]
    simp (disch := omega) only [reduceIte, ltT, ltF, eqT, eqF, leT, leF, wwP, ckP, ckzP, ckbP, u2S, u2N, u2T, ↓Option.bind_some, inB_T, inB_F, Bool.false_eq_true, m_in0, m_in1, r0]
    exact ih n _ (x + 1) (by omega) (by omega) (by omega) ((H.w (c := 196) (j := x) (v := A 226 x) (by omega)).eq fun c j _ => gu_196_st h0 c j)
def gu_197 (c : Int) : Int := if c = 197 then 227 else 0
theorem gu_197_197 : gu_197 197 = 227 := rfl
theorem gu_197_N {c : Int} (h : c ≠ 197) : gu_197 c = 0 := by unfold gu_197; rw [if_neg (by omega)]
theorem gu_197_st {A : HH} {x : Int} (hx : 0 ≤ x) (c j : Int) : mv gu_197 A (x + 1) c j = u2 (mv gu_197 A x) 197 x (A 227 x) c j := by
  by_cases e : j = x
  · subst e
    by_cases c197 : c = 197
    · subst c197
      rw [mv_T ⟨by decide, by omega, by omega⟩, gu_197_197]
      simp (disch := omega) only [u2S, u2N, u2T]
    simp (disch := omega) only [u2S, u2N, u2T]
    rw [mv_N (.inl (gu_197_N c197)), mv_N (.inl (gu_197_N c197))]
  · simp (disch := omega) only [u2S, u2N, u2T]
    rw [mv_at, mv_at]
    by_cases q : gu_197 c ≠ 0 ∧ 0 ≤ j ∧ j < x
    · rw [if_pos q, if_pos (by omega)]
    · rw [if_neg q, if_neg (by omega)]
theorem m_undo_L132_ok {k A : HH} (kk : HH → Option (Int × HH)) (r : Int × HH → Prop) (hk : ∀ h, MR k h (mv gu_197 A 24) → ∃ q, kk h = some q ∧ r q) : ∀ (d n : Nat) (h : HH) (x : Int), x + d = 24 → 0 ≤ x → d < n → MR k h (mv gu_197 A x) → ∃ q, m_undo_L132 kk n h x = some q ∧ r q := by
  intro d
  induction d with
  | zero =>
    intro n h x e h0 hn H
    obtain ⟨n, rfl⟩ : ∃ m, n = m + 1 := ⟨n - 1, by omega⟩
    have e : x = 24 := by omega
    subst e
    rw [m_undo_L132]
    simp (disch := omega) only [reduceIte, ltT, ltF, eqT, eqF, leT, leF, wwP, ckP, ckzP, ckbP, u2S, u2N, u2T, ↓Option.bind_some, inB_T, inB_F, Bool.false_eq_true, m_in0, m_in1]
    exact hk h H
  | succ d ih =>
    intro n h x e h0 hn H
    obtain ⟨n, rfl⟩ : ∃ m, n = m + 1 := ⟨n - 1, by omega⟩
    rw [m_undo_L132]
    have r0 : h 227 x = A 227 x := by rw [H.r227, mv_N (.inl rfl)]
    simp (disch := omega) only [reduceIte, ltT, ltF, eqT, eqF, leT, leF, wwP, ckP, ckzP, ckbP, u2S, u2N, u2T, ↓Option.bind_some, inB_T, inB_F, Bool.false_eq_true, m_in0, m_in1, r0]
    exact ih n _ (x + 1) (by omega) (by omega) (by omega) ((H.w (c := 197) (j := x) (v := A 227 x) (by omega)).eq fun c j _ => gu_197_st h0 c j)
def gu_198_199_216_217_218_219 (c : Int) : Int := if c = 198 then 228 else if c = 199 then 229 else if c = 216 then 230 else if c = 217 then 231 else if c = 218 then 232 else if c = 219 then 237 else 0
theorem gu_198_199_216_217_218_219_198 : gu_198_199_216_217_218_219 198 = 228 := rfl
theorem gu_198_199_216_217_218_219_199 : gu_198_199_216_217_218_219 199 = 229 := rfl
theorem gu_198_199_216_217_218_219_216 : gu_198_199_216_217_218_219 216 = 230 := rfl
theorem gu_198_199_216_217_218_219_217 : gu_198_199_216_217_218_219 217 = 231 := rfl
theorem gu_198_199_216_217_218_219_218 : gu_198_199_216_217_218_219 218 = 232 := rfl
theorem gu_198_199_216_217_218_219_219 : gu_198_199_216_217_218_219 219 = 237 := rfl
theorem gu_198_199_216_217_218_219_N {c : Int} (h : c ≠ 198 ∧ c ≠ 199 ∧ c ≠ 216 ∧ c ≠ 217 ∧ c ≠ 218 ∧ c ≠ 219) : gu_198_199_216_217_218_219 c = 0 := by unfold gu_198_199_216_217_218_219; rw [if_neg (by omega), if_neg (by omega), if_neg (by omega), if_neg (by omega), if_neg (by omega), if_neg (by omega)]
theorem gu_198_199_216_217_218_219_st {A : HH} {x : Int} (hx : 0 ≤ x) (c j : Int) : mv gu_198_199_216_217_218_219 A (x + 1) c j = u2 (u2 (u2 (u2 (u2 (u2 (mv gu_198_199_216_217_218_219 A x) 198 x (A 228 x)) 199 x (A 229 x)) 216 x (A 230 x)) 217 x (A 231 x)) 218 x (A 232 x)) 219 x (A 237 x) c j := by
  by_cases e : j = x
  · subst e
    by_cases c198 : c = 198
    · subst c198
      rw [mv_T ⟨by decide, by omega, by omega⟩, gu_198_199_216_217_218_219_198]
      simp (disch := omega) only [u2S, u2N, u2T]
    by_cases c199 : c = 199
    · subst c199
      rw [mv_T ⟨by decide, by omega, by omega⟩, gu_198_199_216_217_218_219_199]
      simp (disch := omega) only [u2S, u2N, u2T]
    by_cases c216 : c = 216
    · subst c216
      rw [mv_T ⟨by decide, by omega, by omega⟩, gu_198_199_216_217_218_219_216]
      simp (disch := omega) only [u2S, u2N, u2T]
    by_cases c217 : c = 217
    · subst c217
      rw [mv_T ⟨by decide, by omega, by omega⟩, gu_198_199_216_217_218_219_217]
      simp (disch := omega) only [u2S, u2N, u2T]
    by_cases c218 : c = 218
    · subst c218
      rw [mv_T ⟨by decide, by omega, by omega⟩, gu_198_199_216_217_218_219_218]
      simp (disch := omega) only [u2S, u2N, u2T]
    by_cases c219 : c = 219
    · subst c219
      rw [mv_T ⟨by decide, by omega, by omega⟩, gu_198_199_216_217_218_219_219]
      simp (disch := omega) only [u2S, u2N, u2T]
    simp (disch := omega) only [u2S, u2N, u2T]
    rw [mv_N (.inl (gu_198_199_216_217_218_219_N ⟨c198, c199, c216, c217, c218, c219⟩)), mv_N (.inl (gu_198_199_216_217_218_219_N ⟨c198, c199, c216, c217, c218, c219⟩))]
  · simp (disch := omega) only [u2S, u2N, u2T]
    rw [mv_at, mv_at]
    by_cases q : gu_198_199_216_217_218_219 c ≠ 0 ∧ 0 ≤ j ∧ j < x
    · rw [if_pos q, if_pos (by omega)]
    · rw [if_neg q, if_neg (by omega)]
theorem m_undo_L158_ok {k A : HH} (kk : HH → Option (Int × HH)) (r : Int × HH → Prop) (hb : ∀ i, 0 ≤ i → i < 5 → A 237 i = 0 ∨ A 237 i = 1) (hk : ∀ h, MR k h (mv gu_198_199_216_217_218_219 A 5) → ∃ q, kk h = some q ∧ r q) : ∀ (d n : Nat) (h : HH) (x : Int), x + d = 5 → 0 ≤ x → d < n → MR k h (mv gu_198_199_216_217_218_219 A x) → ∃ q, m_undo_L158 kk n h x = some q ∧ r q := by
  intro d
  induction d with
  | zero =>
    intro n h x e h0 hn H
    obtain ⟨n, rfl⟩ : ∃ m, n = m + 1 := ⟨n - 1, by omega⟩
    have e : x = 5 := by omega
    subst e
    rw [m_undo_L158]
    simp (disch := omega) only [reduceIte, ltT, ltF, eqT, eqF, leT, leF, wwP, ckP, ckzP, ckbP, u2S, u2N, u2T, ↓Option.bind_some, inB_T, inB_F, Bool.false_eq_true, m_in0, m_in1]
    exact hk h H
  | succ d ih =>
    intro n h x e h0 hn H
    obtain ⟨n, rfl⟩ : ∃ m, n = m + 1 := ⟨n - 1, by omega⟩
    rw [m_undo_L158]
    have r0 : h 228 x = A 228 x := by rw [H.r228, mv_N (.inl rfl)]
    have r1 : h 229 x = A 229 x := by rw [H.r229, mv_N (.inl rfl)]
    have r2 : h 230 x = A 230 x := by rw [H.r230, mv_N (.inl rfl)]
    have r3 : h 231 x = A 231 x := by rw [H.r231, mv_N (.inl rfl)]
    have r4 : h 232 x = A 232 x := by rw [H.r232, mv_N (.inl rfl)]
    have r5 : h 237 x = A 237 x := by rw [H.r237, mv_N (.inl rfl)]
    have b1 := hb x h0 (by omega)
    simp (disch := omega) only [reduceIte, ltT, ltF, eqT, eqF, leT, leF, wwP, ckP, ckzP, ckbP, u2S, u2N, u2T, ↓Option.bind_some, inB_T, inB_F, Bool.false_eq_true, m_in0, m_in1, r0, r1, r2, r3, r4, r5]
    exact ih n _ (x + 1) (by omega) (by omega) (by omega) (((((((H.w (c := 198) (j := x) (v := A 228 x) (by omega)).w (c := 199) (j := x) (v := A 229 x) (by omega)).w (c := 216) (j := x) (v := A 230 x) (by omega)).w (c := 217) (j := x) (v := A 231 x) (by omega)).w (c := 218) (j := x) (v := A 232 x) (by omega)).w (c := 219) (j := x) (v := A 237 x) (by omega)).eq fun c j _ => gu_198_199_216_217_218_219_st h0 c j)
def gu_220_221 (c : Int) : Int := if c = 220 then 233 else if c = 221 then 234 else 0
theorem gu_220_221_220 : gu_220_221 220 = 233 := rfl
theorem gu_220_221_221 : gu_220_221 221 = 234 := rfl
theorem gu_220_221_N {c : Int} (h : c ≠ 220 ∧ c ≠ 221) : gu_220_221 c = 0 := by unfold gu_220_221; rw [if_neg (by omega), if_neg (by omega)]
theorem gu_220_221_st {A : HH} {x : Int} (hx : 0 ≤ x) (c j : Int) : mv gu_220_221 A (x + 1) c j = u2 (u2 (mv gu_220_221 A x) 220 x (A 233 x)) 221 x (A 234 x) c j := by
  by_cases e : j = x
  · subst e
    by_cases c220 : c = 220
    · subst c220
      rw [mv_T ⟨by decide, by omega, by omega⟩, gu_220_221_220]
      simp (disch := omega) only [u2S, u2N, u2T]
    by_cases c221 : c = 221
    · subst c221
      rw [mv_T ⟨by decide, by omega, by omega⟩, gu_220_221_221]
      simp (disch := omega) only [u2S, u2N, u2T]
    simp (disch := omega) only [u2S, u2N, u2T]
    rw [mv_N (.inl (gu_220_221_N ⟨c220, c221⟩)), mv_N (.inl (gu_220_221_N ⟨c220, c221⟩))]
  · simp (disch := omega) only [u2S, u2N, u2T]
    rw [mv_at, mv_at]
    by_cases q : gu_220_221 c ≠ 0 ∧ 0 ≤ j ∧ j < x
    · rw [if_pos q, if_pos (by omega)]
    · rw [if_neg q, if_neg (by omega)]
theorem m_undo_L243_ok {k A : HH} (kk : HH → Option (Int × HH)) (r : Int × HH → Prop) (hk : ∀ h, MR k h (mv gu_220_221 A 10) → ∃ q, kk h = some q ∧ r q) : ∀ (d n : Nat) (h : HH) (x : Int), x + d = 10 → 0 ≤ x → d < n → MR k h (mv gu_220_221 A x) → ∃ q, m_undo_L243 kk n h x = some q ∧ r q := by
  intro d
  induction d with
  | zero =>
    intro n h x e h0 hn H
    obtain ⟨n, rfl⟩ : ∃ m, n = m + 1 := ⟨n - 1, by omega⟩
    have e : x = 10 := by omega
    subst e
    rw [m_undo_L243]
    simp (disch := omega) only [reduceIte, ltT, ltF, eqT, eqF, leT, leF, wwP, ckP, ckzP, ckbP, u2S, u2N, u2T, ↓Option.bind_some, inB_T, inB_F, Bool.false_eq_true, m_in0, m_in1]
    exact hk h H
  | succ d ih =>
    intro n h x e h0 hn H
    obtain ⟨n, rfl⟩ : ∃ m, n = m + 1 := ⟨n - 1, by omega⟩
    rw [m_undo_L243]
    have r0 : h 233 x = A 233 x := by rw [H.r233, mv_N (.inl rfl)]
    have r1 : h 234 x = A 234 x := by rw [H.r234, mv_N (.inl rfl)]
    simp (disch := omega) only [reduceIte, ltT, ltF, eqT, eqF, leT, leF, wwP, ckP, ckzP, ckbP, u2S, u2N, u2T, ↓Option.bind_some, inB_T, inB_F, Bool.false_eq_true, m_in0, m_in1, r0, r1]
    exact ih n _ (x + 1) (by omega) (by omega) (by omega) (((H.w (c := 220) (j := x) (v := A 233 x) (by omega)).w (c := 221) (j := x) (v := A 234 x) (by omega)).eq fun c j _ => gu_220_221_st h0 c j)
def gu_222_223 (c : Int) : Int := if c = 222 then 235 else if c = 223 then 236 else 0
theorem gu_222_223_222 : gu_222_223 222 = 235 := rfl
theorem gu_222_223_223 : gu_222_223 223 = 236 := rfl
theorem gu_222_223_N {c : Int} (h : c ≠ 222 ∧ c ≠ 223) : gu_222_223 c = 0 := by unfold gu_222_223; rw [if_neg (by omega), if_neg (by omega)]
theorem gu_222_223_st {A : HH} {x : Int} (hx : 0 ≤ x) (c j : Int) : mv gu_222_223 A (x + 1) c j = u2 (u2 (mv gu_222_223 A x) 222 x (A 235 x)) 223 x (A 236 x) c j := by
  by_cases e : j = x
  · subst e
    by_cases c222 : c = 222
    · subst c222
      rw [mv_T ⟨by decide, by omega, by omega⟩, gu_222_223_222]
      simp (disch := omega) only [u2S, u2N, u2T]
    by_cases c223 : c = 223
    · subst c223
      rw [mv_T ⟨by decide, by omega, by omega⟩, gu_222_223_223]
      simp (disch := omega) only [u2S, u2N, u2T]
    simp (disch := omega) only [u2S, u2N, u2T]
    rw [mv_N (.inl (gu_222_223_N ⟨c222, c223⟩)), mv_N (.inl (gu_222_223_N ⟨c222, c223⟩))]
  · simp (disch := omega) only [u2S, u2N, u2T]
    rw [mv_at, mv_at]
    by_cases q : gu_222_223 c ≠ 0 ∧ 0 ≤ j ∧ j < x
    · rw [if_pos q, if_pos (by omega)]
    · rw [if_neg q, if_neg (by omega)]
theorem m_undo_L281_ok {k A : HH} : ∀ (d n : Nat) (h : HH) (x : Int), x + d = 8 → 0 ≤ x → d < n → MR k h (mv gu_222_223 A x) → ∃ h', m_undo_L281 n h x = some (A 193 0, h') ∧ MR k h' (mv gu_222_223 A 8) := by
  intro d
  induction d with
  | zero =>
    intro n h x e h0 hn H
    obtain ⟨n, rfl⟩ : ∃ m, n = m + 1 := ⟨n - 1, by omega⟩
    have e : x = 8 := by omega
    subst e
    rw [m_undo_L281]
    have r0 : h 193 0 = A 193 0 := by rw [H.s0, mv_N (.inl rfl)]
    simp (disch := omega) only [reduceIte, ltT, ltF, eqT, eqF, leT, leF, wwP, ckP, ckzP, ckbP, u2S, u2N, u2T, ↓Option.bind_some, inB_T, inB_F, Bool.false_eq_true, m_in0, m_in1, r0]
    exact ⟨h, rfl, H⟩
  | succ d ih =>
    intro n h x e h0 hn H
    obtain ⟨n, rfl⟩ : ∃ m, n = m + 1 := ⟨n - 1, by omega⟩
    rw [m_undo_L281]
    have r0 : h 235 x = A 235 x := by rw [H.r235, mv_N (.inl rfl)]
    have r1 : h 236 x = A 236 x := by rw [H.r236, mv_N (.inl rfl)]
    simp (disch := omega) only [reduceIte, ltT, ltF, eqT, eqF, leT, leF, wwP, ckP, ckzP, ckbP, u2S, u2N, u2T, ↓Option.bind_some, inB_T, inB_F, Bool.false_eq_true, m_in0, m_in1, r0, r1]
    exact ih n _ (x + 1) (by omega) (by omega) (by omega) (((H.w (c := 222) (j := x) (v := A 235 x) (by omega)).w (c := 223) (j := x) (v := A 236 x) (by omega)).eq fun c j _ => gu_222_223_st h0 c j)
