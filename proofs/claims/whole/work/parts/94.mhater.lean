/-- a row's items from lo on, n of them, become v -/
def fil (A : HH) (c lo n v : Int) : HH := fun a j => if a = c ∧ lo ≤ j ∧ j < lo + n then v else A a j
theorem fil_at {A : HH} {c lo n v a j : Int} : fil A c lo n v a j = if a = c ∧ lo ≤ j ∧ j < lo + n then v else A a j := rfl
theorem filN {A : HH} {c lo n v a j : Int} (h : a ≠ c ∨ j < lo ∨ lo + n ≤ j) : fil A c lo n v a j = A a j := by rw [fil_at, if_neg (by omega)]
theorem filT {A : HH} {c lo n v a j : Int} (h : a = c ∧ lo ≤ j ∧ j < lo + n) : fil A c lo n v a j = v := by rw [fil_at, if_pos h]
theorem fil_st {A : HH} {c lo n v : Int} (hn : 0 ≤ n) (a j : Int) : fil A c lo (n + 1) v a j = u2 (fil A c lo n v) c (lo + n) v a j := by
  by_cases e : a = c ∧ j = lo + n
  · rw [u2T e, filT (by omega)]
  · rw [u2N (by omega)]
    by_cases e2 : a = c ∧ lo ≤ j ∧ j < lo + n
    · rw [filT (by omega), filT e2]
    · rw [filN (by omega), filN (by omega)]
def haterA (A : HH) (a b c : Int) : HH := u2 (fil (fil (u2 (u2 (u2 A 194 (A 193 0) a) 195 (A 193 0) b) 193 1 (zand (A 193 1) (zxor (zshl 1 (A 193 0)) (-1)))) 196 (5 * A 193 0) 5 c) 197 (4 * A 193 0) 4 0) 193 0 (A 193 0 + 1)
theorem M_h117 {k A : HH} (n0 : 0 ≤ A 193 0 ∧ A 193 0 < 6) : ∀ (d n : Nat) (h : HH) (x : Int), x + d = 4 → 0 ≤ x → d < n → MR k h (fil A 197 (4 * A 193 0) x 0) → ∃ h', m_hater_L117 n h x = some (A 193 0, h') ∧ MR k h' (u2 (fil A 197 (4 * A 193 0) 4 0) 193 0 (A 193 0 + 1)) := by
  intro d
  induction d with
  | zero =>
    intro n h x e h0 hn H
    obtain ⟨n, rfl⟩ : ∃ m, n = m + 1 := ⟨n - 1, by omega⟩
    have e : x = 4 := by omega
    subst e
    have r : h 193 0 = A 193 0 := by rw [H.s0, filN (by omega)]
    have s : A 193 0 + 1 - 1 = A 193 0 := by omega
    rw [m_hater_L117]
    simp (disch := omega) only [reduceIte, ltT, ltF, eqT, eqF, leT, leF, wwP, ckP, ckzP, ckbP, u2S, u2N, u2T, ↓Option.bind_some, inB_T, inB_F, Bool.false_eq_true, m_in0, m_in1, r, s]
    exact ⟨_, rfl, H.w (by omega)⟩
  | succ d ih =>
    intro n h x e h0 hn H
    obtain ⟨n, rfl⟩ : ∃ m, n = m + 1 := ⟨n - 1, by omega⟩
    have r : h 193 0 = A 193 0 := by rw [H.s0, filN (by omega)]
    rw [m_hater_L117]
    simp (disch := omega) only [reduceIte, ltT, ltF, eqT, eqF, leT, leF, wwP, ckP, ckzP, ckbP, u2S, u2N, u2T, ↓Option.bind_some, inB_T, inB_F, Bool.false_eq_true, m_in0, m_in1, r]
    exact ih n _ (x + 1) (by omega) (by omega) (by omega) ((H.w (c := 197) (j := 4 * A 193 0 + x) (v := 0) (by omega)).eq fun c j _ => fil_st h0 c j)
theorem M_h87 {k A : HH} {v : Int} (n0 : 0 ≤ A 193 0 ∧ A 193 0 < 6) (kk : HH → Option (Int × HH)) (r : Int × HH → Prop) (hk : ∀ h, MR k h (fil A 196 (5 * A 193 0) 5 v) → ∃ q, kk h = some q ∧ r q) : ∀ (d n : Nat) (h : HH) (x : Int), x + d = 5 → 0 ≤ x → d < n → MR k h (fil A 196 (5 * A 193 0) x v) → ∃ q, m_hater_L87 v kk n h x = some q ∧ r q := by
  intro d
  induction d with
  | zero =>
    intro n h x e h0 hn H
    obtain ⟨n, rfl⟩ : ∃ m, n = m + 1 := ⟨n - 1, by omega⟩
    have e : x = 5 := by omega
    subst e
    rw [m_hater_L87]
    simp (disch := omega) only [reduceIte, ltT, ltF, eqT, eqF, leT, leF, wwP, ckP, ckzP, ckbP, u2S, u2N, u2T, ↓Option.bind_some, inB_T, inB_F, Bool.false_eq_true, m_in0, m_in1]
    exact hk h H
  | succ d ih =>
    intro n h x e h0 hn H
    obtain ⟨n, rfl⟩ : ∃ m, n = m + 1 := ⟨n - 1, by omega⟩
    have r0 : h 193 0 = A 193 0 := by rw [H.s0, filN (by omega)]
    rw [m_hater_L87]
    simp (disch := omega) only [reduceIte, ltT, ltF, eqT, eqF, leT, leF, wwP, ckP, ckzP, ckbP, u2S, u2N, u2T, ↓Option.bind_some, inB_T, inB_F, Bool.false_eq_true, m_in0, m_in1, r0]
    exact ih n _ (x + 1) (by omega) (by omega) (by omega) ((H.w (c := 196) (j := 5 * A 193 0 + x) (v := v) (by omega)).eq fun c j _ => fil_st h0 c j)
