def gfR (a i c j : Int) : Prop := ((c = a + 1 ∨ c = a + 2) ∧ 0 ≤ j ∧ j < i) ∨ (a + 4 ≤ c ∧ c < a + 4 + i ∧ 0 ≤ j ∧ j < 5) ∨ (a + 11 ≤ c ∧ c < a + 11 + i ∧ 0 ≤ j ∧ j < 4)
theorem X_goFrom_L {S : SS} {h : HH} {a b : Int} (hab : (a = 99 ∧ b = 1) ∨ (a = 50 ∧ b = 1) ∨ (a = 1 ∧ b = 50)) (hN : ∀ p, 0 ≤ p → p < 6 → (h (b + 1) p ≤ 0 ∨ isHb S (h (b + 1) p - 1) = true) ∧ (h (b + 2) p = 0 ∨ h (b + 2) p = 1)) (kk : HH → Option HH) (r : HH → Prop) (hk : ∀ g, (∀ c j, gfR a 6 c j → g c j = h (c - a + b) j) → (∀ c j, ¬ gfR a 6 c j → g c j = h c j) → ∃ q, kk g = some q ∧ r q) : ∀ (d n : Nat) (g : HH) (x : Int), x + d = 6 → 0 ≤ x → d < n → (∀ c j, gfR a x c j → g c j = h (c - a + b) j) → (∀ c j, ¬ gfR a x c j → g c j = h c j) → ∃ q, xw_goFrom_L2 S a b kk n g x = some q ∧ r q := by
  intro d
  induction d with
  | zero =>
    intro n g x e h0 hn f1 f2
    obtain ⟨n, rfl⟩ : ∃ m, n = m + 1 := ⟨n - 1, by omega⟩
    have e : x = 6 := by omega
    subst e
    rw [xw_goFrom_L2]
    simp (disch := omega) only [reduceIte, ltT, ltF, eqT, eqF, leT, leF, wwP, ckP, ckzP, ckbP, u2S, u2N, u2T, ↓Option.bind_some, inB_T, inB_F, Bool.false_eq_true, m_in0, m_in1]
    exact hk g f1 f2
  | succ d ih =>
    intro n g x e h0 hn f1 f2
    obtain ⟨n, rfl⟩ : ∃ m, n = m + 1 := ⟨n - 1, by omega⟩
    rw [xw_goFrom_L2]
    have r1 : g (b + 1) x = h (b + 1) x := f2 _ _ (by unfold gfR; omega)
    have r2 : g (b + 2) x = h (b + 2) x := f2 _ _ (by unfold gfR; omega)
    obtain ⟨n1, n2⟩ := hN x h0 (by omega)
    simp (disch := omega) only [reduceIte, ltT, ltF, eqT, eqF, leT, leF, wwP, ckP, ckzP, ckbP, u2S, u2N, u2T, ↓Option.bind_some, inB_T, inB_F, Bool.false_eq_true, m_in0, m_in1, r1, r2, ckhnP, n1]
    refine ih n _ (x + 1) (by omega) (by omega) (by omega) (fun c j q => ?_) (fun c j q => ?_)
    · by_cases e4 : c = a + 11 + x ∧ 0 ≤ j ∧ j < 4
      · obtain ⟨rfl, j0, j4⟩ := e4
        rw [cpAT (by omega)]
        simp (disch := omega) only [u2S, u2N, u2T, cpAN]
        rw [f2 _ _ (by unfold gfR; omega)]
        congr 1 <;> omega
      · rw [cpAN (by omega)]
        by_cases e3 : c = a + 4 + x ∧ 0 ≤ j ∧ j < 5
        · obtain ⟨rfl, j0, j4⟩ := e3
          rw [cpAT (by omega)]
          simp (disch := omega) only [u2S, u2N, u2T]
          rw [f2 _ _ (by unfold gfR; omega)]
          congr 1 <;> omega
        · rw [cpAN (by omega)]
          by_cases e2 : c = a + 2 ∧ j = x
          · obtain ⟨rfl, rfl⟩ := e2
            rw [u2S]
            congr 1; omega
          · rw [u2N (by omega)]
            by_cases e1 : c = a + 1 ∧ j = x
            · obtain ⟨rfl, rfl⟩ := e1
              rw [u2S]
              congr 1; omega
            · rw [u2N (by omega)]
              exact f1 c j (by unfold gfR at q ⊢; omega)
    · unfold gfR at q
      rw [cpAN (by omega), cpAN (by omega), u2N (by omega), u2N (by omega)]
      exact f2 c j (by unfold gfR; omega)
theorem X_goFrom {S : SS} {h A : HH} {a b : Int} (hab : (a = 99 ∧ b = 1) ∨ (a = 50 ∧ b = 1) ∨ (a = 1 ∧ b = 50)) (C : XC S h b A) : ∃ h', xw_goFrom S h a b = some h' ∧ XC S h' a A ∧ ∀ c j, ¬ (a ≤ c ∧ c ≤ a + 18) → h' c j = h c j := by
  have C' := C
  obtain ⟨h1, h2, h3, h4, h5, h6, h7, h8, h9, h10⟩ := C
  unfold xw_goFrom
  refine X_goFrom_L (h := h) hab h4 _ (fun q => XC S q a A ∧ ∀ c j, ¬ (a ≤ c ∧ c ≤ a + 18) → q c j = h c j) (fun g f1 f2 => ⟨_, rfl, ?_, ?_⟩) 6 FU h 0 rfl (by omega) (by decide) (fun c j q => by unfold gfR at q; omega) (fun _ _ _ => rfl)
  · have n6 := h1.1
    have n7 := h1.2.1
    have gb : ∀ c j, b ≤ c → c ≤ b + 18 → g c j = h c j := fun c j p q => f2 c j (by unfold gfR; omega)
    have ga : ∀ c j, gfR a 6 c j → g c j = h (c - a + b) j := f1
    refine ⟨⟨n6, n7, ?_⟩, ?_, ?_, fun p q r => ?_, fun p q r => ?_, fun p q r => ?_, fun p t q r u v => ?_, fun p t q r u v => ?_, fun t u v => ?_, fun t u v => ?_⟩
    · simp (disch := omega) only [u2S, u2N, u2T, cpAN]; rw [gb b 4 (by omega) (by omega)]; exact h1.2.2
    · simp (disch := omega) only [u2S, u2N, u2T, cpAN]; rw [gb b 7 (by omega) (by omega)]; exact h2
    · simp (disch := omega) only [u2S, u2N, u2T, cpAN]; rw [gb b 11 (by omega) (by omega)]; exact h3
    · simp (disch := omega) only [u2S, u2N, u2T, cpAN]
      rw [ga (a + 1) p (by unfold gfR; omega), ga (a + 2) p (by unfold gfR; omega), show a + 1 - a + b = b + 1 by omega, show a + 2 - a + b = b + 2 by omega]
      exact h4 p q r
    · have g5 := h5 p q r
      have gg := isHb_ge g5.1
      have e1 : g (a + 1) p = h (b + 1) p := by rw [ga (a + 1) p (by unfold gfR; omega), show a + 1 - a + b = b + 1 by omega]
      simp (disch := omega) only [u2S, u2N, u2T, cpAN, e1]
      rw [f2 _ 0 (by unfold gfR; omega), f2 _ 1 (by unfold gfR; omega), f2 _ 2 (by unfold gfR; omega)]
      exact g5
    · simp (disch := omega) only [u2S, u2N, u2T, cpAN]
      rw [ga (a + 2) p (by unfold gfR; omega), show a + 2 - a + b = b + 2 by omega]
      exact h6 p q r
    · simp (disch := omega) only [u2S, u2N, u2T, cpAN]
      rw [ga (a + 4 + p) t (by unfold gfR; omega), show a + 4 + p - a + b = b + 4 + p by omega]
      exact h7 p t q r u v
    · simp (disch := omega) only [u2S, u2N, u2T, cpAN]
      rw [ga (a + 11 + p) t (by unfold gfR; omega), show a + 11 + p - a + b = b + 11 + p by omega]
      exact h8 p t q r u v
    · simp (disch := omega) only [u2S, u2N, u2T, cpAN, cpAT]
      rw [gb (b + 17) _ (by omega) (by omega), show 0 + (t - 0) = t by omega]
      exact h9 t u v
    · simp (disch := omega) only [u2S, u2N, u2T, cpAN, cpAT]
      rw [gb (b + 18) _ (by omega) (by omega), show 0 + (t - 0) = t by omega]
      exact h10 t u v
  · intro c j q
    simp (disch := omega) only [u2S, u2N, u2T, cpAN]
    exact f2 c j (by unfold gfR; omega)
