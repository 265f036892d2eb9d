theorem X_hates_L {S : SS} {A : HH} {Y N p t what : Int} (W : WO Y N A) (hY : Y ≤ 19000) (L : LOK A) (hp : 0 ≤ p ∧ p < A 193 0) (ht : 0 ≤ t ∧ t < 5) {O : Int → List CL} (hO : OM A O) (h0 : HH) (hX : OX h0 A O) (h7 : h0 1 7 = A 193 2) (xl : h0 20 1 = A 193 38 ∧ ∀ i, 0 ≤ i → i < A 193 38 → h0 (22 + i) 0 = A 216 i ∧ h0 (22 + i) 1 = A 217 i ∧ h0 (22 + i) 2 = A 218 i ∧ h0 (22 + i) 3 = A 219 i) (hwhat : what = 0 ∨ what = 1) : ∀ (d n : Nat) (h B : HH) (c l : Int), d ≤ 100 → d < n → XC S h 99 B → (∀ a j, ¬ (a = 193 ∧ j = 2) → ¬ (a = 196 ∧ j = 5 * p + t) → B a j = A a j) → cntH A A O (A 193 2) p t d c l = cntH A A O (A 193 2) p t 100 0 (-5) → (∀ a j, ¬ (99 ≤ a ∧ a ≤ 147) → h a j = h0 a j) → ∃ h', x_hates_L51 S p t what n h c l ((d : Int) - 1) = some (if what = 0 then (cntH A A O (A 193 2) p t 100 0 (-5)).1 else (cntH A A O (A 193 2) p t 100 0 (-5)).2, h') ∧ ∀ a j, ¬ (99 ≤ a ∧ a ≤ 147) → h' a j = h0 a j := by
  intro d
  induction d with
  | zero =>
    intro n h B c l hd hn C hB hc f
    obtain ⟨n, rfl⟩ : ∃ m, n = m + 1 := ⟨n - 1, by omega⟩
    rw [x_hates_L51, if_pos (by rw [wwP (by omega)]; omega), ← hc]
    refine ⟨h, ?_, f⟩
    rcases hwhat with rfl | rfl
    · rw [if_pos (by decide), if_pos rfl]; rfl
    · rw [if_neg (by decide), if_neg (by decide)]; rfl
  | succ d ih =>
    intro n h B c l hd hn C hB hc f
    obtain ⟨n, rfl⟩ : ∃ m, n = m + 1 := ⟨n - 1, by omega⟩
    have n0 := W.1
    have y0 := W.2.1
    have l0 := L.1
    rw [cntH] at hc
    have e0 : (((d + 1 : Nat) : Int) - 1) = (d : Int) := by omega
    rw [e0, x_hates_L51]
    have C1 : XC S (u2 h (103 + p) t d) 99 (u2 B 196 (5 * p + t) d) := C.hate (by omega) (by omega) ht
    have hB1 : ∀ a j, ¬ (a = 193 ∧ j = 2) → u2 B 196 (5 * p + t) d a j = u2 A 196 (5 * p + t) d a j := fun a j z => by
      unfold u2
      by_cases q : a = 196 ∧ j = 5 * p + t
      · rw [if_pos q, if_pos q]
      · rw [if_neg q, if_neg q]; exact hB a j z q
    obtain ⟨h2, B2, e5, C2, hB2, f2⟩ := X_seen_L (S := S) (P := A) (A := u2 A 196 (5 * p + t) d) (t := t) (y := A 193 2) (hate_WO W (by omega) (by omega) ht) hY L.rows (by simp (disch := omega) only [u2S, u2N, u2T]) y0 (by simp (disch := omega) only [u2S, u2N, u2T]; exact hp) (.inr ht) (hate_OM hO) h0 (fun z => by rw [u2N (by omega)] at z ⊢; exact hX z) h7 xl (A 193 38).toNat FU (u2 h (103 + p) t d) (u2 B 196 (5 * p + t) d) 0 (by omega) (by omega) (by unfold FU; omega) C1 hB1 (fun a j q => by rw [u2N (by omega)]; exact f a j q)
    have e6 : x_isAsSeen S (u2 h (103 + p) t d) p t = some (seenN A (u2 A 196 (5 * p + t) d) O (A 193 2) p t (A 193 38).toNat 0, h2) := e5
    have hB3 : ∀ a j, ¬ (a = 193 ∧ j = 2) → ¬ (a = 196 ∧ j = 5 * p + t) → B2 a j = A a j := fun a j z q => by rw [hB2 a j z, u2N (by omega)]
    rw [show (d : Int) + -1 = (d : Int) - 1 by omega]
    rcases seen_01 (P := A) (A := u2 A 196 (5 * p + t) d) (O := O) (y := A 193 2) (p := p) (t := t) (A 193 38).toNat 0 with b | b
    · rw [b] at e6
      rw [if_pos b] at hc
      simp (disch := omega) only [reduceIte, ltT, ltF, eqT, eqF, leT, leF, wwP, ckP, ckzP, ckbP, u2S, u2N, u2T, ↓Option.bind_some, inB_T, inB_F, Bool.false_eq_true, m_in0, m_in1, e6]
      exact ih n h2 B2 c l (by omega) (by omega) C2 hB3 hc f2
    · rw [b] at e6
      rw [if_neg (by omega)] at hc
      simp (disch := omega) only [reduceIte, ltT, ltF, eqT, eqF, leT, leF, wwP, ckP, ckzP, ckbP, u2S, u2N, u2T, ↓Option.bind_some, inB_T, inB_F, Bool.false_eq_true, m_in0, m_in1, e6]
      exact ih n h2 B2 (c + 1) d (by omega) (by omega) C2 hB3 hc f2
