def idx (p t : Int) : Int := 5 * p + t
/-- how many of the numbers below d are so, and the least -/
def cntH (P A : HH) (O : Int → List CL) (y p t : Int) : Nat → Int → Int → Int × Int
  | 0, c, l => (c, l)
  | d + 1, c, l => if seenN P (u2 A 196 (5 * p + t) d) O y p t (P 193 38).toNat 0 = 0 then cntH P A O y p t d c l else cntH P A O y p t d (c + 1) d
theorem hate_WO {A : HH} {Y N p t v : Int} (W : WO Y N A) (hv : 0 ≤ v ∧ v ≤ 99) (hp : 0 ≤ p ∧ p < 6) (ht : 0 ≤ t ∧ t < 5) : WO Y N (u2 A 196 (5 * p + t) v) := by
  obtain ⟨h1, h2, h3, h4, h5, h6, h7, h8, h9, h10, h11⟩ := W
  refine ⟨by simp (disch := omega) only [u2S, u2N, u2T]; exact h1, by simp (disch := omega) only [u2S, u2N, u2T]; exact h2, by simp (disch := omega) only [u2S, u2N, u2T]; exact h3, by simp (disch := omega) only [u2S, u2N, u2T]; exact h4, fun p => by simp (disch := omega) only [u2S, u2N, u2T]; exact h5 p, fun p => by simp (disch := omega) only [u2S, u2N, u2T]; exact h6 p, fun q u => ?_, fun p i => by simp (disch := omega) only [u2S, u2N, u2T]; exact h8 p i, fun t => by simp (disch := omega) only [u2S, u2N, u2T]; exact h9 t, fun t => by simp (disch := omega) only [u2S, u2N, u2T]; exact h10 t, fun t u => by simp (disch := omega) only [u2S, u2N, u2T]; exact h11 t u⟩
  simp (disch := omega) only [u2S, u2N, u2T]
  intro a b c d
  by_cases e : q = p ∧ u = t
  · obtain ⟨rfl, rfl⟩ := e
    simp (disch := omega) only [u2S, u2N, u2T]
    exact hv
  · simp (disch := omega) only [u2S, u2N, u2T]
    exact h7 q u a b c d
theorem hate_OM {A : HH} {O : Int → List CL} {j v : Int} (hO : OM A O) : OM (u2 A 196 j v) O := hO.cg (u2N (by omega)) (fun c i q => u2N (by unfold orchC at q; omega))
theorem LOK.rows {A : HH} (L : LOK A) : rowsOK A := ⟨L.1, L.2.2.2.1⟩
theorem M_hates_L {k A : HH} {Y N p t what sv : Int} (W : WO Y N A) (hY : Y ≤ 19000) (L : LOK A) (hp : 0 ≤ p ∧ p < A 193 0) (ht : 0 ≤ t ∧ t < 5) {O : Int → List CL} (hO : OM A O) (kk : HH → Int → Int → Option (Int × HH)) (r : Int × HH → Prop) (hk : ∀ h v, MR k h (u2 A 196 (5 * p + t) v) → ∃ q, kk h (cntH A A O (A 193 2) p t 100 0 (-5)).1 (cntH A A O (A 193 2) p t 100 0 (-5)).2 = some q ∧ r q) : ∀ (d n : Nat) (h : HH) (c l v : Int), d ≤ 100 → d < n → MR k h (u2 A 196 (5 * p + t) v) → cntH A A O (A 193 2) p t d c l = cntH A A O (A 193 2) p t 100 0 (-5) → ∃ q, m_hates_L51 p t what sv kk n h c l ((d : Int) - 1) = some q ∧ r q := by
  intro d
  induction d with
  | zero =>
    intro n h c l v hd hn H hc
    obtain ⟨n, rfl⟩ : ∃ m, n = m + 1 := ⟨n - 1, by omega⟩
    rw [m_hates_L51, if_pos (by rw [wwP (by omega)]; omega)]
    obtain ⟨q, e, hq⟩ := hk h v H
    rw [← hc] at e
    exact ⟨q, e, hq⟩
  | succ d ih =>
    intro n h c l v hd hn H hc
    obtain ⟨n, rfl⟩ : ∃ m, n = m + 1 := ⟨n - 1, by omega⟩
    have n0 := W.1
    rw [cntH] at hc
    have e0 : (((d + 1 : Nat) : Int) - 1) = (d : Int) := by omega
    rw [e0, m_hates_L51]
    have H1 : MR k (u2 h 196 (5 * p + t) d) (u2 A 196 (5 * p + t) d) := (H.w (c := 196) (j := 5 * p + t) (v := d) (by omega)).eq fun c j _ => by
      unfold u2
      by_cases z : c = 196 ∧ j = 5 * p + t
      · rw [if_pos z, if_pos z]
      · rw [if_neg z, if_neg z, if_neg z]
    have R : rowsOK (u2 A 196 (5 * p + t) d) := by
      unfold rowsOK
      simp (disch := omega) only [u2S, u2N, u2T]
      exact L.rows
    have l0 := L.1
    have Ps : ∀ (m : Nat) (i : Int), seenN (u2 A 196 (5 * p + t) d) (u2 A 196 (5 * p + t) d) O (A 193 2) p t m i = seenN A (u2 A 196 (5 * p + t) d) O (A 193 2) p t m i := by
      intro m
      induction m with
      | zero => intro i; rfl
      | succ m im =>
        intro i
        rw [seenN, seenN, im]
        simp (disch := omega) only [u2S, u2N, u2T]
    obtain ⟨h2, e5, H2⟩ := M_seen_L (k := k) (A := u2 A 196 (5 * p + t) d) (t := t) (hate_WO W (by omega) (by omega) ht) hY R (y := A 193 2) (by simp (disch := omega) only [u2S, u2N, u2T]) (by simp (disch := omega) only [u2S, u2N, u2T]; exact hp) (by omega) (hate_OM hO) (A 193 38).toNat FU (u2 h 196 (5 * p + t) d) _ 0 1 (by simp (disch := omega) only [u2S, u2N, u2T]; omega) (by omega) (by unfold FU; omega) H1 (fun _ _ _ => rfl) (.inr rfl)
    rw [if_neg (by decide : ¬ (1 : Int) = 0), Ps] at e5
    have e6 : m_isSeen (u2 h 196 (5 * p + t) d) p t = some (seenN A (u2 A 196 (5 * p + t) d) O (A 193 2) p t (A 193 38).toNat 0, h2) := by
      unfold m_isSeen
      have y2 : u2 h 196 (5 * p + t) d 193 2 = A 193 2 := by simp (disch := omega) only [u2S, u2N, u2T]; rw [H.s2]; simp (disch := omega) only [u2S, u2N, u2T]
      rw [y2]
      exact e5
    rw [show (d : Int) + -1 = (d : Int) - 1 by omega]
    rcases seen_01 (P := A) (A := u2 A 196 (5 * p + t) d) (O := O) (y := A 193 2) (p := p) (t := t) (A 193 38).toNat 0 with b | b
    · rw [b] at e6
      rw [if_pos b] at hc
      simp (disch := omega) only [reduceIte, ltT, ltF, eqT, eqF, leT, leF, wwP, ckP, ckzP, ckbP, u2S, u2N, u2T, ↓Option.bind_some, inB_T, inB_F, Bool.false_eq_true, m_in0, m_in1, e6]
      exact ih n h2 c l d (by omega) (by omega) H2 hc
    · rw [b] at e6
      rw [if_neg (by omega)] at hc
      simp (disch := omega) only [reduceIte, ltT, ltF, eqT, eqF, leT, leF, wwP, ckP, ckzP, ckbP, u2S, u2N, u2T, ↓Option.bind_some, inB_T, inB_F, Bool.false_eq_true, m_in0, m_in1, e6]
      exact ih n h2 (c + 1) d d (by omega) (by omega) H2 hc
