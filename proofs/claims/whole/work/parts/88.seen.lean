/-- whether all rows from i on, of p (and of the tree t, if that is none below 0), are so -/
def seenN (P : HH) (A : HH) (O : Int → List CL) (y p t : Int) : Nat → Int → Int
  | 0, _ => 1
  | d + 1, i => if P 216 i = p then (if t < 0 ∨ P 217 i = t then (if bearA (u2 A 193 2 (y + P 218 i)) O p (P 217 i) = P 219 i then seenN P A O y p t d (i + 1) else 0) else seenN P A O y p t d (i + 1)) else seenN P A O y p t d (i + 1)
theorem seen_01 {P A : HH} {O : Int → List CL} {y p t : Int} : ∀ (d : Nat) (i : Int), seenN P A O y p t d i = 0 ∨ seenN P A O y p t d i = 1
  | 0, _ => .inr rfl
  | d + 1, i => by
    have h := seen_01 (P := P) (A := A) (O := O) (y := y) (p := p) (t := t) d (i + 1)
    rw [seenN]
    repeat' split
    all_goals first | exact h | exact .inl rfl
theorem yr_WO {A : HH} {Y N v : Int} (W : WO Y N A) {Z : Int} (hv : 0 ≤ v ∧ v ≤ Z) : WO Z N (u2 A 193 2 v) := by
  obtain ⟨h1, h2, h3, h4, h5, h6, h7, h8, h9, h10, h11⟩ := W
  exact ⟨by simp (disch := omega) only [u2S, u2N, u2T]; exact h1, by simp (disch := omega) only [u2S, u2N, u2T]; exact hv, by simp (disch := omega) only [u2S, u2N, u2T]; exact h3, by simp (disch := omega) only [u2S, u2N, u2T]; exact h4, fun p => by simp (disch := omega) only [u2S, u2N, u2T]; exact h5 p, fun p => by simp (disch := omega) only [u2S, u2N, u2T]; exact h6 p, fun p t => by simp (disch := omega) only [u2S, u2N, u2T]; exact h7 p t, fun p i => by simp (disch := omega) only [u2S, u2N, u2T]; exact h8 p i, fun t => by simp (disch := omega) only [u2S, u2N, u2T]; exact h9 t, fun t => by simp (disch := omega) only [u2S, u2N, u2T]; exact h10 t, fun t u => by simp (disch := omega) only [u2S, u2N, u2T]; exact h11 t u⟩
theorem yr_OM {A : HH} {O : Int → List CL} {v : Int} (hO : OM A O) : OM (u2 A 193 2 v) O := hO.cg (u2N (by omega)) (fun c j q => u2N (by unfold orchC at q; omega))
def rowsOK (A : HH) : Prop := (0 ≤ A 193 38 ∧ A 193 38 ≤ 5) ∧ ∀ i, 0 ≤ i → i < A 193 38 → (0 ≤ A 216 i ∧ A 216 i < A 193 0) ∧ (0 ≤ A 217 i ∧ A 217 i < 5) ∧ (0 ≤ A 218 i ∧ A 218 i ≤ 20) ∧ (A 219 i = 0 ∨ A 219 i = 1)
theorem M_seen_L {k A : HH} {Y N p t y : Int} (W : WO Y N A) (hY : Y ≤ 19000) (R : rowsOK A) (hy : y = A 193 2) (hp : 0 ≤ p ∧ p < A 193 0) (ht : -2147483648 ≤ t ∧ t ≤ 2147483647) {O : Int → List CL} (hO : OM A O) : ∀ (d n : Nat) (h B : HH) (x fl : Int), x + d = A 193 38 → 0 ≤ x → d < n → MR k h B → (∀ c j, ¬ (c = 193 ∧ j = 2) → B c j = A c j) → (fl = 0 ∨ fl = 1) → ∃ h', m_isSeen_L11 p t y n h fl x = some (if fl = 0 then 0 else seenN A A O y p t d x, h') ∧ MR k h' A := by
  intro d
  induction d with
  | zero =>
    intro n h B x fl e h0 hn H hB hf
    obtain ⟨n, rfl⟩ : ∃ m, n = m + 1 := ⟨n - 1, by omega⟩
    have r0 := R.1
    have e38 : h 193 38 = A 193 38 := by rw [H.s38, hB _ _ (by omega)]
    rw [m_isSeen_L11]
    have H1 : MR k (u2 h 193 2 y) A := (H.w (c := 193) (j := 2) (v := y) (by omega)).eq fun c j _ => by
      by_cases z : c = 193 ∧ j = 2
      · obtain ⟨rfl, rfl⟩ := z; rw [u2S, hy]
      · rw [u2N (by omega), hB c j z]
    refine ⟨_, ?_, H1⟩
    rcases hf with rfl | rfl
    · rw [if_pos rfl]
      simp (disch := omega) only [reduceIte, ltT, ltF, eqT, eqF, leT, leF, wwP, ckP, ckzP, ckbP, u2S, u2N, u2T, ↓Option.bind_some, inB_T, inB_F, Bool.false_eq_true, m_in0, m_in1, e38]
    · rw [if_neg (by decide : ¬ (1 : Int) = 0), seenN]
      simp (disch := omega) only [reduceIte, ltT, ltF, eqT, eqF, leT, leF, wwP, ckP, ckzP, ckbP, u2S, u2N, u2T, ↓Option.bind_some, inB_T, inB_F, Bool.false_eq_true, m_in0, m_in1, e38]
  | succ d ih =>
    intro n h B x fl e h0 hn H hB hf
    obtain ⟨n, rfl⟩ : ∃ m, n = m + 1 := ⟨n - 1, by omega⟩
    have n0 := W.1
    have y0 := W.2.1
    have r0 := R.1
    obtain ⟨⟨q1, q2⟩, q3, q4, q5⟩ := R.2 x h0 (by omega)
    have e38 : h 193 38 = A 193 38 := by rw [H.s38, hB _ _ (by omega)]
    have e1 : h 216 x = A 216 x := by rw [H.r216, hB _ _ (by omega)]
    have e2 : h 217 x = A 217 x := by rw [H.r217, hB _ _ (by omega)]
    have e3 : h 218 x = A 218 x := by rw [H.r218, hB _ _ (by omega)]
    have e4 : h 219 x = A 219 x := by rw [H.r219, hB _ _ (by omega)]
    have H1 : MR k (u2 h 193 2 (y + A 218 x)) (u2 A 193 2 (y + A 218 x)) := (H.w (c := 193) (j := 2) (v := y + A 218 x) (by omega)).eq fun c j _ => by
      by_cases z : c = 193 ∧ j = 2
      · obtain ⟨rfl, rfl⟩ := z; rw [u2S, u2S]
      · rw [u2N (by omega), u2N (by omega), hB c j z]
    have offB : ∀ c j, ¬ (c = 193 ∧ j = 2) → u2 A 193 2 (y + A 218 x) c j = A c j := fun c j z => u2N (by omega)
    have ii := fun h' B' fl' => ih n h' B' (x + 1) fl' (by omega) (by omega) (by omega)
    rw [m_isSeen_L11, seenN]
    by_cases c1 : A 216 x = p
    · rw [if_pos c1]
      by_cases c2 : t < 0 ∨ A 217 x = t
      · rw [if_pos c2]
        rcases hf with rfl | rfl
        · have i0 := ii _ _ 0 H1 offB (.inl rfl)
          rw [if_pos rfl] at i0 ⊢
          by_cases c3 : t < 0
          · simp (disch := omega) only [reduceIte, ltT, ltF, eqT, eqF, leT, leF, wwP, ckP, ckzP, ckbP, u2S, u2N, u2T, ↓Option.bind_some, inB_T, inB_F, Bool.false_eq_true, m_in0, m_in1, e38, e1, e2, e3, c1]
            exact i0
          · have c4 : A 217 x = t := by omega
            simp (disch := omega) only [reduceIte, ltT, ltF, eqT, eqF, leT, leF, wwP, ckP, ckzP, ckbP, u2S, u2N, u2T, ↓Option.bind_some, inB_T, inB_F, Bool.false_eq_true, m_in0, m_in1, e38, e1, e2, e3, c1, c4]
            exact i0
        · obtain ⟨h2, e5, H2⟩ := M_bears (k := k) H1 (yr_WO (Z := Y + 20) W (by omega)) (by omega) (p := p) (t := A 217 x) (by rw [offB _ _ (by omega)]; exact hp) q3 (yr_OM hO)
          have b01 := @bear_01 (u2 A 193 2 (y + A 218 x)) O p (A 217 x)
          have e6 : h2 219 x = A 219 x := by rw [H2.r219, offB _ _ (by omega)]
          rw [if_neg (by decide : ¬ (1 : Int) = 0)]
          by_cases c5 : bearA (u2 A 193 2 (y + A 218 x)) O p (A 217 x) = A 219 x
          · have i1 := ii _ _ 1 H2 offB (.inr rfl)
            rw [if_neg (by decide : ¬ (1 : Int) = 0)] at i1
            rw [if_pos c5]
            by_cases c3 : t < 0
            · simp (disch := omega) only [reduceIte, ltT, ltF, eqT, eqF, leT, leF, wwP, ckP, ckzP, ckbP, u2S, u2N, u2T, ↓Option.bind_some, inB_T, inB_F, Bool.false_eq_true, m_in0, m_in1, e38, e1, e2, e3, c1, e5, e6]
              exact i1
            · have c4 : A 217 x = t := by omega
              rw [c4] at e5 b01 c5 q3
              simp (disch := omega) only [reduceIte, ltT, ltF, eqT, eqF, leT, leF, wwP, ckP, ckzP, ckbP, u2S, u2N, u2T, ↓Option.bind_some, inB_T, inB_F, Bool.false_eq_true, m_in0, m_in1, e38, e1, e2, e3, c1, c4, e5, e6]
              exact i1
          · have i0 := ii _ _ 0 H2 offB (.inl rfl)
            rw [if_pos rfl] at i0
            rw [if_neg c5]
            by_cases c3 : t < 0
            · simp (disch := omega) only [reduceIte, ltT, ltF, eqT, eqF, leT, leF, wwP, ckP, ckzP, ckbP, u2S, u2N, u2T, ↓Option.bind_some, inB_T, inB_F, Bool.false_eq_true, m_in0, m_in1, e38, e1, e2, e3, c1, e5, e6]
              exact i0
            · have c4 : A 217 x = t := by omega
              rw [c4] at e5 b01 c5 q3
              simp (disch := omega) only [reduceIte, ltT, ltF, eqT, eqF, leT, leF, wwP, ckP, ckzP, ckbP, u2S, u2N, u2T, ↓Option.bind_some, inB_T, inB_F, Bool.false_eq_true, m_in0, m_in1, e38, e1, e2, e3, c1, c4, e5, e6]
              exact i0
      · rw [if_neg c2]
        simp (disch := omega) only [reduceIte, ltT, ltF, eqT, eqF, leT, leF, wwP, ckP, ckzP, ckbP, u2S, u2N, u2T, ↓Option.bind_some, inB_T, inB_F, Bool.false_eq_true, m_in0, m_in1, e38, e1, e2, c1]
        exact ii h B fl H hB hf
    · rw [if_neg c1]
      simp (disch := omega) only [reduceIte, ltT, ltF, eqT, eqF, leT, leF, wwP, ckP, ckzP, ckbP, u2S, u2N, u2T, ↓Option.bind_some, inB_T, inB_F, Bool.false_eq_true, m_in0, m_in1, e38, e1]
      exact ii h B fl H hB hf
