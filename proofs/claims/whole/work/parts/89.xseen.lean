theorem seen_neg {P A : HH} {O : Int → List CL} {y p t u : Int} (ht : t < 0) (hu : u < 0) : ∀ (d : Nat) (i : Int), seenN P A O y p t d i = seenN P A O y p u d i
  | 0, _ => rfl
  | d + 1, i => by
    have e1 : (t < 0 ∨ P 217 i = t) = True := eq_true (.inl ht)
    have e2 : (u < 0 ∨ P 217 i = u) = True := eq_true (.inl hu)
    rw [seenN, seenN, seen_neg ht hu d]
    simp only [e1, e2]
theorem XC.yr {S : SS} {h A : HH} {w v : Int} (hw : 1 ≤ w ∧ w ≤ 99) (C : XC S h w A) : XC S (u2 h w 7 v) w (u2 A 193 2 v) := C.year hw
theorem X_seen_L {S : SS} {P A : HH} {Y N p t y : Int} (W : WO Y N A) (hY : Y ≤ 19000) (R : rowsOK P) (hn0 : P 193 0 = A 193 0) (hy : 0 ≤ y ∧ y ≤ Y) (hp : 0 ≤ p ∧ p < A 193 0) (ht : t = -5 ∨ (0 ≤ t ∧ t < 5)) {O : Int → List CL} (hO : OM A O) (h0 : HH) (hX : OX h0 A O) (h7 : h0 1 7 = y) (xl : h0 20 1 = P 193 38 ∧ ∀ i, 0 ≤ i → i < P 193 38 → h0 (22 + i) 0 = P 216 i ∧ h0 (22 + i) 1 = P 217 i ∧ h0 (22 + i) 2 = P 218 i ∧ h0 (22 + i) 3 = P 219 i) : ∀ (d n : Nat) (h B : HH) (x : Int), x + d = P 193 38 → 0 ≤ x → d < n → XC S h 99 B → (∀ c j, ¬ (c = 193 ∧ j = 2) → B c j = A c j) → (∀ c j, ¬ (99 ≤ c ∧ c ≤ 147) → h c j = h0 c j) → ∃ h' B', x_isAsSeen_L2 S p t n h x = some (seenN P A O y p t d x, h') ∧ XC S h' 99 B' ∧ (∀ c j, ¬ (c = 193 ∧ j = 2) → B' c j = A c j) ∧ ∀ c j, ¬ (99 ≤ c ∧ c ≤ 147) → h' c j = h0 c j := by
  intro d
  have r0 := R.1
  induction d with
  | zero =>
    intro n h B x e hx hn C hB f
    obtain ⟨n, rfl⟩ : ∃ m, n = m + 1 := ⟨n - 1, by omega⟩
    have e38 : h 20 1 = P 193 38 := by rw [f _ _ (by omega), xl.1]
    rw [x_isAsSeen_L2, seenN]
    refine ⟨h, B, ?_, C, hB, f⟩
    simp (disch := omega) only [reduceIte, ltT, ltF, eqT, eqF, leT, leF, wwP, ckP, ckzP, ckbP, u2S, u2N, u2T, ↓Option.bind_some, inB_T, inB_F, Bool.false_eq_true, m_in0, m_in1, e38]
  | succ d ih =>
    intro n h B x e hx hn C hB f
    obtain ⟨n, rfl⟩ : ∃ m, n = m + 1 := ⟨n - 1, by omega⟩
    have n0 := W.1
    obtain ⟨⟨q1, q2⟩, q3, q4, q5⟩ := R.2 x hx (by omega)
    obtain ⟨x0, x1, x2, x3⟩ := xl.2 x hx (by omega)
    have e38 : h 20 1 = P 193 38 := by rw [f _ _ (by omega), xl.1]
    have e7 : h 1 7 = y := by rw [f _ _ (by omega), h7]
    have e0 : h (22 + x) 0 = P 216 x := by rw [f _ _ (by omega), x0]
    have e1 : h (22 + x) 1 = P 217 x := by rw [f _ _ (by omega), x1]
    have e2 : h (22 + x) 2 = P 218 x := by rw [f _ _ (by omega), x2]
    have e3 : h (22 + x) 3 = P 219 x := by rw [f _ _ (by omega), x3]
    have C1 : XC S (u2 h 99 7 (y + P 218 x)) 99 (u2 A 193 2 (y + P 218 x)) := (C.yr (v := y + P 218 x) (by omega)).cg (fun _ _ _ => rfl) (fun c j _ => by
      by_cases z : c = 193 ∧ j = 2
      · obtain ⟨rfl, rfl⟩ := z; rw [u2S, u2S]
      · rw [u2N (by omega), u2N (by omega), hB c j z])
    have offB : ∀ c j, ¬ (c = 193 ∧ j = 2) → u2 A 193 2 (y + P 218 x) c j = A c j := fun c j z => u2N (by omega)
    have ii := fun h' B' => ih n h' B' (x + 1) (by omega) (by omega) (by omega)
    rw [x_isAsSeen_L2, seenN]
    by_cases c1 : P 216 x = p
    · rw [if_pos c1]
      by_cases c2 : t < 0 ∨ P 217 x = t
      · rw [if_pos c2]
        obtain ⟨h2, e5, f2⟩ := X_bears (S := S) (h := u2 h 99 7 (y + P 218 x)) (w := 99) (.inr (.inr rfl)) C1 (yr_WO (Z := Y + 20) W (by omega)) (by omega) (p := p) (t := P 217 x) (by rw [offB _ _ (by omega)]; exact hp) q3 (yr_OM hO) (fun z => by
          rw [offB _ _ (by omega)] at z ⊢
          exact (hX z).cg (fun a b _ _ => by rw [u2N (by have := hO.2.1; omega)]; exact f a b (by have := hO.2.1; omega)))
        have b01 := @bear_01 (u2 A 193 2 (y + P 218 x)) O p (P 217 x)
        have e6 : h2 (22 + x) 3 = P 219 x := by rw [f2 _ _ (by omega), u2N (by omega), e3]
        have f3 : ∀ c j, ¬ (99 ≤ c ∧ c ≤ 147) → h2 c j = h0 c j := fun c j q => by rw [f2 c j (by omega), u2N (by omega), f c j q]
        have C2 : XC S h2 99 (u2 A 193 2 (y + P 218 x)) := C1.cg (fun a b q => f2 a b (by rcases q with q | q; omega; have := isHb_ge q; omega)) (fun _ _ _ => rfl)
        have xb := x_bitP b01
        by_cases c5 : bearA (u2 A 193 2 (y + P 218 x)) O p (P 217 x) = P 219 x
        · rw [if_pos c5]
          have i1 := ii _ _ C2 offB f3
          by_cases c3 : t = -5
          · simp (disch := omega) only [reduceIte, ltT, ltF, eqT, eqF, leT, leF, wwP, ckP, ckzP, ckbP, u2S, u2N, u2T, ↓Option.bind_some, inB_T, inB_F, Bool.false_eq_true, m_in0, m_in1, e38, e0, e1, e2, e7, c1, e5, e6, xb]
            exact i1
          · have c4 : P 217 x = t := by omega
            rw [c4] at e5 b01 c5 q3 e1 xb
            simp (disch := omega) only [reduceIte, ltT, ltF, eqT, eqF, leT, leF, wwP, ckP, ckzP, ckbP, u2S, u2N, u2T, ↓Option.bind_some, inB_T, inB_F, Bool.false_eq_true, m_in0, m_in1, e38, e0, e1, e2, e7, c1, c4, e5, e6, xb]
            exact i1
        · rw [if_neg c5]
          refine ⟨h2, _, ?_, C2, offB, f3⟩
          by_cases c3 : t = -5
          · simp (disch := omega) only [reduceIte, ltT, ltF, eqT, eqF, leT, leF, wwP, ckP, ckzP, ckbP, u2S, u2N, u2T, ↓Option.bind_some, inB_T, inB_F, Bool.false_eq_true, m_in0, m_in1, e38, e0, e1, e2, e7, c1, e5, e6, xb]
          · have c4 : P 217 x = t := by omega
            rw [c4] at e5 b01 c5 q3 e1 xb
            simp (disch := omega) only [reduceIte, ltT, ltF, eqT, eqF, leT, leF, wwP, ckP, ckzP, ckbP, u2S, u2N, u2T, ↓Option.bind_some, inB_T, inB_F, Bool.false_eq_true, m_in0, m_in1, e38, e0, e1, e2, e7, c1, c4, e5, e6, xb]
      · rw [if_neg c2]
        simp (disch := omega) only [reduceIte, ltT, ltF, eqT, eqF, leT, leF, wwP, ckP, ckzP, ckbP, u2S, u2N, u2T, ↓Option.bind_some, inB_T, inB_F, Bool.false_eq_true, m_in0, m_in1, e38, e0, e1, c1]
        exact ii h B C hB f
    · rw [if_neg c1]
      simp (disch := omega) only [reduceIte, ltT, ltF, eqT, eqF, leT, leF, wwP, ckP, ckzP, ckbP, u2S, u2N, u2T, ↓Option.bind_some, inB_T, inB_F, Bool.false_eq_true, m_in0, m_in1, e38, e0]
      exact ii h B C hB f
