/- the class's bits -/
def enc : List Bool → Int
  | [] => 0
  | b :: s => b2i b + 2 * enc s
theorem enc_b : ∀ (s : List Bool) (m : Nat), s.length ≤ m → 0 ≤ enc s ∧ enc s < (2 ^ m : Nat)
  | [], m, _ => ⟨Int.le_refl _, by show (0 : Int) < _; have := Nat.two_pow_pos m; omega⟩
  | b :: s, m, h => by
    obtain ⟨m, rfl⟩ : ∃ k, m = k + 1 := ⟨m - 1, by simp at h; omega⟩
    have i := enc_b s m (by simp at h; omega)
    have := @b2i_01 b
    rw [enc, Nat.pow_succ]
    omega
theorem enc31 {s : List Bool} (h : s.length ≤ 31) : 0 ≤ enc s ∧ enc s < 2147483648 := enc_b s 31 h
theorem enc30 {s : List Bool} (h : s.length ≤ 30) : 0 ≤ enc s ∧ enc s < 1073741824 := enc_b s 30 h
theorem enc_push {s : List Bool} {b : Bool} {x : Int} (h : s.length ≤ 30) (hx : x = b2i b) : zor (zshl (enc s) 1) (x_bit x) = enc (b :: s) := by
  have e := enc30 h
  rw [hx, x_bitP b2i_01, zshl1 e, enc]
  cases b with
  | false => rw [b2i_f, zor0 (by omega)]; omega
  | true => rw [b2i_t, zor1 (by omega)]; omega
theorem enc_not {s : List Bool} {b : Bool} (h : s.length + 1 ≤ 31) : zxor (enc (b :: s)) 1 = enc ((!b) :: s) := by
  have e := enc31 (s := b :: s) h
  have := enc30 (s := s) (by omega)
  rw [zxor1 e, enc, enc]
  cases b with
  | false => rw [b2i_f, show b2i (!false) = 1 from rfl]; omega
  | true => rw [b2i_t, show b2i (!true) = 0 from rfl]; omega
theorem enc_and {s : List Bool} {a b : Bool} (h : s.length + 2 ≤ 31) : zand (zshr (enc (b :: a :: s)) 1) (zor (zand (enc (b :: a :: s)) 1) (-2)) = enc ((a && b) :: s) := by
  have e := enc31 (s := b :: a :: s) h
  have e2 := enc31 (s := s) (by omega)
  have a01 := @b2i_01 a
  rw [zshr1 e, zand1 e, enc, enc, enc]
  cases b with
  | false =>
    rw [b2i_f, show (0 + 2 * (b2i a + 2 * enc s)) % 2 = 0 by omega, show zor 0 (-2) = -2 by decide, show (0 + 2 * (b2i a + 2 * enc s)) / 2 = b2i a + 2 * enc s by omega, zandE (by rw [enc, enc, b2i_f] at e; omega)]
    cases a <;> simp only [b2i_t, b2i_f, Bool.and_false] <;> omega
  | true =>
    rw [b2i_t, show (1 + 2 * (b2i a + 2 * enc s)) % 2 = 1 by omega, show zor 1 (-2) = -1 by decide, show (1 + 2 * (b2i a + 2 * enc s)) / 2 = b2i a + 2 * enc s by omega, zandA (by rw [enc, enc, b2i_t] at e; omega), Bool.and_true]
theorem enc_or {s : List Bool} {a b : Bool} (h : s.length + 2 ≤ 31) : zor (zshr (enc (b :: a :: s)) 1) (zand (enc (b :: a :: s)) 1) = enc ((a || b) :: s) := by
  have e := enc31 (s := b :: a :: s) h
  have e2 := enc31 (s := s) (by omega)
  have a01 := @b2i_01 a
  rw [zshr1 e, zand1 e, enc, enc, enc]
  cases b with
  | false =>
    rw [b2i_f, show (0 + 2 * (b2i a + 2 * enc s)) % 2 = 0 by omega, show (0 + 2 * (b2i a + 2 * enc s)) / 2 = b2i a + 2 * enc s by omega, zor0 (by rw [enc, enc, b2i_f] at e; omega), Bool.or_false]
  | true =>
    rw [b2i_t, show (1 + 2 * (b2i a + 2 * enc s)) % 2 = 1 by omega, show (1 + 2 * (b2i a + 2 * enc s)) / 2 = b2i a + 2 * enc s by omega, zor1 (by rw [enc, enc, b2i_t] at e; omega)]
    cases a <;> simp only [b2i_t, b2i_f, Bool.or_true] <;> omega
theorem X_passes {h : HH} {fc z : Int} {F : Int → Int} (hF : ∀ f, 0 ≤ f → f < 6 → h fc f = F f) (hb : ∀ f, 0 ≤ F f ∧ F f ≤ 99) (k1 : 0 ≤ z) (k2 : z / 1000 < 6) (k3 : z / 100 % 10 < 3) : xo_passes h (3 * (z / 1000) + z / 100 % 10) (z % 100) fc = some (b2i (tst F z)) := by
  unfold xo_passes
  have e1 : (3 * (z / 1000) + z / 100 % 10) / 3 = z / 1000 := by omega
  have e2 : (3 * (z / 1000) + z / 100 % 10) % 3 = z / 100 % 10 := by omega
  have f0 := hF (z / 1000) (by omega) k2
  have fb := hb (z / 1000)
  have s0 : z / 100 % 10 = 0 ∨ z / 100 % 10 = 1 ∨ z / 100 % 10 = 2 := by omega
  have et : tst F z = if z / 100 % 10 = 0 then decide (F (z / 1000) < z % 100) else if z / 100 % 10 = 1 then decide (F (z / 1000) = z % 100) else decide (z % 100 < F (z / 1000)) := rfl
  rw [zdivP (by omega), zremP (by omega), e1, e2]
  generalize F (z / 1000) = G at f0 fb et
  rcases s0 with s0 | s0 | s0
  · rw [if_pos s0] at et
    by_cases q : G < z % 100
    · rw [decide_eq_true q] at et
      rw [et]
      simp (disch := omega) only [reduceIte, ltT, ltF, eqT, eqF, leT, leF, wwP, ckP, ckzP, ckbP, u2S, u2N, u2T, ↓Option.bind_some, inB_T, inB_F, Bool.false_eq_true, m_in0, m_in1, f0, b2i_t, s0]
    · rw [decide_eq_false q] at et
      rw [et]
      simp (disch := omega) only [reduceIte, ltT, ltF, eqT, eqF, leT, leF, wwP, ckP, ckzP, ckbP, u2S, u2N, u2T, ↓Option.bind_some, inB_T, inB_F, Bool.false_eq_true, m_in0, m_in1, f0, b2i_f, s0]
  · rw [if_neg (by omega), if_pos s0] at et
    by_cases q : G = z % 100
    · rw [decide_eq_true q] at et
      rw [et]
      simp (disch := omega) only [reduceIte, ltT, ltF, eqT, eqF, leT, leF, wwP, ckP, ckzP, ckbP, u2S, u2N, u2T, ↓Option.bind_some, inB_T, inB_F, Bool.false_eq_true, m_in0, m_in1, f0, b2i_t, s0]
    · rw [decide_eq_false q] at et
      rw [et]
      simp (disch := omega) only [reduceIte, ltT, ltF, eqT, eqF, leT, leF, wwP, ckP, ckzP, ckbP, u2S, u2N, u2T, ↓Option.bind_some, inB_T, inB_F, Bool.false_eq_true, m_in0, m_in1, f0, b2i_f, s0]
  · rw [if_neg (by omega), if_neg (by omega)] at et
    by_cases q : z % 100 < G
    · rw [decide_eq_true q] at et
      rw [et]
      simp (disch := omega) only [reduceIte, ltT, ltF, eqT, eqF, leT, leF, wwP, ckP, ckzP, ckbP, u2S, u2N, u2T, ↓Option.bind_some, inB_T, inB_F, Bool.false_eq_true, m_in0, m_in1, f0, b2i_t, s0]
    · rw [decide_eq_false q] at et
      rw [et]
      simp (disch := omega) only [reduceIte, ltT, ltF, eqT, eqF, leT, leF, wwP, ckP, ckzP, ckbP, u2S, u2N, u2T, ↓Option.bind_some, inB_T, inB_F, Bool.false_eq_true, m_in0, m_in1, f0, b2i_f, s0]
theorem X_code {h : HH} {o fc T acc : Int} {F : Int → Int} (hF : ∀ f, 0 ≤ f → f < 6 → h fc f = F f) (hb : ∀ f, 0 ≤ F f ∧ F f ≤ 99) (hT : h o 4 = T) (T0 : 0 ≤ T ∧ T ≤ 100) {c : List Int} {s : Nat} (hs : s + c.length ≤ T) (hc : ∀ j : Nat, j < c.length → h (o + 1) ((s : Int) + j) = stepX (c.getD j 0) ∧ (0 ≤ c.getD j 0 → h (o + 2) ((s : Int) + j) = numX (c.getD j 0))) : ∀ (d n j : Nat) (st : List Bool), j + d = c.length → st.length ≤ 31 → okC st.length (c.drop j) → xo_warmth_L7 h o fc (n + d) acc (enc st) ((s : Int) + j) = xo_warmth_L7 h o fc n acc (enc (ev F st (c.drop j))) ((s : Int) + c.length) ∧ (ev F st (c.drop j)).length = 1 := by
  intro d
  induction d with
  | zero =>
    intro n j st e h31 ho
    rw [List.drop_of_length_le (by omega)] at ho ⊢
    refine ⟨?_, ?_⟩
    · rw [show (j : Int) = c.length by omega]; rfl
    · have ho : (st.length : Int) = 1 := ho
      show st.length = 1
      omega
  | succ d ih =>
    intro n j st e h31 ho
    have g := hc j (by omega)
    rw [List.drop_eq_getElem_cons (by omega), ← getD_at (d := 0) (by omega)] at ho ⊢
    generalize c.getD j 0 = z at ho g ⊢
    obtain ⟨g1, g2⟩ := g
    have ii := fun st' => ih n (j + 1) st' (by omega)
    have e1 : (s : Int) + (j : Int) + 1 = (s : Int) + ((j + 1 : Nat) : Int) := by omega
    rw [okC] at ho
    rw [ev, ← Nat.add_assoc, xo_warmth_L7]
    by_cases z1 : z = -33
    · rw [if_pos z1] at ho ⊢
      have g1 : h (o + 1) ((s : Int) + j) = -1 := by rw [g1, z1]; rfl
      match st, ho, h31 with
      | [], ho, _ => simp at ho
      | b :: t, ho, h31 =>
        have ii := ii ((!b) :: t) h31 ho.2
        rw [← enc_not h31] at ii
        simp (disch := omega) only [reduceIte, ltT, ltF, eqT, eqF, leT, leF, wwP, ckP, ckzP, ckbP, u2S, u2N, u2T, ↓Option.bind_some, inB_T, inB_F, Bool.false_eq_true, m_in0, m_in1, hT, g1, e1]
        exact ii
    rw [if_neg z1] at ho ⊢
    by_cases z2 : z = -38
    · rw [if_pos (.inl z2)] at ho
      rw [if_pos z2]
      have g1 : h (o + 1) ((s : Int) + j) = -2 := by rw [g1, z2]; rfl
      match st, ho, h31 with
      | [], ho, _ => simp at ho
      | [_], ho, _ => simp at ho
      | b :: a :: t, ho, h31 =>
        have ho2 := ho.2
        rw [show (((b :: a :: t).length : Nat) : Int) - 1 = (((a && b) :: t).length : Nat) from (by show ((t.length + 2 : Nat) : Int) - 1 = ((t.length + 1 : Nat) : Int); omega)] at ho2
        have ii := ii ((a && b) :: t) (by show t.length + 1 ≤ 31; have : t.length + 2 ≤ 31 := h31; omega) ho2
        rw [← enc_and h31] at ii
        simp (disch := omega) only [reduceIte, ltT, ltF, eqT, eqF, leT, leF, wwP, ckP, ckzP, ckbP, u2S, u2N, u2T, ↓Option.bind_some, inB_T, inB_F, Bool.false_eq_true, m_in0, m_in1, hT, g1, e1]
        exact ii
    rw [if_neg z2]
    by_cases z3 : z = -124
    · rw [if_pos (.inr z3)] at ho
      rw [if_pos z3]
      have g1 : h (o + 1) ((s : Int) + j) = -3 := by rw [g1, z3]; rfl
      match st, ho, h31 with
      | [], ho, _ => simp at ho
      | [_], ho, _ => simp at ho
      | b :: a :: t, ho, h31 =>
        have ho2 := ho.2
        rw [show (((b :: a :: t).length : Nat) : Int) - 1 = (((a || b) :: t).length : Nat) from (by show ((t.length + 2 : Nat) : Int) - 1 = ((t.length + 1 : Nat) : Int); omega)] at ho2
        have ii := ii ((a || b) :: t) (by show t.length + 1 ≤ 31; have : t.length + 2 ≤ 31 := h31; omega) ho2
        rw [← enc_or h31] at ii
        simp (disch := omega) only [reduceIte, ltT, ltF, eqT, eqF, leT, leF, wwP, ckP, ckzP, ckbP, u2S, u2N, u2T, ↓Option.bind_some, inB_T, inB_F, Bool.false_eq_true, m_in0, m_in1, hT, g1, e1]
        exact ii
    rw [if_neg (by omega : ¬ (z = -38 ∨ z = -124))] at ho
    rw [if_neg z3]
    obtain ⟨k1, k2, k3, k4, k5⟩ := ho
    have g1 : h (o + 1) ((s : Int) + j) = 3 * (z / 1000) + z / 100 % 10 := by rw [g1]; unfold stepX; rw [if_neg z1, if_neg z2, if_neg z3]
    have g2 : h (o + 2) ((s : Int) + j) = z % 100 := g2 k1
    have ps := X_passes hF hb k1 k2 k3
    have ii := ii (tst F z :: st) (by show st.length + 1 ≤ 31; omega) k5
    rw [← enc_push (x := b2i (tst F z)) (by omega) rfl] at ii
    simp (disch := omega) only [reduceIte, ltT, ltF, eqT, eqF, leT, leF, wwP, ckP, ckzP, ckbP, u2S, u2N, u2T, ↓Option.bind_some, inB_T, inB_F, Bool.false_eq_true, m_in0, m_in1, hT, g1, g2, ps, e1]
    exact ii
