/-- the bounds that hold in the middle of a year, too -/
def WO (Y N : Int) (A : HH) : Prop := (0 ≤ A 193 0 ∧ A 193 0 ≤ 6) ∧ (0 ≤ A 193 2 ∧ A 193 2 ≤ Y) ∧ (0 ≤ A 193 1 ∧ A 193 1 < 64) ∧ (-1 ≤ A 193 10 ∧ A 193 10 < N) ∧
  (∀ p, 0 ≤ p → p < A 193 0 → 0 ≤ A 194 p ∧ A 194 p ≤ 6) ∧ (∀ p, 0 ≤ p → p < A 193 0 → 0 ≤ A 195 p ∧ A 195 p ≤ 9) ∧
  (∀ p t, 0 ≤ p → p < A 193 0 → 0 ≤ t → t < 5 → 0 ≤ A 196 (5 * p + t) ∧ A 196 (5 * p + t) ≤ 99) ∧ (∀ p i, 0 ≤ p → p < A 193 0 → 0 ≤ i → i < 4 → 0 ≤ A 197 (4 * p + i) ∧ A 197 (4 * p + i) ≤ 9) ∧
  (∀ t, 0 ≤ t → t < 5 → 0 ≤ A 198 t ∧ A 198 t ≤ 20000) ∧ (∀ t, 0 ≤ t → t < 5 → A 199 t = -5 ∨ (0 ≤ A 199 t ∧ A 199 t < A 193 0)) ∧
  (∀ t u, 0 ≤ t → t < 5 → 0 ≤ u → u < 5 → t ≠ u → A 199 t = A 199 u → A 199 t = -5)
theorem WOK.wo {Y N : Int} {A : HH} (H : WOK Y N A) (hY : Y ≤ 20000) : WO Y N A := by
  obtain ⟨h1, h2, h3, h4, h5, h6, h7, h8, h9, h10, h11⟩ := H
  exact ⟨h1, h2, h3, h4, h5, h6, h7, h8, fun t a b => by have := h9 t a b; omega, h10, h11⟩
theorem b2i_t : b2i true = 1 := rfl
theorem b2i_f : b2i false = 0 := rfl
theorem b2i_01 {b : Bool} : b2i b = 0 ∨ b2i b = 1 := by cases b; exact .inl rfl; exact .inr rfl
theorem fct_b {Y N : Int} {A : HH} (W : WO Y N A) (hY : Y ≤ 20000) {p t : Int} (hp : 0 ≤ p ∧ p < A 193 0) (ht : 0 ≤ t ∧ t < 5) (f : Int) : 0 ≤ fct A p t f ∧ fct A p t f ≤ 99 := by
  have n0 := W.1
  have y0 := W.2.1
  have k0 := W.2.2.2.2.1 p hp.1 hp.2
  have v0 := W.2.2.2.2.2.1 p hp.1 hp.2
  have h0 := W.2.2.2.2.2.2.1 p t hp.1 hp.2 ht.1 ht.2
  unfold fct
  repeat' split
  all_goals omega
theorem M_holds_L {k A : HH} {Y N p t x1 : Int} {c : List Int} (W : WO Y N A) (hY : Y ≤ 20000) (hp : 0 ≤ p ∧ p < A 193 0) (ht : 0 ≤ t ∧ t < 5) (hx : 0 ≤ x1 ∧ x1 < 60) (h0 : 0 ≤ A 204 x1) (h1 : A 205 x1 = A 204 x1 + c.length) (h2 : A 205 x1 ≤ 600) (hc : ∀ j : Nat, j < c.length → A 206 (A 204 x1 + j) = c.getD j 0) : ∀ (d n j : Nat) (h : HH) (st : List Bool), j + d = c.length → d < n → MR k h A → stk h st → st.length ≤ 31 → okC st.length (c.drop j) → ∃ h', m_holds_L11 x1 p t n h st.length (A 204 x1 + j) = some (b2i ((ev (fct A p t) st (c.drop j)).getD 0 false), h') ∧ MR k h' A := by
  intro d
  induction d with
  | zero =>
    intro n j h st e hn H hs h31 ho
    obtain ⟨n, rfl⟩ : ∃ m, n = m + 1 := ⟨n - 1, by omega⟩
    rw [List.drop_of_length_le (by omega)] at ho ⊢
    rw [m_holds_L11]
    have ho : (st.length : Int) = 1 := ho
    match st, ho, hs with
    | [b], _, hs =>
      have g : h 209 0 = b2i b := hs.1
      have b01 := @b2i_01 b
      simp (disch := omega) only [reduceIte, ltT, ltF, eqT, eqF, leT, leF, wwP, ckP, ckzP, ckbP, u2S, u2N, u2T, ↓Option.bind_some, inB_T, inB_F, Bool.false_eq_true, m_in0, m_in1, H.r205, g]
      exact ⟨_, rfl, H⟩
    | [], ho, _ => simp at ho
    | _ :: _ :: _, ho, _ => simp at ho; omega
  | succ d ih =>
    intro n j h st e hn H hs h31 ho
    obtain ⟨n, rfl⟩ : ∃ m, n = m + 1 := ⟨n - 1, by omega⟩
    rw [List.drop_eq_getElem_cons (by omega), ← getD_at (d := 0) (by omega)] at ho ⊢
    have g := hc j (by omega)
    generalize c.getD j 0 = z at ho g ⊢
    have ii := fun h' st' => ih n (j + 1) h' st' (by omega) (by omega)
    have e1 : A 204 x1 + (j : Int) + 1 = A 204 x1 + ((j + 1 : Nat) : Int) := by omega
    rw [okC] at ho
    rw [ev, m_holds_L11]
    by_cases z1 : z = -33
    · rw [if_pos z1] at ho ⊢
      match st, ho, hs with
      | [], ho, _ => simp at ho
      | b :: s, ho, hs =>
        have l1 : (((b :: s).length : Nat) : Int) = (s.length : Int) + 1 := rfl
        have l2 : s.length + 1 ≤ 31 := h31
        obtain ⟨g1, g2⟩ := hs
        have e2 : (s.length : Int) + 1 - 1 = s.length := by omega
        have K : ∀ v, v = b2i (!b) → stk (u2 h 209 (s.length : Int) v) ((!b) :: s) := fun v hv => ⟨by rw [u2S]; exact hv, stk_w (Int.le_refl _) g2⟩
        have M' : ∀ v, MR k (u2 h 209 (s.length : Int) v) A := fun v => H.sc (by omega) (by unfold rel; omega)
        have ii' := fun v hv => ii _ ((!b) :: s) (M' v) (K v hv) h31 ho.2
        have l3 : ((((!b) :: s).length : Nat) : Int) = (s.length : Int) + 1 := rfl
        rw [l3] at ii'
        rw [l1]
        show ∃ h', _ = some (b2i ((ev (fct A p t) ((!b) :: s) (c.drop (j + 1))).getD 0 false), h') ∧ MR k h' A
        cases b with
        | false =>
          simp (disch := omega) only [reduceIte, ltT, ltF, eqT, eqF, leT, leF, wwP, ckP, ckzP, ckbP, u2S, u2N, u2T, ↓Option.bind_some, inB_T, inB_F, Bool.false_eq_true, m_in0, m_in1, H.r205, H.r206, g, z1, e2, g1, b2i_t, b2i_f, e1]
          exact ii' 1 rfl
        | true =>
          simp (disch := omega) only [reduceIte, ltT, ltF, eqT, eqF, leT, leF, wwP, ckP, ckzP, ckbP, u2S, u2N, u2T, ↓Option.bind_some, inB_T, inB_F, Bool.false_eq_true, m_in0, m_in1, H.r205, H.r206, g, z1, e2, g1, b2i_t, b2i_f, e1]
          exact ii' 0 rfl
    by_cases z2 : z = -38
    · rw [if_neg z1] at ho ⊢
      rw [if_pos (.inl z2)] at ho
      rw [if_pos z2]
      match st, ho, hs, h31 with
      | [], ho, _, _ => simp at ho
      | [_], ho, _, _ => simp at ho
      | b :: a :: s, ho, hs, h31 =>
        have l1 : (((b :: a :: s).length : Nat) : Int) = (s.length : Int) + 2 := rfl
        have l2 : s.length + 2 ≤ 31 := h31
        obtain ⟨g0, g2, g3⟩ := hs
        have g1 : h 209 ((s.length : Int) + 1) = b2i b := g0
        clear g0
        have e2 : (s.length : Int) + 1 - 1 = s.length := by omega
        have e3 : (s.length : Int) + 2 + -1 = s.length + 1 := by omega
        have K : ∀ v, v = b2i (a && b) → stk (u2 h 209 (s.length : Int) v) ((a && b) :: s) := fun v hv => ⟨by rw [u2S]; exact hv, stk_w (Int.le_refl _) g3⟩
        have M' : ∀ v, MR k (u2 h 209 (s.length : Int) v) A := fun v => H.sc (by omega) (by unfold rel; omega)
        have ho2 := ho.2
        rw [l1, show (s.length : Int) + 2 - 1 = (((a && b) :: s).length : Nat) from (by show _ = ((s.length + 1 : Nat) : Int); omega)] at ho2
        have ii' := fun v hv => ii _ ((a && b) :: s) (M' v) (K v hv) (by show s.length + 1 ≤ 31; omega) ho2
        have l3 : ((((a && b) :: s).length : Nat) : Int) = (s.length : Int) + 1 := rfl
        rw [l3] at ii'
        rw [l1]
        show ∃ h', _ = some (b2i ((ev (fct A p t) ((a && b) :: s) (c.drop (j + 1))).getD 0 false), h') ∧ MR k h' A
        cases a <;> cases b <;> simp (disch := omega) only [reduceIte, ltT, ltF, eqT, eqF, leT, leF, wwP, ckP, ckzP, ckbP, u2S, u2N, u2T, ↓Option.bind_some, inB_T, inB_F, Bool.false_eq_true, m_in0, m_in1, H.r205, H.r206, g, z2, e2, e3, g1, g2, b2i_t, b2i_f, e1]
        all_goals first | exact ii' 1 rfl | exact ii' 0 rfl
    by_cases z3 : z = -124
    · rw [if_neg z1] at ho ⊢
      rw [if_pos (.inr z3)] at ho
      rw [if_neg z2, if_pos z3]
      match st, ho, hs, h31 with
      | [], ho, _, _ => simp at ho
      | [_], ho, _, _ => simp at ho
      | b :: a :: s, ho, hs, h31 =>
        have l1 : (((b :: a :: s).length : Nat) : Int) = (s.length : Int) + 2 := rfl
        have l2 : s.length + 2 ≤ 31 := h31
        obtain ⟨g0, g2, g3⟩ := hs
        have g1 : h 209 ((s.length : Int) + 1) = b2i b := g0
        clear g0
        have e2 : (s.length : Int) + 1 - 1 = s.length := by omega
        have e3 : (s.length : Int) + 2 + -1 = s.length + 1 := by omega
        have K : ∀ v, v = b2i (a || b) → stk (u2 h 209 (s.length : Int) v) ((a || b) :: s) := fun v hv => ⟨by rw [u2S]; exact hv, stk_w (Int.le_refl _) g3⟩
        have M' : ∀ v, MR k (u2 h 209 (s.length : Int) v) A := fun v => H.sc (by omega) (by unfold rel; omega)
        have ho2 := ho.2
        rw [l1, show (s.length : Int) + 2 - 1 = (((a || b) :: s).length : Nat) from (by show _ = ((s.length + 1 : Nat) : Int); omega)] at ho2
        have ii' := fun v hv => ii _ ((a || b) :: s) (M' v) (K v hv) (by show s.length + 1 ≤ 31; omega) ho2
        have l3 : ((((a || b) :: s).length : Nat) : Int) = (s.length : Int) + 1 := rfl
        rw [l3] at ii'
        rw [l1]
        show ∃ h', _ = some (b2i ((ev (fct A p t) ((a || b) :: s) (c.drop (j + 1))).getD 0 false), h') ∧ MR k h' A
        cases a <;> cases b <;> simp (disch := omega) only [reduceIte, ltT, ltF, eqT, eqF, leT, leF, wwP, ckP, ckzP, ckbP, u2S, u2N, u2T, ↓Option.bind_some, inB_T, inB_F, Bool.false_eq_true, m_in0, m_in1, H.r205, H.r206, g, z3, e2, e3, g1, g2, b2i_t, b2i_f, e1]
        all_goals first | exact ii' 1 rfl | exact ii' 0 rfl
    rw [if_neg z1] at ho ⊢
    rw [if_neg (by omega : ¬ (z = -38 ∨ z = -124))] at ho
    rw [if_neg z2, if_neg z3]
    obtain ⟨k1, k2, k3, k4, k5⟩ := ho
    have fb := fct_b W hY hp ht (z / 1000)
    have n0 := W.1
    have y0 := W.2.1
    have hh := W.2.2.2.2.2.2.1 p t hp.1 hp.2 ht.1 ht.2
    have ef := M_fact H (p := p) (t := t) (f := z / 1000) (by omega) ht (by omega) hh (by omega)
    have M' : ∀ v, MR k (u2 h 209 (st.length : Int) v) A := fun v => H.sc (by omega) (by unfold rel; omega)
    have ii' := fun v (hv : v = b2i (tst (fct A p t) z)) => ii _ (tst (fct A p t) z :: st) (M' v) ⟨by rw [u2S]; exact hv, stk_w (Int.le_refl _) hs⟩ (by show st.length + 1 ≤ 31; omega) k5
    have l3 : (((tst (fct A p t) z :: st).length : Nat) : Int) = (st.length : Int) + 1 := rfl
    rw [l3] at ii'
    have s0 : z / 100 % 10 = 0 ∨ z / 100 % 10 = 1 ∨ z / 100 % 10 = 2 := by omega
    generalize hF : fct A p t (z / 1000) = F at fb ef
    have z0 : z ≤ 6000 := by omega
    have et : tst (fct A p t) z = if z / 100 % 10 = 0 then decide (F < z % 100) else if z / 100 % 10 = 1 then decide (F = z % 100) else decide (z % 100 < F) := by unfold tst; rw [hF]
    rcases s0 with s0 | s0 | s0
    · rw [if_pos s0] at et
      by_cases q : F < z % 100
      · rw [decide_eq_true q] at et
        rw [et] at ii' ⊢
        simp (disch := omega) only [reduceIte, ltT, ltF, eqT, eqF, leT, leF, wwP, ckP, ckzP, ckbP, u2S, u2N, u2T, ↓Option.bind_some, inB_T, inB_F, Bool.false_eq_true, m_in0, m_in1, H.r205, H.r206, g, ef, zdivP, zremP, e1]
        exact ii' 1 rfl
      · rw [decide_eq_false q] at et
        rw [et] at ii' ⊢
        simp (disch := omega) only [reduceIte, ltT, ltF, eqT, eqF, leT, leF, wwP, ckP, ckzP, ckbP, u2S, u2N, u2T, ↓Option.bind_some, inB_T, inB_F, Bool.false_eq_true, m_in0, m_in1, H.r205, H.r206, g, ef, zdivP, zremP, e1]
        exact ii' 0 rfl
    · rw [if_neg (by omega), if_pos s0] at et
      by_cases q : F = z % 100
      · rw [decide_eq_true q] at et
        rw [et] at ii' ⊢
        simp (disch := omega) only [reduceIte, ltT, ltF, eqT, eqF, leT, leF, wwP, ckP, ckzP, ckbP, u2S, u2N, u2T, ↓Option.bind_some, inB_T, inB_F, Bool.false_eq_true, m_in0, m_in1, H.r205, H.r206, g, ef, zdivP, zremP, e1]
        exact ii' 1 rfl
      · rw [decide_eq_false q] at et
        rw [et] at ii' ⊢
        simp (disch := omega) only [reduceIte, ltT, ltF, eqT, eqF, leT, leF, wwP, ckP, ckzP, ckbP, u2S, u2N, u2T, ↓Option.bind_some, inB_T, inB_F, Bool.false_eq_true, m_in0, m_in1, H.r205, H.r206, g, ef, zdivP, zremP, e1]
        exact ii' 0 rfl
    · rw [if_neg (by omega), if_neg (by omega)] at et
      by_cases q : z % 100 < F
      · rw [decide_eq_true q] at et
        rw [et] at ii' ⊢
        simp (disch := omega) only [reduceIte, ltT, ltF, eqT, eqF, leT, leF, wwP, ckP, ckzP, ckbP, u2S, u2N, u2T, ↓Option.bind_some, inB_T, inB_F, Bool.false_eq_true, m_in0, m_in1, H.r205, H.r206, g, ef, zdivP, zremP, e1]
        exact ii' 1 rfl
      · rw [decide_eq_false q] at et
        rw [et] at ii' ⊢
        simp (disch := omega) only [reduceIte, ltT, ltF, eqT, eqF, leT, leF, wwP, ckP, ckzP, ckbP, u2S, u2N, u2T, ↓Option.bind_some, inB_T, inB_F, Bool.false_eq_true, m_in0, m_in1, H.r205, H.r206, g, ef, zdivP, zremP, e1]
        exact ii' 0 rfl
