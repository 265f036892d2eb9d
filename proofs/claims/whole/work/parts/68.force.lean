theorem okC_0 {c : List Int} (h : okC 0 c) : okC (([] : List Bool).length : Int) (c.drop 0) := h
theorem M_holds {k h A : HH} {Y N p t f : Int} (H : MR k h A) (W : WO Y N A) (hY : Y ≤ 20000) (hp : 0 ≤ p ∧ p < A 193 0) (ht : 0 ≤ t ∧ t < 5) {L : List CL} {i : Nat} (hf : 0 ≤ f ∧ f < 6) (hO : MO A f L) (hi : i < L.length) (hw : (L.getD i (0, 0, [])).1 < 2) : ∃ h', m_holds h (10 * f + i) p t = some (b2i (evB A p t (L.getD i (0, 0, [])).2.2), h') ∧ MR k h' A := by
  obtain ⟨m1, m2, m3, m4⟩ := hO
  obtain ⟨-, -, -, -, m5⟩ := m4 i hi
  obtain ⟨g1, g2, g3, g4, g5⟩ := m5 hw
  generalize hc : (L.getD i (0, 0, [])).2.2 = c at g2 g3 g4 g5 ⊢
  unfold m_holds evB
  obtain ⟨h', e, H'⟩ := M_holds_L (k := k) (p := p) (t := t) (x1 := 10 * f + i) (c := c) W hY hp ht (by omega) (by omega) g2 (by omega) g4 c.length FU 0 h [] (by omega) (by unfold FU; omega) H trivial (by decide) g5
  rw [show A 204 (10 * f + (i : Int)) + ((0 : Nat) : Int) = A 204 (10 * f + (i : Int)) by omega, List.drop_zero] at e
  simp (disch := omega) only [reduceIte, ltT, ltF, eqT, eqF, leT, leF, wwP, ckP, ckzP, ckbP, u2S, u2N, u2T, ↓Option.bind_some, inB_T, inB_F, Bool.false_eq_true, m_in0, m_in1, H.r204]
  exact ⟨h', e, H'⟩
def wstep (A : HH) (p t : Int) (a : Int) (q : CL) : Int := if q.1 < 2 then (if evB A p t q.2.2 then (if q.1 = 0 then a + q.2.1 else a - q.2.1) else a) else a
theorem wstep_add {A : HH} {p t : Int} : ∀ (L : List CL) (a b : Int), L.foldl (wstep A p t) (a + b) = a + L.foldl (wstep A p t) b
  | [], _, _ => rfl
  | q :: L, a, b => by
    rw [List.foldl_cons, List.foldl_cons, ← wstep_add L]
    congr 1
    unfold wstep
    repeat' split
    all_goals omega
theorem M_sum_L {k A : HH} {Y N p t f : Int} (W : WO Y N A) (hY : Y ≤ 20000) (hp : 0 ≤ p ∧ p < A 193 0) (ht : 0 ≤ t ∧ t < 5) {L : List CL} (hf : 0 ≤ f ∧ f < 6) (hO : MO A f L) (hb : ∀ h, MR k h A → m_behind h = some (10 * f + L.length)) : ∀ (d n i : Nat) (h : HH) (x : Int), i + d = L.length → d < n → MR k h A → ∃ h', m_sum_L17 p t n h x (10 * f + i) = some ((L.drop i).foldl (wstep A p t) x, h') ∧ MR k h' A := by
  have hO' := hO
  obtain ⟨m1, m2, m3, m4⟩ := hO
  intro d
  induction d with
  | zero =>
    intro n i h x e hn H
    obtain ⟨n, rfl⟩ : ∃ m, n = m + 1 := ⟨n - 1, by omega⟩
    rw [m_sum_L17, hb h H]
    rw [List.drop_of_length_le (by omega)]
    simp (disch := omega) only [reduceIte, ltT, ltF, eqT, eqF, leT, leF, wwP, ckP, ckzP, ckbP, u2S, u2N, u2T, ↓Option.bind_some, inB_T, inB_F, Bool.false_eq_true, m_in0, m_in1]
    exact ⟨h, rfl, H⟩
  | succ d ih =>
    intro n i h x e hn H
    obtain ⟨n, rfl⟩ : ∃ m, n = m + 1 := ⟨n - 1, by omega⟩
    have g := m4 i (by omega)
    obtain ⟨c1, c2, c3, c4, -⟩ := g
    rw [List.drop_eq_getElem_cons (by omega), List.foldl_cons, ← getD_at (d := (0, 0, [])) (by omega)]
    rw [m_sum_L17, hb h H]
    have ii := fun h' y => ih n (i + 1) h' y (by omega) (by omega)
    have e1 : 10 * f + (i : Int) + 1 = 10 * f + ((i + 1 : Nat) : Int) := by omega
    by_cases z : (L.getD i (0, 0, [])).1 < 2
    · obtain ⟨h1, e2, H1⟩ := M_holds H W hY hp ht hf hO' (i := i) (by omega) z
      cases hv : evB A p t (L.getD i (0, 0, [])).2.2 with
      | false =>
        have es : wstep A p t x (L.getD i (0, 0, [])) = x := by unfold wstep; rw [if_pos z, hv]; rfl
        rw [hv] at e2
        rw [es]
        simp (disch := omega) only [reduceIte, ltT, ltF, eqT, eqF, leT, leF, wwP, ckP, ckzP, ckbP, u2S, u2N, u2T, ↓Option.bind_some, inB_T, inB_F, Bool.false_eq_true, m_in0, m_in1, H.r202, c1, e2, b2i_f, e1]
        exact ii h1 x H1
      | true =>
        rw [hv] at e2
        by_cases z2 : (L.getD i (0, 0, [])).1 = 0
        · have es : wstep A p t x (L.getD i (0, 0, [])) = x + (L.getD i (0, 0, [])).2.1 := by unfold wstep; rw [if_pos z, hv, if_pos rfl, if_pos z2]
          rw [es]
          simp (disch := omega) only [reduceIte, ltT, ltF, eqT, eqF, leT, leF, wwP, ckP, ckzP, ckbP, u2S, u2N, u2T, ↓Option.bind_some, inB_T, inB_F, Bool.false_eq_true, m_in0, m_in1, H.r202, H1.r202, H1.r203, c1, c2, e2, b2i_t, e1]
          exact ii h1 _ H1
        · have es : wstep A p t x (L.getD i (0, 0, [])) = x + -(L.getD i (0, 0, [])).2.1 := by unfold wstep; rw [if_pos z, hv, if_pos rfl, if_neg z2]; omega
          rw [es]
          simp (disch := omega) only [reduceIte, ltT, ltF, eqT, eqF, leT, leF, wwP, ckP, ckzP, ckbP, u2S, u2N, u2T, ↓Option.bind_some, inB_T, inB_F, Bool.false_eq_true, m_in0, m_in1, H.r202, H1.r202, H1.r203, c1, c2, e2, b2i_t, e1]
          exact ii h1 _ H1
    · have es : wstep A p t x (L.getD i (0, 0, [])) = x := by unfold wstep; rw [if_neg z]
      rw [es]
      simp (disch := omega) only [reduceIte, ltT, ltF, eqT, eqF, leT, leF, wwP, ckP, ckzP, ckbP, u2S, u2N, u2T, ↓Option.bind_some, inB_T, inB_F, Bool.false_eq_true, m_in0, m_in1, H.r202, c1, e1]
      exact ii h x H
def sumA (A : HH) (O : Int → List CL) (p t : Int) : Int := A 196 (5 * p + t) + (orchL A O).foldl (wstep A p t) 0
theorem M_sum {k h A : HH} {Y N p t : Int} (H : MR k h A) (W : WO Y N A) (hY : Y ≤ 20000) (hp : 0 ≤ p ∧ p < A 193 0) (ht : 0 ≤ t ∧ t < 5) {O : Int → List CL} (hO : OM A O) : ∃ h', m_sum h p t = some (sumA A O p t, h') ∧ MR k h' A := by
  have n0 := W.1
  unfold m_sum sumA
  rw [M_begin H hO]
  have hb := fun h H => M_behind (k := k) (h := h) (A := A) H hO
  by_cases c : A 193 10 < 0
  · rw [if_pos c]
    have oL : orchL A O = [] := by unfold orchL; rw [if_pos c]
    have hb := hb h H
    rw [if_pos c] at hb
    rw [oL]
    rw [show FU = 19999 + 1 from rfl, m_sum_L17, hb]
    simp (disch := omega) only [reduceIte, ltT, ltF, eqT, eqF, leT, leF, wwP, ckP, ckzP, ckbP, u2S, u2N, u2T, ↓Option.bind_some, inB_T, inB_F, Bool.false_eq_true, m_in0, m_in1, H.r196]
    exact ⟨h, by rw [List.foldl_nil, Int.add_zero], H⟩
  · rw [if_neg c]
    have oL : orchL A O = O (A 193 10) := by unfold orchL; rw [if_neg c]
    rw [oL]
    have hb : ∀ h, MR k h A → m_behind h = some (10 * A 193 10 + (O (A 193 10)).length) := fun h H => by rw [hb h H, if_neg c, oL]
    have mo := hO.2.2 (by omega)
    obtain ⟨h', e, H'⟩ := M_sum_L W hY hp ht (f := A 193 10) ⟨by omega, hO.2.1⟩ mo hb (O (A 193 10)).length FU 0 h (A 196 (5 * p + t)) (by omega) (by have := mo.2.2.1; unfold FU; omega) H
    rw [show 10 * A 193 10 + ((0 : Nat) : Int) = 10 * A 193 10 by omega, List.drop_zero] at e
    simp (disch := omega) only [reduceIte, ltT, ltF, eqT, eqF, leT, leF, wwP, ckP, ckzP, ckbP, u2S, u2N, u2T, ↓Option.bind_some, inB_T, inB_F, Bool.false_eq_true, m_in0, m_in1, H.r196]
    exact ⟨h', by rw [e, ← wstep_add, Int.add_zero], H'⟩
def half (x : Int) : Int := if 0 ≤ x then x / 2 else -((-x) / 2)
theorem zdiv2 {x : Int} (h : -2147483647 ≤ x ∧ x ≤ 2147483647) : zdiv x 2 = half x := by
  unfold half
  by_cases c : 0 ≤ x
  · rw [if_pos c, zdivP (by omega)]
  · rw [if_neg c, zdivN (by omega)]
def forceA (A : HH) (O : Int → List CL) (p t : Int) : Int :=
  if A 194 p = 1 then sumA A O p t + (if t % 2 = 1 then A 195 p else 0)
  else if A 194 p = 2 then (if A 196 (5 * p + t) < 50 then sumA A O p t else 2 * sumA A O p t)
  else if A 194 p = 3 then 50 - sumA A O p t
  else if A 194 p = 4 then (if A 193 2 % 2 = 1 then half (sumA A O p t + (if t % 2 = 1 then A 195 p else 0)) else sumA A O p t + (if t % 2 = 1 then A 195 p else 0))
  else if A 194 p = 5 then (if A 196 (5 * p + t) < 50 then sumA A O p t else 2 * sumA A O p t) - A 193 2 % 10
  else if A 194 p = 6 then 50 - sumA A O p t + A 197 (4 * p + A 193 2 % 4)
  else sumA A O p t
theorem wstep_b {A : HH} {p t : Int} : ∀ (L : List CL) (a : Int), (∀ q ∈ L, 0 ≤ q.2.1 ∧ q.2.1 ≤ 99) → a - 99 * L.length ≤ L.foldl (wstep A p t) a ∧ L.foldl (wstep A p t) a ≤ a + 99 * L.length
  | [], a, _ => by simp
  | q :: L, a, h => by
    have h1 := h q List.mem_cons_self
    have h2 := wstep_b (A := A) (p := p) (t := t) L (wstep A p t a q) (fun r hr => h r (List.mem_cons_of_mem _ hr))
    have h3 : a - 99 ≤ wstep A p t a q ∧ wstep A p t a q ≤ a + 99 := by unfold wstep; repeat' split <;> omega
    rw [List.foldl_cons, List.length_cons]
    omega
theorem MO_n {A : HH} {f : Int} {L : List CL} (hO : MO A f L) : ∀ q ∈ L, 0 ≤ q.2.1 ∧ q.2.1 ≤ 99 := fun q hq => by
  obtain ⟨i, hi, e⟩ := List.getElem_of_mem hq
  have := (hO.2.2.2 i hi).2.2.2.1
  rw [getD_at hi, e] at this
  exact this
theorem orchL_n {A : HH} {O : Int → List CL} (hO : OM A O) : (∀ q ∈ orchL A O, 0 ≤ q.2.1 ∧ q.2.1 ≤ 99) ∧ (orchL A O).length ≤ 10 := by
  unfold orchL
  by_cases c : A 193 10 < 0
  · rw [if_pos c]; exact ⟨fun q hq => (by cases hq), by decide⟩
  · rw [if_neg c]; exact ⟨MO_n (hO.2.2 (by omega)), (hO.2.2 (by omega)).2.2.1⟩
theorem sum_b {A : HH} {O : Int → List CL} (hO : OM A O) {Y N p t : Int} (W : WO Y N A) (hp : 0 ≤ p ∧ p < A 193 0) (ht : 0 ≤ t ∧ t < 5) : -990 ≤ sumA A O p t ∧ sumA A O p t ≤ 1089 := by
  have h1 := (orchL_n hO).1
  have h2 := (orchL_n hO).2
  have h3 := wstep_b (A := A) (p := p) (t := t) (orchL A O) 0 h1
  have h4 := W.2.2.2.2.2.2.1 p t hp.1 hp.2 ht.1 ht.2
  unfold sumA
  omega
theorem lastC_b {L : List CL} {w d : Int} (h : ∀ q ∈ L, 0 ≤ q.2.1 ∧ q.2.1 ≤ 99) (hd : 0 ≤ d ∧ d ≤ 99) : 0 ≤ lastC L w d ∧ lastC L w d ≤ 99 := by
  unfold lastC
  induction L generalizing d with
  | nil => exact hd
  | cons q L ih =>
    rw [List.foldl_cons]
    refine ih (fun r hr => h r (List.mem_cons_of_mem _ hr)) ?_
    have := h q List.mem_cons_self
    split <;> omega
theorem need_b {A : HH} {O : Int → List CL} (hO : OM A O) : 0 ≤ needA A O ∧ needA A O ≤ 99 := lastC_b (orchL_n hO).1 (by decide)
theorem wear_b {A : HH} {O : Int → List CL} (hO : OM A O) : 0 ≤ wearA A O ∧ wearA A O ≤ 99 := lastC_b (orchL_n hO).1 (by decide)
theorem half_b {x : Int} (h : -3000 ≤ x ∧ x ≤ 3000) : -1500 ≤ half x ∧ half x ≤ 1500 := by
  unfold half
  split <;> omega
theorem force_b {A : HH} {O : Int → List CL} (hO : OM A O) {Y N p t : Int} (W : WO Y N A) (hp : 0 ≤ p ∧ p < A 193 0) (ht : 0 ≤ t ∧ t < 5) : -3000 ≤ forceA A O p t ∧ forceA A O p t ≤ 3000 := by
  have s := sum_b hO W hp ht
  have v0 := W.2.2.2.2.2.1 p hp.1 hp.2
  have r0 := W.2.2.2.2.2.2.2.1 p (A 193 2 % 4) hp.1 hp.2 (by omega) (by omega)
  have e0 : 0 ≤ (if t % 2 = 1 then A 195 p else 0) ∧ (if t % 2 = 1 then A 195 p else 0) ≤ 9 := by split <;> omega
  unfold forceA
  generalize (if t % 2 = 1 then A 195 p else 0) = e at *
  have hh := half_b (x := sumA A O p t + e) (by omega)
  repeat' split
  all_goals omega
