/- NEED and WEAR -/
def orchL (A : HH) (O : Int → List CL) : List CL := if A 193 10 < 0 then [] else O (A 193 10)
def needA (A : HH) (O : Int → List CL) : Int := lastC (orchL A O) 2 20
def wearA (A : HH) (O : Int → List CL) : Int := lastC (orchL A O) 3 3
/-- the orchard that holds is one that the Model has -/
def OM (A : HH) (O : Int → List CL) : Prop := -1 ≤ A 193 10 ∧ A 193 10 < 6 ∧ (0 ≤ A 193 10 → MO A (A 193 10) (O (A 193 10)))
theorem M_begin {k h A : HH} (H : MR k h A) {O : Int → List CL} (hO : OM A O) : m_begin h = if A 193 10 < 0 then 0 else 10 * A 193 10 := by
  obtain ⟨o1, o2, o3⟩ := hO
  unfold m_begin
  simp (disch := omega) only [reduceIte, ltT, ltF, eqT, eqF, leT, leF, wwP, ckP, ckzP, ckbP, u2S, u2N, u2T, ↓Option.bind_some, inB_T, inB_F, Bool.false_eq_true, m_in0, m_in1, H.s10]
theorem M_behind {k h A : HH} (H : MR k h A) {O : Int → List CL} (hO : OM A O) : m_behind h = some (if A 193 10 < 0 then 0 else 10 * A 193 10 + (orchL A O).length) := by
  obtain ⟨o1, o2, o3⟩ := hO
  unfold m_behind orchL
  by_cases c : A 193 10 < 0
  · simp (disch := omega) only [reduceIte, ltT, ltF, eqT, eqF, leT, leF, wwP, ckP, ckzP, ckbP, u2S, u2N, u2T, ↓Option.bind_some, inB_T, inB_F, Bool.false_eq_true, m_in0, m_in1, H.s10]
  · have := (o3 (by omega)).1
    simp (disch := omega) only [reduceIte, ltT, ltF, eqT, eqF, leT, leF, wwP, ckP, ckzP, ckbP, u2S, u2N, u2T, ↓Option.bind_some, inB_T, inB_F, Bool.false_eq_true, m_in0, m_in1, H.s10, H.r201]
    rw [this]
theorem getD_at {α : Type} {L : List α} {i : Nat} {d : α} (h : i < L.length) : L.getD i d = L[i] := by
  rw [List.getD_eq_getElem?_getD, List.getElem?_eq_getElem h, Option.getD_some]
theorem M_last_L {k h A : HH} (H : MR k h A) {O : Int → List CL} (hO : OM A O) (hp : 0 ≤ A 193 10) {w : Int} (hw : 0 ≤ w ∧ w ≤ 3) : ∀ (d n i : Nat) (x : Int), i + d = (O (A 193 10)).length → d < n → m_lastOf_L8 h w n x (10 * A 193 10 + i) = some (((O (A 193 10)).drop i).foldl (fun a q => if q.1 = w then q.2.1 else a) x) := by
  have hb := M_behind H hO
  have oL : orchL A O = O (A 193 10) := by unfold orchL; rw [if_neg (by omega)]
  rw [oL, if_neg (by omega)] at hb
  obtain ⟨o1, o2, o3⟩ := hO
  obtain ⟨m1, m2, m3, m4⟩ := o3 hp
  intro d
  induction d with
  | zero =>
    intro n i x e hn
    obtain ⟨n, rfl⟩ : ∃ m, n = m + 1 := ⟨n - 1, by omega⟩
    rw [m_lastOf_L8, hb]
    simp (disch := omega) only [reduceIte, ltT, ltF, eqT, eqF, leT, leF, wwP, ckP, ckzP, ckbP, u2S, u2N, u2T, ↓Option.bind_some, inB_T, inB_F, Bool.false_eq_true, m_in0, m_in1]
    rw [List.drop_of_length_le (by omega)]
    rfl
  | succ d ih =>
    intro n i x e hn
    obtain ⟨n, rfl⟩ : ∃ m, n = m + 1 := ⟨n - 1, by omega⟩
    have g := m4 i (by omega)
    obtain ⟨c1, c2, c3, c4, -⟩ := g
    rw [List.drop_eq_getElem_cons (by omega), List.foldl_cons, ← getD_at (d := (0, 0, [])) (by omega)]
    rw [m_lastOf_L8, hb]
    have ii := fun y => ih n (i + 1) y (by omega) (by omega)
    have e1 : 10 * A 193 10 + (i : Int) + 1 = 10 * A 193 10 + ((i + 1 : Nat) : Int) := by omega
    by_cases z : ((O (A 193 10)).getD i (0, 0, [])).1 = w
    · rw [if_pos z]
      simp (disch := omega) only [reduceIte, ltT, ltF, eqT, eqF, leT, leF, wwP, ckP, ckzP, ckbP, u2S, u2N, u2T, ↓Option.bind_some, inB_T, inB_F, Bool.false_eq_true, m_in0, m_in1, H.r202, H.r203, c1, c2, e1]
      exact ii _
    · rw [if_neg z]
      simp (disch := omega) only [reduceIte, ltT, ltF, eqT, eqF, leT, leF, wwP, ckP, ckzP, ckbP, u2S, u2N, u2T, ↓Option.bind_some, inB_T, inB_F, Bool.false_eq_true, m_in0, m_in1, H.r202, H.r203, c1, c2, e1]
      exact ii _
theorem M_last {k h A : HH} (H : MR k h A) {O : Int → List CL} (hO : OM A O) {w y : Int} (hw : 0 ≤ w ∧ w ≤ 3) : m_lastOf h w y = some (lastC (orchL A O) w y) := by
  unfold m_lastOf lastC
  rw [M_begin H hO]
  by_cases c : A 193 10 < 0
  · have hb := M_behind H hO
    rw [if_pos c] at hb ⊢
    rw [show FU = 19999 + 1 from rfl, m_lastOf_L8, hb]
    unfold orchL
    simp (disch := omega) only [reduceIte, ltT, ltF, eqT, eqF, leT, leF, wwP, ckP, ckzP, ckbP, u2S, u2N, u2T, ↓Option.bind_some, inB_T, inB_F, Bool.false_eq_true, m_in0, m_in1]
    rfl
  · rw [if_neg c]
    have e := M_last_L H hO (by omega) hw (O (A 193 10)).length FU 0 y (by omega) (by have := (hO.2.2 (by omega)).2.2.1; unfold FU; omega)
    rw [show 10 * A 193 10 + ((0 : Nat) : Int) = 10 * A 193 10 by omega] at e
    rw [e]
    unfold orchL
    rw [if_neg c, List.drop_zero]
theorem M_need {k h A : HH} (H : MR k h A) {O : Int → List CL} (hO : OM A O) : m_need h = some (needA A O) := by
  unfold m_need
  rw [M_last H hO (by omega)]
  rfl
theorem M_wear {k h A : HH} (H : MR k h A) {O : Int → List CL} (hO : OM A O) : m_wear h = some (wearA A O) := by
  unfold m_wear
  rw [M_last H hO (by omega)]
  rfl
/-- the class's side has the orchard that holds -/
def OX (h A : HH) (O : Int → List CL) : Prop := 0 ≤ A 193 10 → XO h (A 193 10) (O (A 193 10))
theorem isOb_P {f : Int} (h : 0 ≤ f ∧ f < 6) : isOb (175 + 3 * f) = true := by
  unfold isOb
  exact decide_eq_true (by omega)
theorem ckOP {α : Type} {q : Int} {x : Option α} (h : isOb q = true) : ckO q x = x := by unfold ckO; rw [if_pos h]
theorem X_need {S : SS} {h A : HH} {w : Int} (C : XC S h w A) {O : Int → List CL} (b : -1 ≤ A 193 10 ∧ A 193 10 < 6) (hO : OX h A O) : xw_need h w = some (needA A O) := by
  unfold xw_need needA orchL
  rw [C.2.2.1]
  by_cases c : A 193 10 < 0
  · rw [if_pos c, if_pos (by omega), if_pos c]; rfl
  · rw [if_neg c, if_neg (by omega), if_neg c, show 176 + 3 * A 193 10 - 1 = 175 + 3 * A 193 10 by omega, ckOP (isOb_P (by omega)), (hO (by omega)).1]
theorem X_wear {S : SS} {h A : HH} {w : Int} (C : XC S h w A) {O : Int → List CL} (b : -1 ≤ A 193 10 ∧ A 193 10 < 6) (hO : OX h A O) : xw_wear h w = some (wearA A O) := by
  unfold xw_wear wearA orchL
  rw [C.2.2.1]
  by_cases c : A 193 10 < 0
  · rw [if_pos c, if_pos (by omega), if_pos c]; rfl
  · rw [if_neg c, if_neg (by omega), if_neg c, show 176 + 3 * A 193 10 - 1 = 175 + 3 * A 193 10 by omega, ckOP (isOb_P (by omega)), (hO (by omega)).2.1]
/- what a code says -/
def b2i (b : Bool) : Int := if b then 1 else 0
def tst (F : Int → Int) (z : Int) : Bool := if z / 100 % 10 = 0 then decide (F (z / 1000) < z % 100) else if z / 100 % 10 = 1 then decide (F (z / 1000) = z % 100) else decide (z % 100 < F (z / 1000))
def ev (F : Int → Int) : List Bool → List Int → List Bool
  | st, [] => st
  | st, z :: r => if z = -33 then ev F ((!(st.getD 0 false)) :: st.drop 1) r else if z = -38 then ev F ((st.getD 1 false && st.getD 0 false) :: st.drop 2) r else if z = -124 then ev F ((st.getD 1 false || st.getD 0 false) :: st.drop 2) r else ev F (tst F z :: st) r
def fct (A : HH) (p t f : Int) : Int := if f = 0 then p else if f = 1 then t else if f = 2 then A 194 p else if f = 3 then A 195 p else if f = 4 then A 196 (5 * p + t) / 10 else A 193 2 % 10
def evB (A : HH) (p t : Int) (c : List Int) : Bool := (ev (fct A p t) [] c).getD 0 false
def warm (A : HH) (p t : Int) (L : List CL) : Int := L.foldl (fun a q => if q.1 < 2 then (if evB A p t q.2.2 then (if q.1 = 0 then a + q.2.1 else a - q.2.1) else a) else a) 0
/- the Model's pile -/
def stk (h : HH) : List Bool → Prop
  | [] => True
  | b :: s => h 209 s.length = b2i b ∧ stk h s
theorem stk_w {h : HH} {j v : Int} : ∀ {s : List Bool}, (s.length : Int) ≤ j → stk h s → stk (u2 h 209 j v) s
  | [], _, _ => trivial
  | b :: s, hj, ⟨h1, h2⟩ => by
    have hj : ((s.length + 1 : Nat) : Int) ≤ j := hj
    exact ⟨by rw [u2N (by omega)]; exact h1, stk_w (by omega) h2⟩
theorem M_fact {k h A : HH} (H : MR k h A) {p t f : Int} (hp : 0 ≤ p ∧ p < 6) (ht : 0 ≤ t ∧ t < 5) (hf : 0 ≤ f ∧ f < 6) (hh : 0 ≤ A 196 (5 * p + t) ∧ A 196 (5 * p + t) ≤ 99) (hy : 0 ≤ A 193 2 ∧ A 193 2 ≤ 20000) : m_factOf h f p t = some (fct A p t f) := by
  unfold m_factOf fct
  by_cases c0 : f = 0
  · simp (disch := omega) only [reduceIte, ltT, ltF, eqT, eqF, leT, leF, wwP, ckP, ckzP, ckbP, u2S, u2N, u2T, ↓Option.bind_some, inB_T, inB_F, Bool.false_eq_true, m_in0, m_in1]
  by_cases c1 : f = 1
  · simp (disch := omega) only [reduceIte, ltT, ltF, eqT, eqF, leT, leF, wwP, ckP, ckzP, ckbP, u2S, u2N, u2T, ↓Option.bind_some, inB_T, inB_F, Bool.false_eq_true, m_in0, m_in1]
  by_cases c2 : f = 2
  · simp (disch := omega) only [reduceIte, ltT, ltF, eqT, eqF, leT, leF, wwP, ckP, ckzP, ckbP, u2S, u2N, u2T, ↓Option.bind_some, inB_T, inB_F, Bool.false_eq_true, m_in0, m_in1, H.r194]
  by_cases c3 : f = 3
  · simp (disch := omega) only [reduceIte, ltT, ltF, eqT, eqF, leT, leF, wwP, ckP, ckzP, ckbP, u2S, u2N, u2T, ↓Option.bind_some, inB_T, inB_F, Bool.false_eq_true, m_in0, m_in1, H.r195]
  by_cases c4 : f = 4
  · simp (disch := omega) only [reduceIte, ltT, ltF, eqT, eqF, leT, leF, wwP, ckP, ckzP, ckbP, u2S, u2N, u2T, ↓Option.bind_some, inB_T, inB_F, Bool.false_eq_true, m_in0, m_in1, H.r196, zdivP]
  simp (disch := omega) only [reduceIte, ltT, ltF, eqT, eqF, leT, leF, wwP, ckP, ckzP, ckbP, u2S, u2N, u2T, ↓Option.bind_some, inB_T, inB_F, Bool.false_eq_true, m_in0, m_in1, H.s2, zremP]
