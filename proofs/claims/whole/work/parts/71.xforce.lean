def codeX1 (q : CL) : List (Int × Option Int) := if q.1 < 2 then q.2.2.map (fun z => (stepX z, if z < 0 then none else some (numX z))) ++ [(if q.1 = 0 then -4 else -5, some q.2.1)] else []
theorem codeX_cons {q : CL} {L : List CL} : codeX (q :: L) = codeX1 q ++ codeX L := by
  unfold codeX codeX1
  rw [List.flatMap_cons]
/-- the steps from s on are M's -/
def seg (h : HH) (o : Int) (s : Nat) (M : List (Int × Option Int)) : Prop := ∀ i : Nat, i < M.length → h (o + 1) ((s : Int) + i) = (M.getD i (0, none)).1 ∧ ∀ v, (M.getD i (0, none)).2 = some v → h (o + 2) ((s : Int) + i) = v
theorem seg_l {h : HH} {o : Int} {s : Nat} {M N : List (Int × Option Int)} (H : seg h o s (M ++ N)) : seg h o s M := fun i hi => by
  have := H i (by rw [List.length_append]; omega)
  rw [getD_at (by rw [List.length_append]; omega), List.getElem_append_left hi, ← getD_at (d := (0, none))] at this
  exact this
theorem seg_r {h : HH} {o : Int} {s : Nat} {M N : List (Int × Option Int)} (H : seg h o s (M ++ N)) : seg h o (s + M.length) N := fun i hi => by
  have := H (M.length + i) (by rw [List.length_append]; omega)
  rw [getD_at (by rw [List.length_append]; omega), List.getElem_append_right (by omega)] at this
  have e : M.length + i - M.length = i := by omega
  simp only [e] at this
  rw [← getD_at (d := (0, none))] at this
  rw [show ((s + M.length : Nat) : Int) + (i : Int) = (s : Int) + ((M.length + i : Nat) : Int) by omega]
  exact this
theorem X_warm_L {h : HH} {o fc T : Int} {A : HH} {p t : Int} (hF : ∀ f, 0 ≤ f → f < 6 → h fc f = fct A p t f) (hb : ∀ f, 0 ≤ fct A p t f ∧ fct A p t f ≤ 99) (hT : h o 4 = T) (T0 : 0 ≤ T ∧ T ≤ 100) : ∀ (L : List CL) (n s : Nat) (acc : Int), seg h o s (codeX L) → ((s + (codeX L).length : Nat) : Int) = T → (∀ q ∈ L, q.1 < 2 → 0 ≤ q.1 ∧ okC 0 q.2.2) → (codeX L).length < n → xo_warmth_L7 h o fc n acc 0 s = some (L.foldl (wstep A p t) acc) := by
  intro L
  induction L with
  | nil =>
    intro n s acc hs e _ hn
    obtain ⟨n, rfl⟩ : ∃ m, n = m + 1 := ⟨n - 1, by omega⟩
    have e : (s : Int) = T := e
    rw [xo_warmth_L7]
    simp (disch := omega) only [reduceIte, ltT, ltF, eqT, eqF, leT, leF, wwP, ckP, ckzP, ckbP, u2S, u2N, u2T, ↓Option.bind_some, inB_T, inB_F, Bool.false_eq_true, m_in0, m_in1, hT]
    rfl
  | cons q L ih =>
    intro n s acc hs e hok hn
    rw [codeX_cons] at hs e hn
    rw [List.length_append] at e hn
    rw [List.foldl_cons]
    have s2 := seg_r hs
    have s1 := seg_l hs
    by_cases c : q.1 < 2
    · obtain ⟨q0, ho⟩ := hok q List.mem_cons_self c
      have ec : codeX1 q = q.2.2.map (fun z => (stepX z, if z < 0 then none else some (numX z))) ++ [(if q.1 = 0 then -4 else -5, some q.2.1)] := by unfold codeX1; rw [if_pos c]
      have el : (codeX1 q).length = q.2.2.length + 1 := by rw [ec, List.length_append, List.length_map]; rfl
      rw [el] at e hn s2
      have s3 : seg h o s (q.2.2.map (fun z => (stepX z, if z < 0 then none else some (numX z)))) := seg_l (ec ▸ s1)
      have s4 := seg_r (ec ▸ s1) 0 (by show 0 < 1; decide)
      rw [List.length_map] at s4
      have hc : ∀ j : Nat, j < q.2.2.length → h (o + 1) ((s : Int) + j) = stepX (q.2.2.getD j 0) ∧ (0 ≤ q.2.2.getD j 0 → h (o + 2) ((s : Int) + j) = numX (q.2.2.getD j 0)) := fun j hj => by
        have := s3 j (by rw [List.length_map]; exact hj)
        rw [getD_at (by rw [List.length_map]; exact hj), List.getElem_map] at this
        rw [getD_at hj]
        exact ⟨this.1, fun z => this.2 _ (by show (if q.2.2[j] < 0 then none else some _) = _; rw [if_neg (by omega)])⟩
      obtain ⟨n, rfl⟩ : ∃ m, n = m + 1 + q.2.2.length := ⟨n - 1 - q.2.2.length, by omega⟩
      have K := X_code (fc := fc) (acc := acc) hF hb hT T0 (c := q.2.2) (s := s) (by omega) hc q.2.2.length (n + 1) 0 [] (by omega) (by decide) ho
      rw [show ((s : Int) + ((0 : Nat) : Int)) = (s : Int) by omega, show enc [] = 0 from rfl, List.drop_zero] at K
      rw [K.1]
      have e1 : evB A p t q.2.2 = (ev (fct A p t) [] q.2.2).getD 0 false := rfl
      have k2 := K.2
      match hv : ev (fct A p t) [] q.2.2, k2 with
      | [b], _ =>
        rw [hv] at e1
        have e1 : evB A p t q.2.2 = b := e1
        have eb : enc [b] = b2i b := by rw [enc, enc]; omega
        have b01 := @b2i_01 b
        obtain ⟨g1, g2⟩ := s4
        have g2 := g2 q.2.1 rfl
        rw [show ((s + q.2.2.length : Nat) : Int) + ((0 : Nat) : Int) = (s : Int) + q.2.2.length by omega] at g1 g2
        have g1 : h (o + 1) ((s : Int) + q.2.2.length) = if q.1 = 0 then -4 else -5 := g1
        have ii := fun acc' => ih n (s + (q.2.2.length + 1)) acc' s2 (by omega) (fun r hr => hok r (List.mem_cons_of_mem _ hr)) (by omega)
        rw [show ((s + (q.2.2.length + 1) : Nat) : Int) = (s : Int) + q.2.2.length + 1 by omega] at ii
        rw [eb, xo_warmth_L7, zshr1 (by omega), show b2i b / 2 = 0 by omega, zand1 (by omega), show b2i b % 2 = b2i b by omega]
        by_cases z : q.1 = 0
        · rw [if_pos z] at g1
          have ew : wstep A p t acc q = acc + b2i b * q.2.1 := by
            unfold wstep
            rw [if_pos c, e1, if_pos z]
            cases b
            · rw [b2i_f, Int.zero_mul, Int.add_zero]; rfl
            · rw [b2i_t, Int.one_mul]; rfl
          rw [ew]
          simp (disch := omega) only [reduceIte, ltT, ltF, eqT, eqF, leT, leF, wwP, ckP, ckzP, ckbP, u2S, u2N, u2T, ↓Option.bind_some, inB_T, inB_F, Bool.false_eq_true, m_in0, m_in1, hT, g1, g2]
          exact ii _
        · rw [if_neg z] at g1
          have ew : wstep A p t acc q = acc - b2i b * q.2.1 := by
            unfold wstep
            rw [if_pos c, e1, if_neg z]
            cases b
            · rw [b2i_f, Int.zero_mul, Int.sub_zero]; rfl
            · rw [b2i_t, Int.one_mul]; rfl
          rw [ew]
          simp (disch := omega) only [reduceIte, ltT, ltF, eqT, eqF, leT, leF, wwP, ckP, ckzP, ckbP, u2S, u2N, u2T, ↓Option.bind_some, inB_T, inB_F, Bool.false_eq_true, m_in0, m_in1, hT, g1, g2]
          exact ii _
    · have ec : codeX1 q = [] := by unfold codeX1; rw [if_neg c]
      rw [ec] at e hn s2
      have ew : wstep A p t acc q = acc := by unfold wstep; rw [if_neg c]
      rw [ew]
      exact ih n s acc s2 (by simpa using e) (fun r hr => hok r (List.mem_cons_of_mem _ hr)) (by simpa using hn)
theorem MO_ok {A : HH} {f : Int} {L : List CL} (hO : MO A f L) : ∀ q ∈ L, q.1 < 2 → 0 ≤ q.1 ∧ okC 0 q.2.2 := fun q hq h2 => by
  obtain ⟨i, hi, e⟩ := List.getElem_of_mem hq
  have g := hO.2.2.2 i hi
  rw [getD_at hi, e] at g
  exact ⟨g.2.2.1.1, (g.2.2.2.2 h2).2.2.2.2⟩
theorem X_warm {h : HH} {f fc : Int} {A : HH} {p t : Int} {L : List CL} (hF : ∀ f, 0 ≤ f → f < 6 → h fc f = fct A p t f) (hb : ∀ f, 0 ≤ fct A p t f ∧ fct A p t f ≤ 99) (hX : XO h f L) (hM : MO A f L) : xo_warmth h (175 + 3 * f) fc = some (L.foldl (wstep A p t) 0) := by
  obtain ⟨x1, x2, x3, x4, x5⟩ := hX
  unfold xo_warmth
  have K := X_warm_L (h := h) (o := 175 + 3 * f) (fc := fc) (T := (codeX L).length) (A := A) (p := p) (t := t) hF hb x3 (by omega) L FU 0 0 (fun i hi => by
    rw [show ((0 : Nat) : Int) + (i : Int) = (i : Int) by omega, show 175 + 3 * f + 1 = 176 + 3 * f by omega, show 175 + 3 * f + 2 = 177 + 3 * f by omega]
    exact x5 i hi) (by omega) (MO_ok hM) (by unfold FU; omega)
  exact K
theorem nhC_at : nhC 0 = 2 ∧ nhC 1 = 9 ∧ nhC 2 = 3 ∧ nhC 3 = 4 ∧ nhC 4 = 1 ∧ nhC 5 = 0 ∧ nhC 6 = 8 := by decide
theorem X_dforce {S : SS} {h A : HH} {Y N w p t q s : Int} (hw : 1 ≤ w ∧ w ≤ 99) (C : XC S h w A) (W : WO Y N A) (hY : Y ≤ 20000) (hp : 0 ≤ p ∧ p < A 193 0) (ht : 0 ≤ t ∧ t < 5) (hq : q = h (w + 1) p - 1) (sb : -3000 ≤ s ∧ s ≤ 3000) {O : Int → List CL} (hs : s = sumA A O p t) : d_force S h q w t s = some (forceA A O p t) := by
  obtain ⟨h1, h2, h3, h4, h5, h6, h7, h8, h9, h10⟩ := C
  obtain ⟨g1, g2, g3, g4, g5⟩ := h5 p hp.1 hp.2
  rw [← hq] at g1 g2 g3 g4 g5
  have k0 := W.2.2.2.2.1 p hp.1 hp.2
  have v0 := W.2.2.2.2.2.1 p hp.1 hp.2
  have n0 := W.1
  have y0 := W.2.1
  have p6 : 0 ≤ p ∧ p < 6 := by omega
  have e7 := h7 p t hp.1 hp.2 ht.1 ht.2
  have hh := W.2.2.2.2.2.2.1 p t hp.1 hp.2 ht.1 ht.2
  have e8 := h8 p (A 193 2 % 4) hp.1 hp.2 (by omega) (by omega)
  have k6 : A 194 p = 0 ∨ A 194 p = 1 ∨ A 194 p = 2 ∨ A 194 p = 3 ∨ A 194 p = 4 ∨ A 194 p = 5 ∨ A 194 p = 6 := by omega
  obtain ⟨m0, m1, m2, m3, m4, m5, m6⟩ := nhC_at
  have t2 : t % 2 = 0 ∨ t % 2 = 1 := by omega
  have y2 : A 193 2 % 2 = 0 ∨ A 193 2 % 2 = 1 := by omega
  unfold d_force forceA
  rw [g2, ← hs]
  have e2 : s * 2 = 2 * s := Int.mul_comm _ _
  rcases k6 with k | k | k | k | k | k | k
  · rw [k, m0]
    unfold xh2_force
    simp (disch := omega) only [reduceIte, ltT, ltF, eqT, eqF, leT, leF, wwP, ckP, ckzP, ckbP, u2S, u2N, u2T, ↓Option.bind_some, inB_T, inB_F, Bool.false_eq_true, m_in0, m_in1]
  · rw [k, m1]
    unfold xh9_force
    rcases t2 with t2 | t2 <;> simp (disch := omega) only [reduceIte, ltT, ltF, eqT, eqF, leT, leF, wwP, ckP, ckzP, ckbP, u2S, u2N, u2T, ↓Option.bind_some, inB_T, inB_F, Bool.false_eq_true, m_in0, m_in1, zremP, t2, g5]
  · rw [k, m2]
    unfold xh3_force
    by_cases c : A 196 (5 * p + t) < 50
    · simp (disch := omega) only [reduceIte, ltT, ltF, eqT, eqF, leT, leF, wwP, ckP, ckzP, ckbP, u2S, u2N, u2T, ↓Option.bind_some, inB_T, inB_F, Bool.false_eq_true, m_in0, m_in1, g4, e7]
    · simp (disch := omega) only [reduceIte, ltT, ltF, eqT, eqF, leT, leF, wwP, ckP, ckzP, ckbP, u2S, u2N, u2T, ↓Option.bind_some, inB_T, inB_F, Bool.false_eq_true, m_in0, m_in1, g4, e7, e2]
  · rw [k, m3]
    unfold xh4_force
    simp (disch := omega) only [reduceIte, ltT, ltF, eqT, eqF, leT, leF, wwP, ckP, ckzP, ckbP, u2S, u2N, u2T, ↓Option.bind_some, inB_T, inB_F, Bool.false_eq_true, m_in0, m_in1]
  · rw [k, m4]
    unfold xh1_force xh9_force
    rcases t2 with t2 | t2 <;> rcases y2 with y2 | y2 <;> simp (disch := omega) only [reduceIte, ltT, ltF, eqT, eqF, leT, leF, wwP, ckP, ckzP, ckbP, u2S, u2N, u2T, ↓Option.bind_some, inB_T, inB_F, Bool.false_eq_true, m_in0, m_in1, zremP, t2, y2, h2, g5, zdiv2]
  · rw [k, m5]
    unfold xh0_force xh3_force
    by_cases c : A 196 (5 * p + t) < 50
    · simp (disch := omega) only [reduceIte, ltT, ltF, eqT, eqF, leT, leF, wwP, ckP, ckzP, ckbP, u2S, u2N, u2T, ↓Option.bind_some, inB_T, inB_F, Bool.false_eq_true, m_in0, m_in1, g4, e7, zremP, h2]
    · simp (disch := omega) only [reduceIte, ltT, ltF, eqT, eqF, leT, leF, wwP, ckP, ckzP, ckbP, u2S, u2N, u2T, ↓Option.bind_some, inB_T, inB_F, Bool.false_eq_true, m_in0, m_in1, g4, e7, zremP, h2, e2]
  · rw [k, m6]
    unfold xh8_force xh4_force
    simp (disch := omega) only [reduceIte, ltT, ltF, eqT, eqF, leT, leF, wwP, ckP, ckzP, ckbP, u2S, u2N, u2T, ↓Option.bind_some, inB_T, inB_F, Bool.false_eq_true, m_in0, m_in1, g4, e8, zremP, h2]
