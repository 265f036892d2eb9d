theorem glueR {S : SS} {h : HH} {a b : Int} {x : Option Int} {m : Option Int} (F : Fx S) (I : Inv h S) (hx : x = some a) (hm : m = some b) (hab : ww a = ww b) : ∃ r, (x.bind fun q => m.bind fun q1 => if ww q = ww q1 then some (h, S) else none) = some r ∧ Fx r.2 ∧ Inv r.1 r.2 := by
  rw [hx, hm]
  refine ⟨(h, S), ?_, F, I⟩
  simp only [Option.bind_some]
  rw [if_pos hab]
theorem glueRL {S : SS} {h : HH} {a b : Int} {x : Option Int} {m : Option Int} (F : Fx S) (I : Inv h S) (hx : x = some a) (hm : m = some b) (hab : a = b) : ∃ r, (x.bind fun q => m.bind fun q1 => if ww (zlcmp q q1) = 0 then some (h, S) else none) = some r ∧ Fx r.2 ∧ Inv r.1 r.2 := by
  rw [hx, hm, hab]
  refine ⟨(h, S), ?_, F, I⟩
  simp only [Option.bind_some]
  rw [if_pos zlcmp_self]
/- count -/
theorem st_count {S : SS} {h : HH} {a : Int} (F : Fx S) (I : Inv h S) (ha : -2147483648 ≤ a ∧ a ≤ 2147483647) : ∃ r, ((x_count S h a).bind fun q => if ww q = ww (m_count h a) then some (h, S) else none) = some r ∧ Fx r.2 ∧ Inv r.1 r.2 := by
  have I0 := I
  obtain ⟨A, O, hA, hX, hM⟩ := I
  have e : x_count S h a = some (m_count h a) := by
    have C := hX.2.1
    have e0 : h 1 4 = A 193 0 := C.1.2.2
    obtain ⟨g1, g2, g3, g4, g5, g6⟩ := hX.2.2.1
    have e2 : h 20 1 = A 193 38 := g1.2
    have e3 : h 27 1 = A 193 43 := g2.2
    have e4 : h 39 1 = A 193 44 := g3.2
    have e1 := hX.2.2.2.2.2.2.2.1
    have e5 := hX.2.2.2.1.1
    have e6 := hX.2.2.2.1.2.2.2.2.1
    unfold x_count m_count j_lsize
    rw [wwP ha, e0, e1, e2, e3, e4, e5, e6, hM.s0, hM.s9, hM.s38, hM.s43, hM.s44, hM.s11, hM.s71]
    repeat' split
    all_goals rfl
  rw [e]
  refine ⟨(h, S), ?_, F, I0⟩
  simp only [Option.bind_some]
  rw [if_pos trivial]
/- taken -/
def isK (k q : Int) : Bool := if q = 0 then true else if k = q then true else if q = 1 then decide (k = 4) else if q = 2 then decide (k = 5) else if q = 3 then decide (k = 6) else false
def sTaken (A : HH) (a b : Int) : Int := if inB b 0 7 then (if inB a 0 (A 193 0) then (if isK (A 194 a) b then A 194 a else -12) else -11) else -2
theorem isK_fin : ∀ (k q : Fin 7), isK (k.val : Int) (q.val : Int) = decide ((q.val : Int) = 0 ∨ k = q ∨ ((q.val : Int) = 1 ∧ (k.val : Int) = 4) ∨ ((q.val : Int) = 2 ∧ (k.val : Int) = 5) ∨ ((q.val : Int) = 3 ∧ (k.val : Int) = 6)) := by decide +kernel
theorem M_taken {k h A : HH} (H : MR k h A) (W : WOK 9999 (A 193 9) A) {a b : Int} (ha : -2147483648 ≤ a ∧ a ≤ 2147483647) (hb : -2147483648 ≤ b ∧ b ≤ 2147483647) : m_taken h a b = some (sTaken A a b) := by
  unfold sTaken m_taken
  have n0 := W.1
  by_cases c1 : 0 ≤ b ∧ b < 7
  · by_cases c2 : 0 ≤ a ∧ a < A 193 0
    · have e2 : ww (m_isHater h a) = 1 := by unfold m_isHater; simp (disch := omega) only [reduceIte, ltT, ltF, eqT, eqF, leT, leF, wwP, ckP, ckzP, ckbP, u2S, u2N, u2T, ↓Option.bind_some, inB_T, inB_F, Bool.false_eq_true, m_in0, m_in1, H.s0]
      have kk := W.2.2.2.2.1 a c2.1 c2.2
      unfold isK
      by_cases d0 : b = 0
      · simp (disch := omega) only [reduceIte, ltT, ltF, eqT, eqF, leT, leF, wwP, ckP, ckzP, ckbP, u2S, u2N, u2T, ↓Option.bind_some, inB_T, inB_F, Bool.false_eq_true, m_in0, m_in1, e2, H.r194]
      by_cases d1 : A 194 a = b
      · simp (disch := omega) only [reduceIte, ltT, ltF, eqT, eqF, leT, leF, wwP, ckP, ckzP, ckbP, u2S, u2N, u2T, ↓Option.bind_some, inB_T, inB_F, Bool.false_eq_true, m_in0, m_in1, e2, H.r194]
      by_cases d2 : b = 1
      · by_cases d3 : A 194 a = 4
        · simp (disch := omega) only [reduceIte, ltT, ltF, eqT, eqF, leT, leF, wwP, ckP, ckzP, ckbP, u2S, u2N, u2T, ↓Option.bind_some, inB_T, inB_F, Bool.false_eq_true, m_in0, m_in1, e2, H.r194, decide_eq_true_eq]
        · simp (disch := omega) only [reduceIte, ltT, ltF, eqT, eqF, leT, leF, wwP, ckP, ckzP, ckbP, u2S, u2N, u2T, ↓Option.bind_some, inB_T, inB_F, Bool.false_eq_true, m_in0, m_in1, e2, H.r194, decide_eq_true_eq]
      by_cases d3 : b = 2
      · by_cases d4 : A 194 a = 5
        · simp (disch := omega) only [reduceIte, ltT, ltF, eqT, eqF, leT, leF, wwP, ckP, ckzP, ckbP, u2S, u2N, u2T, ↓Option.bind_some, inB_T, inB_F, Bool.false_eq_true, m_in0, m_in1, e2, H.r194, decide_eq_true_eq]
        · simp (disch := omega) only [reduceIte, ltT, ltF, eqT, eqF, leT, leF, wwP, ckP, ckzP, ckbP, u2S, u2N, u2T, ↓Option.bind_some, inB_T, inB_F, Bool.false_eq_true, m_in0, m_in1, e2, H.r194, decide_eq_true_eq]
      by_cases d4 : b = 3
      · by_cases d5 : A 194 a = 6
        · simp (disch := omega) only [reduceIte, ltT, ltF, eqT, eqF, leT, leF, wwP, ckP, ckzP, ckbP, u2S, u2N, u2T, ↓Option.bind_some, inB_T, inB_F, Bool.false_eq_true, m_in0, m_in1, e2, H.r194, decide_eq_true_eq]
        · simp (disch := omega) only [reduceIte, ltT, ltF, eqT, eqF, leT, leF, wwP, ckP, ckzP, ckbP, u2S, u2N, u2T, ↓Option.bind_some, inB_T, inB_F, Bool.false_eq_true, m_in0, m_in1, e2, H.r194, decide_eq_true_eq]
      simp (disch := omega) only [reduceIte, ltT, ltF, eqT, eqF, leT, leF, wwP, ckP, ckzP, ckbP, u2S, u2N, u2T, ↓Option.bind_some, inB_T, inB_F, Bool.false_eq_true, m_in0, m_in1, e2, H.r194]
    · have e2 : ww (m_isHater h a) = 0 := by unfold m_isHater; simp (disch := omega) only [reduceIte, ltT, ltF, eqT, eqF, leT, leF, wwP, ckP, ckzP, ckbP, u2S, u2N, u2T, ↓Option.bind_some, inB_T, inB_F, Bool.false_eq_true, m_in0, m_in1, H.s0]
      simp (disch := omega) only [reduceIte, ltT, ltF, eqT, eqF, leT, leF, wwP, ckP, ckzP, ckbP, u2S, u2N, u2T, ↓Option.bind_some, inB_T, inB_F, Bool.false_eq_true, m_in0, m_in1, e2]
  · simp (disch := omega) only [reduceIte, ltT, ltF, eqT, eqF, leT, leF, wwP, ckP, ckzP, ckbP, u2S, u2N, u2T, ↓Option.bind_some, inB_T, inB_F, Bool.false_eq_true, m_in0, m_in1]
theorem ins_fin : ∀ (k q : Fin 7), (if (q.val : Int) = 1 then (if nhC (k.val : Int) = 1 ∨ nhC (k.val : Int) = 9 then (1 : Int) else 0) else if (q.val : Int) = 2 then (if nhC (k.val : Int) = 0 ∨ nhC (k.val : Int) = 3 then 1 else 0) else if (q.val : Int) = 3 then (if nhC (k.val : Int) = 4 ∨ nhC (k.val : Int) = 8 then 1 else 0) else if (q.val : Int) = 4 then (if nhC (k.val : Int) = 1 then 1 else 0) else if (q.val : Int) = 5 then (if nhC (k.val : Int) = 0 then 1 else 0) else if (q.val : Int) = 6 then (if nhC (k.val : Int) = 8 then 1 else 0) else 1) = if isK (k.val : Int) (q.val : Int) then 1 else 0 := by decide +kernel
theorem x_isOfKindP {S : SS} {c k q : Int} (e : S.1 c (-1) = nhC k) (hk : 0 ≤ k ∧ k < 7) (hq : 0 ≤ q ∧ q < 7) : x_isOfKind S c q = if isK k q then 1 else 0 := by
  unfold x_isOfKind ins_9 ins_3 ins_4 ins_1 ins_0 ins_8
  rw [e, wwP (by omega)]
  obtain ⟨k', rfl⟩ := fin_of (n := 7) hk
  obtain ⟨q', rfl⟩ := fin_of (n := 7) hq
  exact ins_fin k' q'
theorem X_taken {S : SS} {k h A : HH} {O : Int → List CL} (H : XR S k h A O) (W : WOK 9999 (A 193 9) A) {a b : Int} (ha : -2147483648 ≤ a ∧ a ≤ 2147483647) (hb : -2147483648 ≤ b ∧ b ≤ 2147483647) : x_taken S h a b = some (sTaken A a b) := by
  have C := H.2.1
  obtain ⟨n0, n6, n1⟩ := C.1
  have n1 : h 1 4 = A 193 0 := n1
  unfold sTaken x_taken
  rcases tri b (lo := 0) (hi := 7) (by decide) with c1 | c1 | c1
  · simp (disch := omega) only [reduceIte, ltT, ltF, eqT, eqF, leT, leF, wwP, ckP, ckzP, ckbP, u2S, u2N, u2T, ↓Option.bind_some, inB_T, inB_F, Bool.false_eq_true, m_in0, m_in1]
  · by_cases c2 : 0 ≤ a ∧ a < A 193 0
    · have kk := W.2.2.2.2.1 a c2.1 c2.2
      have hh := C.2.2.2.2.1 a c2.1 c2.2
      have g1 : isHb S (h 2 a - 1) = true := hh.1
      have g2 : S.1 (h 2 a - 1) (-1) = nhC (A 194 a) := hh.2.1
      have g3 : h (h 2 a - 1) 0 = A 194 a := hh.2.2.1
      have g4 := x_isOfKindP g2 (by omega) c1
      by_cases d : isK (A 194 a) b = true
      · rw [if_pos d] at g4
        simp (disch := omega) only [reduceIte, ltT, ltF, eqT, eqF, leT, leF, wwP, ckP, ckzP, ckbP, u2S, u2N, u2T, ↓Option.bind_some, inB_T, inB_F, Bool.false_eq_true, m_in0, m_in1, ww_hasT, ww_hasF, ckhP, g1, g4, g3, d]
      · rw [if_neg d] at g4
        have d := Bool.eq_false_iff.mpr d
        simp (disch := omega) only [reduceIte, ltT, ltF, eqT, eqF, leT, leF, wwP, ckP, ckzP, ckbP, u2S, u2N, u2T, ↓Option.bind_some, inB_T, inB_F, Bool.false_eq_true, m_in0, m_in1, ww_hasT, ww_hasF, ckhP, g1, g4, g3, d]
    · simp (disch := omega) only [reduceIte, ltT, ltF, eqT, eqF, leT, leF, wwP, ckP, ckzP, ckbP, u2S, u2N, u2T, ↓Option.bind_some, inB_T, inB_F, Bool.false_eq_true, m_in0, m_in1, ww_hasT, ww_hasF]
  · simp (disch := omega) only [reduceIte, ltT, ltF, eqT, eqF, leT, leF, wwP, ckP, ckzP, ckbP, u2S, u2N, u2T, ↓Option.bind_some, inB_T, inB_F, Bool.false_eq_true, m_in0, m_in1]
theorem st_taken {S : SS} {h : HH} {a b : Int} (F : Fx S) (I : Inv h S) (ha : -2147483648 ≤ a ∧ a ≤ 2147483647) (hb : -2147483648 ≤ b ∧ b ≤ 2147483647) : ∃ r, ((x_taken S h a b).bind fun q => (m_taken h a b).bind fun q1 => if ww q = ww q1 then some (h, S) else none) = some r ∧ Fx r.2 ∧ Inv r.1 r.2 := by
  have I0 := I
  obtain ⟨A, O, hA, hX, hM⟩ := I
  exact glueR F I0 (X_taken hX hA.2.2.1 ha hb) (M_taken hM hA.2.2.1 ha hb) rfl
/- looked -/
theorem lk_L {h A : HH} (hX : ∀ i, 0 ≤ i → i < A 193 44 → h (41 + i) 0 = A 222 i ∧ h (41 + i) 1 = A 223 i) (hB : ∀ t, 0 ≤ t → t < 5 → h 18 t = A 198 t) (n1 : h 39 1 = A 193 44) (L : LOK A) (hb : ∀ t, 0 ≤ t → t < 5 → 0 ≤ A 198 t ∧ A 198 t ≤ 9999) (n2 : h 193 44 = A 193 44) (r1 : ∀ j, h 222 j = A 222 j) (r2 : ∀ j, h 223 j = A 223 j) (r3 : ∀ j, h 198 j = A 198 j) : ∀ (d n : Nat) (x : Int), x + d = A 193 44 → 0 ≤ x → d < n → ∃ r, x_looked_L2 h n x = some r ∧ m_looked_L2 h n x = some r := by
  intro d
  obtain ⟨-, -, l0, -, -, l1, -⟩ := L
  induction d with
  | zero =>
    intro n x e h0 hn
    obtain ⟨n, rfl⟩ : ∃ m, n = m + 1 := ⟨n - 1, by omega⟩
    rw [x_looked_L2, m_looked_L2]
    exact ⟨-5, by simp (disch := omega) only [reduceIte, ltT, ltF, eqT, eqF, leT, leF, wwP, ckP, ckzP, ckbP, u2S, u2N, u2T, ↓Option.bind_some, inB_T, inB_F, Bool.false_eq_true, m_in0, m_in1, n1], by simp (disch := omega) only [reduceIte, ltT, ltF, eqT, eqF, leT, leF, wwP, ckP, ckzP, ckbP, u2S, u2N, u2T, ↓Option.bind_some, inB_T, inB_F, Bool.false_eq_true, m_in0, m_in1, n2]⟩
  | succ d ih =>
    intro n x e h0 hn
    obtain ⟨n, rfl⟩ : ∃ m, n = m + 1 := ⟨n - 1, by omega⟩
    rw [x_looked_L2, m_looked_L2]
    obtain ⟨g1, g2⟩ := l1 x h0 (by omega)
    obtain ⟨g3, g4⟩ := hX x h0 (by omega)
    have g5 := hB _ g1.1 g1.2
    have g6 := hb _ g1.1 g1.2
    by_cases z : A 198 (A 222 x) = A 223 x
    · obtain ⟨r, i1, i2⟩ := ih n (x + 1) (by omega) (by omega) (by omega)
      exact ⟨r, by simp (disch := omega) only [reduceIte, ltT, ltF, eqT, eqF, leT, leF, wwP, ckP, ckzP, ckbP, u2S, u2N, u2T, ↓Option.bind_some, inB_T, inB_F, Bool.false_eq_true, m_in0, m_in1, n1, g3, g4, g5, i1], by simp (disch := omega) only [reduceIte, ltT, ltF, eqT, eqF, leT, leF, wwP, ckP, ckzP, ckbP, u2S, u2N, u2T, ↓Option.bind_some, inB_T, inB_F, Bool.false_eq_true, m_in0, m_in1, n2, r1, r2, r3, i2]⟩
    · exact ⟨x, by simp (disch := omega) only [reduceIte, ltT, ltF, eqT, eqF, leT, leF, wwP, ckP, ckzP, ckbP, u2S, u2N, u2T, ↓Option.bind_some, inB_T, inB_F, Bool.false_eq_true, m_in0, m_in1, n1, g3, g4, g5], by simp (disch := omega) only [reduceIte, ltT, ltF, eqT, eqF, leT, leF, wwP, ckP, ckzP, ckbP, u2S, u2N, u2T, ↓Option.bind_some, inB_T, inB_F, Bool.false_eq_true, m_in0, m_in1, n2, r1, r2, r3]⟩
theorem bore_b {A : HH} (W : WOK 9999 (A 193 9) A) : ∀ t, 0 ≤ t → t < 5 → 0 ≤ A 198 t ∧ A 198 t ≤ 9999 := fun t a b => by
  have := W.2.2.2.2.2.2.2.2.1 t a b
  have := W.2.1
  omega
theorem st_looked {S : SS} {h : HH} (F : Fx S) (I : Inv h S) : ∃ r, ((x_looked h).bind fun q => (m_looked h).bind fun q1 => if ww q = ww q1 then some (h, S) else none) = some r ∧ Fx r.2 ∧ Inv r.1 r.2 := by
  have I0 := I
  obtain ⟨A, O, hA, hX, hM⟩ := I
  have L := hA.2.2.2.1
  have l0 := L.2.2.1
  obtain ⟨r, i1, i2⟩ := lk_L hX.2.2.1.2.2.2.2.2 hX.2.1.2.2.2.2.2.2.2.2.1 hX.2.2.1.2.2.1.2 L (bore_b hA.2.2.1) hM.s44 hM.r222 hM.r223 hM.r198 (A 193 44).toNat FU 0 (by omega) (by omega) (by unfold FU; omega)
  exact glueR F I0 i1 i2 rfl
/- trace -/
theorem st_trace {S : SS} {h : HH} {a : Int} (F : Fx S) (I : Inv h S) (ha : -2147483648 ≤ a ∧ a ≤ 2147483647) : ∃ r, ((x_trace S h a).bind fun q => (m_trace h a).bind fun q1 => if ww q = ww q1 then some (h, S) else none) = some r ∧ Fx r.2 ∧ Inv r.1 r.2 := by
  have I0 := I
  obtain ⟨A, O, hA, hX, hM⟩ := I
  obtain ⟨-, -, -, -, t1, t2, -, t3⟩ := hX.2.2.2.1
  have e : x_trace S h a = m_trace h a ∧ ∃ r, m_trace h a = some r := by
    unfold x_trace m_trace j_lsize
    rcases tri a (lo := 0) (hi := 20) (by decide) with c1 | c1 | c1
    · refine ⟨?_, -1, ?_⟩ <;> simp (disch := omega) only [reduceIte, ltT, ltF, eqT, eqF, leT, leF, wwP, ckP, ckzP, ckbP, u2S, u2N, u2T, ↓Option.bind_some, inB_T, inB_F, Bool.false_eq_true, m_in0, m_in1]
    · by_cases c2 : a < A 193 71
      · rcases t3 with ⟨-, t3⟩ | ⟨k1, k2, k3, k4, k5, k6, k7⟩
        · omega
        · obtain ⟨k8, k9⟩ := k7 a c1.1 c2
          have e3 : tr_get S h a = some (A 238 a) := by
            unfold tr_get
            rw [wwP ha, wwP (by omega), k8, if_pos (by omega)]
          refine ⟨?_, A 238 a, ?_⟩ <;> simp (disch := omega) only [reduceIte, ltT, ltF, eqT, eqF, leT, leF, wwP, ckP, ckzP, ckbP, u2S, u2N, u2T, ↓Option.bind_some, inB_T, inB_F, Bool.false_eq_true, m_in0, m_in1, e3, t1, hM.s71, hM.r238]
      · refine ⟨?_, -1, ?_⟩ <;> simp (disch := omega) only [reduceIte, ltT, ltF, eqT, eqF, leT, leF, wwP, ckP, ckzP, ckbP, u2S, u2N, u2T, ↓Option.bind_some, inB_T, inB_F, Bool.false_eq_true, m_in0, m_in1, t1, hM.s71]
    · refine ⟨?_, -1, ?_⟩ <;> simp (disch := omega) only [reduceIte, ltT, ltF, eqT, eqF, leT, leF, wwP, ckP, ckzP, ckbP, u2S, u2N, u2T, ↓Option.bind_some, inB_T, inB_F, Bool.false_eq_true, m_in0, m_in1]
  obtain ⟨e, r, e2⟩ := e
  exact glueR F I0 (e.trans e2) e2 rfl
