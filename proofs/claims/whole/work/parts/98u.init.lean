/-- what the memory holds at the start -/
def initV : List (Int × Int × Int) := [(193, 0, 0), (193, 1, 0), (193, 2, 0), (193, 9, 0), (193, 10, -1), (193, 11, 0), (193, 27, 9999), (193, 38, 0), (193, 43, 0), (193, 44, 0), (193, 49, 0), (193, 71, 0), (1, 4, 0), (1, 7, 0), (1, 11, 0), (20, 1, 0), (27, 1, 0), (39, 1, 0), (148, 1, 0), (151, 2, 0), (151, 1, -7), (0, 3, 0), (0, 6, 0)]
def initR : List (Int × Nat × Int) := [(198, 5, 0), (199, 5, -5), (219, 5, 0), (239, 6, -1), (240, 6, 0), (2, 6, 0), (3, 6, 0), (18, 5, 0), (19, 5, -5), (166, 6, -5), (167, 6, 0), (165, 64, 0)]
def initB (r : HH × SS) : Bool := decide (243 ≤ r.2.2) && RT.all (fun q => decide (r.2.1 q.1 q.2.1 = q.2.2)) && initV.all (fun q => decide (r.1 q.1 q.2.1 = q.2.2)) && initR.all (fun q => (List.range q.2.1).all fun j => decide (r.1 q.1 (j : Int) = q.2.2)) && (List.range 15).all (fun j => decide (r.1 208 (j : Int) = [104, 111, 116, 99, 111, 108, 100, 110, 101, 101, 100, 119, 101, 97, 114].getD j 0))
theorem init_ok : (match start_mem with | some r => initB r | none => false) = true := by decide +kernel
theorem inv_init : ∃ r, start_mem = some r ∧ Fx r.2 ∧ Inv r.1 r.2 := by
  have ok := init_ok
  cases hs : start_mem with
  | none => rw [hs] at ok; simp at ok
  | some r =>
    rw [hs] at ok
    have ok : initB r = true := ok
    unfold initB at ok
    rw [Bool.and_eq_true, Bool.and_eq_true, Bool.and_eq_true, Bool.and_eq_true, decide_eq_true_eq, List.all_eq_true, List.all_eq_true, List.all_eq_true, List.all_eq_true] at ok
    obtain ⟨⟨⟨⟨s1, s2⟩, v1⟩, v2⟩, v3⟩ := ok
    obtain ⟨h, S⟩ := r
    have V : ∀ c j v, (c, j, v) ∈ initV → h c j = v := fun c j v hm => of_decide_eq_true (v1 (c, j, v) hm)
    have R : ∀ c (n : Nat) v, (c, n, v) ∈ initR → ∀ j : Int, 0 ≤ j → j < n → h c j = v := fun c n v hm j j0 j1 => by
      have := v2 (c, n, v) hm
      rw [List.all_eq_true] at this
      have := of_decide_eq_true (this j.toNat (List.mem_range.2 (by show j.toNat < n; omega)))
      rw [show ((j.toNat : Nat) : Int) = j by omega] at this
      exact this
    have a0 : h 193 0 = 0 := V _ _ _ (by decide)
    have a1 : h 193 1 = 0 := V _ _ _ (by decide)
    have a2 : h 193 2 = 0 := V _ _ _ (by decide)
    have a9 : h 193 9 = 0 := V _ _ _ (by decide)
    have a10 : h 193 10 = -1 := V _ _ _ (by decide)
    have a11 : h 193 11 = 0 := V _ _ _ (by decide)
    have a27 : h 193 27 = 9999 := V _ _ _ (by decide)
    have a38 : h 193 38 = 0 := V _ _ _ (by decide)
    have a43 : h 193 43 = 0 := V _ _ _ (by decide)
    have a44 : h 193 44 = 0 := V _ _ _ (by decide)
    have a49 : h 193 49 = 0 := V _ _ _ (by decide)
    have a71 : h 193 71 = 0 := V _ _ _ (by decide)
    have b1 := R 198 5 0 (by decide)
    have b2 := R 199 5 (-5) (by decide)
    have b3 := R 219 5 0 (by decide)
    have b4 := R 239 6 (-1) (by decide)
    have b5 := R 240 6 0 (by decide)
    have c1 := R 2 6 0 (by decide)
    have c2 := R 3 6 0 (by decide)
    have c3 := R 18 5 0 (by decide)
    have c4 := R 19 5 (-5) (by decide)
    have c5 := R 166 6 (-5) (by decide)
    have c6 := R 167 6 0 (by decide)
    have c7 := R 165 64 0 (by decide)
    refine ⟨(h, S), rfl, ⟨s1, fun q hq => of_decide_eq_true (s2 q hq)⟩, h, fun _ => [], ?_, ?_, ⟨fun _ _ _ => rfl, fun _ _ _ => rfl⟩⟩
    · refine ⟨a27, fun i hi => ?_, ?_, ?_, fun z => by rw [a49] at z; omega⟩
      · exact of_decide_eq_true (v3 i (List.mem_range.2 hi))
      · unfold WOK
        rw [a0, a1, a2, a9, a10]
        refine ⟨by omega, by omega, by omega, by omega, fun p _ _ => by omega, fun p _ _ => by omega, fun p t _ _ => by omega, fun p i _ _ => by omega, fun t t0 t1 => ?_, fun t t0 t1 => ?_, fun t u t0 t1 _ _ _ _ => b2 t t0 t1⟩
        · rw [b1 t t0 t1]; omega
        · exact .inl (b2 t t0 t1)
      · unfold LOK
        rw [a38, a43, a44]
        exact ⟨by omega, by omega, by omega, fun i _ _ => by omega, fun i _ _ => by omega, fun i _ _ => by omega, fun i i0 i1 => .inl (b3 i i0 i1)⟩
    · show XR S h h h _
      refine ⟨fun _ _ _ _ => rfl, ?_, ?_, ?_, ?_, .inl a49, fun z => by rw [a49] at z; omega, ?_, by rw [a9]; omega, fun f f0 f1 => by rw [a9] at f1; omega⟩
      · unfold XC
        rw [a0, a1, a2, a10]
        refine ⟨⟨by omega, by omega, V _ _ _ (by decide)⟩, V _ _ _ (by decide), ?_, fun p p0 p1 => ⟨.inl ?_, .inl ?_⟩, fun p _ _ => by omega, fun p _ _ => by omega, fun p t _ _ => by omega, fun p i _ _ => by omega, fun t t0 t1 => ?_, fun t t0 t1 => ?_⟩
        · rw [if_pos (by decide)]
          exact V _ _ _ (by decide)
        · have e : h (1 + 1) p = 0 := c1 p p0 p1
          rw [e]
          exact Int.le_refl _
        · exact c2 p p0 p1
        · rw [b1 t t0 t1]
          exact c3 t t0 t1
        · rw [b2 t t0 t1]
          exact c4 t t0 t1
      · unfold XL
        rw [a38, a43, a44]
        exact ⟨⟨by omega, V _ _ _ (by decide)⟩, ⟨by omega, V _ _ _ (by decide)⟩, ⟨by omega, V _ _ _ (by decide)⟩, fun i _ _ => by omega, fun i _ _ => by omega, fun i _ _ => by omega⟩
      · unfold XT
        rw [a11, a71]
        refine ⟨V _ _ _ (by decide), by omega, fun i _ _ => by omega, fun t t0 t1 => ?_, V _ _ _ (by decide), by omega, fun j j0 j1 => c7 j j0 j1, .inl ⟨V _ _ _ (by decide), rfl⟩⟩
        rw [b4 t t0 t1, b5 t t0 t1]
        refine ⟨.inl rfl, ?_, c6 t t0 t1, by omega, fun _ => rfl, fun i _ _ => by omega⟩
        rw [if_pos (by decide)]
        exact c5 t t0 t1
      · rw [a49]
        exact V _ _ _ (by decide)
      · rw [a9]
        exact V _ _ _ (by decide)
