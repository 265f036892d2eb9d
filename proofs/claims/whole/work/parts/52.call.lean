/-- the class's side does not hang on the Model's cells -/
theorem XR.same {S : SS} {k h h' A : HH} {O : Int → List CL} (H : XR S k h A O) (e : ∀ c j, (c < 193 ∨ 242 < c) → h' c j = h c j) : XR S h' h' A O := by
  obtain ⟨-, h2, h3, h4, h5, h6, h7, h8, h9, h10⟩ := H
  refine ⟨fun _ _ _ _ => rfl, h2.cg (fun c j q => e c j (by rcases q with q | q; omega; have := isHb_ge q; omega)) (fun _ _ _ => rfl), h3.cg (fun c j q => e c j (by omega)) (fun _ _ _ => rfl), h4.cg (fun c j q => e c j (by omega)) (fun _ _ _ => rfl), by rw [e 0 3 (by omega)]; exact h5, h6, ?_, by rw [e 0 6 (by omega)]; exact h8, h9, ?_⟩
  · exact fun z => ⟨(h7 z).1.cg (fun c j q => e c j (by rcases q with q | q; omega; have := isHb_ge q; omega)) (fun _ _ _ => rfl), (h7 z).2.cg (fun c j q => e c j (by omega)) (fun _ _ _ => rfl)⟩
  · exact fun f p q => ⟨(h10 f p q).1.cg (fun c j _ _ => e c j (by omega)), (h10 f p q).2⟩
theorem rel_c {c j : Int} (h : rel c j) : 193 ≤ c ∧ c ≤ 242 := by unfold rel at h; omega
/-- one call: both sides answer the same s.1, and stand at s.2 -/
theorem glueW {S' : SS} {h h1 A A' : HH} {O : Int → List CL} {a b : Int} {m : HH → Option (Int × HH)} (F : Fx S') (hS : AOK A') (hX : XR S' h h1 A' O) (I : MR h h A) (hM : ∀ k h, MR k h A → ∃ h', m h = some (b, h') ∧ MR k h' A') (hab : ww a = ww b) : ∃ r, ((m h1).bind fun q1 => if ww a = ww q1.1 then some (q1.2, S') else none) = some r ∧ Fx r.2 ∧ Inv r.1 r.2 := by
  have I1 : MR h1 h1 A := ⟨fun _ _ _ => rfl, fun c j q => by rw [hX.1 c j (rel_c q).1 (rel_c q).2]; exact I.2 c j q⟩
  obtain ⟨h2, e2, M2⟩ := hM h1 h1 I1
  refine ⟨(h2, S'), by rw [e2]; simp only [Option.bind_some]; rw [if_pos hab], F, A', O, hS, hX.same M2.1, fun _ _ _ => rfl, M2.2⟩
theorem ww_treeT {a : Int} (h : 0 ≤ a ∧ a < 5) : ww (x_isTree a) = 1 := by
  rw [x_isTreeP (by unfold isI; omega), if_pos h]; rfl
theorem ww_treeF {a : Int} (h : ¬ (0 ≤ a ∧ a < 5) ∧ -2147483648 ≤ a ∧ a ≤ 2147483647) : ww (x_isTree a) = 0 := by
  rw [x_isTreeP h.2, if_neg h.1]; rfl
theorem ww_hateT {a : Int} (h : 0 ≤ a ∧ a ≤ 99) : ww (x_isHate a) = 1 := by
  rw [x_isHateP (by unfold isI; omega), if_pos h]; rfl
theorem ww_hateF {a : Int} (h : ¬ (0 ≤ a ∧ a ≤ 99) ∧ -2147483648 ≤ a ∧ a ≤ 2147483647) : ww (x_isHate a) = 0 := by
  rw [x_isHateP h.2, if_neg h.1]; rfl
theorem ww_yearT {a : Int} (h : 0 ≤ a ∧ a ≤ 60) : ww (x_isYears a) = 1 := by
  rw [x_isYearsP (by unfold isI; omega), if_pos h]; rfl
theorem ww_yearF {a : Int} (h : ¬ (0 ≤ a ∧ a ≤ 60) ∧ -2147483648 ≤ a ∧ a ≤ 2147483647) : ww (x_isYears a) = 0 := by
  rw [x_isYearsP h.2, if_neg h.1]; rfl
theorem ww_tapeT {a : Int} (h : 0 ≤ a ∧ a < 6) : ww (x_isTape a) = 1 := by
  rw [x_isTapeP (by unfold isI; omega), if_pos h]; rfl
theorem ww_tapeF {a : Int} (h : ¬ (0 ≤ a ∧ a < 6) ∧ -2147483648 ≤ a ∧ a ≤ 2147483647) : ww (x_isTape a) = 0 := by
  rw [x_isTapeP h.2, if_neg h.1]; rfl
theorem ww_hasT {h : HH} {w a : Int} (q : 0 ≤ a ∧ a < h w 4 ∧ h w 4 ≤ 6) : ww (xw_has h w a) = 1 := by
  rw [xw_hasP (by unfold isI; omega) rfl (by unfold isI; omega), if_pos ⟨q.1, q.2.1⟩]; rfl
theorem ww_hasF {h : HH} {w a : Int} (q : ¬ (0 ≤ a ∧ a < h w 4) ∧ (0 ≤ h w 4 ∧ h w 4 ≤ 6) ∧ -2147483648 ≤ a ∧ a ≤ 2147483647) : ww (xw_has h w a) = 0 := by
  rw [xw_hasP q.2.2 rfl (by unfold isI; omega), if_neg q.1]; rfl
def inB (a lo hi : Int) : Bool := decide (lo ≤ a ∧ a < hi)
theorem inB_T {a lo hi : Int} (h : lo ≤ a ∧ a < hi) : inB a lo hi = true := decide_eq_true h
theorem inB_F {a lo hi : Int} (h : ¬ (lo ≤ a ∧ a < hi)) : inB a lo hi = false := decide_eq_false h
