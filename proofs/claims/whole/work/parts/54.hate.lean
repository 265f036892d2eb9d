/- hate -/
def sHate (A : HH) (a b c : Int) : Int × HH := if inB a 0 (A 193 0) then (if inB b 0 5 then (if inB c 0 100 then (A 196 (5 * a + b), u2 A 196 (5 * a + b) c) else (-2, A)) else (-1, A)) else (-1, A)
theorem M_hate {k h A : HH} (H : MR k h A) (n0 : 0 ≤ A 193 0 ∧ A 193 0 ≤ 6) {a b c : Int} (ha : -2147483648 ≤ a ∧ a ≤ 2147483647) (hb : -2147483648 ≤ b ∧ b ≤ 2147483647) (hc : -2147483648 ≤ c ∧ c ≤ 2147483647) : ∃ h', m_hate h a b c = some ((sHate A a b c).1, h') ∧ MR k h' (sHate A a b c).2 := by
  unfold sHate m_hate m_isHater m_isTree m_isHate
  by_cases c1 : 0 ≤ a ∧ a < A 193 0 <;> by_cases c2 : 0 ≤ b ∧ b < 5 <;> by_cases c3 : 0 ≤ c ∧ c < 100 <;> simp (disch := omega) only [reduceIte, ltT, ltF, eqT, eqF, leT, leF, wwP, ckP, ckzP, ckbP, u2S, u2N, u2T, ↓Option.bind_some, inB_T, inB_F, Bool.false_eq_true, m_in0, m_in1, H.s0, H.r196]
  all_goals first | exact ⟨_, rfl, H.w (by omega)⟩ | exact ⟨_, rfl, H⟩
theorem X_hate {S : SS} {k h A : HH} {O : Int → List CL} (H : XR S k h A O) {a b c : Int} (ha : -2147483648 ≤ a ∧ a ≤ 2147483647) (hb : -2147483648 ≤ b ∧ b ≤ 2147483647) (hc : -2147483648 ≤ c ∧ c ≤ 2147483647) : ∃ h', x_hate h a b c = some ((sHate A a b c).1, h') ∧ XR S k h' (sHate A a b c).2 O := by
  have C := H.2.1
  obtain ⟨n0, n6, n1⟩ := C.1
  have R := C.2.2.2.2.2.2.1
  have n1 : h 1 4 = A 193 0 := n1
  unfold sHate x_hate
  by_cases c1 : 0 ≤ a ∧ a < A 193 0 <;> by_cases c2 : 0 ≤ b ∧ b < 5 <;> by_cases c3 : 0 ≤ c ∧ c < 100 <;> simp (disch := omega) only [reduceIte, ltT, ltF, eqT, eqF, leT, leF, wwP, ckP, ckzP, ckbP, u2S, u2N, u2T, ↓Option.bind_some, inB_T, inB_F, Bool.false_eq_true, m_in0, m_in1, ww_hasT, ww_hasF, ww_treeT, ww_treeF, ww_hateT, ww_hateF]
  all_goals first | exact ⟨_, rfl, H⟩ | skip
  have e1 : h (5 + a) b = A 196 (5 * a + b) := R a b c1.1 c1.2 c2.1 c2.2
  rw [e1]
  exact ⟨_, rfl, H.core (fun c j q => u2N (by omega)) (fun c j q => u2N (by unfold coreC at q; omega)) (C.hate (by omega) (by omega) c2)⟩
theorem WOK.core {Y N : Int} {A A' : HH} (H : WOK Y N A) (a : ∀ c j, coreC c j → A' c j = A c j) : WOK Y N A' := by
  obtain ⟨h1, h2, h3, h4, h5, h6, h7, h8, h9, h10, h11⟩ := H
  unfold WOK
  have e0 := a 193 0 (by unfold coreC; omega)
  have e1 := a 193 1 (by unfold coreC; omega)
  have e2 := a 193 2 (by unfold coreC; omega)
  have e3 := a 193 10 (by unfold coreC; omega)
  have e4 : ∀ j, A' 194 j = A 194 j := fun j => a 194 j (by unfold coreC; omega)
  have e5 : ∀ j, A' 195 j = A 195 j := fun j => a 195 j (by unfold coreC; omega)
  have e6 : ∀ j, A' 196 j = A 196 j := fun j => a 196 j (by unfold coreC; omega)
  have e7 : ∀ j, A' 197 j = A 197 j := fun j => a 197 j (by unfold coreC; omega)
  have e8 : ∀ j, A' 198 j = A 198 j := fun j => a 198 j (by unfold coreC; omega)
  have e9 : ∀ j, A' 199 j = A 199 j := fun j => a 199 j (by unfold coreC; omega)
  simp only [e0, e1, e2, e3, e4, e5, e6, e7, e8, e9]
  exact ⟨h1, h2, h3, h4, h5, h6, h7, h8, h9, h10, h11⟩
theorem LOK.cg {A A' : HH} (H : LOK A) (a : ∀ c j, listC c j → A' c j = A c j) (n : A 193 0 ≤ A' 193 0) : LOK A' := by
  obtain ⟨h1, h2, h3, h4, h5, h6⟩ := H
  unfold LOK
  have e0 := a 193 38 (by unfold listC; omega)
  have e1 := a 193 43 (by unfold listC; omega)
  have e2 := a 193 44 (by unfold listC; omega)
  have f : ∀ c, 216 ≤ c → c ≤ 223 → ∀ j, A' c j = A c j := fun c p q j => a c j (by unfold listC; omega)
  have f0 := f 216 (by omega) (by omega)
  have f1 := f 217 (by omega) (by omega)
  have f2 := f 218 (by omega) (by omega)
  have f3 := f 219 (by omega) (by omega)
  have f4 := f 220 (by omega) (by omega)
  have f5 := f 221 (by omega) (by omega)
  have f6 := f 222 (by omega) (by omega)
  have f7 := f 223 (by omega) (by omega)
  simp only [e0, e1, e2, f0, f1, f2, f3, f4, f5, f6, f7]
  refine ⟨h1, h2, h3, fun i p q => ?_, fun i p q => ?_, h6⟩
  · have := h4 i p q; omega
  · have := h5 i p q; omega
/-- the bounds, with only the present world's core another -/
theorem AOK.core {A A' : HH} (H : AOK A) (a : ∀ c j, ¬ coreC c j → A' c j = A c j) (n : A 193 0 ≤ A' 193 0) (W : WOK 9999 (A 193 9) A') : AOK A' := by
  obtain ⟨h1, h2, h3, h4, h5⟩ := H
  have i1 : ∀ c j, imgC c j → A' c j = A c j := fun c j q => a c j (by unfold coreC; unfold imgC at q; omega)
  unfold AOK
  rw [a 193 27 (by unfold coreC; omega), a 193 9 (by unfold coreC; omega), a 193 49 (by unfold coreC; omega)]
  refine ⟨h1, fun i hi => by rw [a 208 i (by unfold coreC; omega)]; exact h2 i hi, W, h4.cg (fun c j q => a c j (by unfold coreC; unfold listC at q; omega)) n, fun z => ⟨(h5 z).1.core (imA.cC i1), (h5 z).2.cg (imA.cL i1) ?_⟩⟩
  rw [imA.cC i1 193 0 (by unfold coreC; omega)]
  exact Int.le_refl _
theorem A_hate {A : HH} (H : AOK A) {a b c : Int} : AOK (sHate A a b c).2 := by
  unfold sHate
  have W := H.2.2.1
  by_cases c1 : 0 ≤ a ∧ a < A 193 0 <;> by_cases c2 : 0 ≤ b ∧ b < 5 <;> by_cases c3 : 0 ≤ c ∧ c < 100 <;> simp (disch := omega) only [reduceIte, ltT, ltF, eqT, eqF, leT, leF, wwP, ckP, ckzP, ckbP, u2S, u2N, u2T, ↓Option.bind_some, inB_T, inB_F, Bool.false_eq_true, m_in0, m_in1]
  all_goals first | exact H | skip
  refine H.core (fun c j q => u2N (by unfold coreC at q; omega)) (by simp (disch := omega) only [u2S, u2N, u2T]; exact Int.le_refl _) ?_
  obtain ⟨h1, h2, h3, h4, h5, h6, h7, h8, h9, h10, h11⟩ := W
  refine ⟨by simp (disch := omega) only [u2S, u2N, u2T]; exact h1, by simp (disch := omega) only [u2S, u2N, u2T]; exact h2, by simp (disch := omega) only [u2S, u2N, u2T]; exact h3, by simp (disch := omega) only [u2S, u2N, u2T]; exact h4, fun p => by simp (disch := omega) only [u2S, u2N, u2T]; exact h5 p, fun p => by simp (disch := omega) only [u2S, u2N, u2T]; exact h6 p, fun p t => ?_, fun p i => by simp (disch := omega) only [u2S, u2N, u2T]; exact h8 p i, fun t => by simp (disch := omega) only [u2S, u2N, u2T]; exact h9 t, fun t => by simp (disch := omega) only [u2S, u2N, u2T]; exact h10 t, fun t u => by simp (disch := omega) only [u2S, u2N, u2T]; exact h11 t u⟩
  · simp (disch := omega) only [u2S, u2N, u2T]
    intro q r u v
    by_cases e : p = a ∧ t = b
    · obtain ⟨rfl, rfl⟩ := e; simp (disch := omega) only [u2S, u2N, u2T]; omega
    · simp (disch := omega) only [u2S, u2N, u2T]; exact h7 p t q r u v
