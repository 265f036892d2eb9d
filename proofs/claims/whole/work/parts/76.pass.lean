/-- the Model's cells that only help it -/
def scC (c j : Int) : Prop := (c = 193 ∧ (j = 12 ∨ j = 13 ∨ j = 22 ∨ j = 23 ∨ j = 24 ∨ j = 28 ∨ j = 29 ∨ j = 36 ∨ j = 37)) ∨ c = 207 ∨ c = 209 ∨ (210 ≤ c ∧ c ≤ 215) ∨ c = 242
theorem XR.sA {S : SS} {k h A A' : HH} {O : Int → List CL} (H : XR S k h A O) (a : ∀ c j, ¬ scC c j → A' c j = A c j) : XR S k h A' O := by
  obtain ⟨h1, h2, h3, h4, h5, h6, h7, h8, h9, h10⟩ := H
  have i1 : ∀ c j, imgC c j → A' c j = A c j := fun c j q => a c j (by unfold scC; unfold imgC at q; omega)
  refine ⟨h1, h2.cg (fun _ _ _ => rfl) (fun c j q => a c j (by unfold scC; unfold coreC at q; omega)), h3.cg (fun _ _ _ => rfl) (fun c j q => a c j (by unfold scC; unfold listC at q; omega)), h4.cg (fun _ _ _ => rfl) (fun c j q => a c j (by unfold scC; unfold tapeC at q; omega)), ?_, ?_, ?_, ?_, ?_, ?_⟩
  · rw [a 193 49 (by unfold scC; omega)]; exact h5
  · rw [a 193 49 (by unfold scC; omega)]; exact h6
  · rw [a 193 49 (by unfold scC; omega)]
    exact fun z => ⟨(h7 z).1.cg (fun _ _ _ => rfl) (imA.cC i1), (h7 z).2.cg (fun _ _ _ => rfl) (imA.cL i1)⟩
  · rw [a 193 9 (by unfold scC; omega)]; exact h8
  · rw [a 193 9 (by unfold scC; omega)]; exact h9
  · rw [a 193 9 (by unfold scC; omega)]
    exact fun f p q => ⟨(h10 f p q).1, (h10 f p q).2.cg (fun c j z => a c j (by unfold scC; unfold orchC at z; omega))⟩
theorem AOK.sA {A A' : HH} (H : AOK A) (a : ∀ c j, ¬ scC c j → A' c j = A c j) : AOK A' := by
  obtain ⟨h1, h2, h3, h4, h5⟩ := H
  have i1 : ∀ c j, imgC c j → A' c j = A c j := fun c j q => a c j (by unfold scC; unfold imgC at q; omega)
  unfold AOK
  rw [a 193 27 (by unfold scC; omega), a 193 9 (by unfold scC; omega), a 193 49 (by unfold scC; omega)]
  refine ⟨h1, fun i hi => by rw [a 208 i (by unfold scC; omega)]; exact h2 i hi, h3.core (fun c j q => a c j (by unfold scC; unfold coreC at q; omega)), h4.cg (fun c j q => a c j (by unfold scC; unfold listC at q; omega)) (by rw [a 193 0 (by unfold scC; omega)]; exact Int.le_refl _), fun z => ⟨(h5 z).1.core (imA.cC i1), (h5 z).2.cg (imA.cL i1) ?_⟩⟩
  rw [imA.cC i1 193 0 (by unfold coreC; omega)]
  exact Int.le_refl _
/-- one call, whose Model leaves its helping cells otherwise -/
theorem glueS {S' : SS} {h h1 A A' : HH} {O : Int → List CL} {a b : Int} {m : HH → Option (Int × HH)} (F : Fx S') (hS : AOK A') (hX : XR S' h h1 A' O) (I : MR h h A) (hM : ∀ k h, MR k h A → ∃ h' A'', m h = some (b, h') ∧ MR k h' A'' ∧ ∀ c j, ¬ scC c j → A'' c j = A' c j) (hab : ww a = ww b) : ∃ r, ((m h1).bind fun q1 => if ww a = ww q1.1 then some (q1.2, S') else none) = some r ∧ Fx r.2 ∧ Inv r.1 r.2 := by
  have I1 : MR h1 h1 A := ⟨fun _ _ _ => rfl, fun c j q => by rw [hX.1 c j (rel_c q).1 (rel_c q).2]; exact I.2 c j q⟩
  obtain ⟨h2, A'', e2, M2, s2⟩ := hM h1 h1 I1
  refine ⟨(h2, S'), by rw [e2]; simp only [Option.bind_some]; rw [if_pos hab], F, A'', O, hS.sA s2, (hX.sA s2).same M2.1, fun _ _ _ => rfl, M2.2⟩
/-- the present world's core is another, and the class's helping cells -/
theorem XR.core2 {S : SS} {k h h' A A' : HH} {O : Int → List CL} (H : XR S k h A O) (e : ∀ c j, ¬ ((1 ≤ c ∧ c ≤ 19) ∨ c = 49) → h' c j = h c j) (a : ∀ c j, ¬ coreC c j → A' c j = A c j) (C : XC S h' 1 A') : XR S k h' A' O := by
  have H1 : XR S k (fun c j => if 1 ≤ c ∧ c ≤ 19 then h' c j else h c j) A' O := by
    refine H.core (fun c j q => by rw [if_neg q]) a (C.cg (fun c j q => ?_) (fun _ _ _ => rfl))
    by_cases z : 1 ≤ c ∧ c ≤ 19
    · rw [if_pos z]
    · rw [if_neg z]
      rcases q with q | q
      · omega
      · have := isHb_ge q
        exact (e c j (by omega)).symm
  refine H1.scr fun c j q => ?_
  by_cases z : 1 ≤ c ∧ c ≤ 19
  · rw [if_pos z]
  · rw [if_neg z]; exact e c j (by omega)
theorem XR.OM {S : SS} {k h A : HH} {O : Int → List CL} (H : XR S k h A O) (W : WOK 9999 (A 193 9) A) : OM A O := ⟨W.2.2.2.1.1, by have := W.2.2.2.1; have := H.2.2.2.2.2.2.2.2.1; omega, fun z => (H.2.2.2.2.2.2.2.2.2 _ z W.2.2.2.1.2).2⟩
theorem XR.OX {S : SS} {k h A : HH} {O : Int → List CL} (H : XR S k h A O) (W : WOK 9999 (A 193 9) A) : OX h A O := fun z => (H.2.2.2.2.2.2.2.2.2 _ z W.2.2.2.1.2).1
theorem yearA_core {A : HH} {O : Int → List CL} {c j : Int} (h : ¬ coreC c j) : yearA A O c j = A c j := by
  rw [yearA_at (by unfold coreC at h; omega), yearP_N (by unfold coreC at h; omega)]
theorem yearsA_core {O : Int → List CL} {c j : Int} (h : ¬ coreC c j) : ∀ (d : Nat) (A : HH), yearsA A O d c j = A c j
  | 0, _ => rfl
  | d + 1, A => (yearsA_core h d (yearA A O)).trans (yearA_core h)
theorem yearsA_WOK {O : Int → List CL} {N : Int} : ∀ (d : Nat) (A : HH) (Y : Int), WOK Y N A → OM A O → WOK (Y + d) N (yearsA A O d) ∧ OM (yearsA A O d) O ∧ yearsA A O d 193 0 = A 193 0 ∧ yearsA A O d 193 2 = A 193 2 + d
  | 0, A, Y, W, hO => ⟨by rw [show Y + ((0 : Nat) : Int) = Y by omega]; exact W, hO, rfl, by show A 193 2 = A 193 2 + 0; omega⟩
  | d + 1, A, Y, W, hO => by
    obtain ⟨⟨y0, y1, y2, y3, y4⟩, -⟩ := @yearA_off A O
    obtain ⟨i1, i2, i3, i4⟩ := yearsA_WOK d (yearA A O) (Y + 1) (yearA_WOK W hO) (yearA_OM hO)
    refine ⟨by rw [show Y + ((d + 1 : Nat) : Int) = Y + 1 + d by omega]; exact i1, i2, ?_, ?_⟩
    · show yearsA (yearA A O) O d 193 0 = _
      rw [i3, y0]
    · show yearsA (yearA A O) O d 193 2 = _
      rw [i4, y2]; omega
theorem WOK.yr {Y Z N : Int} {A : HH} (W : WOK Y N A) (h : A 193 2 ≤ Z) : WOK Z N A := ⟨W.1, ⟨W.2.1.1, h⟩, W.2.2⟩
/- pass -/
theorem st_pass {S : SS} {h : HH} {a : Int} (F : Fx S) (I : Inv h S) (ha : -2147483648 ≤ a ∧ a ≤ 2147483647) : ∃ r, ((x_pass S h a).bind fun q => (m_pass q.2 a).bind fun q1 => if ww q.1 = ww q1.1 then some (q1.2, S) else none) = some r ∧ Fx r.2 ∧ Inv r.1 r.2 := by
  obtain ⟨A, O, hA, hX, hM⟩ := I
  have W := hA.2.2.1
  have y0 := W.2.1
  have x7 : h 1 7 = A 193 2 := hX.2.1.2.1
  have hO := hX.OM W
  have c27 := hA.1
  by_cases c1 : 0 ≤ a ∧ a ≤ 60
  · by_cases c2 : 9999 < A 193 2 + a
    · have e1 : x_pass S h a = some (-3, h) := by
        unfold x_pass
        simp (disch := omega) only [reduceIte, ltT, ltF, eqT, eqF, leT, leF, wwP, ckP, ckzP, ckbP, u2S, u2N, u2T, ↓Option.bind_some, inB_T, inB_F, Bool.false_eq_true, m_in0, m_in1, ww_yearT, x7]
      rw [e1]
      exact glueW (m := fun h => m_pass h a) (a := -3) (b := -3) F hA hX hM (fun k h H => ⟨h, by show m_pass h a = _; unfold m_pass m_isYears; simp (disch := omega) only [reduceIte, ltT, ltF, eqT, eqF, leT, leF, wwP, ckP, ckzP, ckbP, u2S, u2N, u2T, ↓Option.bind_some, inB_T, inB_F, Bool.false_eq_true, m_in0, m_in1, H.s2], H⟩) rfl
    · obtain ⟨d, rfl⟩ := nat_of c1.1
      obtain ⟨h1, e1, C1, f1⟩ := X_years (S := S) (h := h) (w := 1) (.inl rfl) hX.2.1 W (d := d) (by omega) (by omega) hO (hX.OX W)
      obtain ⟨i1, i2, i3, i4⟩ := yearsA_WOK d A 9999 W hO
      have e2 : x_pass S h d = some (A 193 2 + d, h1) := by
        unfold x_pass
        have x7' : h1 1 7 = A 193 2 + d := by rw [C1.2.1, i4]
        simp (disch := omega) only [reduceIte, ltT, ltF, eqT, eqF, leT, leF, wwP, ckP, ckzP, ckbP, u2S, u2N, u2T, ↓Option.bind_some, inB_T, inB_F, Bool.false_eq_true, m_in0, m_in1, ww_yearT, x7, e1, x7']
      rw [e2]
      refine glueW (m := fun h => m_pass h d) (a := A 193 2 + d) (b := A 193 2 + d) (A' := yearsA A O d) F (hA.core (fun c j q => yearsA_core q d A) (by rw [i3]; exact Int.le_refl _) (i1.yr (by rw [i4]; omega))) (hX.core2 (fun c j q => f1 c j (by omega)) (fun c j q => yearsA_core q d A) C1) hM (fun k h H => ?_) rfl
      obtain ⟨h2, e3, M2⟩ := M_years H W (d := d) (by omega) (by omega) (by omega) hO
      refine ⟨h2, ?_, M2⟩
      show m_pass h d = _
      unfold m_pass m_isYears
      have r2 : h2 193 2 = A 193 2 + d := by rw [M2.s2, i4]
      simp (disch := omega) only [reduceIte, ltT, ltF, eqT, eqF, leT, leF, wwP, ckP, ckzP, ckbP, u2S, u2N, u2T, ↓Option.bind_some, inB_T, inB_F, Bool.false_eq_true, m_in0, m_in1, H.s2, e3, r2]
  · have e1 : x_pass S h a = some (-2, h) := by
      unfold x_pass
      simp (disch := omega) only [reduceIte, ltT, ltF, eqT, eqF, leT, leF, wwP, ckP, ckzP, ckbP, u2S, u2N, u2T, ↓Option.bind_some, inB_T, inB_F, Bool.false_eq_true, m_in0, m_in1, ww_yearF]
    rw [e1]
    exact glueW (m := fun h => m_pass h a) (a := -2) (b := -2) F hA hX hM (fun k h H => ⟨h, by show m_pass h a = _; unfold m_pass m_isYears; simp (disch := omega) only [reduceIte, ltT, ltF, eqT, eqF, leT, leF, wwP, ckP, ckzP, ckbP, u2S, u2N, u2T, ↓Option.bind_some, inB_T, inB_F, Bool.false_eq_true, m_in0, m_in1, H.s2], H⟩) rfl
