theorem X_rb_L {x0 x1 r : Int} {h : HH} (hr : rlen x0 = r ∧ rlen x1 = r) (r8 : 0 ≤ r ∧ r ≤ 10) (hd : x1 + 12 ≤ x0 ∨ x0 + 12 ≤ x1) : ∀ (d n : Nat) (g : HH) (x : Int), x + d = r → 0 ≤ x → d < n → (∀ c j, (x0 + 2 ≤ c ∧ c < x0 + 2 + x ∧ 0 ≤ j ∧ j < 4) → g c j = h (c - x0 + x1) j) → (∀ c j, ¬ (x0 + 2 ≤ c ∧ c < x0 + 2 + x ∧ 0 ≤ j ∧ j < 4) → g c j = h c j) → ∃ h', xr_become_L2 x0 x1 n g x = some h' ∧ (∀ c j, (x0 + 2 ≤ c ∧ c < x0 + 2 + r ∧ 0 ≤ j ∧ j < 4) → h' c j = h (c - x0 + x1) j) ∧ h' x0 1 = h x1 1 ∧ ∀ c j, ¬ (x0 ≤ c ∧ c ≤ x0 + 1 + r) → h' c j = h c j := by
  intro d
  induction d with
  | zero =>
    intro n g x e hx hn f1 f2
    obtain ⟨n, rfl⟩ : ∃ m, n = m + 1 := ⟨n - 1, by omega⟩
    have e : x = r := by omega
    subst e
    rw [xr_become_L2, hr.1, if_neg (by rw [wwP (by omega)]; omega)]
    refine ⟨_, rfl, fun c j q => ?_, ?_, fun c j q => ?_⟩
    · rw [u2N (by omega)]; exact f1 c j q
    · rw [u2S]; exact f2 x1 1 (by omega)
    · rw [u2N (by omega)]; exact f2 c j (by omega)
  | succ d ih =>
    intro n g x e hx hn f1 f2
    obtain ⟨n, rfl⟩ : ∃ m, n = m + 1 := ⟨n - 1, by omega⟩
    rw [xr_become_L2, hr.1, hr.2, if_pos (by rw [wwP (by omega), wwP (by omega)]; omega), if_pos (by rw [wwP (by omega), wwP (by omega)]; omega), wwP (by omega), ckP (by omega), ckP (by omega)]
    refine ih n _ (x + 1) (by omega) (by omega) (by omega) (fun c j q => ?_) (fun c j q => ?_)
    · by_cases z : c = x0 + 2 + x
      · subst z
        rw [cpAT (by omega), f2 _ _ (by omega)]
        rw [show x1 + 2 + x = x0 + 2 + x - x0 + x1 by omega, show 0 + (j - 0) = j by omega]
      · rw [cpAN (by omega)]; exact f1 c j (by omega)
    · rw [cpAN (by omega)]; exact f2 c j (by omega)
theorem X_rb {x0 x1 r : Int} {h : HH} (hr : rlen x0 = r ∧ rlen x1 = r) (r8 : 0 ≤ r ∧ r ≤ 10) (hd : x1 + 12 ≤ x0 ∨ x0 + 12 ≤ x1) : ∃ h', xr_become h x0 x1 = some h' ∧ (∀ c j, (x0 + 2 ≤ c ∧ c < x0 + 2 + r ∧ 0 ≤ j ∧ j < 4) → h' c j = h (c - x0 + x1) j) ∧ h' x0 1 = h x1 1 ∧ ∀ c j, ¬ (x0 ≤ c ∧ c ≤ x0 + 1 + r) → h' c j = h c j :=
  X_rb_L hr r8 hd r.toNat FU h 0 (by omega) (by omega) (by unfold FU; omega) (fun c j q => by omega) (fun _ _ _ => rfl)
theorem X_become {S : SS} {h A : HH} {a b : Int} (hab : (a = 50 ∧ b = 1) ∨ (a = 1 ∧ b = 50)) (C : XC S h b A) (L : XL h b A) : ∃ h', xw_become S h a b = some h' ∧ XC S h' a A ∧ XL h' a A ∧ ∀ c j, ¬ (a ≤ c ∧ c ≤ a + 47) → h' c j = h c j := by
  obtain ⟨h1, e1, C1, f1⟩ := X_goFrom (S := S) (h := h) (a := a) (b := b) (.inr hab) C
  obtain ⟨h2, e2, g2, s2, f2⟩ := X_rb (x0 := a + 19) (x1 := b + 19) (r := 5) (h := h1) (by rcases hab with ⟨rfl, rfl⟩ | ⟨rfl, rfl⟩ <;> decide) (by omega) (by omega)
  obtain ⟨h3, e3, g3, s3, f3⟩ := X_rb (x0 := a + 26) (x1 := b + 26) (r := 10) (h := h2) (by rcases hab with ⟨rfl, rfl⟩ | ⟨rfl, rfl⟩ <;> decide) (by omega) (by omega)
  obtain ⟨h4, e4, g4, s4, f4⟩ := X_rb (x0 := a + 38) (x1 := b + 38) (r := 8) (h := h3) (by rcases hab with ⟨rfl, rfl⟩ | ⟨rfl, rfl⟩ <;> decide) (by omega) (by omega)
  refine ⟨h4, ?_, ?_, ?_, fun c j q => ?_⟩
  · unfold xw_become
    rw [e1, Option.bind_some, e2, Option.bind_some, e3, Option.bind_some, e4, Option.bind_some]
  · refine C1.cg (fun c j q => ?_) (fun _ _ _ => rfl)
    have z : a ≤ c ∧ c ≤ a + 18 ∨ 243 ≤ c := by
      rcases q with q | q
      · exact .inl q
      · exact .inr (isHb_ge q).1
    rw [f4 c j (by omega), f3 c j (by omega), f2 c j (by omega)]
  · obtain ⟨l1, l2, l3, l4, l5, l6⟩ := L
    have k1 : ∀ c j, a + 21 ≤ c ∧ c < a + 26 ∧ 0 ≤ j ∧ j < 4 → h4 c j = h (c - a + b) j := fun c j q => by
      rw [f4 c j (by omega), f3 c j (by omega), g2 c j (by omega), f1 _ _ (by omega), show c - (a + 19) + (b + 19) = c - a + b by omega]
    have k2 : ∀ c j, a + 28 ≤ c ∧ c < a + 38 ∧ 0 ≤ j ∧ j < 4 → h4 c j = h (c - a + b) j := fun c j q => by
      rw [f4 c j (by omega), g3 c j (by omega), f2 _ _ (by omega), f1 _ _ (by omega), show c - (a + 26) + (b + 26) = c - a + b by omega]
    have k3 : ∀ c j, a + 40 ≤ c ∧ c < a + 48 ∧ 0 ≤ j ∧ j < 4 → h4 c j = h (c - a + b) j := fun c j q => by
      rw [g4 c j (by omega), f3 _ _ (by omega), f2 _ _ (by omega), f1 _ _ (by omega), show c - (a + 38) + (b + 38) = c - a + b by omega]
    refine ⟨⟨l1.1, ?_⟩, ⟨l2.1, ?_⟩, ⟨l3.1, ?_⟩, fun i i0 i1 => ?_, fun i i0 i1 => ?_, fun i i0 i1 => ?_⟩
    · rw [f4 _ _ (by omega), f3 _ _ (by omega), s2, f1 _ _ (by omega)]; exact l1.2
    · rw [f4 _ _ (by omega), s3, f2 _ _ (by omega), f1 _ _ (by omega)]; exact l2.2
    · rw [s4, f3 _ _ (by omega), f2 _ _ (by omega), f1 _ _ (by omega)]; exact l3.2
    · rw [k1 _ _ (by omega), k1 _ _ (by omega), k1 _ _ (by omega), k1 _ _ (by omega), show a + 21 + i - a + b = b + 21 + i by omega]
      exact l4 i i0 i1
    · rw [k2 _ _ (by omega), k2 _ _ (by omega), show a + 28 + i - a + b = b + 28 + i by omega]
      exact l5 i i0 i1
    · rw [k3 _ _ (by omega), k3 _ _ (by omega), show a + 40 + i - a + b = b + 40 + i by omega]
      exact l6 i i0 i1
  · rw [f4 c j (by omega), f3 c j (by omega), f2 c j (by omega), f1 c j (by omega)]
theorem A_image {A : HH} (H : AOK A) : AOK (imageA A) := by
  obtain ⟨h1, h2, h3, h4, h5⟩ := H
  have e0 : ∀ c j, ¬ imgC c j → imageA A c j = A c j := fun c j q => imageA_off q
  unfold AOK
  rw [e0 193 27 (by unfold imgC; omega), e0 193 9 (by unfold imgC; omega)]
  refine ⟨h1, fun i hi => by rw [e0 208 i (by unfold imgC; omega)]; exact h2 i hi, h3.core (fun c j q => e0 c j (by unfold coreC at q; unfold imgC; omega)), h4.cg (fun c j q => e0 c j (by unfold listC at q; unfold imgC; omega)) (by rw [e0 193 0 (by unfold imgC; omega)]; exact Int.le_refl _), fun _ => ⟨h3.cgR (fun c j q => imageA_im c j (.inl q)), h4.cgR (fun c j q => imageA_im c j (.inr q)) ?_⟩⟩
  rw [imageA_im 193 0 (.inl (by unfold coreR; omega))]
  exact Int.le_refl _
theorem A_undo {A : HH} (H : AOK A) (h49 : A 193 49 = 1) : AOK (undoA A) := by
  obtain ⟨h1, h2, h3, h4, h5⟩ := H
  have e0 : ∀ c j, ¬ (coreC c j ∨ listC c j) → undoA A c j = A c j := fun c j q => undoA_off q
  have i1 : ∀ c j, imgC c j → undoA A c j = A c j := fun c j q => e0 c j (by unfold coreC listC; unfold imgC at q; omega)
  obtain ⟨w, l⟩ := h5 h49
  unfold AOK
  rw [e0 193 27 (by unfold coreC listC; omega), e0 193 9 (by unfold coreC listC; omega)]
  refine ⟨h1, fun i hi => by rw [e0 208 i (by unfold coreC listC; omega)]; exact h2 i hi, w.cgR (fun c j q => undoA_im c j (.inl q)), l.cgR (fun c j q => undoA_im c j (.inr q)) ?_, fun _ => ⟨w.core (imA.cC i1), l.cg (imA.cL i1) ?_⟩⟩
  · rw [undoA_im 193 0 (.inl (by unfold coreR; omega))]
    exact Int.le_refl _
  · rw [imA.cC i1 193 0 (by unfold coreC; omega)]
    exact Int.le_refl _
theorem st_image {S : SS} {h : HH} (F : Fx S) (I : Inv h S) : ∃ r, ((x_image S h).bind fun q => (m_image q.2).bind fun q1 => if ww q.1 = ww q1.1 then some (q1.2, S) else none) = some r ∧ Fx r.2 ∧ Inv r.1 r.2 := by
  obtain ⟨A, O, hA, hX, hM⟩ := I
  obtain ⟨x1, x2, x3, x4, x5, x6, x7, x8, x9, x10⟩ := hX
  obtain ⟨h1, e1, C1, L1, f1⟩ := X_become (S := S) (h := h) (a := 50) (b := 1) (.inl ⟨rfl, rfl⟩) x2 x3
  have n1 : u2 h1 0 3 1 1 4 = A 193 0 := by rw [u2N (by omega), f1 _ _ (by omega)]; exact x2.1.2.2
  have e2 : x_image S h = some (A 193 0, u2 h1 0 3 1) := by
    unfold x_image
    rw [e1, Option.bind_some, n1]
  rw [e2]
  have f2 : ∀ c j, ¬ (50 ≤ c ∧ c ≤ 97) → ¬ (c = 0 ∧ j = 3) → u2 h1 0 3 1 c j = h c j := fun c j q1 q2 => by rw [u2N (by omega)]; exact f1 c j q1
  have e0 : ∀ c j, ¬ imgC c j → imageA A c j = A c j := fun c j q => imageA_off q
  have X1 : XR S h (u2 h1 0 3 1) (imageA A) O := by
    refine ⟨fun c j p q => by rw [f2 c j (by omega) (by omega)], x2.cg (fun c j q => f2 c j (by rcases q with q | q; omega; have := isHb_ge q; omega) (by rcases q with q | q; omega; have := isHb_ge q; omega)) (fun c j q => e0 c j (by unfold coreC at q; unfold imgC; omega)), x3.cg (fun c j q => f2 c j (by omega) (by omega)) (fun c j q => e0 c j (by unfold listC at q; unfold imgC; omega)), x4.cg (fun c j q => f2 c j (by omega) (by omega)) (fun c j q => e0 c j (by unfold tapeC at q; unfold imgC; omega)), ?_, ?_, fun _ => ⟨?_, ?_⟩, ?_, ?_, ?_⟩
    · rw [u2S, imageA_49]
    · rw [imageA_49]; exact .inr rfl
    · exact (C1.cg (fun c j q => u2N (by rcases q with q | q; omega; have := isHb_ge q; omega)) (fun _ _ _ => rfl)).cgR (fun c j q => imageA_im c j (.inl q))
    · exact (L1.cg (fun c j q => u2N (by omega)) (fun _ _ _ => rfl)).cgR (fun c j q => imageA_im c j (.inr q))
    · rw [f2 0 6 (by omega) (by omega), e0 193 9 (by unfold imgC; omega)]; exact x8
    · rw [e0 193 9 (by unfold imgC; omega)]; exact x9
    · rw [e0 193 9 (by unfold imgC; omega)]
      exact fun f p q => ⟨(x10 f p q).1.cg (fun c j _ _ => f2 c j (by omega) (by omega)), (x10 f p q).2.cg (fun c j z => e0 c j (by unfold orchC at z; unfold imgC; omega))⟩
  have K : ∀ k g, MR k g A → ∃ h', m_image g = some (A 193 0, h') ∧ MR k h' (imageA A) := fun k g H => M_image H hA.2.2.2.1
  have G := glueW (m := m_image) (a := A 193 0) (b := A 193 0) F (A_image hA) X1 hM K rfl
  rw [Option.bind_some]
  exact G
theorem st_undo {S : SS} {h : HH} (F : Fx S) (I : Inv h S) : ∃ r, ((x_undo S h).bind fun q => (m_undo q.2).bind fun q1 => if ww q.1 = ww q1.1 then some (q1.2, S) else none) = some r ∧ Fx r.2 ∧ Inv r.1 r.2 := by
  obtain ⟨A, O, hA, hX, hM⟩ := I
  have hX' := hX
  obtain ⟨x1, x2, x3, x4, x5, x6, x7, x8, x9, x10⟩ := hX
  rcases x6 with z | z
  · have e2 : x_undo S h = some (-3, h) := by
      unfold x_undo
      rw [x5, z, if_pos (by decide)]
    rw [e2]
    refine glueW (m := fun g => m_undo g) (a := -3) (b := -3) F hA hX' hM (fun k g H => ⟨g, ?_, H⟩) rfl
    show m_undo g = _
    unfold m_undo
    rw [H.s49, z, if_pos (by decide)]
  · obtain ⟨c7, l7⟩ := x7 z
    obtain ⟨h1, e1, C1, L1, f1⟩ := X_become (S := S) (h := h) (a := 1) (b := 50) (.inr ⟨rfl, rfl⟩) c7 l7
    have un : undoA A 193 0 = imA A 193 0 := undoA_im 193 0 (.inl (by unfold coreR; omega))
    have n1 : h1 1 4 = undoA A 193 0 := by rw [un]; exact C1.1.2.2
    have e2 : x_undo S h = some (undoA A 193 0, h1) := by
      unfold x_undo
      rw [x5, z, if_neg (by decide), e1, Option.bind_some, n1]
    rw [e2]
    have e0 : ∀ c j, ¬ (coreC c j ∨ listC c j) → undoA A c j = A c j := fun c j q => undoA_off q
    have i1 : ∀ c j, imgC c j → undoA A c j = A c j := fun c j q => e0 c j (by unfold coreC listC; unfold imgC at q; omega)
    have X1 : XR S h h1 (undoA A) O := by
      refine ⟨fun c j p q => by rw [f1 c j (by omega)], C1.cgR (fun c j q => undoA_im c j (.inl q)), L1.cgR (fun c j q => undoA_im c j (.inr q)), x4.cg (fun c j q => f1 c j (by omega)) (fun c j q => e0 c j (by unfold tapeC at q; unfold coreC listC; omega)), ?_, ?_, fun _ => ⟨?_, ?_⟩, ?_, ?_, ?_⟩
      · rw [f1 0 3 (by omega), e0 193 49 (by unfold coreC listC; omega)]; exact x5
      · rw [e0 193 49 (by unfold coreC listC; omega)]; exact .inr z
      · exact c7.cg (fun c j q => f1 c j (by rcases q with q | q; omega; have := isHb_ge q; omega)) (imA.cC i1)
      · exact l7.cg (fun c j q => f1 c j (by omega)) (imA.cL i1)
      · rw [f1 0 6 (by omega), e0 193 9 (by unfold coreC listC; omega)]; exact x8
      · rw [e0 193 9 (by unfold coreC listC; omega)]; exact x9
      · rw [e0 193 9 (by unfold coreC listC; omega)]
        exact fun f p q => ⟨(x10 f p q).1.cg (fun c j _ _ => f1 c j (by omega)), (x10 f p q).2.cg (fun c j z => e0 c j (by unfold orchC at z; unfold coreC listC; omega))⟩
    have K : ∀ k g, MR k g A → ∃ h', m_undo g = some (undoA A 193 0, h') ∧ MR k h' (undoA A) := fun k g H => M_undo H z (hA.2.2.2.2 z).2
    have G := glueW (m := m_undo) (a := undoA A 193 0) (b := undoA A 193 0) F (A_undo hA z) X1 hM K rfl
    rw [Option.bind_some]
    exact G
