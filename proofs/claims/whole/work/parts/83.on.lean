/-- A and B say the same, but for what the Model helps itself with -/
def agr (A B : HH) : Prop := ∀ c j, ¬ scC c j → ¬ (c = 193 ∧ j = 27) → A c j = B c j
theorem agr.bear {A B : HH} (H : agr A B) {O : Int → List CL} {p t : Int} : bearA A O p t = bearA B O p t := by
  refine bearA_cg (H _ _ ?_ ?_) (H _ _ ?_ ?_) (H _ _ ?_ ?_) (H _ _ ?_ ?_) (H _ _ ?_ ?_) (H _ _ ?_ ?_) (fun j => H _ _ ?_ ?_)
  all_goals (try unfold scC); omega
theorem agr.btE {A B : HH} (H : agr A B) {O : Int → List CL} {t : Int} : bt A O t = bt B O t := by
  have e : A 199 t = B 199 t := H _ _ (by unfold scC; omega) (by omega)
  unfold bt
  rw [e, H.bear (O := O)]
theorem agr.bset {A B : HH} (H : agr A B) {O : Int → List CL} : ∀ n : Nat, bsetN A O n = bsetN B O n
  | 0 => rfl
  | n + 1 => by rw [bsetN, bsetN, H.bset n, H.btE (O := O)]
theorem agr.wear {A B : HH} (H : agr A B) {O : Int → List CL} : wearA A O = wearA B O := wearA_cg (H _ _ (by unfold scC; omega) (by omega))
theorem agr.year {A B : HH} (H : agr A B) {O : Int → List CL} : agr (yearA A O) (yearA B O) := fun c j a b => by
  have h0 := H c j a b
  by_cases e : c = 193 ∧ j = 2
  · obtain ⟨rfl, rfl⟩ := e
    rw [yearA_off.1.2.2.1, yearA_off.1.2.2.1, h0]
  · have h198 : A 198 j = B 198 j := H _ _ (by unfold scC; omega) (by omega)
    have h196 : A 196 j = B 196 j := H _ _ (by unfold scC; omega) (by omega)
    rw [yearA_at e, yearA_at e, yearP_at, yearP_at, H.btE (O := O), H.btE (O := O), H.wear (O := O), H 199 (j % 5) (by unfold scC; omega) (by omega), h198, h196, h0]
theorem agr.years {O : Int → List CL} : ∀ (d : Nat) (A B : HH), agr A B → agr (yearsA A O d) (yearsA B O d)
  | 0, _, _, H => H
  | d + 1, _, _, H => agr.years d _ _ (H.year)
theorem saveA_agr {A : HH} : agr (saveA A) A := fun _ _ a b => saveA_off a b
theorem yearA_in {A : HH} {O : Int → List CL} {Y N : Int} (W : WOK Y N A) {c j : Int} (h : ¬ coreI c j) : yearA A O c j = A c j := by
  unfold coreI at h
  rw [yearA_at (by omega), yearP_at, if_neg (by omega)]
  have n0 := W.1
  have l := W.2.2.2.2.2.2.2.2.2.1 (j % 5) (by omega) (by omega)
  rw [if_neg (by omega)]
theorem yearsA_in {O : Int → List CL} {N : Int} {c j : Int} (h : ¬ coreI c j) : ∀ (d : Nat) (A : HH) (Y : Int), WOK Y N A → OM A O → yearsA A O d c j = A c j
  | 0, _, _, _, _ => rfl
  | d + 1, A, Y, W, hO => (yearsA_in h d (yearA A O) (Y + 1) (yearA_WOK W hO) (yearA_OM hO)).trans (yearA_in W h)
def ansOn (A : HH) (O : Int → List CL) (d : Nat) (w : Int) : Int := if w = 0 then bsetN (yearsA A O d) O 5 else if w < 20 then yearsA A O d 198 (w - 10) else yearsA A O d 196 (w - 20)
theorem agr.ansE {A B : HH} (H : agr A B) {O : Int → List CL} {d : Nat} {w : Int} : ansOn A O d w = ansOn B O d w := by
  have K := agr.years (O := O) d A B H
  unfold ansOn
  rw [K.bset, K 198 _ (by unfold scC; omega) (by omega), K 196 _ (by unfold scC; omega) (by omega)]
theorem M_onK {k h A : HH} {N w : Int} (H : MR k h A) (W : WOK 9999 N A) (h27 : A 193 27 = 9999) {O : Int → List CL} (hO : OM A O) {d : Nat} (hd : d ≤ 60) (hw : w = 0 ∨ (10 ≤ w ∧ w ≤ 14) ∨ (20 ≤ w ∧ w < 20 + 5 * A 193 0)) : ∃ h' A', m_on h d w = some (ansOn A O d w, h') ∧ MR k h' A' ∧ ∀ c j, ¬ scC c j → A' c j = A c j := by
  obtain ⟨h1, e1, H1⟩ := M_save H
  have WS := saveA_WOK W
  have OS := saveA_OM hO
  have n0 := W.1
  have y0 := W.2.1
  obtain ⟨h2, e2, H2⟩ := M_years H1 WS hd (by omega) (by rw [saveA_27, saveA_off (by unfold scC; omega) (by omega)]; omega) OS
  obtain ⟨i1, i2, i3, i4⟩ := yearsA_WOK d (saveA A) 9999 WS OS
  have bk := back_ok (A := A) (B := yearsA (saveA A) O d) h27 (fun c j q => yearsA_in q d (saveA A) 9999 WS OS)
  rw [← (saveA_agr (A := A)).ansE]
  unfold m_on ansOn m_isYears
  rcases hw with rfl | hw | hw
  · obtain ⟨h3, e3, H3⟩ := M_bset H2 (i1.wo (by omega)) (by omega) i2
    obtain ⟨h4, e4, H4⟩ := M_back H3
    refine ⟨h4, _, ?_, H4, bk⟩
    rw [if_pos (by decide), if_neg (by rw [m_in0 (by omega)]; decide), e1, Option.bind_some, e2, Option.bind_some]
    simp (disch := omega) only [reduceIte, ltT, ltF, eqT, eqF, leT, leF, wwP, ckP, ckzP, ckbP, u2S, u2N, u2T, ↓Option.bind_some, inB_T, inB_F, Bool.false_eq_true, m_in0, m_in1, e3, e4]
  · obtain ⟨h4, e4, H4⟩ := M_back H2
    refine ⟨h4, _, ?_, H4, bk⟩
    rw [if_neg (by rw [wwP (by omega)]; omega), if_neg (by rw [m_in0 (by omega)]; decide), if_neg (by rw [m_in0 (by omega)]; decide), e1, Option.bind_some, e2, Option.bind_some]
    simp (disch := omega) only [reduceIte, ltT, ltF, eqT, eqF, leT, leF, wwP, ckP, ckzP, ckbP, u2S, u2N, u2T, ↓Option.bind_some, inB_T, inB_F, Bool.false_eq_true, m_in0, m_in1, e4, H2.r198]
  · obtain ⟨h4, e4, H4⟩ := M_back H2
    refine ⟨h4, _, ?_, H4, bk⟩
    rw [if_neg (by rw [wwP (by omega)]; omega), if_pos (by rw [m_in1 (by omega)]), if_neg (by rw [H.s0, m_in0 (by omega)]; decide), if_neg (by rw [m_in0 (by omega)]; decide), e1, Option.bind_some, e2, Option.bind_some]
    simp (disch := omega) only [reduceIte, ltT, ltF, eqT, eqF, leT, leF, wwP, ckP, ckzP, ckbP, u2S, u2N, u2T, ↓Option.bind_some, inB_T, inB_F, Bool.false_eq_true, m_in0, m_in1, e4, H2.r196]
theorem X_onK {S : SS} {h A : HH} {N w : Int} (C : XC S h 1 A) (W : WOK 9999 N A) {O : Int → List CL} (hO : OM A O) (hX : OX h A O) {d : Nat} (hd : d ≤ 60) (hw : w = 0 ∨ (10 ≤ w ∧ w ≤ 14) ∨ (20 ≤ w ∧ w < 20 + 5 * A 193 0)) : ∃ h', x_on S h d w = some (ansOn A O d w, h') ∧ ∀ c j, ¬ (99 ≤ c ∧ c ≤ 147) → h' c j = h c j := by
  obtain ⟨h1, e1, C1, f1⟩ := X_goFrom (S := S) (h := h) (a := 99) (b := 1) (.inl ⟨rfl, rfl⟩) C
  have n0 := W.1
  have n1 : h 1 4 = A 193 0 := C.1.2.2
  obtain ⟨h2, e2, C2, f2⟩ := X_years (S := S) (h := h1) (w := 99) (.inr (.inr rfl)) C1 W hd (by omega) hO (fun z => (hX z).cg (fun a b _ _ => f1 a b (by have := hO.2.1; omega)))
  obtain ⟨i1, i2, i3, i4⟩ := yearsA_WOK d A 9999 W hO
  have f3 : ∀ c j, ¬ (99 ≤ c ∧ c ≤ 147) → h2 c j = h c j := fun c j q => by rw [f2 c j (by omega), f1 c j (by omega)]
  have yT := ww_yearT (a := (d : Int)) (by omega)
  unfold x_on ansOn
  rcases hw with rfl | hw | hw
  · obtain ⟨h3, e3, f4⟩ := X_bset (S := S) (h := h2) (w := 99) (.inr (.inr rfl)) C2 (i1.wo (by omega)) (by omega) i2 (fun z => by
      have b10 : yearsA A O d 193 10 = A 193 10 := yearsA_in (by unfold coreI; omega) d A 9999 W hO
      rw [b10] at z ⊢
      exact (hX z).cg (fun a b _ _ => f3 a b (by have := hO.2.1; omega)))
    refine ⟨h3, ?_, fun c j q => by rw [f4 c j (by omega), f3 c j q]⟩
    simp (disch := omega) only [reduceIte, ltT, ltF, eqT, eqF, leT, leF, wwP, ckP, ckzP, ckbP, u2S, u2N, u2T, ↓Option.bind_some, inB_T, inB_F, Bool.false_eq_true, m_in0, m_in1, zdivP, yT, e1, e2, e3]
  · have g : h2 116 (w - 10) = yearsA A O d 198 (w - 10) := C2.2.2.2.2.2.2.2.2.1 (w - 10) (by omega) (by omega)
    refine ⟨h2, ?_, f3⟩
    have q1 : w / 10 = 1 := by omega
    have q2 : w % 10 = w - 10 := by omega
    simp (disch := omega) only [reduceIte, ltT, ltF, eqT, eqF, leT, leF, wwP, ckP, ckzP, ckbP, u2S, u2N, u2T, ↓Option.bind_some, inB_T, inB_F, Bool.false_eq_true, m_in0, m_in1, zdivP, zremP, q1, q2, ww_treeT, yT, e1, e2, g]
  · have g : h2 (103 + (w - 20) / 5) ((w - 20) % 5) = yearsA A O d 196 (5 * ((w - 20) / 5) + (w - 20) % 5) := C2.2.2.2.2.2.2.1 ((w - 20) / 5) ((w - 20) % 5) (by omega) (by rw [i3]; omega) (by omega) (by omega)
    rw [show 5 * ((w - 20) / 5) + (w - 20) % 5 = w - 20 by omega] at g
    refine ⟨h2, ?_, f3⟩
    simp (disch := omega) only [reduceIte, ltT, ltF, eqT, eqF, leT, leF, wwP, ckP, ckzP, ckbP, u2S, u2N, u2T, ↓Option.bind_some, inB_T, inB_F, Bool.false_eq_true, m_in0, m_in1, zdivP, zremP, ww_treeT, ww_hasT, yT, e1, e2, g]
