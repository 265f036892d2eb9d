/-- one row of the plan -/
def planA (A : HH) (O : Int → List CL) (w n : Int) : HH := if w = 0 then yearA A O else if w = 1 then maskW A n 1 else if w = 2 then maskW A n 0 else leads A (n / 10) (if n % 10 = 9 then -1 else n % 10)
def okP (A : HH) (w n : Int) : Prop := (0 ≤ w ∧ w ≤ 3) ∧ (w = 1 ∨ w = 2 → 0 ≤ n ∧ n < A 193 0) ∧ (w = 3 → (0 ≤ n ∧ n ≤ 100) ∧ n / 10 < 5 ∧ (n % 10 = 9 ∨ n % 10 < A 193 0))
theorem M_plan1 {k h A : HH} {Y N w n : Int} (H : MR k h A) (W : WOK Y N A) (hY : Y ≤ 19998) (cap : A 193 2 + 1 ≤ A 193 27 ∧ A 193 27 ≤ 2147483647) {O : Int → List CL} (hO : OM A O) (p : okP A w n) : ∃ h', m_goPlan h w n = some h' ∧ MR k h' (planA A O w n) := by
  obtain ⟨p1, p2, p3⟩ := p
  have n0 := W.1
  unfold m_goPlan planA
  have : w = 0 ∨ w = 1 ∨ w = 2 ∨ w = 3 := by omega
  rcases this with rfl | rfl | rfl | rfl
  · obtain ⟨h1, e1, H1⟩ := M_year H W hY cap hO
    rw [e1, Option.bind_some]
    simp (disch := omega) only [reduceIte, ltT, ltF, eqT, eqF, leT, leF, wwP, ckP, ckzP, ckbP, u2S, u2N, u2T, ↓Option.bind_some, inB_T, inB_F, Bool.false_eq_true, m_in0, m_in1]
    exact ⟨h1, rfl, H1⟩
  · obtain ⟨h1, e1, H1⟩ := M_goes H (a := n) (b := 1) (.inr rfl)
    rw [e1, Option.bind_some]
    simp (disch := omega) only [reduceIte, ltT, ltF, eqT, eqF, leT, leF, wwP, ckP, ckzP, ckbP, u2S, u2N, u2T, ↓Option.bind_some, inB_T, inB_F, Bool.false_eq_true, m_in0, m_in1]
    exact ⟨h1, rfl, H1⟩
  · obtain ⟨h1, e1, H1⟩ := M_goes H (a := n) (b := 0) (.inl rfl)
    rw [e1, Option.bind_some]
    simp (disch := omega) only [reduceIte, ltT, ltF, eqT, eqF, leT, leF, wwP, ckP, ckzP, ckbP, u2S, u2N, u2T, ↓Option.bind_some, inB_T, inB_F, Bool.false_eq_true, m_in0, m_in1]
    exact ⟨h1, rfl, H1⟩
  · obtain ⟨q0, q1, q2⟩ := p3 rfl
    by_cases c : n % 10 = 9
    · obtain ⟨h1, e1, H1⟩ := M_leads H (t := n / 10) (p := -1) (by omega) (by omega) (lead_b W)
      simp (disch := omega) only [reduceIte, ltT, ltF, eqT, eqF, leT, leF, wwP, ckP, ckzP, ckbP, u2S, u2N, u2T, ↓Option.bind_some, inB_T, inB_F, Bool.false_eq_true, m_in0, m_in1, zdivP, zremP, c, e1]
      exact ⟨h1, rfl, H1⟩
    · obtain ⟨h1, e1, H1⟩ := M_leads H (t := n / 10) (p := n % 10) (by omega) (by omega) (lead_b W)
      simp (disch := omega) only [reduceIte, ltT, ltF, eqT, eqF, leT, leF, wwP, ckP, ckzP, ckbP, u2S, u2N, u2T, ↓Option.bind_some, inB_T, inB_F, Bool.false_eq_true, m_in0, m_in1, zdivP, zremP, c, e1]
      exact ⟨h1, rfl, H1⟩
theorem X_plan1 {S : SS} {h A : HH} {Y N w n : Int} (C : XC S h 99 A) (W : WOK Y N A) (hY : Y ≤ 19990) {O : Int → List CL} (hO : OM A O) (hX : OX h A O) (p : okP A w n) (n' : Int) (hn : w ≠ 0 → n' = n) : ∃ h', xw_goPlanned S h 99 w n' = some h' ∧ XC S h' 99 (planA A O w n) ∧ ∀ c j, ¬ (99 ≤ c ∧ c ≤ 147) → h' c j = h c j := by
  obtain ⟨p1, p2, p3⟩ := p
  have n0 := W.1
  unfold xw_goPlanned planA
  have : w = 0 ∨ w = 1 ∨ w = 2 ∨ w = 3 := by omega
  rcases this with rfl | rfl | rfl | rfl
  · obtain ⟨h1, e1, C1, f1⟩ := X_years (S := S) (h := h) (w := 99) (.inr (.inr rfl)) C W (d := 1) (by decide) (by omega) hO hX
    have e1 : xw_goYears S h 99 1 = some h1 := e1
    simp (disch := omega) only [reduceIte, ltT, ltF, eqT, eqF, leT, leF, wwP, ckP, ckzP, ckbP, u2S, u2N, u2T, ↓Option.bind_some, inB_T, inB_F, Bool.false_eq_true, m_in0, m_in1, e1]
    exact ⟨h1, rfl, C1, fun c j q => f1 c j (by omega)⟩
  · obtain rfl := hn (by decide)
    have q := p2 (.inl rfl)
    simp (disch := omega) only [reduceIte, ltT, ltF, eqT, eqF, leT, leF, wwP, ckP, ckzP, ckbP, u2S, u2N, u2T, ↓Option.bind_some, inB_T, inB_F, Bool.false_eq_true, m_in0, m_in1]
    exact ⟨_, rfl, C.mask (by omega) W.2.2.1 (by omega) (.inr rfl), fun c j q => u2N (by omega)⟩
  · obtain rfl := hn (by decide)
    have q := p2 (.inr rfl)
    simp (disch := omega) only [reduceIte, ltT, ltF, eqT, eqF, leT, leF, wwP, ckP, ckzP, ckbP, u2S, u2N, u2T, ↓Option.bind_some, inB_T, inB_F, Bool.false_eq_true, m_in0, m_in1]
    exact ⟨_, rfl, C.mask (by omega) W.2.2.1 (by omega) (.inl rfl), fun c j q => u2N (by omega)⟩
  · obtain rfl := hn (by decide)
    obtain ⟨q0, q1, q2⟩ := p3 rfl
    by_cases c : n' % 10 = 9
    · obtain ⟨h1, e1, C1, f1⟩ := X_give (S := S) (h := h) (w := 99) (by omega) C (t := n' / 10) (p := -5) (by omega) (.inl rfl) (lead_b W) W.2.2.2.2.2.2.2.2.2.2
      rw [leads_neg (q := -1) (by omega) (by omega)] at C1
      simp (disch := omega) only [reduceIte, ltT, ltF, eqT, eqF, leT, leF, wwP, ckP, ckzP, ckbP, u2S, u2N, u2T, ↓Option.bind_some, inB_T, inB_F, Bool.false_eq_true, m_in0, m_in1, zdivP, zremP, c, e1]
      exact ⟨h1, rfl, C1, fun c j q => f1 c j (by omega)⟩
    · obtain ⟨h1, e1, C1, f1⟩ := X_give (S := S) (h := h) (w := 99) (by omega) C (t := n' / 10) (p := n' % 10) (by omega) (.inr (by omega)) (lead_b W) W.2.2.2.2.2.2.2.2.2.2
      simp (disch := omega) only [reduceIte, ltT, ltF, eqT, eqF, leT, leF, wwP, ckP, ckzP, ckbP, u2S, u2N, u2T, ↓Option.bind_some, inB_T, inB_F, Bool.false_eq_true, m_in0, m_in1, zdivP, zremP, c, e1]
      exact ⟨h1, rfl, C1, fun c j q => f1 c j (by omega)⟩
theorem planA_in {A : HH} {O : Int → List CL} {Y N w n : Int} (W : WOK Y N A) (p : okP A w n) {c j : Int} (h : ¬ coreI c j) : planA A O w n c j = A c j := by
  obtain ⟨p1, p2, p3⟩ := p
  have h' := h
  unfold coreI at h'
  unfold planA
  by_cases c0 : w = 0
  · rw [if_pos c0]; exact yearA_in W h
  rw [if_neg c0]
  by_cases c1 : w = 1
  · rw [if_pos c1]; unfold maskW; exact u2N (by omega)
  rw [if_neg c1]
  by_cases c2 : w = 2
  · rw [if_pos c2]; unfold maskW; exact u2N (by omega)
  rw [if_neg c2]
  have q := p3 (by omega)
  exact leads_off (by omega) (by omega)
theorem planA_WOK {A : HH} {O : Int → List CL} {Y N w n : Int} (W : WOK Y N A) (hO : OM A O) (p : okP A w n) : WOK (Y + 1) N (planA A O w n) ∧ planA A O w n 193 2 ≤ A 193 2 + 1 := by
  obtain ⟨p1, p2, p3⟩ := p
  have n0 := W.1
  have y0 := W.2.1
  have W' := W.yr (Z := Y + 1) (by omega)
  unfold planA
  by_cases c0 : w = 0
  · rw [if_pos c0]; exact ⟨yearA_WOK W hO, by rw [yearA_off.1.2.2.1]; omega⟩
  rw [if_neg c0]
  by_cases c1 : w = 1
  · rw [if_pos c1]
    have := p2 (.inl c1)
    exact ⟨W'.mask (by omega), by unfold maskW; simp (disch := omega) only [u2S, u2N, u2T]; omega⟩
  rw [if_neg c1]
  by_cases c2 : w = 2
  · rw [if_pos c2]
    have := p2 (.inr c2)
    exact ⟨W'.mask (by omega), by unfold maskW; simp (disch := omega) only [u2S, u2N, u2T]; omega⟩
  rw [if_neg c2]
  have q := p3 (by omega)
  refine ⟨W'.ldr (by omega) ?_, by rw [leads_off (by omega) (by omega)]; omega⟩
  by_cases c : n % 10 = 9
  · rw [if_pos c]; exact .inl (by omega)
  · rw [if_neg c]; exact .inr (by omega)
theorem planA_OM {A : HH} {O : Int → List CL} {Y N w n : Int} (W : WOK Y N A) (hO : OM A O) (p : okP A w n) : OM (planA A O w n) O := hO.cg (planA_in W p (by unfold coreI; omega)) (fun c j q => planA_in W p (by unfold coreI; unfold orchC at q; omega))
theorem agr.mask {A B : HH} (H : agr A B) {a b : Int} : agr (maskW A a b) (maskW B a b) := fun c j x y => by
  unfold maskW
  rw [H 193 1 (by unfold scC; omega) (by omega)]
  unfold u2
  rw [H c j x y]
theorem agr.ldE {A B : HH} (H : agr A B) {t p : Int} : agr (leads A t p) (leads B t p) := fun c j x y => by
  have h := H c j x y
  have h2 := H 199 j (by unfold scC; omega) (by omega)
  unfold leads u2
  rw [leadsP_at, leadsP_at, h, h2]
theorem agr.plan {A B : HH} (H : agr A B) {O : Int → List CL} {w n : Int} : agr (planA A O w n) (planA B O w n) := by
  unfold planA
  by_cases c0 : w = 0
  · rw [if_pos c0, if_pos c0]; exact H.year
  rw [if_neg c0, if_neg c0]
  by_cases c1 : w = 1
  · rw [if_pos c1, if_pos c1]; exact H.mask
  rw [if_neg c1, if_neg c1]
  by_cases c2 : w = 2
  · rw [if_pos c2, if_pos c2]; exact H.mask
  rw [if_neg c2, if_neg c2]
  exact H.ldE
def runP (P : HH) (O : Int → List CL) : Nat → Int → HH → HH
  | 0, _, A => A
  | d + 1, i, A => runP P O d (i + 1) (planA A O (P 220 i) (P 221 i))
theorem agr.runE {P : HH} {O : Int → List CL} : ∀ (d : Nat) (i : Int) (A B : HH), agr A B → agr (runP P O d i A) (runP P O d i B)
  | 0, _, _, _, H => H
  | d + 1, i, _, _, H => agr.runE d (i + 1) _ _ H.plan
