def sumR (A : HH) (c : Int) : Nat → Int
  | 0 => 0
  | n + 1 => sumR A c n + A c n
theorem sumR_cg {A B : HH} {c : Int} (h : ∀ j, A c j = B c j) : ∀ n : Nat, sumR A c n = sumR B c n
  | 0 => rfl
  | n + 1 => by rw [sumR, sumR, sumR_cg h n, h]
theorem M_allBore {k h A : HH} (H : MR k h A) : m_allBore h = some (sumR A 198 5) := by
  unfold m_allBore
  suffices K : ∀ (d n j : Nat), j + d = 5 → d < n → m_allBore_L4 h n (sumR A 198 j) j = some (sumR A 198 5) from K 5 FU 0 rfl (by decide)
  intro d
  induction d with
  | zero =>
    intro n j e hn
    obtain ⟨n, rfl⟩ : ∃ m, n = m + 1 := ⟨n - 1, by omega⟩
    rw [m_allBore_L4, show j = 5 by omega]
    simp (disch := omega) only [reduceIte, ltT, ltF, eqT, eqF, leT, leF, wwP, ckP, ckzP, ckbP, u2S, u2N, u2T, ↓Option.bind_some, inB_T, inB_F, Bool.false_eq_true, m_in0, m_in1]
  | succ d ih =>
    intro n j e hn
    obtain ⟨n, rfl⟩ : ∃ m, n = m + 1 := ⟨n - 1, by omega⟩
    rw [m_allBore_L4]
    have i := ih n (j + 1) (by omega) (by omega)
    rw [sumR, show ((j + 1 : Nat) : Int) = (j : Int) + 1 from rfl] at i
    simp (disch := omega) only [reduceIte, ltT, ltF, eqT, eqF, leT, leF, wwP, ckP, ckzP, ckbP, u2S, u2N, u2T, ↓Option.bind_some, inB_T, inB_F, Bool.false_eq_true, m_in0, m_in1, H.r198]
    exact i
theorem M_allHate {k h A : HH} (H : MR k h A) {m : Nat} (hm : A 193 0 = m) (m6 : m ≤ 6) : m_allHate h = some (sumR A 196 (5 * m)) := by
  unfold m_allHate
  suffices K : ∀ (d n j : Nat), j + d = 5 * m → d < n → m_allHate_L4 h n (sumR A 196 j) j = some (sumR A 196 (5 * m)) from K (5 * m) FU 0 (by omega) (by unfold FU; omega)
  intro d
  induction d with
  | zero =>
    intro n j e hn
    obtain ⟨n, rfl⟩ : ∃ m, n = m + 1 := ⟨n - 1, by omega⟩
    rw [m_allHate_L4, show j = 5 * m by omega]
    simp (disch := omega) only [reduceIte, ltT, ltF, eqT, eqF, leT, leF, wwP, ckP, ckzP, ckbP, u2S, u2N, u2T, ↓Option.bind_some, inB_T, inB_F, Bool.false_eq_true, m_in0, m_in1, H.s0]
  | succ d ih =>
    intro n j e hn
    obtain ⟨n, rfl⟩ : ∃ m, n = m + 1 := ⟨n - 1, by omega⟩
    rw [m_allHate_L4]
    have i := ih n (j + 1) (by omega) (by omega)
    rw [sumR, show ((j + 1 : Nat) : Int) = (j : Int) + 1 from rfl] at i
    simp (disch := omega) only [reduceIte, ltT, ltF, eqT, eqF, leT, leF, wwP, ckP, ckzP, ckbP, u2S, u2N, u2T, ↓Option.bind_some, inB_T, inB_F, Bool.false_eq_true, m_in0, m_in1, H.s0, H.r196]
    exact i
theorem X_allBore {S : SS} {h A : HH} {w : Int} (C : XC S h w A) : xw_allBore h w = some (sumR A 198 5) := by
  unfold xw_allBore
  suffices K : ∀ (d n j : Nat), j + d = 5 → d < n → xw_allBore_L4 h w n (sumR A 198 j) j = some (sumR A 198 5) from K 5 FU 0 rfl (by decide)
  intro d
  induction d with
  | zero =>
    intro n j e hn
    obtain ⟨n, rfl⟩ : ∃ m, n = m + 1 := ⟨n - 1, by omega⟩
    rw [xw_allBore_L4, show j = 5 by omega]
    simp (disch := omega) only [reduceIte, ltT, ltF, eqT, eqF, leT, leF, wwP, ckP, ckzP, ckbP, u2S, u2N, u2T, ↓Option.bind_some, inB_T, inB_F, Bool.false_eq_true, m_in0, m_in1]
  | succ d ih =>
    intro n j e hn
    obtain ⟨n, rfl⟩ : ∃ m, n = m + 1 := ⟨n - 1, by omega⟩
    rw [xw_allBore_L4]
    have i := ih n (j + 1) (by omega) (by omega)
    rw [sumR, show ((j + 1 : Nat) : Int) = (j : Int) + 1 from rfl] at i
    have g := C.2.2.2.2.2.2.2.2.1 j (by omega) (by omega)
    simp (disch := omega) only [reduceIte, ltT, ltF, eqT, eqF, leT, leF, wwP, ckP, ckzP, ckbP, u2S, u2N, u2T, ↓Option.bind_some, inB_T, inB_F, Bool.false_eq_true, m_in0, m_in1, g]
    exact i
theorem X_allHate {S : SS} {h A : HH} {w : Int} (C : XC S h w A) {m : Nat} (hm : A 193 0 = m) (m6 : m ≤ 6) : xw_allHate h w = some (sumR A 196 (5 * m)) := by
  unfold xw_allHate
  have n1 := C.1.2.2
  have inner : ∀ (p : Nat) (kk : Int → Option Int), p < m → ∀ (d n j : Nat), j + d = 5 → d < n → xw_allHate_L14 h w p kk n (sumR A 196 (5 * p + j)) j = kk (sumR A 196 (5 * (p + 1))) := by
    intro p kk hp d
    induction d with
    | zero =>
      intro n j e hn
      obtain ⟨n, rfl⟩ : ∃ m, n = m + 1 := ⟨n - 1, by omega⟩
      rw [xw_allHate_L14, show j = 5 by omega]
      simp (disch := omega) only [reduceIte, ltT, ltF, eqT, eqF, leT, leF, wwP, ckP, ckzP, ckbP, u2S, u2N, u2T, ↓Option.bind_some, inB_T, inB_F, Bool.false_eq_true, m_in0, m_in1]
      rfl
    | succ d ih =>
      intro n j e hn
      obtain ⟨n, rfl⟩ : ∃ m, n = m + 1 := ⟨n - 1, by omega⟩
      rw [xw_allHate_L14]
      have i := ih n (j + 1) (by omega) (by omega)
      rw [show 5 * p + (j + 1) = (5 * p + j) + 1 from rfl, sumR, show ((j + 1 : Nat) : Int) = (j : Int) + 1 from rfl, show ((5 * p + j : Nat) : Int) = 5 * (p : Int) + j by omega] at i
      have g := C.2.2.2.2.2.2.1 p j (by omega) (by omega) (by omega) (by omega)
      simp (disch := omega) only [reduceIte, ltT, ltF, eqT, eqF, leT, leF, wwP, ckP, ckzP, ckbP, u2S, u2N, u2T, ↓Option.bind_some, inB_T, inB_F, Bool.false_eq_true, m_in0, m_in1, g]
      exact i
  suffices K : ∀ (d n p : Nat), p + d = m → d < n → xw_allHate_L4 h w n (sumR A 196 (5 * p)) p = some (sumR A 196 (5 * m)) from K m FU 0 (by omega) (by unfold FU; omega)
  intro d
  induction d with
  | zero =>
    intro n p e hn
    obtain ⟨n, rfl⟩ : ∃ m, n = m + 1 := ⟨n - 1, by omega⟩
    rw [xw_allHate_L4, show p = m by omega]
    simp (disch := omega) only [reduceIte, ltT, ltF, eqT, eqF, leT, leF, wwP, ckP, ckzP, ckbP, u2S, u2N, u2T, ↓Option.bind_some, inB_T, inB_F, Bool.false_eq_true, m_in0, m_in1, n1]
  | succ d ih =>
    intro n p e hn
    obtain ⟨n, rfl⟩ : ∃ m, n = m + 1 := ⟨n - 1, by omega⟩
    rw [xw_allHate_L4, if_pos (by rw [n1, wwP (by omega), wwP (by omega)]; omega)]
    have i := inner p (fun y2 => xw_allHate_L4 h w n y2 ((p : Int) + 1)) (by omega) 5 FU 0 rfl (by decide)
    rw [show 5 * p + 0 = 5 * p from rfl] at i
    exact i.trans (ih n (p + 1) (by omega) (by omega))
def ansE (B : HH) (w : Int) : Int := if w = 0 then sumR B 198 5 else sumR B 196 (5 * (B 193 0).toNat)
theorem okP_of {A B : HH} (L : LOK A) (n : B 193 0 = A 193 0) {i : Int} (hi : 0 ≤ i ∧ i < A 193 43) : okP B (A 220 i) (A 221 i) := by
  have g := L.2.2.2.2.1 i hi.1 hi.2
  unfold okP
  rw [n]
  omega
theorem M_ends_L {k A : HH} {N w : Int} (L : LOK A) (h27 : A 193 27 = 9999) (hw : w = 0 ∨ w = 1) (n0 : 0 ≤ A 193 0 ∧ A 193 0 ≤ 6) {O : Int → List CL} : ∀ (d n : Nat) (h B : HH) (x Y : Int), x + d = A 193 43 → 0 ≤ x → d < n → MR k h B → WOK Y N B → Y + d ≤ 19990 → OM B O → (∀ c j, ¬ coreI c j → B c j = saveA A c j) → ∃ h' A', m_ends_L18 w n h x = some (ansE (runP A O d x B) w, h') ∧ MR k h' A' ∧ ∀ c j, ¬ scC c j → A' c j = A c j := by
  intro d
  induction d with
  | zero =>
    intro n h B x Y e h0 hn H W hY hO hB
    obtain ⟨n, rfl⟩ : ∃ m, n = m + 1 := ⟨n - 1, by omega⟩
    have l0 := L.2.1
    have e43 : B 193 43 = A 193 43 := by rw [hB _ _ (by unfold coreI; omega), saveA_off (by unfold scC; omega) (by omega)]
    have e0 : B 193 0 = A 193 0 := by rw [hB _ _ (by unfold coreI; omega), saveA_off (by unfold scC; omega) (by omega)]
    obtain ⟨h1, e1, H1⟩ := M_back H
    have b1 := M_allBore H
    have b2 := M_allHate H (m := (B 193 0).toNat) (by omega) (by omega)
    rw [m_ends_L18]
    refine ⟨h1, backA B, ?_, H1, back_ok h27 hB⟩
    unfold ansE runP
    rcases hw with rfl | rfl
    · simp (disch := omega) only [reduceIte, ltT, ltF, eqT, eqF, leT, leF, wwP, ckP, ckzP, ckbP, u2S, u2N, u2T, ↓Option.bind_some, inB_T, inB_F, Bool.false_eq_true, m_in0, m_in1, H.s43, e43, b1, e1]
    · simp (disch := omega) only [reduceIte, ltT, ltF, eqT, eqF, leT, leF, wwP, ckP, ckzP, ckbP, u2S, u2N, u2T, ↓Option.bind_some, inB_T, inB_F, Bool.false_eq_true, m_in0, m_in1, H.s43, e43, b2, e1]
  | succ d ih =>
    intro n h B x Y e h0 hn H W hY hO hB
    obtain ⟨n, rfl⟩ : ∃ m, n = m + 1 := ⟨n - 1, by omega⟩
    have l0 := L.2.1
    have sB : ∀ c j, ¬ coreI c j → ¬ scC c j → ¬ (c = 193 ∧ j = 27) → B c j = A c j := fun c j a b c' => by rw [hB c j a, saveA_off b c']
    have e43 : B 193 43 = A 193 43 := sB _ _ (by unfold coreI; omega) (by unfold scC; omega) (by omega)
    have e0 : B 193 0 = A 193 0 := sB _ _ (by unfold coreI; omega) (by unfold scC; omega) (by omega)
    have e1 : B 220 x = A 220 x := sB _ _ (by unfold coreI; omega) (by unfold scC; omega) (by omega)
    have e2 : B 221 x = A 221 x := sB _ _ (by unfold coreI; omega) (by unfold scC; omega) (by omega)
    have e27 : B 193 27 = 2000000000 := by rw [hB _ _ (by unfold coreI; omega), saveA_27]
    have y0 := W.2.1
    have p := okP_of L e0 (i := x) ⟨h0, by omega⟩
    obtain ⟨h1, e3, H1⟩ := M_plan1 H W (by omega) (by omega) hO p
    rw [m_ends_L18]
    simp (disch := omega) only [reduceIte, ltT, ltF, eqT, eqF, leT, leF, wwP, ckP, ckzP, ckbP, u2S, u2N, u2T, ↓Option.bind_some, inB_T, inB_F, Bool.false_eq_true, m_in0, m_in1, H.s43, e43, H.r220, H.r221, e1, e2, e3]
    rw [runP]
    exact ih n h1 _ (x + 1) (Y + 1) (by omega) (by omega) (by omega) H1 (planA_WOK W hO p).1 (by omega) (planA_OM W hO p) (fun c j q => by rw [planA_in W p q]; exact hB c j q)
theorem X_ends_L {S : SS} {A : HH} {N w : Int} (L : LOK A) (hw : w = 0 ∨ w = 1) (n0 : 0 ≤ A 193 0 ∧ A 193 0 ≤ 6) {O : Int → List CL} (h0 : HH) (hX : OX h0 A O) (xl : XL h0 1 A) : ∀ (d n : Nat) (h B : HH) (x Y : Int), x + d = A 193 43 → 0 ≤ x → d < n → XC S h 99 B → WOK Y N B → Y + d ≤ 19990 → OM B O → (∀ c j, ¬ coreI c j → B c j = A c j) → (∀ c j, ¬ (99 ≤ c ∧ c ≤ 147) → h c j = h0 c j) → ∃ h', x_ends_L24 S w n h x = some (ansE (runP A O d x B) w, h') ∧ ∀ c j, ¬ (99 ≤ c ∧ c ≤ 147) → h' c j = h0 c j := by
  intro d
  have l0 := L.2.1
  have xn : h0 27 1 = A 193 43 := xl.2.1.2
  induction d with
  | zero =>
    intro n h B x Y e hx hn C W hY hO hB f
    obtain ⟨n, rfl⟩ : ∃ m, n = m + 1 := ⟨n - 1, by omega⟩
    have e43 : h 27 1 = A 193 43 := by rw [f _ _ (by omega), xn]
    have e0 : B 193 0 = A 193 0 := hB _ _ (by unfold coreI; omega)
    have b1 := X_allBore C
    have b2 := X_allHate C (m := (B 193 0).toNat) (by omega) (by omega)
    rw [x_ends_L24]
    refine ⟨h, ?_, f⟩
    unfold ansE runP
    rcases hw with rfl | rfl
    · simp (disch := omega) only [reduceIte, ltT, ltF, eqT, eqF, leT, leF, wwP, ckP, ckzP, ckbP, u2S, u2N, u2T, ↓Option.bind_some, inB_T, inB_F, Bool.false_eq_true, m_in0, m_in1, e43, b1]
    · simp (disch := omega) only [reduceIte, ltT, ltF, eqT, eqF, leT, leF, wwP, ckP, ckzP, ckbP, u2S, u2N, u2T, ↓Option.bind_some, inB_T, inB_F, Bool.false_eq_true, m_in0, m_in1, e43, b2]
  | succ d ih =>
    intro n h B x Y e hx hn C W hY hO hB f
    obtain ⟨n, rfl⟩ : ∃ m, n = m + 1 := ⟨n - 1, by omega⟩
    have e43 : h 27 1 = A 193 43 := by rw [f _ _ (by omega), xn]
    have e0 : B 193 0 = A 193 0 := hB _ _ (by unfold coreI; omega)
    have e10 : B 193 10 = A 193 10 := hB _ _ (by unfold coreI; omega)
    obtain ⟨r1, r2⟩ := xl.2.2.2.2.1 x hx (by omega)
    have g1 : h (29 + x) 0 = A 220 x := by rw [f _ _ (by omega)]; exact r1
    have g2 : A 220 x ≠ 0 → h (29 + x) 1 = A 221 x := fun z => by rw [f _ _ (by omega)]; exact r2 z
    have p := okP_of L e0 (i := x) ⟨hx, by omega⟩
    obtain ⟨h1, e3, C1, f1⟩ := X_plan1 (S := S) (h := h) C W (by omega) hO (fun z => by rw [e10] at z ⊢; exact (hX z).cg (fun a b _ _ => f a b (by have := hO.2.1; omega))) p (h (29 + x) 1) g2
    rw [x_ends_L24]
    simp (disch := omega) only [reduceIte, ltT, ltF, eqT, eqF, leT, leF, wwP, ckP, ckzP, ckbP, u2S, u2N, u2T, ↓Option.bind_some, inB_T, inB_F, Bool.false_eq_true, m_in0, m_in1, e43, g1, e3]
    rw [runP]
    exact ih n h1 _ (x + 1) (Y + 1) (by omega) (by omega) (by omega) C1 (planA_WOK W hO p).1 (by omega) (planA_OM W hO p) (fun c j q => by rw [planA_in W p q]; exact hB c j q) (fun c j q => by rw [f1 c j q, f c j q])
