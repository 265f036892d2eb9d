theorem X_goAt {S : SS} {h A : HH} {Y N w p t : Int} (hw : w = 1 ∨ w = 50 ∨ w = 99) (C : XC S h w A) (W : WO Y N A) (hY : Y ≤ 20000) (hp : 0 ≤ p ∧ p < A 193 0) (ht : 0 ≤ t ∧ t < 5) {O : Int → List CL} (hO : OM A O) (hX : OX h A O) : ∃ h', xw_goAt S h w t p = some (bearA A O p t, h') ∧ (∀ c j, ¬ ((w ≤ c ∧ c ≤ w + 18) ∨ c = w + 48) → h' c j = h c j) ∧ XC S h' w (if bearA A O p t = 0 then A else u2 (u2 A 198 t (A 198 t + 1)) 196 (5 * p + t) (max0 (A 196 (5 * p + t) - wearA A O))) := by
  obtain ⟨h1, e1, f1⟩ := X_bears hw C W hY hp ht hO hX
  have n0 := W.1
  have C2 : XC S h1 w A := C.cg (fun a b q => f1 a b (by rcases q with q | q; omega; have := isHb_ge q; omega)) (fun _ _ _ => rfl)
  have hX2 : OX h1 A O := fun z => (hX z).cg (fun a b _ _ => f1 a b (by have := hO.2.1; omega))
  unfold xw_goAt
  rw [e1, Option.bind_some]
  rcases @bear_01 A O p t with b | b
  · rw [b, if_pos rfl]
    simp (disch := omega) only [reduceIte, ltT, ltF, eqT, eqF, leT, leF, wwP, ckP, ckzP, ckbP, u2S, u2N, u2T, ↓Option.bind_some, inB_T, inB_F, Bool.false_eq_true, m_in0, m_in1]
    exact ⟨h1, rfl, fun c j q => f1 c j (by omega), C2⟩
  · rw [b, if_neg (by decide : ¬ (1 : Int) = 0)]
    have g9 := C2.2.2.2.2.2.2.2.2.1 t ht.1 ht.2
    have g7 := C2.2.2.2.2.2.2.1 p t hp.1 hp.2 ht.1 ht.2
    have hh := W.2.2.2.2.2.2.1 p t hp.1 hp.2 ht.1 ht.2
    have wb := wear_b hO
    have C3 := C2.bore (x := A 198 t + 1) (by omega) ht
    have wr := X_wear C3 (O := O) (by rw [u2N (by omega)]; exact ⟨hO.1, hO.2.1⟩) (fun z => by
      rw [u2N (by omega)] at z ⊢
      exact (hX2 z).cg (fun a b _ _ => u2N (by have := hO.2.1; omega)))
    rw [wearA_cg (A := A) (u2N (by omega))] at wr
    have zm : zmax 0 (A 196 (5 * p + t) - wearA A O) = max0 (A 196 (5 * p + t) - wearA A O) := by
      rw [zmaxP (by omega)]
      unfold max0
      repeat' split
      all_goals omega
    simp (disch := omega) only [reduceIte, ltT, ltF, eqT, eqF, leT, leF, wwP, ckP, ckzP, ckbP, u2S, u2N, u2T, ↓Option.bind_some, inB_T, inB_F, Bool.false_eq_true, m_in0, m_in1, g9, g7, wr, zm]
    refine ⟨_, rfl, fun c j q => by (try simp (disch := omega) only [u2S, u2N, u2T]); exact f1 c j (by omega), C3.hate (by omega) (by omega) ht⟩
theorem X_year_L {S : SS} {A : HH} {Y N w : Int} (hw : w = 1 ∨ w = 50 ∨ w = 99) (W : WOK Y N A) (hY : Y ≤ 19998) {O : Int → List CL} (hO : OM A O) (x1 x2 : Int) (kk : HH → Option HH) (r : HH → Prop) (h0 : HH) (hX0 : OX h0 A O) (hk : ∀ h, XC S h w (yearP A O 5) → (∀ c j, ¬ ((w ≤ c ∧ c ≤ w + 18) ∨ c = w + 48) → h c j = h0 c j) → ∃ q, kk h = some q ∧ r q) : ∀ (d n : Nat) (h : HH) (x : Int), x + d = 5 → 0 ≤ x → d < n → XC S h w (yearP A O x) → (∀ c j, ¬ ((w ≤ c ∧ c ≤ w + 18) ∨ c = w + 48) → h c j = h0 c j) → ∃ q, xw_goYears_L9 S w x1 x2 kk n h x = some q ∧ r q := by
  intro d
  induction d with
  | zero =>
    intro n h x e hx hn C f
    obtain ⟨n, rfl⟩ : ∃ m, n = m + 1 := ⟨n - 1, by omega⟩
    have e : x = 5 := by omega
    subst e
    rw [xw_goYears_L9]
    simp (disch := omega) only [reduceIte, ltT, ltF, eqT, eqF, leT, leF, wwP, ckP, ckzP, ckbP, u2S, u2N, u2T, ↓Option.bind_some, inB_T, inB_F, Bool.false_eq_true, m_in0, m_in1]
    exact hk h C f
  | succ d ih =>
    intro n h x e hx hn C f
    obtain ⟨n, rfl⟩ : ∃ m, n = m + 1 := ⟨n - 1, by omega⟩
    rw [xw_goYears_L9]
    obtain ⟨⟨y0, y1, y2, y3, y4⟩, y5, y6, y7, y8⟩ := @yearP_off A O x
    have n0 := W.1
    have n1 := C.1.2.2
    rw [y0] at n1
    have l := W.2.2.2.2.2.2.2.2.2.1 x hx (by omega)
    have g10 := C.2.2.2.2.2.2.2.2.2 x hx (by omega)
    rw [y8] at g10
    have ii := fun h' => ih n h' (x + 1) (by omega) (by omega) (by omega)
    by_cases c : A 199 x < 0
    · have b : bt A O x = 0 := by unfold bt; rw [if_pos c]
      simp (disch := omega) only [reduceIte, ltT, ltF, eqT, eqF, leT, leF, wwP, ckP, ckzP, ckbP, u2S, u2N, u2T, ↓Option.bind_some, inB_T, inB_F, Bool.false_eq_true, m_in0, m_in1, ww_hasT, ww_hasF, g10]
      exact ii h (C.cg (fun _ _ _ => rfl) (fun c i _ => yearP_skip ⟨hx, by omega⟩ b c i)) f
    · have hX : OX h (yearP A O x) O := fun z => by
        rw [y3] at z ⊢
        exact (hX0 z).cg (fun a b _ _ => f a b (by have := hO.2.1; omega))
      obtain ⟨h1, e3, f1, C1⟩ := X_goAt (S := S) (h := h) (A := yearP A O x) hw C (yearP_WO W hY hO) (by omega) (p := A 199 x) (t := x) (by rw [y0]; omega) (by omega) (yearP_OM hO) hX
      have eb : bearA (yearP A O x) O (A 199 x) x = bt A O x := by
        rw [bearA_cg (A := A) y1 y3 y2 (y5 _) (y6 _) (yearP_h (Int.le_refl _) ⟨hx, by omega⟩) y7]
        unfold bt
        rw [if_neg c]
      rw [eb] at e3 C1
      rw [wearA_cg (A := A) y3, yearP_h (Int.le_refl _) ⟨hx, by omega⟩, yearP_b (Int.le_refl _)] at C1
      have f2 : ∀ c j, ¬ ((w ≤ c ∧ c ≤ w + 18) ∨ c = w + 48) → h1 c j = h0 c j := fun c j q => by rw [f1 c j q, f c j q]
      have C2 : XC S h1 w (yearP A O (x + 1)) := by
        rcases @bt_01 A O x with b | b
        · rw [if_pos b] at C1
          exact C1.cg (fun _ _ _ => rfl) (fun c i _ => yearP_skip ⟨hx, by omega⟩ b c i)
        · rw [if_neg (by omega)] at C1
          exact C1.cg (fun _ _ _ => rfl) (fun c i _ => yearP_step ⟨hx, by omega⟩ b rfl (by omega) c i)
      simp (disch := omega) only [reduceIte, ltT, ltF, eqT, eqF, leT, leF, wwP, ckP, ckzP, ckbP, u2S, u2N, u2T, ↓Option.bind_some, inB_T, inB_F, Bool.false_eq_true, m_in0, m_in1, ww_hasT, ww_hasF, g10, e3]
      exact ii h1 C2 f2
theorem yearA_at {A : HH} {O : Int → List CL} {c j : Int} (h : ¬ (c = 193 ∧ j = 2)) : yearA A O c j = yearP A O 5 c j := u2N (by omega)
theorem yearA_off {A : HH} {O : Int → List CL} : (yearA A O 193 0 = A 193 0 ∧ yearA A O 193 1 = A 193 1 ∧ yearA A O 193 2 = A 193 2 + 1 ∧ yearA A O 193 10 = A 193 10 ∧ yearA A O 193 27 = A 193 27) ∧ (∀ j, yearA A O 194 j = A 194 j) ∧ (∀ j, yearA A O 195 j = A 195 j) ∧ (∀ j, yearA A O 197 j = A 197 j) ∧ (∀ j, yearA A O 199 j = A 199 j) := by
  obtain ⟨⟨y0, y1, y2, y3, y4⟩, y5, y6, y7, y8⟩ := @yearP_off A O 5
  refine ⟨⟨?_, ?_, ?_, ?_, ?_⟩, ?_, ?_, ?_, ?_⟩
  · rw [yearA_at (by omega)]; exact y0
  · rw [yearA_at (by omega)]; exact y1
  · exact u2S
  · rw [yearA_at (by omega)]; exact y3
  · rw [yearA_at (by omega)]; exact y4
  · intro j; rw [yearA_at (by omega)]; exact y5 j
  · intro j; rw [yearA_at (by omega)]; exact y6 j
  · intro j; rw [yearA_at (by omega)]; exact y7 j
  · intro j; rw [yearA_at (by omega)]; exact y8 j
theorem yearA_WOK {A : HH} {O : Int → List CL} {Y N : Int} (W : WOK Y N A) (hO : OM A O) : WOK (Y + 1) N (yearA A O) := by
  obtain ⟨h1, h2, h3, h4, h5, h6, h7, h8, h9, h10, h11⟩ := W
  obtain ⟨⟨e0, e1, e2, e3, e4⟩, e5, e6, e7, e8⟩ := @yearA_off A O
  have wb := wear_b hO
  unfold WOK
  rw [e0, e1, e2, e3]
  simp only [e5, e6, e7, e8]
  refine ⟨h1, by omega, h3, h4, h5, h6, fun p t a b c d => ?_, h8, fun t a b => ?_, h10, h11⟩
  · have := h7 p t a b c d
    rw [yearA_at (by omega), yearP_at, if_neg (by omega)]
    unfold max0
    repeat' split
    all_goals omega
  · have := h9 t a b
    have b1 := @bt_01 A O t
    rw [yearA_at (by omega), yearP_at]
    split
    · omega
    · rw [if_neg (by omega)]; omega
theorem yearA_OM {A : HH} {O : Int → List CL} (hO : OM A O) : OM (yearA A O) O := hO.cg (by rw [yearA_at (by omega)]; exact yearP_N (by decide)) (fun c j q => by rw [yearA_at (by unfold orchC at q; omega)]; exact yearP_N (by unfold orchC at q; omega))
def yearsA (A : HH) (O : Int → List CL) : Nat → HH
  | 0 => A
  | n + 1 => yearsA (yearA A O) O n
theorem M_years_L {k : HH} {N m : Int} (hm : 0 ≤ m ∧ m ≤ 60) {O : Int → List CL} : ∀ (d n : Nat) (h A : HH) (x Y : Int), x + d = m → 0 ≤ x → d < n → MR k h A → WOK Y N A → Y + d ≤ 19998 → (A 193 2 + d ≤ A 193 27 ∧ A 193 27 ≤ 2147483647) → OM A O → ∃ h', m_goYears_L2 m n h x = some h' ∧ MR k h' (yearsA A O d) := by
  intro d
  induction d with
  | zero =>
    intro n h A x Y e h0 hn H W hY cap hO
    obtain ⟨n, rfl⟩ : ∃ m, n = m + 1 := ⟨n - 1, by omega⟩
    rw [m_goYears_L2]
    simp (disch := omega) only [reduceIte, ltT, ltF, eqT, eqF, leT, leF, wwP, ckP, ckzP, ckbP, u2S, u2N, u2T, ↓Option.bind_some, inB_T, inB_F, Bool.false_eq_true, m_in0, m_in1]
    exact ⟨h, rfl, H⟩
  | succ d ih =>
    intro n h A x Y e h0 hn H W hY cap hO
    obtain ⟨n, rfl⟩ : ∃ m, n = m + 1 := ⟨n - 1, by omega⟩
    rw [m_goYears_L2]
    obtain ⟨h1, e1, H1⟩ := M_year H W (by omega) (by omega) hO
    obtain ⟨⟨y0, y1, y2, y3, y4⟩, -⟩ := @yearA_off A O
    simp (disch := omega) only [reduceIte, ltT, ltF, eqT, eqF, leT, leF, wwP, ckP, ckzP, ckbP, u2S, u2N, u2T, ↓Option.bind_some, inB_T, inB_F, Bool.false_eq_true, m_in0, m_in1, e1]
    exact ih n h1 (yearA A O) (x + 1) (Y + 1) (by omega) (by omega) (by omega) H1 (yearA_WOK W hO) (by omega) (by rw [y2, y4]; omega) (yearA_OM hO)
theorem M_years {k h A : HH} {Y N : Int} (H : MR k h A) (W : WOK Y N A) {d : Nat} (hd : d ≤ 60) (hY : Y + d ≤ 19998) (cap : A 193 2 + d ≤ A 193 27 ∧ A 193 27 ≤ 2147483647) {O : Int → List CL} (hO : OM A O) : ∃ h', m_goYears h d = some h' ∧ MR k h' (yearsA A O d) := M_years_L (m := d) (by omega) d FU h A 0 Y (by omega) (by omega) (by unfold FU; omega) H W hY cap hO
theorem X_years_L {S : SS} {N w m : Int} (hw : w = 1 ∨ w = 50 ∨ w = 99) (hm : 0 ≤ m ∧ m ≤ 60) {O : Int → List CL} (h0 : HH) : ∀ (d n : Nat) (h A : HH) (x Y : Int), x + d = m → 0 ≤ x → d < n → XC S h w A → WOK Y N A → Y + d ≤ 19998 → OM A O → OX h0 A O → (∀ c j, ¬ ((w ≤ c ∧ c ≤ w + 18) ∨ c = w + 48) → h c j = h0 c j) → ∃ h', xw_goYears_L2 S w m n h x = some h' ∧ XC S h' w (yearsA A O d) ∧ (∀ c j, ¬ ((w ≤ c ∧ c ≤ w + 18) ∨ c = w + 48) → h' c j = h0 c j) := by
  intro d
  induction d with
  | zero =>
    intro n h A x Y e hx hn C W hY hO hX f
    obtain ⟨n, rfl⟩ : ∃ m, n = m + 1 := ⟨n - 1, by omega⟩
    rw [xw_goYears_L2]
    simp (disch := omega) only [reduceIte, ltT, ltF, eqT, eqF, leT, leF, wwP, ckP, ckzP, ckbP, u2S, u2N, u2T, ↓Option.bind_some, inB_T, inB_F, Bool.false_eq_true, m_in0, m_in1]
    exact ⟨h, rfl, C, f⟩
  | succ d ih =>
    intro n h A x Y e hx hn C W hY hO hX f
    obtain ⟨n, rfl⟩ : ∃ m, n = m + 1 := ⟨n - 1, by omega⟩
    rw [xw_goYears_L2, if_pos (by rw [wwP (by omega), wwP (by omega)]; omega)]
    obtain ⟨⟨y0, y1, y2, y3, y4⟩, -⟩ := @yearA_off A O
    refine X_year_L (S := S) hw W (by omega) hO m x _ (fun q => XC S q w (yearsA A O (d + 1)) ∧ ∀ c j, ¬ ((w ≤ c ∧ c ≤ w + 18) ∨ c = w + 48) → q c j = h0 c j) h0 hX ?_ 5 FU h 0 rfl (by omega) (by decide) (C.cg (fun _ _ _ => rfl) (fun c j _ => yearP_0)) f
    intro h1 C1 f1
    have C2 : XC S (u2 h1 w 7 (h1 w 7 + 1)) w (yearA A O) := by
      have e7 : h1 w 7 = A 193 2 := by rw [C1.2.1, yearP_N (by decide)]
      rw [e7]
      exact C1.year (by omega)
    exact ih n _ (yearA A O) (x + 1) (Y + 1) (by omega) (by omega) (by omega) C2 (yearA_WOK W hO) (by omega) (yearA_OM hO) (fun z => by rw [y3] at z ⊢; exact hX z) (fun c j q => by rw [u2N (by omega)]; exact f1 c j q)
theorem X_years {S : SS} {h A : HH} {Y N w : Int} (hw : w = 1 ∨ w = 50 ∨ w = 99) (C : XC S h w A) (W : WOK Y N A) {d : Nat} (hd : d ≤ 60) (hY : Y + d ≤ 19998) {O : Int → List CL} (hO : OM A O) (hX : OX h A O) : ∃ h', xw_goYears S h w d = some h' ∧ XC S h' w (yearsA A O d) ∧ (∀ c j, ¬ ((w ≤ c ∧ c ≤ w + 18) ∨ c = w + 48) → h' c j = h c j) := X_years_L hw (m := d) (by omega) h d FU h A 0 Y (by omega) (by omega) (by unfold FU; omega) C W hY hO hX (fun _ _ _ => rfl)
