theorem ofAll_h {h g : HH} {x1 x2 x3 : Int} : ∀ (n : Nat) (x4 : Int), x_ofAll_L28 h x1 x2 x3 n x4 = x_ofAll_L28 g x1 x2 x3 n x4
  | 0, _ => rfl
  | n + 1, x4 => by
    rw [x_ofAll_L28, x_ofAll_L28, ofAll_h n]
theorem gcd_fin : ∀ (n : Fin 6) (a : Fin 600), (x_ofAll_L28 (fun _ _ => 0) (a.val : Int) 0 ((n.val : Int) + 1) FU ((n.val : Int) + 1) = m_lowest (a.val : Int) ((n.val : Int) + 1) 0 ∧ (m_lowest (a.val : Int) ((n.val : Int) + 1) 0).isSome = true) ∧ x_ofAll_L28 (fun _ _ => 0) (a.val : Int) 1 ((n.val : Int) + 1) FU ((n.val : Int) + 1) = m_lowest (a.val : Int) ((n.val : Int) + 1) 1 ∧ (m_lowest (a.val : Int) ((n.val : Int) + 1) 1).isSome = true := by decide +kernel
theorem gcd_eq {h : HH} {a n b : Int} (ha : 0 ≤ a ∧ a < 600) (hn : 1 ≤ n ∧ n ≤ 6) (hb : b = 0 ∨ b = 1) : ∃ r, x_ofAll_L28 h a b n FU n = some r ∧ m_lowest a n b = some r := by
  obtain ⟨a', rfl⟩ := fin_of (n := 600) ha
  obtain ⟨n', e⟩ := fin_of (n := 6) (p := n - 1) (by omega)
  have e : n = (n'.val : Int) + 1 := by omega
  subst e
  obtain ⟨⟨g1, g2⟩, g3, g4⟩ := gcd_fin n' a'
  rw [ofAll_h (g := fun _ _ => 0)]
  rcases hb with rfl | rfl
  · obtain ⟨r, hr⟩ := Option.isSome_iff_exists.mp g2
    exact ⟨r, by rw [g1, hr], hr⟩
  · obtain ⟨r, hr⟩ := Option.isSome_iff_exists.mp g4
    exact ⟨r, by rw [g3, hr], hr⟩
/- mean -/
def sumH (A : HH) (t : Int) : Nat → Int
  | 0 => 0
  | n + 1 => sumH A t n + A 196 (5 * n + t)
theorem sumH_b {Y N : Int} {A : HH} (W : WOK Y N A) {t : Int} (ht : 0 ≤ t ∧ t < 5) : ∀ n : Nat, (n : Int) ≤ A 193 0 → 0 ≤ sumH A t n ∧ sumH A t n ≤ 99 * n
  | 0, _ => ⟨Int.le_refl _, Int.le_refl _⟩
  | n + 1, h => by
    have i := sumH_b W ht n (by omega)
    have hh := W.2.2.2.2.2.2.1 n t (by omega) (by omega) ht.1 ht.2
    rw [sumH]
    omega
theorem M_mean_L {k h A : HH} (H : MR k h A) {t b : Int} (ht : 0 ≤ t ∧ t < 5) {m : Nat} (hm : A 193 0 = m) (m6 : m ≤ 6) : ∀ (d n j : Nat), j + d = m → d < n → m_mean_L34 h t b n (sumH A t j) j = m_lowest (sumH A t m) (A 193 0) b := by
  intro d
  induction d with
  | zero =>
    intro n j e hn
    obtain ⟨n, rfl⟩ : ∃ m, n = m + 1 := ⟨n - 1, by omega⟩
    rw [m_mean_L34, show j = m by omega]
    simp (disch := omega) only [reduceIte, ltT, ltF, eqT, eqF, leT, leF, wwP, ckP, ckzP, ckbP, u2S, u2N, u2T, ↓Option.bind_some, inB_T, inB_F, Bool.false_eq_true, m_in0, m_in1, H.s0]
    cases m_lowest (sumH A t m) (A 193 0) b <;> rfl
  | succ d ih =>
    intro n j e hn
    obtain ⟨n, rfl⟩ : ∃ m, n = m + 1 := ⟨n - 1, by omega⟩
    rw [m_mean_L34]
    have i := ih n (j + 1) (by omega) (by omega)
    rw [sumH] at i
    have e1 : ((j + 1 : Nat) : Int) = (j : Int) + 1 := rfl
    rw [e1] at i
    simp (disch := omega) only [reduceIte, ltT, ltF, eqT, eqF, leT, leF, wwP, ckP, ckzP, ckbP, u2S, u2N, u2T, ↓Option.bind_some, inB_T, inB_F, Bool.false_eq_true, m_in0, m_in1, H.s0, H.r196]
    exact i
theorem X_mean_L {S : SS} {h A : HH} (C : XC S h 1 A) {t b : Int} (ht : 0 ≤ t ∧ t < 5) {m : Nat} (hm : A 193 0 = m) (m6 : m ≤ 6) : ∀ (d n j : Nat), j + d = m → d < n → x_mean_L16 h t b n (sumH A t j) j = x_ofAll h (sumH A t m) b := by
  intro d
  have n1 : h 1 4 = A 193 0 := C.1.2.2
  induction d with
  | zero =>
    intro n j e hn
    obtain ⟨n, rfl⟩ : ∃ m, n = m + 1 := ⟨n - 1, by omega⟩
    rw [x_mean_L16, show j = m by omega]
    simp (disch := omega) only [reduceIte, ltT, ltF, eqT, eqF, leT, leF, wwP, ckP, ckzP, ckbP, u2S, u2N, u2T, ↓Option.bind_some, inB_T, inB_F, Bool.false_eq_true, m_in0, m_in1, n1]
    cases x_ofAll h (sumH A t m) b <;> rfl
  | succ d ih =>
    intro n j e hn
    obtain ⟨n, rfl⟩ : ∃ m, n = m + 1 := ⟨n - 1, by omega⟩
    rw [x_mean_L16]
    have i := ih n (j + 1) (by omega) (by omega)
    rw [sumH] at i
    have e1 : ((j + 1 : Nat) : Int) = (j : Int) + 1 := rfl
    rw [e1] at i
    have g : h (5 + (j : Int)) t = A 196 (5 * j + t) := C.2.2.2.2.2.2.1 j t (by omega) (by omega) ht.1 ht.2
    simp (disch := omega) only [reduceIte, ltT, ltF, eqT, eqF, leT, leF, wwP, ckP, ckzP, ckbP, u2S, u2N, u2T, ↓Option.bind_some, inB_T, inB_F, Bool.false_eq_true, m_in0, m_in1, n1, g]
    exact i
theorem X_ofAll {h A : HH} {a b : Int} (n1 : h 1 4 = A 193 0) (n0 : 0 ≤ A 193 0 ∧ A 193 0 ≤ 6) (hb : -2147483648 ≤ b ∧ b ≤ 2147483647) : x_ofAll h a b = if A 193 0 = 0 then some (-9223372036854775808) else if b = 0 ∨ b = 1 then x_ofAll_L28 h a b (A 193 0) FU (A 193 0) else some (-9223372036854775808) := by
  unfold x_ofAll
  rw [n1, wwP (by omega), wwP hb]
  by_cases c : A 193 0 = 0
  · rw [if_pos c, if_pos c]
  · rw [if_neg c, if_neg c]
    by_cases b0 : b = 0
    · rw [if_pos b0, if_pos (.inl b0)]
    · rw [if_neg b0]
      by_cases b1 : b = 1
      · rw [if_pos b1, if_pos (.inr b1)]
      · rw [if_neg b1, if_neg (by omega)]
theorem st_mean {S : SS} {h : HH} {a b : Int} (F : Fx S) (I : Inv h S) (ha : -2147483648 ≤ a ∧ a ≤ 2147483647) (hb : -2147483648 ≤ b ∧ b ≤ 2147483647) : ∃ r, ((x_mean h a b).bind fun q => (m_mean h a b).bind fun q1 => if ww (zlcmp q q1) = 0 then some (h, S) else none) = some r ∧ Fx r.2 ∧ Inv r.1 r.2 := by
  have I0 := I
  obtain ⟨A, O, hA, hX, hM⟩ := I
  have W := hA.2.2.1
  have n0 := W.1
  have n1 : h 1 4 = A 193 0 := hX.2.1.1.2.2
  suffices K : ∃ r, x_mean h a b = some r ∧ m_mean h a b = some r by
    obtain ⟨r, e1, e2⟩ := K
    exact glueRL F I0 e1 e2 rfl
  unfold x_mean m_mean m_isTree
  by_cases c1 : 0 ≤ a ∧ a < 5
  · have eX := X_mean_L hX.2.1 (t := a) (b := b) c1 (m := (A 193 0).toNat) (by omega) (by omega) (A 193 0).toNat FU 0 (by omega) (by unfold FU; omega)
    have eM := M_mean_L hM (t := a) (b := b) c1 (m := (A 193 0).toNat) (by omega) (by omega) (A 193 0).toNat FU 0 (by omega) (by unfold FU; omega)
    have sb := sumH_b W c1 (A 193 0).toNat (by omega)
    rw [X_ofAll n1 n0 hb] at eX
    have eX : x_mean_L16 h a b FU 0 0 = _ := eX
    have eM : m_mean_L34 h a b FU 0 0 = _ := eM
    by_cases c2 : A 193 0 = 0
    · rw [if_pos c2] at eX
      refine ⟨-9223372036854775808, by simp (disch := omega) only [reduceIte, ltT, ltF, eqT, eqF, leT, leF, wwP, ckP, ckzP, ckbP, u2S, u2N, u2T, ↓Option.bind_some, inB_T, inB_F, Bool.false_eq_true, m_in0, m_in1, ww_treeT, eX], ?_⟩
      by_cases c3 : 0 ≤ b ∧ b ≤ 1 <;> simp (disch := omega) only [reduceIte, ltT, ltF, eqT, eqF, leT, leF, wwP, ckP, ckzP, ckbP, u2S, u2N, u2T, ↓Option.bind_some, inB_T, inB_F, Bool.false_eq_true, m_in0, m_in1, hM.s0]
    · rw [if_neg c2] at eX
      by_cases c3 : b = 0 ∨ b = 1
      · rw [if_pos c3] at eX
        obtain ⟨r, g1, g2⟩ := gcd_eq (h := h) (a := sumH A a (A 193 0).toNat) (n := A 193 0) (b := b) (by omega) (by omega) c3
        rw [g1] at eX
        rw [g2] at eM
        exact ⟨r, by simp (disch := omega) only [reduceIte, ltT, ltF, eqT, eqF, leT, leF, wwP, ckP, ckzP, ckbP, u2S, u2N, u2T, ↓Option.bind_some, inB_T, inB_F, Bool.false_eq_true, m_in0, m_in1, ww_treeT, eX], by simp (disch := omega) only [reduceIte, ltT, ltF, eqT, eqF, leT, leF, wwP, ckP, ckzP, ckbP, u2S, u2N, u2T, ↓Option.bind_some, inB_T, inB_F, Bool.false_eq_true, m_in0, m_in1, hM.s0, eM]⟩
      · rw [if_neg c3] at eX
        exact ⟨-9223372036854775808, by simp (disch := omega) only [reduceIte, ltT, ltF, eqT, eqF, leT, leF, wwP, ckP, ckzP, ckbP, u2S, u2N, u2T, ↓Option.bind_some, inB_T, inB_F, Bool.false_eq_true, m_in0, m_in1, ww_treeT, eX], by simp (disch := omega) only [reduceIte, ltT, ltF, eqT, eqF, leT, leF, wwP, ckP, ckzP, ckbP, u2S, u2N, u2T, ↓Option.bind_some, inB_T, inB_F, Bool.false_eq_true, m_in0, m_in1, hM.s0]⟩
  · exact ⟨-9223372036854775808, by simp (disch := omega) only [reduceIte, ltT, ltF, eqT, eqF, leT, leF, wwP, ckP, ckzP, ckbP, u2S, u2N, u2T, ↓Option.bind_some, inB_T, inB_F, Bool.false_eq_true, m_in0, m_in1, ww_treeF], by simp (disch := omega) only [reduceIte, ltT, ltF, eqT, eqF, leT, leF, wwP, ckP, ckzP, ckbP, u2S, u2N, u2T, ↓Option.bind_some, inB_T, inB_F, Bool.false_eq_true, m_in0, m_in1]⟩
/- odds -/
def sumB (A : HH) (O : Int → List CL) (t : Int) : Nat → Int
  | 0 => 0
  | n + 1 => sumB A O t n + bearA A O n t
theorem sumB_b {A : HH} {O : Int → List CL} {t : Int} : ∀ n : Nat, 0 ≤ sumB A O t n ∧ sumB A O t n ≤ n
  | 0 => ⟨Int.le_refl _, Int.le_refl _⟩
  | n + 1 => by
    have i := @sumB_b A O t n
    have b := @bear_01 A O n t
    rw [sumB]
    omega
theorem M_odds_L {k A : HH} {Y N t b : Int} (W : WO Y N A) (hY : Y ≤ 20000) (ht : 0 ≤ t ∧ t < 5) {O : Int → List CL} (hO : OM A O) {m : Nat} (hm : A 193 0 = m) (m6 : m ≤ 6) {r : Int} (hr : m_lowest (sumB A O t m) (A 193 0) b = some r) : ∀ (d n j : Nat) (h : HH), j + d = m → d < n → MR k h A → ∃ h', m_odds_L34 t b n h (sumB A O t j) j = some (r, h') ∧ MR k h' A := by
  intro d
  induction d with
  | zero =>
    intro n j h e hn H
    obtain ⟨n, rfl⟩ : ∃ m, n = m + 1 := ⟨n - 1, by omega⟩
    rw [m_odds_L34, show j = m by omega]
    simp (disch := omega) only [reduceIte, ltT, ltF, eqT, eqF, leT, leF, wwP, ckP, ckzP, ckbP, u2S, u2N, u2T, ↓Option.bind_some, inB_T, inB_F, Bool.false_eq_true, m_in0, m_in1, H.s0, hr]
    exact ⟨h, rfl, H⟩
  | succ d ih =>
    intro n j h e hn H
    obtain ⟨n, rfl⟩ : ∃ m, n = m + 1 := ⟨n - 1, by omega⟩
    rw [m_odds_L34]
    obtain ⟨h1, e1, H1⟩ := M_bears H W hY (p := j) (t := t) (by omega) ht hO
    obtain ⟨h2, e2, H2⟩ := ih n (j + 1) h1 (by omega) (by omega) H1
    have e3 : ((j + 1 : Nat) : Int) = (j : Int) + 1 := rfl
    rw [sumB, e3] at e2
    refine ⟨h2, ?_, H2⟩
    rcases @bear_01 A O j t with b | b
    · rw [b] at e1 e2
      simp (disch := omega) only [reduceIte, ltT, ltF, eqT, eqF, leT, leF, wwP, ckP, ckzP, ckbP, u2S, u2N, u2T, ↓Option.bind_some, inB_T, inB_F, Bool.false_eq_true, m_in0, m_in1, H.s0, e1]
      exact e2
    · rw [b] at e1 e2
      simp (disch := omega) only [reduceIte, ltT, ltF, eqT, eqF, leT, leF, wwP, ckP, ckzP, ckbP, u2S, u2N, u2T, ↓Option.bind_some, inB_T, inB_F, Bool.false_eq_true, m_in0, m_in1, H.s0, e1]
      exact e2
theorem X_odds_L {S : SS} {A : HH} {Y N t b : Int} (W : WO Y N A) (hY : Y ≤ 20000) (ht : 0 ≤ t ∧ t < 5) {O : Int → List CL} (hO : OM A O) {m : Nat} (hm : A 193 0 = m) (m6 : m ≤ 6) {r : Int} (hr : ∀ h : HH, h 1 4 = A 193 0 → x_ofAll h (sumB A O t m) b = some r) (h0 : HH) (hX : OX h0 A O) : ∀ (d n j : Nat) (h : HH), j + d = m → d < n → XC S h 1 A → (∀ c j, c ≠ 49 → h c j = h0 c j) → ∃ h', x_odds_L16 S t b n h (sumB A O t j) j = some (r, h') ∧ ∀ c j, c ≠ 49 → h' c j = h0 c j := by
  intro d
  induction d with
  | zero =>
    intro n j h e hn C f
    obtain ⟨n, rfl⟩ : ∃ m, n = m + 1 := ⟨n - 1, by omega⟩
    rw [x_odds_L16, show j = m by omega]
    have n1 : h 1 4 = A 193 0 := C.1.2.2
    have hr := hr h n1
    simp (disch := omega) only [reduceIte, ltT, ltF, eqT, eqF, leT, leF, wwP, ckP, ckzP, ckbP, u2S, u2N, u2T, ↓Option.bind_some, inB_T, inB_F, Bool.false_eq_true, m_in0, m_in1, n1, hr]
    exact ⟨h, rfl, f⟩
  | succ d ih =>
    intro n j h e hn C f
    obtain ⟨n, rfl⟩ : ∃ m, n = m + 1 := ⟨n - 1, by omega⟩
    rw [x_odds_L16]
    have n1 : h 1 4 = A 193 0 := C.1.2.2
    obtain ⟨h1, e1, f1⟩ := X_bears (S := S) (h := h) (w := 1) (.inl rfl) C W hY (p := j) (t := t) (by omega) ht hO (fun z => (hX z).cg (fun a b _ _ => f a b (by omega)))
    obtain ⟨h2, e2, f2⟩ := ih n (j + 1) h1 (by omega) (by omega) (C.cg (fun a b q => f1 a b (by rcases q with q | q; omega; have := isHb_ge q; omega)) (fun _ _ _ => rfl)) (fun c j q => by rw [f1 c j (by omega), f c j q])
    have e3 : ((j + 1 : Nat) : Int) = (j : Int) + 1 := rfl
    rw [sumB, e3] at e2
    refine ⟨h2, ?_, f2⟩
    rw [if_pos (by rw [n1, wwP (by omega), wwP (by omega)]; omega), e1, Option.bind_some, x_bitP bear_01]
    exact e2
theorem st_odds {S : SS} {h : HH} {a b : Int} (F : Fx S) (I : Inv h S) (ha : -2147483648 ≤ a ∧ a ≤ 2147483647) (hb : -2147483648 ≤ b ∧ b ≤ 2147483647) : ∃ r, ((x_odds S h a b).bind fun q => (m_odds q.2 a b).bind fun q1 => if ww (zlcmp q.1 q1.1) = 0 then some (q1.2, S) else none) = some r ∧ Fx r.2 ∧ Inv r.1 r.2 := by
  obtain ⟨A, O, hA, hX, hM⟩ := I
  have W := hA.2.2.1
  have n0 := W.1
  have hO := hX.OM W
  have n1 : h 1 4 = A 193 0 := hX.2.1.1.2.2
  suffices K : ∃ r h1, x_odds S h a b = some (r, h1) ∧ (∀ c j, c ≠ 49 → h1 c j = h c j) ∧ ∀ k g, MR k g A → ∃ g', m_odds g a b = some (r, g') ∧ MR k g' A by
    obtain ⟨r, h1, e1, f1, hm⟩ := K
    have X1 := hX.scr (fun c j q => f1 c j (by omega))
    have I1 : MR h1 h1 A := ⟨fun _ _ _ => rfl, fun c j q => by rw [X1.1 c j (rel_c q).1 (rel_c q).2]; exact hM.2 c j q⟩
    obtain ⟨h2, e2, M2⟩ := hm h1 h1 I1
    rw [e1]
    refine ⟨(h2, S), ?_, F, A, O, hA, X1.same M2.1, fun _ _ _ => rfl, M2.2⟩
    simp only [Option.bind_some]
    rw [e2]
    simp only [Option.bind_some]
    rw [if_pos zlcmp_self]
  unfold x_odds
  by_cases c1 : 0 ≤ a ∧ a < 5
  · have sb := @sumB_b A O a (A 193 0).toNat
    by_cases c2 : A 193 0 ≠ 0 ∧ (b = 0 ∨ b = 1)
    · obtain ⟨r, g1, g2⟩ := gcd_eq (h := h) (a := sumB A O a (A 193 0).toNat) (n := A 193 0) (b := b) (by omega) (by omega) c2.2
      obtain ⟨h1, e1, f1⟩ := X_odds_L (S := S) (b := b) (r := r) (W.wo (by omega)) (by omega) c1 hO (m := (A 193 0).toNat) (by omega) (by omega) (fun g hg => by rw [X_ofAll hg n0 hb, if_neg c2.1, if_pos c2.2, ofAll_h (g := h)]; exact g1) h (hX.OX W) (A 193 0).toNat FU 0 h (by omega) (by unfold FU; omega) hX.2.1 (fun _ _ _ => rfl)
      refine ⟨r, h1, ?_, f1, fun k g H => ?_⟩
      · rw [if_neg (by rw [ww_treeT c1]; decide)]; exact e1
      · obtain ⟨h2, e2, H2⟩ := M_odds_L (k := k) (b := b) (r := r) (W.wo (by omega)) (by omega) c1 hO (m := (A 193 0).toNat) (by omega) (by omega) g2 (A 193 0).toNat FU 0 g (by omega) (by unfold FU; omega) H
        refine ⟨h2, ?_, H2⟩
        unfold m_odds m_isTree
        rw [if_neg (by rw [m_in0 (by omega)]; decide), if_neg (by rw [m_in0 (by omega)]; decide), if_neg (by rw [H.s0, wwP (by omega)]; exact c2.1)]
        exact e2
    · obtain ⟨h1, e1, f1⟩ := X_odds_L (S := S) (b := b) (r := -9223372036854775808) (W.wo (by omega)) (by omega) c1 hO (m := (A 193 0).toNat) (by omega) (by omega) (fun g hg => by
          rw [X_ofAll hg n0 hb]
          by_cases z : A 193 0 = 0
          · rw [if_pos z]
          · rw [if_neg z, if_neg (by omega)]) h (hX.OX W) (A 193 0).toNat FU 0 h (by omega) (by unfold FU; omega) hX.2.1 (fun _ _ _ => rfl)
      refine ⟨-9223372036854775808, h1, ?_, f1, fun k g H => ⟨g, ?_, H⟩⟩
      · rw [if_neg (by rw [ww_treeT c1]; decide)]; exact e1
      · unfold m_odds m_isTree
        by_cases z : 0 ≤ b ∧ b ≤ 1
        · simp (disch := omega) only [reduceIte, ltT, ltF, eqT, eqF, leT, leF, wwP, ckP, ckzP, ckbP, u2S, u2N, u2T, ↓Option.bind_some, inB_T, inB_F, Bool.false_eq_true, m_in0, m_in1, H.s0]
        · simp (disch := omega) only [reduceIte, ltT, ltF, eqT, eqF, leT, leF, wwP, ckP, ckzP, ckbP, u2S, u2N, u2T, ↓Option.bind_some, inB_T, inB_F, Bool.false_eq_true, m_in0, m_in1, H.s0]
  · refine ⟨-9223372036854775808, h, ?_, fun _ _ _ => rfl, fun k g H => ⟨g, ?_, H⟩⟩
    · simp (disch := omega) only [reduceIte, ltT, ltF, eqT, eqF, leT, leF, wwP, ckP, ckzP, ckbP, u2S, u2N, u2T, ↓Option.bind_some, inB_T, inB_F, Bool.false_eq_true, m_in0, m_in1, ww_treeF]
    · unfold m_odds m_isTree
      simp (disch := omega) only [reduceIte, ltT, ltF, eqT, eqF, leT, leF, wwP, ckP, ckzP, ckbP, u2S, u2N, u2T, ↓Option.bind_some, inB_T, inB_F, Bool.false_eq_true, m_in0, m_in1]
