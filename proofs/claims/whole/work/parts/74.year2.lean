def max0 (x : Int) : Int := if x < 0 then 0 else x
def yearP (A : HH) (O : Int → List CL) (x : Int) : HH := fun c j => if c = 198 ∧ 0 ≤ j ∧ j < x then A 198 j + bt A O j else if c = 196 ∧ j % 5 < x ∧ A 199 (j % 5) = j / 5 ∧ 0 ≤ j / 5 ∧ bt A O (j % 5) = 1 then max0 (A 196 j - wearA A O) else A c j
theorem yearP_at {A : HH} {O : Int → List CL} {x c j : Int} : yearP A O x c j = if c = 198 ∧ 0 ≤ j ∧ j < x then A 198 j + bt A O j else if c = 196 ∧ j % 5 < x ∧ A 199 (j % 5) = j / 5 ∧ 0 ≤ j / 5 ∧ bt A O (j % 5) = 1 then max0 (A 196 j - wearA A O) else A c j := rfl
theorem yearP_N {A : HH} {O : Int → List CL} {x c j : Int} (h : c ≠ 198 ∧ c ≠ 196) : yearP A O x c j = A c j := by rw [yearP_at, if_neg (by omega), if_neg (by omega)]
theorem yearP_0 {A : HH} {O : Int → List CL} {c j : Int} : yearP A O 0 c j = A c j := by rw [yearP_at, if_neg (by omega), if_neg (by omega)]
theorem yearP_b {A : HH} {O : Int → List CL} {x j : Int} (h : x ≤ j) : yearP A O x 198 j = A 198 j := by rw [yearP_at, if_neg (by omega), if_neg (by omega)]
theorem yearP_h {A : HH} {O : Int → List CL} {x p t : Int} (h : x ≤ t) (ht : 0 ≤ t ∧ t < 5) : yearP A O x 196 (5 * p + t) = A 196 (5 * p + t) := by rw [yearP_at, if_neg (by omega), if_neg (by omega)]
theorem yearP_skip {A : HH} {O : Int → List CL} {x : Int} (hx : 0 ≤ x ∧ x < 5) (b : bt A O x = 0) (c i : Int) : yearP A O (x + 1) c i = yearP A O x c i := by
  rw [yearP_at, yearP_at]
  by_cases e : c = 198 ∧ 0 ≤ i ∧ i < x + 1
  · rw [if_pos e]
    by_cases e2 : i = x
    · rw [if_neg (by omega), if_neg (by omega), e.1, e2, b]; omega
    · rw [if_pos (by omega)]
  · rw [if_neg e, if_neg (by omega : ¬ (c = 198 ∧ 0 ≤ i ∧ i < x))]
    by_cases e3 : c = 196 ∧ i % 5 < x + 1 ∧ A 199 (i % 5) = i / 5 ∧ 0 ≤ i / 5 ∧ bt A O (i % 5) = 1
    · have : i % 5 ≠ x := fun z => by rw [z] at e3; omega
      rw [if_pos e3, if_pos (by omega)]
    · rw [if_neg e3, if_neg (by omega)]
theorem yearP_step {A : HH} {O : Int → List CL} {x p : Int} (hx : 0 ≤ x ∧ x < 5) (b : bt A O x = 1) (hp : A 199 x = p) (p0 : 0 ≤ p) (c i : Int) : yearP A O (x + 1) c i = u2 (u2 (yearP A O x) 198 x (A 198 x + 1)) 196 (5 * p + x) (max0 (A 196 (5 * p + x) - wearA A O)) c i := by
  rw [yearP_at]
  by_cases e : c = 198 ∧ 0 ≤ i ∧ i < x + 1
  · rw [if_pos e, u2N (by omega)]
    by_cases e2 : i = x
    · rw [u2T ⟨e.1, e2⟩, e2, b]
    · rw [u2N (by omega), yearP_at, if_pos (by omega)]
  · rw [if_neg e]
    by_cases e3 : c = 196 ∧ i % 5 < x + 1 ∧ A 199 (i % 5) = i / 5 ∧ 0 ≤ i / 5 ∧ bt A O (i % 5) = 1
    · rw [if_pos e3]
      by_cases e4 : i % 5 = x
      · have e5 : i = 5 * p + x := by
          have := e3.2.2.1
          rw [e4, hp] at this
          omega
        rw [u2T ⟨e3.1, e5⟩, e5]
      · rw [u2N (by omega), u2N (by omega), yearP_at, if_neg (by omega), if_pos (by omega)]
    · rw [if_neg e3]
      have e6 : ¬ (c = 196 ∧ i = 5 * p + x) := fun z => e3 (by
        obtain ⟨z1, z2⟩ := z
        have q1 : i % 5 = x := by omega
        have q2 : i / 5 = p := by omega
        rw [q1, q2, hp, b]
        omega)
      rw [u2N (by omega), u2N (by omega), yearP_at, if_neg (by omega), if_neg (by omega)]
def yearA (A : HH) (O : Int → List CL) : HH := u2 (yearP A O 5) 193 2 (A 193 2 + 1)
theorem yearP_off {A : HH} {O : Int → List CL} {x : Int} : (yearP A O x 193 0 = A 193 0 ∧ yearP A O x 193 1 = A 193 1 ∧ yearP A O x 193 2 = A 193 2 ∧ yearP A O x 193 10 = A 193 10 ∧ yearP A O x 193 27 = A 193 27) ∧ (∀ j, yearP A O x 194 j = A 194 j) ∧ (∀ j, yearP A O x 195 j = A 195 j) ∧ (∀ j, yearP A O x 197 j = A 197 j) ∧ (∀ j, yearP A O x 199 j = A 199 j) := by
  refine ⟨⟨?_, ?_, ?_, ?_, ?_⟩, ?_, ?_, ?_, ?_⟩
  all_goals first | exact yearP_N (by decide) | exact fun j => yearP_N (by decide)
theorem yearP_OM {A : HH} {O : Int → List CL} {x : Int} (hO : OM A O) : OM (yearP A O x) O := hO.cg (yearP_N (by decide)) (fun c j q => yearP_N (by unfold orchC at q; omega))
theorem yearP_WO {A : HH} {O : Int → List CL} {x Y N : Int} (W : WOK Y N A) (hY : Y ≤ 19998) (hO : OM A O) : WO Y N (yearP A O x) := by
  obtain ⟨h1, h2, h3, h4, h5, h6, h7, h8, h9, h10, h11⟩ := W
  obtain ⟨⟨e0, e1, e2, e3, e4⟩, e5, e6, e7, e8⟩ := @yearP_off A O x
  have wb := wear_b hO
  unfold WO
  rw [e0, e1, e2, e3]
  simp only [e5, e6, e7, e8]
  refine ⟨h1, h2, h3, h4, h5, h6, fun p t a b c d => ?_, h8, fun t a b => ?_, h10, h11⟩
  · have := h7 p t a b c d
    rw [yearP_at, if_neg (by omega)]
    unfold max0
    repeat' split
    all_goals omega
  · have := h9 t a b
    have b1 := @bt_01 A O t
    rw [yearP_at]
    split
    · omega
    · rw [if_neg (by omega)]; omega
theorem M_year_L {k A : HH} {Y N : Int} (W : WOK Y N A) (hY : Y ≤ 19998) (cap : A 193 2 + 1 ≤ A 193 27 ∧ A 193 27 ≤ 2147483647) {O : Int → List CL} (hO : OM A O) : ∀ (d n : Nat) (h : HH) (x : Int), x + d = 5 → 0 ≤ x → d < n → MR k h (yearP A O x) → ∃ h', m_goYear_L7 (bsetN A O 5) n h x = some h' ∧ MR k h' (yearA A O) := by
  intro d
  induction d with
  | zero =>
    intro n h x e h0 hn H
    obtain ⟨n, rfl⟩ : ∃ m, n = m + 1 := ⟨n - 1, by omega⟩
    have e : x = 5 := by omega
    subst e
    rw [m_goYear_L7]
    have r : h 193 2 = A 193 2 := by rw [H.s2, yearP_N (by decide)]
    simp (disch := omega) only [reduceIte, ltT, ltF, eqT, eqF, leT, leF, wwP, ckP, ckzP, ckbP, u2S, u2N, u2T, ↓Option.bind_some, inB_T, inB_F, Bool.false_eq_true, m_in0, m_in1, r]
    exact ⟨_, rfl, H.w (by omega)⟩
  | succ d ih =>
    intro n h x e h0 hn H
    obtain ⟨n, rfl⟩ : ∃ m, n = m + 1 := ⟨n - 1, by omega⟩
    rw [m_goYear_L7]
    have n0 := W.1
    have l := W.2.2.2.2.2.2.2.2.2.1 x h0 (by omega)
    have bo := W.2.2.2.2.2.2.2.2.1 x h0 (by omega)
    have y0 := W.2.1
    have hb := @bset_has A O x ⟨h0, by omega⟩
    rcases @bt_01 A O x with b | b
    · rw [b] at hb
      simp (disch := omega) only [reduceIte, ltT, ltF, eqT, eqF, leT, leF, wwP, ckP, ckzP, ckbP, u2S, u2N, u2T, ↓Option.bind_some, inB_T, inB_F, Bool.false_eq_true, m_in0, m_in1, ww_has, hb]
      exact ih n h (x + 1) (by omega) (by omega) (by omega) (H.eq fun c i q => yearP_skip ⟨h0, by omega⟩ b c i)
    · rw [b] at hb
      have lp : ¬ A 199 x < 0 := fun z => by unfold bt at b; rw [if_pos z] at b; omega
      have r1 : h 198 x = A 198 x := by rw [H.r198, yearP_b (Int.le_refl _)]
      have r2 : h 193 27 = A 193 27 := by rw [H.s27, yearP_N (by decide)]
      have r3 : h 199 x = A 199 x := by rw [H.r199, yearP_N (by decide)]
      have H1 := H.w (c := 198) (j := x) (v := A 198 x + 1) (by omega)
      have OM1 : OM (u2 (yearP A O x) 198 x (A 198 x + 1)) O := (yearP_OM hO).cg (u2N (by omega)) (fun c j q => u2N (by unfold orchC at q; omega))
      have wr := M_wear H1 OM1
      rw [wearA_cg (A := A) (by rw [u2N (by omega), yearP_N (by decide)])] at wr
      have hh := W.2.2.2.2.2.2.1 (A 199 x) x (by omega) (by omega) h0 (by omega)
      have r4 : h 196 (5 * A 199 x + x) = A 196 (5 * A 199 x + x) := by rw [H.r196, yearP_h (Int.le_refl _) ⟨h0, by omega⟩]
      have ml : m_least (A 198 x + 1) (A 193 27) = A 198 x + 1 := by
        unfold m_least
        rw [wwP (by omega), wwP (by omega)]
        split
        · rfl
        · omega
      have wb := wear_b hO
      have H2 : MR k (u2 (u2 h 198 x (A 198 x + 1)) 196 (5 * A 199 x + x) (max0 (A 196 (5 * A 199 x + x) - wearA A O))) (yearP A O (x + 1)) := (H1.w (c := 196) (j := 5 * A 199 x + x) (v := max0 (A 196 (5 * A 199 x + x) - wearA A O)) (by omega)).eq fun c i q => yearP_step ⟨h0, by omega⟩ b rfl (by omega) c i
      have ii := ih n _ (x + 1) (by omega) (by omega) (by omega) H2
      unfold m_wears
      by_cases c : A 196 (5 * A 199 x + x) - wearA A O < 0
      · have em : max0 (A 196 (5 * A 199 x + x) - wearA A O) = 0 := by unfold max0; rw [if_pos c]
        rw [em] at ii
        simp (disch := omega) only [reduceIte, ltT, ltF, eqT, eqF, leT, leF, wwP, ckP, ckzP, ckbP, u2S, u2N, u2T, ↓Option.bind_some, inB_T, inB_F, Bool.false_eq_true, m_in0, m_in1, ww_has, hb, r1, r2, r3, ml, wr, r4]
        exact ii
      · have em : max0 (A 196 (5 * A 199 x + x) - wearA A O) = A 196 (5 * A 199 x + x) - wearA A O := by unfold max0; rw [if_neg c]
        rw [em] at ii
        simp (disch := omega) only [reduceIte, ltT, ltF, eqT, eqF, leT, leF, wwP, ckP, ckzP, ckbP, u2S, u2N, u2T, ↓Option.bind_some, inB_T, inB_F, Bool.false_eq_true, m_in0, m_in1, ww_has, hb, r1, r2, r3, ml, wr, r4]
        exact ii
theorem M_year {k h A : HH} {Y N : Int} (H : MR k h A) (W : WOK Y N A) (hY : Y ≤ 19998) (cap : A 193 2 + 1 ≤ A 193 27 ∧ A 193 27 ≤ 2147483647) {O : Int → List CL} (hO : OM A O) : ∃ h', m_goYear h = some h' ∧ MR k h' (yearA A O) := by
  unfold m_goYear
  obtain ⟨h1, e1, H1⟩ := M_bset H (W.wo (by omega)) (by omega) hO
  rw [e1, Option.bind_some]
  exact M_year_L W hY cap hO 5 FU h1 0 rfl (by omega) (by decide) (H1.eq fun c j _ => yearP_0)
