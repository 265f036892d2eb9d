/- judge -/
theorem jd_L {h A : HH} {a b : Int} (ha : 0 ≤ a ∧ a < 6) (hb : 0 ≤ b ∧ b ≤ 2147483647) (T : XTT h A) (hs : ¬ A 239 a < 0) (hB : ∀ t, 0 ≤ t → t < 5 → h 18 t = A 198 t) (r1 : ∀ j, h 239 j = A 239 j) (r2 : ∀ j, h 240 j = A 240 j) (r3 : ∀ j, h 241 j = A 241 j) (r4 : ∀ j, h 198 j = A 198 j) : ∀ (d n : Nat) (x : Int), x + d = 5 → 0 ≤ x → (x = 0 ∨ b + x ≤ A 240 a) → d < n → ∃ r, x_judge_L35 h a b n x = some r ∧ m_judge_L34 h a b n x = some r := by
  intro d
  obtain ⟨u1, u2', u3, u4, u5, u6⟩ := T a ha.1 ha.2
  induction d with
  | zero =>
    intro n x e h0 hk hn
    obtain ⟨n, rfl⟩ : ∃ m, n = m + 1 := ⟨n - 1, by omega⟩
    rw [x_judge_L35, m_judge_L34]
    exact ⟨-5, by simp (disch := omega) only [reduceIte, ltT, ltF, eqT, eqF, leT, leF, wwP, ckP, ckzP, ckbP, u2S, u2N, u2T, ↓Option.bind_some, inB_T, inB_F, Bool.false_eq_true, m_in0, m_in1], by simp (disch := omega) only [reduceIte, ltT, ltF, eqT, eqF, leT, leF, wwP, ckP, ckzP, ckbP, u2S, u2N, u2T, ↓Option.bind_some, inB_T, inB_F, Bool.false_eq_true, m_in0, m_in1]⟩
  | succ d ih =>
    intro n x e h0 hk hn
    obtain ⟨n, rfl⟩ : ∃ m, n = m + 1 := ⟨n - 1, by omega⟩
    rw [x_judge_L35, m_judge_L34]
    unfold x_hasItem
    by_cases c : b + x < A 240 a
    · have u7 := u6 (b + x) (by omega) c
      have g5 := hB x h0 (by omega)
      have ee : 60 * a + b + x = 60 * a + (b + x) := by omega
      by_cases z : ww (zlcmp (A 241 (60 * a + (b + x))) (zi2l (A 198 x))) = 0
      · obtain ⟨r, i1, i2⟩ := ih n (x + 1) (by omega) (by omega) (.inr (by omega)) (by omega)
        exact ⟨r, by simp (disch := omega) only [reduceIte, ltT, ltF, eqT, eqF, leT, leF, wwP, ckP, ckzP, ckbP, u2S, u2N, u2T, ↓Option.bind_some, inB_T, inB_F, Bool.false_eq_true, m_in0, m_in1, u3, u7, g5, z, i1], by simp (disch := omega) only [reduceIte, ltT, ltF, eqT, eqF, leT, leF, wwP, ckP, ckzP, ckbP, u2S, u2N, u2T, ↓Option.bind_some, inB_T, inB_F, Bool.false_eq_true, m_in0, m_in1, r1, r2, r3, r4, ee, z, i2]⟩
      · exact ⟨x, by simp (disch := omega) only [reduceIte, ltT, ltF, eqT, eqF, leT, leF, wwP, ckP, ckzP, ckbP, u2S, u2N, u2T, ↓Option.bind_some, inB_T, inB_F, Bool.false_eq_true, m_in0, m_in1, u3, u7, g5, z], by simp (disch := omega) only [reduceIte, ltT, ltF, eqT, eqF, leT, leF, wwP, ckP, ckzP, ckbP, u2S, u2N, u2T, ↓Option.bind_some, inB_T, inB_F, Bool.false_eq_true, m_in0, m_in1, r1, r2, r3, r4, ee, z]⟩
    · rcases hk with hk | hk
      · subst hk
        rw [Int.add_zero]
        exact ⟨100 + 0, by simp (disch := omega) only [reduceIte, ltT, ltF, eqT, eqF, leT, leF, wwP, ckP, ckzP, ckbP, u2S, u2N, u2T, ↓Option.bind_some, inB_T, inB_F, Bool.false_eq_true, m_in0, m_in1, u3], by simp (disch := omega) only [reduceIte, ltT, ltF, eqT, eqF, leT, leF, wwP, ckP, ckzP, ckbP, u2S, u2N, u2T, ↓Option.bind_some, inB_T, inB_F, Bool.false_eq_true, m_in0, m_in1, r1, r2]⟩
      · exact ⟨100 + x, by simp (disch := omega) only [reduceIte, ltT, ltF, eqT, eqF, leT, leF, wwP, ckP, ckzP, ckbP, u2S, u2N, u2T, ↓Option.bind_some, inB_T, inB_F, Bool.false_eq_true, m_in0, m_in1, u3], by simp (disch := omega) only [reduceIte, ltT, ltF, eqT, eqF, leT, leF, wwP, ckP, ckzP, ckbP, u2S, u2N, u2T, ↓Option.bind_some, inB_T, inB_F, Bool.false_eq_true, m_in0, m_in1, r1, r2]⟩
theorem st_judge {S : SS} {h : HH} {a b : Int} (F : Fx S) (I : Inv h S) (ha : -2147483648 ≤ a ∧ a ≤ 2147483647) (hb : -2147483648 ≤ b ∧ b ≤ 2147483647) : ∃ r, ((x_judge h a b).bind fun q => (m_judge h a b).bind fun q1 => if ww q = ww q1 then some (h, S) else none) = some r ∧ Fx r.2 ∧ Inv r.1 r.2 := by
  have I0 := I
  obtain ⟨A, O, hA, hX, hM⟩ := I
  have T : XTT h A := hX.2.2.2.1.2.2.2.1
  have e : ∃ r, x_judge h a b = some r ∧ m_judge h a b = some r := by
    unfold x_judge m_judge m_isTape
    by_cases c1 : 0 ≤ a ∧ a < 6
    · obtain ⟨u1, u2', u3, u4, u5, u6⟩ := T a c1.1 c1.2
      by_cases c2 : A 239 a < 0
      · have u2'' : h 166 a = -5 := by rw [u2', if_pos c2]
        have u7 := u5 c2
        refine ⟨100 + 0, ?_, ?_⟩
        · simp (disch := omega) only [reduceIte, ltT, ltF, eqT, eqF, leT, leF, wwP, ckP, ckzP, ckbP, u2S, u2N, u2T, ↓Option.bind_some, inB_T, inB_F, Bool.false_eq_true, m_in0, m_in1, ww_tapeT, u2'']
          rw [show FU = 19999 + 1 from rfl, x_judge_L35]
          unfold x_hasItem
          rw [Int.add_zero]
          rcases Int.lt_or_le b 0 with c | c <;> simp (disch := omega) only [reduceIte, ltT, ltF, eqT, eqF, leT, leF, wwP, ckP, ckzP, ckbP, u2S, u2N, u2T, ↓Option.bind_some, inB_T, inB_F, Bool.false_eq_true, m_in0, m_in1, u3]
        · simp (disch := omega) only [reduceIte, ltT, ltF, eqT, eqF, leT, leF, wwP, ckP, ckzP, ckbP, u2S, u2N, u2T, ↓Option.bind_some, inB_T, inB_F, Bool.false_eq_true, m_in0, m_in1, hM.r239]
          rw [show FU = 19999 + 1 from rfl, m_judge_L34]
          simp (disch := omega) only [reduceIte, ltT, ltF, eqT, eqF, leT, leF, wwP, ckP, ckzP, ckbP, u2S, u2N, u2T, ↓Option.bind_some, inB_T, inB_F, Bool.false_eq_true, m_in0, m_in1, hM.r239]
      · have u2'' : h 166 a = A 239 a := by rw [u2', if_neg c2]
        by_cases c3 : A 239 a = 3
        · rcases Int.lt_or_le b 0 with c | c
          · refine ⟨100 + 0, ?_, ?_⟩
            · simp (disch := omega) only [reduceIte, ltT, ltF, eqT, eqF, leT, leF, wwP, ckP, ckzP, ckbP, u2S, u2N, u2T, ↓Option.bind_some, inB_T, inB_F, Bool.false_eq_true, m_in0, m_in1, ww_tapeT, u2'', c3]
              rw [show FU = 19999 + 1 from rfl, x_judge_L35]
              unfold x_hasItem
              rw [Int.add_zero]
              simp (disch := omega) only [reduceIte, ltT, ltF, eqT, eqF, leT, leF, wwP, ckP, ckzP, ckbP, u2S, u2N, u2T, ↓Option.bind_some, inB_T, inB_F, Bool.false_eq_true, m_in0, m_in1, u3]
            · simp (disch := omega) only [reduceIte, ltT, ltF, eqT, eqF, leT, leF, wwP, ckP, ckzP, ckbP, u2S, u2N, u2T, ↓Option.bind_some, inB_T, inB_F, Bool.false_eq_true, m_in0, m_in1, hM.r239, c3]
              rw [show FU = 19999 + 1 from rfl, m_judge_L34]
              simp (disch := omega) only [reduceIte, ltT, ltF, eqT, eqF, leT, leF, wwP, ckP, ckzP, ckbP, u2S, u2N, u2T, ↓Option.bind_some, inB_T, inB_F, Bool.false_eq_true, m_in0, m_in1, hM.r239, c3]
          · obtain ⟨r, i1, i2⟩ := jd_L c1 ⟨c, hb.2⟩ T c2 hX.2.1.2.2.2.2.2.2.2.2.1 hM.r239 hM.r240 hM.r241 hM.r198 5 FU 0 rfl (by omega) (.inl rfl) (by decide)
            refine ⟨r, ?_, ?_⟩
            · simp (disch := omega) only [reduceIte, ltT, ltF, eqT, eqF, leT, leF, wwP, ckP, ckzP, ckbP, u2S, u2N, u2T, ↓Option.bind_some, inB_T, inB_F, Bool.false_eq_true, m_in0, m_in1, ww_tapeT, u2'', c3]
              exact i1
            · simp (disch := omega) only [reduceIte, ltT, ltF, eqT, eqF, leT, leF, wwP, ckP, ckzP, ckbP, u2S, u2N, u2T, ↓Option.bind_some, inB_T, inB_F, Bool.false_eq_true, m_in0, m_in1, hM.r239, c3]
              exact i2
        · exact ⟨-12, by simp (disch := omega) only [reduceIte, ltT, ltF, eqT, eqF, leT, leF, wwP, ckP, ckzP, ckbP, u2S, u2N, u2T, ↓Option.bind_some, inB_T, inB_F, Bool.false_eq_true, m_in0, m_in1, ww_tapeT, u2''], by simp (disch := omega) only [reduceIte, ltT, ltF, eqT, eqF, leT, leF, wwP, ckP, ckzP, ckbP, u2S, u2N, u2T, ↓Option.bind_some, inB_T, inB_F, Bool.false_eq_true, m_in0, m_in1, hM.r239]⟩
    · exact ⟨-1, by simp (disch := omega) only [reduceIte, ltT, ltF, eqT, eqF, leT, leF, wwP, ckP, ckzP, ckbP, u2S, u2N, u2T, ↓Option.bind_some, inB_T, inB_F, Bool.false_eq_true, m_in0, m_in1, ww_tapeT, ww_tapeF], by simp (disch := omega) only [reduceIte, ltT, ltF, eqT, eqF, leT, leF, wwP, ckP, ckzP, ckbP, u2S, u2N, u2T, ↓Option.bind_some, inB_T, inB_F, Bool.false_eq_true, m_in0, m_in1]⟩
  obtain ⟨r, i1, i2⟩ := e
  exact glueR F I0 i1 i2 rfl
/- tape -/
def tapeZ (A : HH) (t j : Int) : HH := fun c i => if c = 241 ∧ 60 * t ≤ i ∧ i < 60 * t + j then 0 else A c i
theorem tapeZ_at {A : HH} {t j c i : Int} : tapeZ A t j c i = if c = 241 ∧ 60 * t ≤ i ∧ i < 60 * t + j then 0 else A c i := rfl
theorem tapeZN {A : HH} {t j c i : Int} (h : c ≠ 241 ∨ i < 60 * t ∨ 60 * t + j ≤ i) : tapeZ A t j c i = A c i := by rw [tapeZ_at, if_neg (by omega)]
theorem tapeZT {A : HH} {t j c i : Int} (h : c = 241 ∧ 60 * t ≤ i ∧ i < 60 * t + j) : tapeZ A t j c i = 0 := by rw [tapeZ_at, if_pos h]
theorem flA_at {h : HH} {k n v a b : Int} : flA h k n v a b = if a = k ∧ 0 ≤ b ∧ b < n then v else h a b := rfl
theorem flAN {h : HH} {k n v a b : Int} (q : a ≠ k ∨ b < 0 ∨ n ≤ b) : flA h k n v a b = h a b := by rw [flA_at, if_neg (by omega)]
theorem flAT {h : HH} {k n v a b : Int} (q : a = k ∧ 0 ≤ b ∧ b < n) : flA h k n v a b = v := by rw [flA_at, if_pos q]
def setT (A : HH) (t s n : Int) : HH := tapeZ (u2 (u2 A 239 t s) 240 t n) t 60
def sTape (A : HH) (t s n : Int) : Int × HH := if inB t 0 6 then (if inB s (-1) 5 then (if s < 0 then (1, setT A t s 0) else if 60 < n then (-2, A) else if n < 0 then (-14, A) else (1, setT A t s n)) else (-2, A)) else (-1, A)
theorem M_tape_L {k A : HH} {t : Int} (ht : 0 ≤ t ∧ t < 6) : ∀ (d n : Nat) (h : HH) (x : Int), x + d = 60 → 0 ≤ x → d < n → MR k h (tapeZ A t x) → ∃ h', m_tape_L69 t n h x = some (1, h') ∧ MR k h' (tapeZ A t 60) := by
  intro d
  induction d with
  | zero =>
    intro n h x e h0 hn H
    obtain ⟨n, rfl⟩ : ∃ m, n = m + 1 := ⟨n - 1, by omega⟩
    have e : x = 60 := by omega
    subst e
    rw [m_tape_L69]
    simp (disch := omega) only [reduceIte, ltT, ltF, eqT, eqF, leT, leF, wwP, ckP, ckzP, ckbP, u2S, u2N, u2T, ↓Option.bind_some, inB_T, inB_F, Bool.false_eq_true, m_in0, m_in1]
    exact ⟨_, rfl, H⟩
  | succ d ih =>
    intro n h x e h0 hn H
    obtain ⟨n, rfl⟩ : ∃ m, n = m + 1 := ⟨n - 1, by omega⟩
    rw [m_tape_L69]
    simp (disch := omega) only [reduceIte, ltT, ltF, eqT, eqF, leT, leF, wwP, ckP, ckzP, ckbP, u2S, u2N, u2T, ↓Option.bind_some, inB_T, inB_F, Bool.false_eq_true, m_in0, m_in1]
    refine ih n _ (x + 1) (by omega) (by omega) (by omega) ((H.w (c := 241) (j := 60 * t + x) (v := 0) (by omega)).eq fun a b q => ?_)
    rw [tapeZ_at]
    by_cases w : a = 241 ∧ b = 60 * t + x
    · rw [u2T w, if_pos (by omega)]
    · rw [u2N (by omega), tapeZ_at]
      by_cases w2 : a = 241 ∧ 60 * t ≤ b ∧ b < 60 * t + x
      · rw [if_pos w2, if_pos (by omega)]
      · rw [if_neg w2, if_neg (by omega)]
theorem M_setT {k h A : HH} {t s n : Int} (H : MR k h A) (ht : 0 ≤ t ∧ t < 6) : ∃ h', m_tape_L69 t FU (u2 (u2 h 239 t s) 240 t n) 0 = some (1, h') ∧ MR k h' (setT A t s n) := by
  refine M_tape_L ht 60 FU _ 0 rfl (by omega) (by decide) (((H.w (c := 239) (j := t) (v := s) (by omega)).w (c := 240) (j := t) (v := n) (by omega)).eq fun a b q => ?_)
  rw [tapeZ_at, if_neg (by omega)]
theorem M_tape {k h A : HH} (H : MR k h A) {t s n : Int} (ht : -2147483648 ≤ t ∧ t ≤ 2147483647) (hs : -2147483648 ≤ s ∧ s ≤ 2147483647) (hn : -2147483648 ≤ n ∧ n ≤ 2147483647) : ∃ h', m_tape h t s n = some ((sTape A t s n).1, h') ∧ MR k h' (sTape A t s n).2 := by
  unfold sTape m_tape m_isTape
  by_cases c1 : 0 ≤ t ∧ t < 6
  · by_cases c2 : -1 ≤ s ∧ s < 5
    · by_cases c3 : s < 0
      · obtain ⟨h1, e1, H1⟩ := M_setT (s := s) (n := 0) H c1
        simp (disch := omega) only [reduceIte, ltT, ltF, eqT, eqF, leT, leF, wwP, ckP, ckzP, ckbP, u2S, u2N, u2T, ↓Option.bind_some, inB_T, inB_F, Bool.false_eq_true, m_in0, m_in1, e1]
        exact ⟨_, rfl, H1⟩
      · by_cases c4 : 60 < n
        · simp (disch := omega) only [reduceIte, ltT, ltF, eqT, eqF, leT, leF, wwP, ckP, ckzP, ckbP, u2S, u2N, u2T, ↓Option.bind_some, inB_T, inB_F, Bool.false_eq_true, m_in0, m_in1]
          exact ⟨_, rfl, H⟩
        · by_cases c5 : n < 0
          · simp (disch := omega) only [reduceIte, ltT, ltF, eqT, eqF, leT, leF, wwP, ckP, ckzP, ckbP, u2S, u2N, u2T, ↓Option.bind_some, inB_T, inB_F, Bool.false_eq_true, m_in0, m_in1]
            exact ⟨_, rfl, H⟩
          · obtain ⟨h1, e1, H1⟩ := M_setT (s := s) (n := n) H c1
            simp (disch := omega) only [reduceIte, ltT, ltF, eqT, eqF, leT, leF, wwP, ckP, ckzP, ckbP, u2S, u2N, u2T, ↓Option.bind_some, inB_T, inB_F, Bool.false_eq_true, m_in0, m_in1, e1]
            exact ⟨_, rfl, H1⟩
    · simp (disch := omega) only [reduceIte, ltT, ltF, eqT, eqF, leT, leF, wwP, ckP, ckzP, ckbP, u2S, u2N, u2T, ↓Option.bind_some, inB_T, inB_F, Bool.false_eq_true, m_in0, m_in1]
      exact ⟨_, rfl, H⟩
  · simp (disch := omega) only [reduceIte, ltT, ltF, eqT, eqF, leT, leF, wwP, ckP, ckzP, ckbP, u2S, u2N, u2T, ↓Option.bind_some, inB_T, inB_F, Bool.false_eq_true, m_in0, m_in1]
    exact ⟨_, rfl, H⟩
theorem X_tape {S : SS} {k h A : HH} {O : Int → List CL} (H : XR S k h A O) {t s n : Int} (ht : -2147483648 ≤ t ∧ t ≤ 2147483647) (hs : -2147483648 ≤ s ∧ s ≤ 2147483647) (hn : -2147483648 ≤ n ∧ n ≤ 2147483647) : ∃ h', x_tape h t s n = some ((sTape A t s n).1, h') ∧ XR S k h' (sTape A t s n).2 O := by
  have T : XTT h A := H.2.2.2.1.2.2.2.1
  unfold x_tape sTape
  by_cases c1 : 0 ≤ t ∧ t < 6
  · by_cases c2 : s = -1
    · subst c2
      simp (disch := omega) only [reduceIte, ltT, ltF, eqT, eqF, leT, leF, wwP, ckP, ckzP, ckbP, u2S, u2N, u2T, ↓Option.bind_some, inB_T, inB_F, Bool.false_eq_true, m_in0, m_in1, ww_tapeT]
      refine ⟨_, rfl, H.tapes (fun c j q => by simp (disch := omega) only [u2S, u2N, u2T]) (fun c j q => by unfold setT; rw [tapeZ_at, if_neg (by omega)]; simp (disch := omega) only [u2S, u2N, u2T]) fun u p q => ?_⟩
      obtain ⟨v1, v2, v3, v4, v5, v6⟩ := T u p q
      unfold setT
      by_cases e : u = t
      · subst e
        simp (disch := omega) only [u2S, u2N, u2T, tapeZN, tapeZT, flAN, flAT]
        exact ⟨.inl trivial, rfl, trivial, by decide, fun _ => trivial, by intros; omega⟩
      · simp (disch := omega) only [u2S, u2N, u2T, tapeZN, tapeZT, flAN, flAT]
        refine ⟨v1, v2, v3, v4, v5, fun i y z => ?_⟩
        simp (disch := omega) only [u2S, u2N, u2T, tapeZN, tapeZT, flAN, flAT]
        exact v6 i y z
    · by_cases c3 : 0 ≤ s ∧ s < 5
      · by_cases c4 : 60 < n
        · simp (disch := omega) only [reduceIte, ltT, ltF, eqT, eqF, leT, leF, wwP, ckP, ckzP, ckbP, u2S, u2N, u2T, ↓Option.bind_some, inB_T, inB_F, Bool.false_eq_true, m_in0, m_in1, ww_tapeT]
          exact ⟨_, rfl, H⟩
        · by_cases c5 : n < 0
          · simp (disch := omega) only [reduceIte, ltT, ltF, eqT, eqF, leT, leF, wwP, ckP, ckzP, ckbP, u2S, u2N, u2T, ↓Option.bind_some, inB_T, inB_F, Bool.false_eq_true, m_in0, m_in1, ww_tapeT]
            exact ⟨_, rfl, H⟩
          · simp (disch := omega) only [reduceIte, ltT, ltF, eqT, eqF, leT, leF, wwP, ckP, ckzP, ckbP, u2S, u2N, u2T, ↓Option.bind_some, inB_T, inB_F, Bool.false_eq_true, m_in0, m_in1, ww_tapeT]
            refine ⟨_, rfl, H.tapes (fun c j q => by rw [flA_at, if_neg (by omega)]; simp (disch := omega) only [u2S, u2N, u2T]) (fun c j q => by unfold setT; rw [tapeZ_at, if_neg (by omega)]; simp (disch := omega) only [u2S, u2N, u2T]) fun u p q => ?_⟩
            obtain ⟨v1, v2, v3, v4, v5, v6⟩ := T u p q
            unfold setT
            by_cases e : u = t
            · subst e
              simp (disch := omega) only [u2S, u2N, u2T, tapeZN, tapeZT, flAN, flAT]
              refine ⟨by omega, by rw [if_neg (by omega)], trivial, by omega, by intros; omega, fun i y z => ?_⟩
              simp (disch := omega) only [u2S, u2N, u2T, tapeZN, tapeZT, flAN, flAT]
            · simp (disch := omega) only [u2S, u2N, u2T, tapeZN, tapeZT, flAN, flAT]
              refine ⟨v1, v2, v3, v4, v5, fun i y z => ?_⟩
              simp (disch := omega) only [u2S, u2N, u2T, tapeZN, tapeZT, flAN, flAT]
              exact v6 i y z
      · rcases Int.lt_or_le s 0 with d | d <;> simp (disch := omega) only [reduceIte, ltT, ltF, eqT, eqF, leT, leF, wwP, ckP, ckzP, ckbP, u2S, u2N, u2T, ↓Option.bind_some, inB_T, inB_F, Bool.false_eq_true, m_in0, m_in1, ww_tapeT] <;> exact ⟨_, rfl, H⟩
  · simp (disch := omega) only [reduceIte, ltT, ltF, eqT, eqF, leT, leF, wwP, ckP, ckzP, ckbP, u2S, u2N, u2T, ↓Option.bind_some, inB_T, inB_F, Bool.false_eq_true, m_in0, m_in1, ww_tapeT, ww_tapeF]
    exact ⟨_, rfl, H⟩
theorem A_tape {A : HH} (H : AOK A) {t s n : Int} : AOK (sTape A t s n).2 := by
  unfold sTape
  have K : ∀ m, AOK (setT A t s m) := fun m => H.tape (fun c j q => by unfold setT; unfold tapeC at q; rw [tapeZ_at, if_neg (by omega)]; simp (disch := omega) only [u2S, u2N, u2T])
  repeat' split
  all_goals first | exact H | exact K _
theorem st_tape {S : SS} {h : HH} {t s n : Int} (F : Fx S) (I : Inv h S) (ht : -2147483648 ≤ t ∧ t ≤ 2147483647) (hs : -2147483648 ≤ s ∧ s ≤ 2147483647) (hn : -2147483648 ≤ n ∧ n ≤ 2147483647) : ∃ r, ((x_tape h t s n).bind fun q => (m_tape q.2 t s n).bind fun q1 => if ww q.1 = ww q1.1 then some (q1.2, S) else none) = some r ∧ Fx r.2 ∧ Inv r.1 r.2 := by
  obtain ⟨A, O, hA, hX, hM⟩ := I
  obtain ⟨h1, e1, X1⟩ := X_tape hX ht hs hn
  rw [e1]
  exact glueW F (A_tape hA) X1 hM (fun k h H => M_tape H ht hs hn) rfl
