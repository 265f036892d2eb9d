/- shift -/
def shA (A : HH) (s d n : Int) : HH := fun c i => if c = 241 ∧ d ≤ i ∧ i < d + n then A 241 (s + (i - d)) else A c i
theorem shA_at {A : HH} {s d n c i : Int} : shA A s d n c i = if c = 241 ∧ d ≤ i ∧ i < d + n then A 241 (s + (i - d)) else A c i := rfl
theorem shAN {A : HH} {s d n c i : Int} (h : c ≠ 241 ∨ i < d ∨ d + n ≤ i) : shA A s d n c i = A c i := by rw [shA_at, if_neg (by omega)]
theorem shAT {A : HH} {s d n c i : Int} (h : c = 241 ∧ d ≤ i ∧ i < d + n) : shA A s d n c i = A 241 (s + (i - d)) := by rw [shA_at, if_pos h]
def sShift (A : HH) (a i b j n : Int) : Int × HH := if inB a 0 6 then (if inB b 0 6 then (if A 239 a < 0 then (-11, A) else if A 239 b < 0 then (-11, A) else if A 239 a = A 239 b then (if n < 0 then (-13, A) else if i < 0 then (-13, A) else if j < 0 then (-13, A) else if A 240 a < i + n then (-13, A) else if A 240 b < j + n then (-13, A) else (n, shA A (60 * a + i) (60 * b + j) n)) else (-12, A)) else (-1, A)) else (-1, A)
theorem M_sh1 {k A : HH} {a i b j n : Int} (ha : 0 ≤ a ∧ a < 6) (hi : 0 ≤ i ∧ i + n ≤ 60) (hn : 0 ≤ n) (kk : HH → Option (Int × HH)) (r : Int × HH → Prop) (hk : ∀ h, MR k h A → (∀ x, 0 ≤ x → x < n → h 242 x = A 241 (60 * a + i + x)) → ∃ q, kk h = some q ∧ r q) : ∀ (d m : Nat) (h : HH) (x : Int), x + d = n → 0 ≤ x → d < m → MR k h A → (∀ y, 0 ≤ y → y < x → h 242 y = A 241 (60 * a + i + y)) → ∃ q, m_shift_L104 a i b j n kk m h x = some q ∧ r q := by
  intro d
  induction d with
  | zero =>
    intro m h x e h0 hm H hy
    obtain ⟨m, rfl⟩ : ∃ m', m = m' + 1 := ⟨m - 1, by omega⟩
    have e : x = n := by omega
    subst e
    rw [m_shift_L104]
    simp (disch := omega) only [reduceIte, ltT, ltF, eqT, eqF, leT, leF, wwP, ckP, ckzP, ckbP, u2S, u2N, u2T, ↓Option.bind_some, inB_T, inB_F, Bool.false_eq_true, m_in0, m_in1]
    exact hk h H hy
  | succ d ih =>
    intro m h x e h0 hm H hy
    obtain ⟨m, rfl⟩ : ∃ m', m = m' + 1 := ⟨m - 1, by omega⟩
    rw [m_shift_L104]
    simp (disch := omega) only [reduceIte, ltT, ltF, eqT, eqF, leT, leF, wwP, ckP, ckzP, ckbP, u2S, u2N, u2T, ↓Option.bind_some, inB_T, inB_F, Bool.false_eq_true, m_in0, m_in1, H.r241]
    refine ih m _ (x + 1) (by omega) (by omega) (by omega) (H.sc (by omega) (by unfold rel; omega)) fun y p q => ?_
    by_cases w : y = x
    · subst w; simp (disch := omega) only [u2S, u2N, u2T]
    · simp (disch := omega) only [u2S, u2N, u2T]; exact hy y p (by omega)
theorem M_sh2 {k A : HH} {s b j n : Int} (hb : 0 ≤ b ∧ b < 6) (hj : 0 ≤ j ∧ j + n ≤ 60) (hn : 0 ≤ n) : ∀ (d m : Nat) (h : HH) (x : Int), x + d = n → 0 ≤ x → d < m → MR k h (shA A s (60 * b + j) x) → (∀ y, 0 ≤ y → y < n → h 242 y = A 241 (s + y)) → ∃ h', m_shift_L141 b j n m h x = some (n, h') ∧ MR k h' (shA A s (60 * b + j) n) := by
  intro d
  induction d with
  | zero =>
    intro m h x e h0 hm H hy
    obtain ⟨m, rfl⟩ : ∃ m', m = m' + 1 := ⟨m - 1, by omega⟩
    have e : x = n := by omega
    subst e
    rw [m_shift_L141]
    simp (disch := omega) only [reduceIte, ltT, ltF, eqT, eqF, leT, leF, wwP, ckP, ckzP, ckbP, u2S, u2N, u2T, ↓Option.bind_some, inB_T, inB_F, Bool.false_eq_true, m_in0, m_in1]
    exact ⟨_, rfl, H⟩
  | succ d ih =>
    intro m h x e h0 hm H hy
    obtain ⟨m, rfl⟩ : ∃ m', m = m' + 1 := ⟨m - 1, by omega⟩
    rw [m_shift_L141]
    have g := hy x h0 (by omega)
    simp (disch := omega) only [reduceIte, ltT, ltF, eqT, eqF, leT, leF, wwP, ckP, ckzP, ckbP, u2S, u2N, u2T, ↓Option.bind_some, inB_T, inB_F, Bool.false_eq_true, m_in0, m_in1, g]
    refine ih m _ (x + 1) (by omega) (by omega) (by omega) ((H.w (c := 241) (j := 60 * b + j + x) (v := A 241 (s + x)) (by omega)).eq fun p q z => ?_) fun y p q => ?_
    · by_cases w : p = 241 ∧ q = 60 * b + j + x
      · rw [u2T w, shAT (by omega)]
        congr 1
        omega
      · rw [u2N (by omega)]
        by_cases w2 : p = 241 ∧ 60 * b + j ≤ q ∧ q < 60 * b + j + x
        · rw [shAT (by omega), shAT (by omega)]
        · rw [shAN (by omega), shAN (by omega)]
    · simp (disch := omega) only [u2S, u2N, u2T]; exact hy y p q
theorem M_shift {k h A : HH} (H : MR k h A) (T : ∀ t, 0 ≤ t → t < 6 → (A 239 t = -1 ∨ (0 ≤ A 239 t ∧ A 239 t ≤ 4)) ∧ (0 ≤ A 240 t ∧ A 240 t ≤ 60)) {a i b j n : Int} (ha : -2147483648 ≤ a ∧ a ≤ 2147483647) (hi : -2147483648 ≤ i ∧ i ≤ 2147483647) (hb : -2147483648 ≤ b ∧ b ≤ 2147483647) (hj : -2147483648 ≤ j ∧ j ≤ 2147483647) (hn : -2147483648 ≤ n ∧ n ≤ 2147483647) : ∃ h', m_shift h a i b j n = some ((sShift A a i b j n).1, h') ∧ MR k h' (sShift A a i b j n).2 := by
  unfold sShift m_shift m_isTape
  by_cases c1 : 0 ≤ a ∧ a < 6
  · by_cases c2 : 0 ≤ b ∧ b < 6
    · have u1 := T a c1.1 c1.2
      have u2' := T b c2.1 c2.2
      by_cases c3 : A 239 a < 0
      · simp (disch := omega) only [reduceIte, ltT, ltF, eqT, eqF, leT, leF, wwP, ckP, ckzP, ckbP, u2S, u2N, u2T, ↓Option.bind_some, inB_T, inB_F, Bool.false_eq_true, m_in0, m_in1, H.r239]; exact ⟨_, rfl, H⟩
      by_cases c4 : A 239 b < 0
      · simp (disch := omega) only [reduceIte, ltT, ltF, eqT, eqF, leT, leF, wwP, ckP, ckzP, ckbP, u2S, u2N, u2T, ↓Option.bind_some, inB_T, inB_F, Bool.false_eq_true, m_in0, m_in1, H.r239]; exact ⟨_, rfl, H⟩
      by_cases c5 : A 239 a = A 239 b
      · by_cases c6 : n < 0
        · simp (disch := omega) only [reduceIte, ltT, ltF, eqT, eqF, leT, leF, wwP, ckP, ckzP, ckbP, u2S, u2N, u2T, ↓Option.bind_some, inB_T, inB_F, Bool.false_eq_true, m_in0, m_in1, H.r239]; exact ⟨_, rfl, H⟩
        by_cases c7 : i < 0
        · simp (disch := omega) only [reduceIte, ltT, ltF, eqT, eqF, leT, leF, wwP, ckP, ckzP, ckbP, u2S, u2N, u2T, ↓Option.bind_some, inB_T, inB_F, Bool.false_eq_true, m_in0, m_in1, H.r239]; exact ⟨_, rfl, H⟩
        by_cases c8 : j < 0
        · simp (disch := omega) only [reduceIte, ltT, ltF, eqT, eqF, leT, leF, wwP, ckP, ckzP, ckbP, u2S, u2N, u2T, ↓Option.bind_some, inB_T, inB_F, Bool.false_eq_true, m_in0, m_in1, H.r239]; exact ⟨_, rfl, H⟩
        by_cases c9 : A 240 a < i + n
        · simp (disch := omega) only [reduceIte, ltT, ltF, eqT, eqF, leT, leF, wwP, ckP, ckzP, ckbP, u2S, u2N, u2T, ↓Option.bind_some, inB_T, inB_F, Bool.false_eq_true, m_in0, m_in1, H.r239, H.r240]; exact ⟨_, rfl, H⟩
        by_cases c10 : A 240 b < j + n
        · simp (disch := omega) only [reduceIte, ltT, ltF, eqT, eqF, leT, leF, wwP, ckP, ckzP, ckbP, u2S, u2N, u2T, ↓Option.bind_some, inB_T, inB_F, Bool.false_eq_true, m_in0, m_in1, H.r239, H.r240]; exact ⟨_, rfl, H⟩
        simp (disch := omega) only [reduceIte, ltT, ltF, eqT, eqF, leT, leF, wwP, ckP, ckzP, ckbP, u2S, u2N, u2T, ↓Option.bind_some, inB_T, inB_F, Bool.false_eq_true, m_in0, m_in1, H.r239, H.r240]
        obtain ⟨q, e, h', rfl, H'⟩ := M_sh1 (k := k) (A := A) (a := a) (i := i) (b := b) (j := j) (n := n) c1 (by omega) (by omega) (fun h1 => m_shift_L141 b j n FU h1 0) (fun q => ∃ h', q = (n, h') ∧ MR k h' (shA A (60 * a + i) (60 * b + j) n)) (fun h1 H1 hy => by
          obtain ⟨h', e, H'⟩ := M_sh2 (k := k) (A := A) (s := 60 * a + i) (b := b) (j := j) (n := n) c2 (by omega) (by omega) n.toNat FU h1 0 (by omega) (by omega) (by unfold FU; omega) (H1.eq fun p q z => by rw [shAN (by omega)]) hy
          exact ⟨_, e, h', rfl, H'⟩) n.toNat FU h 0 (by omega) (by omega) (by unfold FU; omega) H (fun y p q => by omega)
        rw [e]
        exact ⟨h', rfl, H'⟩
      · simp (disch := omega) only [reduceIte, ltT, ltF, eqT, eqF, leT, leF, wwP, ckP, ckzP, ckbP, u2S, u2N, u2T, ↓Option.bind_some, inB_T, inB_F, Bool.false_eq_true, m_in0, m_in1, H.r239]; exact ⟨_, rfl, H⟩
    · simp (disch := omega) only [reduceIte, ltT, ltF, eqT, eqF, leT, leF, wwP, ckP, ckzP, ckbP, u2S, u2N, u2T, ↓Option.bind_some, inB_T, inB_F, Bool.false_eq_true, m_in0, m_in1]; exact ⟨_, rfl, H⟩
  · simp (disch := omega) only [reduceIte, ltT, ltF, eqT, eqF, leT, leF, wwP, ckP, ckzP, ckbP, u2S, u2N, u2T, ↓Option.bind_some, inB_T, inB_F, Bool.false_eq_true, m_in0, m_in1]; exact ⟨_, rfl, H⟩
theorem hasItemsP {h A : HH} (T : XTT h A) {a i n : Int} (ha : 0 ≤ a ∧ a < 6) (hi : -2147483648 ≤ i ∧ i ≤ 2147483647) (hn : 0 ≤ n ∧ n ≤ 2147483647) : x_hasItems h a i n = some (if 0 ≤ i ∧ i + n ≤ A 240 a then 1 else 0) := by
  obtain ⟨u1, u2', u3, u4, u5, u6⟩ := T a ha.1 ha.2
  unfold x_hasItems
  rcases tri i (lo := 0) (hi := A 240 a + 1) (by omega) with c | c | c
  · rw [if_neg (by omega : ¬ (0 ≤ i ∧ _))]; simp (disch := omega) only [reduceIte, ltT, ltF, eqT, eqF, leT, leF, wwP, ckP, ckzP, ckbP, u2S, u2N, u2T, ↓Option.bind_some, inB_T, inB_F, Bool.false_eq_true, m_in0, m_in1]
  · by_cases d : i + n ≤ A 240 a
    · rw [if_pos (by omega : 0 ≤ i ∧ i + n ≤ A 240 a)]; simp (disch := omega) only [reduceIte, ltT, ltF, eqT, eqF, leT, leF, wwP, ckP, ckzP, ckbP, u2S, u2N, u2T, ↓Option.bind_some, inB_T, inB_F, Bool.false_eq_true, m_in0, m_in1, u3]
    · rw [if_neg (by omega : ¬ (0 ≤ i ∧ i + n ≤ A 240 a))]; simp (disch := omega) only [reduceIte, ltT, ltF, eqT, eqF, leT, leF, wwP, ckP, ckzP, ckbP, u2S, u2N, u2T, ↓Option.bind_some, inB_T, inB_F, Bool.false_eq_true, m_in0, m_in1, u3]
  · rw [if_neg (by omega : ¬ (0 ≤ i ∧ i + n ≤ A 240 a))]; simp (disch := omega) only [reduceIte, ltT, ltF, eqT, eqF, leT, leF, wwP, ckP, ckzP, ckbP, u2S, u2N, u2T, ↓Option.bind_some, inB_T, inB_F, Bool.false_eq_true, m_in0, m_in1, u3]
theorem cpA_at {h : HH} {k0 sp k1 dp n a b : Int} : cpA h k0 sp k1 dp n a b = if a = k1 ∧ dp ≤ b ∧ b < dp + n then h k0 (sp + (b - dp)) else h a b := rfl
theorem cpAN {h : HH} {k0 sp k1 dp n a b : Int} (q : a ≠ k1 ∨ b < dp ∨ dp + n ≤ b) : cpA h k0 sp k1 dp n a b = h a b := by rw [cpA_at, if_neg (by omega)]
theorem cpAT {h : HH} {k0 sp k1 dp n a b : Int} (q : a = k1 ∧ dp ≤ b ∧ b < dp + n) : cpA h k0 sp k1 dp n a b = h k0 (sp + (b - dp)) := by rw [cpA_at, if_pos q]
theorem cknP {α : Type} {i : Int} {x : Option α} (h : ¬ i < 0) : ckn i x = x := by unfold ckn; rw [if_neg h]
theorem X_shift {S : SS} {k h A : HH} {O : Int → List CL} (H : XR S k h A O) {a i b j n : Int} (ha : -2147483648 ≤ a ∧ a ≤ 2147483647) (hi : -2147483648 ≤ i ∧ i ≤ 2147483647) (hb : -2147483648 ≤ b ∧ b ≤ 2147483647) (hj : -2147483648 ≤ j ∧ j ≤ 2147483647) (hn : -2147483648 ≤ n ∧ n ≤ 2147483647) : ∃ h', x_shift h a i b j n = some ((sShift A a i b j n).1, h') ∧ XR S k h' (sShift A a i b j n).2 O := by
  have T : XTT h A := H.2.2.2.1.2.2.2.1
  unfold sShift x_shift
  by_cases c1 : 0 ≤ a ∧ a < 6
  · by_cases c2 : 0 ≤ b ∧ b < 6
    · have u1 := T a c1.1 c1.2
      have w1 := T b c2.1 c2.2
      by_cases c3 : A 239 a < 0
      · have e1 : h 166 a = -5 := by rw [u1.2.1, if_pos c3]
        simp (disch := omega) only [reduceIte, ltT, ltF, eqT, eqF, leT, leF, wwP, ckP, ckzP, ckbP, u2S, u2N, u2T, ↓Option.bind_some, inB_T, inB_F, Bool.false_eq_true, m_in0, m_in1, ww_tapeT, ww_tapeF, e1]; exact ⟨_, rfl, H⟩
      have e1 : h 166 a = A 239 a := by rw [u1.2.1, if_neg c3]
      by_cases c4 : A 239 b < 0
      · have e2 : h 166 b = -5 := by rw [w1.2.1, if_pos c4]
        simp (disch := omega) only [reduceIte, ltT, ltF, eqT, eqF, leT, leF, wwP, ckP, ckzP, ckbP, u2S, u2N, u2T, ↓Option.bind_some, inB_T, inB_F, Bool.false_eq_true, m_in0, m_in1, ww_tapeT, ww_tapeF, e1, e2]; exact ⟨_, rfl, H⟩
      have e2 : h 166 b = A 239 b := by rw [w1.2.1, if_neg c4]
      have b1 := u1.1
      have b2 := w1.1
      have b3 := u1.2.2.2.1
      have b4 := w1.2.2.2.1
      by_cases c5 : A 239 a = A 239 b
      · by_cases c6 : n < 0
        · simp (disch := omega) only [reduceIte, ltT, ltF, eqT, eqF, leT, leF, wwP, ckP, ckzP, ckbP, u2S, u2N, u2T, ↓Option.bind_some, inB_T, inB_F, Bool.false_eq_true, m_in0, m_in1, ww_tapeT, ww_tapeF, e1, e2]; exact ⟨_, rfl, H⟩
        have g1 := hasItemsP T (a := a) (i := i) (n := n) c1 hi (by omega)
        have g2 := hasItemsP T (a := b) (i := j) (n := n) c2 hj (by omega)
        by_cases c7 : 0 ≤ i ∧ i + n ≤ A 240 a
        · rw [if_pos c7] at g1
          by_cases c8 : 0 ≤ j ∧ j + n ≤ A 240 b
          · rw [if_pos c8] at g2
            simp (disch := omega) only [reduceIte, ltT, ltF, eqT, eqF, leT, leF, wwP, ckP, ckzP, ckbP, u2S, u2N, u2T, ↓Option.bind_some, inB_T, inB_F, Bool.false_eq_true, m_in0, m_in1, ww_tapeT, ww_tapeF, e1, e2, g1, g2, cknP]
            refine ⟨_, rfl, H.tapes (fun c l q => cpAN (by omega)) (fun c l q => shAN (by omega)) fun t p q => ?_⟩
            obtain ⟨v1, v2, v3, v4, v5, v6⟩ := T t p q
            simp (disch := omega) only [u2S, u2N, u2T, shAN, cpAN]
            refine ⟨v1, v2, v3, v4, v5, fun x y z => ?_⟩
            by_cases w : t = b ∧ j ≤ x ∧ x < j + n
            · rw [cpAT (by omega), shAT (by omega), u1.2.2.2.2.2 (i + (x - j)) (by omega) (by omega)]
              congr 1
              omega
            · rw [cpAN (by omega), shAN (by omega)]; exact v6 x y z
          · rw [if_neg c8] at g2
            by_cases d1 : j < 0
            · simp (disch := omega) only [reduceIte, ltT, ltF, eqT, eqF, leT, leF, wwP, ckP, ckzP, ckbP, u2S, u2N, u2T, ↓Option.bind_some, inB_T, inB_F, Bool.false_eq_true, m_in0, m_in1, ww_tapeT, ww_tapeF, e1, e2, g1, g2]; exact ⟨_, rfl, H⟩
            · simp (disch := omega) only [reduceIte, ltT, ltF, eqT, eqF, leT, leF, wwP, ckP, ckzP, ckbP, u2S, u2N, u2T, ↓Option.bind_some, inB_T, inB_F, Bool.false_eq_true, m_in0, m_in1, ww_tapeT, ww_tapeF, e1, e2, g1, g2]; exact ⟨_, rfl, H⟩
        · rw [if_neg c7] at g1
          by_cases d1 : i < 0
          · simp (disch := omega) only [reduceIte, ltT, ltF, eqT, eqF, leT, leF, wwP, ckP, ckzP, ckbP, u2S, u2N, u2T, ↓Option.bind_some, inB_T, inB_F, Bool.false_eq_true, m_in0, m_in1, ww_tapeT, ww_tapeF, e1, e2, g1]; exact ⟨_, rfl, H⟩
          · by_cases d2 : j < 0
            · simp (disch := omega) only [reduceIte, ltT, ltF, eqT, eqF, leT, leF, wwP, ckP, ckzP, ckbP, u2S, u2N, u2T, ↓Option.bind_some, inB_T, inB_F, Bool.false_eq_true, m_in0, m_in1, ww_tapeT, ww_tapeF, e1, e2, g1]; exact ⟨_, rfl, H⟩
            · simp (disch := omega) only [reduceIte, ltT, ltF, eqT, eqF, leT, leF, wwP, ckP, ckzP, ckbP, u2S, u2N, u2T, ↓Option.bind_some, inB_T, inB_F, Bool.false_eq_true, m_in0, m_in1, ww_tapeT, ww_tapeF, e1, e2, g1]; exact ⟨_, rfl, H⟩
      · simp (disch := omega) only [reduceIte, ltT, ltF, eqT, eqF, leT, leF, wwP, ckP, ckzP, ckbP, u2S, u2N, u2T, ↓Option.bind_some, inB_T, inB_F, Bool.false_eq_true, m_in0, m_in1, ww_tapeT, ww_tapeF, e1, e2]; exact ⟨_, rfl, H⟩
    · simp (disch := omega) only [reduceIte, ltT, ltF, eqT, eqF, leT, leF, wwP, ckP, ckzP, ckbP, u2S, u2N, u2T, ↓Option.bind_some, inB_T, inB_F, Bool.false_eq_true, m_in0, m_in1, ww_tapeT, ww_tapeF]; exact ⟨_, rfl, H⟩
  · simp (disch := omega) only [reduceIte, ltT, ltF, eqT, eqF, leT, leF, wwP, ckP, ckzP, ckbP, u2S, u2N, u2T, ↓Option.bind_some, inB_T, inB_F, Bool.false_eq_true, m_in0, m_in1, ww_tapeT, ww_tapeF]; exact ⟨_, rfl, H⟩
theorem A_shift {A : HH} (H : AOK A) {a i b j n : Int} : AOK (sShift A a i b j n).2 := by
  unfold sShift
  have K : ∀ x y z, AOK (shA A x y z) := fun x y z => H.tape (fun c j q => by unfold tapeC at q; rw [shAN (by omega)])
  repeat' split
  all_goals first | exact H | exact K _ _ _
theorem st_shift {S : SS} {h : HH} {a i b j n : Int} (F : Fx S) (I : Inv h S) (ha : -2147483648 ≤ a ∧ a ≤ 2147483647) (hi : -2147483648 ≤ i ∧ i ≤ 2147483647) (hb : -2147483648 ≤ b ∧ b ≤ 2147483647) (hj : -2147483648 ≤ j ∧ j ≤ 2147483647) (hn : -2147483648 ≤ n ∧ n ≤ 2147483647) : ∃ r, ((x_shift h a i b j n).bind fun q => (m_shift q.2 a i b j n).bind fun q1 => if ww q.1 = ww q1.1 then some (q1.2, S) else none) = some r ∧ Fx r.2 ∧ Inv r.1 r.2 := by
  obtain ⟨A, O, hA, hX, hM⟩ := I
  obtain ⟨h1, e1, X1⟩ := X_shift hX ha hi hb hj hn
  rw [e1]
  exact glueW F (A_shift hA) X1 hM (fun k h H => M_shift H (tape_b hX.2.2.2.1.2.2.2.1) ha hi hb hj hn) rfl
