theorem zmaxE {a b : Int} (ha : -2147483648 ≤ a ∧ a ≤ 2147483647) (hb : -2147483648 ≤ b ∧ b ≤ 2147483647) : zmax a b = max a b := by
  unfold zmax
  rw [wwP ha, wwP hb]
  split <;> omega
theorem stB_b {fr : Int → Bool} {v : Int → Int} {M : Int} : ∀ (d : Nat) (p x : Int), (∀ q, p ≤ q → q < p + d → fr q = true → 0 ≤ v q ∧ v q ≤ M) → 0 ≤ x ∧ x ≤ M → 0 ≤ stB fr v d p x ∧ stB fr v d p x ≤ M
  | 0, _, _, _, hx => hx
  | d + 1, p, x, hv, hx => by
    rw [stB]
    refine stB_b d (p + 1) _ (fun q a b c => hv q (by omega) (by omega) c) ?_
    by_cases c : fr p = true
    · rw [if_pos c]
      have := hv p (by omega) (by omega) c
      omega
    · rw [if_neg c]; exact hx
def WB (ok : Int → Bool) (W : Int → Int → Int) : Prop := ∀ p t, 0 ≤ p → p < 6 → ok p = true → 0 ≤ t → t < 5 → 0 ≤ W p t ∧ W p t ≤ 1003000
theorem BB_b {ok : Int → Bool} {W : Int → Int → Int} (hW : WB ok W) : ∀ (d : Nat) (u : Int), d ≤ 5 → 0 ≤ BB ok W d u ∧ BB ok W d u ≤ 1003000 * d
  | 0, _, _ => by rw [BB]; omega
  | d + 1, u, hd => by
    rw [BB]
    have b0 := BB_b hW d u (by omega)
    have := stB_b (M := 1003000 * ((d + 1 : Nat) : Int)) (fr := frB ok u) (v := fun p => W p (4 - d) + BB ok W d (put u p)) 6 0 (BB ok W d u) (fun q q0 q1 c => by
      have c1 : ok q = true := by
        rw [frB, Bool.and_eq_true] at c
        exact c.1
      have := hW q (4 - d) q0 (by omega) c1 (by omega) (by omega)
      have := BB_b hW d (put u q) (by omega)
      show 0 ≤ W q (4 - d) + BB ok W d (put u q) ∧ W q (4 - d) + BB ok W d (put u q) ≤ _
      omega) (by omega)
    exact this
theorem put_b {u p : Int} (hu : 0 ≤ u ∧ u < 64) (hp : 0 ≤ p ∧ p < 6) : 0 ≤ put u p ∧ put u p < 64 := set_b hu hp
theorem X_fb_L29 {ok : Int → Bool} {W : Int → Int → Int} {P t u : Int} {dd : Nat} {h : HH} (hP : 0 ≤ P ∧ P < 64) (hok : ∀ p, 0 ≤ p → p < 6 → (ok p = true ↔ m_has P p = 1)) (hW : WB ok W) (hw : ∀ p, 0 ≤ p → p < 6 → ok p = true → h (153 + p) t = W p t) (ht : t = 4 - dd ∧ dd ≤ 4) (hB : ∀ u, 0 ≤ u → u < 64 → h (160 + (t + 1)) u = BB ok W dd u) (hu : 0 ≤ u ∧ u < 64) (kk : HH → Int → Option (Int × HH)) : ∀ (d n : Nat) (x p : Int), p + d = 6 → 0 ≤ p → d < n → 0 ≤ x ∧ x ≤ 6000000 → x_fillBest_L29 P t u kk n h x p = kk h (stB (frB ok u) (fun p => W p t + BB ok W dd (put u p)) d p x) := by
  intro d
  induction d with
  | zero =>
    intro n x p e p0 hn hx
    obtain ⟨n, rfl⟩ : ∃ m, n = m + 1 := ⟨n - 1, by omega⟩
    rw [x_fillBest_L29, if_neg (by rw [wwP (by omega)]; omega), stB]
  | succ d ih =>
    intro n x p e p0 hn hx
    obtain ⟨n, rfl⟩ : ∃ m, n = m + 1 := ⟨n - 1, by omega⟩
    rw [x_fillBest_L29, if_pos (by rw [wwP (by omega)]; omega), freeE hP hu ⟨p0, by omega⟩ (hok p p0 (by omega)), stB]
    by_cases c : frB ok u p = true
    · have c1 : ok p = true := by
        rw [frB, Bool.and_eq_true] at c
        exact c.1
      have pb := put_b hu (p := p) (by omega)
      have w1 := hW p t p0 (by omega) c1 (by omega) (by omega)
      have b1 := BB_b hW dd (put u p) (by omega)
      rw [if_pos c, if_pos c, if_neg (by decide)]
      have e1 : zor u (zshl 1 p) = put u p := rfl
      rw [e1, wwP (z := p) (by omega), wwP (z := t) (by omega), wwP (z := t + 1) (by omega), wwP (z := put u p) (by omega), ckP (by omega), ckP (by omega), ckP (by omega), ckP (by omega), hw p p0 (by omega) c1, hB _ pb.1 pb.2, zmaxE (by omega) (by omega)]
      exact ih n _ (p + 1) (by omega) (by omega) (by omega) (by omega)
    · rw [if_neg c, if_neg c, if_pos (by decide)]
      exact ih n _ (p + 1) (by omega) (by omega) (by omega) hx
theorem X_fb_L8 {ok : Int → Bool} {W : Int → Int → Int} {P t : Int} {dd : Nat} {g : HH} (hP : 0 ≤ P ∧ P < 64) (hok : ∀ p, 0 ≤ p → p < 6 → (ok p = true ↔ m_has P p = 1)) (hW : WB ok W) (hw : ∀ p, 0 ≤ p → p < 6 → ok p = true → g (153 + p) t = W p t) (ht : t = 4 - dd ∧ dd ≤ 4) (hB : ∀ u, 0 ≤ u → u < 64 → g (160 + (t + 1)) u = BB ok W dd u) (kk : HH → Option (Int × HH)) : ∀ (d n : Nat) (h : HH) (u : Int), u + d = 64 → 0 ≤ u → d < n → (∀ c j, c ≠ 160 + t → h c j = g c j) → (∀ v, 0 ≤ v → v < u → h (160 + t) v = BB ok W (dd + 1) v) → ∃ h', x_fillBest_L8 P t kk n h u = kk h' ∧ (∀ c j, c ≠ 160 + t → h' c j = g c j) ∧ ∀ v, 0 ≤ v → v < 64 → h' (160 + t) v = BB ok W (dd + 1) v := by
  intro d
  induction d with
  | zero =>
    intro n h u e u0 hn f b
    obtain ⟨n, rfl⟩ : ∃ m, n = m + 1 := ⟨n - 1, by omega⟩
    rw [x_fillBest_L8, if_neg (by rw [wwP (by omega)]; omega)]
    exact ⟨h, rfl, f, fun v a c => b v a (by omega)⟩
  | succ d ih =>
    intro n h u e u0 hn f b
    obtain ⟨n, rfl⟩ : ∃ m, n = m + 1 := ⟨n - 1, by omega⟩
    have b1 := BB_b hW dd u (by omega)
    have r1 : h (160 + (t + 1)) u = BB ok W dd u := by rw [f _ _ (by omega), hB u u0 (by omega)]
    rw [x_fillBest_L8, if_pos (by rw [wwP (by omega)]; omega), wwP (z := t + 1) (by omega), wwP (z := u) (by omega), ckP (by omega), ckP (by omega), r1]
    rw [X_fb_L29 (h := h) hP hok hW (fun p a c z => by rw [f _ _ (by omega)]; exact hw p a c z) ht (fun v a c => by rw [f _ _ (by omega)]; exact hB v a c) ⟨u0, by omega⟩ _ 6 FU (BB ok W dd u) 0 rfl (by omega) (by decide) (by omega)]
    rw [wwP (z := t) (by omega), ckP (by omega), ckP (by omega)]
    refine ih n _ (u + 1) (by omega) (by omega) (by omega) (fun c j q => by rw [u2N (by omega)]; exact f c j q) (fun v a c => ?_)
    by_cases z : v = u
    · subst z
      rw [u2S, BB, ht.1]
    · rw [u2N (by omega)]
      exact b v a (by omega)
theorem X_fb_L2 {ok : Int → Bool} {W : Int → Int → Int} {P : Int} {g : HH} (hP : 0 ≤ P ∧ P < 64) (hok : ∀ p, 0 ≤ p → p < 6 → (ok p = true ↔ m_has P p = 1)) (hW : WB ok W) (hw : ∀ p t, 0 ≤ p → p < 6 → ok p = true → 0 ≤ t → t < 5 → g (153 + p) t = W p t) : ∀ (m n : Nat) (h : HH), m ≤ 5 → m < n → (∀ c j, ¬ (160 ≤ c ∧ c ≤ 164) → h c j = g c j) → (∀ (e : Nat) u, e ≤ 5 - m → 0 ≤ u → u < 64 → h (165 - e) u = BB ok W e u) → ∃ h', x_fillBest_L2 P n h ((m : Int) - 1) = some (BB ok W 5 0, h') ∧ (∀ c j, ¬ (160 ≤ c ∧ c ≤ 164) → h' c j = g c j) ∧ ∀ (e : Nat) u, e ≤ 5 → 0 ≤ u → u < 64 → h' (165 - e) u = BB ok W e u := by
  intro m
  induction m with
  | zero =>
    intro n h hm hn f b
    obtain ⟨n, rfl⟩ : ∃ m, n = m + 1 := ⟨n - 1, by omega⟩
    rw [x_fillBest_L2, if_pos (by rw [wwP (by omega)]; omega)]
    have b5 := b 5 0 (by omega) (by omega) (by omega)
    refine ⟨h, ?_, f, fun e u a c z => b e u (by omega) c z⟩
    rw [← b5]
    rfl
  | succ m im =>
    intro n h hm hn f b
    obtain ⟨n, rfl⟩ : ∃ m, n = m + 1 := ⟨n - 1, by omega⟩
    rw [x_fillBest_L2, if_neg (by rw [wwP (by omega)]; omega)]
    have et : (((m + 1 : Nat) : Int) - 1) = (m : Int) := by omega
    rw [et]
    obtain ⟨h1, e1, f1, b1⟩ := X_fb_L8 (ok := ok) (W := W) (t := (m : Int)) (dd := 4 - m) (g := h) hP hok hW (fun p a c z => by rw [f _ _ (by omega)]; exact hw p m a c z (by omega) (by omega)) (by omega) (fun u a c => by
      have := b (4 - m) u (by omega) a c
      rw [show (160 : Int) + ((m : Int) + 1) = 165 - ((4 - m : Nat) : Int) by omega]
      exact this) (fun h7 => x_fillBest_L2 P n h7 ((m : Int) + (-1))) 64 FU h 0 rfl (by omega) (by decide) (fun _ _ _ => rfl) (fun v a c => by omega)
    rw [e1]
    refine im n h1 (by omega) (by omega) (fun c j q => by rw [f1 c j (by omega)]; exact f c j q) (fun e u a c z => ?_)
    by_cases y : e = 4 - m + 1
    · subst y
      have := b1 u c z
      rw [show (160 : Int) + (m : Int) = 165 - ((4 - m + 1 : Nat) : Int) by omega] at this
      exact this
    · rw [f1 _ _ (by omega)]
      exact b e u (by omega) c z
theorem X_fill {ok : Int → Bool} {W : Int → Int → Int} {P : Int} {g : HH} (hP : 0 ≤ P ∧ P < 64) (hok : ∀ p, 0 ≤ p → p < 6 → (ok p = true ↔ m_has P p = 1)) (hW : WB ok W) (hw : ∀ p t, 0 ≤ p → p < 6 → ok p = true → 0 ≤ t → t < 5 → g (153 + p) t = W p t) (hz : ∀ j, 0 ≤ j → j < 64 → g 165 j = 0) : ∃ h', x_fillBest g P = some (BB ok W 5 0, h') ∧ (∀ c j, ¬ (160 ≤ c ∧ c ≤ 164) → h' c j = g c j) ∧ ∀ (e : Nat) u, e ≤ 5 → 0 ≤ u → u < 64 → h' (165 - e) u = BB ok W e u := by
  refine X_fb_L2 hP hok hW hw 5 FU g (by omega) (by decide) (fun _ _ _ => rfl) (fun e u a c z => ?_)
  have e0 : e = 0 := by omega
  subst e0
  rw [BB]
  exact hz u c z
/-- the digit of the tree t in the first best ring from the tree 5 - d on -/
def gd (ok : Int → Bool) (W : Int → Int → Int) (d : Nat) (u : Int) : Int := fsB (frB ok u) (fun p => W p (4 - d) + BB ok W d (put u p)) (BB ok W (d + 1) u) 6 0
theorem fsB_b {fr : Int → Bool} {v : Int → Int} {m : Int} : ∀ (d : Nat) (p : Int), p + d = 6 → 0 ≤ p → (0 ≤ fsB fr v m d p ∧ fsB fr v m d p ≤ 6) ∧ (fsB fr v m d p ≠ 6 → fr (fsB fr v m d p) = true)
  | 0, p, _, _ => by rw [fsB]; exact ⟨by omega, fun z => absurd rfl z⟩
  | d + 1, p, e, p0 => by
    rw [fsB]
    by_cases c : fr p = true ∧ v p = m
    · rw [if_pos c]
      exact ⟨by omega, fun _ => c.1⟩
    · rw [if_neg c]
      exact fsB_b d (p + 1) (by omega) (by omega)
theorem gd_b {ok : Int → Bool} {W : Int → Int → Int} {d : Nat} {u : Int} : 0 ≤ gd ok W d u ∧ gd ok W d u ≤ 6 := (fsB_b 6 0 rfl (by omega)).1
def gu (ok : Int → Bool) (W : Int → Int → Int) (d : Nat) (u : Int) : Int := if gd ok W d u = 6 then u else put u (gd ok W d u)
theorem gu_b {ok : Int → Bool} {W : Int → Int → Int} {d : Nat} {u : Int} (hu : 0 ≤ u ∧ u < 64) : 0 ≤ gu ok W d u ∧ gu ok W d u < 64 := by
  have := @gd_b ok W d u
  unfold gu
  split
  · exact hu
  · exact put_b hu (by omega)
def gl (ok : Int → Bool) (W : Int → Int → Int) : Nat → Int → List Int
  | 0, _ => []
  | d + 1, u => gd ok W d u :: gl ok W d (gu ok W d u)
theorem FI_gl {ok : Int → Bool} {W : Int → Int → Int} : ∀ (d : Nat) (u : Int), (0 ≤ FI ok W d u ∧ FI ok W d u < pw d) ∧ dl d (FI ok W d u) = gl ok W d u
  | 0, _ => ⟨by rw [FI, pw]; omega, rfl⟩
  | d + 1, u => by
    have e : FI ok W (d + 1) u = gd ok W d u * pw d + FI ok W d (gu ok W d u) := rfl
    have b := @gd_b ok W d u
    obtain ⟨⟨h1, h2⟩, h3⟩ := FI_gl (ok := ok) (W := W) d (gu ok W d u)
    have wp := pw_pos d
    have m1 : 0 ≤ gd ok W d u * pw d := Int.mul_nonneg b.1 (by omega)
    have m2 : gd ok W d u * pw d ≤ 6 * pw d := Int.mul_le_mul_of_nonneg_right b.2 (by omega)
    have q := dv (p := gd ok W d u) h1 h2
    rw [e]
    refine ⟨by rw [pw]; omega, ?_⟩
    rw [dl, q.1, q.2, h3, gl]
theorem X_first {ok : Int → Bool} {W : Int → Int → Int} {P t u : Int} {dd : Nat} {h : HH} (hP : 0 ≤ P ∧ P < 64) (hok : ∀ p, 0 ≤ p → p < 6 → (ok p = true ↔ m_has P p = 1)) (hW : WB ok W) (hw : ∀ p, 0 ≤ p → p < 6 → ok p = true → h (153 + p) t = W p t) (ht : t = 4 - dd ∧ dd ≤ 4) (hB : ∀ u, 0 ≤ u → u < 64 → h (160 + (t + 1)) u = BB ok W dd u) (hB2 : h (160 + t) u = BB ok W (dd + 1) u) (hu : 0 ≤ u ∧ u < 64) : ∀ (d n : Nat) (p : Int), p + d = 6 → 0 ≤ p → d < n → x_firstOfBest_L3 h t P u n p = some (if fsB (frB ok u) (fun p => W p (4 - dd) + BB ok W dd (put u p)) (BB ok W (dd + 1) u) d p = 6 then -5 else fsB (frB ok u) (fun p => W p (4 - dd) + BB ok W dd (put u p)) (BB ok W (dd + 1) u) d p) := by
  intro d
  induction d with
  | zero =>
    intro n p e p0 hn
    obtain ⟨n, rfl⟩ : ∃ m, n = m + 1 := ⟨n - 1, by omega⟩
    rw [x_firstOfBest_L3, if_neg (by rw [wwP (by omega)]; omega), fsB, if_pos rfl]
  | succ d ih =>
    intro n p e p0 hn
    obtain ⟨n, rfl⟩ : ∃ m, n = m + 1 := ⟨n - 1, by omega⟩
    rw [x_firstOfBest_L3, if_pos (by rw [wwP (by omega)]; omega), freeE hP hu ⟨p0, by omega⟩ (hok p p0 (by omega)), fsB]
    have b2 := BB_b hW (dd + 1) u (by omega)
    by_cases c : frB ok u p = true
    · have c1 : ok p = true := by
        rw [frB, Bool.and_eq_true] at c
        exact c.1
      have pb := put_b hu (p := p) (by omega)
      have w1 := hW p t p0 (by omega) c1 (by omega) (by omega)
      have b1 := BB_b hW dd (put u p) (by omega)
      rw [if_pos c, if_neg (by decide)]
      have e1 : zor u (zshl 1 p) = put u p := rfl
      rw [e1, wwP (z := p) (by omega), wwP (z := t) (by omega), wwP (z := t + 1) (by omega), wwP (z := put u p) (by omega), wwP (z := u) (by omega), ckP (by omega), ckP (by omega), ckP (by omega), ckP (by omega), ckP (by omega), ckP (by omega), hw p p0 (by omega) c1, hB _ pb.1 pb.2, hB2, wwP (by omega), wwP (by omega), ← ht.1]
      by_cases z : W p t + BB ok W dd (put u p) = BB ok W (dd + 1) u
      · have z2 : frB ok u p = true ∧ W p t + BB ok W dd (put u p) = BB ok W (dd + 1) u := ⟨c, z⟩
        rw [if_pos z, if_pos z2, if_neg (by omega)]
      · have z2 : ¬ (frB ok u p = true ∧ W p t + BB ok W dd (put u p) = BB ok W (dd + 1) u) := fun y => z y.2
        rw [if_neg z, if_neg z2]
        have := ih n (p + 1) (by omega) (by omega) (by omega)
        rw [← ht.1] at this
        exact this
    · have z2 : ∀ M : Int, ¬ (frB ok u p = true ∧ W p (4 - dd) + BB ok W dd (put u p) = M) := fun M y => c y.1
      rw [if_neg c, if_pos (by decide), if_neg (z2 _)]
      exact ih n (p + 1) (by omega) (by omega) (by omega)
/-- 6 is nobody -/
def n6 (q : Int) : Int := if q = 6 then -5 else q
theorem X_ringAt_L {ok : Int → Bool} {W : Int → Int → Int} {P t : Int} {h : HH} (hP : 0 ≤ P ∧ P < 64) (hok : ∀ p, 0 ≤ p → p < 6 → (ok p = true ↔ m_has P p = 1)) (hW : WB ok W) (hw : ∀ p t, 0 ≤ p → p < 6 → ok p = true → 0 ≤ t → t < 5 → h (153 + p) t = W p t) (hB : ∀ (e : Nat) u, e ≤ 5 → 0 ≤ u → u < 64 → h (165 - e) u = BB ok W e u) (ht : 0 ≤ t ∧ t < 5) : ∀ (m n : Nat) (u l x : Int), x + m = 5 → 0 ≤ x → m < n → 0 ≤ u ∧ u < 64 → x_ringAt_L9 h P t n u l x = some (if t < x then l else n6 ((gl ok W m u).getD (t - x).toNat 0)) := by
  intro m
  induction m with
  | zero =>
    intro n u l x e x0 hn hu
    obtain ⟨n, rfl⟩ : ∃ m, n = m + 1 := ⟨n - 1, by omega⟩
    rw [x_ringAt_L9, if_pos (by rw [wwP (by omega), wwP (by omega)]; omega), if_pos (by omega)]
  | succ m im =>
    intro n u l x e x0 hn hu
    obtain ⟨n, rfl⟩ : ∃ m, n = m + 1 := ⟨n - 1, by omega⟩
    rw [x_ringAt_L9]
    by_cases c : t < x
    · rw [if_pos (by rw [wwP (by omega), wwP (by omega)]; exact c), if_pos c]
    · rw [if_neg (by rw [wwP (by omega), wwP (by omega)]; exact c), if_neg c]
      have e1 : x_firstOfBest h x P u = some (n6 (gd ok W m u)) := X_first (dd := m) hP hok hW (fun p a b z => hw p x a b z (by omega) (by omega)) (by omega) (fun v a b => by
        rw [show (160 : Int) + (x + 1) = 165 - (m : Int) by omega]
        exact hB m v (by omega) a b) (by
        have := hB (m + 1) u (by omega) hu.1 hu.2
        rw [show (160 : Int) + x = 165 - ((m + 1 : Nat) : Int) by omega]
        exact this) hu 6 FU 0 rfl (by omega) (by decide)
      have gb := @gd_b ok W m u
      have e2 : ∀ v, 0 ≤ v ∧ v < 64 → v = gu ok W m u → x_ringAt_L9 h P t n v (n6 (gd ok W m u)) (x + 1) = some (n6 ((gl ok W (m + 1) u).getD (t - x).toNat 0)) := fun v hv ev => by
        rw [im n v _ (x + 1) (by omega) (by omega) (by omega) hv, gl, ev]
        by_cases z : t < x + 1
        · rw [if_pos z, show (t - x).toNat = 0 by omega]
          rfl
        · rw [if_neg z, show (t - x).toNat = (t - (x + 1)).toNat + 1 by omega]
          rfl
      rw [e1, Option.bind_some]
      by_cases z : gd ok W m u = 6
      · have e3 : n6 (gd ok W m u) = -5 := by unfold n6; rw [if_pos z]
        rw [if_pos (by rw [e3]; decide)]
        exact e2 u hu (by unfold gu; rw [if_pos z])
      · have e3 : n6 (gd ok W m u) = gd ok W m u := by unfold n6; rw [if_neg z]
        rw [if_neg (by rw [e3, wwP (by omega)]; omega)]
        have e4 : zor u (zshl 1 (n6 (gd ok W m u))) = gu ok W m u := by
          rw [e3]
          unfold gu
          rw [if_neg z]
          rfl
        rw [e4]
        exact e2 _ (gu_b hu) rfl
