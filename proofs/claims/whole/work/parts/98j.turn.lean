/- turn -/
def pN (N : Int) : Nat → Int
  | 0 => 1
  | k + 1 => pN N k * N
theorem pN_b {N : Int} (h : 1 ≤ N ∧ N ≤ 6) {k : Nat} (hk : k ≤ 3) : 1 ≤ pN N k ∧ pN N k ≤ 216 := by
  have a : N = 1 ∨ N = 2 ∨ N = 3 ∨ N = 4 ∨ N = 5 ∨ N = 6 := by omega
  have b : k = 0 ∨ k = 1 ∨ k = 2 ∨ k = 3 := by omega
  rcases a with rfl | rfl | rfl | rfl | rfl | rfl <;> rcases b with rfl | rfl | rfl | rfl <;> decide
/-- who leads in the year i -/
def ldN (N c n i : Int) : Int := c / pN N (n - 1 - i).toNat % N
theorem ldN_b {N c n i : Int} (h : 1 ≤ N) : 0 ≤ ldN N c n i ∧ ldN N c n i < N := ⟨Int.emod_nonneg _ (by omega), Int.emod_lt_of_pos _ (by omega)⟩
theorem M_ld_L {h : HH} {N c n : Int} (hN : h 193 0 = N) (hb : 1 ≤ N ∧ N ≤ 6) (hc : 0 ≤ c ∧ c ≤ 2147483647) (hn : n ≤ 3) : ∀ (d m e : Nat) (x : Int), x + d = n → d < m → 0 ≤ x → e + d ≤ 2 → m_leaderAt_L8 h c n m (pN N e) x = some (c / pN N (e + d) % N) := by
  intro d
  induction d with
  | zero =>
    intro m e x hx hm x0 he
    obtain ⟨m, rfl⟩ : ∃ k, m = k + 1 := ⟨m - 1, by omega⟩
    have b := pN_b hb (k := e) (by omega)
    have q0 : 0 ≤ c / pN N e := Int.ediv_nonneg hc.1 (by omega)
    have q1 : c / pN N e ≤ c := Int.ediv_le_self _ hc.1
    rw [m_leaderAt_L8, hN, if_neg (by rw [wwP (by omega), wwP (by omega)]; omega), wwP (by omega), wwP (by omega), ckzP (by omega), ckzP (by omega), zdivP (by omega), zremP (by omega)]
    rfl
  | succ d ih =>
    intro m e x hx hm x0 he
    obtain ⟨m, rfl⟩ : ∃ k, m = k + 1 := ⟨m - 1, by omega⟩
    rw [m_leaderAt_L8, hN, if_pos (by rw [wwP (by omega), wwP (by omega)]; omega)]
    have := ih m (e + 1) (x + 1) (by omega) (by omega) (by omega) (by omega)
    rw [show e + 1 + d = e + (d + 1) by omega] at this
    exact this
theorem M_ld {h : HH} {N c n i : Int} (hN : h 193 0 = N) (hb : 1 ≤ N ∧ N ≤ 6) (hc : 0 ≤ c ∧ c ≤ 2147483647) (hn : n ≤ 3) (hi : 0 ≤ i ∧ i < n) : m_leaderAt h c n i = some (ldN N c n i) := by
  have := M_ld_L hN hb hc hn (n - 1 - i).toNat FU 0 (i + 1) (by omega) (by unfold FU; omega) (by omega) (by omega)
  rw [Nat.zero_add] at this
  exact this
theorem X_ta_L {h : HH} {N i : Int} (hN : h 1 4 = N) (hb : 1 ≤ N ∧ N ≤ 6) (hi : 0 ≤ i) : ∀ (d m : Nat) (c x : Int), i + d = x → x ≤ 2 → d < m → 0 ≤ c ∧ c ≤ 2147483647 → x_turnAt_L8 h i m c x = some (c / pN N d % N) := by
  have e1 : zmax 1 N = N := by rw [zmaxP (by omega)]; split <;> omega
  intro d
  induction d with
  | zero =>
    intro m c x hx x2 hm hc
    obtain ⟨m, rfl⟩ : ∃ k, m = k + 1 := ⟨m - 1, by omega⟩
    rw [x_turnAt_L8, hN, e1, if_neg (by rw [wwP (by omega), wwP (by omega)]; omega), wwP (by omega), ckzP (by omega), zremP (by omega), pN, Int.ediv_one]
  | succ d ih =>
    intro m c x hx x2 hm hc
    obtain ⟨m, rfl⟩ : ∃ k, m = k + 1 := ⟨m - 1, by omega⟩
    have q0 : 0 ≤ c / N := Int.ediv_nonneg hc.1 (by omega)
    have q1 : c / N ≤ c := Int.ediv_le_self _ hc.1
    rw [x_turnAt_L8, hN, e1, if_pos (by rw [wwP (by omega), wwP (by omega)]; omega), wwP (by omega), ckzP (by omega), zdivP (by omega), ih m _ _ (by omega) (by omega) (by omega) (by omega), pN, Int.mul_comm, Int.ediv_ediv_of_nonneg (by omega)]
theorem X_ta {h : HH} {N c n i : Int} (hN : h 1 4 = N) (hb : 1 ≤ N ∧ N ≤ 6) (hc : 0 ≤ c ∧ c ≤ 2147483647) (hn : n ≤ 3) (hi : 0 ≤ i ∧ i < n) : x_turnAt h c n i = some (ldN N c n i) :=
  X_ta_L hN hb hi.1 (n - 1 - i).toNat FU c (n - 1) (by omega) (by omega) (by unfold FU; omega) hc
def tstep (A : HH) (O : Int → List CL) (p t : Int) : HH := if bearA A O p t = 1 then lstep A O p t else u2 A 193 2 (A 193 2 + 1)
/-- how many years it bears -/
def tbN (O : Int → List CL) (N t c n : Int) : Nat → Int → HH → Int → Int
  | 0, _, _, x => x
  | d + 1, i, A, x => tbN O N t c n d (i + 1) (tstep A O (ldN N c n i) t) (x + bearA A O (ldN N c n i) t)
theorem tbN_b {O : Int → List CL} {N t c n : Int} : ∀ (d : Nat) (i : Int) (A : HH) (x : Int), x ≤ tbN O N t c n d i A x ∧ tbN O N t c n d i A x ≤ x + d
  | 0, _, _, _ => by rw [tbN]; omega
  | d + 1, i, A, x => by
    rw [tbN]
    have b := @bear_01 A O (ldN N c n i) t
    have := tbN_b (O := O) (N := N) (t := t) (c := c) (n := n) d (i + 1) (tstep A O (ldN N c n i) t) (x + bearA A O (ldN N c n i) t)
    omega
/-- alike but for the bore -/
def eqc (A B : HH) : Prop := ∀ c j, coreC c j → c ≠ 198 → A c j = B c j
theorem eqc.sb {A B : HH} (H : eqc A B) {p t : Int} : sameB p t A B := ⟨H _ _ (by unfold coreC; omega) (by omega), H _ _ (by unfold coreC; omega) (by omega), H _ _ (by unfold coreC; omega) (by omega), H _ _ (by unfold coreC; omega) (by omega), H _ _ (by unfold coreC; omega) (by omega), H _ _ (by unfold coreC; omega) (by omega), fun j => H _ _ (by unfold coreC; omega) (by omega)⟩
theorem eqc.yr {A B : HH} (H : eqc A B) : eqc (u2 A 193 2 (A 193 2 + 1)) (u2 B 193 2 (B 193 2 + 1)) := fun c j q q2 => by
  rw [H 193 2 (by unfold coreC; omega) (by omega)]
  unfold u2
  by_cases z : c = 193 ∧ j = 2
  · rw [if_pos z, if_pos z]
  · rw [if_neg z, if_neg z]; exact H c j q q2
theorem eqc.ls {A B : HH} (H : eqc A B) {O : Int → List CL} {p t : Int} : eqc (lstep A O p t) (lstep B O p t) := fun c j q q2 => by
  unfold lstep
  rw [H 193 2 (by unfold coreC; omega) (by omega), H 196 _ (by unfold coreC; omega) (by omega), wearA_cg (H 193 10 (by unfold coreC; omega) (by omega))]
  unfold u2
  by_cases z : c = 193 ∧ j = 2
  · rw [if_pos z, if_pos z]
  · rw [if_neg z, if_neg z]
    by_cases z : c = 196 ∧ j = 5 * p + t
    · rw [if_pos z, if_pos z]
    · rw [if_neg z, if_neg z]; exact H c j q q2
theorem eqc.ts {A B : HH} (H : eqc A B) {O : Int → List CL} {p t : Int} : eqc (tstep A O p t) (tstep B O p t) := by
  unfold tstep
  rw [H.sb.bear]
  by_cases c : bearA B O p t = 1
  · rw [if_pos c, if_pos c]; exact H.ls
  · rw [if_neg c, if_neg c]; exact H.yr
theorem eqc.tb {O : Int → List CL} {N t c n : Int} : ∀ (d : Nat) (i : Int) (A B : HH) (x : Int), eqc A B → tbN O N t c n d i A x = tbN O N t c n d i B x
  | 0, _, _, _, _, _ => rfl
  | d + 1, i, A, B, x, H => by rw [tbN, tbN, H.sb.bear, eqc.tb d _ _ _ _ H.ts]
theorem yr1_WO {A : HH} {Y N : Int} (W : WO Y N A) : WO (Y + 1) N (u2 A 193 2 (A 193 2 + 1)) := yr_WO W (by have := W.2.1; omega)
theorem M_bb_L {k A0 : HH} {N NN t c n : Int} (h27 : A0 193 27 = 9999) (ht : 0 ≤ t ∧ t < 5) (hb : 1 ≤ NN ∧ NN ≤ 6) (hc : 0 ≤ c ∧ c ≤ 2147483647) (hn3 : n ≤ 3) {O : Int → List CL} : ∀ (d m : Nat) (h B : HH) (x i Y : Int), i + d = n → 0 ≤ i → d < m → MR k h B → WO Y N B → Y + d ≤ 20000 → OM B O → B 193 0 = NN → (0 ≤ x ∧ x ≤ i) → (∀ c j, ¬ coreI c j → B c j = saveA A0 c j) → ∃ h' B', m_bearsBy_L10 t c n m h x i = some (tbN O NN t c n d i B x, h') ∧ MR k h' B' ∧ ∀ c j, ¬ scC c j → B' c j = A0 c j := by
  intro d
  induction d with
  | zero =>
    intro m h B x i Y e i0 hm H W hY hO hNN hx hB
    obtain ⟨m, rfl⟩ : ∃ k, m = k + 1 := ⟨m - 1, by omega⟩
    obtain ⟨h1, e1, H1⟩ := M_back H
    rw [m_bearsBy_L10, if_neg (by rw [wwP (by omega), wwP (by omega)]; omega), e1, Option.bind_some, tbN]
    exact ⟨h1, backA B, rfl, H1, back_ok h27 hB⟩
  | succ d ih =>
    intro m h B x i Y e i0 hm H W hY hO hNN hx hB
    obtain ⟨m, rfl⟩ : ∃ k, m = k + 1 := ⟨m - 1, by omega⟩
    have lb := ldN_b (N := NN) (c := c) (n := n) (i := i) hb.1
    have el := M_ld (h := h) (c := c) (n := n) (i := i) (by rw [H.s0, hNN]) hb hc hn3 (by omega)
    rw [m_bearsBy_L10, if_pos (by rw [wwP (by omega), wwP (by omega)]; omega), el, Option.bind_some, tbN]
    generalize ldN NN c n i = p at lb ⊢
    obtain ⟨h1, e1, H1⟩ := M_bears H W (by omega) (p := p) (by omega) ht hO
    rw [e1, Option.bind_some]
    rcases @bear_01 B O p t with b | b
    · rw [if_pos (by show ww (bearA B O p t) = 0; rw [b]; decide)]
      have es : tstep B O p t = u2 B 193 2 (B 193 2 + 1) := by unfold tstep; rw [if_neg (by omega)]
      dsimp only
      rw [es, b, H1.s2, Int.add_zero]
      exact ih m _ _ x (i + 1) (Y + 1) (by omega) (by omega) (by omega) (H1.w (by omega)) (yr1_WO W) (by omega) (yr_OM hO) (by rw [u2N (by omega)]; exact hNN) (by omega) (fun c j q => by
        have q' := q
        unfold coreI at q'
        rw [u2N (by omega)]; exact hB c j q)
    · rw [if_neg (by show ¬ ww (bearA B O p t) = 0; rw [b]; decide)]
      obtain ⟨h2, e2, H2⟩ := M_wears H1 W (p := p) (by omega) ht hO
      have es : tstep B O p t = lstep B O p t := by unfold tstep; rw [if_pos b]
      have r2 : h2 193 2 = B 193 2 := by rw [H2.s2]; simp (disch := omega) only [u2S, u2N, u2T]
      dsimp only
      rw [e2, Option.bind_some, es, b, r2]
      have H3 : MR k (u2 h2 193 2 (B 193 2 + 1)) (lstep B O p t) := H2.w (by omega)
      exact ih m _ _ (x + 1) (i + 1) (Y + 1) (by omega) (by omega) (by omega) H3 (lstep_WO W hO (by omega) ht) (by omega) (lstep_OM hO) (by unfold lstep; rw [u2N (by omega), u2N (by omega)]; exact hNN) (by omega) (fun c j q => by
        have q' := q
        unfold coreI at q'
        unfold lstep
        rw [u2N (by omega), u2N (by omega)]; exact hB c j q)
theorem saveA_eqc {A : HH} : eqc (saveA A) A := fun c j q _ => saveA_off (by unfold coreC at q; unfold scC; omega) (by unfold coreC at q; omega)
theorem M_bb {k h A : HH} {N t c n : Int} (H : MR k h A) (W : WOK 9999 N A) (h27 : A 193 27 = 9999) (ht : 0 ≤ t ∧ t < 5) (hb : 1 ≤ A 193 0) (hc : 0 ≤ c ∧ c ≤ 2147483647) (hn : 1 ≤ n ∧ n ≤ 3) {O : Int → List CL} (hO : OM A O) : ∃ h' A', m_bearsBy h t c n = some (tbN O (A 193 0) t c n n.toNat 0 A 0, h') ∧ MR k h' A' ∧ ∀ c j, ¬ scC c j → A' c j = A c j := by
  have n0 := W.1
  unfold m_bearsBy
  obtain ⟨h1, e1, H1⟩ := M_save H
  rw [e1, Option.bind_some, ← eqc.tb n.toNat 0 (saveA A) A 0 saveA_eqc]
  exact M_bb_L h27 ht (by omega) hc hn.2 n.toNat FU h1 (saveA A) 0 0 9999 (by omega) (by omega) (by unfold FU; omega) H1 ((saveA_WOK W).wo (by omega)) (by omega) (saveA_OM hO) (saveA_off (by unfold scC; omega) (by omega)) (by omega) (fun _ _ _ => rfl)
theorem bore_WO {A : HH} {O : Int → List CL} {Y N p t : Int} (W : WO Y N A) (hO : OM A O) (hp : 0 ≤ p ∧ p < A 193 0) (ht : 0 ≤ t ∧ t < 5) (hb : A 198 t + 1 ≤ 20000) : WO (Y + 1) N (u2 (u2 (u2 A 198 t (A 198 t + 1)) 196 (5 * p + t) (max0 (A 196 (5 * p + t) - wearA A O))) 193 2 (A 193 2 + 1)) := by
  obtain ⟨w1, w2, w3, w4, w5, w6, w7, w8, w9, w10, w11⟩ := lstep_WO (p := p) (t := t) W hO hp ht
  obtain ⟨-, -, -, -, -, -, -, -, v9, -, -⟩ := W
  have eB : ∀ c j, c ≠ 198 → u2 (u2 (u2 A 198 t (A 198 t + 1)) 196 (5 * p + t) (max0 (A 196 (5 * p + t) - wearA A O))) 193 2 (A 193 2 + 1) c j = lstep A O p t c j := fun c j q => by
    unfold lstep u2
    repeat' split
    all_goals first | rfl | omega
  have e198 : ∀ u, u2 (u2 (u2 A 198 t (A 198 t + 1)) 196 (5 * p + t) (max0 (A 196 (5 * p + t) - wearA A O))) 193 2 (A 193 2 + 1) 198 u = if u = t then A 198 t + 1 else A 198 u := fun u => by
    by_cases z : u = t
    · rw [if_pos z, z]; simp (disch := omega) only [u2S, u2N, u2T]
    · rw [if_neg z]; simp (disch := omega) only [u2S, u2N, u2T]
  unfold WO
  simp only [eB 193 _ (by decide), eB 194 _ (by decide), eB 195 _ (by decide), eB 196 _ (by decide), eB 197 _ (by decide), eB 199 _ (by decide)]
  refine ⟨w1, w2, w3, w4, w5, w6, w7, w8, fun u a b => ?_, w10, w11⟩
  have := v9 u a b
  have := v9 t ht.1 ht.2
  rw [e198]
  split <;> omega
theorem X_bb_L {S : SS} {N NN t c n : Int} (ht : 0 ≤ t ∧ t < 5) (hb : 1 ≤ NN ∧ NN ≤ 6) (hc : 0 ≤ c ∧ c ≤ 2147483647) (hn3 : n ≤ 3) {O : Int → List CL} (h0 : HH) (h04 : h0 1 4 = NN) : ∀ (d m : Nat) (h B D : HH) (x i Y : Int), i + d = n → 0 ≤ i → d < m → XC S h 99 B → eqc B D → WO Y N B → Y + d ≤ 20000 → B 198 t + d ≤ 20000 → OM B O → OX h0 B O → B 193 0 = NN → (0 ≤ x ∧ x ≤ i) → (∀ c j, ¬ (99 ≤ c ∧ c ≤ 147) → h c j = h0 c j) → ∃ h', x_bearingByTurns_L17 S t n c m h x i = some (tbN O NN t c n d i D x, h') ∧ ∀ c j, ¬ (99 ≤ c ∧ c ≤ 147) → h' c j = h0 c j := by
  intro d
  induction d with
  | zero =>
    intro m h B D x i Y e i0 hm C E W hY hbo hO hX hNN hx f
    obtain ⟨m, rfl⟩ : ∃ k, m = k + 1 := ⟨m - 1, by omega⟩
    rw [x_bearingByTurns_L17, if_neg (by rw [wwP (by omega), wwP (by omega)]; omega), tbN]
    exact ⟨h, rfl, f⟩
  | succ d ih =>
    intro m h B D x i Y e i0 hm C E W hY hbo hO hX hNN hx f
    obtain ⟨m, rfl⟩ : ∃ k, m = k + 1 := ⟨m - 1, by omega⟩
    have lb := ldN_b (N := NN) (c := c) (n := n) (i := i) hb.1
    have el := X_ta (h := h) (c := c) (n := n) (i := i) (by rw [f _ _ (by omega), h04]) hb hc hn3 (by omega)
    rw [x_bearingByTurns_L17, if_pos (by rw [wwP (by omega), wwP (by omega)]; omega), el, Option.bind_some, tbN]
    generalize ldN NN c n i = p at lb ⊢
    obtain ⟨h1, e1, f1, C1⟩ := X_goAt (S := S) (h := h) (w := 99) (.inr (.inr rfl)) C W (by omega) (p := p) (by omega) ht hO (fun z => (hX z).cg (fun a b _ _ => f a b (by have := hO.2.1; omega)))
    have f2 : ∀ c j, ¬ (99 ≤ c ∧ c ≤ 147) → h1 c j = h0 c j := fun c j q => by rw [f1 c j (by omega), f c j q]
    have xb := x_bitP (@bear_01 B O p t)
    rw [e1, Option.bind_some, ← E.sb.bear]
    dsimp only
    rw [xb]
    rcases @bear_01 B O p t with b | b
    · rw [if_pos b] at C1
      have es : tstep D O p t = u2 D 193 2 (D 193 2 + 1) := by unfold tstep; rw [← E.sb.bear, if_neg (by omega)]
      have r7 : h1 99 7 = B 193 2 := C1.2.1
      rw [b, es, r7]
      exact ih m _ (u2 B 193 2 (B 193 2 + 1)) _ _ (i + 1) (Y + 1) (by omega) (by omega) (by omega) (C1.year (by omega)) E.yr (yr1_WO W) (by omega) (by rw [u2N (by omega)]; omega) (yr_OM hO) (fun z => by rw [u2N (by omega)] at z ⊢; exact hX z) (by rw [u2N (by omega)]; exact hNN) (by omega) (fun c j q => by rw [u2N (by omega)]; exact f2 c j q)
    · rw [if_neg (by omega)] at C1
      have es : tstep D O p t = lstep D O p t := by unfold tstep; rw [← E.sb.bear, if_pos b]
      have r7 : h1 99 7 = B 193 2 := by rw [C1.2.1]; simp (disch := omega) only [u2S, u2N, u2T]
      rw [b, es, r7]
      have eB : ∀ c j, c ≠ 198 → u2 (u2 (u2 B 198 t (B 198 t + 1)) 196 (5 * p + t) (max0 (B 196 (5 * p + t) - wearA B O))) 193 2 (B 193 2 + 1) c j = lstep B O p t c j := fun c j q => by
        unfold lstep u2
        repeat' split
        all_goals first | rfl | omega
      refine ih m _ (u2 (u2 (u2 B 198 t (B 198 t + 1)) 196 (5 * p + t) (max0 (B 196 (5 * p + t) - wearA B O))) 193 2 (B 193 2 + 1)) _ _ (i + 1) (Y + 1) (by omega) (by omega) (by omega) (C1.year (by omega)) (fun c j q q2 => by rw [eB c j q2]; exact E.ls c j q q2) (bore_WO W hO (by omega) ht (by omega)) (by omega) (by simp (disch := omega) only [u2S, u2N, u2T]; omega) ((lstep_OM (p := p) (t := t) hO).cg (eB _ _ (by decide)) (fun c j q => eB c j (by unfold orchC at q; omega))) (fun z => by
        rw [eB _ _ (by decide)] at z ⊢
        unfold lstep at z ⊢
        rw [u2N (by omega), u2N (by omega)] at z ⊢
        exact hX z) (by rw [eB _ _ (by decide)]; unfold lstep; rw [u2N (by omega), u2N (by omega)]; exact hNN) (by omega) (fun c j q => by rw [u2N (by omega)]; exact f2 c j q)
theorem X_bb {S : SS} {h A : HH} {N t c n : Int} (C : XC S h 1 A) (W : WOK 9999 N A) (ht : 0 ≤ t ∧ t < 5) (hb : 1 ≤ A 193 0) (hc : 0 ≤ c ∧ c ≤ 2147483647) (hn : 1 ≤ n ∧ n ≤ 3) {O : Int → List CL} (hO : OM A O) (hX : OX h A O) : ∃ h', x_bearingByTurns S h t n c = some (tbN O (A 193 0) t c n n.toNat 0 A 0, h') ∧ ∀ c j, ¬ (99 ≤ c ∧ c ≤ 147) → h' c j = h c j := by
  have n0 := W.1
  unfold x_bearingByTurns
  obtain ⟨h1, e1, C1, f1⟩ := X_goFrom (S := S) (h := h) (a := 99) (b := 1) (.inl ⟨rfl, rfl⟩) C
  have b9 := W.2.2.2.2.2.2.2.2.1 t ht.1 ht.2
  have y0 := W.2.1
  rw [e1, Option.bind_some]
  exact X_bb_L ht (by omega) hc hn.2 h C.1.2.2 n.toNat FU h1 A A 0 0 9999 (by omega) (by omega) (by unfold FU; omega) C1 (fun _ _ _ _ => rfl) (W.wo (by omega)) (by omega) (by omega) hO hX rfl (by omega) (fun c j q => f1 c j (by omega))
/-- the first best from c on -/
def tf (f : Int → Int) : Nat → Int → Int → Int → Int × Int
  | 0, _, w, b => (w, b)
  | d + 1, c, w, b => if b < f c then tf f d (c + 1) c (f c) else tf f d (c + 1) w b
theorem tf_top {f : Int → Int} : ∀ (d : Nat) (c w b : Int), (∀ x, f x ≤ b) → tf f d c w b = (w, b)
  | 0, _, _, _, _ => rfl
  | d + 1, c, w, b, h => by
    have := h c
    rw [tf, if_neg (by omega), tf_top d _ _ _ h]
theorem tf_is {f : Int → Int} : ∀ (d : Nat) (c w b : Int), 0 ≤ c → 0 ≤ w ∧ w ≤ c → b = f w → (tf f d c w b).2 = f (tf f d c w b).1 ∧ 0 ≤ (tf f d c w b).1 ∧ (tf f d c w b).1 ≤ c + d
  | 0, _, _, _, _, hw, h => by rw [tf]; exact ⟨h, hw.1, by show _ ≤ _; omega⟩
  | d + 1, c, w, b, c0, hw, h => by
    rw [tf]
    by_cases q : b < f c
    · rw [if_pos q]
      have := tf_is (f := f) d (c + 1) c (f c) (by omega) (by omega) rfl
      exact ⟨this.1, this.2.1, by omega⟩
    · rw [if_neg q]
      have := tf_is (f := f) d (c + 1) w b (by omega) (by omega) h
      exact ⟨this.1, this.2.1, by omega⟩
theorem M_t_L49 {x1 x2 x3 N : Int} (kk : HH → Int → Option (Int × HH)) {h : HH} (hN : h 193 0 = N) (h3 : x2 ≤ 3) : ∀ (d m e : Nat) (x : Int), x + d = x2 → 0 ≤ x → d < m → m_turn_L49 x1 x2 x3 kk m h (pN N e) x = kk h (pN N (e + d)) := by
  intro d
  induction d with
  | zero =>
    intro m e x hx x0 hm
    obtain ⟨m, rfl⟩ : ∃ k, m = k + 1 := ⟨m - 1, by omega⟩
    rw [m_turn_L49, if_neg (by rw [wwP (by omega), wwP (by omega)]; omega)]
    rfl
  | succ d ih =>
    intro m e x hx x0 hm
    obtain ⟨m, rfl⟩ : ∃ k, m = k + 1 := ⟨m - 1, by omega⟩
    have := ih m (e + 1) (x + 1) (by omega) (by omega) (by omega)
    rw [show e + 1 + d = e + (d + 1) by omega] at this
    rw [m_turn_L49, if_pos (by rw [wwP (by omega), wwP (by omega)]; omega), hN]
    exact this
theorem X_t_L5 {S : SS} {x1 x2 N : Int} (kk : HH → Int → Option (Int × HH)) {h : HH} (hN : h 1 4 = N) (h3 : x2 ≤ 3) : ∀ (d m e : Nat) (x : Int), x + d = x2 → 0 ≤ x → d < m → x_firstOfTurns_L5 S x1 x2 kk m h (pN N e) x = kk h (pN N (e + d)) := by
  intro d
  induction d with
  | zero =>
    intro m e x hx x0 hm
    obtain ⟨m, rfl⟩ : ∃ k, m = k + 1 := ⟨m - 1, by omega⟩
    rw [x_firstOfTurns_L5, if_neg (by rw [wwP (by omega), wwP (by omega)]; omega)]
    rfl
  | succ d ih =>
    intro m e x hx x0 hm
    obtain ⟨m, rfl⟩ : ∃ k, m = k + 1 := ⟨m - 1, by omega⟩
    have := ih m (e + 1) (x + 1) (by omega) (by omega) (by omega)
    rw [show e + 1 + d = e + (d + 1) by omega] at this
    rw [x_firstOfTurns_L5, if_pos (by rw [wwP (by omega), wwP (by omega)]; omega), hN]
    exact this
theorem M_t_L79 {k A : HH} {t n w y N : Int} (W : WOK 9999 N A) (h27 : A 193 27 = 9999) (ht : 0 ≤ t ∧ t < 5) (hb : 1 ≤ A 193 0) (hn : 1 ≤ n ∧ n ≤ 3) (hy : y ≤ 1000) {O : Int → List CL} (hO : OM A O) (kk : HH → Int → Int → Option (Int × HH)) : ∀ (d m : Nat) (h B : HH) (who best c : Int), c + d = y → 0 ≤ c → d < m → (-1 ≤ best ∧ best ≤ 3) → MR k h B → (∀ c j, ¬ scC c j → B c j = A c j) → ∃ h' B', m_turn_L79 t n w y kk m h who best c = kk h' (tf (fun c => tbN O (A 193 0) t c n n.toNat 0 A 0) d c who best).1 (tf (fun c => tbN O (A 193 0) t c n n.toNat 0 A 0) d c who best).2 ∧ MR k h' B' ∧ ∀ c j, ¬ scC c j → B' c j = A c j := by
  intro d
  induction d with
  | zero =>
    intro m h B who best c e c0 hm hbst H hB
    obtain ⟨m, rfl⟩ : ∃ k, m = k + 1 := ⟨m - 1, by omega⟩
    rw [m_turn_L79, if_neg (by rw [wwP (by omega), wwP (by omega)]; omega), tf]
    exact ⟨h, B, rfl, H, hB⟩
  | succ d ih =>
    intro m h B who best c e c0 hm hbst H hB
    obtain ⟨m, rfl⟩ : ∃ k, m = k + 1 := ⟨m - 1, by omega⟩
    have eN : B 193 0 = A 193 0 := hB _ _ (by unfold scC; omega)
    have E : eqc B A := fun c j q _ => hB c j (by unfold coreC at q; unfold scC; omega)
    obtain ⟨h1, B1, e1, H1, o1⟩ := M_bb (t := t) (c := c) (n := n) H (W.core (fun c j q => hB c j (by unfold coreC at q; unfold scC; omega))) (by rw [hB _ _ (by unfold scC; omega)]; exact h27) ht (by omega) (by omega) hn (hO.cg (hB _ _ (by unfold scC; omega)) (fun c j q => hB c j (by unfold orchC at q; unfold scC; omega)))
    rw [eN, E.tb] at e1
    have o2 : ∀ c j, ¬ scC c j → B1 c j = A c j := fun c j q => by rw [o1 c j q, hB c j q]
    have b := tbN_b (O := O) (N := A 193 0) (t := t) (c := c) (n := n) n.toNat 0 A 0
    rw [m_turn_L79, if_pos (by rw [wwP (by omega), wwP (by omega)]; omega), e1, Option.bind_some, tf]
    dsimp only
    by_cases q : best < tbN O (A 193 0) t c n n.toNat 0 A 0
    · rw [if_pos (by rw [wwP (by omega), wwP (by omega)]; exact q), if_pos q]
      exact ih m h1 B1 _ _ (c + 1) (by omega) (by omega) (by omega) (by omega) H1 o2
    · rw [if_neg (by rw [wwP (by omega), wwP (by omega)]; exact q), if_neg q]
      exact ih m h1 B1 _ _ (c + 1) (by omega) (by omega) (by omega) hbst H1 o2
theorem X_t_L36 {S : SS} {h0 A : HH} {t n y N : Int} (C : XC S h0 1 A) (W : WOK 9999 N A) (ht : 0 ≤ t ∧ t < 5) (hb : 1 ≤ A 193 0) (hn : 1 ≤ n ∧ n ≤ 3) (hy : y ≤ 1000) {O : Int → List CL} (hO : OM A O) (hX : OX h0 A O) : ∀ (d m : Nat) (h : HH) (who best c : Int), c + d = y → 0 ≤ c → d < m → (-1 ≤ best ∧ best ≤ 3) → (∀ c j, ¬ (99 ≤ c ∧ c ≤ 147) → h c j = h0 c j) → ∃ h', x_firstOfTurns_L36 S t n y m h who best c = some ((tf (fun c => tbN O (A 193 0) t c n n.toNat 0 A 0) d c who best).1, h') ∧ ∀ c j, ¬ (99 ≤ c ∧ c ≤ 147) → h' c j = h0 c j := by
  intro d
  induction d with
  | zero =>
    intro m h who best c e c0 hm hbst f
    obtain ⟨m, rfl⟩ : ∃ k, m = k + 1 := ⟨m - 1, by omega⟩
    rw [x_firstOfTurns_L36, if_neg (by rw [wwP (by omega), wwP (by omega)]; omega), tf]
    exact ⟨h, rfl, f⟩
  | succ d ih =>
    intro m h who best c e c0 hm hbst f
    obtain ⟨m, rfl⟩ : ∃ k, m = k + 1 := ⟨m - 1, by omega⟩
    rw [x_firstOfTurns_L36, if_pos (by rw [wwP (by omega), wwP (by omega)]; omega)]
    by_cases c1 : best < n
    · have C1 : XC S h 1 A := C.cg (fun c j q => f c j (by rcases q with q | q; omega; have := isHb_ge q; omega)) (fun _ _ _ => rfl)
      obtain ⟨h1, e1, f1⟩ := X_bb (t := t) (c := c) (n := n) C1 W ht hb (by omega) hn hO (fun z => (hX z).cg (fun a b _ _ => f a b (by have := hO.2.1; omega)))
      have f2 : ∀ c j, ¬ (99 ≤ c ∧ c ≤ 147) → h1 c j = h0 c j := fun c j q => by rw [f1 c j q, f c j q]
      have b := tbN_b (O := O) (N := A 193 0) (t := t) (c := c) (n := n) n.toNat 0 A 0
      rw [if_pos (by rw [wwP (by omega), wwP (by omega)]; exact c1), e1, Option.bind_some, tf]
      dsimp only
      by_cases q : best < tbN O (A 193 0) t c n n.toNat 0 A 0
      · rw [if_pos (by rw [wwP (by omega), wwP (by omega)]; exact q), if_pos q]
        exact ih m h1 _ _ (c + 1) (by omega) (by omega) (by omega) (by omega) f2
      · rw [if_neg (by rw [wwP (by omega), wwP (by omega)]; exact q), if_neg q]
        exact ih m h1 _ _ (c + 1) (by omega) (by omega) (by omega) hbst f2
    · rw [if_neg (by rw [wwP (by omega), wwP (by omega)]; exact c1)]
      rw [tf_top (f := fun c => tbN O (A 193 0) t c n n.toNat 0 A 0) (d + 1) c who best (fun x => by
        have b := tbN_b (O := O) (N := A 193 0) (t := t) (c := x) (n := n) n.toNat 0 A 0
        show tbN O (A 193 0) t x n n.toNat 0 A 0 ≤ best
        omega)]
      exact ⟨h, rfl, f⟩
theorem st_turn {S : SS} {h : HH} {a b c : Int} (F : Fx S) (I : Inv h S) (ha : -2147483648 ≤ a ∧ a ≤ 2147483647) (hb : -2147483648 ≤ b ∧ b ≤ 2147483647) (hc : -2147483648 ≤ c ∧ c ≤ 2147483647) : ∃ r, ((x_turn S h a b c).bind fun q => (m_turn q.2 a b c).bind fun q1 => if ww q.1 = ww q1.1 then some (q1.2, S) else none) = some r ∧ Fx r.2 ∧ Inv r.1 r.2 := by
  obtain ⟨A, O, hA, hX, hM⟩ := I
  have W := hA.2.2.1
  have n0 := W.1
  have hO := hX.OM W
  have C := hX.2.1
  have hOX := hX.OX W
  have n1 : h 1 4 = A 193 0 := C.1.2.2
  have key : ∀ v, x_turn S h a b c = some (v, h) → (∀ k g, MR k g A → m_turn g a b c = some (v, g)) → ∃ r, ((x_turn S h a b c).bind fun q => (m_turn q.2 a b c).bind fun q1 => if ww q.1 = ww q1.1 then some (q1.2, S) else none) = some r ∧ Fx r.2 ∧ Inv r.1 r.2 := fun v e1 e2 => by
    rw [e1]
    exact glueW (m := fun g => m_turn g a b c) (a := v) (b := v) F hA hX hM (fun k g H => ⟨g, e2 k g H, H⟩) rfl
  by_cases c1 : 0 ≤ a ∧ a < 5
  · by_cases c2 : -1 ≤ c ∧ c < 3
    · by_cases c3 : 1 ≤ b ∧ b ≤ 3
      · by_cases c4 : A 193 0 = 0
        · refine key (-5) ?_ (fun k g H => ?_)
          · unfold x_turn; simp (disch := omega) only [reduceIte, ltT, ltF, eqT, eqF, leT, leF, wwP, ckP, ckzP, ckbP, u2S, u2N, u2T, ↓Option.bind_some, inB_T, inB_F, Bool.false_eq_true, m_in0, m_in1, ww_treeT, n1]
          · unfold m_turn m_isTree; simp (disch := omega) only [reduceIte, ltT, ltF, eqT, eqF, leT, leF, wwP, ckP, ckzP, ckbP, u2S, u2N, u2T, ↓Option.bind_some, inB_T, inB_F, Bool.false_eq_true, m_in0, m_in1, H.s0]
        · have pb := pN_b (N := A 193 0) (by omega) (k := b.toNat) (by omega)
          have tI := tf_is (f := fun c => tbN O (A 193 0) a c b b.toNat 0 A 0) ((pN (A 193 0) b.toNat).toNat - 1) 1 0 (tbN O (A 193 0) a 0 b b.toNat 0 A 0) (by omega) (by omega) rfl
          have t0 := tbN_b (O := O) (N := A 193 0) (t := a) (c := 0) (n := b) b.toNat 0 A 0
          have tS : tf (fun c => tbN O (A 193 0) a c b b.toNat 0 A 0) (pN (A 193 0) b.toNat).toNat 0 0 (-1) = tf (fun c => tbN O (A 193 0) a c b b.toNat 0 A 0) ((pN (A 193 0) b.toNat).toNat - 1) 1 0 (tbN O (A 193 0) a 0 b b.toNat 0 A 0) := by
            obtain ⟨z, hz⟩ : ∃ z, (pN (A 193 0) b.toNat).toNat = z + 1 := ⟨(pN (A 193 0) b.toNat).toNat - 1, by omega⟩
            rw [hz, tf, if_pos (by show (-1 : Int) < tbN O (A 193 0) a 0 b b.toNat 0 A 0; omega)]
            rfl
          rw [← tS] at tI
          obtain ⟨h1, e1, f1⟩ := X_t_L36 (S := S) (t := a) (n := b) (y := pN (A 193 0) b.toNat) C W c1 (by omega) c3 (by omega) hO hOX (pN (A 193 0) b.toNat).toNat FU h 0 (-1) 0 (by omega) (by omega) (by unfold FU; omega) (by omega) (fun _ _ _ => rfl)
          have e2 : x_firstOfTurns S h a b = some ((tf (fun c => tbN O (A 193 0) a c b b.toNat 0 A 0) (pN (A 193 0) b.toNat).toNat 0 0 (-1)).1, h1) := by
            unfold x_firstOfTurns
            have := X_t_L5 (S := S) (x1 := a) (x2 := b) (fun h2 y1 => x_firstOfTurns_L36 S a b y1 FU h2 0 (-1) 0) n1 c3.2 b.toNat FU 0 0 (by omega) (by omega) (by unfold FU; omega)
            rw [Nat.zero_add] at this
            exact this.trans e1
          have mm : ∀ k g, MR k g A → ∃ g' B, MR k g' B ∧ (∀ c j, ¬ scC c j → B c j = A c j) ∧ m_turn g a b c = if ww c < 0 then some ((tf (fun c => tbN O (A 193 0) a c b b.toNat 0 A 0) (pN (A 193 0) b.toNat).toNat 0 0 (-1)).2, g') else if ww c < ww b then ((m_leaderAt g' (tf (fun c => tbN O (A 193 0) a c b b.toNat 0 A 0) (pN (A 193 0) b.toNat).toNat 0 0 (-1)).1 b c).bind fun q7 => some (q7, g')) else some (-5, g') := fun k g H => by
            obtain ⟨g', B, e3, H3, o3⟩ := M_t_L79 (k := k) (t := a) (n := b) (w := c) (y := pN (A 193 0) b.toNat) W hA.1 c1 (by omega) c3 (by omega) hO (fun h6 y4 y5 => if ww c < 0 then (some (y5, h6)) else (if ww c < ww b then ((m_leaderAt h6 y4 b c).bind fun q7 => some (q7, h6)) else (some (-5, h6)))) (pN (A 193 0) b.toNat).toNat FU g A 0 (-1) 0 (by omega) (by omega) (by unfold FU; omega) (by omega) H (fun _ _ _ => rfl)
            refine ⟨g', B, H3, o3, ?_⟩
            have l49 := M_t_L49 (x1 := a) (x2 := b) (x3 := c) (fun h2 y1 => m_turn_L79 a b c y1 (fun h6 y4 y5 => if ww c < 0 then (some (y5, h6)) else (if ww c < ww b then ((m_leaderAt h6 y4 b c).bind fun q7 => some (q7, h6)) else (some (-5, h6)))) FU h2 0 (-1) 0) (h := g) H.s0 c3.2 b.toNat FU 0 0 (by omega) (by omega) (by unfold FU; omega)
            rw [Nat.zero_add] at l49
            unfold m_turn m_isTree
            rw [if_neg (by rw [m_in0 (by omega)]; decide), if_neg (by rw [m_in0 (by omega)]; decide), if_neg (by rw [m_in0 (by omega)]; decide), if_neg (by rw [H.s0, wwP (by omega)]; omega)]
            exact l49.trans e3
          generalize tf (fun c => tbN O (A 193 0) a c b b.toNat 0 A 0) (pN (A 193 0) b.toNat).toNat 0 0 (-1) = T at *
          by_cases c5 : c < 0
          · have c6 : c = -1 := by omega
            subst c6
            have C1 : XC S h1 1 A := C.cg (fun c j q => f1 c j (by rcases q with q | q; omega; have := isHb_ge q; omega)) (fun _ _ _ => rfl)
            obtain ⟨h2, e3, f3⟩ := X_bb (S := S) (t := a) (c := T.1) (n := b) C1 W c1 (by omega) (by omega) c3 hO (fun z => (hOX z).cg (fun a b _ _ => f1 a b (by have := hO.2.1; omega)))
            have e4 : x_turn S h a b (-1) = some (T.2, h2) := by
              unfold x_turn
              simp (disch := omega) only [reduceIte, ltT, ltF, eqT, eqF, leT, leF, wwP, ckP, ckzP, ckbP, u2S, u2N, u2T, ↓Option.bind_some, inB_T, inB_F, Bool.false_eq_true, m_in0, m_in1, ww_treeT, n1, e2, e3]
              rw [tI.1]
            rw [e4]
            refine glueS (m := fun g => m_turn g a b (-1)) (a := T.2) (b := T.2) F hA (hX.scr (fun c j q => by show h2 c j = h c j; rw [f3 c j (by omega)]; exact f1 c j (by omega))) hM (fun k g H => ?_) rfl
            obtain ⟨g', B, H3, o3, e5⟩ := mm k g H
            exact ⟨g', B, by show m_turn g a b (-1) = _; rw [e5, if_pos (by decide)], H3, o3⟩
          · by_cases c6 : c < b
            · have lb := ldN_b (N := A 193 0) (c := T.1) (n := b) (i := c) (by omega)
              have e3 := X_ta (h := h1) (N := A 193 0) (c := T.1) (n := b) (i := c) (by rw [f1 _ _ (by omega)]; exact n1) (by omega) (by omega) c3.2 (by omega)
              have e4 : x_turn S h a b c = some (ldN (A 193 0) T.1 b c, h1) := by
                unfold x_turn
                simp (disch := omega) only [reduceIte, ltT, ltF, eqT, eqF, leT, leF, wwP, ckP, ckzP, ckbP, u2S, u2N, u2T, ↓Option.bind_some, inB_T, inB_F, Bool.false_eq_true, m_in0, m_in1, ww_treeT, n1, e2, e3]
              rw [e4]
              refine glueS (m := fun g => m_turn g a b c) (a := ldN (A 193 0) T.1 b c) (b := ldN (A 193 0) T.1 b c) F hA (hX.scr (fun c j q => f1 c j (by omega))) hM (fun k g H => ?_) rfl
              obtain ⟨g', B, H3, o3, e5⟩ := mm k g H
              refine ⟨g', B, ?_, H3, o3⟩
              show m_turn g a b c = _
              rw [e5, if_neg (by rw [wwP (by omega)]; omega), if_pos (by rw [wwP (by omega), wwP (by omega)]; exact c6), M_ld (N := A 193 0) (by rw [H3.s0, o3 _ _ (by unfold scC; omega)]) (by omega) (by omega) c3.2 (by omega), Option.bind_some]
            · have e4 : x_turn S h a b c = some (-5, h) := by
                unfold x_turn
                simp (disch := omega) only [reduceIte, ltT, ltF, eqT, eqF, leT, leF, wwP, ckP, ckzP, ckbP, u2S, u2N, u2T, ↓Option.bind_some, inB_T, inB_F, Bool.false_eq_true, m_in0, m_in1, ww_treeT, n1]
              rw [e4]
              refine glueS (m := fun g => m_turn g a b c) (a := -5) (b := -5) F hA hX hM (fun k g H => ?_) rfl
              obtain ⟨g', B, H3, o3, e5⟩ := mm k g H
              refine ⟨g', B, ?_, H3, o3⟩
              show m_turn g a b c = _
              rw [e5, if_neg (by rw [wwP (by omega)]; omega), if_neg (by rw [wwP (by omega), wwP (by omega)]; exact c6)]
      · refine key (-2) ?_ (fun k g H => ?_)
        · by_cases c5 : b < 1
          · unfold x_turn; simp (disch := omega) only [reduceIte, ltT, ltF, eqT, eqF, leT, leF, wwP, ckP, ckzP, ckbP, u2S, u2N, u2T, ↓Option.bind_some, inB_T, inB_F, Bool.false_eq_true, m_in0, m_in1, ww_treeT]
          · unfold x_turn; simp (disch := omega) only [reduceIte, ltT, ltF, eqT, eqF, leT, leF, wwP, ckP, ckzP, ckbP, u2S, u2N, u2T, ↓Option.bind_some, inB_T, inB_F, Bool.false_eq_true, m_in0, m_in1, ww_treeT]
        · unfold m_turn m_isTree; simp (disch := omega) only [reduceIte, ltT, ltF, eqT, eqF, leT, leF, wwP, ckP, ckzP, ckbP, u2S, u2N, u2T, ↓Option.bind_some, inB_T, inB_F, Bool.false_eq_true, m_in0, m_in1]
    · refine key (-1) ?_ (fun k g H => ?_)
      · by_cases c5 : c < -1
        · unfold x_turn; simp (disch := omega) only [reduceIte, ltT, ltF, eqT, eqF, leT, leF, wwP, ckP, ckzP, ckbP, u2S, u2N, u2T, ↓Option.bind_some, inB_T, inB_F, Bool.false_eq_true, m_in0, m_in1, ww_treeT]
        · unfold x_turn; simp (disch := omega) only [reduceIte, ltT, ltF, eqT, eqF, leT, leF, wwP, ckP, ckzP, ckbP, u2S, u2N, u2T, ↓Option.bind_some, inB_T, inB_F, Bool.false_eq_true, m_in0, m_in1, ww_treeT]
      · unfold m_turn m_isTree; simp (disch := omega) only [reduceIte, ltT, ltF, eqT, eqF, leT, leF, wwP, ckP, ckzP, ckbP, u2S, u2N, u2T, ↓Option.bind_some, inB_T, inB_F, Bool.false_eq_true, m_in0, m_in1]
  · refine key (-1) ?_ (fun k g H => ?_)
    · unfold x_turn; simp (disch := omega) only [reduceIte, ltT, ltF, eqT, eqF, leT, leF, wwP, ckP, ckzP, ckbP, u2S, u2N, u2T, ↓Option.bind_some, inB_T, inB_F, Bool.false_eq_true, m_in0, m_in1, ww_treeF]
    · unfold m_turn m_isTree; simp (disch := omega) only [reduceIte, ltT, ltF, eqT, eqF, leT, leF, wwP, ckP, ckzP, ckbP, u2S, u2N, u2T, ↓Option.bind_some, inB_T, inB_F, Bool.false_eq_true, m_in0, m_in1]
