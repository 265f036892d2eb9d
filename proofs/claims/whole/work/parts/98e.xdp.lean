def okA (A : HH) (p : Int) : Bool := decide (p < A 193 0) && decide (m_has (A 193 1) p = 0)
def WA (A : HH) (O : Int → List CL) (p t : Int) : Int := if bearA A O p t = 1 then 1000000 + forceA A O p t else 0
theorem WA_b {A : HH} {O : Int → List CL} (hO : OM A O) {Y N p t : Int} (W : WO Y N A) (hp : 0 ≤ p ∧ p < A 193 0) (ht : 0 ≤ t ∧ t < 5) : 0 ≤ WA A O p t ∧ WA A O p t ≤ 1003000 := by
  have f := force_b hO W hp ht
  unfold WA
  split <;> omega
/-- what the ring is found with stands -/
def dpF (h h0 : HH) : Prop := ∀ c j, ¬ (c = 49 ∨ (153 ≤ c ∧ c ≤ 164)) → h c j = h0 c j
theorem X_weigh_L23 {S : SS} {h0 A : HH} {O : Int → List CL} {Y N p nd : Int} (C : XC S h0 1 A) (W : WO Y N A) (hY : Y ≤ 20000) (hO : OM A O) (hX : OX h0 A O) (hnd : nd = needA A O) (hp : 0 ≤ p ∧ p < A 193 0) (kk : HH → Option HH) : ∀ (d n : Nat) (h : HH) (t : Int), t + d = 5 → 0 ≤ t → d < n → dpF h h0 → (∀ q u, 0 ≤ q → 0 ≤ u → u < 5 → (q < p ∨ (q = p ∧ u < t)) → h (153 + q) u = WA A O q u) → ∃ h', x_weigh_L23 S nd p kk n h t = kk h' ∧ dpF h' h0 ∧ ∀ q u, 0 ≤ q → 0 ≤ u → u < 5 → q < p + 1 → h' (153 + q) u = WA A O q u := by
  have n0 := W.1
  have nb := need_b hO
  intro d
  induction d with
  | zero =>
    intro n h t e t0 hn f w
    obtain ⟨n, rfl⟩ : ∃ m, n = m + 1 := ⟨n - 1, by omega⟩
    rw [x_weigh_L23, if_neg (by rw [wwP (by omega)]; omega)]
    exact ⟨h, rfl, f, fun q u a b c d => w q u a b c (by omega)⟩
  | succ d ih =>
    intro n h t e t0 hn f w
    obtain ⟨n, rfl⟩ : ∃ m, n = m + 1 := ⟨n - 1, by omega⟩
    have C1 : XC S h 1 A := C.cg (fun c j q => f c j (by rcases q with q | q; omega; have := isHb_ge q; omega)) (fun _ _ _ => rfl)
    have X1 : OX h A O := fun z => (hX z).cg (fun a b _ _ => f a b (by have := hO.2.1; omega))
    obtain ⟨h1, e1, f1⟩ := X_force (.inl rfl) C1 W hY hp (t := t) (by omega) hO X1
    have fb := force_b hO W hp (t := t) (by omega)
    have g1 : h1 3 p = m_has (A 193 1) p := by
      rw [f1 _ _ (by omega)]
      exact C1.2.2.2.2.2.1 p hp.1 hp.2
    have h01 := @has_01 (A 193 1) p
    have fin : ∀ v, v = WA A O p t → ∃ h', x_weigh_L23 S nd p kk n (u2 h1 (153 + p) t v) (t + 1) = kk h' ∧ dpF h' h0 ∧ ∀ q u, 0 ≤ q → 0 ≤ u → u < 5 → q < p + 1 → h' (153 + q) u = WA A O q u := fun v hv => by
      refine ih n _ (t + 1) (by omega) (by omega) (by omega) (fun c j q => ?_) (fun q u a b c z => ?_)
      · rw [u2N (by omega), f1 _ _ (by omega)]
        exact f c j q
      · by_cases z2 : q = p ∧ u = t
        · obtain ⟨rfl, rfl⟩ := z2
          rw [u2S, hv]
        · rw [u2N (by omega), f1 _ _ (by omega)]
          exact w q u a b c (by omega)
    rw [x_weigh_L23, if_pos (by rw [wwP (by omega)]; omega), e1, Option.bind_some, wwP (z := p) (by omega), ckP (by omega), ckP (by omega)]
    dsimp only
    have g2 : ww (h1 3 p) = m_has (A 193 1) p := by rw [g1, ww_has]
    rcases h01 with z | z
    · rw [if_pos (by rw [g2, z])]
      by_cases c : forceA A O p t < nd
      · rw [if_pos (by rw [wwP (by omega), wwP (by omega)]; exact c), wwP (by omega), ckP (by omega)]
        refine fin 0 ?_
        unfold WA bearA
        rw [z, if_pos rfl, ← hnd, if_pos c, if_neg (by decide)]
      · rw [if_neg (by rw [wwP (by omega), wwP (by omega)]; exact c), wwP (by omega), ckP (by omega)]
        refine fin _ ?_
        unfold WA bearA
        rw [z, if_pos rfl, ← hnd, if_neg c, if_pos rfl]
    · rw [if_neg (by rw [g2, z]; decide), wwP (by omega), ckP (by omega)]
      refine fin 0 ?_
      unfold WA bearA
      rw [z, if_neg (show ¬ (1 : Int) = 0 by decide), if_neg (show ¬ (0 : Int) = 1 by decide)]
theorem X_weigh_L10 {S : SS} {h0 A : HH} {O : Int → List CL} {Y N nd : Int} (C : XC S h0 1 A) (W : WO Y N A) (hY : Y ≤ 20000) (hO : OM A O) (hX : OX h0 A O) (hnd : nd = needA A O) : ∀ (d n : Nat) (h : HH) (p : Int), p + d = A 193 0 → 0 ≤ p → d < n → dpF h h0 → (∀ q u, 0 ≤ q → 0 ≤ u → u < 5 → q < p → h (153 + q) u = WA A O q u) → ∃ h', x_weigh_L10 S nd n h p = some h' ∧ dpF h' h0 ∧ ∀ q u, 0 ≤ q → 0 ≤ u → u < 5 → q < A 193 0 → h' (153 + q) u = WA A O q u := by
  have n0 := W.1
  intro d
  induction d with
  | zero =>
    intro n h p e p0 hn f w
    obtain ⟨n, rfl⟩ : ∃ m, n = m + 1 := ⟨n - 1, by omega⟩
    have n1 : h 1 4 = A 193 0 := by rw [f _ _ (by omega)]; exact C.1.2.2
    rw [x_weigh_L10, n1, if_neg (by rw [wwP (by omega), wwP (by omega)]; omega)]
    exact ⟨h, rfl, f, fun q u a b c d => w q u a b c (by omega)⟩
  | succ d ih =>
    intro n h p e p0 hn f w
    obtain ⟨n, rfl⟩ : ∃ m, n = m + 1 := ⟨n - 1, by omega⟩
    have n1 : h 1 4 = A 193 0 := by rw [f _ _ (by omega)]; exact C.1.2.2
    rw [x_weigh_L10, n1, if_pos (by rw [wwP (by omega), wwP (by omega)]; omega)]
    obtain ⟨h1, e1, f1, w1⟩ := X_weigh_L23 C W hY hO hX hnd (p := p) (by omega) (fun h4 => x_weigh_L10 S nd n h4 (p + 1)) 5 FU h 0 rfl (by omega) (by decide) f (fun q u a b c z => w q u a b c (by omega))
    rw [e1]
    exact ih n h1 (p + 1) (by omega) (by omega) (by omega) f1 (fun q u a b c z => w1 q u a b c z)
theorem X_weigh {S : SS} {h A : HH} {O : Int → List CL} {Y N : Int} (C : XC S h 1 A) (W : WO Y N A) (hY : Y ≤ 20000) (hO : OM A O) (hX : OX h A O) : ∃ h', x_weigh S h = some h' ∧ dpF h' h ∧ ∀ q u, 0 ≤ q → 0 ≤ u → u < 5 → q < A 193 0 → h' (153 + q) u = WA A O q u := by
  have n0 := W.1
  unfold x_weigh
  rw [X_need C ⟨hO.1, hO.2.1⟩ hX, Option.bind_some]
  exact X_weigh_L10 C W hY hO hX rfl (A 193 0).toNat FU h 0 (by omega) (by omega) (by unfold FU; omega) (fun _ _ _ => rfl) (fun q u a b c z => by omega)
theorem free_fin : ∀ (P u : Fin 64) (p : Fin 6), x_isFree (p.val : Int) (P.val : Int) (u.val : Int) = if m_has (P.val : Int) (p.val : Int) = 1 ∧ m_has (u.val : Int) (p.val : Int) = 0 then 1 else 0 := by decide +kernel
theorem freeE {P u p : Int} (hP : 0 ≤ P ∧ P < 64) (hu : 0 ≤ u ∧ u < 64) (hp : 0 ≤ p ∧ p < 6) {ok : Int → Bool} (hok : ok p = true ↔ m_has P p = 1) : x_isFree p P u = if frB ok u p = true then 1 else 0 := by
  obtain ⟨P', rfl⟩ := fin_of (n := 64) hP
  obtain ⟨u', rfl⟩ := fin_of (n := 64) hu
  obtain ⟨p', rfl⟩ := fin_of (n := 6) hp
  rw [free_fin]
  have e : frB ok (u'.val : Int) (p'.val : Int) = true ↔ (m_has (P'.val : Int) (p'.val : Int) = 1 ∧ m_has (u'.val : Int) (p'.val : Int) = 0) := by
    rw [frB, Bool.and_eq_true, decide_eq_true_eq, hok]
  by_cases c : m_has (P'.val : Int) (p'.val : Int) = 1 ∧ m_has (u'.val : Int) (p'.val : Int) = 0
  · rw [if_pos c, if_pos (e.2 c)]
  · rw [if_neg c, if_neg (fun z => c (e.1 z))]
theorem X_present_L {S : SS} {h A : HH} {w : Int} (C : XC S h w A) (hw : 1 ≤ w ∧ w ≤ 99) : ∀ (d n : Nat) (x p : Int), p + d = A 193 0 → 0 ≤ p → d < n → 0 ≤ x ∧ x < 64 → (∀ q, 0 ≤ q → q < 6 → (m_has x q = 1 ↔ q < p ∧ m_has (A 193 1) q = 0)) → ∃ P, xw_present_L4 h w n x p = some P ∧ (0 ≤ P ∧ P < 64) ∧ ∀ q, 0 ≤ q → q < 6 → (okA A q = true ↔ m_has P q = 1) := by
  have n0 := C.1
  intro d
  induction d with
  | zero =>
    intro n x p e p0 hn hx hq
    obtain ⟨n, rfl⟩ : ∃ m, n = m + 1 := ⟨n - 1, by omega⟩
    rw [xw_present_L4, C.1.2.2, if_neg (by rw [wwP (by omega), wwP (by omega)]; omega)]
    refine ⟨x, rfl, hx, fun q q0 q1 => ?_⟩
    rw [hq q q0 q1, okA, Bool.and_eq_true, decide_eq_true_eq, decide_eq_true_eq]
    have e : p = A 193 0 := by omega
    rw [e]
  | succ d ih =>
    intro n x p e p0 hn hx hq
    obtain ⟨n, rfl⟩ : ∃ m, n = m + 1 := ⟨n - 1, by omega⟩
    have g := C.2.2.2.2.2.1 p p0 (by omega)
    rw [xw_present_L4, C.1.2.2, if_pos (by rw [wwP (by omega), wwP (by omega)]; omega), wwP (z := p) (by omega), ckP (by omega), g, ww_has]
    rcases @has_01 (A 193 1) p with z | z
    · rw [if_pos z]
      refine ih n _ (p + 1) (by omega) (by omega) (by omega) (set_b hx (by omega)) (fun q q0 q1 => ?_)
      rw [has_set hx (by omega) (by omega)]
      by_cases c : q = p
      · subst c
        rw [if_pos rfl]
        exact ⟨fun _ => ⟨by omega, z⟩, fun _ => rfl⟩
      · rw [if_neg c, hq q q0 q1]
        constructor
        · rintro ⟨a, b⟩; exact ⟨by omega, b⟩
        · rintro ⟨a, b⟩; exact ⟨by omega, b⟩
    · rw [if_neg (by omega), zor0 (by omega)]
      refine ih n _ (p + 1) (by omega) (by omega) (by omega) hx (fun q q0 q1 => ?_)
      rw [hq q q0 q1]
      by_cases c : q = p
      · subst c
        constructor
        · rintro ⟨a, b⟩; omega
        · rintro ⟨a, b⟩; omega
      · constructor
        · rintro ⟨a, b⟩; exact ⟨by omega, b⟩
        · rintro ⟨a, b⟩; exact ⟨by omega, b⟩
theorem has0_fin : ∀ p : Fin 6, m_has 0 (p.val : Int) = 0 := by decide +kernel
theorem has0 {p : Int} (h : 0 ≤ p ∧ p < 6) : m_has 0 p = 0 := by
  obtain ⟨p', rfl⟩ := fin_of (n := 6) h
  exact has0_fin p'
theorem X_present {S : SS} {h A : HH} (C : XC S h 1 A) : ∃ P, xw_present h 1 = some P ∧ (0 ≤ P ∧ P < 64) ∧ ∀ q, 0 ≤ q → q < 6 → (okA A q = true ↔ m_has P q = 1) := by
  have n0 := C.1
  refine X_present_L C (by omega) (A 193 0).toNat FU 0 0 (by omega) (by omega) (by unfold FU; omega) (by omega) (fun q q0 q1 => ?_)
  rw [has0 ⟨q0, q1⟩]
  omega
