/-- but for what the Model finds the ring with -/
def dB (B A : HH) : Prop := ∀ c j, ¬ ((213 ≤ c ∧ c ≤ 215) ∨ (c = 193 ∧ (j = 36 ∨ j = 37))) → B c j = A c j
theorem dB.agr {A B : HH} (H : dB B A) : agr B A := fun c j a b => H c j (by unfold scC at a; omega)
theorem WO.cg {Y N : Int} {A A' : HH} (H : WO Y N A) (a : ∀ c j, coreC c j → A' c j = A c j) : WO Y N A' := by
  obtain ⟨h1, h2, h3, h4, h5, h6, h7, h8, h9, h10, h11⟩ := H
  unfold WO
  have e0 := a 193 0 (by unfold coreC; omega)
  have e1 := a 193 1 (by unfold coreC; omega)
  have e2 := a 193 2 (by unfold coreC; omega)
  have e3 := a 193 10 (by unfold coreC; omega)
  have e4 : ∀ j, A' 194 j = A 194 j := fun j => a 194 j (by unfold coreC; omega)
  have e5 : ∀ j, A' 195 j = A 195 j := fun j => a 195 j (by unfold coreC; omega)
  have e6 : ∀ j, A' 196 j = A 196 j := fun j => a 196 j (by unfold coreC; omega)
  have e7 : ∀ j, A' 197 j = A 197 j := fun j => a 197 j (by unfold coreC; omega)
  have e8 : ∀ j, A' 198 j = A 198 j := fun j => a 198 j (by unfold coreC; omega)
  have e9 : ∀ j, A' 199 j = A 199 j := fun j => a 199 j (by unfold coreC; omega)
  simp only [e0, e1, e2, e3, e4, e5, e6, e7, e8, e9]
  exact ⟨h1, h2, h3, h4, h5, h6, h7, h8, h9, h10, h11⟩
theorem dB.core {A B : HH} (H : dB B A) : ∀ c j, coreC c j → B c j = A c j := fun c j q => H c j (by unfold coreC at q; omega)
theorem dB.om {A B : HH} (H : dB B A) {O : Int → List CL} (hO : OM A O) : OM B O := hO.cg (H _ _ (by omega)) (fun c j q => H c j (by unfold orchC at q; omega))
theorem dB.force {A B : HH} (H : dB B A) {O : Int → List CL} {p t : Int} : forceA B O p t = forceA A O p t :=
  forceA_cg (H _ _ (by omega)) (H _ _ (by omega)) (H _ _ (by omega)) (H _ _ (by omega)) (H _ _ (by omega)) (fun j => H _ _ (by omega))
theorem dB.w {A B : HH} (H : dB B A) {c j v : Int} (q : (213 ≤ c ∧ c ≤ 215) ∨ (c = 193 ∧ (j = 36 ∨ j = 37))) : dB (u2 B c j v) A := fun a b z => by
  rw [u2N (by omega)]
  exact H a b z
def LFv (A : HH) (O : Int → List CL) (p t : Int) : Int := if bearA A O p t = 1 then forceA A O p t else -2000000000
theorem M_lf_L12 {k A : HH} {Y N p : Int} {O : Int → List CL} (W : WO Y N A) (hY : Y ≤ 20000) (hO : OM A O) (hp : 0 ≤ p ∧ p < A 193 0) (kk : HH → Option HH) : ∀ (d n : Nat) (h B : HH) (t : Int), t + d = 5 → 0 ≤ t → d < n → MR k h B → dB B A → (∀ q u, 0 ≤ q → 0 ≤ u → u < 5 → (q < p ∨ (q = p ∧ u < t)) → B 213 (5 * q + u) = LFv A O q u) → ∃ h' B', m_layForces_L12 p kk n h t = kk h' ∧ MR k h' B' ∧ dB B' A ∧ ∀ q u, 0 ≤ q → 0 ≤ u → u < 5 → q < p + 1 → B' 213 (5 * q + u) = LFv A O q u := by
  have n0 := W.1
  intro d
  induction d with
  | zero =>
    intro n h B t e t0 hn H D w
    obtain ⟨n, rfl⟩ : ∃ m, n = m + 1 := ⟨n - 1, by omega⟩
    rw [m_layForces_L12, if_neg (by rw [wwP (by omega)]; omega)]
    exact ⟨h, B, rfl, H, D, fun q u a b c z => w q u a b c (by omega)⟩
  | succ d ih =>
    intro n h B t e t0 hn H D w
    obtain ⟨n, rfl⟩ : ∃ m, n = m + 1 := ⟨n - 1, by omega⟩
    have WB' := W.cg D.core
    have hpB : 0 ≤ p ∧ p < B 193 0 := by rw [D 193 0 (by omega)]; exact hp
    obtain ⟨h1, e1, H1⟩ := M_bears H WB' hY hpB (t := t) (by omega) (D.om hO)
    rw [D.agr.bear] at e1
    rw [m_layForces_L12, if_pos (by rw [wwP (by omega)]; omega), e1, Option.bind_some]
    have fin : ∀ h2, MR k h2 B → ∀ v, v = LFv A O p t → ∃ h' B', m_layForces_L12 p kk n (u2 h2 213 (5 * p + t) v) (t + 1) = kk h' ∧ MR k h' B' ∧ dB B' A ∧ ∀ q u, 0 ≤ q → 0 ≤ u → u < 5 → q < p + 1 → B' 213 (5 * q + u) = LFv A O q u := fun h2 H2 v hv => by
      refine ih n _ (u2 B 213 (5 * p + t) v) (t + 1) (by omega) (by omega) (by omega) (H2.w (by omega)) (D.w (by omega)) (fun q u a b c z => ?_)
      by_cases z2 : q = p ∧ u = t
      · obtain ⟨rfl, rfl⟩ := z2
        rw [u2S, hv]
      · rw [u2N (by omega)]
        exact w q u a b c (by omega)
    rcases @bear_01 A O p t with z | z
    · rw [if_pos (by show ww (bearA A O p t) = 0; rw [z]; decide), wwP (by omega), ckP (by omega)]
      refine fin h1 H1 _ ?_
      unfold LFv
      rw [z, if_neg (show ¬ (0 : Int) = 1 by decide)]
    · rw [if_neg (by show ¬ ww (bearA A O p t) = 0; rw [z]; decide)]
      obtain ⟨h2, e2, H2⟩ := M_force H1 WB' hY hpB (t := t) (by omega) (D.om hO)
      rw [D.force] at e2
      dsimp only
      rw [e2, Option.bind_some, wwP (by omega), ckP (by omega)]
      refine fin h2 H2 _ ?_
      unfold LFv
      rw [z, if_pos rfl]
theorem M_lf {k A : HH} {Y N : Int} {O : Int → List CL} (W : WO Y N A) (hY : Y ≤ 20000) (hO : OM A O) : ∀ (d n : Nat) (h B : HH) (p : Int), p + d = A 193 0 → 0 ≤ p → d < n → MR k h B → dB B A → (∀ q u, 0 ≤ q → 0 ≤ u → u < 5 → q < p → B 213 (5 * q + u) = LFv A O q u) → ∃ h' B', m_layForces_L2 n h p = some h' ∧ MR k h' B' ∧ dB B' A ∧ ∀ q u, 0 ≤ q → 0 ≤ u → u < 5 → q < A 193 0 → B' 213 (5 * q + u) = LFv A O q u := by
  have n0 := W.1
  intro d
  induction d with
  | zero =>
    intro n h B p e p0 hn H D w
    obtain ⟨n, rfl⟩ : ∃ m, n = m + 1 := ⟨n - 1, by omega⟩
    have n1 : h 193 0 = A 193 0 := by rw [H.s0, D _ _ (by omega)]
    rw [m_layForces_L2, n1, if_neg (by rw [wwP (by omega), wwP (by omega)]; omega)]
    exact ⟨h, B, rfl, H, D, fun q u a b c z => w q u a b c (by omega)⟩
  | succ d ih =>
    intro n h B p e p0 hn H D w
    obtain ⟨n, rfl⟩ : ∃ m, n = m + 1 := ⟨n - 1, by omega⟩
    have n1 : h 193 0 = A 193 0 := by rw [H.s0, D _ _ (by omega)]
    rw [m_layForces_L2, n1, if_pos (by rw [wwP (by omega), wwP (by omega)]; omega)]
    obtain ⟨h1, B1, e1, H1, D1, w1⟩ := M_lf_L12 W hY hO (p := p) (by omega) (fun h3 => m_layForces_L2 n h3 (p + 1)) 5 FU h B 0 rfl (by omega) (by decide) H D (fun q u a b c z => w q u a b c (by omega))
    rw [e1]
    exact ih n h1 B1 (p + 1) (by omega) (by omega) (by omega) H1 D1 w1
theorem rl_len : ∀ (d : Nat) (x : Int), (rl d x).length = d
  | 0, _ => rfl
  | d + 1, x => by rw [rl, List.length_cons, rl_len d]
theorem M_layRing_L {k A : HH} {n0 : Int} (hn0 : n0 = A 193 0) (hnb : 0 ≤ n0 ∧ n0 ≤ 6) : ∀ (d n : Nat) (h B : HH) (y m t : Int), t + 1 = d → d ≤ 5 → MR k h B → B 193 0 = n0 → 0 ≤ m ∧ m < 64 → 0 ≤ y ∧ y ≤ 2000000000 → d < n → ∃ h' B', m_layRing_L10 n h y m t = some (if rok n0 d y m = true then 1 else 0, h') ∧ MR k h' B' ∧ (∀ c j, ¬ (c = 214 ∧ 0 ≤ j ∧ j ≤ t) → B' c j = B c j) ∧ (rok n0 d y m = true → ∀ i : Nat, i < d → B' 214 (t - i) = (rl d y).getD i 0) := by
  intro d
  induction d with
  | zero =>
    intro n h B y m t e d5 H hB hm hy hn
    obtain ⟨n, rfl⟩ : ∃ m, n = m + 1 := ⟨n - 1, by omega⟩
    rw [m_layRing_L10, if_pos (by rw [wwP (by omega)]; omega), rok, if_pos rfl]
    exact ⟨h, B, rfl, H, fun _ _ _ => rfl, fun _ i hi => by omega⟩
  | succ d ih =>
    intro n h B y m t e d5 H hB hm hy hn
    obtain ⟨n, rfl⟩ : ∃ m, n = m + 1 := ⟨n - 1, by omega⟩
    have r6 : 0 ≤ y % 7 ∧ y % 7 ≤ 6 := by omega
    have er : zrem y 7 = y % 7 := zremP (by omega)
    have ed : zdiv y 7 = y / 7 := zdivP (by omega)
    have e9 : t + (-1) = t - 1 := by omega
    have H1 : MR k (u2 h 214 t (y % 7)) (u2 B 214 t (y % 7)) := H.w (by omega)
    have n1 : u2 h 214 t (y % 7) 193 0 = n0 := by rw [u2N (by omega), H.s0, hB]
    have off : ∀ c j, ¬ (c = 214 ∧ 0 ≤ j ∧ j ≤ t) → u2 B 214 t (y % 7) c j = B c j := fun c j z => u2N (by omega)
    have next : ∀ m', 0 ≤ m' ∧ m' < 64 → rok n0 (d + 1) y m = rok n0 d (y / 7) m' → ∃ h' B', m_layRing_L10 n (u2 h 214 t (y % 7)) (y / 7) m' (t - 1) = some (if rok n0 (d + 1) y m = true then 1 else 0, h') ∧ MR k h' B' ∧ (∀ c j, ¬ (c = 214 ∧ 0 ≤ j ∧ j ≤ t) → B' c j = B c j) ∧ (rok n0 (d + 1) y m = true → ∀ i : Nat, i < d + 1 → B' 214 (t - i) = (rl (d + 1) y).getD i 0) := fun m' hm' er' => by
      obtain ⟨h2, B2, e2, H2, o2, g2⟩ := ih n (u2 h 214 t (y % 7)) (u2 B 214 t (y % 7)) (y / 7) m' (t - 1) (by omega) (by omega) H1 (by rw [u2N (by omega), hB]) hm' (by omega) (by omega)
      rw [er']
      refine ⟨h2, B2, e2, H2, fun c j z => by rw [o2 c j (by omega), off c j z], fun hr i hi => ?_⟩
      rw [rl]
      cases i with
      | zero =>
        rw [o2 _ _ (by omega)]
        show u2 B 214 t (y % 7) 214 (t - ((0 : Nat) : Int)) = y % 7
        rw [show t - ((0 : Nat) : Int) = t by omega, u2S]
      | succ i =>
        have := g2 hr i (by omega)
        rw [show t - 1 - (i : Int) = t - ((i + 1 : Nat) : Int) by omega] at this
        rw [this]
        rfl
    have stop : rok n0 (d + 1) y m = false → ∃ h' B', some ((0 : Int), u2 h 214 t (y % 7)) = some (if rok n0 (d + 1) y m = true then 1 else 0, h') ∧ MR k h' B' ∧ (∀ c j, ¬ (c = 214 ∧ 0 ≤ j ∧ j ≤ t) → B' c j = B c j) ∧ (rok n0 (d + 1) y m = true → ∀ i : Nat, i < d + 1 → B' 214 (t - i) = (rl (d + 1) y).getD i 0) := fun hr => by
      rw [hr]
      exact ⟨_, _, rfl, H1, off, fun z => by simp at z⟩
    rw [m_layRing_L10, er, ed, if_neg (by rw [wwP (by omega)]; omega), wwP (z := t) (by omega), ckP (by omega), n1, e9]
    by_cases c1 : y % 7 = 6
    · rw [if_pos (by rw [wwP (by omega)]; exact c1)]
      exact next m hm (by rw [rok, if_pos c1])
    · rw [if_neg (by rw [wwP (by omega)]; exact c1)]
      by_cases c2 : y % 7 < n0
      · rw [if_pos (by rw [wwP (by omega), wwP (by omega)]; exact c2)]
        rcases @has_01 m (y % 7) with z | z
        · rw [if_pos (by rw [ww_has, z])]
          exact next _ (set_b hm (by omega)) (by rw [rok, if_neg c1, if_pos ⟨c2, z⟩]; rfl)
        · rw [if_neg (by rw [ww_has, z]; decide)]
          exact stop (by rw [rok, if_neg c1, if_neg (by omega)])
      · rw [if_neg (by rw [wwP (by omega), wwP (by omega)]; exact c2)]
        exact stop (by rw [rok, if_neg c1, if_neg (by omega)])
theorem M_layRing {k h B : HH} {x G : Int} (H : MR k h B) (hG : 0 ≤ G ∧ G < 64) (eG : B 193 1 = G) (hn : 0 ≤ B 193 0 ∧ B 193 0 ≤ 6) (hx : 0 ≤ x ∧ x < 16807) : ∃ h' B', m_layRing h x = some (if okL (fun p => decide (p < B 193 0)) G (rl 5 x) = true then 1 else 0, h') ∧ MR k h' B' ∧ (∀ c j, c ≠ 214 → B' c j = B c j) ∧ (okL (fun p => decide (p < B 193 0)) G (rl 5 x) = true → ∀ i : Nat, i < 5 → B' 214 i = (dl 5 x).getD i 0) := by
  unfold m_layRing
  rw [H.s1, eG]
  obtain ⟨h1, B1, e1, H1, o1, g1⟩ := M_layRing_L (k := k) (A := B) (n0 := B 193 0) rfl hn 5 FU h B x G 4 rfl (by omega) H rfl hG (by omega) (by decide)
  rw [rok_L] at e1 g1
  refine ⟨h1, B1, e1, H1, fun c j z => o1 c j (by omega), fun hr i hi => ?_⟩
  have := g1 hr (4 - i) (by omega)
  rw [rl_5 hx, show (4 : Int) - ((4 - i : Nat) : Int) = i by omega] at this
  rw [this]
  match i, hi with
  | 0, _ => rfl
  | 1, _ => rfl
  | 2, _ => rfl
  | 3, _ => rfl
  | 4, _ => rfl
/-- how many bear in the ring, and what they are worth together -/
def csL (A : HH) (O : Int → List CL) : Int → List Int → Int → Int → Int × Int
  | _, [], c, s => (c, s)
  | t, q :: r, c, s => if q = 6 then csL A O (t + 1) r c s else if bearA A O q t = 1 then csL A O (t + 1) r (c + 1) (s + forceA A O q t) else csL A O (t + 1) r c s
theorem bear_f {A : HH} {O : Int → List CL} {p t : Int} (hO : OM A O) (h : bearA A O p t = 1) : 0 ≤ forceA A O p t := by
  have := need_b hO
  unfold bearA at h
  by_cases c : m_has (A 193 1) p = 0
  · rw [if_pos c] at h
    by_cases c2 : forceA A O p t < needA A O
    · rw [if_pos c2] at h; omega
    · omega
  · rw [if_neg c] at h; omega
theorem csL_b {A : HH} {O : Int → List CL} {Y N : Int} (hO : OM A O) (W : WO Y N A) : ∀ (L : List Int) (t c s : Int), 0 ≤ t → t + L.length ≤ 5 → (∀ q ∈ L, 0 ≤ q ∧ (q = 6 ∨ q < A 193 0)) → (c ≤ (csL A O t L c s).1 ∧ (csL A O t L c s).1 ≤ c + L.length) ∧ (s ≤ (csL A O t L c s).2 ∧ (csL A O t L c s).2 ≤ s + 3000 * L.length) ∧ 1000000 * (csL A O t L c s).1 + (csL A O t L c s).2 = 1000000 * c + s + smL (WA A O) t L
  | [], t, c, s, _, _, _ => by
    rw [csL, smL]
    simp
  | q :: r, t, c, s, ht, hl, hq => by
    rw [List.length_cons] at hl ⊢
    have h0 := hq q List.mem_cons_self
    have hr : ∀ p ∈ r, 0 ≤ p ∧ (p = 6 ∨ p < A 193 0) := fun p hp => hq p (List.mem_cons_of_mem _ hp)
    rw [csL, smL]
    by_cases c1 : q = 6
    · rw [if_pos c1, if_pos c1]
      have := csL_b hO W r (t + 1) c s (by omega) (by omega) hr
      omega
    · rw [if_neg c1, if_neg c1]
      have fb := force_b hO W (p := q) (t := t) (by omega) (by omega)
      by_cases c2 : bearA A O q t = 1
      · have := csL_b hO W r (t + 1) (c + 1) (s + forceA A O q t) (by omega) (by omega) hr
        have f0 := bear_f hO c2
        rw [if_pos c2, WA, if_pos c2]
        omega
      · have := csL_b hO W r (t + 1) c s (by omega) (by omega) hr
        rw [if_neg c2, WA, if_neg c2]
        omega
theorem M_lb_L41 {k A B : HH} {O : Int → List CL} {Y N x1 : Int} (hO : OM A O) (W : WO Y N A) {h : HH} (H : MR k h B) (w : ∀ q u, 0 ≤ q → 0 ≤ u → u < 5 → q < A 193 0 → B 213 (5 * q + u) = LFv A O q u) (kk : HH → Int → Int → Option HH) : ∀ (L : List Int) (n : Nat) (t c s : Int), 0 ≤ t → t + L.length = 5 → L.length < n → (∀ q ∈ L, 0 ≤ q ∧ (q = 6 ∨ q < A 193 0)) → (∀ i : Nat, i < L.length → B 214 (t + i) = L.getD i 0) → m_layBest_L41 x1 kk n h c s t = kk h (csL A O t L c s).1 (csL A O t L c s).2
  | [], n, t, c, s, t0, hl, hn, hq, hB => by
    obtain ⟨n, rfl⟩ : ∃ m, n = m + 1 := ⟨n - 1, by simp at hn; omega⟩
    rw [List.length_nil] at hl
    rw [m_layBest_L41, if_neg (by rw [wwP (by omega)]; omega), csL]
  | q :: r, n, t, c, s, t0, hl, hn, hq, hB => by
    rw [List.length_cons] at hl hn
    obtain ⟨n, rfl⟩ : ∃ m, n = m + 1 := ⟨n - 1, by omega⟩
    have n0 := W.1
    have h0 := hq q List.mem_cons_self
    have hr : ∀ p ∈ r, 0 ≤ p ∧ (p = 6 ∨ p < A 193 0) := fun p hp => hq p (List.mem_cons_of_mem _ hp)
    have hB2 : ∀ i : Nat, i < r.length → B 214 (t + 1 + i) = r.getD i 0 := fun i hi => by
      have := hB (i + 1) (by rw [List.length_cons]; omega)
      rw [show t + ((i + 1 : Nat) : Int) = t + 1 + i by omega] at this
      rw [this]
      rfl
    have b0 : h 214 t = q := by
      have := hB 0 (by rw [List.length_cons]; omega)
      rw [show t + ((0 : Nat) : Int) = t by omega] at this
      rw [H.r214, this]
      rfl
    have ih := fun c s => M_lb_L41 (x1 := x1) hO W H w kk r n (t + 1) c s (by omega) (by omega) (by omega) hr hB2
    rw [m_layBest_L41, if_pos (by rw [wwP (by omega)]; omega), wwP (z := t) (by omega), ckP (by omega), b0, csL]
    by_cases c1 : q = 6
    · rw [if_pos (by rw [wwP (by omega)]; exact c1), if_pos c1]
      exact ih c s
    · have w1 : h 213 (5 * q + t) = LFv A O q t := by rw [H.r213, w q t (by omega) (by omega) (by omega) (by omega)]
      have fb := force_b hO W (p := q) (t := t) (by omega) (by omega)
      rw [if_neg (by rw [wwP (by omega)]; exact c1), if_neg c1, ckP (by omega), wwP (z := 5 * q + t) (by omega), ckP (by omega), w1]
      by_cases c2 : bearA A O q t = 1
      · have l1 : LFv A O q t = forceA A O q t := by unfold LFv; rw [if_pos c2]
        rw [l1, if_neg (by rw [wwP (by omega)]; omega), if_pos c2, ckP (by omega), ckP (by omega)]
        exact ih _ _
      · have l1 : LFv A O q t = -2000000000 := by unfold LFv; rw [if_neg c2]
        rw [l1, if_pos (by decide), if_neg c2]
        exact ih c s
theorem M_lb_L154 {k : HH} {x1 : Int} (kk : HH → Option HH) : ∀ (d n : Nat) (h B : HH) (t : Int), t + d = 5 → 0 ≤ t → d < n → MR k h B → ∃ h' B', m_layBest_L154 x1 kk n h t = kk h' ∧ MR k h' B' ∧ (∀ c j, c ≠ 215 → B' c j = B c j) ∧ ∀ j, B' 215 j = if t ≤ j ∧ j < 5 then B 214 j else B 215 j := by
  intro d
  induction d with
  | zero =>
    intro n h B t e t0 hn H
    obtain ⟨n, rfl⟩ : ∃ m, n = m + 1 := ⟨n - 1, by omega⟩
    rw [m_layBest_L154, if_neg (by rw [wwP (by omega)]; omega)]
    exact ⟨h, B, rfl, H, fun _ _ _ => rfl, fun j => by rw [if_neg (by omega)]⟩
  | succ d ih =>
    intro n h B t e t0 hn H
    obtain ⟨n, rfl⟩ : ∃ m, n = m + 1 := ⟨n - 1, by omega⟩
    rw [m_layBest_L154, if_pos (by rw [wwP (by omega)]; omega), wwP (by omega), ckP (by omega), ckP (by omega), H.r214]
    obtain ⟨h1, B1, e1, H1, o1, g1⟩ := ih n _ _ (t + 1) (by omega) (by omega) (by omega) (H.w (c := 215) (j := t) (v := B 214 t) (by omega))
    refine ⟨h1, B1, e1, H1, fun c j z => by rw [o1 c j z, u2N (by omega)], fun j => ?_⟩
    rw [g1]
    by_cases c : j = t
    · subst c
      rw [if_neg (by omega), if_pos (by omega), u2S]
    · rw [u2N (by omega), u2N (by omega)]
      by_cases c2 : t + 1 ≤ j ∧ j < 5
      · rw [if_pos c2, if_pos (by omega)]
      · rw [if_neg c2, if_neg (by omega)]
def evA (A : HH) (O : Int → List CL) (x : Int) : Option Int := evF (okA A) (WA A O) 5 0 x
theorem okA_L {A : HH} {x : Int} (hG : 0 ≤ A 193 1 ∧ A 193 1 < 64) (hx : 0 ≤ x ∧ x < 16807) : okL (fun p => decide (p < A 193 0)) (A 193 1) (rl 5 x) = okL (okA A) 0 (dl 5 x) := by
  refine (okL_eq (by omega) hG (rl_5 hx) (dl_b hx) (fun p p0 p6 => ?_)).symm
  rw [okA, Bool.and_eq_true, decide_eq_true_eq, decide_eq_true_eq, has0 ⟨p0, p6⟩]
  exact ⟨fun z => z.1, fun z => ⟨z, rfl⟩⟩
theorem okA_d {A : HH} {x : Int} (hx : 0 ≤ x ∧ x < 16807) (h : okL (okA A) 0 (dl 5 x) = true) : ∀ q ∈ dl 5 x, 0 ≤ q ∧ (q = 6 ∨ q < A 193 0) := fun q hq => by
  have b := dl_b hx q hq
  rcases ((okL_iff (ok := okA A) (dl 5 x) 0 (by omega) (dl_b hx)).1 h).1 q hq with z | z
  · exact ⟨b.1, .inl z⟩
  · refine ⟨b.1, .inr ?_⟩
    have z1 := z.1
    rw [okA, Bool.and_eq_true, decide_eq_true_eq] at z1
    exact z1.1
/-- what the search stands at -/
def lbI (A : HH) (O : Int → List CL) (B : HH) (st : Int × Int) : Prop := dB B A ∧ (∀ q u, 0 ≤ q → 0 ≤ u → u < 5 → q < A 193 0 → B 213 (5 * q + u) = LFv A O q u) ∧ st.1 = 1000000 * B 193 36 + B 193 37 ∧ (-1 ≤ B 193 36 ∧ B 193 36 ≤ 5) ∧ (0 ≤ B 193 37 ∧ B 193 37 ≤ 15000) ∧ (0 ≤ B 193 36 → ∀ i : Nat, i < 5 → B 215 i = (dl 5 st.2).getD i 0)
theorem M_lb_L16 {k A : HH} {O : Int → List CL} {Y N : Int} (hO : OM A O) (W : WO Y N A) : ∀ (d n : Nat) (h B : HH) (x : Int) (st : Int × Int), x + d = 16807 → 0 ≤ x → d < n → MR k h B → lbI A O B st → ∃ h' B', m_layBest_L16 n h x = some h' ∧ MR k h' B' ∧ lbI A O B' (FL (evA A O) d x st) := by
  have n0 := W.1
  have hG := W.2.2.1
  intro d
  induction d with
  | zero =>
    intro n h B x st e x0 hn H I
    obtain ⟨n, rfl⟩ : ∃ m, n = m + 1 := ⟨n - 1, by omega⟩
    rw [m_layBest_L16, if_neg (by rw [wwP (by omega)]; omega)]
    exact ⟨h, B, rfl, H, I⟩
  | succ d ih =>
    intro n h B x st e x0 hn H I
    obtain ⟨n, rfl⟩ : ∃ m, n = m + 1 := ⟨n - 1, by omega⟩
    obtain ⟨D, w, i1, i2, i3, i4⟩ := I
    have eG : B 193 1 = A 193 1 := D _ _ (by omega)
    have eN : B 193 0 = A 193 0 := D _ _ (by omega)
    obtain ⟨h1, B1, e1, H1, o1, g1⟩ := M_layRing (x := x) H hG eG (by omega) (by omega)
    rw [eN, okA_L hG (by omega)] at e1 g1
    rw [m_layBest_L16, if_pos (by rw [wwP (by omega)]; omega), e1, Option.bind_some, FL, stp, evA, evF_L 5 0 x (by omega)]
    have D1 : dB B1 A := fun c j z => by rw [o1 c j (by omega)]; exact D c j z
    have w1 : ∀ q u, 0 ≤ q → 0 ≤ u → u < 5 → q < A 193 0 → B1 213 (5 * q + u) = LFv A O q u := fun q u a b c z => by rw [o1 _ _ (by omega)]; exact w q u a b c z
    have f1 : B1 193 36 = B 193 36 := o1 _ _ (by omega)
    have f2 : B1 193 37 = B 193 37 := o1 _ _ (by omega)
    have I1 : lbI A O B1 st := ⟨D1, w1, by rw [f1, f2]; exact i1, by rw [f1]; exact i2, by rw [f2]; exact i3, fun z i hi => by rw [o1 _ _ (by omega)]; exact i4 (by omega) i hi⟩
    by_cases ok : okL (okA A) 0 (dl 5 x) = true
    · have hd := okA_d (by omega) ok
      have L5 : (dl 5 x).length = 5 := rfl
      have b := csL_b hO W (dl 5 x) 0 0 0 (by omega) (by rw [L5]; omega) hd
      rw [L5] at b
      rw [if_pos ok, if_pos ok, if_neg (show ¬ ww (1 : Int) = 0 by decide)]
      dsimp only
      rw [M_lb_L41 hO W H1 w1 _ (dl 5 x) FU 0 0 0 (by omega) (by rw [L5]; omega) (by rw [L5]; decide) hd (fun i hi => by
        rw [Int.zero_add]
        exact g1 ok i (by rw [L5] at hi; exact hi))]
      generalize csL A O 0 (dl 5 x) 0 0 = cs at b ⊢
      have k1 : 1000000 * cs.1 + cs.2 = smL (WA A O) (5 - ((5 : Nat) : Int)) (dl 5 x) := by
        have := b.2.2
        rw [show (5 : Int) - ((5 : Nat) : Int) = 0 by omega]
        omega
      have e36 : h1 193 36 = B 193 36 := by rw [H1.s36, f1]
      have e37 : h1 193 37 = B 193 37 := by rw [H1.s37, f2]
      have keep : st.1 ≥ 1000000 * cs.1 + cs.2 → ∃ h' B', m_layBest_L16 n h1 (x + 1) = some h' ∧ MR k h' B' ∧ lbI A O B' (FL (evA A O) d (x + 1) (match (some (smL (WA A O) (5 - ((5 : Nat) : Int)) (dl 5 x)) : Option Int) with | none => st | some k => updK st k x)) := fun z => by
        have e3 : (match (some (smL (WA A O) (5 - ((5 : Nat) : Int)) (dl 5 x)) : Option Int) with | none => st | some k => updK st k x) = st := by
          show updK st _ x = st
          unfold updK
          rw [← k1, if_neg (by omega)]
        rw [e3]
        exact ih n h1 B1 (x + 1) st (by omega) (by omega) (by omega) H1 I1
      have take : st.1 < 1000000 * cs.1 + cs.2 → ∃ h' B', m_layBest_L154 x (fun h6 => m_layBest_L16 n h6 (x + 1)) FU (u2 (u2 h1 193 36 cs.1) 193 37 cs.2) 0 = some h' ∧ MR k h' B' ∧ lbI A O B' (FL (evA A O) d (x + 1) (match (some (smL (WA A O) (5 - ((5 : Nat) : Int)) (dl 5 x)) : Option Int) with | none => st | some k => updK st k x)) := fun z => by
        have e3 : (match (some (smL (WA A O) (5 - ((5 : Nat) : Int)) (dl 5 x)) : Option Int) with | none => st | some k => updK st k x) = (1000000 * cs.1 + cs.2, x) := by
          show updK st _ x = _
          unfold updK
          rw [← k1, if_pos z]
        rw [e3]
        obtain ⟨h2, B2, e2, H2, o2, g2⟩ := M_lb_L154 (x1 := x) (fun h6 => m_layBest_L16 n h6 (x + 1)) 5 FU _ _ 0 rfl (by omega) (by decide) ((H1.w (c := 193) (j := 36) (v := cs.1) (by omega)).w (c := 193) (j := 37) (v := cs.2) (by omega))
        rw [e2]
        refine ih n h2 B2 (x + 1) _ (by omega) (by omega) (by omega) H2 ⟨fun c j y => ?_, fun q u a b c y => ?_, ?_, ?_, ?_, fun y i hi => ?_⟩
        · rw [o2 c j (by omega), u2N (by omega), u2N (by omega)]
          exact D1 c j y
        · rw [o2 _ _ (by omega), u2N (by omega), u2N (by omega)]
          exact w1 q u a b c y
        · rw [o2 _ _ (by omega), o2 _ _ (by omega), u2N (by omega), u2S, u2S]
        · rw [o2 _ _ (by omega), u2N (by omega), u2S]
          omega
        · rw [o2 _ _ (by omega), u2S]
          omega
        · rw [g2, if_pos (by omega), u2N (by omega), u2N (by omega)]
          exact g1 ok i hi
      rw [e36, e37, wwP (by omega), wwP (by omega), wwP (by omega), wwP (by omega)]
      by_cases c1 : cs.1 < B 193 36
      · rw [if_pos c1]
        exact keep (by omega)
      · rw [if_neg c1]
        by_cases c2 : cs.1 = B 193 36
        · rw [if_pos c2]
          by_cases c3 : B 193 37 < cs.2
          · rw [if_pos c3]
            exact take (by omega)
          · rw [if_neg c3]
            exact keep (by omega)
        · rw [if_neg c2]
          exact take (by omega)
    · rw [if_neg ok, if_neg ok, if_pos (show ww (0 : Int) = 0 by decide)]
      exact ih n h1 B1 (x + 1) st (by omega) (by omega) (by omega) H1 I1
theorem WA_B {A : HH} {O : Int → List CL} (hO : OM A O) {Y N : Int} (W : WO Y N A) : WB (okA A) (WA A O) := fun p t p0 p6 ok t0 t5 => by
  rw [okA, Bool.and_eq_true, decide_eq_true_eq] at ok
  exact WA_b hO W ⟨p0, ok.1⟩ ⟨t0, t5⟩
theorem M_layBest {k h A : HH} {O : Int → List CL} {Y N : Int} (hO : OM A O) (W : WO Y N A) (hY : Y ≤ 20000) (H : MR k h A) : ∃ h' B, m_layBest h = some h' ∧ MR k h' B ∧ dB B A ∧ 1000000 * B 193 36 + B 193 37 = BB (okA A) (WA A O) 5 0 ∧ (0 ≤ B 193 36 ∧ B 193 36 ≤ 5) ∧ (0 ≤ B 193 37 ∧ B 193 37 ≤ 15000) ∧ ∀ i : Nat, i < 5 → B 215 i = (gl (okA A) (WA A O) 5 0).getD i 0 := by
  have n0 := W.1
  obtain ⟨h1, B1, e1, H1, D1, w1⟩ := M_lf W hY hO (A 193 0).toNat FU h A 0 (by omega) (by omega) (by unfold FU; omega) H (fun _ _ _ => rfl) (fun q u a b c z => by omega)
  have e1 : m_layForces h = some h1 := e1
  obtain ⟨h2, B2, e2, H2, D2, w2, i1, i2, i3, i4⟩ := M_lb_L16 (k := k) hO W 16807 FU (u2 (u2 h1 193 36 (-1)) 193 37 0) (u2 (u2 B1 193 36 (-1)) 193 37 0) 0 (-1000000, 0) (by omega) (by omega) (by decide) ((H1.w (by omega)).w (by omega)) ⟨(D1.w (by omega)).w (by omega), fun q u a b c z => by simp (disch := omega) only [u2S, u2N, u2T]; exact w1 q u a b c z, by simp (disch := omega) only [u2S, u2N, u2T]; rfl, by simp (disch := omega) only [u2S, u2N, u2T]; omega, by simp (disch := omega) only [u2S, u2N, u2T]; omega, fun z => by
    revert z
    simp (disch := omega) only [u2S, u2N, u2T]
    omega⟩
  have F : FL (evA A O) 16807 0 (-1000000, 0) = updK (-1000000, 0) (0 + BB (okA A) (WA A O) 5 0) (0 + FI (okA A) (WA A O) 5 0) := blk (ev := evA A O) 5 0 0 0 (-1000000, 0) (fun o o0 o1 => by
    rw [Int.zero_add, evA]
    cases evF (okA A) (WA A O) 5 0 o with
    | none => rfl
    | some z =>
      show some z = some (0 + z)
      rw [Int.zero_add])
  have b := BB_b (WA_B hO W) 5 0 (by omega)
  rw [F] at i1 i4
  have u : updK (-1000000, 0) (0 + BB (okA A) (WA A O) 5 0) (0 + FI (okA A) (WA A O) 5 0) = (BB (okA A) (WA A O) 5 0, FI (okA A) (WA A O) 5 0) := by
    unfold updK
    rw [Int.zero_add, Int.zero_add, if_pos (by show (-1000000 : Int) < _; omega)]
  rw [u] at i1 i4
  have i1 : BB (okA A) (WA A O) 5 0 = 1000000 * B2 193 36 + B2 193 37 := i1
  refine ⟨h2, B2, ?_, H2, D2, i1.symm, by omega, i3, fun i hi => ?_⟩
  · unfold m_layBest
    rw [e1, Option.bind_some]
    exact e2
  · rw [i4 (by omega) i hi]
    show (dl 5 (FI (okA A) (WA A O) 5 0)).getD i 0 = _
    rw [(FI_gl 5 0).2]
