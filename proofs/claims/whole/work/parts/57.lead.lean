/- lead -/
def leadsP (A : HH) (p j : Int) : HH := fun c i => if c = 199 ∧ 0 ≤ i ∧ i < j ∧ 0 ≤ p ∧ A 199 i = p then -5 else A c i
theorem leadsP_at {A : HH} {p j c i : Int} : leadsP A p j c i = if c = 199 ∧ 0 ≤ i ∧ i < j ∧ 0 ≤ p ∧ A 199 i = p then -5 else A c i := rfl
def leads (A : HH) (t p : Int) : HH := u2 (leadsP A p 5) 199 t (if p < 0 then -5 else p)
theorem M_leads_L {k A : HH} {t p : Int} (ht : 0 ≤ t ∧ t < 5) (hp : -2147483648 ≤ p ∧ p ≤ 2147483647) (hl : ∀ i, 0 ≤ i → i < 5 → -5 ≤ A 199 i ∧ A 199 i < 6) : ∀ (d n : Nat) (h : HH) (x3 : Int), x3 + d = 5 → 0 ≤ x3 → d < n → MR k h (leadsP A p x3) → ∃ h', m_leads_L2 t p n h x3 = some h' ∧ MR k h' (leads A t p) := by
  intro d
  induction d with
  | zero =>
    intro n h x3 e h0 hn H
    obtain ⟨n, rfl⟩ : ∃ m, n = m + 1 := ⟨n - 1, by omega⟩
    have e : x3 = 5 := by omega
    subst e
    rw [m_leads_L2]
    unfold leads
    rcases Int.lt_or_le p 0 with c | c <;> simp (disch := omega) only [reduceIte, ltT, ltF, eqT, eqF, leT, leF, wwP, ckP, ckzP, ckbP, u2S, u2N, u2T, ↓Option.bind_some, inB_T, inB_F, Bool.false_eq_true, m_in0, m_in1] <;> exact ⟨_, rfl, H.w (by omega)⟩
  | succ d ih =>
    intro n h x3 e h0 hn H
    obtain ⟨n, rfl⟩ : ∃ m, n = m + 1 := ⟨n - 1, by omega⟩
    rw [m_leads_L2]
    have r : h 199 x3 = A 199 x3 := by
      rw [H.r199]
      unfold leadsP
      rw [if_neg (by omega)]
    have l := hl x3 h0 (by omega)
    rcases Int.lt_or_le p 0 with c | c
    · simp (disch := omega) only [reduceIte, ltT, ltF, eqT, eqF, leT, leF, wwP, ckP, ckzP, ckbP, u2S, u2N, u2T, ↓Option.bind_some, inB_T, inB_F, Bool.false_eq_true, m_in0, m_in1]
      refine ih n h (x3 + 1) (by omega) (by omega) (by omega) (H.eq fun c j q => ?_)
      unfold leadsP
      rw [if_neg (by omega), if_neg (by omega)]
    · by_cases z : A 199 x3 = p
      · simp (disch := omega) only [reduceIte, ltT, ltF, eqT, eqF, leT, leF, wwP, ckP, ckzP, ckbP, u2S, u2N, u2T, ↓Option.bind_some, inB_T, inB_F, Bool.false_eq_true, m_in0, m_in1, r, z]
        refine ih n _ (x3 + 1) (by omega) (by omega) (by omega) ((H.w (c := 199) (j := x3) (v := -5) (by omega)).eq fun a b q => ?_)
        rw [leadsP_at]
        by_cases w : a = 199 ∧ b = x3
        · rw [u2T w, if_pos (by obtain ⟨rfl, rfl⟩ := w; omega)]
        · rw [u2N (by omega), leadsP_at]
          by_cases w2 : a = 199 ∧ 0 ≤ b ∧ b < x3 ∧ 0 ≤ p ∧ A 199 b = p
          · rw [if_pos w2, if_pos (by omega)]
          · rw [if_neg w2, if_neg (by omega)]
      · simp (disch := omega) only [reduceIte, ltT, ltF, eqT, eqF, leT, leF, wwP, ckP, ckzP, ckbP, u2S, u2N, u2T, ↓Option.bind_some, inB_T, inB_F, Bool.false_eq_true, m_in0, m_in1, r]
        refine ih n h (x3 + 1) (by omega) (by omega) (by omega) (H.eq fun a b q => ?_)
        unfold leadsP
        by_cases w : a = 199 ∧ b = x3
        · obtain ⟨rfl, rfl⟩ := w
          rw [if_neg (by omega), if_neg (by omega)]
        · by_cases w2 : a = 199 ∧ 0 ≤ b ∧ b < x3 ∧ 0 ≤ p ∧ A 199 b = p
          · rw [if_pos w2, if_pos (by omega)]
          · rw [if_neg w2, if_neg (by omega)]
theorem M_leads {k h A : HH} {t p : Int} (H : MR k h A) (ht : 0 ≤ t ∧ t < 5) (hp : -2147483648 ≤ p ∧ p ≤ 2147483647) (hl : ∀ i, 0 ≤ i → i < 5 → -5 ≤ A 199 i ∧ A 199 i < 6) : ∃ h', m_leads h t p = some h' ∧ MR k h' (leads A t p) := by
  unfold m_leads
  refine M_leads_L ht hp hl 5 FU h 0 rfl (by omega) (by decide) (H.eq fun c j q => ?_)
  unfold leadsP
  rw [if_neg (by omega)]
theorem X_treeOf_L {h A : HH} {w p : Int} (hp : -2147483648 ≤ p ∧ p ≤ 2147483647) (hX : ∀ t, 0 ≤ t → t < 5 → h (w + 18) t = A 199 t) (hl : ∀ i, 0 ≤ i → i < 5 → -5 ≤ A 199 i ∧ A 199 i < 6) : ∀ (d n : Nat) (x : Int), x + d = 5 → 0 ≤ x → d < n → (∃ u, x ≤ u ∧ u < 5 ∧ A 199 u = p ∧ (∀ i, x ≤ i → i < u → A 199 i ≠ p) ∧ xw_treeOf_L2 h w p n x = some u) ∨ ((∀ i, x ≤ i → i < 5 → A 199 i ≠ p) ∧ xw_treeOf_L2 h w p n x = some (-5)) := by
  intro d
  induction d with
  | zero =>
    intro n x e h0 hn
    obtain ⟨n, rfl⟩ : ∃ m, n = m + 1 := ⟨n - 1, by omega⟩
    rw [xw_treeOf_L2]
    right
    simp (disch := omega) only [reduceIte, ltT, ltF, eqT, eqF, leT, leF, wwP, ckP, ckzP, ckbP, u2S, u2N, u2T, ↓Option.bind_some, inB_T, inB_F, Bool.false_eq_true, m_in0, m_in1]
    exact ⟨fun i _ _ => by omega, trivial⟩
  | succ d ih =>
    intro n x e h0 hn
    obtain ⟨n, rfl⟩ : ∃ m, n = m + 1 := ⟨n - 1, by omega⟩
    rw [xw_treeOf_L2]
    have r : h (w + 18) x = A 199 x := hX x h0 (by omega)
    have l := hl x h0 (by omega)
    by_cases z : A 199 x = p
    · left
      refine ⟨x, by omega, by omega, z, fun i _ _ => by omega, ?_⟩
      simp (disch := omega) only [reduceIte, ltT, ltF, eqT, eqF, leT, leF, wwP, ckP, ckzP, ckbP, u2S, u2N, u2T, ↓Option.bind_some, inB_T, inB_F, Bool.false_eq_true, m_in0, m_in1, r, z]
    · simp (disch := omega) only [reduceIte, ltT, ltF, eqT, eqF, leT, leF, wwP, ckP, ckzP, ckbP, u2S, u2N, u2T, ↓Option.bind_some, inB_T, inB_F, Bool.false_eq_true, m_in0, m_in1, r, z]
      rcases ih n (x + 1) (by omega) (by omega) (by omega) with ⟨u, g1, g2, g3, g4, g5⟩ | ⟨g1, g2⟩
      · exact .inl ⟨u, by omega, g2, g3, fun i q1 q2 => by
          by_cases y : i = x
          · subst y; exact z
          · exact g4 i (by omega) q2, g5⟩
      · exact .inr ⟨fun i q1 q2 => by
          by_cases y : i = x
          · subst y; exact z
          · exact g1 i (by omega) q2, g2⟩
theorem X_treeOf {h A : HH} {w p : Int} (hp : -2147483648 ≤ p ∧ p ≤ 2147483647) (hX : ∀ t, 0 ≤ t → t < 5 → h (w + 18) t = A 199 t) (hl : ∀ i, 0 ≤ i → i < 5 → -5 ≤ A 199 i ∧ A 199 i < 6) : (∃ u, 0 ≤ u ∧ u < 5 ∧ A 199 u = p ∧ (∀ i, 0 ≤ i → i < u → A 199 i ≠ p) ∧ xw_treeOf h w p = some u) ∨ ((∀ i, 0 ≤ i → i < 5 → A 199 i ≠ p) ∧ xw_treeOf h w p = some (-5)) := by
  unfold xw_treeOf
  exact X_treeOf_L hp hX hl 5 FU 0 rfl (by omega) (by decide)
theorem XC.lead2 {S : SS} {h A : HH} {w : Int} (hw : 1 ≤ w ∧ w ≤ 99) (H : XC S h w A) {B : HH} (hB : ∀ c j, ¬ (c = 199 ∧ 0 ≤ j ∧ j < 5) → B c j = A c j) {h' : HH} (hh : ∀ c j, ¬ (c = w + 18 ∧ 0 ≤ j ∧ j < 5) → h' c j = h c j) (e : ∀ j, 0 ≤ j → j < 5 → h' (w + 18) j = B 199 j) : XC S h' w B := by
  obtain ⟨h1, h2, h3, h4, h5, h6, h7, h8, h9, h10⟩ := H
  have n6 := h1.1
  have n7 := h1.2.1
  have b0 := hB 193 0 (by omega)
  have b1 := hB 193 1 (by omega)
  have b2 := hB 193 2 (by omega)
  have b3 := hB 193 10 (by omega)
  have bb : ∀ c, 194 ≤ c → c < 199 → ∀ j, B c j = A c j := fun c p q j => hB c j (by omega)
  unfold XC
  simp only [b0, b1, b2, b3, bb 194 (by omega) (by omega), bb 195 (by omega) (by omega), bb 196 (by omega) (by omega), bb 197 (by omega) (by omega), bb 198 (by omega) (by omega)]
  refine ⟨by rw [hh w 4 (by omega)]; exact h1, by rw [hh w 7 (by omega)]; exact h2, by rw [hh w 11 (by omega)]; exact h3, fun p q r => ?_, fun p q r => ?_, fun p q r => ?_, fun p t q r u v => ?_, fun p t q r u v => ?_, fun t u v => ?_, e⟩
  · rw [hh (w + 1) p (by omega), hh (w + 2) p (by omega)]; exact h4 p q r
  · have g := h5 p q r
    have gg := isHb_ge g.1
    rw [hh (w + 1) p (by omega), hh _ 0 (by omega), hh _ 1 (by omega), hh _ 2 (by omega)]; exact g
  · rw [hh (w + 2) p (by omega)]; exact h6 p q r
  · rw [hh (w + 4 + p) t (by omega)]; exact h7 p t q r u v
  · rw [hh (w + 11 + p) t (by omega)]; exact h8 p t q r u v
  · rw [hh (w + 17) t (by omega)]; exact h9 t u v
theorem leads_off {A : HH} {t p c j : Int} (ht : 0 ≤ t ∧ t < 5) (h : ¬ (c = 199 ∧ 0 ≤ j ∧ j < 5)) : leads A t p c j = A c j := by
  unfold leads
  rw [u2N (by omega), leadsP_at, if_neg (by omega)]
theorem leads_at {A : HH} {t p j : Int} (hj : 0 ≤ j ∧ j < 5) : leads A t p 199 j = if j = t then (if p < 0 then -5 else p) else if 0 ≤ p ∧ A 199 j = p then -5 else A 199 j := by
  unfold leads
  by_cases a : j = t
  · rw [u2T ⟨rfl, a⟩, if_pos a]
  · rw [u2N (by omega), leadsP_at, if_neg a]
    by_cases b : 0 ≤ p ∧ A 199 j = p
    · rw [if_pos b, if_pos (by omega)]
    · rw [if_neg b, if_neg (by omega)]
/-- the class gives a leader (p: -5 for none) -/
theorem X_give {S : SS} {h A : HH} {w t p : Int} (hw : 1 ≤ w ∧ w ≤ 99) (H : XC S h w A) (ht : 0 ≤ t ∧ t < 5) (hp : p = -5 ∨ (0 ≤ p ∧ p < 6)) (hl : ∀ i, 0 ≤ i → i < 5 → -5 ≤ A 199 i ∧ A 199 i < 6) (ha : ∀ t u, 0 ≤ t → t < 5 → 0 ≤ u → u < 5 → t ≠ u → A 199 t = A 199 u → A 199 t = -5) : ∃ h', xw_giveLeader h w t p = some h' ∧ XC S h' w (leads A t p) ∧ ∀ c j, ¬ (c = w + 18 ∧ 0 ≤ j ∧ j < 5) → h' c j = h c j := by
  unfold xw_giveLeader
  have h10 := H.2.2.2.2.2.2.2.2.2
  rcases X_treeOf (p := p) (by omega) h10 hl with ⟨u, g1, g2, g3, g4, g5⟩ | ⟨g1, g2⟩
  · rw [g5]
    rcases hp with hp | hp
    · simp (disch := omega) only [reduceIte, ltT, ltF, eqT, eqF, leT, leF, wwP, ckP, ckzP, ckbP, u2S, u2N, u2T, ↓Option.bind_some, inB_T, inB_F, Bool.false_eq_true, m_in0, m_in1]
      refine ⟨_, rfl, H.lead2 hw (B := leads A t p) (fun c j q => leads_off ht q) (fun c j q => u2N (by omega)) (fun j q1 q2 => ?_), fun c j q => u2N (by omega)⟩
      rw [leads_at ⟨q1, q2⟩]
      by_cases a : j = t
      · subst a; rw [if_pos rfl, if_pos (by omega)]; simp (disch := omega) only [u2S, u2N, u2T]; exact hp
      · rw [if_neg a, if_neg (by omega)]; simp (disch := omega) only [u2S, u2N, u2T]; exact h10 j q1 q2
    · simp (disch := omega) only [reduceIte, ltT, ltF, eqT, eqF, leT, leF, wwP, ckP, ckzP, ckbP, u2S, u2N, u2T, ↓Option.bind_some, inB_T, inB_F, Bool.false_eq_true, m_in0, m_in1]
      refine ⟨_, rfl, H.lead2 hw (B := leads A t p) (fun c j q => leads_off ht q) (fun c j q => by rw [u2N (by omega), u2N (by omega)]) (fun j q1 q2 => ?_), fun c j q => by rw [u2N (by omega), u2N (by omega)]⟩
      rw [leads_at ⟨q1, q2⟩]
      by_cases a : j = t
      · subst a; rw [if_pos rfl, if_neg (by omega)]; simp (disch := omega) only [u2S, u2N, u2T]
      · rw [if_neg a, u2N (by omega)]
        by_cases b : j = u
        · subst b; rw [if_pos ⟨hp.1, g3⟩]; simp (disch := omega) only [u2S, u2N, u2T]
        · have : A 199 j ≠ p := fun z => by have := ha j u q1 q2 g1 g2 b (by rw [z, g3]); omega
          rw [if_neg (by omega)]; simp (disch := omega) only [u2S, u2N, u2T]; exact h10 j q1 q2
  · rw [g2]
    have K : XC S (u2 h (w + 18) t p) w (leads A t p) := H.lead2 hw (B := leads A t p) (fun c j q => leads_off ht q) (fun c j q => u2N (by omega)) (fun j q1 q2 => by
      rw [leads_at ⟨q1, q2⟩]
      by_cases a : j = t
      · subst a; rw [if_pos rfl]; simp (disch := omega) only [u2S, u2N, u2T]; split <;> omega
      · have := g1 j q1 q2
        rw [if_neg a, if_neg (by omega)]; simp (disch := omega) only [u2S, u2N, u2T]; exact h10 j q1 q2)
    by_cases z : p = -5
    · simp (disch := omega) only [reduceIte, ltT, ltF, eqT, eqF, leT, leF, wwP, ckP, ckzP, ckbP, u2S, u2N, u2T, ↓Option.bind_some, inB_T, inB_F, Bool.false_eq_true, m_in0, m_in1]
      exact ⟨_, rfl, K, fun c j q => u2N (by omega)⟩
    · simp (disch := omega) only [reduceIte, ltT, ltF, eqT, eqF, leT, leF, wwP, ckP, ckzP, ckbP, u2S, u2N, u2T, ↓Option.bind_some, inB_T, inB_F, Bool.false_eq_true, m_in0, m_in1]
      exact ⟨_, rfl, K, fun c j q => u2N (by omega)⟩
theorem WOK.ldr {Y N : Int} {A : HH} (W : WOK Y N A) {t p : Int} (ht : 0 ≤ t ∧ t < 5) (hp : p < 0 ∨ (0 ≤ p ∧ p < A 193 0)) : WOK Y N (leads A t p) := by
  obtain ⟨h1, h2, h3, h4, h5, h6, h7, h8, h9, h10, h11⟩ := W
  have f : ∀ c j, c ≠ 199 → leads A t p c j = A c j := fun c j q => leads_off ht (by omega)
  unfold WOK
  simp only [f 193 0 (by decide), f 193 1 (by decide), f 193 2 (by decide), f 193 10 (by decide), f 194 _ (by decide), f 195 _ (by decide), f 196 _ (by decide), f 197 _ (by decide), f 198 _ (by decide)]
  refine ⟨h1, h2, h3, h4, h5, h6, h7, h8, h9, fun j a b => ?_, fun j u a b c d e => ?_⟩
  · have := h10 j a b
    rw [leads_at ⟨a, b⟩]
    repeat' split
    all_goals omega
  · have := h11 j u a b c d e
    have g1 := h10 j a b
    have g2 := h10 u c d
    rw [leads_at ⟨a, b⟩, leads_at ⟨c, d⟩]
    repeat' split
    all_goals omega
def sLead (A : HH) (t p : Int) : Int × HH := if inB t 0 5 then (if p = -1 then (A 199 t, leads A t (-5)) else if inB p 0 (A 193 0) then (A 199 t, leads A t p) else (-1, A)) else (-1, A)
theorem leads_neg {A : HH} {t p q : Int} (hp : p < 0) (hq : q < 0) : leads A t p = leads A t q := by
  unfold leads leadsP
  rw [if_pos hp, if_pos hq]
  congr 1
  funext c i
  rw [if_neg (by omega), if_neg (by omega)]
theorem lead_b {Y N : Int} {A : HH} (W : WOK Y N A) : ∀ i, 0 ≤ i → i < 5 → -5 ≤ A 199 i ∧ A 199 i < 6 := fun i a b => by
  have := W.2.2.2.2.2.2.2.2.2.1 i a b
  have := W.1
  omega
theorem M_lead {k h A : HH} (H : MR k h A) (W : WOK 9999 (A 193 9) A) {a b : Int} (ha : -2147483648 ≤ a ∧ a ≤ 2147483647) (hb : -2147483648 ≤ b ∧ b ≤ 2147483647) : ∃ h', m_lead h a b = some ((sLead A a b).1, h') ∧ MR k h' (sLead A a b).2 := by
  unfold sLead m_lead m_isHater m_isTree
  have n0 := W.1
  by_cases c1 : 0 ≤ a ∧ a < 5
  · obtain ⟨h1, e1, H1⟩ := M_leads H c1 hb (lead_b W)
    rw [e1]
    by_cases c2 : b = -1
    · simp (disch := omega) only [reduceIte, ltT, ltF, eqT, eqF, leT, leF, wwP, ckP, ckzP, ckbP, u2S, u2N, u2T, ↓Option.bind_some, inB_T, inB_F, Bool.false_eq_true, m_in0, m_in1, H.s0, H.r199]
      exact ⟨_, rfl, by rw [leads_neg (p := -5) (q := b) (by omega) (by omega)]; exact H1⟩
    · by_cases c3 : 0 ≤ b ∧ b < A 193 0
      · simp (disch := omega) only [reduceIte, ltT, ltF, eqT, eqF, leT, leF, wwP, ckP, ckzP, ckbP, u2S, u2N, u2T, ↓Option.bind_some, inB_T, inB_F, Bool.false_eq_true, m_in0, m_in1, H.s0, H.r199]
        exact ⟨_, rfl, H1⟩
      · simp (disch := omega) only [reduceIte, ltT, ltF, eqT, eqF, leT, leF, wwP, ckP, ckzP, ckbP, u2S, u2N, u2T, ↓Option.bind_some, inB_T, inB_F, Bool.false_eq_true, m_in0, m_in1, H.s0, H.r199]
        exact ⟨_, rfl, H⟩
  · simp (disch := omega) only [reduceIte, ltT, ltF, eqT, eqF, leT, leF, wwP, ckP, ckzP, ckbP, u2S, u2N, u2T, ↓Option.bind_some, inB_T, inB_F, Bool.false_eq_true, m_in0, m_in1, H.s0]
    exact ⟨_, rfl, H⟩
theorem coreN {c j : Int} (h : ¬ coreC c j) : ¬ (c = 199 ∧ 0 ≤ j ∧ j < 5) := by unfold coreC at h; omega
theorem X_lead {S : SS} {k h A : HH} {O : Int → List CL} (H : XR S k h A O) (W : WOK 9999 (A 193 9) A) {a b : Int} (ha : -2147483648 ≤ a ∧ a ≤ 2147483647) (hb : -2147483648 ≤ b ∧ b ≤ 2147483647) : ∃ h', x_lead h a b = some ((sLead A a b).1, h') ∧ XR S k h' (sLead A a b).2 O := by
  have C := H.2.1
  obtain ⟨n0, n6, n1⟩ := C.1
  have n1 : h 1 4 = A 193 0 := n1
  unfold sLead x_lead
  by_cases c1 : 0 ≤ a ∧ a < 5
  · have e1 : h 19 a = A 199 a := C.2.2.2.2.2.2.2.2.2 a c1.1 c1.2
    by_cases c2 : b = -1
    · obtain ⟨h1, g1, g2, g3⟩ := X_give (by omega) C c1 (p := -5) (.inl rfl) (lead_b W) W.2.2.2.2.2.2.2.2.2.2
      simp (disch := omega) only [reduceIte, ltT, ltF, eqT, eqF, leT, leF, wwP, ckP, ckzP, ckbP, u2S, u2N, u2T, ↓Option.bind_some, inB_T, inB_F, Bool.false_eq_true, m_in0, m_in1, ww_treeT, ww_treeF, e1, g1]
      exact ⟨_, rfl, H.core (fun c j q => g3 c j (by omega)) (fun c j q => leads_off c1 (coreN q)) g2⟩
    · by_cases c3 : 0 ≤ b ∧ b < A 193 0
      · obtain ⟨h1, g1, g2, g3⟩ := X_give (by omega) C c1 (p := b) (.inr (by omega)) (lead_b W) W.2.2.2.2.2.2.2.2.2.2
        simp (disch := omega) only [reduceIte, ltT, ltF, eqT, eqF, leT, leF, wwP, ckP, ckzP, ckbP, u2S, u2N, u2T, ↓Option.bind_some, inB_T, inB_F, Bool.false_eq_true, m_in0, m_in1, ww_treeT, ww_treeF, ww_hasT, ww_hasF, e1, g1]
        exact ⟨_, rfl, H.core (fun c j q => g3 c j (by omega)) (fun c j q => leads_off c1 (coreN q)) g2⟩
      · simp (disch := omega) only [reduceIte, ltT, ltF, eqT, eqF, leT, leF, wwP, ckP, ckzP, ckbP, u2S, u2N, u2T, ↓Option.bind_some, inB_T, inB_F, Bool.false_eq_true, m_in0, m_in1, ww_treeT, ww_treeF, ww_hasT, ww_hasF]
        exact ⟨_, rfl, H⟩
  · simp (disch := omega) only [reduceIte, ltT, ltF, eqT, eqF, leT, leF, wwP, ckP, ckzP, ckbP, u2S, u2N, u2T, ↓Option.bind_some, inB_T, inB_F, Bool.false_eq_true, m_in0, m_in1, ww_treeT, ww_treeF]
    exact ⟨_, rfl, H⟩
theorem A_lead {A : HH} (H : AOK A) {a b : Int} : AOK (sLead A a b).2 := by
  unfold sLead
  have W := H.2.2.1
  by_cases c1 : 0 ≤ a ∧ a < 5
  · by_cases c2 : b = -1
    · simp (disch := omega) only [reduceIte, ltT, ltF, eqT, eqF, leT, leF, wwP, ckP, ckzP, ckbP, u2S, u2N, u2T, ↓Option.bind_some, inB_T, inB_F, Bool.false_eq_true, m_in0, m_in1]
      exact H.core (fun c j q => leads_off c1 (coreN q)) (by rw [leads_off c1 (by omega)]; exact Int.le_refl _) (W.ldr c1 (by omega))
    · by_cases c3 : 0 ≤ b ∧ b < A 193 0
      · simp (disch := omega) only [reduceIte, ltT, ltF, eqT, eqF, leT, leF, wwP, ckP, ckzP, ckbP, u2S, u2N, u2T, ↓Option.bind_some, inB_T, inB_F, Bool.false_eq_true, m_in0, m_in1]
        exact H.core (fun c j q => leads_off c1 (coreN q)) (by rw [leads_off c1 (by omega)]; exact Int.le_refl _) (W.ldr c1 (by omega))
      · simp (disch := omega) only [reduceIte, ltT, ltF, eqT, eqF, leT, leF, wwP, ckP, ckzP, ckbP, u2S, u2N, u2T, ↓Option.bind_some, inB_T, inB_F, Bool.false_eq_true, m_in0, m_in1]
        exact H
  · simp (disch := omega) only [reduceIte, ltT, ltF, eqT, eqF, leT, leF, wwP, ckP, ckzP, ckbP, u2S, u2N, u2T, ↓Option.bind_some, inB_T, inB_F, Bool.false_eq_true, m_in0, m_in1]
    exact H
theorem st_lead {S : SS} {h : HH} {a b : Int} (F : Fx S) (I : Inv h S) (ha : -2147483648 ≤ a ∧ a ≤ 2147483647) (hb : -2147483648 ≤ b ∧ b ≤ 2147483647) : ∃ r, ((x_lead h a b).bind fun q => (m_lead q.2 a b).bind fun q1 => if ww q.1 = ww q1.1 then some (q1.2, S) else none) = some r ∧ Fx r.2 ∧ Inv r.1 r.2 := by
  obtain ⟨A, O, hA, hX, hM⟩ := I
  obtain ⟨h1, e1, X1⟩ := X_lead hX hA.2.2.1 ha hb
  rw [e1]
  exact glueW F (A_lead hA) X1 hM (fun k h H => M_lead H hA.2.2.1 ha hb) rfl
