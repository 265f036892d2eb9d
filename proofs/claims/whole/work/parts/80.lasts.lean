theorem zdivM {a b : Int} (h : (-2147483648 ≤ a ∧ a < 0) ∧ 1 < b ∧ b ≤ 2147483647) : zdiv a b = -((-a) / b) := by
  unfold zdiv
  rw [Int32.toInt_div, toI (by omega), toI (by omega)]
  have e : a.tdiv b = -((-a) / b) := by
    rw [← Int.tdiv_eq_ediv_of_nonneg (by omega), Int.neg_tdiv, Int.neg_neg]
  have h1 : 0 ≤ (-a) / b := Int.ediv_nonneg (by omega) (by omega)
  have h2 : (-a) / b ≤ -a := Int.ediv_le_self _ (by omega)
  have h3 : (-a) / b < -a := Int.ediv_lt_self_of_pos_of_ne_one (by omega) (by omega)
  rw [e]
  exact Int.bmod_eq_of_le (by omega) (by omega)
def lstep (A : HH) (O : Int → List CL) (p t : Int) : HH := u2 (u2 A 196 (5 * p + t) (max0 (A 196 (5 * p + t) - wearA A O))) 193 2 (A 193 2 + 1)
def lastsN (O : Int → List CL) (p t : Int) : Nat → HH → Int → Int
  | 0, _, x => x
  | d + 1, A, x => if bearA A O p t = 0 then x else lastsN O p t d (lstep A O p t) (x + 1)
def sameB (p t : Int) (A B : HH) : Prop := A 193 1 = B 193 1 ∧ A 193 10 = B 193 10 ∧ A 193 2 = B 193 2 ∧ A 194 p = B 194 p ∧ A 195 p = B 195 p ∧ A 196 (5 * p + t) = B 196 (5 * p + t) ∧ ∀ j, A 197 j = B 197 j
theorem sameB.bear {p t : Int} {A B : HH} {O : Int → List CL} (H : sameB p t A B) : bearA A O p t = bearA B O p t := by
  obtain ⟨h1, h2, h3, h4, h5, h6, h7⟩ := H
  exact bearA_cg h1 h2 h3 h4 h5 h6 h7
theorem sameB.step {p t : Int} {A B : HH} {O : Int → List CL} (H : sameB p t A B) : sameB p t (lstep A O p t) (lstep B O p t) := by
  obtain ⟨h1, h2, h3, h4, h5, h6, h7⟩ := H
  unfold lstep sameB
  rw [wearA_cg h2]
  simp (disch := omega) only [u2S, u2N, u2T]
  exact ⟨h1, h2, by rw [h3], h4, h5, by rw [h6], h7⟩
theorem lastsN_cg {p t : Int} {O : Int → List CL} : ∀ (d : Nat) (A B : HH) (x : Int), sameB p t A B → lastsN O p t d A x = lastsN O p t d B x
  | 0, _, _, _, _ => rfl
  | d + 1, A, B, x, H => by
    rw [lastsN, lastsN, H.bear (O := O), lastsN_cg d _ _ (x + 1) (H.step (O := O))]
theorem lstep_WO {A : HH} {O : Int → List CL} {Y N p t : Int} (W : WO Y N A) (hO : OM A O) (hp : 0 ≤ p ∧ p < A 193 0) (ht : 0 ≤ t ∧ t < 5) : WO (Y + 1) N (lstep A O p t) := by
  obtain ⟨h1, h2, h3, h4, h5, h6, h7, h8, h9, h10, h11⟩ := W
  have wb := wear_b hO
  unfold lstep
  refine ⟨by simp (disch := omega) only [u2S, u2N, u2T]; exact h1, by simp (disch := omega) only [u2S, u2N, u2T]; omega, by simp (disch := omega) only [u2S, u2N, u2T]; exact h3, by simp (disch := omega) only [u2S, u2N, u2T]; exact h4, fun p => by simp (disch := omega) only [u2S, u2N, u2T]; exact h5 p, fun p => by simp (disch := omega) only [u2S, u2N, u2T]; exact h6 p, fun q u => ?_, fun p i => by simp (disch := omega) only [u2S, u2N, u2T]; exact h8 p i, fun t => by simp (disch := omega) only [u2S, u2N, u2T]; exact h9 t, fun t => by simp (disch := omega) only [u2S, u2N, u2T]; exact h10 t, fun t u => by simp (disch := omega) only [u2S, u2N, u2T]; exact h11 t u⟩
  simp (disch := omega) only [u2S, u2N, u2T]
  intro a b c d
  have g := h7 q u a b c d
  by_cases e : q = p ∧ u = t
  · obtain ⟨rfl, rfl⟩ := e
    simp (disch := omega) only [u2S, u2N, u2T]
    unfold max0
    split <;> omega
  · simp (disch := omega) only [u2S, u2N, u2T]
    exact g
theorem lstep_OM {A : HH} {O : Int → List CL} {p t : Int} (hO : OM A O) : OM (lstep A O p t) O := by
  unfold lstep
  exact hO.cg (by simp (disch := omega) only [u2S, u2N, u2T]) (fun c j q => by unfold orchC at q; simp (disch := omega) only [u2S, u2N, u2T])
theorem M_lasts_L {k A0 : HH} {N p t : Int} (h27 : A0 193 27 = 9999) (ht : 0 ≤ t ∧ t < 5) {O : Int → List CL} : ∀ (d n : Nat) (h B : HH) (x Y : Int), x + d = 60 → 0 ≤ x → d < n → MR k h B → WO Y N B → Y + d ≤ 20000 → OM B O → (0 ≤ p ∧ p < B 193 0) → (∀ c j, ¬ coreI c j → B c j = saveA A0 c j) → ∃ h' B', m_lasts_L6 p t n h x = some (lastsN O p t d B x, h') ∧ MR k h' B' ∧ ∀ c j, ¬ scC c j → B' c j = A0 c j := by
  intro d
  induction d with
  | zero =>
    intro n h B x Y e h0 hn H W hY hO hp hB
    obtain ⟨n, rfl⟩ : ∃ m, n = m + 1 := ⟨n - 1, by omega⟩
    rw [m_lasts_L6]
    obtain ⟨h1, e1, H1⟩ := M_back H
    simp (disch := omega) only [reduceIte, ltT, ltF, eqT, eqF, leT, leF, wwP, ckP, ckzP, ckbP, u2S, u2N, u2T, ↓Option.bind_some, inB_T, inB_F, Bool.false_eq_true, m_in0, m_in1, e1]
    exact ⟨h1, backA B, rfl, H1, back_ok h27 hB⟩
  | succ d ih =>
    intro n h B x Y e h0 hn H W hY hO hp hB
    obtain ⟨n, rfl⟩ : ∃ m, n = m + 1 := ⟨n - 1, by omega⟩
    rw [m_lasts_L6, lastsN]
    have n0 := W.1
    obtain ⟨h1, e1, H1⟩ := M_bears H W (by omega) hp ht hO
    rcases @bear_01 B O p t with b | b
    · obtain ⟨h2, e2, H2⟩ := M_back H1
      rw [b] at e1
      rw [if_pos b]
      simp (disch := omega) only [reduceIte, ltT, ltF, eqT, eqF, leT, leF, wwP, ckP, ckzP, ckbP, u2S, u2N, u2T, ↓Option.bind_some, inB_T, inB_F, Bool.false_eq_true, m_in0, m_in1, e1, e2]
      exact ⟨h2, backA B, rfl, H2, back_ok h27 hB⟩
    · obtain ⟨h2, e2, H2⟩ := M_wears H1 W hp ht hO
      rw [b] at e1
      rw [if_neg (by omega : ¬ bearA B O p t = 0)]
      have r2 : h2 193 2 = B 193 2 := by rw [H2.s2]; simp (disch := omega) only [u2S, u2N, u2T]
      have H3 : MR k (u2 h2 193 2 (B 193 2 + 1)) (lstep B O p t) := H2.w (by omega)
      have np : lstep B O p t 193 0 = B 193 0 := by unfold lstep; simp (disch := omega) only [u2S, u2N, u2T]
      simp (disch := omega) only [reduceIte, ltT, ltF, eqT, eqF, leT, leF, wwP, ckP, ckzP, ckbP, u2S, u2N, u2T, ↓Option.bind_some, inB_T, inB_F, Bool.false_eq_true, m_in0, m_in1, e1, e2, r2]
      refine ih n _ (lstep B O p t) (x + 1) (Y + 1) (by omega) (by omega) (by omega) H3 (lstep_WO W hO hp ht) (by omega) (lstep_OM hO) (by rw [np]; exact hp) (fun c j q => ?_)
      unfold lstep
      have q' := q
      unfold coreI at q'
      rw [u2N (by omega), u2N (by omega)]
      exact hB c j q
theorem coreI_sc {c j : Int} (h : coreI c j) : ¬ scC c j := by unfold coreI at h; unfold scC; omega
theorem saveA_WOK {A : HH} {Y N : Int} (W : WOK Y N A) : WOK Y N (saveA A) := W.core (fun c j q => saveA_off (by unfold coreC at q; unfold scC; omega) (by unfold coreC at q; omega))
theorem saveA_OM {A : HH} {O : Int → List CL} (hO : OM A O) : OM (saveA A) O := hO.cg (saveA_off (by unfold scC; omega) (by omega)) (fun c j q => saveA_off (by unfold orchC at q; unfold scC; omega) (by unfold orchC at q; omega))
theorem saveA_sB {A : HH} {p t : Int} : sameB p t (saveA A) A := by
  have f : ∀ c j, ¬ scC c j → ¬ (c = 193 ∧ j = 27) → saveA A c j = A c j := fun c j a b => saveA_off a b
  refine ⟨f _ _ ?_ ?_, f _ _ ?_ ?_, f _ _ ?_ ?_, f _ _ ?_ ?_, f _ _ ?_ ?_, f _ _ ?_ ?_, fun j => f _ _ ?_ ?_⟩
  all_goals (try unfold scC); omega
theorem M_lasts {k h A : HH} {N p t : Int} (H : MR k h A) (W : WOK 9999 N A) (h27 : A 193 27 = 9999) (hp : 0 ≤ p ∧ p < A 193 0) (ht : 0 ≤ t ∧ t < 5) {O : Int → List CL} (hO : OM A O) : ∃ h' A', m_lasts h p t = some (lastsN O p t 60 A 0, h') ∧ MR k h' A' ∧ ∀ c j, ¬ scC c j → A' c j = A c j := by
  unfold m_lasts
  obtain ⟨h1, e1, H1⟩ := M_save H
  rw [e1, Option.bind_some, ← lastsN_cg 60 (saveA A) A 0 saveA_sB]
  exact M_lasts_L h27 ht 60 FU h1 (saveA A) 0 9999 rfl (by omega) (by decide) H1 ((saveA_WOK W).wo (by omega)) (by omega) (saveA_OM hO) (by rw [saveA_off (by unfold scC; omega) (by omega)]; exact hp) (fun _ _ _ => rfl)
theorem X_lasts_L {S : SS} {N p t : Int} (ht : 0 ≤ t ∧ t < 5) {O : Int → List CL} (h0 : HH) : ∀ (d n : Nat) (h B : HH) (x Y : Int), x + d = 60 → 0 ≤ x → d < n → XC S h 99 B → WO Y N B → Y + d ≤ 20000 → B 198 t + d ≤ 20000 → OM B O → OX h0 B O → (0 ≤ p ∧ p < B 193 0) → (∀ c j, ¬ (99 ≤ c ∧ c ≤ 147) → h c j = h0 c j) → ∃ h', x_lasts_L13 S p t n h x = some (lastsN O p t d B x, h') ∧ ∀ c j, ¬ (99 ≤ c ∧ c ≤ 147) → h' c j = h0 c j := by
  intro d
  induction d with
  | zero =>
    intro n h B x Y e hx hn C W hY hb hO hX hp f
    obtain ⟨n, rfl⟩ : ∃ m, n = m + 1 := ⟨n - 1, by omega⟩
    rw [x_lasts_L13]
    simp (disch := omega) only [reduceIte, ltT, ltF, eqT, eqF, leT, leF, wwP, ckP, ckzP, ckbP, u2S, u2N, u2T, ↓Option.bind_some, inB_T, inB_F, Bool.false_eq_true, m_in0, m_in1]
    exact ⟨h, rfl, f⟩
  | succ d ih =>
    intro n h B x Y e hx hn C W hY hb hO hX hp f
    obtain ⟨n, rfl⟩ : ∃ m, n = m + 1 := ⟨n - 1, by omega⟩
    rw [x_lasts_L13, lastsN]
    have n0 := W.1
    have b0 := W.2.2.2.2.2.2.2.2.1 t ht.1 ht.2
    obtain ⟨h1, e1, f1, C1⟩ := X_goAt (S := S) (h := h) (w := 99) (.inr (.inr rfl)) C W (by omega) hp ht hO (fun z => (hX z).cg (fun a b _ _ => f a b (by have := hO.2.1; omega)))
    have f2 : ∀ c j, ¬ (99 ≤ c ∧ c ≤ 147) → h1 c j = h0 c j := fun c j q => by rw [f1 c j (by omega), f c j q]
    rcases @bear_01 B O p t with b | b
    · rw [b] at e1
      rw [if_pos b]
      simp (disch := omega) only [reduceIte, ltT, ltF, eqT, eqF, leT, leF, wwP, ckP, ckzP, ckbP, u2S, u2N, u2T, ↓Option.bind_some, inB_T, inB_F, Bool.false_eq_true, m_in0, m_in1, e1]
      exact ⟨h1, rfl, f2⟩
    · rw [b] at e1
      rw [if_neg (by omega)] at C1
      rw [if_neg (by omega : ¬ bearA B O p t = 0)]
      have r7 : h1 99 7 = B 193 2 := by rw [C1.2.1]; simp (disch := omega) only [u2S, u2N, u2T]
      have C2 := C1.year (x := B 193 2 + 1) (by omega)
      have WL := lstep_WO (p := p) (t := t) W hO hp ht
      have sB : sameB p t (u2 (u2 (u2 B 198 t (B 198 t + 1)) 196 (5 * p + t) (max0 (B 196 (5 * p + t) - wearA B O))) 193 2 (B 193 2 + 1)) (lstep B O p t) := by
        unfold lstep sameB
        simp (disch := omega) only [u2S, u2N, u2T]
        exact ⟨trivial, trivial, trivial, trivial, trivial, trivial, fun j => by simp (disch := omega) only [u2S, u2N, u2T]⟩
      have eB : ∀ c j, c ≠ 198 → u2 (u2 (u2 B 198 t (B 198 t + 1)) 196 (5 * p + t) (max0 (B 196 (5 * p + t) - wearA B O))) 193 2 (B 193 2 + 1) c j = lstep B O p t c j := fun c j q => by
        unfold lstep u2
        repeat' split
        all_goals first | rfl | omega
      generalize hB' : u2 (u2 (u2 B 198 t (B 198 t + 1)) 196 (5 * p + t) (max0 (B 196 (5 * p + t) - wearA B O))) 193 2 (B 193 2 + 1) = B' at C2 sB eB
      have e198 : ∀ u, B' 198 u = if u = t then B 198 t + 1 else B 198 u := fun u => by
        rw [← hB']
        by_cases z : u = t
        · rw [if_pos z, z]; simp (disch := omega) only [u2S, u2N, u2T]
        · rw [if_neg z]; simp (disch := omega) only [u2S, u2N, u2T]
      have WB : WO (Y + 1) N B' := by
        obtain ⟨w1, w2, w3, w4, w5, w6, w7, w8, w9, w10, w11⟩ := WL
        obtain ⟨-, -, -, -, -, -, -, -, v9, -, -⟩ := W
        have g := fun c j (q : c ≠ 198) => eB c j q
        unfold WO
        simp only [g 193 _ (by decide), g 194 _ (by decide), g 195 _ (by decide), g 196 _ (by decide), g 197 _ (by decide), g 199 _ (by decide)]
        refine ⟨w1, w2, w3, w4, w5, w6, w7, w8, fun u a b => ?_, w10, w11⟩
        have := v9 u a b
        rw [e198]
        split <;> omega
      have OB : OM B' O := (lstep_OM (p := p) (t := t) hO).cg (eB _ _ (by decide)) (fun c j q => eB c j (by unfold orchC at q; omega))
      have np : B' 193 0 = B 193 0 := by rw [eB _ _ (by decide)]; unfold lstep; simp (disch := omega) only [u2S, u2N, u2T]
      have b10 : B' 193 10 = B 193 10 := by rw [eB _ _ (by decide)]; unfold lstep; simp (disch := omega) only [u2S, u2N, u2T]
      have bt1 : B' 198 t = B 198 t + 1 := by rw [e198, if_pos rfl]
      simp (disch := omega) only [reduceIte, ltT, ltF, eqT, eqF, leT, leF, wwP, ckP, ckzP, ckbP, u2S, u2N, u2T, ↓Option.bind_some, inB_T, inB_F, Bool.false_eq_true, m_in0, m_in1, e1, r7]
      rw [← lastsN_cg d B' (lstep B O p t) (x + 1) sB]
      exact ih n _ B' (x + 1) (Y + 1) (by omega) (by omega) (by omega) C2 WB (by omega) (by omega) OB (fun z => by rw [b10] at z ⊢; exact hX z) (by rw [np]; exact hp) (fun c j q => by rw [u2N (by omega)]; exact f2 c j q)
theorem X_lasts {S : SS} {h A : HH} {N p t : Int} (C : XC S h 1 A) (W : WOK 9999 N A) (hp : 0 ≤ p ∧ p < A 193 0) (ht : 0 ≤ t ∧ t < 5) {O : Int → List CL} (hO : OM A O) (hX : OX h A O) : ∃ h', x_lasts S h p t = some (lastsN O p t 60 A 0, h') ∧ ∀ c j, ¬ (99 ≤ c ∧ c ≤ 147) → h' c j = h c j := by
  unfold x_lasts
  obtain ⟨h1, e1, C1, f1⟩ := X_goFrom (S := S) (h := h) (a := 99) (b := 1) (.inl ⟨rfl, rfl⟩) C
  rw [e1, Option.bind_some]
  have b9 := W.2.2.2.2.2.2.2.2.1 t ht.1 ht.2
  have y0 := W.2.1
  exact X_lasts_L ht h 60 FU h1 A 0 9999 rfl (by omega) (by decide) C1 (W.wo (by omega)) (by omega) (by omega) hO hX hp (fun c j q => f1 c j (by omega))
