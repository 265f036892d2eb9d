theorem M_takesE {T : Int → Int} {L t i p : Int} {k h B : HH} (X : MTX T L B) (hi : 0 ≤ i ∧ i < 60) (H : MR k h B) (hp : 0 ≤ p ∧ p ≤ L) (e12 : B 193 12 = p) (e22 : B 193 22 = t) (ht : 0 ≤ t ∧ t ≤ 500 + p) : ∃ h' B', m_takesE h i = some (if (sAny T (sOne T 6 0) p).1 = true then 1 else 0, h') ∧ MR k h' B' ∧ B' 193 12 = (sAny T (sOne T 6 0) p).2.1 ∧ (∀ c j, ¬ ((c = 193 ∧ (j = 12 ∨ j = 13 ∨ j = 22 ∨ j = 23 ∨ j = 24)) ∨ c = 207 ∨ (c = 206 ∧ t ≤ j) ∨ ((c = 204 ∨ c = 205) ∧ j = i)) → B' c j = B c j) ∧ ((sAny T (sOne T 6 0) p).1 = true → B' 204 i = t ∧ B' 193 22 = t + (sAny T (sOne T 6 0) p).2.2.length ∧ B' 205 i = t + (sAny T (sOne T 6 0) p).2.2.length ∧ ∀ j : Nat, j < (sAny T (sOne T 6 0) p).2.2.length → B' 206 (t + j) = (sAny T (sOne T 6 0) p).2.2.getD j 0) := by
  have L1 := X.1.1
  have E := E_P X.1 hp
  have H0 : MR k (u2 (u2 (u2 h 193 23 0) 193 24 0) 204 i t) (u2 (u2 (u2 B 193 23 0) 193 24 0) 204 i t) := ((H.w (by omega)).w (by omega)).w (by omega)
  have X0 : MTX T L (u2 (u2 (u2 B 193 23 0) 193 24 0) 204 i t) := X.cg (by simp (disch := omega) only [u2S, u2N, u2T]) (fun j => by simp (disch := omega) only [u2S, u2N, u2T])
  have S0 : MS (u2 (u2 (u2 B 193 23 0) 193 24 0) 204 i t) p [] 0 [] t := ⟨by simp (disch := omega) only [u2S, u2N, u2T]; exact e12, by simp (disch := omega) only [u2S, u2N, u2T]; rw [e22]; simp, fun j hj => by simp at hj, by simp (disch := omega) only [u2S, u2N, u2T]; rfl, fun j hj => by simp at hj, by simp (disch := omega) only [u2S, u2N, u2T]⟩
  obtain ⟨h1, B1, e1, H1, p1, F1, g1⟩ := M_E_L (k := k) X0 hi ht.1 FU _ _ p [] 0 [] 1 _ E (.inr rfl) (fun x hx => by simp at hx) H0 S0 (fun _ _ _ => rfl) hp (by simp; omega)
  have b0 : B1 204 i = t := by rw [F1 _ _ (by omega), u2S]
  unfold m_takesE
  rw [wwP (z := i) (by omega), ckP (by omega), u2N (by omega), u2N (by omega), H.s22, e22, e1]
  have fr : ∀ c j, ¬ ((c = 193 ∧ (j = 12 ∨ j = 13 ∨ j = 22 ∨ j = 23 ∨ j = 24)) ∨ c = 207 ∨ (c = 206 ∧ t ≤ j) ∨ ((c = 204 ∨ c = 205) ∧ j = i)) → B1 c j = B c j := fun c j z => by
    rw [F1 c j (by omega)]
    simp (disch := omega) only [u2S, u2N, u2T]
  by_cases c : (sAny T (sOne T 6 0) p).1 = true
  · rw [if_pos c] at p1 g1 ⊢
    refine ⟨h1, B1, ?_, H1, p1, fr, fun _ => ⟨b0, g1 rfl⟩⟩
    rw [if_pos rfl, if_pos c]
  · rw [if_neg c] at p1 g1 ⊢
    refine ⟨h1, B1, ?_, H1, p1, fr, fun z => absurd z c⟩
    rw [if_neg (by simp), if_neg c]
theorem M_word_L {T : Int → Int} {L x1 : Int} {k : HH} {cs : List Int} (h15 : 0 ≤ x1 ∧ x1 + cs.length ≤ 15) (hc : ∀ j : Nat, j < cs.length → 0 ≤ cs.getD j 0 ∧ cs.getD j 0 ≤ 127) : ∀ (d n x : Nat) (h B : HH) (p : Int), x + d = cs.length → d < n → MTX T L B → MR k h B → (∀ j : Nat, j < cs.length → B 208 (x1 + j) = cs.getD j 0) → (0 ≤ p ∧ p ≤ L) → B 193 12 = p → ∃ h' B', m_takesWord_L2 x1 cs.length n h x = some (if (sWd T (cs.drop x ++ [32]) p).1 = true then 1 else 0, h') ∧ MR k h' B' ∧ B' 193 12 = (sWd T (cs.drop x ++ [32]) p).2 ∧ ∀ c j, ¬ (c = 193 ∧ j = 12) → B' c j = B c j := by
  intro d
  induction d with
  | zero =>
    intro n x h B p e hn X H hB hp e12
    obtain ⟨n, rfl⟩ : ∃ m, n = m + 1 := ⟨n - 1, by omega⟩
    obtain ⟨h1, e1, H1⟩ := M_takes X H hp e12 (c := 32) (by omega)
    rw [m_takesWord_L2, if_neg (by rw [wwP (by omega), wwP (by omega)]; omega), e1, Option.bind_some, List.drop_eq_nil_of_le (by omega), List.nil_append, sWd, sWd]
    by_cases c1 : T p = 32
    · rw [if_pos c1] at H1 ⊢
      rw [if_pos c1]
      refine ⟨h1, _, ckbP (.inr rfl), H1, u2S, fun c j z => by rw [u2N (by omega)]⟩
    · rw [if_neg c1] at H1 ⊢
      rw [if_neg c1]
      exact ⟨h1, B, ckbP (.inl rfl), H1, e12, fun _ _ _ => rfl⟩
  | succ d ih =>
    intro n x h B p e hn X H hB hp e12
    obtain ⟨n, rfl⟩ : ∃ m, n = m + 1 := ⟨n - 1, by omega⟩
    have cb := hc x (by omega)
    have r : h 208 (x1 + x) = cs.getD x 0 := by rw [H.r208, hB x (by omega)]
    have dr : cs.drop x = cs.getD x 0 :: cs.drop (x + 1) := by
      rw [List.drop_eq_getElem_cons (by omega), List.getD_eq_getElem?_getD, List.getElem?_eq_getElem (by omega)]
      rfl
    obtain ⟨h1, e1, H1⟩ := M_takes X H hp e12 (c := cs.getD x 0) cb
    rw [m_takesWord_L2, if_pos (by rw [wwP (by omega), wwP (by omega)]; omega), wwP (z := x1 + x) (by omega), ckP (by omega), r, e1, Option.bind_some, dr, List.cons_append, sWd]
    by_cases c1 : T p = cs.getD x 0
    · have pL := lt_L X.1 (p := p) (by omega)
      rw [if_pos c1] at H1 ⊢
      rw [if_pos c1, if_neg (show ¬ ww (1 : Int) = 0 by decide)]
      obtain ⟨h2, B2, e2, H2, p2, o2⟩ := ih n (x + 1) h1 _ (p + 1) (by omega) (by omega) (X.cg (u2N (by omega)) (fun j => u2N (by omega))) H1 (fun j hj => by rw [u2N (by omega)]; exact hB j hj) (by omega) u2S
      have ex : ((x + 1 : Nat) : Int) = (x : Int) + 1 := by omega
      rw [ex] at e2
      exact ⟨h2, B2, e2, H2, p2, fun c j z => by rw [o2 c j z, u2N (by omega)]⟩
    · rw [if_neg c1] at H1 ⊢
      rw [if_neg c1, if_pos (show ww (0 : Int) = 0 by decide)]
      exact ⟨h1, B, rfl, H1, e12, fun _ _ _ => rfl⟩
/-- the Model's letters -/
def LTR (B : HH) : Prop := ∀ i : Nat, i < 15 → B 208 i = [104, 111, 116, 99, 111, 108, 100, 110, 101, 101, 100, 119, 101, 97, 114].getD i 0
theorem M_head {T : Int → Int} {L i p : Int} {k h B : HH} (X : MTX T L B) (hi : 0 ≤ i ∧ i < 60) (H : MR k h B) (hl : LTR B) (hp : 0 ≤ p ∧ p ≤ L) (e12 : B 193 12 = p) : ∃ h' B', m_takesHead h i = some (if (sWd T (wdL (wdOf (T p))) p).1 = true then 1 else 0, h') ∧ MR k h' B' ∧ B' 193 12 = (sWd T (wdL (wdOf (T p))) p).2 ∧ B' 202 i = wdOf (T p) ∧ ∀ c j, ¬ ((c = 193 ∧ j = 12) ∨ (c = 202 ∧ j = i)) → B' c j = B c j := by
  have tb := X.b hp.1
  have go : ∀ (w x1 : Int) (cs : List Int) (l : Int), wdOf (T p) = w → wdL w = cs ++ [32] → l = cs.length → (0 ≤ x1 ∧ x1 + cs.length ≤ 15) → (∀ j : Nat, j < cs.length → 0 ≤ cs.getD j 0 ∧ cs.getD j 0 ≤ 127) → (∀ j : Nat, j < cs.length → [104, 111, 116, 99, 111, 108, 100, 110, 101, 101, 100, 119, 101, 97, 114].getD (x1.toNat + j) 0 = cs.getD j 0) → ∃ h' B', (ck (ww i) 60 <| (m_takesWord (u2 h 202 (ww i) w) x1 l).bind fun q2 => ckb q2.1 <| some (q2.1, q2.2)) = some (if (sWd T (wdL (wdOf (T p))) p).1 = true then 1 else 0, h') ∧ MR k h' B' ∧ B' 193 12 = (sWd T (wdL (wdOf (T p))) p).2 ∧ B' 202 i = wdOf (T p) ∧ ∀ c j, ¬ ((c = 193 ∧ j = 12) ∨ (c = 202 ∧ j = i)) → B' c j = B c j := fun w x1 cs l ew el ell h15 hc hq => by
    obtain ⟨h2, B2, e2, H2, p2, o2⟩ := M_word_L (T := T) (L := L) (k := k) h15 hc cs.length FU 0 (u2 h 202 i w) (u2 B 202 i w) p (by omega) (by unfold FU; omega) (X.cg (u2N (by omega)) (fun j => u2N (by omega))) (H.w (by omega)) (fun j hj => by
      rw [u2N (by omega)]
      have := hl (x1.toNat + j) (by omega)
      rw [show ((x1.toNat + j : Nat) : Int) = x1 + j by omega] at this
      rw [this]
      exact hq j hj) hp (by rw [u2N (by omega)]; exact e12)
    rw [List.drop_zero, ← el] at e2 p2
    have e2 : m_takesWord (u2 h 202 i w) x1 cs.length = _ := e2
    rw [wwP (z := i) (by omega), ckP (by omega), ell, e2, Option.bind_some, ew]
    refine ⟨h2, B2, ckbP (by dsimp only; split <;> simp), H2, p2, by rw [o2 _ _ (by omega), u2S], fun c j z => by rw [o2 c j (by omega), u2N (by omega)]⟩
  unfold m_takesHead
  rw [M_next X H hp e12, Option.bind_some]
  by_cases c1 : T p = 99
  · rw [if_pos (by rw [c1]; decide)]
    exact go 1 3 [99, 111, 108, 100] 4 (by unfold wdOf; rw [if_pos c1]) rfl rfl (by decide) (by decide) (by decide)
  · rw [if_neg (by rw [wwP (by omega)]; exact c1)]
    by_cases c2 : T p = 104
    · rw [if_pos (by rw [c2]; decide)]
      exact go 0 0 [104, 111, 116] 3 (by unfold wdOf; rw [if_neg c1, if_pos c2]) rfl rfl (by decide) (by decide) (by decide)
    · rw [if_neg (by rw [wwP (by omega)]; exact c2)]
      by_cases c3 : T p = 110
      · rw [if_pos (by rw [c3]; decide)]
        exact go 2 7 [110, 101, 101, 100] 4 (by unfold wdOf; rw [if_neg c1, if_neg c2, if_pos c3]) rfl rfl (by decide) (by decide) (by decide)
      · rw [if_neg (by rw [wwP (by omega)]; exact c3)]
        exact go 3 11 [119, 101, 97, 114] 4 (by unfold wdOf; rw [if_neg c1, if_neg c2, if_neg c3]) rfl rfl (by decide) (by decide) (by decide)
def CF (B' B : HH) (t i : Int) : Prop := ∀ c j, ¬ ((c = 193 ∧ (j = 12 ∨ j = 13 ∨ j = 22 ∨ j = 23 ∨ j = 24)) ∨ c = 207 ∨ (c = 206 ∧ t ≤ j) ∨ ((202 ≤ c ∧ c ≤ 205) ∧ j = i)) → B' c j = B c j
theorem M_clause {T : Int → Int} {L i p t : Int} {k h B : HH} (X : MTX T L B) (hi : 0 ≤ i ∧ i < 60) (H : MR k h B) (hl : LTR B) (hp : 0 ≤ p ∧ p ≤ L) (e12 : B 193 12 = p) (e22 : B 193 22 = t) (ht : 0 ≤ t ∧ t ≤ 500 + p) : ∃ h' B', m_takesClause h i = some (if (sCl T p).1 = true then 1 else 0, h') ∧ MR k h' B' ∧ B' 193 12 = (sCl T p).2.1 ∧ CF B' B t i ∧ ((sCl T p).1 = true → B' 202 i = (sCl T p).2.2.1 ∧ B' 203 i = (sCl T p).2.2.2.1 ∧ ((sCl T p).2.2.1 < 2 → B' 204 i = t ∧ B' 205 i = t + (sCl T p).2.2.2.2.length ∧ B' 193 22 = t + (sCl T p).2.2.2.2.length ∧ ∀ j : Nat, j < (sCl T p).2.2.2.2.length → B' 206 (t + j) = (sCl T p).2.2.2.2.getD j 0) ∧ (¬ (sCl T p).2.2.1 < 2 → B' 193 22 = t)) := by
  have L1 := X.1.1
  have wb := wdOf_b (T p)
  obtain ⟨h1, B1, e1, H1, p1, w1, o1⟩ := M_head X hi H hl hp e12
  have X1 : MTX T L B1 := X.cg (o1 _ _ (by omega)) (fun j => o1 _ _ (by omega))
  unfold m_takesClause
  rw [e1, Option.bind_some]
  unfold sCl
  by_cases c1 : (sWd T (wdL (wdOf (T p))) p).1 = true
  · have wl := sWd_p X.1 (wdL (wdOf (T p))) p (wdL_b _).1 hp.2 c1
    rw [if_pos c1, if_pos c1, if_neg (show ¬ ww (1 : Int) = 0 by decide)]
    generalize (sWd T (wdL (wdOf (T p))) p).2 = r at *
    obtain ⟨h2, B2, e2, H2, p2, o2, v2⟩ := M_num X1 H1 (by omega) p1
    have X2 : MTX T L B2 := X1.cg (o2 _ _ (by omega)) (fun j => o2 _ _ (by omega))
    dsimp only
    rw [e2, Option.bind_some]
    by_cases c2 : (rdN T r).1 = true
    · have nb := rdN_p X.1 c2
      have H3 : MR k (u2 h2 203 i (rdN T r).2.1) (u2 B2 203 i (rdN T r).2.1) := H2.w (by omega)
      have X3 : MTX T L (u2 B2 203 i (rdN T r).2.1) := X2.cg (by simp (disch := omega) only [u2S, u2N, u2T]) (fun j => by simp (disch := omega) only [u2S, u2N, u2T])
      have ev : h2 193 13 = (rdN T r).2.1 := by rw [H2.s13, v2 c2]
      have r202 : u2 h2 203 i (rdN T r).2.1 202 i = wdOf (T p) := by rw [u2N (by omega), H2.r202, o2 _ _ (by omega), w1]
      rw [if_pos c2, if_pos c2, if_neg (show ¬ ww (1 : Int) = 0 by decide), wwP (z := i) (by omega), ckP (by omega), ckP (by omega)]
      simp only [ev]
      by_cases c3 : wdOf (T p) < 2
      · rw [if_pos (show ww (u2 h2 203 i (rdN T r).2.1 202 i) < 2 by rw [r202, wwP (by omega)]; exact c3), if_pos c3]
        obtain ⟨h4, e4, H4⟩ := M_takes (p := (rdN T r).2.2) X3 H3 (by omega) (by rw [u2N (by omega)]; exact p2) (c := 32) (by omega)
        rw [e4, Option.bind_some]
        by_cases c4 : T (rdN T r).2.2 = 32
        · have pL := lt_L X.1 (p := (rdN T r).2.2) (by omega)
          rw [if_pos c4] at H4
          rw [if_pos c4, if_pos c4, if_neg (show ¬ ww (1 : Int) = 0 by decide)]
          have X4 : MTX T L (u2 (u2 B2 203 i (rdN T r).2.1) 193 12 ((rdN T r).2.2 + 1)) := X3.cg (by simp (disch := omega) only [u2S, u2N, u2T]) (fun j => by simp (disch := omega) only [u2S, u2N, u2T])
          obtain ⟨h5, B5, e5, H5, p5, o5, g5⟩ := M_takesE (t := t) X4 hi H4 (p := (rdN T r).2.2 + 1) (by omega) u2S (by simp (disch := omega) only [u2S, u2N, u2T]; rw [o2 _ _ (by omega), o1 _ _ (by omega)]; exact e22) (by omega)
          have fr : CF B5 B t i := fun c j z => by
            rw [o5 c j (by omega), u2N (by omega), u2N (by omega), o2 c j (by omega), o1 c j (by omega)]
          have f202 : B5 202 i = wdOf (T p) := by rw [o5 _ _ (by omega), u2N (by omega), u2N (by omega), o2 _ _ (by omega), w1]
          have f203 : B5 203 i = (rdN T r).2.1 := by rw [o5 _ _ (by omega), u2N (by omega), u2S]
          dsimp only
          rw [e5, Option.bind_some]
          by_cases c5 : (sAny T (sOne T 6 0) ((rdN T r).2.2 + 1)).1 = true
          · rw [if_pos c5, if_pos c5, if_neg (show ¬ ww (1 : Int) = 0 by decide)]
            obtain ⟨g1, g2, g3, g4⟩ := g5 c5
            exact ⟨h5, B5, rfl, H5, p5, fr, fun _ => ⟨f202, f203, fun _ => ⟨g1, g3, g2, g4⟩, fun z => absurd c3 z⟩⟩
          · rw [if_neg c5, if_neg c5, if_pos (show ww (0 : Int) = 0 by decide)]
            exact ⟨h5, B5, rfl, H5, p5, fr, fun z => by simp at z⟩
        · rw [if_neg c4] at H4
          rw [if_neg c4, if_neg c4, if_pos (show ww (0 : Int) = 0 by decide)]
          refine ⟨h4, _, rfl, H4, ?_, fun c j z => ?_, fun z => by simp at z⟩
          · rw [u2N (by omega)]; exact p2
          · rw [u2N (by omega), o2 c j (by omega), o1 c j (by omega)]
      · rw [if_neg (show ¬ ww (u2 h2 203 i (rdN T r).2.1 202 i) < 2 by rw [r202, wwP (by omega)]; exact c3), if_neg c3]
        refine ⟨_, _, rfl, H3, ?_, fun c j z => ?_, fun _ => ⟨?_, u2S, fun z => absurd z c3, fun _ => ?_⟩⟩
        · rw [u2N (by omega)]; exact p2
        · rw [u2N (by omega), o2 c j (by omega), o1 c j (by omega)]
        · rw [u2N (by omega), o2 _ _ (by omega), w1]
        · rw [u2N (by omega), o2 _ _ (by omega), o1 _ _ (by omega)]; exact e22
    · rw [if_neg c2, if_neg c2, if_pos (show ww (0 : Int) = 0 by decide)]
      exact ⟨h2, B2, rfl, H2, p2, fun c j z => by rw [o2 c j (by omega), o1 c j (by omega)], fun z => by simp at z⟩
  · rw [if_neg c1, if_neg c1, if_pos (show ww (0 : Int) = 0 by decide)]
    exact ⟨h1, B1, rfl, H1, p1, fun c j z => by rw [o1 c j (by omega)], fun z => by simp at z⟩
