/-- the Model's clauses of the orchard f, so far -/
def GI (B : HH) (f : Int) (L0 : List CL) (p : Int) : Prop := (∀ i : Nat, i < L0.length → MCl B f (10 * f + i) (L0.getD i (0, 0, [])) ∧ ((L0.getD i (0, 0, [])).1 < 2 → B 205 (10 * f + i) ≤ B 193 22)) ∧ 100 * f ≤ B 193 22 ∧ B 193 22 ≤ 100 * f + p
def GF (B B0 : HH) (f : Int) : Prop := ∀ c j, ¬ ((c = 193 ∧ (j = 12 ∨ j = 13 ∨ j = 22 ∨ j = 23 ∨ j = 24)) ∨ c = 207 ∨ (c = 206 ∧ 100 * f ≤ j) ∨ ((202 ≤ c ∧ c ≤ 205) ∧ 10 * f ≤ j ∧ j < 10 * f + 10) ∨ (c = 201 ∧ j = f)) → B c j = B0 c j
theorem getD_appC {L : List CL} {q : CL} {j : Nat} (h : j < L.length) : (L ++ [q]).getD j (0, 0, []) = L.getD j (0, 0, []) := by
  rw [List.getD_eq_getElem?_getD, List.getD_eq_getElem?_getD, List.getElem?_append_left h]
theorem getD_lastC {L : List CL} {q : CL} : (L ++ [q]).getD L.length (0, 0, []) = q := by
  rw [List.getD_eq_getElem?_getD, List.getElem?_append_right (Nat.le_refl _), Nat.sub_self]
  rfl
theorem GI.next {T : Int → Int} {L p f t : Int} {B B' : HH} {L0 : List CL} (hT : TX T L) (G : GI B f L0 p) (hf : 0 ≤ f ∧ f < 6) (hp : 0 ≤ p ∧ p ≤ L) (hx : L0.length < 10) (et : B 193 22 = t) (F : CF B' B t (10 * f + L0.length)) (ok : (sCl T p).1 = true) (g : B' 202 (10 * f + L0.length) = (sCl T p).2.2.1 ∧ B' 203 (10 * f + L0.length) = (sCl T p).2.2.2.1 ∧ ((sCl T p).2.2.1 < 2 → B' 204 (10 * f + L0.length) = t ∧ B' 205 (10 * f + L0.length) = t + (sCl T p).2.2.2.2.length ∧ B' 193 22 = t + (sCl T p).2.2.2.2.length ∧ ∀ j : Nat, j < (sCl T p).2.2.2.2.length → B' 206 (t + j) = (sCl T p).2.2.2.2.getD j 0) ∧ (¬ (sCl T p).2.2.1 < 2 → B' 193 22 = t)) : GI B' f (L0 ++ [(sCl T p).2.2]) (sCl T p).2.1 := by
  have L1 := hT.1
  obtain ⟨s1, s2, s3, s4⟩ := sCl_G hT hp.1 hp.2 ok
  obtain ⟨G1, G2, G3⟩ := G
  obtain ⟨g1, g2, g3, g4⟩ := g
  have up : t ≤ B' 193 22 ∧ B' 193 22 ≤ 100 * f + (sCl T p).2.1 := by
    by_cases c : (sCl T p).2.2.1 < 2
    · have := (g3 c).2.2.1
      have := (s4 c).1
      omega
    · have := g4 c
      omega
  refine ⟨fun i hi => ?_, by omega, up.2⟩
  rw [List.length_append, List.length_singleton] at hi
  by_cases c : i < L0.length
  · rw [getD_appC c]
    obtain ⟨m1, m2⟩ := G1 i c
    refine ⟨?_, fun z => ?_⟩
    · obtain ⟨a1, a2, a3, a4, a5⟩ := m1
      refine ⟨by rw [F _ _ (by omega)]; exact a1, by rw [F _ _ (by omega)]; exact a2, a3, a4, fun z => ?_⟩
      obtain ⟨b1, b2, b3, b4, b5⟩ := a5 z
      have b6 := m2 z
      rw [F 204 _ (by omega), F 205 _ (by omega)]
      exact ⟨b1, b2, b3, fun j hj => by rw [F _ _ (by omega)]; exact b4 j hj, b5⟩
    · rw [F _ _ (by omega)]
      have := m2 z
      omega
  · have e : i = L0.length := by omega
    subst e
    rw [getD_lastC]
    refine ⟨⟨g1, g2, s2, s3, fun z => ?_⟩, fun z => ?_⟩
    · obtain ⟨b1, b2, b3, b4⟩ := g3 z
      obtain ⟨d1, d2⟩ := s4 z
      refine ⟨by omega, by omega, by omega, fun j hj => ?_, d2⟩
      rw [b1]
      exact b4 j hj
    · have := g3 z
      omega
theorem GF.c {B B' B0 : HH} {f t i : Int} (G : GF B B0 f) (F : CF B' B t i) (h : 100 * f ≤ t ∧ 10 * f ≤ i ∧ i < 10 * f + 10) : GF B' B0 f := fun c j z => by
  rw [F c j (by omega)]
  exact G c j z
theorem M_goes_L {T : Int → Int} {L f : Int} {k B0 : HH} (X : MTX T L B0) (hf : 0 ≤ f ∧ f < 6) (hl : LTR B0) : ∀ (m n : Nat) (h B : HH) (x : Nat) (p : Int) (L0 : List CL), x + m + 1 = 10 → L0.length = x → m < n → MR k h B → GF B B0 f → B 193 12 = p → (0 ≤ p ∧ p ≤ L) → GI B f L0 p → ∃ h' B', m_goesText_L15 f n h x = some (if (sCls T L (m + 1) p).1 = true then 1 else 0, h') ∧ MR k h' B' ∧ GF B' B0 f ∧ B' 193 12 = (sCls T L (m + 1) p).2.1 ∧ ((sCls T L (m + 1) p).1 = true → (∀ i : Nat, i < (L0 ++ (sCls T L (m + 1) p).2.2).length → MCl B' f (10 * f + i) ((L0 ++ (sCls T L (m + 1) p).2.2).getD i (0, 0, []))) ∧ B' 201 f = (L0 ++ (sCls T L (m + 1) p).2.2).length ∧ 1 ≤ (L0 ++ (sCls T L (m + 1) p).2.2).length ∧ (L0 ++ (sCls T L (m + 1) p).2.2).length ≤ 10) := by
  have L1 := X.1.1
  intro m
  induction m with
  | zero =>
    intro n h B x p L0 hx hL hn H G e12 hp I
    obtain ⟨n, rfl⟩ : ∃ q, n = q + 1 := ⟨n - 1, by omega⟩
    have XB : MTX T L B := X.cg (G _ _ (by omega)) (fun j => G _ _ (by omega))
    have lB : LTR B := fun i hi => by rw [G _ _ (by omega)]; exact hl i hi
    obtain ⟨h1, B1, e1, H1, p1, F1, g1⟩ := M_clause (t := B 193 22) XB (i := 10 * f + x) (by omega) H lB hp e12 rfl (by have := I.2; omega)
    have G1 : GF B1 B0 f := G.c F1 (by have := I.2; omega)
    rw [m_goesText_L15, e1, Option.bind_some, sCls_nx]
    by_cases c1 : (sCl T p).1 = true
    · rw [if_pos c1, if_pos c1, if_neg (show ¬ ww (1 : Int) = 0 by decide), wwP (z := f) (by omega), ckP (by omega)]
      obtain ⟨s1, s2⟩ := sCl_G X.1 hp.1 hp.2 c1
      have I1 := I.next X.1 hf hp (by omega) rfl (by rw [hL]; exact F1) c1 (by rw [hL]; exact g1 c1)
      have H2 : MR k (u2 h1 201 f (x + 1)) (u2 B1 201 f (x + 1)) := H1.w (by omega)
      have G2 : GF (u2 B1 201 f (x + 1)) B0 f := fun c j z => by rw [u2N (by omega)]; exact G1 c j z
      have r12 : u2 h1 201 f (x + 1) 193 12 = (sCl T p).2.1 := by rw [u2N (by omega), H1.s12, p1]
      have r11 : u2 h1 201 f (x + 1) 193 11 = L := by rw [u2N (by omega), H1.s11, G1 _ _ (by omega), X.2.1]
      have ec : ww (u2 h1 201 f (x + 1) 193 12) = ww (u2 h1 201 f (x + 1) 193 11) ↔ (sCl T p).2.1 = L := by rw [r12, r11, wwP (by omega), wwP (by omega)]
      dsimp only
      by_cases c2 : (sCl T p).2.1 = L
      · rw [if_pos (ec.2 c2), if_pos c2]
        refine ⟨_, _, rfl, H2, G2, by rw [u2N (by omega), p1, c2], fun _ => ⟨fun i hi => ?_, ?_, ?_, ?_⟩⟩
        · obtain ⟨a1, a2, a3, a4, a5⟩ := (I1.1 i hi).1
          refine ⟨by rw [u2N (by omega)]; exact a1, by rw [u2N (by omega)]; exact a2, a3, a4, fun z => ?_⟩
          rw [u2N (by omega), u2N (by omega)]
          obtain ⟨b1, b2, b3, b4, b5⟩ := a5 z
          exact ⟨b1, b2, b3, fun j hj => by rw [u2N (by omega)]; exact b4 j hj, b5⟩
        · rw [u2S, List.length_append, List.length_singleton]; omega
        · rw [List.length_append, List.length_singleton]; omega
        · rw [List.length_append, List.length_singleton]; omega
      · rw [if_neg (fun z => c2 (ec.1 z)), if_neg c2, if_pos (by rw [wwP (by omega)]; omega)]
        have es : sNx T L 0 (sCl T p).2.1 = (false, (sCl T p).2.1, []) := by unfold sNx; rw [if_pos rfl]
        rw [es, if_neg (by simp)]
        exact ⟨_, _, rfl, H2, G2, by rw [u2N (by omega)]; exact p1, fun z => by simp at z⟩
    · rw [if_neg c1, if_neg c1, if_pos (show ww (0 : Int) = 0 by decide)]
      exact ⟨h1, B1, rfl, H1, G1, p1, fun z => by simp at z⟩
  | succ m im =>
    intro n h B x p L0 hx hL hn H G e12 hp I
    obtain ⟨n, rfl⟩ : ∃ q, n = q + 1 := ⟨n - 1, by omega⟩
    have XB : MTX T L B := X.cg (G _ _ (by omega)) (fun j => G _ _ (by omega))
    have lB : LTR B := fun i hi => by rw [G _ _ (by omega)]; exact hl i hi
    obtain ⟨h1, B1, e1, H1, p1, F1, g1⟩ := M_clause (t := B 193 22) XB (i := 10 * f + x) (by omega) H lB hp e12 rfl (by have := I.2; omega)
    have G1 : GF B1 B0 f := G.c F1 (by have := I.2; omega)
    rw [m_goesText_L15, e1, Option.bind_some, sCls_nx]
    by_cases c1 : (sCl T p).1 = true
    · rw [if_pos c1, if_pos c1, if_neg (show ¬ ww (1 : Int) = 0 by decide), wwP (z := f) (by omega), ckP (by omega)]
      obtain ⟨s1, s2⟩ := sCl_G X.1 hp.1 hp.2 c1
      have I1 := I.next X.1 hf hp (by omega) rfl (by rw [hL]; exact F1) c1 (by rw [hL]; exact g1 c1)
      have H2 : MR k (u2 h1 201 f (x + 1)) (u2 B1 201 f (x + 1)) := H1.w (by omega)
      have G2 : GF (u2 B1 201 f (x + 1)) B0 f := fun c j z => by rw [u2N (by omega)]; exact G1 c j z
      have r12 : u2 h1 201 f (x + 1) 193 12 = (sCl T p).2.1 := by rw [u2N (by omega), H1.s12, p1]
      have r11 : u2 h1 201 f (x + 1) 193 11 = L := by rw [u2N (by omega), H1.s11, G1 _ _ (by omega), X.2.1]
      have ec : ww (u2 h1 201 f (x + 1) 193 12) = ww (u2 h1 201 f (x + 1) 193 11) ↔ (sCl T p).2.1 = L := by rw [r12, r11, wwP (by omega), wwP (by omega)]
      have I2 : GI (u2 B1 201 f (x + 1)) f (L0 ++ [(sCl T p).2.2]) (sCl T p).2.1 := by
        refine ⟨fun i hi => ?_, by rw [u2N (by omega)]; exact I1.2⟩
        obtain ⟨a0, a6⟩ := I1.1 i hi
        refine ⟨?_, fun z => by rw [u2N (by omega), u2N (by omega)]; exact a6 z⟩
        obtain ⟨a1, a2, a3, a4, a5⟩ := a0
        refine ⟨by rw [u2N (by omega)]; exact a1, by rw [u2N (by omega)]; exact a2, a3, a4, fun z => ?_⟩
        rw [u2N (by omega), u2N (by omega)]
        obtain ⟨b1, b2, b3, b4, b5⟩ := a5 z
        exact ⟨b1, b2, b3, fun j hj => by rw [u2N (by omega)]; exact b4 j hj, b5⟩
      dsimp only
      by_cases c2 : (sCl T p).2.1 = L
      · rw [if_pos (ec.2 c2), if_pos c2]
        refine ⟨_, _, rfl, H2, G2, by rw [u2N (by omega), p1, c2], fun _ => ⟨fun i hi => (I2.1 i hi).1, ?_, ?_, ?_⟩⟩
        · rw [u2S, List.length_append, List.length_singleton]; omega
        · rw [List.length_append, List.length_singleton]; omega
        · rw [List.length_append, List.length_singleton]; omega
      · rw [if_neg (fun z => c2 (ec.1 z)), if_neg c2, if_neg (by rw [wwP (by omega)]; omega)]
        have X2 : MTX T L (u2 B1 201 f (x + 1)) := X.cg (G2 _ _ (by omega)) (fun j => G2 _ _ (by omega))
        obtain ⟨h3, e3, H3⟩ := M_takes (p := (sCl T p).2.1) X2 H2 (by omega) (by rw [u2N (by omega)]; exact p1) (c := 59) (by omega)
        rw [e3, Option.bind_some, sNx, if_neg (show ¬ m + 1 = 0 by omega)]
        by_cases c3 : T (sCl T p).2.1 = 59
        · have pL := lt_L X.1 (p := (sCl T p).2.1) (by omega)
          rw [if_pos c3] at H3
          rw [if_pos c3, if_pos c3, if_neg (show ¬ ww (1 : Int) = 0 by decide)]
          have I3 : GI (u2 (u2 B1 201 f (x + 1)) 193 12 ((sCl T p).2.1 + 1)) f (L0 ++ [(sCl T p).2.2]) ((sCl T p).2.1 + 1) := by
            refine ⟨fun i hi => ?_, by have := I2.2; rw [u2N (by omega)]; omega⟩
            obtain ⟨a0, a6⟩ := I2.1 i hi
            refine ⟨?_, fun z => by rw [u2N (by omega), u2N (f := u2 B1 201 f (x + 1)) (by omega)]; exact a6 z⟩
            exact a0.cg ⟨u2N (by omega), u2N (by omega), u2N (by omega), u2N (by omega)⟩ (fun j _ _ => u2N (by omega))
          obtain ⟨h4, B4, e4, H4, G4, p4, g4⟩ := im n h3 _ (x + 1) ((sCl T p).2.1 + 1) (L0 ++ [(sCl T p).2.2]) (by omega) (by rw [List.length_append, List.length_singleton]; omega) (by omega) H3 (fun c j z => by rw [u2N (by omega)]; exact G2 c j z) u2S (by omega) I3
          have ex : ((x + 1 : Nat) : Int) = (x : Int) + 1 := by omega
          rw [ex] at e4
          dsimp only
          rw [e4]
          by_cases c4 : (sCls T L (m + 1) ((sCl T p).2.1 + 1)).1 = true
          · rw [if_pos c4, if_pos c4]
            refine ⟨h4, B4, rfl, H4, G4, p4, fun _ => ?_⟩
            have := g4 c4
            rw [List.append_assoc] at this
            exact this
          · rw [if_neg c4, if_neg c4]
            exact ⟨h4, B4, rfl, H4, G4, p4, fun z => by simp at z⟩
        · rw [if_neg c3] at H3
          rw [if_neg c3, if_neg c3, if_pos (show ww (0 : Int) = 0 by decide), if_neg (by simp)]
          exact ⟨h3, _, rfl, H3, G2, by rw [u2N (by omega)]; exact p1, fun z => by simp at z⟩
    · rw [if_neg c1, if_neg c1, if_pos (show ww (0 : Int) = 0 by decide)]
      exact ⟨h1, B1, rfl, H1, G1, p1, fun z => by simp at z⟩
theorem M_goesT {T : Int → Int} {L f : Int} {k h B : HH} (X : MTX T L B) (hf : 0 ≤ f ∧ f < 6) (hl : LTR B) (H : MR k h B) : ∃ h' B', m_goesText h f = some (if (sCls T L 10 0).1 = true then 1 else 0, h') ∧ MR k h' B' ∧ GF B' B f ∧ B' 193 12 = (sCls T L 10 0).2.1 ∧ ((sCls T L 10 0).1 = true → MO B' f (sCls T L 10 0).2.2) := by
  have L1 := X.1.1
  obtain ⟨h1, B1, e1, H1, G1, p1, g1⟩ := M_goes_L (k := k) X hf hl 9 FU (u2 (u2 h 193 12 0) 193 22 (100 * f)) (u2 (u2 B 193 12 0) 193 22 (100 * f)) 0 0 [] rfl rfl (by decide) ((H.w (by omega)).w (by omega)) (fun c j z => by rw [u2N (by omega), u2N (by omega)]) (by simp (disch := omega) only [u2S, u2N, u2T]) (by omega) ⟨fun i hi => by simp at hi, by simp (disch := omega) only [u2S, u2N, u2T]; omega, by simp (disch := omega) only [u2S, u2N, u2T]; omega⟩
  refine ⟨h1, B1, e1, H1, G1, p1, fun z => ?_⟩
  obtain ⟨a1, a2, a3, a4⟩ := g1 z
  exact ⟨a2, a3, a4, a1⟩
