theorem whol_w : ∀ (P C : List Int) (w : Int), (whol P C w).2.2 + P.length = w + (whol P C w).1.length
  | [], C, w => rfl
  | t :: P, C, w => by
    rw [whol]
    by_cases c : t = 33
    · rw [if_pos c]
      have := whol_w P (C ++ [-33]) (w - 1)
      rw [List.length_cons]
      omega
    · rw [if_neg c]
theorem MS.to {B : HH} {p w base i v : Int} {P C : List Int} (S : MS B p P w C base) : MS (u2 B 205 i v) p P w C base := by
  obtain ⟨s1, s2, s3, s4, s5, s6⟩ := S
  exact ⟨by simp (disch := omega) only [u2S, u2N, u2T]; exact s1, by simp (disch := omega) only [u2S, u2N, u2T]; exact s2, fun j hj => by simp (disch := omega) only [u2S, u2N, u2T]; exact s3 j hj, by simp (disch := omega) only [u2S, u2N, u2T]; exact s4, fun j hj => by simp (disch := omega) only [u2S, u2N, u2T]; exact s5 j hj, by simp (disch := omega) only [u2S, u2N, u2T]; exact s6⟩
theorem M_E_L {T : Int → Int} {L base i : Int} {k B0 : HH} (X : MTX T L B0) (hi : 0 ≤ i ∧ i < 60) (hbase : 0 ≤ base) : ∀ (n : Nat) (h B : HH) (p : Int) (P : List Int) (w : Int) (C : List Int) (x : Int) (r : RZ), mEm T n p P w C x = some r → (x = 0 ∨ x = 1) → PB P → MR k h B → MS B p P w C base → MF B B0 base i → (0 ≤ p ∧ p ≤ L) → (base + C.length + P.length ≤ 500 + p ∧ P.length ≤ p ∧ P.length ≤ w + p ∧ w ≤ 4) → ∃ h' B', m_takesE_L22 i n h x = some (if r.1 = true then 1 else 0, h') ∧ MR k h' B' ∧ B' 193 12 = r.2.1 ∧ MF B' B0 base i ∧ (r.1 = true → B' 193 22 = base + r.2.2.length ∧ B' 205 i = base + r.2.2.length ∧ ∀ j : Nat, j < r.2.2.length → B' 206 (base + j) = r.2.2.getD j 0) := by
  have L1 := X.1.1
  intro n
  induction n with
  | zero =>
    intro h B p P w C x r hm
    rw [mEm] at hm
    simp at hm
  | succ n ih =>
    intro h B p P w C x r hm hx pb H S F hp hb
    have XB := F.x X
    have tb := X.b hp.1
    have e24 : h 193 24 = w := by rw [H.s24, S.2.2.2.2.2]
    have e23 : h 193 23 = P.length := by rw [H.s23, S.2.2.2.1]
    have e12 : h 193 12 = p := by rw [H.s12, S.1]
    rw [mEm] at hm
    rw [m_takesE_L22, M_next XB H hp S.1, Option.bind_some]
    -- a sign is laid on the pile
    have lay : ∀ (a : Int), (a = 38 ∨ a = 124) → T p = a → mEm T n (p + 1) (a :: (setl a P C).1) w (setl a P C).2 1 = some r → ∃ h' B', ((m_settle h a).bind fun q2 => ck (ww (q2 193 23)) 101 <| m_takesE_L22 i n (u2 (u2 (u2 q2 207 (ww (q2 193 23)) a) 193 23 (((u2 q2 207 (ww (q2 193 23)) a) 193 23) + 1)) 193 12 (((u2 (u2 q2 207 (ww (q2 193 23)) a) 193 23 (((u2 q2 207 (ww (q2 193 23)) a) 193 23) + 1)) 193 12) + 1)) 1) = some (if r.1 = true then 1 else 0, h') ∧ MR k h' B' ∧ B' 193 12 = r.2.1 ∧ MF B' B0 base i ∧ (r.1 = true → B' 193 22 = base + r.2.2.length ∧ B' 205 i = base + r.2.2.length ∧ ∀ j : Nat, j < r.2.2.length → B' 206 (base + j) = r.2.2.getD j 0) := fun a ha hT hm => by
      have pL := lt_L X.1 (p := p) (by omega)
      obtain ⟨h1, B1, e1, H1, S1, F1⟩ := M_settle_L (B0 := B0) (i := i) ha P FU k h B p w C (by unfold FU; omega) pb H S F (by omega)
      have e1 : m_settle h a = some h1 := e1
      obtain ⟨l1, l2, l3⟩ := setl_len (a := a) P C
      have r23 : h1 193 23 = (setl a P C).1.length := by rw [H1.s23, S1.2.2.2.1]
      have r12 : h1 193 12 = p := by rw [H1.s12, S1.1]
      rw [e1, Option.bind_some, r23, wwP (by omega), ckP (by omega), u2N (by omega), u2N (by omega), u2N (by omega), r23, r12]
      exact ih _ _ (p + 1) (a :: (setl a P C).1) w (setl a P C).2 1 r hm (.inr rfl) ((l2 pb).cs (by omega)) (((H1.w (by omega)).w (by omega)).w (by omega)) (S1.push.pos) (((F1.w (by omega)).w (by omega)).w (by omega)) (by omega) (by rw [List.length_cons]; omega)
    -- a sign that waits
    have wait : ∀ (a : Int), (a = 33 ∨ a = 40) → T p = a → (if w = 4 then some (false, p, []) else mEm T n (p + 1) (a :: P) (w + 1) C 1) = some r → ∃ h' B', (if ww (h 193 24) = 4 then (some (0, h)) else (ck (ww ((u2 h 193 24 ((h 193 24) + 1)) 193 23)) 101 <| m_takesE_L22 i n (u2 (u2 (u2 (u2 h 193 24 ((h 193 24) + 1)) 207 (ww ((u2 h 193 24 ((h 193 24) + 1)) 193 23)) a) 193 23 (((u2 (u2 h 193 24 ((h 193 24) + 1)) 207 (ww ((u2 h 193 24 ((h 193 24) + 1)) 193 23)) a) 193 23) + 1)) 193 12 (((u2 (u2 (u2 h 193 24 ((h 193 24) + 1)) 207 (ww ((u2 h 193 24 ((h 193 24) + 1)) 193 23)) a) 193 23 (((u2 (u2 h 193 24 ((h 193 24) + 1)) 207 (ww ((u2 h 193 24 ((h 193 24) + 1)) 193 23)) a) 193 23) + 1)) 193 12) + 1)) 1)) = some (if r.1 = true then (1 : Int) else 0, h') ∧ MR k h' B' ∧ B' 193 12 = r.2.1 ∧ MF B' B0 base i ∧ (r.1 = true → B' 193 22 = base + r.2.2.length ∧ B' 205 i = base + r.2.2.length ∧ ∀ j : Nat, j < r.2.2.length → B' 206 (base + j) = r.2.2.getD j 0) := fun a ha hT hm => by
      have pL := lt_L X.1 (p := p) (by omega)
      by_cases c : w = 4
      · rw [if_pos c] at hm
        have er := (Option.some.inj hm).symm
        subst er
        rw [if_pos (by rw [e24, wwP (by omega)]; exact c)]
        exact ⟨h, B, rfl, H, S.1, F, fun z => by simp at z⟩
      · rw [if_neg c] at hm
        have r23 : u2 h 193 24 (h 193 24 + 1) 193 23 = P.length := by rw [u2N (by omega)]; exact e23
        rw [if_neg (by rw [e24, wwP (by omega)]; exact c), r23, wwP (by omega), ckP (by omega)]
        have r23' : u2 (u2 h 193 24 (h 193 24 + 1)) 207 P.length a 193 23 = P.length := by rw [u2N (by omega)]; exact r23
        rw [r23']
        have r12 : u2 (u2 (u2 h 193 24 (h 193 24 + 1)) 207 P.length a) 193 23 (P.length + 1) 193 12 = p := by simp (disch := omega) only [u2S, u2N, u2T]; exact e12
        rw [r12, e24]
        exact ih _ _ (p + 1) (a :: P) (w + 1) C 1 r hm (.inr rfl) (pb.cs (by omega)) ((((H.w (by omega)).w (by omega)).w (by omega)).w (by omega)) ((S.wt (v := w + 1)).push.pos) ((((F.w (by omega)).w (by omega)).w (by omega)).w (by omega)) (by omega) (by rw [List.length_cons]; omega)
    rcases hx with rfl | rfl
    · rw [if_pos rfl] at hm
      rw [if_pos (by decide)]
      by_cases c1 : T p = 38
      · rw [if_pos c1] at hm
        rw [if_pos (by rw [c1]; decide)]
        have := lay 38 (.inl rfl) c1 hm
        rw [← c1] at this
        exact this
      · rw [if_neg c1] at hm
        rw [if_neg (by rw [wwP (by omega)]; exact c1)]
        by_cases c2 : T p = 124
        · rw [if_pos c2] at hm
          rw [if_pos (by rw [c2]; decide)]
          have := lay 124 (.inr rfl) c2 hm
          rw [← c2] at this
          exact this
        · rw [if_neg c2] at hm
          rw [if_neg (by rw [wwP (by omega)]; exact c2)]
          obtain ⟨h1, B1, e1, H1, S1, F1⟩ := M_settle_L (B0 := B0) (i := i) (a := 124) (.inr rfl) P FU k h B p w C (by unfold FU; omega) pb H S F (by omega)
          have e1 : m_settle h 124 = some h1 := e1
          obtain ⟨l1, l2, l3⟩ := setl_len (a := 124) P C
          have r23 : h1 193 23 = (setl 124 P C).1.length := by rw [H1.s23, S1.2.2.2.1]
          have r22 : h1 193 22 = base + (setl 124 P C).2.length := by rw [H1.s22, S1.2.1]
          have r12 : h1 193 12 = p := by rw [H1.s12, S1.1]
          have r24 : h1 193 24 = w := by rw [H1.s24, S1.2.2.2.2.2]
          have H2 : MR k (u2 h1 205 i (base + (setl 124 P C).2.length)) (u2 B1 205 i (base + (setl 124 P C).2.length)) := H1.w (by omega)
          have S2 := S1.to (i := i) (v := base + (setl 124 P C).2.length)
          have F2 : MF (u2 B1 205 i (base + (setl 124 P C).2.length)) B0 base i := F1.w (by omega)
          have q23 : u2 h1 205 i (base + (setl 124 P C).2.length) 193 23 = (setl 124 P C).1.length := by rw [u2N (by omega)]; exact r23
          rw [e1, Option.bind_some, wwP (z := i) (by omega), ckP (by omega), r22, q23]
          generalize hPC : setl 124 P C = PC at *
          by_cases c3 : PC.1 = []
          · rw [if_pos c3] at hm
            have er := (Option.some.inj hm).symm
            subst er
            rw [if_pos (by rw [c3]; decide)]
            exact ⟨_, _, rfl, H2, S2.1, F2, fun _ => ⟨S2.2.1, u2S, S2.2.2.1⟩⟩
          · rw [if_neg c3] at hm
            obtain ⟨t, P1, ep⟩ : ∃ t P1, PC.1 = t :: P1 := by
              cases hP : PC.1 with
              | nil => exact absurd hP c3
              | cons t P1 => exact ⟨t, P1, rfl⟩
            rw [ep] at hm S2 l1 l3 l2
            rw [List.length_cons] at l1 l3
            rw [if_neg (by rw [ep, List.length_cons, wwP (by omega)]; omega)]
            by_cases c4 : T p = 41
            · have pL := lt_L X.1 (p := p) (by omega)
              rw [if_pos c4, List.tail_cons] at hm
              rw [if_pos (by rw [c4]; decide)]
              obtain ⟨q1, q2, q3⟩ := S2.pop
              have e9 : (PC.1.length : Int) - 1 = P1.length := by rw [ep, List.length_cons]; omega
              rw [e9]
              have s24 : u2 (u2 h1 205 i (base + PC.2.length)) 193 23 P1.length 193 24 = w := by simp (disch := omega) only [u2S, u2N, u2T]; exact r24
              rw [s24]
              have s12 : u2 (u2 (u2 h1 205 i (base + PC.2.length)) 193 23 P1.length) 193 24 (w - 1) 193 12 = p := by simp (disch := omega) only [u2S, u2N, u2T]; exact r12
              rw [s12]
              have S3 := (q3.wt (v := w - 1)).pos (q := p + 1)
              obtain ⟨h4, B4, e4, H4, S4, F4⟩ := M_whole_L (B0 := B0) (i := i) P1 FU k _ _ (p + 1) (w - 1) PC.2 (by unfold FU; omega) (l2 pb).tl (((H2.w (by omega)).w (by omega)).w (by omega)) S3 (((F2.w (by omega)).w (by omega)).w (by omega)) (by omega)
              have e4 : m_whole _ = some h4 := e4
              obtain ⟨v1, v2, v3⟩ := whol_len P1 PC.2 (w - 1)
              have v4 := whol_w P1 PC.2 (w - 1)
              rw [e4, Option.bind_some]
              exact ih h4 B4 (p + 1) _ _ _ 0 r hm (.inl rfl) (v2 (l2 pb).tl) H4 S4 F4 (by omega) (by omega)
            · rw [if_neg c4] at hm
              have er := (Option.some.inj hm).symm
              subst er
              rw [if_neg (by rw [wwP (by omega)]; exact c4)]
              exact ⟨_, _, rfl, H2, S2.1, F2, fun z => by simp at z⟩
    · rw [if_neg (by decide)] at hm
      rw [if_neg (by decide)]
      by_cases c1 : T p = 33
      · rw [if_pos c1] at hm
        rw [if_pos (by rw [c1]; decide)]
        have := wait 33 (.inl rfl) c1 hm
        rw [← c1] at this
        exact this
      · rw [if_neg c1] at hm
        rw [if_neg (by rw [wwP (by omega)]; exact c1)]
        by_cases c2 : T p = 40
        · rw [if_pos c2] at hm
          rw [if_pos (by rw [c2]; decide)]
          have := wait 40 (.inr rfl) c2 hm
          rw [← c2] at this
          exact this
        · rw [if_neg c2] at hm
          rw [if_neg (by rw [wwP (by omega)]; exact c2)]
          obtain ⟨h1, B1, e1, H1, p1, F1, s1⟩ := M_test X H S F pb hp (by omega)
          rw [e1, Option.bind_some]
          by_cases c3 : (rdT T p).1 = true
          · have tp := rdT_p X.1 c3
            have tl : (rdT T p).2.2.length = 1 := by
              unfold rdT at c3 ⊢
              by_cases d1 : placeN (T p) < 0
              · rw [if_pos d1] at c3; simp at c3
              · rw [if_neg d1] at c3 ⊢
                by_cases d2 : 60 ≤ T (p + 1) ∧ T (p + 1) ≤ 62
                · rw [if_pos d2] at c3 ⊢
                  by_cases d3 : (rdN T (p + 2)).1 = true
                  · rw [if_pos d3]; rfl
                  · rw [if_neg d3] at c3; simp at c3
                · rw [if_neg d2] at c3; simp at c3
            rw [if_pos c3] at hm
            rw [if_pos c3, if_neg (show ¬ ww (1 : Int) = 0 by decide)]
            obtain ⟨v1, v2, v3⟩ := whol_len P (C ++ (rdT T p).2.2) w
            have v4 := whol_w P (C ++ (rdT T p).2.2) w
            rw [List.length_append, tl] at v1
            exact ih h1 B1 (rdT T p).2.1 _ _ _ 0 r hm (.inl rfl) (v2 pb) H1 (s1 c3) F1 (by omega) (by omega)
          · rw [if_neg c3] at hm
            have er := (Option.some.inj hm).symm
            subst er
            rw [if_neg c3, if_pos (show ww (0 : Int) = 0 by decide)]
            exact ⟨h1, B1, rfl, H1, p1, F1, fun z => by simp at z⟩
