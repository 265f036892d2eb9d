/- act -/
def bodyA (A : HH) (v : Int) : HH := u2 (u2 A 238 (A 193 71) v) 193 71 (A 193 71 + 1)
theorem M_body {k g A : HH} {v : Int} (H : MR k g A) (hc : 0 ≤ A 193 71 ∧ A 193 71 < 20) : ∃ g', m_body g v = some g' ∧ MR k g' (bodyA A v) := by
  unfold m_body bodyA
  simp (disch := omega) only [reduceIte, ltT, ltF, eqT, eqF, leT, leF, wwP, ckP, ckzP, ckbP, u2S, u2N, u2T, ↓Option.bind_some, inB_T, inB_F, Bool.false_eq_true, m_in0, m_in1, H.s71]
  exact ⟨_, rfl, (H.w (by omega)).w (by omega)⟩
theorem XT.add {S S' : SS} {h h' A : HH} {v : Int} (T : XT S h A) (e : ∀ c j, (148 ≤ c ∧ c ≤ 149) ∨ (165 ≤ c ∧ c ≤ 174) → h' c j = h c j) (hv : 1 ≤ v ∧ v ≤ 127) (hc : A 193 71 ≤ 11) (e2 : h' 151 2 = A 193 71 + 1) (r1 : 0 < h' 151 1 ∧ 243 ≤ h' 151 1 - 1 ∧ h' 151 1 - 1 < S'.2) (r2 : S'.1 (h' 151 1 - 1) (-1) = 27) (r3 : S'.1 (h' 151 1 - 1) (-2) = 10 ∨ S'.1 (h' 151 1 - 1) (-2) = 15) (r4 : A 193 71 + 1 ≤ S'.1 (h' 151 1 - 1) (-2)) (r5 : ∀ i, 0 ≤ i → i < A 193 71 → h' (h' 151 1 - 1) i = A 238 i ∧ 1 ≤ A 238 i ∧ A 238 i ≤ 127) (r6 : h' (h' 151 1 - 1) (A 193 71) = v) : XT S' h' (bodyA A v) := by
  obtain ⟨t1, t2, t3, t4, t5, t6, tz, t7⟩ := T
  have b1 : bodyA A v 193 11 = A 193 11 := by unfold bodyA; simp (disch := omega) only [u2S, u2N, u2T]
  have b2 : bodyA A v 193 71 = A 193 71 + 1 := by unfold bodyA; simp (disch := omega) only [u2S, u2N, u2T]
  have b3 : ∀ j, bodyA A v 200 j = A 200 j := fun j => by unfold bodyA; simp (disch := omega) only [u2S, u2N, u2T]
  have b4 : ∀ j, bodyA A v 239 j = A 239 j := fun j => by unfold bodyA; simp (disch := omega) only [u2S, u2N, u2T]
  have b5 : ∀ j, bodyA A v 240 j = A 240 j := fun j => by unfold bodyA; simp (disch := omega) only [u2S, u2N, u2T]
  have b6 : ∀ j, bodyA A v 241 j = A 241 j := fun j => by unfold bodyA; simp (disch := omega) only [u2S, u2N, u2T]
  unfold XT
  rw [b1, b2, e 148 1 (by omega)]
  refine ⟨t1, t2, fun i i0 i1 => by rw [e 149 i (by omega), b3]; exact t3 i i0 i1, fun t p q => ?_, e2, by omega, fun j p q => by rw [e 165 j (by omega)]; exact tz j p q, .inr ⟨r1.1, r1.2.1, r1.2.2, r2, r3, r4, fun i i0 i1 => ?_⟩⟩
  · rw [b4, b5, e 166 t (by omega), e 167 t (by omega)]
    obtain ⟨g1, g2, g3, g4, g5, g6⟩ := t4 t p q
    refine ⟨g1, g2, g3, g4, g5, fun i x y => ?_⟩
    rw [b6, e (169 + t) i (by omega)]
    exact g6 i x y
  · by_cases z : i = A 193 71
    · subst z
      have b7 : bodyA A v 238 (A 193 71) = v := by unfold bodyA; simp (disch := omega) only [u2S, u2N, u2T]
      rw [r6, b7]
      exact ⟨rfl, hv⟩
    · have b7 : bodyA A v 238 i = A 238 i := by unfold bodyA; simp (disch := omega) only [u2S, u2N, u2T]
      rw [b7]
      exact r5 i i0 (by omega)
theorem nS_N {S : SS} {c n a b : Int} (h : a ≠ S.2) : (nS S c n).1 a b = S.1 a b := by
  show (if a = S.2 then _ else S.1 a b) = _
  rw [if_neg h]
theorem nS_k {S : SS} {c n : Int} : (nS S c n).1 S.2 (-1) = c ∧ (nS S c n).1 S.2 (-2) = n := by
  constructor
  · show (if (S.2 : Int) = (S.2 : Int) then (if (-1 : Int) = -1 then c else _) else _) = _
    rw [if_pos rfl, if_pos rfl]
  · show (if (S.2 : Int) = (S.2 : Int) then (if (-2 : Int) = -1 then c else if (-2 : Int) = -2 then n else _) else _) = _
    rw [if_pos rfl, if_neg (by decide), if_pos rfl]
theorem nS_x {S : SS} {c n : Int} : SXt S (nS S c n) := ⟨Nat.le_succ _, fun a b h => nS_N (by omega)⟩
theorem X_add {S : SS} {k h A : HH} {O : Int → List CL} {v : Int} (F : 243 ≤ S.2) (H : XR S k h A O) (hv : 1 ≤ v ∧ v ≤ 127) (hc : A 193 71 ≤ 11) : ∃ h' S', tr_add v S h = some (h', S') ∧ SXt S S' ∧ XR S' k h' (bodyA A v) O ∧ ∀ j, h' 2 j = h 2 j := by
  have T := H.2.2.2.1
  have T' := T
  obtain ⟨t1, t2, t3, t4, t5, t6, tz, t7⟩ := T
  have off : ∀ c j, ¬ tapeC c j → bodyA A v c j = A c j := fun c j q => by
    unfold tapeC at q
    unfold bodyA
    simp (disch := omega) only [u2S, u2N, u2T]
  unfold tr_add tr_add1
  have u1 : u2 h 151 0 (h 151 0 + 1) 151 1 = h 151 1 := by simp (disch := omega) only [u2S, u2N, u2T]
  have u3 : u2 h 151 0 (h 151 0 + 1) 151 2 = A 193 71 := by simp (disch := omega) only [u2S, u2N, u2T]; exact t5
  rw [u1, u3]
  rcases t7 with ⟨g1, g2⟩ | ⟨g1, g2, g3, g4, g5, g6, g7⟩
  · rw [if_pos g1, if_pos g2]
    refine ⟨_, _, rfl, nS_x, ?_, fun j => ?_⟩
    · refine H.tape nS_x (fun c j q1 q2 => ?_) (fun c j q => ?_) off ?_
      · simp (disch := omega) only [u2N, nhN]
      · have := isHb_ge q
        simp (disch := omega) only [u2N, nhN]
      · have e1 : ∀ x y z : Int, u2 (u2 (u2 (nh (u2 h 151 0 x) S.2) 151 1 y) S.2 0 v) 151 2 z 151 1 = y := fun x y z => by simp (disch := omega) only [u2N, u2S]
        have w : (S.2 : Int) + 1 - 1 = S.2 := by omega
        refine T'.add (fun c j q => ?_) hv hc ?_ ?_ ?_ ?_ ?_ (fun i i0 i1 => by omega) ?_
        · simp (disch := omega) only [u2N, nhN]
        · rw [u2S, g2]
        · rw [e1, w]
          refine ⟨by omega, by omega, ?_⟩
          show (S.2 : Int) < ((S.2 + 1 : Nat) : Int)
          omega
        · rw [e1, w]; exact nS_k.1
        · rw [e1, w]; exact .inl nS_k.2
        · rw [e1, w, nS_k.2]; omega
        · rw [e1, w, g2]; simp (disch := omega) only [u2N, u2S]
    · simp (disch := omega) only [u2N, nhN]
  · rw [if_neg (by omega), if_pos ⟨g1, by omega, g3, g4⟩]
    generalize hR : h 151 1 - 1 = R at *
    by_cases c1 : A 193 71 < S.1 R (-2)
    · rw [if_pos ⟨by omega, c1, by omega⟩]
      refine ⟨_, _, rfl, SXt.refl, ?_, fun j => ?_⟩
      · refine H.tape SXt.refl (fun c j q1 q2 => ?_) (fun c j q => ?_) off ?_
        · simp (disch := omega) only [u2N]
        · have := isHb_ge q
          have : c ≠ R := fun z => isHb_k q (by rw [z]; exact g4)
          simp (disch := omega) only [u2N]
        · have e1 : ∀ x y z : Int, u2 (u2 (u2 h 151 0 x) R y v) 151 2 z 151 1 - 1 = R := fun x y z => by simp (disch := omega) only [u2N]; exact hR
          refine T'.add (fun c j q => ?_) hv hc ?_ ?_ ?_ ?_ ?_ (fun i i0 i1 => ?_) ?_
          · simp (disch := omega) only [u2N]
          · rw [u2S]
          · rw [e1]
            exact ⟨by simp (disch := omega) only [u2N]; omega, g2, g3⟩
          · rw [e1]; exact g4
          · rw [e1]; exact g5
          · rw [e1]; omega
          · rw [e1]
            simp (disch := omega) only [u2N]
            exact g7 i i0 i1
          · rw [e1]
            simp (disch := omega) only [u2N, u2S]
      · simp (disch := omega) only [u2N]
    · have c2 : A 193 71 = 10 ∧ S.1 R (-2) = 10 := by omega
      have f7 : ∀ j : Nat, j < 10 → -128 ≤ u2 h 151 0 (h 151 0 + 1) R j ∧ u2 h 151 0 (h 151 0 + 1) R j ≤ 127 := fun j hj => by
        rw [u2N (by omega)]
        obtain ⟨q1, q2, q3⟩ := g7 j (by omega) (by omega)
        omega
      rw [if_neg (by omega), if_pos ⟨c2.1, c2.2, f7⟩]
      refine ⟨_, _, rfl, nS_x, ?_, fun j => ?_⟩
      · refine H.tape nS_x (fun c j q1 q2 => ?_) (fun c j q => ?_) off ?_
        · simp (disch := omega) only [u2N, cpAN, nhN]
        · have := isHb_ge q
          simp (disch := omega) only [u2N, cpAN, nhN]
        · have e1 : ∀ x y z : Int, u2 (u2 (u2 (cpA (nh (u2 h 151 0 x) S.2) R 0 S.2 0 10) 151 1 y) S.2 10 v) 151 2 z 151 1 = y := fun x y z => by simp (disch := omega) only [u2N, u2S]
          have w : (S.2 : Int) + 1 - 1 = S.2 := by omega
          refine T'.add (fun c j q => ?_) hv hc ?_ ?_ ?_ ?_ ?_ (fun i i0 i1 => ?_) ?_
          · simp (disch := omega) only [u2N, cpAN, nhN]
          · rw [u2S, c2.1]
          · rw [e1, w]
            refine ⟨by omega, by omega, ?_⟩
            show (S.2 : Int) < ((S.2 + 1 : Nat) : Int)
            omega
          · rw [e1, w]; exact nS_k.1
          · rw [e1, w]; exact .inr nS_k.2
          · rw [e1, w, nS_k.2]; omega
          · rw [e1, w]
            simp (disch := omega) only [u2N, cpAT, nhN]
            rw [show 0 + (i - 0) = i by omega]
            exact g7 i i0 i1
          · rw [e1, w, c2.1]; simp (disch := omega) only [u2N, u2S]
      · simp (disch := omega) only [u2N, cpAN, nhN]
/-- both sides' bodies: the same answer, the same trace -/
def JJ (S : SS) (k h A : HH) (O : Int → List CL) (c : Int) (fx : Option (Int × HH × SS)) (fm : HH → Option (Int × HH)) : Prop := ∃ v A' h' S', fx = some (v, h', S') ∧ SXt S S' ∧ XR S' k h' A' O ∧ (∀ k g, MR k g A → ∃ g', fm g = some (v, g') ∧ MR k g' A') ∧ (∀ i j, ¬ (i = 238 ∨ (i = 193 ∧ j = 71)) → A' i j = A i j) ∧ A 193 71 ≤ A' 193 71 ∧ A' 193 71 ≤ A 193 71 + c ∧ ∀ j, h' 2 j = h 2 j
/-- what a body stands on -/
def JH (S : SS) (k h A : HH) (O : Int → List CL) (p q : Int) : Prop := 243 ≤ S.2 ∧ XR S k h A O ∧ (0 ≤ p ∧ p < A 193 0) ∧ h 2 p - 1 = q
theorem JH.q {S : SS} {k h A : HH} {O : Int → List CL} {p q : Int} (P : JH S k h A O p q) : S.1 q (-1) = nhC (A 194 p) ∧ h q 1 = p ∧ h q 2 = A 195 p ∧ p < 6 ∧ 0 ≤ A 193 71 := by
  obtain ⟨F, X, hp, e⟩ := P
  obtain ⟨g1, g2, g3, g4, g5⟩ := X.2.1.2.2.2.2.1 p hp.1 hp.2
  have e : h (1 + 1) p - 1 = q := e
  rw [e] at g1 g2 g3 g4 g5
  have := X.2.1.1
  exact ⟨g2, g4, g5, by omega, X.2.2.2.1.2.2.2.2.2.1.1⟩
theorem JH.next {S S' : SS} {k h h' A A' : HH} {O : Int → List CL} {p q : Int} (P : JH S k h A O p q) (x : SXt S S') (X : XR S' k h' A' O) (o : ∀ i j, ¬ (i = 238 ∨ (i = 193 ∧ j = 71)) → A' i j = A i j) (f : ∀ j, h' 2 j = h 2 j) : JH S' k h' A' O p q := by
  obtain ⟨F, -, hp, e⟩ := P
  have x1 := x.1
  refine ⟨by omega, X, ?_, by rw [f]; exact e⟩
  rw [o 193 0 (by omega)]
  exact hp
theorem JJ.ret {S : SS} {k h A : HH} {O : Int → List CL} {p q v : Int} {Fm : HH → Int} (P : JH S k h A O p q) (e : ∀ k g, MR k g A → Fm g = v) : JJ S k h A O 0 (some (v, h, S)) (fun g => some (Fm g, g)) :=
  ⟨v, A, h, S, rfl, SXt.refl, P.2.1, fun k g H => ⟨g, by show some (Fm g, g) = _; rw [e k g H], H⟩, fun _ _ _ => rfl, Int.le_refl _, by omega, fun _ => rfl⟩
theorem JJ.add {S : SS} {k h A : HH} {O : Int → List CL} {p q v c : Int} {fx : SS → HH → Option (Int × HH × SS)} {fm : HH → Option (Int × HH)} (P : JH S k h A O p q) (hv : 1 ≤ v ∧ v ≤ 127) (hc : A 193 71 ≤ 11) (J : ∀ S1 h1 A1, JH S1 k h1 A1 O p q → A1 193 71 = A 193 71 + 1 → (∀ i, i ≠ 238 → i ≠ 193 → A1 i = A i) → JJ S1 k h1 A1 O c (fx S1 h1) fm) : JJ S k h A O (c + 1) ((tr_add v S h).bind fun q1 => ckX S q1.2 (fx q1.2 q1.1)) (fun g => (m_body g v).bind fun q1 => fm q1) := by
  obtain ⟨h1, S1, e1, x1, X1, f1⟩ := X_add (v := v) P.1 P.2.1 hv hc
  have o1 : ∀ i j, ¬ (i = 238 ∨ (i = 193 ∧ j = 71)) → bodyA A v i j = A i j := fun i j z => by unfold bodyA; simp (disch := omega) only [u2S, u2N, u2T]
  have c1 : bodyA A v 193 71 = A 193 71 + 1 := by unfold bodyA; simp (disch := omega) only [u2S, u2N, u2T]
  obtain ⟨w, A2, h2, S2, e2, x2, X2, m2, o2, c2, c3, f2⟩ := J S1 h1 (bodyA A v) (P.next x1 X1 o1 f1) c1 (fun i a b => funext fun j => o1 i j (by omega))
  refine ⟨w, A2, h2, S2, ?_, x1.trans x2, X2, fun k g H => ?_, fun i j z => by rw [o2 i j z, o1 i j z], by omega, by omega, fun j => by rw [f2, f1]⟩
  · rw [e1, Option.bind_some]
    show ckX S S1 (fx S1 h1) = _
    rw [ckX_ok x1, e2]
  · obtain ⟨g1, e3, H1⟩ := M_body (v := v) H (by have := P.q.2.2.2.2; omega)
    show ∃ g', (m_body g v).bind fm = _ ∧ _
    rw [e3, Option.bind_some]
    exact m2 k g1 H1
theorem JJ.bind {S : SS} {k h A : HH} {O : Int → List CL} {p q c d : Int} {fx : Option (Int × HH × SS)} {fm : HH → Option (Int × HH)} {fx2 : Int → SS → HH → Option (Int × HH × SS)} {fm2 : Int → HH → Option (Int × HH)} (P : JH S k h A O p q) (J : JJ S k h A O c fx fm) (K : ∀ v S1 h1 A1, JH S1 k h1 A1 O p q → A1 193 71 ≤ A 193 71 + c → (∀ i, i ≠ 238 → i ≠ 193 → A1 i = A i) → JJ S1 k h1 A1 O d (fx2 v S1 h1) (fm2 v)) : JJ S k h A O (c + d) (fx.bind fun q3 => ckX S q3.2.2 (fx2 q3.1 q3.2.2 q3.2.1)) (fun g => (fm g).bind fun q2 => fm2 q2.1 q2.2) := by
  obtain ⟨v, A1, h1, S1, e1, x1, X1, m1, o1, c1, c2, f1⟩ := J
  obtain ⟨w, A2, h2, S2, e2, x2, X2, m2, o2, c3, c4, f2⟩ := K v S1 h1 A1 (P.next x1 X1 o1 f1) c2 (fun i a b => funext fun j => o1 i j (by omega))
  refine ⟨w, A2, h2, S2, ?_, x1.trans x2, X2, fun k g H => ?_, fun i j z => by rw [o2 i j z, o1 i j z], by omega, by omega, fun j => by rw [f2, f1]⟩
  · rw [e1, Option.bind_some]
    show ckX S S1 (fx2 v S1 h1) = _
    rw [ckX_ok x1, e2]
  · obtain ⟨g1, e3, H1⟩ := m1 k g H
    show ∃ g', ((fm g).bind fun q2 => fm2 q2.1 q2.2) = _ ∧ _
    rw [e3, Option.bind_some]
    exact m2 k g1 H1
theorem JJ.cm {S : SS} {k h A : HH} {O : Int → List CL} {c d : Int} {fx : Option (Int × HH × SS)} {fm fm' : HH → Option (Int × HH)} (J : JJ S k h A O c fx fm) (hd : c ≤ d) (e : ∀ k g, MR k g A → fm' g = fm g) : JJ S k h A O d fx fm' := by
  obtain ⟨v, A1, h1, S1, e1, x1, X1, m1, o1, c1, c2, f1⟩ := J
  exact ⟨v, A1, h1, S1, e1, x1, X1, fun k g H => by rw [e k g H]; exact m1 k g H, o1, c1, by omega, f1⟩
theorem bid (o : Option (Int × HH)) : (o.bind fun q => some (q.1, q.2)) = o := by cases o <;> rfl
theorem J_hs {S : SS} {k h A : HH} {O : Int → List CL} {p q x : Int} (P : JH S k h A O p q) (hc : A 193 71 ≤ 11) : JJ S k h A O 1 (xh2_sings S h q x) (fun g => m_haterSings g p x) := by
  unfold xh2_sings m_haterSings
  refine (JJ.add (c := 0) (fx := fun S1 h1 => some (x + h1 q 1, h1, S1)) (fm := fun g => some (x + p, g)) P (by omega) hc (fun S1 h1 A1 P1 _ _ => ?_)).cm (by omega) (fun _ _ _ => rfl)
  rw [P1.q.2.1]
  exact JJ.ret P1 (fun _ _ _ => rfl)
theorem J_sings {S : SS} {k h A : HH} {O : Int → List CL} {p q x : Int} (P : JH S k h A O p q) (hk : 0 ≤ A 194 p ∧ A 194 p ≤ 6) (hc : A 193 71 ≤ 10) : JJ S k h A O 2 (d_sings S h q x) (fun g => m_singsAct g p x) := by
  obtain ⟨q1, q2, q3, q4, q5⟩ := P.q
  have hp := P.2.2.1
  unfold d_sings
  rw [q1]
  have hd : A 194 p = 0 ∨ A 194 p = 1 ∨ A 194 p = 2 ∨ A 194 p = 3 ∨ A 194 p = 4 ∨ A 194 p = 5 ∨ A 194 p = 6 := by omega
  have ek : ∀ k g, MR k g A → ww (g 194 p) = A 194 p := fun k g H => by rw [H.r194, wwP (by omega)]
  have base : ∀ fm, (∀ k g, MR k g A → fm g = m_haterSings g p x) → JJ S k h A O 2 (xh2_sings S h q x) fm := fun fm e => (J_hs P (by omega)).cm (by omega) e
  have three : ∀ fm, (∀ k g, MR k g A → fm g = (m_body g 30).bind fun q1 => m_haterSings q1 p (x * 3)) → JJ S k h A O 2 (xh3_sings S h q x) fm := fun fm e => by
    unfold xh3_sings
    refine (JJ.add (c := 1 + 0) (fx := fun S1 h1 => (xh2_sings S1 h1 q (x * 3)).bind fun q3 => ckX S1 q3.2.2 <| some (q3.1, q3.2.1, q3.2.2)) (fm := fun g => (m_haterSings g p (x * 3)).bind fun q2 => some (q2.1, q2.2)) P (by omega) (by omega) (fun S1 h1 A1 P1 a1 _ => ?_)).cm (by omega) (fun k g H => ?_)
    · exact JJ.bind (fx2 := fun v S h => some (v, h, S)) (fm2 := fun v g => some (v, g)) P1 (J_hs P1 (by omega)) (fun v S2 h2 A2 P2 _ _ => JJ.ret P2 (fun _ _ _ => rfl))
    · rw [e k g H]
      simp only [bid]
  rcases hd with z | z | z | z | z | z | z <;> rw [z]
  · refine base _ (fun k g H => ?_)
    unfold m_singsAct
    rw [wwP (by omega), ckP (by omega), ek k g H, z]
    simp (disch := decide) only [eqF, reduceIte, bid]
  · refine base _ (fun k g H => ?_)
    unfold m_singsAct
    rw [wwP (by omega), ckP (by omega), ek k g H, z]
    simp (disch := decide) only [eqF, reduceIte, bid]
  · refine three _ (fun k g H => ?_)
    unfold m_singsAct
    rw [wwP (by omega), ckP (by omega), ek k g H, z]
    simp (disch := decide) only [eqF, reduceIte, bid]
  · refine base _ (fun k g H => ?_)
    unfold m_singsAct
    rw [wwP (by omega), ckP (by omega), ek k g H, z]
    simp (disch := decide) only [eqF, reduceIte, bid]
  · show JJ S k h A O 2 (xh1_sings S h q x) _
    unfold xh1_sings
    refine (JJ.add (c := 1 + 0) (fx := fun S1 h1 => (xh2_sings S1 h1 q x).bind fun q3 => ckX S1 q3.2.2 <| some (-q3.1, q3.2.1, q3.2.2)) (fm := fun g => (m_haterSings g p x).bind fun q2 => some (-q2.1, q2.2)) P (by omega) (by omega) (fun S1 h1 A1 P1 a1 _ => ?_)).cm (by omega) (fun k g H => ?_)
    · exact JJ.bind (fx2 := fun v S h => some (-v, h, S)) (fm2 := fun v g => some (-v, g)) P1 (J_hs P1 (by omega)) (fun v S2 h2 A2 P2 _ _ => JJ.ret P2 (fun _ _ _ => rfl))
    · unfold m_singsAct
      rw [wwP (by omega), ckP (by omega), ek k g H, z]
      simp (disch := decide) only [eqF, reduceIte, bid]
  · refine three _ (fun k g H => ?_)
    unfold m_singsAct
    rw [wwP (by omega), ckP (by omega), ek k g H, z]
    simp (disch := decide) only [eqF, reduceIte, bid]
  · show JJ S k h A O 2 (xh8_sings S h q x) _
    unfold xh8_sings
    refine (JJ.add (c := 1 + 0) (fx := fun S1 h1 => (xh2_sings S1 h1 q x).bind fun q3 => ckX S1 q3.2.2 <| some (zxor q3.1 (q3.2.1 q 2), q3.2.1, q3.2.2)) (fm := fun g => (m_haterSings g p x).bind fun q2 => some (zxor q2.1 (q2.2 195 p), q2.2)) P (by omega) (by omega) (fun S1 h1 A1 P1 a1 _ => ?_)).cm (by omega) (fun k g H => ?_)
    · refine JJ.bind (fx2 := fun v S h => some (zxor v (h q 2), h, S)) (fm2 := fun v g => some (zxor v (g 195 p), g)) P1 (J_hs P1 (by omega)) (fun v S2 h2 A2 P2 _ o2 => ?_)
      show JJ S2 k h2 A2 O 0 (some (zxor v (h2 q 2), h2, S2)) _
      rw [P2.q.2.2.1]
      exact JJ.ret P2 (fun _ g H => by rw [H.r195])
    · unfold m_singsAct
      rw [wwP (by omega), ckP (by omega), ek k g H, z]
      simp (disch := first | omega | decide) only [eqF, reduceIte, ckP]
theorem J_hspits {S : SS} {k h A : HH} {O : Int → List CL} {p q x : Int} (P : JH S k h A O p q) (hk : 0 ≤ A 194 p ∧ A 194 p ≤ 6) (hc : A 193 71 ≤ 9) : JJ S k h A O 3 (xh2_spits S h q x) (fun g => m_haterSpits g p x) := by
  have hp := P.2.2.1
  have q4 := P.q.2.2.2.1
  unfold xh2_spits
  refine (JJ.add (c := 2 + 0) (fx := fun S1 h1 => (d_sings S1 h1 q x).bind fun q3 => ckX S1 q3.2.2 <| some (q3.1 - (q3.2.1 q 2), q3.2.1, q3.2.2)) (fm := fun g => (m_singsAct g p x).bind fun q2 => some (q2.1 - (q2.2 195 p), q2.2)) P (by omega) (by omega) (fun S1 h1 A1 P1 a1 o1 => ?_)).cm (by omega) (fun k g H => ?_)
  · refine JJ.bind (fx2 := fun v S h => some (v - (h q 2), h, S)) (fm2 := fun v g => some (v - (g 195 p), g)) P1 (J_sings P1 (by rw [o1 194 (by omega) (by omega)]; exact hk) (by omega)) (fun v S2 h2 A2 P2 _ o2 => ?_)
    show JJ S2 k h2 A2 O 0 (some (v - (h2 q 2), h2, S2)) _
    rw [P2.q.2.2.1]
    exact JJ.ret P2 (fun _ g H => by rw [H.r195])
  · unfold m_haterSpits
    simp (disch := omega) only [wwP, ckP]
theorem J_uspits {S : SS} {k h A : HH} {O : Int → List CL} {p q x : Int} (P : JH S k h A O p q) (hk : 0 ≤ A 194 p ∧ A 194 p ≤ 6) (hc : A 193 71 ≤ 8) : JJ S k h A O 4 (xh9_spits S h q x) (fun g => m_uncleSpits g p x) := by
  unfold xh9_spits m_uncleSpits
  refine (JJ.add (c := 3 + 0) (fx := fun S1 h1 => (xh2_spits S1 h1 q x).bind fun q3 => ckX S1 q3.2.2 <| some (zxor q3.1 6, q3.2.1, q3.2.2)) (fm := fun g => (m_haterSpits g p x).bind fun q2 => some (zxor q2.1 6, q2.2)) P (by omega) (by omega) (fun S1 h1 A1 P1 a1 o1 => ?_)).cm (by omega) (fun k g H => rfl)
  exact JJ.bind (fx2 := fun v S h => some (zxor v 6, h, S)) (fm2 := fun v g => some (zxor v 6, g)) P1 (J_hspits P1 (by rw [o1 194 (by omega) (by omega)]; exact hk) (by omega)) (fun v S2 h2 A2 P2 _ o2 => JJ.ret P2 (fun _ _ _ => rfl))
theorem J_spits {S : SS} {k h A : HH} {O : Int → List CL} {p q x : Int} (P : JH S k h A O p q) (hk : 0 ≤ A 194 p ∧ A 194 p ≤ 6) (hc : A 193 71 ≤ 7) : JJ S k h A O 5 (d_spits S h q x) (fun g => m_spitsAct g p x) := by
  obtain ⟨q1, q2, q3, q4, q5⟩ := P.q
  have hp := P.2.2.1
  unfold d_spits
  rw [q1]
  have hd : A 194 p = 0 ∨ A 194 p = 1 ∨ A 194 p = 2 ∨ A 194 p = 3 ∨ A 194 p = 4 ∨ A 194 p = 5 ∨ A 194 p = 6 := by omega
  have ek : ∀ k g, MR k g A → ww (g 194 p) = A 194 p := fun k g H => by rw [H.r194, wwP (by omega)]
  have base : ∀ fm, (∀ k g, MR k g A → fm g = m_haterSpits g p x) → JJ S k h A O 5 (xh2_spits S h q x) fm := fun fm e => (J_hspits P hk (by omega)).cm (by omega) e
  rcases hd with z | z | z | z | z | z | z <;> rw [z]
  · refine base _ (fun k g H => ?_)
    unfold m_spitsAct
    rw [wwP (by omega), ckP (by omega), ek k g H, z]
    simp (disch := decide) only [eqF, reduceIte, bid]
  · show JJ S k h A O 5 (xh9_spits S h q x) _
    refine (J_uspits P hk (by omega)).cm (by omega) (fun k g H => ?_)
    unfold m_spitsAct
    rw [wwP (by omega), ckP (by omega), ek k g H, z]
    simp (disch := decide) only [eqF, reduceIte, bid]
  · refine base _ (fun k g H => ?_)
    unfold m_spitsAct
    rw [wwP (by omega), ckP (by omega), ek k g H, z]
    simp (disch := decide) only [eqF, reduceIte, bid]
  · refine base _ (fun k g H => ?_)
    unfold m_spitsAct
    rw [wwP (by omega), ckP (by omega), ek k g H, z]
    simp (disch := decide) only [eqF, reduceIte, bid]
  · show JJ S k h A O 5 (xh1_spits S h q x) _
    unfold xh1_spits
    refine (JJ.add (c := 4 + 0) (fx := fun S1 h1 => (xh9_spits S1 h1 q (x + 1)).bind fun q3 => ckX S1 q3.2.2 <| some (q3.1, q3.2.1, q3.2.2)) (fm := fun g => (m_uncleSpits g p (x + 1)).bind fun q2 => some (q2.1, q2.2)) P (by omega) (by omega) (fun S1 h1 A1 P1 a1 o1 => ?_)).cm (by omega) (fun k g H => ?_)
    · exact JJ.bind (fx2 := fun v S h => some (v, h, S)) (fm2 := fun v g => some (v, g)) P1 (J_uspits P1 (by rw [o1 194 (by omega) (by omega)]; exact hk) (by omega)) (fun v S2 h2 A2 P2 _ _ => JJ.ret P2 (fun _ _ _ => rfl))
    · unfold m_spitsAct
      rw [wwP (by omega), ckP (by omega), ek k g H, z]
      simp (disch := decide) only [eqF, reduceIte, bid]
  · refine base _ (fun k g H => ?_)
    unfold m_spitsAct
    rw [wwP (by omega), ckP (by omega), ek k g H, z]
    simp (disch := decide) only [eqF, reduceIte, bid]
  · show JJ S k h A O 5 (xh8_spits S h q x) _
    unfold xh8_spits
    refine (JJ.add (c := 3 + (1 + 0)) (fx := fun S1 h1 => (xh2_spits S1 h1 q x).bind fun q3 => ckX S1 q3.2.2 <| (xh2_sings q3.2.2 q3.2.1 q 2).bind fun q5 => ckX q3.2.2 q5.2.2 <| some (q3.1 + q5.1, q5.2.1, q5.2.2)) (fm := fun g => (m_haterSpits g p x).bind fun q5 => (m_haterSings q5.2 p 2).bind fun q6 => some (q5.1 + q6.1, q6.2)) P (by omega) (by omega) (fun S1 h1 A1 P1 a1 o1 => ?_)).cm (by omega) (fun k g H => ?_)
    · refine JJ.bind (fx2 := fun v S h => (xh2_sings S h q 2).bind fun q5 => ckX S q5.2.2 <| some (v + q5.1, q5.2.1, q5.2.2)) (fm2 := fun v g => (m_haterSings g p 2).bind fun q6 => some (v + q6.1, q6.2)) P1 (J_hspits P1 (by rw [o1 194 (by omega) (by omega)]; exact hk) (by omega)) (fun v S2 h2 A2 P2 a2 _ => ?_)
      exact JJ.bind (fx2 := fun w S h => some (v + w, h, S)) (fm2 := fun w g => some (v + w, g)) P2 (J_hs P2 (by omega)) (fun w S3 h3 A3 P3 _ _ => JJ.ret P3 (fun _ _ _ => rfl))
    · unfold m_spitsAct
      rw [wwP (by omega), ckP (by omega), ek k g H, z]
      simp (disch := decide) only [eqF, reduceIte]
theorem J_htells {S : SS} {k h A : HH} {O : Int → List CL} {p q x : Int} (P : JH S k h A O p q) (hk : 0 ≤ A 194 p ∧ A 194 p ≤ 6) (hc : A 193 71 ≤ 6) : JJ S k h A O 6 (xh2_tells S h q x) (fun g => m_haterTells g p x) := by
  unfold xh2_tells m_haterTells
  refine (JJ.add (c := 5 + 0) (fx := fun S1 h1 => (d_spits S1 h1 q x).bind fun q3 => ckX S1 q3.2.2 <| some (q3.1 * 2, q3.2.1, q3.2.2)) (fm := fun g => (m_spitsAct g p x).bind fun q2 => some (q2.1 * 2, q2.2)) P (by omega) (by omega) (fun S1 h1 A1 P1 a1 o1 => ?_)).cm (by omega) (fun k g H => rfl)
  exact JJ.bind (fx2 := fun v S h => some (v * 2, h, S)) (fm2 := fun v g => some (v * 2, g)) P1 (J_spits P1 (by rw [o1 194 (by omega) (by omega)]; exact hk) (by omega)) (fun v S2 h2 A2 P2 _ o2 => JJ.ret P2 (fun _ _ _ => rfl))
theorem J_tells {S : SS} {k h A : HH} {O : Int → List CL} {p q x : Int} (P : JH S k h A O p q) (hk : 0 ≤ A 194 p ∧ A 194 p ≤ 6) (hc : A 193 71 = 0) : JJ S k h A O 12 (d_tells S h q x) (fun g => m_tellsAct g p x) := by
  obtain ⟨q1, q2, q3, q4, q5⟩ := P.q
  have hp := P.2.2.1
  unfold d_tells
  rw [q1]
  have hd : A 194 p = 0 ∨ A 194 p = 1 ∨ A 194 p = 2 ∨ A 194 p = 3 ∨ A 194 p = 4 ∨ A 194 p = 5 ∨ A 194 p = 6 := by omega
  have ek : ∀ k g, MR k g A → ww (g 194 p) = A 194 p := fun k g H => by rw [H.r194, wwP (by omega)]
  have base : ∀ fm, (∀ k g, MR k g A → fm g = m_haterTells g p x) → JJ S k h A O 12 (xh2_tells S h q x) fm := fun fm e => (J_htells P hk (by omega)).cm (by omega) e
  have four : (A 194 p = 3 ∨ A 194 p = 6) → ∀ fm, (∀ k g, MR k g A → fm g = (m_body g 40).bind fun q1 => (m_haterTells q1 p x).bind fun q2 => (m_spitsAct q2.2 p 1).bind fun q3 => some (q2.1 + q3.1, q3.2)) → JJ S k h A O 12 (xh4_tells S h q x) fm := fun h36 fm e => by
    unfold xh4_tells
    refine (JJ.add (c := 6 + (5 + 0)) (fx := fun S1 h1 => (xh2_tells S1 h1 q x).bind fun q3 => ckX S1 q3.2.2 <| ckK4 q3.2.2 q <| (d_spits q3.2.2 q3.2.1 q 1).bind fun q5 => ckX q3.2.2 q5.2.2 <| some (q3.1 + q5.1, q5.2.1, q5.2.2)) (fm := fun g => (m_haterTells g p x).bind fun q2 => (m_spitsAct q2.2 p 1).bind fun q3 => some (q2.1 + q3.1, q3.2)) P (by omega) (by omega) (fun S1 h1 A1 P1 a1 o1 => ?_)).cm (by omega) e
    have k1 : A1 194 p = A 194 p := by rw [o1 194 (by omega) (by omega)]
    refine JJ.bind (fx2 := fun v S h => ckK4 S q <| (d_spits S h q 1).bind fun q5 => ckX S q5.2.2 <| some (v + q5.1, q5.2.1, q5.2.2)) (fm2 := fun v g => (m_spitsAct g p 1).bind fun q6 => some (v + q6.1, q6.2)) P1 (J_htells P1 (by rw [k1]; exact hk) (by omega)) (fun v S2 h2 A2 P2 a2 o2 => ?_)
    have k2 : A2 194 p = A 194 p := by rw [o2 194 (by omega) (by omega), k1]
    show JJ S2 k h2 A2 O (5 + 0) (ckK4 S2 q _) _
    unfold ckK4
    rw [if_pos (by
      rw [P2.q.1, k2]
      rcases h36 with z | z <;> rw [z]
      · exact .inl rfl
      · exact .inr rfl)]
    exact JJ.bind (fx2 := fun w S h => some (v + w, h, S)) (fm2 := fun w g => some (v + w, g)) P2 (J_spits P2 (by rw [k2]; exact hk) (by omega)) (fun w S3 h3 A3 P3 _ _ => JJ.ret P3 (fun _ _ _ => rfl))
  rcases hd with z | z | z | z | z | z | z <;> rw [z]
  · refine base _ (fun k g H => ?_)
    unfold m_tellsAct
    rw [wwP (by omega), ckP (by omega), ek k g H, z]
    simp (disch := decide) only [eqF, reduceIte, bid]
  · refine base _ (fun k g H => ?_)
    unfold m_tellsAct
    rw [wwP (by omega), ckP (by omega), ek k g H, z]
    simp (disch := decide) only [eqF, reduceIte, bid]
  · refine base _ (fun k g H => ?_)
    unfold m_tellsAct
    rw [wwP (by omega), ckP (by omega), ek k g H, z]
    simp (disch := decide) only [eqF, reduceIte, bid]
  · refine four (.inl z) _ (fun k g H => ?_)
    unfold m_tellsAct
    rw [wwP (by omega), ckP (by omega), ek k g H, z]
    simp (disch := decide) only [eqF, reduceIte]
  · refine base _ (fun k g H => ?_)
    unfold m_tellsAct
    rw [wwP (by omega), ckP (by omega), ek k g H, z]
    simp (disch := decide) only [eqF, reduceIte, bid]
  · show JJ S k h A O 12 (xh0_tells S h q x) _
    unfold xh0_tells
    refine (JJ.add (c := 6 + 0) (fx := fun S1 h1 => (xh2_tells S1 h1 q (x - (h1 q 1))).bind fun q3 => ckX S1 q3.2.2 <| some (q3.1, q3.2.1, q3.2.2)) (fm := fun g => (m_haterTells g p (x - p)).bind fun q2 => some (q2.1, q2.2)) P (by omega) (by omega) (fun S1 h1 A1 P1 a1 o1 => ?_)).cm (by omega) (fun k g H => ?_)
    · rw [P1.q.2.1]
      exact JJ.bind (fx2 := fun v S h => some (v, h, S)) (fm2 := fun v g => some (v, g)) P1 (J_htells P1 (by rw [o1 194 (by omega) (by omega)]; exact hk) (by omega)) (fun v S2 h2 A2 P2 _ _ => JJ.ret P2 (fun _ _ _ => rfl))
    · unfold m_tellsAct
      rw [wwP (by omega), ckP (by omega), ek k g H, z]
      simp (disch := decide) only [eqF, reduceIte, bid]
  · refine four (.inr z) _ (fun k g H => ?_)
    unfold m_tellsAct
    rw [wwP (by omega), ckP (by omega), ek k g H, z]
    simp (disch := decide) only [eqF, reduceIte]
theorem X_clear {S : SS} {k h A : HH} {O : Int → List CL} (H : XR S k h A O) : ∃ h', tr_clear S h = some h' ∧ XR S k h' (u2 A 193 71 0) O ∧ ∀ c, ¬ (c = 151 ∨ S.1 c (-1) = 27) → ∀ j, h' c j = h c j := by
  have T := H.2.2.2.1
  obtain ⟨t1, t2, t3, t4, t5, t6, tz, t7⟩ := T
  have off : ∀ c j, ¬ tapeC c j → u2 A 193 71 0 c j = A c j := fun c j q => by
    unfold tapeC at q
    simp (disch := omega) only [u2S, u2N, u2T]
  have mk : ∀ h', (∀ c j, (148 ≤ c ∧ c ≤ 149) ∨ (165 ≤ c ∧ c ≤ 174) → h' c j = h c j) → h' 151 2 = 0 → h' 151 1 = h 151 1 → XT S h' (u2 A 193 71 0) := fun h' e e2 e1 => by
    unfold XT
    rw [u2N (f := A) (by omega), u2S, e 148 1 (by omega), e1]
    refine ⟨t1, t2, fun i i0 i1 => by rw [e 149 i (by omega), u2N (f := A) (by omega)]; exact t3 i i0 i1, fun t p q => ?_, e2, by omega, fun j p q => by rw [e 165 j (by omega)]; exact tz j p q, ?_⟩
    · rw [u2N (f := A) (by omega), u2N (f := A) (by omega), e 166 t (by omega), e 167 t (by omega)]
      obtain ⟨g1, g2, g3, g4, g5, g6⟩ := t4 t p q
      exact ⟨g1, g2, g3, g4, g5, fun i x y => by rw [e (169 + t) i (by omega), u2N (f := A) (by omega)]; exact g6 i x y⟩
    · rcases t7 with ⟨g1, g2⟩ | ⟨g1, g2, g3, g4, g5, g6, g7⟩
      · exact .inl ⟨g1, rfl⟩
      · exact .inr ⟨g1, g2, g3, g4, g5, by omega, fun i i0 i1 => by omega⟩
  unfold tr_clear
  rcases t7 with ⟨g1, g2⟩ | ⟨g1, g2, g3, g4, g5, g6, g7⟩
  · rw [if_pos g1, if_pos (by omega)]
    refine ⟨_, rfl, H.tape SXt.refl (fun c j q1 q2 => ?_) (fun c j q => ?_) off (mk _ (fun c j q => ?_) ?_ ?_), fun c q j => ?_⟩
    · unfold tr_clear0; simp (disch := omega) only [u2S, u2N, u2T]
    · have := isHb_ge q
      unfold tr_clear0; simp (disch := omega) only [u2S, u2N, u2T]
    · unfold tr_clear0; simp (disch := omega) only [u2S, u2N, u2T]
    · unfold tr_clear0; simp (disch := omega) only [u2S, u2N, u2T]
    · unfold tr_clear0; simp (disch := omega) only [u2S, u2N, u2T]
    · unfold tr_clear0; simp (disch := omega) only [u2S, u2N, u2T]
  · rw [if_neg (by omega), if_pos ⟨g1, by omega, g3, g4, by omega, by omega, by omega⟩]
    generalize hR : h 151 1 - 1 = R at *
    refine ⟨_, rfl, H.tape SXt.refl (fun c j q1 q2 => ?_) (fun c j q => ?_) off (mk _ (fun c j q => ?_) ?_ ?_), fun c q j => ?_⟩
    · unfold tr_clear0; simp (disch := omega) only [u2S, u2N, u2T, flAN]
    · have := isHb_ge q
      have : c ≠ R := fun z => isHb_k q (by rw [z]; exact g4)
      unfold tr_clear0; simp (disch := omega) only [u2S, u2N, u2T, flAN]
    · unfold tr_clear0; simp (disch := omega) only [u2S, u2N, u2T, flAN]
    · unfold tr_clear0; simp (disch := omega) only [u2S, u2N, u2T, flAN]
    · unfold tr_clear0; simp (disch := omega) only [u2S, u2N, u2T, flAN]
    · have : c ≠ R := fun z => q (.inr (by rw [z]; exact g4))
      unfold tr_clear0; simp (disch := omega) only [u2S, u2N, u2T, flAN]
theorem act_off {A : HH} : ∀ i j, ¬ (i = 193 ∧ j = 71) → u2 A 193 71 0 i j = A i j := fun i j z => u2N (by omega)
theorem st_act {S : SS} {h : HH} {a b c : Int} (F : Fx S) (I : Inv h S) (ha : -2147483648 ≤ a ∧ a ≤ 2147483647) (hb : -2147483648 ≤ b ∧ b ≤ 2147483647) : ∃ r, ((x_act S h a b c).bind fun q1 => ckX S q1.2.2 <| (m_act q1.2.1 a b c).bind fun q3 => if ww q1.1 = ww q3.1 then some (q3.2, q1.2.2) else none) = some r ∧ Fx r.2 ∧ Inv r.1 r.2 := by
  obtain ⟨A, O, hA, hX, hM⟩ := I
  have W := hA.2.2.1
  have n0 := W.1
  obtain ⟨h1, e1, X1, f1⟩ := X_clear hX
  have n1 : h1 1 4 = A 193 0 := by
    have := X1.2.1.1.2.2
    rw [u2N (by omega)] at this
    exact this
  have A1 : AOK (u2 A 193 71 0) := hA.tape fun c j q => by
    unfold tapeC at q
    exact u2N (by omega)
  have hc0 : u2 A 193 71 0 193 71 = 0 := u2S
  have none' : x_act S h a b c = some (0, h1, S) → (∀ k g, MR k g A → ∃ g', m_act g a b c = some (0, g') ∧ MR k g' (u2 A 193 71 0)) → ∃ r, ((x_act S h a b c).bind fun q1 => ckX S q1.2.2 <| (m_act q1.2.1 a b c).bind fun q3 => if ww q1.1 = ww q3.1 then some (q3.2, q1.2.2) else none) = some r ∧ Fx r.2 ∧ Inv r.1 r.2 := fun e2 e3 => by
    rw [e2, Option.bind_some]
    show ∃ r, ckX S S _ = some r ∧ _
    rw [ckX_ok SXt.refl]
    exact glueW (m := fun g => m_act g a b c) (a := 0) (b := 0) F A1 X1 hM (fun k g H => e3 k g H) rfl
  have some' : ∀ d fx fm, JJ S h h1 (u2 A 193 71 0) O d fx fm → d ≤ 12 → x_act S h a b c = fx → (∀ k g, MR k g A → m_act g a b c = fm (u2 g 193 71 0)) → ∃ r, ((x_act S h a b c).bind fun q1 => ckX S q1.2.2 <| (m_act q1.2.1 a b c).bind fun q3 => if ww q1.1 = ww q3.1 then some (q3.2, q1.2.2) else none) = some r ∧ Fx r.2 ∧ Inv r.1 r.2 := fun d fx fm J hd e2 e3 => by
    obtain ⟨v, A', h', S', e4, x4, X4, m4, o4, c4, c5, f4⟩ := J
    rw [e2, e4, Option.bind_some]
    show ∃ r, ckX S S' _ = some r ∧ _
    rw [ckX_ok x4]
    exact glueW (S' := S') (m := fun g => m_act g a b c) (a := v) (b := v) (Fx_x x4 F) (A1.tape fun i j q => o4 i j (by unfold tapeC at q; omega)) X4 hM (fun k g H => by
      show ∃ h', m_act g a b c = _ ∧ _
      rw [e3 k g H]
      exact m4 k _ (H.w (by omega))) rfl
  have mh : ∀ k g, MR k g A → u2 g 193 71 0 193 0 = A 193 0 := fun k g H => by rw [u2N (by omega), H.s0]
  by_cases c1 : 0 ≤ a ∧ a < A 193 0
  · have P : JH S h h1 (u2 A 193 71 0) O a (h1 2 a - 1) := ⟨F.1, X1, by rw [u2N (by omega)]; exact c1, rfl⟩
    have hk : 0 ≤ u2 A 193 71 0 194 a ∧ u2 A 193 71 0 194 a ≤ 6 := by
      rw [u2N (by omega)]
      exact W.2.2.2.2.1 a c1.1 c1.2
    have g1 := (X1.2.1.2.2.2.2.1 a c1.1 (by rw [u2N (by omega)]; exact c1.2)).1
    have g1 : isHb S (h1 2 a - 1) = true := g1
    have ex : ∀ y, x_act S h a b c = y ↔ (if b = 0 then ((d_sings S h1 (h1 2 a - 1) c).bind fun q4 => ckX S q4.2.2 <| some (q4.1, q4.2.1, q4.2.2)) else if b = 1 then ((d_spits S h1 (h1 2 a - 1) c).bind fun q4 => ckX S q4.2.2 <| some (q4.1, q4.2.1, q4.2.2)) else if b = 2 then ((d_tells S h1 (h1 2 a - 1) c).bind fun q4 => ckX S q4.2.2 <| some (q4.1, q4.2.1, q4.2.2)) else some (0, h1, S)) = y := fun y => by
      unfold x_act
      rw [e1, Option.bind_some, if_neg (by rw [ww_hasT (by omega)]; decide), wwP ha, ckP (by omega), ckhP g1, wwP hb]
    have em : ∀ k g, MR k g A → m_act g a b c = (if ww (m_in b 0 2) = 0 then some (0, u2 g 193 71 0) else if ww b = 0 then ((m_singsAct (u2 g 193 71 0) a c).bind fun q1 => some (q1.1, q1.2)) else if ww b = 1 then ((m_spitsAct (u2 g 193 71 0) a c).bind fun q2 => some (q2.1, q2.2)) else ((m_tellsAct (u2 g 193 71 0) a c).bind fun q3 => some (q3.1, q3.2))) := fun k g H => by
      unfold m_act m_isHater
      rw [mh k g H, if_neg (by rw [m_in0 (by omega)]; decide)]
    by_cases c2 : b = 0
    · subst c2
      refine some' (2 + 0) _ (fun g => m_singsAct g a c) ((JJ.bind (fx2 := fun v S h => some (v, h, S)) (fm2 := fun v g => some (v, g)) P (J_sings (x := c) P hk (by omega)) (fun v S2 h2 A2 P2 _ _ => JJ.ret P2 (fun _ _ _ => rfl))).cm (Int.le_refl _) (fun _ _ _ => (bid _).symm)) (by omega) ((ex _).2 (by rw [if_pos rfl])) (fun k g H => ?_)
      rw [em k g H, if_neg (by rw [m_in0 (by omega)]; decide), if_pos (by decide), bid]
    · by_cases c3 : b = 1
      · subst c3
        refine some' (5 + 0) _ (fun g => m_spitsAct g a c) ((JJ.bind (fx2 := fun v S h => some (v, h, S)) (fm2 := fun v g => some (v, g)) P (J_spits (x := c) P hk (by omega)) (fun v S2 h2 A2 P2 _ _ => JJ.ret P2 (fun _ _ _ => rfl))).cm (Int.le_refl _) (fun _ _ _ => (bid _).symm)) (by omega) ((ex _).2 (by rw [if_neg c2, if_pos rfl])) (fun k g H => ?_)
        rw [em k g H, if_neg (by rw [m_in0 (by omega)]; decide), if_neg (by decide), if_pos (by decide), bid]
      · by_cases c4 : b = 2
        · subst c4
          refine some' (12 + 0) _ (fun g => m_tellsAct g a c) ((JJ.bind (fx2 := fun v S h => some (v, h, S)) (fm2 := fun v g => some (v, g)) P (J_tells (x := c) P hk hc0) (fun v S2 h2 A2 P2 _ _ => JJ.ret P2 (fun _ _ _ => rfl))).cm (Int.le_refl _) (fun _ _ _ => (bid _).symm)) (by omega) ((ex _).2 (by rw [if_neg c2, if_neg c3, if_pos rfl])) (fun k g H => ?_)
          rw [em k g H, if_neg (by rw [m_in0 (by omega)]; decide), if_neg (by decide), if_neg (by decide), bid]
        · refine none' ((ex _).2 (by rw [if_neg c2, if_neg c3, if_neg c4])) (fun k g H => ⟨_, ?_, H.w (by omega)⟩)
          rw [em k g H, if_pos (by rw [m_in1 (by omega)])]
  · refine none' ?_ (fun k g H => ⟨_, ?_, H.w (by omega)⟩)
    · unfold x_act
      rw [e1, Option.bind_some, if_pos (by rw [ww_hasF (by omega)])]
    · unfold m_act m_isHater
      rw [mh k g H, if_pos (by rw [m_in1 (by omega)])]
