theorem M_where_L {k h A : HH} {p : Int} (H : MR k h A) (hp : 0 ≤ p ∧ p < 6) (hl : ∀ i, 0 ≤ i → i < 5 → -5 ≤ A 199 i ∧ A 199 i < 6) : ∀ (d n : Nat) (x : Int), x + d = 5 → 0 ≤ x → d < n → (∃ u, x ≤ u ∧ u < 5 ∧ A 199 u = p ∧ (∀ i, x ≤ i → i < u → A 199 i ≠ p) ∧ m_whereLeads_L2 h p n x = some u) ∨ ((∀ i, x ≤ i → i < 5 → A 199 i ≠ p) ∧ m_whereLeads_L2 h p n x = some (-5)) := by
  intro d
  induction d with
  | zero =>
    intro n x e h0 hn
    obtain ⟨n, rfl⟩ : ∃ m, n = m + 1 := ⟨n - 1, by omega⟩
    rw [m_whereLeads_L2]
    right
    simp (disch := omega) only [reduceIte, ltT, ltF, eqT, eqF, leT, leF, wwP, ckP, ckzP, ckbP, u2S, u2N, u2T, ↓Option.bind_some, inB_T, inB_F, Bool.false_eq_true, m_in0, m_in1]
    exact ⟨fun i _ _ => by omega, trivial⟩
  | succ d ih =>
    intro n x e h0 hn
    obtain ⟨n, rfl⟩ : ∃ m, n = m + 1 := ⟨n - 1, by omega⟩
    rw [m_whereLeads_L2]
    have l := hl x h0 (by omega)
    by_cases z : A 199 x = p
    · left
      refine ⟨x, by omega, by omega, z, fun i _ _ => by omega, ?_⟩
      simp (disch := omega) only [reduceIte, ltT, ltF, eqT, eqF, leT, leF, wwP, ckP, ckzP, ckbP, u2S, u2N, u2T, ↓Option.bind_some, inB_T, inB_F, Bool.false_eq_true, m_in0, m_in1, H.r199, z]
    · simp (disch := omega) only [reduceIte, ltT, ltF, eqT, eqF, leT, leF, wwP, ckP, ckzP, ckbP, u2S, u2N, u2T, ↓Option.bind_some, inB_T, inB_F, Bool.false_eq_true, m_in0, m_in1, H.r199, z]
      rcases ih n (x + 1) (by omega) (by omega) (by omega) with ⟨u, g1, g2, g3, g4, g5⟩ | ⟨g1, g2⟩
      · exact .inl ⟨u, by omega, g2, g3, fun i q1 q2 => by
          by_cases y : i = x
          · subst y; exact z
          · exact g4 i (by omega) q2, g5⟩
      · exact .inr ⟨fun i q1 q2 => by
          by_cases y : i = x
          · subst y; exact z
          · exact g1 i (by omega) q2, g2⟩
/-- where one leads: what both sides find -/
theorem X_where {A : HH} {w p : Int} {h : HH} (hp : 0 ≤ p ∧ p < 6) (hl : ∀ i, 0 ≤ i → i < 5 → -5 ≤ A 199 i ∧ A 199 i < 6) (hX : ∀ t, 0 ≤ t → t < 5 → h (w + 18) t = A 199 t) : ∃ u, xw_treeOf h w p = some u ∧ ∀ k g, MR k g A → m_whereLeads g p = some u := by
  rcases X_treeOf (p := p) (by omega) hX hl with ⟨u, g1, g2, g3, g4, g5⟩ | ⟨g1, g2⟩
  · refine ⟨u, g5, fun k g H => ?_⟩
    unfold m_whereLeads
    rcases M_where_L H hp hl 5 FU 0 rfl (by omega) (by decide) with ⟨v, q1, q2, q3, q4, q5⟩ | ⟨q1, q2⟩
    · have : u = v := by
        rcases Int.lt_or_le u v with z | z
        · exact absurd g3 (q4 u g1 z)
        · rcases Int.lt_or_le v u with y | y
          · exact absurd q3 (g4 v q1 y)
          · omega
      rw [q5, this]
    · exact absurd g3 (q1 u g1 g2)
  · refine ⟨-5, g2, fun k g H => ?_⟩
    unfold m_whereLeads
    rcases M_where_L H hp hl 5 FU 0 rfl (by omega) (by decide) with ⟨v, q1, q2, q3, q4, q5⟩ | ⟨q1, q2⟩
    · exact absurd q3 (g1 v q1 q2)
    · exact q2
theorem st_of {S : SS} {h : HH} {a b : Int} (F : Fx S) (I : Inv h S) (ha : -2147483648 ≤ a ∧ a ≤ 2147483647) (hb : -2147483648 ≤ b ∧ b ≤ 2147483647) : ∃ r, ((x_of S h a b).bind fun q => (m_of q.2 a b).bind fun q1 => if ww q.1 = ww q1.1 then some (q1.2, S) else none) = some r ∧ Fx r.2 ∧ Inv r.1 r.2 := by
  obtain ⟨A, O, hA, hX, hM⟩ := I
  have W := hA.2.2.1
  have n0 := W.1
  have C := hX.2.1
  have n1 : h 1 4 = A 193 0 := C.1.2.2
  have hO := hX.OM W
  have hOX := hX.OX W
  have c27 := hA.1
  by_cases c1 : 0 ≤ a ∧ a < A 193 0
  · obtain ⟨g1, g2, g3, g4, g5⟩ := C.2.2.2.2.1 a c1.1 c1.2
    have g1 : isHb S (h 2 a - 1) = true := g1
    have g3 : h (h 2 a - 1) 0 = A 194 a := g3
    have g5 : h (h 2 a - 1) 2 = A 195 a := g5
    have g6 : h 3 a = m_has (A 193 1) a := C.2.2.2.2.2.1 a c1.1 c1.2
    have mh : ∀ k g, MR k g A → ww (m_isHater g a) = 1 := fun k g H => by unfold m_isHater; simp (disch := omega) only [reduceIte, ltT, ltF, eqT, eqF, leT, leF, wwP, ckP, ckzP, ckbP, u2S, u2N, u2T, ↓Option.bind_some, inB_T, inB_F, Bool.false_eq_true, m_in0, m_in1, H.s0]
    -- a call that changes nothing and answers v
    have key : ∀ v, x_of S h a b = some (v, h) → (∀ k g, MR k g A → m_of g a b = some (v, g)) → ∃ r, ((x_of S h a b).bind fun q => (m_of q.2 a b).bind fun q1 => if ww q.1 = ww q1.1 then some (q1.2, S) else none) = some r ∧ Fx r.2 ∧ Inv r.1 r.2 := fun v e1 e2 => by
      rw [e1]
      exact glueW (m := fun g => m_of g a b) (a := v) (b := v) F hA hX hM (fun k g H => ⟨g, e2 k g H, H⟩) rfl
    by_cases b0 : b = 0
    · refine key (A 194 a) ?_ (fun k g H => ?_)
      · unfold x_of; simp (disch := omega) only [reduceIte, ltT, ltF, eqT, eqF, leT, leF, wwP, ckP, ckzP, ckbP, u2S, u2N, u2T, ↓Option.bind_some, inB_T, inB_F, Bool.false_eq_true, m_in0, m_in1, ww_hasT, ckhP, g1, g3]
      · unfold m_of; simp (disch := omega) only [reduceIte, ltT, ltF, eqT, eqF, leT, leF, wwP, ckP, ckzP, ckbP, u2S, u2N, u2T, ↓Option.bind_some, inB_T, inB_F, Bool.false_eq_true, m_in0, m_in1, mh k g H, H.r194]
    by_cases b1 : b = 1
    · refine key (A 195 a) ?_ (fun k g H => ?_)
      · unfold x_of; simp (disch := omega) only [reduceIte, ltT, ltF, eqT, eqF, leT, leF, wwP, ckP, ckzP, ckbP, u2S, u2N, u2T, ↓Option.bind_some, inB_T, inB_F, Bool.false_eq_true, m_in0, m_in1, ww_hasT, ckhP, g1, g5]
      · unfold m_of; simp (disch := omega) only [reduceIte, ltT, ltF, eqT, eqF, leT, leF, wwP, ckP, ckzP, ckbP, u2S, u2N, u2T, ↓Option.bind_some, inB_T, inB_F, Bool.false_eq_true, m_in0, m_in1, mh k g H, H.r195]
    by_cases b2 : b = 2
    · refine key (m_has (A 193 1) a) ?_ (fun k g H => ?_)
      · have xb := x_bitP (@has_01 (A 193 1) a)
        unfold x_of; simp (disch := omega) only [reduceIte, ltT, ltF, eqT, eqF, leT, leF, wwP, ckP, ckzP, ckbP, u2S, u2N, u2T, ↓Option.bind_some, inB_T, inB_F, Bool.false_eq_true, m_in0, m_in1, ww_hasT, g6, xb]
      · unfold m_of
        rcases @has_01 (A 193 1) a with e | e <;> simp (disch := omega) only [reduceIte, ltT, ltF, eqT, eqF, leT, leF, wwP, ckP, ckzP, ckbP, u2S, u2N, u2T, ↓Option.bind_some, inB_T, inB_F, Bool.false_eq_true, m_in0, m_in1, mh k g H, H.s1, ww_has, e]
    by_cases b3 : b = 3
    · obtain ⟨u, e1, e2⟩ := X_where (A := A) (w := 1) (h := h) (p := a) (by omega) (lead_b W) C.2.2.2.2.2.2.2.2.2
      refine key u ?_ (fun k g H => ?_)
      · unfold x_of; simp (disch := omega) only [reduceIte, ltT, ltF, eqT, eqF, leT, leF, wwP, ckP, ckzP, ckbP, u2S, u2N, u2T, ↓Option.bind_some, inB_T, inB_F, Bool.false_eq_true, m_in0, m_in1, ww_hasT, e1]
      · have e3 := e2 k g H
        unfold m_of; simp (disch := omega) only [reduceIte, ltT, ltF, eqT, eqF, leT, leF, wwP, ckP, ckzP, ckbP, u2S, u2N, u2T, ↓Option.bind_some, inB_T, inB_F, Bool.false_eq_true, m_in0, m_in1, mh k g H, e3]
    have other : ∀ q r, zdiv b 10 = q → zrem b 10 = r → x_of S h a b = (x_ofTree S h a q r).bind fun q6 => some (q6.1, q6.2) := fun q r e1 e2 => by
      unfold x_of
      rw [e1, e2, if_neg (by rw [ww_hasT (by omega)]; decide)]
      simp (disch := omega) only [reduceIte, ltT, ltF, eqT, eqF, leT, leF, wwP, ckP, ckzP, ckbP, u2S, u2N, u2T, ↓Option.bind_some, inB_T, inB_F, Bool.false_eq_true, m_in0, m_in1]
    by_cases c2 : 10 ≤ b ∧ b ≤ 14
    · refine key (A 196 (5 * a + (b - 10))) ?_ (fun k g H => ?_)
      · rw [other 1 (b - 10) (by rw [zdivP (by omega)]; omega) (by rw [zremP (by omega)]; omega)]
        have e7 : h (5 + a) (b - 10) = A 196 (5 * a + (b - 10)) := C.2.2.2.2.2.2.1 a (b - 10) c1.1 c1.2 (by omega) (by omega)
        unfold x_ofTree; simp (disch := omega) only [reduceIte, ltT, ltF, eqT, eqF, leT, leF, wwP, ckP, ckzP, ckbP, u2S, u2N, u2T, ↓Option.bind_some, inB_T, inB_F, Bool.false_eq_true, m_in0, m_in1, ww_treeT, e7]
      · unfold m_of
        have : 5 * a + b - 10 = 5 * a + (b - 10) := by omega
        simp (disch := omega) only [reduceIte, ltT, ltF, eqT, eqF, leT, leF, wwP, ckP, ckzP, ckbP, u2S, u2N, u2T, ↓Option.bind_some, inB_T, inB_F, Bool.false_eq_true, m_in0, m_in1, mh k g H, H.r196, this]
    by_cases c3 : 20 ≤ b ∧ b ≤ 24
    · obtain ⟨h1, e1, f1⟩ := X_force (S := S) (h := h) (w := 1) (.inl rfl) C (W.wo (by omega)) (by omega) c1 (t := b - 20) (by omega) hO hOX
      have e2 : x_of S h a b = some (forceA A O a (b - 20), h1) := by
        rw [other 2 (b - 20) (by rw [zdivP (by omega)]; omega) (by rw [zremP (by omega)]; omega)]
        unfold x_ofTree; simp (disch := omega) only [reduceIte, ltT, ltF, eqT, eqF, leT, leF, wwP, ckP, ckzP, ckbP, u2S, u2N, u2T, ↓Option.bind_some, inB_T, inB_F, Bool.false_eq_true, m_in0, m_in1, ww_treeT, e1]
      rw [e2]
      refine glueW (m := fun g => m_of g a b) (a := forceA A O a (b - 20)) (b := forceA A O a (b - 20)) F hA (hX.scr (fun c j q => f1 c j (by omega))) hM (fun k g H => ?_) rfl
      obtain ⟨g1, e3, H1⟩ := M_force H (W.wo (by omega)) (by omega) c1 (t := b - 20) (by omega) hO
      refine ⟨g1, ?_, H1⟩
      show m_of g a b = _
      unfold m_of
      simp (disch := omega) only [reduceIte, ltT, ltF, eqT, eqF, leT, leF, wwP, ckP, ckzP, ckbP, u2S, u2N, u2T, ↓Option.bind_some, inB_T, inB_F, Bool.false_eq_true, m_in0, m_in1, mh k g H, e3]
    by_cases c4 : 30 ≤ b ∧ b ≤ 34
    · obtain ⟨h1, e1, f1⟩ := X_lasts (S := S) (h := h) C W c1 (t := b - 30) (by omega) hO hOX
      have e2 : x_of S h a b = some (lastsN O a (b - 30) 60 A 0, h1) := by
        rw [other 3 (b - 30) (by rw [zdivP (by omega)]; omega) (by rw [zremP (by omega)]; omega)]
        unfold x_ofTree; simp (disch := omega) only [reduceIte, ltT, ltF, eqT, eqF, leT, leF, wwP, ckP, ckzP, ckbP, u2S, u2N, u2T, ↓Option.bind_some, inB_T, inB_F, Bool.false_eq_true, m_in0, m_in1, ww_treeT, e1]
      rw [e2]
      refine glueS (m := fun g => m_of g a b) (a := lastsN O a (b - 30) 60 A 0) (b := lastsN O a (b - 30) 60 A 0) F hA (hX.scr (fun c j q => f1 c j (by omega))) hM (fun k g H => ?_) rfl
      obtain ⟨g1, A', e3, H1, s1⟩ := M_lasts H W c27 c1 (t := b - 30) (by omega) hO
      refine ⟨g1, A', ?_, H1, s1⟩
      show m_of g a b = _
      unfold m_of
      simp (disch := omega) only [reduceIte, ltT, ltF, eqT, eqF, leT, leF, wwP, ckP, ckzP, ckbP, u2S, u2N, u2T, ↓Option.bind_some, inB_T, inB_F, Bool.false_eq_true, m_in0, m_in1, mh k g H, e3]
    refine key (-10001) ?_ (fun k g H => ?_)
    · rcases Int.lt_or_le b 0 with d | d
      · have zd := zdivM (a := b) (b := 10) (by omega)
        rw [other _ (zrem b 10) zd rfl]
        unfold x_ofTree
        by_cases tr : ww (x_isTree (zrem b 10)) = 0
        · simp (disch := omega) only [reduceIte, ltT, ltF, eqT, eqF, leT, leF, wwP, ckP, ckzP, ckbP, u2S, u2N, u2T, ↓Option.bind_some, inB_T, inB_F, Bool.false_eq_true, m_in0, m_in1, tr]
        · rw [if_neg tr]
          simp (disch := omega) only [reduceIte, ltT, ltF, eqT, eqF, leT, leF, wwP, ckP, ckzP, ckbP, u2S, u2N, u2T, ↓Option.bind_some, inB_T, inB_F, Bool.false_eq_true, m_in0, m_in1]
      · rw [other (b / 10) (b % 10) (zdivP (by omega)) (zremP (by omega))]
        unfold x_ofTree
        by_cases c5 : b % 10 < 5
        · simp (disch := omega) only [reduceIte, ltT, ltF, eqT, eqF, leT, leF, wwP, ckP, ckzP, ckbP, u2S, u2N, u2T, ↓Option.bind_some, inB_T, inB_F, Bool.false_eq_true, m_in0, m_in1, ww_treeT]
        · simp (disch := omega) only [reduceIte, ltT, ltF, eqT, eqF, leT, leF, wwP, ckP, ckzP, ckbP, u2S, u2N, u2T, ↓Option.bind_some, inB_T, inB_F, Bool.false_eq_true, m_in0, m_in1, ww_treeF]
    · unfold m_of; simp (disch := omega) only [reduceIte, ltT, ltF, eqT, eqF, leT, leF, wwP, ckP, ckzP, ckbP, u2S, u2N, u2T, ↓Option.bind_some, inB_T, inB_F, Bool.false_eq_true, m_in0, m_in1, mh k g H]
  · have e1 : x_of S h a b = some (-10001, h) := by unfold x_of; simp (disch := omega) only [reduceIte, ltT, ltF, eqT, eqF, leT, leF, wwP, ckP, ckzP, ckbP, u2S, u2N, u2T, ↓Option.bind_some, inB_T, inB_F, Bool.false_eq_true, m_in0, m_in1, ww_hasF]
    rw [e1]
    exact glueW (m := fun g => m_of g a b) (a := -10001) (b := -10001) F hA hX hM (fun k g H => ⟨g, by show m_of g a b = _; unfold m_of m_isHater; simp (disch := omega) only [reduceIte, ltT, ltF, eqT, eqF, leT, leF, wwP, ckP, ckzP, ckbP, u2S, u2N, u2T, ↓Option.bind_some, inB_T, inB_F, Bool.false_eq_true, m_in0, m_in1, H.s0], H⟩) rfl
