/-- what the class finds the ring with: the weights, who is present, the best -/
theorem X_ringsetup {S : SS} {k h A : HH} {O : Int → List CL} (F : 243 ≤ S.2) (hA : AOK A) (hX : XR S k h A O) : ∃ h1 P, x_weigh S h = some h1 ∧ dpF h1 h ∧ (∀ q u, 0 ≤ q → 0 ≤ u → u < 5 → q < A 193 0 → h1 (153 + q) u = WA A O q u) ∧ xw_present h1 1 = some P ∧ (0 ≤ P ∧ P < 64) ∧ (∀ q, 0 ≤ q → q < 6 → (okA A q = true ↔ m_has P q = 1)) ∧ XC S h1 1 A ∧ ∀ j, 0 ≤ j → j < 64 → h1 165 j = 0 := by
  have W := hA.2.2.1
  have hO := hX.OM W
  obtain ⟨h1, e1, f1, w1⟩ := X_weigh hX.2.1 (W.wo (by omega)) (by omega) hO (hX.OX W)
  have C1 : XC S h1 1 A := hX.2.1.cg (fun c j q => f1 c j (by rcases q with q | q; omega; have := isHb_ge q; omega)) (fun _ _ _ => rfl)
  obtain ⟨P, e2, hP, hok⟩ := X_present C1
  exact ⟨h1, P, e1, f1, w1, e2, hP, hok, C1, fun j a b => by rw [f1 _ _ (by omega)]; exact hX.2.2.2.1.2.2.2.2.2.2.1 j a b⟩
theorem gl_len {ok : Int → Bool} {W : Int → Int → Int} : ∀ (d : Nat) (u : Int), (gl ok W d u).length = d
  | 0, _ => rfl
  | d + 1, u => by rw [gl, List.length_cons, gl_len d]
theorem gl_b {ok : Int → Bool} {W : Int → Int → Int} : ∀ (d : Nat) (u : Int) (i : Nat), 0 ≤ (gl ok W d u).getD i 0 ∧ (gl ok W d u).getD i 0 ≤ 6
  | 0, _, i => by simp [gl]
  | d + 1, u, i => by
    rw [gl]
    cases i with
    | zero => exact gd_b
    | succ i => exact gl_b d _ i
theorem st_ring {S : SS} {h : HH} {a : Int} (F : Fx S) (I : Inv h S) (ha : -2147483648 ≤ a ∧ a ≤ 2147483647) : ∃ r, ((x_ring S h a).bind fun q => (m_ring q.2 a).bind fun q1 => if ww q.1 = ww q1.1 then some (q1.2, S) else none) = some r ∧ Fx r.2 ∧ Inv r.1 r.2 := by
  obtain ⟨A, O, hA, hX, hM⟩ := I
  have W := hA.2.2.1
  have n0 := W.1
  have hO := hX.OM W
  obtain ⟨h1, P, e1, f1, w1, e2, hP, hok, C1, z1⟩ := X_ringsetup F.1 hA hX
  have hWB := WA_B hO (W.wo (by omega))
  have hw : ∀ p t, 0 ≤ p → p < 6 → okA A p = true → 0 ≤ t → t < 5 → h1 (153 + p) t = WA A O p t := fun p t p0 p6 ok t0 t5 => by
    rw [okA, Bool.and_eq_true, decide_eq_true_eq] at ok
    exact w1 p t p0 t0 t5 ok.1
  obtain ⟨h2, e3, f2, b2⟩ := X_fill hP hok hWB hw z1
  have bb := BB_b hWB 5 0 (by omega)
  have X2 : XR S h h2 A O := hX.scr (fun c j q => by rw [f2 c j (by omega), f1 c j (by omega)])
  have fin : ∀ b, x_ring S h a = some (b, h2) → (∀ k g B, MR k g A → ∀ g', m_layBest g = some g' → MR k g' B → dB B A → 1000000 * B 193 36 + B 193 37 = BB (okA A) (WA A O) 5 0 → (0 ≤ B 193 36 ∧ B 193 36 ≤ 5) → (0 ≤ B 193 37 ∧ B 193 37 ≤ 15000) → (∀ i : Nat, i < 5 → B 215 i = (gl (okA A) (WA A O) 5 0).getD i 0) → m_ring g a = some (b, g')) → ∃ r, ((x_ring S h a).bind fun q => (m_ring q.2 a).bind fun q1 => if ww q.1 = ww q1.1 then some (q1.2, S) else none) = some r ∧ Fx r.2 ∧ Inv r.1 r.2 := fun b ex em => by
    rw [ex]
    refine glueS (m := fun g => m_ring g a) (a := b) (b := b) F hA X2 hM (fun k g H => ?_) rfl
    obtain ⟨g', B, m1, m2, m3, m4, m5, m6, m7⟩ := M_layBest (k := k) (h := g) hO (W.wo (by omega)) (by omega) H
    exact ⟨g', B, em k g B H g' m1 m2 m3 m4 m5 m6 m7, m2, fun c j q => m3 c j (by unfold scC at q; omega)⟩
  by_cases c0 : a = 0
  · subst c0
    refine fin (zdiv (BB (okA A) (WA A O) 5 0) 1000000) ?_ (fun k g B H g' m1 m2 m3 m4 m5 m6 m7 => ?_)
    · unfold x_ring; simp (disch := omega) only [reduceIte, ltT, ltF, eqT, eqF, leT, leF, wwP, ckP, ckzP, ckbP, u2S, u2N, u2T, ↓Option.bind_some, inB_T, inB_F, Bool.false_eq_true, m_in0, m_in1, e1, e2, e3]
    · rw [zdivP (by omega), show BB (okA A) (WA A O) 5 0 / 1000000 = B 193 36 by omega]
      unfold m_ring; simp (disch := omega) only [reduceIte, ltT, ltF, eqT, eqF, leT, leF, wwP, ckP, ckzP, ckbP, u2S, u2N, u2T, ↓Option.bind_some, inB_T, inB_F, Bool.false_eq_true, m_in0, m_in1, m1, m2.s36]
  · by_cases c1 : a = 1
    · subst c1
      refine fin (zrem (BB (okA A) (WA A O) 5 0) 1000000) ?_ (fun k g B H g' m1 m2 m3 m4 m5 m6 m7 => ?_)
      · unfold x_ring; simp (disch := omega) only [reduceIte, ltT, ltF, eqT, eqF, leT, leF, wwP, ckP, ckzP, ckbP, u2S, u2N, u2T, ↓Option.bind_some, inB_T, inB_F, Bool.false_eq_true, m_in0, m_in1, e1, e2, e3]
      · rw [zremP (by omega), show BB (okA A) (WA A O) 5 0 % 1000000 = B 193 37 by omega]
        unfold m_ring; simp (disch := omega) only [reduceIte, ltT, ltF, eqT, eqF, leT, leF, wwP, ckP, ckzP, ckbP, u2S, u2N, u2T, ↓Option.bind_some, inB_T, inB_F, Bool.false_eq_true, m_in0, m_in1, m1, m2.s37]
    · by_cases c2 : 10 ≤ a ∧ a ≤ 14
      · have r := X_ringAt_L (t := a - 10) (h := h2) hP hok hWB (fun p t p0 p6 ok t0 t5 => by rw [f2 _ _ (by omega)]; exact hw p t p0 p6 ok t0 t5) b2 (by omega) 5 FU 0 (-5) 0 rfl (by omega) (by decide) (by omega)
        rw [if_neg (by omega), show a - 10 - 0 = a - 10 by omega] at r
        have r2 : x_ringAt h2 P (a - 10) = some (n6 ((gl (okA A) (WA A O) 5 0).getD (a - 10).toNat 0)) := r
        have gb := gl_b (ok := okA A) (W := WA A O) 5 0 (a - 10).toNat
        refine fin _ (show x_ring S h a = some (n6 ((gl (okA A) (WA A O) 5 0).getD (a - 10).toNat 0), h2) from ?_) (fun k g B H g' m1 m2 m3 m4 m5 m6 m7 => ?_)
        · unfold x_ring; simp (disch := omega) only [reduceIte, ltT, ltF, eqT, eqF, leT, leF, wwP, ckP, ckzP, ckbP, u2S, u2N, u2T, ↓Option.bind_some, inB_T, inB_F, Bool.false_eq_true, m_in0, m_in1, e1, e2, e3, r2, ww_treeT]
        · have m8 := m7 (a - 10).toNat (by omega)
          rw [show (((a - 10).toNat : Nat) : Int) = a - 10 by omega] at m8
          have m9 : g' 215 (a - 10) = (gl (okA A) (WA A O) 5 0).getD (a - 10).toNat 0 := by rw [m2.r215, m8]
          generalize (gl (okA A) (WA A O) 5 0).getD (a - 10).toNat 0 = q at m9 gb ⊢
          unfold n6
          by_cases c6 : q = 6
          · rw [if_pos c6]
            unfold m_ring; simp (disch := omega) only [reduceIte, ltT, ltF, eqT, eqF, leT, leF, wwP, ckP, ckzP, ckbP, u2S, u2N, u2T, ↓Option.bind_some, inB_T, inB_F, Bool.false_eq_true, m_in0, m_in1, m1, m9]
          · rw [if_neg c6]
            unfold m_ring; simp (disch := omega) only [reduceIte, ltT, ltF, eqT, eqF, leT, leF, wwP, ckP, ckzP, ckbP, u2S, u2N, u2T, ↓Option.bind_some, inB_T, inB_F, Bool.false_eq_true, m_in0, m_in1, m1, m9]
      · have ex : x_ring S h a = some (-10001, h) := by
          by_cases c3 : a < 10
          · unfold x_ring; simp (disch := omega) only [reduceIte, ltT, ltF, eqT, eqF, leT, leF, wwP, ckP, ckzP, ckbP, u2S, u2N, u2T, ↓Option.bind_some, inB_T, inB_F, Bool.false_eq_true, m_in0, m_in1]
          · unfold x_ring; simp (disch := omega) only [reduceIte, ltT, ltF, eqT, eqF, leT, leF, wwP, ckP, ckzP, ckbP, u2S, u2N, u2T, ↓Option.bind_some, inB_T, inB_F, Bool.false_eq_true, m_in0, m_in1, ww_treeF]
        rw [ex]
        refine glueW (m := fun g => m_ring g a) (a := -10001) (b := -10001) F hA hX hM (fun k g H => ⟨g, ?_, H⟩) rfl
        show m_ring g a = _
        unfold m_ring; simp (disch := omega) only [reduceIte, ltT, ltF, eqT, eqF, leT, leF, wwP, ckP, ckzP, ckbP, u2S, u2N, u2T, ↓Option.bind_some, inB_T, inB_F, Bool.false_eq_true, m_in0, m_in1]
