/- see -/
def sSee (A : HH) (a b c d : Int) : Int × HH := if a = -1 then (0, u2 A 193 38 0) else if inB a 0 (A 193 0) then (if inB b 0 5 then (if inB c 0 21 then (if A 193 38 = 5 then (-4, A) else (A 193 38 + 1, u2 (u2 (u2 (u2 (u2 A 216 (A 193 38) a) 217 (A 193 38) b) 218 (A 193 38) c) 219 (A 193 38) d) 193 38 (A 193 38 + 1))) else (-2, A)) else (-1, A)) else (-1, A)
theorem M_see {k h A : HH} (H : MR k h A) (W : WOK 9999 (A 193 9) A) (L : LOK A) {a b c d : Int} (ha : -2147483648 ≤ a ∧ a ≤ 2147483647) (hb : -2147483648 ≤ b ∧ b ≤ 2147483647) (hc : -2147483648 ≤ c ∧ c ≤ 2147483647) (hd : d = 0 ∨ d = 1) : ∃ h', m_see h a b c d = some ((sSee A a b c d).1, h') ∧ MR k h' (sSee A a b c d).2 := by
  unfold sSee m_see m_isHater m_isTree
  have n0 := W.1
  have l0 := L.1
  by_cases c0 : a = -1
  · simp (disch := omega) only [reduceIte, ltT, ltF, eqT, eqF, leT, leF, wwP, ckP, ckzP, ckbP, u2S, u2N, u2T, ↓Option.bind_some, inB_T, inB_F, Bool.false_eq_true, m_in0, m_in1]
    exact ⟨_, rfl, H.w (by omega)⟩
  · by_cases c1 : 0 ≤ a ∧ a < A 193 0 <;> by_cases c2 : 0 ≤ b ∧ b < 5 <;> by_cases c3 : 0 ≤ c ∧ c < 21 <;> by_cases c4 : A 193 38 = 5 <;> simp (disch := omega) only [reduceIte, ltT, ltF, eqT, eqF, leT, leF, wwP, ckP, ckzP, ckbP, u2S, u2N, u2T, ↓Option.bind_some, inB_T, inB_F, Bool.false_eq_true, m_in0, m_in1, H.s0, H.s38]
    all_goals first | exact ⟨_, rfl, H⟩ | exact ⟨_, rfl, ((((H.w (by omega)).w (by omega)).w (by omega)).w (by omega)).w (by omega)⟩
theorem rlen_20 : rlen 20 = 5 := rfl
theorem rlen_27 : rlen 27 = 10 := rfl
theorem rlen_39 : rlen 39 = 8 := rfl
theorem X_see {S : SS} {k h A : HH} {O : Int → List CL} (H : XR S k h A O) (L : LOK A) {a b c d : Int} (ha : -2147483648 ≤ a ∧ a ≤ 2147483647) (hb : -2147483648 ≤ b ∧ b ≤ 2147483647) (hc : -2147483648 ≤ c ∧ c ≤ 2147483647) (hd : d = 0 ∨ d = 1) : ∃ h', x_see h a b c d = some ((sSee A a b c d).1, h') ∧ XR S k h' (sSee A a b c d).2 O := by
  have C := H.2.1
  obtain ⟨n0, n6, n1⟩ := C.1
  have n1 : h 1 4 = A 193 0 := n1
  have l0 := L.1
  obtain ⟨g1, g2, g3, g4, g5, g6⟩ := H.2.2.1
  have q1 : h 20 1 = A 193 38 := g1.2
  unfold sSee x_see xr_append
  rw [x_bitP hd, rlen_20]
  by_cases c0 : a = -1
  · simp (disch := omega) only [reduceIte, ltT, ltF, eqT, eqF, leT, leF, wwP, ckP, ckzP, ckbP, u2S, u2N, u2T, ↓Option.bind_some, inB_T, inB_F, Bool.false_eq_true, m_in0, m_in1]
    refine ⟨_, rfl, H.list (fun c j q => u2N (by omega)) (fun c j q => u2N (by unfold listC at q; omega)) ?_⟩
    refine ⟨⟨by simp (disch := omega) only [u2S, u2N, u2T]; omega, by simp (disch := omega) only [u2S, u2N, u2T]⟩, by simp (disch := omega) only [u2S, u2N, u2T]; exact g2, by simp (disch := omega) only [u2S, u2N, u2T]; exact g3, fun i p q => ?_, by simp (disch := omega) only [u2S, u2N, u2T]; intro i p q; (try simp (disch := omega) only [u2S, u2N, u2T]); exact g5 i p q, by simp (disch := omega) only [u2S, u2N, u2T]; intro i p q; (try simp (disch := omega) only [u2S, u2N, u2T]); exact g6 i p q⟩
    revert q; simp (disch := omega) only [u2S, u2N, u2T]; intro q; omega
  · by_cases c1 : 0 ≤ a ∧ a < A 193 0
    · by_cases c2 : 0 ≤ b ∧ b < 5
      · rcases tri c (lo := 0) (hi := 21) (by decide) with c3 | c3 | c3
        · simp (disch := omega) only [reduceIte, ltT, ltF, eqT, eqF, leT, leF, wwP, ckP, ckzP, ckbP, u2S, u2N, u2T, ↓Option.bind_some, inB_T, inB_F, Bool.false_eq_true, m_in0, m_in1, ww_hasT, ww_hasF, ww_treeT, ww_treeF, q1]
          exact ⟨_, rfl, H⟩
        · by_cases c4 : A 193 38 = 5
          · simp (disch := omega) only [reduceIte, ltT, ltF, eqT, eqF, leT, leF, wwP, ckP, ckzP, ckbP, u2S, u2N, u2T, ↓Option.bind_some, inB_T, inB_F, Bool.false_eq_true, m_in0, m_in1, ww_hasT, ww_hasF, ww_treeT, ww_treeF, q1]
            exact ⟨_, rfl, H⟩
          · simp (disch := omega) only [reduceIte, ltT, ltF, eqT, eqF, leT, leF, wwP, ckP, ckzP, ckbP, u2S, u2N, u2T, ↓Option.bind_some, inB_T, inB_F, Bool.false_eq_true, m_in0, m_in1, ww_hasT, ww_hasF, ww_treeT, ww_treeF, q1]
            refine ⟨_, rfl, H.list (fun c j q => by (try simp (disch := omega) only [u2S, u2N, u2T])) (fun c j q => by unfold listC at q; (try simp (disch := omega) only [u2S, u2N, u2T])) ?_⟩
            refine ⟨⟨by simp (disch := omega) only [u2S, u2N, u2T]; omega, by simp (disch := omega) only [u2S, u2N, u2T]⟩, by simp (disch := omega) only [u2S, u2N, u2T]; exact g2, by simp (disch := omega) only [u2S, u2N, u2T]; exact g3, fun i p q => ?_, by simp (disch := omega) only [u2S, u2N, u2T]; intro i p q; (try simp (disch := omega) only [u2S, u2N, u2T]); exact g5 i p q, by simp (disch := omega) only [u2S, u2N, u2T]; intro i p q; (try simp (disch := omega) only [u2S, u2N, u2T]); exact g6 i p q⟩
            revert q; simp (disch := omega) only [u2S, u2N, u2T]; intro q
            by_cases e : i = A 193 38
            · subst e; exact ⟨by simp (disch := omega) only [u2S, u2N, u2T], by simp (disch := omega) only [u2S, u2N, u2T], by simp (disch := omega) only [u2S, u2N, u2T], by simp (disch := omega) only [u2S, u2N, u2T]⟩
            · simp (disch := omega) only [u2S, u2N, u2T]; exact g4 i p (by omega)
        · simp (disch := omega) only [reduceIte, ltT, ltF, eqT, eqF, leT, leF, wwP, ckP, ckzP, ckbP, u2S, u2N, u2T, ↓Option.bind_some, inB_T, inB_F, Bool.false_eq_true, m_in0, m_in1, ww_hasT, ww_hasF, ww_treeT, ww_treeF, q1]
          exact ⟨_, rfl, H⟩
      · simp (disch := omega) only [reduceIte, ltT, ltF, eqT, eqF, leT, leF, wwP, ckP, ckzP, ckbP, u2S, u2N, u2T, ↓Option.bind_some, inB_T, inB_F, Bool.false_eq_true, m_in0, m_in1, ww_hasT, ww_hasF, ww_treeT, ww_treeF, q1]
        exact ⟨_, rfl, H⟩
    · simp (disch := omega) only [reduceIte, ltT, ltF, eqT, eqF, leT, leF, wwP, ckP, ckzP, ckbP, u2S, u2N, u2T, ↓Option.bind_some, inB_T, inB_F, Bool.false_eq_true, m_in0, m_in1, ww_hasT, ww_hasF, ww_treeT, ww_treeF, q1]
      exact ⟨_, rfl, H⟩
theorem A_see {A : HH} (H : AOK A) {a b c d : Int} (hd : d = 0 ∨ d = 1) : AOK (sSee A a b c d).2 := by
  unfold sSee
  obtain ⟨g1, g2, g3, g4, g5, g6, g7⟩ := H.2.2.2.1
  by_cases c0 : a = -1
  · simp (disch := omega) only [reduceIte, ltT, ltF, eqT, eqF, leT, leF, wwP, ckP, ckzP, ckbP, u2S, u2N, u2T, ↓Option.bind_some, inB_T, inB_F, Bool.false_eq_true, m_in0, m_in1]
    refine H.list (fun c j q => u2N (by unfold listC at q; omega)) ⟨by simp (disch := omega) only [u2S, u2N, u2T]; omega, by simp (disch := omega) only [u2S, u2N, u2T]; exact g2, by simp (disch := omega) only [u2S, u2N, u2T]; exact g3, fun i p q => ?_, by simp (disch := omega) only [u2S, u2N, u2T]; exact g5, by simp (disch := omega) only [u2S, u2N, u2T]; exact g6, by simp (disch := omega) only [u2S, u2N, u2T]; exact g7⟩
    revert q; simp (disch := omega) only [u2S, u2N, u2T]; intro q; omega
  · by_cases c1 : 0 ≤ a ∧ a < A 193 0 <;> by_cases c2 : 0 ≤ b ∧ b < 5 <;> by_cases c3 : 0 ≤ c ∧ c < 21 <;> by_cases c4 : A 193 38 = 5 <;> simp (disch := omega) only [reduceIte, ltT, ltF, eqT, eqF, leT, leF, wwP, ckP, ckzP, ckbP, u2S, u2N, u2T, ↓Option.bind_some, inB_T, inB_F, Bool.false_eq_true, m_in0, m_in1]
    all_goals first | exact H | skip
    refine H.list (fun c j q => by unfold listC at q; (try simp (disch := omega) only [u2S, u2N, u2T])) ⟨by simp (disch := omega) only [u2S, u2N, u2T]; omega, by simp (disch := omega) only [u2S, u2N, u2T]; exact g2, by simp (disch := omega) only [u2S, u2N, u2T]; exact g3, fun i p q => ?_, by simp (disch := omega) only [u2S, u2N, u2T]; exact g5, by simp (disch := omega) only [u2S, u2N, u2T]; exact g6, fun i p q => ?_⟩
    · revert q; simp (disch := omega) only [u2S, u2N, u2T]; intro q
      by_cases e : i = A 193 38
      · subst e; simp (disch := omega) only [u2S, u2N, u2T]; omega
      · simp (disch := omega) only [u2S, u2N, u2T]; exact g4 i p (by omega)
    · by_cases e : i = A 193 38
      · subst e; simp (disch := omega) only [u2S, u2N, u2T]; exact hd
      · simp (disch := omega) only [u2S, u2N, u2T]; exact g7 i p q
theorem st_see {S : SS} {h : HH} {a b c d : Int} (F : Fx S) (I : Inv h S) (ha : -2147483648 ≤ a ∧ a ≤ 2147483647) (hb : -2147483648 ≤ b ∧ b ≤ 2147483647) (hc : -2147483648 ≤ c ∧ c ≤ 2147483647) (hd : d = 0 ∨ d = 1) : ∃ r, ((x_see h a b c d).bind fun q => (m_see q.2 a b c d).bind fun q1 => if ww q.1 = ww q1.1 then some (q1.2, S) else none) = some r ∧ Fx r.2 ∧ Inv r.1 r.2 := by
  obtain ⟨A, O, hA, hX, hM⟩ := I
  obtain ⟨h1, e1, X1⟩ := X_see hX hA.2.2.2.1 ha hb hc hd
  rw [e1]
  exact glueW F (A_see hA hd) X1 hM (fun k h H => M_see H hA.2.2.1 hA.2.2.2.1 ha hb hc hd) rfl
/- book -/
def sBook (A : HH) (a b : Int) : Int × HH := if a = -1 then (0, u2 A 193 44 0) else if inB a 0 5 then (if inB b 0 10000 then (if A 193 44 = 8 then (-4, A) else (A 193 44 + 1, u2 (u2 (u2 A 222 (A 193 44) a) 223 (A 193 44) b) 193 44 (A 193 44 + 1))) else (-2, A)) else (-1, A)
theorem M_book {k h A : HH} (H : MR k h A) (L : LOK A) {a b : Int} (ha : -2147483648 ≤ a ∧ a ≤ 2147483647) (hb : -2147483648 ≤ b ∧ b ≤ 2147483647) : ∃ h', m_book h a b = some ((sBook A a b).1, h') ∧ MR k h' (sBook A a b).2 := by
  unfold sBook m_book m_isTree
  have l0 := L.2.2.1
  by_cases c0 : a = -1
  · simp (disch := omega) only [reduceIte, ltT, ltF, eqT, eqF, leT, leF, wwP, ckP, ckzP, ckbP, u2S, u2N, u2T, ↓Option.bind_some, inB_T, inB_F, Bool.false_eq_true, m_in0, m_in1]
    exact ⟨_, rfl, H.w (by omega)⟩
  · by_cases c1 : 0 ≤ a ∧ a < 5 <;> by_cases c2 : 0 ≤ b ∧ b < 10000 <;> by_cases c4 : A 193 44 = 8 <;> simp (disch := omega) only [reduceIte, ltT, ltF, eqT, eqF, leT, leF, wwP, ckP, ckzP, ckbP, u2S, u2N, u2T, ↓Option.bind_some, inB_T, inB_F, Bool.false_eq_true, m_in0, m_in1, H.s44]
    all_goals first | exact ⟨_, rfl, H⟩ | exact ⟨_, rfl, ((H.w (by omega)).w (by omega)).w (by omega)⟩
theorem X_book {S : SS} {k h A : HH} {O : Int → List CL} (H : XR S k h A O) (L : LOK A) {a b : Int} (ha : -2147483648 ≤ a ∧ a ≤ 2147483647) (hb : -2147483648 ≤ b ∧ b ≤ 2147483647) : ∃ h', x_book h a b = some ((sBook A a b).1, h') ∧ XR S k h' (sBook A a b).2 O := by
  have l0 := L.2.2.1
  obtain ⟨g1, g2, g3, g4, g5, g6⟩ := H.2.2.1
  have q1 : h 39 1 = A 193 44 := g3.2
  unfold sBook x_book xr_append
  rw [rlen_39]
  by_cases c0 : a = -1
  · simp (disch := omega) only [reduceIte, ltT, ltF, eqT, eqF, leT, leF, wwP, ckP, ckzP, ckbP, u2S, u2N, u2T, ↓Option.bind_some, inB_T, inB_F, Bool.false_eq_true, m_in0, m_in1]
    refine ⟨_, rfl, H.list (fun c j q => u2N (by omega)) (fun c j q => u2N (by unfold listC at q; omega)) ?_⟩
    refine ⟨by simp (disch := omega) only [u2S, u2N, u2T]; exact g1, by simp (disch := omega) only [u2S, u2N, u2T]; exact g2, ⟨by simp (disch := omega) only [u2S, u2N, u2T]; omega, by simp (disch := omega) only [u2S, u2N, u2T]⟩, by simp (disch := omega) only [u2S, u2N, u2T]; intro i p q; (try simp (disch := omega) only [u2S, u2N, u2T]); exact g4 i p q, by simp (disch := omega) only [u2S, u2N, u2T]; intro i p q; (try simp (disch := omega) only [u2S, u2N, u2T]); exact g5 i p q, fun i p q => ?_⟩
    revert q; simp (disch := omega) only [u2S, u2N, u2T]; intro q; omega
  · by_cases c1 : 0 ≤ a ∧ a < 5
    · rcases tri b (lo := 0) (hi := 10000) (by decide) with c3 | c3 | c3
      · simp (disch := omega) only [reduceIte, ltT, ltF, eqT, eqF, leT, leF, wwP, ckP, ckzP, ckbP, u2S, u2N, u2T, ↓Option.bind_some, inB_T, inB_F, Bool.false_eq_true, m_in0, m_in1, ww_treeT, ww_treeF, q1]
        exact ⟨_, rfl, H⟩
      · by_cases c4 : A 193 44 = 8
        · simp (disch := omega) only [reduceIte, ltT, ltF, eqT, eqF, leT, leF, wwP, ckP, ckzP, ckbP, u2S, u2N, u2T, ↓Option.bind_some, inB_T, inB_F, Bool.false_eq_true, m_in0, m_in1, ww_treeT, ww_treeF, q1]
          exact ⟨_, rfl, H⟩
        · simp (disch := omega) only [reduceIte, ltT, ltF, eqT, eqF, leT, leF, wwP, ckP, ckzP, ckbP, u2S, u2N, u2T, ↓Option.bind_some, inB_T, inB_F, Bool.false_eq_true, m_in0, m_in1, ww_treeT, ww_treeF, q1]
          refine ⟨_, rfl, H.list (fun c j q => by (try simp (disch := omega) only [u2S, u2N, u2T])) (fun c j q => by unfold listC at q; (try simp (disch := omega) only [u2S, u2N, u2T])) ?_⟩
          refine ⟨by simp (disch := omega) only [u2S, u2N, u2T]; exact g1, by simp (disch := omega) only [u2S, u2N, u2T]; exact g2, ⟨by simp (disch := omega) only [u2S, u2N, u2T]; omega, by simp (disch := omega) only [u2S, u2N, u2T]⟩, by simp (disch := omega) only [u2S, u2N, u2T]; intro i p q; (try simp (disch := omega) only [u2S, u2N, u2T]); exact g4 i p q, by simp (disch := omega) only [u2S, u2N, u2T]; intro i p q; (try simp (disch := omega) only [u2S, u2N, u2T]); exact g5 i p q, fun i p q => ?_⟩
          revert q; simp (disch := omega) only [u2S, u2N, u2T]; intro q
          by_cases e : i = A 193 44
          · subst e; exact ⟨by simp (disch := omega) only [u2S, u2N, u2T], by simp (disch := omega) only [u2S, u2N, u2T]⟩
          · simp (disch := omega) only [u2S, u2N, u2T]; exact g6 i p (by omega)
      · simp (disch := omega) only [reduceIte, ltT, ltF, eqT, eqF, leT, leF, wwP, ckP, ckzP, ckbP, u2S, u2N, u2T, ↓Option.bind_some, inB_T, inB_F, Bool.false_eq_true, m_in0, m_in1, ww_treeT, ww_treeF, q1]
        exact ⟨_, rfl, H⟩
    · simp (disch := omega) only [reduceIte, ltT, ltF, eqT, eqF, leT, leF, wwP, ckP, ckzP, ckbP, u2S, u2N, u2T, ↓Option.bind_some, inB_T, inB_F, Bool.false_eq_true, m_in0, m_in1, ww_treeT, ww_treeF, q1]
      exact ⟨_, rfl, H⟩
theorem A_book {A : HH} (H : AOK A) {a b : Int} : AOK (sBook A a b).2 := by
  unfold sBook
  obtain ⟨g1, g2, g3, g4, g5, g6, g7⟩ := H.2.2.2.1
  by_cases c0 : a = -1
  · simp (disch := omega) only [reduceIte, ltT, ltF, eqT, eqF, leT, leF, wwP, ckP, ckzP, ckbP, u2S, u2N, u2T, ↓Option.bind_some, inB_T, inB_F, Bool.false_eq_true, m_in0, m_in1]
    refine H.list (fun c j q => u2N (by unfold listC at q; omega)) ⟨by simp (disch := omega) only [u2S, u2N, u2T]; exact g1, by simp (disch := omega) only [u2S, u2N, u2T]; exact g2, by simp (disch := omega) only [u2S, u2N, u2T]; omega, by simp (disch := omega) only [u2S, u2N, u2T]; exact g4, by simp (disch := omega) only [u2S, u2N, u2T]; exact g5, fun i p q => ?_, by simp (disch := omega) only [u2S, u2N, u2T]; exact g7⟩
    revert q; simp (disch := omega) only [u2S, u2N, u2T]; intro q; omega
  · by_cases c1 : 0 ≤ a ∧ a < 5 <;> by_cases c3 : 0 ≤ b ∧ b < 10000 <;> by_cases c4 : A 193 44 = 8 <;> simp (disch := omega) only [reduceIte, ltT, ltF, eqT, eqF, leT, leF, wwP, ckP, ckzP, ckbP, u2S, u2N, u2T, ↓Option.bind_some, inB_T, inB_F, Bool.false_eq_true, m_in0, m_in1]
    all_goals first | exact H | skip
    refine H.list (fun c j q => by unfold listC at q; (try simp (disch := omega) only [u2S, u2N, u2T])) ⟨by simp (disch := omega) only [u2S, u2N, u2T]; exact g1, by simp (disch := omega) only [u2S, u2N, u2T]; exact g2, by simp (disch := omega) only [u2S, u2N, u2T]; omega, by simp (disch := omega) only [u2S, u2N, u2T]; exact g4, by simp (disch := omega) only [u2S, u2N, u2T]; exact g5, fun i p q => ?_, by simp (disch := omega) only [u2S, u2N, u2T]; exact g7⟩
    revert q; simp (disch := omega) only [u2S, u2N, u2T]; intro q
    by_cases e : i = A 193 44
    · subst e; simp (disch := omega) only [u2S, u2N, u2T]; omega
    · simp (disch := omega) only [u2S, u2N, u2T]; exact g6 i p (by omega)
theorem st_book {S : SS} {h : HH} {a b : Int} (F : Fx S) (I : Inv h S) (ha : -2147483648 ≤ a ∧ a ≤ 2147483647) (hb : -2147483648 ≤ b ∧ b ≤ 2147483647) : ∃ r, ((x_book h a b).bind fun q => (m_book q.2 a b).bind fun q1 => if ww q.1 = ww q1.1 then some (q1.2, S) else none) = some r ∧ Fx r.2 ∧ Inv r.1 r.2 := by
  obtain ⟨A, O, hA, hX, hM⟩ := I
  obtain ⟨h1, e1, X1⟩ := X_book hX hA.2.2.2.1 ha hb
  rw [e1]
  exact glueW F (A_book hA) X1 hM (fun k h H => M_book H hA.2.2.2.1 ha hb) rfl
