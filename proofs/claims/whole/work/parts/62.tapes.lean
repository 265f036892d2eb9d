/- feed -/
def sFeed (A : HH) (a : Int) : Int × HH := if inB a 0 128 then (if A 193 11 = 100 then (-4, A) else (A 193 11 + 1, u2 (u2 A 200 (A 193 11) a) 193 11 (A 193 11 + 1))) else (-2, A)
theorem M_feed {k h A : HH} (H : MR k h A) (l0 : 0 ≤ A 193 11 ∧ A 193 11 ≤ 100) {a : Int} (ha : -2147483648 ≤ a ∧ a ≤ 2147483647) : ∃ h', m_feed h a = some ((sFeed A a).1, h') ∧ MR k h' (sFeed A a).2 := by
  unfold sFeed m_feed
  by_cases c1 : 0 ≤ a ∧ a < 128 <;> by_cases c4 : A 193 11 = 100 <;> simp (disch := omega) only [reduceIte, ltT, ltF, eqT, eqF, leT, leF, wwP, ckP, ckzP, ckbP, u2S, u2N, u2T, ↓Option.bind_some, inB_T, inB_F, Bool.false_eq_true, m_in0, m_in1, H.s11]
  all_goals first | exact ⟨_, rfl, H⟩ | exact ⟨_, rfl, (H.w (by omega)).w (by omega)⟩
theorem SXt_rfl {S : SS} : SXt S S := ⟨Nat.le_refl _, fun _ _ _ => rfl⟩
theorem X_feed {S : SS} {k h A : HH} {O : Int → List CL} (H : XR S k h A O) {a : Int} (ha : -2147483648 ≤ a ∧ a ≤ 2147483647) : ∃ h', x_feed h a = some ((sFeed A a).1, h') ∧ XR S k h' (sFeed A a).2 O := by
  obtain ⟨t1, t2, t3, t4, t5, t6, tz, t7⟩ := H.2.2.2.1
  unfold sFeed x_feed xd_append
  rcases tri a (lo := 0) (hi := 128) (by decide) with c1 | c1 | c1
  · simp (disch := omega) only [reduceIte, ltT, ltF, eqT, eqF, leT, leF, wwP, ckP, ckzP, ckbP, u2S, u2N, u2T, ↓Option.bind_some, inB_T, inB_F, Bool.false_eq_true, m_in0, m_in1]
    exact ⟨_, rfl, H⟩
  · by_cases c4 : A 193 11 = 100
    · simp (disch := omega) only [reduceIte, ltT, ltF, eqT, eqF, leT, leF, wwP, ckP, ckzP, ckbP, u2S, u2N, u2T, ↓Option.bind_some, inB_T, inB_F, Bool.false_eq_true, m_in0, m_in1, t1]
      exact ⟨_, rfl, H⟩
    · simp (disch := omega) only [reduceIte, ltT, ltF, eqT, eqF, leT, leF, wwP, ckP, ckzP, ckbP, u2S, u2N, u2T, ↓Option.bind_some, inB_T, inB_F, Bool.false_eq_true, m_in0, m_in1, t1]
      refine ⟨_, rfl, H.tape SXt_rfl (fun c j p q => by (try simp (disch := omega) only [u2S, u2N, u2T])) (fun c j p => by have := isHb_ge p; (try simp (disch := omega) only [u2S, u2N, u2T])) (fun c j q => by unfold tapeC at q; (try simp (disch := omega) only [u2S, u2N, u2T])) ?_⟩
      refine ⟨by simp (disch := omega) only [u2S, u2N, u2T], by simp (disch := omega) only [u2S, u2N, u2T]; omega, fun i p q => ?_, ?_, by simp (disch := omega) only [u2S, u2N, u2T]; exact t5, by simp (disch := omega) only [u2S, u2N, u2T]; exact t6, fun j p q => by simp (disch := omega) only [u2S, u2N, u2T]; exact tz j p q, ?_⟩
      · revert q; simp (disch := omega) only [u2S, u2N, u2T]; intro q
        by_cases e : i = A 193 11
        · subst e; exact ⟨by simp (disch := omega) only [u2S, u2N, u2T], by simp (disch := omega) only [u2S, u2N, u2T]; omega, by simp (disch := omega) only [u2S, u2N, u2T]; omega⟩
        · simp (disch := omega) only [u2S, u2N, u2T]; exact t3 i p (by omega)
      · intro t p q
        obtain ⟨u1, u2', u3, u4, u5, u6⟩ := t4 t p q
        refine ⟨by simp (disch := omega) only [u2S, u2N, u2T]; exact u1, by simp (disch := omega) only [u2S, u2N, u2T]; exact u2', by simp (disch := omega) only [u2S, u2N, u2T]; exact u3, by simp (disch := omega) only [u2S, u2N, u2T]; exact u4, by simp (disch := omega) only [u2S, u2N, u2T]; exact u5, ?_⟩
        simp (disch := omega) only [u2S, u2N, u2T]
        intro i y z
        (try simp (disch := omega) only [u2S, u2N, u2T])
        exact u6 i y z
      · simp (disch := omega) only [u2S, u2N, u2T]
        rcases t7 with t7 | ⟨k1, k2, k3, k4, k5, k6, k7⟩
        · exact .inl t7
        · refine .inr ⟨k1, k2, k3, k4, k5, k6, fun i y z => ?_⟩
          (try simp (disch := omega) only [u2S, u2N, u2T])
          exact k7 i y z
  · simp (disch := omega) only [reduceIte, ltT, ltF, eqT, eqF, leT, leF, wwP, ckP, ckzP, ckbP, u2S, u2N, u2T, ↓Option.bind_some, inB_T, inB_F, Bool.false_eq_true, m_in0, m_in1]
    exact ⟨_, rfl, H⟩
theorem A_feed {A : HH} (H : AOK A) {a : Int} : AOK (sFeed A a).2 := by
  unfold sFeed
  by_cases c1 : 0 ≤ a ∧ a < 128 <;> by_cases c4 : A 193 11 = 100 <;> simp (disch := omega) only [reduceIte, ltT, ltF, eqT, eqF, leT, leF, wwP, ckP, ckzP, ckbP, u2S, u2N, u2T, ↓Option.bind_some, inB_T, inB_F, Bool.false_eq_true, m_in0, m_in1]
  all_goals first | exact H | exact H.tape (fun c j q => by unfold tapeC at q; (try simp (disch := omega) only [u2S, u2N, u2T]))
theorem st_feed {S : SS} {h : HH} {a : Int} (F : Fx S) (I : Inv h S) (ha : -2147483648 ≤ a ∧ a ≤ 2147483647) : ∃ r, ((x_feed h a).bind fun q => (m_feed q.2 a).bind fun q1 => if ww q.1 = ww q1.1 then some (q1.2, S) else none) = some r ∧ Fx r.2 ∧ Inv r.1 r.2 := by
  obtain ⟨A, O, hA, hX, hM⟩ := I
  obtain ⟨h1, e1, X1⟩ := X_feed hX ha
  have l0 := hX.2.2.2.1.2.1
  rw [e1]
  exact glueW F (A_feed hA) X1 hM (fun k h H => M_feed H l0 ha) rfl
/-- what of the class's side speaks of the tapes -/
def XTT (h A : HH) : Prop := ∀ t, 0 ≤ t → t < 6 → (A 239 t = -1 ∨ (0 ≤ A 239 t ∧ A 239 t ≤ 4)) ∧ h 166 t = (if A 239 t < 0 then -5 else A 239 t) ∧ h 167 t = A 240 t ∧ (0 ≤ A 240 t ∧ A 240 t ≤ 60) ∧ (A 239 t < 0 → A 240 t = 0) ∧ ∀ i, 0 ≤ i → i < A 240 t → h (169 + t) i = A 241 (60 * t + i)
theorem XR.tapes {S : SS} {k h h' A A' : HH} {O : Int → List CL} (H : XR S k h A O) (e : ∀ c j, ¬ (166 ≤ c ∧ c ≤ 174) → h' c j = h c j) (a : ∀ c j, ¬ (239 ≤ c ∧ c ≤ 241) → A' c j = A c j) (T : XTT h' A') : XR S k h' A' O := by
  refine H.tape SXt_rfl (fun c j p q => e c j (by omega)) (fun c j p => e c j (by have := isHb_ge p; omega)) (fun c j q => a c j (by unfold tapeC at q; omega)) ?_
  obtain ⟨t1, t2, t3, t4, t5, t6, tz, t7⟩ := H.2.2.2.1
  unfold XT
  rw [e 148 1 (by omega), e 151 2 (by omega), e 151 1 (by omega), a 193 11 (by omega), a 193 71 (by omega)]
  refine ⟨t1, t2, fun i p q => by rw [e 149 i (by omega), a 200 i (by omega)]; exact t3 i p q, T, t5, t6, fun j p q => by rw [e 165 j (by omega)]; exact tz j p q, ?_⟩
  rcases t7 with t7 | ⟨k1, k2, k3, k4, k5, k6, k7⟩
  · exact .inl t7
  · refine .inr ⟨k1, k2, k3, k4, k5, k6, fun i y z => ?_⟩
    rw [e _ i (by omega), a 238 i (by omega)]
    exact k7 i y z
/- read -/
def sRead (A : HH) (a b : Int) : Int := if inB a 0 6 then (if inB b 0 (A 240 a) then A 241 (60 * a + b) else -9223372036854775808) else -9223372036854775808
theorem st_read {S : SS} {h : HH} {a b : Int} (F : Fx S) (I : Inv h S) (ha : -2147483648 ≤ a ∧ a ≤ 2147483647) (hb : -2147483648 ≤ b ∧ b ≤ 2147483647) : ∃ r, ((x_read h a b).bind fun q => (m_read h a b).bind fun q1 => if ww (zlcmp q q1) = 0 then some (h, S) else none) = some r ∧ Fx r.2 ∧ Inv r.1 r.2 := by
  have I0 := I
  obtain ⟨A, O, hA, hX, hM⟩ := I
  have T : XTT h A := hX.2.2.2.1.2.2.2.1
  refine glueRL (a := sRead A a b) (b := sRead A a b) F I0 ?_ ?_ rfl
  · unfold x_read sRead x_hasItem
    by_cases c1 : 0 ≤ a ∧ a < 6
    · obtain ⟨u1, u2', u3, u4, u5, u6⟩ := T a c1.1 c1.2
      rcases tri b (lo := 0) (hi := A 240 a) u4.1 with c2 | c2 | c2
      · simp (disch := omega) only [reduceIte, ltT, ltF, eqT, eqF, leT, leF, wwP, ckP, ckzP, ckbP, u2S, u2N, u2T, ↓Option.bind_some, inB_T, inB_F, Bool.false_eq_true, m_in0, m_in1, ww_tapeT, ww_tapeF]
      · simp (disch := omega) only [reduceIte, ltT, ltF, eqT, eqF, leT, leF, wwP, ckP, ckzP, ckbP, u2S, u2N, u2T, ↓Option.bind_some, inB_T, inB_F, Bool.false_eq_true, m_in0, m_in1, ww_tapeT, ww_tapeF, u3, u6]
      · simp (disch := omega) only [reduceIte, ltT, ltF, eqT, eqF, leT, leF, wwP, ckP, ckzP, ckbP, u2S, u2N, u2T, ↓Option.bind_some, inB_T, inB_F, Bool.false_eq_true, m_in0, m_in1, ww_tapeT, ww_tapeF, u3]
    · simp (disch := omega) only [reduceIte, ltT, ltF, eqT, eqF, leT, leF, wwP, ckP, ckzP, ckbP, u2S, u2N, u2T, ↓Option.bind_some, inB_T, inB_F, Bool.false_eq_true, m_in0, m_in1, ww_tapeT, ww_tapeF]
  · unfold m_read sRead m_isTape
    by_cases c1 : 0 ≤ a ∧ a < 6
    · obtain ⟨u1, u2', u3, u4, u5, u6⟩ := T a c1.1 c1.2
      by_cases c3 : A 239 a < 0
      · have c2 : ¬ (0 ≤ b ∧ b < A 240 a) := by have := u5 c3; omega
        simp (disch := omega) only [reduceIte, ltT, ltF, eqT, eqF, leT, leF, wwP, ckP, ckzP, ckbP, u2S, u2N, u2T, ↓Option.bind_some, inB_T, inB_F, Bool.false_eq_true, m_in0, m_in1, hM.r239, hM.r240]
      · by_cases c2 : 0 ≤ b ∧ b < A 240 a
        · simp (disch := omega) only [reduceIte, ltT, ltF, eqT, eqF, leT, leF, wwP, ckP, ckzP, ckbP, u2S, u2N, u2T, ↓Option.bind_some, inB_T, inB_F, Bool.false_eq_true, m_in0, m_in1, hM.r239, hM.r240, hM.r241]
        · simp (disch := omega) only [reduceIte, ltT, ltF, eqT, eqF, leT, leF, wwP, ckP, ckzP, ckbP, u2S, u2N, u2T, ↓Option.bind_some, inB_T, inB_F, Bool.false_eq_true, m_in0, m_in1, hM.r239, hM.r240, hM.r241]
    · simp (disch := omega) only [reduceIte, ltT, ltF, eqT, eqF, leT, leF, wwP, ckP, ckzP, ckbP, u2S, u2N, u2T, ↓Option.bind_some, inB_T, inB_F, Bool.false_eq_true, m_in0, m_in1]
/- item -/
def sItem (A : HH) (a b v : Int) : Int × HH := if inB a 0 6 then (if A 239 a < 0 then (-11, A) else if inB b 0 (A 240 a) then (1, u2 A 241 (60 * a + b) (m_narrow (A 239 a) v)) else (-13, A)) else (-1, A)
theorem M_item {k h A : HH} (H : MR k h A) (T : ∀ t, 0 ≤ t → t < 6 → (A 239 t = -1 ∨ (0 ≤ A 239 t ∧ A 239 t ≤ 4)) ∧ (0 ≤ A 240 t ∧ A 240 t ≤ 60)) {a b v : Int} (ha : -2147483648 ≤ a ∧ a ≤ 2147483647) (hb : -2147483648 ≤ b ∧ b ≤ 2147483647) : ∃ h', m_item h a b v = some ((sItem A a b v).1, h') ∧ MR k h' (sItem A a b v).2 := by
  unfold sItem m_item m_isTape
  by_cases c1 : 0 ≤ a ∧ a < 6
  · obtain ⟨u1, u4⟩ := T a c1.1 c1.2
    by_cases c3 : A 239 a < 0
    · simp (disch := omega) only [reduceIte, ltT, ltF, eqT, eqF, leT, leF, wwP, ckP, ckzP, ckbP, u2S, u2N, u2T, ↓Option.bind_some, inB_T, inB_F, Bool.false_eq_true, m_in0, m_in1, H.r239, H.r240]
      exact ⟨_, rfl, H⟩
    · by_cases c2 : 0 ≤ b ∧ b < A 240 a
      · simp (disch := omega) only [reduceIte, ltT, ltF, eqT, eqF, leT, leF, wwP, ckP, ckzP, ckbP, u2S, u2N, u2T, ↓Option.bind_some, inB_T, inB_F, Bool.false_eq_true, m_in0, m_in1, H.r239, H.r240]
        exact ⟨_, rfl, H.w (by omega)⟩
      · simp (disch := omega) only [reduceIte, ltT, ltF, eqT, eqF, leT, leF, wwP, ckP, ckzP, ckbP, u2S, u2N, u2T, ↓Option.bind_some, inB_T, inB_F, Bool.false_eq_true, m_in0, m_in1, H.r239, H.r240]
        exact ⟨_, rfl, H⟩
  · simp (disch := omega) only [reduceIte, ltT, ltF, eqT, eqF, leT, leF, wwP, ckP, ckzP, ckbP, u2S, u2N, u2T, ↓Option.bind_some, inB_T, inB_F, Bool.false_eq_true, m_in0, m_in1]
    exact ⟨_, rfl, H⟩
theorem asItem_eq {s v : Int} (h : 0 ≤ s ∧ s ≤ 4) : x_asItem s v = m_narrow s v := by
  unfold x_asItem m_narrow
  rw [wwP (by omega)]
  by_cases c0 : s = 0
  · rw [if_pos c0, if_pos c0]
  by_cases c1 : s = 1
  · rw [if_neg c0, if_neg c0, if_pos c1, if_pos c1]
  by_cases c2 : s = 2
  · rw [if_neg c0, if_neg c0, if_neg c1, if_neg c1, if_pos c2, if_pos c2]
  by_cases c3 : s = 3
  · rw [if_neg c0, if_neg c0, if_neg c1, if_neg c1, if_neg c2, if_neg c2, if_pos c3, if_neg (by omega)]
  · rw [if_neg c0, if_neg c0, if_neg c1, if_neg c1, if_neg c2, if_neg c2, if_neg c3, if_pos (by omega : s = 4)]
theorem X_item {S : SS} {k h A : HH} {O : Int → List CL} (H : XR S k h A O) {a b v : Int} (ha : -2147483648 ≤ a ∧ a ≤ 2147483647) (hb : -2147483648 ≤ b ∧ b ≤ 2147483647) : ∃ h', x_item h a b v = some ((sItem A a b v).1, h') ∧ XR S k h' (sItem A a b v).2 O := by
  have T : XTT h A := H.2.2.2.1.2.2.2.1
  unfold x_item sItem x_hasItem
  by_cases c1 : 0 ≤ a ∧ a < 6
  · obtain ⟨u1, u2', u3, u4, u5, u6⟩ := T a c1.1 c1.2
    by_cases c3 : A 239 a < 0
    · have u2'' : h 166 a = -5 := by rw [u2', if_pos c3]
      simp (disch := omega) only [reduceIte, ltT, ltF, eqT, eqF, leT, leF, wwP, ckP, ckzP, ckbP, u2S, u2N, u2T, ↓Option.bind_some, inB_T, inB_F, Bool.false_eq_true, m_in0, m_in1, ww_tapeT, ww_tapeF, u2'']
      exact ⟨_, rfl, H⟩
    · have u2'' : h 166 a = A 239 a := by rw [u2', if_neg c3]
      rcases tri b (lo := 0) (hi := A 240 a) u4.1 with c2 | c2 | c2
      · simp (disch := omega) only [reduceIte, ltT, ltF, eqT, eqF, leT, leF, wwP, ckP, ckzP, ckbP, u2S, u2N, u2T, ↓Option.bind_some, inB_T, inB_F, Bool.false_eq_true, m_in0, m_in1, ww_tapeT, ww_tapeF, u2'']
        exact ⟨_, rfl, H⟩
      · simp (disch := omega) only [reduceIte, ltT, ltF, eqT, eqF, leT, leF, wwP, ckP, ckzP, ckbP, u2S, u2N, u2T, ↓Option.bind_some, inB_T, inB_F, Bool.false_eq_true, m_in0, m_in1, ww_tapeT, ww_tapeF, u2'', u3]
        rw [asItem_eq (by omega)]
        refine ⟨_, rfl, H.tapes (fun c j q => u2N (by omega)) (fun c j q => u2N (by omega)) fun t p q => ?_⟩
        obtain ⟨v1, v2, v3, v4, v5, v6⟩ := T t p q
        refine ⟨by simp (disch := omega) only [u2S, u2N, u2T]; exact v1, by simp (disch := omega) only [u2S, u2N, u2T]; exact v2, by simp (disch := omega) only [u2S, u2N, u2T]; exact v3, by simp (disch := omega) only [u2S, u2N, u2T]; exact v4, by simp (disch := omega) only [u2S, u2N, u2T]; exact v5, ?_⟩
        simp (disch := omega) only [u2S, u2N, u2T]
        intro i y z
        by_cases e : t = a ∧ i = b
        · obtain ⟨rfl, rfl⟩ := e; simp (disch := omega) only [u2S, u2N, u2T]
        · simp (disch := omega) only [u2S, u2N, u2T]; exact v6 i y z
      · simp (disch := omega) only [reduceIte, ltT, ltF, eqT, eqF, leT, leF, wwP, ckP, ckzP, ckbP, u2S, u2N, u2T, ↓Option.bind_some, inB_T, inB_F, Bool.false_eq_true, m_in0, m_in1, ww_tapeT, ww_tapeF, u2'', u3]
        exact ⟨_, rfl, H⟩
  · simp (disch := omega) only [reduceIte, ltT, ltF, eqT, eqF, leT, leF, wwP, ckP, ckzP, ckbP, u2S, u2N, u2T, ↓Option.bind_some, inB_T, inB_F, Bool.false_eq_true, m_in0, m_in1, ww_tapeT, ww_tapeF]
    exact ⟨_, rfl, H⟩
theorem A_item {A : HH} (H : AOK A) {a b v : Int} : AOK (sItem A a b v).2 := by
  unfold sItem
  by_cases c1 : 0 ≤ a ∧ a < 6
  · by_cases c3 : A 239 a < 0
    · simp (disch := omega) only [reduceIte, ltT, ltF, eqT, eqF, leT, leF, wwP, ckP, ckzP, ckbP, u2S, u2N, u2T, ↓Option.bind_some, inB_T, inB_F, Bool.false_eq_true, m_in0, m_in1]; exact H
    · by_cases c2 : 0 ≤ b ∧ b < A 240 a
      · simp (disch := omega) only [reduceIte, ltT, ltF, eqT, eqF, leT, leF, wwP, ckP, ckzP, ckbP, u2S, u2N, u2T, ↓Option.bind_some, inB_T, inB_F, Bool.false_eq_true, m_in0, m_in1]
        exact H.tape (fun c j q => by unfold tapeC at q; (try simp (disch := omega) only [u2S, u2N, u2T]))
      · simp (disch := omega) only [reduceIte, ltT, ltF, eqT, eqF, leT, leF, wwP, ckP, ckzP, ckbP, u2S, u2N, u2T, ↓Option.bind_some, inB_T, inB_F, Bool.false_eq_true, m_in0, m_in1]; exact H
  · simp (disch := omega) only [reduceIte, ltT, ltF, eqT, eqF, leT, leF, wwP, ckP, ckzP, ckbP, u2S, u2N, u2T, ↓Option.bind_some, inB_T, inB_F, Bool.false_eq_true, m_in0, m_in1]; exact H
theorem tape_b {h A : HH} (T : XTT h A) : ∀ t, 0 ≤ t → t < 6 → (A 239 t = -1 ∨ (0 ≤ A 239 t ∧ A 239 t ≤ 4)) ∧ (0 ≤ A 240 t ∧ A 240 t ≤ 60) := fun t a b => by
  have u := T t a b
  exact ⟨u.1, u.2.2.2.1⟩
theorem st_item {S : SS} {h : HH} {a b v : Int} (F : Fx S) (I : Inv h S) (ha : -2147483648 ≤ a ∧ a ≤ 2147483647) (hb : -2147483648 ≤ b ∧ b ≤ 2147483647) : ∃ r, ((x_item h a b v).bind fun q => (m_item q.2 a b v).bind fun q1 => if ww q.1 = ww q1.1 then some (q1.2, S) else none) = some r ∧ Fx r.2 ∧ Inv r.1 r.2 := by
  obtain ⟨A, O, hA, hX, hM⟩ := I
  obtain ⟨h1, e1, X1⟩ := X_item hX (v := v) ha hb
  rw [e1]
  exact glueW F (A_item hA) X1 hM (fun k h H => M_item H (tape_b hX.2.2.2.1.2.2.2.1) ha hb) rfl
