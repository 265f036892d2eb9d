theorem tri (a : Int) {lo hi : Int} (_ : lo ≤ hi) : a < lo ∨ (lo ≤ a ∧ a < hi) ∨ hi ≤ a := by omega
/- leave -/
def isJ (a : Int) : Prop := -2147483648 ≤ a ∧ a ≤ 2147483647
def maskW (A : HH) (a b : Int) : HH := u2 A 193 1 (if b = 0 then zand (A 193 1) (zxor (zshl 1 a) (-1)) else zor (A 193 1) (zshl 1 a))
def sLeave (A : HH) (a b : Int) : Int × HH := if inB a 0 (A 193 0) then (m_has (A 193 1) a, maskW A a b) else (-1, A)
theorem M_goes {k h A : HH} (H : MR k h A) {a b : Int} (hb : b = 0 ∨ b = 1) : ∃ h', m_goes h a b = some h' ∧ MR k h' (maskW A a b) := by
  unfold m_goes maskW
  rcases hb with rfl | rfl
  · simp (disch := omega) only [reduceIte, ltT, ltF, eqT, eqF, leT, leF, wwP, ckP, ckzP, ckbP, u2S, u2N, u2T, ↓Option.bind_some, inB_T, inB_F, Bool.false_eq_true, m_in0, m_in1, H.s1]
    exact ⟨_, rfl, H.w (by omega)⟩
  · simp (disch := omega) only [reduceIte, ltT, ltF, eqT, eqF, leT, leF, wwP, ckP, ckzP, ckbP, u2S, u2N, u2T, ↓Option.bind_some, inB_T, inB_F, Bool.false_eq_true, m_in0, m_in1, H.s1]
    exact ⟨_, rfl, H.w (by omega)⟩
theorem M_leave {k h A : HH} (H : MR k h A) (n0 : 0 ≤ A 193 0 ∧ A 193 0 ≤ 6) {a b : Int} (ha : -2147483648 ≤ a ∧ a ≤ 2147483647) (hb : b = 0 ∨ b = 1) : ∃ h', m_leave h a b = some ((sLeave A a b).1, h') ∧ MR k h' (sLeave A a b).2 := by
  unfold sLeave m_leave m_isHater
  obtain ⟨h1, e1, H1⟩ := M_goes H (a := a) hb
  rw [e1]
  by_cases c1 : 0 ≤ a ∧ a < A 193 0
  · rcases @has_01 (A 193 1) a with e | e
    · simp (disch := omega) only [reduceIte, ltT, ltF, eqT, eqF, leT, leF, wwP, ckP, ckzP, ckbP, u2S, u2N, u2T, ↓Option.bind_some, inB_T, inB_F, Bool.false_eq_true, m_in0, m_in1, H.s0, H.s1, ww_has, e]
      exact ⟨_, rfl, H1⟩
    · simp (disch := omega) only [reduceIte, ltT, ltF, eqT, eqF, leT, leF, wwP, ckP, ckzP, ckbP, u2S, u2N, u2T, ↓Option.bind_some, inB_T, inB_F, Bool.false_eq_true, m_in0, m_in1, H.s0, H.s1, ww_has, e]
      exact ⟨_, rfl, H1⟩
  · simp (disch := omega) only [reduceIte, ltT, ltF, eqT, eqF, leT, leF, wwP, ckP, ckzP, ckbP, u2S, u2N, u2T, ↓Option.bind_some, inB_T, inB_F, Bool.false_eq_true, m_in0, m_in1, H.s0, H.s1]
    exact ⟨_, rfl, H⟩
theorem XC.mask {S : SS} {h A : HH} {w : Int} (hw : 1 ≤ w ∧ w ≤ 99) (H : XC S h w A) (hG : 0 ≤ A 193 1 ∧ A 193 1 < 64) {a b : Int} (ha : 0 ≤ a ∧ a < 6) (hb : b = 0 ∨ b = 1) : XC S (u2 h (w + 2) a b) w (maskW A a b) := by
  unfold maskW
  obtain ⟨h1, h2, h3, h4, h5, h6, h7, h8, h9, h10⟩ := H
  have n6 := h1.1
  have n7 := h1.2.1
  refine ⟨by simp (disch := omega) only [u2S, u2N, u2T]; exact h1, by simp (disch := omega) only [u2S, u2N, u2T]; exact h2, by simp (disch := omega) only [u2S, u2N, u2T]; exact h3, ?_, by (try simp (disch := omega) only [u2S, u2N, u2T]); intro p q r; have g := h5 p q r; have gg := isHb_ge g.1; (try simp (disch := omega) only [u2S, u2N, u2T]); exact g, ?_, by (try simp (disch := omega) only [u2S, u2N, u2T]); intro p t q r u v; (try simp (disch := omega) only [u2S, u2N, u2T]); exact h7 p t q r u v, by (try simp (disch := omega) only [u2S, u2N, u2T]); intro p t q r u v; (try simp (disch := omega) only [u2S, u2N, u2T]); exact h8 p t q r u v, by (try simp (disch := omega) only [u2S, u2N, u2T]); intro t u v; (try simp (disch := omega) only [u2S, u2N, u2T]); exact h9 t u v, by (try simp (disch := omega) only [u2S, u2N, u2T]); intro t u v; (try simp (disch := omega) only [u2S, u2N, u2T]); exact h10 t u v⟩
  · simp (disch := omega) only [u2S, u2N, u2T]
    intro p q r
    have g := h4 p q r
    by_cases e : p = a
    · subst e; simp (disch := omega) only [u2S, u2N, u2T]; exact ⟨g.1, hb⟩
    · simp (disch := omega) only [u2S, u2N, u2T]; exact g
  · simp (disch := omega) only [u2S, u2N, u2T]
    intro p q r
    have g := h6 p q r
    rcases hb with rfl | rfl
    · rw [if_pos rfl, has_clr hG ha (by omega)]
      by_cases e : p = a
      · subst e; rw [if_pos rfl]; simp (disch := omega) only [u2S, u2N, u2T]
      · simp (disch := omega) only [u2S, u2N, u2T]; rw [if_neg e]; exact g
    · rw [if_neg (by omega), has_set hG ha (by omega)]
      by_cases e : p = a
      · subst e; rw [if_pos rfl]; simp (disch := omega) only [u2S, u2N, u2T]
      · simp (disch := omega) only [u2S, u2N, u2T]; rw [if_neg e]; exact g
theorem X_leave {S : SS} {k h A : HH} {O : Int → List CL} (H : XR S k h A O) (hG : 0 ≤ A 193 1 ∧ A 193 1 < 64) {a b : Int} (ha : -2147483648 ≤ a ∧ a ≤ 2147483647) (hb : b = 0 ∨ b = 1) : ∃ h', x_leave h a b = some ((sLeave A a b).1, h') ∧ XR S k h' (sLeave A a b).2 O := by
  have C := H.2.1
  obtain ⟨n0, n6, n1⟩ := C.1
  have n1 : h 1 4 = A 193 0 := n1
  unfold sLeave x_leave
  by_cases c1 : 0 ≤ a ∧ a < A 193 0
  · have e1 : h 3 a = m_has (A 193 1) a := C.2.2.2.2.2.1 a c1.1 c1.2
    simp (disch := omega) only [reduceIte, ltT, ltF, eqT, eqF, leT, leF, wwP, ckP, ckzP, ckbP, u2S, u2N, u2T, ↓Option.bind_some, inB_T, inB_F, Bool.false_eq_true, m_in0, m_in1, ww_hasT, ww_hasF, e1]
    rw [x_bitP has_01]
    refine ⟨_, rfl, H.core (fun c j q => u2N (by omega)) (fun c j q => by unfold maskW; exact u2N (by unfold coreC at q; omega)) (C.mask (by omega) hG (by omega) hb)⟩
  · simp (disch := omega) only [reduceIte, ltT, ltF, eqT, eqF, leT, leF, wwP, ckP, ckzP, ckbP, u2S, u2N, u2T, ↓Option.bind_some, inB_T, inB_F, Bool.false_eq_true, m_in0, m_in1, ww_hasT, ww_hasF]
    exact ⟨_, rfl, H⟩
theorem WOK.mask {Y N : Int} {A : HH} (W : WOK Y N A) {a b : Int} (ha : 0 ≤ a ∧ a < 6) : WOK Y N (maskW A a b) := by
  obtain ⟨h1, h2, h3, h4, h5, h6, h7, h8, h9, h10, h11⟩ := W
  unfold maskW
  refine ⟨by simp (disch := omega) only [u2S, u2N, u2T]; exact h1, by simp (disch := omega) only [u2S, u2N, u2T]; exact h2, ?_, by simp (disch := omega) only [u2S, u2N, u2T]; exact h4, fun p => by simp (disch := omega) only [u2S, u2N, u2T]; exact h5 p, fun p => by simp (disch := omega) only [u2S, u2N, u2T]; exact h6 p, fun p t => by simp (disch := omega) only [u2S, u2N, u2T]; exact h7 p t, fun p i => by simp (disch := omega) only [u2S, u2N, u2T]; exact h8 p i, fun t => by simp (disch := omega) only [u2S, u2N, u2T]; exact h9 t, fun t => by simp (disch := omega) only [u2S, u2N, u2T]; exact h10 t, fun t u => by simp (disch := omega) only [u2S, u2N, u2T]; exact h11 t u⟩
  simp (disch := omega) only [u2S, u2N, u2T]
  split
  · exact clr_b h3 ha
  · exact set_b h3 ha
theorem A_leave {A : HH} (H : AOK A) {a b : Int} : AOK (sLeave A a b).2 := by
  unfold sLeave
  have W := H.2.2.1
  have n6 := W.1
  by_cases c1 : 0 ≤ a ∧ a < A 193 0
  · simp (disch := omega) only [reduceIte, ltT, ltF, eqT, eqF, leT, leF, wwP, ckP, ckzP, ckbP, u2S, u2N, u2T, ↓Option.bind_some, inB_T, inB_F, Bool.false_eq_true, m_in0, m_in1]
    exact H.core (fun c j q => by unfold maskW; exact u2N (by unfold coreC at q; omega)) (by unfold maskW; simp (disch := omega) only [u2S, u2N, u2T]; exact Int.le_refl _) (W.mask (by omega))
  · simp (disch := omega) only [reduceIte, ltT, ltF, eqT, eqF, leT, leF, wwP, ckP, ckzP, ckbP, u2S, u2N, u2T, ↓Option.bind_some, inB_T, inB_F, Bool.false_eq_true, m_in0, m_in1]
    exact H
theorem st_leave {S : SS} {h : HH} {a b : Int} (F : Fx S) (I : Inv h S) (ha : -2147483648 ≤ a ∧ a ≤ 2147483647) (hb : b = 0 ∨ b = 1) : ∃ r, ((x_leave h a b).bind fun q => (m_leave q.2 a b).bind fun q1 => if ww q.1 = ww q1.1 then some (q1.2, S) else none) = some r ∧ Fx r.2 ∧ Inv r.1 r.2 := by
  obtain ⟨A, O, hA, hX, hM⟩ := I
  obtain ⟨h1, e1, X1⟩ := X_leave hX hA.2.2.1.2.2.1 ha hb
  rw [e1]
  exact glueW F (A_leave hA) X1 hM (fun k h H => M_leave H hA.2.2.1.1 ha hb) rfl
/- row -/
def sRow (A : HH) (a b c : Int) : Int × HH := if inB a 0 (A 193 0) then (if inB b 0 4 then (if inB c 0 10 then (if A 194 a = 6 then (A 197 (4 * a + b), u2 A 197 (4 * a + b) c) else (-3, A)) else (-2, A)) else (-1, A)) else (-1, A)
theorem M_row {k h A : HH} (H : MR k h A) (W : WOK 9999 (A 193 9) A) {a b c : Int} (ha : -2147483648 ≤ a ∧ a ≤ 2147483647) (hb : -2147483648 ≤ b ∧ b ≤ 2147483647) (hc : -2147483648 ≤ c ∧ c ≤ 2147483647) : ∃ h', m_row h a b c = some ((sRow A a b c).1, h') ∧ MR k h' (sRow A a b c).2 := by
  unfold sRow m_row m_isHater
  have n0 := W.1
  have kk := W.2.2.2.2.1 a
  by_cases c1 : 0 ≤ a ∧ a < A 193 0 <;> by_cases c2 : 0 ≤ b ∧ b < 4 <;> by_cases c3 : 0 ≤ c ∧ c < 10 <;> (try have kk := kk c1.1 c1.2) <;> by_cases c4 : A 194 a = 6 <;> simp (disch := omega) only [reduceIte, ltT, ltF, eqT, eqF, leT, leF, wwP, ckP, ckzP, ckbP, u2S, u2N, u2T, ↓Option.bind_some, inB_T, inB_F, Bool.false_eq_true, m_in0, m_in1, H.s0, H.r197, H.r194]
  all_goals first | exact ⟨_, rfl, H.w (by omega)⟩ | exact ⟨_, rfl, H⟩
theorem nhC_8 {k : Int} (h : 0 ≤ k ∧ k ≤ 6) : nhC k = 8 ↔ k = 6 := by
  unfold nhC
  repeat' split
  all_goals omega
theorem X_row {S : SS} {k h A : HH} {O : Int → List CL} (H : XR S k h A O) (W : WOK 9999 (A 193 9) A) {a b c : Int} (ha : -2147483648 ≤ a ∧ a ≤ 2147483647) (hb : -2147483648 ≤ b ∧ b ≤ 2147483647) (hc : -2147483648 ≤ c ∧ c ≤ 2147483647) : ∃ h', x_row S h a b c = some ((sRow A a b c).1, h') ∧ XR S k h' (sRow A a b c).2 O := by
  have C := H.2.1
  obtain ⟨n0, n6, n1⟩ := C.1
  have R := C.2.2.2.2.2.2.2.1
  have n1 : h 1 4 = A 193 0 := n1
  unfold sRow x_row
  by_cases c1 : 0 ≤ a ∧ a < A 193 0
  · have kk := W.2.2.2.2.1 a c1.1 c1.2
    have hh := C.2.2.2.2.1 a c1.1 c1.2
    have g1 : isHb S (h 2 a - 1) = true := hh.1
    have g2 : S.1 (h 2 a - 1) (-1) = nhC (A 194 a) := hh.2.1
    have g3 : ww (ins_8 S (h 2 a - 1)) = if A 194 a = 6 then 1 else 0 := by
      unfold ins_8
      rw [g2]
      by_cases z : A 194 a = 6
      · rw [if_pos z, if_pos ((nhC_8 kk).2 z)]; rfl
      · rw [if_neg z, if_neg (fun y => z ((nhC_8 kk).1 y))]; rfl
    rcases tri b (lo := 0) (hi := 4) (by decide) with c2 | c2 | c2 <;> rcases tri c (lo := 0) (hi := 10) (by decide) with c3 | c3 | c3 <;> by_cases c4 : A 194 a = 6 <;> simp (disch := omega) only [reduceIte, ltT, ltF, eqT, eqF, leT, leF, wwP, ckP, ckzP, ckbP, u2S, u2N, u2T, ↓Option.bind_some, inB_T, inB_F, Bool.false_eq_true, m_in0, m_in1, ww_hasT, ww_hasF, ckhP, g1, g3]
    all_goals first | exact ⟨_, rfl, H⟩ | skip
    all_goals have e1 : h (12 + a) b = A 197 (4 * a + b) := R a b c1.1 c1.2 c2.1 c2.2
    all_goals rw [e1]
    all_goals exact ⟨_, rfl, H.core (fun c j q => u2N (by omega)) (fun c j q => u2N (by unfold coreC at q; omega)) (C.rowW (by omega) (by omega) c2)⟩
  · simp (disch := omega) only [reduceIte, ltT, ltF, eqT, eqF, leT, leF, wwP, ckP, ckzP, ckbP, u2S, u2N, u2T, ↓Option.bind_some, inB_T, inB_F, Bool.false_eq_true, m_in0, m_in1, ww_hasT, ww_hasF]
    exact ⟨_, rfl, H⟩
theorem A_row {A : HH} (H : AOK A) {a b c : Int} : AOK (sRow A a b c).2 := by
  unfold sRow
  have W := H.2.2.1
  by_cases c1 : 0 ≤ a ∧ a < A 193 0 <;> by_cases c2 : 0 ≤ b ∧ b < 4 <;> by_cases c3 : 0 ≤ c ∧ c < 10 <;> by_cases c4 : A 194 a = 6 <;> simp (disch := omega) only [reduceIte, ltT, ltF, eqT, eqF, leT, leF, wwP, ckP, ckzP, ckbP, u2S, u2N, u2T, ↓Option.bind_some, inB_T, inB_F, Bool.false_eq_true, m_in0, m_in1]
  all_goals first | exact H | skip
  refine H.core (fun c j q => u2N (by unfold coreC at q; omega)) (by simp (disch := omega) only [u2S, u2N, u2T]; exact Int.le_refl _) ?_
  obtain ⟨h1, h2, h3, h4, h5, h6, h7, h8, h9, h10, h11⟩ := W
  refine ⟨by simp (disch := omega) only [u2S, u2N, u2T]; exact h1, by simp (disch := omega) only [u2S, u2N, u2T]; exact h2, by simp (disch := omega) only [u2S, u2N, u2T]; exact h3, by simp (disch := omega) only [u2S, u2N, u2T]; exact h4, fun p => by simp (disch := omega) only [u2S, u2N, u2T]; exact h5 p, fun p => by simp (disch := omega) only [u2S, u2N, u2T]; exact h6 p, fun p i => by simp (disch := omega) only [u2S, u2N, u2T]; exact h7 p i, fun p t => ?_, fun t => by simp (disch := omega) only [u2S, u2N, u2T]; exact h9 t, fun t => by simp (disch := omega) only [u2S, u2N, u2T]; exact h10 t, fun t u => by simp (disch := omega) only [u2S, u2N, u2T]; exact h11 t u⟩
  · simp (disch := omega) only [u2S, u2N, u2T]
    intro q r u v
    by_cases e : p = a ∧ t = b
    · obtain ⟨rfl, rfl⟩ := e; simp (disch := omega) only [u2S, u2N, u2T]; omega
    · simp (disch := omega) only [u2S, u2N, u2T]; exact h8 p t q r u v
theorem st_row {S : SS} {h : HH} {a b c : Int} (F : Fx S) (I : Inv h S) (ha : -2147483648 ≤ a ∧ a ≤ 2147483647) (hb : -2147483648 ≤ b ∧ b ≤ 2147483647) (hc : -2147483648 ≤ c ∧ c ≤ 2147483647) : ∃ r, ((x_row S h a b c).bind fun q => (m_row q.2 a b c).bind fun q1 => if ww q.1 = ww q1.1 then some (q1.2, S) else none) = some r ∧ Fx r.2 ∧ Inv r.1 r.2 := by
  obtain ⟨A, O, hA, hX, hM⟩ := I
  obtain ⟨h1, e1, X1⟩ := X_row hX hA.2.2.1 ha hb hc
  rw [e1]
  exact glueW F (A_row hA) X1 hM (fun k h H => M_row H hA.2.2.1 ha hb hc) rfl
