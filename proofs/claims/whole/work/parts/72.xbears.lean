theorem fct_v {A : HH} {p t : Int} : fct A p t 0 = p ∧ fct A p t 1 = t ∧ fct A p t 2 = A 194 p ∧ fct A p t 3 = A 195 p ∧ fct A p t 4 = A 196 (5 * p + t) / 10 ∧ fct A p t 5 = A 193 2 % 10 := ⟨rfl, rfl, rfl, rfl, rfl, rfl⟩
set_option maxHeartbeats 4000000 in
theorem X_force {S : SS} {h A : HH} {Y N w p t : Int} (hw : w = 1 ∨ w = 50 ∨ w = 99) (C : XC S h w A) (W : WO Y N A) (hY : Y ≤ 20000) (hp : 0 ≤ p ∧ p < A 193 0) (ht : 0 ≤ t ∧ t < 5) {O : Int → List CL} (hO : OM A O) (hX : OX h A O) : ∃ h', xw_force S h w p t = some (forceA A O p t, h') ∧ ∀ c j, c ≠ w + 48 → h' c j = h c j := by
  have n0 := W.1
  have y0 := W.2.1
  have hh := W.2.2.2.2.2.2.1 p t hp.1 hp.2 ht.1 ht.2
  have C' := C
  obtain ⟨h1, h2, h3, h4, h5, h6, h7, h8, h9, h10⟩ := C
  obtain ⟨g1, g2, g3, g4, g5⟩ := h5 p hp.1 hp.2
  have gg := isHb_ge g1
  have e7 := h7 p t hp.1 hp.2 ht.1 ht.2
  have p6 : 0 ≤ p ∧ p < 6 := by omega
  have sb := sum_b hO W hp ht
  by_cases c : A 193 10 < 0
  · rw [if_pos c] at h3
    have es : sumA A O p t = A 196 (5 * p + t) := by
      unfold sumA orchL
      rw [if_pos c]
      exact Int.add_zero _
    have K := X_dforce (S := S) (h := h) (w := w) (p := p) (t := t) (s := A 196 (5 * p + t)) (by omega) C' W hY hp ht rfl (by omega) (O := O) es.symm
    refine ⟨h, ?_, fun _ _ _ => rfl⟩
    unfold xw_force
    rw [h3]
    simp (disch := omega) only [reduceIte, ltT, ltF, eqT, eqF, leT, leF, wwP, ckP, ckzP, ckbP, u2S, u2N, u2T, ↓Option.bind_some, inB_T, inB_F, Bool.false_eq_true, m_in0, m_in1, ckhP, g1, e7, K]
  · rw [if_neg c] at h3
    obtain ⟨o1, o2, o3⟩ := hO
    have mo := o3 (by omega)
    have xo := hX (by omega)
    have oL : orchL A O = O (A 193 10) := by unfold orchL; rw [if_neg c]
    have key : ∀ hF : HH, (∀ a b, a ≠ w + 48 → hF a b = h a b) → (∀ f, 0 ≤ f → f < 6 → hF (w + 48) f = fct A p t f) → xo_warmth hF (175 + 3 * A 193 10) (w + 48) = some ((O (A 193 10)).foldl (wstep A p t) 0) ∧ d_force S hF (h (w + 1) p - 1) w t (A 196 (5 * p + t) + (O (A 193 10)).foldl (wstep A p t) 0) = some (forceA A O p t) := by
      intro hF e1 e2
      have C2 : XC S hF w A := C'.cg (fun a b q => e1 a b (by rcases q with q | q; omega; have := isHb_ge q; omega)) (fun _ _ _ => rfl)
      have es : sumA A O p t = A 196 (5 * p + t) + (O (A 193 10)).foldl (wstep A p t) 0 := by unfold sumA; rw [oL]
      refine ⟨X_warm e2 (fct_b W hY hp ht) (xo.cg (fun a b _ _ => e1 a b (by omega))) mo, ?_⟩
      exact X_dforce (by omega) C2 W hY hp ht (by rw [e1 _ _ (by omega)]) (by omega) (O := O) es.symm
    have h3' : h w 11 - 1 = 175 + 3 * A 193 10 := by omega
    have e0 : ¬ h w 11 ≤ 0 := by omega
    have ob := isOb_P (f := A 193 10) (by omega)
    obtain ⟨f0, f1, f2, f3, f4, f5⟩ := @fct_v A p t
    obtain ⟨k1, k2⟩ := key (u2 (u2 (u2 (u2 (u2 (u2 h (w + 48) 0 p) (w + 48) 1 t) (w + 48) 2 (A 194 p)) (w + 48) 3 (A 195 p)) (w + 48) 4 (A 196 (5 * p + t) / 10)) (w + 48) 5 (A 193 2 % 10)) (fun a b q => by simp (disch := omega) only [u2S, u2N, u2T]) (fun f q1 q2 => by
      have : f = 0 ∨ f = 1 ∨ f = 2 ∨ f = 3 ∨ f = 4 ∨ f = 5 := by omega
      rcases this with rfl | rfl | rfl | rfl | rfl | rfl
      · simp (disch := omega) only [u2S, u2N, u2T]; exact f0.symm
      · simp (disch := omega) only [u2S, u2N, u2T]; exact f1.symm
      · simp (disch := omega) only [u2S, u2N, u2T]; exact f2.symm
      · simp (disch := omega) only [u2S, u2N, u2T]; exact f3.symm
      · simp (disch := omega) only [u2S, u2N, u2T]; exact f4.symm
      · simp (disch := omega) only [u2S, u2N, u2T]; exact f5.symm)
    refine ⟨u2 (u2 (u2 (u2 (u2 (u2 h (w + 48) 0 p) (w + 48) 1 t) (w + 48) 2 (A 194 p)) (w + 48) 3 (A 195 p)) (w + 48) 4 (A 196 (5 * p + t) / 10)) (w + 48) 5 (A 193 2 % 10), ?_, fun a b q => by simp (disch := omega) only [u2S, u2N, u2T]⟩
    unfold xw_force
    rw [if_neg e0]
    simp (disch := omega) only [reduceIte, ltT, ltF, eqT, eqF, leT, leF, wwP, ckP, ckzP, ckbP, u2S, u2N, u2T, ↓Option.bind_some, inB_T, inB_F, Bool.false_eq_true, m_in0, m_in1, ckhP, g1, g3, g5, e7, h2, h3', ckOP, ob, zdivP, zremP, k1, k2]
theorem X_bears {S : SS} {h A : HH} {Y N w p t : Int} (hw : w = 1 ∨ w = 50 ∨ w = 99) (C : XC S h w A) (W : WO Y N A) (hY : Y ≤ 20000) (hp : 0 ≤ p ∧ p < A 193 0) (ht : 0 ≤ t ∧ t < 5) {O : Int → List CL} (hO : OM A O) (hX : OX h A O) : ∃ h', xw_bears S h w p t = some (bearA A O p t, h') ∧ ∀ c j, c ≠ w + 48 → h' c j = h c j := by
  obtain ⟨h1, e1, f1⟩ := X_force hw C W hY hp ht hO hX
  have n0 := W.1
  have g := C.2.2.2.2.2.1 p hp.1 hp.2
  have fb := force_b hO W hp ht
  have nb := need_b hO
  have C2 : XC S h1 w A := C.cg (fun a b q => f1 a b (by rcases q with q | q; omega; have := isHb_ge q; omega)) (fun _ _ _ => rfl)
  have nn := X_need C2 (O := O) ⟨hO.1, hO.2.1⟩ (fun z => (hX z).cg (fun a b _ _ => f1 a b (by have := hO.2.1; omega)))
  unfold xw_bears bearA
  rw [e1]
  rcases @has_01 (A 193 1) p with c | c
  · by_cases c2 : forceA A O p t < needA A O
    · simp (disch := omega) only [reduceIte, ltT, ltF, eqT, eqF, leT, leF, wwP, ckP, ckzP, ckbP, u2S, u2N, u2T, ↓Option.bind_some, inB_T, inB_F, Bool.false_eq_true, m_in0, m_in1, g, c, nn]
      exact ⟨h1, rfl, f1⟩
    · simp (disch := omega) only [reduceIte, ltT, ltF, eqT, eqF, leT, leF, wwP, ckP, ckzP, ckbP, u2S, u2N, u2T, ↓Option.bind_some, inB_T, inB_F, Bool.false_eq_true, m_in0, m_in1, g, c, nn]
      exact ⟨h1, rfl, f1⟩
  · simp (disch := omega) only [reduceIte, ltT, ltF, eqT, eqF, leT, leF, wwP, ckP, ckzP, ckbP, u2S, u2N, u2T, ↓Option.bind_some, inB_T, inB_F, Bool.false_eq_true, m_in0, m_in1, g, c, nn]
    exact ⟨h, rfl, fun _ _ _ => rfl⟩
