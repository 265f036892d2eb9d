/- the Model reads a text -/
def MTX (T : Int → Int) (L : Int) (B : HH) : Prop := TX T L ∧ B 193 11 = L ∧ ∀ i, 0 ≤ i → i < L → B 200 i = T i ∧ T i ≤ 127
theorem MTX.cg {T : Int → Int} {L : Int} {B B' : HH} (H : MTX T L B) (e : B' 193 11 = B 193 11) (e2 : ∀ j, B' 200 j = B 200 j) : MTX T L B' := ⟨H.1, by rw [e]; exact H.2.1, fun i a b => by rw [e2]; exact H.2.2 i a b⟩
theorem MTX.b {T : Int → Int} {L p : Int} {B : HH} (H : MTX T L B) (hp : 0 ≤ p) : -1 ≤ T p ∧ T p ≤ 127 := by
  by_cases c : p < L
  · have := H.2.2 p hp c
    have := H.1.2.2 p hp c
    omega
  · have := H.1.2.1 p (by omega)
    omega
theorem M_next {T : Int → Int} {L p : Int} {k h B : HH} (X : MTX T L B) (H : MR k h B) (hp : 0 ≤ p ∧ p ≤ L) (e : B 193 12 = p) : m_next h = some (T p) := by
  have L1 := X.1.1
  unfold m_next
  have e1 : h 193 12 = p := by rw [H.s12, e]
  have e2 : h 193 11 = L := by rw [H.s11, X.2.1]
  by_cases c : p < L
  · have e3 : h 200 p = T p := by rw [H.r200, (X.2.2 p hp.1 c).1]
    rw [if_pos (by rw [e1, e2, wwP (by omega), wwP (by omega)]; exact c), e1, wwP (by omega), ckP (by omega), e3]
  · rw [if_neg (by rw [e1, e2, wwP (by omega), wwP (by omega)]; exact c), X.1.2.1 p (by omega)]
theorem M_takes {T : Int → Int} {L p c : Int} {k h B : HH} (X : MTX T L B) (H : MR k h B) (hp : 0 ≤ p ∧ p ≤ L) (e : B 193 12 = p) (hc : 0 ≤ c ∧ c ≤ 127) : ∃ h', m_takes h c = some (if T p = c then 1 else 0, h') ∧ MR k h' (if T p = c then u2 B 193 12 (p + 1) else B) := by
  have b := X.b hp.1
  unfold m_takes
  rw [M_next X H hp e, Option.bind_some, H.s12, e]
  by_cases z : T p = c
  · rw [if_pos z, if_pos z, if_pos (by rw [z])]
    exact ⟨_, rfl, H.w (by omega)⟩
  · rw [if_neg z, if_neg z, if_neg (by rw [wwP (by omega), wwP (by omega)]; exact z)]
    exact ⟨_, rfl, H⟩
theorem M_dig {T : Int → Int} {L p : Int} {k h B : HH} (X : MTX T L B) (H : MR k h B) (hp : 0 ≤ p ∧ p ≤ L) (e : B 193 12 = p) : ∃ v, m_isDigit h = some v ∧ ww v = if isDg (T p) = true then 1 else 0 := by
  have b := X.b hp.1
  unfold m_isDigit
  rw [M_next X H hp e, Option.bind_some]
  refine ⟨_, rfl, ?_⟩
  by_cases c : 48 ≤ T p ∧ T p ≤ 57
  · rw [m_in0 (by omega), if_pos (by rw [isDg, decide_eq_true_eq]; exact c)]
  · rw [m_in1 (by omega), if_neg (by rw [isDg, decide_eq_true_eq]; exact c)]
theorem M_num_L {T : Int → Int} {L p v x : Int} {k h B : HH} (X : MTX T L B) (H : MR k h B) (hp : 0 ≤ p ∧ p ≤ L) (e : B 193 12 = p) (ev : B 193 13 = v) (hx : 0 ≤ x ∧ x ≤ 2) (n : Nat) : m_takesNumber_L16 (n + 1) h x = if x < 2 ∧ isDg (T p) = true then m_takesNumber_L16 n (u2 (u2 h 193 13 (10 * v + T p - 48)) 193 12 (p + 1)) (x + 1) else some (1, h) := by
  rw [m_takesNumber_L16]
  by_cases c0 : x < 2
  · obtain ⟨w, e1, e2⟩ := M_dig X H hp e
    rw [if_pos (by rw [wwP (by omega)]; exact c0), e1, Option.bind_some]
    by_cases c1 : isDg (T p) = true
    · rw [if_pos c1] at e2
      rw [if_neg (by rw [e2]; decide), M_next X H hp e, Option.bind_some, if_pos ⟨c0, c1⟩, H.s13, ev, u2N (by omega), H.s12, e]
    · rw [if_neg c1] at e2
      rw [if_pos e2, if_neg (fun z => c1 z.2)]
  · rw [if_neg (by rw [wwP (by omega)]; exact c0), if_neg (fun z => c0 z.1)]
theorem M_num {T : Int → Int} {L p : Int} {k h B : HH} (X : MTX T L B) (H : MR k h B) (hp : 0 ≤ p ∧ p ≤ L) (e : B 193 12 = p) : ∃ h' B', m_takesNumber h = some (if (rdN T p).1 = true then 1 else 0, h') ∧ MR k h' B' ∧ B' 193 12 = (rdN T p).2.2 ∧ (∀ c j, ¬ (c = 193 ∧ (j = 12 ∨ j = 13)) → B' c j = B c j) ∧ ((rdN T p).1 = true → B' 193 13 = (rdN T p).2.1) := by
  have hT := X.1
  have dgL : ∀ q, isDg (T q) = true → q < L := fun q z => by
    rw [isDg, decide_eq_true_eq] at z
    exact lt_L hT (by omega)
  obtain ⟨w, e1, e2⟩ := M_dig X H hp e
  unfold m_takesNumber
  rw [e1, Option.bind_some]
  unfold rdN
  by_cases c1 : isDg (T p) = true
  · have l1 := dgL p c1
    rw [if_pos c1] at e2
    rw [if_neg (by rw [e2]; decide), show FU = 19997 + 1 + 1 + 1 from rfl]
    have H1 : MR k (u2 h 193 13 0) (u2 B 193 13 0) := H.w (by omega)
    have X1 : MTX T L (u2 B 193 13 0) := X.cg (u2N (by omega)) (fun j => u2N (by omega))
    rw [M_num_L X1 H1 hp (by rw [u2N (by omega)]; exact e) u2S (by omega), if_pos ⟨by omega, c1⟩, if_pos c1]
    have H2 := (H1.w (c := 193) (j := 13) (v := 10 * 0 + T p - 48) (by omega)).w (c := 193) (j := 12) (v := p + 1) (by omega)
    have X2 : MTX T L (u2 (u2 (u2 B 193 13 0) 193 13 (10 * 0 + T p - 48)) 193 12 (p + 1)) := X.cg (by simp (disch := omega) only [u2S, u2N, u2T]) (fun j => by simp (disch := omega) only [u2S, u2N, u2T])
    rw [M_num_L (v := T p - 48) X2 H2 (by omega) u2S (by rw [u2N (by omega), u2S]; omega) (by omega)]
    by_cases c2 : isDg (T (p + 1)) = true
    · have l2 := dgL _ c2
      rw [if_pos ⟨by omega, c2⟩, if_pos c2]
      have H3 := (H2.w (c := 193) (j := 13) (v := 10 * (T p - 48) + T (p + 1) - 48) (by omega)).w (c := 193) (j := 12) (v := p + 1 + 1) (by omega)
      have X3 : MTX T L (u2 (u2 (u2 (u2 (u2 B 193 13 0) 193 13 (10 * 0 + T p - 48)) 193 12 (p + 1)) 193 13 (10 * (T p - 48) + T (p + 1) - 48)) 193 12 (p + 1 + 1)) := X.cg (by simp (disch := omega) only [u2S, u2N, u2T]) (fun j => by simp (disch := omega) only [u2S, u2N, u2T])
      rw [M_num_L (v := 10 * (T p - 48) + T (p + 1) - 48) X3 H3 (by omega) u2S (by rw [u2N (by omega), u2S]) (by omega), if_neg (fun z => by have := z.1; omega)]
      refine ⟨_, _, rfl, H3, ?_, fun c j z => by simp (disch := omega) only [u2S, u2N, u2T], fun _ => ?_⟩
      · rw [u2S]
        show p + 1 + 1 = p + 2
        omega
      · rw [u2N (by omega), u2S]
        show _ = 10 * (T p - 48) + (T (p + 1) - 48)
        omega
    · rw [if_neg (fun z => c2 z.2), if_neg c2]
      refine ⟨_, _, rfl, H2, u2S, fun c j z => by simp (disch := omega) only [u2S, u2N, u2T], fun _ => ?_⟩
      rw [u2N (by omega), u2S]
      show _ = T p - 48
      omega
  · rw [if_neg c1] at e2
    rw [if_pos e2, if_neg c1]
    exact ⟨h, B, rfl, H, e, fun _ _ _ => rfl, fun z => by simp at z⟩
/-- how the Model stands while it reads a clause i whose code begins at base -/
def MS (B : HH) (p : Int) (P : List Int) (w : Int) (C : List Int) (base : Int) : Prop := B 193 12 = p ∧ B 193 22 = base + C.length ∧ (∀ j : Nat, j < C.length → B 206 (base + j) = C.getD j 0) ∧ B 193 23 = P.length ∧ (∀ j : Nat, j < P.length → B 207 j = P.getD (P.length - 1 - j) 0) ∧ B 193 24 = w
def MF (B B0 : HH) (base i : Int) : Prop := ∀ c j, ¬ ((c = 193 ∧ (j = 12 ∨ j = 13 ∨ j = 22 ∨ j = 23 ∨ j = 24)) ∨ c = 207 ∨ (c = 206 ∧ base ≤ j) ∨ (c = 205 ∧ j = i)) → B c j = B0 c j
theorem MF.w {B B0 : HH} {base i c j v : Int} (F : MF B B0 base i) (h : (c = 193 ∧ (j = 12 ∨ j = 13 ∨ j = 22 ∨ j = 23 ∨ j = 24)) ∨ c = 207 ∨ (c = 206 ∧ base ≤ j) ∨ (c = 205 ∧ j = i)) : MF (u2 B c j v) B0 base i := fun a b z => by
  rw [u2N (by omega)]
  exact F a b z
theorem MF.x {T : Int → Int} {L base i : Int} {B B0 : HH} (F : MF B B0 base i) (X : MTX T L B0) : MTX T L B := X.cg (F _ _ (by omega)) (fun j => F _ _ (by omega))
theorem getD_app {C : List Int} {z : Int} {j : Nat} (h : j < C.length) : (C ++ [z]).getD j 0 = C.getD j 0 := by
  rw [List.getD_eq_getElem?_getD, List.getD_eq_getElem?_getD, List.getElem?_append_left h]
theorem getD_last {C : List Int} {z : Int} : (C ++ [z]).getD C.length 0 = z := by
  rw [List.getD_eq_getElem?_getD, List.getElem?_append_right (Nat.le_refl _), Nat.sub_self]
  rfl
theorem MS.emit {B : HH} {p w base z t : Int} {P C : List Int} (S : MS B p P w C base) (ht : t = base + C.length) : MS (u2 (u2 B 206 t z) 193 22 (t + 1)) p P w (C ++ [z]) base := by
  obtain ⟨s1, s2, s3, s4, s5, s6⟩ := S
  refine ⟨by simp (disch := omega) only [u2S, u2N, u2T]; exact s1, ?_, fun j hj => ?_, by simp (disch := omega) only [u2S, u2N, u2T]; exact s4, fun j hj => by simp (disch := omega) only [u2S, u2N, u2T]; exact s5 j hj, by simp (disch := omega) only [u2S, u2N, u2T]; exact s6⟩
  · rw [u2S, List.length_append, List.length_singleton]
    omega
  · rw [List.length_append, List.length_singleton] at hj
    by_cases c : j < C.length
    · rw [getD_app c]
      simp (disch := omega) only [u2S, u2N, u2T]
      exact s3 j c
    · have e : j = C.length := by omega
      subst e
      rw [getD_last]
      simp (disch := omega) only [u2S, u2N, u2T]
theorem MS.push {B : HH} {p w base v : Int} {P C : List Int} (S : MS B p P w C base) : MS (u2 (u2 B 207 P.length v) 193 23 (P.length + 1)) p (v :: P) w C base := by
  obtain ⟨s1, s2, s3, s4, s5, s6⟩ := S
  refine ⟨by simp (disch := omega) only [u2S, u2N, u2T]; exact s1, by simp (disch := omega) only [u2S, u2N, u2T]; exact s2, fun j hj => by simp (disch := omega) only [u2S, u2N, u2T]; exact s3 j hj, ?_, fun j hj => ?_, by simp (disch := omega) only [u2S, u2N, u2T]; exact s6⟩
  · rw [u2S, List.length_cons]
    omega
  · rw [List.length_cons] at hj ⊢
    by_cases c : j < P.length
    · rw [show P.length + 1 - 1 - j = (P.length - 1 - j) + 1 by omega, List.getD_cons_succ]
      simp (disch := omega) only [u2S, u2N, u2T]
      exact s5 j c
    · have e : j = P.length := by omega
      subst e
      rw [show P.length + 1 - 1 - P.length = 0 by omega, List.getD_cons_zero]
      simp (disch := omega) only [u2S, u2N, u2T]
theorem MS.pop {B : HH} {p w base t : Int} {P C : List Int} (S : MS B p (t :: P) w C base) : B 193 23 = P.length + 1 ∧ B 207 P.length = t ∧ MS (u2 B 193 23 P.length) p P w C base := by
  obtain ⟨s1, s2, s3, s4, s5, s6⟩ := S
  rw [List.length_cons] at s4 s5
  refine ⟨by omega, ?_, by simp (disch := omega) only [u2S, u2N, u2T]; exact s1, by simp (disch := omega) only [u2S, u2N, u2T]; exact s2, fun j hj => by simp (disch := omega) only [u2S, u2N, u2T]; exact s3 j hj, by simp (disch := omega) only [u2S, u2N, u2T], fun j hj => ?_, by simp (disch := omega) only [u2S, u2N, u2T]; exact s6⟩
  · have := s5 P.length (by omega)
    rw [show P.length + 1 - 1 - P.length = 0 by omega, List.getD_cons_zero] at this
    exact this
  · have := s5 j (by omega)
    rw [show P.length + 1 - 1 - j = (P.length - 1 - j) + 1 by omega, List.getD_cons_succ] at this
    simp (disch := omega) only [u2S, u2N, u2T]
    exact this
theorem MS.pos {B : HH} {p q w base : Int} {P C : List Int} (S : MS B p P w C base) : MS (u2 B 193 12 q) q P w C base := by
  obtain ⟨s1, s2, s3, s4, s5, s6⟩ := S
  exact ⟨u2S, by simp (disch := omega) only [u2S, u2N, u2T]; exact s2, fun j hj => by simp (disch := omega) only [u2S, u2N, u2T]; exact s3 j hj, by simp (disch := omega) only [u2S, u2N, u2T]; exact s4, fun j hj => by simp (disch := omega) only [u2S, u2N, u2T]; exact s5 j hj, by simp (disch := omega) only [u2S, u2N, u2T]; exact s6⟩
theorem MS.wt {B : HH} {p w v base : Int} {P C : List Int} (S : MS B p P w C base) : MS (u2 B 193 24 v) p P v C base := by
  obtain ⟨s1, s2, s3, s4, s5, s6⟩ := S
  exact ⟨by simp (disch := omega) only [u2S, u2N, u2T]; exact s1, by simp (disch := omega) only [u2S, u2N, u2T]; exact s2, fun j hj => by simp (disch := omega) only [u2S, u2N, u2T]; exact s3 j hj, by simp (disch := omega) only [u2S, u2N, u2T]; exact s4, fun j hj => by simp (disch := omega) only [u2S, u2N, u2T]; exact s5 j hj, u2S⟩
theorem M_emits {k h B : HH} {p w base z : Int} {P C : List Int} (H : MR k h B) (S : MS B p P w C base) (hb : 0 ≤ base ∧ base + C.length < 600) : m_emits h z = some (u2 (u2 h 206 (base + C.length) z) 193 22 (base + C.length + 1)) ∧ MR k (u2 (u2 h 206 (base + C.length) z) 193 22 (base + C.length + 1)) (u2 (u2 B 206 (base + C.length) z) 193 22 (base + C.length + 1)) := by
  have e : h 193 22 = base + C.length := by rw [H.s22, S.2.1]
  refine ⟨?_, (H.w (by omega)).w (by omega)⟩
  unfold m_emits
  rw [e, wwP (by omega), ckP (by omega), u2N (by omega), e]
def PB (P : List Int) : Prop := ∀ t ∈ P, 0 ≤ t ∧ t ≤ 127
theorem PB.tl {t : Int} {P : List Int} (h : PB (t :: P)) : PB P := fun x hx => h x (List.mem_cons_of_mem _ hx)
theorem PB.hd {t : Int} {P : List Int} (h : PB (t :: P)) : 0 ≤ t ∧ t ≤ 127 := h t List.mem_cons_self
theorem PB.cs {t : Int} {P : List Int} (h : PB P) (ht : 0 ≤ t ∧ t ≤ 127) : PB (t :: P) := fun x hx => by
  rcases List.mem_cons.1 hx with z | z
  · rw [z]; exact ht
  · exact h x z
theorem whol_len : ∀ (P C : List Int) (w : Int), (whol P C w).2.1.length + (whol P C w).1.length = C.length + P.length ∧ (PB P → PB (whol P C w).1) ∧ (whol P C w).1.length ≤ P.length
  | [], C, w => ⟨rfl, fun h => h, Nat.le_refl _⟩
  | t :: P, C, w => by
    rw [whol]
    by_cases c : t = 33
    · rw [if_pos c]
      obtain ⟨a, b, d⟩ := whol_len P (C ++ [-33]) (w - 1)
      rw [List.length_append, List.length_singleton] at a
      rw [List.length_cons]
      exact ⟨by omega, fun h => b h.tl, by omega⟩
    · rw [if_neg c]
      exact ⟨rfl, fun h => h, Nat.le_refl _⟩
theorem setl_len {a : Int} : ∀ (P C : List Int), (setl a P C).2.length + (setl a P C).1.length = C.length + P.length ∧ (PB P → PB (setl a P C).1) ∧ (setl a P C).1.length ≤ P.length
  | [], C => ⟨rfl, fun h => h, Nat.le_refl _⟩
  | t :: P, C => by
    rw [setl]
    by_cases c : t = 38
    · rw [if_pos c]
      obtain ⟨a, b, d⟩ := setl_len P (C ++ [-38])
      rw [List.length_append, List.length_singleton] at a
      rw [List.length_cons]
      exact ⟨by omega, fun h => b h.tl, by omega⟩
    · rw [if_neg c]
      by_cases c2 : t = 124
      · rw [if_pos c2]
        by_cases c3 : a = 38
        · rw [if_pos c3]
          exact ⟨rfl, fun h => h, Nat.le_refl _⟩
        · rw [if_neg c3]
          obtain ⟨a, b, d⟩ := setl_len P (C ++ [-124])
          rw [List.length_append, List.length_singleton] at a
          rw [List.length_cons]
          exact ⟨by omega, fun h => b h.tl, by omega⟩
      · rw [if_neg c2]
        exact ⟨rfl, fun h => h, Nat.le_refl _⟩
theorem M_whole_L {B0 : HH} {base i : Int} : ∀ (P : List Int) (n : Nat) (k h B : HH) (p w : Int) (C : List Int), P.length < n → PB P → MR k h B → MS B p P w C base → MF B B0 base i → (0 ≤ base ∧ base + C.length + P.length ≤ 600 ∧ P.length ≤ 100) → ∃ h' B', m_whole_L0 n h = some h' ∧ MR k h' B' ∧ MS B' p (whol P C w).1 (whol P C w).2.2 (whol P C w).2.1 base ∧ MF B' B0 base i
  | [], n, k, h, B, p, w, C, hn, pb, H, S, F, hb => by
    obtain ⟨n, rfl⟩ : ∃ m, n = m + 1 := ⟨n - 1, by simp at hn; omega⟩
    have e : h 193 23 = 0 := by rw [H.s23, S.2.2.2.1]; rfl
    rw [m_whole_L0, e, if_neg (by decide), whol]
    exact ⟨h, B, rfl, H, S, F⟩
  | t :: P, n, k, h, B, p, w, C, hn, pb, H, S, F, hb => by
    rw [List.length_cons] at hn hb
    obtain ⟨n, rfl⟩ : ∃ m, n = m + 1 := ⟨n - 1, by omega⟩
    obtain ⟨q1, q2, q3⟩ := S.pop
    have e : h 193 23 = P.length + 1 := by rw [H.s23, q1]
    have e2 : h 207 P.length = t := by rw [H.r207, q2]
    have e3 : (P.length : Int) + 1 - 1 = P.length := by omega
    rw [m_whole_L0, e, if_pos (by rw [wwP (by omega)]; omega), e3, wwP (z := (P.length : Int)) (by omega), ckP (by omega), e2, whol]
    by_cases c : t = 33
    · rw [if_pos (by rw [c]; decide), if_pos c]
      obtain ⟨m1, m2⟩ := M_emits (z := -33) H S (by omega)
      have S1 := S.emit (z := -33) rfl
      obtain ⟨-, -, S2⟩ := S1.pop
      have S3 := S2.wt (v := w - 1)
      have r1 : u2 (u2 h 206 (base + C.length) (-33)) 193 22 (base + C.length + 1) 193 23 = P.length + 1 := by rw [u2N (by omega), u2N (by omega)]; exact e
      have r2 : u2 (u2 (u2 h 206 (base + C.length) (-33)) 193 22 (base + C.length + 1)) 193 23 P.length 193 24 = w := by rw [u2N (by omega), u2N (by omega), u2N (by omega), H.s24, S.2.2.2.2.2]
      rw [m1, Option.bind_some, r1, e3, r2]
      exact M_whole_L P n k _ _ p (w - 1) (C ++ [-33]) (by omega) pb.tl ((m2.w (by omega)).w (by omega)) S3 (((F.w (by omega)).w (by omega) |>.w (by omega)).w (by omega)) (by rw [List.length_append, List.length_singleton]; omega)
    · have tb := pb.hd
      rw [if_neg (by rw [wwP (by omega)]; exact c), if_neg c]
      exact ⟨h, B, rfl, H, S, F⟩
theorem M_settle_L {B0 : HH} {base i a : Int} (ha : a = 38 ∨ a = 124) : ∀ (P : List Int) (n : Nat) (k h B : HH) (p w : Int) (C : List Int), P.length < n → PB P → MR k h B → MS B p P w C base → MF B B0 base i → (0 ≤ base ∧ base + C.length + P.length ≤ 600 ∧ P.length ≤ 100) → ∃ h' B', m_settle_L0 a n h = some h' ∧ MR k h' B' ∧ MS B' p (setl a P C).1 w (setl a P C).2 base ∧ MF B' B0 base i
  | [], n, k, h, B, p, w, C, hn, pb, H, S, F, hb => by
    obtain ⟨n, rfl⟩ : ∃ m, n = m + 1 := ⟨n - 1, by simp at hn; omega⟩
    have e : h 193 23 = 0 := by rw [H.s23, S.2.2.2.1]; rfl
    rw [m_settle_L0, e, if_neg (by decide), setl]
    exact ⟨h, B, rfl, H, S, F⟩
  | t :: P, n, k, h, B, p, w, C, hn, pb, H, S, F, hb => by
    rw [List.length_cons] at hn hb
    obtain ⟨n, rfl⟩ : ∃ m, n = m + 1 := ⟨n - 1, by omega⟩
    obtain ⟨q1, q2, q3⟩ := S.pop
    have tb := pb.hd
    have e : h 193 23 = P.length + 1 := by rw [H.s23, q1]
    have e2 : h 207 P.length = t := by rw [H.r207, q2]
    have e3 : (P.length : Int) + 1 - 1 = P.length := by omega
    have r1 : u2 h 193 23 P.length 193 23 = P.length := u2S
    have r2 : u2 h 193 23 P.length 207 P.length = t := by rw [u2N (by omega)]; exact e2
    have go : ∀ z, z = -t → ∃ h1 B1, m_emits (u2 h 193 23 P.length) z = some h1 ∧ MR k h1 B1 ∧ MS B1 p P w (C ++ [z]) base ∧ MF B1 B0 base i := fun z hz => by
      obtain ⟨m1, m2⟩ := M_emits (z := z) (H.w (c := 193) (j := 23) (v := P.length) (by omega)) q3 (by omega)
      exact ⟨_, _, m1, m2, q3.emit rfl, ((F.w (by omega)).w (by omega)).w (by omega)⟩
    rw [m_settle_L0, e, if_pos (by rw [wwP (by omega)]; omega), e3, wwP (z := (P.length : Int)) (by omega), ckP (by omega), e2, setl]
    by_cases c : t = 38
    · rw [if_pos (by rw [c]; decide), if_pos c, r1, wwP (by omega), ckP (by omega), r2]
      obtain ⟨h1, B1, m1, m2, m3, m4⟩ := go (-t) rfl
      rw [m1, Option.bind_some]
      rw [c] at m3
      exact M_settle_L ha P n k h1 B1 p w (C ++ [-38]) (by omega) pb.tl m2 m3 m4 (by rw [List.length_append, List.length_singleton]; omega)
    · rw [if_neg (by rw [wwP (by omega)]; exact c), if_neg c, ckP (by omega)]
      by_cases c2 : t = 124
      · rw [if_pos (by rw [c2]; decide), if_pos c2]
        by_cases c3 : a = 38
        · rw [if_pos (by rw [c3]; decide), if_pos c3]
          exact ⟨h, B, rfl, H, S, F⟩
        · rw [if_neg (by rw [wwP (by omega)]; exact c3), if_neg c3, r1, wwP (by omega), ckP (by omega), r2]
          obtain ⟨h1, B1, m1, m2, m3, m4⟩ := go (-t) rfl
          rw [m1, Option.bind_some]
          rw [c2] at m3
          exact M_settle_L ha P n k h1 B1 p w (C ++ [-124]) (by omega) pb.tl m2 m3 m4 (by rw [List.length_append, List.length_singleton]; omega)
      · rw [if_neg (by rw [wwP (by omega)]; exact c2), if_neg c2]
        exact ⟨h, B, rfl, H, S, F⟩
theorem place_fin : ∀ c : Fin 128, m_place (c.val : Int) = placeN (c.val : Int) := by decide +kernel
theorem place_E {c : Int} (h : -1 ≤ c ∧ c ≤ 127) : m_place c = placeN c := by
  by_cases z : c < 0
  · have e : c = -1 := by omega
    subst e
    decide
  · obtain ⟨q, rfl⟩ := fin_of (n := 128) (p := c) (by omega)
    exact place_fin q
theorem M_test {T : Int → Int} {L base i p w : Int} {P C : List Int} {k h B B0 : HH} (X : MTX T L B0) (H : MR k h B) (S : MS B p P w C base) (F : MF B B0 base i) (pb : PB P) (hp : 0 ≤ p ∧ p ≤ L) (hb : 0 ≤ base ∧ base + C.length + P.length ≤ 500 + p ∧ P.length ≤ p) : ∃ h' B', m_takesTest h = some (if (rdT T p).1 = true then 1 else 0, h') ∧ MR k h' B' ∧ B' 193 12 = (rdT T p).2.1 ∧ MF B' B0 base i ∧ ((rdT T p).1 = true → MS B' (rdT T p).2.1 (whol P (C ++ (rdT T p).2.2) w).1 (whol P (C ++ (rdT T p).2.2) w).2.2 (whol P (C ++ (rdT T p).2.2) w).2.1 base) := by
  have XB := F.x X
  have tb := X.b hp.1
  have L1 := X.1.1
  have pl : m_place (T p) = placeN (T p) := place_E tb
  have e12 : h 193 12 = p := by rw [H.s12, S.1]
  unfold m_takesTest
  rw [M_next XB H hp S.1, Option.bind_some, pl]
  by_cases c1 : placeN (T p) < 0
  · have er : rdT T p = (false, p, []) := by unfold rdT; rw [if_pos c1]
    have pm : -1 ≤ placeN (T p) := by
      unfold placeN
      repeat' split
      all_goals omega
    rw [er, if_pos (by rw [wwP (by omega)]; exact c1), if_neg (by simp)]
    exact ⟨h, B, rfl, H, S.1, F, fun z => by simp at z⟩
  · have pbd := placeN_b c1
    have pL := lt_L X.1 (p := p) (by omega)
    have H1 : MR k (u2 h 193 12 (p + 1)) (u2 B 193 12 (p + 1)) := H.w (by omega)
    have S1 := S.pos (q := p + 1)
    have F1 : MF (u2 B 193 12 (p + 1)) B0 base i := F.w (by omega)
    have tb1 := X.b (p := p + 1) (by omega)
    rw [if_neg (by rw [wwP (by omega)]; exact c1), e12, M_next (F1.x X) H1 (by omega) S1.1, Option.bind_some]
    by_cases c2 : 60 ≤ T (p + 1) ∧ T (p + 1) ≤ 62
    · have pL1 := lt_L X.1 (p := p + 1) (by omega)
      have H2 : MR k (u2 (u2 h 193 12 (p + 1)) 193 12 (p + 1 + 1)) (u2 (u2 B 193 12 (p + 1)) 193 12 (p + 1 + 1)) := H1.w (by omega)
      have S2 := S1.pos (q := p + 1 + 1)
      have F2 : MF (u2 (u2 B 193 12 (p + 1)) 193 12 (p + 1 + 1)) B0 base i := F1.w (by omega)
      rw [if_neg (by rw [m_in0 (by omega)]; decide), u2S]
      obtain ⟨h3, B3, e3, H3, p3, o3, v3⟩ := M_num (p := p + 2) (F2.x X) H2 (by omega) (by rw [u2S]; omega)
      rw [e3, Option.bind_some]
      have F3 : MF B3 B0 base i := fun c j z => by rw [o3 c j (by omega)]; exact F2 c j z
      by_cases c3 : (rdN T (p + 2)).1 = true
      · have nb := rdN_p X.1 c3
        have er : rdT T p = (true, (rdN T (p + 2)).2.2, [1000 * placeN (T p) + 100 * (T (p + 1) - 60) + (rdN T (p + 2)).2.1]) := by
          unfold rdT
          rw [if_neg c1, if_pos c2, if_pos c3]
        have S3 : MS B3 (rdN T (p + 2)).2.2 P w C base := by
          obtain ⟨s1, s2, s3, s4, s5, s6⟩ := S2
          exact ⟨p3, by rw [o3 _ _ (by omega)]; exact s2, fun j hj => by rw [o3 _ _ (by omega)]; exact s3 j hj, by rw [o3 _ _ (by omega)]; exact s4, fun j hj => by rw [o3 _ _ (by omega)]; exact s5 j hj, by rw [o3 _ _ (by omega)]; exact s6⟩
        have ev : h3 193 13 = (rdN T (p + 2)).2.1 := by rw [H3.s13, v3 c3]
        rw [er, if_pos c3, if_neg (show ¬ ww (1 : Int) = 0 by decide)]
        dsimp only
        rw [ev]
        obtain ⟨m1, m2⟩ := M_emits (z := 1000 * placeN (T p) + 100 * (T (p + 1) - 60) + (rdN T (p + 2)).2.1) H3 S3 (by omega)
        rw [m1, Option.bind_some]
        obtain ⟨h4, B4, e4, H4, S4, F4⟩ := M_whole_L (B0 := B0) (i := i) P FU k _ _ _ w (C ++ [1000 * placeN (T p) + 100 * (T (p + 1) - 60) + (rdN T (p + 2)).2.1]) (by unfold FU; omega) pb m2 (S3.emit rfl) ((F3.w (by omega)).w (by omega)) (by rw [List.length_append, List.length_singleton]; omega)
        have e4 : m_whole _ = some h4 := e4
        rw [e4, Option.bind_some, if_pos rfl]
        exact ⟨h4, B4, rfl, H4, S4.1, F4, fun _ => S4⟩
      · have er : rdT T p = (false, p + 2, []) := by
          unfold rdT
          rw [if_neg c1, if_pos c2, if_neg c3]
        rw [er, if_neg c3, if_pos (show ww (0 : Int) = 0 by decide), if_neg (by simp)]
        refine ⟨h3, B3, rfl, H3, ?_, F3, fun z => by simp at z⟩
        rw [p3, rdN_f c3]
    · have er : rdT T p = (false, p + 1, []) := by
        unfold rdT
        rw [if_neg c1, if_neg c2]
      rw [er, if_pos (by rw [m_in1 (by omega)]), if_neg (by simp)]
      exact ⟨_, _, rfl, H1, S1.1, F1, fun z => by simp at z⟩
