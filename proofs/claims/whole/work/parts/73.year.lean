/-- what of A a hater's bearing hangs on -/
theorem sumA_cg {A A' : HH} {O : Int → List CL} {p t : Int} (e1 : A' 193 10 = A 193 10) (e2 : A' 193 2 = A 193 2) (e3 : A' 194 p = A 194 p) (e4 : A' 195 p = A 195 p) (e5 : A' 196 (5 * p + t) = A 196 (5 * p + t)) : sumA A' O p t = sumA A O p t := by
  have ef : fct A' p t = fct A p t := by
    funext f
    unfold fct
    rw [e2, e3, e4, e5]
  have ew : wstep A' p t = wstep A p t := by
    funext a q
    unfold wstep evB
    rw [ef]
  have eo : orchL A' O = orchL A O := by
    unfold orchL
    rw [e1]
  unfold sumA
  rw [ew, eo, e5]
theorem forceA_cg {A A' : HH} {O : Int → List CL} {p t : Int} (e1 : A' 193 10 = A 193 10) (e2 : A' 193 2 = A 193 2) (e3 : A' 194 p = A 194 p) (e4 : A' 195 p = A 195 p) (e5 : A' 196 (5 * p + t) = A 196 (5 * p + t)) (e6 : ∀ j, A' 197 j = A 197 j) : forceA A' O p t = forceA A O p t := by
  unfold forceA
  rw [sumA_cg e1 e2 e3 e4 e5, e2, e3, e4, e5, e6]
theorem needA_cg {A A' : HH} {O : Int → List CL} (e1 : A' 193 10 = A 193 10) : needA A' O = needA A O := by
  unfold needA orchL
  rw [e1]
theorem wearA_cg {A A' : HH} {O : Int → List CL} (e1 : A' 193 10 = A 193 10) : wearA A' O = wearA A O := by
  unfold wearA orchL
  rw [e1]
theorem bearA_cg {A A' : HH} {O : Int → List CL} {p t : Int} (e0 : A' 193 1 = A 193 1) (e1 : A' 193 10 = A 193 10) (e2 : A' 193 2 = A 193 2) (e3 : A' 194 p = A 194 p) (e4 : A' 195 p = A 195 p) (e5 : A' 196 (5 * p + t) = A 196 (5 * p + t)) (e6 : ∀ j, A' 197 j = A 197 j) : bearA A' O p t = bearA A O p t := by
  unfold bearA
  rw [forceA_cg e1 e2 e3 e4 e5 e6, needA_cg e1, e0]
theorem bear_01 {A : HH} {O : Int → List CL} {p t : Int} : bearA A O p t = 0 ∨ bearA A O p t = 1 := by
  unfold bearA
  repeat' split
  all_goals simp
theorem OM.cg {A A' : HH} {O : Int → List CL} (H : OM A O) (e1 : A' 193 10 = A 193 10) (e2 : ∀ c j, orchC c j → A' c j = A c j) : OM A' O := by
  unfold OM
  rw [e1]
  exact ⟨H.1, H.2.1, fun z => (H.2.2 z).cg e2⟩
/-- whether a tree bears with its leader -/
def bt (A : HH) (O : Int → List CL) (t : Int) : Int := if A 199 t < 0 then 0 else bearA A O (A 199 t) t
theorem bt_01 {A : HH} {O : Int → List CL} {t : Int} : bt A O t = 0 ∨ bt A O t = 1 := by
  unfold bt
  split
  · exact .inl rfl
  · exact bear_01
def bst (x t b : Int) : Int := if b = 0 then x else zor x (zshl 1 t)
def bsetN (A : HH) (O : Int → List CL) : Nat → Int
  | 0 => 0
  | n + 1 => bst (bsetN A O n) n (bt A O n)
theorem bset_fin : ∀ b0 b1 b2 b3 b4 : Fin 2, ∀ t : Fin 5, m_has (bst (bst (bst (bst (bst 0 0 (b0.val : Int)) 1 (b1.val : Int)) 2 (b2.val : Int)) 3 (b3.val : Int)) 4 (b4.val : Int)) (t.val : Int) = if t.val = 0 then (b0.val : Int) else if t.val = 1 then (b1.val : Int) else if t.val = 2 then (b2.val : Int) else if t.val = 3 then (b3.val : Int) else (b4.val : Int) := by decide +kernel
theorem bst_fin : ∀ (x : Fin 32) (t : Fin 5), 0 ≤ zor (x.val : Int) (zshl 1 (t.val : Int)) ∧ zor (x.val : Int) (zshl 1 (t.val : Int)) < 32 := by decide +kernel
theorem bst_b {x t b : Int} (hx : 0 ≤ x ∧ x < 32) (ht : 0 ≤ t ∧ t < 5) : 0 ≤ bst x t b ∧ bst x t b < 32 := by
  unfold bst
  split
  · exact hx
  · obtain ⟨x', rfl⟩ := fin_of (n := 32) hx
    obtain ⟨t', rfl⟩ := fin_of (n := 5) ht
    exact bst_fin x' t'
theorem bset_b {A : HH} {O : Int → List CL} : ∀ n : Nat, n ≤ 5 → 0 ≤ bsetN A O n ∧ bsetN A O n < 32
  | 0, _ => ⟨Int.le_refl 0, by show (0 : Int) < 32; decide⟩
  | n + 1, h => bst_b (bset_b n (by omega)) (by omega)
theorem bset_has {A : HH} {O : Int → List CL} {t : Int} (ht : 0 ≤ t ∧ t < 5) : m_has (bsetN A O 5) t = bt A O t := by
  obtain ⟨b0, e0⟩ := fin_of (n := 2) (p := bt A O 0) (by have := @bt_01 A O 0; omega)
  obtain ⟨b1, e1⟩ := fin_of (n := 2) (p := bt A O 1) (by have := @bt_01 A O 1; omega)
  obtain ⟨b2, e2⟩ := fin_of (n := 2) (p := bt A O 2) (by have := @bt_01 A O 2; omega)
  obtain ⟨b3, e3⟩ := fin_of (n := 2) (p := bt A O 3) (by have := @bt_01 A O 3; omega)
  obtain ⟨b4, e4⟩ := fin_of (n := 2) (p := bt A O 4) (by have := @bt_01 A O 4; omega)
  obtain ⟨t', rfl⟩ := fin_of (n := 5) ht
  have K := bset_fin b0 b1 b2 b3 b4 t'
  show m_has (bst (bst (bst (bst (bst 0 0 (bt A O 0)) 1 (bt A O 1)) 2 (bt A O 2)) 3 (bt A O 3)) 4 (bt A O 4)) (t'.val : Int) = _
  rw [e0, e1, e2, e3, e4, K]
  have : t'.val = 0 ∨ t'.val = 1 ∨ t'.val = 2 ∨ t'.val = 3 ∨ t'.val = 4 := by omega
  rcases this with h | h | h | h | h <;> simp only [h]
  · exact e0.symm
  · exact e1.symm
  · exact e2.symm
  · exact e3.symm
  · exact e4.symm
theorem M_bset_L {k A : HH} {Y N : Int} (W : WO Y N A) (hY : Y ≤ 20000) {O : Int → List CL} (hO : OM A O) : ∀ (d n j : Nat) (h : HH), j + d = 5 → d < n → MR k h A → ∃ h', m_bearSet_L4 n h (bsetN A O j) j = some (bsetN A O 5, h') ∧ MR k h' A := by
  intro d
  induction d with
  | zero =>
    intro n j h e hn H
    obtain ⟨n, rfl⟩ : ∃ m, n = m + 1 := ⟨n - 1, by omega⟩
    have e : j = 5 := by omega
    subst e
    rw [m_bearSet_L4]
    simp (disch := omega) only [reduceIte, ltT, ltF, eqT, eqF, leT, leF, wwP, ckP, ckzP, ckbP, u2S, u2N, u2T, ↓Option.bind_some, inB_T, inB_F, Bool.false_eq_true, m_in0, m_in1]
    exact ⟨h, rfl, H⟩
  | succ d ih =>
    intro n j h e hn H
    obtain ⟨n, rfl⟩ : ∃ m, n = m + 1 := ⟨n - 1, by omega⟩
    rw [m_bearSet_L4]
    have n0 := W.1
    have l := W.2.2.2.2.2.2.2.2.2.1 j (by omega) (by omega)
    have xb := @bset_b A O j (by omega)
    have ii := fun h' => ih n (j + 1) h' (by omega) (by omega)
    have e1 : ((j + 1 : Nat) : Int) = (j : Int) + 1 := rfl
    have eb : bsetN A O (j + 1) = bst (bsetN A O j) j (bt A O j) := rfl
    rw [eb] at ii
    have z0 := zor0 (x := bsetN A O j) (by omega)
    by_cases c : A 199 j < 0
    · have e2 : bt A O j = 0 := by unfold bt; rw [if_pos c]
      rw [e2, show bst (bsetN A O j) j 0 = bsetN A O j from rfl] at ii
      simp (disch := omega) only [reduceIte, ltT, ltF, eqT, eqF, leT, leF, wwP, ckP, ckzP, ckbP, u2S, u2N, u2T, ↓Option.bind_some, inB_T, inB_F, Bool.false_eq_true, m_in0, m_in1, H.r199, z0]
      exact ii h H
    · obtain ⟨h1, e3, H1⟩ := M_bears H W hY (p := A 199 j) (t := j) (by omega) (by omega) hO
      have e2 : bt A O j = bearA A O (A 199 j) j := by unfold bt; rw [if_neg c]
      rw [e2] at ii
      rcases @bear_01 A O (A 199 j) j with b | b
      · rw [b, show bst (bsetN A O j) j 0 = bsetN A O j from rfl] at ii
        rw [b] at e3
        simp (disch := omega) only [reduceIte, ltT, ltF, eqT, eqF, leT, leF, wwP, ckP, ckzP, ckbP, u2S, u2N, u2T, ↓Option.bind_some, inB_T, inB_F, Bool.false_eq_true, m_in0, m_in1, H.r199, z0, e3]
        exact ii h1 H1
      · rw [b, show bst (bsetN A O j) j 1 = zor (bsetN A O j) (zshl 1 j) from rfl] at ii
        rw [b] at e3
        simp (disch := omega) only [reduceIte, ltT, ltF, eqT, eqF, leT, leF, wwP, ckP, ckzP, ckbP, u2S, u2N, u2T, ↓Option.bind_some, inB_T, inB_F, Bool.false_eq_true, m_in0, m_in1, H.r199, e3]
        exact ii h1 H1
theorem M_bset {k h A : HH} {Y N : Int} (H : MR k h A) (W : WO Y N A) (hY : Y ≤ 20000) {O : Int → List CL} (hO : OM A O) : ∃ h', m_bearSet h = some (bsetN A O 5, h') ∧ MR k h' A := M_bset_L W hY hO 5 FU 0 h rfl (by decide) H
theorem X_bset_L {S : SS} {A : HH} {Y N w : Int} (hw : w = 1 ∨ w = 50 ∨ w = 99) (W : WO Y N A) (hY : Y ≤ 20000) {O : Int → List CL} (hO : OM A O) : ∀ (d n j : Nat) (h : HH), j + d = 5 → d < n → XC S h w A → OX h A O → ∃ h', xw_bearing_L4 S w n h (bsetN A O j) j = some (bsetN A O 5, h') ∧ ∀ c i, c ≠ w + 48 → h' c i = h c i := by
  intro d
  induction d with
  | zero =>
    intro n j h e hn C hX
    obtain ⟨n, rfl⟩ : ∃ m, n = m + 1 := ⟨n - 1, by omega⟩
    have e : j = 5 := by omega
    subst e
    rw [xw_bearing_L4]
    simp (disch := omega) only [reduceIte, ltT, ltF, eqT, eqF, leT, leF, wwP, ckP, ckzP, ckbP, u2S, u2N, u2T, ↓Option.bind_some, inB_T, inB_F, Bool.false_eq_true, m_in0, m_in1]
    exact ⟨h, rfl, fun _ _ _ => rfl⟩
  | succ d ih =>
    intro n j h e hn C hX
    obtain ⟨n, rfl⟩ : ∃ m, n = m + 1 := ⟨n - 1, by omega⟩
    rw [xw_bearing_L4]
    have n0 := W.1
    have n1 := C.1.2.2
    have l := W.2.2.2.2.2.2.2.2.2.1 j (by omega) (by omega)
    have g10 := C.2.2.2.2.2.2.2.2.2 j (by omega) (by omega)
    have ii := fun h' => ih n (j + 1) h' (by omega) (by omega)
    have e1 : ((j + 1 : Nat) : Int) = (j : Int) + 1 := rfl
    have eb : bsetN A O (j + 1) = bst (bsetN A O j) j (bt A O j) := rfl
    rw [eb] at ii
    by_cases c : A 199 j < 0
    · have e2 : bt A O j = 0 := by unfold bt; rw [if_pos c]
      rw [e2, show bst (bsetN A O j) j 0 = bsetN A O j from rfl] at ii
      simp (disch := omega) only [reduceIte, ltT, ltF, eqT, eqF, leT, leF, wwP, ckP, ckzP, ckbP, u2S, u2N, u2T, ↓Option.bind_some, inB_T, inB_F, Bool.false_eq_true, m_in0, m_in1, ww_hasT, ww_hasF, g10]
      exact ii h C hX
    · obtain ⟨h1, e3, f1⟩ := X_bears (S := S) (h := h) hw C W hY (p := A 199 j) (t := j) (by omega) (by omega) hO hX
      have e2 : bt A O j = bearA A O (A 199 j) j := by unfold bt; rw [if_neg c]
      rw [e2] at ii
      have C1 : XC S h1 w A := C.cg (fun a b q => f1 a b (by rcases q with q | q; omega; have := isHb_ge q; omega)) (fun _ _ _ => rfl)
      have hX1 : OX h1 A O := fun z => (hX z).cg (fun a b _ _ => f1 a b (by have := hO.2.1; omega))
      rcases @bear_01 A O (A 199 j) j with b | b
      · rw [b, show bst (bsetN A O j) j 0 = bsetN A O j from rfl] at ii
        rw [b] at e3
        simp (disch := omega) only [reduceIte, ltT, ltF, eqT, eqF, leT, leF, wwP, ckP, ckzP, ckbP, u2S, u2N, u2T, ↓Option.bind_some, inB_T, inB_F, Bool.false_eq_true, m_in0, m_in1, ww_hasT, ww_hasF, g10, e3]
        obtain ⟨h2, e4, f2⟩ := ii h1 C1 hX1
        exact ⟨h2, e4, fun c i z => by rw [f2 c i z, f1 c i z]⟩
      · rw [b, show bst (bsetN A O j) j 1 = zor (bsetN A O j) (zshl 1 j) from rfl] at ii
        rw [b] at e3
        simp (disch := omega) only [reduceIte, ltT, ltF, eqT, eqF, leT, leF, wwP, ckP, ckzP, ckbP, u2S, u2N, u2T, ↓Option.bind_some, inB_T, inB_F, Bool.false_eq_true, m_in0, m_in1, ww_hasT, ww_hasF, g10, e3]
        obtain ⟨h2, e4, f2⟩ := ii h1 C1 hX1
        exact ⟨h2, e4, fun c i z => by rw [f2 c i z, f1 c i z]⟩
theorem X_bset {S : SS} {h A : HH} {Y N w : Int} (hw : w = 1 ∨ w = 50 ∨ w = 99) (C : XC S h w A) (W : WO Y N A) (hY : Y ≤ 20000) {O : Int → List CL} (hO : OM A O) (hX : OX h A O) : ∃ h', xw_bearing S h w = some (bsetN A O 5, h') ∧ ∀ c i, c ≠ w + 48 → h' c i = h c i := X_bset_L hw W hY hO 5 FU 0 h rfl (by decide) C hX
