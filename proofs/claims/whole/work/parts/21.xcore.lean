def zmax (a b : Int) : Int := if ww a < ww b then b else a
/-- n items of the row k0 from sp on come to the row k1 from dp on -/
def cpA (h : HH) (k0 sp k1 dp n : Int) : HH := fun a b => if a = k1 ∧ dp ≤ b ∧ b < dp + n then h k0 (sp + (b - dp)) else h a b
theorem ent_cpA_ne {dT : ZT} {bs : Nat} {h : HH} {S : SS} {k0 sp k1 dp n a : Int} (hn : a ≠ k1) : ent dT bs (cpA h k0 sp k1 dp n) S a = ent dT bs h S a := by
  simp [ent, fldV, cpA, hn]
section ZA
variable {D : va_G} {dT : ZT} {bs nL : Nat} {own : String} {cc : ByteArray} {ret : Option FieldType} {p : Program} {l : Launch} {e : Env} {R : Room} {s : State} {m : MethodId} {args : Array Value} {below : List Frame} {meth : Method} {c : Code} {cells slots : Nat} {Q : State → Prop} {h : HH} {S : SS} {pc pc' tgt : Nat} {L L' : List (Nat × Value)} {st : List Value} {H : Heap} {locs : List Loc} {ls : Array Slot}

theorem r_acpI (C : Cx D dT bs own cc nL ret p s m args meth c) {k0 k1 n0 n1 sp dp n sp' dp' n' : Int} {ix : Nat} (hk0 : KD S k0 20 n0) (hk1 : KD S k1 20 n1) (e1 : ww sp = sp') (e2 : ww dp = dp') (e3 : ww n = n') (c1 : 0 ≤ sp') (c2 : 0 ≤ dp') (c3 : 0 ≤ n') (c4 : 0 ≤ sp' + n' ∧ sp' + n' < n0 + 1) (c5 : 0 ≤ dp' + n' ∧ dp' + n' < n1 + 1) (w1 : Cond.methodLink own ix arraycopyName ∈ lwb) (w2 : Cond.native arraycopyName ∈ lwb) (w3 : Cond.static arraycopyName ∈ lwb) (w4 : Cond.initialized "java/lang/System" ∈ lwb) (hfr : 1 ≤ R.frames) (hlo : (st.map fun v => v.category).sum + (nativeFrameWords "java/lang/System" "arraycopy" 5 + 11) ≤ R.locals) (hd : decode cc pc = .ok (.invokestatic ix, 3)) (hp : pc + 3 = pc') (kk : V D dT bs nL p l e R s m args below meth c cells slots Q (cpA h k0 sp' k1 dp' n') S pc' L st) : V D dT bs nL p l e R s m args below meth c cells slots Q h S pc L (zI n :: zI dp :: zP bs k1 :: zI sp :: zP bs k0 :: st) := by
  intro H locs ls hP hS hl
  subst hp
  have hts := C.2.2.2.2.1
  have hc0 := hP.at hk0.1 hk0.2.1
  have hc1 := hP.at hk1.1 hk1.2.1
  rw [ent_arI hk0] at hc0
  rw [ent_arI hk1] at hc1
  have hK := (C.2.2.2.2.2.2.2.1.2 0 _ (tyL_at (dT := dT) (t := 0) (by decide))).1
  obtain ⟨-, q0, hq0, cm0, hkk0⟩ := hK n0.toNat (fun j => .int (Int32.ofInt (h k0 j)))
  obtain ⟨-, q1, hq1, cm1, hkk1⟩ := hK n1.toNat (fun j => .int (Int32.ofInt (h k1 j)))
  have ne : ∀ {a a' : Int}, ww a = a' → 0 ≤ a' → ¬ Int32.ofInt a < 0 := fun {a a'} ha h0 q => by
    have := ww_lt0.mp q
    omega
  have f1 := ww_cl e1 c1
  have f2 := ww_cl e2 c2
  have f3 := ww_cl e3 c3
  have g1 : (Int32.ofInt sp).toInt = sp' := e1
  have g2 : (Int32.ofInt dp).toInt = dp' := e2
  have g3 : (Int32.ofInt n).toInt = n' := e3
  intro T hT X
  obtain ⟨vm', X', step⟩ := X.arraycopy C.1 C.2.2.2.1 (hts _ w1) (hts _ w2) (hts _ w3) (hts _ w4) (src := bs + k0.toNat) (dst := bs + k1.toNat) (cs := vp_cell (dT.1 0) (n0.toNat, .inl (fun j : Nat => Int32.ofInt (h k0 j)))) (cd := vp_cell (dT.1 0) (n1.toNat, .inl (fun j : Nat => Int32.ofInt (h k1 j)))) (srcPos := Int32.ofInt sp) (destPos := Int32.ofInt dp) (n := Int32.ofInt n) (by rw [hT]; exact hc0) (by rw [hT]; exact hc1)
    (fun _ h => by cases h) (fun _ h => by cases h) (fun h => by cases h) (fun h => by cases h) hq0 hq1 hkk0 hkk1 (by simp [tyA, refKind]) (ne e1 c1) (ne e2 c2) (ne e3 c3)
    (by rw [g1, g3]; show ¬ _ > ((arrV _ n0.toNat (fun j => .int (Int32.ofInt (h k0 j)))).slots.size : Int); rw [arrV_size]; omega)
    (by rw [g2, g3]; show ¬ _ > ((arrV _ n1.toNat (fun j => .int (Int32.ofInt (h k1 j)))).slots.size : Int); rw [arrV_size]; omega)
    (fun vm₁ _ i hi => by
      have e : (vp_cell (dT.1 0) (n0.toNat, .inl (fun j : Nat => Int32.ofInt (h k0 j)))).slots.getD ((Int32.ofInt sp).toNatClampNeg + i) .null = .int (Int32.ofInt (h k0 ((Int32.ofInt sp).toNatClampNeg + i : Nat))) := by
        show (arrV _ n0.toNat (fun j => .int (Int32.ofInt (h k0 j)))).slots.getD _ _ = _
        rw [Array.getD_eq_getD_getElem?, arrV_read _ _ (by rw [f1]; rw [f3] at hi; omega)]
        rfl
      refine ⟨?_, ?_⟩
      · rw [e]; rfl
      · rw [e]; exact trivial)
    (g := F0 m pc ls (zI n :: zI dp :: zP bs k1 :: zI sp :: zP bs k0 :: st)) rfl (by rw [C.2.2.1]; exact hl.1) (rest := st) rfl (by rw [C.2.1]; exact hd) hfr (by show 2 * 0 + _ + _ ≤ _; omega)
  have e1' : copied (vp_cell (dT.1 0) (n0.toNat, .inl (fun j : Nat => Int32.ofInt (h k0 j)))) (vp_cell (dT.1 0) (n1.toNat, .inl (fun j : Nat => Int32.ofInt (h k1 j)))) (Int32.ofInt sp) (Int32.ofInt dp) (Int32.ofInt n) = vp_cell (dT.1 0) (n1.toNat, .inl (va_cpy (fun j : Nat => Int32.ofInt (h k0 j)) (fun j : Nat => Int32.ofInt (h k1 j)) (Int32.ofInt sp).toNatClampNeg (Int32.ofInt dp).toNatClampNeg (Int32.ofInt n).toNatClampNeg)) := va_copied (fun z : Int32 => (.int z : Value)) (dT.1 0) (dT.1 0) (fun j : Nat => Int32.ofInt (h k0 j)) (fun j : Nat => Int32.ofInt (h k1 j)) (by rw [f1, f3]; omega)
  rw [e1'] at X' step
  have hl1 : bs + k1.toNat < H.size := (Array.getElem?_eq_some_iff.mp hc1).1
  have hw : (fun j : Nat => Int32.ofInt (cpA h k0 sp' k1 dp' n' k1 j)) = va_cpy (fun j : Nat => Int32.ofInt (h k0 j)) (fun j : Nat => Int32.ofInt (h k1 j)) (Int32.ofInt sp).toNatClampNeg (Int32.ofInt dp).toNatClampNeg (Int32.ofInt n).toNatClampNeg := by
    funext j
    rw [f1, f2, f3]
    unfold va_cpy cpA
    by_cases hj : dp'.toNat ≤ j ∧ j < dp'.toNat + n'.toNat
    · rw [if_pos hj, if_pos (by omega)]
      congr 2
      omega
    · rw [if_neg hj, if_neg (by omega)]
  have hheap : ∀ x : Cell, ((T.setVm vm').setCell (bs + k1.toNat) x).heap = H.setIfInBounds (bs + k1.toNat) x := fun x => by rw [← hT]; rfl
  have oq : ∀ x : Cell, ∀ q : Nat, q ≠ bs + k1.toNat → (H.setIfInBounds (bs + k1.toNat) x)[q]? = H[q]? := fun x q hq => by simp [Array.getElem?_setIfInBounds, Ne.symm hq]
  obtain ⟨t, a1, b1⟩ := kk _ _ ls (hP.set (h' := cpA h k0 sp' k1 dp' n') (S' := S) hk1.1 hk1.2.1 rfl (by simp) (oq _) (fun a ha => ent_cpA_ne ha) (by
      rw [ent_arI (h := cpA h k0 sp' k1 dp' n') hk1, hw]
      show (H.setIfInBounds _ _)[_]? = some (vp_cell _ _)
      simp [Array.getElem?_setIfInBounds, hl1])) ⟨by simp; exact hS.1, fun q g1 g2 => by
      rw [oq _ q (fun e => g2 (by show bs ≤ q; omega))]
      exact hS.2.1 q g1 g2, fun q hq => by
      rcases List.mem_append.mp hq with h | h
      · exact hS.2.2 q h
      · obtain ⟨z, -, hz⟩ := List.mem_map.mp h
        rw [← hz]
        show bs ≤ _
        exact Nat.le_add_right _ _⟩ hl _ (hheap _) X'
  exact ⟨t, step t a1, b1⟩
theorem r_acpL (C : Cx D dT bs own cc nL ret p s m args meth c) {k0 k1 n0 n1 sp dp n sp' dp' n' : Int} {ix : Nat} (hk0 : KD S k0 21 n0) (hk1 : KD S k1 21 n1) (e1 : ww sp = sp') (e2 : ww dp = dp') (e3 : ww n = n') (c1 : 0 ≤ sp') (c2 : 0 ≤ dp') (c3 : 0 ≤ n') (c4 : 0 ≤ sp' + n' ∧ sp' + n' < n0 + 1) (c5 : 0 ≤ dp' + n' ∧ dp' + n' < n1 + 1) (w1 : Cond.methodLink own ix arraycopyName ∈ lwb) (w2 : Cond.native arraycopyName ∈ lwb) (w3 : Cond.static arraycopyName ∈ lwb) (w4 : Cond.initialized "java/lang/System" ∈ lwb) (hfr : 1 ≤ R.frames) (hlo : (st.map fun v => v.category).sum + (nativeFrameWords "java/lang/System" "arraycopy" 5 + 11) ≤ R.locals) (hd : decode cc pc = .ok (.invokestatic ix, 3)) (hp : pc + 3 = pc') (kk : V D dT bs nL p l e R s m args below meth c cells slots Q (cpA h k0 sp' k1 dp' n') S pc' L st) : V D dT bs nL p l e R s m args below meth c cells slots Q h S pc L (zI n :: zI dp :: zP bs k1 :: zI sp :: zP bs k0 :: st) := by
  intro H locs ls hP hS hl
  subst hp
  have hts := C.2.2.2.2.1
  have hc0 := hP.at hk0.1 hk0.2.1
  have hc1 := hP.at hk1.1 hk1.2.1
  rw [ent_arL hk0] at hc0
  rw [ent_arL hk1] at hc1
  have hK := (C.2.2.2.2.2.2.2.1.2 1 _ (tyL_at (dT := dT) (t := 1) (by decide))).1
  obtain ⟨-, q0, hq0, cm0, hkk0⟩ := hK n0.toNat (fun j => .long (Int64.ofInt (h k0 j)))
  obtain ⟨-, q1, hq1, cm1, hkk1⟩ := hK n1.toNat (fun j => .long (Int64.ofInt (h k1 j)))
  have ne : ∀ {a a' : Int}, ww a = a' → 0 ≤ a' → ¬ Int32.ofInt a < 0 := fun {a a'} ha h0 q => by
    have := ww_lt0.mp q
    omega
  have f1 := ww_cl e1 c1
  have f2 := ww_cl e2 c2
  have f3 := ww_cl e3 c3
  have g1 : (Int32.ofInt sp).toInt = sp' := e1
  have g2 : (Int32.ofInt dp).toInt = dp' := e2
  have g3 : (Int32.ofInt n).toInt = n' := e3
  intro T hT X
  obtain ⟨vm', X', step⟩ := X.arraycopy C.1 C.2.2.2.1 (hts _ w1) (hts _ w2) (hts _ w3) (hts _ w4) (src := bs + k0.toNat) (dst := bs + k1.toNat) (cs := vp_cell (dT.1 1) (n0.toNat, .inr (.inl (fun j : Nat => Int64.ofInt (h k0 j))))) (cd := vp_cell (dT.1 1) (n1.toNat, .inr (.inl (fun j : Nat => Int64.ofInt (h k1 j))))) (srcPos := Int32.ofInt sp) (destPos := Int32.ofInt dp) (n := Int32.ofInt n) (by rw [hT]; exact hc0) (by rw [hT]; exact hc1)
    (fun _ h => by cases h) (fun _ h => by cases h) (fun h => by cases h) (fun h => by cases h) hq0 hq1 hkk0 hkk1 (by simp [tyA, refKind]) (ne e1 c1) (ne e2 c2) (ne e3 c3)
    (by rw [g1, g3]; show ¬ _ > ((arrV _ n0.toNat (fun j => .long (Int64.ofInt (h k0 j)))).slots.size : Int); rw [arrV_size]; omega)
    (by rw [g2, g3]; show ¬ _ > ((arrV _ n1.toNat (fun j => .long (Int64.ofInt (h k1 j)))).slots.size : Int); rw [arrV_size]; omega)
    (fun vm₁ _ i hi => by
      have e : (vp_cell (dT.1 1) (n0.toNat, .inr (.inl (fun j : Nat => Int64.ofInt (h k0 j))))).slots.getD ((Int32.ofInt sp).toNatClampNeg + i) .null = .long (Int64.ofInt (h k0 ((Int32.ofInt sp).toNatClampNeg + i : Nat))) := by
        show (arrV _ n0.toNat (fun j => .long (Int64.ofInt (h k0 j)))).slots.getD _ _ = _
        rw [Array.getD_eq_getD_getElem?, arrV_read _ _ (by rw [f1]; rw [f3] at hi; omega)]
        rfl
      refine ⟨?_, ?_⟩
      · rw [e]; rfl
      · rw [e]; exact trivial)
    (g := F0 m pc ls (zI n :: zI dp :: zP bs k1 :: zI sp :: zP bs k0 :: st)) rfl (by rw [C.2.2.1]; exact hl.1) (rest := st) rfl (by rw [C.2.1]; exact hd) hfr (by show 2 * 0 + _ + _ ≤ _; omega)
  have e1' : copied (vp_cell (dT.1 1) (n0.toNat, .inr (.inl (fun j : Nat => Int64.ofInt (h k0 j))))) (vp_cell (dT.1 1) (n1.toNat, .inr (.inl (fun j : Nat => Int64.ofInt (h k1 j))))) (Int32.ofInt sp) (Int32.ofInt dp) (Int32.ofInt n) = vp_cell (dT.1 1) (n1.toNat, .inr (.inl (va_cpy (fun j : Nat => Int64.ofInt (h k0 j)) (fun j : Nat => Int64.ofInt (h k1 j)) (Int32.ofInt sp).toNatClampNeg (Int32.ofInt dp).toNatClampNeg (Int32.ofInt n).toNatClampNeg))) := va_copied (fun z : Int64 => (.long z : Value)) (dT.1 1) (dT.1 1) (fun j : Nat => Int64.ofInt (h k0 j)) (fun j : Nat => Int64.ofInt (h k1 j)) (by rw [f1, f3]; omega)
  rw [e1'] at X' step
  have hl1 : bs + k1.toNat < H.size := (Array.getElem?_eq_some_iff.mp hc1).1
  have hw : (fun j : Nat => Int64.ofInt (cpA h k0 sp' k1 dp' n' k1 j)) = va_cpy (fun j : Nat => Int64.ofInt (h k0 j)) (fun j : Nat => Int64.ofInt (h k1 j)) (Int32.ofInt sp).toNatClampNeg (Int32.ofInt dp).toNatClampNeg (Int32.ofInt n).toNatClampNeg := by
    funext j
    rw [f1, f2, f3]
    unfold va_cpy cpA
    by_cases hj : dp'.toNat ≤ j ∧ j < dp'.toNat + n'.toNat
    · rw [if_pos hj, if_pos (by omega)]
      congr 2
      omega
    · rw [if_neg hj, if_neg (by omega)]
  have hheap : ∀ x : Cell, ((T.setVm vm').setCell (bs + k1.toNat) x).heap = H.setIfInBounds (bs + k1.toNat) x := fun x => by rw [← hT]; rfl
  have oq : ∀ x : Cell, ∀ q : Nat, q ≠ bs + k1.toNat → (H.setIfInBounds (bs + k1.toNat) x)[q]? = H[q]? := fun x q hq => by simp [Array.getElem?_setIfInBounds, Ne.symm hq]
  obtain ⟨t, a1, b1⟩ := kk _ _ ls (hP.set (h' := cpA h k0 sp' k1 dp' n') (S' := S) hk1.1 hk1.2.1 rfl (by simp) (oq _) (fun a ha => ent_cpA_ne ha) (by
      rw [ent_arL (h := cpA h k0 sp' k1 dp' n') hk1, hw]
      show (H.setIfInBounds _ _)[_]? = some (vp_cell _ _)
      simp [Array.getElem?_setIfInBounds, hl1])) ⟨by simp; exact hS.1, fun q g1 g2 => by
      rw [oq _ q (fun e => g2 (by show bs ≤ q; omega))]
      exact hS.2.1 q g1 g2, fun q hq => by
      rcases List.mem_append.mp hq with h | h
      · exact hS.2.2 q h
      · obtain ⟨z, -, hz⟩ := List.mem_map.mp h
        rw [← hz]
        show bs ≤ _
        exact Nat.le_add_right _ _⟩ hl _ (hheap _) X'
  exact ⟨t, step t a1, b1⟩
theorem r_max (C : Cx D dT bs own cc nL ret p s m args meth c) {a b : Int} {ix : Nat} (w1 : Cond.methodLink own ix Lib.Math.max.name ∈ lwb) (w2 : Cond.static Lib.Math.max.name ∈ lwb) (w3 : Cond.initialized "java/lang/Math" ∈ lwb) (w4 : Cond.code Lib.Math.max.name Lib.Math.max.code 2 (some .int) ∈ lwb) (hfr : 1 ≤ R.frames) (hlo : (st.map fun v => v.category).sum + 13 ≤ R.locals) (hcs : cells ≤ R.cells ∧ slots ≤ R.slots) (hd : decode cc pc = .ok (.invokestatic ix, 3)) (hp : pc + 3 = pc') (kk : V D dT bs nL p l e R s m args below meth c cells slots Q h S pc' L (zI (zmax a b) :: st)) : V D dT bs nL p l e R s m args below meth c cells slots Q h S pc L (zI b :: zI a :: st) := by
  intro H locs ls hP hS hl
  subst hp
  have hts := C.2.2.2.2.1
  refine va_mmax C.1 C.2.1 (by rw [C.2.2.1]; exact hl.1.symm) C.2.2.2.1 (hts _ w1) (hts _ w2) (hts _ w3) (hts _ w4) hfr hlo hcs.1 hcs.2 hd ?_
  have k := kk H locs ls hP hS hl
  have e : (if Int32.ofInt a < Int32.ofInt b then Int32.ofInt b else Int32.ofInt a) = Int32.ofInt (zmax a b) := by
    unfold zmax
    by_cases hq : ww a < ww b
    · rw [if_pos (ww_lt.mpr hq), if_pos hq]
    · rw [if_neg (fun z => hq (ww_lt.mp z)), if_neg hq]
  rw [e]
  exact k
end ZA
-- pointers that are known by their kind alone
def isW (w : Int) : Prop := w = 1 ∨ w = 50 ∨ w = 99
def isR (r : Int) : Prop := r = 20 ∨ r = 27 ∨ r = 39 ∨ r = 69 ∨ r = 76 ∨ r = 88 ∨ r = 118 ∨ r = 125 ∨ r = 137
def rlen (r : Int) : Int := if r = 20 ∨ r = 69 ∨ r = 118 then 5 else if r = 27 ∨ r = 76 ∨ r = 125 then 10 else 8
def isO (o : Int) : Prop := o = 175 ∨ o = 178 ∨ o = 181 ∨ o = 184 ∨ o = 187 ∨ o = 190
def isOb (o : Int) : Bool := decide (o = 175 ∨ o = 178 ∨ o = 181 ∨ o = 184 ∨ o = 187 ∨ o = 190)
def isHb (S : SS) (q : Int) : Bool := decide (243 ≤ q ∧ q < S.2 ∧ (S.1 q (-1) = 0 ∨ S.1 q (-1) = 1 ∨ S.1 q (-1) = 2 ∨ S.1 q (-1) = 3 ∨ S.1 q (-1) = 4 ∨ S.1 q (-1) = 8 ∨ S.1 q (-1) = 9) ∧ S.1 q (-2) = 0 ∧ S.1 q 3 = 151)
def ckh {α : Type} (S : SS) (q : Int) (x : Option α) : Option α := if isHb S q = true then x else none
def ckO {α : Type} (q : Int) (x : Option α) : Option α := if isOb q = true then x else none
/-- null, or a hater's -/
def ckhn {α : Type} (S : SS) (v : Int) (x : Option α) : Option α := if v ≤ 0 ∨ isHb S (v - 1) = true then x else none
theorem ckh_in {α : Type} {S : SS} {q : Int} {x : Option α} {r : α} (h : ckh S q x = some r) : isHb S q = true ∧ x = some r := by
  unfold ckh at h
  by_cases c : isHb S q = true
  · rw [if_pos c] at h; exact ⟨c, h⟩
  · rw [if_neg c] at h; cases h
theorem ckhn_in {α : Type} {S : SS} {v : Int} {x : Option α} {r : α} (h : ckhn S v x = some r) : (v ≤ 0 ∨ isHb S (v - 1) = true) ∧ x = some r := by
  unfold ckhn at h
  by_cases c : v ≤ 0 ∨ isHb S (v - 1) = true
  · rw [if_pos c] at h; exact ⟨c, h⟩
  · rw [if_neg c] at h; cases h
theorem ckO_in {α : Type} {q : Int} {x : Option α} {r : α} (h : ckO q x = some r) : isO q ∧ x = some r := by
  unfold ckO at h
  by_cases c : isOb q = true
  · rw [if_pos c] at h; have c2 := c; unfold isOb at c2; exact ⟨by unfold isO; exact of_decide_eq_true c2, h⟩
  · rw [if_neg c] at h; cases h
theorem isHb_at {S : SS} {q : Int} (h : isHb S q = true) : 243 ≤ q ∧ q < S.2 ∧ (S.1 q (-1) = 0 ∨ S.1 q (-1) = 1 ∨ S.1 q (-1) = 2 ∨ S.1 q (-1) = 3 ∨ S.1 q (-1) = 4 ∨ S.1 q (-1) = 8 ∨ S.1 q (-1) = 9) ∧ S.1 q (-2) = 0 ∧ S.1 q 3 = 151 := of_decide_eq_true h
theorem isHb_pos {S : SS} {v : Int} (h : isHb S (v - 1) = true) : 0 < v := by
  have := (isHb_at h).1
  omega
theorem isO_pos {v : Int} (h : isO (v - 1)) : 0 < v := by
  unfold isO at h
  omega
theorem isO_at {a : Int} (h : 0 ≤ a ∧ a < 6) : isO (175 + 3 * a) := by
  unfold isO
  omega
/-- a hater's class, in the list -/
theorem isHb_cl {S : SS} {q : Int} (h : isHb S q = true) : ∃ (ci : Nat) (Cn : String) (T : u_T), KD S q (ci : Int) 0 ∧ ci < 20 ∧ clX[ci]? = some (Cn, T, 4) ∧ (∀ j : Nat, j < 4 → T j = TX2 j) ∧ (∀ w ∈ u_ws Cn T 4, w ∈ lwb) ∧ (∀ j : Nat, j < 3 → fR ci j = false) ∧ fR ci 3 = true ∧ (ci = 0 ∨ ci = 1 ∨ ci = 2 ∨ ci = 3 ∨ ci = 4 ∨ ci = 8 ∨ ci = 9) := by
  obtain ⟨h1, h2, h3, h4, h5⟩ := isHb_at h
  have tt : ∀ T : u_T, (∀ j : Nat, j < 4 → T j = TX2 j) → ∀ j : Nat, j < 4 → T j = TX2 j := fun _ h => h
  have k : ∀ ci : Nat, S.1 q (-1) = (ci : Int) → KD S q (ci : Int) 0 := fun ci hc => ⟨by omega, h2, hc, h4⟩
  rcases h3 with h3 | h3 | h3 | h3 | h3 | h3 | h3
  · exact ⟨0, RX0, TX0, k 0 h3, by decide, rfl, by decide +kernel, uin_0, by decide +kernel, by decide +kernel, by decide⟩
  · exact ⟨1, RX1, TX1, k 1 h3, by decide, rfl, by decide +kernel, uin_1, by decide +kernel, by decide +kernel, by decide⟩
  · exact ⟨2, RX2, TX2, k 2 h3, by decide, rfl, by decide +kernel, uin_2, by decide +kernel, by decide +kernel, by decide⟩
  · exact ⟨3, RX3, TX3, k 3 h3, by decide, rfl, by decide +kernel, uin_3, by decide +kernel, by decide +kernel, by decide⟩
  · exact ⟨4, RX4, TX4, k 4 h3, by decide, rfl, by decide +kernel, uin_4, by decide +kernel, by decide +kernel, by decide⟩
  · exact ⟨8, RX8, TX8, k 8 h3, by decide, rfl, by decide +kernel, uin_8, by decide +kernel, by decide +kernel, by decide⟩
  · exact ⟨9, RX9, TX9, k 9 h3, by decide, rfl, by decide +kernel, uin_9, by decide +kernel, by decide +kernel, by decide⟩
section ZH
variable {D : va_G} {dT : ZT} {bs nL : Nat} {own : String} {cc : ByteArray} {ret : Option FieldType} {p : Program} {l : Launch} {e : Env} {R : Room} {s : State} {m : MethodId} {args : Array Value} {below : List Frame} {meth : Method} {c : Code} {cells slots : Nat} {Q : State → Prop} {h : HH} {S : SS} {pc pc' tgt : Nat} {L L' : List (Nat × Value)} {st : List Value} {H : Heap} {locs : List Loc} {ls : Array Slot}
theorem q_getH (C : Cx D dT bs own cc nL ret p s m args meth c) {j ix : Nat} {k : Int} {ref : String} (hH : isHb S k = true) (hj : j < 3) (hlink : Cond.fieldLink own ix ref (TX2 j).2.1 (TX2 j).2.2.1 ∈ lwb) (hsame : (TX2 j).1 = ref ∨ Cond.sameField ref (TX2 j).1 (TX2 j).2.1 (TX2 j).2.2.1 ∈ lwb) (hd : decode cc pc = .ok (.getfield ix, 3)) (hp : pc + 3 = pc') (kk : V D dT bs nL p l e R s m args below meth c cells slots Q h S pc' L (zI (h k j) :: st)) : V D dT bs nL p l e R s m args below meth c cells slots Q h S pc L (zP bs k :: st) := by
  obtain ⟨ci, Cn, T, h1, h2, h3, h4, h5, h6, h7, -⟩ := isHb_cl hH
  have hT := h4 j (by omega)
  exact r_getI C (T := T) h1 h2 h3 h5 (by omega) (h6 j hj) (by rw [hT]; exact hlink) (by rw [hT]; exact hsame) hd hp kk
theorem q_getHT (C : Cx D dT bs own cc nL ret p s m args meth c) {ix : Nat} {k : Int} {ref : String} (hH : isHb S k = true) (hlink : Cond.fieldLink own ix ref (TX2 3).2.1 (TX2 3).2.2.1 ∈ lwb) (hsame : (TX2 3).1 = ref ∨ Cond.sameField ref (TX2 3).1 (TX2 3).2.1 (TX2 3).2.2.1 ∈ lwb) (hd : decode cc pc = .ok (.getfield ix, 3)) (hp : pc + 3 = pc') (kk : V D dT bs nL p l e R s m args below meth c cells slots Q h S pc' L (zP bs 151 :: st)) : V D dT bs nL p l e R s m args below meth c cells slots Q h S pc L (zP bs k :: st) := by
  obtain ⟨ci, Cn, T, h1, h2, h3, h4, h5, h6, h7, h8⟩ := isHb_cl hH
  have hT := h4 3 (by omega)
  exact r_getP C (T := T) (j := 3) h1 h2 h3 h5 (by omega) h7 (by omega) (by rw [hT]; exact hlink) (by rw [hT]; exact hsame) (isHb_at hH).2.2.2.2 (by decide) hd hp kk
/-- the words of a super call -/
def WU (own : String) (ix : Nat) (y : MethodName) (bytes : ByteArray) (mL : Nat) (rt : Option FieldType) (n : Nat) : Prop := GoodIn lwb (va_wsSU own ix y (.code y bytes mL rt :: lwb)) ∧ y.name ≠ "<init>" ∧ (parseMethodDescriptor y.desc).map (fun d => d.parameters.length) = some n
theorem lwb_callSU {own : String} {ix : Nat} {y : MethodName} {bytes : ByteArray} {maxL : Nat} {ret : Option FieldType} (h1 : Cond.methodLink own ix y ∈ lwb) (h2 : Cond.sameMethod y.cls y.cls y.name y.desc ∈ lwb) (h3 : Cond.superclass own y.cls ∈ lwb) (h4 : Cond.instanceMethod y ∈ lwb) (h5 : Cond.initialized y.cls ∈ lwb) (h6 : Cond.code y bytes maxL ret ∈ lwb) : GoodIn lwb (va_wsSU own ix y (.code y bytes maxL ret :: lwb)) := by
  refine lwb_goodIn (fun w hw => ?_)
  simp only [va_wsSU, List.cons_append, List.nil_append, List.mem_cons] at hw
  rcases hw with rfl | rfl | rfl | rfl | rfl | rfl | hw
  · exact h1
  · exact h2
  · exact h3
  · exact h4
  · exact h5
  · exact h6
  · exact hw
theorem r_callSU (C : Cx D dT bs own cc nL ret p s m args meth c) {y : MethodName} {bytes : ByteArray} {mL fr lo mc ms ix n : Nat} {rt : Option FieldType} {b : Int} {As rest : List Value} {av : Nat → List Value} {v : Nat → Value} {h' : HH} {S' : SS} (hM : CM y bytes mL rt fr lo mc ms av h S (fun bs => some (v bs)) h' S') (hav : av bs = zP bs b :: As) (hH : isHb S b = true) (hG : WU own ix y bytes mL rt n) (hR : RM R fr mL lo) (hn : As.length = n) (hst : st = As.reverse ++ zP bs b :: rest) (hW : (rest.map fun v => v.category).sum ≤ 8) (hd : decode cc pc = .ok (.invokespecial ix, 3)) (hp : pc + 3 = pc') (hf : cells + mc ≤ R.cells ∧ slots + ms ≤ R.slots)
    (kk : V D dT bs nL p l e R s m args below meth c (cells + mc) (slots + ms) Q h' S' pc' L (v bs :: rest)) : V D dT bs nL p l e R s m args below meth c cells slots Q h S pc L st := by
  intro H locs ls hP hS hl
  subst hp
  subst hst
  obtain ⟨ci, Cn, T, h1, h2, h3, -⟩ := isHb_cl hH
  have hat := hP.at h1.1 h1.2.1
  rw [ent_obj h1 h2] at hat
  have hM' := hM l D dT bs
  rw [hav] at hM'
  have hK := C.2.2.2.2.2.2.2.1
  refine z_call (va_runSU (C := Cn) ((hK.1 ci _ h3).2) (As := As) (rest := rest) (b := bs + b.toNat) (g := F0 m pc ls (As.reverse ++ zP bs b :: rest)) ⟨C.1, C.2.1, C.2.2.1, C.2.2.2.1, C.2.2.2.2.1⟩ hM' (va_cwSU n C.2.2.2.2.1 hG.1 rfl rfl rfl hG.2 hR) ⟨PP_blind, va_recv hK (va_P1 hat) h3 (q0 := 0) rfl, fun U hU hW => PP_at C hP hS hU hW⟩ rfl hn hl.1 rfl (lv_room hW) hd hf) hS (fun H1 locs1 hP1 hS1 => ?_)
  exact kk H1 locs1 ls hP1 hS1 hl
/-- a call of a method by a name of another class: CU, by the receiver's class -/
theorem r_callU (C : Cx D dT bs own cc nL ret p s m args meth c) {x y : MethodName} {owner Cn : String} {bytes : ByteArray} {mL fr lo mc ms ix n ci N : Nat} {rt : Option FieldType} {T : u_T} {b nn : Int} {As rest : List Value} {av : Nat → List Value} {v : Nat → Value} {h' : HH} {S' : SS} (hM : CM y bytes mL rt fr lo mc ms av h S (fun bs => some (v bs)) h' S') (hav : av bs = zP bs b :: As) (hk : KD S b (ci : Int) nn) (hcl : ci < 20 ∧ clX[ci]? = some (Cn, T, N)) (cw : va_CU R s args own Cn owner ix x y bytes mL rt (.code y bytes mL rt :: lwb) ({ frames := fr, cells := mc, slots := ms, locals := lo }) mc ms n) (hn : As.length = n) (hst : st = As.reverse ++ zP bs b :: rest) (hW : (rest.map fun v => v.category).sum ≤ 8) (hd : decode cc pc = .ok (.invokevirtual ix, 3)) (hp : pc + 3 = pc') (hf : cells + mc ≤ R.cells ∧ slots + ms ≤ R.slots)
    (kk : V D dT bs nL p l e R s m args below meth c (cells + mc) (slots + ms) Q h' S' pc' L (v bs :: rest)) : V D dT bs nL p l e R s m args below meth c cells slots Q h S pc L st := by
  intro H locs ls hP hS hl
  subst hp
  subst hst
  have hat := hP.at hk.1 hk.2.1
  rw [ent_obj hk hcl.1] at hat
  have hM' := hM l D dT bs
  rw [hav] at hM'
  refine z_call (va_runU (As := As) (rest := rest) (b := bs + b.toNat) (g := F0 m pc ls (As.reverse ++ zP bs b :: rest)) ⟨C.1, C.2.1, C.2.2.1, C.2.2.2.1, C.2.2.2.2.1⟩ hM' cw ⟨PP_blind, va_recv C.2.2.2.2.2.2.2.1 (va_P1 hat) hcl.2 (q0 := 0) rfl, fun U hU hW => PP_at C hP hS hU hW⟩ rfl hn hl.1 rfl (lv_room hW) hd hf) hS (fun H1 locs1 hP1 hS1 => ?_)
  exact kk H1 locs1 ls hP1 hS1 hl
theorem lwb_callU {own : String} {ix : Nat} {Cn owner : String} {x y : MethodName} {bytes : ByteArray} {maxL : Nat} {ret : Option FieldType} (h1 : Cond.methodLink own ix x ∈ lwb) (h2 : Cond.sameMethod x.cls owner x.name x.desc ∈ lwb) (h3 : Cond.selects Cn x y ∈ lwb) (h4 : Cond.instanceMethod y ∈ lwb) (h5 : Cond.initialized y.cls ∈ lwb) (h6 : Cond.code y bytes maxL ret ∈ lwb) : GoodIn lwb (va_wsU own ix Cn owner x y (.code y bytes maxL ret :: lwb)) := by
  refine lwb_goodIn (fun w hw => ?_)
  simp only [va_wsU, List.cons_append, List.nil_append, List.mem_cons] at hw
  rcases hw with rfl | rfl | rfl | rfl | rfl | rfl | hw
  · exact h1
  · exact h2
  · exact h3
  · exact h4
  · exact h5
  · exact h6
  · exact hw
theorem lwb_callO {own : String} {ix : Nat} {Cn owner : String} {x y : MethodName} {bytes : ByteArray} {maxL : Nat} {ret : Option FieldType} (h1 : Cond.methodLink own ix x ∈ lwb) (h2 : Cond.sameMethod x.cls owner x.name x.desc ∈ lwb) (h2b : Cond.instanceMethod ⟨owner, x.name, x.desc⟩ ∈ lwb) (h3 : Cond.selects Cn x y ∈ lwb) (h4 : Cond.instanceMethod y ∈ lwb) (h5 : Cond.initialized y.cls ∈ lwb) (h6 : Cond.code y bytes maxL ret ∈ lwb) : GoodIn lwb (va_wsO own ix Cn owner x y (.code y bytes maxL ret :: lwb)) := by
  refine lwb_goodIn (fun w hw => ?_)
  simp only [va_wsO, List.cons_append, List.nil_append, List.mem_cons] at hw
  rcases hw with rfl | rfl | rfl | rfl | rfl | rfl | rfl | hw
  · exact h1
  · exact h2
  · exact h2b
  · exact h3
  · exact h4
  · exact h5
  · exact h6
  · exact hw
end ZH
section ZX3
variable {D : va_G} {dT : ZT} {bs nL : Nat} {own : String} {cc : ByteArray} {ret : Option FieldType} {p : Program} {l : Launch} {e : Env} {R : Room} {s : State} {m : MethodId} {args : Array Value} {below : List Frame} {meth : Method} {c : Code} {cells slots : Nat} {Q : State → Prop} {h : HH} {S : SS} {pc pc' tgt : Nat} {L L' : List (Nat × Value)} {st : List Value} {H : Heap} {locs : List Loc} {ls : Array Slot}
-- what the law's start says, here
theorem zx_cast (C : Cx D dT bs own cc nL ret p s m args meth c) {A B : String} (hm : Cond.castable A B ∈ lw_tbl) : va_Nw (.castable A B) s := by
  obtain ⟨z1, -, -, -, z5, -⟩ := C.2.2.2.2.2.2.2.2.2
  exact va_Nw.warmC z1 (va_Nw.of rfl (z5 _ hm))
theorem zx_decl (C : Cx D dT bs own cc nL ret p s m args meth c) {x : MethodName} (hm : Cond.declares x ∈ lw_tbl) : va_Nw (.declares x) s := by
  obtain ⟨z1, -, -, -, z5, -⟩ := C.2.2.2.2.2.2.2.2.2
  exact va_Nw.warmD z1 (va_Nw.of rfl (z5 _ hm))
theorem zx_nest (C : Cx D dT bs own cc nL ret p s m args meth c) {a hst : String} {i : Nat} {x : MethodName} (hm : Cond.methodLinkNest a i x hst ∈ lw_tbl) : va_Nw (.methodLinkNest a i x hst) s := by
  obtain ⟨z1, -, -, -, z5, -⟩ := C.2.2.2.2.2.2.2.2.2
  exact va_Nw.warmM z1 (va_Nw.of rfl (z5 _ hm))
theorem zx_nc (C : Cx D dT bs own cc nL ret p s m args meth c) {A B : String} (hm : Cond.not (.castable A B) ∈ flatC (Jvm.Cond.and given_1 narrow_1)) : va_Nc A B s := by
  obtain ⟨z1, -, -, z4, -⟩ := C.2.2.2.2.2.2.2.2.2
  exact va_Nc.moved z1.alike (va_Nc.of (flat_of_before _ z4 _ hm))
theorem q_callSN (C : Cx D dT bs own cc nL ret p s m args meth c) {y : MethodName} {host : String} {bytes : ByteArray} {mL fr lo ix n : Nat} {rt : Option FieldType} {As rest : List Value} {av : Nat → List Value} {v : Nat → Value} {h' : HH} {S' : SS} (hM : CM y bytes mL rt fr lo 0 0 av h S (fun bs => some (v bs)) h' S') (hav : av bs = As) (hG : (Cond.methodLinkNest own ix y host ∈ lw_tbl ∧ Cond.static y ∈ lwb ∧ Cond.initialized y.cls ∈ lwb ∧ Cond.code y bytes mL rt ∈ lwb) ∧ y.cls ≠ "java/lang/invoke/MethodHandle" ∧ y.cls ≠ "java/lang/invoke/VarHandle" ∧ (parseMethodDescriptor y.desc).map (fun d => d.parameters.length) = some n) (hR : RM R fr mL lo) (hn : As.length = n) (hst : st = As.reverse ++ rest) (hW : (rest.map fun v => v.category).sum ≤ 8) (hd : decode cc pc = .ok (.invokestatic ix, 3)) (hp : pc + 3 = pc') (hf : cells ≤ R.cells ∧ slots ≤ R.slots)
    (kk : V D dT bs nL p l e R s m args below meth c cells slots Q h' S' pc' L (v bs :: rest)) : V D dT bs nL p l e R s m args below meth c cells slots Q h S pc L st := by
  intro H locs ls hP hS hl
  subst hp
  subst hst
  have hM' := hM l D dT bs
  rw [hav] at hM'
  have hts := C.2.2.2.2.1
  refine z_call (mc := 0) (ms := 0) (va_runSN (host := host) (As := As) (rest := rest) (g := F0 m pc ls (As.reverse ++ rest)) ⟨C.1, C.2.1, C.2.2.1, C.2.2.2.1, hts⟩ hM' ⟨va_cnB n hts (lwb_goodIn (fun w hw => by
      rcases List.mem_cons.mp hw with rfl | hw
      · exact hG.1.2.2.2
      · exact hw)) rfl rfl rfl (zx_nest C hG.1.1) (hts _ hG.1.2.2.1) hG.2 hR, hts _ hG.1.2.1, trivial⟩ ⟨PP_blind, fun U hU hW => PP_at C hP hS hU hW⟩ rfl hn hl.1 rfl (lv_room hW) hd hf) hS (fun H1 locs1 hP1 hS1 => ?_)
  exact kk H1 locs1 ls hP1 hS1 hl
theorem r_putDP (C : Cx D dT bs own cc nL ret p s m args meth c) {ix : Nat} {k nn q : Int} {ref : String} (hk : KD S k 10 nn) (hin : ∀ w ∈ u_ws RX10 TX10 13, w ∈ lwb) (hr : fR 10 11 = true) (hlink : Cond.fieldLink own ix ref (TX10 11).2.1 (TX10 11).2.2.1 ∈ lwb) (hsame : (TX10 11).1 = ref) (h0 : 0 ≤ q) (hd : decode cc pc = .ok (.putfield ix, 3)) (hp : pc + 3 = pc') (kk : V D dT bs nL p l e R s m args below meth c cells slots Q (u2 h k 11 (q + 1)) S pc' L st) : V D dT bs nL p l e R s m args below meth c cells slots Q h S pc L (zP bs q :: zP bs k :: st) := by
  have e : zP bs q = zD bs (q + 1) := by rw [zD_nn (by omega)]; congr 1; omega
  rw [e]
  exact r_putD C hk hin hr hlink hsame hd hp kk
/-- a hater, or null, into a row of haters -/
theorem r_aastD (C : Cx D dT bs own cc nL ret p s m args meth c) {k n a a' v : Int} (hk : KD S k 25 n) (ha : ww a = a') (hi : 0 ≤ a' ∧ a' < n) (hv : v ≤ 0 ∨ isHb S (v - 1) = true) (hd : decode cc pc = .ok (.aastore, 1)) (hp : pc + 1 = pc') (kk : V D dT bs nL p l e R s m args below meth c cells slots Q (u2 h k a' v) S pc' L st) : V D dT bs nL p l e R s m args below meth c cells slots Q h S pc L (zD bs v :: zI a :: zP bs k :: st) := by
  intro H locs ls hP hS hl
  subst hp
  have hat := hP.at hk.1 hk.2.1
  rw [ent_arD hk] at hat
  have hK := C.2.2.2.2.2.2.2.1
  have hA := hK.2 5 _ (tyL_at (dT := dT) (t := 5) (by decide))
  have hvp := ww_vp ha hi
  have fin : ∀ (H1 : Heap), H1[bs + k.toNat]? = some ((arrV (dT.1 5) n.toNat (fun j => va_rf (oD bs (h k j)))).setSlot (Int32.ofInt a).toNatClampNeg (zD bs v)) → H1.size = H.size → (∀ q, q ≠ bs + k.toNat → H1[q]? = H[q]?) → W p l e R s m args below meth c H1 (locs ++ [⟨bs + k.toNat, (Int32.ofInt a).toNatClampNeg⟩]) cells slots Q (F0 m (pc + 1) ls st) := by
    intro H1 e1 e2 e3
    refine kk H1 _ ls (hP.set hk.1 hk.2.1 rfl e2 e3 (fun b hb => ent_u2_ne hb) ?_) (AA_S hS e2 e3) hl
    rw [ent_arD (h := u2 h k a' v) hk]
    show H1[_]? = some (arrV (dT.1 5) n.toNat (fun j => va_rf (oD bs (u2 h k a' v k j))))
    rw [e1, arrV_store, ww_cl ha hi.1]
    congr 2
    funext q
    by_cases hq : q = a'.toNat
    · subst hq
      simp [updV, u2, show (max a' 0) = a' from by omega, zD]
    · have : ¬ ((q : Int) = a') := by omega
      simp [updV, u2, hq, this]
  rcases hv with hv | hv
  · rw [zD_nul hv] at fin ⊢
    exact va_WaastN C.1 C.2.1 hat (hA.1 n.toNat (fun j => va_rf (oD bs (h k j)))) (fun q => by cases q) (by show ¬ (_ ∨ (arrV _ _ _).slots.size ≤ _); rw [arrV_size]; exact hvp) rfl rfl hd fin
  · have hpos := isHb_pos hv
    rw [zD_nn hpos] at fin ⊢
    obtain ⟨ci, Cn, T, h1, h2, h3, -, -, -, -, h8⟩ := isHb_cl hv
    have hatv := hP.at h1.1 h1.2.1
    rw [ent_obj h1 h2] at hatv
    obtain ⟨r, g1, cellv, g2, g3, g4, -⟩ := hatv
    obtain ⟨-, hfc, kC, hkC, hkind⟩ := hK.1 ci _ h3
    have hcls : cellv.cls = D.1 ci := g3
    obtain ⟨kA, comp, b1, b2, b3, b4⟩ : ∃ (kA : Class) (comp : ClassId), s.vm.classes[dT.1 5]? = some kA ∧ kA.kind = .array comp (.object "WassailEnemies$Hater") ∧ s.vm.findClass "WassailEnemies$Hater" = some comp ∧ _ := hA.2
    obtain ⟨-, hfcH, kH, hkH, -⟩ := hK.1 2 (RX2, TX2, 4) rfl
    have hcomp : comp = D.1 2 := Option.some.inj (b3.symm.trans hfcH)
    have hass : s.vm.assignable cellv.cls comp = true := by
      rw [hcls]
      rcases h8 with rfl | rfl | rfl | rfl | rfl | rfl | rfl <;> cases h3
      · exact vb_asgC (zx_cast C (A := RX0) (B := "WassailEnemies$Hater") wt_cast_0_2) comp _ b3 hfc
      · exact vb_asgC (zx_cast C (A := RX1) (B := "WassailEnemies$Hater") wt_cast_1_2) comp _ b3 hfc
      · rw [hcomp]; exact va_asg _ _
      · exact vb_asgC (zx_cast C (A := RX3) (B := "WassailEnemies$Hater") wt_cast_3_2) comp _ b3 hfc
      · exact vb_asgC (zx_cast C (A := RX4) (B := "WassailEnemies$Hater") wt_cast_4_2) comp _ b3 hfc
      · exact vb_asgC (zx_cast C (A := RX8) (B := "WassailEnemies$Hater") wt_cast_8_2) comp _ b3 hfc
      · exact vb_asgC (zx_cast C (A := RX9) (B := "WassailEnemies$Hater") wt_cast_9_2) comp _ b3 hfc
    refine W.aast C.1 C.2.1 (cell := arrV (dT.1 5) n.toNat (fun j => va_rf (oD bs (h k j)))) hat (fun q z => by cases z) (fun q => by cases q) b1 b2 rfl (by rw [hcomp]; exact hkH) ⟨fun q => hvp (Or.inl q), by rw [arrV_size]; exact Nat.not_le.mp (fun q => hvp (Or.inr q))⟩ g2 (fun q z => by rw [g4] at z; cases z) (by rw [hcls]; exact hkC) hass rfl rfl hd fin
theorem r_aastH (C : Cx D dT bs own cc nL ret p s m args meth c) {k n a a' q : Int} (hk : KD S k 25 n) (ha : ww a = a') (hi : 0 ≤ a' ∧ a' < n) (hH : isHb S q = true) (hd : decode cc pc = .ok (.aastore, 1)) (hp : pc + 1 = pc') (kk : V D dT bs nL p l e R s m args below meth c cells slots Q (u2 h k a' (q + 1)) S pc' L st) : V D dT bs nL p l e R s m args below meth c cells slots Q h S pc L (zP bs q :: zI a :: zP bs k :: st) := by
  have h0 := (isHb_at hH).1
  have e : zP bs q = zD bs (q + 1) := by rw [zD_nn (by omega)]; congr 1; omega
  rw [e]
  exact r_aastD C hk ha hi (Or.inr (by rw [show q + 1 - 1 = q from by omega]; exact hH)) hd hp kk
/-- a row filled -/
def flA (h : HH) (k n v : Int) : HH := fun a b => if a = k ∧ 0 ≤ b ∧ b < n then v else h a b
end ZX3
theorem pW0 {w : Int} (h : isW w) : 0 ≤ w := by unfold isW at h; omega
theorem pR0 {w : Int} (h : isR w) : 0 ≤ w := by unfold isR at h; omega
theorem pO0 {w : Int} (h : isO w) : 0 ≤ w := by unfold isO at h; omega
theorem lit_O_175 : isO 175 := by unfold isO; omega
theorem lit_O_178 : isO 178 := by unfold isO; omega
theorem lit_O_181 : isO 181 := by unfold isO; omega
theorem lit_O_184 : isO 184 := by unfold isO; omega
theorem lit_O_187 : isO 187 := by unfold isO; omega
theorem lit_O_190 : isO 190 := by unfold isO; omega
theorem lit_R_20 : isR 20 := by unfold isR; omega
theorem lit_R_27 : isR 27 := by unfold isR; omega
theorem lit_R_39 : isR 39 := by unfold isR; omega
theorem lit_R_69 : isR 69 := by unfold isR; omega
theorem lit_R_76 : isR 76 := by unfold isR; omega
theorem lit_R_88 : isR 88 := by unfold isR; omega
theorem lit_R_118 : isR 118 := by unfold isR; omega
theorem lit_R_125 : isR 125 := by unfold isR; omega
theorem lit_R_137 : isR 137 := by unfold isR; omega
theorem lit_W_1 : isW 1 := by unfold isW; omega
theorem lit_W_50 : isW 50 := by unfold isW; omega
theorem lit_W_99 : isW 99 := by unfold isW; omega
theorem KW {S : SS} (hF : Fx S) {w : Int} (h : isW w) : KD S w 10 0 := by
  rcases h with rfl | rfl | rfl
  · exact K_1 hF
  · exact K_50 hF
  · exact K_99 hF
theorem KR {S : SS} (hF : Fx S) {w : Int} (h : isR w) : KD S w 7 0 := by
  rcases h with rfl | rfl | rfl | rfl | rfl | rfl | rfl | rfl | rfl
  · exact K_20 hF
  · exact K_27 hF
  · exact K_39 hF
  · exact K_69 hF
  · exact K_76 hF
  · exact K_88 hF
  · exact K_118 hF
  · exact K_125 hF
  · exact K_137 hF
theorem KO {S : SS} (hF : Fx S) {w : Int} (h : isO w) : KD S w 5 0 := by
  rcases h with rfl | rfl | rfl | rfl | rfl | rfl
  · exact K_175 hF
  · exact K_178 hF
  · exact K_181 hF
  · exact K_184 hF
  · exact K_187 hF
  · exact K_190 hF
theorem FW0 {S : SS} (hF : Fx S) {w : Int} (h : isW w) : S.1 w 0 = w + 1 := by
  rcases h with rfl | rfl | rfl
  · exact F_1_0 hF
  · exact F_50_0 hF
  · exact F_99_0 hF
theorem KW0 {S : SS} (hF : Fx S) {w : Int} (h : isW w) : KD S (w + 1) 25 6 := by
  rcases h with rfl | rfl | rfl
  · exact K_2 hF
  · exact K_51 hF
  · exact K_100 hF
theorem FW1 {S : SS} (hF : Fx S) {w : Int} (h : isW w) : S.1 w 1 = w + 2 := by
  rcases h with rfl | rfl | rfl
  · exact F_1_1 hF
  · exact F_50_1 hF
  · exact F_99_1 hF
theorem KW1 {S : SS} (hF : Fx S) {w : Int} (h : isW w) : KD S (w + 2) 22 6 := by
  rcases h with rfl | rfl | rfl
  · exact K_3 hF
  · exact K_52 hF
  · exact K_101 hF
theorem FW2 {S : SS} (hF : Fx S) {w : Int} (h : isW w) : S.1 w 2 = w + 3 := by
  rcases h with rfl | rfl | rfl
  · exact F_1_2 hF
  · exact F_50_2 hF
  · exact F_99_2 hF
theorem KW2 {S : SS} (hF : Fx S) {w : Int} (h : isW w) : KD S (w + 3) 23 6 := by
  rcases h with rfl | rfl | rfl
  · exact K_4 hF
  · exact K_53 hF
  · exact K_102 hF
theorem FW3 {S : SS} (hF : Fx S) {w : Int} (h : isW w) : S.1 w 3 = w + 10 := by
  rcases h with rfl | rfl | rfl
  · exact F_1_3 hF
  · exact F_50_3 hF
  · exact F_99_3 hF
theorem KW3 {S : SS} (hF : Fx S) {w : Int} (h : isW w) : KD S (w + 10) 23 6 := by
  rcases h with rfl | rfl | rfl
  · exact K_11 hF
  · exact K_60 hF
  · exact K_109 hF
theorem FW5 {S : SS} (hF : Fx S) {w : Int} (h : isW w) : S.1 w 5 = w + 17 := by
  rcases h with rfl | rfl | rfl
  · exact F_1_5 hF
  · exact F_50_5 hF
  · exact F_99_5 hF
theorem KW5 {S : SS} (hF : Fx S) {w : Int} (h : isW w) : KD S (w + 17) 20 5 := by
  rcases h with rfl | rfl | rfl
  · exact K_18 hF
  · exact K_67 hF
  · exact K_116 hF
theorem FW6 {S : SS} (hF : Fx S) {w : Int} (h : isW w) : S.1 w 6 = w + 18 := by
  rcases h with rfl | rfl | rfl
  · exact F_1_6 hF
  · exact F_50_6 hF
  · exact F_99_6 hF
theorem KW6 {S : SS} (hF : Fx S) {w : Int} (h : isW w) : KD S (w + 18) 20 5 := by
  rcases h with rfl | rfl | rfl
  · exact K_19 hF
  · exact K_68 hF
  · exact K_117 hF
theorem FW8 {S : SS} (hF : Fx S) {w : Int} (h : isW w) : S.1 w 8 = w + 19 := by
  rcases h with rfl | rfl | rfl
  · exact F_1_8 hF
  · exact F_50_8 hF
  · exact F_99_8 hF
theorem isRW8 {w : Int} (h : isW w) : isR (w + 19) := by unfold isW at h; unfold isR; omega
theorem FW9 {S : SS} (hF : Fx S) {w : Int} (h : isW w) : S.1 w 9 = w + 26 := by
  rcases h with rfl | rfl | rfl
  · exact F_1_9 hF
  · exact F_50_9 hF
  · exact F_99_9 hF
theorem isRW9 {w : Int} (h : isW w) : isR (w + 26) := by unfold isW at h; unfold isR; omega
theorem FW10 {S : SS} (hF : Fx S) {w : Int} (h : isW w) : S.1 w 10 = w + 38 := by
  rcases h with rfl | rfl | rfl
  · exact F_1_10 hF
  · exact F_50_10 hF
  · exact F_99_10 hF
theorem isRW10 {w : Int} (h : isW w) : isR (w + 38) := by unfold isW at h; unfold isR; omega
theorem FW12 {S : SS} (hF : Fx S) {w : Int} (h : isW w) : S.1 w 12 = w + 48 := by
  rcases h with rfl | rfl | rfl
  · exact F_1_12 hF
  · exact F_50_12 hF
  · exact F_99_12 hF
theorem KW12 {S : SS} (hF : Fx S) {w : Int} (h : isW w) : KD S (w + 48) 20 6 := by
  rcases h with rfl | rfl | rfl
  · exact K_49 hF
  · exact K_98 hF
  · exact K_147 hF
theorem KWr2 {S : SS} (hF : Fx S) {w a : Int} (h : isW w) (hi : 0 ≤ a ∧ a < 6) : KD S (w + 4 + a) 20 5 := by
  rcases h with rfl | rfl | rfl
  · rcases (show a = 0 ∨ a = 1 ∨ a = 2 ∨ a = 3 ∨ a = 4 ∨ a = 5 by omega) with rfl | rfl | rfl | rfl | rfl | rfl
    · exact K_5 hF
    · exact K_6 hF
    · exact K_7 hF
    · exact K_8 hF
    · exact K_9 hF
    · exact K_10 hF
  · rcases (show a = 0 ∨ a = 1 ∨ a = 2 ∨ a = 3 ∨ a = 4 ∨ a = 5 by omega) with rfl | rfl | rfl | rfl | rfl | rfl
    · exact K_54 hF
    · exact K_55 hF
    · exact K_56 hF
    · exact K_57 hF
    · exact K_58 hF
    · exact K_59 hF
  · rcases (show a = 0 ∨ a = 1 ∨ a = 2 ∨ a = 3 ∨ a = 4 ∨ a = 5 by omega) with rfl | rfl | rfl | rfl | rfl | rfl
    · exact K_103 hF
    · exact K_104 hF
    · exact K_105 hF
    · exact K_106 hF
    · exact K_107 hF
    · exact K_108 hF
theorem FWr2 {S : SS} (hF : Fx S) {w a : Int} (h : isW w) (hi : 0 ≤ a ∧ a < 6) : S.1 (w + 3) a = w + 4 + a := by
  rcases h with rfl | rfl | rfl
  · rcases (show a = 0 ∨ a = 1 ∨ a = 2 ∨ a = 3 ∨ a = 4 ∨ a = 5 by omega) with rfl | rfl | rfl | rfl | rfl | rfl
    · exact F_4_0 hF
    · exact F_4_1 hF
    · exact F_4_2 hF
    · exact F_4_3 hF
    · exact F_4_4 hF
    · exact F_4_5 hF
  · rcases (show a = 0 ∨ a = 1 ∨ a = 2 ∨ a = 3 ∨ a = 4 ∨ a = 5 by omega) with rfl | rfl | rfl | rfl | rfl | rfl
    · exact F_53_0 hF
    · exact F_53_1 hF
    · exact F_53_2 hF
    · exact F_53_3 hF
    · exact F_53_4 hF
    · exact F_53_5 hF
  · rcases (show a = 0 ∨ a = 1 ∨ a = 2 ∨ a = 3 ∨ a = 4 ∨ a = 5 by omega) with rfl | rfl | rfl | rfl | rfl | rfl
    · exact F_102_0 hF
    · exact F_102_1 hF
    · exact F_102_2 hF
    · exact F_102_3 hF
    · exact F_102_4 hF
    · exact F_102_5 hF
theorem KWr3 {S : SS} (hF : Fx S) {w a : Int} (h : isW w) (hi : 0 ≤ a ∧ a < 6) : KD S (w + 11 + a) 20 4 := by
  rcases h with rfl | rfl | rfl
  · rcases (show a = 0 ∨ a = 1 ∨ a = 2 ∨ a = 3 ∨ a = 4 ∨ a = 5 by omega) with rfl | rfl | rfl | rfl | rfl | rfl
    · exact K_12 hF
    · exact K_13 hF
    · exact K_14 hF
    · exact K_15 hF
    · exact K_16 hF
    · exact K_17 hF
  · rcases (show a = 0 ∨ a = 1 ∨ a = 2 ∨ a = 3 ∨ a = 4 ∨ a = 5 by omega) with rfl | rfl | rfl | rfl | rfl | rfl
    · exact K_61 hF
    · exact K_62 hF
    · exact K_63 hF
    · exact K_64 hF
    · exact K_65 hF
    · exact K_66 hF
  · rcases (show a = 0 ∨ a = 1 ∨ a = 2 ∨ a = 3 ∨ a = 4 ∨ a = 5 by omega) with rfl | rfl | rfl | rfl | rfl | rfl
    · exact K_110 hF
    · exact K_111 hF
    · exact K_112 hF
    · exact K_113 hF
    · exact K_114 hF
    · exact K_115 hF
theorem FWr3 {S : SS} (hF : Fx S) {w a : Int} (h : isW w) (hi : 0 ≤ a ∧ a < 6) : S.1 (w + 10) a = w + 11 + a := by
  rcases h with rfl | rfl | rfl
  · rcases (show a = 0 ∨ a = 1 ∨ a = 2 ∨ a = 3 ∨ a = 4 ∨ a = 5 by omega) with rfl | rfl | rfl | rfl | rfl | rfl
    · exact F_11_0 hF
    · exact F_11_1 hF
    · exact F_11_2 hF
    · exact F_11_3 hF
    · exact F_11_4 hF
    · exact F_11_5 hF
  · rcases (show a = 0 ∨ a = 1 ∨ a = 2 ∨ a = 3 ∨ a = 4 ∨ a = 5 by omega) with rfl | rfl | rfl | rfl | rfl | rfl
    · exact F_60_0 hF
    · exact F_60_1 hF
    · exact F_60_2 hF
    · exact F_60_3 hF
    · exact F_60_4 hF
    · exact F_60_5 hF
  · rcases (show a = 0 ∨ a = 1 ∨ a = 2 ∨ a = 3 ∨ a = 4 ∨ a = 5 by omega) with rfl | rfl | rfl | rfl | rfl | rfl
    · exact F_109_0 hF
    · exact F_109_1 hF
    · exact F_109_2 hF
    · exact F_109_3 hF
    · exact F_109_4 hF
    · exact F_109_5 hF
theorem KR0 {S : SS} (hF : Fx S) {w : Int} (h : isR w) : KD S (w + 1) 23 (rlen w) := by
  rcases h with rfl | rfl | rfl | rfl | rfl | rfl | rfl | rfl | rfl
  · rw [show rlen 20 = 5 from by decide]; exact K_21 hF
  · rw [show rlen 27 = 10 from by decide]; exact K_28 hF
  · rw [show rlen 39 = 8 from by decide]; exact K_40 hF
  · rw [show rlen 69 = 5 from by decide]; exact K_70 hF
  · rw [show rlen 76 = 10 from by decide]; exact K_77 hF
  · rw [show rlen 88 = 8 from by decide]; exact K_89 hF
  · rw [show rlen 118 = 5 from by decide]; exact K_119 hF
  · rw [show rlen 125 = 10 from by decide]; exact K_126 hF
  · rw [show rlen 137 = 8 from by decide]; exact K_138 hF
theorem FR0 {S : SS} (hF : Fx S) {w : Int} (h : isR w) : S.1 w 0 = w + 1 := by
  rcases h with rfl | rfl | rfl | rfl | rfl | rfl | rfl | rfl | rfl
  · exact F_20_0 hF
  · exact F_27_0 hF
  · exact F_39_0 hF
  · exact F_69_0 hF
  · exact F_76_0 hF
  · exact F_88_0 hF
  · exact F_118_0 hF
  · exact F_125_0 hF
  · exact F_137_0 hF
theorem KRr {S : SS} (hF : Fx S) {w a : Int} (h : isR w) (hi : 0 ≤ a ∧ a < rlen w) : KD S (w + 2 + a) 20 4 := by
  rcases h with rfl | rfl | rfl | rfl | rfl | rfl | rfl | rfl | rfl
  · rw [show rlen 20 = 5 from by decide] at hi; rcases (show a = 0 ∨ a = 1 ∨ a = 2 ∨ a = 3 ∨ a = 4 by omega) with rfl | rfl | rfl | rfl | rfl
    · exact K_22 hF
    · exact K_23 hF
    · exact K_24 hF
    · exact K_25 hF
    · exact K_26 hF
  · rw [show rlen 27 = 10 from by decide] at hi; rcases (show a = 0 ∨ a = 1 ∨ a = 2 ∨ a = 3 ∨ a = 4 ∨ a = 5 ∨ a = 6 ∨ a = 7 ∨ a = 8 ∨ a = 9 by omega) with rfl | rfl | rfl | rfl | rfl | rfl | rfl | rfl | rfl | rfl
    · exact K_29 hF
    · exact K_30 hF
    · exact K_31 hF
    · exact K_32 hF
    · exact K_33 hF
    · exact K_34 hF
    · exact K_35 hF
    · exact K_36 hF
    · exact K_37 hF
    · exact K_38 hF
  · rw [show rlen 39 = 8 from by decide] at hi; rcases (show a = 0 ∨ a = 1 ∨ a = 2 ∨ a = 3 ∨ a = 4 ∨ a = 5 ∨ a = 6 ∨ a = 7 by omega) with rfl | rfl | rfl | rfl | rfl | rfl | rfl | rfl
    · exact K_41 hF
    · exact K_42 hF
    · exact K_43 hF
    · exact K_44 hF
    · exact K_45 hF
    · exact K_46 hF
    · exact K_47 hF
    · exact K_48 hF
  · rw [show rlen 69 = 5 from by decide] at hi; rcases (show a = 0 ∨ a = 1 ∨ a = 2 ∨ a = 3 ∨ a = 4 by omega) with rfl | rfl | rfl | rfl | rfl
    · exact K_71 hF
    · exact K_72 hF
    · exact K_73 hF
    · exact K_74 hF
    · exact K_75 hF
  · rw [show rlen 76 = 10 from by decide] at hi; rcases (show a = 0 ∨ a = 1 ∨ a = 2 ∨ a = 3 ∨ a = 4 ∨ a = 5 ∨ a = 6 ∨ a = 7 ∨ a = 8 ∨ a = 9 by omega) with rfl | rfl | rfl | rfl | rfl | rfl | rfl | rfl | rfl | rfl
    · exact K_78 hF
    · exact K_79 hF
    · exact K_80 hF
    · exact K_81 hF
    · exact K_82 hF
    · exact K_83 hF
    · exact K_84 hF
    · exact K_85 hF
    · exact K_86 hF
    · exact K_87 hF
  · rw [show rlen 88 = 8 from by decide] at hi; rcases (show a = 0 ∨ a = 1 ∨ a = 2 ∨ a = 3 ∨ a = 4 ∨ a = 5 ∨ a = 6 ∨ a = 7 by omega) with rfl | rfl | rfl | rfl | rfl | rfl | rfl | rfl
    · exact K_90 hF
    · exact K_91 hF
    · exact K_92 hF
    · exact K_93 hF
    · exact K_94 hF
    · exact K_95 hF
    · exact K_96 hF
    · exact K_97 hF
  · rw [show rlen 118 = 5 from by decide] at hi; rcases (show a = 0 ∨ a = 1 ∨ a = 2 ∨ a = 3 ∨ a = 4 by omega) with rfl | rfl | rfl | rfl | rfl
    · exact K_120 hF
    · exact K_121 hF
    · exact K_122 hF
    · exact K_123 hF
    · exact K_124 hF
  · rw [show rlen 125 = 10 from by decide] at hi; rcases (show a = 0 ∨ a = 1 ∨ a = 2 ∨ a = 3 ∨ a = 4 ∨ a = 5 ∨ a = 6 ∨ a = 7 ∨ a = 8 ∨ a = 9 by omega) with rfl | rfl | rfl | rfl | rfl | rfl | rfl | rfl | rfl | rfl
    · exact K_127 hF
    · exact K_128 hF
    · exact K_129 hF
    · exact K_130 hF
    · exact K_131 hF
    · exact K_132 hF
    · exact K_133 hF
    · exact K_134 hF
    · exact K_135 hF
    · exact K_136 hF
  · rw [show rlen 137 = 8 from by decide] at hi; rcases (show a = 0 ∨ a = 1 ∨ a = 2 ∨ a = 3 ∨ a = 4 ∨ a = 5 ∨ a = 6 ∨ a = 7 by omega) with rfl | rfl | rfl | rfl | rfl | rfl | rfl | rfl
    · exact K_139 hF
    · exact K_140 hF
    · exact K_141 hF
    · exact K_142 hF
    · exact K_143 hF
    · exact K_144 hF
    · exact K_145 hF
    · exact K_146 hF
theorem FRr {S : SS} (hF : Fx S) {w a : Int} (h : isR w) (hi : 0 ≤ a ∧ a < rlen w) : S.1 (w + 1) a = w + 2 + a := by
  rcases h with rfl | rfl | rfl | rfl | rfl | rfl | rfl | rfl | rfl
  · rw [show rlen 20 = 5 from by decide] at hi; rcases (show a = 0 ∨ a = 1 ∨ a = 2 ∨ a = 3 ∨ a = 4 by omega) with rfl | rfl | rfl | rfl | rfl
    · exact F_21_0 hF
    · exact F_21_1 hF
    · exact F_21_2 hF
    · exact F_21_3 hF
    · exact F_21_4 hF
  · rw [show rlen 27 = 10 from by decide] at hi; rcases (show a = 0 ∨ a = 1 ∨ a = 2 ∨ a = 3 ∨ a = 4 ∨ a = 5 ∨ a = 6 ∨ a = 7 ∨ a = 8 ∨ a = 9 by omega) with rfl | rfl | rfl | rfl | rfl | rfl | rfl | rfl | rfl | rfl
    · exact F_28_0 hF
    · exact F_28_1 hF
    · exact F_28_2 hF
    · exact F_28_3 hF
    · exact F_28_4 hF
    · exact F_28_5 hF
    · exact F_28_6 hF
    · exact F_28_7 hF
    · exact F_28_8 hF
    · exact F_28_9 hF
  · rw [show rlen 39 = 8 from by decide] at hi; rcases (show a = 0 ∨ a = 1 ∨ a = 2 ∨ a = 3 ∨ a = 4 ∨ a = 5 ∨ a = 6 ∨ a = 7 by omega) with rfl | rfl | rfl | rfl | rfl | rfl | rfl | rfl
    · exact F_40_0 hF
    · exact F_40_1 hF
    · exact F_40_2 hF
    · exact F_40_3 hF
    · exact F_40_4 hF
    · exact F_40_5 hF
    · exact F_40_6 hF
    · exact F_40_7 hF
  · rw [show rlen 69 = 5 from by decide] at hi; rcases (show a = 0 ∨ a = 1 ∨ a = 2 ∨ a = 3 ∨ a = 4 by omega) with rfl | rfl | rfl | rfl | rfl
    · exact F_70_0 hF
    · exact F_70_1 hF
    · exact F_70_2 hF
    · exact F_70_3 hF
    · exact F_70_4 hF
  · rw [show rlen 76 = 10 from by decide] at hi; rcases (show a = 0 ∨ a = 1 ∨ a = 2 ∨ a = 3 ∨ a = 4 ∨ a = 5 ∨ a = 6 ∨ a = 7 ∨ a = 8 ∨ a = 9 by omega) with rfl | rfl | rfl | rfl | rfl | rfl | rfl | rfl | rfl | rfl
    · exact F_77_0 hF
    · exact F_77_1 hF
    · exact F_77_2 hF
    · exact F_77_3 hF
    · exact F_77_4 hF
    · exact F_77_5 hF
    · exact F_77_6 hF
    · exact F_77_7 hF
    · exact F_77_8 hF
    · exact F_77_9 hF
  · rw [show rlen 88 = 8 from by decide] at hi; rcases (show a = 0 ∨ a = 1 ∨ a = 2 ∨ a = 3 ∨ a = 4 ∨ a = 5 ∨ a = 6 ∨ a = 7 by omega) with rfl | rfl | rfl | rfl | rfl | rfl | rfl | rfl
    · exact F_89_0 hF
    · exact F_89_1 hF
    · exact F_89_2 hF
    · exact F_89_3 hF
    · exact F_89_4 hF
    · exact F_89_5 hF
    · exact F_89_6 hF
    · exact F_89_7 hF
  · rw [show rlen 118 = 5 from by decide] at hi; rcases (show a = 0 ∨ a = 1 ∨ a = 2 ∨ a = 3 ∨ a = 4 by omega) with rfl | rfl | rfl | rfl | rfl
    · exact F_119_0 hF
    · exact F_119_1 hF
    · exact F_119_2 hF
    · exact F_119_3 hF
    · exact F_119_4 hF
  · rw [show rlen 125 = 10 from by decide] at hi; rcases (show a = 0 ∨ a = 1 ∨ a = 2 ∨ a = 3 ∨ a = 4 ∨ a = 5 ∨ a = 6 ∨ a = 7 ∨ a = 8 ∨ a = 9 by omega) with rfl | rfl | rfl | rfl | rfl | rfl | rfl | rfl | rfl | rfl
    · exact F_126_0 hF
    · exact F_126_1 hF
    · exact F_126_2 hF
    · exact F_126_3 hF
    · exact F_126_4 hF
    · exact F_126_5 hF
    · exact F_126_6 hF
    · exact F_126_7 hF
    · exact F_126_8 hF
    · exact F_126_9 hF
  · rw [show rlen 137 = 8 from by decide] at hi; rcases (show a = 0 ∨ a = 1 ∨ a = 2 ∨ a = 3 ∨ a = 4 ∨ a = 5 ∨ a = 6 ∨ a = 7 by omega) with rfl | rfl | rfl | rfl | rfl | rfl | rfl | rfl
    · exact F_138_0 hF
    · exact F_138_1 hF
    · exact F_138_2 hF
    · exact F_138_3 hF
    · exact F_138_4 hF
    · exact F_138_5 hF
    · exact F_138_6 hF
    · exact F_138_7 hF
theorem rlen_b (w : Int) : 0 ≤ rlen w ∧ rlen w < 2147483648 := by
  unfold rlen
  split
  · omega
  · split <;> omega
theorem KO1 {S : SS} (hF : Fx S) {w : Int} (h : isO w) : KD S (w + 1) 20 100 := by
  rcases h with rfl | rfl | rfl | rfl | rfl | rfl
  · exact K_176 hF
  · exact K_179 hF
  · exact K_182 hF
  · exact K_185 hF
  · exact K_188 hF
  · exact K_191 hF
theorem FO2 {S : SS} (hF : Fx S) {w : Int} (h : isO w) : S.1 w 2 = w + 1 := by
  rcases h with rfl | rfl | rfl | rfl | rfl | rfl
  · exact F_175_2 hF
  · exact F_178_2 hF
  · exact F_181_2 hF
  · exact F_184_2 hF
  · exact F_187_2 hF
  · exact F_190_2 hF
theorem KO2 {S : SS} (hF : Fx S) {w : Int} (h : isO w) : KD S (w + 2) 20 100 := by
  rcases h with rfl | rfl | rfl | rfl | rfl | rfl
  · exact K_177 hF
  · exact K_180 hF
  · exact K_183 hF
  · exact K_186 hF
  · exact K_189 hF
  · exact K_192 hF
theorem FO3 {S : SS} (hF : Fx S) {w : Int} (h : isO w) : S.1 w 3 = w + 2 := by
  rcases h with rfl | rfl | rfl | rfl | rfl | rfl
  · exact F_175_3 hF
  · exact F_178_3 hF
  · exact F_181_3 hF
  · exact F_184_3 hF
  · exact F_187_3 hF
  · exact F_190_3 hF
theorem KL4 {S : SS} (hF : Fx S) {a : Int} (hi : 0 ≤ a ∧ a < 6) : KD S (5 + a) 20 5 := by
  rcases (show a = 0 ∨ a = 1 ∨ a = 2 ∨ a = 3 ∨ a = 4 ∨ a = 5 by omega) with rfl | rfl | rfl | rfl | rfl | rfl
  · exact K_5 hF
  · exact K_6 hF
  · exact K_7 hF
  · exact K_8 hF
  · exact K_9 hF
  · exact K_10 hF
theorem FL4 {S : SS} (hF : Fx S) {a : Int} (hi : 0 ≤ a ∧ a < 6) : S.1 4 a = 5 + a := by
  rcases (show a = 0 ∨ a = 1 ∨ a = 2 ∨ a = 3 ∨ a = 4 ∨ a = 5 by omega) with rfl | rfl | rfl | rfl | rfl | rfl
  · exact F_4_0 hF
  · exact F_4_1 hF
  · exact F_4_2 hF
  · exact F_4_3 hF
  · exact F_4_4 hF
  · exact F_4_5 hF
theorem KL11 {S : SS} (hF : Fx S) {a : Int} (hi : 0 ≤ a ∧ a < 6) : KD S (12 + a) 20 4 := by
  rcases (show a = 0 ∨ a = 1 ∨ a = 2 ∨ a = 3 ∨ a = 4 ∨ a = 5 by omega) with rfl | rfl | rfl | rfl | rfl | rfl
  · exact K_12 hF
  · exact K_13 hF
  · exact K_14 hF
  · exact K_15 hF
  · exact K_16 hF
  · exact K_17 hF
theorem FL11 {S : SS} (hF : Fx S) {a : Int} (hi : 0 ≤ a ∧ a < 6) : S.1 11 a = 12 + a := by
  rcases (show a = 0 ∨ a = 1 ∨ a = 2 ∨ a = 3 ∨ a = 4 ∨ a = 5 by omega) with rfl | rfl | rfl | rfl | rfl | rfl
  · exact F_11_0 hF
  · exact F_11_1 hF
  · exact F_11_2 hF
  · exact F_11_3 hF
  · exact F_11_4 hF
  · exact F_11_5 hF
theorem KL21 {S : SS} (hF : Fx S) {a : Int} (hi : 0 ≤ a ∧ a < 5) : KD S (22 + a) 20 4 := by
  rcases (show a = 0 ∨ a = 1 ∨ a = 2 ∨ a = 3 ∨ a = 4 by omega) with rfl | rfl | rfl | rfl | rfl
  · exact K_22 hF
  · exact K_23 hF
  · exact K_24 hF
  · exact K_25 hF
  · exact K_26 hF
theorem FL21 {S : SS} (hF : Fx S) {a : Int} (hi : 0 ≤ a ∧ a < 5) : S.1 21 a = 22 + a := by
  rcases (show a = 0 ∨ a = 1 ∨ a = 2 ∨ a = 3 ∨ a = 4 by omega) with rfl | rfl | rfl | rfl | rfl
  · exact F_21_0 hF
  · exact F_21_1 hF
  · exact F_21_2 hF
  · exact F_21_3 hF
  · exact F_21_4 hF
theorem KL28 {S : SS} (hF : Fx S) {a : Int} (hi : 0 ≤ a ∧ a < 10) : KD S (29 + a) 20 4 := by
  rcases (show a = 0 ∨ a = 1 ∨ a = 2 ∨ a = 3 ∨ a = 4 ∨ a = 5 ∨ a = 6 ∨ a = 7 ∨ a = 8 ∨ a = 9 by omega) with rfl | rfl | rfl | rfl | rfl | rfl | rfl | rfl | rfl | rfl
  · exact K_29 hF
  · exact K_30 hF
  · exact K_31 hF
  · exact K_32 hF
  · exact K_33 hF
  · exact K_34 hF
  · exact K_35 hF
  · exact K_36 hF
  · exact K_37 hF
  · exact K_38 hF
theorem FL28 {S : SS} (hF : Fx S) {a : Int} (hi : 0 ≤ a ∧ a < 10) : S.1 28 a = 29 + a := by
  rcases (show a = 0 ∨ a = 1 ∨ a = 2 ∨ a = 3 ∨ a = 4 ∨ a = 5 ∨ a = 6 ∨ a = 7 ∨ a = 8 ∨ a = 9 by omega) with rfl | rfl | rfl | rfl | rfl | rfl | rfl | rfl | rfl | rfl
  · exact F_28_0 hF
  · exact F_28_1 hF
  · exact F_28_2 hF
  · exact F_28_3 hF
  · exact F_28_4 hF
  · exact F_28_5 hF
  · exact F_28_6 hF
  · exact F_28_7 hF
  · exact F_28_8 hF
  · exact F_28_9 hF
theorem KL40 {S : SS} (hF : Fx S) {a : Int} (hi : 0 ≤ a ∧ a < 8) : KD S (41 + a) 20 4 := by
  rcases (show a = 0 ∨ a = 1 ∨ a = 2 ∨ a = 3 ∨ a = 4 ∨ a = 5 ∨ a = 6 ∨ a = 7 by omega) with rfl | rfl | rfl | rfl | rfl | rfl | rfl | rfl
  · exact K_41 hF
  · exact K_42 hF
  · exact K_43 hF
  · exact K_44 hF
  · exact K_45 hF
  · exact K_46 hF
  · exact K_47 hF
  · exact K_48 hF
theorem FL40 {S : SS} (hF : Fx S) {a : Int} (hi : 0 ≤ a ∧ a < 8) : S.1 40 a = 41 + a := by
  rcases (show a = 0 ∨ a = 1 ∨ a = 2 ∨ a = 3 ∨ a = 4 ∨ a = 5 ∨ a = 6 ∨ a = 7 by omega) with rfl | rfl | rfl | rfl | rfl | rfl | rfl | rfl
  · exact F_40_0 hF
  · exact F_40_1 hF
  · exact F_40_2 hF
  · exact F_40_3 hF
  · exact F_40_4 hF
  · exact F_40_5 hF
  · exact F_40_6 hF
  · exact F_40_7 hF
theorem KL102 {S : SS} (hF : Fx S) {a : Int} (hi : 0 ≤ a ∧ a < 6) : KD S (103 + a) 20 5 := by
  rcases (show a = 0 ∨ a = 1 ∨ a = 2 ∨ a = 3 ∨ a = 4 ∨ a = 5 by omega) with rfl | rfl | rfl | rfl | rfl | rfl
  · exact K_103 hF
  · exact K_104 hF
  · exact K_105 hF
  · exact K_106 hF
  · exact K_107 hF
  · exact K_108 hF
theorem FL102 {S : SS} (hF : Fx S) {a : Int} (hi : 0 ≤ a ∧ a < 6) : S.1 102 a = 103 + a := by
  rcases (show a = 0 ∨ a = 1 ∨ a = 2 ∨ a = 3 ∨ a = 4 ∨ a = 5 by omega) with rfl | rfl | rfl | rfl | rfl | rfl
  · exact F_102_0 hF
  · exact F_102_1 hF
  · exact F_102_2 hF
  · exact F_102_3 hF
  · exact F_102_4 hF
  · exact F_102_5 hF
theorem KL152 {S : SS} (hF : Fx S) {a : Int} (hi : 0 ≤ a ∧ a < 6) : KD S (153 + a) 20 5 := by
  rcases (show a = 0 ∨ a = 1 ∨ a = 2 ∨ a = 3 ∨ a = 4 ∨ a = 5 by omega) with rfl | rfl | rfl | rfl | rfl | rfl
  · exact K_153 hF
  · exact K_154 hF
  · exact K_155 hF
  · exact K_156 hF
  · exact K_157 hF
  · exact K_158 hF
theorem FL152 {S : SS} (hF : Fx S) {a : Int} (hi : 0 ≤ a ∧ a < 6) : S.1 152 a = 153 + a := by
  rcases (show a = 0 ∨ a = 1 ∨ a = 2 ∨ a = 3 ∨ a = 4 ∨ a = 5 by omega) with rfl | rfl | rfl | rfl | rfl | rfl
  · exact F_152_0 hF
  · exact F_152_1 hF
  · exact F_152_2 hF
  · exact F_152_3 hF
  · exact F_152_4 hF
  · exact F_152_5 hF
theorem KL159 {S : SS} (hF : Fx S) {a : Int} (hi : 0 ≤ a ∧ a < 6) : KD S (160 + a) 20 64 := by
  rcases (show a = 0 ∨ a = 1 ∨ a = 2 ∨ a = 3 ∨ a = 4 ∨ a = 5 by omega) with rfl | rfl | rfl | rfl | rfl | rfl
  · exact K_160 hF
  · exact K_161 hF
  · exact K_162 hF
  · exact K_163 hF
  · exact K_164 hF
  · exact K_165 hF
theorem FL159 {S : SS} (hF : Fx S) {a : Int} (hi : 0 ≤ a ∧ a < 6) : S.1 159 a = 160 + a := by
  rcases (show a = 0 ∨ a = 1 ∨ a = 2 ∨ a = 3 ∨ a = 4 ∨ a = 5 by omega) with rfl | rfl | rfl | rfl | rfl | rfl
  · exact F_159_0 hF
  · exact F_159_1 hF
  · exact F_159_2 hF
  · exact F_159_3 hF
  · exact F_159_4 hF
  · exact F_159_5 hF
theorem KL168 {S : SS} (hF : Fx S) {a : Int} (hi : 0 ≤ a ∧ a < 6) : KD S (169 + a) 21 60 := by
  rcases (show a = 0 ∨ a = 1 ∨ a = 2 ∨ a = 3 ∨ a = 4 ∨ a = 5 by omega) with rfl | rfl | rfl | rfl | rfl | rfl
  · exact K_169 hF
  · exact K_170 hF
  · exact K_171 hF
  · exact K_172 hF
  · exact K_173 hF
  · exact K_174 hF
theorem FL168 {S : SS} (hF : Fx S) {a : Int} (hi : 0 ≤ a ∧ a < 6) : S.1 168 a = 169 + a := by
  rcases (show a = 0 ∨ a = 1 ∨ a = 2 ∨ a = 3 ∨ a = 4 ∨ a = 5 by omega) with rfl | rfl | rfl | rfl | rfl | rfl
  · exact F_168_0 hF
  · exact F_168_1 hF
  · exact F_168_2 hF
  · exact F_168_3 hF
  · exact F_168_4 hF
  · exact F_168_5 hF
theorem FL150 {S : SS} (hF : Fx S) {a : Int} (hi : 0 ≤ a ∧ a < 6) : S.1 150 a = 175 + 3 * a := by
  rcases (show a = 0 ∨ a = 1 ∨ a = 2 ∨ a = 3 ∨ a = 4 ∨ a = 5 by omega) with rfl | rfl | rfl | rfl | rfl | rfl
  · exact F_150_0 hF
  · exact F_150_1 hF
  · exact F_150_2 hF
  · exact F_150_3 hF
  · exact F_150_4 hF
  · exact F_150_5 hF
theorem wu_RX0_7 : WU RX0 7 yX3_force cX3_force 4 (some Jvm.ClassFile.FieldType.int) 3 := ⟨lwb_callSU wd_520 wd_1795 wd_453 wd_521 wd_108 wd_522, by decide, by decide +kernel⟩
theorem wu_RX1_7 : WU RX1 7 yX9_force cX9_force 4 (some Jvm.ClassFile.FieldType.int) 3 := ⟨lwb_callSU wd_526 wd_1796 wd_442 wd_527 wd_107 wd_528, by decide, by decide +kernel⟩
theorem wu_RX8_9 : WU RX8 9 yX4_force cX4_force 4 (some Jvm.ClassFile.FieldType.int) 3 := ⟨lwb_callSU wd_536 wd_1797 wd_464 wd_531 wd_109 wd_532, by decide, by decide +kernel⟩
theorem wn_RX5_32 : ((Jvm.Cond.methodLinkNest "WassailEnemies$Orchard" (32 : Nat) ({ cls := "WassailEnemies", name := "bit", desc := "(Z)I" } : Jvm.MethodName) "WassailEnemies") ∈ lw_tbl ∧ Cond.static yX11_bit ∈ lwb ∧ Cond.initialized yX11_bit.cls ∈ lwb ∧ Cond.code yX11_bit cX11_bit 1 (some Jvm.ClassFile.FieldType.int) ∈ lwb) ∧ yX11_bit.cls ≠ "java/lang/invoke/MethodHandle" ∧ yX11_bit.cls ≠ "java/lang/invoke/VarHandle" ∧ (parseMethodDescriptor yX11_bit.desc).map (fun d => d.parameters.length) = some 1 := ⟨⟨wt_512, wd_486, wd_95, wd_487⟩, by decide, by decide, by decide +kernel⟩
def ins_0 (S : SS) (q : Int) : Int := if S.1 q (-1) = 0 then 1 else 0
theorem b_ins_0 {S : SS} {q : Int} : ins_0 S q = 0 ∨ ins_0 S q = 1 := by unfold ins_0; split <;> simp
def ins_1 (S : SS) (q : Int) : Int := if S.1 q (-1) = 1 then 1 else 0
theorem b_ins_1 {S : SS} {q : Int} : ins_1 S q = 0 ∨ ins_1 S q = 1 := by unfold ins_1; split <;> simp
def ins_3 (S : SS) (q : Int) : Int := if S.1 q (-1) = 0 ∨ S.1 q (-1) = 3 then 1 else 0
theorem b_ins_3 {S : SS} {q : Int} : ins_3 S q = 0 ∨ ins_3 S q = 1 := by unfold ins_3; split <;> simp
def ins_4 (S : SS) (q : Int) : Int := if S.1 q (-1) = 4 ∨ S.1 q (-1) = 8 then 1 else 0
theorem b_ins_4 {S : SS} {q : Int} : ins_4 S q = 0 ∨ ins_4 S q = 1 := by unfold ins_4; split <;> simp
def ins_8 (S : SS) (q : Int) : Int := if S.1 q (-1) = 8 then 1 else 0
theorem b_ins_8 {S : SS} {q : Int} : ins_8 S q = 0 ∨ ins_8 S q = 1 := by unfold ins_8; split <;> simp
def ins_9 (S : SS) (q : Int) : Int := if S.1 q (-1) = 1 ∨ S.1 q (-1) = 9 then 1 else 0
theorem b_ins_9 {S : SS} {q : Int} : ins_9 S q = 0 ∨ ins_9 S q = 1 := by unfold ins_9; split <;> simp
theorem ri_RX11_138 {D : va_G} {dT : ZT} {bs nL : Nat} {cc : ByteArray} {ret : Option FieldType} {p : Program} {l : Launch} {e : Env} {R : Room} {s : State} {m : MethodId} {args : Array Value} {below : List Frame} {meth : Method} {c : Code} {cells slots : Nat} {Q : State → Prop} {h : HH} {S : SS} {pc pc' : Nat} {L : List (Nat × Value)} {st : List Value} (C : Cx D dT bs RX11 cc nL ret p s m args meth c) {b : Int} (hH : isHb S b = true) (hd : decode cc pc = .ok (.instanceof 138, 3)) (hp : pc + 3 = pc') (kk : V D dT bs nL p l e R s m args below meth c cells slots Q h S pc' L (zI (ins_8 S b) :: st)) : V D dT bs nL p l e R s m args below meth c cells slots Q h S pc L (zP bs b :: st) := by
  intro H locs ls hP hS hl
  subst hp
  obtain ⟨h1, h2, h3, h4, h5⟩ := isHb_at hH
  have hK := C.2.2.2.2.2.2.2.1
  rcases h3 with hc | hc | hc | hc | hc | hc | hc
  · have e1 : ins_8 S b = 0 := by simp [ins_8, hc]
    rw [e1] at kk
    have k1 : KD S b 0 0 := ⟨by omega, h2, hc, h4⟩
    have hat := hP.at k1.1 k1.2.1
    rw [ent_obj (c := 0) k1 (by decide)] at hat
    have hr := va_recv hK (va_P1 hat) (q := (RX0, TX0, 4)) (ci := 0) (q0 := 0) rfl rfl
    exact va_instNo C.1 C.2.1 (C := RX0) (nm := RX8) C.2.2.2.1 (C.2.2.2.2.1 _ wd_454) (zx_nc C (by decide +kernel)) hr hd (kk H locs ls hP hS hl)
  · have e1 : ins_8 S b = 0 := by simp [ins_8, hc]
    rw [e1] at kk
    have k1 : KD S b 1 0 := ⟨by omega, h2, hc, h4⟩
    have hat := hP.at k1.1 k1.2.1
    rw [ent_obj (c := 1) k1 (by decide)] at hat
    have hr := va_recv hK (va_P1 hat) (q := (RX1, TX1, 4)) (ci := 1) (q0 := 0) rfl rfl
    exact va_instNo C.1 C.2.1 (C := RX1) (nm := RX8) C.2.2.2.1 (C.2.2.2.2.1 _ wd_454) (zx_nc C (by decide +kernel)) hr hd (kk H locs ls hP hS hl)
  · have e1 : ins_8 S b = 0 := by simp [ins_8, hc]
    rw [e1] at kk
    have k1 : KD S b 2 0 := ⟨by omega, h2, hc, h4⟩
    have hat := hP.at k1.1 k1.2.1
    rw [ent_obj (c := 2) k1 (by decide)] at hat
    have hr := va_recv hK (va_P1 hat) (q := (RX2, TX2, 4)) (ci := 2) (q0 := 0) rfl rfl
    exact va_instNo C.1 C.2.1 (C := RX2) (nm := RX8) C.2.2.2.1 (C.2.2.2.2.1 _ wd_454) (zx_nc C (by decide +kernel)) hr hd (kk H locs ls hP hS hl)
  · have e1 : ins_8 S b = 0 := by simp [ins_8, hc]
    rw [e1] at kk
    have k1 : KD S b 3 0 := ⟨by omega, h2, hc, h4⟩
    have hat := hP.at k1.1 k1.2.1
    rw [ent_obj (c := 3) k1 (by decide)] at hat
    have hr := va_recv hK (va_P1 hat) (q := (RX3, TX3, 4)) (ci := 3) (q0 := 0) rfl rfl
    exact va_instNo C.1 C.2.1 (C := RX3) (nm := RX8) C.2.2.2.1 (C.2.2.2.2.1 _ wd_454) (zx_nc C (by decide +kernel)) hr hd (kk H locs ls hP hS hl)
  · have e1 : ins_8 S b = 0 := by simp [ins_8, hc]
    rw [e1] at kk
    have k1 : KD S b 4 0 := ⟨by omega, h2, hc, h4⟩
    have hat := hP.at k1.1 k1.2.1
    rw [ent_obj (c := 4) k1 (by decide)] at hat
    have hr := va_recv hK (va_P1 hat) (q := (RX4, TX4, 4)) (ci := 4) (q0 := 0) rfl rfl
    exact va_instNo C.1 C.2.1 (C := RX4) (nm := RX8) C.2.2.2.1 (C.2.2.2.2.1 _ wd_454) (zx_nc C (by decide +kernel)) hr hd (kk H locs ls hP hS hl)
  · have e1 : ins_8 S b = 1 := by simp [ins_8, hc]
    rw [e1] at kk
    have k1 : KD S b 8 0 := ⟨by omega, h2, hc, h4⟩
    have hat := hP.at k1.1 k1.2.1
    rw [ent_obj (c := 8) k1 (by decide)] at hat
    have hr := va_recv hK (va_P1 hat) (q := (RX8, TX8, 4)) (ci := 8) (q0 := 0) rfl rfl
    exact va_instS C.1 C.2.1 (nm := RX8) C.2.2.2.1 (C.2.2.2.2.1 _ wd_454) (hK.1 8 (RX8, TX8, 4) rfl).2 hr hd (kk H locs ls hP hS hl)
  · have e1 : ins_8 S b = 0 := by simp [ins_8, hc]
    rw [e1] at kk
    have k1 : KD S b 9 0 := ⟨by omega, h2, hc, h4⟩
    have hat := hP.at k1.1 k1.2.1
    rw [ent_obj (c := 9) k1 (by decide)] at hat
    have hr := va_recv hK (va_P1 hat) (q := (RX9, TX9, 4)) (ci := 9) (q0 := 0) rfl rfl
    exact va_instNo C.1 C.2.1 (C := RX9) (nm := RX8) C.2.2.2.1 (C.2.2.2.2.1 _ wd_454) (zx_nc C (by decide +kernel)) hr hd (kk H locs ls hP hS hl)
theorem ri_RX11_321 {D : va_G} {dT : ZT} {bs nL : Nat} {cc : ByteArray} {ret : Option FieldType} {p : Program} {l : Launch} {e : Env} {R : Room} {s : State} {m : MethodId} {args : Array Value} {below : List Frame} {meth : Method} {c : Code} {cells slots : Nat} {Q : State → Prop} {h : HH} {S : SS} {pc pc' : Nat} {L : List (Nat × Value)} {st : List Value} (C : Cx D dT bs RX11 cc nL ret p s m args meth c) {b : Int} (hH : isHb S b = true) (hd : decode cc pc = .ok (.instanceof 321, 3)) (hp : pc + 3 = pc') (kk : V D dT bs nL p l e R s m args below meth c cells slots Q h S pc' L (zI (ins_9 S b) :: st)) : V D dT bs nL p l e R s m args below meth c cells slots Q h S pc L (zP bs b :: st) := by
  intro H locs ls hP hS hl
  subst hp
  obtain ⟨h1, h2, h3, h4, h5⟩ := isHb_at hH
  have hK := C.2.2.2.2.2.2.2.1
  rcases h3 with hc | hc | hc | hc | hc | hc | hc
  · have e1 : ins_9 S b = 0 := by simp [ins_9, hc]
    rw [e1] at kk
    have k1 : KD S b 0 0 := ⟨by omega, h2, hc, h4⟩
    have hat := hP.at k1.1 k1.2.1
    rw [ent_obj (c := 0) k1 (by decide)] at hat
    have hr := va_recv hK (va_P1 hat) (q := (RX0, TX0, 4)) (ci := 0) (q0 := 0) rfl rfl
    exact va_instNo C.1 C.2.1 (C := RX0) (nm := RX9) C.2.2.2.1 (C.2.2.2.2.1 _ wd_362) (zx_nc C (by decide +kernel)) hr hd (kk H locs ls hP hS hl)
  · have e1 : ins_9 S b = 1 := by simp [ins_9, hc]
    rw [e1] at kk
    have k1 : KD S b 1 0 := ⟨by omega, h2, hc, h4⟩
    have hat := hP.at k1.1 k1.2.1
    rw [ent_obj (c := 1) k1 (by decide)] at hat
    have hr := va_recv hK (va_P1 hat) (q := (RX1, TX1, 4)) (ci := 1) (q0 := 0) rfl rfl
    exact va_instY C.1 C.2.1 (C := RX1) (nm := RX9) C.2.2.2.1 (C.2.2.2.2.1 _ wd_362) (zx_cast C wt_cast_1_9) hr hd (kk H locs ls hP hS hl)
  · have e1 : ins_9 S b = 0 := by simp [ins_9, hc]
    rw [e1] at kk
    have k1 : KD S b 2 0 := ⟨by omega, h2, hc, h4⟩
    have hat := hP.at k1.1 k1.2.1
    rw [ent_obj (c := 2) k1 (by decide)] at hat
    have hr := va_recv hK (va_P1 hat) (q := (RX2, TX2, 4)) (ci := 2) (q0 := 0) rfl rfl
    exact va_instNo C.1 C.2.1 (C := RX2) (nm := RX9) C.2.2.2.1 (C.2.2.2.2.1 _ wd_362) (zx_nc C (by decide +kernel)) hr hd (kk H locs ls hP hS hl)
  · have e1 : ins_9 S b = 0 := by simp [ins_9, hc]
    rw [e1] at kk
    have k1 : KD S b 3 0 := ⟨by omega, h2, hc, h4⟩
    have hat := hP.at k1.1 k1.2.1
    rw [ent_obj (c := 3) k1 (by decide)] at hat
    have hr := va_recv hK (va_P1 hat) (q := (RX3, TX3, 4)) (ci := 3) (q0 := 0) rfl rfl
    exact va_instNo C.1 C.2.1 (C := RX3) (nm := RX9) C.2.2.2.1 (C.2.2.2.2.1 _ wd_362) (zx_nc C (by decide +kernel)) hr hd (kk H locs ls hP hS hl)
  · have e1 : ins_9 S b = 0 := by simp [ins_9, hc]
    rw [e1] at kk
    have k1 : KD S b 4 0 := ⟨by omega, h2, hc, h4⟩
    have hat := hP.at k1.1 k1.2.1
    rw [ent_obj (c := 4) k1 (by decide)] at hat
    have hr := va_recv hK (va_P1 hat) (q := (RX4, TX4, 4)) (ci := 4) (q0 := 0) rfl rfl
    exact va_instNo C.1 C.2.1 (C := RX4) (nm := RX9) C.2.2.2.1 (C.2.2.2.2.1 _ wd_362) (zx_nc C (by decide +kernel)) hr hd (kk H locs ls hP hS hl)
  · have e1 : ins_9 S b = 0 := by simp [ins_9, hc]
    rw [e1] at kk
    have k1 : KD S b 8 0 := ⟨by omega, h2, hc, h4⟩
    have hat := hP.at k1.1 k1.2.1
    rw [ent_obj (c := 8) k1 (by decide)] at hat
    have hr := va_recv hK (va_P1 hat) (q := (RX8, TX8, 4)) (ci := 8) (q0 := 0) rfl rfl
    exact va_instNo C.1 C.2.1 (C := RX8) (nm := RX9) C.2.2.2.1 (C.2.2.2.2.1 _ wd_362) (zx_nc C (by decide +kernel)) hr hd (kk H locs ls hP hS hl)
  · have e1 : ins_9 S b = 1 := by simp [ins_9, hc]
    rw [e1] at kk
    have k1 : KD S b 9 0 := ⟨by omega, h2, hc, h4⟩
    have hat := hP.at k1.1 k1.2.1
    rw [ent_obj (c := 9) k1 (by decide)] at hat
    have hr := va_recv hK (va_P1 hat) (q := (RX9, TX9, 4)) (ci := 9) (q0 := 0) rfl rfl
    exact va_instS C.1 C.2.1 (nm := RX9) C.2.2.2.1 (C.2.2.2.2.1 _ wd_362) (hK.1 9 (RX9, TX9, 4) rfl).2 hr hd (kk H locs ls hP hS hl)
theorem ri_RX11_323 {D : va_G} {dT : ZT} {bs nL : Nat} {cc : ByteArray} {ret : Option FieldType} {p : Program} {l : Launch} {e : Env} {R : Room} {s : State} {m : MethodId} {args : Array Value} {below : List Frame} {meth : Method} {c : Code} {cells slots : Nat} {Q : State → Prop} {h : HH} {S : SS} {pc pc' : Nat} {L : List (Nat × Value)} {st : List Value} (C : Cx D dT bs RX11 cc nL ret p s m args meth c) {b : Int} (hH : isHb S b = true) (hd : decode cc pc = .ok (.instanceof 323, 3)) (hp : pc + 3 = pc') (kk : V D dT bs nL p l e R s m args below meth c cells slots Q h S pc' L (zI (ins_3 S b) :: st)) : V D dT bs nL p l e R s m args below meth c cells slots Q h S pc L (zP bs b :: st) := by
  intro H locs ls hP hS hl
  subst hp
  obtain ⟨h1, h2, h3, h4, h5⟩ := isHb_at hH
  have hK := C.2.2.2.2.2.2.2.1
  rcases h3 with hc | hc | hc | hc | hc | hc | hc
  · have e1 : ins_3 S b = 1 := by simp [ins_3, hc]
    rw [e1] at kk
    have k1 : KD S b 0 0 := ⟨by omega, h2, hc, h4⟩
    have hat := hP.at k1.1 k1.2.1
    rw [ent_obj (c := 0) k1 (by decide)] at hat
    have hr := va_recv hK (va_P1 hat) (q := (RX0, TX0, 4)) (ci := 0) (q0 := 0) rfl rfl
    exact va_instY C.1 C.2.1 (C := RX0) (nm := RX3) C.2.2.2.1 (C.2.2.2.2.1 _ wd_410) (zx_cast C wt_cast_0_3) hr hd (kk H locs ls hP hS hl)
  · have e1 : ins_3 S b = 0 := by simp [ins_3, hc]
    rw [e1] at kk
    have k1 : KD S b 1 0 := ⟨by omega, h2, hc, h4⟩
    have hat := hP.at k1.1 k1.2.1
    rw [ent_obj (c := 1) k1 (by decide)] at hat
    have hr := va_recv hK (va_P1 hat) (q := (RX1, TX1, 4)) (ci := 1) (q0 := 0) rfl rfl
    exact va_instNo C.1 C.2.1 (C := RX1) (nm := RX3) C.2.2.2.1 (C.2.2.2.2.1 _ wd_410) (zx_nc C (by decide +kernel)) hr hd (kk H locs ls hP hS hl)
  · have e1 : ins_3 S b = 0 := by simp [ins_3, hc]
    rw [e1] at kk
    have k1 : KD S b 2 0 := ⟨by omega, h2, hc, h4⟩
    have hat := hP.at k1.1 k1.2.1
    rw [ent_obj (c := 2) k1 (by decide)] at hat
    have hr := va_recv hK (va_P1 hat) (q := (RX2, TX2, 4)) (ci := 2) (q0 := 0) rfl rfl
    exact va_instNo C.1 C.2.1 (C := RX2) (nm := RX3) C.2.2.2.1 (C.2.2.2.2.1 _ wd_410) (zx_nc C (by decide +kernel)) hr hd (kk H locs ls hP hS hl)
  · have e1 : ins_3 S b = 1 := by simp [ins_3, hc]
    rw [e1] at kk
    have k1 : KD S b 3 0 := ⟨by omega, h2, hc, h4⟩
    have hat := hP.at k1.1 k1.2.1
    rw [ent_obj (c := 3) k1 (by decide)] at hat
    have hr := va_recv hK (va_P1 hat) (q := (RX3, TX3, 4)) (ci := 3) (q0 := 0) rfl rfl
    exact va_instS C.1 C.2.1 (nm := RX3) C.2.2.2.1 (C.2.2.2.2.1 _ wd_410) (hK.1 3 (RX3, TX3, 4) rfl).2 hr hd (kk H locs ls hP hS hl)
  · have e1 : ins_3 S b = 0 := by simp [ins_3, hc]
    rw [e1] at kk
    have k1 : KD S b 4 0 := ⟨by omega, h2, hc, h4⟩
    have hat := hP.at k1.1 k1.2.1
    rw [ent_obj (c := 4) k1 (by decide)] at hat
    have hr := va_recv hK (va_P1 hat) (q := (RX4, TX4, 4)) (ci := 4) (q0 := 0) rfl rfl
    exact va_instNo C.1 C.2.1 (C := RX4) (nm := RX3) C.2.2.2.1 (C.2.2.2.2.1 _ wd_410) (zx_nc C (by decide +kernel)) hr hd (kk H locs ls hP hS hl)
  · have e1 : ins_3 S b = 0 := by simp [ins_3, hc]
    rw [e1] at kk
    have k1 : KD S b 8 0 := ⟨by omega, h2, hc, h4⟩
    have hat := hP.at k1.1 k1.2.1
    rw [ent_obj (c := 8) k1 (by decide)] at hat
    have hr := va_recv hK (va_P1 hat) (q := (RX8, TX8, 4)) (ci := 8) (q0 := 0) rfl rfl
    exact va_instNo C.1 C.2.1 (C := RX8) (nm := RX3) C.2.2.2.1 (C.2.2.2.2.1 _ wd_410) (zx_nc C (by decide +kernel)) hr hd (kk H locs ls hP hS hl)
  · have e1 : ins_3 S b = 0 := by simp [ins_3, hc]
    rw [e1] at kk
    have k1 : KD S b 9 0 := ⟨by omega, h2, hc, h4⟩
    have hat := hP.at k1.1 k1.2.1
    rw [ent_obj (c := 9) k1 (by decide)] at hat
    have hr := va_recv hK (va_P1 hat) (q := (RX9, TX9, 4)) (ci := 9) (q0 := 0) rfl rfl
    exact va_instNo C.1 C.2.1 (C := RX9) (nm := RX3) C.2.2.2.1 (C.2.2.2.2.1 _ wd_410) (zx_nc C (by decide +kernel)) hr hd (kk H locs ls hP hS hl)
theorem ri_RX11_325 {D : va_G} {dT : ZT} {bs nL : Nat} {cc : ByteArray} {ret : Option FieldType} {p : Program} {l : Launch} {e : Env} {R : Room} {s : State} {m : MethodId} {args : Array Value} {below : List Frame} {meth : Method} {c : Code} {cells slots : Nat} {Q : State → Prop} {h : HH} {S : SS} {pc pc' : Nat} {L : List (Nat × Value)} {st : List Value} (C : Cx D dT bs RX11 cc nL ret p s m args meth c) {b : Int} (hH : isHb S b = true) (hd : decode cc pc = .ok (.instanceof 325, 3)) (hp : pc + 3 = pc') (kk : V D dT bs nL p l e R s m args below meth c cells slots Q h S pc' L (zI (ins_4 S b) :: st)) : V D dT bs nL p l e R s m args below meth c cells slots Q h S pc L (zP bs b :: st) := by
  intro H locs ls hP hS hl
  subst hp
  obtain ⟨h1, h2, h3, h4, h5⟩ := isHb_at hH
  have hK := C.2.2.2.2.2.2.2.1
  rcases h3 with hc | hc | hc | hc | hc | hc | hc
  · have e1 : ins_4 S b = 0 := by simp [ins_4, hc]
    rw [e1] at kk
    have k1 : KD S b 0 0 := ⟨by omega, h2, hc, h4⟩
    have hat := hP.at k1.1 k1.2.1
    rw [ent_obj (c := 0) k1 (by decide)] at hat
    have hr := va_recv hK (va_P1 hat) (q := (RX0, TX0, 4)) (ci := 0) (q0 := 0) rfl rfl
    exact va_instNo C.1 C.2.1 (C := RX0) (nm := RX4) C.2.2.2.1 (C.2.2.2.2.1 _ wd_421) (zx_nc C (by decide +kernel)) hr hd (kk H locs ls hP hS hl)
  · have e1 : ins_4 S b = 0 := by simp [ins_4, hc]
    rw [e1] at kk
    have k1 : KD S b 1 0 := ⟨by omega, h2, hc, h4⟩
    have hat := hP.at k1.1 k1.2.1
    rw [ent_obj (c := 1) k1 (by decide)] at hat
    have hr := va_recv hK (va_P1 hat) (q := (RX1, TX1, 4)) (ci := 1) (q0 := 0) rfl rfl
    exact va_instNo C.1 C.2.1 (C := RX1) (nm := RX4) C.2.2.2.1 (C.2.2.2.2.1 _ wd_421) (zx_nc C (by decide +kernel)) hr hd (kk H locs ls hP hS hl)
  · have e1 : ins_4 S b = 0 := by simp [ins_4, hc]
    rw [e1] at kk
    have k1 : KD S b 2 0 := ⟨by omega, h2, hc, h4⟩
    have hat := hP.at k1.1 k1.2.1
    rw [ent_obj (c := 2) k1 (by decide)] at hat
    have hr := va_recv hK (va_P1 hat) (q := (RX2, TX2, 4)) (ci := 2) (q0 := 0) rfl rfl
    exact va_instNo C.1 C.2.1 (C := RX2) (nm := RX4) C.2.2.2.1 (C.2.2.2.2.1 _ wd_421) (zx_nc C (by decide +kernel)) hr hd (kk H locs ls hP hS hl)
  · have e1 : ins_4 S b = 0 := by simp [ins_4, hc]
    rw [e1] at kk
    have k1 : KD S b 3 0 := ⟨by omega, h2, hc, h4⟩
    have hat := hP.at k1.1 k1.2.1
    rw [ent_obj (c := 3) k1 (by decide)] at hat
    have hr := va_recv hK (va_P1 hat) (q := (RX3, TX3, 4)) (ci := 3) (q0 := 0) rfl rfl
    exact va_instNo C.1 C.2.1 (C := RX3) (nm := RX4) C.2.2.2.1 (C.2.2.2.2.1 _ wd_421) (zx_nc C (by decide +kernel)) hr hd (kk H locs ls hP hS hl)
  · have e1 : ins_4 S b = 1 := by simp [ins_4, hc]
    rw [e1] at kk
    have k1 : KD S b 4 0 := ⟨by omega, h2, hc, h4⟩
    have hat := hP.at k1.1 k1.2.1
    rw [ent_obj (c := 4) k1 (by decide)] at hat
    have hr := va_recv hK (va_P1 hat) (q := (RX4, TX4, 4)) (ci := 4) (q0 := 0) rfl rfl
    exact va_instS C.1 C.2.1 (nm := RX4) C.2.2.2.1 (C.2.2.2.2.1 _ wd_421) (hK.1 4 (RX4, TX4, 4) rfl).2 hr hd (kk H locs ls hP hS hl)
  · have e1 : ins_4 S b = 1 := by simp [ins_4, hc]
    rw [e1] at kk
    have k1 : KD S b 8 0 := ⟨by omega, h2, hc, h4⟩
    have hat := hP.at k1.1 k1.2.1
    rw [ent_obj (c := 8) k1 (by decide)] at hat
    have hr := va_recv hK (va_P1 hat) (q := (RX8, TX8, 4)) (ci := 8) (q0 := 0) rfl rfl
    exact va_instY C.1 C.2.1 (C := RX8) (nm := RX4) C.2.2.2.1 (C.2.2.2.2.1 _ wd_421) (zx_cast C wt_cast_8_4) hr hd (kk H locs ls hP hS hl)
  · have e1 : ins_4 S b = 0 := by simp [ins_4, hc]
    rw [e1] at kk
    have k1 : KD S b 9 0 := ⟨by omega, h2, hc, h4⟩
    have hat := hP.at k1.1 k1.2.1
    rw [ent_obj (c := 9) k1 (by decide)] at hat
    have hr := va_recv hK (va_P1 hat) (q := (RX9, TX9, 4)) (ci := 9) (q0 := 0) rfl rfl
    exact va_instNo C.1 C.2.1 (C := RX9) (nm := RX4) C.2.2.2.1 (C.2.2.2.2.1 _ wd_421) (zx_nc C (by decide +kernel)) hr hd (kk H locs ls hP hS hl)
theorem ri_RX11_327 {D : va_G} {dT : ZT} {bs nL : Nat} {cc : ByteArray} {ret : Option FieldType} {p : Program} {l : Launch} {e : Env} {R : Room} {s : State} {m : MethodId} {args : Array Value} {below : List Frame} {meth : Method} {c : Code} {cells slots : Nat} {Q : State → Prop} {h : HH} {S : SS} {pc pc' : Nat} {L : List (Nat × Value)} {st : List Value} (C : Cx D dT bs RX11 cc nL ret p s m args meth c) {b : Int} (hH : isHb S b = true) (hd : decode cc pc = .ok (.instanceof 327, 3)) (hp : pc + 3 = pc') (kk : V D dT bs nL p l e R s m args below meth c cells slots Q h S pc' L (zI (ins_1 S b) :: st)) : V D dT bs nL p l e R s m args below meth c cells slots Q h S pc L (zP bs b :: st) := by
  intro H locs ls hP hS hl
  subst hp
  obtain ⟨h1, h2, h3, h4, h5⟩ := isHb_at hH
  have hK := C.2.2.2.2.2.2.2.1
  rcases h3 with hc | hc | hc | hc | hc | hc | hc
  · have e1 : ins_1 S b = 0 := by simp [ins_1, hc]
    rw [e1] at kk
    have k1 : KD S b 0 0 := ⟨by omega, h2, hc, h4⟩
    have hat := hP.at k1.1 k1.2.1
    rw [ent_obj (c := 0) k1 (by decide)] at hat
    have hr := va_recv hK (va_P1 hat) (q := (RX0, TX0, 4)) (ci := 0) (q0 := 0) rfl rfl
    exact va_instNo C.1 C.2.1 (C := RX0) (nm := RX1) C.2.2.2.1 (C.2.2.2.2.1 _ wd_432) (zx_nc C (by decide +kernel)) hr hd (kk H locs ls hP hS hl)
  · have e1 : ins_1 S b = 1 := by simp [ins_1, hc]
    rw [e1] at kk
    have k1 : KD S b 1 0 := ⟨by omega, h2, hc, h4⟩
    have hat := hP.at k1.1 k1.2.1
    rw [ent_obj (c := 1) k1 (by decide)] at hat
    have hr := va_recv hK (va_P1 hat) (q := (RX1, TX1, 4)) (ci := 1) (q0 := 0) rfl rfl
    exact va_instS C.1 C.2.1 (nm := RX1) C.2.2.2.1 (C.2.2.2.2.1 _ wd_432) (hK.1 1 (RX1, TX1, 4) rfl).2 hr hd (kk H locs ls hP hS hl)
  · have e1 : ins_1 S b = 0 := by simp [ins_1, hc]
    rw [e1] at kk
    have k1 : KD S b 2 0 := ⟨by omega, h2, hc, h4⟩
    have hat := hP.at k1.1 k1.2.1
    rw [ent_obj (c := 2) k1 (by decide)] at hat
    have hr := va_recv hK (va_P1 hat) (q := (RX2, TX2, 4)) (ci := 2) (q0 := 0) rfl rfl
    exact va_instNo C.1 C.2.1 (C := RX2) (nm := RX1) C.2.2.2.1 (C.2.2.2.2.1 _ wd_432) (zx_nc C (by decide +kernel)) hr hd (kk H locs ls hP hS hl)
  · have e1 : ins_1 S b = 0 := by simp [ins_1, hc]
    rw [e1] at kk
    have k1 : KD S b 3 0 := ⟨by omega, h2, hc, h4⟩
    have hat := hP.at k1.1 k1.2.1
    rw [ent_obj (c := 3) k1 (by decide)] at hat
    have hr := va_recv hK (va_P1 hat) (q := (RX3, TX3, 4)) (ci := 3) (q0 := 0) rfl rfl
    exact va_instNo C.1 C.2.1 (C := RX3) (nm := RX1) C.2.2.2.1 (C.2.2.2.2.1 _ wd_432) (zx_nc C (by decide +kernel)) hr hd (kk H locs ls hP hS hl)
  · have e1 : ins_1 S b = 0 := by simp [ins_1, hc]
    rw [e1] at kk
    have k1 : KD S b 4 0 := ⟨by omega, h2, hc, h4⟩
    have hat := hP.at k1.1 k1.2.1
    rw [ent_obj (c := 4) k1 (by decide)] at hat
    have hr := va_recv hK (va_P1 hat) (q := (RX4, TX4, 4)) (ci := 4) (q0 := 0) rfl rfl
    exact va_instNo C.1 C.2.1 (C := RX4) (nm := RX1) C.2.2.2.1 (C.2.2.2.2.1 _ wd_432) (zx_nc C (by decide +kernel)) hr hd (kk H locs ls hP hS hl)
  · have e1 : ins_1 S b = 0 := by simp [ins_1, hc]
    rw [e1] at kk
    have k1 : KD S b 8 0 := ⟨by omega, h2, hc, h4⟩
    have hat := hP.at k1.1 k1.2.1
    rw [ent_obj (c := 8) k1 (by decide)] at hat
    have hr := va_recv hK (va_P1 hat) (q := (RX8, TX8, 4)) (ci := 8) (q0 := 0) rfl rfl
    exact va_instNo C.1 C.2.1 (C := RX8) (nm := RX1) C.2.2.2.1 (C.2.2.2.2.1 _ wd_432) (zx_nc C (by decide +kernel)) hr hd (kk H locs ls hP hS hl)
  · have e1 : ins_1 S b = 0 := by simp [ins_1, hc]
    rw [e1] at kk
    have k1 : KD S b 9 0 := ⟨by omega, h2, hc, h4⟩
    have hat := hP.at k1.1 k1.2.1
    rw [ent_obj (c := 9) k1 (by decide)] at hat
    have hr := va_recv hK (va_P1 hat) (q := (RX9, TX9, 4)) (ci := 9) (q0 := 0) rfl rfl
    exact va_instNo C.1 C.2.1 (C := RX9) (nm := RX1) C.2.2.2.1 (C.2.2.2.2.1 _ wd_432) (zx_nc C (by decide +kernel)) hr hd (kk H locs ls hP hS hl)
theorem ri_RX11_329 {D : va_G} {dT : ZT} {bs nL : Nat} {cc : ByteArray} {ret : Option FieldType} {p : Program} {l : Launch} {e : Env} {R : Room} {s : State} {m : MethodId} {args : Array Value} {below : List Frame} {meth : Method} {c : Code} {cells slots : Nat} {Q : State → Prop} {h : HH} {S : SS} {pc pc' : Nat} {L : List (Nat × Value)} {st : List Value} (C : Cx D dT bs RX11 cc nL ret p s m args meth c) {b : Int} (hH : isHb S b = true) (hd : decode cc pc = .ok (.instanceof 329, 3)) (hp : pc + 3 = pc') (kk : V D dT bs nL p l e R s m args below meth c cells slots Q h S pc' L (zI (ins_0 S b) :: st)) : V D dT bs nL p l e R s m args below meth c cells slots Q h S pc L (zP bs b :: st) := by
  intro H locs ls hP hS hl
  subst hp
  obtain ⟨h1, h2, h3, h4, h5⟩ := isHb_at hH
  have hK := C.2.2.2.2.2.2.2.1
  rcases h3 with hc | hc | hc | hc | hc | hc | hc
  · have e1 : ins_0 S b = 1 := by simp [ins_0, hc]
    rw [e1] at kk
    have k1 : KD S b 0 0 := ⟨by omega, h2, hc, h4⟩
    have hat := hP.at k1.1 k1.2.1
    rw [ent_obj (c := 0) k1 (by decide)] at hat
    have hr := va_recv hK (va_P1 hat) (q := (RX0, TX0, 4)) (ci := 0) (q0 := 0) rfl rfl
    exact va_instS C.1 C.2.1 (nm := RX0) C.2.2.2.1 (C.2.2.2.2.1 _ wd_443) (hK.1 0 (RX0, TX0, 4) rfl).2 hr hd (kk H locs ls hP hS hl)
  · have e1 : ins_0 S b = 0 := by simp [ins_0, hc]
    rw [e1] at kk
    have k1 : KD S b 1 0 := ⟨by omega, h2, hc, h4⟩
    have hat := hP.at k1.1 k1.2.1
    rw [ent_obj (c := 1) k1 (by decide)] at hat
    have hr := va_recv hK (va_P1 hat) (q := (RX1, TX1, 4)) (ci := 1) (q0 := 0) rfl rfl
    exact va_instNo C.1 C.2.1 (C := RX1) (nm := RX0) C.2.2.2.1 (C.2.2.2.2.1 _ wd_443) (zx_nc C (by decide +kernel)) hr hd (kk H locs ls hP hS hl)
  · have e1 : ins_0 S b = 0 := by simp [ins_0, hc]
    rw [e1] at kk
    have k1 : KD S b 2 0 := ⟨by omega, h2, hc, h4⟩
    have hat := hP.at k1.1 k1.2.1
    rw [ent_obj (c := 2) k1 (by decide)] at hat
    have hr := va_recv hK (va_P1 hat) (q := (RX2, TX2, 4)) (ci := 2) (q0 := 0) rfl rfl
    exact va_instNo C.1 C.2.1 (C := RX2) (nm := RX0) C.2.2.2.1 (C.2.2.2.2.1 _ wd_443) (zx_nc C (by decide +kernel)) hr hd (kk H locs ls hP hS hl)
  · have e1 : ins_0 S b = 0 := by simp [ins_0, hc]
    rw [e1] at kk
    have k1 : KD S b 3 0 := ⟨by omega, h2, hc, h4⟩
    have hat := hP.at k1.1 k1.2.1
    rw [ent_obj (c := 3) k1 (by decide)] at hat
    have hr := va_recv hK (va_P1 hat) (q := (RX3, TX3, 4)) (ci := 3) (q0 := 0) rfl rfl
    exact va_instNo C.1 C.2.1 (C := RX3) (nm := RX0) C.2.2.2.1 (C.2.2.2.2.1 _ wd_443) (zx_nc C (by decide +kernel)) hr hd (kk H locs ls hP hS hl)
  · have e1 : ins_0 S b = 0 := by simp [ins_0, hc]
    rw [e1] at kk
    have k1 : KD S b 4 0 := ⟨by omega, h2, hc, h4⟩
    have hat := hP.at k1.1 k1.2.1
    rw [ent_obj (c := 4) k1 (by decide)] at hat
    have hr := va_recv hK (va_P1 hat) (q := (RX4, TX4, 4)) (ci := 4) (q0 := 0) rfl rfl
    exact va_instNo C.1 C.2.1 (C := RX4) (nm := RX0) C.2.2.2.1 (C.2.2.2.2.1 _ wd_443) (zx_nc C (by decide +kernel)) hr hd (kk H locs ls hP hS hl)
  · have e1 : ins_0 S b = 0 := by simp [ins_0, hc]
    rw [e1] at kk
    have k1 : KD S b 8 0 := ⟨by omega, h2, hc, h4⟩
    have hat := hP.at k1.1 k1.2.1
    rw [ent_obj (c := 8) k1 (by decide)] at hat
    have hr := va_recv hK (va_P1 hat) (q := (RX8, TX8, 4)) (ci := 8) (q0 := 0) rfl rfl
    exact va_instNo C.1 C.2.1 (C := RX8) (nm := RX0) C.2.2.2.1 (C.2.2.2.2.1 _ wd_443) (zx_nc C (by decide +kernel)) hr hd (kk H locs ls hP hS hl)
  · have e1 : ins_0 S b = 0 := by simp [ins_0, hc]
    rw [e1] at kk
    have k1 : KD S b 9 0 := ⟨by omega, h2, hc, h4⟩
    have hat := hP.at k1.1 k1.2.1
    rw [ent_obj (c := 9) k1 (by decide)] at hat
    have hr := va_recv hK (va_P1 hat) (q := (RX9, TX9, 4)) (ci := 9) (q0 := 0) rfl rfl
    exact va_instNo C.1 C.2.1 (C := RX9) (nm := RX0) C.2.2.2.1 (C.2.2.2.2.1 _ wd_443) (zx_nc C (by decide +kernel)) hr hd (kk H locs ls hP hS hl)
