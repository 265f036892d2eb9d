-- NEW CELLS: the flat memory grows
def SXt (S S' : SS) : Prop := S.2 ≤ S'.2 ∧ ∀ k j : Int, k < S.2 → S'.1 k j = S.1 k j
theorem SXt.rf {S : SS} : SXt S S := ⟨Nat.le_refl _, fun _ _ _ => rfl⟩
theorem SXt.tr {S S1 S2 : SS} (a : SXt S S1) (b : SXt S1 S2) : SXt S S2 := ⟨Nat.le_trans a.1 b.1, fun k j h => by rw [b.2 k j (by have := a.1; omega), a.2 k j h]⟩
theorem SXt.nS {S : SS} {c n : Int} : SXt S (nS S c n) := ⟨Nat.le_succ _, fun k j h => by
  show (if k = (S.2 : Int) then _ else S.1 k j) = _
  rw [if_neg (by omega)]⟩
theorem KD.ext {S S' : SS} {k c n : Int} (a : SXt S S') (h : KD S k c n) : KD S' k c n := by
  obtain ⟨h0, h1, h2, h3⟩ := h
  exact ⟨h0, by have := a.1; omega, by rw [a.2 k _ h1]; exact h2, by rw [a.2 k _ h1]; exact h3⟩
theorem KD.new {S : SS} {c n : Int} : KD (nS S c n) S.2 c n := by
  refine ⟨by omega, by show (S.2 : Int) < ((S.2 + 1 : Nat) : Int); omega, ?_, ?_⟩
  · show (if (S.2 : Int) = S.2 then (if (-1 : Int) = -1 then c else _) else _) = c
    rw [if_pos rfl, if_pos rfl]
  · show (if (S.2 : Int) = S.2 then (if (-2 : Int) = -1 then c else if (-2 : Int) = -2 then n else -1) else _) = n
    rw [if_pos rfl, if_neg (by decide), if_pos rfl]
theorem KD.nS {S : SS} {k c n c' n' : Int} (h : KD S k c n) : KD (nS S c' n') k c n := h.ext SXt.nS
theorem KD.uS {S : SS} {k c n a j v : Int} (h : KD S k c n) (hj : 0 ≤ j) : KD (uS S a j v) k c n := by
  obtain ⟨h0, h1, h2, h3⟩ := h
  refine ⟨h0, h1, ?_, ?_⟩
  · show (if k = a ∧ (-1 : Int) = j then v else S.1 k (-1)) = c
    rw [if_neg (by omega)]; exact h2
  · show (if k = a ∧ (-2 : Int) = j then v else S.1 k (-2)) = n
    rw [if_neg (by omega)]; exact h3
def N0F : Int := 243
theorem Fx.ext {S S' : SS} (a : SXt S S') (h : Fx S) : Fx S' := by
  have hk : ∀ q ∈ RT, q.1 < N0F := by decide +kernel
  refine ⟨Nat.le_trans h.1 a.1, fun q hq => ?_⟩
  have h1 := h.1
  have h2 := hk q hq
  rw [a.2 q.1 q.2.1 (by unfold N0F at h2; omega)]
  exact h.2 q hq
theorem ent_nS_ne {dT : ZT} {bs : Nat} {h : HH} {S : SS} {c n a : Int} (hn : a ≠ S.2) : ent dT bs (nh h S.2) (nS S c n) a = ent dT bs h S a := by
  simp [ent, fldV, nh, nS, hn]
theorem ent_arO {dT : ZT} {bs : Nat} {h : HH} {S : SS} {k n : Int} (hk : KD S k 27 n) : ent dT bs h S k = .inl (dT.1 7, n.toNat, .inr (.inr (.inr (.inr (fun j => if h k j = 0 then none else some (dT.2.1 (h k j))))))) := by
  obtain ⟨h0, h1, h2, h3⟩ := hk
  unfold ent
  rw [h2, h3]
  simp
theorem nh_at {h : HH} {N : Nat} {j : Int} : nh h N N j = 0 := by simp [nh]
theorem nS_at {S : SS} {c n j : Int} (h1 : j ≠ -1) (h2 : j ≠ -2) : (nS S c n).1 S.2 j = -1 := by simp [nS, h1, h2]
theorem Pic.push {D : va_G} {dT : ZT} {bs : Nat} {h : HH} {S : SS} {H H1 : Heap} {c n : Int} (hP : Pic D dT bs h S H) (hz : H1.size = H.size + 1) (ho : ∀ q : Nat, q < H.size → H1[q]? = H[q]?) (hk : va_at D clX (bs + S.2, ent dT bs (nh h S.2) (nS S c n) S.2) H1) : Pic D dT bs (nh h S.2) (nS S c n) H1 := by
  refine ⟨by rw [hz, hP.1]; rfl, fun i hi => ?_⟩
  by_cases e : i = S.2
  · subst e; exact hk
  · have hi' : i < S.2 := by have : i < S.2 + 1 := hi; omega
    rw [ent_nS_ne (by omega)]
    exact (hP.2 i hi').kept (ho _ (by rw [hP.1]; show bs + i < bs + S.2; omega))
theorem vp_V_of {fs : List Value} {j : Nat} {v : Value} (h : fs[j]? = some v) : vp_V fs j = v := by
  unfold vp_V
  first | (rw [h]; rfl) | (simp [h]) | (simp [List.getD, h])
section ZN
variable {D : va_G} {dT : ZT} {bs nL : Nat} {own : String} {cc : ByteArray} {ret : Option FieldType} {p : Program} {l : Launch} {e : Env} {R : Room} {s : State} {m : MethodId} {args : Array Value} {below : List Frame} {meth : Method} {c : Code} {cells slots : Nat} {Q : State → Prop} {h : HH} {S : SS} {pc pc' tgt : Nat} {L L' : List (Nat × Value)} {st : List Value} {H : Heap} {locs : List Loc} {ls : Array Slot}
theorem fldV_fresh {ci : Nat} {n : Int} {j : Nat} (hj : j < nF ci) : (fldV dT bs (nh h S.2) (nS S ci n) ci S.2)[j]? = some (if fR ci j then .null else zI 0) := by
  cases hr : fR ci j with
  | false => rw [fldV_int hj hr, nh_at]; rfl
  | true =>
    by_cases h13 : ci = 13
    · subst h13; rw [fldV_refE hj hr, nh_at]; rfl
    · by_cases h10 : ci = 10 ∧ j = 11
      · obtain ⟨rfl, rfl⟩ := h10
        rw [fldV_refD hr hj, nh_at]; rfl
      · rw [fldV_ref hj hr ⟨h13, h10⟩, nS_at (by omega) (by omega)]; rfl
theorem S_push {H1 : Heap} (hS : va_S (AA bs) s.heap H locs) (z1 : H1.size = H.size + 1) (o1 : ∀ q : Nat, q < H.size → H1[q]? = H[q]?) : va_S (AA bs) s.heap H1 locs := ⟨Nat.le_trans hS.1 (by omega), fun x h1 h2 => (o1 x (Nat.lt_of_lt_of_le h1 hS.1)).trans (hS.2.1 x h1 h2), hS.2.2⟩
theorem r_new (C : Cx D dT bs own cc nL ret p s m args meth c) {ci ix N : Nat} {Cn : String} {T : u_T} {ty : Nat → FieldType} (hcl : ci < 20 ∧ clX[ci]? = some (Cn, T, N)) (hin : ∀ w ∈ u_ws Cn T N, w ∈ lwb) (hty : ∀ k, k < N → parseFieldDescriptor (T k).2.2.1 = some (ty k)) (hdv : ∀ j, j < N → defaultValue (ty j) = if fR ci j then .null else zI 0) (h1 : Cond.classLink own ix Cn ∈ lwb) (h2 : Cond.instantiable Cn N ∈ lwb) (h3 : Cond.initialized Cn ∈ lwb) (hz : cells + 1 ≤ R.cells ∧ slots + N ≤ R.slots) (hd : decode cc pc = .ok (.new ix, 3)) (hp : pc + 3 = pc')
    (kk : V D dT bs nL p l e R s m args below meth c (cells + 1) (slots + N) Q (nh h S.2) (nS S ci 0) pc' L (zP bs S.2 :: st)) : V D dT bs nL p l e R s m args below meth c cells slots Q h S pc L st := by
  intro H locs ls hP hS hl
  subst hp
  have hK := C.2.2.2.2.2.2.2.1
  have hts := C.2.2.2.2.1
  have hKn := hK.1 ci _ hcl.2
  refine W.newcK C.1 C.2.1 C.2.2.2.1 (hts _ h1) (hts _ h2) (hts _ h3) rfl hd hz.1 hz.2 hKn.2.1 rfl fun H1 kC hkC e1 z1 o1 => ?_
  have hat : va_at D clX (bs + S.2, ent dT bs (nh h S.2) (nS S ci 0) S.2) H1 := by
    rw [ent_obj KD.new hcl.1, ← hP.1]
    refine ⟨_, hcl.2, (u_born ty hts hin hKn hkC e1 hty).to (fun j hj => ?_)⟩
    rw [hdv j hj]
    exact (vp_V_of (fldV_fresh (by rw [nF_of hcl.2]; exact hj))).symm
  have k2 := kk H1 locs ls (hP.push z1 o1 hat) (S_push hS z1 o1) hl
  rw [show zP bs (S.2 : Int) = .ref H.size from by rw [hP.1]; rfl] at k2
  exact k2
theorem r_newI (C : Cx D dT bs own cc nL ret p s m args meth c) {a n : Int} (h1 : Cond.arrayClass .int ∈ lwb) (ha : ww a = n) (hn : 0 ≤ n ∧ n ≤ 1000) (hz : cells + 1 ≤ R.cells ∧ slots + n.toNat ≤ R.slots) (hd : decode cc pc = .ok (.newarray .int, 2)) (hp : pc + 2 = pc')
    (kk : V D dT bs nL p l e R s m args below meth c (cells + 1) (slots + n.toNat) Q (nh h S.2) (nS S 20 n) pc' L (zP bs S.2 :: st)) : V D dT bs nL p l e R s m args below meth c cells slots Q h S pc L (zI a :: st) := by
  intro H locs ls hP hS hl
  subst hp
  have hK := C.2.2.2.2.2.2.2.1
  have hts := C.2.2.2.2.1
  have hneg : ¬ Int32.ofInt a < 0 := fun q => by have := ww_lt0.mp q; omega
  refine va_newaK C.1 C.2.1 (atype := .int) (hts _ h1) rfl hd rfl hneg (ww_cl ha hn.1) (by show n.toNat * 4 ≤ _; omega) hz.1 hz.2 rfl fun H1 cA e1 z1 o1 hAr hNm => ?_
  have hA : s.vm.findClass ("[" ++ (FieldType.int).toString) = some (dT.1 0) := (hK.2 0 _ (tyL_at (by decide))).2
  cases hA.symm.trans hNm
  have hat : va_at D clX (bs + S.2, ent dT bs (nh h S.2) (nS S 20 n) S.2) H1 := by
    rw [ent_arI KD.new, ← hP.1]
    show H1[H.size]? = some (arrV (dT.1 0) n.toNat (fun j => .int (Int32.ofInt (nh h S.2 S.2 j))))
    rw [e1]; simp only [nh_at]; rfl
  have k2 := kk H1 locs ls (hP.push z1 o1 hat) (S_push hS z1 o1) hl
  rw [show zP bs (S.2 : Int) = .ref H.size from by rw [hP.1]; rfl] at k2
  exact k2
theorem r_newZ (C : Cx D dT bs own cc nL ret p s m args meth c) {a n : Int} (h1 : Cond.arrayClass .boolean ∈ lwb) (ha : ww a = n) (hn : 0 ≤ n ∧ n ≤ 1000) (hz : cells + 1 ≤ R.cells ∧ slots + n.toNat ≤ R.slots) (hd : decode cc pc = .ok (.newarray .boolean, 2)) (hp : pc + 2 = pc')
    (kk : V D dT bs nL p l e R s m args below meth c (cells + 1) (slots + n.toNat) Q (nh h S.2) (nS S 22 n) pc' L (zP bs S.2 :: st)) : V D dT bs nL p l e R s m args below meth c cells slots Q h S pc L (zI a :: st) := by
  intro H locs ls hP hS hl
  subst hp
  have hK := C.2.2.2.2.2.2.2.1
  have hts := C.2.2.2.2.1
  have hneg : ¬ Int32.ofInt a < 0 := fun q => by have := ww_lt0.mp q; omega
  refine va_newaK C.1 C.2.1 (atype := .boolean) (hts _ h1) rfl hd rfl hneg (ww_cl ha hn.1) (by show n.toNat * 1 ≤ _; omega) hz.1 hz.2 rfl fun H1 cA e1 z1 o1 hAr hNm => ?_
  have hA : s.vm.findClass ("[" ++ (FieldType.boolean).toString) = some (dT.1 2) := (hK.2 2 _ (tyL_at (by decide))).2
  cases hA.symm.trans hNm
  have hat : va_at D clX (bs + S.2, ent dT bs (nh h S.2) (nS S 22 n) S.2) H1 := by
    rw [ent_arZ KD.new, ← hP.1]
    show H1[H.size]? = some (arrV (dT.1 2) n.toNat (fun j => .int (Int32.ofInt (nh h S.2 S.2 j))))
    rw [e1]; simp only [nh_at]; rfl
  have k2 := kk H1 locs ls (hP.push z1 o1 hat) (S_push hS z1 o1) hl
  rw [show zP bs (S.2 : Int) = .ref H.size from by rw [hP.1]; rfl] at k2
  exact k2
theorem r_newL (C : Cx D dT bs own cc nL ret p s m args meth c) {a n : Int} (h1 : Cond.arrayClass .long ∈ lwb) (ha : ww a = n) (hn : 0 ≤ n ∧ n ≤ 1000) (hz : cells + 1 ≤ R.cells ∧ slots + n.toNat ≤ R.slots) (hd : decode cc pc = .ok (.newarray .long, 2)) (hp : pc + 2 = pc')
    (kk : V D dT bs nL p l e R s m args below meth c (cells + 1) (slots + n.toNat) Q (nh h S.2) (nS S 21 n) pc' L (zP bs S.2 :: st)) : V D dT bs nL p l e R s m args below meth c cells slots Q h S pc L (zI a :: st) := by
  intro H locs ls hP hS hl
  subst hp
  have hK := C.2.2.2.2.2.2.2.1
  have hts := C.2.2.2.2.1
  have hneg : ¬ Int32.ofInt a < 0 := fun q => by have := ww_lt0.mp q; omega
  refine va_newaK C.1 C.2.1 (atype := .long) (hts _ h1) rfl hd rfl hneg (ww_cl ha hn.1) (by show n.toNat * 8 ≤ _; omega) hz.1 hz.2 rfl fun H1 cA e1 z1 o1 hAr hNm => ?_
  have hA : s.vm.findClass ("[" ++ (FieldType.long).toString) = some (dT.1 1) := (hK.2 1 _ (tyL_at (by decide))).2
  cases hA.symm.trans hNm
  have hat : va_at D clX (bs + S.2, ent dT bs (nh h S.2) (nS S 21 n) S.2) H1 := by
    rw [ent_arL KD.new, ← hP.1]
    show H1[H.size]? = some (arrV (dT.1 1) n.toNat (fun j => .long (Int64.ofInt (nh h S.2 S.2 j))))
    rw [e1]; simp only [nh_at]; rfl
  have k2 := kk H1 locs ls (hP.push z1 o1 hat) (S_push hS z1 o1) hl
  rw [show zP bs (S.2 : Int) = .ref H.size from by rw [hP.1]; rfl] at k2
  exact k2
theorem zx_ao (C : Cx D dT bs own cc nL ret p s m args meth c) {A : String} (hm : Cond.arrayOver (.object A) ∈ lw_tbl) : va_AO A s := by
  obtain ⟨z1, -, -, -, z5, -⟩ := C.2.2.2.2.2.2.2.2.2
  exact va_AO.moved z1.alike (va_AO.of (z5 _ hm))
/-- a new row of references: kind 25, 26 or 27 -/
theorem r_anew (C : Cx D dT bs own cc nL ret p s m args meth c) {a n : Int} {t ix : Nat} {A : String} (ht : t = 5 ∨ t = 6 ∨ t = 7) (hA : tyA t = .object A) (hlink : Cond.classLink own ix A ∈ lwb) (hao : Cond.arrayOver (.object A) ∈ lw_tbl) (ha : ww a = n) (hn : 0 ≤ n ∧ n ≤ 1000) (hz : cells + 1 ≤ R.cells ∧ slots + n.toNat ≤ R.slots) (hd : decode cc pc = .ok (.anewarray ix, 3)) (hp : pc + 3 = pc')
    (kk : V D dT bs nL p l e R s m args below meth c (cells + 1) (slots + n.toNat) Q (nh h S.2) (nS S (20 + (t : Int)) n) pc' L (zP bs S.2 :: st)) : V D dT bs nL p l e R s m args below meth c cells slots Q h S pc L (zI a :: st) := by
  intro H locs ls hP hS hl
  subst hp
  have hK := C.2.2.2.2.2.2.2.1
  have hts := C.2.2.2.2.1
  have hneg : ¬ Int32.ofInt a < 0 := fun q => by have := ww_lt0.mp q; omega
  have hcl := ww_cl ha hn.1
  refine W.anew C.1 C.2.1 C.2.2.2.1 (hts _ hlink) (va_AO.use (zx_ao C hao)) rfl hd rfl hneg (by rw [hcl]; omega) hz.1 (by rw [hcl]; exact hz.2) fun cA kA comp f1 f2 f3 f4 => ?_
  generalize hH1 : H.push ({ cls := cA, slots := Array.replicate (Int32.ofInt a).toNatClampNeg .null, vm := .none } : Cell) = H1
  have z1 : H1.size = H.size + 1 := by rw [← hH1, Array.size_push]
  have e1 : H1[H.size]? = some (arrV cA n.toNat (fun _ => .null)) := by rw [← hH1, Array.getElem?_push_size, ← arrV_new, hcl]
  have o1 : ∀ q : Nat, q < H.size → H1[q]? = H[q]? := fun q hq => by rw [← hH1, Array.getElem?_push, if_neg (Nat.ne_of_lt hq)]
  have hAA : s.vm.findClass ("[" ++ (FieldType.object A).toString) = some (dT.1 t) := by
    have h7 := (hK.2 t _ (tyL_at (by omega))).2
    rw [hA] at h7
    obtain ⟨_, _, -, -, -, h8⟩ := h7
    exact h8
  cases hAA.symm.trans f1
  have hat : va_at D clX (bs + S.2, ent dT bs (nh h S.2) (nS S (20 + (t : Int)) n) S.2) H1 := by
    rcases ht with rfl | rfl | rfl
    · rw [show ((20 : Int) + ((5 : Nat) : Int)) = 25 from rfl, ent_arD KD.new, ← hP.1]
      show H1[H.size]? = some (arrV (dT.1 5) n.toNat (fun j => va_rf (oD bs (nh h S.2 S.2 j))))
      rw [e1]; simp only [nh_at]; rfl
    · rw [ent_arR (t := 6) KD.new (by decide) (by decide) (by decide), ← hP.1]
      show H1[H.size]? = some (arrV (dT.1 6) n.toNat (fun j => va_rf (oP bs ((nS S (20 + (6 : Nat)) n).1 S.2 j))))
      rw [e1]
      congr 2
      funext j
      rw [nS_at (by omega) (by omega)]; rfl
    · rw [show ((20 : Int) + ((7 : Nat) : Int)) = 27 from rfl, ent_arO KD.new, ← hP.1]
      show H1[H.size]? = some (arrV (dT.1 7) n.toNat (fun j => va_rf (if nh h S.2 S.2 j = 0 then none else some (dT.2.1 (nh h S.2 S.2 j)))))
      rw [e1]; simp only [nh_at]; rfl
  have k2 := kk H1 locs ls (hP.push z1 o1 hat) (S_push hS z1 o1) hl
  rw [show zP bs (S.2 : Int) = .ref H.size from by rw [hP.1]; rfl] at k2
  rw [hcl]
  exact k2
end ZN
