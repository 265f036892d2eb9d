/-- an old text: its cell a, its bytes (of whole numbers below 128) -/
def StrE (a : Nat) (byt : List Int32) (bs : Nat) (U : State) (H : Heap) : Prop := ∃ av : Nat, vk_S 1 [byt.length] [byt] (fun _ => a) (fun _ => av) (AA bs) U H
theorem StrE.moved {a : Nat} {byt : List Int32} {bs : Nat} {u U : State} {H H1 : Heap} (h : StrE a byt bs u H) (hvm : u.vm.Alike U.vm) (hq : ∀ q : Nat, q < H.size → ¬ AA bs q → H1[q]? = H[q]?) : StrE a byt bs U H1 := by
  obtain ⟨av, h⟩ := h
  exact ⟨av, (h.moved hvm).kept hq⟩
section ZS
variable {D : va_G} {dT : ZT} {bs nL : Nat} {own : String} {cc : ByteArray} {ret : Option FieldType} {p : Program} {l : Launch} {e : Env} {R : Room} {s : State} {m : MethodId} {args : Array Value} {below : List Frame} {meth : Method} {c : Code} {cells slots : Nat} {Q : State → Prop} {h : HH} {S : SS} {pc pc' tgt : Nat} {L L' : List (Nat × Value)} {st : List Value} {H : Heap} {locs : List Loc} {ls : Array Slot}
/-- what is at the law's start is here too -/
theorem zx_here (C : Cx D dT bs own cc nL ret p s m args meth c) : dT.2.2.2.1.WarmedH s.vm ∧ (∀ q : Nat, q < dT.2.2.2.1.heap.size → ¬ AA bs q → s.heap[q]? = dT.2.2.2.1.heap[q]?) ∧ (∀ q : Nat, q < dT.2.2.2.1.heap.size → ¬ AA bs q) ∧ (∀ c ∈ flatC (Jvm.Cond.and given_1 narrow_1), c.before #[Value.ref dT.2.2.2.2] dT.2.2.2.1 = true) ∧ (∀ w ∈ lw_tbl, w.before #[Value.ref dT.2.2.2.2] dT.2.2.2.1 = true) := by
  obtain ⟨z1, z2, z3, z4, z5, -⟩ := C.2.2.2.2.2.2.2.2.2
  exact ⟨z1, fun q h1 _ => z3 q (by omega), fun q h1 h2 => by have : bs ≤ q := h2; omega, flat_of_before _ z4, z5⟩
/-- a constant text of a class -/
theorem zx_str (C : Cx D dT bs own cc nL ret p s m args meth c) {o tx : String} {ix : Nat} {byt : List Int32} (hlen : byt.length < 2 ^ 31) (hw : Cond.stringRef o ix tx ∈ lw_tbl)
    (h1 : Cond.exactly (.string o ix) "java/lang/String" ∈ flatC (Jvm.Cond.and given_1 narrow_1)) (h2 : Cond.eq (.field (.string o ix) "java/lang/String" "coder" "B") (.int 0) ∈ flatC (Jvm.Cond.and given_1 narrow_1)) (h3 : Cond.arrayOf (.field (.string o ix) "java/lang/String" "value" "[B") .byte ∈ flatC (Jvm.Cond.and given_1 narrow_1)) (h4 : Cond.eq (.length (.field (.string o ix) "java/lang/String" "value" "[B")) (.int (Int32.ofNat byt.length)) ∈ flatC (Jvm.Cond.and given_1 narrow_1)) (h5 : ∀ j : Nat, j < byt.length → Cond.eq (.elem (.field (.string o ix) "java/lang/String" "value" "[B") (.int (Int32.ofNat j))) (.int (byt.getD j 0)) ∈ flatC (Jvm.Cond.and given_1 narrow_1)) :
    ∃ a : Nat, StrE a byt bs s s.heap ∧ vk_R o ix tx a s := by
  obtain ⟨z1, z2, z3, z4, z5⟩ := zx_here C
  have hz : ∀ i : Nat, i < 1 → i = 0 := fun i h => by omega
  obtain ⟨adK, adV, k1, k2⟩ := vk_Sof (N := 1) (tm := fun _ => .string o ix) (len := [byt.length]) (byt := [byt]) (A := AA bs) (fun i hi => by rw [hz i hi]; exact hlen) (fun i hi => z4 _ h1) (fun i hi => z4 _ h2) (fun i hi => z4 _ h3) (fun i hi => by rw [hz i hi]; exact z4 _ h4) (fun i hi j hj => by rw [hz i hi] at hj ⊢; exact z4 _ (h5 j hj)) (fun i j hi hj hn => absurd ((hz i hi).trans (hz j hj).symm) hn) z3
  have k3 : vk_S 1 [byt.length] [byt] (fun _ => adK 0) (fun _ => adV 0) (AA bs) dT.2.2.2.1 dT.2.2.2.1.heap := ⟨fun i hi => by rw [hz i hi]; exact k1.1 0 (by omega), fun i j hi hj _ => (hz i hi).trans (hz j hj).symm⟩
  refine ⟨adK 0, ⟨adV 0, (k3.moved z1.alike).kept z2⟩, vk_R.warm z1 (vk_R.of (z5 _ hw) (k2 0 (by omega)))⟩
theorem zx_cs (C : Cx D dT bs own cc nL ret p s m args meth c) (w1 : Cond.laysStatic "java/lang/String" "COMPACT_STRINGS" "Z" ∈ lw_tbl) (w2 : Cond.initialized "java/lang/String" ∈ lw_tbl) : va_Z "java/lang/String" "COMPACT_STRINGS" "Z" (.int 1) (AA bs) s s.heap := by
  obtain ⟨z1, z2, z3, z4, z5⟩ := zx_here C
  have h0 : Cond.eq (.static "java/lang/String" "COMPACT_STRINGS" "Z") (.int 1) ∈ flatC (Jvm.Cond.and given_1 narrow_1) := by decide +kernel
  have hv := va_Zof (A := AA bs) (v := .int 1) (z5 _ w1) (z5 _ w2) (by
    have h1 := z4 _ h0
    exact va_eqi h1) z3
  exact (hv.moved z1.alike).kept z2
end ZS
/-- a contract that stands on something old, too -/
def CME (E : Nat → State → Heap → Prop) (y : MethodName) (cc : ByteArray) (nL : Nat) (ret : Option FieldType) (fr lo mc ms : Nat) (av : Nat → List Value) (h : HH) (S : SS) (v : Nat → Option Value) (h' : HH) (S' : SS) : Prop :=
  ∀ (l : Launch) (D : va_G) (dT : ZT) (bs : Nat), Met l y (.code y cc nL ret :: lwb) ({ frames := fr, cells := mc, slots := ms, locals := lo }) (va_Pc (av bs) (fun U => PP D dT bs h S U ∧ E bs U U.heap)) (QQ D dT bs (v bs) h' S') mc ms (AA bs)
/-- what is old stays so -/
def EOld (E : Nat → State → Heap → Prop) : Prop := ∀ (bs : Nat) (u U : State) (H H1 : Heap), E bs u H → u.vm.Alike U.vm → (∀ q : Nat, q < H.size → ¬ AA bs q → H1[q]? = H[q]?) → E bs U H1
theorem StrE_old {a : Nat} {byt : List Int32} : EOld (fun bs U H => StrE a byt bs U H) := fun bs u U H H1 h hvm hq => h.moved hvm hq
theorem CME.intro {E : Nat → State → Heap → Prop} {y : MethodName} {own : String} {cc : ByteArray} {nL : Nat} {ret : Option FieldType} {fr lo mc ms : Nat} {av : Nat → List Value} {h : HH} {S : SS} {v : Nat → Option Value} {h' : HH} {S' : SS} (hy : plainName y.cls = true) (hown : y.cls = own) (hlen : ∀ bs, (lg_sl (av bs)).length ≤ nL)
    (body : ∀ (D : va_G) (dT : ZT) (bs : Nat) (p : Program) (l : Launch) (e : Env) (s : State) (m : MethodId) (args : Array Value) (below : List Frame) (meth : Method) (c : Code), Cx D dT bs own cc nL ret p s m args meth c → E bs s s.heap →
      V D dT bs nL p l e ({ frames := fr, cells := mc, slots := ms, locals := lo }) s m args below meth c 0 0 (MQ below (QQ D dT bs (v bs) h' S') args s mc ms (AA bs)) h S 0 (lv_args 0 (av bs)) []) : CME E y cc nL ret fr lo mc ms av h S v h' S' := by
  intro l D dT bs
  refine Met.ofW (cc := cc) (maxL := nL) (ret := ret) hy rfl ?_
  intro p e s m args below meth c s₁ B hml hv
  obtain ⟨rfl, ⟨hP, hK, hbs, hzx⟩, hE⟩ := hv
  have hts := atoms_spec (ws := .code y cc nL ret :: lwb) B.pre
  have hfc : s.vm.findClass own = some m.cls := by rw [← hown]; exact findClass_of_methodNamed B.named
  rw [lg_entry_eq]
  exact body D dT bs p l e s m _ below meth c ⟨B.exec, B.bytes, hml, hfc, fun w hw => hts w (List.mem_cons_of_mem _ hw), B.notSynchronized, B.returns, hK, hbs, hzx⟩ hE s.heap [] _ hP va_S.rf (lv_entry (av bs) (hlen bs))
section ZT2
variable {D : va_G} {dT : ZT} {bs nL : Nat} {own : String} {cc : ByteArray} {ret : Option FieldType} {p : Program} {l : Launch} {e : Env} {R : Room} {s : State} {m : MethodId} {args : Array Value} {below : List Frame} {meth : Method} {c : Code} {cells slots : Nat} {Q : State → Prop} {h : HH} {S : SS} {pc pc' tgt : Nat} {L L' : List (Nat × Value)} {st : List Value} {H : Heap} {locs : List Loc} {ls : Array Slot}
theorem PE_blind {E : Nat → State → Heap → Prop} (hO : EOld E) {av : List Value} : FrameBlind (va_Pc av (fun U => PP D dT bs h S U ∧ E bs U U.heap)) := fun a U g mk q => by
  obtain ⟨q1, ⟨q2, q3, q4, q5⟩, q6⟩ := q
  exact ⟨q1, ⟨q2, va_K.moved (u := U) (U := U.calling g mk a) (Vm.Alike.refl U.vm) q3, q4, q5⟩, hO bs U (U.calling g mk a) U.heap U.heap q6 (Vm.Alike.refl U.vm) (fun _ _ _ => rfl)⟩
theorem PE_at {E : Nat → State → Heap → Prop} (hO : EOld E) {av : List Value} {U : State} (C : Cx D dT bs own cc nL ret p s m args meth c) (hEs : E bs s s.heap) (hP : Pic D dT bs h S H) (hS : va_S (AA bs) s.heap H locs) (hU : U.heap = H) (hW : s.WarmedH U.vm) : va_Pc av (fun U => PP D dT bs h S U ∧ E bs U U.heap) av.toArray U := by
  obtain ⟨q1, q2⟩ := PP_at (av := av) C hP hS hU hW
  exact ⟨q1, q2, hO bs s U s.heap U.heap hEs hW.alike (fun q h1 h2 => by rw [hU]; exact hS.2.1 q h1 h2)⟩
/-- an old object's field -/
theorem r_oget (C : Cx D dT bs own cc nL ret p s m args meth c) {o n d ref : String} {ix q : Nat} {v : Value} (hE : va_OF o n d v q (AA bs) s s.heap) (hlink : Cond.fieldLink own ix ref n d ∈ lwb) (hsame : o = ref) (hd : decode cc pc = .ok (.getfield ix, 3)) (hp : pc + 3 = pc') (kk : V D dT bs nL p l e R s m args below meth c cells slots Q h S pc' L (v :: st)) : V D dT bs nL p l e R s m args below meth c cells slots Q h S pc L (.ref q :: st) := by
  intro H locs ls hP hS hl
  subst hp
  exact vk_getf C.1 C.2.1 hE hS C.2.2.2.1 (C.2.2.2.2.1 _ hlink) (fun x hx => by rw [← hsame]; exact hx) hd (kk H locs ls hP hS hl)
theorem r_ogets (C : Cx D dT bs own cc nL ret p s m args meth c) {o n d ref : String} {ix : Nat} {v : Value} (hE : va_Z o n d v (AA bs) s s.heap) (hlink : Cond.fieldLink own ix ref n d ∈ lwb) (hsame : o = ref) (hd : decode cc pc = .ok (.getstatic ix, 3)) (hp : pc + 3 = pc') (kk : V D dT bs nL p l e R s m args below meth c cells slots Q h S pc' L (v :: st)) : V D dT bs nL p l e R s m args below meth c cells slots Q h S pc L st := by
  intro H locs ls hP hS hl
  subst hp
  exact va_gets C.1 C.2.1 hE hS C.2.2.2.1 (C.2.2.2.2.1 _ hlink) (fun x hx => by rw [← hsame]; exact hx) hd (kk H locs ls hP hS hl)
theorem r_otlen (C : Cx D dT bs own cc nL ret p s m args meth c) {ty : FieldType} {t N : Nat} {f : Nat → Value} (hT : va_T ty t N f (AA bs) s s.heap) (hd : decode cc pc = .ok (.arraylength, 1)) (hp : pc + 1 = pc') (kk : V D dT bs nL p l e R s m args below meth c cells slots Q h S pc' L (zI N :: st)) : V D dT bs nL p l e R s m args below meth c cells slots Q h S pc L (.ref t :: st) := by
  intro H locs ls hP hS hl
  subst hp
  refine va_tlen C.1 C.2.1 hT hS (v := Int32.ofInt N) (ofI_nat N).symm hd (kk H locs ls hP hS hl)
theorem r_obald (C : Cx D dT bs own cc nL ret p s m args meth c) {t N : Nat} {f : Nat → Value} {a a' : Int} {v : Value} (hT : va_T .byte t N f (AA bs) s s.heap) (ha : ww a = a') (hi : 0 ≤ a' ∧ a' < N) (hv : f a'.toNat = v) (hd : decode cc pc = .ok (.baload, 1)) (hp : pc + 1 = pc') (kk : V D dT bs nL p l e R s m args below meth c cells slots Q h S pc' L (v :: st)) : V D dT bs nL p l e R s m args below meth c cells slots Q h S pc L (zI a :: .ref t :: st) := by
  intro H locs ls hP hS hl
  subst hp
  exact va_tb C.1 C.2.1 hT hS (by have := ww_vp ha hi; simpa using this) (by rw [ww_cl ha hi.1]; exact hv) hd (kk H locs ls hP hS hl)
/-- a constant text -/
theorem r_oldcS (C : Cx D dT bs own cc nL ret p s m args meth c) {tx : String} {ix a : Nat} (hR : vk_R own ix tx a s) (hd : decode cc pc = .ok (.ldc ix, 2)) (hp : pc + 2 = pc') (kk : V D dT bs nL p l e R s m args below meth c cells slots Q h S pc' L (.ref a :: st)) : V D dT bs nL p l e R s m args below meth c cells slots Q h S pc L st := by
  intro H locs ls hP hS hl
  subst hp
  exact va_ldcS C.1 C.2.1 C.2.2.2.1 hR hd (kk H locs ls hP hS hl)
/-- a call of a text's method -/
theorem q_callVO (C : Cx D dT bs own cc nL ret p s m args meth c) {y : MethodName} {bytes : ByteArray} {mL fr lo ix n a : Nat} {rt : Option FieldType} {byt : List Int32} {As rest : List Value} {av : Nat → List Value} {v : Nat → Value} {h' : HH} {S' : SS} (hM : CME (fun bs U H => StrE a byt bs U H) y bytes mL rt fr lo 0 0 av h S (fun bs => some (v bs)) h' S') (hav : av bs = .ref a :: As) (hE : StrE a byt bs s s.heap) (hG : WV own ix "java/lang/String" y bytes mL rt n) (hR : RM R fr mL lo) (hn : As.length = n) (hst : st = As.reverse ++ .ref a :: rest) (hW : (rest.map fun v => v.category).sum ≤ 8) (hd : decode cc pc = .ok (.invokevirtual ix, 3)) (hp : pc + 3 = pc') (hf : cells ≤ R.cells ∧ slots ≤ R.slots)
    (kk : V D dT bs nL p l e R s m args below meth c cells slots Q h' S' pc' L (v bs :: rest)) : V D dT bs nL p l e R s m args below meth c cells slots Q h S pc L st := by
  intro H locs ls hP hS hl
  subst hp
  subst hst
  obtain ⟨avv, hk⟩ := id hE
  have hM' := hM l D dT bs
  rw [hav] at hM'
  refine z_call (mc := 0) (ms := 0) (va_runV (As := As) (rest := rest) (b := a) (g := F0 m pc ls (As.reverse ++ .ref a :: rest)) ⟨C.1, C.2.1, C.2.2.1, C.2.2.2.1, C.2.2.2.2.1⟩ hM' (cwV n C.2.2.2.2.1 hG.1 rfl rfl rfl hG.2 hR) ⟨PE_blind StrE_old, vk_recv hk (i := 0) (by omega) hS, fun U hU hW => PE_at StrE_old C hE hP hS hU hW⟩ rfl hn hl.1 rfl (lv_room hW) hd hf) hS (fun H1 locs1 hP1 hS1 => ?_)
  exact kk H1 locs1 ls hP1 hS1 hl
/-- a return of a number of another int type -/
theorem r_nret {ty : FieldType} (C : Cx D dT bs own cc nL (some ty) p s m args meth c) {a : Int} (hz : narrow ty (zI a) = zI a) (hd : decode cc pc = .ok (.ireturn, 1)) : V D dT bs nL p l e R s m args below meth c cells slots (MQ below (QQ D dT bs (some (zI a)) h S) args s cells slots (AA bs)) h S pc L [zI a] := by
  intro H locs ls hP hS hl
  exact W.zret C.1 C.2.1 C.2.2.2.2.2.2.1 hz (fun t ht hW => ⟨rfl, by rw [ht]; exact hP, hS.F ht⟩) hS.2.2 hd C.2.2.2.2.2.1
end ZT2
theorem wt_cs : (Jvm.Cond.laysStatic "java/lang/String" "COMPACT_STRINGS" "Z") ∈ lw_tbl := in_t1 (List.mem_of_getElem? (i := 76) (by decide +kernel))
theorem wt_csi : (Jvm.Cond.initialized "java/lang/String") ∈ lw_tbl := in_t1 (List.mem_of_getElem? (i := 4) (by decide +kernel))
/-- a constant's place in a class, with its bytes: what the premises say of it -/
def Site (o : String) (ix : Nat) (tx : String) (byt : List Int32) : Prop := byt.length < 100 ∧ Cond.stringRef o ix tx ∈ lw_tbl ∧ Cond.exactly (.string o ix) "java/lang/String" ∈ flatC (Jvm.Cond.and given_1 narrow_1) ∧ Cond.eq (.field (.string o ix) "java/lang/String" "coder" "B") (.int 0) ∈ flatC (Jvm.Cond.and given_1 narrow_1) ∧ Cond.arrayOf (.field (.string o ix) "java/lang/String" "value" "[B") .byte ∈ flatC (Jvm.Cond.and given_1 narrow_1) ∧ Cond.eq (.length (.field (.string o ix) "java/lang/String" "value" "[B")) (.int (Int32.ofNat byt.length)) ∈ flatC (Jvm.Cond.and given_1 narrow_1) ∧ (∀ j : Nat, j < byt.length → Cond.eq (.elem (.field (.string o ix) "java/lang/String" "value" "[B") (.int (Int32.ofNat j))) (.int (byt.getD j 0)) ∈ flatC (Jvm.Cond.and given_1 narrow_1))
theorem zshr_0 {n : Int} (h0 : 0 ≤ n) (h1 : n < 1000) : zshr n 0 = n := by
  unfold zshr
  rw [show Int32.ofInt n >>> (Int32.ofInt 0 &&& 31) = Int32.ofInt n from by
    rw [show (Int32.ofInt 0 &&& 31 : Int32) = 0 from by decide]
    simp]
  exact ww_id (by omega) (by omega)
theorem t_scoder {a : Nat} {byt : List Int32} {h : HH} {S : SS} : CME (fun bs U H => StrE a byt bs U H) yJ0_coder_7d493 cJ0_coder_7d493 1 (some .byte) 0 0 0 0 (fun _ => [.ref a]) h S (fun _ => some (zI 0)) h S := by
  refine CME.intro (own := RJ0) (by decide) rfl (fun _ => Nat.le_of_ble_eq_true rfl) ?_
  intro D dT bs p l e s m args below meth c C hE
  show V D dT bs 1 p l e _ s m args below meth c 0 0 _ h S 0 [(0, .ref a)] []
  obtain ⟨av, hk⟩ := id hE
  have hcs : va_Z "java/lang/String" "COMPACT_STRINGS" "Z" (zI 1) (AA bs) s s.heap := zx_cs C wt_cs wt_csi
  have hco : va_OF "java/lang/String" "coder" "B" (zI 0) a (AA bs) s s.heap := (hk.1 0 (by omega)).2.1
  refine r_ogets (pc' := 3) C hcs wd_169 rfl dJ0_coder_7d493_0 rfl ?_
  refine r_if_eq (pc' := 6) (tgt := 13) (E1 := (0 : Nat)) (E2 := 1) (res := 1) C ww_n1 rfl dJ0_coder_7d493_3 (by decide) rfl (fun hf => absurd hf (by decide)) (fun _ => ?_)
  refine r_aloadO_n (pc' := 7) (f4 := 0) (i := 0) C 0 rfl rfl dJ0_coder_7d493_6 rfl ?_
  refine r_oget (pc' := 10) C hco wd_1837 rfl dJ0_coder_7d493_7 rfl ?_
  refine r_goto (tgt := 14) C dJ0_coder_7d493_10 (by decide) ?_
  exact r_nret C rfl dJ0_coder_7d493_14
theorem t_slength {a : Nat} {byt : List Int32} (hlen : byt.length < 100) {h : HH} {S : SS} : CME (fun bs U H => StrE a byt bs U H) yJ0_length_8abf5 cJ0_length_8abf5 1 (some .int) 1 20 0 0 (fun _ => [.ref a]) h S (fun _ => some (zI byt.length)) h S := by
  refine CME.intro (own := RJ0) (by decide) rfl (fun _ => Nat.le_of_ble_eq_true rfl) ?_
  intro D dT bs p l e s m args below meth c C hE
  show V D dT bs 1 p l e _ s m args below meth c 0 0 _ h S 0 [(0, .ref a)] []
  obtain ⟨av, hk⟩ := id hE
  have hva : va_OF "java/lang/String" "value" "[B" (.ref av) a (AA bs) s s.heap := (hk.1 0 (by omega)).2.2.1
  have hT := (hk.1 0 (by omega)).2.2.2
  refine r_aloadO_n (pc' := 1) (f4 := 0) (i := 0) C 0 rfl rfl dJ0_length_8abf5_0 rfl ?_
  refine r_oget (pc' := 4) C hva wd_1836 rfl dJ0_length_8abf5_1 rfl ?_
  refine r_otlen (pc' := 5) (N := byt.length) C hT dJ0_length_8abf5_4 rfl ?_
  refine r_aloadO_n (pc' := 6) (f4 := 0) (i := 0) C 0 rfl rfl dJ0_length_8abf5_5 rfl ?_
  refine q_callVO (pc' := 9) C t_scoder rfl hE ⟨lwb_callV wd_165 wd_166 wd_167 wd_98 wd_168, rfl, by decide, by decide, by decide +kernel⟩ ⟨Nat.le_of_ble_eq_true rfl, Nat.le_of_ble_eq_true rfl⟩ rfl rfl (Nat.le_of_ble_eq_true rfl) dJ0_length_8abf5_6 rfl ⟨Nat.le_of_ble_eq_true rfl, Nat.le_of_ble_eq_true rfl⟩ ?_
  refine r_ishr (pc' := 10) C dJ0_length_8abf5_9 rfl ?_
  have e : zshr (byt.length : Int) 0 = (byt.length : Int) := zshr_0 (by omega) (by omega)
  rw [e]
  exact r_iret C dJ0_length_8abf5_10
/-- a constant text's length -/
theorem r_slen {D : va_G} {dT : ZT} {bs nL : Nat} {own : String} {cc : ByteArray} {ret : Option FieldType} {p : Program} {l : Launch} {e : Env} {R : Room} {s : State} {m : MethodId} {args : Array Value} {below : List Frame} {meth : Method} {c : Code} {cells slots : Nat} {Q : State → Prop} {h : HH} {S : SS} {pc pc' : Nat} {L : List (Nat × Value)} {st : List Value} (C : Cx D dT bs own cc nL ret p s m args meth c) {ix ix2 : Nat} {tx : String} {byt : List Int32} {n : Int} (hn : (byt.length : Int) = n) (hs : Site own ix tx byt) (hG : WV own ix2 "java/lang/String" yJ0_length_8abf5 cJ0_length_8abf5 1 (some .int) 0) (hR : 2 ≤ R.frames ∧ 40 ≤ R.locals) (hW : (st.map fun v => v.category).sum ≤ 8) (hz : cells ≤ R.cells ∧ slots ≤ R.slots) (hd : decode cc pc = .ok (.ldc ix, 2)) (hd2 : decode cc (pc + 2) = .ok (.invokevirtual ix2, 3)) (hp : pc + 5 = pc') (kk : V D dT bs nL p l e R s m args below meth c cells slots Q h S pc' L (zI n :: st)) : V D dT bs nL p l e R s m args below meth c cells slots Q h S pc L st := by
  obtain ⟨a, hE, hr⟩ := zx_str C (by have := hs.1; omega) hs.2.1 hs.2.2.1 hs.2.2.2.1 hs.2.2.2.2.1 hs.2.2.2.2.2.1 hs.2.2.2.2.2.2
  refine r_oldcS (pc' := pc + 2) C hr hd rfl ?_
  refine q_callVO (pc' := pc') C (t_slength hs.1) rfl hE hG ⟨by have := hR.1; omega, by have := hR.2; omega⟩ rfl rfl hW hd2 (by omega) hz ?_
  rw [hn]
  exact kk

theorem sl_RX5_36 : Site RX5 36 "<=>" [60, 61, 62] := ⟨by decide, in_t2 (List.mem_of_getElem? (i := 176) (by decide +kernel)), by decide +kernel, by decide +kernel, by decide +kernel, by decide +kernel, by decide +kernel⟩
theorem wvs_RX5_38 : WV RX5 38 "java/lang/String" yJ0_length_8abf5 cJ0_length_8abf5 1 (some .int) 0 := ⟨lwb_callV wd_511 wd_162 wd_163 wd_98 wd_164, rfl, by decide, by decide, by decide +kernel⟩
