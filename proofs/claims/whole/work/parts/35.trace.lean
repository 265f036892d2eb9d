-- THE TRACE: an ArrayList of old Integers
/-- a contract whose arguments and answer may be old things of the law's start -/
def CMD (y : MethodName) (cc : ByteArray) (nL : Nat) (ret : Option FieldType) (fr lo mc ms : Nat) (av : ZT → Nat → List Value) (h : HH) (S : SS) (v : ZT → Nat → Option Value) (h' : HH) (S' : SS) : Prop :=
  ∀ (l : Launch) (D : va_G) (dT : ZT) (bs : Nat), Met l y (.code y cc nL ret :: lwb) ({ frames := fr, cells := mc, slots := ms, locals := lo }) (va_Pc (av dT bs) (PP D dT bs h S)) (QQ D dT bs (v dT bs) h' S') mc ms (AA bs)
theorem CMD.intro {y : MethodName} {own : String} {cc : ByteArray} {nL : Nat} {ret : Option FieldType} {fr lo mc ms : Nat} {av : ZT → Nat → List Value} {h : HH} {S : SS} {v : ZT → Nat → Option Value} {h' : HH} {S' : SS} (hy : plainName y.cls = true) (hown : y.cls = own) (hlen : ∀ dT bs, (lg_sl (av dT bs)).length ≤ nL)
    (body : ∀ (D : va_G) (dT : ZT) (bs : Nat) (p : Program) (l : Launch) (e : Env) (s : State) (m : MethodId) (args : Array Value) (below : List Frame) (meth : Method) (c : Code), Cx D dT bs own cc nL ret p s m args meth c →
      V D dT bs nL p l e ({ frames := fr, cells := mc, slots := ms, locals := lo }) s m args below meth c 0 0 (MQ below (QQ D dT bs (v dT bs) h' S') args s mc ms (AA bs)) h S 0 (lv_args 0 (av dT bs)) []) : CMD y cc nL ret fr lo mc ms av h S v h' S' := by
  intro l D dT bs
  refine Met.ofW (cc := cc) (maxL := nL) (ret := ret) hy rfl ?_
  intro p e s m args below meth c s₁ B hml hv
  obtain ⟨rfl, hP, hK, hbs, hzx⟩ := hv
  have hts := atoms_spec (ws := .code y cc nL ret :: lwb) B.pre
  have hfc : s.vm.findClass own = some m.cls := by rw [← hown]; exact findClass_of_methodNamed B.named
  rw [lg_entry_eq]
  exact body D dT bs p l e s m _ below meth c ⟨B.exec, B.bytes, hml, hfc, fun w hw => hts w (List.mem_cons_of_mem _ hw), B.notSynchronized, B.returns, hK, hbs, hzx⟩ s.heap [] _ hP va_S.rf (lv_entry (av dT bs) (hlen dT bs))
theorem CM.toD {y : MethodName} {cc : ByteArray} {nL : Nat} {ret : Option FieldType} {fr lo mc ms : Nat} {av : Nat → List Value} {h : HH} {S : SS} {v : Nat → Option Value} {h' : HH} {S' : SS} (k : CM y cc nL ret fr lo mc ms av h S v h' S') : CMD y cc nL ret fr lo mc ms (fun _ => av) h S (fun _ => v) h' S' := k
theorem uin_13 : ∀ w ∈ u_ws RJx4a65c TJx4a65c 3, w ∈ lwb := uin_of [278, 274, 276] (by decide +kernel) (by decide +kernel)
section ZV
variable {D : va_G} {dT : ZT} {bs nL : Nat} {own : String} {cc : ByteArray} {ret : Option FieldType} {p : Program} {l : Launch} {e : Env} {R : Room} {s : State} {m : MethodId} {args : Array Value} {below : List Frame} {meth : Method} {c : Code} {cells slots : Nat} {Q : State → Prop} {h : HH} {S : SS} {pc pc' tgt : Nat} {L L' : List (Nat × Value)} {st : List Value} {H : Heap} {locs : List Loc} {ls : Array Slot}
theorem V.wide {k n : Nat} (h1 : cells ≤ k) (h2 : slots ≤ n) (kk : V D dT bs nL p l e R s m args below meth c k n Q h S pc L st) : V D dT bs nL p l e R s m args below meth c cells slots Q h S pc L st := fun H locs ls hP hS hl => W.widen h1 h2 (kk H locs ls hP hS hl)
theorem r_callVD (C : Cx D dT bs own cc nL ret p s m args meth c) {y : MethodName} {bytes : ByteArray} {mL fr lo mc ms ix ci N n : Nat} {rt : Option FieldType} {Cn : String} {T : u_T} {b nn : Int} {As rest : List Value} {av : ZT → Nat → List Value} {v : ZT → Nat → Option Value} {h' : HH} {S' : SS} (hM : CMD y bytes mL rt fr lo mc ms av h S v h' S') (hav : av dT bs = zP bs b :: As) (hk : KD S b (ci : Int) nn) (hcl : ci < 20 ∧ clX[ci]? = some (Cn, T, N)) (hG : WV own ix Cn y bytes mL rt n) (hR : RM R fr mL lo) (hn : As.length = n) (hst : st = As.reverse ++ zP bs b :: rest) (hW : (rest.map fun v => v.category).sum ≤ 8) (hd : decode cc pc = .ok (.invokevirtual ix, 3)) (hp : pc + 3 = pc') (hf : cells + mc ≤ R.cells ∧ slots + ms ≤ R.slots)
    (kk : V D dT bs nL p l e R s m args below meth c (cells + mc) (slots + ms) Q h' S' pc' L ((v dT bs).toList ++ rest)) : V D dT bs nL p l e R s m args below meth c cells slots Q h S pc L st := by
  intro H locs ls hP hS hl
  subst hp
  subst hst
  have hat := hP.at hk.1 hk.2.1
  rw [ent_obj hk hcl.1] at hat
  have hM' := hM l D dT bs
  rw [hav] at hM'
  refine z_call (va_runV (As := As) (rest := rest) (b := bs + b.toNat) (g := F0 m pc ls (As.reverse ++ zP bs b :: rest)) ⟨C.1, C.2.1, C.2.2.1, C.2.2.2.1, C.2.2.2.2.1⟩ hM' (cwV n C.2.2.2.2.1 hG.1 rfl rfl rfl hG.2 hR) ⟨PP_blind, va_recv C.2.2.2.2.2.2.2.1 (va_P1 hat) hcl.2 (q0 := 0) rfl, fun U hU hW => PP_at C hP hS hU hW⟩ rfl hn hl.1 rfl (lv_room hW) hd hf) hS (fun H1 locs1 hP1 hS1 => ?_)
  exact kk H1 locs1 ls hP1 hS1 hl
theorem r_callSD (C : Cx D dT bs own cc nL ret p s m args meth c) {y : MethodName} {bytes : ByteArray} {mL fr lo mc ms ix n : Nat} {rt : Option FieldType} {As rest : List Value} {av : ZT → Nat → List Value} {v : ZT → Nat → Option Value} {h' : HH} {S' : SS} (hM : CMD y bytes mL rt fr lo mc ms av h S v h' S') (hav : av dT bs = As) (hG : WS own ix y bytes mL rt n) (hR : RM R fr mL lo) (hn : As.length = n) (hst : st = As.reverse ++ rest) (hW : (rest.map fun v => v.category).sum ≤ 8) (hd : decode cc pc = .ok (.invokestatic ix, 3)) (hp : pc + 3 = pc') (hf : cells + mc ≤ R.cells ∧ slots + ms ≤ R.slots)
    (kk : V D dT bs nL p l e R s m args below meth c (cells + mc) (slots + ms) Q h' S' pc' L ((v dT bs).toList ++ rest)) : V D dT bs nL p l e R s m args below meth c cells slots Q h S pc L st := by
  intro H locs ls hP hS hl
  subst hp
  subst hst
  have hM' := hM l D dT bs
  rw [hav] at hM'
  refine z_call (va_runS (As := As) (rest := rest) (g := F0 m pc ls (As.reverse ++ rest)) ⟨C.1, C.2.1, C.2.2.1, C.2.2.2.1, C.2.2.2.2.1⟩ hM' (va_cwS n C.2.2.2.2.1 hG.1 rfl rfl rfl hG.2 hR) ⟨PP_blind, fun U hU hW => PP_at C hP hS hU hW⟩ rfl hn hl.1 rfl (lv_room hW) hd hf) hS (fun H1 locs1 hP1 hS1 => ?_)
  exact kk H1 locs1 ls hP1 hS1 hl
theorem r_aret {n : FieldType} (C : Cx D dT bs own cc nL (some n) p s m args meth c) {v : Value} (hrt : (∃ q, n = .object q) ∨ ∃ t, n = .array t) (hv : v = .null ∨ ∃ a, v = .ref a) (hd : decode cc pc = .ok (.areturn, 1)) : V D dT bs nL p l e R s m args below meth c cells slots (MQ below (QQ D dT bs (some v) h S) args s cells slots (AA bs)) h S pc L [v] := by
  intro H locs ls hP hS hl
  exact W.aret C.1 C.2.1 C.2.2.2.2.2.2.1 hrt hv (fun t ht hW => ⟨rfl, by rw [ht]; exact hP, hS.F ht⟩) hS.2.2 hd C.2.2.2.2.2.1
theorem r_astoreO_n (C : Cx D dT bs own cc nL ret p s m args meth c) {f4 : Fin 4} {i a : Nat} (hi : (f4 : Nat) = i) (hn : i < nL) (hL : (i, Value.ref a) :: L.filter (fun q => !(q.1 == i) && !(q.1 + 1 == i && q.2.category == 2)) = L') (hd : decode cc pc = .ok (.astore_n f4, 1)) (hp : pc + 1 = pc') (k : V D dT bs nL p l e R s m args below meth c cells slots Q h S pc' L' st) : V D dT bs nL p l e R s m args below meth c cells slots Q h S pc L (.ref a :: st) := by
  intro H locs ls hP hS hl
  subst hp
  exact lv_astore_n C.1 C.2.1 hd hi hl hn hL (fun ls1 hl1 => k H locs ls1 hP hS hl1)
theorem r_dup_x1 (C : Cx D dT bs own cc nL ret p s m args meth c) {v w : Value} (hc : v.category = 1) (hc2 : w.category = 1) (hd : decode cc pc = .ok (.dup_x1, 1)) (hp : pc + 1 = pc') (k : V D dT bs nL p l e R s m args below meth c cells slots Q h S pc' L (v :: w :: v :: st)) : V D dT bs nL p l e R s m args below meth c cells slots Q h S pc L (v :: w :: st) := by
  intro H locs ls hP hS hl
  subst hp
  exact lv_dup_x1 C.1 C.2.1 hd hc hc2 (k H locs ls hP hS hl)
theorem r_null (C : Cx D dT bs own cc nL ret p s m args meth c) (hd : decode cc pc = .ok (.aconst_null, 1)) (hp : pc + 1 = pc') (k : V D dT bs nL p l e R s m args below meth c cells slots Q h S pc' L (.null :: st)) : V D dT bs nL p l e R s m args below meth c cells slots Q h S pc L st := by
  intro H locs ls hP hS hl
  subst hp
  exact lv_null C.1 C.2.1 hd (k H locs ls hP hS hl)
theorem r_acmpne_eq (C : Cx D dT bs own cc nL ret p s m args meth c) {a : Nat} {off : Int} (hd : decode cc pc = .ok (.if_acmp .ne off, 3)) (ht : (pc : Int) + off = (tgt : Int)) (hp : pc + 3 = pc') (k : V D dT bs nL p l e R s m args below meth c cells slots Q h S pc' L st) : V D dT bs nL p l e R s m args below meth c cells slots Q h S pc L (.ref a :: .ref a :: st) := by
  intro H locs ls hP hS hl
  subst hp
  exact lv_acmp_ne (rx := some a) (ry := some a) C.1 C.2.1 hd ht (fun q => absurd rfl q) (fun _ => k H locs ls hP hS hl)
theorem r_acmpeq_eq (C : Cx D dT bs own cc nL ret p s m args meth c) {a : Nat} {off : Int} (hd : decode cc pc = .ok (.if_acmp .eq off, 3)) (ht : (pc : Int) + off = (tgt : Int)) (k : V D dT bs nL p l e R s m args below meth c cells slots Q h S tgt L st) : V D dT bs nL p l e R s m args below meth c cells slots Q h S pc L (.ref a :: .ref a :: st) := by
  intro H locs ls hP hS hl
  exact lv_acmp_eq (rx := some a) (ry := some a) C.1 C.2.1 hd ht (fun _ => k H locs ls hP hS hl) (fun q => absurd rfl q)
/-- the cache of Integers, here -/
theorem zx_box (C : Cx D dT bs own cc nL ret p s m args meth c) : vb_C (fun k => dT.2.1 ((k : Int) - 128)) (AA bs) s s.heap := by
  obtain ⟨z1, z2, z3, z4, z5⟩ := zx_here C
  have zz := C.2.2.2.2.2.2.2.2.2.2.2.2.2.2.2
  have h0 : Cond.eq (.length (.static "java/lang/Integer$IntegerCache" "cache" "[Ljava/lang/Integer;")) (.int 256) ∈ flatC (Jvm.Cond.and given_1 narrow_1) := by decide +kernel
  have h1 : Cond.all (.static "java/lang/Integer$IntegerCache" "cache" "[Ljava/lang/Integer;") (.and (.exactly (.elem (.static "java/lang/Integer$IntegerCache" "cache" "[Ljava/lang/Integer;") (.index 0)) "java/lang/Integer") (.eq (.field (.elem (.static "java/lang/Integer$IntegerCache" "cache" "[Ljava/lang/Integer;") (.index 0)) "java/lang/Integer" "value" "I") (.sub (.index 0) (.int 128)))) ∈ flatC (Jvm.Cond.and given_1 narrow_1) := by decide +kernel
  have hlen : (Term.length (.static "java/lang/Integer$IntegerCache" "cache" "[Ljava/lang/Integer;")).eval #[Value.ref dT.2.2.2.2] dT.2.2.2.1 none [] dT.2.2.2.1 = some (.int (Int32.ofNat 256)) := va_eqI (by have := z4 _ h0; simpa [Cond.before, Cond.holds] using this) rfl
  obtain ⟨ad, k1, k2⟩ := vb_Cof (A := AA bs) rfl hlen (z4 _ h1) z3
  have e : ∀ j : Nat, j < 256 → ad j = dT.2.1 ((j : Int) - 128) := fun j hj => by
    have a1 := k2 j hj
    rw [zz j hj] at a1
    exact (Value.ref.inj (Option.some.inj a1)).symm
  have k3 : vb_C (fun k => dT.2.1 ((k : Int) - 128)) (AA bs) dT.2.2.2.1 dT.2.2.2.1.heap := ⟨fun k hk => by have := k1.1 k hk; rw [e k hk] at this; exact this, fun k hk => by have := k1.2 k hk; rw [e k hk] at this; exact this⟩
  exact (k3.moved z1.alike).kept z2
theorem zx_cache (C : Cx D dT bs own cc nL ret p s m args meth c) (w1 : Cond.laysStatic "java/lang/Integer$IntegerCache" "cache" "[Ljava/lang/Integer;" ∈ lw_tbl) (w2 : Cond.initialized "java/lang/Integer$IntegerCache" ∈ lw_tbl) : ∃ t : Nat, va_Z "java/lang/Integer$IntegerCache" "cache" "[Ljava/lang/Integer;" (.ref t) (AA bs) s s.heap ∧ va_T (.object "java/lang/Integer") t 256 (fun j => .ref (dT.2.1 ((j : Int) - 128))) (AA bs) s s.heap := by
  obtain ⟨z1, z2, z3, z4, z5⟩ := zx_here C
  have zz := C.2.2.2.2.2.2.2.2.2.2.2.2.2.2.2
  have h0 : Cond.eq (.length (.static "java/lang/Integer$IntegerCache" "cache" "[Ljava/lang/Integer;")) (.int 256) ∈ flatC (Jvm.Cond.and given_1 narrow_1) := by decide +kernel
  have h2 : Cond.arrayOf (.static "java/lang/Integer$IntegerCache" "cache" "[Ljava/lang/Integer;") (.object "java/lang/Integer") ∈ flatC (Jvm.Cond.and given_1 narrow_1) := by decide +kernel
  have hlen : (Term.length (.static "java/lang/Integer$IntegerCache" "cache" "[Ljava/lang/Integer;")).eval #[Value.ref dT.2.2.2.2] dT.2.2.2.1 none [] dT.2.2.2.1 = some (.int (Int32.ofNat 256)) := va_eqI (by have := z4 _ h0; simpa [Cond.before, Cond.holds] using this) rfl
  obtain ⟨t, e1, k1⟩ := va_Tof (A := AA bs) (N := 256) (f := fun j => .ref (dT.2.1 ((j : Int) - 128))) (by omega) (z4 _ h2) hlen zz z3
  exact ⟨t, ((va_Zof (A := AA bs) (z5 _ w1) (z5 _ w2) e1 z3).moved z1.alike).kept z2, (k1.moved z1.alike).kept z2⟩
theorem zx_high (C : Cx D dT bs own cc nL ret p s m args meth c) (w1 : Cond.laysStatic "java/lang/Integer$IntegerCache" "high" "I" ∈ lw_tbl) (w2 : Cond.initialized "java/lang/Integer$IntegerCache" ∈ lw_tbl) : va_Z "java/lang/Integer$IntegerCache" "high" "I" (zI 127) (AA bs) s s.heap := by
  obtain ⟨z1, z2, z3, z4, z5⟩ := zx_here C
  have h0 : Cond.eq (.static "java/lang/Integer$IntegerCache" "high" "I") (.int 127) ∈ flatC (Jvm.Cond.and given_1 narrow_1) := by decide +kernel
  have hv := va_Zof (A := AA bs) (v := .int 127) (z5 _ w1) (z5 _ w2) (va_eqi (z4 _ h0)) z3
  exact (hv.moved z1.alike).kept z2
/-- the empty row of a new list -/
theorem zx_empty (C : Cx D dT bs own cc nL ret p s m args meth c) (w1 : Cond.laysStatic "java/util/ArrayList" "DEFAULTCAPACITY_EMPTY_ELEMENTDATA" "[Ljava/lang/Object;" ∈ lw_tbl) (w2 : Cond.initialized "java/util/ArrayList" ∈ lw_tbl) : va_Z "java/util/ArrayList" "DEFAULTCAPACITY_EMPTY_ELEMENTDATA" "[Ljava/lang/Object;" (.ref dT.2.2.1) (AA bs) s s.heap ∧ va_T (.object "java/lang/Object") dT.2.2.1 0 (fun _ => .null) (AA bs) s s.heap := by
  obtain ⟨z1, z2, z3, z4, z5⟩ := zx_here C
  have ze := C.2.2.2.2.2.2.2.2.2.2.2.2.2.2.1
  have h0 : Cond.eq (.length (.static "java/util/ArrayList" "DEFAULTCAPACITY_EMPTY_ELEMENTDATA" "[Ljava/lang/Object;")) (.int 0) ∈ flatC (Jvm.Cond.and given_1 narrow_1) := by decide +kernel
  have h2 : Cond.arrayOf (.static "java/util/ArrayList" "DEFAULTCAPACITY_EMPTY_ELEMENTDATA" "[Ljava/lang/Object;") (.object "java/lang/Object") ∈ flatC (Jvm.Cond.and given_1 narrow_1) := by decide +kernel
  have hlen : (Term.length (.static "java/util/ArrayList" "DEFAULTCAPACITY_EMPTY_ELEMENTDATA" "[Ljava/lang/Object;")).eval #[Value.ref dT.2.2.2.2] dT.2.2.2.1 none [] dT.2.2.2.1 = some (.int (Int32.ofNat 0)) := va_eqI (by have := z4 _ h0; simpa [Cond.before, Cond.holds] using this) rfl
  obtain ⟨t, e1, k1⟩ := va_Tof (A := AA bs) (N := 0) (f := fun _ => .null) (by omega) (z4 _ h2) hlen (fun j hj => absurd hj (by omega)) z3
  have e2 : t = dT.2.2.1 := by
    rw [ze] at e1
    exact (Value.ref.inj (Option.some.inj e1)).symm
  subst e2
  exact ⟨((va_Zof (A := AA bs) (z5 _ w1) (z5 _ w2) ze z3).moved z1.alike).kept z2, (k1.moved z1.alike).kept z2⟩
theorem oE_c {ea bs : Nat} {v : Int} (h : v = -7) : va_rf (oE ea bs v) = .ref ea := by rw [oE, if_pos h]; rfl
theorem oE_p {ea bs : Nat} {v : Int} (h : 0 < v) : va_rf (oE ea bs v) = zP bs (v - 1) := by rw [oE, if_neg (by omega), ← zD_nn h]; rfl
theorem r_getE (C : Cx D dT bs own cc nL ret p s m args meth c) {ix : Nat} {k nn : Int} (hk : KD S k 13 nn) (hlink : Cond.fieldLink own ix "java/util/ArrayList" "elementData" "[Ljava/lang/Object;" ∈ lwb) (hd : decode cc pc = .ok (.getfield ix, 3)) (hp : pc + 3 = pc') (kk : V D dT bs nL p l e R s m args below meth c cells slots Q h S pc' L (va_rf (oE dT.2.2.1 bs (h k 1)) :: st)) : V D dT bs nL p l e R s m args below meth c cells slots Q h S pc L (zP bs k :: st) := by
  intro H locs ls hP hS hl
  subst hp
  have hat := hP.at hk.1 hk.2.1
  rw [ent_obj (c := 13) hk (by decide)] at hat
  exact va_get C.1 C.2.1 C.2.2.2.2.1 uin_13 C.2.2.2.1 C.2.2.2.2.2.2.2.1 (va_P1 hat) 0 rfl cl_13.2 1 (by decide) (C.2.2.2.2.1 _ hlink) (z_same C.2.2.2.2.1 (Or.inl rfl)) (fldV_refE (by decide) (by decide +kernel)) hd (kk H locs ls hP hS hl)
theorem r_putE (C : Cx D dT bs own cc nL ret p s m args meth c) {ix : Nat} {k nn q : Int} (hk : KD S k 13 nn) (h0 : 0 ≤ q) (hlink : Cond.fieldLink own ix "java/util/ArrayList" "elementData" "[Ljava/lang/Object;" ∈ lwb) (hd : decode cc pc = .ok (.putfield ix, 3)) (hp : pc + 3 = pc') (kk : V D dT bs nL p l e R s m args below meth c cells slots Q (u2 h k 1 (q + 1)) S pc' L st) : V D dT bs nL p l e R s m args below meth c cells slots Q h S pc L (zP bs q :: zP bs k :: st) := by
  intro H locs ls hP hS hl
  subst hp
  have hat := hP.at hk.1 hk.2.1
  rw [ent_obj (c := 13) hk (by decide)] at hat
  refine z_put (ty := .array (.object "java/lang/Object")) C.1 C.2.1 C.2.2.2.2.1 uin_13 tyJx4a65c tyJx4a65c_ok nmJx4a65c C.2.2.2.1 C.2.2.2.2.2.2.2.1 hat cl_13.2 1 (by decide) (C.2.2.2.2.1 _ hlink) (z_same C.2.2.2.2.1 (Or.inl rfl)) (Or.inl rfl) (by decide +kernel) rfl rfl (by rw [fldV_len]; decide +kernel) hd (fun H1 sl h1 e2 e3 => ?_)
  refine kk H1 _ ls (hP.set hk.1 hk.2.1 rfl e2 e3 (fun a ha => ent_u2_ne ha) ?_) (AA_S hS e2 e3) hl
  rw [ent_obj (c := 13) (h := u2 h k 1 (q + 1)) (n := nn) hk (by decide), ← fldV_set (h := h) (S := S) (j := 1) (v := zP bs q) (by decide +kernel) (by rw [fldV_refE (by decide +kernel) (by decide +kernel), show u2 h k 1 (q + 1) k ((1 : Nat) : Int) = q + 1 from by simp [u2], oE_p (by omega)]; simp) (fun i hi => by have hi' : i ≠ 1 := hi; simp [u2, hi']) (fun i hi => rfl)]
  exact h1
/-- an old Integer into a row of objects -/
theorem r_aastB (C : Cx D dT bs own cc nL ret p s m args meth c) {k n a a' v : Int} (hk : KD S k 27 n) (ha : ww a = a') (hi : 0 ≤ a' ∧ a' < n) (hv : -128 ≤ v ∧ v ≤ 127 ∧ v ≠ 0) (wca : Cond.castable "java/lang/Integer" "java/lang/Object" ∈ lw_tbl) (hd : decode cc pc = .ok (.aastore, 1)) (hp : pc + 1 = pc') (kk : V D dT bs nL p l e R s m args below meth c cells slots Q (u2 h k a' v) S pc' L st) : V D dT bs nL p l e R s m args below meth c cells slots Q h S pc L (.ref (dT.2.1 v) :: zI a :: zP bs k :: st) := by
  intro H locs ls hP hS hl
  subst hp
  have hat := hP.at hk.1 hk.2.1
  rw [ent_arO hk] at hat
  have hK := C.2.2.2.2.2.2.2.1
  have hA := hK.2 7 _ (tyL_at (dT := dT) (t := 7) (by decide))
  have hvp := ww_vp ha hi
  have hB : va_O "java/lang/Integer" (dT.2.1 ((((v + 128).toNat : Nat) : Int) - 128)) (AA bs) s s.heap := (zx_box C).1 (v + 128).toNat (by omega)
  have ev : (((v + 128).toNat : Nat) : Int) - 128 = v := by omega
  rw [ev] at hB
  obtain ⟨cellV, g1, g3, g2⟩ := hB.kept hS.2.1
  obtain ⟨kA, comp, b1, b2, b3, -⟩ : ∃ (kA : Class) (comp : ClassId), s.vm.classes[dT.1 7]? = some kA ∧ kA.kind = .array comp (.object "java/lang/Object") ∧ s.vm.findClass "java/lang/Object" = some comp ∧ _ := hA.2
  obtain ⟨kE, hkE, -⟩ := Vm.findClass_spec b3
  obtain ⟨kC, hkC, -⟩ := Vm.findClass_spec g2.1
  refine W.aast C.1 C.2.1 (cell := arrV (dT.1 7) n.toNat (fun j => va_rf (if h k j = 0 then none else some (dT.2.1 (h k j))))) hat (fun q z => by cases z) (fun q => by cases q) b1 b2 rfl hkE ⟨fun q => hvp (Or.inl q), by rw [arrV_size]; exact Nat.not_le.mp (fun q => hvp (Or.inr q))⟩ g1 (fun q z => by rw [z] at g3; cases g3) hkC (vb_asgC (zx_cast C wca) _ _ b3 g2.1) rfl rfl hd fun H1 e1 e2 e3 => ?_
  refine kk H1 _ ls (hP.set hk.1 hk.2.1 rfl e2 e3 (fun b hb => ent_u2_ne hb) ?_) (AA_S hS e2 e3) hl
  rw [ent_arO (h := u2 h k a' v) hk]
  show H1[_]? = some (arrV (dT.1 7) n.toNat (fun j => va_rf (if u2 h k a' v k j = 0 then none else some (dT.2.1 (u2 h k a' v k j)))))
  rw [e1, arrV_store, ww_cl ha hi.1]
  congr 2
  funext q
  by_cases hq : q = a'.toNat
  · subst hq
    simp [updV, u2, show (max a' 0) = a' from by omega, hv.2.2, va_rf]
  · have : ¬ ((q : Int) = a') := by omega
    simp [updV, u2, hq, this]
theorem r_aastN7 (C : Cx D dT bs own cc nL ret p s m args meth c) {k n a a' : Int} (hk : KD S k 27 n) (ha : ww a = a') (hi : 0 ≤ a' ∧ a' < n) (hd : decode cc pc = .ok (.aastore, 1)) (hp : pc + 1 = pc') (kk : V D dT bs nL p l e R s m args below meth c cells slots Q (u2 h k a' 0) S pc' L st) : V D dT bs nL p l e R s m args below meth c cells slots Q h S pc L (.null :: zI a :: zP bs k :: st) := by
  intro H locs ls hP hS hl
  subst hp
  have hat := hP.at hk.1 hk.2.1
  rw [ent_arO hk] at hat
  have hK := C.2.2.2.2.2.2.2.1
  have hA := hK.2 7 _ (tyL_at (dT := dT) (t := 7) (by decide))
  have hvp := ww_vp ha hi
  refine va_WaastN C.1 C.2.1 (cell := arrV (dT.1 7) n.toNat (fun j => va_rf (if h k j = 0 then none else some (dT.2.1 (h k j))))) hat (hA.1 n.toNat _) (fun q => by cases q) (by show ¬ (_ ∨ (arrV _ _ _).slots.size ≤ _); rw [arrV_size]; exact hvp) rfl rfl hd fun H1 e1 e2 e3 => ?_
  refine kk H1 _ ls (hP.set hk.1 hk.2.1 rfl e2 e3 (fun b hb => ent_u2_ne hb) ?_) (AA_S hS e2 e3) hl
  rw [ent_arO (h := u2 h k a' 0) hk]
  show H1[_]? = some (arrV (dT.1 7) n.toNat (fun j => va_rf (if u2 h k a' 0 k j = 0 then none else some (dT.2.1 (u2 h k a' 0 k j)))))
  rw [e1, arrV_store, ww_cl ha hi.1]
  congr 2
  funext q
  by_cases hq : q = a'.toNat
  · subst hq
    simp [updV, u2, show (max a' 0) = a' from by omega, va_rf]
  · have : ¬ ((q : Int) = a') := by omega
    simp [updV, u2, hq, this]
theorem r_aald7 (C : Cx D dT bs own cc nL ret p s m args meth c) {k n a a' : Int} (hk : KD S k 27 n) (ha : ww a = a') (hi : 0 ≤ a' ∧ a' < n) (hv : h k a' ≠ 0) (hd : decode cc pc = .ok (.aaload, 1)) (hp : pc + 1 = pc') (kk : V D dT bs nL p l e R s m args below meth c cells slots Q h S pc' L (.ref (dT.2.1 (h k a')) :: st)) : V D dT bs nL p l e R s m args below meth c cells slots Q h S pc L (zI a :: zP bs k :: st) := by
  intro H locs ls hP hS hl
  subst hp
  have hat := hP.at hk.1 hk.2.1
  rw [ent_arO hk] at hat
  have hvv := ww_vp ha hi
  have hlt : (Int32.ofInt a).toNatClampNeg < n.toNat := by rw [ww_cl ha hi.1]; omega
  refine W.aald C.1 C.2.1 hat ((C.2.2.2.2.2.2.2.1.2 7 _ (tyL_at (by decide))).1 n.toNat (fun j => va_rf (if h k j = 0 then none else some (dT.2.1 (h k j))))) rfl (fun q => by cases q) (by show ¬ (_ ∨ (arrV _ _ _).slots.size ≤ _); rw [arrV_size]; exact hvv) (arrV_read _ _ hlt) rfl rfl hd ?_
  have k2 := kk H locs ls hP hS hl
  have ee : (((Int32.ofInt a).toNatClampNeg : Nat) : Int) = a' := by rw [ww_cl ha hi.1]; omega
  have ef : va_rf (if h k (((Int32.ofInt a).toNatClampNeg : Nat) : Int) = 0 then none else some (dT.2.1 (h k (((Int32.ofInt a).toNatClampNeg : Nat) : Int)))) = .ref (dT.2.1 (h k a')) := by rw [ee, if_neg hv]; rfl
  rw [← ef] at k2
  exact k2
/-- a copy out of a row of objects into another -/
theorem r_acpO (C : Cx D dT bs own cc nL ret p s m args meth c) {k0 k1 n0 n1 n n' : Int} {ix : Nat} (hk0 : KD S k0 27 n0) (hk1 : KD S k1 27 n1) (e3 : ww n = n') (c3 : 0 ≤ n') (c4 : n' ≤ n0) (c5 : n' ≤ n1) (hv : ∀ j : Int, 0 ≤ j → j < n' → -128 ≤ h k0 j ∧ h k0 j ≤ 127) (wca : Cond.castable "java/lang/Integer" "java/lang/Object" ∈ lw_tbl) (w1 : Cond.methodLink own ix arraycopyName ∈ lwb) (w2 : Cond.native arraycopyName ∈ lwb) (w3 : Cond.static arraycopyName ∈ lwb) (w4 : Cond.initialized "java/lang/System" ∈ lwb) (hfr : 1 ≤ R.frames) (hlo : (st.map fun v => v.category).sum + (nativeFrameWords "java/lang/System" "arraycopy" 5 + 11) ≤ R.locals) (hd : decode cc pc = .ok (.invokestatic ix, 3)) (hp : pc + 3 = pc') (kk : V D dT bs nL p l e R s m args below meth c cells slots Q (cpA h k0 0 k1 0 n') S pc' L st) : V D dT bs nL p l e R s m args below meth c cells slots Q h S pc L (zI n :: zI 0 :: zP bs k1 :: zI 0 :: zP bs k0 :: st) := by
  intro H locs ls hP hS hl
  subst hp
  have hts := C.2.2.2.2.1
  have hc0 := hP.at hk0.1 hk0.2.1
  have hc1 := hP.at hk1.1 hk1.2.1
  rw [ent_arO hk0] at hc0
  rw [ent_arO hk1] at hc1
  have hA := C.2.2.2.2.2.2.2.1.2 7 _ (tyL_at (dT := dT) (t := 7) (by decide))
  have hK := hA.1
  obtain ⟨kA, comp, r1, r2, r3, -⟩ : ∃ (kA : Class) (comp : ClassId), s.vm.classes[dT.1 7]? = some kA ∧ kA.kind = .array comp (.object "java/lang/Object") ∧ s.vm.findClass "java/lang/Object" = some comp ∧ _ := hA.2
  obtain ⟨-, q0, hq0, cm0, hkk0⟩ := hK n0.toNat (fun j => va_rf (if h k0 j = 0 then none else some (dT.2.1 (h k0 j))))
  obtain ⟨-, q1, hq1, cm1, hkk1⟩ := hK n1.toNat (fun j => va_rf (if h k1 j = 0 then none else some (dT.2.1 (h k1 j))))
  have f3 := ww_cl e3 c3
  have g3 : (Int32.ofInt n).toInt = n' := e3
  have hn3 : ¬ Int32.ofInt n < 0 := fun q => by have := ww_lt0.mp q; omega
  have hB := zx_box C
  intro T hT X
  obtain ⟨vm', X', step⟩ := X.arraycopy C.1 C.2.2.2.1 (hts _ w1) (hts _ w2) (hts _ w3) (hts _ w4) (src := bs + k0.toNat) (dst := bs + k1.toNat) (cs := vp_cell (dT.1 7) (n0.toNat, .inr (.inr (.inr (.inr (fun j : Nat => if h k0 j = 0 then none else some (dT.2.1 (h k0 j)))))))) (cd := vp_cell (dT.1 7) (n1.toNat, .inr (.inr (.inr (.inr (fun j : Nat => if h k1 j = 0 then none else some (dT.2.1 (h k1 j)))))))) (srcPos := Int32.ofInt 0) (destPos := Int32.ofInt 0) (n := Int32.ofInt n) (by rw [hT]; exact hc0) (by rw [hT]; exact hc1)
    (fun _ h => by cases h) (fun _ h => by cases h) (fun h => by cases h) (fun h => by cases h) hq0 hq1 hkk0 hkk1 rfl (by decide) (by decide) hn3
    (by rw [g3]; show ¬ (0 : Int) + _ > ((arrV _ n0.toNat (fun j => va_rf (if h k0 j = 0 then none else some (dT.2.1 (h k0 j))))).slots.size : Int); rw [arrV_size]; omega)
    (by rw [g3]; show ¬ (0 : Int) + _ > ((arrV _ n1.toNat (fun j => va_rf (if h k1 j = 0 then none else some (dT.2.1 (h k1 j))))).slots.size : Int); rw [arrV_size]; omega)
    (fun vm₁ hal i hi => by
      rw [f3] at hi
      have e : (vp_cell (dT.1 7) (n0.toNat, .inr (.inr (.inr (.inr (fun j : Nat => if h k0 j = 0 then none else some (dT.2.1 (h k0 j)))))))).slots.getD ((Int32.ofInt 0).toNatClampNeg + i) .null = va_rf (if h k0 i = 0 then none else some (dT.2.1 (h k0 i))) := by
        show (arrV _ n0.toNat (fun j => va_rf (if h k0 j = 0 then none else some (dT.2.1 (h k0 j))))).slots.getD _ _ = _
        rw [show (Int32.ofInt 0).toNatClampNeg + i = i from by rw [show (Int32.ofInt 0).toNatClampNeg = 0 from by decide, Nat.zero_add]]
        rw [Array.getD_eq_getD_getElem?, arrV_read _ _ (by omega)]
        rfl
      rw [e]
      by_cases hz : h k0 i = 0
      · rw [if_pos hz]; exact ⟨rfl, trivial⟩
      · rw [if_neg hz]
        have hvi := hv i (by omega) (by omega)
        have hBi : va_O "java/lang/Integer" (dT.2.1 ((((h k0 i + 128).toNat : Nat) : Int) - 128)) (AA bs) s s.heap := hB.1 (h k0 i + 128).toNat (by omega)
        have ev : (((h k0 i + 128).toNat : Nat) : Int) - 128 = h k0 i := by omega
        rw [ev] at hBi
        obtain ⟨cellV, g1, g2, g3, -⟩ := hBi.kept hS.2.1
        cases hq1.symm.trans r1
        cases hkk1.symm.trans r2
        obtain ⟨kC, hkC, -⟩ := Vm.findClass_spec g3
        obtain ⟨kE, hkE, -⟩ := Vm.findClass_spec r3
        obtain ⟨kC', hkC', -⟩ := hal.2.2 _ _ hkC
        obtain ⟨kE', hkE', -⟩ := hal.2.2 _ _ hkE
        refine ⟨rfl, cellV, (by show T.heap[_]? = some cellV; rw [hT]; exact g1), (fun q h => by rw [h] at g2; cases g2), ⟨kC', hkC'⟩, ?_, ?_⟩
        · exact ⟨kE', hkE'⟩
        · show vm₁.assignable _ _ = true
          rw [hal.assignable]
          exact vb_asgC (zx_cast C wca) _ _ r3 g3)
    (g := F0 m pc ls (zI n :: zI 0 :: zP bs k1 :: zI 0 :: zP bs k0 :: st)) rfl (by rw [C.2.2.1]; exact hl.1) (rest := st) rfl (by rw [C.2.1]; exact hd) hfr (by show 2 * 0 + _ + _ ≤ _; omega)
  have e1' : copied (vp_cell (dT.1 7) (n0.toNat, .inr (.inr (.inr (.inr (fun j : Nat => if h k0 j = 0 then none else some (dT.2.1 (h k0 j)))))))) (vp_cell (dT.1 7) (n1.toNat, .inr (.inr (.inr (.inr (fun j : Nat => if h k1 j = 0 then none else some (dT.2.1 (h k1 j)))))))) (Int32.ofInt 0) (Int32.ofInt 0) (Int32.ofInt n) = vp_cell (dT.1 7) (n1.toNat, .inr (.inr (.inr (.inr (va_cpy (fun j : Nat => if h k0 j = 0 then none else some (dT.2.1 (h k0 j))) (fun j : Nat => if h k1 j = 0 then none else some (dT.2.1 (h k1 j))) (Int32.ofInt 0).toNatClampNeg (Int32.ofInt 0).toNatClampNeg (Int32.ofInt n).toNatClampNeg))))) := by
    rw [vp_cell_q, vp_cell_q, vp_cell_q]
    exact va_copied (fun z => va_rf z) (dT.1 7) (dT.1 7) _ _ (by rw [f3, show (Int32.ofInt 0).toNatClampNeg = 0 from by decide]; omega)
  rw [e1'] at X' step
  have hl1 : bs + k1.toNat < H.size := (Array.getElem?_eq_some_iff.mp hc1).1
  have hw : (fun j : Nat => if cpA h k0 0 k1 0 n' k1 j = 0 then none else some (dT.2.1 (cpA h k0 0 k1 0 n' k1 j))) = va_cpy (fun j : Nat => if h k0 j = 0 then none else some (dT.2.1 (h k0 j))) (fun j : Nat => if h k1 j = 0 then none else some (dT.2.1 (h k1 j))) (Int32.ofInt 0).toNatClampNeg (Int32.ofInt 0).toNatClampNeg (Int32.ofInt n).toNatClampNeg := by
    funext j
    rw [f3, show (Int32.ofInt 0).toNatClampNeg = 0 from by decide]
    have ec : cpA h k0 0 k1 0 n' k1 j = if j < n'.toNat then h k0 j else h k1 j := by
      unfold cpA
      by_cases hj : j < n'.toNat
      · rw [if_pos (by omega), if_pos hj]; congr 1; omega
      · rw [if_neg (by omega), if_neg hj]
    rw [ec]
    unfold va_cpy
    by_cases hj : j < n'.toNat
    · rw [if_pos (show 0 ≤ j ∧ j < 0 + n'.toNat from by omega)]
      simp only [if_pos hj, Nat.zero_add, Nat.sub_zero]
    · rw [if_neg (show ¬ (0 ≤ j ∧ j < 0 + n'.toNat) from by omega)]
      simp only [if_neg hj]
  have hheap : ∀ x : Cell, ((T.setVm vm').setCell (bs + k1.toNat) x).heap = H.setIfInBounds (bs + k1.toNat) x := fun x => by rw [← hT]; rfl
  have oq : ∀ x : Cell, ∀ q : Nat, q ≠ bs + k1.toNat → (H.setIfInBounds (bs + k1.toNat) x)[q]? = H[q]? := fun x q hq => by simp [Array.getElem?_setIfInBounds, Ne.symm hq]
  obtain ⟨t, a1, b1⟩ := kk _ _ ls (hP.set (h' := cpA h k0 0 k1 0 n') (S' := S) hk1.1 hk1.2.1 rfl (by simp) (oq _) (fun a ha => ent_cpA_ne ha) (by
      rw [ent_arO (h := cpA h k0 0 k1 0 n') hk1, hw]
      show (H.setIfInBounds _ _)[_]? = some (vp_cell _ _)
      simp [Array.getElem?_setIfInBounds, hl1])) ⟨by simp; exact hS.1, fun q g1 g2 => by
      rw [oq _ q (fun e => g2 (by show bs ≤ q; omega))]
      exact hS.2.1 q g1 g2, fun q hq => by
      rcases List.mem_append.mp hq with h | h
      · exact hS.2.2 q h
      · obtain ⟨z, -, hz⟩ := List.mem_map.mp h
        rw [← hz]
        show bs ≤ _
        exact Nat.le_add_right _ _⟩ hl _ (hheap _) X'
  exact ⟨t, step t a1, b1⟩
end ZV
