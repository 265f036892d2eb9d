theorem lwb_codeIn {y : MethodName} {bytes : ByteArray} {mL : Nat} {rt : Option FieldType} (h : Cond.code y bytes mL rt ∈ lwb) : GoodIn lwb (.code y bytes mL rt :: lwb) := lwb_goodIn (fun w hw => by
  rcases List.mem_cons.mp hw with rfl | hw
  · exact h
  · exact hw)
/-- a constructor's contract: its name is known -/
theorem CMI.intro {y : MethodName} {own : String} {cc : ByteArray} {nL : Nat} {ret : Option FieldType} {fr lo mc ms : Nat} {av : Nat → List Value} {h : HH} {S : SS} {v : Nat → Option Value} {h' : HH} {S' : SS} (hy0 : y.name = "<init>") (hy : plainName y.cls = true) (hown : y.cls = own) (hlen : ∀ bs, (lg_sl (av bs)).length ≤ nL)
    (body : ∀ (D : va_G) (dT : ZT) (bs : Nat) (p : Program) (l : Launch) (e : Env) (s : State) (m : MethodId) (args : Array Value) (below : List Frame) (meth : Method) (c : Code), Cx D dT bs own cc nL ret p s m args meth c → meth.name = "<init>" →
      V D dT bs nL p l e ({ frames := fr, cells := mc, slots := ms, locals := lo }) s m args below meth c 0 0 (MQ below (QQ D dT bs (v bs) h' S') args s mc ms (AA bs)) h S 0 (lv_args 0 (av bs)) []) : CM y cc nL ret fr lo mc ms av h S v h' S' := by
  intro l D dT bs
  refine Met.ofW (cc := cc) (maxL := nL) (ret := ret) hy rfl ?_
  intro p e s m args below meth c s₁ B hml hv
  obtain ⟨rfl, hP, hK, hbs, hzx⟩ := hv
  have hts := atoms_spec (ws := .code y cc nL ret :: lwb) B.pre
  have hin : meth.name = "<init>" := by rw [← hy0]; exact (name_of_methodNamed B.named B.method).1
  have hfc : s.vm.findClass own = some m.cls := by rw [← hown]; exact findClass_of_methodNamed B.named
  rw [lg_entry_eq]
  exact body D dT bs p l e s m _ below meth c ⟨B.exec, B.bytes, hml, hfc, fun w hw => hts w (List.mem_cons_of_mem _ hw), B.notSynchronized, B.returns, hK, hbs, hzx⟩ hin s.heap [] _ hP va_S.rf (lv_entry (av bs) (hlen bs))
theorem r_objI {D : va_G} {dT : ZT} {bs nL : Nat} {own : String} {cc : ByteArray} {ret : Option FieldType} {p : Program} {l : Launch} {e : Env} {R : Room} {s : State} {m : MethodId} {args : Array Value} {below : List Frame} {meth : Method} {c : Code} {cells slots : Nat} {Q : State → Prop} {h : HH} {S : SS} {pc pc' : Nat} {L : List (Nat × Value)} {st : List Value} (C : Cx D dT bs own cc nL ret p s m args meth c) {ix : Nat} {a : Int} (w1 : Cond.methodLink own ix Lib.objectInit ∈ lwb) (w2 : Cond.instanceMethod Lib.objectInit ∈ lwb) (w3 : Cond.code Lib.objectInit ⟨#[0xb1]⟩ 1 none ∈ lwb) (hfr : 1 ≤ R.frames) (hlo : (st.map fun v => v.category).sum + 12 ≤ R.locals) (hd : decode cc pc = .ok (.invokespecial ix, 3)) (hp : pc + 3 = pc') (kk : V D dT bs nL p l e R s m args below meth c cells slots Q h S pc' L st) : V D dT bs nL p l e R s m args below meth c cells slots Q h S pc L (zP bs a :: st) := by
  intro H locs ls hP hS hl
  subst hp
  have hts := C.2.2.2.2.1
  refine W.objInit C.1 C.2.1 C.2.2.2.1 (hts _ w1) (hts _ w2) (hts _ w3) (g := F0 m pc ls (zP bs a :: st)) rfl (by rw [C.2.2.1]; exact hl.1) rfl hd hfr (by show 2 * 0 + _ + _ ≤ _; omega) ?_
  exact kk H locs ls hP hS hl
theorem fbn_0_0 : FB 0 0 4 RX0 TX0 false := ⟨by decide, rfl, uin_0, by decide, by decide +kernel⟩
theorem fpn_0_0 : FP 4 0 TX0 tyX0 .int := ⟨tyX0_ok, nmX0, by decide +kernel⟩
theorem fbn_0_1 : FB 0 1 4 RX0 TX0 false := ⟨by decide, rfl, uin_0, by decide, by decide +kernel⟩
theorem fpn_0_1 : FP 4 1 TX0 tyX0 .int := ⟨tyX0_ok, nmX0, by decide +kernel⟩
theorem fbn_0_2 : FB 0 2 4 RX0 TX0 false := ⟨by decide, rfl, uin_0, by decide, by decide +kernel⟩
theorem fpn_0_2 : FP 4 2 TX0 tyX0 .int := ⟨tyX0_ok, nmX0, by decide +kernel⟩
theorem fbn_0_3 : FB 0 3 4 RX0 TX0 true := ⟨by decide, rfl, uin_0, by decide, by decide +kernel⟩
theorem fpn_0_3 : FP 4 3 TX0 tyX0 (.object "java/util/ArrayList") := ⟨tyX0_ok, nmX0, by decide +kernel⟩
theorem dvn_0 : ∀ j, j < 4 → defaultValue (tyX0 j) = if fR 0 j then .null else zI 0 := by
  intro j hj
  match j, hj with
  | 0, _ => rfl
  | 1, _ => rfl
  | 2, _ => rfl
  | 3, _ => rfl
theorem fbn_1_0 : FB 1 0 4 RX1 TX1 false := ⟨by decide, rfl, uin_1, by decide, by decide +kernel⟩
theorem fpn_1_0 : FP 4 0 TX1 tyX1 .int := ⟨tyX1_ok, nmX1, by decide +kernel⟩
theorem fbn_1_1 : FB 1 1 4 RX1 TX1 false := ⟨by decide, rfl, uin_1, by decide, by decide +kernel⟩
theorem fpn_1_1 : FP 4 1 TX1 tyX1 .int := ⟨tyX1_ok, nmX1, by decide +kernel⟩
theorem fbn_1_2 : FB 1 2 4 RX1 TX1 false := ⟨by decide, rfl, uin_1, by decide, by decide +kernel⟩
theorem fpn_1_2 : FP 4 2 TX1 tyX1 .int := ⟨tyX1_ok, nmX1, by decide +kernel⟩
theorem fbn_1_3 : FB 1 3 4 RX1 TX1 true := ⟨by decide, rfl, uin_1, by decide, by decide +kernel⟩
theorem fpn_1_3 : FP 4 3 TX1 tyX1 (.object "java/util/ArrayList") := ⟨tyX1_ok, nmX1, by decide +kernel⟩
theorem dvn_1 : ∀ j, j < 4 → defaultValue (tyX1 j) = if fR 1 j then .null else zI 0 := by
  intro j hj
  match j, hj with
  | 0, _ => rfl
  | 1, _ => rfl
  | 2, _ => rfl
  | 3, _ => rfl
theorem fbn_2_0 : FB 2 0 4 RX2 TX2 false := ⟨by decide, rfl, uin_2, by decide, by decide +kernel⟩
theorem fpn_2_0 : FP 4 0 TX2 tyX2 .int := ⟨tyX2_ok, nmX2, by decide +kernel⟩
theorem fbn_2_1 : FB 2 1 4 RX2 TX2 false := ⟨by decide, rfl, uin_2, by decide, by decide +kernel⟩
theorem fpn_2_1 : FP 4 1 TX2 tyX2 .int := ⟨tyX2_ok, nmX2, by decide +kernel⟩
theorem fbn_2_2 : FB 2 2 4 RX2 TX2 false := ⟨by decide, rfl, uin_2, by decide, by decide +kernel⟩
theorem fpn_2_2 : FP 4 2 TX2 tyX2 .int := ⟨tyX2_ok, nmX2, by decide +kernel⟩
theorem fbn_2_3 : FB 2 3 4 RX2 TX2 true := ⟨by decide, rfl, uin_2, by decide, by decide +kernel⟩
theorem fpn_2_3 : FP 4 3 TX2 tyX2 (.object "java/util/ArrayList") := ⟨tyX2_ok, nmX2, by decide +kernel⟩
theorem dvn_2 : ∀ j, j < 4 → defaultValue (tyX2 j) = if fR 2 j then .null else zI 0 := by
  intro j hj
  match j, hj with
  | 0, _ => rfl
  | 1, _ => rfl
  | 2, _ => rfl
  | 3, _ => rfl
theorem fbn_3_0 : FB 3 0 4 RX3 TX3 false := ⟨by decide, rfl, uin_3, by decide, by decide +kernel⟩
theorem fpn_3_0 : FP 4 0 TX3 tyX3 .int := ⟨tyX3_ok, nmX3, by decide +kernel⟩
theorem fbn_3_1 : FB 3 1 4 RX3 TX3 false := ⟨by decide, rfl, uin_3, by decide, by decide +kernel⟩
theorem fpn_3_1 : FP 4 1 TX3 tyX3 .int := ⟨tyX3_ok, nmX3, by decide +kernel⟩
theorem fbn_3_2 : FB 3 2 4 RX3 TX3 false := ⟨by decide, rfl, uin_3, by decide, by decide +kernel⟩
theorem fpn_3_2 : FP 4 2 TX3 tyX3 .int := ⟨tyX3_ok, nmX3, by decide +kernel⟩
theorem fbn_3_3 : FB 3 3 4 RX3 TX3 true := ⟨by decide, rfl, uin_3, by decide, by decide +kernel⟩
theorem fpn_3_3 : FP 4 3 TX3 tyX3 (.object "java/util/ArrayList") := ⟨tyX3_ok, nmX3, by decide +kernel⟩
theorem dvn_3 : ∀ j, j < 4 → defaultValue (tyX3 j) = if fR 3 j then .null else zI 0 := by
  intro j hj
  match j, hj with
  | 0, _ => rfl
  | 1, _ => rfl
  | 2, _ => rfl
  | 3, _ => rfl
theorem fbn_4_0 : FB 4 0 4 RX4 TX4 false := ⟨by decide, rfl, uin_4, by decide, by decide +kernel⟩
theorem fpn_4_0 : FP 4 0 TX4 tyX4 .int := ⟨tyX4_ok, nmX4, by decide +kernel⟩
theorem fbn_4_1 : FB 4 1 4 RX4 TX4 false := ⟨by decide, rfl, uin_4, by decide, by decide +kernel⟩
theorem fpn_4_1 : FP 4 1 TX4 tyX4 .int := ⟨tyX4_ok, nmX4, by decide +kernel⟩
theorem fbn_4_2 : FB 4 2 4 RX4 TX4 false := ⟨by decide, rfl, uin_4, by decide, by decide +kernel⟩
theorem fpn_4_2 : FP 4 2 TX4 tyX4 .int := ⟨tyX4_ok, nmX4, by decide +kernel⟩
theorem fbn_4_3 : FB 4 3 4 RX4 TX4 true := ⟨by decide, rfl, uin_4, by decide, by decide +kernel⟩
theorem fpn_4_3 : FP 4 3 TX4 tyX4 (.object "java/util/ArrayList") := ⟨tyX4_ok, nmX4, by decide +kernel⟩
theorem dvn_4 : ∀ j, j < 4 → defaultValue (tyX4 j) = if fR 4 j then .null else zI 0 := by
  intro j hj
  match j, hj with
  | 0, _ => rfl
  | 1, _ => rfl
  | 2, _ => rfl
  | 3, _ => rfl
theorem fbn_8_0 : FB 8 0 4 RX8 TX8 false := ⟨by decide, rfl, uin_8, by decide, by decide +kernel⟩
theorem fpn_8_0 : FP 4 0 TX8 tyX8 .int := ⟨tyX8_ok, nmX8, by decide +kernel⟩
theorem fbn_8_1 : FB 8 1 4 RX8 TX8 false := ⟨by decide, rfl, uin_8, by decide, by decide +kernel⟩
theorem fpn_8_1 : FP 4 1 TX8 tyX8 .int := ⟨tyX8_ok, nmX8, by decide +kernel⟩
theorem fbn_8_2 : FB 8 2 4 RX8 TX8 false := ⟨by decide, rfl, uin_8, by decide, by decide +kernel⟩
theorem fpn_8_2 : FP 4 2 TX8 tyX8 .int := ⟨tyX8_ok, nmX8, by decide +kernel⟩
theorem fbn_8_3 : FB 8 3 4 RX8 TX8 true := ⟨by decide, rfl, uin_8, by decide, by decide +kernel⟩
theorem fpn_8_3 : FP 4 3 TX8 tyX8 (.object "java/util/ArrayList") := ⟨tyX8_ok, nmX8, by decide +kernel⟩
theorem dvn_8 : ∀ j, j < 4 → defaultValue (tyX8 j) = if fR 8 j then .null else zI 0 := by
  intro j hj
  match j, hj with
  | 0, _ => rfl
  | 1, _ => rfl
  | 2, _ => rfl
  | 3, _ => rfl
theorem fbn_9_0 : FB 9 0 4 RX9 TX9 false := ⟨by decide, rfl, uin_9, by decide, by decide +kernel⟩
theorem fpn_9_0 : FP 4 0 TX9 tyX9 .int := ⟨tyX9_ok, nmX9, by decide +kernel⟩
theorem fbn_9_1 : FB 9 1 4 RX9 TX9 false := ⟨by decide, rfl, uin_9, by decide, by decide +kernel⟩
theorem fpn_9_1 : FP 4 1 TX9 tyX9 .int := ⟨tyX9_ok, nmX9, by decide +kernel⟩
theorem fbn_9_2 : FB 9 2 4 RX9 TX9 false := ⟨by decide, rfl, uin_9, by decide, by decide +kernel⟩
theorem fpn_9_2 : FP 4 2 TX9 tyX9 .int := ⟨tyX9_ok, nmX9, by decide +kernel⟩
theorem fbn_9_3 : FB 9 3 4 RX9 TX9 true := ⟨by decide, rfl, uin_9, by decide, by decide +kernel⟩
theorem fpn_9_3 : FP 4 3 TX9 tyX9 (.object "java/util/ArrayList") := ⟨tyX9_ok, nmX9, by decide +kernel⟩
theorem dvn_9 : ∀ j, j < 4 → defaultValue (tyX9 j) = if fR 9 j then .null else zI 0 := by
  intro j hj
  match j, hj with
  | 0, _ => rfl
  | 1, _ => rfl
  | 2, _ => rfl
  | 3, _ => rfl
theorem t_hi2_0 {S : SS} (hF : Fx S) {h : HH} {a : Int} (hk : KD S a 0 0) {k n v : Int} : CM yX2_init cX2_init 5 none 1 20 0 0 (fun bs => [zP bs a, zI k, zI n, zI v, zP bs 151]) h S (fun _ => none) (u2 (u2 (u2 h a 0 k) a 1 n) a 2 v) (uS S a 3 151) := by
  refine CMI.intro (own := RX2) rfl (by decide) rfl (fun _ => Nat.le_of_ble_eq_true rfl) ?_
  intro D dT bs p l e s m args below meth c C hin
  show V D dT bs 5 p l e _ s m args below meth c 0 0 _ h S 0 [(0, zP bs a), (1, zI k), (2, zI n), (3, zI v), (4, zP bs 151)] []
  refine r_aload_n (pc' := 1) (f4 := 0) (i := 0) C 0 rfl rfl dX2_init_0 rfl ?_
  refine r_objI (pc' := 4) C wd_370 wd_130 wd_131 (Nat.le_of_ble_eq_true rfl) (Nat.le_of_ble_eq_true rfl) dX2_init_1 rfl ?_
  refine r_aload_n (pc' := 5) (f4 := 0) (i := 0) C 0 rfl rfl dX2_init_4 rfl ?_
  refine r_iload_n (pc' := 6) (f4 := 1) (i := 1) C 1 rfl rfl dX2_init_5 rfl ?_
  refine q_putI (pc' := 9) (j := 0) C hk fbn_0_0 fpn_0_0 wd_371 (Or.inl rfl) (Or.inr ⟨rfl, hin, rfl⟩) rfl rfl dX2_init_6 rfl ?_
  refine r_aload_n (pc' := 10) (f4 := 0) (i := 0) C 0 rfl rfl dX2_init_9 rfl ?_
  refine r_iload_n (pc' := 11) (f4 := 2) (i := 2) C 2 rfl rfl dX2_init_10 rfl ?_
  refine q_putI (pc' := 14) (j := 1) C hk fbn_0_1 fpn_0_1 wd_374 (Or.inl rfl) (Or.inr ⟨rfl, hin, rfl⟩) rfl rfl dX2_init_11 rfl ?_
  refine r_aload_n (pc' := 15) (f4 := 0) (i := 0) C 0 rfl rfl dX2_init_14 rfl ?_
  refine r_iload_n (pc' := 16) (f4 := 3) (i := 3) C 3 rfl rfl dX2_init_15 rfl ?_
  refine q_putI (pc' := 19) (j := 2) C hk fbn_0_2 fpn_0_2 wd_381 (Or.inl rfl) (Or.inr ⟨rfl, hin, rfl⟩) rfl rfl dX2_init_16 rfl ?_
  refine r_aload_n (pc' := 20) (f4 := 0) (i := 0) C 0 rfl rfl dX2_init_19 rfl ?_
  refine r_aload (pc' := 22) (i := 4) C 4 rfl dX2_init_20 rfl ?_
  rw [← zN_nn (bs := bs) (k := 151) (by decide)]
  refine q_putR (pc' := 25) (j := 3) C hk fbn_0_3 fpn_0_3 (by decide) wd_388 (Or.inl rfl) (Or.inr ⟨rfl, hin, rfl⟩) (by rw [zN_nn (by decide)]; rfl) (by rw [zN_nn (by decide)]; rfl) dX2_init_22 rfl ?_
  exact r_vret C dX2_init_25

theorem t_hi2_1 {S : SS} (hF : Fx S) {h : HH} {a : Int} (hk : KD S a 1 0) {k n v : Int} : CM yX2_init cX2_init 5 none 1 20 0 0 (fun bs => [zP bs a, zI k, zI n, zI v, zP bs 151]) h S (fun _ => none) (u2 (u2 (u2 h a 0 k) a 1 n) a 2 v) (uS S a 3 151) := by
  refine CMI.intro (own := RX2) rfl (by decide) rfl (fun _ => Nat.le_of_ble_eq_true rfl) ?_
  intro D dT bs p l e s m args below meth c C hin
  show V D dT bs 5 p l e _ s m args below meth c 0 0 _ h S 0 [(0, zP bs a), (1, zI k), (2, zI n), (3, zI v), (4, zP bs 151)] []
  refine r_aload_n (pc' := 1) (f4 := 0) (i := 0) C 0 rfl rfl dX2_init_0 rfl ?_
  refine r_objI (pc' := 4) C wd_370 wd_130 wd_131 (Nat.le_of_ble_eq_true rfl) (Nat.le_of_ble_eq_true rfl) dX2_init_1 rfl ?_
  refine r_aload_n (pc' := 5) (f4 := 0) (i := 0) C 0 rfl rfl dX2_init_4 rfl ?_
  refine r_iload_n (pc' := 6) (f4 := 1) (i := 1) C 1 rfl rfl dX2_init_5 rfl ?_
  refine q_putI (pc' := 9) (j := 0) C hk fbn_1_0 fpn_1_0 wd_371 (Or.inl rfl) (Or.inr ⟨rfl, hin, rfl⟩) rfl rfl dX2_init_6 rfl ?_
  refine r_aload_n (pc' := 10) (f4 := 0) (i := 0) C 0 rfl rfl dX2_init_9 rfl ?_
  refine r_iload_n (pc' := 11) (f4 := 2) (i := 2) C 2 rfl rfl dX2_init_10 rfl ?_
  refine q_putI (pc' := 14) (j := 1) C hk fbn_1_1 fpn_1_1 wd_374 (Or.inl rfl) (Or.inr ⟨rfl, hin, rfl⟩) rfl rfl dX2_init_11 rfl ?_
  refine r_aload_n (pc' := 15) (f4 := 0) (i := 0) C 0 rfl rfl dX2_init_14 rfl ?_
  refine r_iload_n (pc' := 16) (f4 := 3) (i := 3) C 3 rfl rfl dX2_init_15 rfl ?_
  refine q_putI (pc' := 19) (j := 2) C hk fbn_1_2 fpn_1_2 wd_381 (Or.inl rfl) (Or.inr ⟨rfl, hin, rfl⟩) rfl rfl dX2_init_16 rfl ?_
  refine r_aload_n (pc' := 20) (f4 := 0) (i := 0) C 0 rfl rfl dX2_init_19 rfl ?_
  refine r_aload (pc' := 22) (i := 4) C 4 rfl dX2_init_20 rfl ?_
  rw [← zN_nn (bs := bs) (k := 151) (by decide)]
  refine q_putR (pc' := 25) (j := 3) C hk fbn_1_3 fpn_1_3 (by decide) wd_388 (Or.inl rfl) (Or.inr ⟨rfl, hin, rfl⟩) (by rw [zN_nn (by decide)]; rfl) (by rw [zN_nn (by decide)]; rfl) dX2_init_22 rfl ?_
  exact r_vret C dX2_init_25

theorem t_hi2_2 {S : SS} (hF : Fx S) {h : HH} {a : Int} (hk : KD S a 2 0) {k n v : Int} : CM yX2_init cX2_init 5 none 1 20 0 0 (fun bs => [zP bs a, zI k, zI n, zI v, zP bs 151]) h S (fun _ => none) (u2 (u2 (u2 h a 0 k) a 1 n) a 2 v) (uS S a 3 151) := by
  refine CMI.intro (own := RX2) rfl (by decide) rfl (fun _ => Nat.le_of_ble_eq_true rfl) ?_
  intro D dT bs p l e s m args below meth c C hin
  show V D dT bs 5 p l e _ s m args below meth c 0 0 _ h S 0 [(0, zP bs a), (1, zI k), (2, zI n), (3, zI v), (4, zP bs 151)] []
  refine r_aload_n (pc' := 1) (f4 := 0) (i := 0) C 0 rfl rfl dX2_init_0 rfl ?_
  refine r_objI (pc' := 4) C wd_370 wd_130 wd_131 (Nat.le_of_ble_eq_true rfl) (Nat.le_of_ble_eq_true rfl) dX2_init_1 rfl ?_
  refine r_aload_n (pc' := 5) (f4 := 0) (i := 0) C 0 rfl rfl dX2_init_4 rfl ?_
  refine r_iload_n (pc' := 6) (f4 := 1) (i := 1) C 1 rfl rfl dX2_init_5 rfl ?_
  refine q_putI (pc' := 9) (j := 0) C hk fbn_2_0 fpn_2_0 wd_371 (Or.inl rfl) (Or.inr ⟨rfl, hin, rfl⟩) rfl rfl dX2_init_6 rfl ?_
  refine r_aload_n (pc' := 10) (f4 := 0) (i := 0) C 0 rfl rfl dX2_init_9 rfl ?_
  refine r_iload_n (pc' := 11) (f4 := 2) (i := 2) C 2 rfl rfl dX2_init_10 rfl ?_
  refine q_putI (pc' := 14) (j := 1) C hk fbn_2_1 fpn_2_1 wd_374 (Or.inl rfl) (Or.inr ⟨rfl, hin, rfl⟩) rfl rfl dX2_init_11 rfl ?_
  refine r_aload_n (pc' := 15) (f4 := 0) (i := 0) C 0 rfl rfl dX2_init_14 rfl ?_
  refine r_iload_n (pc' := 16) (f4 := 3) (i := 3) C 3 rfl rfl dX2_init_15 rfl ?_
  refine q_putI (pc' := 19) (j := 2) C hk fbn_2_2 fpn_2_2 wd_381 (Or.inl rfl) (Or.inr ⟨rfl, hin, rfl⟩) rfl rfl dX2_init_16 rfl ?_
  refine r_aload_n (pc' := 20) (f4 := 0) (i := 0) C 0 rfl rfl dX2_init_19 rfl ?_
  refine r_aload (pc' := 22) (i := 4) C 4 rfl dX2_init_20 rfl ?_
  rw [← zN_nn (bs := bs) (k := 151) (by decide)]
  refine q_putR (pc' := 25) (j := 3) C hk fbn_2_3 fpn_2_3 (by decide) wd_388 (Or.inl rfl) (Or.inr ⟨rfl, hin, rfl⟩) (by rw [zN_nn (by decide)]; rfl) (by rw [zN_nn (by decide)]; rfl) dX2_init_22 rfl ?_
  exact r_vret C dX2_init_25

theorem t_hi2_3 {S : SS} (hF : Fx S) {h : HH} {a : Int} (hk : KD S a 3 0) {k n v : Int} : CM yX2_init cX2_init 5 none 1 20 0 0 (fun bs => [zP bs a, zI k, zI n, zI v, zP bs 151]) h S (fun _ => none) (u2 (u2 (u2 h a 0 k) a 1 n) a 2 v) (uS S a 3 151) := by
  refine CMI.intro (own := RX2) rfl (by decide) rfl (fun _ => Nat.le_of_ble_eq_true rfl) ?_
  intro D dT bs p l e s m args below meth c C hin
  show V D dT bs 5 p l e _ s m args below meth c 0 0 _ h S 0 [(0, zP bs a), (1, zI k), (2, zI n), (3, zI v), (4, zP bs 151)] []
  refine r_aload_n (pc' := 1) (f4 := 0) (i := 0) C 0 rfl rfl dX2_init_0 rfl ?_
  refine r_objI (pc' := 4) C wd_370 wd_130 wd_131 (Nat.le_of_ble_eq_true rfl) (Nat.le_of_ble_eq_true rfl) dX2_init_1 rfl ?_
  refine r_aload_n (pc' := 5) (f4 := 0) (i := 0) C 0 rfl rfl dX2_init_4 rfl ?_
  refine r_iload_n (pc' := 6) (f4 := 1) (i := 1) C 1 rfl rfl dX2_init_5 rfl ?_
  refine q_putI (pc' := 9) (j := 0) C hk fbn_3_0 fpn_3_0 wd_371 (Or.inl rfl) (Or.inr ⟨rfl, hin, rfl⟩) rfl rfl dX2_init_6 rfl ?_
  refine r_aload_n (pc' := 10) (f4 := 0) (i := 0) C 0 rfl rfl dX2_init_9 rfl ?_
  refine r_iload_n (pc' := 11) (f4 := 2) (i := 2) C 2 rfl rfl dX2_init_10 rfl ?_
  refine q_putI (pc' := 14) (j := 1) C hk fbn_3_1 fpn_3_1 wd_374 (Or.inl rfl) (Or.inr ⟨rfl, hin, rfl⟩) rfl rfl dX2_init_11 rfl ?_
  refine r_aload_n (pc' := 15) (f4 := 0) (i := 0) C 0 rfl rfl dX2_init_14 rfl ?_
  refine r_iload_n (pc' := 16) (f4 := 3) (i := 3) C 3 rfl rfl dX2_init_15 rfl ?_
  refine q_putI (pc' := 19) (j := 2) C hk fbn_3_2 fpn_3_2 wd_381 (Or.inl rfl) (Or.inr ⟨rfl, hin, rfl⟩) rfl rfl dX2_init_16 rfl ?_
  refine r_aload_n (pc' := 20) (f4 := 0) (i := 0) C 0 rfl rfl dX2_init_19 rfl ?_
  refine r_aload (pc' := 22) (i := 4) C 4 rfl dX2_init_20 rfl ?_
  rw [← zN_nn (bs := bs) (k := 151) (by decide)]
  refine q_putR (pc' := 25) (j := 3) C hk fbn_3_3 fpn_3_3 (by decide) wd_388 (Or.inl rfl) (Or.inr ⟨rfl, hin, rfl⟩) (by rw [zN_nn (by decide)]; rfl) (by rw [zN_nn (by decide)]; rfl) dX2_init_22 rfl ?_
  exact r_vret C dX2_init_25

theorem t_hi2_4 {S : SS} (hF : Fx S) {h : HH} {a : Int} (hk : KD S a 4 0) {k n v : Int} : CM yX2_init cX2_init 5 none 1 20 0 0 (fun bs => [zP bs a, zI k, zI n, zI v, zP bs 151]) h S (fun _ => none) (u2 (u2 (u2 h a 0 k) a 1 n) a 2 v) (uS S a 3 151) := by
  refine CMI.intro (own := RX2) rfl (by decide) rfl (fun _ => Nat.le_of_ble_eq_true rfl) ?_
  intro D dT bs p l e s m args below meth c C hin
  show V D dT bs 5 p l e _ s m args below meth c 0 0 _ h S 0 [(0, zP bs a), (1, zI k), (2, zI n), (3, zI v), (4, zP bs 151)] []
  refine r_aload_n (pc' := 1) (f4 := 0) (i := 0) C 0 rfl rfl dX2_init_0 rfl ?_
  refine r_objI (pc' := 4) C wd_370 wd_130 wd_131 (Nat.le_of_ble_eq_true rfl) (Nat.le_of_ble_eq_true rfl) dX2_init_1 rfl ?_
  refine r_aload_n (pc' := 5) (f4 := 0) (i := 0) C 0 rfl rfl dX2_init_4 rfl ?_
  refine r_iload_n (pc' := 6) (f4 := 1) (i := 1) C 1 rfl rfl dX2_init_5 rfl ?_
  refine q_putI (pc' := 9) (j := 0) C hk fbn_4_0 fpn_4_0 wd_371 (Or.inl rfl) (Or.inr ⟨rfl, hin, rfl⟩) rfl rfl dX2_init_6 rfl ?_
  refine r_aload_n (pc' := 10) (f4 := 0) (i := 0) C 0 rfl rfl dX2_init_9 rfl ?_
  refine r_iload_n (pc' := 11) (f4 := 2) (i := 2) C 2 rfl rfl dX2_init_10 rfl ?_
  refine q_putI (pc' := 14) (j := 1) C hk fbn_4_1 fpn_4_1 wd_374 (Or.inl rfl) (Or.inr ⟨rfl, hin, rfl⟩) rfl rfl dX2_init_11 rfl ?_
  refine r_aload_n (pc' := 15) (f4 := 0) (i := 0) C 0 rfl rfl dX2_init_14 rfl ?_
  refine r_iload_n (pc' := 16) (f4 := 3) (i := 3) C 3 rfl rfl dX2_init_15 rfl ?_
  refine q_putI (pc' := 19) (j := 2) C hk fbn_4_2 fpn_4_2 wd_381 (Or.inl rfl) (Or.inr ⟨rfl, hin, rfl⟩) rfl rfl dX2_init_16 rfl ?_
  refine r_aload_n (pc' := 20) (f4 := 0) (i := 0) C 0 rfl rfl dX2_init_19 rfl ?_
  refine r_aload (pc' := 22) (i := 4) C 4 rfl dX2_init_20 rfl ?_
  rw [← zN_nn (bs := bs) (k := 151) (by decide)]
  refine q_putR (pc' := 25) (j := 3) C hk fbn_4_3 fpn_4_3 (by decide) wd_388 (Or.inl rfl) (Or.inr ⟨rfl, hin, rfl⟩) (by rw [zN_nn (by decide)]; rfl) (by rw [zN_nn (by decide)]; rfl) dX2_init_22 rfl ?_
  exact r_vret C dX2_init_25

theorem t_hi2_8 {S : SS} (hF : Fx S) {h : HH} {a : Int} (hk : KD S a 8 0) {k n v : Int} : CM yX2_init cX2_init 5 none 1 20 0 0 (fun bs => [zP bs a, zI k, zI n, zI v, zP bs 151]) h S (fun _ => none) (u2 (u2 (u2 h a 0 k) a 1 n) a 2 v) (uS S a 3 151) := by
  refine CMI.intro (own := RX2) rfl (by decide) rfl (fun _ => Nat.le_of_ble_eq_true rfl) ?_
  intro D dT bs p l e s m args below meth c C hin
  show V D dT bs 5 p l e _ s m args below meth c 0 0 _ h S 0 [(0, zP bs a), (1, zI k), (2, zI n), (3, zI v), (4, zP bs 151)] []
  refine r_aload_n (pc' := 1) (f4 := 0) (i := 0) C 0 rfl rfl dX2_init_0 rfl ?_
  refine r_objI (pc' := 4) C wd_370 wd_130 wd_131 (Nat.le_of_ble_eq_true rfl) (Nat.le_of_ble_eq_true rfl) dX2_init_1 rfl ?_
  refine r_aload_n (pc' := 5) (f4 := 0) (i := 0) C 0 rfl rfl dX2_init_4 rfl ?_
  refine r_iload_n (pc' := 6) (f4 := 1) (i := 1) C 1 rfl rfl dX2_init_5 rfl ?_
  refine q_putI (pc' := 9) (j := 0) C hk fbn_8_0 fpn_8_0 wd_371 (Or.inl rfl) (Or.inr ⟨rfl, hin, rfl⟩) rfl rfl dX2_init_6 rfl ?_
  refine r_aload_n (pc' := 10) (f4 := 0) (i := 0) C 0 rfl rfl dX2_init_9 rfl ?_
  refine r_iload_n (pc' := 11) (f4 := 2) (i := 2) C 2 rfl rfl dX2_init_10 rfl ?_
  refine q_putI (pc' := 14) (j := 1) C hk fbn_8_1 fpn_8_1 wd_374 (Or.inl rfl) (Or.inr ⟨rfl, hin, rfl⟩) rfl rfl dX2_init_11 rfl ?_
  refine r_aload_n (pc' := 15) (f4 := 0) (i := 0) C 0 rfl rfl dX2_init_14 rfl ?_
  refine r_iload_n (pc' := 16) (f4 := 3) (i := 3) C 3 rfl rfl dX2_init_15 rfl ?_
  refine q_putI (pc' := 19) (j := 2) C hk fbn_8_2 fpn_8_2 wd_381 (Or.inl rfl) (Or.inr ⟨rfl, hin, rfl⟩) rfl rfl dX2_init_16 rfl ?_
  refine r_aload_n (pc' := 20) (f4 := 0) (i := 0) C 0 rfl rfl dX2_init_19 rfl ?_
  refine r_aload (pc' := 22) (i := 4) C 4 rfl dX2_init_20 rfl ?_
  rw [← zN_nn (bs := bs) (k := 151) (by decide)]
  refine q_putR (pc' := 25) (j := 3) C hk fbn_8_3 fpn_8_3 (by decide) wd_388 (Or.inl rfl) (Or.inr ⟨rfl, hin, rfl⟩) (by rw [zN_nn (by decide)]; rfl) (by rw [zN_nn (by decide)]; rfl) dX2_init_22 rfl ?_
  exact r_vret C dX2_init_25

theorem t_hi2_9 {S : SS} (hF : Fx S) {h : HH} {a : Int} (hk : KD S a 9 0) {k n v : Int} : CM yX2_init cX2_init 5 none 1 20 0 0 (fun bs => [zP bs a, zI k, zI n, zI v, zP bs 151]) h S (fun _ => none) (u2 (u2 (u2 h a 0 k) a 1 n) a 2 v) (uS S a 3 151) := by
  refine CMI.intro (own := RX2) rfl (by decide) rfl (fun _ => Nat.le_of_ble_eq_true rfl) ?_
  intro D dT bs p l e s m args below meth c C hin
  show V D dT bs 5 p l e _ s m args below meth c 0 0 _ h S 0 [(0, zP bs a), (1, zI k), (2, zI n), (3, zI v), (4, zP bs 151)] []
  refine r_aload_n (pc' := 1) (f4 := 0) (i := 0) C 0 rfl rfl dX2_init_0 rfl ?_
  refine r_objI (pc' := 4) C wd_370 wd_130 wd_131 (Nat.le_of_ble_eq_true rfl) (Nat.le_of_ble_eq_true rfl) dX2_init_1 rfl ?_
  refine r_aload_n (pc' := 5) (f4 := 0) (i := 0) C 0 rfl rfl dX2_init_4 rfl ?_
  refine r_iload_n (pc' := 6) (f4 := 1) (i := 1) C 1 rfl rfl dX2_init_5 rfl ?_
  refine q_putI (pc' := 9) (j := 0) C hk fbn_9_0 fpn_9_0 wd_371 (Or.inl rfl) (Or.inr ⟨rfl, hin, rfl⟩) rfl rfl dX2_init_6 rfl ?_
  refine r_aload_n (pc' := 10) (f4 := 0) (i := 0) C 0 rfl rfl dX2_init_9 rfl ?_
  refine r_iload_n (pc' := 11) (f4 := 2) (i := 2) C 2 rfl rfl dX2_init_10 rfl ?_
  refine q_putI (pc' := 14) (j := 1) C hk fbn_9_1 fpn_9_1 wd_374 (Or.inl rfl) (Or.inr ⟨rfl, hin, rfl⟩) rfl rfl dX2_init_11 rfl ?_
  refine r_aload_n (pc' := 15) (f4 := 0) (i := 0) C 0 rfl rfl dX2_init_14 rfl ?_
  refine r_iload_n (pc' := 16) (f4 := 3) (i := 3) C 3 rfl rfl dX2_init_15 rfl ?_
  refine q_putI (pc' := 19) (j := 2) C hk fbn_9_2 fpn_9_2 wd_381 (Or.inl rfl) (Or.inr ⟨rfl, hin, rfl⟩) rfl rfl dX2_init_16 rfl ?_
  refine r_aload_n (pc' := 20) (f4 := 0) (i := 0) C 0 rfl rfl dX2_init_19 rfl ?_
  refine r_aload (pc' := 22) (i := 4) C 4 rfl dX2_init_20 rfl ?_
  rw [← zN_nn (bs := bs) (k := 151) (by decide)]
  refine q_putR (pc' := 25) (j := 3) C hk fbn_9_3 fpn_9_3 (by decide) wd_388 (Or.inl rfl) (Or.inr ⟨rfl, hin, rfl⟩) (by rw [zN_nn (by decide)]; rfl) (by rw [zN_nn (by decide)]; rfl) dX2_init_22 rfl ?_
  exact r_vret C dX2_init_25

theorem t_hi3_0 {S : SS} (hF : Fx S) {h : HH} {a : Int} (hk : KD S a 0 0) {k n v : Int} : CM yX3_init cX3_init 5 none 2 44 0 0 (fun bs => [zP bs a, zI k, zI n, zI v, zP bs 151]) h S (fun _ => none) (u2 (u2 (u2 h a 0 k) a 1 n) a 2 v) (uS S a 3 151) := by
  refine CM.intro (own := RX3) (by decide) rfl (fun _ => Nat.le_of_ble_eq_true rfl) ?_
  intro D dT bs p l e s m args below meth c C
  show V D dT bs 5 p l e _ s m args below meth c 0 0 _ h S 0 [(0, zP bs a), (1, zI k), (2, zI n), (3, zI v), (4, zP bs 151)] []
  refine r_aload_n (pc' := 1) (f4 := 0) (i := 0) C 0 rfl rfl dX3_init_0 rfl ?_
  refine r_iload_n (pc' := 2) (f4 := 1) (i := 1) C 1 rfl rfl dX3_init_1 rfl ?_
  refine r_iload_n (pc' := 3) (f4 := 2) (i := 2) C 2 rfl rfl dX3_init_2 rfl ?_
  refine r_iload_n (pc' := 4) (f4 := 3) (i := 3) C 3 rfl rfl dX3_init_3 rfl ?_
  refine r_aload (pc' := 6) (i := 4) C 4 rfl dX3_init_4 rfl ?_
  refine r_callI (pc' := 9) C 4 (t_hi2_0 hF hk) rfl (lwb_codeIn wd_369) wd_106 wd_415 wd_368 rfl ⟨by decide, by decide, by decide +kernel⟩ ⟨Nat.le_of_ble_eq_true rfl, Nat.le_of_ble_eq_true rfl⟩ rfl rfl (Nat.le_of_ble_eq_true rfl) dX3_init_6 rfl ⟨Nat.le_of_ble_eq_true rfl, Nat.le_of_ble_eq_true rfl⟩ ?_
  exact r_vret C dX3_init_9

theorem t_hi3_3 {S : SS} (hF : Fx S) {h : HH} {a : Int} (hk : KD S a 3 0) {k n v : Int} : CM yX3_init cX3_init 5 none 2 44 0 0 (fun bs => [zP bs a, zI k, zI n, zI v, zP bs 151]) h S (fun _ => none) (u2 (u2 (u2 h a 0 k) a 1 n) a 2 v) (uS S a 3 151) := by
  refine CM.intro (own := RX3) (by decide) rfl (fun _ => Nat.le_of_ble_eq_true rfl) ?_
  intro D dT bs p l e s m args below meth c C
  show V D dT bs 5 p l e _ s m args below meth c 0 0 _ h S 0 [(0, zP bs a), (1, zI k), (2, zI n), (3, zI v), (4, zP bs 151)] []
  refine r_aload_n (pc' := 1) (f4 := 0) (i := 0) C 0 rfl rfl dX3_init_0 rfl ?_
  refine r_iload_n (pc' := 2) (f4 := 1) (i := 1) C 1 rfl rfl dX3_init_1 rfl ?_
  refine r_iload_n (pc' := 3) (f4 := 2) (i := 2) C 2 rfl rfl dX3_init_2 rfl ?_
  refine r_iload_n (pc' := 4) (f4 := 3) (i := 3) C 3 rfl rfl dX3_init_3 rfl ?_
  refine r_aload (pc' := 6) (i := 4) C 4 rfl dX3_init_4 rfl ?_
  refine r_callI (pc' := 9) C 4 (t_hi2_3 hF hk) rfl (lwb_codeIn wd_369) wd_106 wd_415 wd_368 rfl ⟨by decide, by decide, by decide +kernel⟩ ⟨Nat.le_of_ble_eq_true rfl, Nat.le_of_ble_eq_true rfl⟩ rfl rfl (Nat.le_of_ble_eq_true rfl) dX3_init_6 rfl ⟨Nat.le_of_ble_eq_true rfl, Nat.le_of_ble_eq_true rfl⟩ ?_
  exact r_vret C dX3_init_9

theorem t_hi4_4 {S : SS} (hF : Fx S) {h : HH} {a : Int} (hk : KD S a 4 0) {k n v : Int} : CM yX4_init cX4_init 5 none 2 44 0 0 (fun bs => [zP bs a, zI k, zI n, zI v, zP bs 151]) h S (fun _ => none) (u2 (u2 (u2 h a 0 k) a 1 n) a 2 v) (uS S a 3 151) := by
  refine CM.intro (own := RX4) (by decide) rfl (fun _ => Nat.le_of_ble_eq_true rfl) ?_
  intro D dT bs p l e s m args below meth c C
  show V D dT bs 5 p l e _ s m args below meth c 0 0 _ h S 0 [(0, zP bs a), (1, zI k), (2, zI n), (3, zI v), (4, zP bs 151)] []
  refine r_aload_n (pc' := 1) (f4 := 0) (i := 0) C 0 rfl rfl dX4_init_0 rfl ?_
  refine r_iload_n (pc' := 2) (f4 := 1) (i := 1) C 1 rfl rfl dX4_init_1 rfl ?_
  refine r_iload_n (pc' := 3) (f4 := 2) (i := 2) C 2 rfl rfl dX4_init_2 rfl ?_
  refine r_iload_n (pc' := 4) (f4 := 3) (i := 3) C 3 rfl rfl dX4_init_3 rfl ?_
  refine r_aload (pc' := 6) (i := 4) C 4 rfl dX4_init_4 rfl ?_
  refine r_callI (pc' := 9) C 4 (t_hi2_4 hF hk) rfl (lwb_codeIn wd_369) wd_106 wd_426 wd_368 rfl ⟨by decide, by decide, by decide +kernel⟩ ⟨Nat.le_of_ble_eq_true rfl, Nat.le_of_ble_eq_true rfl⟩ rfl rfl (Nat.le_of_ble_eq_true rfl) dX4_init_6 rfl ⟨Nat.le_of_ble_eq_true rfl, Nat.le_of_ble_eq_true rfl⟩ ?_
  exact r_vret C dX4_init_9

theorem t_hi4_8 {S : SS} (hF : Fx S) {h : HH} {a : Int} (hk : KD S a 8 0) {k n v : Int} : CM yX4_init cX4_init 5 none 2 44 0 0 (fun bs => [zP bs a, zI k, zI n, zI v, zP bs 151]) h S (fun _ => none) (u2 (u2 (u2 h a 0 k) a 1 n) a 2 v) (uS S a 3 151) := by
  refine CM.intro (own := RX4) (by decide) rfl (fun _ => Nat.le_of_ble_eq_true rfl) ?_
  intro D dT bs p l e s m args below meth c C
  show V D dT bs 5 p l e _ s m args below meth c 0 0 _ h S 0 [(0, zP bs a), (1, zI k), (2, zI n), (3, zI v), (4, zP bs 151)] []
  refine r_aload_n (pc' := 1) (f4 := 0) (i := 0) C 0 rfl rfl dX4_init_0 rfl ?_
  refine r_iload_n (pc' := 2) (f4 := 1) (i := 1) C 1 rfl rfl dX4_init_1 rfl ?_
  refine r_iload_n (pc' := 3) (f4 := 2) (i := 2) C 2 rfl rfl dX4_init_2 rfl ?_
  refine r_iload_n (pc' := 4) (f4 := 3) (i := 3) C 3 rfl rfl dX4_init_3 rfl ?_
  refine r_aload (pc' := 6) (i := 4) C 4 rfl dX4_init_4 rfl ?_
  refine r_callI (pc' := 9) C 4 (t_hi2_8 hF hk) rfl (lwb_codeIn wd_369) wd_106 wd_426 wd_368 rfl ⟨by decide, by decide, by decide +kernel⟩ ⟨Nat.le_of_ble_eq_true rfl, Nat.le_of_ble_eq_true rfl⟩ rfl rfl (Nat.le_of_ble_eq_true rfl) dX4_init_6 rfl ⟨Nat.le_of_ble_eq_true rfl, Nat.le_of_ble_eq_true rfl⟩ ?_
  exact r_vret C dX4_init_9

theorem t_hi9_1 {S : SS} (hF : Fx S) {h : HH} {a : Int} (hk : KD S a 1 0) {k n v : Int} : CM yX9_init cX9_init 5 none 2 44 0 0 (fun bs => [zP bs a, zI k, zI n, zI v, zP bs 151]) h S (fun _ => none) (u2 (u2 (u2 h a 0 k) a 1 n) a 2 v) (uS S a 3 151) := by
  refine CM.intro (own := RX9) (by decide) rfl (fun _ => Nat.le_of_ble_eq_true rfl) ?_
  intro D dT bs p l e s m args below meth c C
  show V D dT bs 5 p l e _ s m args below meth c 0 0 _ h S 0 [(0, zP bs a), (1, zI k), (2, zI n), (3, zI v), (4, zP bs 151)] []
  refine r_aload_n (pc' := 1) (f4 := 0) (i := 0) C 0 rfl rfl dX9_init_0 rfl ?_
  refine r_iload_n (pc' := 2) (f4 := 1) (i := 1) C 1 rfl rfl dX9_init_1 rfl ?_
  refine r_iload_n (pc' := 3) (f4 := 2) (i := 2) C 2 rfl rfl dX9_init_2 rfl ?_
  refine r_iload_n (pc' := 4) (f4 := 3) (i := 3) C 3 rfl rfl dX9_init_3 rfl ?_
  refine r_aload (pc' := 6) (i := 4) C 4 rfl dX9_init_4 rfl ?_
  refine r_callI (pc' := 9) C 4 (t_hi2_1 hF hk) rfl (lwb_codeIn wd_369) wd_106 wd_367 wd_368 rfl ⟨by decide, by decide, by decide +kernel⟩ ⟨Nat.le_of_ble_eq_true rfl, Nat.le_of_ble_eq_true rfl⟩ rfl rfl (Nat.le_of_ble_eq_true rfl) dX9_init_6 rfl ⟨Nat.le_of_ble_eq_true rfl, Nat.le_of_ble_eq_true rfl⟩ ?_
  exact r_vret C dX9_init_9

theorem t_hi9_9 {S : SS} (hF : Fx S) {h : HH} {a : Int} (hk : KD S a 9 0) {k n v : Int} : CM yX9_init cX9_init 5 none 2 44 0 0 (fun bs => [zP bs a, zI k, zI n, zI v, zP bs 151]) h S (fun _ => none) (u2 (u2 (u2 h a 0 k) a 1 n) a 2 v) (uS S a 3 151) := by
  refine CM.intro (own := RX9) (by decide) rfl (fun _ => Nat.le_of_ble_eq_true rfl) ?_
  intro D dT bs p l e s m args below meth c C
  show V D dT bs 5 p l e _ s m args below meth c 0 0 _ h S 0 [(0, zP bs a), (1, zI k), (2, zI n), (3, zI v), (4, zP bs 151)] []
  refine r_aload_n (pc' := 1) (f4 := 0) (i := 0) C 0 rfl rfl dX9_init_0 rfl ?_
  refine r_iload_n (pc' := 2) (f4 := 1) (i := 1) C 1 rfl rfl dX9_init_1 rfl ?_
  refine r_iload_n (pc' := 3) (f4 := 2) (i := 2) C 2 rfl rfl dX9_init_2 rfl ?_
  refine r_iload_n (pc' := 4) (f4 := 3) (i := 3) C 3 rfl rfl dX9_init_3 rfl ?_
  refine r_aload (pc' := 6) (i := 4) C 4 rfl dX9_init_4 rfl ?_
  refine r_callI (pc' := 9) C 4 (t_hi2_9 hF hk) rfl (lwb_codeIn wd_369) wd_106 wd_367 wd_368 rfl ⟨by decide, by decide, by decide +kernel⟩ ⟨Nat.le_of_ble_eq_true rfl, Nat.le_of_ble_eq_true rfl⟩ rfl rfl (Nat.le_of_ble_eq_true rfl) dX9_init_6 rfl ⟨Nat.le_of_ble_eq_true rfl, Nat.le_of_ble_eq_true rfl⟩ ?_
  exact r_vret C dX9_init_9

theorem t_hi0_0 {S : SS} (hF : Fx S) {h : HH} {a : Int} (hk : KD S a 0 0) {k n v : Int} : CM yX0_init cX0_init 5 none 3 68 0 0 (fun bs => [zP bs a, zI k, zI n, zI v, zP bs 151]) h S (fun _ => none) (u2 (u2 (u2 h a 0 k) a 1 n) a 2 v) (uS S a 3 151) := by
  refine CM.intro (own := RX0) (by decide) rfl (fun _ => Nat.le_of_ble_eq_true rfl) ?_
  intro D dT bs p l e s m args below meth c C
  show V D dT bs 5 p l e _ s m args below meth c 0 0 _ h S 0 [(0, zP bs a), (1, zI k), (2, zI n), (3, zI v), (4, zP bs 151)] []
  refine r_aload_n (pc' := 1) (f4 := 0) (i := 0) C 0 rfl rfl dX0_init_0 rfl ?_
  refine r_iload_n (pc' := 2) (f4 := 1) (i := 1) C 1 rfl rfl dX0_init_1 rfl ?_
  refine r_iload_n (pc' := 3) (f4 := 2) (i := 2) C 2 rfl rfl dX0_init_2 rfl ?_
  refine r_iload_n (pc' := 4) (f4 := 3) (i := 3) C 3 rfl rfl dX0_init_3 rfl ?_
  refine r_aload (pc' := 6) (i := 4) C 4 rfl dX0_init_4 rfl ?_
  refine r_callI (pc' := 9) C 4 (t_hi3_0 hF hk) rfl (lwb_codeIn wd_414) wd_108 wd_448 wd_413 rfl ⟨by decide, by decide, by decide +kernel⟩ ⟨Nat.le_of_ble_eq_true rfl, Nat.le_of_ble_eq_true rfl⟩ rfl rfl (Nat.le_of_ble_eq_true rfl) dX0_init_6 rfl ⟨Nat.le_of_ble_eq_true rfl, Nat.le_of_ble_eq_true rfl⟩ ?_
  exact r_vret C dX0_init_9

theorem t_hi1_1 {S : SS} (hF : Fx S) {h : HH} {a : Int} (hk : KD S a 1 0) {k n v : Int} : CM yX1_init cX1_init 5 none 3 68 0 0 (fun bs => [zP bs a, zI k, zI n, zI v, zP bs 151]) h S (fun _ => none) (u2 (u2 (u2 h a 0 k) a 1 n) a 2 v) (uS S a 3 151) := by
  refine CM.intro (own := RX1) (by decide) rfl (fun _ => Nat.le_of_ble_eq_true rfl) ?_
  intro D dT bs p l e s m args below meth c C
  show V D dT bs 5 p l e _ s m args below meth c 0 0 _ h S 0 [(0, zP bs a), (1, zI k), (2, zI n), (3, zI v), (4, zP bs 151)] []
  refine r_aload_n (pc' := 1) (f4 := 0) (i := 0) C 0 rfl rfl dX1_init_0 rfl ?_
  refine r_iload_n (pc' := 2) (f4 := 1) (i := 1) C 1 rfl rfl dX1_init_1 rfl ?_
  refine r_iload_n (pc' := 3) (f4 := 2) (i := 2) C 2 rfl rfl dX1_init_2 rfl ?_
  refine r_iload_n (pc' := 4) (f4 := 3) (i := 3) C 3 rfl rfl dX1_init_3 rfl ?_
  refine r_aload (pc' := 6) (i := 4) C 4 rfl dX1_init_4 rfl ?_
  refine r_callI (pc' := 9) C 4 (t_hi9_1 hF hk) rfl (lwb_codeIn wd_366) wd_107 wd_437 wd_365 rfl ⟨by decide, by decide, by decide +kernel⟩ ⟨Nat.le_of_ble_eq_true rfl, Nat.le_of_ble_eq_true rfl⟩ rfl rfl (Nat.le_of_ble_eq_true rfl) dX1_init_6 rfl ⟨Nat.le_of_ble_eq_true rfl, Nat.le_of_ble_eq_true rfl⟩ ?_
  exact r_vret C dX1_init_9

theorem t_hi8_8 {S : SS} (hF : Fx S) {h : HH} {a : Int} (hk : KD S a 8 0) {k n v : Int} : CM yX8_init cX8_init 5 none 3 68 0 0 (fun bs => [zP bs a, zI k, zI n, zI v, zP bs 151]) h S (fun _ => none) (u2 (u2 (u2 h a 0 k) a 1 n) a 2 v) (uS S a 3 151) := by
  refine CM.intro (own := RX8) (by decide) rfl (fun _ => Nat.le_of_ble_eq_true rfl) ?_
  intro D dT bs p l e s m args below meth c C
  show V D dT bs 5 p l e _ s m args below meth c 0 0 _ h S 0 [(0, zP bs a), (1, zI k), (2, zI n), (3, zI v), (4, zP bs 151)] []
  refine r_aload_n (pc' := 1) (f4 := 0) (i := 0) C 0 rfl rfl dX8_init_0 rfl ?_
  refine r_iload_n (pc' := 2) (f4 := 1) (i := 1) C 1 rfl rfl dX8_init_1 rfl ?_
  refine r_iload_n (pc' := 3) (f4 := 2) (i := 2) C 2 rfl rfl dX8_init_2 rfl ?_
  refine r_iload_n (pc' := 4) (f4 := 3) (i := 3) C 3 rfl rfl dX8_init_3 rfl ?_
  refine r_aload (pc' := 6) (i := 4) C 4 rfl dX8_init_4 rfl ?_
  refine r_callI (pc' := 9) C 4 (t_hi4_8 hF hk) rfl (lwb_codeIn wd_425) wd_109 wd_459 wd_424 rfl ⟨by decide, by decide, by decide +kernel⟩ ⟨Nat.le_of_ble_eq_true rfl, Nat.le_of_ble_eq_true rfl⟩ rfl rfl (Nat.le_of_ble_eq_true rfl) dX8_init_6 rfl ⟨Nat.le_of_ble_eq_true rfl, Nat.le_of_ble_eq_true rfl⟩ ?_
  exact r_vret C dX8_init_9

/-- a kind's class -/
def nhC (k : Int) : Int := if k = 1 then 9 else if k = 2 then 3 else if k = 3 then 4 else if k = 4 then 1 else if k = 5 then 0 else if k = 6 then 8 else 2
def x_newHater (S : SS) (h : HH) (k n v : Int) : Option (Int × HH × SS) := some (S.2, u2 (u2 (u2 (nh h S.2) S.2 0 k) S.2 1 n) S.2 2 v, uS (nS S (nhC (ww k)) 0) S.2 3 151)
theorem fbx_trace : FB 11 7 13 RX11 TX11 true := ⟨by decide, rfl, uin_11, by decide, by decide +kernel⟩
theorem t_x_newHater {S : SS} (hF : Fx S) {h : HH} {k n v : Int} {res : Int × HH × SS} (hf : x_newHater S h k n v = some res) : CM yX11_newHater cX11_newHater 4 (some (.object "WassailEnemies$Hater")) 4 100 1 4 (fun bs => [zP bs 0, zI k, zI n, zI v]) h S (fun bs => some (zP bs res.1)) res.2.1 res.2.2 := by
  cases hf
  refine CM.intro (own := RX11) (by decide) rfl (fun _ => Nat.le_of_ble_eq_true rfl) ?_
  intro D dT bs p l e s m args below meth c C
  show V D dT bs 4 p l e _ s m args below meth c 0 0 _ h S 0 [(0, zP bs 0), (1, zI k), (2, zI n), (3, zI v)] []
  refine r_iload_n (pc' := 1) (f4 := 1) (i := 1) C 1 rfl rfl dX11_newHater_0 rfl ?_
  by_cases cs1 : ww k = 1
  · rw [show nhC (ww k) = 9 from by rw [cs1]; decide]
    refine r_tsIn (tgt := 40) C 1 cs1 dX11_newHater_1 (by decide) (by decide) rfl (by decide) ?_
    have hF1 : Fx (nS S 9 0) := hF.ext SXt.nS
    refine r_new (ci := 9) (pc' := 43) C cl_9 uin_9 tyX9_ok dvn_9 wd_362 wd_363 wd_107 ⟨Nat.le_of_ble_eq_true rfl, Nat.le_of_ble_eq_true rfl⟩ dX11_newHater_40 rfl ?_
    refine r_dup (pc' := 44) C rfl dX11_newHater_43 rfl ?_
    refine r_iload_n (pc' := 45) (f4 := 1) (i := 1) C 1 rfl rfl dX11_newHater_44 rfl ?_
    refine r_iload_n (pc' := 46) (f4 := 2) (i := 2) C 2 rfl rfl dX11_newHater_45 rfl ?_
    refine r_iload_n (pc' := 47) (f4 := 3) (i := 3) C 3 rfl rfl dX11_newHater_46 rfl ?_
    refine r_aload_n (pc' := 48) (f4 := 0) (i := 0) C 0 rfl rfl dX11_newHater_47 rfl ?_
    refine q_getP (pc' := 51) (j := 7) C (K_0 hF1) fbx_trace (by decide) wd_318 (Or.inl rfl) (F_0_7 hF1) (by decide) dX11_newHater_48 rfl ?_
    refine r_callI (pc' := 54) C 4 (t_hi9_9 hF1 KD.new) rfl (lwb_codeIn wd_366) wd_107 wd_364 wd_365 rfl ⟨by decide, by decide, by decide +kernel⟩ ⟨Nat.le_of_ble_eq_true rfl, Nat.le_of_ble_eq_true rfl⟩ rfl rfl (Nat.le_of_ble_eq_true rfl) dX11_newHater_51 rfl ⟨Nat.le_of_ble_eq_true rfl, Nat.le_of_ble_eq_true rfl⟩ ?_
    exact r_aret C (Or.inl ⟨_, rfl⟩) (Or.inr ⟨_, rfl⟩) dX11_newHater_54
  · skip
    by_cases cs2 : ww k = 2
    · rw [show nhC (ww k) = 3 from by rw [cs2]; decide]
      refine r_tsIn (tgt := 55) C 2 cs2 dX11_newHater_1 (by decide) (by decide) rfl (by decide) ?_
      have hF1 : Fx (nS S 3 0) := hF.ext SXt.nS
      refine r_new (ci := 3) (pc' := 58) C cl_3 uin_3 tyX3_ok dvn_3 wd_410 wd_411 wd_108 ⟨Nat.le_of_ble_eq_true rfl, Nat.le_of_ble_eq_true rfl⟩ dX11_newHater_55 rfl ?_
      refine r_dup (pc' := 59) C rfl dX11_newHater_58 rfl ?_
      refine r_iload_n (pc' := 60) (f4 := 1) (i := 1) C 1 rfl rfl dX11_newHater_59 rfl ?_
      refine r_iload_n (pc' := 61) (f4 := 2) (i := 2) C 2 rfl rfl dX11_newHater_60 rfl ?_
      refine r_iload_n (pc' := 62) (f4 := 3) (i := 3) C 3 rfl rfl dX11_newHater_61 rfl ?_
      refine r_aload_n (pc' := 63) (f4 := 0) (i := 0) C 0 rfl rfl dX11_newHater_62 rfl ?_
      refine q_getP (pc' := 66) (j := 7) C (K_0 hF1) fbx_trace (by decide) wd_318 (Or.inl rfl) (F_0_7 hF1) (by decide) dX11_newHater_63 rfl ?_
      refine r_callI (pc' := 69) C 4 (t_hi3_3 hF1 KD.new) rfl (lwb_codeIn wd_414) wd_108 wd_412 wd_413 rfl ⟨by decide, by decide, by decide +kernel⟩ ⟨Nat.le_of_ble_eq_true rfl, Nat.le_of_ble_eq_true rfl⟩ rfl rfl (Nat.le_of_ble_eq_true rfl) dX11_newHater_66 rfl ⟨Nat.le_of_ble_eq_true rfl, Nat.le_of_ble_eq_true rfl⟩ ?_
      exact r_aret C (Or.inl ⟨_, rfl⟩) (Or.inr ⟨_, rfl⟩) dX11_newHater_69
    · skip
      by_cases cs3 : ww k = 3
      · rw [show nhC (ww k) = 4 from by rw [cs3]; decide]
        refine r_tsIn (tgt := 70) C 3 cs3 dX11_newHater_1 (by decide) (by decide) rfl (by decide) ?_
        have hF1 : Fx (nS S 4 0) := hF.ext SXt.nS
        refine r_new (ci := 4) (pc' := 73) C cl_4 uin_4 tyX4_ok dvn_4 wd_421 wd_422 wd_109 ⟨Nat.le_of_ble_eq_true rfl, Nat.le_of_ble_eq_true rfl⟩ dX11_newHater_70 rfl ?_
        refine r_dup (pc' := 74) C rfl dX11_newHater_73 rfl ?_
        refine r_iload_n (pc' := 75) (f4 := 1) (i := 1) C 1 rfl rfl dX11_newHater_74 rfl ?_
        refine r_iload_n (pc' := 76) (f4 := 2) (i := 2) C 2 rfl rfl dX11_newHater_75 rfl ?_
        refine r_iload_n (pc' := 77) (f4 := 3) (i := 3) C 3 rfl rfl dX11_newHater_76 rfl ?_
        refine r_aload_n (pc' := 78) (f4 := 0) (i := 0) C 0 rfl rfl dX11_newHater_77 rfl ?_
        refine q_getP (pc' := 81) (j := 7) C (K_0 hF1) fbx_trace (by decide) wd_318 (Or.inl rfl) (F_0_7 hF1) (by decide) dX11_newHater_78 rfl ?_
        refine r_callI (pc' := 84) C 4 (t_hi4_4 hF1 KD.new) rfl (lwb_codeIn wd_425) wd_109 wd_423 wd_424 rfl ⟨by decide, by decide, by decide +kernel⟩ ⟨Nat.le_of_ble_eq_true rfl, Nat.le_of_ble_eq_true rfl⟩ rfl rfl (Nat.le_of_ble_eq_true rfl) dX11_newHater_81 rfl ⟨Nat.le_of_ble_eq_true rfl, Nat.le_of_ble_eq_true rfl⟩ ?_
        exact r_aret C (Or.inl ⟨_, rfl⟩) (Or.inr ⟨_, rfl⟩) dX11_newHater_84
      · skip
        by_cases cs4 : ww k = 4
        · rw [show nhC (ww k) = 1 from by rw [cs4]; decide]
          refine r_tsIn (tgt := 85) C 4 cs4 dX11_newHater_1 (by decide) (by decide) rfl (by decide) ?_
          have hF1 : Fx (nS S 1 0) := hF.ext SXt.nS
          refine r_new (ci := 1) (pc' := 88) C cl_1 uin_1 tyX1_ok dvn_1 wd_432 wd_433 wd_110 ⟨Nat.le_of_ble_eq_true rfl, Nat.le_of_ble_eq_true rfl⟩ dX11_newHater_85 rfl ?_
          refine r_dup (pc' := 89) C rfl dX11_newHater_88 rfl ?_
          refine r_iload_n (pc' := 90) (f4 := 1) (i := 1) C 1 rfl rfl dX11_newHater_89 rfl ?_
          refine r_iload_n (pc' := 91) (f4 := 2) (i := 2) C 2 rfl rfl dX11_newHater_90 rfl ?_
          refine r_iload_n (pc' := 92) (f4 := 3) (i := 3) C 3 rfl rfl dX11_newHater_91 rfl ?_
          refine r_aload_n (pc' := 93) (f4 := 0) (i := 0) C 0 rfl rfl dX11_newHater_92 rfl ?_
          refine q_getP (pc' := 96) (j := 7) C (K_0 hF1) fbx_trace (by decide) wd_318 (Or.inl rfl) (F_0_7 hF1) (by decide) dX11_newHater_93 rfl ?_
          refine r_callI (pc' := 99) C 4 (t_hi1_1 hF1 KD.new) rfl (lwb_codeIn wd_436) wd_110 wd_434 wd_435 rfl ⟨by decide, by decide, by decide +kernel⟩ ⟨Nat.le_of_ble_eq_true rfl, Nat.le_of_ble_eq_true rfl⟩ rfl rfl (Nat.le_of_ble_eq_true rfl) dX11_newHater_96 rfl ⟨Nat.le_of_ble_eq_true rfl, Nat.le_of_ble_eq_true rfl⟩ ?_
          exact r_aret C (Or.inl ⟨_, rfl⟩) (Or.inr ⟨_, rfl⟩) dX11_newHater_99
        · skip
          by_cases cs5 : ww k = 5
          · rw [show nhC (ww k) = 0 from by rw [cs5]; decide]
            refine r_tsIn (tgt := 100) C 5 cs5 dX11_newHater_1 (by decide) (by decide) rfl (by decide) ?_
            have hF1 : Fx (nS S 0 0) := hF.ext SXt.nS
            refine r_new (ci := 0) (pc' := 103) C cl_0 uin_0 tyX0_ok dvn_0 wd_443 wd_444 wd_111 ⟨Nat.le_of_ble_eq_true rfl, Nat.le_of_ble_eq_true rfl⟩ dX11_newHater_100 rfl ?_
            refine r_dup (pc' := 104) C rfl dX11_newHater_103 rfl ?_
            refine r_iload_n (pc' := 105) (f4 := 1) (i := 1) C 1 rfl rfl dX11_newHater_104 rfl ?_
            refine r_iload_n (pc' := 106) (f4 := 2) (i := 2) C 2 rfl rfl dX11_newHater_105 rfl ?_
            refine r_iload_n (pc' := 107) (f4 := 3) (i := 3) C 3 rfl rfl dX11_newHater_106 rfl ?_
            refine r_aload_n (pc' := 108) (f4 := 0) (i := 0) C 0 rfl rfl dX11_newHater_107 rfl ?_
            refine q_getP (pc' := 111) (j := 7) C (K_0 hF1) fbx_trace (by decide) wd_318 (Or.inl rfl) (F_0_7 hF1) (by decide) dX11_newHater_108 rfl ?_
            refine r_callI (pc' := 114) C 4 (t_hi0_0 hF1 KD.new) rfl (lwb_codeIn wd_447) wd_111 wd_445 wd_446 rfl ⟨by decide, by decide, by decide +kernel⟩ ⟨Nat.le_of_ble_eq_true rfl, Nat.le_of_ble_eq_true rfl⟩ rfl rfl (Nat.le_of_ble_eq_true rfl) dX11_newHater_111 rfl ⟨Nat.le_of_ble_eq_true rfl, Nat.le_of_ble_eq_true rfl⟩ ?_
            exact r_aret C (Or.inl ⟨_, rfl⟩) (Or.inr ⟨_, rfl⟩) dX11_newHater_114
          · skip
            by_cases cs6 : ww k = 6
            · rw [show nhC (ww k) = 8 from by rw [cs6]; decide]
              refine r_tsIn (tgt := 115) C 6 cs6 dX11_newHater_1 (by decide) (by decide) rfl (by decide) ?_
              have hF1 : Fx (nS S 8 0) := hF.ext SXt.nS
              refine r_new (ci := 8) (pc' := 118) C cl_8 uin_8 tyX8_ok dvn_8 wd_454 wd_455 wd_112 ⟨Nat.le_of_ble_eq_true rfl, Nat.le_of_ble_eq_true rfl⟩ dX11_newHater_115 rfl ?_
              refine r_dup (pc' := 119) C rfl dX11_newHater_118 rfl ?_
              refine r_iload_n (pc' := 120) (f4 := 1) (i := 1) C 1 rfl rfl dX11_newHater_119 rfl ?_
              refine r_iload_n (pc' := 121) (f4 := 2) (i := 2) C 2 rfl rfl dX11_newHater_120 rfl ?_
              refine r_iload_n (pc' := 122) (f4 := 3) (i := 3) C 3 rfl rfl dX11_newHater_121 rfl ?_
              refine r_aload_n (pc' := 123) (f4 := 0) (i := 0) C 0 rfl rfl dX11_newHater_122 rfl ?_
              refine q_getP (pc' := 126) (j := 7) C (K_0 hF1) fbx_trace (by decide) wd_318 (Or.inl rfl) (F_0_7 hF1) (by decide) dX11_newHater_123 rfl ?_
              refine r_callI (pc' := 129) C 4 (t_hi8_8 hF1 KD.new) rfl (lwb_codeIn wd_458) wd_112 wd_456 wd_457 rfl ⟨by decide, by decide, by decide +kernel⟩ ⟨Nat.le_of_ble_eq_true rfl, Nat.le_of_ble_eq_true rfl⟩ rfl rfl (Nat.le_of_ble_eq_true rfl) dX11_newHater_126 rfl ⟨Nat.le_of_ble_eq_true rfl, Nat.le_of_ble_eq_true rfl⟩ ?_
              exact r_aret C (Or.inl ⟨_, rfl⟩) (Or.inr ⟨_, rfl⟩) dX11_newHater_129
            · skip
              rw [show nhC (ww k) = 2 from by unfold nhC; simp [cs1, cs2, cs3, cs4, cs5, cs6]]
              refine r_tsOut (tgt := 130) C dX11_newHater_1 (by omega) (by decide) ?_
              have hF1 : Fx (nS S 2 0) := hF.ext SXt.nS
              refine r_new (ci := 2) (pc' := 133) C cl_2 uin_2 tyX2_ok dvn_2 wd_465 wd_466 wd_106 ⟨Nat.le_of_ble_eq_true rfl, Nat.le_of_ble_eq_true rfl⟩ dX11_newHater_130 rfl ?_
              refine r_dup (pc' := 134) C rfl dX11_newHater_133 rfl ?_
              refine r_iload_n (pc' := 135) (f4 := 1) (i := 1) C 1 rfl rfl dX11_newHater_134 rfl ?_
              refine r_iload_n (pc' := 136) (f4 := 2) (i := 2) C 2 rfl rfl dX11_newHater_135 rfl ?_
              refine r_iload_n (pc' := 137) (f4 := 3) (i := 3) C 3 rfl rfl dX11_newHater_136 rfl ?_
              refine r_aload_n (pc' := 138) (f4 := 0) (i := 0) C 0 rfl rfl dX11_newHater_137 rfl ?_
              refine q_getP (pc' := 141) (j := 7) C (K_0 hF1) fbx_trace (by decide) wd_318 (Or.inl rfl) (F_0_7 hF1) (by decide) dX11_newHater_138 rfl ?_
              refine r_callI (pc' := 144) C 4 (t_hi2_2 hF1 KD.new) rfl (lwb_codeIn wd_369) wd_106 wd_467 wd_368 rfl ⟨by decide, by decide, by decide +kernel⟩ ⟨Nat.le_of_ble_eq_true rfl, Nat.le_of_ble_eq_true rfl⟩ rfl rfl (Nat.le_of_ble_eq_true rfl) dX11_newHater_141 rfl ⟨Nat.le_of_ble_eq_true rfl, Nat.le_of_ble_eq_true rfl⟩ ?_
              exact r_aret C (Or.inl ⟨_, rfl⟩) (Or.inr ⟨_, rfl⟩) dX11_newHater_144

