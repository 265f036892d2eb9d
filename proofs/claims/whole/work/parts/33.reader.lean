theorem ww_n48 : ww 48 = 48 := by decide
theorem ww_n57 : ww 57 = 57 := by decide
theorem fb_6_2 : FB 6 2 4 RX6 TX6 false := ⟨by decide, rfl, uin_6, by decide, by decide +kernel⟩
theorem fb_6_3 : FB 6 3 4 RX6 TX6 false := ⟨by decide, rfl, uin_6, by decide, by decide +kernel⟩
theorem fb_11_5 : FB 11 5 13 RX11 TX11 true := ⟨by decide, rfl, uin_11, by decide, by decide +kernel⟩
theorem fb_11_6 : FB 11 6 13 RX11 TX11 false := ⟨by decide, rfl, uin_11, by decide, by decide +kernel⟩
theorem fp_6_2 : FP 4 2 TX6 tyX6 .int := ⟨tyX6_ok, nmX6, by decide +kernel⟩
theorem fp_6_3 : FP 4 3 TX6 tyX6 .int := ⟨tyX6_ok, nmX6, by decide +kernel⟩
theorem fp_11_6 : FP 13 6 TX11 tyX11 .int := ⟨tyX11_ok, nmX11, by decide +kernel⟩
theorem wv_RX11_149 : WV RX11 149 RX6 yX6_readClauses cX6_readClauses 3 (some Jvm.ClassFile.FieldType.boolean) 1 := ⟨lwb_callV wd_603 wd_604 wd_605 wd_100 wd_606, rfl, by decide, by decide, by decide +kernel⟩
theorem wv_RX6_19 : WV RX6 19 RX5 yX5_clear cX5_clear 1 (Option.none : Option Jvm.ClassFile.FieldType) 0 := ⟨lwb_callV wd_607 wd_608 wd_609 wd_104 wd_610, rfl, by decide, by decide, by decide +kernel⟩
theorem wv_RX6_27 : WV RX6 27 RX6 yX6_take cX6_take 2 (some Jvm.ClassFile.FieldType.boolean) 1 := ⟨lwb_callV wd_611 wd_613 wd_3 wd_100 wd_614, rfl, by decide, by decide, by decide +kernel⟩
theorem wv_RX6_31 : WV RX6 31 RX6 yX6_readClause cX6_readClause 2 (some Jvm.ClassFile.FieldType.boolean) 1 := ⟨lwb_callV wd_615 wd_617 wd_4 wd_100 wd_618, rfl, by decide, by decide, by decide +kernel⟩
theorem wv_RX6_37 : WV RX6 37 RX6 yX6_takeWord cX6_takeWord 3 (some Jvm.ClassFile.FieldType.boolean) 1 := ⟨lwb_callV wd_620 wd_622 wd_5 wd_100 wd_623, rfl, by decide, by decide, by decide +kernel⟩
theorem wv_RX6_41 : WV RX6 41 RX6 yX6_readWarmth cX6_readWarmth 4 (some Jvm.ClassFile.FieldType.boolean) 2 := ⟨lwb_callV wd_663 wd_665 wd_6 wd_100 wd_666, rfl, by decide, by decide, by decide +kernel⟩
theorem wv_RX6_49 : WV RX6 49 RX6 yX6_readNumber cX6_readNumber 2 (some Jvm.ClassFile.FieldType.boolean) 0 := ⟨lwb_callV wd_667 wd_669 wd_7 wd_100 wd_670, rfl, by decide, by decide, by decide +kernel⟩
theorem wv_RX6_64 : WV RX6 64 RX6 yX6_readAny cX6_readAny 5 (some Jvm.ClassFile.FieldType.boolean) 2 := ⟨lwb_callV wd_671 wd_673 wd_8 wd_100 wd_674, rfl, by decide, by decide, by decide +kernel⟩
theorem wv_RX6_67 : WV RX6 67 RX5 yX5_append cX5_append 3 (Option.none : Option Jvm.ClassFile.FieldType) 2 := ⟨lwb_callV wd_679 wd_680 wd_681 wd_104 wd_682, rfl, by decide, by decide, by decide +kernel⟩
theorem wv_RX6_71 : WV RX6 71 RX6 yX6_readOne cX6_readOne 3 (some Jvm.ClassFile.FieldType.boolean) 2 := ⟨lwb_callV wd_675 wd_677 wd_9 wd_100 wd_678, rfl, by decide, by decide, by decide +kernel⟩
theorem wv_RX6_74 : WV RX6 74 RX6 yX6_readTest cX6_readTest 4 (some Jvm.ClassFile.FieldType.boolean) 1 := ⟨lwb_callV wd_683 wd_685 wd_10 wd_100 wd_686, rfl, by decide, by decide, by decide +kernel⟩
theorem wv_RX6_79 : WV RX6 79 RX6 yX6_takeOneOf cX6_takeOneOf 3 (some Jvm.ClassFile.FieldType.int) 1 := ⟨lwb_callV wd_688 wd_690 wd_11 wd_100 wd_691, rfl, by decide, by decide, by decide +kernel⟩
theorem ws_RX6_85 : WS RX6 85 yX5_testStep cX5_testStep 2 (some Jvm.ClassFile.FieldType.int) 2 := ⟨lwb_callS wd_750 wd_751 wd_104 wd_752, by decide, by decide, by decide +kernel⟩
theorem wvo_RX6_89 : WV RX6 89 "java/lang/String" yJ0_length_8abf5 cJ0_length_8abf5 1 (some Jvm.ClassFile.FieldType.int) 0 := ⟨lwb_callV wd_624 wd_162 wd_163 wd_98 wd_164, rfl, by decide, by decide, by decide +kernel⟩
theorem wvo_RX6_94 : WV RX6 94 "java/lang/String" yJ0_charAt_5068e cJ0_charAt_5068e 2 (some Jvm.ClassFile.FieldType.char) 1 := ⟨lwb_callV wd_625 wd_626 wd_627 wd_98 wd_628, rfl, by decide, by decide, by decide +kernel⟩
theorem wvo_RX6_98 : WV RX6 98 "java/lang/String" yJ0_indexOf_0f7a4 cJ0_indexOf_0f7a4 2 (some Jvm.ClassFile.FieldType.int) 1 := ⟨lwb_callV wd_692 wd_693 wd_694 wd_98 wd_695, rfl, by decide, by decide, by decide +kernel⟩
theorem sl_RX6_35 : Site RX6 35 "hot " [104, 111, 116, 32] := ⟨by decide, in_t3 (List.mem_of_getElem? (i := 45) (by decide +kernel)), by decide +kernel, by decide +kernel, by decide +kernel, by decide +kernel, by decide +kernel⟩
theorem sl_RX6_45 : Site RX6 45 "cold " [99, 111, 108, 100, 32] := ⟨by decide, in_t3 (List.mem_of_getElem? (i := 179) (by decide +kernel)), by decide +kernel, by decide +kernel, by decide +kernel, by decide +kernel, by decide +kernel⟩
theorem sl_RX6_47 : Site RX6 47 "need " [110, 101, 101, 100, 32] := ⟨by decide, in_t3 (List.mem_of_getElem? (i := 180) (by decide +kernel)), by decide +kernel, by decide +kernel, by decide +kernel, by decide +kernel, by decide +kernel⟩
theorem sl_RX6_59 : Site RX6 59 "wear " [119, 101, 97, 114, 32] := ⟨by decide, in_t3 (List.mem_of_getElem? (i := 181) (by decide +kernel)), by decide +kernel, by decide +kernel, by decide +kernel, by decide +kernel, by decide +kernel⟩
theorem sl_RX6_77 : Site RX6 77 "ptkvhy" [112, 116, 107, 118, 104, 121] := ⟨by decide, in_t3 (List.mem_of_getElem? (i := 113) (by decide +kernel)), by decide +kernel, by decide +kernel, by decide +kernel, by decide +kernel, by decide +kernel⟩
theorem sl_RX6_83 : Site RX6 83 "<=>" [60, 61, 62] := ⟨by decide, in_t3 (List.mem_of_getElem? (i := 175) (by decide +kernel)), by decide +kernel, by decide +kernel, by decide +kernel, by decide +kernel, by decide +kernel⟩
theorem zI_ww (z : Int) : zI (ww z) = zI z := by rw [ww, zI_toInt]; rfl
theorem t_scharAtW {a : Nat} {byt : List Int32} (hlen : byt.length < 100) {i : Int} (h0 : 0 ≤ ww i) (h1 : ww i < byt.length) {h : HH} {S : SS} : CME (fun bs U H => StrE a byt bs U H) yJ0_charAt_5068e cJ0_charAt_5068e 2 (some .char) 3 64 0 0 (fun _ => [.ref a, zI i]) h S (fun _ => some (zI (zch byt (ww i)))) h S := by
  have k := t_scharAt (a := a) (h := h) (S := S) hlen h0 h1
  rw [zI_ww] at k
  exact k
section
variable {D : va_G} {dT : ZT} {bs : Nat} {p : Program} {l : Launch} {e : Env} {s : State} {m : MethodId} {args : Array Value} {below : List Frame} {meth : Method} {c : Code} {S : SS}
/- WassailEnemies$Reader.take(I)Z -/
def xd_take (h : HH) (a1 : Int) : Option (Int × HH) :=
  if ww (h 148 2) < ww (h 148 1) then (ck (ww (h 148 2)) 100 <| if ww (h 149 (ww (h 148 2))) = ww a1 then (some (1, u2 h 148 2 ((h 148 2) + 1))) else (some (0, h))) else (some (0, h))
abbrev rm_xd_take : Room := { frames := 0, cells := 0, slots := 0, locals := 0 }
set_option maxHeartbeats 4000000 in
set_option maxRecDepth 100000 in
theorem t_xd_take {S : SS} (hF : Fx S) {h : HH} {a1 : Int} {res : Int × HH} (hf : xd_take h a1 = some res) : CM yX6_take cX6_take 2 (some Jvm.ClassFile.FieldType.boolean) 0 0 0 0 (fun bs => [zP bs 148, zI a1]) h S (fun _ => some (zI res.1)) res.2 S := by
  refine CM.intro (own := RX6) (by decide) rfl (fun _ => Nat.le_of_ble_eq_true rfl) ?_
  intro D dT bs p l e s m args below meth c C
  show V D dT bs 2 p l e rm_xd_take s m args below meth c 0 0 _ h S 0 [(0, zP bs 148), (1, zI a1)] []
  unfold xd_take at hf
  refine r_aload_n (pc' := 1) (f4 := 0) (i := 0) C 0 rfl rfl dX6_take_0 rfl ?_
  refine q_getI (pc' := 4) (j := 2) C (K_148 hF) fb_6_2 wd_241 (Or.inl rfl) dX6_take_1 rfl ?_
  refine r_aload_n (pc' := 5) (f4 := 0) (i := 0) C 0 rfl rfl dX6_take_4 rfl ?_
  refine q_getI (pc' := 8) (j := 1) C (K_148 hF) fb_6_1 wd_239 (Or.inl rfl) dX6_take_5 rfl ?_
  refine r_icmp_ge (pc' := 11) (tgt := 24) C rfl rfl hf dX6_take_8 (by decide) rfl (fun hf => ?_) (fun hf => ?_)
  · refine r_aload_n (pc' := 12) (f4 := 0) (i := 0) C 0 rfl rfl dX6_take_11 rfl ?_
    refine q_getP (pc' := 15) (j := 0) C (K_148 hF) fb_6_0 (by decide) wd_238 (Or.inl rfl) (F_148_0 hF) (by decide) dX6_take_12 rfl ?_
    refine r_aload_n (pc' := 16) (f4 := 0) (i := 0) C 0 rfl rfl dX6_take_15 rfl ?_
    refine q_getI (pc' := 19) (j := 2) C (K_148 hF) fb_6_2 wd_241 (Or.inl rfl) dX6_take_16 rfl ?_
    obtain ⟨hi, hf⟩ := ck_in hf
    refine r_iald (pc' := 20) C (K_149 hF) rfl hi dX6_take_19 rfl ?_
    refine r_iload_n (pc' := 21) (f4 := 1) (i := 1) C 1 rfl rfl dX6_take_20 rfl ?_
    refine r_icmp_eq (pc' := 24) (tgt := 26) C rfl rfl hf dX6_take_21 (by decide) rfl (fun hf => ?_) (fun hf => ?_)
    · refine r_aload_n (pc' := 27) (f4 := 0) (i := 0) C 0 rfl rfl dX6_take_26 rfl ?_
      refine r_dup (pc' := 28) C rfl dX6_take_27 rfl ?_
      refine q_getI (pc' := 31) (j := 2) C (K_148 hF) fb_6_2 wd_241 (Or.inl rfl) dX6_take_28 rfl ?_
      refine r_iconst (pc' := 32) C dX6_take_31 rfl ?_
      refine r_iadd (pc' := 33) C dX6_take_32 rfl ?_
      refine q_putI (pc' := 36) (j := 2) C (K_148 hF) fb_6_2 fp_6_2 wd_241 (Or.inl rfl) (Or.inl rfl) rfl rfl dX6_take_33 rfl ?_
      refine r_iconst (pc' := 37) C dX6_take_36 rfl ?_
      cases hf
      exact r_zret C (Or.inr rfl) dX6_take_37
    · refine r_iconst (pc' := 25) C dX6_take_24 rfl ?_
      cases hf
      exact r_zret C (Or.inl rfl) dX6_take_25
  · refine r_iconst (pc' := 25) C dX6_take_24 rfl ?_
    cases hf
    exact r_zret C (Or.inl rfl) dX6_take_25

/- WassailEnemies$Reader.takeWord(Ljava/lang/String;)Z -/
def xd_takeWord_L2 (tb : List Int32) : Nat → HH → Int → Option (Int × HH)
  | 0, _, _ => none
  | n2 + 1, h, x2 =>
    if ww x2 < ww (tb.length : Int) then (ck (ww x2) tb.length <| (xd_take h (zch tb (ww x2))).bind fun q2 => if ww q2.1 = 0 then (some (0, q2.2)) else (xd_takeWord_L2 tb n2 q2.2 (x2 + 1))) else (some (1, h))
def xd_takeWord (tb : List Int32) (h : HH) : Option (Int × HH) :=
  xd_takeWord_L2 tb FU h 0
abbrev rm_xd_takeWord : Room := { frames := 4, cells := 0, slots := 0, locals := 100 }
set_option maxHeartbeats 4000000 in
set_option maxRecDepth 100000 in
theorem w_xd_takeWord_L2 (hF : Fx S) (C : Cx D dT bs RX6 cX6_takeWord 3 (some Jvm.ClassFile.FieldType.boolean) p s m args meth c) {ta : Nat} {tb : List Int32} (htb : tb.length < 100) (hpb : 0 < tb.length) (hE : StrE ta tb bs s s.heap) {res : (Int × HH)} :
    ∀ (n : Nat) (h : HH) (x2 : Int), xd_takeWord_L2 tb n h x2 = some res → V D dT bs 3 p l e rm_xd_takeWord s m args below meth c 0 0 (MQ below (QQ D dT bs (some (zI res.1)) res.2 S) args s 0 0 (AA bs)) h S 2 [(0, zP bs 148), (1, .ref ta), (2, zI x2)] [] := by
  intro n
  induction n with
  | zero => intro h x2 hf; simp [xd_takeWord_L2] at hf
  | succ n2 ih2 =>
    intro h x2 hf
    rw [xd_takeWord_L2] at hf
    refine r_iload_n (pc' := 3) (f4 := 2) (i := 2) C 2 rfl rfl dX6_takeWord_2 rfl ?_
    refine r_aloadO_n (pc' := 4) (f4 := 1) (i := 1) C 1 rfl rfl dX6_takeWord_3 rfl ?_
    refine q_callVO (pc' := 7) C (t_slength htb) rfl hE wvo_RX6_89 ⟨Nat.le_of_ble_eq_true rfl, Nat.le_of_ble_eq_true rfl⟩ rfl rfl (Nat.le_of_ble_eq_true rfl) dX6_takeWord_4 rfl ⟨Nat.le_of_ble_eq_true rfl, Nat.le_of_ble_eq_true rfl⟩ ?_
    refine r_icmp_ge (pc' := 10) (tgt := 30) C rfl rfl hf dX6_takeWord_7 (by decide) rfl (fun hf => ?_) (fun hf => ?_)
    · refine r_aload_n (pc' := 11) (f4 := 0) (i := 0) C 0 rfl rfl dX6_takeWord_10 rfl ?_
      refine r_aloadO_n (pc' := 12) (f4 := 1) (i := 1) C 1 rfl rfl dX6_takeWord_11 rfl ?_
      refine r_iload_n (pc' := 13) (f4 := 2) (i := 2) C 2 rfl rfl dX6_takeWord_12 rfl ?_
      obtain ⟨hi1, hf⟩ := ck_in hf
      refine q_callVO (pc' := 16) C (t_scharAtW htb hi1.1 hi1.2) rfl hE wvo_RX6_94 ⟨Nat.le_of_ble_eq_true rfl, Nat.le_of_ble_eq_true rfl⟩ rfl rfl (Nat.le_of_ble_eq_true rfl) dX6_takeWord_13 rfl ⟨Nat.le_of_ble_eq_true rfl, Nat.le_of_ble_eq_true rfl⟩ ?_
      obtain ⟨q2, hq2, hf⟩ := bind_in hf
      refine q_callV (pc' := 19) C (t_xd_take hF hq2) rfl (K_148 hF) cl_6 wv_RX6_27 ⟨Nat.le_of_ble_eq_true rfl, Nat.le_of_ble_eq_true rfl⟩ rfl rfl (Nat.le_of_ble_eq_true rfl) dX6_takeWord_16 rfl ⟨Nat.le_of_ble_eq_true rfl, Nat.le_of_ble_eq_true rfl⟩ ?_
      refine r_if_ne (pc' := 22) (tgt := 24) C rfl hf dX6_takeWord_19 (by decide) rfl (fun hf => ?_) (fun hf => ?_)
      · refine r_iconst (pc' := 23) C dX6_takeWord_22 rfl ?_
        cases hf
        exact r_zret C (Or.inl rfl) dX6_takeWord_23
      · refine r_iinc (pc' := 27) (i := 2) (L' := [(2, zI (x2 + 1)), (0, zP bs 148), (1, .ref ta)]) C 2 rfl (by decide) rfl dX6_takeWord_24 rfl ?_
        refine r_goto (tgt := 2) C dX6_takeWord_27 (by decide) ?_
        refine V.sub (L' := [(0, zP bs 148), (1, .ref ta), (2, zI (x2 + 1))]) [1, 2, 0] rfl ?_
        exact ih2 _ _ hf
    · refine r_iconst (pc' := 31) C dX6_takeWord_30 rfl ?_
      cases hf
      exact r_zret C (Or.inr rfl) dX6_takeWord_31
set_option maxHeartbeats 4000000 in
set_option maxRecDepth 100000 in
theorem t_xd_takeWord {S : SS} (hF : Fx S) {h : HH} {ta : Nat} {tb : List Int32} (htb : tb.length < 100) (hpb : 0 < tb.length) {res : Int × HH} (hf : xd_takeWord tb h = some res) : CME (fun bs U H => StrE ta tb bs U H) yX6_takeWord cX6_takeWord 3 (some Jvm.ClassFile.FieldType.boolean) 4 100 0 0 (fun bs => [zP bs 148, .ref ta]) h S (fun _ => some (zI res.1)) res.2 S := by
  refine CME.intro (own := RX6) (by decide) rfl (fun _ => Nat.le_of_ble_eq_true rfl) ?_
  intro D dT bs p l e s m args below meth c C hE
  show V D dT bs 3 p l e rm_xd_takeWord s m args below meth c 0 0 _ h S 0 [(0, zP bs 148), (1, .ref ta)] []
  unfold xd_takeWord at hf
  refine r_iconst (pc' := 1) C dX6_takeWord_0 rfl ?_
  refine r_istore_n (pc' := 2) (f4 := 2) (i := 2) (L' := [(2, zI 0), (0, zP bs 148), (1, .ref ta)]) C rfl (by decide) rfl dX6_takeWord_1 rfl ?_
  refine V.sub (L' := [(0, zP bs 148), (1, .ref ta), (2, zI 0)]) [1, 2, 0] rfl ?_
  refine w_xd_takeWord_L2 hF C htb hpb hE _ _ _ hf

/- WassailEnemies$Reader.takeOneOf(Ljava/lang/String;)I -/
def xd_takeOneOf (tb : List Int32) (h : HH) : Option (Int × HH) :=
  if ww (h 148 2) < ww (h 148 1) then (ck (ww (h 148 2)) 100 <| ck (ww (zi2c (h 149 (ww (h 148 2))))) 256 <| if ww (zfind tb (zb8 (zi2c (h 149 (ww (h 148 2))))) tb.length 0) < 0 then (some (zfind tb (zb8 (zi2c (h 149 (ww (h 148 2))))) tb.length 0, h)) else (some (zfind tb (zb8 (zi2c (h 149 (ww (h 148 2))))) tb.length 0, u2 h 148 2 ((h 148 2) + 1)))) else (if (-1 : Int) < 0 then (some (-1, h)) else (some (-1, u2 h 148 2 ((h 148 2) + 1))))
abbrev rm_xd_takeOneOf : Room := { frames := 4, cells := 0, slots := 0, locals := 100 }
set_option maxHeartbeats 4000000 in
set_option maxRecDepth 100000 in
theorem t_xd_takeOneOf {S : SS} (hF : Fx S) {h : HH} {ta : Nat} {tb : List Int32} (htb : tb.length < 100) (hpb : 0 < tb.length) {res : Int × HH} (hf : xd_takeOneOf tb h = some res) : CME (fun bs U H => StrE ta tb bs U H) yX6_takeOneOf cX6_takeOneOf 3 (some Jvm.ClassFile.FieldType.int) 4 100 0 0 (fun bs => [zP bs 148, .ref ta]) h S (fun _ => some (zI res.1)) res.2 S := by
  refine CME.intro (own := RX6) (by decide) rfl (fun _ => Nat.le_of_ble_eq_true rfl) ?_
  intro D dT bs p l e s m args below meth c C hE
  show V D dT bs 3 p l e rm_xd_takeOneOf s m args below meth c 0 0 _ h S 0 [(0, zP bs 148), (1, .ref ta)] []
  unfold xd_takeOneOf at hf
  refine r_aload_n (pc' := 1) (f4 := 0) (i := 0) C 0 rfl rfl dX6_takeOneOf_0 rfl ?_
  refine q_getI (pc' := 4) (j := 2) C (K_148 hF) fb_6_2 wd_241 (Or.inl rfl) dX6_takeOneOf_1 rfl ?_
  refine r_aload_n (pc' := 5) (f4 := 0) (i := 0) C 0 rfl rfl dX6_takeOneOf_4 rfl ?_
  refine q_getI (pc' := 8) (j := 1) C (K_148 hF) fb_6_1 wd_239 (Or.inl rfl) dX6_takeOneOf_5 rfl ?_
  refine r_icmp_ge (pc' := 11) (tgt := 28) C rfl rfl hf dX6_takeOneOf_8 (by decide) rfl (fun hf => ?_) (fun hf => ?_)
  · refine r_aloadO_n (pc' := 12) (f4 := 1) (i := 1) C 1 rfl rfl dX6_takeOneOf_11 rfl ?_
    refine r_aload_n (pc' := 13) (f4 := 0) (i := 0) C 0 rfl rfl dX6_takeOneOf_12 rfl ?_
    refine q_getP (pc' := 16) (j := 0) C (K_148 hF) fb_6_0 (by decide) wd_238 (Or.inl rfl) (F_148_0 hF) (by decide) dX6_takeOneOf_13 rfl ?_
    refine r_aload_n (pc' := 17) (f4 := 0) (i := 0) C 0 rfl rfl dX6_takeOneOf_16 rfl ?_
    refine q_getI (pc' := 20) (j := 2) C (K_148 hF) fb_6_2 wd_241 (Or.inl rfl) dX6_takeOneOf_17 rfl ?_
    obtain ⟨hi, hf⟩ := ck_in hf
    refine r_iald (pc' := 21) C (K_149 hF) rfl hi dX6_takeOneOf_20 rfl ?_
    refine r_i2c (pc' := 22) C dX6_takeOneOf_21 rfl ?_
    obtain ⟨hi1, hf⟩ := ck_in hf
    refine q_callVO (pc' := 25) C (t_sindex htb hpb hi1.1 (Int.le_of_lt_add_one hi1.2)) rfl hE wvo_RX6_98 ⟨Nat.le_of_ble_eq_true rfl, Nat.le_of_ble_eq_true rfl⟩ rfl rfl (Nat.le_of_ble_eq_true rfl) dX6_takeOneOf_22 rfl ⟨Nat.le_of_ble_eq_true rfl, Nat.le_of_ble_eq_true rfl⟩ ?_
    refine r_goto (tgt := 29) C dX6_takeOneOf_25 (by decide) ?_
    refine r_istore_n (pc' := 30) (f4 := 2) (i := 2) (L' := [(2, zI (zfind tb (zb8 (zi2c (h 149 (ww (h 148 2))))) tb.length 0)), (0, zP bs 148), (1, .ref ta)]) C rfl (by decide) rfl dX6_takeOneOf_29 rfl ?_
    refine r_iload_n (pc' := 31) (f4 := 2) (i := 2) C 0 rfl rfl dX6_takeOneOf_30 rfl ?_
    refine r_if_lt (pc' := 34) (tgt := 44) C rfl hf dX6_takeOneOf_31 (by decide) rfl (fun hf => ?_) (fun hf => ?_)
    · refine r_iload_n (pc' := 45) (f4 := 2) (i := 2) C 0 rfl rfl dX6_takeOneOf_44 rfl ?_
      cases hf
      exact r_iret C dX6_takeOneOf_45
    · refine r_aload_n (pc' := 35) (f4 := 0) (i := 0) C 1 rfl rfl dX6_takeOneOf_34 rfl ?_
      refine r_dup (pc' := 36) C rfl dX6_takeOneOf_35 rfl ?_
      refine q_getI (pc' := 39) (j := 2) C (K_148 hF) fb_6_2 wd_241 (Or.inl rfl) dX6_takeOneOf_36 rfl ?_
      refine r_iconst (pc' := 40) C dX6_takeOneOf_39 rfl ?_
      refine r_iadd (pc' := 41) C dX6_takeOneOf_40 rfl ?_
      refine q_putI (pc' := 44) (j := 2) C (K_148 hF) fb_6_2 fp_6_2 wd_241 (Or.inl rfl) (Or.inl rfl) rfl rfl dX6_takeOneOf_41 rfl ?_
      refine r_iload_n (pc' := 45) (f4 := 2) (i := 2) C 0 rfl rfl dX6_takeOneOf_44 rfl ?_
      cases hf
      exact r_iret C dX6_takeOneOf_45
  · refine r_iconst (pc' := 29) C dX6_takeOneOf_28 rfl ?_
    refine r_istore_n (pc' := 30) (f4 := 2) (i := 2) (L' := [(2, zI (-1)), (0, zP bs 148), (1, .ref ta)]) C rfl (by decide) rfl dX6_takeOneOf_29 rfl ?_
    refine r_iload_n (pc' := 31) (f4 := 2) (i := 2) C 0 rfl rfl dX6_takeOneOf_30 rfl ?_
    refine r_if_lt (pc' := 34) (tgt := 44) C ww_m1 hf dX6_takeOneOf_31 (by decide) rfl (fun hf => ?_) (fun hf => ?_)
    · refine r_iload_n (pc' := 45) (f4 := 2) (i := 2) C 0 rfl rfl dX6_takeOneOf_44 rfl ?_
      cases hf
      exact r_iret C dX6_takeOneOf_45
    · refine r_aload_n (pc' := 35) (f4 := 0) (i := 0) C 1 rfl rfl dX6_takeOneOf_34 rfl ?_
      refine r_dup (pc' := 36) C rfl dX6_takeOneOf_35 rfl ?_
      refine q_getI (pc' := 39) (j := 2) C (K_148 hF) fb_6_2 wd_241 (Or.inl rfl) dX6_takeOneOf_36 rfl ?_
      refine r_iconst (pc' := 40) C dX6_takeOneOf_39 rfl ?_
      refine r_iadd (pc' := 41) C dX6_takeOneOf_40 rfl ?_
      refine q_putI (pc' := 44) (j := 2) C (K_148 hF) fb_6_2 fp_6_2 wd_241 (Or.inl rfl) (Or.inl rfl) rfl rfl dX6_takeOneOf_41 rfl ?_
      refine r_iload_n (pc' := 45) (f4 := 2) (i := 2) C 0 rfl rfl dX6_takeOneOf_44 rfl ?_
      cases hf
      exact r_iret C dX6_takeOneOf_45

/- WassailEnemies$Reader.readNumber()Z -/
def xd_readNumber_L7 : Nat → HH → Int → Option (Int × HH)
  | 0, _, _ => none
  | n7 + 1, h, x1 =>
    if ww x1 < 2 then (if ww (h 148 2) < ww (h 148 1) then (ck (ww (h 148 2)) 100 <| if ww (h 149 (ww (h 148 2))) < 48 then (if 0 < ww x1 then (some (1, h)) else (some (0, h))) else (ck (ww (h 148 2)) 100 <| if 57 < ww (h 149 (ww (h 148 2))) then (if 0 < ww x1 then (some (1, h)) else (some (0, h))) else (ck (ww (h 148 2)) 100 <| xd_readNumber_L7 n7 (u2 (u2 h 148 3 ((((h 148 3) * 10) + (h 149 (ww (h 148 2)))) - 48)) 148 2 (((u2 h 148 3 ((((h 148 3) * 10) + (h 149 (ww (h 148 2)))) - 48)) 148 2) + 1)) (x1 + 1)))) else (if 0 < ww x1 then (some (1, h)) else (some (0, h)))) else (if 0 < ww x1 then (some (1, h)) else (some (0, h)))
def xd_readNumber (h : HH) : Option (Int × HH) :=
  xd_readNumber_L7 FU (u2 h 148 3 0) 0
abbrev rm_xd_readNumber : Room := { frames := 0, cells := 0, slots := 0, locals := 0 }
set_option maxHeartbeats 4000000 in
set_option maxRecDepth 100000 in
theorem w_xd_readNumber_L7 (hF : Fx S) (C : Cx D dT bs RX6 cX6_readNumber 2 (some Jvm.ClassFile.FieldType.boolean) p s m args meth c) {res : (Int × HH)} :
    ∀ (n : Nat) (h : HH) (x1 : Int), xd_readNumber_L7 n h x1 = some res → V D dT bs 2 p l e rm_xd_readNumber s m args below meth c 0 0 (MQ below (QQ D dT bs (some (zI res.1)) res.2 S) args s 0 0 (AA bs)) h S 7 [(0, zP bs 148), (1, zI x1)] [] := by
  intro n
  induction n with
  | zero => intro h x1 hf; simp [xd_readNumber_L7] at hf
  | succ n7 ih7 =>
    intro h x1 hf
    rw [xd_readNumber_L7] at hf
    refine r_iload_n (pc' := 8) (f4 := 1) (i := 1) C 1 rfl rfl dX6_readNumber_7 rfl ?_
    refine r_iconst (pc' := 9) C dX6_readNumber_8 rfl ?_
    refine r_icmp_ge (pc' := 12) (tgt := 91) C rfl ww_n2 hf dX6_readNumber_9 (by decide) rfl (fun hf => ?_) (fun hf => ?_)
    · refine r_aload_n (pc' := 13) (f4 := 0) (i := 0) C 0 rfl rfl dX6_readNumber_12 rfl ?_
      refine q_getI (pc' := 16) (j := 2) C (K_148 hF) fb_6_2 wd_241 (Or.inl rfl) dX6_readNumber_13 rfl ?_
      refine r_aload_n (pc' := 17) (f4 := 0) (i := 0) C 0 rfl rfl dX6_readNumber_16 rfl ?_
      refine q_getI (pc' := 20) (j := 1) C (K_148 hF) fb_6_1 wd_239 (Or.inl rfl) dX6_readNumber_17 rfl ?_
      refine r_icmp_ge (pc' := 23) (tgt := 91) C rfl rfl hf dX6_readNumber_20 (by decide) rfl (fun hf => ?_) (fun hf => ?_)
      · refine r_aload_n (pc' := 24) (f4 := 0) (i := 0) C 0 rfl rfl dX6_readNumber_23 rfl ?_
        refine q_getP (pc' := 27) (j := 0) C (K_148 hF) fb_6_0 (by decide) wd_238 (Or.inl rfl) (F_148_0 hF) (by decide) dX6_readNumber_24 rfl ?_
        refine r_aload_n (pc' := 28) (f4 := 0) (i := 0) C 0 rfl rfl dX6_readNumber_27 rfl ?_
        refine q_getI (pc' := 31) (j := 2) C (K_148 hF) fb_6_2 wd_241 (Or.inl rfl) dX6_readNumber_28 rfl ?_
        obtain ⟨hi, hf⟩ := ck_in hf
        refine r_iald (pc' := 32) C (K_149 hF) rfl hi dX6_readNumber_31 rfl ?_
        refine r_bipush (pc' := 34) C rfl dX6_readNumber_32 rfl ?_
        refine r_icmp_lt (pc' := 37) (tgt := 91) C rfl ww_n48 hf dX6_readNumber_34 (by decide) rfl (fun hf => ?_) (fun hf => ?_)
        · refine r_iload_n (pc' := 92) (f4 := 1) (i := 1) C 1 rfl rfl dX6_readNumber_91 rfl ?_
          refine r_if_le (pc' := 95) (tgt := 99) C rfl hf dX6_readNumber_92 (by decide) rfl (fun hf => ?_) (fun hf => ?_)
          · refine r_iconst (pc' := 96) C dX6_readNumber_95 rfl ?_
            refine r_goto (tgt := 100) C dX6_readNumber_96 (by decide) ?_
            cases hf
            exact r_zret C (Or.inr rfl) dX6_readNumber_100
          · refine r_iconst (pc' := 100) C dX6_readNumber_99 rfl ?_
            cases hf
            exact r_zret C (Or.inl rfl) dX6_readNumber_100
        · refine r_aload_n (pc' := 38) (f4 := 0) (i := 0) C 0 rfl rfl dX6_readNumber_37 rfl ?_
          refine q_getP (pc' := 41) (j := 0) C (K_148 hF) fb_6_0 (by decide) wd_238 (Or.inl rfl) (F_148_0 hF) (by decide) dX6_readNumber_38 rfl ?_
          refine r_aload_n (pc' := 42) (f4 := 0) (i := 0) C 0 rfl rfl dX6_readNumber_41 rfl ?_
          refine q_getI (pc' := 45) (j := 2) C (K_148 hF) fb_6_2 wd_241 (Or.inl rfl) dX6_readNumber_42 rfl ?_
          obtain ⟨hi, hf⟩ := ck_in hf
          refine r_iald (pc' := 46) C (K_149 hF) rfl hi dX6_readNumber_45 rfl ?_
          refine r_bipush (pc' := 48) C rfl dX6_readNumber_46 rfl ?_
          refine r_icmp_gt (pc' := 51) (tgt := 91) C rfl ww_n57 hf dX6_readNumber_48 (by decide) rfl (fun hf => ?_) (fun hf => ?_)
          · refine r_iload_n (pc' := 92) (f4 := 1) (i := 1) C 1 rfl rfl dX6_readNumber_91 rfl ?_
            refine r_if_le (pc' := 95) (tgt := 99) C rfl hf dX6_readNumber_92 (by decide) rfl (fun hf => ?_) (fun hf => ?_)
            · refine r_iconst (pc' := 96) C dX6_readNumber_95 rfl ?_
              refine r_goto (tgt := 100) C dX6_readNumber_96 (by decide) ?_
              cases hf
              exact r_zret C (Or.inr rfl) dX6_readNumber_100
            · refine r_iconst (pc' := 100) C dX6_readNumber_99 rfl ?_
              cases hf
              exact r_zret C (Or.inl rfl) dX6_readNumber_100
          · refine r_aload_n (pc' := 52) (f4 := 0) (i := 0) C 0 rfl rfl dX6_readNumber_51 rfl ?_
            refine r_aload_n (pc' := 53) (f4 := 0) (i := 0) C 0 rfl rfl dX6_readNumber_52 rfl ?_
            refine q_getI (pc' := 56) (j := 3) C (K_148 hF) fb_6_3 wd_243 (Or.inl rfl) dX6_readNumber_53 rfl ?_
            refine r_bipush (pc' := 58) C rfl dX6_readNumber_56 rfl ?_
            refine r_imul (pc' := 59) C dX6_readNumber_58 rfl ?_
            refine r_aload_n (pc' := 60) (f4 := 0) (i := 0) C 0 rfl rfl dX6_readNumber_59 rfl ?_
            refine q_getP (pc' := 63) (j := 0) C (K_148 hF) fb_6_0 (by decide) wd_238 (Or.inl rfl) (F_148_0 hF) (by decide) dX6_readNumber_60 rfl ?_
            refine r_aload_n (pc' := 64) (f4 := 0) (i := 0) C 0 rfl rfl dX6_readNumber_63 rfl ?_
            refine q_getI (pc' := 67) (j := 2) C (K_148 hF) fb_6_2 wd_241 (Or.inl rfl) dX6_readNumber_64 rfl ?_
            obtain ⟨hi, hf⟩ := ck_in hf
            refine r_iald (pc' := 68) C (K_149 hF) rfl hi dX6_readNumber_67 rfl ?_
            refine r_iadd (pc' := 69) C dX6_readNumber_68 rfl ?_
            refine r_bipush (pc' := 71) C rfl dX6_readNumber_69 rfl ?_
            refine r_isub (pc' := 72) C dX6_readNumber_71 rfl ?_
            refine q_putI (pc' := 75) (j := 3) C (K_148 hF) fb_6_3 fp_6_3 wd_243 (Or.inl rfl) (Or.inl rfl) rfl rfl dX6_readNumber_72 rfl ?_
            refine r_aload_n (pc' := 76) (f4 := 0) (i := 0) C 0 rfl rfl dX6_readNumber_75 rfl ?_
            refine r_dup (pc' := 77) C rfl dX6_readNumber_76 rfl ?_
            refine q_getI (pc' := 80) (j := 2) C (K_148 hF) fb_6_2 wd_241 (Or.inl rfl) dX6_readNumber_77 rfl ?_
            refine r_iconst (pc' := 81) C dX6_readNumber_80 rfl ?_
            refine r_iadd (pc' := 82) C dX6_readNumber_81 rfl ?_
            refine q_putI (pc' := 85) (j := 2) C (K_148 hF) fb_6_2 fp_6_2 wd_241 (Or.inl rfl) (Or.inl rfl) rfl rfl dX6_readNumber_82 rfl ?_
            refine r_iinc (pc' := 88) (i := 1) (L' := [(1, zI (x1 + 1)), (0, zP bs 148)]) C 1 rfl (by decide) rfl dX6_readNumber_85 rfl ?_
            refine r_goto (tgt := 7) C dX6_readNumber_88 (by decide) ?_
            refine V.sub (L' := [(0, zP bs 148), (1, zI (x1 + 1))]) [1, 0] rfl ?_
            exact ih7 _ _ hf
      · refine r_iload_n (pc' := 92) (f4 := 1) (i := 1) C 1 rfl rfl dX6_readNumber_91 rfl ?_
        refine r_if_le (pc' := 95) (tgt := 99) C rfl hf dX6_readNumber_92 (by decide) rfl (fun hf => ?_) (fun hf => ?_)
        · refine r_iconst (pc' := 96) C dX6_readNumber_95 rfl ?_
          refine r_goto (tgt := 100) C dX6_readNumber_96 (by decide) ?_
          cases hf
          exact r_zret C (Or.inr rfl) dX6_readNumber_100
        · refine r_iconst (pc' := 100) C dX6_readNumber_99 rfl ?_
          cases hf
          exact r_zret C (Or.inl rfl) dX6_readNumber_100
    · refine r_iload_n (pc' := 92) (f4 := 1) (i := 1) C 1 rfl rfl dX6_readNumber_91 rfl ?_
      refine r_if_le (pc' := 95) (tgt := 99) C rfl hf dX6_readNumber_92 (by decide) rfl (fun hf => ?_) (fun hf => ?_)
      · refine r_iconst (pc' := 96) C dX6_readNumber_95 rfl ?_
        refine r_goto (tgt := 100) C dX6_readNumber_96 (by decide) ?_
        cases hf
        exact r_zret C (Or.inr rfl) dX6_readNumber_100
      · refine r_iconst (pc' := 100) C dX6_readNumber_99 rfl ?_
        cases hf
        exact r_zret C (Or.inl rfl) dX6_readNumber_100
set_option maxHeartbeats 4000000 in
set_option maxRecDepth 100000 in
theorem t_xd_readNumber {S : SS} (hF : Fx S) {h : HH} {res : Int × HH} (hf : xd_readNumber h = some res) : CM yX6_readNumber cX6_readNumber 2 (some Jvm.ClassFile.FieldType.boolean) 0 0 0 0 (fun bs => [zP bs 148]) h S (fun _ => some (zI res.1)) res.2 S := by
  refine CM.intro (own := RX6) (by decide) rfl (fun _ => Nat.le_of_ble_eq_true rfl) ?_
  intro D dT bs p l e s m args below meth c C
  show V D dT bs 2 p l e rm_xd_readNumber s m args below meth c 0 0 _ h S 0 [(0, zP bs 148)] []
  unfold xd_readNumber at hf
  refine r_iconst (pc' := 1) C dX6_readNumber_0 rfl ?_
  refine r_istore_n (pc' := 2) (f4 := 1) (i := 1) (L' := [(1, zI 0), (0, zP bs 148)]) C rfl (by decide) rfl dX6_readNumber_1 rfl ?_
  refine r_aload_n (pc' := 3) (f4 := 0) (i := 0) C 1 rfl rfl dX6_readNumber_2 rfl ?_
  refine r_iconst (pc' := 4) C dX6_readNumber_3 rfl ?_
  refine q_putI (pc' := 7) (j := 3) C (K_148 hF) fb_6_3 fp_6_3 wd_243 (Or.inl rfl) (Or.inl rfl) rfl rfl dX6_readNumber_4 rfl ?_
  refine V.sub (L' := [(0, zP bs 148), (1, zI 0)]) [1, 0] rfl ?_
  refine w_xd_readNumber_L7 hF C _ _ _ hf

/- WassailEnemies$Reader.readTest(LWassailEnemies$Orchard;)Z -/
def xd_readTest (h : HH) (a1 : Int) : Option (Int × HH) :=
  (xd_takeOneOf [112, 116, 107, 118, 104, 121] h).bind fun q2 => if ww q2.1 < 0 then (if (-1 : Int) < 0 then (some (0, q2.2)) else ((xd_readNumber q2.2).bind fun q3 => if ww q3.1 = 0 then (some (0, q3.2)) else ((xo_append q3.2 a1 (xo_testStep q2.1 (-1)) (q3.2 148 3)).bind fun q4 => some (1, q4)))) else ((xd_takeOneOf [60, 61, 62] q2.2).bind fun q6 => if ww q6.1 < 0 then (some (0, q6.2)) else ((xd_readNumber q6.2).bind fun q7 => if ww q7.1 = 0 then (some (0, q7.2)) else ((xo_append q7.2 a1 (xo_testStep q2.1 q6.1) (q7.2 148 3)).bind fun q8 => some (1, q8))))
abbrev rm_xd_readTest : Room := { frames := 5, cells := 0, slots := 0, locals := 122 }
set_option maxHeartbeats 4000000 in
set_option maxRecDepth 100000 in
theorem t_xd_readTest {S : SS} (hF : Fx S) {h : HH} {a1 : Int} (ha1 : isO a1) {res : Int × HH} (hf : xd_readTest h a1 = some res) : CM yX6_readTest cX6_readTest 4 (some Jvm.ClassFile.FieldType.boolean) 5 122 0 0 (fun bs => [zP bs 148, zP bs a1]) h S (fun _ => some (zI res.1)) res.2 S := by
  refine CM.intro (own := RX6) (by decide) rfl (fun _ => Nat.le_of_ble_eq_true rfl) ?_
  intro D dT bs p l e s m args below meth c C
  show V D dT bs 4 p l e rm_xd_readTest s m args below meth c 0 0 _ h S 0 [(0, zP bs 148), (1, zP bs a1)] []
  unfold xd_readTest at hf
  refine r_aload_n (pc' := 1) (f4 := 0) (i := 0) C 0 rfl rfl dX6_readTest_0 rfl ?_
  obtain ⟨ta1, hEta1, hrta1⟩ := zx_str C (by decide) sl_RX6_77.2.1 sl_RX6_77.2.2.1 sl_RX6_77.2.2.2.1 sl_RX6_77.2.2.2.2.1 sl_RX6_77.2.2.2.2.2.1 sl_RX6_77.2.2.2.2.2.2
  refine r_oldcS (pc' := 3) C hrta1 dX6_readTest_1 rfl ?_
  obtain ⟨q2, hq2, hf⟩ := bind_in hf
  refine q_callVE (pc' := 6) C StrE_old (t_xd_takeOneOf hF (by decide) (by decide) hq2) rfl hEta1 (K_148 hF) cl_6 wv_RX6_79 ⟨Nat.le_of_ble_eq_true rfl, Nat.le_of_ble_eq_true rfl⟩ rfl rfl (Nat.le_of_ble_eq_true rfl) dX6_readTest_3 rfl ⟨Nat.le_of_ble_eq_true rfl, Nat.le_of_ble_eq_true rfl⟩ ?_
  refine r_istore_n (pc' := 7) (f4 := 2) (i := 2) (L' := [(2, zI q2.1), (0, zP bs 148), (1, zP bs a1)]) C rfl (by decide) rfl dX6_readTest_6 rfl ?_
  refine r_iload_n (pc' := 8) (f4 := 2) (i := 2) C 0 rfl rfl dX6_readTest_7 rfl ?_
  refine r_if_ge (pc' := 11) (tgt := 15) C rfl hf dX6_readTest_8 (by decide) rfl (fun hf => ?_) (fun hf => ?_)
  · refine r_iconst (pc' := 12) C dX6_readTest_11 rfl ?_
    refine r_goto (tgt := 21) C dX6_readTest_12 (by decide) ?_
    refine r_istore_n (pc' := 22) (f4 := 3) (i := 3) (L' := [(3, zI (-1)), (2, zI q2.1), (0, zP bs 148), (1, zP bs a1)]) C rfl (by decide) rfl dX6_readTest_21 rfl ?_
    refine r_iload_n (pc' := 23) (f4 := 3) (i := 3) C 0 rfl rfl dX6_readTest_22 rfl ?_
    refine r_if_lt (pc' := 26) (tgt := 33) C ww_m1 hf dX6_readTest_23 (by decide) rfl (fun hf => ?_) (fun hf => ?_)
    · refine r_iconst (pc' := 34) C dX6_readTest_33 rfl ?_
      cases hf
      exact r_zret C (Or.inl rfl) dX6_readTest_34
    · refine r_aload_n (pc' := 27) (f4 := 0) (i := 0) C 2 rfl rfl dX6_readTest_26 rfl ?_
      obtain ⟨q3, hq3, hf⟩ := bind_in hf
      refine q_callV (pc' := 30) C (t_xd_readNumber hF hq3) rfl (K_148 hF) cl_6 wv_RX6_49 ⟨Nat.le_of_ble_eq_true rfl, Nat.le_of_ble_eq_true rfl⟩ rfl rfl (Nat.le_of_ble_eq_true rfl) dX6_readTest_27 rfl ⟨Nat.le_of_ble_eq_true rfl, Nat.le_of_ble_eq_true rfl⟩ ?_
      refine r_if_ne (pc' := 33) (tgt := 35) C rfl hf dX6_readTest_30 (by decide) rfl (fun hf => ?_) (fun hf => ?_)
      · refine r_iconst (pc' := 34) C dX6_readTest_33 rfl ?_
        cases hf
        exact r_zret C (Or.inl rfl) dX6_readTest_34
      · refine r_aload_n (pc' := 36) (f4 := 1) (i := 1) C 3 rfl rfl dX6_readTest_35 rfl ?_
        refine r_iload_n (pc' := 37) (f4 := 2) (i := 2) C 1 rfl rfl dX6_readTest_36 rfl ?_
        refine r_iload_n (pc' := 38) (f4 := 3) (i := 3) C 0 rfl rfl dX6_readTest_37 rfl ?_
        refine q_callS (pc' := 41) C (t_xo_testStep hF) rfl ws_RX6_85 ⟨Nat.le_of_ble_eq_true rfl, Nat.le_of_ble_eq_true rfl⟩ rfl rfl (Nat.le_of_ble_eq_true rfl) dX6_readTest_38 rfl ⟨Nat.le_of_ble_eq_true rfl, Nat.le_of_ble_eq_true rfl⟩ ?_
        refine r_aload_n (pc' := 42) (f4 := 0) (i := 0) C 2 rfl rfl dX6_readTest_41 rfl ?_
        refine q_getI (pc' := 45) (j := 3) C (K_148 hF) fb_6_3 wd_243 (Or.inl rfl) dX6_readTest_42 rfl ?_
        obtain ⟨q4, hq4, hf⟩ := bind_in hf
        refine q_callVv (pc' := 48) C (t_xo_append hF ha1 hq4) rfl (KO hF ha1) cl_5 wv_RX6_67 ⟨Nat.le_of_ble_eq_true rfl, Nat.le_of_ble_eq_true rfl⟩ rfl rfl (Nat.le_of_ble_eq_true rfl) dX6_readTest_45 rfl ⟨Nat.le_of_ble_eq_true rfl, Nat.le_of_ble_eq_true rfl⟩ ?_
        refine r_iconst (pc' := 49) C dX6_readTest_48 rfl ?_
        cases hf
        exact r_zret C (Or.inr rfl) dX6_readTest_49
  · refine r_aload_n (pc' := 16) (f4 := 0) (i := 0) C 1 rfl rfl dX6_readTest_15 rfl ?_
    obtain ⟨ta5, hEta5, hrta5⟩ := zx_str C (by decide) sl_RX6_83.2.1 sl_RX6_83.2.2.1 sl_RX6_83.2.2.2.1 sl_RX6_83.2.2.2.2.1 sl_RX6_83.2.2.2.2.2.1 sl_RX6_83.2.2.2.2.2.2
    refine r_oldcS (pc' := 18) C hrta5 dX6_readTest_16 rfl ?_
    obtain ⟨q6, hq6, hf⟩ := bind_in hf
    refine q_callVE (pc' := 21) C StrE_old (t_xd_takeOneOf hF (by decide) (by decide) hq6) rfl hEta5 (K_148 hF) cl_6 wv_RX6_79 ⟨Nat.le_of_ble_eq_true rfl, Nat.le_of_ble_eq_true rfl⟩ rfl rfl (Nat.le_of_ble_eq_true rfl) dX6_readTest_18 rfl ⟨Nat.le_of_ble_eq_true rfl, Nat.le_of_ble_eq_true rfl⟩ ?_
    refine r_istore_n (pc' := 22) (f4 := 3) (i := 3) (L' := [(3, zI q6.1), (2, zI q2.1), (0, zP bs 148), (1, zP bs a1)]) C rfl (by decide) rfl dX6_readTest_21 rfl ?_
    refine r_iload_n (pc' := 23) (f4 := 3) (i := 3) C 0 rfl rfl dX6_readTest_22 rfl ?_
    refine r_if_lt (pc' := 26) (tgt := 33) C rfl hf dX6_readTest_23 (by decide) rfl (fun hf => ?_) (fun hf => ?_)
    · refine r_iconst (pc' := 34) C dX6_readTest_33 rfl ?_
      cases hf
      exact r_zret C (Or.inl rfl) dX6_readTest_34
    · refine r_aload_n (pc' := 27) (f4 := 0) (i := 0) C 2 rfl rfl dX6_readTest_26 rfl ?_
      obtain ⟨q7, hq7, hf⟩ := bind_in hf
      refine q_callV (pc' := 30) C (t_xd_readNumber hF hq7) rfl (K_148 hF) cl_6 wv_RX6_49 ⟨Nat.le_of_ble_eq_true rfl, Nat.le_of_ble_eq_true rfl⟩ rfl rfl (Nat.le_of_ble_eq_true rfl) dX6_readTest_27 rfl ⟨Nat.le_of_ble_eq_true rfl, Nat.le_of_ble_eq_true rfl⟩ ?_
      refine r_if_ne (pc' := 33) (tgt := 35) C rfl hf dX6_readTest_30 (by decide) rfl (fun hf => ?_) (fun hf => ?_)
      · refine r_iconst (pc' := 34) C dX6_readTest_33 rfl ?_
        cases hf
        exact r_zret C (Or.inl rfl) dX6_readTest_34
      · refine r_aload_n (pc' := 36) (f4 := 1) (i := 1) C 3 rfl rfl dX6_readTest_35 rfl ?_
        refine r_iload_n (pc' := 37) (f4 := 2) (i := 2) C 1 rfl rfl dX6_readTest_36 rfl ?_
        refine r_iload_n (pc' := 38) (f4 := 3) (i := 3) C 0 rfl rfl dX6_readTest_37 rfl ?_
        refine q_callS (pc' := 41) C (t_xo_testStep hF) rfl ws_RX6_85 ⟨Nat.le_of_ble_eq_true rfl, Nat.le_of_ble_eq_true rfl⟩ rfl rfl (Nat.le_of_ble_eq_true rfl) dX6_readTest_38 rfl ⟨Nat.le_of_ble_eq_true rfl, Nat.le_of_ble_eq_true rfl⟩ ?_
        refine r_aload_n (pc' := 42) (f4 := 0) (i := 0) C 2 rfl rfl dX6_readTest_41 rfl ?_
        refine q_getI (pc' := 45) (j := 3) C (K_148 hF) fb_6_3 wd_243 (Or.inl rfl) dX6_readTest_42 rfl ?_
        obtain ⟨q8, hq8, hf⟩ := bind_in hf
        refine q_callVv (pc' := 48) C (t_xo_append hF ha1 hq8) rfl (KO hF ha1) cl_5 wv_RX6_67 ⟨Nat.le_of_ble_eq_true rfl, Nat.le_of_ble_eq_true rfl⟩ rfl rfl (Nat.le_of_ble_eq_true rfl) dX6_readTest_45 rfl ⟨Nat.le_of_ble_eq_true rfl, Nat.le_of_ble_eq_true rfl⟩ ?_
        refine r_iconst (pc' := 49) C dX6_readTest_48 rfl ?_
        cases hf
        exact r_zret C (Or.inr rfl) dX6_readTest_49

/- WassailEnemies$Reader.readAny(LWassailEnemies$Orchard;I)Z -/
def xd_readAny_L24 (ro : HH → Int → Int → Option (Int × HH)) (x1 : Int) (x2 : Int) (x3 : Int) (k74 : HH → Option (Int × HH)) : Nat → HH → Int → Option (Int × HH)
  | 0, _, _ => none
  | n24 + 1, h, x4 =>
    if ww x4 < 100 then (if ww x4 = 0 then ((ro h x1 x2).bind fun q1 => if ww q1.1 = 0 then (some (0, q1.2)) else (if 0 < ww x4 then ((xo_append q1.2 x1 (-2) 0).bind fun q2 => xd_readAny_L24 ro x1 x2 x3 k74 n24 q2 (x4 + 1)) else (xd_readAny_L24 ro x1 x2 x3 k74 n24 q1.2 (x4 + 1)))) else ((xd_take h 38).bind fun q3 => if ww q3.1 = 0 then (k74 q3.2) else ((ro q3.2 x1 x2).bind fun q4 => if ww q4.1 = 0 then (some (0, q4.2)) else (if 0 < ww x4 then ((xo_append q4.2 x1 (-2) 0).bind fun q5 => xd_readAny_L24 ro x1 x2 x3 k74 n24 q5 (x4 + 1)) else (xd_readAny_L24 ro x1 x2 x3 k74 n24 q4.2 (x4 + 1)))))) else (k74 h)
def xd_readAny_L2 (ro : HH → Int → Int → Option (Int × HH)) (x1 : Int) (x2 : Int) : Nat → HH → Int → Option (Int × HH)
  | 0, _, _ => none
  | n2 + 1, h, x3 =>
    if ww x3 < 100 then (if ww x3 = 0 then (xd_readAny_L24 ro x1 x2 x3 (fun h6 => if 0 < ww x3 then ((xo_append h6 x1 (-3) 0).bind fun q7 => xd_readAny_L2 ro x1 x2 n2 q7 (x3 + 1)) else (xd_readAny_L2 ro x1 x2 n2 h6 (x3 + 1))) FU h 0) else ((xd_take h 124).bind fun q8 => if ww q8.1 = 0 then (some (1, q8.2)) else (xd_readAny_L24 ro x1 x2 x3 (fun h9 => if 0 < ww x3 then ((xo_append h9 x1 (-3) 0).bind fun q10 => xd_readAny_L2 ro x1 x2 n2 q10 (x3 + 1)) else (xd_readAny_L2 ro x1 x2 n2 h9 (x3 + 1))) FU q8.2 0))) else (some (1, h))
def xd_readAny (ro : HH → Int → Int → Option (Int × HH)) (h : HH) (a1 : Int) (a2 : Int) : Option (Int × HH) :=
  xd_readAny_L2 ro a1 a2 FU h 0
abbrev rm_xd_readAny (fr lo : Nat) : Room := { frames := fr + 2, cells := 0, slots := 0, locals := lo + 122 }
set_option maxHeartbeats 4000000 in
set_option maxRecDepth 100000 in
theorem w_xd_readAny_L24 (hF : Fx S) (C : Cx D dT bs RX6 cX6_readAny 5 (some Jvm.ClassFile.FieldType.boolean) p s m args meth c) {ro : HH → Int → Int → Option (Int × HH)} {fr lo : Nat} (t_ro : ∀ {S : SS} (hF : Fx S) {h : HH} {a1 : Int} (ha1 : isO a1) {a2 : Int} {res : Int × HH} (hf : ro h a1 a2 = some res), CM yX6_readOne cX6_readOne 3 (some Jvm.ClassFile.FieldType.boolean) fr lo 0 0 (fun bs => [zP bs 148, zP bs a1, zI a2]) h S (fun _ => some (zI res.1)) res.2 S) (x1 : Int) (hx1 : isO x1) (x2 : Int) (x3 : Int) (k74 : HH → Option (Int × HH)) {res : (Int × HH)} (hk74 : ∀ (h : HH), k74 h = some res → V D dT bs 5 p l e (rm_xd_readAny fr lo) s m args below meth c 0 0 (MQ below (QQ D dT bs (some (zI res.1)) res.2 S) args s 0 0 (AA bs)) h S 74 [(0, zP bs 148), (1, zP bs x1), (2, zI x2), (3, zI x3)] []) :
    ∀ (n : Nat) (h : HH) (x4 : Int), xd_readAny_L24 ro x1 x2 x3 k74 n h x4 = some res → V D dT bs 5 p l e (rm_xd_readAny fr lo) s m args below meth c 0 0 (MQ below (QQ D dT bs (some (zI res.1)) res.2 S) args s 0 0 (AA bs)) h S 24 [(0, zP bs 148), (1, zP bs x1), (2, zI x2), (3, zI x3), (4, zI x4)] [] := by
  intro n
  induction n with
  | zero => intro h x4 hf; simp [xd_readAny_L24] at hf
  | succ n24 ih24 =>
    intro h x4 hf
    rw [xd_readAny_L24] at hf
    refine r_iload (pc' := 26) (i := 4) C 4 rfl dX6_readAny_24 rfl ?_
    refine r_bipush (pc' := 28) C rfl dX6_readAny_26 rfl ?_
    refine r_icmp_ge (pc' := 31) (tgt := 74) C rfl ww_n100 hf dX6_readAny_28 (by decide) rfl (fun hf => ?_) (fun hf => ?_)
    · refine r_iload (pc' := 33) (i := 4) C 4 rfl dX6_readAny_31 rfl ?_
      refine r_if_eq (pc' := 36) (tgt := 45) C rfl hf dX6_readAny_33 (by decide) rfl (fun hf => ?_) (fun hf => ?_)
      · refine r_aload_n (pc' := 46) (f4 := 0) (i := 0) C 0 rfl rfl dX6_readAny_45 rfl ?_
        refine r_aload_n (pc' := 47) (f4 := 1) (i := 1) C 1 rfl rfl dX6_readAny_46 rfl ?_
        refine r_iload_n (pc' := 48) (f4 := 2) (i := 2) C 2 rfl rfl dX6_readAny_47 rfl ?_
        obtain ⟨q1, hq1, hf⟩ := bind_in hf
        refine q_callV (pc' := 51) C (t_ro hF hx1 hq1) rfl (K_148 hF) cl_6 wv_RX6_71 ⟨by show (_ : Nat) ≤ fr + 2; omega, by show (_ : Nat) ≤ lo + 122; omega⟩ rfl rfl (Nat.le_of_ble_eq_true rfl) dX6_readAny_48 rfl ⟨Nat.le_of_ble_eq_true rfl, Nat.le_of_ble_eq_true rfl⟩ ?_
        refine r_if_ne (pc' := 54) (tgt := 56) C rfl hf dX6_readAny_51 (by decide) rfl (fun hf => ?_) (fun hf => ?_)
        · refine r_iconst (pc' := 55) C dX6_readAny_54 rfl ?_
          cases hf
          exact r_zret C (Or.inl rfl) dX6_readAny_55
        · refine r_iload (pc' := 58) (i := 4) C 4 rfl dX6_readAny_56 rfl ?_
          refine r_if_le (pc' := 61) (tgt := 68) C rfl hf dX6_readAny_58 (by decide) rfl (fun hf => ?_) (fun hf => ?_)
          · refine r_aload_n (pc' := 62) (f4 := 1) (i := 1) C 1 rfl rfl dX6_readAny_61 rfl ?_
            refine r_bipush (pc' := 64) C rfl dX6_readAny_62 rfl ?_
            refine r_iconst (pc' := 65) C dX6_readAny_64 rfl ?_
            obtain ⟨q2, hq2, hf⟩ := bind_in hf
            refine q_callVv (pc' := 68) C (t_xo_append hF hx1 hq2) rfl (KO hF hx1) cl_5 wv_RX6_67 ⟨by show (_ : Nat) ≤ fr + 2; omega, by show (_ : Nat) ≤ lo + 122; omega⟩ rfl rfl (Nat.le_of_ble_eq_true rfl) dX6_readAny_65 rfl ⟨Nat.le_of_ble_eq_true rfl, Nat.le_of_ble_eq_true rfl⟩ ?_
            refine r_iinc (pc' := 71) (i := 4) (L' := [(4, zI (x4 + 1)), (0, zP bs 148), (1, zP bs x1), (2, zI x2), (3, zI x3)]) C 4 rfl (by decide) rfl dX6_readAny_68 rfl ?_
            refine r_goto (tgt := 24) C dX6_readAny_71 (by decide) ?_
            refine V.sub (L' := [(0, zP bs 148), (1, zP bs x1), (2, zI x2), (3, zI x3), (4, zI (x4 + 1))]) [1, 2, 3, 4, 0] rfl ?_
            exact ih24 _ _ hf
          · refine r_iinc (pc' := 71) (i := 4) (L' := [(4, zI (x4 + 1)), (0, zP bs 148), (1, zP bs x1), (2, zI x2), (3, zI x3)]) C 4 rfl (by decide) rfl dX6_readAny_68 rfl ?_
            refine r_goto (tgt := 24) C dX6_readAny_71 (by decide) ?_
            refine V.sub (L' := [(0, zP bs 148), (1, zP bs x1), (2, zI x2), (3, zI x3), (4, zI (x4 + 1))]) [1, 2, 3, 4, 0] rfl ?_
            exact ih24 _ _ hf
      · refine r_aload_n (pc' := 37) (f4 := 0) (i := 0) C 0 rfl rfl dX6_readAny_36 rfl ?_
        refine r_bipush (pc' := 39) C rfl dX6_readAny_37 rfl ?_
        obtain ⟨q3, hq3, hf⟩ := bind_in hf
        refine q_callV (pc' := 42) C (t_xd_take hF hq3) rfl (K_148 hF) cl_6 wv_RX6_27 ⟨by show (_ : Nat) ≤ fr + 2; omega, by show (_ : Nat) ≤ lo + 122; omega⟩ rfl rfl (Nat.le_of_ble_eq_true rfl) dX6_readAny_39 rfl ⟨Nat.le_of_ble_eq_true rfl, Nat.le_of_ble_eq_true rfl⟩ ?_
        refine r_if_eq (pc' := 45) (tgt := 74) C rfl hf dX6_readAny_42 (by decide) rfl (fun hf => ?_) (fun hf => ?_)
        · refine V.sub (L' := [(0, zP bs 148), (1, zP bs x1), (2, zI x2), (3, zI x3)]) [0, 1, 2, 3] rfl ?_
          exact hk74 _ hf
        · refine r_aload_n (pc' := 46) (f4 := 0) (i := 0) C 0 rfl rfl dX6_readAny_45 rfl ?_
          refine r_aload_n (pc' := 47) (f4 := 1) (i := 1) C 1 rfl rfl dX6_readAny_46 rfl ?_
          refine r_iload_n (pc' := 48) (f4 := 2) (i := 2) C 2 rfl rfl dX6_readAny_47 rfl ?_
          obtain ⟨q4, hq4, hf⟩ := bind_in hf
          refine q_callV (pc' := 51) C (t_ro hF hx1 hq4) rfl (K_148 hF) cl_6 wv_RX6_71 ⟨by show (_ : Nat) ≤ fr + 2; omega, by show (_ : Nat) ≤ lo + 122; omega⟩ rfl rfl (Nat.le_of_ble_eq_true rfl) dX6_readAny_48 rfl ⟨Nat.le_of_ble_eq_true rfl, Nat.le_of_ble_eq_true rfl⟩ ?_
          refine r_if_ne (pc' := 54) (tgt := 56) C rfl hf dX6_readAny_51 (by decide) rfl (fun hf => ?_) (fun hf => ?_)
          · refine r_iconst (pc' := 55) C dX6_readAny_54 rfl ?_
            cases hf
            exact r_zret C (Or.inl rfl) dX6_readAny_55
          · refine r_iload (pc' := 58) (i := 4) C 4 rfl dX6_readAny_56 rfl ?_
            refine r_if_le (pc' := 61) (tgt := 68) C rfl hf dX6_readAny_58 (by decide) rfl (fun hf => ?_) (fun hf => ?_)
            · refine r_aload_n (pc' := 62) (f4 := 1) (i := 1) C 1 rfl rfl dX6_readAny_61 rfl ?_
              refine r_bipush (pc' := 64) C rfl dX6_readAny_62 rfl ?_
              refine r_iconst (pc' := 65) C dX6_readAny_64 rfl ?_
              obtain ⟨q5, hq5, hf⟩ := bind_in hf
              refine q_callVv (pc' := 68) C (t_xo_append hF hx1 hq5) rfl (KO hF hx1) cl_5 wv_RX6_67 ⟨by show (_ : Nat) ≤ fr + 2; omega, by show (_ : Nat) ≤ lo + 122; omega⟩ rfl rfl (Nat.le_of_ble_eq_true rfl) dX6_readAny_65 rfl ⟨Nat.le_of_ble_eq_true rfl, Nat.le_of_ble_eq_true rfl⟩ ?_
              refine r_iinc (pc' := 71) (i := 4) (L' := [(4, zI (x4 + 1)), (0, zP bs 148), (1, zP bs x1), (2, zI x2), (3, zI x3)]) C 4 rfl (by decide) rfl dX6_readAny_68 rfl ?_
              refine r_goto (tgt := 24) C dX6_readAny_71 (by decide) ?_
              refine V.sub (L' := [(0, zP bs 148), (1, zP bs x1), (2, zI x2), (3, zI x3), (4, zI (x4 + 1))]) [1, 2, 3, 4, 0] rfl ?_
              exact ih24 _ _ hf
            · refine r_iinc (pc' := 71) (i := 4) (L' := [(4, zI (x4 + 1)), (0, zP bs 148), (1, zP bs x1), (2, zI x2), (3, zI x3)]) C 4 rfl (by decide) rfl dX6_readAny_68 rfl ?_
              refine r_goto (tgt := 24) C dX6_readAny_71 (by decide) ?_
              refine V.sub (L' := [(0, zP bs 148), (1, zP bs x1), (2, zI x2), (3, zI x3), (4, zI (x4 + 1))]) [1, 2, 3, 4, 0] rfl ?_
              exact ih24 _ _ hf
    · refine V.sub (L' := [(0, zP bs 148), (1, zP bs x1), (2, zI x2), (3, zI x3)]) [0, 1, 2, 3] rfl ?_
      exact hk74 _ hf
set_option maxHeartbeats 4000000 in
set_option maxRecDepth 100000 in
theorem w_xd_readAny_L2 (hF : Fx S) (C : Cx D dT bs RX6 cX6_readAny 5 (some Jvm.ClassFile.FieldType.boolean) p s m args meth c) {ro : HH → Int → Int → Option (Int × HH)} {fr lo : Nat} (t_ro : ∀ {S : SS} (hF : Fx S) {h : HH} {a1 : Int} (ha1 : isO a1) {a2 : Int} {res : Int × HH} (hf : ro h a1 a2 = some res), CM yX6_readOne cX6_readOne 3 (some Jvm.ClassFile.FieldType.boolean) fr lo 0 0 (fun bs => [zP bs 148, zP bs a1, zI a2]) h S (fun _ => some (zI res.1)) res.2 S) (x1 : Int) (hx1 : isO x1) (x2 : Int) {res : (Int × HH)} :
    ∀ (n : Nat) (h : HH) (x3 : Int), xd_readAny_L2 ro x1 x2 n h x3 = some res → V D dT bs 5 p l e (rm_xd_readAny fr lo) s m args below meth c 0 0 (MQ below (QQ D dT bs (some (zI res.1)) res.2 S) args s 0 0 (AA bs)) h S 2 [(0, zP bs 148), (1, zP bs x1), (2, zI x2), (3, zI x3)] [] := by
  intro n
  induction n with
  | zero => intro h x3 hf; simp [xd_readAny_L2] at hf
  | succ n2 ih2 =>
    intro h x3 hf
    rw [xd_readAny_L2] at hf
    refine r_iload_n (pc' := 3) (f4 := 3) (i := 3) C 3 rfl rfl dX6_readAny_2 rfl ?_
    refine r_bipush (pc' := 5) C rfl dX6_readAny_3 rfl ?_
    refine r_icmp_ge (pc' := 8) (tgt := 91) C rfl ww_n100 hf dX6_readAny_5 (by decide) rfl (fun hf => ?_) (fun hf => ?_)
    · refine r_iload_n (pc' := 9) (f4 := 3) (i := 3) C 3 rfl rfl dX6_readAny_8 rfl ?_
      refine r_if_eq (pc' := 12) (tgt := 21) C rfl hf dX6_readAny_9 (by decide) rfl (fun hf => ?_) (fun hf => ?_)
      · refine r_iconst (pc' := 22) C dX6_readAny_21 rfl ?_
        refine r_istore (pc' := 24) (i := 4) (L' := [(4, zI 0), (0, zP bs 148), (1, zP bs x1), (2, zI x2), (3, zI x3)]) C (by decide) rfl dX6_readAny_22 rfl ?_
        refine V.sub (L' := [(0, zP bs 148), (1, zP bs x1), (2, zI x2), (3, zI x3), (4, zI 0)]) [1, 2, 3, 4, 0] rfl ?_
        refine w_xd_readAny_L24 hF C t_ro _ hx1 _ _ _ ?_ _ _ _ hf
        intro h6 hf
        refine r_iload_n (pc' := 75) (f4 := 3) (i := 3) C 3 rfl rfl dX6_readAny_74 rfl ?_
        refine r_if_le (pc' := 78) (tgt := 85) C rfl hf dX6_readAny_75 (by decide) rfl (fun hf => ?_) (fun hf => ?_)
        · refine r_aload_n (pc' := 79) (f4 := 1) (i := 1) C 1 rfl rfl dX6_readAny_78 rfl ?_
          refine r_bipush (pc' := 81) C rfl dX6_readAny_79 rfl ?_
          refine r_iconst (pc' := 82) C dX6_readAny_81 rfl ?_
          obtain ⟨q7, hq7, hf⟩ := bind_in hf
          refine q_callVv (pc' := 85) C (t_xo_append hF hx1 hq7) rfl (KO hF hx1) cl_5 wv_RX6_67 ⟨by show (_ : Nat) ≤ fr + 2; omega, by show (_ : Nat) ≤ lo + 122; omega⟩ rfl rfl (Nat.le_of_ble_eq_true rfl) dX6_readAny_82 rfl ⟨Nat.le_of_ble_eq_true rfl, Nat.le_of_ble_eq_true rfl⟩ ?_
          refine r_iinc (pc' := 88) (i := 3) (L' := [(3, zI (x3 + 1)), (0, zP bs 148), (1, zP bs x1), (2, zI x2)]) C 3 rfl (by decide) rfl dX6_readAny_85 rfl ?_
          refine r_goto (tgt := 2) C dX6_readAny_88 (by decide) ?_
          refine V.sub (L' := [(0, zP bs 148), (1, zP bs x1), (2, zI x2), (3, zI (x3 + 1))]) [1, 2, 3, 0] rfl ?_
          exact ih2 _ _ hf
        · refine r_iinc (pc' := 88) (i := 3) (L' := [(3, zI (x3 + 1)), (0, zP bs 148), (1, zP bs x1), (2, zI x2)]) C 3 rfl (by decide) rfl dX6_readAny_85 rfl ?_
          refine r_goto (tgt := 2) C dX6_readAny_88 (by decide) ?_
          refine V.sub (L' := [(0, zP bs 148), (1, zP bs x1), (2, zI x2), (3, zI (x3 + 1))]) [1, 2, 3, 0] rfl ?_
          exact ih2 _ _ hf
      · refine r_aload_n (pc' := 13) (f4 := 0) (i := 0) C 0 rfl rfl dX6_readAny_12 rfl ?_
        refine r_bipush (pc' := 15) C rfl dX6_readAny_13 rfl ?_
        obtain ⟨q8, hq8, hf⟩ := bind_in hf
        refine q_callV (pc' := 18) C (t_xd_take hF hq8) rfl (K_148 hF) cl_6 wv_RX6_27 ⟨by show (_ : Nat) ≤ fr + 2; omega, by show (_ : Nat) ≤ lo + 122; omega⟩ rfl rfl (Nat.le_of_ble_eq_true rfl) dX6_readAny_15 rfl ⟨Nat.le_of_ble_eq_true rfl, Nat.le_of_ble_eq_true rfl⟩ ?_
        refine r_if_eq (pc' := 21) (tgt := 91) C rfl hf dX6_readAny_18 (by decide) rfl (fun hf => ?_) (fun hf => ?_)
        · refine r_iconst (pc' := 92) C dX6_readAny_91 rfl ?_
          cases hf
          exact r_zret C (Or.inr rfl) dX6_readAny_92
        · refine r_iconst (pc' := 22) C dX6_readAny_21 rfl ?_
          refine r_istore (pc' := 24) (i := 4) (L' := [(4, zI 0), (0, zP bs 148), (1, zP bs x1), (2, zI x2), (3, zI x3)]) C (by decide) rfl dX6_readAny_22 rfl ?_
          refine V.sub (L' := [(0, zP bs 148), (1, zP bs x1), (2, zI x2), (3, zI x3), (4, zI 0)]) [1, 2, 3, 4, 0] rfl ?_
          refine w_xd_readAny_L24 hF C t_ro _ hx1 _ _ _ ?_ _ _ _ hf
          intro h9 hf
          refine r_iload_n (pc' := 75) (f4 := 3) (i := 3) C 3 rfl rfl dX6_readAny_74 rfl ?_
          refine r_if_le (pc' := 78) (tgt := 85) C rfl hf dX6_readAny_75 (by decide) rfl (fun hf => ?_) (fun hf => ?_)
          · refine r_aload_n (pc' := 79) (f4 := 1) (i := 1) C 1 rfl rfl dX6_readAny_78 rfl ?_
            refine r_bipush (pc' := 81) C rfl dX6_readAny_79 rfl ?_
            refine r_iconst (pc' := 82) C dX6_readAny_81 rfl ?_
            obtain ⟨q10, hq10, hf⟩ := bind_in hf
            refine q_callVv (pc' := 85) C (t_xo_append hF hx1 hq10) rfl (KO hF hx1) cl_5 wv_RX6_67 ⟨by show (_ : Nat) ≤ fr + 2; omega, by show (_ : Nat) ≤ lo + 122; omega⟩ rfl rfl (Nat.le_of_ble_eq_true rfl) dX6_readAny_82 rfl ⟨Nat.le_of_ble_eq_true rfl, Nat.le_of_ble_eq_true rfl⟩ ?_
            refine r_iinc (pc' := 88) (i := 3) (L' := [(3, zI (x3 + 1)), (0, zP bs 148), (1, zP bs x1), (2, zI x2)]) C 3 rfl (by decide) rfl dX6_readAny_85 rfl ?_
            refine r_goto (tgt := 2) C dX6_readAny_88 (by decide) ?_
            refine V.sub (L' := [(0, zP bs 148), (1, zP bs x1), (2, zI x2), (3, zI (x3 + 1))]) [1, 2, 3, 0] rfl ?_
            exact ih2 _ _ hf
          · refine r_iinc (pc' := 88) (i := 3) (L' := [(3, zI (x3 + 1)), (0, zP bs 148), (1, zP bs x1), (2, zI x2)]) C 3 rfl (by decide) rfl dX6_readAny_85 rfl ?_
            refine r_goto (tgt := 2) C dX6_readAny_88 (by decide) ?_
            refine V.sub (L' := [(0, zP bs 148), (1, zP bs x1), (2, zI x2), (3, zI (x3 + 1))]) [1, 2, 3, 0] rfl ?_
            exact ih2 _ _ hf
    · refine r_iconst (pc' := 92) C dX6_readAny_91 rfl ?_
      cases hf
      exact r_zret C (Or.inr rfl) dX6_readAny_92
set_option maxHeartbeats 4000000 in
set_option maxRecDepth 100000 in
theorem t_xd_readAny {S : SS} (hF : Fx S) {h : HH} {ro : HH → Int → Int → Option (Int × HH)} {fr lo : Nat} (t_ro : ∀ {S : SS} (hF : Fx S) {h : HH} {a1 : Int} (ha1 : isO a1) {a2 : Int} {res : Int × HH} (hf : ro h a1 a2 = some res), CM yX6_readOne cX6_readOne 3 (some Jvm.ClassFile.FieldType.boolean) fr lo 0 0 (fun bs => [zP bs 148, zP bs a1, zI a2]) h S (fun _ => some (zI res.1)) res.2 S) {a1 : Int} (ha1 : isO a1) {a2 : Int} {res : Int × HH} (hf : xd_readAny ro h a1 a2 = some res) : CM yX6_readAny cX6_readAny 5 (some Jvm.ClassFile.FieldType.boolean) (fr + 2) (lo + 122) 0 0 (fun bs => [zP bs 148, zP bs a1, zI a2]) h S (fun _ => some (zI res.1)) res.2 S := by
  refine CM.intro (own := RX6) (by decide) rfl (fun _ => Nat.le_of_ble_eq_true rfl) ?_
  intro D dT bs p l e s m args below meth c C
  show V D dT bs 5 p l e (rm_xd_readAny fr lo) s m args below meth c 0 0 _ h S 0 [(0, zP bs 148), (1, zP bs a1), (2, zI a2)] []
  unfold xd_readAny at hf
  refine r_iconst (pc' := 1) C dX6_readAny_0 rfl ?_
  refine r_istore_n (pc' := 2) (f4 := 3) (i := 3) (L' := [(3, zI 0), (0, zP bs 148), (1, zP bs a1), (2, zI a2)]) C rfl (by decide) rfl dX6_readAny_1 rfl ?_
  refine V.sub (L' := [(0, zP bs 148), (1, zP bs a1), (2, zI a2), (3, zI 0)]) [1, 2, 3, 0] rfl ?_
  refine w_xd_readAny_L2 hF C t_ro _ ha1 _ _ _ _ hf

/- WassailEnemies$Reader.readOne(LWassailEnemies$Orchard;I)Z -/
def xd_readOneF (ro : HH → Int → Int → Option (Int × HH)) (h : HH) (a1 : Int) (a2 : Int) : Option (Int × HH) :=
  if ww a2 < 4 then ((xd_take h 33).bind fun q1 => if ww q1.1 = 0 then (if ww a2 < 4 then ((xd_take q1.2 40).bind fun q2 => if ww q2.1 = 0 then ((xd_readTest q2.2 a1).bind fun q3 => ckb q3.1 <| some (q3.1, q3.2)) else ((xd_readAny ro q2.2 a1 (a2 + 1)).bind fun q4 => if ww q4.1 = 0 then (some (0, q4.2)) else ((xd_take q4.2 41).bind fun q5 => if ww q5.1 = 0 then (some (0, q5.2)) else (some (1, q5.2))))) else ((xd_readTest q1.2 a1).bind fun q6 => ckb q6.1 <| some (q6.1, q6.2))) else ((ro q1.2 a1 (a2 + 1)).bind fun q7 => if ww q7.1 = 0 then (some (0, q7.2)) else ((xo_append q7.2 a1 (-1) 0).bind fun q8 => some (1, q8)))) else (if ww a2 < 4 then ((xd_take h 40).bind fun q9 => if ww q9.1 = 0 then ((xd_readTest q9.2 a1).bind fun q10 => ckb q10.1 <| some (q10.1, q10.2)) else ((xd_readAny ro q9.2 a1 (a2 + 1)).bind fun q11 => if ww q11.1 = 0 then (some (0, q11.2)) else ((xd_take q11.2 41).bind fun q12 => if ww q12.1 = 0 then (some (0, q12.2)) else (some (1, q12.2))))) else ((xd_readTest h a1).bind fun q13 => ckb q13.1 <| some (q13.1, q13.2)))
abbrev rm_xd_readOneF (fr lo : Nat) : Room := { frames := fr + 9, cells := 0, slots := 0, locals := lo + 346 }
set_option maxHeartbeats 4000000 in
set_option maxRecDepth 100000 in
theorem t_xd_readOneF {S : SS} (hF : Fx S) {h : HH} {ro : HH → Int → Int → Option (Int × HH)} {fr lo : Nat} (t_ro : ∀ {S : SS} (hF : Fx S) {h : HH} {a1 : Int} (ha1 : isO a1) {a2 : Int} {res : Int × HH} (hf : ro h a1 a2 = some res), CM yX6_readOne cX6_readOne 3 (some Jvm.ClassFile.FieldType.boolean) fr lo 0 0 (fun bs => [zP bs 148, zP bs a1, zI a2]) h S (fun _ => some (zI res.1)) res.2 S) {a1 : Int} (ha1 : isO a1) {a2 : Int} {res : Int × HH} (hf : xd_readOneF ro h a1 a2 = some res) : CM yX6_readOne cX6_readOne 3 (some Jvm.ClassFile.FieldType.boolean) (fr + 9) (lo + 346) 0 0 (fun bs => [zP bs 148, zP bs a1, zI a2]) h S (fun _ => some (zI res.1)) res.2 S := by
  refine CM.intro (own := RX6) (by decide) rfl (fun _ => Nat.le_of_ble_eq_true rfl) ?_
  intro D dT bs p l e s m args below meth c C
  show V D dT bs 3 p l e (rm_xd_readOneF fr lo) s m args below meth c 0 0 _ h S 0 [(0, zP bs 148), (1, zP bs a1), (2, zI a2)] []
  unfold xd_readOneF at hf
  refine r_iload_n (pc' := 1) (f4 := 2) (i := 2) C 2 rfl rfl dX6_readOne_0 rfl ?_
  refine r_iconst (pc' := 2) C dX6_readOne_1 rfl ?_
  refine r_icmp_ge (pc' := 5) (tgt := 35) C rfl ww_n4 hf dX6_readOne_2 (by decide) rfl (fun hf => ?_) (fun hf => ?_)
  · refine r_aload_n (pc' := 6) (f4 := 0) (i := 0) C 0 rfl rfl dX6_readOne_5 rfl ?_
    refine r_bipush (pc' := 8) C rfl dX6_readOne_6 rfl ?_
    obtain ⟨q1, hq1, hf⟩ := bind_in hf
    refine q_callV (pc' := 11) C (t_xd_take hF hq1) rfl (K_148 hF) cl_6 wv_RX6_27 ⟨by show (_ : Nat) ≤ fr + 9; omega, by show (_ : Nat) ≤ lo + 346; omega⟩ rfl rfl (Nat.le_of_ble_eq_true rfl) dX6_readOne_8 rfl ⟨Nat.le_of_ble_eq_true rfl, Nat.le_of_ble_eq_true rfl⟩ ?_
    refine r_if_eq (pc' := 14) (tgt := 35) C rfl hf dX6_readOne_11 (by decide) rfl (fun hf => ?_) (fun hf => ?_)
    · refine r_iload_n (pc' := 36) (f4 := 2) (i := 2) C 2 rfl rfl dX6_readOne_35 rfl ?_
      refine r_iconst (pc' := 37) C dX6_readOne_36 rfl ?_
      refine r_icmp_ge (pc' := 40) (tgt := 75) C rfl ww_n4 hf dX6_readOne_37 (by decide) rfl (fun hf => ?_) (fun hf => ?_)
      · refine r_aload_n (pc' := 41) (f4 := 0) (i := 0) C 0 rfl rfl dX6_readOne_40 rfl ?_
        refine r_bipush (pc' := 43) C rfl dX6_readOne_41 rfl ?_
        obtain ⟨q2, hq2, hf⟩ := bind_in hf
        refine q_callV (pc' := 46) C (t_xd_take hF hq2) rfl (K_148 hF) cl_6 wv_RX6_27 ⟨by show (_ : Nat) ≤ fr + 9; omega, by show (_ : Nat) ≤ lo + 346; omega⟩ rfl rfl (Nat.le_of_ble_eq_true rfl) dX6_readOne_43 rfl ⟨Nat.le_of_ble_eq_true rfl, Nat.le_of_ble_eq_true rfl⟩ ?_
        refine r_if_eq (pc' := 49) (tgt := 75) C rfl hf dX6_readOne_46 (by decide) rfl (fun hf => ?_) (fun hf => ?_)
        · refine r_aload_n (pc' := 76) (f4 := 0) (i := 0) C 0 rfl rfl dX6_readOne_75 rfl ?_
          refine r_aload_n (pc' := 77) (f4 := 1) (i := 1) C 1 rfl rfl dX6_readOne_76 rfl ?_
          obtain ⟨q3, hq3, hf⟩ := bind_in hf
          refine q_callV (pc' := 80) C (t_xd_readTest hF ha1 hq3) rfl (K_148 hF) cl_6 wv_RX6_74 ⟨by show (_ : Nat) ≤ fr + 9; omega, by show (_ : Nat) ≤ lo + 346; omega⟩ rfl rfl (Nat.le_of_ble_eq_true rfl) dX6_readOne_77 rfl ⟨Nat.le_of_ble_eq_true rfl, Nat.le_of_ble_eq_true rfl⟩ ?_
          obtain ⟨hz, hf⟩ := ckb_in hf
          cases hf
          exact r_zret C hz dX6_readOne_80
        · refine r_aload_n (pc' := 50) (f4 := 0) (i := 0) C 0 rfl rfl dX6_readOne_49 rfl ?_
          refine r_aload_n (pc' := 51) (f4 := 1) (i := 1) C 1 rfl rfl dX6_readOne_50 rfl ?_
          refine r_iload_n (pc' := 52) (f4 := 2) (i := 2) C 2 rfl rfl dX6_readOne_51 rfl ?_
          refine r_iconst (pc' := 53) C dX6_readOne_52 rfl ?_
          refine r_iadd (pc' := 54) C dX6_readOne_53 rfl ?_
          obtain ⟨q4, hq4, hf⟩ := bind_in hf
          refine q_callV (pc' := 57) C (t_xd_readAny hF t_ro ha1 hq4) rfl (K_148 hF) cl_6 wv_RX6_64 ⟨by show (_ : Nat) ≤ fr + 9; omega, by show (_ : Nat) ≤ lo + 346; omega⟩ rfl rfl (Nat.le_of_ble_eq_true rfl) dX6_readOne_54 rfl ⟨Nat.le_of_ble_eq_true rfl, Nat.le_of_ble_eq_true rfl⟩ ?_
          refine r_if_eq (pc' := 60) (tgt := 73) C rfl hf dX6_readOne_57 (by decide) rfl (fun hf => ?_) (fun hf => ?_)
          · refine r_iconst (pc' := 74) C dX6_readOne_73 rfl ?_
            cases hf
            exact r_zret C (Or.inl rfl) dX6_readOne_74
          · refine r_aload_n (pc' := 61) (f4 := 0) (i := 0) C 0 rfl rfl dX6_readOne_60 rfl ?_
            refine r_bipush (pc' := 63) C rfl dX6_readOne_61 rfl ?_
            obtain ⟨q5, hq5, hf⟩ := bind_in hf
            refine q_callV (pc' := 66) C (t_xd_take hF hq5) rfl (K_148 hF) cl_6 wv_RX6_27 ⟨by show (_ : Nat) ≤ fr + 9; omega, by show (_ : Nat) ≤ lo + 346; omega⟩ rfl rfl (Nat.le_of_ble_eq_true rfl) dX6_readOne_63 rfl ⟨Nat.le_of_ble_eq_true rfl, Nat.le_of_ble_eq_true rfl⟩ ?_
            refine r_if_eq (pc' := 69) (tgt := 73) C rfl hf dX6_readOne_66 (by decide) rfl (fun hf => ?_) (fun hf => ?_)
            · refine r_iconst (pc' := 74) C dX6_readOne_73 rfl ?_
              cases hf
              exact r_zret C (Or.inl rfl) dX6_readOne_74
            · refine r_iconst (pc' := 70) C dX6_readOne_69 rfl ?_
              refine r_goto (tgt := 74) C dX6_readOne_70 (by decide) ?_
              cases hf
              exact r_zret C (Or.inr rfl) dX6_readOne_74
      · refine r_aload_n (pc' := 76) (f4 := 0) (i := 0) C 0 rfl rfl dX6_readOne_75 rfl ?_
        refine r_aload_n (pc' := 77) (f4 := 1) (i := 1) C 1 rfl rfl dX6_readOne_76 rfl ?_
        obtain ⟨q6, hq6, hf⟩ := bind_in hf
        refine q_callV (pc' := 80) C (t_xd_readTest hF ha1 hq6) rfl (K_148 hF) cl_6 wv_RX6_74 ⟨by show (_ : Nat) ≤ fr + 9; omega, by show (_ : Nat) ≤ lo + 346; omega⟩ rfl rfl (Nat.le_of_ble_eq_true rfl) dX6_readOne_77 rfl ⟨Nat.le_of_ble_eq_true rfl, Nat.le_of_ble_eq_true rfl⟩ ?_
        obtain ⟨hz, hf⟩ := ckb_in hf
        cases hf
        exact r_zret C hz dX6_readOne_80
    · refine r_aload_n (pc' := 15) (f4 := 0) (i := 0) C 0 rfl rfl dX6_readOne_14 rfl ?_
      refine r_aload_n (pc' := 16) (f4 := 1) (i := 1) C 1 rfl rfl dX6_readOne_15 rfl ?_
      refine r_iload_n (pc' := 17) (f4 := 2) (i := 2) C 2 rfl rfl dX6_readOne_16 rfl ?_
      refine r_iconst (pc' := 18) C dX6_readOne_17 rfl ?_
      refine r_iadd (pc' := 19) C dX6_readOne_18 rfl ?_
      obtain ⟨q7, hq7, hf⟩ := bind_in hf
      refine q_callV (pc' := 22) C (t_ro hF ha1 hq7) rfl (K_148 hF) cl_6 wv_RX6_71 ⟨by show (_ : Nat) ≤ fr + 9; omega, by show (_ : Nat) ≤ lo + 346; omega⟩ rfl rfl (Nat.le_of_ble_eq_true rfl) dX6_readOne_19 rfl ⟨Nat.le_of_ble_eq_true rfl, Nat.le_of_ble_eq_true rfl⟩ ?_
      refine r_if_ne (pc' := 25) (tgt := 27) C rfl hf dX6_readOne_22 (by decide) rfl (fun hf => ?_) (fun hf => ?_)
      · refine r_iconst (pc' := 26) C dX6_readOne_25 rfl ?_
        cases hf
        exact r_zret C (Or.inl rfl) dX6_readOne_26
      · refine r_aload_n (pc' := 28) (f4 := 1) (i := 1) C 1 rfl rfl dX6_readOne_27 rfl ?_
        refine r_iconst (pc' := 29) C dX6_readOne_28 rfl ?_
        refine r_iconst (pc' := 30) C dX6_readOne_29 rfl ?_
        obtain ⟨q8, hq8, hf⟩ := bind_in hf
        refine q_callVv (pc' := 33) C (t_xo_append hF ha1 hq8) rfl (KO hF ha1) cl_5 wv_RX6_67 ⟨by show (_ : Nat) ≤ fr + 9; omega, by show (_ : Nat) ≤ lo + 346; omega⟩ rfl rfl (Nat.le_of_ble_eq_true rfl) dX6_readOne_30 rfl ⟨Nat.le_of_ble_eq_true rfl, Nat.le_of_ble_eq_true rfl⟩ ?_
        refine r_iconst (pc' := 34) C dX6_readOne_33 rfl ?_
        cases hf
        exact r_zret C (Or.inr rfl) dX6_readOne_34
  · refine r_iload_n (pc' := 36) (f4 := 2) (i := 2) C 2 rfl rfl dX6_readOne_35 rfl ?_
    refine r_iconst (pc' := 37) C dX6_readOne_36 rfl ?_
    refine r_icmp_ge (pc' := 40) (tgt := 75) C rfl ww_n4 hf dX6_readOne_37 (by decide) rfl (fun hf => ?_) (fun hf => ?_)
    · refine r_aload_n (pc' := 41) (f4 := 0) (i := 0) C 0 rfl rfl dX6_readOne_40 rfl ?_
      refine r_bipush (pc' := 43) C rfl dX6_readOne_41 rfl ?_
      obtain ⟨q9, hq9, hf⟩ := bind_in hf
      refine q_callV (pc' := 46) C (t_xd_take hF hq9) rfl (K_148 hF) cl_6 wv_RX6_27 ⟨by show (_ : Nat) ≤ fr + 9; omega, by show (_ : Nat) ≤ lo + 346; omega⟩ rfl rfl (Nat.le_of_ble_eq_true rfl) dX6_readOne_43 rfl ⟨Nat.le_of_ble_eq_true rfl, Nat.le_of_ble_eq_true rfl⟩ ?_
      refine r_if_eq (pc' := 49) (tgt := 75) C rfl hf dX6_readOne_46 (by decide) rfl (fun hf => ?_) (fun hf => ?_)
      · refine r_aload_n (pc' := 76) (f4 := 0) (i := 0) C 0 rfl rfl dX6_readOne_75 rfl ?_
        refine r_aload_n (pc' := 77) (f4 := 1) (i := 1) C 1 rfl rfl dX6_readOne_76 rfl ?_
        obtain ⟨q10, hq10, hf⟩ := bind_in hf
        refine q_callV (pc' := 80) C (t_xd_readTest hF ha1 hq10) rfl (K_148 hF) cl_6 wv_RX6_74 ⟨by show (_ : Nat) ≤ fr + 9; omega, by show (_ : Nat) ≤ lo + 346; omega⟩ rfl rfl (Nat.le_of_ble_eq_true rfl) dX6_readOne_77 rfl ⟨Nat.le_of_ble_eq_true rfl, Nat.le_of_ble_eq_true rfl⟩ ?_
        obtain ⟨hz, hf⟩ := ckb_in hf
        cases hf
        exact r_zret C hz dX6_readOne_80
      · refine r_aload_n (pc' := 50) (f4 := 0) (i := 0) C 0 rfl rfl dX6_readOne_49 rfl ?_
        refine r_aload_n (pc' := 51) (f4 := 1) (i := 1) C 1 rfl rfl dX6_readOne_50 rfl ?_
        refine r_iload_n (pc' := 52) (f4 := 2) (i := 2) C 2 rfl rfl dX6_readOne_51 rfl ?_
        refine r_iconst (pc' := 53) C dX6_readOne_52 rfl ?_
        refine r_iadd (pc' := 54) C dX6_readOne_53 rfl ?_
        obtain ⟨q11, hq11, hf⟩ := bind_in hf
        refine q_callV (pc' := 57) C (t_xd_readAny hF t_ro ha1 hq11) rfl (K_148 hF) cl_6 wv_RX6_64 ⟨by show (_ : Nat) ≤ fr + 9; omega, by show (_ : Nat) ≤ lo + 346; omega⟩ rfl rfl (Nat.le_of_ble_eq_true rfl) dX6_readOne_54 rfl ⟨Nat.le_of_ble_eq_true rfl, Nat.le_of_ble_eq_true rfl⟩ ?_
        refine r_if_eq (pc' := 60) (tgt := 73) C rfl hf dX6_readOne_57 (by decide) rfl (fun hf => ?_) (fun hf => ?_)
        · refine r_iconst (pc' := 74) C dX6_readOne_73 rfl ?_
          cases hf
          exact r_zret C (Or.inl rfl) dX6_readOne_74
        · refine r_aload_n (pc' := 61) (f4 := 0) (i := 0) C 0 rfl rfl dX6_readOne_60 rfl ?_
          refine r_bipush (pc' := 63) C rfl dX6_readOne_61 rfl ?_
          obtain ⟨q12, hq12, hf⟩ := bind_in hf
          refine q_callV (pc' := 66) C (t_xd_take hF hq12) rfl (K_148 hF) cl_6 wv_RX6_27 ⟨by show (_ : Nat) ≤ fr + 9; omega, by show (_ : Nat) ≤ lo + 346; omega⟩ rfl rfl (Nat.le_of_ble_eq_true rfl) dX6_readOne_63 rfl ⟨Nat.le_of_ble_eq_true rfl, Nat.le_of_ble_eq_true rfl⟩ ?_
          refine r_if_eq (pc' := 69) (tgt := 73) C rfl hf dX6_readOne_66 (by decide) rfl (fun hf => ?_) (fun hf => ?_)
          · refine r_iconst (pc' := 74) C dX6_readOne_73 rfl ?_
            cases hf
            exact r_zret C (Or.inl rfl) dX6_readOne_74
          · refine r_iconst (pc' := 70) C dX6_readOne_69 rfl ?_
            refine r_goto (tgt := 74) C dX6_readOne_70 (by decide) ?_
            cases hf
            exact r_zret C (Or.inr rfl) dX6_readOne_74
    · refine r_aload_n (pc' := 76) (f4 := 0) (i := 0) C 0 rfl rfl dX6_readOne_75 rfl ?_
      refine r_aload_n (pc' := 77) (f4 := 1) (i := 1) C 1 rfl rfl dX6_readOne_76 rfl ?_
      obtain ⟨q13, hq13, hf⟩ := bind_in hf
      refine q_callV (pc' := 80) C (t_xd_readTest hF ha1 hq13) rfl (K_148 hF) cl_6 wv_RX6_74 ⟨by show (_ : Nat) ≤ fr + 9; omega, by show (_ : Nat) ≤ lo + 346; omega⟩ rfl rfl (Nat.le_of_ble_eq_true rfl) dX6_readOne_77 rfl ⟨Nat.le_of_ble_eq_true rfl, Nat.le_of_ble_eq_true rfl⟩ ?_
      obtain ⟨hz, hf⟩ := ckb_in hf
      cases hf
      exact r_zret C hz dX6_readOne_80

def xd_readOne : Nat → HH → Int → Int → Option (Int × HH)
  | 0 => fun _ _ _ => none
  | n + 1 => xd_readOneF (xd_readOne n)
theorem t_xd_readOneN : ∀ (n : Nat) {S : SS} (hF : Fx S) {h : HH} {a1 : Int} (ha1 : isO a1) {a2 : Int} {res : Int × HH} (hf : xd_readOne n h a1 a2 = some res), CM yX6_readOne cX6_readOne 3 (some Jvm.ClassFile.FieldType.boolean) (n * 9) (n * 346) 0 0 (fun bs => [zP bs 148, zP bs a1, zI a2]) h S (fun _ => some (zI res.1)) res.2 S
  | 0, _, _, _, _, _, _, _, hf => by cases hf
  | n + 1, _, hF, _, _, ha1, _, _, hf => by
    rw [show (n + 1) * 9 = n * 9 + 9 from by omega, show (n + 1) * 346 = n * 346 + 346 from by omega]
    exact t_xd_readOneF hF (by intro S1 hF1 h1 b1 hb1 b2 r1 hf1; exact t_xd_readOneN n hF1 hb1 hf1) ha1 hf
def xd_readAny9 (h : HH) (a1 a2 : Int) : Option (Int × HH) := xd_readAny (xd_readOne 6) h a1 a2

theorem t_xd_readAny9 {S : SS} (hF : Fx S) {h : HH} {a1 : Int} (ha1 : isO a1) {a2 : Int} {res : Int × HH} (hf : xd_readAny9 h a1 a2 = some res) : CM yX6_readAny cX6_readAny 5 (some Jvm.ClassFile.FieldType.boolean) 56 2198 0 0 (fun bs => [zP bs 148, zP bs a1, zI a2]) h S (fun _ => some (zI res.1)) res.2 S := t_xd_readAny hF (by intro S1 hF1 h1 b1 hb1 b2 r1 hf1; exact t_xd_readOneN 6 hF1 hb1 hf1) ha1 hf

/- WassailEnemies$Reader.readWarmth(LWassailEnemies$Orchard;I)Z -/
def xd_readWarmth (h : HH) (a1 : Int) (a2 : Int) : Option (Int × HH) :=
  (xd_readNumber h).bind fun q1 => if ww q1.1 = 0 then (some (0, q1.2)) else ((xd_take q1.2 32).bind fun q2 => if ww q2.1 = 0 then (some (0, q2.2)) else ((xd_readAny9 q2.2 a1 0).bind fun q3 => if ww q3.1 = 0 then (some (0, q3.2)) else ((xo_append q3.2 a1 a2 (q1.2 148 3)).bind fun q4 => some (1, q4))))
abbrev rm_xd_readWarmth : Room := { frames := 57, cells := 0, slots := 0, locals := 2222 }
set_option maxHeartbeats 4000000 in
set_option maxRecDepth 100000 in
theorem t_xd_readWarmth {S : SS} (hF : Fx S) {h : HH} {a1 : Int} (ha1 : isO a1) {a2 : Int} {res : Int × HH} (hf : xd_readWarmth h a1 a2 = some res) : CM yX6_readWarmth cX6_readWarmth 4 (some Jvm.ClassFile.FieldType.boolean) 57 2222 0 0 (fun bs => [zP bs 148, zP bs a1, zI a2]) h S (fun _ => some (zI res.1)) res.2 S := by
  refine CM.intro (own := RX6) (by decide) rfl (fun _ => Nat.le_of_ble_eq_true rfl) ?_
  intro D dT bs p l e s m args below meth c C
  show V D dT bs 4 p l e rm_xd_readWarmth s m args below meth c 0 0 _ h S 0 [(0, zP bs 148), (1, zP bs a1), (2, zI a2)] []
  unfold xd_readWarmth at hf
  refine r_aload_n (pc' := 1) (f4 := 0) (i := 0) C 0 rfl rfl dX6_readWarmth_0 rfl ?_
  obtain ⟨q1, hq1, hf⟩ := bind_in hf
  refine q_callV (pc' := 4) C (t_xd_readNumber hF hq1) rfl (K_148 hF) cl_6 wv_RX6_49 ⟨Nat.le_of_ble_eq_true rfl, Nat.le_of_ble_eq_true rfl⟩ rfl rfl (Nat.le_of_ble_eq_true rfl) dX6_readWarmth_1 rfl ⟨Nat.le_of_ble_eq_true rfl, Nat.le_of_ble_eq_true rfl⟩ ?_
  refine r_if_ne (pc' := 7) (tgt := 9) C rfl hf dX6_readWarmth_4 (by decide) rfl (fun hf => ?_) (fun hf => ?_)
  · refine r_iconst (pc' := 8) C dX6_readWarmth_7 rfl ?_
    cases hf
    exact r_zret C (Or.inl rfl) dX6_readWarmth_8
  · refine r_aload_n (pc' := 10) (f4 := 0) (i := 0) C 0 rfl rfl dX6_readWarmth_9 rfl ?_
    refine q_getI (pc' := 13) (j := 3) C (K_148 hF) fb_6_3 wd_243 (Or.inl rfl) dX6_readWarmth_10 rfl ?_
    refine r_istore_n (pc' := 14) (f4 := 3) (i := 3) (L' := [(3, zI (q1.2 148 3)), (0, zP bs 148), (1, zP bs a1), (2, zI a2)]) C rfl (by decide) rfl dX6_readWarmth_13 rfl ?_
    refine r_aload_n (pc' := 15) (f4 := 0) (i := 0) C 1 rfl rfl dX6_readWarmth_14 rfl ?_
    refine r_bipush (pc' := 17) C rfl dX6_readWarmth_15 rfl ?_
    obtain ⟨q2, hq2, hf⟩ := bind_in hf
    refine q_callV (pc' := 20) C (t_xd_take hF hq2) rfl (K_148 hF) cl_6 wv_RX6_27 ⟨Nat.le_of_ble_eq_true rfl, Nat.le_of_ble_eq_true rfl⟩ rfl rfl (Nat.le_of_ble_eq_true rfl) dX6_readWarmth_17 rfl ⟨Nat.le_of_ble_eq_true rfl, Nat.le_of_ble_eq_true rfl⟩ ?_
    refine r_if_eq (pc' := 23) (tgt := 32) C rfl hf dX6_readWarmth_20 (by decide) rfl (fun hf => ?_) (fun hf => ?_)
    · refine r_iconst (pc' := 33) C dX6_readWarmth_32 rfl ?_
      cases hf
      exact r_zret C (Or.inl rfl) dX6_readWarmth_33
    · refine r_aload_n (pc' := 24) (f4 := 0) (i := 0) C 1 rfl rfl dX6_readWarmth_23 rfl ?_
      refine r_aload_n (pc' := 25) (f4 := 1) (i := 1) C 2 rfl rfl dX6_readWarmth_24 rfl ?_
      refine r_iconst (pc' := 26) C dX6_readWarmth_25 rfl ?_
      obtain ⟨q3, hq3, hf⟩ := bind_in hf
      refine q_callV (pc' := 29) C (t_xd_readAny9 hF ha1 hq3) rfl (K_148 hF) cl_6 wv_RX6_64 ⟨Nat.le_of_ble_eq_true rfl, Nat.le_of_ble_eq_true rfl⟩ rfl rfl (Nat.le_of_ble_eq_true rfl) dX6_readWarmth_26 rfl ⟨Nat.le_of_ble_eq_true rfl, Nat.le_of_ble_eq_true rfl⟩ ?_
      refine r_if_ne (pc' := 32) (tgt := 34) C rfl hf dX6_readWarmth_29 (by decide) rfl (fun hf => ?_) (fun hf => ?_)
      · refine r_iconst (pc' := 33) C dX6_readWarmth_32 rfl ?_
        cases hf
        exact r_zret C (Or.inl rfl) dX6_readWarmth_33
      · refine r_aload_n (pc' := 35) (f4 := 1) (i := 1) C 2 rfl rfl dX6_readWarmth_34 rfl ?_
        refine r_iload_n (pc' := 36) (f4 := 2) (i := 2) C 3 rfl rfl dX6_readWarmth_35 rfl ?_
        refine r_iload_n (pc' := 37) (f4 := 3) (i := 3) C 0 rfl rfl dX6_readWarmth_36 rfl ?_
        obtain ⟨q4, hq4, hf⟩ := bind_in hf
        refine q_callVv (pc' := 40) C (t_xo_append hF ha1 hq4) rfl (KO hF ha1) cl_5 wv_RX6_67 ⟨Nat.le_of_ble_eq_true rfl, Nat.le_of_ble_eq_true rfl⟩ rfl rfl (Nat.le_of_ble_eq_true rfl) dX6_readWarmth_37 rfl ⟨Nat.le_of_ble_eq_true rfl, Nat.le_of_ble_eq_true rfl⟩ ?_
        refine r_iconst (pc' := 41) C dX6_readWarmth_40 rfl ?_
        cases hf
        exact r_zret C (Or.inr rfl) dX6_readWarmth_41

/- WassailEnemies$Reader.readClause(LWassailEnemies$Orchard;)Z -/
def xd_readClause (h : HH) (a1 : Int) : Option (Int × HH) :=
  if ww (h 148 2) < ww (h 148 1) then (ck (ww (h 148 2)) 100 <| if ww (h 149 (ww (h 148 2))) = 99 then ((xd_takeWord [99, 111, 108, 100, 32] h).bind fun q2 => if ww q2.1 = 0 then (some (0, q2.2)) else ((xd_readWarmth q2.2 a1 (-5)).bind fun q3 => if ww q3.1 = 0 then (some (0, q3.2)) else (some (1, q3.2)))) else (if ww (h 149 (ww (h 148 2))) = 104 then ((xd_takeWord [104, 111, 116, 32] h).bind fun q5 => if ww q5.1 = 0 then (some (0, q5.2)) else ((xd_readWarmth q5.2 a1 (-4)).bind fun q6 => if ww q6.1 = 0 then (some (0, q6.2)) else (some (1, q6.2)))) else (if ww (h 149 (ww (h 148 2))) = 110 then ((xd_takeWord [110, 101, 101, 100, 32] h).bind fun q8 => if ww q8.1 = 0 then (some (0, q8.2)) else ((xd_readNumber q8.2).bind fun q9 => if ww q9.1 = 0 then (some (0, q9.2)) else (some (1, u2 q9.2 a1 0 (q9.2 148 3))))) else (if ww (h 149 (ww (h 148 2))) = 119 then ((xd_takeWord [119, 101, 97, 114, 32] h).bind fun q11 => if ww q11.1 = 0 then (some (0, q11.2)) else ((xd_readNumber q11.2).bind fun q12 => if ww q12.1 = 0 then (some (0, q12.2)) else (some (1, u2 q12.2 a1 1 (q12.2 148 3))))) else (some (0, h)))))) else (if ww (-1) = 99 then ((xd_takeWord [99, 111, 108, 100, 32] h).bind fun q14 => if ww q14.1 = 0 then (some (0, q14.2)) else ((xd_readWarmth q14.2 a1 (-5)).bind fun q15 => if ww q15.1 = 0 then (some (0, q15.2)) else (some (1, q15.2)))) else (if ww (-1) = 104 then ((xd_takeWord [104, 111, 116, 32] h).bind fun q17 => if ww q17.1 = 0 then (some (0, q17.2)) else ((xd_readWarmth q17.2 a1 (-4)).bind fun q18 => if ww q18.1 = 0 then (some (0, q18.2)) else (some (1, q18.2)))) else (if ww (-1) = 110 then ((xd_takeWord [110, 101, 101, 100, 32] h).bind fun q20 => if ww q20.1 = 0 then (some (0, q20.2)) else ((xd_readNumber q20.2).bind fun q21 => if ww q21.1 = 0 then (some (0, q21.2)) else (some (1, u2 q21.2 a1 0 (q21.2 148 3))))) else (if ww (-1) = 119 then ((xd_takeWord [119, 101, 97, 114, 32] h).bind fun q23 => if ww q23.1 = 0 then (some (0, q23.2)) else ((xd_readNumber q23.2).bind fun q24 => if ww q24.1 = 0 then (some (0, q24.2)) else (some (1, u2 q24.2 a1 1 (q24.2 148 3))))) else (some (0, h))))))
abbrev rm_xd_readClause : Room := { frames := 58, cells := 0, slots := 0, locals := 2245 }
set_option maxHeartbeats 4000000 in
set_option maxRecDepth 100000 in
theorem t_xd_readClause {S : SS} (hF : Fx S) {h : HH} {a1 : Int} (ha1 : isO a1) {res : Int × HH} (hf : xd_readClause h a1 = some res) : CM yX6_readClause cX6_readClause 2 (some Jvm.ClassFile.FieldType.boolean) 58 2245 0 0 (fun bs => [zP bs 148, zP bs a1]) h S (fun _ => some (zI res.1)) res.2 S := by
  refine CM.intro (own := RX6) (by decide) rfl (fun _ => Nat.le_of_ble_eq_true rfl) ?_
  intro D dT bs p l e s m args below meth c C
  show V D dT bs 2 p l e rm_xd_readClause s m args below meth c 0 0 _ h S 0 [(0, zP bs 148), (1, zP bs a1)] []
  unfold xd_readClause at hf
  refine r_aload_n (pc' := 1) (f4 := 0) (i := 0) C 0 rfl rfl dX6_readClause_0 rfl ?_
  refine q_getI (pc' := 4) (j := 2) C (K_148 hF) fb_6_2 wd_241 (Or.inl rfl) dX6_readClause_1 rfl ?_
  refine r_aload_n (pc' := 5) (f4 := 0) (i := 0) C 0 rfl rfl dX6_readClause_4 rfl ?_
  refine q_getI (pc' := 8) (j := 1) C (K_148 hF) fb_6_1 wd_239 (Or.inl rfl) dX6_readClause_5 rfl ?_
  refine r_icmp_ge (pc' := 11) (tgt := 23) C rfl rfl hf dX6_readClause_8 (by decide) rfl (fun hf => ?_) (fun hf => ?_)
  · refine r_aload_n (pc' := 12) (f4 := 0) (i := 0) C 0 rfl rfl dX6_readClause_11 rfl ?_
    refine q_getP (pc' := 15) (j := 0) C (K_148 hF) fb_6_0 (by decide) wd_238 (Or.inl rfl) (F_148_0 hF) (by decide) dX6_readClause_12 rfl ?_
    refine r_aload_n (pc' := 16) (f4 := 0) (i := 0) C 0 rfl rfl dX6_readClause_15 rfl ?_
    refine q_getI (pc' := 19) (j := 2) C (K_148 hF) fb_6_2 wd_241 (Or.inl rfl) dX6_readClause_16 rfl ?_
    obtain ⟨hi, hf⟩ := ck_in hf
    refine r_iald (pc' := 20) C (K_149 hF) rfl hi dX6_readClause_19 rfl ?_
    refine r_goto (tgt := 24) C dX6_readClause_20 (by decide) ?_
    by_cases cs0 : ww (h 149 (ww (h 148 2))) = 99
    · rw [if_pos cs0] at hf
      refine r_ls (tgt := 93) C (off := 69) dX6_readClause_24 rfl (by simp [Op.lookupswitch.offset, cs0]) (by decide) ?_
      refine r_aload_n (pc' := 94) (f4 := 0) (i := 0) C 0 rfl rfl dX6_readClause_93 rfl ?_
      obtain ⟨ta1, hEta1, hrta1⟩ := zx_str C (by decide) sl_RX6_45.2.1 sl_RX6_45.2.2.1 sl_RX6_45.2.2.2.1 sl_RX6_45.2.2.2.2.1 sl_RX6_45.2.2.2.2.2.1 sl_RX6_45.2.2.2.2.2.2
      refine r_oldcS (pc' := 96) C hrta1 dX6_readClause_94 rfl ?_
      obtain ⟨q2, hq2, hf⟩ := bind_in hf
      refine q_callVE (pc' := 99) C StrE_old (t_xd_takeWord hF (by decide) (by decide) hq2) rfl hEta1 (K_148 hF) cl_6 wv_RX6_37 ⟨Nat.le_of_ble_eq_true rfl, Nat.le_of_ble_eq_true rfl⟩ rfl rfl (Nat.le_of_ble_eq_true rfl) dX6_readClause_96 rfl ⟨Nat.le_of_ble_eq_true rfl, Nat.le_of_ble_eq_true rfl⟩ ?_
      refine r_if_eq (pc' := 102) (tgt := 116) C rfl hf dX6_readClause_99 (by decide) rfl (fun hf => ?_) (fun hf => ?_)
      · refine r_iconst (pc' := 117) C dX6_readClause_116 rfl ?_
        cases hf
        exact r_zret C (Or.inl rfl) dX6_readClause_117
      · refine r_aload_n (pc' := 103) (f4 := 0) (i := 0) C 0 rfl rfl dX6_readClause_102 rfl ?_
        refine r_aload_n (pc' := 104) (f4 := 1) (i := 1) C 1 rfl rfl dX6_readClause_103 rfl ?_
        refine r_bipush (pc' := 106) C rfl dX6_readClause_104 rfl ?_
        obtain ⟨q3, hq3, hf⟩ := bind_in hf
        refine q_callV (pc' := 109) C (t_xd_readWarmth hF ha1 hq3) rfl (K_148 hF) cl_6 wv_RX6_41 ⟨Nat.le_of_ble_eq_true rfl, Nat.le_of_ble_eq_true rfl⟩ rfl rfl (Nat.le_of_ble_eq_true rfl) dX6_readClause_106 rfl ⟨Nat.le_of_ble_eq_true rfl, Nat.le_of_ble_eq_true rfl⟩ ?_
        refine r_if_eq (pc' := 112) (tgt := 116) C rfl hf dX6_readClause_109 (by decide) rfl (fun hf => ?_) (fun hf => ?_)
        · refine r_iconst (pc' := 117) C dX6_readClause_116 rfl ?_
          cases hf
          exact r_zret C (Or.inl rfl) dX6_readClause_117
        · refine r_iconst (pc' := 113) C dX6_readClause_112 rfl ?_
          refine r_goto (tgt := 117) C dX6_readClause_113 (by decide) ?_
          cases hf
          exact r_zret C (Or.inr rfl) dX6_readClause_117
    · rw [if_neg cs0] at hf
      by_cases cs1 : ww (h 149 (ww (h 148 2))) = 104
      · rw [if_pos cs1] at hf
        refine r_ls (tgt := 68) C (off := 44) dX6_readClause_24 rfl (by simp [Op.lookupswitch.offset, cs1]) (by decide) ?_
        refine r_aload_n (pc' := 69) (f4 := 0) (i := 0) C 0 rfl rfl dX6_readClause_68 rfl ?_
        obtain ⟨ta4, hEta4, hrta4⟩ := zx_str C (by decide) sl_RX6_35.2.1 sl_RX6_35.2.2.1 sl_RX6_35.2.2.2.1 sl_RX6_35.2.2.2.2.1 sl_RX6_35.2.2.2.2.2.1 sl_RX6_35.2.2.2.2.2.2
        refine r_oldcS (pc' := 71) C hrta4 dX6_readClause_69 rfl ?_
        obtain ⟨q5, hq5, hf⟩ := bind_in hf
        refine q_callVE (pc' := 74) C StrE_old (t_xd_takeWord hF (by decide) (by decide) hq5) rfl hEta4 (K_148 hF) cl_6 wv_RX6_37 ⟨Nat.le_of_ble_eq_true rfl, Nat.le_of_ble_eq_true rfl⟩ rfl rfl (Nat.le_of_ble_eq_true rfl) dX6_readClause_71 rfl ⟨Nat.le_of_ble_eq_true rfl, Nat.le_of_ble_eq_true rfl⟩ ?_
        refine r_if_eq (pc' := 77) (tgt := 91) C rfl hf dX6_readClause_74 (by decide) rfl (fun hf => ?_) (fun hf => ?_)
        · refine r_iconst (pc' := 92) C dX6_readClause_91 rfl ?_
          cases hf
          exact r_zret C (Or.inl rfl) dX6_readClause_92
        · refine r_aload_n (pc' := 78) (f4 := 0) (i := 0) C 0 rfl rfl dX6_readClause_77 rfl ?_
          refine r_aload_n (pc' := 79) (f4 := 1) (i := 1) C 1 rfl rfl dX6_readClause_78 rfl ?_
          refine r_bipush (pc' := 81) C rfl dX6_readClause_79 rfl ?_
          obtain ⟨q6, hq6, hf⟩ := bind_in hf
          refine q_callV (pc' := 84) C (t_xd_readWarmth hF ha1 hq6) rfl (K_148 hF) cl_6 wv_RX6_41 ⟨Nat.le_of_ble_eq_true rfl, Nat.le_of_ble_eq_true rfl⟩ rfl rfl (Nat.le_of_ble_eq_true rfl) dX6_readClause_81 rfl ⟨Nat.le_of_ble_eq_true rfl, Nat.le_of_ble_eq_true rfl⟩ ?_
          refine r_if_eq (pc' := 87) (tgt := 91) C rfl hf dX6_readClause_84 (by decide) rfl (fun hf => ?_) (fun hf => ?_)
          · refine r_iconst (pc' := 92) C dX6_readClause_91 rfl ?_
            cases hf
            exact r_zret C (Or.inl rfl) dX6_readClause_92
          · refine r_iconst (pc' := 88) C dX6_readClause_87 rfl ?_
            refine r_goto (tgt := 92) C dX6_readClause_88 (by decide) ?_
            cases hf
            exact r_zret C (Or.inr rfl) dX6_readClause_92
      · rw [if_neg cs1] at hf
        by_cases cs2 : ww (h 149 (ww (h 148 2))) = 110
        · rw [if_pos cs2] at hf
          refine r_ls (tgt := 118) C (off := 94) dX6_readClause_24 rfl (by simp [Op.lookupswitch.offset, cs2]) (by decide) ?_
          refine r_aload_n (pc' := 119) (f4 := 0) (i := 0) C 0 rfl rfl dX6_readClause_118 rfl ?_
          obtain ⟨ta7, hEta7, hrta7⟩ := zx_str C (by decide) sl_RX6_47.2.1 sl_RX6_47.2.2.1 sl_RX6_47.2.2.2.1 sl_RX6_47.2.2.2.2.1 sl_RX6_47.2.2.2.2.2.1 sl_RX6_47.2.2.2.2.2.2
          refine r_oldcS (pc' := 121) C hrta7 dX6_readClause_119 rfl ?_
          obtain ⟨q8, hq8, hf⟩ := bind_in hf
          refine q_callVE (pc' := 124) C StrE_old (t_xd_takeWord hF (by decide) (by decide) hq8) rfl hEta7 (K_148 hF) cl_6 wv_RX6_37 ⟨Nat.le_of_ble_eq_true rfl, Nat.le_of_ble_eq_true rfl⟩ rfl rfl (Nat.le_of_ble_eq_true rfl) dX6_readClause_121 rfl ⟨Nat.le_of_ble_eq_true rfl, Nat.le_of_ble_eq_true rfl⟩ ?_
          refine r_if_eq (pc' := 127) (tgt := 134) C rfl hf dX6_readClause_124 (by decide) rfl (fun hf => ?_) (fun hf => ?_)
          · refine r_iconst (pc' := 135) C dX6_readClause_134 rfl ?_
            cases hf
            exact r_zret C (Or.inl rfl) dX6_readClause_135
          · refine r_aload_n (pc' := 128) (f4 := 0) (i := 0) C 0 rfl rfl dX6_readClause_127 rfl ?_
            obtain ⟨q9, hq9, hf⟩ := bind_in hf
            refine q_callV (pc' := 131) C (t_xd_readNumber hF hq9) rfl (K_148 hF) cl_6 wv_RX6_49 ⟨Nat.le_of_ble_eq_true rfl, Nat.le_of_ble_eq_true rfl⟩ rfl rfl (Nat.le_of_ble_eq_true rfl) dX6_readClause_128 rfl ⟨Nat.le_of_ble_eq_true rfl, Nat.le_of_ble_eq_true rfl⟩ ?_
            refine r_if_ne (pc' := 134) (tgt := 136) C rfl hf dX6_readClause_131 (by decide) rfl (fun hf => ?_) (fun hf => ?_)
            · refine r_iconst (pc' := 135) C dX6_readClause_134 rfl ?_
              cases hf
              exact r_zret C (Or.inl rfl) dX6_readClause_135
            · refine r_aload_n (pc' := 137) (f4 := 1) (i := 1) C 1 rfl rfl dX6_readClause_136 rfl ?_
              refine r_aload_n (pc' := 138) (f4 := 0) (i := 0) C 0 rfl rfl dX6_readClause_137 rfl ?_
              refine q_getI (pc' := 141) (j := 3) C (K_148 hF) fb_6_3 wd_243 (Or.inl rfl) dX6_readClause_138 rfl ?_
              refine q_putI (pc' := 144) (j := 0) C (KO hF ha1) fb_5_0 fp_5_0 wd_290 (Or.inl rfl) (Or.inl rfl) rfl rfl dX6_readClause_141 rfl ?_
              refine r_iconst (pc' := 145) C dX6_readClause_144 rfl ?_
              cases hf
              exact r_zret C (Or.inr rfl) dX6_readClause_145
        · rw [if_neg cs2] at hf
          by_cases cs3 : ww (h 149 (ww (h 148 2))) = 119
          · rw [if_pos cs3] at hf
            refine r_ls (tgt := 146) C (off := 122) dX6_readClause_24 rfl (by simp [Op.lookupswitch.offset, cs3]) (by decide) ?_
            refine r_aload_n (pc' := 147) (f4 := 0) (i := 0) C 0 rfl rfl dX6_readClause_146 rfl ?_
            obtain ⟨ta10, hEta10, hrta10⟩ := zx_str C (by decide) sl_RX6_59.2.1 sl_RX6_59.2.2.1 sl_RX6_59.2.2.2.1 sl_RX6_59.2.2.2.2.1 sl_RX6_59.2.2.2.2.2.1 sl_RX6_59.2.2.2.2.2.2
            refine r_oldcS (pc' := 149) C hrta10 dX6_readClause_147 rfl ?_
            obtain ⟨q11, hq11, hf⟩ := bind_in hf
            refine q_callVE (pc' := 152) C StrE_old (t_xd_takeWord hF (by decide) (by decide) hq11) rfl hEta10 (K_148 hF) cl_6 wv_RX6_37 ⟨Nat.le_of_ble_eq_true rfl, Nat.le_of_ble_eq_true rfl⟩ rfl rfl (Nat.le_of_ble_eq_true rfl) dX6_readClause_149 rfl ⟨Nat.le_of_ble_eq_true rfl, Nat.le_of_ble_eq_true rfl⟩ ?_
            refine r_if_eq (pc' := 155) (tgt := 162) C rfl hf dX6_readClause_152 (by decide) rfl (fun hf => ?_) (fun hf => ?_)
            · refine r_iconst (pc' := 163) C dX6_readClause_162 rfl ?_
              cases hf
              exact r_zret C (Or.inl rfl) dX6_readClause_163
            · refine r_aload_n (pc' := 156) (f4 := 0) (i := 0) C 0 rfl rfl dX6_readClause_155 rfl ?_
              obtain ⟨q12, hq12, hf⟩ := bind_in hf
              refine q_callV (pc' := 159) C (t_xd_readNumber hF hq12) rfl (K_148 hF) cl_6 wv_RX6_49 ⟨Nat.le_of_ble_eq_true rfl, Nat.le_of_ble_eq_true rfl⟩ rfl rfl (Nat.le_of_ble_eq_true rfl) dX6_readClause_156 rfl ⟨Nat.le_of_ble_eq_true rfl, Nat.le_of_ble_eq_true rfl⟩ ?_
              refine r_if_ne (pc' := 162) (tgt := 164) C rfl hf dX6_readClause_159 (by decide) rfl (fun hf => ?_) (fun hf => ?_)
              · refine r_iconst (pc' := 163) C dX6_readClause_162 rfl ?_
                cases hf
                exact r_zret C (Or.inl rfl) dX6_readClause_163
              · refine r_aload_n (pc' := 165) (f4 := 1) (i := 1) C 1 rfl rfl dX6_readClause_164 rfl ?_
                refine r_aload_n (pc' := 166) (f4 := 0) (i := 0) C 0 rfl rfl dX6_readClause_165 rfl ?_
                refine q_getI (pc' := 169) (j := 3) C (K_148 hF) fb_6_3 wd_243 (Or.inl rfl) dX6_readClause_166 rfl ?_
                refine q_putI (pc' := 172) (j := 1) C (KO hF ha1) fb_5_1 fp_5_1 wd_293 (Or.inl rfl) (Or.inl rfl) rfl rfl dX6_readClause_169 rfl ?_
                refine r_iconst (pc' := 173) C dX6_readClause_172 rfl ?_
                cases hf
                exact r_zret C (Or.inr rfl) dX6_readClause_173
          · rw [if_neg cs3] at hf
            refine r_ls (tgt := 174) C (off := 150) dX6_readClause_24 rfl (by simp [Op.lookupswitch.offset, Ne.symm cs0, Ne.symm cs1, Ne.symm cs2, Ne.symm cs3]) (by decide) ?_
            refine r_iconst (pc' := 175) C dX6_readClause_174 rfl ?_
            cases hf
            exact r_zret C (Or.inl rfl) dX6_readClause_175
  · refine r_iconst (pc' := 24) C dX6_readClause_23 rfl ?_
    by_cases cs0 : ww (-1) = 99
    · rw [if_pos cs0] at hf
      refine r_ls (tgt := 93) C (off := 69) dX6_readClause_24 rfl (by simp [Op.lookupswitch.offset, cs0]) (by decide) ?_
      refine r_aload_n (pc' := 94) (f4 := 0) (i := 0) C 0 rfl rfl dX6_readClause_93 rfl ?_
      obtain ⟨ta13, hEta13, hrta13⟩ := zx_str C (by decide) sl_RX6_45.2.1 sl_RX6_45.2.2.1 sl_RX6_45.2.2.2.1 sl_RX6_45.2.2.2.2.1 sl_RX6_45.2.2.2.2.2.1 sl_RX6_45.2.2.2.2.2.2
      refine r_oldcS (pc' := 96) C hrta13 dX6_readClause_94 rfl ?_
      obtain ⟨q14, hq14, hf⟩ := bind_in hf
      refine q_callVE (pc' := 99) C StrE_old (t_xd_takeWord hF (by decide) (by decide) hq14) rfl hEta13 (K_148 hF) cl_6 wv_RX6_37 ⟨Nat.le_of_ble_eq_true rfl, Nat.le_of_ble_eq_true rfl⟩ rfl rfl (Nat.le_of_ble_eq_true rfl) dX6_readClause_96 rfl ⟨Nat.le_of_ble_eq_true rfl, Nat.le_of_ble_eq_true rfl⟩ ?_
      refine r_if_eq (pc' := 102) (tgt := 116) C rfl hf dX6_readClause_99 (by decide) rfl (fun hf => ?_) (fun hf => ?_)
      · refine r_iconst (pc' := 117) C dX6_readClause_116 rfl ?_
        cases hf
        exact r_zret C (Or.inl rfl) dX6_readClause_117
      · refine r_aload_n (pc' := 103) (f4 := 0) (i := 0) C 0 rfl rfl dX6_readClause_102 rfl ?_
        refine r_aload_n (pc' := 104) (f4 := 1) (i := 1) C 1 rfl rfl dX6_readClause_103 rfl ?_
        refine r_bipush (pc' := 106) C rfl dX6_readClause_104 rfl ?_
        obtain ⟨q15, hq15, hf⟩ := bind_in hf
        refine q_callV (pc' := 109) C (t_xd_readWarmth hF ha1 hq15) rfl (K_148 hF) cl_6 wv_RX6_41 ⟨Nat.le_of_ble_eq_true rfl, Nat.le_of_ble_eq_true rfl⟩ rfl rfl (Nat.le_of_ble_eq_true rfl) dX6_readClause_106 rfl ⟨Nat.le_of_ble_eq_true rfl, Nat.le_of_ble_eq_true rfl⟩ ?_
        refine r_if_eq (pc' := 112) (tgt := 116) C rfl hf dX6_readClause_109 (by decide) rfl (fun hf => ?_) (fun hf => ?_)
        · refine r_iconst (pc' := 117) C dX6_readClause_116 rfl ?_
          cases hf
          exact r_zret C (Or.inl rfl) dX6_readClause_117
        · refine r_iconst (pc' := 113) C dX6_readClause_112 rfl ?_
          refine r_goto (tgt := 117) C dX6_readClause_113 (by decide) ?_
          cases hf
          exact r_zret C (Or.inr rfl) dX6_readClause_117
    · rw [if_neg cs0] at hf
      by_cases cs1 : ww (-1) = 104
      · rw [if_pos cs1] at hf
        refine r_ls (tgt := 68) C (off := 44) dX6_readClause_24 rfl (by simp [Op.lookupswitch.offset, cs1]) (by decide) ?_
        refine r_aload_n (pc' := 69) (f4 := 0) (i := 0) C 0 rfl rfl dX6_readClause_68 rfl ?_
        obtain ⟨ta16, hEta16, hrta16⟩ := zx_str C (by decide) sl_RX6_35.2.1 sl_RX6_35.2.2.1 sl_RX6_35.2.2.2.1 sl_RX6_35.2.2.2.2.1 sl_RX6_35.2.2.2.2.2.1 sl_RX6_35.2.2.2.2.2.2
        refine r_oldcS (pc' := 71) C hrta16 dX6_readClause_69 rfl ?_
        obtain ⟨q17, hq17, hf⟩ := bind_in hf
        refine q_callVE (pc' := 74) C StrE_old (t_xd_takeWord hF (by decide) (by decide) hq17) rfl hEta16 (K_148 hF) cl_6 wv_RX6_37 ⟨Nat.le_of_ble_eq_true rfl, Nat.le_of_ble_eq_true rfl⟩ rfl rfl (Nat.le_of_ble_eq_true rfl) dX6_readClause_71 rfl ⟨Nat.le_of_ble_eq_true rfl, Nat.le_of_ble_eq_true rfl⟩ ?_
        refine r_if_eq (pc' := 77) (tgt := 91) C rfl hf dX6_readClause_74 (by decide) rfl (fun hf => ?_) (fun hf => ?_)
        · refine r_iconst (pc' := 92) C dX6_readClause_91 rfl ?_
          cases hf
          exact r_zret C (Or.inl rfl) dX6_readClause_92
        · refine r_aload_n (pc' := 78) (f4 := 0) (i := 0) C 0 rfl rfl dX6_readClause_77 rfl ?_
          refine r_aload_n (pc' := 79) (f4 := 1) (i := 1) C 1 rfl rfl dX6_readClause_78 rfl ?_
          refine r_bipush (pc' := 81) C rfl dX6_readClause_79 rfl ?_
          obtain ⟨q18, hq18, hf⟩ := bind_in hf
          refine q_callV (pc' := 84) C (t_xd_readWarmth hF ha1 hq18) rfl (K_148 hF) cl_6 wv_RX6_41 ⟨Nat.le_of_ble_eq_true rfl, Nat.le_of_ble_eq_true rfl⟩ rfl rfl (Nat.le_of_ble_eq_true rfl) dX6_readClause_81 rfl ⟨Nat.le_of_ble_eq_true rfl, Nat.le_of_ble_eq_true rfl⟩ ?_
          refine r_if_eq (pc' := 87) (tgt := 91) C rfl hf dX6_readClause_84 (by decide) rfl (fun hf => ?_) (fun hf => ?_)
          · refine r_iconst (pc' := 92) C dX6_readClause_91 rfl ?_
            cases hf
            exact r_zret C (Or.inl rfl) dX6_readClause_92
          · refine r_iconst (pc' := 88) C dX6_readClause_87 rfl ?_
            refine r_goto (tgt := 92) C dX6_readClause_88 (by decide) ?_
            cases hf
            exact r_zret C (Or.inr rfl) dX6_readClause_92
      · rw [if_neg cs1] at hf
        by_cases cs2 : ww (-1) = 110
        · rw [if_pos cs2] at hf
          refine r_ls (tgt := 118) C (off := 94) dX6_readClause_24 rfl (by simp [Op.lookupswitch.offset, cs2]) (by decide) ?_
          refine r_aload_n (pc' := 119) (f4 := 0) (i := 0) C 0 rfl rfl dX6_readClause_118 rfl ?_
          obtain ⟨ta19, hEta19, hrta19⟩ := zx_str C (by decide) sl_RX6_47.2.1 sl_RX6_47.2.2.1 sl_RX6_47.2.2.2.1 sl_RX6_47.2.2.2.2.1 sl_RX6_47.2.2.2.2.2.1 sl_RX6_47.2.2.2.2.2.2
          refine r_oldcS (pc' := 121) C hrta19 dX6_readClause_119 rfl ?_
          obtain ⟨q20, hq20, hf⟩ := bind_in hf
          refine q_callVE (pc' := 124) C StrE_old (t_xd_takeWord hF (by decide) (by decide) hq20) rfl hEta19 (K_148 hF) cl_6 wv_RX6_37 ⟨Nat.le_of_ble_eq_true rfl, Nat.le_of_ble_eq_true rfl⟩ rfl rfl (Nat.le_of_ble_eq_true rfl) dX6_readClause_121 rfl ⟨Nat.le_of_ble_eq_true rfl, Nat.le_of_ble_eq_true rfl⟩ ?_
          refine r_if_eq (pc' := 127) (tgt := 134) C rfl hf dX6_readClause_124 (by decide) rfl (fun hf => ?_) (fun hf => ?_)
          · refine r_iconst (pc' := 135) C dX6_readClause_134 rfl ?_
            cases hf
            exact r_zret C (Or.inl rfl) dX6_readClause_135
          · refine r_aload_n (pc' := 128) (f4 := 0) (i := 0) C 0 rfl rfl dX6_readClause_127 rfl ?_
            obtain ⟨q21, hq21, hf⟩ := bind_in hf
            refine q_callV (pc' := 131) C (t_xd_readNumber hF hq21) rfl (K_148 hF) cl_6 wv_RX6_49 ⟨Nat.le_of_ble_eq_true rfl, Nat.le_of_ble_eq_true rfl⟩ rfl rfl (Nat.le_of_ble_eq_true rfl) dX6_readClause_128 rfl ⟨Nat.le_of_ble_eq_true rfl, Nat.le_of_ble_eq_true rfl⟩ ?_
            refine r_if_ne (pc' := 134) (tgt := 136) C rfl hf dX6_readClause_131 (by decide) rfl (fun hf => ?_) (fun hf => ?_)
            · refine r_iconst (pc' := 135) C dX6_readClause_134 rfl ?_
              cases hf
              exact r_zret C (Or.inl rfl) dX6_readClause_135
            · refine r_aload_n (pc' := 137) (f4 := 1) (i := 1) C 1 rfl rfl dX6_readClause_136 rfl ?_
              refine r_aload_n (pc' := 138) (f4 := 0) (i := 0) C 0 rfl rfl dX6_readClause_137 rfl ?_
              refine q_getI (pc' := 141) (j := 3) C (K_148 hF) fb_6_3 wd_243 (Or.inl rfl) dX6_readClause_138 rfl ?_
              refine q_putI (pc' := 144) (j := 0) C (KO hF ha1) fb_5_0 fp_5_0 wd_290 (Or.inl rfl) (Or.inl rfl) rfl rfl dX6_readClause_141 rfl ?_
              refine r_iconst (pc' := 145) C dX6_readClause_144 rfl ?_
              cases hf
              exact r_zret C (Or.inr rfl) dX6_readClause_145
        · rw [if_neg cs2] at hf
          by_cases cs3 : ww (-1) = 119
          · rw [if_pos cs3] at hf
            refine r_ls (tgt := 146) C (off := 122) dX6_readClause_24 rfl (by simp [Op.lookupswitch.offset, cs3]) (by decide) ?_
            refine r_aload_n (pc' := 147) (f4 := 0) (i := 0) C 0 rfl rfl dX6_readClause_146 rfl ?_
            obtain ⟨ta22, hEta22, hrta22⟩ := zx_str C (by decide) sl_RX6_59.2.1 sl_RX6_59.2.2.1 sl_RX6_59.2.2.2.1 sl_RX6_59.2.2.2.2.1 sl_RX6_59.2.2.2.2.2.1 sl_RX6_59.2.2.2.2.2.2
            refine r_oldcS (pc' := 149) C hrta22 dX6_readClause_147 rfl ?_
            obtain ⟨q23, hq23, hf⟩ := bind_in hf
            refine q_callVE (pc' := 152) C StrE_old (t_xd_takeWord hF (by decide) (by decide) hq23) rfl hEta22 (K_148 hF) cl_6 wv_RX6_37 ⟨Nat.le_of_ble_eq_true rfl, Nat.le_of_ble_eq_true rfl⟩ rfl rfl (Nat.le_of_ble_eq_true rfl) dX6_readClause_149 rfl ⟨Nat.le_of_ble_eq_true rfl, Nat.le_of_ble_eq_true rfl⟩ ?_
            refine r_if_eq (pc' := 155) (tgt := 162) C rfl hf dX6_readClause_152 (by decide) rfl (fun hf => ?_) (fun hf => ?_)
            · refine r_iconst (pc' := 163) C dX6_readClause_162 rfl ?_
              cases hf
              exact r_zret C (Or.inl rfl) dX6_readClause_163
            · refine r_aload_n (pc' := 156) (f4 := 0) (i := 0) C 0 rfl rfl dX6_readClause_155 rfl ?_
              obtain ⟨q24, hq24, hf⟩ := bind_in hf
              refine q_callV (pc' := 159) C (t_xd_readNumber hF hq24) rfl (K_148 hF) cl_6 wv_RX6_49 ⟨Nat.le_of_ble_eq_true rfl, Nat.le_of_ble_eq_true rfl⟩ rfl rfl (Nat.le_of_ble_eq_true rfl) dX6_readClause_156 rfl ⟨Nat.le_of_ble_eq_true rfl, Nat.le_of_ble_eq_true rfl⟩ ?_
              refine r_if_ne (pc' := 162) (tgt := 164) C rfl hf dX6_readClause_159 (by decide) rfl (fun hf => ?_) (fun hf => ?_)
              · refine r_iconst (pc' := 163) C dX6_readClause_162 rfl ?_
                cases hf
                exact r_zret C (Or.inl rfl) dX6_readClause_163
              · refine r_aload_n (pc' := 165) (f4 := 1) (i := 1) C 1 rfl rfl dX6_readClause_164 rfl ?_
                refine r_aload_n (pc' := 166) (f4 := 0) (i := 0) C 0 rfl rfl dX6_readClause_165 rfl ?_
                refine q_getI (pc' := 169) (j := 3) C (K_148 hF) fb_6_3 wd_243 (Or.inl rfl) dX6_readClause_166 rfl ?_
                refine q_putI (pc' := 172) (j := 1) C (KO hF ha1) fb_5_1 fp_5_1 wd_293 (Or.inl rfl) (Or.inl rfl) rfl rfl dX6_readClause_169 rfl ?_
                refine r_iconst (pc' := 173) C dX6_readClause_172 rfl ?_
                cases hf
                exact r_zret C (Or.inr rfl) dX6_readClause_173
          · rw [if_neg cs3] at hf
            refine r_ls (tgt := 174) C (off := 150) dX6_readClause_24 rfl (by simp [Op.lookupswitch.offset, Ne.symm cs0, Ne.symm cs1, Ne.symm cs2, Ne.symm cs3]) (by decide) ?_
            refine r_iconst (pc' := 175) C dX6_readClause_174 rfl ?_
            cases hf
            exact r_zret C (Or.inl rfl) dX6_readClause_175

/- WassailEnemies$Reader.readClauses(LWassailEnemies$Orchard;)Z -/
def xd_readClauses_L11 (x1 : Int) : Nat → HH → Int → Option (Int × HH)
  | 0, _, _ => none
  | n11 + 1, h, x2 =>
    if ww x2 < 10 then (if 0 < ww x2 then ((xd_take h 59).bind fun q2 => if ww q2.1 = 0 then (some (0, q2.2)) else ((xd_readClause q2.2 x1).bind fun q3 => if ww q3.1 = 0 then (some (0, q3.2)) else (if ww (q3.2 148 2) = ww (q3.2 148 1) then (some (1, q3.2)) else (xd_readClauses_L11 x1 n11 q3.2 (x2 + 1))))) else ((xd_readClause h x1).bind fun q4 => if ww q4.1 = 0 then (some (0, q4.2)) else (if ww (q4.2 148 2) = ww (q4.2 148 1) then (some (1, q4.2)) else (xd_readClauses_L11 x1 n11 q4.2 (x2 + 1))))) else (some (0, h))
def xd_readClauses (h : HH) (a1 : Int) : Option (Int × HH) :=
  (xo_clear h a1).bind fun q1 => xd_readClauses_L11 a1 FU (u2 q1 148 2 0) 0
abbrev rm_xd_readClauses : Room := { frames := 59, cells := 0, slots := 0, locals := 2266 }
set_option maxHeartbeats 4000000 in
set_option maxRecDepth 100000 in
theorem w_xd_readClauses_L11 (hF : Fx S) (C : Cx D dT bs RX6 cX6_readClauses 3 (some Jvm.ClassFile.FieldType.boolean) p s m args meth c) (x1 : Int) (hx1 : isO x1) {res : (Int × HH)} :
    ∀ (n : Nat) (h : HH) (x2 : Int), xd_readClauses_L11 x1 n h x2 = some res → V D dT bs 3 p l e rm_xd_readClauses s m args below meth c 0 0 (MQ below (QQ D dT bs (some (zI res.1)) res.2 S) args s 0 0 (AA bs)) h S 11 [(0, zP bs 148), (1, zP bs x1), (2, zI x2)] [] := by
  intro n
  induction n with
  | zero => intro h x2 hf; simp [xd_readClauses_L11] at hf
  | succ n11 ih11 =>
    intro h x2 hf
    rw [xd_readClauses_L11] at hf
    refine r_iload_n (pc' := 12) (f4 := 2) (i := 2) C 2 rfl rfl dX6_readClauses_11 rfl ?_
    refine r_bipush (pc' := 14) C rfl dX6_readClauses_12 rfl ?_
    refine r_icmp_ge (pc' := 17) (tgt := 59) C rfl ww_n10 hf dX6_readClauses_14 (by decide) rfl (fun hf => ?_) (fun hf => ?_)
    · refine r_iload_n (pc' := 18) (f4 := 2) (i := 2) C 2 rfl rfl dX6_readClauses_17 rfl ?_
      refine r_if_le (pc' := 21) (tgt := 30) C rfl hf dX6_readClauses_18 (by decide) rfl (fun hf => ?_) (fun hf => ?_)
      · refine r_aload_n (pc' := 22) (f4 := 0) (i := 0) C 0 rfl rfl dX6_readClauses_21 rfl ?_
        refine r_bipush (pc' := 24) C rfl dX6_readClauses_22 rfl ?_
        obtain ⟨q2, hq2, hf⟩ := bind_in hf
        refine q_callV (pc' := 27) C (t_xd_take hF hq2) rfl (K_148 hF) cl_6 wv_RX6_27 ⟨Nat.le_of_ble_eq_true rfl, Nat.le_of_ble_eq_true rfl⟩ rfl rfl (Nat.le_of_ble_eq_true rfl) dX6_readClauses_24 rfl ⟨Nat.le_of_ble_eq_true rfl, Nat.le_of_ble_eq_true rfl⟩ ?_
        refine r_if_eq (pc' := 30) (tgt := 38) C rfl hf dX6_readClauses_27 (by decide) rfl (fun hf => ?_) (fun hf => ?_)
        · refine r_iconst (pc' := 39) C dX6_readClauses_38 rfl ?_
          cases hf
          exact r_zret C (Or.inl rfl) dX6_readClauses_39
        · refine r_aload_n (pc' := 31) (f4 := 0) (i := 0) C 0 rfl rfl dX6_readClauses_30 rfl ?_
          refine r_aload_n (pc' := 32) (f4 := 1) (i := 1) C 1 rfl rfl dX6_readClauses_31 rfl ?_
          obtain ⟨q3, hq3, hf⟩ := bind_in hf
          refine q_callV (pc' := 35) C (t_xd_readClause hF hx1 hq3) rfl (K_148 hF) cl_6 wv_RX6_31 ⟨Nat.le_of_ble_eq_true rfl, Nat.le_of_ble_eq_true rfl⟩ rfl rfl (Nat.le_of_ble_eq_true rfl) dX6_readClauses_32 rfl ⟨Nat.le_of_ble_eq_true rfl, Nat.le_of_ble_eq_true rfl⟩ ?_
          refine r_if_ne (pc' := 38) (tgt := 40) C rfl hf dX6_readClauses_35 (by decide) rfl (fun hf => ?_) (fun hf => ?_)
          · refine r_iconst (pc' := 39) C dX6_readClauses_38 rfl ?_
            cases hf
            exact r_zret C (Or.inl rfl) dX6_readClauses_39
          · refine r_aload_n (pc' := 41) (f4 := 0) (i := 0) C 0 rfl rfl dX6_readClauses_40 rfl ?_
            refine q_getI (pc' := 44) (j := 2) C (K_148 hF) fb_6_2 wd_241 (Or.inl rfl) dX6_readClauses_41 rfl ?_
            refine r_aload_n (pc' := 45) (f4 := 0) (i := 0) C 0 rfl rfl dX6_readClauses_44 rfl ?_
            refine q_getI (pc' := 48) (j := 1) C (K_148 hF) fb_6_1 wd_239 (Or.inl rfl) dX6_readClauses_45 rfl ?_
            refine r_icmp_ne (pc' := 51) (tgt := 53) C rfl rfl hf dX6_readClauses_48 (by decide) rfl (fun hf => ?_) (fun hf => ?_)
            · refine r_iconst (pc' := 52) C dX6_readClauses_51 rfl ?_
              cases hf
              exact r_zret C (Or.inr rfl) dX6_readClauses_52
            · refine r_iinc (pc' := 56) (i := 2) (L' := [(2, zI (x2 + 1)), (0, zP bs 148), (1, zP bs x1)]) C 2 rfl (by decide) rfl dX6_readClauses_53 rfl ?_
              refine r_goto (tgt := 11) C dX6_readClauses_56 (by decide) ?_
              refine V.sub (L' := [(0, zP bs 148), (1, zP bs x1), (2, zI (x2 + 1))]) [1, 2, 0] rfl ?_
              exact ih11 _ _ hf
      · refine r_aload_n (pc' := 31) (f4 := 0) (i := 0) C 0 rfl rfl dX6_readClauses_30 rfl ?_
        refine r_aload_n (pc' := 32) (f4 := 1) (i := 1) C 1 rfl rfl dX6_readClauses_31 rfl ?_
        obtain ⟨q4, hq4, hf⟩ := bind_in hf
        refine q_callV (pc' := 35) C (t_xd_readClause hF hx1 hq4) rfl (K_148 hF) cl_6 wv_RX6_31 ⟨Nat.le_of_ble_eq_true rfl, Nat.le_of_ble_eq_true rfl⟩ rfl rfl (Nat.le_of_ble_eq_true rfl) dX6_readClauses_32 rfl ⟨Nat.le_of_ble_eq_true rfl, Nat.le_of_ble_eq_true rfl⟩ ?_
        refine r_if_ne (pc' := 38) (tgt := 40) C rfl hf dX6_readClauses_35 (by decide) rfl (fun hf => ?_) (fun hf => ?_)
        · refine r_iconst (pc' := 39) C dX6_readClauses_38 rfl ?_
          cases hf
          exact r_zret C (Or.inl rfl) dX6_readClauses_39
        · refine r_aload_n (pc' := 41) (f4 := 0) (i := 0) C 0 rfl rfl dX6_readClauses_40 rfl ?_
          refine q_getI (pc' := 44) (j := 2) C (K_148 hF) fb_6_2 wd_241 (Or.inl rfl) dX6_readClauses_41 rfl ?_
          refine r_aload_n (pc' := 45) (f4 := 0) (i := 0) C 0 rfl rfl dX6_readClauses_44 rfl ?_
          refine q_getI (pc' := 48) (j := 1) C (K_148 hF) fb_6_1 wd_239 (Or.inl rfl) dX6_readClauses_45 rfl ?_
          refine r_icmp_ne (pc' := 51) (tgt := 53) C rfl rfl hf dX6_readClauses_48 (by decide) rfl (fun hf => ?_) (fun hf => ?_)
          · refine r_iconst (pc' := 52) C dX6_readClauses_51 rfl ?_
            cases hf
            exact r_zret C (Or.inr rfl) dX6_readClauses_52
          · refine r_iinc (pc' := 56) (i := 2) (L' := [(2, zI (x2 + 1)), (0, zP bs 148), (1, zP bs x1)]) C 2 rfl (by decide) rfl dX6_readClauses_53 rfl ?_
            refine r_goto (tgt := 11) C dX6_readClauses_56 (by decide) ?_
            refine V.sub (L' := [(0, zP bs 148), (1, zP bs x1), (2, zI (x2 + 1))]) [1, 2, 0] rfl ?_
            exact ih11 _ _ hf
    · refine r_iconst (pc' := 60) C dX6_readClauses_59 rfl ?_
      cases hf
      exact r_zret C (Or.inl rfl) dX6_readClauses_60
set_option maxHeartbeats 4000000 in
set_option maxRecDepth 100000 in
theorem t_xd_readClauses {S : SS} (hF : Fx S) {h : HH} {a1 : Int} (ha1 : isO a1) {res : Int × HH} (hf : xd_readClauses h a1 = some res) : CM yX6_readClauses cX6_readClauses 3 (some Jvm.ClassFile.FieldType.boolean) 59 2266 0 0 (fun bs => [zP bs 148, zP bs a1]) h S (fun _ => some (zI res.1)) res.2 S := by
  refine CM.intro (own := RX6) (by decide) rfl (fun _ => Nat.le_of_ble_eq_true rfl) ?_
  intro D dT bs p l e s m args below meth c C
  show V D dT bs 3 p l e rm_xd_readClauses s m args below meth c 0 0 _ h S 0 [(0, zP bs 148), (1, zP bs a1)] []
  unfold xd_readClauses at hf
  refine r_aload_n (pc' := 1) (f4 := 1) (i := 1) C 1 rfl rfl dX6_readClauses_0 rfl ?_
  obtain ⟨q1, hq1, hf⟩ := bind_in hf
  refine q_callVv (pc' := 4) C (t_xo_clear hF ha1 hq1) rfl (KO hF ha1) cl_5 wv_RX6_19 ⟨Nat.le_of_ble_eq_true rfl, Nat.le_of_ble_eq_true rfl⟩ rfl rfl (Nat.le_of_ble_eq_true rfl) dX6_readClauses_1 rfl ⟨Nat.le_of_ble_eq_true rfl, Nat.le_of_ble_eq_true rfl⟩ ?_
  refine r_aload_n (pc' := 5) (f4 := 0) (i := 0) C 0 rfl rfl dX6_readClauses_4 rfl ?_
  refine r_iconst (pc' := 6) C dX6_readClauses_5 rfl ?_
  refine q_putI (pc' := 9) (j := 2) C (K_148 hF) fb_6_2 fp_6_2 wd_241 (Or.inl rfl) (Or.inl rfl) rfl rfl dX6_readClauses_6 rfl ?_
  refine r_iconst (pc' := 10) C dX6_readClauses_9 rfl ?_
  refine r_istore_n (pc' := 11) (f4 := 2) (i := 2) (L' := [(2, zI 0), (0, zP bs 148), (1, zP bs a1)]) C rfl (by decide) rfl dX6_readClauses_10 rfl ?_
  refine V.sub (L' := [(0, zP bs 148), (1, zP bs a1), (2, zI 0)]) [1, 2, 0] rfl ?_
  refine w_xd_readClauses_L11 hF C _ ha1 _ _ _ hf

/- WassailEnemies.orchard()I -/
def x_orchard (h : HH) : Option (Int × HH) :=
  if ww (h 0 6) < 6 then (ck (ww (h 0 6)) 6 <| (xd_readClauses h (175 + 3 * (ww (h 0 6)))).bind fun q2 => if ww q2.1 = 0 then (some ((-10) - ((u2 q2.2 148 1 0) 148 2), u2 q2.2 148 1 0)) else (some (((u2 (u2 (u2 q2.2 148 1 0) 1 11 ((175 + 3 * (ww (h 0 6))) + 1)) 0 6 (((u2 (u2 q2.2 148 1 0) 1 11 ((175 + 3 * (ww (h 0 6))) + 1)) 0 6) + 1)) 0 6) - 1, u2 (u2 (u2 q2.2 148 1 0) 1 11 ((175 + 3 * (ww (h 0 6))) + 1)) 0 6 (((u2 (u2 q2.2 148 1 0) 1 11 ((175 + 3 * (ww (h 0 6))) + 1)) 0 6) + 1)))) else (some (-4, h))
abbrev rm_x_orchard : Room := { frames := 60, cells := 0, slots := 0, locals := 2288 }
set_option maxHeartbeats 4000000 in
set_option maxRecDepth 100000 in
theorem t_x_orchard {S : SS} (hF : Fx S) {h : HH} {res : Int × HH} (hf : x_orchard h = some res) : CM yX11_orchard cX11_orchard 3 (some Jvm.ClassFile.FieldType.int) 60 2288 0 0 (fun bs => [zP bs 0]) h S (fun _ => some (zI res.1)) res.2 S := by
  refine CM.intro (own := RX11) (by decide) rfl (fun _ => Nat.le_of_ble_eq_true rfl) ?_
  intro D dT bs p l e s m args below meth c C
  show V D dT bs 3 p l e rm_x_orchard s m args below meth c 0 0 _ h S 0 [(0, zP bs 0)] []
  unfold x_orchard at hf
  refine r_aload_n (pc' := 1) (f4 := 0) (i := 0) C 0 rfl rfl dX11_orchard_0 rfl ?_
  refine q_getI (pc' := 4) (j := 6) C (K_0 hF) fb_11_6 wd_317 (Or.inl rfl) dX11_orchard_1 rfl ?_
  refine r_bipush (pc' := 6) C rfl dX11_orchard_4 rfl ?_
  refine r_icmp_lt (pc' := 9) (tgt := 12) C rfl ww_n6 hf dX11_orchard_6 (by decide) rfl (fun hf => ?_) (fun hf => ?_)
  · refine r_aload_n (pc' := 13) (f4 := 0) (i := 0) C 0 rfl rfl dX11_orchard_12 rfl ?_
    refine q_getP (pc' := 16) (j := 5) C (K_0 hF) fb_11_5 (by decide) wd_316 (Or.inl rfl) (F_0_5 hF) (by decide) dX11_orchard_13 rfl ?_
    refine r_aload_n (pc' := 17) (f4 := 0) (i := 0) C 0 rfl rfl dX11_orchard_16 rfl ?_
    refine q_getI (pc' := 20) (j := 6) C (K_0 hF) fb_11_6 wd_317 (Or.inl rfl) dX11_orchard_17 rfl ?_
    obtain ⟨hi1, hf⟩ := ck_in hf
    refine r_aaldP (pc' := 21) (t := 6) C (K_150 hF) (by decide) (by decide) (by decide) (by decide) rfl rfl hi1 (FL150 hF hi1) (Int.add_nonneg (by decide) (Int.mul_nonneg (by decide) (hi1).1)) dX11_orchard_20 rfl ?_
    refine r_astore_n (pc' := 22) (f4 := 1) (i := 1) (L' := [(1, zP bs (175 + 3 * (ww (h 0 6)))), (0, zP bs 0)]) C rfl (by decide) rfl dX11_orchard_21 rfl ?_
    refine r_aload_n (pc' := 23) (f4 := 0) (i := 0) C 1 rfl rfl dX11_orchard_22 rfl ?_
    refine q_getP (pc' := 26) (j := 4) C (K_0 hF) fb_11_4 (by decide) wd_315 (Or.inl rfl) (F_0_4 hF) (by decide) dX11_orchard_23 rfl ?_
    refine r_aload_n (pc' := 27) (f4 := 1) (i := 1) C 0 rfl rfl dX11_orchard_26 rfl ?_
    obtain ⟨q2, hq2, hf⟩ := bind_in hf
    refine q_callV (pc' := 30) C (t_xd_readClauses hF (isO_at hi1) hq2) rfl (K_148 hF) cl_6 wv_RX11_149 ⟨Nat.le_of_ble_eq_true rfl, Nat.le_of_ble_eq_true rfl⟩ rfl rfl (Nat.le_of_ble_eq_true rfl) dX11_orchard_27 rfl ⟨Nat.le_of_ble_eq_true rfl, Nat.le_of_ble_eq_true rfl⟩ ?_
    refine r_istore_n (pc' := 31) (f4 := 2) (i := 2) (L' := [(2, zI q2.1), (1, zP bs (175 + 3 * (ww (h 0 6)))), (0, zP bs 0)]) C rfl (by decide) rfl dX11_orchard_30 rfl ?_
    refine r_aload_n (pc' := 32) (f4 := 0) (i := 0) C 2 rfl rfl dX11_orchard_31 rfl ?_
    refine q_getP (pc' := 35) (j := 4) C (K_0 hF) fb_11_4 (by decide) wd_315 (Or.inl rfl) (F_0_4 hF) (by decide) dX11_orchard_32 rfl ?_
    refine r_iconst (pc' := 36) C dX11_orchard_35 rfl ?_
    refine q_putI (pc' := 39) (j := 1) C (K_148 hF) fb_6_1 fp_6_1 wd_240 (Or.inl rfl) (Or.inl rfl) rfl rfl dX11_orchard_36 rfl ?_
    refine r_iload_n (pc' := 40) (f4 := 2) (i := 2) C 0 rfl rfl dX11_orchard_39 rfl ?_
    refine r_if_ne (pc' := 43) (tgt := 54) C rfl hf dX11_orchard_40 (by decide) rfl (fun hf => ?_) (fun hf => ?_)
    · refine r_bipush (pc' := 45) C rfl dX11_orchard_43 rfl ?_
      refine r_aload_n (pc' := 46) (f4 := 0) (i := 0) C 2 rfl rfl dX11_orchard_45 rfl ?_
      refine q_getP (pc' := 49) (j := 4) C (K_0 hF) fb_11_4 (by decide) wd_315 (Or.inl rfl) (F_0_4 hF) (by decide) dX11_orchard_46 rfl ?_
      refine q_getI (pc' := 52) (j := 2) C (K_148 hF) fb_6_2 wd_242 (Or.inl rfl) dX11_orchard_49 rfl ?_
      refine r_isub (pc' := 53) C dX11_orchard_52 rfl ?_
      cases hf
      exact r_iret C dX11_orchard_53
    · refine r_aload_n (pc' := 55) (f4 := 0) (i := 0) C 2 rfl rfl dX11_orchard_54 rfl ?_
      refine q_getP (pc' := 58) (j := 0) C (K_0 hF) fb_11_0 (by decide) wd_311 (Or.inl rfl) (F_0_0 hF) (by decide) dX11_orchard_55 rfl ?_
      refine r_aload_n (pc' := 59) (f4 := 1) (i := 1) C 1 rfl rfl dX11_orchard_58 rfl ?_
      refine r_putDP (pc' := 62) C (K_1 hF) uin_10 fb_10_11.2.2.2.2 wd_202 rfl (by have h1 := pO0 (isO_at hi1); omega) dX11_orchard_59 rfl ?_
      refine r_aload_n (pc' := 63) (f4 := 0) (i := 0) C 2 rfl rfl dX11_orchard_62 rfl ?_
      refine r_dup (pc' := 64) C rfl dX11_orchard_63 rfl ?_
      refine q_getI (pc' := 67) (j := 6) C (K_0 hF) fb_11_6 wd_317 (Or.inl rfl) dX11_orchard_64 rfl ?_
      refine r_iconst (pc' := 68) C dX11_orchard_67 rfl ?_
      refine r_iadd (pc' := 69) C dX11_orchard_68 rfl ?_
      refine q_putI (pc' := 72) (j := 6) C (K_0 hF) fb_11_6 fp_11_6 wd_317 (Or.inl rfl) (Or.inl rfl) rfl rfl dX11_orchard_69 rfl ?_
      refine r_aload_n (pc' := 73) (f4 := 0) (i := 0) C 2 rfl rfl dX11_orchard_72 rfl ?_
      refine q_getI (pc' := 76) (j := 6) C (K_0 hF) fb_11_6 wd_317 (Or.inl rfl) dX11_orchard_73 rfl ?_
      refine r_iconst (pc' := 77) C dX11_orchard_76 rfl ?_
      refine r_isub (pc' := 78) C dX11_orchard_77 rfl ?_
      cases hf
      exact r_iret C dX11_orchard_78
  · refine r_bipush (pc' := 11) C rfl dX11_orchard_9 rfl ?_
    cases hf
    exact r_iret C dX11_orchard_11
end
