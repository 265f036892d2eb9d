section ZG
variable {D : va_G} {dT : ZT} {bs nL : Nat} {own : String} {cc : ByteArray} {ret : Option FieldType} {p : Program} {l : Launch} {e : Env} {R : Room} {s : State} {m : MethodId} {args : Array Value} {below : List Frame} {meth : Method} {c : Code} {cells slots : Nat} {Q : State → Prop} {h : HH} {S : SS} {pc pc' : Nat} {L : List (Nat × Value)} {st : List Value}
/-- a call on an old Integer -/
theorem r_callVB (C : Cx D dT bs own cc nL ret p s m args meth c) {y : MethodName} {bytes : ByteArray} {mL fr lo mc ms ix n : Nat} {rt : Option FieldType} {w : Int} {As rest : List Value} {av : ZT → Nat → List Value} {v : ZT → Nat → Option Value} {h' : HH} {S' : SS} (hM : CMD y bytes mL rt fr lo mc ms av h S v h' S') (hav : av dT bs = .ref (dT.2.1 w) :: As) (h0 : -128 ≤ w) (h1 : w ≤ 127) (hG : WV own ix "java/lang/Integer" y bytes mL rt n) (hR : RM R fr mL lo) (hn : As.length = n) (hst : st = As.reverse ++ .ref (dT.2.1 w) :: rest) (hW : (rest.map fun v => v.category).sum ≤ 8) (hd : decode cc pc = .ok (.invokevirtual ix, 3)) (hp : pc + 3 = pc') (hf : cells + mc ≤ R.cells ∧ slots + ms ≤ R.slots)
    (kk : V D dT bs nL p l e R s m args below meth c (cells + mc) (slots + ms) Q h' S' pc' L ((v dT bs).toList ++ rest)) : V D dT bs nL p l e R s m args below meth c cells slots Q h S pc L st := by
  intro H locs ls hP hS hl
  subst hp
  subst hst
  have hB : va_O "java/lang/Integer" (dT.2.1 ((((w + 128).toNat : Nat) : Int) - 128)) (AA bs) s s.heap := (zx_box C).1 (w + 128).toNat (by omega)
  rw [show (((w + 128).toNat : Nat) : Int) - 128 = w from by omega] at hB
  obtain ⟨cellV, g1, g2, g3, -⟩ := hB.kept hS.2.1
  have hM' := hM l D dT bs
  rw [hav] at hM'
  refine z_call (va_runV (As := As) (rest := rest) (b := dT.2.1 w) (g := F0 m pc ls (As.reverse ++ .ref (dT.2.1 w) :: rest)) ⟨C.1, C.2.1, C.2.2.1, C.2.2.2.1, C.2.2.2.2.1⟩ hM' (cwV n C.2.2.2.2.1 hG.1 rfl rfl rfl hG.2 hR) ⟨PP_blind, ⟨cellV, g1, g2, g3⟩, fun U hU hW => PP_at C hP hS hU hW⟩ rfl hn hl.1 rfl (lv_room hW) hd hf) hS (fun H1 locs1 hP1 hS1 => ?_)
  exact kk H1 locs1 ls hP1 hS1 hl
theorem r_castB (C : Cx D dT bs own cc nL ret p s m args meth c) {ix : Nat} {w : Int} (h0 : -128 ≤ w) (h1 : w ≤ 127) (hlink : Cond.classLink own ix "java/lang/Integer" ∈ lwb) (hd : decode cc pc = .ok (.checkcast ix, 3)) (hp : pc + 3 = pc') (kk : V D dT bs nL p l e R s m args below meth c cells slots Q h S pc' L (.ref (dT.2.1 w) :: st)) : V D dT bs nL p l e R s m args below meth c cells slots Q h S pc L (.ref (dT.2.1 w) :: st) := by
  intro H locs ls hP hS hl
  subst hp
  have hB : va_O "java/lang/Integer" (dT.2.1 ((((w + 128).toNat : Nat) : Int) - 128)) (AA bs) s s.heap := (zx_box C).1 (w + 128).toNat (by omega)
  rw [show (((w + 128).toNat : Nat) : Int) - 128 = w from by omega] at hB
  obtain ⟨cellV, g1, g2, g3, -⟩ := hB.kept hS.2.1
  obtain ⟨cI, kI, i1, i2, i3, -⟩ := Cond.instantiable_spec (C.2.2.2.2.1 _ wd_960)
  exact va_castS C.1 C.2.1 (nm := "java/lang/Integer") C.2.2.2.1 (C.2.2.2.2.1 _ hlink) (cC := cI) ⟨i1, kI, i2, i3⟩ ⟨cellV, g1, g2, g3⟩ hd (kk H locs ls hP hS hl)
/-- get, cast, intValue -/
theorem r_trget (C : Cx D dT bs own cc nL ret p s m args meth c) (hF : Fx S) {ix ix2 ix3 : Nat} {i r : Int} (hq : tr_get S h i = some r) (hG1 : WV own ix RJx4a65c yJx4a65c_get_915e3 cJx4a65c_get_915e3 2 (some (.object "java/lang/Object")) 1) (hlink : Cond.classLink own ix2 "java/lang/Integer" ∈ lwb) (hG3 : WV own ix3 "java/lang/Integer" yJ6_intValue_8abf5 cJ6_intValue_8abf5 1 (some .int) 0) (hfr : 3 ≤ R.frames) (hlo : 64 ≤ R.locals) (hW : (st.map fun v => v.category).sum ≤ 8) (hz : cells ≤ R.cells ∧ slots ≤ R.slots) (hd : decode cc pc = .ok (.invokevirtual ix, 3)) (hd2 : decode cc (pc + 3) = .ok (.checkcast ix2, 3)) (hd3 : decode cc (pc + 6) = .ok (.invokevirtual ix3, 3)) (hp : pc + 9 = pc') (kk : V D dT bs nL p l e R s m args below meth c cells slots Q h S pc' L (zI r :: st)) : V D dT bs nL p l e R s m args below meth c cells slots Q h S pc L (zI i :: zP bs 151 :: st) := by
  unfold tr_get at hq
  split at hq
  · next hc =>
    obtain ⟨a1, a2, a3, a4, a5, a6, a7, a8, a9, b1, b2⟩ := hc
    cases hq
    refine r_callVD (n := 1) (pc' := pc + 3) (ci := 13) (st := zI i :: zP bs 151 :: st) (rest := st) C (t_lget (cap := S.1 (h 151 1 - 1) (-2)) hF ⟨a1, ⟨a2, a3, a4, rfl⟩, by omega, a8⟩ a5 a6 a7 a9) rfl (K_151 hF) cl_13 hG1 ⟨by omega, by omega⟩ rfl rfl hW hd rfl hz ?_
    refine r_castB (pc' := pc + 6) C b1 b2 hlink hd2 rfl ?_
    exact r_callVB (n := 0) (pc' := pc') C (t_intValue b1 b2) rfl b1 b2 hG3 ⟨by omega, by omega⟩ rfl rfl hW hd3 (by omega) hz kk
  · cases hq
end ZG
def ckK4 {α : Type} (S : SS) (q : Int) (x : Option α) : Option α := if S.1 q (-1) = 4 ∨ S.1 q (-1) = 8 then x else none
theorem ckK4_in {α : Type} {S : SS} {q : Int} {x : Option α} {r : α} (h : ckK4 S q x = some r) : (S.1 q (-1) = 4 ∨ S.1 q (-1) = 8) ∧ x = some r := by
  unfold ckK4 at h
  split at h
  · next c => exact ⟨c, h⟩
  · cases h
theorem fb_11_7 : FB 11 7 13 RX11 TX11 true := ⟨by decide, rfl, uin_11, by decide, by decide +kernel⟩
theorem wv_RX11_79 : WV RX11 79 RX11 yX11_newHater cX11_newHater 4 (some (Jvm.ClassFile.FieldType.object "WassailEnemies$Hater")) 3 := ⟨lwb_callV wd_358 wd_360 wd_0 wd_95 wd_361, rfl, by decide, by decide, by decide +kernel⟩
theorem wv_RX11_83 : WV RX11 83 RX10 yX10_welcome cX10_welcome 4 (some Jvm.ClassFile.FieldType.int) 2 := ⟨lwb_callV wd_473 wd_474 wd_475 wd_96 wd_476, rfl, by decide, by decide, by decide +kernel⟩
theorem ws_RX0_23 : WS RX0 23 yJ6_valueOf_2dffe cJ6_valueOf_2dffe 1 (some (Jvm.ClassFile.FieldType.object "java/lang/Integer")) 1 := ⟨lwb_callS wd_1082 wd_953 wd_120 wd_954, by decide, by decide, by decide +kernel⟩
theorem ws_RX1_23 : WS RX1 23 yJ6_valueOf_2dffe cJ6_valueOf_2dffe 1 (some (Jvm.ClassFile.FieldType.object "java/lang/Integer")) 1 := ⟨lwb_callS wd_1032 wd_953 wd_120 wd_954, by decide, by decide, by decide +kernel⟩
theorem ws_RX2_23 : WS RX2 23 yJ6_valueOf_2dffe cJ6_valueOf_2dffe 1 (some (Jvm.ClassFile.FieldType.object "java/lang/Integer")) 1 := ⟨lwb_callS wd_1048 wd_953 wd_120 wd_954, by decide, by decide, by decide +kernel⟩
theorem ws_RX3_23 : WS RX3 23 yJ6_valueOf_2dffe cJ6_valueOf_2dffe 1 (some (Jvm.ClassFile.FieldType.object "java/lang/Integer")) 1 := ⟨lwb_callS wd_952 wd_953 wd_120 wd_954, by decide, by decide, by decide +kernel⟩
theorem ws_RX4_13 : WS RX4 13 yJ6_valueOf_2dffe cJ6_valueOf_2dffe 1 (some (Jvm.ClassFile.FieldType.object "java/lang/Integer")) 1 := ⟨lwb_callS wd_1092 wd_953 wd_120 wd_954, by decide, by decide, by decide +kernel⟩
theorem ws_RX8_32 : WS RX8 32 yJ6_valueOf_2dffe cJ6_valueOf_2dffe 1 (some (Jvm.ClassFile.FieldType.object "java/lang/Integer")) 1 := ⟨lwb_callS wd_1042 wd_953 wd_120 wd_954, by decide, by decide, by decide +kernel⟩
theorem ws_RX9_17 : WS RX9 17 yJ6_valueOf_2dffe cJ6_valueOf_2dffe 1 (some (Jvm.ClassFile.FieldType.object "java/lang/Integer")) 1 := ⟨lwb_callS wd_1061 wd_953 wd_120 wd_954, by decide, by decide, by decide +kernel⟩
theorem wva_RX0_29 : WV RX0 29 RJx4a65c yJx4a65c_add_9ea2d cJx4a65c_add_9ea2d 2 (some Jvm.ClassFile.FieldType.boolean) 1 := ⟨lwb_callV wd_1083 wd_973 wd_974 wd_103 wd_975, rfl, by decide, by decide, by decide +kernel⟩
theorem wva_RX1_29 : WV RX1 29 RJx4a65c yJx4a65c_add_9ea2d cJx4a65c_add_9ea2d 2 (some Jvm.ClassFile.FieldType.boolean) 1 := ⟨lwb_callV wd_1033 wd_973 wd_974 wd_103 wd_975, rfl, by decide, by decide, by decide +kernel⟩
theorem wva_RX11_293 : WV RX11 293 RJx4a65c yJx4a65c_clear_da8c8 cJx4a65c_clear_da8c8 4 (Option.none : Option Jvm.ClassFile.FieldType) 0 := ⟨lwb_callV wd_941 wd_942 wd_943 wd_103 wd_944, rfl, by decide, by decide, by decide +kernel⟩
theorem wva_RX11_305 : WV RX11 305 RJx4a65c yJx4a65c_size_8abf5 cJx4a65c_size_8abf5 1 (some Jvm.ClassFile.FieldType.int) 0 := ⟨lwb_callV wd_1106 wd_1107 wd_1108 wd_103 wd_1109, rfl, by decide, by decide, by decide +kernel⟩
theorem wva_RX11_308 : WV RX11 308 RJx4a65c yJx4a65c_get_915e3 cJx4a65c_get_915e3 2 (some (Jvm.ClassFile.FieldType.object "java/lang/Object")) 1 := ⟨lwb_callV wd_1110 wd_1111 wd_1112 wd_103 wd_1113, rfl, by decide, by decide, by decide +kernel⟩
theorem wva_RX2_29 : WV RX2 29 RJx4a65c yJx4a65c_add_9ea2d cJx4a65c_add_9ea2d 2 (some Jvm.ClassFile.FieldType.boolean) 1 := ⟨lwb_callV wd_1049 wd_973 wd_974 wd_103 wd_975, rfl, by decide, by decide, by decide +kernel⟩
theorem wva_RX3_29 : WV RX3 29 RJx4a65c yJx4a65c_add_9ea2d cJx4a65c_add_9ea2d 2 (some Jvm.ClassFile.FieldType.boolean) 1 := ⟨lwb_callV wd_972 wd_973 wd_974 wd_103 wd_975, rfl, by decide, by decide, by decide +kernel⟩
theorem wva_RX4_19 : WV RX4 19 RJx4a65c yJx4a65c_add_9ea2d cJx4a65c_add_9ea2d 2 (some Jvm.ClassFile.FieldType.boolean) 1 := ⟨lwb_callV wd_1093 wd_973 wd_974 wd_103 wd_975, rfl, by decide, by decide, by decide +kernel⟩
theorem wva_RX8_38 : WV RX8 38 RJx4a65c yJx4a65c_add_9ea2d cJx4a65c_add_9ea2d 2 (some Jvm.ClassFile.FieldType.boolean) 1 := ⟨lwb_callV wd_1043 wd_973 wd_974 wd_103 wd_975, rfl, by decide, by decide, by decide +kernel⟩
theorem wva_RX9_23 : WV RX9 23 RJx4a65c yJx4a65c_add_9ea2d cJx4a65c_add_9ea2d 2 (some Jvm.ClassFile.FieldType.boolean) 1 := ⟨lwb_callV wd_1062 wd_973 wd_974 wd_103 wd_975, rfl, by decide, by decide, by decide +kernel⟩
theorem wvi_RX11_314 : WV RX11 314 "java/lang/Integer" yJ6_intValue_8abf5 cJ6_intValue_8abf5 1 (some Jvm.ClassFile.FieldType.int) 0 := ⟨lwb_callV wd_1123 wd_1124 wd_1125 wd_120 wd_1126, rfl, by decide, by decide, by decide +kernel⟩
theorem wu_RX1_39 : WU RX1 39 yX9_spits cX9_spits 2 (some Jvm.ClassFile.FieldType.int) 1 := ⟨lwb_callSU wd_1058 wd_1798 wd_442 wd_1059 wd_107 wd_1060, by decide, by decide +kernel⟩
theorem wu_RX3_35 : WU RX3 35 yX2_sings cX2_sings 2 (some Jvm.ClassFile.FieldType.int) 1 := ⟨lwb_callSU wd_1028 wd_948 wd_420 wd_946 wd_106 wd_1047, by decide, by decide +kernel⟩
theorem wu_RX4_25 : WU RX4 25 yX2_tells cX2_tells 2 (some Jvm.ClassFile.FieldType.int) 1 := ⟨lwb_callSU wd_1094 wd_1078 wd_431 wd_1076 wd_106 wd_1100, by decide, by decide +kernel⟩
theorem wu_RX9_29 : WU RX9 29 yX2_spits cX2_spits 2 (some Jvm.ClassFile.FieldType.int) 1 := ⟨lwb_callSU wd_1063 wd_1053 wd_409 wd_1051 wd_106 wd_1073, by decide, by decide +kernel⟩
section
variable {D : va_G} {dT : ZT} {bs : Nat} {p : Program} {l : Launch} {e : Env} {s : State} {m : MethodId} {args : Array Value} {below : List Frame} {meth : Method} {c : Code} {S : SS}
/- WassailEnemies$Hater.sings(I)I -/
noncomputable def xh2_sings (S : SS) (h : HH) (a0 : Int) (a1 : Int) : Option (Int × HH × SS) :=
  (tr_add 10 S h).bind fun q1 => ckX S q1.2 <| some (a1 + (q1.1 a0 1), q1.1, q1.2)
abbrev rm_xh2_sings : Room := { frames := 7, cells := 1, slots := 15, locals := 231 }
set_option maxHeartbeats 4000000 in
set_option maxRecDepth 100000 in
theorem t_xh2_sings {S : SS} (hF : Fx S) {h : HH} {a0 : Int} (ha0 : isHb S a0 = true) {a1 : Int} {res : Int × HH × SS} (hf : xh2_sings S h a0 a1 = some res) : CM yX2_sings cX2_sings 2 (some Jvm.ClassFile.FieldType.int) 7 231 1 15 (fun bs => [zP bs a0, zI a1]) h S (fun _ => some (zI res.1)) res.2.1 res.2.2 := by
  refine CM.intro (own := RX2) (by decide) rfl (fun _ => Nat.le_of_ble_eq_true rfl) ?_
  intro D dT bs p l e s m args below meth c C
  show V D dT bs 2 p l e rm_xh2_sings s m args below meth c 0 0 _ h S 0 [(0, zP bs a0), (1, zI a1)] []
  unfold xh2_sings at hf
  refine r_aload_n (pc' := 1) (f4 := 0) (i := 0) C 0 rfl rfl dX2_sings_0 rfl ?_
  refine q_getHT (pc' := 4) C ha0 wd_388 (Or.inl rfl) dX2_sings_1 rfl ?_
  refine r_bipush (pc' := 6) C rfl dX2_sings_4 rfl ?_
  refine r_callSD (n := 1) (pc' := 9) C (t_valueOf (v := 10) (by decide) (by decide)) rfl ws_RX2_23 ⟨Nat.le_of_ble_eq_true rfl, Nat.le_of_ble_eq_true rfl⟩ rfl rfl (Nat.le_of_ble_eq_true rfl) dX2_sings_6 rfl ⟨Nat.le_of_ble_eq_true rfl, Nat.le_of_ble_eq_true rfl⟩ ?_
  obtain ⟨q1, hq1, hf⟩ := bind_in hf
  refine r_callVD (n := 1) (ci := 13) (pc' := 12) C (t_tr_add hF (by decide) hq1) rfl (K_151 hF) cl_13 wva_RX2_29 ⟨Nat.le_of_ble_eq_true rfl, Nat.le_of_ble_eq_true rfl⟩ rfl rfl (Nat.le_of_ble_eq_true rfl) dX2_sings_9 rfl ⟨Nat.le_of_ble_eq_true rfl, Nat.le_of_ble_eq_true rfl⟩ ?_
  obtain ⟨hx2, hf⟩ := ckX_in hf
  have hF := hF.ext hx2
  have ha0 := isHb_ext hx2 ha0
  refine r_pop (pc' := 13) C rfl dX2_sings_12 rfl ?_
  refine r_iload_n (pc' := 14) (f4 := 1) (i := 1) C 1 rfl rfl dX2_sings_13 rfl ?_
  refine r_aload_n (pc' := 15) (f4 := 0) (i := 0) C 0 rfl rfl dX2_sings_14 rfl ?_
  refine q_getH (pc' := 18) (j := 1) C ha0 (by decide) wd_374 (Or.inl rfl) dX2_sings_15 rfl ?_
  refine r_iadd (pc' := 19) C dX2_sings_18 rfl ?_
  cases hf
  refine V.wide (k := 1) (n := 15) (Nat.le_of_ble_eq_true rfl) (Nat.le_of_ble_eq_true rfl) ?_
  exact r_iret C dX2_sings_19

/- WassailEnemies$Lad.sings(I)I -/
noncomputable def xh3_sings (S : SS) (h : HH) (a0 : Int) (a1 : Int) : Option (Int × HH × SS) :=
  (tr_add 30 S h).bind fun q1 => ckX S q1.2 <| (xh2_sings q1.2 q1.1 a0 (a1 * 3)).bind fun q3 => ckX q1.2 q3.2.2 <| some (q3.1, q3.2.1, q3.2.2)
abbrev rm_xh3_sings : Room := { frames := 8, cells := 2, slots := 30, locals := 252 }
set_option maxHeartbeats 4000000 in
set_option maxRecDepth 100000 in
theorem t_xh3_sings {S : SS} (hF : Fx S) {h : HH} {a0 : Int} (ha0 : isHb S a0 = true) {a1 : Int} {res : Int × HH × SS} (hf : xh3_sings S h a0 a1 = some res) : CM yX3_sings cX3_sings 2 (some Jvm.ClassFile.FieldType.int) 8 252 2 30 (fun bs => [zP bs a0, zI a1]) h S (fun _ => some (zI res.1)) res.2.1 res.2.2 := by
  refine CM.intro (own := RX3) (by decide) rfl (fun _ => Nat.le_of_ble_eq_true rfl) ?_
  intro D dT bs p l e s m args below meth c C
  show V D dT bs 2 p l e rm_xh3_sings s m args below meth c 0 0 _ h S 0 [(0, zP bs a0), (1, zI a1)] []
  unfold xh3_sings at hf
  refine r_aload_n (pc' := 1) (f4 := 0) (i := 0) C 0 rfl rfl dX3_sings_0 rfl ?_
  refine q_getHT (pc' := 4) C ha0 wd_389 (Or.inr wd_390) dX3_sings_1 rfl ?_
  refine r_bipush (pc' := 6) C rfl dX3_sings_4 rfl ?_
  refine r_callSD (n := 1) (pc' := 9) C (t_valueOf (v := 30) (by decide) (by decide)) rfl ws_RX3_23 ⟨Nat.le_of_ble_eq_true rfl, Nat.le_of_ble_eq_true rfl⟩ rfl rfl (Nat.le_of_ble_eq_true rfl) dX3_sings_6 rfl ⟨Nat.le_of_ble_eq_true rfl, Nat.le_of_ble_eq_true rfl⟩ ?_
  obtain ⟨q1, hq1, hf⟩ := bind_in hf
  refine r_callVD (n := 1) (ci := 13) (pc' := 12) C (t_tr_add hF (by decide) hq1) rfl (K_151 hF) cl_13 wva_RX3_29 ⟨Nat.le_of_ble_eq_true rfl, Nat.le_of_ble_eq_true rfl⟩ rfl rfl (Nat.le_of_ble_eq_true rfl) dX3_sings_9 rfl ⟨Nat.le_of_ble_eq_true rfl, Nat.le_of_ble_eq_true rfl⟩ ?_
  obtain ⟨hx2, hf⟩ := ckX_in hf
  have hF := hF.ext hx2
  have ha0 := isHb_ext hx2 ha0
  refine r_pop (pc' := 13) C rfl dX3_sings_12 rfl ?_
  refine r_aload_n (pc' := 14) (f4 := 0) (i := 0) C 0 rfl rfl dX3_sings_13 rfl ?_
  refine r_iload_n (pc' := 15) (f4 := 1) (i := 1) C 1 rfl rfl dX3_sings_14 rfl ?_
  refine r_iconst (pc' := 16) C dX3_sings_15 rfl ?_
  refine r_imul (pc' := 17) C dX3_sings_16 rfl ?_
  obtain ⟨q3, hq3, hf⟩ := bind_in hf
  refine r_callSU (pc' := 20) C (t_xh2_sings hF ha0 hq3) rfl ha0 wu_RX3_35 ⟨Nat.le_of_ble_eq_true rfl, Nat.le_of_ble_eq_true rfl⟩ rfl rfl (Nat.le_of_ble_eq_true rfl) dX3_sings_17 rfl ⟨Nat.le_of_ble_eq_true rfl, Nat.le_of_ble_eq_true rfl⟩ ?_
  obtain ⟨hx4, hf⟩ := ckX_in hf
  have hF := hF.ext hx4
  have ha0 := isHb_ext hx4 ha0
  cases hf
  refine V.wide (k := 2) (n := 30) (Nat.le_of_ble_eq_true rfl) (Nat.le_of_ble_eq_true rfl) ?_
  exact r_iret C dX3_sings_20

/- WassailEnemies$Growler.sings(I)I -/
noncomputable def xh1_sings (S : SS) (h : HH) (a0 : Int) (a1 : Int) : Option (Int × HH × SS) :=
  (tr_add 50 S h).bind fun q1 => ckX S q1.2 <| (xh2_sings q1.2 q1.1 a0 a1).bind fun q3 => ckX q1.2 q3.2.2 <| some (-q3.1, q3.2.1, q3.2.2)
abbrev rm_xh1_sings : Room := { frames := 8, cells := 2, slots := 30, locals := 252 }
set_option maxHeartbeats 4000000 in
set_option maxRecDepth 100000 in
theorem t_xh1_sings {S : SS} (hF : Fx S) {h : HH} {a0 : Int} (ha0 : isHb S a0 = true) {a1 : Int} {res : Int × HH × SS} (hf : xh1_sings S h a0 a1 = some res) : CM yX1_sings cX1_sings 2 (some Jvm.ClassFile.FieldType.int) 8 252 2 30 (fun bs => [zP bs a0, zI a1]) h S (fun _ => some (zI res.1)) res.2.1 res.2.2 := by
  refine CM.intro (own := RX1) (by decide) rfl (fun _ => Nat.le_of_ble_eq_true rfl) ?_
  intro D dT bs p l e s m args below meth c C
  show V D dT bs 2 p l e rm_xh1_sings s m args below meth c 0 0 _ h S 0 [(0, zP bs a0), (1, zI a1)] []
  unfold xh1_sings at hf
  refine r_aload_n (pc' := 1) (f4 := 0) (i := 0) C 0 rfl rfl dX1_sings_0 rfl ?_
  refine q_getHT (pc' := 4) C ha0 wd_391 (Or.inr wd_392) dX1_sings_1 rfl ?_
  refine r_bipush (pc' := 6) C rfl dX1_sings_4 rfl ?_
  refine r_callSD (n := 1) (pc' := 9) C (t_valueOf (v := 50) (by decide) (by decide)) rfl ws_RX1_23 ⟨Nat.le_of_ble_eq_true rfl, Nat.le_of_ble_eq_true rfl⟩ rfl rfl (Nat.le_of_ble_eq_true rfl) dX1_sings_6 rfl ⟨Nat.le_of_ble_eq_true rfl, Nat.le_of_ble_eq_true rfl⟩ ?_
  obtain ⟨q1, hq1, hf⟩ := bind_in hf
  refine r_callVD (n := 1) (ci := 13) (pc' := 12) C (t_tr_add hF (by decide) hq1) rfl (K_151 hF) cl_13 wva_RX1_29 ⟨Nat.le_of_ble_eq_true rfl, Nat.le_of_ble_eq_true rfl⟩ rfl rfl (Nat.le_of_ble_eq_true rfl) dX1_sings_9 rfl ⟨Nat.le_of_ble_eq_true rfl, Nat.le_of_ble_eq_true rfl⟩ ?_
  obtain ⟨hx2, hf⟩ := ckX_in hf
  have hF := hF.ext hx2
  have ha0 := isHb_ext hx2 ha0
  refine r_pop (pc' := 13) C rfl dX1_sings_12 rfl ?_
  refine r_aload_n (pc' := 14) (f4 := 0) (i := 0) C 0 rfl rfl dX1_sings_13 rfl ?_
  refine r_iload_n (pc' := 15) (f4 := 1) (i := 1) C 1 rfl rfl dX1_sings_14 rfl ?_
  obtain ⟨q3, hq3, hf⟩ := bind_in hf
  refine q_callSUi (n := 1) (x := (⟨RX9, "sings", "(I)I"⟩ : MethodName)) (pc' := 18) C (t_xh2_sings hF ha0 hq3) rfl ha0 rfl wd_1034 wd_1035 wd_442 wd_409 wd_946 wd_106 wd_1047 (by decide) ⟨Nat.le_of_ble_eq_true rfl, Nat.le_of_ble_eq_true rfl⟩ rfl rfl (Nat.le_of_ble_eq_true rfl) dX1_sings_15 rfl ⟨Nat.le_of_ble_eq_true rfl, Nat.le_of_ble_eq_true rfl⟩ ?_
  obtain ⟨hx4, hf⟩ := ckX_in hf
  have hF := hF.ext hx4
  have ha0 := isHb_ext hx4 ha0
  refine r_ineg (pc' := 19) C dX1_sings_18 rfl ?_
  cases hf
  refine V.wide (k := 2) (n := 30) (Nat.le_of_ble_eq_true rfl) (Nat.le_of_ble_eq_true rfl) ?_
  exact r_iret C dX1_sings_19

/- WassailEnemies$Told.sings(I)I -/
noncomputable def xh8_sings (S : SS) (h : HH) (a0 : Int) (a1 : Int) : Option (Int × HH × SS) :=
  (tr_add 71 S h).bind fun q1 => ckX S q1.2 <| (xh2_sings q1.2 q1.1 a0 a1).bind fun q3 => ckX q1.2 q3.2.2 <| some (zxor q3.1 (q3.2.1 a0 2), q3.2.1, q3.2.2)
abbrev rm_xh8_sings : Room := { frames := 8, cells := 2, slots := 30, locals := 252 }
set_option maxHeartbeats 4000000 in
set_option maxRecDepth 100000 in
theorem t_xh8_sings {S : SS} (hF : Fx S) {h : HH} {a0 : Int} (ha0 : isHb S a0 = true) {a1 : Int} {res : Int × HH × SS} (hf : xh8_sings S h a0 a1 = some res) : CM yX8_sings cX8_sings 2 (some Jvm.ClassFile.FieldType.int) 8 252 2 30 (fun bs => [zP bs a0, zI a1]) h S (fun _ => some (zI res.1)) res.2.1 res.2.2 := by
  refine CM.intro (own := RX8) (by decide) rfl (fun _ => Nat.le_of_ble_eq_true rfl) ?_
  intro D dT bs p l e s m args below meth c C
  show V D dT bs 2 p l e rm_xh8_sings s m args below meth c 0 0 _ h S 0 [(0, zP bs a0), (1, zI a1)] []
  unfold xh8_sings at hf
  refine r_aload_n (pc' := 1) (f4 := 0) (i := 0) C 0 rfl rfl dX8_sings_0 rfl ?_
  refine q_getHT (pc' := 4) C ha0 wd_395 (Or.inr wd_396) dX8_sings_1 rfl ?_
  refine r_bipush (pc' := 6) C rfl dX8_sings_4 rfl ?_
  refine r_callSD (n := 1) (pc' := 9) C (t_valueOf (v := 71) (by decide) (by decide)) rfl ws_RX8_32 ⟨Nat.le_of_ble_eq_true rfl, Nat.le_of_ble_eq_true rfl⟩ rfl rfl (Nat.le_of_ble_eq_true rfl) dX8_sings_6 rfl ⟨Nat.le_of_ble_eq_true rfl, Nat.le_of_ble_eq_true rfl⟩ ?_
  obtain ⟨q1, hq1, hf⟩ := bind_in hf
  refine r_callVD (n := 1) (ci := 13) (pc' := 12) C (t_tr_add hF (by decide) hq1) rfl (K_151 hF) cl_13 wva_RX8_38 ⟨Nat.le_of_ble_eq_true rfl, Nat.le_of_ble_eq_true rfl⟩ rfl rfl (Nat.le_of_ble_eq_true rfl) dX8_sings_9 rfl ⟨Nat.le_of_ble_eq_true rfl, Nat.le_of_ble_eq_true rfl⟩ ?_
  obtain ⟨hx2, hf⟩ := ckX_in hf
  have hF := hF.ext hx2
  have ha0 := isHb_ext hx2 ha0
  refine r_pop (pc' := 13) C rfl dX8_sings_12 rfl ?_
  refine r_aload_n (pc' := 14) (f4 := 0) (i := 0) C 0 rfl rfl dX8_sings_13 rfl ?_
  refine r_iload_n (pc' := 15) (f4 := 1) (i := 1) C 1 rfl rfl dX8_sings_14 rfl ?_
  obtain ⟨q3, hq3, hf⟩ := bind_in hf
  refine q_callSUi (n := 1) (x := (⟨RX4, "sings", "(I)I"⟩ : MethodName)) (pc' := 18) C (t_xh2_sings hF ha0 hq3) rfl ha0 rfl wd_1044 wd_1045 wd_464 wd_431 wd_946 wd_106 wd_1047 (by decide) ⟨Nat.le_of_ble_eq_true rfl, Nat.le_of_ble_eq_true rfl⟩ rfl rfl (Nat.le_of_ble_eq_true rfl) dX8_sings_15 rfl ⟨Nat.le_of_ble_eq_true rfl, Nat.le_of_ble_eq_true rfl⟩ ?_
  obtain ⟨hx4, hf⟩ := ckX_in hf
  have hF := hF.ext hx4
  have ha0 := isHb_ext hx4 ha0
  refine r_aload_n (pc' := 19) (f4 := 0) (i := 0) C 0 rfl rfl dX8_sings_18 rfl ?_
  refine q_getH (pc' := 22) (j := 2) C ha0 (by decide) wd_385 (Or.inr wd_386) dX8_sings_19 rfl ?_
  refine r_ixor (pc' := 23) C dX8_sings_22 rfl ?_
  cases hf
  refine V.wide (k := 2) (n := 30) (Nat.le_of_ble_eq_true rfl) (Nat.le_of_ble_eq_true rfl) ?_
  exact r_iret C dX8_sings_23

noncomputable def d_sings (S : SS) (h : HH) (a0 a1 : Int) : Option (Int × HH × SS) :=
  if S.1 a0 (-1) = 0 then xh3_sings S h a0 a1 else
  if S.1 a0 (-1) = 1 then xh1_sings S h a0 a1 else
  if S.1 a0 (-1) = 3 then xh3_sings S h a0 a1 else
  if S.1 a0 (-1) = 4 then xh2_sings S h a0 a1 else
  if S.1 a0 (-1) = 8 then xh8_sings S h a0 a1 else
  if S.1 a0 (-1) = 9 then xh2_sings S h a0 a1 else
  xh2_sings S h a0 a1

set_option maxHeartbeats 4000000 in
theorem rd_RX2_35 {D : va_G} {dT : ZT} {bs nL : Nat} {p : Program} {l : Launch} {e : Env} {R : Room} {s : State} {m : MethodId} {args : Array Value} {below : List Frame} {meth : Method} {c : Code} {cells slots : Nat} {Q : State → Prop} {h : HH} {S : SS} {pc pc' : Nat} {L : List (Nat × Value)} {rest : List Value} (C : Cx D dT bs RX2 cX2_spits nL (some Jvm.ClassFile.FieldType.int) p s m args meth c) (hF : Fx S) {b x : Int} (hH : isHb S b = true) {r : Int × HH × SS} (hq : d_sings S h b x = some r) (hR : 9 ≤ R.frames ∧ 273 ≤ R.locals) (hz : cells + 2 ≤ R.cells ∧ slots + 30 ≤ R.slots) (hW : (rest.map fun v => v.category).sum ≤ 8) (hd : decode cX2_spits pc = .ok (.invokevirtual 35, 3)) (hp : pc + 3 = pc') (kk : V D dT bs nL p l e R s m args below meth c (cells + 2) (slots + 30) Q r.2.1 r.2.2 pc' L (zI r.1 :: rest)) : V D dT bs nL p l e R s m args below meth c cells slots Q h S pc L (zI x :: zP bs b :: rest) := by
  obtain ⟨h1, h2, h3, h4, h5⟩ := isHb_at hH
  rcases h3 with hc | hc | hc | hc | hc | hc | hc
  · have k1 : KD S b 0 0 := ⟨by omega, h2, hc, h4⟩
    have hq2 : xh3_sings S h b x = some r := by simpa [d_sings, hc] using hq
    exact r_callU C (t_xh3_sings hF hH hq2) rfl k1 ⟨by decide, show clX[0]? = some (RX0, TX0, 4) from rfl⟩ (va_cwO (x := (⟨RX2, "sings", "(I)I"⟩ : MethodName)) (owner := RX2) 1 C.2.2.2.2.1 (lwb_callO wd_1074 wd_948 wd_946 wd_949 wd_950 wd_108 wd_951) rfl rfl rfl (show Cond.code yX2_sings cX2_sings 2 (some .int) ∈ lwb from wd_1047) ⟨by decide, by decide, by decide +kernel⟩ ⟨Nat.le_trans (Nat.le_of_ble_eq_true rfl) hR.1, Nat.le_trans (Nat.le_of_ble_eq_true rfl) hR.2⟩) rfl rfl hW hd hp ⟨by omega, by omega⟩ (V.wide (k := cells + 2) (n := slots + 30) (by omega) (by omega) kk)
  · have k1 : KD S b 1 0 := ⟨by omega, h2, hc, h4⟩
    have hq2 : xh1_sings S h b x = some r := by simpa [d_sings, hc] using hq
    exact r_callU C (t_xh1_sings hF hH hq2) rfl k1 ⟨by decide, show clX[1]? = some (RX1, TX1, 4) from rfl⟩ (va_cwO (x := (⟨RX2, "sings", "(I)I"⟩ : MethodName)) (owner := RX2) 1 C.2.2.2.2.1 (lwb_callO wd_1074 wd_948 wd_946 wd_1029 wd_1030 wd_110 wd_1031) rfl rfl rfl (show Cond.code yX2_sings cX2_sings 2 (some .int) ∈ lwb from wd_1047) ⟨by decide, by decide, by decide +kernel⟩ ⟨Nat.le_trans (Nat.le_of_ble_eq_true rfl) hR.1, Nat.le_trans (Nat.le_of_ble_eq_true rfl) hR.2⟩) rfl rfl hW hd hp ⟨by omega, by omega⟩ (V.wide (k := cells + 2) (n := slots + 30) (by omega) (by omega) kk)
  · have k1 : KD S b 2 0 := ⟨by omega, h2, hc, h4⟩
    have hq2 : xh2_sings S h b x = some r := by simpa [d_sings, hc] using hq
    exact r_callU C (t_xh2_sings hF hH hq2) rfl k1 ⟨by decide, show clX[2]? = some (RX2, TX2, 4) from rfl⟩ (va_cwU (x := (⟨RX2, "sings", "(I)I"⟩ : MethodName)) (owner := RX2) 1 C.2.2.2.2.1 (lwb_callU wd_1074 wd_948 wd_947 wd_946 wd_106 wd_1047) rfl rfl rfl rfl ⟨by decide, by decide, by decide +kernel⟩ ⟨Nat.le_trans (Nat.le_of_ble_eq_true rfl) hR.1, Nat.le_trans (Nat.le_of_ble_eq_true rfl) hR.2⟩) rfl rfl hW hd hp ⟨by omega, by omega⟩ (V.wide (k := cells + 2) (n := slots + 30) (by omega) (by omega) kk)
  · have k1 : KD S b 3 0 := ⟨by omega, h2, hc, h4⟩
    have hq2 : xh3_sings S h b x = some r := by simpa [d_sings, hc] using hq
    exact r_callU C (t_xh3_sings hF hH hq2) rfl k1 ⟨by decide, show clX[3]? = some (RX3, TX3, 4) from rfl⟩ (va_cwO (x := (⟨RX2, "sings", "(I)I"⟩ : MethodName)) (owner := RX2) 1 C.2.2.2.2.1 (lwb_callO wd_1074 wd_948 wd_946 wd_1037 wd_950 wd_108 wd_951) rfl rfl rfl (show Cond.code yX2_sings cX2_sings 2 (some .int) ∈ lwb from wd_1047) ⟨by decide, by decide, by decide +kernel⟩ ⟨Nat.le_trans (Nat.le_of_ble_eq_true rfl) hR.1, Nat.le_trans (Nat.le_of_ble_eq_true rfl) hR.2⟩) rfl rfl hW hd hp ⟨by omega, by omega⟩ (V.wide (k := cells + 2) (n := slots + 30) (by omega) (by omega) kk)
  · have k1 : KD S b 4 0 := ⟨by omega, h2, hc, h4⟩
    have hq2 : xh2_sings S h b x = some r := by simpa [d_sings, hc] using hq
    exact r_callU C (t_xh2_sings hF hH hq2) rfl k1 ⟨by decide, show clX[4]? = some (RX4, TX4, 4) from rfl⟩ (va_cwU (x := (⟨RX2, "sings", "(I)I"⟩ : MethodName)) (owner := RX2) 1 C.2.2.2.2.1 (lwb_callU wd_1074 wd_948 wd_1038 wd_946 wd_106 wd_1047) rfl rfl rfl rfl ⟨by decide, by decide, by decide +kernel⟩ ⟨Nat.le_trans (Nat.le_of_ble_eq_true rfl) hR.1, Nat.le_trans (Nat.le_of_ble_eq_true rfl) hR.2⟩) rfl rfl hW hd hp ⟨by omega, by omega⟩ (V.wide (k := cells + 2) (n := slots + 30) (by omega) (by omega) kk)
  · have k1 : KD S b 8 0 := ⟨by omega, h2, hc, h4⟩
    have hq2 : xh8_sings S h b x = some r := by simpa [d_sings, hc] using hq
    exact r_callU C (t_xh8_sings hF hH hq2) rfl k1 ⟨by decide, show clX[8]? = some (RX8, TX8, 4) from rfl⟩ (va_cwO (x := (⟨RX2, "sings", "(I)I"⟩ : MethodName)) (owner := RX2) 1 C.2.2.2.2.1 (lwb_callO wd_1074 wd_948 wd_946 wd_1039 wd_1040 wd_112 wd_1041) rfl rfl rfl (show Cond.code yX2_sings cX2_sings 2 (some .int) ∈ lwb from wd_1047) ⟨by decide, by decide, by decide +kernel⟩ ⟨Nat.le_trans (Nat.le_of_ble_eq_true rfl) hR.1, Nat.le_trans (Nat.le_of_ble_eq_true rfl) hR.2⟩) rfl rfl hW hd hp ⟨by omega, by omega⟩ (V.wide (k := cells + 2) (n := slots + 30) (by omega) (by omega) kk)
  · have k1 : KD S b 9 0 := ⟨by omega, h2, hc, h4⟩
    have hq2 : xh2_sings S h b x = some r := by simpa [d_sings, hc] using hq
    exact r_callU C (t_xh2_sings hF hH hq2) rfl k1 ⟨by decide, show clX[9]? = some (RX9, TX9, 4) from rfl⟩ (va_cwU (x := (⟨RX2, "sings", "(I)I"⟩ : MethodName)) (owner := RX2) 1 C.2.2.2.2.1 (lwb_callU wd_1074 wd_948 wd_1046 wd_946 wd_106 wd_1047) rfl rfl rfl rfl ⟨by decide, by decide, by decide +kernel⟩ ⟨Nat.le_trans (Nat.le_of_ble_eq_true rfl) hR.1, Nat.le_trans (Nat.le_of_ble_eq_true rfl) hR.2⟩) rfl rfl hW hd hp ⟨by omega, by omega⟩ (V.wide (k := cells + 2) (n := slots + 30) (by omega) (by omega) kk)

/- WassailEnemies$Hater.spits(I)I -/
noncomputable def xh2_spits (S : SS) (h : HH) (a0 : Int) (a1 : Int) : Option (Int × HH × SS) :=
  (tr_add 11 S h).bind fun q1 => ckX S q1.2 <| (d_sings q1.2 q1.1 a0 a1).bind fun q3 => ckX q1.2 q3.2.2 <| some (q3.1 - (q3.2.1 a0 2), q3.2.1, q3.2.2)
abbrev rm_xh2_spits : Room := { frames := 9, cells := 3, slots := 45, locals := 273 }
set_option maxHeartbeats 4000000 in
set_option maxRecDepth 100000 in
theorem t_xh2_spits {S : SS} (hF : Fx S) {h : HH} {a0 : Int} (ha0 : isHb S a0 = true) {a1 : Int} {res : Int × HH × SS} (hf : xh2_spits S h a0 a1 = some res) : CM yX2_spits cX2_spits 2 (some Jvm.ClassFile.FieldType.int) 9 273 3 45 (fun bs => [zP bs a0, zI a1]) h S (fun _ => some (zI res.1)) res.2.1 res.2.2 := by
  refine CM.intro (own := RX2) (by decide) rfl (fun _ => Nat.le_of_ble_eq_true rfl) ?_
  intro D dT bs p l e s m args below meth c C
  show V D dT bs 2 p l e rm_xh2_spits s m args below meth c 0 0 _ h S 0 [(0, zP bs a0), (1, zI a1)] []
  unfold xh2_spits at hf
  refine r_aload_n (pc' := 1) (f4 := 0) (i := 0) C 0 rfl rfl dX2_spits_0 rfl ?_
  refine q_getHT (pc' := 4) C ha0 wd_388 (Or.inl rfl) dX2_spits_1 rfl ?_
  refine r_bipush (pc' := 6) C rfl dX2_spits_4 rfl ?_
  refine r_callSD (n := 1) (pc' := 9) C (t_valueOf (v := 11) (by decide) (by decide)) rfl ws_RX2_23 ⟨Nat.le_of_ble_eq_true rfl, Nat.le_of_ble_eq_true rfl⟩ rfl rfl (Nat.le_of_ble_eq_true rfl) dX2_spits_6 rfl ⟨Nat.le_of_ble_eq_true rfl, Nat.le_of_ble_eq_true rfl⟩ ?_
  obtain ⟨q1, hq1, hf⟩ := bind_in hf
  refine r_callVD (n := 1) (ci := 13) (pc' := 12) C (t_tr_add hF (by decide) hq1) rfl (K_151 hF) cl_13 wva_RX2_29 ⟨Nat.le_of_ble_eq_true rfl, Nat.le_of_ble_eq_true rfl⟩ rfl rfl (Nat.le_of_ble_eq_true rfl) dX2_spits_9 rfl ⟨Nat.le_of_ble_eq_true rfl, Nat.le_of_ble_eq_true rfl⟩ ?_
  obtain ⟨hx2, hf⟩ := ckX_in hf
  have hF := hF.ext hx2
  have ha0 := isHb_ext hx2 ha0
  refine r_pop (pc' := 13) C rfl dX2_spits_12 rfl ?_
  refine r_aload_n (pc' := 14) (f4 := 0) (i := 0) C 0 rfl rfl dX2_spits_13 rfl ?_
  refine r_iload_n (pc' := 15) (f4 := 1) (i := 1) C 1 rfl rfl dX2_spits_14 rfl ?_
  obtain ⟨q3, hq3, hf⟩ := bind_in hf
  refine rd_RX2_35 (pc' := 18) C hF ha0 hq3 ⟨Nat.le_of_ble_eq_true rfl, Nat.le_of_ble_eq_true rfl⟩ ⟨Nat.le_of_ble_eq_true rfl, Nat.le_of_ble_eq_true rfl⟩ (Nat.le_of_ble_eq_true rfl) dX2_spits_15 rfl ?_
  obtain ⟨hx4, hf⟩ := ckX_in hf
  have hF := hF.ext hx4
  have ha0 := isHb_ext hx4 ha0
  refine r_aload_n (pc' := 19) (f4 := 0) (i := 0) C 0 rfl rfl dX2_spits_18 rfl ?_
  refine q_getH (pc' := 22) (j := 2) C ha0 (by decide) wd_381 (Or.inl rfl) dX2_spits_19 rfl ?_
  refine r_isub (pc' := 23) C dX2_spits_22 rfl ?_
  cases hf
  refine V.wide (k := 3) (n := 45) (Nat.le_of_ble_eq_true rfl) (Nat.le_of_ble_eq_true rfl) ?_
  exact r_iret C dX2_spits_23

/- WassailEnemies$Uncle.spits(I)I -/
noncomputable def xh9_spits (S : SS) (h : HH) (a0 : Int) (a1 : Int) : Option (Int × HH × SS) :=
  (tr_add 20 S h).bind fun q1 => ckX S q1.2 <| (xh2_spits q1.2 q1.1 a0 a1).bind fun q3 => ckX q1.2 q3.2.2 <| some (zxor q3.1 6, q3.2.1, q3.2.2)
abbrev rm_xh9_spits : Room := { frames := 10, cells := 4, slots := 60, locals := 294 }
set_option maxHeartbeats 4000000 in
set_option maxRecDepth 100000 in
theorem t_xh9_spits {S : SS} (hF : Fx S) {h : HH} {a0 : Int} (ha0 : isHb S a0 = true) {a1 : Int} {res : Int × HH × SS} (hf : xh9_spits S h a0 a1 = some res) : CM yX9_spits cX9_spits 2 (some Jvm.ClassFile.FieldType.int) 10 294 4 60 (fun bs => [zP bs a0, zI a1]) h S (fun _ => some (zI res.1)) res.2.1 res.2.2 := by
  refine CM.intro (own := RX9) (by decide) rfl (fun _ => Nat.le_of_ble_eq_true rfl) ?_
  intro D dT bs p l e s m args below meth c C
  show V D dT bs 2 p l e rm_xh9_spits s m args below meth c 0 0 _ h S 0 [(0, zP bs a0), (1, zI a1)] []
  unfold xh9_spits at hf
  refine r_aload_n (pc' := 1) (f4 := 0) (i := 0) C 0 rfl rfl dX9_spits_0 rfl ?_
  refine q_getHT (pc' := 4) C ha0 wd_393 (Or.inr wd_394) dX9_spits_1 rfl ?_
  refine r_bipush (pc' := 6) C rfl dX9_spits_4 rfl ?_
  refine r_callSD (n := 1) (pc' := 9) C (t_valueOf (v := 20) (by decide) (by decide)) rfl ws_RX9_17 ⟨Nat.le_of_ble_eq_true rfl, Nat.le_of_ble_eq_true rfl⟩ rfl rfl (Nat.le_of_ble_eq_true rfl) dX9_spits_6 rfl ⟨Nat.le_of_ble_eq_true rfl, Nat.le_of_ble_eq_true rfl⟩ ?_
  obtain ⟨q1, hq1, hf⟩ := bind_in hf
  refine r_callVD (n := 1) (ci := 13) (pc' := 12) C (t_tr_add hF (by decide) hq1) rfl (K_151 hF) cl_13 wva_RX9_23 ⟨Nat.le_of_ble_eq_true rfl, Nat.le_of_ble_eq_true rfl⟩ rfl rfl (Nat.le_of_ble_eq_true rfl) dX9_spits_9 rfl ⟨Nat.le_of_ble_eq_true rfl, Nat.le_of_ble_eq_true rfl⟩ ?_
  obtain ⟨hx2, hf⟩ := ckX_in hf
  have hF := hF.ext hx2
  have ha0 := isHb_ext hx2 ha0
  refine r_pop (pc' := 13) C rfl dX9_spits_12 rfl ?_
  refine r_aload_n (pc' := 14) (f4 := 0) (i := 0) C 0 rfl rfl dX9_spits_13 rfl ?_
  refine r_iload_n (pc' := 15) (f4 := 1) (i := 1) C 1 rfl rfl dX9_spits_14 rfl ?_
  obtain ⟨q3, hq3, hf⟩ := bind_in hf
  refine r_callSU (pc' := 18) C (t_xh2_spits hF ha0 hq3) rfl ha0 wu_RX9_29 ⟨Nat.le_of_ble_eq_true rfl, Nat.le_of_ble_eq_true rfl⟩ rfl rfl (Nat.le_of_ble_eq_true rfl) dX9_spits_15 rfl ⟨Nat.le_of_ble_eq_true rfl, Nat.le_of_ble_eq_true rfl⟩ ?_
  obtain ⟨hx4, hf⟩ := ckX_in hf
  have hF := hF.ext hx4
  have ha0 := isHb_ext hx4 ha0
  refine r_bipush (pc' := 20) C rfl dX9_spits_18 rfl ?_
  refine r_ixor (pc' := 21) C dX9_spits_20 rfl ?_
  cases hf
  refine V.wide (k := 4) (n := 60) (Nat.le_of_ble_eq_true rfl) (Nat.le_of_ble_eq_true rfl) ?_
  exact r_iret C dX9_spits_21

/- WassailEnemies$Growler.spits(I)I -/
noncomputable def xh1_spits (S : SS) (h : HH) (a0 : Int) (a1 : Int) : Option (Int × HH × SS) :=
  (tr_add 51 S h).bind fun q1 => ckX S q1.2 <| (xh9_spits q1.2 q1.1 a0 (a1 + 1)).bind fun q3 => ckX q1.2 q3.2.2 <| some (q3.1, q3.2.1, q3.2.2)
abbrev rm_xh1_spits : Room := { frames := 11, cells := 5, slots := 75, locals := 315 }
set_option maxHeartbeats 4000000 in
set_option maxRecDepth 100000 in
theorem t_xh1_spits {S : SS} (hF : Fx S) {h : HH} {a0 : Int} (ha0 : isHb S a0 = true) {a1 : Int} {res : Int × HH × SS} (hf : xh1_spits S h a0 a1 = some res) : CM yX1_spits cX1_spits 2 (some Jvm.ClassFile.FieldType.int) 11 315 5 75 (fun bs => [zP bs a0, zI a1]) h S (fun _ => some (zI res.1)) res.2.1 res.2.2 := by
  refine CM.intro (own := RX1) (by decide) rfl (fun _ => Nat.le_of_ble_eq_true rfl) ?_
  intro D dT bs p l e s m args below meth c C
  show V D dT bs 2 p l e rm_xh1_spits s m args below meth c 0 0 _ h S 0 [(0, zP bs a0), (1, zI a1)] []
  unfold xh1_spits at hf
  refine r_aload_n (pc' := 1) (f4 := 0) (i := 0) C 0 rfl rfl dX1_spits_0 rfl ?_
  refine q_getHT (pc' := 4) C ha0 wd_391 (Or.inr wd_392) dX1_spits_1 rfl ?_
  refine r_bipush (pc' := 6) C rfl dX1_spits_4 rfl ?_
  refine r_callSD (n := 1) (pc' := 9) C (t_valueOf (v := 51) (by decide) (by decide)) rfl ws_RX1_23 ⟨Nat.le_of_ble_eq_true rfl, Nat.le_of_ble_eq_true rfl⟩ rfl rfl (Nat.le_of_ble_eq_true rfl) dX1_spits_6 rfl ⟨Nat.le_of_ble_eq_true rfl, Nat.le_of_ble_eq_true rfl⟩ ?_
  obtain ⟨q1, hq1, hf⟩ := bind_in hf
  refine r_callVD (n := 1) (ci := 13) (pc' := 12) C (t_tr_add hF (by decide) hq1) rfl (K_151 hF) cl_13 wva_RX1_29 ⟨Nat.le_of_ble_eq_true rfl, Nat.le_of_ble_eq_true rfl⟩ rfl rfl (Nat.le_of_ble_eq_true rfl) dX1_spits_9 rfl ⟨Nat.le_of_ble_eq_true rfl, Nat.le_of_ble_eq_true rfl⟩ ?_
  obtain ⟨hx2, hf⟩ := ckX_in hf
  have hF := hF.ext hx2
  have ha0 := isHb_ext hx2 ha0
  refine r_pop (pc' := 13) C rfl dX1_spits_12 rfl ?_
  refine r_aload_n (pc' := 14) (f4 := 0) (i := 0) C 0 rfl rfl dX1_spits_13 rfl ?_
  refine r_iload_n (pc' := 15) (f4 := 1) (i := 1) C 1 rfl rfl dX1_spits_14 rfl ?_
  refine r_iconst (pc' := 16) C dX1_spits_15 rfl ?_
  refine r_iadd (pc' := 17) C dX1_spits_16 rfl ?_
  obtain ⟨q3, hq3, hf⟩ := bind_in hf
  refine r_callSU (pc' := 20) C (t_xh9_spits hF ha0 hq3) rfl ha0 wu_RX1_39 ⟨Nat.le_of_ble_eq_true rfl, Nat.le_of_ble_eq_true rfl⟩ rfl rfl (Nat.le_of_ble_eq_true rfl) dX1_spits_17 rfl ⟨Nat.le_of_ble_eq_true rfl, Nat.le_of_ble_eq_true rfl⟩ ?_
  obtain ⟨hx4, hf⟩ := ckX_in hf
  have hF := hF.ext hx4
  have ha0 := isHb_ext hx4 ha0
  cases hf
  refine V.wide (k := 5) (n := 75) (Nat.le_of_ble_eq_true rfl) (Nat.le_of_ble_eq_true rfl) ?_
  exact r_iret C dX1_spits_20

/- WassailEnemies$Told.spits(I)I -/
noncomputable def xh8_spits (S : SS) (h : HH) (a0 : Int) (a1 : Int) : Option (Int × HH × SS) :=
  (tr_add 70 S h).bind fun q1 => ckX S q1.2 <| (xh2_spits q1.2 q1.1 a0 a1).bind fun q3 => ckX q1.2 q3.2.2 <| (xh2_sings q3.2.2 q3.2.1 a0 2).bind fun q5 => ckX q3.2.2 q5.2.2 <| some (q3.1 + q5.1, q5.2.1, q5.2.2)
abbrev rm_xh8_spits : Room := { frames := 10, cells := 5, slots := 75, locals := 294 }
set_option maxHeartbeats 4000000 in
set_option maxRecDepth 100000 in
theorem t_xh8_spits {S : SS} (hF : Fx S) {h : HH} {a0 : Int} (ha0 : isHb S a0 = true) {a1 : Int} {res : Int × HH × SS} (hf : xh8_spits S h a0 a1 = some res) : CM yX8_spits cX8_spits 2 (some Jvm.ClassFile.FieldType.int) 10 294 5 75 (fun bs => [zP bs a0, zI a1]) h S (fun _ => some (zI res.1)) res.2.1 res.2.2 := by
  refine CM.intro (own := RX8) (by decide) rfl (fun _ => Nat.le_of_ble_eq_true rfl) ?_
  intro D dT bs p l e s m args below meth c C
  show V D dT bs 2 p l e rm_xh8_spits s m args below meth c 0 0 _ h S 0 [(0, zP bs a0), (1, zI a1)] []
  unfold xh8_spits at hf
  refine r_aload_n (pc' := 1) (f4 := 0) (i := 0) C 0 rfl rfl dX8_spits_0 rfl ?_
  refine q_getHT (pc' := 4) C ha0 wd_395 (Or.inr wd_396) dX8_spits_1 rfl ?_
  refine r_bipush (pc' := 6) C rfl dX8_spits_4 rfl ?_
  refine r_callSD (n := 1) (pc' := 9) C (t_valueOf (v := 70) (by decide) (by decide)) rfl ws_RX8_32 ⟨Nat.le_of_ble_eq_true rfl, Nat.le_of_ble_eq_true rfl⟩ rfl rfl (Nat.le_of_ble_eq_true rfl) dX8_spits_6 rfl ⟨Nat.le_of_ble_eq_true rfl, Nat.le_of_ble_eq_true rfl⟩ ?_
  obtain ⟨q1, hq1, hf⟩ := bind_in hf
  refine r_callVD (n := 1) (ci := 13) (pc' := 12) C (t_tr_add hF (by decide) hq1) rfl (K_151 hF) cl_13 wva_RX8_38 ⟨Nat.le_of_ble_eq_true rfl, Nat.le_of_ble_eq_true rfl⟩ rfl rfl (Nat.le_of_ble_eq_true rfl) dX8_spits_9 rfl ⟨Nat.le_of_ble_eq_true rfl, Nat.le_of_ble_eq_true rfl⟩ ?_
  obtain ⟨hx2, hf⟩ := ckX_in hf
  have hF := hF.ext hx2
  have ha0 := isHb_ext hx2 ha0
  refine r_pop (pc' := 13) C rfl dX8_spits_12 rfl ?_
  refine r_aload_n (pc' := 14) (f4 := 0) (i := 0) C 0 rfl rfl dX8_spits_13 rfl ?_
  refine r_iload_n (pc' := 15) (f4 := 1) (i := 1) C 1 rfl rfl dX8_spits_14 rfl ?_
  obtain ⟨q3, hq3, hf⟩ := bind_in hf
  refine q_callSUi (n := 1) (x := (⟨RX4, "spits", "(I)I"⟩ : MethodName)) (pc' := 18) C (t_xh2_spits hF ha0 hq3) rfl ha0 rfl wd_1069 wd_1070 wd_464 wd_431 wd_1051 wd_106 wd_1073 (by decide) ⟨Nat.le_of_ble_eq_true rfl, Nat.le_of_ble_eq_true rfl⟩ rfl rfl (Nat.le_of_ble_eq_true rfl) dX8_spits_15 rfl ⟨Nat.le_of_ble_eq_true rfl, Nat.le_of_ble_eq_true rfl⟩ ?_
  obtain ⟨hx4, hf⟩ := ckX_in hf
  have hF := hF.ext hx4
  have ha0 := isHb_ext hx4 ha0
  refine r_aload_n (pc' := 19) (f4 := 0) (i := 0) C 0 rfl rfl dX8_spits_18 rfl ?_
  refine r_iconst (pc' := 20) C dX8_spits_19 rfl ?_
  obtain ⟨q5, hq5, hf⟩ := bind_in hf
  refine q_callSUi (n := 1) (x := (⟨RX4, "sings", "(I)I"⟩ : MethodName)) (pc' := 23) C (t_xh2_sings hF ha0 hq5) rfl ha0 rfl wd_1044 wd_1045 wd_464 wd_431 wd_946 wd_106 wd_1047 (by decide) ⟨Nat.le_of_ble_eq_true rfl, Nat.le_of_ble_eq_true rfl⟩ rfl rfl (Nat.le_of_ble_eq_true rfl) dX8_spits_20 rfl ⟨Nat.le_of_ble_eq_true rfl, Nat.le_of_ble_eq_true rfl⟩ ?_
  obtain ⟨hx6, hf⟩ := ckX_in hf
  have hF := hF.ext hx6
  have ha0 := isHb_ext hx6 ha0
  refine r_iadd (pc' := 24) C dX8_spits_23 rfl ?_
  cases hf
  refine V.wide (k := 5) (n := 75) (Nat.le_of_ble_eq_true rfl) (Nat.le_of_ble_eq_true rfl) ?_
  exact r_iret C dX8_spits_24

noncomputable def d_spits (S : SS) (h : HH) (a0 a1 : Int) : Option (Int × HH × SS) :=
  if S.1 a0 (-1) = 0 then xh2_spits S h a0 a1 else
  if S.1 a0 (-1) = 1 then xh1_spits S h a0 a1 else
  if S.1 a0 (-1) = 3 then xh2_spits S h a0 a1 else
  if S.1 a0 (-1) = 4 then xh2_spits S h a0 a1 else
  if S.1 a0 (-1) = 8 then xh8_spits S h a0 a1 else
  if S.1 a0 (-1) = 9 then xh9_spits S h a0 a1 else
  xh2_spits S h a0 a1

set_option maxHeartbeats 4000000 in
theorem rd_RX2_39 {D : va_G} {dT : ZT} {bs nL : Nat} {p : Program} {l : Launch} {e : Env} {R : Room} {s : State} {m : MethodId} {args : Array Value} {below : List Frame} {meth : Method} {c : Code} {cells slots : Nat} {Q : State → Prop} {h : HH} {S : SS} {pc pc' : Nat} {L : List (Nat × Value)} {rest : List Value} (C : Cx D dT bs RX2 cX2_tells nL (some Jvm.ClassFile.FieldType.int) p s m args meth c) (hF : Fx S) {b x : Int} (hH : isHb S b = true) {r : Int × HH × SS} (hq : d_spits S h b x = some r) (hR : 12 ≤ R.frames ∧ 336 ≤ R.locals) (hz : cells + 5 ≤ R.cells ∧ slots + 75 ≤ R.slots) (hW : (rest.map fun v => v.category).sum ≤ 8) (hd : decode cX2_tells pc = .ok (.invokevirtual 39, 3)) (hp : pc + 3 = pc') (kk : V D dT bs nL p l e R s m args below meth c (cells + 5) (slots + 75) Q r.2.1 r.2.2 pc' L (zI r.1 :: rest)) : V D dT bs nL p l e R s m args below meth c cells slots Q h S pc L (zI x :: zP bs b :: rest) := by
  obtain ⟨h1, h2, h3, h4, h5⟩ := isHb_at hH
  rcases h3 with hc | hc | hc | hc | hc | hc | hc
  · have k1 : KD S b 0 0 := ⟨by omega, h2, hc, h4⟩
    have hq2 : xh2_spits S h b x = some r := by simpa [d_spits, hc] using hq
    exact r_callU C (t_xh2_spits hF hH hq2) rfl k1 ⟨by decide, show clX[0]? = some (RX0, TX0, 4) from rfl⟩ (va_cwU (x := (⟨RX2, "spits", "(I)I"⟩ : MethodName)) (owner := RX2) 1 C.2.2.2.2.1 (lwb_callU wd_1101 wd_1053 wd_1054 wd_1051 wd_106 wd_1073) rfl rfl rfl rfl ⟨by decide, by decide, by decide +kernel⟩ ⟨Nat.le_trans (Nat.le_of_ble_eq_true rfl) hR.1, Nat.le_trans (Nat.le_of_ble_eq_true rfl) hR.2⟩) rfl rfl hW hd hp ⟨by omega, by omega⟩ (V.wide (k := cells + 5) (n := slots + 75) (by omega) (by omega) kk)
  · have k1 : KD S b 1 0 := ⟨by omega, h2, hc, h4⟩
    have hq2 : xh1_spits S h b x = some r := by simpa [d_spits, hc] using hq
    exact r_callU C (t_xh1_spits hF hH hq2) rfl k1 ⟨by decide, show clX[1]? = some (RX1, TX1, 4) from rfl⟩ (va_cwO (x := (⟨RX2, "spits", "(I)I"⟩ : MethodName)) (owner := RX2) 1 C.2.2.2.2.1 (lwb_callO wd_1101 wd_1053 wd_1051 wd_1055 wd_1056 wd_110 wd_1057) rfl rfl rfl (show Cond.code yX2_spits cX2_spits 2 (some .int) ∈ lwb from wd_1073) ⟨by decide, by decide, by decide +kernel⟩ ⟨Nat.le_trans (Nat.le_of_ble_eq_true rfl) hR.1, Nat.le_trans (Nat.le_of_ble_eq_true rfl) hR.2⟩) rfl rfl hW hd hp ⟨by omega, by omega⟩ (V.wide (k := cells + 5) (n := slots + 75) (by omega) (by omega) kk)
  · have k1 : KD S b 2 0 := ⟨by omega, h2, hc, h4⟩
    have hq2 : xh2_spits S h b x = some r := by simpa [d_spits, hc] using hq
    exact r_callU C (t_xh2_spits hF hH hq2) rfl k1 ⟨by decide, show clX[2]? = some (RX2, TX2, 4) from rfl⟩ (va_cwU (x := (⟨RX2, "spits", "(I)I"⟩ : MethodName)) (owner := RX2) 1 C.2.2.2.2.1 (lwb_callU wd_1101 wd_1053 wd_1052 wd_1051 wd_106 wd_1073) rfl rfl rfl rfl ⟨by decide, by decide, by decide +kernel⟩ ⟨Nat.le_trans (Nat.le_of_ble_eq_true rfl) hR.1, Nat.le_trans (Nat.le_of_ble_eq_true rfl) hR.2⟩) rfl rfl hW hd hp ⟨by omega, by omega⟩ (V.wide (k := cells + 5) (n := slots + 75) (by omega) (by omega) kk)
  · have k1 : KD S b 3 0 := ⟨by omega, h2, hc, h4⟩
    have hq2 : xh2_spits S h b x = some r := by simpa [d_spits, hc] using hq
    exact r_callU C (t_xh2_spits hF hH hq2) rfl k1 ⟨by decide, show clX[3]? = some (RX3, TX3, 4) from rfl⟩ (va_cwU (x := (⟨RX2, "spits", "(I)I"⟩ : MethodName)) (owner := RX2) 1 C.2.2.2.2.1 (lwb_callU wd_1101 wd_1053 wd_1064 wd_1051 wd_106 wd_1073) rfl rfl rfl rfl ⟨by decide, by decide, by decide +kernel⟩ ⟨Nat.le_trans (Nat.le_of_ble_eq_true rfl) hR.1, Nat.le_trans (Nat.le_of_ble_eq_true rfl) hR.2⟩) rfl rfl hW hd hp ⟨by omega, by omega⟩ (V.wide (k := cells + 5) (n := slots + 75) (by omega) (by omega) kk)
  · have k1 : KD S b 4 0 := ⟨by omega, h2, hc, h4⟩
    have hq2 : xh2_spits S h b x = some r := by simpa [d_spits, hc] using hq
    exact r_callU C (t_xh2_spits hF hH hq2) rfl k1 ⟨by decide, show clX[4]? = some (RX4, TX4, 4) from rfl⟩ (va_cwU (x := (⟨RX2, "spits", "(I)I"⟩ : MethodName)) (owner := RX2) 1 C.2.2.2.2.1 (lwb_callU wd_1101 wd_1053 wd_1065 wd_1051 wd_106 wd_1073) rfl rfl rfl rfl ⟨by decide, by decide, by decide +kernel⟩ ⟨Nat.le_trans (Nat.le_of_ble_eq_true rfl) hR.1, Nat.le_trans (Nat.le_of_ble_eq_true rfl) hR.2⟩) rfl rfl hW hd hp ⟨by omega, by omega⟩ (V.wide (k := cells + 5) (n := slots + 75) (by omega) (by omega) kk)
  · have k1 : KD S b 8 0 := ⟨by omega, h2, hc, h4⟩
    have hq2 : xh8_spits S h b x = some r := by simpa [d_spits, hc] using hq
    exact r_callU C (t_xh8_spits hF hH hq2) rfl k1 ⟨by decide, show clX[8]? = some (RX8, TX8, 4) from rfl⟩ (va_cwO (x := (⟨RX2, "spits", "(I)I"⟩ : MethodName)) (owner := RX2) 1 C.2.2.2.2.1 (lwb_callO wd_1101 wd_1053 wd_1051 wd_1066 wd_1067 wd_112 wd_1068) rfl rfl rfl (show Cond.code yX2_spits cX2_spits 2 (some .int) ∈ lwb from wd_1073) ⟨by decide, by decide, by decide +kernel⟩ ⟨Nat.le_trans (Nat.le_of_ble_eq_true rfl) hR.1, Nat.le_trans (Nat.le_of_ble_eq_true rfl) hR.2⟩) rfl rfl hW hd hp ⟨by omega, by omega⟩ (V.wide (k := cells + 5) (n := slots + 75) (by omega) (by omega) kk)
  · have k1 : KD S b 9 0 := ⟨by omega, h2, hc, h4⟩
    have hq2 : xh9_spits S h b x = some r := by simpa [d_spits, hc] using hq
    exact r_callU C (t_xh9_spits hF hH hq2) rfl k1 ⟨by decide, show clX[9]? = some (RX9, TX9, 4) from rfl⟩ (va_cwO (x := (⟨RX2, "spits", "(I)I"⟩ : MethodName)) (owner := RX2) 1 C.2.2.2.2.1 (lwb_callO wd_1101 wd_1053 wd_1051 wd_1072 wd_1059 wd_107 wd_1060) rfl rfl rfl (show Cond.code yX2_spits cX2_spits 2 (some .int) ∈ lwb from wd_1073) ⟨by decide, by decide, by decide +kernel⟩ ⟨Nat.le_trans (Nat.le_of_ble_eq_true rfl) hR.1, Nat.le_trans (Nat.le_of_ble_eq_true rfl) hR.2⟩) rfl rfl hW hd hp ⟨by omega, by omega⟩ (V.wide (k := cells + 5) (n := slots + 75) (by omega) (by omega) kk)

/- WassailEnemies$Hater.tells(I)I -/
noncomputable def xh2_tells (S : SS) (h : HH) (a0 : Int) (a1 : Int) : Option (Int × HH × SS) :=
  (tr_add 12 S h).bind fun q1 => ckX S q1.2 <| (d_spits q1.2 q1.1 a0 a1).bind fun q3 => ckX q1.2 q3.2.2 <| some (q3.1 * 2, q3.2.1, q3.2.2)
abbrev rm_xh2_tells : Room := { frames := 12, cells := 6, slots := 90, locals := 336 }
set_option maxHeartbeats 4000000 in
set_option maxRecDepth 100000 in
theorem t_xh2_tells {S : SS} (hF : Fx S) {h : HH} {a0 : Int} (ha0 : isHb S a0 = true) {a1 : Int} {res : Int × HH × SS} (hf : xh2_tells S h a0 a1 = some res) : CM yX2_tells cX2_tells 2 (some Jvm.ClassFile.FieldType.int) 12 336 6 90 (fun bs => [zP bs a0, zI a1]) h S (fun _ => some (zI res.1)) res.2.1 res.2.2 := by
  refine CM.intro (own := RX2) (by decide) rfl (fun _ => Nat.le_of_ble_eq_true rfl) ?_
  intro D dT bs p l e s m args below meth c C
  show V D dT bs 2 p l e rm_xh2_tells s m args below meth c 0 0 _ h S 0 [(0, zP bs a0), (1, zI a1)] []
  unfold xh2_tells at hf
  refine r_aload_n (pc' := 1) (f4 := 0) (i := 0) C 0 rfl rfl dX2_tells_0 rfl ?_
  refine q_getHT (pc' := 4) C ha0 wd_388 (Or.inl rfl) dX2_tells_1 rfl ?_
  refine r_bipush (pc' := 6) C rfl dX2_tells_4 rfl ?_
  refine r_callSD (n := 1) (pc' := 9) C (t_valueOf (v := 12) (by decide) (by decide)) rfl ws_RX2_23 ⟨Nat.le_of_ble_eq_true rfl, Nat.le_of_ble_eq_true rfl⟩ rfl rfl (Nat.le_of_ble_eq_true rfl) dX2_tells_6 rfl ⟨Nat.le_of_ble_eq_true rfl, Nat.le_of_ble_eq_true rfl⟩ ?_
  obtain ⟨q1, hq1, hf⟩ := bind_in hf
  refine r_callVD (n := 1) (ci := 13) (pc' := 12) C (t_tr_add hF (by decide) hq1) rfl (K_151 hF) cl_13 wva_RX2_29 ⟨Nat.le_of_ble_eq_true rfl, Nat.le_of_ble_eq_true rfl⟩ rfl rfl (Nat.le_of_ble_eq_true rfl) dX2_tells_9 rfl ⟨Nat.le_of_ble_eq_true rfl, Nat.le_of_ble_eq_true rfl⟩ ?_
  obtain ⟨hx2, hf⟩ := ckX_in hf
  have hF := hF.ext hx2
  have ha0 := isHb_ext hx2 ha0
  refine r_pop (pc' := 13) C rfl dX2_tells_12 rfl ?_
  refine r_aload_n (pc' := 14) (f4 := 0) (i := 0) C 0 rfl rfl dX2_tells_13 rfl ?_
  refine r_iload_n (pc' := 15) (f4 := 1) (i := 1) C 1 rfl rfl dX2_tells_14 rfl ?_
  obtain ⟨q3, hq3, hf⟩ := bind_in hf
  refine rd_RX2_39 (pc' := 18) C hF ha0 hq3 ⟨Nat.le_of_ble_eq_true rfl, Nat.le_of_ble_eq_true rfl⟩ ⟨Nat.le_of_ble_eq_true rfl, Nat.le_of_ble_eq_true rfl⟩ (Nat.le_of_ble_eq_true rfl) dX2_tells_15 rfl ?_
  obtain ⟨hx4, hf⟩ := ckX_in hf
  have hF := hF.ext hx4
  have ha0 := isHb_ext hx4 ha0
  refine r_iconst (pc' := 19) C dX2_tells_18 rfl ?_
  refine r_imul (pc' := 20) C dX2_tells_19 rfl ?_
  cases hf
  refine V.wide (k := 6) (n := 90) (Nat.le_of_ble_eq_true rfl) (Nat.le_of_ble_eq_true rfl) ?_
  exact r_iret C dX2_tells_20

set_option maxHeartbeats 4000000 in
theorem rd_RX4_29 {D : va_G} {dT : ZT} {bs nL : Nat} {p : Program} {l : Launch} {e : Env} {R : Room} {s : State} {m : MethodId} {args : Array Value} {below : List Frame} {meth : Method} {c : Code} {cells slots : Nat} {Q : State → Prop} {h : HH} {S : SS} {pc pc' : Nat} {L : List (Nat × Value)} {rest : List Value} (C : Cx D dT bs RX4 cX4_tells nL (some Jvm.ClassFile.FieldType.int) p s m args meth c) (hF : Fx S) {b x : Int} (hH : isHb S b = true) (hk : S.1 b (-1) = 4 ∨ S.1 b (-1) = 8) {r : Int × HH × SS} (hq : d_spits S h b x = some r) (hR : 12 ≤ R.frames ∧ 336 ≤ R.locals) (hz : cells + 5 ≤ R.cells ∧ slots + 75 ≤ R.slots) (hW : (rest.map fun v => v.category).sum ≤ 8) (hd : decode cX4_tells pc = .ok (.invokevirtual 29, 3)) (hp : pc + 3 = pc') (kk : V D dT bs nL p l e R s m args below meth c (cells + 5) (slots + 75) Q r.2.1 r.2.2 pc' L (zI r.1 :: rest)) : V D dT bs nL p l e R s m args below meth c cells slots Q h S pc L (zI x :: zP bs b :: rest) := by
  obtain ⟨h1, h2, h3, h4, h5⟩ := isHb_at hH
  rcases hk with hc | hc
  · have k1 : KD S b 4 0 := ⟨by omega, h2, hc, h4⟩
    have hq2 : xh2_spits S h b x = some r := by simpa [d_spits, hc] using hq
    exact r_callU C (t_xh2_spits hF hH hq2) rfl k1 ⟨by decide, show clX[4]? = some (RX4, TX4, 4) from rfl⟩ (va_cwU (x := (⟨RX4, "spits", "(I)I"⟩ : MethodName)) (owner := RX2) 1 C.2.2.2.2.1 (lwb_callU wd_1095 wd_1070 wd_1096 wd_1051 wd_106 wd_1073) rfl rfl rfl rfl ⟨by decide, by decide, by decide +kernel⟩ ⟨Nat.le_trans (Nat.le_of_ble_eq_true rfl) hR.1, Nat.le_trans (Nat.le_of_ble_eq_true rfl) hR.2⟩) rfl rfl hW hd hp ⟨by omega, by omega⟩ (V.wide (k := cells + 5) (n := slots + 75) (by omega) (by omega) kk)
  · have k1 : KD S b 8 0 := ⟨by omega, h2, hc, h4⟩
    have hq2 : xh8_spits S h b x = some r := by simpa [d_spits, hc] using hq
    exact r_callU C (t_xh8_spits hF hH hq2) rfl k1 ⟨by decide, show clX[8]? = some (RX8, TX8, 4) from rfl⟩ (va_cwO (x := (⟨RX4, "spits", "(I)I"⟩ : MethodName)) (owner := RX2) 1 C.2.2.2.2.1 (lwb_callO wd_1095 wd_1070 wd_1051 wd_1097 wd_1067 wd_112 wd_1068) rfl rfl rfl (show Cond.code yX2_spits cX2_spits 2 (some .int) ∈ lwb from wd_1073) ⟨by decide, by decide, by decide +kernel⟩ ⟨Nat.le_trans (Nat.le_of_ble_eq_true rfl) hR.1, Nat.le_trans (Nat.le_of_ble_eq_true rfl) hR.2⟩) rfl rfl hW hd hp ⟨by omega, by omega⟩ (V.wide (k := cells + 5) (n := slots + 75) (by omega) (by omega) kk)

/- WassailEnemies$Lover.tells(I)I -/
noncomputable def xh4_tells (S : SS) (h : HH) (a0 : Int) (a1 : Int) : Option (Int × HH × SS) :=
  (tr_add 40 S h).bind fun q1 => ckX S q1.2 <| (xh2_tells q1.2 q1.1 a0 a1).bind fun q3 => ckX q1.2 q3.2.2 <| ckK4 q3.2.2 a0 <| (d_spits q3.2.2 q3.2.1 a0 1).bind fun q5 => ckX q3.2.2 q5.2.2 <| some (q3.1 + q5.1, q5.2.1, q5.2.2)
abbrev rm_xh4_tells : Room := { frames := 13, cells := 12, slots := 180, locals := 357 }
set_option maxHeartbeats 4000000 in
set_option maxRecDepth 100000 in
theorem t_xh4_tells {S : SS} (hF : Fx S) {h : HH} {a0 : Int} (ha0 : isHb S a0 = true) {a1 : Int} {res : Int × HH × SS} (hf : xh4_tells S h a0 a1 = some res) : CM yX4_tells cX4_tells 2 (some Jvm.ClassFile.FieldType.int) 13 357 12 180 (fun bs => [zP bs a0, zI a1]) h S (fun _ => some (zI res.1)) res.2.1 res.2.2 := by
  refine CM.intro (own := RX4) (by decide) rfl (fun _ => Nat.le_of_ble_eq_true rfl) ?_
  intro D dT bs p l e s m args below meth c C
  show V D dT bs 2 p l e rm_xh4_tells s m args below meth c 0 0 _ h S 0 [(0, zP bs a0), (1, zI a1)] []
  unfold xh4_tells at hf
  refine r_aload_n (pc' := 1) (f4 := 0) (i := 0) C 0 rfl rfl dX4_tells_0 rfl ?_
  refine q_getHT (pc' := 4) C ha0 wd_399 (Or.inr wd_400) dX4_tells_1 rfl ?_
  refine r_bipush (pc' := 6) C rfl dX4_tells_4 rfl ?_
  refine r_callSD (n := 1) (pc' := 9) C (t_valueOf (v := 40) (by decide) (by decide)) rfl ws_RX4_13 ⟨Nat.le_of_ble_eq_true rfl, Nat.le_of_ble_eq_true rfl⟩ rfl rfl (Nat.le_of_ble_eq_true rfl) dX4_tells_6 rfl ⟨Nat.le_of_ble_eq_true rfl, Nat.le_of_ble_eq_true rfl⟩ ?_
  obtain ⟨q1, hq1, hf⟩ := bind_in hf
  refine r_callVD (n := 1) (ci := 13) (pc' := 12) C (t_tr_add hF (by decide) hq1) rfl (K_151 hF) cl_13 wva_RX4_19 ⟨Nat.le_of_ble_eq_true rfl, Nat.le_of_ble_eq_true rfl⟩ rfl rfl (Nat.le_of_ble_eq_true rfl) dX4_tells_9 rfl ⟨Nat.le_of_ble_eq_true rfl, Nat.le_of_ble_eq_true rfl⟩ ?_
  obtain ⟨hx2, hf⟩ := ckX_in hf
  have hF := hF.ext hx2
  have ha0 := isHb_ext hx2 ha0
  refine r_pop (pc' := 13) C rfl dX4_tells_12 rfl ?_
  refine r_aload_n (pc' := 14) (f4 := 0) (i := 0) C 0 rfl rfl dX4_tells_13 rfl ?_
  refine r_iload_n (pc' := 15) (f4 := 1) (i := 1) C 1 rfl rfl dX4_tells_14 rfl ?_
  obtain ⟨q3, hq3, hf⟩ := bind_in hf
  refine r_callSU (pc' := 18) C (t_xh2_tells hF ha0 hq3) rfl ha0 wu_RX4_25 ⟨Nat.le_of_ble_eq_true rfl, Nat.le_of_ble_eq_true rfl⟩ rfl rfl (Nat.le_of_ble_eq_true rfl) dX4_tells_15 rfl ⟨Nat.le_of_ble_eq_true rfl, Nat.le_of_ble_eq_true rfl⟩ ?_
  obtain ⟨hx4, hf⟩ := ckX_in hf
  have hF := hF.ext hx4
  have ha0 := isHb_ext hx4 ha0
  refine r_aload_n (pc' := 19) (f4 := 0) (i := 0) C 0 rfl rfl dX4_tells_18 rfl ?_
  refine r_iconst (pc' := 20) C dX4_tells_19 rfl ?_
  obtain ⟨hk6, hf⟩ := ckK4_in hf
  obtain ⟨q5, hq5, hf⟩ := bind_in hf
  refine rd_RX4_29 (pc' := 23) C hF ha0 hk6 hq5 ⟨Nat.le_of_ble_eq_true rfl, Nat.le_of_ble_eq_true rfl⟩ ⟨Nat.le_of_ble_eq_true rfl, Nat.le_of_ble_eq_true rfl⟩ (Nat.le_of_ble_eq_true rfl) dX4_tells_20 rfl ?_
  obtain ⟨hx7, hf⟩ := ckX_in hf
  have hF := hF.ext hx7
  have ha0 := isHb_ext hx7 ha0
  refine r_iadd (pc' := 24) C dX4_tells_23 rfl ?_
  cases hf
  refine V.wide (k := 12) (n := 180) (Nat.le_of_ble_eq_true rfl) (Nat.le_of_ble_eq_true rfl) ?_
  exact r_iret C dX4_tells_24

/- WassailEnemies$Feller.tells(I)I -/
noncomputable def xh0_tells (S : SS) (h : HH) (a0 : Int) (a1 : Int) : Option (Int × HH × SS) :=
  (tr_add 60 S h).bind fun q1 => ckX S q1.2 <| (xh2_tells q1.2 q1.1 a0 (a1 - (q1.1 a0 1))).bind fun q3 => ckX q1.2 q3.2.2 <| some (q3.1, q3.2.1, q3.2.2)
abbrev rm_xh0_tells : Room := { frames := 13, cells := 7, slots := 105, locals := 357 }
set_option maxHeartbeats 4000000 in
set_option maxRecDepth 100000 in
theorem t_xh0_tells {S : SS} (hF : Fx S) {h : HH} {a0 : Int} (ha0 : isHb S a0 = true) {a1 : Int} {res : Int × HH × SS} (hf : xh0_tells S h a0 a1 = some res) : CM yX0_tells cX0_tells 2 (some Jvm.ClassFile.FieldType.int) 13 357 7 105 (fun bs => [zP bs a0, zI a1]) h S (fun _ => some (zI res.1)) res.2.1 res.2.2 := by
  refine CM.intro (own := RX0) (by decide) rfl (fun _ => Nat.le_of_ble_eq_true rfl) ?_
  intro D dT bs p l e s m args below meth c C
  show V D dT bs 2 p l e rm_xh0_tells s m args below meth c 0 0 _ h S 0 [(0, zP bs a0), (1, zI a1)] []
  unfold xh0_tells at hf
  refine r_aload_n (pc' := 1) (f4 := 0) (i := 0) C 0 rfl rfl dX0_tells_0 rfl ?_
  refine q_getHT (pc' := 4) C ha0 wd_397 (Or.inr wd_398) dX0_tells_1 rfl ?_
  refine r_bipush (pc' := 6) C rfl dX0_tells_4 rfl ?_
  refine r_callSD (n := 1) (pc' := 9) C (t_valueOf (v := 60) (by decide) (by decide)) rfl ws_RX0_23 ⟨Nat.le_of_ble_eq_true rfl, Nat.le_of_ble_eq_true rfl⟩ rfl rfl (Nat.le_of_ble_eq_true rfl) dX0_tells_6 rfl ⟨Nat.le_of_ble_eq_true rfl, Nat.le_of_ble_eq_true rfl⟩ ?_
  obtain ⟨q1, hq1, hf⟩ := bind_in hf
  refine r_callVD (n := 1) (ci := 13) (pc' := 12) C (t_tr_add hF (by decide) hq1) rfl (K_151 hF) cl_13 wva_RX0_29 ⟨Nat.le_of_ble_eq_true rfl, Nat.le_of_ble_eq_true rfl⟩ rfl rfl (Nat.le_of_ble_eq_true rfl) dX0_tells_9 rfl ⟨Nat.le_of_ble_eq_true rfl, Nat.le_of_ble_eq_true rfl⟩ ?_
  obtain ⟨hx2, hf⟩ := ckX_in hf
  have hF := hF.ext hx2
  have ha0 := isHb_ext hx2 ha0
  refine r_pop (pc' := 13) C rfl dX0_tells_12 rfl ?_
  refine r_aload_n (pc' := 14) (f4 := 0) (i := 0) C 0 rfl rfl dX0_tells_13 rfl ?_
  refine r_iload_n (pc' := 15) (f4 := 1) (i := 1) C 1 rfl rfl dX0_tells_14 rfl ?_
  refine r_aload_n (pc' := 16) (f4 := 0) (i := 0) C 0 rfl rfl dX0_tells_15 rfl ?_
  refine q_getH (pc' := 19) (j := 1) C ha0 (by decide) wd_379 (Or.inr wd_380) dX0_tells_16 rfl ?_
  refine r_isub (pc' := 20) C dX0_tells_19 rfl ?_
  obtain ⟨q3, hq3, hf⟩ := bind_in hf
  refine q_callSUi (n := 1) (x := (⟨RX3, "tells", "(I)I"⟩ : MethodName)) (pc' := 23) C (t_xh2_tells hF ha0 hq3) rfl ha0 rfl wd_1084 wd_1085 wd_453 wd_420 wd_1076 wd_106 wd_1100 (by decide) ⟨Nat.le_of_ble_eq_true rfl, Nat.le_of_ble_eq_true rfl⟩ rfl rfl (Nat.le_of_ble_eq_true rfl) dX0_tells_20 rfl ⟨Nat.le_of_ble_eq_true rfl, Nat.le_of_ble_eq_true rfl⟩ ?_
  obtain ⟨hx4, hf⟩ := ckX_in hf
  have hF := hF.ext hx4
  have ha0 := isHb_ext hx4 ha0
  cases hf
  refine V.wide (k := 7) (n := 105) (Nat.le_of_ble_eq_true rfl) (Nat.le_of_ble_eq_true rfl) ?_
  exact r_iret C dX0_tells_23

noncomputable def d_tells (S : SS) (h : HH) (a0 a1 : Int) : Option (Int × HH × SS) :=
  if S.1 a0 (-1) = 0 then xh0_tells S h a0 a1 else
  if S.1 a0 (-1) = 1 then xh2_tells S h a0 a1 else
  if S.1 a0 (-1) = 3 then xh2_tells S h a0 a1 else
  if S.1 a0 (-1) = 4 then xh4_tells S h a0 a1 else
  if S.1 a0 (-1) = 8 then xh4_tells S h a0 a1 else
  if S.1 a0 (-1) = 9 then xh2_tells S h a0 a1 else
  xh2_tells S h a0 a1

/- WassailEnemies.trace(I)I -/
def x_trace (S : SS) (h : HH) (a1 : Int) : Option Int :=
  if ww a1 < 0 then (some (-1)) else (if ww a1 < 20 then (if ww a1 < ww (j_lsize h) then ((tr_get S h a1).bind fun q1 => some q1) else (some (-1))) else (some (-1)))
abbrev rm_x_trace : Room := { frames := 3, cells := 0, slots := 0, locals := 64 }
set_option maxHeartbeats 4000000 in
set_option maxRecDepth 100000 in
theorem t_x_trace {S : SS} (hF : Fx S) {h : HH} {a1 : Int} {res : Int} (hf : x_trace S h a1 = some res) : CM yX11_trace cX11_trace 2 (some Jvm.ClassFile.FieldType.int) 3 64 0 0 (fun bs => [zP bs 0, zI a1]) h S (fun _ => some (zI res)) h S := by
  refine CM.intro (own := RX11) (by decide) rfl (fun _ => Nat.le_of_ble_eq_true rfl) ?_
  intro D dT bs p l e s m args below meth c C
  show V D dT bs 2 p l e rm_x_trace s m args below meth c 0 0 _ h S 0 [(0, zP bs 0), (1, zI a1)] []
  unfold x_trace at hf
  refine r_iload_n (pc' := 1) (f4 := 1) (i := 1) C 1 rfl rfl dX11_trace_0 rfl ?_
  refine r_if_lt (pc' := 4) (tgt := 21) C rfl hf dX11_trace_1 (by decide) rfl (fun hf => ?_) (fun hf => ?_)
  · refine r_iconst (pc' := 22) C dX11_trace_21 rfl ?_
    refine r_goto (tgt := 39) C dX11_trace_22 (by decide) ?_
    cases hf
    exact r_iret C dX11_trace_39
  · refine r_iload_n (pc' := 5) (f4 := 1) (i := 1) C 1 rfl rfl dX11_trace_4 rfl ?_
    refine r_bipush (pc' := 7) C rfl dX11_trace_5 rfl ?_
    refine r_icmp_ge (pc' := 10) (tgt := 21) C rfl ww_n20 hf dX11_trace_7 (by decide) rfl (fun hf => ?_) (fun hf => ?_)
    · refine r_iload_n (pc' := 11) (f4 := 1) (i := 1) C 1 rfl rfl dX11_trace_10 rfl ?_
      refine r_aload_n (pc' := 12) (f4 := 0) (i := 0) C 0 rfl rfl dX11_trace_11 rfl ?_
      refine q_getP (pc' := 15) (j := 7) C (K_0 hF) fb_11_7 (by decide) wd_318 (Or.inl rfl) (F_0_7 hF) (by decide) dX11_trace_12 rfl ?_
      refine r_callVD (n := 0) (ci := 13) (pc' := 18) C (t_j_lsize hF).toD rfl (K_151 hF) cl_13 wva_RX11_305 ⟨Nat.le_of_ble_eq_true rfl, Nat.le_of_ble_eq_true rfl⟩ rfl rfl (Nat.le_of_ble_eq_true rfl) dX11_trace_15 rfl ⟨Nat.le_of_ble_eq_true rfl, Nat.le_of_ble_eq_true rfl⟩ ?_
      refine r_icmp_lt (pc' := 21) (tgt := 25) C rfl rfl hf dX11_trace_18 (by decide) rfl (fun hf => ?_) (fun hf => ?_)
      · refine r_aload_n (pc' := 26) (f4 := 0) (i := 0) C 0 rfl rfl dX11_trace_25 rfl ?_
        refine q_getP (pc' := 29) (j := 7) C (K_0 hF) fb_11_7 (by decide) wd_318 (Or.inl rfl) (F_0_7 hF) (by decide) dX11_trace_26 rfl ?_
        refine r_iload_n (pc' := 30) (f4 := 1) (i := 1) C 1 rfl rfl dX11_trace_29 rfl ?_
        obtain ⟨q1, hq1, hf⟩ := bind_in hf
        refine r_trget (pc' := 39) C hF hq1 wva_RX11_308 wd_1122 wvi_RX11_314 (Nat.le_of_ble_eq_true rfl) (Nat.le_of_ble_eq_true rfl) (Nat.le_of_ble_eq_true rfl) ⟨Nat.le_of_ble_eq_true rfl, Nat.le_of_ble_eq_true rfl⟩ dX11_trace_30 dX11_trace_33 dX11_trace_36 (by decide) ?_
        cases hf
        exact r_iret C dX11_trace_39
      · refine r_iconst (pc' := 22) C dX11_trace_21 rfl ?_
        refine r_goto (tgt := 39) C dX11_trace_22 (by decide) ?_
        cases hf
        exact r_iret C dX11_trace_39
    · refine r_iconst (pc' := 22) C dX11_trace_21 rfl ?_
      refine r_goto (tgt := 39) C dX11_trace_22 (by decide) ?_
      cases hf
      exact r_iret C dX11_trace_39

/- WassailEnemies.count(I)I -/
def x_count (S : SS) (h : HH) (a1 : Int) : Option Int :=
  if ww a1 = 0 then (some (h 1 4)) else (if ww a1 = 1 then (some (h 0 6)) else (if ww a1 = 2 then (some (h 20 1)) else (if ww a1 = 3 then (some (h 27 1)) else (if ww a1 = 4 then (some (h 39 1)) else (if ww a1 = 5 then (some (h 148 1)) else (if ww a1 = 6 then (some (j_lsize h)) else (some (-2))))))))
abbrev rm_x_count : Room := { frames := 1, cells := 0, slots := 0, locals := 20 }
set_option maxHeartbeats 4000000 in
set_option maxRecDepth 100000 in
theorem t_x_count {S : SS} (hF : Fx S) {h : HH} {a1 : Int} {res : Int} (hf : x_count S h a1 = some res) : CM yX11_count cX11_count 2 (some Jvm.ClassFile.FieldType.int) 1 20 0 0 (fun bs => [zP bs 0, zI a1]) h S (fun _ => some (zI res)) h S := by
  refine CM.intro (own := RX11) (by decide) rfl (fun _ => Nat.le_of_ble_eq_true rfl) ?_
  intro D dT bs p l e s m args below meth c C
  show V D dT bs 2 p l e rm_x_count s m args below meth c 0 0 _ h S 0 [(0, zP bs 0), (1, zI a1)] []
  unfold x_count at hf
  refine r_iload_n (pc' := 1) (f4 := 1) (i := 1) C 1 rfl rfl dX11_count_0 rfl ?_
  by_cases cs0 : ww a1 = 0
  · rw [if_pos cs0] at hf
    refine r_tsIn (tgt := 44) C 0 cs0 dX11_count_1 (by decide) (by decide) rfl (by decide) ?_
    refine r_aload_n (pc' := 45) (f4 := 0) (i := 0) C 0 rfl rfl dX11_count_44 rfl ?_
    refine q_getP (pc' := 48) (j := 0) C (K_0 hF) fb_11_0 (by decide) wd_311 (Or.inl rfl) (F_0_0 hF) (by decide) dX11_count_45 rfl ?_
    refine q_getI (pc' := 51) (j := 4) C (K_1 hF) fb_10_4 wd_184 (Or.inl rfl) dX11_count_48 rfl ?_
    cases hf
    exact r_iret C dX11_count_51
  · rw [if_neg cs0] at hf
    by_cases cs1 : ww a1 = 1
    · rw [if_pos cs1] at hf
      refine r_tsIn (tgt := 52) C 1 cs1 dX11_count_1 (by decide) (by decide) rfl (by decide) ?_
      refine r_aload_n (pc' := 53) (f4 := 0) (i := 0) C 0 rfl rfl dX11_count_52 rfl ?_
      refine q_getI (pc' := 56) (j := 6) C (K_0 hF) fb_11_6 wd_317 (Or.inl rfl) dX11_count_53 rfl ?_
      cases hf
      exact r_iret C dX11_count_56
    · rw [if_neg cs1] at hf
      by_cases cs2 : ww a1 = 2
      · rw [if_pos cs2] at hf
        refine r_tsIn (tgt := 57) C 2 cs2 dX11_count_1 (by decide) (by decide) rfl (by decide) ?_
        refine r_aload_n (pc' := 58) (f4 := 0) (i := 0) C 0 rfl rfl dX11_count_57 rfl ?_
        refine q_getP (pc' := 61) (j := 0) C (K_0 hF) fb_11_0 (by decide) wd_311 (Or.inl rfl) (F_0_0 hF) (by decide) dX11_count_58 rfl ?_
        refine q_getP (pc' := 64) (j := 8) C (K_1 hF) fb_10_8 (by decide) wd_196 (Or.inl rfl) (F_1_8 hF) (by decide) dX11_count_61 rfl ?_
        refine q_getI (pc' := 67) (j := 1) C (K_20 hF) fb_7_1 wd_152 (Or.inl rfl) dX11_count_64 rfl ?_
        cases hf
        exact r_iret C dX11_count_67
      · rw [if_neg cs2] at hf
        by_cases cs3 : ww a1 = 3
        · rw [if_pos cs3] at hf
          refine r_tsIn (tgt := 68) C 3 cs3 dX11_count_1 (by decide) (by decide) rfl (by decide) ?_
          refine r_aload_n (pc' := 69) (f4 := 0) (i := 0) C 0 rfl rfl dX11_count_68 rfl ?_
          refine q_getP (pc' := 72) (j := 0) C (K_0 hF) fb_11_0 (by decide) wd_311 (Or.inl rfl) (F_0_0 hF) (by decide) dX11_count_69 rfl ?_
          refine q_getP (pc' := 75) (j := 9) C (K_1 hF) fb_10_9 (by decide) wd_198 (Or.inl rfl) (F_1_9 hF) (by decide) dX11_count_72 rfl ?_
          refine q_getI (pc' := 78) (j := 1) C (K_27 hF) fb_7_1 wd_152 (Or.inl rfl) dX11_count_75 rfl ?_
          cases hf
          exact r_iret C dX11_count_78
        · rw [if_neg cs3] at hf
          by_cases cs4 : ww a1 = 4
          · rw [if_pos cs4] at hf
            refine r_tsIn (tgt := 79) C 4 cs4 dX11_count_1 (by decide) (by decide) rfl (by decide) ?_
            refine r_aload_n (pc' := 80) (f4 := 0) (i := 0) C 0 rfl rfl dX11_count_79 rfl ?_
            refine q_getP (pc' := 83) (j := 0) C (K_0 hF) fb_11_0 (by decide) wd_311 (Or.inl rfl) (F_0_0 hF) (by decide) dX11_count_80 rfl ?_
            refine q_getP (pc' := 86) (j := 10) C (K_1 hF) fb_10_10 (by decide) wd_200 (Or.inl rfl) (F_1_10 hF) (by decide) dX11_count_83 rfl ?_
            refine q_getI (pc' := 89) (j := 1) C (K_39 hF) fb_7_1 wd_152 (Or.inl rfl) dX11_count_86 rfl ?_
            cases hf
            exact r_iret C dX11_count_89
          · rw [if_neg cs4] at hf
            by_cases cs5 : ww a1 = 5
            · rw [if_pos cs5] at hf
              refine r_tsIn (tgt := 90) C 5 cs5 dX11_count_1 (by decide) (by decide) rfl (by decide) ?_
              refine r_aload_n (pc' := 91) (f4 := 0) (i := 0) C 0 rfl rfl dX11_count_90 rfl ?_
              refine q_getP (pc' := 94) (j := 4) C (K_0 hF) fb_11_4 (by decide) wd_315 (Or.inl rfl) (F_0_4 hF) (by decide) dX11_count_91 rfl ?_
              refine q_getI (pc' := 97) (j := 1) C (K_148 hF) fb_6_1 wd_240 (Or.inl rfl) dX11_count_94 rfl ?_
              cases hf
              exact r_iret C dX11_count_97
            · rw [if_neg cs5] at hf
              by_cases cs6 : ww a1 = 6
              · rw [if_pos cs6] at hf
                refine r_tsIn (tgt := 98) C 6 cs6 dX11_count_1 (by decide) (by decide) rfl (by decide) ?_
                refine r_aload_n (pc' := 99) (f4 := 0) (i := 0) C 0 rfl rfl dX11_count_98 rfl ?_
                refine q_getP (pc' := 102) (j := 7) C (K_0 hF) fb_11_7 (by decide) wd_318 (Or.inl rfl) (F_0_7 hF) (by decide) dX11_count_99 rfl ?_
                refine r_callVD (n := 0) (ci := 13) (pc' := 105) C (t_j_lsize hF).toD rfl (K_151 hF) cl_13 wva_RX11_305 ⟨Nat.le_of_ble_eq_true rfl, Nat.le_of_ble_eq_true rfl⟩ rfl rfl (Nat.le_of_ble_eq_true rfl) dX11_count_102 rfl ⟨Nat.le_of_ble_eq_true rfl, Nat.le_of_ble_eq_true rfl⟩ ?_
                cases hf
                exact r_iret C dX11_count_105
              · rw [if_neg cs6] at hf
                refine r_tsOut (tgt := 106) C dX11_count_1 (by omega) (by decide) ?_
                refine r_bipush (pc' := 108) C rfl dX11_count_106 rfl ?_
                cases hf
                exact r_iret C dX11_count_108

set_option maxHeartbeats 4000000 in
theorem rd_RX11_296 {D : va_G} {dT : ZT} {bs nL : Nat} {p : Program} {l : Launch} {e : Env} {R : Room} {s : State} {m : MethodId} {args : Array Value} {below : List Frame} {meth : Method} {c : Code} {cells slots : Nat} {Q : State → Prop} {h : HH} {S : SS} {pc pc' : Nat} {L : List (Nat × Value)} {rest : List Value} (C : Cx D dT bs RX11 cX11_act nL (some Jvm.ClassFile.FieldType.int) p s m args meth c) (hF : Fx S) {b x : Int} (hH : isHb S b = true) {r : Int × HH × SS} (hq : d_sings S h b x = some r) (hR : 9 ≤ R.frames ∧ 273 ≤ R.locals) (hz : cells + 2 ≤ R.cells ∧ slots + 30 ≤ R.slots) (hW : (rest.map fun v => v.category).sum ≤ 8) (hd : decode cX11_act pc = .ok (.invokevirtual 296, 3)) (hp : pc + 3 = pc') (kk : V D dT bs nL p l e R s m args below meth c (cells + 2) (slots + 30) Q r.2.1 r.2.2 pc' L (zI r.1 :: rest)) : V D dT bs nL p l e R s m args below meth c cells slots Q h S pc L (zI x :: zP bs b :: rest) := by
  obtain ⟨h1, h2, h3, h4, h5⟩ := isHb_at hH
  rcases h3 with hc | hc | hc | hc | hc | hc | hc
  · have k1 : KD S b 0 0 := ⟨by omega, h2, hc, h4⟩
    have hq2 : xh3_sings S h b x = some r := by simpa [d_sings, hc] using hq
    exact r_callU C (t_xh3_sings hF hH hq2) rfl k1 ⟨by decide, show clX[0]? = some (RX0, TX0, 4) from rfl⟩ (va_cwO (x := (⟨RX2, "sings", "(I)I"⟩ : MethodName)) (owner := RX2) 1 C.2.2.2.2.1 (lwb_callO wd_945 wd_948 wd_946 wd_949 wd_950 wd_108 wd_951) rfl rfl rfl (show Cond.code yX2_sings cX2_sings 2 (some .int) ∈ lwb from wd_1047) ⟨by decide, by decide, by decide +kernel⟩ ⟨Nat.le_trans (Nat.le_of_ble_eq_true rfl) hR.1, Nat.le_trans (Nat.le_of_ble_eq_true rfl) hR.2⟩) rfl rfl hW hd hp ⟨by omega, by omega⟩ (V.wide (k := cells + 2) (n := slots + 30) (by omega) (by omega) kk)
  · have k1 : KD S b 1 0 := ⟨by omega, h2, hc, h4⟩
    have hq2 : xh1_sings S h b x = some r := by simpa [d_sings, hc] using hq
    exact r_callU C (t_xh1_sings hF hH hq2) rfl k1 ⟨by decide, show clX[1]? = some (RX1, TX1, 4) from rfl⟩ (va_cwO (x := (⟨RX2, "sings", "(I)I"⟩ : MethodName)) (owner := RX2) 1 C.2.2.2.2.1 (lwb_callO wd_945 wd_948 wd_946 wd_1029 wd_1030 wd_110 wd_1031) rfl rfl rfl (show Cond.code yX2_sings cX2_sings 2 (some .int) ∈ lwb from wd_1047) ⟨by decide, by decide, by decide +kernel⟩ ⟨Nat.le_trans (Nat.le_of_ble_eq_true rfl) hR.1, Nat.le_trans (Nat.le_of_ble_eq_true rfl) hR.2⟩) rfl rfl hW hd hp ⟨by omega, by omega⟩ (V.wide (k := cells + 2) (n := slots + 30) (by omega) (by omega) kk)
  · have k1 : KD S b 2 0 := ⟨by omega, h2, hc, h4⟩
    have hq2 : xh2_sings S h b x = some r := by simpa [d_sings, hc] using hq
    exact r_callU C (t_xh2_sings hF hH hq2) rfl k1 ⟨by decide, show clX[2]? = some (RX2, TX2, 4) from rfl⟩ (va_cwU (x := (⟨RX2, "sings", "(I)I"⟩ : MethodName)) (owner := RX2) 1 C.2.2.2.2.1 (lwb_callU wd_945 wd_948 wd_947 wd_946 wd_106 wd_1047) rfl rfl rfl rfl ⟨by decide, by decide, by decide +kernel⟩ ⟨Nat.le_trans (Nat.le_of_ble_eq_true rfl) hR.1, Nat.le_trans (Nat.le_of_ble_eq_true rfl) hR.2⟩) rfl rfl hW hd hp ⟨by omega, by omega⟩ (V.wide (k := cells + 2) (n := slots + 30) (by omega) (by omega) kk)
  · have k1 : KD S b 3 0 := ⟨by omega, h2, hc, h4⟩
    have hq2 : xh3_sings S h b x = some r := by simpa [d_sings, hc] using hq
    exact r_callU C (t_xh3_sings hF hH hq2) rfl k1 ⟨by decide, show clX[3]? = some (RX3, TX3, 4) from rfl⟩ (va_cwO (x := (⟨RX2, "sings", "(I)I"⟩ : MethodName)) (owner := RX2) 1 C.2.2.2.2.1 (lwb_callO wd_945 wd_948 wd_946 wd_1037 wd_950 wd_108 wd_951) rfl rfl rfl (show Cond.code yX2_sings cX2_sings 2 (some .int) ∈ lwb from wd_1047) ⟨by decide, by decide, by decide +kernel⟩ ⟨Nat.le_trans (Nat.le_of_ble_eq_true rfl) hR.1, Nat.le_trans (Nat.le_of_ble_eq_true rfl) hR.2⟩) rfl rfl hW hd hp ⟨by omega, by omega⟩ (V.wide (k := cells + 2) (n := slots + 30) (by omega) (by omega) kk)
  · have k1 : KD S b 4 0 := ⟨by omega, h2, hc, h4⟩
    have hq2 : xh2_sings S h b x = some r := by simpa [d_sings, hc] using hq
    exact r_callU C (t_xh2_sings hF hH hq2) rfl k1 ⟨by decide, show clX[4]? = some (RX4, TX4, 4) from rfl⟩ (va_cwU (x := (⟨RX2, "sings", "(I)I"⟩ : MethodName)) (owner := RX2) 1 C.2.2.2.2.1 (lwb_callU wd_945 wd_948 wd_1038 wd_946 wd_106 wd_1047) rfl rfl rfl rfl ⟨by decide, by decide, by decide +kernel⟩ ⟨Nat.le_trans (Nat.le_of_ble_eq_true rfl) hR.1, Nat.le_trans (Nat.le_of_ble_eq_true rfl) hR.2⟩) rfl rfl hW hd hp ⟨by omega, by omega⟩ (V.wide (k := cells + 2) (n := slots + 30) (by omega) (by omega) kk)
  · have k1 : KD S b 8 0 := ⟨by omega, h2, hc, h4⟩
    have hq2 : xh8_sings S h b x = some r := by simpa [d_sings, hc] using hq
    exact r_callU C (t_xh8_sings hF hH hq2) rfl k1 ⟨by decide, show clX[8]? = some (RX8, TX8, 4) from rfl⟩ (va_cwO (x := (⟨RX2, "sings", "(I)I"⟩ : MethodName)) (owner := RX2) 1 C.2.2.2.2.1 (lwb_callO wd_945 wd_948 wd_946 wd_1039 wd_1040 wd_112 wd_1041) rfl rfl rfl (show Cond.code yX2_sings cX2_sings 2 (some .int) ∈ lwb from wd_1047) ⟨by decide, by decide, by decide +kernel⟩ ⟨Nat.le_trans (Nat.le_of_ble_eq_true rfl) hR.1, Nat.le_trans (Nat.le_of_ble_eq_true rfl) hR.2⟩) rfl rfl hW hd hp ⟨by omega, by omega⟩ (V.wide (k := cells + 2) (n := slots + 30) (by omega) (by omega) kk)
  · have k1 : KD S b 9 0 := ⟨by omega, h2, hc, h4⟩
    have hq2 : xh2_sings S h b x = some r := by simpa [d_sings, hc] using hq
    exact r_callU C (t_xh2_sings hF hH hq2) rfl k1 ⟨by decide, show clX[9]? = some (RX9, TX9, 4) from rfl⟩ (va_cwU (x := (⟨RX2, "sings", "(I)I"⟩ : MethodName)) (owner := RX2) 1 C.2.2.2.2.1 (lwb_callU wd_945 wd_948 wd_1046 wd_946 wd_106 wd_1047) rfl rfl rfl rfl ⟨by decide, by decide, by decide +kernel⟩ ⟨Nat.le_trans (Nat.le_of_ble_eq_true rfl) hR.1, Nat.le_trans (Nat.le_of_ble_eq_true rfl) hR.2⟩) rfl rfl hW hd hp ⟨by omega, by omega⟩ (V.wide (k := cells + 2) (n := slots + 30) (by omega) (by omega) kk)

set_option maxHeartbeats 4000000 in
theorem rd_RX11_299 {D : va_G} {dT : ZT} {bs nL : Nat} {p : Program} {l : Launch} {e : Env} {R : Room} {s : State} {m : MethodId} {args : Array Value} {below : List Frame} {meth : Method} {c : Code} {cells slots : Nat} {Q : State → Prop} {h : HH} {S : SS} {pc pc' : Nat} {L : List (Nat × Value)} {rest : List Value} (C : Cx D dT bs RX11 cX11_act nL (some Jvm.ClassFile.FieldType.int) p s m args meth c) (hF : Fx S) {b x : Int} (hH : isHb S b = true) {r : Int × HH × SS} (hq : d_spits S h b x = some r) (hR : 12 ≤ R.frames ∧ 336 ≤ R.locals) (hz : cells + 5 ≤ R.cells ∧ slots + 75 ≤ R.slots) (hW : (rest.map fun v => v.category).sum ≤ 8) (hd : decode cX11_act pc = .ok (.invokevirtual 299, 3)) (hp : pc + 3 = pc') (kk : V D dT bs nL p l e R s m args below meth c (cells + 5) (slots + 75) Q r.2.1 r.2.2 pc' L (zI r.1 :: rest)) : V D dT bs nL p l e R s m args below meth c cells slots Q h S pc L (zI x :: zP bs b :: rest) := by
  obtain ⟨h1, h2, h3, h4, h5⟩ := isHb_at hH
  rcases h3 with hc | hc | hc | hc | hc | hc | hc
  · have k1 : KD S b 0 0 := ⟨by omega, h2, hc, h4⟩
    have hq2 : xh2_spits S h b x = some r := by simpa [d_spits, hc] using hq
    exact r_callU C (t_xh2_spits hF hH hq2) rfl k1 ⟨by decide, show clX[0]? = some (RX0, TX0, 4) from rfl⟩ (va_cwU (x := (⟨RX2, "spits", "(I)I"⟩ : MethodName)) (owner := RX2) 1 C.2.2.2.2.1 (lwb_callU wd_1050 wd_1053 wd_1054 wd_1051 wd_106 wd_1073) rfl rfl rfl rfl ⟨by decide, by decide, by decide +kernel⟩ ⟨Nat.le_trans (Nat.le_of_ble_eq_true rfl) hR.1, Nat.le_trans (Nat.le_of_ble_eq_true rfl) hR.2⟩) rfl rfl hW hd hp ⟨by omega, by omega⟩ (V.wide (k := cells + 5) (n := slots + 75) (by omega) (by omega) kk)
  · have k1 : KD S b 1 0 := ⟨by omega, h2, hc, h4⟩
    have hq2 : xh1_spits S h b x = some r := by simpa [d_spits, hc] using hq
    exact r_callU C (t_xh1_spits hF hH hq2) rfl k1 ⟨by decide, show clX[1]? = some (RX1, TX1, 4) from rfl⟩ (va_cwO (x := (⟨RX2, "spits", "(I)I"⟩ : MethodName)) (owner := RX2) 1 C.2.2.2.2.1 (lwb_callO wd_1050 wd_1053 wd_1051 wd_1055 wd_1056 wd_110 wd_1057) rfl rfl rfl (show Cond.code yX2_spits cX2_spits 2 (some .int) ∈ lwb from wd_1073) ⟨by decide, by decide, by decide +kernel⟩ ⟨Nat.le_trans (Nat.le_of_ble_eq_true rfl) hR.1, Nat.le_trans (Nat.le_of_ble_eq_true rfl) hR.2⟩) rfl rfl hW hd hp ⟨by omega, by omega⟩ (V.wide (k := cells + 5) (n := slots + 75) (by omega) (by omega) kk)
  · have k1 : KD S b 2 0 := ⟨by omega, h2, hc, h4⟩
    have hq2 : xh2_spits S h b x = some r := by simpa [d_spits, hc] using hq
    exact r_callU C (t_xh2_spits hF hH hq2) rfl k1 ⟨by decide, show clX[2]? = some (RX2, TX2, 4) from rfl⟩ (va_cwU (x := (⟨RX2, "spits", "(I)I"⟩ : MethodName)) (owner := RX2) 1 C.2.2.2.2.1 (lwb_callU wd_1050 wd_1053 wd_1052 wd_1051 wd_106 wd_1073) rfl rfl rfl rfl ⟨by decide, by decide, by decide +kernel⟩ ⟨Nat.le_trans (Nat.le_of_ble_eq_true rfl) hR.1, Nat.le_trans (Nat.le_of_ble_eq_true rfl) hR.2⟩) rfl rfl hW hd hp ⟨by omega, by omega⟩ (V.wide (k := cells + 5) (n := slots + 75) (by omega) (by omega) kk)
  · have k1 : KD S b 3 0 := ⟨by omega, h2, hc, h4⟩
    have hq2 : xh2_spits S h b x = some r := by simpa [d_spits, hc] using hq
    exact r_callU C (t_xh2_spits hF hH hq2) rfl k1 ⟨by decide, show clX[3]? = some (RX3, TX3, 4) from rfl⟩ (va_cwU (x := (⟨RX2, "spits", "(I)I"⟩ : MethodName)) (owner := RX2) 1 C.2.2.2.2.1 (lwb_callU wd_1050 wd_1053 wd_1064 wd_1051 wd_106 wd_1073) rfl rfl rfl rfl ⟨by decide, by decide, by decide +kernel⟩ ⟨Nat.le_trans (Nat.le_of_ble_eq_true rfl) hR.1, Nat.le_trans (Nat.le_of_ble_eq_true rfl) hR.2⟩) rfl rfl hW hd hp ⟨by omega, by omega⟩ (V.wide (k := cells + 5) (n := slots + 75) (by omega) (by omega) kk)
  · have k1 : KD S b 4 0 := ⟨by omega, h2, hc, h4⟩
    have hq2 : xh2_spits S h b x = some r := by simpa [d_spits, hc] using hq
    exact r_callU C (t_xh2_spits hF hH hq2) rfl k1 ⟨by decide, show clX[4]? = some (RX4, TX4, 4) from rfl⟩ (va_cwU (x := (⟨RX2, "spits", "(I)I"⟩ : MethodName)) (owner := RX2) 1 C.2.2.2.2.1 (lwb_callU wd_1050 wd_1053 wd_1065 wd_1051 wd_106 wd_1073) rfl rfl rfl rfl ⟨by decide, by decide, by decide +kernel⟩ ⟨Nat.le_trans (Nat.le_of_ble_eq_true rfl) hR.1, Nat.le_trans (Nat.le_of_ble_eq_true rfl) hR.2⟩) rfl rfl hW hd hp ⟨by omega, by omega⟩ (V.wide (k := cells + 5) (n := slots + 75) (by omega) (by omega) kk)
  · have k1 : KD S b 8 0 := ⟨by omega, h2, hc, h4⟩
    have hq2 : xh8_spits S h b x = some r := by simpa [d_spits, hc] using hq
    exact r_callU C (t_xh8_spits hF hH hq2) rfl k1 ⟨by decide, show clX[8]? = some (RX8, TX8, 4) from rfl⟩ (va_cwO (x := (⟨RX2, "spits", "(I)I"⟩ : MethodName)) (owner := RX2) 1 C.2.2.2.2.1 (lwb_callO wd_1050 wd_1053 wd_1051 wd_1066 wd_1067 wd_112 wd_1068) rfl rfl rfl (show Cond.code yX2_spits cX2_spits 2 (some .int) ∈ lwb from wd_1073) ⟨by decide, by decide, by decide +kernel⟩ ⟨Nat.le_trans (Nat.le_of_ble_eq_true rfl) hR.1, Nat.le_trans (Nat.le_of_ble_eq_true rfl) hR.2⟩) rfl rfl hW hd hp ⟨by omega, by omega⟩ (V.wide (k := cells + 5) (n := slots + 75) (by omega) (by omega) kk)
  · have k1 : KD S b 9 0 := ⟨by omega, h2, hc, h4⟩
    have hq2 : xh9_spits S h b x = some r := by simpa [d_spits, hc] using hq
    exact r_callU C (t_xh9_spits hF hH hq2) rfl k1 ⟨by decide, show clX[9]? = some (RX9, TX9, 4) from rfl⟩ (va_cwO (x := (⟨RX2, "spits", "(I)I"⟩ : MethodName)) (owner := RX2) 1 C.2.2.2.2.1 (lwb_callO wd_1050 wd_1053 wd_1051 wd_1072 wd_1059 wd_107 wd_1060) rfl rfl rfl (show Cond.code yX2_spits cX2_spits 2 (some .int) ∈ lwb from wd_1073) ⟨by decide, by decide, by decide +kernel⟩ ⟨Nat.le_trans (Nat.le_of_ble_eq_true rfl) hR.1, Nat.le_trans (Nat.le_of_ble_eq_true rfl) hR.2⟩) rfl rfl hW hd hp ⟨by omega, by omega⟩ (V.wide (k := cells + 5) (n := slots + 75) (by omega) (by omega) kk)

set_option maxHeartbeats 4000000 in
theorem rd_RX11_302 {D : va_G} {dT : ZT} {bs nL : Nat} {p : Program} {l : Launch} {e : Env} {R : Room} {s : State} {m : MethodId} {args : Array Value} {below : List Frame} {meth : Method} {c : Code} {cells slots : Nat} {Q : State → Prop} {h : HH} {S : SS} {pc pc' : Nat} {L : List (Nat × Value)} {rest : List Value} (C : Cx D dT bs RX11 cX11_act nL (some Jvm.ClassFile.FieldType.int) p s m args meth c) (hF : Fx S) {b x : Int} (hH : isHb S b = true) {r : Int × HH × SS} (hq : d_tells S h b x = some r) (hR : 14 ≤ R.frames ∧ 378 ≤ R.locals) (hz : cells + 12 ≤ R.cells ∧ slots + 180 ≤ R.slots) (hW : (rest.map fun v => v.category).sum ≤ 8) (hd : decode cX11_act pc = .ok (.invokevirtual 302, 3)) (hp : pc + 3 = pc') (kk : V D dT bs nL p l e R s m args below meth c (cells + 12) (slots + 180) Q r.2.1 r.2.2 pc' L (zI r.1 :: rest)) : V D dT bs nL p l e R s m args below meth c cells slots Q h S pc L (zI x :: zP bs b :: rest) := by
  obtain ⟨h1, h2, h3, h4, h5⟩ := isHb_at hH
  rcases h3 with hc | hc | hc | hc | hc | hc | hc
  · have k1 : KD S b 0 0 := ⟨by omega, h2, hc, h4⟩
    have hq2 : xh0_tells S h b x = some r := by simpa [d_tells, hc] using hq
    exact r_callU C (t_xh0_tells hF hH hq2) rfl k1 ⟨by decide, show clX[0]? = some (RX0, TX0, 4) from rfl⟩ (va_cwO (x := (⟨RX2, "tells", "(I)I"⟩ : MethodName)) (owner := RX2) 1 C.2.2.2.2.1 (lwb_callO wd_1075 wd_1078 wd_1076 wd_1079 wd_1080 wd_111 wd_1081) rfl rfl rfl (show Cond.code yX2_tells cX2_tells 2 (some .int) ∈ lwb from wd_1100) ⟨by decide, by decide, by decide +kernel⟩ ⟨Nat.le_trans (Nat.le_of_ble_eq_true rfl) hR.1, Nat.le_trans (Nat.le_of_ble_eq_true rfl) hR.2⟩) rfl rfl hW hd hp ⟨by omega, by omega⟩ (V.wide (k := cells + 12) (n := slots + 180) (by omega) (by omega) kk)
  · have k1 : KD S b 1 0 := ⟨by omega, h2, hc, h4⟩
    have hq2 : xh2_tells S h b x = some r := by simpa [d_tells, hc] using hq
    exact r_callU C (t_xh2_tells hF hH hq2) rfl k1 ⟨by decide, show clX[1]? = some (RX1, TX1, 4) from rfl⟩ (va_cwU (x := (⟨RX2, "tells", "(I)I"⟩ : MethodName)) (owner := RX2) 1 C.2.2.2.2.1 (lwb_callU wd_1075 wd_1078 wd_1087 wd_1076 wd_106 wd_1100) rfl rfl rfl rfl ⟨by decide, by decide, by decide +kernel⟩ ⟨Nat.le_trans (Nat.le_of_ble_eq_true rfl) hR.1, Nat.le_trans (Nat.le_of_ble_eq_true rfl) hR.2⟩) rfl rfl hW hd hp ⟨by omega, by omega⟩ (V.wide (k := cells + 12) (n := slots + 180) (by omega) (by omega) kk)
  · have k1 : KD S b 2 0 := ⟨by omega, h2, hc, h4⟩
    have hq2 : xh2_tells S h b x = some r := by simpa [d_tells, hc] using hq
    exact r_callU C (t_xh2_tells hF hH hq2) rfl k1 ⟨by decide, show clX[2]? = some (RX2, TX2, 4) from rfl⟩ (va_cwU (x := (⟨RX2, "tells", "(I)I"⟩ : MethodName)) (owner := RX2) 1 C.2.2.2.2.1 (lwb_callU wd_1075 wd_1078 wd_1077 wd_1076 wd_106 wd_1100) rfl rfl rfl rfl ⟨by decide, by decide, by decide +kernel⟩ ⟨Nat.le_trans (Nat.le_of_ble_eq_true rfl) hR.1, Nat.le_trans (Nat.le_of_ble_eq_true rfl) hR.2⟩) rfl rfl hW hd hp ⟨by omega, by omega⟩ (V.wide (k := cells + 12) (n := slots + 180) (by omega) (by omega) kk)
  · have k1 : KD S b 3 0 := ⟨by omega, h2, hc, h4⟩
    have hq2 : xh2_tells S h b x = some r := by simpa [d_tells, hc] using hq
    exact r_callU C (t_xh2_tells hF hH hq2) rfl k1 ⟨by decide, show clX[3]? = some (RX3, TX3, 4) from rfl⟩ (va_cwU (x := (⟨RX2, "tells", "(I)I"⟩ : MethodName)) (owner := RX2) 1 C.2.2.2.2.1 (lwb_callU wd_1075 wd_1078 wd_1088 wd_1076 wd_106 wd_1100) rfl rfl rfl rfl ⟨by decide, by decide, by decide +kernel⟩ ⟨Nat.le_trans (Nat.le_of_ble_eq_true rfl) hR.1, Nat.le_trans (Nat.le_of_ble_eq_true rfl) hR.2⟩) rfl rfl hW hd hp ⟨by omega, by omega⟩ (V.wide (k := cells + 12) (n := slots + 180) (by omega) (by omega) kk)
  · have k1 : KD S b 4 0 := ⟨by omega, h2, hc, h4⟩
    have hq2 : xh4_tells S h b x = some r := by simpa [d_tells, hc] using hq
    exact r_callU C (t_xh4_tells hF hH hq2) rfl k1 ⟨by decide, show clX[4]? = some (RX4, TX4, 4) from rfl⟩ (va_cwO (x := (⟨RX2, "tells", "(I)I"⟩ : MethodName)) (owner := RX2) 1 C.2.2.2.2.1 (lwb_callO wd_1075 wd_1078 wd_1076 wd_1089 wd_1090 wd_109 wd_1091) rfl rfl rfl (show Cond.code yX2_tells cX2_tells 2 (some .int) ∈ lwb from wd_1100) ⟨by decide, by decide, by decide +kernel⟩ ⟨Nat.le_trans (Nat.le_of_ble_eq_true rfl) hR.1, Nat.le_trans (Nat.le_of_ble_eq_true rfl) hR.2⟩) rfl rfl hW hd hp ⟨by omega, by omega⟩ (V.wide (k := cells + 12) (n := slots + 180) (by omega) (by omega) kk)
  · have k1 : KD S b 8 0 := ⟨by omega, h2, hc, h4⟩
    have hq2 : xh4_tells S h b x = some r := by simpa [d_tells, hc] using hq
    exact r_callU C (t_xh4_tells hF hH hq2) rfl k1 ⟨by decide, show clX[8]? = some (RX8, TX8, 4) from rfl⟩ (va_cwO (x := (⟨RX2, "tells", "(I)I"⟩ : MethodName)) (owner := RX2) 1 C.2.2.2.2.1 (lwb_callO wd_1075 wd_1078 wd_1076 wd_1098 wd_1090 wd_109 wd_1091) rfl rfl rfl (show Cond.code yX2_tells cX2_tells 2 (some .int) ∈ lwb from wd_1100) ⟨by decide, by decide, by decide +kernel⟩ ⟨Nat.le_trans (Nat.le_of_ble_eq_true rfl) hR.1, Nat.le_trans (Nat.le_of_ble_eq_true rfl) hR.2⟩) rfl rfl hW hd hp ⟨by omega, by omega⟩ (V.wide (k := cells + 12) (n := slots + 180) (by omega) (by omega) kk)
  · have k1 : KD S b 9 0 := ⟨by omega, h2, hc, h4⟩
    have hq2 : xh2_tells S h b x = some r := by simpa [d_tells, hc] using hq
    exact r_callU C (t_xh2_tells hF hH hq2) rfl k1 ⟨by decide, show clX[9]? = some (RX9, TX9, 4) from rfl⟩ (va_cwU (x := (⟨RX2, "tells", "(I)I"⟩ : MethodName)) (owner := RX2) 1 C.2.2.2.2.1 (lwb_callU wd_1075 wd_1078 wd_1099 wd_1076 wd_106 wd_1100) rfl rfl rfl rfl ⟨by decide, by decide, by decide +kernel⟩ ⟨Nat.le_trans (Nat.le_of_ble_eq_true rfl) hR.1, Nat.le_trans (Nat.le_of_ble_eq_true rfl) hR.2⟩) rfl rfl hW hd hp ⟨by omega, by omega⟩ (V.wide (k := cells + 12) (n := slots + 180) (by omega) (by omega) kk)

/- WassailEnemies.act(III)I -/
noncomputable def x_act (S : SS) (h : HH) (a1 : Int) (a2 : Int) (a3 : Int) : Option (Int × HH × SS) :=
  (tr_clear S h).bind fun q1 => if ww (xw_has q1 1 a1) = 0 then (some (0, q1, S)) else (ck (ww a1) 6 <| ckh S (q1 2 (ww a1) - 1) <| if ww a2 = 0 then ((d_sings S q1 (q1 2 (ww a1) - 1) a3).bind fun q4 => ckX S q4.2.2 <| some (q4.1, q4.2.1, q4.2.2)) else (if ww a2 = 1 then ((d_spits S q1 (q1 2 (ww a1) - 1) a3).bind fun q6 => ckX S q6.2.2 <| some (q6.1, q6.2.1, q6.2.2)) else (if ww a2 = 2 then ((d_tells S q1 (q1 2 (ww a1) - 1) a3).bind fun q8 => ckX S q8.2.2 <| some (q8.1, q8.2.1, q8.2.2)) else (some (0, q1, S)))))
abbrev rm_x_act : Room := { frames := 14, cells := 19, slots := 285, locals := 378 }
set_option maxHeartbeats 4000000 in
set_option maxRecDepth 100000 in
theorem t_x_act {S : SS} (hF : Fx S) {h : HH} {a1 : Int} {a2 : Int} {a3 : Int} {res : Int × HH × SS} (hf : x_act S h a1 a2 a3 = some res) : CM yX11_act cX11_act 5 (some Jvm.ClassFile.FieldType.int) 14 378 19 285 (fun bs => [zP bs 0, zI a1, zI a2, zI a3]) h S (fun _ => some (zI res.1)) res.2.1 res.2.2 := by
  refine CM.intro (own := RX11) (by decide) rfl (fun _ => Nat.le_of_ble_eq_true rfl) ?_
  intro D dT bs p l e s m args below meth c C
  show V D dT bs 5 p l e rm_x_act s m args below meth c 0 0 _ h S 0 [(0, zP bs 0), (1, zI a1), (2, zI a2), (3, zI a3)] []
  unfold x_act at hf
  refine r_aload_n (pc' := 1) (f4 := 0) (i := 0) C 0 rfl rfl dX11_act_0 rfl ?_
  refine q_getP (pc' := 4) (j := 7) C (K_0 hF) fb_11_7 (by decide) wd_318 (Or.inl rfl) (F_0_7 hF) (by decide) dX11_act_1 rfl ?_
  obtain ⟨q1, hq1, hf⟩ := bind_in hf
  refine r_callVD (n := 0) (ci := 13) (pc' := 7) C (t_tr_clear hF hq1).toD rfl (K_151 hF) cl_13 wva_RX11_293 ⟨Nat.le_of_ble_eq_true rfl, Nat.le_of_ble_eq_true rfl⟩ rfl rfl (Nat.le_of_ble_eq_true rfl) dX11_act_4 rfl ⟨Nat.le_of_ble_eq_true rfl, Nat.le_of_ble_eq_true rfl⟩ ?_
  refine r_aload_n (pc' := 8) (f4 := 0) (i := 0) C 0 rfl rfl dX11_act_7 rfl ?_
  refine q_getP (pc' := 11) (j := 0) C (K_0 hF) fb_11_0 (by decide) wd_311 (Or.inl rfl) (F_0_0 hF) (by decide) dX11_act_8 rfl ?_
  refine r_iload_n (pc' := 12) (f4 := 1) (i := 1) C 1 rfl rfl dX11_act_11 rfl ?_
  refine q_callV (pc' := 15) C (t_xw_has hF lit_W_1) rfl (K_1 hF) cl_10 wv_RX11_87 ⟨Nat.le_of_ble_eq_true rfl, Nat.le_of_ble_eq_true rfl⟩ rfl rfl (Nat.le_of_ble_eq_true rfl) dX11_act_12 rfl ⟨Nat.le_of_ble_eq_true rfl, Nat.le_of_ble_eq_true rfl⟩ ?_
  refine r_if_ne (pc' := 18) (tgt := 20) C rfl hf dX11_act_15 (by decide) rfl (fun hf => ?_) (fun hf => ?_)
  · refine r_iconst (pc' := 19) C dX11_act_18 rfl ?_
    cases hf
    refine V.wide (k := 19) (n := 285) (Nat.le_of_ble_eq_true rfl) (Nat.le_of_ble_eq_true rfl) ?_
    exact r_iret C dX11_act_19
  · refine r_aload_n (pc' := 21) (f4 := 0) (i := 0) C 0 rfl rfl dX11_act_20 rfl ?_
    refine q_getP (pc' := 24) (j := 0) C (K_0 hF) fb_11_0 (by decide) wd_311 (Or.inl rfl) (F_0_0 hF) (by decide) dX11_act_21 rfl ?_
    refine q_getP (pc' := 27) (j := 0) C (K_1 hF) fb_10_0 (by decide) wd_175 (Or.inl rfl) (F_1_0 hF) (by decide) dX11_act_24 rfl ?_
    refine r_iload_n (pc' := 28) (f4 := 1) (i := 1) C 1 rfl rfl dX11_act_27 rfl ?_
    obtain ⟨hi2, hf⟩ := ck_in hf
    obtain ⟨hH3, hf⟩ := ckh_in hf
    refine r_aaldD (pc' := 29) C (K_2 hF) rfl hi2 dX11_act_28 rfl ?_
    refine r_nnD (isHb_pos hH3) ?_
    refine r_astore (pc' := 31) (i := 4) (L' := [(4, zP bs (q1 2 (ww a1) - 1)), (0, zP bs 0), (1, zI a1), (2, zI a2), (3, zI a3)]) C (by decide) rfl dX11_act_29 rfl ?_
    refine r_iload_n (pc' := 32) (f4 := 2) (i := 2) C 3 rfl rfl dX11_act_31 rfl ?_
    by_cases cs0 : ww a2 = 0
    · rw [if_pos cs0] at hf
      refine r_tsIn (tgt := 60) C 0 cs0 dX11_act_32 (by decide) (by decide) rfl (by decide) ?_
      refine r_aload (pc' := 62) (i := 4) C 0 rfl dX11_act_60 rfl ?_
      refine r_iload_n (pc' := 63) (f4 := 3) (i := 3) C 4 rfl rfl dX11_act_62 rfl ?_
      obtain ⟨q4, hq4, hf⟩ := bind_in hf
      refine rd_RX11_296 (pc' := 66) C hF hH3 hq4 ⟨Nat.le_of_ble_eq_true rfl, Nat.le_of_ble_eq_true rfl⟩ ⟨Nat.le_of_ble_eq_true rfl, Nat.le_of_ble_eq_true rfl⟩ (Nat.le_of_ble_eq_true rfl) dX11_act_63 rfl ?_
      obtain ⟨hx5, hf⟩ := ckX_in hf
      have hF := hF.ext hx5
      have hH3 := isHb_ext hx5 hH3
      cases hf
      refine V.wide (k := 19) (n := 285) (Nat.le_of_ble_eq_true rfl) (Nat.le_of_ble_eq_true rfl) ?_
      exact r_iret C dX11_act_66
    · rw [if_neg cs0] at hf
      by_cases cs1 : ww a2 = 1
      · rw [if_pos cs1] at hf
        refine r_tsIn (tgt := 67) C 1 cs1 dX11_act_32 (by decide) (by decide) rfl (by decide) ?_
        refine r_aload (pc' := 69) (i := 4) C 0 rfl dX11_act_67 rfl ?_
        refine r_iload_n (pc' := 70) (f4 := 3) (i := 3) C 4 rfl rfl dX11_act_69 rfl ?_
        obtain ⟨q6, hq6, hf⟩ := bind_in hf
        refine rd_RX11_299 (pc' := 73) C hF hH3 hq6 ⟨Nat.le_of_ble_eq_true rfl, Nat.le_of_ble_eq_true rfl⟩ ⟨Nat.le_of_ble_eq_true rfl, Nat.le_of_ble_eq_true rfl⟩ (Nat.le_of_ble_eq_true rfl) dX11_act_70 rfl ?_
        obtain ⟨hx7, hf⟩ := ckX_in hf
        have hF := hF.ext hx7
        have hH3 := isHb_ext hx7 hH3
        cases hf
        refine V.wide (k := 19) (n := 285) (Nat.le_of_ble_eq_true rfl) (Nat.le_of_ble_eq_true rfl) ?_
        exact r_iret C dX11_act_73
      · rw [if_neg cs1] at hf
        by_cases cs2 : ww a2 = 2
        · rw [if_pos cs2] at hf
          refine r_tsIn (tgt := 74) C 2 cs2 dX11_act_32 (by decide) (by decide) rfl (by decide) ?_
          refine r_aload (pc' := 76) (i := 4) C 0 rfl dX11_act_74 rfl ?_
          refine r_iload_n (pc' := 77) (f4 := 3) (i := 3) C 4 rfl rfl dX11_act_76 rfl ?_
          obtain ⟨q8, hq8, hf⟩ := bind_in hf
          refine rd_RX11_302 (pc' := 80) C hF hH3 hq8 ⟨Nat.le_of_ble_eq_true rfl, Nat.le_of_ble_eq_true rfl⟩ ⟨Nat.le_of_ble_eq_true rfl, Nat.le_of_ble_eq_true rfl⟩ (Nat.le_of_ble_eq_true rfl) dX11_act_77 rfl ?_
          obtain ⟨hx9, hf⟩ := ckX_in hf
          have hF := hF.ext hx9
          have hH3 := isHb_ext hx9 hH3
          cases hf
          refine V.wide (k := 19) (n := 285) (Nat.le_of_ble_eq_true rfl) (Nat.le_of_ble_eq_true rfl) ?_
          exact r_iret C dX11_act_80
        · rw [if_neg cs2] at hf
          refine r_tsOut (tgt := 81) C dX11_act_32 (by omega) (by decide) ?_
          refine r_iconst (pc' := 82) C dX11_act_81 rfl ?_
          cases hf
          refine V.wide (k := 19) (n := 285) (Nat.le_of_ble_eq_true rfl) (Nat.le_of_ble_eq_true rfl) ?_
          exact r_iret C dX11_act_82

/- WassailEnemies.hater(III)I -/
noncomputable def x_hater (S : SS) (h : HH) (a1 : Int) (a2 : Int) (a3 : Int) : Option (Int × HH × SS) :=
  if ww a1 < 0 then (some (-1, h, S)) else (if ww a1 < 7 then (if ww a2 < 0 then (some (-2, h, S)) else (if 9 < ww a2 then (some (-2, h, S)) else (if ww (x_isHate a3) = 0 then (some (-2, h, S)) else (if ww (h 1 4) < 6 then ((x_newHater S h a1 (h 1 4) a2).bind fun q1 => ckX S q1.2.2 <| ckh q1.2.2 q1.1 <| (xw_welcome q1.2.2 q1.2.1 1 q1.1 a3).bind fun q4 => some (q4.1, q4.2, q1.2.2)) else (some (-4, h, S)))))) else (some (-1, h, S)))
abbrev rm_x_hater : Room := { frames := 5, cells := 1, slots := 15, locals := 123 }
set_option maxHeartbeats 4000000 in
set_option maxRecDepth 100000 in
theorem t_x_hater {S : SS} (hF : Fx S) {h : HH} {a1 : Int} {a2 : Int} {a3 : Int} {res : Int × HH × SS} (hf : x_hater S h a1 a2 a3 = some res) : CM yX11_hater cX11_hater 4 (some Jvm.ClassFile.FieldType.int) 5 123 1 15 (fun bs => [zP bs 0, zI a1, zI a2, zI a3]) h S (fun _ => some (zI res.1)) res.2.1 res.2.2 := by
  refine CM.intro (own := RX11) (by decide) rfl (fun _ => Nat.le_of_ble_eq_true rfl) ?_
  intro D dT bs p l e s m args below meth c C
  show V D dT bs 4 p l e rm_x_hater s m args below meth c 0 0 _ h S 0 [(0, zP bs 0), (1, zI a1), (2, zI a2), (3, zI a3)] []
  unfold x_hater at hf
  refine r_iload_n (pc' := 1) (f4 := 1) (i := 1) C 1 rfl rfl dX11_hater_0 rfl ?_
  refine r_if_lt (pc' := 4) (tgt := 10) C rfl hf dX11_hater_1 (by decide) rfl (fun hf => ?_) (fun hf => ?_)
  · refine r_iconst (pc' := 11) C dX11_hater_10 rfl ?_
    cases hf
    refine V.wide (k := 1) (n := 15) (Nat.le_of_ble_eq_true rfl) (Nat.le_of_ble_eq_true rfl) ?_
    exact r_iret C dX11_hater_11
  · refine r_iload_n (pc' := 5) (f4 := 1) (i := 1) C 1 rfl rfl dX11_hater_4 rfl ?_
    refine r_bipush (pc' := 7) C rfl dX11_hater_5 rfl ?_
    refine r_icmp_lt (pc' := 10) (tgt := 12) C rfl ww_n7 hf dX11_hater_7 (by decide) rfl (fun hf => ?_) (fun hf => ?_)
    · refine r_iload_n (pc' := 13) (f4 := 2) (i := 2) C 2 rfl rfl dX11_hater_12 rfl ?_
      refine r_if_lt (pc' := 16) (tgt := 29) C rfl hf dX11_hater_13 (by decide) rfl (fun hf => ?_) (fun hf => ?_)
      · refine r_bipush (pc' := 31) C rfl dX11_hater_29 rfl ?_
        cases hf
        refine V.wide (k := 1) (n := 15) (Nat.le_of_ble_eq_true rfl) (Nat.le_of_ble_eq_true rfl) ?_
        exact r_iret C dX11_hater_31
      · refine r_iload_n (pc' := 17) (f4 := 2) (i := 2) C 2 rfl rfl dX11_hater_16 rfl ?_
        refine r_bipush (pc' := 19) C rfl dX11_hater_17 rfl ?_
        refine r_icmp_gt (pc' := 22) (tgt := 29) C rfl ww_n9 hf dX11_hater_19 (by decide) rfl (fun hf => ?_) (fun hf => ?_)
        · refine r_bipush (pc' := 31) C rfl dX11_hater_29 rfl ?_
          cases hf
          refine V.wide (k := 1) (n := 15) (Nat.le_of_ble_eq_true rfl) (Nat.le_of_ble_eq_true rfl) ?_
          exact r_iret C dX11_hater_31
        · refine r_iload_n (pc' := 23) (f4 := 3) (i := 3) C 3 rfl rfl dX11_hater_22 rfl ?_
          refine q_callS (pc' := 26) C (t_x_isHate hF) rfl ws_RX11_71 ⟨Nat.le_of_ble_eq_true rfl, Nat.le_of_ble_eq_true rfl⟩ rfl rfl (Nat.le_of_ble_eq_true rfl) dX11_hater_23 rfl ⟨Nat.le_of_ble_eq_true rfl, Nat.le_of_ble_eq_true rfl⟩ ?_
          refine r_if_ne (pc' := 29) (tgt := 32) C rfl hf dX11_hater_26 (by decide) rfl (fun hf => ?_) (fun hf => ?_)
          · refine r_bipush (pc' := 31) C rfl dX11_hater_29 rfl ?_
            cases hf
            refine V.wide (k := 1) (n := 15) (Nat.le_of_ble_eq_true rfl) (Nat.le_of_ble_eq_true rfl) ?_
            exact r_iret C dX11_hater_31
          · refine r_aload_n (pc' := 33) (f4 := 0) (i := 0) C 0 rfl rfl dX11_hater_32 rfl ?_
            refine q_getP (pc' := 36) (j := 0) C (K_0 hF) fb_11_0 (by decide) wd_311 (Or.inl rfl) (F_0_0 hF) (by decide) dX11_hater_33 rfl ?_
            refine q_getI (pc' := 39) (j := 4) C (K_1 hF) fb_10_4 wd_184 (Or.inl rfl) dX11_hater_36 rfl ?_
            refine r_bipush (pc' := 41) C rfl dX11_hater_39 rfl ?_
            refine r_icmp_lt (pc' := 44) (tgt := 47) C rfl ww_n6 hf dX11_hater_41 (by decide) rfl (fun hf => ?_) (fun hf => ?_)
            · refine r_aload_n (pc' := 48) (f4 := 0) (i := 0) C 0 rfl rfl dX11_hater_47 rfl ?_
              refine q_getP (pc' := 51) (j := 0) C (K_0 hF) fb_11_0 (by decide) wd_311 (Or.inl rfl) (F_0_0 hF) (by decide) dX11_hater_48 rfl ?_
              refine r_aload_n (pc' := 52) (f4 := 0) (i := 0) C 0 rfl rfl dX11_hater_51 rfl ?_
              refine r_iload_n (pc' := 53) (f4 := 1) (i := 1) C 1 rfl rfl dX11_hater_52 rfl ?_
              refine r_aload_n (pc' := 54) (f4 := 0) (i := 0) C 0 rfl rfl dX11_hater_53 rfl ?_
              refine q_getP (pc' := 57) (j := 0) C (K_0 hF) fb_11_0 (by decide) wd_311 (Or.inl rfl) (F_0_0 hF) (by decide) dX11_hater_54 rfl ?_
              refine q_getI (pc' := 60) (j := 4) C (K_1 hF) fb_10_4 wd_184 (Or.inl rfl) dX11_hater_57 rfl ?_
              refine r_iload_n (pc' := 61) (f4 := 2) (i := 2) C 2 rfl rfl dX11_hater_60 rfl ?_
              obtain ⟨q1, hq1, hf⟩ := bind_in hf
              refine r_callVD (n := 3) (ci := 11) (pc' := 64) C (t_x_newHater hF hq1).toD rfl (K_0 hF) cl_11 wv_RX11_79 ⟨Nat.le_of_ble_eq_true rfl, Nat.le_of_ble_eq_true rfl⟩ rfl rfl (Nat.le_of_ble_eq_true rfl) dX11_hater_61 rfl ⟨Nat.le_of_ble_eq_true rfl, Nat.le_of_ble_eq_true rfl⟩ ?_
              obtain ⟨hx2, hf⟩ := ckX_in hf
              have hF := hF.ext hx2
              obtain ⟨hH3, hf⟩ := ckh_in hf
              refine r_iload_n (pc' := 65) (f4 := 3) (i := 3) C 3 rfl rfl dX11_hater_64 rfl ?_
              obtain ⟨q4, hq4, hf⟩ := bind_in hf
              refine q_callV (pc' := 68) C (t_xw_welcome hF lit_W_1 hH3 hq4) rfl (K_1 hF) cl_10 wv_RX11_83 ⟨Nat.le_of_ble_eq_true rfl, Nat.le_of_ble_eq_true rfl⟩ rfl rfl (Nat.le_of_ble_eq_true rfl) dX11_hater_65 rfl ⟨Nat.le_of_ble_eq_true rfl, Nat.le_of_ble_eq_true rfl⟩ ?_
              cases hf
              refine V.wide (k := 1) (n := 15) (Nat.le_of_ble_eq_true rfl) (Nat.le_of_ble_eq_true rfl) ?_
              exact r_iret C dX11_hater_68
            · refine r_bipush (pc' := 46) C rfl dX11_hater_44 rfl ?_
              cases hf
              refine V.wide (k := 1) (n := 15) (Nat.le_of_ble_eq_true rfl) (Nat.le_of_ble_eq_true rfl) ?_
              exact r_iret C dX11_hater_46
    · refine r_iconst (pc' := 11) C dX11_hater_10 rfl ?_
      cases hf
      refine V.wide (k := 1) (n := 15) (Nat.le_of_ble_eq_true rfl) (Nat.le_of_ble_eq_true rfl) ?_
      exact r_iret C dX11_hater_11
end
