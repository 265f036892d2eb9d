-- get and add of the trace
theorem t_ocheck {i n : Int} (h0 : 0 ≤ ww i) (h1 : ww i < ww n) {h : HH} {S : SS} : CM yJ15_checkIndex_7cf53 cJ15_checkIndex_7cf53 2 (some .int) 1 22 0 0 (fun _ => [zI i, zI n]) h S (fun _ => some (zI i)) h S := by
  refine CM.intro (own := RJ15) (by decide) rfl (fun _ => Nat.le_of_ble_eq_true rfl) ?_
  intro D dT bs p l e s m args below meth c C
  show V D dT bs 2 p l e _ s m args below meth c 0 0 _ h S 0 [(0, zI i), (1, zI n)] []
  refine r_iload_n (pc' := 1) (f4 := 0) (i := 0) C 0 rfl rfl dJ15_checkIndex_7cf53_0 rfl ?_
  refine r_iload_n (pc' := 2) (f4 := 1) (i := 1) C 1 rfl rfl dJ15_checkIndex_7cf53_1 rfl ?_
  refine r_null (pc' := 3) C dJ15_checkIndex_7cf53_2 rfl ?_
  refine q_callS (n := 3) (pc' := 6) C (t_pcheck (Or.inl rfl) h0 h1) rfl ⟨lwb_callS wd_1117 wd_642 wd_116 wd_643, by decide, by decide, by decide +kernel⟩ ⟨Nat.le_of_ble_eq_true rfl, Nat.le_of_ble_eq_true rfl⟩ rfl rfl (Nat.le_of_ble_eq_true rfl) dJ15_checkIndex_7cf53_3 rfl ⟨Nat.le_of_ble_eq_true rfl, Nat.le_of_ble_eq_true rfl⟩ ?_
  exact r_iret C dJ15_checkIndex_7cf53_6
theorem t_lelem {S : SS} (hF : Fx S) {h : HH} {cap i : Int} (hk : trK h S cap) (h0 : 0 ≤ ww i) (h1 : ww i < cap) (hv : h (h 151 1 - 1) (ww i) ≠ 0) : CMD yJx4a65c_elementData_915e3 cJx4a65c_elementData_915e3 2 (some (.object "java/lang/Object")) 0 0 0 0 (fun _ bs => [zP bs 151, zI i]) h S (fun dT _ => some (.ref (dT.2.1 (h (h 151 1 - 1) (ww i))))) h S := by
  refine CMD.intro (own := RJx4a65c) (by decide) rfl (fun _ _ => Nat.le_of_ble_eq_true rfl) ?_
  intro D dT bs p l e s m args below meth c C
  show V D dT bs 2 p l e _ s m args below meth c 0 0 _ h S 0 [(0, zP bs 151), (1, zI i)] []
  obtain ⟨hp, hK, hc0, hc1⟩ := hk
  refine r_aload_n (pc' := 1) (f4 := 0) (i := 0) C 0 rfl rfl dJx4a65c_elementData_915e3_0 rfl ?_
  refine r_getE (pc' := 4) C (K_151 hF) wd_269 dJx4a65c_elementData_915e3_1 rfl ?_
  rw [oE_p hp]
  refine r_iload_n (pc' := 5) (f4 := 1) (i := 1) C 1 rfl rfl dJx4a65c_elementData_915e3_4 rfl ?_
  refine r_aald7 (pc' := 6) C hK rfl ⟨h0, h1⟩ hv dJx4a65c_elementData_915e3_5 rfl ?_
  exact r_aret C (Or.inl ⟨_, rfl⟩) (Or.inr ⟨_, rfl⟩) dJx4a65c_elementData_915e3_6
theorem t_lget {S : SS} (hF : Fx S) {h : HH} {cap i : Int} (hk : trK h S cap) (h0 : 0 ≤ ww i) (h1 : ww i < ww (h 151 2)) (h2 : ww i < cap) (hv : h (h 151 1 - 1) (ww i) ≠ 0) : CMD yJx4a65c_get_915e3 cJx4a65c_get_915e3 2 (some (.object "java/lang/Object")) 2 43 0 0 (fun _ bs => [zP bs 151, zI i]) h S (fun dT _ => some (.ref (dT.2.1 (h (h 151 1 - 1) (ww i))))) h S := by
  refine CMD.intro (own := RJx4a65c) (by decide) rfl (fun _ _ => Nat.le_of_ble_eq_true rfl) ?_
  intro D dT bs p l e s m args below meth c C
  show V D dT bs 2 p l e _ s m args below meth c 0 0 _ h S 0 [(0, zP bs 151), (1, zI i)] []
  refine r_iload_n (pc' := 1) (f4 := 1) (i := 1) C 1 rfl rfl dJx4a65c_get_915e3_0 rfl ?_
  refine r_aload_n (pc' := 2) (f4 := 0) (i := 0) C 0 rfl rfl dJx4a65c_get_915e3_1 rfl ?_
  refine q_getI (pc' := 5) (j := 2) C (K_151 hF) fb_13_2 wd_270 (Or.inl rfl) dJx4a65c_get_915e3_2 rfl ?_
  refine q_callS (n := 2) (pc' := 8) C (t_ocheck h0 h1) rfl ⟨lwb_callS wd_1114 wd_1115 wd_123 wd_1116, by decide, by decide, by decide +kernel⟩ ⟨Nat.le_of_ble_eq_true rfl, Nat.le_of_ble_eq_true rfl⟩ rfl rfl (Nat.le_of_ble_eq_true rfl) dJx4a65c_get_915e3_5 rfl ⟨Nat.le_of_ble_eq_true rfl, Nat.le_of_ble_eq_true rfl⟩ ?_
  refine r_pop (pc' := 9) C rfl dJx4a65c_get_915e3_8 rfl ?_
  refine r_aload_n (pc' := 10) (f4 := 0) (i := 0) C 0 rfl rfl dJx4a65c_get_915e3_9 rfl ?_
  refine r_iload_n (pc' := 11) (f4 := 1) (i := 1) C 1 rfl rfl dJx4a65c_get_915e3_10 rfl ?_
  refine r_callVD (n := 1) (pc' := 14) (ci := 13) C (t_lelem hF hk h0 h2 hv) rfl (K_151 hF) cl_13 ⟨lwb_callV wd_1118 wd_1119 wd_1120 wd_103 wd_1121, rfl, by decide, by decide, by decide +kernel⟩ ⟨Nat.le_of_ble_eq_true rfl, Nat.le_of_ble_eq_true rfl⟩ rfl rfl (Nat.le_of_ble_eq_true rfl) dJx4a65c_get_915e3_11 rfl ⟨Nat.le_of_ble_eq_true rfl, Nat.le_of_ble_eq_true rfl⟩ ?_
  exact r_aret C (Or.inl ⟨_, rfl⟩) (Or.inr ⟨_, rfl⟩) dJx4a65c_get_915e3_14
/-- the i-th of the trace, as an int -/
def tr_get (S : SS) (h : HH) (i : Int) : Option Int :=
  if 0 < h 151 1 ∧ 0 ≤ h 151 1 - 1 ∧ h 151 1 - 1 < S.2 ∧ S.1 (h 151 1 - 1) (-1) = 27 ∧ 0 ≤ ww i ∧ ww i < ww (h 151 2) ∧ ww i < S.1 (h 151 1 - 1) (-2) ∧ S.1 (h 151 1 - 1) (-2) ≤ 1000 ∧ h (h 151 1 - 1) (ww i) ≠ 0 ∧ -128 ≤ h (h 151 1 - 1) (ww i) ∧ h (h 151 1 - 1) (ww i) ≤ 127 then some (h (h 151 1 - 1) (ww i)) else none
theorem t_newLength {h : HH} {S : SS} : CM yJ8_newLength_cabcc cJ8_newLength_cabcc 4 (some .int) 1 40 0 0 (fun _ => [zI 10, zI (11 - 10), zI (zshr 10 1)]) h S (fun _ => some (zI 15)) h S := by
  refine CM.intro (own := RJ8) (by decide) rfl (fun _ => Nat.le_of_ble_eq_true rfl) ?_
  intro D dT bs p l e s m args below meth c C
  show V D dT bs 4 p l e _ s m args below meth c 0 0 _ h S 0 [(0, zI 10), (1, zI (11 - 10)), (2, zI (zshr 10 1))] []
  refine r_iload_n (pc' := 1) (f4 := 0) (i := 0) C 0 rfl rfl dJ8_newLength_cabcc_0 rfl ?_
  refine r_iload_n (pc' := 2) (f4 := 1) (i := 1) C 1 rfl rfl dJ8_newLength_cabcc_1 rfl ?_
  refine r_iload_n (pc' := 3) (f4 := 2) (i := 2) C 2 rfl rfl dJ8_newLength_cabcc_2 rfl ?_
  refine r_max (pc' := 6) C wd_991 wd_568 wd_114 wd_569 (Nat.le_of_ble_eq_true rfl) (Nat.le_of_ble_eq_true rfl) ⟨Nat.le_of_ble_eq_true rfl, Nat.le_of_ble_eq_true rfl⟩ dJ8_newLength_cabcc_3 rfl ?_
  refine r_iadd (pc' := 7) C dJ8_newLength_cabcc_6 rfl ?_
  rw [show (10 : Int) + zmax (11 - 10) (zshr 10 1) = 15 from by decide +kernel]
  refine r_istore_n (pc' := 8) (f4 := 3) (i := 3) (L' := [(3, zI 15), (0, zI 10), (1, zI (11 - 10)), (2, zI (zshr 10 1))]) C rfl (by decide) rfl dJ8_newLength_cabcc_7 rfl ?_
  refine r_iconst (pc' := 9) C dJ8_newLength_cabcc_8 rfl ?_
  refine r_iload_n (pc' := 10) (f4 := 3) (i := 3) C 0 rfl rfl dJ8_newLength_cabcc_9 rfl ?_
  refine r_icmp_ge (pc' := 13) (tgt := 21) (E1 := (0 : Nat)) (E2 := 1) (res := 0) C (show ww 0 = 0 from by decide) (show ww 15 = 15 from by decide) (by rw [if_pos (by omega)]) dJ8_newLength_cabcc_10 (by decide) rfl (fun _ => ?_) (fun hf => absurd hf (by decide))
  refine r_iload_n (pc' := 14) (f4 := 3) (i := 3) C 0 rfl rfl dJ8_newLength_cabcc_13 rfl ?_
  refine r_ldc (pc' := 16) C (n := 2147483639) wc_992 dJ8_newLength_cabcc_14 rfl ?_
  refine r_icmp_gt (pc' := 19) (tgt := 21) (E1 := (0 : Nat)) (E2 := 1) (res := 1) C (show ww 15 = 15 from by decide) (show ww 2147483639 = 2147483639 from by decide) (by rw [if_neg (by omega)]) dJ8_newLength_cabcc_16 (by decide) rfl (fun hf => absurd hf (by decide)) (fun _ => ?_)
  refine r_iload_n (pc' := 20) (f4 := 3) (i := 3) C 0 rfl rfl dJ8_newLength_cabcc_19 rfl ?_
  exact r_iret C dJ8_newLength_cabcc_20
section ZY
variable {D : va_G} {dT : ZT} {bs nL : Nat} {own : String} {cc : ByteArray} {ret : Option FieldType} {p : Program} {l : Launch} {e : Env} {R : Room} {s : State} {m : MethodId} {args : Array Value} {below : List Frame} {meth : Method} {c : Code} {cells slots : Nat} {Q : State → Prop} {h : HH} {S : SS} {pc pc' tgt : Nat} {L L' : List (Nat × Value)} {st : List Value} {H : Heap} {locs : List Loc} {ls : Array Slot}
theorem zx_mirror (C : Cx D dT bs own cc nL ret p s m args meth c) : ∃ mi : Nat, va_Mi "[Ljava/lang/Object;" mi s := by
  obtain ⟨z1, z2, z3, z4, z5⟩ := zx_here C
  have h0 : Cond.isRef (.mirror "[Ljava/lang/Object;") ∈ flatC (Jvm.Cond.and given_1 narrow_1) := by decide +kernel
  obtain ⟨mi, hm⟩ := va_Mi.of (z4 _ h0)
  exact ⟨mi, hm.moved z1.alike⟩
theorem r_ldcM (C : Cx D dT bs own cc nL ret p s m args meth c) {ix mi : Nat} {A : String} (hM : va_Mi A mi s) (hlink : Cond.classLink own ix A ∈ lwb) (hd : decode cc pc = .ok (.ldc ix, 2)) (hp : pc + 2 = pc') (kk : V D dT bs nL p l e R s m args below meth c cells slots Q h S pc' L (.ref mi :: st)) : V D dT bs nL p l e R s m args below meth c cells slots Q h S pc L st := by
  intro H locs ls hP hS hl
  subst hp
  exact va_ldcM C.1 C.2.1 C.2.2.2.1 (C.2.2.2.2.1 _ hlink) hM hd (kk H locs ls hP hS hl)
/-- getClass() of a row of objects -/
theorem r_getC7 (C : Cx D dT bs own cc nL ret p s m args meth c) {ix mi : Nat} {k n : Int} (hk : KD S k 27 n) (hM : va_Mi "[Ljava/lang/Object;" mi s) (w1 : Cond.methodLink own ix ⟨"java/lang/Object", "getClass", "()Ljava/lang/Class;"⟩ ∈ lwb) (w2 : Cond.declares ⟨"java/lang/Object", "getClass", "()Ljava/lang/Class;"⟩ ∈ lw_tbl) (w3 : Cond.selects "[Ljava/lang/Object;" ⟨"java/lang/Object", "getClass", "()Ljava/lang/Class;"⟩ ⟨"java/lang/Object", "getClass", "()Ljava/lang/Class;"⟩ ∈ lwb) (w4 : Cond.instanceMethod ⟨"java/lang/Object", "getClass", "()Ljava/lang/Class;"⟩ ∈ lwb) (w5 : Cond.native ⟨"java/lang/Object", "getClass", "()Ljava/lang/Class;"⟩ ∈ lwb) (hfr : 1 ≤ R.frames) (hlo : (st.map fun v => v.category).sum + 14 ≤ R.locals) (hd : decode cc pc = .ok (.invokevirtual ix, 3)) (hp : pc + 3 = pc') (kk : V D dT bs nL p l e R s m args below meth c cells slots Q h S pc' L (.ref mi :: st)) : V D dT bs nL p l e R s m args below meth c cells slots Q h S pc L (zP bs k :: st) := by
  intro H locs ls hP hS hl
  subst hp
  have hts := C.2.2.2.2.1
  have hat := hP.at hk.1 hk.2.1
  rw [ent_arO hk] at hat
  have hA := (C.2.2.2.2.2.2.2.1.2 7 _ (tyL_at (dT := dT) (t := 7) (by decide))).2
  have hnm : s.vm.findClass "[Ljava/lang/Object;" = some (dT.1 7) := va_nmO (C := "java/lang/Object") hA rfl
  have hdc : (Cond.declares ⟨"java/lang/Object", "getClass", "()Ljava/lang/Class;"⟩).before args s = true := by
    obtain ⟨z1, z2, z3, z4, z5⟩ := zx_here C
    exact (va_Dc.moved z1.alike (va_Dc.of (z5 _ w2))).use
  exact va_getC C.1 C.2.1 (by rw [C.2.2.1]; exact hl.1.symm) C.2.2.2.1 (hts _ w1) hdc (hts _ w3) (hts _ w4) (hts _ w5) hM ⟨_, hat, rfl, hnm⟩ hfr hlo hd (kk H locs ls hP hS hl)
end ZY
/-- the row of ten grows to fifteen -/
theorem t_copyOf3 {S : SS} (hF : Fx S) {h : HH} {k : Int} {mi : Nat} (hK : KD S k 27 10) (hv : ∀ j : Int, 0 ≤ j → j < 10 → -128 ≤ h k j ∧ h k j ≤ 127) : CME (fun bs U H => va_Mi "[Ljava/lang/Object;" mi U) yJ7_copyOf_6403c cJ7_copyOf_6403c 4 (some (.array (.object "java/lang/Object"))) 1 60 1 15 (fun bs => [zP bs k, zI 15, .ref mi]) h S (fun bs => some (zP bs S.2)) (cpA (nh h S.2) k 0 S.2 0 10) (nS S 27 15) := by
  refine CME.intro (own := RJ7) (by decide) rfl (fun _ => Nat.le_of_ble_eq_true rfl) ?_
  intro D dT bs p l e s m args below meth c C hM
  show V D dT bs 4 p l e _ s m args below meth c 0 0 _ h S 0 [(0, zP bs k), (1, zI 15), (2, .ref mi)] []
  have hkn : k ≠ S.2 := by have := hK.2.1; omega
  have hK1 : KD (nS S 27 15) k 27 10 := hK.nS
  have hN1 : KD (nS S 27 15) S.2 27 15 := KD.new
  refine r_aloadO_n (pc' := 1) (f4 := 2) (i := 2) C 2 rfl rfl dJ7_copyOf_6403c_0 rfl ?_
  refine r_ldcM (pc' := 3) C hM wd_1021 dJ7_copyOf_6403c_1 rfl ?_
  refine r_acmpne_eq (pc' := 6) (tgt := 13) C dJ7_copyOf_6403c_3 (by decide) rfl ?_
  refine r_iload_n (pc' := 7) (f4 := 1) (i := 1) C 1 rfl rfl dJ7_copyOf_6403c_6 rfl ?_
  refine r_anew (pc' := 10) (t := 7) C (Or.inr (Or.inr rfl)) rfl wd_1023 (in_t4 (List.mem_of_getElem? (i := 208) (by decide +kernel))) (show ww 15 = 15 from by decide) ⟨by decide, by decide⟩ ⟨Nat.le_of_ble_eq_true rfl, Nat.le_of_ble_eq_true rfl⟩ dJ7_copyOf_6403c_7 rfl ?_
  show V D dT bs 4 p l e _ s m args below meth c 1 15 _ (nh h S.2) (nS S 27 15) 10 _ _
  refine r_goto (tgt := 24) C dJ7_copyOf_6403c_10 (by decide) ?_
  refine r_astore_n (pc' := 25) (f4 := 3) (i := 3) (L' := [(3, zP bs S.2), (0, zP bs k), (1, zI 15), (2, .ref mi)]) C rfl (by decide) rfl dJ7_copyOf_6403c_24 rfl ?_
  refine r_aload_n (pc' := 26) (f4 := 0) (i := 0) C 1 rfl rfl dJ7_copyOf_6403c_25 rfl ?_
  refine r_iconst (pc' := 27) C dJ7_copyOf_6403c_26 rfl ?_
  refine r_aload_n (pc' := 28) (f4 := 3) (i := 3) C 0 rfl rfl dJ7_copyOf_6403c_27 rfl ?_
  refine r_iconst (pc' := 29) C dJ7_copyOf_6403c_28 rfl ?_
  refine r_aload_n (pc' := 30) (f4 := 0) (i := 0) C 1 rfl rfl dJ7_copyOf_6403c_29 rfl ?_
  refine r_alen (pc' := 31) (t := 7) C hK1 (by decide) ⟨by decide, by decide⟩ dJ7_copyOf_6403c_30 rfl ?_
  refine r_iload_n (pc' := 32) (f4 := 1) (i := 1) C 2 rfl rfl dJ7_copyOf_6403c_31 rfl ?_
  refine r_min (pc' := 35) C wd_1024 wd_709 wd_114 wd_710 (Nat.le_of_ble_eq_true rfl) (Nat.le_of_ble_eq_true rfl) ⟨Nat.le_of_ble_eq_true rfl, Nat.le_of_ble_eq_true rfl⟩ dJ7_copyOf_6403c_32 rfl ?_
  rw [show zmin 10 15 = 10 from by decide +kernel]
  refine r_acpO (pc' := 38) C hK1 hN1 (show ww 10 = 10 from by decide) (by decide) (by decide) (by decide) (fun j j0 j1 => by
    have e : nh h S.2 k j = h k j := by unfold nh; rw [if_neg hkn]
    rw [e]; exact hv j j0 j1) (in_t8 (List.mem_of_getElem? (i := 30) (by decide +kernel))) wd_1025 wd_549 wd_548 wd_113 (Nat.le_of_ble_eq_true rfl) (Nat.le_of_ble_eq_true rfl) dJ7_copyOf_6403c_35 rfl ?_
  refine r_aload_n (pc' := 39) (f4 := 3) (i := 3) C 0 rfl rfl dJ7_copyOf_6403c_38 rfl ?_
  exact r_aret C (Or.inr ⟨_, rfl⟩) (Or.inr ⟨_, rfl⟩) dJ7_copyOf_6403c_39
