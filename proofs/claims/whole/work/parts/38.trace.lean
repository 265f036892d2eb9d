theorem ww_b {n : Nat} (h : n < 1000) : ww (n : Int) = n := ww_id (by omega) (by omega)
section ZE
variable {D : va_G} {dT : ZT} {bs nL : Nat} {own : String} {cc : ByteArray} {ret : Option FieldType} {p : Program} {l : Launch} {e : Env} {R : Room} {s : State} {m : MethodId} {args : Array Value} {below : List Frame} {meth : Method} {c : Code} {cells slots : Nat} {Q : State → Prop} {h : HH} {S : SS} {pc pc' : Nat} {L : List (Nat × Value)} {st : List Value}
theorem r_callSEa (C : Cx D dT bs own cc nL ret p s m args meth c) {E : Nat → State → Heap → Prop} (hO : EOld E) {y : MethodName} {bytes : ByteArray} {mL fr lo mc ms ix n : Nat} {rt : Option FieldType} {As rest : List Value} {av : Nat → List Value} {v : Nat → Value} {h' : HH} {S' : SS} (hM : CME E y bytes mL rt fr lo mc ms av h S (fun bs => some (v bs)) h' S') (hav : av bs = As) (hE : E bs s s.heap) (hG : WS own ix y bytes mL rt n) (hR : RM R fr mL lo) (hn : As.length = n) (hst : st = As.reverse ++ rest) (hW : (rest.map fun v => v.category).sum ≤ 8) (hd : decode cc pc = .ok (.invokestatic ix, 3)) (hp : pc + 3 = pc') (hf : cells + mc ≤ R.cells ∧ slots + ms ≤ R.slots)
    (kk : V D dT bs nL p l e R s m args below meth c (cells + mc) (slots + ms) Q h' S' pc' L (v bs :: rest)) : V D dT bs nL p l e R s m args below meth c cells slots Q h S pc L st := by
  intro H locs ls hP hS hl
  subst hp
  subst hst
  have hM' := hM l D dT bs
  rw [hav] at hM'
  refine z_call (va_runS (As := As) (rest := rest) (g := F0 m pc ls (As.reverse ++ rest)) ⟨C.1, C.2.1, C.2.2.1, C.2.2.2.1, C.2.2.2.2.1⟩ hM' (va_cwS n C.2.2.2.2.1 hG.1 rfl rfl rfl hG.2 hR) ⟨PE_blind hO, fun U hU hW => PE_at hO C hE hP hS hU hW⟩ rfl hn hl.1 rfl (lv_room hW) hd hf) hS (fun H1 locs1 hP1 hS1 => ?_)
  exact kk H1 locs1 ls hP1 hS1 hl
end ZE
theorem Mi_old {A : String} {mi : Nat} : EOld (fun bs U H => va_Mi A mi U) := fun bs u U H H1 h hvm hq => h.moved hvm
theorem t_copyOf2 {S : SS} (hF : Fx S) {h : HH} {k : Int} (hK : KD S k 27 10) (hv : ∀ j : Int, 0 ≤ j → j < 10 → -128 ≤ h k j ∧ h k j ≤ 127) : CM yJ7_copyOf_1904c cJ7_copyOf_1904c 2 (some (.array (.object "java/lang/Object"))) 2 90 1 15 (fun bs => [zP bs k, zI 15]) h S (fun bs => some (zP bs S.2)) (cpA (nh h S.2) k 0 S.2 0 10) (nS S 27 15) := by
  refine CM.intro (own := RJ7) (by decide) rfl (fun _ => Nat.le_of_ble_eq_true rfl) ?_
  intro D dT bs p l e s m args below meth c C
  show V D dT bs 2 p l e _ s m args below meth c 0 0 _ h S 0 [(0, zP bs k), (1, zI 15)] []
  obtain ⟨mi, hM⟩ := zx_mirror C
  refine r_aload_n (pc' := 1) (f4 := 0) (i := 0) C 0 rfl rfl dJ7_copyOf_1904c_0 rfl ?_
  refine r_iload_n (pc' := 2) (f4 := 1) (i := 1) C 1 rfl rfl dJ7_copyOf_1904c_1 rfl ?_
  refine r_aload_n (pc' := 3) (f4 := 0) (i := 0) C 0 rfl rfl dJ7_copyOf_1904c_2 rfl ?_
  refine r_getC7 (pc' := 6) C hK hM wd_999 (in_t8 (List.mem_of_getElem? (i := 52) (by decide +kernel))) wd_1825 wd_1000 wd_1017 (Nat.le_of_ble_eq_true rfl) (Nat.le_of_ble_eq_true rfl) dJ7_copyOf_1904c_3 rfl ?_
  refine r_callSEa (n := 3) (pc' := 9) C Mi_old (t_copyOf3 hF hK hv) rfl hM ⟨lwb_callS wd_1018 wd_1019 wd_99 wd_1020, by decide, by decide, by decide +kernel⟩ ⟨Nat.le_of_ble_eq_true rfl, Nat.le_of_ble_eq_true rfl⟩ rfl rfl (Nat.le_of_ble_eq_true rfl) dJ7_copyOf_1904c_6 rfl ⟨Nat.le_of_ble_eq_true rfl, Nat.le_of_ble_eq_true rfl⟩ ?_
  exact r_aret C (Or.inr ⟨_, rfl⟩) (Or.inr ⟨_, rfl⟩) dJ7_copyOf_1904c_9
/-- the list's first row -/
theorem t_growA {S : SS} (hF : Fx S) {h : HH} (he : h 151 1 = -7) : CM yJx4a65c_grow_92f84 cJx4a65c_grow_92f84 4 (some (.array (.object "java/lang/Object"))) 1 40 1 15 (fun bs => [zP bs 151, zI (0 + 1)]) h S (fun bs => some (zP bs S.2)) (u2 (nh h S.2) 151 1 (S.2 + 1)) (nS S 27 10) := by
  refine CM.intro (own := RJx4a65c) (by decide) rfl (fun _ => Nat.le_of_ble_eq_true rfl) ?_
  intro D dT bs p l e s m args below meth c C
  show V D dT bs 4 p l e _ s m args below meth c 0 0 _ h S 0 [(0, zP bs 151), (1, zI (0 + 1))] []
  obtain ⟨hz, hT⟩ := zx_empty C (in_t1 (List.mem_of_getElem? (i := 174) (by decide +kernel))) (in_t1 (List.mem_of_getElem? (i := 9) (by decide +kernel)))
  have hF1 : Fx (nS S 27 10) := hF.ext SXt.nS
  refine r_aload_n (pc' := 1) (f4 := 0) (i := 0) C 0 rfl rfl dJx4a65c_grow_92f84_0 rfl ?_
  refine r_getE (pc' := 4) C (K_151 hF) wd_269 dJx4a65c_grow_92f84_1 rfl ?_
  rw [oE_c he]
  refine r_otlen (pc' := 5) (N := 0) C hT dJx4a65c_grow_92f84_4 rfl ?_
  refine r_istore_n (pc' := 6) (f4 := 2) (i := 2) (L' := [(2, zI ((0 : Nat) : Int)), (0, zP bs 151), (1, zI (0 + 1))]) C rfl (by decide) rfl dJx4a65c_grow_92f84_5 rfl ?_
  refine r_iload_n (pc' := 7) (f4 := 2) (i := 2) C 0 rfl rfl dJx4a65c_grow_92f84_6 rfl ?_
  refine r_if_gt (pc' := 10) (tgt := 20) (E1 := (0 : Nat)) (E2 := 1) (res := 1) C (show ww ((0 : Nat) : Int) = 0 from by decide) (by rw [if_neg (by omega)]) dJx4a65c_grow_92f84_7 (by decide) rfl (fun hf => absurd hf (by decide)) (fun _ => ?_)
  refine r_aload_n (pc' := 11) (f4 := 0) (i := 0) C 1 rfl rfl dJx4a65c_grow_92f84_10 rfl ?_
  refine r_getE (pc' := 14) C (K_151 hF) wd_269 dJx4a65c_grow_92f84_11 rfl ?_
  rw [oE_c he]
  refine r_ogets (pc' := 17) C hz wd_267 rfl dJx4a65c_grow_92f84_14 rfl ?_
  refine r_acmpeq_eq (tgt := 45) C dJx4a65c_grow_92f84_17 (by decide) ?_
  refine r_aload_n (pc' := 46) (f4 := 0) (i := 0) C 1 rfl rfl dJx4a65c_grow_92f84_45 rfl ?_
  refine r_bipush (pc' := 48) C (n := 10) rfl dJx4a65c_grow_92f84_46 rfl ?_
  refine r_iload_n (pc' := 49) (f4 := 1) (i := 1) C 2 rfl rfl dJx4a65c_grow_92f84_48 rfl ?_
  refine r_max (pc' := 52) C wd_1026 wd_568 wd_114 wd_569 (Nat.le_of_ble_eq_true rfl) (Nat.le_of_ble_eq_true rfl) ⟨Nat.le_of_ble_eq_true rfl, Nat.le_of_ble_eq_true rfl⟩ dJx4a65c_grow_92f84_49 rfl ?_
  rw [show zmax 10 (0 + 1) = 10 from by decide +kernel]
  refine r_anew (pc' := 55) (t := 7) C (Or.inr (Or.inr rfl)) rfl wd_1027 (in_t4 (List.mem_of_getElem? (i := 208) (by decide +kernel))) (show ww 10 = 10 from by decide) ⟨by decide, by decide⟩ ⟨Nat.le_of_ble_eq_true rfl, Nat.le_of_ble_eq_true rfl⟩ dJx4a65c_grow_92f84_52 rfl ?_
  show V D dT bs 4 p l e _ s m args below meth c 1 10 _ (nh h S.2) (nS S 27 10) 55 _ _
  refine r_dup_x1 (pc' := 56) C rfl rfl dJx4a65c_grow_92f84_55 rfl ?_
  refine r_putE (pc' := 59) C (K_151 hF1) (by omega) wd_269 dJx4a65c_grow_92f84_56 rfl ?_
  refine V.wide (k := 1) (n := 15) (Nat.le_refl _) (by omega) ?_
  exact r_aret C (Or.inr ⟨_, rfl⟩) (Or.inr ⟨_, rfl⟩) dJx4a65c_grow_92f84_59
theorem t_growK {S : SS} (hF : Fx S) {h : HH} (hk : trK h S 10) (hv : ∀ j : Int, 0 ≤ j → j < 10 → -128 ≤ h (h 151 1 - 1) j ∧ h (h 151 1 - 1) j ≤ 127) : CM yJx4a65c_grow_92f84 cJx4a65c_grow_92f84 4 (some (.array (.object "java/lang/Object"))) 3 120 1 15 (fun bs => [zP bs 151, zI (10 + 1)]) h S (fun bs => some (zP bs S.2)) (u2 (cpA (nh h S.2) (h 151 1 - 1) 0 S.2 0 10) 151 1 (S.2 + 1)) (nS S 27 15) := by
  refine CM.intro (own := RJx4a65c) (by decide) rfl (fun _ => Nat.le_of_ble_eq_true rfl) ?_
  intro D dT bs p l e s m args below meth c C
  show V D dT bs 4 p l e _ s m args below meth c 0 0 _ h S 0 [(0, zP bs 151), (1, zI (10 + 1))] []
  have hF1 : Fx (nS S 27 15) := hF.ext SXt.nS
  obtain ⟨hp, hK, hc0, hc1⟩ := hk
  refine r_aload_n (pc' := 1) (f4 := 0) (i := 0) C 0 rfl rfl dJx4a65c_grow_92f84_0 rfl ?_
  refine r_getE (pc' := 4) C (K_151 hF) wd_269 dJx4a65c_grow_92f84_1 rfl ?_
  rw [oE_p hp]
  refine r_alen (pc' := 5) (t := 7) C hK (by decide) ⟨by decide, by decide⟩ dJx4a65c_grow_92f84_4 rfl ?_
  refine r_istore_n (pc' := 6) (f4 := 2) (i := 2) (L' := [(2, zI 10), (0, zP bs 151), (1, zI (10 + 1))]) C rfl (by decide) rfl dJx4a65c_grow_92f84_5 rfl ?_
  refine r_iload_n (pc' := 7) (f4 := 2) (i := 2) C 0 rfl rfl dJx4a65c_grow_92f84_6 rfl ?_
  refine r_if_gt (pc' := 10) (tgt := 20) (E1 := (0 : Nat)) (E2 := 1) (res := 0) C (show ww 10 = 10 from by decide) (by rw [if_pos (by omega)]) dJx4a65c_grow_92f84_7 (by decide) rfl (fun _ => ?_) (fun hf => absurd hf (by decide))
  refine r_iload_n (pc' := 21) (f4 := 2) (i := 2) C 0 rfl rfl dJx4a65c_grow_92f84_20 rfl ?_
  refine r_iload_n (pc' := 22) (f4 := 1) (i := 1) C 2 rfl rfl dJx4a65c_grow_92f84_21 rfl ?_
  refine r_iload_n (pc' := 23) (f4 := 2) (i := 2) C 0 rfl rfl dJx4a65c_grow_92f84_22 rfl ?_
  refine r_isub (pc' := 24) C dJx4a65c_grow_92f84_23 rfl ?_
  refine r_iload_n (pc' := 25) (f4 := 2) (i := 2) C 0 rfl rfl dJx4a65c_grow_92f84_24 rfl ?_
  refine r_iconst (pc' := 26) C dJx4a65c_grow_92f84_25 rfl ?_
  refine r_ishr (pc' := 27) C dJx4a65c_grow_92f84_26 rfl ?_
  rw [show ((10 : Int) + 1 - 10) = 11 - 10 from rfl]
  refine q_callS (n := 3) (pc' := 30) C t_newLength rfl ⟨lwb_callS wd_988 wd_989 wd_122 wd_990, by decide, by decide, by decide +kernel⟩ ⟨Nat.le_of_ble_eq_true rfl, Nat.le_of_ble_eq_true rfl⟩ rfl rfl (Nat.le_of_ble_eq_true rfl) dJx4a65c_grow_92f84_27 rfl ⟨Nat.le_of_ble_eq_true rfl, Nat.le_of_ble_eq_true rfl⟩ ?_
  refine r_istore_n (pc' := 31) (f4 := 3) (i := 3) (L' := [(3, zI 15), (2, zI 10), (0, zP bs 151), (1, zI (10 + 1))]) C rfl (by decide) rfl dJx4a65c_grow_92f84_30 rfl ?_
  refine r_aload_n (pc' := 32) (f4 := 0) (i := 0) C 2 rfl rfl dJx4a65c_grow_92f84_31 rfl ?_
  refine r_aload_n (pc' := 33) (f4 := 0) (i := 0) C 2 rfl rfl dJx4a65c_grow_92f84_32 rfl ?_
  refine r_getE (pc' := 36) C (K_151 hF) wd_269 dJx4a65c_grow_92f84_33 rfl ?_
  rw [oE_p hp]
  refine r_iload_n (pc' := 37) (f4 := 3) (i := 3) C 0 rfl rfl dJx4a65c_grow_92f84_36 rfl ?_
  refine r_callSD (n := 2) (pc' := 40) C (t_copyOf2 hF hK hv).toD rfl ⟨lwb_callS wd_996 wd_997 wd_99 wd_998, by decide, by decide, by decide +kernel⟩ ⟨Nat.le_of_ble_eq_true rfl, Nat.le_of_ble_eq_true rfl⟩ rfl rfl (Nat.le_of_ble_eq_true rfl) dJx4a65c_grow_92f84_37 rfl ⟨Nat.le_of_ble_eq_true rfl, Nat.le_of_ble_eq_true rfl⟩ ?_
  show V D dT bs 4 p l e _ s m args below meth c 1 15 _ (cpA (nh h S.2) (h 151 1 - 1) 0 S.2 0 10) (nS S 27 15) 40 _ [zP bs S.2, zP bs 151]
  refine r_dup_x1 (pc' := 41) C rfl rfl dJx4a65c_grow_92f84_40 rfl ?_
  refine r_putE (pc' := 44) C (K_151 hF1) (by omega) wd_269 dJx4a65c_grow_92f84_41 rfl ?_
  exact r_aret C (Or.inr ⟨_, rfl⟩) (Or.inr ⟨_, rfl⟩) dJx4a65c_grow_92f84_44
theorem t_grow0A {S : SS} (hF : Fx S) {h : HH} (he : h 151 1 = -7) (hs : h 151 2 = 0) : CM yJx4a65c_grow_d5877 cJx4a65c_grow_d5877 1 (some (.array (.object "java/lang/Object"))) 2 70 1 15 (fun bs => [zP bs 151]) h S (fun bs => some (zP bs S.2)) (u2 (nh h S.2) 151 1 (S.2 + 1)) (nS S 27 10) := by
  refine CM.intro (own := RJx4a65c) (by decide) rfl (fun _ => Nat.le_of_ble_eq_true rfl) ?_
  intro D dT bs p l e s m args below meth c C
  show V D dT bs 1 p l e _ s m args below meth c 0 0 _ h S 0 [(0, zP bs 151)] []
  refine r_aload_n (pc' := 1) (f4 := 0) (i := 0) C 0 rfl rfl dJx4a65c_grow_d5877_0 rfl ?_
  refine r_aload_n (pc' := 2) (f4 := 0) (i := 0) C 0 rfl rfl dJx4a65c_grow_d5877_1 rfl ?_
  refine q_getI (pc' := 5) (j := 2) C (K_151 hF) fb_13_2 wd_270 (Or.inl rfl) dJx4a65c_grow_d5877_2 rfl ?_
  rw [show ((2 : Nat) : Int) = 2 from rfl, hs]
  refine r_iconst (pc' := 6) C dJx4a65c_grow_d5877_5 rfl ?_
  refine r_iadd (pc' := 7) C dJx4a65c_grow_d5877_6 rfl ?_
  refine r_callVD (n := 1) (pc' := 10) (ci := 13) C (t_growA hF he).toD rfl (K_151 hF) cl_13 ⟨lwb_callV wd_984 wd_986 wd_28 wd_103 wd_987, rfl, by decide, by decide, by decide +kernel⟩ ⟨Nat.le_of_ble_eq_true rfl, Nat.le_of_ble_eq_true rfl⟩ rfl rfl (Nat.le_of_ble_eq_true rfl) dJx4a65c_grow_d5877_7 rfl ⟨Nat.le_of_ble_eq_true rfl, Nat.le_of_ble_eq_true rfl⟩ ?_
  exact r_aret C (Or.inr ⟨_, rfl⟩) (Or.inr ⟨_, rfl⟩) dJx4a65c_grow_d5877_10
theorem t_grow0K {S : SS} (hF : Fx S) {h : HH} (hk : trK h S 10) (hs : h 151 2 = 10) (hv : ∀ j : Int, 0 ≤ j → j < 10 → -128 ≤ h (h 151 1 - 1) j ∧ h (h 151 1 - 1) j ≤ 127) : CM yJx4a65c_grow_d5877 cJx4a65c_grow_d5877 1 (some (.array (.object "java/lang/Object"))) 4 150 1 15 (fun bs => [zP bs 151]) h S (fun bs => some (zP bs S.2)) (u2 (cpA (nh h S.2) (h 151 1 - 1) 0 S.2 0 10) 151 1 (S.2 + 1)) (nS S 27 15) := by
  refine CM.intro (own := RJx4a65c) (by decide) rfl (fun _ => Nat.le_of_ble_eq_true rfl) ?_
  intro D dT bs p l e s m args below meth c C
  show V D dT bs 1 p l e _ s m args below meth c 0 0 _ h S 0 [(0, zP bs 151)] []
  refine r_aload_n (pc' := 1) (f4 := 0) (i := 0) C 0 rfl rfl dJx4a65c_grow_d5877_0 rfl ?_
  refine r_aload_n (pc' := 2) (f4 := 0) (i := 0) C 0 rfl rfl dJx4a65c_grow_d5877_1 rfl ?_
  refine q_getI (pc' := 5) (j := 2) C (K_151 hF) fb_13_2 wd_270 (Or.inl rfl) dJx4a65c_grow_d5877_2 rfl ?_
  rw [show ((2 : Nat) : Int) = 2 from rfl, hs]
  refine r_iconst (pc' := 6) C dJx4a65c_grow_d5877_5 rfl ?_
  refine r_iadd (pc' := 7) C dJx4a65c_grow_d5877_6 rfl ?_
  refine r_callVD (n := 1) (pc' := 10) (ci := 13) C (t_growK hF hk hv).toD rfl (K_151 hF) cl_13 ⟨lwb_callV wd_984 wd_986 wd_28 wd_103 wd_987, rfl, by decide, by decide, by decide +kernel⟩ ⟨Nat.le_of_ble_eq_true rfl, Nat.le_of_ble_eq_true rfl⟩ rfl rfl (Nat.le_of_ble_eq_true rfl) dJx4a65c_grow_d5877_7 rfl ⟨Nat.le_of_ble_eq_true rfl, Nat.le_of_ble_eq_true rfl⟩ ?_
  exact r_aret C (Or.inr ⟨_, rfl⟩) (Or.inr ⟨_, rfl⟩) dJx4a65c_grow_d5877_10
/-- add(e, row, n): there is room -/
theorem t_add3R {S : SS} (hF : Fx S) {h : HH} {k cap n v : Int} (hK : KD S k 27 cap) (hc : cap ≤ 1000) (h0 : 0 ≤ n) (h1 : n < cap) (hv : -128 ≤ v ∧ v ≤ 127 ∧ v ≠ 0) : CMD yJx4a65c_add_72be8 cJx4a65c_add_72be8 4 none 5 180 1 15 (fun dT bs => [zP bs 151, .ref (dT.2.1 v), zP bs k, zI n]) h S (fun _ _ => none) (u2 (u2 h k n v) 151 2 (n + 1)) S := by
  refine CMD.intro (own := RJx4a65c) (by decide) rfl (fun _ _ => Nat.le_of_ble_eq_true rfl) ?_
  intro D dT bs p l e s m args below meth c C
  show V D dT bs 4 p l e _ s m args below meth c 0 0 _ h S 0 [(0, zP bs 151), (1, .ref (dT.2.1 v)), (2, zP bs k), (3, zI n)] []
  have hn : ww n = n := ww_id (by omega) (by omega)
  refine r_iload_n (pc' := 1) (f4 := 3) (i := 3) C 3 rfl rfl dJx4a65c_add_72be8_0 rfl ?_
  refine r_aload_n (pc' := 2) (f4 := 2) (i := 2) C 2 rfl rfl dJx4a65c_add_72be8_1 rfl ?_
  refine r_alen (pc' := 3) (t := 7) C hK (by decide) ⟨by omega, by omega⟩ dJx4a65c_add_72be8_2 rfl ?_
  refine r_icmp_ne (pc' := 6) (tgt := 11) (E1 := (0 : Nat)) (E2 := 1) (res := 1) C hn (ww_id (z := cap) (by omega) (by omega)) (by rw [if_neg (by omega)]) dJx4a65c_add_72be8_3 (by decide) rfl (fun hf => absurd hf (by decide)) (fun _ => ?_)
  refine r_aload_n (pc' := 12) (f4 := 2) (i := 2) C 2 rfl rfl dJx4a65c_add_72be8_11 rfl ?_
  refine r_iload_n (pc' := 13) (f4 := 3) (i := 3) C 3 rfl rfl dJx4a65c_add_72be8_12 rfl ?_
  refine r_aloadO_n (pc' := 14) (f4 := 1) (i := 1) C 1 rfl rfl dJx4a65c_add_72be8_13 rfl ?_
  refine r_aastB (pc' := 15) C hK hn ⟨h0, h1⟩ hv (in_t8 (List.mem_of_getElem? (i := 30) (by decide +kernel))) dJx4a65c_add_72be8_14 rfl ?_
  refine r_aload_n (pc' := 16) (f4 := 0) (i := 0) C 0 rfl rfl dJx4a65c_add_72be8_15 rfl ?_
  refine r_iload_n (pc' := 17) (f4 := 3) (i := 3) C 3 rfl rfl dJx4a65c_add_72be8_16 rfl ?_
  refine r_iconst (pc' := 18) C dJx4a65c_add_72be8_17 rfl ?_
  refine r_iadd (pc' := 19) C dJx4a65c_add_72be8_18 rfl ?_
  refine q_putI (pc' := 22) (j := 2) C (K_151 hF) fb_13_2 fp_13_2 wd_270 (Or.inl rfl) (Or.inl rfl) rfl rfl dJx4a65c_add_72be8_19 rfl ?_
  refine V.wide (k := 1) (n := 15) (by omega) (by omega) ?_
  exact r_vret C dJx4a65c_add_72be8_22
theorem t_add3A {S : SS} (hF : Fx S) {h : HH} {v : Int} (he : h 151 1 = -7) (hs : h 151 2 = 0) (hv : -128 ≤ v ∧ v ≤ 127 ∧ v ≠ 0) : CMD yJx4a65c_add_72be8 cJx4a65c_add_72be8 4 none 5 180 1 15 (fun dT bs => [zP bs 151, .ref (dT.2.1 v), .ref dT.2.2.1, zI 0]) h S (fun _ _ => none) (u2 (u2 (u2 (nh h S.2) 151 1 (S.2 + 1)) S.2 0 v) 151 2 (0 + 1)) (nS S 27 10) := by
  refine CMD.intro (own := RJx4a65c) (by decide) rfl (fun _ _ => Nat.le_of_ble_eq_true rfl) ?_
  intro D dT bs p l e s m args below meth c C
  show V D dT bs 4 p l e _ s m args below meth c 0 0 _ h S 0 [(0, zP bs 151), (1, .ref (dT.2.1 v)), (2, .ref dT.2.2.1), (3, zI 0)] []
  obtain ⟨hz, hT⟩ := zx_empty C (in_t1 (List.mem_of_getElem? (i := 174) (by decide +kernel))) (in_t1 (List.mem_of_getElem? (i := 9) (by decide +kernel)))
  have hF1 : Fx (nS S 27 10) := hF.ext SXt.nS
  refine r_iload_n (pc' := 1) (f4 := 3) (i := 3) C 3 rfl rfl dJx4a65c_add_72be8_0 rfl ?_
  refine r_aloadO_n (pc' := 2) (f4 := 2) (i := 2) C 2 rfl rfl dJx4a65c_add_72be8_1 rfl ?_
  refine r_otlen (pc' := 3) (N := 0) C hT dJx4a65c_add_72be8_2 rfl ?_
  refine r_icmp_ne (pc' := 6) (tgt := 11) (E1 := (0 : Nat)) (E2 := 1) (res := 0) C (show ww 0 = 0 from by decide) (show ww ((0 : Nat) : Int) = 0 from by decide) (by rw [if_pos (by omega)]) dJx4a65c_add_72be8_3 (by decide) rfl (fun _ => ?_) (fun hf => absurd hf (by decide))
  refine r_aload_n (pc' := 7) (f4 := 0) (i := 0) C 0 rfl rfl dJx4a65c_add_72be8_6 rfl ?_
  refine r_callVD (n := 0) (pc' := 10) (ci := 13) C (t_grow0A hF he hs).toD rfl (K_151 hF) cl_13 ⟨lwb_callV wd_980 wd_982 wd_27 wd_103 wd_983, rfl, by decide, by decide, by decide +kernel⟩ ⟨Nat.le_of_ble_eq_true rfl, Nat.le_of_ble_eq_true rfl⟩ rfl rfl (Nat.le_of_ble_eq_true rfl) dJx4a65c_add_72be8_7 rfl ⟨Nat.le_of_ble_eq_true rfl, Nat.le_of_ble_eq_true rfl⟩ ?_
  show V D dT bs 4 p l e _ s m args below meth c 1 15 _ (u2 (nh h S.2) 151 1 (S.2 + 1)) (nS S 27 10) 10 _ [zP bs S.2]
  refine r_astore_n (pc' := 11) (f4 := 2) (i := 2) (L' := [(2, zP bs S.2), (0, zP bs 151), (1, .ref (dT.2.1 v)), (3, zI 0)]) C rfl (by decide) rfl dJx4a65c_add_72be8_10 rfl ?_
  refine r_aload_n (pc' := 12) (f4 := 2) (i := 2) C 0 rfl rfl dJx4a65c_add_72be8_11 rfl ?_
  refine r_iload_n (pc' := 13) (f4 := 3) (i := 3) C 3 rfl rfl dJx4a65c_add_72be8_12 rfl ?_
  refine r_aloadO_n (pc' := 14) (f4 := 1) (i := 1) C 2 rfl rfl dJx4a65c_add_72be8_13 rfl ?_
  refine r_aastB (pc' := 15) C KD.new (show ww 0 = 0 from by decide) ⟨by decide, by decide⟩ hv (in_t8 (List.mem_of_getElem? (i := 30) (by decide +kernel))) dJx4a65c_add_72be8_14 rfl ?_
  refine r_aload_n (pc' := 16) (f4 := 0) (i := 0) C 1 rfl rfl dJx4a65c_add_72be8_15 rfl ?_
  refine r_iload_n (pc' := 17) (f4 := 3) (i := 3) C 3 rfl rfl dJx4a65c_add_72be8_16 rfl ?_
  refine r_iconst (pc' := 18) C dJx4a65c_add_72be8_17 rfl ?_
  refine r_iadd (pc' := 19) C dJx4a65c_add_72be8_18 rfl ?_
  refine q_putI (pc' := 22) (j := 2) C (K_151 hF1) fb_13_2 fp_13_2 wd_270 (Or.inl rfl) (Or.inl rfl) rfl rfl dJx4a65c_add_72be8_19 rfl ?_
  exact r_vret C dJx4a65c_add_72be8_22
theorem t_add3K {S : SS} (hF : Fx S) {h : HH} {v : Int} (hk : trK h S 10) (hs : h 151 2 = 10) (hw : ∀ j : Int, 0 ≤ j → j < 10 → -128 ≤ h (h 151 1 - 1) j ∧ h (h 151 1 - 1) j ≤ 127) (hv : -128 ≤ v ∧ v ≤ 127 ∧ v ≠ 0) : CMD yJx4a65c_add_72be8 cJx4a65c_add_72be8 4 none 5 180 1 15 (fun dT bs => [zP bs 151, .ref (dT.2.1 v), zP bs (h 151 1 - 1), zI 10]) h S (fun _ _ => none) (u2 (u2 (u2 (cpA (nh h S.2) (h 151 1 - 1) 0 S.2 0 10) 151 1 (S.2 + 1)) S.2 10 v) 151 2 (10 + 1)) (nS S 27 15) := by
  refine CMD.intro (own := RJx4a65c) (by decide) rfl (fun _ _ => Nat.le_of_ble_eq_true rfl) ?_
  intro D dT bs p l e s m args below meth c C
  show V D dT bs 4 p l e _ s m args below meth c 0 0 _ h S 0 [(0, zP bs 151), (1, .ref (dT.2.1 v)), (2, zP bs (h 151 1 - 1)), (3, zI 10)] []
  have hF1 : Fx (nS S 27 15) := hF.ext SXt.nS
  refine r_iload_n (pc' := 1) (f4 := 3) (i := 3) C 3 rfl rfl dJx4a65c_add_72be8_0 rfl ?_
  refine r_aload_n (pc' := 2) (f4 := 2) (i := 2) C 2 rfl rfl dJx4a65c_add_72be8_1 rfl ?_
  refine r_alen (pc' := 3) (t := 7) C hk.2.1 (by decide) ⟨by decide, by decide⟩ dJx4a65c_add_72be8_2 rfl ?_
  refine r_icmp_ne (pc' := 6) (tgt := 11) (E1 := (0 : Nat)) (E2 := 1) (res := 0) C (show ww 10 = 10 from by decide) (show ww 10 = 10 from by decide) (by rw [if_pos rfl]) dJx4a65c_add_72be8_3 (by decide) rfl (fun _ => ?_) (fun hf => absurd hf (by decide))
  refine r_aload_n (pc' := 7) (f4 := 0) (i := 0) C 0 rfl rfl dJx4a65c_add_72be8_6 rfl ?_
  refine r_callVD (n := 0) (pc' := 10) (ci := 13) C (t_grow0K hF hk hs hw).toD rfl (K_151 hF) cl_13 ⟨lwb_callV wd_980 wd_982 wd_27 wd_103 wd_983, rfl, by decide, by decide, by decide +kernel⟩ ⟨Nat.le_of_ble_eq_true rfl, Nat.le_of_ble_eq_true rfl⟩ rfl rfl (Nat.le_of_ble_eq_true rfl) dJx4a65c_add_72be8_7 rfl ⟨Nat.le_of_ble_eq_true rfl, Nat.le_of_ble_eq_true rfl⟩ ?_
  show V D dT bs 4 p l e _ s m args below meth c 1 15 _ (u2 (cpA (nh h S.2) (h 151 1 - 1) 0 S.2 0 10) 151 1 (S.2 + 1)) (nS S 27 15) 10 _ [zP bs S.2]
  refine r_astore_n (pc' := 11) (f4 := 2) (i := 2) (L' := [(2, zP bs S.2), (0, zP bs 151), (1, .ref (dT.2.1 v)), (3, zI 10)]) C rfl (by decide) rfl dJx4a65c_add_72be8_10 rfl ?_
  refine r_aload_n (pc' := 12) (f4 := 2) (i := 2) C 0 rfl rfl dJx4a65c_add_72be8_11 rfl ?_
  refine r_iload_n (pc' := 13) (f4 := 3) (i := 3) C 3 rfl rfl dJx4a65c_add_72be8_12 rfl ?_
  refine r_aloadO_n (pc' := 14) (f4 := 1) (i := 1) C 2 rfl rfl dJx4a65c_add_72be8_13 rfl ?_
  refine r_aastB (pc' := 15) C KD.new (show ww 10 = 10 from by decide) ⟨by decide, by decide⟩ hv (in_t8 (List.mem_of_getElem? (i := 30) (by decide +kernel))) dJx4a65c_add_72be8_14 rfl ?_
  refine r_aload_n (pc' := 16) (f4 := 0) (i := 0) C 1 rfl rfl dJx4a65c_add_72be8_15 rfl ?_
  refine r_iload_n (pc' := 17) (f4 := 3) (i := 3) C 3 rfl rfl dJx4a65c_add_72be8_16 rfl ?_
  refine r_iconst (pc' := 18) C dJx4a65c_add_72be8_17 rfl ?_
  refine r_iadd (pc' := 19) C dJx4a65c_add_72be8_18 rfl ?_
  refine q_putI (pc' := 22) (j := 2) C (K_151 hF1) fb_13_2 fp_13_2 wd_270 (Or.inl rfl) (Or.inl rfl) rfl rfl dJx4a65c_add_72be8_19 rfl ?_
  exact r_vret C dJx4a65c_add_72be8_22
/-- add(e): what stands behind the count of changes -/
theorem t_addC {S S' : SS} (hF : Fx S) {h h' : HH} {v : Int} {va : ZT → Nat → Value} (hea : ∀ (dT : ZT) (bs : Nat), va_rf (oE dT.2.2.1 bs (u2 h 151 0 (h 151 0 + 1) 151 1)) = va dT bs) (hM : CMD yJx4a65c_add_72be8 cJx4a65c_add_72be8 4 none 5 180 1 15 (fun dT bs => [zP bs 151, .ref (dT.2.1 v), va dT bs, zI (u2 h 151 0 (h 151 0 + 1) 151 2)]) (u2 h 151 0 (h 151 0 + 1)) S (fun _ _ => none) h' S') : CMD yJx4a65c_add_9ea2d cJx4a65c_add_9ea2d 2 (some .boolean) 6 210 1 15 (fun dT bs => [zP bs 151, .ref (dT.2.1 v)]) h S (fun _ _ => some (zI 1)) h' S' := by
  refine CMD.intro (own := RJx4a65c) (by decide) rfl (fun _ _ => Nat.le_of_ble_eq_true rfl) ?_
  intro D dT bs p l e s m args below meth c C
  show V D dT bs 2 p l e _ s m args below meth c 0 0 _ h S 0 [(0, zP bs 151), (1, .ref (dT.2.1 v))] []
  refine r_aload_n (pc' := 1) (f4 := 0) (i := 0) C 0 rfl rfl dJx4a65c_add_9ea2d_0 rfl ?_
  refine r_dup (pc' := 2) C rfl dJx4a65c_add_9ea2d_1 rfl ?_
  refine q_getI (pc' := 5) (j := 0) C (K_151 hF) fb_13_0 wd_272 (Or.inr wd_273) dJx4a65c_add_9ea2d_2 rfl ?_
  refine r_iconst (pc' := 6) C dJx4a65c_add_9ea2d_5 rfl ?_
  refine r_iadd (pc' := 7) C dJx4a65c_add_9ea2d_6 rfl ?_
  refine q_putI (pc' := 10) (j := 0) C (K_151 hF) fb_13_0 fp_13_0 wd_272 (Or.inr wd_273) (Or.inl rfl) rfl rfl dJx4a65c_add_9ea2d_7 rfl ?_
  rw [show ((0 : Nat) : Int) = 0 from rfl]
  refine r_aload_n (pc' := 11) (f4 := 0) (i := 0) C 0 rfl rfl dJx4a65c_add_9ea2d_10 rfl ?_
  refine r_aloadO_n (pc' := 12) (f4 := 1) (i := 1) C 1 rfl rfl dJx4a65c_add_9ea2d_11 rfl ?_
  refine r_aload_n (pc' := 13) (f4 := 0) (i := 0) C 0 rfl rfl dJx4a65c_add_9ea2d_12 rfl ?_
  refine r_getE (pc' := 16) C (K_151 hF) wd_269 dJx4a65c_add_9ea2d_13 rfl ?_
  rw [hea dT bs]
  refine r_aload_n (pc' := 17) (f4 := 0) (i := 0) C 0 rfl rfl dJx4a65c_add_9ea2d_16 rfl ?_
  refine q_getI (pc' := 20) (j := 2) C (K_151 hF) fb_13_2 wd_270 (Or.inl rfl) dJx4a65c_add_9ea2d_17 rfl ?_
  rw [show ((2 : Nat) : Int) = 2 from rfl]
  refine r_callVD (n := 3) (pc' := 23) (ci := 13) C hM rfl (K_151 hF) cl_13 ⟨lwb_callV wd_976 wd_978 wd_26 wd_103 wd_979, rfl, by decide, by decide, by decide +kernel⟩ ⟨Nat.le_of_ble_eq_true rfl, Nat.le_of_ble_eq_true rfl⟩ rfl rfl (Nat.le_of_ble_eq_true rfl) dJx4a65c_add_9ea2d_20 rfl ⟨Nat.le_of_ble_eq_true rfl, Nat.le_of_ble_eq_true rfl⟩ ?_
  refine r_iconst (pc' := 24) C dJx4a65c_add_9ea2d_23 rfl ?_
  exact r_zret C (Or.inr rfl) dJx4a65c_add_9ea2d_24
/-- add, on the memory behind the count of changes -/
def tr_add1 (v : Int) (S : SS) (h : HH) : Option (HH × SS) :=
  if h 151 1 = -7 then (if h 151 2 = 0 then some (u2 (u2 (u2 (nh h S.2) 151 1 (S.2 + 1)) S.2 0 v) 151 2 (0 + 1), nS S 27 10) else none)
  else if 0 < h 151 1 ∧ 0 ≤ h 151 1 - 1 ∧ h 151 1 - 1 < S.2 ∧ S.1 (h 151 1 - 1) (-1) = 27 then
    (if 0 ≤ h 151 2 ∧ h 151 2 < S.1 (h 151 1 - 1) (-2) ∧ S.1 (h 151 1 - 1) (-2) ≤ 1000 then some (u2 (u2 h (h 151 1 - 1) (h 151 2) v) 151 2 (h 151 2 + 1), S)
    else if h 151 2 = 10 ∧ S.1 (h 151 1 - 1) (-2) = 10 ∧ (∀ j : Nat, j < 10 → -128 ≤ h (h 151 1 - 1) j ∧ h (h 151 1 - 1) j ≤ 127) then some (u2 (u2 (u2 (cpA (nh h S.2) (h 151 1 - 1) 0 S.2 0 10) 151 1 (S.2 + 1)) S.2 10 v) 151 2 (10 + 1), nS S 27 15)
    else none)
  else none
def tr_add (v : Int) (S : SS) (h : HH) : Option (HH × SS) := tr_add1 v S (u2 h 151 0 (h 151 0 + 1))
theorem t_tr_add {S : SS} (hF : Fx S) {h : HH} {v : Int} (hv : -128 ≤ v ∧ v ≤ 127 ∧ v ≠ 0) {res : HH × SS} (hf : tr_add v S h = some res) : CMD yJx4a65c_add_9ea2d cJx4a65c_add_9ea2d 2 (some .boolean) 6 210 1 15 (fun dT bs => [zP bs 151, .ref (dT.2.1 v)]) h S (fun _ _ => some (zI 1)) res.1 res.2 := by
  unfold tr_add tr_add1 at hf
  generalize hh : u2 h 151 0 (h 151 0 + 1) = h1 at hf
  by_cases he : h1 151 1 = -7
  · rw [if_pos he] at hf
    by_cases hs : h1 151 2 = 0
    · rw [if_pos hs] at hf
      cases hf
      refine t_addC (va := fun dT _ => .ref dT.2.2.1) hF (fun dT bs => by rw [hh]; exact oE_c he) ?_
      rw [hh, hs]
      exact t_add3A hF he hs hv
    · rw [if_neg hs] at hf
      cases hf
  · rw [if_neg he] at hf
    by_cases hq : 0 < h1 151 1 ∧ 0 ≤ h1 151 1 - 1 ∧ h1 151 1 - 1 < S.2 ∧ S.1 (h1 151 1 - 1) (-1) = 27
    · rw [if_pos hq] at hf
      obtain ⟨a1, a2, a3, a4⟩ := hq
      by_cases hr : 0 ≤ h1 151 2 ∧ h1 151 2 < S.1 (h1 151 1 - 1) (-2) ∧ S.1 (h1 151 1 - 1) (-2) ≤ 1000
      · rw [if_pos hr] at hf
        cases hf
        refine t_addC (va := fun _ bs => zP bs (h1 151 1 - 1)) hF (fun dT bs => by rw [hh]; exact oE_p a1) ?_
        rw [hh]
        exact t_add3R hF (cap := S.1 (h1 151 1 - 1) (-2)) ⟨a2, a3, a4, rfl⟩ hr.2.2 hr.1 hr.2.1 hv
      · rw [if_neg hr] at hf
        split at hf
        · next hz =>
          obtain ⟨b1, b2, b3⟩ := hz
          cases hf
          refine t_addC (va := fun _ bs => zP bs (h1 151 1 - 1)) hF (fun dT bs => by rw [hh]; exact oE_p a1) ?_
          rw [hh, b1]
          exact t_add3K hF ⟨a1, ⟨a2, a3, a4, b2⟩, by decide, by decide⟩ b1 (fun j j0 j1 => by
            obtain ⟨n, rfl⟩ := Int.eq_ofNat_of_zero_le j0
            exact b3 n (by omega)) hv
        · cases hf
    · rw [if_neg hq] at hf
      cases hf
