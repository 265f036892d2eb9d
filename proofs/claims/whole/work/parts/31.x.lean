section
variable {D : va_G} {dT : ZT} {bs : Nat} {p : Program} {l : Launch} {e : Env} {s : State} {m : MethodId} {args : Array Value} {below : List Frame} {meth : Method} {c : Code} {S : SS}
/- WassailEnemies.ofTree(III)I -/
def x_ofTree (S : SS) (h : HH) (a1 : Int) (a2 : Int) (a3 : Int) : Option (Int × HH) :=
  if ww (x_isTree a3) = 0 then (some (-10001, h)) else (if ww a2 = 1 then (ck (ww a1) 6 <| ck (ww a3) 5 <| some (h (5 + (ww a1)) (ww a3), h)) else (if ww a2 = 2 then ((xw_force S h 1 a1 a3).bind fun q2 => some (q2.1, q2.2)) else (if ww a2 = 3 then ((x_lasts S h a1 a3).bind fun q3 => some (q3.1, q3.2)) else (some (-10001, h)))))
abbrev rm_x_ofTree : Room := { frames := 8, cells := 0, slots := 0, locals := 179 }
set_option maxHeartbeats 4000000 in
set_option maxRecDepth 100000 in
theorem t_x_ofTree {S : SS} (hF : Fx S) {h : HH} {a1 : Int} {a2 : Int} {a3 : Int} {res : Int × HH} (hf : x_ofTree S h a1 a2 a3 = some res) : CM yX11_ofTree cX11_ofTree 4 (some Jvm.ClassFile.FieldType.int) 8 179 0 0 (fun bs => [zP bs 0, zI a1, zI a2, zI a3]) h S (fun _ => some (zI res.1)) res.2 S := by
  refine CM.intro (own := RX11) (by decide) rfl (fun _ => Nat.le_of_ble_eq_true rfl) ?_
  intro D dT bs p l e s m args below meth c C
  show V D dT bs 4 p l e rm_x_ofTree s m args below meth c 0 0 _ h S 0 [(0, zP bs 0), (1, zI a1), (2, zI a2), (3, zI a3)] []
  unfold x_ofTree at hf
  refine r_iload_n (pc' := 1) (f4 := 3) (i := 3) C 3 rfl rfl dX11_ofTree_0 rfl ?_
  refine q_callS (pc' := 4) C (t_x_isTree hF) rfl ws_RX11_118 ⟨Nat.le_of_ble_eq_true rfl, Nat.le_of_ble_eq_true rfl⟩ rfl rfl (Nat.le_of_ble_eq_true rfl) dX11_ofTree_1 rfl ⟨Nat.le_of_ble_eq_true rfl, Nat.le_of_ble_eq_true rfl⟩ ?_
  refine r_if_ne (pc' := 7) (tgt := 11) C rfl hf dX11_ofTree_4 (by decide) rfl (fun hf => ?_) (fun hf => ?_)
  · refine r_sipush (pc' := 10) C rfl dX11_ofTree_7 rfl ?_
    cases hf
    exact r_iret C dX11_ofTree_10
  · refine r_iload_n (pc' := 12) (f4 := 2) (i := 2) C 2 rfl rfl dX11_ofTree_11 rfl ?_
    by_cases cs0 : ww a2 = 1
    · rw [if_pos cs0] at hf
      refine r_tsIn (tgt := 40) C 1 cs0 dX11_ofTree_12 (by decide) (by decide) rfl (by decide) ?_
      refine r_aload_n (pc' := 41) (f4 := 0) (i := 0) C 0 rfl rfl dX11_ofTree_40 rfl ?_
      refine q_getP (pc' := 44) (j := 0) C (K_0 hF) fb_11_0 (by decide) wd_311 (Or.inl rfl) (F_0_0 hF) (by decide) dX11_ofTree_41 rfl ?_
      refine q_getP (pc' := 47) (j := 2) C (K_1 hF) fb_10_2 (by decide) wd_180 (Or.inl rfl) (F_1_2 hF) (by decide) dX11_ofTree_44 rfl ?_
      refine r_iload_n (pc' := 48) (f4 := 1) (i := 1) C 1 rfl rfl dX11_ofTree_47 rfl ?_
      obtain ⟨hi1, hf⟩ := ck_in hf
      refine r_aaldP (pc' := 49) (t := 3) C (K_4 hF) (by decide) (by decide) (by decide) (by decide) rfl rfl hi1 (FL4 hF hi1) (Int.add_nonneg (by decide) (hi1).1) dX11_ofTree_48 rfl ?_
      refine r_iload_n (pc' := 50) (f4 := 3) (i := 3) C 3 rfl rfl dX11_ofTree_49 rfl ?_
      obtain ⟨hi, hf⟩ := ck_in hf
      refine r_iald (pc' := 51) C (KL4 hF hi1) rfl hi dX11_ofTree_50 rfl ?_
      cases hf
      exact r_iret C dX11_ofTree_51
    · rw [if_neg cs0] at hf
      by_cases cs1 : ww a2 = 2
      · rw [if_pos cs1] at hf
        refine r_tsIn (tgt := 52) C 2 cs1 dX11_ofTree_12 (by decide) (by decide) rfl (by decide) ?_
        refine r_aload_n (pc' := 53) (f4 := 0) (i := 0) C 0 rfl rfl dX11_ofTree_52 rfl ?_
        refine q_getP (pc' := 56) (j := 0) C (K_0 hF) fb_11_0 (by decide) wd_311 (Or.inl rfl) (F_0_0 hF) (by decide) dX11_ofTree_53 rfl ?_
        refine r_iload_n (pc' := 57) (f4 := 1) (i := 1) C 1 rfl rfl dX11_ofTree_56 rfl ?_
        refine r_iload_n (pc' := 58) (f4 := 3) (i := 3) C 3 rfl rfl dX11_ofTree_57 rfl ?_
        obtain ⟨q2, hq2, hf⟩ := bind_in hf
        refine q_callV (pc' := 61) C (t_xw_force hF lit_W_1 hq2) rfl (K_1 hF) cl_10 wv_RX11_124 ⟨Nat.le_of_ble_eq_true rfl, Nat.le_of_ble_eq_true rfl⟩ rfl rfl (Nat.le_of_ble_eq_true rfl) dX11_ofTree_58 rfl ⟨Nat.le_of_ble_eq_true rfl, Nat.le_of_ble_eq_true rfl⟩ ?_
        cases hf
        exact r_iret C dX11_ofTree_61
      · rw [if_neg cs1] at hf
        by_cases cs2 : ww a2 = 3
        · rw [if_pos cs2] at hf
          refine r_tsIn (tgt := 62) C 3 cs2 dX11_ofTree_12 (by decide) (by decide) rfl (by decide) ?_
          refine r_aload_n (pc' := 63) (f4 := 0) (i := 0) C 0 rfl rfl dX11_ofTree_62 rfl ?_
          refine r_iload_n (pc' := 64) (f4 := 1) (i := 1) C 1 rfl rfl dX11_ofTree_63 rfl ?_
          refine r_iload_n (pc' := 65) (f4 := 3) (i := 3) C 3 rfl rfl dX11_ofTree_64 rfl ?_
          obtain ⟨q3, hq3, hf⟩ := bind_in hf
          refine q_callV (pc' := 68) C (t_x_lasts hF hq3) rfl (K_0 hF) cl_11 wv_RX11_128 ⟨Nat.le_of_ble_eq_true rfl, Nat.le_of_ble_eq_true rfl⟩ rfl rfl (Nat.le_of_ble_eq_true rfl) dX11_ofTree_65 rfl ⟨Nat.le_of_ble_eq_true rfl, Nat.le_of_ble_eq_true rfl⟩ ?_
          cases hf
          exact r_iret C dX11_ofTree_68
        · rw [if_neg cs2] at hf
          refine r_tsOut (tgt := 69) C dX11_ofTree_12 (by omega) (by decide) ?_
          refine r_sipush (pc' := 72) C rfl dX11_ofTree_69 rfl ?_
          cases hf
          exact r_iret C dX11_ofTree_72

/- WassailEnemies.of(II)I -/
def x_of (S : SS) (h : HH) (a1 : Int) (a2 : Int) : Option (Int × HH) :=
  if ww (xw_has h 1 a1) = 0 then (some (-10001, h)) else (if ww a2 = 0 then (ck (ww a1) 6 <| ckh S (h 2 (ww a1) - 1) <| some (h (h 2 (ww a1) - 1) 0, h)) else (if ww a2 = 1 then (ck (ww a1) 6 <| ckh S (h 2 (ww a1) - 1) <| some (h (h 2 (ww a1) - 1) 2, h)) else (if ww a2 = 2 then (ck (ww a1) 6 <| some (x_bit (h 3 (ww a1)), h)) else (if ww a2 = 3 then ((xw_treeOf h 1 a1).bind fun q5 => some (q5, h)) else ((x_ofTree S h a1 (zdiv a2 10) (zrem a2 10)).bind fun q6 => some (q6.1, q6.2))))))
abbrev rm_x_of : Room := { frames := 9, cells := 0, slots := 0, locals := 202 }
set_option maxHeartbeats 4000000 in
set_option maxRecDepth 100000 in
theorem t_x_of {S : SS} (hF : Fx S) {h : HH} {a1 : Int} {a2 : Int} {res : Int × HH} (hf : x_of S h a1 a2 = some res) : CM yX11_of cX11_of 3 (some Jvm.ClassFile.FieldType.int) 9 202 0 0 (fun bs => [zP bs 0, zI a1, zI a2]) h S (fun _ => some (zI res.1)) res.2 S := by
  refine CM.intro (own := RX11) (by decide) rfl (fun _ => Nat.le_of_ble_eq_true rfl) ?_
  intro D dT bs p l e s m args below meth c C
  show V D dT bs 3 p l e rm_x_of s m args below meth c 0 0 _ h S 0 [(0, zP bs 0), (1, zI a1), (2, zI a2)] []
  unfold x_of at hf
  refine r_aload_n (pc' := 1) (f4 := 0) (i := 0) C 0 rfl rfl dX11_of_0 rfl ?_
  refine q_getP (pc' := 4) (j := 0) C (K_0 hF) fb_11_0 (by decide) wd_311 (Or.inl rfl) (F_0_0 hF) (by decide) dX11_of_1 rfl ?_
  refine r_iload_n (pc' := 5) (f4 := 1) (i := 1) C 1 rfl rfl dX11_of_4 rfl ?_
  refine q_callV (pc' := 8) C (t_xw_has hF lit_W_1) rfl (K_1 hF) cl_10 wv_RX11_87 ⟨Nat.le_of_ble_eq_true rfl, Nat.le_of_ble_eq_true rfl⟩ rfl rfl (Nat.le_of_ble_eq_true rfl) dX11_of_5 rfl ⟨Nat.le_of_ble_eq_true rfl, Nat.le_of_ble_eq_true rfl⟩ ?_
  refine r_if_ne (pc' := 11) (tgt := 15) C rfl hf dX11_of_8 (by decide) rfl (fun hf => ?_) (fun hf => ?_)
  · refine r_sipush (pc' := 14) C rfl dX11_of_11 rfl ?_
    cases hf
    exact r_iret C dX11_of_14
  · refine r_iload_n (pc' := 16) (f4 := 2) (i := 2) C 2 rfl rfl dX11_of_15 rfl ?_
    by_cases cs0 : ww a2 = 0
    · rw [if_pos cs0] at hf
      refine r_tsIn (tgt := 48) C 0 cs0 dX11_of_16 (by decide) (by decide) rfl (by decide) ?_
      refine r_aload_n (pc' := 49) (f4 := 0) (i := 0) C 0 rfl rfl dX11_of_48 rfl ?_
      refine q_getP (pc' := 52) (j := 0) C (K_0 hF) fb_11_0 (by decide) wd_311 (Or.inl rfl) (F_0_0 hF) (by decide) dX11_of_49 rfl ?_
      refine q_getP (pc' := 55) (j := 0) C (K_1 hF) fb_10_0 (by decide) wd_175 (Or.inl rfl) (F_1_0 hF) (by decide) dX11_of_52 rfl ?_
      refine r_iload_n (pc' := 56) (f4 := 1) (i := 1) C 1 rfl rfl dX11_of_55 rfl ?_
      obtain ⟨hi1, hf⟩ := ck_in hf
      obtain ⟨hH2, hf⟩ := ckh_in hf
      refine r_aaldD (pc' := 57) C (K_2 hF) rfl hi1 dX11_of_56 rfl ?_
      refine r_nnD (isHb_pos hH2) ?_
      refine q_getH (pc' := 60) (j := 0) C hH2 (by decide) wd_372 (Or.inl rfl) dX11_of_57 rfl ?_
      cases hf
      exact r_iret C dX11_of_60
    · rw [if_neg cs0] at hf
      by_cases cs1 : ww a2 = 1
      · rw [if_pos cs1] at hf
        refine r_tsIn (tgt := 61) C 1 cs1 dX11_of_16 (by decide) (by decide) rfl (by decide) ?_
        refine r_aload_n (pc' := 62) (f4 := 0) (i := 0) C 0 rfl rfl dX11_of_61 rfl ?_
        refine q_getP (pc' := 65) (j := 0) C (K_0 hF) fb_11_0 (by decide) wd_311 (Or.inl rfl) (F_0_0 hF) (by decide) dX11_of_62 rfl ?_
        refine q_getP (pc' := 68) (j := 0) C (K_1 hF) fb_10_0 (by decide) wd_175 (Or.inl rfl) (F_1_0 hF) (by decide) dX11_of_65 rfl ?_
        refine r_iload_n (pc' := 69) (f4 := 1) (i := 1) C 1 rfl rfl dX11_of_68 rfl ?_
        obtain ⟨hi3, hf⟩ := ck_in hf
        obtain ⟨hH4, hf⟩ := ckh_in hf
        refine r_aaldD (pc' := 70) C (K_2 hF) rfl hi3 dX11_of_69 rfl ?_
        refine r_nnD (isHb_pos hH4) ?_
        refine q_getH (pc' := 73) (j := 2) C hH4 (by decide) wd_384 (Or.inl rfl) dX11_of_70 rfl ?_
        cases hf
        exact r_iret C dX11_of_73
      · rw [if_neg cs1] at hf
        by_cases cs2 : ww a2 = 2
        · rw [if_pos cs2] at hf
          refine r_tsIn (tgt := 74) C 2 cs2 dX11_of_16 (by decide) (by decide) rfl (by decide) ?_
          refine r_aload_n (pc' := 75) (f4 := 0) (i := 0) C 0 rfl rfl dX11_of_74 rfl ?_
          refine q_getP (pc' := 78) (j := 0) C (K_0 hF) fb_11_0 (by decide) wd_311 (Or.inl rfl) (F_0_0 hF) (by decide) dX11_of_75 rfl ?_
          refine q_getP (pc' := 81) (j := 1) C (K_1 hF) fb_10_1 (by decide) wd_177 (Or.inl rfl) (F_1_1 hF) (by decide) dX11_of_78 rfl ?_
          refine r_iload_n (pc' := 82) (f4 := 1) (i := 1) C 1 rfl rfl dX11_of_81 rfl ?_
          obtain ⟨hi, hf⟩ := ck_in hf
          refine r_zald (pc' := 83) C (K_3 hF) rfl hi dX11_of_82 rfl ?_
          refine q_callS (pc' := 86) C (t_x_bit hF) rfl ws_RX11_106 ⟨Nat.le_of_ble_eq_true rfl, Nat.le_of_ble_eq_true rfl⟩ rfl rfl (Nat.le_of_ble_eq_true rfl) dX11_of_83 rfl ⟨Nat.le_of_ble_eq_true rfl, Nat.le_of_ble_eq_true rfl⟩ ?_
          cases hf
          exact r_iret C dX11_of_86
        · rw [if_neg cs2] at hf
          by_cases cs3 : ww a2 = 3
          · rw [if_pos cs3] at hf
            refine r_tsIn (tgt := 87) C 3 cs3 dX11_of_16 (by decide) (by decide) rfl (by decide) ?_
            refine r_aload_n (pc' := 88) (f4 := 0) (i := 0) C 0 rfl rfl dX11_of_87 rfl ?_
            refine q_getP (pc' := 91) (j := 0) C (K_0 hF) fb_11_0 (by decide) wd_311 (Or.inl rfl) (F_0_0 hF) (by decide) dX11_of_88 rfl ?_
            refine r_iload_n (pc' := 92) (f4 := 1) (i := 1) C 1 rfl rfl dX11_of_91 rfl ?_
            obtain ⟨q5, hq5, hf⟩ := bind_in hf
            refine q_callV (pc' := 95) C (t_xw_treeOf hF lit_W_1 hq5) rfl (K_1 hF) cl_10 wv_RX11_110 ⟨Nat.le_of_ble_eq_true rfl, Nat.le_of_ble_eq_true rfl⟩ rfl rfl (Nat.le_of_ble_eq_true rfl) dX11_of_92 rfl ⟨Nat.le_of_ble_eq_true rfl, Nat.le_of_ble_eq_true rfl⟩ ?_
            cases hf
            exact r_iret C dX11_of_95
          · rw [if_neg cs3] at hf
            refine r_tsOut (tgt := 96) C dX11_of_16 (by omega) (by decide) ?_
            refine r_aload_n (pc' := 97) (f4 := 0) (i := 0) C 0 rfl rfl dX11_of_96 rfl ?_
            refine r_iload_n (pc' := 98) (f4 := 1) (i := 1) C 1 rfl rfl dX11_of_97 rfl ?_
            refine r_iload_n (pc' := 99) (f4 := 2) (i := 2) C 2 rfl rfl dX11_of_98 rfl ?_
            refine r_bipush (pc' := 101) C rfl dX11_of_99 rfl ?_
            refine r_idiv (pc' := 102) C ww_n10 (by decide) dX11_of_101 rfl ?_
            refine r_iload_n (pc' := 103) (f4 := 2) (i := 2) C 2 rfl rfl dX11_of_102 rfl ?_
            refine r_bipush (pc' := 105) C rfl dX11_of_103 rfl ?_
            refine r_irem (pc' := 106) C ww_n10 (by decide) dX11_of_105 rfl ?_
            obtain ⟨q6, hq6, hf⟩ := bind_in hf
            refine q_callV (pc' := 109) C (t_x_ofTree hF hq6) rfl (K_0 hF) cl_11 wv_RX11_114 ⟨Nat.le_of_ble_eq_true rfl, Nat.le_of_ble_eq_true rfl⟩ rfl rfl (Nat.le_of_ble_eq_true rfl) dX11_of_106 rfl ⟨Nat.le_of_ble_eq_true rfl, Nat.le_of_ble_eq_true rfl⟩ ?_
            cases hf
            exact r_iret C dX11_of_109

/- WassailEnemies.isHate(I)Z -/
def x_isHate (a0 : Int) : Int :=
  if ww a0 < 0 then (0) else (if 99 < ww a0 then (0) else (1))
theorem b_x_isHate {a0 : Int} : x_isHate a0 = 0 ∨ x_isHate a0 = 1 := by
  unfold x_isHate
  repeat' split
  all_goals first | exact Or.inl rfl | exact Or.inr rfl

abbrev rm_x_isHate : Room := { frames := 0, cells := 0, slots := 0, locals := 0 }
set_option maxHeartbeats 4000000 in
set_option maxRecDepth 100000 in
theorem t_x_isHate {S : SS} (hF : Fx S) {h : HH} {a0 : Int} : CM yX11_isHate cX11_isHate 1 (some Jvm.ClassFile.FieldType.boolean) 0 0 0 0 (fun _ => [zI a0]) h S (fun _ => some (zI (x_isHate a0))) h S := by
  refine CM.intro (own := RX11) (by decide) rfl (fun _ => Nat.le_of_ble_eq_true rfl) ?_
  intro D dT bs p l e s m args below meth c C
  show V D dT bs 1 p l e rm_x_isHate s m args below meth c 0 0 _ h S 0 [(0, zI a0)] []
  obtain ⟨res, hf⟩ : ∃ r, x_isHate a0 = r := ⟨_, rfl⟩
  rw [hf]
  unfold x_isHate at hf
  refine r_iload_n (pc' := 1) (f4 := 0) (i := 0) C 0 rfl rfl dX11_isHate_0 rfl ?_
  refine r_if_lt (pc' := 4) (tgt := 14) C rfl hf dX11_isHate_1 (by decide) rfl (fun hf => ?_) (fun hf => ?_)
  · refine r_iconst (pc' := 15) C dX11_isHate_14 rfl ?_
    subst hf
    exact r_zret C (Or.inl rfl) dX11_isHate_15
  · refine r_iload_n (pc' := 5) (f4 := 0) (i := 0) C 0 rfl rfl dX11_isHate_4 rfl ?_
    refine r_bipush (pc' := 7) C rfl dX11_isHate_5 rfl ?_
    refine r_icmp_gt (pc' := 10) (tgt := 14) C rfl ww_n99 hf dX11_isHate_7 (by decide) rfl (fun hf => ?_) (fun hf => ?_)
    · refine r_iconst (pc' := 15) C dX11_isHate_14 rfl ?_
      subst hf
      exact r_zret C (Or.inl rfl) dX11_isHate_15
    · refine r_iconst (pc' := 11) C dX11_isHate_10 rfl ?_
      refine r_goto (tgt := 15) C dX11_isHate_11 (by decide) ?_
      subst hf
      exact r_zret C (Or.inr rfl) dX11_isHate_15

/- WassailEnemies.hate(III)I -/
def x_hate (h : HH) (a1 : Int) (a2 : Int) (a3 : Int) : Option (Int × HH) :=
  if ww (xw_has h 1 a1) = 0 then (some (-1, h)) else (if ww (x_isTree a2) = 0 then (some (-1, h)) else (if ww (x_isHate a3) = 0 then (some (-2, h)) else (ck (ww a1) 6 <| ck (ww a2) 5 <| ck (ww a1) 6 <| ck (ww a2) 5 <| some (h (5 + (ww a1)) (ww a2), u2 h (5 + (ww a1)) (ww a2) a3))))
abbrev rm_x_hate : Room := { frames := 1, cells := 0, slots := 0, locals := 21 }
set_option maxHeartbeats 4000000 in
set_option maxRecDepth 100000 in
theorem t_x_hate {S : SS} (hF : Fx S) {h : HH} {a1 : Int} {a2 : Int} {a3 : Int} {res : Int × HH} (hf : x_hate h a1 a2 a3 = some res) : CM yX11_hate cX11_hate 5 (some Jvm.ClassFile.FieldType.int) 1 21 0 0 (fun bs => [zP bs 0, zI a1, zI a2, zI a3]) h S (fun _ => some (zI res.1)) res.2 S := by
  refine CM.intro (own := RX11) (by decide) rfl (fun _ => Nat.le_of_ble_eq_true rfl) ?_
  intro D dT bs p l e s m args below meth c C
  show V D dT bs 5 p l e rm_x_hate s m args below meth c 0 0 _ h S 0 [(0, zP bs 0), (1, zI a1), (2, zI a2), (3, zI a3)] []
  unfold x_hate at hf
  refine r_aload_n (pc' := 1) (f4 := 0) (i := 0) C 0 rfl rfl dX11_hate_0 rfl ?_
  refine q_getP (pc' := 4) (j := 0) C (K_0 hF) fb_11_0 (by decide) wd_311 (Or.inl rfl) (F_0_0 hF) (by decide) dX11_hate_1 rfl ?_
  refine r_iload_n (pc' := 5) (f4 := 1) (i := 1) C 1 rfl rfl dX11_hate_4 rfl ?_
  refine q_callV (pc' := 8) C (t_xw_has hF lit_W_1) rfl (K_1 hF) cl_10 wv_RX11_87 ⟨Nat.le_of_ble_eq_true rfl, Nat.le_of_ble_eq_true rfl⟩ rfl rfl (Nat.le_of_ble_eq_true rfl) dX11_hate_5 rfl ⟨Nat.le_of_ble_eq_true rfl, Nat.le_of_ble_eq_true rfl⟩ ?_
  refine r_if_eq (pc' := 11) (tgt := 18) C rfl hf dX11_hate_8 (by decide) rfl (fun hf => ?_) (fun hf => ?_)
  · refine r_iconst (pc' := 19) C dX11_hate_18 rfl ?_
    cases hf
    exact r_iret C dX11_hate_19
  · refine r_iload_n (pc' := 12) (f4 := 2) (i := 2) C 2 rfl rfl dX11_hate_11 rfl ?_
    refine q_callS (pc' := 15) C (t_x_isTree hF) rfl ws_RX11_118 ⟨Nat.le_of_ble_eq_true rfl, Nat.le_of_ble_eq_true rfl⟩ rfl rfl (Nat.le_of_ble_eq_true rfl) dX11_hate_12 rfl ⟨Nat.le_of_ble_eq_true rfl, Nat.le_of_ble_eq_true rfl⟩ ?_
    refine r_if_ne (pc' := 18) (tgt := 20) C rfl hf dX11_hate_15 (by decide) rfl (fun hf => ?_) (fun hf => ?_)
    · refine r_iconst (pc' := 19) C dX11_hate_18 rfl ?_
      cases hf
      exact r_iret C dX11_hate_19
    · refine r_iload_n (pc' := 21) (f4 := 3) (i := 3) C 3 rfl rfl dX11_hate_20 rfl ?_
      refine q_callS (pc' := 24) C (t_x_isHate hF) rfl ws_RX11_71 ⟨Nat.le_of_ble_eq_true rfl, Nat.le_of_ble_eq_true rfl⟩ rfl rfl (Nat.le_of_ble_eq_true rfl) dX11_hate_21 rfl ⟨Nat.le_of_ble_eq_true rfl, Nat.le_of_ble_eq_true rfl⟩ ?_
      refine r_if_ne (pc' := 27) (tgt := 30) C rfl hf dX11_hate_24 (by decide) rfl (fun hf => ?_) (fun hf => ?_)
      · refine r_bipush (pc' := 29) C rfl dX11_hate_27 rfl ?_
        cases hf
        exact r_iret C dX11_hate_29
      · refine r_aload_n (pc' := 31) (f4 := 0) (i := 0) C 0 rfl rfl dX11_hate_30 rfl ?_
        refine q_getP (pc' := 34) (j := 0) C (K_0 hF) fb_11_0 (by decide) wd_311 (Or.inl rfl) (F_0_0 hF) (by decide) dX11_hate_31 rfl ?_
        refine q_getP (pc' := 37) (j := 2) C (K_1 hF) fb_10_2 (by decide) wd_180 (Or.inl rfl) (F_1_2 hF) (by decide) dX11_hate_34 rfl ?_
        refine r_iload_n (pc' := 38) (f4 := 1) (i := 1) C 1 rfl rfl dX11_hate_37 rfl ?_
        obtain ⟨hi1, hf⟩ := ck_in hf
        refine r_aaldP (pc' := 39) (t := 3) C (K_4 hF) (by decide) (by decide) (by decide) (by decide) rfl rfl hi1 (FL4 hF hi1) (Int.add_nonneg (by decide) (hi1).1) dX11_hate_38 rfl ?_
        refine r_iload_n (pc' := 40) (f4 := 2) (i := 2) C 2 rfl rfl dX11_hate_39 rfl ?_
        obtain ⟨hi, hf⟩ := ck_in hf
        refine r_iald (pc' := 41) C (KL4 hF hi1) rfl hi dX11_hate_40 rfl ?_
        refine r_istore (pc' := 43) (i := 4) (L' := [(4, zI (h (5 + (ww a1)) (ww a2))), (0, zP bs 0), (1, zI a1), (2, zI a2), (3, zI a3)]) C (by decide) rfl dX11_hate_41 rfl ?_
        refine r_aload_n (pc' := 44) (f4 := 0) (i := 0) C 1 rfl rfl dX11_hate_43 rfl ?_
        refine q_getP (pc' := 47) (j := 0) C (K_0 hF) fb_11_0 (by decide) wd_311 (Or.inl rfl) (F_0_0 hF) (by decide) dX11_hate_44 rfl ?_
        refine q_getP (pc' := 50) (j := 2) C (K_1 hF) fb_10_2 (by decide) wd_180 (Or.inl rfl) (F_1_2 hF) (by decide) dX11_hate_47 rfl ?_
        refine r_iload_n (pc' := 51) (f4 := 1) (i := 1) C 2 rfl rfl dX11_hate_50 rfl ?_
        obtain ⟨hi2, hf⟩ := ck_in hf
        refine r_aaldP (pc' := 52) (t := 3) C (K_4 hF) (by decide) (by decide) (by decide) (by decide) rfl rfl hi2 (FL4 hF hi2) (Int.add_nonneg (by decide) (hi2).1) dX11_hate_51 rfl ?_
        refine r_iload_n (pc' := 53) (f4 := 2) (i := 2) C 3 rfl rfl dX11_hate_52 rfl ?_
        refine r_iload_n (pc' := 54) (f4 := 3) (i := 3) C 4 rfl rfl dX11_hate_53 rfl ?_
        obtain ⟨hi, hf⟩ := ck_in hf
        refine r_iast (pc' := 55) C (KL4 hF hi2) rfl hi dX11_hate_54 rfl ?_
        refine r_iload (pc' := 57) (i := 4) C 0 rfl dX11_hate_55 rfl ?_
        cases hf
        exact r_iret C dX11_hate_57

/- WassailEnemies.lead(II)I -/
def x_lead (h : HH) (a1 : Int) (a2 : Int) : Option (Int × HH) :=
  if ww (x_isTree a1) = 0 then (some (-1, h)) else (if ww a2 = -1 then (ck (ww a1) 5 <| if ww a2 = -1 then ((xw_giveLeader h 1 a1 (-5)).bind fun q1 => some (h 19 (ww a1), q1)) else ((xw_giveLeader h 1 a1 a2).bind fun q2 => some (h 19 (ww a1), q2))) else (if ww (xw_has h 1 a2) = 0 then (some (-1, h)) else (ck (ww a1) 5 <| if ww a2 = -1 then ((xw_giveLeader h 1 a1 (-5)).bind fun q3 => some (h 19 (ww a1), q3)) else ((xw_giveLeader h 1 a1 a2).bind fun q4 => some (h 19 (ww a1), q4)))))
abbrev rm_x_lead : Room := { frames := 2, cells := 0, slots := 0, locals := 45 }
set_option maxHeartbeats 4000000 in
set_option maxRecDepth 100000 in
theorem t_x_lead {S : SS} (hF : Fx S) {h : HH} {a1 : Int} {a2 : Int} {res : Int × HH} (hf : x_lead h a1 a2 = some res) : CM yX11_lead cX11_lead 4 (some Jvm.ClassFile.FieldType.int) 2 45 0 0 (fun bs => [zP bs 0, zI a1, zI a2]) h S (fun _ => some (zI res.1)) res.2 S := by
  refine CM.intro (own := RX11) (by decide) rfl (fun _ => Nat.le_of_ble_eq_true rfl) ?_
  intro D dT bs p l e s m args below meth c C
  show V D dT bs 4 p l e rm_x_lead s m args below meth c 0 0 _ h S 0 [(0, zP bs 0), (1, zI a1), (2, zI a2)] []
  unfold x_lead at hf
  refine r_iload_n (pc' := 1) (f4 := 1) (i := 1) C 1 rfl rfl dX11_lead_0 rfl ?_
  refine q_callS (pc' := 4) C (t_x_isTree hF) rfl ws_RX11_118 ⟨Nat.le_of_ble_eq_true rfl, Nat.le_of_ble_eq_true rfl⟩ rfl rfl (Nat.le_of_ble_eq_true rfl) dX11_lead_1 rfl ⟨Nat.le_of_ble_eq_true rfl, Nat.le_of_ble_eq_true rfl⟩ ?_
  refine r_if_eq (pc' := 7) (tgt := 23) C rfl hf dX11_lead_4 (by decide) rfl (fun hf => ?_) (fun hf => ?_)
  · refine r_iconst (pc' := 24) C dX11_lead_23 rfl ?_
    cases hf
    exact r_iret C dX11_lead_24
  · refine r_iload_n (pc' := 8) (f4 := 2) (i := 2) C 2 rfl rfl dX11_lead_7 rfl ?_
    refine r_iconst (pc' := 9) C dX11_lead_8 rfl ?_
    refine r_icmp_eq (pc' := 12) (tgt := 25) C rfl ww_m1 hf dX11_lead_9 (by decide) rfl (fun hf => ?_) (fun hf => ?_)
    · refine r_aload_n (pc' := 26) (f4 := 0) (i := 0) C 0 rfl rfl dX11_lead_25 rfl ?_
      refine q_getP (pc' := 29) (j := 0) C (K_0 hF) fb_11_0 (by decide) wd_311 (Or.inl rfl) (F_0_0 hF) (by decide) dX11_lead_26 rfl ?_
      refine q_getP (pc' := 32) (j := 6) C (K_1 hF) fb_10_6 (by decide) wd_189 (Or.inl rfl) (F_1_6 hF) (by decide) dX11_lead_29 rfl ?_
      refine r_iload_n (pc' := 33) (f4 := 1) (i := 1) C 1 rfl rfl dX11_lead_32 rfl ?_
      obtain ⟨hi, hf⟩ := ck_in hf
      refine r_iald (pc' := 34) C (K_19 hF) rfl hi dX11_lead_33 rfl ?_
      refine r_istore_n (pc' := 35) (f4 := 3) (i := 3) (L' := [(3, zI (h 19 (ww a1))), (0, zP bs 0), (1, zI a1), (2, zI a2)]) C rfl (by decide) rfl dX11_lead_34 rfl ?_
      refine r_aload_n (pc' := 36) (f4 := 0) (i := 0) C 1 rfl rfl dX11_lead_35 rfl ?_
      refine q_getP (pc' := 39) (j := 0) C (K_0 hF) fb_11_0 (by decide) wd_311 (Or.inl rfl) (F_0_0 hF) (by decide) dX11_lead_36 rfl ?_
      refine r_iload_n (pc' := 40) (f4 := 1) (i := 1) C 2 rfl rfl dX11_lead_39 rfl ?_
      refine r_iload_n (pc' := 41) (f4 := 2) (i := 2) C 3 rfl rfl dX11_lead_40 rfl ?_
      refine r_iconst (pc' := 42) C dX11_lead_41 rfl ?_
      refine r_icmp_ne (pc' := 45) (tgt := 50) C rfl ww_m1 hf dX11_lead_42 (by decide) rfl (fun hf => ?_) (fun hf => ?_)
      · refine r_bipush (pc' := 47) C rfl dX11_lead_45 rfl ?_
        refine r_goto (tgt := 51) C dX11_lead_47 (by decide) ?_
        obtain ⟨q1, hq1, hf⟩ := bind_in hf
        refine q_callVv (pc' := 54) C (t_xw_giveLeader hF lit_W_1 hq1) rfl (K_1 hF) cl_10 wv_RX11_134 ⟨Nat.le_of_ble_eq_true rfl, Nat.le_of_ble_eq_true rfl⟩ rfl rfl (Nat.le_of_ble_eq_true rfl) dX11_lead_51 rfl ⟨Nat.le_of_ble_eq_true rfl, Nat.le_of_ble_eq_true rfl⟩ ?_
        refine r_iload_n (pc' := 55) (f4 := 3) (i := 3) C 0 rfl rfl dX11_lead_54 rfl ?_
        cases hf
        exact r_iret C dX11_lead_55
      · refine r_iload_n (pc' := 51) (f4 := 2) (i := 2) C 3 rfl rfl dX11_lead_50 rfl ?_
        obtain ⟨q2, hq2, hf⟩ := bind_in hf
        refine q_callVv (pc' := 54) C (t_xw_giveLeader hF lit_W_1 hq2) rfl (K_1 hF) cl_10 wv_RX11_134 ⟨Nat.le_of_ble_eq_true rfl, Nat.le_of_ble_eq_true rfl⟩ rfl rfl (Nat.le_of_ble_eq_true rfl) dX11_lead_51 rfl ⟨Nat.le_of_ble_eq_true rfl, Nat.le_of_ble_eq_true rfl⟩ ?_
        refine r_iload_n (pc' := 55) (f4 := 3) (i := 3) C 0 rfl rfl dX11_lead_54 rfl ?_
        cases hf
        exact r_iret C dX11_lead_55
    · refine r_aload_n (pc' := 13) (f4 := 0) (i := 0) C 0 rfl rfl dX11_lead_12 rfl ?_
      refine q_getP (pc' := 16) (j := 0) C (K_0 hF) fb_11_0 (by decide) wd_311 (Or.inl rfl) (F_0_0 hF) (by decide) dX11_lead_13 rfl ?_
      refine r_iload_n (pc' := 17) (f4 := 2) (i := 2) C 2 rfl rfl dX11_lead_16 rfl ?_
      refine q_callV (pc' := 20) C (t_xw_has hF lit_W_1) rfl (K_1 hF) cl_10 wv_RX11_87 ⟨Nat.le_of_ble_eq_true rfl, Nat.le_of_ble_eq_true rfl⟩ rfl rfl (Nat.le_of_ble_eq_true rfl) dX11_lead_17 rfl ⟨Nat.le_of_ble_eq_true rfl, Nat.le_of_ble_eq_true rfl⟩ ?_
      refine r_if_ne (pc' := 23) (tgt := 25) C rfl hf dX11_lead_20 (by decide) rfl (fun hf => ?_) (fun hf => ?_)
      · refine r_iconst (pc' := 24) C dX11_lead_23 rfl ?_
        cases hf
        exact r_iret C dX11_lead_24
      · refine r_aload_n (pc' := 26) (f4 := 0) (i := 0) C 0 rfl rfl dX11_lead_25 rfl ?_
        refine q_getP (pc' := 29) (j := 0) C (K_0 hF) fb_11_0 (by decide) wd_311 (Or.inl rfl) (F_0_0 hF) (by decide) dX11_lead_26 rfl ?_
        refine q_getP (pc' := 32) (j := 6) C (K_1 hF) fb_10_6 (by decide) wd_189 (Or.inl rfl) (F_1_6 hF) (by decide) dX11_lead_29 rfl ?_
        refine r_iload_n (pc' := 33) (f4 := 1) (i := 1) C 1 rfl rfl dX11_lead_32 rfl ?_
        obtain ⟨hi, hf⟩ := ck_in hf
        refine r_iald (pc' := 34) C (K_19 hF) rfl hi dX11_lead_33 rfl ?_
        refine r_istore_n (pc' := 35) (f4 := 3) (i := 3) (L' := [(3, zI (h 19 (ww a1))), (0, zP bs 0), (1, zI a1), (2, zI a2)]) C rfl (by decide) rfl dX11_lead_34 rfl ?_
        refine r_aload_n (pc' := 36) (f4 := 0) (i := 0) C 1 rfl rfl dX11_lead_35 rfl ?_
        refine q_getP (pc' := 39) (j := 0) C (K_0 hF) fb_11_0 (by decide) wd_311 (Or.inl rfl) (F_0_0 hF) (by decide) dX11_lead_36 rfl ?_
        refine r_iload_n (pc' := 40) (f4 := 1) (i := 1) C 2 rfl rfl dX11_lead_39 rfl ?_
        refine r_iload_n (pc' := 41) (f4 := 2) (i := 2) C 3 rfl rfl dX11_lead_40 rfl ?_
        refine r_iconst (pc' := 42) C dX11_lead_41 rfl ?_
        refine r_icmp_ne (pc' := 45) (tgt := 50) C rfl ww_m1 hf dX11_lead_42 (by decide) rfl (fun hf => ?_) (fun hf => ?_)
        · refine r_bipush (pc' := 47) C rfl dX11_lead_45 rfl ?_
          refine r_goto (tgt := 51) C dX11_lead_47 (by decide) ?_
          obtain ⟨q3, hq3, hf⟩ := bind_in hf
          refine q_callVv (pc' := 54) C (t_xw_giveLeader hF lit_W_1 hq3) rfl (K_1 hF) cl_10 wv_RX11_134 ⟨Nat.le_of_ble_eq_true rfl, Nat.le_of_ble_eq_true rfl⟩ rfl rfl (Nat.le_of_ble_eq_true rfl) dX11_lead_51 rfl ⟨Nat.le_of_ble_eq_true rfl, Nat.le_of_ble_eq_true rfl⟩ ?_
          refine r_iload_n (pc' := 55) (f4 := 3) (i := 3) C 0 rfl rfl dX11_lead_54 rfl ?_
          cases hf
          exact r_iret C dX11_lead_55
        · refine r_iload_n (pc' := 51) (f4 := 2) (i := 2) C 3 rfl rfl dX11_lead_50 rfl ?_
          obtain ⟨q4, hq4, hf⟩ := bind_in hf
          refine q_callVv (pc' := 54) C (t_xw_giveLeader hF lit_W_1 hq4) rfl (K_1 hF) cl_10 wv_RX11_134 ⟨Nat.le_of_ble_eq_true rfl, Nat.le_of_ble_eq_true rfl⟩ rfl rfl (Nat.le_of_ble_eq_true rfl) dX11_lead_51 rfl ⟨Nat.le_of_ble_eq_true rfl, Nat.le_of_ble_eq_true rfl⟩ ?_
          refine r_iload_n (pc' := 55) (f4 := 3) (i := 3) C 0 rfl rfl dX11_lead_54 rfl ?_
          cases hf
          exact r_iret C dX11_lead_55

/- WassailEnemies.leave(IZ)I -/
def x_leave (h : HH) (a1 : Int) (a2 : Int) : Option (Int × HH) :=
  if ww (xw_has h 1 a1) = 0 then (some (-1, h)) else (ck (ww a1) 6 <| ck (ww a1) 6 <| ckb a2 <| some (x_bit (h 3 (ww a1)), u2 h 3 (ww a1) a2))
abbrev rm_x_leave : Room := { frames := 1, cells := 0, slots := 0, locals := 21 }
set_option maxHeartbeats 4000000 in
set_option maxRecDepth 100000 in
theorem t_x_leave {S : SS} (hF : Fx S) {h : HH} {a1 : Int} {a2 : Int} {res : Int × HH} (hf : x_leave h a1 a2 = some res) : CM yX11_leave cX11_leave 4 (some Jvm.ClassFile.FieldType.int) 1 21 0 0 (fun bs => [zP bs 0, zI a1, zI a2]) h S (fun _ => some (zI res.1)) res.2 S := by
  refine CM.intro (own := RX11) (by decide) rfl (fun _ => Nat.le_of_ble_eq_true rfl) ?_
  intro D dT bs p l e s m args below meth c C
  show V D dT bs 4 p l e rm_x_leave s m args below meth c 0 0 _ h S 0 [(0, zP bs 0), (1, zI a1), (2, zI a2)] []
  unfold x_leave at hf
  refine r_aload_n (pc' := 1) (f4 := 0) (i := 0) C 0 rfl rfl dX11_leave_0 rfl ?_
  refine q_getP (pc' := 4) (j := 0) C (K_0 hF) fb_11_0 (by decide) wd_311 (Or.inl rfl) (F_0_0 hF) (by decide) dX11_leave_1 rfl ?_
  refine r_iload_n (pc' := 5) (f4 := 1) (i := 1) C 1 rfl rfl dX11_leave_4 rfl ?_
  refine q_callV (pc' := 8) C (t_xw_has hF lit_W_1) rfl (K_1 hF) cl_10 wv_RX11_87 ⟨Nat.le_of_ble_eq_true rfl, Nat.le_of_ble_eq_true rfl⟩ rfl rfl (Nat.le_of_ble_eq_true rfl) dX11_leave_5 rfl ⟨Nat.le_of_ble_eq_true rfl, Nat.le_of_ble_eq_true rfl⟩ ?_
  refine r_if_ne (pc' := 11) (tgt := 13) C rfl hf dX11_leave_8 (by decide) rfl (fun hf => ?_) (fun hf => ?_)
  · refine r_iconst (pc' := 12) C dX11_leave_11 rfl ?_
    cases hf
    exact r_iret C dX11_leave_12
  · refine r_aload_n (pc' := 14) (f4 := 0) (i := 0) C 0 rfl rfl dX11_leave_13 rfl ?_
    refine q_getP (pc' := 17) (j := 0) C (K_0 hF) fb_11_0 (by decide) wd_311 (Or.inl rfl) (F_0_0 hF) (by decide) dX11_leave_14 rfl ?_
    refine q_getP (pc' := 20) (j := 1) C (K_1 hF) fb_10_1 (by decide) wd_177 (Or.inl rfl) (F_1_1 hF) (by decide) dX11_leave_17 rfl ?_
    refine r_iload_n (pc' := 21) (f4 := 1) (i := 1) C 1 rfl rfl dX11_leave_20 rfl ?_
    obtain ⟨hi, hf⟩ := ck_in hf
    refine r_zald (pc' := 22) C (K_3 hF) rfl hi dX11_leave_21 rfl ?_
    refine r_istore_n (pc' := 23) (f4 := 3) (i := 3) (L' := [(3, zI (h 3 (ww a1))), (0, zP bs 0), (1, zI a1), (2, zI a2)]) C rfl (by decide) rfl dX11_leave_22 rfl ?_
    refine r_aload_n (pc' := 24) (f4 := 0) (i := 0) C 1 rfl rfl dX11_leave_23 rfl ?_
    refine q_getP (pc' := 27) (j := 0) C (K_0 hF) fb_11_0 (by decide) wd_311 (Or.inl rfl) (F_0_0 hF) (by decide) dX11_leave_24 rfl ?_
    refine q_getP (pc' := 30) (j := 1) C (K_1 hF) fb_10_1 (by decide) wd_177 (Or.inl rfl) (F_1_1 hF) (by decide) dX11_leave_27 rfl ?_
    refine r_iload_n (pc' := 31) (f4 := 1) (i := 1) C 2 rfl rfl dX11_leave_30 rfl ?_
    refine r_iload_n (pc' := 32) (f4 := 2) (i := 2) C 3 rfl rfl dX11_leave_31 rfl ?_
    obtain ⟨hi, hf⟩ := ck_in hf
    obtain ⟨hz, hf⟩ := ckb_in hf
    refine r_zast (pc' := 33) C (K_3 hF) rfl (zb_nar hz) hi dX11_leave_32 rfl ?_
    refine r_iload_n (pc' := 34) (f4 := 3) (i := 3) C 0 rfl rfl dX11_leave_33 rfl ?_
    refine q_callS (pc' := 37) C (t_x_bit hF) rfl ws_RX11_106 ⟨Nat.le_of_ble_eq_true rfl, Nat.le_of_ble_eq_true rfl⟩ rfl rfl (Nat.le_of_ble_eq_true rfl) dX11_leave_34 rfl ⟨Nat.le_of_ble_eq_true rfl, Nat.le_of_ble_eq_true rfl⟩ ?_
    cases hf
    exact r_iret C dX11_leave_37

/- WassailEnemies.row(III)I -/
def x_row (S : SS) (h : HH) (a1 : Int) (a2 : Int) (a3 : Int) : Option (Int × HH) :=
  if ww (xw_has h 1 a1) = 0 then (some (-1, h)) else (if ww a2 < 0 then (some (-1, h)) else (if ww a2 < 4 then (if ww a3 < 0 then (some (-2, h)) else (if 9 < ww a3 then (some (-2, h)) else (ck (ww a1) 6 <| ckh S (h 2 (ww a1) - 1) <| if ww (ins_8 S (h 2 (ww a1) - 1)) = 0 then (some (-3, h)) else (ck (ww a1) 6 <| ck (ww a2) 4 <| ck (ww a1) 6 <| ck (ww a2) 4 <| some (h (12 + (ww a1)) (ww a2), u2 h (12 + (ww a1)) (ww a2) a3))))) else (some (-1, h))))
abbrev rm_x_row : Room := { frames := 1, cells := 0, slots := 0, locals := 21 }
set_option maxHeartbeats 4000000 in
set_option maxRecDepth 100000 in
theorem t_x_row {S : SS} (hF : Fx S) {h : HH} {a1 : Int} {a2 : Int} {a3 : Int} {res : Int × HH} (hf : x_row S h a1 a2 a3 = some res) : CM yX11_row cX11_row 5 (some Jvm.ClassFile.FieldType.int) 1 21 0 0 (fun bs => [zP bs 0, zI a1, zI a2, zI a3]) h S (fun _ => some (zI res.1)) res.2 S := by
  refine CM.intro (own := RX11) (by decide) rfl (fun _ => Nat.le_of_ble_eq_true rfl) ?_
  intro D dT bs p l e s m args below meth c C
  show V D dT bs 5 p l e rm_x_row s m args below meth c 0 0 _ h S 0 [(0, zP bs 0), (1, zI a1), (2, zI a2), (3, zI a3)] []
  unfold x_row at hf
  refine r_aload_n (pc' := 1) (f4 := 0) (i := 0) C 0 rfl rfl dX11_row_0 rfl ?_
  refine q_getP (pc' := 4) (j := 0) C (K_0 hF) fb_11_0 (by decide) wd_311 (Or.inl rfl) (F_0_0 hF) (by decide) dX11_row_1 rfl ?_
  refine r_iload_n (pc' := 5) (f4 := 1) (i := 1) C 1 rfl rfl dX11_row_4 rfl ?_
  refine q_callV (pc' := 8) C (t_xw_has hF lit_W_1) rfl (K_1 hF) cl_10 wv_RX11_87 ⟨Nat.le_of_ble_eq_true rfl, Nat.le_of_ble_eq_true rfl⟩ rfl rfl (Nat.le_of_ble_eq_true rfl) dX11_row_5 rfl ⟨Nat.le_of_ble_eq_true rfl, Nat.le_of_ble_eq_true rfl⟩ ?_
  refine r_if_eq (pc' := 11) (tgt := 20) C rfl hf dX11_row_8 (by decide) rfl (fun hf => ?_) (fun hf => ?_)
  · refine r_iconst (pc' := 21) C dX11_row_20 rfl ?_
    cases hf
    exact r_iret C dX11_row_21
  · refine r_iload_n (pc' := 12) (f4 := 2) (i := 2) C 2 rfl rfl dX11_row_11 rfl ?_
    refine r_if_lt (pc' := 15) (tgt := 20) C rfl hf dX11_row_12 (by decide) rfl (fun hf => ?_) (fun hf => ?_)
    · refine r_iconst (pc' := 21) C dX11_row_20 rfl ?_
      cases hf
      exact r_iret C dX11_row_21
    · refine r_iload_n (pc' := 16) (f4 := 2) (i := 2) C 2 rfl rfl dX11_row_15 rfl ?_
      refine r_iconst (pc' := 17) C dX11_row_16 rfl ?_
      refine r_icmp_lt (pc' := 20) (tgt := 22) C rfl ww_n4 hf dX11_row_17 (by decide) rfl (fun hf => ?_) (fun hf => ?_)
      · refine r_iload_n (pc' := 23) (f4 := 3) (i := 3) C 3 rfl rfl dX11_row_22 rfl ?_
        refine r_if_lt (pc' := 26) (tgt := 32) C rfl hf dX11_row_23 (by decide) rfl (fun hf => ?_) (fun hf => ?_)
        · refine r_bipush (pc' := 34) C rfl dX11_row_32 rfl ?_
          cases hf
          exact r_iret C dX11_row_34
        · refine r_iload_n (pc' := 27) (f4 := 3) (i := 3) C 3 rfl rfl dX11_row_26 rfl ?_
          refine r_bipush (pc' := 29) C rfl dX11_row_27 rfl ?_
          refine r_icmp_le (pc' := 32) (tgt := 35) C rfl ww_n9 hf dX11_row_29 (by decide) rfl (fun hf => ?_) (fun hf => ?_)
          · refine r_bipush (pc' := 34) C rfl dX11_row_32 rfl ?_
            cases hf
            exact r_iret C dX11_row_34
          · refine r_aload_n (pc' := 36) (f4 := 0) (i := 0) C 0 rfl rfl dX11_row_35 rfl ?_
            refine q_getP (pc' := 39) (j := 0) C (K_0 hF) fb_11_0 (by decide) wd_311 (Or.inl rfl) (F_0_0 hF) (by decide) dX11_row_36 rfl ?_
            refine q_getP (pc' := 42) (j := 0) C (K_1 hF) fb_10_0 (by decide) wd_175 (Or.inl rfl) (F_1_0 hF) (by decide) dX11_row_39 rfl ?_
            refine r_iload_n (pc' := 43) (f4 := 1) (i := 1) C 1 rfl rfl dX11_row_42 rfl ?_
            obtain ⟨hi1, hf⟩ := ck_in hf
            obtain ⟨hH2, hf⟩ := ckh_in hf
            refine r_aaldD (pc' := 44) C (K_2 hF) rfl hi1 dX11_row_43 rfl ?_
            refine r_nnD (isHb_pos hH2) ?_
            refine ri_RX11_138 (pc' := 47) C hH2 dX11_row_44 rfl ?_
            refine r_if_ne (pc' := 50) (tgt := 53) C rfl hf dX11_row_47 (by decide) rfl (fun hf => ?_) (fun hf => ?_)
            · refine r_bipush (pc' := 52) C rfl dX11_row_50 rfl ?_
              cases hf
              exact r_iret C dX11_row_52
            · refine r_aload_n (pc' := 54) (f4 := 0) (i := 0) C 0 rfl rfl dX11_row_53 rfl ?_
              refine q_getP (pc' := 57) (j := 0) C (K_0 hF) fb_11_0 (by decide) wd_311 (Or.inl rfl) (F_0_0 hF) (by decide) dX11_row_54 rfl ?_
              refine q_getP (pc' := 60) (j := 3) C (K_1 hF) fb_10_3 (by decide) wd_183 (Or.inl rfl) (F_1_3 hF) (by decide) dX11_row_57 rfl ?_
              refine r_iload_n (pc' := 61) (f4 := 1) (i := 1) C 1 rfl rfl dX11_row_60 rfl ?_
              obtain ⟨hi3, hf⟩ := ck_in hf
              refine r_aaldP (pc' := 62) (t := 3) C (K_11 hF) (by decide) (by decide) (by decide) (by decide) rfl rfl hi3 (FL11 hF hi3) (Int.add_nonneg (by decide) (hi3).1) dX11_row_61 rfl ?_
              refine r_iload_n (pc' := 63) (f4 := 2) (i := 2) C 2 rfl rfl dX11_row_62 rfl ?_
              obtain ⟨hi, hf⟩ := ck_in hf
              refine r_iald (pc' := 64) C (KL11 hF hi3) rfl hi dX11_row_63 rfl ?_
              refine r_istore (pc' := 66) (i := 4) (L' := [(4, zI (h (12 + (ww a1)) (ww a2))), (0, zP bs 0), (1, zI a1), (2, zI a2), (3, zI a3)]) C (by decide) rfl dX11_row_64 rfl ?_
              refine r_aload_n (pc' := 67) (f4 := 0) (i := 0) C 1 rfl rfl dX11_row_66 rfl ?_
              refine q_getP (pc' := 70) (j := 0) C (K_0 hF) fb_11_0 (by decide) wd_311 (Or.inl rfl) (F_0_0 hF) (by decide) dX11_row_67 rfl ?_
              refine q_getP (pc' := 73) (j := 3) C (K_1 hF) fb_10_3 (by decide) wd_183 (Or.inl rfl) (F_1_3 hF) (by decide) dX11_row_70 rfl ?_
              refine r_iload_n (pc' := 74) (f4 := 1) (i := 1) C 2 rfl rfl dX11_row_73 rfl ?_
              obtain ⟨hi4, hf⟩ := ck_in hf
              refine r_aaldP (pc' := 75) (t := 3) C (K_11 hF) (by decide) (by decide) (by decide) (by decide) rfl rfl hi4 (FL11 hF hi4) (Int.add_nonneg (by decide) (hi4).1) dX11_row_74 rfl ?_
              refine r_iload_n (pc' := 76) (f4 := 2) (i := 2) C 3 rfl rfl dX11_row_75 rfl ?_
              refine r_iload_n (pc' := 77) (f4 := 3) (i := 3) C 4 rfl rfl dX11_row_76 rfl ?_
              obtain ⟨hi, hf⟩ := ck_in hf
              refine r_iast (pc' := 78) C (KL11 hF hi4) rfl hi dX11_row_77 rfl ?_
              refine r_iload (pc' := 80) (i := 4) C 0 rfl dX11_row_78 rfl ?_
              cases hf
              exact r_iret C dX11_row_80
      · refine r_iconst (pc' := 21) C dX11_row_20 rfl ?_
        cases hf
        exact r_iret C dX11_row_21

/- WassailEnemies.feed(I)I -/
def x_feed (h : HH) (a1 : Int) : Option (Int × HH) :=
  if ww a1 < 0 then (some (-2, h)) else (if 127 < ww a1 then (some (-2, h)) else ((xd_append h a1).bind fun q1 => some (q1.1, q1.2)))
abbrev rm_x_feed : Room := { frames := 1, cells := 0, slots := 0, locals := 21 }
set_option maxHeartbeats 4000000 in
set_option maxRecDepth 100000 in
theorem t_x_feed {S : SS} (hF : Fx S) {h : HH} {a1 : Int} {res : Int × HH} (hf : x_feed h a1 = some res) : CM yX11_feed cX11_feed 2 (some Jvm.ClassFile.FieldType.int) 1 21 0 0 (fun bs => [zP bs 0, zI a1]) h S (fun _ => some (zI res.1)) res.2 S := by
  refine CM.intro (own := RX11) (by decide) rfl (fun _ => Nat.le_of_ble_eq_true rfl) ?_
  intro D dT bs p l e s m args below meth c C
  show V D dT bs 2 p l e rm_x_feed s m args below meth c 0 0 _ h S 0 [(0, zP bs 0), (1, zI a1)] []
  unfold x_feed at hf
  refine r_iload_n (pc' := 1) (f4 := 1) (i := 1) C 1 rfl rfl dX11_feed_0 rfl ?_
  refine r_if_lt (pc' := 4) (tgt := 10) C rfl hf dX11_feed_1 (by decide) rfl (fun hf => ?_) (fun hf => ?_)
  · refine r_bipush (pc' := 12) C rfl dX11_feed_10 rfl ?_
    cases hf
    exact r_iret C dX11_feed_12
  · refine r_iload_n (pc' := 5) (f4 := 1) (i := 1) C 1 rfl rfl dX11_feed_4 rfl ?_
    refine r_bipush (pc' := 7) C rfl dX11_feed_5 rfl ?_
    refine r_icmp_le (pc' := 10) (tgt := 13) C rfl ww_n127 hf dX11_feed_7 (by decide) rfl (fun hf => ?_) (fun hf => ?_)
    · refine r_bipush (pc' := 12) C rfl dX11_feed_10 rfl ?_
      cases hf
      exact r_iret C dX11_feed_12
    · refine r_aload_n (pc' := 14) (f4 := 0) (i := 0) C 0 rfl rfl dX11_feed_13 rfl ?_
      refine q_getP (pc' := 17) (j := 4) C (K_0 hF) fb_11_4 (by decide) wd_315 (Or.inl rfl) (F_0_4 hF) (by decide) dX11_feed_14 rfl ?_
      refine r_iload_n (pc' := 18) (f4 := 1) (i := 1) C 1 rfl rfl dX11_feed_17 rfl ?_
      obtain ⟨q1, hq1, hf⟩ := bind_in hf
      refine q_callV (pc' := 21) C (t_xd_append hF hq1) rfl (K_148 hF) cl_6 wv_RX11_143 ⟨Nat.le_of_ble_eq_true rfl, Nat.le_of_ble_eq_true rfl⟩ rfl rfl (Nat.le_of_ble_eq_true rfl) dX11_feed_18 rfl ⟨Nat.le_of_ble_eq_true rfl, Nat.le_of_ble_eq_true rfl⟩ ?_
      cases hf
      exact r_iret C dX11_feed_21

/- WassailEnemies.weigh()V -/
def x_weigh_L23 (S : SS) (x1 : Int) (x2 : Int) (k80 : HH → Option HH) : Nat → HH → Int → Option HH
  | 0, _, _ => none
  | n23 + 1, h, x3 =>
    if ww x3 < 5 then ((xw_force S h 1 x2 x3).bind fun q2 => ck (ww x2) 6 <| ck (ww x2) 6 <| if ww (q2.2 3 (ww x2)) = 0 then (if ww q2.1 < ww x1 then (ck (ww x3) 5 <| x_weigh_L23 S x1 x2 k80 n23 (u2 q2.2 (153 + (ww x2)) (ww x3) 0) (x3 + 1)) else (ck (ww x3) 5 <| x_weigh_L23 S x1 x2 k80 n23 (u2 q2.2 (153 + (ww x2)) (ww x3) (1000000 + q2.1)) (x3 + 1))) else (ck (ww x3) 5 <| x_weigh_L23 S x1 x2 k80 n23 (u2 q2.2 (153 + (ww x2)) (ww x3) 0) (x3 + 1))) else (k80 h)
def x_weigh_L10 (S : SS) (x1 : Int) : Nat → HH → Int → Option HH
  | 0, _, _ => none
  | n10 + 1, h, x2 =>
    if ww x2 < ww (h 1 4) then (x_weigh_L23 S x1 x2 (fun h4 => x_weigh_L10 S x1 n10 h4 (x2 + 1)) FU h 0) else (some h)
def x_weigh (S : SS) (h : HH) : Option HH :=
  (xw_need h 1).bind fun q1 => x_weigh_L10 S q1 FU h 0
abbrev rm_x_weigh : Room := { frames := 5, cells := 0, slots := 0, locals := 112 }
set_option maxHeartbeats 4000000 in
set_option maxRecDepth 100000 in
theorem w_x_weigh_L23 (hF : Fx S) (C : Cx D dT bs RX11 cX11_weigh 5 (Option.none : Option Jvm.ClassFile.FieldType) p s m args meth c) (x1 : Int) (x2 : Int) (k80 : HH → Option HH) {res : HH} (hk80 : ∀ (h : HH), k80 h = some res → V D dT bs 5 p l e rm_x_weigh s m args below meth c 0 0 (MQ below (QQ D dT bs none res S) args s 0 0 (AA bs)) h S 80 [(0, zP bs 0), (1, zI x1), (2, zI x2)] []) :
    ∀ (n : Nat) (h : HH) (x3 : Int), x_weigh_L23 S x1 x2 k80 n h x3 = some res → V D dT bs 5 p l e rm_x_weigh s m args below meth c 0 0 (MQ below (QQ D dT bs none res S) args s 0 0 (AA bs)) h S 23 [(0, zP bs 0), (1, zI x1), (2, zI x2), (3, zI x3)] [] := by
  intro n
  induction n with
  | zero => intro h x3 hf; simp [x_weigh_L23] at hf
  | succ n23 ih23 =>
    intro h x3 hf
    rw [x_weigh_L23] at hf
    refine r_iload_n (pc' := 24) (f4 := 3) (i := 3) C 3 rfl rfl dX11_weigh_23 rfl ?_
    refine r_iconst (pc' := 25) C dX11_weigh_24 rfl ?_
    refine r_icmp_ge (pc' := 28) (tgt := 80) C rfl ww_n5 hf dX11_weigh_25 (by decide) rfl (fun hf => ?_) (fun hf => ?_)
    · refine r_aload_n (pc' := 29) (f4 := 0) (i := 0) C 0 rfl rfl dX11_weigh_28 rfl ?_
      refine q_getP (pc' := 32) (j := 0) C (K_0 hF) fb_11_0 (by decide) wd_311 (Or.inl rfl) (F_0_0 hF) (by decide) dX11_weigh_29 rfl ?_
      refine r_iload_n (pc' := 33) (f4 := 2) (i := 2) C 2 rfl rfl dX11_weigh_32 rfl ?_
      refine r_iload_n (pc' := 34) (f4 := 3) (i := 3) C 3 rfl rfl dX11_weigh_33 rfl ?_
      obtain ⟨q2, hq2, hf⟩ := bind_in hf
      refine q_callV (pc' := 37) C (t_xw_force hF lit_W_1 hq2) rfl (K_1 hF) cl_10 wv_RX11_124 ⟨Nat.le_of_ble_eq_true rfl, Nat.le_of_ble_eq_true rfl⟩ rfl rfl (Nat.le_of_ble_eq_true rfl) dX11_weigh_34 rfl ⟨Nat.le_of_ble_eq_true rfl, Nat.le_of_ble_eq_true rfl⟩ ?_
      refine r_istore (pc' := 39) (i := 4) (L' := [(4, zI q2.1), (0, zP bs 0), (1, zI x1), (2, zI x2), (3, zI x3)]) C (by decide) rfl dX11_weigh_37 rfl ?_
      refine r_aload_n (pc' := 40) (f4 := 0) (i := 0) C 1 rfl rfl dX11_weigh_39 rfl ?_
      refine q_getP (pc' := 43) (j := 8) C (K_0 hF) fb_11_8 (by decide) wd_319 (Or.inl rfl) (F_0_8 hF) (by decide) dX11_weigh_40 rfl ?_
      refine r_iload_n (pc' := 44) (f4 := 2) (i := 2) C 3 rfl rfl dX11_weigh_43 rfl ?_
      obtain ⟨hi3, hf⟩ := ck_in hf
      refine r_aaldP (pc' := 45) (t := 3) C (K_152 hF) (by decide) (by decide) (by decide) (by decide) rfl rfl hi3 (FL152 hF hi3) (Int.add_nonneg (by decide) (hi3).1) dX11_weigh_44 rfl ?_
      refine r_iload_n (pc' := 46) (f4 := 3) (i := 3) C 4 rfl rfl dX11_weigh_45 rfl ?_
      refine r_aload_n (pc' := 47) (f4 := 0) (i := 0) C 1 rfl rfl dX11_weigh_46 rfl ?_
      refine q_getP (pc' := 50) (j := 0) C (K_0 hF) fb_11_0 (by decide) wd_311 (Or.inl rfl) (F_0_0 hF) (by decide) dX11_weigh_47 rfl ?_
      refine q_getP (pc' := 53) (j := 1) C (K_1 hF) fb_10_1 (by decide) wd_177 (Or.inl rfl) (F_1_1 hF) (by decide) dX11_weigh_50 rfl ?_
      refine r_iload_n (pc' := 54) (f4 := 2) (i := 2) C 3 rfl rfl dX11_weigh_53 rfl ?_
      obtain ⟨hi, hf⟩ := ck_in hf
      refine r_zald (pc' := 55) C (K_3 hF) rfl hi dX11_weigh_54 rfl ?_
      refine r_if_ne (pc' := 58) (tgt := 72) C rfl hf dX11_weigh_55 (by decide) rfl (fun hf => ?_) (fun hf => ?_)
      · refine r_iload (pc' := 60) (i := 4) C 0 rfl dX11_weigh_58 rfl ?_
        refine r_iload_n (pc' := 61) (f4 := 1) (i := 1) C 2 rfl rfl dX11_weigh_60 rfl ?_
        refine r_icmp_lt (pc' := 64) (tgt := 72) C rfl rfl hf dX11_weigh_61 (by decide) rfl (fun hf => ?_) (fun hf => ?_)
        · refine r_iconst (pc' := 73) C dX11_weigh_72 rfl ?_
          obtain ⟨hi, hf⟩ := ck_in hf
          refine r_iast (pc' := 74) C (KL152 hF hi3) rfl hi dX11_weigh_73 rfl ?_
          refine r_iinc (pc' := 77) (i := 3) (L' := [(3, zI (x3 + 1)), (4, zI q2.1), (0, zP bs 0), (1, zI x1), (2, zI x2)]) C 4 rfl (by decide) rfl dX11_weigh_74 rfl ?_
          refine r_goto (tgt := 23) C dX11_weigh_77 (by decide) ?_
          refine V.sub (L' := [(0, zP bs 0), (1, zI x1), (2, zI x2), (3, zI (x3 + 1))]) [2, 3, 4, 0] rfl ?_
          exact ih23 _ _ hf
        · refine r_ldc (pc' := 66) C (n := 1000000) wc_779 dX11_weigh_64 rfl ?_
          refine r_iload (pc' := 68) (i := 4) C 0 rfl dX11_weigh_66 rfl ?_
          refine r_iadd (pc' := 69) C dX11_weigh_68 rfl ?_
          refine r_goto (tgt := 73) C dX11_weigh_69 (by decide) ?_
          obtain ⟨hi, hf⟩ := ck_in hf
          refine r_iast (pc' := 74) C (KL152 hF hi3) rfl hi dX11_weigh_73 rfl ?_
          refine r_iinc (pc' := 77) (i := 3) (L' := [(3, zI (x3 + 1)), (4, zI q2.1), (0, zP bs 0), (1, zI x1), (2, zI x2)]) C 4 rfl (by decide) rfl dX11_weigh_74 rfl ?_
          refine r_goto (tgt := 23) C dX11_weigh_77 (by decide) ?_
          refine V.sub (L' := [(0, zP bs 0), (1, zI x1), (2, zI x2), (3, zI (x3 + 1))]) [2, 3, 4, 0] rfl ?_
          exact ih23 _ _ hf
      · refine r_iconst (pc' := 73) C dX11_weigh_72 rfl ?_
        obtain ⟨hi, hf⟩ := ck_in hf
        refine r_iast (pc' := 74) C (KL152 hF hi3) rfl hi dX11_weigh_73 rfl ?_
        refine r_iinc (pc' := 77) (i := 3) (L' := [(3, zI (x3 + 1)), (4, zI q2.1), (0, zP bs 0), (1, zI x1), (2, zI x2)]) C 4 rfl (by decide) rfl dX11_weigh_74 rfl ?_
        refine r_goto (tgt := 23) C dX11_weigh_77 (by decide) ?_
        refine V.sub (L' := [(0, zP bs 0), (1, zI x1), (2, zI x2), (3, zI (x3 + 1))]) [2, 3, 4, 0] rfl ?_
        exact ih23 _ _ hf
    · refine V.sub (L' := [(0, zP bs 0), (1, zI x1), (2, zI x2)]) [0, 1, 2] rfl ?_
      exact hk80 _ hf
set_option maxHeartbeats 4000000 in
set_option maxRecDepth 100000 in
theorem w_x_weigh_L10 (hF : Fx S) (C : Cx D dT bs RX11 cX11_weigh 5 (Option.none : Option Jvm.ClassFile.FieldType) p s m args meth c) (x1 : Int) {res : HH} :
    ∀ (n : Nat) (h : HH) (x2 : Int), x_weigh_L10 S x1 n h x2 = some res → V D dT bs 5 p l e rm_x_weigh s m args below meth c 0 0 (MQ below (QQ D dT bs none res S) args s 0 0 (AA bs)) h S 10 [(0, zP bs 0), (1, zI x1), (2, zI x2)] [] := by
  intro n
  induction n with
  | zero => intro h x2 hf; simp [x_weigh_L10] at hf
  | succ n10 ih10 =>
    intro h x2 hf
    rw [x_weigh_L10] at hf
    refine r_iload_n (pc' := 11) (f4 := 2) (i := 2) C 2 rfl rfl dX11_weigh_10 rfl ?_
    refine r_aload_n (pc' := 12) (f4 := 0) (i := 0) C 0 rfl rfl dX11_weigh_11 rfl ?_
    refine q_getP (pc' := 15) (j := 0) C (K_0 hF) fb_11_0 (by decide) wd_311 (Or.inl rfl) (F_0_0 hF) (by decide) dX11_weigh_12 rfl ?_
    refine q_getI (pc' := 18) (j := 4) C (K_1 hF) fb_10_4 wd_184 (Or.inl rfl) dX11_weigh_15 rfl ?_
    refine r_icmp_ge (pc' := 21) (tgt := 86) C rfl rfl hf dX11_weigh_18 (by decide) rfl (fun hf => ?_) (fun hf => ?_)
    · refine r_iconst (pc' := 22) C dX11_weigh_21 rfl ?_
      refine r_istore_n (pc' := 23) (f4 := 3) (i := 3) (L' := [(3, zI 0), (0, zP bs 0), (1, zI x1), (2, zI x2)]) C rfl (by decide) rfl dX11_weigh_22 rfl ?_
      refine V.sub (L' := [(0, zP bs 0), (1, zI x1), (2, zI x2), (3, zI 0)]) [1, 2, 3, 0] rfl ?_
      refine w_x_weigh_L23 hF C _ _ _ ?_ _ _ _ hf
      intro h4 hf
      refine r_iinc (pc' := 83) (i := 2) (L' := [(2, zI (x2 + 1)), (0, zP bs 0), (1, zI x1)]) C 2 rfl (by decide) rfl dX11_weigh_80 rfl ?_
      refine r_goto (tgt := 10) C dX11_weigh_83 (by decide) ?_
      refine V.sub (L' := [(0, zP bs 0), (1, zI x1), (2, zI (x2 + 1))]) [1, 2, 0] rfl ?_
      exact ih10 _ _ hf
    · cases hf
      exact r_vret C dX11_weigh_86
set_option maxHeartbeats 4000000 in
set_option maxRecDepth 100000 in
theorem t_x_weigh {S : SS} (hF : Fx S) {h : HH} {res : HH} (hf : x_weigh S h = some res) : CM yX11_weigh cX11_weigh 5 (Option.none : Option Jvm.ClassFile.FieldType) 5 112 0 0 (fun bs => [zP bs 0]) h S (fun _ => none) res S := by
  refine CM.intro (own := RX11) (by decide) rfl (fun _ => Nat.le_of_ble_eq_true rfl) ?_
  intro D dT bs p l e s m args below meth c C
  show V D dT bs 5 p l e rm_x_weigh s m args below meth c 0 0 _ h S 0 [(0, zP bs 0)] []
  unfold x_weigh at hf
  refine r_aload_n (pc' := 1) (f4 := 0) (i := 0) C 0 rfl rfl dX11_weigh_0 rfl ?_
  refine q_getP (pc' := 4) (j := 0) C (K_0 hF) fb_11_0 (by decide) wd_311 (Or.inl rfl) (F_0_0 hF) (by decide) dX11_weigh_1 rfl ?_
  obtain ⟨q1, hq1, hf⟩ := bind_in hf
  refine q_callV (pc' := 7) C (t_xw_need hF lit_W_1 hq1) rfl (K_1 hF) cl_10 wv_RX11_166 ⟨Nat.le_of_ble_eq_true rfl, Nat.le_of_ble_eq_true rfl⟩ rfl rfl (Nat.le_of_ble_eq_true rfl) dX11_weigh_4 rfl ⟨Nat.le_of_ble_eq_true rfl, Nat.le_of_ble_eq_true rfl⟩ ?_
  refine r_istore_n (pc' := 8) (f4 := 1) (i := 1) (L' := [(1, zI q1), (0, zP bs 0)]) C rfl (by decide) rfl dX11_weigh_7 rfl ?_
  refine r_iconst (pc' := 9) C dX11_weigh_8 rfl ?_
  refine r_istore_n (pc' := 10) (f4 := 2) (i := 2) (L' := [(2, zI 0), (1, zI q1), (0, zP bs 0)]) C rfl (by decide) rfl dX11_weigh_9 rfl ?_
  refine V.sub (L' := [(0, zP bs 0), (1, zI q1), (2, zI 0)]) [2, 1, 0] rfl ?_
  refine w_x_weigh_L10 hF C _ _ _ _ hf

/- WassailEnemies.isFree(III)Z -/
def x_isFree (a0 : Int) (a1 : Int) (a2 : Int) : Int :=
  if ww (zand (zand a1 (zxor a2 (-1))) (zshl 1 a0)) = 0 then (0) else (1)
theorem b_x_isFree {a0 : Int} {a1 : Int} {a2 : Int} : x_isFree a0 a1 a2 = 0 ∨ x_isFree a0 a1 a2 = 1 := by
  unfold x_isFree
  repeat' split
  all_goals first | exact Or.inl rfl | exact Or.inr rfl

abbrev rm_x_isFree : Room := { frames := 0, cells := 0, slots := 0, locals := 0 }
set_option maxHeartbeats 4000000 in
set_option maxRecDepth 100000 in
theorem t_x_isFree {S : SS} (hF : Fx S) {h : HH} {a0 : Int} {a1 : Int} {a2 : Int} : CM yX11_isFree cX11_isFree 3 (some Jvm.ClassFile.FieldType.boolean) 0 0 0 0 (fun _ => [zI a0, zI a1, zI a2]) h S (fun _ => some (zI (x_isFree a0 a1 a2))) h S := by
  refine CM.intro (own := RX11) (by decide) rfl (fun _ => Nat.le_of_ble_eq_true rfl) ?_
  intro D dT bs p l e s m args below meth c C
  show V D dT bs 3 p l e rm_x_isFree s m args below meth c 0 0 _ h S 0 [(0, zI a0), (1, zI a1), (2, zI a2)] []
  obtain ⟨res, hf⟩ : ∃ r, x_isFree a0 a1 a2 = r := ⟨_, rfl⟩
  rw [hf]
  unfold x_isFree at hf
  refine r_iload_n (pc' := 1) (f4 := 1) (i := 1) C 1 rfl rfl dX11_isFree_0 rfl ?_
  refine r_iload_n (pc' := 2) (f4 := 2) (i := 2) C 2 rfl rfl dX11_isFree_1 rfl ?_
  refine r_iconst (pc' := 3) C dX11_isFree_2 rfl ?_
  refine r_ixor (pc' := 4) C dX11_isFree_3 rfl ?_
  refine r_iand (pc' := 5) C dX11_isFree_4 rfl ?_
  refine r_iconst (pc' := 6) C dX11_isFree_5 rfl ?_
  refine r_iload_n (pc' := 7) (f4 := 0) (i := 0) C 0 rfl rfl dX11_isFree_6 rfl ?_
  refine r_ishl (pc' := 8) C dX11_isFree_7 rfl ?_
  refine r_iand (pc' := 9) C dX11_isFree_8 rfl ?_
  refine r_if_eq (pc' := 12) (tgt := 16) C rfl hf dX11_isFree_9 (by decide) rfl (fun hf => ?_) (fun hf => ?_)
  · refine r_iconst (pc' := 17) C dX11_isFree_16 rfl ?_
    subst hf
    exact r_zret C (Or.inl rfl) dX11_isFree_17
  · refine r_iconst (pc' := 13) C dX11_isFree_12 rfl ?_
    refine r_goto (tgt := 17) C dX11_isFree_13 (by decide) ?_
    subst hf
    exact r_zret C (Or.inr rfl) dX11_isFree_17

/- WassailEnemies.fillBest(I)I -/
def x_fillBest_L29 (x1 : Int) (x2 : Int) (x3 : Int) (k84 : HH → Int → Option (Int × HH)) : Nat → HH → Int → Int → Option (Int × HH)
  | 0, _, _, _ => none
  | n29 + 1, h, x4, x5 =>
    if ww x5 < 6 then (if ww (x_isFree x5 x1 x3) = 0 then (x_fillBest_L29 x1 x2 x3 k84 n29 h x4 (x5 + 1)) else (ck (ww x5) 6 <| ck (ww x2) 5 <| ck (ww (x2 + 1)) 6 <| ck (ww (zor x3 (zshl 1 x5))) 64 <| x_fillBest_L29 x1 x2 x3 k84 n29 h (zmax x4 ((h (153 + (ww x5)) (ww x2)) + (h (160 + (ww (x2 + 1))) (ww (zor x3 (zshl 1 x5)))))) (x5 + 1))) else (k84 h x4)
def x_fillBest_L8 (x1 : Int) (x2 : Int) (k100 : HH → Option (Int × HH)) : Nat → HH → Int → Option (Int × HH)
  | 0, _, _ => none
  | n8 + 1, h, x3 =>
    if ww x3 < 64 then (ck (ww (x2 + 1)) 6 <| ck (ww x3) 64 <| x_fillBest_L29 x1 x2 x3 (fun h5 y4 => ck (ww x2) 6 <| ck (ww x3) 64 <| x_fillBest_L8 x1 x2 k100 n8 (u2 h5 (160 + (ww x2)) (ww x3) y4) (x3 + 1)) FU h (h (160 + (ww (x2 + 1))) (ww x3)) 0) else (k100 h)
def x_fillBest_L2 (x1 : Int) : Nat → HH → Int → Option (Int × HH)
  | 0, _, _ => none
  | n2 + 1, h, x2 =>
    if ww x2 < 0 then (some (h 160 0, h)) else (x_fillBest_L8 x1 x2 (fun h7 => x_fillBest_L2 x1 n2 h7 (x2 + (-1))) FU h 0)
def x_fillBest (h : HH) (a1 : Int) : Option (Int × HH) :=
  x_fillBest_L2 a1 FU h 4
abbrev rm_x_fillBest : Room := { frames := 1, cells := 0, slots := 0, locals := 22 }
set_option maxHeartbeats 4000000 in
set_option maxRecDepth 100000 in
theorem w_x_fillBest_L29 (hF : Fx S) (C : Cx D dT bs RX11 cX11_fillBest 6 (some Jvm.ClassFile.FieldType.int) p s m args meth c) (x1 : Int) (x2 : Int) (x3 : Int) (k84 : HH → Int → Option (Int × HH)) {res : (Int × HH)} (hk84 : ∀ (h : HH) (x4 : Int), k84 h x4 = some res → V D dT bs 6 p l e rm_x_fillBest s m args below meth c 0 0 (MQ below (QQ D dT bs (some (zI res.1)) res.2 S) args s 0 0 (AA bs)) h S 84 [(0, zP bs 0), (1, zI x1), (2, zI x2), (3, zI x3), (4, zI x4)] []) :
    ∀ (n : Nat) (h : HH) (x4 : Int) (x5 : Int), x_fillBest_L29 x1 x2 x3 k84 n h x4 x5 = some res → V D dT bs 6 p l e rm_x_fillBest s m args below meth c 0 0 (MQ below (QQ D dT bs (some (zI res.1)) res.2 S) args s 0 0 (AA bs)) h S 29 [(0, zP bs 0), (1, zI x1), (2, zI x2), (3, zI x3), (4, zI x4), (5, zI x5)] [] := by
  intro n
  induction n with
  | zero => intro h x4 x5 hf; simp [x_fillBest_L29] at hf
  | succ n29 ih29 =>
    intro h x4 x5 hf
    rw [x_fillBest_L29] at hf
    refine r_iload (pc' := 31) (i := 5) C 5 rfl dX11_fillBest_29 rfl ?_
    refine r_bipush (pc' := 33) C rfl dX11_fillBest_31 rfl ?_
    refine r_icmp_ge (pc' := 36) (tgt := 84) C rfl ww_n6 hf dX11_fillBest_33 (by decide) rfl (fun hf => ?_) (fun hf => ?_)
    · refine r_iload (pc' := 38) (i := 5) C 5 rfl dX11_fillBest_36 rfl ?_
      refine r_iload_n (pc' := 39) (f4 := 1) (i := 1) C 1 rfl rfl dX11_fillBest_38 rfl ?_
      refine r_iload_n (pc' := 40) (f4 := 3) (i := 3) C 3 rfl rfl dX11_fillBest_39 rfl ?_
      refine q_callS (pc' := 43) C (t_x_isFree hF) rfl ws_RX11_219 ⟨Nat.le_of_ble_eq_true rfl, Nat.le_of_ble_eq_true rfl⟩ rfl rfl (Nat.le_of_ble_eq_true rfl) dX11_fillBest_40 rfl ⟨Nat.le_of_ble_eq_true rfl, Nat.le_of_ble_eq_true rfl⟩ ?_
      refine r_if_eq (pc' := 46) (tgt := 78) C rfl hf dX11_fillBest_43 (by decide) rfl (fun hf => ?_) (fun hf => ?_)
      · refine r_iinc (pc' := 81) (i := 5) (L' := [(5, zI (x5 + 1)), (0, zP bs 0), (1, zI x1), (2, zI x2), (3, zI x3), (4, zI x4)]) C 5 rfl (by decide) rfl dX11_fillBest_78 rfl ?_
        refine r_goto (tgt := 29) C dX11_fillBest_81 (by decide) ?_
        refine V.sub (L' := [(0, zP bs 0), (1, zI x1), (2, zI x2), (3, zI x3), (4, zI x4), (5, zI (x5 + 1))]) [1, 2, 3, 4, 5, 0] rfl ?_
        exact ih29 _ _ _ hf
      · refine r_iload (pc' := 48) (i := 4) C 4 rfl dX11_fillBest_46 rfl ?_
        refine r_aload_n (pc' := 49) (f4 := 0) (i := 0) C 0 rfl rfl dX11_fillBest_48 rfl ?_
        refine q_getP (pc' := 52) (j := 8) C (K_0 hF) fb_11_8 (by decide) wd_319 (Or.inl rfl) (F_0_8 hF) (by decide) dX11_fillBest_49 rfl ?_
        refine r_iload (pc' := 54) (i := 5) C 5 rfl dX11_fillBest_52 rfl ?_
        obtain ⟨hi2, hf⟩ := ck_in hf
        refine r_aaldP (pc' := 55) (t := 3) C (K_152 hF) (by decide) (by decide) (by decide) (by decide) rfl rfl hi2 (FL152 hF hi2) (Int.add_nonneg (by decide) (hi2).1) dX11_fillBest_54 rfl ?_
        refine r_iload_n (pc' := 56) (f4 := 2) (i := 2) C 2 rfl rfl dX11_fillBest_55 rfl ?_
        obtain ⟨hi, hf⟩ := ck_in hf
        refine r_iald (pc' := 57) C (KL152 hF hi2) rfl hi dX11_fillBest_56 rfl ?_
        refine r_aload_n (pc' := 58) (f4 := 0) (i := 0) C 0 rfl rfl dX11_fillBest_57 rfl ?_
        refine q_getP (pc' := 61) (j := 9) C (K_0 hF) fb_11_9 (by decide) wd_320 (Or.inl rfl) (F_0_9 hF) (by decide) dX11_fillBest_58 rfl ?_
        refine r_iload_n (pc' := 62) (f4 := 2) (i := 2) C 2 rfl rfl dX11_fillBest_61 rfl ?_
        refine r_iconst (pc' := 63) C dX11_fillBest_62 rfl ?_
        refine r_iadd (pc' := 64) C dX11_fillBest_63 rfl ?_
        obtain ⟨hi3, hf⟩ := ck_in hf
        refine r_aaldP (pc' := 65) (t := 3) C (K_159 hF) (by decide) (by decide) (by decide) (by decide) rfl rfl hi3 (FL159 hF hi3) (Int.add_nonneg (by decide) (hi3).1) dX11_fillBest_64 rfl ?_
        refine r_iload_n (pc' := 66) (f4 := 3) (i := 3) C 3 rfl rfl dX11_fillBest_65 rfl ?_
        refine r_iconst (pc' := 67) C dX11_fillBest_66 rfl ?_
        refine r_iload (pc' := 69) (i := 5) C 5 rfl dX11_fillBest_67 rfl ?_
        refine r_ishl (pc' := 70) C dX11_fillBest_69 rfl ?_
        refine r_ior (pc' := 71) C dX11_fillBest_70 rfl ?_
        obtain ⟨hi, hf⟩ := ck_in hf
        refine r_iald (pc' := 72) C (KL159 hF hi3) rfl hi dX11_fillBest_71 rfl ?_
        refine r_iadd (pc' := 73) C dX11_fillBest_72 rfl ?_
        refine r_max (pc' := 76) C wd_795 wd_568 wd_114 wd_569 (Nat.le_of_ble_eq_true rfl) (Nat.le_of_ble_eq_true rfl) ⟨Nat.le_of_ble_eq_true rfl, Nat.le_of_ble_eq_true rfl⟩ dX11_fillBest_73 rfl ?_
        refine r_istore (pc' := 78) (i := 4) (L' := [(4, zI (zmax x4 ((h (153 + (ww x5)) (ww x2)) + (h (160 + (ww (x2 + 1))) (ww (zor x3 (zshl 1 x5))))))), (0, zP bs 0), (1, zI x1), (2, zI x2), (3, zI x3), (5, zI x5)]) C (by decide) rfl dX11_fillBest_76 rfl ?_
        refine r_iinc (pc' := 81) (i := 5) (L' := [(5, zI (x5 + 1)), (4, zI (zmax x4 ((h (153 + (ww x5)) (ww x2)) + (h (160 + (ww (x2 + 1))) (ww (zor x3 (zshl 1 x5))))))), (0, zP bs 0), (1, zI x1), (2, zI x2), (3, zI x3)]) C 5 rfl (by decide) rfl dX11_fillBest_78 rfl ?_
        refine r_goto (tgt := 29) C dX11_fillBest_81 (by decide) ?_
        refine V.sub (L' := [(0, zP bs 0), (1, zI x1), (2, zI x2), (3, zI x3), (4, zI (zmax x4 ((h (153 + (ww x5)) (ww x2)) + (h (160 + (ww (x2 + 1))) (ww (zor x3 (zshl 1 x5))))))), (5, zI (x5 + 1))]) [2, 3, 4, 5, 1, 0] rfl ?_
        exact ih29 _ _ _ hf
    · refine V.sub (L' := [(0, zP bs 0), (1, zI x1), (2, zI x2), (3, zI x3), (4, zI x4)]) [0, 1, 2, 3, 4] rfl ?_
      exact hk84 _ _ hf
set_option maxHeartbeats 4000000 in
set_option maxRecDepth 100000 in
theorem w_x_fillBest_L8 (hF : Fx S) (C : Cx D dT bs RX11 cX11_fillBest 6 (some Jvm.ClassFile.FieldType.int) p s m args meth c) (x1 : Int) (x2 : Int) (k100 : HH → Option (Int × HH)) {res : (Int × HH)} (hk100 : ∀ (h : HH), k100 h = some res → V D dT bs 6 p l e rm_x_fillBest s m args below meth c 0 0 (MQ below (QQ D dT bs (some (zI res.1)) res.2 S) args s 0 0 (AA bs)) h S 100 [(0, zP bs 0), (1, zI x1), (2, zI x2)] []) :
    ∀ (n : Nat) (h : HH) (x3 : Int), x_fillBest_L8 x1 x2 k100 n h x3 = some res → V D dT bs 6 p l e rm_x_fillBest s m args below meth c 0 0 (MQ below (QQ D dT bs (some (zI res.1)) res.2 S) args s 0 0 (AA bs)) h S 8 [(0, zP bs 0), (1, zI x1), (2, zI x2), (3, zI x3)] [] := by
  intro n
  induction n with
  | zero => intro h x3 hf; simp [x_fillBest_L8] at hf
  | succ n8 ih8 =>
    intro h x3 hf
    rw [x_fillBest_L8] at hf
    refine r_iload_n (pc' := 9) (f4 := 3) (i := 3) C 3 rfl rfl dX11_fillBest_8 rfl ?_
    refine r_bipush (pc' := 11) C rfl dX11_fillBest_9 rfl ?_
    refine r_icmp_ge (pc' := 14) (tgt := 100) C rfl ww_n64 hf dX11_fillBest_11 (by decide) rfl (fun hf => ?_) (fun hf => ?_)
    · refine r_aload_n (pc' := 15) (f4 := 0) (i := 0) C 0 rfl rfl dX11_fillBest_14 rfl ?_
      refine q_getP (pc' := 18) (j := 9) C (K_0 hF) fb_11_9 (by decide) wd_320 (Or.inl rfl) (F_0_9 hF) (by decide) dX11_fillBest_15 rfl ?_
      refine r_iload_n (pc' := 19) (f4 := 2) (i := 2) C 2 rfl rfl dX11_fillBest_18 rfl ?_
      refine r_iconst (pc' := 20) C dX11_fillBest_19 rfl ?_
      refine r_iadd (pc' := 21) C dX11_fillBest_20 rfl ?_
      obtain ⟨hi1, hf⟩ := ck_in hf
      refine r_aaldP (pc' := 22) (t := 3) C (K_159 hF) (by decide) (by decide) (by decide) (by decide) rfl rfl hi1 (FL159 hF hi1) (Int.add_nonneg (by decide) (hi1).1) dX11_fillBest_21 rfl ?_
      refine r_iload_n (pc' := 23) (f4 := 3) (i := 3) C 3 rfl rfl dX11_fillBest_22 rfl ?_
      obtain ⟨hi, hf⟩ := ck_in hf
      refine r_iald (pc' := 24) C (KL159 hF hi1) rfl hi dX11_fillBest_23 rfl ?_
      refine r_istore (pc' := 26) (i := 4) (L' := [(4, zI (h (160 + (ww (x2 + 1))) (ww x3))), (0, zP bs 0), (1, zI x1), (2, zI x2), (3, zI x3)]) C (by decide) rfl dX11_fillBest_24 rfl ?_
      refine r_iconst (pc' := 27) C dX11_fillBest_26 rfl ?_
      refine r_istore (pc' := 29) (i := 5) (L' := [(5, zI 0), (4, zI (h (160 + (ww (x2 + 1))) (ww x3))), (0, zP bs 0), (1, zI x1), (2, zI x2), (3, zI x3)]) C (by decide) rfl dX11_fillBest_27 rfl ?_
      refine V.sub (L' := [(0, zP bs 0), (1, zI x1), (2, zI x2), (3, zI x3), (4, zI (h (160 + (ww (x2 + 1))) (ww x3))), (5, zI 0)]) [2, 3, 4, 5, 1, 0] rfl ?_
      refine w_x_fillBest_L29 hF C _ _ _ _ ?_ _ _ _ _ hf
      intro h5 y4 hf
      refine r_aload_n (pc' := 85) (f4 := 0) (i := 0) C 0 rfl rfl dX11_fillBest_84 rfl ?_
      refine q_getP (pc' := 88) (j := 9) C (K_0 hF) fb_11_9 (by decide) wd_320 (Or.inl rfl) (F_0_9 hF) (by decide) dX11_fillBest_85 rfl ?_
      refine r_iload_n (pc' := 89) (f4 := 2) (i := 2) C 2 rfl rfl dX11_fillBest_88 rfl ?_
      obtain ⟨hi6, hf⟩ := ck_in hf
      refine r_aaldP (pc' := 90) (t := 3) C (K_159 hF) (by decide) (by decide) (by decide) (by decide) rfl rfl hi6 (FL159 hF hi6) (Int.add_nonneg (by decide) (hi6).1) dX11_fillBest_89 rfl ?_
      refine r_iload_n (pc' := 91) (f4 := 3) (i := 3) C 3 rfl rfl dX11_fillBest_90 rfl ?_
      refine r_iload (pc' := 93) (i := 4) C 4 rfl dX11_fillBest_91 rfl ?_
      obtain ⟨hi, hf⟩ := ck_in hf
      refine r_iast (pc' := 94) C (KL159 hF hi6) rfl hi dX11_fillBest_93 rfl ?_
      refine r_iinc (pc' := 97) (i := 3) (L' := [(3, zI (x3 + 1)), (0, zP bs 0), (1, zI x1), (2, zI x2), (4, zI y4)]) C 3 rfl (by decide) rfl dX11_fillBest_94 rfl ?_
      refine r_goto (tgt := 8) C dX11_fillBest_97 (by decide) ?_
      refine V.sub (L' := [(0, zP bs 0), (1, zI x1), (2, zI x2), (3, zI (x3 + 1))]) [1, 2, 3, 0] rfl ?_
      exact ih8 _ _ hf
    · refine V.sub (L' := [(0, zP bs 0), (1, zI x1), (2, zI x2)]) [0, 1, 2] rfl ?_
      exact hk100 _ hf
set_option maxHeartbeats 4000000 in
set_option maxRecDepth 100000 in
theorem w_x_fillBest_L2 (hF : Fx S) (C : Cx D dT bs RX11 cX11_fillBest 6 (some Jvm.ClassFile.FieldType.int) p s m args meth c) (x1 : Int) {res : (Int × HH)} :
    ∀ (n : Nat) (h : HH) (x2 : Int), x_fillBest_L2 x1 n h x2 = some res → V D dT bs 6 p l e rm_x_fillBest s m args below meth c 0 0 (MQ below (QQ D dT bs (some (zI res.1)) res.2 S) args s 0 0 (AA bs)) h S 2 [(0, zP bs 0), (1, zI x1), (2, zI x2)] [] := by
  intro n
  induction n with
  | zero => intro h x2 hf; simp [x_fillBest_L2] at hf
  | succ n2 ih2 =>
    intro h x2 hf
    rw [x_fillBest_L2] at hf
    refine r_iload_n (pc' := 3) (f4 := 2) (i := 2) C 2 rfl rfl dX11_fillBest_2 rfl ?_
    refine r_if_lt (pc' := 6) (tgt := 106) C rfl hf dX11_fillBest_3 (by decide) rfl (fun hf => ?_) (fun hf => ?_)
    · refine r_aload_n (pc' := 107) (f4 := 0) (i := 0) C 0 rfl rfl dX11_fillBest_106 rfl ?_
      refine q_getP (pc' := 110) (j := 9) C (K_0 hF) fb_11_9 (by decide) wd_320 (Or.inl rfl) (F_0_9 hF) (by decide) dX11_fillBest_107 rfl ?_
      refine r_iconst (pc' := 111) C dX11_fillBest_110 rfl ?_
      refine r_aaldP (pc' := 112) (t := 3) C (K_159 hF) (by decide) (by decide) (by decide) (by decide) rfl ww_n0 (show 0 ≤ (0 : Int) ∧ (0 : Int) < 6 from by decide) (FL159 hF (show 0 ≤ (0 : Int) ∧ (0 : Int) < 6 from by decide)) (Int.add_nonneg (by decide) ((show 0 ≤ (0 : Int) ∧ (0 : Int) < 6 from by decide)).1) dX11_fillBest_111 rfl ?_
      refine r_iconst (pc' := 113) C dX11_fillBest_112 rfl ?_
      refine r_iald (pc' := 114) C (KL159 hF (show 0 ≤ (0 : Int) ∧ (0 : Int) < 6 from by decide)) ww_n0 (by decide) dX11_fillBest_113 rfl ?_
      cases hf
      exact r_iret C dX11_fillBest_114
    · refine r_iconst (pc' := 7) C dX11_fillBest_6 rfl ?_
      refine r_istore_n (pc' := 8) (f4 := 3) (i := 3) (L' := [(3, zI 0), (0, zP bs 0), (1, zI x1), (2, zI x2)]) C rfl (by decide) rfl dX11_fillBest_7 rfl ?_
      refine V.sub (L' := [(0, zP bs 0), (1, zI x1), (2, zI x2), (3, zI 0)]) [1, 2, 3, 0] rfl ?_
      refine w_x_fillBest_L8 hF C _ _ _ ?_ _ _ _ hf
      intro h7 hf
      refine r_iinc (pc' := 103) (i := 2) (L' := [(2, zI (x2 + (-1))), (0, zP bs 0), (1, zI x1)]) C 2 rfl (by decide) rfl dX11_fillBest_100 rfl ?_
      refine r_goto (tgt := 2) C dX11_fillBest_103 (by decide) ?_
      refine V.sub (L' := [(0, zP bs 0), (1, zI x1), (2, zI (x2 + (-1)))]) [1, 2, 0] rfl ?_
      exact ih2 _ _ hf
set_option maxHeartbeats 4000000 in
set_option maxRecDepth 100000 in
theorem t_x_fillBest {S : SS} (hF : Fx S) {h : HH} {a1 : Int} {res : Int × HH} (hf : x_fillBest h a1 = some res) : CM yX11_fillBest cX11_fillBest 6 (some Jvm.ClassFile.FieldType.int) 1 22 0 0 (fun bs => [zP bs 0, zI a1]) h S (fun _ => some (zI res.1)) res.2 S := by
  refine CM.intro (own := RX11) (by decide) rfl (fun _ => Nat.le_of_ble_eq_true rfl) ?_
  intro D dT bs p l e s m args below meth c C
  show V D dT bs 6 p l e rm_x_fillBest s m args below meth c 0 0 _ h S 0 [(0, zP bs 0), (1, zI a1)] []
  unfold x_fillBest at hf
  refine r_iconst (pc' := 1) C dX11_fillBest_0 rfl ?_
  refine r_istore_n (pc' := 2) (f4 := 2) (i := 2) (L' := [(2, zI 4), (0, zP bs 0), (1, zI a1)]) C rfl (by decide) rfl dX11_fillBest_1 rfl ?_
  refine V.sub (L' := [(0, zP bs 0), (1, zI a1), (2, zI 4)]) [1, 2, 0] rfl ?_
  refine w_x_fillBest_L2 hF C _ _ _ _ hf

/- WassailEnemies.bearingWithout(I)I -/
def x_bearingWithout (h : HH) (a1 : Int) : Option (Int × HH) :=
  if ww (xw_has h 1 a1) = 0 then (some (-5, h)) else ((xw_present h 1).bind fun q1 => (x_fillBest h (zand q1 (zxor (zshl 1 a1) (-1)))).bind fun q2 => some (zdiv q2.1 1000000, q2.2))
abbrev rm_x_bearingWithout : Room := { frames := 2, cells := 0, slots := 0, locals := 47 }
set_option maxHeartbeats 4000000 in
set_option maxRecDepth 100000 in
theorem t_x_bearingWithout {S : SS} (hF : Fx S) {h : HH} {a1 : Int} {res : Int × HH} (hf : x_bearingWithout h a1 = some res) : CM yX11_bearingWithout cX11_bearingWithout 2 (some Jvm.ClassFile.FieldType.int) 2 47 0 0 (fun bs => [zP bs 0, zI a1]) h S (fun _ => some (zI res.1)) res.2 S := by
  refine CM.intro (own := RX11) (by decide) rfl (fun _ => Nat.le_of_ble_eq_true rfl) ?_
  intro D dT bs p l e s m args below meth c C
  show V D dT bs 2 p l e rm_x_bearingWithout s m args below meth c 0 0 _ h S 0 [(0, zP bs 0), (1, zI a1)] []
  unfold x_bearingWithout at hf
  refine r_aload_n (pc' := 1) (f4 := 0) (i := 0) C 0 rfl rfl dX11_bearingWithout_0 rfl ?_
  refine q_getP (pc' := 4) (j := 0) C (K_0 hF) fb_11_0 (by decide) wd_311 (Or.inl rfl) (F_0_0 hF) (by decide) dX11_bearingWithout_1 rfl ?_
  refine r_iload_n (pc' := 5) (f4 := 1) (i := 1) C 1 rfl rfl dX11_bearingWithout_4 rfl ?_
  refine q_callV (pc' := 8) C (t_xw_has hF lit_W_1) rfl (K_1 hF) cl_10 wv_RX11_87 ⟨Nat.le_of_ble_eq_true rfl, Nat.le_of_ble_eq_true rfl⟩ rfl rfl (Nat.le_of_ble_eq_true rfl) dX11_bearingWithout_5 rfl ⟨Nat.le_of_ble_eq_true rfl, Nat.le_of_ble_eq_true rfl⟩ ?_
  refine r_if_ne (pc' := 11) (tgt := 14) C rfl hf dX11_bearingWithout_8 (by decide) rfl (fun hf => ?_) (fun hf => ?_)
  · refine r_bipush (pc' := 13) C rfl dX11_bearingWithout_11 rfl ?_
    cases hf
    exact r_iret C dX11_bearingWithout_13
  · refine r_aload_n (pc' := 15) (f4 := 0) (i := 0) C 0 rfl rfl dX11_bearingWithout_14 rfl ?_
    refine r_aload_n (pc' := 16) (f4 := 0) (i := 0) C 0 rfl rfl dX11_bearingWithout_15 rfl ?_
    refine q_getP (pc' := 19) (j := 0) C (K_0 hF) fb_11_0 (by decide) wd_311 (Or.inl rfl) (F_0_0 hF) (by decide) dX11_bearingWithout_16 rfl ?_
    obtain ⟨q1, hq1, hf⟩ := bind_in hf
    refine q_callV (pc' := 22) C (t_xw_present hF lit_W_1 hq1) rfl (K_1 hF) cl_10 wv_RX11_209 ⟨Nat.le_of_ble_eq_true rfl, Nat.le_of_ble_eq_true rfl⟩ rfl rfl (Nat.le_of_ble_eq_true rfl) dX11_bearingWithout_19 rfl ⟨Nat.le_of_ble_eq_true rfl, Nat.le_of_ble_eq_true rfl⟩ ?_
    refine r_iconst (pc' := 23) C dX11_bearingWithout_22 rfl ?_
    refine r_iload_n (pc' := 24) (f4 := 1) (i := 1) C 1 rfl rfl dX11_bearingWithout_23 rfl ?_
    refine r_ishl (pc' := 25) C dX11_bearingWithout_24 rfl ?_
    refine r_iconst (pc' := 26) C dX11_bearingWithout_25 rfl ?_
    refine r_ixor (pc' := 27) C dX11_bearingWithout_26 rfl ?_
    refine r_iand (pc' := 28) C dX11_bearingWithout_27 rfl ?_
    obtain ⟨q2, hq2, hf⟩ := bind_in hf
    refine q_callV (pc' := 31) C (t_x_fillBest hF hq2) rfl (K_0 hF) cl_11 wv_RX11_212 ⟨Nat.le_of_ble_eq_true rfl, Nat.le_of_ble_eq_true rfl⟩ rfl rfl (Nat.le_of_ble_eq_true rfl) dX11_bearingWithout_28 rfl ⟨Nat.le_of_ble_eq_true rfl, Nat.le_of_ble_eq_true rfl⟩ ?_
    refine r_ldc (pc' := 33) C (n := 1000000) wc_779 dX11_bearingWithout_31 rfl ?_
    refine r_idiv (pc' := 34) C ww_n1000000 (by decide) dX11_bearingWithout_33 rfl ?_
    cases hf
    exact r_iret C dX11_bearingWithout_34

/- WassailEnemies.worst()I -/
def x_worst_L12 (S : SS) : Nat → HH → Int → Int → Int → Option (Int × HH)
  | 0, _, _, _, _ => none
  | n12 + 1, h, x1, x2, x3 =>
    if ww x3 < ww (h 1 4) then (ck (ww x3) 6 <| if ww (h 3 (ww x3)) = 0 then ((x_bearingWithout h x3).bind fun q2 => if ww q2.1 < ww x2 then (x_worst_L12 S n12 q2.2 x3 q2.1 (x3 + 1)) else (x_worst_L12 S n12 q2.2 x1 x2 (x3 + 1))) else (if 6 < ww x2 then (x_worst_L12 S n12 h x3 6 (x3 + 1)) else (x_worst_L12 S n12 h x1 x2 (x3 + 1)))) else (some (x1, h))
def x_worst (S : SS) (h : HH) : Option (Int × HH) :=
  (x_weigh S h).bind fun q1 => x_worst_L12 S FU q1 (-5) 6 0
abbrev rm_x_worst : Room := { frames := 6, cells := 0, slots := 0, locals := 136 }
set_option maxHeartbeats 4000000 in
set_option maxRecDepth 100000 in
theorem w_x_worst_L12 (hF : Fx S) (C : Cx D dT bs RX11 cX11_worst 5 (some Jvm.ClassFile.FieldType.int) p s m args meth c) {res : (Int × HH)} :
    ∀ (n : Nat) (h : HH) (x1 : Int) (x2 : Int) (x3 : Int), x_worst_L12 S n h x1 x2 x3 = some res → V D dT bs 5 p l e rm_x_worst s m args below meth c 0 0 (MQ below (QQ D dT bs (some (zI res.1)) res.2 S) args s 0 0 (AA bs)) h S 12 [(0, zP bs 0), (1, zI x1), (2, zI x2), (3, zI x3)] [] := by
  intro n
  induction n with
  | zero => intro h x1 x2 x3 hf; simp [x_worst_L12] at hf
  | succ n12 ih12 =>
    intro h x1 x2 x3 hf
    rw [x_worst_L12] at hf
    refine r_iload_n (pc' := 13) (f4 := 3) (i := 3) C 3 rfl rfl dX11_worst_12 rfl ?_
    refine r_aload_n (pc' := 14) (f4 := 0) (i := 0) C 0 rfl rfl dX11_worst_13 rfl ?_
    refine q_getP (pc' := 17) (j := 0) C (K_0 hF) fb_11_0 (by decide) wd_311 (Or.inl rfl) (F_0_0 hF) (by decide) dX11_worst_14 rfl ?_
    refine q_getI (pc' := 20) (j := 4) C (K_1 hF) fb_10_4 wd_184 (Or.inl rfl) dX11_worst_17 rfl ?_
    refine r_icmp_ge (pc' := 23) (tgt := 64) C rfl rfl hf dX11_worst_20 (by decide) rfl (fun hf => ?_) (fun hf => ?_)
    · refine r_aload_n (pc' := 24) (f4 := 0) (i := 0) C 0 rfl rfl dX11_worst_23 rfl ?_
      refine q_getP (pc' := 27) (j := 0) C (K_0 hF) fb_11_0 (by decide) wd_311 (Or.inl rfl) (F_0_0 hF) (by decide) dX11_worst_24 rfl ?_
      refine q_getP (pc' := 30) (j := 1) C (K_1 hF) fb_10_1 (by decide) wd_177 (Or.inl rfl) (F_1_1 hF) (by decide) dX11_worst_27 rfl ?_
      refine r_iload_n (pc' := 31) (f4 := 3) (i := 3) C 3 rfl rfl dX11_worst_30 rfl ?_
      obtain ⟨hi, hf⟩ := ck_in hf
      refine r_zald (pc' := 32) C (K_3 hF) rfl hi dX11_worst_31 rfl ?_
      refine r_if_eq (pc' := 35) (tgt := 40) C rfl hf dX11_worst_32 (by decide) rfl (fun hf => ?_) (fun hf => ?_)
      · refine r_aload_n (pc' := 41) (f4 := 0) (i := 0) C 0 rfl rfl dX11_worst_40 rfl ?_
        refine r_iload_n (pc' := 42) (f4 := 3) (i := 3) C 3 rfl rfl dX11_worst_41 rfl ?_
        obtain ⟨q2, hq2, hf⟩ := bind_in hf
        refine q_callV (pc' := 45) C (t_x_bearingWithout hF hq2) rfl (K_0 hF) cl_11 wv_RX11_182 ⟨Nat.le_of_ble_eq_true rfl, Nat.le_of_ble_eq_true rfl⟩ rfl rfl (Nat.le_of_ble_eq_true rfl) dX11_worst_42 rfl ⟨Nat.le_of_ble_eq_true rfl, Nat.le_of_ble_eq_true rfl⟩ ?_
        refine r_istore (pc' := 47) (i := 4) (L' := [(4, zI q2.1), (0, zP bs 0), (1, zI x1), (2, zI x2), (3, zI x3)]) C (by decide) rfl dX11_worst_45 rfl ?_
        refine r_iload (pc' := 49) (i := 4) C 0 rfl dX11_worst_47 rfl ?_
        refine r_iload_n (pc' := 50) (f4 := 2) (i := 2) C 3 rfl rfl dX11_worst_49 rfl ?_
        refine r_icmp_ge (pc' := 53) (tgt := 58) C rfl rfl hf dX11_worst_50 (by decide) rfl (fun hf => ?_) (fun hf => ?_)
        · refine r_iload (pc' := 55) (i := 4) C 0 rfl dX11_worst_53 rfl ?_
          refine r_istore_n (pc' := 56) (f4 := 2) (i := 2) (L' := [(2, zI q2.1), (4, zI q2.1), (0, zP bs 0), (1, zI x1), (3, zI x3)]) C rfl (by decide) rfl dX11_worst_55 rfl ?_
          refine r_iload_n (pc' := 57) (f4 := 3) (i := 3) C 4 rfl rfl dX11_worst_56 rfl ?_
          refine r_istore_n (pc' := 58) (f4 := 1) (i := 1) (L' := [(1, zI x3), (2, zI q2.1), (4, zI q2.1), (0, zP bs 0), (3, zI x3)]) C rfl (by decide) rfl dX11_worst_57 rfl ?_
          refine r_iinc (pc' := 61) (i := 3) (L' := [(3, zI (x3 + 1)), (1, zI x3), (2, zI q2.1), (4, zI q2.1), (0, zP bs 0)]) C 4 rfl (by decide) rfl dX11_worst_58 rfl ?_
          refine r_goto (tgt := 12) C dX11_worst_61 (by decide) ?_
          refine V.sub (L' := [(0, zP bs 0), (1, zI x3), (2, zI q2.1), (3, zI (x3 + 1))]) [4, 1, 2, 0] rfl ?_
          exact ih12 _ _ _ _ hf
        · refine r_iinc (pc' := 61) (i := 3) (L' := [(3, zI (x3 + 1)), (4, zI q2.1), (0, zP bs 0), (1, zI x1), (2, zI x2)]) C 4 rfl (by decide) rfl dX11_worst_58 rfl ?_
          refine r_goto (tgt := 12) C dX11_worst_61 (by decide) ?_
          refine V.sub (L' := [(0, zP bs 0), (1, zI x1), (2, zI x2), (3, zI (x3 + 1))]) [2, 3, 4, 0] rfl ?_
          exact ih12 _ _ _ _ hf
      · refine r_bipush (pc' := 37) C rfl dX11_worst_35 rfl ?_
        refine r_goto (tgt := 45) C dX11_worst_37 (by decide) ?_
        refine r_istore (pc' := 47) (i := 4) (L' := [(4, zI 6), (0, zP bs 0), (1, zI x1), (2, zI x2), (3, zI x3)]) C (by decide) rfl dX11_worst_45 rfl ?_
        refine r_iload (pc' := 49) (i := 4) C 0 rfl dX11_worst_47 rfl ?_
        refine r_iload_n (pc' := 50) (f4 := 2) (i := 2) C 3 rfl rfl dX11_worst_49 rfl ?_
        refine r_icmp_ge (pc' := 53) (tgt := 58) C ww_n6 rfl hf dX11_worst_50 (by decide) rfl (fun hf => ?_) (fun hf => ?_)
        · refine r_iload (pc' := 55) (i := 4) C 0 rfl dX11_worst_53 rfl ?_
          refine r_istore_n (pc' := 56) (f4 := 2) (i := 2) (L' := [(2, zI 6), (4, zI 6), (0, zP bs 0), (1, zI x1), (3, zI x3)]) C rfl (by decide) rfl dX11_worst_55 rfl ?_
          refine r_iload_n (pc' := 57) (f4 := 3) (i := 3) C 4 rfl rfl dX11_worst_56 rfl ?_
          refine r_istore_n (pc' := 58) (f4 := 1) (i := 1) (L' := [(1, zI x3), (2, zI 6), (4, zI 6), (0, zP bs 0), (3, zI x3)]) C rfl (by decide) rfl dX11_worst_57 rfl ?_
          refine r_iinc (pc' := 61) (i := 3) (L' := [(3, zI (x3 + 1)), (1, zI x3), (2, zI 6), (4, zI 6), (0, zP bs 0)]) C 4 rfl (by decide) rfl dX11_worst_58 rfl ?_
          refine r_goto (tgt := 12) C dX11_worst_61 (by decide) ?_
          refine V.sub (L' := [(0, zP bs 0), (1, zI x3), (2, zI 6), (3, zI (x3 + 1))]) [4, 1, 2, 0] rfl ?_
          exact ih12 _ _ _ _ hf
        · refine r_iinc (pc' := 61) (i := 3) (L' := [(3, zI (x3 + 1)), (4, zI 6), (0, zP bs 0), (1, zI x1), (2, zI x2)]) C 4 rfl (by decide) rfl dX11_worst_58 rfl ?_
          refine r_goto (tgt := 12) C dX11_worst_61 (by decide) ?_
          refine V.sub (L' := [(0, zP bs 0), (1, zI x1), (2, zI x2), (3, zI (x3 + 1))]) [2, 3, 4, 0] rfl ?_
          exact ih12 _ _ _ _ hf
    · refine r_iload_n (pc' := 65) (f4 := 1) (i := 1) C 1 rfl rfl dX11_worst_64 rfl ?_
      cases hf
      exact r_iret C dX11_worst_65
set_option maxHeartbeats 4000000 in
set_option maxRecDepth 100000 in
theorem t_x_worst {S : SS} (hF : Fx S) {h : HH} {res : Int × HH} (hf : x_worst S h = some res) : CM yX11_worst cX11_worst 5 (some Jvm.ClassFile.FieldType.int) 6 136 0 0 (fun bs => [zP bs 0]) h S (fun _ => some (zI res.1)) res.2 S := by
  refine CM.intro (own := RX11) (by decide) rfl (fun _ => Nat.le_of_ble_eq_true rfl) ?_
  intro D dT bs p l e s m args below meth c C
  show V D dT bs 5 p l e rm_x_worst s m args below meth c 0 0 _ h S 0 [(0, zP bs 0)] []
  unfold x_worst at hf
  refine r_aload_n (pc' := 1) (f4 := 0) (i := 0) C 0 rfl rfl dX11_worst_0 rfl ?_
  obtain ⟨q1, hq1, hf⟩ := bind_in hf
  refine q_callVv (pc' := 4) C (t_x_weigh hF hq1) rfl (K_0 hF) cl_11 wv_RX11_206 ⟨Nat.le_of_ble_eq_true rfl, Nat.le_of_ble_eq_true rfl⟩ rfl rfl (Nat.le_of_ble_eq_true rfl) dX11_worst_1 rfl ⟨Nat.le_of_ble_eq_true rfl, Nat.le_of_ble_eq_true rfl⟩ ?_
  refine r_bipush (pc' := 6) C rfl dX11_worst_4 rfl ?_
  refine r_istore_n (pc' := 7) (f4 := 1) (i := 1) (L' := [(1, zI (-5)), (0, zP bs 0)]) C rfl (by decide) rfl dX11_worst_6 rfl ?_
  refine r_bipush (pc' := 9) C rfl dX11_worst_7 rfl ?_
  refine r_istore_n (pc' := 10) (f4 := 2) (i := 2) (L' := [(2, zI 6), (1, zI (-5)), (0, zP bs 0)]) C rfl (by decide) rfl dX11_worst_9 rfl ?_
  refine r_iconst (pc' := 11) C dX11_worst_10 rfl ?_
  refine r_istore_n (pc' := 12) (f4 := 3) (i := 3) (L' := [(3, zI 0), (2, zI 6), (1, zI (-5)), (0, zP bs 0)]) C rfl (by decide) rfl dX11_worst_11 rfl ?_
  refine V.sub (L' := [(0, zP bs 0), (1, zI (-5)), (2, zI 6), (3, zI 0)]) [3, 2, 1, 0] rfl ?_
  refine w_x_worst_L12 hF C _ _ _ _ _ hf

/- WassailEnemies.toldOfTree(II)I -/
def x_toldOfTree (h : HH) (a1 : Int) (a2 : Int) : Option Int :=
  if ww (x_isTree a2) = 0 then (some (-1)) else (if ww a1 = 1 then (ck (ww a2) 5 <| some (h 18 (ww a2))) else (if ww a1 = 2 then (ck (ww a2) 5 <| some (h 19 (ww a2))) else (some (-1))))
abbrev rm_x_toldOfTree : Room := { frames := 1, cells := 0, slots := 0, locals := 20 }
set_option maxHeartbeats 4000000 in
set_option maxRecDepth 100000 in
theorem t_x_toldOfTree {S : SS} (hF : Fx S) {h : HH} {a1 : Int} {a2 : Int} {res : Int} (hf : x_toldOfTree h a1 a2 = some res) : CM yX11_toldOfTree cX11_toldOfTree 3 (some Jvm.ClassFile.FieldType.int) 1 20 0 0 (fun bs => [zP bs 0, zI a1, zI a2]) h S (fun _ => some (zI res)) h S := by
  refine CM.intro (own := RX11) (by decide) rfl (fun _ => Nat.le_of_ble_eq_true rfl) ?_
  intro D dT bs p l e s m args below meth c C
  show V D dT bs 3 p l e rm_x_toldOfTree s m args below meth c 0 0 _ h S 0 [(0, zP bs 0), (1, zI a1), (2, zI a2)] []
  unfold x_toldOfTree at hf
  refine r_iload_n (pc' := 1) (f4 := 2) (i := 2) C 2 rfl rfl dX11_toldOfTree_0 rfl ?_
  refine q_callS (pc' := 4) C (t_x_isTree hF) rfl ws_RX11_118 ⟨Nat.le_of_ble_eq_true rfl, Nat.le_of_ble_eq_true rfl⟩ rfl rfl (Nat.le_of_ble_eq_true rfl) dX11_toldOfTree_1 rfl ⟨Nat.le_of_ble_eq_true rfl, Nat.le_of_ble_eq_true rfl⟩ ?_
  refine r_if_ne (pc' := 7) (tgt := 9) C rfl hf dX11_toldOfTree_4 (by decide) rfl (fun hf => ?_) (fun hf => ?_)
  · refine r_iconst (pc' := 8) C dX11_toldOfTree_7 rfl ?_
    cases hf
    exact r_iret C dX11_toldOfTree_8
  · refine r_iload_n (pc' := 10) (f4 := 1) (i := 1) C 1 rfl rfl dX11_toldOfTree_9 rfl ?_
    by_cases cs0 : ww a1 = 1
    · rw [if_pos cs0] at hf
      refine r_ls (tgt := 36) C (off := 26) dX11_toldOfTree_10 rfl (by simp [Op.lookupswitch.offset, cs0]) (by decide) ?_
      refine r_aload_n (pc' := 37) (f4 := 0) (i := 0) C 0 rfl rfl dX11_toldOfTree_36 rfl ?_
      refine q_getP (pc' := 40) (j := 0) C (K_0 hF) fb_11_0 (by decide) wd_311 (Or.inl rfl) (F_0_0 hF) (by decide) dX11_toldOfTree_37 rfl ?_
      refine q_getP (pc' := 43) (j := 5) C (K_1 hF) fb_10_5 (by decide) wd_187 (Or.inl rfl) (F_1_5 hF) (by decide) dX11_toldOfTree_40 rfl ?_
      refine r_iload_n (pc' := 44) (f4 := 2) (i := 2) C 2 rfl rfl dX11_toldOfTree_43 rfl ?_
      obtain ⟨hi, hf⟩ := ck_in hf
      refine r_iald (pc' := 45) C (K_18 hF) rfl hi dX11_toldOfTree_44 rfl ?_
      cases hf
      exact r_iret C dX11_toldOfTree_45
    · rw [if_neg cs0] at hf
      by_cases cs1 : ww a1 = 2
      · rw [if_pos cs1] at hf
        refine r_ls (tgt := 46) C (off := 36) dX11_toldOfTree_10 rfl (by simp [Op.lookupswitch.offset, cs1]) (by decide) ?_
        refine r_aload_n (pc' := 47) (f4 := 0) (i := 0) C 0 rfl rfl dX11_toldOfTree_46 rfl ?_
        refine q_getP (pc' := 50) (j := 0) C (K_0 hF) fb_11_0 (by decide) wd_311 (Or.inl rfl) (F_0_0 hF) (by decide) dX11_toldOfTree_47 rfl ?_
        refine q_getP (pc' := 53) (j := 6) C (K_1 hF) fb_10_6 (by decide) wd_189 (Or.inl rfl) (F_1_6 hF) (by decide) dX11_toldOfTree_50 rfl ?_
        refine r_iload_n (pc' := 54) (f4 := 2) (i := 2) C 2 rfl rfl dX11_toldOfTree_53 rfl ?_
        obtain ⟨hi, hf⟩ := ck_in hf
        refine r_iald (pc' := 55) C (K_19 hF) rfl hi dX11_toldOfTree_54 rfl ?_
        cases hf
        exact r_iret C dX11_toldOfTree_55
      · rw [if_neg cs1] at hf
        refine r_ls (tgt := 56) C (off := 46) dX11_toldOfTree_10 rfl (by simp [Op.lookupswitch.offset, Ne.symm cs0, Ne.symm cs1]) (by decide) ?_
        refine r_iconst (pc' := 57) C dX11_toldOfTree_56 rfl ?_
        cases hf
        exact r_iret C dX11_toldOfTree_57

/- WassailEnemies.told(I)I -/
def x_told (S : SS) (h : HH) (a1 : Int) : Option (Int × HH) :=
  if ww a1 = 0 then (some (h 1 7, h)) else (if ww a1 = 1 then ((xw_need h 1).bind fun q1 => some (q1, h)) else (if ww a1 = 2 then ((xw_wear h 1).bind fun q2 => some (q2, h)) else (if ww a1 = 3 then ((xw_bearing S h 1).bind fun q3 => some (q3.1, q3.2)) else (if ww a1 = 4 then ((xw_allBore h 1).bind fun q4 => some (q4, h)) else (if ww a1 = 5 then ((x_worst S h).bind fun q5 => some (q5.1, q5.2)) else (if ww a1 = 6 then ((x_worst S h).bind fun q6 => (x_bearingWithout q6.2 q6.1).bind fun q7 => some (q7.1, q7.2)) else ((x_toldOfTree h (zdiv a1 10) (zrem a1 10)).bind fun q8 => some (q8, h))))))))
abbrev rm_x_told : Room := { frames := 7, cells := 0, slots := 0, locals := 160 }
set_option maxHeartbeats 4000000 in
set_option maxRecDepth 100000 in
theorem t_x_told {S : SS} (hF : Fx S) {h : HH} {a1 : Int} {res : Int × HH} (hf : x_told S h a1 = some res) : CM yX11_told cX11_told 2 (some Jvm.ClassFile.FieldType.int) 7 160 0 0 (fun bs => [zP bs 0, zI a1]) h S (fun _ => some (zI res.1)) res.2 S := by
  refine CM.intro (own := RX11) (by decide) rfl (fun _ => Nat.le_of_ble_eq_true rfl) ?_
  intro D dT bs p l e s m args below meth c C
  show V D dT bs 2 p l e rm_x_told s m args below meth c 0 0 _ h S 0 [(0, zP bs 0), (1, zI a1)] []
  unfold x_told at hf
  refine r_iload_n (pc' := 1) (f4 := 1) (i := 1) C 1 rfl rfl dX11_told_0 rfl ?_
  by_cases cs0 : ww a1 = 0
  · rw [if_pos cs0] at hf
    refine r_tsIn (tgt := 44) C 0 cs0 dX11_told_1 (by decide) (by decide) rfl (by decide) ?_
    refine r_aload_n (pc' := 45) (f4 := 0) (i := 0) C 0 rfl rfl dX11_told_44 rfl ?_
    refine q_getP (pc' := 48) (j := 0) C (K_0 hF) fb_11_0 (by decide) wd_311 (Or.inl rfl) (F_0_0 hF) (by decide) dX11_told_45 rfl ?_
    refine q_getI (pc' := 51) (j := 7) C (K_1 hF) fb_10_7 wd_194 (Or.inl rfl) dX11_told_48 rfl ?_
    cases hf
    exact r_iret C dX11_told_51
  · rw [if_neg cs0] at hf
    by_cases cs1 : ww a1 = 1
    · rw [if_pos cs1] at hf
      refine r_tsIn (tgt := 52) C 1 cs1 dX11_told_1 (by decide) (by decide) rfl (by decide) ?_
      refine r_aload_n (pc' := 53) (f4 := 0) (i := 0) C 0 rfl rfl dX11_told_52 rfl ?_
      refine q_getP (pc' := 56) (j := 0) C (K_0 hF) fb_11_0 (by decide) wd_311 (Or.inl rfl) (F_0_0 hF) (by decide) dX11_told_53 rfl ?_
      obtain ⟨q1, hq1, hf⟩ := bind_in hf
      refine q_callV (pc' := 59) C (t_xw_need hF lit_W_1 hq1) rfl (K_1 hF) cl_10 wv_RX11_166 ⟨Nat.le_of_ble_eq_true rfl, Nat.le_of_ble_eq_true rfl⟩ rfl rfl (Nat.le_of_ble_eq_true rfl) dX11_told_56 rfl ⟨Nat.le_of_ble_eq_true rfl, Nat.le_of_ble_eq_true rfl⟩ ?_
      cases hf
      exact r_iret C dX11_told_59
    · rw [if_neg cs1] at hf
      by_cases cs2 : ww a1 = 2
      · rw [if_pos cs2] at hf
        refine r_tsIn (tgt := 60) C 2 cs2 dX11_told_1 (by decide) (by decide) rfl (by decide) ?_
        refine r_aload_n (pc' := 61) (f4 := 0) (i := 0) C 0 rfl rfl dX11_told_60 rfl ?_
        refine q_getP (pc' := 64) (j := 0) C (K_0 hF) fb_11_0 (by decide) wd_311 (Or.inl rfl) (F_0_0 hF) (by decide) dX11_told_61 rfl ?_
        obtain ⟨q2, hq2, hf⟩ := bind_in hf
        refine q_callV (pc' := 67) C (t_xw_wear hF lit_W_1 hq2) rfl (K_1 hF) cl_10 wv_RX11_170 ⟨Nat.le_of_ble_eq_true rfl, Nat.le_of_ble_eq_true rfl⟩ rfl rfl (Nat.le_of_ble_eq_true rfl) dX11_told_64 rfl ⟨Nat.le_of_ble_eq_true rfl, Nat.le_of_ble_eq_true rfl⟩ ?_
        cases hf
        exact r_iret C dX11_told_67
      · rw [if_neg cs2] at hf
        by_cases cs3 : ww a1 = 3
        · rw [if_pos cs3] at hf
          refine r_tsIn (tgt := 68) C 3 cs3 dX11_told_1 (by decide) (by decide) rfl (by decide) ?_
          refine r_aload_n (pc' := 69) (f4 := 0) (i := 0) C 0 rfl rfl dX11_told_68 rfl ?_
          refine q_getP (pc' := 72) (j := 0) C (K_0 hF) fb_11_0 (by decide) wd_311 (Or.inl rfl) (F_0_0 hF) (by decide) dX11_told_69 rfl ?_
          obtain ⟨q3, hq3, hf⟩ := bind_in hf
          refine q_callV (pc' := 75) C (t_xw_bearing hF lit_W_1 hq3) rfl (K_1 hF) cl_10 wv_RX11_173 ⟨Nat.le_of_ble_eq_true rfl, Nat.le_of_ble_eq_true rfl⟩ rfl rfl (Nat.le_of_ble_eq_true rfl) dX11_told_72 rfl ⟨Nat.le_of_ble_eq_true rfl, Nat.le_of_ble_eq_true rfl⟩ ?_
          cases hf
          exact r_iret C dX11_told_75
        · rw [if_neg cs3] at hf
          by_cases cs4 : ww a1 = 4
          · rw [if_pos cs4] at hf
            refine r_tsIn (tgt := 76) C 4 cs4 dX11_told_1 (by decide) (by decide) rfl (by decide) ?_
            refine r_aload_n (pc' := 77) (f4 := 0) (i := 0) C 0 rfl rfl dX11_told_76 rfl ?_
            refine q_getP (pc' := 80) (j := 0) C (K_0 hF) fb_11_0 (by decide) wd_311 (Or.inl rfl) (F_0_0 hF) (by decide) dX11_told_77 rfl ?_
            obtain ⟨q4, hq4, hf⟩ := bind_in hf
            refine q_callV (pc' := 83) C (t_xw_allBore hF lit_W_1 hq4) rfl (K_1 hF) cl_10 wv_RX11_176 ⟨Nat.le_of_ble_eq_true rfl, Nat.le_of_ble_eq_true rfl⟩ rfl rfl (Nat.le_of_ble_eq_true rfl) dX11_told_80 rfl ⟨Nat.le_of_ble_eq_true rfl, Nat.le_of_ble_eq_true rfl⟩ ?_
            cases hf
            exact r_iret C dX11_told_83
          · rw [if_neg cs4] at hf
            by_cases cs5 : ww a1 = 5
            · rw [if_pos cs5] at hf
              refine r_tsIn (tgt := 84) C 5 cs5 dX11_told_1 (by decide) (by decide) rfl (by decide) ?_
              refine r_aload_n (pc' := 85) (f4 := 0) (i := 0) C 0 rfl rfl dX11_told_84 rfl ?_
              obtain ⟨q5, hq5, hf⟩ := bind_in hf
              refine q_callV (pc' := 88) C (t_x_worst hF hq5) rfl (K_0 hF) cl_11 wv_RX11_179 ⟨Nat.le_of_ble_eq_true rfl, Nat.le_of_ble_eq_true rfl⟩ rfl rfl (Nat.le_of_ble_eq_true rfl) dX11_told_85 rfl ⟨Nat.le_of_ble_eq_true rfl, Nat.le_of_ble_eq_true rfl⟩ ?_
              cases hf
              exact r_iret C dX11_told_88
            · rw [if_neg cs5] at hf
              by_cases cs6 : ww a1 = 6
              · rw [if_pos cs6] at hf
                refine r_tsIn (tgt := 89) C 6 cs6 dX11_told_1 (by decide) (by decide) rfl (by decide) ?_
                refine r_aload_n (pc' := 90) (f4 := 0) (i := 0) C 0 rfl rfl dX11_told_89 rfl ?_
                refine r_aload_n (pc' := 91) (f4 := 0) (i := 0) C 0 rfl rfl dX11_told_90 rfl ?_
                obtain ⟨q6, hq6, hf⟩ := bind_in hf
                refine q_callV (pc' := 94) C (t_x_worst hF hq6) rfl (K_0 hF) cl_11 wv_RX11_179 ⟨Nat.le_of_ble_eq_true rfl, Nat.le_of_ble_eq_true rfl⟩ rfl rfl (Nat.le_of_ble_eq_true rfl) dX11_told_91 rfl ⟨Nat.le_of_ble_eq_true rfl, Nat.le_of_ble_eq_true rfl⟩ ?_
                obtain ⟨q7, hq7, hf⟩ := bind_in hf
                refine q_callV (pc' := 97) C (t_x_bearingWithout hF hq7) rfl (K_0 hF) cl_11 wv_RX11_182 ⟨Nat.le_of_ble_eq_true rfl, Nat.le_of_ble_eq_true rfl⟩ rfl rfl (Nat.le_of_ble_eq_true rfl) dX11_told_94 rfl ⟨Nat.le_of_ble_eq_true rfl, Nat.le_of_ble_eq_true rfl⟩ ?_
                cases hf
                exact r_iret C dX11_told_97
              · rw [if_neg cs6] at hf
                refine r_tsOut (tgt := 98) C dX11_told_1 (by omega) (by decide) ?_
                refine r_aload_n (pc' := 99) (f4 := 0) (i := 0) C 0 rfl rfl dX11_told_98 rfl ?_
                refine r_iload_n (pc' := 100) (f4 := 1) (i := 1) C 1 rfl rfl dX11_told_99 rfl ?_
                refine r_bipush (pc' := 102) C rfl dX11_told_100 rfl ?_
                refine r_idiv (pc' := 103) C ww_n10 (by decide) dX11_told_102 rfl ?_
                refine r_iload_n (pc' := 104) (f4 := 1) (i := 1) C 1 rfl rfl dX11_told_103 rfl ?_
                refine r_bipush (pc' := 106) C rfl dX11_told_104 rfl ?_
                refine r_irem (pc' := 107) C ww_n10 (by decide) dX11_told_106 rfl ?_
                obtain ⟨q8, hq8, hf⟩ := bind_in hf
                refine q_callV (pc' := 110) C (t_x_toldOfTree hF hq8) rfl (K_0 hF) cl_11 wv_RX11_185 ⟨Nat.le_of_ble_eq_true rfl, Nat.le_of_ble_eq_true rfl⟩ rfl rfl (Nat.le_of_ble_eq_true rfl) dX11_told_107 rfl ⟨Nat.le_of_ble_eq_true rfl, Nat.le_of_ble_eq_true rfl⟩ ?_
                cases hf
                exact r_iret C dX11_told_110

/- WassailEnemies.isYears(I)Z -/
def x_isYears (a0 : Int) : Int :=
  if ww a0 < 0 then (0) else (if 60 < ww a0 then (0) else (1))
theorem b_x_isYears {a0 : Int} : x_isYears a0 = 0 ∨ x_isYears a0 = 1 := by
  unfold x_isYears
  repeat' split
  all_goals first | exact Or.inl rfl | exact Or.inr rfl

abbrev rm_x_isYears : Room := { frames := 0, cells := 0, slots := 0, locals := 0 }
set_option maxHeartbeats 4000000 in
set_option maxRecDepth 100000 in
theorem t_x_isYears {S : SS} (hF : Fx S) {h : HH} {a0 : Int} : CM yX11_isYears cX11_isYears 1 (some Jvm.ClassFile.FieldType.boolean) 0 0 0 0 (fun _ => [zI a0]) h S (fun _ => some (zI (x_isYears a0))) h S := by
  refine CM.intro (own := RX11) (by decide) rfl (fun _ => Nat.le_of_ble_eq_true rfl) ?_
  intro D dT bs p l e s m args below meth c C
  show V D dT bs 1 p l e rm_x_isYears s m args below meth c 0 0 _ h S 0 [(0, zI a0)] []
  obtain ⟨res, hf⟩ : ∃ r, x_isYears a0 = r := ⟨_, rfl⟩
  rw [hf]
  unfold x_isYears at hf
  refine r_iload_n (pc' := 1) (f4 := 0) (i := 0) C 0 rfl rfl dX11_isYears_0 rfl ?_
  refine r_if_lt (pc' := 4) (tgt := 14) C rfl hf dX11_isYears_1 (by decide) rfl (fun hf => ?_) (fun hf => ?_)
  · refine r_iconst (pc' := 15) C dX11_isYears_14 rfl ?_
    subst hf
    exact r_zret C (Or.inl rfl) dX11_isYears_15
  · refine r_iload_n (pc' := 5) (f4 := 0) (i := 0) C 0 rfl rfl dX11_isYears_4 rfl ?_
    refine r_bipush (pc' := 7) C rfl dX11_isYears_5 rfl ?_
    refine r_icmp_gt (pc' := 10) (tgt := 14) C rfl ww_n60 hf dX11_isYears_7 (by decide) rfl (fun hf => ?_) (fun hf => ?_)
    · refine r_iconst (pc' := 15) C dX11_isYears_14 rfl ?_
      subst hf
      exact r_zret C (Or.inl rfl) dX11_isYears_15
    · refine r_iconst (pc' := 11) C dX11_isYears_10 rfl ?_
      refine r_goto (tgt := 15) C dX11_isYears_11 (by decide) ?_
      subst hf
      exact r_zret C (Or.inr rfl) dX11_isYears_15

/- WassailEnemies.pass(I)I -/
def x_pass (S : SS) (h : HH) (a1 : Int) : Option (Int × HH) :=
  if ww (x_isYears a1) = 0 then (some (-2, h)) else (if 9999 < ww ((h 1 7) + a1) then (some (-3, h)) else ((xw_goYears S h 1 a1).bind fun q1 => some (q1 1 7, q1)))
abbrev rm_x_pass : Room := { frames := 8, cells := 0, slots := 0, locals := 179 }
set_option maxHeartbeats 4000000 in
set_option maxRecDepth 100000 in
theorem t_x_pass {S : SS} (hF : Fx S) {h : HH} {a1 : Int} {res : Int × HH} (hf : x_pass S h a1 = some res) : CM yX11_pass cX11_pass 2 (some Jvm.ClassFile.FieldType.int) 8 179 0 0 (fun bs => [zP bs 0, zI a1]) h S (fun _ => some (zI res.1)) res.2 S := by
  refine CM.intro (own := RX11) (by decide) rfl (fun _ => Nat.le_of_ble_eq_true rfl) ?_
  intro D dT bs p l e s m args below meth c C
  show V D dT bs 2 p l e rm_x_pass s m args below meth c 0 0 _ h S 0 [(0, zP bs 0), (1, zI a1)] []
  unfold x_pass at hf
  refine r_iload_n (pc' := 1) (f4 := 1) (i := 1) C 1 rfl rfl dX11_pass_0 rfl ?_
  refine q_callS (pc' := 4) C (t_x_isYears hF) rfl ws_RX11_191 ⟨Nat.le_of_ble_eq_true rfl, Nat.le_of_ble_eq_true rfl⟩ rfl rfl (Nat.le_of_ble_eq_true rfl) dX11_pass_1 rfl ⟨Nat.le_of_ble_eq_true rfl, Nat.le_of_ble_eq_true rfl⟩ ?_
  refine r_if_ne (pc' := 7) (tgt := 10) C rfl hf dX11_pass_4 (by decide) rfl (fun hf => ?_) (fun hf => ?_)
  · refine r_bipush (pc' := 9) C rfl dX11_pass_7 rfl ?_
    cases hf
    exact r_iret C dX11_pass_9
  · refine r_aload_n (pc' := 11) (f4 := 0) (i := 0) C 0 rfl rfl dX11_pass_10 rfl ?_
    refine q_getP (pc' := 14) (j := 0) C (K_0 hF) fb_11_0 (by decide) wd_311 (Or.inl rfl) (F_0_0 hF) (by decide) dX11_pass_11 rfl ?_
    refine q_getI (pc' := 17) (j := 7) C (K_1 hF) fb_10_7 wd_194 (Or.inl rfl) dX11_pass_14 rfl ?_
    refine r_iload_n (pc' := 18) (f4 := 1) (i := 1) C 1 rfl rfl dX11_pass_17 rfl ?_
    refine r_iadd (pc' := 19) C dX11_pass_18 rfl ?_
    refine r_sipush (pc' := 22) C rfl dX11_pass_19 rfl ?_
    refine r_icmp_le (pc' := 25) (tgt := 28) C rfl ww_n9999 hf dX11_pass_22 (by decide) rfl (fun hf => ?_) (fun hf => ?_)
    · refine r_bipush (pc' := 27) C rfl dX11_pass_25 rfl ?_
      cases hf
      exact r_iret C dX11_pass_27
    · refine r_aload_n (pc' := 29) (f4 := 0) (i := 0) C 0 rfl rfl dX11_pass_28 rfl ?_
      refine q_getP (pc' := 32) (j := 0) C (K_0 hF) fb_11_0 (by decide) wd_311 (Or.inl rfl) (F_0_0 hF) (by decide) dX11_pass_29 rfl ?_
      refine r_iload_n (pc' := 33) (f4 := 1) (i := 1) C 1 rfl rfl dX11_pass_32 rfl ?_
      obtain ⟨q1, hq1, hf⟩ := bind_in hf
      refine q_callVv (pc' := 36) C (t_xw_goYears hF lit_W_1 hq1) rfl (K_1 hF) cl_10 wv_RX11_194 ⟨Nat.le_of_ble_eq_true rfl, Nat.le_of_ble_eq_true rfl⟩ rfl rfl (Nat.le_of_ble_eq_true rfl) dX11_pass_33 rfl ⟨Nat.le_of_ble_eq_true rfl, Nat.le_of_ble_eq_true rfl⟩ ?_
      refine r_aload_n (pc' := 37) (f4 := 0) (i := 0) C 0 rfl rfl dX11_pass_36 rfl ?_
      refine q_getP (pc' := 40) (j := 0) C (K_0 hF) fb_11_0 (by decide) wd_311 (Or.inl rfl) (F_0_0 hF) (by decide) dX11_pass_37 rfl ?_
      refine q_getI (pc' := 43) (j := 7) C (K_1 hF) fb_10_7 wd_194 (Or.inl rfl) dX11_pass_40 rfl ?_
      cases hf
      exact r_iret C dX11_pass_43

/- WassailEnemies.on(II)I -/
def x_on (S : SS) (h : HH) (a1 : Int) (a2 : Int) : Option (Int × HH) :=
  if ww (zdiv a2 10) = 1 then (if ww (x_isTree (zrem a2 10)) = 0 then (if ww a2 < 20 then (if ww a2 = 0 then (if ww (x_isYears a1) = 0 then (some (-2, h)) else ((xw_goFrom S h 99 1).bind fun q1 => (xw_goYears S q1 99 a1).bind fun q2 => if (0 : Int) = 0 then (if (0 : Int) = 0 then ((xw_bearing S q2 99).bind fun q3 => some (q3.1, q3.2)) else (ck (ww (zdiv (a2 - 20) 5)) 6 <| ck (ww (zrem (a2 - 20) 5)) 5 <| some (q2 (103 + (ww (zdiv (a2 - 20) 5))) (ww (zrem (a2 - 20) 5)), q2))) else (ck (ww (zrem a2 10)) 5 <| some (q2 116 (ww (zrem a2 10)), q2)))) else (if (0 : Int) = 0 then (if (0 : Int) = 0 then (some (-1, h)) else (if ww (x_isYears a1) = 0 then (some (-2, h)) else ((xw_goFrom S h 99 1).bind fun q5 => (xw_goYears S q5 99 a1).bind fun q6 => if (0 : Int) = 0 then (if (0 : Int) = 0 then ((xw_bearing S q6 99).bind fun q7 => some (q7.1, q7.2)) else (ck (ww (zdiv (a2 - 20) 5)) 6 <| ck (ww (zrem (a2 - 20) 5)) 5 <| some (q6 (103 + (ww (zdiv (a2 - 20) 5))) (ww (zrem (a2 - 20) 5)), q6))) else (ck (ww (zrem a2 10)) 5 <| some (q6 116 (ww (zrem a2 10)), q6))))) else (if ww (x_isYears a1) = 0 then (some (-2, h)) else ((xw_goFrom S h 99 1).bind fun q9 => (xw_goYears S q9 99 a1).bind fun q10 => if (0 : Int) = 0 then (if (0 : Int) = 0 then ((xw_bearing S q10 99).bind fun q11 => some (q11.1, q11.2)) else (ck (ww (zdiv (a2 - 20) 5)) 6 <| ck (ww (zrem (a2 - 20) 5)) 5 <| some (q10 (103 + (ww (zdiv (a2 - 20) 5))) (ww (zrem (a2 - 20) 5)), q10))) else (ck (ww (zrem a2 10)) 5 <| some (q10 116 (ww (zrem a2 10)), q10)))))) else (if ww (xw_has h 1 (zdiv (a2 - 20) 5)) = 0 then (if ww a2 = 0 then (if ww (x_isYears a1) = 0 then (some (-2, h)) else ((xw_goFrom S h 99 1).bind fun q13 => (xw_goYears S q13 99 a1).bind fun q14 => if (0 : Int) = 0 then (if (0 : Int) = 0 then ((xw_bearing S q14 99).bind fun q15 => some (q15.1, q15.2)) else (ck (ww (zdiv (a2 - 20) 5)) 6 <| ck (ww (zrem (a2 - 20) 5)) 5 <| some (q14 (103 + (ww (zdiv (a2 - 20) 5))) (ww (zrem (a2 - 20) 5)), q14))) else (ck (ww (zrem a2 10)) 5 <| some (q14 116 (ww (zrem a2 10)), q14)))) else (if (0 : Int) = 0 then (if (0 : Int) = 0 then (some (-1, h)) else (if ww (x_isYears a1) = 0 then (some (-2, h)) else ((xw_goFrom S h 99 1).bind fun q17 => (xw_goYears S q17 99 a1).bind fun q18 => if (0 : Int) = 0 then (if (0 : Int) = 0 then ((xw_bearing S q18 99).bind fun q19 => some (q19.1, q19.2)) else (ck (ww (zdiv (a2 - 20) 5)) 6 <| ck (ww (zrem (a2 - 20) 5)) 5 <| some (q18 (103 + (ww (zdiv (a2 - 20) 5))) (ww (zrem (a2 - 20) 5)), q18))) else (ck (ww (zrem a2 10)) 5 <| some (q18 116 (ww (zrem a2 10)), q18))))) else (if ww (x_isYears a1) = 0 then (some (-2, h)) else ((xw_goFrom S h 99 1).bind fun q21 => (xw_goYears S q21 99 a1).bind fun q22 => if (0 : Int) = 0 then (if (0 : Int) = 0 then ((xw_bearing S q22 99).bind fun q23 => some (q23.1, q23.2)) else (ck (ww (zdiv (a2 - 20) 5)) 6 <| ck (ww (zrem (a2 - 20) 5)) 5 <| some (q22 (103 + (ww (zdiv (a2 - 20) 5))) (ww (zrem (a2 - 20) 5)), q22))) else (ck (ww (zrem a2 10)) 5 <| some (q22 116 (ww (zrem a2 10)), q22)))))) else (if ww a2 = 0 then (if ww (x_isYears a1) = 0 then (some (-2, h)) else ((xw_goFrom S h 99 1).bind fun q25 => (xw_goYears S q25 99 a1).bind fun q26 => if (0 : Int) = 0 then (if (1 : Int) = 0 then ((xw_bearing S q26 99).bind fun q27 => some (q27.1, q27.2)) else (ck (ww (zdiv (a2 - 20) 5)) 6 <| ck (ww (zrem (a2 - 20) 5)) 5 <| some (q26 (103 + (ww (zdiv (a2 - 20) 5))) (ww (zrem (a2 - 20) 5)), q26))) else (ck (ww (zrem a2 10)) 5 <| some (q26 116 (ww (zrem a2 10)), q26)))) else (if (0 : Int) = 0 then (if (1 : Int) = 0 then (some (-1, h)) else (if ww (x_isYears a1) = 0 then (some (-2, h)) else ((xw_goFrom S h 99 1).bind fun q29 => (xw_goYears S q29 99 a1).bind fun q30 => if (0 : Int) = 0 then (if (1 : Int) = 0 then ((xw_bearing S q30 99).bind fun q31 => some (q31.1, q31.2)) else (ck (ww (zdiv (a2 - 20) 5)) 6 <| ck (ww (zrem (a2 - 20) 5)) 5 <| some (q30 (103 + (ww (zdiv (a2 - 20) 5))) (ww (zrem (a2 - 20) 5)), q30))) else (ck (ww (zrem a2 10)) 5 <| some (q30 116 (ww (zrem a2 10)), q30))))) else (if ww (x_isYears a1) = 0 then (some (-2, h)) else ((xw_goFrom S h 99 1).bind fun q33 => (xw_goYears S q33 99 a1).bind fun q34 => if (0 : Int) = 0 then (if (1 : Int) = 0 then ((xw_bearing S q34 99).bind fun q35 => some (q35.1, q35.2)) else (ck (ww (zdiv (a2 - 20) 5)) 6 <| ck (ww (zrem (a2 - 20) 5)) 5 <| some (q34 (103 + (ww (zdiv (a2 - 20) 5))) (ww (zrem (a2 - 20) 5)), q34))) else (ck (ww (zrem a2 10)) 5 <| some (q34 116 (ww (zrem a2 10)), q34)))))))) else (if ww a2 < 20 then (if ww a2 = 0 then (if ww (x_isYears a1) = 0 then (some (-2, h)) else ((xw_goFrom S h 99 1).bind fun q37 => (xw_goYears S q37 99 a1).bind fun q38 => if (1 : Int) = 0 then (if (0 : Int) = 0 then ((xw_bearing S q38 99).bind fun q39 => some (q39.1, q39.2)) else (ck (ww (zdiv (a2 - 20) 5)) 6 <| ck (ww (zrem (a2 - 20) 5)) 5 <| some (q38 (103 + (ww (zdiv (a2 - 20) 5))) (ww (zrem (a2 - 20) 5)), q38))) else (ck (ww (zrem a2 10)) 5 <| some (q38 116 (ww (zrem a2 10)), q38)))) else (if (1 : Int) = 0 then (if (0 : Int) = 0 then (some (-1, h)) else (if ww (x_isYears a1) = 0 then (some (-2, h)) else ((xw_goFrom S h 99 1).bind fun q41 => (xw_goYears S q41 99 a1).bind fun q42 => if (1 : Int) = 0 then (if (0 : Int) = 0 then ((xw_bearing S q42 99).bind fun q43 => some (q43.1, q43.2)) else (ck (ww (zdiv (a2 - 20) 5)) 6 <| ck (ww (zrem (a2 - 20) 5)) 5 <| some (q42 (103 + (ww (zdiv (a2 - 20) 5))) (ww (zrem (a2 - 20) 5)), q42))) else (ck (ww (zrem a2 10)) 5 <| some (q42 116 (ww (zrem a2 10)), q42))))) else (if ww (x_isYears a1) = 0 then (some (-2, h)) else ((xw_goFrom S h 99 1).bind fun q45 => (xw_goYears S q45 99 a1).bind fun q46 => if (1 : Int) = 0 then (if (0 : Int) = 0 then ((xw_bearing S q46 99).bind fun q47 => some (q47.1, q47.2)) else (ck (ww (zdiv (a2 - 20) 5)) 6 <| ck (ww (zrem (a2 - 20) 5)) 5 <| some (q46 (103 + (ww (zdiv (a2 - 20) 5))) (ww (zrem (a2 - 20) 5)), q46))) else (ck (ww (zrem a2 10)) 5 <| some (q46 116 (ww (zrem a2 10)), q46)))))) else (if ww (xw_has h 1 (zdiv (a2 - 20) 5)) = 0 then (if ww a2 = 0 then (if ww (x_isYears a1) = 0 then (some (-2, h)) else ((xw_goFrom S h 99 1).bind fun q49 => (xw_goYears S q49 99 a1).bind fun q50 => if (1 : Int) = 0 then (if (0 : Int) = 0 then ((xw_bearing S q50 99).bind fun q51 => some (q51.1, q51.2)) else (ck (ww (zdiv (a2 - 20) 5)) 6 <| ck (ww (zrem (a2 - 20) 5)) 5 <| some (q50 (103 + (ww (zdiv (a2 - 20) 5))) (ww (zrem (a2 - 20) 5)), q50))) else (ck (ww (zrem a2 10)) 5 <| some (q50 116 (ww (zrem a2 10)), q50)))) else (if (1 : Int) = 0 then (if (0 : Int) = 0 then (some (-1, h)) else (if ww (x_isYears a1) = 0 then (some (-2, h)) else ((xw_goFrom S h 99 1).bind fun q53 => (xw_goYears S q53 99 a1).bind fun q54 => if (1 : Int) = 0 then (if (0 : Int) = 0 then ((xw_bearing S q54 99).bind fun q55 => some (q55.1, q55.2)) else (ck (ww (zdiv (a2 - 20) 5)) 6 <| ck (ww (zrem (a2 - 20) 5)) 5 <| some (q54 (103 + (ww (zdiv (a2 - 20) 5))) (ww (zrem (a2 - 20) 5)), q54))) else (ck (ww (zrem a2 10)) 5 <| some (q54 116 (ww (zrem a2 10)), q54))))) else (if ww (x_isYears a1) = 0 then (some (-2, h)) else ((xw_goFrom S h 99 1).bind fun q57 => (xw_goYears S q57 99 a1).bind fun q58 => if (1 : Int) = 0 then (if (0 : Int) = 0 then ((xw_bearing S q58 99).bind fun q59 => some (q59.1, q59.2)) else (ck (ww (zdiv (a2 - 20) 5)) 6 <| ck (ww (zrem (a2 - 20) 5)) 5 <| some (q58 (103 + (ww (zdiv (a2 - 20) 5))) (ww (zrem (a2 - 20) 5)), q58))) else (ck (ww (zrem a2 10)) 5 <| some (q58 116 (ww (zrem a2 10)), q58)))))) else (if ww a2 = 0 then (if ww (x_isYears a1) = 0 then (some (-2, h)) else ((xw_goFrom S h 99 1).bind fun q61 => (xw_goYears S q61 99 a1).bind fun q62 => if (1 : Int) = 0 then (if (1 : Int) = 0 then ((xw_bearing S q62 99).bind fun q63 => some (q63.1, q63.2)) else (ck (ww (zdiv (a2 - 20) 5)) 6 <| ck (ww (zrem (a2 - 20) 5)) 5 <| some (q62 (103 + (ww (zdiv (a2 - 20) 5))) (ww (zrem (a2 - 20) 5)), q62))) else (ck (ww (zrem a2 10)) 5 <| some (q62 116 (ww (zrem a2 10)), q62)))) else (if (1 : Int) = 0 then (if (1 : Int) = 0 then (some (-1, h)) else (if ww (x_isYears a1) = 0 then (some (-2, h)) else ((xw_goFrom S h 99 1).bind fun q65 => (xw_goYears S q65 99 a1).bind fun q66 => if (1 : Int) = 0 then (if (1 : Int) = 0 then ((xw_bearing S q66 99).bind fun q67 => some (q67.1, q67.2)) else (ck (ww (zdiv (a2 - 20) 5)) 6 <| ck (ww (zrem (a2 - 20) 5)) 5 <| some (q66 (103 + (ww (zdiv (a2 - 20) 5))) (ww (zrem (a2 - 20) 5)), q66))) else (ck (ww (zrem a2 10)) 5 <| some (q66 116 (ww (zrem a2 10)), q66))))) else (if ww (x_isYears a1) = 0 then (some (-2, h)) else ((xw_goFrom S h 99 1).bind fun q69 => (xw_goYears S q69 99 a1).bind fun q70 => if (1 : Int) = 0 then (if (1 : Int) = 0 then ((xw_bearing S q70 99).bind fun q71 => some (q71.1, q71.2)) else (ck (ww (zdiv (a2 - 20) 5)) 6 <| ck (ww (zrem (a2 - 20) 5)) 5 <| some (q70 (103 + (ww (zdiv (a2 - 20) 5))) (ww (zrem (a2 - 20) 5)), q70))) else (ck (ww (zrem a2 10)) 5 <| some (q70 116 (ww (zrem a2 10)), q70))))))))) else (if ww a2 < 20 then (if ww a2 = 0 then (if ww (x_isYears a1) = 0 then (some (-2, h)) else ((xw_goFrom S h 99 1).bind fun q73 => (xw_goYears S q73 99 a1).bind fun q74 => if (0 : Int) = 0 then (if (0 : Int) = 0 then ((xw_bearing S q74 99).bind fun q75 => some (q75.1, q75.2)) else (ck (ww (zdiv (a2 - 20) 5)) 6 <| ck (ww (zrem (a2 - 20) 5)) 5 <| some (q74 (103 + (ww (zdiv (a2 - 20) 5))) (ww (zrem (a2 - 20) 5)), q74))) else (ck (ww (zrem a2 10)) 5 <| some (q74 116 (ww (zrem a2 10)), q74)))) else (if (0 : Int) = 0 then (if (0 : Int) = 0 then (some (-1, h)) else (if ww (x_isYears a1) = 0 then (some (-2, h)) else ((xw_goFrom S h 99 1).bind fun q77 => (xw_goYears S q77 99 a1).bind fun q78 => if (0 : Int) = 0 then (if (0 : Int) = 0 then ((xw_bearing S q78 99).bind fun q79 => some (q79.1, q79.2)) else (ck (ww (zdiv (a2 - 20) 5)) 6 <| ck (ww (zrem (a2 - 20) 5)) 5 <| some (q78 (103 + (ww (zdiv (a2 - 20) 5))) (ww (zrem (a2 - 20) 5)), q78))) else (ck (ww (zrem a2 10)) 5 <| some (q78 116 (ww (zrem a2 10)), q78))))) else (if ww (x_isYears a1) = 0 then (some (-2, h)) else ((xw_goFrom S h 99 1).bind fun q81 => (xw_goYears S q81 99 a1).bind fun q82 => if (0 : Int) = 0 then (if (0 : Int) = 0 then ((xw_bearing S q82 99).bind fun q83 => some (q83.1, q83.2)) else (ck (ww (zdiv (a2 - 20) 5)) 6 <| ck (ww (zrem (a2 - 20) 5)) 5 <| some (q82 (103 + (ww (zdiv (a2 - 20) 5))) (ww (zrem (a2 - 20) 5)), q82))) else (ck (ww (zrem a2 10)) 5 <| some (q82 116 (ww (zrem a2 10)), q82)))))) else (if ww (xw_has h 1 (zdiv (a2 - 20) 5)) = 0 then (if ww a2 = 0 then (if ww (x_isYears a1) = 0 then (some (-2, h)) else ((xw_goFrom S h 99 1).bind fun q85 => (xw_goYears S q85 99 a1).bind fun q86 => if (0 : Int) = 0 then (if (0 : Int) = 0 then ((xw_bearing S q86 99).bind fun q87 => some (q87.1, q87.2)) else (ck (ww (zdiv (a2 - 20) 5)) 6 <| ck (ww (zrem (a2 - 20) 5)) 5 <| some (q86 (103 + (ww (zdiv (a2 - 20) 5))) (ww (zrem (a2 - 20) 5)), q86))) else (ck (ww (zrem a2 10)) 5 <| some (q86 116 (ww (zrem a2 10)), q86)))) else (if (0 : Int) = 0 then (if (0 : Int) = 0 then (some (-1, h)) else (if ww (x_isYears a1) = 0 then (some (-2, h)) else ((xw_goFrom S h 99 1).bind fun q89 => (xw_goYears S q89 99 a1).bind fun q90 => if (0 : Int) = 0 then (if (0 : Int) = 0 then ((xw_bearing S q90 99).bind fun q91 => some (q91.1, q91.2)) else (ck (ww (zdiv (a2 - 20) 5)) 6 <| ck (ww (zrem (a2 - 20) 5)) 5 <| some (q90 (103 + (ww (zdiv (a2 - 20) 5))) (ww (zrem (a2 - 20) 5)), q90))) else (ck (ww (zrem a2 10)) 5 <| some (q90 116 (ww (zrem a2 10)), q90))))) else (if ww (x_isYears a1) = 0 then (some (-2, h)) else ((xw_goFrom S h 99 1).bind fun q93 => (xw_goYears S q93 99 a1).bind fun q94 => if (0 : Int) = 0 then (if (0 : Int) = 0 then ((xw_bearing S q94 99).bind fun q95 => some (q95.1, q95.2)) else (ck (ww (zdiv (a2 - 20) 5)) 6 <| ck (ww (zrem (a2 - 20) 5)) 5 <| some (q94 (103 + (ww (zdiv (a2 - 20) 5))) (ww (zrem (a2 - 20) 5)), q94))) else (ck (ww (zrem a2 10)) 5 <| some (q94 116 (ww (zrem a2 10)), q94)))))) else (if ww a2 = 0 then (if ww (x_isYears a1) = 0 then (some (-2, h)) else ((xw_goFrom S h 99 1).bind fun q97 => (xw_goYears S q97 99 a1).bind fun q98 => if (0 : Int) = 0 then (if (1 : Int) = 0 then ((xw_bearing S q98 99).bind fun q99 => some (q99.1, q99.2)) else (ck (ww (zdiv (a2 - 20) 5)) 6 <| ck (ww (zrem (a2 - 20) 5)) 5 <| some (q98 (103 + (ww (zdiv (a2 - 20) 5))) (ww (zrem (a2 - 20) 5)), q98))) else (ck (ww (zrem a2 10)) 5 <| some (q98 116 (ww (zrem a2 10)), q98)))) else (if (0 : Int) = 0 then (if (1 : Int) = 0 then (some (-1, h)) else (if ww (x_isYears a1) = 0 then (some (-2, h)) else ((xw_goFrom S h 99 1).bind fun q101 => (xw_goYears S q101 99 a1).bind fun q102 => if (0 : Int) = 0 then (if (1 : Int) = 0 then ((xw_bearing S q102 99).bind fun q103 => some (q103.1, q103.2)) else (ck (ww (zdiv (a2 - 20) 5)) 6 <| ck (ww (zrem (a2 - 20) 5)) 5 <| some (q102 (103 + (ww (zdiv (a2 - 20) 5))) (ww (zrem (a2 - 20) 5)), q102))) else (ck (ww (zrem a2 10)) 5 <| some (q102 116 (ww (zrem a2 10)), q102))))) else (if ww (x_isYears a1) = 0 then (some (-2, h)) else ((xw_goFrom S h 99 1).bind fun q105 => (xw_goYears S q105 99 a1).bind fun q106 => if (0 : Int) = 0 then (if (1 : Int) = 0 then ((xw_bearing S q106 99).bind fun q107 => some (q107.1, q107.2)) else (ck (ww (zdiv (a2 - 20) 5)) 6 <| ck (ww (zrem (a2 - 20) 5)) 5 <| some (q106 (103 + (ww (zdiv (a2 - 20) 5))) (ww (zrem (a2 - 20) 5)), q106))) else (ck (ww (zrem a2 10)) 5 <| some (q106 116 (ww (zrem a2 10)), q106))))))))
abbrev rm_x_on : Room := { frames := 8, cells := 0, slots := 0, locals := 179 }
set_option maxHeartbeats 4000000 in
set_option maxRecDepth 100000 in
theorem t_x_on {S : SS} (hF : Fx S) {h : HH} {a1 : Int} {a2 : Int} {res : Int × HH} (hf : x_on S h a1 a2 = some res) : CM yX11_on cX11_on 7 (some Jvm.ClassFile.FieldType.int) 8 179 0 0 (fun bs => [zP bs 0, zI a1, zI a2]) h S (fun _ => some (zI res.1)) res.2 S := by
  refine CM.intro (own := RX11) (by decide) rfl (fun _ => Nat.le_of_ble_eq_true rfl) ?_
  intro D dT bs p l e s m args below meth c C
  show V D dT bs 7 p l e rm_x_on s m args below meth c 0 0 _ h S 0 [(0, zP bs 0), (1, zI a1), (2, zI a2)] []
  unfold x_on at hf
  refine r_iload_n (pc' := 1) (f4 := 2) (i := 2) C 2 rfl rfl dX11_on_0 rfl ?_
  refine r_bipush (pc' := 3) C rfl dX11_on_1 rfl ?_
  refine r_irem (pc' := 4) C ww_n10 (by decide) dX11_on_3 rfl ?_
  refine r_istore_n (pc' := 5) (f4 := 3) (i := 3) (L' := [(3, zI (zrem a2 10)), (0, zP bs 0), (1, zI a1), (2, zI a2)]) C rfl (by decide) rfl dX11_on_4 rfl ?_
  refine r_iload_n (pc' := 6) (f4 := 2) (i := 2) C 3 rfl rfl dX11_on_5 rfl ?_
  refine r_bipush (pc' := 8) C rfl dX11_on_6 rfl ?_
  refine r_idiv (pc' := 9) C ww_n10 (by decide) dX11_on_8 rfl ?_
  refine r_iconst (pc' := 10) C dX11_on_9 rfl ?_
  refine r_icmp_ne (pc' := 13) (tgt := 24) C rfl ww_n1 hf dX11_on_10 (by decide) rfl (fun hf => ?_) (fun hf => ?_)
  · refine r_iload_n (pc' := 14) (f4 := 3) (i := 3) C 0 rfl rfl dX11_on_13 rfl ?_
    refine q_callS (pc' := 17) C (t_x_isTree hF) rfl ws_RX11_118 ⟨Nat.le_of_ble_eq_true rfl, Nat.le_of_ble_eq_true rfl⟩ rfl rfl (Nat.le_of_ble_eq_true rfl) dX11_on_14 rfl ⟨Nat.le_of_ble_eq_true rfl, Nat.le_of_ble_eq_true rfl⟩ ?_
    refine r_if_eq (pc' := 20) (tgt := 24) C rfl hf dX11_on_17 (by decide) rfl (fun hf => ?_) (fun hf => ?_)
    · refine r_iconst (pc' := 25) C dX11_on_24 rfl ?_
      refine r_istore (pc' := 27) (i := 4) (L' := [(4, zI 0), (3, zI (zrem a2 10)), (0, zP bs 0), (1, zI a1), (2, zI a2)]) C (by decide) rfl dX11_on_25 rfl ?_
      refine r_iload_n (pc' := 28) (f4 := 2) (i := 2) C 4 rfl rfl dX11_on_27 rfl ?_
      refine r_bipush (pc' := 30) C rfl dX11_on_28 rfl ?_
      refine r_isub (pc' := 31) C dX11_on_30 rfl ?_
      refine r_istore (pc' := 33) (i := 5) (L' := [(5, zI (a2 - 20)), (4, zI 0), (3, zI (zrem a2 10)), (0, zP bs 0), (1, zI a1), (2, zI a2)]) C (by decide) rfl dX11_on_31 rfl ?_
      refine r_iload_n (pc' := 34) (f4 := 2) (i := 2) C 5 rfl rfl dX11_on_33 rfl ?_
      refine r_bipush (pc' := 36) C rfl dX11_on_34 rfl ?_
      refine r_icmp_lt (pc' := 39) (tgt := 57) C rfl ww_n20 hf dX11_on_36 (by decide) rfl (fun hf => ?_) (fun hf => ?_)
      · refine r_iconst (pc' := 58) C dX11_on_57 rfl ?_
        refine r_istore (pc' := 60) (i := 6) (L' := [(6, zI 0), (5, zI (a2 - 20)), (4, zI 0), (3, zI (zrem a2 10)), (0, zP bs 0), (1, zI a1), (2, zI a2)]) C (by decide) rfl dX11_on_58 rfl ?_
        refine r_iload_n (pc' := 61) (f4 := 2) (i := 2) C 6 rfl rfl dX11_on_60 rfl ?_
        refine r_if_eq (pc' := 64) (tgt := 76) C rfl hf dX11_on_61 (by decide) rfl (fun hf => ?_) (fun hf => ?_)
        · refine r_iload_n (pc' := 77) (f4 := 1) (i := 1) C 5 rfl rfl dX11_on_76 rfl ?_
          refine q_callS (pc' := 80) C (t_x_isYears hF) rfl ws_RX11_191 ⟨Nat.le_of_ble_eq_true rfl, Nat.le_of_ble_eq_true rfl⟩ rfl rfl (Nat.le_of_ble_eq_true rfl) dX11_on_77 rfl ⟨Nat.le_of_ble_eq_true rfl, Nat.le_of_ble_eq_true rfl⟩ ?_
          refine r_if_ne (pc' := 83) (tgt := 86) C rfl hf dX11_on_80 (by decide) rfl (fun hf => ?_) (fun hf => ?_)
          · refine r_bipush (pc' := 85) C rfl dX11_on_83 rfl ?_
            cases hf
            exact r_iret C dX11_on_85
          · refine r_aload_n (pc' := 87) (f4 := 0) (i := 0) C 4 rfl rfl dX11_on_86 rfl ?_
            refine q_getP (pc' := 90) (j := 2) C (K_0 hF) fb_11_2 (by decide) wd_313 (Or.inl rfl) (F_0_2 hF) (by decide) dX11_on_87 rfl ?_
            refine r_aload_n (pc' := 91) (f4 := 0) (i := 0) C 4 rfl rfl dX11_on_90 rfl ?_
            refine q_getP (pc' := 94) (j := 0) C (K_0 hF) fb_11_0 (by decide) wd_311 (Or.inl rfl) (F_0_0 hF) (by decide) dX11_on_91 rfl ?_
            obtain ⟨q1, hq1, hf⟩ := bind_in hf
            refine q_callVv (pc' := 97) C (t_xw_goFrom hF lit_W_99 lit_W_1 hq1) rfl (K_99 hF) cl_10 wv_RX11_198 ⟨Nat.le_of_ble_eq_true rfl, Nat.le_of_ble_eq_true rfl⟩ rfl rfl (Nat.le_of_ble_eq_true rfl) dX11_on_94 rfl ⟨Nat.le_of_ble_eq_true rfl, Nat.le_of_ble_eq_true rfl⟩ ?_
            refine r_aload_n (pc' := 98) (f4 := 0) (i := 0) C 4 rfl rfl dX11_on_97 rfl ?_
            refine q_getP (pc' := 101) (j := 2) C (K_0 hF) fb_11_2 (by decide) wd_313 (Or.inl rfl) (F_0_2 hF) (by decide) dX11_on_98 rfl ?_
            refine r_iload_n (pc' := 102) (f4 := 1) (i := 1) C 5 rfl rfl dX11_on_101 rfl ?_
            obtain ⟨q2, hq2, hf⟩ := bind_in hf
            refine q_callVv (pc' := 105) C (t_xw_goYears hF lit_W_99 hq2) rfl (K_99 hF) cl_10 wv_RX11_194 ⟨Nat.le_of_ble_eq_true rfl, Nat.le_of_ble_eq_true rfl⟩ rfl rfl (Nat.le_of_ble_eq_true rfl) dX11_on_102 rfl ⟨Nat.le_of_ble_eq_true rfl, Nat.le_of_ble_eq_true rfl⟩ ?_
            refine r_iload (pc' := 107) (i := 4) C 2 rfl dX11_on_105 rfl ?_
            refine r_if_eq (pc' := 110) (tgt := 120) C ww_n0 hf dX11_on_107 (by decide) rfl (fun hf => ?_) (fun hf => ?_)
            · refine r_iload (pc' := 122) (i := 6) C 0 rfl dX11_on_120 rfl ?_
              refine r_if_eq (pc' := 125) (tgt := 145) C ww_n0 hf dX11_on_122 (by decide) rfl (fun hf => ?_) (fun hf => ?_)
              · refine r_aload_n (pc' := 146) (f4 := 0) (i := 0) C 4 rfl rfl dX11_on_145 rfl ?_
                refine q_getP (pc' := 149) (j := 2) C (K_0 hF) fb_11_2 (by decide) wd_313 (Or.inl rfl) (F_0_2 hF) (by decide) dX11_on_146 rfl ?_
                obtain ⟨q3, hq3, hf⟩ := bind_in hf
                refine q_callV (pc' := 152) C (t_xw_bearing hF lit_W_99 hq3) rfl (K_99 hF) cl_10 wv_RX11_173 ⟨Nat.le_of_ble_eq_true rfl, Nat.le_of_ble_eq_true rfl⟩ rfl rfl (Nat.le_of_ble_eq_true rfl) dX11_on_149 rfl ⟨Nat.le_of_ble_eq_true rfl, Nat.le_of_ble_eq_true rfl⟩ ?_
                cases hf
                exact r_iret C dX11_on_152
              · refine r_aload_n (pc' := 126) (f4 := 0) (i := 0) C 4 rfl rfl dX11_on_125 rfl ?_
                refine q_getP (pc' := 129) (j := 2) C (K_0 hF) fb_11_2 (by decide) wd_313 (Or.inl rfl) (F_0_2 hF) (by decide) dX11_on_126 rfl ?_
                refine q_getP (pc' := 132) (j := 2) C (K_99 hF) fb_10_2 (by decide) wd_180 (Or.inl rfl) (F_99_2 hF) (by decide) dX11_on_129 rfl ?_
                refine r_iload (pc' := 134) (i := 5) C 1 rfl dX11_on_132 rfl ?_
                refine r_iconst (pc' := 135) C dX11_on_134 rfl ?_
                refine r_idiv (pc' := 136) C ww_n5 (by decide) dX11_on_135 rfl ?_
                obtain ⟨hi4, hf⟩ := ck_in hf
                refine r_aaldP (pc' := 137) (t := 3) C (K_102 hF) (by decide) (by decide) (by decide) (by decide) rfl rfl hi4 (FL102 hF hi4) (Int.add_nonneg (by decide) (hi4).1) dX11_on_136 rfl ?_
                refine r_iload (pc' := 139) (i := 5) C 1 rfl dX11_on_137 rfl ?_
                refine r_iconst (pc' := 140) C dX11_on_139 rfl ?_
                refine r_irem (pc' := 141) C ww_n5 (by decide) dX11_on_140 rfl ?_
                obtain ⟨hi, hf⟩ := ck_in hf
                refine r_iald (pc' := 142) C (KL102 hF hi4) rfl hi dX11_on_141 rfl ?_
                refine r_goto (tgt := 152) C dX11_on_142 (by decide) ?_
                cases hf
                exact r_iret C dX11_on_152
            · refine r_aload_n (pc' := 111) (f4 := 0) (i := 0) C 4 rfl rfl dX11_on_110 rfl ?_
              refine q_getP (pc' := 114) (j := 2) C (K_0 hF) fb_11_2 (by decide) wd_313 (Or.inl rfl) (F_0_2 hF) (by decide) dX11_on_111 rfl ?_
              refine q_getP (pc' := 117) (j := 5) C (K_99 hF) fb_10_5 (by decide) wd_187 (Or.inl rfl) (F_99_5 hF) (by decide) dX11_on_114 rfl ?_
              refine r_iload_n (pc' := 118) (f4 := 3) (i := 3) C 3 rfl rfl dX11_on_117 rfl ?_
              obtain ⟨hi, hf⟩ := ck_in hf
              refine r_iald (pc' := 119) C (K_116 hF) rfl hi dX11_on_118 rfl ?_
              cases hf
              exact r_iret C dX11_on_119
        · refine r_iload (pc' := 66) (i := 4) C 2 rfl dX11_on_64 rfl ?_
          refine r_if_ne (pc' := 69) (tgt := 76) C ww_n0 hf dX11_on_66 (by decide) rfl (fun hf => ?_) (fun hf => ?_)
          · refine r_iload (pc' := 71) (i := 6) C 0 rfl dX11_on_69 rfl ?_
            refine r_if_ne (pc' := 74) (tgt := 76) C ww_n0 hf dX11_on_71 (by decide) rfl (fun hf => ?_) (fun hf => ?_)
            · refine r_iconst (pc' := 75) C dX11_on_74 rfl ?_
              cases hf
              exact r_iret C dX11_on_75
            · refine r_iload_n (pc' := 77) (f4 := 1) (i := 1) C 5 rfl rfl dX11_on_76 rfl ?_
              refine q_callS (pc' := 80) C (t_x_isYears hF) rfl ws_RX11_191 ⟨Nat.le_of_ble_eq_true rfl, Nat.le_of_ble_eq_true rfl⟩ rfl rfl (Nat.le_of_ble_eq_true rfl) dX11_on_77 rfl ⟨Nat.le_of_ble_eq_true rfl, Nat.le_of_ble_eq_true rfl⟩ ?_
              refine r_if_ne (pc' := 83) (tgt := 86) C rfl hf dX11_on_80 (by decide) rfl (fun hf => ?_) (fun hf => ?_)
              · refine r_bipush (pc' := 85) C rfl dX11_on_83 rfl ?_
                cases hf
                exact r_iret C dX11_on_85
              · refine r_aload_n (pc' := 87) (f4 := 0) (i := 0) C 4 rfl rfl dX11_on_86 rfl ?_
                refine q_getP (pc' := 90) (j := 2) C (K_0 hF) fb_11_2 (by decide) wd_313 (Or.inl rfl) (F_0_2 hF) (by decide) dX11_on_87 rfl ?_
                refine r_aload_n (pc' := 91) (f4 := 0) (i := 0) C 4 rfl rfl dX11_on_90 rfl ?_
                refine q_getP (pc' := 94) (j := 0) C (K_0 hF) fb_11_0 (by decide) wd_311 (Or.inl rfl) (F_0_0 hF) (by decide) dX11_on_91 rfl ?_
                obtain ⟨q5, hq5, hf⟩ := bind_in hf
                refine q_callVv (pc' := 97) C (t_xw_goFrom hF lit_W_99 lit_W_1 hq5) rfl (K_99 hF) cl_10 wv_RX11_198 ⟨Nat.le_of_ble_eq_true rfl, Nat.le_of_ble_eq_true rfl⟩ rfl rfl (Nat.le_of_ble_eq_true rfl) dX11_on_94 rfl ⟨Nat.le_of_ble_eq_true rfl, Nat.le_of_ble_eq_true rfl⟩ ?_
                refine r_aload_n (pc' := 98) (f4 := 0) (i := 0) C 4 rfl rfl dX11_on_97 rfl ?_
                refine q_getP (pc' := 101) (j := 2) C (K_0 hF) fb_11_2 (by decide) wd_313 (Or.inl rfl) (F_0_2 hF) (by decide) dX11_on_98 rfl ?_
                refine r_iload_n (pc' := 102) (f4 := 1) (i := 1) C 5 rfl rfl dX11_on_101 rfl ?_
                obtain ⟨q6, hq6, hf⟩ := bind_in hf
                refine q_callVv (pc' := 105) C (t_xw_goYears hF lit_W_99 hq6) rfl (K_99 hF) cl_10 wv_RX11_194 ⟨Nat.le_of_ble_eq_true rfl, Nat.le_of_ble_eq_true rfl⟩ rfl rfl (Nat.le_of_ble_eq_true rfl) dX11_on_102 rfl ⟨Nat.le_of_ble_eq_true rfl, Nat.le_of_ble_eq_true rfl⟩ ?_
                refine r_iload (pc' := 107) (i := 4) C 2 rfl dX11_on_105 rfl ?_
                refine r_if_eq (pc' := 110) (tgt := 120) C ww_n0 hf dX11_on_107 (by decide) rfl (fun hf => ?_) (fun hf => ?_)
                · refine r_iload (pc' := 122) (i := 6) C 0 rfl dX11_on_120 rfl ?_
                  refine r_if_eq (pc' := 125) (tgt := 145) C ww_n0 hf dX11_on_122 (by decide) rfl (fun hf => ?_) (fun hf => ?_)
                  · refine r_aload_n (pc' := 146) (f4 := 0) (i := 0) C 4 rfl rfl dX11_on_145 rfl ?_
                    refine q_getP (pc' := 149) (j := 2) C (K_0 hF) fb_11_2 (by decide) wd_313 (Or.inl rfl) (F_0_2 hF) (by decide) dX11_on_146 rfl ?_
                    obtain ⟨q7, hq7, hf⟩ := bind_in hf
                    refine q_callV (pc' := 152) C (t_xw_bearing hF lit_W_99 hq7) rfl (K_99 hF) cl_10 wv_RX11_173 ⟨Nat.le_of_ble_eq_true rfl, Nat.le_of_ble_eq_true rfl⟩ rfl rfl (Nat.le_of_ble_eq_true rfl) dX11_on_149 rfl ⟨Nat.le_of_ble_eq_true rfl, Nat.le_of_ble_eq_true rfl⟩ ?_
                    cases hf
                    exact r_iret C dX11_on_152
                  · refine r_aload_n (pc' := 126) (f4 := 0) (i := 0) C 4 rfl rfl dX11_on_125 rfl ?_
                    refine q_getP (pc' := 129) (j := 2) C (K_0 hF) fb_11_2 (by decide) wd_313 (Or.inl rfl) (F_0_2 hF) (by decide) dX11_on_126 rfl ?_
                    refine q_getP (pc' := 132) (j := 2) C (K_99 hF) fb_10_2 (by decide) wd_180 (Or.inl rfl) (F_99_2 hF) (by decide) dX11_on_129 rfl ?_
                    refine r_iload (pc' := 134) (i := 5) C 1 rfl dX11_on_132 rfl ?_
                    refine r_iconst (pc' := 135) C dX11_on_134 rfl ?_
                    refine r_idiv (pc' := 136) C ww_n5 (by decide) dX11_on_135 rfl ?_
                    obtain ⟨hi8, hf⟩ := ck_in hf
                    refine r_aaldP (pc' := 137) (t := 3) C (K_102 hF) (by decide) (by decide) (by decide) (by decide) rfl rfl hi8 (FL102 hF hi8) (Int.add_nonneg (by decide) (hi8).1) dX11_on_136 rfl ?_
                    refine r_iload (pc' := 139) (i := 5) C 1 rfl dX11_on_137 rfl ?_
                    refine r_iconst (pc' := 140) C dX11_on_139 rfl ?_
                    refine r_irem (pc' := 141) C ww_n5 (by decide) dX11_on_140 rfl ?_
                    obtain ⟨hi, hf⟩ := ck_in hf
                    refine r_iald (pc' := 142) C (KL102 hF hi8) rfl hi dX11_on_141 rfl ?_
                    refine r_goto (tgt := 152) C dX11_on_142 (by decide) ?_
                    cases hf
                    exact r_iret C dX11_on_152
                · refine r_aload_n (pc' := 111) (f4 := 0) (i := 0) C 4 rfl rfl dX11_on_110 rfl ?_
                  refine q_getP (pc' := 114) (j := 2) C (K_0 hF) fb_11_2 (by decide) wd_313 (Or.inl rfl) (F_0_2 hF) (by decide) dX11_on_111 rfl ?_
                  refine q_getP (pc' := 117) (j := 5) C (K_99 hF) fb_10_5 (by decide) wd_187 (Or.inl rfl) (F_99_5 hF) (by decide) dX11_on_114 rfl ?_
                  refine r_iload_n (pc' := 118) (f4 := 3) (i := 3) C 3 rfl rfl dX11_on_117 rfl ?_
                  obtain ⟨hi, hf⟩ := ck_in hf
                  refine r_iald (pc' := 119) C (K_116 hF) rfl hi dX11_on_118 rfl ?_
                  cases hf
                  exact r_iret C dX11_on_119
          · refine r_iload_n (pc' := 77) (f4 := 1) (i := 1) C 5 rfl rfl dX11_on_76 rfl ?_
            refine q_callS (pc' := 80) C (t_x_isYears hF) rfl ws_RX11_191 ⟨Nat.le_of_ble_eq_true rfl, Nat.le_of_ble_eq_true rfl⟩ rfl rfl (Nat.le_of_ble_eq_true rfl) dX11_on_77 rfl ⟨Nat.le_of_ble_eq_true rfl, Nat.le_of_ble_eq_true rfl⟩ ?_
            refine r_if_ne (pc' := 83) (tgt := 86) C rfl hf dX11_on_80 (by decide) rfl (fun hf => ?_) (fun hf => ?_)
            · refine r_bipush (pc' := 85) C rfl dX11_on_83 rfl ?_
              cases hf
              exact r_iret C dX11_on_85
            · refine r_aload_n (pc' := 87) (f4 := 0) (i := 0) C 4 rfl rfl dX11_on_86 rfl ?_
              refine q_getP (pc' := 90) (j := 2) C (K_0 hF) fb_11_2 (by decide) wd_313 (Or.inl rfl) (F_0_2 hF) (by decide) dX11_on_87 rfl ?_
              refine r_aload_n (pc' := 91) (f4 := 0) (i := 0) C 4 rfl rfl dX11_on_90 rfl ?_
              refine q_getP (pc' := 94) (j := 0) C (K_0 hF) fb_11_0 (by decide) wd_311 (Or.inl rfl) (F_0_0 hF) (by decide) dX11_on_91 rfl ?_
              obtain ⟨q9, hq9, hf⟩ := bind_in hf
              refine q_callVv (pc' := 97) C (t_xw_goFrom hF lit_W_99 lit_W_1 hq9) rfl (K_99 hF) cl_10 wv_RX11_198 ⟨Nat.le_of_ble_eq_true rfl, Nat.le_of_ble_eq_true rfl⟩ rfl rfl (Nat.le_of_ble_eq_true rfl) dX11_on_94 rfl ⟨Nat.le_of_ble_eq_true rfl, Nat.le_of_ble_eq_true rfl⟩ ?_
              refine r_aload_n (pc' := 98) (f4 := 0) (i := 0) C 4 rfl rfl dX11_on_97 rfl ?_
              refine q_getP (pc' := 101) (j := 2) C (K_0 hF) fb_11_2 (by decide) wd_313 (Or.inl rfl) (F_0_2 hF) (by decide) dX11_on_98 rfl ?_
              refine r_iload_n (pc' := 102) (f4 := 1) (i := 1) C 5 rfl rfl dX11_on_101 rfl ?_
              obtain ⟨q10, hq10, hf⟩ := bind_in hf
              refine q_callVv (pc' := 105) C (t_xw_goYears hF lit_W_99 hq10) rfl (K_99 hF) cl_10 wv_RX11_194 ⟨Nat.le_of_ble_eq_true rfl, Nat.le_of_ble_eq_true rfl⟩ rfl rfl (Nat.le_of_ble_eq_true rfl) dX11_on_102 rfl ⟨Nat.le_of_ble_eq_true rfl, Nat.le_of_ble_eq_true rfl⟩ ?_
              refine r_iload (pc' := 107) (i := 4) C 2 rfl dX11_on_105 rfl ?_
              refine r_if_eq (pc' := 110) (tgt := 120) C ww_n0 hf dX11_on_107 (by decide) rfl (fun hf => ?_) (fun hf => ?_)
              · refine r_iload (pc' := 122) (i := 6) C 0 rfl dX11_on_120 rfl ?_
                refine r_if_eq (pc' := 125) (tgt := 145) C ww_n0 hf dX11_on_122 (by decide) rfl (fun hf => ?_) (fun hf => ?_)
                · refine r_aload_n (pc' := 146) (f4 := 0) (i := 0) C 4 rfl rfl dX11_on_145 rfl ?_
                  refine q_getP (pc' := 149) (j := 2) C (K_0 hF) fb_11_2 (by decide) wd_313 (Or.inl rfl) (F_0_2 hF) (by decide) dX11_on_146 rfl ?_
                  obtain ⟨q11, hq11, hf⟩ := bind_in hf
                  refine q_callV (pc' := 152) C (t_xw_bearing hF lit_W_99 hq11) rfl (K_99 hF) cl_10 wv_RX11_173 ⟨Nat.le_of_ble_eq_true rfl, Nat.le_of_ble_eq_true rfl⟩ rfl rfl (Nat.le_of_ble_eq_true rfl) dX11_on_149 rfl ⟨Nat.le_of_ble_eq_true rfl, Nat.le_of_ble_eq_true rfl⟩ ?_
                  cases hf
                  exact r_iret C dX11_on_152
                · refine r_aload_n (pc' := 126) (f4 := 0) (i := 0) C 4 rfl rfl dX11_on_125 rfl ?_
                  refine q_getP (pc' := 129) (j := 2) C (K_0 hF) fb_11_2 (by decide) wd_313 (Or.inl rfl) (F_0_2 hF) (by decide) dX11_on_126 rfl ?_
                  refine q_getP (pc' := 132) (j := 2) C (K_99 hF) fb_10_2 (by decide) wd_180 (Or.inl rfl) (F_99_2 hF) (by decide) dX11_on_129 rfl ?_
                  refine r_iload (pc' := 134) (i := 5) C 1 rfl dX11_on_132 rfl ?_
                  refine r_iconst (pc' := 135) C dX11_on_134 rfl ?_
                  refine r_idiv (pc' := 136) C ww_n5 (by decide) dX11_on_135 rfl ?_
                  obtain ⟨hi12, hf⟩ := ck_in hf
                  refine r_aaldP (pc' := 137) (t := 3) C (K_102 hF) (by decide) (by decide) (by decide) (by decide) rfl rfl hi12 (FL102 hF hi12) (Int.add_nonneg (by decide) (hi12).1) dX11_on_136 rfl ?_
                  refine r_iload (pc' := 139) (i := 5) C 1 rfl dX11_on_137 rfl ?_
                  refine r_iconst (pc' := 140) C dX11_on_139 rfl ?_
                  refine r_irem (pc' := 141) C ww_n5 (by decide) dX11_on_140 rfl ?_
                  obtain ⟨hi, hf⟩ := ck_in hf
                  refine r_iald (pc' := 142) C (KL102 hF hi12) rfl hi dX11_on_141 rfl ?_
                  refine r_goto (tgt := 152) C dX11_on_142 (by decide) ?_
                  cases hf
                  exact r_iret C dX11_on_152
              · refine r_aload_n (pc' := 111) (f4 := 0) (i := 0) C 4 rfl rfl dX11_on_110 rfl ?_
                refine q_getP (pc' := 114) (j := 2) C (K_0 hF) fb_11_2 (by decide) wd_313 (Or.inl rfl) (F_0_2 hF) (by decide) dX11_on_111 rfl ?_
                refine q_getP (pc' := 117) (j := 5) C (K_99 hF) fb_10_5 (by decide) wd_187 (Or.inl rfl) (F_99_5 hF) (by decide) dX11_on_114 rfl ?_
                refine r_iload_n (pc' := 118) (f4 := 3) (i := 3) C 3 rfl rfl dX11_on_117 rfl ?_
                obtain ⟨hi, hf⟩ := ck_in hf
                refine r_iald (pc' := 119) C (K_116 hF) rfl hi dX11_on_118 rfl ?_
                cases hf
                exact r_iret C dX11_on_119
      · refine r_aload_n (pc' := 40) (f4 := 0) (i := 0) C 3 rfl rfl dX11_on_39 rfl ?_
        refine q_getP (pc' := 43) (j := 0) C (K_0 hF) fb_11_0 (by decide) wd_311 (Or.inl rfl) (F_0_0 hF) (by decide) dX11_on_40 rfl ?_
        refine r_iload (pc' := 45) (i := 5) C 0 rfl dX11_on_43 rfl ?_
        refine r_iconst (pc' := 46) C dX11_on_45 rfl ?_
        refine r_idiv (pc' := 47) C ww_n5 (by decide) dX11_on_46 rfl ?_
        refine q_callV (pc' := 50) C (t_xw_has hF lit_W_1) rfl (K_1 hF) cl_10 wv_RX11_87 ⟨Nat.le_of_ble_eq_true rfl, Nat.le_of_ble_eq_true rfl⟩ rfl rfl (Nat.le_of_ble_eq_true rfl) dX11_on_47 rfl ⟨Nat.le_of_ble_eq_true rfl, Nat.le_of_ble_eq_true rfl⟩ ?_
        refine r_if_eq (pc' := 53) (tgt := 57) C rfl hf dX11_on_50 (by decide) rfl (fun hf => ?_) (fun hf => ?_)
        · refine r_iconst (pc' := 58) C dX11_on_57 rfl ?_
          refine r_istore (pc' := 60) (i := 6) (L' := [(6, zI 0), (5, zI (a2 - 20)), (4, zI 0), (3, zI (zrem a2 10)), (0, zP bs 0), (1, zI a1), (2, zI a2)]) C (by decide) rfl dX11_on_58 rfl ?_
          refine r_iload_n (pc' := 61) (f4 := 2) (i := 2) C 6 rfl rfl dX11_on_60 rfl ?_
          refine r_if_eq (pc' := 64) (tgt := 76) C rfl hf dX11_on_61 (by decide) rfl (fun hf => ?_) (fun hf => ?_)
          · refine r_iload_n (pc' := 77) (f4 := 1) (i := 1) C 5 rfl rfl dX11_on_76 rfl ?_
            refine q_callS (pc' := 80) C (t_x_isYears hF) rfl ws_RX11_191 ⟨Nat.le_of_ble_eq_true rfl, Nat.le_of_ble_eq_true rfl⟩ rfl rfl (Nat.le_of_ble_eq_true rfl) dX11_on_77 rfl ⟨Nat.le_of_ble_eq_true rfl, Nat.le_of_ble_eq_true rfl⟩ ?_
            refine r_if_ne (pc' := 83) (tgt := 86) C rfl hf dX11_on_80 (by decide) rfl (fun hf => ?_) (fun hf => ?_)
            · refine r_bipush (pc' := 85) C rfl dX11_on_83 rfl ?_
              cases hf
              exact r_iret C dX11_on_85
            · refine r_aload_n (pc' := 87) (f4 := 0) (i := 0) C 4 rfl rfl dX11_on_86 rfl ?_
              refine q_getP (pc' := 90) (j := 2) C (K_0 hF) fb_11_2 (by decide) wd_313 (Or.inl rfl) (F_0_2 hF) (by decide) dX11_on_87 rfl ?_
              refine r_aload_n (pc' := 91) (f4 := 0) (i := 0) C 4 rfl rfl dX11_on_90 rfl ?_
              refine q_getP (pc' := 94) (j := 0) C (K_0 hF) fb_11_0 (by decide) wd_311 (Or.inl rfl) (F_0_0 hF) (by decide) dX11_on_91 rfl ?_
              obtain ⟨q13, hq13, hf⟩ := bind_in hf
              refine q_callVv (pc' := 97) C (t_xw_goFrom hF lit_W_99 lit_W_1 hq13) rfl (K_99 hF) cl_10 wv_RX11_198 ⟨Nat.le_of_ble_eq_true rfl, Nat.le_of_ble_eq_true rfl⟩ rfl rfl (Nat.le_of_ble_eq_true rfl) dX11_on_94 rfl ⟨Nat.le_of_ble_eq_true rfl, Nat.le_of_ble_eq_true rfl⟩ ?_
              refine r_aload_n (pc' := 98) (f4 := 0) (i := 0) C 4 rfl rfl dX11_on_97 rfl ?_
              refine q_getP (pc' := 101) (j := 2) C (K_0 hF) fb_11_2 (by decide) wd_313 (Or.inl rfl) (F_0_2 hF) (by decide) dX11_on_98 rfl ?_
              refine r_iload_n (pc' := 102) (f4 := 1) (i := 1) C 5 rfl rfl dX11_on_101 rfl ?_
              obtain ⟨q14, hq14, hf⟩ := bind_in hf
              refine q_callVv (pc' := 105) C (t_xw_goYears hF lit_W_99 hq14) rfl (K_99 hF) cl_10 wv_RX11_194 ⟨Nat.le_of_ble_eq_true rfl, Nat.le_of_ble_eq_true rfl⟩ rfl rfl (Nat.le_of_ble_eq_true rfl) dX11_on_102 rfl ⟨Nat.le_of_ble_eq_true rfl, Nat.le_of_ble_eq_true rfl⟩ ?_
              refine r_iload (pc' := 107) (i := 4) C 2 rfl dX11_on_105 rfl ?_
              refine r_if_eq (pc' := 110) (tgt := 120) C ww_n0 hf dX11_on_107 (by decide) rfl (fun hf => ?_) (fun hf => ?_)
              · refine r_iload (pc' := 122) (i := 6) C 0 rfl dX11_on_120 rfl ?_
                refine r_if_eq (pc' := 125) (tgt := 145) C ww_n0 hf dX11_on_122 (by decide) rfl (fun hf => ?_) (fun hf => ?_)
                · refine r_aload_n (pc' := 146) (f4 := 0) (i := 0) C 4 rfl rfl dX11_on_145 rfl ?_
                  refine q_getP (pc' := 149) (j := 2) C (K_0 hF) fb_11_2 (by decide) wd_313 (Or.inl rfl) (F_0_2 hF) (by decide) dX11_on_146 rfl ?_
                  obtain ⟨q15, hq15, hf⟩ := bind_in hf
                  refine q_callV (pc' := 152) C (t_xw_bearing hF lit_W_99 hq15) rfl (K_99 hF) cl_10 wv_RX11_173 ⟨Nat.le_of_ble_eq_true rfl, Nat.le_of_ble_eq_true rfl⟩ rfl rfl (Nat.le_of_ble_eq_true rfl) dX11_on_149 rfl ⟨Nat.le_of_ble_eq_true rfl, Nat.le_of_ble_eq_true rfl⟩ ?_
                  cases hf
                  exact r_iret C dX11_on_152
                · refine r_aload_n (pc' := 126) (f4 := 0) (i := 0) C 4 rfl rfl dX11_on_125 rfl ?_
                  refine q_getP (pc' := 129) (j := 2) C (K_0 hF) fb_11_2 (by decide) wd_313 (Or.inl rfl) (F_0_2 hF) (by decide) dX11_on_126 rfl ?_
                  refine q_getP (pc' := 132) (j := 2) C (K_99 hF) fb_10_2 (by decide) wd_180 (Or.inl rfl) (F_99_2 hF) (by decide) dX11_on_129 rfl ?_
                  refine r_iload (pc' := 134) (i := 5) C 1 rfl dX11_on_132 rfl ?_
                  refine r_iconst (pc' := 135) C dX11_on_134 rfl ?_
                  refine r_idiv (pc' := 136) C ww_n5 (by decide) dX11_on_135 rfl ?_
                  obtain ⟨hi16, hf⟩ := ck_in hf
                  refine r_aaldP (pc' := 137) (t := 3) C (K_102 hF) (by decide) (by decide) (by decide) (by decide) rfl rfl hi16 (FL102 hF hi16) (Int.add_nonneg (by decide) (hi16).1) dX11_on_136 rfl ?_
                  refine r_iload (pc' := 139) (i := 5) C 1 rfl dX11_on_137 rfl ?_
                  refine r_iconst (pc' := 140) C dX11_on_139 rfl ?_
                  refine r_irem (pc' := 141) C ww_n5 (by decide) dX11_on_140 rfl ?_
                  obtain ⟨hi, hf⟩ := ck_in hf
                  refine r_iald (pc' := 142) C (KL102 hF hi16) rfl hi dX11_on_141 rfl ?_
                  refine r_goto (tgt := 152) C dX11_on_142 (by decide) ?_
                  cases hf
                  exact r_iret C dX11_on_152
              · refine r_aload_n (pc' := 111) (f4 := 0) (i := 0) C 4 rfl rfl dX11_on_110 rfl ?_
                refine q_getP (pc' := 114) (j := 2) C (K_0 hF) fb_11_2 (by decide) wd_313 (Or.inl rfl) (F_0_2 hF) (by decide) dX11_on_111 rfl ?_
                refine q_getP (pc' := 117) (j := 5) C (K_99 hF) fb_10_5 (by decide) wd_187 (Or.inl rfl) (F_99_5 hF) (by decide) dX11_on_114 rfl ?_
                refine r_iload_n (pc' := 118) (f4 := 3) (i := 3) C 3 rfl rfl dX11_on_117 rfl ?_
                obtain ⟨hi, hf⟩ := ck_in hf
                refine r_iald (pc' := 119) C (K_116 hF) rfl hi dX11_on_118 rfl ?_
                cases hf
                exact r_iret C dX11_on_119
          · refine r_iload (pc' := 66) (i := 4) C 2 rfl dX11_on_64 rfl ?_
            refine r_if_ne (pc' := 69) (tgt := 76) C ww_n0 hf dX11_on_66 (by decide) rfl (fun hf => ?_) (fun hf => ?_)
            · refine r_iload (pc' := 71) (i := 6) C 0 rfl dX11_on_69 rfl ?_
              refine r_if_ne (pc' := 74) (tgt := 76) C ww_n0 hf dX11_on_71 (by decide) rfl (fun hf => ?_) (fun hf => ?_)
              · refine r_iconst (pc' := 75) C dX11_on_74 rfl ?_
                cases hf
                exact r_iret C dX11_on_75
              · refine r_iload_n (pc' := 77) (f4 := 1) (i := 1) C 5 rfl rfl dX11_on_76 rfl ?_
                refine q_callS (pc' := 80) C (t_x_isYears hF) rfl ws_RX11_191 ⟨Nat.le_of_ble_eq_true rfl, Nat.le_of_ble_eq_true rfl⟩ rfl rfl (Nat.le_of_ble_eq_true rfl) dX11_on_77 rfl ⟨Nat.le_of_ble_eq_true rfl, Nat.le_of_ble_eq_true rfl⟩ ?_
                refine r_if_ne (pc' := 83) (tgt := 86) C rfl hf dX11_on_80 (by decide) rfl (fun hf => ?_) (fun hf => ?_)
                · refine r_bipush (pc' := 85) C rfl dX11_on_83 rfl ?_
                  cases hf
                  exact r_iret C dX11_on_85
                · refine r_aload_n (pc' := 87) (f4 := 0) (i := 0) C 4 rfl rfl dX11_on_86 rfl ?_
                  refine q_getP (pc' := 90) (j := 2) C (K_0 hF) fb_11_2 (by decide) wd_313 (Or.inl rfl) (F_0_2 hF) (by decide) dX11_on_87 rfl ?_
                  refine r_aload_n (pc' := 91) (f4 := 0) (i := 0) C 4 rfl rfl dX11_on_90 rfl ?_
                  refine q_getP (pc' := 94) (j := 0) C (K_0 hF) fb_11_0 (by decide) wd_311 (Or.inl rfl) (F_0_0 hF) (by decide) dX11_on_91 rfl ?_
                  obtain ⟨q17, hq17, hf⟩ := bind_in hf
                  refine q_callVv (pc' := 97) C (t_xw_goFrom hF lit_W_99 lit_W_1 hq17) rfl (K_99 hF) cl_10 wv_RX11_198 ⟨Nat.le_of_ble_eq_true rfl, Nat.le_of_ble_eq_true rfl⟩ rfl rfl (Nat.le_of_ble_eq_true rfl) dX11_on_94 rfl ⟨Nat.le_of_ble_eq_true rfl, Nat.le_of_ble_eq_true rfl⟩ ?_
                  refine r_aload_n (pc' := 98) (f4 := 0) (i := 0) C 4 rfl rfl dX11_on_97 rfl ?_
                  refine q_getP (pc' := 101) (j := 2) C (K_0 hF) fb_11_2 (by decide) wd_313 (Or.inl rfl) (F_0_2 hF) (by decide) dX11_on_98 rfl ?_
                  refine r_iload_n (pc' := 102) (f4 := 1) (i := 1) C 5 rfl rfl dX11_on_101 rfl ?_
                  obtain ⟨q18, hq18, hf⟩ := bind_in hf
                  refine q_callVv (pc' := 105) C (t_xw_goYears hF lit_W_99 hq18) rfl (K_99 hF) cl_10 wv_RX11_194 ⟨Nat.le_of_ble_eq_true rfl, Nat.le_of_ble_eq_true rfl⟩ rfl rfl (Nat.le_of_ble_eq_true rfl) dX11_on_102 rfl ⟨Nat.le_of_ble_eq_true rfl, Nat.le_of_ble_eq_true rfl⟩ ?_
                  refine r_iload (pc' := 107) (i := 4) C 2 rfl dX11_on_105 rfl ?_
                  refine r_if_eq (pc' := 110) (tgt := 120) C ww_n0 hf dX11_on_107 (by decide) rfl (fun hf => ?_) (fun hf => ?_)
                  · refine r_iload (pc' := 122) (i := 6) C 0 rfl dX11_on_120 rfl ?_
                    refine r_if_eq (pc' := 125) (tgt := 145) C ww_n0 hf dX11_on_122 (by decide) rfl (fun hf => ?_) (fun hf => ?_)
                    · refine r_aload_n (pc' := 146) (f4 := 0) (i := 0) C 4 rfl rfl dX11_on_145 rfl ?_
                      refine q_getP (pc' := 149) (j := 2) C (K_0 hF) fb_11_2 (by decide) wd_313 (Or.inl rfl) (F_0_2 hF) (by decide) dX11_on_146 rfl ?_
                      obtain ⟨q19, hq19, hf⟩ := bind_in hf
                      refine q_callV (pc' := 152) C (t_xw_bearing hF lit_W_99 hq19) rfl (K_99 hF) cl_10 wv_RX11_173 ⟨Nat.le_of_ble_eq_true rfl, Nat.le_of_ble_eq_true rfl⟩ rfl rfl (Nat.le_of_ble_eq_true rfl) dX11_on_149 rfl ⟨Nat.le_of_ble_eq_true rfl, Nat.le_of_ble_eq_true rfl⟩ ?_
                      cases hf
                      exact r_iret C dX11_on_152
                    · refine r_aload_n (pc' := 126) (f4 := 0) (i := 0) C 4 rfl rfl dX11_on_125 rfl ?_
                      refine q_getP (pc' := 129) (j := 2) C (K_0 hF) fb_11_2 (by decide) wd_313 (Or.inl rfl) (F_0_2 hF) (by decide) dX11_on_126 rfl ?_
                      refine q_getP (pc' := 132) (j := 2) C (K_99 hF) fb_10_2 (by decide) wd_180 (Or.inl rfl) (F_99_2 hF) (by decide) dX11_on_129 rfl ?_
                      refine r_iload (pc' := 134) (i := 5) C 1 rfl dX11_on_132 rfl ?_
                      refine r_iconst (pc' := 135) C dX11_on_134 rfl ?_
                      refine r_idiv (pc' := 136) C ww_n5 (by decide) dX11_on_135 rfl ?_
                      obtain ⟨hi20, hf⟩ := ck_in hf
                      refine r_aaldP (pc' := 137) (t := 3) C (K_102 hF) (by decide) (by decide) (by decide) (by decide) rfl rfl hi20 (FL102 hF hi20) (Int.add_nonneg (by decide) (hi20).1) dX11_on_136 rfl ?_
                      refine r_iload (pc' := 139) (i := 5) C 1 rfl dX11_on_137 rfl ?_
                      refine r_iconst (pc' := 140) C dX11_on_139 rfl ?_
                      refine r_irem (pc' := 141) C ww_n5 (by decide) dX11_on_140 rfl ?_
                      obtain ⟨hi, hf⟩ := ck_in hf
                      refine r_iald (pc' := 142) C (KL102 hF hi20) rfl hi dX11_on_141 rfl ?_
                      refine r_goto (tgt := 152) C dX11_on_142 (by decide) ?_
                      cases hf
                      exact r_iret C dX11_on_152
                  · refine r_aload_n (pc' := 111) (f4 := 0) (i := 0) C 4 rfl rfl dX11_on_110 rfl ?_
                    refine q_getP (pc' := 114) (j := 2) C (K_0 hF) fb_11_2 (by decide) wd_313 (Or.inl rfl) (F_0_2 hF) (by decide) dX11_on_111 rfl ?_
                    refine q_getP (pc' := 117) (j := 5) C (K_99 hF) fb_10_5 (by decide) wd_187 (Or.inl rfl) (F_99_5 hF) (by decide) dX11_on_114 rfl ?_
                    refine r_iload_n (pc' := 118) (f4 := 3) (i := 3) C 3 rfl rfl dX11_on_117 rfl ?_
                    obtain ⟨hi, hf⟩ := ck_in hf
                    refine r_iald (pc' := 119) C (K_116 hF) rfl hi dX11_on_118 rfl ?_
                    cases hf
                    exact r_iret C dX11_on_119
            · refine r_iload_n (pc' := 77) (f4 := 1) (i := 1) C 5 rfl rfl dX11_on_76 rfl ?_
              refine q_callS (pc' := 80) C (t_x_isYears hF) rfl ws_RX11_191 ⟨Nat.le_of_ble_eq_true rfl, Nat.le_of_ble_eq_true rfl⟩ rfl rfl (Nat.le_of_ble_eq_true rfl) dX11_on_77 rfl ⟨Nat.le_of_ble_eq_true rfl, Nat.le_of_ble_eq_true rfl⟩ ?_
              refine r_if_ne (pc' := 83) (tgt := 86) C rfl hf dX11_on_80 (by decide) rfl (fun hf => ?_) (fun hf => ?_)
              · refine r_bipush (pc' := 85) C rfl dX11_on_83 rfl ?_
                cases hf
                exact r_iret C dX11_on_85
              · refine r_aload_n (pc' := 87) (f4 := 0) (i := 0) C 4 rfl rfl dX11_on_86 rfl ?_
                refine q_getP (pc' := 90) (j := 2) C (K_0 hF) fb_11_2 (by decide) wd_313 (Or.inl rfl) (F_0_2 hF) (by decide) dX11_on_87 rfl ?_
                refine r_aload_n (pc' := 91) (f4 := 0) (i := 0) C 4 rfl rfl dX11_on_90 rfl ?_
                refine q_getP (pc' := 94) (j := 0) C (K_0 hF) fb_11_0 (by decide) wd_311 (Or.inl rfl) (F_0_0 hF) (by decide) dX11_on_91 rfl ?_
                obtain ⟨q21, hq21, hf⟩ := bind_in hf
                refine q_callVv (pc' := 97) C (t_xw_goFrom hF lit_W_99 lit_W_1 hq21) rfl (K_99 hF) cl_10 wv_RX11_198 ⟨Nat.le_of_ble_eq_true rfl, Nat.le_of_ble_eq_true rfl⟩ rfl rfl (Nat.le_of_ble_eq_true rfl) dX11_on_94 rfl ⟨Nat.le_of_ble_eq_true rfl, Nat.le_of_ble_eq_true rfl⟩ ?_
                refine r_aload_n (pc' := 98) (f4 := 0) (i := 0) C 4 rfl rfl dX11_on_97 rfl ?_
                refine q_getP (pc' := 101) (j := 2) C (K_0 hF) fb_11_2 (by decide) wd_313 (Or.inl rfl) (F_0_2 hF) (by decide) dX11_on_98 rfl ?_
                refine r_iload_n (pc' := 102) (f4 := 1) (i := 1) C 5 rfl rfl dX11_on_101 rfl ?_
                obtain ⟨q22, hq22, hf⟩ := bind_in hf
                refine q_callVv (pc' := 105) C (t_xw_goYears hF lit_W_99 hq22) rfl (K_99 hF) cl_10 wv_RX11_194 ⟨Nat.le_of_ble_eq_true rfl, Nat.le_of_ble_eq_true rfl⟩ rfl rfl (Nat.le_of_ble_eq_true rfl) dX11_on_102 rfl ⟨Nat.le_of_ble_eq_true rfl, Nat.le_of_ble_eq_true rfl⟩ ?_
                refine r_iload (pc' := 107) (i := 4) C 2 rfl dX11_on_105 rfl ?_
                refine r_if_eq (pc' := 110) (tgt := 120) C ww_n0 hf dX11_on_107 (by decide) rfl (fun hf => ?_) (fun hf => ?_)
                · refine r_iload (pc' := 122) (i := 6) C 0 rfl dX11_on_120 rfl ?_
                  refine r_if_eq (pc' := 125) (tgt := 145) C ww_n0 hf dX11_on_122 (by decide) rfl (fun hf => ?_) (fun hf => ?_)
                  · refine r_aload_n (pc' := 146) (f4 := 0) (i := 0) C 4 rfl rfl dX11_on_145 rfl ?_
                    refine q_getP (pc' := 149) (j := 2) C (K_0 hF) fb_11_2 (by decide) wd_313 (Or.inl rfl) (F_0_2 hF) (by decide) dX11_on_146 rfl ?_
                    obtain ⟨q23, hq23, hf⟩ := bind_in hf
                    refine q_callV (pc' := 152) C (t_xw_bearing hF lit_W_99 hq23) rfl (K_99 hF) cl_10 wv_RX11_173 ⟨Nat.le_of_ble_eq_true rfl, Nat.le_of_ble_eq_true rfl⟩ rfl rfl (Nat.le_of_ble_eq_true rfl) dX11_on_149 rfl ⟨Nat.le_of_ble_eq_true rfl, Nat.le_of_ble_eq_true rfl⟩ ?_
                    cases hf
                    exact r_iret C dX11_on_152
                  · refine r_aload_n (pc' := 126) (f4 := 0) (i := 0) C 4 rfl rfl dX11_on_125 rfl ?_
                    refine q_getP (pc' := 129) (j := 2) C (K_0 hF) fb_11_2 (by decide) wd_313 (Or.inl rfl) (F_0_2 hF) (by decide) dX11_on_126 rfl ?_
                    refine q_getP (pc' := 132) (j := 2) C (K_99 hF) fb_10_2 (by decide) wd_180 (Or.inl rfl) (F_99_2 hF) (by decide) dX11_on_129 rfl ?_
                    refine r_iload (pc' := 134) (i := 5) C 1 rfl dX11_on_132 rfl ?_
                    refine r_iconst (pc' := 135) C dX11_on_134 rfl ?_
                    refine r_idiv (pc' := 136) C ww_n5 (by decide) dX11_on_135 rfl ?_
                    obtain ⟨hi24, hf⟩ := ck_in hf
                    refine r_aaldP (pc' := 137) (t := 3) C (K_102 hF) (by decide) (by decide) (by decide) (by decide) rfl rfl hi24 (FL102 hF hi24) (Int.add_nonneg (by decide) (hi24).1) dX11_on_136 rfl ?_
                    refine r_iload (pc' := 139) (i := 5) C 1 rfl dX11_on_137 rfl ?_
                    refine r_iconst (pc' := 140) C dX11_on_139 rfl ?_
                    refine r_irem (pc' := 141) C ww_n5 (by decide) dX11_on_140 rfl ?_
                    obtain ⟨hi, hf⟩ := ck_in hf
                    refine r_iald (pc' := 142) C (KL102 hF hi24) rfl hi dX11_on_141 rfl ?_
                    refine r_goto (tgt := 152) C dX11_on_142 (by decide) ?_
                    cases hf
                    exact r_iret C dX11_on_152
                · refine r_aload_n (pc' := 111) (f4 := 0) (i := 0) C 4 rfl rfl dX11_on_110 rfl ?_
                  refine q_getP (pc' := 114) (j := 2) C (K_0 hF) fb_11_2 (by decide) wd_313 (Or.inl rfl) (F_0_2 hF) (by decide) dX11_on_111 rfl ?_
                  refine q_getP (pc' := 117) (j := 5) C (K_99 hF) fb_10_5 (by decide) wd_187 (Or.inl rfl) (F_99_5 hF) (by decide) dX11_on_114 rfl ?_
                  refine r_iload_n (pc' := 118) (f4 := 3) (i := 3) C 3 rfl rfl dX11_on_117 rfl ?_
                  obtain ⟨hi, hf⟩ := ck_in hf
                  refine r_iald (pc' := 119) C (K_116 hF) rfl hi dX11_on_118 rfl ?_
                  cases hf
                  exact r_iret C dX11_on_119
        · refine r_iconst (pc' := 54) C dX11_on_53 rfl ?_
          refine r_goto (tgt := 58) C dX11_on_54 (by decide) ?_
          refine r_istore (pc' := 60) (i := 6) (L' := [(6, zI 1), (5, zI (a2 - 20)), (4, zI 0), (3, zI (zrem a2 10)), (0, zP bs 0), (1, zI a1), (2, zI a2)]) C (by decide) rfl dX11_on_58 rfl ?_
          refine r_iload_n (pc' := 61) (f4 := 2) (i := 2) C 6 rfl rfl dX11_on_60 rfl ?_
          refine r_if_eq (pc' := 64) (tgt := 76) C rfl hf dX11_on_61 (by decide) rfl (fun hf => ?_) (fun hf => ?_)
          · refine r_iload_n (pc' := 77) (f4 := 1) (i := 1) C 5 rfl rfl dX11_on_76 rfl ?_
            refine q_callS (pc' := 80) C (t_x_isYears hF) rfl ws_RX11_191 ⟨Nat.le_of_ble_eq_true rfl, Nat.le_of_ble_eq_true rfl⟩ rfl rfl (Nat.le_of_ble_eq_true rfl) dX11_on_77 rfl ⟨Nat.le_of_ble_eq_true rfl, Nat.le_of_ble_eq_true rfl⟩ ?_
            refine r_if_ne (pc' := 83) (tgt := 86) C rfl hf dX11_on_80 (by decide) rfl (fun hf => ?_) (fun hf => ?_)
            · refine r_bipush (pc' := 85) C rfl dX11_on_83 rfl ?_
              cases hf
              exact r_iret C dX11_on_85
            · refine r_aload_n (pc' := 87) (f4 := 0) (i := 0) C 4 rfl rfl dX11_on_86 rfl ?_
              refine q_getP (pc' := 90) (j := 2) C (K_0 hF) fb_11_2 (by decide) wd_313 (Or.inl rfl) (F_0_2 hF) (by decide) dX11_on_87 rfl ?_
              refine r_aload_n (pc' := 91) (f4 := 0) (i := 0) C 4 rfl rfl dX11_on_90 rfl ?_
              refine q_getP (pc' := 94) (j := 0) C (K_0 hF) fb_11_0 (by decide) wd_311 (Or.inl rfl) (F_0_0 hF) (by decide) dX11_on_91 rfl ?_
              obtain ⟨q25, hq25, hf⟩ := bind_in hf
              refine q_callVv (pc' := 97) C (t_xw_goFrom hF lit_W_99 lit_W_1 hq25) rfl (K_99 hF) cl_10 wv_RX11_198 ⟨Nat.le_of_ble_eq_true rfl, Nat.le_of_ble_eq_true rfl⟩ rfl rfl (Nat.le_of_ble_eq_true rfl) dX11_on_94 rfl ⟨Nat.le_of_ble_eq_true rfl, Nat.le_of_ble_eq_true rfl⟩ ?_
              refine r_aload_n (pc' := 98) (f4 := 0) (i := 0) C 4 rfl rfl dX11_on_97 rfl ?_
              refine q_getP (pc' := 101) (j := 2) C (K_0 hF) fb_11_2 (by decide) wd_313 (Or.inl rfl) (F_0_2 hF) (by decide) dX11_on_98 rfl ?_
              refine r_iload_n (pc' := 102) (f4 := 1) (i := 1) C 5 rfl rfl dX11_on_101 rfl ?_
              obtain ⟨q26, hq26, hf⟩ := bind_in hf
              refine q_callVv (pc' := 105) C (t_xw_goYears hF lit_W_99 hq26) rfl (K_99 hF) cl_10 wv_RX11_194 ⟨Nat.le_of_ble_eq_true rfl, Nat.le_of_ble_eq_true rfl⟩ rfl rfl (Nat.le_of_ble_eq_true rfl) dX11_on_102 rfl ⟨Nat.le_of_ble_eq_true rfl, Nat.le_of_ble_eq_true rfl⟩ ?_
              refine r_iload (pc' := 107) (i := 4) C 2 rfl dX11_on_105 rfl ?_
              refine r_if_eq (pc' := 110) (tgt := 120) C ww_n0 hf dX11_on_107 (by decide) rfl (fun hf => ?_) (fun hf => ?_)
              · refine r_iload (pc' := 122) (i := 6) C 0 rfl dX11_on_120 rfl ?_
                refine r_if_eq (pc' := 125) (tgt := 145) C ww_n1 hf dX11_on_122 (by decide) rfl (fun hf => ?_) (fun hf => ?_)
                · refine r_aload_n (pc' := 146) (f4 := 0) (i := 0) C 4 rfl rfl dX11_on_145 rfl ?_
                  refine q_getP (pc' := 149) (j := 2) C (K_0 hF) fb_11_2 (by decide) wd_313 (Or.inl rfl) (F_0_2 hF) (by decide) dX11_on_146 rfl ?_
                  obtain ⟨q27, hq27, hf⟩ := bind_in hf
                  refine q_callV (pc' := 152) C (t_xw_bearing hF lit_W_99 hq27) rfl (K_99 hF) cl_10 wv_RX11_173 ⟨Nat.le_of_ble_eq_true rfl, Nat.le_of_ble_eq_true rfl⟩ rfl rfl (Nat.le_of_ble_eq_true rfl) dX11_on_149 rfl ⟨Nat.le_of_ble_eq_true rfl, Nat.le_of_ble_eq_true rfl⟩ ?_
                  cases hf
                  exact r_iret C dX11_on_152
                · refine r_aload_n (pc' := 126) (f4 := 0) (i := 0) C 4 rfl rfl dX11_on_125 rfl ?_
                  refine q_getP (pc' := 129) (j := 2) C (K_0 hF) fb_11_2 (by decide) wd_313 (Or.inl rfl) (F_0_2 hF) (by decide) dX11_on_126 rfl ?_
                  refine q_getP (pc' := 132) (j := 2) C (K_99 hF) fb_10_2 (by decide) wd_180 (Or.inl rfl) (F_99_2 hF) (by decide) dX11_on_129 rfl ?_
                  refine r_iload (pc' := 134) (i := 5) C 1 rfl dX11_on_132 rfl ?_
                  refine r_iconst (pc' := 135) C dX11_on_134 rfl ?_
                  refine r_idiv (pc' := 136) C ww_n5 (by decide) dX11_on_135 rfl ?_
                  obtain ⟨hi28, hf⟩ := ck_in hf
                  refine r_aaldP (pc' := 137) (t := 3) C (K_102 hF) (by decide) (by decide) (by decide) (by decide) rfl rfl hi28 (FL102 hF hi28) (Int.add_nonneg (by decide) (hi28).1) dX11_on_136 rfl ?_
                  refine r_iload (pc' := 139) (i := 5) C 1 rfl dX11_on_137 rfl ?_
                  refine r_iconst (pc' := 140) C dX11_on_139 rfl ?_
                  refine r_irem (pc' := 141) C ww_n5 (by decide) dX11_on_140 rfl ?_
                  obtain ⟨hi, hf⟩ := ck_in hf
                  refine r_iald (pc' := 142) C (KL102 hF hi28) rfl hi dX11_on_141 rfl ?_
                  refine r_goto (tgt := 152) C dX11_on_142 (by decide) ?_
                  cases hf
                  exact r_iret C dX11_on_152
              · refine r_aload_n (pc' := 111) (f4 := 0) (i := 0) C 4 rfl rfl dX11_on_110 rfl ?_
                refine q_getP (pc' := 114) (j := 2) C (K_0 hF) fb_11_2 (by decide) wd_313 (Or.inl rfl) (F_0_2 hF) (by decide) dX11_on_111 rfl ?_
                refine q_getP (pc' := 117) (j := 5) C (K_99 hF) fb_10_5 (by decide) wd_187 (Or.inl rfl) (F_99_5 hF) (by decide) dX11_on_114 rfl ?_
                refine r_iload_n (pc' := 118) (f4 := 3) (i := 3) C 3 rfl rfl dX11_on_117 rfl ?_
                obtain ⟨hi, hf⟩ := ck_in hf
                refine r_iald (pc' := 119) C (K_116 hF) rfl hi dX11_on_118 rfl ?_
                cases hf
                exact r_iret C dX11_on_119
          · refine r_iload (pc' := 66) (i := 4) C 2 rfl dX11_on_64 rfl ?_
            refine r_if_ne (pc' := 69) (tgt := 76) C ww_n0 hf dX11_on_66 (by decide) rfl (fun hf => ?_) (fun hf => ?_)
            · refine r_iload (pc' := 71) (i := 6) C 0 rfl dX11_on_69 rfl ?_
              refine r_if_ne (pc' := 74) (tgt := 76) C ww_n1 hf dX11_on_71 (by decide) rfl (fun hf => ?_) (fun hf => ?_)
              · refine r_iconst (pc' := 75) C dX11_on_74 rfl ?_
                cases hf
                exact r_iret C dX11_on_75
              · refine r_iload_n (pc' := 77) (f4 := 1) (i := 1) C 5 rfl rfl dX11_on_76 rfl ?_
                refine q_callS (pc' := 80) C (t_x_isYears hF) rfl ws_RX11_191 ⟨Nat.le_of_ble_eq_true rfl, Nat.le_of_ble_eq_true rfl⟩ rfl rfl (Nat.le_of_ble_eq_true rfl) dX11_on_77 rfl ⟨Nat.le_of_ble_eq_true rfl, Nat.le_of_ble_eq_true rfl⟩ ?_
                refine r_if_ne (pc' := 83) (tgt := 86) C rfl hf dX11_on_80 (by decide) rfl (fun hf => ?_) (fun hf => ?_)
                · refine r_bipush (pc' := 85) C rfl dX11_on_83 rfl ?_
                  cases hf
                  exact r_iret C dX11_on_85
                · refine r_aload_n (pc' := 87) (f4 := 0) (i := 0) C 4 rfl rfl dX11_on_86 rfl ?_
                  refine q_getP (pc' := 90) (j := 2) C (K_0 hF) fb_11_2 (by decide) wd_313 (Or.inl rfl) (F_0_2 hF) (by decide) dX11_on_87 rfl ?_
                  refine r_aload_n (pc' := 91) (f4 := 0) (i := 0) C 4 rfl rfl dX11_on_90 rfl ?_
                  refine q_getP (pc' := 94) (j := 0) C (K_0 hF) fb_11_0 (by decide) wd_311 (Or.inl rfl) (F_0_0 hF) (by decide) dX11_on_91 rfl ?_
                  obtain ⟨q29, hq29, hf⟩ := bind_in hf
                  refine q_callVv (pc' := 97) C (t_xw_goFrom hF lit_W_99 lit_W_1 hq29) rfl (K_99 hF) cl_10 wv_RX11_198 ⟨Nat.le_of_ble_eq_true rfl, Nat.le_of_ble_eq_true rfl⟩ rfl rfl (Nat.le_of_ble_eq_true rfl) dX11_on_94 rfl ⟨Nat.le_of_ble_eq_true rfl, Nat.le_of_ble_eq_true rfl⟩ ?_
                  refine r_aload_n (pc' := 98) (f4 := 0) (i := 0) C 4 rfl rfl dX11_on_97 rfl ?_
                  refine q_getP (pc' := 101) (j := 2) C (K_0 hF) fb_11_2 (by decide) wd_313 (Or.inl rfl) (F_0_2 hF) (by decide) dX11_on_98 rfl ?_
                  refine r_iload_n (pc' := 102) (f4 := 1) (i := 1) C 5 rfl rfl dX11_on_101 rfl ?_
                  obtain ⟨q30, hq30, hf⟩ := bind_in hf
                  refine q_callVv (pc' := 105) C (t_xw_goYears hF lit_W_99 hq30) rfl (K_99 hF) cl_10 wv_RX11_194 ⟨Nat.le_of_ble_eq_true rfl, Nat.le_of_ble_eq_true rfl⟩ rfl rfl (Nat.le_of_ble_eq_true rfl) dX11_on_102 rfl ⟨Nat.le_of_ble_eq_true rfl, Nat.le_of_ble_eq_true rfl⟩ ?_
                  refine r_iload (pc' := 107) (i := 4) C 2 rfl dX11_on_105 rfl ?_
                  refine r_if_eq (pc' := 110) (tgt := 120) C ww_n0 hf dX11_on_107 (by decide) rfl (fun hf => ?_) (fun hf => ?_)
                  · refine r_iload (pc' := 122) (i := 6) C 0 rfl dX11_on_120 rfl ?_
                    refine r_if_eq (pc' := 125) (tgt := 145) C ww_n1 hf dX11_on_122 (by decide) rfl (fun hf => ?_) (fun hf => ?_)
                    · refine r_aload_n (pc' := 146) (f4 := 0) (i := 0) C 4 rfl rfl dX11_on_145 rfl ?_
                      refine q_getP (pc' := 149) (j := 2) C (K_0 hF) fb_11_2 (by decide) wd_313 (Or.inl rfl) (F_0_2 hF) (by decide) dX11_on_146 rfl ?_
                      obtain ⟨q31, hq31, hf⟩ := bind_in hf
                      refine q_callV (pc' := 152) C (t_xw_bearing hF lit_W_99 hq31) rfl (K_99 hF) cl_10 wv_RX11_173 ⟨Nat.le_of_ble_eq_true rfl, Nat.le_of_ble_eq_true rfl⟩ rfl rfl (Nat.le_of_ble_eq_true rfl) dX11_on_149 rfl ⟨Nat.le_of_ble_eq_true rfl, Nat.le_of_ble_eq_true rfl⟩ ?_
                      cases hf
                      exact r_iret C dX11_on_152
                    · refine r_aload_n (pc' := 126) (f4 := 0) (i := 0) C 4 rfl rfl dX11_on_125 rfl ?_
                      refine q_getP (pc' := 129) (j := 2) C (K_0 hF) fb_11_2 (by decide) wd_313 (Or.inl rfl) (F_0_2 hF) (by decide) dX11_on_126 rfl ?_
                      refine q_getP (pc' := 132) (j := 2) C (K_99 hF) fb_10_2 (by decide) wd_180 (Or.inl rfl) (F_99_2 hF) (by decide) dX11_on_129 rfl ?_
                      refine r_iload (pc' := 134) (i := 5) C 1 rfl dX11_on_132 rfl ?_
                      refine r_iconst (pc' := 135) C dX11_on_134 rfl ?_
                      refine r_idiv (pc' := 136) C ww_n5 (by decide) dX11_on_135 rfl ?_
                      obtain ⟨hi32, hf⟩ := ck_in hf
                      refine r_aaldP (pc' := 137) (t := 3) C (K_102 hF) (by decide) (by decide) (by decide) (by decide) rfl rfl hi32 (FL102 hF hi32) (Int.add_nonneg (by decide) (hi32).1) dX11_on_136 rfl ?_
                      refine r_iload (pc' := 139) (i := 5) C 1 rfl dX11_on_137 rfl ?_
                      refine r_iconst (pc' := 140) C dX11_on_139 rfl ?_
                      refine r_irem (pc' := 141) C ww_n5 (by decide) dX11_on_140 rfl ?_
                      obtain ⟨hi, hf⟩ := ck_in hf
                      refine r_iald (pc' := 142) C (KL102 hF hi32) rfl hi dX11_on_141 rfl ?_
                      refine r_goto (tgt := 152) C dX11_on_142 (by decide) ?_
                      cases hf
                      exact r_iret C dX11_on_152
                  · refine r_aload_n (pc' := 111) (f4 := 0) (i := 0) C 4 rfl rfl dX11_on_110 rfl ?_
                    refine q_getP (pc' := 114) (j := 2) C (K_0 hF) fb_11_2 (by decide) wd_313 (Or.inl rfl) (F_0_2 hF) (by decide) dX11_on_111 rfl ?_
                    refine q_getP (pc' := 117) (j := 5) C (K_99 hF) fb_10_5 (by decide) wd_187 (Or.inl rfl) (F_99_5 hF) (by decide) dX11_on_114 rfl ?_
                    refine r_iload_n (pc' := 118) (f4 := 3) (i := 3) C 3 rfl rfl dX11_on_117 rfl ?_
                    obtain ⟨hi, hf⟩ := ck_in hf
                    refine r_iald (pc' := 119) C (K_116 hF) rfl hi dX11_on_118 rfl ?_
                    cases hf
                    exact r_iret C dX11_on_119
            · refine r_iload_n (pc' := 77) (f4 := 1) (i := 1) C 5 rfl rfl dX11_on_76 rfl ?_
              refine q_callS (pc' := 80) C (t_x_isYears hF) rfl ws_RX11_191 ⟨Nat.le_of_ble_eq_true rfl, Nat.le_of_ble_eq_true rfl⟩ rfl rfl (Nat.le_of_ble_eq_true rfl) dX11_on_77 rfl ⟨Nat.le_of_ble_eq_true rfl, Nat.le_of_ble_eq_true rfl⟩ ?_
              refine r_if_ne (pc' := 83) (tgt := 86) C rfl hf dX11_on_80 (by decide) rfl (fun hf => ?_) (fun hf => ?_)
              · refine r_bipush (pc' := 85) C rfl dX11_on_83 rfl ?_
                cases hf
                exact r_iret C dX11_on_85
              · refine r_aload_n (pc' := 87) (f4 := 0) (i := 0) C 4 rfl rfl dX11_on_86 rfl ?_
                refine q_getP (pc' := 90) (j := 2) C (K_0 hF) fb_11_2 (by decide) wd_313 (Or.inl rfl) (F_0_2 hF) (by decide) dX11_on_87 rfl ?_
                refine r_aload_n (pc' := 91) (f4 := 0) (i := 0) C 4 rfl rfl dX11_on_90 rfl ?_
                refine q_getP (pc' := 94) (j := 0) C (K_0 hF) fb_11_0 (by decide) wd_311 (Or.inl rfl) (F_0_0 hF) (by decide) dX11_on_91 rfl ?_
                obtain ⟨q33, hq33, hf⟩ := bind_in hf
                refine q_callVv (pc' := 97) C (t_xw_goFrom hF lit_W_99 lit_W_1 hq33) rfl (K_99 hF) cl_10 wv_RX11_198 ⟨Nat.le_of_ble_eq_true rfl, Nat.le_of_ble_eq_true rfl⟩ rfl rfl (Nat.le_of_ble_eq_true rfl) dX11_on_94 rfl ⟨Nat.le_of_ble_eq_true rfl, Nat.le_of_ble_eq_true rfl⟩ ?_
                refine r_aload_n (pc' := 98) (f4 := 0) (i := 0) C 4 rfl rfl dX11_on_97 rfl ?_
                refine q_getP (pc' := 101) (j := 2) C (K_0 hF) fb_11_2 (by decide) wd_313 (Or.inl rfl) (F_0_2 hF) (by decide) dX11_on_98 rfl ?_
                refine r_iload_n (pc' := 102) (f4 := 1) (i := 1) C 5 rfl rfl dX11_on_101 rfl ?_
                obtain ⟨q34, hq34, hf⟩ := bind_in hf
                refine q_callVv (pc' := 105) C (t_xw_goYears hF lit_W_99 hq34) rfl (K_99 hF) cl_10 wv_RX11_194 ⟨Nat.le_of_ble_eq_true rfl, Nat.le_of_ble_eq_true rfl⟩ rfl rfl (Nat.le_of_ble_eq_true rfl) dX11_on_102 rfl ⟨Nat.le_of_ble_eq_true rfl, Nat.le_of_ble_eq_true rfl⟩ ?_
                refine r_iload (pc' := 107) (i := 4) C 2 rfl dX11_on_105 rfl ?_
                refine r_if_eq (pc' := 110) (tgt := 120) C ww_n0 hf dX11_on_107 (by decide) rfl (fun hf => ?_) (fun hf => ?_)
                · refine r_iload (pc' := 122) (i := 6) C 0 rfl dX11_on_120 rfl ?_
                  refine r_if_eq (pc' := 125) (tgt := 145) C ww_n1 hf dX11_on_122 (by decide) rfl (fun hf => ?_) (fun hf => ?_)
                  · refine r_aload_n (pc' := 146) (f4 := 0) (i := 0) C 4 rfl rfl dX11_on_145 rfl ?_
                    refine q_getP (pc' := 149) (j := 2) C (K_0 hF) fb_11_2 (by decide) wd_313 (Or.inl rfl) (F_0_2 hF) (by decide) dX11_on_146 rfl ?_
                    obtain ⟨q35, hq35, hf⟩ := bind_in hf
                    refine q_callV (pc' := 152) C (t_xw_bearing hF lit_W_99 hq35) rfl (K_99 hF) cl_10 wv_RX11_173 ⟨Nat.le_of_ble_eq_true rfl, Nat.le_of_ble_eq_true rfl⟩ rfl rfl (Nat.le_of_ble_eq_true rfl) dX11_on_149 rfl ⟨Nat.le_of_ble_eq_true rfl, Nat.le_of_ble_eq_true rfl⟩ ?_
                    cases hf
                    exact r_iret C dX11_on_152
                  · refine r_aload_n (pc' := 126) (f4 := 0) (i := 0) C 4 rfl rfl dX11_on_125 rfl ?_
                    refine q_getP (pc' := 129) (j := 2) C (K_0 hF) fb_11_2 (by decide) wd_313 (Or.inl rfl) (F_0_2 hF) (by decide) dX11_on_126 rfl ?_
                    refine q_getP (pc' := 132) (j := 2) C (K_99 hF) fb_10_2 (by decide) wd_180 (Or.inl rfl) (F_99_2 hF) (by decide) dX11_on_129 rfl ?_
                    refine r_iload (pc' := 134) (i := 5) C 1 rfl dX11_on_132 rfl ?_
                    refine r_iconst (pc' := 135) C dX11_on_134 rfl ?_
                    refine r_idiv (pc' := 136) C ww_n5 (by decide) dX11_on_135 rfl ?_
                    obtain ⟨hi36, hf⟩ := ck_in hf
                    refine r_aaldP (pc' := 137) (t := 3) C (K_102 hF) (by decide) (by decide) (by decide) (by decide) rfl rfl hi36 (FL102 hF hi36) (Int.add_nonneg (by decide) (hi36).1) dX11_on_136 rfl ?_
                    refine r_iload (pc' := 139) (i := 5) C 1 rfl dX11_on_137 rfl ?_
                    refine r_iconst (pc' := 140) C dX11_on_139 rfl ?_
                    refine r_irem (pc' := 141) C ww_n5 (by decide) dX11_on_140 rfl ?_
                    obtain ⟨hi, hf⟩ := ck_in hf
                    refine r_iald (pc' := 142) C (KL102 hF hi36) rfl hi dX11_on_141 rfl ?_
                    refine r_goto (tgt := 152) C dX11_on_142 (by decide) ?_
                    cases hf
                    exact r_iret C dX11_on_152
                · refine r_aload_n (pc' := 111) (f4 := 0) (i := 0) C 4 rfl rfl dX11_on_110 rfl ?_
                  refine q_getP (pc' := 114) (j := 2) C (K_0 hF) fb_11_2 (by decide) wd_313 (Or.inl rfl) (F_0_2 hF) (by decide) dX11_on_111 rfl ?_
                  refine q_getP (pc' := 117) (j := 5) C (K_99 hF) fb_10_5 (by decide) wd_187 (Or.inl rfl) (F_99_5 hF) (by decide) dX11_on_114 rfl ?_
                  refine r_iload_n (pc' := 118) (f4 := 3) (i := 3) C 3 rfl rfl dX11_on_117 rfl ?_
                  obtain ⟨hi, hf⟩ := ck_in hf
                  refine r_iald (pc' := 119) C (K_116 hF) rfl hi dX11_on_118 rfl ?_
                  cases hf
                  exact r_iret C dX11_on_119
    · refine r_iconst (pc' := 21) C dX11_on_20 rfl ?_
      refine r_goto (tgt := 25) C dX11_on_21 (by decide) ?_
      refine r_istore (pc' := 27) (i := 4) (L' := [(4, zI 1), (3, zI (zrem a2 10)), (0, zP bs 0), (1, zI a1), (2, zI a2)]) C (by decide) rfl dX11_on_25 rfl ?_
      refine r_iload_n (pc' := 28) (f4 := 2) (i := 2) C 4 rfl rfl dX11_on_27 rfl ?_
      refine r_bipush (pc' := 30) C rfl dX11_on_28 rfl ?_
      refine r_isub (pc' := 31) C dX11_on_30 rfl ?_
      refine r_istore (pc' := 33) (i := 5) (L' := [(5, zI (a2 - 20)), (4, zI 1), (3, zI (zrem a2 10)), (0, zP bs 0), (1, zI a1), (2, zI a2)]) C (by decide) rfl dX11_on_31 rfl ?_
      refine r_iload_n (pc' := 34) (f4 := 2) (i := 2) C 5 rfl rfl dX11_on_33 rfl ?_
      refine r_bipush (pc' := 36) C rfl dX11_on_34 rfl ?_
      refine r_icmp_lt (pc' := 39) (tgt := 57) C rfl ww_n20 hf dX11_on_36 (by decide) rfl (fun hf => ?_) (fun hf => ?_)
      · refine r_iconst (pc' := 58) C dX11_on_57 rfl ?_
        refine r_istore (pc' := 60) (i := 6) (L' := [(6, zI 0), (5, zI (a2 - 20)), (4, zI 1), (3, zI (zrem a2 10)), (0, zP bs 0), (1, zI a1), (2, zI a2)]) C (by decide) rfl dX11_on_58 rfl ?_
        refine r_iload_n (pc' := 61) (f4 := 2) (i := 2) C 6 rfl rfl dX11_on_60 rfl ?_
        refine r_if_eq (pc' := 64) (tgt := 76) C rfl hf dX11_on_61 (by decide) rfl (fun hf => ?_) (fun hf => ?_)
        · refine r_iload_n (pc' := 77) (f4 := 1) (i := 1) C 5 rfl rfl dX11_on_76 rfl ?_
          refine q_callS (pc' := 80) C (t_x_isYears hF) rfl ws_RX11_191 ⟨Nat.le_of_ble_eq_true rfl, Nat.le_of_ble_eq_true rfl⟩ rfl rfl (Nat.le_of_ble_eq_true rfl) dX11_on_77 rfl ⟨Nat.le_of_ble_eq_true rfl, Nat.le_of_ble_eq_true rfl⟩ ?_
          refine r_if_ne (pc' := 83) (tgt := 86) C rfl hf dX11_on_80 (by decide) rfl (fun hf => ?_) (fun hf => ?_)
          · refine r_bipush (pc' := 85) C rfl dX11_on_83 rfl ?_
            cases hf
            exact r_iret C dX11_on_85
          · refine r_aload_n (pc' := 87) (f4 := 0) (i := 0) C 4 rfl rfl dX11_on_86 rfl ?_
            refine q_getP (pc' := 90) (j := 2) C (K_0 hF) fb_11_2 (by decide) wd_313 (Or.inl rfl) (F_0_2 hF) (by decide) dX11_on_87 rfl ?_
            refine r_aload_n (pc' := 91) (f4 := 0) (i := 0) C 4 rfl rfl dX11_on_90 rfl ?_
            refine q_getP (pc' := 94) (j := 0) C (K_0 hF) fb_11_0 (by decide) wd_311 (Or.inl rfl) (F_0_0 hF) (by decide) dX11_on_91 rfl ?_
            obtain ⟨q37, hq37, hf⟩ := bind_in hf
            refine q_callVv (pc' := 97) C (t_xw_goFrom hF lit_W_99 lit_W_1 hq37) rfl (K_99 hF) cl_10 wv_RX11_198 ⟨Nat.le_of_ble_eq_true rfl, Nat.le_of_ble_eq_true rfl⟩ rfl rfl (Nat.le_of_ble_eq_true rfl) dX11_on_94 rfl ⟨Nat.le_of_ble_eq_true rfl, Nat.le_of_ble_eq_true rfl⟩ ?_
            refine r_aload_n (pc' := 98) (f4 := 0) (i := 0) C 4 rfl rfl dX11_on_97 rfl ?_
            refine q_getP (pc' := 101) (j := 2) C (K_0 hF) fb_11_2 (by decide) wd_313 (Or.inl rfl) (F_0_2 hF) (by decide) dX11_on_98 rfl ?_
            refine r_iload_n (pc' := 102) (f4 := 1) (i := 1) C 5 rfl rfl dX11_on_101 rfl ?_
            obtain ⟨q38, hq38, hf⟩ := bind_in hf
            refine q_callVv (pc' := 105) C (t_xw_goYears hF lit_W_99 hq38) rfl (K_99 hF) cl_10 wv_RX11_194 ⟨Nat.le_of_ble_eq_true rfl, Nat.le_of_ble_eq_true rfl⟩ rfl rfl (Nat.le_of_ble_eq_true rfl) dX11_on_102 rfl ⟨Nat.le_of_ble_eq_true rfl, Nat.le_of_ble_eq_true rfl⟩ ?_
            refine r_iload (pc' := 107) (i := 4) C 2 rfl dX11_on_105 rfl ?_
            refine r_if_eq (pc' := 110) (tgt := 120) C ww_n1 hf dX11_on_107 (by decide) rfl (fun hf => ?_) (fun hf => ?_)
            · refine r_iload (pc' := 122) (i := 6) C 0 rfl dX11_on_120 rfl ?_
              refine r_if_eq (pc' := 125) (tgt := 145) C ww_n0 hf dX11_on_122 (by decide) rfl (fun hf => ?_) (fun hf => ?_)
              · refine r_aload_n (pc' := 146) (f4 := 0) (i := 0) C 4 rfl rfl dX11_on_145 rfl ?_
                refine q_getP (pc' := 149) (j := 2) C (K_0 hF) fb_11_2 (by decide) wd_313 (Or.inl rfl) (F_0_2 hF) (by decide) dX11_on_146 rfl ?_
                obtain ⟨q39, hq39, hf⟩ := bind_in hf
                refine q_callV (pc' := 152) C (t_xw_bearing hF lit_W_99 hq39) rfl (K_99 hF) cl_10 wv_RX11_173 ⟨Nat.le_of_ble_eq_true rfl, Nat.le_of_ble_eq_true rfl⟩ rfl rfl (Nat.le_of_ble_eq_true rfl) dX11_on_149 rfl ⟨Nat.le_of_ble_eq_true rfl, Nat.le_of_ble_eq_true rfl⟩ ?_
                cases hf
                exact r_iret C dX11_on_152
              · refine r_aload_n (pc' := 126) (f4 := 0) (i := 0) C 4 rfl rfl dX11_on_125 rfl ?_
                refine q_getP (pc' := 129) (j := 2) C (K_0 hF) fb_11_2 (by decide) wd_313 (Or.inl rfl) (F_0_2 hF) (by decide) dX11_on_126 rfl ?_
                refine q_getP (pc' := 132) (j := 2) C (K_99 hF) fb_10_2 (by decide) wd_180 (Or.inl rfl) (F_99_2 hF) (by decide) dX11_on_129 rfl ?_
                refine r_iload (pc' := 134) (i := 5) C 1 rfl dX11_on_132 rfl ?_
                refine r_iconst (pc' := 135) C dX11_on_134 rfl ?_
                refine r_idiv (pc' := 136) C ww_n5 (by decide) dX11_on_135 rfl ?_
                obtain ⟨hi40, hf⟩ := ck_in hf
                refine r_aaldP (pc' := 137) (t := 3) C (K_102 hF) (by decide) (by decide) (by decide) (by decide) rfl rfl hi40 (FL102 hF hi40) (Int.add_nonneg (by decide) (hi40).1) dX11_on_136 rfl ?_
                refine r_iload (pc' := 139) (i := 5) C 1 rfl dX11_on_137 rfl ?_
                refine r_iconst (pc' := 140) C dX11_on_139 rfl ?_
                refine r_irem (pc' := 141) C ww_n5 (by decide) dX11_on_140 rfl ?_
                obtain ⟨hi, hf⟩ := ck_in hf
                refine r_iald (pc' := 142) C (KL102 hF hi40) rfl hi dX11_on_141 rfl ?_
                refine r_goto (tgt := 152) C dX11_on_142 (by decide) ?_
                cases hf
                exact r_iret C dX11_on_152
            · refine r_aload_n (pc' := 111) (f4 := 0) (i := 0) C 4 rfl rfl dX11_on_110 rfl ?_
              refine q_getP (pc' := 114) (j := 2) C (K_0 hF) fb_11_2 (by decide) wd_313 (Or.inl rfl) (F_0_2 hF) (by decide) dX11_on_111 rfl ?_
              refine q_getP (pc' := 117) (j := 5) C (K_99 hF) fb_10_5 (by decide) wd_187 (Or.inl rfl) (F_99_5 hF) (by decide) dX11_on_114 rfl ?_
              refine r_iload_n (pc' := 118) (f4 := 3) (i := 3) C 3 rfl rfl dX11_on_117 rfl ?_
              obtain ⟨hi, hf⟩ := ck_in hf
              refine r_iald (pc' := 119) C (K_116 hF) rfl hi dX11_on_118 rfl ?_
              cases hf
              exact r_iret C dX11_on_119
        · refine r_iload (pc' := 66) (i := 4) C 2 rfl dX11_on_64 rfl ?_
          refine r_if_ne (pc' := 69) (tgt := 76) C ww_n1 hf dX11_on_66 (by decide) rfl (fun hf => ?_) (fun hf => ?_)
          · refine r_iload (pc' := 71) (i := 6) C 0 rfl dX11_on_69 rfl ?_
            refine r_if_ne (pc' := 74) (tgt := 76) C ww_n0 hf dX11_on_71 (by decide) rfl (fun hf => ?_) (fun hf => ?_)
            · refine r_iconst (pc' := 75) C dX11_on_74 rfl ?_
              cases hf
              exact r_iret C dX11_on_75
            · refine r_iload_n (pc' := 77) (f4 := 1) (i := 1) C 5 rfl rfl dX11_on_76 rfl ?_
              refine q_callS (pc' := 80) C (t_x_isYears hF) rfl ws_RX11_191 ⟨Nat.le_of_ble_eq_true rfl, Nat.le_of_ble_eq_true rfl⟩ rfl rfl (Nat.le_of_ble_eq_true rfl) dX11_on_77 rfl ⟨Nat.le_of_ble_eq_true rfl, Nat.le_of_ble_eq_true rfl⟩ ?_
              refine r_if_ne (pc' := 83) (tgt := 86) C rfl hf dX11_on_80 (by decide) rfl (fun hf => ?_) (fun hf => ?_)
              · refine r_bipush (pc' := 85) C rfl dX11_on_83 rfl ?_
                cases hf
                exact r_iret C dX11_on_85
              · refine r_aload_n (pc' := 87) (f4 := 0) (i := 0) C 4 rfl rfl dX11_on_86 rfl ?_
                refine q_getP (pc' := 90) (j := 2) C (K_0 hF) fb_11_2 (by decide) wd_313 (Or.inl rfl) (F_0_2 hF) (by decide) dX11_on_87 rfl ?_
                refine r_aload_n (pc' := 91) (f4 := 0) (i := 0) C 4 rfl rfl dX11_on_90 rfl ?_
                refine q_getP (pc' := 94) (j := 0) C (K_0 hF) fb_11_0 (by decide) wd_311 (Or.inl rfl) (F_0_0 hF) (by decide) dX11_on_91 rfl ?_
                obtain ⟨q41, hq41, hf⟩ := bind_in hf
                refine q_callVv (pc' := 97) C (t_xw_goFrom hF lit_W_99 lit_W_1 hq41) rfl (K_99 hF) cl_10 wv_RX11_198 ⟨Nat.le_of_ble_eq_true rfl, Nat.le_of_ble_eq_true rfl⟩ rfl rfl (Nat.le_of_ble_eq_true rfl) dX11_on_94 rfl ⟨Nat.le_of_ble_eq_true rfl, Nat.le_of_ble_eq_true rfl⟩ ?_
                refine r_aload_n (pc' := 98) (f4 := 0) (i := 0) C 4 rfl rfl dX11_on_97 rfl ?_
                refine q_getP (pc' := 101) (j := 2) C (K_0 hF) fb_11_2 (by decide) wd_313 (Or.inl rfl) (F_0_2 hF) (by decide) dX11_on_98 rfl ?_
                refine r_iload_n (pc' := 102) (f4 := 1) (i := 1) C 5 rfl rfl dX11_on_101 rfl ?_
                obtain ⟨q42, hq42, hf⟩ := bind_in hf
                refine q_callVv (pc' := 105) C (t_xw_goYears hF lit_W_99 hq42) rfl (K_99 hF) cl_10 wv_RX11_194 ⟨Nat.le_of_ble_eq_true rfl, Nat.le_of_ble_eq_true rfl⟩ rfl rfl (Nat.le_of_ble_eq_true rfl) dX11_on_102 rfl ⟨Nat.le_of_ble_eq_true rfl, Nat.le_of_ble_eq_true rfl⟩ ?_
                refine r_iload (pc' := 107) (i := 4) C 2 rfl dX11_on_105 rfl ?_
                refine r_if_eq (pc' := 110) (tgt := 120) C ww_n1 hf dX11_on_107 (by decide) rfl (fun hf => ?_) (fun hf => ?_)
                · refine r_iload (pc' := 122) (i := 6) C 0 rfl dX11_on_120 rfl ?_
                  refine r_if_eq (pc' := 125) (tgt := 145) C ww_n0 hf dX11_on_122 (by decide) rfl (fun hf => ?_) (fun hf => ?_)
                  · refine r_aload_n (pc' := 146) (f4 := 0) (i := 0) C 4 rfl rfl dX11_on_145 rfl ?_
                    refine q_getP (pc' := 149) (j := 2) C (K_0 hF) fb_11_2 (by decide) wd_313 (Or.inl rfl) (F_0_2 hF) (by decide) dX11_on_146 rfl ?_
                    obtain ⟨q43, hq43, hf⟩ := bind_in hf
                    refine q_callV (pc' := 152) C (t_xw_bearing hF lit_W_99 hq43) rfl (K_99 hF) cl_10 wv_RX11_173 ⟨Nat.le_of_ble_eq_true rfl, Nat.le_of_ble_eq_true rfl⟩ rfl rfl (Nat.le_of_ble_eq_true rfl) dX11_on_149 rfl ⟨Nat.le_of_ble_eq_true rfl, Nat.le_of_ble_eq_true rfl⟩ ?_
                    cases hf
                    exact r_iret C dX11_on_152
                  · refine r_aload_n (pc' := 126) (f4 := 0) (i := 0) C 4 rfl rfl dX11_on_125 rfl ?_
                    refine q_getP (pc' := 129) (j := 2) C (K_0 hF) fb_11_2 (by decide) wd_313 (Or.inl rfl) (F_0_2 hF) (by decide) dX11_on_126 rfl ?_
                    refine q_getP (pc' := 132) (j := 2) C (K_99 hF) fb_10_2 (by decide) wd_180 (Or.inl rfl) (F_99_2 hF) (by decide) dX11_on_129 rfl ?_
                    refine r_iload (pc' := 134) (i := 5) C 1 rfl dX11_on_132 rfl ?_
                    refine r_iconst (pc' := 135) C dX11_on_134 rfl ?_
                    refine r_idiv (pc' := 136) C ww_n5 (by decide) dX11_on_135 rfl ?_
                    obtain ⟨hi44, hf⟩ := ck_in hf
                    refine r_aaldP (pc' := 137) (t := 3) C (K_102 hF) (by decide) (by decide) (by decide) (by decide) rfl rfl hi44 (FL102 hF hi44) (Int.add_nonneg (by decide) (hi44).1) dX11_on_136 rfl ?_
                    refine r_iload (pc' := 139) (i := 5) C 1 rfl dX11_on_137 rfl ?_
                    refine r_iconst (pc' := 140) C dX11_on_139 rfl ?_
                    refine r_irem (pc' := 141) C ww_n5 (by decide) dX11_on_140 rfl ?_
                    obtain ⟨hi, hf⟩ := ck_in hf
                    refine r_iald (pc' := 142) C (KL102 hF hi44) rfl hi dX11_on_141 rfl ?_
                    refine r_goto (tgt := 152) C dX11_on_142 (by decide) ?_
                    cases hf
                    exact r_iret C dX11_on_152
                · refine r_aload_n (pc' := 111) (f4 := 0) (i := 0) C 4 rfl rfl dX11_on_110 rfl ?_
                  refine q_getP (pc' := 114) (j := 2) C (K_0 hF) fb_11_2 (by decide) wd_313 (Or.inl rfl) (F_0_2 hF) (by decide) dX11_on_111 rfl ?_
                  refine q_getP (pc' := 117) (j := 5) C (K_99 hF) fb_10_5 (by decide) wd_187 (Or.inl rfl) (F_99_5 hF) (by decide) dX11_on_114 rfl ?_
                  refine r_iload_n (pc' := 118) (f4 := 3) (i := 3) C 3 rfl rfl dX11_on_117 rfl ?_
                  obtain ⟨hi, hf⟩ := ck_in hf
                  refine r_iald (pc' := 119) C (K_116 hF) rfl hi dX11_on_118 rfl ?_
                  cases hf
                  exact r_iret C dX11_on_119
          · refine r_iload_n (pc' := 77) (f4 := 1) (i := 1) C 5 rfl rfl dX11_on_76 rfl ?_
            refine q_callS (pc' := 80) C (t_x_isYears hF) rfl ws_RX11_191 ⟨Nat.le_of_ble_eq_true rfl, Nat.le_of_ble_eq_true rfl⟩ rfl rfl (Nat.le_of_ble_eq_true rfl) dX11_on_77 rfl ⟨Nat.le_of_ble_eq_true rfl, Nat.le_of_ble_eq_true rfl⟩ ?_
            refine r_if_ne (pc' := 83) (tgt := 86) C rfl hf dX11_on_80 (by decide) rfl (fun hf => ?_) (fun hf => ?_)
            · refine r_bipush (pc' := 85) C rfl dX11_on_83 rfl ?_
              cases hf
              exact r_iret C dX11_on_85
            · refine r_aload_n (pc' := 87) (f4 := 0) (i := 0) C 4 rfl rfl dX11_on_86 rfl ?_
              refine q_getP (pc' := 90) (j := 2) C (K_0 hF) fb_11_2 (by decide) wd_313 (Or.inl rfl) (F_0_2 hF) (by decide) dX11_on_87 rfl ?_
              refine r_aload_n (pc' := 91) (f4 := 0) (i := 0) C 4 rfl rfl dX11_on_90 rfl ?_
              refine q_getP (pc' := 94) (j := 0) C (K_0 hF) fb_11_0 (by decide) wd_311 (Or.inl rfl) (F_0_0 hF) (by decide) dX11_on_91 rfl ?_
              obtain ⟨q45, hq45, hf⟩ := bind_in hf
              refine q_callVv (pc' := 97) C (t_xw_goFrom hF lit_W_99 lit_W_1 hq45) rfl (K_99 hF) cl_10 wv_RX11_198 ⟨Nat.le_of_ble_eq_true rfl, Nat.le_of_ble_eq_true rfl⟩ rfl rfl (Nat.le_of_ble_eq_true rfl) dX11_on_94 rfl ⟨Nat.le_of_ble_eq_true rfl, Nat.le_of_ble_eq_true rfl⟩ ?_
              refine r_aload_n (pc' := 98) (f4 := 0) (i := 0) C 4 rfl rfl dX11_on_97 rfl ?_
              refine q_getP (pc' := 101) (j := 2) C (K_0 hF) fb_11_2 (by decide) wd_313 (Or.inl rfl) (F_0_2 hF) (by decide) dX11_on_98 rfl ?_
              refine r_iload_n (pc' := 102) (f4 := 1) (i := 1) C 5 rfl rfl dX11_on_101 rfl ?_
              obtain ⟨q46, hq46, hf⟩ := bind_in hf
              refine q_callVv (pc' := 105) C (t_xw_goYears hF lit_W_99 hq46) rfl (K_99 hF) cl_10 wv_RX11_194 ⟨Nat.le_of_ble_eq_true rfl, Nat.le_of_ble_eq_true rfl⟩ rfl rfl (Nat.le_of_ble_eq_true rfl) dX11_on_102 rfl ⟨Nat.le_of_ble_eq_true rfl, Nat.le_of_ble_eq_true rfl⟩ ?_
              refine r_iload (pc' := 107) (i := 4) C 2 rfl dX11_on_105 rfl ?_
              refine r_if_eq (pc' := 110) (tgt := 120) C ww_n1 hf dX11_on_107 (by decide) rfl (fun hf => ?_) (fun hf => ?_)
              · refine r_iload (pc' := 122) (i := 6) C 0 rfl dX11_on_120 rfl ?_
                refine r_if_eq (pc' := 125) (tgt := 145) C ww_n0 hf dX11_on_122 (by decide) rfl (fun hf => ?_) (fun hf => ?_)
                · refine r_aload_n (pc' := 146) (f4 := 0) (i := 0) C 4 rfl rfl dX11_on_145 rfl ?_
                  refine q_getP (pc' := 149) (j := 2) C (K_0 hF) fb_11_2 (by decide) wd_313 (Or.inl rfl) (F_0_2 hF) (by decide) dX11_on_146 rfl ?_
                  obtain ⟨q47, hq47, hf⟩ := bind_in hf
                  refine q_callV (pc' := 152) C (t_xw_bearing hF lit_W_99 hq47) rfl (K_99 hF) cl_10 wv_RX11_173 ⟨Nat.le_of_ble_eq_true rfl, Nat.le_of_ble_eq_true rfl⟩ rfl rfl (Nat.le_of_ble_eq_true rfl) dX11_on_149 rfl ⟨Nat.le_of_ble_eq_true rfl, Nat.le_of_ble_eq_true rfl⟩ ?_
                  cases hf
                  exact r_iret C dX11_on_152
                · refine r_aload_n (pc' := 126) (f4 := 0) (i := 0) C 4 rfl rfl dX11_on_125 rfl ?_
                  refine q_getP (pc' := 129) (j := 2) C (K_0 hF) fb_11_2 (by decide) wd_313 (Or.inl rfl) (F_0_2 hF) (by decide) dX11_on_126 rfl ?_
                  refine q_getP (pc' := 132) (j := 2) C (K_99 hF) fb_10_2 (by decide) wd_180 (Or.inl rfl) (F_99_2 hF) (by decide) dX11_on_129 rfl ?_
                  refine r_iload (pc' := 134) (i := 5) C 1 rfl dX11_on_132 rfl ?_
                  refine r_iconst (pc' := 135) C dX11_on_134 rfl ?_
                  refine r_idiv (pc' := 136) C ww_n5 (by decide) dX11_on_135 rfl ?_
                  obtain ⟨hi48, hf⟩ := ck_in hf
                  refine r_aaldP (pc' := 137) (t := 3) C (K_102 hF) (by decide) (by decide) (by decide) (by decide) rfl rfl hi48 (FL102 hF hi48) (Int.add_nonneg (by decide) (hi48).1) dX11_on_136 rfl ?_
                  refine r_iload (pc' := 139) (i := 5) C 1 rfl dX11_on_137 rfl ?_
                  refine r_iconst (pc' := 140) C dX11_on_139 rfl ?_
                  refine r_irem (pc' := 141) C ww_n5 (by decide) dX11_on_140 rfl ?_
                  obtain ⟨hi, hf⟩ := ck_in hf
                  refine r_iald (pc' := 142) C (KL102 hF hi48) rfl hi dX11_on_141 rfl ?_
                  refine r_goto (tgt := 152) C dX11_on_142 (by decide) ?_
                  cases hf
                  exact r_iret C dX11_on_152
              · refine r_aload_n (pc' := 111) (f4 := 0) (i := 0) C 4 rfl rfl dX11_on_110 rfl ?_
                refine q_getP (pc' := 114) (j := 2) C (K_0 hF) fb_11_2 (by decide) wd_313 (Or.inl rfl) (F_0_2 hF) (by decide) dX11_on_111 rfl ?_
                refine q_getP (pc' := 117) (j := 5) C (K_99 hF) fb_10_5 (by decide) wd_187 (Or.inl rfl) (F_99_5 hF) (by decide) dX11_on_114 rfl ?_
                refine r_iload_n (pc' := 118) (f4 := 3) (i := 3) C 3 rfl rfl dX11_on_117 rfl ?_
                obtain ⟨hi, hf⟩ := ck_in hf
                refine r_iald (pc' := 119) C (K_116 hF) rfl hi dX11_on_118 rfl ?_
                cases hf
                exact r_iret C dX11_on_119
      · refine r_aload_n (pc' := 40) (f4 := 0) (i := 0) C 3 rfl rfl dX11_on_39 rfl ?_
        refine q_getP (pc' := 43) (j := 0) C (K_0 hF) fb_11_0 (by decide) wd_311 (Or.inl rfl) (F_0_0 hF) (by decide) dX11_on_40 rfl ?_
        refine r_iload (pc' := 45) (i := 5) C 0 rfl dX11_on_43 rfl ?_
        refine r_iconst (pc' := 46) C dX11_on_45 rfl ?_
        refine r_idiv (pc' := 47) C ww_n5 (by decide) dX11_on_46 rfl ?_
        refine q_callV (pc' := 50) C (t_xw_has hF lit_W_1) rfl (K_1 hF) cl_10 wv_RX11_87 ⟨Nat.le_of_ble_eq_true rfl, Nat.le_of_ble_eq_true rfl⟩ rfl rfl (Nat.le_of_ble_eq_true rfl) dX11_on_47 rfl ⟨Nat.le_of_ble_eq_true rfl, Nat.le_of_ble_eq_true rfl⟩ ?_
        refine r_if_eq (pc' := 53) (tgt := 57) C rfl hf dX11_on_50 (by decide) rfl (fun hf => ?_) (fun hf => ?_)
        · refine r_iconst (pc' := 58) C dX11_on_57 rfl ?_
          refine r_istore (pc' := 60) (i := 6) (L' := [(6, zI 0), (5, zI (a2 - 20)), (4, zI 1), (3, zI (zrem a2 10)), (0, zP bs 0), (1, zI a1), (2, zI a2)]) C (by decide) rfl dX11_on_58 rfl ?_
          refine r_iload_n (pc' := 61) (f4 := 2) (i := 2) C 6 rfl rfl dX11_on_60 rfl ?_
          refine r_if_eq (pc' := 64) (tgt := 76) C rfl hf dX11_on_61 (by decide) rfl (fun hf => ?_) (fun hf => ?_)
          · refine r_iload_n (pc' := 77) (f4 := 1) (i := 1) C 5 rfl rfl dX11_on_76 rfl ?_
            refine q_callS (pc' := 80) C (t_x_isYears hF) rfl ws_RX11_191 ⟨Nat.le_of_ble_eq_true rfl, Nat.le_of_ble_eq_true rfl⟩ rfl rfl (Nat.le_of_ble_eq_true rfl) dX11_on_77 rfl ⟨Nat.le_of_ble_eq_true rfl, Nat.le_of_ble_eq_true rfl⟩ ?_
            refine r_if_ne (pc' := 83) (tgt := 86) C rfl hf dX11_on_80 (by decide) rfl (fun hf => ?_) (fun hf => ?_)
            · refine r_bipush (pc' := 85) C rfl dX11_on_83 rfl ?_
              cases hf
              exact r_iret C dX11_on_85
            · refine r_aload_n (pc' := 87) (f4 := 0) (i := 0) C 4 rfl rfl dX11_on_86 rfl ?_
              refine q_getP (pc' := 90) (j := 2) C (K_0 hF) fb_11_2 (by decide) wd_313 (Or.inl rfl) (F_0_2 hF) (by decide) dX11_on_87 rfl ?_
              refine r_aload_n (pc' := 91) (f4 := 0) (i := 0) C 4 rfl rfl dX11_on_90 rfl ?_
              refine q_getP (pc' := 94) (j := 0) C (K_0 hF) fb_11_0 (by decide) wd_311 (Or.inl rfl) (F_0_0 hF) (by decide) dX11_on_91 rfl ?_
              obtain ⟨q49, hq49, hf⟩ := bind_in hf
              refine q_callVv (pc' := 97) C (t_xw_goFrom hF lit_W_99 lit_W_1 hq49) rfl (K_99 hF) cl_10 wv_RX11_198 ⟨Nat.le_of_ble_eq_true rfl, Nat.le_of_ble_eq_true rfl⟩ rfl rfl (Nat.le_of_ble_eq_true rfl) dX11_on_94 rfl ⟨Nat.le_of_ble_eq_true rfl, Nat.le_of_ble_eq_true rfl⟩ ?_
              refine r_aload_n (pc' := 98) (f4 := 0) (i := 0) C 4 rfl rfl dX11_on_97 rfl ?_
              refine q_getP (pc' := 101) (j := 2) C (K_0 hF) fb_11_2 (by decide) wd_313 (Or.inl rfl) (F_0_2 hF) (by decide) dX11_on_98 rfl ?_
              refine r_iload_n (pc' := 102) (f4 := 1) (i := 1) C 5 rfl rfl dX11_on_101 rfl ?_
              obtain ⟨q50, hq50, hf⟩ := bind_in hf
              refine q_callVv (pc' := 105) C (t_xw_goYears hF lit_W_99 hq50) rfl (K_99 hF) cl_10 wv_RX11_194 ⟨Nat.le_of_ble_eq_true rfl, Nat.le_of_ble_eq_true rfl⟩ rfl rfl (Nat.le_of_ble_eq_true rfl) dX11_on_102 rfl ⟨Nat.le_of_ble_eq_true rfl, Nat.le_of_ble_eq_true rfl⟩ ?_
              refine r_iload (pc' := 107) (i := 4) C 2 rfl dX11_on_105 rfl ?_
              refine r_if_eq (pc' := 110) (tgt := 120) C ww_n1 hf dX11_on_107 (by decide) rfl (fun hf => ?_) (fun hf => ?_)
              · refine r_iload (pc' := 122) (i := 6) C 0 rfl dX11_on_120 rfl ?_
                refine r_if_eq (pc' := 125) (tgt := 145) C ww_n0 hf dX11_on_122 (by decide) rfl (fun hf => ?_) (fun hf => ?_)
                · refine r_aload_n (pc' := 146) (f4 := 0) (i := 0) C 4 rfl rfl dX11_on_145 rfl ?_
                  refine q_getP (pc' := 149) (j := 2) C (K_0 hF) fb_11_2 (by decide) wd_313 (Or.inl rfl) (F_0_2 hF) (by decide) dX11_on_146 rfl ?_
                  obtain ⟨q51, hq51, hf⟩ := bind_in hf
                  refine q_callV (pc' := 152) C (t_xw_bearing hF lit_W_99 hq51) rfl (K_99 hF) cl_10 wv_RX11_173 ⟨Nat.le_of_ble_eq_true rfl, Nat.le_of_ble_eq_true rfl⟩ rfl rfl (Nat.le_of_ble_eq_true rfl) dX11_on_149 rfl ⟨Nat.le_of_ble_eq_true rfl, Nat.le_of_ble_eq_true rfl⟩ ?_
                  cases hf
                  exact r_iret C dX11_on_152
                · refine r_aload_n (pc' := 126) (f4 := 0) (i := 0) C 4 rfl rfl dX11_on_125 rfl ?_
                  refine q_getP (pc' := 129) (j := 2) C (K_0 hF) fb_11_2 (by decide) wd_313 (Or.inl rfl) (F_0_2 hF) (by decide) dX11_on_126 rfl ?_
                  refine q_getP (pc' := 132) (j := 2) C (K_99 hF) fb_10_2 (by decide) wd_180 (Or.inl rfl) (F_99_2 hF) (by decide) dX11_on_129 rfl ?_
                  refine r_iload (pc' := 134) (i := 5) C 1 rfl dX11_on_132 rfl ?_
                  refine r_iconst (pc' := 135) C dX11_on_134 rfl ?_
                  refine r_idiv (pc' := 136) C ww_n5 (by decide) dX11_on_135 rfl ?_
                  obtain ⟨hi52, hf⟩ := ck_in hf
                  refine r_aaldP (pc' := 137) (t := 3) C (K_102 hF) (by decide) (by decide) (by decide) (by decide) rfl rfl hi52 (FL102 hF hi52) (Int.add_nonneg (by decide) (hi52).1) dX11_on_136 rfl ?_
                  refine r_iload (pc' := 139) (i := 5) C 1 rfl dX11_on_137 rfl ?_
                  refine r_iconst (pc' := 140) C dX11_on_139 rfl ?_
                  refine r_irem (pc' := 141) C ww_n5 (by decide) dX11_on_140 rfl ?_
                  obtain ⟨hi, hf⟩ := ck_in hf
                  refine r_iald (pc' := 142) C (KL102 hF hi52) rfl hi dX11_on_141 rfl ?_
                  refine r_goto (tgt := 152) C dX11_on_142 (by decide) ?_
                  cases hf
                  exact r_iret C dX11_on_152
              · refine r_aload_n (pc' := 111) (f4 := 0) (i := 0) C 4 rfl rfl dX11_on_110 rfl ?_
                refine q_getP (pc' := 114) (j := 2) C (K_0 hF) fb_11_2 (by decide) wd_313 (Or.inl rfl) (F_0_2 hF) (by decide) dX11_on_111 rfl ?_
                refine q_getP (pc' := 117) (j := 5) C (K_99 hF) fb_10_5 (by decide) wd_187 (Or.inl rfl) (F_99_5 hF) (by decide) dX11_on_114 rfl ?_
                refine r_iload_n (pc' := 118) (f4 := 3) (i := 3) C 3 rfl rfl dX11_on_117 rfl ?_
                obtain ⟨hi, hf⟩ := ck_in hf
                refine r_iald (pc' := 119) C (K_116 hF) rfl hi dX11_on_118 rfl ?_
                cases hf
                exact r_iret C dX11_on_119
          · refine r_iload (pc' := 66) (i := 4) C 2 rfl dX11_on_64 rfl ?_
            refine r_if_ne (pc' := 69) (tgt := 76) C ww_n1 hf dX11_on_66 (by decide) rfl (fun hf => ?_) (fun hf => ?_)
            · refine r_iload (pc' := 71) (i := 6) C 0 rfl dX11_on_69 rfl ?_
              refine r_if_ne (pc' := 74) (tgt := 76) C ww_n0 hf dX11_on_71 (by decide) rfl (fun hf => ?_) (fun hf => ?_)
              · refine r_iconst (pc' := 75) C dX11_on_74 rfl ?_
                cases hf
                exact r_iret C dX11_on_75
              · refine r_iload_n (pc' := 77) (f4 := 1) (i := 1) C 5 rfl rfl dX11_on_76 rfl ?_
                refine q_callS (pc' := 80) C (t_x_isYears hF) rfl ws_RX11_191 ⟨Nat.le_of_ble_eq_true rfl, Nat.le_of_ble_eq_true rfl⟩ rfl rfl (Nat.le_of_ble_eq_true rfl) dX11_on_77 rfl ⟨Nat.le_of_ble_eq_true rfl, Nat.le_of_ble_eq_true rfl⟩ ?_
                refine r_if_ne (pc' := 83) (tgt := 86) C rfl hf dX11_on_80 (by decide) rfl (fun hf => ?_) (fun hf => ?_)
                · refine r_bipush (pc' := 85) C rfl dX11_on_83 rfl ?_
                  cases hf
                  exact r_iret C dX11_on_85
                · refine r_aload_n (pc' := 87) (f4 := 0) (i := 0) C 4 rfl rfl dX11_on_86 rfl ?_
                  refine q_getP (pc' := 90) (j := 2) C (K_0 hF) fb_11_2 (by decide) wd_313 (Or.inl rfl) (F_0_2 hF) (by decide) dX11_on_87 rfl ?_
                  refine r_aload_n (pc' := 91) (f4 := 0) (i := 0) C 4 rfl rfl dX11_on_90 rfl ?_
                  refine q_getP (pc' := 94) (j := 0) C (K_0 hF) fb_11_0 (by decide) wd_311 (Or.inl rfl) (F_0_0 hF) (by decide) dX11_on_91 rfl ?_
                  obtain ⟨q53, hq53, hf⟩ := bind_in hf
                  refine q_callVv (pc' := 97) C (t_xw_goFrom hF lit_W_99 lit_W_1 hq53) rfl (K_99 hF) cl_10 wv_RX11_198 ⟨Nat.le_of_ble_eq_true rfl, Nat.le_of_ble_eq_true rfl⟩ rfl rfl (Nat.le_of_ble_eq_true rfl) dX11_on_94 rfl ⟨Nat.le_of_ble_eq_true rfl, Nat.le_of_ble_eq_true rfl⟩ ?_
                  refine r_aload_n (pc' := 98) (f4 := 0) (i := 0) C 4 rfl rfl dX11_on_97 rfl ?_
                  refine q_getP (pc' := 101) (j := 2) C (K_0 hF) fb_11_2 (by decide) wd_313 (Or.inl rfl) (F_0_2 hF) (by decide) dX11_on_98 rfl ?_
                  refine r_iload_n (pc' := 102) (f4 := 1) (i := 1) C 5 rfl rfl dX11_on_101 rfl ?_
                  obtain ⟨q54, hq54, hf⟩ := bind_in hf
                  refine q_callVv (pc' := 105) C (t_xw_goYears hF lit_W_99 hq54) rfl (K_99 hF) cl_10 wv_RX11_194 ⟨Nat.le_of_ble_eq_true rfl, Nat.le_of_ble_eq_true rfl⟩ rfl rfl (Nat.le_of_ble_eq_true rfl) dX11_on_102 rfl ⟨Nat.le_of_ble_eq_true rfl, Nat.le_of_ble_eq_true rfl⟩ ?_
                  refine r_iload (pc' := 107) (i := 4) C 2 rfl dX11_on_105 rfl ?_
                  refine r_if_eq (pc' := 110) (tgt := 120) C ww_n1 hf dX11_on_107 (by decide) rfl (fun hf => ?_) (fun hf => ?_)
                  · refine r_iload (pc' := 122) (i := 6) C 0 rfl dX11_on_120 rfl ?_
                    refine r_if_eq (pc' := 125) (tgt := 145) C ww_n0 hf dX11_on_122 (by decide) rfl (fun hf => ?_) (fun hf => ?_)
                    · refine r_aload_n (pc' := 146) (f4 := 0) (i := 0) C 4 rfl rfl dX11_on_145 rfl ?_
                      refine q_getP (pc' := 149) (j := 2) C (K_0 hF) fb_11_2 (by decide) wd_313 (Or.inl rfl) (F_0_2 hF) (by decide) dX11_on_146 rfl ?_
                      obtain ⟨q55, hq55, hf⟩ := bind_in hf
                      refine q_callV (pc' := 152) C (t_xw_bearing hF lit_W_99 hq55) rfl (K_99 hF) cl_10 wv_RX11_173 ⟨Nat.le_of_ble_eq_true rfl, Nat.le_of_ble_eq_true rfl⟩ rfl rfl (Nat.le_of_ble_eq_true rfl) dX11_on_149 rfl ⟨Nat.le_of_ble_eq_true rfl, Nat.le_of_ble_eq_true rfl⟩ ?_
                      cases hf
                      exact r_iret C dX11_on_152
                    · refine r_aload_n (pc' := 126) (f4 := 0) (i := 0) C 4 rfl rfl dX11_on_125 rfl ?_
                      refine q_getP (pc' := 129) (j := 2) C (K_0 hF) fb_11_2 (by decide) wd_313 (Or.inl rfl) (F_0_2 hF) (by decide) dX11_on_126 rfl ?_
                      refine q_getP (pc' := 132) (j := 2) C (K_99 hF) fb_10_2 (by decide) wd_180 (Or.inl rfl) (F_99_2 hF) (by decide) dX11_on_129 rfl ?_
                      refine r_iload (pc' := 134) (i := 5) C 1 rfl dX11_on_132 rfl ?_
                      refine r_iconst (pc' := 135) C dX11_on_134 rfl ?_
                      refine r_idiv (pc' := 136) C ww_n5 (by decide) dX11_on_135 rfl ?_
                      obtain ⟨hi56, hf⟩ := ck_in hf
                      refine r_aaldP (pc' := 137) (t := 3) C (K_102 hF) (by decide) (by decide) (by decide) (by decide) rfl rfl hi56 (FL102 hF hi56) (Int.add_nonneg (by decide) (hi56).1) dX11_on_136 rfl ?_
                      refine r_iload (pc' := 139) (i := 5) C 1 rfl dX11_on_137 rfl ?_
                      refine r_iconst (pc' := 140) C dX11_on_139 rfl ?_
                      refine r_irem (pc' := 141) C ww_n5 (by decide) dX11_on_140 rfl ?_
                      obtain ⟨hi, hf⟩ := ck_in hf
                      refine r_iald (pc' := 142) C (KL102 hF hi56) rfl hi dX11_on_141 rfl ?_
                      refine r_goto (tgt := 152) C dX11_on_142 (by decide) ?_
                      cases hf
                      exact r_iret C dX11_on_152
                  · refine r_aload_n (pc' := 111) (f4 := 0) (i := 0) C 4 rfl rfl dX11_on_110 rfl ?_
                    refine q_getP (pc' := 114) (j := 2) C (K_0 hF) fb_11_2 (by decide) wd_313 (Or.inl rfl) (F_0_2 hF) (by decide) dX11_on_111 rfl ?_
                    refine q_getP (pc' := 117) (j := 5) C (K_99 hF) fb_10_5 (by decide) wd_187 (Or.inl rfl) (F_99_5 hF) (by decide) dX11_on_114 rfl ?_
                    refine r_iload_n (pc' := 118) (f4 := 3) (i := 3) C 3 rfl rfl dX11_on_117 rfl ?_
                    obtain ⟨hi, hf⟩ := ck_in hf
                    refine r_iald (pc' := 119) C (K_116 hF) rfl hi dX11_on_118 rfl ?_
                    cases hf
                    exact r_iret C dX11_on_119
            · refine r_iload_n (pc' := 77) (f4 := 1) (i := 1) C 5 rfl rfl dX11_on_76 rfl ?_
              refine q_callS (pc' := 80) C (t_x_isYears hF) rfl ws_RX11_191 ⟨Nat.le_of_ble_eq_true rfl, Nat.le_of_ble_eq_true rfl⟩ rfl rfl (Nat.le_of_ble_eq_true rfl) dX11_on_77 rfl ⟨Nat.le_of_ble_eq_true rfl, Nat.le_of_ble_eq_true rfl⟩ ?_
              refine r_if_ne (pc' := 83) (tgt := 86) C rfl hf dX11_on_80 (by decide) rfl (fun hf => ?_) (fun hf => ?_)
              · refine r_bipush (pc' := 85) C rfl dX11_on_83 rfl ?_
                cases hf
                exact r_iret C dX11_on_85
              · refine r_aload_n (pc' := 87) (f4 := 0) (i := 0) C 4 rfl rfl dX11_on_86 rfl ?_
                refine q_getP (pc' := 90) (j := 2) C (K_0 hF) fb_11_2 (by decide) wd_313 (Or.inl rfl) (F_0_2 hF) (by decide) dX11_on_87 rfl ?_
                refine r_aload_n (pc' := 91) (f4 := 0) (i := 0) C 4 rfl rfl dX11_on_90 rfl ?_
                refine q_getP (pc' := 94) (j := 0) C (K_0 hF) fb_11_0 (by decide) wd_311 (Or.inl rfl) (F_0_0 hF) (by decide) dX11_on_91 rfl ?_
                obtain ⟨q57, hq57, hf⟩ := bind_in hf
                refine q_callVv (pc' := 97) C (t_xw_goFrom hF lit_W_99 lit_W_1 hq57) rfl (K_99 hF) cl_10 wv_RX11_198 ⟨Nat.le_of_ble_eq_true rfl, Nat.le_of_ble_eq_true rfl⟩ rfl rfl (Nat.le_of_ble_eq_true rfl) dX11_on_94 rfl ⟨Nat.le_of_ble_eq_true rfl, Nat.le_of_ble_eq_true rfl⟩ ?_
                refine r_aload_n (pc' := 98) (f4 := 0) (i := 0) C 4 rfl rfl dX11_on_97 rfl ?_
                refine q_getP (pc' := 101) (j := 2) C (K_0 hF) fb_11_2 (by decide) wd_313 (Or.inl rfl) (F_0_2 hF) (by decide) dX11_on_98 rfl ?_
                refine r_iload_n (pc' := 102) (f4 := 1) (i := 1) C 5 rfl rfl dX11_on_101 rfl ?_
                obtain ⟨q58, hq58, hf⟩ := bind_in hf
                refine q_callVv (pc' := 105) C (t_xw_goYears hF lit_W_99 hq58) rfl (K_99 hF) cl_10 wv_RX11_194 ⟨Nat.le_of_ble_eq_true rfl, Nat.le_of_ble_eq_true rfl⟩ rfl rfl (Nat.le_of_ble_eq_true rfl) dX11_on_102 rfl ⟨Nat.le_of_ble_eq_true rfl, Nat.le_of_ble_eq_true rfl⟩ ?_
                refine r_iload (pc' := 107) (i := 4) C 2 rfl dX11_on_105 rfl ?_
                refine r_if_eq (pc' := 110) (tgt := 120) C ww_n1 hf dX11_on_107 (by decide) rfl (fun hf => ?_) (fun hf => ?_)
                · refine r_iload (pc' := 122) (i := 6) C 0 rfl dX11_on_120 rfl ?_
                  refine r_if_eq (pc' := 125) (tgt := 145) C ww_n0 hf dX11_on_122 (by decide) rfl (fun hf => ?_) (fun hf => ?_)
                  · refine r_aload_n (pc' := 146) (f4 := 0) (i := 0) C 4 rfl rfl dX11_on_145 rfl ?_
                    refine q_getP (pc' := 149) (j := 2) C (K_0 hF) fb_11_2 (by decide) wd_313 (Or.inl rfl) (F_0_2 hF) (by decide) dX11_on_146 rfl ?_
                    obtain ⟨q59, hq59, hf⟩ := bind_in hf
                    refine q_callV (pc' := 152) C (t_xw_bearing hF lit_W_99 hq59) rfl (K_99 hF) cl_10 wv_RX11_173 ⟨Nat.le_of_ble_eq_true rfl, Nat.le_of_ble_eq_true rfl⟩ rfl rfl (Nat.le_of_ble_eq_true rfl) dX11_on_149 rfl ⟨Nat.le_of_ble_eq_true rfl, Nat.le_of_ble_eq_true rfl⟩ ?_
                    cases hf
                    exact r_iret C dX11_on_152
                  · refine r_aload_n (pc' := 126) (f4 := 0) (i := 0) C 4 rfl rfl dX11_on_125 rfl ?_
                    refine q_getP (pc' := 129) (j := 2) C (K_0 hF) fb_11_2 (by decide) wd_313 (Or.inl rfl) (F_0_2 hF) (by decide) dX11_on_126 rfl ?_
                    refine q_getP (pc' := 132) (j := 2) C (K_99 hF) fb_10_2 (by decide) wd_180 (Or.inl rfl) (F_99_2 hF) (by decide) dX11_on_129 rfl ?_
                    refine r_iload (pc' := 134) (i := 5) C 1 rfl dX11_on_132 rfl ?_
                    refine r_iconst (pc' := 135) C dX11_on_134 rfl ?_
                    refine r_idiv (pc' := 136) C ww_n5 (by decide) dX11_on_135 rfl ?_
                    obtain ⟨hi60, hf⟩ := ck_in hf
                    refine r_aaldP (pc' := 137) (t := 3) C (K_102 hF) (by decide) (by decide) (by decide) (by decide) rfl rfl hi60 (FL102 hF hi60) (Int.add_nonneg (by decide) (hi60).1) dX11_on_136 rfl ?_
                    refine r_iload (pc' := 139) (i := 5) C 1 rfl dX11_on_137 rfl ?_
                    refine r_iconst (pc' := 140) C dX11_on_139 rfl ?_
                    refine r_irem (pc' := 141) C ww_n5 (by decide) dX11_on_140 rfl ?_
                    obtain ⟨hi, hf⟩ := ck_in hf
                    refine r_iald (pc' := 142) C (KL102 hF hi60) rfl hi dX11_on_141 rfl ?_
                    refine r_goto (tgt := 152) C dX11_on_142 (by decide) ?_
                    cases hf
                    exact r_iret C dX11_on_152
                · refine r_aload_n (pc' := 111) (f4 := 0) (i := 0) C 4 rfl rfl dX11_on_110 rfl ?_
                  refine q_getP (pc' := 114) (j := 2) C (K_0 hF) fb_11_2 (by decide) wd_313 (Or.inl rfl) (F_0_2 hF) (by decide) dX11_on_111 rfl ?_
                  refine q_getP (pc' := 117) (j := 5) C (K_99 hF) fb_10_5 (by decide) wd_187 (Or.inl rfl) (F_99_5 hF) (by decide) dX11_on_114 rfl ?_
                  refine r_iload_n (pc' := 118) (f4 := 3) (i := 3) C 3 rfl rfl dX11_on_117 rfl ?_
                  obtain ⟨hi, hf⟩ := ck_in hf
                  refine r_iald (pc' := 119) C (K_116 hF) rfl hi dX11_on_118 rfl ?_
                  cases hf
                  exact r_iret C dX11_on_119
        · refine r_iconst (pc' := 54) C dX11_on_53 rfl ?_
          refine r_goto (tgt := 58) C dX11_on_54 (by decide) ?_
          refine r_istore (pc' := 60) (i := 6) (L' := [(6, zI 1), (5, zI (a2 - 20)), (4, zI 1), (3, zI (zrem a2 10)), (0, zP bs 0), (1, zI a1), (2, zI a2)]) C (by decide) rfl dX11_on_58 rfl ?_
          refine r_iload_n (pc' := 61) (f4 := 2) (i := 2) C 6 rfl rfl dX11_on_60 rfl ?_
          refine r_if_eq (pc' := 64) (tgt := 76) C rfl hf dX11_on_61 (by decide) rfl (fun hf => ?_) (fun hf => ?_)
          · refine r_iload_n (pc' := 77) (f4 := 1) (i := 1) C 5 rfl rfl dX11_on_76 rfl ?_
            refine q_callS (pc' := 80) C (t_x_isYears hF) rfl ws_RX11_191 ⟨Nat.le_of_ble_eq_true rfl, Nat.le_of_ble_eq_true rfl⟩ rfl rfl (Nat.le_of_ble_eq_true rfl) dX11_on_77 rfl ⟨Nat.le_of_ble_eq_true rfl, Nat.le_of_ble_eq_true rfl⟩ ?_
            refine r_if_ne (pc' := 83) (tgt := 86) C rfl hf dX11_on_80 (by decide) rfl (fun hf => ?_) (fun hf => ?_)
            · refine r_bipush (pc' := 85) C rfl dX11_on_83 rfl ?_
              cases hf
              exact r_iret C dX11_on_85
            · refine r_aload_n (pc' := 87) (f4 := 0) (i := 0) C 4 rfl rfl dX11_on_86 rfl ?_
              refine q_getP (pc' := 90) (j := 2) C (K_0 hF) fb_11_2 (by decide) wd_313 (Or.inl rfl) (F_0_2 hF) (by decide) dX11_on_87 rfl ?_
              refine r_aload_n (pc' := 91) (f4 := 0) (i := 0) C 4 rfl rfl dX11_on_90 rfl ?_
              refine q_getP (pc' := 94) (j := 0) C (K_0 hF) fb_11_0 (by decide) wd_311 (Or.inl rfl) (F_0_0 hF) (by decide) dX11_on_91 rfl ?_
              obtain ⟨q61, hq61, hf⟩ := bind_in hf
              refine q_callVv (pc' := 97) C (t_xw_goFrom hF lit_W_99 lit_W_1 hq61) rfl (K_99 hF) cl_10 wv_RX11_198 ⟨Nat.le_of_ble_eq_true rfl, Nat.le_of_ble_eq_true rfl⟩ rfl rfl (Nat.le_of_ble_eq_true rfl) dX11_on_94 rfl ⟨Nat.le_of_ble_eq_true rfl, Nat.le_of_ble_eq_true rfl⟩ ?_
              refine r_aload_n (pc' := 98) (f4 := 0) (i := 0) C 4 rfl rfl dX11_on_97 rfl ?_
              refine q_getP (pc' := 101) (j := 2) C (K_0 hF) fb_11_2 (by decide) wd_313 (Or.inl rfl) (F_0_2 hF) (by decide) dX11_on_98 rfl ?_
              refine r_iload_n (pc' := 102) (f4 := 1) (i := 1) C 5 rfl rfl dX11_on_101 rfl ?_
              obtain ⟨q62, hq62, hf⟩ := bind_in hf
              refine q_callVv (pc' := 105) C (t_xw_goYears hF lit_W_99 hq62) rfl (K_99 hF) cl_10 wv_RX11_194 ⟨Nat.le_of_ble_eq_true rfl, Nat.le_of_ble_eq_true rfl⟩ rfl rfl (Nat.le_of_ble_eq_true rfl) dX11_on_102 rfl ⟨Nat.le_of_ble_eq_true rfl, Nat.le_of_ble_eq_true rfl⟩ ?_
              refine r_iload (pc' := 107) (i := 4) C 2 rfl dX11_on_105 rfl ?_
              refine r_if_eq (pc' := 110) (tgt := 120) C ww_n1 hf dX11_on_107 (by decide) rfl (fun hf => ?_) (fun hf => ?_)
              · refine r_iload (pc' := 122) (i := 6) C 0 rfl dX11_on_120 rfl ?_
                refine r_if_eq (pc' := 125) (tgt := 145) C ww_n1 hf dX11_on_122 (by decide) rfl (fun hf => ?_) (fun hf => ?_)
                · refine r_aload_n (pc' := 146) (f4 := 0) (i := 0) C 4 rfl rfl dX11_on_145 rfl ?_
                  refine q_getP (pc' := 149) (j := 2) C (K_0 hF) fb_11_2 (by decide) wd_313 (Or.inl rfl) (F_0_2 hF) (by decide) dX11_on_146 rfl ?_
                  obtain ⟨q63, hq63, hf⟩ := bind_in hf
                  refine q_callV (pc' := 152) C (t_xw_bearing hF lit_W_99 hq63) rfl (K_99 hF) cl_10 wv_RX11_173 ⟨Nat.le_of_ble_eq_true rfl, Nat.le_of_ble_eq_true rfl⟩ rfl rfl (Nat.le_of_ble_eq_true rfl) dX11_on_149 rfl ⟨Nat.le_of_ble_eq_true rfl, Nat.le_of_ble_eq_true rfl⟩ ?_
                  cases hf
                  exact r_iret C dX11_on_152
                · refine r_aload_n (pc' := 126) (f4 := 0) (i := 0) C 4 rfl rfl dX11_on_125 rfl ?_
                  refine q_getP (pc' := 129) (j := 2) C (K_0 hF) fb_11_2 (by decide) wd_313 (Or.inl rfl) (F_0_2 hF) (by decide) dX11_on_126 rfl ?_
                  refine q_getP (pc' := 132) (j := 2) C (K_99 hF) fb_10_2 (by decide) wd_180 (Or.inl rfl) (F_99_2 hF) (by decide) dX11_on_129 rfl ?_
                  refine r_iload (pc' := 134) (i := 5) C 1 rfl dX11_on_132 rfl ?_
                  refine r_iconst (pc' := 135) C dX11_on_134 rfl ?_
                  refine r_idiv (pc' := 136) C ww_n5 (by decide) dX11_on_135 rfl ?_
                  obtain ⟨hi64, hf⟩ := ck_in hf
                  refine r_aaldP (pc' := 137) (t := 3) C (K_102 hF) (by decide) (by decide) (by decide) (by decide) rfl rfl hi64 (FL102 hF hi64) (Int.add_nonneg (by decide) (hi64).1) dX11_on_136 rfl ?_
                  refine r_iload (pc' := 139) (i := 5) C 1 rfl dX11_on_137 rfl ?_
                  refine r_iconst (pc' := 140) C dX11_on_139 rfl ?_
                  refine r_irem (pc' := 141) C ww_n5 (by decide) dX11_on_140 rfl ?_
                  obtain ⟨hi, hf⟩ := ck_in hf
                  refine r_iald (pc' := 142) C (KL102 hF hi64) rfl hi dX11_on_141 rfl ?_
                  refine r_goto (tgt := 152) C dX11_on_142 (by decide) ?_
                  cases hf
                  exact r_iret C dX11_on_152
              · refine r_aload_n (pc' := 111) (f4 := 0) (i := 0) C 4 rfl rfl dX11_on_110 rfl ?_
                refine q_getP (pc' := 114) (j := 2) C (K_0 hF) fb_11_2 (by decide) wd_313 (Or.inl rfl) (F_0_2 hF) (by decide) dX11_on_111 rfl ?_
                refine q_getP (pc' := 117) (j := 5) C (K_99 hF) fb_10_5 (by decide) wd_187 (Or.inl rfl) (F_99_5 hF) (by decide) dX11_on_114 rfl ?_
                refine r_iload_n (pc' := 118) (f4 := 3) (i := 3) C 3 rfl rfl dX11_on_117 rfl ?_
                obtain ⟨hi, hf⟩ := ck_in hf
                refine r_iald (pc' := 119) C (K_116 hF) rfl hi dX11_on_118 rfl ?_
                cases hf
                exact r_iret C dX11_on_119
          · refine r_iload (pc' := 66) (i := 4) C 2 rfl dX11_on_64 rfl ?_
            refine r_if_ne (pc' := 69) (tgt := 76) C ww_n1 hf dX11_on_66 (by decide) rfl (fun hf => ?_) (fun hf => ?_)
            · refine r_iload (pc' := 71) (i := 6) C 0 rfl dX11_on_69 rfl ?_
              refine r_if_ne (pc' := 74) (tgt := 76) C ww_n1 hf dX11_on_71 (by decide) rfl (fun hf => ?_) (fun hf => ?_)
              · refine r_iconst (pc' := 75) C dX11_on_74 rfl ?_
                cases hf
                exact r_iret C dX11_on_75
              · refine r_iload_n (pc' := 77) (f4 := 1) (i := 1) C 5 rfl rfl dX11_on_76 rfl ?_
                refine q_callS (pc' := 80) C (t_x_isYears hF) rfl ws_RX11_191 ⟨Nat.le_of_ble_eq_true rfl, Nat.le_of_ble_eq_true rfl⟩ rfl rfl (Nat.le_of_ble_eq_true rfl) dX11_on_77 rfl ⟨Nat.le_of_ble_eq_true rfl, Nat.le_of_ble_eq_true rfl⟩ ?_
                refine r_if_ne (pc' := 83) (tgt := 86) C rfl hf dX11_on_80 (by decide) rfl (fun hf => ?_) (fun hf => ?_)
                · refine r_bipush (pc' := 85) C rfl dX11_on_83 rfl ?_
                  cases hf
                  exact r_iret C dX11_on_85
                · refine r_aload_n (pc' := 87) (f4 := 0) (i := 0) C 4 rfl rfl dX11_on_86 rfl ?_
                  refine q_getP (pc' := 90) (j := 2) C (K_0 hF) fb_11_2 (by decide) wd_313 (Or.inl rfl) (F_0_2 hF) (by decide) dX11_on_87 rfl ?_
                  refine r_aload_n (pc' := 91) (f4 := 0) (i := 0) C 4 rfl rfl dX11_on_90 rfl ?_
                  refine q_getP (pc' := 94) (j := 0) C (K_0 hF) fb_11_0 (by decide) wd_311 (Or.inl rfl) (F_0_0 hF) (by decide) dX11_on_91 rfl ?_
                  obtain ⟨q65, hq65, hf⟩ := bind_in hf
                  refine q_callVv (pc' := 97) C (t_xw_goFrom hF lit_W_99 lit_W_1 hq65) rfl (K_99 hF) cl_10 wv_RX11_198 ⟨Nat.le_of_ble_eq_true rfl, Nat.le_of_ble_eq_true rfl⟩ rfl rfl (Nat.le_of_ble_eq_true rfl) dX11_on_94 rfl ⟨Nat.le_of_ble_eq_true rfl, Nat.le_of_ble_eq_true rfl⟩ ?_
                  refine r_aload_n (pc' := 98) (f4 := 0) (i := 0) C 4 rfl rfl dX11_on_97 rfl ?_
                  refine q_getP (pc' := 101) (j := 2) C (K_0 hF) fb_11_2 (by decide) wd_313 (Or.inl rfl) (F_0_2 hF) (by decide) dX11_on_98 rfl ?_
                  refine r_iload_n (pc' := 102) (f4 := 1) (i := 1) C 5 rfl rfl dX11_on_101 rfl ?_
                  obtain ⟨q66, hq66, hf⟩ := bind_in hf
                  refine q_callVv (pc' := 105) C (t_xw_goYears hF lit_W_99 hq66) rfl (K_99 hF) cl_10 wv_RX11_194 ⟨Nat.le_of_ble_eq_true rfl, Nat.le_of_ble_eq_true rfl⟩ rfl rfl (Nat.le_of_ble_eq_true rfl) dX11_on_102 rfl ⟨Nat.le_of_ble_eq_true rfl, Nat.le_of_ble_eq_true rfl⟩ ?_
                  refine r_iload (pc' := 107) (i := 4) C 2 rfl dX11_on_105 rfl ?_
                  refine r_if_eq (pc' := 110) (tgt := 120) C ww_n1 hf dX11_on_107 (by decide) rfl (fun hf => ?_) (fun hf => ?_)
                  · refine r_iload (pc' := 122) (i := 6) C 0 rfl dX11_on_120 rfl ?_
                    refine r_if_eq (pc' := 125) (tgt := 145) C ww_n1 hf dX11_on_122 (by decide) rfl (fun hf => ?_) (fun hf => ?_)
                    · refine r_aload_n (pc' := 146) (f4 := 0) (i := 0) C 4 rfl rfl dX11_on_145 rfl ?_
                      refine q_getP (pc' := 149) (j := 2) C (K_0 hF) fb_11_2 (by decide) wd_313 (Or.inl rfl) (F_0_2 hF) (by decide) dX11_on_146 rfl ?_
                      obtain ⟨q67, hq67, hf⟩ := bind_in hf
                      refine q_callV (pc' := 152) C (t_xw_bearing hF lit_W_99 hq67) rfl (K_99 hF) cl_10 wv_RX11_173 ⟨Nat.le_of_ble_eq_true rfl, Nat.le_of_ble_eq_true rfl⟩ rfl rfl (Nat.le_of_ble_eq_true rfl) dX11_on_149 rfl ⟨Nat.le_of_ble_eq_true rfl, Nat.le_of_ble_eq_true rfl⟩ ?_
                      cases hf
                      exact r_iret C dX11_on_152
                    · refine r_aload_n (pc' := 126) (f4 := 0) (i := 0) C 4 rfl rfl dX11_on_125 rfl ?_
                      refine q_getP (pc' := 129) (j := 2) C (K_0 hF) fb_11_2 (by decide) wd_313 (Or.inl rfl) (F_0_2 hF) (by decide) dX11_on_126 rfl ?_
                      refine q_getP (pc' := 132) (j := 2) C (K_99 hF) fb_10_2 (by decide) wd_180 (Or.inl rfl) (F_99_2 hF) (by decide) dX11_on_129 rfl ?_
                      refine r_iload (pc' := 134) (i := 5) C 1 rfl dX11_on_132 rfl ?_
                      refine r_iconst (pc' := 135) C dX11_on_134 rfl ?_
                      refine r_idiv (pc' := 136) C ww_n5 (by decide) dX11_on_135 rfl ?_
                      obtain ⟨hi68, hf⟩ := ck_in hf
                      refine r_aaldP (pc' := 137) (t := 3) C (K_102 hF) (by decide) (by decide) (by decide) (by decide) rfl rfl hi68 (FL102 hF hi68) (Int.add_nonneg (by decide) (hi68).1) dX11_on_136 rfl ?_
                      refine r_iload (pc' := 139) (i := 5) C 1 rfl dX11_on_137 rfl ?_
                      refine r_iconst (pc' := 140) C dX11_on_139 rfl ?_
                      refine r_irem (pc' := 141) C ww_n5 (by decide) dX11_on_140 rfl ?_
                      obtain ⟨hi, hf⟩ := ck_in hf
                      refine r_iald (pc' := 142) C (KL102 hF hi68) rfl hi dX11_on_141 rfl ?_
                      refine r_goto (tgt := 152) C dX11_on_142 (by decide) ?_
                      cases hf
                      exact r_iret C dX11_on_152
                  · refine r_aload_n (pc' := 111) (f4 := 0) (i := 0) C 4 rfl rfl dX11_on_110 rfl ?_
                    refine q_getP (pc' := 114) (j := 2) C (K_0 hF) fb_11_2 (by decide) wd_313 (Or.inl rfl) (F_0_2 hF) (by decide) dX11_on_111 rfl ?_
                    refine q_getP (pc' := 117) (j := 5) C (K_99 hF) fb_10_5 (by decide) wd_187 (Or.inl rfl) (F_99_5 hF) (by decide) dX11_on_114 rfl ?_
                    refine r_iload_n (pc' := 118) (f4 := 3) (i := 3) C 3 rfl rfl dX11_on_117 rfl ?_
                    obtain ⟨hi, hf⟩ := ck_in hf
                    refine r_iald (pc' := 119) C (K_116 hF) rfl hi dX11_on_118 rfl ?_
                    cases hf
                    exact r_iret C dX11_on_119
            · refine r_iload_n (pc' := 77) (f4 := 1) (i := 1) C 5 rfl rfl dX11_on_76 rfl ?_
              refine q_callS (pc' := 80) C (t_x_isYears hF) rfl ws_RX11_191 ⟨Nat.le_of_ble_eq_true rfl, Nat.le_of_ble_eq_true rfl⟩ rfl rfl (Nat.le_of_ble_eq_true rfl) dX11_on_77 rfl ⟨Nat.le_of_ble_eq_true rfl, Nat.le_of_ble_eq_true rfl⟩ ?_
              refine r_if_ne (pc' := 83) (tgt := 86) C rfl hf dX11_on_80 (by decide) rfl (fun hf => ?_) (fun hf => ?_)
              · refine r_bipush (pc' := 85) C rfl dX11_on_83 rfl ?_
                cases hf
                exact r_iret C dX11_on_85
              · refine r_aload_n (pc' := 87) (f4 := 0) (i := 0) C 4 rfl rfl dX11_on_86 rfl ?_
                refine q_getP (pc' := 90) (j := 2) C (K_0 hF) fb_11_2 (by decide) wd_313 (Or.inl rfl) (F_0_2 hF) (by decide) dX11_on_87 rfl ?_
                refine r_aload_n (pc' := 91) (f4 := 0) (i := 0) C 4 rfl rfl dX11_on_90 rfl ?_
                refine q_getP (pc' := 94) (j := 0) C (K_0 hF) fb_11_0 (by decide) wd_311 (Or.inl rfl) (F_0_0 hF) (by decide) dX11_on_91 rfl ?_
                obtain ⟨q69, hq69, hf⟩ := bind_in hf
                refine q_callVv (pc' := 97) C (t_xw_goFrom hF lit_W_99 lit_W_1 hq69) rfl (K_99 hF) cl_10 wv_RX11_198 ⟨Nat.le_of_ble_eq_true rfl, Nat.le_of_ble_eq_true rfl⟩ rfl rfl (Nat.le_of_ble_eq_true rfl) dX11_on_94 rfl ⟨Nat.le_of_ble_eq_true rfl, Nat.le_of_ble_eq_true rfl⟩ ?_
                refine r_aload_n (pc' := 98) (f4 := 0) (i := 0) C 4 rfl rfl dX11_on_97 rfl ?_
                refine q_getP (pc' := 101) (j := 2) C (K_0 hF) fb_11_2 (by decide) wd_313 (Or.inl rfl) (F_0_2 hF) (by decide) dX11_on_98 rfl ?_
                refine r_iload_n (pc' := 102) (f4 := 1) (i := 1) C 5 rfl rfl dX11_on_101 rfl ?_
                obtain ⟨q70, hq70, hf⟩ := bind_in hf
                refine q_callVv (pc' := 105) C (t_xw_goYears hF lit_W_99 hq70) rfl (K_99 hF) cl_10 wv_RX11_194 ⟨Nat.le_of_ble_eq_true rfl, Nat.le_of_ble_eq_true rfl⟩ rfl rfl (Nat.le_of_ble_eq_true rfl) dX11_on_102 rfl ⟨Nat.le_of_ble_eq_true rfl, Nat.le_of_ble_eq_true rfl⟩ ?_
                refine r_iload (pc' := 107) (i := 4) C 2 rfl dX11_on_105 rfl ?_
                refine r_if_eq (pc' := 110) (tgt := 120) C ww_n1 hf dX11_on_107 (by decide) rfl (fun hf => ?_) (fun hf => ?_)
                · refine r_iload (pc' := 122) (i := 6) C 0 rfl dX11_on_120 rfl ?_
                  refine r_if_eq (pc' := 125) (tgt := 145) C ww_n1 hf dX11_on_122 (by decide) rfl (fun hf => ?_) (fun hf => ?_)
                  · refine r_aload_n (pc' := 146) (f4 := 0) (i := 0) C 4 rfl rfl dX11_on_145 rfl ?_
                    refine q_getP (pc' := 149) (j := 2) C (K_0 hF) fb_11_2 (by decide) wd_313 (Or.inl rfl) (F_0_2 hF) (by decide) dX11_on_146 rfl ?_
                    obtain ⟨q71, hq71, hf⟩ := bind_in hf
                    refine q_callV (pc' := 152) C (t_xw_bearing hF lit_W_99 hq71) rfl (K_99 hF) cl_10 wv_RX11_173 ⟨Nat.le_of_ble_eq_true rfl, Nat.le_of_ble_eq_true rfl⟩ rfl rfl (Nat.le_of_ble_eq_true rfl) dX11_on_149 rfl ⟨Nat.le_of_ble_eq_true rfl, Nat.le_of_ble_eq_true rfl⟩ ?_
                    cases hf
                    exact r_iret C dX11_on_152
                  · refine r_aload_n (pc' := 126) (f4 := 0) (i := 0) C 4 rfl rfl dX11_on_125 rfl ?_
                    refine q_getP (pc' := 129) (j := 2) C (K_0 hF) fb_11_2 (by decide) wd_313 (Or.inl rfl) (F_0_2 hF) (by decide) dX11_on_126 rfl ?_
                    refine q_getP (pc' := 132) (j := 2) C (K_99 hF) fb_10_2 (by decide) wd_180 (Or.inl rfl) (F_99_2 hF) (by decide) dX11_on_129 rfl ?_
                    refine r_iload (pc' := 134) (i := 5) C 1 rfl dX11_on_132 rfl ?_
                    refine r_iconst (pc' := 135) C dX11_on_134 rfl ?_
                    refine r_idiv (pc' := 136) C ww_n5 (by decide) dX11_on_135 rfl ?_
                    obtain ⟨hi72, hf⟩ := ck_in hf
                    refine r_aaldP (pc' := 137) (t := 3) C (K_102 hF) (by decide) (by decide) (by decide) (by decide) rfl rfl hi72 (FL102 hF hi72) (Int.add_nonneg (by decide) (hi72).1) dX11_on_136 rfl ?_
                    refine r_iload (pc' := 139) (i := 5) C 1 rfl dX11_on_137 rfl ?_
                    refine r_iconst (pc' := 140) C dX11_on_139 rfl ?_
                    refine r_irem (pc' := 141) C ww_n5 (by decide) dX11_on_140 rfl ?_
                    obtain ⟨hi, hf⟩ := ck_in hf
                    refine r_iald (pc' := 142) C (KL102 hF hi72) rfl hi dX11_on_141 rfl ?_
                    refine r_goto (tgt := 152) C dX11_on_142 (by decide) ?_
                    cases hf
                    exact r_iret C dX11_on_152
                · refine r_aload_n (pc' := 111) (f4 := 0) (i := 0) C 4 rfl rfl dX11_on_110 rfl ?_
                  refine q_getP (pc' := 114) (j := 2) C (K_0 hF) fb_11_2 (by decide) wd_313 (Or.inl rfl) (F_0_2 hF) (by decide) dX11_on_111 rfl ?_
                  refine q_getP (pc' := 117) (j := 5) C (K_99 hF) fb_10_5 (by decide) wd_187 (Or.inl rfl) (F_99_5 hF) (by decide) dX11_on_114 rfl ?_
                  refine r_iload_n (pc' := 118) (f4 := 3) (i := 3) C 3 rfl rfl dX11_on_117 rfl ?_
                  obtain ⟨hi, hf⟩ := ck_in hf
                  refine r_iald (pc' := 119) C (K_116 hF) rfl hi dX11_on_118 rfl ?_
                  cases hf
                  exact r_iret C dX11_on_119
  · refine r_iconst (pc' := 25) C dX11_on_24 rfl ?_
    refine r_istore (pc' := 27) (i := 4) (L' := [(4, zI 0), (3, zI (zrem a2 10)), (0, zP bs 0), (1, zI a1), (2, zI a2)]) C (by decide) rfl dX11_on_25 rfl ?_
    refine r_iload_n (pc' := 28) (f4 := 2) (i := 2) C 4 rfl rfl dX11_on_27 rfl ?_
    refine r_bipush (pc' := 30) C rfl dX11_on_28 rfl ?_
    refine r_isub (pc' := 31) C dX11_on_30 rfl ?_
    refine r_istore (pc' := 33) (i := 5) (L' := [(5, zI (a2 - 20)), (4, zI 0), (3, zI (zrem a2 10)), (0, zP bs 0), (1, zI a1), (2, zI a2)]) C (by decide) rfl dX11_on_31 rfl ?_
    refine r_iload_n (pc' := 34) (f4 := 2) (i := 2) C 5 rfl rfl dX11_on_33 rfl ?_
    refine r_bipush (pc' := 36) C rfl dX11_on_34 rfl ?_
    refine r_icmp_lt (pc' := 39) (tgt := 57) C rfl ww_n20 hf dX11_on_36 (by decide) rfl (fun hf => ?_) (fun hf => ?_)
    · refine r_iconst (pc' := 58) C dX11_on_57 rfl ?_
      refine r_istore (pc' := 60) (i := 6) (L' := [(6, zI 0), (5, zI (a2 - 20)), (4, zI 0), (3, zI (zrem a2 10)), (0, zP bs 0), (1, zI a1), (2, zI a2)]) C (by decide) rfl dX11_on_58 rfl ?_
      refine r_iload_n (pc' := 61) (f4 := 2) (i := 2) C 6 rfl rfl dX11_on_60 rfl ?_
      refine r_if_eq (pc' := 64) (tgt := 76) C rfl hf dX11_on_61 (by decide) rfl (fun hf => ?_) (fun hf => ?_)
      · refine r_iload_n (pc' := 77) (f4 := 1) (i := 1) C 5 rfl rfl dX11_on_76 rfl ?_
        refine q_callS (pc' := 80) C (t_x_isYears hF) rfl ws_RX11_191 ⟨Nat.le_of_ble_eq_true rfl, Nat.le_of_ble_eq_true rfl⟩ rfl rfl (Nat.le_of_ble_eq_true rfl) dX11_on_77 rfl ⟨Nat.le_of_ble_eq_true rfl, Nat.le_of_ble_eq_true rfl⟩ ?_
        refine r_if_ne (pc' := 83) (tgt := 86) C rfl hf dX11_on_80 (by decide) rfl (fun hf => ?_) (fun hf => ?_)
        · refine r_bipush (pc' := 85) C rfl dX11_on_83 rfl ?_
          cases hf
          exact r_iret C dX11_on_85
        · refine r_aload_n (pc' := 87) (f4 := 0) (i := 0) C 4 rfl rfl dX11_on_86 rfl ?_
          refine q_getP (pc' := 90) (j := 2) C (K_0 hF) fb_11_2 (by decide) wd_313 (Or.inl rfl) (F_0_2 hF) (by decide) dX11_on_87 rfl ?_
          refine r_aload_n (pc' := 91) (f4 := 0) (i := 0) C 4 rfl rfl dX11_on_90 rfl ?_
          refine q_getP (pc' := 94) (j := 0) C (K_0 hF) fb_11_0 (by decide) wd_311 (Or.inl rfl) (F_0_0 hF) (by decide) dX11_on_91 rfl ?_
          obtain ⟨q73, hq73, hf⟩ := bind_in hf
          refine q_callVv (pc' := 97) C (t_xw_goFrom hF lit_W_99 lit_W_1 hq73) rfl (K_99 hF) cl_10 wv_RX11_198 ⟨Nat.le_of_ble_eq_true rfl, Nat.le_of_ble_eq_true rfl⟩ rfl rfl (Nat.le_of_ble_eq_true rfl) dX11_on_94 rfl ⟨Nat.le_of_ble_eq_true rfl, Nat.le_of_ble_eq_true rfl⟩ ?_
          refine r_aload_n (pc' := 98) (f4 := 0) (i := 0) C 4 rfl rfl dX11_on_97 rfl ?_
          refine q_getP (pc' := 101) (j := 2) C (K_0 hF) fb_11_2 (by decide) wd_313 (Or.inl rfl) (F_0_2 hF) (by decide) dX11_on_98 rfl ?_
          refine r_iload_n (pc' := 102) (f4 := 1) (i := 1) C 5 rfl rfl dX11_on_101 rfl ?_
          obtain ⟨q74, hq74, hf⟩ := bind_in hf
          refine q_callVv (pc' := 105) C (t_xw_goYears hF lit_W_99 hq74) rfl (K_99 hF) cl_10 wv_RX11_194 ⟨Nat.le_of_ble_eq_true rfl, Nat.le_of_ble_eq_true rfl⟩ rfl rfl (Nat.le_of_ble_eq_true rfl) dX11_on_102 rfl ⟨Nat.le_of_ble_eq_true rfl, Nat.le_of_ble_eq_true rfl⟩ ?_
          refine r_iload (pc' := 107) (i := 4) C 2 rfl dX11_on_105 rfl ?_
          refine r_if_eq (pc' := 110) (tgt := 120) C ww_n0 hf dX11_on_107 (by decide) rfl (fun hf => ?_) (fun hf => ?_)
          · refine r_iload (pc' := 122) (i := 6) C 0 rfl dX11_on_120 rfl ?_
            refine r_if_eq (pc' := 125) (tgt := 145) C ww_n0 hf dX11_on_122 (by decide) rfl (fun hf => ?_) (fun hf => ?_)
            · refine r_aload_n (pc' := 146) (f4 := 0) (i := 0) C 4 rfl rfl dX11_on_145 rfl ?_
              refine q_getP (pc' := 149) (j := 2) C (K_0 hF) fb_11_2 (by decide) wd_313 (Or.inl rfl) (F_0_2 hF) (by decide) dX11_on_146 rfl ?_
              obtain ⟨q75, hq75, hf⟩ := bind_in hf
              refine q_callV (pc' := 152) C (t_xw_bearing hF lit_W_99 hq75) rfl (K_99 hF) cl_10 wv_RX11_173 ⟨Nat.le_of_ble_eq_true rfl, Nat.le_of_ble_eq_true rfl⟩ rfl rfl (Nat.le_of_ble_eq_true rfl) dX11_on_149 rfl ⟨Nat.le_of_ble_eq_true rfl, Nat.le_of_ble_eq_true rfl⟩ ?_
              cases hf
              exact r_iret C dX11_on_152
            · refine r_aload_n (pc' := 126) (f4 := 0) (i := 0) C 4 rfl rfl dX11_on_125 rfl ?_
              refine q_getP (pc' := 129) (j := 2) C (K_0 hF) fb_11_2 (by decide) wd_313 (Or.inl rfl) (F_0_2 hF) (by decide) dX11_on_126 rfl ?_
              refine q_getP (pc' := 132) (j := 2) C (K_99 hF) fb_10_2 (by decide) wd_180 (Or.inl rfl) (F_99_2 hF) (by decide) dX11_on_129 rfl ?_
              refine r_iload (pc' := 134) (i := 5) C 1 rfl dX11_on_132 rfl ?_
              refine r_iconst (pc' := 135) C dX11_on_134 rfl ?_
              refine r_idiv (pc' := 136) C ww_n5 (by decide) dX11_on_135 rfl ?_
              obtain ⟨hi76, hf⟩ := ck_in hf
              refine r_aaldP (pc' := 137) (t := 3) C (K_102 hF) (by decide) (by decide) (by decide) (by decide) rfl rfl hi76 (FL102 hF hi76) (Int.add_nonneg (by decide) (hi76).1) dX11_on_136 rfl ?_
              refine r_iload (pc' := 139) (i := 5) C 1 rfl dX11_on_137 rfl ?_
              refine r_iconst (pc' := 140) C dX11_on_139 rfl ?_
              refine r_irem (pc' := 141) C ww_n5 (by decide) dX11_on_140 rfl ?_
              obtain ⟨hi, hf⟩ := ck_in hf
              refine r_iald (pc' := 142) C (KL102 hF hi76) rfl hi dX11_on_141 rfl ?_
              refine r_goto (tgt := 152) C dX11_on_142 (by decide) ?_
              cases hf
              exact r_iret C dX11_on_152
          · refine r_aload_n (pc' := 111) (f4 := 0) (i := 0) C 4 rfl rfl dX11_on_110 rfl ?_
            refine q_getP (pc' := 114) (j := 2) C (K_0 hF) fb_11_2 (by decide) wd_313 (Or.inl rfl) (F_0_2 hF) (by decide) dX11_on_111 rfl ?_
            refine q_getP (pc' := 117) (j := 5) C (K_99 hF) fb_10_5 (by decide) wd_187 (Or.inl rfl) (F_99_5 hF) (by decide) dX11_on_114 rfl ?_
            refine r_iload_n (pc' := 118) (f4 := 3) (i := 3) C 3 rfl rfl dX11_on_117 rfl ?_
            obtain ⟨hi, hf⟩ := ck_in hf
            refine r_iald (pc' := 119) C (K_116 hF) rfl hi dX11_on_118 rfl ?_
            cases hf
            exact r_iret C dX11_on_119
      · refine r_iload (pc' := 66) (i := 4) C 2 rfl dX11_on_64 rfl ?_
        refine r_if_ne (pc' := 69) (tgt := 76) C ww_n0 hf dX11_on_66 (by decide) rfl (fun hf => ?_) (fun hf => ?_)
        · refine r_iload (pc' := 71) (i := 6) C 0 rfl dX11_on_69 rfl ?_
          refine r_if_ne (pc' := 74) (tgt := 76) C ww_n0 hf dX11_on_71 (by decide) rfl (fun hf => ?_) (fun hf => ?_)
          · refine r_iconst (pc' := 75) C dX11_on_74 rfl ?_
            cases hf
            exact r_iret C dX11_on_75
          · refine r_iload_n (pc' := 77) (f4 := 1) (i := 1) C 5 rfl rfl dX11_on_76 rfl ?_
            refine q_callS (pc' := 80) C (t_x_isYears hF) rfl ws_RX11_191 ⟨Nat.le_of_ble_eq_true rfl, Nat.le_of_ble_eq_true rfl⟩ rfl rfl (Nat.le_of_ble_eq_true rfl) dX11_on_77 rfl ⟨Nat.le_of_ble_eq_true rfl, Nat.le_of_ble_eq_true rfl⟩ ?_
            refine r_if_ne (pc' := 83) (tgt := 86) C rfl hf dX11_on_80 (by decide) rfl (fun hf => ?_) (fun hf => ?_)
            · refine r_bipush (pc' := 85) C rfl dX11_on_83 rfl ?_
              cases hf
              exact r_iret C dX11_on_85
            · refine r_aload_n (pc' := 87) (f4 := 0) (i := 0) C 4 rfl rfl dX11_on_86 rfl ?_
              refine q_getP (pc' := 90) (j := 2) C (K_0 hF) fb_11_2 (by decide) wd_313 (Or.inl rfl) (F_0_2 hF) (by decide) dX11_on_87 rfl ?_
              refine r_aload_n (pc' := 91) (f4 := 0) (i := 0) C 4 rfl rfl dX11_on_90 rfl ?_
              refine q_getP (pc' := 94) (j := 0) C (K_0 hF) fb_11_0 (by decide) wd_311 (Or.inl rfl) (F_0_0 hF) (by decide) dX11_on_91 rfl ?_
              obtain ⟨q77, hq77, hf⟩ := bind_in hf
              refine q_callVv (pc' := 97) C (t_xw_goFrom hF lit_W_99 lit_W_1 hq77) rfl (K_99 hF) cl_10 wv_RX11_198 ⟨Nat.le_of_ble_eq_true rfl, Nat.le_of_ble_eq_true rfl⟩ rfl rfl (Nat.le_of_ble_eq_true rfl) dX11_on_94 rfl ⟨Nat.le_of_ble_eq_true rfl, Nat.le_of_ble_eq_true rfl⟩ ?_
              refine r_aload_n (pc' := 98) (f4 := 0) (i := 0) C 4 rfl rfl dX11_on_97 rfl ?_
              refine q_getP (pc' := 101) (j := 2) C (K_0 hF) fb_11_2 (by decide) wd_313 (Or.inl rfl) (F_0_2 hF) (by decide) dX11_on_98 rfl ?_
              refine r_iload_n (pc' := 102) (f4 := 1) (i := 1) C 5 rfl rfl dX11_on_101 rfl ?_
              obtain ⟨q78, hq78, hf⟩ := bind_in hf
              refine q_callVv (pc' := 105) C (t_xw_goYears hF lit_W_99 hq78) rfl (K_99 hF) cl_10 wv_RX11_194 ⟨Nat.le_of_ble_eq_true rfl, Nat.le_of_ble_eq_true rfl⟩ rfl rfl (Nat.le_of_ble_eq_true rfl) dX11_on_102 rfl ⟨Nat.le_of_ble_eq_true rfl, Nat.le_of_ble_eq_true rfl⟩ ?_
              refine r_iload (pc' := 107) (i := 4) C 2 rfl dX11_on_105 rfl ?_
              refine r_if_eq (pc' := 110) (tgt := 120) C ww_n0 hf dX11_on_107 (by decide) rfl (fun hf => ?_) (fun hf => ?_)
              · refine r_iload (pc' := 122) (i := 6) C 0 rfl dX11_on_120 rfl ?_
                refine r_if_eq (pc' := 125) (tgt := 145) C ww_n0 hf dX11_on_122 (by decide) rfl (fun hf => ?_) (fun hf => ?_)
                · refine r_aload_n (pc' := 146) (f4 := 0) (i := 0) C 4 rfl rfl dX11_on_145 rfl ?_
                  refine q_getP (pc' := 149) (j := 2) C (K_0 hF) fb_11_2 (by decide) wd_313 (Or.inl rfl) (F_0_2 hF) (by decide) dX11_on_146 rfl ?_
                  obtain ⟨q79, hq79, hf⟩ := bind_in hf
                  refine q_callV (pc' := 152) C (t_xw_bearing hF lit_W_99 hq79) rfl (K_99 hF) cl_10 wv_RX11_173 ⟨Nat.le_of_ble_eq_true rfl, Nat.le_of_ble_eq_true rfl⟩ rfl rfl (Nat.le_of_ble_eq_true rfl) dX11_on_149 rfl ⟨Nat.le_of_ble_eq_true rfl, Nat.le_of_ble_eq_true rfl⟩ ?_
                  cases hf
                  exact r_iret C dX11_on_152
                · refine r_aload_n (pc' := 126) (f4 := 0) (i := 0) C 4 rfl rfl dX11_on_125 rfl ?_
                  refine q_getP (pc' := 129) (j := 2) C (K_0 hF) fb_11_2 (by decide) wd_313 (Or.inl rfl) (F_0_2 hF) (by decide) dX11_on_126 rfl ?_
                  refine q_getP (pc' := 132) (j := 2) C (K_99 hF) fb_10_2 (by decide) wd_180 (Or.inl rfl) (F_99_2 hF) (by decide) dX11_on_129 rfl ?_
                  refine r_iload (pc' := 134) (i := 5) C 1 rfl dX11_on_132 rfl ?_
                  refine r_iconst (pc' := 135) C dX11_on_134 rfl ?_
                  refine r_idiv (pc' := 136) C ww_n5 (by decide) dX11_on_135 rfl ?_
                  obtain ⟨hi80, hf⟩ := ck_in hf
                  refine r_aaldP (pc' := 137) (t := 3) C (K_102 hF) (by decide) (by decide) (by decide) (by decide) rfl rfl hi80 (FL102 hF hi80) (Int.add_nonneg (by decide) (hi80).1) dX11_on_136 rfl ?_
                  refine r_iload (pc' := 139) (i := 5) C 1 rfl dX11_on_137 rfl ?_
                  refine r_iconst (pc' := 140) C dX11_on_139 rfl ?_
                  refine r_irem (pc' := 141) C ww_n5 (by decide) dX11_on_140 rfl ?_
                  obtain ⟨hi, hf⟩ := ck_in hf
                  refine r_iald (pc' := 142) C (KL102 hF hi80) rfl hi dX11_on_141 rfl ?_
                  refine r_goto (tgt := 152) C dX11_on_142 (by decide) ?_
                  cases hf
                  exact r_iret C dX11_on_152
              · refine r_aload_n (pc' := 111) (f4 := 0) (i := 0) C 4 rfl rfl dX11_on_110 rfl ?_
                refine q_getP (pc' := 114) (j := 2) C (K_0 hF) fb_11_2 (by decide) wd_313 (Or.inl rfl) (F_0_2 hF) (by decide) dX11_on_111 rfl ?_
                refine q_getP (pc' := 117) (j := 5) C (K_99 hF) fb_10_5 (by decide) wd_187 (Or.inl rfl) (F_99_5 hF) (by decide) dX11_on_114 rfl ?_
                refine r_iload_n (pc' := 118) (f4 := 3) (i := 3) C 3 rfl rfl dX11_on_117 rfl ?_
                obtain ⟨hi, hf⟩ := ck_in hf
                refine r_iald (pc' := 119) C (K_116 hF) rfl hi dX11_on_118 rfl ?_
                cases hf
                exact r_iret C dX11_on_119
        · refine r_iload_n (pc' := 77) (f4 := 1) (i := 1) C 5 rfl rfl dX11_on_76 rfl ?_
          refine q_callS (pc' := 80) C (t_x_isYears hF) rfl ws_RX11_191 ⟨Nat.le_of_ble_eq_true rfl, Nat.le_of_ble_eq_true rfl⟩ rfl rfl (Nat.le_of_ble_eq_true rfl) dX11_on_77 rfl ⟨Nat.le_of_ble_eq_true rfl, Nat.le_of_ble_eq_true rfl⟩ ?_
          refine r_if_ne (pc' := 83) (tgt := 86) C rfl hf dX11_on_80 (by decide) rfl (fun hf => ?_) (fun hf => ?_)
          · refine r_bipush (pc' := 85) C rfl dX11_on_83 rfl ?_
            cases hf
            exact r_iret C dX11_on_85
          · refine r_aload_n (pc' := 87) (f4 := 0) (i := 0) C 4 rfl rfl dX11_on_86 rfl ?_
            refine q_getP (pc' := 90) (j := 2) C (K_0 hF) fb_11_2 (by decide) wd_313 (Or.inl rfl) (F_0_2 hF) (by decide) dX11_on_87 rfl ?_
            refine r_aload_n (pc' := 91) (f4 := 0) (i := 0) C 4 rfl rfl dX11_on_90 rfl ?_
            refine q_getP (pc' := 94) (j := 0) C (K_0 hF) fb_11_0 (by decide) wd_311 (Or.inl rfl) (F_0_0 hF) (by decide) dX11_on_91 rfl ?_
            obtain ⟨q81, hq81, hf⟩ := bind_in hf
            refine q_callVv (pc' := 97) C (t_xw_goFrom hF lit_W_99 lit_W_1 hq81) rfl (K_99 hF) cl_10 wv_RX11_198 ⟨Nat.le_of_ble_eq_true rfl, Nat.le_of_ble_eq_true rfl⟩ rfl rfl (Nat.le_of_ble_eq_true rfl) dX11_on_94 rfl ⟨Nat.le_of_ble_eq_true rfl, Nat.le_of_ble_eq_true rfl⟩ ?_
            refine r_aload_n (pc' := 98) (f4 := 0) (i := 0) C 4 rfl rfl dX11_on_97 rfl ?_
            refine q_getP (pc' := 101) (j := 2) C (K_0 hF) fb_11_2 (by decide) wd_313 (Or.inl rfl) (F_0_2 hF) (by decide) dX11_on_98 rfl ?_
            refine r_iload_n (pc' := 102) (f4 := 1) (i := 1) C 5 rfl rfl dX11_on_101 rfl ?_
            obtain ⟨q82, hq82, hf⟩ := bind_in hf
            refine q_callVv (pc' := 105) C (t_xw_goYears hF lit_W_99 hq82) rfl (K_99 hF) cl_10 wv_RX11_194 ⟨Nat.le_of_ble_eq_true rfl, Nat.le_of_ble_eq_true rfl⟩ rfl rfl (Nat.le_of_ble_eq_true rfl) dX11_on_102 rfl ⟨Nat.le_of_ble_eq_true rfl, Nat.le_of_ble_eq_true rfl⟩ ?_
            refine r_iload (pc' := 107) (i := 4) C 2 rfl dX11_on_105 rfl ?_
            refine r_if_eq (pc' := 110) (tgt := 120) C ww_n0 hf dX11_on_107 (by decide) rfl (fun hf => ?_) (fun hf => ?_)
            · refine r_iload (pc' := 122) (i := 6) C 0 rfl dX11_on_120 rfl ?_
              refine r_if_eq (pc' := 125) (tgt := 145) C ww_n0 hf dX11_on_122 (by decide) rfl (fun hf => ?_) (fun hf => ?_)
              · refine r_aload_n (pc' := 146) (f4 := 0) (i := 0) C 4 rfl rfl dX11_on_145 rfl ?_
                refine q_getP (pc' := 149) (j := 2) C (K_0 hF) fb_11_2 (by decide) wd_313 (Or.inl rfl) (F_0_2 hF) (by decide) dX11_on_146 rfl ?_
                obtain ⟨q83, hq83, hf⟩ := bind_in hf
                refine q_callV (pc' := 152) C (t_xw_bearing hF lit_W_99 hq83) rfl (K_99 hF) cl_10 wv_RX11_173 ⟨Nat.le_of_ble_eq_true rfl, Nat.le_of_ble_eq_true rfl⟩ rfl rfl (Nat.le_of_ble_eq_true rfl) dX11_on_149 rfl ⟨Nat.le_of_ble_eq_true rfl, Nat.le_of_ble_eq_true rfl⟩ ?_
                cases hf
                exact r_iret C dX11_on_152
              · refine r_aload_n (pc' := 126) (f4 := 0) (i := 0) C 4 rfl rfl dX11_on_125 rfl ?_
                refine q_getP (pc' := 129) (j := 2) C (K_0 hF) fb_11_2 (by decide) wd_313 (Or.inl rfl) (F_0_2 hF) (by decide) dX11_on_126 rfl ?_
                refine q_getP (pc' := 132) (j := 2) C (K_99 hF) fb_10_2 (by decide) wd_180 (Or.inl rfl) (F_99_2 hF) (by decide) dX11_on_129 rfl ?_
                refine r_iload (pc' := 134) (i := 5) C 1 rfl dX11_on_132 rfl ?_
                refine r_iconst (pc' := 135) C dX11_on_134 rfl ?_
                refine r_idiv (pc' := 136) C ww_n5 (by decide) dX11_on_135 rfl ?_
                obtain ⟨hi84, hf⟩ := ck_in hf
                refine r_aaldP (pc' := 137) (t := 3) C (K_102 hF) (by decide) (by decide) (by decide) (by decide) rfl rfl hi84 (FL102 hF hi84) (Int.add_nonneg (by decide) (hi84).1) dX11_on_136 rfl ?_
                refine r_iload (pc' := 139) (i := 5) C 1 rfl dX11_on_137 rfl ?_
                refine r_iconst (pc' := 140) C dX11_on_139 rfl ?_
                refine r_irem (pc' := 141) C ww_n5 (by decide) dX11_on_140 rfl ?_
                obtain ⟨hi, hf⟩ := ck_in hf
                refine r_iald (pc' := 142) C (KL102 hF hi84) rfl hi dX11_on_141 rfl ?_
                refine r_goto (tgt := 152) C dX11_on_142 (by decide) ?_
                cases hf
                exact r_iret C dX11_on_152
            · refine r_aload_n (pc' := 111) (f4 := 0) (i := 0) C 4 rfl rfl dX11_on_110 rfl ?_
              refine q_getP (pc' := 114) (j := 2) C (K_0 hF) fb_11_2 (by decide) wd_313 (Or.inl rfl) (F_0_2 hF) (by decide) dX11_on_111 rfl ?_
              refine q_getP (pc' := 117) (j := 5) C (K_99 hF) fb_10_5 (by decide) wd_187 (Or.inl rfl) (F_99_5 hF) (by decide) dX11_on_114 rfl ?_
              refine r_iload_n (pc' := 118) (f4 := 3) (i := 3) C 3 rfl rfl dX11_on_117 rfl ?_
              obtain ⟨hi, hf⟩ := ck_in hf
              refine r_iald (pc' := 119) C (K_116 hF) rfl hi dX11_on_118 rfl ?_
              cases hf
              exact r_iret C dX11_on_119
    · refine r_aload_n (pc' := 40) (f4 := 0) (i := 0) C 3 rfl rfl dX11_on_39 rfl ?_
      refine q_getP (pc' := 43) (j := 0) C (K_0 hF) fb_11_0 (by decide) wd_311 (Or.inl rfl) (F_0_0 hF) (by decide) dX11_on_40 rfl ?_
      refine r_iload (pc' := 45) (i := 5) C 0 rfl dX11_on_43 rfl ?_
      refine r_iconst (pc' := 46) C dX11_on_45 rfl ?_
      refine r_idiv (pc' := 47) C ww_n5 (by decide) dX11_on_46 rfl ?_
      refine q_callV (pc' := 50) C (t_xw_has hF lit_W_1) rfl (K_1 hF) cl_10 wv_RX11_87 ⟨Nat.le_of_ble_eq_true rfl, Nat.le_of_ble_eq_true rfl⟩ rfl rfl (Nat.le_of_ble_eq_true rfl) dX11_on_47 rfl ⟨Nat.le_of_ble_eq_true rfl, Nat.le_of_ble_eq_true rfl⟩ ?_
      refine r_if_eq (pc' := 53) (tgt := 57) C rfl hf dX11_on_50 (by decide) rfl (fun hf => ?_) (fun hf => ?_)
      · refine r_iconst (pc' := 58) C dX11_on_57 rfl ?_
        refine r_istore (pc' := 60) (i := 6) (L' := [(6, zI 0), (5, zI (a2 - 20)), (4, zI 0), (3, zI (zrem a2 10)), (0, zP bs 0), (1, zI a1), (2, zI a2)]) C (by decide) rfl dX11_on_58 rfl ?_
        refine r_iload_n (pc' := 61) (f4 := 2) (i := 2) C 6 rfl rfl dX11_on_60 rfl ?_
        refine r_if_eq (pc' := 64) (tgt := 76) C rfl hf dX11_on_61 (by decide) rfl (fun hf => ?_) (fun hf => ?_)
        · refine r_iload_n (pc' := 77) (f4 := 1) (i := 1) C 5 rfl rfl dX11_on_76 rfl ?_
          refine q_callS (pc' := 80) C (t_x_isYears hF) rfl ws_RX11_191 ⟨Nat.le_of_ble_eq_true rfl, Nat.le_of_ble_eq_true rfl⟩ rfl rfl (Nat.le_of_ble_eq_true rfl) dX11_on_77 rfl ⟨Nat.le_of_ble_eq_true rfl, Nat.le_of_ble_eq_true rfl⟩ ?_
          refine r_if_ne (pc' := 83) (tgt := 86) C rfl hf dX11_on_80 (by decide) rfl (fun hf => ?_) (fun hf => ?_)
          · refine r_bipush (pc' := 85) C rfl dX11_on_83 rfl ?_
            cases hf
            exact r_iret C dX11_on_85
          · refine r_aload_n (pc' := 87) (f4 := 0) (i := 0) C 4 rfl rfl dX11_on_86 rfl ?_
            refine q_getP (pc' := 90) (j := 2) C (K_0 hF) fb_11_2 (by decide) wd_313 (Or.inl rfl) (F_0_2 hF) (by decide) dX11_on_87 rfl ?_
            refine r_aload_n (pc' := 91) (f4 := 0) (i := 0) C 4 rfl rfl dX11_on_90 rfl ?_
            refine q_getP (pc' := 94) (j := 0) C (K_0 hF) fb_11_0 (by decide) wd_311 (Or.inl rfl) (F_0_0 hF) (by decide) dX11_on_91 rfl ?_
            obtain ⟨q85, hq85, hf⟩ := bind_in hf
            refine q_callVv (pc' := 97) C (t_xw_goFrom hF lit_W_99 lit_W_1 hq85) rfl (K_99 hF) cl_10 wv_RX11_198 ⟨Nat.le_of_ble_eq_true rfl, Nat.le_of_ble_eq_true rfl⟩ rfl rfl (Nat.le_of_ble_eq_true rfl) dX11_on_94 rfl ⟨Nat.le_of_ble_eq_true rfl, Nat.le_of_ble_eq_true rfl⟩ ?_
            refine r_aload_n (pc' := 98) (f4 := 0) (i := 0) C 4 rfl rfl dX11_on_97 rfl ?_
            refine q_getP (pc' := 101) (j := 2) C (K_0 hF) fb_11_2 (by decide) wd_313 (Or.inl rfl) (F_0_2 hF) (by decide) dX11_on_98 rfl ?_
            refine r_iload_n (pc' := 102) (f4 := 1) (i := 1) C 5 rfl rfl dX11_on_101 rfl ?_
            obtain ⟨q86, hq86, hf⟩ := bind_in hf
            refine q_callVv (pc' := 105) C (t_xw_goYears hF lit_W_99 hq86) rfl (K_99 hF) cl_10 wv_RX11_194 ⟨Nat.le_of_ble_eq_true rfl, Nat.le_of_ble_eq_true rfl⟩ rfl rfl (Nat.le_of_ble_eq_true rfl) dX11_on_102 rfl ⟨Nat.le_of_ble_eq_true rfl, Nat.le_of_ble_eq_true rfl⟩ ?_
            refine r_iload (pc' := 107) (i := 4) C 2 rfl dX11_on_105 rfl ?_
            refine r_if_eq (pc' := 110) (tgt := 120) C ww_n0 hf dX11_on_107 (by decide) rfl (fun hf => ?_) (fun hf => ?_)
            · refine r_iload (pc' := 122) (i := 6) C 0 rfl dX11_on_120 rfl ?_
              refine r_if_eq (pc' := 125) (tgt := 145) C ww_n0 hf dX11_on_122 (by decide) rfl (fun hf => ?_) (fun hf => ?_)
              · refine r_aload_n (pc' := 146) (f4 := 0) (i := 0) C 4 rfl rfl dX11_on_145 rfl ?_
                refine q_getP (pc' := 149) (j := 2) C (K_0 hF) fb_11_2 (by decide) wd_313 (Or.inl rfl) (F_0_2 hF) (by decide) dX11_on_146 rfl ?_
                obtain ⟨q87, hq87, hf⟩ := bind_in hf
                refine q_callV (pc' := 152) C (t_xw_bearing hF lit_W_99 hq87) rfl (K_99 hF) cl_10 wv_RX11_173 ⟨Nat.le_of_ble_eq_true rfl, Nat.le_of_ble_eq_true rfl⟩ rfl rfl (Nat.le_of_ble_eq_true rfl) dX11_on_149 rfl ⟨Nat.le_of_ble_eq_true rfl, Nat.le_of_ble_eq_true rfl⟩ ?_
                cases hf
                exact r_iret C dX11_on_152
              · refine r_aload_n (pc' := 126) (f4 := 0) (i := 0) C 4 rfl rfl dX11_on_125 rfl ?_
                refine q_getP (pc' := 129) (j := 2) C (K_0 hF) fb_11_2 (by decide) wd_313 (Or.inl rfl) (F_0_2 hF) (by decide) dX11_on_126 rfl ?_
                refine q_getP (pc' := 132) (j := 2) C (K_99 hF) fb_10_2 (by decide) wd_180 (Or.inl rfl) (F_99_2 hF) (by decide) dX11_on_129 rfl ?_
                refine r_iload (pc' := 134) (i := 5) C 1 rfl dX11_on_132 rfl ?_
                refine r_iconst (pc' := 135) C dX11_on_134 rfl ?_
                refine r_idiv (pc' := 136) C ww_n5 (by decide) dX11_on_135 rfl ?_
                obtain ⟨hi88, hf⟩ := ck_in hf
                refine r_aaldP (pc' := 137) (t := 3) C (K_102 hF) (by decide) (by decide) (by decide) (by decide) rfl rfl hi88 (FL102 hF hi88) (Int.add_nonneg (by decide) (hi88).1) dX11_on_136 rfl ?_
                refine r_iload (pc' := 139) (i := 5) C 1 rfl dX11_on_137 rfl ?_
                refine r_iconst (pc' := 140) C dX11_on_139 rfl ?_
                refine r_irem (pc' := 141) C ww_n5 (by decide) dX11_on_140 rfl ?_
                obtain ⟨hi, hf⟩ := ck_in hf
                refine r_iald (pc' := 142) C (KL102 hF hi88) rfl hi dX11_on_141 rfl ?_
                refine r_goto (tgt := 152) C dX11_on_142 (by decide) ?_
                cases hf
                exact r_iret C dX11_on_152
            · refine r_aload_n (pc' := 111) (f4 := 0) (i := 0) C 4 rfl rfl dX11_on_110 rfl ?_
              refine q_getP (pc' := 114) (j := 2) C (K_0 hF) fb_11_2 (by decide) wd_313 (Or.inl rfl) (F_0_2 hF) (by decide) dX11_on_111 rfl ?_
              refine q_getP (pc' := 117) (j := 5) C (K_99 hF) fb_10_5 (by decide) wd_187 (Or.inl rfl) (F_99_5 hF) (by decide) dX11_on_114 rfl ?_
              refine r_iload_n (pc' := 118) (f4 := 3) (i := 3) C 3 rfl rfl dX11_on_117 rfl ?_
              obtain ⟨hi, hf⟩ := ck_in hf
              refine r_iald (pc' := 119) C (K_116 hF) rfl hi dX11_on_118 rfl ?_
              cases hf
              exact r_iret C dX11_on_119
        · refine r_iload (pc' := 66) (i := 4) C 2 rfl dX11_on_64 rfl ?_
          refine r_if_ne (pc' := 69) (tgt := 76) C ww_n0 hf dX11_on_66 (by decide) rfl (fun hf => ?_) (fun hf => ?_)
          · refine r_iload (pc' := 71) (i := 6) C 0 rfl dX11_on_69 rfl ?_
            refine r_if_ne (pc' := 74) (tgt := 76) C ww_n0 hf dX11_on_71 (by decide) rfl (fun hf => ?_) (fun hf => ?_)
            · refine r_iconst (pc' := 75) C dX11_on_74 rfl ?_
              cases hf
              exact r_iret C dX11_on_75
            · refine r_iload_n (pc' := 77) (f4 := 1) (i := 1) C 5 rfl rfl dX11_on_76 rfl ?_
              refine q_callS (pc' := 80) C (t_x_isYears hF) rfl ws_RX11_191 ⟨Nat.le_of_ble_eq_true rfl, Nat.le_of_ble_eq_true rfl⟩ rfl rfl (Nat.le_of_ble_eq_true rfl) dX11_on_77 rfl ⟨Nat.le_of_ble_eq_true rfl, Nat.le_of_ble_eq_true rfl⟩ ?_
              refine r_if_ne (pc' := 83) (tgt := 86) C rfl hf dX11_on_80 (by decide) rfl (fun hf => ?_) (fun hf => ?_)
              · refine r_bipush (pc' := 85) C rfl dX11_on_83 rfl ?_
                cases hf
                exact r_iret C dX11_on_85
              · refine r_aload_n (pc' := 87) (f4 := 0) (i := 0) C 4 rfl rfl dX11_on_86 rfl ?_
                refine q_getP (pc' := 90) (j := 2) C (K_0 hF) fb_11_2 (by decide) wd_313 (Or.inl rfl) (F_0_2 hF) (by decide) dX11_on_87 rfl ?_
                refine r_aload_n (pc' := 91) (f4 := 0) (i := 0) C 4 rfl rfl dX11_on_90 rfl ?_
                refine q_getP (pc' := 94) (j := 0) C (K_0 hF) fb_11_0 (by decide) wd_311 (Or.inl rfl) (F_0_0 hF) (by decide) dX11_on_91 rfl ?_
                obtain ⟨q89, hq89, hf⟩ := bind_in hf
                refine q_callVv (pc' := 97) C (t_xw_goFrom hF lit_W_99 lit_W_1 hq89) rfl (K_99 hF) cl_10 wv_RX11_198 ⟨Nat.le_of_ble_eq_true rfl, Nat.le_of_ble_eq_true rfl⟩ rfl rfl (Nat.le_of_ble_eq_true rfl) dX11_on_94 rfl ⟨Nat.le_of_ble_eq_true rfl, Nat.le_of_ble_eq_true rfl⟩ ?_
                refine r_aload_n (pc' := 98) (f4 := 0) (i := 0) C 4 rfl rfl dX11_on_97 rfl ?_
                refine q_getP (pc' := 101) (j := 2) C (K_0 hF) fb_11_2 (by decide) wd_313 (Or.inl rfl) (F_0_2 hF) (by decide) dX11_on_98 rfl ?_
                refine r_iload_n (pc' := 102) (f4 := 1) (i := 1) C 5 rfl rfl dX11_on_101 rfl ?_
                obtain ⟨q90, hq90, hf⟩ := bind_in hf
                refine q_callVv (pc' := 105) C (t_xw_goYears hF lit_W_99 hq90) rfl (K_99 hF) cl_10 wv_RX11_194 ⟨Nat.le_of_ble_eq_true rfl, Nat.le_of_ble_eq_true rfl⟩ rfl rfl (Nat.le_of_ble_eq_true rfl) dX11_on_102 rfl ⟨Nat.le_of_ble_eq_true rfl, Nat.le_of_ble_eq_true rfl⟩ ?_
                refine r_iload (pc' := 107) (i := 4) C 2 rfl dX11_on_105 rfl ?_
                refine r_if_eq (pc' := 110) (tgt := 120) C ww_n0 hf dX11_on_107 (by decide) rfl (fun hf => ?_) (fun hf => ?_)
                · refine r_iload (pc' := 122) (i := 6) C 0 rfl dX11_on_120 rfl ?_
                  refine r_if_eq (pc' := 125) (tgt := 145) C ww_n0 hf dX11_on_122 (by decide) rfl (fun hf => ?_) (fun hf => ?_)
                  · refine r_aload_n (pc' := 146) (f4 := 0) (i := 0) C 4 rfl rfl dX11_on_145 rfl ?_
                    refine q_getP (pc' := 149) (j := 2) C (K_0 hF) fb_11_2 (by decide) wd_313 (Or.inl rfl) (F_0_2 hF) (by decide) dX11_on_146 rfl ?_
                    obtain ⟨q91, hq91, hf⟩ := bind_in hf
                    refine q_callV (pc' := 152) C (t_xw_bearing hF lit_W_99 hq91) rfl (K_99 hF) cl_10 wv_RX11_173 ⟨Nat.le_of_ble_eq_true rfl, Nat.le_of_ble_eq_true rfl⟩ rfl rfl (Nat.le_of_ble_eq_true rfl) dX11_on_149 rfl ⟨Nat.le_of_ble_eq_true rfl, Nat.le_of_ble_eq_true rfl⟩ ?_
                    cases hf
                    exact r_iret C dX11_on_152
                  · refine r_aload_n (pc' := 126) (f4 := 0) (i := 0) C 4 rfl rfl dX11_on_125 rfl ?_
                    refine q_getP (pc' := 129) (j := 2) C (K_0 hF) fb_11_2 (by decide) wd_313 (Or.inl rfl) (F_0_2 hF) (by decide) dX11_on_126 rfl ?_
                    refine q_getP (pc' := 132) (j := 2) C (K_99 hF) fb_10_2 (by decide) wd_180 (Or.inl rfl) (F_99_2 hF) (by decide) dX11_on_129 rfl ?_
                    refine r_iload (pc' := 134) (i := 5) C 1 rfl dX11_on_132 rfl ?_
                    refine r_iconst (pc' := 135) C dX11_on_134 rfl ?_
                    refine r_idiv (pc' := 136) C ww_n5 (by decide) dX11_on_135 rfl ?_
                    obtain ⟨hi92, hf⟩ := ck_in hf
                    refine r_aaldP (pc' := 137) (t := 3) C (K_102 hF) (by decide) (by decide) (by decide) (by decide) rfl rfl hi92 (FL102 hF hi92) (Int.add_nonneg (by decide) (hi92).1) dX11_on_136 rfl ?_
                    refine r_iload (pc' := 139) (i := 5) C 1 rfl dX11_on_137 rfl ?_
                    refine r_iconst (pc' := 140) C dX11_on_139 rfl ?_
                    refine r_irem (pc' := 141) C ww_n5 (by decide) dX11_on_140 rfl ?_
                    obtain ⟨hi, hf⟩ := ck_in hf
                    refine r_iald (pc' := 142) C (KL102 hF hi92) rfl hi dX11_on_141 rfl ?_
                    refine r_goto (tgt := 152) C dX11_on_142 (by decide) ?_
                    cases hf
                    exact r_iret C dX11_on_152
                · refine r_aload_n (pc' := 111) (f4 := 0) (i := 0) C 4 rfl rfl dX11_on_110 rfl ?_
                  refine q_getP (pc' := 114) (j := 2) C (K_0 hF) fb_11_2 (by decide) wd_313 (Or.inl rfl) (F_0_2 hF) (by decide) dX11_on_111 rfl ?_
                  refine q_getP (pc' := 117) (j := 5) C (K_99 hF) fb_10_5 (by decide) wd_187 (Or.inl rfl) (F_99_5 hF) (by decide) dX11_on_114 rfl ?_
                  refine r_iload_n (pc' := 118) (f4 := 3) (i := 3) C 3 rfl rfl dX11_on_117 rfl ?_
                  obtain ⟨hi, hf⟩ := ck_in hf
                  refine r_iald (pc' := 119) C (K_116 hF) rfl hi dX11_on_118 rfl ?_
                  cases hf
                  exact r_iret C dX11_on_119
          · refine r_iload_n (pc' := 77) (f4 := 1) (i := 1) C 5 rfl rfl dX11_on_76 rfl ?_
            refine q_callS (pc' := 80) C (t_x_isYears hF) rfl ws_RX11_191 ⟨Nat.le_of_ble_eq_true rfl, Nat.le_of_ble_eq_true rfl⟩ rfl rfl (Nat.le_of_ble_eq_true rfl) dX11_on_77 rfl ⟨Nat.le_of_ble_eq_true rfl, Nat.le_of_ble_eq_true rfl⟩ ?_
            refine r_if_ne (pc' := 83) (tgt := 86) C rfl hf dX11_on_80 (by decide) rfl (fun hf => ?_) (fun hf => ?_)
            · refine r_bipush (pc' := 85) C rfl dX11_on_83 rfl ?_
              cases hf
              exact r_iret C dX11_on_85
            · refine r_aload_n (pc' := 87) (f4 := 0) (i := 0) C 4 rfl rfl dX11_on_86 rfl ?_
              refine q_getP (pc' := 90) (j := 2) C (K_0 hF) fb_11_2 (by decide) wd_313 (Or.inl rfl) (F_0_2 hF) (by decide) dX11_on_87 rfl ?_
              refine r_aload_n (pc' := 91) (f4 := 0) (i := 0) C 4 rfl rfl dX11_on_90 rfl ?_
              refine q_getP (pc' := 94) (j := 0) C (K_0 hF) fb_11_0 (by decide) wd_311 (Or.inl rfl) (F_0_0 hF) (by decide) dX11_on_91 rfl ?_
              obtain ⟨q93, hq93, hf⟩ := bind_in hf
              refine q_callVv (pc' := 97) C (t_xw_goFrom hF lit_W_99 lit_W_1 hq93) rfl (K_99 hF) cl_10 wv_RX11_198 ⟨Nat.le_of_ble_eq_true rfl, Nat.le_of_ble_eq_true rfl⟩ rfl rfl (Nat.le_of_ble_eq_true rfl) dX11_on_94 rfl ⟨Nat.le_of_ble_eq_true rfl, Nat.le_of_ble_eq_true rfl⟩ ?_
              refine r_aload_n (pc' := 98) (f4 := 0) (i := 0) C 4 rfl rfl dX11_on_97 rfl ?_
              refine q_getP (pc' := 101) (j := 2) C (K_0 hF) fb_11_2 (by decide) wd_313 (Or.inl rfl) (F_0_2 hF) (by decide) dX11_on_98 rfl ?_
              refine r_iload_n (pc' := 102) (f4 := 1) (i := 1) C 5 rfl rfl dX11_on_101 rfl ?_
              obtain ⟨q94, hq94, hf⟩ := bind_in hf
              refine q_callVv (pc' := 105) C (t_xw_goYears hF lit_W_99 hq94) rfl (K_99 hF) cl_10 wv_RX11_194 ⟨Nat.le_of_ble_eq_true rfl, Nat.le_of_ble_eq_true rfl⟩ rfl rfl (Nat.le_of_ble_eq_true rfl) dX11_on_102 rfl ⟨Nat.le_of_ble_eq_true rfl, Nat.le_of_ble_eq_true rfl⟩ ?_
              refine r_iload (pc' := 107) (i := 4) C 2 rfl dX11_on_105 rfl ?_
              refine r_if_eq (pc' := 110) (tgt := 120) C ww_n0 hf dX11_on_107 (by decide) rfl (fun hf => ?_) (fun hf => ?_)
              · refine r_iload (pc' := 122) (i := 6) C 0 rfl dX11_on_120 rfl ?_
                refine r_if_eq (pc' := 125) (tgt := 145) C ww_n0 hf dX11_on_122 (by decide) rfl (fun hf => ?_) (fun hf => ?_)
                · refine r_aload_n (pc' := 146) (f4 := 0) (i := 0) C 4 rfl rfl dX11_on_145 rfl ?_
                  refine q_getP (pc' := 149) (j := 2) C (K_0 hF) fb_11_2 (by decide) wd_313 (Or.inl rfl) (F_0_2 hF) (by decide) dX11_on_146 rfl ?_
                  obtain ⟨q95, hq95, hf⟩ := bind_in hf
                  refine q_callV (pc' := 152) C (t_xw_bearing hF lit_W_99 hq95) rfl (K_99 hF) cl_10 wv_RX11_173 ⟨Nat.le_of_ble_eq_true rfl, Nat.le_of_ble_eq_true rfl⟩ rfl rfl (Nat.le_of_ble_eq_true rfl) dX11_on_149 rfl ⟨Nat.le_of_ble_eq_true rfl, Nat.le_of_ble_eq_true rfl⟩ ?_
                  cases hf
                  exact r_iret C dX11_on_152
                · refine r_aload_n (pc' := 126) (f4 := 0) (i := 0) C 4 rfl rfl dX11_on_125 rfl ?_
                  refine q_getP (pc' := 129) (j := 2) C (K_0 hF) fb_11_2 (by decide) wd_313 (Or.inl rfl) (F_0_2 hF) (by decide) dX11_on_126 rfl ?_
                  refine q_getP (pc' := 132) (j := 2) C (K_99 hF) fb_10_2 (by decide) wd_180 (Or.inl rfl) (F_99_2 hF) (by decide) dX11_on_129 rfl ?_
                  refine r_iload (pc' := 134) (i := 5) C 1 rfl dX11_on_132 rfl ?_
                  refine r_iconst (pc' := 135) C dX11_on_134 rfl ?_
                  refine r_idiv (pc' := 136) C ww_n5 (by decide) dX11_on_135 rfl ?_
                  obtain ⟨hi96, hf⟩ := ck_in hf
                  refine r_aaldP (pc' := 137) (t := 3) C (K_102 hF) (by decide) (by decide) (by decide) (by decide) rfl rfl hi96 (FL102 hF hi96) (Int.add_nonneg (by decide) (hi96).1) dX11_on_136 rfl ?_
                  refine r_iload (pc' := 139) (i := 5) C 1 rfl dX11_on_137 rfl ?_
                  refine r_iconst (pc' := 140) C dX11_on_139 rfl ?_
                  refine r_irem (pc' := 141) C ww_n5 (by decide) dX11_on_140 rfl ?_
                  obtain ⟨hi, hf⟩ := ck_in hf
                  refine r_iald (pc' := 142) C (KL102 hF hi96) rfl hi dX11_on_141 rfl ?_
                  refine r_goto (tgt := 152) C dX11_on_142 (by decide) ?_
                  cases hf
                  exact r_iret C dX11_on_152
              · refine r_aload_n (pc' := 111) (f4 := 0) (i := 0) C 4 rfl rfl dX11_on_110 rfl ?_
                refine q_getP (pc' := 114) (j := 2) C (K_0 hF) fb_11_2 (by decide) wd_313 (Or.inl rfl) (F_0_2 hF) (by decide) dX11_on_111 rfl ?_
                refine q_getP (pc' := 117) (j := 5) C (K_99 hF) fb_10_5 (by decide) wd_187 (Or.inl rfl) (F_99_5 hF) (by decide) dX11_on_114 rfl ?_
                refine r_iload_n (pc' := 118) (f4 := 3) (i := 3) C 3 rfl rfl dX11_on_117 rfl ?_
                obtain ⟨hi, hf⟩ := ck_in hf
                refine r_iald (pc' := 119) C (K_116 hF) rfl hi dX11_on_118 rfl ?_
                cases hf
                exact r_iret C dX11_on_119
      · refine r_iconst (pc' := 54) C dX11_on_53 rfl ?_
        refine r_goto (tgt := 58) C dX11_on_54 (by decide) ?_
        refine r_istore (pc' := 60) (i := 6) (L' := [(6, zI 1), (5, zI (a2 - 20)), (4, zI 0), (3, zI (zrem a2 10)), (0, zP bs 0), (1, zI a1), (2, zI a2)]) C (by decide) rfl dX11_on_58 rfl ?_
        refine r_iload_n (pc' := 61) (f4 := 2) (i := 2) C 6 rfl rfl dX11_on_60 rfl ?_
        refine r_if_eq (pc' := 64) (tgt := 76) C rfl hf dX11_on_61 (by decide) rfl (fun hf => ?_) (fun hf => ?_)
        · refine r_iload_n (pc' := 77) (f4 := 1) (i := 1) C 5 rfl rfl dX11_on_76 rfl ?_
          refine q_callS (pc' := 80) C (t_x_isYears hF) rfl ws_RX11_191 ⟨Nat.le_of_ble_eq_true rfl, Nat.le_of_ble_eq_true rfl⟩ rfl rfl (Nat.le_of_ble_eq_true rfl) dX11_on_77 rfl ⟨Nat.le_of_ble_eq_true rfl, Nat.le_of_ble_eq_true rfl⟩ ?_
          refine r_if_ne (pc' := 83) (tgt := 86) C rfl hf dX11_on_80 (by decide) rfl (fun hf => ?_) (fun hf => ?_)
          · refine r_bipush (pc' := 85) C rfl dX11_on_83 rfl ?_
            cases hf
            exact r_iret C dX11_on_85
          · refine r_aload_n (pc' := 87) (f4 := 0) (i := 0) C 4 rfl rfl dX11_on_86 rfl ?_
            refine q_getP (pc' := 90) (j := 2) C (K_0 hF) fb_11_2 (by decide) wd_313 (Or.inl rfl) (F_0_2 hF) (by decide) dX11_on_87 rfl ?_
            refine r_aload_n (pc' := 91) (f4 := 0) (i := 0) C 4 rfl rfl dX11_on_90 rfl ?_
            refine q_getP (pc' := 94) (j := 0) C (K_0 hF) fb_11_0 (by decide) wd_311 (Or.inl rfl) (F_0_0 hF) (by decide) dX11_on_91 rfl ?_
            obtain ⟨q97, hq97, hf⟩ := bind_in hf
            refine q_callVv (pc' := 97) C (t_xw_goFrom hF lit_W_99 lit_W_1 hq97) rfl (K_99 hF) cl_10 wv_RX11_198 ⟨Nat.le_of_ble_eq_true rfl, Nat.le_of_ble_eq_true rfl⟩ rfl rfl (Nat.le_of_ble_eq_true rfl) dX11_on_94 rfl ⟨Nat.le_of_ble_eq_true rfl, Nat.le_of_ble_eq_true rfl⟩ ?_
            refine r_aload_n (pc' := 98) (f4 := 0) (i := 0) C 4 rfl rfl dX11_on_97 rfl ?_
            refine q_getP (pc' := 101) (j := 2) C (K_0 hF) fb_11_2 (by decide) wd_313 (Or.inl rfl) (F_0_2 hF) (by decide) dX11_on_98 rfl ?_
            refine r_iload_n (pc' := 102) (f4 := 1) (i := 1) C 5 rfl rfl dX11_on_101 rfl ?_
            obtain ⟨q98, hq98, hf⟩ := bind_in hf
            refine q_callVv (pc' := 105) C (t_xw_goYears hF lit_W_99 hq98) rfl (K_99 hF) cl_10 wv_RX11_194 ⟨Nat.le_of_ble_eq_true rfl, Nat.le_of_ble_eq_true rfl⟩ rfl rfl (Nat.le_of_ble_eq_true rfl) dX11_on_102 rfl ⟨Nat.le_of_ble_eq_true rfl, Nat.le_of_ble_eq_true rfl⟩ ?_
            refine r_iload (pc' := 107) (i := 4) C 2 rfl dX11_on_105 rfl ?_
            refine r_if_eq (pc' := 110) (tgt := 120) C ww_n0 hf dX11_on_107 (by decide) rfl (fun hf => ?_) (fun hf => ?_)
            · refine r_iload (pc' := 122) (i := 6) C 0 rfl dX11_on_120 rfl ?_
              refine r_if_eq (pc' := 125) (tgt := 145) C ww_n1 hf dX11_on_122 (by decide) rfl (fun hf => ?_) (fun hf => ?_)
              · refine r_aload_n (pc' := 146) (f4 := 0) (i := 0) C 4 rfl rfl dX11_on_145 rfl ?_
                refine q_getP (pc' := 149) (j := 2) C (K_0 hF) fb_11_2 (by decide) wd_313 (Or.inl rfl) (F_0_2 hF) (by decide) dX11_on_146 rfl ?_
                obtain ⟨q99, hq99, hf⟩ := bind_in hf
                refine q_callV (pc' := 152) C (t_xw_bearing hF lit_W_99 hq99) rfl (K_99 hF) cl_10 wv_RX11_173 ⟨Nat.le_of_ble_eq_true rfl, Nat.le_of_ble_eq_true rfl⟩ rfl rfl (Nat.le_of_ble_eq_true rfl) dX11_on_149 rfl ⟨Nat.le_of_ble_eq_true rfl, Nat.le_of_ble_eq_true rfl⟩ ?_
                cases hf
                exact r_iret C dX11_on_152
              · refine r_aload_n (pc' := 126) (f4 := 0) (i := 0) C 4 rfl rfl dX11_on_125 rfl ?_
                refine q_getP (pc' := 129) (j := 2) C (K_0 hF) fb_11_2 (by decide) wd_313 (Or.inl rfl) (F_0_2 hF) (by decide) dX11_on_126 rfl ?_
                refine q_getP (pc' := 132) (j := 2) C (K_99 hF) fb_10_2 (by decide) wd_180 (Or.inl rfl) (F_99_2 hF) (by decide) dX11_on_129 rfl ?_
                refine r_iload (pc' := 134) (i := 5) C 1 rfl dX11_on_132 rfl ?_
                refine r_iconst (pc' := 135) C dX11_on_134 rfl ?_
                refine r_idiv (pc' := 136) C ww_n5 (by decide) dX11_on_135 rfl ?_
                obtain ⟨hi100, hf⟩ := ck_in hf
                refine r_aaldP (pc' := 137) (t := 3) C (K_102 hF) (by decide) (by decide) (by decide) (by decide) rfl rfl hi100 (FL102 hF hi100) (Int.add_nonneg (by decide) (hi100).1) dX11_on_136 rfl ?_
                refine r_iload (pc' := 139) (i := 5) C 1 rfl dX11_on_137 rfl ?_
                refine r_iconst (pc' := 140) C dX11_on_139 rfl ?_
                refine r_irem (pc' := 141) C ww_n5 (by decide) dX11_on_140 rfl ?_
                obtain ⟨hi, hf⟩ := ck_in hf
                refine r_iald (pc' := 142) C (KL102 hF hi100) rfl hi dX11_on_141 rfl ?_
                refine r_goto (tgt := 152) C dX11_on_142 (by decide) ?_
                cases hf
                exact r_iret C dX11_on_152
            · refine r_aload_n (pc' := 111) (f4 := 0) (i := 0) C 4 rfl rfl dX11_on_110 rfl ?_
              refine q_getP (pc' := 114) (j := 2) C (K_0 hF) fb_11_2 (by decide) wd_313 (Or.inl rfl) (F_0_2 hF) (by decide) dX11_on_111 rfl ?_
              refine q_getP (pc' := 117) (j := 5) C (K_99 hF) fb_10_5 (by decide) wd_187 (Or.inl rfl) (F_99_5 hF) (by decide) dX11_on_114 rfl ?_
              refine r_iload_n (pc' := 118) (f4 := 3) (i := 3) C 3 rfl rfl dX11_on_117 rfl ?_
              obtain ⟨hi, hf⟩ := ck_in hf
              refine r_iald (pc' := 119) C (K_116 hF) rfl hi dX11_on_118 rfl ?_
              cases hf
              exact r_iret C dX11_on_119
        · refine r_iload (pc' := 66) (i := 4) C 2 rfl dX11_on_64 rfl ?_
          refine r_if_ne (pc' := 69) (tgt := 76) C ww_n0 hf dX11_on_66 (by decide) rfl (fun hf => ?_) (fun hf => ?_)
          · refine r_iload (pc' := 71) (i := 6) C 0 rfl dX11_on_69 rfl ?_
            refine r_if_ne (pc' := 74) (tgt := 76) C ww_n1 hf dX11_on_71 (by decide) rfl (fun hf => ?_) (fun hf => ?_)
            · refine r_iconst (pc' := 75) C dX11_on_74 rfl ?_
              cases hf
              exact r_iret C dX11_on_75
            · refine r_iload_n (pc' := 77) (f4 := 1) (i := 1) C 5 rfl rfl dX11_on_76 rfl ?_
              refine q_callS (pc' := 80) C (t_x_isYears hF) rfl ws_RX11_191 ⟨Nat.le_of_ble_eq_true rfl, Nat.le_of_ble_eq_true rfl⟩ rfl rfl (Nat.le_of_ble_eq_true rfl) dX11_on_77 rfl ⟨Nat.le_of_ble_eq_true rfl, Nat.le_of_ble_eq_true rfl⟩ ?_
              refine r_if_ne (pc' := 83) (tgt := 86) C rfl hf dX11_on_80 (by decide) rfl (fun hf => ?_) (fun hf => ?_)
              · refine r_bipush (pc' := 85) C rfl dX11_on_83 rfl ?_
                cases hf
                exact r_iret C dX11_on_85
              · refine r_aload_n (pc' := 87) (f4 := 0) (i := 0) C 4 rfl rfl dX11_on_86 rfl ?_
                refine q_getP (pc' := 90) (j := 2) C (K_0 hF) fb_11_2 (by decide) wd_313 (Or.inl rfl) (F_0_2 hF) (by decide) dX11_on_87 rfl ?_
                refine r_aload_n (pc' := 91) (f4 := 0) (i := 0) C 4 rfl rfl dX11_on_90 rfl ?_
                refine q_getP (pc' := 94) (j := 0) C (K_0 hF) fb_11_0 (by decide) wd_311 (Or.inl rfl) (F_0_0 hF) (by decide) dX11_on_91 rfl ?_
                obtain ⟨q101, hq101, hf⟩ := bind_in hf
                refine q_callVv (pc' := 97) C (t_xw_goFrom hF lit_W_99 lit_W_1 hq101) rfl (K_99 hF) cl_10 wv_RX11_198 ⟨Nat.le_of_ble_eq_true rfl, Nat.le_of_ble_eq_true rfl⟩ rfl rfl (Nat.le_of_ble_eq_true rfl) dX11_on_94 rfl ⟨Nat.le_of_ble_eq_true rfl, Nat.le_of_ble_eq_true rfl⟩ ?_
                refine r_aload_n (pc' := 98) (f4 := 0) (i := 0) C 4 rfl rfl dX11_on_97 rfl ?_
                refine q_getP (pc' := 101) (j := 2) C (K_0 hF) fb_11_2 (by decide) wd_313 (Or.inl rfl) (F_0_2 hF) (by decide) dX11_on_98 rfl ?_
                refine r_iload_n (pc' := 102) (f4 := 1) (i := 1) C 5 rfl rfl dX11_on_101 rfl ?_
                obtain ⟨q102, hq102, hf⟩ := bind_in hf
                refine q_callVv (pc' := 105) C (t_xw_goYears hF lit_W_99 hq102) rfl (K_99 hF) cl_10 wv_RX11_194 ⟨Nat.le_of_ble_eq_true rfl, Nat.le_of_ble_eq_true rfl⟩ rfl rfl (Nat.le_of_ble_eq_true rfl) dX11_on_102 rfl ⟨Nat.le_of_ble_eq_true rfl, Nat.le_of_ble_eq_true rfl⟩ ?_
                refine r_iload (pc' := 107) (i := 4) C 2 rfl dX11_on_105 rfl ?_
                refine r_if_eq (pc' := 110) (tgt := 120) C ww_n0 hf dX11_on_107 (by decide) rfl (fun hf => ?_) (fun hf => ?_)
                · refine r_iload (pc' := 122) (i := 6) C 0 rfl dX11_on_120 rfl ?_
                  refine r_if_eq (pc' := 125) (tgt := 145) C ww_n1 hf dX11_on_122 (by decide) rfl (fun hf => ?_) (fun hf => ?_)
                  · refine r_aload_n (pc' := 146) (f4 := 0) (i := 0) C 4 rfl rfl dX11_on_145 rfl ?_
                    refine q_getP (pc' := 149) (j := 2) C (K_0 hF) fb_11_2 (by decide) wd_313 (Or.inl rfl) (F_0_2 hF) (by decide) dX11_on_146 rfl ?_
                    obtain ⟨q103, hq103, hf⟩ := bind_in hf
                    refine q_callV (pc' := 152) C (t_xw_bearing hF lit_W_99 hq103) rfl (K_99 hF) cl_10 wv_RX11_173 ⟨Nat.le_of_ble_eq_true rfl, Nat.le_of_ble_eq_true rfl⟩ rfl rfl (Nat.le_of_ble_eq_true rfl) dX11_on_149 rfl ⟨Nat.le_of_ble_eq_true rfl, Nat.le_of_ble_eq_true rfl⟩ ?_
                    cases hf
                    exact r_iret C dX11_on_152
                  · refine r_aload_n (pc' := 126) (f4 := 0) (i := 0) C 4 rfl rfl dX11_on_125 rfl ?_
                    refine q_getP (pc' := 129) (j := 2) C (K_0 hF) fb_11_2 (by decide) wd_313 (Or.inl rfl) (F_0_2 hF) (by decide) dX11_on_126 rfl ?_
                    refine q_getP (pc' := 132) (j := 2) C (K_99 hF) fb_10_2 (by decide) wd_180 (Or.inl rfl) (F_99_2 hF) (by decide) dX11_on_129 rfl ?_
                    refine r_iload (pc' := 134) (i := 5) C 1 rfl dX11_on_132 rfl ?_
                    refine r_iconst (pc' := 135) C dX11_on_134 rfl ?_
                    refine r_idiv (pc' := 136) C ww_n5 (by decide) dX11_on_135 rfl ?_
                    obtain ⟨hi104, hf⟩ := ck_in hf
                    refine r_aaldP (pc' := 137) (t := 3) C (K_102 hF) (by decide) (by decide) (by decide) (by decide) rfl rfl hi104 (FL102 hF hi104) (Int.add_nonneg (by decide) (hi104).1) dX11_on_136 rfl ?_
                    refine r_iload (pc' := 139) (i := 5) C 1 rfl dX11_on_137 rfl ?_
                    refine r_iconst (pc' := 140) C dX11_on_139 rfl ?_
                    refine r_irem (pc' := 141) C ww_n5 (by decide) dX11_on_140 rfl ?_
                    obtain ⟨hi, hf⟩ := ck_in hf
                    refine r_iald (pc' := 142) C (KL102 hF hi104) rfl hi dX11_on_141 rfl ?_
                    refine r_goto (tgt := 152) C dX11_on_142 (by decide) ?_
                    cases hf
                    exact r_iret C dX11_on_152
                · refine r_aload_n (pc' := 111) (f4 := 0) (i := 0) C 4 rfl rfl dX11_on_110 rfl ?_
                  refine q_getP (pc' := 114) (j := 2) C (K_0 hF) fb_11_2 (by decide) wd_313 (Or.inl rfl) (F_0_2 hF) (by decide) dX11_on_111 rfl ?_
                  refine q_getP (pc' := 117) (j := 5) C (K_99 hF) fb_10_5 (by decide) wd_187 (Or.inl rfl) (F_99_5 hF) (by decide) dX11_on_114 rfl ?_
                  refine r_iload_n (pc' := 118) (f4 := 3) (i := 3) C 3 rfl rfl dX11_on_117 rfl ?_
                  obtain ⟨hi, hf⟩ := ck_in hf
                  refine r_iald (pc' := 119) C (K_116 hF) rfl hi dX11_on_118 rfl ?_
                  cases hf
                  exact r_iret C dX11_on_119
          · refine r_iload_n (pc' := 77) (f4 := 1) (i := 1) C 5 rfl rfl dX11_on_76 rfl ?_
            refine q_callS (pc' := 80) C (t_x_isYears hF) rfl ws_RX11_191 ⟨Nat.le_of_ble_eq_true rfl, Nat.le_of_ble_eq_true rfl⟩ rfl rfl (Nat.le_of_ble_eq_true rfl) dX11_on_77 rfl ⟨Nat.le_of_ble_eq_true rfl, Nat.le_of_ble_eq_true rfl⟩ ?_
            refine r_if_ne (pc' := 83) (tgt := 86) C rfl hf dX11_on_80 (by decide) rfl (fun hf => ?_) (fun hf => ?_)
            · refine r_bipush (pc' := 85) C rfl dX11_on_83 rfl ?_
              cases hf
              exact r_iret C dX11_on_85
            · refine r_aload_n (pc' := 87) (f4 := 0) (i := 0) C 4 rfl rfl dX11_on_86 rfl ?_
              refine q_getP (pc' := 90) (j := 2) C (K_0 hF) fb_11_2 (by decide) wd_313 (Or.inl rfl) (F_0_2 hF) (by decide) dX11_on_87 rfl ?_
              refine r_aload_n (pc' := 91) (f4 := 0) (i := 0) C 4 rfl rfl dX11_on_90 rfl ?_
              refine q_getP (pc' := 94) (j := 0) C (K_0 hF) fb_11_0 (by decide) wd_311 (Or.inl rfl) (F_0_0 hF) (by decide) dX11_on_91 rfl ?_
              obtain ⟨q105, hq105, hf⟩ := bind_in hf
              refine q_callVv (pc' := 97) C (t_xw_goFrom hF lit_W_99 lit_W_1 hq105) rfl (K_99 hF) cl_10 wv_RX11_198 ⟨Nat.le_of_ble_eq_true rfl, Nat.le_of_ble_eq_true rfl⟩ rfl rfl (Nat.le_of_ble_eq_true rfl) dX11_on_94 rfl ⟨Nat.le_of_ble_eq_true rfl, Nat.le_of_ble_eq_true rfl⟩ ?_
              refine r_aload_n (pc' := 98) (f4 := 0) (i := 0) C 4 rfl rfl dX11_on_97 rfl ?_
              refine q_getP (pc' := 101) (j := 2) C (K_0 hF) fb_11_2 (by decide) wd_313 (Or.inl rfl) (F_0_2 hF) (by decide) dX11_on_98 rfl ?_
              refine r_iload_n (pc' := 102) (f4 := 1) (i := 1) C 5 rfl rfl dX11_on_101 rfl ?_
              obtain ⟨q106, hq106, hf⟩ := bind_in hf
              refine q_callVv (pc' := 105) C (t_xw_goYears hF lit_W_99 hq106) rfl (K_99 hF) cl_10 wv_RX11_194 ⟨Nat.le_of_ble_eq_true rfl, Nat.le_of_ble_eq_true rfl⟩ rfl rfl (Nat.le_of_ble_eq_true rfl) dX11_on_102 rfl ⟨Nat.le_of_ble_eq_true rfl, Nat.le_of_ble_eq_true rfl⟩ ?_
              refine r_iload (pc' := 107) (i := 4) C 2 rfl dX11_on_105 rfl ?_
              refine r_if_eq (pc' := 110) (tgt := 120) C ww_n0 hf dX11_on_107 (by decide) rfl (fun hf => ?_) (fun hf => ?_)
              · refine r_iload (pc' := 122) (i := 6) C 0 rfl dX11_on_120 rfl ?_
                refine r_if_eq (pc' := 125) (tgt := 145) C ww_n1 hf dX11_on_122 (by decide) rfl (fun hf => ?_) (fun hf => ?_)
                · refine r_aload_n (pc' := 146) (f4 := 0) (i := 0) C 4 rfl rfl dX11_on_145 rfl ?_
                  refine q_getP (pc' := 149) (j := 2) C (K_0 hF) fb_11_2 (by decide) wd_313 (Or.inl rfl) (F_0_2 hF) (by decide) dX11_on_146 rfl ?_
                  obtain ⟨q107, hq107, hf⟩ := bind_in hf
                  refine q_callV (pc' := 152) C (t_xw_bearing hF lit_W_99 hq107) rfl (K_99 hF) cl_10 wv_RX11_173 ⟨Nat.le_of_ble_eq_true rfl, Nat.le_of_ble_eq_true rfl⟩ rfl rfl (Nat.le_of_ble_eq_true rfl) dX11_on_149 rfl ⟨Nat.le_of_ble_eq_true rfl, Nat.le_of_ble_eq_true rfl⟩ ?_
                  cases hf
                  exact r_iret C dX11_on_152
                · refine r_aload_n (pc' := 126) (f4 := 0) (i := 0) C 4 rfl rfl dX11_on_125 rfl ?_
                  refine q_getP (pc' := 129) (j := 2) C (K_0 hF) fb_11_2 (by decide) wd_313 (Or.inl rfl) (F_0_2 hF) (by decide) dX11_on_126 rfl ?_
                  refine q_getP (pc' := 132) (j := 2) C (K_99 hF) fb_10_2 (by decide) wd_180 (Or.inl rfl) (F_99_2 hF) (by decide) dX11_on_129 rfl ?_
                  refine r_iload (pc' := 134) (i := 5) C 1 rfl dX11_on_132 rfl ?_
                  refine r_iconst (pc' := 135) C dX11_on_134 rfl ?_
                  refine r_idiv (pc' := 136) C ww_n5 (by decide) dX11_on_135 rfl ?_
                  obtain ⟨hi108, hf⟩ := ck_in hf
                  refine r_aaldP (pc' := 137) (t := 3) C (K_102 hF) (by decide) (by decide) (by decide) (by decide) rfl rfl hi108 (FL102 hF hi108) (Int.add_nonneg (by decide) (hi108).1) dX11_on_136 rfl ?_
                  refine r_iload (pc' := 139) (i := 5) C 1 rfl dX11_on_137 rfl ?_
                  refine r_iconst (pc' := 140) C dX11_on_139 rfl ?_
                  refine r_irem (pc' := 141) C ww_n5 (by decide) dX11_on_140 rfl ?_
                  obtain ⟨hi, hf⟩ := ck_in hf
                  refine r_iald (pc' := 142) C (KL102 hF hi108) rfl hi dX11_on_141 rfl ?_
                  refine r_goto (tgt := 152) C dX11_on_142 (by decide) ?_
                  cases hf
                  exact r_iret C dX11_on_152
              · refine r_aload_n (pc' := 111) (f4 := 0) (i := 0) C 4 rfl rfl dX11_on_110 rfl ?_
                refine q_getP (pc' := 114) (j := 2) C (K_0 hF) fb_11_2 (by decide) wd_313 (Or.inl rfl) (F_0_2 hF) (by decide) dX11_on_111 rfl ?_
                refine q_getP (pc' := 117) (j := 5) C (K_99 hF) fb_10_5 (by decide) wd_187 (Or.inl rfl) (F_99_5 hF) (by decide) dX11_on_114 rfl ?_
                refine r_iload_n (pc' := 118) (f4 := 3) (i := 3) C 3 rfl rfl dX11_on_117 rfl ?_
                obtain ⟨hi, hf⟩ := ck_in hf
                refine r_iald (pc' := 119) C (K_116 hF) rfl hi dX11_on_118 rfl ?_
                cases hf
                exact r_iret C dX11_on_119

/- WassailEnemies.firstOfBest(III)I -/
def x_firstOfBest_L3 (h : HH) (x1 : Int) (x2 : Int) (x3 : Int) : Nat → Int → Option Int
  | 0, _ => none
  | n3 + 1, x4 =>
    if ww x4 < 6 then (if ww (x_isFree x4 x2 x3) = 0 then (x_firstOfBest_L3 h x1 x2 x3 n3 (x4 + 1)) else (ck (ww x4) 6 <| ck (ww x1) 5 <| ck (ww (x1 + 1)) 6 <| ck (ww (zor x3 (zshl 1 x4))) 64 <| ck (ww x1) 6 <| ck (ww x3) 64 <| if ww ((h (153 + (ww x4)) (ww x1)) + (h (160 + (ww (x1 + 1))) (ww (zor x3 (zshl 1 x4))))) = ww (h (160 + (ww x1)) (ww x3)) then (some x4) else (x_firstOfBest_L3 h x1 x2 x3 n3 (x4 + 1)))) else (some (-5))
def x_firstOfBest (h : HH) (a1 : Int) (a2 : Int) (a3 : Int) : Option Int :=
  x_firstOfBest_L3 h a1 a2 a3 FU 0
abbrev rm_x_firstOfBest : Room := { frames := 1, cells := 0, slots := 0, locals := 22 }
set_option maxHeartbeats 4000000 in
set_option maxRecDepth 100000 in
theorem w_x_firstOfBest_L3 (hF : Fx S) (C : Cx D dT bs RX11 cX11_firstOfBest 5 (some Jvm.ClassFile.FieldType.int) p s m args meth c) {h : HH} (x1 : Int) (x2 : Int) (x3 : Int) {res : Int} :
    ∀ (n : Nat) (x4 : Int), x_firstOfBest_L3 h x1 x2 x3 n x4 = some res → V D dT bs 5 p l e rm_x_firstOfBest s m args below meth c 0 0 (MQ below (QQ D dT bs (some (zI res)) h S) args s 0 0 (AA bs)) h S 3 [(0, zP bs 0), (1, zI x1), (2, zI x2), (3, zI x3), (4, zI x4)] [] := by
  intro n
  induction n with
  | zero => intro x4 hf; simp [x_firstOfBest_L3] at hf
  | succ n3 ih3 =>
    intro x4 hf
    rw [x_firstOfBest_L3] at hf
    refine r_iload (pc' := 5) (i := 4) C 4 rfl dX11_firstOfBest_3 rfl ?_
    refine r_bipush (pc' := 7) C rfl dX11_firstOfBest_5 rfl ?_
    refine r_icmp_ge (pc' := 10) (tgt := 65) C rfl ww_n6 hf dX11_firstOfBest_7 (by decide) rfl (fun hf => ?_) (fun hf => ?_)
    · refine r_iload (pc' := 12) (i := 4) C 4 rfl dX11_firstOfBest_10 rfl ?_
      refine r_iload_n (pc' := 13) (f4 := 2) (i := 2) C 2 rfl rfl dX11_firstOfBest_12 rfl ?_
      refine r_iload_n (pc' := 14) (f4 := 3) (i := 3) C 3 rfl rfl dX11_firstOfBest_13 rfl ?_
      refine q_callS (pc' := 17) C (t_x_isFree hF) rfl ws_RX11_219 ⟨Nat.le_of_ble_eq_true rfl, Nat.le_of_ble_eq_true rfl⟩ rfl rfl (Nat.le_of_ble_eq_true rfl) dX11_firstOfBest_14 rfl ⟨Nat.le_of_ble_eq_true rfl, Nat.le_of_ble_eq_true rfl⟩ ?_
      refine r_if_eq (pc' := 20) (tgt := 59) C rfl hf dX11_firstOfBest_17 (by decide) rfl (fun hf => ?_) (fun hf => ?_)
      · refine r_iinc (pc' := 62) (i := 4) (L' := [(4, zI (x4 + 1)), (0, zP bs 0), (1, zI x1), (2, zI x2), (3, zI x3)]) C 4 rfl (by decide) rfl dX11_firstOfBest_59 rfl ?_
        refine r_goto (tgt := 3) C dX11_firstOfBest_62 (by decide) ?_
        refine V.sub (L' := [(0, zP bs 0), (1, zI x1), (2, zI x2), (3, zI x3), (4, zI (x4 + 1))]) [1, 2, 3, 4, 0] rfl ?_
        exact ih3 _ hf
      · refine r_aload_n (pc' := 21) (f4 := 0) (i := 0) C 0 rfl rfl dX11_firstOfBest_20 rfl ?_
        refine q_getP (pc' := 24) (j := 8) C (K_0 hF) fb_11_8 (by decide) wd_319 (Or.inl rfl) (F_0_8 hF) (by decide) dX11_firstOfBest_21 rfl ?_
        refine r_iload (pc' := 26) (i := 4) C 4 rfl dX11_firstOfBest_24 rfl ?_
        obtain ⟨hi1, hf⟩ := ck_in hf
        refine r_aaldP (pc' := 27) (t := 3) C (K_152 hF) (by decide) (by decide) (by decide) (by decide) rfl rfl hi1 (FL152 hF hi1) (Int.add_nonneg (by decide) (hi1).1) dX11_firstOfBest_26 rfl ?_
        refine r_iload_n (pc' := 28) (f4 := 1) (i := 1) C 1 rfl rfl dX11_firstOfBest_27 rfl ?_
        obtain ⟨hi, hf⟩ := ck_in hf
        refine r_iald (pc' := 29) C (KL152 hF hi1) rfl hi dX11_firstOfBest_28 rfl ?_
        refine r_aload_n (pc' := 30) (f4 := 0) (i := 0) C 0 rfl rfl dX11_firstOfBest_29 rfl ?_
        refine q_getP (pc' := 33) (j := 9) C (K_0 hF) fb_11_9 (by decide) wd_320 (Or.inl rfl) (F_0_9 hF) (by decide) dX11_firstOfBest_30 rfl ?_
        refine r_iload_n (pc' := 34) (f4 := 1) (i := 1) C 1 rfl rfl dX11_firstOfBest_33 rfl ?_
        refine r_iconst (pc' := 35) C dX11_firstOfBest_34 rfl ?_
        refine r_iadd (pc' := 36) C dX11_firstOfBest_35 rfl ?_
        obtain ⟨hi2, hf⟩ := ck_in hf
        refine r_aaldP (pc' := 37) (t := 3) C (K_159 hF) (by decide) (by decide) (by decide) (by decide) rfl rfl hi2 (FL159 hF hi2) (Int.add_nonneg (by decide) (hi2).1) dX11_firstOfBest_36 rfl ?_
        refine r_iload_n (pc' := 38) (f4 := 3) (i := 3) C 3 rfl rfl dX11_firstOfBest_37 rfl ?_
        refine r_iconst (pc' := 39) C dX11_firstOfBest_38 rfl ?_
        refine r_iload (pc' := 41) (i := 4) C 4 rfl dX11_firstOfBest_39 rfl ?_
        refine r_ishl (pc' := 42) C dX11_firstOfBest_41 rfl ?_
        refine r_ior (pc' := 43) C dX11_firstOfBest_42 rfl ?_
        obtain ⟨hi, hf⟩ := ck_in hf
        refine r_iald (pc' := 44) C (KL159 hF hi2) rfl hi dX11_firstOfBest_43 rfl ?_
        refine r_iadd (pc' := 45) C dX11_firstOfBest_44 rfl ?_
        refine r_aload_n (pc' := 46) (f4 := 0) (i := 0) C 0 rfl rfl dX11_firstOfBest_45 rfl ?_
        refine q_getP (pc' := 49) (j := 9) C (K_0 hF) fb_11_9 (by decide) wd_320 (Or.inl rfl) (F_0_9 hF) (by decide) dX11_firstOfBest_46 rfl ?_
        refine r_iload_n (pc' := 50) (f4 := 1) (i := 1) C 1 rfl rfl dX11_firstOfBest_49 rfl ?_
        obtain ⟨hi3, hf⟩ := ck_in hf
        refine r_aaldP (pc' := 51) (t := 3) C (K_159 hF) (by decide) (by decide) (by decide) (by decide) rfl rfl hi3 (FL159 hF hi3) (Int.add_nonneg (by decide) (hi3).1) dX11_firstOfBest_50 rfl ?_
        refine r_iload_n (pc' := 52) (f4 := 3) (i := 3) C 3 rfl rfl dX11_firstOfBest_51 rfl ?_
        obtain ⟨hi, hf⟩ := ck_in hf
        refine r_iald (pc' := 53) C (KL159 hF hi3) rfl hi dX11_firstOfBest_52 rfl ?_
        refine r_icmp_ne (pc' := 56) (tgt := 59) C rfl rfl hf dX11_firstOfBest_53 (by decide) rfl (fun hf => ?_) (fun hf => ?_)
        · refine r_iload (pc' := 58) (i := 4) C 4 rfl dX11_firstOfBest_56 rfl ?_
          cases hf
          exact r_iret C dX11_firstOfBest_58
        · refine r_iinc (pc' := 62) (i := 4) (L' := [(4, zI (x4 + 1)), (0, zP bs 0), (1, zI x1), (2, zI x2), (3, zI x3)]) C 4 rfl (by decide) rfl dX11_firstOfBest_59 rfl ?_
          refine r_goto (tgt := 3) C dX11_firstOfBest_62 (by decide) ?_
          refine V.sub (L' := [(0, zP bs 0), (1, zI x1), (2, zI x2), (3, zI x3), (4, zI (x4 + 1))]) [1, 2, 3, 4, 0] rfl ?_
          exact ih3 _ hf
    · refine r_bipush (pc' := 67) C rfl dX11_firstOfBest_65 rfl ?_
      cases hf
      exact r_iret C dX11_firstOfBest_67
set_option maxHeartbeats 4000000 in
set_option maxRecDepth 100000 in
theorem t_x_firstOfBest {S : SS} (hF : Fx S) {h : HH} {a1 : Int} {a2 : Int} {a3 : Int} {res : Int} (hf : x_firstOfBest h a1 a2 a3 = some res) : CM yX11_firstOfBest cX11_firstOfBest 5 (some Jvm.ClassFile.FieldType.int) 1 22 0 0 (fun bs => [zP bs 0, zI a1, zI a2, zI a3]) h S (fun _ => some (zI res)) h S := by
  refine CM.intro (own := RX11) (by decide) rfl (fun _ => Nat.le_of_ble_eq_true rfl) ?_
  intro D dT bs p l e s m args below meth c C
  show V D dT bs 5 p l e rm_x_firstOfBest s m args below meth c 0 0 _ h S 0 [(0, zP bs 0), (1, zI a1), (2, zI a2), (3, zI a3)] []
  unfold x_firstOfBest at hf
  refine r_iconst (pc' := 1) C dX11_firstOfBest_0 rfl ?_
  refine r_istore (pc' := 3) (i := 4) (L' := [(4, zI 0), (0, zP bs 0), (1, zI a1), (2, zI a2), (3, zI a3)]) C (by decide) rfl dX11_firstOfBest_1 rfl ?_
  refine V.sub (L' := [(0, zP bs 0), (1, zI a1), (2, zI a2), (3, zI a3), (4, zI 0)]) [1, 2, 3, 4, 0] rfl ?_
  refine w_x_firstOfBest_L3 hF C _ _ _ _ _ hf

/- WassailEnemies.ringAt(II)I -/
def x_ringAt_L9 (h : HH) (x1 : Int) (x2 : Int) : Nat → Int → Int → Int → Option Int
  | 0, _, _, _ => none
  | n9 + 1, x3, x4, x5 =>
    if ww x2 < ww x5 then (some x4) else ((x_firstOfBest h x5 x1 x3).bind fun q1 => if ww q1 = -5 then (x_ringAt_L9 h x1 x2 n9 x3 q1 (x5 + 1)) else (x_ringAt_L9 h x1 x2 n9 (zor x3 (zshl 1 q1)) q1 (x5 + 1)))
def x_ringAt (h : HH) (a1 : Int) (a2 : Int) : Option Int :=
  x_ringAt_L9 h a1 a2 FU 0 (-5) 0
abbrev rm_x_ringAt : Room := { frames := 2, cells := 0, slots := 0, locals := 46 }
set_option maxHeartbeats 4000000 in
set_option maxRecDepth 100000 in
theorem w_x_ringAt_L9 (hF : Fx S) (C : Cx D dT bs RX11 cX11_ringAt 6 (some Jvm.ClassFile.FieldType.int) p s m args meth c) {h : HH} (x1 : Int) (x2 : Int) {res : Int} :
    ∀ (n : Nat) (x3 : Int) (x4 : Int) (x5 : Int), x_ringAt_L9 h x1 x2 n x3 x4 x5 = some res → V D dT bs 6 p l e rm_x_ringAt s m args below meth c 0 0 (MQ below (QQ D dT bs (some (zI res)) h S) args s 0 0 (AA bs)) h S 9 [(0, zP bs 0), (1, zI x1), (2, zI x2), (3, zI x3), (4, zI x4), (5, zI x5)] [] := by
  intro n
  induction n with
  | zero => intro x3 x4 x5 hf; simp [x_ringAt_L9] at hf
  | succ n9 ih9 =>
    intro x3 x4 x5 hf
    rw [x_ringAt_L9] at hf
    refine r_iload (pc' := 11) (i := 5) C 5 rfl dX11_ringAt_9 rfl ?_
    refine r_iload_n (pc' := 12) (f4 := 2) (i := 2) C 2 rfl rfl dX11_ringAt_11 rfl ?_
    refine r_icmp_gt (pc' := 15) (tgt := 45) C rfl rfl hf dX11_ringAt_12 (by decide) rfl (fun hf => ?_) (fun hf => ?_)
    · refine r_iload (pc' := 47) (i := 4) C 4 rfl dX11_ringAt_45 rfl ?_
      cases hf
      exact r_iret C dX11_ringAt_47
    · refine r_aload_n (pc' := 16) (f4 := 0) (i := 0) C 0 rfl rfl dX11_ringAt_15 rfl ?_
      refine r_iload (pc' := 18) (i := 5) C 5 rfl dX11_ringAt_16 rfl ?_
      refine r_iload_n (pc' := 19) (f4 := 1) (i := 1) C 1 rfl rfl dX11_ringAt_18 rfl ?_
      refine r_iload_n (pc' := 20) (f4 := 3) (i := 3) C 3 rfl rfl dX11_ringAt_19 rfl ?_
      obtain ⟨q1, hq1, hf⟩ := bind_in hf
      refine q_callV (pc' := 23) C (t_x_firstOfBest hF hq1) rfl (K_0 hF) cl_11 wv_RX11_228 ⟨Nat.le_of_ble_eq_true rfl, Nat.le_of_ble_eq_true rfl⟩ rfl rfl (Nat.le_of_ble_eq_true rfl) dX11_ringAt_20 rfl ⟨Nat.le_of_ble_eq_true rfl, Nat.le_of_ble_eq_true rfl⟩ ?_
      refine r_istore (pc' := 25) (i := 4) (L' := [(4, zI q1), (0, zP bs 0), (1, zI x1), (2, zI x2), (3, zI x3), (5, zI x5)]) C (by decide) rfl dX11_ringAt_23 rfl ?_
      refine r_iload (pc' := 27) (i := 4) C 0 rfl dX11_ringAt_25 rfl ?_
      refine r_bipush (pc' := 29) C rfl dX11_ringAt_27 rfl ?_
      refine r_icmp_eq (pc' := 32) (tgt := 39) C rfl ww_m5 hf dX11_ringAt_29 (by decide) rfl (fun hf => ?_) (fun hf => ?_)
      · refine r_iinc (pc' := 42) (i := 5) (L' := [(5, zI (x5 + 1)), (4, zI q1), (0, zP bs 0), (1, zI x1), (2, zI x2), (3, zI x3)]) C 5 rfl (by decide) rfl dX11_ringAt_39 rfl ?_
        refine r_goto (tgt := 9) C dX11_ringAt_42 (by decide) ?_
        refine V.sub (L' := [(0, zP bs 0), (1, zI x1), (2, zI x2), (3, zI x3), (4, zI q1), (5, zI (x5 + 1))]) [2, 3, 4, 5, 1, 0] rfl ?_
        exact ih9 _ _ _ hf
      · refine r_iload_n (pc' := 33) (f4 := 3) (i := 3) C 4 rfl rfl dX11_ringAt_32 rfl ?_
        refine r_iconst (pc' := 34) C dX11_ringAt_33 rfl ?_
        refine r_iload (pc' := 36) (i := 4) C 0 rfl dX11_ringAt_34 rfl ?_
        refine r_ishl (pc' := 37) C dX11_ringAt_36 rfl ?_
        refine r_ior (pc' := 38) C dX11_ringAt_37 rfl ?_
        refine r_istore_n (pc' := 39) (f4 := 3) (i := 3) (L' := [(3, zI (zor x3 (zshl 1 q1))), (4, zI q1), (0, zP bs 0), (1, zI x1), (2, zI x2), (5, zI x5)]) C rfl (by decide) rfl dX11_ringAt_38 rfl ?_
        refine r_iinc (pc' := 42) (i := 5) (L' := [(5, zI (x5 + 1)), (3, zI (zor x3 (zshl 1 q1))), (4, zI q1), (0, zP bs 0), (1, zI x1), (2, zI x2)]) C 5 rfl (by decide) rfl dX11_ringAt_39 rfl ?_
        refine r_goto (tgt := 9) C dX11_ringAt_42 (by decide) ?_
        refine V.sub (L' := [(0, zP bs 0), (1, zI x1), (2, zI x2), (3, zI (zor x3 (zshl 1 q1))), (4, zI q1), (5, zI (x5 + 1))]) [3, 4, 5, 1, 2, 0] rfl ?_
        exact ih9 _ _ _ hf
set_option maxHeartbeats 4000000 in
set_option maxRecDepth 100000 in
theorem t_x_ringAt {S : SS} (hF : Fx S) {h : HH} {a1 : Int} {a2 : Int} {res : Int} (hf : x_ringAt h a1 a2 = some res) : CM yX11_ringAt cX11_ringAt 6 (some Jvm.ClassFile.FieldType.int) 2 46 0 0 (fun bs => [zP bs 0, zI a1, zI a2]) h S (fun _ => some (zI res)) h S := by
  refine CM.intro (own := RX11) (by decide) rfl (fun _ => Nat.le_of_ble_eq_true rfl) ?_
  intro D dT bs p l e s m args below meth c C
  show V D dT bs 6 p l e rm_x_ringAt s m args below meth c 0 0 _ h S 0 [(0, zP bs 0), (1, zI a1), (2, zI a2)] []
  unfold x_ringAt at hf
  refine r_iconst (pc' := 1) C dX11_ringAt_0 rfl ?_
  refine r_istore_n (pc' := 2) (f4 := 3) (i := 3) (L' := [(3, zI 0), (0, zP bs 0), (1, zI a1), (2, zI a2)]) C rfl (by decide) rfl dX11_ringAt_1 rfl ?_
  refine r_bipush (pc' := 4) C rfl dX11_ringAt_2 rfl ?_
  refine r_istore (pc' := 6) (i := 4) (L' := [(4, zI (-5)), (3, zI 0), (0, zP bs 0), (1, zI a1), (2, zI a2)]) C (by decide) rfl dX11_ringAt_4 rfl ?_
  refine r_iconst (pc' := 7) C dX11_ringAt_6 rfl ?_
  refine r_istore (pc' := 9) (i := 5) (L' := [(5, zI 0), (4, zI (-5)), (3, zI 0), (0, zP bs 0), (1, zI a1), (2, zI a2)]) C (by decide) rfl dX11_ringAt_7 rfl ?_
  refine V.sub (L' := [(0, zP bs 0), (1, zI a1), (2, zI a2), (3, zI 0), (4, zI (-5)), (5, zI 0)]) [3, 4, 5, 2, 1, 0] rfl ?_
  refine w_x_ringAt_L9 hF C _ _ _ _ _ _ hf

/- WassailEnemies.ring(I)I -/
def x_ring (S : SS) (h : HH) (a1 : Int) : Option (Int × HH) :=
  if ww a1 = 0 then ((x_weigh S h).bind fun q1 => (xw_present q1 1).bind fun q2 => (x_fillBest q1 q2).bind fun q3 => if ww a1 = 0 then (some (zdiv q3.1 1000000, q3.2)) else (if ww a1 = 1 then (some (zrem q3.1 1000000, q3.2)) else ((x_ringAt q3.2 q2 (a1 - 10)).bind fun q4 => some (q4, q3.2)))) else (if ww a1 = 1 then ((x_weigh S h).bind fun q5 => (xw_present q5 1).bind fun q6 => (x_fillBest q5 q6).bind fun q7 => if ww a1 = 0 then (some (zdiv q7.1 1000000, q7.2)) else (if ww a1 = 1 then (some (zrem q7.1 1000000, q7.2)) else ((x_ringAt q7.2 q6 (a1 - 10)).bind fun q8 => some (q8, q7.2)))) else (if ww a1 < 10 then (some (-10001, h)) else (if ww (x_isTree (a1 - 10)) = 0 then (some (-10001, h)) else ((x_weigh S h).bind fun q9 => (xw_present q9 1).bind fun q10 => (x_fillBest q9 q10).bind fun q11 => if ww a1 = 0 then (some (zdiv q11.1 1000000, q11.2)) else (if ww a1 = 1 then (some (zrem q11.1 1000000, q11.2)) else ((x_ringAt q11.2 q10 (a1 - 10)).bind fun q12 => some (q12, q11.2)))))))
abbrev rm_x_ring : Room := { frames := 6, cells := 0, slots := 0, locals := 136 }
set_option maxHeartbeats 4000000 in
set_option maxRecDepth 100000 in
theorem t_x_ring {S : SS} (hF : Fx S) {h : HH} {a1 : Int} {res : Int × HH} (hf : x_ring S h a1 = some res) : CM yX11_ring cX11_ring 5 (some Jvm.ClassFile.FieldType.int) 6 136 0 0 (fun bs => [zP bs 0, zI a1]) h S (fun _ => some (zI res.1)) res.2 S := by
  refine CM.intro (own := RX11) (by decide) rfl (fun _ => Nat.le_of_ble_eq_true rfl) ?_
  intro D dT bs p l e s m args below meth c C
  show V D dT bs 5 p l e rm_x_ring s m args below meth c 0 0 _ h S 0 [(0, zP bs 0), (1, zI a1)] []
  unfold x_ring at hf
  refine r_iload_n (pc' := 1) (f4 := 1) (i := 1) C 1 rfl rfl dX11_ring_0 rfl ?_
  refine r_bipush (pc' := 3) C rfl dX11_ring_1 rfl ?_
  refine r_isub (pc' := 4) C dX11_ring_3 rfl ?_
  refine r_istore_n (pc' := 5) (f4 := 2) (i := 2) (L' := [(2, zI (a1 - 10)), (0, zP bs 0), (1, zI a1)]) C rfl (by decide) rfl dX11_ring_4 rfl ?_
  refine r_iload_n (pc' := 6) (f4 := 1) (i := 1) C 2 rfl rfl dX11_ring_5 rfl ?_
  refine r_if_eq (pc' := 9) (tgt := 31) C rfl hf dX11_ring_6 (by decide) rfl (fun hf => ?_) (fun hf => ?_)
  · refine r_aload_n (pc' := 32) (f4 := 0) (i := 0) C 1 rfl rfl dX11_ring_31 rfl ?_
    obtain ⟨q1, hq1, hf⟩ := bind_in hf
    refine q_callVv (pc' := 35) C (t_x_weigh hF hq1) rfl (K_0 hF) cl_11 wv_RX11_206 ⟨Nat.le_of_ble_eq_true rfl, Nat.le_of_ble_eq_true rfl⟩ rfl rfl (Nat.le_of_ble_eq_true rfl) dX11_ring_32 rfl ⟨Nat.le_of_ble_eq_true rfl, Nat.le_of_ble_eq_true rfl⟩ ?_
    refine r_aload_n (pc' := 36) (f4 := 0) (i := 0) C 1 rfl rfl dX11_ring_35 rfl ?_
    refine q_getP (pc' := 39) (j := 0) C (K_0 hF) fb_11_0 (by decide) wd_311 (Or.inl rfl) (F_0_0 hF) (by decide) dX11_ring_36 rfl ?_
    obtain ⟨q2, hq2, hf⟩ := bind_in hf
    refine q_callV (pc' := 42) C (t_xw_present hF lit_W_1 hq2) rfl (K_1 hF) cl_10 wv_RX11_209 ⟨Nat.le_of_ble_eq_true rfl, Nat.le_of_ble_eq_true rfl⟩ rfl rfl (Nat.le_of_ble_eq_true rfl) dX11_ring_39 rfl ⟨Nat.le_of_ble_eq_true rfl, Nat.le_of_ble_eq_true rfl⟩ ?_
    refine r_istore_n (pc' := 43) (f4 := 3) (i := 3) (L' := [(3, zI q2), (2, zI (a1 - 10)), (0, zP bs 0), (1, zI a1)]) C rfl (by decide) rfl dX11_ring_42 rfl ?_
    refine r_aload_n (pc' := 44) (f4 := 0) (i := 0) C 2 rfl rfl dX11_ring_43 rfl ?_
    refine r_iload_n (pc' := 45) (f4 := 3) (i := 3) C 0 rfl rfl dX11_ring_44 rfl ?_
    obtain ⟨q3, hq3, hf⟩ := bind_in hf
    refine q_callV (pc' := 48) C (t_x_fillBest hF hq3) rfl (K_0 hF) cl_11 wv_RX11_212 ⟨Nat.le_of_ble_eq_true rfl, Nat.le_of_ble_eq_true rfl⟩ rfl rfl (Nat.le_of_ble_eq_true rfl) dX11_ring_45 rfl ⟨Nat.le_of_ble_eq_true rfl, Nat.le_of_ble_eq_true rfl⟩ ?_
    refine r_istore (pc' := 50) (i := 4) (L' := [(4, zI q3.1), (3, zI q2), (2, zI (a1 - 10)), (0, zP bs 0), (1, zI a1)]) C (by decide) rfl dX11_ring_48 rfl ?_
    refine r_iload_n (pc' := 51) (f4 := 1) (i := 1) C 4 rfl rfl dX11_ring_50 rfl ?_
    refine r_if_ne (pc' := 54) (tgt := 60) C rfl hf dX11_ring_51 (by decide) rfl (fun hf => ?_) (fun hf => ?_)
    · refine r_iload (pc' := 56) (i := 4) C 0 rfl dX11_ring_54 rfl ?_
      refine r_ldc (pc' := 58) C (n := 1000000) wc_779 dX11_ring_56 rfl ?_
      refine r_idiv (pc' := 59) C ww_n1000000 (by decide) dX11_ring_58 rfl ?_
      cases hf
      exact r_iret C dX11_ring_59
    · refine r_iload_n (pc' := 61) (f4 := 1) (i := 1) C 4 rfl rfl dX11_ring_60 rfl ?_
      refine r_iconst (pc' := 62) C dX11_ring_61 rfl ?_
      refine r_icmp_ne (pc' := 65) (tgt := 73) C rfl ww_n1 hf dX11_ring_62 (by decide) rfl (fun hf => ?_) (fun hf => ?_)
      · refine r_iload (pc' := 67) (i := 4) C 0 rfl dX11_ring_65 rfl ?_
        refine r_ldc (pc' := 69) C (n := 1000000) wc_779 dX11_ring_67 rfl ?_
        refine r_irem (pc' := 70) C ww_n1000000 (by decide) dX11_ring_69 rfl ?_
        refine r_goto (tgt := 79) C dX11_ring_70 (by decide) ?_
        cases hf
        exact r_iret C dX11_ring_79
      · refine r_aload_n (pc' := 74) (f4 := 0) (i := 0) C 3 rfl rfl dX11_ring_73 rfl ?_
        refine r_iload_n (pc' := 75) (f4 := 3) (i := 3) C 1 rfl rfl dX11_ring_74 rfl ?_
        refine r_iload_n (pc' := 76) (f4 := 2) (i := 2) C 2 rfl rfl dX11_ring_75 rfl ?_
        obtain ⟨q4, hq4, hf⟩ := bind_in hf
        refine q_callV (pc' := 79) C (t_x_ringAt hF hq4) rfl (K_0 hF) cl_11 wv_RX11_216 ⟨Nat.le_of_ble_eq_true rfl, Nat.le_of_ble_eq_true rfl⟩ rfl rfl (Nat.le_of_ble_eq_true rfl) dX11_ring_76 rfl ⟨Nat.le_of_ble_eq_true rfl, Nat.le_of_ble_eq_true rfl⟩ ?_
        cases hf
        exact r_iret C dX11_ring_79
  · refine r_iload_n (pc' := 10) (f4 := 1) (i := 1) C 2 rfl rfl dX11_ring_9 rfl ?_
    refine r_iconst (pc' := 11) C dX11_ring_10 rfl ?_
    refine r_icmp_eq (pc' := 14) (tgt := 31) C rfl ww_n1 hf dX11_ring_11 (by decide) rfl (fun hf => ?_) (fun hf => ?_)
    · refine r_aload_n (pc' := 32) (f4 := 0) (i := 0) C 1 rfl rfl dX11_ring_31 rfl ?_
      obtain ⟨q5, hq5, hf⟩ := bind_in hf
      refine q_callVv (pc' := 35) C (t_x_weigh hF hq5) rfl (K_0 hF) cl_11 wv_RX11_206 ⟨Nat.le_of_ble_eq_true rfl, Nat.le_of_ble_eq_true rfl⟩ rfl rfl (Nat.le_of_ble_eq_true rfl) dX11_ring_32 rfl ⟨Nat.le_of_ble_eq_true rfl, Nat.le_of_ble_eq_true rfl⟩ ?_
      refine r_aload_n (pc' := 36) (f4 := 0) (i := 0) C 1 rfl rfl dX11_ring_35 rfl ?_
      refine q_getP (pc' := 39) (j := 0) C (K_0 hF) fb_11_0 (by decide) wd_311 (Or.inl rfl) (F_0_0 hF) (by decide) dX11_ring_36 rfl ?_
      obtain ⟨q6, hq6, hf⟩ := bind_in hf
      refine q_callV (pc' := 42) C (t_xw_present hF lit_W_1 hq6) rfl (K_1 hF) cl_10 wv_RX11_209 ⟨Nat.le_of_ble_eq_true rfl, Nat.le_of_ble_eq_true rfl⟩ rfl rfl (Nat.le_of_ble_eq_true rfl) dX11_ring_39 rfl ⟨Nat.le_of_ble_eq_true rfl, Nat.le_of_ble_eq_true rfl⟩ ?_
      refine r_istore_n (pc' := 43) (f4 := 3) (i := 3) (L' := [(3, zI q6), (2, zI (a1 - 10)), (0, zP bs 0), (1, zI a1)]) C rfl (by decide) rfl dX11_ring_42 rfl ?_
      refine r_aload_n (pc' := 44) (f4 := 0) (i := 0) C 2 rfl rfl dX11_ring_43 rfl ?_
      refine r_iload_n (pc' := 45) (f4 := 3) (i := 3) C 0 rfl rfl dX11_ring_44 rfl ?_
      obtain ⟨q7, hq7, hf⟩ := bind_in hf
      refine q_callV (pc' := 48) C (t_x_fillBest hF hq7) rfl (K_0 hF) cl_11 wv_RX11_212 ⟨Nat.le_of_ble_eq_true rfl, Nat.le_of_ble_eq_true rfl⟩ rfl rfl (Nat.le_of_ble_eq_true rfl) dX11_ring_45 rfl ⟨Nat.le_of_ble_eq_true rfl, Nat.le_of_ble_eq_true rfl⟩ ?_
      refine r_istore (pc' := 50) (i := 4) (L' := [(4, zI q7.1), (3, zI q6), (2, zI (a1 - 10)), (0, zP bs 0), (1, zI a1)]) C (by decide) rfl dX11_ring_48 rfl ?_
      refine r_iload_n (pc' := 51) (f4 := 1) (i := 1) C 4 rfl rfl dX11_ring_50 rfl ?_
      refine r_if_ne (pc' := 54) (tgt := 60) C rfl hf dX11_ring_51 (by decide) rfl (fun hf => ?_) (fun hf => ?_)
      · refine r_iload (pc' := 56) (i := 4) C 0 rfl dX11_ring_54 rfl ?_
        refine r_ldc (pc' := 58) C (n := 1000000) wc_779 dX11_ring_56 rfl ?_
        refine r_idiv (pc' := 59) C ww_n1000000 (by decide) dX11_ring_58 rfl ?_
        cases hf
        exact r_iret C dX11_ring_59
      · refine r_iload_n (pc' := 61) (f4 := 1) (i := 1) C 4 rfl rfl dX11_ring_60 rfl ?_
        refine r_iconst (pc' := 62) C dX11_ring_61 rfl ?_
        refine r_icmp_ne (pc' := 65) (tgt := 73) C rfl ww_n1 hf dX11_ring_62 (by decide) rfl (fun hf => ?_) (fun hf => ?_)
        · refine r_iload (pc' := 67) (i := 4) C 0 rfl dX11_ring_65 rfl ?_
          refine r_ldc (pc' := 69) C (n := 1000000) wc_779 dX11_ring_67 rfl ?_
          refine r_irem (pc' := 70) C ww_n1000000 (by decide) dX11_ring_69 rfl ?_
          refine r_goto (tgt := 79) C dX11_ring_70 (by decide) ?_
          cases hf
          exact r_iret C dX11_ring_79
        · refine r_aload_n (pc' := 74) (f4 := 0) (i := 0) C 3 rfl rfl dX11_ring_73 rfl ?_
          refine r_iload_n (pc' := 75) (f4 := 3) (i := 3) C 1 rfl rfl dX11_ring_74 rfl ?_
          refine r_iload_n (pc' := 76) (f4 := 2) (i := 2) C 2 rfl rfl dX11_ring_75 rfl ?_
          obtain ⟨q8, hq8, hf⟩ := bind_in hf
          refine q_callV (pc' := 79) C (t_x_ringAt hF hq8) rfl (K_0 hF) cl_11 wv_RX11_216 ⟨Nat.le_of_ble_eq_true rfl, Nat.le_of_ble_eq_true rfl⟩ rfl rfl (Nat.le_of_ble_eq_true rfl) dX11_ring_76 rfl ⟨Nat.le_of_ble_eq_true rfl, Nat.le_of_ble_eq_true rfl⟩ ?_
          cases hf
          exact r_iret C dX11_ring_79
    · refine r_iload_n (pc' := 15) (f4 := 1) (i := 1) C 2 rfl rfl dX11_ring_14 rfl ?_
      refine r_bipush (pc' := 17) C rfl dX11_ring_15 rfl ?_
      refine r_icmp_lt (pc' := 20) (tgt := 27) C rfl ww_n10 hf dX11_ring_17 (by decide) rfl (fun hf => ?_) (fun hf => ?_)
      · refine r_sipush (pc' := 30) C rfl dX11_ring_27 rfl ?_
        cases hf
        exact r_iret C dX11_ring_30
      · refine r_iload_n (pc' := 21) (f4 := 2) (i := 2) C 0 rfl rfl dX11_ring_20 rfl ?_
        refine q_callS (pc' := 24) C (t_x_isTree hF) rfl ws_RX11_118 ⟨Nat.le_of_ble_eq_true rfl, Nat.le_of_ble_eq_true rfl⟩ rfl rfl (Nat.le_of_ble_eq_true rfl) dX11_ring_21 rfl ⟨Nat.le_of_ble_eq_true rfl, Nat.le_of_ble_eq_true rfl⟩ ?_
        refine r_if_ne (pc' := 27) (tgt := 31) C rfl hf dX11_ring_24 (by decide) rfl (fun hf => ?_) (fun hf => ?_)
        · refine r_sipush (pc' := 30) C rfl dX11_ring_27 rfl ?_
          cases hf
          exact r_iret C dX11_ring_30
        · refine r_aload_n (pc' := 32) (f4 := 0) (i := 0) C 1 rfl rfl dX11_ring_31 rfl ?_
          obtain ⟨q9, hq9, hf⟩ := bind_in hf
          refine q_callVv (pc' := 35) C (t_x_weigh hF hq9) rfl (K_0 hF) cl_11 wv_RX11_206 ⟨Nat.le_of_ble_eq_true rfl, Nat.le_of_ble_eq_true rfl⟩ rfl rfl (Nat.le_of_ble_eq_true rfl) dX11_ring_32 rfl ⟨Nat.le_of_ble_eq_true rfl, Nat.le_of_ble_eq_true rfl⟩ ?_
          refine r_aload_n (pc' := 36) (f4 := 0) (i := 0) C 1 rfl rfl dX11_ring_35 rfl ?_
          refine q_getP (pc' := 39) (j := 0) C (K_0 hF) fb_11_0 (by decide) wd_311 (Or.inl rfl) (F_0_0 hF) (by decide) dX11_ring_36 rfl ?_
          obtain ⟨q10, hq10, hf⟩ := bind_in hf
          refine q_callV (pc' := 42) C (t_xw_present hF lit_W_1 hq10) rfl (K_1 hF) cl_10 wv_RX11_209 ⟨Nat.le_of_ble_eq_true rfl, Nat.le_of_ble_eq_true rfl⟩ rfl rfl (Nat.le_of_ble_eq_true rfl) dX11_ring_39 rfl ⟨Nat.le_of_ble_eq_true rfl, Nat.le_of_ble_eq_true rfl⟩ ?_
          refine r_istore_n (pc' := 43) (f4 := 3) (i := 3) (L' := [(3, zI q10), (2, zI (a1 - 10)), (0, zP bs 0), (1, zI a1)]) C rfl (by decide) rfl dX11_ring_42 rfl ?_
          refine r_aload_n (pc' := 44) (f4 := 0) (i := 0) C 2 rfl rfl dX11_ring_43 rfl ?_
          refine r_iload_n (pc' := 45) (f4 := 3) (i := 3) C 0 rfl rfl dX11_ring_44 rfl ?_
          obtain ⟨q11, hq11, hf⟩ := bind_in hf
          refine q_callV (pc' := 48) C (t_x_fillBest hF hq11) rfl (K_0 hF) cl_11 wv_RX11_212 ⟨Nat.le_of_ble_eq_true rfl, Nat.le_of_ble_eq_true rfl⟩ rfl rfl (Nat.le_of_ble_eq_true rfl) dX11_ring_45 rfl ⟨Nat.le_of_ble_eq_true rfl, Nat.le_of_ble_eq_true rfl⟩ ?_
          refine r_istore (pc' := 50) (i := 4) (L' := [(4, zI q11.1), (3, zI q10), (2, zI (a1 - 10)), (0, zP bs 0), (1, zI a1)]) C (by decide) rfl dX11_ring_48 rfl ?_
          refine r_iload_n (pc' := 51) (f4 := 1) (i := 1) C 4 rfl rfl dX11_ring_50 rfl ?_
          refine r_if_ne (pc' := 54) (tgt := 60) C rfl hf dX11_ring_51 (by decide) rfl (fun hf => ?_) (fun hf => ?_)
          · refine r_iload (pc' := 56) (i := 4) C 0 rfl dX11_ring_54 rfl ?_
            refine r_ldc (pc' := 58) C (n := 1000000) wc_779 dX11_ring_56 rfl ?_
            refine r_idiv (pc' := 59) C ww_n1000000 (by decide) dX11_ring_58 rfl ?_
            cases hf
            exact r_iret C dX11_ring_59
          · refine r_iload_n (pc' := 61) (f4 := 1) (i := 1) C 4 rfl rfl dX11_ring_60 rfl ?_
            refine r_iconst (pc' := 62) C dX11_ring_61 rfl ?_
            refine r_icmp_ne (pc' := 65) (tgt := 73) C rfl ww_n1 hf dX11_ring_62 (by decide) rfl (fun hf => ?_) (fun hf => ?_)
            · refine r_iload (pc' := 67) (i := 4) C 0 rfl dX11_ring_65 rfl ?_
              refine r_ldc (pc' := 69) C (n := 1000000) wc_779 dX11_ring_67 rfl ?_
              refine r_irem (pc' := 70) C ww_n1000000 (by decide) dX11_ring_69 rfl ?_
              refine r_goto (tgt := 79) C dX11_ring_70 (by decide) ?_
              cases hf
              exact r_iret C dX11_ring_79
            · refine r_aload_n (pc' := 74) (f4 := 0) (i := 0) C 3 rfl rfl dX11_ring_73 rfl ?_
              refine r_iload_n (pc' := 75) (f4 := 3) (i := 3) C 1 rfl rfl dX11_ring_74 rfl ?_
              refine r_iload_n (pc' := 76) (f4 := 2) (i := 2) C 2 rfl rfl dX11_ring_75 rfl ?_
              obtain ⟨q12, hq12, hf⟩ := bind_in hf
              refine q_callV (pc' := 79) C (t_x_ringAt hF hq12) rfl (K_0 hF) cl_11 wv_RX11_216 ⟨Nat.le_of_ble_eq_true rfl, Nat.le_of_ble_eq_true rfl⟩ rfl rfl (Nat.le_of_ble_eq_true rfl) dX11_ring_76 rfl ⟨Nat.le_of_ble_eq_true rfl, Nat.le_of_ble_eq_true rfl⟩ ?_
              cases hf
              exact r_iret C dX11_ring_79

/- WassailEnemies.turnAt(III)I -/
def x_turnAt_L8 (h : HH) (x3 : Int) : Nat → Int → Int → Option Int
  | 0, _, _ => none
  | n8 + 1, x4, x5 =>
    if ww x3 < ww x5 then (ckz (ww (zmax 1 (h 1 4))) <| x_turnAt_L8 h x3 n8 (zdiv x4 (zmax 1 (h 1 4))) (x5 + (-1))) else (ckz (ww (zmax 1 (h 1 4))) <| some (zrem x4 (zmax 1 (h 1 4))))
def x_turnAt (h : HH) (a1 : Int) (a2 : Int) (a3 : Int) : Option Int :=
  x_turnAt_L8 h a3 FU a1 (a2 - 1)
abbrev rm_x_turnAt : Room := { frames := 1, cells := 0, slots := 0, locals := 21 }
set_option maxHeartbeats 4000000 in
set_option maxRecDepth 100000 in
theorem w_x_turnAt_L8 (hF : Fx S) (C : Cx D dT bs RX11 cX11_turnAt 6 (some Jvm.ClassFile.FieldType.int) p s m args meth c) {h : HH} (x3 : Int) {res : Int} :
    ∀ (n : Nat) (x4 : Int) (x5 : Int), x_turnAt_L8 h x3 n x4 x5 = some res → V D dT bs 6 p l e rm_x_turnAt s m args below meth c 0 0 (MQ below (QQ D dT bs (some (zI res)) h S) args s 0 0 (AA bs)) h S 8 [(0, zP bs 0), (3, zI x3), (4, zI x4), (5, zI x5)] [] := by
  intro n
  induction n with
  | zero => intro x4 x5 hf; simp [x_turnAt_L8] at hf
  | succ n8 ih8 =>
    intro x4 x5 hf
    rw [x_turnAt_L8] at hf
    refine r_iload (pc' := 10) (i := 5) C 3 rfl dX11_turnAt_8 rfl ?_
    refine r_iload_n (pc' := 11) (f4 := 3) (i := 3) C 1 rfl rfl dX11_turnAt_10 rfl ?_
    refine r_icmp_le (pc' := 14) (tgt := 36) C rfl rfl hf dX11_turnAt_11 (by decide) rfl (fun hf => ?_) (fun hf => ?_)
    · refine r_iload (pc' := 16) (i := 4) C 2 rfl dX11_turnAt_14 rfl ?_
      refine r_iconst (pc' := 17) C dX11_turnAt_16 rfl ?_
      refine r_aload_n (pc' := 18) (f4 := 0) (i := 0) C 0 rfl rfl dX11_turnAt_17 rfl ?_
      refine q_getP (pc' := 21) (j := 0) C (K_0 hF) fb_11_0 (by decide) wd_311 (Or.inl rfl) (F_0_0 hF) (by decide) dX11_turnAt_18 rfl ?_
      refine q_getI (pc' := 24) (j := 4) C (K_1 hF) fb_10_4 wd_184 (Or.inl rfl) dX11_turnAt_21 rfl ?_
      refine r_max (pc' := 27) C wd_795 wd_568 wd_114 wd_569 (Nat.le_of_ble_eq_true rfl) (Nat.le_of_ble_eq_true rfl) ⟨Nat.le_of_ble_eq_true rfl, Nat.le_of_ble_eq_true rfl⟩ dX11_turnAt_24 rfl ?_
      obtain ⟨hz, hf⟩ := ckz_in hf
      refine r_idiv (pc' := 28) C rfl hz dX11_turnAt_27 rfl ?_
      refine r_istore (pc' := 30) (i := 4) (L' := [(4, zI (zdiv x4 (zmax 1 (h 1 4)))), (0, zP bs 0), (3, zI x3), (5, zI x5)]) C (by decide) rfl dX11_turnAt_28 rfl ?_
      refine r_iinc (pc' := 33) (i := 5) (L' := [(5, zI (x5 + (-1))), (4, zI (zdiv x4 (zmax 1 (h 1 4)))), (0, zP bs 0), (3, zI x3)]) C 3 rfl (by decide) rfl dX11_turnAt_30 rfl ?_
      refine r_goto (tgt := 8) C dX11_turnAt_33 (by decide) ?_
      refine V.sub (L' := [(0, zP bs 0), (3, zI x3), (4, zI (zdiv x4 (zmax 1 (h 1 4)))), (5, zI (x5 + (-1)))]) [2, 3, 1, 0] rfl ?_
      exact ih8 _ _ hf
    · refine r_iload (pc' := 38) (i := 4) C 2 rfl dX11_turnAt_36 rfl ?_
      refine r_iconst (pc' := 39) C dX11_turnAt_38 rfl ?_
      refine r_aload_n (pc' := 40) (f4 := 0) (i := 0) C 0 rfl rfl dX11_turnAt_39 rfl ?_
      refine q_getP (pc' := 43) (j := 0) C (K_0 hF) fb_11_0 (by decide) wd_311 (Or.inl rfl) (F_0_0 hF) (by decide) dX11_turnAt_40 rfl ?_
      refine q_getI (pc' := 46) (j := 4) C (K_1 hF) fb_10_4 wd_184 (Or.inl rfl) dX11_turnAt_43 rfl ?_
      refine r_max (pc' := 49) C wd_795 wd_568 wd_114 wd_569 (Nat.le_of_ble_eq_true rfl) (Nat.le_of_ble_eq_true rfl) ⟨Nat.le_of_ble_eq_true rfl, Nat.le_of_ble_eq_true rfl⟩ dX11_turnAt_46 rfl ?_
      obtain ⟨hz, hf⟩ := ckz_in hf
      refine r_irem (pc' := 50) C rfl hz dX11_turnAt_49 rfl ?_
      cases hf
      exact r_iret C dX11_turnAt_50
set_option maxHeartbeats 4000000 in
set_option maxRecDepth 100000 in
theorem t_x_turnAt {S : SS} (hF : Fx S) {h : HH} {a1 : Int} {a2 : Int} {a3 : Int} {res : Int} (hf : x_turnAt h a1 a2 a3 = some res) : CM yX11_turnAt cX11_turnAt 6 (some Jvm.ClassFile.FieldType.int) 1 21 0 0 (fun bs => [zP bs 0, zI a1, zI a2, zI a3]) h S (fun _ => some (zI res)) h S := by
  refine CM.intro (own := RX11) (by decide) rfl (fun _ => Nat.le_of_ble_eq_true rfl) ?_
  intro D dT bs p l e s m args below meth c C
  show V D dT bs 6 p l e rm_x_turnAt s m args below meth c 0 0 _ h S 0 [(0, zP bs 0), (1, zI a1), (2, zI a2), (3, zI a3)] []
  unfold x_turnAt at hf
  refine r_iload_n (pc' := 1) (f4 := 1) (i := 1) C 1 rfl rfl dX11_turnAt_0 rfl ?_
  refine r_istore (pc' := 3) (i := 4) (L' := [(4, zI a1), (0, zP bs 0), (1, zI a1), (2, zI a2), (3, zI a3)]) C (by decide) rfl dX11_turnAt_1 rfl ?_
  refine r_iload_n (pc' := 4) (f4 := 2) (i := 2) C 3 rfl rfl dX11_turnAt_3 rfl ?_
  refine r_iconst (pc' := 5) C dX11_turnAt_4 rfl ?_
  refine r_isub (pc' := 6) C dX11_turnAt_5 rfl ?_
  refine r_istore (pc' := 8) (i := 5) (L' := [(5, zI (a2 - 1)), (4, zI a1), (0, zP bs 0), (1, zI a1), (2, zI a2), (3, zI a3)]) C (by decide) rfl dX11_turnAt_6 rfl ?_
  refine V.sub (L' := [(0, zP bs 0), (3, zI a3), (4, zI a1), (5, zI (a2 - 1))]) [2, 5, 1, 0] rfl ?_
  refine w_x_turnAt_L8 hF C _ _ _ _ hf

/- WassailEnemies.bearingByTurns(III)I -/
def x_bearingByTurns_L17 (S : SS) (x1 : Int) (x2 : Int) (x3 : Int) : Nat → HH → Int → Int → Option (Int × HH)
  | 0, _, _, _ => none
  | n17 + 1, h, x4, x5 =>
    if ww x5 < ww x2 then ((x_turnAt h x3 x2 x5).bind fun q2 => (xw_goAt S h 99 x1 q2).bind fun q3 => x_bearingByTurns_L17 S x1 x2 x3 n17 (u2 q3.2 99 7 ((q3.2 99 7) + 1)) (x4 + (x_bit q3.1)) (x5 + 1)) else (some (x4, h))
def x_bearingByTurns (S : SS) (h : HH) (a1 : Int) (a2 : Int) (a3 : Int) : Option (Int × HH) :=
  (xw_goFrom S h 99 1).bind fun q1 => x_bearingByTurns_L17 S a1 a2 a3 FU q1 0 0
abbrev rm_x_bearingByTurns : Room := { frames := 7, cells := 0, slots := 0, locals := 156 }
set_option maxHeartbeats 4000000 in
set_option maxRecDepth 100000 in
theorem w_x_bearingByTurns_L17 (hF : Fx S) (C : Cx D dT bs RX11 cX11_bearingByTurns 6 (some Jvm.ClassFile.FieldType.int) p s m args meth c) (x1 : Int) (x2 : Int) (x3 : Int) {res : (Int × HH)} :
    ∀ (n : Nat) (h : HH) (x4 : Int) (x5 : Int), x_bearingByTurns_L17 S x1 x2 x3 n h x4 x5 = some res → V D dT bs 6 p l e rm_x_bearingByTurns s m args below meth c 0 0 (MQ below (QQ D dT bs (some (zI res.1)) res.2 S) args s 0 0 (AA bs)) h S 17 [(0, zP bs 0), (1, zI x1), (2, zI x2), (3, zI x3), (4, zI x4), (5, zI x5)] [] := by
  intro n
  induction n with
  | zero => intro h x4 x5 hf; simp [x_bearingByTurns_L17] at hf
  | succ n17 ih17 =>
    intro h x4 x5 hf
    rw [x_bearingByTurns_L17] at hf
    refine r_iload (pc' := 19) (i := 5) C 5 rfl dX11_bearingByTurns_17 rfl ?_
    refine r_iload_n (pc' := 20) (f4 := 2) (i := 2) C 2 rfl rfl dX11_bearingByTurns_19 rfl ?_
    refine r_icmp_ge (pc' := 23) (tgt := 66) C rfl rfl hf dX11_bearingByTurns_20 (by decide) rfl (fun hf => ?_) (fun hf => ?_)
    · refine r_iload (pc' := 25) (i := 4) C 4 rfl dX11_bearingByTurns_23 rfl ?_
      refine r_aload_n (pc' := 26) (f4 := 0) (i := 0) C 0 rfl rfl dX11_bearingByTurns_25 rfl ?_
      refine q_getP (pc' := 29) (j := 2) C (K_0 hF) fb_11_2 (by decide) wd_313 (Or.inl rfl) (F_0_2 hF) (by decide) dX11_bearingByTurns_26 rfl ?_
      refine r_iload_n (pc' := 30) (f4 := 1) (i := 1) C 1 rfl rfl dX11_bearingByTurns_29 rfl ?_
      refine r_aload_n (pc' := 31) (f4 := 0) (i := 0) C 0 rfl rfl dX11_bearingByTurns_30 rfl ?_
      refine r_iload_n (pc' := 32) (f4 := 3) (i := 3) C 3 rfl rfl dX11_bearingByTurns_31 rfl ?_
      refine r_iload_n (pc' := 33) (f4 := 2) (i := 2) C 2 rfl rfl dX11_bearingByTurns_32 rfl ?_
      refine r_iload (pc' := 35) (i := 5) C 5 rfl dX11_bearingByTurns_33 rfl ?_
      obtain ⟨q2, hq2, hf⟩ := bind_in hf
      refine q_callV (pc' := 38) C (t_x_turnAt hF hq2) rfl (K_0 hF) cl_11 wv_RX11_237 ⟨Nat.le_of_ble_eq_true rfl, Nat.le_of_ble_eq_true rfl⟩ rfl rfl (Nat.le_of_ble_eq_true rfl) dX11_bearingByTurns_35 rfl ⟨Nat.le_of_ble_eq_true rfl, Nat.le_of_ble_eq_true rfl⟩ ?_
      obtain ⟨q3, hq3, hf⟩ := bind_in hf
      refine q_callV (pc' := 41) C (t_xw_goAt hF lit_W_99 hq3) rfl (K_99 hF) cl_10 wv_RX11_202 ⟨Nat.le_of_ble_eq_true rfl, Nat.le_of_ble_eq_true rfl⟩ rfl rfl (Nat.le_of_ble_eq_true rfl) dX11_bearingByTurns_38 rfl ⟨Nat.le_of_ble_eq_true rfl, Nat.le_of_ble_eq_true rfl⟩ ?_
      refine q_callS (pc' := 44) C (t_x_bit hF) rfl ws_RX11_106 ⟨Nat.le_of_ble_eq_true rfl, Nat.le_of_ble_eq_true rfl⟩ rfl rfl (Nat.le_of_ble_eq_true rfl) dX11_bearingByTurns_41 rfl ⟨Nat.le_of_ble_eq_true rfl, Nat.le_of_ble_eq_true rfl⟩ ?_
      refine r_iadd (pc' := 45) C dX11_bearingByTurns_44 rfl ?_
      refine r_istore (pc' := 47) (i := 4) (L' := [(4, zI (x4 + (x_bit q3.1))), (0, zP bs 0), (1, zI x1), (2, zI x2), (3, zI x3), (5, zI x5)]) C (by decide) rfl dX11_bearingByTurns_45 rfl ?_
      refine r_aload_n (pc' := 48) (f4 := 0) (i := 0) C 1 rfl rfl dX11_bearingByTurns_47 rfl ?_
      refine q_getP (pc' := 51) (j := 2) C (K_0 hF) fb_11_2 (by decide) wd_313 (Or.inl rfl) (F_0_2 hF) (by decide) dX11_bearingByTurns_48 rfl ?_
      refine r_dup (pc' := 52) C rfl dX11_bearingByTurns_51 rfl ?_
      refine q_getI (pc' := 55) (j := 7) C (K_99 hF) fb_10_7 wd_194 (Or.inl rfl) dX11_bearingByTurns_52 rfl ?_
      refine r_iconst (pc' := 56) C dX11_bearingByTurns_55 rfl ?_
      refine r_iadd (pc' := 57) C dX11_bearingByTurns_56 rfl ?_
      refine q_putI (pc' := 60) (j := 7) C (K_99 hF) fb_10_7 fp_10_7 wd_194 (Or.inl rfl) (Or.inl rfl) rfl rfl dX11_bearingByTurns_57 rfl ?_
      refine r_iinc (pc' := 63) (i := 5) (L' := [(5, zI (x5 + 1)), (4, zI (x4 + (x_bit q3.1))), (0, zP bs 0), (1, zI x1), (2, zI x2), (3, zI x3)]) C 5 rfl (by decide) rfl dX11_bearingByTurns_60 rfl ?_
      refine r_goto (tgt := 17) C dX11_bearingByTurns_63 (by decide) ?_
      refine V.sub (L' := [(0, zP bs 0), (1, zI x1), (2, zI x2), (3, zI x3), (4, zI (x4 + (x_bit q3.1))), (5, zI (x5 + 1))]) [2, 3, 4, 5, 1, 0] rfl ?_
      exact ih17 _ _ _ hf
    · refine r_iload (pc' := 68) (i := 4) C 4 rfl dX11_bearingByTurns_66 rfl ?_
      cases hf
      exact r_iret C dX11_bearingByTurns_68
set_option maxHeartbeats 4000000 in
set_option maxRecDepth 100000 in
theorem t_x_bearingByTurns {S : SS} (hF : Fx S) {h : HH} {a1 : Int} {a2 : Int} {a3 : Int} {res : Int × HH} (hf : x_bearingByTurns S h a1 a2 a3 = some res) : CM yX11_bearingByTurns cX11_bearingByTurns 6 (some Jvm.ClassFile.FieldType.int) 7 156 0 0 (fun bs => [zP bs 0, zI a1, zI a2, zI a3]) h S (fun _ => some (zI res.1)) res.2 S := by
  refine CM.intro (own := RX11) (by decide) rfl (fun _ => Nat.le_of_ble_eq_true rfl) ?_
  intro D dT bs p l e s m args below meth c C
  show V D dT bs 6 p l e rm_x_bearingByTurns s m args below meth c 0 0 _ h S 0 [(0, zP bs 0), (1, zI a1), (2, zI a2), (3, zI a3)] []
  unfold x_bearingByTurns at hf
  refine r_aload_n (pc' := 1) (f4 := 0) (i := 0) C 0 rfl rfl dX11_bearingByTurns_0 rfl ?_
  refine q_getP (pc' := 4) (j := 2) C (K_0 hF) fb_11_2 (by decide) wd_313 (Or.inl rfl) (F_0_2 hF) (by decide) dX11_bearingByTurns_1 rfl ?_
  refine r_aload_n (pc' := 5) (f4 := 0) (i := 0) C 0 rfl rfl dX11_bearingByTurns_4 rfl ?_
  refine q_getP (pc' := 8) (j := 0) C (K_0 hF) fb_11_0 (by decide) wd_311 (Or.inl rfl) (F_0_0 hF) (by decide) dX11_bearingByTurns_5 rfl ?_
  obtain ⟨q1, hq1, hf⟩ := bind_in hf
  refine q_callVv (pc' := 11) C (t_xw_goFrom hF lit_W_99 lit_W_1 hq1) rfl (K_99 hF) cl_10 wv_RX11_198 ⟨Nat.le_of_ble_eq_true rfl, Nat.le_of_ble_eq_true rfl⟩ rfl rfl (Nat.le_of_ble_eq_true rfl) dX11_bearingByTurns_8 rfl ⟨Nat.le_of_ble_eq_true rfl, Nat.le_of_ble_eq_true rfl⟩ ?_
  refine r_iconst (pc' := 12) C dX11_bearingByTurns_11 rfl ?_
  refine r_istore (pc' := 14) (i := 4) (L' := [(4, zI 0), (0, zP bs 0), (1, zI a1), (2, zI a2), (3, zI a3)]) C (by decide) rfl dX11_bearingByTurns_12 rfl ?_
  refine r_iconst (pc' := 15) C dX11_bearingByTurns_14 rfl ?_
  refine r_istore (pc' := 17) (i := 5) (L' := [(5, zI 0), (4, zI 0), (0, zP bs 0), (1, zI a1), (2, zI a2), (3, zI a3)]) C (by decide) rfl dX11_bearingByTurns_15 rfl ?_
  refine V.sub (L' := [(0, zP bs 0), (1, zI a1), (2, zI a2), (3, zI a3), (4, zI 0), (5, zI 0)]) [2, 3, 4, 5, 1, 0] rfl ?_
  refine w_x_bearingByTurns_L17 hF C _ _ _ _ _ _ _ hf

/- WassailEnemies.firstOfTurns(II)I -/
def x_firstOfTurns_L5 (S : SS) (x1 : Int) (x2 : Int) (k27 : HH → Int → Option (Int × HH)) : Nat → HH → Int → Int → Option (Int × HH)
  | 0, _, _, _ => none
  | n5 + 1, h, x3, x4 =>
    if ww x4 < ww x2 then (x_firstOfTurns_L5 S x1 x2 k27 n5 h (x3 * (h 1 4)) (x4 + 1)) else (k27 h x3)
def x_firstOfTurns_L36 (S : SS) (x1 : Int) (x2 : Int) (x3 : Int) : Nat → HH → Int → Int → Int → Option (Int × HH)
  | 0, _, _, _, _ => none
  | n36 + 1, h, x4, x5, x6 =>
    if ww x6 < ww x3 then (if ww x5 < ww x2 then ((x_bearingByTurns S h x1 x2 x6).bind fun q3 => if ww x5 < ww q3.1 then (x_firstOfTurns_L36 S x1 x2 x3 n36 q3.2 x6 q3.1 (x6 + 1)) else (x_firstOfTurns_L36 S x1 x2 x3 n36 q3.2 x4 x5 (x6 + 1))) else (some (x4, h))) else (some (x4, h))
def x_firstOfTurns (S : SS) (h : HH) (a1 : Int) (a2 : Int) : Option (Int × HH) :=
  x_firstOfTurns_L5 S a1 a2 (fun h2 y1 => x_firstOfTurns_L36 S a1 a2 y1 FU h2 0 (-1) 0) FU h 1 0
abbrev rm_x_firstOfTurns : Room := { frames := 8, cells := 0, slots := 0, locals := 181 }
set_option maxHeartbeats 4000000 in
set_option maxRecDepth 100000 in
theorem w_x_firstOfTurns_L5 (hF : Fx S) (C : Cx D dT bs RX11 cX11_firstOfTurns 8 (some Jvm.ClassFile.FieldType.int) p s m args meth c) (x1 : Int) (x2 : Int) (k27 : HH → Int → Option (Int × HH)) {res : (Int × HH)} (hk27 : ∀ (h : HH) (x3 : Int), k27 h x3 = some res → V D dT bs 8 p l e rm_x_firstOfTurns s m args below meth c 0 0 (MQ below (QQ D dT bs (some (zI res.1)) res.2 S) args s 0 0 (AA bs)) h S 27 [(0, zP bs 0), (1, zI x1), (2, zI x2), (3, zI x3)] []) :
    ∀ (n : Nat) (h : HH) (x3 : Int) (x4 : Int), x_firstOfTurns_L5 S x1 x2 k27 n h x3 x4 = some res → V D dT bs 8 p l e rm_x_firstOfTurns s m args below meth c 0 0 (MQ below (QQ D dT bs (some (zI res.1)) res.2 S) args s 0 0 (AA bs)) h S 5 [(0, zP bs 0), (1, zI x1), (2, zI x2), (3, zI x3), (4, zI x4)] [] := by
  intro n
  induction n with
  | zero => intro h x3 x4 hf; simp [x_firstOfTurns_L5] at hf
  | succ n5 ih5 =>
    intro h x3 x4 hf
    rw [x_firstOfTurns_L5] at hf
    refine r_iload (pc' := 7) (i := 4) C 4 rfl dX11_firstOfTurns_5 rfl ?_
    refine r_iload_n (pc' := 8) (f4 := 2) (i := 2) C 2 rfl rfl dX11_firstOfTurns_7 rfl ?_
    refine r_icmp_ge (pc' := 11) (tgt := 27) C rfl rfl hf dX11_firstOfTurns_8 (by decide) rfl (fun hf => ?_) (fun hf => ?_)
    · refine r_iload_n (pc' := 12) (f4 := 3) (i := 3) C 3 rfl rfl dX11_firstOfTurns_11 rfl ?_
      refine r_aload_n (pc' := 13) (f4 := 0) (i := 0) C 0 rfl rfl dX11_firstOfTurns_12 rfl ?_
      refine q_getP (pc' := 16) (j := 0) C (K_0 hF) fb_11_0 (by decide) wd_311 (Or.inl rfl) (F_0_0 hF) (by decide) dX11_firstOfTurns_13 rfl ?_
      refine q_getI (pc' := 19) (j := 4) C (K_1 hF) fb_10_4 wd_184 (Or.inl rfl) dX11_firstOfTurns_16 rfl ?_
      refine r_imul (pc' := 20) C dX11_firstOfTurns_19 rfl ?_
      refine r_istore_n (pc' := 21) (f4 := 3) (i := 3) (L' := [(3, zI (x3 * (h 1 4))), (0, zP bs 0), (1, zI x1), (2, zI x2), (4, zI x4)]) C rfl (by decide) rfl dX11_firstOfTurns_20 rfl ?_
      refine r_iinc (pc' := 24) (i := 4) (L' := [(4, zI (x4 + 1)), (3, zI (x3 * (h 1 4))), (0, zP bs 0), (1, zI x1), (2, zI x2)]) C 4 rfl (by decide) rfl dX11_firstOfTurns_21 rfl ?_
      refine r_goto (tgt := 5) C dX11_firstOfTurns_24 (by decide) ?_
      refine V.sub (L' := [(0, zP bs 0), (1, zI x1), (2, zI x2), (3, zI (x3 * (h 1 4))), (4, zI (x4 + 1))]) [2, 3, 4, 1, 0] rfl ?_
      exact ih5 _ _ _ hf
    · refine V.sub (L' := [(0, zP bs 0), (1, zI x1), (2, zI x2), (3, zI x3)]) [0, 1, 2, 3] rfl ?_
      exact hk27 _ _ hf
set_option maxHeartbeats 4000000 in
set_option maxRecDepth 100000 in
theorem w_x_firstOfTurns_L36 (hF : Fx S) (C : Cx D dT bs RX11 cX11_firstOfTurns 8 (some Jvm.ClassFile.FieldType.int) p s m args meth c) (x1 : Int) (x2 : Int) (x3 : Int) {res : (Int × HH)} :
    ∀ (n : Nat) (h : HH) (x4 : Int) (x5 : Int) (x6 : Int), x_firstOfTurns_L36 S x1 x2 x3 n h x4 x5 x6 = some res → V D dT bs 8 p l e rm_x_firstOfTurns s m args below meth c 0 0 (MQ below (QQ D dT bs (some (zI res.1)) res.2 S) args s 0 0 (AA bs)) h S 36 [(0, zP bs 0), (1, zI x1), (2, zI x2), (3, zI x3), (4, zI x4), (5, zI x5), (6, zI x6)] [] := by
  intro n
  induction n with
  | zero => intro h x4 x5 x6 hf; simp [x_firstOfTurns_L36] at hf
  | succ n36 ih36 =>
    intro h x4 x5 x6 hf
    rw [x_firstOfTurns_L36] at hf
    refine r_iload (pc' := 38) (i := 6) C 6 rfl dX11_firstOfTurns_36 rfl ?_
    refine r_iload_n (pc' := 39) (f4 := 3) (i := 3) C 3 rfl rfl dX11_firstOfTurns_38 rfl ?_
    refine r_icmp_ge (pc' := 42) (tgt := 79) C rfl rfl hf dX11_firstOfTurns_39 (by decide) rfl (fun hf => ?_) (fun hf => ?_)
    · refine r_iload (pc' := 44) (i := 5) C 5 rfl dX11_firstOfTurns_42 rfl ?_
      refine r_iload_n (pc' := 45) (f4 := 2) (i := 2) C 2 rfl rfl dX11_firstOfTurns_44 rfl ?_
      refine r_icmp_ge (pc' := 48) (tgt := 79) C rfl rfl hf dX11_firstOfTurns_45 (by decide) rfl (fun hf => ?_) (fun hf => ?_)
      · refine r_aload_n (pc' := 49) (f4 := 0) (i := 0) C 0 rfl rfl dX11_firstOfTurns_48 rfl ?_
        refine r_iload_n (pc' := 50) (f4 := 1) (i := 1) C 1 rfl rfl dX11_firstOfTurns_49 rfl ?_
        refine r_iload_n (pc' := 51) (f4 := 2) (i := 2) C 2 rfl rfl dX11_firstOfTurns_50 rfl ?_
        refine r_iload (pc' := 53) (i := 6) C 6 rfl dX11_firstOfTurns_51 rfl ?_
        obtain ⟨q3, hq3, hf⟩ := bind_in hf
        refine q_callV (pc' := 56) C (t_x_bearingByTurns hF hq3) rfl (K_0 hF) cl_11 wv_RX11_234 ⟨Nat.le_of_ble_eq_true rfl, Nat.le_of_ble_eq_true rfl⟩ rfl rfl (Nat.le_of_ble_eq_true rfl) dX11_firstOfTurns_53 rfl ⟨Nat.le_of_ble_eq_true rfl, Nat.le_of_ble_eq_true rfl⟩ ?_
        refine r_istore (pc' := 58) (i := 7) (L' := [(7, zI q3.1), (0, zP bs 0), (1, zI x1), (2, zI x2), (3, zI x3), (4, zI x4), (5, zI x5), (6, zI x6)]) C (by decide) rfl dX11_firstOfTurns_56 rfl ?_
        refine r_iload (pc' := 60) (i := 7) C 0 rfl dX11_firstOfTurns_58 rfl ?_
        refine r_iload (pc' := 62) (i := 5) C 6 rfl dX11_firstOfTurns_60 rfl ?_
        refine r_icmp_le (pc' := 65) (tgt := 73) C rfl rfl hf dX11_firstOfTurns_62 (by decide) rfl (fun hf => ?_) (fun hf => ?_)
        · refine r_iload (pc' := 67) (i := 7) C 0 rfl dX11_firstOfTurns_65 rfl ?_
          refine r_istore (pc' := 69) (i := 5) (L' := [(5, zI q3.1), (7, zI q3.1), (0, zP bs 0), (1, zI x1), (2, zI x2), (3, zI x3), (4, zI x4), (6, zI x6)]) C (by decide) rfl dX11_firstOfTurns_67 rfl ?_
          refine r_iload (pc' := 71) (i := 6) C 7 rfl dX11_firstOfTurns_69 rfl ?_
          refine r_istore (pc' := 73) (i := 4) (L' := [(4, zI x6), (5, zI q3.1), (7, zI q3.1), (0, zP bs 0), (1, zI x1), (2, zI x2), (3, zI x3), (6, zI x6)]) C (by decide) rfl dX11_firstOfTurns_71 rfl ?_
          refine r_iinc (pc' := 76) (i := 6) (L' := [(6, zI (x6 + 1)), (4, zI x6), (5, zI q3.1), (7, zI q3.1), (0, zP bs 0), (1, zI x1), (2, zI x2), (3, zI x3)]) C 7 rfl (by decide) rfl dX11_firstOfTurns_73 rfl ?_
          refine r_goto (tgt := 36) C dX11_firstOfTurns_76 (by decide) ?_
          refine V.sub (L' := [(0, zP bs 0), (1, zI x1), (2, zI x2), (3, zI x3), (4, zI x6), (5, zI q3.1), (6, zI (x6 + 1))]) [4, 5, 6, 7, 1, 2, 0] rfl ?_
          exact ih36 _ _ _ _ hf
        · refine r_iinc (pc' := 76) (i := 6) (L' := [(6, zI (x6 + 1)), (7, zI q3.1), (0, zP bs 0), (1, zI x1), (2, zI x2), (3, zI x3), (4, zI x4), (5, zI x5)]) C 7 rfl (by decide) rfl dX11_firstOfTurns_73 rfl ?_
          refine r_goto (tgt := 36) C dX11_firstOfTurns_76 (by decide) ?_
          refine V.sub (L' := [(0, zP bs 0), (1, zI x1), (2, zI x2), (3, zI x3), (4, zI x4), (5, zI x5), (6, zI (x6 + 1))]) [2, 3, 4, 5, 6, 7, 0] rfl ?_
          exact ih36 _ _ _ _ hf
      · refine r_iload (pc' := 81) (i := 4) C 4 rfl dX11_firstOfTurns_79 rfl ?_
        cases hf
        exact r_iret C dX11_firstOfTurns_81
    · refine r_iload (pc' := 81) (i := 4) C 4 rfl dX11_firstOfTurns_79 rfl ?_
      cases hf
      exact r_iret C dX11_firstOfTurns_81
set_option maxHeartbeats 4000000 in
set_option maxRecDepth 100000 in
theorem t_x_firstOfTurns {S : SS} (hF : Fx S) {h : HH} {a1 : Int} {a2 : Int} {res : Int × HH} (hf : x_firstOfTurns S h a1 a2 = some res) : CM yX11_firstOfTurns cX11_firstOfTurns 8 (some Jvm.ClassFile.FieldType.int) 8 181 0 0 (fun bs => [zP bs 0, zI a1, zI a2]) h S (fun _ => some (zI res.1)) res.2 S := by
  refine CM.intro (own := RX11) (by decide) rfl (fun _ => Nat.le_of_ble_eq_true rfl) ?_
  intro D dT bs p l e s m args below meth c C
  show V D dT bs 8 p l e rm_x_firstOfTurns s m args below meth c 0 0 _ h S 0 [(0, zP bs 0), (1, zI a1), (2, zI a2)] []
  unfold x_firstOfTurns at hf
  refine r_iconst (pc' := 1) C dX11_firstOfTurns_0 rfl ?_
  refine r_istore_n (pc' := 2) (f4 := 3) (i := 3) (L' := [(3, zI 1), (0, zP bs 0), (1, zI a1), (2, zI a2)]) C rfl (by decide) rfl dX11_firstOfTurns_1 rfl ?_
  refine r_iconst (pc' := 3) C dX11_firstOfTurns_2 rfl ?_
  refine r_istore (pc' := 5) (i := 4) (L' := [(4, zI 0), (3, zI 1), (0, zP bs 0), (1, zI a1), (2, zI a2)]) C (by decide) rfl dX11_firstOfTurns_3 rfl ?_
  refine V.sub (L' := [(0, zP bs 0), (1, zI a1), (2, zI a2), (3, zI 1), (4, zI 0)]) [2, 3, 4, 1, 0] rfl ?_
  refine w_x_firstOfTurns_L5 hF C _ _ _ ?_ _ _ _ _ hf
  intro h2 y1 hf
  refine r_iconst (pc' := 28) C dX11_firstOfTurns_27 rfl ?_
  refine r_istore (pc' := 30) (i := 4) (L' := [(4, zI 0), (0, zP bs 0), (1, zI a1), (2, zI a2), (3, zI y1)]) C (by decide) rfl dX11_firstOfTurns_28 rfl ?_
  refine r_iconst (pc' := 31) C dX11_firstOfTurns_30 rfl ?_
  refine r_istore (pc' := 33) (i := 5) (L' := [(5, zI (-1)), (4, zI 0), (0, zP bs 0), (1, zI a1), (2, zI a2), (3, zI y1)]) C (by decide) rfl dX11_firstOfTurns_31 rfl ?_
  refine r_iconst (pc' := 34) C dX11_firstOfTurns_33 rfl ?_
  refine r_istore (pc' := 36) (i := 6) (L' := [(6, zI 0), (5, zI (-1)), (4, zI 0), (0, zP bs 0), (1, zI a1), (2, zI a2), (3, zI y1)]) C (by decide) rfl dX11_firstOfTurns_34 rfl ?_
  refine V.sub (L' := [(0, zP bs 0), (1, zI a1), (2, zI a2), (3, zI y1), (4, zI 0), (5, zI (-1)), (6, zI 0)]) [3, 4, 5, 6, 2, 1, 0] rfl ?_
  refine w_x_firstOfTurns_L36 hF C _ _ _ _ _ _ _ _ hf

/- WassailEnemies.turn(III)I -/
def x_turn (S : SS) (h : HH) (a1 : Int) (a2 : Int) (a3 : Int) : Option (Int × HH) :=
  if ww (x_isTree a1) = 0 then (some (-1, h)) else (if ww a3 < -1 then (some (-1, h)) else (if ww a3 < 3 then (if ww a2 < 1 then (some (-2, h)) else (if 3 < ww a2 then (some (-2, h)) else (if ww (h 1 4) = 0 then (some (-5, h)) else (if ww a3 < ww a2 then ((x_firstOfTurns S h a1 a2).bind fun q1 => if ww a3 = -1 then ((x_bearingByTurns S q1.2 a1 a2 q1.1).bind fun q2 => some (q2.1, q2.2)) else ((x_turnAt q1.2 q1.1 a2 a3).bind fun q3 => some (q3, q1.2))) else (some (-5, h)))))) else (some (-1, h))))
abbrev rm_x_turn : Room := { frames := 9, cells := 0, slots := 0, locals := 208 }
set_option maxHeartbeats 4000000 in
set_option maxRecDepth 100000 in
theorem t_x_turn {S : SS} (hF : Fx S) {h : HH} {a1 : Int} {a2 : Int} {a3 : Int} {res : Int × HH} (hf : x_turn S h a1 a2 a3 = some res) : CM yX11_turn cX11_turn 5 (some Jvm.ClassFile.FieldType.int) 9 208 0 0 (fun bs => [zP bs 0, zI a1, zI a2, zI a3]) h S (fun _ => some (zI res.1)) res.2 S := by
  refine CM.intro (own := RX11) (by decide) rfl (fun _ => Nat.le_of_ble_eq_true rfl) ?_
  intro D dT bs p l e s m args below meth c C
  show V D dT bs 5 p l e rm_x_turn s m args below meth c 0 0 _ h S 0 [(0, zP bs 0), (1, zI a1), (2, zI a2), (3, zI a3)] []
  unfold x_turn at hf
  refine r_iload_n (pc' := 1) (f4 := 1) (i := 1) C 1 rfl rfl dX11_turn_0 rfl ?_
  refine q_callS (pc' := 4) C (t_x_isTree hF) rfl ws_RX11_118 ⟨Nat.le_of_ble_eq_true rfl, Nat.le_of_ble_eq_true rfl⟩ rfl rfl (Nat.le_of_ble_eq_true rfl) dX11_turn_1 rfl ⟨Nat.le_of_ble_eq_true rfl, Nat.le_of_ble_eq_true rfl⟩ ?_
  refine r_if_eq (pc' := 7) (tgt := 17) C rfl hf dX11_turn_4 (by decide) rfl (fun hf => ?_) (fun hf => ?_)
  · refine r_iconst (pc' := 18) C dX11_turn_17 rfl ?_
    cases hf
    exact r_iret C dX11_turn_18
  · refine r_iload_n (pc' := 8) (f4 := 3) (i := 3) C 3 rfl rfl dX11_turn_7 rfl ?_
    refine r_iconst (pc' := 9) C dX11_turn_8 rfl ?_
    refine r_icmp_lt (pc' := 12) (tgt := 17) C rfl ww_m1 hf dX11_turn_9 (by decide) rfl (fun hf => ?_) (fun hf => ?_)
    · refine r_iconst (pc' := 18) C dX11_turn_17 rfl ?_
      cases hf
      exact r_iret C dX11_turn_18
    · refine r_iload_n (pc' := 13) (f4 := 3) (i := 3) C 3 rfl rfl dX11_turn_12 rfl ?_
      refine r_iconst (pc' := 14) C dX11_turn_13 rfl ?_
      refine r_icmp_lt (pc' := 17) (tgt := 19) C rfl ww_n3 hf dX11_turn_14 (by decide) rfl (fun hf => ?_) (fun hf => ?_)
      · refine r_iload_n (pc' := 20) (f4 := 2) (i := 2) C 2 rfl rfl dX11_turn_19 rfl ?_
        refine r_iconst (pc' := 21) C dX11_turn_20 rfl ?_
        refine r_icmp_lt (pc' := 24) (tgt := 29) C rfl ww_n1 hf dX11_turn_21 (by decide) rfl (fun hf => ?_) (fun hf => ?_)
        · refine r_bipush (pc' := 31) C rfl dX11_turn_29 rfl ?_
          cases hf
          exact r_iret C dX11_turn_31
        · refine r_iload_n (pc' := 25) (f4 := 2) (i := 2) C 2 rfl rfl dX11_turn_24 rfl ?_
          refine r_iconst (pc' := 26) C dX11_turn_25 rfl ?_
          refine r_icmp_le (pc' := 29) (tgt := 32) C rfl ww_n3 hf dX11_turn_26 (by decide) rfl (fun hf => ?_) (fun hf => ?_)
          · refine r_bipush (pc' := 31) C rfl dX11_turn_29 rfl ?_
            cases hf
            exact r_iret C dX11_turn_31
          · refine r_aload_n (pc' := 33) (f4 := 0) (i := 0) C 0 rfl rfl dX11_turn_32 rfl ?_
            refine q_getP (pc' := 36) (j := 0) C (K_0 hF) fb_11_0 (by decide) wd_311 (Or.inl rfl) (F_0_0 hF) (by decide) dX11_turn_33 rfl ?_
            refine q_getI (pc' := 39) (j := 4) C (K_1 hF) fb_10_4 wd_184 (Or.inl rfl) dX11_turn_36 rfl ?_
            refine r_if_eq (pc' := 42) (tgt := 47) C rfl hf dX11_turn_39 (by decide) rfl (fun hf => ?_) (fun hf => ?_)
            · refine r_bipush (pc' := 49) C rfl dX11_turn_47 rfl ?_
              cases hf
              exact r_iret C dX11_turn_49
            · refine r_iload_n (pc' := 43) (f4 := 3) (i := 3) C 3 rfl rfl dX11_turn_42 rfl ?_
              refine r_iload_n (pc' := 44) (f4 := 2) (i := 2) C 2 rfl rfl dX11_turn_43 rfl ?_
              refine r_icmp_lt (pc' := 47) (tgt := 50) C rfl rfl hf dX11_turn_44 (by decide) rfl (fun hf => ?_) (fun hf => ?_)
              · refine r_aload_n (pc' := 51) (f4 := 0) (i := 0) C 0 rfl rfl dX11_turn_50 rfl ?_
                refine r_iload_n (pc' := 52) (f4 := 1) (i := 1) C 1 rfl rfl dX11_turn_51 rfl ?_
                refine r_iload_n (pc' := 53) (f4 := 2) (i := 2) C 2 rfl rfl dX11_turn_52 rfl ?_
                obtain ⟨q1, hq1, hf⟩ := bind_in hf
                refine q_callV (pc' := 56) C (t_x_firstOfTurns hF hq1) rfl (K_0 hF) cl_11 wv_RX11_231 ⟨Nat.le_of_ble_eq_true rfl, Nat.le_of_ble_eq_true rfl⟩ rfl rfl (Nat.le_of_ble_eq_true rfl) dX11_turn_53 rfl ⟨Nat.le_of_ble_eq_true rfl, Nat.le_of_ble_eq_true rfl⟩ ?_
                refine r_istore (pc' := 58) (i := 4) (L' := [(4, zI q1.1), (0, zP bs 0), (1, zI a1), (2, zI a2), (3, zI a3)]) C (by decide) rfl dX11_turn_56 rfl ?_
                refine r_iload_n (pc' := 59) (f4 := 3) (i := 3) C 4 rfl rfl dX11_turn_58 rfl ?_
                refine r_iconst (pc' := 60) C dX11_turn_59 rfl ?_
                refine r_icmp_ne (pc' := 63) (tgt := 74) C rfl ww_m1 hf dX11_turn_60 (by decide) rfl (fun hf => ?_) (fun hf => ?_)
                · refine r_aload_n (pc' := 64) (f4 := 0) (i := 0) C 1 rfl rfl dX11_turn_63 rfl ?_
                  refine r_iload_n (pc' := 65) (f4 := 1) (i := 1) C 2 rfl rfl dX11_turn_64 rfl ?_
                  refine r_iload_n (pc' := 66) (f4 := 2) (i := 2) C 3 rfl rfl dX11_turn_65 rfl ?_
                  refine r_iload (pc' := 68) (i := 4) C 0 rfl dX11_turn_66 rfl ?_
                  obtain ⟨q2, hq2, hf⟩ := bind_in hf
                  refine q_callV (pc' := 71) C (t_x_bearingByTurns hF hq2) rfl (K_0 hF) cl_11 wv_RX11_234 ⟨Nat.le_of_ble_eq_true rfl, Nat.le_of_ble_eq_true rfl⟩ rfl rfl (Nat.le_of_ble_eq_true rfl) dX11_turn_68 rfl ⟨Nat.le_of_ble_eq_true rfl, Nat.le_of_ble_eq_true rfl⟩ ?_
                  refine r_goto (tgt := 82) C dX11_turn_71 (by decide) ?_
                  cases hf
                  exact r_iret C dX11_turn_82
                · refine r_aload_n (pc' := 75) (f4 := 0) (i := 0) C 1 rfl rfl dX11_turn_74 rfl ?_
                  refine r_iload (pc' := 77) (i := 4) C 0 rfl dX11_turn_75 rfl ?_
                  refine r_iload_n (pc' := 78) (f4 := 2) (i := 2) C 3 rfl rfl dX11_turn_77 rfl ?_
                  refine r_iload_n (pc' := 79) (f4 := 3) (i := 3) C 4 rfl rfl dX11_turn_78 rfl ?_
                  obtain ⟨q3, hq3, hf⟩ := bind_in hf
                  refine q_callV (pc' := 82) C (t_x_turnAt hF hq3) rfl (K_0 hF) cl_11 wv_RX11_237 ⟨Nat.le_of_ble_eq_true rfl, Nat.le_of_ble_eq_true rfl⟩ rfl rfl (Nat.le_of_ble_eq_true rfl) dX11_turn_79 rfl ⟨Nat.le_of_ble_eq_true rfl, Nat.le_of_ble_eq_true rfl⟩ ?_
                  cases hf
                  exact r_iret C dX11_turn_82
              · refine r_bipush (pc' := 49) C rfl dX11_turn_47 rfl ?_
                cases hf
                exact r_iret C dX11_turn_49
      · refine r_iconst (pc' := 18) C dX11_turn_17 rfl ?_
        cases hf
        exact r_iret C dX11_turn_18

/- WassailEnemies.see(IIIZ)I -/
def x_see (h : HH) (a1 : Int) (a2 : Int) (a3 : Int) (a4 : Int) : Option (Int × HH) :=
  if ww a1 = -1 then (some (0, u2 h 20 1 0)) else (if ww (xw_has h 1 a1) = 0 then (some (-1, h)) else (if ww (x_isTree a2) = 0 then (some (-1, h)) else (if ww a3 < 0 then (some (-2, h)) else (if 20 < ww a3 then (some (-2, h)) else ((xr_append h 20 a1 a2 a3 (x_bit a4)).bind fun q1 => some (q1.1, q1.2))))))
abbrev rm_x_see : Room := { frames := 1, cells := 0, slots := 0, locals := 25 }
set_option maxHeartbeats 4000000 in
set_option maxRecDepth 100000 in
theorem t_x_see {S : SS} (hF : Fx S) {h : HH} {a1 : Int} {a2 : Int} {a3 : Int} {a4 : Int} {res : Int × HH} (hf : x_see h a1 a2 a3 a4 = some res) : CM yX11_see cX11_see 5 (some Jvm.ClassFile.FieldType.int) 1 25 0 0 (fun bs => [zP bs 0, zI a1, zI a2, zI a3, zI a4]) h S (fun _ => some (zI res.1)) res.2 S := by
  refine CM.intro (own := RX11) (by decide) rfl (fun _ => Nat.le_of_ble_eq_true rfl) ?_
  intro D dT bs p l e s m args below meth c C
  show V D dT bs 5 p l e rm_x_see s m args below meth c 0 0 _ h S 0 [(0, zP bs 0), (1, zI a1), (2, zI a2), (3, zI a3), (4, zI a4)] []
  unfold x_see at hf
  refine r_iload_n (pc' := 1) (f4 := 1) (i := 1) C 1 rfl rfl dX11_see_0 rfl ?_
  refine r_iconst (pc' := 2) C dX11_see_1 rfl ?_
  refine r_icmp_ne (pc' := 5) (tgt := 18) C rfl ww_m1 hf dX11_see_2 (by decide) rfl (fun hf => ?_) (fun hf => ?_)
  · refine r_aload_n (pc' := 6) (f4 := 0) (i := 0) C 0 rfl rfl dX11_see_5 rfl ?_
    refine q_getP (pc' := 9) (j := 0) C (K_0 hF) fb_11_0 (by decide) wd_311 (Or.inl rfl) (F_0_0 hF) (by decide) dX11_see_6 rfl ?_
    refine q_getP (pc' := 12) (j := 8) C (K_1 hF) fb_10_8 (by decide) wd_196 (Or.inl rfl) (F_1_8 hF) (by decide) dX11_see_9 rfl ?_
    refine r_iconst (pc' := 13) C dX11_see_12 rfl ?_
    refine q_putI (pc' := 16) (j := 1) C (K_20 hF) fb_7_1 fp_7_1 wd_152 (Or.inl rfl) (Or.inl rfl) rfl rfl dX11_see_13 rfl ?_
    refine r_iconst (pc' := 17) C dX11_see_16 rfl ?_
    cases hf
    exact r_iret C dX11_see_17
  · refine r_aload_n (pc' := 19) (f4 := 0) (i := 0) C 0 rfl rfl dX11_see_18 rfl ?_
    refine q_getP (pc' := 22) (j := 0) C (K_0 hF) fb_11_0 (by decide) wd_311 (Or.inl rfl) (F_0_0 hF) (by decide) dX11_see_19 rfl ?_
    refine r_iload_n (pc' := 23) (f4 := 1) (i := 1) C 1 rfl rfl dX11_see_22 rfl ?_
    refine q_callV (pc' := 26) C (t_xw_has hF lit_W_1) rfl (K_1 hF) cl_10 wv_RX11_87 ⟨Nat.le_of_ble_eq_true rfl, Nat.le_of_ble_eq_true rfl⟩ rfl rfl (Nat.le_of_ble_eq_true rfl) dX11_see_23 rfl ⟨Nat.le_of_ble_eq_true rfl, Nat.le_of_ble_eq_true rfl⟩ ?_
    refine r_if_eq (pc' := 29) (tgt := 36) C rfl hf dX11_see_26 (by decide) rfl (fun hf => ?_) (fun hf => ?_)
    · refine r_iconst (pc' := 37) C dX11_see_36 rfl ?_
      cases hf
      exact r_iret C dX11_see_37
    · refine r_iload_n (pc' := 30) (f4 := 2) (i := 2) C 2 rfl rfl dX11_see_29 rfl ?_
      refine q_callS (pc' := 33) C (t_x_isTree hF) rfl ws_RX11_118 ⟨Nat.le_of_ble_eq_true rfl, Nat.le_of_ble_eq_true rfl⟩ rfl rfl (Nat.le_of_ble_eq_true rfl) dX11_see_30 rfl ⟨Nat.le_of_ble_eq_true rfl, Nat.le_of_ble_eq_true rfl⟩ ?_
      refine r_if_ne (pc' := 36) (tgt := 38) C rfl hf dX11_see_33 (by decide) rfl (fun hf => ?_) (fun hf => ?_)
      · refine r_iconst (pc' := 37) C dX11_see_36 rfl ?_
        cases hf
        exact r_iret C dX11_see_37
      · refine r_iload_n (pc' := 39) (f4 := 3) (i := 3) C 3 rfl rfl dX11_see_38 rfl ?_
        refine r_if_lt (pc' := 42) (tgt := 48) C rfl hf dX11_see_39 (by decide) rfl (fun hf => ?_) (fun hf => ?_)
        · refine r_bipush (pc' := 50) C rfl dX11_see_48 rfl ?_
          cases hf
          exact r_iret C dX11_see_50
        · refine r_iload_n (pc' := 43) (f4 := 3) (i := 3) C 3 rfl rfl dX11_see_42 rfl ?_
          refine r_bipush (pc' := 45) C rfl dX11_see_43 rfl ?_
          refine r_icmp_le (pc' := 48) (tgt := 51) C rfl ww_n20 hf dX11_see_45 (by decide) rfl (fun hf => ?_) (fun hf => ?_)
          · refine r_bipush (pc' := 50) C rfl dX11_see_48 rfl ?_
            cases hf
            exact r_iret C dX11_see_50
          · refine r_aload_n (pc' := 52) (f4 := 0) (i := 0) C 0 rfl rfl dX11_see_51 rfl ?_
            refine q_getP (pc' := 55) (j := 0) C (K_0 hF) fb_11_0 (by decide) wd_311 (Or.inl rfl) (F_0_0 hF) (by decide) dX11_see_52 rfl ?_
            refine q_getP (pc' := 58) (j := 8) C (K_1 hF) fb_10_8 (by decide) wd_196 (Or.inl rfl) (F_1_8 hF) (by decide) dX11_see_55 rfl ?_
            refine r_iload_n (pc' := 59) (f4 := 1) (i := 1) C 1 rfl rfl dX11_see_58 rfl ?_
            refine r_iload_n (pc' := 60) (f4 := 2) (i := 2) C 2 rfl rfl dX11_see_59 rfl ?_
            refine r_iload_n (pc' := 61) (f4 := 3) (i := 3) C 3 rfl rfl dX11_see_60 rfl ?_
            refine r_iload (pc' := 63) (i := 4) C 4 rfl dX11_see_61 rfl ?_
            refine q_callS (pc' := 66) C (t_x_bit hF) rfl ws_RX11_106 ⟨Nat.le_of_ble_eq_true rfl, Nat.le_of_ble_eq_true rfl⟩ rfl rfl (Nat.le_of_ble_eq_true rfl) dX11_see_63 rfl ⟨Nat.le_of_ble_eq_true rfl, Nat.le_of_ble_eq_true rfl⟩ ?_
            obtain ⟨q1, hq1, hf⟩ := bind_in hf
            refine q_callV (pc' := 69) C (t_xr_append hF lit_R_20 hq1) rfl (K_20 hF) cl_7 wv_RX11_249 ⟨Nat.le_of_ble_eq_true rfl, Nat.le_of_ble_eq_true rfl⟩ rfl rfl (Nat.le_of_ble_eq_true rfl) dX11_see_66 rfl ⟨Nat.le_of_ble_eq_true rfl, Nat.le_of_ble_eq_true rfl⟩ ?_
            cases hf
            exact r_iret C dX11_see_69
end
