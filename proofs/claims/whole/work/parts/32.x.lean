section
variable {D : va_G} {dT : ZT} {bs : Nat} {p : Program} {l : Launch} {e : Env} {s : State} {m : MethodId} {args : Array Value} {below : List Frame} {meth : Method} {c : Code} {S : SS}
/- WassailEnemies.isAsSeen(II)Z -/
def x_isAsSeen_L2 (S : SS) (x1 : Int) (x2 : Int) : Nat → HH → Int → Option (Int × HH)
  | 0, _, _ => none
  | n2 + 1, h, x3 =>
    if ww x3 < ww (h 20 1) then (ck (ww x3) 5 <| if ww (h (22 + (ww x3)) 0) = ww x1 then (if ww x2 = -5 then ((xw_bears S (u2 h 99 7 ((h 1 7) + (h (22 + (ww x3)) 2))) 99 x1 ((u2 h 99 7 ((h 1 7) + (h (22 + (ww x3)) 2))) (22 + (ww x3)) 1)).bind fun q2 => if ww (x_bit q2.1) = ww (q2.2 (22 + (ww x3)) 3) then (x_isAsSeen_L2 S x1 x2 n2 q2.2 (x3 + 1)) else (some (0, q2.2))) else (if ww (h (22 + (ww x3)) 1) = ww x2 then ((xw_bears S (u2 h 99 7 ((h 1 7) + (h (22 + (ww x3)) 2))) 99 x1 ((u2 h 99 7 ((h 1 7) + (h (22 + (ww x3)) 2))) (22 + (ww x3)) 1)).bind fun q3 => if ww (x_bit q3.1) = ww (q3.2 (22 + (ww x3)) 3) then (x_isAsSeen_L2 S x1 x2 n2 q3.2 (x3 + 1)) else (some (0, q3.2))) else (x_isAsSeen_L2 S x1 x2 n2 h (x3 + 1)))) else (x_isAsSeen_L2 S x1 x2 n2 h (x3 + 1))) else (some (1, h))
def x_isAsSeen (S : SS) (h : HH) (a1 : Int) (a2 : Int) : Option (Int × HH) :=
  x_isAsSeen_L2 S a1 a2 FU h 0
abbrev rm_x_isAsSeen : Room := { frames := 6, cells := 0, slots := 0, locals := 134 }
set_option maxHeartbeats 4000000 in
set_option maxRecDepth 100000 in
theorem w_x_isAsSeen_L2 (hF : Fx S) (C : Cx D dT bs RX11 cX11_isAsSeen 5 (some Jvm.ClassFile.FieldType.boolean) p s m args meth c) (x1 : Int) (x2 : Int) {res : (Int × HH)} :
    ∀ (n : Nat) (h : HH) (x3 : Int), x_isAsSeen_L2 S x1 x2 n h x3 = some res → V D dT bs 5 p l e rm_x_isAsSeen s m args below meth c 0 0 (MQ below (QQ D dT bs (some (zI res.1)) res.2 S) args s 0 0 (AA bs)) h S 2 [(0, zP bs 0), (1, zI x1), (2, zI x2), (3, zI x3)] [] := by
  intro n
  induction n with
  | zero => intro h x3 hf; simp [x_isAsSeen_L2] at hf
  | succ n2 ih2 =>
    intro h x3 hf
    rw [x_isAsSeen_L2] at hf
    refine r_iload_n (pc' := 3) (f4 := 3) (i := 3) C 3 rfl rfl dX11_isAsSeen_2 rfl ?_
    refine r_aload_n (pc' := 4) (f4 := 0) (i := 0) C 0 rfl rfl dX11_isAsSeen_3 rfl ?_
    refine q_getP (pc' := 7) (j := 0) C (K_0 hF) fb_11_0 (by decide) wd_311 (Or.inl rfl) (F_0_0 hF) (by decide) dX11_isAsSeen_4 rfl ?_
    refine q_getP (pc' := 10) (j := 8) C (K_1 hF) fb_10_8 (by decide) wd_196 (Or.inl rfl) (F_1_8 hF) (by decide) dX11_isAsSeen_7 rfl ?_
    refine q_getI (pc' := 13) (j := 1) C (K_20 hF) fb_7_1 wd_152 (Or.inl rfl) dX11_isAsSeen_10 rfl ?_
    refine r_icmp_ge (pc' := 16) (tgt := 101) C rfl rfl hf dX11_isAsSeen_13 (by decide) rfl (fun hf => ?_) (fun hf => ?_)
    · refine r_aload_n (pc' := 17) (f4 := 0) (i := 0) C 0 rfl rfl dX11_isAsSeen_16 rfl ?_
      refine q_getP (pc' := 20) (j := 0) C (K_0 hF) fb_11_0 (by decide) wd_311 (Or.inl rfl) (F_0_0 hF) (by decide) dX11_isAsSeen_17 rfl ?_
      refine q_getP (pc' := 23) (j := 8) C (K_1 hF) fb_10_8 (by decide) wd_196 (Or.inl rfl) (F_1_8 hF) (by decide) dX11_isAsSeen_20 rfl ?_
      refine q_getP (pc' := 26) (j := 0) C (K_20 hF) fb_7_0 (by decide) wd_150 (Or.inl rfl) (F_20_0 hF) (by decide) dX11_isAsSeen_23 rfl ?_
      refine r_iload_n (pc' := 27) (f4 := 3) (i := 3) C 3 rfl rfl dX11_isAsSeen_26 rfl ?_
      obtain ⟨hi1, hf⟩ := ck_in hf
      refine r_aaldP (pc' := 28) (t := 3) C (K_21 hF) (by decide) (by decide) (by decide) (by decide) rfl rfl hi1 (FL21 hF hi1) (Int.add_nonneg (by decide) (hi1).1) dX11_isAsSeen_27 rfl ?_
      refine r_astore (pc' := 30) (i := 4) (L' := [(4, zP bs (22 + (ww x3))), (0, zP bs 0), (1, zI x1), (2, zI x2), (3, zI x3)]) C (by decide) rfl dX11_isAsSeen_28 rfl ?_
      refine r_aload (pc' := 32) (i := 4) C 0 rfl dX11_isAsSeen_30 rfl ?_
      refine r_iconst (pc' := 33) C dX11_isAsSeen_32 rfl ?_
      refine r_iald (pc' := 34) C (KL21 hF hi1) ww_n0 (by decide) dX11_isAsSeen_33 rfl ?_
      refine r_iload_n (pc' := 35) (f4 := 1) (i := 1) C 2 rfl rfl dX11_isAsSeen_34 rfl ?_
      refine r_icmp_ne (pc' := 38) (tgt := 95) C rfl rfl hf dX11_isAsSeen_35 (by decide) rfl (fun hf => ?_) (fun hf => ?_)
      · refine r_iload_n (pc' := 39) (f4 := 2) (i := 2) C 3 rfl rfl dX11_isAsSeen_38 rfl ?_
        refine r_bipush (pc' := 41) C rfl dX11_isAsSeen_39 rfl ?_
        refine r_icmp_eq (pc' := 44) (tgt := 52) C rfl ww_m5 hf dX11_isAsSeen_41 (by decide) rfl (fun hf => ?_) (fun hf => ?_)
        · refine r_aload_n (pc' := 53) (f4 := 0) (i := 0) C 1 rfl rfl dX11_isAsSeen_52 rfl ?_
          refine q_getP (pc' := 56) (j := 2) C (K_0 hF) fb_11_2 (by decide) wd_313 (Or.inl rfl) (F_0_2 hF) (by decide) dX11_isAsSeen_53 rfl ?_
          refine r_aload_n (pc' := 57) (f4 := 0) (i := 0) C 1 rfl rfl dX11_isAsSeen_56 rfl ?_
          refine q_getP (pc' := 60) (j := 0) C (K_0 hF) fb_11_0 (by decide) wd_311 (Or.inl rfl) (F_0_0 hF) (by decide) dX11_isAsSeen_57 rfl ?_
          refine q_getI (pc' := 63) (j := 7) C (K_1 hF) fb_10_7 wd_194 (Or.inl rfl) dX11_isAsSeen_60 rfl ?_
          refine r_aload (pc' := 65) (i := 4) C 0 rfl dX11_isAsSeen_63 rfl ?_
          refine r_iconst (pc' := 66) C dX11_isAsSeen_65 rfl ?_
          refine r_iald (pc' := 67) C (KL21 hF hi1) ww_n2 (by decide) dX11_isAsSeen_66 rfl ?_
          refine r_iadd (pc' := 68) C dX11_isAsSeen_67 rfl ?_
          refine q_putI (pc' := 71) (j := 7) C (K_99 hF) fb_10_7 fp_10_7 wd_194 (Or.inl rfl) (Or.inl rfl) rfl rfl dX11_isAsSeen_68 rfl ?_
          refine r_aload_n (pc' := 72) (f4 := 0) (i := 0) C 1 rfl rfl dX11_isAsSeen_71 rfl ?_
          refine q_getP (pc' := 75) (j := 2) C (K_0 hF) fb_11_2 (by decide) wd_313 (Or.inl rfl) (F_0_2 hF) (by decide) dX11_isAsSeen_72 rfl ?_
          refine r_iload_n (pc' := 76) (f4 := 1) (i := 1) C 2 rfl rfl dX11_isAsSeen_75 rfl ?_
          refine r_aload (pc' := 78) (i := 4) C 0 rfl dX11_isAsSeen_76 rfl ?_
          refine r_iconst (pc' := 79) C dX11_isAsSeen_78 rfl ?_
          refine r_iald (pc' := 80) C (KL21 hF hi1) ww_n1 (by decide) dX11_isAsSeen_79 rfl ?_
          obtain ⟨q2, hq2, hf⟩ := bind_in hf
          refine q_callV (pc' := 83) C (t_xw_bears hF lit_W_99 hq2) rfl (K_99 hF) cl_10 wv_RX11_256 ⟨Nat.le_of_ble_eq_true rfl, Nat.le_of_ble_eq_true rfl⟩ rfl rfl (Nat.le_of_ble_eq_true rfl) dX11_isAsSeen_80 rfl ⟨Nat.le_of_ble_eq_true rfl, Nat.le_of_ble_eq_true rfl⟩ ?_
          refine q_callS (pc' := 86) C (t_x_bit hF) rfl ws_RX11_106 ⟨Nat.le_of_ble_eq_true rfl, Nat.le_of_ble_eq_true rfl⟩ rfl rfl (Nat.le_of_ble_eq_true rfl) dX11_isAsSeen_83 rfl ⟨Nat.le_of_ble_eq_true rfl, Nat.le_of_ble_eq_true rfl⟩ ?_
          refine r_aload (pc' := 88) (i := 4) C 0 rfl dX11_isAsSeen_86 rfl ?_
          refine r_iconst (pc' := 89) C dX11_isAsSeen_88 rfl ?_
          refine r_iald (pc' := 90) C (KL21 hF hi1) ww_n3 (by decide) dX11_isAsSeen_89 rfl ?_
          refine r_icmp_eq (pc' := 93) (tgt := 95) C rfl rfl hf dX11_isAsSeen_90 (by decide) rfl (fun hf => ?_) (fun hf => ?_)
          · refine r_iinc (pc' := 98) (i := 3) (L' := [(3, zI (x3 + 1)), (4, zP bs (22 + (ww x3))), (0, zP bs 0), (1, zI x1), (2, zI x2)]) C 4 rfl (by decide) rfl dX11_isAsSeen_95 rfl ?_
            refine r_goto (tgt := 2) C dX11_isAsSeen_98 (by decide) ?_
            refine V.sub (L' := [(0, zP bs 0), (1, zI x1), (2, zI x2), (3, zI (x3 + 1))]) [2, 3, 4, 0] rfl ?_
            exact ih2 _ _ hf
          · refine r_iconst (pc' := 94) C dX11_isAsSeen_93 rfl ?_
            cases hf
            exact r_zret C (Or.inl rfl) dX11_isAsSeen_94
        · refine r_aload (pc' := 46) (i := 4) C 0 rfl dX11_isAsSeen_44 rfl ?_
          refine r_iconst (pc' := 47) C dX11_isAsSeen_46 rfl ?_
          refine r_iald (pc' := 48) C (KL21 hF hi1) ww_n1 (by decide) dX11_isAsSeen_47 rfl ?_
          refine r_iload_n (pc' := 49) (f4 := 2) (i := 2) C 3 rfl rfl dX11_isAsSeen_48 rfl ?_
          refine r_icmp_ne (pc' := 52) (tgt := 95) C rfl rfl hf dX11_isAsSeen_49 (by decide) rfl (fun hf => ?_) (fun hf => ?_)
          · refine r_aload_n (pc' := 53) (f4 := 0) (i := 0) C 1 rfl rfl dX11_isAsSeen_52 rfl ?_
            refine q_getP (pc' := 56) (j := 2) C (K_0 hF) fb_11_2 (by decide) wd_313 (Or.inl rfl) (F_0_2 hF) (by decide) dX11_isAsSeen_53 rfl ?_
            refine r_aload_n (pc' := 57) (f4 := 0) (i := 0) C 1 rfl rfl dX11_isAsSeen_56 rfl ?_
            refine q_getP (pc' := 60) (j := 0) C (K_0 hF) fb_11_0 (by decide) wd_311 (Or.inl rfl) (F_0_0 hF) (by decide) dX11_isAsSeen_57 rfl ?_
            refine q_getI (pc' := 63) (j := 7) C (K_1 hF) fb_10_7 wd_194 (Or.inl rfl) dX11_isAsSeen_60 rfl ?_
            refine r_aload (pc' := 65) (i := 4) C 0 rfl dX11_isAsSeen_63 rfl ?_
            refine r_iconst (pc' := 66) C dX11_isAsSeen_65 rfl ?_
            refine r_iald (pc' := 67) C (KL21 hF hi1) ww_n2 (by decide) dX11_isAsSeen_66 rfl ?_
            refine r_iadd (pc' := 68) C dX11_isAsSeen_67 rfl ?_
            refine q_putI (pc' := 71) (j := 7) C (K_99 hF) fb_10_7 fp_10_7 wd_194 (Or.inl rfl) (Or.inl rfl) rfl rfl dX11_isAsSeen_68 rfl ?_
            refine r_aload_n (pc' := 72) (f4 := 0) (i := 0) C 1 rfl rfl dX11_isAsSeen_71 rfl ?_
            refine q_getP (pc' := 75) (j := 2) C (K_0 hF) fb_11_2 (by decide) wd_313 (Or.inl rfl) (F_0_2 hF) (by decide) dX11_isAsSeen_72 rfl ?_
            refine r_iload_n (pc' := 76) (f4 := 1) (i := 1) C 2 rfl rfl dX11_isAsSeen_75 rfl ?_
            refine r_aload (pc' := 78) (i := 4) C 0 rfl dX11_isAsSeen_76 rfl ?_
            refine r_iconst (pc' := 79) C dX11_isAsSeen_78 rfl ?_
            refine r_iald (pc' := 80) C (KL21 hF hi1) ww_n1 (by decide) dX11_isAsSeen_79 rfl ?_
            obtain ⟨q3, hq3, hf⟩ := bind_in hf
            refine q_callV (pc' := 83) C (t_xw_bears hF lit_W_99 hq3) rfl (K_99 hF) cl_10 wv_RX11_256 ⟨Nat.le_of_ble_eq_true rfl, Nat.le_of_ble_eq_true rfl⟩ rfl rfl (Nat.le_of_ble_eq_true rfl) dX11_isAsSeen_80 rfl ⟨Nat.le_of_ble_eq_true rfl, Nat.le_of_ble_eq_true rfl⟩ ?_
            refine q_callS (pc' := 86) C (t_x_bit hF) rfl ws_RX11_106 ⟨Nat.le_of_ble_eq_true rfl, Nat.le_of_ble_eq_true rfl⟩ rfl rfl (Nat.le_of_ble_eq_true rfl) dX11_isAsSeen_83 rfl ⟨Nat.le_of_ble_eq_true rfl, Nat.le_of_ble_eq_true rfl⟩ ?_
            refine r_aload (pc' := 88) (i := 4) C 0 rfl dX11_isAsSeen_86 rfl ?_
            refine r_iconst (pc' := 89) C dX11_isAsSeen_88 rfl ?_
            refine r_iald (pc' := 90) C (KL21 hF hi1) ww_n3 (by decide) dX11_isAsSeen_89 rfl ?_
            refine r_icmp_eq (pc' := 93) (tgt := 95) C rfl rfl hf dX11_isAsSeen_90 (by decide) rfl (fun hf => ?_) (fun hf => ?_)
            · refine r_iinc (pc' := 98) (i := 3) (L' := [(3, zI (x3 + 1)), (4, zP bs (22 + (ww x3))), (0, zP bs 0), (1, zI x1), (2, zI x2)]) C 4 rfl (by decide) rfl dX11_isAsSeen_95 rfl ?_
              refine r_goto (tgt := 2) C dX11_isAsSeen_98 (by decide) ?_
              refine V.sub (L' := [(0, zP bs 0), (1, zI x1), (2, zI x2), (3, zI (x3 + 1))]) [2, 3, 4, 0] rfl ?_
              exact ih2 _ _ hf
            · refine r_iconst (pc' := 94) C dX11_isAsSeen_93 rfl ?_
              cases hf
              exact r_zret C (Or.inl rfl) dX11_isAsSeen_94
          · refine r_iinc (pc' := 98) (i := 3) (L' := [(3, zI (x3 + 1)), (4, zP bs (22 + (ww x3))), (0, zP bs 0), (1, zI x1), (2, zI x2)]) C 4 rfl (by decide) rfl dX11_isAsSeen_95 rfl ?_
            refine r_goto (tgt := 2) C dX11_isAsSeen_98 (by decide) ?_
            refine V.sub (L' := [(0, zP bs 0), (1, zI x1), (2, zI x2), (3, zI (x3 + 1))]) [2, 3, 4, 0] rfl ?_
            exact ih2 _ _ hf
      · refine r_iinc (pc' := 98) (i := 3) (L' := [(3, zI (x3 + 1)), (4, zP bs (22 + (ww x3))), (0, zP bs 0), (1, zI x1), (2, zI x2)]) C 4 rfl (by decide) rfl dX11_isAsSeen_95 rfl ?_
        refine r_goto (tgt := 2) C dX11_isAsSeen_98 (by decide) ?_
        refine V.sub (L' := [(0, zP bs 0), (1, zI x1), (2, zI x2), (3, zI (x3 + 1))]) [2, 3, 4, 0] rfl ?_
        exact ih2 _ _ hf
    · refine r_iconst (pc' := 102) C dX11_isAsSeen_101 rfl ?_
      cases hf
      exact r_zret C (Or.inr rfl) dX11_isAsSeen_102
set_option maxHeartbeats 4000000 in
set_option maxRecDepth 100000 in
theorem t_x_isAsSeen {S : SS} (hF : Fx S) {h : HH} {a1 : Int} {a2 : Int} {res : Int × HH} (hf : x_isAsSeen S h a1 a2 = some res) : CM yX11_isAsSeen cX11_isAsSeen 5 (some Jvm.ClassFile.FieldType.boolean) 6 134 0 0 (fun bs => [zP bs 0, zI a1, zI a2]) h S (fun _ => some (zI res.1)) res.2 S := by
  refine CM.intro (own := RX11) (by decide) rfl (fun _ => Nat.le_of_ble_eq_true rfl) ?_
  intro D dT bs p l e s m args below meth c C
  show V D dT bs 5 p l e rm_x_isAsSeen s m args below meth c 0 0 _ h S 0 [(0, zP bs 0), (1, zI a1), (2, zI a2)] []
  unfold x_isAsSeen at hf
  refine r_iconst (pc' := 1) C dX11_isAsSeen_0 rfl ?_
  refine r_istore_n (pc' := 2) (f4 := 3) (i := 3) (L' := [(3, zI 0), (0, zP bs 0), (1, zI a1), (2, zI a2)]) C rfl (by decide) rfl dX11_isAsSeen_1 rfl ?_
  refine V.sub (L' := [(0, zP bs 0), (1, zI a1), (2, zI a2), (3, zI 0)]) [1, 2, 3, 0] rfl ?_
  refine w_x_isAsSeen_L2 hF C _ _ _ _ _ hf

/- WassailEnemies.hates(III)I -/
def x_hates_L51 (S : SS) (x1 : Int) (x2 : Int) (x3 : Int) : Nat → HH → Int → Int → Int → Option (Int × HH)
  | 0, _, _, _, _ => none
  | n51 + 1, h, x4, x5, x6 =>
    if ww x6 < 0 then (if ww x3 = 0 then (some (x4, h)) else (some (x5, h))) else (ck (ww x1) 6 <| ck (ww x2) 5 <| (x_isAsSeen S (u2 h (103 + (ww x1)) (ww x2) x6) x1 x2).bind fun q3 => if ww q3.1 = 0 then (x_hates_L51 S x1 x2 x3 n51 q3.2 x4 x5 (x6 + (-1))) else (x_hates_L51 S x1 x2 x3 n51 q3.2 (x4 + 1) x6 (x6 + (-1))))
def x_hates (S : SS) (h : HH) (a1 : Int) (a2 : Int) (a3 : Int) : Option (Int × HH) :=
  if ww (xw_has h 1 a1) = 0 then (some (-1, h)) else (if ww (x_isTree a2) = 0 then (some (-1, h)) else (if ww a3 = 0 then ((xw_goFrom S h 99 1).bind fun q1 => x_hates_L51 S a1 a2 a3 FU q1 0 (-5) 99) else (if ww a3 = 1 then ((xw_goFrom S h 99 1).bind fun q4 => x_hates_L51 S a1 a2 a3 FU q4 0 (-5) 99) else (some (-1, h)))))
abbrev rm_x_hates : Room := { frames := 7, cells := 0, slots := 0, locals := 158 }
set_option maxHeartbeats 4000000 in
set_option maxRecDepth 100000 in
theorem w_x_hates_L51 (hF : Fx S) (C : Cx D dT bs RX11 cX11_hates 7 (some Jvm.ClassFile.FieldType.int) p s m args meth c) (x1 : Int) (x2 : Int) (x3 : Int) {res : (Int × HH)} :
    ∀ (n : Nat) (h : HH) (x4 : Int) (x5 : Int) (x6 : Int), x_hates_L51 S x1 x2 x3 n h x4 x5 x6 = some res → V D dT bs 7 p l e rm_x_hates s m args below meth c 0 0 (MQ below (QQ D dT bs (some (zI res.1)) res.2 S) args s 0 0 (AA bs)) h S 51 [(0, zP bs 0), (1, zI x1), (2, zI x2), (3, zI x3), (4, zI x4), (5, zI x5), (6, zI x6)] [] := by
  intro n
  induction n with
  | zero => intro h x4 x5 x6 hf; simp [x_hates_L51] at hf
  | succ n51 ih51 =>
    intro h x4 x5 x6 hf
    rw [x_hates_L51] at hf
    refine r_iload (pc' := 53) (i := 6) C 6 rfl dX11_hates_51 rfl ?_
    refine r_if_lt (pc' := 56) (tgt := 91) C rfl hf dX11_hates_53 (by decide) rfl (fun hf => ?_) (fun hf => ?_)
    · refine r_iload_n (pc' := 92) (f4 := 3) (i := 3) C 3 rfl rfl dX11_hates_91 rfl ?_
      refine r_if_ne (pc' := 95) (tgt := 100) C rfl hf dX11_hates_92 (by decide) rfl (fun hf => ?_) (fun hf => ?_)
      · refine r_iload (pc' := 97) (i := 4) C 4 rfl dX11_hates_95 rfl ?_
        refine r_goto (tgt := 102) C dX11_hates_97 (by decide) ?_
        cases hf
        exact r_iret C dX11_hates_102
      · refine r_iload (pc' := 102) (i := 5) C 5 rfl dX11_hates_100 rfl ?_
        cases hf
        exact r_iret C dX11_hates_102
    · refine r_aload_n (pc' := 57) (f4 := 0) (i := 0) C 0 rfl rfl dX11_hates_56 rfl ?_
      refine q_getP (pc' := 60) (j := 2) C (K_0 hF) fb_11_2 (by decide) wd_313 (Or.inl rfl) (F_0_2 hF) (by decide) dX11_hates_57 rfl ?_
      refine q_getP (pc' := 63) (j := 2) C (K_99 hF) fb_10_2 (by decide) wd_180 (Or.inl rfl) (F_99_2 hF) (by decide) dX11_hates_60 rfl ?_
      refine r_iload_n (pc' := 64) (f4 := 1) (i := 1) C 1 rfl rfl dX11_hates_63 rfl ?_
      obtain ⟨hi2, hf⟩ := ck_in hf
      refine r_aaldP (pc' := 65) (t := 3) C (K_102 hF) (by decide) (by decide) (by decide) (by decide) rfl rfl hi2 (FL102 hF hi2) (Int.add_nonneg (by decide) (hi2).1) dX11_hates_64 rfl ?_
      refine r_iload_n (pc' := 66) (f4 := 2) (i := 2) C 2 rfl rfl dX11_hates_65 rfl ?_
      refine r_iload (pc' := 68) (i := 6) C 6 rfl dX11_hates_66 rfl ?_
      obtain ⟨hi, hf⟩ := ck_in hf
      refine r_iast (pc' := 69) C (KL102 hF hi2) rfl hi dX11_hates_68 rfl ?_
      refine r_aload_n (pc' := 70) (f4 := 0) (i := 0) C 0 rfl rfl dX11_hates_69 rfl ?_
      refine r_iload_n (pc' := 71) (f4 := 1) (i := 1) C 1 rfl rfl dX11_hates_70 rfl ?_
      refine r_iload_n (pc' := 72) (f4 := 2) (i := 2) C 2 rfl rfl dX11_hates_71 rfl ?_
      obtain ⟨q3, hq3, hf⟩ := bind_in hf
      refine q_callV (pc' := 75) C (t_x_isAsSeen hF hq3) rfl (K_0 hF) cl_11 wv_RX11_252 ⟨Nat.le_of_ble_eq_true rfl, Nat.le_of_ble_eq_true rfl⟩ rfl rfl (Nat.le_of_ble_eq_true rfl) dX11_hates_72 rfl ⟨Nat.le_of_ble_eq_true rfl, Nat.le_of_ble_eq_true rfl⟩ ?_
      refine r_if_eq (pc' := 78) (tgt := 85) C rfl hf dX11_hates_75 (by decide) rfl (fun hf => ?_) (fun hf => ?_)
      · refine r_iinc (pc' := 88) (i := 6) (L' := [(6, zI (x6 + (-1))), (0, zP bs 0), (1, zI x1), (2, zI x2), (3, zI x3), (4, zI x4), (5, zI x5)]) C 6 rfl (by decide) rfl dX11_hates_85 rfl ?_
        refine r_goto (tgt := 51) C dX11_hates_88 (by decide) ?_
        refine V.sub (L' := [(0, zP bs 0), (1, zI x1), (2, zI x2), (3, zI x3), (4, zI x4), (5, zI x5), (6, zI (x6 + (-1)))]) [1, 2, 3, 4, 5, 6, 0] rfl ?_
        exact ih51 _ _ _ _ hf
      · refine r_iinc (pc' := 81) (i := 4) (L' := [(4, zI (x4 + 1)), (0, zP bs 0), (1, zI x1), (2, zI x2), (3, zI x3), (5, zI x5), (6, zI x6)]) C 4 rfl (by decide) rfl dX11_hates_78 rfl ?_
        refine r_iload (pc' := 83) (i := 6) C 6 rfl dX11_hates_81 rfl ?_
        refine r_istore (pc' := 85) (i := 5) (L' := [(5, zI x6), (4, zI (x4 + 1)), (0, zP bs 0), (1, zI x1), (2, zI x2), (3, zI x3), (6, zI x6)]) C (by decide) rfl dX11_hates_83 rfl ?_
        refine r_iinc (pc' := 88) (i := 6) (L' := [(6, zI (x6 + (-1))), (5, zI x6), (4, zI (x4 + 1)), (0, zP bs 0), (1, zI x1), (2, zI x2), (3, zI x3)]) C 6 rfl (by decide) rfl dX11_hates_85 rfl ?_
        refine r_goto (tgt := 51) C dX11_hates_88 (by decide) ?_
        refine V.sub (L' := [(0, zP bs 0), (1, zI x1), (2, zI x2), (3, zI x3), (4, zI (x4 + 1)), (5, zI x6), (6, zI (x6 + (-1)))]) [3, 4, 5, 6, 2, 1, 0] rfl ?_
        exact ih51 _ _ _ _ hf
set_option maxHeartbeats 4000000 in
set_option maxRecDepth 100000 in
theorem t_x_hates {S : SS} (hF : Fx S) {h : HH} {a1 : Int} {a2 : Int} {a3 : Int} {res : Int × HH} (hf : x_hates S h a1 a2 a3 = some res) : CM yX11_hates cX11_hates 7 (some Jvm.ClassFile.FieldType.int) 7 158 0 0 (fun bs => [zP bs 0, zI a1, zI a2, zI a3]) h S (fun _ => some (zI res.1)) res.2 S := by
  refine CM.intro (own := RX11) (by decide) rfl (fun _ => Nat.le_of_ble_eq_true rfl) ?_
  intro D dT bs p l e s m args below meth c C
  show V D dT bs 7 p l e rm_x_hates s m args below meth c 0 0 _ h S 0 [(0, zP bs 0), (1, zI a1), (2, zI a2), (3, zI a3)] []
  unfold x_hates at hf
  refine r_aload_n (pc' := 1) (f4 := 0) (i := 0) C 0 rfl rfl dX11_hates_0 rfl ?_
  refine q_getP (pc' := 4) (j := 0) C (K_0 hF) fb_11_0 (by decide) wd_311 (Or.inl rfl) (F_0_0 hF) (by decide) dX11_hates_1 rfl ?_
  refine r_iload_n (pc' := 5) (f4 := 1) (i := 1) C 1 rfl rfl dX11_hates_4 rfl ?_
  refine q_callV (pc' := 8) C (t_xw_has hF lit_W_1) rfl (K_1 hF) cl_10 wv_RX11_87 ⟨Nat.le_of_ble_eq_true rfl, Nat.le_of_ble_eq_true rfl⟩ rfl rfl (Nat.le_of_ble_eq_true rfl) dX11_hates_5 rfl ⟨Nat.le_of_ble_eq_true rfl, Nat.le_of_ble_eq_true rfl⟩ ?_
  refine r_if_eq (pc' := 11) (tgt := 27) C rfl hf dX11_hates_8 (by decide) rfl (fun hf => ?_) (fun hf => ?_)
  · refine r_iconst (pc' := 28) C dX11_hates_27 rfl ?_
    cases hf
    exact r_iret C dX11_hates_28
  · refine r_iload_n (pc' := 12) (f4 := 2) (i := 2) C 2 rfl rfl dX11_hates_11 rfl ?_
    refine q_callS (pc' := 15) C (t_x_isTree hF) rfl ws_RX11_118 ⟨Nat.le_of_ble_eq_true rfl, Nat.le_of_ble_eq_true rfl⟩ rfl rfl (Nat.le_of_ble_eq_true rfl) dX11_hates_12 rfl ⟨Nat.le_of_ble_eq_true rfl, Nat.le_of_ble_eq_true rfl⟩ ?_
    refine r_if_eq (pc' := 18) (tgt := 27) C rfl hf dX11_hates_15 (by decide) rfl (fun hf => ?_) (fun hf => ?_)
    · refine r_iconst (pc' := 28) C dX11_hates_27 rfl ?_
      cases hf
      exact r_iret C dX11_hates_28
    · refine r_iload_n (pc' := 19) (f4 := 3) (i := 3) C 3 rfl rfl dX11_hates_18 rfl ?_
      refine r_if_eq (pc' := 22) (tgt := 29) C rfl hf dX11_hates_19 (by decide) rfl (fun hf => ?_) (fun hf => ?_)
      · refine r_aload_n (pc' := 30) (f4 := 0) (i := 0) C 0 rfl rfl dX11_hates_29 rfl ?_
        refine q_getP (pc' := 33) (j := 2) C (K_0 hF) fb_11_2 (by decide) wd_313 (Or.inl rfl) (F_0_2 hF) (by decide) dX11_hates_30 rfl ?_
        refine r_aload_n (pc' := 34) (f4 := 0) (i := 0) C 0 rfl rfl dX11_hates_33 rfl ?_
        refine q_getP (pc' := 37) (j := 0) C (K_0 hF) fb_11_0 (by decide) wd_311 (Or.inl rfl) (F_0_0 hF) (by decide) dX11_hates_34 rfl ?_
        obtain ⟨q1, hq1, hf⟩ := bind_in hf
        refine q_callVv (pc' := 40) C (t_xw_goFrom hF lit_W_99 lit_W_1 hq1) rfl (K_99 hF) cl_10 wv_RX11_198 ⟨Nat.le_of_ble_eq_true rfl, Nat.le_of_ble_eq_true rfl⟩ rfl rfl (Nat.le_of_ble_eq_true rfl) dX11_hates_37 rfl ⟨Nat.le_of_ble_eq_true rfl, Nat.le_of_ble_eq_true rfl⟩ ?_
        refine r_iconst (pc' := 41) C dX11_hates_40 rfl ?_
        refine r_istore (pc' := 43) (i := 4) (L' := [(4, zI 0), (0, zP bs 0), (1, zI a1), (2, zI a2), (3, zI a3)]) C (by decide) rfl dX11_hates_41 rfl ?_
        refine r_bipush (pc' := 45) C rfl dX11_hates_43 rfl ?_
        refine r_istore (pc' := 47) (i := 5) (L' := [(5, zI (-5)), (4, zI 0), (0, zP bs 0), (1, zI a1), (2, zI a2), (3, zI a3)]) C (by decide) rfl dX11_hates_45 rfl ?_
        refine r_bipush (pc' := 49) C rfl dX11_hates_47 rfl ?_
        refine r_istore (pc' := 51) (i := 6) (L' := [(6, zI 99), (5, zI (-5)), (4, zI 0), (0, zP bs 0), (1, zI a1), (2, zI a2), (3, zI a3)]) C (by decide) rfl dX11_hates_49 rfl ?_
        refine V.sub (L' := [(0, zP bs 0), (1, zI a1), (2, zI a2), (3, zI a3), (4, zI 0), (5, zI (-5)), (6, zI 99)]) [3, 4, 5, 6, 2, 1, 0] rfl ?_
        refine w_x_hates_L51 hF C _ _ _ _ _ _ _ _ hf
      · refine r_iload_n (pc' := 23) (f4 := 3) (i := 3) C 3 rfl rfl dX11_hates_22 rfl ?_
        refine r_iconst (pc' := 24) C dX11_hates_23 rfl ?_
        refine r_icmp_eq (pc' := 27) (tgt := 29) C rfl ww_n1 hf dX11_hates_24 (by decide) rfl (fun hf => ?_) (fun hf => ?_)
        · refine r_aload_n (pc' := 30) (f4 := 0) (i := 0) C 0 rfl rfl dX11_hates_29 rfl ?_
          refine q_getP (pc' := 33) (j := 2) C (K_0 hF) fb_11_2 (by decide) wd_313 (Or.inl rfl) (F_0_2 hF) (by decide) dX11_hates_30 rfl ?_
          refine r_aload_n (pc' := 34) (f4 := 0) (i := 0) C 0 rfl rfl dX11_hates_33 rfl ?_
          refine q_getP (pc' := 37) (j := 0) C (K_0 hF) fb_11_0 (by decide) wd_311 (Or.inl rfl) (F_0_0 hF) (by decide) dX11_hates_34 rfl ?_
          obtain ⟨q4, hq4, hf⟩ := bind_in hf
          refine q_callVv (pc' := 40) C (t_xw_goFrom hF lit_W_99 lit_W_1 hq4) rfl (K_99 hF) cl_10 wv_RX11_198 ⟨Nat.le_of_ble_eq_true rfl, Nat.le_of_ble_eq_true rfl⟩ rfl rfl (Nat.le_of_ble_eq_true rfl) dX11_hates_37 rfl ⟨Nat.le_of_ble_eq_true rfl, Nat.le_of_ble_eq_true rfl⟩ ?_
          refine r_iconst (pc' := 41) C dX11_hates_40 rfl ?_
          refine r_istore (pc' := 43) (i := 4) (L' := [(4, zI 0), (0, zP bs 0), (1, zI a1), (2, zI a2), (3, zI a3)]) C (by decide) rfl dX11_hates_41 rfl ?_
          refine r_bipush (pc' := 45) C rfl dX11_hates_43 rfl ?_
          refine r_istore (pc' := 47) (i := 5) (L' := [(5, zI (-5)), (4, zI 0), (0, zP bs 0), (1, zI a1), (2, zI a2), (3, zI a3)]) C (by decide) rfl dX11_hates_45 rfl ?_
          refine r_bipush (pc' := 49) C rfl dX11_hates_47 rfl ?_
          refine r_istore (pc' := 51) (i := 6) (L' := [(6, zI 99), (5, zI (-5)), (4, zI 0), (0, zP bs 0), (1, zI a1), (2, zI a2), (3, zI a3)]) C (by decide) rfl dX11_hates_49 rfl ?_
          refine V.sub (L' := [(0, zP bs 0), (1, zI a1), (2, zI a2), (3, zI a3), (4, zI 0), (5, zI (-5)), (6, zI 99)]) [3, 4, 5, 6, 2, 1, 0] rfl ?_
          refine w_x_hates_L51 hF C _ _ _ _ _ _ _ _ hf
        · refine r_iconst (pc' := 28) C dX11_hates_27 rfl ?_
          cases hf
          exact r_iret C dX11_hates_28

/- WassailEnemies.ofAll(II)J -/
def x_ofAll_L28 (h : HH) (x1 : Int) (x2 : Int) (x3 : Int) : Nat → Int → Option Int
  | 0, _ => none
  | n28 + 1, x4 =>
    if 1 < ww x4 then (ckz (ww x4) <| if ww (zrem x1 x4) = 0 then (ckz (ww x4) <| if ww (zrem x3 x4) = 0 then (if ww x2 = 0 then (ckz (ww x4) <| some (zi2l (zdiv x1 x4))) else (ckz (ww x4) <| some (zi2l (zdiv x3 x4)))) else (x_ofAll_L28 h x1 x2 x3 n28 (x4 + (-1)))) else (x_ofAll_L28 h x1 x2 x3 n28 (x4 + (-1)))) else (if ww x2 = 0 then (ckz (ww x4) <| some (zi2l (zdiv x1 x4))) else (ckz (ww x4) <| some (zi2l (zdiv x3 x4))))
def x_ofAll (h : HH) (a1 : Int) (a2 : Int) : Option Int :=
  if ww (h 1 4) = 0 then (some (-9223372036854775808)) else (if ww a2 = 0 then (x_ofAll_L28 h a1 a2 (h 1 4) FU (h 1 4)) else (if ww a2 = 1 then (x_ofAll_L28 h a1 a2 (h 1 4) FU (h 1 4)) else (some (-9223372036854775808))))
abbrev rm_x_ofAll : Room := { frames := 0, cells := 0, slots := 0, locals := 0 }
set_option maxHeartbeats 4000000 in
set_option maxRecDepth 100000 in
theorem w_x_ofAll_L28 (hF : Fx S) (C : Cx D dT bs RX11 cX11_ofAll 5 (some Jvm.ClassFile.FieldType.long) p s m args meth c) {h : HH} (x1 : Int) (x2 : Int) (x3 : Int) {res : Int} :
    ∀ (n : Nat) (x4 : Int), x_ofAll_L28 h x1 x2 x3 n x4 = some res → V D dT bs 5 p l e rm_x_ofAll s m args below meth c 0 0 (MQ below (QQ D dT bs (some (zL res)) h S) args s 0 0 (AA bs)) h S 28 [(1, zI x1), (2, zI x2), (3, zI x3), (4, zI x4)] [] := by
  intro n
  induction n with
  | zero => intro x4 hf; simp [x_ofAll_L28] at hf
  | succ n28 ih28 =>
    intro x4 hf
    rw [x_ofAll_L28] at hf
    refine r_iload (pc' := 30) (i := 4) C 3 rfl dX11_ofAll_28 rfl ?_
    refine r_iconst (pc' := 31) C dX11_ofAll_30 rfl ?_
    refine r_icmp_le (pc' := 34) (tgt := 54) C rfl ww_n1 hf dX11_ofAll_31 (by decide) rfl (fun hf => ?_) (fun hf => ?_)
    · refine r_iload_n (pc' := 35) (f4 := 1) (i := 1) C 0 rfl rfl dX11_ofAll_34 rfl ?_
      refine r_iload (pc' := 37) (i := 4) C 3 rfl dX11_ofAll_35 rfl ?_
      obtain ⟨hz, hf⟩ := ckz_in hf
      refine r_irem (pc' := 38) C rfl hz dX11_ofAll_37 rfl ?_
      refine r_if_ne (pc' := 41) (tgt := 48) C rfl hf dX11_ofAll_38 (by decide) rfl (fun hf => ?_) (fun hf => ?_)
      · refine r_iload_n (pc' := 42) (f4 := 3) (i := 3) C 2 rfl rfl dX11_ofAll_41 rfl ?_
        refine r_iload (pc' := 44) (i := 4) C 3 rfl dX11_ofAll_42 rfl ?_
        obtain ⟨hz, hf⟩ := ckz_in hf
        refine r_irem (pc' := 45) C rfl hz dX11_ofAll_44 rfl ?_
        refine r_if_eq (pc' := 48) (tgt := 54) C rfl hf dX11_ofAll_45 (by decide) rfl (fun hf => ?_) (fun hf => ?_)
        · refine r_iload_n (pc' := 55) (f4 := 2) (i := 2) C 1 rfl rfl dX11_ofAll_54 rfl ?_
          refine r_if_ne (pc' := 58) (tgt := 62) C rfl hf dX11_ofAll_55 (by decide) rfl (fun hf => ?_) (fun hf => ?_)
          · refine r_iload_n (pc' := 59) (f4 := 1) (i := 1) C 0 rfl rfl dX11_ofAll_58 rfl ?_
            refine r_goto (tgt := 63) C dX11_ofAll_59 (by decide) ?_
            refine r_iload (pc' := 65) (i := 4) C 3 rfl dX11_ofAll_63 rfl ?_
            obtain ⟨hz, hf⟩ := ckz_in hf
            refine r_idiv (pc' := 66) C rfl hz dX11_ofAll_65 rfl ?_
            refine r_i2l (pc' := 67) C dX11_ofAll_66 rfl ?_
            cases hf
            exact r_lret C dX11_ofAll_67
          · refine r_iload_n (pc' := 63) (f4 := 3) (i := 3) C 2 rfl rfl dX11_ofAll_62 rfl ?_
            refine r_iload (pc' := 65) (i := 4) C 3 rfl dX11_ofAll_63 rfl ?_
            obtain ⟨hz, hf⟩ := ckz_in hf
            refine r_idiv (pc' := 66) C rfl hz dX11_ofAll_65 rfl ?_
            refine r_i2l (pc' := 67) C dX11_ofAll_66 rfl ?_
            cases hf
            exact r_lret C dX11_ofAll_67
        · refine r_iinc (pc' := 51) (i := 4) (L' := [(4, zI (x4 + (-1))), (1, zI x1), (2, zI x2), (3, zI x3)]) C 3 rfl (by decide) rfl dX11_ofAll_48 rfl ?_
          refine r_goto (tgt := 28) C dX11_ofAll_51 (by decide) ?_
          refine V.sub (L' := [(1, zI x1), (2, zI x2), (3, zI x3), (4, zI (x4 + (-1)))]) [1, 2, 3, 0] rfl ?_
          exact ih28 _ hf
      · refine r_iinc (pc' := 51) (i := 4) (L' := [(4, zI (x4 + (-1))), (1, zI x1), (2, zI x2), (3, zI x3)]) C 3 rfl (by decide) rfl dX11_ofAll_48 rfl ?_
        refine r_goto (tgt := 28) C dX11_ofAll_51 (by decide) ?_
        refine V.sub (L' := [(1, zI x1), (2, zI x2), (3, zI x3), (4, zI (x4 + (-1)))]) [1, 2, 3, 0] rfl ?_
        exact ih28 _ hf
    · refine r_iload_n (pc' := 55) (f4 := 2) (i := 2) C 1 rfl rfl dX11_ofAll_54 rfl ?_
      refine r_if_ne (pc' := 58) (tgt := 62) C rfl hf dX11_ofAll_55 (by decide) rfl (fun hf => ?_) (fun hf => ?_)
      · refine r_iload_n (pc' := 59) (f4 := 1) (i := 1) C 0 rfl rfl dX11_ofAll_58 rfl ?_
        refine r_goto (tgt := 63) C dX11_ofAll_59 (by decide) ?_
        refine r_iload (pc' := 65) (i := 4) C 3 rfl dX11_ofAll_63 rfl ?_
        obtain ⟨hz, hf⟩ := ckz_in hf
        refine r_idiv (pc' := 66) C rfl hz dX11_ofAll_65 rfl ?_
        refine r_i2l (pc' := 67) C dX11_ofAll_66 rfl ?_
        cases hf
        exact r_lret C dX11_ofAll_67
      · refine r_iload_n (pc' := 63) (f4 := 3) (i := 3) C 2 rfl rfl dX11_ofAll_62 rfl ?_
        refine r_iload (pc' := 65) (i := 4) C 3 rfl dX11_ofAll_63 rfl ?_
        obtain ⟨hz, hf⟩ := ckz_in hf
        refine r_idiv (pc' := 66) C rfl hz dX11_ofAll_65 rfl ?_
        refine r_i2l (pc' := 67) C dX11_ofAll_66 rfl ?_
        cases hf
        exact r_lret C dX11_ofAll_67
set_option maxHeartbeats 4000000 in
set_option maxRecDepth 100000 in
theorem t_x_ofAll {S : SS} (hF : Fx S) {h : HH} {a1 : Int} {a2 : Int} {res : Int} (hf : x_ofAll h a1 a2 = some res) : CM yX11_ofAll cX11_ofAll 5 (some Jvm.ClassFile.FieldType.long) 0 0 0 0 (fun bs => [zP bs 0, zI a1, zI a2]) h S (fun _ => some (zL res)) h S := by
  refine CM.intro (own := RX11) (by decide) rfl (fun _ => Nat.le_of_ble_eq_true rfl) ?_
  intro D dT bs p l e s m args below meth c C
  show V D dT bs 5 p l e rm_x_ofAll s m args below meth c 0 0 _ h S 0 [(0, zP bs 0), (1, zI a1), (2, zI a2)] []
  unfold x_ofAll at hf
  refine r_aload_n (pc' := 1) (f4 := 0) (i := 0) C 0 rfl rfl dX11_ofAll_0 rfl ?_
  refine q_getP (pc' := 4) (j := 0) C (K_0 hF) fb_11_0 (by decide) wd_311 (Or.inl rfl) (F_0_0 hF) (by decide) dX11_ofAll_1 rfl ?_
  refine q_getI (pc' := 7) (j := 4) C (K_1 hF) fb_10_4 wd_184 (Or.inl rfl) dX11_ofAll_4 rfl ?_
  refine r_istore_n (pc' := 8) (f4 := 3) (i := 3) (L' := [(3, zI (h 1 4)), (0, zP bs 0), (1, zI a1), (2, zI a2)]) C rfl (by decide) rfl dX11_ofAll_7 rfl ?_
  refine r_iload_n (pc' := 9) (f4 := 3) (i := 3) C 0 rfl rfl dX11_ofAll_8 rfl ?_
  refine r_if_eq (pc' := 12) (tgt := 21) C rfl hf dX11_ofAll_9 (by decide) rfl (fun hf => ?_) (fun hf => ?_)
  · refine r_ldc2 (pc' := 24) C (n := (-9223372036854775808)) wc_869 dX11_ofAll_21 rfl ?_
    cases hf
    exact r_lret C dX11_ofAll_24
  · refine r_iload_n (pc' := 13) (f4 := 2) (i := 2) C 3 rfl rfl dX11_ofAll_12 rfl ?_
    refine r_if_eq (pc' := 16) (tgt := 25) C rfl hf dX11_ofAll_13 (by decide) rfl (fun hf => ?_) (fun hf => ?_)
    · refine r_iload_n (pc' := 26) (f4 := 3) (i := 3) C 0 rfl rfl dX11_ofAll_25 rfl ?_
      refine r_istore (pc' := 28) (i := 4) (L' := [(4, zI (h 1 4)), (3, zI (h 1 4)), (0, zP bs 0), (1, zI a1), (2, zI a2)]) C (by decide) rfl dX11_ofAll_26 rfl ?_
      refine V.sub (L' := [(1, zI a1), (2, zI a2), (3, zI (h 1 4)), (4, zI (h 1 4))]) [3, 4, 1, 0] rfl ?_
      refine w_x_ofAll_L28 hF C _ _ _ _ _ hf
    · refine r_iload_n (pc' := 17) (f4 := 2) (i := 2) C 3 rfl rfl dX11_ofAll_16 rfl ?_
      refine r_iconst (pc' := 18) C dX11_ofAll_17 rfl ?_
      refine r_icmp_eq (pc' := 21) (tgt := 25) C rfl ww_n1 hf dX11_ofAll_18 (by decide) rfl (fun hf => ?_) (fun hf => ?_)
      · refine r_iload_n (pc' := 26) (f4 := 3) (i := 3) C 0 rfl rfl dX11_ofAll_25 rfl ?_
        refine r_istore (pc' := 28) (i := 4) (L' := [(4, zI (h 1 4)), (3, zI (h 1 4)), (0, zP bs 0), (1, zI a1), (2, zI a2)]) C (by decide) rfl dX11_ofAll_26 rfl ?_
        refine V.sub (L' := [(1, zI a1), (2, zI a2), (3, zI (h 1 4)), (4, zI (h 1 4))]) [3, 4, 1, 0] rfl ?_
        refine w_x_ofAll_L28 hF C _ _ _ _ _ hf
      · refine r_ldc2 (pc' := 24) C (n := (-9223372036854775808)) wc_869 dX11_ofAll_21 rfl ?_
        cases hf
        exact r_lret C dX11_ofAll_24

/- WassailEnemies.odds(II)J -/
def x_odds_L16 (S : SS) (x1 : Int) (x2 : Int) : Nat → HH → Int → Int → Option (Int × HH)
  | 0, _, _, _ => none
  | n16 + 1, h, x3, x4 =>
    if ww x4 < ww (h 1 4) then ((xw_bears S h 1 x4 x1).bind fun q1 => x_odds_L16 S x1 x2 n16 q1.2 (x3 + (x_bit q1.1)) (x4 + 1)) else ((x_ofAll h x3 x2).bind fun q2 => some (q2, h))
def x_odds (S : SS) (h : HH) (a1 : Int) (a2 : Int) : Option (Int × HH) :=
  if ww (x_isTree a1) = 0 then (some (-9223372036854775808, h)) else (x_odds_L16 S a1 a2 FU h 0 0)
abbrev rm_x_odds : Room := { frames := 6, cells := 0, slots := 0, locals := 134 }
set_option maxHeartbeats 4000000 in
set_option maxRecDepth 100000 in
theorem w_x_odds_L16 (hF : Fx S) (C : Cx D dT bs RX11 cX11_odds 5 (some Jvm.ClassFile.FieldType.long) p s m args meth c) (x1 : Int) (x2 : Int) {res : (Int × HH)} :
    ∀ (n : Nat) (h : HH) (x3 : Int) (x4 : Int), x_odds_L16 S x1 x2 n h x3 x4 = some res → V D dT bs 5 p l e rm_x_odds s m args below meth c 0 0 (MQ below (QQ D dT bs (some (zL res.1)) res.2 S) args s 0 0 (AA bs)) h S 16 [(0, zP bs 0), (1, zI x1), (2, zI x2), (3, zI x3), (4, zI x4)] [] := by
  intro n
  induction n with
  | zero => intro h x3 x4 hf; simp [x_odds_L16] at hf
  | succ n16 ih16 =>
    intro h x3 x4 hf
    rw [x_odds_L16] at hf
    refine r_iload (pc' := 18) (i := 4) C 4 rfl dX11_odds_16 rfl ?_
    refine r_aload_n (pc' := 19) (f4 := 0) (i := 0) C 0 rfl rfl dX11_odds_18 rfl ?_
    refine q_getP (pc' := 22) (j := 0) C (K_0 hF) fb_11_0 (by decide) wd_311 (Or.inl rfl) (F_0_0 hF) (by decide) dX11_odds_19 rfl ?_
    refine q_getI (pc' := 25) (j := 4) C (K_1 hF) fb_10_4 wd_184 (Or.inl rfl) dX11_odds_22 rfl ?_
    refine r_icmp_ge (pc' := 28) (tgt := 50) C rfl rfl hf dX11_odds_25 (by decide) rfl (fun hf => ?_) (fun hf => ?_)
    · refine r_iload_n (pc' := 29) (f4 := 3) (i := 3) C 3 rfl rfl dX11_odds_28 rfl ?_
      refine r_aload_n (pc' := 30) (f4 := 0) (i := 0) C 0 rfl rfl dX11_odds_29 rfl ?_
      refine q_getP (pc' := 33) (j := 0) C (K_0 hF) fb_11_0 (by decide) wd_311 (Or.inl rfl) (F_0_0 hF) (by decide) dX11_odds_30 rfl ?_
      refine r_iload (pc' := 35) (i := 4) C 4 rfl dX11_odds_33 rfl ?_
      refine r_iload_n (pc' := 36) (f4 := 1) (i := 1) C 1 rfl rfl dX11_odds_35 rfl ?_
      obtain ⟨q1, hq1, hf⟩ := bind_in hf
      refine q_callV (pc' := 39) C (t_xw_bears hF lit_W_1 hq1) rfl (K_1 hF) cl_10 wv_RX11_256 ⟨Nat.le_of_ble_eq_true rfl, Nat.le_of_ble_eq_true rfl⟩ rfl rfl (Nat.le_of_ble_eq_true rfl) dX11_odds_36 rfl ⟨Nat.le_of_ble_eq_true rfl, Nat.le_of_ble_eq_true rfl⟩ ?_
      refine q_callS (pc' := 42) C (t_x_bit hF) rfl ws_RX11_106 ⟨Nat.le_of_ble_eq_true rfl, Nat.le_of_ble_eq_true rfl⟩ rfl rfl (Nat.le_of_ble_eq_true rfl) dX11_odds_39 rfl ⟨Nat.le_of_ble_eq_true rfl, Nat.le_of_ble_eq_true rfl⟩ ?_
      refine r_iadd (pc' := 43) C dX11_odds_42 rfl ?_
      refine r_istore_n (pc' := 44) (f4 := 3) (i := 3) (L' := [(3, zI (x3 + (x_bit q1.1))), (0, zP bs 0), (1, zI x1), (2, zI x2), (4, zI x4)]) C rfl (by decide) rfl dX11_odds_43 rfl ?_
      refine r_iinc (pc' := 47) (i := 4) (L' := [(4, zI (x4 + 1)), (3, zI (x3 + (x_bit q1.1))), (0, zP bs 0), (1, zI x1), (2, zI x2)]) C 4 rfl (by decide) rfl dX11_odds_44 rfl ?_
      refine r_goto (tgt := 16) C dX11_odds_47 (by decide) ?_
      refine V.sub (L' := [(0, zP bs 0), (1, zI x1), (2, zI x2), (3, zI (x3 + (x_bit q1.1))), (4, zI (x4 + 1))]) [2, 3, 4, 1, 0] rfl ?_
      exact ih16 _ _ _ hf
    · refine r_aload_n (pc' := 51) (f4 := 0) (i := 0) C 0 rfl rfl dX11_odds_50 rfl ?_
      refine r_iload_n (pc' := 52) (f4 := 3) (i := 3) C 3 rfl rfl dX11_odds_51 rfl ?_
      refine r_iload_n (pc' := 53) (f4 := 2) (i := 2) C 2 rfl rfl dX11_odds_52 rfl ?_
      obtain ⟨q2, hq2, hf⟩ := bind_in hf
      refine q_callV (pc' := 56) C (t_x_ofAll hF hq2) rfl (K_0 hF) cl_11 wv_RX11_261 ⟨Nat.le_of_ble_eq_true rfl, Nat.le_of_ble_eq_true rfl⟩ rfl rfl (Nat.le_of_ble_eq_true rfl) dX11_odds_53 rfl ⟨Nat.le_of_ble_eq_true rfl, Nat.le_of_ble_eq_true rfl⟩ ?_
      cases hf
      exact r_lret C dX11_odds_56
set_option maxHeartbeats 4000000 in
set_option maxRecDepth 100000 in
theorem t_x_odds {S : SS} (hF : Fx S) {h : HH} {a1 : Int} {a2 : Int} {res : Int × HH} (hf : x_odds S h a1 a2 = some res) : CM yX11_odds cX11_odds 5 (some Jvm.ClassFile.FieldType.long) 6 134 0 0 (fun bs => [zP bs 0, zI a1, zI a2]) h S (fun _ => some (zL res.1)) res.2 S := by
  refine CM.intro (own := RX11) (by decide) rfl (fun _ => Nat.le_of_ble_eq_true rfl) ?_
  intro D dT bs p l e s m args below meth c C
  show V D dT bs 5 p l e rm_x_odds s m args below meth c 0 0 _ h S 0 [(0, zP bs 0), (1, zI a1), (2, zI a2)] []
  unfold x_odds at hf
  refine r_iload_n (pc' := 1) (f4 := 1) (i := 1) C 1 rfl rfl dX11_odds_0 rfl ?_
  refine q_callS (pc' := 4) C (t_x_isTree hF) rfl ws_RX11_118 ⟨Nat.le_of_ble_eq_true rfl, Nat.le_of_ble_eq_true rfl⟩ rfl rfl (Nat.le_of_ble_eq_true rfl) dX11_odds_1 rfl ⟨Nat.le_of_ble_eq_true rfl, Nat.le_of_ble_eq_true rfl⟩ ?_
  refine r_if_ne (pc' := 7) (tgt := 11) C rfl hf dX11_odds_4 (by decide) rfl (fun hf => ?_) (fun hf => ?_)
  · refine r_ldc2 (pc' := 10) C (n := (-9223372036854775808)) wc_869 dX11_odds_7 rfl ?_
    cases hf
    exact r_lret C dX11_odds_10
  · refine r_iconst (pc' := 12) C dX11_odds_11 rfl ?_
    refine r_istore_n (pc' := 13) (f4 := 3) (i := 3) (L' := [(3, zI 0), (0, zP bs 0), (1, zI a1), (2, zI a2)]) C rfl (by decide) rfl dX11_odds_12 rfl ?_
    refine r_iconst (pc' := 14) C dX11_odds_13 rfl ?_
    refine r_istore (pc' := 16) (i := 4) (L' := [(4, zI 0), (3, zI 0), (0, zP bs 0), (1, zI a1), (2, zI a2)]) C (by decide) rfl dX11_odds_14 rfl ?_
    refine V.sub (L' := [(0, zP bs 0), (1, zI a1), (2, zI a2), (3, zI 0), (4, zI 0)]) [2, 3, 4, 1, 0] rfl ?_
    refine w_x_odds_L16 hF C _ _ _ _ _ _ hf

/- WassailEnemies.mean(II)J -/
def x_mean_L16 (h : HH) (x1 : Int) (x2 : Int) : Nat → Int → Int → Option Int
  | 0, _, _ => none
  | n16 + 1, x3, x4 =>
    if ww x4 < ww (h 1 4) then (ck (ww x4) 6 <| ck (ww x1) 5 <| x_mean_L16 h x1 x2 n16 (x3 + (h (5 + (ww x4)) (ww x1))) (x4 + 1)) else ((x_ofAll h x3 x2).bind fun q2 => some q2)
def x_mean (h : HH) (a1 : Int) (a2 : Int) : Option Int :=
  if ww (x_isTree a1) = 0 then (some (-9223372036854775808)) else (x_mean_L16 h a1 a2 FU 0 0)
abbrev rm_x_mean : Room := { frames := 1, cells := 0, slots := 0, locals := 24 }
set_option maxHeartbeats 4000000 in
set_option maxRecDepth 100000 in
theorem w_x_mean_L16 (hF : Fx S) (C : Cx D dT bs RX11 cX11_mean 5 (some Jvm.ClassFile.FieldType.long) p s m args meth c) {h : HH} (x1 : Int) (x2 : Int) {res : Int} :
    ∀ (n : Nat) (x3 : Int) (x4 : Int), x_mean_L16 h x1 x2 n x3 x4 = some res → V D dT bs 5 p l e rm_x_mean s m args below meth c 0 0 (MQ below (QQ D dT bs (some (zL res)) h S) args s 0 0 (AA bs)) h S 16 [(0, zP bs 0), (1, zI x1), (2, zI x2), (3, zI x3), (4, zI x4)] [] := by
  intro n
  induction n with
  | zero => intro x3 x4 hf; simp [x_mean_L16] at hf
  | succ n16 ih16 =>
    intro x3 x4 hf
    rw [x_mean_L16] at hf
    refine r_iload (pc' := 18) (i := 4) C 4 rfl dX11_mean_16 rfl ?_
    refine r_aload_n (pc' := 19) (f4 := 0) (i := 0) C 0 rfl rfl dX11_mean_18 rfl ?_
    refine q_getP (pc' := 22) (j := 0) C (K_0 hF) fb_11_0 (by decide) wd_311 (Or.inl rfl) (F_0_0 hF) (by decide) dX11_mean_19 rfl ?_
    refine q_getI (pc' := 25) (j := 4) C (K_1 hF) fb_10_4 wd_184 (Or.inl rfl) dX11_mean_22 rfl ?_
    refine r_icmp_ge (pc' := 28) (tgt := 49) C rfl rfl hf dX11_mean_25 (by decide) rfl (fun hf => ?_) (fun hf => ?_)
    · refine r_iload_n (pc' := 29) (f4 := 3) (i := 3) C 3 rfl rfl dX11_mean_28 rfl ?_
      refine r_aload_n (pc' := 30) (f4 := 0) (i := 0) C 0 rfl rfl dX11_mean_29 rfl ?_
      refine q_getP (pc' := 33) (j := 0) C (K_0 hF) fb_11_0 (by decide) wd_311 (Or.inl rfl) (F_0_0 hF) (by decide) dX11_mean_30 rfl ?_
      refine q_getP (pc' := 36) (j := 2) C (K_1 hF) fb_10_2 (by decide) wd_180 (Or.inl rfl) (F_1_2 hF) (by decide) dX11_mean_33 rfl ?_
      refine r_iload (pc' := 38) (i := 4) C 4 rfl dX11_mean_36 rfl ?_
      obtain ⟨hi1, hf⟩ := ck_in hf
      refine r_aaldP (pc' := 39) (t := 3) C (K_4 hF) (by decide) (by decide) (by decide) (by decide) rfl rfl hi1 (FL4 hF hi1) (Int.add_nonneg (by decide) (hi1).1) dX11_mean_38 rfl ?_
      refine r_iload_n (pc' := 40) (f4 := 1) (i := 1) C 1 rfl rfl dX11_mean_39 rfl ?_
      obtain ⟨hi, hf⟩ := ck_in hf
      refine r_iald (pc' := 41) C (KL4 hF hi1) rfl hi dX11_mean_40 rfl ?_
      refine r_iadd (pc' := 42) C dX11_mean_41 rfl ?_
      refine r_istore_n (pc' := 43) (f4 := 3) (i := 3) (L' := [(3, zI (x3 + (h (5 + (ww x4)) (ww x1)))), (0, zP bs 0), (1, zI x1), (2, zI x2), (4, zI x4)]) C rfl (by decide) rfl dX11_mean_42 rfl ?_
      refine r_iinc (pc' := 46) (i := 4) (L' := [(4, zI (x4 + 1)), (3, zI (x3 + (h (5 + (ww x4)) (ww x1)))), (0, zP bs 0), (1, zI x1), (2, zI x2)]) C 4 rfl (by decide) rfl dX11_mean_43 rfl ?_
      refine r_goto (tgt := 16) C dX11_mean_46 (by decide) ?_
      refine V.sub (L' := [(0, zP bs 0), (1, zI x1), (2, zI x2), (3, zI (x3 + (h (5 + (ww x4)) (ww x1)))), (4, zI (x4 + 1))]) [2, 3, 4, 1, 0] rfl ?_
      exact ih16 _ _ hf
    · refine r_aload_n (pc' := 50) (f4 := 0) (i := 0) C 0 rfl rfl dX11_mean_49 rfl ?_
      refine r_iload_n (pc' := 51) (f4 := 3) (i := 3) C 3 rfl rfl dX11_mean_50 rfl ?_
      refine r_iload_n (pc' := 52) (f4 := 2) (i := 2) C 2 rfl rfl dX11_mean_51 rfl ?_
      obtain ⟨q2, hq2, hf⟩ := bind_in hf
      refine q_callV (pc' := 55) C (t_x_ofAll hF hq2) rfl (K_0 hF) cl_11 wv_RX11_261 ⟨Nat.le_of_ble_eq_true rfl, Nat.le_of_ble_eq_true rfl⟩ rfl rfl (Nat.le_of_ble_eq_true rfl) dX11_mean_52 rfl ⟨Nat.le_of_ble_eq_true rfl, Nat.le_of_ble_eq_true rfl⟩ ?_
      cases hf
      exact r_lret C dX11_mean_55
set_option maxHeartbeats 4000000 in
set_option maxRecDepth 100000 in
theorem t_x_mean {S : SS} (hF : Fx S) {h : HH} {a1 : Int} {a2 : Int} {res : Int} (hf : x_mean h a1 a2 = some res) : CM yX11_mean cX11_mean 5 (some Jvm.ClassFile.FieldType.long) 1 24 0 0 (fun bs => [zP bs 0, zI a1, zI a2]) h S (fun _ => some (zL res)) h S := by
  refine CM.intro (own := RX11) (by decide) rfl (fun _ => Nat.le_of_ble_eq_true rfl) ?_
  intro D dT bs p l e s m args below meth c C
  show V D dT bs 5 p l e rm_x_mean s m args below meth c 0 0 _ h S 0 [(0, zP bs 0), (1, zI a1), (2, zI a2)] []
  unfold x_mean at hf
  refine r_iload_n (pc' := 1) (f4 := 1) (i := 1) C 1 rfl rfl dX11_mean_0 rfl ?_
  refine q_callS (pc' := 4) C (t_x_isTree hF) rfl ws_RX11_118 ⟨Nat.le_of_ble_eq_true rfl, Nat.le_of_ble_eq_true rfl⟩ rfl rfl (Nat.le_of_ble_eq_true rfl) dX11_mean_1 rfl ⟨Nat.le_of_ble_eq_true rfl, Nat.le_of_ble_eq_true rfl⟩ ?_
  refine r_if_ne (pc' := 7) (tgt := 11) C rfl hf dX11_mean_4 (by decide) rfl (fun hf => ?_) (fun hf => ?_)
  · refine r_ldc2 (pc' := 10) C (n := (-9223372036854775808)) wc_869 dX11_mean_7 rfl ?_
    cases hf
    exact r_lret C dX11_mean_10
  · refine r_iconst (pc' := 12) C dX11_mean_11 rfl ?_
    refine r_istore_n (pc' := 13) (f4 := 3) (i := 3) (L' := [(3, zI 0), (0, zP bs 0), (1, zI a1), (2, zI a2)]) C rfl (by decide) rfl dX11_mean_12 rfl ?_
    refine r_iconst (pc' := 14) C dX11_mean_13 rfl ?_
    refine r_istore (pc' := 16) (i := 4) (L' := [(4, zI 0), (3, zI 0), (0, zP bs 0), (1, zI a1), (2, zI a2)]) C (by decide) rfl dX11_mean_14 rfl ?_
    refine V.sub (L' := [(0, zP bs 0), (1, zI a1), (2, zI a2), (3, zI 0), (4, zI 0)]) [2, 3, 4, 1, 0] rfl ?_
    refine w_x_mean_L16 hF C _ _ _ _ _ hf

/- WassailEnemies.canPlan(II)Z -/
def x_canPlan (h : HH) (a1 : Int) (a2 : Int) : Int :=
  if ww a1 = 0 then (1) else (if ww a1 = 1 then (xw_has h 1 a2) else (if ww a1 = 2 then (xw_has h 1 a2) else (if ww a1 = 3 then (if ww a2 < 0 then (0) else (if ww (x_isTree (zdiv a2 10)) = 0 then (0) else (if ww (zrem a2 10) = 9 then (1) else (if ww (xw_has h 1 (zrem a2 10)) = 0 then (0) else (1))))) else (0))))
theorem b_x_canPlan {h : HH} {a1 : Int} {a2 : Int} : x_canPlan h a1 a2 = 0 ∨ x_canPlan h a1 a2 = 1 := by
  unfold x_canPlan
  repeat' split
  all_goals first | exact Or.inl rfl | exact Or.inr rfl | exact b_x_isTree | exact b_xw_has

abbrev rm_x_canPlan : Room := { frames := 1, cells := 0, slots := 0, locals := 21 }
set_option maxHeartbeats 4000000 in
set_option maxRecDepth 100000 in
theorem t_x_canPlan {S : SS} (hF : Fx S) {h : HH} {a1 : Int} {a2 : Int} : CM yX11_canPlan cX11_canPlan 3 (some Jvm.ClassFile.FieldType.boolean) 1 21 0 0 (fun bs => [zP bs 0, zI a1, zI a2]) h S (fun _ => some (zI (x_canPlan h a1 a2))) h S := by
  refine CM.intro (own := RX11) (by decide) rfl (fun _ => Nat.le_of_ble_eq_true rfl) ?_
  intro D dT bs p l e s m args below meth c C
  show V D dT bs 3 p l e rm_x_canPlan s m args below meth c 0 0 _ h S 0 [(0, zP bs 0), (1, zI a1), (2, zI a2)] []
  obtain ⟨res, hf⟩ : ∃ r, x_canPlan h a1 a2 = r := ⟨_, rfl⟩
  rw [hf]
  unfold x_canPlan at hf
  refine r_iload_n (pc' := 1) (f4 := 1) (i := 1) C 1 rfl rfl dX11_canPlan_0 rfl ?_
  by_cases cs0 : ww a1 = 0
  · rw [if_pos cs0] at hf
    refine r_tsIn (tgt := 32) C 0 cs0 dX11_canPlan_1 (by decide) (by decide) rfl (by decide) ?_
    refine r_iconst (pc' := 33) C dX11_canPlan_32 rfl ?_
    subst hf
    exact r_zret C (Or.inr rfl) dX11_canPlan_33
  · rw [if_neg cs0] at hf
    by_cases cs1 : ww a1 = 1
    · rw [if_pos cs1] at hf
      refine r_tsIn (tgt := 34) C 1 cs1 dX11_canPlan_1 (by decide) (by decide) rfl (by decide) ?_
      refine r_aload_n (pc' := 35) (f4 := 0) (i := 0) C 0 rfl rfl dX11_canPlan_34 rfl ?_
      refine q_getP (pc' := 38) (j := 0) C (K_0 hF) fb_11_0 (by decide) wd_311 (Or.inl rfl) (F_0_0 hF) (by decide) dX11_canPlan_35 rfl ?_
      refine r_iload_n (pc' := 39) (f4 := 2) (i := 2) C 2 rfl rfl dX11_canPlan_38 rfl ?_
      refine q_callV (pc' := 42) C (t_xw_has hF lit_W_1) rfl (K_1 hF) cl_10 wv_RX11_87 ⟨Nat.le_of_ble_eq_true rfl, Nat.le_of_ble_eq_true rfl⟩ rfl rfl (Nat.le_of_ble_eq_true rfl) dX11_canPlan_39 rfl ⟨Nat.le_of_ble_eq_true rfl, Nat.le_of_ble_eq_true rfl⟩ ?_
      subst hf
      exact r_zret C (b_xw_has) dX11_canPlan_42
    · rw [if_neg cs1] at hf
      by_cases cs2 : ww a1 = 2
      · rw [if_pos cs2] at hf
        refine r_tsIn (tgt := 34) C 2 cs2 dX11_canPlan_1 (by decide) (by decide) rfl (by decide) ?_
        refine r_aload_n (pc' := 35) (f4 := 0) (i := 0) C 0 rfl rfl dX11_canPlan_34 rfl ?_
        refine q_getP (pc' := 38) (j := 0) C (K_0 hF) fb_11_0 (by decide) wd_311 (Or.inl rfl) (F_0_0 hF) (by decide) dX11_canPlan_35 rfl ?_
        refine r_iload_n (pc' := 39) (f4 := 2) (i := 2) C 2 rfl rfl dX11_canPlan_38 rfl ?_
        refine q_callV (pc' := 42) C (t_xw_has hF lit_W_1) rfl (K_1 hF) cl_10 wv_RX11_87 ⟨Nat.le_of_ble_eq_true rfl, Nat.le_of_ble_eq_true rfl⟩ rfl rfl (Nat.le_of_ble_eq_true rfl) dX11_canPlan_39 rfl ⟨Nat.le_of_ble_eq_true rfl, Nat.le_of_ble_eq_true rfl⟩ ?_
        subst hf
        exact r_zret C (b_xw_has) dX11_canPlan_42
      · rw [if_neg cs2] at hf
        by_cases cs3 : ww a1 = 3
        · rw [if_pos cs3] at hf
          refine r_tsIn (tgt := 43) C 3 cs3 dX11_canPlan_1 (by decide) (by decide) rfl (by decide) ?_
          refine r_iload_n (pc' := 44) (f4 := 2) (i := 2) C 2 rfl rfl dX11_canPlan_43 rfl ?_
          refine r_if_lt (pc' := 47) (tgt := 84) C rfl hf dX11_canPlan_44 (by decide) rfl (fun hf => ?_) (fun hf => ?_)
          · refine r_iconst (pc' := 85) C dX11_canPlan_84 rfl ?_
            subst hf
            exact r_zret C (Or.inl rfl) dX11_canPlan_85
          · refine r_iload_n (pc' := 48) (f4 := 2) (i := 2) C 2 rfl rfl dX11_canPlan_47 rfl ?_
            refine r_bipush (pc' := 50) C rfl dX11_canPlan_48 rfl ?_
            refine r_idiv (pc' := 51) C ww_n10 (by decide) dX11_canPlan_50 rfl ?_
            refine q_callS (pc' := 54) C (t_x_isTree hF) rfl ws_RX11_118 ⟨Nat.le_of_ble_eq_true rfl, Nat.le_of_ble_eq_true rfl⟩ rfl rfl (Nat.le_of_ble_eq_true rfl) dX11_canPlan_51 rfl ⟨Nat.le_of_ble_eq_true rfl, Nat.le_of_ble_eq_true rfl⟩ ?_
            refine r_if_eq (pc' := 57) (tgt := 84) C rfl hf dX11_canPlan_54 (by decide) rfl (fun hf => ?_) (fun hf => ?_)
            · refine r_iconst (pc' := 85) C dX11_canPlan_84 rfl ?_
              subst hf
              exact r_zret C (Or.inl rfl) dX11_canPlan_85
            · refine r_iload_n (pc' := 58) (f4 := 2) (i := 2) C 2 rfl rfl dX11_canPlan_57 rfl ?_
              refine r_bipush (pc' := 60) C rfl dX11_canPlan_58 rfl ?_
              refine r_irem (pc' := 61) C ww_n10 (by decide) dX11_canPlan_60 rfl ?_
              refine r_bipush (pc' := 63) C rfl dX11_canPlan_61 rfl ?_
              refine r_icmp_eq (pc' := 66) (tgt := 80) C rfl ww_n9 hf dX11_canPlan_63 (by decide) rfl (fun hf => ?_) (fun hf => ?_)
              · refine r_iconst (pc' := 81) C dX11_canPlan_80 rfl ?_
                refine r_goto (tgt := 85) C dX11_canPlan_81 (by decide) ?_
                subst hf
                exact r_zret C (Or.inr rfl) dX11_canPlan_85
              · refine r_aload_n (pc' := 67) (f4 := 0) (i := 0) C 0 rfl rfl dX11_canPlan_66 rfl ?_
                refine q_getP (pc' := 70) (j := 0) C (K_0 hF) fb_11_0 (by decide) wd_311 (Or.inl rfl) (F_0_0 hF) (by decide) dX11_canPlan_67 rfl ?_
                refine r_iload_n (pc' := 71) (f4 := 2) (i := 2) C 2 rfl rfl dX11_canPlan_70 rfl ?_
                refine r_bipush (pc' := 73) C rfl dX11_canPlan_71 rfl ?_
                refine r_irem (pc' := 74) C ww_n10 (by decide) dX11_canPlan_73 rfl ?_
                refine q_callV (pc' := 77) C (t_xw_has hF lit_W_1) rfl (K_1 hF) cl_10 wv_RX11_87 ⟨Nat.le_of_ble_eq_true rfl, Nat.le_of_ble_eq_true rfl⟩ rfl rfl (Nat.le_of_ble_eq_true rfl) dX11_canPlan_74 rfl ⟨Nat.le_of_ble_eq_true rfl, Nat.le_of_ble_eq_true rfl⟩ ?_
                refine r_if_eq (pc' := 80) (tgt := 84) C rfl hf dX11_canPlan_77 (by decide) rfl (fun hf => ?_) (fun hf => ?_)
                · refine r_iconst (pc' := 85) C dX11_canPlan_84 rfl ?_
                  subst hf
                  exact r_zret C (Or.inl rfl) dX11_canPlan_85
                · refine r_iconst (pc' := 81) C dX11_canPlan_80 rfl ?_
                  refine r_goto (tgt := 85) C dX11_canPlan_81 (by decide) ?_
                  subst hf
                  exact r_zret C (Or.inr rfl) dX11_canPlan_85
        · rw [if_neg cs3] at hf
          refine r_tsOut (tgt := 86) C dX11_canPlan_1 (by omega) (by decide) ?_
          refine r_iconst (pc' := 87) C dX11_canPlan_86 rfl ?_
          subst hf
          exact r_zret C (Or.inl rfl) dX11_canPlan_87

/- WassailEnemies.plan(II)I -/
def x_plan (h : HH) (a1 : Int) (a2 : Int) : Option (Int × HH) :=
  if ww a1 = -1 then (some (0, u2 h 27 1 0)) else (if ww (x_canPlan h a1 a2) = 0 then (some (-1, h)) else ((xr_append h 27 a1 a2 0 0).bind fun q1 => some (q1.1, q1.2)))
abbrev rm_x_plan : Room := { frames := 2, cells := 0, slots := 0, locals := 43 }
set_option maxHeartbeats 4000000 in
set_option maxRecDepth 100000 in
theorem t_x_plan {S : SS} (hF : Fx S) {h : HH} {a1 : Int} {a2 : Int} {res : Int × HH} (hf : x_plan h a1 a2 = some res) : CM yX11_plan cX11_plan 3 (some Jvm.ClassFile.FieldType.int) 2 43 0 0 (fun bs => [zP bs 0, zI a1, zI a2]) h S (fun _ => some (zI res.1)) res.2 S := by
  refine CM.intro (own := RX11) (by decide) rfl (fun _ => Nat.le_of_ble_eq_true rfl) ?_
  intro D dT bs p l e s m args below meth c C
  show V D dT bs 3 p l e rm_x_plan s m args below meth c 0 0 _ h S 0 [(0, zP bs 0), (1, zI a1), (2, zI a2)] []
  unfold x_plan at hf
  refine r_iload_n (pc' := 1) (f4 := 1) (i := 1) C 1 rfl rfl dX11_plan_0 rfl ?_
  refine r_iconst (pc' := 2) C dX11_plan_1 rfl ?_
  refine r_icmp_ne (pc' := 5) (tgt := 18) C rfl ww_m1 hf dX11_plan_2 (by decide) rfl (fun hf => ?_) (fun hf => ?_)
  · refine r_aload_n (pc' := 6) (f4 := 0) (i := 0) C 0 rfl rfl dX11_plan_5 rfl ?_
    refine q_getP (pc' := 9) (j := 0) C (K_0 hF) fb_11_0 (by decide) wd_311 (Or.inl rfl) (F_0_0 hF) (by decide) dX11_plan_6 rfl ?_
    refine q_getP (pc' := 12) (j := 9) C (K_1 hF) fb_10_9 (by decide) wd_198 (Or.inl rfl) (F_1_9 hF) (by decide) dX11_plan_9 rfl ?_
    refine r_iconst (pc' := 13) C dX11_plan_12 rfl ?_
    refine q_putI (pc' := 16) (j := 1) C (K_27 hF) fb_7_1 fp_7_1 wd_152 (Or.inl rfl) (Or.inl rfl) rfl rfl dX11_plan_13 rfl ?_
    refine r_iconst (pc' := 17) C dX11_plan_16 rfl ?_
    cases hf
    exact r_iret C dX11_plan_17
  · refine r_aload_n (pc' := 19) (f4 := 0) (i := 0) C 0 rfl rfl dX11_plan_18 rfl ?_
    refine r_iload_n (pc' := 20) (f4 := 1) (i := 1) C 1 rfl rfl dX11_plan_19 rfl ?_
    refine r_iload_n (pc' := 21) (f4 := 2) (i := 2) C 2 rfl rfl dX11_plan_20 rfl ?_
    refine q_callV (pc' := 24) C (t_x_canPlan hF) rfl (K_0 hF) cl_11 wv_RX11_268 ⟨Nat.le_of_ble_eq_true rfl, Nat.le_of_ble_eq_true rfl⟩ rfl rfl (Nat.le_of_ble_eq_true rfl) dX11_plan_21 rfl ⟨Nat.le_of_ble_eq_true rfl, Nat.le_of_ble_eq_true rfl⟩ ?_
    refine r_if_ne (pc' := 27) (tgt := 29) C rfl hf dX11_plan_24 (by decide) rfl (fun hf => ?_) (fun hf => ?_)
    · refine r_iconst (pc' := 28) C dX11_plan_27 rfl ?_
      cases hf
      exact r_iret C dX11_plan_28
    · refine r_aload_n (pc' := 30) (f4 := 0) (i := 0) C 0 rfl rfl dX11_plan_29 rfl ?_
      refine q_getP (pc' := 33) (j := 0) C (K_0 hF) fb_11_0 (by decide) wd_311 (Or.inl rfl) (F_0_0 hF) (by decide) dX11_plan_30 rfl ?_
      refine q_getP (pc' := 36) (j := 9) C (K_1 hF) fb_10_9 (by decide) wd_198 (Or.inl rfl) (F_1_9 hF) (by decide) dX11_plan_33 rfl ?_
      refine r_iload_n (pc' := 37) (f4 := 1) (i := 1) C 1 rfl rfl dX11_plan_36 rfl ?_
      refine r_iload_n (pc' := 38) (f4 := 2) (i := 2) C 2 rfl rfl dX11_plan_37 rfl ?_
      refine r_iconst (pc' := 39) C dX11_plan_38 rfl ?_
      refine r_iconst (pc' := 40) C dX11_plan_39 rfl ?_
      obtain ⟨q1, hq1, hf⟩ := bind_in hf
      refine q_callV (pc' := 43) C (t_xr_append hF lit_R_27 hq1) rfl (K_27 hF) cl_7 wv_RX11_249 ⟨Nat.le_of_ble_eq_true rfl, Nat.le_of_ble_eq_true rfl⟩ rfl rfl (Nat.le_of_ble_eq_true rfl) dX11_plan_40 rfl ⟨Nat.le_of_ble_eq_true rfl, Nat.le_of_ble_eq_true rfl⟩ ?_
      cases hf
      exact r_iret C dX11_plan_43

/- WassailEnemies.ends(I)I -/
def x_ends_L24 (S : SS) (x1 : Int) : Nat → HH → Int → Option (Int × HH)
  | 0, _, _ => none
  | n24 + 1, h, x2 =>
    if ww x2 < ww (h 27 1) then (ck (ww x2) 10 <| (xw_goPlanned S h 99 (h (29 + (ww x2)) 0) (h (29 + (ww x2)) 1)).bind fun q3 => x_ends_L24 S x1 n24 q3 (x2 + 1)) else (if ww x1 = 0 then ((xw_allBore h 99).bind fun q4 => some (q4, h)) else ((xw_allHate h 99).bind fun q5 => some (q5, h)))
def x_ends (S : SS) (h : HH) (a1 : Int) : Option (Int × HH) :=
  if ww a1 = 0 then ((xw_goFrom S h 99 1).bind fun q1 => x_ends_L24 S a1 FU q1 0) else (if ww a1 = 1 then ((xw_goFrom S h 99 1).bind fun q6 => x_ends_L24 S a1 FU q6 0) else (some (-1, h)))
abbrev rm_x_ends : Room := { frames := 9, cells := 0, slots := 0, locals := 201 }
set_option maxHeartbeats 4000000 in
set_option maxRecDepth 100000 in
theorem w_x_ends_L24 (hF : Fx S) (C : Cx D dT bs RX11 cX11_ends 4 (some Jvm.ClassFile.FieldType.int) p s m args meth c) (x1 : Int) {res : (Int × HH)} :
    ∀ (n : Nat) (h : HH) (x2 : Int), x_ends_L24 S x1 n h x2 = some res → V D dT bs 4 p l e rm_x_ends s m args below meth c 0 0 (MQ below (QQ D dT bs (some (zI res.1)) res.2 S) args s 0 0 (AA bs)) h S 24 [(0, zP bs 0), (1, zI x1), (2, zI x2)] [] := by
  intro n
  induction n with
  | zero => intro h x2 hf; simp [x_ends_L24] at hf
  | succ n24 ih24 =>
    intro h x2 hf
    rw [x_ends_L24] at hf
    refine r_iload_n (pc' := 25) (f4 := 2) (i := 2) C 2 rfl rfl dX11_ends_24 rfl ?_
    refine r_aload_n (pc' := 26) (f4 := 0) (i := 0) C 0 rfl rfl dX11_ends_25 rfl ?_
    refine q_getP (pc' := 29) (j := 0) C (K_0 hF) fb_11_0 (by decide) wd_311 (Or.inl rfl) (F_0_0 hF) (by decide) dX11_ends_26 rfl ?_
    refine q_getP (pc' := 32) (j := 9) C (K_1 hF) fb_10_9 (by decide) wd_198 (Or.inl rfl) (F_1_9 hF) (by decide) dX11_ends_29 rfl ?_
    refine q_getI (pc' := 35) (j := 1) C (K_27 hF) fb_7_1 wd_152 (Or.inl rfl) dX11_ends_32 rfl ?_
    refine r_icmp_ge (pc' := 38) (tgt := 70) C rfl rfl hf dX11_ends_35 (by decide) rfl (fun hf => ?_) (fun hf => ?_)
    · refine r_aload_n (pc' := 39) (f4 := 0) (i := 0) C 0 rfl rfl dX11_ends_38 rfl ?_
      refine q_getP (pc' := 42) (j := 0) C (K_0 hF) fb_11_0 (by decide) wd_311 (Or.inl rfl) (F_0_0 hF) (by decide) dX11_ends_39 rfl ?_
      refine q_getP (pc' := 45) (j := 9) C (K_1 hF) fb_10_9 (by decide) wd_198 (Or.inl rfl) (F_1_9 hF) (by decide) dX11_ends_42 rfl ?_
      refine q_getP (pc' := 48) (j := 0) C (K_27 hF) fb_7_0 (by decide) wd_150 (Or.inl rfl) (F_27_0 hF) (by decide) dX11_ends_45 rfl ?_
      refine r_iload_n (pc' := 49) (f4 := 2) (i := 2) C 2 rfl rfl dX11_ends_48 rfl ?_
      obtain ⟨hi2, hf⟩ := ck_in hf
      refine r_aaldP (pc' := 50) (t := 3) C (K_28 hF) (by decide) (by decide) (by decide) (by decide) rfl rfl hi2 (FL28 hF hi2) (Int.add_nonneg (by decide) (hi2).1) dX11_ends_49 rfl ?_
      refine r_astore_n (pc' := 51) (f4 := 3) (i := 3) (L' := [(3, zP bs (29 + (ww x2))), (0, zP bs 0), (1, zI x1), (2, zI x2)]) C rfl (by decide) rfl dX11_ends_50 rfl ?_
      refine r_aload_n (pc' := 52) (f4 := 0) (i := 0) C 1 rfl rfl dX11_ends_51 rfl ?_
      refine q_getP (pc' := 55) (j := 2) C (K_0 hF) fb_11_2 (by decide) wd_313 (Or.inl rfl) (F_0_2 hF) (by decide) dX11_ends_52 rfl ?_
      refine r_aload_n (pc' := 56) (f4 := 3) (i := 3) C 0 rfl rfl dX11_ends_55 rfl ?_
      refine r_iconst (pc' := 57) C dX11_ends_56 rfl ?_
      refine r_iald (pc' := 58) C (KL28 hF hi2) ww_n0 (by decide) dX11_ends_57 rfl ?_
      refine r_aload_n (pc' := 59) (f4 := 3) (i := 3) C 0 rfl rfl dX11_ends_58 rfl ?_
      refine r_iconst (pc' := 60) C dX11_ends_59 rfl ?_
      refine r_iald (pc' := 61) C (KL28 hF hi2) ww_n1 (by decide) dX11_ends_60 rfl ?_
      obtain ⟨q3, hq3, hf⟩ := bind_in hf
      refine q_callVv (pc' := 64) C (t_xw_goPlanned hF lit_W_99 hq3) rfl (K_99 hF) cl_10 wv_RX11_271 ⟨Nat.le_of_ble_eq_true rfl, Nat.le_of_ble_eq_true rfl⟩ rfl rfl (Nat.le_of_ble_eq_true rfl) dX11_ends_61 rfl ⟨Nat.le_of_ble_eq_true rfl, Nat.le_of_ble_eq_true rfl⟩ ?_
      refine r_iinc (pc' := 67) (i := 2) (L' := [(2, zI (x2 + 1)), (3, zP bs (29 + (ww x2))), (0, zP bs 0), (1, zI x1)]) C 3 rfl (by decide) rfl dX11_ends_64 rfl ?_
      refine r_goto (tgt := 24) C dX11_ends_67 (by decide) ?_
      refine V.sub (L' := [(0, zP bs 0), (1, zI x1), (2, zI (x2 + 1))]) [2, 3, 0] rfl ?_
      exact ih24 _ _ hf
    · refine r_iload_n (pc' := 71) (f4 := 1) (i := 1) C 1 rfl rfl dX11_ends_70 rfl ?_
      refine r_if_ne (pc' := 74) (tgt := 84) C rfl hf dX11_ends_71 (by decide) rfl (fun hf => ?_) (fun hf => ?_)
      · refine r_aload_n (pc' := 75) (f4 := 0) (i := 0) C 0 rfl rfl dX11_ends_74 rfl ?_
        refine q_getP (pc' := 78) (j := 2) C (K_0 hF) fb_11_2 (by decide) wd_313 (Or.inl rfl) (F_0_2 hF) (by decide) dX11_ends_75 rfl ?_
        obtain ⟨q4, hq4, hf⟩ := bind_in hf
        refine q_callV (pc' := 81) C (t_xw_allBore hF lit_W_99 hq4) rfl (K_99 hF) cl_10 wv_RX11_176 ⟨Nat.le_of_ble_eq_true rfl, Nat.le_of_ble_eq_true rfl⟩ rfl rfl (Nat.le_of_ble_eq_true rfl) dX11_ends_78 rfl ⟨Nat.le_of_ble_eq_true rfl, Nat.le_of_ble_eq_true rfl⟩ ?_
        refine r_goto (tgt := 91) C dX11_ends_81 (by decide) ?_
        cases hf
        exact r_iret C dX11_ends_91
      · refine r_aload_n (pc' := 85) (f4 := 0) (i := 0) C 0 rfl rfl dX11_ends_84 rfl ?_
        refine q_getP (pc' := 88) (j := 2) C (K_0 hF) fb_11_2 (by decide) wd_313 (Or.inl rfl) (F_0_2 hF) (by decide) dX11_ends_85 rfl ?_
        obtain ⟨q5, hq5, hf⟩ := bind_in hf
        refine q_callV (pc' := 91) C (t_xw_allHate hF lit_W_99 hq5) rfl (K_99 hF) cl_10 wv_RX11_274 ⟨Nat.le_of_ble_eq_true rfl, Nat.le_of_ble_eq_true rfl⟩ rfl rfl (Nat.le_of_ble_eq_true rfl) dX11_ends_88 rfl ⟨Nat.le_of_ble_eq_true rfl, Nat.le_of_ble_eq_true rfl⟩ ?_
        cases hf
        exact r_iret C dX11_ends_91
set_option maxHeartbeats 4000000 in
set_option maxRecDepth 100000 in
theorem t_x_ends {S : SS} (hF : Fx S) {h : HH} {a1 : Int} {res : Int × HH} (hf : x_ends S h a1 = some res) : CM yX11_ends cX11_ends 4 (some Jvm.ClassFile.FieldType.int) 9 201 0 0 (fun bs => [zP bs 0, zI a1]) h S (fun _ => some (zI res.1)) res.2 S := by
  refine CM.intro (own := RX11) (by decide) rfl (fun _ => Nat.le_of_ble_eq_true rfl) ?_
  intro D dT bs p l e s m args below meth c C
  show V D dT bs 4 p l e rm_x_ends s m args below meth c 0 0 _ h S 0 [(0, zP bs 0), (1, zI a1)] []
  unfold x_ends at hf
  refine r_iload_n (pc' := 1) (f4 := 1) (i := 1) C 1 rfl rfl dX11_ends_0 rfl ?_
  refine r_if_eq (pc' := 4) (tgt := 11) C rfl hf dX11_ends_1 (by decide) rfl (fun hf => ?_) (fun hf => ?_)
  · refine r_aload_n (pc' := 12) (f4 := 0) (i := 0) C 0 rfl rfl dX11_ends_11 rfl ?_
    refine q_getP (pc' := 15) (j := 2) C (K_0 hF) fb_11_2 (by decide) wd_313 (Or.inl rfl) (F_0_2 hF) (by decide) dX11_ends_12 rfl ?_
    refine r_aload_n (pc' := 16) (f4 := 0) (i := 0) C 0 rfl rfl dX11_ends_15 rfl ?_
    refine q_getP (pc' := 19) (j := 0) C (K_0 hF) fb_11_0 (by decide) wd_311 (Or.inl rfl) (F_0_0 hF) (by decide) dX11_ends_16 rfl ?_
    obtain ⟨q1, hq1, hf⟩ := bind_in hf
    refine q_callVv (pc' := 22) C (t_xw_goFrom hF lit_W_99 lit_W_1 hq1) rfl (K_99 hF) cl_10 wv_RX11_198 ⟨Nat.le_of_ble_eq_true rfl, Nat.le_of_ble_eq_true rfl⟩ rfl rfl (Nat.le_of_ble_eq_true rfl) dX11_ends_19 rfl ⟨Nat.le_of_ble_eq_true rfl, Nat.le_of_ble_eq_true rfl⟩ ?_
    refine r_iconst (pc' := 23) C dX11_ends_22 rfl ?_
    refine r_istore_n (pc' := 24) (f4 := 2) (i := 2) (L' := [(2, zI 0), (0, zP bs 0), (1, zI a1)]) C rfl (by decide) rfl dX11_ends_23 rfl ?_
    refine V.sub (L' := [(0, zP bs 0), (1, zI a1), (2, zI 0)]) [1, 2, 0] rfl ?_
    refine w_x_ends_L24 hF C _ _ _ _ hf
  · refine r_iload_n (pc' := 5) (f4 := 1) (i := 1) C 1 rfl rfl dX11_ends_4 rfl ?_
    refine r_iconst (pc' := 6) C dX11_ends_5 rfl ?_
    refine r_icmp_eq (pc' := 9) (tgt := 11) C rfl ww_n1 hf dX11_ends_6 (by decide) rfl (fun hf => ?_) (fun hf => ?_)
    · refine r_aload_n (pc' := 12) (f4 := 0) (i := 0) C 0 rfl rfl dX11_ends_11 rfl ?_
      refine q_getP (pc' := 15) (j := 2) C (K_0 hF) fb_11_2 (by decide) wd_313 (Or.inl rfl) (F_0_2 hF) (by decide) dX11_ends_12 rfl ?_
      refine r_aload_n (pc' := 16) (f4 := 0) (i := 0) C 0 rfl rfl dX11_ends_15 rfl ?_
      refine q_getP (pc' := 19) (j := 0) C (K_0 hF) fb_11_0 (by decide) wd_311 (Or.inl rfl) (F_0_0 hF) (by decide) dX11_ends_16 rfl ?_
      obtain ⟨q6, hq6, hf⟩ := bind_in hf
      refine q_callVv (pc' := 22) C (t_xw_goFrom hF lit_W_99 lit_W_1 hq6) rfl (K_99 hF) cl_10 wv_RX11_198 ⟨Nat.le_of_ble_eq_true rfl, Nat.le_of_ble_eq_true rfl⟩ rfl rfl (Nat.le_of_ble_eq_true rfl) dX11_ends_19 rfl ⟨Nat.le_of_ble_eq_true rfl, Nat.le_of_ble_eq_true rfl⟩ ?_
      refine r_iconst (pc' := 23) C dX11_ends_22 rfl ?_
      refine r_istore_n (pc' := 24) (f4 := 2) (i := 2) (L' := [(2, zI 0), (0, zP bs 0), (1, zI a1)]) C rfl (by decide) rfl dX11_ends_23 rfl ?_
      refine V.sub (L' := [(0, zP bs 0), (1, zI a1), (2, zI 0)]) [1, 2, 0] rfl ?_
      refine w_x_ends_L24 hF C _ _ _ _ hf
    · refine r_iconst (pc' := 10) C dX11_ends_9 rfl ?_
      cases hf
      exact r_iret C dX11_ends_10

/- WassailEnemies.book(II)I -/
def x_book (h : HH) (a1 : Int) (a2 : Int) : Option (Int × HH) :=
  if ww a1 = -1 then (some (0, u2 h 39 1 0)) else (if ww (x_isTree a1) = 0 then (some (-1, h)) else (if ww a2 < 0 then (some (-2, h)) else (if 9999 < ww a2 then (some (-2, h)) else ((xr_append h 39 a1 a2 0 0).bind fun q1 => some (q1.1, q1.2)))))
abbrev rm_x_book : Room := { frames := 1, cells := 0, slots := 0, locals := 25 }
set_option maxHeartbeats 4000000 in
set_option maxRecDepth 100000 in
theorem t_x_book {S : SS} (hF : Fx S) {h : HH} {a1 : Int} {a2 : Int} {res : Int × HH} (hf : x_book h a1 a2 = some res) : CM yX11_book cX11_book 3 (some Jvm.ClassFile.FieldType.int) 1 25 0 0 (fun bs => [zP bs 0, zI a1, zI a2]) h S (fun _ => some (zI res.1)) res.2 S := by
  refine CM.intro (own := RX11) (by decide) rfl (fun _ => Nat.le_of_ble_eq_true rfl) ?_
  intro D dT bs p l e s m args below meth c C
  show V D dT bs 3 p l e rm_x_book s m args below meth c 0 0 _ h S 0 [(0, zP bs 0), (1, zI a1), (2, zI a2)] []
  unfold x_book at hf
  refine r_iload_n (pc' := 1) (f4 := 1) (i := 1) C 1 rfl rfl dX11_book_0 rfl ?_
  refine r_iconst (pc' := 2) C dX11_book_1 rfl ?_
  refine r_icmp_ne (pc' := 5) (tgt := 18) C rfl ww_m1 hf dX11_book_2 (by decide) rfl (fun hf => ?_) (fun hf => ?_)
  · refine r_aload_n (pc' := 6) (f4 := 0) (i := 0) C 0 rfl rfl dX11_book_5 rfl ?_
    refine q_getP (pc' := 9) (j := 0) C (K_0 hF) fb_11_0 (by decide) wd_311 (Or.inl rfl) (F_0_0 hF) (by decide) dX11_book_6 rfl ?_
    refine q_getP (pc' := 12) (j := 10) C (K_1 hF) fb_10_10 (by decide) wd_200 (Or.inl rfl) (F_1_10 hF) (by decide) dX11_book_9 rfl ?_
    refine r_iconst (pc' := 13) C dX11_book_12 rfl ?_
    refine q_putI (pc' := 16) (j := 1) C (K_39 hF) fb_7_1 fp_7_1 wd_152 (Or.inl rfl) (Or.inl rfl) rfl rfl dX11_book_13 rfl ?_
    refine r_iconst (pc' := 17) C dX11_book_16 rfl ?_
    cases hf
    exact r_iret C dX11_book_17
  · refine r_iload_n (pc' := 19) (f4 := 1) (i := 1) C 1 rfl rfl dX11_book_18 rfl ?_
    refine q_callS (pc' := 22) C (t_x_isTree hF) rfl ws_RX11_118 ⟨Nat.le_of_ble_eq_true rfl, Nat.le_of_ble_eq_true rfl⟩ rfl rfl (Nat.le_of_ble_eq_true rfl) dX11_book_19 rfl ⟨Nat.le_of_ble_eq_true rfl, Nat.le_of_ble_eq_true rfl⟩ ?_
    refine r_if_ne (pc' := 25) (tgt := 27) C rfl hf dX11_book_22 (by decide) rfl (fun hf => ?_) (fun hf => ?_)
    · refine r_iconst (pc' := 26) C dX11_book_25 rfl ?_
      cases hf
      exact r_iret C dX11_book_26
    · refine r_iload_n (pc' := 28) (f4 := 2) (i := 2) C 2 rfl rfl dX11_book_27 rfl ?_
      refine r_if_lt (pc' := 31) (tgt := 38) C rfl hf dX11_book_28 (by decide) rfl (fun hf => ?_) (fun hf => ?_)
      · refine r_bipush (pc' := 40) C rfl dX11_book_38 rfl ?_
        cases hf
        exact r_iret C dX11_book_40
      · refine r_iload_n (pc' := 32) (f4 := 2) (i := 2) C 2 rfl rfl dX11_book_31 rfl ?_
        refine r_sipush (pc' := 35) C rfl dX11_book_32 rfl ?_
        refine r_icmp_le (pc' := 38) (tgt := 41) C rfl ww_n9999 hf dX11_book_35 (by decide) rfl (fun hf => ?_) (fun hf => ?_)
        · refine r_bipush (pc' := 40) C rfl dX11_book_38 rfl ?_
          cases hf
          exact r_iret C dX11_book_40
        · refine r_aload_n (pc' := 42) (f4 := 0) (i := 0) C 0 rfl rfl dX11_book_41 rfl ?_
          refine q_getP (pc' := 45) (j := 0) C (K_0 hF) fb_11_0 (by decide) wd_311 (Or.inl rfl) (F_0_0 hF) (by decide) dX11_book_42 rfl ?_
          refine q_getP (pc' := 48) (j := 10) C (K_1 hF) fb_10_10 (by decide) wd_200 (Or.inl rfl) (F_1_10 hF) (by decide) dX11_book_45 rfl ?_
          refine r_iload_n (pc' := 49) (f4 := 1) (i := 1) C 1 rfl rfl dX11_book_48 rfl ?_
          refine r_iload_n (pc' := 50) (f4 := 2) (i := 2) C 2 rfl rfl dX11_book_49 rfl ?_
          refine r_iconst (pc' := 51) C dX11_book_50 rfl ?_
          refine r_iconst (pc' := 52) C dX11_book_51 rfl ?_
          obtain ⟨q1, hq1, hf⟩ := bind_in hf
          refine q_callV (pc' := 55) C (t_xr_append hF lit_R_39 hq1) rfl (K_39 hF) cl_7 wv_RX11_249 ⟨Nat.le_of_ble_eq_true rfl, Nat.le_of_ble_eq_true rfl⟩ rfl rfl (Nat.le_of_ble_eq_true rfl) dX11_book_52 rfl ⟨Nat.le_of_ble_eq_true rfl, Nat.le_of_ble_eq_true rfl⟩ ?_
          cases hf
          exact r_iret C dX11_book_55

/- WassailEnemies.looked()I -/
def x_looked_L2 (h : HH) : Nat → Int → Option Int
  | 0, _ => none
  | n2 + 1, x1 =>
    if ww x1 < ww (h 39 1) then (ck (ww x1) 8 <| ck (ww (h (41 + (ww x1)) 0)) 5 <| if ww (h 18 (ww (h (41 + (ww x1)) 0))) = ww (h (41 + (ww x1)) 1) then (x_looked_L2 h n2 (x1 + 1)) else (some x1)) else (some (-5))
def x_looked (h : HH) : Option Int :=
  x_looked_L2 h FU 0
abbrev rm_x_looked : Room := { frames := 0, cells := 0, slots := 0, locals := 0 }
set_option maxHeartbeats 4000000 in
set_option maxRecDepth 100000 in
theorem w_x_looked_L2 (hF : Fx S) (C : Cx D dT bs RX11 cX11_looked 3 (some Jvm.ClassFile.FieldType.int) p s m args meth c) {h : HH} {res : Int} :
    ∀ (n : Nat) (x1 : Int), x_looked_L2 h n x1 = some res → V D dT bs 3 p l e rm_x_looked s m args below meth c 0 0 (MQ below (QQ D dT bs (some (zI res)) h S) args s 0 0 (AA bs)) h S 2 [(0, zP bs 0), (1, zI x1)] [] := by
  intro n
  induction n with
  | zero => intro x1 hf; simp [x_looked_L2] at hf
  | succ n2 ih2 =>
    intro x1 hf
    rw [x_looked_L2] at hf
    refine r_iload_n (pc' := 3) (f4 := 1) (i := 1) C 1 rfl rfl dX11_looked_2 rfl ?_
    refine r_aload_n (pc' := 4) (f4 := 0) (i := 0) C 0 rfl rfl dX11_looked_3 rfl ?_
    refine q_getP (pc' := 7) (j := 0) C (K_0 hF) fb_11_0 (by decide) wd_311 (Or.inl rfl) (F_0_0 hF) (by decide) dX11_looked_4 rfl ?_
    refine q_getP (pc' := 10) (j := 10) C (K_1 hF) fb_10_10 (by decide) wd_200 (Or.inl rfl) (F_1_10 hF) (by decide) dX11_looked_7 rfl ?_
    refine q_getI (pc' := 13) (j := 1) C (K_39 hF) fb_7_1 wd_152 (Or.inl rfl) dX11_looked_10 rfl ?_
    refine r_icmp_ge (pc' := 16) (tgt := 54) C rfl rfl hf dX11_looked_13 (by decide) rfl (fun hf => ?_) (fun hf => ?_)
    · refine r_aload_n (pc' := 17) (f4 := 0) (i := 0) C 0 rfl rfl dX11_looked_16 rfl ?_
      refine q_getP (pc' := 20) (j := 0) C (K_0 hF) fb_11_0 (by decide) wd_311 (Or.inl rfl) (F_0_0 hF) (by decide) dX11_looked_17 rfl ?_
      refine q_getP (pc' := 23) (j := 10) C (K_1 hF) fb_10_10 (by decide) wd_200 (Or.inl rfl) (F_1_10 hF) (by decide) dX11_looked_20 rfl ?_
      refine q_getP (pc' := 26) (j := 0) C (K_39 hF) fb_7_0 (by decide) wd_150 (Or.inl rfl) (F_39_0 hF) (by decide) dX11_looked_23 rfl ?_
      refine r_iload_n (pc' := 27) (f4 := 1) (i := 1) C 1 rfl rfl dX11_looked_26 rfl ?_
      obtain ⟨hi1, hf⟩ := ck_in hf
      refine r_aaldP (pc' := 28) (t := 3) C (K_40 hF) (by decide) (by decide) (by decide) (by decide) rfl rfl hi1 (FL40 hF hi1) (Int.add_nonneg (by decide) (hi1).1) dX11_looked_27 rfl ?_
      refine r_astore_n (pc' := 29) (f4 := 2) (i := 2) (L' := [(2, zP bs (41 + (ww x1))), (0, zP bs 0), (1, zI x1)]) C rfl (by decide) rfl dX11_looked_28 rfl ?_
      refine r_aload_n (pc' := 30) (f4 := 0) (i := 0) C 1 rfl rfl dX11_looked_29 rfl ?_
      refine q_getP (pc' := 33) (j := 0) C (K_0 hF) fb_11_0 (by decide) wd_311 (Or.inl rfl) (F_0_0 hF) (by decide) dX11_looked_30 rfl ?_
      refine q_getP (pc' := 36) (j := 5) C (K_1 hF) fb_10_5 (by decide) wd_187 (Or.inl rfl) (F_1_5 hF) (by decide) dX11_looked_33 rfl ?_
      refine r_aload_n (pc' := 37) (f4 := 2) (i := 2) C 0 rfl rfl dX11_looked_36 rfl ?_
      refine r_iconst (pc' := 38) C dX11_looked_37 rfl ?_
      refine r_iald (pc' := 39) C (KL40 hF hi1) ww_n0 (by decide) dX11_looked_38 rfl ?_
      obtain ⟨hi, hf⟩ := ck_in hf
      refine r_iald (pc' := 40) C (K_18 hF) rfl hi dX11_looked_39 rfl ?_
      refine r_aload_n (pc' := 41) (f4 := 2) (i := 2) C 0 rfl rfl dX11_looked_40 rfl ?_
      refine r_iconst (pc' := 42) C dX11_looked_41 rfl ?_
      refine r_iald (pc' := 43) C (KL40 hF hi1) ww_n1 (by decide) dX11_looked_42 rfl ?_
      refine r_icmp_eq (pc' := 46) (tgt := 48) C rfl rfl hf dX11_looked_43 (by decide) rfl (fun hf => ?_) (fun hf => ?_)
      · refine r_iinc (pc' := 51) (i := 1) (L' := [(1, zI (x1 + 1)), (2, zP bs (41 + (ww x1))), (0, zP bs 0)]) C 2 rfl (by decide) rfl dX11_looked_48 rfl ?_
        refine r_goto (tgt := 2) C dX11_looked_51 (by decide) ?_
        refine V.sub (L' := [(0, zP bs 0), (1, zI (x1 + 1))]) [2, 0] rfl ?_
        exact ih2 _ hf
      · refine r_iload_n (pc' := 47) (f4 := 1) (i := 1) C 2 rfl rfl dX11_looked_46 rfl ?_
        cases hf
        exact r_iret C dX11_looked_47
    · refine r_bipush (pc' := 56) C rfl dX11_looked_54 rfl ?_
      cases hf
      exact r_iret C dX11_looked_56
set_option maxHeartbeats 4000000 in
set_option maxRecDepth 100000 in
theorem t_x_looked {S : SS} (hF : Fx S) {h : HH} {res : Int} (hf : x_looked h = some res) : CM yX11_looked cX11_looked 3 (some Jvm.ClassFile.FieldType.int) 0 0 0 0 (fun bs => [zP bs 0]) h S (fun _ => some (zI res)) h S := by
  refine CM.intro (own := RX11) (by decide) rfl (fun _ => Nat.le_of_ble_eq_true rfl) ?_
  intro D dT bs p l e s m args below meth c C
  show V D dT bs 3 p l e rm_x_looked s m args below meth c 0 0 _ h S 0 [(0, zP bs 0)] []
  unfold x_looked at hf
  refine r_iconst (pc' := 1) C dX11_looked_0 rfl ?_
  refine r_istore_n (pc' := 2) (f4 := 1) (i := 1) (L' := [(1, zI 0), (0, zP bs 0)]) C rfl (by decide) rfl dX11_looked_1 rfl ?_
  refine V.sub (L' := [(0, zP bs 0), (1, zI 0)]) [1, 0] rfl ?_
  refine w_x_looked_L2 hF C _ _ hf

/- WassailEnemies.isTape(I)Z -/
def x_isTape (a0 : Int) : Int :=
  if ww a0 < 0 then (0) else (if ww a0 < 6 then (1) else (0))
theorem b_x_isTape {a0 : Int} : x_isTape a0 = 0 ∨ x_isTape a0 = 1 := by
  unfold x_isTape
  repeat' split
  all_goals first | exact Or.inl rfl | exact Or.inr rfl

abbrev rm_x_isTape : Room := { frames := 0, cells := 0, slots := 0, locals := 0 }
set_option maxHeartbeats 4000000 in
set_option maxRecDepth 100000 in
theorem t_x_isTape {S : SS} (hF : Fx S) {h : HH} {a0 : Int} : CM yX11_isTape cX11_isTape 1 (some Jvm.ClassFile.FieldType.boolean) 0 0 0 0 (fun _ => [zI a0]) h S (fun _ => some (zI (x_isTape a0))) h S := by
  refine CM.intro (own := RX11) (by decide) rfl (fun _ => Nat.le_of_ble_eq_true rfl) ?_
  intro D dT bs p l e s m args below meth c C
  show V D dT bs 1 p l e rm_x_isTape s m args below meth c 0 0 _ h S 0 [(0, zI a0)] []
  obtain ⟨res, hf⟩ : ∃ r, x_isTape a0 = r := ⟨_, rfl⟩
  rw [hf]
  unfold x_isTape at hf
  refine r_iload_n (pc' := 1) (f4 := 0) (i := 0) C 0 rfl rfl dX11_isTape_0 rfl ?_
  refine r_if_lt (pc' := 4) (tgt := 14) C rfl hf dX11_isTape_1 (by decide) rfl (fun hf => ?_) (fun hf => ?_)
  · refine r_iconst (pc' := 15) C dX11_isTape_14 rfl ?_
    subst hf
    exact r_zret C (Or.inl rfl) dX11_isTape_15
  · refine r_iload_n (pc' := 5) (f4 := 0) (i := 0) C 0 rfl rfl dX11_isTape_4 rfl ?_
    refine r_bipush (pc' := 7) C rfl dX11_isTape_5 rfl ?_
    refine r_icmp_ge (pc' := 10) (tgt := 14) C rfl ww_n6 hf dX11_isTape_7 (by decide) rfl (fun hf => ?_) (fun hf => ?_)
    · refine r_iconst (pc' := 11) C dX11_isTape_10 rfl ?_
      refine r_goto (tgt := 15) C dX11_isTape_11 (by decide) ?_
      subst hf
      exact r_zret C (Or.inr rfl) dX11_isTape_15
    · refine r_iconst (pc' := 15) C dX11_isTape_14 rfl ?_
      subst hf
      exact r_zret C (Or.inl rfl) dX11_isTape_15

/- WassailEnemies.hasItem(II)Z -/
def x_hasItem (h : HH) (a1 : Int) (a2 : Int) : Option Int :=
  if ww a2 < 0 then (some 0) else (ck (ww a1) 6 <| if ww a2 < ww (h 167 (ww a1)) then (some 1) else (some 0))
abbrev rm_x_hasItem : Room := { frames := 0, cells := 0, slots := 0, locals := 0 }
set_option maxHeartbeats 4000000 in
set_option maxRecDepth 100000 in
theorem t_x_hasItem {S : SS} (hF : Fx S) {h : HH} {a1 : Int} {a2 : Int} {res : Int} (hf : x_hasItem h a1 a2 = some res) : CM yX11_hasItem cX11_hasItem 3 (some Jvm.ClassFile.FieldType.boolean) 0 0 0 0 (fun bs => [zP bs 0, zI a1, zI a2]) h S (fun _ => some (zI res)) h S := by
  refine CM.intro (own := RX11) (by decide) rfl (fun _ => Nat.le_of_ble_eq_true rfl) ?_
  intro D dT bs p l e s m args below meth c C
  show V D dT bs 3 p l e rm_x_hasItem s m args below meth c 0 0 _ h S 0 [(0, zP bs 0), (1, zI a1), (2, zI a2)] []
  unfold x_hasItem at hf
  refine r_iload_n (pc' := 1) (f4 := 2) (i := 2) C 2 rfl rfl dX11_hasItem_0 rfl ?_
  refine r_if_lt (pc' := 4) (tgt := 18) C rfl hf dX11_hasItem_1 (by decide) rfl (fun hf => ?_) (fun hf => ?_)
  · refine r_iconst (pc' := 19) C dX11_hasItem_18 rfl ?_
    cases hf
    exact r_zret C (Or.inl rfl) dX11_hasItem_19
  · refine r_iload_n (pc' := 5) (f4 := 2) (i := 2) C 2 rfl rfl dX11_hasItem_4 rfl ?_
    refine r_aload_n (pc' := 6) (f4 := 0) (i := 0) C 0 rfl rfl dX11_hasItem_5 rfl ?_
    refine q_getP (pc' := 9) (j := 11) C (K_0 hF) fb_11_11 (by decide) wd_322 (Or.inl rfl) (F_0_11 hF) (by decide) dX11_hasItem_6 rfl ?_
    refine r_iload_n (pc' := 10) (f4 := 1) (i := 1) C 1 rfl rfl dX11_hasItem_9 rfl ?_
    obtain ⟨hi, hf⟩ := ck_in hf
    refine r_iald (pc' := 11) C (K_167 hF) rfl hi dX11_hasItem_10 rfl ?_
    refine r_icmp_ge (pc' := 14) (tgt := 18) C rfl rfl hf dX11_hasItem_11 (by decide) rfl (fun hf => ?_) (fun hf => ?_)
    · refine r_iconst (pc' := 15) C dX11_hasItem_14 rfl ?_
      refine r_goto (tgt := 19) C dX11_hasItem_15 (by decide) ?_
      cases hf
      exact r_zret C (Or.inr rfl) dX11_hasItem_19
    · refine r_iconst (pc' := 19) C dX11_hasItem_18 rfl ?_
      cases hf
      exact r_zret C (Or.inl rfl) dX11_hasItem_19

/- WassailEnemies.judge(II)I -/
def x_judge_L35 (h : HH) (x1 : Int) (x2 : Int) : Nat → Int → Option Int
  | 0, _ => none
  | n35 + 1, x3 =>
    if ww x3 < 5 then ((x_hasItem h x1 (x2 + x3)).bind fun q1 => if ww q1 = 0 then (some (100 + x3)) else (ck (ww x1) 6 <| ck (ww (x2 + x3)) 60 <| ck (ww x3) 5 <| if ww (zlcmp (h (169 + (ww x1)) (ww (x2 + x3))) (zi2l (h 18 (ww x3)))) = 0 then (x_judge_L35 h x1 x2 n35 (x3 + 1)) else (some x3))) else (some (-5))
def x_judge (h : HH) (a1 : Int) (a2 : Int) : Option Int :=
  if ww (x_isTape a1) = 0 then (some (-1)) else (ck (ww a1) 6 <| if ww (h 166 (ww a1)) = -5 then (x_judge_L35 h a1 a2 FU 0) else (ck (ww a1) 6 <| if ww (h 166 (ww a1)) = 3 then (x_judge_L35 h a1 a2 FU 0) else (some (-12))))
abbrev rm_x_judge : Room := { frames := 1, cells := 0, slots := 0, locals := 22 }
set_option maxHeartbeats 4000000 in
set_option maxRecDepth 100000 in
theorem w_x_judge_L35 (hF : Fx S) (C : Cx D dT bs RX11 cX11_judge 4 (some Jvm.ClassFile.FieldType.int) p s m args meth c) {h : HH} (x1 : Int) (x2 : Int) {res : Int} :
    ∀ (n : Nat) (x3 : Int), x_judge_L35 h x1 x2 n x3 = some res → V D dT bs 4 p l e rm_x_judge s m args below meth c 0 0 (MQ below (QQ D dT bs (some (zI res)) h S) args s 0 0 (AA bs)) h S 35 [(0, zP bs 0), (1, zI x1), (2, zI x2), (3, zI x3)] [] := by
  intro n
  induction n with
  | zero => intro x3 hf; simp [x_judge_L35] at hf
  | succ n35 ih35 =>
    intro x3 hf
    rw [x_judge_L35] at hf
    refine r_iload_n (pc' := 36) (f4 := 3) (i := 3) C 3 rfl rfl dX11_judge_35 rfl ?_
    refine r_iconst (pc' := 37) C dX11_judge_36 rfl ?_
    refine r_icmp_ge (pc' := 40) (tgt := 88) C rfl ww_n5 hf dX11_judge_37 (by decide) rfl (fun hf => ?_) (fun hf => ?_)
    · refine r_aload_n (pc' := 41) (f4 := 0) (i := 0) C 0 rfl rfl dX11_judge_40 rfl ?_
      refine r_iload_n (pc' := 42) (f4 := 1) (i := 1) C 1 rfl rfl dX11_judge_41 rfl ?_
      refine r_iload_n (pc' := 43) (f4 := 2) (i := 2) C 2 rfl rfl dX11_judge_42 rfl ?_
      refine r_iload_n (pc' := 44) (f4 := 3) (i := 3) C 3 rfl rfl dX11_judge_43 rfl ?_
      refine r_iadd (pc' := 45) C dX11_judge_44 rfl ?_
      obtain ⟨q1, hq1, hf⟩ := bind_in hf
      refine q_callV (pc' := 48) C (t_x_hasItem hF hq1) rfl (K_0 hF) cl_11 wv_RX11_283 ⟨Nat.le_of_ble_eq_true rfl, Nat.le_of_ble_eq_true rfl⟩ rfl rfl (Nat.le_of_ble_eq_true rfl) dX11_judge_45 rfl ⟨Nat.le_of_ble_eq_true rfl, Nat.le_of_ble_eq_true rfl⟩ ?_
      refine r_if_ne (pc' := 51) (tgt := 56) C rfl hf dX11_judge_48 (by decide) rfl (fun hf => ?_) (fun hf => ?_)
      · refine r_bipush (pc' := 53) C rfl dX11_judge_51 rfl ?_
        refine r_iload_n (pc' := 54) (f4 := 3) (i := 3) C 3 rfl rfl dX11_judge_53 rfl ?_
        refine r_iadd (pc' := 55) C dX11_judge_54 rfl ?_
        cases hf
        exact r_iret C dX11_judge_55
      · refine r_aload_n (pc' := 57) (f4 := 0) (i := 0) C 0 rfl rfl dX11_judge_56 rfl ?_
        refine q_getP (pc' := 60) (j := 12) C (K_0 hF) fb_11_12 (by decide) wd_323 (Or.inl rfl) (F_0_12 hF) (by decide) dX11_judge_57 rfl ?_
        refine r_iload_n (pc' := 61) (f4 := 1) (i := 1) C 1 rfl rfl dX11_judge_60 rfl ?_
        obtain ⟨hi2, hf⟩ := ck_in hf
        refine r_aaldP (pc' := 62) (t := 4) C (K_168 hF) (by decide) (by decide) (by decide) (by decide) rfl rfl hi2 (FL168 hF hi2) (Int.add_nonneg (by decide) (hi2).1) dX11_judge_61 rfl ?_
        refine r_iload_n (pc' := 63) (f4 := 2) (i := 2) C 2 rfl rfl dX11_judge_62 rfl ?_
        refine r_iload_n (pc' := 64) (f4 := 3) (i := 3) C 3 rfl rfl dX11_judge_63 rfl ?_
        refine r_iadd (pc' := 65) C dX11_judge_64 rfl ?_
        obtain ⟨hi, hf⟩ := ck_in hf
        refine r_lald (pc' := 66) C (KL168 hF hi2) rfl hi dX11_judge_65 rfl ?_
        refine r_aload_n (pc' := 67) (f4 := 0) (i := 0) C 0 rfl rfl dX11_judge_66 rfl ?_
        refine q_getP (pc' := 70) (j := 0) C (K_0 hF) fb_11_0 (by decide) wd_311 (Or.inl rfl) (F_0_0 hF) (by decide) dX11_judge_67 rfl ?_
        refine q_getP (pc' := 73) (j := 5) C (K_1 hF) fb_10_5 (by decide) wd_187 (Or.inl rfl) (F_1_5 hF) (by decide) dX11_judge_70 rfl ?_
        refine r_iload_n (pc' := 74) (f4 := 3) (i := 3) C 3 rfl rfl dX11_judge_73 rfl ?_
        obtain ⟨hi, hf⟩ := ck_in hf
        refine r_iald (pc' := 75) C (K_18 hF) rfl hi dX11_judge_74 rfl ?_
        refine r_i2l (pc' := 76) C dX11_judge_75 rfl ?_
        refine r_lcmp (pc' := 77) C dX11_judge_76 rfl ?_
        refine r_if_eq (pc' := 80) (tgt := 82) C rfl hf dX11_judge_77 (by decide) rfl (fun hf => ?_) (fun hf => ?_)
        · refine r_iinc (pc' := 85) (i := 3) (L' := [(3, zI (x3 + 1)), (0, zP bs 0), (1, zI x1), (2, zI x2)]) C 3 rfl (by decide) rfl dX11_judge_82 rfl ?_
          refine r_goto (tgt := 35) C dX11_judge_85 (by decide) ?_
          refine V.sub (L' := [(0, zP bs 0), (1, zI x1), (2, zI x2), (3, zI (x3 + 1))]) [1, 2, 3, 0] rfl ?_
          exact ih35 _ hf
        · refine r_iload_n (pc' := 81) (f4 := 3) (i := 3) C 3 rfl rfl dX11_judge_80 rfl ?_
          cases hf
          exact r_iret C dX11_judge_81
    · refine r_bipush (pc' := 90) C rfl dX11_judge_88 rfl ?_
      cases hf
      exact r_iret C dX11_judge_90
set_option maxHeartbeats 4000000 in
set_option maxRecDepth 100000 in
theorem t_x_judge {S : SS} (hF : Fx S) {h : HH} {a1 : Int} {a2 : Int} {res : Int} (hf : x_judge h a1 a2 = some res) : CM yX11_judge cX11_judge 4 (some Jvm.ClassFile.FieldType.int) 1 22 0 0 (fun bs => [zP bs 0, zI a1, zI a2]) h S (fun _ => some (zI res)) h S := by
  refine CM.intro (own := RX11) (by decide) rfl (fun _ => Nat.le_of_ble_eq_true rfl) ?_
  intro D dT bs p l e s m args below meth c C
  show V D dT bs 4 p l e rm_x_judge s m args below meth c 0 0 _ h S 0 [(0, zP bs 0), (1, zI a1), (2, zI a2)] []
  unfold x_judge at hf
  refine r_iload_n (pc' := 1) (f4 := 1) (i := 1) C 1 rfl rfl dX11_judge_0 rfl ?_
  refine q_callS (pc' := 4) C (t_x_isTape hF) rfl ws_RX11_280 ⟨Nat.le_of_ble_eq_true rfl, Nat.le_of_ble_eq_true rfl⟩ rfl rfl (Nat.le_of_ble_eq_true rfl) dX11_judge_1 rfl ⟨Nat.le_of_ble_eq_true rfl, Nat.le_of_ble_eq_true rfl⟩ ?_
  refine r_if_ne (pc' := 7) (tgt := 9) C rfl hf dX11_judge_4 (by decide) rfl (fun hf => ?_) (fun hf => ?_)
  · refine r_iconst (pc' := 8) C dX11_judge_7 rfl ?_
    cases hf
    exact r_iret C dX11_judge_8
  · refine r_aload_n (pc' := 10) (f4 := 0) (i := 0) C 0 rfl rfl dX11_judge_9 rfl ?_
    refine q_getP (pc' := 13) (j := 10) C (K_0 hF) fb_11_10 (by decide) wd_321 (Or.inl rfl) (F_0_10 hF) (by decide) dX11_judge_10 rfl ?_
    refine r_iload_n (pc' := 14) (f4 := 1) (i := 1) C 1 rfl rfl dX11_judge_13 rfl ?_
    obtain ⟨hi, hf⟩ := ck_in hf
    refine r_iald (pc' := 15) C (K_166 hF) rfl hi dX11_judge_14 rfl ?_
    refine r_bipush (pc' := 17) C rfl dX11_judge_15 rfl ?_
    refine r_icmp_eq (pc' := 20) (tgt := 33) C rfl ww_m5 hf dX11_judge_17 (by decide) rfl (fun hf => ?_) (fun hf => ?_)
    · refine r_iconst (pc' := 34) C dX11_judge_33 rfl ?_
      refine r_istore_n (pc' := 35) (f4 := 3) (i := 3) (L' := [(3, zI 0), (0, zP bs 0), (1, zI a1), (2, zI a2)]) C rfl (by decide) rfl dX11_judge_34 rfl ?_
      refine V.sub (L' := [(0, zP bs 0), (1, zI a1), (2, zI a2), (3, zI 0)]) [1, 2, 3, 0] rfl ?_
      refine w_x_judge_L35 hF C _ _ _ _ hf
    · refine r_aload_n (pc' := 21) (f4 := 0) (i := 0) C 0 rfl rfl dX11_judge_20 rfl ?_
      refine q_getP (pc' := 24) (j := 10) C (K_0 hF) fb_11_10 (by decide) wd_321 (Or.inl rfl) (F_0_10 hF) (by decide) dX11_judge_21 rfl ?_
      refine r_iload_n (pc' := 25) (f4 := 1) (i := 1) C 1 rfl rfl dX11_judge_24 rfl ?_
      obtain ⟨hi, hf⟩ := ck_in hf
      refine r_iald (pc' := 26) C (K_166 hF) rfl hi dX11_judge_25 rfl ?_
      refine r_iconst (pc' := 27) C dX11_judge_26 rfl ?_
      refine r_icmp_eq (pc' := 30) (tgt := 33) C rfl ww_n3 hf dX11_judge_27 (by decide) rfl (fun hf => ?_) (fun hf => ?_)
      · refine r_iconst (pc' := 34) C dX11_judge_33 rfl ?_
        refine r_istore_n (pc' := 35) (f4 := 3) (i := 3) (L' := [(3, zI 0), (0, zP bs 0), (1, zI a1), (2, zI a2)]) C rfl (by decide) rfl dX11_judge_34 rfl ?_
        refine V.sub (L' := [(0, zP bs 0), (1, zI a1), (2, zI a2), (3, zI 0)]) [1, 2, 3, 0] rfl ?_
        refine w_x_judge_L35 hF C _ _ _ _ hf
      · refine r_bipush (pc' := 32) C rfl dX11_judge_30 rfl ?_
        cases hf
        exact r_iret C dX11_judge_32

/- WassailEnemies.image()I -/
def x_image (S : SS) (h : HH) : Option (Int × HH) :=
  (xw_become S h 50 1).bind fun q1 => some ((u2 q1 0 3 1) 1 4, u2 q1 0 3 1)
abbrev rm_x_image : Room := { frames := 3, cells := 0, slots := 0, locals := 103 }
set_option maxHeartbeats 4000000 in
set_option maxRecDepth 100000 in
theorem t_x_image {S : SS} (hF : Fx S) {h : HH} {res : Int × HH} (hf : x_image S h = some res) : CM yX11_image cX11_image 1 (some Jvm.ClassFile.FieldType.int) 3 103 0 0 (fun bs => [zP bs 0]) h S (fun _ => some (zI res.1)) res.2 S := by
  refine CM.intro (own := RX11) (by decide) rfl (fun _ => Nat.le_of_ble_eq_true rfl) ?_
  intro D dT bs p l e s m args below meth c C
  show V D dT bs 1 p l e rm_x_image s m args below meth c 0 0 _ h S 0 [(0, zP bs 0)] []
  unfold x_image at hf
  refine r_aload_n (pc' := 1) (f4 := 0) (i := 0) C 0 rfl rfl dX11_image_0 rfl ?_
  refine q_getP (pc' := 4) (j := 1) C (K_0 hF) fb_11_1 (by decide) wd_312 (Or.inl rfl) (F_0_1 hF) (by decide) dX11_image_1 rfl ?_
  refine r_aload_n (pc' := 5) (f4 := 0) (i := 0) C 0 rfl rfl dX11_image_4 rfl ?_
  refine q_getP (pc' := 8) (j := 0) C (K_0 hF) fb_11_0 (by decide) wd_311 (Or.inl rfl) (F_0_0 hF) (by decide) dX11_image_5 rfl ?_
  obtain ⟨q1, hq1, hf⟩ := bind_in hf
  refine q_callVv (pc' := 11) C (t_xw_become hF lit_W_50 lit_W_1 hq1) rfl (K_50 hF) cl_10 wv_RX11_286 ⟨Nat.le_of_ble_eq_true rfl, Nat.le_of_ble_eq_true rfl⟩ rfl rfl (Nat.le_of_ble_eq_true rfl) dX11_image_8 rfl ⟨Nat.le_of_ble_eq_true rfl, Nat.le_of_ble_eq_true rfl⟩ ?_
  refine r_aload_n (pc' := 12) (f4 := 0) (i := 0) C 0 rfl rfl dX11_image_11 rfl ?_
  refine r_iconst (pc' := 13) C dX11_image_12 rfl ?_
  refine q_putI (pc' := 16) (j := 3) C (K_0 hF) fb_11_3 fp_11_3 wd_314 (Or.inl rfl) (Or.inl rfl) rfl rfl dX11_image_13 rfl ?_
  refine r_aload_n (pc' := 17) (f4 := 0) (i := 0) C 0 rfl rfl dX11_image_16 rfl ?_
  refine q_getP (pc' := 20) (j := 0) C (K_0 hF) fb_11_0 (by decide) wd_311 (Or.inl rfl) (F_0_0 hF) (by decide) dX11_image_17 rfl ?_
  refine q_getI (pc' := 23) (j := 4) C (K_1 hF) fb_10_4 wd_184 (Or.inl rfl) dX11_image_20 rfl ?_
  cases hf
  exact r_iret C dX11_image_23

/- WassailEnemies.undo()I -/
def x_undo (S : SS) (h : HH) : Option (Int × HH) :=
  if ww (h 0 3) = 0 then (some (-3, h)) else ((xw_become S h 1 50).bind fun q1 => some (q1 1 4, q1))
abbrev rm_x_undo : Room := { frames := 3, cells := 0, slots := 0, locals := 103 }
set_option maxHeartbeats 4000000 in
set_option maxRecDepth 100000 in
theorem t_x_undo {S : SS} (hF : Fx S) {h : HH} {res : Int × HH} (hf : x_undo S h = some res) : CM yX11_undo cX11_undo 1 (some Jvm.ClassFile.FieldType.int) 3 103 0 0 (fun bs => [zP bs 0]) h S (fun _ => some (zI res.1)) res.2 S := by
  refine CM.intro (own := RX11) (by decide) rfl (fun _ => Nat.le_of_ble_eq_true rfl) ?_
  intro D dT bs p l e s m args below meth c C
  show V D dT bs 1 p l e rm_x_undo s m args below meth c 0 0 _ h S 0 [(0, zP bs 0)] []
  unfold x_undo at hf
  refine r_aload_n (pc' := 1) (f4 := 0) (i := 0) C 0 rfl rfl dX11_undo_0 rfl ?_
  refine q_getI (pc' := 4) (j := 3) C (K_0 hF) fb_11_3 wd_314 (Or.inl rfl) dX11_undo_1 rfl ?_
  refine r_if_ne (pc' := 7) (tgt := 10) C rfl hf dX11_undo_4 (by decide) rfl (fun hf => ?_) (fun hf => ?_)
  · refine r_bipush (pc' := 9) C rfl dX11_undo_7 rfl ?_
    cases hf
    exact r_iret C dX11_undo_9
  · refine r_aload_n (pc' := 11) (f4 := 0) (i := 0) C 0 rfl rfl dX11_undo_10 rfl ?_
    refine q_getP (pc' := 14) (j := 0) C (K_0 hF) fb_11_0 (by decide) wd_311 (Or.inl rfl) (F_0_0 hF) (by decide) dX11_undo_11 rfl ?_
    refine r_aload_n (pc' := 15) (f4 := 0) (i := 0) C 0 rfl rfl dX11_undo_14 rfl ?_
    refine q_getP (pc' := 18) (j := 1) C (K_0 hF) fb_11_1 (by decide) wd_312 (Or.inl rfl) (F_0_1 hF) (by decide) dX11_undo_15 rfl ?_
    obtain ⟨q1, hq1, hf⟩ := bind_in hf
    refine q_callVv (pc' := 21) C (t_xw_become hF lit_W_1 lit_W_50 hq1) rfl (K_1 hF) cl_10 wv_RX11_286 ⟨Nat.le_of_ble_eq_true rfl, Nat.le_of_ble_eq_true rfl⟩ rfl rfl (Nat.le_of_ble_eq_true rfl) dX11_undo_18 rfl ⟨Nat.le_of_ble_eq_true rfl, Nat.le_of_ble_eq_true rfl⟩ ?_
    refine r_aload_n (pc' := 22) (f4 := 0) (i := 0) C 0 rfl rfl dX11_undo_21 rfl ?_
    refine q_getP (pc' := 25) (j := 0) C (K_0 hF) fb_11_0 (by decide) wd_311 (Or.inl rfl) (F_0_0 hF) (by decide) dX11_undo_22 rfl ?_
    refine q_getI (pc' := 28) (j := 4) C (K_1 hF) fb_10_4 wd_184 (Or.inl rfl) dX11_undo_25 rfl ?_
    cases hf
    exact r_iret C dX11_undo_28

/- WassailEnemies.isOfKind(LWassailEnemies$Hater;I)Z -/
def x_isOfKind (S : SS) (a0 : Int) (a1 : Int) : Int :=
  if ww a1 = 1 then (ins_9 S a0) else (if ww a1 = 2 then (ins_3 S a0) else (if ww a1 = 3 then (ins_4 S a0) else (if ww a1 = 4 then (ins_1 S a0) else (if ww a1 = 5 then (ins_0 S a0) else (if ww a1 = 6 then (ins_8 S a0) else (1))))))
theorem b_x_isOfKind {S : SS} {a0 : Int} {a1 : Int} : x_isOfKind S a0 a1 = 0 ∨ x_isOfKind S a0 a1 = 1 := by
  unfold x_isOfKind
  repeat' split
  all_goals first | exact Or.inl rfl | exact Or.inr rfl | exact b_ins_0 | exact b_ins_1 | exact b_ins_3 | exact b_ins_4 | exact b_ins_8 | exact b_ins_9

abbrev rm_x_isOfKind : Room := { frames := 0, cells := 0, slots := 0, locals := 0 }
set_option maxHeartbeats 4000000 in
set_option maxRecDepth 100000 in
theorem t_x_isOfKind {S : SS} (hF : Fx S) {h : HH} {a0 : Int} (ha0 : isHb S a0 = true) {a1 : Int} : CM yX11_isOfKind cX11_isOfKind 2 (some Jvm.ClassFile.FieldType.boolean) 0 0 0 0 (fun bs => [zP bs a0, zI a1]) h S (fun _ => some (zI (x_isOfKind S a0 a1))) h S := by
  refine CM.intro (own := RX11) (by decide) rfl (fun _ => Nat.le_of_ble_eq_true rfl) ?_
  intro D dT bs p l e s m args below meth c C
  show V D dT bs 2 p l e rm_x_isOfKind s m args below meth c 0 0 _ h S 0 [(0, zP bs a0), (1, zI a1)] []
  obtain ⟨res, hf⟩ : ∃ r, x_isOfKind S a0 a1 = r := ⟨_, rfl⟩
  rw [hf]
  unfold x_isOfKind at hf
  refine r_iload_n (pc' := 1) (f4 := 1) (i := 1) C 1 rfl rfl dX11_isOfKind_0 rfl ?_
  by_cases cs0 : ww a1 = 1
  · rw [if_pos cs0] at hf
    refine r_tsIn (tgt := 40) C 1 cs0 dX11_isOfKind_1 (by decide) (by decide) rfl (by decide) ?_
    refine r_aload_n (pc' := 41) (f4 := 0) (i := 0) C 0 rfl rfl dX11_isOfKind_40 rfl ?_
    refine ri_RX11_321 (pc' := 44) C ha0 dX11_isOfKind_41 rfl ?_
    subst hf
    exact r_zret C (b_ins_9) dX11_isOfKind_44
  · rw [if_neg cs0] at hf
    by_cases cs1 : ww a1 = 2
    · rw [if_pos cs1] at hf
      refine r_tsIn (tgt := 45) C 2 cs1 dX11_isOfKind_1 (by decide) (by decide) rfl (by decide) ?_
      refine r_aload_n (pc' := 46) (f4 := 0) (i := 0) C 0 rfl rfl dX11_isOfKind_45 rfl ?_
      refine ri_RX11_323 (pc' := 49) C ha0 dX11_isOfKind_46 rfl ?_
      subst hf
      exact r_zret C (b_ins_3) dX11_isOfKind_49
    · rw [if_neg cs1] at hf
      by_cases cs2 : ww a1 = 3
      · rw [if_pos cs2] at hf
        refine r_tsIn (tgt := 50) C 3 cs2 dX11_isOfKind_1 (by decide) (by decide) rfl (by decide) ?_
        refine r_aload_n (pc' := 51) (f4 := 0) (i := 0) C 0 rfl rfl dX11_isOfKind_50 rfl ?_
        refine ri_RX11_325 (pc' := 54) C ha0 dX11_isOfKind_51 rfl ?_
        subst hf
        exact r_zret C (b_ins_4) dX11_isOfKind_54
      · rw [if_neg cs2] at hf
        by_cases cs3 : ww a1 = 4
        · rw [if_pos cs3] at hf
          refine r_tsIn (tgt := 55) C 4 cs3 dX11_isOfKind_1 (by decide) (by decide) rfl (by decide) ?_
          refine r_aload_n (pc' := 56) (f4 := 0) (i := 0) C 0 rfl rfl dX11_isOfKind_55 rfl ?_
          refine ri_RX11_327 (pc' := 59) C ha0 dX11_isOfKind_56 rfl ?_
          subst hf
          exact r_zret C (b_ins_1) dX11_isOfKind_59
        · rw [if_neg cs3] at hf
          by_cases cs4 : ww a1 = 5
          · rw [if_pos cs4] at hf
            refine r_tsIn (tgt := 60) C 5 cs4 dX11_isOfKind_1 (by decide) (by decide) rfl (by decide) ?_
            refine r_aload_n (pc' := 61) (f4 := 0) (i := 0) C 0 rfl rfl dX11_isOfKind_60 rfl ?_
            refine ri_RX11_329 (pc' := 64) C ha0 dX11_isOfKind_61 rfl ?_
            subst hf
            exact r_zret C (b_ins_0) dX11_isOfKind_64
          · rw [if_neg cs4] at hf
            by_cases cs5 : ww a1 = 6
            · rw [if_pos cs5] at hf
              refine r_tsIn (tgt := 65) C 6 cs5 dX11_isOfKind_1 (by decide) (by decide) rfl (by decide) ?_
              refine r_aload_n (pc' := 66) (f4 := 0) (i := 0) C 0 rfl rfl dX11_isOfKind_65 rfl ?_
              refine ri_RX11_138 (pc' := 69) C ha0 dX11_isOfKind_66 rfl ?_
              subst hf
              exact r_zret C (b_ins_8) dX11_isOfKind_69
            · rw [if_neg cs5] at hf
              refine r_tsOut (tgt := 70) C dX11_isOfKind_1 (by omega) (by decide) ?_
              refine r_iconst (pc' := 71) C dX11_isOfKind_70 rfl ?_
              subst hf
              exact r_zret C (Or.inr rfl) dX11_isOfKind_71

/- WassailEnemies.taken(II)I -/
def x_taken (S : SS) (h : HH) (a1 : Int) (a2 : Int) : Option Int :=
  if ww a2 < 0 then (some (-2)) else (if ww a2 < 7 then (if ww (xw_has h 1 a1) = 0 then (some (-11)) else (ck (ww a1) 6 <| ckh S (h 2 (ww a1) - 1) <| if ww (x_isOfKind S (h 2 (ww a1) - 1) a2) = 0 then (some (-12)) else (some (h (h 2 (ww a1) - 1) 0)))) else (some (-2)))
abbrev rm_x_taken : Room := { frames := 1, cells := 0, slots := 0, locals := 21 }
set_option maxHeartbeats 4000000 in
set_option maxRecDepth 100000 in
theorem t_x_taken {S : SS} (hF : Fx S) {h : HH} {a1 : Int} {a2 : Int} {res : Int} (hf : x_taken S h a1 a2 = some res) : CM yX11_taken cX11_taken 4 (some Jvm.ClassFile.FieldType.int) 1 21 0 0 (fun bs => [zP bs 0, zI a1, zI a2]) h S (fun _ => some (zI res)) h S := by
  refine CM.intro (own := RX11) (by decide) rfl (fun _ => Nat.le_of_ble_eq_true rfl) ?_
  intro D dT bs p l e s m args below meth c C
  show V D dT bs 4 p l e rm_x_taken s m args below meth c 0 0 _ h S 0 [(0, zP bs 0), (1, zI a1), (2, zI a2)] []
  unfold x_taken at hf
  refine r_iload_n (pc' := 1) (f4 := 2) (i := 2) C 2 rfl rfl dX11_taken_0 rfl ?_
  refine r_if_lt (pc' := 4) (tgt := 10) C rfl hf dX11_taken_1 (by decide) rfl (fun hf => ?_) (fun hf => ?_)
  · refine r_bipush (pc' := 12) C rfl dX11_taken_10 rfl ?_
    cases hf
    exact r_iret C dX11_taken_12
  · refine r_iload_n (pc' := 5) (f4 := 2) (i := 2) C 2 rfl rfl dX11_taken_4 rfl ?_
    refine r_bipush (pc' := 7) C rfl dX11_taken_5 rfl ?_
    refine r_icmp_lt (pc' := 10) (tgt := 13) C rfl ww_n7 hf dX11_taken_7 (by decide) rfl (fun hf => ?_) (fun hf => ?_)
    · refine r_aload_n (pc' := 14) (f4 := 0) (i := 0) C 0 rfl rfl dX11_taken_13 rfl ?_
      refine q_getP (pc' := 17) (j := 0) C (K_0 hF) fb_11_0 (by decide) wd_311 (Or.inl rfl) (F_0_0 hF) (by decide) dX11_taken_14 rfl ?_
      refine r_iload_n (pc' := 18) (f4 := 1) (i := 1) C 1 rfl rfl dX11_taken_17 rfl ?_
      refine q_callV (pc' := 21) C (t_xw_has hF lit_W_1) rfl (K_1 hF) cl_10 wv_RX11_87 ⟨Nat.le_of_ble_eq_true rfl, Nat.le_of_ble_eq_true rfl⟩ rfl rfl (Nat.le_of_ble_eq_true rfl) dX11_taken_18 rfl ⟨Nat.le_of_ble_eq_true rfl, Nat.le_of_ble_eq_true rfl⟩ ?_
      refine r_if_ne (pc' := 24) (tgt := 27) C rfl hf dX11_taken_21 (by decide) rfl (fun hf => ?_) (fun hf => ?_)
      · refine r_bipush (pc' := 26) C rfl dX11_taken_24 rfl ?_
        cases hf
        exact r_iret C dX11_taken_26
      · refine r_aload_n (pc' := 28) (f4 := 0) (i := 0) C 0 rfl rfl dX11_taken_27 rfl ?_
        refine q_getP (pc' := 31) (j := 0) C (K_0 hF) fb_11_0 (by decide) wd_311 (Or.inl rfl) (F_0_0 hF) (by decide) dX11_taken_28 rfl ?_
        refine q_getP (pc' := 34) (j := 0) C (K_1 hF) fb_10_0 (by decide) wd_175 (Or.inl rfl) (F_1_0 hF) (by decide) dX11_taken_31 rfl ?_
        refine r_iload_n (pc' := 35) (f4 := 1) (i := 1) C 1 rfl rfl dX11_taken_34 rfl ?_
        obtain ⟨hi1, hf⟩ := ck_in hf
        obtain ⟨hH2, hf⟩ := ckh_in hf
        refine r_aaldD (pc' := 36) C (K_2 hF) rfl hi1 dX11_taken_35 rfl ?_
        refine r_nnD (isHb_pos hH2) ?_
        refine r_astore_n (pc' := 37) (f4 := 3) (i := 3) (L' := [(3, zP bs (h 2 (ww a1) - 1)), (0, zP bs 0), (1, zI a1), (2, zI a2)]) C rfl (by decide) rfl dX11_taken_36 rfl ?_
        refine r_aload_n (pc' := 38) (f4 := 3) (i := 3) C 0 rfl rfl dX11_taken_37 rfl ?_
        refine r_iload_n (pc' := 39) (f4 := 2) (i := 2) C 3 rfl rfl dX11_taken_38 rfl ?_
        refine q_callS (pc' := 42) C (t_x_isOfKind hF hH2) rfl ws_RX11_317 ⟨Nat.le_of_ble_eq_true rfl, Nat.le_of_ble_eq_true rfl⟩ rfl rfl (Nat.le_of_ble_eq_true rfl) dX11_taken_39 rfl ⟨Nat.le_of_ble_eq_true rfl, Nat.le_of_ble_eq_true rfl⟩ ?_
        refine r_if_eq (pc' := 45) (tgt := 52) C rfl hf dX11_taken_42 (by decide) rfl (fun hf => ?_) (fun hf => ?_)
        · refine r_bipush (pc' := 54) C rfl dX11_taken_52 rfl ?_
          cases hf
          exact r_iret C dX11_taken_54
        · refine r_aload_n (pc' := 46) (f4 := 3) (i := 3) C 0 rfl rfl dX11_taken_45 rfl ?_
          refine q_getH (pc' := 49) (j := 0) C hH2 (by decide) wd_372 (Or.inl rfl) dX11_taken_46 rfl ?_
          refine r_goto (tgt := 54) C dX11_taken_49 (by decide) ?_
          cases hf
          exact r_iret C dX11_taken_54
    · refine r_bipush (pc' := 12) C rfl dX11_taken_10 rfl ?_
      cases hf
      exact r_iret C dX11_taken_12

/- WassailEnemies.tape(III)I -/
def x_tape (h : HH) (a1 : Int) (a2 : Int) (a3 : Int) : Option (Int × HH) :=
  if ww (x_isTape a1) = 0 then (some (-1, h)) else (if ww a2 = -1 then (ck (ww a1) 6 <| ck (ww a1) 6 <| some (1, u2 (u2 h 166 (ww a1) (-5)) 167 (ww a1) 0)) else (if ww a2 < 0 then (some (-2, h)) else (if ww a2 < 5 then (if 60 < ww a3 then (some (-2, h)) else (if ww a3 < 0 then (some (-14, h)) else (ck (ww a1) 6 <| ck (ww a1) 6 <| ck (ww a1) 6 <| some (1, flA (u2 (u2 h 166 (ww a1) a2) 167 (ww a1) a3) (169 + (ww a1)) 60 0)))) else (some (-2, h)))))
abbrev rm_x_tape : Room := { frames := 1, cells := 0, slots := 0, locals := 24 }
set_option maxHeartbeats 4000000 in
set_option maxRecDepth 100000 in
theorem t_x_tape {S : SS} (hF : Fx S) {h : HH} {a1 : Int} {a2 : Int} {a3 : Int} {res : Int × HH} (hf : x_tape h a1 a2 a3 = some res) : CM yX11_tape cX11_tape 4 (some Jvm.ClassFile.FieldType.int) 1 24 0 0 (fun bs => [zP bs 0, zI a1, zI a2, zI a3]) h S (fun _ => some (zI res.1)) res.2 S := by
  refine CM.intro (own := RX11) (by decide) rfl (fun _ => Nat.le_of_ble_eq_true rfl) ?_
  intro D dT bs p l e s m args below meth c C
  show V D dT bs 4 p l e rm_x_tape s m args below meth c 0 0 _ h S 0 [(0, zP bs 0), (1, zI a1), (2, zI a2), (3, zI a3)] []
  unfold x_tape at hf
  refine r_iload_n (pc' := 1) (f4 := 1) (i := 1) C 1 rfl rfl dX11_tape_0 rfl ?_
  refine q_callS (pc' := 4) C (t_x_isTape hF) rfl ws_RX11_280 ⟨Nat.le_of_ble_eq_true rfl, Nat.le_of_ble_eq_true rfl⟩ rfl rfl (Nat.le_of_ble_eq_true rfl) dX11_tape_1 rfl ⟨Nat.le_of_ble_eq_true rfl, Nat.le_of_ble_eq_true rfl⟩ ?_
  refine r_if_ne (pc' := 7) (tgt := 9) C rfl hf dX11_tape_4 (by decide) rfl (fun hf => ?_) (fun hf => ?_)
  · refine r_iconst (pc' := 8) C dX11_tape_7 rfl ?_
    cases hf
    exact r_iret C dX11_tape_8
  · refine r_iload_n (pc' := 10) (f4 := 2) (i := 2) C 2 rfl rfl dX11_tape_9 rfl ?_
    refine r_iconst (pc' := 11) C dX11_tape_10 rfl ?_
    refine r_icmp_ne (pc' := 14) (tgt := 31) C rfl ww_m1 hf dX11_tape_11 (by decide) rfl (fun hf => ?_) (fun hf => ?_)
    · refine r_aload_n (pc' := 15) (f4 := 0) (i := 0) C 0 rfl rfl dX11_tape_14 rfl ?_
      refine q_getP (pc' := 18) (j := 10) C (K_0 hF) fb_11_10 (by decide) wd_321 (Or.inl rfl) (F_0_10 hF) (by decide) dX11_tape_15 rfl ?_
      refine r_iload_n (pc' := 19) (f4 := 1) (i := 1) C 1 rfl rfl dX11_tape_18 rfl ?_
      refine r_bipush (pc' := 21) C rfl dX11_tape_19 rfl ?_
      obtain ⟨hi, hf⟩ := ck_in hf
      refine r_iast (pc' := 22) C (K_166 hF) rfl hi dX11_tape_21 rfl ?_
      refine r_aload_n (pc' := 23) (f4 := 0) (i := 0) C 0 rfl rfl dX11_tape_22 rfl ?_
      refine q_getP (pc' := 26) (j := 11) C (K_0 hF) fb_11_11 (by decide) wd_322 (Or.inl rfl) (F_0_11 hF) (by decide) dX11_tape_23 rfl ?_
      refine r_iload_n (pc' := 27) (f4 := 1) (i := 1) C 1 rfl rfl dX11_tape_26 rfl ?_
      refine r_iconst (pc' := 28) C dX11_tape_27 rfl ?_
      obtain ⟨hi, hf⟩ := ck_in hf
      refine r_iast (pc' := 29) C (K_167 hF) rfl hi dX11_tape_28 rfl ?_
      refine r_iconst (pc' := 30) C dX11_tape_29 rfl ?_
      cases hf
      exact r_iret C dX11_tape_30
    · refine r_iload_n (pc' := 32) (f4 := 2) (i := 2) C 2 rfl rfl dX11_tape_31 rfl ?_
      refine r_if_lt (pc' := 35) (tgt := 46) C rfl hf dX11_tape_32 (by decide) rfl (fun hf => ?_) (fun hf => ?_)
      · refine r_bipush (pc' := 48) C rfl dX11_tape_46 rfl ?_
        cases hf
        exact r_iret C dX11_tape_48
      · refine r_iload_n (pc' := 36) (f4 := 2) (i := 2) C 2 rfl rfl dX11_tape_35 rfl ?_
        refine r_iconst (pc' := 37) C dX11_tape_36 rfl ?_
        refine r_icmp_ge (pc' := 40) (tgt := 46) C rfl ww_n5 hf dX11_tape_37 (by decide) rfl (fun hf => ?_) (fun hf => ?_)
        · refine r_iload_n (pc' := 41) (f4 := 3) (i := 3) C 3 rfl rfl dX11_tape_40 rfl ?_
          refine r_bipush (pc' := 43) C rfl dX11_tape_41 rfl ?_
          refine r_icmp_le (pc' := 46) (tgt := 49) C rfl ww_n60 hf dX11_tape_43 (by decide) rfl (fun hf => ?_) (fun hf => ?_)
          · refine r_bipush (pc' := 48) C rfl dX11_tape_46 rfl ?_
            cases hf
            exact r_iret C dX11_tape_48
          · refine r_iload_n (pc' := 50) (f4 := 3) (i := 3) C 3 rfl rfl dX11_tape_49 rfl ?_
            refine r_if_ge (pc' := 53) (tgt := 56) C rfl hf dX11_tape_50 (by decide) rfl (fun hf => ?_) (fun hf => ?_)
            · refine r_bipush (pc' := 55) C rfl dX11_tape_53 rfl ?_
              cases hf
              exact r_iret C dX11_tape_55
            · refine r_aload_n (pc' := 57) (f4 := 0) (i := 0) C 0 rfl rfl dX11_tape_56 rfl ?_
              refine q_getP (pc' := 60) (j := 10) C (K_0 hF) fb_11_10 (by decide) wd_321 (Or.inl rfl) (F_0_10 hF) (by decide) dX11_tape_57 rfl ?_
              refine r_iload_n (pc' := 61) (f4 := 1) (i := 1) C 1 rfl rfl dX11_tape_60 rfl ?_
              refine r_iload_n (pc' := 62) (f4 := 2) (i := 2) C 2 rfl rfl dX11_tape_61 rfl ?_
              obtain ⟨hi, hf⟩ := ck_in hf
              refine r_iast (pc' := 63) C (K_166 hF) rfl hi dX11_tape_62 rfl ?_
              refine r_aload_n (pc' := 64) (f4 := 0) (i := 0) C 0 rfl rfl dX11_tape_63 rfl ?_
              refine q_getP (pc' := 67) (j := 11) C (K_0 hF) fb_11_11 (by decide) wd_322 (Or.inl rfl) (F_0_11 hF) (by decide) dX11_tape_64 rfl ?_
              refine r_iload_n (pc' := 68) (f4 := 1) (i := 1) C 1 rfl rfl dX11_tape_67 rfl ?_
              refine r_iload_n (pc' := 69) (f4 := 3) (i := 3) C 3 rfl rfl dX11_tape_68 rfl ?_
              obtain ⟨hi, hf⟩ := ck_in hf
              refine r_iast (pc' := 70) C (K_167 hF) rfl hi dX11_tape_69 rfl ?_
              refine r_aload_n (pc' := 71) (f4 := 0) (i := 0) C 0 rfl rfl dX11_tape_70 rfl ?_
              refine q_getP (pc' := 74) (j := 12) C (K_0 hF) fb_11_12 (by decide) wd_323 (Or.inl rfl) (F_0_12 hF) (by decide) dX11_tape_71 rfl ?_
              refine r_iload_n (pc' := 75) (f4 := 1) (i := 1) C 1 rfl rfl dX11_tape_74 rfl ?_
              obtain ⟨hi1, hf⟩ := ck_in hf
              refine r_aaldP (pc' := 76) (t := 4) C (K_168 hF) (by decide) (by decide) (by decide) (by decide) rfl rfl hi1 (FL168 hF hi1) (Int.add_nonneg (by decide) (hi1).1) dX11_tape_75 rfl ?_
              refine r_lconst (pc' := 77) (z := 0) C rfl dX11_tape_76 rfl ?_
              refine q_callSv (pc' := 80) C (t_fillL hF (KL168 hF hi1) (by decide)) rfl ws_RX11_331 ⟨Nat.le_of_ble_eq_true rfl, Nat.le_of_ble_eq_true rfl⟩ rfl rfl (Nat.le_of_ble_eq_true rfl) dX11_tape_77 rfl ⟨Nat.le_of_ble_eq_true rfl, Nat.le_of_ble_eq_true rfl⟩ ?_
              refine r_iconst (pc' := 81) C dX11_tape_80 rfl ?_
              cases hf
              exact r_iret C dX11_tape_81
        · refine r_bipush (pc' := 48) C rfl dX11_tape_46 rfl ?_
          cases hf
          exact r_iret C dX11_tape_48

/- WassailEnemies.asItem(IJ)J -/
def x_asItem (a0 : Int) (a1 : Int) : Int :=
  if ww a0 = 0 then (zi2l (zb8 (zl2i a1))) else (if ww a0 = 1 then (zi2l (zb16 (zl2i a1))) else (if ww a0 = 2 then (zi2l (zl2i a1)) else (if ww a0 = 3 then (a1) else (if ww (zlcmp a1 0) = 0 then (0) else (1)))))
abbrev rm_x_asItem : Room := { frames := 0, cells := 0, slots := 0, locals := 0 }
set_option maxHeartbeats 4000000 in
set_option maxRecDepth 100000 in
theorem t_x_asItem {S : SS} (hF : Fx S) {h : HH} {a0 : Int} {a1 : Int} : CM yX11_asItem cX11_asItem 3 (some Jvm.ClassFile.FieldType.long) 0 0 0 0 (fun _ => [zI a0, zL a1]) h S (fun _ => some (zL (x_asItem a0 a1))) h S := by
  refine CM.intro (own := RX11) (by decide) rfl (fun _ => Nat.le_of_ble_eq_true rfl) ?_
  intro D dT bs p l e s m args below meth c C
  show V D dT bs 3 p l e rm_x_asItem s m args below meth c 0 0 _ h S 0 [(0, zI a0), (1, zL a1)] []
  obtain ⟨res, hf⟩ : ∃ r, x_asItem a0 a1 = r := ⟨_, rfl⟩
  rw [hf]
  unfold x_asItem at hf
  refine r_iload_n (pc' := 1) (f4 := 0) (i := 0) C 0 rfl rfl dX11_asItem_0 rfl ?_
  by_cases cs0 : ww a0 = 0
  · rw [if_pos cs0] at hf
    refine r_tsIn (tgt := 32) C 0 cs0 dX11_asItem_1 (by decide) (by decide) rfl (by decide) ?_
    refine r_lload_n (pc' := 33) (f4 := 1) (i := 1) C 1 rfl rfl dX11_asItem_32 rfl ?_
    refine r_l2i (pc' := 34) C dX11_asItem_33 rfl ?_
    refine r_i2b (pc' := 35) C dX11_asItem_34 rfl ?_
    refine r_i2l (pc' := 36) C dX11_asItem_35 rfl ?_
    subst hf
    exact r_lret C dX11_asItem_36
  · rw [if_neg cs0] at hf
    by_cases cs1 : ww a0 = 1
    · rw [if_pos cs1] at hf
      refine r_tsIn (tgt := 37) C 1 cs1 dX11_asItem_1 (by decide) (by decide) rfl (by decide) ?_
      refine r_lload_n (pc' := 38) (f4 := 1) (i := 1) C 1 rfl rfl dX11_asItem_37 rfl ?_
      refine r_l2i (pc' := 39) C dX11_asItem_38 rfl ?_
      refine r_i2s (pc' := 40) C dX11_asItem_39 rfl ?_
      refine r_i2l (pc' := 41) C dX11_asItem_40 rfl ?_
      subst hf
      exact r_lret C dX11_asItem_41
    · rw [if_neg cs1] at hf
      by_cases cs2 : ww a0 = 2
      · rw [if_pos cs2] at hf
        refine r_tsIn (tgt := 42) C 2 cs2 dX11_asItem_1 (by decide) (by decide) rfl (by decide) ?_
        refine r_lload_n (pc' := 43) (f4 := 1) (i := 1) C 1 rfl rfl dX11_asItem_42 rfl ?_
        refine r_l2i (pc' := 44) C dX11_asItem_43 rfl ?_
        refine r_i2l (pc' := 45) C dX11_asItem_44 rfl ?_
        subst hf
        exact r_lret C dX11_asItem_45
      · rw [if_neg cs2] at hf
        by_cases cs3 : ww a0 = 3
        · rw [if_pos cs3] at hf
          refine r_tsIn (tgt := 46) C 3 cs3 dX11_asItem_1 (by decide) (by decide) rfl (by decide) ?_
          refine r_lload_n (pc' := 47) (f4 := 1) (i := 1) C 1 rfl rfl dX11_asItem_46 rfl ?_
          subst hf
          exact r_lret C dX11_asItem_47
        · rw [if_neg cs3] at hf
          refine r_tsOut (tgt := 48) C dX11_asItem_1 (by omega) (by decide) ?_
          refine r_lload_n (pc' := 49) (f4 := 1) (i := 1) C 1 rfl rfl dX11_asItem_48 rfl ?_
          refine r_lconst (pc' := 50) (z := 0) C rfl dX11_asItem_49 rfl ?_
          refine r_lcmp (pc' := 51) C dX11_asItem_50 rfl ?_
          refine r_if_eq (pc' := 54) (tgt := 58) C rfl hf dX11_asItem_51 (by decide) rfl (fun hf => ?_) (fun hf => ?_)
          · refine r_lconst (pc' := 59) (z := 0) C rfl dX11_asItem_58 rfl ?_
            subst hf
            exact r_lret C dX11_asItem_59
          · refine r_lconst (pc' := 55) (z := 1) C rfl dX11_asItem_54 rfl ?_
            refine r_goto (tgt := 59) C dX11_asItem_55 (by decide) ?_
            subst hf
            exact r_lret C dX11_asItem_59

/- WassailEnemies.item(IIJ)I -/
def x_item (h : HH) (a1 : Int) (a2 : Int) (a3 : Int) : Option (Int × HH) :=
  if ww (x_isTape a1) = 0 then (some (-1, h)) else (ck (ww a1) 6 <| if ww (h 166 (ww a1)) = -5 then (some (-11, h)) else ((x_hasItem h a1 a2).bind fun q1 => if ww q1 = 0 then (some (-13, h)) else (ck (ww a1) 6 <| ck (ww a1) 6 <| ck (ww a2) 60 <| some (1, u2 h (169 + (ww a1)) (ww a2) (x_asItem (h 166 (ww a1)) a3)))))
abbrev rm_x_item : Room := { frames := 1, cells := 0, slots := 0, locals := 22 }
set_option maxHeartbeats 4000000 in
set_option maxRecDepth 100000 in
theorem t_x_item {S : SS} (hF : Fx S) {h : HH} {a1 : Int} {a2 : Int} {a3 : Int} {res : Int × HH} (hf : x_item h a1 a2 a3 = some res) : CM yX11_item cX11_item 5 (some Jvm.ClassFile.FieldType.int) 1 22 0 0 (fun bs => [zP bs 0, zI a1, zI a2, zL a3]) h S (fun _ => some (zI res.1)) res.2 S := by
  refine CM.intro (own := RX11) (by decide) rfl (fun _ => Nat.le_of_ble_eq_true rfl) ?_
  intro D dT bs p l e s m args below meth c C
  show V D dT bs 5 p l e rm_x_item s m args below meth c 0 0 _ h S 0 [(0, zP bs 0), (1, zI a1), (2, zI a2), (3, zL a3)] []
  unfold x_item at hf
  refine r_iload_n (pc' := 1) (f4 := 1) (i := 1) C 1 rfl rfl dX11_item_0 rfl ?_
  refine q_callS (pc' := 4) C (t_x_isTape hF) rfl ws_RX11_280 ⟨Nat.le_of_ble_eq_true rfl, Nat.le_of_ble_eq_true rfl⟩ rfl rfl (Nat.le_of_ble_eq_true rfl) dX11_item_1 rfl ⟨Nat.le_of_ble_eq_true rfl, Nat.le_of_ble_eq_true rfl⟩ ?_
  refine r_if_ne (pc' := 7) (tgt := 9) C rfl hf dX11_item_4 (by decide) rfl (fun hf => ?_) (fun hf => ?_)
  · refine r_iconst (pc' := 8) C dX11_item_7 rfl ?_
    cases hf
    exact r_iret C dX11_item_8
  · refine r_aload_n (pc' := 10) (f4 := 0) (i := 0) C 0 rfl rfl dX11_item_9 rfl ?_
    refine q_getP (pc' := 13) (j := 10) C (K_0 hF) fb_11_10 (by decide) wd_321 (Or.inl rfl) (F_0_10 hF) (by decide) dX11_item_10 rfl ?_
    refine r_iload_n (pc' := 14) (f4 := 1) (i := 1) C 1 rfl rfl dX11_item_13 rfl ?_
    obtain ⟨hi, hf⟩ := ck_in hf
    refine r_iald (pc' := 15) C (K_166 hF) rfl hi dX11_item_14 rfl ?_
    refine r_bipush (pc' := 17) C rfl dX11_item_15 rfl ?_
    refine r_icmp_ne (pc' := 20) (tgt := 23) C rfl ww_m5 hf dX11_item_17 (by decide) rfl (fun hf => ?_) (fun hf => ?_)
    · refine r_bipush (pc' := 22) C rfl dX11_item_20 rfl ?_
      cases hf
      exact r_iret C dX11_item_22
    · refine r_aload_n (pc' := 24) (f4 := 0) (i := 0) C 0 rfl rfl dX11_item_23 rfl ?_
      refine r_iload_n (pc' := 25) (f4 := 1) (i := 1) C 1 rfl rfl dX11_item_24 rfl ?_
      refine r_iload_n (pc' := 26) (f4 := 2) (i := 2) C 2 rfl rfl dX11_item_25 rfl ?_
      obtain ⟨q1, hq1, hf⟩ := bind_in hf
      refine q_callV (pc' := 29) C (t_x_hasItem hF hq1) rfl (K_0 hF) cl_11 wv_RX11_283 ⟨Nat.le_of_ble_eq_true rfl, Nat.le_of_ble_eq_true rfl⟩ rfl rfl (Nat.le_of_ble_eq_true rfl) dX11_item_26 rfl ⟨Nat.le_of_ble_eq_true rfl, Nat.le_of_ble_eq_true rfl⟩ ?_
      refine r_if_ne (pc' := 32) (tgt := 35) C rfl hf dX11_item_29 (by decide) rfl (fun hf => ?_) (fun hf => ?_)
      · refine r_bipush (pc' := 34) C rfl dX11_item_32 rfl ?_
        cases hf
        exact r_iret C dX11_item_34
      · refine r_aload_n (pc' := 36) (f4 := 0) (i := 0) C 0 rfl rfl dX11_item_35 rfl ?_
        refine q_getP (pc' := 39) (j := 12) C (K_0 hF) fb_11_12 (by decide) wd_323 (Or.inl rfl) (F_0_12 hF) (by decide) dX11_item_36 rfl ?_
        refine r_iload_n (pc' := 40) (f4 := 1) (i := 1) C 1 rfl rfl dX11_item_39 rfl ?_
        obtain ⟨hi2, hf⟩ := ck_in hf
        refine r_aaldP (pc' := 41) (t := 4) C (K_168 hF) (by decide) (by decide) (by decide) (by decide) rfl rfl hi2 (FL168 hF hi2) (Int.add_nonneg (by decide) (hi2).1) dX11_item_40 rfl ?_
        refine r_iload_n (pc' := 42) (f4 := 2) (i := 2) C 2 rfl rfl dX11_item_41 rfl ?_
        refine r_aload_n (pc' := 43) (f4 := 0) (i := 0) C 0 rfl rfl dX11_item_42 rfl ?_
        refine q_getP (pc' := 46) (j := 10) C (K_0 hF) fb_11_10 (by decide) wd_321 (Or.inl rfl) (F_0_10 hF) (by decide) dX11_item_43 rfl ?_
        refine r_iload_n (pc' := 47) (f4 := 1) (i := 1) C 1 rfl rfl dX11_item_46 rfl ?_
        obtain ⟨hi, hf⟩ := ck_in hf
        refine r_iald (pc' := 48) C (K_166 hF) rfl hi dX11_item_47 rfl ?_
        refine r_lload_n (pc' := 49) (f4 := 3) (i := 3) C 3 rfl rfl dX11_item_48 rfl ?_
        refine q_callS (pc' := 52) C (t_x_asItem hF) rfl ws_RX11_334 ⟨Nat.le_of_ble_eq_true rfl, Nat.le_of_ble_eq_true rfl⟩ rfl rfl (Nat.le_of_ble_eq_true rfl) dX11_item_49 rfl ⟨Nat.le_of_ble_eq_true rfl, Nat.le_of_ble_eq_true rfl⟩ ?_
        obtain ⟨hi, hf⟩ := ck_in hf
        refine r_last (pc' := 53) C (KL168 hF hi2) rfl hi dX11_item_52 rfl ?_
        refine r_iconst (pc' := 54) C dX11_item_53 rfl ?_
        cases hf
        exact r_iret C dX11_item_54

/- WassailEnemies.read(II)J -/
def x_read (h : HH) (a1 : Int) (a2 : Int) : Option Int :=
  if ww (x_isTape a1) = 0 then (some (-9223372036854775808)) else ((x_hasItem h a1 a2).bind fun q1 => if ww q1 = 0 then (some (-9223372036854775808)) else (ck (ww a1) 6 <| ck (ww a2) 60 <| some (h (169 + (ww a1)) (ww a2))))
abbrev rm_x_read : Room := { frames := 1, cells := 0, slots := 0, locals := 22 }
set_option maxHeartbeats 4000000 in
set_option maxRecDepth 100000 in
theorem t_x_read {S : SS} (hF : Fx S) {h : HH} {a1 : Int} {a2 : Int} {res : Int} (hf : x_read h a1 a2 = some res) : CM yX11_read cX11_read 3 (some Jvm.ClassFile.FieldType.long) 1 22 0 0 (fun bs => [zP bs 0, zI a1, zI a2]) h S (fun _ => some (zL res)) h S := by
  refine CM.intro (own := RX11) (by decide) rfl (fun _ => Nat.le_of_ble_eq_true rfl) ?_
  intro D dT bs p l e s m args below meth c C
  show V D dT bs 3 p l e rm_x_read s m args below meth c 0 0 _ h S 0 [(0, zP bs 0), (1, zI a1), (2, zI a2)] []
  unfold x_read at hf
  refine r_iload_n (pc' := 1) (f4 := 1) (i := 1) C 1 rfl rfl dX11_read_0 rfl ?_
  refine q_callS (pc' := 4) C (t_x_isTape hF) rfl ws_RX11_280 ⟨Nat.le_of_ble_eq_true rfl, Nat.le_of_ble_eq_true rfl⟩ rfl rfl (Nat.le_of_ble_eq_true rfl) dX11_read_1 rfl ⟨Nat.le_of_ble_eq_true rfl, Nat.le_of_ble_eq_true rfl⟩ ?_
  refine r_if_eq (pc' := 7) (tgt := 27) C rfl hf dX11_read_4 (by decide) rfl (fun hf => ?_) (fun hf => ?_)
  · refine r_ldc2 (pc' := 30) C (n := (-9223372036854775808)) wc_869 dX11_read_27 rfl ?_
    cases hf
    exact r_lret C dX11_read_30
  · refine r_aload_n (pc' := 8) (f4 := 0) (i := 0) C 0 rfl rfl dX11_read_7 rfl ?_
    refine r_iload_n (pc' := 9) (f4 := 1) (i := 1) C 1 rfl rfl dX11_read_8 rfl ?_
    refine r_iload_n (pc' := 10) (f4 := 2) (i := 2) C 2 rfl rfl dX11_read_9 rfl ?_
    obtain ⟨q1, hq1, hf⟩ := bind_in hf
    refine q_callV (pc' := 13) C (t_x_hasItem hF hq1) rfl (K_0 hF) cl_11 wv_RX11_283 ⟨Nat.le_of_ble_eq_true rfl, Nat.le_of_ble_eq_true rfl⟩ rfl rfl (Nat.le_of_ble_eq_true rfl) dX11_read_10 rfl ⟨Nat.le_of_ble_eq_true rfl, Nat.le_of_ble_eq_true rfl⟩ ?_
    refine r_if_eq (pc' := 16) (tgt := 27) C rfl hf dX11_read_13 (by decide) rfl (fun hf => ?_) (fun hf => ?_)
    · refine r_ldc2 (pc' := 30) C (n := (-9223372036854775808)) wc_869 dX11_read_27 rfl ?_
      cases hf
      exact r_lret C dX11_read_30
    · refine r_aload_n (pc' := 17) (f4 := 0) (i := 0) C 0 rfl rfl dX11_read_16 rfl ?_
      refine q_getP (pc' := 20) (j := 12) C (K_0 hF) fb_11_12 (by decide) wd_323 (Or.inl rfl) (F_0_12 hF) (by decide) dX11_read_17 rfl ?_
      refine r_iload_n (pc' := 21) (f4 := 1) (i := 1) C 1 rfl rfl dX11_read_20 rfl ?_
      obtain ⟨hi2, hf⟩ := ck_in hf
      refine r_aaldP (pc' := 22) (t := 4) C (K_168 hF) (by decide) (by decide) (by decide) (by decide) rfl rfl hi2 (FL168 hF hi2) (Int.add_nonneg (by decide) (hi2).1) dX11_read_21 rfl ?_
      refine r_iload_n (pc' := 23) (f4 := 2) (i := 2) C 2 rfl rfl dX11_read_22 rfl ?_
      obtain ⟨hi, hf⟩ := ck_in hf
      refine r_lald (pc' := 24) C (KL168 hF hi2) rfl hi dX11_read_23 rfl ?_
      refine r_goto (tgt := 30) C dX11_read_24 (by decide) ?_
      cases hf
      exact r_lret C dX11_read_30

/- WassailEnemies.hasItems(III)Z -/
def x_hasItems (h : HH) (a1 : Int) (a2 : Int) (a3 : Int) : Option Int :=
  if ww a2 < 0 then (some 0) else (ck (ww a1) 6 <| if ww (h 167 (ww a1)) < ww a2 then (some 0) else (ck (ww a1) 6 <| if ww ((h 167 (ww a1)) - a2) < ww a3 then (some 0) else (some 1)))
abbrev rm_x_hasItems : Room := { frames := 0, cells := 0, slots := 0, locals := 0 }
set_option maxHeartbeats 4000000 in
set_option maxRecDepth 100000 in
theorem t_x_hasItems {S : SS} (hF : Fx S) {h : HH} {a1 : Int} {a2 : Int} {a3 : Int} {res : Int} (hf : x_hasItems h a1 a2 a3 = some res) : CM yX11_hasItems cX11_hasItems 4 (some Jvm.ClassFile.FieldType.boolean) 0 0 0 0 (fun bs => [zP bs 0, zI a1, zI a2, zI a3]) h S (fun _ => some (zI res)) h S := by
  refine CM.intro (own := RX11) (by decide) rfl (fun _ => Nat.le_of_ble_eq_true rfl) ?_
  intro D dT bs p l e s m args below meth c C
  show V D dT bs 4 p l e rm_x_hasItems s m args below meth c 0 0 _ h S 0 [(0, zP bs 0), (1, zI a1), (2, zI a2), (3, zI a3)] []
  unfold x_hasItems at hf
  refine r_iload_n (pc' := 1) (f4 := 2) (i := 2) C 2 rfl rfl dX11_hasItems_0 rfl ?_
  refine r_if_lt (pc' := 4) (tgt := 30) C rfl hf dX11_hasItems_1 (by decide) rfl (fun hf => ?_) (fun hf => ?_)
  · refine r_iconst (pc' := 31) C dX11_hasItems_30 rfl ?_
    cases hf
    exact r_zret C (Or.inl rfl) dX11_hasItems_31
  · refine r_iload_n (pc' := 5) (f4 := 2) (i := 2) C 2 rfl rfl dX11_hasItems_4 rfl ?_
    refine r_aload_n (pc' := 6) (f4 := 0) (i := 0) C 0 rfl rfl dX11_hasItems_5 rfl ?_
    refine q_getP (pc' := 9) (j := 11) C (K_0 hF) fb_11_11 (by decide) wd_322 (Or.inl rfl) (F_0_11 hF) (by decide) dX11_hasItems_6 rfl ?_
    refine r_iload_n (pc' := 10) (f4 := 1) (i := 1) C 1 rfl rfl dX11_hasItems_9 rfl ?_
    obtain ⟨hi, hf⟩ := ck_in hf
    refine r_iald (pc' := 11) C (K_167 hF) rfl hi dX11_hasItems_10 rfl ?_
    refine r_icmp_gt (pc' := 14) (tgt := 30) C rfl rfl hf dX11_hasItems_11 (by decide) rfl (fun hf => ?_) (fun hf => ?_)
    · refine r_iconst (pc' := 31) C dX11_hasItems_30 rfl ?_
      cases hf
      exact r_zret C (Or.inl rfl) dX11_hasItems_31
    · refine r_iload_n (pc' := 15) (f4 := 3) (i := 3) C 3 rfl rfl dX11_hasItems_14 rfl ?_
      refine r_aload_n (pc' := 16) (f4 := 0) (i := 0) C 0 rfl rfl dX11_hasItems_15 rfl ?_
      refine q_getP (pc' := 19) (j := 11) C (K_0 hF) fb_11_11 (by decide) wd_322 (Or.inl rfl) (F_0_11 hF) (by decide) dX11_hasItems_16 rfl ?_
      refine r_iload_n (pc' := 20) (f4 := 1) (i := 1) C 1 rfl rfl dX11_hasItems_19 rfl ?_
      obtain ⟨hi, hf⟩ := ck_in hf
      refine r_iald (pc' := 21) C (K_167 hF) rfl hi dX11_hasItems_20 rfl ?_
      refine r_iload_n (pc' := 22) (f4 := 2) (i := 2) C 2 rfl rfl dX11_hasItems_21 rfl ?_
      refine r_isub (pc' := 23) C dX11_hasItems_22 rfl ?_
      refine r_icmp_gt (pc' := 26) (tgt := 30) C rfl rfl hf dX11_hasItems_23 (by decide) rfl (fun hf => ?_) (fun hf => ?_)
      · refine r_iconst (pc' := 31) C dX11_hasItems_30 rfl ?_
        cases hf
        exact r_zret C (Or.inl rfl) dX11_hasItems_31
      · refine r_iconst (pc' := 27) C dX11_hasItems_26 rfl ?_
        refine r_goto (tgt := 31) C dX11_hasItems_27 (by decide) ?_
        cases hf
        exact r_zret C (Or.inr rfl) dX11_hasItems_31

/- WassailEnemies.shift(IIIII)I -/
def x_shift (h : HH) (a1 : Int) (a2 : Int) (a3 : Int) (a4 : Int) (a5 : Int) : Option (Int × HH) :=
  if ww (x_isTape a1) = 0 then (some (-1, h)) else (if ww (x_isTape a3) = 0 then (some (-1, h)) else (ck (ww a1) 6 <| if ww (h 166 (ww a1)) = -5 then (some (-11, h)) else (ck (ww a3) 6 <| if ww (h 166 (ww a3)) = -5 then (some (-11, h)) else (ck (ww a1) 6 <| ck (ww a3) 6 <| if ww (h 166 (ww a1)) = ww (h 166 (ww a3)) then (if ww a5 < 0 then (some (-13, h)) else ((x_hasItems h a1 a2 a5).bind fun q1 => if ww q1 = 0 then (some (-13, h)) else ((x_hasItems h a3 a4 a5).bind fun q2 => if ww q2 = 0 then (some (-13, h)) else (ck (ww a1) 6 <| ck (ww a3) 6 <| ckn (ww a2) <| ckn (ww a4) <| ckn (ww a5) <| ck ((ww a2) + (ww a5)) (60 + 1) <| ck ((ww a4) + (ww a5)) (60 + 1) <| some (a5, cpA h (169 + (ww a1)) (ww a2) (169 + (ww a3)) (ww a4) (ww a5)))))) else (some (-12, h))))))
abbrev rm_x_shift : Room := { frames := 1, cells := 0, slots := 0, locals := 60 }
set_option maxHeartbeats 4000000 in
set_option maxRecDepth 100000 in
theorem t_x_shift {S : SS} (hF : Fx S) {h : HH} {a1 : Int} {a2 : Int} {a3 : Int} {a4 : Int} {a5 : Int} {res : Int × HH} (hf : x_shift h a1 a2 a3 a4 a5 = some res) : CM yX11_shift cX11_shift 6 (some Jvm.ClassFile.FieldType.int) 1 60 0 0 (fun bs => [zP bs 0, zI a1, zI a2, zI a3, zI a4, zI a5]) h S (fun _ => some (zI res.1)) res.2 S := by
  refine CM.intro (own := RX11) (by decide) rfl (fun _ => Nat.le_of_ble_eq_true rfl) ?_
  intro D dT bs p l e s m args below meth c C
  show V D dT bs 6 p l e rm_x_shift s m args below meth c 0 0 _ h S 0 [(0, zP bs 0), (1, zI a1), (2, zI a2), (3, zI a3), (4, zI a4), (5, zI a5)] []
  unfold x_shift at hf
  refine r_iload_n (pc' := 1) (f4 := 1) (i := 1) C 1 rfl rfl dX11_shift_0 rfl ?_
  refine q_callS (pc' := 4) C (t_x_isTape hF) rfl ws_RX11_280 ⟨Nat.le_of_ble_eq_true rfl, Nat.le_of_ble_eq_true rfl⟩ rfl rfl (Nat.le_of_ble_eq_true rfl) dX11_shift_1 rfl ⟨Nat.le_of_ble_eq_true rfl, Nat.le_of_ble_eq_true rfl⟩ ?_
  refine r_if_eq (pc' := 7) (tgt := 14) C rfl hf dX11_shift_4 (by decide) rfl (fun hf => ?_) (fun hf => ?_)
  · refine r_iconst (pc' := 15) C dX11_shift_14 rfl ?_
    cases hf
    exact r_iret C dX11_shift_15
  · refine r_iload_n (pc' := 8) (f4 := 3) (i := 3) C 3 rfl rfl dX11_shift_7 rfl ?_
    refine q_callS (pc' := 11) C (t_x_isTape hF) rfl ws_RX11_280 ⟨Nat.le_of_ble_eq_true rfl, Nat.le_of_ble_eq_true rfl⟩ rfl rfl (Nat.le_of_ble_eq_true rfl) dX11_shift_8 rfl ⟨Nat.le_of_ble_eq_true rfl, Nat.le_of_ble_eq_true rfl⟩ ?_
    refine r_if_ne (pc' := 14) (tgt := 16) C rfl hf dX11_shift_11 (by decide) rfl (fun hf => ?_) (fun hf => ?_)
    · refine r_iconst (pc' := 15) C dX11_shift_14 rfl ?_
      cases hf
      exact r_iret C dX11_shift_15
    · refine r_aload_n (pc' := 17) (f4 := 0) (i := 0) C 0 rfl rfl dX11_shift_16 rfl ?_
      refine q_getP (pc' := 20) (j := 10) C (K_0 hF) fb_11_10 (by decide) wd_321 (Or.inl rfl) (F_0_10 hF) (by decide) dX11_shift_17 rfl ?_
      refine r_iload_n (pc' := 21) (f4 := 1) (i := 1) C 1 rfl rfl dX11_shift_20 rfl ?_
      obtain ⟨hi, hf⟩ := ck_in hf
      refine r_iald (pc' := 22) C (K_166 hF) rfl hi dX11_shift_21 rfl ?_
      refine r_bipush (pc' := 24) C rfl dX11_shift_22 rfl ?_
      refine r_icmp_eq (pc' := 27) (tgt := 38) C rfl ww_m5 hf dX11_shift_24 (by decide) rfl (fun hf => ?_) (fun hf => ?_)
      · refine r_bipush (pc' := 40) C rfl dX11_shift_38 rfl ?_
        cases hf
        exact r_iret C dX11_shift_40
      · refine r_aload_n (pc' := 28) (f4 := 0) (i := 0) C 0 rfl rfl dX11_shift_27 rfl ?_
        refine q_getP (pc' := 31) (j := 10) C (K_0 hF) fb_11_10 (by decide) wd_321 (Or.inl rfl) (F_0_10 hF) (by decide) dX11_shift_28 rfl ?_
        refine r_iload_n (pc' := 32) (f4 := 3) (i := 3) C 3 rfl rfl dX11_shift_31 rfl ?_
        obtain ⟨hi, hf⟩ := ck_in hf
        refine r_iald (pc' := 33) C (K_166 hF) rfl hi dX11_shift_32 rfl ?_
        refine r_bipush (pc' := 35) C rfl dX11_shift_33 rfl ?_
        refine r_icmp_ne (pc' := 38) (tgt := 41) C rfl ww_m5 hf dX11_shift_35 (by decide) rfl (fun hf => ?_) (fun hf => ?_)
        · refine r_bipush (pc' := 40) C rfl dX11_shift_38 rfl ?_
          cases hf
          exact r_iret C dX11_shift_40
        · refine r_aload_n (pc' := 42) (f4 := 0) (i := 0) C 0 rfl rfl dX11_shift_41 rfl ?_
          refine q_getP (pc' := 45) (j := 10) C (K_0 hF) fb_11_10 (by decide) wd_321 (Or.inl rfl) (F_0_10 hF) (by decide) dX11_shift_42 rfl ?_
          refine r_iload_n (pc' := 46) (f4 := 1) (i := 1) C 1 rfl rfl dX11_shift_45 rfl ?_
          obtain ⟨hi, hf⟩ := ck_in hf
          refine r_iald (pc' := 47) C (K_166 hF) rfl hi dX11_shift_46 rfl ?_
          refine r_aload_n (pc' := 48) (f4 := 0) (i := 0) C 0 rfl rfl dX11_shift_47 rfl ?_
          refine q_getP (pc' := 51) (j := 10) C (K_0 hF) fb_11_10 (by decide) wd_321 (Or.inl rfl) (F_0_10 hF) (by decide) dX11_shift_48 rfl ?_
          refine r_iload_n (pc' := 52) (f4 := 3) (i := 3) C 3 rfl rfl dX11_shift_51 rfl ?_
          obtain ⟨hi, hf⟩ := ck_in hf
          refine r_iald (pc' := 53) C (K_166 hF) rfl hi dX11_shift_52 rfl ?_
          refine r_icmp_eq (pc' := 56) (tgt := 59) C rfl rfl hf dX11_shift_53 (by decide) rfl (fun hf => ?_) (fun hf => ?_)
          · refine r_iload (pc' := 61) (i := 5) C 5 rfl dX11_shift_59 rfl ?_
            refine r_if_lt (pc' := 64) (tgt := 87) C rfl hf dX11_shift_61 (by decide) rfl (fun hf => ?_) (fun hf => ?_)
            · refine r_bipush (pc' := 89) C rfl dX11_shift_87 rfl ?_
              cases hf
              exact r_iret C dX11_shift_89
            · refine r_aload_n (pc' := 65) (f4 := 0) (i := 0) C 0 rfl rfl dX11_shift_64 rfl ?_
              refine r_iload_n (pc' := 66) (f4 := 1) (i := 1) C 1 rfl rfl dX11_shift_65 rfl ?_
              refine r_iload_n (pc' := 67) (f4 := 2) (i := 2) C 2 rfl rfl dX11_shift_66 rfl ?_
              refine r_iload (pc' := 69) (i := 5) C 5 rfl dX11_shift_67 rfl ?_
              obtain ⟨q1, hq1, hf⟩ := bind_in hf
              refine q_callV (pc' := 72) C (t_x_hasItems hF hq1) rfl (K_0 hF) cl_11 wv_RX11_338 ⟨Nat.le_of_ble_eq_true rfl, Nat.le_of_ble_eq_true rfl⟩ rfl rfl (Nat.le_of_ble_eq_true rfl) dX11_shift_69 rfl ⟨Nat.le_of_ble_eq_true rfl, Nat.le_of_ble_eq_true rfl⟩ ?_
              refine r_if_eq (pc' := 75) (tgt := 87) C rfl hf dX11_shift_72 (by decide) rfl (fun hf => ?_) (fun hf => ?_)
              · refine r_bipush (pc' := 89) C rfl dX11_shift_87 rfl ?_
                cases hf
                exact r_iret C dX11_shift_89
              · refine r_aload_n (pc' := 76) (f4 := 0) (i := 0) C 0 rfl rfl dX11_shift_75 rfl ?_
                refine r_iload_n (pc' := 77) (f4 := 3) (i := 3) C 3 rfl rfl dX11_shift_76 rfl ?_
                refine r_iload (pc' := 79) (i := 4) C 4 rfl dX11_shift_77 rfl ?_
                refine r_iload (pc' := 81) (i := 5) C 5 rfl dX11_shift_79 rfl ?_
                obtain ⟨q2, hq2, hf⟩ := bind_in hf
                refine q_callV (pc' := 84) C (t_x_hasItems hF hq2) rfl (K_0 hF) cl_11 wv_RX11_338 ⟨Nat.le_of_ble_eq_true rfl, Nat.le_of_ble_eq_true rfl⟩ rfl rfl (Nat.le_of_ble_eq_true rfl) dX11_shift_81 rfl ⟨Nat.le_of_ble_eq_true rfl, Nat.le_of_ble_eq_true rfl⟩ ?_
                refine r_if_ne (pc' := 87) (tgt := 90) C rfl hf dX11_shift_84 (by decide) rfl (fun hf => ?_) (fun hf => ?_)
                · refine r_bipush (pc' := 89) C rfl dX11_shift_87 rfl ?_
                  cases hf
                  exact r_iret C dX11_shift_89
                · refine r_aload_n (pc' := 91) (f4 := 0) (i := 0) C 0 rfl rfl dX11_shift_90 rfl ?_
                  refine q_getP (pc' := 94) (j := 12) C (K_0 hF) fb_11_12 (by decide) wd_323 (Or.inl rfl) (F_0_12 hF) (by decide) dX11_shift_91 rfl ?_
                  refine r_iload_n (pc' := 95) (f4 := 1) (i := 1) C 1 rfl rfl dX11_shift_94 rfl ?_
                  obtain ⟨hi3, hf⟩ := ck_in hf
                  refine r_aaldP (pc' := 96) (t := 4) C (K_168 hF) (by decide) (by decide) (by decide) (by decide) rfl rfl hi3 (FL168 hF hi3) (Int.add_nonneg (by decide) (hi3).1) dX11_shift_95 rfl ?_
                  refine r_iload_n (pc' := 97) (f4 := 2) (i := 2) C 2 rfl rfl dX11_shift_96 rfl ?_
                  refine r_aload_n (pc' := 98) (f4 := 0) (i := 0) C 0 rfl rfl dX11_shift_97 rfl ?_
                  refine q_getP (pc' := 101) (j := 12) C (K_0 hF) fb_11_12 (by decide) wd_323 (Or.inl rfl) (F_0_12 hF) (by decide) dX11_shift_98 rfl ?_
                  refine r_iload_n (pc' := 102) (f4 := 3) (i := 3) C 3 rfl rfl dX11_shift_101 rfl ?_
                  obtain ⟨hi4, hf⟩ := ck_in hf
                  refine r_aaldP (pc' := 103) (t := 4) C (K_168 hF) (by decide) (by decide) (by decide) (by decide) rfl rfl hi4 (FL168 hF hi4) (Int.add_nonneg (by decide) (hi4).1) dX11_shift_102 rfl ?_
                  refine r_iload (pc' := 105) (i := 4) C 4 rfl dX11_shift_103 rfl ?_
                  refine r_iload (pc' := 107) (i := 5) C 5 rfl dX11_shift_105 rfl ?_
                  obtain ⟨hn5, hf⟩ := ckn_in hf
                  obtain ⟨hn6, hf⟩ := ckn_in hf
                  obtain ⟨hn7, hf⟩ := ckn_in hf
                  obtain ⟨hi8, hf⟩ := ck_in hf
                  obtain ⟨hi9, hf⟩ := ck_in hf
                  refine r_acpL (pc' := 110) C (KL168 hF hi3) (KL168 hF hi4) rfl rfl rfl hn5 hn6 hn7 hi8 hi9 wd_1164 wd_549 wd_548 wd_113  (Nat.le_of_ble_eq_true rfl) (Nat.le_of_ble_eq_true rfl) dX11_shift_107 rfl ?_
                  refine r_iload (pc' := 112) (i := 5) C 5 rfl dX11_shift_110 rfl ?_
                  cases hf
                  exact r_iret C dX11_shift_112
          · refine r_bipush (pc' := 58) C rfl dX11_shift_56 rfl ?_
            cases hf
            exact r_iret C dX11_shift_58
end
