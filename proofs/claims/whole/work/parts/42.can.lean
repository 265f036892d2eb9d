
section
variable {D : va_G} {dT : ZT} {bs : Nat} {p : Program} {l : Launch} {e : Env} {s : State} {m : MethodId} {args : Array Value} {below : List Frame} {meth : Method} {c : Code} {S : SS}
/- WassailEnemies.can(II)I -/
noncomputable def x_can_L43 (x1 : Int) (x2 : Int) : Nat → SS → HH → Int → Int → Int → Option (Int × HH × SS)
  | 0, _, _, _, _, _ => none
  | n43 + 1, S, h, x3, x4, x5 =>
    if ww x5 < 0 then (if ww x2 = 0 then (some (x3, h, S)) else (some (x4, h, S))) else (ck (ww x1) 6 <| ckh S (h 2 (ww x1) - 1) <| (x_newHater S h (h (h 2 (ww x1) - 1) 0) x1 x5).bind fun q4 => ckX S q4.2.2 <| ckh q4.2.2 q4.1 <| ck (ww x1) 6 <| (x_isAsSeen q4.2.2 (u2 q4.2.1 100 (ww x1) (q4.1 + 1)) x1 (-5)).bind fun q8 => if ww q8.1 = 0 then (x_can_L43 x1 x2 n43 q4.2.2 q8.2 x3 x4 (x5 + (-1))) else (x_can_L43 x1 x2 n43 q4.2.2 q8.2 (x3 + 1) x5 (x5 + (-1))))
noncomputable def x_can (S : SS) (h : HH) (a1 : Int) (a2 : Int) : Option (Int × HH × SS) :=
  if ww (xw_has h 1 a1) = 0 then (some (-1, h, S)) else (if ww a2 = 0 then ((xw_goFrom S h 99 1).bind fun q1 => x_can_L43 a1 a2 FU S q1 0 (-5) 9) else (if ww a2 = 1 then ((xw_goFrom S h 99 1).bind fun q9 => x_can_L43 a1 a2 FU S q9 0 (-5) 9) else (some (-1, h, S))))
abbrev rm_x_can : Room := { frames := 7, cells := 10, slots := 40, locals := 158 }
set_option maxHeartbeats 4000000 in
set_option maxRecDepth 100000 in
theorem w_x_can_L43 (C : Cx D dT bs RX11 cX11_can 6 (some Jvm.ClassFile.FieldType.int) p s m args meth c) (x1 : Int) (x2 : Int) {res : Int × HH × SS} :
    ∀ (n : Nat) (S : SS) (hF : Fx S) (h : HH) (x3 : Int) (x4 : Int) (x5 : Int) (k : Nat) (hk : (k : Int) + x5 = 9) (h9 : -1 ≤ x5), x_can_L43 x1 x2 n S h x3 x4 x5 = some res → V D dT bs 6 p l e rm_x_can s m args below meth c k (4 * k) (MQ below (QQ D dT bs (some (zI res.1)) res.2.1 res.2.2) args s 10 40 (AA bs)) h S 43 [(0, zP bs 0), (1, zI x1), (2, zI x2), (3, zI x3), (4, zI x4), (5, zI x5)] [] := by
  intro n
  induction n with
  | zero => intro S hF h x3 x4 x5 k hk h9 hf; simp [x_can_L43] at hf
  | succ n43 ih43 =>
    intro S hF h x3 x4 x5 k hk h9 hf
    rw [x_can_L43] at hf
    have hww : ww x5 = x5 := ww_id (by omega) (by omega)
    refine r_iload (pc' := 45) (i := 5) C 5 rfl dX11_can_43 rfl ?_
    refine r_if_lt (pc' := 48) (tgt := 99) (α := Nat) (E1 := 0) (E2 := 1) (res := if ww x5 < 0 then 0 else 1) C rfl rfl dX11_can_45 (by decide) rfl (fun hb => ?_) (fun hb => ?_)
    · have hneg : ww x5 < 0 := by
        by_cases z : ww x5 < 0
        · exact z
        · rw [if_neg z] at hb; cases hb
      rw [if_pos hneg] at hf
      refine r_iload_n (pc' := 100) (f4 := 2) (i := 2) C 2 rfl rfl dX11_can_99 rfl ?_
      refine r_if_ne (pc' := 103) (tgt := 107) C rfl hf dX11_can_100 (by decide) rfl (fun hf => ?_) (fun hf => ?_)
      · refine r_iload_n (pc' := 104) (f4 := 3) (i := 3) C 3 rfl rfl dX11_can_103 rfl ?_
        refine r_goto (tgt := 109) C dX11_can_104 (by decide) ?_
        cases hf
        refine V.wide (k := 10) (n := 40) (by omega) (by omega) ?_
        exact r_iret C dX11_can_109
      · refine r_iload (pc' := 109) (i := 4) C 4 rfl dX11_can_107 rfl ?_
        cases hf
        refine V.wide (k := 10) (n := 40) (by omega) (by omega) ?_
        exact r_iret C dX11_can_109
    · have hneg : ¬ ww x5 < 0 := fun z => by rw [if_pos z] at hb; cases hb
      rw [if_neg hneg] at hf
      refine r_aload_n (pc' := 49) (f4 := 0) (i := 0) C 0 rfl rfl dX11_can_48 rfl ?_
      refine q_getP (pc' := 52) (j := 2) C (K_0 hF) fb_11_2 (by decide) wd_313 (Or.inl rfl) (F_0_2 hF) (by decide) dX11_can_49 rfl ?_
      refine q_getP (pc' := 55) (j := 0) C (K_99 hF) fb_10_0 (by decide) wd_175 (Or.inl rfl) (F_99_0 hF) (by decide) dX11_can_52 rfl ?_
      refine r_iload_n (pc' := 56) (f4 := 1) (i := 1) C 1 rfl rfl dX11_can_55 rfl ?_
      refine r_aload_n (pc' := 57) (f4 := 0) (i := 0) C 0 rfl rfl dX11_can_56 rfl ?_
      refine r_aload_n (pc' := 58) (f4 := 0) (i := 0) C 0 rfl rfl dX11_can_57 rfl ?_
      refine q_getP (pc' := 61) (j := 0) C (K_0 hF) fb_11_0 (by decide) wd_311 (Or.inl rfl) (F_0_0 hF) (by decide) dX11_can_58 rfl ?_
      refine q_getP (pc' := 64) (j := 0) C (K_1 hF) fb_10_0 (by decide) wd_175 (Or.inl rfl) (F_1_0 hF) (by decide) dX11_can_61 rfl ?_
      refine r_iload_n (pc' := 65) (f4 := 1) (i := 1) C 1 rfl rfl dX11_can_64 rfl ?_
      obtain ⟨hi2, hf⟩ := ck_in hf
      obtain ⟨hH3, hf⟩ := ckh_in hf
      refine r_aaldD (pc' := 66) C (K_2 hF) rfl hi2 dX11_can_65 rfl ?_
      refine r_nnD (isHb_pos hH3) ?_
      refine q_getH (pc' := 69) (j := 0) C hH3 (by decide) wd_372 (Or.inl rfl) dX11_can_66 rfl ?_
      refine r_iload_n (pc' := 70) (f4 := 1) (i := 1) C 1 rfl rfl dX11_can_69 rfl ?_
      refine r_iload (pc' := 72) (i := 5) C 5 rfl dX11_can_70 rfl ?_
      obtain ⟨q4, hq4, hf⟩ := bind_in hf
      refine r_callVD (n := 3) (ci := 11) (pc' := 75) C (t_x_newHater hF hq4).toD rfl (K_0 hF) cl_11 wv_RX11_79 ⟨Nat.le_of_ble_eq_true rfl, Nat.le_of_ble_eq_true rfl⟩ rfl rfl (Nat.le_of_ble_eq_true rfl) dX11_can_72 rfl ⟨by show (_ : Nat) ≤ 10; omega, by show (_ : Nat) ≤ 40; omega⟩ ?_
      obtain ⟨hx5, hf⟩ := ckX_in hf
      have hF := hF.ext hx5
      obtain ⟨hH6, hf⟩ := ckh_in hf
      obtain ⟨hi7, hf⟩ := ck_in hf
      refine r_aastH (pc' := 76) C (K_100 hF) rfl hi7 hH6 dX11_can_75 rfl ?_
      refine r_aload_n (pc' := 77) (f4 := 0) (i := 0) C 0 rfl rfl dX11_can_76 rfl ?_
      refine r_iload_n (pc' := 78) (f4 := 1) (i := 1) C 1 rfl rfl dX11_can_77 rfl ?_
      refine r_bipush (pc' := 80) C rfl dX11_can_78 rfl ?_
      obtain ⟨q8, hq8, hf⟩ := bind_in hf
      refine q_callV (pc' := 83) C (t_x_isAsSeen hF hq8) rfl (K_0 hF) cl_11 wv_RX11_252 ⟨Nat.le_of_ble_eq_true rfl, Nat.le_of_ble_eq_true rfl⟩ rfl rfl (Nat.le_of_ble_eq_true rfl) dX11_can_80 rfl ⟨by show (_ : Nat) ≤ 10; omega, by show (_ : Nat) ≤ 40; omega⟩ ?_
      refine r_if_eq (pc' := 86) (tgt := 93) C rfl hf dX11_can_83 (by decide) rfl (fun hf => ?_) (fun hf => ?_)
      · refine r_iinc (pc' := 96) (i := 5) (L' := [(5, zI (x5 + (-1))), (0, zP bs 0), (1, zI x1), (2, zI x2), (3, zI x3), (4, zI x4)]) C 5 rfl (by decide) rfl dX11_can_93 rfl ?_
        refine r_goto (tgt := 43) C dX11_can_96 (by decide) ?_
        refine V.sub (L' := [(0, zP bs 0), (1, zI x1), (2, zI x2), (3, zI x3), (4, zI x4), (5, zI (x5 + (-1)))]) [1, 2, 3, 4, 5, 0] rfl ?_
        rw [show 4 * k + 4 = 4 * (k + 1) from by omega]
        exact ih43 _ hF _ _ _ _ (k + 1) (by omega) (by omega) hf
      · refine r_iinc (pc' := 89) (i := 3) (L' := [(3, zI (x3 + 1)), (0, zP bs 0), (1, zI x1), (2, zI x2), (4, zI x4), (5, zI x5)]) C 3 rfl (by decide) rfl dX11_can_86 rfl ?_
        refine r_iload (pc' := 91) (i := 5) C 5 rfl dX11_can_89 rfl ?_
        refine r_istore (pc' := 93) (i := 4) (L' := [(4, zI x5), (3, zI (x3 + 1)), (0, zP bs 0), (1, zI x1), (2, zI x2), (5, zI x5)]) C (by decide) rfl dX11_can_91 rfl ?_
        refine r_iinc (pc' := 96) (i := 5) (L' := [(5, zI (x5 + (-1))), (4, zI x5), (3, zI (x3 + 1)), (0, zP bs 0), (1, zI x1), (2, zI x2)]) C 5 rfl (by decide) rfl dX11_can_93 rfl ?_
        refine r_goto (tgt := 43) C dX11_can_96 (by decide) ?_
        refine V.sub (L' := [(0, zP bs 0), (1, zI x1), (2, zI x2), (3, zI (x3 + 1)), (4, zI x5), (5, zI (x5 + (-1)))]) [3, 4, 5, 2, 1, 0] rfl ?_
        rw [show 4 * k + 4 = 4 * (k + 1) from by omega]
        exact ih43 _ hF _ _ _ _ (k + 1) (by omega) (by omega) hf
set_option maxHeartbeats 4000000 in
set_option maxRecDepth 100000 in
theorem t_x_can {S : SS} (hF : Fx S) {h : HH} {a1 : Int} {a2 : Int} {res : Int × HH × SS} (hf : x_can S h a1 a2 = some res) : CM yX11_can cX11_can 6 (some Jvm.ClassFile.FieldType.int) 7 158 10 40 (fun bs => [zP bs 0, zI a1, zI a2]) h S (fun _ => some (zI res.1)) res.2.1 res.2.2 := by
  refine CM.intro (own := RX11) (by decide) rfl (fun _ => Nat.le_of_ble_eq_true rfl) ?_
  intro D dT bs p l e s m args below meth c C
  show V D dT bs 6 p l e rm_x_can s m args below meth c 0 0 _ h S 0 [(0, zP bs 0), (1, zI a1), (2, zI a2)] []
  unfold x_can at hf
  refine r_aload_n (pc' := 1) (f4 := 0) (i := 0) C 0 rfl rfl dX11_can_0 rfl ?_
  refine q_getP (pc' := 4) (j := 0) C (K_0 hF) fb_11_0 (by decide) wd_311 (Or.inl rfl) (F_0_0 hF) (by decide) dX11_can_1 rfl ?_
  refine r_iload_n (pc' := 5) (f4 := 1) (i := 1) C 1 rfl rfl dX11_can_4 rfl ?_
  refine q_callV (pc' := 8) C (t_xw_has hF lit_W_1) rfl (K_1 hF) cl_10 wv_RX11_87 ⟨Nat.le_of_ble_eq_true rfl, Nat.le_of_ble_eq_true rfl⟩ rfl rfl (Nat.le_of_ble_eq_true rfl) dX11_can_5 rfl ⟨Nat.le_of_ble_eq_true rfl, Nat.le_of_ble_eq_true rfl⟩ ?_
  refine r_if_eq (pc' := 11) (tgt := 20) C rfl hf dX11_can_8 (by decide) rfl (fun hf => ?_) (fun hf => ?_)
  · refine r_iconst (pc' := 21) C dX11_can_20 rfl ?_
    cases hf
    refine V.wide (k := 10) (n := 40) (Nat.le_of_ble_eq_true rfl) (Nat.le_of_ble_eq_true rfl) ?_
    exact r_iret C dX11_can_21
  · refine r_iload_n (pc' := 12) (f4 := 2) (i := 2) C 2 rfl rfl dX11_can_11 rfl ?_
    refine r_if_eq (pc' := 15) (tgt := 22) C rfl hf dX11_can_12 (by decide) rfl (fun hf => ?_) (fun hf => ?_)
    · refine r_aload_n (pc' := 23) (f4 := 0) (i := 0) C 0 rfl rfl dX11_can_22 rfl ?_
      refine q_getP (pc' := 26) (j := 2) C (K_0 hF) fb_11_2 (by decide) wd_313 (Or.inl rfl) (F_0_2 hF) (by decide) dX11_can_23 rfl ?_
      refine r_aload_n (pc' := 27) (f4 := 0) (i := 0) C 0 rfl rfl dX11_can_26 rfl ?_
      refine q_getP (pc' := 30) (j := 0) C (K_0 hF) fb_11_0 (by decide) wd_311 (Or.inl rfl) (F_0_0 hF) (by decide) dX11_can_27 rfl ?_
      obtain ⟨q1, hq1, hf⟩ := bind_in hf
      refine q_callVv (pc' := 33) C (t_xw_goFrom hF lit_W_99 lit_W_1 hq1) rfl (K_99 hF) cl_10 wv_RX11_198 ⟨Nat.le_of_ble_eq_true rfl, Nat.le_of_ble_eq_true rfl⟩ rfl rfl (Nat.le_of_ble_eq_true rfl) dX11_can_30 rfl ⟨Nat.le_of_ble_eq_true rfl, Nat.le_of_ble_eq_true rfl⟩ ?_
      refine r_iconst (pc' := 34) C dX11_can_33 rfl ?_
      refine r_istore_n (pc' := 35) (f4 := 3) (i := 3) (L' := [(3, zI 0), (0, zP bs 0), (1, zI a1), (2, zI a2)]) C rfl (by decide) rfl dX11_can_34 rfl ?_
      refine r_bipush (pc' := 37) C rfl dX11_can_35 rfl ?_
      refine r_istore (pc' := 39) (i := 4) (L' := [(4, zI (-5)), (3, zI 0), (0, zP bs 0), (1, zI a1), (2, zI a2)]) C (by decide) rfl dX11_can_37 rfl ?_
      refine r_bipush (pc' := 41) C rfl dX11_can_39 rfl ?_
      refine r_istore (pc' := 43) (i := 5) (L' := [(5, zI 9), (4, zI (-5)), (3, zI 0), (0, zP bs 0), (1, zI a1), (2, zI a2)]) C (by decide) rfl dX11_can_41 rfl ?_
      refine V.sub (L' := [(0, zP bs 0), (1, zI a1), (2, zI a2), (3, zI 0), (4, zI (-5)), (5, zI 9)]) [3, 4, 5, 2, 1, 0] rfl ?_
      exact w_x_can_L43 C _ _ _ _ hF _ _ _ _ 0 (by omega) (by omega) hf
    · refine r_iload_n (pc' := 16) (f4 := 2) (i := 2) C 2 rfl rfl dX11_can_15 rfl ?_
      refine r_iconst (pc' := 17) C dX11_can_16 rfl ?_
      refine r_icmp_eq (pc' := 20) (tgt := 22) C rfl ww_n1 hf dX11_can_17 (by decide) rfl (fun hf => ?_) (fun hf => ?_)
      · refine r_aload_n (pc' := 23) (f4 := 0) (i := 0) C 0 rfl rfl dX11_can_22 rfl ?_
        refine q_getP (pc' := 26) (j := 2) C (K_0 hF) fb_11_2 (by decide) wd_313 (Or.inl rfl) (F_0_2 hF) (by decide) dX11_can_23 rfl ?_
        refine r_aload_n (pc' := 27) (f4 := 0) (i := 0) C 0 rfl rfl dX11_can_26 rfl ?_
        refine q_getP (pc' := 30) (j := 0) C (K_0 hF) fb_11_0 (by decide) wd_311 (Or.inl rfl) (F_0_0 hF) (by decide) dX11_can_27 rfl ?_
        obtain ⟨q9, hq9, hf⟩ := bind_in hf
        refine q_callVv (pc' := 33) C (t_xw_goFrom hF lit_W_99 lit_W_1 hq9) rfl (K_99 hF) cl_10 wv_RX11_198 ⟨Nat.le_of_ble_eq_true rfl, Nat.le_of_ble_eq_true rfl⟩ rfl rfl (Nat.le_of_ble_eq_true rfl) dX11_can_30 rfl ⟨Nat.le_of_ble_eq_true rfl, Nat.le_of_ble_eq_true rfl⟩ ?_
        refine r_iconst (pc' := 34) C dX11_can_33 rfl ?_
        refine r_istore_n (pc' := 35) (f4 := 3) (i := 3) (L' := [(3, zI 0), (0, zP bs 0), (1, zI a1), (2, zI a2)]) C rfl (by decide) rfl dX11_can_34 rfl ?_
        refine r_bipush (pc' := 37) C rfl dX11_can_35 rfl ?_
        refine r_istore (pc' := 39) (i := 4) (L' := [(4, zI (-5)), (3, zI 0), (0, zP bs 0), (1, zI a1), (2, zI a2)]) C (by decide) rfl dX11_can_37 rfl ?_
        refine r_bipush (pc' := 41) C rfl dX11_can_39 rfl ?_
        refine r_istore (pc' := 43) (i := 5) (L' := [(5, zI 9), (4, zI (-5)), (3, zI 0), (0, zP bs 0), (1, zI a1), (2, zI a2)]) C (by decide) rfl dX11_can_41 rfl ?_
        refine V.sub (L' := [(0, zP bs 0), (1, zI a1), (2, zI a2), (3, zI 0), (4, zI (-5)), (5, zI 9)]) [3, 4, 5, 2, 1, 0] rfl ?_
        exact w_x_can_L43 C _ _ _ _ hF _ _ _ _ 0 (by omega) (by omega) hf
      · refine r_iconst (pc' := 21) C dX11_can_20 rfl ?_
        cases hf
        refine V.wide (k := 10) (n := 40) (Nat.le_of_ble_eq_true rfl) (Nat.le_of_ble_eq_true rfl) ?_
        exact r_iret C dX11_can_21
end
