section
variable {D : va_G} {dT : ZT} {bs : Nat} {p : Program} {l : Launch} {e : Env} {s : State} {m : MethodId} {args : Array Value} {below : List Frame} {meth : Method} {c : Code} {S : SS}
/- WassailEnemiesModel.bearsBy(III)I -/
def m_bearsBy_L10 (x1 : Int) (x2 : Int) (x3 : Int) : Nat → HH → Int → Int → Option (Int × HH)
  | 0, _, _, _ => none
  | n10 + 1, h, x4, x5 =>
    if ww x5 < ww x3 then ((m_leaderAt h x2 x3 x5).bind fun q2 => (m_bears h q2 x1).bind fun q3 => if ww q3.1 = 0 then (m_bearsBy_L10 x1 x2 x3 n10 (u2 q3.2 193 2 ((q3.2 193 2) + 1)) x4 (x5 + 1)) else ((m_wears q3.2 q2 x1).bind fun q4 => m_bearsBy_L10 x1 x2 x3 n10 (u2 q4 193 2 ((q4 193 2) + 1)) (x4 + 1) (x5 + 1))) else ((m_putBack h).bind fun q5 => some (x4, q5))
def m_bearsBy (h : HH) (a1 : Int) (a2 : Int) (a3 : Int) : Option (Int × HH) :=
  (m_save h).bind fun q1 => m_bearsBy_L10 a1 a2 a3 FU q1 0 0
abbrev rm_m_bearsBy : Room := { frames := 5, cells := 0, slots := 0, locals := 122 }
set_option maxHeartbeats 4000000 in
set_option maxRecDepth 100000 in
theorem w_m_bearsBy_L10 (hF : Fx S) (C : Cx D dT bs RX12 cX12_bearsBy 7 (some Jvm.ClassFile.FieldType.int) p s m args meth c) (x1 : Int) (x2 : Int) (x3 : Int) {res : (Int × HH)} :
    ∀ (n : Nat) (h : HH) (x4 : Int) (x5 : Int), m_bearsBy_L10 x1 x2 x3 n h x4 x5 = some res → V D dT bs 7 p l e rm_m_bearsBy s m args below meth c 0 0 (MQ below (QQ D dT bs (some (zI res.1)) res.2 S) args s 0 0 (AA bs)) h S 10 [(0, zP bs 193), (1, zI x1), (2, zI x2), (3, zI x3), (4, zI x4), (5, zI x5)] [] := by
  intro n
  induction n with
  | zero => intro h x4 x5 hf; simp [m_bearsBy_L10] at hf
  | succ n10 ih10 =>
    intro h x4 x5 hf
    rw [m_bearsBy_L10] at hf
    refine r_iload (pc' := 12) (i := 5) C 5 rfl dX12_bearsBy_10 rfl ?_
    refine r_iload_n (pc' := 13) (f4 := 3) (i := 3) C 3 rfl rfl dX12_bearsBy_12 rfl ?_
    refine r_icmp_ge (pc' := 16) (tgt := 62) C rfl rfl hf dX12_bearsBy_13 (by decide) rfl (fun hf => ?_) (fun hf => ?_)
    · refine r_aload_n (pc' := 17) (f4 := 0) (i := 0) C 0 rfl rfl dX12_bearsBy_16 rfl ?_
      refine r_iload_n (pc' := 18) (f4 := 2) (i := 2) C 2 rfl rfl dX12_bearsBy_17 rfl ?_
      refine r_iload_n (pc' := 19) (f4 := 3) (i := 3) C 3 rfl rfl dX12_bearsBy_18 rfl ?_
      refine r_iload (pc' := 21) (i := 5) C 5 rfl dX12_bearsBy_19 rfl ?_
      obtain ⟨q2, hq2, hf⟩ := bind_in hf
      refine q_callV (pc' := 24) C (t_m_leaderAt hF hq2) rfl (K_193 hF) cl_12 wv_RX12_397 ⟨Nat.le_of_ble_eq_true rfl, Nat.le_of_ble_eq_true rfl⟩ rfl rfl (Nat.le_of_ble_eq_true rfl) dX12_bearsBy_21 rfl ⟨Nat.le_of_ble_eq_true rfl, Nat.le_of_ble_eq_true rfl⟩ ?_
      refine r_istore (pc' := 26) (i := 6) (L' := [(6, zI q2), (0, zP bs 193), (1, zI x1), (2, zI x2), (3, zI x3), (4, zI x4), (5, zI x5)]) C (by decide) rfl dX12_bearsBy_24 rfl ?_
      refine r_aload_n (pc' := 27) (f4 := 0) (i := 0) C 1 rfl rfl dX12_bearsBy_26 rfl ?_
      refine r_iload (pc' := 29) (i := 6) C 0 rfl dX12_bearsBy_27 rfl ?_
      refine r_iload_n (pc' := 30) (f4 := 1) (i := 1) C 2 rfl rfl dX12_bearsBy_29 rfl ?_
      obtain ⟨q3, hq3, hf⟩ := bind_in hf
      refine q_callV (pc' := 33) C (t_m_bears hF hq3) rfl (K_193 hF) cl_12 wv_RX12_343 ⟨Nat.le_of_ble_eq_true rfl, Nat.le_of_ble_eq_true rfl⟩ rfl rfl (Nat.le_of_ble_eq_true rfl) dX12_bearsBy_30 rfl ⟨Nat.le_of_ble_eq_true rfl, Nat.le_of_ble_eq_true rfl⟩ ?_
      refine r_if_eq (pc' := 36) (tgt := 46) C rfl hf dX12_bearsBy_33 (by decide) rfl (fun hf => ?_) (fun hf => ?_)
      · refine r_aload_n (pc' := 47) (f4 := 0) (i := 0) C 1 rfl rfl dX12_bearsBy_46 rfl ?_
        refine r_dup (pc' := 48) C rfl dX12_bearsBy_47 rfl ?_
        refine q_getI (pc' := 51) (j := 2) C (K_193 hF) fb_12_2 wd_1173 (Or.inl rfl) dX12_bearsBy_48 rfl ?_
        refine r_iconst (pc' := 52) C dX12_bearsBy_51 rfl ?_
        refine r_iadd (pc' := 53) C dX12_bearsBy_52 rfl ?_
        refine q_putI (pc' := 56) (j := 2) C (K_193 hF) fb_12_2 fp_12_2 wd_1173 (Or.inl rfl) (Or.inl rfl) rfl rfl dX12_bearsBy_53 rfl ?_
        refine r_iinc (pc' := 59) (i := 5) (L' := [(5, zI (x5 + 1)), (6, zI q2), (0, zP bs 193), (1, zI x1), (2, zI x2), (3, zI x3), (4, zI x4)]) C 6 rfl (by decide) rfl dX12_bearsBy_56 rfl ?_
        refine r_goto (tgt := 10) C dX12_bearsBy_59 (by decide) ?_
        refine V.sub (L' := [(0, zP bs 193), (1, zI x1), (2, zI x2), (3, zI x3), (4, zI x4), (5, zI (x5 + 1))]) [2, 3, 4, 5, 6, 0] rfl ?_
        exact ih10 _ _ _ hf
      · refine r_aload_n (pc' := 37) (f4 := 0) (i := 0) C 1 rfl rfl dX12_bearsBy_36 rfl ?_
        refine r_iload (pc' := 39) (i := 6) C 0 rfl dX12_bearsBy_37 rfl ?_
        refine r_iload_n (pc' := 40) (f4 := 1) (i := 1) C 2 rfl rfl dX12_bearsBy_39 rfl ?_
        obtain ⟨q4, hq4, hf⟩ := bind_in hf
        refine q_callVv (pc' := 43) C (t_m_wears hF hq4) rfl (K_193 hF) cl_12 wv_RX12_355 ⟨Nat.le_of_ble_eq_true rfl, Nat.le_of_ble_eq_true rfl⟩ rfl rfl (Nat.le_of_ble_eq_true rfl) dX12_bearsBy_40 rfl ⟨Nat.le_of_ble_eq_true rfl, Nat.le_of_ble_eq_true rfl⟩ ?_
        refine r_iinc (pc' := 46) (i := 4) (L' := [(4, zI (x4 + 1)), (6, zI q2), (0, zP bs 193), (1, zI x1), (2, zI x2), (3, zI x3), (5, zI x5)]) C 5 rfl (by decide) rfl dX12_bearsBy_43 rfl ?_
        refine r_aload_n (pc' := 47) (f4 := 0) (i := 0) C 2 rfl rfl dX12_bearsBy_46 rfl ?_
        refine r_dup (pc' := 48) C rfl dX12_bearsBy_47 rfl ?_
        refine q_getI (pc' := 51) (j := 2) C (K_193 hF) fb_12_2 wd_1173 (Or.inl rfl) dX12_bearsBy_48 rfl ?_
        refine r_iconst (pc' := 52) C dX12_bearsBy_51 rfl ?_
        refine r_iadd (pc' := 53) C dX12_bearsBy_52 rfl ?_
        refine q_putI (pc' := 56) (j := 2) C (K_193 hF) fb_12_2 fp_12_2 wd_1173 (Or.inl rfl) (Or.inl rfl) rfl rfl dX12_bearsBy_53 rfl ?_
        refine r_iinc (pc' := 59) (i := 5) (L' := [(5, zI (x5 + 1)), (4, zI (x4 + 1)), (6, zI q2), (0, zP bs 193), (1, zI x1), (2, zI x2), (3, zI x3)]) C 6 rfl (by decide) rfl dX12_bearsBy_56 rfl ?_
        refine r_goto (tgt := 10) C dX12_bearsBy_59 (by decide) ?_
        refine V.sub (L' := [(0, zP bs 193), (1, zI x1), (2, zI x2), (3, zI x3), (4, zI (x4 + 1)), (5, zI (x5 + 1))]) [3, 4, 5, 6, 1, 0] rfl ?_
        exact ih10 _ _ _ hf
    · refine r_aload_n (pc' := 63) (f4 := 0) (i := 0) C 0 rfl rfl dX12_bearsBy_62 rfl ?_
      obtain ⟨q5, hq5, hf⟩ := bind_in hf
      refine q_callVv (pc' := 66) C (t_m_putBack hF hq5) rfl (K_193 hF) cl_12 wv_RX12_371 ⟨Nat.le_of_ble_eq_true rfl, Nat.le_of_ble_eq_true rfl⟩ rfl rfl (Nat.le_of_ble_eq_true rfl) dX12_bearsBy_63 rfl ⟨Nat.le_of_ble_eq_true rfl, Nat.le_of_ble_eq_true rfl⟩ ?_
      refine r_iload (pc' := 68) (i := 4) C 4 rfl dX12_bearsBy_66 rfl ?_
      cases hf
      exact r_iret C dX12_bearsBy_68
set_option maxHeartbeats 4000000 in
set_option maxRecDepth 100000 in
theorem t_m_bearsBy {S : SS} (hF : Fx S) {h : HH} {a1 : Int} {a2 : Int} {a3 : Int} {res : Int × HH} (hf : m_bearsBy h a1 a2 a3 = some res) : CM yX12_bearsBy cX12_bearsBy 7 (some Jvm.ClassFile.FieldType.int) 5 122 0 0 (fun bs => [zP bs 193, zI a1, zI a2, zI a3]) h S (fun _ => some (zI res.1)) res.2 S := by
  refine CM.intro (own := RX12) (by decide) rfl (fun _ => Nat.le_of_ble_eq_true rfl) ?_
  intro D dT bs p l e s m args below meth c C
  show V D dT bs 7 p l e rm_m_bearsBy s m args below meth c 0 0 _ h S 0 [(0, zP bs 193), (1, zI a1), (2, zI a2), (3, zI a3)] []
  unfold m_bearsBy at hf
  refine r_aload_n (pc' := 1) (f4 := 0) (i := 0) C 0 rfl rfl dX12_bearsBy_0 rfl ?_
  obtain ⟨q1, hq1, hf⟩ := bind_in hf
  refine q_callVv (pc' := 4) C (t_m_save hF hq1) rfl (K_193 hF) cl_12 wv_RX12_368 ⟨Nat.le_of_ble_eq_true rfl, Nat.le_of_ble_eq_true rfl⟩ rfl rfl (Nat.le_of_ble_eq_true rfl) dX12_bearsBy_1 rfl ⟨Nat.le_of_ble_eq_true rfl, Nat.le_of_ble_eq_true rfl⟩ ?_
  refine r_iconst (pc' := 5) C dX12_bearsBy_4 rfl ?_
  refine r_istore (pc' := 7) (i := 4) (L' := [(4, zI 0), (0, zP bs 193), (1, zI a1), (2, zI a2), (3, zI a3)]) C (by decide) rfl dX12_bearsBy_5 rfl ?_
  refine r_iconst (pc' := 8) C dX12_bearsBy_7 rfl ?_
  refine r_istore (pc' := 10) (i := 5) (L' := [(5, zI 0), (4, zI 0), (0, zP bs 193), (1, zI a1), (2, zI a2), (3, zI a3)]) C (by decide) rfl dX12_bearsBy_8 rfl ?_
  refine V.sub (L' := [(0, zP bs 193), (1, zI a1), (2, zI a2), (3, zI a3), (4, zI 0), (5, zI 0)]) [2, 3, 4, 5, 1, 0] rfl ?_
  refine w_m_bearsBy_L10 hF C _ _ _ _ _ _ _ hf

/- WassailEnemiesModel.turn(III)I -/
def m_turn_L49 (x1 : Int) (x2 : Int) (x3 : Int) (k70 : HH → Int → Option (Int × HH)) : Nat → HH → Int → Int → Option (Int × HH)
  | 0, _, _, _ => none
  | n49 + 1, h, x4, x5 =>
    if ww x5 < ww x2 then (m_turn_L49 x1 x2 x3 k70 n49 h (x4 * (h 193 0)) (x5 + 1)) else (k70 h x4)
def m_turn_L79 (x1 : Int) (x2 : Int) (x3 : Int) (x4 : Int) (k120 : HH → Int → Int → Option (Int × HH)) : Nat → HH → Int → Int → Int → Option (Int × HH)
  | 0, _, _, _, _ => none
  | n79 + 1, h, x5, x6, x7 =>
    if ww x7 < ww x4 then ((m_bearsBy h x1 x7 x2).bind fun q3 => if ww x6 < ww q3.1 then (m_turn_L79 x1 x2 x3 x4 k120 n79 q3.2 x7 q3.1 (x7 + 1)) else (m_turn_L79 x1 x2 x3 x4 k120 n79 q3.2 x5 x6 (x7 + 1))) else (k120 h x5 x6)
def m_turn (h : HH) (a1 : Int) (a2 : Int) (a3 : Int) : Option (Int × HH) :=
  if ww (m_isTree a1) = 0 then (some (-1, h)) else (if ww (m_in a3 (-1) 2) = 0 then (some (-1, h)) else (if ww (m_in a2 1 3) = 0 then (some (-2, h)) else (if ww (h 193 0) = 0 then (some (-5, h)) else (m_turn_L49 a1 a2 a3 (fun h2 y1 => m_turn_L79 a1 a2 a3 y1 (fun h6 y4 y5 => if ww a3 < 0 then (some (y5, h6)) else (if ww a3 < ww a2 then ((m_leaderAt h6 y4 a2 a3).bind fun q7 => some (q7, h6)) else (some (-5, h6)))) FU h2 0 (-1) 0) FU h 1 0))))
abbrev rm_m_turn : Room := { frames := 6, cells := 0, slots := 0, locals := 148 }
set_option maxHeartbeats 4000000 in
set_option maxRecDepth 100000 in
theorem w_m_turn_L49 (hF : Fx S) (C : Cx D dT bs RX12 cX12_turn 9 (some Jvm.ClassFile.FieldType.int) p s m args meth c) (x1 : Int) (x2 : Int) (x3 : Int) (k70 : HH → Int → Option (Int × HH)) {res : (Int × HH)} (hk70 : ∀ (h : HH) (x4 : Int), k70 h x4 = some res → V D dT bs 9 p l e rm_m_turn s m args below meth c 0 0 (MQ below (QQ D dT bs (some (zI res.1)) res.2 S) args s 0 0 (AA bs)) h S 70 [(0, zP bs 193), (1, zI x1), (2, zI x2), (3, zI x3), (4, zI x4)] []) :
    ∀ (n : Nat) (h : HH) (x4 : Int) (x5 : Int), m_turn_L49 x1 x2 x3 k70 n h x4 x5 = some res → V D dT bs 9 p l e rm_m_turn s m args below meth c 0 0 (MQ below (QQ D dT bs (some (zI res.1)) res.2 S) args s 0 0 (AA bs)) h S 49 [(0, zP bs 193), (1, zI x1), (2, zI x2), (3, zI x3), (4, zI x4), (5, zI x5)] [] := by
  intro n
  induction n with
  | zero => intro h x4 x5 hf; simp [m_turn_L49] at hf
  | succ n49 ih49 =>
    intro h x4 x5 hf
    rw [m_turn_L49] at hf
    refine r_iload (pc' := 51) (i := 5) C 5 rfl dX12_turn_49 rfl ?_
    refine r_iload_n (pc' := 52) (f4 := 2) (i := 2) C 2 rfl rfl dX12_turn_51 rfl ?_
    refine r_icmp_ge (pc' := 55) (tgt := 70) C rfl rfl hf dX12_turn_52 (by decide) rfl (fun hf => ?_) (fun hf => ?_)
    · refine r_iload (pc' := 57) (i := 4) C 4 rfl dX12_turn_55 rfl ?_
      refine r_aload_n (pc' := 58) (f4 := 0) (i := 0) C 0 rfl rfl dX12_turn_57 rfl ?_
      refine q_getI (pc' := 61) (j := 0) C (K_193 hF) fb_12_0 wd_1171 (Or.inl rfl) dX12_turn_58 rfl ?_
      refine r_imul (pc' := 62) C dX12_turn_61 rfl ?_
      refine r_istore (pc' := 64) (i := 4) (L' := [(4, zI (x4 * (h 193 0))), (0, zP bs 193), (1, zI x1), (2, zI x2), (3, zI x3), (5, zI x5)]) C (by decide) rfl dX12_turn_62 rfl ?_
      refine r_iinc (pc' := 67) (i := 5) (L' := [(5, zI (x5 + 1)), (4, zI (x4 * (h 193 0))), (0, zP bs 193), (1, zI x1), (2, zI x2), (3, zI x3)]) C 5 rfl (by decide) rfl dX12_turn_64 rfl ?_
      refine r_goto (tgt := 49) C dX12_turn_67 (by decide) ?_
      refine V.sub (L' := [(0, zP bs 193), (1, zI x1), (2, zI x2), (3, zI x3), (4, zI (x4 * (h 193 0))), (5, zI (x5 + 1))]) [2, 3, 4, 5, 1, 0] rfl ?_
      exact ih49 _ _ _ hf
    · refine V.sub (L' := [(0, zP bs 193), (1, zI x1), (2, zI x2), (3, zI x3), (4, zI x4)]) [0, 1, 2, 3, 4] rfl ?_
      exact hk70 _ _ hf
set_option maxHeartbeats 4000000 in
set_option maxRecDepth 100000 in
theorem w_m_turn_L79 (hF : Fx S) (C : Cx D dT bs RX12 cX12_turn 9 (some Jvm.ClassFile.FieldType.int) p s m args meth c) (x1 : Int) (x2 : Int) (x3 : Int) (x4 : Int) (k120 : HH → Int → Int → Option (Int × HH)) {res : (Int × HH)} (hk120 : ∀ (h : HH) (x5 : Int) (x6 : Int), k120 h x5 x6 = some res → V D dT bs 9 p l e rm_m_turn s m args below meth c 0 0 (MQ below (QQ D dT bs (some (zI res.1)) res.2 S) args s 0 0 (AA bs)) h S 120 [(0, zP bs 193), (2, zI x2), (3, zI x3), (5, zI x5), (6, zI x6)] []) :
    ∀ (n : Nat) (h : HH) (x5 : Int) (x6 : Int) (x7 : Int), m_turn_L79 x1 x2 x3 x4 k120 n h x5 x6 x7 = some res → V D dT bs 9 p l e rm_m_turn s m args below meth c 0 0 (MQ below (QQ D dT bs (some (zI res.1)) res.2 S) args s 0 0 (AA bs)) h S 79 [(0, zP bs 193), (1, zI x1), (2, zI x2), (3, zI x3), (4, zI x4), (5, zI x5), (6, zI x6), (7, zI x7)] [] := by
  intro n
  induction n with
  | zero => intro h x5 x6 x7 hf; simp [m_turn_L79] at hf
  | succ n79 ih79 =>
    intro h x5 x6 x7 hf
    rw [m_turn_L79] at hf
    refine r_iload (pc' := 81) (i := 7) C 7 rfl dX12_turn_79 rfl ?_
    refine r_iload (pc' := 83) (i := 4) C 4 rfl dX12_turn_81 rfl ?_
    refine r_icmp_ge (pc' := 86) (tgt := 120) C rfl rfl hf dX12_turn_83 (by decide) rfl (fun hf => ?_) (fun hf => ?_)
    · refine r_aload_n (pc' := 87) (f4 := 0) (i := 0) C 0 rfl rfl dX12_turn_86 rfl ?_
      refine r_iload_n (pc' := 88) (f4 := 1) (i := 1) C 1 rfl rfl dX12_turn_87 rfl ?_
      refine r_iload (pc' := 90) (i := 7) C 7 rfl dX12_turn_88 rfl ?_
      refine r_iload_n (pc' := 91) (f4 := 2) (i := 2) C 2 rfl rfl dX12_turn_90 rfl ?_
      obtain ⟨q3, hq3, hf⟩ := bind_in hf
      refine q_callV (pc' := 94) C (t_m_bearsBy hF hq3) rfl (K_193 hF) cl_12 wv_RX12_400 ⟨Nat.le_of_ble_eq_true rfl, Nat.le_of_ble_eq_true rfl⟩ rfl rfl (Nat.le_of_ble_eq_true rfl) dX12_turn_91 rfl ⟨Nat.le_of_ble_eq_true rfl, Nat.le_of_ble_eq_true rfl⟩ ?_
      refine r_istore (pc' := 96) (i := 8) (L' := [(8, zI q3.1), (0, zP bs 193), (1, zI x1), (2, zI x2), (3, zI x3), (4, zI x4), (5, zI x5), (6, zI x6), (7, zI x7)]) C (by decide) rfl dX12_turn_94 rfl ?_
      refine r_iload (pc' := 98) (i := 8) C 0 rfl dX12_turn_96 rfl ?_
      refine r_iload (pc' := 100) (i := 6) C 7 rfl dX12_turn_98 rfl ?_
      refine r_icmp_gt (pc' := 103) (tgt := 106) C rfl rfl hf dX12_turn_100 (by decide) rfl (fun hf => ?_) (fun hf => ?_)
      · refine r_iload (pc' := 108) (i := 7) C 8 rfl dX12_turn_106 rfl ?_
        refine r_istore (pc' := 110) (i := 5) (L' := [(5, zI x7), (8, zI q3.1), (0, zP bs 193), (1, zI x1), (2, zI x2), (3, zI x3), (4, zI x4), (6, zI x6), (7, zI x7)]) C (by decide) rfl dX12_turn_108 rfl ?_
        refine r_iload (pc' := 112) (i := 8) C 1 rfl dX12_turn_110 rfl ?_
        refine r_istore (pc' := 114) (i := 6) (L' := [(6, zI q3.1), (5, zI x7), (8, zI q3.1), (0, zP bs 193), (1, zI x1), (2, zI x2), (3, zI x3), (4, zI x4), (7, zI x7)]) C (by decide) rfl dX12_turn_112 rfl ?_
        refine r_iinc (pc' := 117) (i := 7) (L' := [(7, zI (x7 + 1)), (6, zI q3.1), (5, zI x7), (8, zI q3.1), (0, zP bs 193), (1, zI x1), (2, zI x2), (3, zI x3), (4, zI x4)]) C 8 rfl (by decide) rfl dX12_turn_114 rfl ?_
        refine r_goto (tgt := 79) C dX12_turn_117 (by decide) ?_
        refine V.sub (L' := [(0, zP bs 193), (1, zI x1), (2, zI x2), (3, zI x3), (4, zI x4), (5, zI x7), (6, zI q3.1), (7, zI (x7 + 1))]) [4, 5, 6, 7, 8, 2, 1, 0] rfl ?_
        exact ih79 _ _ _ _ hf
      · refine r_goto (tgt := 114) C dX12_turn_103 (by decide) ?_
        refine r_iinc (pc' := 117) (i := 7) (L' := [(7, zI (x7 + 1)), (8, zI q3.1), (0, zP bs 193), (1, zI x1), (2, zI x2), (3, zI x3), (4, zI x4), (5, zI x5), (6, zI x6)]) C 8 rfl (by decide) rfl dX12_turn_114 rfl ?_
        refine r_goto (tgt := 79) C dX12_turn_117 (by decide) ?_
        refine V.sub (L' := [(0, zP bs 193), (1, zI x1), (2, zI x2), (3, zI x3), (4, zI x4), (5, zI x5), (6, zI x6), (7, zI (x7 + 1))]) [2, 3, 4, 5, 6, 7, 8, 0] rfl ?_
        exact ih79 _ _ _ _ hf
    · refine V.sub (L' := [(0, zP bs 193), (2, zI x2), (3, zI x3), (5, zI x5), (6, zI x6)]) [0, 2, 3, 5, 6] rfl ?_
      exact hk120 _ _ _ hf
set_option maxHeartbeats 4000000 in
set_option maxRecDepth 100000 in
theorem t_m_turn {S : SS} (hF : Fx S) {h : HH} {a1 : Int} {a2 : Int} {a3 : Int} {res : Int × HH} (hf : m_turn h a1 a2 a3 = some res) : CM yX12_turn cX12_turn 9 (some Jvm.ClassFile.FieldType.int) 6 148 0 0 (fun bs => [zP bs 193, zI a1, zI a2, zI a3]) h S (fun _ => some (zI res.1)) res.2 S := by
  refine CM.intro (own := RX12) (by decide) rfl (fun _ => Nat.le_of_ble_eq_true rfl) ?_
  intro D dT bs p l e s m args below meth c C
  show V D dT bs 9 p l e rm_m_turn s m args below meth c 0 0 _ h S 0 [(0, zP bs 193), (1, zI a1), (2, zI a2), (3, zI a3)] []
  unfold m_turn at hf
  refine r_aload_n (pc' := 1) (f4 := 0) (i := 0) C 0 rfl rfl dX12_turn_0 rfl ?_
  refine r_iload_n (pc' := 2) (f4 := 1) (i := 1) C 1 rfl rfl dX12_turn_1 rfl ?_
  refine q_callV (pc' := 5) C (t_m_isTree hF) rfl (K_193 hF) cl_12 wv_RX12_256 ⟨Nat.le_of_ble_eq_true rfl, Nat.le_of_ble_eq_true rfl⟩ rfl rfl (Nat.le_of_ble_eq_true rfl) dX12_turn_2 rfl ⟨Nat.le_of_ble_eq_true rfl, Nat.le_of_ble_eq_true rfl⟩ ?_
  refine r_if_eq (pc' := 8) (tgt := 18) C rfl hf dX12_turn_5 (by decide) rfl (fun hf => ?_) (fun hf => ?_)
  · refine r_iconst (pc' := 19) C dX12_turn_18 rfl ?_
    cases hf
    exact r_iret C dX12_turn_19
  · refine r_aload_n (pc' := 9) (f4 := 0) (i := 0) C 0 rfl rfl dX12_turn_8 rfl ?_
    refine r_iload_n (pc' := 10) (f4 := 3) (i := 3) C 3 rfl rfl dX12_turn_9 rfl ?_
    refine r_iconst (pc' := 11) C dX12_turn_10 rfl ?_
    refine r_iconst (pc' := 12) C dX12_turn_11 rfl ?_
    refine q_callV (pc' := 15) C (t_m_in hF) rfl (K_193 hF) cl_12 wv_RX12_245 ⟨Nat.le_of_ble_eq_true rfl, Nat.le_of_ble_eq_true rfl⟩ rfl rfl (Nat.le_of_ble_eq_true rfl) dX12_turn_12 rfl ⟨Nat.le_of_ble_eq_true rfl, Nat.le_of_ble_eq_true rfl⟩ ?_
    refine r_if_ne (pc' := 18) (tgt := 20) C rfl hf dX12_turn_15 (by decide) rfl (fun hf => ?_) (fun hf => ?_)
    · refine r_iconst (pc' := 19) C dX12_turn_18 rfl ?_
      cases hf
      exact r_iret C dX12_turn_19
    · refine r_aload_n (pc' := 21) (f4 := 0) (i := 0) C 0 rfl rfl dX12_turn_20 rfl ?_
      refine r_iload_n (pc' := 22) (f4 := 2) (i := 2) C 2 rfl rfl dX12_turn_21 rfl ?_
      refine r_iconst (pc' := 23) C dX12_turn_22 rfl ?_
      refine r_iconst (pc' := 24) C dX12_turn_23 rfl ?_
      refine q_callV (pc' := 27) C (t_m_in hF) rfl (K_193 hF) cl_12 wv_RX12_245 ⟨Nat.le_of_ble_eq_true rfl, Nat.le_of_ble_eq_true rfl⟩ rfl rfl (Nat.le_of_ble_eq_true rfl) dX12_turn_24 rfl ⟨Nat.le_of_ble_eq_true rfl, Nat.le_of_ble_eq_true rfl⟩ ?_
      refine r_if_ne (pc' := 30) (tgt := 33) C rfl hf dX12_turn_27 (by decide) rfl (fun hf => ?_) (fun hf => ?_)
      · refine r_bipush (pc' := 32) C rfl dX12_turn_30 rfl ?_
        cases hf
        exact r_iret C dX12_turn_32
      · refine r_aload_n (pc' := 34) (f4 := 0) (i := 0) C 0 rfl rfl dX12_turn_33 rfl ?_
        refine q_getI (pc' := 37) (j := 0) C (K_193 hF) fb_12_0 wd_1171 (Or.inl rfl) dX12_turn_34 rfl ?_
        refine r_if_ne (pc' := 40) (tgt := 43) C rfl hf dX12_turn_37 (by decide) rfl (fun hf => ?_) (fun hf => ?_)
        · refine r_bipush (pc' := 42) C rfl dX12_turn_40 rfl ?_
          cases hf
          exact r_iret C dX12_turn_42
        · refine r_iconst (pc' := 44) C dX12_turn_43 rfl ?_
          refine r_istore (pc' := 46) (i := 4) (L' := [(4, zI 1), (0, zP bs 193), (1, zI a1), (2, zI a2), (3, zI a3)]) C (by decide) rfl dX12_turn_44 rfl ?_
          refine r_iconst (pc' := 47) C dX12_turn_46 rfl ?_
          refine r_istore (pc' := 49) (i := 5) (L' := [(5, zI 0), (4, zI 1), (0, zP bs 193), (1, zI a1), (2, zI a2), (3, zI a3)]) C (by decide) rfl dX12_turn_47 rfl ?_
          refine V.sub (L' := [(0, zP bs 193), (1, zI a1), (2, zI a2), (3, zI a3), (4, zI 1), (5, zI 0)]) [2, 3, 4, 5, 1, 0] rfl ?_
          refine w_m_turn_L49 hF C _ _ _ _ ?_ _ _ _ _ hf
          intro h2 y1 hf
          refine r_iconst (pc' := 71) C dX12_turn_70 rfl ?_
          refine r_istore (pc' := 73) (i := 5) (L' := [(5, zI 0), (0, zP bs 193), (1, zI a1), (2, zI a2), (3, zI a3), (4, zI y1)]) C (by decide) rfl dX12_turn_71 rfl ?_
          refine r_iconst (pc' := 74) C dX12_turn_73 rfl ?_
          refine r_istore (pc' := 76) (i := 6) (L' := [(6, zI (-1)), (5, zI 0), (0, zP bs 193), (1, zI a1), (2, zI a2), (3, zI a3), (4, zI y1)]) C (by decide) rfl dX12_turn_74 rfl ?_
          refine r_iconst (pc' := 77) C dX12_turn_76 rfl ?_
          refine r_istore (pc' := 79) (i := 7) (L' := [(7, zI 0), (6, zI (-1)), (5, zI 0), (0, zP bs 193), (1, zI a1), (2, zI a2), (3, zI a3), (4, zI y1)]) C (by decide) rfl dX12_turn_77 rfl ?_
          refine V.sub (L' := [(0, zP bs 193), (1, zI a1), (2, zI a2), (3, zI a3), (4, zI y1), (5, zI 0), (6, zI (-1)), (7, zI 0)]) [3, 4, 5, 6, 7, 2, 1, 0] rfl ?_
          refine w_m_turn_L79 hF C _ _ _ _ _ ?_ _ _ _ _ _ hf
          intro h6 y4 y5 hf
          refine r_iload_n (pc' := 121) (f4 := 3) (i := 3) C 2 rfl rfl dX12_turn_120 rfl ?_
          refine r_if_ge (pc' := 124) (tgt := 127) C rfl hf dX12_turn_121 (by decide) rfl (fun hf => ?_) (fun hf => ?_)
          · refine r_iload (pc' := 126) (i := 6) C 4 rfl dX12_turn_124 rfl ?_
            cases hf
            exact r_iret C dX12_turn_126
          · refine r_iload_n (pc' := 128) (f4 := 3) (i := 3) C 2 rfl rfl dX12_turn_127 rfl ?_
            refine r_iload_n (pc' := 129) (f4 := 2) (i := 2) C 1 rfl rfl dX12_turn_128 rfl ?_
            refine r_icmp_ge (pc' := 132) (tgt := 143) C rfl rfl hf dX12_turn_129 (by decide) rfl (fun hf => ?_) (fun hf => ?_)
            · refine r_aload_n (pc' := 133) (f4 := 0) (i := 0) C 0 rfl rfl dX12_turn_132 rfl ?_
              refine r_iload (pc' := 135) (i := 5) C 3 rfl dX12_turn_133 rfl ?_
              refine r_iload_n (pc' := 136) (f4 := 2) (i := 2) C 1 rfl rfl dX12_turn_135 rfl ?_
              refine r_iload_n (pc' := 137) (f4 := 3) (i := 3) C 2 rfl rfl dX12_turn_136 rfl ?_
              obtain ⟨q7, hq7, hf⟩ := bind_in hf
              refine q_callV (pc' := 140) C (t_m_leaderAt hF hq7) rfl (K_193 hF) cl_12 wv_RX12_397 ⟨Nat.le_of_ble_eq_true rfl, Nat.le_of_ble_eq_true rfl⟩ rfl rfl (Nat.le_of_ble_eq_true rfl) dX12_turn_137 rfl ⟨Nat.le_of_ble_eq_true rfl, Nat.le_of_ble_eq_true rfl⟩ ?_
              refine r_goto (tgt := 145) C dX12_turn_140 (by decide) ?_
              cases hf
              exact r_iret C dX12_turn_145
            · refine r_bipush (pc' := 145) C rfl dX12_turn_143 rfl ?_
              cases hf
              exact r_iret C dX12_turn_145

/- WassailEnemiesModel.see(IIIZ)I -/
def m_see (h : HH) (a1 : Int) (a2 : Int) (a3 : Int) (a4 : Int) : Option (Int × HH) :=
  if ww a1 = -1 then (some (0, u2 h 193 38 0)) else (if ww (m_isHater h a1) = 0 then (some (-1, h)) else (if ww (m_isTree a2) = 0 then (some (-1, h)) else (if ww (m_in a3 0 20) = 0 then (some (-2, h)) else (if ww (h 193 38) = 5 then (some (-4, h)) else (ck (ww (h 193 38)) 5 <| ck (ww ((u2 h 216 (ww (h 193 38)) a1) 193 38)) 5 <| ck (ww ((u2 (u2 h 216 (ww (h 193 38)) a1) 217 (ww ((u2 h 216 (ww (h 193 38)) a1) 193 38)) a2) 193 38)) 5 <| ck (ww ((u2 (u2 (u2 h 216 (ww (h 193 38)) a1) 217 (ww ((u2 h 216 (ww (h 193 38)) a1) 193 38)) a2) 218 (ww ((u2 (u2 h 216 (ww (h 193 38)) a1) 217 (ww ((u2 h 216 (ww (h 193 38)) a1) 193 38)) a2) 193 38)) a3) 193 38)) 5 <| ckb a4 <| some ((u2 (u2 (u2 (u2 (u2 h 216 (ww (h 193 38)) a1) 217 (ww ((u2 h 216 (ww (h 193 38)) a1) 193 38)) a2) 218 (ww ((u2 (u2 h 216 (ww (h 193 38)) a1) 217 (ww ((u2 h 216 (ww (h 193 38)) a1) 193 38)) a2) 193 38)) a3) 219 (ww ((u2 (u2 (u2 h 216 (ww (h 193 38)) a1) 217 (ww ((u2 h 216 (ww (h 193 38)) a1) 193 38)) a2) 218 (ww ((u2 (u2 h 216 (ww (h 193 38)) a1) 217 (ww ((u2 h 216 (ww (h 193 38)) a1) 193 38)) a2) 193 38)) a3) 193 38)) a4) 193 38 (((u2 (u2 (u2 (u2 h 216 (ww (h 193 38)) a1) 217 (ww ((u2 h 216 (ww (h 193 38)) a1) 193 38)) a2) 218 (ww ((u2 (u2 h 216 (ww (h 193 38)) a1) 217 (ww ((u2 h 216 (ww (h 193 38)) a1) 193 38)) a2) 193 38)) a3) 219 (ww ((u2 (u2 (u2 h 216 (ww (h 193 38)) a1) 217 (ww ((u2 h 216 (ww (h 193 38)) a1) 193 38)) a2) 218 (ww ((u2 (u2 h 216 (ww (h 193 38)) a1) 217 (ww ((u2 h 216 (ww (h 193 38)) a1) 193 38)) a2) 193 38)) a3) 193 38)) a4) 193 38) + 1)) 193 38, u2 (u2 (u2 (u2 (u2 h 216 (ww (h 193 38)) a1) 217 (ww ((u2 h 216 (ww (h 193 38)) a1) 193 38)) a2) 218 (ww ((u2 (u2 h 216 (ww (h 193 38)) a1) 217 (ww ((u2 h 216 (ww (h 193 38)) a1) 193 38)) a2) 193 38)) a3) 219 (ww ((u2 (u2 (u2 h 216 (ww (h 193 38)) a1) 217 (ww ((u2 h 216 (ww (h 193 38)) a1) 193 38)) a2) 218 (ww ((u2 (u2 h 216 (ww (h 193 38)) a1) 217 (ww ((u2 h 216 (ww (h 193 38)) a1) 193 38)) a2) 193 38)) a3) 193 38)) a4) 193 38 (((u2 (u2 (u2 (u2 h 216 (ww (h 193 38)) a1) 217 (ww ((u2 h 216 (ww (h 193 38)) a1) 193 38)) a2) 218 (ww ((u2 (u2 h 216 (ww (h 193 38)) a1) 217 (ww ((u2 h 216 (ww (h 193 38)) a1) 193 38)) a2) 193 38)) a3) 219 (ww ((u2 (u2 (u2 h 216 (ww (h 193 38)) a1) 217 (ww ((u2 h 216 (ww (h 193 38)) a1) 193 38)) a2) 218 (ww ((u2 (u2 h 216 (ww (h 193 38)) a1) 217 (ww ((u2 h 216 (ww (h 193 38)) a1) 193 38)) a2) 193 38)) a3) 193 38)) a4) 193 38) + 1)))))))
abbrev rm_m_see : Room := { frames := 2, cells := 0, slots := 0, locals := 44 }
set_option maxHeartbeats 4000000 in
set_option maxRecDepth 100000 in
theorem t_m_see {S : SS} (hF : Fx S) {h : HH} {a1 : Int} {a2 : Int} {a3 : Int} {a4 : Int} {res : Int × HH} (hf : m_see h a1 a2 a3 a4 = some res) : CM yX12_see cX12_see 5 (some Jvm.ClassFile.FieldType.int) 2 44 0 0 (fun bs => [zP bs 193, zI a1, zI a2, zI a3, zI a4]) h S (fun _ => some (zI res.1)) res.2 S := by
  refine CM.intro (own := RX12) (by decide) rfl (fun _ => Nat.le_of_ble_eq_true rfl) ?_
  intro D dT bs p l e s m args below meth c C
  show V D dT bs 5 p l e rm_m_see s m args below meth c 0 0 _ h S 0 [(0, zP bs 193), (1, zI a1), (2, zI a2), (3, zI a3), (4, zI a4)] []
  unfold m_see at hf
  refine r_iload_n (pc' := 1) (f4 := 1) (i := 1) C 1 rfl rfl dX12_see_0 rfl ?_
  refine r_iconst (pc' := 2) C dX12_see_1 rfl ?_
  refine r_icmp_ne (pc' := 5) (tgt := 12) C rfl ww_m1 hf dX12_see_2 (by decide) rfl (fun hf => ?_) (fun hf => ?_)
  · refine r_aload_n (pc' := 6) (f4 := 0) (i := 0) C 0 rfl rfl dX12_see_5 rfl ?_
    refine r_iconst (pc' := 7) C dX12_see_6 rfl ?_
    refine q_putI (pc' := 10) (j := 38) C (K_193 hF) fb_12_38 fp_12_38 wd_1209 (Or.inl rfl) (Or.inl rfl) rfl rfl dX12_see_7 rfl ?_
    refine r_iconst (pc' := 11) C dX12_see_10 rfl ?_
    cases hf
    exact r_iret C dX12_see_11
  · refine r_aload_n (pc' := 13) (f4 := 0) (i := 0) C 0 rfl rfl dX12_see_12 rfl ?_
    refine r_iload_n (pc' := 14) (f4 := 1) (i := 1) C 1 rfl rfl dX12_see_13 rfl ?_
    refine q_callV (pc' := 17) C (t_m_isHater hF) rfl (K_193 hF) cl_12 wv_RX12_253 ⟨Nat.le_of_ble_eq_true rfl, Nat.le_of_ble_eq_true rfl⟩ rfl rfl (Nat.le_of_ble_eq_true rfl) dX12_see_14 rfl ⟨Nat.le_of_ble_eq_true rfl, Nat.le_of_ble_eq_true rfl⟩ ?_
    refine r_if_eq (pc' := 20) (tgt := 28) C rfl hf dX12_see_17 (by decide) rfl (fun hf => ?_) (fun hf => ?_)
    · refine r_iconst (pc' := 29) C dX12_see_28 rfl ?_
      cases hf
      exact r_iret C dX12_see_29
    · refine r_aload_n (pc' := 21) (f4 := 0) (i := 0) C 0 rfl rfl dX12_see_20 rfl ?_
      refine r_iload_n (pc' := 22) (f4 := 2) (i := 2) C 2 rfl rfl dX12_see_21 rfl ?_
      refine q_callV (pc' := 25) C (t_m_isTree hF) rfl (K_193 hF) cl_12 wv_RX12_256 ⟨Nat.le_of_ble_eq_true rfl, Nat.le_of_ble_eq_true rfl⟩ rfl rfl (Nat.le_of_ble_eq_true rfl) dX12_see_22 rfl ⟨Nat.le_of_ble_eq_true rfl, Nat.le_of_ble_eq_true rfl⟩ ?_
      refine r_if_ne (pc' := 28) (tgt := 30) C rfl hf dX12_see_25 (by decide) rfl (fun hf => ?_) (fun hf => ?_)
      · refine r_iconst (pc' := 29) C dX12_see_28 rfl ?_
        cases hf
        exact r_iret C dX12_see_29
      · refine r_aload_n (pc' := 31) (f4 := 0) (i := 0) C 0 rfl rfl dX12_see_30 rfl ?_
        refine r_iload_n (pc' := 32) (f4 := 3) (i := 3) C 3 rfl rfl dX12_see_31 rfl ?_
        refine r_iconst (pc' := 33) C dX12_see_32 rfl ?_
        refine r_bipush (pc' := 35) C rfl dX12_see_33 rfl ?_
        refine q_callV (pc' := 38) C (t_m_in hF) rfl (K_193 hF) cl_12 wv_RX12_245 ⟨Nat.le_of_ble_eq_true rfl, Nat.le_of_ble_eq_true rfl⟩ rfl rfl (Nat.le_of_ble_eq_true rfl) dX12_see_35 rfl ⟨Nat.le_of_ble_eq_true rfl, Nat.le_of_ble_eq_true rfl⟩ ?_
        refine r_if_ne (pc' := 41) (tgt := 44) C rfl hf dX12_see_38 (by decide) rfl (fun hf => ?_) (fun hf => ?_)
        · refine r_bipush (pc' := 43) C rfl dX12_see_41 rfl ?_
          cases hf
          exact r_iret C dX12_see_43
        · refine r_aload_n (pc' := 45) (f4 := 0) (i := 0) C 0 rfl rfl dX12_see_44 rfl ?_
          refine q_getI (pc' := 48) (j := 38) C (K_193 hF) fb_12_38 wd_1209 (Or.inl rfl) dX12_see_45 rfl ?_
          refine r_iconst (pc' := 49) C dX12_see_48 rfl ?_
          refine r_icmp_ne (pc' := 52) (tgt := 55) C rfl ww_n5 hf dX12_see_49 (by decide) rfl (fun hf => ?_) (fun hf => ?_)
          · refine r_bipush (pc' := 54) C rfl dX12_see_52 rfl ?_
            cases hf
            exact r_iret C dX12_see_54
          · refine r_aload_n (pc' := 56) (f4 := 0) (i := 0) C 0 rfl rfl dX12_see_55 rfl ?_
            refine q_getP (pc' := 59) (j := 39) C (K_193 hF) fb_12_39 (by decide) wd_1210 (Or.inl rfl) (F_193_39 hF) (by decide) dX12_see_56 rfl ?_
            refine r_aload_n (pc' := 60) (f4 := 0) (i := 0) C 0 rfl rfl dX12_see_59 rfl ?_
            refine q_getI (pc' := 63) (j := 38) C (K_193 hF) fb_12_38 wd_1209 (Or.inl rfl) dX12_see_60 rfl ?_
            refine r_iload_n (pc' := 64) (f4 := 1) (i := 1) C 1 rfl rfl dX12_see_63 rfl ?_
            obtain ⟨hi, hf⟩ := ck_in hf
            refine r_iast (pc' := 65) C (K_216 hF) rfl hi dX12_see_64 rfl ?_
            refine r_aload_n (pc' := 66) (f4 := 0) (i := 0) C 0 rfl rfl dX12_see_65 rfl ?_
            refine q_getP (pc' := 69) (j := 40) C (K_193 hF) fb_12_40 (by decide) wd_1211 (Or.inl rfl) (F_193_40 hF) (by decide) dX12_see_66 rfl ?_
            refine r_aload_n (pc' := 70) (f4 := 0) (i := 0) C 0 rfl rfl dX12_see_69 rfl ?_
            refine q_getI (pc' := 73) (j := 38) C (K_193 hF) fb_12_38 wd_1209 (Or.inl rfl) dX12_see_70 rfl ?_
            refine r_iload_n (pc' := 74) (f4 := 2) (i := 2) C 2 rfl rfl dX12_see_73 rfl ?_
            obtain ⟨hi, hf⟩ := ck_in hf
            refine r_iast (pc' := 75) C (K_217 hF) rfl hi dX12_see_74 rfl ?_
            refine r_aload_n (pc' := 76) (f4 := 0) (i := 0) C 0 rfl rfl dX12_see_75 rfl ?_
            refine q_getP (pc' := 79) (j := 41) C (K_193 hF) fb_12_41 (by decide) wd_1212 (Or.inl rfl) (F_193_41 hF) (by decide) dX12_see_76 rfl ?_
            refine r_aload_n (pc' := 80) (f4 := 0) (i := 0) C 0 rfl rfl dX12_see_79 rfl ?_
            refine q_getI (pc' := 83) (j := 38) C (K_193 hF) fb_12_38 wd_1209 (Or.inl rfl) dX12_see_80 rfl ?_
            refine r_iload_n (pc' := 84) (f4 := 3) (i := 3) C 3 rfl rfl dX12_see_83 rfl ?_
            obtain ⟨hi, hf⟩ := ck_in hf
            refine r_iast (pc' := 85) C (K_218 hF) rfl hi dX12_see_84 rfl ?_
            refine r_aload_n (pc' := 86) (f4 := 0) (i := 0) C 0 rfl rfl dX12_see_85 rfl ?_
            refine q_getP (pc' := 89) (j := 42) C (K_193 hF) fb_12_42 (by decide) wd_1213 (Or.inl rfl) (F_193_42 hF) (by decide) dX12_see_86 rfl ?_
            refine r_aload_n (pc' := 90) (f4 := 0) (i := 0) C 0 rfl rfl dX12_see_89 rfl ?_
            refine q_getI (pc' := 93) (j := 38) C (K_193 hF) fb_12_38 wd_1209 (Or.inl rfl) dX12_see_90 rfl ?_
            refine r_iload (pc' := 95) (i := 4) C 4 rfl dX12_see_93 rfl ?_
            obtain ⟨hi, hf⟩ := ck_in hf
            obtain ⟨hz, hf⟩ := ckb_in hf
            refine r_zast (pc' := 96) C (K_219 hF) rfl (zb_nar hz) hi dX12_see_95 rfl ?_
            refine r_aload_n (pc' := 97) (f4 := 0) (i := 0) C 0 rfl rfl dX12_see_96 rfl ?_
            refine r_dup (pc' := 98) C rfl dX12_see_97 rfl ?_
            refine q_getI (pc' := 101) (j := 38) C (K_193 hF) fb_12_38 wd_1209 (Or.inl rfl) dX12_see_98 rfl ?_
            refine r_iconst (pc' := 102) C dX12_see_101 rfl ?_
            refine r_iadd (pc' := 103) C dX12_see_102 rfl ?_
            refine q_putI (pc' := 106) (j := 38) C (K_193 hF) fb_12_38 fp_12_38 wd_1209 (Or.inl rfl) (Or.inl rfl) rfl rfl dX12_see_103 rfl ?_
            refine r_aload_n (pc' := 107) (f4 := 0) (i := 0) C 0 rfl rfl dX12_see_106 rfl ?_
            refine q_getI (pc' := 110) (j := 38) C (K_193 hF) fb_12_38 wd_1209 (Or.inl rfl) dX12_see_107 rfl ?_
            cases hf
            exact r_iret C dX12_see_110

/- WassailEnemiesModel.isSeen(II)Z -/
def m_isSeen_L11 (x1 : Int) (x2 : Int) (x3 : Int) : Nat → HH → Int → Int → Option (Int × HH)
  | 0, _, _, _ => none
  | n11 + 1, h, x4, x5 =>
    if ww x5 < ww (h 193 38) then (ck (ww x5) 5 <| if ww (h 216 (ww x5)) = ww x1 then (if ww x2 < 0 then (ck (ww x5) 5 <| if ww x4 = 0 then (m_isSeen_L11 x1 x2 x3 n11 (u2 h 193 2 (x3 + (h 218 (ww x5)))) 0 (x5 + 1)) else (ck (ww x5) 5 <| (m_bears (u2 h 193 2 (x3 + (h 218 (ww x5)))) x1 ((u2 h 193 2 (x3 + (h 218 (ww x5)))) 217 (ww x5))).bind fun q1 => ck (ww x5) 5 <| if ww q1.1 = ww (q1.2 219 (ww x5)) then (m_isSeen_L11 x1 x2 x3 n11 q1.2 1 (x5 + 1)) else (m_isSeen_L11 x1 x2 x3 n11 q1.2 0 (x5 + 1)))) else (ck (ww x5) 5 <| if ww (h 217 (ww x5)) = ww x2 then (ck (ww x5) 5 <| if ww x4 = 0 then (m_isSeen_L11 x1 x2 x3 n11 (u2 h 193 2 (x3 + (h 218 (ww x5)))) 0 (x5 + 1)) else (ck (ww x5) 5 <| (m_bears (u2 h 193 2 (x3 + (h 218 (ww x5)))) x1 ((u2 h 193 2 (x3 + (h 218 (ww x5)))) 217 (ww x5))).bind fun q2 => ck (ww x5) 5 <| if ww q2.1 = ww (q2.2 219 (ww x5)) then (m_isSeen_L11 x1 x2 x3 n11 q2.2 1 (x5 + 1)) else (m_isSeen_L11 x1 x2 x3 n11 q2.2 0 (x5 + 1)))) else (m_isSeen_L11 x1 x2 x3 n11 h x4 (x5 + 1)))) else (m_isSeen_L11 x1 x2 x3 n11 h x4 (x5 + 1))) else (ckb x4 <| some (x4, u2 h 193 2 x3))
def m_isSeen (h : HH) (a1 : Int) (a2 : Int) : Option (Int × HH) :=
  m_isSeen_L11 a1 a2 (h 193 2) FU h 1 0
abbrev rm_m_isSeen : Room := { frames := 5, cells := 0, slots := 0, locals := 122 }
set_option maxHeartbeats 4000000 in
set_option maxRecDepth 100000 in
theorem w_m_isSeen_L11 (hF : Fx S) (C : Cx D dT bs RX12 cX12_isSeen 6 (some Jvm.ClassFile.FieldType.boolean) p s m args meth c) (x1 : Int) (x2 : Int) (x3 : Int) {res : (Int × HH)} :
    ∀ (n : Nat) (h : HH) (x4 : Int) (x5 : Int), m_isSeen_L11 x1 x2 x3 n h x4 x5 = some res → V D dT bs 6 p l e rm_m_isSeen s m args below meth c 0 0 (MQ below (QQ D dT bs (some (zI res.1)) res.2 S) args s 0 0 (AA bs)) h S 11 [(0, zP bs 193), (1, zI x1), (2, zI x2), (3, zI x3), (4, zI x4), (5, zI x5)] [] := by
  intro n
  induction n with
  | zero => intro h x4 x5 hf; simp [m_isSeen_L11] at hf
  | succ n11 ih11 =>
    intro h x4 x5 hf
    rw [m_isSeen_L11] at hf
    refine r_iload (pc' := 13) (i := 5) C 5 rfl dX12_isSeen_11 rfl ?_
    refine r_aload_n (pc' := 14) (f4 := 0) (i := 0) C 0 rfl rfl dX12_isSeen_13 rfl ?_
    refine q_getI (pc' := 17) (j := 38) C (K_193 hF) fb_12_38 wd_1209 (Or.inl rfl) dX12_isSeen_14 rfl ?_
    refine r_icmp_ge (pc' := 20) (tgt := 102) C rfl rfl hf dX12_isSeen_17 (by decide) rfl (fun hf => ?_) (fun hf => ?_)
    · refine r_aload_n (pc' := 21) (f4 := 0) (i := 0) C 0 rfl rfl dX12_isSeen_20 rfl ?_
      refine q_getP (pc' := 24) (j := 39) C (K_193 hF) fb_12_39 (by decide) wd_1210 (Or.inl rfl) (F_193_39 hF) (by decide) dX12_isSeen_21 rfl ?_
      refine r_iload (pc' := 26) (i := 5) C 5 rfl dX12_isSeen_24 rfl ?_
      obtain ⟨hi, hf⟩ := ck_in hf
      refine r_iald (pc' := 27) C (K_216 hF) rfl hi dX12_isSeen_26 rfl ?_
      refine r_iload_n (pc' := 28) (f4 := 1) (i := 1) C 1 rfl rfl dX12_isSeen_27 rfl ?_
      refine r_icmp_ne (pc' := 31) (tgt := 96) C rfl rfl hf dX12_isSeen_28 (by decide) rfl (fun hf => ?_) (fun hf => ?_)
      · refine r_iload_n (pc' := 32) (f4 := 2) (i := 2) C 2 rfl rfl dX12_isSeen_31 rfl ?_
        refine r_if_lt (pc' := 35) (tgt := 49) C rfl hf dX12_isSeen_32 (by decide) rfl (fun hf => ?_) (fun hf => ?_)
        · refine r_aload_n (pc' := 50) (f4 := 0) (i := 0) C 0 rfl rfl dX12_isSeen_49 rfl ?_
          refine r_iload_n (pc' := 51) (f4 := 3) (i := 3) C 3 rfl rfl dX12_isSeen_50 rfl ?_
          refine r_aload_n (pc' := 52) (f4 := 0) (i := 0) C 0 rfl rfl dX12_isSeen_51 rfl ?_
          refine q_getP (pc' := 55) (j := 41) C (K_193 hF) fb_12_41 (by decide) wd_1212 (Or.inl rfl) (F_193_41 hF) (by decide) dX12_isSeen_52 rfl ?_
          refine r_iload (pc' := 57) (i := 5) C 5 rfl dX12_isSeen_55 rfl ?_
          obtain ⟨hi, hf⟩ := ck_in hf
          refine r_iald (pc' := 58) C (K_218 hF) rfl hi dX12_isSeen_57 rfl ?_
          refine r_iadd (pc' := 59) C dX12_isSeen_58 rfl ?_
          refine q_putI (pc' := 62) (j := 2) C (K_193 hF) fb_12_2 fp_12_2 wd_1173 (Or.inl rfl) (Or.inl rfl) rfl rfl dX12_isSeen_59 rfl ?_
          refine r_iload (pc' := 64) (i := 4) C 4 rfl dX12_isSeen_62 rfl ?_
          refine r_if_eq (pc' := 67) (tgt := 93) C rfl hf dX12_isSeen_64 (by decide) rfl (fun hf => ?_) (fun hf => ?_)
          · refine r_iconst (pc' := 94) C dX12_isSeen_93 rfl ?_
            refine r_istore (pc' := 96) (i := 4) (L' := [(4, zI 0), (0, zP bs 193), (1, zI x1), (2, zI x2), (3, zI x3), (5, zI x5)]) C (by decide) rfl dX12_isSeen_94 rfl ?_
            refine r_iinc (pc' := 99) (i := 5) (L' := [(5, zI (x5 + 1)), (4, zI 0), (0, zP bs 193), (1, zI x1), (2, zI x2), (3, zI x3)]) C 5 rfl (by decide) rfl dX12_isSeen_96 rfl ?_
            refine r_goto (tgt := 11) C dX12_isSeen_99 (by decide) ?_
            refine V.sub (L' := [(0, zP bs 193), (1, zI x1), (2, zI x2), (3, zI x3), (4, zI 0), (5, zI (x5 + 1))]) [2, 3, 4, 5, 1, 0] rfl ?_
            exact ih11 _ _ _ hf
          · refine r_aload_n (pc' := 68) (f4 := 0) (i := 0) C 0 rfl rfl dX12_isSeen_67 rfl ?_
            refine r_iload_n (pc' := 69) (f4 := 1) (i := 1) C 1 rfl rfl dX12_isSeen_68 rfl ?_
            refine r_aload_n (pc' := 70) (f4 := 0) (i := 0) C 0 rfl rfl dX12_isSeen_69 rfl ?_
            refine q_getP (pc' := 73) (j := 40) C (K_193 hF) fb_12_40 (by decide) wd_1211 (Or.inl rfl) (F_193_40 hF) (by decide) dX12_isSeen_70 rfl ?_
            refine r_iload (pc' := 75) (i := 5) C 5 rfl dX12_isSeen_73 rfl ?_
            obtain ⟨hi, hf⟩ := ck_in hf
            refine r_iald (pc' := 76) C (K_217 hF) rfl hi dX12_isSeen_75 rfl ?_
            obtain ⟨q1, hq1, hf⟩ := bind_in hf
            refine q_callV (pc' := 79) C (t_m_bears hF hq1) rfl (K_193 hF) cl_12 wv_RX12_343 ⟨Nat.le_of_ble_eq_true rfl, Nat.le_of_ble_eq_true rfl⟩ rfl rfl (Nat.le_of_ble_eq_true rfl) dX12_isSeen_76 rfl ⟨Nat.le_of_ble_eq_true rfl, Nat.le_of_ble_eq_true rfl⟩ ?_
            refine r_aload_n (pc' := 80) (f4 := 0) (i := 0) C 0 rfl rfl dX12_isSeen_79 rfl ?_
            refine q_getP (pc' := 83) (j := 42) C (K_193 hF) fb_12_42 (by decide) wd_1213 (Or.inl rfl) (F_193_42 hF) (by decide) dX12_isSeen_80 rfl ?_
            refine r_iload (pc' := 85) (i := 5) C 5 rfl dX12_isSeen_83 rfl ?_
            obtain ⟨hi, hf⟩ := ck_in hf
            refine r_zald (pc' := 86) C (K_219 hF) rfl hi dX12_isSeen_85 rfl ?_
            refine r_icmp_ne (pc' := 89) (tgt := 93) C rfl rfl hf dX12_isSeen_86 (by decide) rfl (fun hf => ?_) (fun hf => ?_)
            · refine r_iconst (pc' := 90) C dX12_isSeen_89 rfl ?_
              refine r_goto (tgt := 94) C dX12_isSeen_90 (by decide) ?_
              refine r_istore (pc' := 96) (i := 4) (L' := [(4, zI 1), (0, zP bs 193), (1, zI x1), (2, zI x2), (3, zI x3), (5, zI x5)]) C (by decide) rfl dX12_isSeen_94 rfl ?_
              refine r_iinc (pc' := 99) (i := 5) (L' := [(5, zI (x5 + 1)), (4, zI 1), (0, zP bs 193), (1, zI x1), (2, zI x2), (3, zI x3)]) C 5 rfl (by decide) rfl dX12_isSeen_96 rfl ?_
              refine r_goto (tgt := 11) C dX12_isSeen_99 (by decide) ?_
              refine V.sub (L' := [(0, zP bs 193), (1, zI x1), (2, zI x2), (3, zI x3), (4, zI 1), (5, zI (x5 + 1))]) [2, 3, 4, 5, 1, 0] rfl ?_
              exact ih11 _ _ _ hf
            · refine r_iconst (pc' := 94) C dX12_isSeen_93 rfl ?_
              refine r_istore (pc' := 96) (i := 4) (L' := [(4, zI 0), (0, zP bs 193), (1, zI x1), (2, zI x2), (3, zI x3), (5, zI x5)]) C (by decide) rfl dX12_isSeen_94 rfl ?_
              refine r_iinc (pc' := 99) (i := 5) (L' := [(5, zI (x5 + 1)), (4, zI 0), (0, zP bs 193), (1, zI x1), (2, zI x2), (3, zI x3)]) C 5 rfl (by decide) rfl dX12_isSeen_96 rfl ?_
              refine r_goto (tgt := 11) C dX12_isSeen_99 (by decide) ?_
              refine V.sub (L' := [(0, zP bs 193), (1, zI x1), (2, zI x2), (3, zI x3), (4, zI 0), (5, zI (x5 + 1))]) [2, 3, 4, 5, 1, 0] rfl ?_
              exact ih11 _ _ _ hf
        · refine r_aload_n (pc' := 36) (f4 := 0) (i := 0) C 0 rfl rfl dX12_isSeen_35 rfl ?_
          refine q_getP (pc' := 39) (j := 40) C (K_193 hF) fb_12_40 (by decide) wd_1211 (Or.inl rfl) (F_193_40 hF) (by decide) dX12_isSeen_36 rfl ?_
          refine r_iload (pc' := 41) (i := 5) C 5 rfl dX12_isSeen_39 rfl ?_
          obtain ⟨hi, hf⟩ := ck_in hf
          refine r_iald (pc' := 42) C (K_217 hF) rfl hi dX12_isSeen_41 rfl ?_
          refine r_iload_n (pc' := 43) (f4 := 2) (i := 2) C 2 rfl rfl dX12_isSeen_42 rfl ?_
          refine r_icmp_eq (pc' := 46) (tgt := 49) C rfl rfl hf dX12_isSeen_43 (by decide) rfl (fun hf => ?_) (fun hf => ?_)
          · refine r_aload_n (pc' := 50) (f4 := 0) (i := 0) C 0 rfl rfl dX12_isSeen_49 rfl ?_
            refine r_iload_n (pc' := 51) (f4 := 3) (i := 3) C 3 rfl rfl dX12_isSeen_50 rfl ?_
            refine r_aload_n (pc' := 52) (f4 := 0) (i := 0) C 0 rfl rfl dX12_isSeen_51 rfl ?_
            refine q_getP (pc' := 55) (j := 41) C (K_193 hF) fb_12_41 (by decide) wd_1212 (Or.inl rfl) (F_193_41 hF) (by decide) dX12_isSeen_52 rfl ?_
            refine r_iload (pc' := 57) (i := 5) C 5 rfl dX12_isSeen_55 rfl ?_
            obtain ⟨hi, hf⟩ := ck_in hf
            refine r_iald (pc' := 58) C (K_218 hF) rfl hi dX12_isSeen_57 rfl ?_
            refine r_iadd (pc' := 59) C dX12_isSeen_58 rfl ?_
            refine q_putI (pc' := 62) (j := 2) C (K_193 hF) fb_12_2 fp_12_2 wd_1173 (Or.inl rfl) (Or.inl rfl) rfl rfl dX12_isSeen_59 rfl ?_
            refine r_iload (pc' := 64) (i := 4) C 4 rfl dX12_isSeen_62 rfl ?_
            refine r_if_eq (pc' := 67) (tgt := 93) C rfl hf dX12_isSeen_64 (by decide) rfl (fun hf => ?_) (fun hf => ?_)
            · refine r_iconst (pc' := 94) C dX12_isSeen_93 rfl ?_
              refine r_istore (pc' := 96) (i := 4) (L' := [(4, zI 0), (0, zP bs 193), (1, zI x1), (2, zI x2), (3, zI x3), (5, zI x5)]) C (by decide) rfl dX12_isSeen_94 rfl ?_
              refine r_iinc (pc' := 99) (i := 5) (L' := [(5, zI (x5 + 1)), (4, zI 0), (0, zP bs 193), (1, zI x1), (2, zI x2), (3, zI x3)]) C 5 rfl (by decide) rfl dX12_isSeen_96 rfl ?_
              refine r_goto (tgt := 11) C dX12_isSeen_99 (by decide) ?_
              refine V.sub (L' := [(0, zP bs 193), (1, zI x1), (2, zI x2), (3, zI x3), (4, zI 0), (5, zI (x5 + 1))]) [2, 3, 4, 5, 1, 0] rfl ?_
              exact ih11 _ _ _ hf
            · refine r_aload_n (pc' := 68) (f4 := 0) (i := 0) C 0 rfl rfl dX12_isSeen_67 rfl ?_
              refine r_iload_n (pc' := 69) (f4 := 1) (i := 1) C 1 rfl rfl dX12_isSeen_68 rfl ?_
              refine r_aload_n (pc' := 70) (f4 := 0) (i := 0) C 0 rfl rfl dX12_isSeen_69 rfl ?_
              refine q_getP (pc' := 73) (j := 40) C (K_193 hF) fb_12_40 (by decide) wd_1211 (Or.inl rfl) (F_193_40 hF) (by decide) dX12_isSeen_70 rfl ?_
              refine r_iload (pc' := 75) (i := 5) C 5 rfl dX12_isSeen_73 rfl ?_
              obtain ⟨hi, hf⟩ := ck_in hf
              refine r_iald (pc' := 76) C (K_217 hF) rfl hi dX12_isSeen_75 rfl ?_
              obtain ⟨q2, hq2, hf⟩ := bind_in hf
              refine q_callV (pc' := 79) C (t_m_bears hF hq2) rfl (K_193 hF) cl_12 wv_RX12_343 ⟨Nat.le_of_ble_eq_true rfl, Nat.le_of_ble_eq_true rfl⟩ rfl rfl (Nat.le_of_ble_eq_true rfl) dX12_isSeen_76 rfl ⟨Nat.le_of_ble_eq_true rfl, Nat.le_of_ble_eq_true rfl⟩ ?_
              refine r_aload_n (pc' := 80) (f4 := 0) (i := 0) C 0 rfl rfl dX12_isSeen_79 rfl ?_
              refine q_getP (pc' := 83) (j := 42) C (K_193 hF) fb_12_42 (by decide) wd_1213 (Or.inl rfl) (F_193_42 hF) (by decide) dX12_isSeen_80 rfl ?_
              refine r_iload (pc' := 85) (i := 5) C 5 rfl dX12_isSeen_83 rfl ?_
              obtain ⟨hi, hf⟩ := ck_in hf
              refine r_zald (pc' := 86) C (K_219 hF) rfl hi dX12_isSeen_85 rfl ?_
              refine r_icmp_ne (pc' := 89) (tgt := 93) C rfl rfl hf dX12_isSeen_86 (by decide) rfl (fun hf => ?_) (fun hf => ?_)
              · refine r_iconst (pc' := 90) C dX12_isSeen_89 rfl ?_
                refine r_goto (tgt := 94) C dX12_isSeen_90 (by decide) ?_
                refine r_istore (pc' := 96) (i := 4) (L' := [(4, zI 1), (0, zP bs 193), (1, zI x1), (2, zI x2), (3, zI x3), (5, zI x5)]) C (by decide) rfl dX12_isSeen_94 rfl ?_
                refine r_iinc (pc' := 99) (i := 5) (L' := [(5, zI (x5 + 1)), (4, zI 1), (0, zP bs 193), (1, zI x1), (2, zI x2), (3, zI x3)]) C 5 rfl (by decide) rfl dX12_isSeen_96 rfl ?_
                refine r_goto (tgt := 11) C dX12_isSeen_99 (by decide) ?_
                refine V.sub (L' := [(0, zP bs 193), (1, zI x1), (2, zI x2), (3, zI x3), (4, zI 1), (5, zI (x5 + 1))]) [2, 3, 4, 5, 1, 0] rfl ?_
                exact ih11 _ _ _ hf
              · refine r_iconst (pc' := 94) C dX12_isSeen_93 rfl ?_
                refine r_istore (pc' := 96) (i := 4) (L' := [(4, zI 0), (0, zP bs 193), (1, zI x1), (2, zI x2), (3, zI x3), (5, zI x5)]) C (by decide) rfl dX12_isSeen_94 rfl ?_
                refine r_iinc (pc' := 99) (i := 5) (L' := [(5, zI (x5 + 1)), (4, zI 0), (0, zP bs 193), (1, zI x1), (2, zI x2), (3, zI x3)]) C 5 rfl (by decide) rfl dX12_isSeen_96 rfl ?_
                refine r_goto (tgt := 11) C dX12_isSeen_99 (by decide) ?_
                refine V.sub (L' := [(0, zP bs 193), (1, zI x1), (2, zI x2), (3, zI x3), (4, zI 0), (5, zI (x5 + 1))]) [2, 3, 4, 5, 1, 0] rfl ?_
                exact ih11 _ _ _ hf
          · refine r_goto (tgt := 96) C dX12_isSeen_46 (by decide) ?_
            refine r_iinc (pc' := 99) (i := 5) (L' := [(5, zI (x5 + 1)), (0, zP bs 193), (1, zI x1), (2, zI x2), (3, zI x3), (4, zI x4)]) C 5 rfl (by decide) rfl dX12_isSeen_96 rfl ?_
            refine r_goto (tgt := 11) C dX12_isSeen_99 (by decide) ?_
            refine V.sub (L' := [(0, zP bs 193), (1, zI x1), (2, zI x2), (3, zI x3), (4, zI x4), (5, zI (x5 + 1))]) [1, 2, 3, 4, 5, 0] rfl ?_
            exact ih11 _ _ _ hf
      · refine r_iinc (pc' := 99) (i := 5) (L' := [(5, zI (x5 + 1)), (0, zP bs 193), (1, zI x1), (2, zI x2), (3, zI x3), (4, zI x4)]) C 5 rfl (by decide) rfl dX12_isSeen_96 rfl ?_
        refine r_goto (tgt := 11) C dX12_isSeen_99 (by decide) ?_
        refine V.sub (L' := [(0, zP bs 193), (1, zI x1), (2, zI x2), (3, zI x3), (4, zI x4), (5, zI (x5 + 1))]) [1, 2, 3, 4, 5, 0] rfl ?_
        exact ih11 _ _ _ hf
    · refine r_aload_n (pc' := 103) (f4 := 0) (i := 0) C 0 rfl rfl dX12_isSeen_102 rfl ?_
      refine r_iload_n (pc' := 104) (f4 := 3) (i := 3) C 3 rfl rfl dX12_isSeen_103 rfl ?_
      refine q_putI (pc' := 107) (j := 2) C (K_193 hF) fb_12_2 fp_12_2 wd_1173 (Or.inl rfl) (Or.inl rfl) rfl rfl dX12_isSeen_104 rfl ?_
      refine r_iload (pc' := 109) (i := 4) C 4 rfl dX12_isSeen_107 rfl ?_
      obtain ⟨hz, hf⟩ := ckb_in hf
      cases hf
      exact r_zret C hz dX12_isSeen_109
set_option maxHeartbeats 4000000 in
set_option maxRecDepth 100000 in
theorem t_m_isSeen {S : SS} (hF : Fx S) {h : HH} {a1 : Int} {a2 : Int} {res : Int × HH} (hf : m_isSeen h a1 a2 = some res) : CM yX12_isSeen cX12_isSeen 6 (some Jvm.ClassFile.FieldType.boolean) 5 122 0 0 (fun bs => [zP bs 193, zI a1, zI a2]) h S (fun _ => some (zI res.1)) res.2 S := by
  refine CM.intro (own := RX12) (by decide) rfl (fun _ => Nat.le_of_ble_eq_true rfl) ?_
  intro D dT bs p l e s m args below meth c C
  show V D dT bs 6 p l e rm_m_isSeen s m args below meth c 0 0 _ h S 0 [(0, zP bs 193), (1, zI a1), (2, zI a2)] []
  unfold m_isSeen at hf
  refine r_aload_n (pc' := 1) (f4 := 0) (i := 0) C 0 rfl rfl dX12_isSeen_0 rfl ?_
  refine q_getI (pc' := 4) (j := 2) C (K_193 hF) fb_12_2 wd_1173 (Or.inl rfl) dX12_isSeen_1 rfl ?_
  refine r_istore_n (pc' := 5) (f4 := 3) (i := 3) (L' := [(3, zI (h 193 2)), (0, zP bs 193), (1, zI a1), (2, zI a2)]) C rfl (by decide) rfl dX12_isSeen_4 rfl ?_
  refine r_iconst (pc' := 6) C dX12_isSeen_5 rfl ?_
  refine r_istore (pc' := 8) (i := 4) (L' := [(4, zI 1), (3, zI (h 193 2)), (0, zP bs 193), (1, zI a1), (2, zI a2)]) C (by decide) rfl dX12_isSeen_6 rfl ?_
  refine r_iconst (pc' := 9) C dX12_isSeen_8 rfl ?_
  refine r_istore (pc' := 11) (i := 5) (L' := [(5, zI 0), (4, zI 1), (3, zI (h 193 2)), (0, zP bs 193), (1, zI a1), (2, zI a2)]) C (by decide) rfl dX12_isSeen_9 rfl ?_
  refine V.sub (L' := [(0, zP bs 193), (1, zI a1), (2, zI a2), (3, zI (h 193 2)), (4, zI 1), (5, zI 0)]) [3, 4, 5, 2, 1, 0] rfl ?_
  refine w_m_isSeen_L11 hF C _ _ _ _ _ _ _ hf

/- WassailEnemiesModel.hates(III)I -/
def m_hates_L51 (x1 : Int) (x2 : Int) (x3 : Int) (x4 : Int) (k93 : HH → Int → Int → Option (Int × HH)) : Nat → HH → Int → Int → Int → Option (Int × HH)
  | 0, _, _, _, _ => none
  | n51 + 1, h, x5, x6, x7 =>
    if ww x7 < 0 then (k93 h x5 x6) else (ck (ww ((5 * x1) + x2)) 30 <| (m_isSeen (u2 h 196 (ww ((5 * x1) + x2)) x7) x1 x2).bind fun q1 => if ww q1.1 = 0 then (m_hates_L51 x1 x2 x3 x4 k93 n51 q1.2 x5 x6 (x7 + (-1))) else (m_hates_L51 x1 x2 x3 x4 k93 n51 q1.2 (x5 + 1) x7 (x7 + (-1))))
def m_hates (h : HH) (a1 : Int) (a2 : Int) (a3 : Int) : Option (Int × HH) :=
  if ww (m_isHater h a1) = 0 then (some (-1, h)) else (if ww (m_isTree a2) = 0 then (some (-1, h)) else (if ww (m_in a3 0 1) = 0 then (some (-1, h)) else (ck (ww ((5 * a1) + a2)) 30 <| m_hates_L51 a1 a2 a3 (h 196 (ww ((5 * a1) + a2))) (fun h4 y2 y3 => ck (ww ((5 * a1) + a2)) 30 <| if ww a3 = 0 then (some (y2, u2 h4 196 (ww ((5 * a1) + a2)) (h 196 (ww ((5 * a1) + a2))))) else (some (y3, u2 h4 196 (ww ((5 * a1) + a2)) (h 196 (ww ((5 * a1) + a2)))))) FU h 0 (-5) 99)))
abbrev rm_m_hates : Room := { frames := 6, cells := 0, slots := 0, locals := 147 }
set_option maxHeartbeats 4000000 in
set_option maxRecDepth 100000 in
theorem w_m_hates_L51 (hF : Fx S) (C : Cx D dT bs RX12 cX12_hates 8 (some Jvm.ClassFile.FieldType.int) p s m args meth c) (x1 : Int) (x2 : Int) (x3 : Int) (x4 : Int) (k93 : HH → Int → Int → Option (Int × HH)) {res : (Int × HH)} (hk93 : ∀ (h : HH) (x5 : Int) (x6 : Int), k93 h x5 x6 = some res → V D dT bs 8 p l e rm_m_hates s m args below meth c 0 0 (MQ below (QQ D dT bs (some (zI res.1)) res.2 S) args s 0 0 (AA bs)) h S 93 [(0, zP bs 193), (1, zI x1), (2, zI x2), (3, zI x3), (4, zI x4), (5, zI x5), (6, zI x6)] []) :
    ∀ (n : Nat) (h : HH) (x5 : Int) (x6 : Int) (x7 : Int), m_hates_L51 x1 x2 x3 x4 k93 n h x5 x6 x7 = some res → V D dT bs 8 p l e rm_m_hates s m args below meth c 0 0 (MQ below (QQ D dT bs (some (zI res.1)) res.2 S) args s 0 0 (AA bs)) h S 51 [(0, zP bs 193), (1, zI x1), (2, zI x2), (3, zI x3), (4, zI x4), (5, zI x5), (6, zI x6), (7, zI x7)] [] := by
  intro n
  induction n with
  | zero => intro h x5 x6 x7 hf; simp [m_hates_L51] at hf
  | succ n51 ih51 =>
    intro h x5 x6 x7 hf
    rw [m_hates_L51] at hf
    refine r_iload (pc' := 53) (i := 7) C 7 rfl dX12_hates_51 rfl ?_
    refine r_if_lt (pc' := 56) (tgt := 93) C rfl hf dX12_hates_53 (by decide) rfl (fun hf => ?_) (fun hf => ?_)
    · refine V.sub (L' := [(0, zP bs 193), (1, zI x1), (2, zI x2), (3, zI x3), (4, zI x4), (5, zI x5), (6, zI x6)]) [0, 1, 2, 3, 4, 5, 6] rfl ?_
      exact hk93 _ _ _ hf
    · refine r_aload_n (pc' := 57) (f4 := 0) (i := 0) C 0 rfl rfl dX12_hates_56 rfl ?_
      refine q_getP (pc' := 60) (j := 5) C (K_193 hF) fb_12_5 (by decide) wd_1176 (Or.inl rfl) (F_193_5 hF) (by decide) dX12_hates_57 rfl ?_
      refine r_iconst (pc' := 61) C dX12_hates_60 rfl ?_
      refine r_iload_n (pc' := 62) (f4 := 1) (i := 1) C 1 rfl rfl dX12_hates_61 rfl ?_
      refine r_imul (pc' := 63) C dX12_hates_62 rfl ?_
      refine r_iload_n (pc' := 64) (f4 := 2) (i := 2) C 2 rfl rfl dX12_hates_63 rfl ?_
      refine r_iadd (pc' := 65) C dX12_hates_64 rfl ?_
      refine r_iload (pc' := 67) (i := 7) C 7 rfl dX12_hates_65 rfl ?_
      obtain ⟨hi, hf⟩ := ck_in hf
      refine r_iast (pc' := 68) C (K_196 hF) rfl hi dX12_hates_67 rfl ?_
      refine r_aload_n (pc' := 69) (f4 := 0) (i := 0) C 0 rfl rfl dX12_hates_68 rfl ?_
      refine r_iload_n (pc' := 70) (f4 := 1) (i := 1) C 1 rfl rfl dX12_hates_69 rfl ?_
      refine r_iload_n (pc' := 71) (f4 := 2) (i := 2) C 2 rfl rfl dX12_hates_70 rfl ?_
      obtain ⟨q1, hq1, hf⟩ := bind_in hf
      refine q_callV (pc' := 74) C (t_m_isSeen hF hq1) rfl (K_193 hF) cl_12 wv_RX12_403 ⟨Nat.le_of_ble_eq_true rfl, Nat.le_of_ble_eq_true rfl⟩ rfl rfl (Nat.le_of_ble_eq_true rfl) dX12_hates_71 rfl ⟨Nat.le_of_ble_eq_true rfl, Nat.le_of_ble_eq_true rfl⟩ ?_
      refine r_if_ne (pc' := 77) (tgt := 80) C rfl hf dX12_hates_74 (by decide) rfl (fun hf => ?_) (fun hf => ?_)
      · refine r_goto (tgt := 87) C dX12_hates_77 (by decide) ?_
        refine r_iinc (pc' := 90) (i := 7) (L' := [(7, zI (x7 + (-1))), (0, zP bs 193), (1, zI x1), (2, zI x2), (3, zI x3), (4, zI x4), (5, zI x5), (6, zI x6)]) C 7 rfl (by decide) rfl dX12_hates_87 rfl ?_
        refine r_goto (tgt := 51) C dX12_hates_90 (by decide) ?_
        refine V.sub (L' := [(0, zP bs 193), (1, zI x1), (2, zI x2), (3, zI x3), (4, zI x4), (5, zI x5), (6, zI x6), (7, zI (x7 + (-1)))]) [1, 2, 3, 4, 5, 6, 7, 0] rfl ?_
        exact ih51 _ _ _ _ hf
      · refine r_iinc (pc' := 83) (i := 5) (L' := [(5, zI (x5 + 1)), (0, zP bs 193), (1, zI x1), (2, zI x2), (3, zI x3), (4, zI x4), (6, zI x6), (7, zI x7)]) C 5 rfl (by decide) rfl dX12_hates_80 rfl ?_
        refine r_iload (pc' := 85) (i := 7) C 7 rfl dX12_hates_83 rfl ?_
        refine r_istore (pc' := 87) (i := 6) (L' := [(6, zI x7), (5, zI (x5 + 1)), (0, zP bs 193), (1, zI x1), (2, zI x2), (3, zI x3), (4, zI x4), (7, zI x7)]) C (by decide) rfl dX12_hates_85 rfl ?_
        refine r_iinc (pc' := 90) (i := 7) (L' := [(7, zI (x7 + (-1))), (6, zI x7), (5, zI (x5 + 1)), (0, zP bs 193), (1, zI x1), (2, zI x2), (3, zI x3), (4, zI x4)]) C 7 rfl (by decide) rfl dX12_hates_87 rfl ?_
        refine r_goto (tgt := 51) C dX12_hates_90 (by decide) ?_
        refine V.sub (L' := [(0, zP bs 193), (1, zI x1), (2, zI x2), (3, zI x3), (4, zI x4), (5, zI (x5 + 1)), (6, zI x7), (7, zI (x7 + (-1)))]) [3, 4, 5, 6, 7, 2, 1, 0] rfl ?_
        exact ih51 _ _ _ _ hf
set_option maxHeartbeats 4000000 in
set_option maxRecDepth 100000 in
theorem t_m_hates {S : SS} (hF : Fx S) {h : HH} {a1 : Int} {a2 : Int} {a3 : Int} {res : Int × HH} (hf : m_hates h a1 a2 a3 = some res) : CM yX12_hates cX12_hates 8 (some Jvm.ClassFile.FieldType.int) 6 147 0 0 (fun bs => [zP bs 193, zI a1, zI a2, zI a3]) h S (fun _ => some (zI res.1)) res.2 S := by
  refine CM.intro (own := RX12) (by decide) rfl (fun _ => Nat.le_of_ble_eq_true rfl) ?_
  intro D dT bs p l e s m args below meth c C
  show V D dT bs 8 p l e rm_m_hates s m args below meth c 0 0 _ h S 0 [(0, zP bs 193), (1, zI a1), (2, zI a2), (3, zI a3)] []
  unfold m_hates at hf
  refine r_aload_n (pc' := 1) (f4 := 0) (i := 0) C 0 rfl rfl dX12_hates_0 rfl ?_
  refine r_iload_n (pc' := 2) (f4 := 1) (i := 1) C 1 rfl rfl dX12_hates_1 rfl ?_
  refine q_callV (pc' := 5) C (t_m_isHater hF) rfl (K_193 hF) cl_12 wv_RX12_253 ⟨Nat.le_of_ble_eq_true rfl, Nat.le_of_ble_eq_true rfl⟩ rfl rfl (Nat.le_of_ble_eq_true rfl) dX12_hates_2 rfl ⟨Nat.le_of_ble_eq_true rfl, Nat.le_of_ble_eq_true rfl⟩ ?_
  refine r_if_eq (pc' := 8) (tgt := 26) C rfl hf dX12_hates_5 (by decide) rfl (fun hf => ?_) (fun hf => ?_)
  · refine r_iconst (pc' := 27) C dX12_hates_26 rfl ?_
    cases hf
    exact r_iret C dX12_hates_27
  · refine r_aload_n (pc' := 9) (f4 := 0) (i := 0) C 0 rfl rfl dX12_hates_8 rfl ?_
    refine r_iload_n (pc' := 10) (f4 := 2) (i := 2) C 2 rfl rfl dX12_hates_9 rfl ?_
    refine q_callV (pc' := 13) C (t_m_isTree hF) rfl (K_193 hF) cl_12 wv_RX12_256 ⟨Nat.le_of_ble_eq_true rfl, Nat.le_of_ble_eq_true rfl⟩ rfl rfl (Nat.le_of_ble_eq_true rfl) dX12_hates_10 rfl ⟨Nat.le_of_ble_eq_true rfl, Nat.le_of_ble_eq_true rfl⟩ ?_
    refine r_if_eq (pc' := 16) (tgt := 26) C rfl hf dX12_hates_13 (by decide) rfl (fun hf => ?_) (fun hf => ?_)
    · refine r_iconst (pc' := 27) C dX12_hates_26 rfl ?_
      cases hf
      exact r_iret C dX12_hates_27
    · refine r_aload_n (pc' := 17) (f4 := 0) (i := 0) C 0 rfl rfl dX12_hates_16 rfl ?_
      refine r_iload_n (pc' := 18) (f4 := 3) (i := 3) C 3 rfl rfl dX12_hates_17 rfl ?_
      refine r_iconst (pc' := 19) C dX12_hates_18 rfl ?_
      refine r_iconst (pc' := 20) C dX12_hates_19 rfl ?_
      refine q_callV (pc' := 23) C (t_m_in hF) rfl (K_193 hF) cl_12 wv_RX12_245 ⟨Nat.le_of_ble_eq_true rfl, Nat.le_of_ble_eq_true rfl⟩ rfl rfl (Nat.le_of_ble_eq_true rfl) dX12_hates_20 rfl ⟨Nat.le_of_ble_eq_true rfl, Nat.le_of_ble_eq_true rfl⟩ ?_
      refine r_if_ne (pc' := 26) (tgt := 28) C rfl hf dX12_hates_23 (by decide) rfl (fun hf => ?_) (fun hf => ?_)
      · refine r_iconst (pc' := 27) C dX12_hates_26 rfl ?_
        cases hf
        exact r_iret C dX12_hates_27
      · refine r_aload_n (pc' := 29) (f4 := 0) (i := 0) C 0 rfl rfl dX12_hates_28 rfl ?_
        refine q_getP (pc' := 32) (j := 5) C (K_193 hF) fb_12_5 (by decide) wd_1176 (Or.inl rfl) (F_193_5 hF) (by decide) dX12_hates_29 rfl ?_
        refine r_iconst (pc' := 33) C dX12_hates_32 rfl ?_
        refine r_iload_n (pc' := 34) (f4 := 1) (i := 1) C 1 rfl rfl dX12_hates_33 rfl ?_
        refine r_imul (pc' := 35) C dX12_hates_34 rfl ?_
        refine r_iload_n (pc' := 36) (f4 := 2) (i := 2) C 2 rfl rfl dX12_hates_35 rfl ?_
        refine r_iadd (pc' := 37) C dX12_hates_36 rfl ?_
        obtain ⟨hi, hf⟩ := ck_in hf
        refine r_iald (pc' := 38) C (K_196 hF) rfl hi dX12_hates_37 rfl ?_
        refine r_istore (pc' := 40) (i := 4) (L' := [(4, zI (h 196 (ww ((5 * a1) + a2)))), (0, zP bs 193), (1, zI a1), (2, zI a2), (3, zI a3)]) C (by decide) rfl dX12_hates_38 rfl ?_
        refine r_iconst (pc' := 41) C dX12_hates_40 rfl ?_
        refine r_istore (pc' := 43) (i := 5) (L' := [(5, zI 0), (4, zI (h 196 (ww ((5 * a1) + a2)))), (0, zP bs 193), (1, zI a1), (2, zI a2), (3, zI a3)]) C (by decide) rfl dX12_hates_41 rfl ?_
        refine r_bipush (pc' := 45) C rfl dX12_hates_43 rfl ?_
        refine r_istore (pc' := 47) (i := 6) (L' := [(6, zI (-5)), (5, zI 0), (4, zI (h 196 (ww ((5 * a1) + a2)))), (0, zP bs 193), (1, zI a1), (2, zI a2), (3, zI a3)]) C (by decide) rfl dX12_hates_45 rfl ?_
        refine r_bipush (pc' := 49) C rfl dX12_hates_47 rfl ?_
        refine r_istore (pc' := 51) (i := 7) (L' := [(7, zI 99), (6, zI (-5)), (5, zI 0), (4, zI (h 196 (ww ((5 * a1) + a2)))), (0, zP bs 193), (1, zI a1), (2, zI a2), (3, zI a3)]) C (by decide) rfl dX12_hates_49 rfl ?_
        refine V.sub (L' := [(0, zP bs 193), (1, zI a1), (2, zI a2), (3, zI a3), (4, zI (h 196 (ww ((5 * a1) + a2)))), (5, zI 0), (6, zI (-5)), (7, zI 99)]) [4, 5, 6, 7, 3, 2, 1, 0] rfl ?_
        refine w_m_hates_L51 hF C _ _ _ _ _ ?_ _ _ _ _ _ hf
        intro h4 y2 y3 hf
        refine r_aload_n (pc' := 94) (f4 := 0) (i := 0) C 0 rfl rfl dX12_hates_93 rfl ?_
        refine q_getP (pc' := 97) (j := 5) C (K_193 hF) fb_12_5 (by decide) wd_1176 (Or.inl rfl) (F_193_5 hF) (by decide) dX12_hates_94 rfl ?_
        refine r_iconst (pc' := 98) C dX12_hates_97 rfl ?_
        refine r_iload_n (pc' := 99) (f4 := 1) (i := 1) C 1 rfl rfl dX12_hates_98 rfl ?_
        refine r_imul (pc' := 100) C dX12_hates_99 rfl ?_
        refine r_iload_n (pc' := 101) (f4 := 2) (i := 2) C 2 rfl rfl dX12_hates_100 rfl ?_
        refine r_iadd (pc' := 102) C dX12_hates_101 rfl ?_
        refine r_iload (pc' := 104) (i := 4) C 4 rfl dX12_hates_102 rfl ?_
        obtain ⟨hi, hf⟩ := ck_in hf
        refine r_iast (pc' := 105) C (K_196 hF) rfl hi dX12_hates_104 rfl ?_
        refine r_iload_n (pc' := 106) (f4 := 3) (i := 3) C 3 rfl rfl dX12_hates_105 rfl ?_
        refine r_if_ne (pc' := 109) (tgt := 114) C rfl hf dX12_hates_106 (by decide) rfl (fun hf => ?_) (fun hf => ?_)
        · refine r_iload (pc' := 111) (i := 5) C 5 rfl dX12_hates_109 rfl ?_
          refine r_goto (tgt := 116) C dX12_hates_111 (by decide) ?_
          cases hf
          exact r_iret C dX12_hates_116
        · refine r_iload (pc' := 116) (i := 6) C 6 rfl dX12_hates_114 rfl ?_
          cases hf
          exact r_iret C dX12_hates_116

/- WassailEnemiesModel.can(II)I -/
def m_can_L38 (x1 : Int) (x2 : Int) (x3 : Int) : Nat → HH → Int → Int → Int → Option (Int × HH)
  | 0, _, _, _, _ => none
  | n38 + 1, h, x4, x5, x6 =>
    if ww x6 < 0 then (ck (ww x1) 6 <| if ww x2 = 0 then (some (x4, u2 h 195 (ww x1) x3)) else (some (x5, u2 h 195 (ww x1) x3))) else (ck (ww x1) 6 <| (m_isSeen (u2 h 195 (ww x1) x6) x1 (-1)).bind fun q1 => if ww q1.1 = 0 then (m_can_L38 x1 x2 x3 n38 q1.2 x4 x5 (x6 + (-1))) else (m_can_L38 x1 x2 x3 n38 q1.2 (x4 + 1) x6 (x6 + (-1))))
def m_can (h : HH) (a1 : Int) (a2 : Int) : Option (Int × HH) :=
  if ww (m_isHater h a1) = 0 then (some (-1, h)) else (if ww (m_in a2 0 1) = 0 then (some (-1, h)) else (ck (ww a1) 6 <| m_can_L38 a1 a2 (h 195 (ww a1)) FU h 0 (-5) 9))
abbrev rm_m_can : Room := { frames := 6, cells := 0, slots := 0, locals := 147 }
set_option maxHeartbeats 4000000 in
set_option maxRecDepth 100000 in
theorem w_m_can_L38 (hF : Fx S) (C : Cx D dT bs RX12 cX12_can 7 (some Jvm.ClassFile.FieldType.int) p s m args meth c) (x1 : Int) (x2 : Int) (x3 : Int) {res : (Int × HH)} :
    ∀ (n : Nat) (h : HH) (x4 : Int) (x5 : Int) (x6 : Int), m_can_L38 x1 x2 x3 n h x4 x5 x6 = some res → V D dT bs 7 p l e rm_m_can s m args below meth c 0 0 (MQ below (QQ D dT bs (some (zI res.1)) res.2 S) args s 0 0 (AA bs)) h S 38 [(0, zP bs 193), (1, zI x1), (2, zI x2), (3, zI x3), (4, zI x4), (5, zI x5), (6, zI x6)] [] := by
  intro n
  induction n with
  | zero => intro h x4 x5 x6 hf; simp [m_can_L38] at hf
  | succ n38 ih38 =>
    intro h x4 x5 x6 hf
    rw [m_can_L38] at hf
    refine r_iload (pc' := 40) (i := 6) C 6 rfl dX12_can_38 rfl ?_
    refine r_if_lt (pc' := 43) (tgt := 76) C rfl hf dX12_can_40 (by decide) rfl (fun hf => ?_) (fun hf => ?_)
    · refine r_aload_n (pc' := 77) (f4 := 0) (i := 0) C 0 rfl rfl dX12_can_76 rfl ?_
      refine q_getP (pc' := 80) (j := 4) C (K_193 hF) fb_12_4 (by decide) wd_1175 (Or.inl rfl) (F_193_4 hF) (by decide) dX12_can_77 rfl ?_
      refine r_iload_n (pc' := 81) (f4 := 1) (i := 1) C 1 rfl rfl dX12_can_80 rfl ?_
      refine r_iload_n (pc' := 82) (f4 := 3) (i := 3) C 3 rfl rfl dX12_can_81 rfl ?_
      obtain ⟨hi, hf⟩ := ck_in hf
      refine r_iast (pc' := 83) C (K_195 hF) rfl hi dX12_can_82 rfl ?_
      refine r_iload_n (pc' := 84) (f4 := 2) (i := 2) C 2 rfl rfl dX12_can_83 rfl ?_
      refine r_if_ne (pc' := 87) (tgt := 92) C rfl hf dX12_can_84 (by decide) rfl (fun hf => ?_) (fun hf => ?_)
      · refine r_iload (pc' := 89) (i := 4) C 4 rfl dX12_can_87 rfl ?_
        refine r_goto (tgt := 94) C dX12_can_89 (by decide) ?_
        cases hf
        exact r_iret C dX12_can_94
      · refine r_iload (pc' := 94) (i := 5) C 5 rfl dX12_can_92 rfl ?_
        cases hf
        exact r_iret C dX12_can_94
    · refine r_aload_n (pc' := 44) (f4 := 0) (i := 0) C 0 rfl rfl dX12_can_43 rfl ?_
      refine q_getP (pc' := 47) (j := 4) C (K_193 hF) fb_12_4 (by decide) wd_1175 (Or.inl rfl) (F_193_4 hF) (by decide) dX12_can_44 rfl ?_
      refine r_iload_n (pc' := 48) (f4 := 1) (i := 1) C 1 rfl rfl dX12_can_47 rfl ?_
      refine r_iload (pc' := 50) (i := 6) C 6 rfl dX12_can_48 rfl ?_
      obtain ⟨hi, hf⟩ := ck_in hf
      refine r_iast (pc' := 51) C (K_195 hF) rfl hi dX12_can_50 rfl ?_
      refine r_aload_n (pc' := 52) (f4 := 0) (i := 0) C 0 rfl rfl dX12_can_51 rfl ?_
      refine r_iload_n (pc' := 53) (f4 := 1) (i := 1) C 1 rfl rfl dX12_can_52 rfl ?_
      refine r_iconst (pc' := 54) C dX12_can_53 rfl ?_
      obtain ⟨q1, hq1, hf⟩ := bind_in hf
      refine q_callV (pc' := 57) C (t_m_isSeen hF hq1) rfl (K_193 hF) cl_12 wv_RX12_403 ⟨Nat.le_of_ble_eq_true rfl, Nat.le_of_ble_eq_true rfl⟩ rfl rfl (Nat.le_of_ble_eq_true rfl) dX12_can_54 rfl ⟨Nat.le_of_ble_eq_true rfl, Nat.le_of_ble_eq_true rfl⟩ ?_
      refine r_if_ne (pc' := 60) (tgt := 63) C rfl hf dX12_can_57 (by decide) rfl (fun hf => ?_) (fun hf => ?_)
      · refine r_goto (tgt := 70) C dX12_can_60 (by decide) ?_
        refine r_iinc (pc' := 73) (i := 6) (L' := [(6, zI (x6 + (-1))), (0, zP bs 193), (1, zI x1), (2, zI x2), (3, zI x3), (4, zI x4), (5, zI x5)]) C 6 rfl (by decide) rfl dX12_can_70 rfl ?_
        refine r_goto (tgt := 38) C dX12_can_73 (by decide) ?_
        refine V.sub (L' := [(0, zP bs 193), (1, zI x1), (2, zI x2), (3, zI x3), (4, zI x4), (5, zI x5), (6, zI (x6 + (-1)))]) [1, 2, 3, 4, 5, 6, 0] rfl ?_
        exact ih38 _ _ _ _ hf
      · refine r_iinc (pc' := 66) (i := 4) (L' := [(4, zI (x4 + 1)), (0, zP bs 193), (1, zI x1), (2, zI x2), (3, zI x3), (5, zI x5), (6, zI x6)]) C 4 rfl (by decide) rfl dX12_can_63 rfl ?_
        refine r_iload (pc' := 68) (i := 6) C 6 rfl dX12_can_66 rfl ?_
        refine r_istore (pc' := 70) (i := 5) (L' := [(5, zI x6), (4, zI (x4 + 1)), (0, zP bs 193), (1, zI x1), (2, zI x2), (3, zI x3), (6, zI x6)]) C (by decide) rfl dX12_can_68 rfl ?_
        refine r_iinc (pc' := 73) (i := 6) (L' := [(6, zI (x6 + (-1))), (5, zI x6), (4, zI (x4 + 1)), (0, zP bs 193), (1, zI x1), (2, zI x2), (3, zI x3)]) C 6 rfl (by decide) rfl dX12_can_70 rfl ?_
        refine r_goto (tgt := 38) C dX12_can_73 (by decide) ?_
        refine V.sub (L' := [(0, zP bs 193), (1, zI x1), (2, zI x2), (3, zI x3), (4, zI (x4 + 1)), (5, zI x6), (6, zI (x6 + (-1)))]) [3, 4, 5, 6, 2, 1, 0] rfl ?_
        exact ih38 _ _ _ _ hf
set_option maxHeartbeats 4000000 in
set_option maxRecDepth 100000 in
theorem t_m_can {S : SS} (hF : Fx S) {h : HH} {a1 : Int} {a2 : Int} {res : Int × HH} (hf : m_can h a1 a2 = some res) : CM yX12_can cX12_can 7 (some Jvm.ClassFile.FieldType.int) 6 147 0 0 (fun bs => [zP bs 193, zI a1, zI a2]) h S (fun _ => some (zI res.1)) res.2 S := by
  refine CM.intro (own := RX12) (by decide) rfl (fun _ => Nat.le_of_ble_eq_true rfl) ?_
  intro D dT bs p l e s m args below meth c C
  show V D dT bs 7 p l e rm_m_can s m args below meth c 0 0 _ h S 0 [(0, zP bs 193), (1, zI a1), (2, zI a2)] []
  unfold m_can at hf
  refine r_aload_n (pc' := 1) (f4 := 0) (i := 0) C 0 rfl rfl dX12_can_0 rfl ?_
  refine r_iload_n (pc' := 2) (f4 := 1) (i := 1) C 1 rfl rfl dX12_can_1 rfl ?_
  refine q_callV (pc' := 5) C (t_m_isHater hF) rfl (K_193 hF) cl_12 wv_RX12_253 ⟨Nat.le_of_ble_eq_true rfl, Nat.le_of_ble_eq_true rfl⟩ rfl rfl (Nat.le_of_ble_eq_true rfl) dX12_can_2 rfl ⟨Nat.le_of_ble_eq_true rfl, Nat.le_of_ble_eq_true rfl⟩ ?_
  refine r_if_eq (pc' := 8) (tgt := 18) C rfl hf dX12_can_5 (by decide) rfl (fun hf => ?_) (fun hf => ?_)
  · refine r_iconst (pc' := 19) C dX12_can_18 rfl ?_
    cases hf
    exact r_iret C dX12_can_19
  · refine r_aload_n (pc' := 9) (f4 := 0) (i := 0) C 0 rfl rfl dX12_can_8 rfl ?_
    refine r_iload_n (pc' := 10) (f4 := 2) (i := 2) C 2 rfl rfl dX12_can_9 rfl ?_
    refine r_iconst (pc' := 11) C dX12_can_10 rfl ?_
    refine r_iconst (pc' := 12) C dX12_can_11 rfl ?_
    refine q_callV (pc' := 15) C (t_m_in hF) rfl (K_193 hF) cl_12 wv_RX12_245 ⟨Nat.le_of_ble_eq_true rfl, Nat.le_of_ble_eq_true rfl⟩ rfl rfl (Nat.le_of_ble_eq_true rfl) dX12_can_12 rfl ⟨Nat.le_of_ble_eq_true rfl, Nat.le_of_ble_eq_true rfl⟩ ?_
    refine r_if_ne (pc' := 18) (tgt := 20) C rfl hf dX12_can_15 (by decide) rfl (fun hf => ?_) (fun hf => ?_)
    · refine r_iconst (pc' := 19) C dX12_can_18 rfl ?_
      cases hf
      exact r_iret C dX12_can_19
    · refine r_aload_n (pc' := 21) (f4 := 0) (i := 0) C 0 rfl rfl dX12_can_20 rfl ?_
      refine q_getP (pc' := 24) (j := 4) C (K_193 hF) fb_12_4 (by decide) wd_1175 (Or.inl rfl) (F_193_4 hF) (by decide) dX12_can_21 rfl ?_
      refine r_iload_n (pc' := 25) (f4 := 1) (i := 1) C 1 rfl rfl dX12_can_24 rfl ?_
      obtain ⟨hi, hf⟩ := ck_in hf
      refine r_iald (pc' := 26) C (K_195 hF) rfl hi dX12_can_25 rfl ?_
      refine r_istore_n (pc' := 27) (f4 := 3) (i := 3) (L' := [(3, zI (h 195 (ww a1))), (0, zP bs 193), (1, zI a1), (2, zI a2)]) C rfl (by decide) rfl dX12_can_26 rfl ?_
      refine r_iconst (pc' := 28) C dX12_can_27 rfl ?_
      refine r_istore (pc' := 30) (i := 4) (L' := [(4, zI 0), (3, zI (h 195 (ww a1))), (0, zP bs 193), (1, zI a1), (2, zI a2)]) C (by decide) rfl dX12_can_28 rfl ?_
      refine r_bipush (pc' := 32) C rfl dX12_can_30 rfl ?_
      refine r_istore (pc' := 34) (i := 5) (L' := [(5, zI (-5)), (4, zI 0), (3, zI (h 195 (ww a1))), (0, zP bs 193), (1, zI a1), (2, zI a2)]) C (by decide) rfl dX12_can_32 rfl ?_
      refine r_bipush (pc' := 36) C rfl dX12_can_34 rfl ?_
      refine r_istore (pc' := 38) (i := 6) (L' := [(6, zI 9), (5, zI (-5)), (4, zI 0), (3, zI (h 195 (ww a1))), (0, zP bs 193), (1, zI a1), (2, zI a2)]) C (by decide) rfl dX12_can_36 rfl ?_
      refine V.sub (L' := [(0, zP bs 193), (1, zI a1), (2, zI a2), (3, zI (h 195 (ww a1))), (4, zI 0), (5, zI (-5)), (6, zI 9)]) [4, 5, 6, 3, 2, 1, 0] rfl ?_
      refine w_m_can_L38 hF C _ _ _ _ _ _ _ _ hf

/- WassailEnemiesModel.divisor(II)I -/
def m_divisor_L5 : Nat → Int → Int → Option Int
  | 0, _, _ => none
  | n5 + 1, x3, x4 =>
    if ww x4 = 0 then (some x3) else (ckz (ww x4) <| m_divisor_L5 n5 x4 (zrem x3 x4))
def m_divisor (a1 : Int) (a2 : Int) : Option Int :=
  m_divisor_L5 FU a1 a2
abbrev rm_m_divisor : Room := { frames := 0, cells := 0, slots := 0, locals := 0 }
set_option maxHeartbeats 4000000 in
set_option maxRecDepth 100000 in
theorem w_m_divisor_L5 (hF : Fx S) (C : Cx D dT bs RX12 cX12_divisor 6 (some Jvm.ClassFile.FieldType.int) p s m args meth c) {h : HH} {res : Int} :
    ∀ (n : Nat) (x3 : Int) (x4 : Int), m_divisor_L5 n x3 x4 = some res → V D dT bs 6 p l e rm_m_divisor s m args below meth c 0 0 (MQ below (QQ D dT bs (some (zI res)) h S) args s 0 0 (AA bs)) h S 5 [(3, zI x3), (4, zI x4)] [] := by
  intro n
  induction n with
  | zero => intro x3 x4 hf; simp [m_divisor_L5] at hf
  | succ n5 ih5 =>
    intro x3 x4 hf
    rw [m_divisor_L5] at hf
    refine r_iload (pc' := 7) (i := 4) C 1 rfl dX12_divisor_5 rfl ?_
    refine r_if_eq (pc' := 10) (tgt := 26) C rfl hf dX12_divisor_7 (by decide) rfl (fun hf => ?_) (fun hf => ?_)
    · refine r_iload_n (pc' := 27) (f4 := 3) (i := 3) C 0 rfl rfl dX12_divisor_26 rfl ?_
      cases hf
      exact r_iret C dX12_divisor_27
    · refine r_iload_n (pc' := 11) (f4 := 3) (i := 3) C 0 rfl rfl dX12_divisor_10 rfl ?_
      refine r_iload (pc' := 13) (i := 4) C 1 rfl dX12_divisor_11 rfl ?_
      obtain ⟨hz, hf⟩ := ckz_in hf
      refine r_irem (pc' := 14) C rfl hz dX12_divisor_13 rfl ?_
      refine r_istore (pc' := 16) (i := 5) (L' := [(5, zI (zrem x3 x4)), (3, zI x3), (4, zI x4)]) C (by decide) rfl dX12_divisor_14 rfl ?_
      refine r_iload (pc' := 18) (i := 4) C 2 rfl dX12_divisor_16 rfl ?_
      refine r_istore_n (pc' := 19) (f4 := 3) (i := 3) (L' := [(3, zI x4), (5, zI (zrem x3 x4)), (4, zI x4)]) C rfl (by decide) rfl dX12_divisor_18 rfl ?_
      refine r_iload (pc' := 21) (i := 5) C 1 rfl dX12_divisor_19 rfl ?_
      refine r_istore (pc' := 23) (i := 4) (L' := [(4, zI (zrem x3 x4)), (3, zI x4), (5, zI (zrem x3 x4))]) C (by decide) rfl dX12_divisor_21 rfl ?_
      refine r_goto (tgt := 5) C dX12_divisor_23 (by decide) ?_
      refine V.sub (L' := [(3, zI x4), (4, zI (zrem x3 x4))]) [1, 0] rfl ?_
      exact ih5 _ _ hf
set_option maxHeartbeats 4000000 in
set_option maxRecDepth 100000 in
theorem t_m_divisor {S : SS} (hF : Fx S) {h : HH} {a1 : Int} {a2 : Int} {res : Int} (hf : m_divisor a1 a2 = some res) : CM yX12_divisor cX12_divisor 6 (some Jvm.ClassFile.FieldType.int) 0 0 0 0 (fun bs => [zP bs 193, zI a1, zI a2]) h S (fun _ => some (zI res)) h S := by
  refine CM.intro (own := RX12) (by decide) rfl (fun _ => Nat.le_of_ble_eq_true rfl) ?_
  intro D dT bs p l e s m args below meth c C
  show V D dT bs 6 p l e rm_m_divisor s m args below meth c 0 0 _ h S 0 [(0, zP bs 193), (1, zI a1), (2, zI a2)] []
  unfold m_divisor at hf
  refine r_iload_n (pc' := 1) (f4 := 1) (i := 1) C 1 rfl rfl dX12_divisor_0 rfl ?_
  refine r_istore_n (pc' := 2) (f4 := 3) (i := 3) (L' := [(3, zI a1), (0, zP bs 193), (1, zI a1), (2, zI a2)]) C rfl (by decide) rfl dX12_divisor_1 rfl ?_
  refine r_iload_n (pc' := 3) (f4 := 2) (i := 2) C 3 rfl rfl dX12_divisor_2 rfl ?_
  refine r_istore (pc' := 5) (i := 4) (L' := [(4, zI a2), (3, zI a1), (0, zP bs 193), (1, zI a1), (2, zI a2)]) C (by decide) rfl dX12_divisor_3 rfl ?_
  refine V.sub (L' := [(3, zI a1), (4, zI a2)]) [1, 0] rfl ?_
  refine w_m_divisor_L5 hF C _ _ _ hf

/- WassailEnemiesModel.lowest(III)J -/
def m_lowest (a1 : Int) (a2 : Int) (a3 : Int) : Option Int :=
  (m_divisor a1 a2).bind fun q1 => if ww a3 = 0 then (ckz (ww q1) <| some (zi2l (zdiv a1 q1))) else (ckz (ww q1) <| some (zi2l (zdiv a2 q1)))
abbrev rm_m_lowest : Room := { frames := 1, cells := 0, slots := 0, locals := 25 }
set_option maxHeartbeats 4000000 in
set_option maxRecDepth 100000 in
theorem t_m_lowest {S : SS} (hF : Fx S) {h : HH} {a1 : Int} {a2 : Int} {a3 : Int} {res : Int} (hf : m_lowest a1 a2 a3 = some res) : CM yX12_lowest cX12_lowest 5 (some Jvm.ClassFile.FieldType.long) 1 25 0 0 (fun bs => [zP bs 193, zI a1, zI a2, zI a3]) h S (fun _ => some (zL res)) h S := by
  refine CM.intro (own := RX12) (by decide) rfl (fun _ => Nat.le_of_ble_eq_true rfl) ?_
  intro D dT bs p l e s m args below meth c C
  show V D dT bs 5 p l e rm_m_lowest s m args below meth c 0 0 _ h S 0 [(0, zP bs 193), (1, zI a1), (2, zI a2), (3, zI a3)] []
  unfold m_lowest at hf
  refine r_aload_n (pc' := 1) (f4 := 0) (i := 0) C 0 rfl rfl dX12_lowest_0 rfl ?_
  refine r_iload_n (pc' := 2) (f4 := 1) (i := 1) C 1 rfl rfl dX12_lowest_1 rfl ?_
  refine r_iload_n (pc' := 3) (f4 := 2) (i := 2) C 2 rfl rfl dX12_lowest_2 rfl ?_
  obtain ⟨q1, hq1, hf⟩ := bind_in hf
  refine q_callV (pc' := 6) C (t_m_divisor hF hq1) rfl (K_193 hF) cl_12 wv_RX12_406 ⟨Nat.le_of_ble_eq_true rfl, Nat.le_of_ble_eq_true rfl⟩ rfl rfl (Nat.le_of_ble_eq_true rfl) dX12_lowest_3 rfl ⟨Nat.le_of_ble_eq_true rfl, Nat.le_of_ble_eq_true rfl⟩ ?_
  refine r_istore (pc' := 8) (i := 4) (L' := [(4, zI q1), (0, zP bs 193), (1, zI a1), (2, zI a2), (3, zI a3)]) C (by decide) rfl dX12_lowest_6 rfl ?_
  refine r_iload_n (pc' := 9) (f4 := 3) (i := 3) C 4 rfl rfl dX12_lowest_8 rfl ?_
  refine r_if_ne (pc' := 12) (tgt := 20) C rfl hf dX12_lowest_9 (by decide) rfl (fun hf => ?_) (fun hf => ?_)
  · refine r_iload_n (pc' := 13) (f4 := 1) (i := 1) C 2 rfl rfl dX12_lowest_12 rfl ?_
    refine r_iload (pc' := 15) (i := 4) C 0 rfl dX12_lowest_13 rfl ?_
    obtain ⟨hz, hf⟩ := ckz_in hf
    refine r_idiv (pc' := 16) C rfl hz dX12_lowest_15 rfl ?_
    refine r_i2l (pc' := 17) C dX12_lowest_16 rfl ?_
    refine r_goto (tgt := 25) C dX12_lowest_17 (by decide) ?_
    cases hf
    exact r_lret C dX12_lowest_25
  · refine r_iload_n (pc' := 21) (f4 := 2) (i := 2) C 3 rfl rfl dX12_lowest_20 rfl ?_
    refine r_iload (pc' := 23) (i := 4) C 0 rfl dX12_lowest_21 rfl ?_
    obtain ⟨hz, hf⟩ := ckz_in hf
    refine r_idiv (pc' := 24) C rfl hz dX12_lowest_23 rfl ?_
    refine r_i2l (pc' := 25) C dX12_lowest_24 rfl ?_
    cases hf
    exact r_lret C dX12_lowest_25

/- WassailEnemiesModel.odds(II)J -/
def m_odds_L34 (x1 : Int) (x2 : Int) : Nat → HH → Int → Int → Option (Int × HH)
  | 0, _, _, _ => none
  | n34 + 1, h, x3, x4 =>
    if ww x4 < ww (h 193 0) then ((m_bears h x4 x1).bind fun q1 => if ww q1.1 = 0 then (m_odds_L34 x1 x2 n34 q1.2 (x3 + 0) (x4 + 1)) else (m_odds_L34 x1 x2 n34 q1.2 (x3 + 1) (x4 + 1))) else ((m_lowest x3 (h 193 0) x2).bind fun q2 => some (q2, h))
def m_odds (h : HH) (a1 : Int) (a2 : Int) : Option (Int × HH) :=
  if ww (m_isTree a1) = 0 then (some (-9223372036854775808, h)) else (if ww (m_in a2 0 1) = 0 then (some (-9223372036854775808, h)) else (if ww (h 193 0) = 0 then (some (-9223372036854775808, h)) else (m_odds_L34 a1 a2 FU h 0 0)))
abbrev rm_m_odds : Room := { frames := 5, cells := 0, slots := 0, locals := 122 }
set_option maxHeartbeats 4000000 in
set_option maxRecDepth 100000 in
theorem w_m_odds_L34 (hF : Fx S) (C : Cx D dT bs RX12 cX12_odds 5 (some Jvm.ClassFile.FieldType.long) p s m args meth c) (x1 : Int) (x2 : Int) {res : (Int × HH)} :
    ∀ (n : Nat) (h : HH) (x3 : Int) (x4 : Int), m_odds_L34 x1 x2 n h x3 x4 = some res → V D dT bs 5 p l e rm_m_odds s m args below meth c 0 0 (MQ below (QQ D dT bs (some (zL res.1)) res.2 S) args s 0 0 (AA bs)) h S 34 [(0, zP bs 193), (1, zI x1), (2, zI x2), (3, zI x3), (4, zI x4)] [] := by
  intro n
  induction n with
  | zero => intro h x3 x4 hf; simp [m_odds_L34] at hf
  | succ n34 ih34 =>
    intro h x3 x4 hf
    rw [m_odds_L34] at hf
    refine r_iload (pc' := 36) (i := 4) C 4 rfl dX12_odds_34 rfl ?_
    refine r_aload_n (pc' := 37) (f4 := 0) (i := 0) C 0 rfl rfl dX12_odds_36 rfl ?_
    refine q_getI (pc' := 40) (j := 0) C (K_193 hF) fb_12_0 wd_1171 (Or.inl rfl) dX12_odds_37 rfl ?_
    refine r_icmp_ge (pc' := 43) (tgt := 67) C rfl rfl hf dX12_odds_40 (by decide) rfl (fun hf => ?_) (fun hf => ?_)
    · refine r_iload_n (pc' := 44) (f4 := 3) (i := 3) C 3 rfl rfl dX12_odds_43 rfl ?_
      refine r_aload_n (pc' := 45) (f4 := 0) (i := 0) C 0 rfl rfl dX12_odds_44 rfl ?_
      refine r_iload (pc' := 47) (i := 4) C 4 rfl dX12_odds_45 rfl ?_
      refine r_iload_n (pc' := 48) (f4 := 1) (i := 1) C 1 rfl rfl dX12_odds_47 rfl ?_
      obtain ⟨q1, hq1, hf⟩ := bind_in hf
      refine q_callV (pc' := 51) C (t_m_bears hF hq1) rfl (K_193 hF) cl_12 wv_RX12_343 ⟨Nat.le_of_ble_eq_true rfl, Nat.le_of_ble_eq_true rfl⟩ rfl rfl (Nat.le_of_ble_eq_true rfl) dX12_odds_48 rfl ⟨Nat.le_of_ble_eq_true rfl, Nat.le_of_ble_eq_true rfl⟩ ?_
      refine r_if_eq (pc' := 54) (tgt := 58) C rfl hf dX12_odds_51 (by decide) rfl (fun hf => ?_) (fun hf => ?_)
      · refine r_iconst (pc' := 59) C dX12_odds_58 rfl ?_
        refine r_iadd (pc' := 60) C dX12_odds_59 rfl ?_
        refine r_istore_n (pc' := 61) (f4 := 3) (i := 3) (L' := [(3, zI (x3 + 0)), (0, zP bs 193), (1, zI x1), (2, zI x2), (4, zI x4)]) C rfl (by decide) rfl dX12_odds_60 rfl ?_
        refine r_iinc (pc' := 64) (i := 4) (L' := [(4, zI (x4 + 1)), (3, zI (x3 + 0)), (0, zP bs 193), (1, zI x1), (2, zI x2)]) C 4 rfl (by decide) rfl dX12_odds_61 rfl ?_
        refine r_goto (tgt := 34) C dX12_odds_64 (by decide) ?_
        refine V.sub (L' := [(0, zP bs 193), (1, zI x1), (2, zI x2), (3, zI (x3 + 0)), (4, zI (x4 + 1))]) [2, 3, 4, 1, 0] rfl ?_
        exact ih34 _ _ _ hf
      · refine r_iconst (pc' := 55) C dX12_odds_54 rfl ?_
        refine r_goto (tgt := 59) C dX12_odds_55 (by decide) ?_
        refine r_iadd (pc' := 60) C dX12_odds_59 rfl ?_
        refine r_istore_n (pc' := 61) (f4 := 3) (i := 3) (L' := [(3, zI (x3 + 1)), (0, zP bs 193), (1, zI x1), (2, zI x2), (4, zI x4)]) C rfl (by decide) rfl dX12_odds_60 rfl ?_
        refine r_iinc (pc' := 64) (i := 4) (L' := [(4, zI (x4 + 1)), (3, zI (x3 + 1)), (0, zP bs 193), (1, zI x1), (2, zI x2)]) C 4 rfl (by decide) rfl dX12_odds_61 rfl ?_
        refine r_goto (tgt := 34) C dX12_odds_64 (by decide) ?_
        refine V.sub (L' := [(0, zP bs 193), (1, zI x1), (2, zI x2), (3, zI (x3 + 1)), (4, zI (x4 + 1))]) [2, 3, 4, 1, 0] rfl ?_
        exact ih34 _ _ _ hf
    · refine r_aload_n (pc' := 68) (f4 := 0) (i := 0) C 0 rfl rfl dX12_odds_67 rfl ?_
      refine r_iload_n (pc' := 69) (f4 := 3) (i := 3) C 3 rfl rfl dX12_odds_68 rfl ?_
      refine r_aload_n (pc' := 70) (f4 := 0) (i := 0) C 0 rfl rfl dX12_odds_69 rfl ?_
      refine q_getI (pc' := 73) (j := 0) C (K_193 hF) fb_12_0 wd_1171 (Or.inl rfl) dX12_odds_70 rfl ?_
      refine r_iload_n (pc' := 74) (f4 := 2) (i := 2) C 2 rfl rfl dX12_odds_73 rfl ?_
      obtain ⟨q2, hq2, hf⟩ := bind_in hf
      refine q_callV (pc' := 77) C (t_m_lowest hF hq2) rfl (K_193 hF) cl_12 wv_RX12_411 ⟨Nat.le_of_ble_eq_true rfl, Nat.le_of_ble_eq_true rfl⟩ rfl rfl (Nat.le_of_ble_eq_true rfl) dX12_odds_74 rfl ⟨Nat.le_of_ble_eq_true rfl, Nat.le_of_ble_eq_true rfl⟩ ?_
      cases hf
      exact r_lret C dX12_odds_77
set_option maxHeartbeats 4000000 in
set_option maxRecDepth 100000 in
theorem t_m_odds {S : SS} (hF : Fx S) {h : HH} {a1 : Int} {a2 : Int} {res : Int × HH} (hf : m_odds h a1 a2 = some res) : CM yX12_odds cX12_odds 5 (some Jvm.ClassFile.FieldType.long) 5 122 0 0 (fun bs => [zP bs 193, zI a1, zI a2]) h S (fun _ => some (zL res.1)) res.2 S := by
  refine CM.intro (own := RX12) (by decide) rfl (fun _ => Nat.le_of_ble_eq_true rfl) ?_
  intro D dT bs p l e s m args below meth c C
  show V D dT bs 5 p l e rm_m_odds s m args below meth c 0 0 _ h S 0 [(0, zP bs 193), (1, zI a1), (2, zI a2)] []
  unfold m_odds at hf
  refine r_aload_n (pc' := 1) (f4 := 0) (i := 0) C 0 rfl rfl dX12_odds_0 rfl ?_
  refine r_iload_n (pc' := 2) (f4 := 1) (i := 1) C 1 rfl rfl dX12_odds_1 rfl ?_
  refine q_callV (pc' := 5) C (t_m_isTree hF) rfl (K_193 hF) cl_12 wv_RX12_256 ⟨Nat.le_of_ble_eq_true rfl, Nat.le_of_ble_eq_true rfl⟩ rfl rfl (Nat.le_of_ble_eq_true rfl) dX12_odds_2 rfl ⟨Nat.le_of_ble_eq_true rfl, Nat.le_of_ble_eq_true rfl⟩ ?_
  refine r_if_eq (pc' := 8) (tgt := 25) C rfl hf dX12_odds_5 (by decide) rfl (fun hf => ?_) (fun hf => ?_)
  · refine r_ldc2 (pc' := 28) C (n := (-9223372036854775808)) wc_1669 dX12_odds_25 rfl ?_
    cases hf
    exact r_lret C dX12_odds_28
  · refine r_aload_n (pc' := 9) (f4 := 0) (i := 0) C 0 rfl rfl dX12_odds_8 rfl ?_
    refine r_iload_n (pc' := 10) (f4 := 2) (i := 2) C 2 rfl rfl dX12_odds_9 rfl ?_
    refine r_iconst (pc' := 11) C dX12_odds_10 rfl ?_
    refine r_iconst (pc' := 12) C dX12_odds_11 rfl ?_
    refine q_callV (pc' := 15) C (t_m_in hF) rfl (K_193 hF) cl_12 wv_RX12_245 ⟨Nat.le_of_ble_eq_true rfl, Nat.le_of_ble_eq_true rfl⟩ rfl rfl (Nat.le_of_ble_eq_true rfl) dX12_odds_12 rfl ⟨Nat.le_of_ble_eq_true rfl, Nat.le_of_ble_eq_true rfl⟩ ?_
    refine r_if_eq (pc' := 18) (tgt := 25) C rfl hf dX12_odds_15 (by decide) rfl (fun hf => ?_) (fun hf => ?_)
    · refine r_ldc2 (pc' := 28) C (n := (-9223372036854775808)) wc_1669 dX12_odds_25 rfl ?_
      cases hf
      exact r_lret C dX12_odds_28
    · refine r_aload_n (pc' := 19) (f4 := 0) (i := 0) C 0 rfl rfl dX12_odds_18 rfl ?_
      refine q_getI (pc' := 22) (j := 0) C (K_193 hF) fb_12_0 wd_1171 (Or.inl rfl) dX12_odds_19 rfl ?_
      refine r_if_ne (pc' := 25) (tgt := 29) C rfl hf dX12_odds_22 (by decide) rfl (fun hf => ?_) (fun hf => ?_)
      · refine r_ldc2 (pc' := 28) C (n := (-9223372036854775808)) wc_1669 dX12_odds_25 rfl ?_
        cases hf
        exact r_lret C dX12_odds_28
      · refine r_iconst (pc' := 30) C dX12_odds_29 rfl ?_
        refine r_istore_n (pc' := 31) (f4 := 3) (i := 3) (L' := [(3, zI 0), (0, zP bs 193), (1, zI a1), (2, zI a2)]) C rfl (by decide) rfl dX12_odds_30 rfl ?_
        refine r_iconst (pc' := 32) C dX12_odds_31 rfl ?_
        refine r_istore (pc' := 34) (i := 4) (L' := [(4, zI 0), (3, zI 0), (0, zP bs 193), (1, zI a1), (2, zI a2)]) C (by decide) rfl dX12_odds_32 rfl ?_
        refine V.sub (L' := [(0, zP bs 193), (1, zI a1), (2, zI a2), (3, zI 0), (4, zI 0)]) [2, 3, 4, 1, 0] rfl ?_
        refine w_m_odds_L34 hF C _ _ _ _ _ _ hf

/- WassailEnemiesModel.mean(II)J -/
def m_mean_L34 (h : HH) (x1 : Int) (x2 : Int) : Nat → Int → Int → Option Int
  | 0, _, _ => none
  | n34 + 1, x3, x4 =>
    if ww x4 < ww (h 193 0) then (ck (ww ((5 * x4) + x1)) 30 <| m_mean_L34 h x1 x2 n34 (x3 + (h 196 (ww ((5 * x4) + x1)))) (x4 + 1)) else ((m_lowest x3 (h 193 0) x2).bind fun q1 => some q1)
def m_mean (h : HH) (a1 : Int) (a2 : Int) : Option Int :=
  if ww (m_isTree a1) = 0 then (some (-9223372036854775808)) else (if ww (m_in a2 0 1) = 0 then (some (-9223372036854775808)) else (if ww (h 193 0) = 0 then (some (-9223372036854775808)) else (m_mean_L34 h a1 a2 FU 0 0)))
abbrev rm_m_mean : Room := { frames := 2, cells := 0, slots := 0, locals := 49 }
set_option maxHeartbeats 4000000 in
set_option maxRecDepth 100000 in
theorem w_m_mean_L34 (hF : Fx S) (C : Cx D dT bs RX12 cX12_mean 5 (some Jvm.ClassFile.FieldType.long) p s m args meth c) {h : HH} (x1 : Int) (x2 : Int) {res : Int} :
    ∀ (n : Nat) (x3 : Int) (x4 : Int), m_mean_L34 h x1 x2 n x3 x4 = some res → V D dT bs 5 p l e rm_m_mean s m args below meth c 0 0 (MQ below (QQ D dT bs (some (zL res)) h S) args s 0 0 (AA bs)) h S 34 [(0, zP bs 193), (1, zI x1), (2, zI x2), (3, zI x3), (4, zI x4)] [] := by
  intro n
  induction n with
  | zero => intro x3 x4 hf; simp [m_mean_L34] at hf
  | succ n34 ih34 =>
    intro x3 x4 hf
    rw [m_mean_L34] at hf
    refine r_iload (pc' := 36) (i := 4) C 4 rfl dX12_mean_34 rfl ?_
    refine r_aload_n (pc' := 37) (f4 := 0) (i := 0) C 0 rfl rfl dX12_mean_36 rfl ?_
    refine q_getI (pc' := 40) (j := 0) C (K_193 hF) fb_12_0 wd_1171 (Or.inl rfl) dX12_mean_37 rfl ?_
    refine r_icmp_ge (pc' := 43) (tgt := 63) C rfl rfl hf dX12_mean_40 (by decide) rfl (fun hf => ?_) (fun hf => ?_)
    · refine r_iload_n (pc' := 44) (f4 := 3) (i := 3) C 3 rfl rfl dX12_mean_43 rfl ?_
      refine r_aload_n (pc' := 45) (f4 := 0) (i := 0) C 0 rfl rfl dX12_mean_44 rfl ?_
      refine q_getP (pc' := 48) (j := 5) C (K_193 hF) fb_12_5 (by decide) wd_1176 (Or.inl rfl) (F_193_5 hF) (by decide) dX12_mean_45 rfl ?_
      refine r_iconst (pc' := 49) C dX12_mean_48 rfl ?_
      refine r_iload (pc' := 51) (i := 4) C 4 rfl dX12_mean_49 rfl ?_
      refine r_imul (pc' := 52) C dX12_mean_51 rfl ?_
      refine r_iload_n (pc' := 53) (f4 := 1) (i := 1) C 1 rfl rfl dX12_mean_52 rfl ?_
      refine r_iadd (pc' := 54) C dX12_mean_53 rfl ?_
      obtain ⟨hi, hf⟩ := ck_in hf
      refine r_iald (pc' := 55) C (K_196 hF) rfl hi dX12_mean_54 rfl ?_
      refine r_iadd (pc' := 56) C dX12_mean_55 rfl ?_
      refine r_istore_n (pc' := 57) (f4 := 3) (i := 3) (L' := [(3, zI (x3 + (h 196 (ww ((5 * x4) + x1))))), (0, zP bs 193), (1, zI x1), (2, zI x2), (4, zI x4)]) C rfl (by decide) rfl dX12_mean_56 rfl ?_
      refine r_iinc (pc' := 60) (i := 4) (L' := [(4, zI (x4 + 1)), (3, zI (x3 + (h 196 (ww ((5 * x4) + x1))))), (0, zP bs 193), (1, zI x1), (2, zI x2)]) C 4 rfl (by decide) rfl dX12_mean_57 rfl ?_
      refine r_goto (tgt := 34) C dX12_mean_60 (by decide) ?_
      refine V.sub (L' := [(0, zP bs 193), (1, zI x1), (2, zI x2), (3, zI (x3 + (h 196 (ww ((5 * x4) + x1))))), (4, zI (x4 + 1))]) [2, 3, 4, 1, 0] rfl ?_
      exact ih34 _ _ hf
    · refine r_aload_n (pc' := 64) (f4 := 0) (i := 0) C 0 rfl rfl dX12_mean_63 rfl ?_
      refine r_iload_n (pc' := 65) (f4 := 3) (i := 3) C 3 rfl rfl dX12_mean_64 rfl ?_
      refine r_aload_n (pc' := 66) (f4 := 0) (i := 0) C 0 rfl rfl dX12_mean_65 rfl ?_
      refine q_getI (pc' := 69) (j := 0) C (K_193 hF) fb_12_0 wd_1171 (Or.inl rfl) dX12_mean_66 rfl ?_
      refine r_iload_n (pc' := 70) (f4 := 2) (i := 2) C 2 rfl rfl dX12_mean_69 rfl ?_
      obtain ⟨q1, hq1, hf⟩ := bind_in hf
      refine q_callV (pc' := 73) C (t_m_lowest hF hq1) rfl (K_193 hF) cl_12 wv_RX12_411 ⟨Nat.le_of_ble_eq_true rfl, Nat.le_of_ble_eq_true rfl⟩ rfl rfl (Nat.le_of_ble_eq_true rfl) dX12_mean_70 rfl ⟨Nat.le_of_ble_eq_true rfl, Nat.le_of_ble_eq_true rfl⟩ ?_
      cases hf
      exact r_lret C dX12_mean_73
set_option maxHeartbeats 4000000 in
set_option maxRecDepth 100000 in
theorem t_m_mean {S : SS} (hF : Fx S) {h : HH} {a1 : Int} {a2 : Int} {res : Int} (hf : m_mean h a1 a2 = some res) : CM yX12_mean cX12_mean 5 (some Jvm.ClassFile.FieldType.long) 2 49 0 0 (fun bs => [zP bs 193, zI a1, zI a2]) h S (fun _ => some (zL res)) h S := by
  refine CM.intro (own := RX12) (by decide) rfl (fun _ => Nat.le_of_ble_eq_true rfl) ?_
  intro D dT bs p l e s m args below meth c C
  show V D dT bs 5 p l e rm_m_mean s m args below meth c 0 0 _ h S 0 [(0, zP bs 193), (1, zI a1), (2, zI a2)] []
  unfold m_mean at hf
  refine r_aload_n (pc' := 1) (f4 := 0) (i := 0) C 0 rfl rfl dX12_mean_0 rfl ?_
  refine r_iload_n (pc' := 2) (f4 := 1) (i := 1) C 1 rfl rfl dX12_mean_1 rfl ?_
  refine q_callV (pc' := 5) C (t_m_isTree hF) rfl (K_193 hF) cl_12 wv_RX12_256 ⟨Nat.le_of_ble_eq_true rfl, Nat.le_of_ble_eq_true rfl⟩ rfl rfl (Nat.le_of_ble_eq_true rfl) dX12_mean_2 rfl ⟨Nat.le_of_ble_eq_true rfl, Nat.le_of_ble_eq_true rfl⟩ ?_
  refine r_if_eq (pc' := 8) (tgt := 25) C rfl hf dX12_mean_5 (by decide) rfl (fun hf => ?_) (fun hf => ?_)
  · refine r_ldc2 (pc' := 28) C (n := (-9223372036854775808)) wc_1669 dX12_mean_25 rfl ?_
    cases hf
    exact r_lret C dX12_mean_28
  · refine r_aload_n (pc' := 9) (f4 := 0) (i := 0) C 0 rfl rfl dX12_mean_8 rfl ?_
    refine r_iload_n (pc' := 10) (f4 := 2) (i := 2) C 2 rfl rfl dX12_mean_9 rfl ?_
    refine r_iconst (pc' := 11) C dX12_mean_10 rfl ?_
    refine r_iconst (pc' := 12) C dX12_mean_11 rfl ?_
    refine q_callV (pc' := 15) C (t_m_in hF) rfl (K_193 hF) cl_12 wv_RX12_245 ⟨Nat.le_of_ble_eq_true rfl, Nat.le_of_ble_eq_true rfl⟩ rfl rfl (Nat.le_of_ble_eq_true rfl) dX12_mean_12 rfl ⟨Nat.le_of_ble_eq_true rfl, Nat.le_of_ble_eq_true rfl⟩ ?_
    refine r_if_eq (pc' := 18) (tgt := 25) C rfl hf dX12_mean_15 (by decide) rfl (fun hf => ?_) (fun hf => ?_)
    · refine r_ldc2 (pc' := 28) C (n := (-9223372036854775808)) wc_1669 dX12_mean_25 rfl ?_
      cases hf
      exact r_lret C dX12_mean_28
    · refine r_aload_n (pc' := 19) (f4 := 0) (i := 0) C 0 rfl rfl dX12_mean_18 rfl ?_
      refine q_getI (pc' := 22) (j := 0) C (K_193 hF) fb_12_0 wd_1171 (Or.inl rfl) dX12_mean_19 rfl ?_
      refine r_if_ne (pc' := 25) (tgt := 29) C rfl hf dX12_mean_22 (by decide) rfl (fun hf => ?_) (fun hf => ?_)
      · refine r_ldc2 (pc' := 28) C (n := (-9223372036854775808)) wc_1669 dX12_mean_25 rfl ?_
        cases hf
        exact r_lret C dX12_mean_28
      · refine r_iconst (pc' := 30) C dX12_mean_29 rfl ?_
        refine r_istore_n (pc' := 31) (f4 := 3) (i := 3) (L' := [(3, zI 0), (0, zP bs 193), (1, zI a1), (2, zI a2)]) C rfl (by decide) rfl dX12_mean_30 rfl ?_
        refine r_iconst (pc' := 32) C dX12_mean_31 rfl ?_
        refine r_istore (pc' := 34) (i := 4) (L' := [(4, zI 0), (3, zI 0), (0, zP bs 193), (1, zI a1), (2, zI a2)]) C (by decide) rfl dX12_mean_32 rfl ?_
        refine V.sub (L' := [(0, zP bs 193), (1, zI a1), (2, zI a2), (3, zI 0), (4, zI 0)]) [2, 3, 4, 1, 0] rfl ?_
        refine w_m_mean_L34 hF C _ _ _ _ _ hf

/- WassailEnemiesModel.isLead(I)Z -/
def m_isLead (h : HH) (a1 : Int) : Int :=
  if ww a1 < 0 then (0) else (if ww (m_isTree (zdiv a1 10)) = 0 then (0) else (if ww (zrem a1 10) = 9 then (1) else (if ww (m_isHater h (zrem a1 10)) = 0 then (0) else (1))))
theorem b_m_isLead {h : HH} {a1 : Int} : m_isLead h a1 = 0 ∨ m_isLead h a1 = 1 := by
  unfold m_isLead
  repeat' split
  all_goals first | exact Or.inl rfl | exact Or.inr rfl | exact b_m_isHater | exact b_m_isTree

abbrev rm_m_isLead : Room := { frames := 2, cells := 0, slots := 0, locals := 44 }
set_option maxHeartbeats 4000000 in
set_option maxRecDepth 100000 in
theorem t_m_isLead {S : SS} (hF : Fx S) {h : HH} {a1 : Int} : CM yX12_isLead cX12_isLead 2 (some Jvm.ClassFile.FieldType.boolean) 2 44 0 0 (fun bs => [zP bs 193, zI a1]) h S (fun _ => some (zI (m_isLead h a1))) h S := by
  refine CM.intro (own := RX12) (by decide) rfl (fun _ => Nat.le_of_ble_eq_true rfl) ?_
  intro D dT bs p l e s m args below meth c C
  show V D dT bs 2 p l e rm_m_isLead s m args below meth c 0 0 _ h S 0 [(0, zP bs 193), (1, zI a1)] []
  obtain ⟨res, hf⟩ : ∃ r, m_isLead h a1 = r := ⟨_, rfl⟩
  rw [hf]
  unfold m_isLead at hf
  refine r_iload_n (pc' := 1) (f4 := 1) (i := 1) C 1 rfl rfl dX12_isLead_0 rfl ?_
  refine r_if_lt (pc' := 4) (tgt := 39) C rfl hf dX12_isLead_1 (by decide) rfl (fun hf => ?_) (fun hf => ?_)
  · refine r_iconst (pc' := 40) C dX12_isLead_39 rfl ?_
    subst hf
    exact r_zret C (Or.inl rfl) dX12_isLead_40
  · refine r_aload_n (pc' := 5) (f4 := 0) (i := 0) C 0 rfl rfl dX12_isLead_4 rfl ?_
    refine r_iload_n (pc' := 6) (f4 := 1) (i := 1) C 1 rfl rfl dX12_isLead_5 rfl ?_
    refine r_bipush (pc' := 8) C rfl dX12_isLead_6 rfl ?_
    refine r_idiv (pc' := 9) C ww_n10 (by decide) dX12_isLead_8 rfl ?_
    refine q_callV (pc' := 12) C (t_m_isTree hF) rfl (K_193 hF) cl_12 wv_RX12_256 ⟨Nat.le_of_ble_eq_true rfl, Nat.le_of_ble_eq_true rfl⟩ rfl rfl (Nat.le_of_ble_eq_true rfl) dX12_isLead_9 rfl ⟨Nat.le_of_ble_eq_true rfl, Nat.le_of_ble_eq_true rfl⟩ ?_
    refine r_if_eq (pc' := 15) (tgt := 39) C rfl hf dX12_isLead_12 (by decide) rfl (fun hf => ?_) (fun hf => ?_)
    · refine r_iconst (pc' := 40) C dX12_isLead_39 rfl ?_
      subst hf
      exact r_zret C (Or.inl rfl) dX12_isLead_40
    · refine r_iload_n (pc' := 16) (f4 := 1) (i := 1) C 1 rfl rfl dX12_isLead_15 rfl ?_
      refine r_bipush (pc' := 18) C rfl dX12_isLead_16 rfl ?_
      refine r_irem (pc' := 19) C ww_n10 (by decide) dX12_isLead_18 rfl ?_
      refine r_bipush (pc' := 21) C rfl dX12_isLead_19 rfl ?_
      refine r_icmp_eq (pc' := 24) (tgt := 35) C rfl ww_n9 hf dX12_isLead_21 (by decide) rfl (fun hf => ?_) (fun hf => ?_)
      · refine r_iconst (pc' := 36) C dX12_isLead_35 rfl ?_
        refine r_goto (tgt := 40) C dX12_isLead_36 (by decide) ?_
        subst hf
        exact r_zret C (Or.inr rfl) dX12_isLead_40
      · refine r_aload_n (pc' := 25) (f4 := 0) (i := 0) C 0 rfl rfl dX12_isLead_24 rfl ?_
        refine r_iload_n (pc' := 26) (f4 := 1) (i := 1) C 1 rfl rfl dX12_isLead_25 rfl ?_
        refine r_bipush (pc' := 28) C rfl dX12_isLead_26 rfl ?_
        refine r_irem (pc' := 29) C ww_n10 (by decide) dX12_isLead_28 rfl ?_
        refine q_callV (pc' := 32) C (t_m_isHater hF) rfl (K_193 hF) cl_12 wv_RX12_253 ⟨Nat.le_of_ble_eq_true rfl, Nat.le_of_ble_eq_true rfl⟩ rfl rfl (Nat.le_of_ble_eq_true rfl) dX12_isLead_29 rfl ⟨Nat.le_of_ble_eq_true rfl, Nat.le_of_ble_eq_true rfl⟩ ?_
        refine r_if_eq (pc' := 35) (tgt := 39) C rfl hf dX12_isLead_32 (by decide) rfl (fun hf => ?_) (fun hf => ?_)
        · refine r_iconst (pc' := 40) C dX12_isLead_39 rfl ?_
          subst hf
          exact r_zret C (Or.inl rfl) dX12_isLead_40
        · refine r_iconst (pc' := 36) C dX12_isLead_35 rfl ?_
          refine r_goto (tgt := 40) C dX12_isLead_36 (by decide) ?_
          subst hf
          exact r_zret C (Or.inr rfl) dX12_isLead_40

/- WassailEnemiesModel.plan(II)I -/
def m_plan (h : HH) (a1 : Int) (a2 : Int) : Option (Int × HH) :=
  if ww a1 = -1 then (some (0, u2 h 193 43 0)) else (if ww (m_in a1 0 3) = 0 then (some (-1, h)) else (if ww (m_in a1 1 2) = 0 then (if ww a1 = 3 then (if ww (m_isLead h a2) = 0 then (some (-1, h)) else (if ww (h 193 43) = 10 then (some (-4, h)) else (ck (ww (h 193 43)) 10 <| if 0 < ww a1 then (ck (ww ((u2 h 220 (ww (h 193 43)) a1) 193 43)) 10 <| some ((u2 (u2 (u2 h 220 (ww (h 193 43)) a1) 221 (ww ((u2 h 220 (ww (h 193 43)) a1) 193 43)) a2) 193 43 (((u2 (u2 h 220 (ww (h 193 43)) a1) 221 (ww ((u2 h 220 (ww (h 193 43)) a1) 193 43)) a2) 193 43) + 1)) 193 43, u2 (u2 (u2 h 220 (ww (h 193 43)) a1) 221 (ww ((u2 h 220 (ww (h 193 43)) a1) 193 43)) a2) 193 43 (((u2 (u2 h 220 (ww (h 193 43)) a1) 221 (ww ((u2 h 220 (ww (h 193 43)) a1) 193 43)) a2) 193 43) + 1))) else (ck (ww ((u2 h 220 (ww (h 193 43)) a1) 193 43)) 10 <| some ((u2 (u2 (u2 h 220 (ww (h 193 43)) a1) 221 (ww ((u2 h 220 (ww (h 193 43)) a1) 193 43)) 0) 193 43 (((u2 (u2 h 220 (ww (h 193 43)) a1) 221 (ww ((u2 h 220 (ww (h 193 43)) a1) 193 43)) 0) 193 43) + 1)) 193 43, u2 (u2 (u2 h 220 (ww (h 193 43)) a1) 221 (ww ((u2 h 220 (ww (h 193 43)) a1) 193 43)) 0) 193 43 (((u2 (u2 h 220 (ww (h 193 43)) a1) 221 (ww ((u2 h 220 (ww (h 193 43)) a1) 193 43)) 0) 193 43) + 1)))))) else (if ww (h 193 43) = 10 then (some (-4, h)) else (ck (ww (h 193 43)) 10 <| if 0 < ww a1 then (ck (ww ((u2 h 220 (ww (h 193 43)) a1) 193 43)) 10 <| some ((u2 (u2 (u2 h 220 (ww (h 193 43)) a1) 221 (ww ((u2 h 220 (ww (h 193 43)) a1) 193 43)) a2) 193 43 (((u2 (u2 h 220 (ww (h 193 43)) a1) 221 (ww ((u2 h 220 (ww (h 193 43)) a1) 193 43)) a2) 193 43) + 1)) 193 43, u2 (u2 (u2 h 220 (ww (h 193 43)) a1) 221 (ww ((u2 h 220 (ww (h 193 43)) a1) 193 43)) a2) 193 43 (((u2 (u2 h 220 (ww (h 193 43)) a1) 221 (ww ((u2 h 220 (ww (h 193 43)) a1) 193 43)) a2) 193 43) + 1))) else (ck (ww ((u2 h 220 (ww (h 193 43)) a1) 193 43)) 10 <| some ((u2 (u2 (u2 h 220 (ww (h 193 43)) a1) 221 (ww ((u2 h 220 (ww (h 193 43)) a1) 193 43)) 0) 193 43 (((u2 (u2 h 220 (ww (h 193 43)) a1) 221 (ww ((u2 h 220 (ww (h 193 43)) a1) 193 43)) 0) 193 43) + 1)) 193 43, u2 (u2 (u2 h 220 (ww (h 193 43)) a1) 221 (ww ((u2 h 220 (ww (h 193 43)) a1) 193 43)) 0) 193 43 (((u2 (u2 h 220 (ww (h 193 43)) a1) 221 (ww ((u2 h 220 (ww (h 193 43)) a1) 193 43)) 0) 193 43) + 1)))))) else (if ww (m_isHater h a2) = 0 then (some (-1, h)) else (if ww a1 = 3 then (if ww (m_isLead h a2) = 0 then (some (-1, h)) else (if ww (h 193 43) = 10 then (some (-4, h)) else (ck (ww (h 193 43)) 10 <| if 0 < ww a1 then (ck (ww ((u2 h 220 (ww (h 193 43)) a1) 193 43)) 10 <| some ((u2 (u2 (u2 h 220 (ww (h 193 43)) a1) 221 (ww ((u2 h 220 (ww (h 193 43)) a1) 193 43)) a2) 193 43 (((u2 (u2 h 220 (ww (h 193 43)) a1) 221 (ww ((u2 h 220 (ww (h 193 43)) a1) 193 43)) a2) 193 43) + 1)) 193 43, u2 (u2 (u2 h 220 (ww (h 193 43)) a1) 221 (ww ((u2 h 220 (ww (h 193 43)) a1) 193 43)) a2) 193 43 (((u2 (u2 h 220 (ww (h 193 43)) a1) 221 (ww ((u2 h 220 (ww (h 193 43)) a1) 193 43)) a2) 193 43) + 1))) else (ck (ww ((u2 h 220 (ww (h 193 43)) a1) 193 43)) 10 <| some ((u2 (u2 (u2 h 220 (ww (h 193 43)) a1) 221 (ww ((u2 h 220 (ww (h 193 43)) a1) 193 43)) 0) 193 43 (((u2 (u2 h 220 (ww (h 193 43)) a1) 221 (ww ((u2 h 220 (ww (h 193 43)) a1) 193 43)) 0) 193 43) + 1)) 193 43, u2 (u2 (u2 h 220 (ww (h 193 43)) a1) 221 (ww ((u2 h 220 (ww (h 193 43)) a1) 193 43)) 0) 193 43 (((u2 (u2 h 220 (ww (h 193 43)) a1) 221 (ww ((u2 h 220 (ww (h 193 43)) a1) 193 43)) 0) 193 43) + 1)))))) else (if ww (h 193 43) = 10 then (some (-4, h)) else (ck (ww (h 193 43)) 10 <| if 0 < ww a1 then (ck (ww ((u2 h 220 (ww (h 193 43)) a1) 193 43)) 10 <| some ((u2 (u2 (u2 h 220 (ww (h 193 43)) a1) 221 (ww ((u2 h 220 (ww (h 193 43)) a1) 193 43)) a2) 193 43 (((u2 (u2 h 220 (ww (h 193 43)) a1) 221 (ww ((u2 h 220 (ww (h 193 43)) a1) 193 43)) a2) 193 43) + 1)) 193 43, u2 (u2 (u2 h 220 (ww (h 193 43)) a1) 221 (ww ((u2 h 220 (ww (h 193 43)) a1) 193 43)) a2) 193 43 (((u2 (u2 h 220 (ww (h 193 43)) a1) 221 (ww ((u2 h 220 (ww (h 193 43)) a1) 193 43)) a2) 193 43) + 1))) else (ck (ww ((u2 h 220 (ww (h 193 43)) a1) 193 43)) 10 <| some ((u2 (u2 (u2 h 220 (ww (h 193 43)) a1) 221 (ww ((u2 h 220 (ww (h 193 43)) a1) 193 43)) 0) 193 43 (((u2 (u2 h 220 (ww (h 193 43)) a1) 221 (ww ((u2 h 220 (ww (h 193 43)) a1) 193 43)) 0) 193 43) + 1)) 193 43, u2 (u2 (u2 h 220 (ww (h 193 43)) a1) 221 (ww ((u2 h 220 (ww (h 193 43)) a1) 193 43)) 0) 193 43 (((u2 (u2 h 220 (ww (h 193 43)) a1) 221 (ww ((u2 h 220 (ww (h 193 43)) a1) 193 43)) 0) 193 43) + 1)))))))))
abbrev rm_m_plan : Room := { frames := 3, cells := 0, slots := 0, locals := 65 }
set_option maxHeartbeats 4000000 in
set_option maxRecDepth 100000 in
theorem t_m_plan {S : SS} (hF : Fx S) {h : HH} {a1 : Int} {a2 : Int} {res : Int × HH} (hf : m_plan h a1 a2 = some res) : CM yX12_plan cX12_plan 3 (some Jvm.ClassFile.FieldType.int) 3 65 0 0 (fun bs => [zP bs 193, zI a1, zI a2]) h S (fun _ => some (zI res.1)) res.2 S := by
  refine CM.intro (own := RX12) (by decide) rfl (fun _ => Nat.le_of_ble_eq_true rfl) ?_
  intro D dT bs p l e s m args below meth c C
  show V D dT bs 3 p l e rm_m_plan s m args below meth c 0 0 _ h S 0 [(0, zP bs 193), (1, zI a1), (2, zI a2)] []
  unfold m_plan at hf
  refine r_iload_n (pc' := 1) (f4 := 1) (i := 1) C 1 rfl rfl dX12_plan_0 rfl ?_
  refine r_iconst (pc' := 2) C dX12_plan_1 rfl ?_
  refine r_icmp_ne (pc' := 5) (tgt := 12) C rfl ww_m1 hf dX12_plan_2 (by decide) rfl (fun hf => ?_) (fun hf => ?_)
  · refine r_aload_n (pc' := 6) (f4 := 0) (i := 0) C 0 rfl rfl dX12_plan_5 rfl ?_
    refine r_iconst (pc' := 7) C dX12_plan_6 rfl ?_
    refine q_putI (pc' := 10) (j := 43) C (K_193 hF) fb_12_43 fp_12_43 wd_1214 (Or.inl rfl) (Or.inl rfl) rfl rfl dX12_plan_7 rfl ?_
    refine r_iconst (pc' := 11) C dX12_plan_10 rfl ?_
    cases hf
    exact r_iret C dX12_plan_11
  · refine r_aload_n (pc' := 13) (f4 := 0) (i := 0) C 0 rfl rfl dX12_plan_12 rfl ?_
    refine r_iload_n (pc' := 14) (f4 := 1) (i := 1) C 1 rfl rfl dX12_plan_13 rfl ?_
    refine r_iconst (pc' := 15) C dX12_plan_14 rfl ?_
    refine r_iconst (pc' := 16) C dX12_plan_15 rfl ?_
    refine q_callV (pc' := 19) C (t_m_in hF) rfl (K_193 hF) cl_12 wv_RX12_245 ⟨Nat.le_of_ble_eq_true rfl, Nat.le_of_ble_eq_true rfl⟩ rfl rfl (Nat.le_of_ble_eq_true rfl) dX12_plan_16 rfl ⟨Nat.le_of_ble_eq_true rfl, Nat.le_of_ble_eq_true rfl⟩ ?_
    refine r_if_eq (pc' := 22) (tgt := 53) C rfl hf dX12_plan_19 (by decide) rfl (fun hf => ?_) (fun hf => ?_)
    · refine r_iconst (pc' := 54) C dX12_plan_53 rfl ?_
      cases hf
      exact r_iret C dX12_plan_54
    · refine r_aload_n (pc' := 23) (f4 := 0) (i := 0) C 0 rfl rfl dX12_plan_22 rfl ?_
      refine r_iload_n (pc' := 24) (f4 := 1) (i := 1) C 1 rfl rfl dX12_plan_23 rfl ?_
      refine r_iconst (pc' := 25) C dX12_plan_24 rfl ?_
      refine r_iconst (pc' := 26) C dX12_plan_25 rfl ?_
      refine q_callV (pc' := 29) C (t_m_in hF) rfl (K_193 hF) cl_12 wv_RX12_245 ⟨Nat.le_of_ble_eq_true rfl, Nat.le_of_ble_eq_true rfl⟩ rfl rfl (Nat.le_of_ble_eq_true rfl) dX12_plan_26 rfl ⟨Nat.le_of_ble_eq_true rfl, Nat.le_of_ble_eq_true rfl⟩ ?_
      refine r_if_eq (pc' := 32) (tgt := 40) C rfl hf dX12_plan_29 (by decide) rfl (fun hf => ?_) (fun hf => ?_)
      · refine r_iload_n (pc' := 41) (f4 := 1) (i := 1) C 1 rfl rfl dX12_plan_40 rfl ?_
        refine r_iconst (pc' := 42) C dX12_plan_41 rfl ?_
        refine r_icmp_ne (pc' := 45) (tgt := 55) C rfl ww_n3 hf dX12_plan_42 (by decide) rfl (fun hf => ?_) (fun hf => ?_)
        · refine r_aload_n (pc' := 46) (f4 := 0) (i := 0) C 0 rfl rfl dX12_plan_45 rfl ?_
          refine r_iload_n (pc' := 47) (f4 := 2) (i := 2) C 2 rfl rfl dX12_plan_46 rfl ?_
          refine q_callV (pc' := 50) C (t_m_isLead hF) rfl (K_193 hF) cl_12 wv_RX12_415 ⟨Nat.le_of_ble_eq_true rfl, Nat.le_of_ble_eq_true rfl⟩ rfl rfl (Nat.le_of_ble_eq_true rfl) dX12_plan_47 rfl ⟨Nat.le_of_ble_eq_true rfl, Nat.le_of_ble_eq_true rfl⟩ ?_
          refine r_if_ne (pc' := 53) (tgt := 55) C rfl hf dX12_plan_50 (by decide) rfl (fun hf => ?_) (fun hf => ?_)
          · refine r_iconst (pc' := 54) C dX12_plan_53 rfl ?_
            cases hf
            exact r_iret C dX12_plan_54
          · refine r_aload_n (pc' := 56) (f4 := 0) (i := 0) C 0 rfl rfl dX12_plan_55 rfl ?_
            refine q_getI (pc' := 59) (j := 43) C (K_193 hF) fb_12_43 wd_1214 (Or.inl rfl) dX12_plan_56 rfl ?_
            refine r_bipush (pc' := 61) C rfl dX12_plan_59 rfl ?_
            refine r_icmp_ne (pc' := 64) (tgt := 67) C rfl ww_n10 hf dX12_plan_61 (by decide) rfl (fun hf => ?_) (fun hf => ?_)
            · refine r_bipush (pc' := 66) C rfl dX12_plan_64 rfl ?_
              cases hf
              exact r_iret C dX12_plan_66
            · refine r_aload_n (pc' := 68) (f4 := 0) (i := 0) C 0 rfl rfl dX12_plan_67 rfl ?_
              refine q_getP (pc' := 71) (j := 45) C (K_193 hF) fb_12_45 (by decide) wd_1216 (Or.inl rfl) (F_193_45 hF) (by decide) dX12_plan_68 rfl ?_
              refine r_aload_n (pc' := 72) (f4 := 0) (i := 0) C 0 rfl rfl dX12_plan_71 rfl ?_
              refine q_getI (pc' := 75) (j := 43) C (K_193 hF) fb_12_43 wd_1214 (Or.inl rfl) dX12_plan_72 rfl ?_
              refine r_iload_n (pc' := 76) (f4 := 1) (i := 1) C 1 rfl rfl dX12_plan_75 rfl ?_
              obtain ⟨hi, hf⟩ := ck_in hf
              refine r_iast (pc' := 77) C (K_220 hF) rfl hi dX12_plan_76 rfl ?_
              refine r_aload_n (pc' := 78) (f4 := 0) (i := 0) C 0 rfl rfl dX12_plan_77 rfl ?_
              refine q_getP (pc' := 81) (j := 46) C (K_193 hF) fb_12_46 (by decide) wd_1217 (Or.inl rfl) (F_193_46 hF) (by decide) dX12_plan_78 rfl ?_
              refine r_aload_n (pc' := 82) (f4 := 0) (i := 0) C 0 rfl rfl dX12_plan_81 rfl ?_
              refine q_getI (pc' := 85) (j := 43) C (K_193 hF) fb_12_43 wd_1214 (Or.inl rfl) dX12_plan_82 rfl ?_
              refine r_iload_n (pc' := 86) (f4 := 1) (i := 1) C 1 rfl rfl dX12_plan_85 rfl ?_
              refine r_if_le (pc' := 89) (tgt := 93) C rfl hf dX12_plan_86 (by decide) rfl (fun hf => ?_) (fun hf => ?_)
              · refine r_iload_n (pc' := 90) (f4 := 2) (i := 2) C 2 rfl rfl dX12_plan_89 rfl ?_
                refine r_goto (tgt := 94) C dX12_plan_90 (by decide) ?_
                obtain ⟨hi, hf⟩ := ck_in hf
                refine r_iast (pc' := 95) C (K_221 hF) rfl hi dX12_plan_94 rfl ?_
                refine r_aload_n (pc' := 96) (f4 := 0) (i := 0) C 0 rfl rfl dX12_plan_95 rfl ?_
                refine r_dup (pc' := 97) C rfl dX12_plan_96 rfl ?_
                refine q_getI (pc' := 100) (j := 43) C (K_193 hF) fb_12_43 wd_1214 (Or.inl rfl) dX12_plan_97 rfl ?_
                refine r_iconst (pc' := 101) C dX12_plan_100 rfl ?_
                refine r_iadd (pc' := 102) C dX12_plan_101 rfl ?_
                refine q_putI (pc' := 105) (j := 43) C (K_193 hF) fb_12_43 fp_12_43 wd_1214 (Or.inl rfl) (Or.inl rfl) rfl rfl dX12_plan_102 rfl ?_
                refine r_aload_n (pc' := 106) (f4 := 0) (i := 0) C 0 rfl rfl dX12_plan_105 rfl ?_
                refine q_getI (pc' := 109) (j := 43) C (K_193 hF) fb_12_43 wd_1214 (Or.inl rfl) dX12_plan_106 rfl ?_
                cases hf
                exact r_iret C dX12_plan_109
              · refine r_iconst (pc' := 94) C dX12_plan_93 rfl ?_
                obtain ⟨hi, hf⟩ := ck_in hf
                refine r_iast (pc' := 95) C (K_221 hF) rfl hi dX12_plan_94 rfl ?_
                refine r_aload_n (pc' := 96) (f4 := 0) (i := 0) C 0 rfl rfl dX12_plan_95 rfl ?_
                refine r_dup (pc' := 97) C rfl dX12_plan_96 rfl ?_
                refine q_getI (pc' := 100) (j := 43) C (K_193 hF) fb_12_43 wd_1214 (Or.inl rfl) dX12_plan_97 rfl ?_
                refine r_iconst (pc' := 101) C dX12_plan_100 rfl ?_
                refine r_iadd (pc' := 102) C dX12_plan_101 rfl ?_
                refine q_putI (pc' := 105) (j := 43) C (K_193 hF) fb_12_43 fp_12_43 wd_1214 (Or.inl rfl) (Or.inl rfl) rfl rfl dX12_plan_102 rfl ?_
                refine r_aload_n (pc' := 106) (f4 := 0) (i := 0) C 0 rfl rfl dX12_plan_105 rfl ?_
                refine q_getI (pc' := 109) (j := 43) C (K_193 hF) fb_12_43 wd_1214 (Or.inl rfl) dX12_plan_106 rfl ?_
                cases hf
                exact r_iret C dX12_plan_109
        · refine r_aload_n (pc' := 56) (f4 := 0) (i := 0) C 0 rfl rfl dX12_plan_55 rfl ?_
          refine q_getI (pc' := 59) (j := 43) C (K_193 hF) fb_12_43 wd_1214 (Or.inl rfl) dX12_plan_56 rfl ?_
          refine r_bipush (pc' := 61) C rfl dX12_plan_59 rfl ?_
          refine r_icmp_ne (pc' := 64) (tgt := 67) C rfl ww_n10 hf dX12_plan_61 (by decide) rfl (fun hf => ?_) (fun hf => ?_)
          · refine r_bipush (pc' := 66) C rfl dX12_plan_64 rfl ?_
            cases hf
            exact r_iret C dX12_plan_66
          · refine r_aload_n (pc' := 68) (f4 := 0) (i := 0) C 0 rfl rfl dX12_plan_67 rfl ?_
            refine q_getP (pc' := 71) (j := 45) C (K_193 hF) fb_12_45 (by decide) wd_1216 (Or.inl rfl) (F_193_45 hF) (by decide) dX12_plan_68 rfl ?_
            refine r_aload_n (pc' := 72) (f4 := 0) (i := 0) C 0 rfl rfl dX12_plan_71 rfl ?_
            refine q_getI (pc' := 75) (j := 43) C (K_193 hF) fb_12_43 wd_1214 (Or.inl rfl) dX12_plan_72 rfl ?_
            refine r_iload_n (pc' := 76) (f4 := 1) (i := 1) C 1 rfl rfl dX12_plan_75 rfl ?_
            obtain ⟨hi, hf⟩ := ck_in hf
            refine r_iast (pc' := 77) C (K_220 hF) rfl hi dX12_plan_76 rfl ?_
            refine r_aload_n (pc' := 78) (f4 := 0) (i := 0) C 0 rfl rfl dX12_plan_77 rfl ?_
            refine q_getP (pc' := 81) (j := 46) C (K_193 hF) fb_12_46 (by decide) wd_1217 (Or.inl rfl) (F_193_46 hF) (by decide) dX12_plan_78 rfl ?_
            refine r_aload_n (pc' := 82) (f4 := 0) (i := 0) C 0 rfl rfl dX12_plan_81 rfl ?_
            refine q_getI (pc' := 85) (j := 43) C (K_193 hF) fb_12_43 wd_1214 (Or.inl rfl) dX12_plan_82 rfl ?_
            refine r_iload_n (pc' := 86) (f4 := 1) (i := 1) C 1 rfl rfl dX12_plan_85 rfl ?_
            refine r_if_le (pc' := 89) (tgt := 93) C rfl hf dX12_plan_86 (by decide) rfl (fun hf => ?_) (fun hf => ?_)
            · refine r_iload_n (pc' := 90) (f4 := 2) (i := 2) C 2 rfl rfl dX12_plan_89 rfl ?_
              refine r_goto (tgt := 94) C dX12_plan_90 (by decide) ?_
              obtain ⟨hi, hf⟩ := ck_in hf
              refine r_iast (pc' := 95) C (K_221 hF) rfl hi dX12_plan_94 rfl ?_
              refine r_aload_n (pc' := 96) (f4 := 0) (i := 0) C 0 rfl rfl dX12_plan_95 rfl ?_
              refine r_dup (pc' := 97) C rfl dX12_plan_96 rfl ?_
              refine q_getI (pc' := 100) (j := 43) C (K_193 hF) fb_12_43 wd_1214 (Or.inl rfl) dX12_plan_97 rfl ?_
              refine r_iconst (pc' := 101) C dX12_plan_100 rfl ?_
              refine r_iadd (pc' := 102) C dX12_plan_101 rfl ?_
              refine q_putI (pc' := 105) (j := 43) C (K_193 hF) fb_12_43 fp_12_43 wd_1214 (Or.inl rfl) (Or.inl rfl) rfl rfl dX12_plan_102 rfl ?_
              refine r_aload_n (pc' := 106) (f4 := 0) (i := 0) C 0 rfl rfl dX12_plan_105 rfl ?_
              refine q_getI (pc' := 109) (j := 43) C (K_193 hF) fb_12_43 wd_1214 (Or.inl rfl) dX12_plan_106 rfl ?_
              cases hf
              exact r_iret C dX12_plan_109
            · refine r_iconst (pc' := 94) C dX12_plan_93 rfl ?_
              obtain ⟨hi, hf⟩ := ck_in hf
              refine r_iast (pc' := 95) C (K_221 hF) rfl hi dX12_plan_94 rfl ?_
              refine r_aload_n (pc' := 96) (f4 := 0) (i := 0) C 0 rfl rfl dX12_plan_95 rfl ?_
              refine r_dup (pc' := 97) C rfl dX12_plan_96 rfl ?_
              refine q_getI (pc' := 100) (j := 43) C (K_193 hF) fb_12_43 wd_1214 (Or.inl rfl) dX12_plan_97 rfl ?_
              refine r_iconst (pc' := 101) C dX12_plan_100 rfl ?_
              refine r_iadd (pc' := 102) C dX12_plan_101 rfl ?_
              refine q_putI (pc' := 105) (j := 43) C (K_193 hF) fb_12_43 fp_12_43 wd_1214 (Or.inl rfl) (Or.inl rfl) rfl rfl dX12_plan_102 rfl ?_
              refine r_aload_n (pc' := 106) (f4 := 0) (i := 0) C 0 rfl rfl dX12_plan_105 rfl ?_
              refine q_getI (pc' := 109) (j := 43) C (K_193 hF) fb_12_43 wd_1214 (Or.inl rfl) dX12_plan_106 rfl ?_
              cases hf
              exact r_iret C dX12_plan_109
      · refine r_aload_n (pc' := 33) (f4 := 0) (i := 0) C 0 rfl rfl dX12_plan_32 rfl ?_
        refine r_iload_n (pc' := 34) (f4 := 2) (i := 2) C 2 rfl rfl dX12_plan_33 rfl ?_
        refine q_callV (pc' := 37) C (t_m_isHater hF) rfl (K_193 hF) cl_12 wv_RX12_253 ⟨Nat.le_of_ble_eq_true rfl, Nat.le_of_ble_eq_true rfl⟩ rfl rfl (Nat.le_of_ble_eq_true rfl) dX12_plan_34 rfl ⟨Nat.le_of_ble_eq_true rfl, Nat.le_of_ble_eq_true rfl⟩ ?_
        refine r_if_eq (pc' := 40) (tgt := 53) C rfl hf dX12_plan_37 (by decide) rfl (fun hf => ?_) (fun hf => ?_)
        · refine r_iconst (pc' := 54) C dX12_plan_53 rfl ?_
          cases hf
          exact r_iret C dX12_plan_54
        · refine r_iload_n (pc' := 41) (f4 := 1) (i := 1) C 1 rfl rfl dX12_plan_40 rfl ?_
          refine r_iconst (pc' := 42) C dX12_plan_41 rfl ?_
          refine r_icmp_ne (pc' := 45) (tgt := 55) C rfl ww_n3 hf dX12_plan_42 (by decide) rfl (fun hf => ?_) (fun hf => ?_)
          · refine r_aload_n (pc' := 46) (f4 := 0) (i := 0) C 0 rfl rfl dX12_plan_45 rfl ?_
            refine r_iload_n (pc' := 47) (f4 := 2) (i := 2) C 2 rfl rfl dX12_plan_46 rfl ?_
            refine q_callV (pc' := 50) C (t_m_isLead hF) rfl (K_193 hF) cl_12 wv_RX12_415 ⟨Nat.le_of_ble_eq_true rfl, Nat.le_of_ble_eq_true rfl⟩ rfl rfl (Nat.le_of_ble_eq_true rfl) dX12_plan_47 rfl ⟨Nat.le_of_ble_eq_true rfl, Nat.le_of_ble_eq_true rfl⟩ ?_
            refine r_if_ne (pc' := 53) (tgt := 55) C rfl hf dX12_plan_50 (by decide) rfl (fun hf => ?_) (fun hf => ?_)
            · refine r_iconst (pc' := 54) C dX12_plan_53 rfl ?_
              cases hf
              exact r_iret C dX12_plan_54
            · refine r_aload_n (pc' := 56) (f4 := 0) (i := 0) C 0 rfl rfl dX12_plan_55 rfl ?_
              refine q_getI (pc' := 59) (j := 43) C (K_193 hF) fb_12_43 wd_1214 (Or.inl rfl) dX12_plan_56 rfl ?_
              refine r_bipush (pc' := 61) C rfl dX12_plan_59 rfl ?_
              refine r_icmp_ne (pc' := 64) (tgt := 67) C rfl ww_n10 hf dX12_plan_61 (by decide) rfl (fun hf => ?_) (fun hf => ?_)
              · refine r_bipush (pc' := 66) C rfl dX12_plan_64 rfl ?_
                cases hf
                exact r_iret C dX12_plan_66
              · refine r_aload_n (pc' := 68) (f4 := 0) (i := 0) C 0 rfl rfl dX12_plan_67 rfl ?_
                refine q_getP (pc' := 71) (j := 45) C (K_193 hF) fb_12_45 (by decide) wd_1216 (Or.inl rfl) (F_193_45 hF) (by decide) dX12_plan_68 rfl ?_
                refine r_aload_n (pc' := 72) (f4 := 0) (i := 0) C 0 rfl rfl dX12_plan_71 rfl ?_
                refine q_getI (pc' := 75) (j := 43) C (K_193 hF) fb_12_43 wd_1214 (Or.inl rfl) dX12_plan_72 rfl ?_
                refine r_iload_n (pc' := 76) (f4 := 1) (i := 1) C 1 rfl rfl dX12_plan_75 rfl ?_
                obtain ⟨hi, hf⟩ := ck_in hf
                refine r_iast (pc' := 77) C (K_220 hF) rfl hi dX12_plan_76 rfl ?_
                refine r_aload_n (pc' := 78) (f4 := 0) (i := 0) C 0 rfl rfl dX12_plan_77 rfl ?_
                refine q_getP (pc' := 81) (j := 46) C (K_193 hF) fb_12_46 (by decide) wd_1217 (Or.inl rfl) (F_193_46 hF) (by decide) dX12_plan_78 rfl ?_
                refine r_aload_n (pc' := 82) (f4 := 0) (i := 0) C 0 rfl rfl dX12_plan_81 rfl ?_
                refine q_getI (pc' := 85) (j := 43) C (K_193 hF) fb_12_43 wd_1214 (Or.inl rfl) dX12_plan_82 rfl ?_
                refine r_iload_n (pc' := 86) (f4 := 1) (i := 1) C 1 rfl rfl dX12_plan_85 rfl ?_
                refine r_if_le (pc' := 89) (tgt := 93) C rfl hf dX12_plan_86 (by decide) rfl (fun hf => ?_) (fun hf => ?_)
                · refine r_iload_n (pc' := 90) (f4 := 2) (i := 2) C 2 rfl rfl dX12_plan_89 rfl ?_
                  refine r_goto (tgt := 94) C dX12_plan_90 (by decide) ?_
                  obtain ⟨hi, hf⟩ := ck_in hf
                  refine r_iast (pc' := 95) C (K_221 hF) rfl hi dX12_plan_94 rfl ?_
                  refine r_aload_n (pc' := 96) (f4 := 0) (i := 0) C 0 rfl rfl dX12_plan_95 rfl ?_
                  refine r_dup (pc' := 97) C rfl dX12_plan_96 rfl ?_
                  refine q_getI (pc' := 100) (j := 43) C (K_193 hF) fb_12_43 wd_1214 (Or.inl rfl) dX12_plan_97 rfl ?_
                  refine r_iconst (pc' := 101) C dX12_plan_100 rfl ?_
                  refine r_iadd (pc' := 102) C dX12_plan_101 rfl ?_
                  refine q_putI (pc' := 105) (j := 43) C (K_193 hF) fb_12_43 fp_12_43 wd_1214 (Or.inl rfl) (Or.inl rfl) rfl rfl dX12_plan_102 rfl ?_
                  refine r_aload_n (pc' := 106) (f4 := 0) (i := 0) C 0 rfl rfl dX12_plan_105 rfl ?_
                  refine q_getI (pc' := 109) (j := 43) C (K_193 hF) fb_12_43 wd_1214 (Or.inl rfl) dX12_plan_106 rfl ?_
                  cases hf
                  exact r_iret C dX12_plan_109
                · refine r_iconst (pc' := 94) C dX12_plan_93 rfl ?_
                  obtain ⟨hi, hf⟩ := ck_in hf
                  refine r_iast (pc' := 95) C (K_221 hF) rfl hi dX12_plan_94 rfl ?_
                  refine r_aload_n (pc' := 96) (f4 := 0) (i := 0) C 0 rfl rfl dX12_plan_95 rfl ?_
                  refine r_dup (pc' := 97) C rfl dX12_plan_96 rfl ?_
                  refine q_getI (pc' := 100) (j := 43) C (K_193 hF) fb_12_43 wd_1214 (Or.inl rfl) dX12_plan_97 rfl ?_
                  refine r_iconst (pc' := 101) C dX12_plan_100 rfl ?_
                  refine r_iadd (pc' := 102) C dX12_plan_101 rfl ?_
                  refine q_putI (pc' := 105) (j := 43) C (K_193 hF) fb_12_43 fp_12_43 wd_1214 (Or.inl rfl) (Or.inl rfl) rfl rfl dX12_plan_102 rfl ?_
                  refine r_aload_n (pc' := 106) (f4 := 0) (i := 0) C 0 rfl rfl dX12_plan_105 rfl ?_
                  refine q_getI (pc' := 109) (j := 43) C (K_193 hF) fb_12_43 wd_1214 (Or.inl rfl) dX12_plan_106 rfl ?_
                  cases hf
                  exact r_iret C dX12_plan_109
          · refine r_aload_n (pc' := 56) (f4 := 0) (i := 0) C 0 rfl rfl dX12_plan_55 rfl ?_
            refine q_getI (pc' := 59) (j := 43) C (K_193 hF) fb_12_43 wd_1214 (Or.inl rfl) dX12_plan_56 rfl ?_
            refine r_bipush (pc' := 61) C rfl dX12_plan_59 rfl ?_
            refine r_icmp_ne (pc' := 64) (tgt := 67) C rfl ww_n10 hf dX12_plan_61 (by decide) rfl (fun hf => ?_) (fun hf => ?_)
            · refine r_bipush (pc' := 66) C rfl dX12_plan_64 rfl ?_
              cases hf
              exact r_iret C dX12_plan_66
            · refine r_aload_n (pc' := 68) (f4 := 0) (i := 0) C 0 rfl rfl dX12_plan_67 rfl ?_
              refine q_getP (pc' := 71) (j := 45) C (K_193 hF) fb_12_45 (by decide) wd_1216 (Or.inl rfl) (F_193_45 hF) (by decide) dX12_plan_68 rfl ?_
              refine r_aload_n (pc' := 72) (f4 := 0) (i := 0) C 0 rfl rfl dX12_plan_71 rfl ?_
              refine q_getI (pc' := 75) (j := 43) C (K_193 hF) fb_12_43 wd_1214 (Or.inl rfl) dX12_plan_72 rfl ?_
              refine r_iload_n (pc' := 76) (f4 := 1) (i := 1) C 1 rfl rfl dX12_plan_75 rfl ?_
              obtain ⟨hi, hf⟩ := ck_in hf
              refine r_iast (pc' := 77) C (K_220 hF) rfl hi dX12_plan_76 rfl ?_
              refine r_aload_n (pc' := 78) (f4 := 0) (i := 0) C 0 rfl rfl dX12_plan_77 rfl ?_
              refine q_getP (pc' := 81) (j := 46) C (K_193 hF) fb_12_46 (by decide) wd_1217 (Or.inl rfl) (F_193_46 hF) (by decide) dX12_plan_78 rfl ?_
              refine r_aload_n (pc' := 82) (f4 := 0) (i := 0) C 0 rfl rfl dX12_plan_81 rfl ?_
              refine q_getI (pc' := 85) (j := 43) C (K_193 hF) fb_12_43 wd_1214 (Or.inl rfl) dX12_plan_82 rfl ?_
              refine r_iload_n (pc' := 86) (f4 := 1) (i := 1) C 1 rfl rfl dX12_plan_85 rfl ?_
              refine r_if_le (pc' := 89) (tgt := 93) C rfl hf dX12_plan_86 (by decide) rfl (fun hf => ?_) (fun hf => ?_)
              · refine r_iload_n (pc' := 90) (f4 := 2) (i := 2) C 2 rfl rfl dX12_plan_89 rfl ?_
                refine r_goto (tgt := 94) C dX12_plan_90 (by decide) ?_
                obtain ⟨hi, hf⟩ := ck_in hf
                refine r_iast (pc' := 95) C (K_221 hF) rfl hi dX12_plan_94 rfl ?_
                refine r_aload_n (pc' := 96) (f4 := 0) (i := 0) C 0 rfl rfl dX12_plan_95 rfl ?_
                refine r_dup (pc' := 97) C rfl dX12_plan_96 rfl ?_
                refine q_getI (pc' := 100) (j := 43) C (K_193 hF) fb_12_43 wd_1214 (Or.inl rfl) dX12_plan_97 rfl ?_
                refine r_iconst (pc' := 101) C dX12_plan_100 rfl ?_
                refine r_iadd (pc' := 102) C dX12_plan_101 rfl ?_
                refine q_putI (pc' := 105) (j := 43) C (K_193 hF) fb_12_43 fp_12_43 wd_1214 (Or.inl rfl) (Or.inl rfl) rfl rfl dX12_plan_102 rfl ?_
                refine r_aload_n (pc' := 106) (f4 := 0) (i := 0) C 0 rfl rfl dX12_plan_105 rfl ?_
                refine q_getI (pc' := 109) (j := 43) C (K_193 hF) fb_12_43 wd_1214 (Or.inl rfl) dX12_plan_106 rfl ?_
                cases hf
                exact r_iret C dX12_plan_109
              · refine r_iconst (pc' := 94) C dX12_plan_93 rfl ?_
                obtain ⟨hi, hf⟩ := ck_in hf
                refine r_iast (pc' := 95) C (K_221 hF) rfl hi dX12_plan_94 rfl ?_
                refine r_aload_n (pc' := 96) (f4 := 0) (i := 0) C 0 rfl rfl dX12_plan_95 rfl ?_
                refine r_dup (pc' := 97) C rfl dX12_plan_96 rfl ?_
                refine q_getI (pc' := 100) (j := 43) C (K_193 hF) fb_12_43 wd_1214 (Or.inl rfl) dX12_plan_97 rfl ?_
                refine r_iconst (pc' := 101) C dX12_plan_100 rfl ?_
                refine r_iadd (pc' := 102) C dX12_plan_101 rfl ?_
                refine q_putI (pc' := 105) (j := 43) C (K_193 hF) fb_12_43 fp_12_43 wd_1214 (Or.inl rfl) (Or.inl rfl) rfl rfl dX12_plan_102 rfl ?_
                refine r_aload_n (pc' := 106) (f4 := 0) (i := 0) C 0 rfl rfl dX12_plan_105 rfl ?_
                refine q_getI (pc' := 109) (j := 43) C (K_193 hF) fb_12_43 wd_1214 (Or.inl rfl) dX12_plan_106 rfl ?_
                cases hf
                exact r_iret C dX12_plan_109

/- WassailEnemiesModel.goPlan(II)V -/
def m_goPlan (h : HH) (a1 : Int) (a2 : Int) : Option HH :=
  if ww a1 = 0 then ((m_goYear h).bind fun q1 => if ww (m_in a1 1 2) = 0 then (if ww a1 = 3 then (if ww (zrem a2 10) = 9 then ((m_leads q1 (zdiv a2 10) (-1)).bind fun q2 => some q2) else ((m_leads q1 (zdiv a2 10) (zrem a2 10)).bind fun q3 => some q3)) else (some q1)) else (if ww a1 = 1 then ((m_goes q1 a2 1).bind fun q4 => if ww a1 = 3 then (if ww (zrem a2 10) = 9 then ((m_leads q4 (zdiv a2 10) (-1)).bind fun q5 => some q5) else ((m_leads q4 (zdiv a2 10) (zrem a2 10)).bind fun q6 => some q6)) else (some q4)) else ((m_goes q1 a2 0).bind fun q7 => if ww a1 = 3 then (if ww (zrem a2 10) = 9 then ((m_leads q7 (zdiv a2 10) (-1)).bind fun q8 => some q8) else ((m_leads q7 (zdiv a2 10) (zrem a2 10)).bind fun q9 => some q9)) else (some q7)))) else (if ww (m_in a1 1 2) = 0 then (if ww a1 = 3 then (if ww (zrem a2 10) = 9 then ((m_leads h (zdiv a2 10) (-1)).bind fun q10 => some q10) else ((m_leads h (zdiv a2 10) (zrem a2 10)).bind fun q11 => some q11)) else (some h)) else (if ww a1 = 1 then ((m_goes h a2 1).bind fun q12 => if ww a1 = 3 then (if ww (zrem a2 10) = 9 then ((m_leads q12 (zdiv a2 10) (-1)).bind fun q13 => some q13) else ((m_leads q12 (zdiv a2 10) (zrem a2 10)).bind fun q14 => some q14)) else (some q12)) else ((m_goes h a2 0).bind fun q15 => if ww a1 = 3 then (if ww (zrem a2 10) = 9 then ((m_leads q15 (zdiv a2 10) (-1)).bind fun q16 => some q16) else ((m_leads q15 (zdiv a2 10) (zrem a2 10)).bind fun q17 => some q17)) else (some q15))))
abbrev rm_m_goPlan : Room := { frames := 7, cells := 0, slots := 0, locals := 166 }
set_option maxHeartbeats 4000000 in
set_option maxRecDepth 100000 in
theorem t_m_goPlan {S : SS} (hF : Fx S) {h : HH} {a1 : Int} {a2 : Int} {res : HH} (hf : m_goPlan h a1 a2 = some res) : CM yX12_goPlan cX12_goPlan 3 (Option.none : Option Jvm.ClassFile.FieldType) 7 166 0 0 (fun bs => [zP bs 193, zI a1, zI a2]) h S (fun _ => none) res S := by
  refine CM.intro (own := RX12) (by decide) rfl (fun _ => Nat.le_of_ble_eq_true rfl) ?_
  intro D dT bs p l e s m args below meth c C
  show V D dT bs 3 p l e rm_m_goPlan s m args below meth c 0 0 _ h S 0 [(0, zP bs 193), (1, zI a1), (2, zI a2)] []
  unfold m_goPlan at hf
  refine r_iload_n (pc' := 1) (f4 := 1) (i := 1) C 1 rfl rfl dX12_goPlan_0 rfl ?_
  refine r_if_ne (pc' := 4) (tgt := 8) C rfl hf dX12_goPlan_1 (by decide) rfl (fun hf => ?_) (fun hf => ?_)
  · refine r_aload_n (pc' := 5) (f4 := 0) (i := 0) C 0 rfl rfl dX12_goPlan_4 rfl ?_
    obtain ⟨q1, hq1, hf⟩ := bind_in hf
    refine q_callVv (pc' := 8) C (t_m_goYear hF hq1) rfl (K_193 hF) cl_12 wv_RX12_358 ⟨Nat.le_of_ble_eq_true rfl, Nat.le_of_ble_eq_true rfl⟩ rfl rfl (Nat.le_of_ble_eq_true rfl) dX12_goPlan_5 rfl ⟨Nat.le_of_ble_eq_true rfl, Nat.le_of_ble_eq_true rfl⟩ ?_
    refine r_aload_n (pc' := 9) (f4 := 0) (i := 0) C 0 rfl rfl dX12_goPlan_8 rfl ?_
    refine r_iload_n (pc' := 10) (f4 := 1) (i := 1) C 1 rfl rfl dX12_goPlan_9 rfl ?_
    refine r_iconst (pc' := 11) C dX12_goPlan_10 rfl ?_
    refine r_iconst (pc' := 12) C dX12_goPlan_11 rfl ?_
    refine q_callV (pc' := 15) C (t_m_in hF) rfl (K_193 hF) cl_12 wv_RX12_245 ⟨Nat.le_of_ble_eq_true rfl, Nat.le_of_ble_eq_true rfl⟩ rfl rfl (Nat.le_of_ble_eq_true rfl) dX12_goPlan_12 rfl ⟨Nat.le_of_ble_eq_true rfl, Nat.le_of_ble_eq_true rfl⟩ ?_
    refine r_if_eq (pc' := 18) (tgt := 33) C rfl hf dX12_goPlan_15 (by decide) rfl (fun hf => ?_) (fun hf => ?_)
    · refine r_iload_n (pc' := 34) (f4 := 1) (i := 1) C 1 rfl rfl dX12_goPlan_33 rfl ?_
      refine r_iconst (pc' := 35) C dX12_goPlan_34 rfl ?_
      refine r_icmp_ne (pc' := 38) (tgt := 63) C rfl ww_n3 hf dX12_goPlan_35 (by decide) rfl (fun hf => ?_) (fun hf => ?_)
      · refine r_aload_n (pc' := 39) (f4 := 0) (i := 0) C 0 rfl rfl dX12_goPlan_38 rfl ?_
        refine r_iload_n (pc' := 40) (f4 := 2) (i := 2) C 2 rfl rfl dX12_goPlan_39 rfl ?_
        refine r_bipush (pc' := 42) C rfl dX12_goPlan_40 rfl ?_
        refine r_idiv (pc' := 43) C ww_n10 (by decide) dX12_goPlan_42 rfl ?_
        refine r_iload_n (pc' := 44) (f4 := 2) (i := 2) C 2 rfl rfl dX12_goPlan_43 rfl ?_
        refine r_bipush (pc' := 46) C rfl dX12_goPlan_44 rfl ?_
        refine r_irem (pc' := 47) C ww_n10 (by decide) dX12_goPlan_46 rfl ?_
        refine r_bipush (pc' := 49) C rfl dX12_goPlan_47 rfl ?_
        refine r_icmp_ne (pc' := 52) (tgt := 56) C rfl ww_n9 hf dX12_goPlan_49 (by decide) rfl (fun hf => ?_) (fun hf => ?_)
        · refine r_iconst (pc' := 53) C dX12_goPlan_52 rfl ?_
          refine r_goto (tgt := 60) C dX12_goPlan_53 (by decide) ?_
          obtain ⟨q2, hq2, hf⟩ := bind_in hf
          refine q_callVv (pc' := 63) C (t_m_leads hF hq2) rfl (K_193 hF) cl_12 wv_RX12_259 ⟨Nat.le_of_ble_eq_true rfl, Nat.le_of_ble_eq_true rfl⟩ rfl rfl (Nat.le_of_ble_eq_true rfl) dX12_goPlan_60 rfl ⟨Nat.le_of_ble_eq_true rfl, Nat.le_of_ble_eq_true rfl⟩ ?_
          cases hf
          exact r_vret C dX12_goPlan_63
        · refine r_iload_n (pc' := 57) (f4 := 2) (i := 2) C 2 rfl rfl dX12_goPlan_56 rfl ?_
          refine r_bipush (pc' := 59) C rfl dX12_goPlan_57 rfl ?_
          refine r_irem (pc' := 60) C ww_n10 (by decide) dX12_goPlan_59 rfl ?_
          obtain ⟨q3, hq3, hf⟩ := bind_in hf
          refine q_callVv (pc' := 63) C (t_m_leads hF hq3) rfl (K_193 hF) cl_12 wv_RX12_259 ⟨Nat.le_of_ble_eq_true rfl, Nat.le_of_ble_eq_true rfl⟩ rfl rfl (Nat.le_of_ble_eq_true rfl) dX12_goPlan_60 rfl ⟨Nat.le_of_ble_eq_true rfl, Nat.le_of_ble_eq_true rfl⟩ ?_
          cases hf
          exact r_vret C dX12_goPlan_63
      · cases hf
        exact r_vret C dX12_goPlan_63
    · refine r_aload_n (pc' := 19) (f4 := 0) (i := 0) C 0 rfl rfl dX12_goPlan_18 rfl ?_
      refine r_iload_n (pc' := 20) (f4 := 2) (i := 2) C 2 rfl rfl dX12_goPlan_19 rfl ?_
      refine r_iload_n (pc' := 21) (f4 := 1) (i := 1) C 1 rfl rfl dX12_goPlan_20 rfl ?_
      refine r_iconst (pc' := 22) C dX12_goPlan_21 rfl ?_
      refine r_icmp_ne (pc' := 25) (tgt := 29) C rfl ww_n1 hf dX12_goPlan_22 (by decide) rfl (fun hf => ?_) (fun hf => ?_)
      · refine r_iconst (pc' := 26) C dX12_goPlan_25 rfl ?_
        refine r_goto (tgt := 30) C dX12_goPlan_26 (by decide) ?_
        obtain ⟨q4, hq4, hf⟩ := bind_in hf
        refine q_callVv (pc' := 33) C (t_m_goes hF hq4) rfl (K_193 hF) cl_12 wv_RX12_267 ⟨Nat.le_of_ble_eq_true rfl, Nat.le_of_ble_eq_true rfl⟩ rfl rfl (Nat.le_of_ble_eq_true rfl) dX12_goPlan_30 rfl ⟨Nat.le_of_ble_eq_true rfl, Nat.le_of_ble_eq_true rfl⟩ ?_
        refine r_iload_n (pc' := 34) (f4 := 1) (i := 1) C 1 rfl rfl dX12_goPlan_33 rfl ?_
        refine r_iconst (pc' := 35) C dX12_goPlan_34 rfl ?_
        refine r_icmp_ne (pc' := 38) (tgt := 63) C rfl ww_n3 hf dX12_goPlan_35 (by decide) rfl (fun hf => ?_) (fun hf => ?_)
        · refine r_aload_n (pc' := 39) (f4 := 0) (i := 0) C 0 rfl rfl dX12_goPlan_38 rfl ?_
          refine r_iload_n (pc' := 40) (f4 := 2) (i := 2) C 2 rfl rfl dX12_goPlan_39 rfl ?_
          refine r_bipush (pc' := 42) C rfl dX12_goPlan_40 rfl ?_
          refine r_idiv (pc' := 43) C ww_n10 (by decide) dX12_goPlan_42 rfl ?_
          refine r_iload_n (pc' := 44) (f4 := 2) (i := 2) C 2 rfl rfl dX12_goPlan_43 rfl ?_
          refine r_bipush (pc' := 46) C rfl dX12_goPlan_44 rfl ?_
          refine r_irem (pc' := 47) C ww_n10 (by decide) dX12_goPlan_46 rfl ?_
          refine r_bipush (pc' := 49) C rfl dX12_goPlan_47 rfl ?_
          refine r_icmp_ne (pc' := 52) (tgt := 56) C rfl ww_n9 hf dX12_goPlan_49 (by decide) rfl (fun hf => ?_) (fun hf => ?_)
          · refine r_iconst (pc' := 53) C dX12_goPlan_52 rfl ?_
            refine r_goto (tgt := 60) C dX12_goPlan_53 (by decide) ?_
            obtain ⟨q5, hq5, hf⟩ := bind_in hf
            refine q_callVv (pc' := 63) C (t_m_leads hF hq5) rfl (K_193 hF) cl_12 wv_RX12_259 ⟨Nat.le_of_ble_eq_true rfl, Nat.le_of_ble_eq_true rfl⟩ rfl rfl (Nat.le_of_ble_eq_true rfl) dX12_goPlan_60 rfl ⟨Nat.le_of_ble_eq_true rfl, Nat.le_of_ble_eq_true rfl⟩ ?_
            cases hf
            exact r_vret C dX12_goPlan_63
          · refine r_iload_n (pc' := 57) (f4 := 2) (i := 2) C 2 rfl rfl dX12_goPlan_56 rfl ?_
            refine r_bipush (pc' := 59) C rfl dX12_goPlan_57 rfl ?_
            refine r_irem (pc' := 60) C ww_n10 (by decide) dX12_goPlan_59 rfl ?_
            obtain ⟨q6, hq6, hf⟩ := bind_in hf
            refine q_callVv (pc' := 63) C (t_m_leads hF hq6) rfl (K_193 hF) cl_12 wv_RX12_259 ⟨Nat.le_of_ble_eq_true rfl, Nat.le_of_ble_eq_true rfl⟩ rfl rfl (Nat.le_of_ble_eq_true rfl) dX12_goPlan_60 rfl ⟨Nat.le_of_ble_eq_true rfl, Nat.le_of_ble_eq_true rfl⟩ ?_
            cases hf
            exact r_vret C dX12_goPlan_63
        · cases hf
          exact r_vret C dX12_goPlan_63
      · refine r_iconst (pc' := 30) C dX12_goPlan_29 rfl ?_
        obtain ⟨q7, hq7, hf⟩ := bind_in hf
        refine q_callVv (pc' := 33) C (t_m_goes hF hq7) rfl (K_193 hF) cl_12 wv_RX12_267 ⟨Nat.le_of_ble_eq_true rfl, Nat.le_of_ble_eq_true rfl⟩ rfl rfl (Nat.le_of_ble_eq_true rfl) dX12_goPlan_30 rfl ⟨Nat.le_of_ble_eq_true rfl, Nat.le_of_ble_eq_true rfl⟩ ?_
        refine r_iload_n (pc' := 34) (f4 := 1) (i := 1) C 1 rfl rfl dX12_goPlan_33 rfl ?_
        refine r_iconst (pc' := 35) C dX12_goPlan_34 rfl ?_
        refine r_icmp_ne (pc' := 38) (tgt := 63) C rfl ww_n3 hf dX12_goPlan_35 (by decide) rfl (fun hf => ?_) (fun hf => ?_)
        · refine r_aload_n (pc' := 39) (f4 := 0) (i := 0) C 0 rfl rfl dX12_goPlan_38 rfl ?_
          refine r_iload_n (pc' := 40) (f4 := 2) (i := 2) C 2 rfl rfl dX12_goPlan_39 rfl ?_
          refine r_bipush (pc' := 42) C rfl dX12_goPlan_40 rfl ?_
          refine r_idiv (pc' := 43) C ww_n10 (by decide) dX12_goPlan_42 rfl ?_
          refine r_iload_n (pc' := 44) (f4 := 2) (i := 2) C 2 rfl rfl dX12_goPlan_43 rfl ?_
          refine r_bipush (pc' := 46) C rfl dX12_goPlan_44 rfl ?_
          refine r_irem (pc' := 47) C ww_n10 (by decide) dX12_goPlan_46 rfl ?_
          refine r_bipush (pc' := 49) C rfl dX12_goPlan_47 rfl ?_
          refine r_icmp_ne (pc' := 52) (tgt := 56) C rfl ww_n9 hf dX12_goPlan_49 (by decide) rfl (fun hf => ?_) (fun hf => ?_)
          · refine r_iconst (pc' := 53) C dX12_goPlan_52 rfl ?_
            refine r_goto (tgt := 60) C dX12_goPlan_53 (by decide) ?_
            obtain ⟨q8, hq8, hf⟩ := bind_in hf
            refine q_callVv (pc' := 63) C (t_m_leads hF hq8) rfl (K_193 hF) cl_12 wv_RX12_259 ⟨Nat.le_of_ble_eq_true rfl, Nat.le_of_ble_eq_true rfl⟩ rfl rfl (Nat.le_of_ble_eq_true rfl) dX12_goPlan_60 rfl ⟨Nat.le_of_ble_eq_true rfl, Nat.le_of_ble_eq_true rfl⟩ ?_
            cases hf
            exact r_vret C dX12_goPlan_63
          · refine r_iload_n (pc' := 57) (f4 := 2) (i := 2) C 2 rfl rfl dX12_goPlan_56 rfl ?_
            refine r_bipush (pc' := 59) C rfl dX12_goPlan_57 rfl ?_
            refine r_irem (pc' := 60) C ww_n10 (by decide) dX12_goPlan_59 rfl ?_
            obtain ⟨q9, hq9, hf⟩ := bind_in hf
            refine q_callVv (pc' := 63) C (t_m_leads hF hq9) rfl (K_193 hF) cl_12 wv_RX12_259 ⟨Nat.le_of_ble_eq_true rfl, Nat.le_of_ble_eq_true rfl⟩ rfl rfl (Nat.le_of_ble_eq_true rfl) dX12_goPlan_60 rfl ⟨Nat.le_of_ble_eq_true rfl, Nat.le_of_ble_eq_true rfl⟩ ?_
            cases hf
            exact r_vret C dX12_goPlan_63
        · cases hf
          exact r_vret C dX12_goPlan_63
  · refine r_aload_n (pc' := 9) (f4 := 0) (i := 0) C 0 rfl rfl dX12_goPlan_8 rfl ?_
    refine r_iload_n (pc' := 10) (f4 := 1) (i := 1) C 1 rfl rfl dX12_goPlan_9 rfl ?_
    refine r_iconst (pc' := 11) C dX12_goPlan_10 rfl ?_
    refine r_iconst (pc' := 12) C dX12_goPlan_11 rfl ?_
    refine q_callV (pc' := 15) C (t_m_in hF) rfl (K_193 hF) cl_12 wv_RX12_245 ⟨Nat.le_of_ble_eq_true rfl, Nat.le_of_ble_eq_true rfl⟩ rfl rfl (Nat.le_of_ble_eq_true rfl) dX12_goPlan_12 rfl ⟨Nat.le_of_ble_eq_true rfl, Nat.le_of_ble_eq_true rfl⟩ ?_
    refine r_if_eq (pc' := 18) (tgt := 33) C rfl hf dX12_goPlan_15 (by decide) rfl (fun hf => ?_) (fun hf => ?_)
    · refine r_iload_n (pc' := 34) (f4 := 1) (i := 1) C 1 rfl rfl dX12_goPlan_33 rfl ?_
      refine r_iconst (pc' := 35) C dX12_goPlan_34 rfl ?_
      refine r_icmp_ne (pc' := 38) (tgt := 63) C rfl ww_n3 hf dX12_goPlan_35 (by decide) rfl (fun hf => ?_) (fun hf => ?_)
      · refine r_aload_n (pc' := 39) (f4 := 0) (i := 0) C 0 rfl rfl dX12_goPlan_38 rfl ?_
        refine r_iload_n (pc' := 40) (f4 := 2) (i := 2) C 2 rfl rfl dX12_goPlan_39 rfl ?_
        refine r_bipush (pc' := 42) C rfl dX12_goPlan_40 rfl ?_
        refine r_idiv (pc' := 43) C ww_n10 (by decide) dX12_goPlan_42 rfl ?_
        refine r_iload_n (pc' := 44) (f4 := 2) (i := 2) C 2 rfl rfl dX12_goPlan_43 rfl ?_
        refine r_bipush (pc' := 46) C rfl dX12_goPlan_44 rfl ?_
        refine r_irem (pc' := 47) C ww_n10 (by decide) dX12_goPlan_46 rfl ?_
        refine r_bipush (pc' := 49) C rfl dX12_goPlan_47 rfl ?_
        refine r_icmp_ne (pc' := 52) (tgt := 56) C rfl ww_n9 hf dX12_goPlan_49 (by decide) rfl (fun hf => ?_) (fun hf => ?_)
        · refine r_iconst (pc' := 53) C dX12_goPlan_52 rfl ?_
          refine r_goto (tgt := 60) C dX12_goPlan_53 (by decide) ?_
          obtain ⟨q10, hq10, hf⟩ := bind_in hf
          refine q_callVv (pc' := 63) C (t_m_leads hF hq10) rfl (K_193 hF) cl_12 wv_RX12_259 ⟨Nat.le_of_ble_eq_true rfl, Nat.le_of_ble_eq_true rfl⟩ rfl rfl (Nat.le_of_ble_eq_true rfl) dX12_goPlan_60 rfl ⟨Nat.le_of_ble_eq_true rfl, Nat.le_of_ble_eq_true rfl⟩ ?_
          cases hf
          exact r_vret C dX12_goPlan_63
        · refine r_iload_n (pc' := 57) (f4 := 2) (i := 2) C 2 rfl rfl dX12_goPlan_56 rfl ?_
          refine r_bipush (pc' := 59) C rfl dX12_goPlan_57 rfl ?_
          refine r_irem (pc' := 60) C ww_n10 (by decide) dX12_goPlan_59 rfl ?_
          obtain ⟨q11, hq11, hf⟩ := bind_in hf
          refine q_callVv (pc' := 63) C (t_m_leads hF hq11) rfl (K_193 hF) cl_12 wv_RX12_259 ⟨Nat.le_of_ble_eq_true rfl, Nat.le_of_ble_eq_true rfl⟩ rfl rfl (Nat.le_of_ble_eq_true rfl) dX12_goPlan_60 rfl ⟨Nat.le_of_ble_eq_true rfl, Nat.le_of_ble_eq_true rfl⟩ ?_
          cases hf
          exact r_vret C dX12_goPlan_63
      · cases hf
        exact r_vret C dX12_goPlan_63
    · refine r_aload_n (pc' := 19) (f4 := 0) (i := 0) C 0 rfl rfl dX12_goPlan_18 rfl ?_
      refine r_iload_n (pc' := 20) (f4 := 2) (i := 2) C 2 rfl rfl dX12_goPlan_19 rfl ?_
      refine r_iload_n (pc' := 21) (f4 := 1) (i := 1) C 1 rfl rfl dX12_goPlan_20 rfl ?_
      refine r_iconst (pc' := 22) C dX12_goPlan_21 rfl ?_
      refine r_icmp_ne (pc' := 25) (tgt := 29) C rfl ww_n1 hf dX12_goPlan_22 (by decide) rfl (fun hf => ?_) (fun hf => ?_)
      · refine r_iconst (pc' := 26) C dX12_goPlan_25 rfl ?_
        refine r_goto (tgt := 30) C dX12_goPlan_26 (by decide) ?_
        obtain ⟨q12, hq12, hf⟩ := bind_in hf
        refine q_callVv (pc' := 33) C (t_m_goes hF hq12) rfl (K_193 hF) cl_12 wv_RX12_267 ⟨Nat.le_of_ble_eq_true rfl, Nat.le_of_ble_eq_true rfl⟩ rfl rfl (Nat.le_of_ble_eq_true rfl) dX12_goPlan_30 rfl ⟨Nat.le_of_ble_eq_true rfl, Nat.le_of_ble_eq_true rfl⟩ ?_
        refine r_iload_n (pc' := 34) (f4 := 1) (i := 1) C 1 rfl rfl dX12_goPlan_33 rfl ?_
        refine r_iconst (pc' := 35) C dX12_goPlan_34 rfl ?_
        refine r_icmp_ne (pc' := 38) (tgt := 63) C rfl ww_n3 hf dX12_goPlan_35 (by decide) rfl (fun hf => ?_) (fun hf => ?_)
        · refine r_aload_n (pc' := 39) (f4 := 0) (i := 0) C 0 rfl rfl dX12_goPlan_38 rfl ?_
          refine r_iload_n (pc' := 40) (f4 := 2) (i := 2) C 2 rfl rfl dX12_goPlan_39 rfl ?_
          refine r_bipush (pc' := 42) C rfl dX12_goPlan_40 rfl ?_
          refine r_idiv (pc' := 43) C ww_n10 (by decide) dX12_goPlan_42 rfl ?_
          refine r_iload_n (pc' := 44) (f4 := 2) (i := 2) C 2 rfl rfl dX12_goPlan_43 rfl ?_
          refine r_bipush (pc' := 46) C rfl dX12_goPlan_44 rfl ?_
          refine r_irem (pc' := 47) C ww_n10 (by decide) dX12_goPlan_46 rfl ?_
          refine r_bipush (pc' := 49) C rfl dX12_goPlan_47 rfl ?_
          refine r_icmp_ne (pc' := 52) (tgt := 56) C rfl ww_n9 hf dX12_goPlan_49 (by decide) rfl (fun hf => ?_) (fun hf => ?_)
          · refine r_iconst (pc' := 53) C dX12_goPlan_52 rfl ?_
            refine r_goto (tgt := 60) C dX12_goPlan_53 (by decide) ?_
            obtain ⟨q13, hq13, hf⟩ := bind_in hf
            refine q_callVv (pc' := 63) C (t_m_leads hF hq13) rfl (K_193 hF) cl_12 wv_RX12_259 ⟨Nat.le_of_ble_eq_true rfl, Nat.le_of_ble_eq_true rfl⟩ rfl rfl (Nat.le_of_ble_eq_true rfl) dX12_goPlan_60 rfl ⟨Nat.le_of_ble_eq_true rfl, Nat.le_of_ble_eq_true rfl⟩ ?_
            cases hf
            exact r_vret C dX12_goPlan_63
          · refine r_iload_n (pc' := 57) (f4 := 2) (i := 2) C 2 rfl rfl dX12_goPlan_56 rfl ?_
            refine r_bipush (pc' := 59) C rfl dX12_goPlan_57 rfl ?_
            refine r_irem (pc' := 60) C ww_n10 (by decide) dX12_goPlan_59 rfl ?_
            obtain ⟨q14, hq14, hf⟩ := bind_in hf
            refine q_callVv (pc' := 63) C (t_m_leads hF hq14) rfl (K_193 hF) cl_12 wv_RX12_259 ⟨Nat.le_of_ble_eq_true rfl, Nat.le_of_ble_eq_true rfl⟩ rfl rfl (Nat.le_of_ble_eq_true rfl) dX12_goPlan_60 rfl ⟨Nat.le_of_ble_eq_true rfl, Nat.le_of_ble_eq_true rfl⟩ ?_
            cases hf
            exact r_vret C dX12_goPlan_63
        · cases hf
          exact r_vret C dX12_goPlan_63
      · refine r_iconst (pc' := 30) C dX12_goPlan_29 rfl ?_
        obtain ⟨q15, hq15, hf⟩ := bind_in hf
        refine q_callVv (pc' := 33) C (t_m_goes hF hq15) rfl (K_193 hF) cl_12 wv_RX12_267 ⟨Nat.le_of_ble_eq_true rfl, Nat.le_of_ble_eq_true rfl⟩ rfl rfl (Nat.le_of_ble_eq_true rfl) dX12_goPlan_30 rfl ⟨Nat.le_of_ble_eq_true rfl, Nat.le_of_ble_eq_true rfl⟩ ?_
        refine r_iload_n (pc' := 34) (f4 := 1) (i := 1) C 1 rfl rfl dX12_goPlan_33 rfl ?_
        refine r_iconst (pc' := 35) C dX12_goPlan_34 rfl ?_
        refine r_icmp_ne (pc' := 38) (tgt := 63) C rfl ww_n3 hf dX12_goPlan_35 (by decide) rfl (fun hf => ?_) (fun hf => ?_)
        · refine r_aload_n (pc' := 39) (f4 := 0) (i := 0) C 0 rfl rfl dX12_goPlan_38 rfl ?_
          refine r_iload_n (pc' := 40) (f4 := 2) (i := 2) C 2 rfl rfl dX12_goPlan_39 rfl ?_
          refine r_bipush (pc' := 42) C rfl dX12_goPlan_40 rfl ?_
          refine r_idiv (pc' := 43) C ww_n10 (by decide) dX12_goPlan_42 rfl ?_
          refine r_iload_n (pc' := 44) (f4 := 2) (i := 2) C 2 rfl rfl dX12_goPlan_43 rfl ?_
          refine r_bipush (pc' := 46) C rfl dX12_goPlan_44 rfl ?_
          refine r_irem (pc' := 47) C ww_n10 (by decide) dX12_goPlan_46 rfl ?_
          refine r_bipush (pc' := 49) C rfl dX12_goPlan_47 rfl ?_
          refine r_icmp_ne (pc' := 52) (tgt := 56) C rfl ww_n9 hf dX12_goPlan_49 (by decide) rfl (fun hf => ?_) (fun hf => ?_)
          · refine r_iconst (pc' := 53) C dX12_goPlan_52 rfl ?_
            refine r_goto (tgt := 60) C dX12_goPlan_53 (by decide) ?_
            obtain ⟨q16, hq16, hf⟩ := bind_in hf
            refine q_callVv (pc' := 63) C (t_m_leads hF hq16) rfl (K_193 hF) cl_12 wv_RX12_259 ⟨Nat.le_of_ble_eq_true rfl, Nat.le_of_ble_eq_true rfl⟩ rfl rfl (Nat.le_of_ble_eq_true rfl) dX12_goPlan_60 rfl ⟨Nat.le_of_ble_eq_true rfl, Nat.le_of_ble_eq_true rfl⟩ ?_
            cases hf
            exact r_vret C dX12_goPlan_63
          · refine r_iload_n (pc' := 57) (f4 := 2) (i := 2) C 2 rfl rfl dX12_goPlan_56 rfl ?_
            refine r_bipush (pc' := 59) C rfl dX12_goPlan_57 rfl ?_
            refine r_irem (pc' := 60) C ww_n10 (by decide) dX12_goPlan_59 rfl ?_
            obtain ⟨q17, hq17, hf⟩ := bind_in hf
            refine q_callVv (pc' := 63) C (t_m_leads hF hq17) rfl (K_193 hF) cl_12 wv_RX12_259 ⟨Nat.le_of_ble_eq_true rfl, Nat.le_of_ble_eq_true rfl⟩ rfl rfl (Nat.le_of_ble_eq_true rfl) dX12_goPlan_60 rfl ⟨Nat.le_of_ble_eq_true rfl, Nat.le_of_ble_eq_true rfl⟩ ?_
            cases hf
            exact r_vret C dX12_goPlan_63
        · cases hf
          exact r_vret C dX12_goPlan_63

/- WassailEnemiesModel.ends(I)I -/
def m_ends_L18 (x1 : Int) : Nat → HH → Int → Option (Int × HH)
  | 0, _, _ => none
  | n18 + 1, h, x2 =>
    if ww x2 < ww (h 193 43) then (ck (ww x2) 10 <| ck (ww x2) 10 <| (m_goPlan h (h 220 (ww x2)) (h 221 (ww x2))).bind fun q2 => m_ends_L18 x1 n18 q2 (x2 + 1)) else (if ww x1 = 0 then ((m_allBore h).bind fun q3 => (m_putBack h).bind fun q4 => some (q3, q4)) else ((m_allHate h).bind fun q5 => (m_putBack h).bind fun q6 => some (q5, q6)))
def m_ends (h : HH) (a1 : Int) : Option (Int × HH) :=
  if ww (m_in a1 0 1) = 0 then (some (-1, h)) else ((m_save h).bind fun q1 => m_ends_L18 a1 FU q1 0)
abbrev rm_m_ends : Room := { frames := 8, cells := 0, slots := 0, locals := 188 }
set_option maxHeartbeats 4000000 in
set_option maxRecDepth 100000 in
theorem w_m_ends_L18 (hF : Fx S) (C : Cx D dT bs RX12 cX12_ends 3 (some Jvm.ClassFile.FieldType.int) p s m args meth c) (x1 : Int) {res : (Int × HH)} :
    ∀ (n : Nat) (h : HH) (x2 : Int), m_ends_L18 x1 n h x2 = some res → V D dT bs 3 p l e rm_m_ends s m args below meth c 0 0 (MQ below (QQ D dT bs (some (zI res.1)) res.2 S) args s 0 0 (AA bs)) h S 18 [(0, zP bs 193), (1, zI x1), (2, zI x2)] [] := by
  intro n
  induction n with
  | zero => intro h x2 hf; simp [m_ends_L18] at hf
  | succ n18 ih18 =>
    intro h x2 hf
    rw [m_ends_L18] at hf
    refine r_iload_n (pc' := 19) (f4 := 2) (i := 2) C 2 rfl rfl dX12_ends_18 rfl ?_
    refine r_aload_n (pc' := 20) (f4 := 0) (i := 0) C 0 rfl rfl dX12_ends_19 rfl ?_
    refine q_getI (pc' := 23) (j := 43) C (K_193 hF) fb_12_43 wd_1214 (Or.inl rfl) dX12_ends_20 rfl ?_
    refine r_icmp_ge (pc' := 26) (tgt := 48) C rfl rfl hf dX12_ends_23 (by decide) rfl (fun hf => ?_) (fun hf => ?_)
    · refine r_aload_n (pc' := 27) (f4 := 0) (i := 0) C 0 rfl rfl dX12_ends_26 rfl ?_
      refine r_aload_n (pc' := 28) (f4 := 0) (i := 0) C 0 rfl rfl dX12_ends_27 rfl ?_
      refine q_getP (pc' := 31) (j := 45) C (K_193 hF) fb_12_45 (by decide) wd_1216 (Or.inl rfl) (F_193_45 hF) (by decide) dX12_ends_28 rfl ?_
      refine r_iload_n (pc' := 32) (f4 := 2) (i := 2) C 2 rfl rfl dX12_ends_31 rfl ?_
      obtain ⟨hi, hf⟩ := ck_in hf
      refine r_iald (pc' := 33) C (K_220 hF) rfl hi dX12_ends_32 rfl ?_
      refine r_aload_n (pc' := 34) (f4 := 0) (i := 0) C 0 rfl rfl dX12_ends_33 rfl ?_
      refine q_getP (pc' := 37) (j := 46) C (K_193 hF) fb_12_46 (by decide) wd_1217 (Or.inl rfl) (F_193_46 hF) (by decide) dX12_ends_34 rfl ?_
      refine r_iload_n (pc' := 38) (f4 := 2) (i := 2) C 2 rfl rfl dX12_ends_37 rfl ?_
      obtain ⟨hi, hf⟩ := ck_in hf
      refine r_iald (pc' := 39) C (K_221 hF) rfl hi dX12_ends_38 rfl ?_
      obtain ⟨q2, hq2, hf⟩ := bind_in hf
      refine q_callVv (pc' := 42) C (t_m_goPlan hF hq2) rfl (K_193 hF) cl_12 wv_RX12_418 ⟨Nat.le_of_ble_eq_true rfl, Nat.le_of_ble_eq_true rfl⟩ rfl rfl (Nat.le_of_ble_eq_true rfl) dX12_ends_39 rfl ⟨Nat.le_of_ble_eq_true rfl, Nat.le_of_ble_eq_true rfl⟩ ?_
      refine r_iinc (pc' := 45) (i := 2) (L' := [(2, zI (x2 + 1)), (0, zP bs 193), (1, zI x1)]) C 2 rfl (by decide) rfl dX12_ends_42 rfl ?_
      refine r_goto (tgt := 18) C dX12_ends_45 (by decide) ?_
      refine V.sub (L' := [(0, zP bs 193), (1, zI x1), (2, zI (x2 + 1))]) [1, 2, 0] rfl ?_
      exact ih18 _ _ hf
    · refine r_iload_n (pc' := 49) (f4 := 1) (i := 1) C 1 rfl rfl dX12_ends_48 rfl ?_
      refine r_if_ne (pc' := 52) (tgt := 59) C rfl hf dX12_ends_49 (by decide) rfl (fun hf => ?_) (fun hf => ?_)
      · refine r_aload_n (pc' := 53) (f4 := 0) (i := 0) C 0 rfl rfl dX12_ends_52 rfl ?_
        obtain ⟨q3, hq3, hf⟩ := bind_in hf
        refine q_callV (pc' := 56) C (t_m_allBore hF hq3) rfl (K_193 hF) cl_12 wv_RX12_390 ⟨Nat.le_of_ble_eq_true rfl, Nat.le_of_ble_eq_true rfl⟩ rfl rfl (Nat.le_of_ble_eq_true rfl) dX12_ends_53 rfl ⟨Nat.le_of_ble_eq_true rfl, Nat.le_of_ble_eq_true rfl⟩ ?_
        refine r_goto (tgt := 63) C dX12_ends_56 (by decide) ?_
        refine r_istore_n (pc' := 64) (f4 := 2) (i := 2) (L' := [(2, zI q3), (0, zP bs 193), (1, zI x1)]) C rfl (by decide) rfl dX12_ends_63 rfl ?_
        refine r_aload_n (pc' := 65) (f4 := 0) (i := 0) C 1 rfl rfl dX12_ends_64 rfl ?_
        obtain ⟨q4, hq4, hf⟩ := bind_in hf
        refine q_callVv (pc' := 68) C (t_m_putBack hF hq4) rfl (K_193 hF) cl_12 wv_RX12_371 ⟨Nat.le_of_ble_eq_true rfl, Nat.le_of_ble_eq_true rfl⟩ rfl rfl (Nat.le_of_ble_eq_true rfl) dX12_ends_65 rfl ⟨Nat.le_of_ble_eq_true rfl, Nat.le_of_ble_eq_true rfl⟩ ?_
        refine r_iload_n (pc' := 69) (f4 := 2) (i := 2) C 0 rfl rfl dX12_ends_68 rfl ?_
        cases hf
        exact r_iret C dX12_ends_69
      · refine r_aload_n (pc' := 60) (f4 := 0) (i := 0) C 0 rfl rfl dX12_ends_59 rfl ?_
        obtain ⟨q5, hq5, hf⟩ := bind_in hf
        refine q_callV (pc' := 63) C (t_m_allHate hF hq5) rfl (K_193 hF) cl_12 wv_RX12_421 ⟨Nat.le_of_ble_eq_true rfl, Nat.le_of_ble_eq_true rfl⟩ rfl rfl (Nat.le_of_ble_eq_true rfl) dX12_ends_60 rfl ⟨Nat.le_of_ble_eq_true rfl, Nat.le_of_ble_eq_true rfl⟩ ?_
        refine r_istore_n (pc' := 64) (f4 := 2) (i := 2) (L' := [(2, zI q5), (0, zP bs 193), (1, zI x1)]) C rfl (by decide) rfl dX12_ends_63 rfl ?_
        refine r_aload_n (pc' := 65) (f4 := 0) (i := 0) C 1 rfl rfl dX12_ends_64 rfl ?_
        obtain ⟨q6, hq6, hf⟩ := bind_in hf
        refine q_callVv (pc' := 68) C (t_m_putBack hF hq6) rfl (K_193 hF) cl_12 wv_RX12_371 ⟨Nat.le_of_ble_eq_true rfl, Nat.le_of_ble_eq_true rfl⟩ rfl rfl (Nat.le_of_ble_eq_true rfl) dX12_ends_65 rfl ⟨Nat.le_of_ble_eq_true rfl, Nat.le_of_ble_eq_true rfl⟩ ?_
        refine r_iload_n (pc' := 69) (f4 := 2) (i := 2) C 0 rfl rfl dX12_ends_68 rfl ?_
        cases hf
        exact r_iret C dX12_ends_69
set_option maxHeartbeats 4000000 in
set_option maxRecDepth 100000 in
theorem t_m_ends {S : SS} (hF : Fx S) {h : HH} {a1 : Int} {res : Int × HH} (hf : m_ends h a1 = some res) : CM yX12_ends cX12_ends 3 (some Jvm.ClassFile.FieldType.int) 8 188 0 0 (fun bs => [zP bs 193, zI a1]) h S (fun _ => some (zI res.1)) res.2 S := by
  refine CM.intro (own := RX12) (by decide) rfl (fun _ => Nat.le_of_ble_eq_true rfl) ?_
  intro D dT bs p l e s m args below meth c C
  show V D dT bs 3 p l e rm_m_ends s m args below meth c 0 0 _ h S 0 [(0, zP bs 193), (1, zI a1)] []
  unfold m_ends at hf
  refine r_aload_n (pc' := 1) (f4 := 0) (i := 0) C 0 rfl rfl dX12_ends_0 rfl ?_
  refine r_iload_n (pc' := 2) (f4 := 1) (i := 1) C 1 rfl rfl dX12_ends_1 rfl ?_
  refine r_iconst (pc' := 3) C dX12_ends_2 rfl ?_
  refine r_iconst (pc' := 4) C dX12_ends_3 rfl ?_
  refine q_callV (pc' := 7) C (t_m_in hF) rfl (K_193 hF) cl_12 wv_RX12_245 ⟨Nat.le_of_ble_eq_true rfl, Nat.le_of_ble_eq_true rfl⟩ rfl rfl (Nat.le_of_ble_eq_true rfl) dX12_ends_4 rfl ⟨Nat.le_of_ble_eq_true rfl, Nat.le_of_ble_eq_true rfl⟩ ?_
  refine r_if_ne (pc' := 10) (tgt := 12) C rfl hf dX12_ends_7 (by decide) rfl (fun hf => ?_) (fun hf => ?_)
  · refine r_iconst (pc' := 11) C dX12_ends_10 rfl ?_
    cases hf
    exact r_iret C dX12_ends_11
  · refine r_aload_n (pc' := 13) (f4 := 0) (i := 0) C 0 rfl rfl dX12_ends_12 rfl ?_
    obtain ⟨q1, hq1, hf⟩ := bind_in hf
    refine q_callVv (pc' := 16) C (t_m_save hF hq1) rfl (K_193 hF) cl_12 wv_RX12_368 ⟨Nat.le_of_ble_eq_true rfl, Nat.le_of_ble_eq_true rfl⟩ rfl rfl (Nat.le_of_ble_eq_true rfl) dX12_ends_13 rfl ⟨Nat.le_of_ble_eq_true rfl, Nat.le_of_ble_eq_true rfl⟩ ?_
    refine r_iconst (pc' := 17) C dX12_ends_16 rfl ?_
    refine r_istore_n (pc' := 18) (f4 := 2) (i := 2) (L' := [(2, zI 0), (0, zP bs 193), (1, zI a1)]) C rfl (by decide) rfl dX12_ends_17 rfl ?_
    refine V.sub (L' := [(0, zP bs 193), (1, zI a1), (2, zI 0)]) [1, 2, 0] rfl ?_
    refine w_m_ends_L18 hF C _ _ _ _ hf

/- WassailEnemiesModel.book(II)I -/
def m_book (h : HH) (a1 : Int) (a2 : Int) : Option (Int × HH) :=
  if ww a1 = -1 then (some (0, u2 h 193 44 0)) else (if ww (m_isTree a1) = 0 then (some (-1, h)) else (if ww (m_in a2 0 9999) = 0 then (some (-2, h)) else (if ww (h 193 44) = 8 then (some (-4, h)) else (ck (ww (h 193 44)) 8 <| ck (ww ((u2 h 222 (ww (h 193 44)) a1) 193 44)) 8 <| some ((u2 (u2 (u2 h 222 (ww (h 193 44)) a1) 223 (ww ((u2 h 222 (ww (h 193 44)) a1) 193 44)) a2) 193 44 (((u2 (u2 h 222 (ww (h 193 44)) a1) 223 (ww ((u2 h 222 (ww (h 193 44)) a1) 193 44)) a2) 193 44) + 1)) 193 44, u2 (u2 (u2 h 222 (ww (h 193 44)) a1) 223 (ww ((u2 h 222 (ww (h 193 44)) a1) 193 44)) a2) 193 44 (((u2 (u2 h 222 (ww (h 193 44)) a1) 223 (ww ((u2 h 222 (ww (h 193 44)) a1) 193 44)) a2) 193 44) + 1))))))
abbrev rm_m_book : Room := { frames := 2, cells := 0, slots := 0, locals := 44 }
set_option maxHeartbeats 4000000 in
set_option maxRecDepth 100000 in
theorem t_m_book {S : SS} (hF : Fx S) {h : HH} {a1 : Int} {a2 : Int} {res : Int × HH} (hf : m_book h a1 a2 = some res) : CM yX12_book cX12_book 3 (some Jvm.ClassFile.FieldType.int) 2 44 0 0 (fun bs => [zP bs 193, zI a1, zI a2]) h S (fun _ => some (zI res.1)) res.2 S := by
  refine CM.intro (own := RX12) (by decide) rfl (fun _ => Nat.le_of_ble_eq_true rfl) ?_
  intro D dT bs p l e s m args below meth c C
  show V D dT bs 3 p l e rm_m_book s m args below meth c 0 0 _ h S 0 [(0, zP bs 193), (1, zI a1), (2, zI a2)] []
  unfold m_book at hf
  refine r_iload_n (pc' := 1) (f4 := 1) (i := 1) C 1 rfl rfl dX12_book_0 rfl ?_
  refine r_iconst (pc' := 2) C dX12_book_1 rfl ?_
  refine r_icmp_ne (pc' := 5) (tgt := 12) C rfl ww_m1 hf dX12_book_2 (by decide) rfl (fun hf => ?_) (fun hf => ?_)
  · refine r_aload_n (pc' := 6) (f4 := 0) (i := 0) C 0 rfl rfl dX12_book_5 rfl ?_
    refine r_iconst (pc' := 7) C dX12_book_6 rfl ?_
    refine q_putI (pc' := 10) (j := 44) C (K_193 hF) fb_12_44 fp_12_44 wd_1215 (Or.inl rfl) (Or.inl rfl) rfl rfl dX12_book_7 rfl ?_
    refine r_iconst (pc' := 11) C dX12_book_10 rfl ?_
    cases hf
    exact r_iret C dX12_book_11
  · refine r_aload_n (pc' := 13) (f4 := 0) (i := 0) C 0 rfl rfl dX12_book_12 rfl ?_
    refine r_iload_n (pc' := 14) (f4 := 1) (i := 1) C 1 rfl rfl dX12_book_13 rfl ?_
    refine q_callV (pc' := 17) C (t_m_isTree hF) rfl (K_193 hF) cl_12 wv_RX12_256 ⟨Nat.le_of_ble_eq_true rfl, Nat.le_of_ble_eq_true rfl⟩ rfl rfl (Nat.le_of_ble_eq_true rfl) dX12_book_14 rfl ⟨Nat.le_of_ble_eq_true rfl, Nat.le_of_ble_eq_true rfl⟩ ?_
    refine r_if_ne (pc' := 20) (tgt := 22) C rfl hf dX12_book_17 (by decide) rfl (fun hf => ?_) (fun hf => ?_)
    · refine r_iconst (pc' := 21) C dX12_book_20 rfl ?_
      cases hf
      exact r_iret C dX12_book_21
    · refine r_aload_n (pc' := 23) (f4 := 0) (i := 0) C 0 rfl rfl dX12_book_22 rfl ?_
      refine r_iload_n (pc' := 24) (f4 := 2) (i := 2) C 2 rfl rfl dX12_book_23 rfl ?_
      refine r_iconst (pc' := 25) C dX12_book_24 rfl ?_
      refine r_sipush (pc' := 28) C rfl dX12_book_25 rfl ?_
      refine q_callV (pc' := 31) C (t_m_in hF) rfl (K_193 hF) cl_12 wv_RX12_245 ⟨Nat.le_of_ble_eq_true rfl, Nat.le_of_ble_eq_true rfl⟩ rfl rfl (Nat.le_of_ble_eq_true rfl) dX12_book_28 rfl ⟨Nat.le_of_ble_eq_true rfl, Nat.le_of_ble_eq_true rfl⟩ ?_
      refine r_if_ne (pc' := 34) (tgt := 37) C rfl hf dX12_book_31 (by decide) rfl (fun hf => ?_) (fun hf => ?_)
      · refine r_bipush (pc' := 36) C rfl dX12_book_34 rfl ?_
        cases hf
        exact r_iret C dX12_book_36
      · refine r_aload_n (pc' := 38) (f4 := 0) (i := 0) C 0 rfl rfl dX12_book_37 rfl ?_
        refine q_getI (pc' := 41) (j := 44) C (K_193 hF) fb_12_44 wd_1215 (Or.inl rfl) dX12_book_38 rfl ?_
        refine r_bipush (pc' := 43) C rfl dX12_book_41 rfl ?_
        refine r_icmp_ne (pc' := 46) (tgt := 49) C rfl ww_n8 hf dX12_book_43 (by decide) rfl (fun hf => ?_) (fun hf => ?_)
        · refine r_bipush (pc' := 48) C rfl dX12_book_46 rfl ?_
          cases hf
          exact r_iret C dX12_book_48
        · refine r_aload_n (pc' := 50) (f4 := 0) (i := 0) C 0 rfl rfl dX12_book_49 rfl ?_
          refine q_getP (pc' := 53) (j := 47) C (K_193 hF) fb_12_47 (by decide) wd_1218 (Or.inl rfl) (F_193_47 hF) (by decide) dX12_book_50 rfl ?_
          refine r_aload_n (pc' := 54) (f4 := 0) (i := 0) C 0 rfl rfl dX12_book_53 rfl ?_
          refine q_getI (pc' := 57) (j := 44) C (K_193 hF) fb_12_44 wd_1215 (Or.inl rfl) dX12_book_54 rfl ?_
          refine r_iload_n (pc' := 58) (f4 := 1) (i := 1) C 1 rfl rfl dX12_book_57 rfl ?_
          obtain ⟨hi, hf⟩ := ck_in hf
          refine r_iast (pc' := 59) C (K_222 hF) rfl hi dX12_book_58 rfl ?_
          refine r_aload_n (pc' := 60) (f4 := 0) (i := 0) C 0 rfl rfl dX12_book_59 rfl ?_
          refine q_getP (pc' := 63) (j := 48) C (K_193 hF) fb_12_48 (by decide) wd_1219 (Or.inl rfl) (F_193_48 hF) (by decide) dX12_book_60 rfl ?_
          refine r_aload_n (pc' := 64) (f4 := 0) (i := 0) C 0 rfl rfl dX12_book_63 rfl ?_
          refine q_getI (pc' := 67) (j := 44) C (K_193 hF) fb_12_44 wd_1215 (Or.inl rfl) dX12_book_64 rfl ?_
          refine r_iload_n (pc' := 68) (f4 := 2) (i := 2) C 2 rfl rfl dX12_book_67 rfl ?_
          obtain ⟨hi, hf⟩ := ck_in hf
          refine r_iast (pc' := 69) C (K_223 hF) rfl hi dX12_book_68 rfl ?_
          refine r_aload_n (pc' := 70) (f4 := 0) (i := 0) C 0 rfl rfl dX12_book_69 rfl ?_
          refine r_dup (pc' := 71) C rfl dX12_book_70 rfl ?_
          refine q_getI (pc' := 74) (j := 44) C (K_193 hF) fb_12_44 wd_1215 (Or.inl rfl) dX12_book_71 rfl ?_
          refine r_iconst (pc' := 75) C dX12_book_74 rfl ?_
          refine r_iadd (pc' := 76) C dX12_book_75 rfl ?_
          refine q_putI (pc' := 79) (j := 44) C (K_193 hF) fb_12_44 fp_12_44 wd_1215 (Or.inl rfl) (Or.inl rfl) rfl rfl dX12_book_76 rfl ?_
          refine r_aload_n (pc' := 80) (f4 := 0) (i := 0) C 0 rfl rfl dX12_book_79 rfl ?_
          refine q_getI (pc' := 83) (j := 44) C (K_193 hF) fb_12_44 wd_1215 (Or.inl rfl) dX12_book_80 rfl ?_
          cases hf
          exact r_iret C dX12_book_83

/- WassailEnemiesModel.looked()I -/
def m_looked_L2 (h : HH) : Nat → Int → Option Int
  | 0, _ => none
  | n2 + 1, x1 =>
    if ww x1 < ww (h 193 44) then (ck (ww x1) 8 <| ck (ww (h 222 (ww x1))) 5 <| ck (ww x1) 8 <| if ww (h 198 (ww (h 222 (ww x1)))) = ww (h 223 (ww x1)) then (m_looked_L2 h n2 (x1 + 1)) else (some x1)) else (some (-5))
def m_looked (h : HH) : Option Int :=
  m_looked_L2 h FU 0
abbrev rm_m_looked : Room := { frames := 0, cells := 0, slots := 0, locals := 0 }
set_option maxHeartbeats 4000000 in
set_option maxRecDepth 100000 in
theorem w_m_looked_L2 (hF : Fx S) (C : Cx D dT bs RX12 cX12_looked 2 (some Jvm.ClassFile.FieldType.int) p s m args meth c) {h : HH} {res : Int} :
    ∀ (n : Nat) (x1 : Int), m_looked_L2 h n x1 = some res → V D dT bs 2 p l e rm_m_looked s m args below meth c 0 0 (MQ below (QQ D dT bs (some (zI res)) h S) args s 0 0 (AA bs)) h S 2 [(0, zP bs 193), (1, zI x1)] [] := by
  intro n
  induction n with
  | zero => intro x1 hf; simp [m_looked_L2] at hf
  | succ n2 ih2 =>
    intro x1 hf
    rw [m_looked_L2] at hf
    refine r_iload_n (pc' := 3) (f4 := 1) (i := 1) C 1 rfl rfl dX12_looked_2 rfl ?_
    refine r_aload_n (pc' := 4) (f4 := 0) (i := 0) C 0 rfl rfl dX12_looked_3 rfl ?_
    refine q_getI (pc' := 7) (j := 44) C (K_193 hF) fb_12_44 wd_1215 (Or.inl rfl) dX12_looked_4 rfl ?_
    refine r_icmp_ge (pc' := 10) (tgt := 38) C rfl rfl hf dX12_looked_7 (by decide) rfl (fun hf => ?_) (fun hf => ?_)
    · refine r_aload_n (pc' := 11) (f4 := 0) (i := 0) C 0 rfl rfl dX12_looked_10 rfl ?_
      refine q_getP (pc' := 14) (j := 7) C (K_193 hF) fb_12_7 (by decide) wd_1178 (Or.inl rfl) (F_193_7 hF) (by decide) dX12_looked_11 rfl ?_
      refine r_aload_n (pc' := 15) (f4 := 0) (i := 0) C 0 rfl rfl dX12_looked_14 rfl ?_
      refine q_getP (pc' := 18) (j := 47) C (K_193 hF) fb_12_47 (by decide) wd_1218 (Or.inl rfl) (F_193_47 hF) (by decide) dX12_looked_15 rfl ?_
      refine r_iload_n (pc' := 19) (f4 := 1) (i := 1) C 1 rfl rfl dX12_looked_18 rfl ?_
      obtain ⟨hi, hf⟩ := ck_in hf
      refine r_iald (pc' := 20) C (K_222 hF) rfl hi dX12_looked_19 rfl ?_
      obtain ⟨hi, hf⟩ := ck_in hf
      refine r_iald (pc' := 21) C (K_198 hF) rfl hi dX12_looked_20 rfl ?_
      refine r_aload_n (pc' := 22) (f4 := 0) (i := 0) C 0 rfl rfl dX12_looked_21 rfl ?_
      refine q_getP (pc' := 25) (j := 48) C (K_193 hF) fb_12_48 (by decide) wd_1219 (Or.inl rfl) (F_193_48 hF) (by decide) dX12_looked_22 rfl ?_
      refine r_iload_n (pc' := 26) (f4 := 1) (i := 1) C 1 rfl rfl dX12_looked_25 rfl ?_
      obtain ⟨hi, hf⟩ := ck_in hf
      refine r_iald (pc' := 27) C (K_223 hF) rfl hi dX12_looked_26 rfl ?_
      refine r_icmp_eq (pc' := 30) (tgt := 32) C rfl rfl hf dX12_looked_27 (by decide) rfl (fun hf => ?_) (fun hf => ?_)
      · refine r_iinc (pc' := 35) (i := 1) (L' := [(1, zI (x1 + 1)), (0, zP bs 193)]) C 1 rfl (by decide) rfl dX12_looked_32 rfl ?_
        refine r_goto (tgt := 2) C dX12_looked_35 (by decide) ?_
        refine V.sub (L' := [(0, zP bs 193), (1, zI (x1 + 1))]) [1, 0] rfl ?_
        exact ih2 _ hf
      · refine r_iload_n (pc' := 31) (f4 := 1) (i := 1) C 1 rfl rfl dX12_looked_30 rfl ?_
        cases hf
        exact r_iret C dX12_looked_31
    · refine r_bipush (pc' := 40) C rfl dX12_looked_38 rfl ?_
      cases hf
      exact r_iret C dX12_looked_40
set_option maxHeartbeats 4000000 in
set_option maxRecDepth 100000 in
theorem t_m_looked {S : SS} (hF : Fx S) {h : HH} {res : Int} (hf : m_looked h = some res) : CM yX12_looked cX12_looked 2 (some Jvm.ClassFile.FieldType.int) 0 0 0 0 (fun bs => [zP bs 193]) h S (fun _ => some (zI res)) h S := by
  refine CM.intro (own := RX12) (by decide) rfl (fun _ => Nat.le_of_ble_eq_true rfl) ?_
  intro D dT bs p l e s m args below meth c C
  show V D dT bs 2 p l e rm_m_looked s m args below meth c 0 0 _ h S 0 [(0, zP bs 193)] []
  unfold m_looked at hf
  refine r_iconst (pc' := 1) C dX12_looked_0 rfl ?_
  refine r_istore_n (pc' := 2) (f4 := 1) (i := 1) (L' := [(1, zI 0), (0, zP bs 193)]) C rfl (by decide) rfl dX12_looked_1 rfl ?_
  refine V.sub (L' := [(0, zP bs 193), (1, zI 0)]) [1, 0] rfl ?_
  refine w_m_looked_L2 hF C _ _ hf

/- WassailEnemiesModel.isTape(I)Z -/
def m_isTape (a1 : Int) : Int :=
  m_in a1 0 5
theorem b_m_isTape {a1 : Int} : m_isTape a1 = 0 ∨ m_isTape a1 = 1 := by
  unfold m_isTape
  repeat' split
  all_goals first | exact Or.inl rfl | exact Or.inr rfl | exact b_m_in

abbrev rm_m_isTape : Room := { frames := 1, cells := 0, slots := 0, locals := 23 }
set_option maxHeartbeats 4000000 in
set_option maxRecDepth 100000 in
theorem t_m_isTape {S : SS} (hF : Fx S) {h : HH} {a1 : Int} : CM yX12_isTape cX12_isTape 2 (some Jvm.ClassFile.FieldType.boolean) 1 23 0 0 (fun bs => [zP bs 193, zI a1]) h S (fun _ => some (zI (m_isTape a1))) h S := by
  refine CM.intro (own := RX12) (by decide) rfl (fun _ => Nat.le_of_ble_eq_true rfl) ?_
  intro D dT bs p l e s m args below meth c C
  show V D dT bs 2 p l e rm_m_isTape s m args below meth c 0 0 _ h S 0 [(0, zP bs 193), (1, zI a1)] []
  obtain ⟨res, hf⟩ : ∃ r, m_isTape a1 = r := ⟨_, rfl⟩
  rw [hf]
  unfold m_isTape at hf
  refine r_aload_n (pc' := 1) (f4 := 0) (i := 0) C 0 rfl rfl dX12_isTape_0 rfl ?_
  refine r_iload_n (pc' := 2) (f4 := 1) (i := 1) C 1 rfl rfl dX12_isTape_1 rfl ?_
  refine r_iconst (pc' := 3) C dX12_isTape_2 rfl ?_
  refine r_iconst (pc' := 4) C dX12_isTape_3 rfl ?_
  refine q_callV (pc' := 7) C (t_m_in hF) rfl (K_193 hF) cl_12 wv_RX12_245 ⟨Nat.le_of_ble_eq_true rfl, Nat.le_of_ble_eq_true rfl⟩ rfl rfl (Nat.le_of_ble_eq_true rfl) dX12_isTape_4 rfl ⟨Nat.le_of_ble_eq_true rfl, Nat.le_of_ble_eq_true rfl⟩ ?_
  subst hf
  exact r_zret C (b_m_in) dX12_isTape_7

/- WassailEnemiesModel.judge(II)I -/
def m_judge_L34 (h : HH) (x1 : Int) (x2 : Int) : Nat → Int → Option Int
  | 0, _ => none
  | n34 + 1, x3 =>
    if ww x3 < 5 then (ck (ww x1) 6 <| if ww (h 239 (ww x1)) < 0 then (some (100 + x3)) else (if ww x2 < 0 then (some (100 + x3)) else (ck (ww x1) 6 <| if ww (((h 240 (ww x1)) - x3) - 1) < ww x2 then (some (100 + x3)) else (ck (ww (((60 * x1) + x2) + x3)) 360 <| ck (ww x3) 5 <| if ww (zlcmp (h 241 (ww (((60 * x1) + x2) + x3))) (zi2l (h 198 (ww x3)))) = 0 then (m_judge_L34 h x1 x2 n34 (x3 + 1)) else (some x3))))) else (some (-5))
def m_judge (h : HH) (a1 : Int) (a2 : Int) : Option Int :=
  if ww (m_isTape a1) = 0 then (some (-1)) else (ck (ww a1) 6 <| if ww (h 239 (ww a1)) < 0 then (m_judge_L34 h a1 a2 FU 0) else (ck (ww a1) 6 <| if ww (h 239 (ww a1)) = 3 then (m_judge_L34 h a1 a2 FU 0) else (some (-12))))
abbrev rm_m_judge : Room := { frames := 2, cells := 0, slots := 0, locals := 44 }
set_option maxHeartbeats 4000000 in
set_option maxRecDepth 100000 in
theorem w_m_judge_L34 (hF : Fx S) (C : Cx D dT bs RX12 cX12_judge 4 (some Jvm.ClassFile.FieldType.int) p s m args meth c) {h : HH} (x1 : Int) (x2 : Int) {res : Int} :
    ∀ (n : Nat) (x3 : Int), m_judge_L34 h x1 x2 n x3 = some res → V D dT bs 4 p l e rm_m_judge s m args below meth c 0 0 (MQ below (QQ D dT bs (some (zI res)) h S) args s 0 0 (AA bs)) h S 34 [(0, zP bs 193), (1, zI x1), (2, zI x2), (3, zI x3)] [] := by
  intro n
  induction n with
  | zero => intro x3 hf; simp [m_judge_L34] at hf
  | succ n34 ih34 =>
    intro x3 hf
    rw [m_judge_L34] at hf
    refine r_iload_n (pc' := 35) (f4 := 3) (i := 3) C 3 rfl rfl dX12_judge_34 rfl ?_
    refine r_iconst (pc' := 36) C dX12_judge_35 rfl ?_
    refine r_icmp_ge (pc' := 39) (tgt := 103) C rfl ww_n5 hf dX12_judge_36 (by decide) rfl (fun hf => ?_) (fun hf => ?_)
    · refine r_aload_n (pc' := 40) (f4 := 0) (i := 0) C 0 rfl rfl dX12_judge_39 rfl ?_
      refine q_getP (pc' := 43) (j := 73) C (K_193 hF) fb_12_73 (by decide) wd_1244 (Or.inl rfl) (F_193_73 hF) (by decide) dX12_judge_40 rfl ?_
      refine r_iload_n (pc' := 44) (f4 := 1) (i := 1) C 1 rfl rfl dX12_judge_43 rfl ?_
      obtain ⟨hi, hf⟩ := ck_in hf
      refine r_iald (pc' := 45) C (K_239 hF) rfl hi dX12_judge_44 rfl ?_
      refine r_if_lt (pc' := 48) (tgt := 66) C rfl hf dX12_judge_45 (by decide) rfl (fun hf => ?_) (fun hf => ?_)
      · refine r_bipush (pc' := 68) C rfl dX12_judge_66 rfl ?_
        refine r_iload_n (pc' := 69) (f4 := 3) (i := 3) C 3 rfl rfl dX12_judge_68 rfl ?_
        refine r_iadd (pc' := 70) C dX12_judge_69 rfl ?_
        cases hf
        exact r_iret C dX12_judge_70
      · refine r_iload_n (pc' := 49) (f4 := 2) (i := 2) C 2 rfl rfl dX12_judge_48 rfl ?_
        refine r_if_lt (pc' := 52) (tgt := 66) C rfl hf dX12_judge_49 (by decide) rfl (fun hf => ?_) (fun hf => ?_)
        · refine r_bipush (pc' := 68) C rfl dX12_judge_66 rfl ?_
          refine r_iload_n (pc' := 69) (f4 := 3) (i := 3) C 3 rfl rfl dX12_judge_68 rfl ?_
          refine r_iadd (pc' := 70) C dX12_judge_69 rfl ?_
          cases hf
          exact r_iret C dX12_judge_70
        · refine r_iload_n (pc' := 53) (f4 := 2) (i := 2) C 2 rfl rfl dX12_judge_52 rfl ?_
          refine r_aload_n (pc' := 54) (f4 := 0) (i := 0) C 0 rfl rfl dX12_judge_53 rfl ?_
          refine q_getP (pc' := 57) (j := 74) C (K_193 hF) fb_12_74 (by decide) wd_1245 (Or.inl rfl) (F_193_74 hF) (by decide) dX12_judge_54 rfl ?_
          refine r_iload_n (pc' := 58) (f4 := 1) (i := 1) C 1 rfl rfl dX12_judge_57 rfl ?_
          obtain ⟨hi, hf⟩ := ck_in hf
          refine r_iald (pc' := 59) C (K_240 hF) rfl hi dX12_judge_58 rfl ?_
          refine r_iload_n (pc' := 60) (f4 := 3) (i := 3) C 3 rfl rfl dX12_judge_59 rfl ?_
          refine r_isub (pc' := 61) C dX12_judge_60 rfl ?_
          refine r_iconst (pc' := 62) C dX12_judge_61 rfl ?_
          refine r_isub (pc' := 63) C dX12_judge_62 rfl ?_
          refine r_icmp_le (pc' := 66) (tgt := 71) C rfl rfl hf dX12_judge_63 (by decide) rfl (fun hf => ?_) (fun hf => ?_)
          · refine r_bipush (pc' := 68) C rfl dX12_judge_66 rfl ?_
            refine r_iload_n (pc' := 69) (f4 := 3) (i := 3) C 3 rfl rfl dX12_judge_68 rfl ?_
            refine r_iadd (pc' := 70) C dX12_judge_69 rfl ?_
            cases hf
            exact r_iret C dX12_judge_70
          · refine r_aload_n (pc' := 72) (f4 := 0) (i := 0) C 0 rfl rfl dX12_judge_71 rfl ?_
            refine q_getP (pc' := 75) (j := 75) C (K_193 hF) fb_12_75 (by decide) wd_1246 (Or.inl rfl) (F_193_75 hF) (by decide) dX12_judge_72 rfl ?_
            refine r_bipush (pc' := 77) C rfl dX12_judge_75 rfl ?_
            refine r_iload_n (pc' := 78) (f4 := 1) (i := 1) C 1 rfl rfl dX12_judge_77 rfl ?_
            refine r_imul (pc' := 79) C dX12_judge_78 rfl ?_
            refine r_iload_n (pc' := 80) (f4 := 2) (i := 2) C 2 rfl rfl dX12_judge_79 rfl ?_
            refine r_iadd (pc' := 81) C dX12_judge_80 rfl ?_
            refine r_iload_n (pc' := 82) (f4 := 3) (i := 3) C 3 rfl rfl dX12_judge_81 rfl ?_
            refine r_iadd (pc' := 83) C dX12_judge_82 rfl ?_
            obtain ⟨hi, hf⟩ := ck_in hf
            refine r_lald (pc' := 84) C (K_241 hF) rfl hi dX12_judge_83 rfl ?_
            refine r_aload_n (pc' := 85) (f4 := 0) (i := 0) C 0 rfl rfl dX12_judge_84 rfl ?_
            refine q_getP (pc' := 88) (j := 7) C (K_193 hF) fb_12_7 (by decide) wd_1178 (Or.inl rfl) (F_193_7 hF) (by decide) dX12_judge_85 rfl ?_
            refine r_iload_n (pc' := 89) (f4 := 3) (i := 3) C 3 rfl rfl dX12_judge_88 rfl ?_
            obtain ⟨hi, hf⟩ := ck_in hf
            refine r_iald (pc' := 90) C (K_198 hF) rfl hi dX12_judge_89 rfl ?_
            refine r_i2l (pc' := 91) C dX12_judge_90 rfl ?_
            refine r_lcmp (pc' := 92) C dX12_judge_91 rfl ?_
            refine r_if_eq (pc' := 95) (tgt := 97) C rfl hf dX12_judge_92 (by decide) rfl (fun hf => ?_) (fun hf => ?_)
            · refine r_iinc (pc' := 100) (i := 3) (L' := [(3, zI (x3 + 1)), (0, zP bs 193), (1, zI x1), (2, zI x2)]) C 3 rfl (by decide) rfl dX12_judge_97 rfl ?_
              refine r_goto (tgt := 34) C dX12_judge_100 (by decide) ?_
              refine V.sub (L' := [(0, zP bs 193), (1, zI x1), (2, zI x2), (3, zI (x3 + 1))]) [1, 2, 3, 0] rfl ?_
              exact ih34 _ hf
            · refine r_iload_n (pc' := 96) (f4 := 3) (i := 3) C 3 rfl rfl dX12_judge_95 rfl ?_
              cases hf
              exact r_iret C dX12_judge_96
    · refine r_bipush (pc' := 105) C rfl dX12_judge_103 rfl ?_
      cases hf
      exact r_iret C dX12_judge_105
set_option maxHeartbeats 4000000 in
set_option maxRecDepth 100000 in
theorem t_m_judge {S : SS} (hF : Fx S) {h : HH} {a1 : Int} {a2 : Int} {res : Int} (hf : m_judge h a1 a2 = some res) : CM yX12_judge cX12_judge 4 (some Jvm.ClassFile.FieldType.int) 2 44 0 0 (fun bs => [zP bs 193, zI a1, zI a2]) h S (fun _ => some (zI res)) h S := by
  refine CM.intro (own := RX12) (by decide) rfl (fun _ => Nat.le_of_ble_eq_true rfl) ?_
  intro D dT bs p l e s m args below meth c C
  show V D dT bs 4 p l e rm_m_judge s m args below meth c 0 0 _ h S 0 [(0, zP bs 193), (1, zI a1), (2, zI a2)] []
  unfold m_judge at hf
  refine r_aload_n (pc' := 1) (f4 := 0) (i := 0) C 0 rfl rfl dX12_judge_0 rfl ?_
  refine r_iload_n (pc' := 2) (f4 := 1) (i := 1) C 1 rfl rfl dX12_judge_1 rfl ?_
  refine q_callV (pc' := 5) C (t_m_isTape hF) rfl (K_193 hF) cl_12 wv_RX12_424 ⟨Nat.le_of_ble_eq_true rfl, Nat.le_of_ble_eq_true rfl⟩ rfl rfl (Nat.le_of_ble_eq_true rfl) dX12_judge_2 rfl ⟨Nat.le_of_ble_eq_true rfl, Nat.le_of_ble_eq_true rfl⟩ ?_
  refine r_if_ne (pc' := 8) (tgt := 10) C rfl hf dX12_judge_5 (by decide) rfl (fun hf => ?_) (fun hf => ?_)
  · refine r_iconst (pc' := 9) C dX12_judge_8 rfl ?_
    cases hf
    exact r_iret C dX12_judge_9
  · refine r_aload_n (pc' := 11) (f4 := 0) (i := 0) C 0 rfl rfl dX12_judge_10 rfl ?_
    refine q_getP (pc' := 14) (j := 73) C (K_193 hF) fb_12_73 (by decide) wd_1244 (Or.inl rfl) (F_193_73 hF) (by decide) dX12_judge_11 rfl ?_
    refine r_iload_n (pc' := 15) (f4 := 1) (i := 1) C 1 rfl rfl dX12_judge_14 rfl ?_
    obtain ⟨hi, hf⟩ := ck_in hf
    refine r_iald (pc' := 16) C (K_239 hF) rfl hi dX12_judge_15 rfl ?_
    refine r_if_lt (pc' := 19) (tgt := 32) C rfl hf dX12_judge_16 (by decide) rfl (fun hf => ?_) (fun hf => ?_)
    · refine r_iconst (pc' := 33) C dX12_judge_32 rfl ?_
      refine r_istore_n (pc' := 34) (f4 := 3) (i := 3) (L' := [(3, zI 0), (0, zP bs 193), (1, zI a1), (2, zI a2)]) C rfl (by decide) rfl dX12_judge_33 rfl ?_
      refine V.sub (L' := [(0, zP bs 193), (1, zI a1), (2, zI a2), (3, zI 0)]) [1, 2, 3, 0] rfl ?_
      refine w_m_judge_L34 hF C _ _ _ _ hf
    · refine r_aload_n (pc' := 20) (f4 := 0) (i := 0) C 0 rfl rfl dX12_judge_19 rfl ?_
      refine q_getP (pc' := 23) (j := 73) C (K_193 hF) fb_12_73 (by decide) wd_1244 (Or.inl rfl) (F_193_73 hF) (by decide) dX12_judge_20 rfl ?_
      refine r_iload_n (pc' := 24) (f4 := 1) (i := 1) C 1 rfl rfl dX12_judge_23 rfl ?_
      obtain ⟨hi, hf⟩ := ck_in hf
      refine r_iald (pc' := 25) C (K_239 hF) rfl hi dX12_judge_24 rfl ?_
      refine r_iconst (pc' := 26) C dX12_judge_25 rfl ?_
      refine r_icmp_eq (pc' := 29) (tgt := 32) C rfl ww_n3 hf dX12_judge_26 (by decide) rfl (fun hf => ?_) (fun hf => ?_)
      · refine r_iconst (pc' := 33) C dX12_judge_32 rfl ?_
        refine r_istore_n (pc' := 34) (f4 := 3) (i := 3) (L' := [(3, zI 0), (0, zP bs 193), (1, zI a1), (2, zI a2)]) C rfl (by decide) rfl dX12_judge_33 rfl ?_
        refine V.sub (L' := [(0, zP bs 193), (1, zI a1), (2, zI a2), (3, zI 0)]) [1, 2, 3, 0] rfl ?_
        refine w_m_judge_L34 hF C _ _ _ _ hf
      · refine r_bipush (pc' := 31) C rfl dX12_judge_29 rfl ?_
        cases hf
        exact r_iret C dX12_judge_31

/- WassailEnemiesModel.image()I -/
def m_image_L63 (k99 : HH → Option (Int × HH)) : Nat → HH → Int → Option (Int × HH)
  | 0, _, _ => none
  | n63 + 1, h, x1 =>
    if ww x1 < 6 then (ck (ww x1) 6 <| ck (ww x1) 6 <| ck (ww x1) 6 <| ck (ww x1) 6 <| m_image_L63 k99 n63 (u2 (u2 h 224 (ww x1) (h 194 (ww x1))) 225 (ww x1) ((u2 h 224 (ww x1) (h 194 (ww x1))) 195 (ww x1))) (x1 + 1)) else (k99 h)
def m_image_L101 (k125 : HH → Option (Int × HH)) : Nat → HH → Int → Option (Int × HH)
  | 0, _, _ => none
  | n101 + 1, h, x1 =>
    if ww x1 < 30 then (ck (ww x1) 30 <| ck (ww x1) 30 <| m_image_L101 k125 n101 (u2 h 226 (ww x1) (h 196 (ww x1))) (x1 + 1)) else (k125 h)
def m_image_L127 (k151 : HH → Option (Int × HH)) : Nat → HH → Int → Option (Int × HH)
  | 0, _, _ => none
  | n127 + 1, h, x1 =>
    if ww x1 < 24 then (ck (ww x1) 24 <| ck (ww x1) 24 <| m_image_L127 k151 n127 (u2 h 227 (ww x1) (h 197 (ww x1))) (x1 + 1)) else (k151 h)
def m_image_L153 (k236 : HH → Option (Int × HH)) : Nat → HH → Int → Option (Int × HH)
  | 0, _, _ => none
  | n153 + 1, h, x1 =>
    if ww x1 < 5 then (ck (ww x1) 5 <| ck (ww x1) 5 <| ck (ww x1) 5 <| ck (ww x1) 5 <| ck (ww x1) 5 <| ck (ww x1) 5 <| ck (ww x1) 5 <| ck (ww x1) 5 <| ck (ww x1) 5 <| ck (ww x1) 5 <| ck (ww x1) 5 <| ck (ww x1) 5 <| ckb ((u2 (u2 (u2 (u2 (u2 h 228 (ww x1) (h 198 (ww x1))) 229 (ww x1) ((u2 h 228 (ww x1) (h 198 (ww x1))) 199 (ww x1))) 230 (ww x1) ((u2 (u2 h 228 (ww x1) (h 198 (ww x1))) 229 (ww x1) ((u2 h 228 (ww x1) (h 198 (ww x1))) 199 (ww x1))) 216 (ww x1))) 231 (ww x1) ((u2 (u2 (u2 h 228 (ww x1) (h 198 (ww x1))) 229 (ww x1) ((u2 h 228 (ww x1) (h 198 (ww x1))) 199 (ww x1))) 230 (ww x1) ((u2 (u2 h 228 (ww x1) (h 198 (ww x1))) 229 (ww x1) ((u2 h 228 (ww x1) (h 198 (ww x1))) 199 (ww x1))) 216 (ww x1))) 217 (ww x1))) 232 (ww x1) ((u2 (u2 (u2 (u2 h 228 (ww x1) (h 198 (ww x1))) 229 (ww x1) ((u2 h 228 (ww x1) (h 198 (ww x1))) 199 (ww x1))) 230 (ww x1) ((u2 (u2 h 228 (ww x1) (h 198 (ww x1))) 229 (ww x1) ((u2 h 228 (ww x1) (h 198 (ww x1))) 199 (ww x1))) 216 (ww x1))) 231 (ww x1) ((u2 (u2 (u2 h 228 (ww x1) (h 198 (ww x1))) 229 (ww x1) ((u2 h 228 (ww x1) (h 198 (ww x1))) 199 (ww x1))) 230 (ww x1) ((u2 (u2 h 228 (ww x1) (h 198 (ww x1))) 229 (ww x1) ((u2 h 228 (ww x1) (h 198 (ww x1))) 199 (ww x1))) 216 (ww x1))) 217 (ww x1))) 218 (ww x1))) 219 (ww x1)) <| m_image_L153 k236 n153 (u2 (u2 (u2 (u2 (u2 (u2 h 228 (ww x1) (h 198 (ww x1))) 229 (ww x1) ((u2 h 228 (ww x1) (h 198 (ww x1))) 199 (ww x1))) 230 (ww x1) ((u2 (u2 h 228 (ww x1) (h 198 (ww x1))) 229 (ww x1) ((u2 h 228 (ww x1) (h 198 (ww x1))) 199 (ww x1))) 216 (ww x1))) 231 (ww x1) ((u2 (u2 (u2 h 228 (ww x1) (h 198 (ww x1))) 229 (ww x1) ((u2 h 228 (ww x1) (h 198 (ww x1))) 199 (ww x1))) 230 (ww x1) ((u2 (u2 h 228 (ww x1) (h 198 (ww x1))) 229 (ww x1) ((u2 h 228 (ww x1) (h 198 (ww x1))) 199 (ww x1))) 216 (ww x1))) 217 (ww x1))) 232 (ww x1) ((u2 (u2 (u2 (u2 h 228 (ww x1) (h 198 (ww x1))) 229 (ww x1) ((u2 h 228 (ww x1) (h 198 (ww x1))) 199 (ww x1))) 230 (ww x1) ((u2 (u2 h 228 (ww x1) (h 198 (ww x1))) 229 (ww x1) ((u2 h 228 (ww x1) (h 198 (ww x1))) 199 (ww x1))) 216 (ww x1))) 231 (ww x1) ((u2 (u2 (u2 h 228 (ww x1) (h 198 (ww x1))) 229 (ww x1) ((u2 h 228 (ww x1) (h 198 (ww x1))) 199 (ww x1))) 230 (ww x1) ((u2 (u2 h 228 (ww x1) (h 198 (ww x1))) 229 (ww x1) ((u2 h 228 (ww x1) (h 198 (ww x1))) 199 (ww x1))) 216 (ww x1))) 217 (ww x1))) 218 (ww x1))) 237 (ww x1) ((u2 (u2 (u2 (u2 (u2 h 228 (ww x1) (h 198 (ww x1))) 229 (ww x1) ((u2 h 228 (ww x1) (h 198 (ww x1))) 199 (ww x1))) 230 (ww x1) ((u2 (u2 h 228 (ww x1) (h 198 (ww x1))) 229 (ww x1) ((u2 h 228 (ww x1) (h 198 (ww x1))) 199 (ww x1))) 216 (ww x1))) 231 (ww x1) ((u2 (u2 (u2 h 228 (ww x1) (h 198 (ww x1))) 229 (ww x1) ((u2 h 228 (ww x1) (h 198 (ww x1))) 199 (ww x1))) 230 (ww x1) ((u2 (u2 h 228 (ww x1) (h 198 (ww x1))) 229 (ww x1) ((u2 h 228 (ww x1) (h 198 (ww x1))) 199 (ww x1))) 216 (ww x1))) 217 (ww x1))) 232 (ww x1) ((u2 (u2 (u2 (u2 h 228 (ww x1) (h 198 (ww x1))) 229 (ww x1) ((u2 h 228 (ww x1) (h 198 (ww x1))) 199 (ww x1))) 230 (ww x1) ((u2 (u2 h 228 (ww x1) (h 198 (ww x1))) 229 (ww x1) ((u2 h 228 (ww x1) (h 198 (ww x1))) 199 (ww x1))) 216 (ww x1))) 231 (ww x1) ((u2 (u2 (u2 h 228 (ww x1) (h 198 (ww x1))) 229 (ww x1) ((u2 h 228 (ww x1) (h 198 (ww x1))) 199 (ww x1))) 230 (ww x1) ((u2 (u2 h 228 (ww x1) (h 198 (ww x1))) 229 (ww x1) ((u2 h 228 (ww x1) (h 198 (ww x1))) 199 (ww x1))) 216 (ww x1))) 217 (ww x1))) 218 (ww x1))) 219 (ww x1))) (x1 + 1)) else (k236 h)
def m_image_L238 (k274 : HH → Option (Int × HH)) : Nat → HH → Int → Option (Int × HH)
  | 0, _, _ => none
  | n238 + 1, h, x1 =>
    if ww x1 < 10 then (ck (ww x1) 10 <| ck (ww x1) 10 <| ck (ww x1) 10 <| ck (ww x1) 10 <| m_image_L238 k274 n238 (u2 (u2 h 233 (ww x1) (h 220 (ww x1))) 234 (ww x1) ((u2 h 233 (ww x1) (h 220 (ww x1))) 221 (ww x1))) (x1 + 1)) else (k274 h)
def m_image_L276 : Nat → HH → Int → Option (Int × HH)
  | 0, _, _ => none
  | n276 + 1, h, x1 =>
    if ww x1 < 8 then (ck (ww x1) 8 <| ck (ww x1) 8 <| ck (ww x1) 8 <| ck (ww x1) 8 <| m_image_L276 n276 (u2 (u2 h 235 (ww x1) (h 222 (ww x1))) 236 (ww x1) ((u2 h 235 (ww x1) (h 222 (ww x1))) 223 (ww x1))) (x1 + 1)) else (some (h 193 0, h))
def m_image (h : HH) : Option (Int × HH) :=
  m_image_L63 (fun h1 => m_image_L101 (fun h2 => m_image_L127 (fun h3 => m_image_L153 (fun h4 => m_image_L238 (fun h5 => m_image_L276 FU h5 0) FU h4 0) FU h3 0) FU h2 0) FU h1 0) FU (u2 (u2 (u2 (u2 (u2 (u2 (u2 (u2 h 193 49 1) 193 50 ((u2 h 193 49 1) 193 10)) 193 51 ((u2 (u2 h 193 49 1) 193 50 ((u2 h 193 49 1) 193 10)) 193 0)) 193 52 ((u2 (u2 (u2 h 193 49 1) 193 50 ((u2 h 193 49 1) 193 10)) 193 51 ((u2 (u2 h 193 49 1) 193 50 ((u2 h 193 49 1) 193 10)) 193 0)) 193 1)) 193 53 ((u2 (u2 (u2 (u2 h 193 49 1) 193 50 ((u2 h 193 49 1) 193 10)) 193 51 ((u2 (u2 h 193 49 1) 193 50 ((u2 h 193 49 1) 193 10)) 193 0)) 193 52 ((u2 (u2 (u2 h 193 49 1) 193 50 ((u2 h 193 49 1) 193 10)) 193 51 ((u2 (u2 h 193 49 1) 193 50 ((u2 h 193 49 1) 193 10)) 193 0)) 193 1)) 193 2)) 193 54 ((u2 (u2 (u2 (u2 (u2 h 193 49 1) 193 50 ((u2 h 193 49 1) 193 10)) 193 51 ((u2 (u2 h 193 49 1) 193 50 ((u2 h 193 49 1) 193 10)) 193 0)) 193 52 ((u2 (u2 (u2 h 193 49 1) 193 50 ((u2 h 193 49 1) 193 10)) 193 51 ((u2 (u2 h 193 49 1) 193 50 ((u2 h 193 49 1) 193 10)) 193 0)) 193 1)) 193 53 ((u2 (u2 (u2 (u2 h 193 49 1) 193 50 ((u2 h 193 49 1) 193 10)) 193 51 ((u2 (u2 h 193 49 1) 193 50 ((u2 h 193 49 1) 193 10)) 193 0)) 193 52 ((u2 (u2 (u2 h 193 49 1) 193 50 ((u2 h 193 49 1) 193 10)) 193 51 ((u2 (u2 h 193 49 1) 193 50 ((u2 h 193 49 1) 193 10)) 193 0)) 193 1)) 193 2)) 193 38)) 193 55 ((u2 (u2 (u2 (u2 (u2 (u2 h 193 49 1) 193 50 ((u2 h 193 49 1) 193 10)) 193 51 ((u2 (u2 h 193 49 1) 193 50 ((u2 h 193 49 1) 193 10)) 193 0)) 193 52 ((u2 (u2 (u2 h 193 49 1) 193 50 ((u2 h 193 49 1) 193 10)) 193 51 ((u2 (u2 h 193 49 1) 193 50 ((u2 h 193 49 1) 193 10)) 193 0)) 193 1)) 193 53 ((u2 (u2 (u2 (u2 h 193 49 1) 193 50 ((u2 h 193 49 1) 193 10)) 193 51 ((u2 (u2 h 193 49 1) 193 50 ((u2 h 193 49 1) 193 10)) 193 0)) 193 52 ((u2 (u2 (u2 h 193 49 1) 193 50 ((u2 h 193 49 1) 193 10)) 193 51 ((u2 (u2 h 193 49 1) 193 50 ((u2 h 193 49 1) 193 10)) 193 0)) 193 1)) 193 2)) 193 54 ((u2 (u2 (u2 (u2 (u2 h 193 49 1) 193 50 ((u2 h 193 49 1) 193 10)) 193 51 ((u2 (u2 h 193 49 1) 193 50 ((u2 h 193 49 1) 193 10)) 193 0)) 193 52 ((u2 (u2 (u2 h 193 49 1) 193 50 ((u2 h 193 49 1) 193 10)) 193 51 ((u2 (u2 h 193 49 1) 193 50 ((u2 h 193 49 1) 193 10)) 193 0)) 193 1)) 193 53 ((u2 (u2 (u2 (u2 h 193 49 1) 193 50 ((u2 h 193 49 1) 193 10)) 193 51 ((u2 (u2 h 193 49 1) 193 50 ((u2 h 193 49 1) 193 10)) 193 0)) 193 52 ((u2 (u2 (u2 h 193 49 1) 193 50 ((u2 h 193 49 1) 193 10)) 193 51 ((u2 (u2 h 193 49 1) 193 50 ((u2 h 193 49 1) 193 10)) 193 0)) 193 1)) 193 2)) 193 38)) 193 43)) 193 56 ((u2 (u2 (u2 (u2 (u2 (u2 (u2 h 193 49 1) 193 50 ((u2 h 193 49 1) 193 10)) 193 51 ((u2 (u2 h 193 49 1) 193 50 ((u2 h 193 49 1) 193 10)) 193 0)) 193 52 ((u2 (u2 (u2 h 193 49 1) 193 50 ((u2 h 193 49 1) 193 10)) 193 51 ((u2 (u2 h 193 49 1) 193 50 ((u2 h 193 49 1) 193 10)) 193 0)) 193 1)) 193 53 ((u2 (u2 (u2 (u2 h 193 49 1) 193 50 ((u2 h 193 49 1) 193 10)) 193 51 ((u2 (u2 h 193 49 1) 193 50 ((u2 h 193 49 1) 193 10)) 193 0)) 193 52 ((u2 (u2 (u2 h 193 49 1) 193 50 ((u2 h 193 49 1) 193 10)) 193 51 ((u2 (u2 h 193 49 1) 193 50 ((u2 h 193 49 1) 193 10)) 193 0)) 193 1)) 193 2)) 193 54 ((u2 (u2 (u2 (u2 (u2 h 193 49 1) 193 50 ((u2 h 193 49 1) 193 10)) 193 51 ((u2 (u2 h 193 49 1) 193 50 ((u2 h 193 49 1) 193 10)) 193 0)) 193 52 ((u2 (u2 (u2 h 193 49 1) 193 50 ((u2 h 193 49 1) 193 10)) 193 51 ((u2 (u2 h 193 49 1) 193 50 ((u2 h 193 49 1) 193 10)) 193 0)) 193 1)) 193 53 ((u2 (u2 (u2 (u2 h 193 49 1) 193 50 ((u2 h 193 49 1) 193 10)) 193 51 ((u2 (u2 h 193 49 1) 193 50 ((u2 h 193 49 1) 193 10)) 193 0)) 193 52 ((u2 (u2 (u2 h 193 49 1) 193 50 ((u2 h 193 49 1) 193 10)) 193 51 ((u2 (u2 h 193 49 1) 193 50 ((u2 h 193 49 1) 193 10)) 193 0)) 193 1)) 193 2)) 193 38)) 193 55 ((u2 (u2 (u2 (u2 (u2 (u2 h 193 49 1) 193 50 ((u2 h 193 49 1) 193 10)) 193 51 ((u2 (u2 h 193 49 1) 193 50 ((u2 h 193 49 1) 193 10)) 193 0)) 193 52 ((u2 (u2 (u2 h 193 49 1) 193 50 ((u2 h 193 49 1) 193 10)) 193 51 ((u2 (u2 h 193 49 1) 193 50 ((u2 h 193 49 1) 193 10)) 193 0)) 193 1)) 193 53 ((u2 (u2 (u2 (u2 h 193 49 1) 193 50 ((u2 h 193 49 1) 193 10)) 193 51 ((u2 (u2 h 193 49 1) 193 50 ((u2 h 193 49 1) 193 10)) 193 0)) 193 52 ((u2 (u2 (u2 h 193 49 1) 193 50 ((u2 h 193 49 1) 193 10)) 193 51 ((u2 (u2 h 193 49 1) 193 50 ((u2 h 193 49 1) 193 10)) 193 0)) 193 1)) 193 2)) 193 54 ((u2 (u2 (u2 (u2 (u2 h 193 49 1) 193 50 ((u2 h 193 49 1) 193 10)) 193 51 ((u2 (u2 h 193 49 1) 193 50 ((u2 h 193 49 1) 193 10)) 193 0)) 193 52 ((u2 (u2 (u2 h 193 49 1) 193 50 ((u2 h 193 49 1) 193 10)) 193 51 ((u2 (u2 h 193 49 1) 193 50 ((u2 h 193 49 1) 193 10)) 193 0)) 193 1)) 193 53 ((u2 (u2 (u2 (u2 h 193 49 1) 193 50 ((u2 h 193 49 1) 193 10)) 193 51 ((u2 (u2 h 193 49 1) 193 50 ((u2 h 193 49 1) 193 10)) 193 0)) 193 52 ((u2 (u2 (u2 h 193 49 1) 193 50 ((u2 h 193 49 1) 193 10)) 193 51 ((u2 (u2 h 193 49 1) 193 50 ((u2 h 193 49 1) 193 10)) 193 0)) 193 1)) 193 2)) 193 38)) 193 43)) 193 44)) 0
abbrev rm_m_image : Room := { frames := 0, cells := 0, slots := 0, locals := 0 }
set_option maxHeartbeats 4000000 in
set_option maxRecDepth 100000 in
theorem w_m_image_L63 (hF : Fx S) (C : Cx D dT bs RX12 cX12_image 2 (some Jvm.ClassFile.FieldType.int) p s m args meth c) (k99 : HH → Option (Int × HH)) {res : (Int × HH)} (hk99 : ∀ (h : HH), k99 h = some res → V D dT bs 2 p l e rm_m_image s m args below meth c 0 0 (MQ below (QQ D dT bs (some (zI res.1)) res.2 S) args s 0 0 (AA bs)) h S 99 [(0, zP bs 193)] []) :
    ∀ (n : Nat) (h : HH) (x1 : Int), m_image_L63 k99 n h x1 = some res → V D dT bs 2 p l e rm_m_image s m args below meth c 0 0 (MQ below (QQ D dT bs (some (zI res.1)) res.2 S) args s 0 0 (AA bs)) h S 63 [(0, zP bs 193), (1, zI x1)] [] := by
  intro n
  induction n with
  | zero => intro h x1 hf; simp [m_image_L63] at hf
  | succ n63 ih63 =>
    intro h x1 hf
    rw [m_image_L63] at hf
    refine r_iload_n (pc' := 64) (f4 := 1) (i := 1) C 1 rfl rfl dX12_image_63 rfl ?_
    refine r_bipush (pc' := 66) C rfl dX12_image_64 rfl ?_
    refine r_icmp_ge (pc' := 69) (tgt := 99) C rfl ww_n6 hf dX12_image_66 (by decide) rfl (fun hf => ?_) (fun hf => ?_)
    · refine r_aload_n (pc' := 70) (f4 := 0) (i := 0) C 0 rfl rfl dX12_image_69 rfl ?_
      refine q_getP (pc' := 73) (j := 57) C (K_193 hF) fb_12_57 (by decide) wd_1228 (Or.inl rfl) (F_193_57 hF) (by decide) dX12_image_70 rfl ?_
      refine r_iload_n (pc' := 74) (f4 := 1) (i := 1) C 1 rfl rfl dX12_image_73 rfl ?_
      refine r_aload_n (pc' := 75) (f4 := 0) (i := 0) C 0 rfl rfl dX12_image_74 rfl ?_
      refine q_getP (pc' := 78) (j := 3) C (K_193 hF) fb_12_3 (by decide) wd_1174 (Or.inl rfl) (F_193_3 hF) (by decide) dX12_image_75 rfl ?_
      refine r_iload_n (pc' := 79) (f4 := 1) (i := 1) C 1 rfl rfl dX12_image_78 rfl ?_
      obtain ⟨hi, hf⟩ := ck_in hf
      refine r_iald (pc' := 80) C (K_194 hF) rfl hi dX12_image_79 rfl ?_
      obtain ⟨hi, hf⟩ := ck_in hf
      refine r_iast (pc' := 81) C (K_224 hF) rfl hi dX12_image_80 rfl ?_
      refine r_aload_n (pc' := 82) (f4 := 0) (i := 0) C 0 rfl rfl dX12_image_81 rfl ?_
      refine q_getP (pc' := 85) (j := 58) C (K_193 hF) fb_12_58 (by decide) wd_1229 (Or.inl rfl) (F_193_58 hF) (by decide) dX12_image_82 rfl ?_
      refine r_iload_n (pc' := 86) (f4 := 1) (i := 1) C 1 rfl rfl dX12_image_85 rfl ?_
      refine r_aload_n (pc' := 87) (f4 := 0) (i := 0) C 0 rfl rfl dX12_image_86 rfl ?_
      refine q_getP (pc' := 90) (j := 4) C (K_193 hF) fb_12_4 (by decide) wd_1175 (Or.inl rfl) (F_193_4 hF) (by decide) dX12_image_87 rfl ?_
      refine r_iload_n (pc' := 91) (f4 := 1) (i := 1) C 1 rfl rfl dX12_image_90 rfl ?_
      obtain ⟨hi, hf⟩ := ck_in hf
      refine r_iald (pc' := 92) C (K_195 hF) rfl hi dX12_image_91 rfl ?_
      obtain ⟨hi, hf⟩ := ck_in hf
      refine r_iast (pc' := 93) C (K_225 hF) rfl hi dX12_image_92 rfl ?_
      refine r_iinc (pc' := 96) (i := 1) (L' := [(1, zI (x1 + 1)), (0, zP bs 193)]) C 1 rfl (by decide) rfl dX12_image_93 rfl ?_
      refine r_goto (tgt := 63) C dX12_image_96 (by decide) ?_
      refine V.sub (L' := [(0, zP bs 193), (1, zI (x1 + 1))]) [1, 0] rfl ?_
      exact ih63 _ _ hf
    · refine V.sub (L' := [(0, zP bs 193)]) [0] rfl ?_
      exact hk99 _ hf
set_option maxHeartbeats 4000000 in
set_option maxRecDepth 100000 in
theorem w_m_image_L101 (hF : Fx S) (C : Cx D dT bs RX12 cX12_image 2 (some Jvm.ClassFile.FieldType.int) p s m args meth c) (k125 : HH → Option (Int × HH)) {res : (Int × HH)} (hk125 : ∀ (h : HH), k125 h = some res → V D dT bs 2 p l e rm_m_image s m args below meth c 0 0 (MQ below (QQ D dT bs (some (zI res.1)) res.2 S) args s 0 0 (AA bs)) h S 125 [(0, zP bs 193)] []) :
    ∀ (n : Nat) (h : HH) (x1 : Int), m_image_L101 k125 n h x1 = some res → V D dT bs 2 p l e rm_m_image s m args below meth c 0 0 (MQ below (QQ D dT bs (some (zI res.1)) res.2 S) args s 0 0 (AA bs)) h S 101 [(0, zP bs 193), (1, zI x1)] [] := by
  intro n
  induction n with
  | zero => intro h x1 hf; simp [m_image_L101] at hf
  | succ n101 ih101 =>
    intro h x1 hf
    rw [m_image_L101] at hf
    refine r_iload_n (pc' := 102) (f4 := 1) (i := 1) C 1 rfl rfl dX12_image_101 rfl ?_
    refine r_bipush (pc' := 104) C rfl dX12_image_102 rfl ?_
    refine r_icmp_ge (pc' := 107) (tgt := 125) C rfl ww_n30 hf dX12_image_104 (by decide) rfl (fun hf => ?_) (fun hf => ?_)
    · refine r_aload_n (pc' := 108) (f4 := 0) (i := 0) C 0 rfl rfl dX12_image_107 rfl ?_
      refine q_getP (pc' := 111) (j := 59) C (K_193 hF) fb_12_59 (by decide) wd_1230 (Or.inl rfl) (F_193_59 hF) (by decide) dX12_image_108 rfl ?_
      refine r_iload_n (pc' := 112) (f4 := 1) (i := 1) C 1 rfl rfl dX12_image_111 rfl ?_
      refine r_aload_n (pc' := 113) (f4 := 0) (i := 0) C 0 rfl rfl dX12_image_112 rfl ?_
      refine q_getP (pc' := 116) (j := 5) C (K_193 hF) fb_12_5 (by decide) wd_1176 (Or.inl rfl) (F_193_5 hF) (by decide) dX12_image_113 rfl ?_
      refine r_iload_n (pc' := 117) (f4 := 1) (i := 1) C 1 rfl rfl dX12_image_116 rfl ?_
      obtain ⟨hi, hf⟩ := ck_in hf
      refine r_iald (pc' := 118) C (K_196 hF) rfl hi dX12_image_117 rfl ?_
      obtain ⟨hi, hf⟩ := ck_in hf
      refine r_iast (pc' := 119) C (K_226 hF) rfl hi dX12_image_118 rfl ?_
      refine r_iinc (pc' := 122) (i := 1) (L' := [(1, zI (x1 + 1)), (0, zP bs 193)]) C 1 rfl (by decide) rfl dX12_image_119 rfl ?_
      refine r_goto (tgt := 101) C dX12_image_122 (by decide) ?_
      refine V.sub (L' := [(0, zP bs 193), (1, zI (x1 + 1))]) [1, 0] rfl ?_
      exact ih101 _ _ hf
    · refine V.sub (L' := [(0, zP bs 193)]) [0] rfl ?_
      exact hk125 _ hf
set_option maxHeartbeats 4000000 in
set_option maxRecDepth 100000 in
theorem w_m_image_L127 (hF : Fx S) (C : Cx D dT bs RX12 cX12_image 2 (some Jvm.ClassFile.FieldType.int) p s m args meth c) (k151 : HH → Option (Int × HH)) {res : (Int × HH)} (hk151 : ∀ (h : HH), k151 h = some res → V D dT bs 2 p l e rm_m_image s m args below meth c 0 0 (MQ below (QQ D dT bs (some (zI res.1)) res.2 S) args s 0 0 (AA bs)) h S 151 [(0, zP bs 193)] []) :
    ∀ (n : Nat) (h : HH) (x1 : Int), m_image_L127 k151 n h x1 = some res → V D dT bs 2 p l e rm_m_image s m args below meth c 0 0 (MQ below (QQ D dT bs (some (zI res.1)) res.2 S) args s 0 0 (AA bs)) h S 127 [(0, zP bs 193), (1, zI x1)] [] := by
  intro n
  induction n with
  | zero => intro h x1 hf; simp [m_image_L127] at hf
  | succ n127 ih127 =>
    intro h x1 hf
    rw [m_image_L127] at hf
    refine r_iload_n (pc' := 128) (f4 := 1) (i := 1) C 1 rfl rfl dX12_image_127 rfl ?_
    refine r_bipush (pc' := 130) C rfl dX12_image_128 rfl ?_
    refine r_icmp_ge (pc' := 133) (tgt := 151) C rfl ww_n24 hf dX12_image_130 (by decide) rfl (fun hf => ?_) (fun hf => ?_)
    · refine r_aload_n (pc' := 134) (f4 := 0) (i := 0) C 0 rfl rfl dX12_image_133 rfl ?_
      refine q_getP (pc' := 137) (j := 60) C (K_193 hF) fb_12_60 (by decide) wd_1231 (Or.inl rfl) (F_193_60 hF) (by decide) dX12_image_134 rfl ?_
      refine r_iload_n (pc' := 138) (f4 := 1) (i := 1) C 1 rfl rfl dX12_image_137 rfl ?_
      refine r_aload_n (pc' := 139) (f4 := 0) (i := 0) C 0 rfl rfl dX12_image_138 rfl ?_
      refine q_getP (pc' := 142) (j := 6) C (K_193 hF) fb_12_6 (by decide) wd_1177 (Or.inl rfl) (F_193_6 hF) (by decide) dX12_image_139 rfl ?_
      refine r_iload_n (pc' := 143) (f4 := 1) (i := 1) C 1 rfl rfl dX12_image_142 rfl ?_
      obtain ⟨hi, hf⟩ := ck_in hf
      refine r_iald (pc' := 144) C (K_197 hF) rfl hi dX12_image_143 rfl ?_
      obtain ⟨hi, hf⟩ := ck_in hf
      refine r_iast (pc' := 145) C (K_227 hF) rfl hi dX12_image_144 rfl ?_
      refine r_iinc (pc' := 148) (i := 1) (L' := [(1, zI (x1 + 1)), (0, zP bs 193)]) C 1 rfl (by decide) rfl dX12_image_145 rfl ?_
      refine r_goto (tgt := 127) C dX12_image_148 (by decide) ?_
      refine V.sub (L' := [(0, zP bs 193), (1, zI (x1 + 1))]) [1, 0] rfl ?_
      exact ih127 _ _ hf
    · refine V.sub (L' := [(0, zP bs 193)]) [0] rfl ?_
      exact hk151 _ hf
set_option maxHeartbeats 4000000 in
set_option maxRecDepth 100000 in
theorem w_m_image_L153 (hF : Fx S) (C : Cx D dT bs RX12 cX12_image 2 (some Jvm.ClassFile.FieldType.int) p s m args meth c) (k236 : HH → Option (Int × HH)) {res : (Int × HH)} (hk236 : ∀ (h : HH), k236 h = some res → V D dT bs 2 p l e rm_m_image s m args below meth c 0 0 (MQ below (QQ D dT bs (some (zI res.1)) res.2 S) args s 0 0 (AA bs)) h S 236 [(0, zP bs 193)] []) :
    ∀ (n : Nat) (h : HH) (x1 : Int), m_image_L153 k236 n h x1 = some res → V D dT bs 2 p l e rm_m_image s m args below meth c 0 0 (MQ below (QQ D dT bs (some (zI res.1)) res.2 S) args s 0 0 (AA bs)) h S 153 [(0, zP bs 193), (1, zI x1)] [] := by
  intro n
  induction n with
  | zero => intro h x1 hf; simp [m_image_L153] at hf
  | succ n153 ih153 =>
    intro h x1 hf
    rw [m_image_L153] at hf
    refine r_iload_n (pc' := 154) (f4 := 1) (i := 1) C 1 rfl rfl dX12_image_153 rfl ?_
    refine r_iconst (pc' := 155) C dX12_image_154 rfl ?_
    refine r_icmp_ge (pc' := 158) (tgt := 236) C rfl ww_n5 hf dX12_image_155 (by decide) rfl (fun hf => ?_) (fun hf => ?_)
    · refine r_aload_n (pc' := 159) (f4 := 0) (i := 0) C 0 rfl rfl dX12_image_158 rfl ?_
      refine q_getP (pc' := 162) (j := 61) C (K_193 hF) fb_12_61 (by decide) wd_1232 (Or.inl rfl) (F_193_61 hF) (by decide) dX12_image_159 rfl ?_
      refine r_iload_n (pc' := 163) (f4 := 1) (i := 1) C 1 rfl rfl dX12_image_162 rfl ?_
      refine r_aload_n (pc' := 164) (f4 := 0) (i := 0) C 0 rfl rfl dX12_image_163 rfl ?_
      refine q_getP (pc' := 167) (j := 7) C (K_193 hF) fb_12_7 (by decide) wd_1178 (Or.inl rfl) (F_193_7 hF) (by decide) dX12_image_164 rfl ?_
      refine r_iload_n (pc' := 168) (f4 := 1) (i := 1) C 1 rfl rfl dX12_image_167 rfl ?_
      obtain ⟨hi, hf⟩ := ck_in hf
      refine r_iald (pc' := 169) C (K_198 hF) rfl hi dX12_image_168 rfl ?_
      obtain ⟨hi, hf⟩ := ck_in hf
      refine r_iast (pc' := 170) C (K_228 hF) rfl hi dX12_image_169 rfl ?_
      refine r_aload_n (pc' := 171) (f4 := 0) (i := 0) C 0 rfl rfl dX12_image_170 rfl ?_
      refine q_getP (pc' := 174) (j := 62) C (K_193 hF) fb_12_62 (by decide) wd_1233 (Or.inl rfl) (F_193_62 hF) (by decide) dX12_image_171 rfl ?_
      refine r_iload_n (pc' := 175) (f4 := 1) (i := 1) C 1 rfl rfl dX12_image_174 rfl ?_
      refine r_aload_n (pc' := 176) (f4 := 0) (i := 0) C 0 rfl rfl dX12_image_175 rfl ?_
      refine q_getP (pc' := 179) (j := 8) C (K_193 hF) fb_12_8 (by decide) wd_1179 (Or.inl rfl) (F_193_8 hF) (by decide) dX12_image_176 rfl ?_
      refine r_iload_n (pc' := 180) (f4 := 1) (i := 1) C 1 rfl rfl dX12_image_179 rfl ?_
      obtain ⟨hi, hf⟩ := ck_in hf
      refine r_iald (pc' := 181) C (K_199 hF) rfl hi dX12_image_180 rfl ?_
      obtain ⟨hi, hf⟩ := ck_in hf
      refine r_iast (pc' := 182) C (K_229 hF) rfl hi dX12_image_181 rfl ?_
      refine r_aload_n (pc' := 183) (f4 := 0) (i := 0) C 0 rfl rfl dX12_image_182 rfl ?_
      refine q_getP (pc' := 186) (j := 63) C (K_193 hF) fb_12_63 (by decide) wd_1234 (Or.inl rfl) (F_193_63 hF) (by decide) dX12_image_183 rfl ?_
      refine r_iload_n (pc' := 187) (f4 := 1) (i := 1) C 1 rfl rfl dX12_image_186 rfl ?_
      refine r_aload_n (pc' := 188) (f4 := 0) (i := 0) C 0 rfl rfl dX12_image_187 rfl ?_
      refine q_getP (pc' := 191) (j := 39) C (K_193 hF) fb_12_39 (by decide) wd_1210 (Or.inl rfl) (F_193_39 hF) (by decide) dX12_image_188 rfl ?_
      refine r_iload_n (pc' := 192) (f4 := 1) (i := 1) C 1 rfl rfl dX12_image_191 rfl ?_
      obtain ⟨hi, hf⟩ := ck_in hf
      refine r_iald (pc' := 193) C (K_216 hF) rfl hi dX12_image_192 rfl ?_
      obtain ⟨hi, hf⟩ := ck_in hf
      refine r_iast (pc' := 194) C (K_230 hF) rfl hi dX12_image_193 rfl ?_
      refine r_aload_n (pc' := 195) (f4 := 0) (i := 0) C 0 rfl rfl dX12_image_194 rfl ?_
      refine q_getP (pc' := 198) (j := 64) C (K_193 hF) fb_12_64 (by decide) wd_1235 (Or.inl rfl) (F_193_64 hF) (by decide) dX12_image_195 rfl ?_
      refine r_iload_n (pc' := 199) (f4 := 1) (i := 1) C 1 rfl rfl dX12_image_198 rfl ?_
      refine r_aload_n (pc' := 200) (f4 := 0) (i := 0) C 0 rfl rfl dX12_image_199 rfl ?_
      refine q_getP (pc' := 203) (j := 40) C (K_193 hF) fb_12_40 (by decide) wd_1211 (Or.inl rfl) (F_193_40 hF) (by decide) dX12_image_200 rfl ?_
      refine r_iload_n (pc' := 204) (f4 := 1) (i := 1) C 1 rfl rfl dX12_image_203 rfl ?_
      obtain ⟨hi, hf⟩ := ck_in hf
      refine r_iald (pc' := 205) C (K_217 hF) rfl hi dX12_image_204 rfl ?_
      obtain ⟨hi, hf⟩ := ck_in hf
      refine r_iast (pc' := 206) C (K_231 hF) rfl hi dX12_image_205 rfl ?_
      refine r_aload_n (pc' := 207) (f4 := 0) (i := 0) C 0 rfl rfl dX12_image_206 rfl ?_
      refine q_getP (pc' := 210) (j := 65) C (K_193 hF) fb_12_65 (by decide) wd_1236 (Or.inl rfl) (F_193_65 hF) (by decide) dX12_image_207 rfl ?_
      refine r_iload_n (pc' := 211) (f4 := 1) (i := 1) C 1 rfl rfl dX12_image_210 rfl ?_
      refine r_aload_n (pc' := 212) (f4 := 0) (i := 0) C 0 rfl rfl dX12_image_211 rfl ?_
      refine q_getP (pc' := 215) (j := 41) C (K_193 hF) fb_12_41 (by decide) wd_1212 (Or.inl rfl) (F_193_41 hF) (by decide) dX12_image_212 rfl ?_
      refine r_iload_n (pc' := 216) (f4 := 1) (i := 1) C 1 rfl rfl dX12_image_215 rfl ?_
      obtain ⟨hi, hf⟩ := ck_in hf
      refine r_iald (pc' := 217) C (K_218 hF) rfl hi dX12_image_216 rfl ?_
      obtain ⟨hi, hf⟩ := ck_in hf
      refine r_iast (pc' := 218) C (K_232 hF) rfl hi dX12_image_217 rfl ?_
      refine r_aload_n (pc' := 219) (f4 := 0) (i := 0) C 0 rfl rfl dX12_image_218 rfl ?_
      refine q_getP (pc' := 222) (j := 70) C (K_193 hF) fb_12_70 (by decide) wd_1241 (Or.inl rfl) (F_193_70 hF) (by decide) dX12_image_219 rfl ?_
      refine r_iload_n (pc' := 223) (f4 := 1) (i := 1) C 1 rfl rfl dX12_image_222 rfl ?_
      refine r_aload_n (pc' := 224) (f4 := 0) (i := 0) C 0 rfl rfl dX12_image_223 rfl ?_
      refine q_getP (pc' := 227) (j := 42) C (K_193 hF) fb_12_42 (by decide) wd_1213 (Or.inl rfl) (F_193_42 hF) (by decide) dX12_image_224 rfl ?_
      refine r_iload_n (pc' := 228) (f4 := 1) (i := 1) C 1 rfl rfl dX12_image_227 rfl ?_
      obtain ⟨hi, hf⟩ := ck_in hf
      refine r_zald (pc' := 229) C (K_219 hF) rfl hi dX12_image_228 rfl ?_
      obtain ⟨hi, hf⟩ := ck_in hf
      obtain ⟨hz, hf⟩ := ckb_in hf
      refine r_zast (pc' := 230) C (K_237 hF) rfl (zb_nar hz) hi dX12_image_229 rfl ?_
      refine r_iinc (pc' := 233) (i := 1) (L' := [(1, zI (x1 + 1)), (0, zP bs 193)]) C 1 rfl (by decide) rfl dX12_image_230 rfl ?_
      refine r_goto (tgt := 153) C dX12_image_233 (by decide) ?_
      refine V.sub (L' := [(0, zP bs 193), (1, zI (x1 + 1))]) [1, 0] rfl ?_
      exact ih153 _ _ hf
    · refine V.sub (L' := [(0, zP bs 193)]) [0] rfl ?_
      exact hk236 _ hf
set_option maxHeartbeats 4000000 in
set_option maxRecDepth 100000 in
theorem w_m_image_L238 (hF : Fx S) (C : Cx D dT bs RX12 cX12_image 2 (some Jvm.ClassFile.FieldType.int) p s m args meth c) (k274 : HH → Option (Int × HH)) {res : (Int × HH)} (hk274 : ∀ (h : HH), k274 h = some res → V D dT bs 2 p l e rm_m_image s m args below meth c 0 0 (MQ below (QQ D dT bs (some (zI res.1)) res.2 S) args s 0 0 (AA bs)) h S 274 [(0, zP bs 193)] []) :
    ∀ (n : Nat) (h : HH) (x1 : Int), m_image_L238 k274 n h x1 = some res → V D dT bs 2 p l e rm_m_image s m args below meth c 0 0 (MQ below (QQ D dT bs (some (zI res.1)) res.2 S) args s 0 0 (AA bs)) h S 238 [(0, zP bs 193), (1, zI x1)] [] := by
  intro n
  induction n with
  | zero => intro h x1 hf; simp [m_image_L238] at hf
  | succ n238 ih238 =>
    intro h x1 hf
    rw [m_image_L238] at hf
    refine r_iload_n (pc' := 239) (f4 := 1) (i := 1) C 1 rfl rfl dX12_image_238 rfl ?_
    refine r_bipush (pc' := 241) C rfl dX12_image_239 rfl ?_
    refine r_icmp_ge (pc' := 244) (tgt := 274) C rfl ww_n10 hf dX12_image_241 (by decide) rfl (fun hf => ?_) (fun hf => ?_)
    · refine r_aload_n (pc' := 245) (f4 := 0) (i := 0) C 0 rfl rfl dX12_image_244 rfl ?_
      refine q_getP (pc' := 248) (j := 66) C (K_193 hF) fb_12_66 (by decide) wd_1237 (Or.inl rfl) (F_193_66 hF) (by decide) dX12_image_245 rfl ?_
      refine r_iload_n (pc' := 249) (f4 := 1) (i := 1) C 1 rfl rfl dX12_image_248 rfl ?_
      refine r_aload_n (pc' := 250) (f4 := 0) (i := 0) C 0 rfl rfl dX12_image_249 rfl ?_
      refine q_getP (pc' := 253) (j := 45) C (K_193 hF) fb_12_45 (by decide) wd_1216 (Or.inl rfl) (F_193_45 hF) (by decide) dX12_image_250 rfl ?_
      refine r_iload_n (pc' := 254) (f4 := 1) (i := 1) C 1 rfl rfl dX12_image_253 rfl ?_
      obtain ⟨hi, hf⟩ := ck_in hf
      refine r_iald (pc' := 255) C (K_220 hF) rfl hi dX12_image_254 rfl ?_
      obtain ⟨hi, hf⟩ := ck_in hf
      refine r_iast (pc' := 256) C (K_233 hF) rfl hi dX12_image_255 rfl ?_
      refine r_aload_n (pc' := 257) (f4 := 0) (i := 0) C 0 rfl rfl dX12_image_256 rfl ?_
      refine q_getP (pc' := 260) (j := 67) C (K_193 hF) fb_12_67 (by decide) wd_1238 (Or.inl rfl) (F_193_67 hF) (by decide) dX12_image_257 rfl ?_
      refine r_iload_n (pc' := 261) (f4 := 1) (i := 1) C 1 rfl rfl dX12_image_260 rfl ?_
      refine r_aload_n (pc' := 262) (f4 := 0) (i := 0) C 0 rfl rfl dX12_image_261 rfl ?_
      refine q_getP (pc' := 265) (j := 46) C (K_193 hF) fb_12_46 (by decide) wd_1217 (Or.inl rfl) (F_193_46 hF) (by decide) dX12_image_262 rfl ?_
      refine r_iload_n (pc' := 266) (f4 := 1) (i := 1) C 1 rfl rfl dX12_image_265 rfl ?_
      obtain ⟨hi, hf⟩ := ck_in hf
      refine r_iald (pc' := 267) C (K_221 hF) rfl hi dX12_image_266 rfl ?_
      obtain ⟨hi, hf⟩ := ck_in hf
      refine r_iast (pc' := 268) C (K_234 hF) rfl hi dX12_image_267 rfl ?_
      refine r_iinc (pc' := 271) (i := 1) (L' := [(1, zI (x1 + 1)), (0, zP bs 193)]) C 1 rfl (by decide) rfl dX12_image_268 rfl ?_
      refine r_goto (tgt := 238) C dX12_image_271 (by decide) ?_
      refine V.sub (L' := [(0, zP bs 193), (1, zI (x1 + 1))]) [1, 0] rfl ?_
      exact ih238 _ _ hf
    · refine V.sub (L' := [(0, zP bs 193)]) [0] rfl ?_
      exact hk274 _ hf
set_option maxHeartbeats 4000000 in
set_option maxRecDepth 100000 in
theorem w_m_image_L276 (hF : Fx S) (C : Cx D dT bs RX12 cX12_image 2 (some Jvm.ClassFile.FieldType.int) p s m args meth c) {res : (Int × HH)} :
    ∀ (n : Nat) (h : HH) (x1 : Int), m_image_L276 n h x1 = some res → V D dT bs 2 p l e rm_m_image s m args below meth c 0 0 (MQ below (QQ D dT bs (some (zI res.1)) res.2 S) args s 0 0 (AA bs)) h S 276 [(0, zP bs 193), (1, zI x1)] [] := by
  intro n
  induction n with
  | zero => intro h x1 hf; simp [m_image_L276] at hf
  | succ n276 ih276 =>
    intro h x1 hf
    rw [m_image_L276] at hf
    refine r_iload_n (pc' := 277) (f4 := 1) (i := 1) C 1 rfl rfl dX12_image_276 rfl ?_
    refine r_bipush (pc' := 279) C rfl dX12_image_277 rfl ?_
    refine r_icmp_ge (pc' := 282) (tgt := 312) C rfl ww_n8 hf dX12_image_279 (by decide) rfl (fun hf => ?_) (fun hf => ?_)
    · refine r_aload_n (pc' := 283) (f4 := 0) (i := 0) C 0 rfl rfl dX12_image_282 rfl ?_
      refine q_getP (pc' := 286) (j := 68) C (K_193 hF) fb_12_68 (by decide) wd_1239 (Or.inl rfl) (F_193_68 hF) (by decide) dX12_image_283 rfl ?_
      refine r_iload_n (pc' := 287) (f4 := 1) (i := 1) C 1 rfl rfl dX12_image_286 rfl ?_
      refine r_aload_n (pc' := 288) (f4 := 0) (i := 0) C 0 rfl rfl dX12_image_287 rfl ?_
      refine q_getP (pc' := 291) (j := 47) C (K_193 hF) fb_12_47 (by decide) wd_1218 (Or.inl rfl) (F_193_47 hF) (by decide) dX12_image_288 rfl ?_
      refine r_iload_n (pc' := 292) (f4 := 1) (i := 1) C 1 rfl rfl dX12_image_291 rfl ?_
      obtain ⟨hi, hf⟩ := ck_in hf
      refine r_iald (pc' := 293) C (K_222 hF) rfl hi dX12_image_292 rfl ?_
      obtain ⟨hi, hf⟩ := ck_in hf
      refine r_iast (pc' := 294) C (K_235 hF) rfl hi dX12_image_293 rfl ?_
      refine r_aload_n (pc' := 295) (f4 := 0) (i := 0) C 0 rfl rfl dX12_image_294 rfl ?_
      refine q_getP (pc' := 298) (j := 69) C (K_193 hF) fb_12_69 (by decide) wd_1240 (Or.inl rfl) (F_193_69 hF) (by decide) dX12_image_295 rfl ?_
      refine r_iload_n (pc' := 299) (f4 := 1) (i := 1) C 1 rfl rfl dX12_image_298 rfl ?_
      refine r_aload_n (pc' := 300) (f4 := 0) (i := 0) C 0 rfl rfl dX12_image_299 rfl ?_
      refine q_getP (pc' := 303) (j := 48) C (K_193 hF) fb_12_48 (by decide) wd_1219 (Or.inl rfl) (F_193_48 hF) (by decide) dX12_image_300 rfl ?_
      refine r_iload_n (pc' := 304) (f4 := 1) (i := 1) C 1 rfl rfl dX12_image_303 rfl ?_
      obtain ⟨hi, hf⟩ := ck_in hf
      refine r_iald (pc' := 305) C (K_223 hF) rfl hi dX12_image_304 rfl ?_
      obtain ⟨hi, hf⟩ := ck_in hf
      refine r_iast (pc' := 306) C (K_236 hF) rfl hi dX12_image_305 rfl ?_
      refine r_iinc (pc' := 309) (i := 1) (L' := [(1, zI (x1 + 1)), (0, zP bs 193)]) C 1 rfl (by decide) rfl dX12_image_306 rfl ?_
      refine r_goto (tgt := 276) C dX12_image_309 (by decide) ?_
      refine V.sub (L' := [(0, zP bs 193), (1, zI (x1 + 1))]) [1, 0] rfl ?_
      exact ih276 _ _ hf
    · refine r_aload_n (pc' := 313) (f4 := 0) (i := 0) C 0 rfl rfl dX12_image_312 rfl ?_
      refine q_getI (pc' := 316) (j := 0) C (K_193 hF) fb_12_0 wd_1171 (Or.inl rfl) dX12_image_313 rfl ?_
      cases hf
      exact r_iret C dX12_image_316
set_option maxHeartbeats 4000000 in
set_option maxRecDepth 100000 in
theorem t_m_image {S : SS} (hF : Fx S) {h : HH} {res : Int × HH} (hf : m_image h = some res) : CM yX12_image cX12_image 2 (some Jvm.ClassFile.FieldType.int) 0 0 0 0 (fun bs => [zP bs 193]) h S (fun _ => some (zI res.1)) res.2 S := by
  refine CM.intro (own := RX12) (by decide) rfl (fun _ => Nat.le_of_ble_eq_true rfl) ?_
  intro D dT bs p l e s m args below meth c C
  show V D dT bs 2 p l e rm_m_image s m args below meth c 0 0 _ h S 0 [(0, zP bs 193)] []
  unfold m_image at hf
  refine r_aload_n (pc' := 1) (f4 := 0) (i := 0) C 0 rfl rfl dX12_image_0 rfl ?_
  refine r_iconst (pc' := 2) C dX12_image_1 rfl ?_
  refine q_putI (pc' := 5) (j := 49) C (K_193 hF) fb_12_49 fp_12_49 wd_1220 (Or.inl rfl) (Or.inl rfl) rfl rfl dX12_image_2 rfl ?_
  refine r_aload_n (pc' := 6) (f4 := 0) (i := 0) C 0 rfl rfl dX12_image_5 rfl ?_
  refine r_aload_n (pc' := 7) (f4 := 0) (i := 0) C 0 rfl rfl dX12_image_6 rfl ?_
  refine q_getI (pc' := 10) (j := 10) C (K_193 hF) fb_12_10 wd_1181 (Or.inl rfl) dX12_image_7 rfl ?_
  refine q_putI (pc' := 13) (j := 50) C (K_193 hF) fb_12_50 fp_12_50 wd_1221 (Or.inl rfl) (Or.inl rfl) rfl rfl dX12_image_10 rfl ?_
  refine r_aload_n (pc' := 14) (f4 := 0) (i := 0) C 0 rfl rfl dX12_image_13 rfl ?_
  refine r_aload_n (pc' := 15) (f4 := 0) (i := 0) C 0 rfl rfl dX12_image_14 rfl ?_
  refine q_getI (pc' := 18) (j := 0) C (K_193 hF) fb_12_0 wd_1171 (Or.inl rfl) dX12_image_15 rfl ?_
  refine q_putI (pc' := 21) (j := 51) C (K_193 hF) fb_12_51 fp_12_51 wd_1222 (Or.inl rfl) (Or.inl rfl) rfl rfl dX12_image_18 rfl ?_
  refine r_aload_n (pc' := 22) (f4 := 0) (i := 0) C 0 rfl rfl dX12_image_21 rfl ?_
  refine r_aload_n (pc' := 23) (f4 := 0) (i := 0) C 0 rfl rfl dX12_image_22 rfl ?_
  refine q_getI (pc' := 26) (j := 1) C (K_193 hF) fb_12_1 wd_1172 (Or.inl rfl) dX12_image_23 rfl ?_
  refine q_putI (pc' := 29) (j := 52) C (K_193 hF) fb_12_52 fp_12_52 wd_1223 (Or.inl rfl) (Or.inl rfl) rfl rfl dX12_image_26 rfl ?_
  refine r_aload_n (pc' := 30) (f4 := 0) (i := 0) C 0 rfl rfl dX12_image_29 rfl ?_
  refine r_aload_n (pc' := 31) (f4 := 0) (i := 0) C 0 rfl rfl dX12_image_30 rfl ?_
  refine q_getI (pc' := 34) (j := 2) C (K_193 hF) fb_12_2 wd_1173 (Or.inl rfl) dX12_image_31 rfl ?_
  refine q_putI (pc' := 37) (j := 53) C (K_193 hF) fb_12_53 fp_12_53 wd_1224 (Or.inl rfl) (Or.inl rfl) rfl rfl dX12_image_34 rfl ?_
  refine r_aload_n (pc' := 38) (f4 := 0) (i := 0) C 0 rfl rfl dX12_image_37 rfl ?_
  refine r_aload_n (pc' := 39) (f4 := 0) (i := 0) C 0 rfl rfl dX12_image_38 rfl ?_
  refine q_getI (pc' := 42) (j := 38) C (K_193 hF) fb_12_38 wd_1209 (Or.inl rfl) dX12_image_39 rfl ?_
  refine q_putI (pc' := 45) (j := 54) C (K_193 hF) fb_12_54 fp_12_54 wd_1225 (Or.inl rfl) (Or.inl rfl) rfl rfl dX12_image_42 rfl ?_
  refine r_aload_n (pc' := 46) (f4 := 0) (i := 0) C 0 rfl rfl dX12_image_45 rfl ?_
  refine r_aload_n (pc' := 47) (f4 := 0) (i := 0) C 0 rfl rfl dX12_image_46 rfl ?_
  refine q_getI (pc' := 50) (j := 43) C (K_193 hF) fb_12_43 wd_1214 (Or.inl rfl) dX12_image_47 rfl ?_
  refine q_putI (pc' := 53) (j := 55) C (K_193 hF) fb_12_55 fp_12_55 wd_1226 (Or.inl rfl) (Or.inl rfl) rfl rfl dX12_image_50 rfl ?_
  refine r_aload_n (pc' := 54) (f4 := 0) (i := 0) C 0 rfl rfl dX12_image_53 rfl ?_
  refine r_aload_n (pc' := 55) (f4 := 0) (i := 0) C 0 rfl rfl dX12_image_54 rfl ?_
  refine q_getI (pc' := 58) (j := 44) C (K_193 hF) fb_12_44 wd_1215 (Or.inl rfl) dX12_image_55 rfl ?_
  refine q_putI (pc' := 61) (j := 56) C (K_193 hF) fb_12_56 fp_12_56 wd_1227 (Or.inl rfl) (Or.inl rfl) rfl rfl dX12_image_58 rfl ?_
  refine r_iconst (pc' := 62) C dX12_image_61 rfl ?_
  refine r_istore_n (pc' := 63) (f4 := 1) (i := 1) (L' := [(1, zI 0), (0, zP bs 193)]) C rfl (by decide) rfl dX12_image_62 rfl ?_
  refine V.sub (L' := [(0, zP bs 193), (1, zI 0)]) [1, 0] rfl ?_
  refine w_m_image_L63 hF C _ ?_ _ _ _ hf
  intro h1 hf
  refine r_iconst (pc' := 100) C dX12_image_99 rfl ?_
  refine r_istore_n (pc' := 101) (f4 := 1) (i := 1) (L' := [(1, zI 0), (0, zP bs 193)]) C rfl (by decide) rfl dX12_image_100 rfl ?_
  refine V.sub (L' := [(0, zP bs 193), (1, zI 0)]) [1, 0] rfl ?_
  refine w_m_image_L101 hF C _ ?_ _ _ _ hf
  intro h2 hf
  refine r_iconst (pc' := 126) C dX12_image_125 rfl ?_
  refine r_istore_n (pc' := 127) (f4 := 1) (i := 1) (L' := [(1, zI 0), (0, zP bs 193)]) C rfl (by decide) rfl dX12_image_126 rfl ?_
  refine V.sub (L' := [(0, zP bs 193), (1, zI 0)]) [1, 0] rfl ?_
  refine w_m_image_L127 hF C _ ?_ _ _ _ hf
  intro h3 hf
  refine r_iconst (pc' := 152) C dX12_image_151 rfl ?_
  refine r_istore_n (pc' := 153) (f4 := 1) (i := 1) (L' := [(1, zI 0), (0, zP bs 193)]) C rfl (by decide) rfl dX12_image_152 rfl ?_
  refine V.sub (L' := [(0, zP bs 193), (1, zI 0)]) [1, 0] rfl ?_
  refine w_m_image_L153 hF C _ ?_ _ _ _ hf
  intro h4 hf
  refine r_iconst (pc' := 237) C dX12_image_236 rfl ?_
  refine r_istore_n (pc' := 238) (f4 := 1) (i := 1) (L' := [(1, zI 0), (0, zP bs 193)]) C rfl (by decide) rfl dX12_image_237 rfl ?_
  refine V.sub (L' := [(0, zP bs 193), (1, zI 0)]) [1, 0] rfl ?_
  refine w_m_image_L238 hF C _ ?_ _ _ _ hf
  intro h5 hf
  refine r_iconst (pc' := 275) C dX12_image_274 rfl ?_
  refine r_istore_n (pc' := 276) (f4 := 1) (i := 1) (L' := [(1, zI 0), (0, zP bs 193)]) C rfl (by decide) rfl dX12_image_275 rfl ?_
  refine V.sub (L' := [(0, zP bs 193), (1, zI 0)]) [1, 0] rfl ?_
  refine w_m_image_L276 hF C _ _ _ hf
end
