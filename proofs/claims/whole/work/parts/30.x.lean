section
variable {D : va_G} {dT : ZT} {bs : Nat} {p : Program} {l : Launch} {e : Env} {s : State} {m : MethodId} {args : Array Value} {below : List Frame} {meth : Method} {c : Code} {S : SS}
/- WassailEnemies$Lad.force(LWassailEnemies$World;II)I -/
def xh3_force (S : SS) (h : HH) (a0 : Int) (a1 : Int) (a2 : Int) (a3 : Int) : Option Int :=
  ck (ww (h a0 1)) 6 <| ck (ww a2) 5 <| if ww (h (a1 + 4 + (ww (h a0 1))) (ww a2)) < 50 then (some a3) else (some (a3 * 2))
abbrev rm_xh3_force : Room := { frames := 0, cells := 0, slots := 0, locals := 0 }
set_option maxHeartbeats 4000000 in
set_option maxRecDepth 100000 in
theorem t_xh3_force {S : SS} (hF : Fx S) {h : HH} {a0 : Int} (ha0 : isHb S a0 = true) {a1 : Int} (ha1 : isW a1) {a2 : Int} {a3 : Int} {res : Int} (hf : xh3_force S h a0 a1 a2 a3 = some res) : CM yX3_force cX3_force 4 (some Jvm.ClassFile.FieldType.int) 0 0 0 0 (fun bs => [zP bs a0, zP bs a1, zI a2, zI a3]) h S (fun _ => some (zI res)) h S := by
  refine CM.intro (own := RX3) (by decide) rfl (fun _ => Nat.le_of_ble_eq_true rfl) ?_
  intro D dT bs p l e s m args below meth c C
  show V D dT bs 4 p l e rm_xh3_force s m args below meth c 0 0 _ h S 0 [(0, zP bs a0), (1, zP bs a1), (2, zI a2), (3, zI a3)] []
  unfold xh3_force at hf
  refine r_aload_n (pc' := 1) (f4 := 1) (i := 1) C 1 rfl rfl dX3_force_0 rfl ?_
  refine q_getP (pc' := 4) (j := 2) C (KW hF ha1) fb_10_2 (by decide) wd_179 (Or.inl rfl) (FW2 hF ha1) (by have h1 := pW0 ha1; omega) dX3_force_1 rfl ?_
  refine r_aload_n (pc' := 5) (f4 := 0) (i := 0) C 0 rfl rfl dX3_force_4 rfl ?_
  refine q_getH (pc' := 8) (j := 1) C ha0 (by decide) wd_375 (Or.inr wd_376) dX3_force_5 rfl ?_
  obtain ⟨hi1, hf⟩ := ck_in hf
  refine r_aaldP (pc' := 9) (t := 3) C (KW2 hF ha1) (by decide) (by decide) (by decide) (by decide) rfl rfl hi1 (FWr2 hF ha1 hi1) (Int.add_nonneg (by have h1 := pW0 ha1; omega) (hi1).1) dX3_force_8 rfl ?_
  refine r_iload_n (pc' := 10) (f4 := 2) (i := 2) C 2 rfl rfl dX3_force_9 rfl ?_
  obtain ⟨hi, hf⟩ := ck_in hf
  refine r_iald (pc' := 11) C (KWr2 hF ha1 hi1) rfl hi dX3_force_10 rfl ?_
  refine r_bipush (pc' := 13) C rfl dX3_force_11 rfl ?_
  refine r_icmp_lt (pc' := 16) (tgt := 22) C rfl ww_n50 hf dX3_force_13 (by decide) rfl (fun hf => ?_) (fun hf => ?_)
  · refine r_iload_n (pc' := 23) (f4 := 3) (i := 3) C 3 rfl rfl dX3_force_22 rfl ?_
    cases hf
    exact r_iret C dX3_force_23
  · refine r_iload_n (pc' := 17) (f4 := 3) (i := 3) C 3 rfl rfl dX3_force_16 rfl ?_
    refine r_iconst (pc' := 18) C dX3_force_17 rfl ?_
    refine r_imul (pc' := 19) C dX3_force_18 rfl ?_
    refine r_goto (tgt := 23) C dX3_force_19 (by decide) ?_
    cases hf
    exact r_iret C dX3_force_23

/- WassailEnemies$Feller.force(LWassailEnemies$World;II)I -/
def xh0_force (S : SS) (h : HH) (a0 : Int) (a1 : Int) (a2 : Int) (a3 : Int) : Option Int :=
  (xh3_force S h a0 a1 a2 a3).bind fun q1 => some (q1 - (zrem (h a1 7) 10))
abbrev rm_xh0_force : Room := { frames := 1, cells := 0, slots := 0, locals := 23 }
set_option maxHeartbeats 4000000 in
set_option maxRecDepth 100000 in
theorem t_xh0_force {S : SS} (hF : Fx S) {h : HH} {a0 : Int} (ha0 : isHb S a0 = true) {a1 : Int} (ha1 : isW a1) {a2 : Int} {a3 : Int} {res : Int} (hf : xh0_force S h a0 a1 a2 a3 = some res) : CM yX0_force cX0_force 4 (some Jvm.ClassFile.FieldType.int) 1 23 0 0 (fun bs => [zP bs a0, zP bs a1, zI a2, zI a3]) h S (fun _ => some (zI res)) h S := by
  refine CM.intro (own := RX0) (by decide) rfl (fun _ => Nat.le_of_ble_eq_true rfl) ?_
  intro D dT bs p l e s m args below meth c C
  show V D dT bs 4 p l e rm_xh0_force s m args below meth c 0 0 _ h S 0 [(0, zP bs a0), (1, zP bs a1), (2, zI a2), (3, zI a3)] []
  unfold xh0_force at hf
  refine r_aload_n (pc' := 1) (f4 := 0) (i := 0) C 0 rfl rfl dX0_force_0 rfl ?_
  refine r_aload_n (pc' := 2) (f4 := 1) (i := 1) C 1 rfl rfl dX0_force_1 rfl ?_
  refine r_iload_n (pc' := 3) (f4 := 2) (i := 2) C 2 rfl rfl dX0_force_2 rfl ?_
  refine r_iload_n (pc' := 4) (f4 := 3) (i := 3) C 3 rfl rfl dX0_force_3 rfl ?_
  obtain ⟨q1, hq1, hf⟩ := bind_in hf
  refine r_callSU (pc' := 7) C (t_xh3_force hF ha0 ha1 hq1) rfl ha0 wu_RX0_7 ⟨Nat.le_of_ble_eq_true rfl, Nat.le_of_ble_eq_true rfl⟩ rfl rfl (Nat.le_of_ble_eq_true rfl) dX0_force_4 rfl ⟨Nat.le_of_ble_eq_true rfl, Nat.le_of_ble_eq_true rfl⟩ ?_
  refine r_aload_n (pc' := 8) (f4 := 1) (i := 1) C 1 rfl rfl dX0_force_7 rfl ?_
  refine q_getI (pc' := 11) (j := 7) C (KW hF ha1) fb_10_7 wd_190 (Or.inl rfl) dX0_force_8 rfl ?_
  refine r_bipush (pc' := 13) C rfl dX0_force_11 rfl ?_
  refine r_irem (pc' := 14) C ww_n10 (by decide) dX0_force_13 rfl ?_
  refine r_isub (pc' := 15) C dX0_force_14 rfl ?_
  cases hf
  exact r_iret C dX0_force_15

/- WassailEnemies$Uncle.force(LWassailEnemies$World;II)I -/
def xh9_force (S : SS) (h : HH) (a0 : Int) (a1 : Int) (a2 : Int) (a3 : Int) : Int :=
  if ww (zrem a2 2) = 1 then (a3 + (h a0 2)) else (a3 + 0)
abbrev rm_xh9_force : Room := { frames := 0, cells := 0, slots := 0, locals := 0 }
set_option maxHeartbeats 4000000 in
set_option maxRecDepth 100000 in
theorem t_xh9_force {S : SS} (hF : Fx S) {h : HH} {a0 : Int} (ha0 : isHb S a0 = true) {a1 : Int} (ha1 : isW a1) {a2 : Int} {a3 : Int} : CM yX9_force cX9_force 4 (some Jvm.ClassFile.FieldType.int) 0 0 0 0 (fun bs => [zP bs a0, zP bs a1, zI a2, zI a3]) h S (fun _ => some (zI (xh9_force S h a0 a1 a2 a3))) h S := by
  refine CM.intro (own := RX9) (by decide) rfl (fun _ => Nat.le_of_ble_eq_true rfl) ?_
  intro D dT bs p l e s m args below meth c C
  show V D dT bs 4 p l e rm_xh9_force s m args below meth c 0 0 _ h S 0 [(0, zP bs a0), (1, zP bs a1), (2, zI a2), (3, zI a3)] []
  obtain ⟨res, hf⟩ : ∃ r, xh9_force S h a0 a1 a2 a3 = r := ⟨_, rfl⟩
  rw [hf]
  unfold xh9_force at hf
  refine r_iload_n (pc' := 1) (f4 := 3) (i := 3) C 3 rfl rfl dX9_force_0 rfl ?_
  refine r_iload_n (pc' := 2) (f4 := 2) (i := 2) C 2 rfl rfl dX9_force_1 rfl ?_
  refine r_iconst (pc' := 3) C dX9_force_2 rfl ?_
  refine r_irem (pc' := 4) C ww_n2 (by decide) dX9_force_3 rfl ?_
  refine r_iconst (pc' := 5) C dX9_force_4 rfl ?_
  refine r_icmp_ne (pc' := 8) (tgt := 15) C rfl ww_n1 hf dX9_force_5 (by decide) rfl (fun hf => ?_) (fun hf => ?_)
  · refine r_aload_n (pc' := 9) (f4 := 0) (i := 0) C 0 rfl rfl dX9_force_8 rfl ?_
    refine q_getH (pc' := 12) (j := 2) C ha0 (by decide) wd_382 (Or.inr wd_383) dX9_force_9 rfl ?_
    refine r_goto (tgt := 16) C dX9_force_12 (by decide) ?_
    refine r_iadd (pc' := 17) C dX9_force_16 rfl ?_
    subst hf
    exact r_iret C dX9_force_17
  · refine r_iconst (pc' := 16) C dX9_force_15 rfl ?_
    refine r_iadd (pc' := 17) C dX9_force_16 rfl ?_
    subst hf
    exact r_iret C dX9_force_17

/- WassailEnemies$Growler.force(LWassailEnemies$World;II)I -/
def xh1_force (S : SS) (h : HH) (a0 : Int) (a1 : Int) (a2 : Int) (a3 : Int) : Int :=
  if ww (zrem (h a1 7) 2) = 1 then (zdiv (xh9_force S h a0 a1 a2 a3) 2) else (xh9_force S h a0 a1 a2 a3)
abbrev rm_xh1_force : Room := { frames := 1, cells := 0, slots := 0, locals := 23 }
set_option maxHeartbeats 4000000 in
set_option maxRecDepth 100000 in
theorem t_xh1_force {S : SS} (hF : Fx S) {h : HH} {a0 : Int} (ha0 : isHb S a0 = true) {a1 : Int} (ha1 : isW a1) {a2 : Int} {a3 : Int} : CM yX1_force cX1_force 5 (some Jvm.ClassFile.FieldType.int) 1 23 0 0 (fun bs => [zP bs a0, zP bs a1, zI a2, zI a3]) h S (fun _ => some (zI (xh1_force S h a0 a1 a2 a3))) h S := by
  refine CM.intro (own := RX1) (by decide) rfl (fun _ => Nat.le_of_ble_eq_true rfl) ?_
  intro D dT bs p l e s m args below meth c C
  show V D dT bs 5 p l e rm_xh1_force s m args below meth c 0 0 _ h S 0 [(0, zP bs a0), (1, zP bs a1), (2, zI a2), (3, zI a3)] []
  obtain ⟨res, hf⟩ : ∃ r, xh1_force S h a0 a1 a2 a3 = r := ⟨_, rfl⟩
  rw [hf]
  unfold xh1_force at hf
  refine r_aload_n (pc' := 1) (f4 := 0) (i := 0) C 0 rfl rfl dX1_force_0 rfl ?_
  refine r_aload_n (pc' := 2) (f4 := 1) (i := 1) C 1 rfl rfl dX1_force_1 rfl ?_
  refine r_iload_n (pc' := 3) (f4 := 2) (i := 2) C 2 rfl rfl dX1_force_2 rfl ?_
  refine r_iload_n (pc' := 4) (f4 := 3) (i := 3) C 3 rfl rfl dX1_force_3 rfl ?_
  refine r_callSU (pc' := 7) C (t_xh9_force hF ha0 ha1) rfl ha0 wu_RX1_7 ⟨Nat.le_of_ble_eq_true rfl, Nat.le_of_ble_eq_true rfl⟩ rfl rfl (Nat.le_of_ble_eq_true rfl) dX1_force_4 rfl ⟨Nat.le_of_ble_eq_true rfl, Nat.le_of_ble_eq_true rfl⟩ ?_
  refine r_istore (pc' := 9) (i := 4) (L' := [(4, zI (xh9_force S h a0 a1 a2 a3)), (0, zP bs a0), (1, zP bs a1), (2, zI a2), (3, zI a3)]) C (by decide) rfl dX1_force_7 rfl ?_
  refine r_aload_n (pc' := 10) (f4 := 1) (i := 1) C 2 rfl rfl dX1_force_9 rfl ?_
  refine q_getI (pc' := 13) (j := 7) C (KW hF ha1) fb_10_7 wd_191 (Or.inl rfl) dX1_force_10 rfl ?_
  refine r_iconst (pc' := 14) C dX1_force_13 rfl ?_
  refine r_irem (pc' := 15) C ww_n2 (by decide) dX1_force_14 rfl ?_
  refine r_iconst (pc' := 16) C dX1_force_15 rfl ?_
  refine r_icmp_ne (pc' := 19) (tgt := 26) C rfl ww_n1 hf dX1_force_16 (by decide) rfl (fun hf => ?_) (fun hf => ?_)
  · refine r_iload (pc' := 21) (i := 4) C 0 rfl dX1_force_19 rfl ?_
    refine r_iconst (pc' := 22) C dX1_force_21 rfl ?_
    refine r_idiv (pc' := 23) C ww_n2 (by decide) dX1_force_22 rfl ?_
    refine r_goto (tgt := 28) C dX1_force_23 (by decide) ?_
    subst hf
    exact r_iret C dX1_force_28
  · refine r_iload (pc' := 28) (i := 4) C 0 rfl dX1_force_26 rfl ?_
    subst hf
    exact r_iret C dX1_force_28

/- WassailEnemies$Hater.force(LWassailEnemies$World;II)I -/
def xh2_force (S : SS) (a0 : Int) (a1 : Int) (a2 : Int) (a3 : Int) : Int :=
  a3
abbrev rm_xh2_force : Room := { frames := 0, cells := 0, slots := 0, locals := 0 }
set_option maxHeartbeats 4000000 in
set_option maxRecDepth 100000 in
theorem t_xh2_force {S : SS} (hF : Fx S) {h : HH} {a0 : Int} (ha0 : isHb S a0 = true) {a1 : Int} (ha1 : isW a1) {a2 : Int} {a3 : Int} : CM yX2_force cX2_force 4 (some Jvm.ClassFile.FieldType.int) 0 0 0 0 (fun bs => [zP bs a0, zP bs a1, zI a2, zI a3]) h S (fun _ => some (zI (xh2_force S a0 a1 a2 a3))) h S := by
  refine CM.intro (own := RX2) (by decide) rfl (fun _ => Nat.le_of_ble_eq_true rfl) ?_
  intro D dT bs p l e s m args below meth c C
  show V D dT bs 4 p l e rm_xh2_force s m args below meth c 0 0 _ h S 0 [(0, zP bs a0), (1, zP bs a1), (2, zI a2), (3, zI a3)] []
  obtain ⟨res, hf⟩ : ∃ r, xh2_force S a0 a1 a2 a3 = r := ⟨_, rfl⟩
  rw [hf]
  unfold xh2_force at hf
  refine r_iload_n (pc' := 1) (f4 := 3) (i := 3) C 3 rfl rfl dX2_force_0 rfl ?_
  subst hf
  exact r_iret C dX2_force_1

/- WassailEnemies$Lover.force(LWassailEnemies$World;II)I -/
def xh4_force (S : SS) (a0 : Int) (a1 : Int) (a2 : Int) (a3 : Int) : Int :=
  50 - a3
abbrev rm_xh4_force : Room := { frames := 0, cells := 0, slots := 0, locals := 0 }
set_option maxHeartbeats 4000000 in
set_option maxRecDepth 100000 in
theorem t_xh4_force {S : SS} (hF : Fx S) {h : HH} {a0 : Int} (ha0 : isHb S a0 = true) {a1 : Int} (ha1 : isW a1) {a2 : Int} {a3 : Int} : CM yX4_force cX4_force 4 (some Jvm.ClassFile.FieldType.int) 0 0 0 0 (fun bs => [zP bs a0, zP bs a1, zI a2, zI a3]) h S (fun _ => some (zI (xh4_force S a0 a1 a2 a3))) h S := by
  refine CM.intro (own := RX4) (by decide) rfl (fun _ => Nat.le_of_ble_eq_true rfl) ?_
  intro D dT bs p l e s m args below meth c C
  show V D dT bs 4 p l e rm_xh4_force s m args below meth c 0 0 _ h S 0 [(0, zP bs a0), (1, zP bs a1), (2, zI a2), (3, zI a3)] []
  obtain ⟨res, hf⟩ : ∃ r, xh4_force S a0 a1 a2 a3 = r := ⟨_, rfl⟩
  rw [hf]
  unfold xh4_force at hf
  refine r_bipush (pc' := 2) C rfl dX4_force_0 rfl ?_
  refine r_iload_n (pc' := 3) (f4 := 3) (i := 3) C 3 rfl rfl dX4_force_2 rfl ?_
  refine r_isub (pc' := 4) C dX4_force_3 rfl ?_
  subst hf
  exact r_iret C dX4_force_4

/- WassailEnemies$Orchard.clear()V -/
def xo_clear (h : HH) (a0 : Int) : Option HH :=
  some (u2 (u2 (u2 h a0 0 20) a0 1 3) a0 4 0)
abbrev rm_xo_clear : Room := { frames := 0, cells := 0, slots := 0, locals := 0 }
set_option maxHeartbeats 4000000 in
set_option maxRecDepth 100000 in
theorem t_xo_clear {S : SS} (hF : Fx S) {h : HH} {a0 : Int} (ha0 : isO a0) {res : HH} (hf : xo_clear h a0 = some res) : CM yX5_clear cX5_clear 1 (Option.none : Option Jvm.ClassFile.FieldType) 0 0 0 0 (fun bs => [zP bs a0]) h S (fun _ => none) res S := by
  refine CM.intro (own := RX5) (by decide) rfl (fun _ => Nat.le_of_ble_eq_true rfl) ?_
  intro D dT bs p l e s m args below meth c C
  show V D dT bs 1 p l e rm_xo_clear s m args below meth c 0 0 _ h S 0 [(0, zP bs a0)] []
  unfold xo_clear at hf
  refine r_aload_n (pc' := 1) (f4 := 0) (i := 0) C 0 rfl rfl dX5_clear_0 rfl ?_
  refine r_bipush (pc' := 3) C rfl dX5_clear_1 rfl ?_
  refine q_putI (pc' := 6) (j := 0) C (KO hF ha0) fb_5_0 fp_5_0 wd_289 (Or.inl rfl) (Or.inl rfl) rfl rfl dX5_clear_3 rfl ?_
  refine r_aload_n (pc' := 7) (f4 := 0) (i := 0) C 0 rfl rfl dX5_clear_6 rfl ?_
  refine r_iconst (pc' := 8) C dX5_clear_7 rfl ?_
  refine q_putI (pc' := 11) (j := 1) C (KO hF ha0) fb_5_1 fp_5_1 wd_292 (Or.inl rfl) (Or.inl rfl) rfl rfl dX5_clear_8 rfl ?_
  refine r_aload_n (pc' := 12) (f4 := 0) (i := 0) C 0 rfl rfl dX5_clear_11 rfl ?_
  refine r_iconst (pc' := 13) C dX5_clear_12 rfl ?_
  refine q_putI (pc' := 16) (j := 4) C (KO hF ha0) fb_5_4 fp_5_4 wd_297 (Or.inl rfl) (Or.inl rfl) rfl rfl dX5_clear_13 rfl ?_
  cases hf
  exact r_vret C dX5_clear_16

/- WassailEnemies$Orchard.append(II)V -/
def xo_append (h : HH) (a0 : Int) (a1 : Int) (a2 : Int) : Option HH :=
  if ww (h a0 4) < 100 then (ck (ww (h a0 4)) 100 <| ck (ww ((u2 h (a0 + 1) (ww (h a0 4)) a1) a0 4)) 100 <| some (u2 (u2 (u2 h (a0 + 1) (ww (h a0 4)) a1) (a0 + 2) (ww ((u2 h (a0 + 1) (ww (h a0 4)) a1) a0 4)) a2) a0 4 (((u2 (u2 h (a0 + 1) (ww (h a0 4)) a1) (a0 + 2) (ww ((u2 h (a0 + 1) (ww (h a0 4)) a1) a0 4)) a2) a0 4) + 1))) else (some h)
abbrev rm_xo_append : Room := { frames := 0, cells := 0, slots := 0, locals := 0 }
set_option maxHeartbeats 4000000 in
set_option maxRecDepth 100000 in
theorem t_xo_append {S : SS} (hF : Fx S) {h : HH} {a0 : Int} (ha0 : isO a0) {a1 : Int} {a2 : Int} {res : HH} (hf : xo_append h a0 a1 a2 = some res) : CM yX5_append cX5_append 3 (Option.none : Option Jvm.ClassFile.FieldType) 0 0 0 0 (fun bs => [zP bs a0, zI a1, zI a2]) h S (fun _ => none) res S := by
  refine CM.intro (own := RX5) (by decide) rfl (fun _ => Nat.le_of_ble_eq_true rfl) ?_
  intro D dT bs p l e s m args below meth c C
  show V D dT bs 3 p l e rm_xo_append s m args below meth c 0 0 _ h S 0 [(0, zP bs a0), (1, zI a1), (2, zI a2)] []
  unfold xo_append at hf
  refine r_aload_n (pc' := 1) (f4 := 0) (i := 0) C 0 rfl rfl dX5_append_0 rfl ?_
  refine q_getI (pc' := 4) (j := 4) C (KO hF ha0) fb_5_4 wd_297 (Or.inl rfl) dX5_append_1 rfl ?_
  refine r_bipush (pc' := 6) C rfl dX5_append_4 rfl ?_
  refine r_icmp_ge (pc' := 9) (tgt := 39) C rfl ww_n100 hf dX5_append_6 (by decide) rfl (fun hf => ?_) (fun hf => ?_)
  · refine r_aload_n (pc' := 10) (f4 := 0) (i := 0) C 0 rfl rfl dX5_append_9 rfl ?_
    refine q_getP (pc' := 13) (j := 2) C (KO hF ha0) fb_5_2 (by decide) wd_295 (Or.inl rfl) (FO2 hF ha0) (by have h1 := pO0 ha0; omega) dX5_append_10 rfl ?_
    refine r_aload_n (pc' := 14) (f4 := 0) (i := 0) C 0 rfl rfl dX5_append_13 rfl ?_
    refine q_getI (pc' := 17) (j := 4) C (KO hF ha0) fb_5_4 wd_297 (Or.inl rfl) dX5_append_14 rfl ?_
    refine r_iload_n (pc' := 18) (f4 := 1) (i := 1) C 1 rfl rfl dX5_append_17 rfl ?_
    obtain ⟨hi, hf⟩ := ck_in hf
    refine r_iast (pc' := 19) C (KO1 hF ha0) rfl hi dX5_append_18 rfl ?_
    refine r_aload_n (pc' := 20) (f4 := 0) (i := 0) C 0 rfl rfl dX5_append_19 rfl ?_
    refine q_getP (pc' := 23) (j := 3) C (KO hF ha0) fb_5_3 (by decide) wd_296 (Or.inl rfl) (FO3 hF ha0) (by have h1 := pO0 ha0; omega) dX5_append_20 rfl ?_
    refine r_aload_n (pc' := 24) (f4 := 0) (i := 0) C 0 rfl rfl dX5_append_23 rfl ?_
    refine q_getI (pc' := 27) (j := 4) C (KO hF ha0) fb_5_4 wd_297 (Or.inl rfl) dX5_append_24 rfl ?_
    refine r_iload_n (pc' := 28) (f4 := 2) (i := 2) C 2 rfl rfl dX5_append_27 rfl ?_
    obtain ⟨hi, hf⟩ := ck_in hf
    refine r_iast (pc' := 29) C (KO2 hF ha0) rfl hi dX5_append_28 rfl ?_
    refine r_aload_n (pc' := 30) (f4 := 0) (i := 0) C 0 rfl rfl dX5_append_29 rfl ?_
    refine r_dup (pc' := 31) C rfl dX5_append_30 rfl ?_
    refine q_getI (pc' := 34) (j := 4) C (KO hF ha0) fb_5_4 wd_297 (Or.inl rfl) dX5_append_31 rfl ?_
    refine r_iconst (pc' := 35) C dX5_append_34 rfl ?_
    refine r_iadd (pc' := 36) C dX5_append_35 rfl ?_
    refine q_putI (pc' := 39) (j := 4) C (KO hF ha0) fb_5_4 fp_5_4 wd_297 (Or.inl rfl) (Or.inl rfl) rfl rfl dX5_append_36 rfl ?_
    cases hf
    exact r_vret C dX5_append_39
  · cases hf
    exact r_vret C dX5_append_39

/- WassailEnemies$Orchard.passes(II[I)Z -/
def xo_passes (h : HH) (a0 : Int) (a1 : Int) (a2 : Int) : Option Int :=
  if ww (zdiv a0 3) < 0 then (some 0) else (if ww (zdiv a0 3) < 6 then (if ww (zrem a0 3) = 0 then (ck (ww (zdiv a0 3)) 6 <| if ww (h a2 (ww (zdiv a0 3))) < ww a1 then (some 1) else (some 0)) else (if ww (zrem a0 3) = 1 then (ck (ww (zdiv a0 3)) 6 <| if ww (h a2 (ww (zdiv a0 3))) = ww a1 then (some 1) else (some 0)) else (ck (ww (zdiv a0 3)) 6 <| if ww a1 < ww (h a2 (ww (zdiv a0 3))) then (some 1) else (some 0)))) else (some 0))
abbrev rm_xo_passes : Room := { frames := 2, cells := 0, slots := 0, locals := 40 }
set_option maxHeartbeats 4000000 in
set_option maxRecDepth 100000 in
theorem t_xo_passes {S : SS} (hF : Fx S) {h : HH} {a0 : Int} {a1 : Int} {a2 : Int} (ha2 : KD S a2 20 6) {res : Int} (hf : xo_passes h a0 a1 a2 = some res) : CM yX5_passes cX5_passes 4 (some Jvm.ClassFile.FieldType.boolean) 2 40 0 0 (fun bs => [zI a0, zI a1, zP bs a2]) h S (fun _ => some (zI res)) h S := by
  refine CM.intro (own := RX5) (by decide) rfl (fun _ => Nat.le_of_ble_eq_true rfl) ?_
  intro D dT bs p l e s m args below meth c C
  show V D dT bs 4 p l e rm_xo_passes s m args below meth c 0 0 _ h S 0 [(0, zI a0), (1, zI a1), (2, zP bs a2)] []
  unfold xo_passes at hf
  refine r_iload_n (pc' := 1) (f4 := 0) (i := 0) C 0 rfl rfl dX5_passes_0 rfl ?_
  refine r_slen (pc' := 6) C (n := 3) rfl sl_RX5_36 wvs_RX5_38 ⟨Nat.le_of_ble_eq_true rfl, Nat.le_of_ble_eq_true rfl⟩ (Nat.le_of_ble_eq_true rfl) ⟨Nat.le_of_ble_eq_true rfl, Nat.le_of_ble_eq_true rfl⟩ dX5_passes_1 dX5_passes_3 rfl ?_
  refine r_idiv (pc' := 7) C ww_n3 (by decide) dX5_passes_6 rfl ?_
  refine r_istore_n (pc' := 8) (f4 := 3) (i := 3) (L' := [(3, zI (zdiv a0 3)), (0, zI a0), (1, zI a1), (2, zP bs a2)]) C rfl (by decide) rfl dX5_passes_7 rfl ?_
  refine r_iload_n (pc' := 9) (f4 := 3) (i := 3) C 0 rfl rfl dX5_passes_8 rfl ?_
  refine r_if_lt (pc' := 12) (tgt := 18) C rfl hf dX5_passes_9 (by decide) rfl (fun hf => ?_) (fun hf => ?_)
  · refine r_iconst (pc' := 19) C dX5_passes_18 rfl ?_
    cases hf
    exact r_zret C (Or.inl rfl) dX5_passes_19
  · refine r_iload_n (pc' := 13) (f4 := 3) (i := 3) C 0 rfl rfl dX5_passes_12 rfl ?_
    refine r_aload_n (pc' := 14) (f4 := 2) (i := 2) C 3 rfl rfl dX5_passes_13 rfl ?_
    refine r_alen (pc' := 15) (t := 0) C ha2 (by decide) (by decide) dX5_passes_14 rfl ?_
    refine r_icmp_lt (pc' := 18) (tgt := 20) C rfl ww_n6 hf dX5_passes_15 (by decide) rfl (fun hf => ?_) (fun hf => ?_)
    · refine r_iload_n (pc' := 21) (f4 := 0) (i := 0) C 1 rfl rfl dX5_passes_20 rfl ?_
      refine r_slen (pc' := 26) C (n := 3) rfl sl_RX5_36 wvs_RX5_38 ⟨Nat.le_of_ble_eq_true rfl, Nat.le_of_ble_eq_true rfl⟩ (Nat.le_of_ble_eq_true rfl) ⟨Nat.le_of_ble_eq_true rfl, Nat.le_of_ble_eq_true rfl⟩ dX5_passes_21 dX5_passes_23 rfl ?_
      refine r_irem (pc' := 27) C ww_n3 (by decide) dX5_passes_26 rfl ?_
      by_cases cs0 : ww (zrem a0 3) = 0
      · rw [if_pos cs0] at hf
        refine r_ls (tgt := 52) C (off := 25) dX5_passes_27 rfl (by simp [Op.lookupswitch.offset, cs0]) (by decide) ?_
        refine r_aload_n (pc' := 53) (f4 := 2) (i := 2) C 3 rfl rfl dX5_passes_52 rfl ?_
        refine r_iload_n (pc' := 54) (f4 := 3) (i := 3) C 0 rfl rfl dX5_passes_53 rfl ?_
        obtain ⟨hi, hf⟩ := ck_in hf
        refine r_iald (pc' := 55) C ha2 rfl hi dX5_passes_54 rfl ?_
        refine r_iload_n (pc' := 56) (f4 := 1) (i := 1) C 2 rfl rfl dX5_passes_55 rfl ?_
        refine r_icmp_ge (pc' := 59) (tgt := 63) C rfl rfl hf dX5_passes_56 (by decide) rfl (fun hf => ?_) (fun hf => ?_)
        · refine r_iconst (pc' := 60) C dX5_passes_59 rfl ?_
          refine r_goto (tgt := 64) C dX5_passes_60 (by decide) ?_
          cases hf
          exact r_zret C (Or.inr rfl) dX5_passes_64
        · refine r_iconst (pc' := 64) C dX5_passes_63 rfl ?_
          cases hf
          exact r_zret C (Or.inl rfl) dX5_passes_64
      · rw [if_neg cs0] at hf
        by_cases cs1 : ww (zrem a0 3) = 1
        · rw [if_pos cs1] at hf
          refine r_ls (tgt := 65) C (off := 38) dX5_passes_27 rfl (by simp [Op.lookupswitch.offset, cs1]) (by decide) ?_
          refine r_aload_n (pc' := 66) (f4 := 2) (i := 2) C 3 rfl rfl dX5_passes_65 rfl ?_
          refine r_iload_n (pc' := 67) (f4 := 3) (i := 3) C 0 rfl rfl dX5_passes_66 rfl ?_
          obtain ⟨hi, hf⟩ := ck_in hf
          refine r_iald (pc' := 68) C ha2 rfl hi dX5_passes_67 rfl ?_
          refine r_iload_n (pc' := 69) (f4 := 1) (i := 1) C 2 rfl rfl dX5_passes_68 rfl ?_
          refine r_icmp_ne (pc' := 72) (tgt := 76) C rfl rfl hf dX5_passes_69 (by decide) rfl (fun hf => ?_) (fun hf => ?_)
          · refine r_iconst (pc' := 73) C dX5_passes_72 rfl ?_
            refine r_goto (tgt := 77) C dX5_passes_73 (by decide) ?_
            cases hf
            exact r_zret C (Or.inr rfl) dX5_passes_77
          · refine r_iconst (pc' := 77) C dX5_passes_76 rfl ?_
            cases hf
            exact r_zret C (Or.inl rfl) dX5_passes_77
        · rw [if_neg cs1] at hf
          refine r_ls (tgt := 78) C (off := 51) dX5_passes_27 rfl (by simp [Op.lookupswitch.offset, Ne.symm cs0, Ne.symm cs1]) (by decide) ?_
          refine r_aload_n (pc' := 79) (f4 := 2) (i := 2) C 3 rfl rfl dX5_passes_78 rfl ?_
          refine r_iload_n (pc' := 80) (f4 := 3) (i := 3) C 0 rfl rfl dX5_passes_79 rfl ?_
          obtain ⟨hi, hf⟩ := ck_in hf
          refine r_iald (pc' := 81) C ha2 rfl hi dX5_passes_80 rfl ?_
          refine r_iload_n (pc' := 82) (f4 := 1) (i := 1) C 2 rfl rfl dX5_passes_81 rfl ?_
          refine r_icmp_le (pc' := 85) (tgt := 89) C rfl rfl hf dX5_passes_82 (by decide) rfl (fun hf => ?_) (fun hf => ?_)
          · refine r_iconst (pc' := 86) C dX5_passes_85 rfl ?_
            refine r_goto (tgt := 90) C dX5_passes_86 (by decide) ?_
            cases hf
            exact r_zret C (Or.inr rfl) dX5_passes_90
          · refine r_iconst (pc' := 90) C dX5_passes_89 rfl ?_
            cases hf
            exact r_zret C (Or.inl rfl) dX5_passes_90
    · refine r_iconst (pc' := 19) C dX5_passes_18 rfl ?_
      cases hf
      exact r_zret C (Or.inl rfl) dX5_passes_19

/- WassailEnemies.bit(Z)I -/
def x_bit (a0 : Int) : Int :=
  if ww a0 = 0 then (0) else (1)
abbrev rm_x_bit : Room := { frames := 0, cells := 0, slots := 0, locals := 0 }
set_option maxHeartbeats 4000000 in
set_option maxRecDepth 100000 in
theorem t_x_bit {S : SS} (hF : Fx S) {h : HH} {a0 : Int} : CM yX11_bit cX11_bit 1 (some Jvm.ClassFile.FieldType.int) 0 0 0 0 (fun _ => [zI a0]) h S (fun _ => some (zI (x_bit a0))) h S := by
  refine CM.intro (own := RX11) (by decide) rfl (fun _ => Nat.le_of_ble_eq_true rfl) ?_
  intro D dT bs p l e s m args below meth c C
  show V D dT bs 1 p l e rm_x_bit s m args below meth c 0 0 _ h S 0 [(0, zI a0)] []
  obtain ⟨res, hf⟩ : ∃ r, x_bit a0 = r := ⟨_, rfl⟩
  rw [hf]
  unfold x_bit at hf
  refine r_iload_n (pc' := 1) (f4 := 0) (i := 0) C 0 rfl rfl dX11_bit_0 rfl ?_
  refine r_if_eq (pc' := 4) (tgt := 8) C rfl hf dX11_bit_1 (by decide) rfl (fun hf => ?_) (fun hf => ?_)
  · refine r_iconst (pc' := 9) C dX11_bit_8 rfl ?_
    subst hf
    exact r_iret C dX11_bit_9
  · refine r_iconst (pc' := 5) C dX11_bit_4 rfl ?_
    refine r_goto (tgt := 9) C dX11_bit_5 (by decide) ?_
    subst hf
    exact r_iret C dX11_bit_9

/- WassailEnemies$Orchard.warmth([I)I -/
def xo_warmth_L7 (h : HH) (x0 : Int) (x1 : Int) : Nat → Int → Int → Int → Option Int
  | 0, _, _, _ => none
  | n7 + 1, x2, x3, x4 =>
    if ww x4 < ww (h x0 4) then (ck (ww x4) 100 <| if ww (h (x0 + 1) (ww x4)) = (-5) then (ck (ww x4) 100 <| xo_warmth_L7 h x0 x1 n7 (x2 - ((zand x3 1) * (h (x0 + 2) (ww x4)))) (zshr x3 1) (x4 + 1)) else (if ww (h (x0 + 1) (ww x4)) = (-4) then (ck (ww x4) 100 <| xo_warmth_L7 h x0 x1 n7 (x2 + ((zand x3 1) * (h (x0 + 2) (ww x4)))) (zshr x3 1) (x4 + 1)) else (if ww (h (x0 + 1) (ww x4)) = (-3) then (xo_warmth_L7 h x0 x1 n7 x2 (zor (zshr x3 1) (zand x3 1)) (x4 + 1)) else (if ww (h (x0 + 1) (ww x4)) = (-2) then (xo_warmth_L7 h x0 x1 n7 x2 (zand (zshr x3 1) (zor (zand x3 1) (-2))) (x4 + 1)) else (if ww (h (x0 + 1) (ww x4)) = (-1) then (xo_warmth_L7 h x0 x1 n7 x2 (zxor x3 1) (x4 + 1)) else (ck (ww x4) 100 <| ck (ww x4) 100 <| (xo_passes h (h (x0 + 1) (ww x4)) (h (x0 + 2) (ww x4)) x1).bind fun q1 => xo_warmth_L7 h x0 x1 n7 x2 (zor (zshl x3 1) (x_bit q1)) (x4 + 1))))))) else (some x2)
def xo_warmth (h : HH) (a0 : Int) (a1 : Int) : Option Int :=
  xo_warmth_L7 h a0 a1 FU 0 0 0
abbrev rm_xo_warmth : Room := { frames := 3, cells := 0, slots := 0, locals := 63 }
set_option maxHeartbeats 4000000 in
set_option maxRecDepth 100000 in
theorem w_xo_warmth_L7 (hF : Fx S) (C : Cx D dT bs RX5 cX5_warmth 6 (some Jvm.ClassFile.FieldType.int) p s m args meth c) {h : HH} (x0 : Int) (hx0 : isO x0) (x1 : Int) (hx1 : KD S x1 20 6) {res : Int} :
    ∀ (n : Nat) (x2 : Int) (x3 : Int) (x4 : Int), xo_warmth_L7 h x0 x1 n x2 x3 x4 = some res → V D dT bs 6 p l e rm_xo_warmth s m args below meth c 0 0 (MQ below (QQ D dT bs (some (zI res)) h S) args s 0 0 (AA bs)) h S 7 [(0, zP bs x0), (1, zP bs x1), (2, zI x2), (3, zI x3), (4, zI x4)] [] := by
  intro n
  induction n with
  | zero => intro x2 x3 x4 hf; simp [xo_warmth_L7] at hf
  | succ n7 ih7 =>
    intro x2 x3 x4 hf
    rw [xo_warmth_L7] at hf
    refine r_iload (pc' := 9) (i := 4) C 4 rfl dX5_warmth_7 rfl ?_
    refine r_aload_n (pc' := 10) (f4 := 0) (i := 0) C 0 rfl rfl dX5_warmth_9 rfl ?_
    refine q_getI (pc' := 13) (j := 4) C (KO hF hx0) fb_5_4 wd_297 (Or.inl rfl) dX5_warmth_10 rfl ?_
    refine r_icmp_ge (pc' := 16) (tgt := 166) C rfl rfl hf dX5_warmth_13 (by decide) rfl (fun hf => ?_) (fun hf => ?_)
    · refine r_iload_n (pc' := 17) (f4 := 3) (i := 3) C 3 rfl rfl dX5_warmth_16 rfl ?_
      refine r_iconst (pc' := 18) C dX5_warmth_17 rfl ?_
      refine r_iand (pc' := 19) C dX5_warmth_18 rfl ?_
      refine r_istore (pc' := 21) (i := 5) (L' := [(5, zI (zand x3 1)), (0, zP bs x0), (1, zP bs x1), (2, zI x2), (3, zI x3), (4, zI x4)]) C (by decide) rfl dX5_warmth_19 rfl ?_
      refine r_aload_n (pc' := 22) (f4 := 0) (i := 0) C 1 rfl rfl dX5_warmth_21 rfl ?_
      refine q_getP (pc' := 25) (j := 2) C (KO hF hx0) fb_5_2 (by decide) wd_295 (Or.inl rfl) (FO2 hF hx0) (by have h1 := pO0 hx0; omega) dX5_warmth_22 rfl ?_
      refine r_iload (pc' := 27) (i := 4) C 5 rfl dX5_warmth_25 rfl ?_
      obtain ⟨hi, hf⟩ := ck_in hf
      refine r_iald (pc' := 28) C (KO1 hF hx0) rfl hi dX5_warmth_27 rfl ?_
      by_cases cs0 : ww (h (x0 + 1) (ww x4)) = (-5)
      · rw [if_pos cs0] at hf
        refine r_tsIn (tgt := 114) C (-5) cs0 dX5_warmth_28 (by decide) (by decide) rfl (by decide) ?_
        refine r_iload_n (pc' := 115) (f4 := 2) (i := 2) C 3 rfl rfl dX5_warmth_114 rfl ?_
        refine r_iload (pc' := 117) (i := 5) C 0 rfl dX5_warmth_115 rfl ?_
        refine r_aload_n (pc' := 118) (f4 := 0) (i := 0) C 1 rfl rfl dX5_warmth_117 rfl ?_
        refine q_getP (pc' := 121) (j := 3) C (KO hF hx0) fb_5_3 (by decide) wd_296 (Or.inl rfl) (FO3 hF hx0) (by have h1 := pO0 hx0; omega) dX5_warmth_118 rfl ?_
        refine r_iload (pc' := 123) (i := 4) C 5 rfl dX5_warmth_121 rfl ?_
        obtain ⟨hi, hf⟩ := ck_in hf
        refine r_iald (pc' := 124) C (KO2 hF hx0) rfl hi dX5_warmth_123 rfl ?_
        refine r_imul (pc' := 125) C dX5_warmth_124 rfl ?_
        refine r_isub (pc' := 126) C dX5_warmth_125 rfl ?_
        refine r_istore_n (pc' := 127) (f4 := 2) (i := 2) (L' := [(2, zI (x2 - ((zand x3 1) * (h (x0 + 2) (ww x4))))), (5, zI (zand x3 1)), (0, zP bs x0), (1, zP bs x1), (3, zI x3), (4, zI x4)]) C rfl (by decide) rfl dX5_warmth_126 rfl ?_
        refine r_iload_n (pc' := 128) (f4 := 3) (i := 3) C 4 rfl rfl dX5_warmth_127 rfl ?_
        refine r_iconst (pc' := 129) C dX5_warmth_128 rfl ?_
        refine r_ishr (pc' := 130) C dX5_warmth_129 rfl ?_
        refine r_istore_n (pc' := 131) (f4 := 3) (i := 3) (L' := [(3, zI (zshr x3 1)), (2, zI (x2 - ((zand x3 1) * (h (x0 + 2) (ww x4))))), (5, zI (zand x3 1)), (0, zP bs x0), (1, zP bs x1), (4, zI x4)]) C rfl (by decide) rfl dX5_warmth_130 rfl ?_
        refine r_goto (tgt := 160) C dX5_warmth_131 (by decide) ?_
        refine r_iinc (pc' := 163) (i := 4) (L' := [(4, zI (x4 + 1)), (3, zI (zshr x3 1)), (2, zI (x2 - ((zand x3 1) * (h (x0 + 2) (ww x4))))), (5, zI (zand x3 1)), (0, zP bs x0), (1, zP bs x1)]) C 5 rfl (by decide) rfl dX5_warmth_160 rfl ?_
        refine r_goto (tgt := 7) C dX5_warmth_163 (by decide) ?_
        refine V.sub (L' := [(0, zP bs x0), (1, zP bs x1), (2, zI (x2 - ((zand x3 1) * (h (x0 + 2) (ww x4))))), (3, zI (zshr x3 1)), (4, zI (x4 + 1))]) [4, 5, 2, 1, 0] rfl ?_
        exact ih7 _ _ _ hf
      · rw [if_neg cs0] at hf
        by_cases cs1 : ww (h (x0 + 1) (ww x4)) = (-4)
        · rw [if_pos cs1] at hf
          refine r_tsIn (tgt := 94) C (-4) cs1 dX5_warmth_28 (by decide) (by decide) rfl (by decide) ?_
          refine r_iload_n (pc' := 95) (f4 := 2) (i := 2) C 3 rfl rfl dX5_warmth_94 rfl ?_
          refine r_iload (pc' := 97) (i := 5) C 0 rfl dX5_warmth_95 rfl ?_
          refine r_aload_n (pc' := 98) (f4 := 0) (i := 0) C 1 rfl rfl dX5_warmth_97 rfl ?_
          refine q_getP (pc' := 101) (j := 3) C (KO hF hx0) fb_5_3 (by decide) wd_296 (Or.inl rfl) (FO3 hF hx0) (by have h1 := pO0 hx0; omega) dX5_warmth_98 rfl ?_
          refine r_iload (pc' := 103) (i := 4) C 5 rfl dX5_warmth_101 rfl ?_
          obtain ⟨hi, hf⟩ := ck_in hf
          refine r_iald (pc' := 104) C (KO2 hF hx0) rfl hi dX5_warmth_103 rfl ?_
          refine r_imul (pc' := 105) C dX5_warmth_104 rfl ?_
          refine r_iadd (pc' := 106) C dX5_warmth_105 rfl ?_
          refine r_istore_n (pc' := 107) (f4 := 2) (i := 2) (L' := [(2, zI (x2 + ((zand x3 1) * (h (x0 + 2) (ww x4))))), (5, zI (zand x3 1)), (0, zP bs x0), (1, zP bs x1), (3, zI x3), (4, zI x4)]) C rfl (by decide) rfl dX5_warmth_106 rfl ?_
          refine r_iload_n (pc' := 108) (f4 := 3) (i := 3) C 4 rfl rfl dX5_warmth_107 rfl ?_
          refine r_iconst (pc' := 109) C dX5_warmth_108 rfl ?_
          refine r_ishr (pc' := 110) C dX5_warmth_109 rfl ?_
          refine r_istore_n (pc' := 111) (f4 := 3) (i := 3) (L' := [(3, zI (zshr x3 1)), (2, zI (x2 + ((zand x3 1) * (h (x0 + 2) (ww x4))))), (5, zI (zand x3 1)), (0, zP bs x0), (1, zP bs x1), (4, zI x4)]) C rfl (by decide) rfl dX5_warmth_110 rfl ?_
          refine r_goto (tgt := 160) C dX5_warmth_111 (by decide) ?_
          refine r_iinc (pc' := 163) (i := 4) (L' := [(4, zI (x4 + 1)), (3, zI (zshr x3 1)), (2, zI (x2 + ((zand x3 1) * (h (x0 + 2) (ww x4))))), (5, zI (zand x3 1)), (0, zP bs x0), (1, zP bs x1)]) C 5 rfl (by decide) rfl dX5_warmth_160 rfl ?_
          refine r_goto (tgt := 7) C dX5_warmth_163 (by decide) ?_
          refine V.sub (L' := [(0, zP bs x0), (1, zP bs x1), (2, zI (x2 + ((zand x3 1) * (h (x0 + 2) (ww x4))))), (3, zI (zshr x3 1)), (4, zI (x4 + 1))]) [4, 5, 2, 1, 0] rfl ?_
          exact ih7 _ _ _ hf
        · rw [if_neg cs1] at hf
          by_cases cs2 : ww (h (x0 + 1) (ww x4)) = (-3)
          · rw [if_pos cs2] at hf
            refine r_tsIn (tgt := 84) C (-3) cs2 dX5_warmth_28 (by decide) (by decide) rfl (by decide) ?_
            refine r_iload_n (pc' := 85) (f4 := 3) (i := 3) C 4 rfl rfl dX5_warmth_84 rfl ?_
            refine r_iconst (pc' := 86) C dX5_warmth_85 rfl ?_
            refine r_ishr (pc' := 87) C dX5_warmth_86 rfl ?_
            refine r_iload (pc' := 89) (i := 5) C 0 rfl dX5_warmth_87 rfl ?_
            refine r_ior (pc' := 90) C dX5_warmth_89 rfl ?_
            refine r_istore_n (pc' := 91) (f4 := 3) (i := 3) (L' := [(3, zI (zor (zshr x3 1) (zand x3 1))), (5, zI (zand x3 1)), (0, zP bs x0), (1, zP bs x1), (2, zI x2), (4, zI x4)]) C rfl (by decide) rfl dX5_warmth_90 rfl ?_
            refine r_goto (tgt := 160) C dX5_warmth_91 (by decide) ?_
            refine r_iinc (pc' := 163) (i := 4) (L' := [(4, zI (x4 + 1)), (3, zI (zor (zshr x3 1) (zand x3 1))), (5, zI (zand x3 1)), (0, zP bs x0), (1, zP bs x1), (2, zI x2)]) C 5 rfl (by decide) rfl dX5_warmth_160 rfl ?_
            refine r_goto (tgt := 7) C dX5_warmth_163 (by decide) ?_
            refine V.sub (L' := [(0, zP bs x0), (1, zP bs x1), (2, zI x2), (3, zI (zor (zshr x3 1) (zand x3 1))), (4, zI (x4 + 1))]) [3, 4, 5, 1, 0] rfl ?_
            exact ih7 _ _ _ hf
          · rw [if_neg cs2] at hf
            by_cases cs3 : ww (h (x0 + 1) (ww x4)) = (-2)
            · rw [if_pos cs3] at hf
              refine r_tsIn (tgt := 71) C (-2) cs3 dX5_warmth_28 (by decide) (by decide) rfl (by decide) ?_
              refine r_iload_n (pc' := 72) (f4 := 3) (i := 3) C 4 rfl rfl dX5_warmth_71 rfl ?_
              refine r_iconst (pc' := 73) C dX5_warmth_72 rfl ?_
              refine r_ishr (pc' := 74) C dX5_warmth_73 rfl ?_
              refine r_iload (pc' := 76) (i := 5) C 0 rfl dX5_warmth_74 rfl ?_
              refine r_bipush (pc' := 78) C rfl dX5_warmth_76 rfl ?_
              refine r_ior (pc' := 79) C dX5_warmth_78 rfl ?_
              refine r_iand (pc' := 80) C dX5_warmth_79 rfl ?_
              refine r_istore_n (pc' := 81) (f4 := 3) (i := 3) (L' := [(3, zI (zand (zshr x3 1) (zor (zand x3 1) (-2)))), (5, zI (zand x3 1)), (0, zP bs x0), (1, zP bs x1), (2, zI x2), (4, zI x4)]) C rfl (by decide) rfl dX5_warmth_80 rfl ?_
              refine r_goto (tgt := 160) C dX5_warmth_81 (by decide) ?_
              refine r_iinc (pc' := 163) (i := 4) (L' := [(4, zI (x4 + 1)), (3, zI (zand (zshr x3 1) (zor (zand x3 1) (-2)))), (5, zI (zand x3 1)), (0, zP bs x0), (1, zP bs x1), (2, zI x2)]) C 5 rfl (by decide) rfl dX5_warmth_160 rfl ?_
              refine r_goto (tgt := 7) C dX5_warmth_163 (by decide) ?_
              refine V.sub (L' := [(0, zP bs x0), (1, zP bs x1), (2, zI x2), (3, zI (zand (zshr x3 1) (zor (zand x3 1) (-2)))), (4, zI (x4 + 1))]) [3, 4, 5, 1, 0] rfl ?_
              exact ih7 _ _ _ hf
            · rw [if_neg cs3] at hf
              by_cases cs4 : ww (h (x0 + 1) (ww x4)) = (-1)
              · rw [if_pos cs4] at hf
                refine r_tsIn (tgt := 64) C (-1) cs4 dX5_warmth_28 (by decide) (by decide) rfl (by decide) ?_
                refine r_iload_n (pc' := 65) (f4 := 3) (i := 3) C 4 rfl rfl dX5_warmth_64 rfl ?_
                refine r_iconst (pc' := 66) C dX5_warmth_65 rfl ?_
                refine r_ixor (pc' := 67) C dX5_warmth_66 rfl ?_
                refine r_istore_n (pc' := 68) (f4 := 3) (i := 3) (L' := [(3, zI (zxor x3 1)), (5, zI (zand x3 1)), (0, zP bs x0), (1, zP bs x1), (2, zI x2), (4, zI x4)]) C rfl (by decide) rfl dX5_warmth_67 rfl ?_
                refine r_goto (tgt := 160) C dX5_warmth_68 (by decide) ?_
                refine r_iinc (pc' := 163) (i := 4) (L' := [(4, zI (x4 + 1)), (3, zI (zxor x3 1)), (5, zI (zand x3 1)), (0, zP bs x0), (1, zP bs x1), (2, zI x2)]) C 5 rfl (by decide) rfl dX5_warmth_160 rfl ?_
                refine r_goto (tgt := 7) C dX5_warmth_163 (by decide) ?_
                refine V.sub (L' := [(0, zP bs x0), (1, zP bs x1), (2, zI x2), (3, zI (zxor x3 1)), (4, zI (x4 + 1))]) [3, 4, 5, 1, 0] rfl ?_
                exact ih7 _ _ _ hf
              · rw [if_neg cs4] at hf
                refine r_tsOut (tgt := 134) C dX5_warmth_28 (by omega) (by decide) ?_
                refine r_iload_n (pc' := 135) (f4 := 3) (i := 3) C 4 rfl rfl dX5_warmth_134 rfl ?_
                refine r_iconst (pc' := 136) C dX5_warmth_135 rfl ?_
                refine r_ishl (pc' := 137) C dX5_warmth_136 rfl ?_
                refine r_aload_n (pc' := 138) (f4 := 0) (i := 0) C 1 rfl rfl dX5_warmth_137 rfl ?_
                refine q_getP (pc' := 141) (j := 2) C (KO hF hx0) fb_5_2 (by decide) wd_295 (Or.inl rfl) (FO2 hF hx0) (by have h1 := pO0 hx0; omega) dX5_warmth_138 rfl ?_
                refine r_iload (pc' := 143) (i := 4) C 5 rfl dX5_warmth_141 rfl ?_
                obtain ⟨hi, hf⟩ := ck_in hf
                refine r_iald (pc' := 144) C (KO1 hF hx0) rfl hi dX5_warmth_143 rfl ?_
                refine r_aload_n (pc' := 145) (f4 := 0) (i := 0) C 1 rfl rfl dX5_warmth_144 rfl ?_
                refine q_getP (pc' := 148) (j := 3) C (KO hF hx0) fb_5_3 (by decide) wd_296 (Or.inl rfl) (FO3 hF hx0) (by have h1 := pO0 hx0; omega) dX5_warmth_145 rfl ?_
                refine r_iload (pc' := 150) (i := 4) C 5 rfl dX5_warmth_148 rfl ?_
                obtain ⟨hi, hf⟩ := ck_in hf
                refine r_iald (pc' := 151) C (KO2 hF hx0) rfl hi dX5_warmth_150 rfl ?_
                refine r_aload_n (pc' := 152) (f4 := 1) (i := 1) C 2 rfl rfl dX5_warmth_151 rfl ?_
                obtain ⟨q1, hq1, hf⟩ := bind_in hf
                refine q_callS (pc' := 155) C (t_xo_passes hF hx1 hq1) rfl ws_RX5_28 ⟨Nat.le_of_ble_eq_true rfl, Nat.le_of_ble_eq_true rfl⟩ rfl rfl (Nat.le_of_ble_eq_true rfl) dX5_warmth_152 rfl ⟨Nat.le_of_ble_eq_true rfl, Nat.le_of_ble_eq_true rfl⟩ ?_
                refine q_callSN (pc' := 158) C (t_x_bit hF) rfl wn_RX5_32 ⟨Nat.le_of_ble_eq_true rfl, Nat.le_of_ble_eq_true rfl⟩ rfl rfl (Nat.le_of_ble_eq_true rfl) dX5_warmth_155 rfl ⟨Nat.le_of_ble_eq_true rfl, Nat.le_of_ble_eq_true rfl⟩ ?_
                refine r_ior (pc' := 159) C dX5_warmth_158 rfl ?_
                refine r_istore_n (pc' := 160) (f4 := 3) (i := 3) (L' := [(3, zI (zor (zshl x3 1) (x_bit q1))), (5, zI (zand x3 1)), (0, zP bs x0), (1, zP bs x1), (2, zI x2), (4, zI x4)]) C rfl (by decide) rfl dX5_warmth_159 rfl ?_
                refine r_iinc (pc' := 163) (i := 4) (L' := [(4, zI (x4 + 1)), (3, zI (zor (zshl x3 1) (x_bit q1))), (5, zI (zand x3 1)), (0, zP bs x0), (1, zP bs x1), (2, zI x2)]) C 5 rfl (by decide) rfl dX5_warmth_160 rfl ?_
                refine r_goto (tgt := 7) C dX5_warmth_163 (by decide) ?_
                refine V.sub (L' := [(0, zP bs x0), (1, zP bs x1), (2, zI x2), (3, zI (zor (zshl x3 1) (x_bit q1))), (4, zI (x4 + 1))]) [3, 4, 5, 1, 0] rfl ?_
                exact ih7 _ _ _ hf
    · refine r_iload_n (pc' := 167) (f4 := 2) (i := 2) C 2 rfl rfl dX5_warmth_166 rfl ?_
      cases hf
      exact r_iret C dX5_warmth_167
set_option maxHeartbeats 4000000 in
set_option maxRecDepth 100000 in
theorem t_xo_warmth {S : SS} (hF : Fx S) {h : HH} {a0 : Int} (ha0 : isO a0) {a1 : Int} (ha1 : KD S a1 20 6) {res : Int} (hf : xo_warmth h a0 a1 = some res) : CM yX5_warmth cX5_warmth 6 (some Jvm.ClassFile.FieldType.int) 3 63 0 0 (fun bs => [zP bs a0, zP bs a1]) h S (fun _ => some (zI res)) h S := by
  refine CM.intro (own := RX5) (by decide) rfl (fun _ => Nat.le_of_ble_eq_true rfl) ?_
  intro D dT bs p l e s m args below meth c C
  show V D dT bs 6 p l e rm_xo_warmth s m args below meth c 0 0 _ h S 0 [(0, zP bs a0), (1, zP bs a1)] []
  unfold xo_warmth at hf
  refine r_iconst (pc' := 1) C dX5_warmth_0 rfl ?_
  refine r_istore_n (pc' := 2) (f4 := 2) (i := 2) (L' := [(2, zI 0), (0, zP bs a0), (1, zP bs a1)]) C rfl (by decide) rfl dX5_warmth_1 rfl ?_
  refine r_iconst (pc' := 3) C dX5_warmth_2 rfl ?_
  refine r_istore_n (pc' := 4) (f4 := 3) (i := 3) (L' := [(3, zI 0), (2, zI 0), (0, zP bs a0), (1, zP bs a1)]) C rfl (by decide) rfl dX5_warmth_3 rfl ?_
  refine r_iconst (pc' := 5) C dX5_warmth_4 rfl ?_
  refine r_istore (pc' := 7) (i := 4) (L' := [(4, zI 0), (3, zI 0), (2, zI 0), (0, zP bs a0), (1, zP bs a1)]) C (by decide) rfl dX5_warmth_5 rfl ?_
  refine V.sub (L' := [(0, zP bs a0), (1, zP bs a1), (2, zI 0), (3, zI 0), (4, zI 0)]) [3, 4, 2, 1, 0] rfl ?_
  refine w_xo_warmth_L7 hF C _ ha0 _ ha1 _ _ _ _ hf

/- WassailEnemies$Orchard.testStep(II)I -/
def xo_testStep (a0 : Int) (a1 : Int) : Int :=
  (a0 * 3) + a1
abbrev rm_xo_testStep : Room := { frames := 2, cells := 0, slots := 0, locals := 40 }
set_option maxHeartbeats 4000000 in
set_option maxRecDepth 100000 in
theorem t_xo_testStep {S : SS} (hF : Fx S) {h : HH} {a0 : Int} {a1 : Int} : CM yX5_testStep cX5_testStep 2 (some Jvm.ClassFile.FieldType.int) 2 40 0 0 (fun _ => [zI a0, zI a1]) h S (fun _ => some (zI (xo_testStep a0 a1))) h S := by
  refine CM.intro (own := RX5) (by decide) rfl (fun _ => Nat.le_of_ble_eq_true rfl) ?_
  intro D dT bs p l e s m args below meth c C
  show V D dT bs 2 p l e rm_xo_testStep s m args below meth c 0 0 _ h S 0 [(0, zI a0), (1, zI a1)] []
  obtain ⟨res, hf⟩ : ∃ r, xo_testStep a0 a1 = r := ⟨_, rfl⟩
  rw [hf]
  unfold xo_testStep at hf
  refine r_iload_n (pc' := 1) (f4 := 0) (i := 0) C 0 rfl rfl dX5_testStep_0 rfl ?_
  refine r_slen (pc' := 6) C (n := 3) rfl sl_RX5_36 wvs_RX5_38 ⟨Nat.le_of_ble_eq_true rfl, Nat.le_of_ble_eq_true rfl⟩ (Nat.le_of_ble_eq_true rfl) ⟨Nat.le_of_ble_eq_true rfl, Nat.le_of_ble_eq_true rfl⟩ dX5_testStep_1 dX5_testStep_3 rfl ?_
  refine r_imul (pc' := 7) C dX5_testStep_6 rfl ?_
  refine r_iload_n (pc' := 8) (f4 := 1) (i := 1) C 1 rfl rfl dX5_testStep_7 rfl ?_
  refine r_iadd (pc' := 9) C dX5_testStep_8 rfl ?_
  subst hf
  exact r_iret C dX5_testStep_9

/- WassailEnemies$Reader.append(I)I -/
def xd_append (h : HH) (a1 : Int) : Option (Int × HH) :=
  if ww (h 148 1) < 100 then (ck (ww (h 148 1)) 100 <| some ((u2 (u2 h 149 (ww (h 148 1)) a1) 148 1 (((u2 h 149 (ww (h 148 1)) a1) 148 1) + 1)) 148 1, u2 (u2 h 149 (ww (h 148 1)) a1) 148 1 (((u2 h 149 (ww (h 148 1)) a1) 148 1) + 1))) else (some (-4, h))
abbrev rm_xd_append : Room := { frames := 0, cells := 0, slots := 0, locals := 0 }
set_option maxHeartbeats 4000000 in
set_option maxRecDepth 100000 in
theorem t_xd_append {S : SS} (hF : Fx S) {h : HH} {a1 : Int} {res : Int × HH} (hf : xd_append h a1 = some res) : CM yX6_append cX6_append 2 (some Jvm.ClassFile.FieldType.int) 0 0 0 0 (fun bs => [zP bs 148, zI a1]) h S (fun _ => some (zI res.1)) res.2 S := by
  refine CM.intro (own := RX6) (by decide) rfl (fun _ => Nat.le_of_ble_eq_true rfl) ?_
  intro D dT bs p l e s m args below meth c C
  show V D dT bs 2 p l e rm_xd_append s m args below meth c 0 0 _ h S 0 [(0, zP bs 148), (1, zI a1)] []
  unfold xd_append at hf
  refine r_aload_n (pc' := 1) (f4 := 0) (i := 0) C 0 rfl rfl dX6_append_0 rfl ?_
  refine q_getI (pc' := 4) (j := 1) C (K_148 hF) fb_6_1 wd_239 (Or.inl rfl) dX6_append_1 rfl ?_
  refine r_bipush (pc' := 6) C rfl dX6_append_4 rfl ?_
  refine r_icmp_lt (pc' := 9) (tgt := 12) C rfl ww_n100 hf dX6_append_6 (by decide) rfl (fun hf => ?_) (fun hf => ?_)
  · refine r_aload_n (pc' := 13) (f4 := 0) (i := 0) C 0 rfl rfl dX6_append_12 rfl ?_
    refine q_getP (pc' := 16) (j := 0) C (K_148 hF) fb_6_0 (by decide) wd_238 (Or.inl rfl) (F_148_0 hF) (by decide) dX6_append_13 rfl ?_
    refine r_aload_n (pc' := 17) (f4 := 0) (i := 0) C 0 rfl rfl dX6_append_16 rfl ?_
    refine q_getI (pc' := 20) (j := 1) C (K_148 hF) fb_6_1 wd_239 (Or.inl rfl) dX6_append_17 rfl ?_
    refine r_iload_n (pc' := 21) (f4 := 1) (i := 1) C 1 rfl rfl dX6_append_20 rfl ?_
    obtain ⟨hi, hf⟩ := ck_in hf
    refine r_iast (pc' := 22) C (K_149 hF) rfl hi dX6_append_21 rfl ?_
    refine r_aload_n (pc' := 23) (f4 := 0) (i := 0) C 0 rfl rfl dX6_append_22 rfl ?_
    refine r_dup (pc' := 24) C rfl dX6_append_23 rfl ?_
    refine q_getI (pc' := 27) (j := 1) C (K_148 hF) fb_6_1 wd_239 (Or.inl rfl) dX6_append_24 rfl ?_
    refine r_iconst (pc' := 28) C dX6_append_27 rfl ?_
    refine r_iadd (pc' := 29) C dX6_append_28 rfl ?_
    refine q_putI (pc' := 32) (j := 1) C (K_148 hF) fb_6_1 fp_6_1 wd_239 (Or.inl rfl) (Or.inl rfl) rfl rfl dX6_append_29 rfl ?_
    refine r_aload_n (pc' := 33) (f4 := 0) (i := 0) C 0 rfl rfl dX6_append_32 rfl ?_
    refine q_getI (pc' := 36) (j := 1) C (K_148 hF) fb_6_1 wd_239 (Or.inl rfl) dX6_append_33 rfl ?_
    cases hf
    exact r_iret C dX6_append_36
  · refine r_bipush (pc' := 11) C rfl dX6_append_9 rfl ?_
    cases hf
    exact r_iret C dX6_append_11

/- WassailEnemies$Rows.append(IIII)I -/
def xr_append (h : HH) (a0 : Int) (a1 : Int) (a2 : Int) (a3 : Int) (a4 : Int) : Option (Int × HH) :=
  if ww (h a0 1) < ww (rlen a0) then (ck (ww (h a0 1)) (rlen a0) <| some ((u2 (u2 (u2 (u2 (u2 h (a0 + 2 + (ww (h a0 1))) 0 a1) (a0 + 2 + (ww (h a0 1))) 1 a2) (a0 + 2 + (ww (h a0 1))) 2 a3) (a0 + 2 + (ww (h a0 1))) 3 a4) a0 1 (((u2 (u2 (u2 (u2 h (a0 + 2 + (ww (h a0 1))) 0 a1) (a0 + 2 + (ww (h a0 1))) 1 a2) (a0 + 2 + (ww (h a0 1))) 2 a3) (a0 + 2 + (ww (h a0 1))) 3 a4) a0 1) + 1)) a0 1, u2 (u2 (u2 (u2 (u2 h (a0 + 2 + (ww (h a0 1))) 0 a1) (a0 + 2 + (ww (h a0 1))) 1 a2) (a0 + 2 + (ww (h a0 1))) 2 a3) (a0 + 2 + (ww (h a0 1))) 3 a4) a0 1 (((u2 (u2 (u2 (u2 h (a0 + 2 + (ww (h a0 1))) 0 a1) (a0 + 2 + (ww (h a0 1))) 1 a2) (a0 + 2 + (ww (h a0 1))) 2 a3) (a0 + 2 + (ww (h a0 1))) 3 a4) a0 1) + 1))) else (some (-4, h))
abbrev rm_xr_append : Room := { frames := 0, cells := 0, slots := 0, locals := 0 }
set_option maxHeartbeats 4000000 in
set_option maxRecDepth 100000 in
theorem t_xr_append {S : SS} (hF : Fx S) {h : HH} {a0 : Int} (ha0 : isR a0) {a1 : Int} {a2 : Int} {a3 : Int} {a4 : Int} {res : Int × HH} (hf : xr_append h a0 a1 a2 a3 a4 = some res) : CM yX7_append cX7_append 6 (some Jvm.ClassFile.FieldType.int) 0 0 0 0 (fun bs => [zP bs a0, zI a1, zI a2, zI a3, zI a4]) h S (fun _ => some (zI res.1)) res.2 S := by
  refine CM.intro (own := RX7) (by decide) rfl (fun _ => Nat.le_of_ble_eq_true rfl) ?_
  intro D dT bs p l e s m args below meth c C
  show V D dT bs 6 p l e rm_xr_append s m args below meth c 0 0 _ h S 0 [(0, zP bs a0), (1, zI a1), (2, zI a2), (3, zI a3), (4, zI a4)] []
  unfold xr_append at hf
  refine r_aload_n (pc' := 1) (f4 := 0) (i := 0) C 0 rfl rfl dX7_append_0 rfl ?_
  refine q_getI (pc' := 4) (j := 1) C (KR hF ha0) fb_7_1 wd_151 (Or.inl rfl) dX7_append_1 rfl ?_
  refine r_aload_n (pc' := 5) (f4 := 0) (i := 0) C 0 rfl rfl dX7_append_4 rfl ?_
  refine q_getP (pc' := 8) (j := 0) C (KR hF ha0) fb_7_0 (by decide) wd_149 (Or.inl rfl) (FR0 hF ha0) (by have h1 := pR0 ha0; omega) dX7_append_5 rfl ?_
  refine r_alen (pc' := 9) (t := 3) C (KR0 hF ha0) (by decide) (rlen_b _) dX7_append_8 rfl ?_
  refine r_icmp_lt (pc' := 12) (tgt := 15) C rfl rfl hf dX7_append_9 (by decide) rfl (fun hf => ?_) (fun hf => ?_)
  · refine r_aload_n (pc' := 16) (f4 := 0) (i := 0) C 0 rfl rfl dX7_append_15 rfl ?_
    refine q_getP (pc' := 19) (j := 0) C (KR hF ha0) fb_7_0 (by decide) wd_149 (Or.inl rfl) (FR0 hF ha0) (by have h1 := pR0 ha0; omega) dX7_append_16 rfl ?_
    refine r_aload_n (pc' := 20) (f4 := 0) (i := 0) C 0 rfl rfl dX7_append_19 rfl ?_
    refine q_getI (pc' := 23) (j := 1) C (KR hF ha0) fb_7_1 wd_151 (Or.inl rfl) dX7_append_20 rfl ?_
    obtain ⟨hi1, hf⟩ := ck_in hf
    refine r_aaldP (pc' := 24) (t := 3) C (KR0 hF ha0) (by decide) (by decide) (by decide) (by decide) rfl rfl hi1 (FRr hF ha0 hi1) (Int.add_nonneg (by have h1 := pR0 ha0; omega) (hi1).1) dX7_append_23 rfl ?_
    refine r_astore (pc' := 26) (i := 5) (L' := [(5, zP bs (a0 + 2 + (ww (h a0 1)))), (0, zP bs a0), (1, zI a1), (2, zI a2), (3, zI a3), (4, zI a4)]) C (by decide) rfl dX7_append_24 rfl ?_
    refine r_aload (pc' := 28) (i := 5) C 0 rfl dX7_append_26 rfl ?_
    refine r_iconst (pc' := 29) C dX7_append_28 rfl ?_
    refine r_iload_n (pc' := 30) (f4 := 1) (i := 1) C 2 rfl rfl dX7_append_29 rfl ?_
    refine r_iast (pc' := 31) C (KRr hF ha0 hi1) ww_n0 (by decide) dX7_append_30 rfl ?_
    refine r_aload (pc' := 33) (i := 5) C 0 rfl dX7_append_31 rfl ?_
    refine r_iconst (pc' := 34) C dX7_append_33 rfl ?_
    refine r_iload_n (pc' := 35) (f4 := 2) (i := 2) C 3 rfl rfl dX7_append_34 rfl ?_
    refine r_iast (pc' := 36) C (KRr hF ha0 hi1) ww_n1 (by decide) dX7_append_35 rfl ?_
    refine r_aload (pc' := 38) (i := 5) C 0 rfl dX7_append_36 rfl ?_
    refine r_iconst (pc' := 39) C dX7_append_38 rfl ?_
    refine r_iload_n (pc' := 40) (f4 := 3) (i := 3) C 4 rfl rfl dX7_append_39 rfl ?_
    refine r_iast (pc' := 41) C (KRr hF ha0 hi1) ww_n2 (by decide) dX7_append_40 rfl ?_
    refine r_aload (pc' := 43) (i := 5) C 0 rfl dX7_append_41 rfl ?_
    refine r_iconst (pc' := 44) C dX7_append_43 rfl ?_
    refine r_iload (pc' := 46) (i := 4) C 5 rfl dX7_append_44 rfl ?_
    refine r_iast (pc' := 47) C (KRr hF ha0 hi1) ww_n3 (by decide) dX7_append_46 rfl ?_
    refine r_aload_n (pc' := 48) (f4 := 0) (i := 0) C 1 rfl rfl dX7_append_47 rfl ?_
    refine r_dup (pc' := 49) C rfl dX7_append_48 rfl ?_
    refine q_getI (pc' := 52) (j := 1) C (KR hF ha0) fb_7_1 wd_151 (Or.inl rfl) dX7_append_49 rfl ?_
    refine r_iconst (pc' := 53) C dX7_append_52 rfl ?_
    refine r_iadd (pc' := 54) C dX7_append_53 rfl ?_
    refine q_putI (pc' := 57) (j := 1) C (KR hF ha0) fb_7_1 fp_7_1 wd_151 (Or.inl rfl) (Or.inl rfl) rfl rfl dX7_append_54 rfl ?_
    refine r_aload_n (pc' := 58) (f4 := 0) (i := 0) C 1 rfl rfl dX7_append_57 rfl ?_
    refine q_getI (pc' := 61) (j := 1) C (KR hF ha0) fb_7_1 wd_151 (Or.inl rfl) dX7_append_58 rfl ?_
    cases hf
    exact r_iret C dX7_append_61
  · refine r_bipush (pc' := 14) C rfl dX7_append_12 rfl ?_
    cases hf
    exact r_iret C dX7_append_14

/- WassailEnemies$Rows.become(LWassailEnemies$Rows;)V -/
def xr_become_L2 (x0 : Int) (x1 : Int) : Nat → HH → Int → Option HH
  | 0, _, _ => none
  | n2 + 1, h, x2 =>
    if ww x2 < ww (rlen x0) then (if ww x2 < ww (rlen x1) then (ck (ww x2) (rlen x1) <| ck (ww x2) (rlen x0) <| xr_become_L2 x0 x1 n2 (cpA h (x1 + 2 + (ww x2)) 0 (x0 + 2 + (ww x2)) 0 4) (x2 + 1)) else (some (u2 h x0 1 (h x1 1)))) else (some (u2 h x0 1 (h x1 1)))
def xr_become (h : HH) (a0 : Int) (a1 : Int) : Option HH :=
  xr_become_L2 a0 a1 FU h 0
abbrev rm_xr_become : Room := { frames := 1, cells := 0, slots := 0, locals := 60 }
set_option maxHeartbeats 4000000 in
set_option maxRecDepth 100000 in
theorem w_xr_become_L2 (hF : Fx S) (C : Cx D dT bs RX7 cX7_become 3 (Option.none : Option Jvm.ClassFile.FieldType) p s m args meth c) (x0 : Int) (hx0 : isR x0) (x1 : Int) (hx1 : isR x1) {res : HH} :
    ∀ (n : Nat) (h : HH) (x2 : Int), xr_become_L2 x0 x1 n h x2 = some res → V D dT bs 3 p l e rm_xr_become s m args below meth c 0 0 (MQ below (QQ D dT bs none res S) args s 0 0 (AA bs)) h S 2 [(0, zP bs x0), (1, zP bs x1), (2, zI x2)] [] := by
  intro n
  induction n with
  | zero => intro h x2 hf; simp [xr_become_L2] at hf
  | succ n2 ih2 =>
    intro h x2 hf
    rw [xr_become_L2] at hf
    refine r_iload_n (pc' := 3) (f4 := 2) (i := 2) C 2 rfl rfl dX7_become_2 rfl ?_
    refine r_aload_n (pc' := 4) (f4 := 0) (i := 0) C 0 rfl rfl dX7_become_3 rfl ?_
    refine q_getP (pc' := 7) (j := 0) C (KR hF hx0) fb_7_0 (by decide) wd_149 (Or.inl rfl) (FR0 hF hx0) (by have h1 := pR0 hx0; omega) dX7_become_4 rfl ?_
    refine r_alen (pc' := 8) (t := 3) C (KR0 hF hx0) (by decide) (rlen_b _) dX7_become_7 rfl ?_
    refine r_icmp_ge (pc' := 11) (tgt := 44) C rfl rfl hf dX7_become_8 (by decide) rfl (fun hf => ?_) (fun hf => ?_)
    · refine r_iload_n (pc' := 12) (f4 := 2) (i := 2) C 2 rfl rfl dX7_become_11 rfl ?_
      refine r_aload_n (pc' := 13) (f4 := 1) (i := 1) C 1 rfl rfl dX7_become_12 rfl ?_
      refine q_getP (pc' := 16) (j := 0) C (KR hF hx1) fb_7_0 (by decide) wd_149 (Or.inl rfl) (FR0 hF hx1) (by have h1 := pR0 hx1; omega) dX7_become_13 rfl ?_
      refine r_alen (pc' := 17) (t := 3) C (KR0 hF hx1) (by decide) (rlen_b _) dX7_become_16 rfl ?_
      refine r_icmp_ge (pc' := 20) (tgt := 44) C rfl rfl hf dX7_become_17 (by decide) rfl (fun hf => ?_) (fun hf => ?_)
      · refine r_aload_n (pc' := 21) (f4 := 1) (i := 1) C 1 rfl rfl dX7_become_20 rfl ?_
        refine q_getP (pc' := 24) (j := 0) C (KR hF hx1) fb_7_0 (by decide) wd_149 (Or.inl rfl) (FR0 hF hx1) (by have h1 := pR0 hx1; omega) dX7_become_21 rfl ?_
        refine r_iload_n (pc' := 25) (f4 := 2) (i := 2) C 2 rfl rfl dX7_become_24 rfl ?_
        obtain ⟨hi1, hf⟩ := ck_in hf
        refine r_aaldP (pc' := 26) (t := 3) C (KR0 hF hx1) (by decide) (by decide) (by decide) (by decide) rfl rfl hi1 (FRr hF hx1 hi1) (Int.add_nonneg (by have h1 := pR0 hx1; omega) (hi1).1) dX7_become_25 rfl ?_
        refine r_iconst (pc' := 27) C dX7_become_26 rfl ?_
        refine r_aload_n (pc' := 28) (f4 := 0) (i := 0) C 0 rfl rfl dX7_become_27 rfl ?_
        refine q_getP (pc' := 31) (j := 0) C (KR hF hx0) fb_7_0 (by decide) wd_149 (Or.inl rfl) (FR0 hF hx0) (by have h1 := pR0 hx0; omega) dX7_become_28 rfl ?_
        refine r_iload_n (pc' := 32) (f4 := 2) (i := 2) C 2 rfl rfl dX7_become_31 rfl ?_
        obtain ⟨hi2, hf⟩ := ck_in hf
        refine r_aaldP (pc' := 33) (t := 3) C (KR0 hF hx0) (by decide) (by decide) (by decide) (by decide) rfl rfl hi2 (FRr hF hx0 hi2) (Int.add_nonneg (by have h1 := pR0 hx0; omega) (hi2).1) dX7_become_32 rfl ?_
        refine r_iconst (pc' := 34) C dX7_become_33 rfl ?_
        refine r_iconst (pc' := 35) C dX7_become_34 rfl ?_
        refine r_acpI (pc' := 38) C (KRr hF hx1 hi1) (KRr hF hx0 hi2) ww_n0 ww_n0 ww_n4 (by decide) (by decide) (by decide) (by decide) (by decide) wd_932 wd_549 wd_548 wd_113  (Nat.le_of_ble_eq_true rfl) (Nat.le_of_ble_eq_true rfl) dX7_become_35 rfl ?_
        refine r_iinc (pc' := 41) (i := 2) (L' := [(2, zI (x2 + 1)), (0, zP bs x0), (1, zP bs x1)]) C 2 rfl (by decide) rfl dX7_become_38 rfl ?_
        refine r_goto (tgt := 2) C dX7_become_41 (by decide) ?_
        refine V.sub (L' := [(0, zP bs x0), (1, zP bs x1), (2, zI (x2 + 1))]) [1, 2, 0] rfl ?_
        exact ih2 _ _ hf
      · refine r_aload_n (pc' := 45) (f4 := 0) (i := 0) C 0 rfl rfl dX7_become_44 rfl ?_
        refine r_aload_n (pc' := 46) (f4 := 1) (i := 1) C 1 rfl rfl dX7_become_45 rfl ?_
        refine q_getI (pc' := 49) (j := 1) C (KR hF hx1) fb_7_1 wd_151 (Or.inl rfl) dX7_become_46 rfl ?_
        refine q_putI (pc' := 52) (j := 1) C (KR hF hx0) fb_7_1 fp_7_1 wd_151 (Or.inl rfl) (Or.inl rfl) rfl rfl dX7_become_49 rfl ?_
        cases hf
        exact r_vret C dX7_become_52
    · refine r_aload_n (pc' := 45) (f4 := 0) (i := 0) C 0 rfl rfl dX7_become_44 rfl ?_
      refine r_aload_n (pc' := 46) (f4 := 1) (i := 1) C 1 rfl rfl dX7_become_45 rfl ?_
      refine q_getI (pc' := 49) (j := 1) C (KR hF hx1) fb_7_1 wd_151 (Or.inl rfl) dX7_become_46 rfl ?_
      refine q_putI (pc' := 52) (j := 1) C (KR hF hx0) fb_7_1 fp_7_1 wd_151 (Or.inl rfl) (Or.inl rfl) rfl rfl dX7_become_49 rfl ?_
      cases hf
      exact r_vret C dX7_become_52
set_option maxHeartbeats 4000000 in
set_option maxRecDepth 100000 in
theorem t_xr_become {S : SS} (hF : Fx S) {h : HH} {a0 : Int} (ha0 : isR a0) {a1 : Int} (ha1 : isR a1) {res : HH} (hf : xr_become h a0 a1 = some res) : CM yX7_become cX7_become 3 (Option.none : Option Jvm.ClassFile.FieldType) 1 60 0 0 (fun bs => [zP bs a0, zP bs a1]) h S (fun _ => none) res S := by
  refine CM.intro (own := RX7) (by decide) rfl (fun _ => Nat.le_of_ble_eq_true rfl) ?_
  intro D dT bs p l e s m args below meth c C
  show V D dT bs 3 p l e rm_xr_become s m args below meth c 0 0 _ h S 0 [(0, zP bs a0), (1, zP bs a1)] []
  unfold xr_become at hf
  refine r_iconst (pc' := 1) C dX7_become_0 rfl ?_
  refine r_istore_n (pc' := 2) (f4 := 2) (i := 2) (L' := [(2, zI 0), (0, zP bs a0), (1, zP bs a1)]) C rfl (by decide) rfl dX7_become_1 rfl ?_
  refine V.sub (L' := [(0, zP bs a0), (1, zP bs a1), (2, zI 0)]) [1, 2, 0] rfl ?_
  refine w_xr_become_L2 hF C _ ha0 _ ha1 _ _ _ hf

/- WassailEnemies$Told.force(LWassailEnemies$World;II)I -/
def xh8_force (S : SS) (h : HH) (a0 : Int) (a1 : Int) (a2 : Int) (a3 : Int) : Option Int :=
  ck (ww (h a0 1)) 6 <| ck (ww (zrem (h a1 7) 4)) 4 <| some ((xh4_force S a0 a1 a2 a3) + (h (a1 + 11 + (ww (h a0 1))) (ww (zrem (h a1 7) 4))))
abbrev rm_xh8_force : Room := { frames := 1, cells := 0, slots := 0, locals := 23 }
set_option maxHeartbeats 4000000 in
set_option maxRecDepth 100000 in
theorem t_xh8_force {S : SS} (hF : Fx S) {h : HH} {a0 : Int} (ha0 : isHb S a0 = true) {a1 : Int} (ha1 : isW a1) {a2 : Int} {a3 : Int} {res : Int} (hf : xh8_force S h a0 a1 a2 a3 = some res) : CM yX8_force cX8_force 4 (some Jvm.ClassFile.FieldType.int) 1 23 0 0 (fun bs => [zP bs a0, zP bs a1, zI a2, zI a3]) h S (fun _ => some (zI res)) h S := by
  refine CM.intro (own := RX8) (by decide) rfl (fun _ => Nat.le_of_ble_eq_true rfl) ?_
  intro D dT bs p l e s m args below meth c C
  show V D dT bs 4 p l e rm_xh8_force s m args below meth c 0 0 _ h S 0 [(0, zP bs a0), (1, zP bs a1), (2, zI a2), (3, zI a3)] []
  unfold xh8_force at hf
  refine r_aload_n (pc' := 1) (f4 := 0) (i := 0) C 0 rfl rfl dX8_force_0 rfl ?_
  refine r_aload_n (pc' := 2) (f4 := 1) (i := 1) C 1 rfl rfl dX8_force_1 rfl ?_
  refine r_iload_n (pc' := 3) (f4 := 2) (i := 2) C 2 rfl rfl dX8_force_2 rfl ?_
  refine r_iload_n (pc' := 4) (f4 := 3) (i := 3) C 3 rfl rfl dX8_force_3 rfl ?_
  refine r_callSU (pc' := 7) C (t_xh4_force hF ha0 ha1) rfl ha0 wu_RX8_9 ⟨Nat.le_of_ble_eq_true rfl, Nat.le_of_ble_eq_true rfl⟩ rfl rfl (Nat.le_of_ble_eq_true rfl) dX8_force_4 rfl ⟨Nat.le_of_ble_eq_true rfl, Nat.le_of_ble_eq_true rfl⟩ ?_
  refine r_aload_n (pc' := 8) (f4 := 1) (i := 1) C 1 rfl rfl dX8_force_7 rfl ?_
  refine q_getP (pc' := 11) (j := 3) C (KW hF ha1) fb_10_3 (by decide) wd_182 (Or.inl rfl) (FW3 hF ha1) (by have h1 := pW0 ha1; omega) dX8_force_8 rfl ?_
  refine r_aload_n (pc' := 12) (f4 := 0) (i := 0) C 0 rfl rfl dX8_force_11 rfl ?_
  refine q_getH (pc' := 15) (j := 1) C ha0 (by decide) wd_377 (Or.inr wd_378) dX8_force_12 rfl ?_
  obtain ⟨hi1, hf⟩ := ck_in hf
  refine r_aaldP (pc' := 16) (t := 3) C (KW3 hF ha1) (by decide) (by decide) (by decide) (by decide) rfl rfl hi1 (FWr3 hF ha1 hi1) (Int.add_nonneg (by have h1 := pW0 ha1; omega) (hi1).1) dX8_force_15 rfl ?_
  refine r_aload_n (pc' := 17) (f4 := 1) (i := 1) C 1 rfl rfl dX8_force_16 rfl ?_
  refine q_getI (pc' := 20) (j := 7) C (KW hF ha1) fb_10_7 wd_192 (Or.inl rfl) dX8_force_17 rfl ?_
  refine r_iconst (pc' := 21) C dX8_force_20 rfl ?_
  refine r_irem (pc' := 22) C ww_n4 (by decide) dX8_force_21 rfl ?_
  obtain ⟨hi, hf⟩ := ck_in hf
  refine r_iald (pc' := 23) C (KWr3 hF ha1 hi1) rfl hi dX8_force_22 rfl ?_
  refine r_iadd (pc' := 24) C dX8_force_23 rfl ?_
  cases hf
  exact r_iret C dX8_force_24

/- WassailEnemies$World.goFrom(LWassailEnemies$World;)V -/
def xw_goFrom_L2 (S : SS) (x0 : Int) (x1 : Int) (k74 : HH → Option HH) : Nat → HH → Int → Option HH
  | 0, _, _ => none
  | n2 + 1, h, x2 =>
    if ww x2 < 6 then (ck (ww x2) 6 <| ck (ww x2) 6 <| ckhn S (h (x1 + 1) (ww x2)) <| ck (ww x2) 6 <| ck (ww x2) 6 <| ckb ((u2 h (x0 + 1) (ww x2) (h (x1 + 1) (ww x2))) (x1 + 2) (ww x2)) <| ck (ww x2) 6 <| ck (ww x2) 6 <| ck (ww x2) 6 <| ck (ww x2) 6 <| xw_goFrom_L2 S x0 x1 k74 n2 (cpA (cpA (u2 (u2 h (x0 + 1) (ww x2) (h (x1 + 1) (ww x2))) (x0 + 2) (ww x2) ((u2 h (x0 + 1) (ww x2) (h (x1 + 1) (ww x2))) (x1 + 2) (ww x2))) (x1 + 4 + (ww x2)) 0 (x0 + 4 + (ww x2)) 0 5) (x1 + 11 + (ww x2)) 0 (x0 + 11 + (ww x2)) 0 4) (x2 + 1)) else (k74 h)
def xw_goFrom (S : SS) (h : HH) (a0 : Int) (a1 : Int) : Option HH :=
  xw_goFrom_L2 S a0 a1 (fun h8 => some (u2 (u2 (cpA (cpA (u2 h8 a0 4 (h8 a1 4)) (a1 + 17) 0 (a0 + 17) 0 5) (a1 + 18) 0 (a0 + 18) 0 5) a0 7 ((cpA (cpA (u2 h8 a0 4 (h8 a1 4)) (a1 + 17) 0 (a0 + 17) 0 5) (a1 + 18) 0 (a0 + 18) 0 5) a1 7)) a0 11 ((u2 (cpA (cpA (u2 h8 a0 4 (h8 a1 4)) (a1 + 17) 0 (a0 + 17) 0 5) (a1 + 18) 0 (a0 + 18) 0 5) a0 7 ((cpA (cpA (u2 h8 a0 4 (h8 a1 4)) (a1 + 17) 0 (a0 + 17) 0 5) (a1 + 18) 0 (a0 + 18) 0 5) a1 7)) a1 11))) FU h 0
abbrev rm_xw_goFrom : Room := { frames := 1, cells := 0, slots := 0, locals := 60 }
set_option maxHeartbeats 4000000 in
set_option maxRecDepth 100000 in
theorem w_xw_goFrom_L2 (hF : Fx S) (C : Cx D dT bs RX10 cX10_goFrom 3 (Option.none : Option Jvm.ClassFile.FieldType) p s m args meth c) (x0 : Int) (hx0 : isW x0) (x1 : Int) (hx1 : isW x1) (k74 : HH → Option HH) {res : HH} (hk74 : ∀ (h : HH), k74 h = some res → V D dT bs 3 p l e rm_xw_goFrom s m args below meth c 0 0 (MQ below (QQ D dT bs none res S) args s 0 0 (AA bs)) h S 74 [(0, zP bs x0), (1, zP bs x1)] []) :
    ∀ (n : Nat) (h : HH) (x2 : Int), xw_goFrom_L2 S x0 x1 k74 n h x2 = some res → V D dT bs 3 p l e rm_xw_goFrom s m args below meth c 0 0 (MQ below (QQ D dT bs none res S) args s 0 0 (AA bs)) h S 2 [(0, zP bs x0), (1, zP bs x1), (2, zI x2)] [] := by
  intro n
  induction n with
  | zero => intro h x2 hf; simp [xw_goFrom_L2] at hf
  | succ n2 ih2 =>
    intro h x2 hf
    rw [xw_goFrom_L2] at hf
    refine r_iload_n (pc' := 3) (f4 := 2) (i := 2) C 2 rfl rfl dX10_goFrom_2 rfl ?_
    refine r_bipush (pc' := 5) C rfl dX10_goFrom_3 rfl ?_
    refine r_icmp_ge (pc' := 8) (tgt := 74) C rfl ww_n6 hf dX10_goFrom_5 (by decide) rfl (fun hf => ?_) (fun hf => ?_)
    · refine r_aload_n (pc' := 9) (f4 := 0) (i := 0) C 0 rfl rfl dX10_goFrom_8 rfl ?_
      refine q_getP (pc' := 12) (j := 0) C (KW hF hx0) fb_10_0 (by decide) wd_174 (Or.inl rfl) (FW0 hF hx0) (by have h1 := pW0 hx0; omega) dX10_goFrom_9 rfl ?_
      refine r_iload_n (pc' := 13) (f4 := 2) (i := 2) C 2 rfl rfl dX10_goFrom_12 rfl ?_
      refine r_aload_n (pc' := 14) (f4 := 1) (i := 1) C 1 rfl rfl dX10_goFrom_13 rfl ?_
      refine q_getP (pc' := 17) (j := 0) C (KW hF hx1) fb_10_0 (by decide) wd_174 (Or.inl rfl) (FW0 hF hx1) (by have h1 := pW0 hx1; omega) dX10_goFrom_14 rfl ?_
      refine r_iload_n (pc' := 18) (f4 := 2) (i := 2) C 2 rfl rfl dX10_goFrom_17 rfl ?_
      obtain ⟨hi1, hf⟩ := ck_in hf
      refine r_aaldD (pc' := 19) C (KW0 hF hx1) rfl hi1 dX10_goFrom_18 rfl ?_
      obtain ⟨hi2, hf⟩ := ck_in hf
      obtain ⟨hn3, hf⟩ := ckhn_in hf
      refine r_aastD (pc' := 20) C (KW0 hF hx0) rfl hi2 hn3 dX10_goFrom_19 rfl ?_
      refine r_aload_n (pc' := 21) (f4 := 0) (i := 0) C 0 rfl rfl dX10_goFrom_20 rfl ?_
      refine q_getP (pc' := 24) (j := 1) C (KW hF hx0) fb_10_1 (by decide) wd_176 (Or.inl rfl) (FW1 hF hx0) (by have h1 := pW0 hx0; omega) dX10_goFrom_21 rfl ?_
      refine r_iload_n (pc' := 25) (f4 := 2) (i := 2) C 2 rfl rfl dX10_goFrom_24 rfl ?_
      refine r_aload_n (pc' := 26) (f4 := 1) (i := 1) C 1 rfl rfl dX10_goFrom_25 rfl ?_
      refine q_getP (pc' := 29) (j := 1) C (KW hF hx1) fb_10_1 (by decide) wd_176 (Or.inl rfl) (FW1 hF hx1) (by have h1 := pW0 hx1; omega) dX10_goFrom_26 rfl ?_
      refine r_iload_n (pc' := 30) (f4 := 2) (i := 2) C 2 rfl rfl dX10_goFrom_29 rfl ?_
      obtain ⟨hi, hf⟩ := ck_in hf
      refine r_zald (pc' := 31) C (KW1 hF hx1) rfl hi dX10_goFrom_30 rfl ?_
      obtain ⟨hi, hf⟩ := ck_in hf
      obtain ⟨hz, hf⟩ := ckb_in hf
      refine r_zast (pc' := 32) C (KW1 hF hx0) rfl (zb_nar hz) hi dX10_goFrom_31 rfl ?_
      refine r_aload_n (pc' := 33) (f4 := 1) (i := 1) C 1 rfl rfl dX10_goFrom_32 rfl ?_
      refine q_getP (pc' := 36) (j := 2) C (KW hF hx1) fb_10_2 (by decide) wd_178 (Or.inl rfl) (FW2 hF hx1) (by have h1 := pW0 hx1; omega) dX10_goFrom_33 rfl ?_
      refine r_iload_n (pc' := 37) (f4 := 2) (i := 2) C 2 rfl rfl dX10_goFrom_36 rfl ?_
      obtain ⟨hi4, hf⟩ := ck_in hf
      refine r_aaldP (pc' := 38) (t := 3) C (KW2 hF hx1) (by decide) (by decide) (by decide) (by decide) rfl rfl hi4 (FWr2 hF hx1 hi4) (Int.add_nonneg (by have h1 := pW0 hx1; omega) (hi4).1) dX10_goFrom_37 rfl ?_
      refine r_iconst (pc' := 39) C dX10_goFrom_38 rfl ?_
      refine r_aload_n (pc' := 40) (f4 := 0) (i := 0) C 0 rfl rfl dX10_goFrom_39 rfl ?_
      refine q_getP (pc' := 43) (j := 2) C (KW hF hx0) fb_10_2 (by decide) wd_178 (Or.inl rfl) (FW2 hF hx0) (by have h1 := pW0 hx0; omega) dX10_goFrom_40 rfl ?_
      refine r_iload_n (pc' := 44) (f4 := 2) (i := 2) C 2 rfl rfl dX10_goFrom_43 rfl ?_
      obtain ⟨hi5, hf⟩ := ck_in hf
      refine r_aaldP (pc' := 45) (t := 3) C (KW2 hF hx0) (by decide) (by decide) (by decide) (by decide) rfl rfl hi5 (FWr2 hF hx0 hi5) (Int.add_nonneg (by have h1 := pW0 hx0; omega) (hi5).1) dX10_goFrom_44 rfl ?_
      refine r_iconst (pc' := 46) C dX10_goFrom_45 rfl ?_
      refine r_iconst (pc' := 47) C dX10_goFrom_46 rfl ?_
      refine r_acpI (pc' := 50) C (KWr2 hF hx1 hi4) (KWr2 hF hx0 hi5) ww_n0 ww_n0 ww_n5 (by decide) (by decide) (by decide) (by decide) (by decide) wd_547 wd_549 wd_548 wd_113  (Nat.le_of_ble_eq_true rfl) (Nat.le_of_ble_eq_true rfl) dX10_goFrom_47 rfl ?_
      refine r_aload_n (pc' := 51) (f4 := 1) (i := 1) C 1 rfl rfl dX10_goFrom_50 rfl ?_
      refine q_getP (pc' := 54) (j := 3) C (KW hF hx1) fb_10_3 (by decide) wd_181 (Or.inl rfl) (FW3 hF hx1) (by have h1 := pW0 hx1; omega) dX10_goFrom_51 rfl ?_
      refine r_iload_n (pc' := 55) (f4 := 2) (i := 2) C 2 rfl rfl dX10_goFrom_54 rfl ?_
      obtain ⟨hi6, hf⟩ := ck_in hf
      refine r_aaldP (pc' := 56) (t := 3) C (KW3 hF hx1) (by decide) (by decide) (by decide) (by decide) rfl rfl hi6 (FWr3 hF hx1 hi6) (Int.add_nonneg (by have h1 := pW0 hx1; omega) (hi6).1) dX10_goFrom_55 rfl ?_
      refine r_iconst (pc' := 57) C dX10_goFrom_56 rfl ?_
      refine r_aload_n (pc' := 58) (f4 := 0) (i := 0) C 0 rfl rfl dX10_goFrom_57 rfl ?_
      refine q_getP (pc' := 61) (j := 3) C (KW hF hx0) fb_10_3 (by decide) wd_181 (Or.inl rfl) (FW3 hF hx0) (by have h1 := pW0 hx0; omega) dX10_goFrom_58 rfl ?_
      refine r_iload_n (pc' := 62) (f4 := 2) (i := 2) C 2 rfl rfl dX10_goFrom_61 rfl ?_
      obtain ⟨hi7, hf⟩ := ck_in hf
      refine r_aaldP (pc' := 63) (t := 3) C (KW3 hF hx0) (by decide) (by decide) (by decide) (by decide) rfl rfl hi7 (FWr3 hF hx0 hi7) (Int.add_nonneg (by have h1 := pW0 hx0; omega) (hi7).1) dX10_goFrom_62 rfl ?_
      refine r_iconst (pc' := 64) C dX10_goFrom_63 rfl ?_
      refine r_iconst (pc' := 65) C dX10_goFrom_64 rfl ?_
      refine r_acpI (pc' := 68) C (KWr3 hF hx1 hi6) (KWr3 hF hx0 hi7) ww_n0 ww_n0 ww_n4 (by decide) (by decide) (by decide) (by decide) (by decide) wd_547 wd_549 wd_548 wd_113  (Nat.le_of_ble_eq_true rfl) (Nat.le_of_ble_eq_true rfl) dX10_goFrom_65 rfl ?_
      refine r_iinc (pc' := 71) (i := 2) (L' := [(2, zI (x2 + 1)), (0, zP bs x0), (1, zP bs x1)]) C 2 rfl (by decide) rfl dX10_goFrom_68 rfl ?_
      refine r_goto (tgt := 2) C dX10_goFrom_71 (by decide) ?_
      refine V.sub (L' := [(0, zP bs x0), (1, zP bs x1), (2, zI (x2 + 1))]) [1, 2, 0] rfl ?_
      exact ih2 _ _ hf
    · refine V.sub (L' := [(0, zP bs x0), (1, zP bs x1)]) [0, 1] rfl ?_
      exact hk74 _ hf
set_option maxHeartbeats 4000000 in
set_option maxRecDepth 100000 in
theorem t_xw_goFrom {S : SS} (hF : Fx S) {h : HH} {a0 : Int} (ha0 : isW a0) {a1 : Int} (ha1 : isW a1) {res : HH} (hf : xw_goFrom S h a0 a1 = some res) : CM yX10_goFrom cX10_goFrom 3 (Option.none : Option Jvm.ClassFile.FieldType) 1 60 0 0 (fun bs => [zP bs a0, zP bs a1]) h S (fun _ => none) res S := by
  refine CM.intro (own := RX10) (by decide) rfl (fun _ => Nat.le_of_ble_eq_true rfl) ?_
  intro D dT bs p l e s m args below meth c C
  show V D dT bs 3 p l e rm_xw_goFrom s m args below meth c 0 0 _ h S 0 [(0, zP bs a0), (1, zP bs a1)] []
  unfold xw_goFrom at hf
  refine r_iconst (pc' := 1) C dX10_goFrom_0 rfl ?_
  refine r_istore_n (pc' := 2) (f4 := 2) (i := 2) (L' := [(2, zI 0), (0, zP bs a0), (1, zP bs a1)]) C rfl (by decide) rfl dX10_goFrom_1 rfl ?_
  refine V.sub (L' := [(0, zP bs a0), (1, zP bs a1), (2, zI 0)]) [1, 2, 0] rfl ?_
  refine w_xw_goFrom_L2 hF C _ ha0 _ ha1 _ ?_ _ _ _ hf
  intro h8 hf
  refine r_aload_n (pc' := 75) (f4 := 0) (i := 0) C 0 rfl rfl dX10_goFrom_74 rfl ?_
  refine r_aload_n (pc' := 76) (f4 := 1) (i := 1) C 1 rfl rfl dX10_goFrom_75 rfl ?_
  refine q_getI (pc' := 79) (j := 4) C (KW hF ha1) fb_10_4 wd_185 (Or.inl rfl) dX10_goFrom_76 rfl ?_
  refine q_putI (pc' := 82) (j := 4) C (KW hF ha0) fb_10_4 fp_10_4 wd_185 (Or.inl rfl) (Or.inl rfl) rfl rfl dX10_goFrom_79 rfl ?_
  refine r_aload_n (pc' := 83) (f4 := 1) (i := 1) C 1 rfl rfl dX10_goFrom_82 rfl ?_
  refine q_getP (pc' := 86) (j := 5) C (KW hF ha1) fb_10_5 (by decide) wd_186 (Or.inl rfl) (FW5 hF ha1) (by have h1 := pW0 ha1; omega) dX10_goFrom_83 rfl ?_
  refine r_iconst (pc' := 87) C dX10_goFrom_86 rfl ?_
  refine r_aload_n (pc' := 88) (f4 := 0) (i := 0) C 0 rfl rfl dX10_goFrom_87 rfl ?_
  refine q_getP (pc' := 91) (j := 5) C (KW hF ha0) fb_10_5 (by decide) wd_186 (Or.inl rfl) (FW5 hF ha0) (by have h1 := pW0 ha0; omega) dX10_goFrom_88 rfl ?_
  refine r_iconst (pc' := 92) C dX10_goFrom_91 rfl ?_
  refine r_iconst (pc' := 93) C dX10_goFrom_92 rfl ?_
  refine r_acpI (pc' := 96) C (KW5 hF ha1) (KW5 hF ha0) ww_n0 ww_n0 ww_n5 (by decide) (by decide) (by decide) (by decide) (by decide) wd_547 wd_549 wd_548 wd_113  (Nat.le_of_ble_eq_true rfl) (Nat.le_of_ble_eq_true rfl) dX10_goFrom_93 rfl ?_
  refine r_aload_n (pc' := 97) (f4 := 1) (i := 1) C 1 rfl rfl dX10_goFrom_96 rfl ?_
  refine q_getP (pc' := 100) (j := 6) C (KW hF ha1) fb_10_6 (by decide) wd_188 (Or.inl rfl) (FW6 hF ha1) (by have h1 := pW0 ha1; omega) dX10_goFrom_97 rfl ?_
  refine r_iconst (pc' := 101) C dX10_goFrom_100 rfl ?_
  refine r_aload_n (pc' := 102) (f4 := 0) (i := 0) C 0 rfl rfl dX10_goFrom_101 rfl ?_
  refine q_getP (pc' := 105) (j := 6) C (KW hF ha0) fb_10_6 (by decide) wd_188 (Or.inl rfl) (FW6 hF ha0) (by have h1 := pW0 ha0; omega) dX10_goFrom_102 rfl ?_
  refine r_iconst (pc' := 106) C dX10_goFrom_105 rfl ?_
  refine r_iconst (pc' := 107) C dX10_goFrom_106 rfl ?_
  refine r_acpI (pc' := 110) C (KW6 hF ha1) (KW6 hF ha0) ww_n0 ww_n0 ww_n5 (by decide) (by decide) (by decide) (by decide) (by decide) wd_547 wd_549 wd_548 wd_113  (Nat.le_of_ble_eq_true rfl) (Nat.le_of_ble_eq_true rfl) dX10_goFrom_107 rfl ?_
  refine r_aload_n (pc' := 111) (f4 := 0) (i := 0) C 0 rfl rfl dX10_goFrom_110 rfl ?_
  refine r_aload_n (pc' := 112) (f4 := 1) (i := 1) C 1 rfl rfl dX10_goFrom_111 rfl ?_
  refine q_getI (pc' := 115) (j := 7) C (KW hF ha1) fb_10_7 wd_193 (Or.inl rfl) dX10_goFrom_112 rfl ?_
  refine q_putI (pc' := 118) (j := 7) C (KW hF ha0) fb_10_7 fp_10_7 wd_193 (Or.inl rfl) (Or.inl rfl) rfl rfl dX10_goFrom_115 rfl ?_
  refine r_aload_n (pc' := 119) (f4 := 0) (i := 0) C 0 rfl rfl dX10_goFrom_118 rfl ?_
  refine r_aload_n (pc' := 120) (f4 := 1) (i := 1) C 1 rfl rfl dX10_goFrom_119 rfl ?_
  refine r_getD (pc' := 123) C (KW hF ha1) uin_10 fb_10_11.2.2.2.2 wd_201 rfl dX10_goFrom_120 rfl ?_
  refine r_putD (pc' := 126) C (KW hF ha0) uin_10 fb_10_11.2.2.2.2 wd_201 rfl dX10_goFrom_123 rfl ?_
  cases hf
  exact r_vret C dX10_goFrom_126

/- WassailEnemies$World.become(LWassailEnemies$World;)V -/
def xw_become (S : SS) (h : HH) (a0 : Int) (a1 : Int) : Option HH :=
  (xw_goFrom S h a0 a1).bind fun q1 => (xr_become q1 (a0 + 19) (a1 + 19)).bind fun q2 => (xr_become q2 (a0 + 26) (a1 + 26)).bind fun q3 => (xr_become q3 (a0 + 38) (a1 + 38)).bind fun q4 => some q4
abbrev rm_xw_become : Room := { frames := 2, cells := 0, slots := 0, locals := 82 }
set_option maxHeartbeats 4000000 in
set_option maxRecDepth 100000 in
theorem t_xw_become {S : SS} (hF : Fx S) {h : HH} {a0 : Int} (ha0 : isW a0) {a1 : Int} (ha1 : isW a1) {res : HH} (hf : xw_become S h a0 a1 = some res) : CM yX10_become cX10_become 2 (Option.none : Option Jvm.ClassFile.FieldType) 2 82 0 0 (fun bs => [zP bs a0, zP bs a1]) h S (fun _ => none) res S := by
  refine CM.intro (own := RX10) (by decide) rfl (fun _ => Nat.le_of_ble_eq_true rfl) ?_
  intro D dT bs p l e s m args below meth c C
  show V D dT bs 2 p l e rm_xw_become s m args below meth c 0 0 _ h S 0 [(0, zP bs a0), (1, zP bs a1)] []
  unfold xw_become at hf
  refine r_aload_n (pc' := 1) (f4 := 0) (i := 0) C 0 rfl rfl dX10_become_0 rfl ?_
  refine r_aload_n (pc' := 2) (f4 := 1) (i := 1) C 1 rfl rfl dX10_become_1 rfl ?_
  obtain ⟨q1, hq1, hf⟩ := bind_in hf
  refine q_callVv (pc' := 5) C (t_xw_goFrom hF ha0 ha1 hq1) rfl (KW hF ha0) cl_10 wv_RX10_68 ⟨Nat.le_of_ble_eq_true rfl, Nat.le_of_ble_eq_true rfl⟩ rfl rfl (Nat.le_of_ble_eq_true rfl) dX10_become_2 rfl ⟨Nat.le_of_ble_eq_true rfl, Nat.le_of_ble_eq_true rfl⟩ ?_
  refine r_aload_n (pc' := 6) (f4 := 0) (i := 0) C 0 rfl rfl dX10_become_5 rfl ?_
  refine q_getP (pc' := 9) (j := 8) C (KW hF ha0) fb_10_8 (by decide) wd_195 (Or.inl rfl) (FW8 hF ha0) (by have h1 := pW0 ha0; omega) dX10_become_6 rfl ?_
  refine r_aload_n (pc' := 10) (f4 := 1) (i := 1) C 1 rfl rfl dX10_become_9 rfl ?_
  refine q_getP (pc' := 13) (j := 8) C (KW hF ha1) fb_10_8 (by decide) wd_195 (Or.inl rfl) (FW8 hF ha1) (by have h1 := pW0 ha1; omega) dX10_become_10 rfl ?_
  obtain ⟨q2, hq2, hf⟩ := bind_in hf
  refine q_callVv (pc' := 16) C (t_xr_become hF (isRW8 ha0) (isRW8 ha1) hq2) rfl (KR hF (isRW8 ha0)) cl_7 wv_RX10_72 ⟨Nat.le_of_ble_eq_true rfl, Nat.le_of_ble_eq_true rfl⟩ rfl rfl (Nat.le_of_ble_eq_true rfl) dX10_become_13 rfl ⟨Nat.le_of_ble_eq_true rfl, Nat.le_of_ble_eq_true rfl⟩ ?_
  refine r_aload_n (pc' := 17) (f4 := 0) (i := 0) C 0 rfl rfl dX10_become_16 rfl ?_
  refine q_getP (pc' := 20) (j := 9) C (KW hF ha0) fb_10_9 (by decide) wd_197 (Or.inl rfl) (FW9 hF ha0) (by have h1 := pW0 ha0; omega) dX10_become_17 rfl ?_
  refine r_aload_n (pc' := 21) (f4 := 1) (i := 1) C 1 rfl rfl dX10_become_20 rfl ?_
  refine q_getP (pc' := 24) (j := 9) C (KW hF ha1) fb_10_9 (by decide) wd_197 (Or.inl rfl) (FW9 hF ha1) (by have h1 := pW0 ha1; omega) dX10_become_21 rfl ?_
  obtain ⟨q3, hq3, hf⟩ := bind_in hf
  refine q_callVv (pc' := 27) C (t_xr_become hF (isRW9 ha0) (isRW9 ha1) hq3) rfl (KR hF (isRW9 ha0)) cl_7 wv_RX10_72 ⟨Nat.le_of_ble_eq_true rfl, Nat.le_of_ble_eq_true rfl⟩ rfl rfl (Nat.le_of_ble_eq_true rfl) dX10_become_24 rfl ⟨Nat.le_of_ble_eq_true rfl, Nat.le_of_ble_eq_true rfl⟩ ?_
  refine r_aload_n (pc' := 28) (f4 := 0) (i := 0) C 0 rfl rfl dX10_become_27 rfl ?_
  refine q_getP (pc' := 31) (j := 10) C (KW hF ha0) fb_10_10 (by decide) wd_199 (Or.inl rfl) (FW10 hF ha0) (by have h1 := pW0 ha0; omega) dX10_become_28 rfl ?_
  refine r_aload_n (pc' := 32) (f4 := 1) (i := 1) C 1 rfl rfl dX10_become_31 rfl ?_
  refine q_getP (pc' := 35) (j := 10) C (KW hF ha1) fb_10_10 (by decide) wd_199 (Or.inl rfl) (FW10 hF ha1) (by have h1 := pW0 ha1; omega) dX10_become_32 rfl ?_
  obtain ⟨q4, hq4, hf⟩ := bind_in hf
  refine q_callVv (pc' := 38) C (t_xr_become hF (isRW10 ha0) (isRW10 ha1) hq4) rfl (KR hF (isRW10 ha0)) cl_7 wv_RX10_72 ⟨Nat.le_of_ble_eq_true rfl, Nat.le_of_ble_eq_true rfl⟩ rfl rfl (Nat.le_of_ble_eq_true rfl) dX10_become_35 rfl ⟨Nat.le_of_ble_eq_true rfl, Nat.le_of_ble_eq_true rfl⟩ ?_
  cases hf
  exact r_vret C dX10_become_38

/- WassailEnemies$World.has(I)Z -/
def xw_has (h : HH) (a0 : Int) (a1 : Int) : Int :=
  if ww a1 < 0 then (0) else (if ww a1 < ww (h a0 4) then (1) else (0))
theorem b_xw_has {h : HH} {a0 : Int} {a1 : Int} : xw_has h a0 a1 = 0 ∨ xw_has h a0 a1 = 1 := by
  unfold xw_has
  repeat' split
  all_goals first | exact Or.inl rfl | exact Or.inr rfl

abbrev rm_xw_has : Room := { frames := 0, cells := 0, slots := 0, locals := 0 }
set_option maxHeartbeats 4000000 in
set_option maxRecDepth 100000 in
theorem t_xw_has {S : SS} (hF : Fx S) {h : HH} {a0 : Int} (ha0 : isW a0) {a1 : Int} : CM yX10_has cX10_has 2 (some Jvm.ClassFile.FieldType.boolean) 0 0 0 0 (fun bs => [zP bs a0, zI a1]) h S (fun _ => some (zI (xw_has h a0 a1))) h S := by
  refine CM.intro (own := RX10) (by decide) rfl (fun _ => Nat.le_of_ble_eq_true rfl) ?_
  intro D dT bs p l e s m args below meth c C
  show V D dT bs 2 p l e rm_xw_has s m args below meth c 0 0 _ h S 0 [(0, zP bs a0), (1, zI a1)] []
  obtain ⟨res, hf⟩ : ∃ r, xw_has h a0 a1 = r := ⟨_, rfl⟩
  rw [hf]
  unfold xw_has at hf
  refine r_iload_n (pc' := 1) (f4 := 1) (i := 1) C 1 rfl rfl dX10_has_0 rfl ?_
  refine r_if_lt (pc' := 4) (tgt := 16) C rfl hf dX10_has_1 (by decide) rfl (fun hf => ?_) (fun hf => ?_)
  · refine r_iconst (pc' := 17) C dX10_has_16 rfl ?_
    subst hf
    exact r_zret C (Or.inl rfl) dX10_has_17
  · refine r_iload_n (pc' := 5) (f4 := 1) (i := 1) C 1 rfl rfl dX10_has_4 rfl ?_
    refine r_aload_n (pc' := 6) (f4 := 0) (i := 0) C 0 rfl rfl dX10_has_5 rfl ?_
    refine q_getI (pc' := 9) (j := 4) C (KW hF ha0) fb_10_4 wd_185 (Or.inl rfl) dX10_has_6 rfl ?_
    refine r_icmp_ge (pc' := 12) (tgt := 16) C rfl rfl hf dX10_has_9 (by decide) rfl (fun hf => ?_) (fun hf => ?_)
    · refine r_iconst (pc' := 13) C dX10_has_12 rfl ?_
      refine r_goto (tgt := 17) C dX10_has_13 (by decide) ?_
      subst hf
      exact r_zret C (Or.inr rfl) dX10_has_17
    · refine r_iconst (pc' := 17) C dX10_has_16 rfl ?_
      subst hf
      exact r_zret C (Or.inl rfl) dX10_has_17

/- WassailEnemies$World.welcome(LWassailEnemies$Hater;I)I -/
def xw_welcome (S : SS) (h : HH) (a0 : Int) (a1 : Int) (a2 : Int) : Option (Int × HH) :=
  ck (ww (h a0 4)) 6 <| ck (ww (h a0 4)) 6 <| ck (ww (h a0 4)) 6 <| ck (ww (h a0 4)) 6 <| some (h a0 4, u2 (flA (flA (u2 (u2 h (a0 + 1) (ww (h a0 4)) (a1 + 1)) (a0 + 2) (ww (h a0 4)) 0) (a0 + 4 + (ww (h a0 4))) 5 a2) (a0 + 11 + (ww (h a0 4))) 4 0) a0 4 (((flA (flA (u2 (u2 h (a0 + 1) (ww (h a0 4)) (a1 + 1)) (a0 + 2) (ww (h a0 4)) 0) (a0 + 4 + (ww (h a0 4))) 5 a2) (a0 + 11 + (ww (h a0 4))) 4 0) a0 4) + 1))
abbrev rm_xw_welcome : Room := { frames := 1, cells := 0, slots := 0, locals := 23 }
set_option maxHeartbeats 4000000 in
set_option maxRecDepth 100000 in
theorem t_xw_welcome {S : SS} (hF : Fx S) {h : HH} {a0 : Int} (ha0 : isW a0) {a1 : Int} (ha1 : isHb S a1 = true) {a2 : Int} {res : Int × HH} (hf : xw_welcome S h a0 a1 a2 = some res) : CM yX10_welcome cX10_welcome 4 (some Jvm.ClassFile.FieldType.int) 1 23 0 0 (fun bs => [zP bs a0, zP bs a1, zI a2]) h S (fun _ => some (zI res.1)) res.2 S := by
  refine CM.intro (own := RX10) (by decide) rfl (fun _ => Nat.le_of_ble_eq_true rfl) ?_
  intro D dT bs p l e s m args below meth c C
  show V D dT bs 4 p l e rm_xw_welcome s m args below meth c 0 0 _ h S 0 [(0, zP bs a0), (1, zP bs a1), (2, zI a2)] []
  unfold xw_welcome at hf
  refine r_aload_n (pc' := 1) (f4 := 0) (i := 0) C 0 rfl rfl dX10_welcome_0 rfl ?_
  refine q_getI (pc' := 4) (j := 4) C (KW hF ha0) fb_10_4 wd_185 (Or.inl rfl) dX10_welcome_1 rfl ?_
  refine r_istore_n (pc' := 5) (f4 := 3) (i := 3) (L' := [(3, zI (h a0 4)), (0, zP bs a0), (1, zP bs a1), (2, zI a2)]) C rfl (by decide) rfl dX10_welcome_4 rfl ?_
  refine r_aload_n (pc' := 6) (f4 := 0) (i := 0) C 1 rfl rfl dX10_welcome_5 rfl ?_
  refine q_getP (pc' := 9) (j := 0) C (KW hF ha0) fb_10_0 (by decide) wd_174 (Or.inl rfl) (FW0 hF ha0) (by have h1 := pW0 ha0; omega) dX10_welcome_6 rfl ?_
  refine r_iload_n (pc' := 10) (f4 := 3) (i := 3) C 0 rfl rfl dX10_welcome_9 rfl ?_
  refine r_aload_n (pc' := 11) (f4 := 1) (i := 1) C 2 rfl rfl dX10_welcome_10 rfl ?_
  obtain ⟨hi1, hf⟩ := ck_in hf
  refine r_aastH (pc' := 12) C (KW0 hF ha0) rfl hi1 ha1 dX10_welcome_11 rfl ?_
  refine r_aload_n (pc' := 13) (f4 := 0) (i := 0) C 1 rfl rfl dX10_welcome_12 rfl ?_
  refine q_getP (pc' := 16) (j := 1) C (KW hF ha0) fb_10_1 (by decide) wd_176 (Or.inl rfl) (FW1 hF ha0) (by have h1 := pW0 ha0; omega) dX10_welcome_13 rfl ?_
  refine r_iload_n (pc' := 17) (f4 := 3) (i := 3) C 0 rfl rfl dX10_welcome_16 rfl ?_
  refine r_iconst (pc' := 18) C dX10_welcome_17 rfl ?_
  obtain ⟨hi, hf⟩ := ck_in hf
  refine r_zast (pc' := 19) C (KW1 hF ha0) rfl (zb_nar (Or.inl rfl)) hi dX10_welcome_18 rfl ?_
  refine r_aload_n (pc' := 20) (f4 := 0) (i := 0) C 1 rfl rfl dX10_welcome_19 rfl ?_
  refine q_getP (pc' := 23) (j := 2) C (KW hF ha0) fb_10_2 (by decide) wd_178 (Or.inl rfl) (FW2 hF ha0) (by have h1 := pW0 ha0; omega) dX10_welcome_20 rfl ?_
  refine r_iload_n (pc' := 24) (f4 := 3) (i := 3) C 0 rfl rfl dX10_welcome_23 rfl ?_
  obtain ⟨hi2, hf⟩ := ck_in hf
  refine r_aaldP (pc' := 25) (t := 3) C (KW2 hF ha0) (by decide) (by decide) (by decide) (by decide) rfl rfl hi2 (FWr2 hF ha0 hi2) (Int.add_nonneg (by have h1 := pW0 ha0; omega) (hi2).1) dX10_welcome_24 rfl ?_
  refine r_iload_n (pc' := 26) (f4 := 2) (i := 2) C 3 rfl rfl dX10_welcome_25 rfl ?_
  refine q_callSv (pc' := 29) C (t_fillI hF (KWr2 hF ha0 hi2) (by decide)) rfl ws_RX10_62 ⟨Nat.le_of_ble_eq_true rfl, Nat.le_of_ble_eq_true rfl⟩ rfl rfl (Nat.le_of_ble_eq_true rfl) dX10_welcome_26 rfl ⟨Nat.le_of_ble_eq_true rfl, Nat.le_of_ble_eq_true rfl⟩ ?_
  refine r_aload_n (pc' := 30) (f4 := 0) (i := 0) C 1 rfl rfl dX10_welcome_29 rfl ?_
  refine q_getP (pc' := 33) (j := 3) C (KW hF ha0) fb_10_3 (by decide) wd_181 (Or.inl rfl) (FW3 hF ha0) (by have h1 := pW0 ha0; omega) dX10_welcome_30 rfl ?_
  refine r_iload_n (pc' := 34) (f4 := 3) (i := 3) C 0 rfl rfl dX10_welcome_33 rfl ?_
  obtain ⟨hi3, hf⟩ := ck_in hf
  refine r_aaldP (pc' := 35) (t := 3) C (KW3 hF ha0) (by decide) (by decide) (by decide) (by decide) rfl rfl hi3 (FWr3 hF ha0 hi3) (Int.add_nonneg (by have h1 := pW0 ha0; omega) (hi3).1) dX10_welcome_34 rfl ?_
  refine r_iconst (pc' := 36) C dX10_welcome_35 rfl ?_
  refine q_callSv (pc' := 39) C (t_fillI hF (KWr3 hF ha0 hi3) (by decide)) rfl ws_RX10_62 ⟨Nat.le_of_ble_eq_true rfl, Nat.le_of_ble_eq_true rfl⟩ rfl rfl (Nat.le_of_ble_eq_true rfl) dX10_welcome_36 rfl ⟨Nat.le_of_ble_eq_true rfl, Nat.le_of_ble_eq_true rfl⟩ ?_
  refine r_aload_n (pc' := 40) (f4 := 0) (i := 0) C 1 rfl rfl dX10_welcome_39 rfl ?_
  refine r_dup (pc' := 41) C rfl dX10_welcome_40 rfl ?_
  refine q_getI (pc' := 44) (j := 4) C (KW hF ha0) fb_10_4 wd_185 (Or.inl rfl) dX10_welcome_41 rfl ?_
  refine r_iconst (pc' := 45) C dX10_welcome_44 rfl ?_
  refine r_iadd (pc' := 46) C dX10_welcome_45 rfl ?_
  refine q_putI (pc' := 49) (j := 4) C (KW hF ha0) fb_10_4 fp_10_4 wd_185 (Or.inl rfl) (Or.inl rfl) rfl rfl dX10_welcome_46 rfl ?_
  refine r_iload_n (pc' := 50) (f4 := 3) (i := 3) C 0 rfl rfl dX10_welcome_49 rfl ?_
  cases hf
  exact r_iret C dX10_welcome_50

/- WassailEnemies$World.treeOf(I)I -/
def xw_treeOf_L2 (h : HH) (x0 : Int) (x1 : Int) : Nat → Int → Option Int
  | 0, _ => none
  | n2 + 1, x2 =>
    if ww x2 < 5 then (ck (ww x2) 5 <| if ww (h (x0 + 18) (ww x2)) = ww x1 then (some x2) else (xw_treeOf_L2 h x0 x1 n2 (x2 + 1))) else (some (-5))
def xw_treeOf (h : HH) (a0 : Int) (a1 : Int) : Option Int :=
  xw_treeOf_L2 h a0 a1 FU 0
abbrev rm_xw_treeOf : Room := { frames := 0, cells := 0, slots := 0, locals := 0 }
set_option maxHeartbeats 4000000 in
set_option maxRecDepth 100000 in
theorem w_xw_treeOf_L2 (hF : Fx S) (C : Cx D dT bs RX10 cX10_treeOf 3 (some Jvm.ClassFile.FieldType.int) p s m args meth c) {h : HH} (x0 : Int) (hx0 : isW x0) (x1 : Int) {res : Int} :
    ∀ (n : Nat) (x2 : Int), xw_treeOf_L2 h x0 x1 n x2 = some res → V D dT bs 3 p l e rm_xw_treeOf s m args below meth c 0 0 (MQ below (QQ D dT bs (some (zI res)) h S) args s 0 0 (AA bs)) h S 2 [(0, zP bs x0), (1, zI x1), (2, zI x2)] [] := by
  intro n
  induction n with
  | zero => intro x2 hf; simp [xw_treeOf_L2] at hf
  | succ n2 ih2 =>
    intro x2 hf
    rw [xw_treeOf_L2] at hf
    refine r_iload_n (pc' := 3) (f4 := 2) (i := 2) C 2 rfl rfl dX10_treeOf_2 rfl ?_
    refine r_iconst (pc' := 4) C dX10_treeOf_3 rfl ?_
    refine r_icmp_ge (pc' := 7) (tgt := 25) C rfl ww_n5 hf dX10_treeOf_4 (by decide) rfl (fun hf => ?_) (fun hf => ?_)
    · refine r_aload_n (pc' := 8) (f4 := 0) (i := 0) C 0 rfl rfl dX10_treeOf_7 rfl ?_
      refine q_getP (pc' := 11) (j := 6) C (KW hF hx0) fb_10_6 (by decide) wd_188 (Or.inl rfl) (FW6 hF hx0) (by have h1 := pW0 hx0; omega) dX10_treeOf_8 rfl ?_
      refine r_iload_n (pc' := 12) (f4 := 2) (i := 2) C 2 rfl rfl dX10_treeOf_11 rfl ?_
      obtain ⟨hi, hf⟩ := ck_in hf
      refine r_iald (pc' := 13) C (KW6 hF hx0) rfl hi dX10_treeOf_12 rfl ?_
      refine r_iload_n (pc' := 14) (f4 := 1) (i := 1) C 1 rfl rfl dX10_treeOf_13 rfl ?_
      refine r_icmp_ne (pc' := 17) (tgt := 19) C rfl rfl hf dX10_treeOf_14 (by decide) rfl (fun hf => ?_) (fun hf => ?_)
      · refine r_iload_n (pc' := 18) (f4 := 2) (i := 2) C 2 rfl rfl dX10_treeOf_17 rfl ?_
        cases hf
        exact r_iret C dX10_treeOf_18
      · refine r_iinc (pc' := 22) (i := 2) (L' := [(2, zI (x2 + 1)), (0, zP bs x0), (1, zI x1)]) C 2 rfl (by decide) rfl dX10_treeOf_19 rfl ?_
        refine r_goto (tgt := 2) C dX10_treeOf_22 (by decide) ?_
        refine V.sub (L' := [(0, zP bs x0), (1, zI x1), (2, zI (x2 + 1))]) [1, 2, 0] rfl ?_
        exact ih2 _ hf
    · refine r_bipush (pc' := 27) C rfl dX10_treeOf_25 rfl ?_
      cases hf
      exact r_iret C dX10_treeOf_27
set_option maxHeartbeats 4000000 in
set_option maxRecDepth 100000 in
theorem t_xw_treeOf {S : SS} (hF : Fx S) {h : HH} {a0 : Int} (ha0 : isW a0) {a1 : Int} {res : Int} (hf : xw_treeOf h a0 a1 = some res) : CM yX10_treeOf cX10_treeOf 3 (some Jvm.ClassFile.FieldType.int) 0 0 0 0 (fun bs => [zP bs a0, zI a1]) h S (fun _ => some (zI res)) h S := by
  refine CM.intro (own := RX10) (by decide) rfl (fun _ => Nat.le_of_ble_eq_true rfl) ?_
  intro D dT bs p l e s m args below meth c C
  show V D dT bs 3 p l e rm_xw_treeOf s m args below meth c 0 0 _ h S 0 [(0, zP bs a0), (1, zI a1)] []
  unfold xw_treeOf at hf
  refine r_iconst (pc' := 1) C dX10_treeOf_0 rfl ?_
  refine r_istore_n (pc' := 2) (f4 := 2) (i := 2) (L' := [(2, zI 0), (0, zP bs a0), (1, zI a1)]) C rfl (by decide) rfl dX10_treeOf_1 rfl ?_
  refine V.sub (L' := [(0, zP bs a0), (1, zI a1), (2, zI 0)]) [1, 2, 0] rfl ?_
  refine w_xw_treeOf_L2 hF C _ ha0 _ _ _ hf

/- WassailEnemies$World.giveLeader(II)V -/
def xw_giveLeader (h : HH) (a0 : Int) (a1 : Int) (a2 : Int) : Option HH :=
  (xw_treeOf h a0 a2).bind fun q1 => if ww a2 = -5 then (ck (ww a1) 5 <| some (u2 h (a0 + 18) (ww a1) a2)) else (if ww q1 = -5 then (ck (ww a1) 5 <| some (u2 h (a0 + 18) (ww a1) a2)) else (ck (ww q1) 5 <| ck (ww a1) 5 <| some (u2 (u2 h (a0 + 18) (ww q1) (-5)) (a0 + 18) (ww a1) a2)))
abbrev rm_xw_giveLeader : Room := { frames := 1, cells := 0, slots := 0, locals := 22 }
set_option maxHeartbeats 4000000 in
set_option maxRecDepth 100000 in
theorem t_xw_giveLeader {S : SS} (hF : Fx S) {h : HH} {a0 : Int} (ha0 : isW a0) {a1 : Int} {a2 : Int} {res : HH} (hf : xw_giveLeader h a0 a1 a2 = some res) : CM yX10_giveLeader cX10_giveLeader 4 (Option.none : Option Jvm.ClassFile.FieldType) 1 22 0 0 (fun bs => [zP bs a0, zI a1, zI a2]) h S (fun _ => none) res S := by
  refine CM.intro (own := RX10) (by decide) rfl (fun _ => Nat.le_of_ble_eq_true rfl) ?_
  intro D dT bs p l e s m args below meth c C
  show V D dT bs 4 p l e rm_xw_giveLeader s m args below meth c 0 0 _ h S 0 [(0, zP bs a0), (1, zI a1), (2, zI a2)] []
  unfold xw_giveLeader at hf
  refine r_aload_n (pc' := 1) (f4 := 0) (i := 0) C 0 rfl rfl dX10_giveLeader_0 rfl ?_
  refine r_iload_n (pc' := 2) (f4 := 2) (i := 2) C 2 rfl rfl dX10_giveLeader_1 rfl ?_
  obtain ⟨q1, hq1, hf⟩ := bind_in hf
  refine q_callV (pc' := 5) C (t_xw_treeOf hF ha0 hq1) rfl (KW hF ha0) cl_10 wv_RX10_93 ⟨Nat.le_of_ble_eq_true rfl, Nat.le_of_ble_eq_true rfl⟩ rfl rfl (Nat.le_of_ble_eq_true rfl) dX10_giveLeader_2 rfl ⟨Nat.le_of_ble_eq_true rfl, Nat.le_of_ble_eq_true rfl⟩ ?_
  refine r_istore_n (pc' := 6) (f4 := 3) (i := 3) (L' := [(3, zI q1), (0, zP bs a0), (1, zI a1), (2, zI a2)]) C rfl (by decide) rfl dX10_giveLeader_5 rfl ?_
  refine r_iload_n (pc' := 7) (f4 := 2) (i := 2) C 3 rfl rfl dX10_giveLeader_6 rfl ?_
  refine r_bipush (pc' := 9) C rfl dX10_giveLeader_7 rfl ?_
  refine r_icmp_eq (pc' := 12) (tgt := 26) C rfl ww_m5 hf dX10_giveLeader_9 (by decide) rfl (fun hf => ?_) (fun hf => ?_)
  · refine r_aload_n (pc' := 27) (f4 := 0) (i := 0) C 1 rfl rfl dX10_giveLeader_26 rfl ?_
    refine q_getP (pc' := 30) (j := 6) C (KW hF ha0) fb_10_6 (by decide) wd_188 (Or.inl rfl) (FW6 hF ha0) (by have h1 := pW0 ha0; omega) dX10_giveLeader_27 rfl ?_
    refine r_iload_n (pc' := 31) (f4 := 1) (i := 1) C 2 rfl rfl dX10_giveLeader_30 rfl ?_
    refine r_iload_n (pc' := 32) (f4 := 2) (i := 2) C 3 rfl rfl dX10_giveLeader_31 rfl ?_
    obtain ⟨hi, hf⟩ := ck_in hf
    refine r_iast (pc' := 33) C (KW6 hF ha0) rfl hi dX10_giveLeader_32 rfl ?_
    cases hf
    exact r_vret C dX10_giveLeader_33
  · refine r_iload_n (pc' := 13) (f4 := 3) (i := 3) C 0 rfl rfl dX10_giveLeader_12 rfl ?_
    refine r_bipush (pc' := 15) C rfl dX10_giveLeader_13 rfl ?_
    refine r_icmp_eq (pc' := 18) (tgt := 26) C rfl ww_m5 hf dX10_giveLeader_15 (by decide) rfl (fun hf => ?_) (fun hf => ?_)
    · refine r_aload_n (pc' := 27) (f4 := 0) (i := 0) C 1 rfl rfl dX10_giveLeader_26 rfl ?_
      refine q_getP (pc' := 30) (j := 6) C (KW hF ha0) fb_10_6 (by decide) wd_188 (Or.inl rfl) (FW6 hF ha0) (by have h1 := pW0 ha0; omega) dX10_giveLeader_27 rfl ?_
      refine r_iload_n (pc' := 31) (f4 := 1) (i := 1) C 2 rfl rfl dX10_giveLeader_30 rfl ?_
      refine r_iload_n (pc' := 32) (f4 := 2) (i := 2) C 3 rfl rfl dX10_giveLeader_31 rfl ?_
      obtain ⟨hi, hf⟩ := ck_in hf
      refine r_iast (pc' := 33) C (KW6 hF ha0) rfl hi dX10_giveLeader_32 rfl ?_
      cases hf
      exact r_vret C dX10_giveLeader_33
    · refine r_aload_n (pc' := 19) (f4 := 0) (i := 0) C 1 rfl rfl dX10_giveLeader_18 rfl ?_
      refine q_getP (pc' := 22) (j := 6) C (KW hF ha0) fb_10_6 (by decide) wd_188 (Or.inl rfl) (FW6 hF ha0) (by have h1 := pW0 ha0; omega) dX10_giveLeader_19 rfl ?_
      refine r_iload_n (pc' := 23) (f4 := 3) (i := 3) C 0 rfl rfl dX10_giveLeader_22 rfl ?_
      refine r_bipush (pc' := 25) C rfl dX10_giveLeader_23 rfl ?_
      obtain ⟨hi, hf⟩ := ck_in hf
      refine r_iast (pc' := 26) C (KW6 hF ha0) rfl hi dX10_giveLeader_25 rfl ?_
      refine r_aload_n (pc' := 27) (f4 := 0) (i := 0) C 1 rfl rfl dX10_giveLeader_26 rfl ?_
      refine q_getP (pc' := 30) (j := 6) C (KW hF ha0) fb_10_6 (by decide) wd_188 (Or.inl rfl) (FW6 hF ha0) (by have h1 := pW0 ha0; omega) dX10_giveLeader_27 rfl ?_
      refine r_iload_n (pc' := 31) (f4 := 1) (i := 1) C 2 rfl rfl dX10_giveLeader_30 rfl ?_
      refine r_iload_n (pc' := 32) (f4 := 2) (i := 2) C 3 rfl rfl dX10_giveLeader_31 rfl ?_
      obtain ⟨hi, hf⟩ := ck_in hf
      refine r_iast (pc' := 33) C (KW6 hF ha0) rfl hi dX10_giveLeader_32 rfl ?_
      cases hf
      exact r_vret C dX10_giveLeader_33

/- WassailEnemies$World.present()I -/
def xw_present_L4 (h : HH) (x0 : Int) : Nat → Int → Int → Option Int
  | 0, _, _ => none
  | n4 + 1, x1, x2 =>
    if ww x2 < ww (h x0 4) then (ck (ww x2) 6 <| if ww (h (x0 + 2) (ww x2)) = 0 then (xw_present_L4 h x0 n4 (zor x1 (zshl 1 x2)) (x2 + 1)) else (xw_present_L4 h x0 n4 (zor x1 0) (x2 + 1))) else (some x1)
def xw_present (h : HH) (a0 : Int) : Option Int :=
  xw_present_L4 h a0 FU 0 0
abbrev rm_xw_present : Room := { frames := 0, cells := 0, slots := 0, locals := 0 }
set_option maxHeartbeats 4000000 in
set_option maxRecDepth 100000 in
theorem w_xw_present_L4 (hF : Fx S) (C : Cx D dT bs RX10 cX10_present 3 (some Jvm.ClassFile.FieldType.int) p s m args meth c) {h : HH} (x0 : Int) (hx0 : isW x0) {res : Int} :
    ∀ (n : Nat) (x1 : Int) (x2 : Int), xw_present_L4 h x0 n x1 x2 = some res → V D dT bs 3 p l e rm_xw_present s m args below meth c 0 0 (MQ below (QQ D dT bs (some (zI res)) h S) args s 0 0 (AA bs)) h S 4 [(0, zP bs x0), (1, zI x1), (2, zI x2)] [] := by
  intro n
  induction n with
  | zero => intro x1 x2 hf; simp [xw_present_L4] at hf
  | succ n4 ih4 =>
    intro x1 x2 hf
    rw [xw_present_L4] at hf
    refine r_iload_n (pc' := 5) (f4 := 2) (i := 2) C 2 rfl rfl dX10_present_4 rfl ?_
    refine r_aload_n (pc' := 6) (f4 := 0) (i := 0) C 0 rfl rfl dX10_present_5 rfl ?_
    refine q_getI (pc' := 9) (j := 4) C (KW hF hx0) fb_10_4 wd_185 (Or.inl rfl) dX10_present_6 rfl ?_
    refine r_icmp_ge (pc' := 12) (tgt := 37) C rfl rfl hf dX10_present_9 (by decide) rfl (fun hf => ?_) (fun hf => ?_)
    · refine r_iload_n (pc' := 13) (f4 := 1) (i := 1) C 1 rfl rfl dX10_present_12 rfl ?_
      refine r_aload_n (pc' := 14) (f4 := 0) (i := 0) C 0 rfl rfl dX10_present_13 rfl ?_
      refine q_getP (pc' := 17) (j := 1) C (KW hF hx0) fb_10_1 (by decide) wd_176 (Or.inl rfl) (FW1 hF hx0) (by have h1 := pW0 hx0; omega) dX10_present_14 rfl ?_
      refine r_iload_n (pc' := 18) (f4 := 2) (i := 2) C 2 rfl rfl dX10_present_17 rfl ?_
      obtain ⟨hi, hf⟩ := ck_in hf
      refine r_zald (pc' := 19) C (KW1 hF hx0) rfl hi dX10_present_18 rfl ?_
      refine r_if_eq (pc' := 22) (tgt := 26) C rfl hf dX10_present_19 (by decide) rfl (fun hf => ?_) (fun hf => ?_)
      · refine r_iconst (pc' := 27) C dX10_present_26 rfl ?_
        refine r_iload_n (pc' := 28) (f4 := 2) (i := 2) C 2 rfl rfl dX10_present_27 rfl ?_
        refine r_ishl (pc' := 29) C dX10_present_28 rfl ?_
        refine r_ior (pc' := 30) C dX10_present_29 rfl ?_
        refine r_istore_n (pc' := 31) (f4 := 1) (i := 1) (L' := [(1, zI (zor x1 (zshl 1 x2))), (0, zP bs x0), (2, zI x2)]) C rfl (by decide) rfl dX10_present_30 rfl ?_
        refine r_iinc (pc' := 34) (i := 2) (L' := [(2, zI (x2 + 1)), (1, zI (zor x1 (zshl 1 x2))), (0, zP bs x0)]) C 2 rfl (by decide) rfl dX10_present_31 rfl ?_
        refine r_goto (tgt := 4) C dX10_present_34 (by decide) ?_
        refine V.sub (L' := [(0, zP bs x0), (1, zI (zor x1 (zshl 1 x2))), (2, zI (x2 + 1))]) [2, 1, 0] rfl ?_
        exact ih4 _ _ hf
      · refine r_iconst (pc' := 23) C dX10_present_22 rfl ?_
        refine r_goto (tgt := 29) C dX10_present_23 (by decide) ?_
        refine r_ior (pc' := 30) C dX10_present_29 rfl ?_
        refine r_istore_n (pc' := 31) (f4 := 1) (i := 1) (L' := [(1, zI (zor x1 0)), (0, zP bs x0), (2, zI x2)]) C rfl (by decide) rfl dX10_present_30 rfl ?_
        refine r_iinc (pc' := 34) (i := 2) (L' := [(2, zI (x2 + 1)), (1, zI (zor x1 0)), (0, zP bs x0)]) C 2 rfl (by decide) rfl dX10_present_31 rfl ?_
        refine r_goto (tgt := 4) C dX10_present_34 (by decide) ?_
        refine V.sub (L' := [(0, zP bs x0), (1, zI (zor x1 0)), (2, zI (x2 + 1))]) [2, 1, 0] rfl ?_
        exact ih4 _ _ hf
    · refine r_iload_n (pc' := 38) (f4 := 1) (i := 1) C 1 rfl rfl dX10_present_37 rfl ?_
      cases hf
      exact r_iret C dX10_present_38
set_option maxHeartbeats 4000000 in
set_option maxRecDepth 100000 in
theorem t_xw_present {S : SS} (hF : Fx S) {h : HH} {a0 : Int} (ha0 : isW a0) {res : Int} (hf : xw_present h a0 = some res) : CM yX10_present cX10_present 3 (some Jvm.ClassFile.FieldType.int) 0 0 0 0 (fun bs => [zP bs a0]) h S (fun _ => some (zI res)) h S := by
  refine CM.intro (own := RX10) (by decide) rfl (fun _ => Nat.le_of_ble_eq_true rfl) ?_
  intro D dT bs p l e s m args below meth c C
  show V D dT bs 3 p l e rm_xw_present s m args below meth c 0 0 _ h S 0 [(0, zP bs a0)] []
  unfold xw_present at hf
  refine r_iconst (pc' := 1) C dX10_present_0 rfl ?_
  refine r_istore_n (pc' := 2) (f4 := 1) (i := 1) (L' := [(1, zI 0), (0, zP bs a0)]) C rfl (by decide) rfl dX10_present_1 rfl ?_
  refine r_iconst (pc' := 3) C dX10_present_2 rfl ?_
  refine r_istore_n (pc' := 4) (f4 := 2) (i := 2) (L' := [(2, zI 0), (1, zI 0), (0, zP bs a0)]) C rfl (by decide) rfl dX10_present_3 rfl ?_
  refine V.sub (L' := [(0, zP bs a0), (1, zI 0), (2, zI 0)]) [2, 1, 0] rfl ?_
  refine w_xw_present_L4 hF C _ ha0 _ _ _ hf

/- WassailEnemies$World.need()I -/
def xw_need (h : HH) (a0 : Int) : Option Int :=
  if (h a0 11) ≤ 0 then (some 20) else (ckO (h a0 11 - 1) <| some (h (h a0 11 - 1) 0))
abbrev rm_xw_need : Room := { frames := 0, cells := 0, slots := 0, locals := 0 }
set_option maxHeartbeats 4000000 in
set_option maxRecDepth 100000 in
theorem t_xw_need {S : SS} (hF : Fx S) {h : HH} {a0 : Int} (ha0 : isW a0) {res : Int} (hf : xw_need h a0 = some res) : CM yX10_need cX10_need 1 (some Jvm.ClassFile.FieldType.int) 0 0 0 0 (fun bs => [zP bs a0]) h S (fun _ => some (zI res)) h S := by
  refine CM.intro (own := RX10) (by decide) rfl (fun _ => Nat.le_of_ble_eq_true rfl) ?_
  intro D dT bs p l e s m args below meth c C
  show V D dT bs 1 p l e rm_xw_need s m args below meth c 0 0 _ h S 0 [(0, zP bs a0)] []
  unfold xw_need at hf
  refine r_aload_n (pc' := 1) (f4 := 0) (i := 0) C 0 rfl rfl dX10_need_0 rfl ?_
  refine r_getD (pc' := 4) C (KW hF ha0) uin_10 fb_10_11.2.2.2.2 wd_201 rfl dX10_need_1 rfl ?_
  refine r_ifnonnullD (pc' := 7) (tgt := 12) C hf dX10_need_4 (by decide) rfl (fun hf => ?_) (fun hf => ?_)
  · refine r_bipush (pc' := 9) C rfl dX10_need_7 rfl ?_
    refine r_goto (tgt := 19) C dX10_need_9 (by decide) ?_
    cases hf
    exact r_iret C dX10_need_19
  · refine r_aload_n (pc' := 13) (f4 := 0) (i := 0) C 0 rfl rfl dX10_need_12 rfl ?_
    obtain ⟨hO1, hf⟩ := ckO_in hf
    refine r_getD (pc' := 16) C (KW hF ha0) uin_10 fb_10_11.2.2.2.2 wd_201 rfl dX10_need_13 rfl ?_
    refine r_nnD (isO_pos hO1) ?_
    refine q_getI (pc' := 19) (j := 0) C (KO hF hO1) fb_5_0 wd_291 (Or.inl rfl) dX10_need_16 rfl ?_
    cases hf
    exact r_iret C dX10_need_19

/- WassailEnemies$World.wear()I -/
def xw_wear (h : HH) (a0 : Int) : Option Int :=
  if (h a0 11) ≤ 0 then (some 3) else (ckO (h a0 11 - 1) <| some (h (h a0 11 - 1) 1))
abbrev rm_xw_wear : Room := { frames := 0, cells := 0, slots := 0, locals := 0 }
set_option maxHeartbeats 4000000 in
set_option maxRecDepth 100000 in
theorem t_xw_wear {S : SS} (hF : Fx S) {h : HH} {a0 : Int} (ha0 : isW a0) {res : Int} (hf : xw_wear h a0 = some res) : CM yX10_wear cX10_wear 1 (some Jvm.ClassFile.FieldType.int) 0 0 0 0 (fun bs => [zP bs a0]) h S (fun _ => some (zI res)) h S := by
  refine CM.intro (own := RX10) (by decide) rfl (fun _ => Nat.le_of_ble_eq_true rfl) ?_
  intro D dT bs p l e s m args below meth c C
  show V D dT bs 1 p l e rm_xw_wear s m args below meth c 0 0 _ h S 0 [(0, zP bs a0)] []
  unfold xw_wear at hf
  refine r_aload_n (pc' := 1) (f4 := 0) (i := 0) C 0 rfl rfl dX10_wear_0 rfl ?_
  refine r_getD (pc' := 4) C (KW hF ha0) uin_10 fb_10_11.2.2.2.2 wd_201 rfl dX10_wear_1 rfl ?_
  refine r_ifnonnullD (pc' := 7) (tgt := 11) C hf dX10_wear_4 (by decide) rfl (fun hf => ?_) (fun hf => ?_)
  · refine r_iconst (pc' := 8) C dX10_wear_7 rfl ?_
    refine r_goto (tgt := 18) C dX10_wear_8 (by decide) ?_
    cases hf
    exact r_iret C dX10_wear_18
  · refine r_aload_n (pc' := 12) (f4 := 0) (i := 0) C 0 rfl rfl dX10_wear_11 rfl ?_
    obtain ⟨hO1, hf⟩ := ckO_in hf
    refine r_getD (pc' := 15) C (KW hF ha0) uin_10 fb_10_11.2.2.2.2 wd_201 rfl dX10_wear_12 rfl ?_
    refine r_nnD (isO_pos hO1) ?_
    refine q_getI (pc' := 18) (j := 1) C (KO hF hO1) fb_5_1 wd_294 (Or.inl rfl) dX10_wear_15 rfl ?_
    cases hf
    exact r_iret C dX10_wear_18

def d_force (S : SS) (h : HH) (a0 a1 a2 a3 : Int) : Option Int :=
  if S.1 a0 (-1) = 3 then xh3_force S h a0 a1 a2 a3 else
  if S.1 a0 (-1) = 4 then some (xh4_force S a0 a1 a2 a3) else
  if S.1 a0 (-1) = 9 then some (xh9_force S h a0 a1 a2 a3) else
  if S.1 a0 (-1) = 0 then xh0_force S h a0 a1 a2 a3 else
  if S.1 a0 (-1) = 1 then some (xh1_force S h a0 a1 a2 a3) else
  if S.1 a0 (-1) = 8 then xh8_force S h a0 a1 a2 a3 else
  some (xh2_force S a0 a1 a2 a3)

set_option maxHeartbeats 4000000 in
theorem rd_RX10_115 {D : va_G} {dT : ZT} {bs nL : Nat} {p : Program} {l : Launch} {e : Env} {R : Room} {s : State} {m : MethodId} {args : Array Value} {below : List Frame} {meth : Method} {c : Code} {cells slots : Nat} {Q : State → Prop} {h : HH} {S : SS} {pc pc' : Nat} {L : List (Nat × Value)} (C : Cx D dT bs RX10 cX10_force nL (some Jvm.ClassFile.FieldType.int) p s m args meth c) (hF : Fx S) {b w t su : Int} (hH : isHb S b = true) (hw : isW w) {r : Int} (hq : d_force S h b w t su = some r) (hR : 2 ≤ R.frames ∧ 47 ≤ R.locals) (hz : cells ≤ R.cells ∧ slots ≤ R.slots) (hd : decode cX10_force pc = .ok (.invokevirtual 115, 3)) (hp : pc + 3 = pc') (kk : V D dT bs nL p l e R s m args below meth c cells slots Q h S pc' L [zI r]) : V D dT bs nL p l e R s m args below meth c cells slots Q h S pc L [zI su, zI t, zP bs w, zP bs b] := by
  obtain ⟨h1, h2, h3, h4, h5⟩ := isHb_at hH
  rcases h3 with hc | hc | hc | hc | hc | hc | hc
  · have k1 : KD S b 0 0 := ⟨by omega, h2, hc, h4⟩
    have hq2 : xh0_force S h b w t su = some r := by simpa [d_force, hc] using hq
    exact r_callU C (t_xh0_force hF hH hw hq2) rfl k1 ⟨by decide, show clX[0]? = some (RX0, TX0, 4) from rfl⟩ (va_cwO (x := yX2_force) (owner := RX2) 3 C.2.2.2.2.1 (lwb_callO wd_513 wd_516 wd_514 wd_517 wd_518 wd_111 wd_519) rfl rfl rfl (show Cond.code yX2_force cX2_force 4 (some .int) ∈ lwb from wd_538) ⟨by decide, by decide, by decide +kernel⟩ ⟨Nat.le_trans (Nat.le_of_ble_eq_true rfl) hR.1, Nat.le_trans (Nat.le_of_ble_eq_true rfl) hR.2⟩) rfl rfl (Nat.le_of_ble_eq_true rfl) hd hp ⟨by omega, by omega⟩ kk
  · have k1 : KD S b 1 0 := ⟨by omega, h2, hc, h4⟩
    have hq2 : xh1_force S h b w t su = r := by simpa [d_force, hc] using hq
    subst hq2
    exact r_callU C (t_xh1_force hF hH hw) rfl k1 ⟨by decide, show clX[1]? = some (RX1, TX1, 4) from rfl⟩ (va_cwO (x := yX2_force) (owner := RX2) 3 C.2.2.2.2.1 (lwb_callO wd_513 wd_516 wd_514 wd_523 wd_524 wd_110 wd_525) rfl rfl rfl (show Cond.code yX2_force cX2_force 4 (some .int) ∈ lwb from wd_538) ⟨by decide, by decide, by decide +kernel⟩ ⟨Nat.le_trans (Nat.le_of_ble_eq_true rfl) hR.1, Nat.le_trans (Nat.le_of_ble_eq_true rfl) hR.2⟩) rfl rfl (Nat.le_of_ble_eq_true rfl) hd hp ⟨by omega, by omega⟩ kk
  · have k1 : KD S b 2 0 := ⟨by omega, h2, hc, h4⟩
    have hq2 : xh2_force S b w t su = r := by simpa [d_force, hc] using hq
    subst hq2
    exact r_callV C 3 (t_xh2_force hF hH hw) rfl k1 (by decide) (show clX[2]? = some (RX2, TX2, 4) from rfl) (lwb_callV wd_513 wd_514 wd_515 wd_106 wd_538) ⟨rfl, by decide, by decide, by decide +kernel⟩ ⟨by omega, by omega⟩ rfl rfl (Nat.le_of_ble_eq_true rfl) hd hp ⟨by omega, by omega⟩ kk
  · have k1 : KD S b 3 0 := ⟨by omega, h2, hc, h4⟩
    have hq2 : xh3_force S h b w t su = some r := by simpa [d_force, hc] using hq
    exact r_callU C (t_xh3_force hF hH hw hq2) rfl k1 ⟨by decide, show clX[3]? = some (RX3, TX3, 4) from rfl⟩ (va_cwO (x := yX2_force) (owner := RX2) 3 C.2.2.2.2.1 (lwb_callO wd_513 wd_516 wd_514 wd_529 wd_521 wd_108 wd_522) rfl rfl rfl (show Cond.code yX2_force cX2_force 4 (some .int) ∈ lwb from wd_538) ⟨by decide, by decide, by decide +kernel⟩ ⟨Nat.le_trans (Nat.le_of_ble_eq_true rfl) hR.1, Nat.le_trans (Nat.le_of_ble_eq_true rfl) hR.2⟩) rfl rfl (Nat.le_of_ble_eq_true rfl) hd hp ⟨by omega, by omega⟩ kk
  · have k1 : KD S b 4 0 := ⟨by omega, h2, hc, h4⟩
    have hq2 : xh4_force S b w t su = r := by simpa [d_force, hc] using hq
    subst hq2
    exact r_callU C (t_xh4_force hF hH hw) rfl k1 ⟨by decide, show clX[4]? = some (RX4, TX4, 4) from rfl⟩ (va_cwO (x := yX2_force) (owner := RX2) 3 C.2.2.2.2.1 (lwb_callO wd_513 wd_516 wd_514 wd_530 wd_531 wd_109 wd_532) rfl rfl rfl (show Cond.code yX2_force cX2_force 4 (some .int) ∈ lwb from wd_538) ⟨by decide, by decide, by decide +kernel⟩ ⟨Nat.le_trans (Nat.le_of_ble_eq_true rfl) hR.1, Nat.le_trans (Nat.le_of_ble_eq_true rfl) hR.2⟩) rfl rfl (Nat.le_of_ble_eq_true rfl) hd hp ⟨by omega, by omega⟩ kk
  · have k1 : KD S b 8 0 := ⟨by omega, h2, hc, h4⟩
    have hq2 : xh8_force S h b w t su = some r := by simpa [d_force, hc] using hq
    exact r_callU C (t_xh8_force hF hH hw hq2) rfl k1 ⟨by decide, show clX[8]? = some (RX8, TX8, 4) from rfl⟩ (va_cwO (x := yX2_force) (owner := RX2) 3 C.2.2.2.2.1 (lwb_callO wd_513 wd_516 wd_514 wd_533 wd_534 wd_112 wd_535) rfl rfl rfl (show Cond.code yX2_force cX2_force 4 (some .int) ∈ lwb from wd_538) ⟨by decide, by decide, by decide +kernel⟩ ⟨Nat.le_trans (Nat.le_of_ble_eq_true rfl) hR.1, Nat.le_trans (Nat.le_of_ble_eq_true rfl) hR.2⟩) rfl rfl (Nat.le_of_ble_eq_true rfl) hd hp ⟨by omega, by omega⟩ kk
  · have k1 : KD S b 9 0 := ⟨by omega, h2, hc, h4⟩
    have hq2 : xh9_force S h b w t su = r := by simpa [d_force, hc] using hq
    subst hq2
    exact r_callU C (t_xh9_force hF hH hw) rfl k1 ⟨by decide, show clX[9]? = some (RX9, TX9, 4) from rfl⟩ (va_cwO (x := yX2_force) (owner := RX2) 3 C.2.2.2.2.1 (lwb_callO wd_513 wd_516 wd_514 wd_537 wd_527 wd_107 wd_528) rfl rfl rfl (show Cond.code yX2_force cX2_force 4 (some .int) ∈ lwb from wd_538) ⟨by decide, by decide, by decide +kernel⟩ ⟨Nat.le_trans (Nat.le_of_ble_eq_true rfl) hR.1, Nat.le_trans (Nat.le_of_ble_eq_true rfl) hR.2⟩) rfl rfl (Nat.le_of_ble_eq_true rfl) hd hp ⟨by omega, by omega⟩ kk

/- WassailEnemies$World.force(II)I -/
def xw_force (S : SS) (h : HH) (a0 : Int) (a1 : Int) (a2 : Int) : Option (Int × HH) :=
  ck (ww a1) 6 <| ckh S (h (a0 + 1) (ww a1) - 1) <| ck (ww a1) 6 <| ck (ww a2) 5 <| if (h a0 11) ≤ 0 then ((d_force S h (h (a0 + 1) (ww a1) - 1) a0 a2 (h (a0 + 4 + (ww a1)) (ww a2))).bind fun q4 => some (q4, h)) else (ck (ww a1) 6 <| ck (ww a2) 5 <| ckO ((u2 (u2 (u2 (u2 (u2 (u2 h (a0 + 48) 0 a1) (a0 + 48) 1 a2) (a0 + 48) 2 ((u2 (u2 h (a0 + 48) 0 a1) (a0 + 48) 1 a2) (h (a0 + 1) (ww a1) - 1) 0)) (a0 + 48) 3 ((u2 (u2 (u2 h (a0 + 48) 0 a1) (a0 + 48) 1 a2) (a0 + 48) 2 ((u2 (u2 h (a0 + 48) 0 a1) (a0 + 48) 1 a2) (h (a0 + 1) (ww a1) - 1) 0)) (h (a0 + 1) (ww a1) - 1) 2)) (a0 + 48) 4 (zdiv ((u2 (u2 (u2 (u2 h (a0 + 48) 0 a1) (a0 + 48) 1 a2) (a0 + 48) 2 ((u2 (u2 h (a0 + 48) 0 a1) (a0 + 48) 1 a2) (h (a0 + 1) (ww a1) - 1) 0)) (a0 + 48) 3 ((u2 (u2 (u2 h (a0 + 48) 0 a1) (a0 + 48) 1 a2) (a0 + 48) 2 ((u2 (u2 h (a0 + 48) 0 a1) (a0 + 48) 1 a2) (h (a0 + 1) (ww a1) - 1) 0)) (h (a0 + 1) (ww a1) - 1) 2)) (a0 + 4 + (ww a1)) (ww a2)) 10)) (a0 + 48) 5 (zrem ((u2 (u2 (u2 (u2 (u2 h (a0 + 48) 0 a1) (a0 + 48) 1 a2) (a0 + 48) 2 ((u2 (u2 h (a0 + 48) 0 a1) (a0 + 48) 1 a2) (h (a0 + 1) (ww a1) - 1) 0)) (a0 + 48) 3 ((u2 (u2 (u2 h (a0 + 48) 0 a1) (a0 + 48) 1 a2) (a0 + 48) 2 ((u2 (u2 h (a0 + 48) 0 a1) (a0 + 48) 1 a2) (h (a0 + 1) (ww a1) - 1) 0)) (h (a0 + 1) (ww a1) - 1) 2)) (a0 + 48) 4 (zdiv ((u2 (u2 (u2 (u2 h (a0 + 48) 0 a1) (a0 + 48) 1 a2) (a0 + 48) 2 ((u2 (u2 h (a0 + 48) 0 a1) (a0 + 48) 1 a2) (h (a0 + 1) (ww a1) - 1) 0)) (a0 + 48) 3 ((u2 (u2 (u2 h (a0 + 48) 0 a1) (a0 + 48) 1 a2) (a0 + 48) 2 ((u2 (u2 h (a0 + 48) 0 a1) (a0 + 48) 1 a2) (h (a0 + 1) (ww a1) - 1) 0)) (h (a0 + 1) (ww a1) - 1) 2)) (a0 + 4 + (ww a1)) (ww a2)) 10)) a0 7) 10)) a0 11 - 1) <| (xo_warmth (u2 (u2 (u2 (u2 (u2 (u2 h (a0 + 48) 0 a1) (a0 + 48) 1 a2) (a0 + 48) 2 ((u2 (u2 h (a0 + 48) 0 a1) (a0 + 48) 1 a2) (h (a0 + 1) (ww a1) - 1) 0)) (a0 + 48) 3 ((u2 (u2 (u2 h (a0 + 48) 0 a1) (a0 + 48) 1 a2) (a0 + 48) 2 ((u2 (u2 h (a0 + 48) 0 a1) (a0 + 48) 1 a2) (h (a0 + 1) (ww a1) - 1) 0)) (h (a0 + 1) (ww a1) - 1) 2)) (a0 + 48) 4 (zdiv ((u2 (u2 (u2 (u2 h (a0 + 48) 0 a1) (a0 + 48) 1 a2) (a0 + 48) 2 ((u2 (u2 h (a0 + 48) 0 a1) (a0 + 48) 1 a2) (h (a0 + 1) (ww a1) - 1) 0)) (a0 + 48) 3 ((u2 (u2 (u2 h (a0 + 48) 0 a1) (a0 + 48) 1 a2) (a0 + 48) 2 ((u2 (u2 h (a0 + 48) 0 a1) (a0 + 48) 1 a2) (h (a0 + 1) (ww a1) - 1) 0)) (h (a0 + 1) (ww a1) - 1) 2)) (a0 + 4 + (ww a1)) (ww a2)) 10)) (a0 + 48) 5 (zrem ((u2 (u2 (u2 (u2 (u2 h (a0 + 48) 0 a1) (a0 + 48) 1 a2) (a0 + 48) 2 ((u2 (u2 h (a0 + 48) 0 a1) (a0 + 48) 1 a2) (h (a0 + 1) (ww a1) - 1) 0)) (a0 + 48) 3 ((u2 (u2 (u2 h (a0 + 48) 0 a1) (a0 + 48) 1 a2) (a0 + 48) 2 ((u2 (u2 h (a0 + 48) 0 a1) (a0 + 48) 1 a2) (h (a0 + 1) (ww a1) - 1) 0)) (h (a0 + 1) (ww a1) - 1) 2)) (a0 + 48) 4 (zdiv ((u2 (u2 (u2 (u2 h (a0 + 48) 0 a1) (a0 + 48) 1 a2) (a0 + 48) 2 ((u2 (u2 h (a0 + 48) 0 a1) (a0 + 48) 1 a2) (h (a0 + 1) (ww a1) - 1) 0)) (a0 + 48) 3 ((u2 (u2 (u2 h (a0 + 48) 0 a1) (a0 + 48) 1 a2) (a0 + 48) 2 ((u2 (u2 h (a0 + 48) 0 a1) (a0 + 48) 1 a2) (h (a0 + 1) (ww a1) - 1) 0)) (h (a0 + 1) (ww a1) - 1) 2)) (a0 + 4 + (ww a1)) (ww a2)) 10)) a0 7) 10)) ((u2 (u2 (u2 (u2 (u2 (u2 h (a0 + 48) 0 a1) (a0 + 48) 1 a2) (a0 + 48) 2 ((u2 (u2 h (a0 + 48) 0 a1) (a0 + 48) 1 a2) (h (a0 + 1) (ww a1) - 1) 0)) (a0 + 48) 3 ((u2 (u2 (u2 h (a0 + 48) 0 a1) (a0 + 48) 1 a2) (a0 + 48) 2 ((u2 (u2 h (a0 + 48) 0 a1) (a0 + 48) 1 a2) (h (a0 + 1) (ww a1) - 1) 0)) (h (a0 + 1) (ww a1) - 1) 2)) (a0 + 48) 4 (zdiv ((u2 (u2 (u2 (u2 h (a0 + 48) 0 a1) (a0 + 48) 1 a2) (a0 + 48) 2 ((u2 (u2 h (a0 + 48) 0 a1) (a0 + 48) 1 a2) (h (a0 + 1) (ww a1) - 1) 0)) (a0 + 48) 3 ((u2 (u2 (u2 h (a0 + 48) 0 a1) (a0 + 48) 1 a2) (a0 + 48) 2 ((u2 (u2 h (a0 + 48) 0 a1) (a0 + 48) 1 a2) (h (a0 + 1) (ww a1) - 1) 0)) (h (a0 + 1) (ww a1) - 1) 2)) (a0 + 4 + (ww a1)) (ww a2)) 10)) (a0 + 48) 5 (zrem ((u2 (u2 (u2 (u2 (u2 h (a0 + 48) 0 a1) (a0 + 48) 1 a2) (a0 + 48) 2 ((u2 (u2 h (a0 + 48) 0 a1) (a0 + 48) 1 a2) (h (a0 + 1) (ww a1) - 1) 0)) (a0 + 48) 3 ((u2 (u2 (u2 h (a0 + 48) 0 a1) (a0 + 48) 1 a2) (a0 + 48) 2 ((u2 (u2 h (a0 + 48) 0 a1) (a0 + 48) 1 a2) (h (a0 + 1) (ww a1) - 1) 0)) (h (a0 + 1) (ww a1) - 1) 2)) (a0 + 48) 4 (zdiv ((u2 (u2 (u2 (u2 h (a0 + 48) 0 a1) (a0 + 48) 1 a2) (a0 + 48) 2 ((u2 (u2 h (a0 + 48) 0 a1) (a0 + 48) 1 a2) (h (a0 + 1) (ww a1) - 1) 0)) (a0 + 48) 3 ((u2 (u2 (u2 h (a0 + 48) 0 a1) (a0 + 48) 1 a2) (a0 + 48) 2 ((u2 (u2 h (a0 + 48) 0 a1) (a0 + 48) 1 a2) (h (a0 + 1) (ww a1) - 1) 0)) (h (a0 + 1) (ww a1) - 1) 2)) (a0 + 4 + (ww a1)) (ww a2)) 10)) a0 7) 10)) a0 11 - 1) (a0 + 48)).bind fun q7 => (d_force S (u2 (u2 (u2 (u2 (u2 (u2 h (a0 + 48) 0 a1) (a0 + 48) 1 a2) (a0 + 48) 2 ((u2 (u2 h (a0 + 48) 0 a1) (a0 + 48) 1 a2) (h (a0 + 1) (ww a1) - 1) 0)) (a0 + 48) 3 ((u2 (u2 (u2 h (a0 + 48) 0 a1) (a0 + 48) 1 a2) (a0 + 48) 2 ((u2 (u2 h (a0 + 48) 0 a1) (a0 + 48) 1 a2) (h (a0 + 1) (ww a1) - 1) 0)) (h (a0 + 1) (ww a1) - 1) 2)) (a0 + 48) 4 (zdiv ((u2 (u2 (u2 (u2 h (a0 + 48) 0 a1) (a0 + 48) 1 a2) (a0 + 48) 2 ((u2 (u2 h (a0 + 48) 0 a1) (a0 + 48) 1 a2) (h (a0 + 1) (ww a1) - 1) 0)) (a0 + 48) 3 ((u2 (u2 (u2 h (a0 + 48) 0 a1) (a0 + 48) 1 a2) (a0 + 48) 2 ((u2 (u2 h (a0 + 48) 0 a1) (a0 + 48) 1 a2) (h (a0 + 1) (ww a1) - 1) 0)) (h (a0 + 1) (ww a1) - 1) 2)) (a0 + 4 + (ww a1)) (ww a2)) 10)) (a0 + 48) 5 (zrem ((u2 (u2 (u2 (u2 (u2 h (a0 + 48) 0 a1) (a0 + 48) 1 a2) (a0 + 48) 2 ((u2 (u2 h (a0 + 48) 0 a1) (a0 + 48) 1 a2) (h (a0 + 1) (ww a1) - 1) 0)) (a0 + 48) 3 ((u2 (u2 (u2 h (a0 + 48) 0 a1) (a0 + 48) 1 a2) (a0 + 48) 2 ((u2 (u2 h (a0 + 48) 0 a1) (a0 + 48) 1 a2) (h (a0 + 1) (ww a1) - 1) 0)) (h (a0 + 1) (ww a1) - 1) 2)) (a0 + 48) 4 (zdiv ((u2 (u2 (u2 (u2 h (a0 + 48) 0 a1) (a0 + 48) 1 a2) (a0 + 48) 2 ((u2 (u2 h (a0 + 48) 0 a1) (a0 + 48) 1 a2) (h (a0 + 1) (ww a1) - 1) 0)) (a0 + 48) 3 ((u2 (u2 (u2 h (a0 + 48) 0 a1) (a0 + 48) 1 a2) (a0 + 48) 2 ((u2 (u2 h (a0 + 48) 0 a1) (a0 + 48) 1 a2) (h (a0 + 1) (ww a1) - 1) 0)) (h (a0 + 1) (ww a1) - 1) 2)) (a0 + 4 + (ww a1)) (ww a2)) 10)) a0 7) 10)) (h (a0 + 1) (ww a1) - 1) a0 a2 ((h (a0 + 4 + (ww a1)) (ww a2)) + q7)).bind fun q8 => some (q8, u2 (u2 (u2 (u2 (u2 (u2 h (a0 + 48) 0 a1) (a0 + 48) 1 a2) (a0 + 48) 2 ((u2 (u2 h (a0 + 48) 0 a1) (a0 + 48) 1 a2) (h (a0 + 1) (ww a1) - 1) 0)) (a0 + 48) 3 ((u2 (u2 (u2 h (a0 + 48) 0 a1) (a0 + 48) 1 a2) (a0 + 48) 2 ((u2 (u2 h (a0 + 48) 0 a1) (a0 + 48) 1 a2) (h (a0 + 1) (ww a1) - 1) 0)) (h (a0 + 1) (ww a1) - 1) 2)) (a0 + 48) 4 (zdiv ((u2 (u2 (u2 (u2 h (a0 + 48) 0 a1) (a0 + 48) 1 a2) (a0 + 48) 2 ((u2 (u2 h (a0 + 48) 0 a1) (a0 + 48) 1 a2) (h (a0 + 1) (ww a1) - 1) 0)) (a0 + 48) 3 ((u2 (u2 (u2 h (a0 + 48) 0 a1) (a0 + 48) 1 a2) (a0 + 48) 2 ((u2 (u2 h (a0 + 48) 0 a1) (a0 + 48) 1 a2) (h (a0 + 1) (ww a1) - 1) 0)) (h (a0 + 1) (ww a1) - 1) 2)) (a0 + 4 + (ww a1)) (ww a2)) 10)) (a0 + 48) 5 (zrem ((u2 (u2 (u2 (u2 (u2 h (a0 + 48) 0 a1) (a0 + 48) 1 a2) (a0 + 48) 2 ((u2 (u2 h (a0 + 48) 0 a1) (a0 + 48) 1 a2) (h (a0 + 1) (ww a1) - 1) 0)) (a0 + 48) 3 ((u2 (u2 (u2 h (a0 + 48) 0 a1) (a0 + 48) 1 a2) (a0 + 48) 2 ((u2 (u2 h (a0 + 48) 0 a1) (a0 + 48) 1 a2) (h (a0 + 1) (ww a1) - 1) 0)) (h (a0 + 1) (ww a1) - 1) 2)) (a0 + 48) 4 (zdiv ((u2 (u2 (u2 (u2 h (a0 + 48) 0 a1) (a0 + 48) 1 a2) (a0 + 48) 2 ((u2 (u2 h (a0 + 48) 0 a1) (a0 + 48) 1 a2) (h (a0 + 1) (ww a1) - 1) 0)) (a0 + 48) 3 ((u2 (u2 (u2 h (a0 + 48) 0 a1) (a0 + 48) 1 a2) (a0 + 48) 2 ((u2 (u2 h (a0 + 48) 0 a1) (a0 + 48) 1 a2) (h (a0 + 1) (ww a1) - 1) 0)) (h (a0 + 1) (ww a1) - 1) 2)) (a0 + 4 + (ww a1)) (ww a2)) 10)) a0 7) 10)))
abbrev rm_xw_force : Room := { frames := 4, cells := 0, slots := 0, locals := 88 }
set_option maxHeartbeats 4000000 in
set_option maxRecDepth 100000 in
theorem t_xw_force {S : SS} (hF : Fx S) {h : HH} {a0 : Int} (ha0 : isW a0) {a1 : Int} {a2 : Int} {res : Int × HH} (hf : xw_force S h a0 a1 a2 = some res) : CM yX10_force cX10_force 5 (some Jvm.ClassFile.FieldType.int) 4 88 0 0 (fun bs => [zP bs a0, zI a1, zI a2]) h S (fun _ => some (zI res.1)) res.2 S := by
  refine CM.intro (own := RX10) (by decide) rfl (fun _ => Nat.le_of_ble_eq_true rfl) ?_
  intro D dT bs p l e s m args below meth c C
  show V D dT bs 5 p l e rm_xw_force s m args below meth c 0 0 _ h S 0 [(0, zP bs a0), (1, zI a1), (2, zI a2)] []
  unfold xw_force at hf
  refine r_aload_n (pc' := 1) (f4 := 0) (i := 0) C 0 rfl rfl dX10_force_0 rfl ?_
  refine q_getP (pc' := 4) (j := 0) C (KW hF ha0) fb_10_0 (by decide) wd_174 (Or.inl rfl) (FW0 hF ha0) (by have h1 := pW0 ha0; omega) dX10_force_1 rfl ?_
  refine r_iload_n (pc' := 5) (f4 := 1) (i := 1) C 1 rfl rfl dX10_force_4 rfl ?_
  obtain ⟨hi1, hf⟩ := ck_in hf
  obtain ⟨hH2, hf⟩ := ckh_in hf
  refine r_aaldD (pc' := 6) C (KW0 hF ha0) rfl hi1 dX10_force_5 rfl ?_
  refine r_nnD (isHb_pos hH2) ?_
  refine r_astore_n (pc' := 7) (f4 := 3) (i := 3) (L' := [(3, zP bs (h (a0 + 1) (ww a1) - 1)), (0, zP bs a0), (1, zI a1), (2, zI a2)]) C rfl (by decide) rfl dX10_force_6 rfl ?_
  refine r_aload_n (pc' := 8) (f4 := 0) (i := 0) C 1 rfl rfl dX10_force_7 rfl ?_
  refine q_getP (pc' := 11) (j := 2) C (KW hF ha0) fb_10_2 (by decide) wd_178 (Or.inl rfl) (FW2 hF ha0) (by have h1 := pW0 ha0; omega) dX10_force_8 rfl ?_
  refine r_iload_n (pc' := 12) (f4 := 1) (i := 1) C 2 rfl rfl dX10_force_11 rfl ?_
  obtain ⟨hi3, hf⟩ := ck_in hf
  refine r_aaldP (pc' := 13) (t := 3) C (KW2 hF ha0) (by decide) (by decide) (by decide) (by decide) rfl rfl hi3 (FWr2 hF ha0 hi3) (Int.add_nonneg (by have h1 := pW0 ha0; omega) (hi3).1) dX10_force_12 rfl ?_
  refine r_iload_n (pc' := 14) (f4 := 2) (i := 2) C 3 rfl rfl dX10_force_13 rfl ?_
  obtain ⟨hi, hf⟩ := ck_in hf
  refine r_iald (pc' := 15) C (KWr2 hF ha0 hi3) rfl hi dX10_force_14 rfl ?_
  refine r_istore (pc' := 17) (i := 4) (L' := [(4, zI (h (a0 + 4 + (ww a1)) (ww a2))), (3, zP bs (h (a0 + 1) (ww a1) - 1)), (0, zP bs a0), (1, zI a1), (2, zI a2)]) C (by decide) rfl dX10_force_15 rfl ?_
  refine r_aload_n (pc' := 18) (f4 := 0) (i := 0) C 2 rfl rfl dX10_force_17 rfl ?_
  refine r_getD (pc' := 21) C (KW hF ha0) uin_10 fb_10_11.2.2.2.2 wd_201 rfl dX10_force_18 rfl ?_
  refine r_ifnullD (pc' := 24) (tgt := 104) C hf dX10_force_21 (by decide) rfl (fun hf => ?_) (fun hf => ?_)
  · refine r_aload_n (pc' := 105) (f4 := 3) (i := 3) C 1 rfl rfl dX10_force_104 rfl ?_
    refine r_aload_n (pc' := 106) (f4 := 0) (i := 0) C 2 rfl rfl dX10_force_105 rfl ?_
    refine r_iload_n (pc' := 107) (f4 := 2) (i := 2) C 4 rfl rfl dX10_force_106 rfl ?_
    refine r_iload (pc' := 109) (i := 4) C 0 rfl dX10_force_107 rfl ?_
    obtain ⟨q4, hq4, hf⟩ := bind_in hf
    refine rd_RX10_115 (pc' := 112) C hF hH2 ha0 hq4 ⟨Nat.le_of_ble_eq_true rfl, Nat.le_of_ble_eq_true rfl⟩ ⟨Nat.le_of_ble_eq_true rfl, Nat.le_of_ble_eq_true rfl⟩ dX10_force_109 rfl ?_
    cases hf
    exact r_iret C dX10_force_112
  · refine r_aload_n (pc' := 25) (f4 := 0) (i := 0) C 2 rfl rfl dX10_force_24 rfl ?_
    refine q_getP (pc' := 28) (j := 12) C (KW hF ha0) fb_10_12 (by decide) wd_203 (Or.inl rfl) (FW12 hF ha0) (by have h1 := pW0 ha0; omega) dX10_force_25 rfl ?_
    refine r_iconst (pc' := 29) C dX10_force_28 rfl ?_
    refine r_iload_n (pc' := 30) (f4 := 1) (i := 1) C 3 rfl rfl dX10_force_29 rfl ?_
    refine r_iast (pc' := 31) C (KW12 hF ha0) ww_n0 (by decide) dX10_force_30 rfl ?_
    refine r_aload_n (pc' := 32) (f4 := 0) (i := 0) C 2 rfl rfl dX10_force_31 rfl ?_
    refine q_getP (pc' := 35) (j := 12) C (KW hF ha0) fb_10_12 (by decide) wd_203 (Or.inl rfl) (FW12 hF ha0) (by have h1 := pW0 ha0; omega) dX10_force_32 rfl ?_
    refine r_iconst (pc' := 36) C dX10_force_35 rfl ?_
    refine r_iload_n (pc' := 37) (f4 := 2) (i := 2) C 4 rfl rfl dX10_force_36 rfl ?_
    refine r_iast (pc' := 38) C (KW12 hF ha0) ww_n1 (by decide) dX10_force_37 rfl ?_
    refine r_aload_n (pc' := 39) (f4 := 0) (i := 0) C 2 rfl rfl dX10_force_38 rfl ?_
    refine q_getP (pc' := 42) (j := 12) C (KW hF ha0) fb_10_12 (by decide) wd_203 (Or.inl rfl) (FW12 hF ha0) (by have h1 := pW0 ha0; omega) dX10_force_39 rfl ?_
    refine r_iconst (pc' := 43) C dX10_force_42 rfl ?_
    refine r_aload_n (pc' := 44) (f4 := 3) (i := 3) C 1 rfl rfl dX10_force_43 rfl ?_
    refine q_getH (pc' := 47) (j := 0) C hH2 (by decide) wd_373 (Or.inl rfl) dX10_force_44 rfl ?_
    refine r_iast (pc' := 48) C (KW12 hF ha0) ww_n2 (by decide) dX10_force_47 rfl ?_
    refine r_aload_n (pc' := 49) (f4 := 0) (i := 0) C 2 rfl rfl dX10_force_48 rfl ?_
    refine q_getP (pc' := 52) (j := 12) C (KW hF ha0) fb_10_12 (by decide) wd_203 (Or.inl rfl) (FW12 hF ha0) (by have h1 := pW0 ha0; omega) dX10_force_49 rfl ?_
    refine r_iconst (pc' := 53) C dX10_force_52 rfl ?_
    refine r_aload_n (pc' := 54) (f4 := 3) (i := 3) C 1 rfl rfl dX10_force_53 rfl ?_
    refine q_getH (pc' := 57) (j := 2) C hH2 (by decide) wd_387 (Or.inl rfl) dX10_force_54 rfl ?_
    refine r_iast (pc' := 58) C (KW12 hF ha0) ww_n3 (by decide) dX10_force_57 rfl ?_
    refine r_aload_n (pc' := 59) (f4 := 0) (i := 0) C 2 rfl rfl dX10_force_58 rfl ?_
    refine q_getP (pc' := 62) (j := 12) C (KW hF ha0) fb_10_12 (by decide) wd_203 (Or.inl rfl) (FW12 hF ha0) (by have h1 := pW0 ha0; omega) dX10_force_59 rfl ?_
    refine r_iconst (pc' := 63) C dX10_force_62 rfl ?_
    refine r_aload_n (pc' := 64) (f4 := 0) (i := 0) C 2 rfl rfl dX10_force_63 rfl ?_
    refine q_getP (pc' := 67) (j := 2) C (KW hF ha0) fb_10_2 (by decide) wd_178 (Or.inl rfl) (FW2 hF ha0) (by have h1 := pW0 ha0; omega) dX10_force_64 rfl ?_
    refine r_iload_n (pc' := 68) (f4 := 1) (i := 1) C 3 rfl rfl dX10_force_67 rfl ?_
    obtain ⟨hi5, hf⟩ := ck_in hf
    refine r_aaldP (pc' := 69) (t := 3) C (KW2 hF ha0) (by decide) (by decide) (by decide) (by decide) rfl rfl hi5 (FWr2 hF ha0 hi5) (Int.add_nonneg (by have h1 := pW0 ha0; omega) (hi5).1) dX10_force_68 rfl ?_
    refine r_iload_n (pc' := 70) (f4 := 2) (i := 2) C 4 rfl rfl dX10_force_69 rfl ?_
    obtain ⟨hi, hf⟩ := ck_in hf
    refine r_iald (pc' := 71) C (KWr2 hF ha0 hi5) rfl hi dX10_force_70 rfl ?_
    refine r_bipush (pc' := 73) C rfl dX10_force_71 rfl ?_
    refine r_idiv (pc' := 74) C ww_n10 (by decide) dX10_force_73 rfl ?_
    refine r_iast (pc' := 75) C (KW12 hF ha0) ww_n4 (by decide) dX10_force_74 rfl ?_
    refine r_aload_n (pc' := 76) (f4 := 0) (i := 0) C 2 rfl rfl dX10_force_75 rfl ?_
    refine q_getP (pc' := 79) (j := 12) C (KW hF ha0) fb_10_12 (by decide) wd_203 (Or.inl rfl) (FW12 hF ha0) (by have h1 := pW0 ha0; omega) dX10_force_76 rfl ?_
    refine r_iconst (pc' := 80) C dX10_force_79 rfl ?_
    refine r_aload_n (pc' := 81) (f4 := 0) (i := 0) C 2 rfl rfl dX10_force_80 rfl ?_
    refine q_getI (pc' := 84) (j := 7) C (KW hF ha0) fb_10_7 wd_193 (Or.inl rfl) dX10_force_81 rfl ?_
    refine r_bipush (pc' := 86) C rfl dX10_force_84 rfl ?_
    refine r_irem (pc' := 87) C ww_n10 (by decide) dX10_force_86 rfl ?_
    refine r_iast (pc' := 88) C (KW12 hF ha0) ww_n5 (by decide) dX10_force_87 rfl ?_
    refine r_iload (pc' := 90) (i := 4) C 0 rfl dX10_force_88 rfl ?_
    refine r_aload_n (pc' := 91) (f4 := 0) (i := 0) C 2 rfl rfl dX10_force_90 rfl ?_
    obtain ⟨hO6, hf⟩ := ckO_in hf
    refine r_getD (pc' := 94) C (KW hF ha0) uin_10 fb_10_11.2.2.2.2 wd_201 rfl dX10_force_91 rfl ?_
    refine r_nnD (isO_pos hO6) ?_
    refine r_aload_n (pc' := 95) (f4 := 0) (i := 0) C 2 rfl rfl dX10_force_94 rfl ?_
    refine q_getP (pc' := 98) (j := 12) C (KW hF ha0) fb_10_12 (by decide) wd_203 (Or.inl rfl) (FW12 hF ha0) (by have h1 := pW0 ha0; omega) dX10_force_95 rfl ?_
    obtain ⟨q7, hq7, hf⟩ := bind_in hf
    refine q_callV (pc' := 101) C (t_xo_warmth hF hO6 (KW12 hF ha0) hq7) rfl (KO hF hO6) cl_5 wv_RX10_111 ⟨Nat.le_of_ble_eq_true rfl, Nat.le_of_ble_eq_true rfl⟩ rfl rfl (Nat.le_of_ble_eq_true rfl) dX10_force_98 rfl ⟨Nat.le_of_ble_eq_true rfl, Nat.le_of_ble_eq_true rfl⟩ ?_
    refine r_iadd (pc' := 102) C dX10_force_101 rfl ?_
    refine r_istore (pc' := 104) (i := 4) (L' := [(4, zI ((h (a0 + 4 + (ww a1)) (ww a2)) + q7)), (3, zP bs (h (a0 + 1) (ww a1) - 1)), (0, zP bs a0), (1, zI a1), (2, zI a2)]) C (by decide) rfl dX10_force_102 rfl ?_
    refine r_aload_n (pc' := 105) (f4 := 3) (i := 3) C 1 rfl rfl dX10_force_104 rfl ?_
    refine r_aload_n (pc' := 106) (f4 := 0) (i := 0) C 2 rfl rfl dX10_force_105 rfl ?_
    refine r_iload_n (pc' := 107) (f4 := 2) (i := 2) C 4 rfl rfl dX10_force_106 rfl ?_
    refine r_iload (pc' := 109) (i := 4) C 0 rfl dX10_force_107 rfl ?_
    obtain ⟨q8, hq8, hf⟩ := bind_in hf
    refine rd_RX10_115 (pc' := 112) C hF hH2 ha0 hq8 ⟨Nat.le_of_ble_eq_true rfl, Nat.le_of_ble_eq_true rfl⟩ ⟨Nat.le_of_ble_eq_true rfl, Nat.le_of_ble_eq_true rfl⟩ dX10_force_109 rfl ?_
    cases hf
    exact r_iret C dX10_force_112

/- WassailEnemies$World.bears(II)Z -/
def xw_bears (S : SS) (h : HH) (a0 : Int) (a1 : Int) (a2 : Int) : Option (Int × HH) :=
  ck (ww a1) 6 <| if ww (h (a0 + 2) (ww a1)) = 0 then ((xw_force S h a0 a1 a2).bind fun q1 => (xw_need q1.2 a0).bind fun q2 => if ww q1.1 < ww q2 then (some (0, q1.2)) else (some (1, q1.2))) else (some (0, h))
abbrev rm_xw_bears : Room := { frames := 5, cells := 0, slots := 0, locals := 112 }
set_option maxHeartbeats 4000000 in
set_option maxRecDepth 100000 in
theorem t_xw_bears {S : SS} (hF : Fx S) {h : HH} {a0 : Int} (ha0 : isW a0) {a1 : Int} {a2 : Int} {res : Int × HH} (hf : xw_bears S h a0 a1 a2 = some res) : CM yX10_bears cX10_bears 3 (some Jvm.ClassFile.FieldType.boolean) 5 112 0 0 (fun bs => [zP bs a0, zI a1, zI a2]) h S (fun _ => some (zI res.1)) res.2 S := by
  refine CM.intro (own := RX10) (by decide) rfl (fun _ => Nat.le_of_ble_eq_true rfl) ?_
  intro D dT bs p l e s m args below meth c C
  show V D dT bs 3 p l e rm_xw_bears s m args below meth c 0 0 _ h S 0 [(0, zP bs a0), (1, zI a1), (2, zI a2)] []
  unfold xw_bears at hf
  refine r_aload_n (pc' := 1) (f4 := 0) (i := 0) C 0 rfl rfl dX10_bears_0 rfl ?_
  refine q_getP (pc' := 4) (j := 1) C (KW hF ha0) fb_10_1 (by decide) wd_176 (Or.inl rfl) (FW1 hF ha0) (by have h1 := pW0 ha0; omega) dX10_bears_1 rfl ?_
  refine r_iload_n (pc' := 5) (f4 := 1) (i := 1) C 1 rfl rfl dX10_bears_4 rfl ?_
  obtain ⟨hi, hf⟩ := ck_in hf
  refine r_zald (pc' := 6) C (KW1 hF ha0) rfl hi dX10_bears_5 rfl ?_
  refine r_if_ne (pc' := 9) (tgt := 26) C rfl hf dX10_bears_6 (by decide) rfl (fun hf => ?_) (fun hf => ?_)
  · refine r_aload_n (pc' := 10) (f4 := 0) (i := 0) C 0 rfl rfl dX10_bears_9 rfl ?_
    refine r_iload_n (pc' := 11) (f4 := 1) (i := 1) C 1 rfl rfl dX10_bears_10 rfl ?_
    refine r_iload_n (pc' := 12) (f4 := 2) (i := 2) C 2 rfl rfl dX10_bears_11 rfl ?_
    obtain ⟨q1, hq1, hf⟩ := bind_in hf
    refine q_callV (pc' := 15) C (t_xw_force hF ha0 hq1) rfl (KW hF ha0) cl_10 wv_RX10_119 ⟨Nat.le_of_ble_eq_true rfl, Nat.le_of_ble_eq_true rfl⟩ rfl rfl (Nat.le_of_ble_eq_true rfl) dX10_bears_12 rfl ⟨Nat.le_of_ble_eq_true rfl, Nat.le_of_ble_eq_true rfl⟩ ?_
    refine r_aload_n (pc' := 16) (f4 := 0) (i := 0) C 0 rfl rfl dX10_bears_15 rfl ?_
    obtain ⟨q2, hq2, hf⟩ := bind_in hf
    refine q_callV (pc' := 19) C (t_xw_need hF ha0 hq2) rfl (KW hF ha0) cl_10 wv_RX10_122 ⟨Nat.le_of_ble_eq_true rfl, Nat.le_of_ble_eq_true rfl⟩ rfl rfl (Nat.le_of_ble_eq_true rfl) dX10_bears_16 rfl ⟨Nat.le_of_ble_eq_true rfl, Nat.le_of_ble_eq_true rfl⟩ ?_
    refine r_icmp_lt (pc' := 22) (tgt := 26) C rfl rfl hf dX10_bears_19 (by decide) rfl (fun hf => ?_) (fun hf => ?_)
    · refine r_iconst (pc' := 27) C dX10_bears_26 rfl ?_
      cases hf
      exact r_zret C (Or.inl rfl) dX10_bears_27
    · refine r_iconst (pc' := 23) C dX10_bears_22 rfl ?_
      refine r_goto (tgt := 27) C dX10_bears_23 (by decide) ?_
      cases hf
      exact r_zret C (Or.inr rfl) dX10_bears_27
  · refine r_iconst (pc' := 27) C dX10_bears_26 rfl ?_
    cases hf
    exact r_zret C (Or.inl rfl) dX10_bears_27

/- WassailEnemies$World.bearing()I -/
def xw_bearing_L4 (S : SS) (x0 : Int) : Nat → HH → Int → Int → Option (Int × HH)
  | 0, _, _, _ => none
  | n4 + 1, h, x1, x2 =>
    if ww x2 < 5 then (ck (ww x2) 5 <| if ww (xw_has h x0 (h (x0 + 18) (ww x2))) = 0 then (xw_bearing_L4 S x0 n4 h x1 (x2 + 1)) else (ck (ww x2) 5 <| (xw_bears S h x0 (h (x0 + 18) (ww x2)) x2).bind fun q1 => if ww q1.1 = 0 then (xw_bearing_L4 S x0 n4 q1.2 x1 (x2 + 1)) else (xw_bearing_L4 S x0 n4 q1.2 (zor x1 (zshl 1 x2)) (x2 + 1)))) else (some (x1, h))
def xw_bearing (S : SS) (h : HH) (a0 : Int) : Option (Int × HH) :=
  xw_bearing_L4 S a0 FU h 0 0
abbrev rm_xw_bearing : Room := { frames := 6, cells := 0, slots := 0, locals := 134 }
set_option maxHeartbeats 4000000 in
set_option maxRecDepth 100000 in
theorem w_xw_bearing_L4 (hF : Fx S) (C : Cx D dT bs RX10 cX10_bearing 3 (some Jvm.ClassFile.FieldType.int) p s m args meth c) (x0 : Int) (hx0 : isW x0) {res : (Int × HH)} :
    ∀ (n : Nat) (h : HH) (x1 : Int) (x2 : Int), xw_bearing_L4 S x0 n h x1 x2 = some res → V D dT bs 3 p l e rm_xw_bearing s m args below meth c 0 0 (MQ below (QQ D dT bs (some (zI res.1)) res.2 S) args s 0 0 (AA bs)) h S 4 [(0, zP bs x0), (1, zI x1), (2, zI x2)] [] := by
  intro n
  induction n with
  | zero => intro h x1 x2 hf; simp [xw_bearing_L4] at hf
  | succ n4 ih4 =>
    intro h x1 x2 hf
    rw [xw_bearing_L4] at hf
    refine r_iload_n (pc' := 5) (f4 := 2) (i := 2) C 2 rfl rfl dX10_bearing_4 rfl ?_
    refine r_iconst (pc' := 6) C dX10_bearing_5 rfl ?_
    refine r_icmp_ge (pc' := 9) (tgt := 48) C rfl ww_n5 hf dX10_bearing_6 (by decide) rfl (fun hf => ?_) (fun hf => ?_)
    · refine r_aload_n (pc' := 10) (f4 := 0) (i := 0) C 0 rfl rfl dX10_bearing_9 rfl ?_
      refine r_aload_n (pc' := 11) (f4 := 0) (i := 0) C 0 rfl rfl dX10_bearing_10 rfl ?_
      refine q_getP (pc' := 14) (j := 6) C (KW hF hx0) fb_10_6 (by decide) wd_188 (Or.inl rfl) (FW6 hF hx0) (by have h1 := pW0 hx0; omega) dX10_bearing_11 rfl ?_
      refine r_iload_n (pc' := 15) (f4 := 2) (i := 2) C 2 rfl rfl dX10_bearing_14 rfl ?_
      obtain ⟨hi, hf⟩ := ck_in hf
      refine r_iald (pc' := 16) C (KW6 hF hx0) rfl hi dX10_bearing_15 rfl ?_
      refine q_callV (pc' := 19) C (t_xw_has hF hx0) rfl (KW hF hx0) cl_10 wv_RX10_124 ⟨Nat.le_of_ble_eq_true rfl, Nat.le_of_ble_eq_true rfl⟩ rfl rfl (Nat.le_of_ble_eq_true rfl) dX10_bearing_16 rfl ⟨Nat.le_of_ble_eq_true rfl, Nat.le_of_ble_eq_true rfl⟩ ?_
      refine r_if_eq (pc' := 22) (tgt := 42) C rfl hf dX10_bearing_19 (by decide) rfl (fun hf => ?_) (fun hf => ?_)
      · refine r_iinc (pc' := 45) (i := 2) (L' := [(2, zI (x2 + 1)), (0, zP bs x0), (1, zI x1)]) C 2 rfl (by decide) rfl dX10_bearing_42 rfl ?_
        refine r_goto (tgt := 4) C dX10_bearing_45 (by decide) ?_
        refine V.sub (L' := [(0, zP bs x0), (1, zI x1), (2, zI (x2 + 1))]) [1, 2, 0] rfl ?_
        exact ih4 _ _ _ hf
      · refine r_aload_n (pc' := 23) (f4 := 0) (i := 0) C 0 rfl rfl dX10_bearing_22 rfl ?_
        refine r_aload_n (pc' := 24) (f4 := 0) (i := 0) C 0 rfl rfl dX10_bearing_23 rfl ?_
        refine q_getP (pc' := 27) (j := 6) C (KW hF hx0) fb_10_6 (by decide) wd_188 (Or.inl rfl) (FW6 hF hx0) (by have h1 := pW0 hx0; omega) dX10_bearing_24 rfl ?_
        refine r_iload_n (pc' := 28) (f4 := 2) (i := 2) C 2 rfl rfl dX10_bearing_27 rfl ?_
        obtain ⟨hi, hf⟩ := ck_in hf
        refine r_iald (pc' := 29) C (KW6 hF hx0) rfl hi dX10_bearing_28 rfl ?_
        refine r_iload_n (pc' := 30) (f4 := 2) (i := 2) C 2 rfl rfl dX10_bearing_29 rfl ?_
        obtain ⟨q1, hq1, hf⟩ := bind_in hf
        refine q_callV (pc' := 33) C (t_xw_bears hF hx0 hq1) rfl (KW hF hx0) cl_10 wv_RX10_128 ⟨Nat.le_of_ble_eq_true rfl, Nat.le_of_ble_eq_true rfl⟩ rfl rfl (Nat.le_of_ble_eq_true rfl) dX10_bearing_30 rfl ⟨Nat.le_of_ble_eq_true rfl, Nat.le_of_ble_eq_true rfl⟩ ?_
        refine r_if_eq (pc' := 36) (tgt := 42) C rfl hf dX10_bearing_33 (by decide) rfl (fun hf => ?_) (fun hf => ?_)
        · refine r_iinc (pc' := 45) (i := 2) (L' := [(2, zI (x2 + 1)), (0, zP bs x0), (1, zI x1)]) C 2 rfl (by decide) rfl dX10_bearing_42 rfl ?_
          refine r_goto (tgt := 4) C dX10_bearing_45 (by decide) ?_
          refine V.sub (L' := [(0, zP bs x0), (1, zI x1), (2, zI (x2 + 1))]) [1, 2, 0] rfl ?_
          exact ih4 _ _ _ hf
        · refine r_iload_n (pc' := 37) (f4 := 1) (i := 1) C 1 rfl rfl dX10_bearing_36 rfl ?_
          refine r_iconst (pc' := 38) C dX10_bearing_37 rfl ?_
          refine r_iload_n (pc' := 39) (f4 := 2) (i := 2) C 2 rfl rfl dX10_bearing_38 rfl ?_
          refine r_ishl (pc' := 40) C dX10_bearing_39 rfl ?_
          refine r_ior (pc' := 41) C dX10_bearing_40 rfl ?_
          refine r_istore_n (pc' := 42) (f4 := 1) (i := 1) (L' := [(1, zI (zor x1 (zshl 1 x2))), (0, zP bs x0), (2, zI x2)]) C rfl (by decide) rfl dX10_bearing_41 rfl ?_
          refine r_iinc (pc' := 45) (i := 2) (L' := [(2, zI (x2 + 1)), (1, zI (zor x1 (zshl 1 x2))), (0, zP bs x0)]) C 2 rfl (by decide) rfl dX10_bearing_42 rfl ?_
          refine r_goto (tgt := 4) C dX10_bearing_45 (by decide) ?_
          refine V.sub (L' := [(0, zP bs x0), (1, zI (zor x1 (zshl 1 x2))), (2, zI (x2 + 1))]) [2, 1, 0] rfl ?_
          exact ih4 _ _ _ hf
    · refine r_iload_n (pc' := 49) (f4 := 1) (i := 1) C 1 rfl rfl dX10_bearing_48 rfl ?_
      cases hf
      exact r_iret C dX10_bearing_49
set_option maxHeartbeats 4000000 in
set_option maxRecDepth 100000 in
theorem t_xw_bearing {S : SS} (hF : Fx S) {h : HH} {a0 : Int} (ha0 : isW a0) {res : Int × HH} (hf : xw_bearing S h a0 = some res) : CM yX10_bearing cX10_bearing 3 (some Jvm.ClassFile.FieldType.int) 6 134 0 0 (fun bs => [zP bs a0]) h S (fun _ => some (zI res.1)) res.2 S := by
  refine CM.intro (own := RX10) (by decide) rfl (fun _ => Nat.le_of_ble_eq_true rfl) ?_
  intro D dT bs p l e s m args below meth c C
  show V D dT bs 3 p l e rm_xw_bearing s m args below meth c 0 0 _ h S 0 [(0, zP bs a0)] []
  unfold xw_bearing at hf
  refine r_iconst (pc' := 1) C dX10_bearing_0 rfl ?_
  refine r_istore_n (pc' := 2) (f4 := 1) (i := 1) (L' := [(1, zI 0), (0, zP bs a0)]) C rfl (by decide) rfl dX10_bearing_1 rfl ?_
  refine r_iconst (pc' := 3) C dX10_bearing_2 rfl ?_
  refine r_istore_n (pc' := 4) (f4 := 2) (i := 2) (L' := [(2, zI 0), (1, zI 0), (0, zP bs a0)]) C rfl (by decide) rfl dX10_bearing_3 rfl ?_
  refine V.sub (L' := [(0, zP bs a0), (1, zI 0), (2, zI 0)]) [2, 1, 0] rfl ?_
  refine w_xw_bearing_L4 hF C _ ha0 _ _ _ _ hf

/- WassailEnemies$World.goAt(II)Z -/
def xw_goAt (S : SS) (h : HH) (a0 : Int) (a1 : Int) (a2 : Int) : Option (Int × HH) :=
  (xw_bears S h a0 a2 a1).bind fun q1 => if ww q1.1 = 0 then (some (0, q1.2)) else (ck (ww a1) 5 <| ck (ww a1) 5 <| ck (ww a2) 6 <| ck (ww a2) 6 <| ck (ww a1) 5 <| (xw_wear (u2 q1.2 (a0 + 17) (ww a1) ((q1.2 (a0 + 17) (ww a1)) + 1)) a0).bind fun q4 => ck (ww a1) 5 <| some (1, u2 (u2 q1.2 (a0 + 17) (ww a1) ((q1.2 (a0 + 17) (ww a1)) + 1)) (a0 + 4 + (ww a2)) (ww a1) (zmax 0 (((u2 q1.2 (a0 + 17) (ww a1) ((q1.2 (a0 + 17) (ww a1)) + 1)) (a0 + 4 + (ww a2)) (ww a1)) - q4))))
abbrev rm_xw_goAt : Room := { frames := 6, cells := 0, slots := 0, locals := 134 }
set_option maxHeartbeats 4000000 in
set_option maxRecDepth 100000 in
theorem t_xw_goAt {S : SS} (hF : Fx S) {h : HH} {a0 : Int} (ha0 : isW a0) {a1 : Int} {a2 : Int} {res : Int × HH} (hf : xw_goAt S h a0 a1 a2 = some res) : CM yX10_goAt cX10_goAt 3 (some Jvm.ClassFile.FieldType.boolean) 6 134 0 0 (fun bs => [zP bs a0, zI a1, zI a2]) h S (fun _ => some (zI res.1)) res.2 S := by
  refine CM.intro (own := RX10) (by decide) rfl (fun _ => Nat.le_of_ble_eq_true rfl) ?_
  intro D dT bs p l e s m args below meth c C
  show V D dT bs 3 p l e rm_xw_goAt s m args below meth c 0 0 _ h S 0 [(0, zP bs a0), (1, zI a1), (2, zI a2)] []
  unfold xw_goAt at hf
  refine r_aload_n (pc' := 1) (f4 := 0) (i := 0) C 0 rfl rfl dX10_goAt_0 rfl ?_
  refine r_iload_n (pc' := 2) (f4 := 2) (i := 2) C 2 rfl rfl dX10_goAt_1 rfl ?_
  refine r_iload_n (pc' := 3) (f4 := 1) (i := 1) C 1 rfl rfl dX10_goAt_2 rfl ?_
  obtain ⟨q1, hq1, hf⟩ := bind_in hf
  refine q_callV (pc' := 6) C (t_xw_bears hF ha0 hq1) rfl (KW hF ha0) cl_10 wv_RX10_128 ⟨Nat.le_of_ble_eq_true rfl, Nat.le_of_ble_eq_true rfl⟩ rfl rfl (Nat.le_of_ble_eq_true rfl) dX10_goAt_3 rfl ⟨Nat.le_of_ble_eq_true rfl, Nat.le_of_ble_eq_true rfl⟩ ?_
  refine r_if_ne (pc' := 9) (tgt := 11) C rfl hf dX10_goAt_6 (by decide) rfl (fun hf => ?_) (fun hf => ?_)
  · refine r_iconst (pc' := 10) C dX10_goAt_9 rfl ?_
    cases hf
    exact r_zret C (Or.inl rfl) dX10_goAt_10
  · refine r_aload_n (pc' := 12) (f4 := 0) (i := 0) C 0 rfl rfl dX10_goAt_11 rfl ?_
    refine q_getP (pc' := 15) (j := 5) C (KW hF ha0) fb_10_5 (by decide) wd_186 (Or.inl rfl) (FW5 hF ha0) (by have h1 := pW0 ha0; omega) dX10_goAt_12 rfl ?_
    refine r_iload_n (pc' := 16) (f4 := 1) (i := 1) C 1 rfl rfl dX10_goAt_15 rfl ?_
    refine r_dup2 (pc' := 17) C rfl rfl dX10_goAt_16 rfl ?_
    obtain ⟨hi, hf⟩ := ck_in hf
    refine r_iald (pc' := 18) C (KW5 hF ha0) rfl hi dX10_goAt_17 rfl ?_
    refine r_iconst (pc' := 19) C dX10_goAt_18 rfl ?_
    refine r_iadd (pc' := 20) C dX10_goAt_19 rfl ?_
    obtain ⟨hi, hf⟩ := ck_in hf
    refine r_iast (pc' := 21) C (KW5 hF ha0) rfl hi dX10_goAt_20 rfl ?_
    refine r_aload_n (pc' := 22) (f4 := 0) (i := 0) C 0 rfl rfl dX10_goAt_21 rfl ?_
    refine q_getP (pc' := 25) (j := 2) C (KW hF ha0) fb_10_2 (by decide) wd_178 (Or.inl rfl) (FW2 hF ha0) (by have h1 := pW0 ha0; omega) dX10_goAt_22 rfl ?_
    refine r_iload_n (pc' := 26) (f4 := 2) (i := 2) C 2 rfl rfl dX10_goAt_25 rfl ?_
    obtain ⟨hi2, hf⟩ := ck_in hf
    refine r_aaldP (pc' := 27) (t := 3) C (KW2 hF ha0) (by decide) (by decide) (by decide) (by decide) rfl rfl hi2 (FWr2 hF ha0 hi2) (Int.add_nonneg (by have h1 := pW0 ha0; omega) (hi2).1) dX10_goAt_26 rfl ?_
    refine r_iload_n (pc' := 28) (f4 := 1) (i := 1) C 1 rfl rfl dX10_goAt_27 rfl ?_
    refine r_iconst (pc' := 29) C dX10_goAt_28 rfl ?_
    refine r_aload_n (pc' := 30) (f4 := 0) (i := 0) C 0 rfl rfl dX10_goAt_29 rfl ?_
    refine q_getP (pc' := 33) (j := 2) C (KW hF ha0) fb_10_2 (by decide) wd_178 (Or.inl rfl) (FW2 hF ha0) (by have h1 := pW0 ha0; omega) dX10_goAt_30 rfl ?_
    refine r_iload_n (pc' := 34) (f4 := 2) (i := 2) C 2 rfl rfl dX10_goAt_33 rfl ?_
    obtain ⟨hi3, hf⟩ := ck_in hf
    refine r_aaldP (pc' := 35) (t := 3) C (KW2 hF ha0) (by decide) (by decide) (by decide) (by decide) rfl rfl hi3 (FWr2 hF ha0 hi3) (Int.add_nonneg (by have h1 := pW0 ha0; omega) (hi3).1) dX10_goAt_34 rfl ?_
    refine r_iload_n (pc' := 36) (f4 := 1) (i := 1) C 1 rfl rfl dX10_goAt_35 rfl ?_
    obtain ⟨hi, hf⟩ := ck_in hf
    refine r_iald (pc' := 37) C (KWr2 hF ha0 hi3) rfl hi dX10_goAt_36 rfl ?_
    refine r_aload_n (pc' := 38) (f4 := 0) (i := 0) C 0 rfl rfl dX10_goAt_37 rfl ?_
    obtain ⟨q4, hq4, hf⟩ := bind_in hf
    refine q_callV (pc' := 41) C (t_xw_wear hF ha0 hq4) rfl (KW hF ha0) cl_10 wv_RX10_135 ⟨Nat.le_of_ble_eq_true rfl, Nat.le_of_ble_eq_true rfl⟩ rfl rfl (Nat.le_of_ble_eq_true rfl) dX10_goAt_38 rfl ⟨Nat.le_of_ble_eq_true rfl, Nat.le_of_ble_eq_true rfl⟩ ?_
    refine r_isub (pc' := 42) C dX10_goAt_41 rfl ?_
    refine r_max (pc' := 45) C wd_567 wd_568 wd_114 wd_569 (Nat.le_of_ble_eq_true rfl) (Nat.le_of_ble_eq_true rfl) ⟨Nat.le_of_ble_eq_true rfl, Nat.le_of_ble_eq_true rfl⟩ dX10_goAt_42 rfl ?_
    obtain ⟨hi, hf⟩ := ck_in hf
    refine r_iast (pc' := 46) C (KWr2 hF ha0 hi2) rfl hi dX10_goAt_45 rfl ?_
    refine r_iconst (pc' := 47) C dX10_goAt_46 rfl ?_
    cases hf
    exact r_zret C (Or.inr rfl) dX10_goAt_47

/- WassailEnemies$World.goYears(I)V -/
def xw_goYears_L9 (S : SS) (x0 : Int) (x1 : Int) (x2 : Int) (k45 : HH → Option HH) : Nat → HH → Int → Option HH
  | 0, _, _ => none
  | n9 + 1, h, x3 =>
    if ww x3 < 5 then (ck (ww x3) 5 <| if ww (xw_has h x0 (h (x0 + 18) (ww x3))) = 0 then (xw_goYears_L9 S x0 x1 x2 k45 n9 h (x3 + 1)) else (ck (ww x3) 5 <| (xw_goAt S h x0 x3 (h (x0 + 18) (ww x3))).bind fun q1 => xw_goYears_L9 S x0 x1 x2 k45 n9 q1.2 (x3 + 1))) else (k45 h)
def xw_goYears_L2 (S : SS) (x0 : Int) (x1 : Int) : Nat → HH → Int → Option HH
  | 0, _, _ => none
  | n2 + 1, h, x2 =>
    if ww x2 < ww x1 then (xw_goYears_L9 S x0 x1 x2 (fun h2 => xw_goYears_L2 S x0 x1 n2 (u2 h2 x0 7 ((h2 x0 7) + 1)) (x2 + 1)) FU h 0) else (some h)
def xw_goYears (S : SS) (h : HH) (a0 : Int) (a1 : Int) : Option HH :=
  xw_goYears_L2 S a0 a1 FU h 0
abbrev rm_xw_goYears : Room := { frames := 7, cells := 0, slots := 0, locals := 156 }
set_option maxHeartbeats 4000000 in
set_option maxRecDepth 100000 in
theorem w_xw_goYears_L9 (hF : Fx S) (C : Cx D dT bs RX10 cX10_goYears 4 (Option.none : Option Jvm.ClassFile.FieldType) p s m args meth c) (x0 : Int) (hx0 : isW x0) (x1 : Int) (x2 : Int) (k45 : HH → Option HH) {res : HH} (hk45 : ∀ (h : HH), k45 h = some res → V D dT bs 4 p l e rm_xw_goYears s m args below meth c 0 0 (MQ below (QQ D dT bs none res S) args s 0 0 (AA bs)) h S 45 [(0, zP bs x0), (1, zI x1), (2, zI x2)] []) :
    ∀ (n : Nat) (h : HH) (x3 : Int), xw_goYears_L9 S x0 x1 x2 k45 n h x3 = some res → V D dT bs 4 p l e rm_xw_goYears s m args below meth c 0 0 (MQ below (QQ D dT bs none res S) args s 0 0 (AA bs)) h S 9 [(0, zP bs x0), (1, zI x1), (2, zI x2), (3, zI x3)] [] := by
  intro n
  induction n with
  | zero => intro h x3 hf; simp [xw_goYears_L9] at hf
  | succ n9 ih9 =>
    intro h x3 hf
    rw [xw_goYears_L9] at hf
    refine r_iload_n (pc' := 10) (f4 := 3) (i := 3) C 3 rfl rfl dX10_goYears_9 rfl ?_
    refine r_iconst (pc' := 11) C dX10_goYears_10 rfl ?_
    refine r_icmp_ge (pc' := 14) (tgt := 45) C rfl ww_n5 hf dX10_goYears_11 (by decide) rfl (fun hf => ?_) (fun hf => ?_)
    · refine r_aload_n (pc' := 15) (f4 := 0) (i := 0) C 0 rfl rfl dX10_goYears_14 rfl ?_
      refine r_aload_n (pc' := 16) (f4 := 0) (i := 0) C 0 rfl rfl dX10_goYears_15 rfl ?_
      refine q_getP (pc' := 19) (j := 6) C (KW hF hx0) fb_10_6 (by decide) wd_188 (Or.inl rfl) (FW6 hF hx0) (by have h1 := pW0 hx0; omega) dX10_goYears_16 rfl ?_
      refine r_iload_n (pc' := 20) (f4 := 3) (i := 3) C 3 rfl rfl dX10_goYears_19 rfl ?_
      obtain ⟨hi, hf⟩ := ck_in hf
      refine r_iald (pc' := 21) C (KW6 hF hx0) rfl hi dX10_goYears_20 rfl ?_
      refine q_callV (pc' := 24) C (t_xw_has hF hx0) rfl (KW hF hx0) cl_10 wv_RX10_124 ⟨Nat.le_of_ble_eq_true rfl, Nat.le_of_ble_eq_true rfl⟩ rfl rfl (Nat.le_of_ble_eq_true rfl) dX10_goYears_21 rfl ⟨Nat.le_of_ble_eq_true rfl, Nat.le_of_ble_eq_true rfl⟩ ?_
      refine r_if_eq (pc' := 27) (tgt := 39) C rfl hf dX10_goYears_24 (by decide) rfl (fun hf => ?_) (fun hf => ?_)
      · refine r_iinc (pc' := 42) (i := 3) (L' := [(3, zI (x3 + 1)), (0, zP bs x0), (1, zI x1), (2, zI x2)]) C 3 rfl (by decide) rfl dX10_goYears_39 rfl ?_
        refine r_goto (tgt := 9) C dX10_goYears_42 (by decide) ?_
        refine V.sub (L' := [(0, zP bs x0), (1, zI x1), (2, zI x2), (3, zI (x3 + 1))]) [1, 2, 3, 0] rfl ?_
        exact ih9 _ _ hf
      · refine r_aload_n (pc' := 28) (f4 := 0) (i := 0) C 0 rfl rfl dX10_goYears_27 rfl ?_
        refine r_iload_n (pc' := 29) (f4 := 3) (i := 3) C 3 rfl rfl dX10_goYears_28 rfl ?_
        refine r_aload_n (pc' := 30) (f4 := 0) (i := 0) C 0 rfl rfl dX10_goYears_29 rfl ?_
        refine q_getP (pc' := 33) (j := 6) C (KW hF hx0) fb_10_6 (by decide) wd_188 (Or.inl rfl) (FW6 hF hx0) (by have h1 := pW0 hx0; omega) dX10_goYears_30 rfl ?_
        refine r_iload_n (pc' := 34) (f4 := 3) (i := 3) C 3 rfl rfl dX10_goYears_33 rfl ?_
        obtain ⟨hi, hf⟩ := ck_in hf
        refine r_iald (pc' := 35) C (KW6 hF hx0) rfl hi dX10_goYears_34 rfl ?_
        obtain ⟨q1, hq1, hf⟩ := bind_in hf
        refine q_callV (pc' := 38) C (t_xw_goAt hF hx0 hq1) rfl (KW hF hx0) cl_10 wv_RX10_132 ⟨Nat.le_of_ble_eq_true rfl, Nat.le_of_ble_eq_true rfl⟩ rfl rfl (Nat.le_of_ble_eq_true rfl) dX10_goYears_35 rfl ⟨Nat.le_of_ble_eq_true rfl, Nat.le_of_ble_eq_true rfl⟩ ?_
        refine r_pop (pc' := 39) C rfl dX10_goYears_38 rfl ?_
        refine r_iinc (pc' := 42) (i := 3) (L' := [(3, zI (x3 + 1)), (0, zP bs x0), (1, zI x1), (2, zI x2)]) C 3 rfl (by decide) rfl dX10_goYears_39 rfl ?_
        refine r_goto (tgt := 9) C dX10_goYears_42 (by decide) ?_
        refine V.sub (L' := [(0, zP bs x0), (1, zI x1), (2, zI x2), (3, zI (x3 + 1))]) [1, 2, 3, 0] rfl ?_
        exact ih9 _ _ hf
    · refine V.sub (L' := [(0, zP bs x0), (1, zI x1), (2, zI x2)]) [0, 1, 2] rfl ?_
      exact hk45 _ hf
set_option maxHeartbeats 4000000 in
set_option maxRecDepth 100000 in
theorem w_xw_goYears_L2 (hF : Fx S) (C : Cx D dT bs RX10 cX10_goYears 4 (Option.none : Option Jvm.ClassFile.FieldType) p s m args meth c) (x0 : Int) (hx0 : isW x0) (x1 : Int) {res : HH} :
    ∀ (n : Nat) (h : HH) (x2 : Int), xw_goYears_L2 S x0 x1 n h x2 = some res → V D dT bs 4 p l e rm_xw_goYears s m args below meth c 0 0 (MQ below (QQ D dT bs none res S) args s 0 0 (AA bs)) h S 2 [(0, zP bs x0), (1, zI x1), (2, zI x2)] [] := by
  intro n
  induction n with
  | zero => intro h x2 hf; simp [xw_goYears_L2] at hf
  | succ n2 ih2 =>
    intro h x2 hf
    rw [xw_goYears_L2] at hf
    refine r_iload_n (pc' := 3) (f4 := 2) (i := 2) C 2 rfl rfl dX10_goYears_2 rfl ?_
    refine r_iload_n (pc' := 4) (f4 := 1) (i := 1) C 1 rfl rfl dX10_goYears_3 rfl ?_
    refine r_icmp_ge (pc' := 7) (tgt := 61) C rfl rfl hf dX10_goYears_4 (by decide) rfl (fun hf => ?_) (fun hf => ?_)
    · refine r_iconst (pc' := 8) C dX10_goYears_7 rfl ?_
      refine r_istore_n (pc' := 9) (f4 := 3) (i := 3) (L' := [(3, zI 0), (0, zP bs x0), (1, zI x1), (2, zI x2)]) C rfl (by decide) rfl dX10_goYears_8 rfl ?_
      refine V.sub (L' := [(0, zP bs x0), (1, zI x1), (2, zI x2), (3, zI 0)]) [1, 2, 3, 0] rfl ?_
      refine w_xw_goYears_L9 hF C _ hx0 _ _ _ ?_ _ _ _ hf
      intro h2 hf
      refine r_aload_n (pc' := 46) (f4 := 0) (i := 0) C 0 rfl rfl dX10_goYears_45 rfl ?_
      refine r_dup (pc' := 47) C rfl dX10_goYears_46 rfl ?_
      refine q_getI (pc' := 50) (j := 7) C (KW hF hx0) fb_10_7 wd_193 (Or.inl rfl) dX10_goYears_47 rfl ?_
      refine r_iconst (pc' := 51) C dX10_goYears_50 rfl ?_
      refine r_iadd (pc' := 52) C dX10_goYears_51 rfl ?_
      refine q_putI (pc' := 55) (j := 7) C (KW hF hx0) fb_10_7 fp_10_7 wd_193 (Or.inl rfl) (Or.inl rfl) rfl rfl dX10_goYears_52 rfl ?_
      refine r_iinc (pc' := 58) (i := 2) (L' := [(2, zI (x2 + 1)), (0, zP bs x0), (1, zI x1)]) C 2 rfl (by decide) rfl dX10_goYears_55 rfl ?_
      refine r_goto (tgt := 2) C dX10_goYears_58 (by decide) ?_
      refine V.sub (L' := [(0, zP bs x0), (1, zI x1), (2, zI (x2 + 1))]) [1, 2, 0] rfl ?_
      exact ih2 _ _ hf
    · cases hf
      exact r_vret C dX10_goYears_61
set_option maxHeartbeats 4000000 in
set_option maxRecDepth 100000 in
theorem t_xw_goYears {S : SS} (hF : Fx S) {h : HH} {a0 : Int} (ha0 : isW a0) {a1 : Int} {res : HH} (hf : xw_goYears S h a0 a1 = some res) : CM yX10_goYears cX10_goYears 4 (Option.none : Option Jvm.ClassFile.FieldType) 7 156 0 0 (fun bs => [zP bs a0, zI a1]) h S (fun _ => none) res S := by
  refine CM.intro (own := RX10) (by decide) rfl (fun _ => Nat.le_of_ble_eq_true rfl) ?_
  intro D dT bs p l e s m args below meth c C
  show V D dT bs 4 p l e rm_xw_goYears s m args below meth c 0 0 _ h S 0 [(0, zP bs a0), (1, zI a1)] []
  unfold xw_goYears at hf
  refine r_iconst (pc' := 1) C dX10_goYears_0 rfl ?_
  refine r_istore_n (pc' := 2) (f4 := 2) (i := 2) (L' := [(2, zI 0), (0, zP bs a0), (1, zI a1)]) C rfl (by decide) rfl dX10_goYears_1 rfl ?_
  refine V.sub (L' := [(0, zP bs a0), (1, zI a1), (2, zI 0)]) [1, 2, 0] rfl ?_
  refine w_xw_goYears_L2 hF C _ ha0 _ _ _ _ hf

/- WassailEnemies$World.goPlanned(II)V -/
def xw_goPlanned (S : SS) (h : HH) (a0 : Int) (a1 : Int) (a2 : Int) : Option HH :=
  if ww a1 = 1 then (ck (ww a2) 6 <| some (u2 h (a0 + 2) (ww a2) 1)) else (if ww a1 = 2 then (ck (ww a2) 6 <| some (u2 h (a0 + 2) (ww a2) 0)) else (if ww a1 = 3 then (if ww (zrem a2 10) = 9 then ((xw_giveLeader h a0 (zdiv a2 10) (-5)).bind fun q1 => some q1) else ((xw_giveLeader h a0 (zdiv a2 10) (zrem a2 10)).bind fun q2 => some q2)) else ((xw_goYears S h a0 1).bind fun q3 => some q3)))
abbrev rm_xw_goPlanned : Room := { frames := 8, cells := 0, slots := 0, locals := 179 }
set_option maxHeartbeats 4000000 in
set_option maxRecDepth 100000 in
theorem t_xw_goPlanned {S : SS} (hF : Fx S) {h : HH} {a0 : Int} (ha0 : isW a0) {a1 : Int} {a2 : Int} {res : HH} (hf : xw_goPlanned S h a0 a1 a2 = some res) : CM yX10_goPlanned cX10_goPlanned 3 (Option.none : Option Jvm.ClassFile.FieldType) 8 179 0 0 (fun bs => [zP bs a0, zI a1, zI a2]) h S (fun _ => none) res S := by
  refine CM.intro (own := RX10) (by decide) rfl (fun _ => Nat.le_of_ble_eq_true rfl) ?_
  intro D dT bs p l e s m args below meth c C
  show V D dT bs 3 p l e rm_xw_goPlanned s m args below meth c 0 0 _ h S 0 [(0, zP bs a0), (1, zI a1), (2, zI a2)] []
  unfold xw_goPlanned at hf
  refine r_iload_n (pc' := 1) (f4 := 1) (i := 1) C 1 rfl rfl dX10_goPlanned_0 rfl ?_
  by_cases cs0 : ww a1 = 1
  · rw [if_pos cs0] at hf
    refine r_tsIn (tgt := 28) C 1 cs0 dX10_goPlanned_1 (by decide) (by decide) rfl (by decide) ?_
    refine r_aload_n (pc' := 29) (f4 := 0) (i := 0) C 0 rfl rfl dX10_goPlanned_28 rfl ?_
    refine q_getP (pc' := 32) (j := 1) C (KW hF ha0) fb_10_1 (by decide) wd_176 (Or.inl rfl) (FW1 hF ha0) (by have h1 := pW0 ha0; omega) dX10_goPlanned_29 rfl ?_
    refine r_iload_n (pc' := 33) (f4 := 2) (i := 2) C 2 rfl rfl dX10_goPlanned_32 rfl ?_
    refine r_iconst (pc' := 34) C dX10_goPlanned_33 rfl ?_
    obtain ⟨hi, hf⟩ := ck_in hf
    refine r_zast (pc' := 35) C (KW1 hF ha0) rfl (zb_nar (Or.inr rfl)) hi dX10_goPlanned_34 rfl ?_
    refine r_goto (tgt := 82) C dX10_goPlanned_35 (by decide) ?_
    cases hf
    exact r_vret C dX10_goPlanned_82
  · rw [if_neg cs0] at hf
    by_cases cs1 : ww a1 = 2
    · rw [if_pos cs1] at hf
      refine r_tsIn (tgt := 38) C 2 cs1 dX10_goPlanned_1 (by decide) (by decide) rfl (by decide) ?_
      refine r_aload_n (pc' := 39) (f4 := 0) (i := 0) C 0 rfl rfl dX10_goPlanned_38 rfl ?_
      refine q_getP (pc' := 42) (j := 1) C (KW hF ha0) fb_10_1 (by decide) wd_176 (Or.inl rfl) (FW1 hF ha0) (by have h1 := pW0 ha0; omega) dX10_goPlanned_39 rfl ?_
      refine r_iload_n (pc' := 43) (f4 := 2) (i := 2) C 2 rfl rfl dX10_goPlanned_42 rfl ?_
      refine r_iconst (pc' := 44) C dX10_goPlanned_43 rfl ?_
      obtain ⟨hi, hf⟩ := ck_in hf
      refine r_zast (pc' := 45) C (KW1 hF ha0) rfl (zb_nar (Or.inl rfl)) hi dX10_goPlanned_44 rfl ?_
      refine r_goto (tgt := 82) C dX10_goPlanned_45 (by decide) ?_
      cases hf
      exact r_vret C dX10_goPlanned_82
    · rw [if_neg cs1] at hf
      by_cases cs2 : ww a1 = 3
      · rw [if_pos cs2] at hf
        refine r_tsIn (tgt := 48) C 3 cs2 dX10_goPlanned_1 (by decide) (by decide) rfl (by decide) ?_
        refine r_aload_n (pc' := 49) (f4 := 0) (i := 0) C 0 rfl rfl dX10_goPlanned_48 rfl ?_
        refine r_iload_n (pc' := 50) (f4 := 2) (i := 2) C 2 rfl rfl dX10_goPlanned_49 rfl ?_
        refine r_bipush (pc' := 52) C rfl dX10_goPlanned_50 rfl ?_
        refine r_idiv (pc' := 53) C ww_n10 (by decide) dX10_goPlanned_52 rfl ?_
        refine r_iload_n (pc' := 54) (f4 := 2) (i := 2) C 2 rfl rfl dX10_goPlanned_53 rfl ?_
        refine r_bipush (pc' := 56) C rfl dX10_goPlanned_54 rfl ?_
        refine r_irem (pc' := 57) C ww_n10 (by decide) dX10_goPlanned_56 rfl ?_
        refine r_bipush (pc' := 59) C rfl dX10_goPlanned_57 rfl ?_
        refine r_icmp_ne (pc' := 62) (tgt := 67) C rfl ww_n9 hf dX10_goPlanned_59 (by decide) rfl (fun hf => ?_) (fun hf => ?_)
        · refine r_bipush (pc' := 64) C rfl dX10_goPlanned_62 rfl ?_
          refine r_goto (tgt := 71) C dX10_goPlanned_64 (by decide) ?_
          obtain ⟨q1, hq1, hf⟩ := bind_in hf
          refine q_callVv (pc' := 74) C (t_xw_giveLeader hF ha0 hq1) rfl (KW hF ha0) cl_10 wv_RX10_142 ⟨Nat.le_of_ble_eq_true rfl, Nat.le_of_ble_eq_true rfl⟩ rfl rfl (Nat.le_of_ble_eq_true rfl) dX10_goPlanned_71 rfl ⟨Nat.le_of_ble_eq_true rfl, Nat.le_of_ble_eq_true rfl⟩ ?_
          refine r_goto (tgt := 82) C dX10_goPlanned_74 (by decide) ?_
          cases hf
          exact r_vret C dX10_goPlanned_82
        · refine r_iload_n (pc' := 68) (f4 := 2) (i := 2) C 2 rfl rfl dX10_goPlanned_67 rfl ?_
          refine r_bipush (pc' := 70) C rfl dX10_goPlanned_68 rfl ?_
          refine r_irem (pc' := 71) C ww_n10 (by decide) dX10_goPlanned_70 rfl ?_
          obtain ⟨q2, hq2, hf⟩ := bind_in hf
          refine q_callVv (pc' := 74) C (t_xw_giveLeader hF ha0 hq2) rfl (KW hF ha0) cl_10 wv_RX10_142 ⟨Nat.le_of_ble_eq_true rfl, Nat.le_of_ble_eq_true rfl⟩ rfl rfl (Nat.le_of_ble_eq_true rfl) dX10_goPlanned_71 rfl ⟨Nat.le_of_ble_eq_true rfl, Nat.le_of_ble_eq_true rfl⟩ ?_
          refine r_goto (tgt := 82) C dX10_goPlanned_74 (by decide) ?_
          cases hf
          exact r_vret C dX10_goPlanned_82
      · rw [if_neg cs2] at hf
        refine r_tsOut (tgt := 77) C dX10_goPlanned_1 (by omega) (by decide) ?_
        refine r_aload_n (pc' := 78) (f4 := 0) (i := 0) C 0 rfl rfl dX10_goPlanned_77 rfl ?_
        refine r_iconst (pc' := 79) C dX10_goPlanned_78 rfl ?_
        obtain ⟨q3, hq3, hf⟩ := bind_in hf
        refine q_callVv (pc' := 82) C (t_xw_goYears hF ha0 hq3) rfl (KW hF ha0) cl_10 wv_RX10_146 ⟨Nat.le_of_ble_eq_true rfl, Nat.le_of_ble_eq_true rfl⟩ rfl rfl (Nat.le_of_ble_eq_true rfl) dX10_goPlanned_79 rfl ⟨Nat.le_of_ble_eq_true rfl, Nat.le_of_ble_eq_true rfl⟩ ?_
        cases hf
        exact r_vret C dX10_goPlanned_82

/- WassailEnemies$World.allBore()I -/
def xw_allBore_L4 (h : HH) (x0 : Int) : Nat → Int → Int → Option Int
  | 0, _, _ => none
  | n4 + 1, x1, x2 =>
    if ww x2 < 5 then (ck (ww x2) 5 <| xw_allBore_L4 h x0 n4 (x1 + (h (x0 + 17) (ww x2))) (x2 + 1)) else (some x1)
def xw_allBore (h : HH) (a0 : Int) : Option Int :=
  xw_allBore_L4 h a0 FU 0 0
abbrev rm_xw_allBore : Room := { frames := 0, cells := 0, slots := 0, locals := 0 }
set_option maxHeartbeats 4000000 in
set_option maxRecDepth 100000 in
theorem w_xw_allBore_L4 (hF : Fx S) (C : Cx D dT bs RX10 cX10_allBore 3 (some Jvm.ClassFile.FieldType.int) p s m args meth c) {h : HH} (x0 : Int) (hx0 : isW x0) {res : Int} :
    ∀ (n : Nat) (x1 : Int) (x2 : Int), xw_allBore_L4 h x0 n x1 x2 = some res → V D dT bs 3 p l e rm_xw_allBore s m args below meth c 0 0 (MQ below (QQ D dT bs (some (zI res)) h S) args s 0 0 (AA bs)) h S 4 [(0, zP bs x0), (1, zI x1), (2, zI x2)] [] := by
  intro n
  induction n with
  | zero => intro x1 x2 hf; simp [xw_allBore_L4] at hf
  | succ n4 ih4 =>
    intro x1 x2 hf
    rw [xw_allBore_L4] at hf
    refine r_iload_n (pc' := 5) (f4 := 2) (i := 2) C 2 rfl rfl dX10_allBore_4 rfl ?_
    refine r_iconst (pc' := 6) C dX10_allBore_5 rfl ?_
    refine r_icmp_ge (pc' := 9) (tgt := 24) C rfl ww_n5 hf dX10_allBore_6 (by decide) rfl (fun hf => ?_) (fun hf => ?_)
    · refine r_iload_n (pc' := 10) (f4 := 1) (i := 1) C 1 rfl rfl dX10_allBore_9 rfl ?_
      refine r_aload_n (pc' := 11) (f4 := 0) (i := 0) C 0 rfl rfl dX10_allBore_10 rfl ?_
      refine q_getP (pc' := 14) (j := 5) C (KW hF hx0) fb_10_5 (by decide) wd_186 (Or.inl rfl) (FW5 hF hx0) (by have h1 := pW0 hx0; omega) dX10_allBore_11 rfl ?_
      refine r_iload_n (pc' := 15) (f4 := 2) (i := 2) C 2 rfl rfl dX10_allBore_14 rfl ?_
      obtain ⟨hi, hf⟩ := ck_in hf
      refine r_iald (pc' := 16) C (KW5 hF hx0) rfl hi dX10_allBore_15 rfl ?_
      refine r_iadd (pc' := 17) C dX10_allBore_16 rfl ?_
      refine r_istore_n (pc' := 18) (f4 := 1) (i := 1) (L' := [(1, zI (x1 + (h (x0 + 17) (ww x2)))), (0, zP bs x0), (2, zI x2)]) C rfl (by decide) rfl dX10_allBore_17 rfl ?_
      refine r_iinc (pc' := 21) (i := 2) (L' := [(2, zI (x2 + 1)), (1, zI (x1 + (h (x0 + 17) (ww x2)))), (0, zP bs x0)]) C 2 rfl (by decide) rfl dX10_allBore_18 rfl ?_
      refine r_goto (tgt := 4) C dX10_allBore_21 (by decide) ?_
      refine V.sub (L' := [(0, zP bs x0), (1, zI (x1 + (h (x0 + 17) (ww x2)))), (2, zI (x2 + 1))]) [2, 1, 0] rfl ?_
      exact ih4 _ _ hf
    · refine r_iload_n (pc' := 25) (f4 := 1) (i := 1) C 1 rfl rfl dX10_allBore_24 rfl ?_
      cases hf
      exact r_iret C dX10_allBore_25
set_option maxHeartbeats 4000000 in
set_option maxRecDepth 100000 in
theorem t_xw_allBore {S : SS} (hF : Fx S) {h : HH} {a0 : Int} (ha0 : isW a0) {res : Int} (hf : xw_allBore h a0 = some res) : CM yX10_allBore cX10_allBore 3 (some Jvm.ClassFile.FieldType.int) 0 0 0 0 (fun bs => [zP bs a0]) h S (fun _ => some (zI res)) h S := by
  refine CM.intro (own := RX10) (by decide) rfl (fun _ => Nat.le_of_ble_eq_true rfl) ?_
  intro D dT bs p l e s m args below meth c C
  show V D dT bs 3 p l e rm_xw_allBore s m args below meth c 0 0 _ h S 0 [(0, zP bs a0)] []
  unfold xw_allBore at hf
  refine r_iconst (pc' := 1) C dX10_allBore_0 rfl ?_
  refine r_istore_n (pc' := 2) (f4 := 1) (i := 1) (L' := [(1, zI 0), (0, zP bs a0)]) C rfl (by decide) rfl dX10_allBore_1 rfl ?_
  refine r_iconst (pc' := 3) C dX10_allBore_2 rfl ?_
  refine r_istore_n (pc' := 4) (f4 := 2) (i := 2) (L' := [(2, zI 0), (1, zI 0), (0, zP bs a0)]) C rfl (by decide) rfl dX10_allBore_3 rfl ?_
  refine V.sub (L' := [(0, zP bs a0), (1, zI 0), (2, zI 0)]) [2, 1, 0] rfl ?_
  refine w_xw_allBore_L4 hF C _ ha0 _ _ _ hf

/- WassailEnemies$World.allHate()I -/
def xw_allHate_L14 (h : HH) (x0 : Int) (x2 : Int) (k36 : Int → Option Int) : Nat → Int → Int → Option Int
  | 0, _, _ => none
  | n14 + 1, x1, x3 =>
    if ww x3 < 5 then (ck (ww x2) 6 <| ck (ww x3) 5 <| xw_allHate_L14 h x0 x2 k36 n14 (x1 + (h (x0 + 4 + (ww x2)) (ww x3))) (x3 + 1)) else (k36 x1)
def xw_allHate_L4 (h : HH) (x0 : Int) : Nat → Int → Int → Option Int
  | 0, _, _ => none
  | n4 + 1, x1, x2 =>
    if ww x2 < ww (h x0 4) then (xw_allHate_L14 h x0 x2 (fun y2 => xw_allHate_L4 h x0 n4 y2 (x2 + 1)) FU x1 0) else (some x1)
def xw_allHate (h : HH) (a0 : Int) : Option Int :=
  xw_allHate_L4 h a0 FU 0 0
abbrev rm_xw_allHate : Room := { frames := 0, cells := 0, slots := 0, locals := 0 }
set_option maxHeartbeats 4000000 in
set_option maxRecDepth 100000 in
theorem w_xw_allHate_L14 (hF : Fx S) (C : Cx D dT bs RX10 cX10_allHate 4 (some Jvm.ClassFile.FieldType.int) p s m args meth c) {h : HH} (x0 : Int) (hx0 : isW x0) (x2 : Int) (k36 : Int → Option Int) {res : Int} (hk36 : ∀ (x1 : Int), k36 x1 = some res → V D dT bs 4 p l e rm_xw_allHate s m args below meth c 0 0 (MQ below (QQ D dT bs (some (zI res)) h S) args s 0 0 (AA bs)) h S 36 [(0, zP bs x0), (1, zI x1), (2, zI x2)] []) :
    ∀ (n : Nat) (x1 : Int) (x3 : Int), xw_allHate_L14 h x0 x2 k36 n x1 x3 = some res → V D dT bs 4 p l e rm_xw_allHate s m args below meth c 0 0 (MQ below (QQ D dT bs (some (zI res)) h S) args s 0 0 (AA bs)) h S 14 [(0, zP bs x0), (1, zI x1), (2, zI x2), (3, zI x3)] [] := by
  intro n
  induction n with
  | zero => intro x1 x3 hf; simp [xw_allHate_L14] at hf
  | succ n14 ih14 =>
    intro x1 x3 hf
    rw [xw_allHate_L14] at hf
    refine r_iload_n (pc' := 15) (f4 := 3) (i := 3) C 3 rfl rfl dX10_allHate_14 rfl ?_
    refine r_iconst (pc' := 16) C dX10_allHate_15 rfl ?_
    refine r_icmp_ge (pc' := 19) (tgt := 36) C rfl ww_n5 hf dX10_allHate_16 (by decide) rfl (fun hf => ?_) (fun hf => ?_)
    · refine r_iload_n (pc' := 20) (f4 := 1) (i := 1) C 1 rfl rfl dX10_allHate_19 rfl ?_
      refine r_aload_n (pc' := 21) (f4 := 0) (i := 0) C 0 rfl rfl dX10_allHate_20 rfl ?_
      refine q_getP (pc' := 24) (j := 2) C (KW hF hx0) fb_10_2 (by decide) wd_178 (Or.inl rfl) (FW2 hF hx0) (by have h1 := pW0 hx0; omega) dX10_allHate_21 rfl ?_
      refine r_iload_n (pc' := 25) (f4 := 2) (i := 2) C 2 rfl rfl dX10_allHate_24 rfl ?_
      obtain ⟨hi1, hf⟩ := ck_in hf
      refine r_aaldP (pc' := 26) (t := 3) C (KW2 hF hx0) (by decide) (by decide) (by decide) (by decide) rfl rfl hi1 (FWr2 hF hx0 hi1) (Int.add_nonneg (by have h1 := pW0 hx0; omega) (hi1).1) dX10_allHate_25 rfl ?_
      refine r_iload_n (pc' := 27) (f4 := 3) (i := 3) C 3 rfl rfl dX10_allHate_26 rfl ?_
      obtain ⟨hi, hf⟩ := ck_in hf
      refine r_iald (pc' := 28) C (KWr2 hF hx0 hi1) rfl hi dX10_allHate_27 rfl ?_
      refine r_iadd (pc' := 29) C dX10_allHate_28 rfl ?_
      refine r_istore_n (pc' := 30) (f4 := 1) (i := 1) (L' := [(1, zI (x1 + (h (x0 + 4 + (ww x2)) (ww x3)))), (0, zP bs x0), (2, zI x2), (3, zI x3)]) C rfl (by decide) rfl dX10_allHate_29 rfl ?_
      refine r_iinc (pc' := 33) (i := 3) (L' := [(3, zI (x3 + 1)), (1, zI (x1 + (h (x0 + 4 + (ww x2)) (ww x3)))), (0, zP bs x0), (2, zI x2)]) C 3 rfl (by decide) rfl dX10_allHate_30 rfl ?_
      refine r_goto (tgt := 14) C dX10_allHate_33 (by decide) ?_
      refine V.sub (L' := [(0, zP bs x0), (1, zI (x1 + (h (x0 + 4 + (ww x2)) (ww x3)))), (2, zI x2), (3, zI (x3 + 1))]) [2, 1, 3, 0] rfl ?_
      exact ih14 _ _ hf
    · refine V.sub (L' := [(0, zP bs x0), (1, zI x1), (2, zI x2)]) [0, 1, 2] rfl ?_
      exact hk36 _ hf
set_option maxHeartbeats 4000000 in
set_option maxRecDepth 100000 in
theorem w_xw_allHate_L4 (hF : Fx S) (C : Cx D dT bs RX10 cX10_allHate 4 (some Jvm.ClassFile.FieldType.int) p s m args meth c) {h : HH} (x0 : Int) (hx0 : isW x0) {res : Int} :
    ∀ (n : Nat) (x1 : Int) (x2 : Int), xw_allHate_L4 h x0 n x1 x2 = some res → V D dT bs 4 p l e rm_xw_allHate s m args below meth c 0 0 (MQ below (QQ D dT bs (some (zI res)) h S) args s 0 0 (AA bs)) h S 4 [(0, zP bs x0), (1, zI x1), (2, zI x2)] [] := by
  intro n
  induction n with
  | zero => intro x1 x2 hf; simp [xw_allHate_L4] at hf
  | succ n4 ih4 =>
    intro x1 x2 hf
    rw [xw_allHate_L4] at hf
    refine r_iload_n (pc' := 5) (f4 := 2) (i := 2) C 2 rfl rfl dX10_allHate_4 rfl ?_
    refine r_aload_n (pc' := 6) (f4 := 0) (i := 0) C 0 rfl rfl dX10_allHate_5 rfl ?_
    refine q_getI (pc' := 9) (j := 4) C (KW hF hx0) fb_10_4 wd_185 (Or.inl rfl) dX10_allHate_6 rfl ?_
    refine r_icmp_ge (pc' := 12) (tgt := 42) C rfl rfl hf dX10_allHate_9 (by decide) rfl (fun hf => ?_) (fun hf => ?_)
    · refine r_iconst (pc' := 13) C dX10_allHate_12 rfl ?_
      refine r_istore_n (pc' := 14) (f4 := 3) (i := 3) (L' := [(3, zI 0), (0, zP bs x0), (1, zI x1), (2, zI x2)]) C rfl (by decide) rfl dX10_allHate_13 rfl ?_
      refine V.sub (L' := [(0, zP bs x0), (1, zI x1), (2, zI x2), (3, zI 0)]) [1, 2, 3, 0] rfl ?_
      refine w_xw_allHate_L14 hF C _ hx0 _ _ ?_ _ _ _ hf
      intro y2 hf
      refine r_iinc (pc' := 39) (i := 2) (L' := [(2, zI (x2 + 1)), (0, zP bs x0), (1, zI y2)]) C 2 rfl (by decide) rfl dX10_allHate_36 rfl ?_
      refine r_goto (tgt := 4) C dX10_allHate_39 (by decide) ?_
      refine V.sub (L' := [(0, zP bs x0), (1, zI y2), (2, zI (x2 + 1))]) [1, 2, 0] rfl ?_
      exact ih4 _ _ hf
    · refine r_iload_n (pc' := 43) (f4 := 1) (i := 1) C 1 rfl rfl dX10_allHate_42 rfl ?_
      cases hf
      exact r_iret C dX10_allHate_43
set_option maxHeartbeats 4000000 in
set_option maxRecDepth 100000 in
theorem t_xw_allHate {S : SS} (hF : Fx S) {h : HH} {a0 : Int} (ha0 : isW a0) {res : Int} (hf : xw_allHate h a0 = some res) : CM yX10_allHate cX10_allHate 4 (some Jvm.ClassFile.FieldType.int) 0 0 0 0 (fun bs => [zP bs a0]) h S (fun _ => some (zI res)) h S := by
  refine CM.intro (own := RX10) (by decide) rfl (fun _ => Nat.le_of_ble_eq_true rfl) ?_
  intro D dT bs p l e s m args below meth c C
  show V D dT bs 4 p l e rm_xw_allHate s m args below meth c 0 0 _ h S 0 [(0, zP bs a0)] []
  unfold xw_allHate at hf
  refine r_iconst (pc' := 1) C dX10_allHate_0 rfl ?_
  refine r_istore_n (pc' := 2) (f4 := 1) (i := 1) (L' := [(1, zI 0), (0, zP bs a0)]) C rfl (by decide) rfl dX10_allHate_1 rfl ?_
  refine r_iconst (pc' := 3) C dX10_allHate_2 rfl ?_
  refine r_istore_n (pc' := 4) (f4 := 2) (i := 2) (L' := [(2, zI 0), (1, zI 0), (0, zP bs a0)]) C rfl (by decide) rfl dX10_allHate_3 rfl ?_
  refine V.sub (L' := [(0, zP bs a0), (1, zI 0), (2, zI 0)]) [2, 1, 0] rfl ?_
  refine w_xw_allHate_L4 hF C _ ha0 _ _ _ hf

/- WassailEnemies.isTree(I)Z -/
def x_isTree (a0 : Int) : Int :=
  if ww a0 < 0 then (0) else (if ww a0 < 5 then (1) else (0))
theorem b_x_isTree {a0 : Int} : x_isTree a0 = 0 ∨ x_isTree a0 = 1 := by
  unfold x_isTree
  repeat' split
  all_goals first | exact Or.inl rfl | exact Or.inr rfl

abbrev rm_x_isTree : Room := { frames := 0, cells := 0, slots := 0, locals := 0 }
set_option maxHeartbeats 4000000 in
set_option maxRecDepth 100000 in
theorem t_x_isTree {S : SS} (hF : Fx S) {h : HH} {a0 : Int} : CM yX11_isTree cX11_isTree 1 (some Jvm.ClassFile.FieldType.boolean) 0 0 0 0 (fun _ => [zI a0]) h S (fun _ => some (zI (x_isTree a0))) h S := by
  refine CM.intro (own := RX11) (by decide) rfl (fun _ => Nat.le_of_ble_eq_true rfl) ?_
  intro D dT bs p l e s m args below meth c C
  show V D dT bs 1 p l e rm_x_isTree s m args below meth c 0 0 _ h S 0 [(0, zI a0)] []
  obtain ⟨res, hf⟩ : ∃ r, x_isTree a0 = r := ⟨_, rfl⟩
  rw [hf]
  unfold x_isTree at hf
  refine r_iload_n (pc' := 1) (f4 := 0) (i := 0) C 0 rfl rfl dX11_isTree_0 rfl ?_
  refine r_if_lt (pc' := 4) (tgt := 13) C rfl hf dX11_isTree_1 (by decide) rfl (fun hf => ?_) (fun hf => ?_)
  · refine r_iconst (pc' := 14) C dX11_isTree_13 rfl ?_
    subst hf
    exact r_zret C (Or.inl rfl) dX11_isTree_14
  · refine r_iload_n (pc' := 5) (f4 := 0) (i := 0) C 0 rfl rfl dX11_isTree_4 rfl ?_
    refine r_iconst (pc' := 6) C dX11_isTree_5 rfl ?_
    refine r_icmp_ge (pc' := 9) (tgt := 13) C rfl ww_n5 hf dX11_isTree_6 (by decide) rfl (fun hf => ?_) (fun hf => ?_)
    · refine r_iconst (pc' := 10) C dX11_isTree_9 rfl ?_
      refine r_goto (tgt := 14) C dX11_isTree_10 (by decide) ?_
      subst hf
      exact r_zret C (Or.inr rfl) dX11_isTree_14
    · refine r_iconst (pc' := 14) C dX11_isTree_13 rfl ?_
      subst hf
      exact r_zret C (Or.inl rfl) dX11_isTree_14

/- WassailEnemies.lasts(II)I -/
def x_lasts_L13 (S : SS) (x1 : Int) (x2 : Int) : Nat → HH → Int → Option (Int × HH)
  | 0, _, _ => none
  | n13 + 1, h, x3 =>
    if ww x3 < 60 then ((xw_goAt S h 99 x2 x1).bind fun q2 => if ww q2.1 = 0 then (some (x3, q2.2)) else (x_lasts_L13 S x1 x2 n13 (u2 q2.2 99 7 ((q2.2 99 7) + 1)) (x3 + 1))) else (some (x3, h))
def x_lasts (S : SS) (h : HH) (a1 : Int) (a2 : Int) : Option (Int × HH) :=
  (xw_goFrom S h 99 1).bind fun q1 => x_lasts_L13 S a1 a2 FU q1 0
abbrev rm_x_lasts : Room := { frames := 7, cells := 0, slots := 0, locals := 156 }
set_option maxHeartbeats 4000000 in
set_option maxRecDepth 100000 in
theorem w_x_lasts_L13 (hF : Fx S) (C : Cx D dT bs RX11 cX11_lasts 4 (some Jvm.ClassFile.FieldType.int) p s m args meth c) (x1 : Int) (x2 : Int) {res : (Int × HH)} :
    ∀ (n : Nat) (h : HH) (x3 : Int), x_lasts_L13 S x1 x2 n h x3 = some res → V D dT bs 4 p l e rm_x_lasts s m args below meth c 0 0 (MQ below (QQ D dT bs (some (zI res.1)) res.2 S) args s 0 0 (AA bs)) h S 13 [(0, zP bs 0), (1, zI x1), (2, zI x2), (3, zI x3)] [] := by
  intro n
  induction n with
  | zero => intro h x3 hf; simp [x_lasts_L13] at hf
  | succ n13 ih13 =>
    intro h x3 hf
    rw [x_lasts_L13] at hf
    refine r_iload_n (pc' := 14) (f4 := 3) (i := 3) C 3 rfl rfl dX11_lasts_13 rfl ?_
    refine r_bipush (pc' := 16) C rfl dX11_lasts_14 rfl ?_
    refine r_icmp_ge (pc' := 19) (tgt := 50) C rfl ww_n60 hf dX11_lasts_16 (by decide) rfl (fun hf => ?_) (fun hf => ?_)
    · refine r_aload_n (pc' := 20) (f4 := 0) (i := 0) C 0 rfl rfl dX11_lasts_19 rfl ?_
      refine q_getP (pc' := 23) (j := 2) C (K_0 hF) fb_11_2 (by decide) wd_313 (Or.inl rfl) (F_0_2 hF) (by decide) dX11_lasts_20 rfl ?_
      refine r_iload_n (pc' := 24) (f4 := 2) (i := 2) C 2 rfl rfl dX11_lasts_23 rfl ?_
      refine r_iload_n (pc' := 25) (f4 := 1) (i := 1) C 1 rfl rfl dX11_lasts_24 rfl ?_
      obtain ⟨q2, hq2, hf⟩ := bind_in hf
      refine q_callV (pc' := 28) C (t_xw_goAt hF lit_W_99 hq2) rfl (K_99 hF) cl_10 wv_RX11_202 ⟨Nat.le_of_ble_eq_true rfl, Nat.le_of_ble_eq_true rfl⟩ rfl rfl (Nat.le_of_ble_eq_true rfl) dX11_lasts_25 rfl ⟨Nat.le_of_ble_eq_true rfl, Nat.le_of_ble_eq_true rfl⟩ ?_
      refine r_if_eq (pc' := 31) (tgt := 50) C rfl hf dX11_lasts_28 (by decide) rfl (fun hf => ?_) (fun hf => ?_)
      · refine r_iload_n (pc' := 51) (f4 := 3) (i := 3) C 3 rfl rfl dX11_lasts_50 rfl ?_
        cases hf
        exact r_iret C dX11_lasts_51
      · refine r_aload_n (pc' := 32) (f4 := 0) (i := 0) C 0 rfl rfl dX11_lasts_31 rfl ?_
        refine q_getP (pc' := 35) (j := 2) C (K_0 hF) fb_11_2 (by decide) wd_313 (Or.inl rfl) (F_0_2 hF) (by decide) dX11_lasts_32 rfl ?_
        refine r_dup (pc' := 36) C rfl dX11_lasts_35 rfl ?_
        refine q_getI (pc' := 39) (j := 7) C (K_99 hF) fb_10_7 wd_194 (Or.inl rfl) dX11_lasts_36 rfl ?_
        refine r_iconst (pc' := 40) C dX11_lasts_39 rfl ?_
        refine r_iadd (pc' := 41) C dX11_lasts_40 rfl ?_
        refine q_putI (pc' := 44) (j := 7) C (K_99 hF) fb_10_7 fp_10_7 wd_194 (Or.inl rfl) (Or.inl rfl) rfl rfl dX11_lasts_41 rfl ?_
        refine r_iinc (pc' := 47) (i := 3) (L' := [(3, zI (x3 + 1)), (0, zP bs 0), (1, zI x1), (2, zI x2)]) C 3 rfl (by decide) rfl dX11_lasts_44 rfl ?_
        refine r_goto (tgt := 13) C dX11_lasts_47 (by decide) ?_
        refine V.sub (L' := [(0, zP bs 0), (1, zI x1), (2, zI x2), (3, zI (x3 + 1))]) [1, 2, 3, 0] rfl ?_
        exact ih13 _ _ hf
    · refine r_iload_n (pc' := 51) (f4 := 3) (i := 3) C 3 rfl rfl dX11_lasts_50 rfl ?_
      cases hf
      exact r_iret C dX11_lasts_51
set_option maxHeartbeats 4000000 in
set_option maxRecDepth 100000 in
theorem t_x_lasts {S : SS} (hF : Fx S) {h : HH} {a1 : Int} {a2 : Int} {res : Int × HH} (hf : x_lasts S h a1 a2 = some res) : CM yX11_lasts cX11_lasts 4 (some Jvm.ClassFile.FieldType.int) 7 156 0 0 (fun bs => [zP bs 0, zI a1, zI a2]) h S (fun _ => some (zI res.1)) res.2 S := by
  refine CM.intro (own := RX11) (by decide) rfl (fun _ => Nat.le_of_ble_eq_true rfl) ?_
  intro D dT bs p l e s m args below meth c C
  show V D dT bs 4 p l e rm_x_lasts s m args below meth c 0 0 _ h S 0 [(0, zP bs 0), (1, zI a1), (2, zI a2)] []
  unfold x_lasts at hf
  refine r_aload_n (pc' := 1) (f4 := 0) (i := 0) C 0 rfl rfl dX11_lasts_0 rfl ?_
  refine q_getP (pc' := 4) (j := 2) C (K_0 hF) fb_11_2 (by decide) wd_313 (Or.inl rfl) (F_0_2 hF) (by decide) dX11_lasts_1 rfl ?_
  refine r_aload_n (pc' := 5) (f4 := 0) (i := 0) C 0 rfl rfl dX11_lasts_4 rfl ?_
  refine q_getP (pc' := 8) (j := 0) C (K_0 hF) fb_11_0 (by decide) wd_311 (Or.inl rfl) (F_0_0 hF) (by decide) dX11_lasts_5 rfl ?_
  obtain ⟨q1, hq1, hf⟩ := bind_in hf
  refine q_callVv (pc' := 11) C (t_xw_goFrom hF lit_W_99 lit_W_1 hq1) rfl (K_99 hF) cl_10 wv_RX11_198 ⟨Nat.le_of_ble_eq_true rfl, Nat.le_of_ble_eq_true rfl⟩ rfl rfl (Nat.le_of_ble_eq_true rfl) dX11_lasts_8 rfl ⟨Nat.le_of_ble_eq_true rfl, Nat.le_of_ble_eq_true rfl⟩ ?_
  refine r_iconst (pc' := 12) C dX11_lasts_11 rfl ?_
  refine r_istore_n (pc' := 13) (f4 := 3) (i := 3) (L' := [(3, zI 0), (0, zP bs 0), (1, zI a1), (2, zI a2)]) C rfl (by decide) rfl dX11_lasts_12 rfl ?_
  refine V.sub (L' := [(0, zP bs 0), (1, zI a1), (2, zI a2), (3, zI 0)]) [1, 2, 3, 0] rfl ?_
  refine w_x_lasts_L13 hF C _ _ _ _ _ hf
end
