theorem fb_13_0 : FB 13 0 3 RJx4a65c TJx4a65c false := ⟨by decide, rfl, uin_13, by decide, by decide +kernel⟩
theorem fb_13_2 : FB 13 2 3 RJx4a65c TJx4a65c false := ⟨by decide, rfl, uin_13, by decide, by decide +kernel⟩
theorem fp_13_0 : FP 3 0 TJx4a65c tyJx4a65c .int := ⟨tyJx4a65c_ok, nmJx4a65c, by decide +kernel⟩
theorem fp_13_2 : FP 3 2 TJx4a65c tyJx4a65c .int := ⟨tyJx4a65c_ok, nmJx4a65c, by decide +kernel⟩
theorem vb_c_of {v : Int} (h0 : -128 ≤ v) : Value.int (vb_c (v + 128).toNat) = zI v := by
  unfold vb_c zI
  rw [← ofI_nat, show (128 : Int32) = Int32.ofInt 128 from rfl, ← Int32.ofInt_sub, show (((v + 128).toNat : Nat) : Int) - 128 = v from by omega]
theorem r_ooald {D : va_G} {dT : ZT} {bs nL : Nat} {own : String} {cc : ByteArray} {ret : Option FieldType} {p : Program} {l : Launch} {e : Env} {R : Room} {s : State} {m : MethodId} {args : Array Value} {below : List Frame} {meth : Method} {c : Code} {cells slots : Nat} {Q : State → Prop} {h : HH} {S : SS} {pc pc' : Nat} {L : List (Nat × Value)} {st : List Value} (C : Cx D dT bs own cc nL ret p s m args meth c) {Cn : String} {t N : Nat} {f : Nat → Value} {a a' : Int} {v : Value} (hT : va_T (.object Cn) t N f (AA bs) s s.heap) (ha : ww a = a') (hi : 0 ≤ a' ∧ a' < N) (hv : f a'.toNat = v) (hd : decode cc pc = .ok (.aaload, 1)) (hp : pc + 1 = pc') (kk : V D dT bs nL p l e R s m args below meth c cells slots Q h S pc' L (v :: st)) : V D dT bs nL p l e R s m args below meth c cells slots Q h S pc L (zI a :: .ref t :: st) := by
  intro H locs ls hP hS hl
  subst hp
  exact vb_tq C.1 C.2.1 hT hS (by have := ww_vp ha hi; simpa using this) (by rw [ww_cl ha hi.1]; exact hv) hd (kk H locs ls hP hS hl)
theorem t_valueOf {v : Int} (h0 : -128 ≤ v) (h1 : v ≤ 127) {h : HH} {S : SS} : CMD yJ6_valueOf_2dffe cJ6_valueOf_2dffe 1 (some (.object "java/lang/Integer")) 0 0 0 0 (fun _ _ => [zI v]) h S (fun dT _ => some (.ref (dT.2.1 v))) h S := by
  refine CMD.intro (own := RJ6) (by decide) rfl (fun _ _ => Nat.le_of_ble_eq_true rfl) ?_
  intro D dT bs p l e s m args below meth c C
  show V D dT bs 1 p l e _ s m args below meth c 0 0 _ h S 0 [(0, zI v)] []
  have hvv : ww v = v := ww_id (by omega) (by omega)
  obtain ⟨t, hz, hT⟩ := zx_cache C (in_t4 (List.mem_of_getElem? (i := 144) (by decide +kernel))) (in_t1 (List.mem_of_getElem? (i := 27) (by decide +kernel)))
  refine r_iload_n (pc' := 1) (f4 := 0) (i := 0) C 0 rfl rfl dJ6_valueOf_2dffe_0 rfl ?_
  refine r_bipush (pc' := 3) C (n := -128) rfl dJ6_valueOf_2dffe_1 rfl ?_
  refine r_icmp_lt (pc' := 6) (tgt := 23) (E1 := (0 : Nat)) (E2 := 1) (res := 1) C hvv (show ww (-128) = -128 from by decide) (by rw [if_neg (by omega)]) dJ6_valueOf_2dffe_3 (by decide) rfl (fun hf => absurd hf (by decide)) (fun _ => ?_)
  refine r_iload_n (pc' := 7) (f4 := 0) (i := 0) C 0 rfl rfl dJ6_valueOf_2dffe_6 rfl ?_
  refine r_ogets (pc' := 10) C (zx_high C (in_t4 (List.mem_of_getElem? (i := 142) (by decide +kernel))) (in_t1 (List.mem_of_getElem? (i := 27) (by decide +kernel)))) wd_955 rfl dJ6_valueOf_2dffe_7 rfl ?_
  refine r_icmp_gt (pc' := 13) (tgt := 23) (E1 := (0 : Nat)) (E2 := 1) (res := 1) C hvv (show ww 127 = 127 from by decide) (by rw [if_neg (by omega)]) dJ6_valueOf_2dffe_10 (by decide) rfl (fun hf => absurd hf (by decide)) (fun _ => ?_)
  refine r_ogets (pc' := 16) C hz wd_957 rfl dJ6_valueOf_2dffe_13 rfl ?_
  refine r_iload_n (pc' := 17) (f4 := 0) (i := 0) C 0 rfl rfl dJ6_valueOf_2dffe_16 rfl ?_
  refine r_sipush (pc' := 20) C (n := 128) rfl dJ6_valueOf_2dffe_17 rfl ?_
  refine r_iadd (pc' := 21) C dJ6_valueOf_2dffe_20 rfl ?_
  refine r_ooald (pc' := 22) (v := .ref (dT.2.1 v)) C hT (ww_id (z := v + 128) (by omega) (by omega)) ⟨by omega, by omega⟩ (by show Value.ref (dT.2.1 ((((v + 128).toNat : Nat) : Int) - 128)) = _; rw [show (((v + 128).toNat : Nat) : Int) - 128 = v from by omega]) dJ6_valueOf_2dffe_21 rfl ?_
  exact r_aret C (Or.inl ⟨_, rfl⟩) (Or.inr ⟨_, rfl⟩) dJ6_valueOf_2dffe_22
theorem t_intValue {v : Int} (h0 : -128 ≤ v) (h1 : v ≤ 127) {h : HH} {S : SS} : CMD yJ6_intValue_8abf5 cJ6_intValue_8abf5 1 (some .int) 0 0 0 0 (fun dT _ => [.ref (dT.2.1 v)]) h S (fun _ _ => some (zI v)) h S := by
  refine CMD.intro (own := RJ6) (by decide) rfl (fun _ _ => Nat.le_of_ble_eq_true rfl) ?_
  intro D dT bs p l e s m args below meth c C
  show V D dT bs 1 p l e _ s m args below meth c 0 0 _ h S 0 [(0, .ref (dT.2.1 v))] []
  have hE : va_OF "java/lang/Integer" "value" "I" (.int (vb_c (v + 128).toNat)) (dT.2.1 ((((v + 128).toNat : Nat) : Int) - 128)) (AA bs) s s.heap := (zx_box C).2 (v + 128).toNat (by omega)
  rw [vb_c_of h0, show (((v + 128).toNat : Nat) : Int) - 128 = v from by omega] at hE
  refine r_aloadO_n (pc' := 1) (f4 := 0) (i := 0) C 0 rfl rfl dJ6_intValue_8abf5_0 rfl ?_
  refine r_oget (pc' := 4) C hE wd_968 rfl dJ6_intValue_8abf5_1 rfl ?_
  exact r_iret C dJ6_intValue_8abf5_4
def j_lsize (h : HH) : Int := h 151 2
theorem t_j_lsize {S : SS} (hF : Fx S) {h : HH} : CM yJx4a65c_size_8abf5 cJx4a65c_size_8abf5 1 (some .int) 0 0 0 0 (fun bs => [zP bs 151]) h S (fun _ => some (zI (j_lsize h))) h S := by
  refine CM.intro (own := RJx4a65c) (by decide) rfl (fun _ => Nat.le_of_ble_eq_true rfl) ?_
  intro D dT bs p l e s m args below meth c C
  show V D dT bs 1 p l e _ s m args below meth c 0 0 _ h S 0 [(0, zP bs 151)] []
  refine r_aload_n (pc' := 1) (f4 := 0) (i := 0) C 0 rfl rfl dJx4a65c_size_8abf5_0 rfl ?_
  refine q_getI (pc' := 4) (j := 2) C (K_151 hF) fb_13_2 wd_270 (Or.inl rfl) dJx4a65c_size_8abf5_1 rfl ?_
  exact r_iret C dJx4a65c_size_8abf5_4
/-- the list's row: cell and length -/
def trK (h : HH) (S : SS) (c : Int) : Prop := 0 < h 151 1 ∧ KD S (h 151 1 - 1) 27 c ∧ 0 ≤ c ∧ c ≤ 1000
def tr_clear0 (h : HH) : HH := u2 (u2 h 151 0 (h 151 0 + 1)) 151 2 0
theorem u2_same {h : HH} {k j v : Int} : u2 h k j v k j = v := by simp [u2]
theorem u2_ne {h : HH} {k j v a b : Int} (hn : a ≠ k ∨ b ≠ j) : u2 h k j v a b = h a b := by
  unfold u2
  rw [if_neg (by omega)]
theorem flA_step {h : HH} {k i v : Int} (h0 : 0 ≤ i) : u2 (flA h k i v) k i v = flA h k (i + 1) v := by
  funext a b
  unfold u2 flA
  by_cases ha : a = k
  · by_cases hb : b = i
    · rw [if_pos ⟨ha, hb⟩, if_pos (by omega)]
    · rw [if_neg (by omega)]
      by_cases hc : 0 ≤ b ∧ b < i
      · rw [if_pos ⟨ha, hc⟩, if_pos (by omega)]
      · rw [if_neg (by omega), if_neg (by omega)]
  · rw [if_neg (by omega), if_neg (by omega), if_neg (by omega)]
theorem flA_0 {h : HH} {k v : Int} : flA h k 0 v = h := by
  funext a b
  unfold flA
  rw [if_neg (by omega)]
theorem t_lclearE {S : SS} (hF : Fx S) {h : HH} (he : h 151 1 = -7) (hs : h 151 2 = 0) : CM yJx4a65c_clear_da8c8 cJx4a65c_clear_da8c8 4 none 0 0 0 0 (fun bs => [zP bs 151]) h S (fun _ => none) (tr_clear0 h) S := by
  refine CM.intro (own := RJx4a65c) (by decide) rfl (fun _ => Nat.le_of_ble_eq_true rfl) ?_
  intro D dT bs p l e s m args below meth c C
  show V D dT bs 4 p l e _ s m args below meth c 0 0 _ h S 0 [(0, zP bs 151)] []
  have he1 : u2 h 151 0 (h 151 0 + 1) 151 1 = -7 := by rw [u2_ne (by omega)]; exact he
  have hs1 : u2 h 151 0 (h 151 0 + 1) 151 2 = 0 := by rw [u2_ne (by omega)]; exact hs
  refine r_aload_n (pc' := 1) (f4 := 0) (i := 0) C 0 rfl rfl dJx4a65c_clear_da8c8_0 rfl ?_
  refine r_dup (pc' := 2) C rfl dJx4a65c_clear_da8c8_1 rfl ?_
  refine q_getI (pc' := 5) (j := 0) C (K_151 hF) fb_13_0 wd_272 (Or.inr wd_273) dJx4a65c_clear_da8c8_2 rfl ?_
  refine r_iconst (pc' := 6) C dJx4a65c_clear_da8c8_5 rfl ?_
  refine r_iadd (pc' := 7) C dJx4a65c_clear_da8c8_6 rfl ?_
  refine q_putI (pc' := 10) (j := 0) C (K_151 hF) fb_13_0 fp_13_0 wd_272 (Or.inr wd_273) (Or.inl rfl) rfl rfl dJx4a65c_clear_da8c8_7 rfl ?_
  refine r_aload_n (pc' := 11) (f4 := 0) (i := 0) C 0 rfl rfl dJx4a65c_clear_da8c8_10 rfl ?_
  refine r_getE (pc' := 14) C (K_151 hF) wd_269 dJx4a65c_clear_da8c8_11 rfl ?_
  rw [show ((0 : Nat) : Int) = 0 from rfl, oE_c he1]
  refine r_astoreO_n (pc' := 15) (f4 := 1) (i := 1) (L' := [(1, .ref dT.2.2.1), (0, zP bs 151)]) C rfl (by decide) rfl dJx4a65c_clear_da8c8_14 rfl ?_
  refine r_aload_n (pc' := 16) (f4 := 0) (i := 0) C 1 rfl rfl dJx4a65c_clear_da8c8_15 rfl ?_
  refine q_getI (pc' := 19) (j := 2) C (K_151 hF) fb_13_2 wd_270 (Or.inl rfl) dJx4a65c_clear_da8c8_16 rfl ?_
  refine r_istore_n (pc' := 20) (f4 := 2) (i := 2) (L' := [(2, zI 0), (1, .ref dT.2.2.1), (0, zP bs 151)]) C rfl (by decide) (by rw [show ((2 : Nat) : Int) = 2 from rfl, hs1]; rfl) dJx4a65c_clear_da8c8_19 rfl ?_
  refine r_aload_n (pc' := 21) (f4 := 0) (i := 0) C 2 rfl rfl dJx4a65c_clear_da8c8_20 rfl ?_
  refine r_iconst (pc' := 22) C dJx4a65c_clear_da8c8_21 rfl ?_
  refine r_dup_x1 (pc' := 23) C rfl rfl dJx4a65c_clear_da8c8_22 rfl ?_
  refine q_putI (pc' := 26) (j := 2) C (K_151 hF) fb_13_2 fp_13_2 wd_270 (Or.inl rfl) (Or.inl rfl) rfl rfl dJx4a65c_clear_da8c8_23 rfl ?_
  refine r_istore_n (pc' := 27) (f4 := 3) (i := 3) (L' := [(3, zI 0), (2, zI 0), (1, .ref dT.2.2.1), (0, zP bs 151)]) C rfl (by decide) rfl dJx4a65c_clear_da8c8_26 rfl ?_
  refine r_iload_n (pc' := 28) (f4 := 3) (i := 3) C 0 rfl rfl dJx4a65c_clear_da8c8_27 rfl ?_
  refine r_iload_n (pc' := 29) (f4 := 2) (i := 2) C 1 rfl rfl dJx4a65c_clear_da8c8_28 rfl ?_
  refine r_icmp_ge (pc' := 32) (tgt := 42) (E1 := (0 : Nat)) (E2 := 1) (res := 1) C ww_n0 ww_n0 (by rw [if_neg (by omega)]) dJx4a65c_clear_da8c8_29 (by decide) rfl (fun hf => absurd hf (by decide)) (fun _ => ?_)
  exact r_vret C dJx4a65c_clear_da8c8_42
theorem t_lclearK {S : SS} (hF : Fx S) {h : HH} {cap : Int} (hk : trK h S cap) (h0 : 0 ≤ h 151 2) (h1 : h 151 2 ≤ cap) : CM yJx4a65c_clear_da8c8 cJx4a65c_clear_da8c8 4 none 0 0 0 0 (fun bs => [zP bs 151]) h S (fun _ => none) (flA (tr_clear0 h) (h 151 1 - 1) (h 151 2) 0) S := by
  refine CM.intro (own := RJx4a65c) (by decide) rfl (fun _ => Nat.le_of_ble_eq_true rfl) ?_
  intro D dT bs p l e s m args below meth c C
  show V D dT bs 4 p l e _ s m args below meth c 0 0 _ h S 0 [(0, zP bs 151)] []
  obtain ⟨hp, hK, hc0, hc1⟩ := hk
  have he1 : u2 h 151 0 (h 151 0 + 1) 151 1 = h 151 1 := u2_ne (by omega)
  have hs1 : u2 h 151 0 (h 151 0 + 1) 151 2 = h 151 2 := u2_ne (by omega)
  refine r_aload_n (pc' := 1) (f4 := 0) (i := 0) C 0 rfl rfl dJx4a65c_clear_da8c8_0 rfl ?_
  refine r_dup (pc' := 2) C rfl dJx4a65c_clear_da8c8_1 rfl ?_
  refine q_getI (pc' := 5) (j := 0) C (K_151 hF) fb_13_0 wd_272 (Or.inr wd_273) dJx4a65c_clear_da8c8_2 rfl ?_
  refine r_iconst (pc' := 6) C dJx4a65c_clear_da8c8_5 rfl ?_
  refine r_iadd (pc' := 7) C dJx4a65c_clear_da8c8_6 rfl ?_
  refine q_putI (pc' := 10) (j := 0) C (K_151 hF) fb_13_0 fp_13_0 wd_272 (Or.inr wd_273) (Or.inl rfl) rfl rfl dJx4a65c_clear_da8c8_7 rfl ?_
  refine r_aload_n (pc' := 11) (f4 := 0) (i := 0) C 0 rfl rfl dJx4a65c_clear_da8c8_10 rfl ?_
  refine r_getE (pc' := 14) C (K_151 hF) wd_269 dJx4a65c_clear_da8c8_11 rfl ?_
  rw [show ((0 : Nat) : Int) = 0 from rfl, he1, oE_p hp]
  refine r_astore_n (pc' := 15) (f4 := 1) (i := 1) (L' := [(1, zP bs (h 151 1 - 1)), (0, zP bs 151)]) C rfl (by decide) rfl dJx4a65c_clear_da8c8_14 rfl ?_
  refine r_aload_n (pc' := 16) (f4 := 0) (i := 0) C 1 rfl rfl dJx4a65c_clear_da8c8_15 rfl ?_
  refine q_getI (pc' := 19) (j := 2) C (K_151 hF) fb_13_2 wd_270 (Or.inl rfl) dJx4a65c_clear_da8c8_16 rfl ?_
  refine r_istore_n (pc' := 20) (f4 := 2) (i := 2) (L' := [(2, zI (h 151 2)), (1, zP bs (h 151 1 - 1)), (0, zP bs 151)]) C rfl (by decide) (by rw [show ((2 : Nat) : Int) = 2 from rfl, hs1]; rfl) dJx4a65c_clear_da8c8_19 rfl ?_
  refine r_aload_n (pc' := 21) (f4 := 0) (i := 0) C 2 rfl rfl dJx4a65c_clear_da8c8_20 rfl ?_
  refine r_iconst (pc' := 22) C dJx4a65c_clear_da8c8_21 rfl ?_
  refine r_dup_x1 (pc' := 23) C rfl rfl dJx4a65c_clear_da8c8_22 rfl ?_
  refine q_putI (pc' := 26) (j := 2) C (K_151 hF) fb_13_2 fp_13_2 wd_270 (Or.inl rfl) (Or.inl rfl) rfl rfl dJx4a65c_clear_da8c8_23 rfl ?_
  refine r_istore_n (pc' := 27) (f4 := 3) (i := 3) (L' := [(3, zI 0), (2, zI (h 151 2)), (1, zP bs (h 151 1 - 1)), (0, zP bs 151)]) C rfl (by decide) rfl dJx4a65c_clear_da8c8_26 rfl ?_
  have key : ∀ (n : Nat) (i : Int), 0 ≤ i → i ≤ h 151 2 → h 151 2 - i = n → V D dT bs 4 p l e { frames := 0, cells := 0, slots := 0, locals := 0 } s m args below meth c 0 0 (MQ below (QQ D dT bs none (flA (tr_clear0 h) (h 151 1 - 1) (h 151 2) 0) S) args s 0 0 (AA bs)) (flA (tr_clear0 h) (h 151 1 - 1) i 0) S 27 [(3, zI i), (2, zI (h 151 2)), (1, zP bs (h 151 1 - 1)), (0, zP bs 151)] [] := by
    intro n
    induction n with
    | zero =>
      intro i i0 i1 i2
      have ei : i = h 151 2 := by omega
      subst ei
      refine r_iload_n (pc' := 28) (f4 := 3) (i := 3) C 0 rfl rfl dJx4a65c_clear_da8c8_27 rfl ?_
      refine r_iload_n (pc' := 29) (f4 := 2) (i := 2) C 1 rfl rfl dJx4a65c_clear_da8c8_28 rfl ?_
      refine r_icmp_ge (pc' := 32) (tgt := 42) (E1 := (0 : Nat)) (E2 := 1) (res := 1) C rfl rfl (by rw [if_neg (by omega)]) dJx4a65c_clear_da8c8_29 (by decide) rfl (fun hf => absurd hf (by decide)) (fun _ => ?_)
      exact r_vret C dJx4a65c_clear_da8c8_42
    | succ n ih =>
      intro i i0 i1 i2
      refine r_iload_n (pc' := 28) (f4 := 3) (i := 3) C 0 rfl rfl dJx4a65c_clear_da8c8_27 rfl ?_
      refine r_iload_n (pc' := 29) (f4 := 2) (i := 2) C 1 rfl rfl dJx4a65c_clear_da8c8_28 rfl ?_
      refine r_icmp_ge (pc' := 32) (tgt := 42) (E1 := (0 : Nat)) (E2 := 1) (res := 0) C (ww_id (z := i) (by omega) (by omega)) (ww_id (z := h 151 2) (by omega) (by omega)) (by rw [if_pos (by omega)]) dJx4a65c_clear_da8c8_29 (by decide) rfl (fun _ => ?_) (fun hf => absurd hf (by decide))
      refine r_aload_n (pc' := 33) (f4 := 1) (i := 1) C 2 rfl rfl dJx4a65c_clear_da8c8_32 rfl ?_
      refine r_iload_n (pc' := 34) (f4 := 3) (i := 3) C 0 rfl rfl dJx4a65c_clear_da8c8_33 rfl ?_
      refine r_null (pc' := 35) C dJx4a65c_clear_da8c8_34 rfl ?_
      refine r_aastN7 (pc' := 36) C hK (ww_id (z := i) (by omega) (by omega)) ⟨i0, by omega⟩ dJx4a65c_clear_da8c8_35 rfl ?_
      rw [flA_step i0]
      refine r_iinc (pc' := 39) (i := 3) (L' := [(3, zI (i + 1)), (2, zI (h 151 2)), (1, zP bs (h 151 1 - 1)), (0, zP bs 151)]) C 0 rfl (by decide) rfl dJx4a65c_clear_da8c8_36 rfl ?_
      refine r_goto (tgt := 27) C dJx4a65c_clear_da8c8_39 (by decide) ?_
      exact ih (i + 1) (by omega) (by omega) (by omega)
  have k0 := key (h 151 2).toNat 0 (by omega) h0 (by omega)
  rw [flA_0] at k0
  exact k0
def tr_clear (S : SS) (h : HH) : Option HH :=
  if h 151 1 = -7 then (if h 151 2 = 0 then some (tr_clear0 h) else none)
  else if 0 < h 151 1 ∧ 0 ≤ h 151 1 - 1 ∧ h 151 1 - 1 < S.2 ∧ S.1 (h 151 1 - 1) (-1) = 27 ∧ 0 ≤ h 151 2 ∧ h 151 2 ≤ S.1 (h 151 1 - 1) (-2) ∧ S.1 (h 151 1 - 1) (-2) ≤ 1000 then some (flA (tr_clear0 h) (h 151 1 - 1) (h 151 2) 0) else none
theorem t_tr_clear {S : SS} (hF : Fx S) {h res : HH} (hf : tr_clear S h = some res) : CM yJx4a65c_clear_da8c8 cJx4a65c_clear_da8c8 4 none 0 0 0 0 (fun bs => [zP bs 151]) h S (fun _ => none) res S := by
  unfold tr_clear at hf
  by_cases he : h 151 1 = -7
  · rw [if_pos he] at hf
    by_cases hs : h 151 2 = 0
    · rw [if_pos hs] at hf
      cases hf
      exact t_lclearE hF he hs
    · rw [if_neg hs] at hf
      cases hf
  · rw [if_neg he] at hf
    split at hf
    · next hq =>
      obtain ⟨a1, a2, a3, a4, a5, a6, a7⟩ := hq
      cases hf
      exact t_lclearK hF ⟨a1, ⟨a2, a3, a4, rfl⟩, by omega, a7⟩ a5 a6
    · cases hf
