/-- what a constructor on cell a leaves as it was -/
def SXo (S S' : SS) (a : Int) : Prop := S.2 ≤ S'.2 ∧ (∀ k j : Int, k < S.2 → k ≠ a → S'.1 k j = S.1 k j) ∧ (∀ j : Int, j = -1 ∨ j = -2 → S'.1 a j = S.1 a j)
theorem SXo.rf {S : SS} {a : Int} : SXo S S a := ⟨Nat.le_refl _, fun _ _ _ _ => rfl, fun _ _ => rfl⟩
theorem SXt.o {S S' : SS} {a : Int} (h : SXt S S') (ha : a < S.2) : SXo S S' a := ⟨h.1, fun k j hk _ => h.2 k j hk, fun j _ => h.2 a j ha⟩
theorem SXo.tr {S S1 S2 : SS} {a : Int} (x : SXo S S1 a) (y : SXo S1 S2 a) : SXo S S2 a := ⟨Nat.le_trans x.1 y.1, fun k j hk hn => by rw [y.2.1 k j (by have := x.1; omega) hn, x.2.1 k j hk hn], fun j hj => by rw [y.2.2 j hj, x.2.2 j hj]⟩
theorem SXo.put {S : SS} {a j v : Int} (hj : 0 ≤ j) : SXo S (uS S a j v) a := ⟨Nat.le_refl _, fun k i _ hn => by
  show (if k = a ∧ i = j then v else S.1 k i) = _
  rw [if_neg (by omega)], fun i hi => by
  show (if a = a ∧ i = j then v else S.1 a i) = _
  rw [if_neg (by omega)]⟩
theorem SXo.tn {S S1 S2 : SS} {a b : Int} (x : SXo S S1 a) (y : SXo S1 S2 b) (hb : (S.2 : Int) ≤ b) (ha : a < S.2) : SXo S S2 a := ⟨Nat.le_trans x.1 y.1, fun k j hk hn => by rw [y.2.1 k j (by have := x.1; omega) (by omega), x.2.1 k j hk hn], fun j hj => by rw [y.2.1 a j (by have := x.1; omega) (by omega), x.2.2 j hj]⟩
theorem KD.exo {S S' : SS} {b k c n : Int} (x : SXo S S' b) (h : KD S k c n) : KD S' k c n := by
  obtain ⟨h0, h1, h2, h3⟩ := h
  by_cases e : k = b
  · subst e
    exact ⟨h0, by have := x.1; omega, by rw [x.2.2 _ (Or.inl rfl)]; exact h2, by rw [x.2.2 _ (Or.inr rfl)]; exact h3⟩
  · exact ⟨h0, by have := x.1; omega, by rw [x.2.1 k _ h1 e]; exact h2, by rw [x.2.1 k _ h1 e]; exact h3⟩
theorem uS_same {S : SS} {a j v : Int} : (uS S a j v).1 a j = v := by
  show (if a = a ∧ j = j then v else _) = v
  rw [if_pos ⟨rfl, rfl⟩]
theorem uS_ne {S : SS} {a j v i : Int} (h : i ≠ j) : (uS S a j v).1 a i = S.1 a i := by
  show (if a = a ∧ i = j then v else S.1 a i) = _
  rw [if_neg (by omega)]
theorem uS_nk {S : SS} {a b j v i : Int} (h : b ≠ a) : (uS S a j v).1 b i = S.1 b i := by
  show (if b = a ∧ i = j then v else S.1 b i) = _
  rw [if_neg (by omega)]
section ZK
variable {D : va_G} {dT : ZT} {bs nL : Nat} {own : String} {cc : ByteArray} {ret : Option FieldType} {p : Program} {l : Launch} {e : Env} {R : Room} {s : State} {m : MethodId} {args : Array Value} {below : List Frame} {meth : Method} {c : Code} {cells slots : Nat} {Q : State → Prop} {h : HH} {S : SS} {pc pc' tgt : Nat} {L L' : List (Nat × Value)} {st : List Value} {H : Heap} {locs : List Loc} {ls : Array Slot}
theorem q_putRP (C : Cx D dT bs own cc nL ret p s m args meth c) {ci j ix N : Nat} {k nn v : Int} {ref Cn : String} {T : u_T} {ty0 : Nat → FieldType} {ty : FieldType} (hk : KD S k (ci : Int) nn) (B : FB ci j N Cn T true) (P : FP N j T ty0 ty) (h13 : ci ≠ 13 ∧ ¬ (ci = 10 ∧ j = 11)) (hlink : Cond.fieldLink own ix ref (T j).2.1 (T j).2.2.1 ∈ lwb) (hsame : (T j).1 = ref ∨ Cond.sameField ref (T j).1 (T j).2.1 (T j).2.2.1 ∈ lwb) (hfin : (T j).2.2.2 = false ∨ ((T j).2.2.2 = true ∧ meth.name = "<init>" ∧ (T j).1 = own)) (hn : narrow ty (zP bs v) = zP bs v) (hfit : fits ty (zP bs v) = true) (hd : decode cc pc = .ok (.putfield ix, 3)) (h0 : 0 ≤ v) (hp : pc + 3 = pc') (kk : V D dT bs nL p l e R s m args below meth c cells slots Q h (uS S k j v) pc' L st) : V D dT bs nL p l e R s m args below meth c cells slots Q h S pc L (zP bs v :: zP bs k :: st) := by
  rw [← zN_nn h0] at hn hfit ⊢
  exact q_putR C hk B P h13 hlink hsame hfin hn hfit hd hp kk
theorem r_callIN (C : Cx D dT bs own cc nL ret p s m args meth c) {y : MethodName} {host : String} {bytes : ByteArray} {mL fr lo mc ms ix : Nat} {b : Int} {As rest : List Value} {av : Nat → List Value} {v : Nat → Option Value} {h' : HH} {S' : SS} (n : Nat) (hM : CM y bytes mL none fr lo mc ms av h S v h' S') (hav : av bs = zP bs b :: As) (w1 : Cond.methodLinkNest own ix y host ∈ lw_tbl) (w2 : Cond.instanceMethod y ∈ lwb) (w3 : Cond.initialized y.cls ∈ lwb) (w4 : Cond.code y bytes mL none ∈ lwb) (hy1 : y.name = "<init>") (hdd : y.cls ≠ "java/lang/invoke/MethodHandle" ∧ y.cls ≠ "java/lang/invoke/VarHandle" ∧ (parseMethodDescriptor y.desc).map (fun d => d.parameters.length) = some n) (hR : fr + 1 ≤ R.frames ∧ 8 + (mL + 11) + lo ≤ R.locals) (hn : As.length = n) (hst : st = As.reverse ++ zP bs b :: rest) (hW : (rest.map fun v => v.category).sum ≤ 8) (hd : decode cc pc = .ok (.invokespecial ix, 3)) (hp : pc + 3 = pc') (hf : cells + mc ≤ R.cells ∧ slots + ms ≤ R.slots)
    (kk : V D dT bs nL p l e R s m args below meth c (cells + mc) (slots + ms) Q h' S' pc' L ((v bs).toList ++ rest)) : V D dT bs nL p l e R s m args below meth c cells slots Q h S pc L st := by
  intro H locs ls hP hS hl
  subst hp
  subst hst
  have hM' := hM l D dT bs
  rw [hav] at hM'
  have hts := C.2.2.2.2.1
  refine z_call (va_runIN (host := host) (As := As) (rest := rest) (b := bs + b.toNat) (g := F0 m pc ls (As.reverse ++ zP bs b :: rest)) ⟨C.1, C.2.1, C.2.2.1, C.2.2.2.1, hts⟩ hM' ⟨va_cnB n hts (lwb_codeIn w4) rfl rfl rfl (zx_nest C w1) (hts _ w3) hdd hR, hy1, hts _ w2⟩ ⟨PP_blind, fun U hU hW => PP_at C hP hS hU hW⟩ rfl hn hl.1 rfl (lv_room hW) hd hf) hS (fun H1 locs1 hP1 hS1 => ?_)
  exact kk H1 locs1 ls hP1 hS1 hl
theorem r_putEc (C : Cx D dT bs own cc nL ret p s m args meth c) {ix : Nat} {k nn : Int} (hk : KD S k 13 nn) (hlink : Cond.fieldLink own ix "java/util/ArrayList" "elementData" "[Ljava/lang/Object;" ∈ lwb) (hd : decode cc pc = .ok (.putfield ix, 3)) (hp : pc + 3 = pc') (kk : V D dT bs nL p l e R s m args below meth c cells slots Q (u2 h k 1 (-7)) S pc' L st) : V D dT bs nL p l e R s m args below meth c cells slots Q h S pc L (.ref dT.2.2.1 :: zP bs k :: st) := by
  intro H locs ls hP hS hl
  subst hp
  have hat := hP.at hk.1 hk.2.1
  rw [ent_obj (c := 13) hk (by decide)] at hat
  refine z_put (ty := .array (.object "java/lang/Object")) C.1 C.2.1 C.2.2.2.2.1 uin_13 tyJx4a65c tyJx4a65c_ok nmJx4a65c C.2.2.2.1 C.2.2.2.2.2.2.2.1 hat cl_13.2 1 (by decide) (C.2.2.2.2.1 _ hlink) (z_same C.2.2.2.2.1 (Or.inl rfl)) (Or.inl rfl) (by decide +kernel) rfl rfl (by rw [fldV_len]; decide +kernel) hd (fun H1 sl h1 e2 e3 => ?_)
  refine kk H1 _ ls (hP.set hk.1 hk.2.1 rfl e2 e3 (fun a ha => ent_u2_ne ha) ?_) (AA_S hS e2 e3) hl
  rw [ent_obj (c := 13) (h := u2 h k 1 (-7)) (n := nn) hk (by decide), ← fldV_set (h := h) (S := S) (j := 1) (v := .ref dT.2.2.1) (by decide +kernel) (by rw [fldV_refE (by decide +kernel) (by decide +kernel), show u2 h k 1 (-7) k ((1 : Nat) : Int) = -7 from by simp [u2], oE_c rfl]) (fun i hi => by have hi' : i ≠ 1 := hi; simp [u2, hi']) (fun i hi => rfl)]
  exact h1
end ZK
theorem t_linit1 {S : SS} {h : HH} {a : Int} : CM yJxa1e45_init_da8c8 cJxa1e45_init_da8c8 1 none 1 14 0 0 (fun bs => [zP bs a]) h S (fun _ => none) h S := by
  refine CM.intro (own := RJxa1e45) (by decide) rfl (fun _ => Nat.le_of_ble_eq_true rfl) ?_
  intro D dT bs p l e s m args below meth c C
  show V D dT bs 1 p l e _ s m args below meth c 0 0 _ h S 0 [(0, zP bs a)] []
  refine r_aload_n (pc' := 1) (f4 := 0) (i := 0) C 0 rfl rfl dJxa1e45_init_da8c8_0 rfl ?_
  refine r_objI (pc' := 4) C wd_266 wd_130 wd_131 (Nat.le_of_ble_eq_true rfl) (Nat.le_of_ble_eq_true rfl) dJxa1e45_init_da8c8_1 rfl ?_
  exact r_vret C dJxa1e45_init_da8c8_4
theorem t_linit2 {S : SS} {h : HH} {a : Int} (hk : KD S a 13 0) : CM yJxc12de_init_da8c8 cJxc12de_init_da8c8 1 none 2 40 0 0 (fun bs => [zP bs a]) h S (fun _ => none) (u2 h a 0 0) S := by
  refine CM.intro (own := RJxc12de) (by decide) rfl (fun _ => Nat.le_of_ble_eq_true rfl) ?_
  intro D dT bs p l e s m args below meth c C
  show V D dT bs 1 p l e _ s m args below meth c 0 0 _ h S 0 [(0, zP bs a)] []
  refine r_aload_n (pc' := 1) (f4 := 0) (i := 0) C 0 rfl rfl dJxc12de_init_da8c8_0 rfl ?_
  refine r_callI (pc' := 4) C 0 t_linit1 rfl (lwb_codeIn wd_265) wd_101 wd_263 wd_264 rfl ⟨by decide, by decide, by decide +kernel⟩ ⟨Nat.le_of_ble_eq_true rfl, Nat.le_of_ble_eq_true rfl⟩ rfl rfl (Nat.le_of_ble_eq_true rfl) dJxc12de_init_da8c8_1 rfl ⟨Nat.le_of_ble_eq_true rfl, Nat.le_of_ble_eq_true rfl⟩ ?_
  refine r_aload_n (pc' := 5) (f4 := 0) (i := 0) C 0 rfl rfl dJxc12de_init_da8c8_4 rfl ?_
  refine r_iconst (pc' := 6) C dJxc12de_init_da8c8_5 rfl ?_
  refine q_putI (pc' := 9) (j := 0) C hk fb_13_0 fp_13_0 wd_271 (Or.inl rfl) (Or.inl rfl) rfl rfl dJxc12de_init_da8c8_6 rfl ?_
  exact r_vret C dJxc12de_init_da8c8_9
theorem t_linit {S : SS} {h : HH} {a : Int} (hk : KD S a 13 0) : CM yJx4a65c_init_da8c8 cJx4a65c_init_da8c8 1 none 3 60 0 0 (fun bs => [zP bs a]) h S (fun _ => none) (u2 (u2 h a 0 0) a 1 (-7)) S := by
  refine CM.intro (own := RJx4a65c) (by decide) rfl (fun _ => Nat.le_of_ble_eq_true rfl) ?_
  intro D dT bs p l e s m args below meth c C
  show V D dT bs 1 p l e _ s m args below meth c 0 0 _ h S 0 [(0, zP bs a)] []
  obtain ⟨hz, hT⟩ := zx_empty C (in_t1 (List.mem_of_getElem? (i := 174) (by decide +kernel))) (in_t1 (List.mem_of_getElem? (i := 9) (by decide +kernel)))
  refine r_aload_n (pc' := 1) (f4 := 0) (i := 0) C 0 rfl rfl dJx4a65c_init_da8c8_0 rfl ?_
  refine r_callI (pc' := 4) C 0 (t_linit2 hk) rfl (lwb_codeIn wd_262) wd_102 wd_260 wd_261 rfl ⟨by decide, by decide, by decide +kernel⟩ ⟨Nat.le_of_ble_eq_true rfl, Nat.le_of_ble_eq_true rfl⟩ rfl rfl (Nat.le_of_ble_eq_true rfl) dJx4a65c_init_da8c8_1 rfl ⟨Nat.le_of_ble_eq_true rfl, Nat.le_of_ble_eq_true rfl⟩ ?_
  refine r_aload_n (pc' := 5) (f4 := 0) (i := 0) C 0 rfl rfl dJx4a65c_init_da8c8_4 rfl ?_
  refine r_ogets (pc' := 8) C hz wd_267 rfl dJx4a65c_init_da8c8_5 rfl ?_
  refine r_putEc (pc' := 11) C hk wd_269 dJx4a65c_init_da8c8_8 rfl ?_
  exact r_vret C dJx4a65c_init_da8c8_11
theorem ww_n11 : ww 11 = 11 := by decide
theorem ww_n12 : ww 12 = 12 := by decide
theorem ww_n13 : ww 13 = 13 := by decide
theorem ww_n14 : ww 14 = 14 := by decide
theorem ww_n15 : ww 15 = 15 := by decide
theorem ww_n101 : ww 101 = 101 := by decide
theorem ww_n360 : ww 360 = 360 := by decide
theorem ww_n600 : ww 600 = 600 := by decide
theorem fbc_5_2 : FB 5 2 5 RX5 TX5 true := ⟨by decide, rfl, uin_5, by decide, by decide +kernel⟩
theorem fbc_5_3 : FB 5 3 5 RX5 TX5 true := ⟨by decide, rfl, uin_5, by decide, by decide +kernel⟩
theorem fbc_6_0 : FB 6 0 4 RX6 TX6 true := ⟨by decide, rfl, uin_6, by decide, by decide +kernel⟩
theorem fbc_7_0 : FB 7 0 2 RX7 TX7 true := ⟨by decide, rfl, uin_7, by decide, by decide +kernel⟩
theorem fbc_10_0 : FB 10 0 13 RX10 TX10 true := ⟨by decide, rfl, uin_10, by decide, by decide +kernel⟩
theorem fbc_10_1 : FB 10 1 13 RX10 TX10 true := ⟨by decide, rfl, uin_10, by decide, by decide +kernel⟩
theorem fbc_10_2 : FB 10 2 13 RX10 TX10 true := ⟨by decide, rfl, uin_10, by decide, by decide +kernel⟩
theorem fbc_10_3 : FB 10 3 13 RX10 TX10 true := ⟨by decide, rfl, uin_10, by decide, by decide +kernel⟩
theorem fbc_10_5 : FB 10 5 13 RX10 TX10 true := ⟨by decide, rfl, uin_10, by decide, by decide +kernel⟩
theorem fbc_10_6 : FB 10 6 13 RX10 TX10 true := ⟨by decide, rfl, uin_10, by decide, by decide +kernel⟩
theorem fbc_10_8 : FB 10 8 13 RX10 TX10 true := ⟨by decide, rfl, uin_10, by decide, by decide +kernel⟩
theorem fbc_10_9 : FB 10 9 13 RX10 TX10 true := ⟨by decide, rfl, uin_10, by decide, by decide +kernel⟩
theorem fbc_10_10 : FB 10 10 13 RX10 TX10 true := ⟨by decide, rfl, uin_10, by decide, by decide +kernel⟩
theorem fbc_10_12 : FB 10 12 13 RX10 TX10 true := ⟨by decide, rfl, uin_10, by decide, by decide +kernel⟩
theorem fbc_11_0 : FB 11 0 13 RX11 TX11 true := ⟨by decide, rfl, uin_11, by decide, by decide +kernel⟩
theorem fbc_11_1 : FB 11 1 13 RX11 TX11 true := ⟨by decide, rfl, uin_11, by decide, by decide +kernel⟩
theorem fbc_11_2 : FB 11 2 13 RX11 TX11 true := ⟨by decide, rfl, uin_11, by decide, by decide +kernel⟩
theorem fbc_11_4 : FB 11 4 13 RX11 TX11 true := ⟨by decide, rfl, uin_11, by decide, by decide +kernel⟩
theorem fbc_11_5 : FB 11 5 13 RX11 TX11 true := ⟨by decide, rfl, uin_11, by decide, by decide +kernel⟩
theorem fbc_11_7 : FB 11 7 13 RX11 TX11 true := ⟨by decide, rfl, uin_11, by decide, by decide +kernel⟩
theorem fbc_11_8 : FB 11 8 13 RX11 TX11 true := ⟨by decide, rfl, uin_11, by decide, by decide +kernel⟩
theorem fbc_11_9 : FB 11 9 13 RX11 TX11 true := ⟨by decide, rfl, uin_11, by decide, by decide +kernel⟩
theorem fbc_11_10 : FB 11 10 13 RX11 TX11 true := ⟨by decide, rfl, uin_11, by decide, by decide +kernel⟩
theorem fbc_11_11 : FB 11 11 13 RX11 TX11 true := ⟨by decide, rfl, uin_11, by decide, by decide +kernel⟩
theorem fbc_11_12 : FB 11 12 13 RX11 TX11 true := ⟨by decide, rfl, uin_11, by decide, by decide +kernel⟩
theorem fbc_12_0 : FB 12 0 77 RX12 TX12 false := ⟨by decide, rfl, uin_12, by decide, by decide +kernel⟩
theorem fbc_12_1 : FB 12 1 77 RX12 TX12 false := ⟨by decide, rfl, uin_12, by decide, by decide +kernel⟩
theorem fbc_12_2 : FB 12 2 77 RX12 TX12 false := ⟨by decide, rfl, uin_12, by decide, by decide +kernel⟩
theorem fbc_12_3 : FB 12 3 77 RX12 TX12 true := ⟨by decide, rfl, uin_12, by decide, by decide +kernel⟩
theorem fbc_12_4 : FB 12 4 77 RX12 TX12 true := ⟨by decide, rfl, uin_12, by decide, by decide +kernel⟩
theorem fbc_12_5 : FB 12 5 77 RX12 TX12 true := ⟨by decide, rfl, uin_12, by decide, by decide +kernel⟩
theorem fbc_12_6 : FB 12 6 77 RX12 TX12 true := ⟨by decide, rfl, uin_12, by decide, by decide +kernel⟩
theorem fbc_12_7 : FB 12 7 77 RX12 TX12 true := ⟨by decide, rfl, uin_12, by decide, by decide +kernel⟩
theorem fbc_12_8 : FB 12 8 77 RX12 TX12 true := ⟨by decide, rfl, uin_12, by decide, by decide +kernel⟩
theorem fbc_12_9 : FB 12 9 77 RX12 TX12 false := ⟨by decide, rfl, uin_12, by decide, by decide +kernel⟩
theorem fbc_12_10 : FB 12 10 77 RX12 TX12 false := ⟨by decide, rfl, uin_12, by decide, by decide +kernel⟩
theorem fbc_12_11 : FB 12 11 77 RX12 TX12 false := ⟨by decide, rfl, uin_12, by decide, by decide +kernel⟩
theorem fbc_12_12 : FB 12 12 77 RX12 TX12 false := ⟨by decide, rfl, uin_12, by decide, by decide +kernel⟩
theorem fbc_12_13 : FB 12 13 77 RX12 TX12 false := ⟨by decide, rfl, uin_12, by decide, by decide +kernel⟩
theorem fbc_12_14 : FB 12 14 77 RX12 TX12 true := ⟨by decide, rfl, uin_12, by decide, by decide +kernel⟩
theorem fbc_12_15 : FB 12 15 77 RX12 TX12 true := ⟨by decide, rfl, uin_12, by decide, by decide +kernel⟩
theorem fbc_12_16 : FB 12 16 77 RX12 TX12 true := ⟨by decide, rfl, uin_12, by decide, by decide +kernel⟩
theorem fbc_12_17 : FB 12 17 77 RX12 TX12 true := ⟨by decide, rfl, uin_12, by decide, by decide +kernel⟩
theorem fbc_12_18 : FB 12 18 77 RX12 TX12 true := ⟨by decide, rfl, uin_12, by decide, by decide +kernel⟩
theorem fbc_12_19 : FB 12 19 77 RX12 TX12 true := ⟨by decide, rfl, uin_12, by decide, by decide +kernel⟩
theorem fbc_12_20 : FB 12 20 77 RX12 TX12 true := ⟨by decide, rfl, uin_12, by decide, by decide +kernel⟩
theorem fbc_12_21 : FB 12 21 77 RX12 TX12 true := ⟨by decide, rfl, uin_12, by decide, by decide +kernel⟩
theorem fbc_12_22 : FB 12 22 77 RX12 TX12 false := ⟨by decide, rfl, uin_12, by decide, by decide +kernel⟩
theorem fbc_12_23 : FB 12 23 77 RX12 TX12 false := ⟨by decide, rfl, uin_12, by decide, by decide +kernel⟩
theorem fbc_12_24 : FB 12 24 77 RX12 TX12 false := ⟨by decide, rfl, uin_12, by decide, by decide +kernel⟩
theorem fbc_12_25 : FB 12 25 77 RX12 TX12 true := ⟨by decide, rfl, uin_12, by decide, by decide +kernel⟩
theorem fbc_12_26 : FB 12 26 77 RX12 TX12 true := ⟨by decide, rfl, uin_12, by decide, by decide +kernel⟩
theorem fbc_12_27 : FB 12 27 77 RX12 TX12 false := ⟨by decide, rfl, uin_12, by decide, by decide +kernel⟩
theorem fbc_12_28 : FB 12 28 77 RX12 TX12 false := ⟨by decide, rfl, uin_12, by decide, by decide +kernel⟩
theorem fbc_12_29 : FB 12 29 77 RX12 TX12 false := ⟨by decide, rfl, uin_12, by decide, by decide +kernel⟩
theorem fbc_12_30 : FB 12 30 77 RX12 TX12 true := ⟨by decide, rfl, uin_12, by decide, by decide +kernel⟩
theorem fbc_12_31 : FB 12 31 77 RX12 TX12 true := ⟨by decide, rfl, uin_12, by decide, by decide +kernel⟩
theorem fbc_12_32 : FB 12 32 77 RX12 TX12 true := ⟨by decide, rfl, uin_12, by decide, by decide +kernel⟩
theorem fbc_12_33 : FB 12 33 77 RX12 TX12 true := ⟨by decide, rfl, uin_12, by decide, by decide +kernel⟩
theorem fbc_12_34 : FB 12 34 77 RX12 TX12 true := ⟨by decide, rfl, uin_12, by decide, by decide +kernel⟩
theorem fbc_12_35 : FB 12 35 77 RX12 TX12 true := ⟨by decide, rfl, uin_12, by decide, by decide +kernel⟩
theorem fbc_12_36 : FB 12 36 77 RX12 TX12 false := ⟨by decide, rfl, uin_12, by decide, by decide +kernel⟩
theorem fbc_12_37 : FB 12 37 77 RX12 TX12 false := ⟨by decide, rfl, uin_12, by decide, by decide +kernel⟩
theorem fbc_12_38 : FB 12 38 77 RX12 TX12 false := ⟨by decide, rfl, uin_12, by decide, by decide +kernel⟩
theorem fbc_12_39 : FB 12 39 77 RX12 TX12 true := ⟨by decide, rfl, uin_12, by decide, by decide +kernel⟩
theorem fbc_12_40 : FB 12 40 77 RX12 TX12 true := ⟨by decide, rfl, uin_12, by decide, by decide +kernel⟩
theorem fbc_12_41 : FB 12 41 77 RX12 TX12 true := ⟨by decide, rfl, uin_12, by decide, by decide +kernel⟩
theorem fbc_12_42 : FB 12 42 77 RX12 TX12 true := ⟨by decide, rfl, uin_12, by decide, by decide +kernel⟩
theorem fbc_12_43 : FB 12 43 77 RX12 TX12 false := ⟨by decide, rfl, uin_12, by decide, by decide +kernel⟩
theorem fbc_12_44 : FB 12 44 77 RX12 TX12 false := ⟨by decide, rfl, uin_12, by decide, by decide +kernel⟩
theorem fbc_12_45 : FB 12 45 77 RX12 TX12 true := ⟨by decide, rfl, uin_12, by decide, by decide +kernel⟩
theorem fbc_12_46 : FB 12 46 77 RX12 TX12 true := ⟨by decide, rfl, uin_12, by decide, by decide +kernel⟩
theorem fbc_12_47 : FB 12 47 77 RX12 TX12 true := ⟨by decide, rfl, uin_12, by decide, by decide +kernel⟩
theorem fbc_12_48 : FB 12 48 77 RX12 TX12 true := ⟨by decide, rfl, uin_12, by decide, by decide +kernel⟩
theorem fbc_12_49 : FB 12 49 77 RX12 TX12 false := ⟨by decide, rfl, uin_12, by decide, by decide +kernel⟩
theorem fbc_12_50 : FB 12 50 77 RX12 TX12 false := ⟨by decide, rfl, uin_12, by decide, by decide +kernel⟩
theorem fbc_12_51 : FB 12 51 77 RX12 TX12 false := ⟨by decide, rfl, uin_12, by decide, by decide +kernel⟩
theorem fbc_12_52 : FB 12 52 77 RX12 TX12 false := ⟨by decide, rfl, uin_12, by decide, by decide +kernel⟩
theorem fbc_12_53 : FB 12 53 77 RX12 TX12 false := ⟨by decide, rfl, uin_12, by decide, by decide +kernel⟩
theorem fbc_12_54 : FB 12 54 77 RX12 TX12 false := ⟨by decide, rfl, uin_12, by decide, by decide +kernel⟩
theorem fbc_12_55 : FB 12 55 77 RX12 TX12 false := ⟨by decide, rfl, uin_12, by decide, by decide +kernel⟩
theorem fbc_12_56 : FB 12 56 77 RX12 TX12 false := ⟨by decide, rfl, uin_12, by decide, by decide +kernel⟩
theorem fbc_12_57 : FB 12 57 77 RX12 TX12 true := ⟨by decide, rfl, uin_12, by decide, by decide +kernel⟩
theorem fbc_12_58 : FB 12 58 77 RX12 TX12 true := ⟨by decide, rfl, uin_12, by decide, by decide +kernel⟩
theorem fbc_12_59 : FB 12 59 77 RX12 TX12 true := ⟨by decide, rfl, uin_12, by decide, by decide +kernel⟩
theorem fbc_12_60 : FB 12 60 77 RX12 TX12 true := ⟨by decide, rfl, uin_12, by decide, by decide +kernel⟩
theorem fbc_12_61 : FB 12 61 77 RX12 TX12 true := ⟨by decide, rfl, uin_12, by decide, by decide +kernel⟩
theorem fbc_12_62 : FB 12 62 77 RX12 TX12 true := ⟨by decide, rfl, uin_12, by decide, by decide +kernel⟩
theorem fbc_12_63 : FB 12 63 77 RX12 TX12 true := ⟨by decide, rfl, uin_12, by decide, by decide +kernel⟩
theorem fbc_12_64 : FB 12 64 77 RX12 TX12 true := ⟨by decide, rfl, uin_12, by decide, by decide +kernel⟩
theorem fbc_12_65 : FB 12 65 77 RX12 TX12 true := ⟨by decide, rfl, uin_12, by decide, by decide +kernel⟩
theorem fbc_12_66 : FB 12 66 77 RX12 TX12 true := ⟨by decide, rfl, uin_12, by decide, by decide +kernel⟩
theorem fbc_12_67 : FB 12 67 77 RX12 TX12 true := ⟨by decide, rfl, uin_12, by decide, by decide +kernel⟩
theorem fbc_12_68 : FB 12 68 77 RX12 TX12 true := ⟨by decide, rfl, uin_12, by decide, by decide +kernel⟩
theorem fbc_12_69 : FB 12 69 77 RX12 TX12 true := ⟨by decide, rfl, uin_12, by decide, by decide +kernel⟩
theorem fbc_12_70 : FB 12 70 77 RX12 TX12 true := ⟨by decide, rfl, uin_12, by decide, by decide +kernel⟩
theorem fbc_12_71 : FB 12 71 77 RX12 TX12 false := ⟨by decide, rfl, uin_12, by decide, by decide +kernel⟩
theorem fbc_12_72 : FB 12 72 77 RX12 TX12 true := ⟨by decide, rfl, uin_12, by decide, by decide +kernel⟩
theorem fbc_12_73 : FB 12 73 77 RX12 TX12 true := ⟨by decide, rfl, uin_12, by decide, by decide +kernel⟩
theorem fbc_12_74 : FB 12 74 77 RX12 TX12 true := ⟨by decide, rfl, uin_12, by decide, by decide +kernel⟩
theorem fbc_12_75 : FB 12 75 77 RX12 TX12 true := ⟨by decide, rfl, uin_12, by decide, by decide +kernel⟩
theorem fbc_12_76 : FB 12 76 77 RX12 TX12 true := ⟨by decide, rfl, uin_12, by decide, by decide +kernel⟩
theorem fpc_5_2 : FP 5 2 TX5 tyX5 (.array .int) := ⟨tyX5_ok, nmX5, by decide +kernel⟩
theorem fpc_5_3 : FP 5 3 TX5 tyX5 (.array .int) := ⟨tyX5_ok, nmX5, by decide +kernel⟩
theorem fpc_6_0 : FP 4 0 TX6 tyX6 (.array .int) := ⟨tyX6_ok, nmX6, by decide +kernel⟩
theorem fpc_7_0 : FP 2 0 TX7 tyX7 (.array (.array .int)) := ⟨tyX7_ok, nmX7, by decide +kernel⟩
theorem fpc_10_0 : FP 13 0 TX10 tyX10 (.array (.object "WassailEnemies$Hater")) := ⟨tyX10_ok, nmX10, by decide +kernel⟩
theorem fpc_10_1 : FP 13 1 TX10 tyX10 (.array .boolean) := ⟨tyX10_ok, nmX10, by decide +kernel⟩
theorem fpc_10_2 : FP 13 2 TX10 tyX10 (.array (.array .int)) := ⟨tyX10_ok, nmX10, by decide +kernel⟩
theorem fpc_10_3 : FP 13 3 TX10 tyX10 (.array (.array .int)) := ⟨tyX10_ok, nmX10, by decide +kernel⟩
theorem fpc_10_5 : FP 13 5 TX10 tyX10 (.array .int) := ⟨tyX10_ok, nmX10, by decide +kernel⟩
theorem fpc_10_6 : FP 13 6 TX10 tyX10 (.array .int) := ⟨tyX10_ok, nmX10, by decide +kernel⟩
theorem fpc_10_8 : FP 13 8 TX10 tyX10 (.object "WassailEnemies$Rows") := ⟨tyX10_ok, nmX10, by decide +kernel⟩
theorem fpc_10_9 : FP 13 9 TX10 tyX10 (.object "WassailEnemies$Rows") := ⟨tyX10_ok, nmX10, by decide +kernel⟩
theorem fpc_10_10 : FP 13 10 TX10 tyX10 (.object "WassailEnemies$Rows") := ⟨tyX10_ok, nmX10, by decide +kernel⟩
theorem fpc_10_12 : FP 13 12 TX10 tyX10 (.array .int) := ⟨tyX10_ok, nmX10, by decide +kernel⟩
theorem fpc_11_0 : FP 13 0 TX11 tyX11 (.object "WassailEnemies$World") := ⟨tyX11_ok, nmX11, by decide +kernel⟩
theorem fpc_11_1 : FP 13 1 TX11 tyX11 (.object "WassailEnemies$World") := ⟨tyX11_ok, nmX11, by decide +kernel⟩
theorem fpc_11_2 : FP 13 2 TX11 tyX11 (.object "WassailEnemies$World") := ⟨tyX11_ok, nmX11, by decide +kernel⟩
theorem fpc_11_4 : FP 13 4 TX11 tyX11 (.object "WassailEnemies$Reader") := ⟨tyX11_ok, nmX11, by decide +kernel⟩
theorem fpc_11_5 : FP 13 5 TX11 tyX11 (.array (.object "WassailEnemies$Orchard")) := ⟨tyX11_ok, nmX11, by decide +kernel⟩
theorem fpc_11_7 : FP 13 7 TX11 tyX11 (.object "java/util/ArrayList") := ⟨tyX11_ok, nmX11, by decide +kernel⟩
theorem fpc_11_8 : FP 13 8 TX11 tyX11 (.array (.array .int)) := ⟨tyX11_ok, nmX11, by decide +kernel⟩
theorem fpc_11_9 : FP 13 9 TX11 tyX11 (.array (.array .int)) := ⟨tyX11_ok, nmX11, by decide +kernel⟩
theorem fpc_11_10 : FP 13 10 TX11 tyX11 (.array .int) := ⟨tyX11_ok, nmX11, by decide +kernel⟩
theorem fpc_11_11 : FP 13 11 TX11 tyX11 (.array .int) := ⟨tyX11_ok, nmX11, by decide +kernel⟩
theorem fpc_11_12 : FP 13 12 TX11 tyX11 (.array (.array .long)) := ⟨tyX11_ok, nmX11, by decide +kernel⟩
theorem fpc_12_0 : FP 77 0 TX12 tyX12 .int := ⟨tyX12_ok, nmX12, by decide +kernel⟩
theorem fpc_12_1 : FP 77 1 TX12 tyX12 .int := ⟨tyX12_ok, nmX12, by decide +kernel⟩
theorem fpc_12_2 : FP 77 2 TX12 tyX12 .int := ⟨tyX12_ok, nmX12, by decide +kernel⟩
theorem fpc_12_3 : FP 77 3 TX12 tyX12 (.array .int) := ⟨tyX12_ok, nmX12, by decide +kernel⟩
theorem fpc_12_4 : FP 77 4 TX12 tyX12 (.array .int) := ⟨tyX12_ok, nmX12, by decide +kernel⟩
theorem fpc_12_5 : FP 77 5 TX12 tyX12 (.array .int) := ⟨tyX12_ok, nmX12, by decide +kernel⟩
theorem fpc_12_6 : FP 77 6 TX12 tyX12 (.array .int) := ⟨tyX12_ok, nmX12, by decide +kernel⟩
theorem fpc_12_7 : FP 77 7 TX12 tyX12 (.array .int) := ⟨tyX12_ok, nmX12, by decide +kernel⟩
theorem fpc_12_8 : FP 77 8 TX12 tyX12 (.array .int) := ⟨tyX12_ok, nmX12, by decide +kernel⟩
theorem fpc_12_9 : FP 77 9 TX12 tyX12 .int := ⟨tyX12_ok, nmX12, by decide +kernel⟩
theorem fpc_12_10 : FP 77 10 TX12 tyX12 .int := ⟨tyX12_ok, nmX12, by decide +kernel⟩
theorem fpc_12_11 : FP 77 11 TX12 tyX12 .int := ⟨tyX12_ok, nmX12, by decide +kernel⟩
theorem fpc_12_12 : FP 77 12 TX12 tyX12 .int := ⟨tyX12_ok, nmX12, by decide +kernel⟩
theorem fpc_12_13 : FP 77 13 TX12 tyX12 .int := ⟨tyX12_ok, nmX12, by decide +kernel⟩
theorem fpc_12_14 : FP 77 14 TX12 tyX12 (.array .int) := ⟨tyX12_ok, nmX12, by decide +kernel⟩
theorem fpc_12_15 : FP 77 15 TX12 tyX12 (.array .int) := ⟨tyX12_ok, nmX12, by decide +kernel⟩
theorem fpc_12_16 : FP 77 16 TX12 tyX12 (.array .int) := ⟨tyX12_ok, nmX12, by decide +kernel⟩
theorem fpc_12_17 : FP 77 17 TX12 tyX12 (.array .int) := ⟨tyX12_ok, nmX12, by decide +kernel⟩
theorem fpc_12_18 : FP 77 18 TX12 tyX12 (.array .int) := ⟨tyX12_ok, nmX12, by decide +kernel⟩
theorem fpc_12_19 : FP 77 19 TX12 tyX12 (.array .int) := ⟨tyX12_ok, nmX12, by decide +kernel⟩
theorem fpc_12_20 : FP 77 20 TX12 tyX12 (.array .int) := ⟨tyX12_ok, nmX12, by decide +kernel⟩
theorem fpc_12_21 : FP 77 21 TX12 tyX12 (.array .int) := ⟨tyX12_ok, nmX12, by decide +kernel⟩
theorem fpc_12_22 : FP 77 22 TX12 tyX12 .int := ⟨tyX12_ok, nmX12, by decide +kernel⟩
theorem fpc_12_23 : FP 77 23 TX12 tyX12 .int := ⟨tyX12_ok, nmX12, by decide +kernel⟩
theorem fpc_12_24 : FP 77 24 TX12 tyX12 .int := ⟨tyX12_ok, nmX12, by decide +kernel⟩
theorem fpc_12_25 : FP 77 25 TX12 tyX12 (.array .int) := ⟨tyX12_ok, nmX12, by decide +kernel⟩
theorem fpc_12_26 : FP 77 26 TX12 tyX12 (.array .boolean) := ⟨tyX12_ok, nmX12, by decide +kernel⟩
theorem fpc_12_27 : FP 77 27 TX12 tyX12 .int := ⟨tyX12_ok, nmX12, by decide +kernel⟩
theorem fpc_12_28 : FP 77 28 TX12 tyX12 .int := ⟨tyX12_ok, nmX12, by decide +kernel⟩
theorem fpc_12_29 : FP 77 29 TX12 tyX12 .int := ⟨tyX12_ok, nmX12, by decide +kernel⟩
theorem fpc_12_30 : FP 77 30 TX12 tyX12 (.array .int) := ⟨tyX12_ok, nmX12, by decide +kernel⟩
theorem fpc_12_31 : FP 77 31 TX12 tyX12 (.array .int) := ⟨tyX12_ok, nmX12, by decide +kernel⟩
theorem fpc_12_32 : FP 77 32 TX12 tyX12 (.array .int) := ⟨tyX12_ok, nmX12, by decide +kernel⟩
theorem fpc_12_33 : FP 77 33 TX12 tyX12 (.array .int) := ⟨tyX12_ok, nmX12, by decide +kernel⟩
theorem fpc_12_34 : FP 77 34 TX12 tyX12 (.array .int) := ⟨tyX12_ok, nmX12, by decide +kernel⟩
theorem fpc_12_35 : FP 77 35 TX12 tyX12 (.array .int) := ⟨tyX12_ok, nmX12, by decide +kernel⟩
theorem fpc_12_36 : FP 77 36 TX12 tyX12 .int := ⟨tyX12_ok, nmX12, by decide +kernel⟩
theorem fpc_12_37 : FP 77 37 TX12 tyX12 .int := ⟨tyX12_ok, nmX12, by decide +kernel⟩
theorem fpc_12_38 : FP 77 38 TX12 tyX12 .int := ⟨tyX12_ok, nmX12, by decide +kernel⟩
theorem fpc_12_39 : FP 77 39 TX12 tyX12 (.array .int) := ⟨tyX12_ok, nmX12, by decide +kernel⟩
theorem fpc_12_40 : FP 77 40 TX12 tyX12 (.array .int) := ⟨tyX12_ok, nmX12, by decide +kernel⟩
theorem fpc_12_41 : FP 77 41 TX12 tyX12 (.array .int) := ⟨tyX12_ok, nmX12, by decide +kernel⟩
theorem fpc_12_42 : FP 77 42 TX12 tyX12 (.array .boolean) := ⟨tyX12_ok, nmX12, by decide +kernel⟩
theorem fpc_12_43 : FP 77 43 TX12 tyX12 .int := ⟨tyX12_ok, nmX12, by decide +kernel⟩
theorem fpc_12_44 : FP 77 44 TX12 tyX12 .int := ⟨tyX12_ok, nmX12, by decide +kernel⟩
theorem fpc_12_45 : FP 77 45 TX12 tyX12 (.array .int) := ⟨tyX12_ok, nmX12, by decide +kernel⟩
theorem fpc_12_46 : FP 77 46 TX12 tyX12 (.array .int) := ⟨tyX12_ok, nmX12, by decide +kernel⟩
theorem fpc_12_47 : FP 77 47 TX12 tyX12 (.array .int) := ⟨tyX12_ok, nmX12, by decide +kernel⟩
theorem fpc_12_48 : FP 77 48 TX12 tyX12 (.array .int) := ⟨tyX12_ok, nmX12, by decide +kernel⟩
theorem fpc_12_49 : FP 77 49 TX12 tyX12 .boolean := ⟨tyX12_ok, nmX12, by decide +kernel⟩
theorem fpc_12_50 : FP 77 50 TX12 tyX12 .int := ⟨tyX12_ok, nmX12, by decide +kernel⟩
theorem fpc_12_51 : FP 77 51 TX12 tyX12 .int := ⟨tyX12_ok, nmX12, by decide +kernel⟩
theorem fpc_12_52 : FP 77 52 TX12 tyX12 .int := ⟨tyX12_ok, nmX12, by decide +kernel⟩
theorem fpc_12_53 : FP 77 53 TX12 tyX12 .int := ⟨tyX12_ok, nmX12, by decide +kernel⟩
theorem fpc_12_54 : FP 77 54 TX12 tyX12 .int := ⟨tyX12_ok, nmX12, by decide +kernel⟩
theorem fpc_12_55 : FP 77 55 TX12 tyX12 .int := ⟨tyX12_ok, nmX12, by decide +kernel⟩
theorem fpc_12_56 : FP 77 56 TX12 tyX12 .int := ⟨tyX12_ok, nmX12, by decide +kernel⟩
theorem fpc_12_57 : FP 77 57 TX12 tyX12 (.array .int) := ⟨tyX12_ok, nmX12, by decide +kernel⟩
theorem fpc_12_58 : FP 77 58 TX12 tyX12 (.array .int) := ⟨tyX12_ok, nmX12, by decide +kernel⟩
theorem fpc_12_59 : FP 77 59 TX12 tyX12 (.array .int) := ⟨tyX12_ok, nmX12, by decide +kernel⟩
theorem fpc_12_60 : FP 77 60 TX12 tyX12 (.array .int) := ⟨tyX12_ok, nmX12, by decide +kernel⟩
theorem fpc_12_61 : FP 77 61 TX12 tyX12 (.array .int) := ⟨tyX12_ok, nmX12, by decide +kernel⟩
theorem fpc_12_62 : FP 77 62 TX12 tyX12 (.array .int) := ⟨tyX12_ok, nmX12, by decide +kernel⟩
theorem fpc_12_63 : FP 77 63 TX12 tyX12 (.array .int) := ⟨tyX12_ok, nmX12, by decide +kernel⟩
theorem fpc_12_64 : FP 77 64 TX12 tyX12 (.array .int) := ⟨tyX12_ok, nmX12, by decide +kernel⟩
theorem fpc_12_65 : FP 77 65 TX12 tyX12 (.array .int) := ⟨tyX12_ok, nmX12, by decide +kernel⟩
theorem fpc_12_66 : FP 77 66 TX12 tyX12 (.array .int) := ⟨tyX12_ok, nmX12, by decide +kernel⟩
theorem fpc_12_67 : FP 77 67 TX12 tyX12 (.array .int) := ⟨tyX12_ok, nmX12, by decide +kernel⟩
theorem fpc_12_68 : FP 77 68 TX12 tyX12 (.array .int) := ⟨tyX12_ok, nmX12, by decide +kernel⟩
theorem fpc_12_69 : FP 77 69 TX12 tyX12 (.array .int) := ⟨tyX12_ok, nmX12, by decide +kernel⟩
theorem fpc_12_70 : FP 77 70 TX12 tyX12 (.array .boolean) := ⟨tyX12_ok, nmX12, by decide +kernel⟩
theorem fpc_12_71 : FP 77 71 TX12 tyX12 .int := ⟨tyX12_ok, nmX12, by decide +kernel⟩
theorem fpc_12_72 : FP 77 72 TX12 tyX12 (.array .int) := ⟨tyX12_ok, nmX12, by decide +kernel⟩
theorem fpc_12_73 : FP 77 73 TX12 tyX12 (.array .int) := ⟨tyX12_ok, nmX12, by decide +kernel⟩
theorem fpc_12_74 : FP 77 74 TX12 tyX12 (.array .int) := ⟨tyX12_ok, nmX12, by decide +kernel⟩
theorem fpc_12_75 : FP 77 75 TX12 tyX12 (.array .long) := ⟨tyX12_ok, nmX12, by decide +kernel⟩
theorem fpc_12_76 : FP 77 76 TX12 tyX12 (.array .long) := ⟨tyX12_ok, nmX12, by decide +kernel⟩
theorem dvc_5 : ∀ j, j < 5 → defaultValue (tyX5 j) = if fR 5 j then .null else zI 0 := by
  intro j hj
  match j, hj with
  | 0, _ => rfl
  | 1, _ => rfl
  | 2, _ => rfl
  | 3, _ => rfl
  | 4, _ => rfl
theorem dvc_6 : ∀ j, j < 4 → defaultValue (tyX6 j) = if fR 6 j then .null else zI 0 := by
  intro j hj
  match j, hj with
  | 0, _ => rfl
  | 1, _ => rfl
  | 2, _ => rfl
  | 3, _ => rfl
theorem dvc_7 : ∀ j, j < 2 → defaultValue (tyX7 j) = if fR 7 j then .null else zI 0 := by
  intro j hj
  match j, hj with
  | 0, _ => rfl
  | 1, _ => rfl
theorem dvc_10 : ∀ j, j < 13 → defaultValue (tyX10 j) = if fR 10 j then .null else zI 0 := by
  intro j hj
  match j, hj with
  | 0, _ => rfl
  | 1, _ => rfl
  | 2, _ => rfl
  | 3, _ => rfl
  | 4, _ => rfl
  | 5, _ => rfl
  | 6, _ => rfl
  | 7, _ => rfl
  | 8, _ => rfl
  | 9, _ => rfl
  | 10, _ => rfl
  | 11, _ => rfl
  | 12, _ => rfl
theorem dvc_13 : ∀ j, j < 3 → defaultValue (tyJx4a65c j) = if fR 13 j then .null else zI 0 := by
  intro j hj
  match j, hj with
  | 0, _ => rfl
  | 1, _ => rfl
  | 2, _ => rfl
theorem ws_RX11_65 : WS RX11 65 yJ7_fill_53178 cJ7_fill_53178 4 (Option.none : Option Jvm.ClassFile.FieldType) 2 := ⟨lwb_callS wd_310 wd_172 wd_99 wd_173, by decide, by decide, by decide +kernel⟩
theorem sl_RX10_51 : Site RX10 51 "ptkvhy" [112, 116, 107, 118, 104, 121] := ⟨by decide, in_t1 (List.mem_of_getElem? (i := 66) (by decide +kernel)), by decide +kernel, by decide +kernel, by decide +kernel, by decide +kernel, by decide +kernel⟩
theorem wvs_RX10_53 : WV RX10 53 "java/lang/String" yJ0_length_8abf5 cJ0_length_8abf5 1 (some .int) 0 := ⟨lwb_callV wd_161 wd_162 wd_163 wd_98 wd_164, rfl, by decide, by decide, by decide +kernel⟩
section
variable {D : va_G} {dT : ZT} {bs : Nat} {p : Program} {l : Launch} {e : Env} {s : State} {m : MethodId} {args : Array Value} {below : List Frame} {meth : Method} {c : Code} {S : SS}
set_option maxHeartbeats 4000000 in
set_option maxRecDepth 100000 in
theorem w0_j_fillI_L5 (C : Cx D dT bs RJ7 cJ7_fill_53178 4 (Option.none : Option Jvm.ClassFile.FieldType) p s m args meth c) {nn : Int} (x0 : Int) (hx0 : KD S x0 20 nn) (x1 : Int) (x3 : Int) {res : HH} :
    ∀ (n : Nat) (h : HH) (x2 : Int), j_fillI_L5 nn x0 x1 x3 n h x2 = some res → V D dT bs 4 p l e rm_j_fillI s m args below meth c 0 0 (MQ below (QQ D dT bs none res S) args s 0 0 (AA bs)) h S 5 [(0, zP bs x0), (1, zI x1), (2, zI x2), (3, zI x3)] [] := by
  intro n
  induction n with
  | zero => intro h x2 hf; simp [j_fillI_L5] at hf
  | succ n5 ih5 =>
    intro h x2 hf
    rw [j_fillI_L5] at hf
    refine r_iload_n (pc' := 6) (f4 := 2) (i := 2) C 2 rfl rfl dJ7_fill_53178_5 rfl ?_
    refine r_iload_n (pc' := 7) (f4 := 3) (i := 3) C 3 rfl rfl dJ7_fill_53178_6 rfl ?_
    refine r_icmp_ge (pc' := 10) (tgt := 20) C rfl rfl hf dJ7_fill_53178_7 (by decide) rfl (fun hf => ?_) (fun hf => ?_)
    · refine r_aload_n (pc' := 11) (f4 := 0) (i := 0) C 0 rfl rfl dJ7_fill_53178_10 rfl ?_
      refine r_iload_n (pc' := 12) (f4 := 2) (i := 2) C 2 rfl rfl dJ7_fill_53178_11 rfl ?_
      refine r_iload_n (pc' := 13) (f4 := 1) (i := 1) C 1 rfl rfl dJ7_fill_53178_12 rfl ?_
      obtain ⟨hi, hf⟩ := ck_in hf
      refine r_iast (pc' := 14) C hx0 rfl hi dJ7_fill_53178_13 rfl ?_
      refine r_iinc (pc' := 17) (i := 2) (L' := [(2, zI (x2 + 1)), (0, zP bs x0), (1, zI x1), (3, zI x3)]) C 2 rfl (by decide) rfl dJ7_fill_53178_14 rfl ?_
      refine r_goto (tgt := 5) C dJ7_fill_53178_17 (by decide) ?_
      refine V.sub (L' := [(0, zP bs x0), (1, zI x1), (2, zI (x2 + 1)), (3, zI x3)]) [1, 2, 0, 3] rfl ?_
      exact ih5 _ _ hf
    · cases hf
      exact r_vret C dJ7_fill_53178_20
set_option maxHeartbeats 4000000 in
set_option maxRecDepth 100000 in
theorem t0_j_fillI {S : SS} {h : HH} {nn : Int} (hnn : 0 ≤ nn ∧ nn ≤ 1000) {a0 : Int} (ha0 : KD S a0 20 nn) {a1 : Int} {res : HH} (hf : j_fillI nn h a0 a1 = some res) : CM yJ7_fill_53178 cJ7_fill_53178 4 (Option.none : Option Jvm.ClassFile.FieldType) 0 0 0 0 (fun bs => [zP bs a0, zI a1]) h S (fun _ => none) res S := by
  refine CM.intro (own := RJ7) (by decide) rfl (fun _ => Nat.le_of_ble_eq_true rfl) ?_
  intro D dT bs p l e s m args below meth c C
  show V D dT bs 4 p l e rm_j_fillI s m args below meth c 0 0 _ h S 0 [(0, zP bs a0), (1, zI a1)] []
  unfold j_fillI at hf
  refine r_iconst (pc' := 1) C dJ7_fill_53178_0 rfl ?_
  refine r_istore_n (pc' := 2) (f4 := 2) (i := 2) (L' := [(2, zI 0), (0, zP bs a0), (1, zI a1)]) C rfl (by decide) rfl dJ7_fill_53178_1 rfl ?_
  refine r_aload_n (pc' := 3) (f4 := 0) (i := 0) C 1 rfl rfl dJ7_fill_53178_2 rfl ?_
  refine r_alen (pc' := 4) (t := 0) C ha0 (by decide) ⟨hnn.1, by omega⟩ dJ7_fill_53178_3 rfl ?_
  refine r_istore_n (pc' := 5) (f4 := 3) (i := 3) (L' := [(3, zI nn), (2, zI 0), (0, zP bs a0), (1, zI a1)]) C rfl (by decide) rfl dJ7_fill_53178_4 rfl ?_
  refine V.sub (L' := [(0, zP bs a0), (1, zI a1), (2, zI 0), (3, zI nn)]) [2, 3, 1, 0] rfl ?_
  refine w0_j_fillI_L5 C _ ha0 _ _ _ _ _ hf

end
theorem t0_fillI {S : SS} {h : HH} {k n v : Int} (hk : KD S k 20 n) (hn : 0 ≤ n ∧ n ≤ 1000) : CM yJ7_fill_53178 cJ7_fill_53178 4 (Option.none : Option Jvm.ClassFile.FieldType) 0 0 0 0 (fun bs => [zP bs k, zI v]) h S (fun _ => none) (flA h k n v) S := by
  refine t0_j_fillI hn hk ?_
  unfold j_fillI
  rw [j_fillI_L_eq hn FU h 0 (by omega) (by omega) (by unfold FU; omega)]
  rfl
def c_rows (h : HH) (S : SS) (a0 : Int) (n : Nat) : Option (HH × SS) :=
  (some (mnH h S.2 n, mnS S 23 20 n 4)).bind fun q1 => 
  (some (q1.1, uS q1.2 a0 0 (S.2 : Int))).bind fun q2 => 
  some (q2.1, q2.2)
theorem x_c_rows {S : SS} {h : HH} {a0 : Int} (ha0 : KD S a0 7 0) {n : Nat} (hn : n ≤ 1000) {res : HH × SS} (hf : c_rows h S a0 n = some res) : SXo S res.2 a0 := by
  unfold c_rows at hf
  have y0 : SXo S S a0 := SXo.rf
  have hlt0 := ha0.2.1
  have hb := bind_in hf
  clear hf
  obtain ⟨q1, eq1, hf⟩ := hb
  replace eq1 := (Option.some.inj eq1).symm
  have mq1 : S.2 ≤ q1.2.2 := by rw [eq1]; exact SXt.mnS.1
  have yq1 : SXo S q1.2 a0 := by rw [eq1]; exact SXo.tr y0 (SXt.o SXt.mnS (by omega))
  have hb := bind_in hf
  clear hf
  obtain ⟨q2, eq2, hf⟩ := hb
  replace eq2 := (Option.some.inj eq2).symm
  have mq2 : q1.2.2 ≤ q2.2.2 := by rw [eq2]; exact Nat.le_refl _
  have yq2 : SXo S q2.2 a0 := by rw [eq2]; exact SXo.tr yq1 (SXo.put (by decide))
  cases hf
  exact yq2
set_option maxHeartbeats 4000000 in
set_option maxRecDepth 100000 in
theorem t_c_rows {S : SS} {h : HH} {a0 : Int} (ha0 : KD S a0 7 0) {n : Nat} (hn : n ≤ 1000) {res : HH × SS} (hf : c_rows h S a0 n = some res) : CM yX7_init cX7_init 2 (Option.none : Option Jvm.ClassFile.FieldType) 1 12 (1 + n) (n + n * 4) (fun bs => [zP bs a0, zI n]) h S (fun _ => none) res.1 res.2 := by
  refine CMI.intro (own := RX7) rfl (by decide) rfl (fun _ => Nat.le_of_ble_eq_true rfl) ?_
  intro D dT bs p l e s m args below meth c C hin
  show V D dT bs 2 p l e { frames := 1, cells := (1 + n), slots := (n + n * 4), locals := 12 } s m args below meth c 0 0 _ h S 0 [(0, zP bs a0), (1, zI n)] []
  unfold c_rows at hf
  have hlt0 := ha0.2.1
  refine r_aload_n (pc' := 1) (f4 := 0) (i := 0) C 0 rfl rfl dX7_init_0 rfl ?_
  refine r_objI (pc' := 4) C wd_147 wd_130 wd_131 (Nat.le_of_ble_eq_true rfl) (Nat.le_of_ble_eq_true rfl) dX7_init_1 rfl ?_
  refine r_aload_n (pc' := 5) (f4 := 0) (i := 0) C 0 rfl rfl dX7_init_4 rfl ?_
  refine r_iload_n (pc' := 6) (f4 := 1) (i := 1) C 1 rfl rfl dX7_init_5 rfl ?_
  refine r_iconst (pc' := 7) C dX7_init_6 rfl ?_
  have hb := bind_in hf
  clear hf
  obtain ⟨q1, eq1, hf⟩ := hb
  refine r_multi (n := n) (k := 4) (to := 3) (ti := 0) (ty := .int) (pc' := 11) C (by decide) hn (by decide) wd_148 (in_t1 (List.mem_of_getElem? (i := 47) (by decide +kernel))) wd_159 ⟨by show (_ : Nat) ≤ 1 + n; omega, by show (_ : Nat) ≤ n + n * 4; omega⟩ dX7_init_7 rfl ?_
  replace eq1 := (Option.some.inj eq1).symm
  refine V.eq (h1 := q1.1) (S1 := q1.2) (by rw [eq1] <;> rfl) (by rw [eq1] <;> rfl) rfl rfl rfl ?_
  replace ha0 : KD q1.2 a0 7 0 := by rw [eq1]; exact KD.ext SXt.mnS ha0
  have mq1 : S.2 ≤ q1.2.2 := by rw [eq1]; exact SXt.mnS.1
  have kq1 : KD q1.2 (S.2 : Int) 23 n := by rw [eq1]; exact KD.mnO
  have hb := bind_in hf
  clear hf
  obtain ⟨q2, eq2, hf⟩ := hb
  refine q_putRP (pc' := 14) (j := 0) C ha0 fbc_7_0 fpc_7_0 (by decide) wd_149 (Or.inl rfl) (Or.inr ⟨rfl, hin, rfl⟩) (by rfl) (by rfl) dX7_init_11 (by have := kq1.1; omega) rfl ?_
  replace eq2 := (Option.some.inj eq2).symm
  refine V.eq (h1 := q2.1) (S1 := q2.2) (by rw [eq2] <;> rfl) (by rw [eq2] <;> rfl) rfl rfl rfl ?_
  replace ha0 : KD q2.2 a0 7 0 := by rw [eq2]; exact KD.uS ha0 (by decide)
  replace kq1 : KD q2.2 (S.2 : Int) 23 n := by rw [eq2]; exact KD.uS kq1 (by decide)
  have mq2 : q1.2.2 ≤ q2.2.2 := by rw [eq2]; exact Nat.le_refl _
  cases hf
  refine V.wide (k := 1 + n) (n := n + n * 4) (by omega) (by omega) ?_
  exact r_vret C dX7_init_14

def c_orchard (h : HH) (S : SS) (a0 : Int) : Option (HH × SS) :=
  (some (nh h S.2, nS S 20 100)).bind fun q1 => 
  (some (q1.1, uS q1.2 a0 2 (S.2 : Int))).bind fun q2 => 
  (some (nh q2.1 q2.2.2, nS q2.2 20 100)).bind fun q3 => 
  (some (q3.1, uS q3.2 a0 3 (q2.2.2 : Int))).bind fun q4 => 
  some (q4.1, q4.2)
theorem x_c_orchard {S : SS} {h : HH} {a0 : Int} (ha0 : KD S a0 5 0) {res : HH × SS} (hf : c_orchard h S a0 = some res) : SXo S res.2 a0 := by
  unfold c_orchard at hf
  have y0 : SXo S S a0 := SXo.rf
  have hlt0 := ha0.2.1
  have hb := bind_in hf
  clear hf
  obtain ⟨q1, eq1, hf⟩ := hb
  replace eq1 := (Option.some.inj eq1).symm
  have mq1 : S.2 ≤ q1.2.2 := by rw [eq1]; exact SXt.nS.1
  have yq1 : SXo S q1.2 a0 := by rw [eq1]; exact SXo.tr y0 (SXt.o SXt.nS (by omega))
  have hb := bind_in hf
  clear hf
  obtain ⟨q2, eq2, hf⟩ := hb
  replace eq2 := (Option.some.inj eq2).symm
  have mq2 : q1.2.2 ≤ q2.2.2 := by rw [eq2]; exact Nat.le_refl _
  have yq2 : SXo S q2.2 a0 := by rw [eq2]; exact SXo.tr yq1 (SXo.put (by decide))
  have hb := bind_in hf
  clear hf
  obtain ⟨q3, eq3, hf⟩ := hb
  replace eq3 := (Option.some.inj eq3).symm
  have mq3 : q2.2.2 ≤ q3.2.2 := by rw [eq3]; exact SXt.nS.1
  have yq3 : SXo S q3.2 a0 := by rw [eq3]; exact SXo.tr yq2 (SXt.o SXt.nS (by omega))
  have hb := bind_in hf
  clear hf
  obtain ⟨q4, eq4, hf⟩ := hb
  replace eq4 := (Option.some.inj eq4).symm
  have mq4 : q3.2.2 ≤ q4.2.2 := by rw [eq4]; exact Nat.le_refl _
  have yq4 : SXo S q4.2 a0 := by rw [eq4]; exact SXo.tr yq3 (SXo.put (by decide))
  cases hf
  exact yq4
set_option maxHeartbeats 4000000 in
set_option maxRecDepth 100000 in
theorem t_c_orchard {S : SS} {h : HH} {a0 : Int} (ha0 : KD S a0 5 0) {res : HH × SS} (hf : c_orchard h S a0 = some res) : CM yX5_init cX5_init 1 (Option.none : Option Jvm.ClassFile.FieldType) 1 12 2 200 (fun bs => [zP bs a0]) h S (fun _ => none) res.1 res.2 := by
  refine CMI.intro (own := RX5) rfl (by decide) rfl (fun _ => Nat.le_of_ble_eq_true rfl) ?_
  intro D dT bs p l e s m args below meth c C hin
  show V D dT bs 1 p l e { frames := 1, cells := 2, slots := 200, locals := 12 } s m args below meth c 0 0 _ h S 0 [(0, zP bs a0)] []
  unfold c_orchard at hf
  have hlt0 := ha0.2.1
  refine r_aload_n (pc' := 1) (f4 := 0) (i := 0) C 0 rfl rfl dX5_init_0 rfl ?_
  refine r_objI (pc' := 4) C wd_288 wd_130 wd_131 (Nat.le_of_ble_eq_true rfl) (Nat.le_of_ble_eq_true rfl) dX5_init_1 rfl ?_
  refine r_aload_n (pc' := 5) (f4 := 0) (i := 0) C 0 rfl rfl dX5_init_4 rfl ?_
  refine r_bipush (pc' := 7) C rfl dX5_init_5 rfl ?_
  have hb := bind_in hf
  clear hf
  obtain ⟨q1, eq1, hf⟩ := hb
  refine r_newI (pc' := 9) C wd_159 ww_n100 ⟨by decide, by decide⟩ ⟨Nat.le_of_ble_eq_true rfl, Nat.le_of_ble_eq_true rfl⟩ dX5_init_7 rfl ?_
  replace eq1 := (Option.some.inj eq1).symm
  refine V.eq (h1 := q1.1) (S1 := q1.2) (by rw [eq1] <;> rfl) (by rw [eq1] <;> rfl) rfl rfl rfl ?_
  replace ha0 : KD q1.2 a0 5 0 := by rw [eq1]; exact KD.ext SXt.nS ha0
  have mq1 : S.2 ≤ q1.2.2 := by rw [eq1]; exact SXt.nS.1
  have kq1 : KD q1.2 (S.2 : Int) 20 100 := by rw [eq1]; exact KD.new
  have hb := bind_in hf
  clear hf
  obtain ⟨q2, eq2, hf⟩ := hb
  refine q_putRP (pc' := 12) (j := 2) C ha0 fbc_5_2 fpc_5_2 (by decide) wd_295 (Or.inl rfl) (Or.inr ⟨rfl, hin, rfl⟩) (by rfl) (by rfl) dX5_init_9 (by have := kq1.1; omega) rfl ?_
  replace eq2 := (Option.some.inj eq2).symm
  refine V.eq (h1 := q2.1) (S1 := q2.2) (by rw [eq2] <;> rfl) (by rw [eq2] <;> rfl) rfl rfl rfl ?_
  replace ha0 : KD q2.2 a0 5 0 := by rw [eq2]; exact KD.uS ha0 (by decide)
  replace kq1 : KD q2.2 (S.2 : Int) 20 100 := by rw [eq2]; exact KD.uS kq1 (by decide)
  have mq2 : q1.2.2 ≤ q2.2.2 := by rw [eq2]; exact Nat.le_refl _
  refine r_aload_n (pc' := 13) (f4 := 0) (i := 0) C 0 rfl rfl dX5_init_12 rfl ?_
  refine r_bipush (pc' := 15) C rfl dX5_init_13 rfl ?_
  have hb := bind_in hf
  clear hf
  obtain ⟨q3, eq3, hf⟩ := hb
  refine r_newI (pc' := 17) C wd_159 ww_n100 ⟨by decide, by decide⟩ ⟨Nat.le_of_ble_eq_true rfl, Nat.le_of_ble_eq_true rfl⟩ dX5_init_15 rfl ?_
  replace eq3 := (Option.some.inj eq3).symm
  refine V.eq (h1 := q3.1) (S1 := q3.2) (by rw [eq3] <;> rfl) (by rw [eq3] <;> rfl) rfl rfl rfl ?_
  replace ha0 : KD q3.2 a0 5 0 := by rw [eq3]; exact KD.ext SXt.nS ha0
  have mq3 : q2.2.2 ≤ q3.2.2 := by rw [eq3]; exact SXt.nS.1
  have kq3 : KD q3.2 (q2.2.2 : Int) 20 100 := by rw [eq3]; exact KD.new
  have hb := bind_in hf
  clear hf
  obtain ⟨q4, eq4, hf⟩ := hb
  refine q_putRP (pc' := 20) (j := 3) C ha0 fbc_5_3 fpc_5_3 (by decide) wd_296 (Or.inl rfl) (Or.inr ⟨rfl, hin, rfl⟩) (by rfl) (by rfl) dX5_init_17 (by have := kq3.1; omega) rfl ?_
  replace eq4 := (Option.some.inj eq4).symm
  refine V.eq (h1 := q4.1) (S1 := q4.2) (by rw [eq4] <;> rfl) (by rw [eq4] <;> rfl) rfl rfl rfl ?_
  replace ha0 : KD q4.2 a0 5 0 := by rw [eq4]; exact KD.uS ha0 (by decide)
  replace kq3 : KD q4.2 (q2.2.2 : Int) 20 100 := by rw [eq4]; exact KD.uS kq3 (by decide)
  have mq4 : q3.2.2 ≤ q4.2.2 := by rw [eq4]; exact Nat.le_refl _
  cases hf
  exact r_vret C dX5_init_20

def c_reader (h : HH) (S : SS) (a0 : Int) : Option (HH × SS) :=
  (some (nh h S.2, nS S 20 100)).bind fun q1 => 
  (some (q1.1, uS q1.2 a0 0 (S.2 : Int))).bind fun q2 => 
  some (q2.1, q2.2)
theorem x_c_reader {S : SS} {h : HH} {a0 : Int} (ha0 : KD S a0 6 0) {res : HH × SS} (hf : c_reader h S a0 = some res) : SXo S res.2 a0 := by
  unfold c_reader at hf
  have y0 : SXo S S a0 := SXo.rf
  have hlt0 := ha0.2.1
  have hb := bind_in hf
  clear hf
  obtain ⟨q1, eq1, hf⟩ := hb
  replace eq1 := (Option.some.inj eq1).symm
  have mq1 : S.2 ≤ q1.2.2 := by rw [eq1]; exact SXt.nS.1
  have yq1 : SXo S q1.2 a0 := by rw [eq1]; exact SXo.tr y0 (SXt.o SXt.nS (by omega))
  have hb := bind_in hf
  clear hf
  obtain ⟨q2, eq2, hf⟩ := hb
  replace eq2 := (Option.some.inj eq2).symm
  have mq2 : q1.2.2 ≤ q2.2.2 := by rw [eq2]; exact Nat.le_refl _
  have yq2 : SXo S q2.2 a0 := by rw [eq2]; exact SXo.tr yq1 (SXo.put (by decide))
  cases hf
  exact yq2
set_option maxHeartbeats 4000000 in
set_option maxRecDepth 100000 in
theorem t_c_reader {S : SS} {h : HH} {a0 : Int} (ha0 : KD S a0 6 0) {res : HH × SS} (hf : c_reader h S a0 = some res) : CM yX6_init cX6_init 1 (Option.none : Option Jvm.ClassFile.FieldType) 1 12 1 100 (fun bs => [zP bs a0]) h S (fun _ => none) res.1 res.2 := by
  refine CMI.intro (own := RX6) rfl (by decide) rfl (fun _ => Nat.le_of_ble_eq_true rfl) ?_
  intro D dT bs p l e s m args below meth c C hin
  show V D dT bs 1 p l e { frames := 1, cells := 1, slots := 100, locals := 12 } s m args below meth c 0 0 _ h S 0 [(0, zP bs a0)] []
  unfold c_reader at hf
  have hlt0 := ha0.2.1
  refine r_aload_n (pc' := 1) (f4 := 0) (i := 0) C 0 rfl rfl dX6_init_0 rfl ?_
  refine r_objI (pc' := 4) C wd_237 wd_130 wd_131 (Nat.le_of_ble_eq_true rfl) (Nat.le_of_ble_eq_true rfl) dX6_init_1 rfl ?_
  refine r_aload_n (pc' := 5) (f4 := 0) (i := 0) C 0 rfl rfl dX6_init_4 rfl ?_
  refine r_bipush (pc' := 7) C rfl dX6_init_5 rfl ?_
  have hb := bind_in hf
  clear hf
  obtain ⟨q1, eq1, hf⟩ := hb
  refine r_newI (pc' := 9) C wd_159 ww_n100 ⟨by decide, by decide⟩ ⟨Nat.le_of_ble_eq_true rfl, Nat.le_of_ble_eq_true rfl⟩ dX6_init_7 rfl ?_
  replace eq1 := (Option.some.inj eq1).symm
  refine V.eq (h1 := q1.1) (S1 := q1.2) (by rw [eq1] <;> rfl) (by rw [eq1] <;> rfl) rfl rfl rfl ?_
  replace ha0 : KD q1.2 a0 6 0 := by rw [eq1]; exact KD.ext SXt.nS ha0
  have mq1 : S.2 ≤ q1.2.2 := by rw [eq1]; exact SXt.nS.1
  have kq1 : KD q1.2 (S.2 : Int) 20 100 := by rw [eq1]; exact KD.new
  have hb := bind_in hf
  clear hf
  obtain ⟨q2, eq2, hf⟩ := hb
  refine q_putRP (pc' := 12) (j := 0) C ha0 fbc_6_0 fpc_6_0 (by decide) wd_238 (Or.inl rfl) (Or.inr ⟨rfl, hin, rfl⟩) (by rfl) (by rfl) dX6_init_9 (by have := kq1.1; omega) rfl ?_
  replace eq2 := (Option.some.inj eq2).symm
  refine V.eq (h1 := q2.1) (S1 := q2.2) (by rw [eq2] <;> rfl) (by rw [eq2] <;> rfl) rfl rfl rfl ?_
  replace ha0 : KD q2.2 a0 6 0 := by rw [eq2]; exact KD.uS ha0 (by decide)
  replace kq1 : KD q2.2 (S.2 : Int) 20 100 := by rw [eq2]; exact KD.uS kq1 (by decide)
  have mq2 : q1.2.2 ≤ q2.2.2 := by rw [eq2]; exact Nat.le_refl _
  cases hf
  exact r_vret C dX6_init_12

def c_world (h : HH) (S : SS) (a0 : Int) : Option (HH × SS) :=
  (some (nh h S.2, nS S 25 6)).bind fun q1 => 
  (some (q1.1, uS q1.2 a0 0 (S.2 : Int))).bind fun q2 => 
  (some (nh q2.1 q2.2.2, nS q2.2 22 6)).bind fun q3 => 
  (some (q3.1, uS q3.2 a0 1 (q2.2.2 : Int))).bind fun q4 => 
  (some (mnH q4.1 q4.2.2 6, mnS q4.2 23 20 6 5)).bind fun q5 => 
  (some (q5.1, uS q5.2 a0 2 (q4.2.2 : Int))).bind fun q6 => 
  (some (mnH q6.1 q6.2.2 6, mnS q6.2 23 20 6 4)).bind fun q7 => 
  (some (q7.1, uS q7.2 a0 3 (q6.2.2 : Int))).bind fun q8 => 
  (some (nh q8.1 q8.2.2, nS q8.2 20 5)).bind fun q9 => 
  (some (q9.1, uS q9.2 a0 5 (q8.2.2 : Int))).bind fun q10 => 
  (some (nh q10.1 q10.2.2, nS q10.2 20 5)).bind fun q11 => 
  (some (q11.1, uS q11.2 a0 6 (q10.2.2 : Int))).bind fun q12 => 
  (some (nh q12.1 q12.2.2, nS q12.2 7 0)).bind fun q13 => 
  (c_rows q13.1 q13.2 (q12.2.2 : Int) 5).bind fun q14 => 
  (some (q14.1, uS q14.2 a0 8 (q12.2.2 : Int))).bind fun q15 => 
  (some (nh q15.1 q15.2.2, nS q15.2 7 0)).bind fun q16 => 
  (c_rows q16.1 q16.2 (q15.2.2 : Int) 10).bind fun q17 => 
  (some (q17.1, uS q17.2 a0 9 (q15.2.2 : Int))).bind fun q18 => 
  (some (nh q18.1 q18.2.2, nS q18.2 7 0)).bind fun q19 => 
  (c_rows q19.1 q19.2 (q18.2.2 : Int) 8).bind fun q20 => 
  (some (q20.1, uS q20.2 a0 10 (q18.2.2 : Int))).bind fun q21 => 
  (some (nh q21.1 q21.2.2, nS q21.2 20 6)).bind fun q22 => 
  (some (q22.1, uS q22.2 a0 12 (q21.2.2 : Int))).bind fun q23 => 
  some (flA q23.1 (q10.2.2 : Int) 5 (-5), q23.2)
theorem x_c_world {S : SS} {h : HH} {a0 : Int} (ha0 : KD S a0 10 0) {res : HH × SS} (hf : c_world h S a0 = some res) : SXo S res.2 a0 := by
  unfold c_world at hf
  have y0 : SXo S S a0 := SXo.rf
  have hlt0 := ha0.2.1
  have hb := bind_in hf
  clear hf
  obtain ⟨q1, eq1, hf⟩ := hb
  replace eq1 := (Option.some.inj eq1).symm
  have mq1 : S.2 ≤ q1.2.2 := by rw [eq1]; exact SXt.nS.1
  have yq1 : SXo S q1.2 a0 := by rw [eq1]; exact SXo.tr y0 (SXt.o SXt.nS (by omega))
  have hb := bind_in hf
  clear hf
  obtain ⟨q2, eq2, hf⟩ := hb
  replace eq2 := (Option.some.inj eq2).symm
  have mq2 : q1.2.2 ≤ q2.2.2 := by rw [eq2]; exact Nat.le_refl _
  have yq2 : SXo S q2.2 a0 := by rw [eq2]; exact SXo.tr yq1 (SXo.put (by decide))
  have hb := bind_in hf
  clear hf
  obtain ⟨q3, eq3, hf⟩ := hb
  replace eq3 := (Option.some.inj eq3).symm
  have mq3 : q2.2.2 ≤ q3.2.2 := by rw [eq3]; exact SXt.nS.1
  have yq3 : SXo S q3.2 a0 := by rw [eq3]; exact SXo.tr yq2 (SXt.o SXt.nS (by omega))
  have hb := bind_in hf
  clear hf
  obtain ⟨q4, eq4, hf⟩ := hb
  replace eq4 := (Option.some.inj eq4).symm
  have mq4 : q3.2.2 ≤ q4.2.2 := by rw [eq4]; exact Nat.le_refl _
  have yq4 : SXo S q4.2 a0 := by rw [eq4]; exact SXo.tr yq3 (SXo.put (by decide))
  have hb := bind_in hf
  clear hf
  obtain ⟨q5, eq5, hf⟩ := hb
  replace eq5 := (Option.some.inj eq5).symm
  have mq5 : q4.2.2 ≤ q5.2.2 := by rw [eq5]; exact SXt.mnS.1
  have yq5 : SXo S q5.2 a0 := by rw [eq5]; exact SXo.tr yq4 (SXt.o SXt.mnS (by omega))
  have hb := bind_in hf
  clear hf
  obtain ⟨q6, eq6, hf⟩ := hb
  replace eq6 := (Option.some.inj eq6).symm
  have mq6 : q5.2.2 ≤ q6.2.2 := by rw [eq6]; exact Nat.le_refl _
  have yq6 : SXo S q6.2 a0 := by rw [eq6]; exact SXo.tr yq5 (SXo.put (by decide))
  have hb := bind_in hf
  clear hf
  obtain ⟨q7, eq7, hf⟩ := hb
  replace eq7 := (Option.some.inj eq7).symm
  have mq7 : q6.2.2 ≤ q7.2.2 := by rw [eq7]; exact SXt.mnS.1
  have yq7 : SXo S q7.2 a0 := by rw [eq7]; exact SXo.tr yq6 (SXt.o SXt.mnS (by omega))
  have hb := bind_in hf
  clear hf
  obtain ⟨q8, eq8, hf⟩ := hb
  replace eq8 := (Option.some.inj eq8).symm
  have mq8 : q7.2.2 ≤ q8.2.2 := by rw [eq8]; exact Nat.le_refl _
  have yq8 : SXo S q8.2 a0 := by rw [eq8]; exact SXo.tr yq7 (SXo.put (by decide))
  have hb := bind_in hf
  clear hf
  obtain ⟨q9, eq9, hf⟩ := hb
  replace eq9 := (Option.some.inj eq9).symm
  have mq9 : q8.2.2 ≤ q9.2.2 := by rw [eq9]; exact SXt.nS.1
  have yq9 : SXo S q9.2 a0 := by rw [eq9]; exact SXo.tr yq8 (SXt.o SXt.nS (by omega))
  have hb := bind_in hf
  clear hf
  obtain ⟨q10, eq10, hf⟩ := hb
  replace eq10 := (Option.some.inj eq10).symm
  have mq10 : q9.2.2 ≤ q10.2.2 := by rw [eq10]; exact Nat.le_refl _
  have yq10 : SXo S q10.2 a0 := by rw [eq10]; exact SXo.tr yq9 (SXo.put (by decide))
  have hb := bind_in hf
  clear hf
  obtain ⟨q11, eq11, hf⟩ := hb
  replace eq11 := (Option.some.inj eq11).symm
  have mq11 : q10.2.2 ≤ q11.2.2 := by rw [eq11]; exact SXt.nS.1
  have yq11 : SXo S q11.2 a0 := by rw [eq11]; exact SXo.tr yq10 (SXt.o SXt.nS (by omega))
  have hb := bind_in hf
  clear hf
  obtain ⟨q12, eq12, hf⟩ := hb
  replace eq12 := (Option.some.inj eq12).symm
  have mq12 : q11.2.2 ≤ q12.2.2 := by rw [eq12]; exact Nat.le_refl _
  have yq12 : SXo S q12.2 a0 := by rw [eq12]; exact SXo.tr yq11 (SXo.put (by decide))
  have hb := bind_in hf
  clear hf
  obtain ⟨q13, eq13, hf⟩ := hb
  replace eq13 := (Option.some.inj eq13).symm
  have mq13 : q12.2.2 ≤ q13.2.2 := by rw [eq13]; exact SXt.nS.1
  have yq13 : SXo S q13.2 a0 := by rw [eq13]; exact SXo.tr yq12 (SXt.o SXt.nS (by omega))
  have kq13 : KD q13.2 (q12.2.2 : Int) 7 0 := by rw [eq13]; exact KD.new
  have hb := bind_in hf
  clear hf
  obtain ⟨q14, eq14, hf⟩ := hb
  have zq14 := x_c_rows kq13 (by decide) eq14
  have mq14 : q13.2.2 ≤ q14.2.2 := zq14.1
  have yq14 : SXo S q14.2 a0 := SXo.tn yq13 zq14 (by omega) hlt0
  have hb := bind_in hf
  clear hf
  obtain ⟨q15, eq15, hf⟩ := hb
  replace eq15 := (Option.some.inj eq15).symm
  have mq15 : q14.2.2 ≤ q15.2.2 := by rw [eq15]; exact Nat.le_refl _
  have yq15 : SXo S q15.2 a0 := by rw [eq15]; exact SXo.tr yq14 (SXo.put (by decide))
  have hb := bind_in hf
  clear hf
  obtain ⟨q16, eq16, hf⟩ := hb
  replace eq16 := (Option.some.inj eq16).symm
  have mq16 : q15.2.2 ≤ q16.2.2 := by rw [eq16]; exact SXt.nS.1
  have yq16 : SXo S q16.2 a0 := by rw [eq16]; exact SXo.tr yq15 (SXt.o SXt.nS (by omega))
  have kq16 : KD q16.2 (q15.2.2 : Int) 7 0 := by rw [eq16]; exact KD.new
  have hb := bind_in hf
  clear hf
  obtain ⟨q17, eq17, hf⟩ := hb
  have zq17 := x_c_rows kq16 (by decide) eq17
  have mq17 : q16.2.2 ≤ q17.2.2 := zq17.1
  have yq17 : SXo S q17.2 a0 := SXo.tn yq16 zq17 (by omega) hlt0
  have hb := bind_in hf
  clear hf
  obtain ⟨q18, eq18, hf⟩ := hb
  replace eq18 := (Option.some.inj eq18).symm
  have mq18 : q17.2.2 ≤ q18.2.2 := by rw [eq18]; exact Nat.le_refl _
  have yq18 : SXo S q18.2 a0 := by rw [eq18]; exact SXo.tr yq17 (SXo.put (by decide))
  have hb := bind_in hf
  clear hf
  obtain ⟨q19, eq19, hf⟩ := hb
  replace eq19 := (Option.some.inj eq19).symm
  have mq19 : q18.2.2 ≤ q19.2.2 := by rw [eq19]; exact SXt.nS.1
  have yq19 : SXo S q19.2 a0 := by rw [eq19]; exact SXo.tr yq18 (SXt.o SXt.nS (by omega))
  have kq19 : KD q19.2 (q18.2.2 : Int) 7 0 := by rw [eq19]; exact KD.new
  have hb := bind_in hf
  clear hf
  obtain ⟨q20, eq20, hf⟩ := hb
  have zq20 := x_c_rows kq19 (by decide) eq20
  have mq20 : q19.2.2 ≤ q20.2.2 := zq20.1
  have yq20 : SXo S q20.2 a0 := SXo.tn yq19 zq20 (by omega) hlt0
  have hb := bind_in hf
  clear hf
  obtain ⟨q21, eq21, hf⟩ := hb
  replace eq21 := (Option.some.inj eq21).symm
  have mq21 : q20.2.2 ≤ q21.2.2 := by rw [eq21]; exact Nat.le_refl _
  have yq21 : SXo S q21.2 a0 := by rw [eq21]; exact SXo.tr yq20 (SXo.put (by decide))
  have hb := bind_in hf
  clear hf
  obtain ⟨q22, eq22, hf⟩ := hb
  replace eq22 := (Option.some.inj eq22).symm
  have mq22 : q21.2.2 ≤ q22.2.2 := by rw [eq22]; exact SXt.nS.1
  have yq22 : SXo S q22.2 a0 := by rw [eq22]; exact SXo.tr yq21 (SXt.o SXt.nS (by omega))
  have hb := bind_in hf
  clear hf
  obtain ⟨q23, eq23, hf⟩ := hb
  replace eq23 := (Option.some.inj eq23).symm
  have mq23 : q22.2.2 ≤ q23.2.2 := by rw [eq23]; exact Nat.le_refl _
  have yq23 : SXo S q23.2 a0 := by rw [eq23]; exact SXo.tr yq22 (SXo.put (by decide))
  cases hf
  exact yq23
set_option maxHeartbeats 4000000 in
set_option maxRecDepth 100000 in
theorem t_c_world {S : SS} {h : HH} {a0 : Int} (ha0 : KD S a0 10 0) {res : HH × SS} (hf : c_world h S a0 = some res) : CM yX10_init cX10_init 1 (Option.none : Option Jvm.ClassFile.FieldType) 2 40 48 215 (fun bs => [zP bs a0]) h S (fun _ => none) res.1 res.2 := by
  refine CMI.intro (own := RX10) rfl (by decide) rfl (fun _ => Nat.le_of_ble_eq_true rfl) ?_
  intro D dT bs p l e s m args below meth c C hin
  show V D dT bs 1 p l e { frames := 2, cells := 48, slots := 215, locals := 40 } s m args below meth c 0 0 _ h S 0 [(0, zP bs a0)] []
  unfold c_world at hf
  have hlt0 := ha0.2.1
  refine r_aload_n (pc' := 1) (f4 := 0) (i := 0) C 0 rfl rfl dX10_init_0 rfl ?_
  refine r_objI (pc' := 4) C wd_137 wd_130 wd_131 (Nat.le_of_ble_eq_true rfl) (Nat.le_of_ble_eq_true rfl) dX10_init_1 rfl ?_
  refine r_aload_n (pc' := 5) (f4 := 0) (i := 0) C 0 rfl rfl dX10_init_4 rfl ?_
  refine r_bipush (pc' := 7) C rfl dX10_init_5 rfl ?_
  have hb := bind_in hf
  clear hf
  obtain ⟨q1, eq1, hf⟩ := hb
  refine r_anew (t := 5) (pc' := 10) C (by decide) rfl wd_138 (in_t1 (List.mem_of_getElem? (i := 45) (by decide +kernel))) ww_n6 ⟨by decide, by decide⟩ ⟨Nat.le_of_ble_eq_true rfl, Nat.le_of_ble_eq_true rfl⟩ dX10_init_7 rfl ?_
  replace eq1 := (Option.some.inj eq1).symm
  refine V.eq (h1 := q1.1) (S1 := q1.2) (by rw [eq1] <;> rfl) (by rw [eq1] <;> rfl) rfl rfl rfl ?_
  replace ha0 : KD q1.2 a0 10 0 := by rw [eq1]; exact KD.ext SXt.nS ha0
  have mq1 : S.2 ≤ q1.2.2 := by rw [eq1]; exact SXt.nS.1
  have kq1 : KD q1.2 (S.2 : Int) 25 6 := by rw [eq1]; exact KD.new
  have hb := bind_in hf
  clear hf
  obtain ⟨q2, eq2, hf⟩ := hb
  refine q_putRP (pc' := 13) (j := 0) C ha0 fbc_10_0 fpc_10_0 (by decide) wd_174 (Or.inl rfl) (Or.inr ⟨rfl, hin, rfl⟩) (by rfl) (by rfl) dX10_init_10 (by have := kq1.1; omega) rfl ?_
  replace eq2 := (Option.some.inj eq2).symm
  refine V.eq (h1 := q2.1) (S1 := q2.2) (by rw [eq2] <;> rfl) (by rw [eq2] <;> rfl) rfl rfl rfl ?_
  replace ha0 : KD q2.2 a0 10 0 := by rw [eq2]; exact KD.uS ha0 (by decide)
  replace kq1 : KD q2.2 (S.2 : Int) 25 6 := by rw [eq2]; exact KD.uS kq1 (by decide)
  have mq2 : q1.2.2 ≤ q2.2.2 := by rw [eq2]; exact Nat.le_refl _
  refine r_aload_n (pc' := 14) (f4 := 0) (i := 0) C 0 rfl rfl dX10_init_13 rfl ?_
  refine r_bipush (pc' := 16) C rfl dX10_init_14 rfl ?_
  have hb := bind_in hf
  clear hf
  obtain ⟨q3, eq3, hf⟩ := hb
  refine r_newZ (pc' := 18) C wd_158 ww_n6 ⟨by decide, by decide⟩ ⟨Nat.le_of_ble_eq_true rfl, Nat.le_of_ble_eq_true rfl⟩ dX10_init_16 rfl ?_
  replace eq3 := (Option.some.inj eq3).symm
  refine V.eq (h1 := q3.1) (S1 := q3.2) (by rw [eq3] <;> rfl) (by rw [eq3] <;> rfl) rfl rfl rfl ?_
  replace ha0 : KD q3.2 a0 10 0 := by rw [eq3]; exact KD.ext SXt.nS ha0
  have mq3 : q2.2.2 ≤ q3.2.2 := by rw [eq3]; exact SXt.nS.1
  have kq3 : KD q3.2 (q2.2.2 : Int) 22 6 := by rw [eq3]; exact KD.new
  have hb := bind_in hf
  clear hf
  obtain ⟨q4, eq4, hf⟩ := hb
  refine q_putRP (pc' := 21) (j := 1) C ha0 fbc_10_1 fpc_10_1 (by decide) wd_176 (Or.inl rfl) (Or.inr ⟨rfl, hin, rfl⟩) (by rfl) (by rfl) dX10_init_18 (by have := kq3.1; omega) rfl ?_
  replace eq4 := (Option.some.inj eq4).symm
  refine V.eq (h1 := q4.1) (S1 := q4.2) (by rw [eq4] <;> rfl) (by rw [eq4] <;> rfl) rfl rfl rfl ?_
  replace ha0 : KD q4.2 a0 10 0 := by rw [eq4]; exact KD.uS ha0 (by decide)
  replace kq3 : KD q4.2 (q2.2.2 : Int) 22 6 := by rw [eq4]; exact KD.uS kq3 (by decide)
  have mq4 : q3.2.2 ≤ q4.2.2 := by rw [eq4]; exact Nat.le_refl _
  refine r_aload_n (pc' := 22) (f4 := 0) (i := 0) C 0 rfl rfl dX10_init_21 rfl ?_
  refine r_bipush (pc' := 24) C rfl dX10_init_22 rfl ?_
  refine r_iconst (pc' := 25) C dX10_init_24 rfl ?_
  have hb := bind_in hf
  clear hf
  obtain ⟨q5, eq5, hf⟩ := hb
  refine r_multi (n := 6) (k := 5) (to := 3) (ti := 0) (ty := .int) (pc' := 29) C (by decide) (by decide) (by decide) wd_140 (in_t1 (List.mem_of_getElem? (i := 47) (by decide +kernel))) wd_159 ⟨Nat.le_of_ble_eq_true rfl, Nat.le_of_ble_eq_true rfl⟩ dX10_init_25 rfl ?_
  replace eq5 := (Option.some.inj eq5).symm
  refine V.eq (h1 := q5.1) (S1 := q5.2) (by rw [eq5] <;> rfl) (by rw [eq5] <;> rfl) rfl rfl rfl ?_
  replace ha0 : KD q5.2 a0 10 0 := by rw [eq5]; exact KD.ext SXt.mnS ha0
  have mq5 : q4.2.2 ≤ q5.2.2 := by rw [eq5]; exact SXt.mnS.1
  have kq5 : KD q5.2 (q4.2.2 : Int) 23 6 := by rw [eq5]; exact KD.mnO
  have hb := bind_in hf
  clear hf
  obtain ⟨q6, eq6, hf⟩ := hb
  refine q_putRP (pc' := 32) (j := 2) C ha0 fbc_10_2 fpc_10_2 (by decide) wd_178 (Or.inl rfl) (Or.inr ⟨rfl, hin, rfl⟩) (by rfl) (by rfl) dX10_init_29 (by have := kq5.1; omega) rfl ?_
  replace eq6 := (Option.some.inj eq6).symm
  refine V.eq (h1 := q6.1) (S1 := q6.2) (by rw [eq6] <;> rfl) (by rw [eq6] <;> rfl) rfl rfl rfl ?_
  replace ha0 : KD q6.2 a0 10 0 := by rw [eq6]; exact KD.uS ha0 (by decide)
  replace kq5 : KD q6.2 (q4.2.2 : Int) 23 6 := by rw [eq6]; exact KD.uS kq5 (by decide)
  have mq6 : q5.2.2 ≤ q6.2.2 := by rw [eq6]; exact Nat.le_refl _
  refine r_aload_n (pc' := 33) (f4 := 0) (i := 0) C 0 rfl rfl dX10_init_32 rfl ?_
  refine r_bipush (pc' := 35) C rfl dX10_init_33 rfl ?_
  refine r_iconst (pc' := 36) C dX10_init_35 rfl ?_
  have hb := bind_in hf
  clear hf
  obtain ⟨q7, eq7, hf⟩ := hb
  refine r_multi (n := 6) (k := 4) (to := 3) (ti := 0) (ty := .int) (pc' := 40) C (by decide) (by decide) (by decide) wd_140 (in_t1 (List.mem_of_getElem? (i := 47) (by decide +kernel))) wd_159 ⟨Nat.le_of_ble_eq_true rfl, Nat.le_of_ble_eq_true rfl⟩ dX10_init_36 rfl ?_
  replace eq7 := (Option.some.inj eq7).symm
  refine V.eq (h1 := q7.1) (S1 := q7.2) (by rw [eq7] <;> rfl) (by rw [eq7] <;> rfl) rfl rfl rfl ?_
  replace ha0 : KD q7.2 a0 10 0 := by rw [eq7]; exact KD.ext SXt.mnS ha0
  have mq7 : q6.2.2 ≤ q7.2.2 := by rw [eq7]; exact SXt.mnS.1
  have kq7 : KD q7.2 (q6.2.2 : Int) 23 6 := by rw [eq7]; exact KD.mnO
  have hb := bind_in hf
  clear hf
  obtain ⟨q8, eq8, hf⟩ := hb
  refine q_putRP (pc' := 43) (j := 3) C ha0 fbc_10_3 fpc_10_3 (by decide) wd_181 (Or.inl rfl) (Or.inr ⟨rfl, hin, rfl⟩) (by rfl) (by rfl) dX10_init_40 (by have := kq7.1; omega) rfl ?_
  replace eq8 := (Option.some.inj eq8).symm
  refine V.eq (h1 := q8.1) (S1 := q8.2) (by rw [eq8] <;> rfl) (by rw [eq8] <;> rfl) rfl rfl rfl ?_
  replace ha0 : KD q8.2 a0 10 0 := by rw [eq8]; exact KD.uS ha0 (by decide)
  replace kq7 : KD q8.2 (q6.2.2 : Int) 23 6 := by rw [eq8]; exact KD.uS kq7 (by decide)
  have mq8 : q7.2.2 ≤ q8.2.2 := by rw [eq8]; exact Nat.le_refl _
  refine r_aload_n (pc' := 44) (f4 := 0) (i := 0) C 0 rfl rfl dX10_init_43 rfl ?_
  refine r_iconst (pc' := 45) C dX10_init_44 rfl ?_
  have hb := bind_in hf
  clear hf
  obtain ⟨q9, eq9, hf⟩ := hb
  refine r_newI (pc' := 47) C wd_159 ww_n5 ⟨by decide, by decide⟩ ⟨Nat.le_of_ble_eq_true rfl, Nat.le_of_ble_eq_true rfl⟩ dX10_init_45 rfl ?_
  replace eq9 := (Option.some.inj eq9).symm
  refine V.eq (h1 := q9.1) (S1 := q9.2) (by rw [eq9] <;> rfl) (by rw [eq9] <;> rfl) rfl rfl rfl ?_
  replace ha0 : KD q9.2 a0 10 0 := by rw [eq9]; exact KD.ext SXt.nS ha0
  have mq9 : q8.2.2 ≤ q9.2.2 := by rw [eq9]; exact SXt.nS.1
  have kq9 : KD q9.2 (q8.2.2 : Int) 20 5 := by rw [eq9]; exact KD.new
  have hb := bind_in hf
  clear hf
  obtain ⟨q10, eq10, hf⟩ := hb
  refine q_putRP (pc' := 50) (j := 5) C ha0 fbc_10_5 fpc_10_5 (by decide) wd_186 (Or.inl rfl) (Or.inr ⟨rfl, hin, rfl⟩) (by rfl) (by rfl) dX10_init_47 (by have := kq9.1; omega) rfl ?_
  replace eq10 := (Option.some.inj eq10).symm
  refine V.eq (h1 := q10.1) (S1 := q10.2) (by rw [eq10] <;> rfl) (by rw [eq10] <;> rfl) rfl rfl rfl ?_
  replace ha0 : KD q10.2 a0 10 0 := by rw [eq10]; exact KD.uS ha0 (by decide)
  replace kq9 : KD q10.2 (q8.2.2 : Int) 20 5 := by rw [eq10]; exact KD.uS kq9 (by decide)
  have mq10 : q9.2.2 ≤ q10.2.2 := by rw [eq10]; exact Nat.le_refl _
  refine r_aload_n (pc' := 51) (f4 := 0) (i := 0) C 0 rfl rfl dX10_init_50 rfl ?_
  refine r_iconst (pc' := 52) C dX10_init_51 rfl ?_
  have hb := bind_in hf
  clear hf
  obtain ⟨q11, eq11, hf⟩ := hb
  refine r_newI (pc' := 54) C wd_159 ww_n5 ⟨by decide, by decide⟩ ⟨Nat.le_of_ble_eq_true rfl, Nat.le_of_ble_eq_true rfl⟩ dX10_init_52 rfl ?_
  replace eq11 := (Option.some.inj eq11).symm
  refine V.eq (h1 := q11.1) (S1 := q11.2) (by rw [eq11] <;> rfl) (by rw [eq11] <;> rfl) rfl rfl rfl ?_
  replace ha0 : KD q11.2 a0 10 0 := by rw [eq11]; exact KD.ext SXt.nS ha0
  have mq11 : q10.2.2 ≤ q11.2.2 := by rw [eq11]; exact SXt.nS.1
  have kq11 : KD q11.2 (q10.2.2 : Int) 20 5 := by rw [eq11]; exact KD.new
  have hb := bind_in hf
  clear hf
  obtain ⟨q12, eq12, hf⟩ := hb
  refine q_putRP (pc' := 57) (j := 6) C ha0 fbc_10_6 fpc_10_6 (by decide) wd_188 (Or.inl rfl) (Or.inr ⟨rfl, hin, rfl⟩) (by rfl) (by rfl) dX10_init_54 (by have := kq11.1; omega) rfl ?_
  replace eq12 := (Option.some.inj eq12).symm
  refine V.eq (h1 := q12.1) (S1 := q12.2) (by rw [eq12] <;> rfl) (by rw [eq12] <;> rfl) rfl rfl rfl ?_
  replace ha0 : KD q12.2 a0 10 0 := by rw [eq12]; exact KD.uS ha0 (by decide)
  replace kq11 : KD q12.2 (q10.2.2 : Int) 20 5 := by rw [eq12]; exact KD.uS kq11 (by decide)
  have mq12 : q11.2.2 ≤ q12.2.2 := by rw [eq12]; exact Nat.le_refl _
  have f6 : q12.2.1 a0 6 = (q10.2.2 : Int) := by rw [eq12]; exact uS_same
  refine r_aload_n (pc' := 58) (f4 := 0) (i := 0) C 0 rfl rfl dX10_init_57 rfl ?_
  have hb := bind_in hf
  clear hf
  obtain ⟨q13, eq13, hf⟩ := hb
  refine r_new (ci := 7) (pc' := 61) C cl_7 uin_7 tyX7_ok dvc_7 wd_142 wd_143 wd_97 ⟨Nat.le_of_ble_eq_true rfl, Nat.le_of_ble_eq_true rfl⟩ dX10_init_58 rfl ?_
  replace eq13 := (Option.some.inj eq13).symm
  refine V.eq (h1 := q13.1) (S1 := q13.2) (by rw [eq13] <;> rfl) (by rw [eq13] <;> rfl) rfl rfl rfl ?_
  replace ha0 : KD q13.2 a0 10 0 := by rw [eq13]; exact KD.ext SXt.nS ha0
  replace kq11 : KD q13.2 (q10.2.2 : Int) 20 5 := by rw [eq13]; exact KD.ext SXt.nS kq11
  replace f6 : q13.2.1 a0 6 = (q10.2.2 : Int) := by rw [eq13]; exact (SXt.nS.2 a0 6 (by omega)).trans f6
  have mq13 : q12.2.2 ≤ q13.2.2 := by rw [eq13]; exact SXt.nS.1
  have kq13 : KD q13.2 (q12.2.2 : Int) 7 0 := by rw [eq13]; exact KD.new
  refine r_dup (pc' := 62) C rfl dX10_init_61 rfl ?_
  refine r_iconst (pc' := 63) C dX10_init_62 rfl ?_
  have hb := bind_in hf
  clear hf
  obtain ⟨q14, eq14, hf⟩ := hb
  refine r_callI (pc' := 66) C 1 (t_c_rows kq13 (by decide) eq14) rfl (lwb_codeIn wd_146) wd_97 wd_144 wd_145 rfl ⟨by decide, by decide, by decide +kernel⟩ ⟨Nat.le_of_ble_eq_true rfl, Nat.le_of_ble_eq_true rfl⟩ rfl rfl (Nat.le_of_ble_eq_true rfl) dX10_init_63 rfl ⟨Nat.le_of_ble_eq_true rfl, Nat.le_of_ble_eq_true rfl⟩ ?_
  have xq14 := x_c_rows kq13 (by decide) eq14
  have hne : a0 ≠ (q12.2.2 : Int) := by omega
  replace ha0 : KD q14.2 a0 10 0 := KD.exo xq14 ha0
  replace kq13 : KD q14.2 (q12.2.2 : Int) 7 0 := KD.exo xq14 kq13
  replace kq11 : KD q14.2 (q10.2.2 : Int) 20 5 := KD.exo xq14 kq11
  replace f6 : q14.2.1 a0 6 = (q10.2.2 : Int) := (xq14.2.1 a0 6 (by omega) hne).trans f6
  have mq14 : q13.2.2 ≤ q14.2.2 := xq14.1
  have hb := bind_in hf
  clear hf
  obtain ⟨q15, eq15, hf⟩ := hb
  refine q_putRP (pc' := 69) (j := 8) C ha0 fbc_10_8 fpc_10_8 (by decide) wd_195 (Or.inl rfl) (Or.inr ⟨rfl, hin, rfl⟩) (by rfl) (by rfl) dX10_init_66 (by have := kq13.1; omega) rfl ?_
  replace eq15 := (Option.some.inj eq15).symm
  refine V.eq (h1 := q15.1) (S1 := q15.2) (by rw [eq15] <;> rfl) (by rw [eq15] <;> rfl) rfl rfl rfl ?_
  replace ha0 : KD q15.2 a0 10 0 := by rw [eq15]; exact KD.uS ha0 (by decide)
  replace kq13 : KD q15.2 (q12.2.2 : Int) 7 0 := by rw [eq15]; exact KD.uS kq13 (by decide)
  replace kq11 : KD q15.2 (q10.2.2 : Int) 20 5 := by rw [eq15]; exact KD.uS kq11 (by decide)
  replace f6 : q15.2.1 a0 6 = (q10.2.2 : Int) := by rw [eq15]; exact (uS_ne (by decide)).trans f6
  have mq15 : q14.2.2 ≤ q15.2.2 := by rw [eq15]; exact Nat.le_refl _
  refine r_aload_n (pc' := 70) (f4 := 0) (i := 0) C 0 rfl rfl dX10_init_69 rfl ?_
  have hb := bind_in hf
  clear hf
  obtain ⟨q16, eq16, hf⟩ := hb
  refine r_new (ci := 7) (pc' := 73) C cl_7 uin_7 tyX7_ok dvc_7 wd_142 wd_143 wd_97 ⟨Nat.le_of_ble_eq_true rfl, Nat.le_of_ble_eq_true rfl⟩ dX10_init_70 rfl ?_
  replace eq16 := (Option.some.inj eq16).symm
  refine V.eq (h1 := q16.1) (S1 := q16.2) (by rw [eq16] <;> rfl) (by rw [eq16] <;> rfl) rfl rfl rfl ?_
  replace ha0 : KD q16.2 a0 10 0 := by rw [eq16]; exact KD.ext SXt.nS ha0
  replace kq11 : KD q16.2 (q10.2.2 : Int) 20 5 := by rw [eq16]; exact KD.ext SXt.nS kq11
  replace f6 : q16.2.1 a0 6 = (q10.2.2 : Int) := by rw [eq16]; exact (SXt.nS.2 a0 6 (by omega)).trans f6
  have mq16 : q15.2.2 ≤ q16.2.2 := by rw [eq16]; exact SXt.nS.1
  have kq16 : KD q16.2 (q15.2.2 : Int) 7 0 := by rw [eq16]; exact KD.new
  refine r_dup (pc' := 74) C rfl dX10_init_73 rfl ?_
  refine r_bipush (pc' := 76) C rfl dX10_init_74 rfl ?_
  have hb := bind_in hf
  clear hf
  obtain ⟨q17, eq17, hf⟩ := hb
  refine r_callI (pc' := 79) C 1 (t_c_rows kq16 (by decide) eq17) rfl (lwb_codeIn wd_146) wd_97 wd_144 wd_145 rfl ⟨by decide, by decide, by decide +kernel⟩ ⟨Nat.le_of_ble_eq_true rfl, Nat.le_of_ble_eq_true rfl⟩ rfl rfl (Nat.le_of_ble_eq_true rfl) dX10_init_76 rfl ⟨Nat.le_of_ble_eq_true rfl, Nat.le_of_ble_eq_true rfl⟩ ?_
  have xq17 := x_c_rows kq16 (by decide) eq17
  have hne : a0 ≠ (q15.2.2 : Int) := by omega
  replace ha0 : KD q17.2 a0 10 0 := KD.exo xq17 ha0
  replace kq16 : KD q17.2 (q15.2.2 : Int) 7 0 := KD.exo xq17 kq16
  replace kq11 : KD q17.2 (q10.2.2 : Int) 20 5 := KD.exo xq17 kq11
  replace f6 : q17.2.1 a0 6 = (q10.2.2 : Int) := (xq17.2.1 a0 6 (by omega) hne).trans f6
  have mq17 : q16.2.2 ≤ q17.2.2 := xq17.1
  have hb := bind_in hf
  clear hf
  obtain ⟨q18, eq18, hf⟩ := hb
  refine q_putRP (pc' := 82) (j := 9) C ha0 fbc_10_9 fpc_10_9 (by decide) wd_197 (Or.inl rfl) (Or.inr ⟨rfl, hin, rfl⟩) (by rfl) (by rfl) dX10_init_79 (by have := kq16.1; omega) rfl ?_
  replace eq18 := (Option.some.inj eq18).symm
  refine V.eq (h1 := q18.1) (S1 := q18.2) (by rw [eq18] <;> rfl) (by rw [eq18] <;> rfl) rfl rfl rfl ?_
  replace ha0 : KD q18.2 a0 10 0 := by rw [eq18]; exact KD.uS ha0 (by decide)
  replace kq16 : KD q18.2 (q15.2.2 : Int) 7 0 := by rw [eq18]; exact KD.uS kq16 (by decide)
  replace kq11 : KD q18.2 (q10.2.2 : Int) 20 5 := by rw [eq18]; exact KD.uS kq11 (by decide)
  replace f6 : q18.2.1 a0 6 = (q10.2.2 : Int) := by rw [eq18]; exact (uS_ne (by decide)).trans f6
  have mq18 : q17.2.2 ≤ q18.2.2 := by rw [eq18]; exact Nat.le_refl _
  refine r_aload_n (pc' := 83) (f4 := 0) (i := 0) C 0 rfl rfl dX10_init_82 rfl ?_
  have hb := bind_in hf
  clear hf
  obtain ⟨q19, eq19, hf⟩ := hb
  refine r_new (ci := 7) (pc' := 86) C cl_7 uin_7 tyX7_ok dvc_7 wd_142 wd_143 wd_97 ⟨Nat.le_of_ble_eq_true rfl, Nat.le_of_ble_eq_true rfl⟩ dX10_init_83 rfl ?_
  replace eq19 := (Option.some.inj eq19).symm
  refine V.eq (h1 := q19.1) (S1 := q19.2) (by rw [eq19] <;> rfl) (by rw [eq19] <;> rfl) rfl rfl rfl ?_
  replace ha0 : KD q19.2 a0 10 0 := by rw [eq19]; exact KD.ext SXt.nS ha0
  replace kq11 : KD q19.2 (q10.2.2 : Int) 20 5 := by rw [eq19]; exact KD.ext SXt.nS kq11
  replace f6 : q19.2.1 a0 6 = (q10.2.2 : Int) := by rw [eq19]; exact (SXt.nS.2 a0 6 (by omega)).trans f6
  have mq19 : q18.2.2 ≤ q19.2.2 := by rw [eq19]; exact SXt.nS.1
  have kq19 : KD q19.2 (q18.2.2 : Int) 7 0 := by rw [eq19]; exact KD.new
  refine r_dup (pc' := 87) C rfl dX10_init_86 rfl ?_
  refine r_bipush (pc' := 89) C rfl dX10_init_87 rfl ?_
  have hb := bind_in hf
  clear hf
  obtain ⟨q20, eq20, hf⟩ := hb
  refine r_callI (pc' := 92) C 1 (t_c_rows kq19 (by decide) eq20) rfl (lwb_codeIn wd_146) wd_97 wd_144 wd_145 rfl ⟨by decide, by decide, by decide +kernel⟩ ⟨Nat.le_of_ble_eq_true rfl, Nat.le_of_ble_eq_true rfl⟩ rfl rfl (Nat.le_of_ble_eq_true rfl) dX10_init_89 rfl ⟨Nat.le_of_ble_eq_true rfl, Nat.le_of_ble_eq_true rfl⟩ ?_
  have xq20 := x_c_rows kq19 (by decide) eq20
  have hne : a0 ≠ (q18.2.2 : Int) := by omega
  replace ha0 : KD q20.2 a0 10 0 := KD.exo xq20 ha0
  replace kq19 : KD q20.2 (q18.2.2 : Int) 7 0 := KD.exo xq20 kq19
  replace kq11 : KD q20.2 (q10.2.2 : Int) 20 5 := KD.exo xq20 kq11
  replace f6 : q20.2.1 a0 6 = (q10.2.2 : Int) := (xq20.2.1 a0 6 (by omega) hne).trans f6
  have mq20 : q19.2.2 ≤ q20.2.2 := xq20.1
  have hb := bind_in hf
  clear hf
  obtain ⟨q21, eq21, hf⟩ := hb
  refine q_putRP (pc' := 95) (j := 10) C ha0 fbc_10_10 fpc_10_10 (by decide) wd_199 (Or.inl rfl) (Or.inr ⟨rfl, hin, rfl⟩) (by rfl) (by rfl) dX10_init_92 (by have := kq19.1; omega) rfl ?_
  replace eq21 := (Option.some.inj eq21).symm
  refine V.eq (h1 := q21.1) (S1 := q21.2) (by rw [eq21] <;> rfl) (by rw [eq21] <;> rfl) rfl rfl rfl ?_
  replace ha0 : KD q21.2 a0 10 0 := by rw [eq21]; exact KD.uS ha0 (by decide)
  replace kq19 : KD q21.2 (q18.2.2 : Int) 7 0 := by rw [eq21]; exact KD.uS kq19 (by decide)
  replace kq11 : KD q21.2 (q10.2.2 : Int) 20 5 := by rw [eq21]; exact KD.uS kq11 (by decide)
  replace f6 : q21.2.1 a0 6 = (q10.2.2 : Int) := by rw [eq21]; exact (uS_ne (by decide)).trans f6
  have mq21 : q20.2.2 ≤ q21.2.2 := by rw [eq21]; exact Nat.le_refl _
  refine r_aload_n (pc' := 96) (f4 := 0) (i := 0) C 0 rfl rfl dX10_init_95 rfl ?_
  refine r_slen (pc' := 101) C (n := 6) rfl sl_RX10_51 wvs_RX10_53 ⟨Nat.le_of_ble_eq_true rfl, Nat.le_of_ble_eq_true rfl⟩ (Nat.le_of_ble_eq_true rfl) ⟨Nat.le_of_ble_eq_true rfl, Nat.le_of_ble_eq_true rfl⟩ dX10_init_96 dX10_init_98 rfl ?_
  have hb := bind_in hf
  clear hf
  obtain ⟨q22, eq22, hf⟩ := hb
  refine r_newI (pc' := 103) C wd_159 ww_n6 ⟨by decide, by decide⟩ ⟨Nat.le_of_ble_eq_true rfl, Nat.le_of_ble_eq_true rfl⟩ dX10_init_101 rfl ?_
  replace eq22 := (Option.some.inj eq22).symm
  refine V.eq (h1 := q22.1) (S1 := q22.2) (by rw [eq22] <;> rfl) (by rw [eq22] <;> rfl) rfl rfl rfl ?_
  replace ha0 : KD q22.2 a0 10 0 := by rw [eq22]; exact KD.ext SXt.nS ha0
  replace kq11 : KD q22.2 (q10.2.2 : Int) 20 5 := by rw [eq22]; exact KD.ext SXt.nS kq11
  replace f6 : q22.2.1 a0 6 = (q10.2.2 : Int) := by rw [eq22]; exact (SXt.nS.2 a0 6 (by omega)).trans f6
  have mq22 : q21.2.2 ≤ q22.2.2 := by rw [eq22]; exact SXt.nS.1
  have kq22 : KD q22.2 (q21.2.2 : Int) 20 6 := by rw [eq22]; exact KD.new
  have hb := bind_in hf
  clear hf
  obtain ⟨q23, eq23, hf⟩ := hb
  refine q_putRP (pc' := 106) (j := 12) C ha0 fbc_10_12 fpc_10_12 (by decide) wd_203 (Or.inl rfl) (Or.inr ⟨rfl, hin, rfl⟩) (by rfl) (by rfl) dX10_init_103 (by have := kq22.1; omega) rfl ?_
  replace eq23 := (Option.some.inj eq23).symm
  refine V.eq (h1 := q23.1) (S1 := q23.2) (by rw [eq23] <;> rfl) (by rw [eq23] <;> rfl) rfl rfl rfl ?_
  replace ha0 : KD q23.2 a0 10 0 := by rw [eq23]; exact KD.uS ha0 (by decide)
  replace kq22 : KD q23.2 (q21.2.2 : Int) 20 6 := by rw [eq23]; exact KD.uS kq22 (by decide)
  replace kq11 : KD q23.2 (q10.2.2 : Int) 20 5 := by rw [eq23]; exact KD.uS kq11 (by decide)
  replace f6 : q23.2.1 a0 6 = (q10.2.2 : Int) := by rw [eq23]; exact (uS_ne (by decide)).trans f6
  have mq23 : q22.2.2 ≤ q23.2.2 := by rw [eq23]; exact Nat.le_refl _
  refine r_aload_n (pc' := 107) (f4 := 0) (i := 0) C 0 rfl rfl dX10_init_106 rfl ?_
  refine q_getP (pc' := 110) (j := 6) C ha0 fbc_10_6 (by decide) wd_188 (Or.inl rfl) f6 (by have := kq11.1; omega) dX10_init_107 rfl ?_
  refine r_bipush (pc' := 112) C rfl dX10_init_110 rfl ?_
  refine q_callSv (pc' := 115) C (t0_fillI kq11 (by decide)) rfl ws_RX10_62 ⟨Nat.le_of_ble_eq_true rfl, Nat.le_of_ble_eq_true rfl⟩ rfl rfl (Nat.le_of_ble_eq_true rfl) dX10_init_112 rfl ⟨Nat.le_of_ble_eq_true rfl, Nat.le_of_ble_eq_true rfl⟩ ?_
  cases hf
  exact r_vret C dX10_init_115

def c_x (h : HH) (S : SS) (a0 : Int) : Option (HH × SS) :=
  (some (nh h S.2, nS S 10 0)).bind fun q1 => 
  (c_world q1.1 q1.2 (S.2 : Int)).bind fun q2 => 
  (some (q2.1, uS q2.2 a0 0 (S.2 : Int))).bind fun q3 => 
  (some (nh q3.1 q3.2.2, nS q3.2 10 0)).bind fun q4 => 
  (c_world q4.1 q4.2 (q3.2.2 : Int)).bind fun q5 => 
  (some (q5.1, uS q5.2 a0 1 (q3.2.2 : Int))).bind fun q6 => 
  (some (nh q6.1 q6.2.2, nS q6.2 10 0)).bind fun q7 => 
  (c_world q7.1 q7.2 (q6.2.2 : Int)).bind fun q8 => 
  (some (q8.1, uS q8.2 a0 2 (q6.2.2 : Int))).bind fun q9 => 
  (some (nh q9.1 q9.2.2, nS q9.2 6 0)).bind fun q10 => 
  (c_reader q10.1 q10.2 (q9.2.2 : Int)).bind fun q11 => 
  (some (q11.1, uS q11.2 a0 4 (q9.2.2 : Int))).bind fun q12 => 
  (some (nh q12.1 q12.2.2, nS q12.2 26 6)).bind fun q13 => 
  (some (q13.1, uS q13.2 a0 5 (q12.2.2 : Int))).bind fun q14 => 
  (some (nh q14.1 q14.2.2, nS q14.2 13 0)).bind fun q15 => 
  (some (u2 (u2 q15.1 (q14.2.2 : Int) 0 0) (q14.2.2 : Int) 1 (-7), uS q15.2 a0 7 (q14.2.2 : Int))).bind fun q16 => 
  (some (mnH q16.1 q16.2.2 6, mnS q16.2 23 20 6 5)).bind fun q17 => 
  (some (q17.1, uS q17.2 a0 8 (q16.2.2 : Int))).bind fun q18 => 
  (some (mnH q18.1 q18.2.2 6, mnS q18.2 23 20 6 64)).bind fun q19 => 
  (some (q19.1, uS q19.2 a0 9 (q18.2.2 : Int))).bind fun q20 => 
  (some (nh q20.1 q20.2.2, nS q20.2 20 6)).bind fun q21 => 
  (some (q21.1, uS q21.2 a0 10 (q20.2.2 : Int))).bind fun q22 => 
  (some (nh q22.1 q22.2.2, nS q22.2 20 6)).bind fun q23 => 
  (some (q23.1, uS q23.2 a0 11 (q22.2.2 : Int))).bind fun q24 => 
  (some (mnH q24.1 q24.2.2 6, mnS q24.2 24 21 6 60)).bind fun q25 => 
  (some (q25.1, uS q25.2 a0 12 (q24.2.2 : Int))).bind fun q26 => 
  (some (nh q26.1 q26.2.2, nS q26.2 5 0)).bind fun q27 => 
  (c_orchard q27.1 q27.2 (q26.2.2 : Int)).bind fun q28 => 
  (some (q28.1, uS q28.2 (q12.2.2 : Int) 0 (q26.2.2 : Int))).bind fun q29 => 
  (some (nh q29.1 q29.2.2, nS q29.2 5 0)).bind fun q30 => 
  (c_orchard q30.1 q30.2 (q29.2.2 : Int)).bind fun q31 => 
  (some (q31.1, uS q31.2 (q12.2.2 : Int) 1 (q29.2.2 : Int))).bind fun q32 => 
  (some (nh q32.1 q32.2.2, nS q32.2 5 0)).bind fun q33 => 
  (c_orchard q33.1 q33.2 (q32.2.2 : Int)).bind fun q34 => 
  (some (q34.1, uS q34.2 (q12.2.2 : Int) 2 (q32.2.2 : Int))).bind fun q35 => 
  (some (nh q35.1 q35.2.2, nS q35.2 5 0)).bind fun q36 => 
  (c_orchard q36.1 q36.2 (q35.2.2 : Int)).bind fun q37 => 
  (some (q37.1, uS q37.2 (q12.2.2 : Int) 3 (q35.2.2 : Int))).bind fun q38 => 
  (some (nh q38.1 q38.2.2, nS q38.2 5 0)).bind fun q39 => 
  (c_orchard q39.1 q39.2 (q38.2.2 : Int)).bind fun q40 => 
  (some (q40.1, uS q40.2 (q12.2.2 : Int) 4 (q38.2.2 : Int))).bind fun q41 => 
  (some (nh q41.1 q41.2.2, nS q41.2 5 0)).bind fun q42 => 
  (c_orchard q42.1 q42.2 (q41.2.2 : Int)).bind fun q43 => 
  (some (q43.1, uS q43.2 (q12.2.2 : Int) 5 (q41.2.2 : Int))).bind fun q44 => 
  some (flA q44.1 (q20.2.2 : Int) 6 (-5), q44.2)
theorem x_c_x {S : SS} {h : HH} {a0 : Int} (ha0 : KD S a0 11 0) {res : HH × SS} (hf : c_x h S a0 = some res) : SXo S res.2 a0 := by
  unfold c_x at hf
  have y0 : SXo S S a0 := SXo.rf
  have hlt0 := ha0.2.1
  have hb := bind_in hf
  clear hf
  obtain ⟨q1, eq1, hf⟩ := hb
  replace eq1 := (Option.some.inj eq1).symm
  have mq1 : S.2 ≤ q1.2.2 := by rw [eq1]; exact SXt.nS.1
  have yq1 : SXo S q1.2 a0 := by rw [eq1]; exact SXo.tr y0 (SXt.o SXt.nS (by omega))
  have kq1 : KD q1.2 (S.2 : Int) 10 0 := by rw [eq1]; exact KD.new
  have hb := bind_in hf
  clear hf
  obtain ⟨q2, eq2, hf⟩ := hb
  have zq2 := x_c_world kq1 eq2
  have mq2 : q1.2.2 ≤ q2.2.2 := zq2.1
  have yq2 : SXo S q2.2 a0 := SXo.tn yq1 zq2 (by omega) hlt0
  have hb := bind_in hf
  clear hf
  obtain ⟨q3, eq3, hf⟩ := hb
  replace eq3 := (Option.some.inj eq3).symm
  have mq3 : q2.2.2 ≤ q3.2.2 := by rw [eq3]; exact Nat.le_refl _
  have yq3 : SXo S q3.2 a0 := by rw [eq3]; exact SXo.tr yq2 (SXo.put (by decide))
  have hb := bind_in hf
  clear hf
  obtain ⟨q4, eq4, hf⟩ := hb
  replace eq4 := (Option.some.inj eq4).symm
  have mq4 : q3.2.2 ≤ q4.2.2 := by rw [eq4]; exact SXt.nS.1
  have yq4 : SXo S q4.2 a0 := by rw [eq4]; exact SXo.tr yq3 (SXt.o SXt.nS (by omega))
  have kq4 : KD q4.2 (q3.2.2 : Int) 10 0 := by rw [eq4]; exact KD.new
  have hb := bind_in hf
  clear hf
  obtain ⟨q5, eq5, hf⟩ := hb
  have zq5 := x_c_world kq4 eq5
  have mq5 : q4.2.2 ≤ q5.2.2 := zq5.1
  have yq5 : SXo S q5.2 a0 := SXo.tn yq4 zq5 (by omega) hlt0
  have hb := bind_in hf
  clear hf
  obtain ⟨q6, eq6, hf⟩ := hb
  replace eq6 := (Option.some.inj eq6).symm
  have mq6 : q5.2.2 ≤ q6.2.2 := by rw [eq6]; exact Nat.le_refl _
  have yq6 : SXo S q6.2 a0 := by rw [eq6]; exact SXo.tr yq5 (SXo.put (by decide))
  have hb := bind_in hf
  clear hf
  obtain ⟨q7, eq7, hf⟩ := hb
  replace eq7 := (Option.some.inj eq7).symm
  have mq7 : q6.2.2 ≤ q7.2.2 := by rw [eq7]; exact SXt.nS.1
  have yq7 : SXo S q7.2 a0 := by rw [eq7]; exact SXo.tr yq6 (SXt.o SXt.nS (by omega))
  have kq7 : KD q7.2 (q6.2.2 : Int) 10 0 := by rw [eq7]; exact KD.new
  have hb := bind_in hf
  clear hf
  obtain ⟨q8, eq8, hf⟩ := hb
  have zq8 := x_c_world kq7 eq8
  have mq8 : q7.2.2 ≤ q8.2.2 := zq8.1
  have yq8 : SXo S q8.2 a0 := SXo.tn yq7 zq8 (by omega) hlt0
  have hb := bind_in hf
  clear hf
  obtain ⟨q9, eq9, hf⟩ := hb
  replace eq9 := (Option.some.inj eq9).symm
  have mq9 : q8.2.2 ≤ q9.2.2 := by rw [eq9]; exact Nat.le_refl _
  have yq9 : SXo S q9.2 a0 := by rw [eq9]; exact SXo.tr yq8 (SXo.put (by decide))
  have hb := bind_in hf
  clear hf
  obtain ⟨q10, eq10, hf⟩ := hb
  replace eq10 := (Option.some.inj eq10).symm
  have mq10 : q9.2.2 ≤ q10.2.2 := by rw [eq10]; exact SXt.nS.1
  have yq10 : SXo S q10.2 a0 := by rw [eq10]; exact SXo.tr yq9 (SXt.o SXt.nS (by omega))
  have kq10 : KD q10.2 (q9.2.2 : Int) 6 0 := by rw [eq10]; exact KD.new
  have hb := bind_in hf
  clear hf
  obtain ⟨q11, eq11, hf⟩ := hb
  have zq11 := x_c_reader kq10 eq11
  have mq11 : q10.2.2 ≤ q11.2.2 := zq11.1
  have yq11 : SXo S q11.2 a0 := SXo.tn yq10 zq11 (by omega) hlt0
  have hb := bind_in hf
  clear hf
  obtain ⟨q12, eq12, hf⟩ := hb
  replace eq12 := (Option.some.inj eq12).symm
  have mq12 : q11.2.2 ≤ q12.2.2 := by rw [eq12]; exact Nat.le_refl _
  have yq12 : SXo S q12.2 a0 := by rw [eq12]; exact SXo.tr yq11 (SXo.put (by decide))
  have hb := bind_in hf
  clear hf
  obtain ⟨q13, eq13, hf⟩ := hb
  replace eq13 := (Option.some.inj eq13).symm
  have mq13 : q12.2.2 ≤ q13.2.2 := by rw [eq13]; exact SXt.nS.1
  have yq13 : SXo S q13.2 a0 := by rw [eq13]; exact SXo.tr yq12 (SXt.o SXt.nS (by omega))
  have hb := bind_in hf
  clear hf
  obtain ⟨q14, eq14, hf⟩ := hb
  replace eq14 := (Option.some.inj eq14).symm
  have mq14 : q13.2.2 ≤ q14.2.2 := by rw [eq14]; exact Nat.le_refl _
  have yq14 : SXo S q14.2 a0 := by rw [eq14]; exact SXo.tr yq13 (SXo.put (by decide))
  have hb := bind_in hf
  clear hf
  obtain ⟨q15, eq15, hf⟩ := hb
  replace eq15 := (Option.some.inj eq15).symm
  have mq15 : q14.2.2 ≤ q15.2.2 := by rw [eq15]; exact SXt.nS.1
  have yq15 : SXo S q15.2 a0 := by rw [eq15]; exact SXo.tr yq14 (SXt.o SXt.nS (by omega))
  have kq15 : KD q15.2 (q14.2.2 : Int) 13 0 := by rw [eq15]; exact KD.new
  have hb := bind_in hf
  clear hf
  obtain ⟨q16, eq16, hf⟩ := hb
  replace eq16 := (Option.some.inj eq16).symm
  have mq16 : q15.2.2 ≤ q16.2.2 := by rw [eq16]; exact Nat.le_refl _
  have yq16 : SXo S q16.2 a0 := by rw [eq16]; exact SXo.tr yq15 (SXo.put (by decide))
  have hb := bind_in hf
  clear hf
  obtain ⟨q17, eq17, hf⟩ := hb
  replace eq17 := (Option.some.inj eq17).symm
  have mq17 : q16.2.2 ≤ q17.2.2 := by rw [eq17]; exact SXt.mnS.1
  have yq17 : SXo S q17.2 a0 := by rw [eq17]; exact SXo.tr yq16 (SXt.o SXt.mnS (by omega))
  have hb := bind_in hf
  clear hf
  obtain ⟨q18, eq18, hf⟩ := hb
  replace eq18 := (Option.some.inj eq18).symm
  have mq18 : q17.2.2 ≤ q18.2.2 := by rw [eq18]; exact Nat.le_refl _
  have yq18 : SXo S q18.2 a0 := by rw [eq18]; exact SXo.tr yq17 (SXo.put (by decide))
  have hb := bind_in hf
  clear hf
  obtain ⟨q19, eq19, hf⟩ := hb
  replace eq19 := (Option.some.inj eq19).symm
  have mq19 : q18.2.2 ≤ q19.2.2 := by rw [eq19]; exact SXt.mnS.1
  have yq19 : SXo S q19.2 a0 := by rw [eq19]; exact SXo.tr yq18 (SXt.o SXt.mnS (by omega))
  have hb := bind_in hf
  clear hf
  obtain ⟨q20, eq20, hf⟩ := hb
  replace eq20 := (Option.some.inj eq20).symm
  have mq20 : q19.2.2 ≤ q20.2.2 := by rw [eq20]; exact Nat.le_refl _
  have yq20 : SXo S q20.2 a0 := by rw [eq20]; exact SXo.tr yq19 (SXo.put (by decide))
  have hb := bind_in hf
  clear hf
  obtain ⟨q21, eq21, hf⟩ := hb
  replace eq21 := (Option.some.inj eq21).symm
  have mq21 : q20.2.2 ≤ q21.2.2 := by rw [eq21]; exact SXt.nS.1
  have yq21 : SXo S q21.2 a0 := by rw [eq21]; exact SXo.tr yq20 (SXt.o SXt.nS (by omega))
  have hb := bind_in hf
  clear hf
  obtain ⟨q22, eq22, hf⟩ := hb
  replace eq22 := (Option.some.inj eq22).symm
  have mq22 : q21.2.2 ≤ q22.2.2 := by rw [eq22]; exact Nat.le_refl _
  have yq22 : SXo S q22.2 a0 := by rw [eq22]; exact SXo.tr yq21 (SXo.put (by decide))
  have hb := bind_in hf
  clear hf
  obtain ⟨q23, eq23, hf⟩ := hb
  replace eq23 := (Option.some.inj eq23).symm
  have mq23 : q22.2.2 ≤ q23.2.2 := by rw [eq23]; exact SXt.nS.1
  have yq23 : SXo S q23.2 a0 := by rw [eq23]; exact SXo.tr yq22 (SXt.o SXt.nS (by omega))
  have hb := bind_in hf
  clear hf
  obtain ⟨q24, eq24, hf⟩ := hb
  replace eq24 := (Option.some.inj eq24).symm
  have mq24 : q23.2.2 ≤ q24.2.2 := by rw [eq24]; exact Nat.le_refl _
  have yq24 : SXo S q24.2 a0 := by rw [eq24]; exact SXo.tr yq23 (SXo.put (by decide))
  have hb := bind_in hf
  clear hf
  obtain ⟨q25, eq25, hf⟩ := hb
  replace eq25 := (Option.some.inj eq25).symm
  have mq25 : q24.2.2 ≤ q25.2.2 := by rw [eq25]; exact SXt.mnS.1
  have yq25 : SXo S q25.2 a0 := by rw [eq25]; exact SXo.tr yq24 (SXt.o SXt.mnS (by omega))
  have hb := bind_in hf
  clear hf
  obtain ⟨q26, eq26, hf⟩ := hb
  replace eq26 := (Option.some.inj eq26).symm
  have mq26 : q25.2.2 ≤ q26.2.2 := by rw [eq26]; exact Nat.le_refl _
  have yq26 : SXo S q26.2 a0 := by rw [eq26]; exact SXo.tr yq25 (SXo.put (by decide))
  have hb := bind_in hf
  clear hf
  obtain ⟨q27, eq27, hf⟩ := hb
  replace eq27 := (Option.some.inj eq27).symm
  have mq27 : q26.2.2 ≤ q27.2.2 := by rw [eq27]; exact SXt.nS.1
  have yq27 : SXo S q27.2 a0 := by rw [eq27]; exact SXo.tr yq26 (SXt.o SXt.nS (by omega))
  have kq27 : KD q27.2 (q26.2.2 : Int) 5 0 := by rw [eq27]; exact KD.new
  have hb := bind_in hf
  clear hf
  obtain ⟨q28, eq28, hf⟩ := hb
  have zq28 := x_c_orchard kq27 eq28
  have mq28 : q27.2.2 ≤ q28.2.2 := zq28.1
  have yq28 : SXo S q28.2 a0 := SXo.tn yq27 zq28 (by omega) hlt0
  have hb := bind_in hf
  clear hf
  obtain ⟨q29, eq29, hf⟩ := hb
  replace eq29 := (Option.some.inj eq29).symm
  have mq29 : q28.2.2 ≤ q29.2.2 := by rw [eq29]; exact Nat.le_refl _
  have yq29 : SXo S q29.2 a0 := by rw [eq29]; exact SXo.tn yq28 (SXo.put (a := (q12.2.2 : Int)) (by decide)) (by omega) hlt0
  have hb := bind_in hf
  clear hf
  obtain ⟨q30, eq30, hf⟩ := hb
  replace eq30 := (Option.some.inj eq30).symm
  have mq30 : q29.2.2 ≤ q30.2.2 := by rw [eq30]; exact SXt.nS.1
  have yq30 : SXo S q30.2 a0 := by rw [eq30]; exact SXo.tr yq29 (SXt.o SXt.nS (by omega))
  have kq30 : KD q30.2 (q29.2.2 : Int) 5 0 := by rw [eq30]; exact KD.new
  have hb := bind_in hf
  clear hf
  obtain ⟨q31, eq31, hf⟩ := hb
  have zq31 := x_c_orchard kq30 eq31
  have mq31 : q30.2.2 ≤ q31.2.2 := zq31.1
  have yq31 : SXo S q31.2 a0 := SXo.tn yq30 zq31 (by omega) hlt0
  have hb := bind_in hf
  clear hf
  obtain ⟨q32, eq32, hf⟩ := hb
  replace eq32 := (Option.some.inj eq32).symm
  have mq32 : q31.2.2 ≤ q32.2.2 := by rw [eq32]; exact Nat.le_refl _
  have yq32 : SXo S q32.2 a0 := by rw [eq32]; exact SXo.tn yq31 (SXo.put (a := (q12.2.2 : Int)) (by decide)) (by omega) hlt0
  have hb := bind_in hf
  clear hf
  obtain ⟨q33, eq33, hf⟩ := hb
  replace eq33 := (Option.some.inj eq33).symm
  have mq33 : q32.2.2 ≤ q33.2.2 := by rw [eq33]; exact SXt.nS.1
  have yq33 : SXo S q33.2 a0 := by rw [eq33]; exact SXo.tr yq32 (SXt.o SXt.nS (by omega))
  have kq33 : KD q33.2 (q32.2.2 : Int) 5 0 := by rw [eq33]; exact KD.new
  have hb := bind_in hf
  clear hf
  obtain ⟨q34, eq34, hf⟩ := hb
  have zq34 := x_c_orchard kq33 eq34
  have mq34 : q33.2.2 ≤ q34.2.2 := zq34.1
  have yq34 : SXo S q34.2 a0 := SXo.tn yq33 zq34 (by omega) hlt0
  have hb := bind_in hf
  clear hf
  obtain ⟨q35, eq35, hf⟩ := hb
  replace eq35 := (Option.some.inj eq35).symm
  have mq35 : q34.2.2 ≤ q35.2.2 := by rw [eq35]; exact Nat.le_refl _
  have yq35 : SXo S q35.2 a0 := by rw [eq35]; exact SXo.tn yq34 (SXo.put (a := (q12.2.2 : Int)) (by decide)) (by omega) hlt0
  have hb := bind_in hf
  clear hf
  obtain ⟨q36, eq36, hf⟩ := hb
  replace eq36 := (Option.some.inj eq36).symm
  have mq36 : q35.2.2 ≤ q36.2.2 := by rw [eq36]; exact SXt.nS.1
  have yq36 : SXo S q36.2 a0 := by rw [eq36]; exact SXo.tr yq35 (SXt.o SXt.nS (by omega))
  have kq36 : KD q36.2 (q35.2.2 : Int) 5 0 := by rw [eq36]; exact KD.new
  have hb := bind_in hf
  clear hf
  obtain ⟨q37, eq37, hf⟩ := hb
  have zq37 := x_c_orchard kq36 eq37
  have mq37 : q36.2.2 ≤ q37.2.2 := zq37.1
  have yq37 : SXo S q37.2 a0 := SXo.tn yq36 zq37 (by omega) hlt0
  have hb := bind_in hf
  clear hf
  obtain ⟨q38, eq38, hf⟩ := hb
  replace eq38 := (Option.some.inj eq38).symm
  have mq38 : q37.2.2 ≤ q38.2.2 := by rw [eq38]; exact Nat.le_refl _
  have yq38 : SXo S q38.2 a0 := by rw [eq38]; exact SXo.tn yq37 (SXo.put (a := (q12.2.2 : Int)) (by decide)) (by omega) hlt0
  have hb := bind_in hf
  clear hf
  obtain ⟨q39, eq39, hf⟩ := hb
  replace eq39 := (Option.some.inj eq39).symm
  have mq39 : q38.2.2 ≤ q39.2.2 := by rw [eq39]; exact SXt.nS.1
  have yq39 : SXo S q39.2 a0 := by rw [eq39]; exact SXo.tr yq38 (SXt.o SXt.nS (by omega))
  have kq39 : KD q39.2 (q38.2.2 : Int) 5 0 := by rw [eq39]; exact KD.new
  have hb := bind_in hf
  clear hf
  obtain ⟨q40, eq40, hf⟩ := hb
  have zq40 := x_c_orchard kq39 eq40
  have mq40 : q39.2.2 ≤ q40.2.2 := zq40.1
  have yq40 : SXo S q40.2 a0 := SXo.tn yq39 zq40 (by omega) hlt0
  have hb := bind_in hf
  clear hf
  obtain ⟨q41, eq41, hf⟩ := hb
  replace eq41 := (Option.some.inj eq41).symm
  have mq41 : q40.2.2 ≤ q41.2.2 := by rw [eq41]; exact Nat.le_refl _
  have yq41 : SXo S q41.2 a0 := by rw [eq41]; exact SXo.tn yq40 (SXo.put (a := (q12.2.2 : Int)) (by decide)) (by omega) hlt0
  have hb := bind_in hf
  clear hf
  obtain ⟨q42, eq42, hf⟩ := hb
  replace eq42 := (Option.some.inj eq42).symm
  have mq42 : q41.2.2 ≤ q42.2.2 := by rw [eq42]; exact SXt.nS.1
  have yq42 : SXo S q42.2 a0 := by rw [eq42]; exact SXo.tr yq41 (SXt.o SXt.nS (by omega))
  have kq42 : KD q42.2 (q41.2.2 : Int) 5 0 := by rw [eq42]; exact KD.new
  have hb := bind_in hf
  clear hf
  obtain ⟨q43, eq43, hf⟩ := hb
  have zq43 := x_c_orchard kq42 eq43
  have mq43 : q42.2.2 ≤ q43.2.2 := zq43.1
  have yq43 : SXo S q43.2 a0 := SXo.tn yq42 zq43 (by omega) hlt0
  have hb := bind_in hf
  clear hf
  obtain ⟨q44, eq44, hf⟩ := hb
  replace eq44 := (Option.some.inj eq44).symm
  have mq44 : q43.2.2 ≤ q44.2.2 := by rw [eq44]; exact Nat.le_refl _
  have yq44 : SXo S q44.2 a0 := by rw [eq44]; exact SXo.tn yq43 (SXo.put (a := (q12.2.2 : Int)) (by decide)) (by omega) hlt0
  cases hf
  exact yq44
set_option maxHeartbeats 4000000 in
set_option maxRecDepth 100000 in
theorem t_c_x {S : SS} {h : HH} {a0 : Int} (ha0 : KD S a0 11 0) {res : HH × SS} (hf : c_x h S a0 = some res) : CM yX11_init cX11_init 2 (Option.none : Option Jvm.ClassFile.FieldType) 4 80 192 2831 (fun bs => [zP bs a0]) h S (fun _ => none) res.1 res.2 := by
  refine CMI.intro (own := RX11) rfl (by decide) rfl (fun _ => Nat.le_of_ble_eq_true rfl) ?_
  intro D dT bs p l e s m args below meth c C hin
  show V D dT bs 2 p l e { frames := 4, cells := 192, slots := 2831, locals := 80 } s m args below meth c 0 0 _ h S 0 [(0, zP bs a0)] []
  unfold c_x at hf
  have hlt0 := ha0.2.1
  refine r_aload_n (pc' := 1) (f4 := 0) (i := 0) C 0 rfl rfl dX11_init_0 rfl ?_
  refine r_objI (pc' := 4) C wd_129 wd_130 wd_131 (Nat.le_of_ble_eq_true rfl) (Nat.le_of_ble_eq_true rfl) dX11_init_1 rfl ?_
  refine r_aload_n (pc' := 5) (f4 := 0) (i := 0) C 0 rfl rfl dX11_init_4 rfl ?_
  have hb := bind_in hf
  clear hf
  obtain ⟨q1, eq1, hf⟩ := hb
  refine r_new (ci := 10) (pc' := 8) C cl_10 uin_10 tyX10_ok dvc_10 wd_132 wd_133 wd_96 ⟨Nat.le_of_ble_eq_true rfl, Nat.le_of_ble_eq_true rfl⟩ dX11_init_5 rfl ?_
  replace eq1 := (Option.some.inj eq1).symm
  refine V.eq (h1 := q1.1) (S1 := q1.2) (by rw [eq1] <;> rfl) (by rw [eq1] <;> rfl) rfl rfl rfl ?_
  replace ha0 : KD q1.2 a0 11 0 := by rw [eq1]; exact KD.ext SXt.nS ha0
  have mq1 : S.2 ≤ q1.2.2 := by rw [eq1]; exact SXt.nS.1
  have kq1 : KD q1.2 (S.2 : Int) 10 0 := by rw [eq1]; exact KD.new
  refine r_dup (pc' := 9) C rfl dX11_init_8 rfl ?_
  have hb := bind_in hf
  clear hf
  obtain ⟨q2, eq2, hf⟩ := hb
  refine r_callI (pc' := 12) C 0 (t_c_world kq1 eq2) rfl (lwb_codeIn wd_136) wd_96 wd_134 wd_135 rfl ⟨by decide, by decide, by decide +kernel⟩ ⟨Nat.le_of_ble_eq_true rfl, Nat.le_of_ble_eq_true rfl⟩ rfl rfl (Nat.le_of_ble_eq_true rfl) dX11_init_9 rfl ⟨Nat.le_of_ble_eq_true rfl, Nat.le_of_ble_eq_true rfl⟩ ?_
  have xq2 := x_c_world kq1 eq2
  have hne : a0 ≠ (S.2 : Int) := by omega
  replace ha0 : KD q2.2 a0 11 0 := KD.exo xq2 ha0
  replace kq1 : KD q2.2 (S.2 : Int) 10 0 := KD.exo xq2 kq1
  have mq2 : q1.2.2 ≤ q2.2.2 := xq2.1
  have hb := bind_in hf
  clear hf
  obtain ⟨q3, eq3, hf⟩ := hb
  refine q_putRP (pc' := 15) (j := 0) C ha0 fbc_11_0 fpc_11_0 (by decide) wd_311 (Or.inl rfl) (Or.inr ⟨rfl, hin, rfl⟩) (by rfl) (by rfl) dX11_init_12 (by have := kq1.1; omega) rfl ?_
  replace eq3 := (Option.some.inj eq3).symm
  refine V.eq (h1 := q3.1) (S1 := q3.2) (by rw [eq3] <;> rfl) (by rw [eq3] <;> rfl) rfl rfl rfl ?_
  replace ha0 : KD q3.2 a0 11 0 := by rw [eq3]; exact KD.uS ha0 (by decide)
  replace kq1 : KD q3.2 (S.2 : Int) 10 0 := by rw [eq3]; exact KD.uS kq1 (by decide)
  have mq3 : q2.2.2 ≤ q3.2.2 := by rw [eq3]; exact Nat.le_refl _
  refine r_aload_n (pc' := 16) (f4 := 0) (i := 0) C 0 rfl rfl dX11_init_15 rfl ?_
  have hb := bind_in hf
  clear hf
  obtain ⟨q4, eq4, hf⟩ := hb
  refine r_new (ci := 10) (pc' := 19) C cl_10 uin_10 tyX10_ok dvc_10 wd_132 wd_133 wd_96 ⟨Nat.le_of_ble_eq_true rfl, Nat.le_of_ble_eq_true rfl⟩ dX11_init_16 rfl ?_
  replace eq4 := (Option.some.inj eq4).symm
  refine V.eq (h1 := q4.1) (S1 := q4.2) (by rw [eq4] <;> rfl) (by rw [eq4] <;> rfl) rfl rfl rfl ?_
  replace ha0 : KD q4.2 a0 11 0 := by rw [eq4]; exact KD.ext SXt.nS ha0
  have mq4 : q3.2.2 ≤ q4.2.2 := by rw [eq4]; exact SXt.nS.1
  have kq4 : KD q4.2 (q3.2.2 : Int) 10 0 := by rw [eq4]; exact KD.new
  refine r_dup (pc' := 20) C rfl dX11_init_19 rfl ?_
  have hb := bind_in hf
  clear hf
  obtain ⟨q5, eq5, hf⟩ := hb
  refine r_callI (pc' := 23) C 0 (t_c_world kq4 eq5) rfl (lwb_codeIn wd_136) wd_96 wd_134 wd_135 rfl ⟨by decide, by decide, by decide +kernel⟩ ⟨Nat.le_of_ble_eq_true rfl, Nat.le_of_ble_eq_true rfl⟩ rfl rfl (Nat.le_of_ble_eq_true rfl) dX11_init_20 rfl ⟨Nat.le_of_ble_eq_true rfl, Nat.le_of_ble_eq_true rfl⟩ ?_
  have xq5 := x_c_world kq4 eq5
  have hne : a0 ≠ (q3.2.2 : Int) := by omega
  replace ha0 : KD q5.2 a0 11 0 := KD.exo xq5 ha0
  replace kq4 : KD q5.2 (q3.2.2 : Int) 10 0 := KD.exo xq5 kq4
  have mq5 : q4.2.2 ≤ q5.2.2 := xq5.1
  have hb := bind_in hf
  clear hf
  obtain ⟨q6, eq6, hf⟩ := hb
  refine q_putRP (pc' := 26) (j := 1) C ha0 fbc_11_1 fpc_11_1 (by decide) wd_312 (Or.inl rfl) (Or.inr ⟨rfl, hin, rfl⟩) (by rfl) (by rfl) dX11_init_23 (by have := kq4.1; omega) rfl ?_
  replace eq6 := (Option.some.inj eq6).symm
  refine V.eq (h1 := q6.1) (S1 := q6.2) (by rw [eq6] <;> rfl) (by rw [eq6] <;> rfl) rfl rfl rfl ?_
  replace ha0 : KD q6.2 a0 11 0 := by rw [eq6]; exact KD.uS ha0 (by decide)
  replace kq4 : KD q6.2 (q3.2.2 : Int) 10 0 := by rw [eq6]; exact KD.uS kq4 (by decide)
  have mq6 : q5.2.2 ≤ q6.2.2 := by rw [eq6]; exact Nat.le_refl _
  refine r_aload_n (pc' := 27) (f4 := 0) (i := 0) C 0 rfl rfl dX11_init_26 rfl ?_
  have hb := bind_in hf
  clear hf
  obtain ⟨q7, eq7, hf⟩ := hb
  refine r_new (ci := 10) (pc' := 30) C cl_10 uin_10 tyX10_ok dvc_10 wd_132 wd_133 wd_96 ⟨Nat.le_of_ble_eq_true rfl, Nat.le_of_ble_eq_true rfl⟩ dX11_init_27 rfl ?_
  replace eq7 := (Option.some.inj eq7).symm
  refine V.eq (h1 := q7.1) (S1 := q7.2) (by rw [eq7] <;> rfl) (by rw [eq7] <;> rfl) rfl rfl rfl ?_
  replace ha0 : KD q7.2 a0 11 0 := by rw [eq7]; exact KD.ext SXt.nS ha0
  have mq7 : q6.2.2 ≤ q7.2.2 := by rw [eq7]; exact SXt.nS.1
  have kq7 : KD q7.2 (q6.2.2 : Int) 10 0 := by rw [eq7]; exact KD.new
  refine r_dup (pc' := 31) C rfl dX11_init_30 rfl ?_
  have hb := bind_in hf
  clear hf
  obtain ⟨q8, eq8, hf⟩ := hb
  refine r_callI (pc' := 34) C 0 (t_c_world kq7 eq8) rfl (lwb_codeIn wd_136) wd_96 wd_134 wd_135 rfl ⟨by decide, by decide, by decide +kernel⟩ ⟨Nat.le_of_ble_eq_true rfl, Nat.le_of_ble_eq_true rfl⟩ rfl rfl (Nat.le_of_ble_eq_true rfl) dX11_init_31 rfl ⟨Nat.le_of_ble_eq_true rfl, Nat.le_of_ble_eq_true rfl⟩ ?_
  have xq8 := x_c_world kq7 eq8
  have hne : a0 ≠ (q6.2.2 : Int) := by omega
  replace ha0 : KD q8.2 a0 11 0 := KD.exo xq8 ha0
  replace kq7 : KD q8.2 (q6.2.2 : Int) 10 0 := KD.exo xq8 kq7
  have mq8 : q7.2.2 ≤ q8.2.2 := xq8.1
  have hb := bind_in hf
  clear hf
  obtain ⟨q9, eq9, hf⟩ := hb
  refine q_putRP (pc' := 37) (j := 2) C ha0 fbc_11_2 fpc_11_2 (by decide) wd_313 (Or.inl rfl) (Or.inr ⟨rfl, hin, rfl⟩) (by rfl) (by rfl) dX11_init_34 (by have := kq7.1; omega) rfl ?_
  replace eq9 := (Option.some.inj eq9).symm
  refine V.eq (h1 := q9.1) (S1 := q9.2) (by rw [eq9] <;> rfl) (by rw [eq9] <;> rfl) rfl rfl rfl ?_
  replace ha0 : KD q9.2 a0 11 0 := by rw [eq9]; exact KD.uS ha0 (by decide)
  replace kq7 : KD q9.2 (q6.2.2 : Int) 10 0 := by rw [eq9]; exact KD.uS kq7 (by decide)
  have mq9 : q8.2.2 ≤ q9.2.2 := by rw [eq9]; exact Nat.le_refl _
  refine r_aload_n (pc' := 38) (f4 := 0) (i := 0) C 0 rfl rfl dX11_init_37 rfl ?_
  have hb := bind_in hf
  clear hf
  obtain ⟨q10, eq10, hf⟩ := hb
  refine r_new (ci := 6) (pc' := 41) C cl_6 uin_6 tyX6_ok dvc_6 wd_232 wd_233 wd_100 ⟨Nat.le_of_ble_eq_true rfl, Nat.le_of_ble_eq_true rfl⟩ dX11_init_38 rfl ?_
  replace eq10 := (Option.some.inj eq10).symm
  refine V.eq (h1 := q10.1) (S1 := q10.2) (by rw [eq10] <;> rfl) (by rw [eq10] <;> rfl) rfl rfl rfl ?_
  replace ha0 : KD q10.2 a0 11 0 := by rw [eq10]; exact KD.ext SXt.nS ha0
  have mq10 : q9.2.2 ≤ q10.2.2 := by rw [eq10]; exact SXt.nS.1
  have kq10 : KD q10.2 (q9.2.2 : Int) 6 0 := by rw [eq10]; exact KD.new
  refine r_dup (pc' := 42) C rfl dX11_init_41 rfl ?_
  have hb := bind_in hf
  clear hf
  obtain ⟨q11, eq11, hf⟩ := hb
  refine r_callIN (pc' := 45) C 0 (t_c_reader kq10 eq11) rfl wt_234 wd_235 wd_100 wd_236 rfl ⟨by decide, by decide, by decide +kernel⟩ ⟨Nat.le_of_ble_eq_true rfl, Nat.le_of_ble_eq_true rfl⟩ rfl rfl (Nat.le_of_ble_eq_true rfl) dX11_init_42 rfl ⟨Nat.le_of_ble_eq_true rfl, Nat.le_of_ble_eq_true rfl⟩ ?_
  have xq11 := x_c_reader kq10 eq11
  have hne : a0 ≠ (q9.2.2 : Int) := by omega
  replace ha0 : KD q11.2 a0 11 0 := KD.exo xq11 ha0
  replace kq10 : KD q11.2 (q9.2.2 : Int) 6 0 := KD.exo xq11 kq10
  have mq11 : q10.2.2 ≤ q11.2.2 := xq11.1
  have hb := bind_in hf
  clear hf
  obtain ⟨q12, eq12, hf⟩ := hb
  refine q_putRP (pc' := 48) (j := 4) C ha0 fbc_11_4 fpc_11_4 (by decide) wd_315 (Or.inl rfl) (Or.inr ⟨rfl, hin, rfl⟩) (by rfl) (by rfl) dX11_init_45 (by have := kq10.1; omega) rfl ?_
  replace eq12 := (Option.some.inj eq12).symm
  refine V.eq (h1 := q12.1) (S1 := q12.2) (by rw [eq12] <;> rfl) (by rw [eq12] <;> rfl) rfl rfl rfl ?_
  replace ha0 : KD q12.2 a0 11 0 := by rw [eq12]; exact KD.uS ha0 (by decide)
  replace kq10 : KD q12.2 (q9.2.2 : Int) 6 0 := by rw [eq12]; exact KD.uS kq10 (by decide)
  have mq12 : q11.2.2 ≤ q12.2.2 := by rw [eq12]; exact Nat.le_refl _
  refine r_aload_n (pc' := 49) (f4 := 0) (i := 0) C 0 rfl rfl dX11_init_48 rfl ?_
  refine r_bipush (pc' := 51) C rfl dX11_init_49 rfl ?_
  have hb := bind_in hf
  clear hf
  obtain ⟨q13, eq13, hf⟩ := hb
  refine r_anew (t := 6) (pc' := 54) C (by decide) rfl wd_253 (in_t1 (List.mem_of_getElem? (i := 160) (by decide +kernel))) ww_n6 ⟨by decide, by decide⟩ ⟨Nat.le_of_ble_eq_true rfl, Nat.le_of_ble_eq_true rfl⟩ dX11_init_51 rfl ?_
  replace eq13 := (Option.some.inj eq13).symm
  refine V.eq (h1 := q13.1) (S1 := q13.2) (by rw [eq13] <;> rfl) (by rw [eq13] <;> rfl) rfl rfl rfl ?_
  replace ha0 : KD q13.2 a0 11 0 := by rw [eq13]; exact KD.ext SXt.nS ha0
  have mq13 : q12.2.2 ≤ q13.2.2 := by rw [eq13]; exact SXt.nS.1
  have kq13 : KD q13.2 (q12.2.2 : Int) 26 6 := by rw [eq13]; exact KD.new
  have hb := bind_in hf
  clear hf
  obtain ⟨q14, eq14, hf⟩ := hb
  refine q_putRP (pc' := 57) (j := 5) C ha0 fbc_11_5 fpc_11_5 (by decide) wd_316 (Or.inl rfl) (Or.inr ⟨rfl, hin, rfl⟩) (by rfl) (by rfl) dX11_init_54 (by have := kq13.1; omega) rfl ?_
  replace eq14 := (Option.some.inj eq14).symm
  refine V.eq (h1 := q14.1) (S1 := q14.2) (by rw [eq14] <;> rfl) (by rw [eq14] <;> rfl) rfl rfl rfl ?_
  replace ha0 : KD q14.2 a0 11 0 := by rw [eq14]; exact KD.uS ha0 (by decide)
  replace kq13 : KD q14.2 (q12.2.2 : Int) 26 6 := by rw [eq14]; exact KD.uS kq13 (by decide)
  have mq14 : q13.2.2 ≤ q14.2.2 := by rw [eq14]; exact Nat.le_refl _
  have f5 : q14.2.1 a0 5 = (q12.2.2 : Int) := by rw [eq14]; exact uS_same
  refine r_aload_n (pc' := 58) (f4 := 0) (i := 0) C 0 rfl rfl dX11_init_57 rfl ?_
  have hb := bind_in hf
  clear hf
  obtain ⟨q15, eq15, hf⟩ := hb
  refine r_new (ci := 13) (pc' := 61) C cl_13 uin_13 tyJx4a65c_ok dvc_13 wd_255 wd_256 wd_103 ⟨Nat.le_of_ble_eq_true rfl, Nat.le_of_ble_eq_true rfl⟩ dX11_init_58 rfl ?_
  replace eq15 := (Option.some.inj eq15).symm
  refine V.eq (h1 := q15.1) (S1 := q15.2) (by rw [eq15] <;> rfl) (by rw [eq15] <;> rfl) rfl rfl rfl ?_
  replace ha0 : KD q15.2 a0 11 0 := by rw [eq15]; exact KD.ext SXt.nS ha0
  replace kq13 : KD q15.2 (q12.2.2 : Int) 26 6 := by rw [eq15]; exact KD.ext SXt.nS kq13
  replace f5 : q15.2.1 a0 5 = (q12.2.2 : Int) := by rw [eq15]; exact (SXt.nS.2 a0 5 (by omega)).trans f5
  have mq15 : q14.2.2 ≤ q15.2.2 := by rw [eq15]; exact SXt.nS.1
  have kq15 : KD q15.2 (q14.2.2 : Int) 13 0 := by rw [eq15]; exact KD.new
  refine r_dup (pc' := 62) C rfl dX11_init_61 rfl ?_
  refine r_callI (pc' := 65) C 0 (t_linit kq15) rfl (lwb_codeIn wd_259) wd_103 wd_257 wd_258 rfl ⟨by decide, by decide, by decide +kernel⟩ ⟨Nat.le_of_ble_eq_true rfl, Nat.le_of_ble_eq_true rfl⟩ rfl rfl (Nat.le_of_ble_eq_true rfl) dX11_init_62 rfl ⟨Nat.le_of_ble_eq_true rfl, Nat.le_of_ble_eq_true rfl⟩ ?_
  have hb := bind_in hf
  clear hf
  obtain ⟨q16, eq16, hf⟩ := hb
  refine q_putRP (pc' := 68) (j := 7) C ha0 fbc_11_7 fpc_11_7 (by decide) wd_318 (Or.inl rfl) (Or.inr ⟨rfl, hin, rfl⟩) (by rfl) (by rfl) dX11_init_65 (by have := kq15.1; omega) rfl ?_
  replace eq16 := (Option.some.inj eq16).symm
  refine V.eq (h1 := q16.1) (S1 := q16.2) (by rw [eq16] <;> rfl) (by rw [eq16] <;> rfl) rfl rfl rfl ?_
  replace ha0 : KD q16.2 a0 11 0 := by rw [eq16]; exact KD.uS ha0 (by decide)
  replace kq15 : KD q16.2 (q14.2.2 : Int) 13 0 := by rw [eq16]; exact KD.uS kq15 (by decide)
  replace kq13 : KD q16.2 (q12.2.2 : Int) 26 6 := by rw [eq16]; exact KD.uS kq13 (by decide)
  replace f5 : q16.2.1 a0 5 = (q12.2.2 : Int) := by rw [eq16]; exact (uS_ne (by decide)).trans f5
  have mq16 : q15.2.2 ≤ q16.2.2 := by rw [eq16]; exact Nat.le_refl _
  refine r_aload_n (pc' := 69) (f4 := 0) (i := 0) C 0 rfl rfl dX11_init_68 rfl ?_
  refine r_bipush (pc' := 71) C rfl dX11_init_69 rfl ?_
  refine r_iconst (pc' := 72) C dX11_init_71 rfl ?_
  have hb := bind_in hf
  clear hf
  obtain ⟨q17, eq17, hf⟩ := hb
  refine r_multi (n := 6) (k := 5) (to := 3) (ti := 0) (ty := .int) (pc' := 76) C (by decide) (by decide) (by decide) wd_281 (in_t1 (List.mem_of_getElem? (i := 47) (by decide +kernel))) wd_159 ⟨Nat.le_of_ble_eq_true rfl, Nat.le_of_ble_eq_true rfl⟩ dX11_init_72 rfl ?_
  replace eq17 := (Option.some.inj eq17).symm
  refine V.eq (h1 := q17.1) (S1 := q17.2) (by rw [eq17] <;> rfl) (by rw [eq17] <;> rfl) rfl rfl rfl ?_
  replace ha0 : KD q17.2 a0 11 0 := by rw [eq17]; exact KD.ext SXt.mnS ha0
  replace kq13 : KD q17.2 (q12.2.2 : Int) 26 6 := by rw [eq17]; exact KD.ext SXt.mnS kq13
  replace f5 : q17.2.1 a0 5 = (q12.2.2 : Int) := by rw [eq17]; exact (SXt.mnS.2 a0 5 (by omega)).trans f5
  have mq17 : q16.2.2 ≤ q17.2.2 := by rw [eq17]; exact SXt.mnS.1
  have kq17 : KD q17.2 (q16.2.2 : Int) 23 6 := by rw [eq17]; exact KD.mnO
  have hb := bind_in hf
  clear hf
  obtain ⟨q18, eq18, hf⟩ := hb
  refine q_putRP (pc' := 79) (j := 8) C ha0 fbc_11_8 fpc_11_8 (by decide) wd_319 (Or.inl rfl) (Or.inr ⟨rfl, hin, rfl⟩) (by rfl) (by rfl) dX11_init_76 (by have := kq17.1; omega) rfl ?_
  replace eq18 := (Option.some.inj eq18).symm
  refine V.eq (h1 := q18.1) (S1 := q18.2) (by rw [eq18] <;> rfl) (by rw [eq18] <;> rfl) rfl rfl rfl ?_
  replace ha0 : KD q18.2 a0 11 0 := by rw [eq18]; exact KD.uS ha0 (by decide)
  replace kq17 : KD q18.2 (q16.2.2 : Int) 23 6 := by rw [eq18]; exact KD.uS kq17 (by decide)
  replace kq13 : KD q18.2 (q12.2.2 : Int) 26 6 := by rw [eq18]; exact KD.uS kq13 (by decide)
  replace f5 : q18.2.1 a0 5 = (q12.2.2 : Int) := by rw [eq18]; exact (uS_ne (by decide)).trans f5
  have mq18 : q17.2.2 ≤ q18.2.2 := by rw [eq18]; exact Nat.le_refl _
  refine r_aload_n (pc' := 80) (f4 := 0) (i := 0) C 0 rfl rfl dX11_init_79 rfl ?_
  refine r_bipush (pc' := 82) C rfl dX11_init_80 rfl ?_
  refine r_bipush (pc' := 84) C rfl dX11_init_82 rfl ?_
  have hb := bind_in hf
  clear hf
  obtain ⟨q19, eq19, hf⟩ := hb
  refine r_multi (n := 6) (k := 64) (to := 3) (ti := 0) (ty := .int) (pc' := 88) C (by decide) (by decide) (by decide) wd_281 (in_t1 (List.mem_of_getElem? (i := 47) (by decide +kernel))) wd_159 ⟨Nat.le_of_ble_eq_true rfl, Nat.le_of_ble_eq_true rfl⟩ dX11_init_84 rfl ?_
  replace eq19 := (Option.some.inj eq19).symm
  refine V.eq (h1 := q19.1) (S1 := q19.2) (by rw [eq19] <;> rfl) (by rw [eq19] <;> rfl) rfl rfl rfl ?_
  replace ha0 : KD q19.2 a0 11 0 := by rw [eq19]; exact KD.ext SXt.mnS ha0
  replace kq13 : KD q19.2 (q12.2.2 : Int) 26 6 := by rw [eq19]; exact KD.ext SXt.mnS kq13
  replace f5 : q19.2.1 a0 5 = (q12.2.2 : Int) := by rw [eq19]; exact (SXt.mnS.2 a0 5 (by omega)).trans f5
  have mq19 : q18.2.2 ≤ q19.2.2 := by rw [eq19]; exact SXt.mnS.1
  have kq19 : KD q19.2 (q18.2.2 : Int) 23 6 := by rw [eq19]; exact KD.mnO
  have hb := bind_in hf
  clear hf
  obtain ⟨q20, eq20, hf⟩ := hb
  refine q_putRP (pc' := 91) (j := 9) C ha0 fbc_11_9 fpc_11_9 (by decide) wd_320 (Or.inl rfl) (Or.inr ⟨rfl, hin, rfl⟩) (by rfl) (by rfl) dX11_init_88 (by have := kq19.1; omega) rfl ?_
  replace eq20 := (Option.some.inj eq20).symm
  refine V.eq (h1 := q20.1) (S1 := q20.2) (by rw [eq20] <;> rfl) (by rw [eq20] <;> rfl) rfl rfl rfl ?_
  replace ha0 : KD q20.2 a0 11 0 := by rw [eq20]; exact KD.uS ha0 (by decide)
  replace kq19 : KD q20.2 (q18.2.2 : Int) 23 6 := by rw [eq20]; exact KD.uS kq19 (by decide)
  replace kq13 : KD q20.2 (q12.2.2 : Int) 26 6 := by rw [eq20]; exact KD.uS kq13 (by decide)
  replace f5 : q20.2.1 a0 5 = (q12.2.2 : Int) := by rw [eq20]; exact (uS_ne (by decide)).trans f5
  have mq20 : q19.2.2 ≤ q20.2.2 := by rw [eq20]; exact Nat.le_refl _
  refine r_aload_n (pc' := 92) (f4 := 0) (i := 0) C 0 rfl rfl dX11_init_91 rfl ?_
  refine r_bipush (pc' := 94) C rfl dX11_init_92 rfl ?_
  have hb := bind_in hf
  clear hf
  obtain ⟨q21, eq21, hf⟩ := hb
  refine r_newI (pc' := 96) C wd_159 ww_n6 ⟨by decide, by decide⟩ ⟨Nat.le_of_ble_eq_true rfl, Nat.le_of_ble_eq_true rfl⟩ dX11_init_94 rfl ?_
  replace eq21 := (Option.some.inj eq21).symm
  refine V.eq (h1 := q21.1) (S1 := q21.2) (by rw [eq21] <;> rfl) (by rw [eq21] <;> rfl) rfl rfl rfl ?_
  replace ha0 : KD q21.2 a0 11 0 := by rw [eq21]; exact KD.ext SXt.nS ha0
  replace kq13 : KD q21.2 (q12.2.2 : Int) 26 6 := by rw [eq21]; exact KD.ext SXt.nS kq13
  replace f5 : q21.2.1 a0 5 = (q12.2.2 : Int) := by rw [eq21]; exact (SXt.nS.2 a0 5 (by omega)).trans f5
  have mq21 : q20.2.2 ≤ q21.2.2 := by rw [eq21]; exact SXt.nS.1
  have kq21 : KD q21.2 (q20.2.2 : Int) 20 6 := by rw [eq21]; exact KD.new
  have hb := bind_in hf
  clear hf
  obtain ⟨q22, eq22, hf⟩ := hb
  refine q_putRP (pc' := 99) (j := 10) C ha0 fbc_11_10 fpc_11_10 (by decide) wd_321 (Or.inl rfl) (Or.inr ⟨rfl, hin, rfl⟩) (by rfl) (by rfl) dX11_init_96 (by have := kq21.1; omega) rfl ?_
  replace eq22 := (Option.some.inj eq22).symm
  refine V.eq (h1 := q22.1) (S1 := q22.2) (by rw [eq22] <;> rfl) (by rw [eq22] <;> rfl) rfl rfl rfl ?_
  replace ha0 : KD q22.2 a0 11 0 := by rw [eq22]; exact KD.uS ha0 (by decide)
  replace kq21 : KD q22.2 (q20.2.2 : Int) 20 6 := by rw [eq22]; exact KD.uS kq21 (by decide)
  replace kq13 : KD q22.2 (q12.2.2 : Int) 26 6 := by rw [eq22]; exact KD.uS kq13 (by decide)
  replace f5 : q22.2.1 a0 5 = (q12.2.2 : Int) := by rw [eq22]; exact (uS_ne (by decide)).trans f5
  have mq22 : q21.2.2 ≤ q22.2.2 := by rw [eq22]; exact Nat.le_refl _
  have f10 : q22.2.1 a0 10 = (q20.2.2 : Int) := by rw [eq22]; exact uS_same
  refine r_aload_n (pc' := 100) (f4 := 0) (i := 0) C 0 rfl rfl dX11_init_99 rfl ?_
  refine r_bipush (pc' := 102) C rfl dX11_init_100 rfl ?_
  have hb := bind_in hf
  clear hf
  obtain ⟨q23, eq23, hf⟩ := hb
  refine r_newI (pc' := 104) C wd_159 ww_n6 ⟨by decide, by decide⟩ ⟨Nat.le_of_ble_eq_true rfl, Nat.le_of_ble_eq_true rfl⟩ dX11_init_102 rfl ?_
  replace eq23 := (Option.some.inj eq23).symm
  refine V.eq (h1 := q23.1) (S1 := q23.2) (by rw [eq23] <;> rfl) (by rw [eq23] <;> rfl) rfl rfl rfl ?_
  replace ha0 : KD q23.2 a0 11 0 := by rw [eq23]; exact KD.ext SXt.nS ha0
  replace kq13 : KD q23.2 (q12.2.2 : Int) 26 6 := by rw [eq23]; exact KD.ext SXt.nS kq13
  replace f5 : q23.2.1 a0 5 = (q12.2.2 : Int) := by rw [eq23]; exact (SXt.nS.2 a0 5 (by omega)).trans f5
  replace kq21 : KD q23.2 (q20.2.2 : Int) 20 6 := by rw [eq23]; exact KD.ext SXt.nS kq21
  replace f10 : q23.2.1 a0 10 = (q20.2.2 : Int) := by rw [eq23]; exact (SXt.nS.2 a0 10 (by omega)).trans f10
  have mq23 : q22.2.2 ≤ q23.2.2 := by rw [eq23]; exact SXt.nS.1
  have kq23 : KD q23.2 (q22.2.2 : Int) 20 6 := by rw [eq23]; exact KD.new
  have hb := bind_in hf
  clear hf
  obtain ⟨q24, eq24, hf⟩ := hb
  refine q_putRP (pc' := 107) (j := 11) C ha0 fbc_11_11 fpc_11_11 (by decide) wd_322 (Or.inl rfl) (Or.inr ⟨rfl, hin, rfl⟩) (by rfl) (by rfl) dX11_init_104 (by have := kq23.1; omega) rfl ?_
  replace eq24 := (Option.some.inj eq24).symm
  refine V.eq (h1 := q24.1) (S1 := q24.2) (by rw [eq24] <;> rfl) (by rw [eq24] <;> rfl) rfl rfl rfl ?_
  replace ha0 : KD q24.2 a0 11 0 := by rw [eq24]; exact KD.uS ha0 (by decide)
  replace kq23 : KD q24.2 (q22.2.2 : Int) 20 6 := by rw [eq24]; exact KD.uS kq23 (by decide)
  replace kq13 : KD q24.2 (q12.2.2 : Int) 26 6 := by rw [eq24]; exact KD.uS kq13 (by decide)
  replace f5 : q24.2.1 a0 5 = (q12.2.2 : Int) := by rw [eq24]; exact (uS_ne (by decide)).trans f5
  replace kq21 : KD q24.2 (q20.2.2 : Int) 20 6 := by rw [eq24]; exact KD.uS kq21 (by decide)
  replace f10 : q24.2.1 a0 10 = (q20.2.2 : Int) := by rw [eq24]; exact (uS_ne (by decide)).trans f10
  have mq24 : q23.2.2 ≤ q24.2.2 := by rw [eq24]; exact Nat.le_refl _
  refine r_aload_n (pc' := 108) (f4 := 0) (i := 0) C 0 rfl rfl dX11_init_107 rfl ?_
  refine r_bipush (pc' := 110) C rfl dX11_init_108 rfl ?_
  refine r_bipush (pc' := 112) C rfl dX11_init_110 rfl ?_
  have hb := bind_in hf
  clear hf
  obtain ⟨q25, eq25, hf⟩ := hb
  refine r_multi (n := 6) (k := 60) (to := 4) (ti := 1) (ty := .long) (pc' := 116) C (by decide) (by decide) (by decide) wd_282 (in_t1 (List.mem_of_getElem? (i := 189) (by decide +kernel))) wd_309 ⟨Nat.le_of_ble_eq_true rfl, Nat.le_of_ble_eq_true rfl⟩ dX11_init_112 rfl ?_
  replace eq25 := (Option.some.inj eq25).symm
  refine V.eq (h1 := q25.1) (S1 := q25.2) (by rw [eq25] <;> rfl) (by rw [eq25] <;> rfl) rfl rfl rfl ?_
  replace ha0 : KD q25.2 a0 11 0 := by rw [eq25]; exact KD.ext SXt.mnS ha0
  replace kq13 : KD q25.2 (q12.2.2 : Int) 26 6 := by rw [eq25]; exact KD.ext SXt.mnS kq13
  replace f5 : q25.2.1 a0 5 = (q12.2.2 : Int) := by rw [eq25]; exact (SXt.mnS.2 a0 5 (by omega)).trans f5
  replace kq21 : KD q25.2 (q20.2.2 : Int) 20 6 := by rw [eq25]; exact KD.ext SXt.mnS kq21
  replace f10 : q25.2.1 a0 10 = (q20.2.2 : Int) := by rw [eq25]; exact (SXt.mnS.2 a0 10 (by omega)).trans f10
  have mq25 : q24.2.2 ≤ q25.2.2 := by rw [eq25]; exact SXt.mnS.1
  have kq25 : KD q25.2 (q24.2.2 : Int) 24 6 := by rw [eq25]; exact KD.mnO
  have hb := bind_in hf
  clear hf
  obtain ⟨q26, eq26, hf⟩ := hb
  refine q_putRP (pc' := 119) (j := 12) C ha0 fbc_11_12 fpc_11_12 (by decide) wd_323 (Or.inl rfl) (Or.inr ⟨rfl, hin, rfl⟩) (by rfl) (by rfl) dX11_init_116 (by have := kq25.1; omega) rfl ?_
  replace eq26 := (Option.some.inj eq26).symm
  refine V.eq (h1 := q26.1) (S1 := q26.2) (by rw [eq26] <;> rfl) (by rw [eq26] <;> rfl) rfl rfl rfl ?_
  replace ha0 : KD q26.2 a0 11 0 := by rw [eq26]; exact KD.uS ha0 (by decide)
  replace kq25 : KD q26.2 (q24.2.2 : Int) 24 6 := by rw [eq26]; exact KD.uS kq25 (by decide)
  replace kq13 : KD q26.2 (q12.2.2 : Int) 26 6 := by rw [eq26]; exact KD.uS kq13 (by decide)
  replace f5 : q26.2.1 a0 5 = (q12.2.2 : Int) := by rw [eq26]; exact (uS_ne (by decide)).trans f5
  replace kq21 : KD q26.2 (q20.2.2 : Int) 20 6 := by rw [eq26]; exact KD.uS kq21 (by decide)
  replace f10 : q26.2.1 a0 10 = (q20.2.2 : Int) := by rw [eq26]; exact (uS_ne (by decide)).trans f10
  have mq26 : q25.2.2 ≤ q26.2.2 := by rw [eq26]; exact Nat.le_refl _
  refine r_iconst (pc' := 120) C dX11_init_119 rfl ?_
  refine r_istore_n (pc' := 121) (f4 := 1) (i := 1) (L' := [(1, zI 0), (0, zP bs a0)]) C rfl (by decide) rfl dX11_init_120 rfl ?_
  refine r_iload_n (pc' := 122) (f4 := 1) (i := 1) C 0 rfl rfl dX11_init_121 rfl ?_
  refine r_bipush (pc' := 124) C rfl dX11_init_122 rfl ?_
  refine r_icmp_ge (pc' := 127) (tgt := 146) (E1 := (0 : Nat)) (E2 := 1) (res := 0) C ww_n0 ww_n6 (by rw [if_pos (by decide)]) dX11_init_124 (by decide) rfl (fun _ => ?_) (fun hf9 => absurd hf9 (by decide))
  refine r_aload_n (pc' := 128) (f4 := 0) (i := 0) C 1 rfl rfl dX11_init_127 rfl ?_
  refine q_getP (pc' := 131) (j := 5) C ha0 fbc_11_5 (by decide) wd_316 (Or.inl rfl) f5 (by have := kq13.1; omega) dX11_init_128 rfl ?_
  refine r_iload_n (pc' := 132) (f4 := 1) (i := 1) C 0 rfl rfl dX11_init_131 rfl ?_
  have hb := bind_in hf
  clear hf
  obtain ⟨q27, eq27, hf⟩ := hb
  refine r_new (ci := 5) (pc' := 135) C cl_5 uin_5 tyX5_ok dvc_5 wd_253 wd_284 wd_104 ⟨Nat.le_of_ble_eq_true rfl, Nat.le_of_ble_eq_true rfl⟩ dX11_init_132 rfl ?_
  replace eq27 := (Option.some.inj eq27).symm
  refine V.eq (h1 := q27.1) (S1 := q27.2) (by rw [eq27] <;> rfl) (by rw [eq27] <;> rfl) rfl rfl rfl ?_
  replace ha0 : KD q27.2 a0 11 0 := by rw [eq27]; exact KD.ext SXt.nS ha0
  replace kq13 : KD q27.2 (q12.2.2 : Int) 26 6 := by rw [eq27]; exact KD.ext SXt.nS kq13
  replace f5 : q27.2.1 a0 5 = (q12.2.2 : Int) := by rw [eq27]; exact (SXt.nS.2 a0 5 (by omega)).trans f5
  replace kq21 : KD q27.2 (q20.2.2 : Int) 20 6 := by rw [eq27]; exact KD.ext SXt.nS kq21
  replace f10 : q27.2.1 a0 10 = (q20.2.2 : Int) := by rw [eq27]; exact (SXt.nS.2 a0 10 (by omega)).trans f10
  have mq27 : q26.2.2 ≤ q27.2.2 := by rw [eq27]; exact SXt.nS.1
  have kq27 : KD q27.2 (q26.2.2 : Int) 5 0 := by rw [eq27]; exact KD.new
  refine r_dup (pc' := 136) C rfl dX11_init_135 rfl ?_
  have hb := bind_in hf
  clear hf
  obtain ⟨q28, eq28, hf⟩ := hb
  refine r_callIN (pc' := 139) C 0 (t_c_orchard kq27 eq28) rfl wt_285 wd_286 wd_104 wd_287 rfl ⟨by decide, by decide, by decide +kernel⟩ ⟨Nat.le_of_ble_eq_true rfl, Nat.le_of_ble_eq_true rfl⟩ rfl rfl (Nat.le_of_ble_eq_true rfl) dX11_init_136 rfl ⟨Nat.le_of_ble_eq_true rfl, Nat.le_of_ble_eq_true rfl⟩ ?_
  have xq28 := x_c_orchard kq27 eq28
  have hne : a0 ≠ (q26.2.2 : Int) := by omega
  replace ha0 : KD q28.2 a0 11 0 := KD.exo xq28 ha0
  replace kq13 : KD q28.2 (q12.2.2 : Int) 26 6 := KD.exo xq28 kq13
  replace kq27 : KD q28.2 (q26.2.2 : Int) 5 0 := KD.exo xq28 kq27
  replace f5 : q28.2.1 a0 5 = (q12.2.2 : Int) := (xq28.2.1 a0 5 (by omega) hne).trans f5
  replace kq21 : KD q28.2 (q20.2.2 : Int) 20 6 := KD.exo xq28 kq21
  replace f10 : q28.2.1 a0 10 = (q20.2.2 : Int) := (xq28.2.1 a0 10 (by omega) hne).trans f10
  have mq28 : q27.2.2 ≤ q28.2.2 := xq28.1
  have hb := bind_in hf
  clear hf
  obtain ⟨q29, eq29, hf⟩ := hb
  refine r_aast6 (pc' := 140) C kq13 ww_n0 (by decide) kq27 dX11_init_139 rfl ?_
  replace eq29 := (Option.some.inj eq29).symm
  refine V.eq (h1 := q29.1) (S1 := q29.2) (by rw [eq29] <;> rfl) (by rw [eq29] <;> rfl) rfl rfl rfl ?_
  have hne : a0 ≠ (q12.2.2 : Int) := by omega
  replace ha0 : KD q29.2 a0 11 0 := by rw [eq29]; exact KD.uS ha0 (by decide)
  replace kq13 : KD q29.2 (q12.2.2 : Int) 26 6 := by rw [eq29]; exact KD.uS kq13 (by decide)
  replace f5 : q29.2.1 a0 5 = (q12.2.2 : Int) := by rw [eq29]; exact (uS_nk hne).trans f5
  replace kq21 : KD q29.2 (q20.2.2 : Int) 20 6 := by rw [eq29]; exact KD.uS kq21 (by decide)
  replace f10 : q29.2.1 a0 10 = (q20.2.2 : Int) := by rw [eq29]; exact (uS_nk hne).trans f10
  have mq29 : q28.2.2 ≤ q29.2.2 := by rw [eq29]; exact Nat.le_refl _
  refine r_iinc (pc' := 143) (i := 1) (L' := [(1, zI 1), (0, zP bs a0)]) C 0 rfl (by decide) rfl dX11_init_140 rfl ?_
  refine r_goto (tgt := 121) C dX11_init_143 (by decide) ?_
  refine r_iload_n (pc' := 122) (f4 := 1) (i := 1) C 0 rfl rfl dX11_init_121 rfl ?_
  refine r_bipush (pc' := 124) C rfl dX11_init_122 rfl ?_
  refine r_icmp_ge (pc' := 127) (tgt := 146) (E1 := (0 : Nat)) (E2 := 1) (res := 0) C ww_n1 ww_n6 (by rw [if_pos (by decide)]) dX11_init_124 (by decide) rfl (fun _ => ?_) (fun hf9 => absurd hf9 (by decide))
  refine r_aload_n (pc' := 128) (f4 := 0) (i := 0) C 1 rfl rfl dX11_init_127 rfl ?_
  refine q_getP (pc' := 131) (j := 5) C ha0 fbc_11_5 (by decide) wd_316 (Or.inl rfl) f5 (by have := kq13.1; omega) dX11_init_128 rfl ?_
  refine r_iload_n (pc' := 132) (f4 := 1) (i := 1) C 0 rfl rfl dX11_init_131 rfl ?_
  have hb := bind_in hf
  clear hf
  obtain ⟨q30, eq30, hf⟩ := hb
  refine r_new (ci := 5) (pc' := 135) C cl_5 uin_5 tyX5_ok dvc_5 wd_253 wd_284 wd_104 ⟨Nat.le_of_ble_eq_true rfl, Nat.le_of_ble_eq_true rfl⟩ dX11_init_132 rfl ?_
  replace eq30 := (Option.some.inj eq30).symm
  refine V.eq (h1 := q30.1) (S1 := q30.2) (by rw [eq30] <;> rfl) (by rw [eq30] <;> rfl) rfl rfl rfl ?_
  replace ha0 : KD q30.2 a0 11 0 := by rw [eq30]; exact KD.ext SXt.nS ha0
  replace kq13 : KD q30.2 (q12.2.2 : Int) 26 6 := by rw [eq30]; exact KD.ext SXt.nS kq13
  replace f5 : q30.2.1 a0 5 = (q12.2.2 : Int) := by rw [eq30]; exact (SXt.nS.2 a0 5 (by omega)).trans f5
  replace kq21 : KD q30.2 (q20.2.2 : Int) 20 6 := by rw [eq30]; exact KD.ext SXt.nS kq21
  replace f10 : q30.2.1 a0 10 = (q20.2.2 : Int) := by rw [eq30]; exact (SXt.nS.2 a0 10 (by omega)).trans f10
  have mq30 : q29.2.2 ≤ q30.2.2 := by rw [eq30]; exact SXt.nS.1
  have kq30 : KD q30.2 (q29.2.2 : Int) 5 0 := by rw [eq30]; exact KD.new
  refine r_dup (pc' := 136) C rfl dX11_init_135 rfl ?_
  have hb := bind_in hf
  clear hf
  obtain ⟨q31, eq31, hf⟩ := hb
  refine r_callIN (pc' := 139) C 0 (t_c_orchard kq30 eq31) rfl wt_285 wd_286 wd_104 wd_287 rfl ⟨by decide, by decide, by decide +kernel⟩ ⟨Nat.le_of_ble_eq_true rfl, Nat.le_of_ble_eq_true rfl⟩ rfl rfl (Nat.le_of_ble_eq_true rfl) dX11_init_136 rfl ⟨Nat.le_of_ble_eq_true rfl, Nat.le_of_ble_eq_true rfl⟩ ?_
  have xq31 := x_c_orchard kq30 eq31
  have hne : a0 ≠ (q29.2.2 : Int) := by omega
  replace ha0 : KD q31.2 a0 11 0 := KD.exo xq31 ha0
  replace kq13 : KD q31.2 (q12.2.2 : Int) 26 6 := KD.exo xq31 kq13
  replace kq30 : KD q31.2 (q29.2.2 : Int) 5 0 := KD.exo xq31 kq30
  replace f5 : q31.2.1 a0 5 = (q12.2.2 : Int) := (xq31.2.1 a0 5 (by omega) hne).trans f5
  replace kq21 : KD q31.2 (q20.2.2 : Int) 20 6 := KD.exo xq31 kq21
  replace f10 : q31.2.1 a0 10 = (q20.2.2 : Int) := (xq31.2.1 a0 10 (by omega) hne).trans f10
  have mq31 : q30.2.2 ≤ q31.2.2 := xq31.1
  have hb := bind_in hf
  clear hf
  obtain ⟨q32, eq32, hf⟩ := hb
  refine r_aast6 (pc' := 140) C kq13 ww_n1 (by decide) kq30 dX11_init_139 rfl ?_
  replace eq32 := (Option.some.inj eq32).symm
  refine V.eq (h1 := q32.1) (S1 := q32.2) (by rw [eq32] <;> rfl) (by rw [eq32] <;> rfl) rfl rfl rfl ?_
  have hne : a0 ≠ (q12.2.2 : Int) := by omega
  replace ha0 : KD q32.2 a0 11 0 := by rw [eq32]; exact KD.uS ha0 (by decide)
  replace kq13 : KD q32.2 (q12.2.2 : Int) 26 6 := by rw [eq32]; exact KD.uS kq13 (by decide)
  replace f5 : q32.2.1 a0 5 = (q12.2.2 : Int) := by rw [eq32]; exact (uS_nk hne).trans f5
  replace kq21 : KD q32.2 (q20.2.2 : Int) 20 6 := by rw [eq32]; exact KD.uS kq21 (by decide)
  replace f10 : q32.2.1 a0 10 = (q20.2.2 : Int) := by rw [eq32]; exact (uS_nk hne).trans f10
  have mq32 : q31.2.2 ≤ q32.2.2 := by rw [eq32]; exact Nat.le_refl _
  refine r_iinc (pc' := 143) (i := 1) (L' := [(1, zI 2), (0, zP bs a0)]) C 0 rfl (by decide) rfl dX11_init_140 rfl ?_
  refine r_goto (tgt := 121) C dX11_init_143 (by decide) ?_
  refine r_iload_n (pc' := 122) (f4 := 1) (i := 1) C 0 rfl rfl dX11_init_121 rfl ?_
  refine r_bipush (pc' := 124) C rfl dX11_init_122 rfl ?_
  refine r_icmp_ge (pc' := 127) (tgt := 146) (E1 := (0 : Nat)) (E2 := 1) (res := 0) C ww_n2 ww_n6 (by rw [if_pos (by decide)]) dX11_init_124 (by decide) rfl (fun _ => ?_) (fun hf9 => absurd hf9 (by decide))
  refine r_aload_n (pc' := 128) (f4 := 0) (i := 0) C 1 rfl rfl dX11_init_127 rfl ?_
  refine q_getP (pc' := 131) (j := 5) C ha0 fbc_11_5 (by decide) wd_316 (Or.inl rfl) f5 (by have := kq13.1; omega) dX11_init_128 rfl ?_
  refine r_iload_n (pc' := 132) (f4 := 1) (i := 1) C 0 rfl rfl dX11_init_131 rfl ?_
  have hb := bind_in hf
  clear hf
  obtain ⟨q33, eq33, hf⟩ := hb
  refine r_new (ci := 5) (pc' := 135) C cl_5 uin_5 tyX5_ok dvc_5 wd_253 wd_284 wd_104 ⟨Nat.le_of_ble_eq_true rfl, Nat.le_of_ble_eq_true rfl⟩ dX11_init_132 rfl ?_
  replace eq33 := (Option.some.inj eq33).symm
  refine V.eq (h1 := q33.1) (S1 := q33.2) (by rw [eq33] <;> rfl) (by rw [eq33] <;> rfl) rfl rfl rfl ?_
  replace ha0 : KD q33.2 a0 11 0 := by rw [eq33]; exact KD.ext SXt.nS ha0
  replace kq13 : KD q33.2 (q12.2.2 : Int) 26 6 := by rw [eq33]; exact KD.ext SXt.nS kq13
  replace f5 : q33.2.1 a0 5 = (q12.2.2 : Int) := by rw [eq33]; exact (SXt.nS.2 a0 5 (by omega)).trans f5
  replace kq21 : KD q33.2 (q20.2.2 : Int) 20 6 := by rw [eq33]; exact KD.ext SXt.nS kq21
  replace f10 : q33.2.1 a0 10 = (q20.2.2 : Int) := by rw [eq33]; exact (SXt.nS.2 a0 10 (by omega)).trans f10
  have mq33 : q32.2.2 ≤ q33.2.2 := by rw [eq33]; exact SXt.nS.1
  have kq33 : KD q33.2 (q32.2.2 : Int) 5 0 := by rw [eq33]; exact KD.new
  refine r_dup (pc' := 136) C rfl dX11_init_135 rfl ?_
  have hb := bind_in hf
  clear hf
  obtain ⟨q34, eq34, hf⟩ := hb
  refine r_callIN (pc' := 139) C 0 (t_c_orchard kq33 eq34) rfl wt_285 wd_286 wd_104 wd_287 rfl ⟨by decide, by decide, by decide +kernel⟩ ⟨Nat.le_of_ble_eq_true rfl, Nat.le_of_ble_eq_true rfl⟩ rfl rfl (Nat.le_of_ble_eq_true rfl) dX11_init_136 rfl ⟨Nat.le_of_ble_eq_true rfl, Nat.le_of_ble_eq_true rfl⟩ ?_
  have xq34 := x_c_orchard kq33 eq34
  have hne : a0 ≠ (q32.2.2 : Int) := by omega
  replace ha0 : KD q34.2 a0 11 0 := KD.exo xq34 ha0
  replace kq13 : KD q34.2 (q12.2.2 : Int) 26 6 := KD.exo xq34 kq13
  replace kq33 : KD q34.2 (q32.2.2 : Int) 5 0 := KD.exo xq34 kq33
  replace f5 : q34.2.1 a0 5 = (q12.2.2 : Int) := (xq34.2.1 a0 5 (by omega) hne).trans f5
  replace kq21 : KD q34.2 (q20.2.2 : Int) 20 6 := KD.exo xq34 kq21
  replace f10 : q34.2.1 a0 10 = (q20.2.2 : Int) := (xq34.2.1 a0 10 (by omega) hne).trans f10
  have mq34 : q33.2.2 ≤ q34.2.2 := xq34.1
  have hb := bind_in hf
  clear hf
  obtain ⟨q35, eq35, hf⟩ := hb
  refine r_aast6 (pc' := 140) C kq13 ww_n2 (by decide) kq33 dX11_init_139 rfl ?_
  replace eq35 := (Option.some.inj eq35).symm
  refine V.eq (h1 := q35.1) (S1 := q35.2) (by rw [eq35] <;> rfl) (by rw [eq35] <;> rfl) rfl rfl rfl ?_
  have hne : a0 ≠ (q12.2.2 : Int) := by omega
  replace ha0 : KD q35.2 a0 11 0 := by rw [eq35]; exact KD.uS ha0 (by decide)
  replace kq13 : KD q35.2 (q12.2.2 : Int) 26 6 := by rw [eq35]; exact KD.uS kq13 (by decide)
  replace f5 : q35.2.1 a0 5 = (q12.2.2 : Int) := by rw [eq35]; exact (uS_nk hne).trans f5
  replace kq21 : KD q35.2 (q20.2.2 : Int) 20 6 := by rw [eq35]; exact KD.uS kq21 (by decide)
  replace f10 : q35.2.1 a0 10 = (q20.2.2 : Int) := by rw [eq35]; exact (uS_nk hne).trans f10
  have mq35 : q34.2.2 ≤ q35.2.2 := by rw [eq35]; exact Nat.le_refl _
  refine r_iinc (pc' := 143) (i := 1) (L' := [(1, zI 3), (0, zP bs a0)]) C 0 rfl (by decide) rfl dX11_init_140 rfl ?_
  refine r_goto (tgt := 121) C dX11_init_143 (by decide) ?_
  refine r_iload_n (pc' := 122) (f4 := 1) (i := 1) C 0 rfl rfl dX11_init_121 rfl ?_
  refine r_bipush (pc' := 124) C rfl dX11_init_122 rfl ?_
  refine r_icmp_ge (pc' := 127) (tgt := 146) (E1 := (0 : Nat)) (E2 := 1) (res := 0) C ww_n3 ww_n6 (by rw [if_pos (by decide)]) dX11_init_124 (by decide) rfl (fun _ => ?_) (fun hf9 => absurd hf9 (by decide))
  refine r_aload_n (pc' := 128) (f4 := 0) (i := 0) C 1 rfl rfl dX11_init_127 rfl ?_
  refine q_getP (pc' := 131) (j := 5) C ha0 fbc_11_5 (by decide) wd_316 (Or.inl rfl) f5 (by have := kq13.1; omega) dX11_init_128 rfl ?_
  refine r_iload_n (pc' := 132) (f4 := 1) (i := 1) C 0 rfl rfl dX11_init_131 rfl ?_
  have hb := bind_in hf
  clear hf
  obtain ⟨q36, eq36, hf⟩ := hb
  refine r_new (ci := 5) (pc' := 135) C cl_5 uin_5 tyX5_ok dvc_5 wd_253 wd_284 wd_104 ⟨Nat.le_of_ble_eq_true rfl, Nat.le_of_ble_eq_true rfl⟩ dX11_init_132 rfl ?_
  replace eq36 := (Option.some.inj eq36).symm
  refine V.eq (h1 := q36.1) (S1 := q36.2) (by rw [eq36] <;> rfl) (by rw [eq36] <;> rfl) rfl rfl rfl ?_
  replace ha0 : KD q36.2 a0 11 0 := by rw [eq36]; exact KD.ext SXt.nS ha0
  replace kq13 : KD q36.2 (q12.2.2 : Int) 26 6 := by rw [eq36]; exact KD.ext SXt.nS kq13
  replace f5 : q36.2.1 a0 5 = (q12.2.2 : Int) := by rw [eq36]; exact (SXt.nS.2 a0 5 (by omega)).trans f5
  replace kq21 : KD q36.2 (q20.2.2 : Int) 20 6 := by rw [eq36]; exact KD.ext SXt.nS kq21
  replace f10 : q36.2.1 a0 10 = (q20.2.2 : Int) := by rw [eq36]; exact (SXt.nS.2 a0 10 (by omega)).trans f10
  have mq36 : q35.2.2 ≤ q36.2.2 := by rw [eq36]; exact SXt.nS.1
  have kq36 : KD q36.2 (q35.2.2 : Int) 5 0 := by rw [eq36]; exact KD.new
  refine r_dup (pc' := 136) C rfl dX11_init_135 rfl ?_
  have hb := bind_in hf
  clear hf
  obtain ⟨q37, eq37, hf⟩ := hb
  refine r_callIN (pc' := 139) C 0 (t_c_orchard kq36 eq37) rfl wt_285 wd_286 wd_104 wd_287 rfl ⟨by decide, by decide, by decide +kernel⟩ ⟨Nat.le_of_ble_eq_true rfl, Nat.le_of_ble_eq_true rfl⟩ rfl rfl (Nat.le_of_ble_eq_true rfl) dX11_init_136 rfl ⟨Nat.le_of_ble_eq_true rfl, Nat.le_of_ble_eq_true rfl⟩ ?_
  have xq37 := x_c_orchard kq36 eq37
  have hne : a0 ≠ (q35.2.2 : Int) := by omega
  replace ha0 : KD q37.2 a0 11 0 := KD.exo xq37 ha0
  replace kq13 : KD q37.2 (q12.2.2 : Int) 26 6 := KD.exo xq37 kq13
  replace kq36 : KD q37.2 (q35.2.2 : Int) 5 0 := KD.exo xq37 kq36
  replace f5 : q37.2.1 a0 5 = (q12.2.2 : Int) := (xq37.2.1 a0 5 (by omega) hne).trans f5
  replace kq21 : KD q37.2 (q20.2.2 : Int) 20 6 := KD.exo xq37 kq21
  replace f10 : q37.2.1 a0 10 = (q20.2.2 : Int) := (xq37.2.1 a0 10 (by omega) hne).trans f10
  have mq37 : q36.2.2 ≤ q37.2.2 := xq37.1
  have hb := bind_in hf
  clear hf
  obtain ⟨q38, eq38, hf⟩ := hb
  refine r_aast6 (pc' := 140) C kq13 ww_n3 (by decide) kq36 dX11_init_139 rfl ?_
  replace eq38 := (Option.some.inj eq38).symm
  refine V.eq (h1 := q38.1) (S1 := q38.2) (by rw [eq38] <;> rfl) (by rw [eq38] <;> rfl) rfl rfl rfl ?_
  have hne : a0 ≠ (q12.2.2 : Int) := by omega
  replace ha0 : KD q38.2 a0 11 0 := by rw [eq38]; exact KD.uS ha0 (by decide)
  replace kq13 : KD q38.2 (q12.2.2 : Int) 26 6 := by rw [eq38]; exact KD.uS kq13 (by decide)
  replace f5 : q38.2.1 a0 5 = (q12.2.2 : Int) := by rw [eq38]; exact (uS_nk hne).trans f5
  replace kq21 : KD q38.2 (q20.2.2 : Int) 20 6 := by rw [eq38]; exact KD.uS kq21 (by decide)
  replace f10 : q38.2.1 a0 10 = (q20.2.2 : Int) := by rw [eq38]; exact (uS_nk hne).trans f10
  have mq38 : q37.2.2 ≤ q38.2.2 := by rw [eq38]; exact Nat.le_refl _
  refine r_iinc (pc' := 143) (i := 1) (L' := [(1, zI 4), (0, zP bs a0)]) C 0 rfl (by decide) rfl dX11_init_140 rfl ?_
  refine r_goto (tgt := 121) C dX11_init_143 (by decide) ?_
  refine r_iload_n (pc' := 122) (f4 := 1) (i := 1) C 0 rfl rfl dX11_init_121 rfl ?_
  refine r_bipush (pc' := 124) C rfl dX11_init_122 rfl ?_
  refine r_icmp_ge (pc' := 127) (tgt := 146) (E1 := (0 : Nat)) (E2 := 1) (res := 0) C ww_n4 ww_n6 (by rw [if_pos (by decide)]) dX11_init_124 (by decide) rfl (fun _ => ?_) (fun hf9 => absurd hf9 (by decide))
  refine r_aload_n (pc' := 128) (f4 := 0) (i := 0) C 1 rfl rfl dX11_init_127 rfl ?_
  refine q_getP (pc' := 131) (j := 5) C ha0 fbc_11_5 (by decide) wd_316 (Or.inl rfl) f5 (by have := kq13.1; omega) dX11_init_128 rfl ?_
  refine r_iload_n (pc' := 132) (f4 := 1) (i := 1) C 0 rfl rfl dX11_init_131 rfl ?_
  have hb := bind_in hf
  clear hf
  obtain ⟨q39, eq39, hf⟩ := hb
  refine r_new (ci := 5) (pc' := 135) C cl_5 uin_5 tyX5_ok dvc_5 wd_253 wd_284 wd_104 ⟨Nat.le_of_ble_eq_true rfl, Nat.le_of_ble_eq_true rfl⟩ dX11_init_132 rfl ?_
  replace eq39 := (Option.some.inj eq39).symm
  refine V.eq (h1 := q39.1) (S1 := q39.2) (by rw [eq39] <;> rfl) (by rw [eq39] <;> rfl) rfl rfl rfl ?_
  replace ha0 : KD q39.2 a0 11 0 := by rw [eq39]; exact KD.ext SXt.nS ha0
  replace kq13 : KD q39.2 (q12.2.2 : Int) 26 6 := by rw [eq39]; exact KD.ext SXt.nS kq13
  replace f5 : q39.2.1 a0 5 = (q12.2.2 : Int) := by rw [eq39]; exact (SXt.nS.2 a0 5 (by omega)).trans f5
  replace kq21 : KD q39.2 (q20.2.2 : Int) 20 6 := by rw [eq39]; exact KD.ext SXt.nS kq21
  replace f10 : q39.2.1 a0 10 = (q20.2.2 : Int) := by rw [eq39]; exact (SXt.nS.2 a0 10 (by omega)).trans f10
  have mq39 : q38.2.2 ≤ q39.2.2 := by rw [eq39]; exact SXt.nS.1
  have kq39 : KD q39.2 (q38.2.2 : Int) 5 0 := by rw [eq39]; exact KD.new
  refine r_dup (pc' := 136) C rfl dX11_init_135 rfl ?_
  have hb := bind_in hf
  clear hf
  obtain ⟨q40, eq40, hf⟩ := hb
  refine r_callIN (pc' := 139) C 0 (t_c_orchard kq39 eq40) rfl wt_285 wd_286 wd_104 wd_287 rfl ⟨by decide, by decide, by decide +kernel⟩ ⟨Nat.le_of_ble_eq_true rfl, Nat.le_of_ble_eq_true rfl⟩ rfl rfl (Nat.le_of_ble_eq_true rfl) dX11_init_136 rfl ⟨Nat.le_of_ble_eq_true rfl, Nat.le_of_ble_eq_true rfl⟩ ?_
  have xq40 := x_c_orchard kq39 eq40
  have hne : a0 ≠ (q38.2.2 : Int) := by omega
  replace ha0 : KD q40.2 a0 11 0 := KD.exo xq40 ha0
  replace kq13 : KD q40.2 (q12.2.2 : Int) 26 6 := KD.exo xq40 kq13
  replace kq39 : KD q40.2 (q38.2.2 : Int) 5 0 := KD.exo xq40 kq39
  replace f5 : q40.2.1 a0 5 = (q12.2.2 : Int) := (xq40.2.1 a0 5 (by omega) hne).trans f5
  replace kq21 : KD q40.2 (q20.2.2 : Int) 20 6 := KD.exo xq40 kq21
  replace f10 : q40.2.1 a0 10 = (q20.2.2 : Int) := (xq40.2.1 a0 10 (by omega) hne).trans f10
  have mq40 : q39.2.2 ≤ q40.2.2 := xq40.1
  have hb := bind_in hf
  clear hf
  obtain ⟨q41, eq41, hf⟩ := hb
  refine r_aast6 (pc' := 140) C kq13 ww_n4 (by decide) kq39 dX11_init_139 rfl ?_
  replace eq41 := (Option.some.inj eq41).symm
  refine V.eq (h1 := q41.1) (S1 := q41.2) (by rw [eq41] <;> rfl) (by rw [eq41] <;> rfl) rfl rfl rfl ?_
  have hne : a0 ≠ (q12.2.2 : Int) := by omega
  replace ha0 : KD q41.2 a0 11 0 := by rw [eq41]; exact KD.uS ha0 (by decide)
  replace kq13 : KD q41.2 (q12.2.2 : Int) 26 6 := by rw [eq41]; exact KD.uS kq13 (by decide)
  replace f5 : q41.2.1 a0 5 = (q12.2.2 : Int) := by rw [eq41]; exact (uS_nk hne).trans f5
  replace kq21 : KD q41.2 (q20.2.2 : Int) 20 6 := by rw [eq41]; exact KD.uS kq21 (by decide)
  replace f10 : q41.2.1 a0 10 = (q20.2.2 : Int) := by rw [eq41]; exact (uS_nk hne).trans f10
  have mq41 : q40.2.2 ≤ q41.2.2 := by rw [eq41]; exact Nat.le_refl _
  refine r_iinc (pc' := 143) (i := 1) (L' := [(1, zI 5), (0, zP bs a0)]) C 0 rfl (by decide) rfl dX11_init_140 rfl ?_
  refine r_goto (tgt := 121) C dX11_init_143 (by decide) ?_
  refine r_iload_n (pc' := 122) (f4 := 1) (i := 1) C 0 rfl rfl dX11_init_121 rfl ?_
  refine r_bipush (pc' := 124) C rfl dX11_init_122 rfl ?_
  refine r_icmp_ge (pc' := 127) (tgt := 146) (E1 := (0 : Nat)) (E2 := 1) (res := 0) C ww_n5 ww_n6 (by rw [if_pos (by decide)]) dX11_init_124 (by decide) rfl (fun _ => ?_) (fun hf9 => absurd hf9 (by decide))
  refine r_aload_n (pc' := 128) (f4 := 0) (i := 0) C 1 rfl rfl dX11_init_127 rfl ?_
  refine q_getP (pc' := 131) (j := 5) C ha0 fbc_11_5 (by decide) wd_316 (Or.inl rfl) f5 (by have := kq13.1; omega) dX11_init_128 rfl ?_
  refine r_iload_n (pc' := 132) (f4 := 1) (i := 1) C 0 rfl rfl dX11_init_131 rfl ?_
  have hb := bind_in hf
  clear hf
  obtain ⟨q42, eq42, hf⟩ := hb
  refine r_new (ci := 5) (pc' := 135) C cl_5 uin_5 tyX5_ok dvc_5 wd_253 wd_284 wd_104 ⟨Nat.le_of_ble_eq_true rfl, Nat.le_of_ble_eq_true rfl⟩ dX11_init_132 rfl ?_
  replace eq42 := (Option.some.inj eq42).symm
  refine V.eq (h1 := q42.1) (S1 := q42.2) (by rw [eq42] <;> rfl) (by rw [eq42] <;> rfl) rfl rfl rfl ?_
  replace ha0 : KD q42.2 a0 11 0 := by rw [eq42]; exact KD.ext SXt.nS ha0
  replace kq13 : KD q42.2 (q12.2.2 : Int) 26 6 := by rw [eq42]; exact KD.ext SXt.nS kq13
  replace f5 : q42.2.1 a0 5 = (q12.2.2 : Int) := by rw [eq42]; exact (SXt.nS.2 a0 5 (by omega)).trans f5
  replace kq21 : KD q42.2 (q20.2.2 : Int) 20 6 := by rw [eq42]; exact KD.ext SXt.nS kq21
  replace f10 : q42.2.1 a0 10 = (q20.2.2 : Int) := by rw [eq42]; exact (SXt.nS.2 a0 10 (by omega)).trans f10
  have mq42 : q41.2.2 ≤ q42.2.2 := by rw [eq42]; exact SXt.nS.1
  have kq42 : KD q42.2 (q41.2.2 : Int) 5 0 := by rw [eq42]; exact KD.new
  refine r_dup (pc' := 136) C rfl dX11_init_135 rfl ?_
  have hb := bind_in hf
  clear hf
  obtain ⟨q43, eq43, hf⟩ := hb
  refine r_callIN (pc' := 139) C 0 (t_c_orchard kq42 eq43) rfl wt_285 wd_286 wd_104 wd_287 rfl ⟨by decide, by decide, by decide +kernel⟩ ⟨Nat.le_of_ble_eq_true rfl, Nat.le_of_ble_eq_true rfl⟩ rfl rfl (Nat.le_of_ble_eq_true rfl) dX11_init_136 rfl ⟨Nat.le_of_ble_eq_true rfl, Nat.le_of_ble_eq_true rfl⟩ ?_
  have xq43 := x_c_orchard kq42 eq43
  have hne : a0 ≠ (q41.2.2 : Int) := by omega
  replace ha0 : KD q43.2 a0 11 0 := KD.exo xq43 ha0
  replace kq13 : KD q43.2 (q12.2.2 : Int) 26 6 := KD.exo xq43 kq13
  replace kq42 : KD q43.2 (q41.2.2 : Int) 5 0 := KD.exo xq43 kq42
  replace f5 : q43.2.1 a0 5 = (q12.2.2 : Int) := (xq43.2.1 a0 5 (by omega) hne).trans f5
  replace kq21 : KD q43.2 (q20.2.2 : Int) 20 6 := KD.exo xq43 kq21
  replace f10 : q43.2.1 a0 10 = (q20.2.2 : Int) := (xq43.2.1 a0 10 (by omega) hne).trans f10
  have mq43 : q42.2.2 ≤ q43.2.2 := xq43.1
  have hb := bind_in hf
  clear hf
  obtain ⟨q44, eq44, hf⟩ := hb
  refine r_aast6 (pc' := 140) C kq13 ww_n5 (by decide) kq42 dX11_init_139 rfl ?_
  replace eq44 := (Option.some.inj eq44).symm
  refine V.eq (h1 := q44.1) (S1 := q44.2) (by rw [eq44] <;> rfl) (by rw [eq44] <;> rfl) rfl rfl rfl ?_
  have hne : a0 ≠ (q12.2.2 : Int) := by omega
  replace ha0 : KD q44.2 a0 11 0 := by rw [eq44]; exact KD.uS ha0 (by decide)
  replace kq13 : KD q44.2 (q12.2.2 : Int) 26 6 := by rw [eq44]; exact KD.uS kq13 (by decide)
  replace f5 : q44.2.1 a0 5 = (q12.2.2 : Int) := by rw [eq44]; exact (uS_nk hne).trans f5
  replace kq21 : KD q44.2 (q20.2.2 : Int) 20 6 := by rw [eq44]; exact KD.uS kq21 (by decide)
  replace f10 : q44.2.1 a0 10 = (q20.2.2 : Int) := by rw [eq44]; exact (uS_nk hne).trans f10
  have mq44 : q43.2.2 ≤ q44.2.2 := by rw [eq44]; exact Nat.le_refl _
  refine r_iinc (pc' := 143) (i := 1) (L' := [(1, zI 6), (0, zP bs a0)]) C 0 rfl (by decide) rfl dX11_init_140 rfl ?_
  refine r_goto (tgt := 121) C dX11_init_143 (by decide) ?_
  refine r_iload_n (pc' := 122) (f4 := 1) (i := 1) C 0 rfl rfl dX11_init_121 rfl ?_
  refine r_bipush (pc' := 124) C rfl dX11_init_122 rfl ?_
  refine r_icmp_ge (pc' := 127) (tgt := 146) (E1 := (0 : Nat)) (E2 := 1) (res := 1) C ww_n6 ww_n6 (by rw [if_neg (by decide)]) dX11_init_124 (by decide) rfl (fun hf9 => absurd hf9 (by decide)) (fun _ => ?_)
  refine r_aload_n (pc' := 147) (f4 := 0) (i := 0) C 1 rfl rfl dX11_init_146 rfl ?_
  refine q_getP (pc' := 150) (j := 10) C ha0 fbc_11_10 (by decide) wd_321 (Or.inl rfl) f10 (by have := kq21.1; omega) dX11_init_147 rfl ?_
  refine r_bipush (pc' := 152) C rfl dX11_init_150 rfl ?_
  refine q_callSv (pc' := 155) C (t0_fillI kq21 (by decide)) rfl ws_RX11_65 ⟨Nat.le_of_ble_eq_true rfl, Nat.le_of_ble_eq_true rfl⟩ rfl rfl (Nat.le_of_ble_eq_true rfl) dX11_init_152 rfl ⟨Nat.le_of_ble_eq_true rfl, Nat.le_of_ble_eq_true rfl⟩ ?_
  cases hf
  exact r_vret C dX11_init_155
