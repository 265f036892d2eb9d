theorem wt_sio1 : (Jvm.Cond.laysStatic "jdk/internal/util/Preconditions" "SIOOBE_FORMATTER" "Ljava/util/function/BiFunction;") ∈ lw_tbl := in_t3 (List.mem_of_getElem? (i := 66) (by decide +kernel))
theorem wt_sio2 : (Jvm.Cond.initialized "jdk/internal/util/Preconditions") ∈ lw_tbl := in_t1 (List.mem_of_getElem? (i := 22) (by decide +kernel))
section ZU
variable {D : va_G} {dT : ZT} {bs nL : Nat} {own : String} {cc : ByteArray} {ret : Option FieldType} {p : Program} {s : State} {m : MethodId} {args : Array Value} {meth : Method} {c : Code}
theorem zx_sio (C : Cx D dT bs own cc nL ret p s m args meth c) : ∃ v : Value, (v = .null ∨ ∃ t, v = .ref t) ∧ va_Z "jdk/internal/util/Preconditions" "SIOOBE_FORMATTER" "Ljava/util/function/BiFunction;" v (AA bs) s s.heap := by
  obtain ⟨z1, z2, z3, z4, z5⟩ := zx_here C
  have h0 : Cond.isRef (.static "jdk/internal/util/Preconditions" "SIOOBE_FORMATTER" "Ljava/util/function/BiFunction;") ∈ flatC (Jvm.Cond.and given_1 narrow_1) := by decide +kernel
  have h1 := z4 _ h0
  cases hv : (Term.static "jdk/internal/util/Preconditions" "SIOOBE_FORMATTER" "Ljava/util/function/BiFunction;").eval #[Value.ref dT.2.2.2.2] dT.2.2.2.1 none [] dT.2.2.2.1 with
  | none => simp [Cond.before, Cond.holds, Cond.value, hv] at h1
  | some v =>
    refine ⟨v, ?_, ?_⟩
    · simp [Cond.before, Cond.holds, Cond.value, hv] at h1
      cases v <;> simp_all [Value.isRef]
    · exact ((va_Zof (A := AA bs) (z5 _ wt_sio1) (z5 _ wt_sio2) hv z3).moved z1.alike).kept z2
end ZU
theorem t_pcheck {v : Value} (hv : v = .null ∨ ∃ t, v = .ref t) {i n : Int} (h0 : 0 ≤ ww i) (h1 : ww i < ww n) {h : HH} {S : SS} : CM yJ3_checkIndex_8e157 cJ3_checkIndex_8e157 3 (some .int) 0 0 0 0 (fun _ => [zI i, zI n, v]) h S (fun _ => some (zI i)) h S := by
  have hcat : v.category = 1 := by rcases hv with rfl | ⟨t, rfl⟩ <;> rfl
  refine CM.intro (own := RJ3) (by decide) rfl (fun _ => by simp [lg_sl, hcat, zI_cat]) ?_
  intro D dT bs p l e s m args below meth c C
  rw [show lv_args 0 [zI i, zI n, v] = [(0, zI i), (1, zI n), (2, v)] from by simp [lv_args, zI_cat]]
  refine r_iload_n (pc' := 1) (f4 := 0) (i := 0) C 0 rfl rfl dJ3_checkIndex_8e157_0 rfl ?_
  refine r_if_lt (pc' := 4) (tgt := 9) (E1 := (0 : Nat)) (E2 := 1) (res := 1) C rfl (by rw [if_neg (by omega)]) dJ3_checkIndex_8e157_1 (by decide) rfl (fun hf => absurd hf (by decide)) (fun _ => ?_)
  refine r_iload_n (pc' := 5) (f4 := 0) (i := 0) C 0 rfl rfl dJ3_checkIndex_8e157_4 rfl ?_
  refine r_iload_n (pc' := 6) (f4 := 1) (i := 1) C 1 rfl rfl dJ3_checkIndex_8e157_5 rfl ?_
  refine r_icmp_lt (pc' := 9) (tgt := 16) (E1 := (0 : Nat)) (E2 := 1) (res := 0) C rfl rfl (by rw [if_pos h1]) dJ3_checkIndex_8e157_6 (by decide) rfl (fun _ => ?_) (fun hf => absurd hf (by decide))
  refine r_iload_n (pc' := 17) (f4 := 0) (i := 0) C 0 rfl rfl dJ3_checkIndex_8e157_16 rfl ?_
  exact r_iret C dJ3_checkIndex_8e157_17
theorem t_scheck {i n : Int} (h0 : 0 ≤ ww i) (h1 : ww i < ww n) {h : HH} {S : SS} : CM yJ0_checkIndex_df160 cJ0_checkIndex_df160 2 none 1 22 0 0 (fun _ => [zI i, zI n]) h S (fun _ => none) h S := by
  refine CM.intro (own := RJ0) (by decide) rfl (fun _ => Nat.le_of_ble_eq_true rfl) ?_
  intro D dT bs p l e s m args below meth c C
  show V D dT bs 2 p l e _ s m args below meth c 0 0 _ h S 0 [(0, zI i), (1, zI n)] []
  obtain ⟨v, hv, hz⟩ := zx_sio C
  have hcat : v.category = 1 := by rcases hv with rfl | ⟨t, rfl⟩ <;> rfl
  refine r_iload_n (pc' := 1) (f4 := 0) (i := 0) C 0 rfl rfl dJ0_checkIndex_df160_0 rfl ?_
  refine r_iload_n (pc' := 2) (f4 := 1) (i := 1) C 1 rfl rfl dJ0_checkIndex_df160_1 rfl ?_
  refine r_ogets (pc' := 5) C hz wd_639 rfl dJ0_checkIndex_df160_2 rfl ?_
  refine q_callS (n := 3) (pc' := 8) C (t_pcheck hv h0 h1) rfl ⟨lwb_callS wd_641 wd_642 wd_116 wd_643, by decide, by decide, by decide +kernel⟩ ⟨Nat.le_of_ble_eq_true rfl, Nat.le_of_ble_eq_true rfl⟩ rfl rfl (Nat.le_of_ble_eq_true rfl) dJ0_checkIndex_df160_5 rfl ⟨Nat.le_of_ble_eq_true rfl, Nat.le_of_ble_eq_true rfl⟩ ?_
  refine r_pop (pc' := 9) C rfl dJ0_checkIndex_df160_8 rfl ?_
  exact r_vret C dJ0_checkIndex_df160_9
theorem t_slatin {a : Nat} {byt : List Int32} {h : HH} {S : SS} : CME (fun bs U H => StrE a byt bs U H) yJ0_isLatin1_aae02 cJ0_isLatin1_aae02 1 (some .boolean) 0 0 0 0 (fun _ => [.ref a]) h S (fun _ => some (zI 1)) h S := by
  refine CME.intro (own := RJ0) (by decide) rfl (fun _ => Nat.le_of_ble_eq_true rfl) ?_
  intro D dT bs p l e s m args below meth c C hE
  show V D dT bs 1 p l e _ s m args below meth c 0 0 _ h S 0 [(0, .ref a)] []
  obtain ⟨av, hk⟩ := id hE
  have hcs : va_Z "java/lang/String" "COMPACT_STRINGS" "Z" (zI 1) (AA bs) s s.heap := zx_cs C wt_cs wt_csi
  have hco : va_OF "java/lang/String" "coder" "B" (zI 0) a (AA bs) s s.heap := (hk.1 0 (by omega)).2.1
  refine r_ogets (pc' := 3) C hcs wd_169 rfl dJ0_isLatin1_aae02_0 rfl ?_
  refine r_if_eq (pc' := 6) (tgt := 17) (E1 := (0 : Nat)) (E2 := 1) (res := 1) C ww_n1 rfl dJ0_isLatin1_aae02_3 (by decide) rfl (fun hf => absurd hf (by decide)) (fun _ => ?_)
  refine r_aloadO_n (pc' := 7) (f4 := 0) (i := 0) C 0 rfl rfl dJ0_isLatin1_aae02_6 rfl ?_
  refine r_oget (pc' := 10) C hco wd_1837 rfl dJ0_isLatin1_aae02_7 rfl ?_
  refine r_if_ne (pc' := 13) (tgt := 17) (E1 := (0 : Nat)) (E2 := 1) (res := 0) C ww_n0 rfl dJ0_isLatin1_aae02_10 (by decide) rfl (fun _ => ?_) (fun hf => absurd hf (by decide))
  refine r_iconst (pc' := 14) C dJ0_isLatin1_aae02_13 rfl ?_
  refine r_goto (tgt := 18) C dJ0_isLatin1_aae02_14 (by decide) ?_
  exact r_zret C (Or.inr rfl) dJ0_isLatin1_aae02_18
def zi2c (a : Int) : Int := ((Int32.ofInt a).toUInt32 % 65536).toInt32.toInt
theorem r_i2c {D : va_G} {dT : ZT} {bs nL : Nat} {own : String} {cc : ByteArray} {ret : Option FieldType} {p : Program} {l : Launch} {e : Env} {R : Room} {s : State} {m : MethodId} {args : Array Value} {below : List Frame} {meth : Method} {c : Code} {cells slots : Nat} {Q : State → Prop} {h : HH} {S : SS} {pc pc' : Nat} {L : List (Nat × Value)} {st : List Value} (C : Cx D dT bs own cc nL ret p s m args meth c) {a : Int} (hd : decode cc pc = .ok (.i2c, 1)) (hp : pc + 1 = pc') (k : V D dT bs nL p l e R s m args below meth c cells slots Q h S pc' L (zI (zi2c a) :: st)) : V D dT bs nL p l e R s m args below meth c cells slots Q h S pc L (zI a :: st) := by
  intro H locs ls hP hS hl
  subst hp
  have k := k H locs ls hP hS hl
  rw [zi2c, zI_toInt] at k
  exact lv_i2c C.1 C.2.1 hd rfl k
/-- the bytes of an old text -/
def BytE (av : Nat) (byt : List Int32) (bs : Nat) (U : State) (H : Heap) : Prop := va_T .byte av byt.length (fun j => .int (byt.getD j 0)) (AA bs) U H
theorem BytE_old {av : Nat} {byt : List Int32} : EOld (fun bs U H => BytE av byt bs U H) := fun bs u U H H1 h hvm hq => (va_T.moved hvm h).kept hq
/-- a byte of a text, as a sign -/
def zch (byt : List Int32) (i : Int) : Int := zi2c (zand (byt.getD i.toNat 0).toInt 255)
theorem t_lchar {av : Nat} {byt : List Int32} (hlen : byt.length < 100) {i : Int} (h0 : 0 ≤ i) (h1 : i < byt.length) {h : HH} {S : SS} : CME (fun bs U H => BytE av byt bs U H) yJ1_charAt_3b067 cJ1_charAt_3b067 2 (some .char) 2 43 0 0 (fun _ => [.ref av, zI i]) h S (fun _ => some (zI (zch byt i))) h S := by
  refine CME.intro (own := RJ1) (by decide) rfl (fun _ => Nat.le_of_ble_eq_true rfl) ?_
  intro D dT bs p l e s m args below meth c C hE
  show V D dT bs 2 p l e _ s m args below meth c 0 0 _ h S 0 [(0, .ref av), (1, zI i)] []
  have hi : ww i = i := ww_id (by omega) (by omega)
  have hT : va_T .byte av byt.length (fun j => .int (byt.getD j 0)) (AA bs) s s.heap := hE
  refine r_iload_n (pc' := 1) (f4 := 1) (i := 1) C 1 rfl rfl dJ1_charAt_3b067_0 rfl ?_
  refine r_aloadO_n (pc' := 2) (f4 := 0) (i := 0) C 0 rfl rfl dJ1_charAt_3b067_1 rfl ?_
  refine r_otlen (pc' := 3) (N := byt.length) C hT dJ1_charAt_3b067_2 rfl ?_
  refine q_callSv (n := 2) (pc' := 6) C (t_scheck (by rw [hi]; exact h0) (by rw [hi, ww_id (by omega) (by omega)]; exact h1)) rfl ⟨lwb_callS wd_636 wd_637 wd_98 wd_638, by decide, by decide, by decide +kernel⟩ ⟨Nat.le_of_ble_eq_true rfl, Nat.le_of_ble_eq_true rfl⟩ rfl rfl (Nat.le_of_ble_eq_true rfl) dJ1_charAt_3b067_3 rfl ⟨Nat.le_of_ble_eq_true rfl, Nat.le_of_ble_eq_true rfl⟩ ?_
  refine r_aloadO_n (pc' := 7) (f4 := 0) (i := 0) C 0 rfl rfl dJ1_charAt_3b067_6 rfl ?_
  refine r_iload_n (pc' := 8) (f4 := 1) (i := 1) C 1 rfl rfl dJ1_charAt_3b067_7 rfl ?_
  refine r_obald (pc' := 9) (v := zI (byt.getD i.toNat 0).toInt) C hT hi ⟨h0, h1⟩ (zI_toInt _).symm dJ1_charAt_3b067_8 rfl ?_
  refine r_sipush (pc' := 12) C (n := 255) rfl dJ1_charAt_3b067_9 rfl ?_
  refine r_iand (pc' := 13) C dJ1_charAt_3b067_12 rfl ?_
  refine r_i2c (pc' := 14) C dJ1_charAt_3b067_13 rfl ?_
  exact r_nret C (by show narrow .char (zI (zi2c _)) = zI (zi2c _); rw [zi2c, zI_toInt]; exact pk_nc _) dJ1_charAt_3b067_14
theorem q_callSE {D : va_G} {dT : ZT} {bs nL : Nat} {own : String} {cc : ByteArray} {ret : Option FieldType} {p : Program} {l : Launch} {e : Env} {R : Room} {s : State} {m : MethodId} {args : Array Value} {below : List Frame} {meth : Method} {c : Code} {cells slots : Nat} {Q : State → Prop} {h : HH} {S : SS} {pc pc' : Nat} {L : List (Nat × Value)} {st : List Value} (C : Cx D dT bs own cc nL ret p s m args meth c) {E : Nat → State → Heap → Prop} (hO : EOld E) {y : MethodName} {bytes : ByteArray} {mL fr lo ix n : Nat} {rt : Option FieldType} {As rest : List Value} {av : Nat → List Value} {v : Nat → Value} {h' : HH} {S' : SS} (hM : CME E y bytes mL rt fr lo 0 0 av h S (fun bs => some (v bs)) h' S') (hav : av bs = As) (hE : E bs s s.heap) (hG : WS own ix y bytes mL rt n) (hR : RM R fr mL lo) (hn : As.length = n) (hst : st = As.reverse ++ rest) (hW : (rest.map fun v => v.category).sum ≤ 8) (hd : decode cc pc = .ok (.invokestatic ix, 3)) (hp : pc + 3 = pc') (hf : cells ≤ R.cells ∧ slots ≤ R.slots)
    (kk : V D dT bs nL p l e R s m args below meth c cells slots Q h' S' pc' L (v bs :: rest)) : V D dT bs nL p l e R s m args below meth c cells slots Q h S pc L st := by
  intro H locs ls hP hS hl
  subst hp
  subst hst
  have hM' := hM l D dT bs
  rw [hav] at hM'
  refine z_call (mc := 0) (ms := 0) (va_runS (As := As) (rest := rest) (g := F0 m pc ls (As.reverse ++ rest)) ⟨C.1, C.2.1, C.2.2.1, C.2.2.2.1, C.2.2.2.2.1⟩ hM' (va_cwS n C.2.2.2.2.1 hG.1 rfl rfl rfl hG.2 hR) ⟨PE_blind hO, fun U hU hW => PE_at hO C hE hP hS hU hW⟩ rfl hn hl.1 rfl (lv_room hW) hd hf) hS (fun H1 locs1 hP1 hS1 => ?_)
  exact kk H1 locs1 ls hP1 hS1 hl
theorem t_scharAt {a : Nat} {byt : List Int32} (hlen : byt.length < 100) {i : Int} (h0 : 0 ≤ i) (h1 : i < byt.length) {h : HH} {S : SS} : CME (fun bs U H => StrE a byt bs U H) yJ0_charAt_5068e cJ0_charAt_5068e 2 (some .char) 3 64 0 0 (fun _ => [.ref a, zI i]) h S (fun _ => some (zI (zch byt i))) h S := by
  refine CME.intro (own := RJ0) (by decide) rfl (fun _ => Nat.le_of_ble_eq_true rfl) ?_
  intro D dT bs p l e s m args below meth c C hE
  show V D dT bs 2 p l e _ s m args below meth c 0 0 _ h S 0 [(0, .ref a), (1, zI i)] []
  obtain ⟨av, hk⟩ := id hE
  have hva : va_OF "java/lang/String" "value" "[B" (.ref av) a (AA bs) s s.heap := (hk.1 0 (by omega)).2.2.1
  have hT : BytE av byt bs s s.heap := (hk.1 0 (by omega)).2.2.2
  refine r_aloadO_n (pc' := 1) (f4 := 0) (i := 0) C 0 rfl rfl dJ0_charAt_5068e_0 rfl ?_
  refine q_callVO (n := 0) (pc' := 4) C t_slatin rfl hE ⟨lwb_callV wd_629 wd_630 wd_631 wd_98 wd_632, rfl, by decide, by decide, by decide +kernel⟩ ⟨Nat.le_of_ble_eq_true rfl, Nat.le_of_ble_eq_true rfl⟩ rfl rfl (Nat.le_of_ble_eq_true rfl) dJ0_charAt_5068e_1 rfl ⟨Nat.le_of_ble_eq_true rfl, Nat.le_of_ble_eq_true rfl⟩ ?_
  refine r_if_eq (pc' := 7) (tgt := 16) (E1 := (0 : Nat)) (E2 := 1) (res := 1) C ww_n1 rfl dJ0_charAt_5068e_4 (by decide) rfl (fun hf => absurd hf (by decide)) (fun _ => ?_)
  refine r_aloadO_n (pc' := 8) (f4 := 0) (i := 0) C 0 rfl rfl dJ0_charAt_5068e_7 rfl ?_
  refine r_oget (pc' := 11) C hva wd_1836 rfl dJ0_charAt_5068e_8 rfl ?_
  refine r_iload_n (pc' := 12) (f4 := 1) (i := 1) C 1 rfl rfl dJ0_charAt_5068e_11 rfl ?_
  refine q_callSE (n := 2) (pc' := 15) C BytE_old (t_lchar hlen h0 h1) rfl hT ⟨lwb_callS wd_633 wd_634 wd_115 wd_635, by decide, by decide, by decide +kernel⟩ ⟨Nat.le_of_ble_eq_true rfl, Nat.le_of_ble_eq_true rfl⟩ rfl rfl (Nat.le_of_ble_eq_true rfl) dJ0_charAt_5068e_12 rfl ⟨Nat.le_of_ble_eq_true rfl, Nat.le_of_ble_eq_true rfl⟩ ?_
  exact r_nret C (by show narrow .char (zI (zi2c _)) = zI (zi2c _); rw [zi2c, zI_toInt]; exact pk_nc _) dJ0_charAt_5068e_15
theorem ww_toInt (x : Int32) : ww x.toInt = x.toInt := by rw [ww, Int32.ofInt_toInt]
theorem ww_zb8 (a : Int) : ww (zb8 a) = zb8 a := by rw [zb8]; exact ww_toInt _
/-- the first place from j on (n at most) where the byte is b -/
def zfind (byt : List Int32) (b : Int) : Nat → Int → Int
  | 0, _ => -1
  | n + 1, j => if (byt.getD j.toNat 0).toInt = b then j else zfind byt b n (j + 1)
theorem t_ixchar {av : Nat} {byt : List Int32} (hlen : byt.length < 100) {ch : Int} {h : HH} {S : SS} : CME (fun bs U H => BytE av byt bs U H) yJ1_indexOfChar_4cfef cJ1_indexOfChar_4cfef 6 (some .int) 0 0 0 0 (fun _ => [.ref av, zI ch, zI 0, zI byt.length]) h S (fun _ => some (zI (zfind byt (zb8 ch) byt.length 0))) h S := by
  refine CME.intro (own := RJ1) (by decide) rfl (fun _ => Nat.le_of_ble_eq_true rfl) ?_
  intro D dT bs p l e s m args below meth c C hE
  show V D dT bs 6 p l e _ s m args below meth c 0 0 _ h S 0 [(0, .ref av), (1, zI ch), (2, zI 0), (3, zI byt.length)] []
  have hT : va_T .byte av byt.length (fun j => .int (byt.getD j 0)) (AA bs) s s.heap := hE
  have key : ∀ (n : Nat) (j : Int), 0 ≤ j → j + n = byt.length → ∀ r : Int, zfind byt (zb8 ch) n j = r → V D dT bs 6 p l e ({ frames := 0, cells := 0, slots := 0, locals := 0 }) s m args below meth c 0 0 (MQ below (QQ D dT bs (some (zI r)) h S) args s 0 0 (AA bs)) h S 7 [(5, zI j), (4, zI (zb8 ch)), (0, .ref av), (1, zI ch), (2, zI 0), (3, zI byt.length)] [] := by
    intro n
    induction n with
    | zero =>
      intro j h0 h1 r hr
      have e1 : ww j = j := ww_id (by omega) (by omega)
      have e2 : ww (byt.length : Int) = byt.length := ww_id (by omega) (by omega)
      refine r_iload (pc' := 9) (i := 5) C 0 rfl dJ1_indexOfChar_4cfef_7 rfl ?_
      refine r_iload_n (pc' := 10) (f4 := 3) (i := 3) C 5 rfl rfl dJ1_indexOfChar_4cfef_9 rfl ?_
      refine r_icmp_ge (pc' := 13) (tgt := 31) (E1 := (0 : Nat)) (E2 := 1) (res := 1) C e1 e2 (by rw [if_neg (by omega)]) dJ1_indexOfChar_4cfef_10 (by decide) rfl (fun hf => absurd hf (by decide)) (fun _ => ?_)
      refine r_iconst (pc' := 32) C dJ1_indexOfChar_4cfef_31 rfl ?_
      subst hr
      exact r_iret C dJ1_indexOfChar_4cfef_32
    | succ n ih =>
      intro j h0 h1 r hr
      have e1 : ww j = j := ww_id (by omega) (by omega)
      have e2 : ww (byt.length : Int) = byt.length := ww_id (by omega) (by omega)
      rw [zfind] at hr
      refine r_iload (pc' := 9) (i := 5) C 0 rfl dJ1_indexOfChar_4cfef_7 rfl ?_
      refine r_iload_n (pc' := 10) (f4 := 3) (i := 3) C 5 rfl rfl dJ1_indexOfChar_4cfef_9 rfl ?_
      refine r_icmp_ge (pc' := 13) (tgt := 31) (E1 := (0 : Nat)) (E2 := 1) (res := 0) C e1 e2 (by rw [if_pos (by omega)]) dJ1_indexOfChar_4cfef_10 (by decide) rfl (fun _ => ?_) (fun hf => absurd hf (by decide))
      refine r_aloadO_n (pc' := 14) (f4 := 0) (i := 0) C 2 rfl rfl dJ1_indexOfChar_4cfef_13 rfl ?_
      refine r_iload (pc' := 16) (i := 5) C 0 rfl dJ1_indexOfChar_4cfef_14 rfl ?_
      refine r_obald (pc' := 17) (v := zI (byt.getD j.toNat 0).toInt) C hT e1 ⟨h0, by omega⟩ (zI_toInt _).symm dJ1_indexOfChar_4cfef_16 rfl ?_
      refine r_iload (pc' := 19) (i := 4) C 1 rfl dJ1_indexOfChar_4cfef_17 rfl ?_
      refine r_icmp_ne (pc' := 22) (tgt := 25) C (ww_toInt _) (ww_zb8 _) hr dJ1_indexOfChar_4cfef_19 (by decide) rfl (fun hr => ?_) (fun hr => ?_)
      · refine r_iload (pc' := 24) (i := 5) C 0 rfl dJ1_indexOfChar_4cfef_22 rfl ?_
        subst hr
        exact r_iret C dJ1_indexOfChar_4cfef_24
      · refine r_iinc (pc' := 28) (i := 5) (L' := [(5, zI (j + 1)), (4, zI (zb8 ch)), (0, .ref av), (1, zI ch), (2, zI 0), (3, zI byt.length)]) C 0 rfl (by decide) rfl dJ1_indexOfChar_4cfef_25 rfl ?_
        refine r_goto (tgt := 7) C dJ1_indexOfChar_4cfef_28 (by decide) ?_
        exact ih (j + 1) (by omega) (by omega) r hr
  refine r_iload_n (pc' := 1) (f4 := 1) (i := 1) C 1 rfl rfl dJ1_indexOfChar_4cfef_0 rfl ?_
  refine r_i2b (pc' := 2) C dJ1_indexOfChar_4cfef_1 rfl ?_
  refine r_istore (pc' := 4) (i := 4) (L' := [(4, zI (zb8 ch)), (0, .ref av), (1, zI ch), (2, zI 0), (3, zI byt.length)]) C (by decide) rfl dJ1_indexOfChar_4cfef_2 rfl ?_
  refine r_iload_n (pc' := 5) (f4 := 2) (i := 2) C 3 rfl rfl dJ1_indexOfChar_4cfef_4 rfl ?_
  refine r_istore (pc' := 7) (i := 5) (L' := [(5, zI 0), (4, zI (zb8 ch)), (0, .ref av), (1, zI ch), (2, zI 0), (3, zI byt.length)]) C (by decide) rfl dJ1_indexOfChar_4cfef_5 rfl ?_
  exact key byt.length 0 (by omega) (by omega) _ rfl
def zmin (a b : Int) : Int := if ww b < ww a then b else a
theorem r_min {D : va_G} {dT : ZT} {bs nL : Nat} {own : String} {cc : ByteArray} {ret : Option FieldType} {p : Program} {l : Launch} {e : Env} {R : Room} {s : State} {m : MethodId} {args : Array Value} {below : List Frame} {meth : Method} {c : Code} {cells slots : Nat} {Q : State → Prop} {h : HH} {S : SS} {pc pc' : Nat} {L : List (Nat × Value)} {st : List Value} (C : Cx D dT bs own cc nL ret p s m args meth c) {a b : Int} {ix : Nat} (w1 : Cond.methodLink own ix Lib.Math.min.name ∈ lwb) (w2 : Cond.static Lib.Math.min.name ∈ lwb) (w3 : Cond.initialized "java/lang/Math" ∈ lwb) (w4 : Cond.code Lib.Math.min.name Lib.Math.min.code 2 (some .int) ∈ lwb) (hfr : 1 ≤ R.frames) (hlo : (st.map fun v => v.category).sum + 13 ≤ R.locals) (hcs : cells ≤ R.cells ∧ slots ≤ R.slots) (hd : decode cc pc = .ok (.invokestatic ix, 3)) (hp : pc + 3 = pc') (kk : V D dT bs nL p l e R s m args below meth c cells slots Q h S pc' L (zI (zmin a b) :: st)) : V D dT bs nL p l e R s m args below meth c cells slots Q h S pc L (zI b :: zI a :: st) := by
  intro H locs ls hP hS hl
  subst hp
  have hts := C.2.2.2.2.1
  refine va_mmin C.1 C.2.1 (by rw [C.2.2.1]; exact hl.1.symm) C.2.2.2.1 (hts _ w1) (hts _ w2) (hts _ w3) (hts _ w4) hfr hlo hcs.1 hcs.2 hd ?_
  have k := kk H locs ls hP hS hl
  have e : (if Int32.ofInt b < Int32.ofInt a then Int32.ofInt b else Int32.ofInt a) = Int32.ofInt (zmin a b) := by
    unfold zmin
    by_cases hq : ww b < ww a
    · rw [if_pos (ww_lt.mpr hq), if_pos hq]
    · rw [if_neg (fun z => hq (ww_lt.mp z)), if_neg hq]
  rw [e]
  exact k
theorem t_canenc {x : Int} (h0 : 0 ≤ ww x) (h1 : ww x ≤ 255) {h : HH} {S : SS} : CM yJ1_canEncode_9a6ad cJ1_canEncode_9a6ad 1 (some .boolean) 0 0 0 0 (fun _ => [zI x]) h S (fun _ => some (zI 1)) h S := by
  refine CM.intro (own := RJ1) (by decide) rfl (fun _ => Nat.le_of_ble_eq_true rfl) ?_
  intro D dT bs p l e s m args below meth c C
  show V D dT bs 1 p l e _ s m args below meth c 0 0 _ h S 0 [(0, zI x)] []
  refine r_iload_n (pc' := 1) (f4 := 0) (i := 0) C 0 rfl rfl dJ1_canEncode_9a6ad_0 rfl ?_
  refine r_if_lt (pc' := 4) (tgt := 15) (E1 := (0 : Nat)) (E2 := 1) (res := 1) C rfl (by rw [if_neg (by omega)]) dJ1_canEncode_9a6ad_1 (by decide) rfl (fun hf => absurd hf (by decide)) (fun _ => ?_)
  refine r_iload_n (pc' := 5) (f4 := 0) (i := 0) C 0 rfl rfl dJ1_canEncode_9a6ad_4 rfl ?_
  refine r_sipush (pc' := 8) C (n := 255) rfl dJ1_canEncode_9a6ad_5 rfl ?_
  refine r_icmp_gt (pc' := 11) (tgt := 15) (b' := 255) (E1 := (0 : Nat)) (E2 := 1) (res := 1) C rfl (by decide) (by rw [if_neg (by omega)]) dJ1_canEncode_9a6ad_8 (by decide) rfl (fun hf => absurd hf (by decide)) (fun _ => ?_)
  refine r_iconst (pc' := 12) C dJ1_canEncode_9a6ad_11 rfl ?_
  refine r_goto (tgt := 16) C dJ1_canEncode_9a6ad_12 (by decide) ?_
  exact r_zret C (Or.inr rfl) dJ1_canEncode_9a6ad_16
theorem t_lindex {av : Nat} {byt : List Int32} (hlen : byt.length < 100) (hpos : 0 < byt.length) {ch : Int} (h0 : 0 ≤ ww ch) (h1 : ww ch ≤ 255) {h : HH} {S : SS} : CME (fun bs U H => BytE av byt bs U H) yJ1_indexOf_4cfef cJ1_indexOf_4cfef 4 (some .int) 1 25 0 0 (fun _ => [.ref av, zI ch, zI 0, zI byt.length]) h S (fun _ => some (zI (zfind byt (zb8 ch) byt.length 0))) h S := by
  refine CME.intro (own := RJ1) (by decide) rfl (fun _ => Nat.le_of_ble_eq_true rfl) ?_
  intro D dT bs p l e s m args below meth c C hE
  show V D dT bs 4 p l e _ s m args below meth c 0 0 _ h S 0 [(0, .ref av), (1, zI ch), (2, zI 0), (3, zI byt.length)] []
  have hT : va_T .byte av byt.length (fun j => .int (byt.getD j 0)) (AA bs) s s.heap := hE
  have e2 : ww (byt.length : Int) = byt.length := ww_id (by omega) (by omega)
  refine r_iload_n (pc' := 1) (f4 := 1) (i := 1) C 1 rfl rfl dJ1_indexOf_4cfef_0 rfl ?_
  refine q_callS (n := 1) (pc' := 4) C (t_canenc h0 h1) rfl ⟨lwb_callS wd_704 wd_705 wd_115 wd_706, by decide, by decide, by decide +kernel⟩ ⟨Nat.le_of_ble_eq_true rfl, Nat.le_of_ble_eq_true rfl⟩ rfl rfl (Nat.le_of_ble_eq_true rfl) dJ1_indexOf_4cfef_1 rfl ⟨Nat.le_of_ble_eq_true rfl, Nat.le_of_ble_eq_true rfl⟩ ?_
  refine r_if_ne (pc' := 7) (tgt := 9) (E1 := (0 : Nat)) (E2 := 1) (res := 1) C ww_n1 rfl dJ1_indexOf_4cfef_4 (by decide) rfl (fun hf => absurd hf (by decide)) (fun _ => ?_)
  refine r_iload_n (pc' := 10) (f4 := 2) (i := 2) C 2 rfl rfl dJ1_indexOf_4cfef_9 rfl ?_
  refine r_iconst (pc' := 11) C dJ1_indexOf_4cfef_10 rfl ?_
  refine r_max (pc' := 14) C wd_707 wd_568 wd_114 wd_569 (Nat.le_of_ble_eq_true rfl) (Nat.le_of_ble_eq_true rfl) ⟨Nat.le_of_ble_eq_true rfl, Nat.le_of_ble_eq_true rfl⟩ dJ1_indexOf_4cfef_11 rfl ?_
  rw [show zmax 0 0 = 0 from rfl]
  refine r_istore_n (pc' := 15) (f4 := 2) (i := 2) (L' := [(2, zI 0), (0, .ref av), (1, zI ch), (3, zI byt.length)]) C rfl (by decide) rfl dJ1_indexOf_4cfef_14 rfl ?_
  refine r_iload_n (pc' := 16) (f4 := 3) (i := 3) C 3 rfl rfl dJ1_indexOf_4cfef_15 rfl ?_
  refine r_aloadO_n (pc' := 17) (f4 := 0) (i := 0) C 1 rfl rfl dJ1_indexOf_4cfef_16 rfl ?_
  refine r_otlen (pc' := 18) (N := byt.length) C hT dJ1_indexOf_4cfef_17 rfl ?_
  refine r_min (pc' := 21) C wd_708 wd_709 wd_114 wd_710 (Nat.le_of_ble_eq_true rfl) (Nat.le_of_ble_eq_true rfl) ⟨Nat.le_of_ble_eq_true rfl, Nat.le_of_ble_eq_true rfl⟩ dJ1_indexOf_4cfef_18 rfl ?_
  rw [show zmin (byt.length : Int) byt.length = byt.length from by unfold zmin; split <;> rfl]
  refine r_istore_n (pc' := 22) (f4 := 3) (i := 3) (L' := [(3, zI byt.length), (2, zI 0), (0, .ref av), (1, zI ch)]) C rfl (by decide) rfl dJ1_indexOf_4cfef_21 rfl ?_
  refine r_iload_n (pc' := 23) (f4 := 2) (i := 2) C 1 rfl rfl dJ1_indexOf_4cfef_22 rfl ?_
  refine r_iload_n (pc' := 24) (f4 := 3) (i := 3) C 0 rfl rfl dJ1_indexOf_4cfef_23 rfl ?_
  refine r_icmp_lt (pc' := 27) (tgt := 29) (E1 := (0 : Nat)) (E2 := 1) (res := 0) C ww_n0 e2 (by rw [if_pos (by omega)]) dJ1_indexOf_4cfef_24 (by decide) rfl (fun _ => ?_) (fun hf => absurd hf (by decide))
  refine r_aloadO_n (pc' := 30) (f4 := 0) (i := 0) C 2 rfl rfl dJ1_indexOf_4cfef_29 rfl ?_
  refine r_iload_n (pc' := 31) (f4 := 1) (i := 1) C 3 rfl rfl dJ1_indexOf_4cfef_30 rfl ?_
  refine r_iload_n (pc' := 32) (f4 := 2) (i := 2) C 1 rfl rfl dJ1_indexOf_4cfef_31 rfl ?_
  refine r_iload_n (pc' := 33) (f4 := 3) (i := 3) C 0 rfl rfl dJ1_indexOf_4cfef_32 rfl ?_
  refine q_callSE (n := 4) (pc' := 36) C BytE_old (t_ixchar hlen) rfl hE ⟨lwb_callS wd_711 wd_712 wd_115 wd_713, by decide, by decide, by decide +kernel⟩ ⟨Nat.le_of_ble_eq_true rfl, Nat.le_of_ble_eq_true rfl⟩ rfl rfl (Nat.le_of_ble_eq_true rfl) dJ1_indexOf_4cfef_33 rfl ⟨Nat.le_of_ble_eq_true rfl, Nat.le_of_ble_eq_true rfl⟩ ?_
  exact r_iret C dJ1_indexOf_4cfef_36
theorem t_sindex2 {a : Nat} {byt : List Int32} (hlen : byt.length < 100) (hpos : 0 < byt.length) {ch : Int} (h0 : 0 ≤ ww ch) (h1 : ww ch ≤ 255) {h : HH} {S : SS} : CME (fun bs U H => StrE a byt bs U H) yJ0_indexOf_7cf53 cJ0_indexOf_7cf53 3 (some .int) 2 48 0 0 (fun _ => [.ref a, zI ch, zI 0]) h S (fun _ => some (zI (zfind byt (zb8 ch) byt.length 0))) h S := by
  refine CME.intro (own := RJ0) (by decide) rfl (fun _ => Nat.le_of_ble_eq_true rfl) ?_
  intro D dT bs p l e s m args below meth c C hE
  show V D dT bs 3 p l e _ s m args below meth c 0 0 _ h S 0 [(0, .ref a), (1, zI ch), (2, zI 0)] []
  obtain ⟨av, hk⟩ := id hE
  have hva : va_OF "java/lang/String" "value" "[B" (.ref av) a (AA bs) s s.heap := (hk.1 0 (by omega)).2.2.1
  have hT : BytE av byt bs s s.heap := (hk.1 0 (by omega)).2.2.2
  refine r_aloadO_n (pc' := 1) (f4 := 0) (i := 0) C 0 rfl rfl dJ0_indexOf_7cf53_0 rfl ?_
  refine q_callVO (n := 0) (pc' := 4) C t_slatin rfl hE ⟨lwb_callV wd_629 wd_630 wd_631 wd_98 wd_632, rfl, by decide, by decide, by decide +kernel⟩ ⟨Nat.le_of_ble_eq_true rfl, Nat.le_of_ble_eq_true rfl⟩ rfl rfl (Nat.le_of_ble_eq_true rfl) dJ0_indexOf_7cf53_1 rfl ⟨Nat.le_of_ble_eq_true rfl, Nat.le_of_ble_eq_true rfl⟩ ?_
  refine r_if_eq (pc' := 7) (tgt := 23) (E1 := (0 : Nat)) (E2 := 1) (res := 1) C ww_n1 rfl dJ0_indexOf_7cf53_4 (by decide) rfl (fun hf => absurd hf (by decide)) (fun _ => ?_)
  refine r_aloadO_n (pc' := 8) (f4 := 0) (i := 0) C 0 rfl rfl dJ0_indexOf_7cf53_7 rfl ?_
  refine r_oget (pc' := 11) C hva wd_1836 rfl dJ0_indexOf_7cf53_8 rfl ?_
  refine r_iload_n (pc' := 12) (f4 := 1) (i := 1) C 1 rfl rfl dJ0_indexOf_7cf53_11 rfl ?_
  refine r_iload_n (pc' := 13) (f4 := 2) (i := 2) C 2 rfl rfl dJ0_indexOf_7cf53_12 rfl ?_
  refine r_aloadO_n (pc' := 14) (f4 := 0) (i := 0) C 0 rfl rfl dJ0_indexOf_7cf53_13 rfl ?_
  refine q_callVO (n := 0) (pc' := 17) C (t_slength hlen) rfl hE ⟨lwb_callV wd_700 wd_162 wd_163 wd_98 wd_164, rfl, by decide, by decide, by decide +kernel⟩ ⟨Nat.le_of_ble_eq_true rfl, Nat.le_of_ble_eq_true rfl⟩ rfl rfl (Nat.le_of_ble_eq_true rfl) dJ0_indexOf_7cf53_14 rfl ⟨Nat.le_of_ble_eq_true rfl, Nat.le_of_ble_eq_true rfl⟩ ?_
  refine q_callSE (n := 4) (pc' := 20) C BytE_old (t_lindex hlen hpos h0 h1) rfl hT ⟨lwb_callS wd_701 wd_702 wd_115 wd_703, by decide, by decide, by decide +kernel⟩ ⟨Nat.le_of_ble_eq_true rfl, Nat.le_of_ble_eq_true rfl⟩ rfl rfl (Nat.le_of_ble_eq_true rfl) dJ0_indexOf_7cf53_17 rfl ⟨Nat.le_of_ble_eq_true rfl, Nat.le_of_ble_eq_true rfl⟩ ?_
  refine r_goto (tgt := 36) C dJ0_indexOf_7cf53_20 (by decide) ?_
  exact r_iret C dJ0_indexOf_7cf53_36
theorem t_sindex {a : Nat} {byt : List Int32} (hlen : byt.length < 100) (hpos : 0 < byt.length) {ch : Int} (h0 : 0 ≤ ww ch) (h1 : ww ch ≤ 255) {h : HH} {S : SS} : CME (fun bs U H => StrE a byt bs U H) yJ0_indexOf_0f7a4 cJ0_indexOf_0f7a4 2 (some .int) 3 70 0 0 (fun _ => [.ref a, zI ch]) h S (fun _ => some (zI (zfind byt (zb8 ch) byt.length 0))) h S := by
  refine CME.intro (own := RJ0) (by decide) rfl (fun _ => Nat.le_of_ble_eq_true rfl) ?_
  intro D dT bs p l e s m args below meth c C hE
  show V D dT bs 2 p l e _ s m args below meth c 0 0 _ h S 0 [(0, .ref a), (1, zI ch)] []
  refine r_aloadO_n (pc' := 1) (f4 := 0) (i := 0) C 0 rfl rfl dJ0_indexOf_0f7a4_0 rfl ?_
  refine r_iload_n (pc' := 2) (f4 := 1) (i := 1) C 1 rfl rfl dJ0_indexOf_0f7a4_1 rfl ?_
  refine r_iconst (pc' := 3) C dJ0_indexOf_0f7a4_2 rfl ?_
  refine q_callVO (n := 2) (pc' := 6) C (t_sindex2 hlen hpos h0 h1) rfl hE ⟨lwb_callV wd_696 wd_697 wd_698 wd_98 wd_699, rfl, by decide, by decide, by decide +kernel⟩ ⟨Nat.le_of_ble_eq_true rfl, Nat.le_of_ble_eq_true rfl⟩ rfl rfl (Nat.le_of_ble_eq_true rfl) dJ0_indexOf_0f7a4_3 rfl ⟨Nat.le_of_ble_eq_true rfl, Nat.le_of_ble_eq_true rfl⟩ ?_
  exact r_iret C dJ0_indexOf_0f7a4_6
/-- a call, on an object of the flat memory, of a method that stands on something old too -/
theorem q_callVE {D : va_G} {dT : ZT} {bs nL : Nat} {own : String} {cc : ByteArray} {ret : Option FieldType} {p : Program} {l : Launch} {e : Env} {R : Room} {s : State} {m : MethodId} {args : Array Value} {below : List Frame} {meth : Method} {c : Code} {cells slots : Nat} {Q : State → Prop} {h : HH} {S : SS} {pc pc' : Nat} {L : List (Nat × Value)} {st : List Value} (C : Cx D dT bs own cc nL ret p s m args meth c) {E : Nat → State → Heap → Prop} (hO : EOld E) {y : MethodName} {bytes : ByteArray} {mL fr lo ix ci N n : Nat} {rt : Option FieldType} {Cn : String} {T : u_T} {b nn : Int} {As rest : List Value} {av : Nat → List Value} {v : Nat → Value} {h' : HH} {S' : SS} (hM : CME E y bytes mL rt fr lo 0 0 av h S (fun bs => some (v bs)) h' S') (hav : av bs = zP bs b :: As) (hE : E bs s s.heap) (hk : KD S b (ci : Int) nn) (hcl : ci < 20 ∧ clX[ci]? = some (Cn, T, N)) (hG : WV own ix Cn y bytes mL rt n) (hR : RM R fr mL lo) (hn : As.length = n) (hst : st = As.reverse ++ zP bs b :: rest) (hW : (rest.map fun v => v.category).sum ≤ 8) (hd : decode cc pc = .ok (.invokevirtual ix, 3)) (hp : pc + 3 = pc') (hf : cells ≤ R.cells ∧ slots ≤ R.slots)
    (kk : V D dT bs nL p l e R s m args below meth c cells slots Q h' S' pc' L (v bs :: rest)) : V D dT bs nL p l e R s m args below meth c cells slots Q h S pc L st := by
  intro H locs ls hP hS hl
  subst hp
  subst hst
  have hat := hP.at hk.1 hk.2.1
  rw [ent_obj hk hcl.1] at hat
  have hM' := hM l D dT bs
  rw [hav] at hM'
  refine z_call (mc := 0) (ms := 0) (va_runV (As := As) (rest := rest) (b := bs + b.toNat) (g := F0 m pc ls (As.reverse ++ zP bs b :: rest)) ⟨C.1, C.2.1, C.2.2.1, C.2.2.2.1, C.2.2.2.2.1⟩ hM' (cwV n C.2.2.2.2.1 hG.1 rfl rfl rfl hG.2 hR) ⟨PE_blind hO, va_recv C.2.2.2.2.2.2.2.1 (va_P1 hat) hcl.2 (q0 := 0) rfl, fun U hU hW => PE_at hO C hE hP hS hU hW⟩ rfl hn hl.1 rfl (lv_room hW) hd hf) hS (fun H1 locs1 hP1 hS1 => ?_)
  exact kk H1 locs1 ls hP1 hS1 hl

