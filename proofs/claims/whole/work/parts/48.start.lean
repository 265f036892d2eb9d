/-! THE CLAIM OUT OF ONE WALK OF THE LAW'S BODY. Your part is whole_start (and what it stands on); all else here is the same for every law, but numbers. -/
def R_law : String := "WassailEnemiesLaw"
def lw_P (b : Addr) (xs : List Int32) (args : Array Value) (s : State) : Prop := args = #[.ref b] ∧ s.IntsAt b xs ∧ xs.length ≤ 3072 ∧ (Jvm.Cond.and given_1 narrow_1).before args s = true
def lw_Q (_ : Array Value) (s : State) (o : Outcome) (t : State) : Prop := o = .returned (some (.int 1)) ∧ Framed s o t [] 600000 7302250
def lw_Z (below : List Frame) (a : Array Value) (s : State) : State → Prop := fun t => ∃ o, t.status = .running ∧ Ended t below o ∧ lw_Q a s o t
/-- the law's own end, with 1 on the stack, nothing written that was there before, its room as the claim has it -/
theorem lw_ret {p : Program} {l : Launch} {e : Env} {s : State} {m : MethodId} {below : List Frame} {meth : Method} {c : Code} {b : Nat} (hx : p.tables.exec = Jvm.exec) (hb : c.code = code) (hr : meth.sig.returnType = ret) (hlocks : meth.locks = false) {pc : Nat} {H : Heap} {ls : Array Slot} (hdg : decode code pc = .ok (.ireturn, 1)) : W p l e room_1 s m #[Value.ref b] below meth c H [] 600000 7302250 (lw_Z below #[Value.ref b] s) (F0 m pc ls [.int 1]) := by
  intro T hT X
  obtain ⟨fs, hret, hrun, hended, hW, hframe⟩ := X.leave (v := some (.int 1)) (hlocks := hlocks) (fun h => by rw [hr] at h; cases h)
  have hmeth' : T.vm.method? m = some meth := X.method'
  refine ⟨T.setFrames fs, ?_, .returned (some (.int 1)), hrun, hended, rfl, ⟨_, rfl⟩, hW, hframe⟩
  jvm_step X.here [X.here.top, hx, hb, hdg, hmeth', hr, ret, narrow_b1]
  (try refine ⟨rfl, ?_⟩); (try refine ⟨rfl, ?_⟩)
  first | (intro acts; rw [hret _ acts rfl rfl rfl]) | rw [hret _ _ rfl rfl rfl]
  exact Steps.refl _
/-- what holds at the law's entry: the machine, the code, the tables' words (any of lw_tbl by 'hts w (by decide +kernel)'), the script of L ints xs at the cell b, what the Statement gives of the start (any of its parts by flat_of_before) -/
def lw_At (p : Program) (s : State) (m : MethodId) (meth : Method) (c : Code) (b L : Nat) (xs : Nat → Int32) : Prop :=
  p.tables.exec = Jvm.exec ∧ c.code = code ∧ meth.sig.returnType = ret ∧ c.maxLocals = 4 ∧ s.vm.findClass R_law = some m.cls ∧ (∀ w ∈ lw_tbl, w.before #[Value.ref b] s = true) ∧ va_X b L xs s s.heap ∧ b < s.heap.size ∧ meth.locks = false ∧ (Jvm.Cond.and given_1 narrow_1).before #[Value.ref b] s = true
section ZB
variable {p : Program} {s : State} {m : MethodId} {meth : Method} {c : Code} {b L : Nat} {xs : Nat → Int32}
theorem start_D (hts : ∀ w ∈ lwb, w.before #[Value.ref b] s = true) : ∃ D : va_G, ∀ (c : Nat) (q : vw_C), clX[c]? = some q → u_Kn s q.1 q.2.1 q.2.2 (D.1 c) (D.2 c) := by
  obtain ⟨c0, i0, h0⟩ := u_known hts uin_0 (hts _ wd_444)
  obtain ⟨c1, i1, h1⟩ := u_known hts uin_1 (hts _ wd_433)
  obtain ⟨c2, i2, h2⟩ := u_known hts uin_2 (hts _ wd_466)
  obtain ⟨c3, i3, h3⟩ := u_known hts uin_3 (hts _ wd_411)
  obtain ⟨c4, i4, h4⟩ := u_known hts uin_4 (hts _ wd_422)
  obtain ⟨c5, i5, h5⟩ := u_known hts uin_5 (hts _ wd_284)
  obtain ⟨c6, i6, h6⟩ := u_known hts uin_6 (hts _ wd_233)
  obtain ⟨c7, i7, h7⟩ := u_known hts uin_7 (hts _ wd_143)
  obtain ⟨c8, i8, h8⟩ := u_known hts uin_8 (hts _ wd_455)
  obtain ⟨c9, i9, h9⟩ := u_known hts uin_9 (hts _ wd_363)
  obtain ⟨c10, i10, h10⟩ := u_known hts uin_10 (hts _ wd_133)
  obtain ⟨c11, i11, h11⟩ := u_known hts uin_11 (hts _ wd_125)
  obtain ⟨c12, i12, h12⟩ := u_known hts uin_12 (hts _ wd_1166)
  obtain ⟨c13, i13, h13⟩ := u_known hts uin_13 (hts _ wd_256)
  refine ⟨(fun c => if c = 0 then c0 else if c = 1 then c1 else if c = 2 then c2 else if c = 3 then c3 else if c = 4 then c4 else if c = 5 then c5 else if c = 6 then c6 else if c = 7 then c7 else if c = 8 then c8 else if c = 9 then c9 else if c = 10 then c10 else if c = 11 then c11 else if c = 12 then c12 else c13, fun c => if c = 0 then i0 else if c = 1 then i1 else if c = 2 then i2 else if c = 3 then i3 else if c = 4 then i4 else if c = 5 then i5 else if c = 6 then i6 else if c = 7 then i7 else if c = 8 then i8 else if c = 9 then i9 else if c = 10 then i10 else if c = 11 then i11 else if c = 12 then i12 else i13), fun c q hq => ?_⟩
  match c, hq with
  | 0, hq => cases hq; exact h0
  | 1, hq => cases hq; exact h1
  | 2, hq => cases hq; exact h2
  | 3, hq => cases hq; exact h3
  | 4, hq => cases hq; exact h4
  | 5, hq => cases hq; exact h5
  | 6, hq => cases hq; exact h6
  | 7, hq => cases hq; exact h7
  | 8, hq => cases hq; exact h8
  | 9, hq => cases hq; exact h9
  | 10, hq => cases hq; exact h10
  | 11, hq => cases hq; exact h11
  | 12, hq => cases hq; exact h12
  | 13, hq => cases hq; exact h13
  | n + 14, hq => simp [clX] at hq
theorem start_T (hts : ∀ w ∈ lw_tbl, w.before #[Value.ref b] s = true) : ∃ cA : Nat → ClassId, ∀ (k : Nat), k < 8 → ArrOfT s (cA k) (tyA k) ∧ va_RA s (cA k) (tyA k) := by
  obtain ⟨a0, k0, p0, f0, g0, h0⟩ := Cond.arrayClass_spec (hts _ (lwb_tbl wd_159))
  obtain ⟨a1, k1, p1, f1, g1, h1⟩ := Cond.arrayClass_spec (hts _ (lwb_tbl wd_309))
  obtain ⟨a2, k2, p2, f2, g2, h2⟩ := Cond.arrayClass_spec (hts _ (lwb_tbl wd_158))
  obtain ⟨p3, a3, k3, e3, g3, h3, f3⟩ := zm_over (t := .int) (hts _ (in_t1 (List.mem_of_getElem? (i := 47) (by decide +kernel))))
  obtain ⟨p4, a4, k4, e4, g4, h4, f4⟩ := zm_over (t := .long) (hts _ (in_t1 (List.mem_of_getElem? (i := 189) (by decide +kernel))))
  obtain ⟨p5, a5, k5, e5, -, g5, h5, f5⟩ := Cond.arrayOver_spec (n := "WassailEnemies$Hater") (hts _ (in_t1 (List.mem_of_getElem? (i := 45) (by decide +kernel))))
  obtain ⟨p6, a6, k6, e6, -, g6, h6, f6⟩ := Cond.arrayOver_spec (n := "WassailEnemies$Orchard") (hts _ (in_t1 (List.mem_of_getElem? (i := 160) (by decide +kernel))))
  obtain ⟨p7, a7, k7, e7, -, g7, h7, f7⟩ := Cond.arrayOver_spec (n := "java/lang/Object") (hts _ (in_t4 (List.mem_of_getElem? (i := 208) (by decide +kernel))))
  refine ⟨fun k => if k = 0 then a0 else if k = 1 then a1 else if k = 2 then a2 else if k = 3 then a3 else if k = 4 then a4 else if k = 5 then a5 else if k = 6 then a6 else a7, fun k hk => ?_⟩
  match k, hk with
  | 0, _ => exact ⟨fun N z => ⟨fun q hq => (by cases hq), k0, g0, p0, h0⟩, f0⟩
  | 1, _ => exact ⟨fun N z => ⟨fun q hq => (by cases hq), k1, g1, p1, h1⟩, f1⟩
  | 2, _ => exact ⟨fun N z => ⟨fun q hq => (by cases hq), k2, g2, p2, h2⟩, f2⟩
  | 3, _ => exact ⟨fun N z => ⟨fun q hq => (by cases hq), k3, g3, p3, h3⟩, f3⟩
  | 4, _ => exact ⟨fun N z => ⟨fun q hq => (by cases hq), k4, g4, p4, h4⟩, f4⟩
  | 5, _ => exact ⟨fun N z => ⟨fun q hq => (by cases hq), k5, g5, p5, h5⟩, ⟨k5, p5, g5, h5, e5, f5⟩⟩
  | 6, _ => exact ⟨fun N z => ⟨fun q hq => (by cases hq), k6, g6, p6, h6⟩, ⟨k6, p6, g6, h6, e6, f6⟩⟩
  | 7, _ => exact ⟨fun N z => ⟨fun q hq => (by cases hq), k7, g7, p7, h7⟩, ⟨k7, p7, g7, h7, e7, f7⟩⟩

theorem start_E (hts : ∀ w ∈ lw_tbl, w.before #[Value.ref b] s = true) (hg : (Jvm.Cond.and given_1 narrow_1).before #[Value.ref b] s = true) : ∃ (ea : Nat) (ad : Int → Nat), (Term.static "java/util/ArrayList" "DEFAULTCAPACITY_EMPTY_ELEMENTDATA" "[Ljava/lang/Object;").eval #[Value.ref b] s none [] s = some (.ref ea) ∧ ∀ j : Nat, j < 256 → (Term.elem (Term.static "java/lang/Integer$IntegerCache" "cache" "[Ljava/lang/Integer;") (.int (Int32.ofNat j))).eval #[Value.ref b] s none [] s = some (.ref (ad ((j : Int) - 128))) := by
  have z4 := flat_of_before _ hg
  have h0 : Cond.eq (.length (.static "java/util/ArrayList" "DEFAULTCAPACITY_EMPTY_ELEMENTDATA" "[Ljava/lang/Object;")) (.int 0) ∈ flatC (Jvm.Cond.and given_1 narrow_1) := by decide +kernel
  have h2 : Cond.arrayOf (.static "java/util/ArrayList" "DEFAULTCAPACITY_EMPTY_ELEMENTDATA" "[Ljava/lang/Object;") (.object "java/lang/Object") ∈ flatC (Jvm.Cond.and given_1 narrow_1) := by decide +kernel
  have hlen : (Term.length (.static "java/util/ArrayList" "DEFAULTCAPACITY_EMPTY_ELEMENTDATA" "[Ljava/lang/Object;")).eval #[Value.ref b] s none [] s = some (.int (Int32.ofNat 0)) := va_eqI (by have := z4 _ h0; simpa [Cond.before, Cond.holds] using this) rfl
  have hA : ∀ a : Nat, a < s.heap.size → ¬ AA s.heap.size a := fun a h1 h2 => by have : s.heap.size ≤ a := h2; omega
  obtain ⟨ea, e1, -⟩ := va_Tof (A := AA s.heap.size) (N := 0) (f := fun _ => .null) (by omega) (z4 _ h2) hlen (fun j hj => absurd hj (by omega)) hA
  have g0 : Cond.eq (.length (.static "java/lang/Integer$IntegerCache" "cache" "[Ljava/lang/Integer;")) (.int 256) ∈ flatC (Jvm.Cond.and given_1 narrow_1) := by decide +kernel
  have g1 : Cond.all (.static "java/lang/Integer$IntegerCache" "cache" "[Ljava/lang/Integer;") (.and (.exactly (.elem (.static "java/lang/Integer$IntegerCache" "cache" "[Ljava/lang/Integer;") (.index 0)) "java/lang/Integer") (.eq (.field (.elem (.static "java/lang/Integer$IntegerCache" "cache" "[Ljava/lang/Integer;") (.index 0)) "java/lang/Integer" "value" "I") (.sub (.index 0) (.int 128)))) ∈ flatC (Jvm.Cond.and given_1 narrow_1) := by decide +kernel
  have glen : (Term.length (.static "java/lang/Integer$IntegerCache" "cache" "[Ljava/lang/Integer;")).eval #[Value.ref b] s none [] s = some (.int (Int32.ofNat 256)) := va_eqI (by have := z4 _ g0; simpa [Cond.before, Cond.holds] using this) rfl
  obtain ⟨ad, -, k2⟩ := vb_Cof (A := AA s.heap.size) rfl glen (z4 _ g1) hA
  exact ⟨ea, fun z => ad (z + 128).toNat, e1, fun j hj => by rw [k2 j hj]; congr 3; omega⟩
theorem start_C (C0 : lw_At p s m meth c b L xs) : ∃ (D : va_G) (dT : ZT), Cx D dT s.heap.size RL cL_law 4 ret p s m #[Value.ref b] meth c := by
  obtain ⟨hx, hb, hr, hml, hown, hts, hX, hbl, hlk, hg⟩ := C0
  have htb : ∀ w ∈ lwb, w.before #[Value.ref b] s = true := fun w hw => hts w (lwb_tbl hw)
  obtain ⟨D, hD⟩ := start_D htb
  obtain ⟨cA, hA⟩ := start_T hts
  obtain ⟨ea, ad, he, had⟩ := start_E hts hg
  refine ⟨D, (cA, ad, ea, s, b), hx, hb, hml, hown, htb, hlk, hr, ⟨hD, fun k q hq => ?_⟩, Nat.le_refl _, State.WarmedH.refl s, rfl, fun _ _ => rfl, hg, hts, he, had⟩
  have hk : k < 8 := by
    apply Nat.not_le.mp
    intro z
    rw [List.getElem?_eq_none (by simp [tyL]; omega)] at hq
    cases hq
  rw [tyL_at hk] at hq
  cases hq
  exact hA k hk
end ZB
theorem dvl_11 : ∀ j, j < 13 → defaultValue (tyX11 j) = if fR 11 j then .null else zI 0 := by
  intro j hj
  match j, hj with
  | 0, _ => rfl
  | 1, _ => rfl
  | 2, _ => rfl
  | 3, _ => rfl
  | 4, _ => rfl
  | 5, _ => rfl
  | 6, _ => rfl
  | 7, _ => rfl
  | 8, _ => rfl
  | 9, _ => rfl
  | 10, _ => rfl
  | 11, _ => rfl
  | 12, _ => rfl
  | n + 13, h => exact absurd h (by omega)
theorem dvl_12 : ∀ j, j < 77 → defaultValue (tyX12 j) = if fR 12 j then .null else zI 0 := by
  intro j hj
  match j, hj with
  | 0, _ => rfl
  | 1, _ => rfl
  | 2, _ => rfl
  | 3, _ => rfl
  | 4, _ => rfl
  | 5, _ => rfl
  | 6, _ => rfl
  | 7, _ => rfl
  | 8, _ => rfl
  | 9, _ => rfl
  | 10, _ => rfl
  | 11, _ => rfl
  | 12, _ => rfl
  | 13, _ => rfl
  | 14, _ => rfl
  | 15, _ => rfl
  | 16, _ => rfl
  | 17, _ => rfl
  | 18, _ => rfl
  | 19, _ => rfl
  | 20, _ => rfl
  | 21, _ => rfl
  | 22, _ => rfl
  | 23, _ => rfl
  | 24, _ => rfl
  | 25, _ => rfl
  | 26, _ => rfl
  | 27, _ => rfl
  | 28, _ => rfl
  | 29, _ => rfl
  | 30, _ => rfl
  | 31, _ => rfl
  | 32, _ => rfl
  | 33, _ => rfl
  | 34, _ => rfl
  | 35, _ => rfl
  | 36, _ => rfl
  | 37, _ => rfl
  | 38, _ => rfl
  | 39, _ => rfl
  | 40, _ => rfl
  | 41, _ => rfl
  | 42, _ => rfl
  | 43, _ => rfl
  | 44, _ => rfl
  | 45, _ => rfl
  | 46, _ => rfl
  | 47, _ => rfl
  | 48, _ => rfl
  | 49, _ => rfl
  | 50, _ => rfl
  | 51, _ => rfl
  | 52, _ => rfl
  | 53, _ => rfl
  | 54, _ => rfl
  | 55, _ => rfl
  | 56, _ => rfl
  | 57, _ => rfl
  | 58, _ => rfl
  | 59, _ => rfl
  | 60, _ => rfl
  | 61, _ => rfl
  | 62, _ => rfl
  | 63, _ => rfl
  | 64, _ => rfl
  | 65, _ => rfl
  | 66, _ => rfl
  | 67, _ => rfl
  | 68, _ => rfl
  | 69, _ => rfl
  | 70, _ => rfl
  | 71, _ => rfl
  | 72, _ => rfl
  | 73, _ => rfl
  | 74, _ => rfl
  | 75, _ => rfl
  | 76, _ => rfl
  | n + 77, h => exact absurd h (by omega)
def hh0 : HH := fun _ _ => 0
def SS0 : SS := (fun _ _ => -1, 0)
/-- the memory behind both constructors -/
def start_mem : Option (HH × SS) := (c_x (nh hh0 0) (nS SS0 11 0) 0).bind fun r1 => if r1.2.2 = 193 then c_m (nh r1.1 193) (nS r1.2 12 0) 193 else none
set_option maxRecDepth 100000 in
theorem whole_start0 (Inv : HH → SS → Prop) (hinit : ∃ r, start_mem = some r ∧ Fx r.2 ∧ Inv r.1 r.2) (hstep : ∀ (h : HH) (S : SS) (w : Int → Int), Fx S → Inv h S → (∀ k, ∃ x : Int32, w k = x.toInt) → ∃ r, law_case S h w = some r ∧ Fx r.2 ∧ Inv r.1 r.2) {p : Program} {e : Env} {s : State} {m : MethodId} {below : List Frame} {meth : Method} {c : Code} (l : Launch) {b L : Nat} {xs : Nat → Int32} (hL : L ≤ 3072) (C0 : lw_At p s m meth c b L xs) : W p l e room_1 s m #[Value.ref b] below meth c s.heap [] 0 0 (lw_Z below #[Value.ref b] s) (entryFrame m ([Value.ref b] : List Value).toArray 4) := by
  obtain ⟨D, dT, C⟩ := start_C C0
  obtain ⟨hx, hb, hr, hml, hown, hts, hX, hbl, hlk, hg⟩ := C0
  have hbA : ¬ AA s.heap.size b := fun q => by have : s.heap.size ≤ b := q; omega
  obtain ⟨r2, hm, hF2, hI2⟩ := hinit
  unfold start_mem at hm
  obtain ⟨r1, hr1, hm⟩ := bind_in hm
  by_cases h193 : r1.2.2 = 193
  · rw [if_pos h193] at hm
    rw [lg_entry_eq]
    have k0 : KD (nS SS0 11 0) 0 11 0 := KD.new (S := SS0)
    have k1 : KD (nS r1.2 12 0) 193 12 0 := by
      have := KD.new (S := r1.2) (c := 12) (n := 0)
      rw [h193] at this
      exact this
    have main : V D dT s.heap.size 4 p l e room_1 s m #[Value.ref b] below meth c 0 0 (lw_Z below #[Value.ref b] s) hh0 SS0 0 [(0, .ref b)] [] := by
      refine r_new (ci := 11) (pc' := 3) C cl_11 uin_11 tyX11_ok dvl_11 wd_124 wd_125 wd_95 ⟨Nat.le_of_ble_eq_true rfl, Nat.le_of_ble_eq_true rfl⟩ dL_law_0 rfl ?_
      refine r_dup (pc' := 4) C rfl dL_law_3 rfl ?_
      refine r_callI (pc' := 7) C 0 (t_c_x k0 hr1) rfl (lwb_codeIn wd_128) wd_95 wd_126 wd_127 rfl ⟨by decide, by decide, by decide +kernel⟩ ⟨Nat.le_of_ble_eq_true rfl, Nat.le_of_ble_eq_true rfl⟩ rfl rfl (Nat.le_of_ble_eq_true rfl) dL_law_4 rfl ⟨Nat.le_of_ble_eq_true rfl, Nat.le_of_ble_eq_true rfl⟩ ?_
      show V D dT s.heap.size 4 p l e room_1 s m #[Value.ref b] below meth c _ _ _ r1.1 r1.2 7 [(0, .ref b)] [zP s.heap.size 0]
      refine r_astore_n (pc' := 8) (f4 := 1) (i := 1) (L' := [(1, zP s.heap.size 0), (0, .ref b)]) C rfl (by decide) rfl dL_law_7 rfl ?_
      refine r_new (ci := 12) (pc' := 11) C cl_12 uin_12 tyX12_ok dvl_12 wd_1165 wd_1166 wd_105 ⟨Nat.le_of_ble_eq_true rfl, Nat.le_of_ble_eq_true rfl⟩ dL_law_8 rfl ?_
      rw [h193]
      refine r_dup (pc' := 12) C rfl dL_law_11 rfl ?_
      refine r_callI (pc' := 15) C 0 (t_c_m k1 hm) rfl (lwb_codeIn wd_1169) wd_105 wd_1167 wd_1168 rfl ⟨by decide, by decide, by decide +kernel⟩ ⟨Nat.le_of_ble_eq_true rfl, Nat.le_of_ble_eq_true rfl⟩ rfl rfl (Nat.le_of_ble_eq_true rfl) dL_law_12 rfl ⟨Nat.le_of_ble_eq_true rfl, Nat.le_of_ble_eq_true rfl⟩ ?_
      show V D dT s.heap.size 4 p l e room_1 s m #[Value.ref b] below meth c _ _ _ r2.1 r2.2 15 [(1, zP s.heap.size 0), (0, .ref b)] [zP s.heap.size 193]
      refine r_astore_n (pc' := 16) (f4 := 2) (i := 2) (L' := [(2, zP s.heap.size 193), (1, zP s.heap.size 0), (0, .ref b)]) C rfl (by decide) rfl dL_law_15 rfl ?_
      refine r_iconst (pc' := 17) C dL_law_16 rfl ?_
      refine r_istore_n (pc' := 18) (f4 := 3) (i := 3) (L' := [(3, zI 0), (2, zP s.heap.size 193), (1, zP s.heap.size 0), (0, .ref b)]) C rfl (by decide) rfl dL_law_17 rfl ?_
      refine V.sub (L' := [(3, zI 0), (0, .ref b), (1, zP s.heap.size 0), (2, zP s.heap.size 193)]) [0, 3, 2, 1] rfl ?_
      have loop : ∀ (k : Nat) (i : Int) (h : HH) (S : SS) (cells slots : Nat), 0 ≤ i → (L : Int) - i ≤ 6 * k → i ≤ 3072 → Fx S → Inv h S → cells + 20 * k ≤ 600000 → slots + 300 * k ≤ 7302250 → V D dT s.heap.size 4 p l e room_1 s m #[Value.ref b] below meth c cells slots (lw_Z below #[Value.ref b] s) h S 18 [(3, zI i), (0, .ref b), (1, zP s.heap.size 0), (2, zP s.heap.size 193)] [] := by
        intro k
        induction k with
        | zero =>
          intro i h S cells slots i0 i1 i2 hF hI hc hs
          refine r_iload_n (pc' := 19) (f4 := 3) (i := 3) C 0 rfl rfl dL_law_18 rfl ?_
          refine r_aloadO_n (pc' := 20) (f4 := 0) (i := 0) C 1 rfl rfl dL_law_19 rfl ?_
          refine r_slen0 (pc' := 21) C hX hbl hbA dL_law_20 rfl ?_
          refine r_bipush (pc' := 23) C (n := 6) rfl dL_law_21 rfl ?_
          refine r_isub (pc' := 24) C dL_law_23 rfl ?_
          refine r_icmp_gt (pc' := 27) (tgt := 1320) (E1 := (0 : Nat)) (E2 := 1) (res := 0) C (ww_id (z := i) (by omega) (by omega)) (ww_id (z := (L : Int) - 6) (by omega) (by omega)) (by rw [if_pos (by omega)]) dL_law_24 (by decide) rfl (fun _ => ?_) (fun hf => absurd hf (by decide))
          refine r_iconst (pc' := 1321) C dL_law_1320 rfl ?_
          intro H locs ls hP hS hl
          refine va_forget (fun q hq => hS.2.2 q hq) (W.widen (k := 600000) (n := 7302250) (by omega) (by omega) ?_)
          exact lw_ret hx hb hr hlk dL_law_1321
        | succ k ih =>
          intro i h S cells slots i0 i1 i2 hF hI hc hs
          refine r_iload_n (pc' := 19) (f4 := 3) (i := 3) C 0 rfl rfl dL_law_18 rfl ?_
          refine r_aloadO_n (pc' := 20) (f4 := 0) (i := 0) C 1 rfl rfl dL_law_19 rfl ?_
          refine r_slen0 (pc' := 21) C hX hbl hbA dL_law_20 rfl ?_
          refine r_bipush (pc' := 23) C (n := 6) rfl dL_law_21 rfl ?_
          refine r_isub (pc' := 24) C dL_law_23 rfl ?_
          by_cases h6 : (L : Int) - 6 < i
          · refine r_icmp_gt (pc' := 27) (tgt := 1320) (E1 := (0 : Nat)) (E2 := 1) (res := 0) C (ww_id (z := i) (by omega) (by omega)) (ww_id (z := (L : Int) - 6) (by omega) (by omega)) (by rw [if_pos h6]) dL_law_24 (by decide) rfl (fun _ => ?_) (fun hf => absurd hf (by decide))
            refine r_iconst (pc' := 1321) C dL_law_1320 rfl ?_
            intro H locs ls hP hS hl
            refine va_forget (fun q hq => hS.2.2 q hq) (W.widen (k := 600000) (n := 7302250) (by omega) (by omega) ?_)
            exact lw_ret hx hb hr hlk dL_law_1321
          · refine r_icmp_gt (pc' := 27) (tgt := 1320) (E1 := (0 : Nat)) (E2 := 1) (res := 1) C (ww_id (z := i) (by omega) (by omega)) (ww_id (z := (L : Int) - 6) (by omega) (by omega)) (by rw [if_neg h6]) dL_law_24 (by decide) rfl (fun hf => absurd hf (by decide)) (fun _ => ?_)
            obtain ⟨r, hr3, hF3, hI3⟩ := hstep h S (fun k => (xs (i + k).toNat).toInt) hF hI (fun k => ⟨_, rfl⟩)
            have h6' : i + 6 ≤ (L : Int) := by omega
            have hc' : cells + 20 ≤ 600000 := by omega
            have hs' : slots + 300 ≤ 7302250 := by omega
            have hn := ih (i + 6) r.1 r.2 (cells + 20) (slots + 300) (by omega) (by omega) (by omega) hF3 hI3 (by omega) (by omega)
            exact w_law (w := fun k => (xs (i + k).toNat).toInt) (h := h) (S := S) (res := r) (cells := cells) (slots := slots) C hX hbl hbA hL i0 h6' (fun _ => rfl) hF hr3 hc' hs' hn
      exact loop 512 0 r2.1 r2.2 _ _ (by omega) (by omega) (by omega) hF2 hI2 (Nat.le_of_ble_eq_true rfl) (Nat.le_of_ble_eq_true rfl)
    exact main s.heap [] _ ⟨rfl, fun k hk => absurd hk (Nat.not_lt_zero k)⟩ va_S.rf (lv_entry [Value.ref b] (Nat.le_of_ble_eq_true rfl))
  · rw [if_neg h193] at hm
    cases hm
