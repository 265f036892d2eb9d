section
variable {D : va_G} {dT : ZT} {bs : Nat} {p : Program} {l : Launch} {e : Env} {s : State} {m : MethodId} {args : Array Value} {below : List Frame} {meth : Method} {c : Code} {S : SS}
/- java/util/Arrays.fill([II)V -/
def j_fillI_L5 (nn : Int) (x0 : Int) (x1 : Int) (x3 : Int) : Nat → HH → Int → Option HH
  | 0, _, _ => none
  | n5 + 1, h, x2 =>
    if ww x2 < ww x3 then (ck (ww x2) nn <| j_fillI_L5 nn x0 x1 x3 n5 (u2 h x0 (ww x2) x1) (x2 + 1)) else (some h)
def j_fillI (nn : Int) (h : HH) (a0 : Int) (a1 : Int) : Option HH :=
  j_fillI_L5 nn a0 a1 nn FU h 0
abbrev rm_j_fillI : Room := { frames := 0, cells := 0, slots := 0, locals := 0 }
set_option maxHeartbeats 4000000 in
set_option maxRecDepth 100000 in
theorem w_j_fillI_L5 (hF : Fx S) (C : Cx D dT bs RJ7 cJ7_fill_53178 4 (Option.none : Option Jvm.ClassFile.FieldType) p s m args meth c) {nn : Int} (x0 : Int) (hx0 : KD S x0 20 nn) (x1 : Int) (x3 : Int) {res : HH} :
    ∀ (n : Nat) (h : HH) (x2 : Int), j_fillI_L5 nn x0 x1 x3 n h x2 = some res → V D dT bs 4 p l e rm_j_fillI s m args below meth c 0 0 (MQ below (QQ D dT bs none res S) args s 0 0 (AA bs)) h S 5 [(0, zP bs x0), (1, zI x1), (2, zI x2), (3, zI x3)] [] := by
  intro n
  induction n with
  | zero => intro h x2 hf; simp [j_fillI_L5] at hf
  | succ n5 ih5 =>
    intro h x2 hf
    rw [j_fillI_L5] at hf
    refine r_iload_n (pc' := 6) (f4 := 2) (i := 2) C 2 rfl rfl dJ7_fill_53178_5 rfl ?_
    refine r_iload_n (pc' := 7) (f4 := 3) (i := 3) C 3 rfl rfl dJ7_fill_53178_6 rfl ?_
    refine r_icmp_ge (pc' := 10) (tgt := 20) C rfl rfl hf dJ7_fill_53178_7 (by decide) rfl (fun hf => ?_) (fun hf => ?_)
    · refine r_aload_n (pc' := 11) (f4 := 0) (i := 0) C 0 rfl rfl dJ7_fill_53178_10 rfl ?_
      refine r_iload_n (pc' := 12) (f4 := 2) (i := 2) C 2 rfl rfl dJ7_fill_53178_11 rfl ?_
      refine r_iload_n (pc' := 13) (f4 := 1) (i := 1) C 1 rfl rfl dJ7_fill_53178_12 rfl ?_
      obtain ⟨hi, hf⟩ := ck_in hf
      refine r_iast (pc' := 14) C hx0 rfl hi dJ7_fill_53178_13 rfl ?_
      refine r_iinc (pc' := 17) (i := 2) (L' := [(2, zI (x2 + 1)), (0, zP bs x0), (1, zI x1), (3, zI x3)]) C 2 rfl (by decide) rfl dJ7_fill_53178_14 rfl ?_
      refine r_goto (tgt := 5) C dJ7_fill_53178_17 (by decide) ?_
      refine V.sub (L' := [(0, zP bs x0), (1, zI x1), (2, zI (x2 + 1)), (3, zI x3)]) [1, 2, 0, 3] rfl ?_
      exact ih5 _ _ hf
    · cases hf
      exact r_vret C dJ7_fill_53178_20
set_option maxHeartbeats 4000000 in
set_option maxRecDepth 100000 in
theorem t_j_fillI {S : SS} (hF : Fx S) {h : HH} {nn : Int} (hnn : 0 ≤ nn ∧ nn ≤ 1000) {a0 : Int} (ha0 : KD S a0 20 nn) {a1 : Int} {res : HH} (hf : j_fillI nn h a0 a1 = some res) : CM yJ7_fill_53178 cJ7_fill_53178 4 (Option.none : Option Jvm.ClassFile.FieldType) 0 0 0 0 (fun bs => [zP bs a0, zI a1]) h S (fun _ => none) res S := by
  refine CM.intro (own := RJ7) (by decide) rfl (fun _ => Nat.le_of_ble_eq_true rfl) ?_
  intro D dT bs p l e s m args below meth c C
  show V D dT bs 4 p l e rm_j_fillI s m args below meth c 0 0 _ h S 0 [(0, zP bs a0), (1, zI a1)] []
  unfold j_fillI at hf
  refine r_iconst (pc' := 1) C dJ7_fill_53178_0 rfl ?_
  refine r_istore_n (pc' := 2) (f4 := 2) (i := 2) (L' := [(2, zI 0), (0, zP bs a0), (1, zI a1)]) C rfl (by decide) rfl dJ7_fill_53178_1 rfl ?_
  refine r_aload_n (pc' := 3) (f4 := 0) (i := 0) C 1 rfl rfl dJ7_fill_53178_2 rfl ?_
  refine r_alen (pc' := 4) (t := 0) C ha0 (by decide) ⟨hnn.1, by omega⟩ dJ7_fill_53178_3 rfl ?_
  refine r_istore_n (pc' := 5) (f4 := 3) (i := 3) (L' := [(3, zI nn), (2, zI 0), (0, zP bs a0), (1, zI a1)]) C rfl (by decide) rfl dJ7_fill_53178_4 rfl ?_
  refine V.sub (L' := [(0, zP bs a0), (1, zI a1), (2, zI 0), (3, zI nn)]) [2, 3, 1, 0] rfl ?_
  refine w_j_fillI_L5 hF C _ ha0 _ _ _ _ _ hf

/- java/util/Arrays.fill([JJ)V -/
def j_fillL_L6 (nn : Int) (x0 : Int) (x1 : Int) (x4 : Int) : Nat → HH → Int → Option HH
  | 0, _, _ => none
  | n6 + 1, h, x3 =>
    if ww x3 < ww x4 then (ck (ww x3) nn <| j_fillL_L6 nn x0 x1 x4 n6 (u2 h x0 (ww x3) x1) (x3 + 1)) else (some h)
def j_fillL (nn : Int) (h : HH) (a0 : Int) (a1 : Int) : Option HH :=
  j_fillL_L6 nn a0 a1 nn FU h 0
abbrev rm_j_fillL : Room := { frames := 0, cells := 0, slots := 0, locals := 0 }
set_option maxHeartbeats 4000000 in
set_option maxRecDepth 100000 in
theorem w_j_fillL_L6 (hF : Fx S) (C : Cx D dT bs RJ7 cJ7_fill_d0a16 5 (Option.none : Option Jvm.ClassFile.FieldType) p s m args meth c) {nn : Int} (x0 : Int) (hx0 : KD S x0 21 nn) (x1 : Int) (x4 : Int) {res : HH} :
    ∀ (n : Nat) (h : HH) (x3 : Int), j_fillL_L6 nn x0 x1 x4 n h x3 = some res → V D dT bs 5 p l e rm_j_fillL s m args below meth c 0 0 (MQ below (QQ D dT bs none res S) args s 0 0 (AA bs)) h S 6 [(0, zP bs x0), (1, zL x1), (3, zI x3), (4, zI x4)] [] := by
  intro n
  induction n with
  | zero => intro h x3 hf; simp [j_fillL_L6] at hf
  | succ n6 ih6 =>
    intro h x3 hf
    rw [j_fillL_L6] at hf
    refine r_iload_n (pc' := 7) (f4 := 3) (i := 3) C 2 rfl rfl dJ7_fill_d0a16_6 rfl ?_
    refine r_iload (pc' := 9) (i := 4) C 3 rfl dJ7_fill_d0a16_7 rfl ?_
    refine r_icmp_ge (pc' := 12) (tgt := 22) C rfl rfl hf dJ7_fill_d0a16_9 (by decide) rfl (fun hf => ?_) (fun hf => ?_)
    · refine r_aload_n (pc' := 13) (f4 := 0) (i := 0) C 0 rfl rfl dJ7_fill_d0a16_12 rfl ?_
      refine r_iload_n (pc' := 14) (f4 := 3) (i := 3) C 2 rfl rfl dJ7_fill_d0a16_13 rfl ?_
      refine r_lload_n (pc' := 15) (f4 := 1) (i := 1) C 1 rfl rfl dJ7_fill_d0a16_14 rfl ?_
      obtain ⟨hi, hf⟩ := ck_in hf
      refine r_last (pc' := 16) C hx0 rfl hi dJ7_fill_d0a16_15 rfl ?_
      refine r_iinc (pc' := 19) (i := 3) (L' := [(3, zI (x3 + 1)), (0, zP bs x0), (1, zL x1), (4, zI x4)]) C 2 rfl (by decide) rfl dJ7_fill_d0a16_16 rfl ?_
      refine r_goto (tgt := 6) C dJ7_fill_d0a16_19 (by decide) ?_
      refine V.sub (L' := [(0, zP bs x0), (1, zL x1), (3, zI (x3 + 1)), (4, zI x4)]) [1, 2, 0, 3] rfl ?_
      exact ih6 _ _ hf
    · cases hf
      exact r_vret C dJ7_fill_d0a16_22
set_option maxHeartbeats 4000000 in
set_option maxRecDepth 100000 in
theorem t_j_fillL {S : SS} (hF : Fx S) {h : HH} {nn : Int} (hnn : 0 ≤ nn ∧ nn ≤ 1000) {a0 : Int} (ha0 : KD S a0 21 nn) {a1 : Int} {res : HH} (hf : j_fillL nn h a0 a1 = some res) : CM yJ7_fill_d0a16 cJ7_fill_d0a16 5 (Option.none : Option Jvm.ClassFile.FieldType) 0 0 0 0 (fun bs => [zP bs a0, zL a1]) h S (fun _ => none) res S := by
  refine CM.intro (own := RJ7) (by decide) rfl (fun _ => Nat.le_of_ble_eq_true rfl) ?_
  intro D dT bs p l e s m args below meth c C
  show V D dT bs 5 p l e rm_j_fillL s m args below meth c 0 0 _ h S 0 [(0, zP bs a0), (1, zL a1)] []
  unfold j_fillL at hf
  refine r_iconst (pc' := 1) C dJ7_fill_d0a16_0 rfl ?_
  refine r_istore_n (pc' := 2) (f4 := 3) (i := 3) (L' := [(3, zI 0), (0, zP bs a0), (1, zL a1)]) C rfl (by decide) rfl dJ7_fill_d0a16_1 rfl ?_
  refine r_aload_n (pc' := 3) (f4 := 0) (i := 0) C 1 rfl rfl dJ7_fill_d0a16_2 rfl ?_
  refine r_alen (pc' := 4) (t := 1) C ha0 (by decide) ⟨hnn.1, by omega⟩ dJ7_fill_d0a16_3 rfl ?_
  refine r_istore (pc' := 6) (i := 4) (L' := [(4, zI nn), (3, zI 0), (0, zP bs a0), (1, zL a1)]) C (by decide) rfl dJ7_fill_d0a16_4 rfl ?_
  refine V.sub (L' := [(0, zP bs a0), (1, zL a1), (3, zI 0), (4, zI nn)]) [2, 3, 1, 0] rfl ?_
  refine w_j_fillL_L6 hF C _ ha0 _ _ _ _ _ hf
end
theorem ww_id {z : Int} (h0 : -2147483648 ≤ z) (h1 : z < 2147483648) : ww z = z := by
  unfold ww
  first
  | exact Int32.toInt_ofInt_of_le h0 (by omega)
  | (rw [Int32.toInt_ofInt]; exact Int.bmod_eq_of_le (by omega) (by omega))
  | (rw [Int32.toInt_ofInt, Int.bmod_def]; omega)
theorem j_fillI_L_eq {nn k v : Int} (hnn : 0 ≤ nn ∧ nn ≤ 1000) : ∀ (n : Nat) (h : HH) (i : Int), 0 ≤ i → i ≤ nn → nn - i < n → j_fillI_L5 nn k v nn n h i = some (fun a b => if a = k ∧ i ≤ b ∧ b < nn then v else h a b) := by
  intro n
  induction n with
  | zero => intro h i h0 h1 h2; omega
  | succ n ih =>
    intro h i h0 h1 h2
    rw [j_fillI_L5, ww_id (z := i) (by omega) (by omega), ww_id (z := nn) (by omega) (by omega)]
    by_cases hi : i < nn
    · rw [if_pos hi, ck, if_pos ⟨h0, hi⟩, ih _ _ (by omega) (by omega) (by omega)]
      congr 1
      funext a b
      unfold u2
      by_cases ha : a = k
      · by_cases hb : b = i
        · subst hb
          simp [ha, hi]
        · by_cases hc : i ≤ b ∧ b < nn
          · rw [if_pos ⟨ha, by omega, hc.2⟩, if_pos ⟨ha, hc⟩]
          · rw [if_neg (by omega), if_neg (by omega), if_neg (by omega)]
      · simp [ha]
    · rw [if_neg hi]
      congr 1
      funext a b
      rw [if_neg (by omega)]
theorem t_fillI {S : SS} (hF : Fx S) {h : HH} {k n v : Int} (hk : KD S k 20 n) (hn : 0 ≤ n ∧ n ≤ 1000) : CM yJ7_fill_53178 cJ7_fill_53178 4 (Option.none : Option Jvm.ClassFile.FieldType) 0 0 0 0 (fun bs => [zP bs k, zI v]) h S (fun _ => none) (flA h k n v) S := by
  refine t_j_fillI hF hn hk ?_
  unfold j_fillI
  rw [j_fillI_L_eq hn FU h 0 (by omega) (by omega) (by unfold FU; omega)]
  rfl
theorem j_fillL_L_eq {nn k v : Int} (hnn : 0 ≤ nn ∧ nn ≤ 1000) : ∀ (n : Nat) (h : HH) (i : Int), 0 ≤ i → i ≤ nn → nn - i < n → j_fillL_L6 nn k v nn n h i = some (fun a b => if a = k ∧ i ≤ b ∧ b < nn then v else h a b) := by
  intro n
  induction n with
  | zero => intro h i h0 h1 h2; omega
  | succ n ih =>
    intro h i h0 h1 h2
    rw [j_fillL_L6, ww_id (z := i) (by omega) (by omega), ww_id (z := nn) (by omega) (by omega)]
    by_cases hi : i < nn
    · rw [if_pos hi, ck, if_pos ⟨h0, hi⟩, ih _ _ (by omega) (by omega) (by omega)]
      congr 1
      funext a b
      unfold u2
      by_cases ha : a = k
      · by_cases hb : b = i
        · subst hb
          simp [ha, hi]
        · by_cases hc : i ≤ b ∧ b < nn
          · rw [if_pos ⟨ha, by omega, hc.2⟩, if_pos ⟨ha, hc⟩]
          · rw [if_neg (by omega), if_neg (by omega), if_neg (by omega)]
      · simp [ha]
    · rw [if_neg hi]
      congr 1
      funext a b
      rw [if_neg (by omega)]
theorem t_fillL {S : SS} (hF : Fx S) {h : HH} {k n v : Int} (hk : KD S k 21 n) (hn : 0 ≤ n ∧ n ≤ 1000) : CM yJ7_fill_d0a16 cJ7_fill_d0a16 5 (Option.none : Option Jvm.ClassFile.FieldType) 0 0 0 0 (fun bs => [zP bs k, zL v]) h S (fun _ => none) (flA h k n v) S := by
  refine t_j_fillL hF hn hk ?_
  unfold j_fillL
  rw [j_fillL_L_eq hn FU h 0 (by omega) (by omega) (by unfold FU; omega)]
  rfl
