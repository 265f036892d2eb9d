section
variable {D : va_G} {dT : ZT} {bs : Nat} {p : Program} {l : Launch} {e : Env} {s : State} {m : MethodId} {args : Array Value} {below : List Frame} {meth : Method} {c : Code} {S : SS}
/- WassailEnemiesModel.in(III)Z -/
def m_in (a1 : Int) (a2 : Int) (a3 : Int) : Int :=
  if ww a1 < ww a2 then (0) else (if ww a3 < ww a1 then (0) else (1))
theorem b_m_in {a1 : Int} {a2 : Int} {a3 : Int} : m_in a1 a2 a3 = 0 ∨ m_in a1 a2 a3 = 1 := by
  unfold m_in
  repeat' split
  all_goals first | exact Or.inl rfl | exact Or.inr rfl

abbrev rm_m_in : Room := { frames := 0, cells := 0, slots := 0, locals := 0 }
set_option maxHeartbeats 4000000 in
set_option maxRecDepth 100000 in
theorem t_m_in {S : SS} (hF : Fx S) {h : HH} {a1 : Int} {a2 : Int} {a3 : Int} : CM yX12_in cX12_in 4 (some Jvm.ClassFile.FieldType.boolean) 0 0 0 0 (fun bs => [zP bs 193, zI a1, zI a2, zI a3]) h S (fun _ => some (zI (m_in a1 a2 a3))) h S := by
  refine CM.intro (own := RX12) (by decide) rfl (fun _ => Nat.le_of_ble_eq_true rfl) ?_
  intro D dT bs p l e s m args below meth c C
  show V D dT bs 4 p l e rm_m_in s m args below meth c 0 0 _ h S 0 [(0, zP bs 193), (1, zI a1), (2, zI a2), (3, zI a3)] []
  obtain ⟨res, hf⟩ : ∃ r, m_in a1 a2 a3 = r := ⟨_, rfl⟩
  rw [hf]
  unfold m_in at hf
  refine r_iload_n (pc' := 1) (f4 := 1) (i := 1) C 1 rfl rfl dX12_in_0 rfl ?_
  refine r_iload_n (pc' := 2) (f4 := 2) (i := 2) C 2 rfl rfl dX12_in_1 rfl ?_
  refine r_icmp_lt (pc' := 5) (tgt := 14) C rfl rfl hf dX12_in_2 (by decide) rfl (fun hf => ?_) (fun hf => ?_)
  · refine r_iconst (pc' := 15) C dX12_in_14 rfl ?_
    subst hf
    exact r_zret C (Or.inl rfl) dX12_in_15
  · refine r_iload_n (pc' := 6) (f4 := 1) (i := 1) C 1 rfl rfl dX12_in_5 rfl ?_
    refine r_iload_n (pc' := 7) (f4 := 3) (i := 3) C 3 rfl rfl dX12_in_6 rfl ?_
    refine r_icmp_gt (pc' := 10) (tgt := 14) C rfl rfl hf dX12_in_7 (by decide) rfl (fun hf => ?_) (fun hf => ?_)
    · refine r_iconst (pc' := 15) C dX12_in_14 rfl ?_
      subst hf
      exact r_zret C (Or.inl rfl) dX12_in_15
    · refine r_iconst (pc' := 11) C dX12_in_10 rfl ?_
      refine r_goto (tgt := 15) C dX12_in_11 (by decide) ?_
      subst hf
      exact r_zret C (Or.inr rfl) dX12_in_15

/- WassailEnemiesModel.has(II)Z -/
def m_has (a1 : Int) (a2 : Int) : Int :=
  if ww (zand (zshr a1 a2) 1) = 1 then (1) else (0)
theorem b_m_has {a1 : Int} {a2 : Int} : m_has a1 a2 = 0 ∨ m_has a1 a2 = 1 := by
  unfold m_has
  repeat' split
  all_goals first | exact Or.inl rfl | exact Or.inr rfl

abbrev rm_m_has : Room := { frames := 0, cells := 0, slots := 0, locals := 0 }
set_option maxHeartbeats 4000000 in
set_option maxRecDepth 100000 in
theorem t_m_has {S : SS} (hF : Fx S) {h : HH} {a1 : Int} {a2 : Int} : CM yX12_has cX12_has 3 (some Jvm.ClassFile.FieldType.boolean) 0 0 0 0 (fun bs => [zP bs 193, zI a1, zI a2]) h S (fun _ => some (zI (m_has a1 a2))) h S := by
  refine CM.intro (own := RX12) (by decide) rfl (fun _ => Nat.le_of_ble_eq_true rfl) ?_
  intro D dT bs p l e s m args below meth c C
  show V D dT bs 3 p l e rm_m_has s m args below meth c 0 0 _ h S 0 [(0, zP bs 193), (1, zI a1), (2, zI a2)] []
  obtain ⟨res, hf⟩ : ∃ r, m_has a1 a2 = r := ⟨_, rfl⟩
  rw [hf]
  unfold m_has at hf
  refine r_iload_n (pc' := 1) (f4 := 1) (i := 1) C 1 rfl rfl dX12_has_0 rfl ?_
  refine r_iload_n (pc' := 2) (f4 := 2) (i := 2) C 2 rfl rfl dX12_has_1 rfl ?_
  refine r_ishr (pc' := 3) C dX12_has_2 rfl ?_
  refine r_iconst (pc' := 4) C dX12_has_3 rfl ?_
  refine r_iand (pc' := 5) C dX12_has_4 rfl ?_
  refine r_iconst (pc' := 6) C dX12_has_5 rfl ?_
  refine r_icmp_ne (pc' := 9) (tgt := 13) C rfl ww_n1 hf dX12_has_6 (by decide) rfl (fun hf => ?_) (fun hf => ?_)
  · refine r_iconst (pc' := 10) C dX12_has_9 rfl ?_
    refine r_goto (tgt := 14) C dX12_has_10 (by decide) ?_
    subst hf
    exact r_zret C (Or.inr rfl) dX12_has_14
  · refine r_iconst (pc' := 14) C dX12_has_13 rfl ?_
    subst hf
    exact r_zret C (Or.inl rfl) dX12_has_14

/- WassailEnemiesModel.least(II)I -/
def m_least (a1 : Int) (a2 : Int) : Int :=
  if ww a1 < ww a2 then (a1) else (a2)
abbrev rm_m_least : Room := { frames := 0, cells := 0, slots := 0, locals := 0 }
set_option maxHeartbeats 4000000 in
set_option maxRecDepth 100000 in
theorem t_m_least {S : SS} (hF : Fx S) {h : HH} {a1 : Int} {a2 : Int} : CM yX12_least cX12_least 3 (some Jvm.ClassFile.FieldType.int) 0 0 0 0 (fun bs => [zP bs 193, zI a1, zI a2]) h S (fun _ => some (zI (m_least a1 a2))) h S := by
  refine CM.intro (own := RX12) (by decide) rfl (fun _ => Nat.le_of_ble_eq_true rfl) ?_
  intro D dT bs p l e s m args below meth c C
  show V D dT bs 3 p l e rm_m_least s m args below meth c 0 0 _ h S 0 [(0, zP bs 193), (1, zI a1), (2, zI a2)] []
  obtain ⟨res, hf⟩ : ∃ r, m_least a1 a2 = r := ⟨_, rfl⟩
  rw [hf]
  unfold m_least at hf
  refine r_iload_n (pc' := 1) (f4 := 1) (i := 1) C 1 rfl rfl dX12_least_0 rfl ?_
  refine r_iload_n (pc' := 2) (f4 := 2) (i := 2) C 2 rfl rfl dX12_least_1 rfl ?_
  refine r_icmp_ge (pc' := 5) (tgt := 9) C rfl rfl hf dX12_least_2 (by decide) rfl (fun hf => ?_) (fun hf => ?_)
  · refine r_iload_n (pc' := 6) (f4 := 1) (i := 1) C 1 rfl rfl dX12_least_5 rfl ?_
    refine r_goto (tgt := 10) C dX12_least_6 (by decide) ?_
    subst hf
    exact r_iret C dX12_least_10
  · refine r_iload_n (pc' := 10) (f4 := 2) (i := 2) C 2 rfl rfl dX12_least_9 rfl ?_
    subst hf
    exact r_iret C dX12_least_10

/- WassailEnemiesModel.isHater(I)Z -/
def m_isHater (h : HH) (a1 : Int) : Int :=
  m_in a1 0 ((h 193 0) - 1)
theorem b_m_isHater {h : HH} {a1 : Int} : m_isHater h a1 = 0 ∨ m_isHater h a1 = 1 := by
  unfold m_isHater
  repeat' split
  all_goals first | exact Or.inl rfl | exact Or.inr rfl | exact b_m_in

abbrev rm_m_isHater : Room := { frames := 1, cells := 0, slots := 0, locals := 23 }
set_option maxHeartbeats 4000000 in
set_option maxRecDepth 100000 in
theorem t_m_isHater {S : SS} (hF : Fx S) {h : HH} {a1 : Int} : CM yX12_isHater cX12_isHater 2 (some Jvm.ClassFile.FieldType.boolean) 1 23 0 0 (fun bs => [zP bs 193, zI a1]) h S (fun _ => some (zI (m_isHater h a1))) h S := by
  refine CM.intro (own := RX12) (by decide) rfl (fun _ => Nat.le_of_ble_eq_true rfl) ?_
  intro D dT bs p l e s m args below meth c C
  show V D dT bs 2 p l e rm_m_isHater s m args below meth c 0 0 _ h S 0 [(0, zP bs 193), (1, zI a1)] []
  obtain ⟨res, hf⟩ : ∃ r, m_isHater h a1 = r := ⟨_, rfl⟩
  rw [hf]
  unfold m_isHater at hf
  refine r_aload_n (pc' := 1) (f4 := 0) (i := 0) C 0 rfl rfl dX12_isHater_0 rfl ?_
  refine r_iload_n (pc' := 2) (f4 := 1) (i := 1) C 1 rfl rfl dX12_isHater_1 rfl ?_
  refine r_iconst (pc' := 3) C dX12_isHater_2 rfl ?_
  refine r_aload_n (pc' := 4) (f4 := 0) (i := 0) C 0 rfl rfl dX12_isHater_3 rfl ?_
  refine q_getI (pc' := 7) (j := 0) C (K_193 hF) fb_12_0 wd_1171 (Or.inl rfl) dX12_isHater_4 rfl ?_
  refine r_iconst (pc' := 8) C dX12_isHater_7 rfl ?_
  refine r_isub (pc' := 9) C dX12_isHater_8 rfl ?_
  refine q_callV (pc' := 12) C (t_m_in hF) rfl (K_193 hF) cl_12 wv_RX12_245 ⟨Nat.le_of_ble_eq_true rfl, Nat.le_of_ble_eq_true rfl⟩ rfl rfl (Nat.le_of_ble_eq_true rfl) dX12_isHater_9 rfl ⟨Nat.le_of_ble_eq_true rfl, Nat.le_of_ble_eq_true rfl⟩ ?_
  subst hf
  exact r_zret C (b_m_in) dX12_isHater_12

/- WassailEnemiesModel.isTree(I)Z -/
def m_isTree (a1 : Int) : Int :=
  m_in a1 0 4
theorem b_m_isTree {a1 : Int} : m_isTree a1 = 0 ∨ m_isTree a1 = 1 := by
  unfold m_isTree
  repeat' split
  all_goals first | exact Or.inl rfl | exact Or.inr rfl | exact b_m_in

abbrev rm_m_isTree : Room := { frames := 1, cells := 0, slots := 0, locals := 23 }
set_option maxHeartbeats 4000000 in
set_option maxRecDepth 100000 in
theorem t_m_isTree {S : SS} (hF : Fx S) {h : HH} {a1 : Int} : CM yX12_isTree cX12_isTree 2 (some Jvm.ClassFile.FieldType.boolean) 1 23 0 0 (fun bs => [zP bs 193, zI a1]) h S (fun _ => some (zI (m_isTree a1))) h S := by
  refine CM.intro (own := RX12) (by decide) rfl (fun _ => Nat.le_of_ble_eq_true rfl) ?_
  intro D dT bs p l e s m args below meth c C
  show V D dT bs 2 p l e rm_m_isTree s m args below meth c 0 0 _ h S 0 [(0, zP bs 193), (1, zI a1)] []
  obtain ⟨res, hf⟩ : ∃ r, m_isTree a1 = r := ⟨_, rfl⟩
  rw [hf]
  unfold m_isTree at hf
  refine r_aload_n (pc' := 1) (f4 := 0) (i := 0) C 0 rfl rfl dX12_isTree_0 rfl ?_
  refine r_iload_n (pc' := 2) (f4 := 1) (i := 1) C 1 rfl rfl dX12_isTree_1 rfl ?_
  refine r_iconst (pc' := 3) C dX12_isTree_2 rfl ?_
  refine r_iconst (pc' := 4) C dX12_isTree_3 rfl ?_
  refine q_callV (pc' := 7) C (t_m_in hF) rfl (K_193 hF) cl_12 wv_RX12_245 ⟨Nat.le_of_ble_eq_true rfl, Nat.le_of_ble_eq_true rfl⟩ rfl rfl (Nat.le_of_ble_eq_true rfl) dX12_isTree_4 rfl ⟨Nat.le_of_ble_eq_true rfl, Nat.le_of_ble_eq_true rfl⟩ ?_
  subst hf
  exact r_zret C (b_m_in) dX12_isTree_7

/- WassailEnemiesModel.isHate(I)Z -/
def m_isHate (a1 : Int) : Int :=
  m_in a1 0 99
theorem b_m_isHate {a1 : Int} : m_isHate a1 = 0 ∨ m_isHate a1 = 1 := by
  unfold m_isHate
  repeat' split
  all_goals first | exact Or.inl rfl | exact Or.inr rfl | exact b_m_in

abbrev rm_m_isHate : Room := { frames := 1, cells := 0, slots := 0, locals := 23 }
set_option maxHeartbeats 4000000 in
set_option maxRecDepth 100000 in
theorem t_m_isHate {S : SS} (hF : Fx S) {h : HH} {a1 : Int} : CM yX12_isHate cX12_isHate 2 (some Jvm.ClassFile.FieldType.boolean) 1 23 0 0 (fun bs => [zP bs 193, zI a1]) h S (fun _ => some (zI (m_isHate a1))) h S := by
  refine CM.intro (own := RX12) (by decide) rfl (fun _ => Nat.le_of_ble_eq_true rfl) ?_
  intro D dT bs p l e s m args below meth c C
  show V D dT bs 2 p l e rm_m_isHate s m args below meth c 0 0 _ h S 0 [(0, zP bs 193), (1, zI a1)] []
  obtain ⟨res, hf⟩ : ∃ r, m_isHate a1 = r := ⟨_, rfl⟩
  rw [hf]
  unfold m_isHate at hf
  refine r_aload_n (pc' := 1) (f4 := 0) (i := 0) C 0 rfl rfl dX12_isHate_0 rfl ?_
  refine r_iload_n (pc' := 2) (f4 := 1) (i := 1) C 1 rfl rfl dX12_isHate_1 rfl ?_
  refine r_iconst (pc' := 3) C dX12_isHate_2 rfl ?_
  refine r_bipush (pc' := 5) C rfl dX12_isHate_3 rfl ?_
  refine q_callV (pc' := 8) C (t_m_in hF) rfl (K_193 hF) cl_12 wv_RX12_245 ⟨Nat.le_of_ble_eq_true rfl, Nat.le_of_ble_eq_true rfl⟩ rfl rfl (Nat.le_of_ble_eq_true rfl) dX12_isHate_5 rfl ⟨Nat.le_of_ble_eq_true rfl, Nat.le_of_ble_eq_true rfl⟩ ?_
  subst hf
  exact r_zret C (b_m_in) dX12_isHate_8

/- WassailEnemiesModel.isYears(I)Z -/
def m_isYears (a1 : Int) : Int :=
  m_in a1 0 60
theorem b_m_isYears {a1 : Int} : m_isYears a1 = 0 ∨ m_isYears a1 = 1 := by
  unfold m_isYears
  repeat' split
  all_goals first | exact Or.inl rfl | exact Or.inr rfl | exact b_m_in

abbrev rm_m_isYears : Room := { frames := 1, cells := 0, slots := 0, locals := 23 }
set_option maxHeartbeats 4000000 in
set_option maxRecDepth 100000 in
theorem t_m_isYears {S : SS} (hF : Fx S) {h : HH} {a1 : Int} : CM yX12_isYears cX12_isYears 2 (some Jvm.ClassFile.FieldType.boolean) 1 23 0 0 (fun bs => [zP bs 193, zI a1]) h S (fun _ => some (zI (m_isYears a1))) h S := by
  refine CM.intro (own := RX12) (by decide) rfl (fun _ => Nat.le_of_ble_eq_true rfl) ?_
  intro D dT bs p l e s m args below meth c C
  show V D dT bs 2 p l e rm_m_isYears s m args below meth c 0 0 _ h S 0 [(0, zP bs 193), (1, zI a1)] []
  obtain ⟨res, hf⟩ : ∃ r, m_isYears a1 = r := ⟨_, rfl⟩
  rw [hf]
  unfold m_isYears at hf
  refine r_aload_n (pc' := 1) (f4 := 0) (i := 0) C 0 rfl rfl dX12_isYears_0 rfl ?_
  refine r_iload_n (pc' := 2) (f4 := 1) (i := 1) C 1 rfl rfl dX12_isYears_1 rfl ?_
  refine r_iconst (pc' := 3) C dX12_isYears_2 rfl ?_
  refine r_bipush (pc' := 5) C rfl dX12_isYears_3 rfl ?_
  refine q_callV (pc' := 8) C (t_m_in hF) rfl (K_193 hF) cl_12 wv_RX12_245 ⟨Nat.le_of_ble_eq_true rfl, Nat.le_of_ble_eq_true rfl⟩ rfl rfl (Nat.le_of_ble_eq_true rfl) dX12_isYears_5 rfl ⟨Nat.le_of_ble_eq_true rfl, Nat.le_of_ble_eq_true rfl⟩ ?_
  subst hf
  exact r_zret C (b_m_in) dX12_isYears_8

/- WassailEnemiesModel.hater(III)I -/
def m_hater_L87 (x3 : Int) (k114 : HH → Option (Int × HH)) : Nat → HH → Int → Option (Int × HH)
  | 0, _, _ => none
  | n87 + 1, h, x4 =>
    if ww x4 < 5 then (ck (ww ((5 * (h 193 0)) + x4)) 30 <| m_hater_L87 x3 k114 n87 (u2 h 196 (ww ((5 * (h 193 0)) + x4)) x3) (x4 + 1)) else (k114 h)
def m_hater_L117 : Nat → HH → Int → Option (Int × HH)
  | 0, _, _ => none
  | n117 + 1, h, x4 =>
    if ww x4 < 4 then (ck (ww ((4 * (h 193 0)) + x4)) 24 <| m_hater_L117 n117 (u2 h 197 (ww ((4 * (h 193 0)) + x4)) 0) (x4 + 1)) else (some (((u2 h 193 0 ((h 193 0) + 1)) 193 0) - 1, u2 h 193 0 ((h 193 0) + 1)))
def m_hater (h : HH) (a1 : Int) (a2 : Int) (a3 : Int) : Option (Int × HH) :=
  if ww (m_in a1 0 6) = 0 then (some (-1, h)) else (if ww (m_in a2 0 9) = 0 then (some (-2, h)) else (if ww (m_isHate a3) = 0 then (some (-2, h)) else (if ww (h 193 0) = 6 then (some (-4, h)) else (ck (ww (h 193 0)) 6 <| ck (ww ((u2 h 194 (ww (h 193 0)) a1) 193 0)) 6 <| m_hater_L87 a3 (fun h1 => m_hater_L117 FU h1 0) FU (u2 (u2 (u2 h 194 (ww (h 193 0)) a1) 195 (ww ((u2 h 194 (ww (h 193 0)) a1) 193 0)) a2) 193 1 (zand ((u2 (u2 h 194 (ww (h 193 0)) a1) 195 (ww ((u2 h 194 (ww (h 193 0)) a1) 193 0)) a2) 193 1) (zxor (zshl 1 ((u2 (u2 h 194 (ww (h 193 0)) a1) 195 (ww ((u2 h 194 (ww (h 193 0)) a1) 193 0)) a2) 193 0)) (-1)))) 0))))
abbrev rm_m_hater : Room := { frames := 2, cells := 0, slots := 0, locals := 44 }
set_option maxHeartbeats 4000000 in
set_option maxRecDepth 100000 in
theorem w_m_hater_L87 (hF : Fx S) (C : Cx D dT bs RX12 cX12_hater 5 (some Jvm.ClassFile.FieldType.int) p s m args meth c) (x3 : Int) (k114 : HH → Option (Int × HH)) {res : (Int × HH)} (hk114 : ∀ (h : HH), k114 h = some res → V D dT bs 5 p l e rm_m_hater s m args below meth c 0 0 (MQ below (QQ D dT bs (some (zI res.1)) res.2 S) args s 0 0 (AA bs)) h S 114 [(0, zP bs 193)] []) :
    ∀ (n : Nat) (h : HH) (x4 : Int), m_hater_L87 x3 k114 n h x4 = some res → V D dT bs 5 p l e rm_m_hater s m args below meth c 0 0 (MQ below (QQ D dT bs (some (zI res.1)) res.2 S) args s 0 0 (AA bs)) h S 87 [(0, zP bs 193), (3, zI x3), (4, zI x4)] [] := by
  intro n
  induction n with
  | zero => intro h x4 hf; simp [m_hater_L87] at hf
  | succ n87 ih87 =>
    intro h x4 hf
    rw [m_hater_L87] at hf
    refine r_iload (pc' := 89) (i := 4) C 2 rfl dX12_hater_87 rfl ?_
    refine r_iconst (pc' := 90) C dX12_hater_89 rfl ?_
    refine r_icmp_ge (pc' := 93) (tgt := 114) C rfl ww_n5 hf dX12_hater_90 (by decide) rfl (fun hf => ?_) (fun hf => ?_)
    · refine r_aload_n (pc' := 94) (f4 := 0) (i := 0) C 0 rfl rfl dX12_hater_93 rfl ?_
      refine q_getP (pc' := 97) (j := 5) C (K_193 hF) fb_12_5 (by decide) wd_1176 (Or.inl rfl) (F_193_5 hF) (by decide) dX12_hater_94 rfl ?_
      refine r_iconst (pc' := 98) C dX12_hater_97 rfl ?_
      refine r_aload_n (pc' := 99) (f4 := 0) (i := 0) C 0 rfl rfl dX12_hater_98 rfl ?_
      refine q_getI (pc' := 102) (j := 0) C (K_193 hF) fb_12_0 wd_1171 (Or.inl rfl) dX12_hater_99 rfl ?_
      refine r_imul (pc' := 103) C dX12_hater_102 rfl ?_
      refine r_iload (pc' := 105) (i := 4) C 2 rfl dX12_hater_103 rfl ?_
      refine r_iadd (pc' := 106) C dX12_hater_105 rfl ?_
      refine r_iload_n (pc' := 107) (f4 := 3) (i := 3) C 1 rfl rfl dX12_hater_106 rfl ?_
      obtain ⟨hi, hf⟩ := ck_in hf
      refine r_iast (pc' := 108) C (K_196 hF) rfl hi dX12_hater_107 rfl ?_
      refine r_iinc (pc' := 111) (i := 4) (L' := [(4, zI (x4 + 1)), (0, zP bs 193), (3, zI x3)]) C 2 rfl (by decide) rfl dX12_hater_108 rfl ?_
      refine r_goto (tgt := 87) C dX12_hater_111 (by decide) ?_
      refine V.sub (L' := [(0, zP bs 193), (3, zI x3), (4, zI (x4 + 1))]) [1, 2, 0] rfl ?_
      exact ih87 _ _ hf
    · refine V.sub (L' := [(0, zP bs 193)]) [0] rfl ?_
      exact hk114 _ hf
set_option maxHeartbeats 4000000 in
set_option maxRecDepth 100000 in
theorem w_m_hater_L117 (hF : Fx S) (C : Cx D dT bs RX12 cX12_hater 5 (some Jvm.ClassFile.FieldType.int) p s m args meth c) {res : (Int × HH)} :
    ∀ (n : Nat) (h : HH) (x4 : Int), m_hater_L117 n h x4 = some res → V D dT bs 5 p l e rm_m_hater s m args below meth c 0 0 (MQ below (QQ D dT bs (some (zI res.1)) res.2 S) args s 0 0 (AA bs)) h S 117 [(0, zP bs 193), (4, zI x4)] [] := by
  intro n
  induction n with
  | zero => intro h x4 hf; simp [m_hater_L117] at hf
  | succ n117 ih117 =>
    intro h x4 hf
    rw [m_hater_L117] at hf
    refine r_iload (pc' := 119) (i := 4) C 1 rfl dX12_hater_117 rfl ?_
    refine r_iconst (pc' := 120) C dX12_hater_119 rfl ?_
    refine r_icmp_ge (pc' := 123) (tgt := 144) C rfl ww_n4 hf dX12_hater_120 (by decide) rfl (fun hf => ?_) (fun hf => ?_)
    · refine r_aload_n (pc' := 124) (f4 := 0) (i := 0) C 0 rfl rfl dX12_hater_123 rfl ?_
      refine q_getP (pc' := 127) (j := 6) C (K_193 hF) fb_12_6 (by decide) wd_1177 (Or.inl rfl) (F_193_6 hF) (by decide) dX12_hater_124 rfl ?_
      refine r_iconst (pc' := 128) C dX12_hater_127 rfl ?_
      refine r_aload_n (pc' := 129) (f4 := 0) (i := 0) C 0 rfl rfl dX12_hater_128 rfl ?_
      refine q_getI (pc' := 132) (j := 0) C (K_193 hF) fb_12_0 wd_1171 (Or.inl rfl) dX12_hater_129 rfl ?_
      refine r_imul (pc' := 133) C dX12_hater_132 rfl ?_
      refine r_iload (pc' := 135) (i := 4) C 1 rfl dX12_hater_133 rfl ?_
      refine r_iadd (pc' := 136) C dX12_hater_135 rfl ?_
      refine r_iconst (pc' := 137) C dX12_hater_136 rfl ?_
      obtain ⟨hi, hf⟩ := ck_in hf
      refine r_iast (pc' := 138) C (K_197 hF) rfl hi dX12_hater_137 rfl ?_
      refine r_iinc (pc' := 141) (i := 4) (L' := [(4, zI (x4 + 1)), (0, zP bs 193)]) C 1 rfl (by decide) rfl dX12_hater_138 rfl ?_
      refine r_goto (tgt := 117) C dX12_hater_141 (by decide) ?_
      refine V.sub (L' := [(0, zP bs 193), (4, zI (x4 + 1))]) [1, 0] rfl ?_
      exact ih117 _ _ hf
    · refine r_aload_n (pc' := 145) (f4 := 0) (i := 0) C 0 rfl rfl dX12_hater_144 rfl ?_
      refine r_dup (pc' := 146) C rfl dX12_hater_145 rfl ?_
      refine q_getI (pc' := 149) (j := 0) C (K_193 hF) fb_12_0 wd_1171 (Or.inl rfl) dX12_hater_146 rfl ?_
      refine r_iconst (pc' := 150) C dX12_hater_149 rfl ?_
      refine r_iadd (pc' := 151) C dX12_hater_150 rfl ?_
      refine q_putI (pc' := 154) (j := 0) C (K_193 hF) fb_12_0 fp_12_0 wd_1171 (Or.inl rfl) (Or.inl rfl) rfl rfl dX12_hater_151 rfl ?_
      refine r_aload_n (pc' := 155) (f4 := 0) (i := 0) C 0 rfl rfl dX12_hater_154 rfl ?_
      refine q_getI (pc' := 158) (j := 0) C (K_193 hF) fb_12_0 wd_1171 (Or.inl rfl) dX12_hater_155 rfl ?_
      refine r_iconst (pc' := 159) C dX12_hater_158 rfl ?_
      refine r_isub (pc' := 160) C dX12_hater_159 rfl ?_
      cases hf
      exact r_iret C dX12_hater_160
set_option maxHeartbeats 4000000 in
set_option maxRecDepth 100000 in
theorem t_m_hater {S : SS} (hF : Fx S) {h : HH} {a1 : Int} {a2 : Int} {a3 : Int} {res : Int × HH} (hf : m_hater h a1 a2 a3 = some res) : CM yX12_hater cX12_hater 5 (some Jvm.ClassFile.FieldType.int) 2 44 0 0 (fun bs => [zP bs 193, zI a1, zI a2, zI a3]) h S (fun _ => some (zI res.1)) res.2 S := by
  refine CM.intro (own := RX12) (by decide) rfl (fun _ => Nat.le_of_ble_eq_true rfl) ?_
  intro D dT bs p l e s m args below meth c C
  show V D dT bs 5 p l e rm_m_hater s m args below meth c 0 0 _ h S 0 [(0, zP bs 193), (1, zI a1), (2, zI a2), (3, zI a3)] []
  unfold m_hater at hf
  refine r_aload_n (pc' := 1) (f4 := 0) (i := 0) C 0 rfl rfl dX12_hater_0 rfl ?_
  refine r_iload_n (pc' := 2) (f4 := 1) (i := 1) C 1 rfl rfl dX12_hater_1 rfl ?_
  refine r_iconst (pc' := 3) C dX12_hater_2 rfl ?_
  refine r_bipush (pc' := 5) C rfl dX12_hater_3 rfl ?_
  refine q_callV (pc' := 8) C (t_m_in hF) rfl (K_193 hF) cl_12 wv_RX12_245 ⟨Nat.le_of_ble_eq_true rfl, Nat.le_of_ble_eq_true rfl⟩ rfl rfl (Nat.le_of_ble_eq_true rfl) dX12_hater_5 rfl ⟨Nat.le_of_ble_eq_true rfl, Nat.le_of_ble_eq_true rfl⟩ ?_
  refine r_if_ne (pc' := 11) (tgt := 13) C rfl hf dX12_hater_8 (by decide) rfl (fun hf => ?_) (fun hf => ?_)
  · refine r_iconst (pc' := 12) C dX12_hater_11 rfl ?_
    cases hf
    exact r_iret C dX12_hater_12
  · refine r_aload_n (pc' := 14) (f4 := 0) (i := 0) C 0 rfl rfl dX12_hater_13 rfl ?_
    refine r_iload_n (pc' := 15) (f4 := 2) (i := 2) C 2 rfl rfl dX12_hater_14 rfl ?_
    refine r_iconst (pc' := 16) C dX12_hater_15 rfl ?_
    refine r_bipush (pc' := 18) C rfl dX12_hater_16 rfl ?_
    refine q_callV (pc' := 21) C (t_m_in hF) rfl (K_193 hF) cl_12 wv_RX12_245 ⟨Nat.le_of_ble_eq_true rfl, Nat.le_of_ble_eq_true rfl⟩ rfl rfl (Nat.le_of_ble_eq_true rfl) dX12_hater_18 rfl ⟨Nat.le_of_ble_eq_true rfl, Nat.le_of_ble_eq_true rfl⟩ ?_
    refine r_if_eq (pc' := 24) (tgt := 32) C rfl hf dX12_hater_21 (by decide) rfl (fun hf => ?_) (fun hf => ?_)
    · refine r_bipush (pc' := 34) C rfl dX12_hater_32 rfl ?_
      cases hf
      exact r_iret C dX12_hater_34
    · refine r_aload_n (pc' := 25) (f4 := 0) (i := 0) C 0 rfl rfl dX12_hater_24 rfl ?_
      refine r_iload_n (pc' := 26) (f4 := 3) (i := 3) C 3 rfl rfl dX12_hater_25 rfl ?_
      refine q_callV (pc' := 29) C (t_m_isHate hF) rfl (K_193 hF) cl_12 wv_RX12_249 ⟨Nat.le_of_ble_eq_true rfl, Nat.le_of_ble_eq_true rfl⟩ rfl rfl (Nat.le_of_ble_eq_true rfl) dX12_hater_26 rfl ⟨Nat.le_of_ble_eq_true rfl, Nat.le_of_ble_eq_true rfl⟩ ?_
      refine r_if_ne (pc' := 32) (tgt := 35) C rfl hf dX12_hater_29 (by decide) rfl (fun hf => ?_) (fun hf => ?_)
      · refine r_bipush (pc' := 34) C rfl dX12_hater_32 rfl ?_
        cases hf
        exact r_iret C dX12_hater_34
      · refine r_aload_n (pc' := 36) (f4 := 0) (i := 0) C 0 rfl rfl dX12_hater_35 rfl ?_
        refine q_getI (pc' := 39) (j := 0) C (K_193 hF) fb_12_0 wd_1171 (Or.inl rfl) dX12_hater_36 rfl ?_
        refine r_bipush (pc' := 41) C rfl dX12_hater_39 rfl ?_
        refine r_icmp_ne (pc' := 44) (tgt := 47) C rfl ww_n6 hf dX12_hater_41 (by decide) rfl (fun hf => ?_) (fun hf => ?_)
        · refine r_bipush (pc' := 46) C rfl dX12_hater_44 rfl ?_
          cases hf
          exact r_iret C dX12_hater_46
        · refine r_aload_n (pc' := 48) (f4 := 0) (i := 0) C 0 rfl rfl dX12_hater_47 rfl ?_
          refine q_getP (pc' := 51) (j := 3) C (K_193 hF) fb_12_3 (by decide) wd_1174 (Or.inl rfl) (F_193_3 hF) (by decide) dX12_hater_48 rfl ?_
          refine r_aload_n (pc' := 52) (f4 := 0) (i := 0) C 0 rfl rfl dX12_hater_51 rfl ?_
          refine q_getI (pc' := 55) (j := 0) C (K_193 hF) fb_12_0 wd_1171 (Or.inl rfl) dX12_hater_52 rfl ?_
          refine r_iload_n (pc' := 56) (f4 := 1) (i := 1) C 1 rfl rfl dX12_hater_55 rfl ?_
          obtain ⟨hi, hf⟩ := ck_in hf
          refine r_iast (pc' := 57) C (K_194 hF) rfl hi dX12_hater_56 rfl ?_
          refine r_aload_n (pc' := 58) (f4 := 0) (i := 0) C 0 rfl rfl dX12_hater_57 rfl ?_
          refine q_getP (pc' := 61) (j := 4) C (K_193 hF) fb_12_4 (by decide) wd_1175 (Or.inl rfl) (F_193_4 hF) (by decide) dX12_hater_58 rfl ?_
          refine r_aload_n (pc' := 62) (f4 := 0) (i := 0) C 0 rfl rfl dX12_hater_61 rfl ?_
          refine q_getI (pc' := 65) (j := 0) C (K_193 hF) fb_12_0 wd_1171 (Or.inl rfl) dX12_hater_62 rfl ?_
          refine r_iload_n (pc' := 66) (f4 := 2) (i := 2) C 2 rfl rfl dX12_hater_65 rfl ?_
          obtain ⟨hi, hf⟩ := ck_in hf
          refine r_iast (pc' := 67) C (K_195 hF) rfl hi dX12_hater_66 rfl ?_
          refine r_aload_n (pc' := 68) (f4 := 0) (i := 0) C 0 rfl rfl dX12_hater_67 rfl ?_
          refine r_dup (pc' := 69) C rfl dX12_hater_68 rfl ?_
          refine q_getI (pc' := 72) (j := 1) C (K_193 hF) fb_12_1 wd_1172 (Or.inl rfl) dX12_hater_69 rfl ?_
          refine r_iconst (pc' := 73) C dX12_hater_72 rfl ?_
          refine r_aload_n (pc' := 74) (f4 := 0) (i := 0) C 0 rfl rfl dX12_hater_73 rfl ?_
          refine q_getI (pc' := 77) (j := 0) C (K_193 hF) fb_12_0 wd_1171 (Or.inl rfl) dX12_hater_74 rfl ?_
          refine r_ishl (pc' := 78) C dX12_hater_77 rfl ?_
          refine r_iconst (pc' := 79) C dX12_hater_78 rfl ?_
          refine r_ixor (pc' := 80) C dX12_hater_79 rfl ?_
          refine r_iand (pc' := 81) C dX12_hater_80 rfl ?_
          refine q_putI (pc' := 84) (j := 1) C (K_193 hF) fb_12_1 fp_12_1 wd_1172 (Or.inl rfl) (Or.inl rfl) rfl rfl dX12_hater_81 rfl ?_
          refine r_iconst (pc' := 85) C dX12_hater_84 rfl ?_
          refine r_istore (pc' := 87) (i := 4) (L' := [(4, zI 0), (0, zP bs 193), (1, zI a1), (2, zI a2), (3, zI a3)]) C (by decide) rfl dX12_hater_85 rfl ?_
          refine V.sub (L' := [(0, zP bs 193), (3, zI a3), (4, zI 0)]) [1, 4, 0] rfl ?_
          refine w_m_hater_L87 hF C _ _ ?_ _ _ _ hf
          intro h1 hf
          refine r_iconst (pc' := 115) C dX12_hater_114 rfl ?_
          refine r_istore (pc' := 117) (i := 4) (L' := [(4, zI 0), (0, zP bs 193)]) C (by decide) rfl dX12_hater_115 rfl ?_
          refine V.sub (L' := [(0, zP bs 193), (4, zI 0)]) [1, 0] rfl ?_
          refine w_m_hater_L117 hF C _ _ _ hf

/- WassailEnemiesModel.hate(III)I -/
def m_hate (h : HH) (a1 : Int) (a2 : Int) (a3 : Int) : Option (Int × HH) :=
  if ww (m_isHater h a1) = 0 then (some (-1, h)) else (if ww (m_isTree a2) = 0 then (some (-1, h)) else (if ww (m_isHate a3) = 0 then (some (-2, h)) else (ck (ww ((5 * a1) + a2)) 30 <| ck (ww ((5 * a1) + a2)) 30 <| some (h 196 (ww ((5 * a1) + a2)), u2 h 196 (ww ((5 * a1) + a2)) a3))))
abbrev rm_m_hate : Room := { frames := 2, cells := 0, slots := 0, locals := 44 }
set_option maxHeartbeats 4000000 in
set_option maxRecDepth 100000 in
theorem t_m_hate {S : SS} (hF : Fx S) {h : HH} {a1 : Int} {a2 : Int} {a3 : Int} {res : Int × HH} (hf : m_hate h a1 a2 a3 = some res) : CM yX12_hate cX12_hate 5 (some Jvm.ClassFile.FieldType.int) 2 44 0 0 (fun bs => [zP bs 193, zI a1, zI a2, zI a3]) h S (fun _ => some (zI res.1)) res.2 S := by
  refine CM.intro (own := RX12) (by decide) rfl (fun _ => Nat.le_of_ble_eq_true rfl) ?_
  intro D dT bs p l e s m args below meth c C
  show V D dT bs 5 p l e rm_m_hate s m args below meth c 0 0 _ h S 0 [(0, zP bs 193), (1, zI a1), (2, zI a2), (3, zI a3)] []
  unfold m_hate at hf
  refine r_aload_n (pc' := 1) (f4 := 0) (i := 0) C 0 rfl rfl dX12_hate_0 rfl ?_
  refine r_iload_n (pc' := 2) (f4 := 1) (i := 1) C 1 rfl rfl dX12_hate_1 rfl ?_
  refine q_callV (pc' := 5) C (t_m_isHater hF) rfl (K_193 hF) cl_12 wv_RX12_253 ⟨Nat.le_of_ble_eq_true rfl, Nat.le_of_ble_eq_true rfl⟩ rfl rfl (Nat.le_of_ble_eq_true rfl) dX12_hate_2 rfl ⟨Nat.le_of_ble_eq_true rfl, Nat.le_of_ble_eq_true rfl⟩ ?_
  refine r_if_eq (pc' := 8) (tgt := 16) C rfl hf dX12_hate_5 (by decide) rfl (fun hf => ?_) (fun hf => ?_)
  · refine r_iconst (pc' := 17) C dX12_hate_16 rfl ?_
    cases hf
    exact r_iret C dX12_hate_17
  · refine r_aload_n (pc' := 9) (f4 := 0) (i := 0) C 0 rfl rfl dX12_hate_8 rfl ?_
    refine r_iload_n (pc' := 10) (f4 := 2) (i := 2) C 2 rfl rfl dX12_hate_9 rfl ?_
    refine q_callV (pc' := 13) C (t_m_isTree hF) rfl (K_193 hF) cl_12 wv_RX12_256 ⟨Nat.le_of_ble_eq_true rfl, Nat.le_of_ble_eq_true rfl⟩ rfl rfl (Nat.le_of_ble_eq_true rfl) dX12_hate_10 rfl ⟨Nat.le_of_ble_eq_true rfl, Nat.le_of_ble_eq_true rfl⟩ ?_
    refine r_if_ne (pc' := 16) (tgt := 18) C rfl hf dX12_hate_13 (by decide) rfl (fun hf => ?_) (fun hf => ?_)
    · refine r_iconst (pc' := 17) C dX12_hate_16 rfl ?_
      cases hf
      exact r_iret C dX12_hate_17
    · refine r_aload_n (pc' := 19) (f4 := 0) (i := 0) C 0 rfl rfl dX12_hate_18 rfl ?_
      refine r_iload_n (pc' := 20) (f4 := 3) (i := 3) C 3 rfl rfl dX12_hate_19 rfl ?_
      refine q_callV (pc' := 23) C (t_m_isHate hF) rfl (K_193 hF) cl_12 wv_RX12_249 ⟨Nat.le_of_ble_eq_true rfl, Nat.le_of_ble_eq_true rfl⟩ rfl rfl (Nat.le_of_ble_eq_true rfl) dX12_hate_20 rfl ⟨Nat.le_of_ble_eq_true rfl, Nat.le_of_ble_eq_true rfl⟩ ?_
      refine r_if_ne (pc' := 26) (tgt := 29) C rfl hf dX12_hate_23 (by decide) rfl (fun hf => ?_) (fun hf => ?_)
      · refine r_bipush (pc' := 28) C rfl dX12_hate_26 rfl ?_
        cases hf
        exact r_iret C dX12_hate_28
      · refine r_aload_n (pc' := 30) (f4 := 0) (i := 0) C 0 rfl rfl dX12_hate_29 rfl ?_
        refine q_getP (pc' := 33) (j := 5) C (K_193 hF) fb_12_5 (by decide) wd_1176 (Or.inl rfl) (F_193_5 hF) (by decide) dX12_hate_30 rfl ?_
        refine r_iconst (pc' := 34) C dX12_hate_33 rfl ?_
        refine r_iload_n (pc' := 35) (f4 := 1) (i := 1) C 1 rfl rfl dX12_hate_34 rfl ?_
        refine r_imul (pc' := 36) C dX12_hate_35 rfl ?_
        refine r_iload_n (pc' := 37) (f4 := 2) (i := 2) C 2 rfl rfl dX12_hate_36 rfl ?_
        refine r_iadd (pc' := 38) C dX12_hate_37 rfl ?_
        obtain ⟨hi, hf⟩ := ck_in hf
        refine r_iald (pc' := 39) C (K_196 hF) rfl hi dX12_hate_38 rfl ?_
        refine r_istore (pc' := 41) (i := 4) (L' := [(4, zI (h 196 (ww ((5 * a1) + a2)))), (0, zP bs 193), (1, zI a1), (2, zI a2), (3, zI a3)]) C (by decide) rfl dX12_hate_39 rfl ?_
        refine r_aload_n (pc' := 42) (f4 := 0) (i := 0) C 1 rfl rfl dX12_hate_41 rfl ?_
        refine q_getP (pc' := 45) (j := 5) C (K_193 hF) fb_12_5 (by decide) wd_1176 (Or.inl rfl) (F_193_5 hF) (by decide) dX12_hate_42 rfl ?_
        refine r_iconst (pc' := 46) C dX12_hate_45 rfl ?_
        refine r_iload_n (pc' := 47) (f4 := 1) (i := 1) C 2 rfl rfl dX12_hate_46 rfl ?_
        refine r_imul (pc' := 48) C dX12_hate_47 rfl ?_
        refine r_iload_n (pc' := 49) (f4 := 2) (i := 2) C 3 rfl rfl dX12_hate_48 rfl ?_
        refine r_iadd (pc' := 50) C dX12_hate_49 rfl ?_
        refine r_iload_n (pc' := 51) (f4 := 3) (i := 3) C 4 rfl rfl dX12_hate_50 rfl ?_
        obtain ⟨hi, hf⟩ := ck_in hf
        refine r_iast (pc' := 52) C (K_196 hF) rfl hi dX12_hate_51 rfl ?_
        refine r_iload (pc' := 54) (i := 4) C 0 rfl dX12_hate_52 rfl ?_
        cases hf
        exact r_iret C dX12_hate_54

/- WassailEnemiesModel.leads(II)V -/
def m_leads_L2 (x1 : Int) (x2 : Int) : Nat → HH → Int → Option HH
  | 0, _, _ => none
  | n2 + 1, h, x3 =>
    if ww x3 < 5 then (if ww x2 < 0 then (m_leads_L2 x1 x2 n2 h (x3 + 1)) else (ck (ww x3) 5 <| if ww (h 199 (ww x3)) = ww x2 then (ck (ww x3) 5 <| m_leads_L2 x1 x2 n2 (u2 h 199 (ww x3) (-5)) (x3 + 1)) else (m_leads_L2 x1 x2 n2 h (x3 + 1)))) else (if ww x2 < 0 then (ck (ww x1) 5 <| some (u2 h 199 (ww x1) (-5))) else (ck (ww x1) 5 <| some (u2 h 199 (ww x1) x2)))
def m_leads (h : HH) (a1 : Int) (a2 : Int) : Option HH :=
  m_leads_L2 a1 a2 FU h 0
abbrev rm_m_leads : Room := { frames := 0, cells := 0, slots := 0, locals := 0 }
set_option maxHeartbeats 4000000 in
set_option maxRecDepth 100000 in
theorem w_m_leads_L2 (hF : Fx S) (C : Cx D dT bs RX12 cX12_leads 4 (Option.none : Option Jvm.ClassFile.FieldType) p s m args meth c) (x1 : Int) (x2 : Int) {res : HH} :
    ∀ (n : Nat) (h : HH) (x3 : Int), m_leads_L2 x1 x2 n h x3 = some res → V D dT bs 4 p l e rm_m_leads s m args below meth c 0 0 (MQ below (QQ D dT bs none res S) args s 0 0 (AA bs)) h S 2 [(0, zP bs 193), (1, zI x1), (2, zI x2), (3, zI x3)] [] := by
  intro n
  induction n with
  | zero => intro h x3 hf; simp [m_leads_L2] at hf
  | succ n2 ih2 =>
    intro h x3 hf
    rw [m_leads_L2] at hf
    refine r_iload_n (pc' := 3) (f4 := 3) (i := 3) C 3 rfl rfl dX12_leads_2 rfl ?_
    refine r_iconst (pc' := 4) C dX12_leads_3 rfl ?_
    refine r_icmp_ge (pc' := 7) (tgt := 35) C rfl ww_n5 hf dX12_leads_4 (by decide) rfl (fun hf => ?_) (fun hf => ?_)
    · refine r_iload_n (pc' := 8) (f4 := 2) (i := 2) C 2 rfl rfl dX12_leads_7 rfl ?_
      refine r_if_lt (pc' := 11) (tgt := 29) C rfl hf dX12_leads_8 (by decide) rfl (fun hf => ?_) (fun hf => ?_)
      · refine r_iinc (pc' := 32) (i := 3) (L' := [(3, zI (x3 + 1)), (0, zP bs 193), (1, zI x1), (2, zI x2)]) C 3 rfl (by decide) rfl dX12_leads_29 rfl ?_
        refine r_goto (tgt := 2) C dX12_leads_32 (by decide) ?_
        refine V.sub (L' := [(0, zP bs 193), (1, zI x1), (2, zI x2), (3, zI (x3 + 1))]) [1, 2, 3, 0] rfl ?_
        exact ih2 _ _ hf
      · refine r_aload_n (pc' := 12) (f4 := 0) (i := 0) C 0 rfl rfl dX12_leads_11 rfl ?_
        refine q_getP (pc' := 15) (j := 8) C (K_193 hF) fb_12_8 (by decide) wd_1179 (Or.inl rfl) (F_193_8 hF) (by decide) dX12_leads_12 rfl ?_
        refine r_iload_n (pc' := 16) (f4 := 3) (i := 3) C 3 rfl rfl dX12_leads_15 rfl ?_
        obtain ⟨hi, hf⟩ := ck_in hf
        refine r_iald (pc' := 17) C (K_199 hF) rfl hi dX12_leads_16 rfl ?_
        refine r_iload_n (pc' := 18) (f4 := 2) (i := 2) C 2 rfl rfl dX12_leads_17 rfl ?_
        refine r_icmp_ne (pc' := 21) (tgt := 29) C rfl rfl hf dX12_leads_18 (by decide) rfl (fun hf => ?_) (fun hf => ?_)
        · refine r_aload_n (pc' := 22) (f4 := 0) (i := 0) C 0 rfl rfl dX12_leads_21 rfl ?_
          refine q_getP (pc' := 25) (j := 8) C (K_193 hF) fb_12_8 (by decide) wd_1179 (Or.inl rfl) (F_193_8 hF) (by decide) dX12_leads_22 rfl ?_
          refine r_iload_n (pc' := 26) (f4 := 3) (i := 3) C 3 rfl rfl dX12_leads_25 rfl ?_
          refine r_bipush (pc' := 28) C rfl dX12_leads_26 rfl ?_
          obtain ⟨hi, hf⟩ := ck_in hf
          refine r_iast (pc' := 29) C (K_199 hF) rfl hi dX12_leads_28 rfl ?_
          refine r_iinc (pc' := 32) (i := 3) (L' := [(3, zI (x3 + 1)), (0, zP bs 193), (1, zI x1), (2, zI x2)]) C 3 rfl (by decide) rfl dX12_leads_29 rfl ?_
          refine r_goto (tgt := 2) C dX12_leads_32 (by decide) ?_
          refine V.sub (L' := [(0, zP bs 193), (1, zI x1), (2, zI x2), (3, zI (x3 + 1))]) [1, 2, 3, 0] rfl ?_
          exact ih2 _ _ hf
        · refine r_iinc (pc' := 32) (i := 3) (L' := [(3, zI (x3 + 1)), (0, zP bs 193), (1, zI x1), (2, zI x2)]) C 3 rfl (by decide) rfl dX12_leads_29 rfl ?_
          refine r_goto (tgt := 2) C dX12_leads_32 (by decide) ?_
          refine V.sub (L' := [(0, zP bs 193), (1, zI x1), (2, zI x2), (3, zI (x3 + 1))]) [1, 2, 3, 0] rfl ?_
          exact ih2 _ _ hf
    · refine r_aload_n (pc' := 36) (f4 := 0) (i := 0) C 0 rfl rfl dX12_leads_35 rfl ?_
      refine q_getP (pc' := 39) (j := 8) C (K_193 hF) fb_12_8 (by decide) wd_1179 (Or.inl rfl) (F_193_8 hF) (by decide) dX12_leads_36 rfl ?_
      refine r_iload_n (pc' := 40) (f4 := 1) (i := 1) C 1 rfl rfl dX12_leads_39 rfl ?_
      refine r_iload_n (pc' := 41) (f4 := 2) (i := 2) C 2 rfl rfl dX12_leads_40 rfl ?_
      refine r_if_ge (pc' := 44) (tgt := 49) C rfl hf dX12_leads_41 (by decide) rfl (fun hf => ?_) (fun hf => ?_)
      · refine r_bipush (pc' := 46) C rfl dX12_leads_44 rfl ?_
        refine r_goto (tgt := 50) C dX12_leads_46 (by decide) ?_
        obtain ⟨hi, hf⟩ := ck_in hf
        refine r_iast (pc' := 51) C (K_199 hF) rfl hi dX12_leads_50 rfl ?_
        cases hf
        exact r_vret C dX12_leads_51
      · refine r_iload_n (pc' := 50) (f4 := 2) (i := 2) C 2 rfl rfl dX12_leads_49 rfl ?_
        obtain ⟨hi, hf⟩ := ck_in hf
        refine r_iast (pc' := 51) C (K_199 hF) rfl hi dX12_leads_50 rfl ?_
        cases hf
        exact r_vret C dX12_leads_51
set_option maxHeartbeats 4000000 in
set_option maxRecDepth 100000 in
theorem t_m_leads {S : SS} (hF : Fx S) {h : HH} {a1 : Int} {a2 : Int} {res : HH} (hf : m_leads h a1 a2 = some res) : CM yX12_leads cX12_leads 4 (Option.none : Option Jvm.ClassFile.FieldType) 0 0 0 0 (fun bs => [zP bs 193, zI a1, zI a2]) h S (fun _ => none) res S := by
  refine CM.intro (own := RX12) (by decide) rfl (fun _ => Nat.le_of_ble_eq_true rfl) ?_
  intro D dT bs p l e s m args below meth c C
  show V D dT bs 4 p l e rm_m_leads s m args below meth c 0 0 _ h S 0 [(0, zP bs 193), (1, zI a1), (2, zI a2)] []
  unfold m_leads at hf
  refine r_iconst (pc' := 1) C dX12_leads_0 rfl ?_
  refine r_istore_n (pc' := 2) (f4 := 3) (i := 3) (L' := [(3, zI 0), (0, zP bs 193), (1, zI a1), (2, zI a2)]) C rfl (by decide) rfl dX12_leads_1 rfl ?_
  refine V.sub (L' := [(0, zP bs 193), (1, zI a1), (2, zI a2), (3, zI 0)]) [1, 2, 3, 0] rfl ?_
  refine w_m_leads_L2 hF C _ _ _ _ _ hf

/- WassailEnemiesModel.lead(II)I -/
def m_lead (h : HH) (a1 : Int) (a2 : Int) : Option (Int × HH) :=
  if ww (m_isTree a1) = 0 then (some (-1, h)) else (if ww a2 = -1 then (ck (ww a1) 5 <| (m_leads h a1 a2).bind fun q1 => some (h 199 (ww a1), q1)) else (if ww (m_isHater h a2) = 0 then (some (-1, h)) else (ck (ww a1) 5 <| (m_leads h a1 a2).bind fun q2 => some (h 199 (ww a1), q2))))
abbrev rm_m_lead : Room := { frames := 2, cells := 0, slots := 0, locals := 44 }
set_option maxHeartbeats 4000000 in
set_option maxRecDepth 100000 in
theorem t_m_lead {S : SS} (hF : Fx S) {h : HH} {a1 : Int} {a2 : Int} {res : Int × HH} (hf : m_lead h a1 a2 = some res) : CM yX12_lead cX12_lead 4 (some Jvm.ClassFile.FieldType.int) 2 44 0 0 (fun bs => [zP bs 193, zI a1, zI a2]) h S (fun _ => some (zI res.1)) res.2 S := by
  refine CM.intro (own := RX12) (by decide) rfl (fun _ => Nat.le_of_ble_eq_true rfl) ?_
  intro D dT bs p l e s m args below meth c C
  show V D dT bs 4 p l e rm_m_lead s m args below meth c 0 0 _ h S 0 [(0, zP bs 193), (1, zI a1), (2, zI a2)] []
  unfold m_lead at hf
  refine r_aload_n (pc' := 1) (f4 := 0) (i := 0) C 0 rfl rfl dX12_lead_0 rfl ?_
  refine r_iload_n (pc' := 2) (f4 := 1) (i := 1) C 1 rfl rfl dX12_lead_1 rfl ?_
  refine q_callV (pc' := 5) C (t_m_isTree hF) rfl (K_193 hF) cl_12 wv_RX12_256 ⟨Nat.le_of_ble_eq_true rfl, Nat.le_of_ble_eq_true rfl⟩ rfl rfl (Nat.le_of_ble_eq_true rfl) dX12_lead_2 rfl ⟨Nat.le_of_ble_eq_true rfl, Nat.le_of_ble_eq_true rfl⟩ ?_
  refine r_if_eq (pc' := 8) (tgt := 21) C rfl hf dX12_lead_5 (by decide) rfl (fun hf => ?_) (fun hf => ?_)
  · refine r_iconst (pc' := 22) C dX12_lead_21 rfl ?_
    cases hf
    exact r_iret C dX12_lead_22
  · refine r_iload_n (pc' := 9) (f4 := 2) (i := 2) C 2 rfl rfl dX12_lead_8 rfl ?_
    refine r_iconst (pc' := 10) C dX12_lead_9 rfl ?_
    refine r_icmp_eq (pc' := 13) (tgt := 23) C rfl ww_m1 hf dX12_lead_10 (by decide) rfl (fun hf => ?_) (fun hf => ?_)
    · refine r_aload_n (pc' := 24) (f4 := 0) (i := 0) C 0 rfl rfl dX12_lead_23 rfl ?_
      refine q_getP (pc' := 27) (j := 8) C (K_193 hF) fb_12_8 (by decide) wd_1179 (Or.inl rfl) (F_193_8 hF) (by decide) dX12_lead_24 rfl ?_
      refine r_iload_n (pc' := 28) (f4 := 1) (i := 1) C 1 rfl rfl dX12_lead_27 rfl ?_
      obtain ⟨hi, hf⟩ := ck_in hf
      refine r_iald (pc' := 29) C (K_199 hF) rfl hi dX12_lead_28 rfl ?_
      refine r_istore_n (pc' := 30) (f4 := 3) (i := 3) (L' := [(3, zI (h 199 (ww a1))), (0, zP bs 193), (1, zI a1), (2, zI a2)]) C rfl (by decide) rfl dX12_lead_29 rfl ?_
      refine r_aload_n (pc' := 31) (f4 := 0) (i := 0) C 1 rfl rfl dX12_lead_30 rfl ?_
      refine r_iload_n (pc' := 32) (f4 := 1) (i := 1) C 2 rfl rfl dX12_lead_31 rfl ?_
      refine r_iload_n (pc' := 33) (f4 := 2) (i := 2) C 3 rfl rfl dX12_lead_32 rfl ?_
      obtain ⟨q1, hq1, hf⟩ := bind_in hf
      refine q_callVv (pc' := 36) C (t_m_leads hF hq1) rfl (K_193 hF) cl_12 wv_RX12_259 ⟨Nat.le_of_ble_eq_true rfl, Nat.le_of_ble_eq_true rfl⟩ rfl rfl (Nat.le_of_ble_eq_true rfl) dX12_lead_33 rfl ⟨Nat.le_of_ble_eq_true rfl, Nat.le_of_ble_eq_true rfl⟩ ?_
      refine r_iload_n (pc' := 37) (f4 := 3) (i := 3) C 0 rfl rfl dX12_lead_36 rfl ?_
      cases hf
      exact r_iret C dX12_lead_37
    · refine r_aload_n (pc' := 14) (f4 := 0) (i := 0) C 0 rfl rfl dX12_lead_13 rfl ?_
      refine r_iload_n (pc' := 15) (f4 := 2) (i := 2) C 2 rfl rfl dX12_lead_14 rfl ?_
      refine q_callV (pc' := 18) C (t_m_isHater hF) rfl (K_193 hF) cl_12 wv_RX12_253 ⟨Nat.le_of_ble_eq_true rfl, Nat.le_of_ble_eq_true rfl⟩ rfl rfl (Nat.le_of_ble_eq_true rfl) dX12_lead_15 rfl ⟨Nat.le_of_ble_eq_true rfl, Nat.le_of_ble_eq_true rfl⟩ ?_
      refine r_if_ne (pc' := 21) (tgt := 23) C rfl hf dX12_lead_18 (by decide) rfl (fun hf => ?_) (fun hf => ?_)
      · refine r_iconst (pc' := 22) C dX12_lead_21 rfl ?_
        cases hf
        exact r_iret C dX12_lead_22
      · refine r_aload_n (pc' := 24) (f4 := 0) (i := 0) C 0 rfl rfl dX12_lead_23 rfl ?_
        refine q_getP (pc' := 27) (j := 8) C (K_193 hF) fb_12_8 (by decide) wd_1179 (Or.inl rfl) (F_193_8 hF) (by decide) dX12_lead_24 rfl ?_
        refine r_iload_n (pc' := 28) (f4 := 1) (i := 1) C 1 rfl rfl dX12_lead_27 rfl ?_
        obtain ⟨hi, hf⟩ := ck_in hf
        refine r_iald (pc' := 29) C (K_199 hF) rfl hi dX12_lead_28 rfl ?_
        refine r_istore_n (pc' := 30) (f4 := 3) (i := 3) (L' := [(3, zI (h 199 (ww a1))), (0, zP bs 193), (1, zI a1), (2, zI a2)]) C rfl (by decide) rfl dX12_lead_29 rfl ?_
        refine r_aload_n (pc' := 31) (f4 := 0) (i := 0) C 1 rfl rfl dX12_lead_30 rfl ?_
        refine r_iload_n (pc' := 32) (f4 := 1) (i := 1) C 2 rfl rfl dX12_lead_31 rfl ?_
        refine r_iload_n (pc' := 33) (f4 := 2) (i := 2) C 3 rfl rfl dX12_lead_32 rfl ?_
        obtain ⟨q2, hq2, hf⟩ := bind_in hf
        refine q_callVv (pc' := 36) C (t_m_leads hF hq2) rfl (K_193 hF) cl_12 wv_RX12_259 ⟨Nat.le_of_ble_eq_true rfl, Nat.le_of_ble_eq_true rfl⟩ rfl rfl (Nat.le_of_ble_eq_true rfl) dX12_lead_33 rfl ⟨Nat.le_of_ble_eq_true rfl, Nat.le_of_ble_eq_true rfl⟩ ?_
        refine r_iload_n (pc' := 37) (f4 := 3) (i := 3) C 0 rfl rfl dX12_lead_36 rfl ?_
        cases hf
        exact r_iret C dX12_lead_37

/- WassailEnemiesModel.goes(IZ)V -/
def m_goes (h : HH) (a1 : Int) (a2 : Int) : Option HH :=
  if ww a2 = 0 then (some (u2 h 193 1 (zand (h 193 1) (zxor (zshl 1 a1) (-1))))) else (some (u2 h 193 1 (zor (h 193 1) (zshl 1 a1))))
abbrev rm_m_goes : Room := { frames := 0, cells := 0, slots := 0, locals := 0 }
set_option maxHeartbeats 4000000 in
set_option maxRecDepth 100000 in
theorem t_m_goes {S : SS} (hF : Fx S) {h : HH} {a1 : Int} {a2 : Int} {res : HH} (hf : m_goes h a1 a2 = some res) : CM yX12_goes cX12_goes 3 (Option.none : Option Jvm.ClassFile.FieldType) 0 0 0 0 (fun bs => [zP bs 193, zI a1, zI a2]) h S (fun _ => none) res S := by
  refine CM.intro (own := RX12) (by decide) rfl (fun _ => Nat.le_of_ble_eq_true rfl) ?_
  intro D dT bs p l e s m args below meth c C
  show V D dT bs 3 p l e rm_m_goes s m args below meth c 0 0 _ h S 0 [(0, zP bs 193), (1, zI a1), (2, zI a2)] []
  unfold m_goes at hf
  refine r_aload_n (pc' := 1) (f4 := 0) (i := 0) C 0 rfl rfl dX12_goes_0 rfl ?_
  refine r_iload_n (pc' := 2) (f4 := 2) (i := 2) C 2 rfl rfl dX12_goes_1 rfl ?_
  refine r_if_eq (pc' := 5) (tgt := 16) C rfl hf dX12_goes_2 (by decide) rfl (fun hf => ?_) (fun hf => ?_)
  · refine r_aload_n (pc' := 17) (f4 := 0) (i := 0) C 0 rfl rfl dX12_goes_16 rfl ?_
    refine q_getI (pc' := 20) (j := 1) C (K_193 hF) fb_12_1 wd_1172 (Or.inl rfl) dX12_goes_17 rfl ?_
    refine r_iconst (pc' := 21) C dX12_goes_20 rfl ?_
    refine r_iload_n (pc' := 22) (f4 := 1) (i := 1) C 1 rfl rfl dX12_goes_21 rfl ?_
    refine r_ishl (pc' := 23) C dX12_goes_22 rfl ?_
    refine r_iconst (pc' := 24) C dX12_goes_23 rfl ?_
    refine r_ixor (pc' := 25) C dX12_goes_24 rfl ?_
    refine r_iand (pc' := 26) C dX12_goes_25 rfl ?_
    refine q_putI (pc' := 29) (j := 1) C (K_193 hF) fb_12_1 fp_12_1 wd_1172 (Or.inl rfl) (Or.inl rfl) rfl rfl dX12_goes_26 rfl ?_
    cases hf
    exact r_vret C dX12_goes_29
  · refine r_aload_n (pc' := 6) (f4 := 0) (i := 0) C 0 rfl rfl dX12_goes_5 rfl ?_
    refine q_getI (pc' := 9) (j := 1) C (K_193 hF) fb_12_1 wd_1172 (Or.inl rfl) dX12_goes_6 rfl ?_
    refine r_iconst (pc' := 10) C dX12_goes_9 rfl ?_
    refine r_iload_n (pc' := 11) (f4 := 1) (i := 1) C 1 rfl rfl dX12_goes_10 rfl ?_
    refine r_ishl (pc' := 12) C dX12_goes_11 rfl ?_
    refine r_ior (pc' := 13) C dX12_goes_12 rfl ?_
    refine r_goto (tgt := 26) C dX12_goes_13 (by decide) ?_
    refine q_putI (pc' := 29) (j := 1) C (K_193 hF) fb_12_1 fp_12_1 wd_1172 (Or.inl rfl) (Or.inl rfl) rfl rfl dX12_goes_26 rfl ?_
    cases hf
    exact r_vret C dX12_goes_29

/- WassailEnemiesModel.leave(IZ)I -/
def m_leave (h : HH) (a1 : Int) (a2 : Int) : Option (Int × HH) :=
  if ww (m_isHater h a1) = 0 then (some (-1, h)) else (if ww (m_has (h 193 1) a1) = 0 then ((m_goes h a1 a2).bind fun q1 => some (0, q1)) else ((m_goes h a1 a2).bind fun q2 => some (1, q2)))
abbrev rm_m_leave : Room := { frames := 2, cells := 0, slots := 0, locals := 44 }
set_option maxHeartbeats 4000000 in
set_option maxRecDepth 100000 in
theorem t_m_leave {S : SS} (hF : Fx S) {h : HH} {a1 : Int} {a2 : Int} {res : Int × HH} (hf : m_leave h a1 a2 = some res) : CM yX12_leave cX12_leave 4 (some Jvm.ClassFile.FieldType.int) 2 44 0 0 (fun bs => [zP bs 193, zI a1, zI a2]) h S (fun _ => some (zI res.1)) res.2 S := by
  refine CM.intro (own := RX12) (by decide) rfl (fun _ => Nat.le_of_ble_eq_true rfl) ?_
  intro D dT bs p l e s m args below meth c C
  show V D dT bs 4 p l e rm_m_leave s m args below meth c 0 0 _ h S 0 [(0, zP bs 193), (1, zI a1), (2, zI a2)] []
  unfold m_leave at hf
  refine r_aload_n (pc' := 1) (f4 := 0) (i := 0) C 0 rfl rfl dX12_leave_0 rfl ?_
  refine r_iload_n (pc' := 2) (f4 := 1) (i := 1) C 1 rfl rfl dX12_leave_1 rfl ?_
  refine q_callV (pc' := 5) C (t_m_isHater hF) rfl (K_193 hF) cl_12 wv_RX12_253 ⟨Nat.le_of_ble_eq_true rfl, Nat.le_of_ble_eq_true rfl⟩ rfl rfl (Nat.le_of_ble_eq_true rfl) dX12_leave_2 rfl ⟨Nat.le_of_ble_eq_true rfl, Nat.le_of_ble_eq_true rfl⟩ ?_
  refine r_if_ne (pc' := 8) (tgt := 10) C rfl hf dX12_leave_5 (by decide) rfl (fun hf => ?_) (fun hf => ?_)
  · refine r_iconst (pc' := 9) C dX12_leave_8 rfl ?_
    cases hf
    exact r_iret C dX12_leave_9
  · refine r_aload_n (pc' := 11) (f4 := 0) (i := 0) C 0 rfl rfl dX12_leave_10 rfl ?_
    refine r_aload_n (pc' := 12) (f4 := 0) (i := 0) C 0 rfl rfl dX12_leave_11 rfl ?_
    refine q_getI (pc' := 15) (j := 1) C (K_193 hF) fb_12_1 wd_1172 (Or.inl rfl) dX12_leave_12 rfl ?_
    refine r_iload_n (pc' := 16) (f4 := 1) (i := 1) C 1 rfl rfl dX12_leave_15 rfl ?_
    refine q_callV (pc' := 19) C (t_m_has hF) rfl (K_193 hF) cl_12 wv_RX12_263 ⟨Nat.le_of_ble_eq_true rfl, Nat.le_of_ble_eq_true rfl⟩ rfl rfl (Nat.le_of_ble_eq_true rfl) dX12_leave_16 rfl ⟨Nat.le_of_ble_eq_true rfl, Nat.le_of_ble_eq_true rfl⟩ ?_
    refine r_if_eq (pc' := 22) (tgt := 26) C rfl hf dX12_leave_19 (by decide) rfl (fun hf => ?_) (fun hf => ?_)
    · refine r_iconst (pc' := 27) C dX12_leave_26 rfl ?_
      refine r_istore_n (pc' := 28) (f4 := 3) (i := 3) (L' := [(3, zI 0), (0, zP bs 193), (1, zI a1), (2, zI a2)]) C rfl (by decide) rfl dX12_leave_27 rfl ?_
      refine r_aload_n (pc' := 29) (f4 := 0) (i := 0) C 1 rfl rfl dX12_leave_28 rfl ?_
      refine r_iload_n (pc' := 30) (f4 := 1) (i := 1) C 2 rfl rfl dX12_leave_29 rfl ?_
      refine r_iload_n (pc' := 31) (f4 := 2) (i := 2) C 3 rfl rfl dX12_leave_30 rfl ?_
      obtain ⟨q1, hq1, hf⟩ := bind_in hf
      refine q_callVv (pc' := 34) C (t_m_goes hF hq1) rfl (K_193 hF) cl_12 wv_RX12_267 ⟨Nat.le_of_ble_eq_true rfl, Nat.le_of_ble_eq_true rfl⟩ rfl rfl (Nat.le_of_ble_eq_true rfl) dX12_leave_31 rfl ⟨Nat.le_of_ble_eq_true rfl, Nat.le_of_ble_eq_true rfl⟩ ?_
      refine r_iload_n (pc' := 35) (f4 := 3) (i := 3) C 0 rfl rfl dX12_leave_34 rfl ?_
      cases hf
      exact r_iret C dX12_leave_35
    · refine r_iconst (pc' := 23) C dX12_leave_22 rfl ?_
      refine r_goto (tgt := 27) C dX12_leave_23 (by decide) ?_
      refine r_istore_n (pc' := 28) (f4 := 3) (i := 3) (L' := [(3, zI 1), (0, zP bs 193), (1, zI a1), (2, zI a2)]) C rfl (by decide) rfl dX12_leave_27 rfl ?_
      refine r_aload_n (pc' := 29) (f4 := 0) (i := 0) C 1 rfl rfl dX12_leave_28 rfl ?_
      refine r_iload_n (pc' := 30) (f4 := 1) (i := 1) C 2 rfl rfl dX12_leave_29 rfl ?_
      refine r_iload_n (pc' := 31) (f4 := 2) (i := 2) C 3 rfl rfl dX12_leave_30 rfl ?_
      obtain ⟨q2, hq2, hf⟩ := bind_in hf
      refine q_callVv (pc' := 34) C (t_m_goes hF hq2) rfl (K_193 hF) cl_12 wv_RX12_267 ⟨Nat.le_of_ble_eq_true rfl, Nat.le_of_ble_eq_true rfl⟩ rfl rfl (Nat.le_of_ble_eq_true rfl) dX12_leave_31 rfl ⟨Nat.le_of_ble_eq_true rfl, Nat.le_of_ble_eq_true rfl⟩ ?_
      refine r_iload_n (pc' := 35) (f4 := 3) (i := 3) C 0 rfl rfl dX12_leave_34 rfl ?_
      cases hf
      exact r_iret C dX12_leave_35

/- WassailEnemiesModel.row(III)I -/
def m_row (h : HH) (a1 : Int) (a2 : Int) (a3 : Int) : Option (Int × HH) :=
  if ww (m_isHater h a1) = 0 then (some (-1, h)) else (if ww (m_in a2 0 3) = 0 then (some (-1, h)) else (if ww (m_in a3 0 9) = 0 then (some (-2, h)) else (ck (ww a1) 6 <| if ww (h 194 (ww a1)) = 6 then (ck (ww ((4 * a1) + a2)) 24 <| ck (ww ((4 * a1) + a2)) 24 <| some (h 197 (ww ((4 * a1) + a2)), u2 h 197 (ww ((4 * a1) + a2)) a3)) else (some (-3, h)))))
abbrev rm_m_row : Room := { frames := 2, cells := 0, slots := 0, locals := 44 }
set_option maxHeartbeats 4000000 in
set_option maxRecDepth 100000 in
theorem t_m_row {S : SS} (hF : Fx S) {h : HH} {a1 : Int} {a2 : Int} {a3 : Int} {res : Int × HH} (hf : m_row h a1 a2 a3 = some res) : CM yX12_row cX12_row 5 (some Jvm.ClassFile.FieldType.int) 2 44 0 0 (fun bs => [zP bs 193, zI a1, zI a2, zI a3]) h S (fun _ => some (zI res.1)) res.2 S := by
  refine CM.intro (own := RX12) (by decide) rfl (fun _ => Nat.le_of_ble_eq_true rfl) ?_
  intro D dT bs p l e s m args below meth c C
  show V D dT bs 5 p l e rm_m_row s m args below meth c 0 0 _ h S 0 [(0, zP bs 193), (1, zI a1), (2, zI a2), (3, zI a3)] []
  unfold m_row at hf
  refine r_aload_n (pc' := 1) (f4 := 0) (i := 0) C 0 rfl rfl dX12_row_0 rfl ?_
  refine r_iload_n (pc' := 2) (f4 := 1) (i := 1) C 1 rfl rfl dX12_row_1 rfl ?_
  refine q_callV (pc' := 5) C (t_m_isHater hF) rfl (K_193 hF) cl_12 wv_RX12_253 ⟨Nat.le_of_ble_eq_true rfl, Nat.le_of_ble_eq_true rfl⟩ rfl rfl (Nat.le_of_ble_eq_true rfl) dX12_row_2 rfl ⟨Nat.le_of_ble_eq_true rfl, Nat.le_of_ble_eq_true rfl⟩ ?_
  refine r_if_eq (pc' := 8) (tgt := 18) C rfl hf dX12_row_5 (by decide) rfl (fun hf => ?_) (fun hf => ?_)
  · refine r_iconst (pc' := 19) C dX12_row_18 rfl ?_
    cases hf
    exact r_iret C dX12_row_19
  · refine r_aload_n (pc' := 9) (f4 := 0) (i := 0) C 0 rfl rfl dX12_row_8 rfl ?_
    refine r_iload_n (pc' := 10) (f4 := 2) (i := 2) C 2 rfl rfl dX12_row_9 rfl ?_
    refine r_iconst (pc' := 11) C dX12_row_10 rfl ?_
    refine r_iconst (pc' := 12) C dX12_row_11 rfl ?_
    refine q_callV (pc' := 15) C (t_m_in hF) rfl (K_193 hF) cl_12 wv_RX12_245 ⟨Nat.le_of_ble_eq_true rfl, Nat.le_of_ble_eq_true rfl⟩ rfl rfl (Nat.le_of_ble_eq_true rfl) dX12_row_12 rfl ⟨Nat.le_of_ble_eq_true rfl, Nat.le_of_ble_eq_true rfl⟩ ?_
    refine r_if_ne (pc' := 18) (tgt := 20) C rfl hf dX12_row_15 (by decide) rfl (fun hf => ?_) (fun hf => ?_)
    · refine r_iconst (pc' := 19) C dX12_row_18 rfl ?_
      cases hf
      exact r_iret C dX12_row_19
    · refine r_aload_n (pc' := 21) (f4 := 0) (i := 0) C 0 rfl rfl dX12_row_20 rfl ?_
      refine r_iload_n (pc' := 22) (f4 := 3) (i := 3) C 3 rfl rfl dX12_row_21 rfl ?_
      refine r_iconst (pc' := 23) C dX12_row_22 rfl ?_
      refine r_bipush (pc' := 25) C rfl dX12_row_23 rfl ?_
      refine q_callV (pc' := 28) C (t_m_in hF) rfl (K_193 hF) cl_12 wv_RX12_245 ⟨Nat.le_of_ble_eq_true rfl, Nat.le_of_ble_eq_true rfl⟩ rfl rfl (Nat.le_of_ble_eq_true rfl) dX12_row_25 rfl ⟨Nat.le_of_ble_eq_true rfl, Nat.le_of_ble_eq_true rfl⟩ ?_
      refine r_if_ne (pc' := 31) (tgt := 34) C rfl hf dX12_row_28 (by decide) rfl (fun hf => ?_) (fun hf => ?_)
      · refine r_bipush (pc' := 33) C rfl dX12_row_31 rfl ?_
        cases hf
        exact r_iret C dX12_row_33
      · refine r_aload_n (pc' := 35) (f4 := 0) (i := 0) C 0 rfl rfl dX12_row_34 rfl ?_
        refine q_getP (pc' := 38) (j := 3) C (K_193 hF) fb_12_3 (by decide) wd_1174 (Or.inl rfl) (F_193_3 hF) (by decide) dX12_row_35 rfl ?_
        refine r_iload_n (pc' := 39) (f4 := 1) (i := 1) C 1 rfl rfl dX12_row_38 rfl ?_
        obtain ⟨hi, hf⟩ := ck_in hf
        refine r_iald (pc' := 40) C (K_194 hF) rfl hi dX12_row_39 rfl ?_
        refine r_bipush (pc' := 42) C rfl dX12_row_40 rfl ?_
        refine r_icmp_eq (pc' := 45) (tgt := 48) C rfl ww_n6 hf dX12_row_42 (by decide) rfl (fun hf => ?_) (fun hf => ?_)
        · refine r_aload_n (pc' := 49) (f4 := 0) (i := 0) C 0 rfl rfl dX12_row_48 rfl ?_
          refine q_getP (pc' := 52) (j := 6) C (K_193 hF) fb_12_6 (by decide) wd_1177 (Or.inl rfl) (F_193_6 hF) (by decide) dX12_row_49 rfl ?_
          refine r_iconst (pc' := 53) C dX12_row_52 rfl ?_
          refine r_iload_n (pc' := 54) (f4 := 1) (i := 1) C 1 rfl rfl dX12_row_53 rfl ?_
          refine r_imul (pc' := 55) C dX12_row_54 rfl ?_
          refine r_iload_n (pc' := 56) (f4 := 2) (i := 2) C 2 rfl rfl dX12_row_55 rfl ?_
          refine r_iadd (pc' := 57) C dX12_row_56 rfl ?_
          obtain ⟨hi, hf⟩ := ck_in hf
          refine r_iald (pc' := 58) C (K_197 hF) rfl hi dX12_row_57 rfl ?_
          refine r_istore (pc' := 60) (i := 4) (L' := [(4, zI (h 197 (ww ((4 * a1) + a2)))), (0, zP bs 193), (1, zI a1), (2, zI a2), (3, zI a3)]) C (by decide) rfl dX12_row_58 rfl ?_
          refine r_aload_n (pc' := 61) (f4 := 0) (i := 0) C 1 rfl rfl dX12_row_60 rfl ?_
          refine q_getP (pc' := 64) (j := 6) C (K_193 hF) fb_12_6 (by decide) wd_1177 (Or.inl rfl) (F_193_6 hF) (by decide) dX12_row_61 rfl ?_
          refine r_iconst (pc' := 65) C dX12_row_64 rfl ?_
          refine r_iload_n (pc' := 66) (f4 := 1) (i := 1) C 2 rfl rfl dX12_row_65 rfl ?_
          refine r_imul (pc' := 67) C dX12_row_66 rfl ?_
          refine r_iload_n (pc' := 68) (f4 := 2) (i := 2) C 3 rfl rfl dX12_row_67 rfl ?_
          refine r_iadd (pc' := 69) C dX12_row_68 rfl ?_
          refine r_iload_n (pc' := 70) (f4 := 3) (i := 3) C 4 rfl rfl dX12_row_69 rfl ?_
          obtain ⟨hi, hf⟩ := ck_in hf
          refine r_iast (pc' := 71) C (K_197 hF) rfl hi dX12_row_70 rfl ?_
          refine r_iload (pc' := 73) (i := 4) C 0 rfl dX12_row_71 rfl ?_
          cases hf
          exact r_iret C dX12_row_73
        · refine r_bipush (pc' := 47) C rfl dX12_row_45 rfl ?_
          cases hf
          exact r_iret C dX12_row_47

/- WassailEnemiesModel.feed(I)I -/
def m_feed (h : HH) (a1 : Int) : Option (Int × HH) :=
  if ww (m_in a1 0 127) = 0 then (some (-2, h)) else (if ww (h 193 11) = 100 then (some (-4, h)) else (ck (ww (h 193 11)) 100 <| some ((u2 (u2 h 200 (ww (h 193 11)) a1) 193 11 (((u2 h 200 (ww (h 193 11)) a1) 193 11) + 1)) 193 11, u2 (u2 h 200 (ww (h 193 11)) a1) 193 11 (((u2 h 200 (ww (h 193 11)) a1) 193 11) + 1))))
abbrev rm_m_feed : Room := { frames := 1, cells := 0, slots := 0, locals := 23 }
set_option maxHeartbeats 4000000 in
set_option maxRecDepth 100000 in
theorem t_m_feed {S : SS} (hF : Fx S) {h : HH} {a1 : Int} {res : Int × HH} (hf : m_feed h a1 = some res) : CM yX12_feed cX12_feed 2 (some Jvm.ClassFile.FieldType.int) 1 23 0 0 (fun bs => [zP bs 193, zI a1]) h S (fun _ => some (zI res.1)) res.2 S := by
  refine CM.intro (own := RX12) (by decide) rfl (fun _ => Nat.le_of_ble_eq_true rfl) ?_
  intro D dT bs p l e s m args below meth c C
  show V D dT bs 2 p l e rm_m_feed s m args below meth c 0 0 _ h S 0 [(0, zP bs 193), (1, zI a1)] []
  unfold m_feed at hf
  refine r_aload_n (pc' := 1) (f4 := 0) (i := 0) C 0 rfl rfl dX12_feed_0 rfl ?_
  refine r_iload_n (pc' := 2) (f4 := 1) (i := 1) C 1 rfl rfl dX12_feed_1 rfl ?_
  refine r_iconst (pc' := 3) C dX12_feed_2 rfl ?_
  refine r_bipush (pc' := 5) C rfl dX12_feed_3 rfl ?_
  refine q_callV (pc' := 8) C (t_m_in hF) rfl (K_193 hF) cl_12 wv_RX12_245 ⟨Nat.le_of_ble_eq_true rfl, Nat.le_of_ble_eq_true rfl⟩ rfl rfl (Nat.le_of_ble_eq_true rfl) dX12_feed_5 rfl ⟨Nat.le_of_ble_eq_true rfl, Nat.le_of_ble_eq_true rfl⟩ ?_
  refine r_if_ne (pc' := 11) (tgt := 14) C rfl hf dX12_feed_8 (by decide) rfl (fun hf => ?_) (fun hf => ?_)
  · refine r_bipush (pc' := 13) C rfl dX12_feed_11 rfl ?_
    cases hf
    exact r_iret C dX12_feed_13
  · refine r_aload_n (pc' := 15) (f4 := 0) (i := 0) C 0 rfl rfl dX12_feed_14 rfl ?_
    refine q_getI (pc' := 18) (j := 11) C (K_193 hF) fb_12_11 wd_1182 (Or.inl rfl) dX12_feed_15 rfl ?_
    refine r_bipush (pc' := 20) C rfl dX12_feed_18 rfl ?_
    refine r_icmp_ne (pc' := 23) (tgt := 26) C rfl ww_n100 hf dX12_feed_20 (by decide) rfl (fun hf => ?_) (fun hf => ?_)
    · refine r_bipush (pc' := 25) C rfl dX12_feed_23 rfl ?_
      cases hf
      exact r_iret C dX12_feed_25
    · refine r_aload_n (pc' := 27) (f4 := 0) (i := 0) C 0 rfl rfl dX12_feed_26 rfl ?_
      refine q_getP (pc' := 30) (j := 14) C (K_193 hF) fb_12_14 (by decide) wd_1185 (Or.inl rfl) (F_193_14 hF) (by decide) dX12_feed_27 rfl ?_
      refine r_aload_n (pc' := 31) (f4 := 0) (i := 0) C 0 rfl rfl dX12_feed_30 rfl ?_
      refine q_getI (pc' := 34) (j := 11) C (K_193 hF) fb_12_11 wd_1182 (Or.inl rfl) dX12_feed_31 rfl ?_
      refine r_iload_n (pc' := 35) (f4 := 1) (i := 1) C 1 rfl rfl dX12_feed_34 rfl ?_
      obtain ⟨hi, hf⟩ := ck_in hf
      refine r_iast (pc' := 36) C (K_200 hF) rfl hi dX12_feed_35 rfl ?_
      refine r_aload_n (pc' := 37) (f4 := 0) (i := 0) C 0 rfl rfl dX12_feed_36 rfl ?_
      refine r_dup (pc' := 38) C rfl dX12_feed_37 rfl ?_
      refine q_getI (pc' := 41) (j := 11) C (K_193 hF) fb_12_11 wd_1182 (Or.inl rfl) dX12_feed_38 rfl ?_
      refine r_iconst (pc' := 42) C dX12_feed_41 rfl ?_
      refine r_iadd (pc' := 43) C dX12_feed_42 rfl ?_
      refine q_putI (pc' := 46) (j := 11) C (K_193 hF) fb_12_11 fp_12_11 wd_1182 (Or.inl rfl) (Or.inl rfl) rfl rfl dX12_feed_43 rfl ?_
      refine r_aload_n (pc' := 47) (f4 := 0) (i := 0) C 0 rfl rfl dX12_feed_46 rfl ?_
      refine q_getI (pc' := 50) (j := 11) C (K_193 hF) fb_12_11 wd_1182 (Or.inl rfl) dX12_feed_47 rfl ?_
      cases hf
      exact r_iret C dX12_feed_50

/- WassailEnemiesModel.next()I -/
def m_next (h : HH) : Option Int :=
  if ww (h 193 12) < ww (h 193 11) then (ck (ww (h 193 12)) 100 <| some (h 200 (ww (h 193 12)))) else (some (-1))
abbrev rm_m_next : Room := { frames := 0, cells := 0, slots := 0, locals := 0 }
set_option maxHeartbeats 4000000 in
set_option maxRecDepth 100000 in
theorem t_m_next {S : SS} (hF : Fx S) {h : HH} {res : Int} (hf : m_next h = some res) : CM yX12_next cX12_next 1 (some Jvm.ClassFile.FieldType.int) 0 0 0 0 (fun bs => [zP bs 193]) h S (fun _ => some (zI res)) h S := by
  refine CM.intro (own := RX12) (by decide) rfl (fun _ => Nat.le_of_ble_eq_true rfl) ?_
  intro D dT bs p l e s m args below meth c C
  show V D dT bs 1 p l e rm_m_next s m args below meth c 0 0 _ h S 0 [(0, zP bs 193)] []
  unfold m_next at hf
  refine r_aload_n (pc' := 1) (f4 := 0) (i := 0) C 0 rfl rfl dX12_next_0 rfl ?_
  refine q_getI (pc' := 4) (j := 12) C (K_193 hF) fb_12_12 wd_1183 (Or.inl rfl) dX12_next_1 rfl ?_
  refine r_aload_n (pc' := 5) (f4 := 0) (i := 0) C 0 rfl rfl dX12_next_4 rfl ?_
  refine q_getI (pc' := 8) (j := 11) C (K_193 hF) fb_12_11 wd_1182 (Or.inl rfl) dX12_next_5 rfl ?_
  refine r_icmp_ge (pc' := 11) (tgt := 23) C rfl rfl hf dX12_next_8 (by decide) rfl (fun hf => ?_) (fun hf => ?_)
  · refine r_aload_n (pc' := 12) (f4 := 0) (i := 0) C 0 rfl rfl dX12_next_11 rfl ?_
    refine q_getP (pc' := 15) (j := 14) C (K_193 hF) fb_12_14 (by decide) wd_1185 (Or.inl rfl) (F_193_14 hF) (by decide) dX12_next_12 rfl ?_
    refine r_aload_n (pc' := 16) (f4 := 0) (i := 0) C 0 rfl rfl dX12_next_15 rfl ?_
    refine q_getI (pc' := 19) (j := 12) C (K_193 hF) fb_12_12 wd_1183 (Or.inl rfl) dX12_next_16 rfl ?_
    obtain ⟨hi, hf⟩ := ck_in hf
    refine r_iald (pc' := 20) C (K_200 hF) rfl hi dX12_next_19 rfl ?_
    refine r_goto (tgt := 24) C dX12_next_20 (by decide) ?_
    cases hf
    exact r_iret C dX12_next_24
  · refine r_iconst (pc' := 24) C dX12_next_23 rfl ?_
    cases hf
    exact r_iret C dX12_next_24

/- WassailEnemiesModel.takes(I)Z -/
def m_takes (h : HH) (a1 : Int) : Option (Int × HH) :=
  (m_next h).bind fun q1 => if ww q1 = ww a1 then (some (1, u2 h 193 12 ((h 193 12) + 1))) else (some (0, h))
abbrev rm_m_takes : Room := { frames := 1, cells := 0, slots := 0, locals := 20 }
set_option maxHeartbeats 4000000 in
set_option maxRecDepth 100000 in
theorem t_m_takes {S : SS} (hF : Fx S) {h : HH} {a1 : Int} {res : Int × HH} (hf : m_takes h a1 = some res) : CM yX12_takes cX12_takes 2 (some Jvm.ClassFile.FieldType.boolean) 1 20 0 0 (fun bs => [zP bs 193, zI a1]) h S (fun _ => some (zI res.1)) res.2 S := by
  refine CM.intro (own := RX12) (by decide) rfl (fun _ => Nat.le_of_ble_eq_true rfl) ?_
  intro D dT bs p l e s m args below meth c C
  show V D dT bs 2 p l e rm_m_takes s m args below meth c 0 0 _ h S 0 [(0, zP bs 193), (1, zI a1)] []
  unfold m_takes at hf
  refine r_aload_n (pc' := 1) (f4 := 0) (i := 0) C 0 rfl rfl dX12_takes_0 rfl ?_
  obtain ⟨q1, hq1, hf⟩ := bind_in hf
  refine q_callV (pc' := 4) C (t_m_next hF hq1) rfl (K_193 hF) cl_12 wv_RX12_271 ⟨Nat.le_of_ble_eq_true rfl, Nat.le_of_ble_eq_true rfl⟩ rfl rfl (Nat.le_of_ble_eq_true rfl) dX12_takes_1 rfl ⟨Nat.le_of_ble_eq_true rfl, Nat.le_of_ble_eq_true rfl⟩ ?_
  refine r_iload_n (pc' := 5) (f4 := 1) (i := 1) C 1 rfl rfl dX12_takes_4 rfl ?_
  refine r_icmp_eq (pc' := 8) (tgt := 10) C rfl rfl hf dX12_takes_5 (by decide) rfl (fun hf => ?_) (fun hf => ?_)
  · refine r_aload_n (pc' := 11) (f4 := 0) (i := 0) C 0 rfl rfl dX12_takes_10 rfl ?_
    refine r_dup (pc' := 12) C rfl dX12_takes_11 rfl ?_
    refine q_getI (pc' := 15) (j := 12) C (K_193 hF) fb_12_12 wd_1183 (Or.inl rfl) dX12_takes_12 rfl ?_
    refine r_iconst (pc' := 16) C dX12_takes_15 rfl ?_
    refine r_iadd (pc' := 17) C dX12_takes_16 rfl ?_
    refine q_putI (pc' := 20) (j := 12) C (K_193 hF) fb_12_12 fp_12_12 wd_1183 (Or.inl rfl) (Or.inl rfl) rfl rfl dX12_takes_17 rfl ?_
    refine r_iconst (pc' := 21) C dX12_takes_20 rfl ?_
    cases hf
    exact r_zret C (Or.inr rfl) dX12_takes_21
  · refine r_iconst (pc' := 9) C dX12_takes_8 rfl ?_
    cases hf
    exact r_zret C (Or.inl rfl) dX12_takes_9

/- WassailEnemiesModel.takesWord(II)Z -/
def m_takesWord_L2 (x1 : Int) (x2 : Int) : Nat → HH → Int → Option (Int × HH)
  | 0, _, _ => none
  | n2 + 1, h, x3 =>
    if ww x3 < ww x2 then (ck (ww (x1 + x3)) 15 <| (m_takes h (h 208 (ww (x1 + x3)))).bind fun q1 => if ww q1.1 = 0 then (some (0, q1.2)) else (m_takesWord_L2 x1 x2 n2 q1.2 (x3 + 1))) else ((m_takes h 32).bind fun q2 => ckb q2.1 <| some (q2.1, q2.2))
def m_takesWord (h : HH) (a1 : Int) (a2 : Int) : Option (Int × HH) :=
  m_takesWord_L2 a1 a2 FU h 0
abbrev rm_m_takesWord : Room := { frames := 2, cells := 0, slots := 0, locals := 41 }
set_option maxHeartbeats 4000000 in
set_option maxRecDepth 100000 in
theorem w_m_takesWord_L2 (hF : Fx S) (C : Cx D dT bs RX12 cX12_takesWord 4 (some Jvm.ClassFile.FieldType.boolean) p s m args meth c) (x1 : Int) (x2 : Int) {res : (Int × HH)} :
    ∀ (n : Nat) (h : HH) (x3 : Int), m_takesWord_L2 x1 x2 n h x3 = some res → V D dT bs 4 p l e rm_m_takesWord s m args below meth c 0 0 (MQ below (QQ D dT bs (some (zI res.1)) res.2 S) args s 0 0 (AA bs)) h S 2 [(0, zP bs 193), (1, zI x1), (2, zI x2), (3, zI x3)] [] := by
  intro n
  induction n with
  | zero => intro h x3 hf; simp [m_takesWord_L2] at hf
  | succ n2 ih2 =>
    intro h x3 hf
    rw [m_takesWord_L2] at hf
    refine r_iload_n (pc' := 3) (f4 := 3) (i := 3) C 3 rfl rfl dX12_takesWord_2 rfl ?_
    refine r_iload_n (pc' := 4) (f4 := 2) (i := 2) C 2 rfl rfl dX12_takesWord_3 rfl ?_
    refine r_icmp_ge (pc' := 7) (tgt := 30) C rfl rfl hf dX12_takesWord_4 (by decide) rfl (fun hf => ?_) (fun hf => ?_)
    · refine r_aload_n (pc' := 8) (f4 := 0) (i := 0) C 0 rfl rfl dX12_takesWord_7 rfl ?_
      refine r_aload_n (pc' := 9) (f4 := 0) (i := 0) C 0 rfl rfl dX12_takesWord_8 rfl ?_
      refine q_getP (pc' := 12) (j := 25) C (K_193 hF) fb_12_25 (by decide) wd_1196 (Or.inl rfl) (F_193_25 hF) (by decide) dX12_takesWord_9 rfl ?_
      refine r_iload_n (pc' := 13) (f4 := 1) (i := 1) C 1 rfl rfl dX12_takesWord_12 rfl ?_
      refine r_iload_n (pc' := 14) (f4 := 3) (i := 3) C 3 rfl rfl dX12_takesWord_13 rfl ?_
      refine r_iadd (pc' := 15) C dX12_takesWord_14 rfl ?_
      obtain ⟨hi, hf⟩ := ck_in hf
      refine r_iald (pc' := 16) C (K_208 hF) rfl hi dX12_takesWord_15 rfl ?_
      obtain ⟨q1, hq1, hf⟩ := bind_in hf
      refine q_callV (pc' := 19) C (t_m_takes hF hq1) rfl (K_193 hF) cl_12 wv_RX12_275 ⟨Nat.le_of_ble_eq_true rfl, Nat.le_of_ble_eq_true rfl⟩ rfl rfl (Nat.le_of_ble_eq_true rfl) dX12_takesWord_16 rfl ⟨Nat.le_of_ble_eq_true rfl, Nat.le_of_ble_eq_true rfl⟩ ?_
      refine r_if_ne (pc' := 22) (tgt := 24) C rfl hf dX12_takesWord_19 (by decide) rfl (fun hf => ?_) (fun hf => ?_)
      · refine r_iconst (pc' := 23) C dX12_takesWord_22 rfl ?_
        cases hf
        exact r_zret C (Or.inl rfl) dX12_takesWord_23
      · refine r_iinc (pc' := 27) (i := 3) (L' := [(3, zI (x3 + 1)), (0, zP bs 193), (1, zI x1), (2, zI x2)]) C 3 rfl (by decide) rfl dX12_takesWord_24 rfl ?_
        refine r_goto (tgt := 2) C dX12_takesWord_27 (by decide) ?_
        refine V.sub (L' := [(0, zP bs 193), (1, zI x1), (2, zI x2), (3, zI (x3 + 1))]) [1, 2, 3, 0] rfl ?_
        exact ih2 _ _ hf
    · refine r_aload_n (pc' := 31) (f4 := 0) (i := 0) C 0 rfl rfl dX12_takesWord_30 rfl ?_
      refine r_bipush (pc' := 33) C rfl dX12_takesWord_31 rfl ?_
      obtain ⟨q2, hq2, hf⟩ := bind_in hf
      refine q_callV (pc' := 36) C (t_m_takes hF hq2) rfl (K_193 hF) cl_12 wv_RX12_275 ⟨Nat.le_of_ble_eq_true rfl, Nat.le_of_ble_eq_true rfl⟩ rfl rfl (Nat.le_of_ble_eq_true rfl) dX12_takesWord_33 rfl ⟨Nat.le_of_ble_eq_true rfl, Nat.le_of_ble_eq_true rfl⟩ ?_
      obtain ⟨hz, hf⟩ := ckb_in hf
      cases hf
      exact r_zret C hz dX12_takesWord_36
set_option maxHeartbeats 4000000 in
set_option maxRecDepth 100000 in
theorem t_m_takesWord {S : SS} (hF : Fx S) {h : HH} {a1 : Int} {a2 : Int} {res : Int × HH} (hf : m_takesWord h a1 a2 = some res) : CM yX12_takesWord cX12_takesWord 4 (some Jvm.ClassFile.FieldType.boolean) 2 41 0 0 (fun bs => [zP bs 193, zI a1, zI a2]) h S (fun _ => some (zI res.1)) res.2 S := by
  refine CM.intro (own := RX12) (by decide) rfl (fun _ => Nat.le_of_ble_eq_true rfl) ?_
  intro D dT bs p l e s m args below meth c C
  show V D dT bs 4 p l e rm_m_takesWord s m args below meth c 0 0 _ h S 0 [(0, zP bs 193), (1, zI a1), (2, zI a2)] []
  unfold m_takesWord at hf
  refine r_iconst (pc' := 1) C dX12_takesWord_0 rfl ?_
  refine r_istore_n (pc' := 2) (f4 := 3) (i := 3) (L' := [(3, zI 0), (0, zP bs 193), (1, zI a1), (2, zI a2)]) C rfl (by decide) rfl dX12_takesWord_1 rfl ?_
  refine V.sub (L' := [(0, zP bs 193), (1, zI a1), (2, zI a2), (3, zI 0)]) [1, 2, 3, 0] rfl ?_
  refine w_m_takesWord_L2 hF C _ _ _ _ _ hf

/- WassailEnemiesModel.isDigit()Z -/
def m_isDigit (h : HH) : Option Int :=
  (m_next h).bind fun q1 => some (m_in q1 48 57)
abbrev rm_m_isDigit : Room := { frames := 1, cells := 0, slots := 0, locals := 23 }
set_option maxHeartbeats 4000000 in
set_option maxRecDepth 100000 in
theorem t_m_isDigit {S : SS} (hF : Fx S) {h : HH} {res : Int} (hf : m_isDigit h = some res) : CM yX12_isDigit cX12_isDigit 1 (some Jvm.ClassFile.FieldType.boolean) 1 23 0 0 (fun bs => [zP bs 193]) h S (fun _ => some (zI res)) h S := by
  refine CM.intro (own := RX12) (by decide) rfl (fun _ => Nat.le_of_ble_eq_true rfl) ?_
  intro D dT bs p l e s m args below meth c C
  show V D dT bs 1 p l e rm_m_isDigit s m args below meth c 0 0 _ h S 0 [(0, zP bs 193)] []
  unfold m_isDigit at hf
  refine r_aload_n (pc' := 1) (f4 := 0) (i := 0) C 0 rfl rfl dX12_isDigit_0 rfl ?_
  refine r_aload_n (pc' := 2) (f4 := 0) (i := 0) C 0 rfl rfl dX12_isDigit_1 rfl ?_
  obtain ⟨q1, hq1, hf⟩ := bind_in hf
  refine q_callV (pc' := 5) C (t_m_next hF hq1) rfl (K_193 hF) cl_12 wv_RX12_271 ⟨Nat.le_of_ble_eq_true rfl, Nat.le_of_ble_eq_true rfl⟩ rfl rfl (Nat.le_of_ble_eq_true rfl) dX12_isDigit_2 rfl ⟨Nat.le_of_ble_eq_true rfl, Nat.le_of_ble_eq_true rfl⟩ ?_
  refine r_bipush (pc' := 7) C rfl dX12_isDigit_5 rfl ?_
  refine r_bipush (pc' := 9) C rfl dX12_isDigit_7 rfl ?_
  refine q_callV (pc' := 12) C (t_m_in hF) rfl (K_193 hF) cl_12 wv_RX12_245 ⟨Nat.le_of_ble_eq_true rfl, Nat.le_of_ble_eq_true rfl⟩ rfl rfl (Nat.le_of_ble_eq_true rfl) dX12_isDigit_9 rfl ⟨Nat.le_of_ble_eq_true rfl, Nat.le_of_ble_eq_true rfl⟩ ?_
  cases hf
  exact r_zret C (b_m_in) dX12_isDigit_12

/- WassailEnemiesModel.takesNumber()Z -/
def m_takesNumber_L16 : Nat → HH → Int → Option (Int × HH)
  | 0, _, _ => none
  | n16 + 1, h, x1 =>
    if ww x1 < 2 then ((m_isDigit h).bind fun q2 => if ww q2 = 0 then (some (1, h)) else ((m_next h).bind fun q3 => m_takesNumber_L16 n16 (u2 (u2 h 193 13 (((10 * (h 193 13)) + q3) - 48)) 193 12 (((u2 h 193 13 (((10 * (h 193 13)) + q3) - 48)) 193 12) + 1)) (x1 + 1))) else (some (1, h))
def m_takesNumber (h : HH) : Option (Int × HH) :=
  (m_isDigit h).bind fun q1 => if ww q1 = 0 then (some (0, h)) else (m_takesNumber_L16 FU (u2 h 193 13 0) 0)
abbrev rm_m_takesNumber : Room := { frames := 2, cells := 0, slots := 0, locals := 43 }
set_option maxHeartbeats 4000000 in
set_option maxRecDepth 100000 in
theorem w_m_takesNumber_L16 (hF : Fx S) (C : Cx D dT bs RX12 cX12_takesNumber 2 (some Jvm.ClassFile.FieldType.boolean) p s m args meth c) {res : (Int × HH)} :
    ∀ (n : Nat) (h : HH) (x1 : Int), m_takesNumber_L16 n h x1 = some res → V D dT bs 2 p l e rm_m_takesNumber s m args below meth c 0 0 (MQ below (QQ D dT bs (some (zI res.1)) res.2 S) args s 0 0 (AA bs)) h S 16 [(0, zP bs 193), (1, zI x1)] [] := by
  intro n
  induction n with
  | zero => intro h x1 hf; simp [m_takesNumber_L16] at hf
  | succ n16 ih16 =>
    intro h x1 hf
    rw [m_takesNumber_L16] at hf
    refine r_iload_n (pc' := 17) (f4 := 1) (i := 1) C 1 rfl rfl dX12_takesNumber_16 rfl ?_
    refine r_iconst (pc' := 18) C dX12_takesNumber_17 rfl ?_
    refine r_icmp_ge (pc' := 21) (tgt := 63) C rfl ww_n2 hf dX12_takesNumber_18 (by decide) rfl (fun hf => ?_) (fun hf => ?_)
    · refine r_aload_n (pc' := 22) (f4 := 0) (i := 0) C 0 rfl rfl dX12_takesNumber_21 rfl ?_
      obtain ⟨q2, hq2, hf⟩ := bind_in hf
      refine q_callV (pc' := 25) C (t_m_isDigit hF hq2) rfl (K_193 hF) cl_12 wv_RX12_278 ⟨Nat.le_of_ble_eq_true rfl, Nat.le_of_ble_eq_true rfl⟩ rfl rfl (Nat.le_of_ble_eq_true rfl) dX12_takesNumber_22 rfl ⟨Nat.le_of_ble_eq_true rfl, Nat.le_of_ble_eq_true rfl⟩ ?_
      refine r_if_eq (pc' := 28) (tgt := 63) C rfl hf dX12_takesNumber_25 (by decide) rfl (fun hf => ?_) (fun hf => ?_)
      · refine r_iconst (pc' := 64) C dX12_takesNumber_63 rfl ?_
        cases hf
        exact r_zret C (Or.inr rfl) dX12_takesNumber_64
      · refine r_aload_n (pc' := 29) (f4 := 0) (i := 0) C 0 rfl rfl dX12_takesNumber_28 rfl ?_
        refine r_bipush (pc' := 31) C rfl dX12_takesNumber_29 rfl ?_
        refine r_aload_n (pc' := 32) (f4 := 0) (i := 0) C 0 rfl rfl dX12_takesNumber_31 rfl ?_
        refine q_getI (pc' := 35) (j := 13) C (K_193 hF) fb_12_13 wd_1184 (Or.inl rfl) dX12_takesNumber_32 rfl ?_
        refine r_imul (pc' := 36) C dX12_takesNumber_35 rfl ?_
        refine r_aload_n (pc' := 37) (f4 := 0) (i := 0) C 0 rfl rfl dX12_takesNumber_36 rfl ?_
        obtain ⟨q3, hq3, hf⟩ := bind_in hf
        refine q_callV (pc' := 40) C (t_m_next hF hq3) rfl (K_193 hF) cl_12 wv_RX12_271 ⟨Nat.le_of_ble_eq_true rfl, Nat.le_of_ble_eq_true rfl⟩ rfl rfl (Nat.le_of_ble_eq_true rfl) dX12_takesNumber_37 rfl ⟨Nat.le_of_ble_eq_true rfl, Nat.le_of_ble_eq_true rfl⟩ ?_
        refine r_iadd (pc' := 41) C dX12_takesNumber_40 rfl ?_
        refine r_bipush (pc' := 43) C rfl dX12_takesNumber_41 rfl ?_
        refine r_isub (pc' := 44) C dX12_takesNumber_43 rfl ?_
        refine q_putI (pc' := 47) (j := 13) C (K_193 hF) fb_12_13 fp_12_13 wd_1184 (Or.inl rfl) (Or.inl rfl) rfl rfl dX12_takesNumber_44 rfl ?_
        refine r_aload_n (pc' := 48) (f4 := 0) (i := 0) C 0 rfl rfl dX12_takesNumber_47 rfl ?_
        refine r_dup (pc' := 49) C rfl dX12_takesNumber_48 rfl ?_
        refine q_getI (pc' := 52) (j := 12) C (K_193 hF) fb_12_12 wd_1183 (Or.inl rfl) dX12_takesNumber_49 rfl ?_
        refine r_iconst (pc' := 53) C dX12_takesNumber_52 rfl ?_
        refine r_iadd (pc' := 54) C dX12_takesNumber_53 rfl ?_
        refine q_putI (pc' := 57) (j := 12) C (K_193 hF) fb_12_12 fp_12_12 wd_1183 (Or.inl rfl) (Or.inl rfl) rfl rfl dX12_takesNumber_54 rfl ?_
        refine r_iinc (pc' := 60) (i := 1) (L' := [(1, zI (x1 + 1)), (0, zP bs 193)]) C 1 rfl (by decide) rfl dX12_takesNumber_57 rfl ?_
        refine r_goto (tgt := 16) C dX12_takesNumber_60 (by decide) ?_
        refine V.sub (L' := [(0, zP bs 193), (1, zI (x1 + 1))]) [1, 0] rfl ?_
        exact ih16 _ _ hf
    · refine r_iconst (pc' := 64) C dX12_takesNumber_63 rfl ?_
      cases hf
      exact r_zret C (Or.inr rfl) dX12_takesNumber_64
set_option maxHeartbeats 4000000 in
set_option maxRecDepth 100000 in
theorem t_m_takesNumber {S : SS} (hF : Fx S) {h : HH} {res : Int × HH} (hf : m_takesNumber h = some res) : CM yX12_takesNumber cX12_takesNumber 2 (some Jvm.ClassFile.FieldType.boolean) 2 43 0 0 (fun bs => [zP bs 193]) h S (fun _ => some (zI res.1)) res.2 S := by
  refine CM.intro (own := RX12) (by decide) rfl (fun _ => Nat.le_of_ble_eq_true rfl) ?_
  intro D dT bs p l e s m args below meth c C
  show V D dT bs 2 p l e rm_m_takesNumber s m args below meth c 0 0 _ h S 0 [(0, zP bs 193)] []
  unfold m_takesNumber at hf
  refine r_aload_n (pc' := 1) (f4 := 0) (i := 0) C 0 rfl rfl dX12_takesNumber_0 rfl ?_
  obtain ⟨q1, hq1, hf⟩ := bind_in hf
  refine q_callV (pc' := 4) C (t_m_isDigit hF hq1) rfl (K_193 hF) cl_12 wv_RX12_278 ⟨Nat.le_of_ble_eq_true rfl, Nat.le_of_ble_eq_true rfl⟩ rfl rfl (Nat.le_of_ble_eq_true rfl) dX12_takesNumber_1 rfl ⟨Nat.le_of_ble_eq_true rfl, Nat.le_of_ble_eq_true rfl⟩ ?_
  refine r_if_ne (pc' := 7) (tgt := 9) C rfl hf dX12_takesNumber_4 (by decide) rfl (fun hf => ?_) (fun hf => ?_)
  · refine r_iconst (pc' := 8) C dX12_takesNumber_7 rfl ?_
    cases hf
    exact r_zret C (Or.inl rfl) dX12_takesNumber_8
  · refine r_aload_n (pc' := 10) (f4 := 0) (i := 0) C 0 rfl rfl dX12_takesNumber_9 rfl ?_
    refine r_iconst (pc' := 11) C dX12_takesNumber_10 rfl ?_
    refine q_putI (pc' := 14) (j := 13) C (K_193 hF) fb_12_13 fp_12_13 wd_1184 (Or.inl rfl) (Or.inl rfl) rfl rfl dX12_takesNumber_11 rfl ?_
    refine r_iconst (pc' := 15) C dX12_takesNumber_14 rfl ?_
    refine r_istore_n (pc' := 16) (f4 := 1) (i := 1) (L' := [(1, zI 0), (0, zP bs 193)]) C rfl (by decide) rfl dX12_takesNumber_15 rfl ?_
    refine V.sub (L' := [(0, zP bs 193), (1, zI 0)]) [1, 0] rfl ?_
    refine w_m_takesNumber_L16 hF C _ _ _ hf

/- WassailEnemiesModel.emits(I)V -/
def m_emits (h : HH) (a1 : Int) : Option HH :=
  ck (ww (h 193 22)) 600 <| some (u2 (u2 h 206 (ww (h 193 22)) a1) 193 22 (((u2 h 206 (ww (h 193 22)) a1) 193 22) + 1))
abbrev rm_m_emits : Room := { frames := 0, cells := 0, slots := 0, locals := 0 }
set_option maxHeartbeats 4000000 in
set_option maxRecDepth 100000 in
theorem t_m_emits {S : SS} (hF : Fx S) {h : HH} {a1 : Int} {res : HH} (hf : m_emits h a1 = some res) : CM yX12_emits cX12_emits 2 (Option.none : Option Jvm.ClassFile.FieldType) 0 0 0 0 (fun bs => [zP bs 193, zI a1]) h S (fun _ => none) res S := by
  refine CM.intro (own := RX12) (by decide) rfl (fun _ => Nat.le_of_ble_eq_true rfl) ?_
  intro D dT bs p l e s m args below meth c C
  show V D dT bs 2 p l e rm_m_emits s m args below meth c 0 0 _ h S 0 [(0, zP bs 193), (1, zI a1)] []
  unfold m_emits at hf
  refine r_aload_n (pc' := 1) (f4 := 0) (i := 0) C 0 rfl rfl dX12_emits_0 rfl ?_
  refine q_getP (pc' := 4) (j := 20) C (K_193 hF) fb_12_20 (by decide) wd_1191 (Or.inl rfl) (F_193_20 hF) (by decide) dX12_emits_1 rfl ?_
  refine r_aload_n (pc' := 5) (f4 := 0) (i := 0) C 0 rfl rfl dX12_emits_4 rfl ?_
  refine q_getI (pc' := 8) (j := 22) C (K_193 hF) fb_12_22 wd_1193 (Or.inl rfl) dX12_emits_5 rfl ?_
  refine r_iload_n (pc' := 9) (f4 := 1) (i := 1) C 1 rfl rfl dX12_emits_8 rfl ?_
  obtain ⟨hi, hf⟩ := ck_in hf
  refine r_iast (pc' := 10) C (K_206 hF) rfl hi dX12_emits_9 rfl ?_
  refine r_aload_n (pc' := 11) (f4 := 0) (i := 0) C 0 rfl rfl dX12_emits_10 rfl ?_
  refine r_dup (pc' := 12) C rfl dX12_emits_11 rfl ?_
  refine q_getI (pc' := 15) (j := 22) C (K_193 hF) fb_12_22 wd_1193 (Or.inl rfl) dX12_emits_12 rfl ?_
  refine r_iconst (pc' := 16) C dX12_emits_15 rfl ?_
  refine r_iadd (pc' := 17) C dX12_emits_16 rfl ?_
  refine q_putI (pc' := 20) (j := 22) C (K_193 hF) fb_12_22 fp_12_22 wd_1193 (Or.inl rfl) (Or.inl rfl) rfl rfl dX12_emits_17 rfl ?_
  cases hf
  exact r_vret C dX12_emits_20

/- WassailEnemiesModel.whole()V -/
def m_whole_L0 : Nat → HH → Option HH
  | 0, _ => none
  | n0 + 1, h =>
    if 0 < ww (h 193 23) then (ck (ww ((h 193 23) - 1)) 101 <| if ww (h 207 (ww ((h 193 23) - 1))) = 33 then ((m_emits h (-33)).bind fun q1 => m_whole_L0 n0 (u2 (u2 q1 193 23 ((q1 193 23) - 1)) 193 24 (((u2 q1 193 23 ((q1 193 23) - 1)) 193 24) - 1))) else (some h)) else (some h)
def m_whole (h : HH) : Option HH :=
  m_whole_L0 FU h
abbrev rm_m_whole : Room := { frames := 1, cells := 0, slots := 0, locals := 21 }
set_option maxHeartbeats 4000000 in
set_option maxRecDepth 100000 in
theorem w_m_whole_L0 (hF : Fx S) (C : Cx D dT bs RX12 cX12_whole 1 (Option.none : Option Jvm.ClassFile.FieldType) p s m args meth c) {res : HH} :
    ∀ (n : Nat) (h : HH), m_whole_L0 n h = some res → V D dT bs 1 p l e rm_m_whole s m args below meth c 0 0 (MQ below (QQ D dT bs none res S) args s 0 0 (AA bs)) h S 0 [(0, zP bs 193)] [] := by
  intro n
  induction n with
  | zero => intro h hf; simp [m_whole_L0] at hf
  | succ n0 ih0 =>
    intro h hf
    rw [m_whole_L0] at hf
    refine r_aload_n (pc' := 1) (f4 := 0) (i := 0) C 0 rfl rfl dX12_whole_0 rfl ?_
    refine q_getI (pc' := 4) (j := 23) C (K_193 hF) fb_12_23 wd_1194 (Or.inl rfl) dX12_whole_1 rfl ?_
    refine r_if_le (pc' := 7) (tgt := 52) C rfl hf dX12_whole_4 (by decide) rfl (fun hf => ?_) (fun hf => ?_)
    · refine r_aload_n (pc' := 8) (f4 := 0) (i := 0) C 0 rfl rfl dX12_whole_7 rfl ?_
      refine q_getP (pc' := 11) (j := 21) C (K_193 hF) fb_12_21 (by decide) wd_1192 (Or.inl rfl) (F_193_21 hF) (by decide) dX12_whole_8 rfl ?_
      refine r_aload_n (pc' := 12) (f4 := 0) (i := 0) C 0 rfl rfl dX12_whole_11 rfl ?_
      refine q_getI (pc' := 15) (j := 23) C (K_193 hF) fb_12_23 wd_1194 (Or.inl rfl) dX12_whole_12 rfl ?_
      refine r_iconst (pc' := 16) C dX12_whole_15 rfl ?_
      refine r_isub (pc' := 17) C dX12_whole_16 rfl ?_
      obtain ⟨hi, hf⟩ := ck_in hf
      refine r_iald (pc' := 18) C (K_207 hF) rfl hi dX12_whole_17 rfl ?_
      refine r_bipush (pc' := 20) C rfl dX12_whole_18 rfl ?_
      refine r_icmp_ne (pc' := 23) (tgt := 52) C rfl ww_n33 hf dX12_whole_20 (by decide) rfl (fun hf => ?_) (fun hf => ?_)
      · refine r_aload_n (pc' := 24) (f4 := 0) (i := 0) C 0 rfl rfl dX12_whole_23 rfl ?_
        refine r_bipush (pc' := 26) C rfl dX12_whole_24 rfl ?_
        obtain ⟨q1, hq1, hf⟩ := bind_in hf
        refine q_callVv (pc' := 29) C (t_m_emits hF hq1) rfl (K_193 hF) cl_12 wv_RX12_282 ⟨Nat.le_of_ble_eq_true rfl, Nat.le_of_ble_eq_true rfl⟩ rfl rfl (Nat.le_of_ble_eq_true rfl) dX12_whole_26 rfl ⟨Nat.le_of_ble_eq_true rfl, Nat.le_of_ble_eq_true rfl⟩ ?_
        refine r_aload_n (pc' := 30) (f4 := 0) (i := 0) C 0 rfl rfl dX12_whole_29 rfl ?_
        refine r_dup (pc' := 31) C rfl dX12_whole_30 rfl ?_
        refine q_getI (pc' := 34) (j := 23) C (K_193 hF) fb_12_23 wd_1194 (Or.inl rfl) dX12_whole_31 rfl ?_
        refine r_iconst (pc' := 35) C dX12_whole_34 rfl ?_
        refine r_isub (pc' := 36) C dX12_whole_35 rfl ?_
        refine q_putI (pc' := 39) (j := 23) C (K_193 hF) fb_12_23 fp_12_23 wd_1194 (Or.inl rfl) (Or.inl rfl) rfl rfl dX12_whole_36 rfl ?_
        refine r_aload_n (pc' := 40) (f4 := 0) (i := 0) C 0 rfl rfl dX12_whole_39 rfl ?_
        refine r_dup (pc' := 41) C rfl dX12_whole_40 rfl ?_
        refine q_getI (pc' := 44) (j := 24) C (K_193 hF) fb_12_24 wd_1195 (Or.inl rfl) dX12_whole_41 rfl ?_
        refine r_iconst (pc' := 45) C dX12_whole_44 rfl ?_
        refine r_isub (pc' := 46) C dX12_whole_45 rfl ?_
        refine q_putI (pc' := 49) (j := 24) C (K_193 hF) fb_12_24 fp_12_24 wd_1195 (Or.inl rfl) (Or.inl rfl) rfl rfl dX12_whole_46 rfl ?_
        refine r_goto (tgt := 0) C dX12_whole_49 (by decide) ?_
        exact ih0 _ hf
      · cases hf
        exact r_vret C dX12_whole_52
    · cases hf
      exact r_vret C dX12_whole_52
set_option maxHeartbeats 4000000 in
set_option maxRecDepth 100000 in
theorem t_m_whole {S : SS} (hF : Fx S) {h : HH} {res : HH} (hf : m_whole h = some res) : CM yX12_whole cX12_whole 1 (Option.none : Option Jvm.ClassFile.FieldType) 1 21 0 0 (fun bs => [zP bs 193]) h S (fun _ => none) res S := by
  refine CM.intro (own := RX12) (by decide) rfl (fun _ => Nat.le_of_ble_eq_true rfl) ?_
  intro D dT bs p l e s m args below meth c C
  show V D dT bs 1 p l e rm_m_whole s m args below meth c 0 0 _ h S 0 [(0, zP bs 193)] []
  unfold m_whole at hf
  refine w_m_whole_L0 hF C _ _ hf

/- WassailEnemiesModel.settle(I)V -/
def m_settle_L0 (x1 : Int) : Nat → HH → Option HH
  | 0, _ => none
  | n0 + 1, h =>
    if 0 < ww (h 193 23) then (ck (ww ((h 193 23) - 1)) 101 <| if ww (h 207 (ww ((h 193 23) - 1))) = 38 then (ck (ww ((u2 h 193 23 ((h 193 23) - 1)) 193 23)) 101 <| (m_emits (u2 h 193 23 ((h 193 23) - 1)) (-((u2 h 193 23 ((h 193 23) - 1)) 207 (ww ((u2 h 193 23 ((h 193 23) - 1)) 193 23))))).bind fun q1 => m_settle_L0 x1 n0 q1) else (ck (ww ((h 193 23) - 1)) 101 <| if ww (h 207 (ww ((h 193 23) - 1))) = 124 then (if ww x1 = 38 then (some h) else (ck (ww ((u2 h 193 23 ((h 193 23) - 1)) 193 23)) 101 <| (m_emits (u2 h 193 23 ((h 193 23) - 1)) (-((u2 h 193 23 ((h 193 23) - 1)) 207 (ww ((u2 h 193 23 ((h 193 23) - 1)) 193 23))))).bind fun q2 => m_settle_L0 x1 n0 q2)) else (some h))) else (some h)
def m_settle (h : HH) (a1 : Int) : Option HH :=
  m_settle_L0 a1 FU h
abbrev rm_m_settle : Room := { frames := 1, cells := 0, slots := 0, locals := 21 }
set_option maxHeartbeats 4000000 in
set_option maxRecDepth 100000 in
theorem w_m_settle_L0 (hF : Fx S) (C : Cx D dT bs RX12 cX12_settle 2 (Option.none : Option Jvm.ClassFile.FieldType) p s m args meth c) (x1 : Int) {res : HH} :
    ∀ (n : Nat) (h : HH), m_settle_L0 x1 n h = some res → V D dT bs 2 p l e rm_m_settle s m args below meth c 0 0 (MQ below (QQ D dT bs none res S) args s 0 0 (AA bs)) h S 0 [(0, zP bs 193), (1, zI x1)] [] := by
  intro n
  induction n with
  | zero => intro h hf; simp [m_settle_L0] at hf
  | succ n0 ih0 =>
    intro h hf
    rw [m_settle_L0] at hf
    refine r_aload_n (pc' := 1) (f4 := 0) (i := 0) C 0 rfl rfl dX12_settle_0 rfl ?_
    refine q_getI (pc' := 4) (j := 23) C (K_193 hF) fb_12_23 wd_1194 (Or.inl rfl) dX12_settle_1 rfl ?_
    refine r_if_le (pc' := 7) (tgt := 72) C rfl hf dX12_settle_4 (by decide) rfl (fun hf => ?_) (fun hf => ?_)
    · refine r_aload_n (pc' := 8) (f4 := 0) (i := 0) C 0 rfl rfl dX12_settle_7 rfl ?_
      refine q_getP (pc' := 11) (j := 21) C (K_193 hF) fb_12_21 (by decide) wd_1192 (Or.inl rfl) (F_193_21 hF) (by decide) dX12_settle_8 rfl ?_
      refine r_aload_n (pc' := 12) (f4 := 0) (i := 0) C 0 rfl rfl dX12_settle_11 rfl ?_
      refine q_getI (pc' := 15) (j := 23) C (K_193 hF) fb_12_23 wd_1194 (Or.inl rfl) dX12_settle_12 rfl ?_
      refine r_iconst (pc' := 16) C dX12_settle_15 rfl ?_
      refine r_isub (pc' := 17) C dX12_settle_16 rfl ?_
      obtain ⟨hi, hf⟩ := ck_in hf
      refine r_iald (pc' := 18) C (K_207 hF) rfl hi dX12_settle_17 rfl ?_
      refine r_bipush (pc' := 20) C rfl dX12_settle_18 rfl ?_
      refine r_icmp_eq (pc' := 23) (tgt := 45) C rfl ww_n38 hf dX12_settle_20 (by decide) rfl (fun hf => ?_) (fun hf => ?_)
      · refine r_aload_n (pc' := 46) (f4 := 0) (i := 0) C 0 rfl rfl dX12_settle_45 rfl ?_
        refine r_dup (pc' := 47) C rfl dX12_settle_46 rfl ?_
        refine q_getI (pc' := 50) (j := 23) C (K_193 hF) fb_12_23 wd_1194 (Or.inl rfl) dX12_settle_47 rfl ?_
        refine r_iconst (pc' := 51) C dX12_settle_50 rfl ?_
        refine r_isub (pc' := 52) C dX12_settle_51 rfl ?_
        refine q_putI (pc' := 55) (j := 23) C (K_193 hF) fb_12_23 fp_12_23 wd_1194 (Or.inl rfl) (Or.inl rfl) rfl rfl dX12_settle_52 rfl ?_
        refine r_aload_n (pc' := 56) (f4 := 0) (i := 0) C 0 rfl rfl dX12_settle_55 rfl ?_
        refine r_aload_n (pc' := 57) (f4 := 0) (i := 0) C 0 rfl rfl dX12_settle_56 rfl ?_
        refine q_getP (pc' := 60) (j := 21) C (K_193 hF) fb_12_21 (by decide) wd_1192 (Or.inl rfl) (F_193_21 hF) (by decide) dX12_settle_57 rfl ?_
        refine r_aload_n (pc' := 61) (f4 := 0) (i := 0) C 0 rfl rfl dX12_settle_60 rfl ?_
        refine q_getI (pc' := 64) (j := 23) C (K_193 hF) fb_12_23 wd_1194 (Or.inl rfl) dX12_settle_61 rfl ?_
        obtain ⟨hi, hf⟩ := ck_in hf
        refine r_iald (pc' := 65) C (K_207 hF) rfl hi dX12_settle_64 rfl ?_
        refine r_ineg (pc' := 66) C dX12_settle_65 rfl ?_
        obtain ⟨q1, hq1, hf⟩ := bind_in hf
        refine q_callVv (pc' := 69) C (t_m_emits hF hq1) rfl (K_193 hF) cl_12 wv_RX12_282 ⟨Nat.le_of_ble_eq_true rfl, Nat.le_of_ble_eq_true rfl⟩ rfl rfl (Nat.le_of_ble_eq_true rfl) dX12_settle_66 rfl ⟨Nat.le_of_ble_eq_true rfl, Nat.le_of_ble_eq_true rfl⟩ ?_
        refine r_goto (tgt := 0) C dX12_settle_69 (by decide) ?_
        exact ih0 _ hf
      · refine r_aload_n (pc' := 24) (f4 := 0) (i := 0) C 0 rfl rfl dX12_settle_23 rfl ?_
        refine q_getP (pc' := 27) (j := 21) C (K_193 hF) fb_12_21 (by decide) wd_1192 (Or.inl rfl) (F_193_21 hF) (by decide) dX12_settle_24 rfl ?_
        refine r_aload_n (pc' := 28) (f4 := 0) (i := 0) C 0 rfl rfl dX12_settle_27 rfl ?_
        refine q_getI (pc' := 31) (j := 23) C (K_193 hF) fb_12_23 wd_1194 (Or.inl rfl) dX12_settle_28 rfl ?_
        refine r_iconst (pc' := 32) C dX12_settle_31 rfl ?_
        refine r_isub (pc' := 33) C dX12_settle_32 rfl ?_
        obtain ⟨hi, hf⟩ := ck_in hf
        refine r_iald (pc' := 34) C (K_207 hF) rfl hi dX12_settle_33 rfl ?_
        refine r_bipush (pc' := 36) C rfl dX12_settle_34 rfl ?_
        refine r_icmp_ne (pc' := 39) (tgt := 72) C rfl ww_n124 hf dX12_settle_36 (by decide) rfl (fun hf => ?_) (fun hf => ?_)
        · refine r_iload_n (pc' := 40) (f4 := 1) (i := 1) C 1 rfl rfl dX12_settle_39 rfl ?_
          refine r_bipush (pc' := 42) C rfl dX12_settle_40 rfl ?_
          refine r_icmp_eq (pc' := 45) (tgt := 72) C rfl ww_n38 hf dX12_settle_42 (by decide) rfl (fun hf => ?_) (fun hf => ?_)
          · cases hf
            exact r_vret C dX12_settle_72
          · refine r_aload_n (pc' := 46) (f4 := 0) (i := 0) C 0 rfl rfl dX12_settle_45 rfl ?_
            refine r_dup (pc' := 47) C rfl dX12_settle_46 rfl ?_
            refine q_getI (pc' := 50) (j := 23) C (K_193 hF) fb_12_23 wd_1194 (Or.inl rfl) dX12_settle_47 rfl ?_
            refine r_iconst (pc' := 51) C dX12_settle_50 rfl ?_
            refine r_isub (pc' := 52) C dX12_settle_51 rfl ?_
            refine q_putI (pc' := 55) (j := 23) C (K_193 hF) fb_12_23 fp_12_23 wd_1194 (Or.inl rfl) (Or.inl rfl) rfl rfl dX12_settle_52 rfl ?_
            refine r_aload_n (pc' := 56) (f4 := 0) (i := 0) C 0 rfl rfl dX12_settle_55 rfl ?_
            refine r_aload_n (pc' := 57) (f4 := 0) (i := 0) C 0 rfl rfl dX12_settle_56 rfl ?_
            refine q_getP (pc' := 60) (j := 21) C (K_193 hF) fb_12_21 (by decide) wd_1192 (Or.inl rfl) (F_193_21 hF) (by decide) dX12_settle_57 rfl ?_
            refine r_aload_n (pc' := 61) (f4 := 0) (i := 0) C 0 rfl rfl dX12_settle_60 rfl ?_
            refine q_getI (pc' := 64) (j := 23) C (K_193 hF) fb_12_23 wd_1194 (Or.inl rfl) dX12_settle_61 rfl ?_
            obtain ⟨hi, hf⟩ := ck_in hf
            refine r_iald (pc' := 65) C (K_207 hF) rfl hi dX12_settle_64 rfl ?_
            refine r_ineg (pc' := 66) C dX12_settle_65 rfl ?_
            obtain ⟨q2, hq2, hf⟩ := bind_in hf
            refine q_callVv (pc' := 69) C (t_m_emits hF hq2) rfl (K_193 hF) cl_12 wv_RX12_282 ⟨Nat.le_of_ble_eq_true rfl, Nat.le_of_ble_eq_true rfl⟩ rfl rfl (Nat.le_of_ble_eq_true rfl) dX12_settle_66 rfl ⟨Nat.le_of_ble_eq_true rfl, Nat.le_of_ble_eq_true rfl⟩ ?_
            refine r_goto (tgt := 0) C dX12_settle_69 (by decide) ?_
            exact ih0 _ hf
        · cases hf
          exact r_vret C dX12_settle_72
    · cases hf
      exact r_vret C dX12_settle_72
set_option maxHeartbeats 4000000 in
set_option maxRecDepth 100000 in
theorem t_m_settle {S : SS} (hF : Fx S) {h : HH} {a1 : Int} {res : HH} (hf : m_settle h a1 = some res) : CM yX12_settle cX12_settle 2 (Option.none : Option Jvm.ClassFile.FieldType) 1 21 0 0 (fun bs => [zP bs 193, zI a1]) h S (fun _ => none) res S := by
  refine CM.intro (own := RX12) (by decide) rfl (fun _ => Nat.le_of_ble_eq_true rfl) ?_
  intro D dT bs p l e s m args below meth c C
  show V D dT bs 2 p l e rm_m_settle s m args below meth c 0 0 _ h S 0 [(0, zP bs 193), (1, zI a1)] []
  unfold m_settle at hf
  refine w_m_settle_L0 hF C _ _ _ hf

/- WassailEnemiesModel.place(I)I -/
def m_place (a1 : Int) : Int :=
  if ww a1 = 104 then (4) else (if ww a1 = 105 then (-1) else (if ww a1 = 106 then (-1) else (if ww a1 = 107 then (2) else (if ww a1 = 108 then (-1) else (if ww a1 = 109 then (-1) else (if ww a1 = 110 then (-1) else (if ww a1 = 111 then (-1) else (if ww a1 = 112 then (0) else (if ww a1 = 113 then (-1) else (if ww a1 = 114 then (-1) else (if ww a1 = 115 then (-1) else (if ww a1 = 116 then (1) else (if ww a1 = 117 then (-1) else (if ww a1 = 118 then (3) else (if ww a1 = 119 then (-1) else (if ww a1 = 120 then (-1) else (if ww a1 = 121 then (5) else (-1))))))))))))))))))
abbrev rm_m_place : Room := { frames := 0, cells := 0, slots := 0, locals := 0 }
set_option maxHeartbeats 4000000 in
set_option maxRecDepth 100000 in
theorem t_m_place {S : SS} (hF : Fx S) {h : HH} {a1 : Int} : CM yX12_place cX12_place 2 (some Jvm.ClassFile.FieldType.int) 0 0 0 0 (fun bs => [zP bs 193, zI a1]) h S (fun _ => some (zI (m_place a1))) h S := by
  refine CM.intro (own := RX12) (by decide) rfl (fun _ => Nat.le_of_ble_eq_true rfl) ?_
  intro D dT bs p l e s m args below meth c C
  show V D dT bs 2 p l e rm_m_place s m args below meth c 0 0 _ h S 0 [(0, zP bs 193), (1, zI a1)] []
  obtain ⟨res, hf⟩ : ∃ r, m_place a1 = r := ⟨_, rfl⟩
  rw [hf]
  unfold m_place at hf
  refine r_iload_n (pc' := 1) (f4 := 1) (i := 1) C 1 rfl rfl dX12_place_0 rfl ?_
  by_cases cs0 : ww a1 = 104
  · rw [if_pos cs0] at hf
    refine r_tsIn (tgt := 96) C 104 cs0 dX12_place_1 (by decide) (by decide) rfl (by decide) ?_
    refine r_iconst (pc' := 97) C dX12_place_96 rfl ?_
    subst hf
    exact r_iret C dX12_place_97
  · rw [if_neg cs0] at hf
    by_cases cs1 : ww a1 = 105
    · rw [if_pos cs1] at hf
      refine r_tsIn (tgt := 100) C 105 cs1 dX12_place_1 (by decide) (by decide) rfl (by decide) ?_
      refine r_iconst (pc' := 101) C dX12_place_100 rfl ?_
      subst hf
      exact r_iret C dX12_place_101
    · rw [if_neg cs1] at hf
      by_cases cs2 : ww a1 = 106
      · rw [if_pos cs2] at hf
        refine r_tsIn (tgt := 100) C 106 cs2 dX12_place_1 (by decide) (by decide) rfl (by decide) ?_
        refine r_iconst (pc' := 101) C dX12_place_100 rfl ?_
        subst hf
        exact r_iret C dX12_place_101
      · rw [if_neg cs2] at hf
        by_cases cs3 : ww a1 = 107
        · rw [if_pos cs3] at hf
          refine r_tsIn (tgt := 92) C 107 cs3 dX12_place_1 (by decide) (by decide) rfl (by decide) ?_
          refine r_iconst (pc' := 93) C dX12_place_92 rfl ?_
          subst hf
          exact r_iret C dX12_place_93
        · rw [if_neg cs3] at hf
          by_cases cs4 : ww a1 = 108
          · rw [if_pos cs4] at hf
            refine r_tsIn (tgt := 100) C 108 cs4 dX12_place_1 (by decide) (by decide) rfl (by decide) ?_
            refine r_iconst (pc' := 101) C dX12_place_100 rfl ?_
            subst hf
            exact r_iret C dX12_place_101
          · rw [if_neg cs4] at hf
            by_cases cs5 : ww a1 = 109
            · rw [if_pos cs5] at hf
              refine r_tsIn (tgt := 100) C 109 cs5 dX12_place_1 (by decide) (by decide) rfl (by decide) ?_
              refine r_iconst (pc' := 101) C dX12_place_100 rfl ?_
              subst hf
              exact r_iret C dX12_place_101
            · rw [if_neg cs5] at hf
              by_cases cs6 : ww a1 = 110
              · rw [if_pos cs6] at hf
                refine r_tsIn (tgt := 100) C 110 cs6 dX12_place_1 (by decide) (by decide) rfl (by decide) ?_
                refine r_iconst (pc' := 101) C dX12_place_100 rfl ?_
                subst hf
                exact r_iret C dX12_place_101
              · rw [if_neg cs6] at hf
                by_cases cs7 : ww a1 = 111
                · rw [if_pos cs7] at hf
                  refine r_tsIn (tgt := 100) C 111 cs7 dX12_place_1 (by decide) (by decide) rfl (by decide) ?_
                  refine r_iconst (pc' := 101) C dX12_place_100 rfl ?_
                  subst hf
                  exact r_iret C dX12_place_101
                · rw [if_neg cs7] at hf
                  by_cases cs8 : ww a1 = 112
                  · rw [if_pos cs8] at hf
                    refine r_tsIn (tgt := 88) C 112 cs8 dX12_place_1 (by decide) (by decide) rfl (by decide) ?_
                    refine r_iconst (pc' := 89) C dX12_place_88 rfl ?_
                    subst hf
                    exact r_iret C dX12_place_89
                  · rw [if_neg cs8] at hf
                    by_cases cs9 : ww a1 = 113
                    · rw [if_pos cs9] at hf
                      refine r_tsIn (tgt := 100) C 113 cs9 dX12_place_1 (by decide) (by decide) rfl (by decide) ?_
                      refine r_iconst (pc' := 101) C dX12_place_100 rfl ?_
                      subst hf
                      exact r_iret C dX12_place_101
                    · rw [if_neg cs9] at hf
                      by_cases cs10 : ww a1 = 114
                      · rw [if_pos cs10] at hf
                        refine r_tsIn (tgt := 100) C 114 cs10 dX12_place_1 (by decide) (by decide) rfl (by decide) ?_
                        refine r_iconst (pc' := 101) C dX12_place_100 rfl ?_
                        subst hf
                        exact r_iret C dX12_place_101
                      · rw [if_neg cs10] at hf
                        by_cases cs11 : ww a1 = 115
                        · rw [if_pos cs11] at hf
                          refine r_tsIn (tgt := 100) C 115 cs11 dX12_place_1 (by decide) (by decide) rfl (by decide) ?_
                          refine r_iconst (pc' := 101) C dX12_place_100 rfl ?_
                          subst hf
                          exact r_iret C dX12_place_101
                        · rw [if_neg cs11] at hf
                          by_cases cs12 : ww a1 = 116
                          · rw [if_pos cs12] at hf
                            refine r_tsIn (tgt := 90) C 116 cs12 dX12_place_1 (by decide) (by decide) rfl (by decide) ?_
                            refine r_iconst (pc' := 91) C dX12_place_90 rfl ?_
                            subst hf
                            exact r_iret C dX12_place_91
                          · rw [if_neg cs12] at hf
                            by_cases cs13 : ww a1 = 117
                            · rw [if_pos cs13] at hf
                              refine r_tsIn (tgt := 100) C 117 cs13 dX12_place_1 (by decide) (by decide) rfl (by decide) ?_
                              refine r_iconst (pc' := 101) C dX12_place_100 rfl ?_
                              subst hf
                              exact r_iret C dX12_place_101
                            · rw [if_neg cs13] at hf
                              by_cases cs14 : ww a1 = 118
                              · rw [if_pos cs14] at hf
                                refine r_tsIn (tgt := 94) C 118 cs14 dX12_place_1 (by decide) (by decide) rfl (by decide) ?_
                                refine r_iconst (pc' := 95) C dX12_place_94 rfl ?_
                                subst hf
                                exact r_iret C dX12_place_95
                              · rw [if_neg cs14] at hf
                                by_cases cs15 : ww a1 = 119
                                · rw [if_pos cs15] at hf
                                  refine r_tsIn (tgt := 100) C 119 cs15 dX12_place_1 (by decide) (by decide) rfl (by decide) ?_
                                  refine r_iconst (pc' := 101) C dX12_place_100 rfl ?_
                                  subst hf
                                  exact r_iret C dX12_place_101
                                · rw [if_neg cs15] at hf
                                  by_cases cs16 : ww a1 = 120
                                  · rw [if_pos cs16] at hf
                                    refine r_tsIn (tgt := 100) C 120 cs16 dX12_place_1 (by decide) (by decide) rfl (by decide) ?_
                                    refine r_iconst (pc' := 101) C dX12_place_100 rfl ?_
                                    subst hf
                                    exact r_iret C dX12_place_101
                                  · rw [if_neg cs16] at hf
                                    by_cases cs17 : ww a1 = 121
                                    · rw [if_pos cs17] at hf
                                      refine r_tsIn (tgt := 98) C 121 cs17 dX12_place_1 (by decide) (by decide) rfl (by decide) ?_
                                      refine r_iconst (pc' := 99) C dX12_place_98 rfl ?_
                                      subst hf
                                      exact r_iret C dX12_place_99
                                    · rw [if_neg cs17] at hf
                                      refine r_tsOut (tgt := 100) C dX12_place_1 (by omega) (by decide) ?_
                                      refine r_iconst (pc' := 101) C dX12_place_100 rfl ?_
                                      subst hf
                                      exact r_iret C dX12_place_101

/- WassailEnemiesModel.takesTest()Z -/
def m_takesTest (h : HH) : Option (Int × HH) :=
  (m_next h).bind fun q1 => if ww (m_place q1) < 0 then (some (0, h)) else ((m_next (u2 h 193 12 ((h 193 12) + 1))).bind fun q2 => if ww (m_in q2 60 62) = 0 then (some (0, u2 h 193 12 ((h 193 12) + 1))) else ((m_takesNumber (u2 (u2 h 193 12 ((h 193 12) + 1)) 193 12 (((u2 h 193 12 ((h 193 12) + 1)) 193 12) + 1))).bind fun q3 => if ww q3.1 = 0 then (some (0, q3.2)) else ((m_emits q3.2 (((1000 * (m_place q1)) + (100 * (q2 - 60))) + (q3.2 193 13))).bind fun q4 => (m_whole q4).bind fun q5 => some (1, q5))))
abbrev rm_m_takesTest : Room := { frames := 3, cells := 0, slots := 0, locals := 64 }
set_option maxHeartbeats 4000000 in
set_option maxRecDepth 100000 in
theorem t_m_takesTest {S : SS} (hF : Fx S) {h : HH} {res : Int × HH} (hf : m_takesTest h = some res) : CM yX12_takesTest cX12_takesTest 3 (some Jvm.ClassFile.FieldType.boolean) 3 64 0 0 (fun bs => [zP bs 193]) h S (fun _ => some (zI res.1)) res.2 S := by
  refine CM.intro (own := RX12) (by decide) rfl (fun _ => Nat.le_of_ble_eq_true rfl) ?_
  intro D dT bs p l e s m args below meth c C
  show V D dT bs 3 p l e rm_m_takesTest s m args below meth c 0 0 _ h S 0 [(0, zP bs 193)] []
  unfold m_takesTest at hf
  refine r_aload_n (pc' := 1) (f4 := 0) (i := 0) C 0 rfl rfl dX12_takesTest_0 rfl ?_
  refine r_aload_n (pc' := 2) (f4 := 0) (i := 0) C 0 rfl rfl dX12_takesTest_1 rfl ?_
  obtain ⟨q1, hq1, hf⟩ := bind_in hf
  refine q_callV (pc' := 5) C (t_m_next hF hq1) rfl (K_193 hF) cl_12 wv_RX12_271 ⟨Nat.le_of_ble_eq_true rfl, Nat.le_of_ble_eq_true rfl⟩ rfl rfl (Nat.le_of_ble_eq_true rfl) dX12_takesTest_2 rfl ⟨Nat.le_of_ble_eq_true rfl, Nat.le_of_ble_eq_true rfl⟩ ?_
  refine q_callV (pc' := 8) C (t_m_place hF) rfl (K_193 hF) cl_12 wv_RX12_286 ⟨Nat.le_of_ble_eq_true rfl, Nat.le_of_ble_eq_true rfl⟩ rfl rfl (Nat.le_of_ble_eq_true rfl) dX12_takesTest_5 rfl ⟨Nat.le_of_ble_eq_true rfl, Nat.le_of_ble_eq_true rfl⟩ ?_
  refine r_istore_n (pc' := 9) (f4 := 1) (i := 1) (L' := [(1, zI (m_place q1)), (0, zP bs 193)]) C rfl (by decide) rfl dX12_takesTest_8 rfl ?_
  refine r_iload_n (pc' := 10) (f4 := 1) (i := 1) C 0 rfl rfl dX12_takesTest_9 rfl ?_
  refine r_if_ge (pc' := 13) (tgt := 15) C rfl hf dX12_takesTest_10 (by decide) rfl (fun hf => ?_) (fun hf => ?_)
  · refine r_iconst (pc' := 14) C dX12_takesTest_13 rfl ?_
    cases hf
    exact r_zret C (Or.inl rfl) dX12_takesTest_14
  · refine r_aload_n (pc' := 16) (f4 := 0) (i := 0) C 1 rfl rfl dX12_takesTest_15 rfl ?_
    refine r_dup (pc' := 17) C rfl dX12_takesTest_16 rfl ?_
    refine q_getI (pc' := 20) (j := 12) C (K_193 hF) fb_12_12 wd_1183 (Or.inl rfl) dX12_takesTest_17 rfl ?_
    refine r_iconst (pc' := 21) C dX12_takesTest_20 rfl ?_
    refine r_iadd (pc' := 22) C dX12_takesTest_21 rfl ?_
    refine q_putI (pc' := 25) (j := 12) C (K_193 hF) fb_12_12 fp_12_12 wd_1183 (Or.inl rfl) (Or.inl rfl) rfl rfl dX12_takesTest_22 rfl ?_
    refine r_aload_n (pc' := 26) (f4 := 0) (i := 0) C 1 rfl rfl dX12_takesTest_25 rfl ?_
    obtain ⟨q2, hq2, hf⟩ := bind_in hf
    refine q_callV (pc' := 29) C (t_m_next hF hq2) rfl (K_193 hF) cl_12 wv_RX12_271 ⟨Nat.le_of_ble_eq_true rfl, Nat.le_of_ble_eq_true rfl⟩ rfl rfl (Nat.le_of_ble_eq_true rfl) dX12_takesTest_26 rfl ⟨Nat.le_of_ble_eq_true rfl, Nat.le_of_ble_eq_true rfl⟩ ?_
    refine r_istore_n (pc' := 30) (f4 := 2) (i := 2) (L' := [(2, zI q2), (1, zI (m_place q1)), (0, zP bs 193)]) C rfl (by decide) rfl dX12_takesTest_29 rfl ?_
    refine r_aload_n (pc' := 31) (f4 := 0) (i := 0) C 2 rfl rfl dX12_takesTest_30 rfl ?_
    refine r_iload_n (pc' := 32) (f4 := 2) (i := 2) C 0 rfl rfl dX12_takesTest_31 rfl ?_
    refine r_bipush (pc' := 34) C rfl dX12_takesTest_32 rfl ?_
    refine r_bipush (pc' := 36) C rfl dX12_takesTest_34 rfl ?_
    refine q_callV (pc' := 39) C (t_m_in hF) rfl (K_193 hF) cl_12 wv_RX12_245 ⟨Nat.le_of_ble_eq_true rfl, Nat.le_of_ble_eq_true rfl⟩ rfl rfl (Nat.le_of_ble_eq_true rfl) dX12_takesTest_36 rfl ⟨Nat.le_of_ble_eq_true rfl, Nat.le_of_ble_eq_true rfl⟩ ?_
    refine r_if_ne (pc' := 42) (tgt := 44) C rfl hf dX12_takesTest_39 (by decide) rfl (fun hf => ?_) (fun hf => ?_)
    · refine r_iconst (pc' := 43) C dX12_takesTest_42 rfl ?_
      cases hf
      exact r_zret C (Or.inl rfl) dX12_takesTest_43
    · refine r_aload_n (pc' := 45) (f4 := 0) (i := 0) C 2 rfl rfl dX12_takesTest_44 rfl ?_
      refine r_dup (pc' := 46) C rfl dX12_takesTest_45 rfl ?_
      refine q_getI (pc' := 49) (j := 12) C (K_193 hF) fb_12_12 wd_1183 (Or.inl rfl) dX12_takesTest_46 rfl ?_
      refine r_iconst (pc' := 50) C dX12_takesTest_49 rfl ?_
      refine r_iadd (pc' := 51) C dX12_takesTest_50 rfl ?_
      refine q_putI (pc' := 54) (j := 12) C (K_193 hF) fb_12_12 fp_12_12 wd_1183 (Or.inl rfl) (Or.inl rfl) rfl rfl dX12_takesTest_51 rfl ?_
      refine r_aload_n (pc' := 55) (f4 := 0) (i := 0) C 2 rfl rfl dX12_takesTest_54 rfl ?_
      obtain ⟨q3, hq3, hf⟩ := bind_in hf
      refine q_callV (pc' := 58) C (t_m_takesNumber hF hq3) rfl (K_193 hF) cl_12 wv_RX12_290 ⟨Nat.le_of_ble_eq_true rfl, Nat.le_of_ble_eq_true rfl⟩ rfl rfl (Nat.le_of_ble_eq_true rfl) dX12_takesTest_55 rfl ⟨Nat.le_of_ble_eq_true rfl, Nat.le_of_ble_eq_true rfl⟩ ?_
      refine r_if_ne (pc' := 61) (tgt := 63) C rfl hf dX12_takesTest_58 (by decide) rfl (fun hf => ?_) (fun hf => ?_)
      · refine r_iconst (pc' := 62) C dX12_takesTest_61 rfl ?_
        cases hf
        exact r_zret C (Or.inl rfl) dX12_takesTest_62
      · refine r_aload_n (pc' := 64) (f4 := 0) (i := 0) C 2 rfl rfl dX12_takesTest_63 rfl ?_
        refine r_sipush (pc' := 67) C rfl dX12_takesTest_64 rfl ?_
        refine r_iload_n (pc' := 68) (f4 := 1) (i := 1) C 1 rfl rfl dX12_takesTest_67 rfl ?_
        refine r_imul (pc' := 69) C dX12_takesTest_68 rfl ?_
        refine r_bipush (pc' := 71) C rfl dX12_takesTest_69 rfl ?_
        refine r_iload_n (pc' := 72) (f4 := 2) (i := 2) C 0 rfl rfl dX12_takesTest_71 rfl ?_
        refine r_bipush (pc' := 74) C rfl dX12_takesTest_72 rfl ?_
        refine r_isub (pc' := 75) C dX12_takesTest_74 rfl ?_
        refine r_imul (pc' := 76) C dX12_takesTest_75 rfl ?_
        refine r_iadd (pc' := 77) C dX12_takesTest_76 rfl ?_
        refine r_aload_n (pc' := 78) (f4 := 0) (i := 0) C 2 rfl rfl dX12_takesTest_77 rfl ?_
        refine q_getI (pc' := 81) (j := 13) C (K_193 hF) fb_12_13 wd_1184 (Or.inl rfl) dX12_takesTest_78 rfl ?_
        refine r_iadd (pc' := 82) C dX12_takesTest_81 rfl ?_
        obtain ⟨q4, hq4, hf⟩ := bind_in hf
        refine q_callVv (pc' := 85) C (t_m_emits hF hq4) rfl (K_193 hF) cl_12 wv_RX12_282 ⟨Nat.le_of_ble_eq_true rfl, Nat.le_of_ble_eq_true rfl⟩ rfl rfl (Nat.le_of_ble_eq_true rfl) dX12_takesTest_82 rfl ⟨Nat.le_of_ble_eq_true rfl, Nat.le_of_ble_eq_true rfl⟩ ?_
        refine r_aload_n (pc' := 86) (f4 := 0) (i := 0) C 2 rfl rfl dX12_takesTest_85 rfl ?_
        obtain ⟨q5, hq5, hf⟩ := bind_in hf
        refine q_callVv (pc' := 89) C (t_m_whole hF hq5) rfl (K_193 hF) cl_12 wv_RX12_293 ⟨Nat.le_of_ble_eq_true rfl, Nat.le_of_ble_eq_true rfl⟩ rfl rfl (Nat.le_of_ble_eq_true rfl) dX12_takesTest_86 rfl ⟨Nat.le_of_ble_eq_true rfl, Nat.le_of_ble_eq_true rfl⟩ ?_
        refine r_iconst (pc' := 90) C dX12_takesTest_89 rfl ?_
        cases hf
        exact r_zret C (Or.inr rfl) dX12_takesTest_90

/- WassailEnemiesModel.takesE(I)Z -/
def m_takesE_L22 (x1 : Int) : Nat → HH → Int → Option (Int × HH)
  | 0, _, _ => none
  | n22 + 1, h, x2 =>
    (m_next h).bind fun q1 => if ww x2 = 0 then (if ww q1 = 38 then ((m_settle h q1).bind fun q2 => ck (ww (q2 193 23)) 101 <| m_takesE_L22 x1 n22 (u2 (u2 (u2 q2 207 (ww (q2 193 23)) q1) 193 23 (((u2 q2 207 (ww (q2 193 23)) q1) 193 23) + 1)) 193 12 (((u2 (u2 q2 207 (ww (q2 193 23)) q1) 193 23 (((u2 q2 207 (ww (q2 193 23)) q1) 193 23) + 1)) 193 12) + 1)) 1) else (if ww q1 = 124 then ((m_settle h q1).bind fun q3 => ck (ww (q3 193 23)) 101 <| m_takesE_L22 x1 n22 (u2 (u2 (u2 q3 207 (ww (q3 193 23)) q1) 193 23 (((u2 q3 207 (ww (q3 193 23)) q1) 193 23) + 1)) 193 12 (((u2 (u2 q3 207 (ww (q3 193 23)) q1) 193 23 (((u2 q3 207 (ww (q3 193 23)) q1) 193 23) + 1)) 193 12) + 1)) 1) else ((m_settle h 124).bind fun q4 => ck (ww x1) 60 <| if ww ((u2 q4 205 (ww x1) (q4 193 22)) 193 23) = 0 then (some (1, u2 q4 205 (ww x1) (q4 193 22))) else (if ww q1 = 41 then ((m_whole (u2 (u2 (u2 (u2 q4 205 (ww x1) (q4 193 22)) 193 23 (((u2 q4 205 (ww x1) (q4 193 22)) 193 23) - 1)) 193 24 (((u2 (u2 q4 205 (ww x1) (q4 193 22)) 193 23 (((u2 q4 205 (ww x1) (q4 193 22)) 193 23) - 1)) 193 24) - 1)) 193 12 (((u2 (u2 (u2 q4 205 (ww x1) (q4 193 22)) 193 23 (((u2 q4 205 (ww x1) (q4 193 22)) 193 23) - 1)) 193 24 (((u2 (u2 q4 205 (ww x1) (q4 193 22)) 193 23 (((u2 q4 205 (ww x1) (q4 193 22)) 193 23) - 1)) 193 24) - 1)) 193 12) + 1))).bind fun q5 => m_takesE_L22 x1 n22 q5 x2) else (some (0, u2 q4 205 (ww x1) (q4 193 22))))))) else (if ww q1 = 33 then (if ww (h 193 24) = 4 then (some (0, h)) else (ck (ww ((u2 h 193 24 ((h 193 24) + 1)) 193 23)) 101 <| m_takesE_L22 x1 n22 (u2 (u2 (u2 (u2 h 193 24 ((h 193 24) + 1)) 207 (ww ((u2 h 193 24 ((h 193 24) + 1)) 193 23)) q1) 193 23 (((u2 (u2 h 193 24 ((h 193 24) + 1)) 207 (ww ((u2 h 193 24 ((h 193 24) + 1)) 193 23)) q1) 193 23) + 1)) 193 12 (((u2 (u2 (u2 h 193 24 ((h 193 24) + 1)) 207 (ww ((u2 h 193 24 ((h 193 24) + 1)) 193 23)) q1) 193 23 (((u2 (u2 h 193 24 ((h 193 24) + 1)) 207 (ww ((u2 h 193 24 ((h 193 24) + 1)) 193 23)) q1) 193 23) + 1)) 193 12) + 1)) x2)) else (if ww q1 = 40 then (if ww (h 193 24) = 4 then (some (0, h)) else (ck (ww ((u2 h 193 24 ((h 193 24) + 1)) 193 23)) 101 <| m_takesE_L22 x1 n22 (u2 (u2 (u2 (u2 h 193 24 ((h 193 24) + 1)) 207 (ww ((u2 h 193 24 ((h 193 24) + 1)) 193 23)) q1) 193 23 (((u2 (u2 h 193 24 ((h 193 24) + 1)) 207 (ww ((u2 h 193 24 ((h 193 24) + 1)) 193 23)) q1) 193 23) + 1)) 193 12 (((u2 (u2 (u2 h 193 24 ((h 193 24) + 1)) 207 (ww ((u2 h 193 24 ((h 193 24) + 1)) 193 23)) q1) 193 23 (((u2 (u2 h 193 24 ((h 193 24) + 1)) 207 (ww ((u2 h 193 24 ((h 193 24) + 1)) 193 23)) q1) 193 23) + 1)) 193 12) + 1)) x2)) else ((m_takesTest h).bind fun q6 => if ww q6.1 = 0 then (some (0, q6.2)) else (m_takesE_L22 x1 n22 q6.2 0))))
def m_takesE (h : HH) (a1 : Int) : Option (Int × HH) :=
  ck (ww a1) 60 <| m_takesE_L22 a1 FU (u2 (u2 (u2 h 193 23 0) 193 24 0) 204 (ww a1) ((u2 (u2 h 193 23 0) 193 24 0) 193 22)) 1
abbrev rm_m_takesE : Room := { frames := 4, cells := 0, slots := 0, locals := 86 }
set_option maxHeartbeats 4000000 in
set_option maxRecDepth 100000 in
theorem w_m_takesE_L22 (hF : Fx S) (C : Cx D dT bs RX12 cX12_takesE 4 (some Jvm.ClassFile.FieldType.boolean) p s m args meth c) (x1 : Int) {res : (Int × HH)} :
    ∀ (n : Nat) (h : HH) (x2 : Int), m_takesE_L22 x1 n h x2 = some res → V D dT bs 4 p l e rm_m_takesE s m args below meth c 0 0 (MQ below (QQ D dT bs (some (zI res.1)) res.2 S) args s 0 0 (AA bs)) h S 22 [(0, zP bs 193), (1, zI x1), (2, zI x2)] [] := by
  intro n
  induction n with
  | zero => intro h x2 hf; simp [m_takesE_L22] at hf
  | succ n22 ih22 =>
    intro h x2 hf
    rw [m_takesE_L22] at hf
    refine r_aload_n (pc' := 23) (f4 := 0) (i := 0) C 0 rfl rfl dX12_takesE_22 rfl ?_
    obtain ⟨q1, hq1, hf⟩ := bind_in hf
    refine q_callV (pc' := 26) C (t_m_next hF hq1) rfl (K_193 hF) cl_12 wv_RX12_271 ⟨Nat.le_of_ble_eq_true rfl, Nat.le_of_ble_eq_true rfl⟩ rfl rfl (Nat.le_of_ble_eq_true rfl) dX12_takesE_23 rfl ⟨Nat.le_of_ble_eq_true rfl, Nat.le_of_ble_eq_true rfl⟩ ?_
    refine r_istore_n (pc' := 27) (f4 := 3) (i := 3) (L' := [(3, zI q1), (0, zP bs 193), (1, zI x1), (2, zI x2)]) C rfl (by decide) rfl dX12_takesE_26 rfl ?_
    refine r_iload_n (pc' := 28) (f4 := 2) (i := 2) C 3 rfl rfl dX12_takesE_27 rfl ?_
    refine r_if_eq (pc' := 31) (tgt := 110) C rfl hf dX12_takesE_28 (by decide) rfl (fun hf => ?_) (fun hf => ?_)
    · refine r_iload_n (pc' := 111) (f4 := 3) (i := 3) C 0 rfl rfl dX12_takesE_110 rfl ?_
      refine r_bipush (pc' := 113) C rfl dX12_takesE_111 rfl ?_
      refine r_icmp_eq (pc' := 116) (tgt := 122) C rfl ww_n38 hf dX12_takesE_113 (by decide) rfl (fun hf => ?_) (fun hf => ?_)
      · refine r_aload_n (pc' := 123) (f4 := 0) (i := 0) C 1 rfl rfl dX12_takesE_122 rfl ?_
        refine r_iload_n (pc' := 124) (f4 := 3) (i := 3) C 0 rfl rfl dX12_takesE_123 rfl ?_
        obtain ⟨q2, hq2, hf⟩ := bind_in hf
        refine q_callVv (pc' := 127) C (t_m_settle hF hq2) rfl (K_193 hF) cl_12 wv_RX12_299 ⟨Nat.le_of_ble_eq_true rfl, Nat.le_of_ble_eq_true rfl⟩ rfl rfl (Nat.le_of_ble_eq_true rfl) dX12_takesE_124 rfl ⟨Nat.le_of_ble_eq_true rfl, Nat.le_of_ble_eq_true rfl⟩ ?_
        refine r_aload_n (pc' := 128) (f4 := 0) (i := 0) C 1 rfl rfl dX12_takesE_127 rfl ?_
        refine q_getP (pc' := 131) (j := 21) C (K_193 hF) fb_12_21 (by decide) wd_1192 (Or.inl rfl) (F_193_21 hF) (by decide) dX12_takesE_128 rfl ?_
        refine r_aload_n (pc' := 132) (f4 := 0) (i := 0) C 1 rfl rfl dX12_takesE_131 rfl ?_
        refine q_getI (pc' := 135) (j := 23) C (K_193 hF) fb_12_23 wd_1194 (Or.inl rfl) dX12_takesE_132 rfl ?_
        refine r_iload_n (pc' := 136) (f4 := 3) (i := 3) C 0 rfl rfl dX12_takesE_135 rfl ?_
        obtain ⟨hi, hf⟩ := ck_in hf
        refine r_iast (pc' := 137) C (K_207 hF) rfl hi dX12_takesE_136 rfl ?_
        refine r_aload_n (pc' := 138) (f4 := 0) (i := 0) C 1 rfl rfl dX12_takesE_137 rfl ?_
        refine r_dup (pc' := 139) C rfl dX12_takesE_138 rfl ?_
        refine q_getI (pc' := 142) (j := 23) C (K_193 hF) fb_12_23 wd_1194 (Or.inl rfl) dX12_takesE_139 rfl ?_
        refine r_iconst (pc' := 143) C dX12_takesE_142 rfl ?_
        refine r_iadd (pc' := 144) C dX12_takesE_143 rfl ?_
        refine q_putI (pc' := 147) (j := 23) C (K_193 hF) fb_12_23 fp_12_23 wd_1194 (Or.inl rfl) (Or.inl rfl) rfl rfl dX12_takesE_144 rfl ?_
        refine r_iconst (pc' := 148) C dX12_takesE_147 rfl ?_
        refine r_istore_n (pc' := 149) (f4 := 2) (i := 2) (L' := [(2, zI 1), (3, zI q1), (0, zP bs 193), (1, zI x1)]) C rfl (by decide) rfl dX12_takesE_148 rfl ?_
        refine r_aload_n (pc' := 150) (f4 := 0) (i := 0) C 2 rfl rfl dX12_takesE_149 rfl ?_
        refine r_dup (pc' := 151) C rfl dX12_takesE_150 rfl ?_
        refine q_getI (pc' := 154) (j := 12) C (K_193 hF) fb_12_12 wd_1183 (Or.inl rfl) dX12_takesE_151 rfl ?_
        refine r_iconst (pc' := 155) C dX12_takesE_154 rfl ?_
        refine r_iadd (pc' := 156) C dX12_takesE_155 rfl ?_
        refine q_putI (pc' := 159) (j := 12) C (K_193 hF) fb_12_12 fp_12_12 wd_1183 (Or.inl rfl) (Or.inl rfl) rfl rfl dX12_takesE_156 rfl ?_
        refine r_goto (tgt := 22) C dX12_takesE_159 (by decide) ?_
        refine V.sub (L' := [(0, zP bs 193), (1, zI x1), (2, zI 1)]) [2, 3, 0] rfl ?_
        exact ih22 _ _ hf
      · refine r_iload_n (pc' := 117) (f4 := 3) (i := 3) C 0 rfl rfl dX12_takesE_116 rfl ?_
        refine r_bipush (pc' := 119) C rfl dX12_takesE_117 rfl ?_
        refine r_icmp_ne (pc' := 122) (tgt := 162) C rfl ww_n124 hf dX12_takesE_119 (by decide) rfl (fun hf => ?_) (fun hf => ?_)
        · refine r_aload_n (pc' := 123) (f4 := 0) (i := 0) C 1 rfl rfl dX12_takesE_122 rfl ?_
          refine r_iload_n (pc' := 124) (f4 := 3) (i := 3) C 0 rfl rfl dX12_takesE_123 rfl ?_
          obtain ⟨q3, hq3, hf⟩ := bind_in hf
          refine q_callVv (pc' := 127) C (t_m_settle hF hq3) rfl (K_193 hF) cl_12 wv_RX12_299 ⟨Nat.le_of_ble_eq_true rfl, Nat.le_of_ble_eq_true rfl⟩ rfl rfl (Nat.le_of_ble_eq_true rfl) dX12_takesE_124 rfl ⟨Nat.le_of_ble_eq_true rfl, Nat.le_of_ble_eq_true rfl⟩ ?_
          refine r_aload_n (pc' := 128) (f4 := 0) (i := 0) C 1 rfl rfl dX12_takesE_127 rfl ?_
          refine q_getP (pc' := 131) (j := 21) C (K_193 hF) fb_12_21 (by decide) wd_1192 (Or.inl rfl) (F_193_21 hF) (by decide) dX12_takesE_128 rfl ?_
          refine r_aload_n (pc' := 132) (f4 := 0) (i := 0) C 1 rfl rfl dX12_takesE_131 rfl ?_
          refine q_getI (pc' := 135) (j := 23) C (K_193 hF) fb_12_23 wd_1194 (Or.inl rfl) dX12_takesE_132 rfl ?_
          refine r_iload_n (pc' := 136) (f4 := 3) (i := 3) C 0 rfl rfl dX12_takesE_135 rfl ?_
          obtain ⟨hi, hf⟩ := ck_in hf
          refine r_iast (pc' := 137) C (K_207 hF) rfl hi dX12_takesE_136 rfl ?_
          refine r_aload_n (pc' := 138) (f4 := 0) (i := 0) C 1 rfl rfl dX12_takesE_137 rfl ?_
          refine r_dup (pc' := 139) C rfl dX12_takesE_138 rfl ?_
          refine q_getI (pc' := 142) (j := 23) C (K_193 hF) fb_12_23 wd_1194 (Or.inl rfl) dX12_takesE_139 rfl ?_
          refine r_iconst (pc' := 143) C dX12_takesE_142 rfl ?_
          refine r_iadd (pc' := 144) C dX12_takesE_143 rfl ?_
          refine q_putI (pc' := 147) (j := 23) C (K_193 hF) fb_12_23 fp_12_23 wd_1194 (Or.inl rfl) (Or.inl rfl) rfl rfl dX12_takesE_144 rfl ?_
          refine r_iconst (pc' := 148) C dX12_takesE_147 rfl ?_
          refine r_istore_n (pc' := 149) (f4 := 2) (i := 2) (L' := [(2, zI 1), (3, zI q1), (0, zP bs 193), (1, zI x1)]) C rfl (by decide) rfl dX12_takesE_148 rfl ?_
          refine r_aload_n (pc' := 150) (f4 := 0) (i := 0) C 2 rfl rfl dX12_takesE_149 rfl ?_
          refine r_dup (pc' := 151) C rfl dX12_takesE_150 rfl ?_
          refine q_getI (pc' := 154) (j := 12) C (K_193 hF) fb_12_12 wd_1183 (Or.inl rfl) dX12_takesE_151 rfl ?_
          refine r_iconst (pc' := 155) C dX12_takesE_154 rfl ?_
          refine r_iadd (pc' := 156) C dX12_takesE_155 rfl ?_
          refine q_putI (pc' := 159) (j := 12) C (K_193 hF) fb_12_12 fp_12_12 wd_1183 (Or.inl rfl) (Or.inl rfl) rfl rfl dX12_takesE_156 rfl ?_
          refine r_goto (tgt := 22) C dX12_takesE_159 (by decide) ?_
          refine V.sub (L' := [(0, zP bs 193), (1, zI x1), (2, zI 1)]) [2, 3, 0] rfl ?_
          exact ih22 _ _ hf
        · refine r_aload_n (pc' := 163) (f4 := 0) (i := 0) C 1 rfl rfl dX12_takesE_162 rfl ?_
          refine r_bipush (pc' := 165) C rfl dX12_takesE_163 rfl ?_
          obtain ⟨q4, hq4, hf⟩ := bind_in hf
          refine q_callVv (pc' := 168) C (t_m_settle hF hq4) rfl (K_193 hF) cl_12 wv_RX12_299 ⟨Nat.le_of_ble_eq_true rfl, Nat.le_of_ble_eq_true rfl⟩ rfl rfl (Nat.le_of_ble_eq_true rfl) dX12_takesE_165 rfl ⟨Nat.le_of_ble_eq_true rfl, Nat.le_of_ble_eq_true rfl⟩ ?_
          refine r_aload_n (pc' := 169) (f4 := 0) (i := 0) C 1 rfl rfl dX12_takesE_168 rfl ?_
          refine q_getP (pc' := 172) (j := 19) C (K_193 hF) fb_12_19 (by decide) wd_1190 (Or.inl rfl) (F_193_19 hF) (by decide) dX12_takesE_169 rfl ?_
          refine r_iload_n (pc' := 173) (f4 := 1) (i := 1) C 2 rfl rfl dX12_takesE_172 rfl ?_
          refine r_aload_n (pc' := 174) (f4 := 0) (i := 0) C 1 rfl rfl dX12_takesE_173 rfl ?_
          refine q_getI (pc' := 177) (j := 22) C (K_193 hF) fb_12_22 wd_1193 (Or.inl rfl) dX12_takesE_174 rfl ?_
          obtain ⟨hi, hf⟩ := ck_in hf
          refine r_iast (pc' := 178) C (K_205 hF) rfl hi dX12_takesE_177 rfl ?_
          refine r_aload_n (pc' := 179) (f4 := 0) (i := 0) C 1 rfl rfl dX12_takesE_178 rfl ?_
          refine q_getI (pc' := 182) (j := 23) C (K_193 hF) fb_12_23 wd_1194 (Or.inl rfl) dX12_takesE_179 rfl ?_
          refine r_if_ne (pc' := 185) (tgt := 187) C rfl hf dX12_takesE_182 (by decide) rfl (fun hf => ?_) (fun hf => ?_)
          · refine r_iconst (pc' := 186) C dX12_takesE_185 rfl ?_
            cases hf
            exact r_zret C (Or.inr rfl) dX12_takesE_186
          · refine r_iload_n (pc' := 188) (f4 := 3) (i := 3) C 0 rfl rfl dX12_takesE_187 rfl ?_
            refine r_bipush (pc' := 190) C rfl dX12_takesE_188 rfl ?_
            refine r_icmp_eq (pc' := 193) (tgt := 195) C rfl ww_n41 hf dX12_takesE_190 (by decide) rfl (fun hf => ?_) (fun hf => ?_)
            · refine r_aload_n (pc' := 196) (f4 := 0) (i := 0) C 1 rfl rfl dX12_takesE_195 rfl ?_
              refine r_dup (pc' := 197) C rfl dX12_takesE_196 rfl ?_
              refine q_getI (pc' := 200) (j := 23) C (K_193 hF) fb_12_23 wd_1194 (Or.inl rfl) dX12_takesE_197 rfl ?_
              refine r_iconst (pc' := 201) C dX12_takesE_200 rfl ?_
              refine r_isub (pc' := 202) C dX12_takesE_201 rfl ?_
              refine q_putI (pc' := 205) (j := 23) C (K_193 hF) fb_12_23 fp_12_23 wd_1194 (Or.inl rfl) (Or.inl rfl) rfl rfl dX12_takesE_202 rfl ?_
              refine r_aload_n (pc' := 206) (f4 := 0) (i := 0) C 1 rfl rfl dX12_takesE_205 rfl ?_
              refine r_dup (pc' := 207) C rfl dX12_takesE_206 rfl ?_
              refine q_getI (pc' := 210) (j := 24) C (K_193 hF) fb_12_24 wd_1195 (Or.inl rfl) dX12_takesE_207 rfl ?_
              refine r_iconst (pc' := 211) C dX12_takesE_210 rfl ?_
              refine r_isub (pc' := 212) C dX12_takesE_211 rfl ?_
              refine q_putI (pc' := 215) (j := 24) C (K_193 hF) fb_12_24 fp_12_24 wd_1195 (Or.inl rfl) (Or.inl rfl) rfl rfl dX12_takesE_212 rfl ?_
              refine r_aload_n (pc' := 216) (f4 := 0) (i := 0) C 1 rfl rfl dX12_takesE_215 rfl ?_
              refine r_dup (pc' := 217) C rfl dX12_takesE_216 rfl ?_
              refine q_getI (pc' := 220) (j := 12) C (K_193 hF) fb_12_12 wd_1183 (Or.inl rfl) dX12_takesE_217 rfl ?_
              refine r_iconst (pc' := 221) C dX12_takesE_220 rfl ?_
              refine r_iadd (pc' := 222) C dX12_takesE_221 rfl ?_
              refine q_putI (pc' := 225) (j := 12) C (K_193 hF) fb_12_12 fp_12_12 wd_1183 (Or.inl rfl) (Or.inl rfl) rfl rfl dX12_takesE_222 rfl ?_
              refine r_aload_n (pc' := 226) (f4 := 0) (i := 0) C 1 rfl rfl dX12_takesE_225 rfl ?_
              obtain ⟨q5, hq5, hf⟩ := bind_in hf
              refine q_callVv (pc' := 229) C (t_m_whole hF hq5) rfl (K_193 hF) cl_12 wv_RX12_293 ⟨Nat.le_of_ble_eq_true rfl, Nat.le_of_ble_eq_true rfl⟩ rfl rfl (Nat.le_of_ble_eq_true rfl) dX12_takesE_226 rfl ⟨Nat.le_of_ble_eq_true rfl, Nat.le_of_ble_eq_true rfl⟩ ?_
              refine r_goto (tgt := 22) C dX12_takesE_229 (by decide) ?_
              refine V.sub (L' := [(0, zP bs 193), (1, zI x1), (2, zI x2)]) [1, 2, 3] rfl ?_
              exact ih22 _ _ hf
            · refine r_iconst (pc' := 194) C dX12_takesE_193 rfl ?_
              cases hf
              exact r_zret C (Or.inl rfl) dX12_takesE_194
    · refine r_iload_n (pc' := 32) (f4 := 3) (i := 3) C 0 rfl rfl dX12_takesE_31 rfl ?_
      refine r_bipush (pc' := 34) C rfl dX12_takesE_32 rfl ?_
      refine r_icmp_eq (pc' := 37) (tgt := 43) C rfl ww_n33 hf dX12_takesE_34 (by decide) rfl (fun hf => ?_) (fun hf => ?_)
      · refine r_aload_n (pc' := 44) (f4 := 0) (i := 0) C 1 rfl rfl dX12_takesE_43 rfl ?_
        refine q_getI (pc' := 47) (j := 24) C (K_193 hF) fb_12_24 wd_1195 (Or.inl rfl) dX12_takesE_44 rfl ?_
        refine r_iconst (pc' := 48) C dX12_takesE_47 rfl ?_
        refine r_icmp_ne (pc' := 51) (tgt := 53) C rfl ww_n4 hf dX12_takesE_48 (by decide) rfl (fun hf => ?_) (fun hf => ?_)
        · refine r_iconst (pc' := 52) C dX12_takesE_51 rfl ?_
          cases hf
          exact r_zret C (Or.inl rfl) dX12_takesE_52
        · refine r_aload_n (pc' := 54) (f4 := 0) (i := 0) C 1 rfl rfl dX12_takesE_53 rfl ?_
          refine r_dup (pc' := 55) C rfl dX12_takesE_54 rfl ?_
          refine q_getI (pc' := 58) (j := 24) C (K_193 hF) fb_12_24 wd_1195 (Or.inl rfl) dX12_takesE_55 rfl ?_
          refine r_iconst (pc' := 59) C dX12_takesE_58 rfl ?_
          refine r_iadd (pc' := 60) C dX12_takesE_59 rfl ?_
          refine q_putI (pc' := 63) (j := 24) C (K_193 hF) fb_12_24 fp_12_24 wd_1195 (Or.inl rfl) (Or.inl rfl) rfl rfl dX12_takesE_60 rfl ?_
          refine r_aload_n (pc' := 64) (f4 := 0) (i := 0) C 1 rfl rfl dX12_takesE_63 rfl ?_
          refine q_getP (pc' := 67) (j := 21) C (K_193 hF) fb_12_21 (by decide) wd_1192 (Or.inl rfl) (F_193_21 hF) (by decide) dX12_takesE_64 rfl ?_
          refine r_aload_n (pc' := 68) (f4 := 0) (i := 0) C 1 rfl rfl dX12_takesE_67 rfl ?_
          refine q_getI (pc' := 71) (j := 23) C (K_193 hF) fb_12_23 wd_1194 (Or.inl rfl) dX12_takesE_68 rfl ?_
          refine r_iload_n (pc' := 72) (f4 := 3) (i := 3) C 0 rfl rfl dX12_takesE_71 rfl ?_
          obtain ⟨hi, hf⟩ := ck_in hf
          refine r_iast (pc' := 73) C (K_207 hF) rfl hi dX12_takesE_72 rfl ?_
          refine r_aload_n (pc' := 74) (f4 := 0) (i := 0) C 1 rfl rfl dX12_takesE_73 rfl ?_
          refine r_dup (pc' := 75) C rfl dX12_takesE_74 rfl ?_
          refine q_getI (pc' := 78) (j := 23) C (K_193 hF) fb_12_23 wd_1194 (Or.inl rfl) dX12_takesE_75 rfl ?_
          refine r_iconst (pc' := 79) C dX12_takesE_78 rfl ?_
          refine r_iadd (pc' := 80) C dX12_takesE_79 rfl ?_
          refine q_putI (pc' := 83) (j := 23) C (K_193 hF) fb_12_23 fp_12_23 wd_1194 (Or.inl rfl) (Or.inl rfl) rfl rfl dX12_takesE_80 rfl ?_
          refine r_aload_n (pc' := 84) (f4 := 0) (i := 0) C 1 rfl rfl dX12_takesE_83 rfl ?_
          refine r_dup (pc' := 85) C rfl dX12_takesE_84 rfl ?_
          refine q_getI (pc' := 88) (j := 12) C (K_193 hF) fb_12_12 wd_1183 (Or.inl rfl) dX12_takesE_85 rfl ?_
          refine r_iconst (pc' := 89) C dX12_takesE_88 rfl ?_
          refine r_iadd (pc' := 90) C dX12_takesE_89 rfl ?_
          refine q_putI (pc' := 93) (j := 12) C (K_193 hF) fb_12_12 fp_12_12 wd_1183 (Or.inl rfl) (Or.inl rfl) rfl rfl dX12_takesE_90 rfl ?_
          refine r_goto (tgt := 22) C dX12_takesE_93 (by decide) ?_
          refine V.sub (L' := [(0, zP bs 193), (1, zI x1), (2, zI x2)]) [1, 2, 3] rfl ?_
          exact ih22 _ _ hf
      · refine r_iload_n (pc' := 38) (f4 := 3) (i := 3) C 0 rfl rfl dX12_takesE_37 rfl ?_
        refine r_bipush (pc' := 40) C rfl dX12_takesE_38 rfl ?_
        refine r_icmp_ne (pc' := 43) (tgt := 96) C rfl ww_n40 hf dX12_takesE_40 (by decide) rfl (fun hf => ?_) (fun hf => ?_)
        · refine r_aload_n (pc' := 44) (f4 := 0) (i := 0) C 1 rfl rfl dX12_takesE_43 rfl ?_
          refine q_getI (pc' := 47) (j := 24) C (K_193 hF) fb_12_24 wd_1195 (Or.inl rfl) dX12_takesE_44 rfl ?_
          refine r_iconst (pc' := 48) C dX12_takesE_47 rfl ?_
          refine r_icmp_ne (pc' := 51) (tgt := 53) C rfl ww_n4 hf dX12_takesE_48 (by decide) rfl (fun hf => ?_) (fun hf => ?_)
          · refine r_iconst (pc' := 52) C dX12_takesE_51 rfl ?_
            cases hf
            exact r_zret C (Or.inl rfl) dX12_takesE_52
          · refine r_aload_n (pc' := 54) (f4 := 0) (i := 0) C 1 rfl rfl dX12_takesE_53 rfl ?_
            refine r_dup (pc' := 55) C rfl dX12_takesE_54 rfl ?_
            refine q_getI (pc' := 58) (j := 24) C (K_193 hF) fb_12_24 wd_1195 (Or.inl rfl) dX12_takesE_55 rfl ?_
            refine r_iconst (pc' := 59) C dX12_takesE_58 rfl ?_
            refine r_iadd (pc' := 60) C dX12_takesE_59 rfl ?_
            refine q_putI (pc' := 63) (j := 24) C (K_193 hF) fb_12_24 fp_12_24 wd_1195 (Or.inl rfl) (Or.inl rfl) rfl rfl dX12_takesE_60 rfl ?_
            refine r_aload_n (pc' := 64) (f4 := 0) (i := 0) C 1 rfl rfl dX12_takesE_63 rfl ?_
            refine q_getP (pc' := 67) (j := 21) C (K_193 hF) fb_12_21 (by decide) wd_1192 (Or.inl rfl) (F_193_21 hF) (by decide) dX12_takesE_64 rfl ?_
            refine r_aload_n (pc' := 68) (f4 := 0) (i := 0) C 1 rfl rfl dX12_takesE_67 rfl ?_
            refine q_getI (pc' := 71) (j := 23) C (K_193 hF) fb_12_23 wd_1194 (Or.inl rfl) dX12_takesE_68 rfl ?_
            refine r_iload_n (pc' := 72) (f4 := 3) (i := 3) C 0 rfl rfl dX12_takesE_71 rfl ?_
            obtain ⟨hi, hf⟩ := ck_in hf
            refine r_iast (pc' := 73) C (K_207 hF) rfl hi dX12_takesE_72 rfl ?_
            refine r_aload_n (pc' := 74) (f4 := 0) (i := 0) C 1 rfl rfl dX12_takesE_73 rfl ?_
            refine r_dup (pc' := 75) C rfl dX12_takesE_74 rfl ?_
            refine q_getI (pc' := 78) (j := 23) C (K_193 hF) fb_12_23 wd_1194 (Or.inl rfl) dX12_takesE_75 rfl ?_
            refine r_iconst (pc' := 79) C dX12_takesE_78 rfl ?_
            refine r_iadd (pc' := 80) C dX12_takesE_79 rfl ?_
            refine q_putI (pc' := 83) (j := 23) C (K_193 hF) fb_12_23 fp_12_23 wd_1194 (Or.inl rfl) (Or.inl rfl) rfl rfl dX12_takesE_80 rfl ?_
            refine r_aload_n (pc' := 84) (f4 := 0) (i := 0) C 1 rfl rfl dX12_takesE_83 rfl ?_
            refine r_dup (pc' := 85) C rfl dX12_takesE_84 rfl ?_
            refine q_getI (pc' := 88) (j := 12) C (K_193 hF) fb_12_12 wd_1183 (Or.inl rfl) dX12_takesE_85 rfl ?_
            refine r_iconst (pc' := 89) C dX12_takesE_88 rfl ?_
            refine r_iadd (pc' := 90) C dX12_takesE_89 rfl ?_
            refine q_putI (pc' := 93) (j := 12) C (K_193 hF) fb_12_12 fp_12_12 wd_1183 (Or.inl rfl) (Or.inl rfl) rfl rfl dX12_takesE_90 rfl ?_
            refine r_goto (tgt := 22) C dX12_takesE_93 (by decide) ?_
            refine V.sub (L' := [(0, zP bs 193), (1, zI x1), (2, zI x2)]) [1, 2, 3] rfl ?_
            exact ih22 _ _ hf
        · refine r_aload_n (pc' := 97) (f4 := 0) (i := 0) C 1 rfl rfl dX12_takesE_96 rfl ?_
          obtain ⟨q6, hq6, hf⟩ := bind_in hf
          refine q_callV (pc' := 100) C (t_m_takesTest hF hq6) rfl (K_193 hF) cl_12 wv_RX12_296 ⟨Nat.le_of_ble_eq_true rfl, Nat.le_of_ble_eq_true rfl⟩ rfl rfl (Nat.le_of_ble_eq_true rfl) dX12_takesE_97 rfl ⟨Nat.le_of_ble_eq_true rfl, Nat.le_of_ble_eq_true rfl⟩ ?_
          refine r_if_eq (pc' := 103) (tgt := 108) C rfl hf dX12_takesE_100 (by decide) rfl (fun hf => ?_) (fun hf => ?_)
          · refine r_iconst (pc' := 109) C dX12_takesE_108 rfl ?_
            cases hf
            exact r_zret C (Or.inl rfl) dX12_takesE_109
          · refine r_iconst (pc' := 104) C dX12_takesE_103 rfl ?_
            refine r_istore_n (pc' := 105) (f4 := 2) (i := 2) (L' := [(2, zI 0), (3, zI q1), (0, zP bs 193), (1, zI x1)]) C rfl (by decide) rfl dX12_takesE_104 rfl ?_
            refine r_goto (tgt := 22) C dX12_takesE_105 (by decide) ?_
            refine V.sub (L' := [(0, zP bs 193), (1, zI x1), (2, zI 0)]) [2, 3, 0] rfl ?_
            exact ih22 _ _ hf
set_option maxHeartbeats 4000000 in
set_option maxRecDepth 100000 in
theorem t_m_takesE {S : SS} (hF : Fx S) {h : HH} {a1 : Int} {res : Int × HH} (hf : m_takesE h a1 = some res) : CM yX12_takesE cX12_takesE 4 (some Jvm.ClassFile.FieldType.boolean) 4 86 0 0 (fun bs => [zP bs 193, zI a1]) h S (fun _ => some (zI res.1)) res.2 S := by
  refine CM.intro (own := RX12) (by decide) rfl (fun _ => Nat.le_of_ble_eq_true rfl) ?_
  intro D dT bs p l e s m args below meth c C
  show V D dT bs 4 p l e rm_m_takesE s m args below meth c 0 0 _ h S 0 [(0, zP bs 193), (1, zI a1)] []
  unfold m_takesE at hf
  refine r_aload_n (pc' := 1) (f4 := 0) (i := 0) C 0 rfl rfl dX12_takesE_0 rfl ?_
  refine r_iconst (pc' := 2) C dX12_takesE_1 rfl ?_
  refine q_putI (pc' := 5) (j := 23) C (K_193 hF) fb_12_23 fp_12_23 wd_1194 (Or.inl rfl) (Or.inl rfl) rfl rfl dX12_takesE_2 rfl ?_
  refine r_aload_n (pc' := 6) (f4 := 0) (i := 0) C 0 rfl rfl dX12_takesE_5 rfl ?_
  refine r_iconst (pc' := 7) C dX12_takesE_6 rfl ?_
  refine q_putI (pc' := 10) (j := 24) C (K_193 hF) fb_12_24 fp_12_24 wd_1195 (Or.inl rfl) (Or.inl rfl) rfl rfl dX12_takesE_7 rfl ?_
  refine r_aload_n (pc' := 11) (f4 := 0) (i := 0) C 0 rfl rfl dX12_takesE_10 rfl ?_
  refine q_getP (pc' := 14) (j := 18) C (K_193 hF) fb_12_18 (by decide) wd_1189 (Or.inl rfl) (F_193_18 hF) (by decide) dX12_takesE_11 rfl ?_
  refine r_iload_n (pc' := 15) (f4 := 1) (i := 1) C 1 rfl rfl dX12_takesE_14 rfl ?_
  refine r_aload_n (pc' := 16) (f4 := 0) (i := 0) C 0 rfl rfl dX12_takesE_15 rfl ?_
  refine q_getI (pc' := 19) (j := 22) C (K_193 hF) fb_12_22 wd_1193 (Or.inl rfl) dX12_takesE_16 rfl ?_
  obtain ⟨hi, hf⟩ := ck_in hf
  refine r_iast (pc' := 20) C (K_204 hF) rfl hi dX12_takesE_19 rfl ?_
  refine r_iconst (pc' := 21) C dX12_takesE_20 rfl ?_
  refine r_istore_n (pc' := 22) (f4 := 2) (i := 2) (L' := [(2, zI 1), (0, zP bs 193), (1, zI a1)]) C rfl (by decide) rfl dX12_takesE_21 rfl ?_
  refine V.sub (L' := [(0, zP bs 193), (1, zI a1), (2, zI 1)]) [1, 2, 0] rfl ?_
  refine w_m_takesE_L22 hF C _ _ _ _ hf

/- WassailEnemiesModel.takesHead(I)Z -/
def m_takesHead (h : HH) (a1 : Int) : Option (Int × HH) :=
  (m_next h).bind fun q1 => if ww q1 = 99 then (ck (ww a1) 60 <| (m_takesWord (u2 h 202 (ww a1) 1) 3 4).bind fun q2 => ckb q2.1 <| some (q2.1, q2.2)) else (if ww q1 = 104 then (ck (ww a1) 60 <| (m_takesWord (u2 h 202 (ww a1) 0) 0 3).bind fun q3 => ckb q3.1 <| some (q3.1, q3.2)) else (if ww q1 = 110 then (ck (ww a1) 60 <| (m_takesWord (u2 h 202 (ww a1) 2) 7 4).bind fun q4 => ckb q4.1 <| some (q4.1, q4.2)) else (ck (ww a1) 60 <| (m_takesWord (u2 h 202 (ww a1) 3) 11 4).bind fun q5 => ckb q5.1 <| some (q5.1, q5.2))))
abbrev rm_m_takesHead : Room := { frames := 3, cells := 0, slots := 0, locals := 64 }
set_option maxHeartbeats 4000000 in
set_option maxRecDepth 100000 in
theorem t_m_takesHead {S : SS} (hF : Fx S) {h : HH} {a1 : Int} {res : Int × HH} (hf : m_takesHead h a1 = some res) : CM yX12_takesHead cX12_takesHead 2 (some Jvm.ClassFile.FieldType.boolean) 3 64 0 0 (fun bs => [zP bs 193, zI a1]) h S (fun _ => some (zI res.1)) res.2 S := by
  refine CM.intro (own := RX12) (by decide) rfl (fun _ => Nat.le_of_ble_eq_true rfl) ?_
  intro D dT bs p l e s m args below meth c C
  show V D dT bs 2 p l e rm_m_takesHead s m args below meth c 0 0 _ h S 0 [(0, zP bs 193), (1, zI a1)] []
  unfold m_takesHead at hf
  refine r_aload_n (pc' := 1) (f4 := 0) (i := 0) C 0 rfl rfl dX12_takesHead_0 rfl ?_
  obtain ⟨q1, hq1, hf⟩ := bind_in hf
  refine q_callV (pc' := 4) C (t_m_next hF hq1) rfl (K_193 hF) cl_12 wv_RX12_271 ⟨Nat.le_of_ble_eq_true rfl, Nat.le_of_ble_eq_true rfl⟩ rfl rfl (Nat.le_of_ble_eq_true rfl) dX12_takesHead_1 rfl ⟨Nat.le_of_ble_eq_true rfl, Nat.le_of_ble_eq_true rfl⟩ ?_
  by_cases cs0 : ww q1 = 99
  · rw [if_pos cs0] at hf
    refine r_ls (tgt := 54) C (off := 50) dX12_takesHead_4 rfl (by simp [Op.lookupswitch.offset, cs0]) (by decide) ?_
    refine r_aload_n (pc' := 55) (f4 := 0) (i := 0) C 0 rfl rfl dX12_takesHead_54 rfl ?_
    refine q_getP (pc' := 58) (j := 16) C (K_193 hF) fb_12_16 (by decide) wd_1187 (Or.inl rfl) (F_193_16 hF) (by decide) dX12_takesHead_55 rfl ?_
    refine r_iload_n (pc' := 59) (f4 := 1) (i := 1) C 1 rfl rfl dX12_takesHead_58 rfl ?_
    refine r_iconst (pc' := 60) C dX12_takesHead_59 rfl ?_
    obtain ⟨hi, hf⟩ := ck_in hf
    refine r_iast (pc' := 61) C (K_202 hF) rfl hi dX12_takesHead_60 rfl ?_
    refine r_aload_n (pc' := 62) (f4 := 0) (i := 0) C 0 rfl rfl dX12_takesHead_61 rfl ?_
    refine r_iconst (pc' := 63) C dX12_takesHead_62 rfl ?_
    refine r_iconst (pc' := 64) C dX12_takesHead_63 rfl ?_
    obtain ⟨q2, hq2, hf⟩ := bind_in hf
    refine q_callV (pc' := 67) C (t_m_takesWord hF hq2) rfl (K_193 hF) cl_12 wv_RX12_302 ⟨Nat.le_of_ble_eq_true rfl, Nat.le_of_ble_eq_true rfl⟩ rfl rfl (Nat.le_of_ble_eq_true rfl) dX12_takesHead_64 rfl ⟨Nat.le_of_ble_eq_true rfl, Nat.le_of_ble_eq_true rfl⟩ ?_
    obtain ⟨hz, hf⟩ := ckb_in hf
    cases hf
    exact r_zret C hz dX12_takesHead_67
  · rw [if_neg cs0] at hf
    by_cases cs1 : ww q1 = 104
    · rw [if_pos cs1] at hf
      refine r_ls (tgt := 40) C (off := 36) dX12_takesHead_4 rfl (by simp [Op.lookupswitch.offset, cs1]) (by decide) ?_
      refine r_aload_n (pc' := 41) (f4 := 0) (i := 0) C 0 rfl rfl dX12_takesHead_40 rfl ?_
      refine q_getP (pc' := 44) (j := 16) C (K_193 hF) fb_12_16 (by decide) wd_1187 (Or.inl rfl) (F_193_16 hF) (by decide) dX12_takesHead_41 rfl ?_
      refine r_iload_n (pc' := 45) (f4 := 1) (i := 1) C 1 rfl rfl dX12_takesHead_44 rfl ?_
      refine r_iconst (pc' := 46) C dX12_takesHead_45 rfl ?_
      obtain ⟨hi, hf⟩ := ck_in hf
      refine r_iast (pc' := 47) C (K_202 hF) rfl hi dX12_takesHead_46 rfl ?_
      refine r_aload_n (pc' := 48) (f4 := 0) (i := 0) C 0 rfl rfl dX12_takesHead_47 rfl ?_
      refine r_iconst (pc' := 49) C dX12_takesHead_48 rfl ?_
      refine r_iconst (pc' := 50) C dX12_takesHead_49 rfl ?_
      obtain ⟨q3, hq3, hf⟩ := bind_in hf
      refine q_callV (pc' := 53) C (t_m_takesWord hF hq3) rfl (K_193 hF) cl_12 wv_RX12_302 ⟨Nat.le_of_ble_eq_true rfl, Nat.le_of_ble_eq_true rfl⟩ rfl rfl (Nat.le_of_ble_eq_true rfl) dX12_takesHead_50 rfl ⟨Nat.le_of_ble_eq_true rfl, Nat.le_of_ble_eq_true rfl⟩ ?_
      obtain ⟨hz, hf⟩ := ckb_in hf
      cases hf
      exact r_zret C hz dX12_takesHead_53
    · rw [if_neg cs1] at hf
      by_cases cs2 : ww q1 = 110
      · rw [if_pos cs2] at hf
        refine r_ls (tgt := 68) C (off := 64) dX12_takesHead_4 rfl (by simp [Op.lookupswitch.offset, cs2]) (by decide) ?_
        refine r_aload_n (pc' := 69) (f4 := 0) (i := 0) C 0 rfl rfl dX12_takesHead_68 rfl ?_
        refine q_getP (pc' := 72) (j := 16) C (K_193 hF) fb_12_16 (by decide) wd_1187 (Or.inl rfl) (F_193_16 hF) (by decide) dX12_takesHead_69 rfl ?_
        refine r_iload_n (pc' := 73) (f4 := 1) (i := 1) C 1 rfl rfl dX12_takesHead_72 rfl ?_
        refine r_iconst (pc' := 74) C dX12_takesHead_73 rfl ?_
        obtain ⟨hi, hf⟩ := ck_in hf
        refine r_iast (pc' := 75) C (K_202 hF) rfl hi dX12_takesHead_74 rfl ?_
        refine r_aload_n (pc' := 76) (f4 := 0) (i := 0) C 0 rfl rfl dX12_takesHead_75 rfl ?_
        refine r_bipush (pc' := 78) C rfl dX12_takesHead_76 rfl ?_
        refine r_iconst (pc' := 79) C dX12_takesHead_78 rfl ?_
        obtain ⟨q4, hq4, hf⟩ := bind_in hf
        refine q_callV (pc' := 82) C (t_m_takesWord hF hq4) rfl (K_193 hF) cl_12 wv_RX12_302 ⟨Nat.le_of_ble_eq_true rfl, Nat.le_of_ble_eq_true rfl⟩ rfl rfl (Nat.le_of_ble_eq_true rfl) dX12_takesHead_79 rfl ⟨Nat.le_of_ble_eq_true rfl, Nat.le_of_ble_eq_true rfl⟩ ?_
        obtain ⟨hz, hf⟩ := ckb_in hf
        cases hf
        exact r_zret C hz dX12_takesHead_82
      · rw [if_neg cs2] at hf
        refine r_ls (tgt := 83) C (off := 79) dX12_takesHead_4 rfl (by simp [Op.lookupswitch.offset, Ne.symm cs0, Ne.symm cs1, Ne.symm cs2]) (by decide) ?_
        refine r_aload_n (pc' := 84) (f4 := 0) (i := 0) C 0 rfl rfl dX12_takesHead_83 rfl ?_
        refine q_getP (pc' := 87) (j := 16) C (K_193 hF) fb_12_16 (by decide) wd_1187 (Or.inl rfl) (F_193_16 hF) (by decide) dX12_takesHead_84 rfl ?_
        refine r_iload_n (pc' := 88) (f4 := 1) (i := 1) C 1 rfl rfl dX12_takesHead_87 rfl ?_
        refine r_iconst (pc' := 89) C dX12_takesHead_88 rfl ?_
        obtain ⟨hi, hf⟩ := ck_in hf
        refine r_iast (pc' := 90) C (K_202 hF) rfl hi dX12_takesHead_89 rfl ?_
        refine r_aload_n (pc' := 91) (f4 := 0) (i := 0) C 0 rfl rfl dX12_takesHead_90 rfl ?_
        refine r_bipush (pc' := 93) C rfl dX12_takesHead_91 rfl ?_
        refine r_iconst (pc' := 94) C dX12_takesHead_93 rfl ?_
        obtain ⟨q5, hq5, hf⟩ := bind_in hf
        refine q_callV (pc' := 97) C (t_m_takesWord hF hq5) rfl (K_193 hF) cl_12 wv_RX12_302 ⟨Nat.le_of_ble_eq_true rfl, Nat.le_of_ble_eq_true rfl⟩ rfl rfl (Nat.le_of_ble_eq_true rfl) dX12_takesHead_94 rfl ⟨Nat.le_of_ble_eq_true rfl, Nat.le_of_ble_eq_true rfl⟩ ?_
        obtain ⟨hz, hf⟩ := ckb_in hf
        cases hf
        exact r_zret C hz dX12_takesHead_97

/- WassailEnemiesModel.takesClause(I)Z -/
def m_takesClause (h : HH) (a1 : Int) : Option (Int × HH) :=
  (m_takesHead h a1).bind fun q1 => if ww q1.1 = 0 then (some (0, q1.2)) else ((m_takesNumber q1.2).bind fun q2 => if ww q2.1 = 0 then (some (0, q2.2)) else (ck (ww a1) 60 <| ck (ww a1) 60 <| if ww ((u2 q2.2 203 (ww a1) (q2.2 193 13)) 202 (ww a1)) < 2 then ((m_takes (u2 q2.2 203 (ww a1) (q2.2 193 13)) 32).bind fun q3 => if ww q3.1 = 0 then (some (0, q3.2)) else ((m_takesE q3.2 a1).bind fun q4 => if ww q4.1 = 0 then (some (0, q4.2)) else (some (1, q4.2)))) else (some (1, u2 q2.2 203 (ww a1) (q2.2 193 13)))))
abbrev rm_m_takesClause : Room := { frames := 5, cells := 0, slots := 0, locals := 109 }
set_option maxHeartbeats 4000000 in
set_option maxRecDepth 100000 in
theorem t_m_takesClause {S : SS} (hF : Fx S) {h : HH} {a1 : Int} {res : Int × HH} (hf : m_takesClause h a1 = some res) : CM yX12_takesClause cX12_takesClause 2 (some Jvm.ClassFile.FieldType.boolean) 5 109 0 0 (fun bs => [zP bs 193, zI a1]) h S (fun _ => some (zI res.1)) res.2 S := by
  refine CM.intro (own := RX12) (by decide) rfl (fun _ => Nat.le_of_ble_eq_true rfl) ?_
  intro D dT bs p l e s m args below meth c C
  show V D dT bs 2 p l e rm_m_takesClause s m args below meth c 0 0 _ h S 0 [(0, zP bs 193), (1, zI a1)] []
  unfold m_takesClause at hf
  refine r_aload_n (pc' := 1) (f4 := 0) (i := 0) C 0 rfl rfl dX12_takesClause_0 rfl ?_
  refine r_iload_n (pc' := 2) (f4 := 1) (i := 1) C 1 rfl rfl dX12_takesClause_1 rfl ?_
  obtain ⟨q1, hq1, hf⟩ := bind_in hf
  refine q_callV (pc' := 5) C (t_m_takesHead hF hq1) rfl (K_193 hF) cl_12 wv_RX12_305 ⟨Nat.le_of_ble_eq_true rfl, Nat.le_of_ble_eq_true rfl⟩ rfl rfl (Nat.le_of_ble_eq_true rfl) dX12_takesClause_2 rfl ⟨Nat.le_of_ble_eq_true rfl, Nat.le_of_ble_eq_true rfl⟩ ?_
  refine r_if_eq (pc' := 8) (tgt := 15) C rfl hf dX12_takesClause_5 (by decide) rfl (fun hf => ?_) (fun hf => ?_)
  · refine r_iconst (pc' := 16) C dX12_takesClause_15 rfl ?_
    cases hf
    exact r_zret C (Or.inl rfl) dX12_takesClause_16
  · refine r_aload_n (pc' := 9) (f4 := 0) (i := 0) C 0 rfl rfl dX12_takesClause_8 rfl ?_
    obtain ⟨q2, hq2, hf⟩ := bind_in hf
    refine q_callV (pc' := 12) C (t_m_takesNumber hF hq2) rfl (K_193 hF) cl_12 wv_RX12_290 ⟨Nat.le_of_ble_eq_true rfl, Nat.le_of_ble_eq_true rfl⟩ rfl rfl (Nat.le_of_ble_eq_true rfl) dX12_takesClause_9 rfl ⟨Nat.le_of_ble_eq_true rfl, Nat.le_of_ble_eq_true rfl⟩ ?_
    refine r_if_ne (pc' := 15) (tgt := 17) C rfl hf dX12_takesClause_12 (by decide) rfl (fun hf => ?_) (fun hf => ?_)
    · refine r_iconst (pc' := 16) C dX12_takesClause_15 rfl ?_
      cases hf
      exact r_zret C (Or.inl rfl) dX12_takesClause_16
    · refine r_aload_n (pc' := 18) (f4 := 0) (i := 0) C 0 rfl rfl dX12_takesClause_17 rfl ?_
      refine q_getP (pc' := 21) (j := 17) C (K_193 hF) fb_12_17 (by decide) wd_1188 (Or.inl rfl) (F_193_17 hF) (by decide) dX12_takesClause_18 rfl ?_
      refine r_iload_n (pc' := 22) (f4 := 1) (i := 1) C 1 rfl rfl dX12_takesClause_21 rfl ?_
      refine r_aload_n (pc' := 23) (f4 := 0) (i := 0) C 0 rfl rfl dX12_takesClause_22 rfl ?_
      refine q_getI (pc' := 26) (j := 13) C (K_193 hF) fb_12_13 wd_1184 (Or.inl rfl) dX12_takesClause_23 rfl ?_
      obtain ⟨hi, hf⟩ := ck_in hf
      refine r_iast (pc' := 27) C (K_203 hF) rfl hi dX12_takesClause_26 rfl ?_
      refine r_aload_n (pc' := 28) (f4 := 0) (i := 0) C 0 rfl rfl dX12_takesClause_27 rfl ?_
      refine q_getP (pc' := 31) (j := 16) C (K_193 hF) fb_12_16 (by decide) wd_1187 (Or.inl rfl) (F_193_16 hF) (by decide) dX12_takesClause_28 rfl ?_
      refine r_iload_n (pc' := 32) (f4 := 1) (i := 1) C 1 rfl rfl dX12_takesClause_31 rfl ?_
      obtain ⟨hi, hf⟩ := ck_in hf
      refine r_iald (pc' := 33) C (K_202 hF) rfl hi dX12_takesClause_32 rfl ?_
      refine r_iconst (pc' := 34) C dX12_takesClause_33 rfl ?_
      refine r_icmp_ge (pc' := 37) (tgt := 54) C rfl ww_n2 hf dX12_takesClause_34 (by decide) rfl (fun hf => ?_) (fun hf => ?_)
      · refine r_aload_n (pc' := 38) (f4 := 0) (i := 0) C 0 rfl rfl dX12_takesClause_37 rfl ?_
        refine r_bipush (pc' := 40) C rfl dX12_takesClause_38 rfl ?_
        obtain ⟨q3, hq3, hf⟩ := bind_in hf
        refine q_callV (pc' := 43) C (t_m_takes hF hq3) rfl (K_193 hF) cl_12 wv_RX12_275 ⟨Nat.le_of_ble_eq_true rfl, Nat.le_of_ble_eq_true rfl⟩ rfl rfl (Nat.le_of_ble_eq_true rfl) dX12_takesClause_40 rfl ⟨Nat.le_of_ble_eq_true rfl, Nat.le_of_ble_eq_true rfl⟩ ?_
        refine r_if_eq (pc' := 46) (tgt := 58) C rfl hf dX12_takesClause_43 (by decide) rfl (fun hf => ?_) (fun hf => ?_)
        · refine r_iconst (pc' := 59) C dX12_takesClause_58 rfl ?_
          cases hf
          exact r_zret C (Or.inl rfl) dX12_takesClause_59
        · refine r_aload_n (pc' := 47) (f4 := 0) (i := 0) C 0 rfl rfl dX12_takesClause_46 rfl ?_
          refine r_iload_n (pc' := 48) (f4 := 1) (i := 1) C 1 rfl rfl dX12_takesClause_47 rfl ?_
          obtain ⟨q4, hq4, hf⟩ := bind_in hf
          refine q_callV (pc' := 51) C (t_m_takesE hF hq4) rfl (K_193 hF) cl_12 wv_RX12_308 ⟨Nat.le_of_ble_eq_true rfl, Nat.le_of_ble_eq_true rfl⟩ rfl rfl (Nat.le_of_ble_eq_true rfl) dX12_takesClause_48 rfl ⟨Nat.le_of_ble_eq_true rfl, Nat.le_of_ble_eq_true rfl⟩ ?_
          refine r_if_eq (pc' := 54) (tgt := 58) C rfl hf dX12_takesClause_51 (by decide) rfl (fun hf => ?_) (fun hf => ?_)
          · refine r_iconst (pc' := 59) C dX12_takesClause_58 rfl ?_
            cases hf
            exact r_zret C (Or.inl rfl) dX12_takesClause_59
          · refine r_iconst (pc' := 55) C dX12_takesClause_54 rfl ?_
            refine r_goto (tgt := 59) C dX12_takesClause_55 (by decide) ?_
            cases hf
            exact r_zret C (Or.inr rfl) dX12_takesClause_59
      · refine r_iconst (pc' := 55) C dX12_takesClause_54 rfl ?_
        refine r_goto (tgt := 59) C dX12_takesClause_55 (by decide) ?_
        cases hf
        exact r_zret C (Or.inr rfl) dX12_takesClause_59

/- WassailEnemiesModel.goesText(I)Z -/
def m_goesText_L15 (x1 : Int) : Nat → HH → Int → Option (Int × HH)
  | 0, _, _ => none
  | n15 + 1, h, x2 =>
    (m_takesClause h ((10 * x1) + x2)).bind fun q1 => if ww q1.1 = 0 then (some (0, q1.2)) else (ck (ww x1) 6 <| if ww ((u2 q1.2 201 (ww x1) (x2 + 1)) 193 12) = ww ((u2 q1.2 201 (ww x1) (x2 + 1)) 193 11) then (some (1, u2 q1.2 201 (ww x1) (x2 + 1))) else (if ww (x2 + 1) = 10 then (some (0, u2 q1.2 201 (ww x1) (x2 + 1))) else ((m_takes (u2 q1.2 201 (ww x1) (x2 + 1)) 59).bind fun q2 => if ww q2.1 = 0 then (some (0, q2.2)) else (m_goesText_L15 x1 n15 q2.2 (x2 + 1)))))
def m_goesText (h : HH) (a1 : Int) : Option (Int × HH) :=
  m_goesText_L15 a1 FU (u2 (u2 h 193 12 0) 193 22 (100 * a1)) 0
abbrev rm_m_goesText : Room := { frames := 6, cells := 0, slots := 0, locals := 130 }
set_option maxHeartbeats 4000000 in
set_option maxRecDepth 100000 in
theorem w_m_goesText_L15 (hF : Fx S) (C : Cx D dT bs RX12 cX12_goesText 3 (some Jvm.ClassFile.FieldType.boolean) p s m args meth c) (x1 : Int) {res : (Int × HH)} :
    ∀ (n : Nat) (h : HH) (x2 : Int), m_goesText_L15 x1 n h x2 = some res → V D dT bs 3 p l e rm_m_goesText s m args below meth c 0 0 (MQ below (QQ D dT bs (some (zI res.1)) res.2 S) args s 0 0 (AA bs)) h S 15 [(0, zP bs 193), (1, zI x1), (2, zI x2)] [] := by
  intro n
  induction n with
  | zero => intro h x2 hf; simp [m_goesText_L15] at hf
  | succ n15 ih15 =>
    intro h x2 hf
    rw [m_goesText_L15] at hf
    refine r_aload_n (pc' := 16) (f4 := 0) (i := 0) C 0 rfl rfl dX12_goesText_15 rfl ?_
    refine r_bipush (pc' := 18) C rfl dX12_goesText_16 rfl ?_
    refine r_iload_n (pc' := 19) (f4 := 1) (i := 1) C 1 rfl rfl dX12_goesText_18 rfl ?_
    refine r_imul (pc' := 20) C dX12_goesText_19 rfl ?_
    refine r_iload_n (pc' := 21) (f4 := 2) (i := 2) C 2 rfl rfl dX12_goesText_20 rfl ?_
    refine r_iadd (pc' := 22) C dX12_goesText_21 rfl ?_
    obtain ⟨q1, hq1, hf⟩ := bind_in hf
    refine q_callV (pc' := 25) C (t_m_takesClause hF hq1) rfl (K_193 hF) cl_12 wv_RX12_311 ⟨Nat.le_of_ble_eq_true rfl, Nat.le_of_ble_eq_true rfl⟩ rfl rfl (Nat.le_of_ble_eq_true rfl) dX12_goesText_22 rfl ⟨Nat.le_of_ble_eq_true rfl, Nat.le_of_ble_eq_true rfl⟩ ?_
    refine r_if_ne (pc' := 28) (tgt := 30) C rfl hf dX12_goesText_25 (by decide) rfl (fun hf => ?_) (fun hf => ?_)
    · refine r_iconst (pc' := 29) C dX12_goesText_28 rfl ?_
      cases hf
      exact r_zret C (Or.inl rfl) dX12_goesText_29
    · refine r_iinc (pc' := 33) (i := 2) (L' := [(2, zI (x2 + 1)), (0, zP bs 193), (1, zI x1)]) C 2 rfl (by decide) rfl dX12_goesText_30 rfl ?_
      refine r_aload_n (pc' := 34) (f4 := 0) (i := 0) C 1 rfl rfl dX12_goesText_33 rfl ?_
      refine q_getP (pc' := 37) (j := 15) C (K_193 hF) fb_12_15 (by decide) wd_1186 (Or.inl rfl) (F_193_15 hF) (by decide) dX12_goesText_34 rfl ?_
      refine r_iload_n (pc' := 38) (f4 := 1) (i := 1) C 2 rfl rfl dX12_goesText_37 rfl ?_
      refine r_iload_n (pc' := 39) (f4 := 2) (i := 2) C 0 rfl rfl dX12_goesText_38 rfl ?_
      obtain ⟨hi, hf⟩ := ck_in hf
      refine r_iast (pc' := 40) C (K_201 hF) rfl hi dX12_goesText_39 rfl ?_
      refine r_aload_n (pc' := 41) (f4 := 0) (i := 0) C 1 rfl rfl dX12_goesText_40 rfl ?_
      refine q_getI (pc' := 44) (j := 12) C (K_193 hF) fb_12_12 wd_1183 (Or.inl rfl) dX12_goesText_41 rfl ?_
      refine r_aload_n (pc' := 45) (f4 := 0) (i := 0) C 1 rfl rfl dX12_goesText_44 rfl ?_
      refine q_getI (pc' := 48) (j := 11) C (K_193 hF) fb_12_11 wd_1182 (Or.inl rfl) dX12_goesText_45 rfl ?_
      refine r_icmp_ne (pc' := 51) (tgt := 53) C rfl rfl hf dX12_goesText_48 (by decide) rfl (fun hf => ?_) (fun hf => ?_)
      · refine r_iconst (pc' := 52) C dX12_goesText_51 rfl ?_
        cases hf
        exact r_zret C (Or.inr rfl) dX12_goesText_52
      · refine r_iload_n (pc' := 54) (f4 := 2) (i := 2) C 0 rfl rfl dX12_goesText_53 rfl ?_
        refine r_bipush (pc' := 56) C rfl dX12_goesText_54 rfl ?_
        refine r_icmp_eq (pc' := 59) (tgt := 68) C rfl ww_n10 hf dX12_goesText_56 (by decide) rfl (fun hf => ?_) (fun hf => ?_)
        · refine r_iconst (pc' := 69) C dX12_goesText_68 rfl ?_
          cases hf
          exact r_zret C (Or.inl rfl) dX12_goesText_69
        · refine r_aload_n (pc' := 60) (f4 := 0) (i := 0) C 1 rfl rfl dX12_goesText_59 rfl ?_
          refine r_bipush (pc' := 62) C rfl dX12_goesText_60 rfl ?_
          obtain ⟨q2, hq2, hf⟩ := bind_in hf
          refine q_callV (pc' := 65) C (t_m_takes hF hq2) rfl (K_193 hF) cl_12 wv_RX12_275 ⟨Nat.le_of_ble_eq_true rfl, Nat.le_of_ble_eq_true rfl⟩ rfl rfl (Nat.le_of_ble_eq_true rfl) dX12_goesText_62 rfl ⟨Nat.le_of_ble_eq_true rfl, Nat.le_of_ble_eq_true rfl⟩ ?_
          refine r_if_ne (pc' := 68) (tgt := 15) C rfl hf dX12_goesText_65 (by decide) rfl (fun hf => ?_) (fun hf => ?_)
          · refine r_iconst (pc' := 69) C dX12_goesText_68 rfl ?_
            cases hf
            exact r_zret C (Or.inl rfl) dX12_goesText_69
          · refine V.sub (L' := [(0, zP bs 193), (1, zI x1), (2, zI (x2 + 1))]) [1, 2, 0] rfl ?_
            exact ih15 _ _ hf
set_option maxHeartbeats 4000000 in
set_option maxRecDepth 100000 in
theorem t_m_goesText {S : SS} (hF : Fx S) {h : HH} {a1 : Int} {res : Int × HH} (hf : m_goesText h a1 = some res) : CM yX12_goesText cX12_goesText 3 (some Jvm.ClassFile.FieldType.boolean) 6 130 0 0 (fun bs => [zP bs 193, zI a1]) h S (fun _ => some (zI res.1)) res.2 S := by
  refine CM.intro (own := RX12) (by decide) rfl (fun _ => Nat.le_of_ble_eq_true rfl) ?_
  intro D dT bs p l e s m args below meth c C
  show V D dT bs 3 p l e rm_m_goesText s m args below meth c 0 0 _ h S 0 [(0, zP bs 193), (1, zI a1)] []
  unfold m_goesText at hf
  refine r_aload_n (pc' := 1) (f4 := 0) (i := 0) C 0 rfl rfl dX12_goesText_0 rfl ?_
  refine r_iconst (pc' := 2) C dX12_goesText_1 rfl ?_
  refine q_putI (pc' := 5) (j := 12) C (K_193 hF) fb_12_12 fp_12_12 wd_1183 (Or.inl rfl) (Or.inl rfl) rfl rfl dX12_goesText_2 rfl ?_
  refine r_aload_n (pc' := 6) (f4 := 0) (i := 0) C 0 rfl rfl dX12_goesText_5 rfl ?_
  refine r_bipush (pc' := 8) C rfl dX12_goesText_6 rfl ?_
  refine r_iload_n (pc' := 9) (f4 := 1) (i := 1) C 1 rfl rfl dX12_goesText_8 rfl ?_
  refine r_imul (pc' := 10) C dX12_goesText_9 rfl ?_
  refine q_putI (pc' := 13) (j := 22) C (K_193 hF) fb_12_22 fp_12_22 wd_1193 (Or.inl rfl) (Or.inl rfl) rfl rfl dX12_goesText_10 rfl ?_
  refine r_iconst (pc' := 14) C dX12_goesText_13 rfl ?_
  refine r_istore_n (pc' := 15) (f4 := 2) (i := 2) (L' := [(2, zI 0), (0, zP bs 193), (1, zI a1)]) C rfl (by decide) rfl dX12_goesText_14 rfl ?_
  refine V.sub (L' := [(0, zP bs 193), (1, zI a1), (2, zI 0)]) [1, 2, 0] rfl ?_
  refine w_m_goesText_L15 hF C _ _ _ _ hf

/- WassailEnemiesModel.orchard()I -/
def m_orchard (h : HH) : Option (Int × HH) :=
  if ww (h 193 9) = 6 then (some (-4, h)) else ((m_goesText h (h 193 9)).bind fun q1 => if ww q1.1 = 0 then (some ((-10) - ((u2 q1.2 193 11 0) 193 12), u2 q1.2 193 11 0)) else (some ((u2 (u2 (u2 q1.2 193 11 0) 193 10 ((u2 q1.2 193 11 0) 193 9)) 193 9 (((u2 (u2 q1.2 193 11 0) 193 10 ((u2 q1.2 193 11 0) 193 9)) 193 9) + 1)) 193 10, u2 (u2 (u2 q1.2 193 11 0) 193 10 ((u2 q1.2 193 11 0) 193 9)) 193 9 (((u2 (u2 q1.2 193 11 0) 193 10 ((u2 q1.2 193 11 0) 193 9)) 193 9) + 1))))
abbrev rm_m_orchard : Room := { frames := 7, cells := 0, slots := 0, locals := 152 }
set_option maxHeartbeats 4000000 in
set_option maxRecDepth 100000 in
theorem t_m_orchard {S : SS} (hF : Fx S) {h : HH} {res : Int × HH} (hf : m_orchard h = some res) : CM yX12_orchard cX12_orchard 2 (some Jvm.ClassFile.FieldType.int) 7 152 0 0 (fun bs => [zP bs 193]) h S (fun _ => some (zI res.1)) res.2 S := by
  refine CM.intro (own := RX12) (by decide) rfl (fun _ => Nat.le_of_ble_eq_true rfl) ?_
  intro D dT bs p l e s m args below meth c C
  show V D dT bs 2 p l e rm_m_orchard s m args below meth c 0 0 _ h S 0 [(0, zP bs 193)] []
  unfold m_orchard at hf
  refine r_aload_n (pc' := 1) (f4 := 0) (i := 0) C 0 rfl rfl dX12_orchard_0 rfl ?_
  refine q_getI (pc' := 4) (j := 9) C (K_193 hF) fb_12_9 wd_1180 (Or.inl rfl) dX12_orchard_1 rfl ?_
  refine r_bipush (pc' := 6) C rfl dX12_orchard_4 rfl ?_
  refine r_icmp_ne (pc' := 9) (tgt := 12) C rfl ww_n6 hf dX12_orchard_6 (by decide) rfl (fun hf => ?_) (fun hf => ?_)
  · refine r_bipush (pc' := 11) C rfl dX12_orchard_9 rfl ?_
    cases hf
    exact r_iret C dX12_orchard_11
  · refine r_aload_n (pc' := 13) (f4 := 0) (i := 0) C 0 rfl rfl dX12_orchard_12 rfl ?_
    refine r_aload_n (pc' := 14) (f4 := 0) (i := 0) C 0 rfl rfl dX12_orchard_13 rfl ?_
    refine q_getI (pc' := 17) (j := 9) C (K_193 hF) fb_12_9 wd_1180 (Or.inl rfl) dX12_orchard_14 rfl ?_
    obtain ⟨q1, hq1, hf⟩ := bind_in hf
    refine q_callV (pc' := 20) C (t_m_goesText hF hq1) rfl (K_193 hF) cl_12 wv_RX12_314 ⟨Nat.le_of_ble_eq_true rfl, Nat.le_of_ble_eq_true rfl⟩ rfl rfl (Nat.le_of_ble_eq_true rfl) dX12_orchard_17 rfl ⟨Nat.le_of_ble_eq_true rfl, Nat.le_of_ble_eq_true rfl⟩ ?_
    refine r_istore_n (pc' := 21) (f4 := 1) (i := 1) (L' := [(1, zI q1.1), (0, zP bs 193)]) C rfl (by decide) rfl dX12_orchard_20 rfl ?_
    refine r_aload_n (pc' := 22) (f4 := 0) (i := 0) C 1 rfl rfl dX12_orchard_21 rfl ?_
    refine r_iconst (pc' := 23) C dX12_orchard_22 rfl ?_
    refine q_putI (pc' := 26) (j := 11) C (K_193 hF) fb_12_11 fp_12_11 wd_1182 (Or.inl rfl) (Or.inl rfl) rfl rfl dX12_orchard_23 rfl ?_
    refine r_iload_n (pc' := 27) (f4 := 1) (i := 1) C 0 rfl rfl dX12_orchard_26 rfl ?_
    refine r_if_ne (pc' := 30) (tgt := 38) C rfl hf dX12_orchard_27 (by decide) rfl (fun hf => ?_) (fun hf => ?_)
    · refine r_bipush (pc' := 32) C rfl dX12_orchard_30 rfl ?_
      refine r_aload_n (pc' := 33) (f4 := 0) (i := 0) C 1 rfl rfl dX12_orchard_32 rfl ?_
      refine q_getI (pc' := 36) (j := 12) C (K_193 hF) fb_12_12 wd_1183 (Or.inl rfl) dX12_orchard_33 rfl ?_
      refine r_isub (pc' := 37) C dX12_orchard_36 rfl ?_
      cases hf
      exact r_iret C dX12_orchard_37
    · refine r_aload_n (pc' := 39) (f4 := 0) (i := 0) C 1 rfl rfl dX12_orchard_38 rfl ?_
      refine r_aload_n (pc' := 40) (f4 := 0) (i := 0) C 1 rfl rfl dX12_orchard_39 rfl ?_
      refine q_getI (pc' := 43) (j := 9) C (K_193 hF) fb_12_9 wd_1180 (Or.inl rfl) dX12_orchard_40 rfl ?_
      refine q_putI (pc' := 46) (j := 10) C (K_193 hF) fb_12_10 fp_12_10 wd_1181 (Or.inl rfl) (Or.inl rfl) rfl rfl dX12_orchard_43 rfl ?_
      refine r_aload_n (pc' := 47) (f4 := 0) (i := 0) C 1 rfl rfl dX12_orchard_46 rfl ?_
      refine r_dup (pc' := 48) C rfl dX12_orchard_47 rfl ?_
      refine q_getI (pc' := 51) (j := 9) C (K_193 hF) fb_12_9 wd_1180 (Or.inl rfl) dX12_orchard_48 rfl ?_
      refine r_iconst (pc' := 52) C dX12_orchard_51 rfl ?_
      refine r_iadd (pc' := 53) C dX12_orchard_52 rfl ?_
      refine q_putI (pc' := 56) (j := 9) C (K_193 hF) fb_12_9 fp_12_9 wd_1180 (Or.inl rfl) (Or.inl rfl) rfl rfl dX12_orchard_53 rfl ?_
      refine r_aload_n (pc' := 57) (f4 := 0) (i := 0) C 1 rfl rfl dX12_orchard_56 rfl ?_
      refine q_getI (pc' := 60) (j := 10) C (K_193 hF) fb_12_10 wd_1181 (Or.inl rfl) dX12_orchard_57 rfl ?_
      cases hf
      exact r_iret C dX12_orchard_60

/- WassailEnemiesModel.begin()I -/
def m_begin (h : HH) : Int :=
  if ww (h 193 10) < 0 then (0) else (10 * (h 193 10))
abbrev rm_m_begin : Room := { frames := 0, cells := 0, slots := 0, locals := 0 }
set_option maxHeartbeats 4000000 in
set_option maxRecDepth 100000 in
theorem t_m_begin {S : SS} (hF : Fx S) {h : HH} : CM yX12_begin cX12_begin 1 (some Jvm.ClassFile.FieldType.int) 0 0 0 0 (fun bs => [zP bs 193]) h S (fun _ => some (zI (m_begin h))) h S := by
  refine CM.intro (own := RX12) (by decide) rfl (fun _ => Nat.le_of_ble_eq_true rfl) ?_
  intro D dT bs p l e s m args below meth c C
  show V D dT bs 1 p l e rm_m_begin s m args below meth c 0 0 _ h S 0 [(0, zP bs 193)] []
  obtain ⟨res, hf⟩ : ∃ r, m_begin h = r := ⟨_, rfl⟩
  rw [hf]
  unfold m_begin at hf
  refine r_aload_n (pc' := 1) (f4 := 0) (i := 0) C 0 rfl rfl dX12_begin_0 rfl ?_
  refine q_getI (pc' := 4) (j := 10) C (K_193 hF) fb_12_10 wd_1181 (Or.inl rfl) dX12_begin_1 rfl ?_
  refine r_if_ge (pc' := 7) (tgt := 11) C rfl hf dX12_begin_4 (by decide) rfl (fun hf => ?_) (fun hf => ?_)
  · refine r_iconst (pc' := 8) C dX12_begin_7 rfl ?_
    refine r_goto (tgt := 18) C dX12_begin_8 (by decide) ?_
    subst hf
    exact r_iret C dX12_begin_18
  · refine r_bipush (pc' := 13) C rfl dX12_begin_11 rfl ?_
    refine r_aload_n (pc' := 14) (f4 := 0) (i := 0) C 0 rfl rfl dX12_begin_13 rfl ?_
    refine q_getI (pc' := 17) (j := 10) C (K_193 hF) fb_12_10 wd_1181 (Or.inl rfl) dX12_begin_14 rfl ?_
    refine r_imul (pc' := 18) C dX12_begin_17 rfl ?_
    subst hf
    exact r_iret C dX12_begin_18

/- WassailEnemiesModel.behind()I -/
def m_behind (h : HH) : Option Int :=
  if ww (h 193 10) < 0 then (some 0) else (ck (ww (h 193 10)) 6 <| some ((10 * (h 193 10)) + (h 201 (ww (h 193 10)))))
abbrev rm_m_behind : Room := { frames := 0, cells := 0, slots := 0, locals := 0 }
set_option maxHeartbeats 4000000 in
set_option maxRecDepth 100000 in
theorem t_m_behind {S : SS} (hF : Fx S) {h : HH} {res : Int} (hf : m_behind h = some res) : CM yX12_behind cX12_behind 1 (some Jvm.ClassFile.FieldType.int) 0 0 0 0 (fun bs => [zP bs 193]) h S (fun _ => some (zI res)) h S := by
  refine CM.intro (own := RX12) (by decide) rfl (fun _ => Nat.le_of_ble_eq_true rfl) ?_
  intro D dT bs p l e s m args below meth c C
  show V D dT bs 1 p l e rm_m_behind s m args below meth c 0 0 _ h S 0 [(0, zP bs 193)] []
  unfold m_behind at hf
  refine r_aload_n (pc' := 1) (f4 := 0) (i := 0) C 0 rfl rfl dX12_behind_0 rfl ?_
  refine q_getI (pc' := 4) (j := 10) C (K_193 hF) fb_12_10 wd_1181 (Or.inl rfl) dX12_behind_1 rfl ?_
  refine r_if_ge (pc' := 7) (tgt := 11) C rfl hf dX12_behind_4 (by decide) rfl (fun hf => ?_) (fun hf => ?_)
  · refine r_iconst (pc' := 8) C dX12_behind_7 rfl ?_
    refine r_goto (tgt := 28) C dX12_behind_8 (by decide) ?_
    cases hf
    exact r_iret C dX12_behind_28
  · refine r_bipush (pc' := 13) C rfl dX12_behind_11 rfl ?_
    refine r_aload_n (pc' := 14) (f4 := 0) (i := 0) C 0 rfl rfl dX12_behind_13 rfl ?_
    refine q_getI (pc' := 17) (j := 10) C (K_193 hF) fb_12_10 wd_1181 (Or.inl rfl) dX12_behind_14 rfl ?_
    refine r_imul (pc' := 18) C dX12_behind_17 rfl ?_
    refine r_aload_n (pc' := 19) (f4 := 0) (i := 0) C 0 rfl rfl dX12_behind_18 rfl ?_
    refine q_getP (pc' := 22) (j := 15) C (K_193 hF) fb_12_15 (by decide) wd_1186 (Or.inl rfl) (F_193_15 hF) (by decide) dX12_behind_19 rfl ?_
    refine r_aload_n (pc' := 23) (f4 := 0) (i := 0) C 0 rfl rfl dX12_behind_22 rfl ?_
    refine q_getI (pc' := 26) (j := 10) C (K_193 hF) fb_12_10 wd_1181 (Or.inl rfl) dX12_behind_23 rfl ?_
    obtain ⟨hi, hf⟩ := ck_in hf
    refine r_iald (pc' := 27) C (K_201 hF) rfl hi dX12_behind_26 rfl ?_
    refine r_iadd (pc' := 28) C dX12_behind_27 rfl ?_
    cases hf
    exact r_iret C dX12_behind_28

/- WassailEnemiesModel.lastOf(II)I -/
def m_lastOf_L8 (h : HH) (x1 : Int) : Nat → Int → Int → Option Int
  | 0, _, _ => none
  | n8 + 1, x3, x4 =>
    (m_behind h).bind fun q1 => if ww x4 < ww q1 then (ck (ww x4) 60 <| if ww (h 202 (ww x4)) = ww x1 then (ck (ww x4) 60 <| m_lastOf_L8 h x1 n8 (h 203 (ww x4)) (x4 + 1)) else (m_lastOf_L8 h x1 n8 x3 (x4 + 1))) else (some x3)
def m_lastOf (h : HH) (a1 : Int) (a2 : Int) : Option Int :=
  m_lastOf_L8 h a1 FU a2 (m_begin h)
abbrev rm_m_lastOf : Room := { frames := 1, cells := 0, slots := 0, locals := 20 }
set_option maxHeartbeats 4000000 in
set_option maxRecDepth 100000 in
theorem w_m_lastOf_L8 (hF : Fx S) (C : Cx D dT bs RX12 cX12_lastOf 5 (some Jvm.ClassFile.FieldType.int) p s m args meth c) {h : HH} (x1 : Int) {res : Int} :
    ∀ (n : Nat) (x3 : Int) (x4 : Int), m_lastOf_L8 h x1 n x3 x4 = some res → V D dT bs 5 p l e rm_m_lastOf s m args below meth c 0 0 (MQ below (QQ D dT bs (some (zI res)) h S) args s 0 0 (AA bs)) h S 8 [(0, zP bs 193), (1, zI x1), (3, zI x3), (4, zI x4)] [] := by
  intro n
  induction n with
  | zero => intro x3 x4 hf; simp [m_lastOf_L8] at hf
  | succ n8 ih8 =>
    intro x3 x4 hf
    rw [m_lastOf_L8] at hf
    refine r_iload (pc' := 10) (i := 4) C 3 rfl dX12_lastOf_8 rfl ?_
    refine r_aload_n (pc' := 11) (f4 := 0) (i := 0) C 0 rfl rfl dX12_lastOf_10 rfl ?_
    obtain ⟨q1, hq1, hf⟩ := bind_in hf
    refine q_callV (pc' := 14) C (t_m_behind hF hq1) rfl (K_193 hF) cl_12 wv_RX12_320 ⟨Nat.le_of_ble_eq_true rfl, Nat.le_of_ble_eq_true rfl⟩ rfl rfl (Nat.le_of_ble_eq_true rfl) dX12_lastOf_11 rfl ⟨Nat.le_of_ble_eq_true rfl, Nat.le_of_ble_eq_true rfl⟩ ?_
    refine r_icmp_ge (pc' := 17) (tgt := 46) C rfl rfl hf dX12_lastOf_14 (by decide) rfl (fun hf => ?_) (fun hf => ?_)
    · refine r_aload_n (pc' := 18) (f4 := 0) (i := 0) C 0 rfl rfl dX12_lastOf_17 rfl ?_
      refine q_getP (pc' := 21) (j := 16) C (K_193 hF) fb_12_16 (by decide) wd_1187 (Or.inl rfl) (F_193_16 hF) (by decide) dX12_lastOf_18 rfl ?_
      refine r_iload (pc' := 23) (i := 4) C 3 rfl dX12_lastOf_21 rfl ?_
      obtain ⟨hi, hf⟩ := ck_in hf
      refine r_iald (pc' := 24) C (K_202 hF) rfl hi dX12_lastOf_23 rfl ?_
      refine r_iload_n (pc' := 25) (f4 := 1) (i := 1) C 1 rfl rfl dX12_lastOf_24 rfl ?_
      refine r_icmp_ne (pc' := 28) (tgt := 38) C rfl rfl hf dX12_lastOf_25 (by decide) rfl (fun hf => ?_) (fun hf => ?_)
      · refine r_aload_n (pc' := 29) (f4 := 0) (i := 0) C 0 rfl rfl dX12_lastOf_28 rfl ?_
        refine q_getP (pc' := 32) (j := 17) C (K_193 hF) fb_12_17 (by decide) wd_1188 (Or.inl rfl) (F_193_17 hF) (by decide) dX12_lastOf_29 rfl ?_
        refine r_iload (pc' := 34) (i := 4) C 3 rfl dX12_lastOf_32 rfl ?_
        obtain ⟨hi, hf⟩ := ck_in hf
        refine r_iald (pc' := 35) C (K_203 hF) rfl hi dX12_lastOf_34 rfl ?_
        refine r_goto (tgt := 39) C dX12_lastOf_35 (by decide) ?_
        refine r_istore_n (pc' := 40) (f4 := 3) (i := 3) (L' := [(3, zI (h 203 (ww x4))), (0, zP bs 193), (1, zI x1), (4, zI x4)]) C rfl (by decide) rfl dX12_lastOf_39 rfl ?_
        refine r_iinc (pc' := 43) (i := 4) (L' := [(4, zI (x4 + 1)), (3, zI (h 203 (ww x4))), (0, zP bs 193), (1, zI x1)]) C 3 rfl (by decide) rfl dX12_lastOf_40 rfl ?_
        refine r_goto (tgt := 8) C dX12_lastOf_43 (by decide) ?_
        refine V.sub (L' := [(0, zP bs 193), (1, zI x1), (3, zI (h 203 (ww x4))), (4, zI (x4 + 1))]) [2, 3, 1, 0] rfl ?_
        exact ih8 _ _ hf
      · refine r_iload_n (pc' := 39) (f4 := 3) (i := 3) C 2 rfl rfl dX12_lastOf_38 rfl ?_
        refine r_istore_n (pc' := 40) (f4 := 3) (i := 3) (L' := [(3, zI x3), (0, zP bs 193), (1, zI x1), (4, zI x4)]) C rfl (by decide) rfl dX12_lastOf_39 rfl ?_
        refine r_iinc (pc' := 43) (i := 4) (L' := [(4, zI (x4 + 1)), (3, zI x3), (0, zP bs 193), (1, zI x1)]) C 3 rfl (by decide) rfl dX12_lastOf_40 rfl ?_
        refine r_goto (tgt := 8) C dX12_lastOf_43 (by decide) ?_
        refine V.sub (L' := [(0, zP bs 193), (1, zI x1), (3, zI x3), (4, zI (x4 + 1))]) [2, 3, 1, 0] rfl ?_
        exact ih8 _ _ hf
    · refine r_iload_n (pc' := 47) (f4 := 3) (i := 3) C 2 rfl rfl dX12_lastOf_46 rfl ?_
      cases hf
      exact r_iret C dX12_lastOf_47
set_option maxHeartbeats 4000000 in
set_option maxRecDepth 100000 in
theorem t_m_lastOf {S : SS} (hF : Fx S) {h : HH} {a1 : Int} {a2 : Int} {res : Int} (hf : m_lastOf h a1 a2 = some res) : CM yX12_lastOf cX12_lastOf 5 (some Jvm.ClassFile.FieldType.int) 1 20 0 0 (fun bs => [zP bs 193, zI a1, zI a2]) h S (fun _ => some (zI res)) h S := by
  refine CM.intro (own := RX12) (by decide) rfl (fun _ => Nat.le_of_ble_eq_true rfl) ?_
  intro D dT bs p l e s m args below meth c C
  show V D dT bs 5 p l e rm_m_lastOf s m args below meth c 0 0 _ h S 0 [(0, zP bs 193), (1, zI a1), (2, zI a2)] []
  unfold m_lastOf at hf
  refine r_iload_n (pc' := 1) (f4 := 2) (i := 2) C 2 rfl rfl dX12_lastOf_0 rfl ?_
  refine r_istore_n (pc' := 2) (f4 := 3) (i := 3) (L' := [(3, zI a2), (0, zP bs 193), (1, zI a1), (2, zI a2)]) C rfl (by decide) rfl dX12_lastOf_1 rfl ?_
  refine r_aload_n (pc' := 3) (f4 := 0) (i := 0) C 1 rfl rfl dX12_lastOf_2 rfl ?_
  refine q_callV (pc' := 6) C (t_m_begin hF) rfl (K_193 hF) cl_12 wv_RX12_317 ⟨Nat.le_of_ble_eq_true rfl, Nat.le_of_ble_eq_true rfl⟩ rfl rfl (Nat.le_of_ble_eq_true rfl) dX12_lastOf_3 rfl ⟨Nat.le_of_ble_eq_true rfl, Nat.le_of_ble_eq_true rfl⟩ ?_
  refine r_istore (pc' := 8) (i := 4) (L' := [(4, zI (m_begin h)), (3, zI a2), (0, zP bs 193), (1, zI a1), (2, zI a2)]) C (by decide) rfl dX12_lastOf_6 rfl ?_
  refine V.sub (L' := [(0, zP bs 193), (1, zI a1), (3, zI a2), (4, zI (m_begin h))]) [2, 3, 1, 0] rfl ?_
  refine w_m_lastOf_L8 hF C _ _ _ _ hf

/- WassailEnemiesModel.need()I -/
def m_need (h : HH) : Option Int :=
  (m_lastOf h 2 20).bind fun q1 => some q1
abbrev rm_m_need : Room := { frames := 2, cells := 0, slots := 0, locals := 44 }
set_option maxHeartbeats 4000000 in
set_option maxRecDepth 100000 in
theorem t_m_need {S : SS} (hF : Fx S) {h : HH} {res : Int} (hf : m_need h = some res) : CM yX12_need cX12_need 1 (some Jvm.ClassFile.FieldType.int) 2 44 0 0 (fun bs => [zP bs 193]) h S (fun _ => some (zI res)) h S := by
  refine CM.intro (own := RX12) (by decide) rfl (fun _ => Nat.le_of_ble_eq_true rfl) ?_
  intro D dT bs p l e s m args below meth c C
  show V D dT bs 1 p l e rm_m_need s m args below meth c 0 0 _ h S 0 [(0, zP bs 193)] []
  unfold m_need at hf
  refine r_aload_n (pc' := 1) (f4 := 0) (i := 0) C 0 rfl rfl dX12_need_0 rfl ?_
  refine r_iconst (pc' := 2) C dX12_need_1 rfl ?_
  refine r_bipush (pc' := 4) C rfl dX12_need_2 rfl ?_
  obtain ⟨q1, hq1, hf⟩ := bind_in hf
  refine q_callV (pc' := 7) C (t_m_lastOf hF hq1) rfl (K_193 hF) cl_12 wv_RX12_323 ⟨Nat.le_of_ble_eq_true rfl, Nat.le_of_ble_eq_true rfl⟩ rfl rfl (Nat.le_of_ble_eq_true rfl) dX12_need_4 rfl ⟨Nat.le_of_ble_eq_true rfl, Nat.le_of_ble_eq_true rfl⟩ ?_
  cases hf
  exact r_iret C dX12_need_7

/- WassailEnemiesModel.wear()I -/
def m_wear (h : HH) : Option Int :=
  (m_lastOf h 3 3).bind fun q1 => some q1
abbrev rm_m_wear : Room := { frames := 2, cells := 0, slots := 0, locals := 44 }
set_option maxHeartbeats 4000000 in
set_option maxRecDepth 100000 in
theorem t_m_wear {S : SS} (hF : Fx S) {h : HH} {res : Int} (hf : m_wear h = some res) : CM yX12_wear cX12_wear 1 (some Jvm.ClassFile.FieldType.int) 2 44 0 0 (fun bs => [zP bs 193]) h S (fun _ => some (zI res)) h S := by
  refine CM.intro (own := RX12) (by decide) rfl (fun _ => Nat.le_of_ble_eq_true rfl) ?_
  intro D dT bs p l e s m args below meth c C
  show V D dT bs 1 p l e rm_m_wear s m args below meth c 0 0 _ h S 0 [(0, zP bs 193)] []
  unfold m_wear at hf
  refine r_aload_n (pc' := 1) (f4 := 0) (i := 0) C 0 rfl rfl dX12_wear_0 rfl ?_
  refine r_iconst (pc' := 2) C dX12_wear_1 rfl ?_
  refine r_iconst (pc' := 3) C dX12_wear_2 rfl ?_
  obtain ⟨q1, hq1, hf⟩ := bind_in hf
  refine q_callV (pc' := 6) C (t_m_lastOf hF hq1) rfl (K_193 hF) cl_12 wv_RX12_323 ⟨Nat.le_of_ble_eq_true rfl, Nat.le_of_ble_eq_true rfl⟩ rfl rfl (Nat.le_of_ble_eq_true rfl) dX12_wear_3 rfl ⟨Nat.le_of_ble_eq_true rfl, Nat.le_of_ble_eq_true rfl⟩ ?_
  cases hf
  exact r_iret C dX12_wear_6

/- WassailEnemiesModel.factOf(III)I -/
def m_factOf (h : HH) (a1 : Int) (a2 : Int) (a3 : Int) : Option Int :=
  if ww a1 = 0 then (some a2) else (if ww a1 = 1 then (some a3) else (if ww a1 = 2 then (ck (ww a2) 6 <| some (h 194 (ww a2))) else (if ww a1 = 3 then (ck (ww a2) 6 <| some (h 195 (ww a2))) else (if ww a1 = 4 then (ck (ww ((5 * a2) + a3)) 30 <| some (zdiv (h 196 (ww ((5 * a2) + a3))) 10)) else (some (zrem (h 193 2) 10))))))
abbrev rm_m_factOf : Room := { frames := 0, cells := 0, slots := 0, locals := 0 }
set_option maxHeartbeats 4000000 in
set_option maxRecDepth 100000 in
theorem t_m_factOf {S : SS} (hF : Fx S) {h : HH} {a1 : Int} {a2 : Int} {a3 : Int} {res : Int} (hf : m_factOf h a1 a2 a3 = some res) : CM yX12_factOf cX12_factOf 4 (some Jvm.ClassFile.FieldType.int) 0 0 0 0 (fun bs => [zP bs 193, zI a1, zI a2, zI a3]) h S (fun _ => some (zI res)) h S := by
  refine CM.intro (own := RX12) (by decide) rfl (fun _ => Nat.le_of_ble_eq_true rfl) ?_
  intro D dT bs p l e s m args below meth c C
  show V D dT bs 4 p l e rm_m_factOf s m args below meth c 0 0 _ h S 0 [(0, zP bs 193), (1, zI a1), (2, zI a2), (3, zI a3)] []
  unfold m_factOf at hf
  refine r_iload_n (pc' := 1) (f4 := 1) (i := 1) C 1 rfl rfl dX12_factOf_0 rfl ?_
  by_cases cs0 : ww a1 = 0
  · rw [if_pos cs0] at hf
    refine r_tsIn (tgt := 36) C 0 cs0 dX12_factOf_1 (by decide) (by decide) rfl (by decide) ?_
    refine r_iload_n (pc' := 37) (f4 := 2) (i := 2) C 2 rfl rfl dX12_factOf_36 rfl ?_
    cases hf
    exact r_iret C dX12_factOf_37
  · rw [if_neg cs0] at hf
    by_cases cs1 : ww a1 = 1
    · rw [if_pos cs1] at hf
      refine r_tsIn (tgt := 38) C 1 cs1 dX12_factOf_1 (by decide) (by decide) rfl (by decide) ?_
      refine r_iload_n (pc' := 39) (f4 := 3) (i := 3) C 3 rfl rfl dX12_factOf_38 rfl ?_
      cases hf
      exact r_iret C dX12_factOf_39
    · rw [if_neg cs1] at hf
      by_cases cs2 : ww a1 = 2
      · rw [if_pos cs2] at hf
        refine r_tsIn (tgt := 40) C 2 cs2 dX12_factOf_1 (by decide) (by decide) rfl (by decide) ?_
        refine r_aload_n (pc' := 41) (f4 := 0) (i := 0) C 0 rfl rfl dX12_factOf_40 rfl ?_
        refine q_getP (pc' := 44) (j := 3) C (K_193 hF) fb_12_3 (by decide) wd_1174 (Or.inl rfl) (F_193_3 hF) (by decide) dX12_factOf_41 rfl ?_
        refine r_iload_n (pc' := 45) (f4 := 2) (i := 2) C 2 rfl rfl dX12_factOf_44 rfl ?_
        obtain ⟨hi, hf⟩ := ck_in hf
        refine r_iald (pc' := 46) C (K_194 hF) rfl hi dX12_factOf_45 rfl ?_
        cases hf
        exact r_iret C dX12_factOf_46
      · rw [if_neg cs2] at hf
        by_cases cs3 : ww a1 = 3
        · rw [if_pos cs3] at hf
          refine r_tsIn (tgt := 47) C 3 cs3 dX12_factOf_1 (by decide) (by decide) rfl (by decide) ?_
          refine r_aload_n (pc' := 48) (f4 := 0) (i := 0) C 0 rfl rfl dX12_factOf_47 rfl ?_
          refine q_getP (pc' := 51) (j := 4) C (K_193 hF) fb_12_4 (by decide) wd_1175 (Or.inl rfl) (F_193_4 hF) (by decide) dX12_factOf_48 rfl ?_
          refine r_iload_n (pc' := 52) (f4 := 2) (i := 2) C 2 rfl rfl dX12_factOf_51 rfl ?_
          obtain ⟨hi, hf⟩ := ck_in hf
          refine r_iald (pc' := 53) C (K_195 hF) rfl hi dX12_factOf_52 rfl ?_
          cases hf
          exact r_iret C dX12_factOf_53
        · rw [if_neg cs3] at hf
          by_cases cs4 : ww a1 = 4
          · rw [if_pos cs4] at hf
            refine r_tsIn (tgt := 54) C 4 cs4 dX12_factOf_1 (by decide) (by decide) rfl (by decide) ?_
            refine r_aload_n (pc' := 55) (f4 := 0) (i := 0) C 0 rfl rfl dX12_factOf_54 rfl ?_
            refine q_getP (pc' := 58) (j := 5) C (K_193 hF) fb_12_5 (by decide) wd_1176 (Or.inl rfl) (F_193_5 hF) (by decide) dX12_factOf_55 rfl ?_
            refine r_iconst (pc' := 59) C dX12_factOf_58 rfl ?_
            refine r_iload_n (pc' := 60) (f4 := 2) (i := 2) C 2 rfl rfl dX12_factOf_59 rfl ?_
            refine r_imul (pc' := 61) C dX12_factOf_60 rfl ?_
            refine r_iload_n (pc' := 62) (f4 := 3) (i := 3) C 3 rfl rfl dX12_factOf_61 rfl ?_
            refine r_iadd (pc' := 63) C dX12_factOf_62 rfl ?_
            obtain ⟨hi, hf⟩ := ck_in hf
            refine r_iald (pc' := 64) C (K_196 hF) rfl hi dX12_factOf_63 rfl ?_
            refine r_bipush (pc' := 66) C rfl dX12_factOf_64 rfl ?_
            refine r_idiv (pc' := 67) C ww_n10 (by decide) dX12_factOf_66 rfl ?_
            cases hf
            exact r_iret C dX12_factOf_67
          · rw [if_neg cs4] at hf
            refine r_tsOut (tgt := 68) C dX12_factOf_1 (by omega) (by decide) ?_
            refine r_aload_n (pc' := 69) (f4 := 0) (i := 0) C 0 rfl rfl dX12_factOf_68 rfl ?_
            refine q_getI (pc' := 72) (j := 2) C (K_193 hF) fb_12_2 wd_1173 (Or.inl rfl) dX12_factOf_69 rfl ?_
            refine r_bipush (pc' := 74) C rfl dX12_factOf_72 rfl ?_
            refine r_irem (pc' := 75) C ww_n10 (by decide) dX12_factOf_74 rfl ?_
            cases hf
            exact r_iret C dX12_factOf_75
end
