section
variable {D : va_G} {dT : ZT} {bs : Nat} {p : Program} {l : Launch} {e : Env} {s : State} {m : MethodId} {args : Array Value} {below : List Frame} {meth : Method} {c : Code} {S : SS}
/- WassailEnemiesModel.undo()I -/
def m_undo_L68 (k104 : HH → Option (Int × HH)) : Nat → HH → Int → Option (Int × HH)
  | 0, _, _ => none
  | n68 + 1, h, x1 =>
    if ww x1 < 6 then (ck (ww x1) 6 <| ck (ww x1) 6 <| ck (ww x1) 6 <| ck (ww x1) 6 <| m_undo_L68 k104 n68 (u2 (u2 h 194 (ww x1) (h 224 (ww x1))) 195 (ww x1) ((u2 h 194 (ww x1) (h 224 (ww x1))) 225 (ww x1))) (x1 + 1)) else (k104 h)
def m_undo_L106 (k130 : HH → Option (Int × HH)) : Nat → HH → Int → Option (Int × HH)
  | 0, _, _ => none
  | n106 + 1, h, x1 =>
    if ww x1 < 30 then (ck (ww x1) 30 <| ck (ww x1) 30 <| m_undo_L106 k130 n106 (u2 h 196 (ww x1) (h 226 (ww x1))) (x1 + 1)) else (k130 h)
def m_undo_L132 (k156 : HH → Option (Int × HH)) : Nat → HH → Int → Option (Int × HH)
  | 0, _, _ => none
  | n132 + 1, h, x1 =>
    if ww x1 < 24 then (ck (ww x1) 24 <| ck (ww x1) 24 <| m_undo_L132 k156 n132 (u2 h 197 (ww x1) (h 227 (ww x1))) (x1 + 1)) else (k156 h)
def m_undo_L158 (k241 : HH → Option (Int × HH)) : Nat → HH → Int → Option (Int × HH)
  | 0, _, _ => none
  | n158 + 1, h, x1 =>
    if ww x1 < 5 then (ck (ww x1) 5 <| ck (ww x1) 5 <| ck (ww x1) 5 <| ck (ww x1) 5 <| ck (ww x1) 5 <| ck (ww x1) 5 <| ck (ww x1) 5 <| ck (ww x1) 5 <| ck (ww x1) 5 <| ck (ww x1) 5 <| ck (ww x1) 5 <| ck (ww x1) 5 <| ckb ((u2 (u2 (u2 (u2 (u2 h 198 (ww x1) (h 228 (ww x1))) 199 (ww x1) ((u2 h 198 (ww x1) (h 228 (ww x1))) 229 (ww x1))) 216 (ww x1) ((u2 (u2 h 198 (ww x1) (h 228 (ww x1))) 199 (ww x1) ((u2 h 198 (ww x1) (h 228 (ww x1))) 229 (ww x1))) 230 (ww x1))) 217 (ww x1) ((u2 (u2 (u2 h 198 (ww x1) (h 228 (ww x1))) 199 (ww x1) ((u2 h 198 (ww x1) (h 228 (ww x1))) 229 (ww x1))) 216 (ww x1) ((u2 (u2 h 198 (ww x1) (h 228 (ww x1))) 199 (ww x1) ((u2 h 198 (ww x1) (h 228 (ww x1))) 229 (ww x1))) 230 (ww x1))) 231 (ww x1))) 218 (ww x1) ((u2 (u2 (u2 (u2 h 198 (ww x1) (h 228 (ww x1))) 199 (ww x1) ((u2 h 198 (ww x1) (h 228 (ww x1))) 229 (ww x1))) 216 (ww x1) ((u2 (u2 h 198 (ww x1) (h 228 (ww x1))) 199 (ww x1) ((u2 h 198 (ww x1) (h 228 (ww x1))) 229 (ww x1))) 230 (ww x1))) 217 (ww x1) ((u2 (u2 (u2 h 198 (ww x1) (h 228 (ww x1))) 199 (ww x1) ((u2 h 198 (ww x1) (h 228 (ww x1))) 229 (ww x1))) 216 (ww x1) ((u2 (u2 h 198 (ww x1) (h 228 (ww x1))) 199 (ww x1) ((u2 h 198 (ww x1) (h 228 (ww x1))) 229 (ww x1))) 230 (ww x1))) 231 (ww x1))) 232 (ww x1))) 237 (ww x1)) <| m_undo_L158 k241 n158 (u2 (u2 (u2 (u2 (u2 (u2 h 198 (ww x1) (h 228 (ww x1))) 199 (ww x1) ((u2 h 198 (ww x1) (h 228 (ww x1))) 229 (ww x1))) 216 (ww x1) ((u2 (u2 h 198 (ww x1) (h 228 (ww x1))) 199 (ww x1) ((u2 h 198 (ww x1) (h 228 (ww x1))) 229 (ww x1))) 230 (ww x1))) 217 (ww x1) ((u2 (u2 (u2 h 198 (ww x1) (h 228 (ww x1))) 199 (ww x1) ((u2 h 198 (ww x1) (h 228 (ww x1))) 229 (ww x1))) 216 (ww x1) ((u2 (u2 h 198 (ww x1) (h 228 (ww x1))) 199 (ww x1) ((u2 h 198 (ww x1) (h 228 (ww x1))) 229 (ww x1))) 230 (ww x1))) 231 (ww x1))) 218 (ww x1) ((u2 (u2 (u2 (u2 h 198 (ww x1) (h 228 (ww x1))) 199 (ww x1) ((u2 h 198 (ww x1) (h 228 (ww x1))) 229 (ww x1))) 216 (ww x1) ((u2 (u2 h 198 (ww x1) (h 228 (ww x1))) 199 (ww x1) ((u2 h 198 (ww x1) (h 228 (ww x1))) 229 (ww x1))) 230 (ww x1))) 217 (ww x1) ((u2 (u2 (u2 h 198 (ww x1) (h 228 (ww x1))) 199 (ww x1) ((u2 h 198 (ww x1) (h 228 (ww x1))) 229 (ww x1))) 216 (ww x1) ((u2 (u2 h 198 (ww x1) (h 228 (ww x1))) 199 (ww x1) ((u2 h 198 (ww x1) (h 228 (ww x1))) 229 (ww x1))) 230 (ww x1))) 231 (ww x1))) 232 (ww x1))) 219 (ww x1) ((u2 (u2 (u2 (u2 (u2 h 198 (ww x1) (h 228 (ww x1))) 199 (ww x1) ((u2 h 198 (ww x1) (h 228 (ww x1))) 229 (ww x1))) 216 (ww x1) ((u2 (u2 h 198 (ww x1) (h 228 (ww x1))) 199 (ww x1) ((u2 h 198 (ww x1) (h 228 (ww x1))) 229 (ww x1))) 230 (ww x1))) 217 (ww x1) ((u2 (u2 (u2 h 198 (ww x1) (h 228 (ww x1))) 199 (ww x1) ((u2 h 198 (ww x1) (h 228 (ww x1))) 229 (ww x1))) 216 (ww x1) ((u2 (u2 h 198 (ww x1) (h 228 (ww x1))) 199 (ww x1) ((u2 h 198 (ww x1) (h 228 (ww x1))) 229 (ww x1))) 230 (ww x1))) 231 (ww x1))) 218 (ww x1) ((u2 (u2 (u2 (u2 h 198 (ww x1) (h 228 (ww x1))) 199 (ww x1) ((u2 h 198 (ww x1) (h 228 (ww x1))) 229 (ww x1))) 216 (ww x1) ((u2 (u2 h 198 (ww x1) (h 228 (ww x1))) 199 (ww x1) ((u2 h 198 (ww x1) (h 228 (ww x1))) 229 (ww x1))) 230 (ww x1))) 217 (ww x1) ((u2 (u2 (u2 h 198 (ww x1) (h 228 (ww x1))) 199 (ww x1) ((u2 h 198 (ww x1) (h 228 (ww x1))) 229 (ww x1))) 216 (ww x1) ((u2 (u2 h 198 (ww x1) (h 228 (ww x1))) 199 (ww x1) ((u2 h 198 (ww x1) (h 228 (ww x1))) 229 (ww x1))) 230 (ww x1))) 231 (ww x1))) 232 (ww x1))) 237 (ww x1))) (x1 + 1)) else (k241 h)
def m_undo_L243 (k279 : HH → Option (Int × HH)) : Nat → HH → Int → Option (Int × HH)
  | 0, _, _ => none
  | n243 + 1, h, x1 =>
    if ww x1 < 10 then (ck (ww x1) 10 <| ck (ww x1) 10 <| ck (ww x1) 10 <| ck (ww x1) 10 <| m_undo_L243 k279 n243 (u2 (u2 h 220 (ww x1) (h 233 (ww x1))) 221 (ww x1) ((u2 h 220 (ww x1) (h 233 (ww x1))) 234 (ww x1))) (x1 + 1)) else (k279 h)
def m_undo_L281 : Nat → HH → Int → Option (Int × HH)
  | 0, _, _ => none
  | n281 + 1, h, x1 =>
    if ww x1 < 8 then (ck (ww x1) 8 <| ck (ww x1) 8 <| ck (ww x1) 8 <| ck (ww x1) 8 <| m_undo_L281 n281 (u2 (u2 h 222 (ww x1) (h 235 (ww x1))) 223 (ww x1) ((u2 h 222 (ww x1) (h 235 (ww x1))) 236 (ww x1))) (x1 + 1)) else (some (h 193 0, h))
def m_undo (h : HH) : Option (Int × HH) :=
  if ww (h 193 49) = 0 then (some (-3, h)) else (m_undo_L68 (fun h1 => m_undo_L106 (fun h2 => m_undo_L132 (fun h3 => m_undo_L158 (fun h4 => m_undo_L243 (fun h5 => m_undo_L281 FU h5 0) FU h4 0) FU h3 0) FU h2 0) FU h1 0) FU (u2 (u2 (u2 (u2 (u2 (u2 (u2 h 193 10 (h 193 50)) 193 0 ((u2 h 193 10 (h 193 50)) 193 51)) 193 1 ((u2 (u2 h 193 10 (h 193 50)) 193 0 ((u2 h 193 10 (h 193 50)) 193 51)) 193 52)) 193 2 ((u2 (u2 (u2 h 193 10 (h 193 50)) 193 0 ((u2 h 193 10 (h 193 50)) 193 51)) 193 1 ((u2 (u2 h 193 10 (h 193 50)) 193 0 ((u2 h 193 10 (h 193 50)) 193 51)) 193 52)) 193 53)) 193 38 ((u2 (u2 (u2 (u2 h 193 10 (h 193 50)) 193 0 ((u2 h 193 10 (h 193 50)) 193 51)) 193 1 ((u2 (u2 h 193 10 (h 193 50)) 193 0 ((u2 h 193 10 (h 193 50)) 193 51)) 193 52)) 193 2 ((u2 (u2 (u2 h 193 10 (h 193 50)) 193 0 ((u2 h 193 10 (h 193 50)) 193 51)) 193 1 ((u2 (u2 h 193 10 (h 193 50)) 193 0 ((u2 h 193 10 (h 193 50)) 193 51)) 193 52)) 193 53)) 193 54)) 193 43 ((u2 (u2 (u2 (u2 (u2 h 193 10 (h 193 50)) 193 0 ((u2 h 193 10 (h 193 50)) 193 51)) 193 1 ((u2 (u2 h 193 10 (h 193 50)) 193 0 ((u2 h 193 10 (h 193 50)) 193 51)) 193 52)) 193 2 ((u2 (u2 (u2 h 193 10 (h 193 50)) 193 0 ((u2 h 193 10 (h 193 50)) 193 51)) 193 1 ((u2 (u2 h 193 10 (h 193 50)) 193 0 ((u2 h 193 10 (h 193 50)) 193 51)) 193 52)) 193 53)) 193 38 ((u2 (u2 (u2 (u2 h 193 10 (h 193 50)) 193 0 ((u2 h 193 10 (h 193 50)) 193 51)) 193 1 ((u2 (u2 h 193 10 (h 193 50)) 193 0 ((u2 h 193 10 (h 193 50)) 193 51)) 193 52)) 193 2 ((u2 (u2 (u2 h 193 10 (h 193 50)) 193 0 ((u2 h 193 10 (h 193 50)) 193 51)) 193 1 ((u2 (u2 h 193 10 (h 193 50)) 193 0 ((u2 h 193 10 (h 193 50)) 193 51)) 193 52)) 193 53)) 193 54)) 193 55)) 193 44 ((u2 (u2 (u2 (u2 (u2 (u2 h 193 10 (h 193 50)) 193 0 ((u2 h 193 10 (h 193 50)) 193 51)) 193 1 ((u2 (u2 h 193 10 (h 193 50)) 193 0 ((u2 h 193 10 (h 193 50)) 193 51)) 193 52)) 193 2 ((u2 (u2 (u2 h 193 10 (h 193 50)) 193 0 ((u2 h 193 10 (h 193 50)) 193 51)) 193 1 ((u2 (u2 h 193 10 (h 193 50)) 193 0 ((u2 h 193 10 (h 193 50)) 193 51)) 193 52)) 193 53)) 193 38 ((u2 (u2 (u2 (u2 h 193 10 (h 193 50)) 193 0 ((u2 h 193 10 (h 193 50)) 193 51)) 193 1 ((u2 (u2 h 193 10 (h 193 50)) 193 0 ((u2 h 193 10 (h 193 50)) 193 51)) 193 52)) 193 2 ((u2 (u2 (u2 h 193 10 (h 193 50)) 193 0 ((u2 h 193 10 (h 193 50)) 193 51)) 193 1 ((u2 (u2 h 193 10 (h 193 50)) 193 0 ((u2 h 193 10 (h 193 50)) 193 51)) 193 52)) 193 53)) 193 54)) 193 43 ((u2 (u2 (u2 (u2 (u2 h 193 10 (h 193 50)) 193 0 ((u2 h 193 10 (h 193 50)) 193 51)) 193 1 ((u2 (u2 h 193 10 (h 193 50)) 193 0 ((u2 h 193 10 (h 193 50)) 193 51)) 193 52)) 193 2 ((u2 (u2 (u2 h 193 10 (h 193 50)) 193 0 ((u2 h 193 10 (h 193 50)) 193 51)) 193 1 ((u2 (u2 h 193 10 (h 193 50)) 193 0 ((u2 h 193 10 (h 193 50)) 193 51)) 193 52)) 193 53)) 193 38 ((u2 (u2 (u2 (u2 h 193 10 (h 193 50)) 193 0 ((u2 h 193 10 (h 193 50)) 193 51)) 193 1 ((u2 (u2 h 193 10 (h 193 50)) 193 0 ((u2 h 193 10 (h 193 50)) 193 51)) 193 52)) 193 2 ((u2 (u2 (u2 h 193 10 (h 193 50)) 193 0 ((u2 h 193 10 (h 193 50)) 193 51)) 193 1 ((u2 (u2 h 193 10 (h 193 50)) 193 0 ((u2 h 193 10 (h 193 50)) 193 51)) 193 52)) 193 53)) 193 54)) 193 55)) 193 56)) 0)
abbrev rm_m_undo : Room := { frames := 0, cells := 0, slots := 0, locals := 0 }
set_option maxHeartbeats 4000000 in
set_option maxRecDepth 100000 in
theorem w_m_undo_L68 (hF : Fx S) (C : Cx D dT bs RX12 cX12_undo 2 (some Jvm.ClassFile.FieldType.int) p s m args meth c) (k104 : HH → Option (Int × HH)) {res : (Int × HH)} (hk104 : ∀ (h : HH), k104 h = some res → V D dT bs 2 p l e rm_m_undo s m args below meth c 0 0 (MQ below (QQ D dT bs (some (zI res.1)) res.2 S) args s 0 0 (AA bs)) h S 104 [(0, zP bs 193)] []) :
    ∀ (n : Nat) (h : HH) (x1 : Int), m_undo_L68 k104 n h x1 = some res → V D dT bs 2 p l e rm_m_undo s m args below meth c 0 0 (MQ below (QQ D dT bs (some (zI res.1)) res.2 S) args s 0 0 (AA bs)) h S 68 [(0, zP bs 193), (1, zI x1)] [] := by
  intro n
  induction n with
  | zero => intro h x1 hf; simp [m_undo_L68] at hf
  | succ n68 ih68 =>
    intro h x1 hf
    rw [m_undo_L68] at hf
    refine r_iload_n (pc' := 69) (f4 := 1) (i := 1) C 1 rfl rfl dX12_undo_68 rfl ?_
    refine r_bipush (pc' := 71) C rfl dX12_undo_69 rfl ?_
    refine r_icmp_ge (pc' := 74) (tgt := 104) C rfl ww_n6 hf dX12_undo_71 (by decide) rfl (fun hf => ?_) (fun hf => ?_)
    · refine r_aload_n (pc' := 75) (f4 := 0) (i := 0) C 0 rfl rfl dX12_undo_74 rfl ?_
      refine q_getP (pc' := 78) (j := 3) C (K_193 hF) fb_12_3 (by decide) wd_1174 (Or.inl rfl) (F_193_3 hF) (by decide) dX12_undo_75 rfl ?_
      refine r_iload_n (pc' := 79) (f4 := 1) (i := 1) C 1 rfl rfl dX12_undo_78 rfl ?_
      refine r_aload_n (pc' := 80) (f4 := 0) (i := 0) C 0 rfl rfl dX12_undo_79 rfl ?_
      refine q_getP (pc' := 83) (j := 57) C (K_193 hF) fb_12_57 (by decide) wd_1228 (Or.inl rfl) (F_193_57 hF) (by decide) dX12_undo_80 rfl ?_
      refine r_iload_n (pc' := 84) (f4 := 1) (i := 1) C 1 rfl rfl dX12_undo_83 rfl ?_
      obtain ⟨hi, hf⟩ := ck_in hf
      refine r_iald (pc' := 85) C (K_224 hF) rfl hi dX12_undo_84 rfl ?_
      obtain ⟨hi, hf⟩ := ck_in hf
      refine r_iast (pc' := 86) C (K_194 hF) rfl hi dX12_undo_85 rfl ?_
      refine r_aload_n (pc' := 87) (f4 := 0) (i := 0) C 0 rfl rfl dX12_undo_86 rfl ?_
      refine q_getP (pc' := 90) (j := 4) C (K_193 hF) fb_12_4 (by decide) wd_1175 (Or.inl rfl) (F_193_4 hF) (by decide) dX12_undo_87 rfl ?_
      refine r_iload_n (pc' := 91) (f4 := 1) (i := 1) C 1 rfl rfl dX12_undo_90 rfl ?_
      refine r_aload_n (pc' := 92) (f4 := 0) (i := 0) C 0 rfl rfl dX12_undo_91 rfl ?_
      refine q_getP (pc' := 95) (j := 58) C (K_193 hF) fb_12_58 (by decide) wd_1229 (Or.inl rfl) (F_193_58 hF) (by decide) dX12_undo_92 rfl ?_
      refine r_iload_n (pc' := 96) (f4 := 1) (i := 1) C 1 rfl rfl dX12_undo_95 rfl ?_
      obtain ⟨hi, hf⟩ := ck_in hf
      refine r_iald (pc' := 97) C (K_225 hF) rfl hi dX12_undo_96 rfl ?_
      obtain ⟨hi, hf⟩ := ck_in hf
      refine r_iast (pc' := 98) C (K_195 hF) rfl hi dX12_undo_97 rfl ?_
      refine r_iinc (pc' := 101) (i := 1) (L' := [(1, zI (x1 + 1)), (0, zP bs 193)]) C 1 rfl (by decide) rfl dX12_undo_98 rfl ?_
      refine r_goto (tgt := 68) C dX12_undo_101 (by decide) ?_
      refine V.sub (L' := [(0, zP bs 193), (1, zI (x1 + 1))]) [1, 0] rfl ?_
      exact ih68 _ _ hf
    · refine V.sub (L' := [(0, zP bs 193)]) [0] rfl ?_
      exact hk104 _ hf
set_option maxHeartbeats 4000000 in
set_option maxRecDepth 100000 in
theorem w_m_undo_L106 (hF : Fx S) (C : Cx D dT bs RX12 cX12_undo 2 (some Jvm.ClassFile.FieldType.int) p s m args meth c) (k130 : HH → Option (Int × HH)) {res : (Int × HH)} (hk130 : ∀ (h : HH), k130 h = some res → V D dT bs 2 p l e rm_m_undo s m args below meth c 0 0 (MQ below (QQ D dT bs (some (zI res.1)) res.2 S) args s 0 0 (AA bs)) h S 130 [(0, zP bs 193)] []) :
    ∀ (n : Nat) (h : HH) (x1 : Int), m_undo_L106 k130 n h x1 = some res → V D dT bs 2 p l e rm_m_undo s m args below meth c 0 0 (MQ below (QQ D dT bs (some (zI res.1)) res.2 S) args s 0 0 (AA bs)) h S 106 [(0, zP bs 193), (1, zI x1)] [] := by
  intro n
  induction n with
  | zero => intro h x1 hf; simp [m_undo_L106] at hf
  | succ n106 ih106 =>
    intro h x1 hf
    rw [m_undo_L106] at hf
    refine r_iload_n (pc' := 107) (f4 := 1) (i := 1) C 1 rfl rfl dX12_undo_106 rfl ?_
    refine r_bipush (pc' := 109) C rfl dX12_undo_107 rfl ?_
    refine r_icmp_ge (pc' := 112) (tgt := 130) C rfl ww_n30 hf dX12_undo_109 (by decide) rfl (fun hf => ?_) (fun hf => ?_)
    · refine r_aload_n (pc' := 113) (f4 := 0) (i := 0) C 0 rfl rfl dX12_undo_112 rfl ?_
      refine q_getP (pc' := 116) (j := 5) C (K_193 hF) fb_12_5 (by decide) wd_1176 (Or.inl rfl) (F_193_5 hF) (by decide) dX12_undo_113 rfl ?_
      refine r_iload_n (pc' := 117) (f4 := 1) (i := 1) C 1 rfl rfl dX12_undo_116 rfl ?_
      refine r_aload_n (pc' := 118) (f4 := 0) (i := 0) C 0 rfl rfl dX12_undo_117 rfl ?_
      refine q_getP (pc' := 121) (j := 59) C (K_193 hF) fb_12_59 (by decide) wd_1230 (Or.inl rfl) (F_193_59 hF) (by decide) dX12_undo_118 rfl ?_
      refine r_iload_n (pc' := 122) (f4 := 1) (i := 1) C 1 rfl rfl dX12_undo_121 rfl ?_
      obtain ⟨hi, hf⟩ := ck_in hf
      refine r_iald (pc' := 123) C (K_226 hF) rfl hi dX12_undo_122 rfl ?_
      obtain ⟨hi, hf⟩ := ck_in hf
      refine r_iast (pc' := 124) C (K_196 hF) rfl hi dX12_undo_123 rfl ?_
      refine r_iinc (pc' := 127) (i := 1) (L' := [(1, zI (x1 + 1)), (0, zP bs 193)]) C 1 rfl (by decide) rfl dX12_undo_124 rfl ?_
      refine r_goto (tgt := 106) C dX12_undo_127 (by decide) ?_
      refine V.sub (L' := [(0, zP bs 193), (1, zI (x1 + 1))]) [1, 0] rfl ?_
      exact ih106 _ _ hf
    · refine V.sub (L' := [(0, zP bs 193)]) [0] rfl ?_
      exact hk130 _ hf
set_option maxHeartbeats 4000000 in
set_option maxRecDepth 100000 in
theorem w_m_undo_L132 (hF : Fx S) (C : Cx D dT bs RX12 cX12_undo 2 (some Jvm.ClassFile.FieldType.int) p s m args meth c) (k156 : HH → Option (Int × HH)) {res : (Int × HH)} (hk156 : ∀ (h : HH), k156 h = some res → V D dT bs 2 p l e rm_m_undo s m args below meth c 0 0 (MQ below (QQ D dT bs (some (zI res.1)) res.2 S) args s 0 0 (AA bs)) h S 156 [(0, zP bs 193)] []) :
    ∀ (n : Nat) (h : HH) (x1 : Int), m_undo_L132 k156 n h x1 = some res → V D dT bs 2 p l e rm_m_undo s m args below meth c 0 0 (MQ below (QQ D dT bs (some (zI res.1)) res.2 S) args s 0 0 (AA bs)) h S 132 [(0, zP bs 193), (1, zI x1)] [] := by
  intro n
  induction n with
  | zero => intro h x1 hf; simp [m_undo_L132] at hf
  | succ n132 ih132 =>
    intro h x1 hf
    rw [m_undo_L132] at hf
    refine r_iload_n (pc' := 133) (f4 := 1) (i := 1) C 1 rfl rfl dX12_undo_132 rfl ?_
    refine r_bipush (pc' := 135) C rfl dX12_undo_133 rfl ?_
    refine r_icmp_ge (pc' := 138) (tgt := 156) C rfl ww_n24 hf dX12_undo_135 (by decide) rfl (fun hf => ?_) (fun hf => ?_)
    · refine r_aload_n (pc' := 139) (f4 := 0) (i := 0) C 0 rfl rfl dX12_undo_138 rfl ?_
      refine q_getP (pc' := 142) (j := 6) C (K_193 hF) fb_12_6 (by decide) wd_1177 (Or.inl rfl) (F_193_6 hF) (by decide) dX12_undo_139 rfl ?_
      refine r_iload_n (pc' := 143) (f4 := 1) (i := 1) C 1 rfl rfl dX12_undo_142 rfl ?_
      refine r_aload_n (pc' := 144) (f4 := 0) (i := 0) C 0 rfl rfl dX12_undo_143 rfl ?_
      refine q_getP (pc' := 147) (j := 60) C (K_193 hF) fb_12_60 (by decide) wd_1231 (Or.inl rfl) (F_193_60 hF) (by decide) dX12_undo_144 rfl ?_
      refine r_iload_n (pc' := 148) (f4 := 1) (i := 1) C 1 rfl rfl dX12_undo_147 rfl ?_
      obtain ⟨hi, hf⟩ := ck_in hf
      refine r_iald (pc' := 149) C (K_227 hF) rfl hi dX12_undo_148 rfl ?_
      obtain ⟨hi, hf⟩ := ck_in hf
      refine r_iast (pc' := 150) C (K_197 hF) rfl hi dX12_undo_149 rfl ?_
      refine r_iinc (pc' := 153) (i := 1) (L' := [(1, zI (x1 + 1)), (0, zP bs 193)]) C 1 rfl (by decide) rfl dX12_undo_150 rfl ?_
      refine r_goto (tgt := 132) C dX12_undo_153 (by decide) ?_
      refine V.sub (L' := [(0, zP bs 193), (1, zI (x1 + 1))]) [1, 0] rfl ?_
      exact ih132 _ _ hf
    · refine V.sub (L' := [(0, zP bs 193)]) [0] rfl ?_
      exact hk156 _ hf
set_option maxHeartbeats 4000000 in
set_option maxRecDepth 100000 in
theorem w_m_undo_L158 (hF : Fx S) (C : Cx D dT bs RX12 cX12_undo 2 (some Jvm.ClassFile.FieldType.int) p s m args meth c) (k241 : HH → Option (Int × HH)) {res : (Int × HH)} (hk241 : ∀ (h : HH), k241 h = some res → V D dT bs 2 p l e rm_m_undo s m args below meth c 0 0 (MQ below (QQ D dT bs (some (zI res.1)) res.2 S) args s 0 0 (AA bs)) h S 241 [(0, zP bs 193)] []) :
    ∀ (n : Nat) (h : HH) (x1 : Int), m_undo_L158 k241 n h x1 = some res → V D dT bs 2 p l e rm_m_undo s m args below meth c 0 0 (MQ below (QQ D dT bs (some (zI res.1)) res.2 S) args s 0 0 (AA bs)) h S 158 [(0, zP bs 193), (1, zI x1)] [] := by
  intro n
  induction n with
  | zero => intro h x1 hf; simp [m_undo_L158] at hf
  | succ n158 ih158 =>
    intro h x1 hf
    rw [m_undo_L158] at hf
    refine r_iload_n (pc' := 159) (f4 := 1) (i := 1) C 1 rfl rfl dX12_undo_158 rfl ?_
    refine r_iconst (pc' := 160) C dX12_undo_159 rfl ?_
    refine r_icmp_ge (pc' := 163) (tgt := 241) C rfl ww_n5 hf dX12_undo_160 (by decide) rfl (fun hf => ?_) (fun hf => ?_)
    · refine r_aload_n (pc' := 164) (f4 := 0) (i := 0) C 0 rfl rfl dX12_undo_163 rfl ?_
      refine q_getP (pc' := 167) (j := 7) C (K_193 hF) fb_12_7 (by decide) wd_1178 (Or.inl rfl) (F_193_7 hF) (by decide) dX12_undo_164 rfl ?_
      refine r_iload_n (pc' := 168) (f4 := 1) (i := 1) C 1 rfl rfl dX12_undo_167 rfl ?_
      refine r_aload_n (pc' := 169) (f4 := 0) (i := 0) C 0 rfl rfl dX12_undo_168 rfl ?_
      refine q_getP (pc' := 172) (j := 61) C (K_193 hF) fb_12_61 (by decide) wd_1232 (Or.inl rfl) (F_193_61 hF) (by decide) dX12_undo_169 rfl ?_
      refine r_iload_n (pc' := 173) (f4 := 1) (i := 1) C 1 rfl rfl dX12_undo_172 rfl ?_
      obtain ⟨hi, hf⟩ := ck_in hf
      refine r_iald (pc' := 174) C (K_228 hF) rfl hi dX12_undo_173 rfl ?_
      obtain ⟨hi, hf⟩ := ck_in hf
      refine r_iast (pc' := 175) C (K_198 hF) rfl hi dX12_undo_174 rfl ?_
      refine r_aload_n (pc' := 176) (f4 := 0) (i := 0) C 0 rfl rfl dX12_undo_175 rfl ?_
      refine q_getP (pc' := 179) (j := 8) C (K_193 hF) fb_12_8 (by decide) wd_1179 (Or.inl rfl) (F_193_8 hF) (by decide) dX12_undo_176 rfl ?_
      refine r_iload_n (pc' := 180) (f4 := 1) (i := 1) C 1 rfl rfl dX12_undo_179 rfl ?_
      refine r_aload_n (pc' := 181) (f4 := 0) (i := 0) C 0 rfl rfl dX12_undo_180 rfl ?_
      refine q_getP (pc' := 184) (j := 62) C (K_193 hF) fb_12_62 (by decide) wd_1233 (Or.inl rfl) (F_193_62 hF) (by decide) dX12_undo_181 rfl ?_
      refine r_iload_n (pc' := 185) (f4 := 1) (i := 1) C 1 rfl rfl dX12_undo_184 rfl ?_
      obtain ⟨hi, hf⟩ := ck_in hf
      refine r_iald (pc' := 186) C (K_229 hF) rfl hi dX12_undo_185 rfl ?_
      obtain ⟨hi, hf⟩ := ck_in hf
      refine r_iast (pc' := 187) C (K_199 hF) rfl hi dX12_undo_186 rfl ?_
      refine r_aload_n (pc' := 188) (f4 := 0) (i := 0) C 0 rfl rfl dX12_undo_187 rfl ?_
      refine q_getP (pc' := 191) (j := 39) C (K_193 hF) fb_12_39 (by decide) wd_1210 (Or.inl rfl) (F_193_39 hF) (by decide) dX12_undo_188 rfl ?_
      refine r_iload_n (pc' := 192) (f4 := 1) (i := 1) C 1 rfl rfl dX12_undo_191 rfl ?_
      refine r_aload_n (pc' := 193) (f4 := 0) (i := 0) C 0 rfl rfl dX12_undo_192 rfl ?_
      refine q_getP (pc' := 196) (j := 63) C (K_193 hF) fb_12_63 (by decide) wd_1234 (Or.inl rfl) (F_193_63 hF) (by decide) dX12_undo_193 rfl ?_
      refine r_iload_n (pc' := 197) (f4 := 1) (i := 1) C 1 rfl rfl dX12_undo_196 rfl ?_
      obtain ⟨hi, hf⟩ := ck_in hf
      refine r_iald (pc' := 198) C (K_230 hF) rfl hi dX12_undo_197 rfl ?_
      obtain ⟨hi, hf⟩ := ck_in hf
      refine r_iast (pc' := 199) C (K_216 hF) rfl hi dX12_undo_198 rfl ?_
      refine r_aload_n (pc' := 200) (f4 := 0) (i := 0) C 0 rfl rfl dX12_undo_199 rfl ?_
      refine q_getP (pc' := 203) (j := 40) C (K_193 hF) fb_12_40 (by decide) wd_1211 (Or.inl rfl) (F_193_40 hF) (by decide) dX12_undo_200 rfl ?_
      refine r_iload_n (pc' := 204) (f4 := 1) (i := 1) C 1 rfl rfl dX12_undo_203 rfl ?_
      refine r_aload_n (pc' := 205) (f4 := 0) (i := 0) C 0 rfl rfl dX12_undo_204 rfl ?_
      refine q_getP (pc' := 208) (j := 64) C (K_193 hF) fb_12_64 (by decide) wd_1235 (Or.inl rfl) (F_193_64 hF) (by decide) dX12_undo_205 rfl ?_
      refine r_iload_n (pc' := 209) (f4 := 1) (i := 1) C 1 rfl rfl dX12_undo_208 rfl ?_
      obtain ⟨hi, hf⟩ := ck_in hf
      refine r_iald (pc' := 210) C (K_231 hF) rfl hi dX12_undo_209 rfl ?_
      obtain ⟨hi, hf⟩ := ck_in hf
      refine r_iast (pc' := 211) C (K_217 hF) rfl hi dX12_undo_210 rfl ?_
      refine r_aload_n (pc' := 212) (f4 := 0) (i := 0) C 0 rfl rfl dX12_undo_211 rfl ?_
      refine q_getP (pc' := 215) (j := 41) C (K_193 hF) fb_12_41 (by decide) wd_1212 (Or.inl rfl) (F_193_41 hF) (by decide) dX12_undo_212 rfl ?_
      refine r_iload_n (pc' := 216) (f4 := 1) (i := 1) C 1 rfl rfl dX12_undo_215 rfl ?_
      refine r_aload_n (pc' := 217) (f4 := 0) (i := 0) C 0 rfl rfl dX12_undo_216 rfl ?_
      refine q_getP (pc' := 220) (j := 65) C (K_193 hF) fb_12_65 (by decide) wd_1236 (Or.inl rfl) (F_193_65 hF) (by decide) dX12_undo_217 rfl ?_
      refine r_iload_n (pc' := 221) (f4 := 1) (i := 1) C 1 rfl rfl dX12_undo_220 rfl ?_
      obtain ⟨hi, hf⟩ := ck_in hf
      refine r_iald (pc' := 222) C (K_232 hF) rfl hi dX12_undo_221 rfl ?_
      obtain ⟨hi, hf⟩ := ck_in hf
      refine r_iast (pc' := 223) C (K_218 hF) rfl hi dX12_undo_222 rfl ?_
      refine r_aload_n (pc' := 224) (f4 := 0) (i := 0) C 0 rfl rfl dX12_undo_223 rfl ?_
      refine q_getP (pc' := 227) (j := 42) C (K_193 hF) fb_12_42 (by decide) wd_1213 (Or.inl rfl) (F_193_42 hF) (by decide) dX12_undo_224 rfl ?_
      refine r_iload_n (pc' := 228) (f4 := 1) (i := 1) C 1 rfl rfl dX12_undo_227 rfl ?_
      refine r_aload_n (pc' := 229) (f4 := 0) (i := 0) C 0 rfl rfl dX12_undo_228 rfl ?_
      refine q_getP (pc' := 232) (j := 70) C (K_193 hF) fb_12_70 (by decide) wd_1241 (Or.inl rfl) (F_193_70 hF) (by decide) dX12_undo_229 rfl ?_
      refine r_iload_n (pc' := 233) (f4 := 1) (i := 1) C 1 rfl rfl dX12_undo_232 rfl ?_
      obtain ⟨hi, hf⟩ := ck_in hf
      refine r_zald (pc' := 234) C (K_237 hF) rfl hi dX12_undo_233 rfl ?_
      obtain ⟨hi, hf⟩ := ck_in hf
      obtain ⟨hz, hf⟩ := ckb_in hf
      refine r_zast (pc' := 235) C (K_219 hF) rfl (zb_nar hz) hi dX12_undo_234 rfl ?_
      refine r_iinc (pc' := 238) (i := 1) (L' := [(1, zI (x1 + 1)), (0, zP bs 193)]) C 1 rfl (by decide) rfl dX12_undo_235 rfl ?_
      refine r_goto (tgt := 158) C dX12_undo_238 (by decide) ?_
      refine V.sub (L' := [(0, zP bs 193), (1, zI (x1 + 1))]) [1, 0] rfl ?_
      exact ih158 _ _ hf
    · refine V.sub (L' := [(0, zP bs 193)]) [0] rfl ?_
      exact hk241 _ hf
set_option maxHeartbeats 4000000 in
set_option maxRecDepth 100000 in
theorem w_m_undo_L243 (hF : Fx S) (C : Cx D dT bs RX12 cX12_undo 2 (some Jvm.ClassFile.FieldType.int) p s m args meth c) (k279 : HH → Option (Int × HH)) {res : (Int × HH)} (hk279 : ∀ (h : HH), k279 h = some res → V D dT bs 2 p l e rm_m_undo s m args below meth c 0 0 (MQ below (QQ D dT bs (some (zI res.1)) res.2 S) args s 0 0 (AA bs)) h S 279 [(0, zP bs 193)] []) :
    ∀ (n : Nat) (h : HH) (x1 : Int), m_undo_L243 k279 n h x1 = some res → V D dT bs 2 p l e rm_m_undo s m args below meth c 0 0 (MQ below (QQ D dT bs (some (zI res.1)) res.2 S) args s 0 0 (AA bs)) h S 243 [(0, zP bs 193), (1, zI x1)] [] := by
  intro n
  induction n with
  | zero => intro h x1 hf; simp [m_undo_L243] at hf
  | succ n243 ih243 =>
    intro h x1 hf
    rw [m_undo_L243] at hf
    refine r_iload_n (pc' := 244) (f4 := 1) (i := 1) C 1 rfl rfl dX12_undo_243 rfl ?_
    refine r_bipush (pc' := 246) C rfl dX12_undo_244 rfl ?_
    refine r_icmp_ge (pc' := 249) (tgt := 279) C rfl ww_n10 hf dX12_undo_246 (by decide) rfl (fun hf => ?_) (fun hf => ?_)
    · refine r_aload_n (pc' := 250) (f4 := 0) (i := 0) C 0 rfl rfl dX12_undo_249 rfl ?_
      refine q_getP (pc' := 253) (j := 45) C (K_193 hF) fb_12_45 (by decide) wd_1216 (Or.inl rfl) (F_193_45 hF) (by decide) dX12_undo_250 rfl ?_
      refine r_iload_n (pc' := 254) (f4 := 1) (i := 1) C 1 rfl rfl dX12_undo_253 rfl ?_
      refine r_aload_n (pc' := 255) (f4 := 0) (i := 0) C 0 rfl rfl dX12_undo_254 rfl ?_
      refine q_getP (pc' := 258) (j := 66) C (K_193 hF) fb_12_66 (by decide) wd_1237 (Or.inl rfl) (F_193_66 hF) (by decide) dX12_undo_255 rfl ?_
      refine r_iload_n (pc' := 259) (f4 := 1) (i := 1) C 1 rfl rfl dX12_undo_258 rfl ?_
      obtain ⟨hi, hf⟩ := ck_in hf
      refine r_iald (pc' := 260) C (K_233 hF) rfl hi dX12_undo_259 rfl ?_
      obtain ⟨hi, hf⟩ := ck_in hf
      refine r_iast (pc' := 261) C (K_220 hF) rfl hi dX12_undo_260 rfl ?_
      refine r_aload_n (pc' := 262) (f4 := 0) (i := 0) C 0 rfl rfl dX12_undo_261 rfl ?_
      refine q_getP (pc' := 265) (j := 46) C (K_193 hF) fb_12_46 (by decide) wd_1217 (Or.inl rfl) (F_193_46 hF) (by decide) dX12_undo_262 rfl ?_
      refine r_iload_n (pc' := 266) (f4 := 1) (i := 1) C 1 rfl rfl dX12_undo_265 rfl ?_
      refine r_aload_n (pc' := 267) (f4 := 0) (i := 0) C 0 rfl rfl dX12_undo_266 rfl ?_
      refine q_getP (pc' := 270) (j := 67) C (K_193 hF) fb_12_67 (by decide) wd_1238 (Or.inl rfl) (F_193_67 hF) (by decide) dX12_undo_267 rfl ?_
      refine r_iload_n (pc' := 271) (f4 := 1) (i := 1) C 1 rfl rfl dX12_undo_270 rfl ?_
      obtain ⟨hi, hf⟩ := ck_in hf
      refine r_iald (pc' := 272) C (K_234 hF) rfl hi dX12_undo_271 rfl ?_
      obtain ⟨hi, hf⟩ := ck_in hf
      refine r_iast (pc' := 273) C (K_221 hF) rfl hi dX12_undo_272 rfl ?_
      refine r_iinc (pc' := 276) (i := 1) (L' := [(1, zI (x1 + 1)), (0, zP bs 193)]) C 1 rfl (by decide) rfl dX12_undo_273 rfl ?_
      refine r_goto (tgt := 243) C dX12_undo_276 (by decide) ?_
      refine V.sub (L' := [(0, zP bs 193), (1, zI (x1 + 1))]) [1, 0] rfl ?_
      exact ih243 _ _ hf
    · refine V.sub (L' := [(0, zP bs 193)]) [0] rfl ?_
      exact hk279 _ hf
set_option maxHeartbeats 4000000 in
set_option maxRecDepth 100000 in
theorem w_m_undo_L281 (hF : Fx S) (C : Cx D dT bs RX12 cX12_undo 2 (some Jvm.ClassFile.FieldType.int) p s m args meth c) {res : (Int × HH)} :
    ∀ (n : Nat) (h : HH) (x1 : Int), m_undo_L281 n h x1 = some res → V D dT bs 2 p l e rm_m_undo s m args below meth c 0 0 (MQ below (QQ D dT bs (some (zI res.1)) res.2 S) args s 0 0 (AA bs)) h S 281 [(0, zP bs 193), (1, zI x1)] [] := by
  intro n
  induction n with
  | zero => intro h x1 hf; simp [m_undo_L281] at hf
  | succ n281 ih281 =>
    intro h x1 hf
    rw [m_undo_L281] at hf
    refine r_iload_n (pc' := 282) (f4 := 1) (i := 1) C 1 rfl rfl dX12_undo_281 rfl ?_
    refine r_bipush (pc' := 284) C rfl dX12_undo_282 rfl ?_
    refine r_icmp_ge (pc' := 287) (tgt := 317) C rfl ww_n8 hf dX12_undo_284 (by decide) rfl (fun hf => ?_) (fun hf => ?_)
    · refine r_aload_n (pc' := 288) (f4 := 0) (i := 0) C 0 rfl rfl dX12_undo_287 rfl ?_
      refine q_getP (pc' := 291) (j := 47) C (K_193 hF) fb_12_47 (by decide) wd_1218 (Or.inl rfl) (F_193_47 hF) (by decide) dX12_undo_288 rfl ?_
      refine r_iload_n (pc' := 292) (f4 := 1) (i := 1) C 1 rfl rfl dX12_undo_291 rfl ?_
      refine r_aload_n (pc' := 293) (f4 := 0) (i := 0) C 0 rfl rfl dX12_undo_292 rfl ?_
      refine q_getP (pc' := 296) (j := 68) C (K_193 hF) fb_12_68 (by decide) wd_1239 (Or.inl rfl) (F_193_68 hF) (by decide) dX12_undo_293 rfl ?_
      refine r_iload_n (pc' := 297) (f4 := 1) (i := 1) C 1 rfl rfl dX12_undo_296 rfl ?_
      obtain ⟨hi, hf⟩ := ck_in hf
      refine r_iald (pc' := 298) C (K_235 hF) rfl hi dX12_undo_297 rfl ?_
      obtain ⟨hi, hf⟩ := ck_in hf
      refine r_iast (pc' := 299) C (K_222 hF) rfl hi dX12_undo_298 rfl ?_
      refine r_aload_n (pc' := 300) (f4 := 0) (i := 0) C 0 rfl rfl dX12_undo_299 rfl ?_
      refine q_getP (pc' := 303) (j := 48) C (K_193 hF) fb_12_48 (by decide) wd_1219 (Or.inl rfl) (F_193_48 hF) (by decide) dX12_undo_300 rfl ?_
      refine r_iload_n (pc' := 304) (f4 := 1) (i := 1) C 1 rfl rfl dX12_undo_303 rfl ?_
      refine r_aload_n (pc' := 305) (f4 := 0) (i := 0) C 0 rfl rfl dX12_undo_304 rfl ?_
      refine q_getP (pc' := 308) (j := 69) C (K_193 hF) fb_12_69 (by decide) wd_1240 (Or.inl rfl) (F_193_69 hF) (by decide) dX12_undo_305 rfl ?_
      refine r_iload_n (pc' := 309) (f4 := 1) (i := 1) C 1 rfl rfl dX12_undo_308 rfl ?_
      obtain ⟨hi, hf⟩ := ck_in hf
      refine r_iald (pc' := 310) C (K_236 hF) rfl hi dX12_undo_309 rfl ?_
      obtain ⟨hi, hf⟩ := ck_in hf
      refine r_iast (pc' := 311) C (K_223 hF) rfl hi dX12_undo_310 rfl ?_
      refine r_iinc (pc' := 314) (i := 1) (L' := [(1, zI (x1 + 1)), (0, zP bs 193)]) C 1 rfl (by decide) rfl dX12_undo_311 rfl ?_
      refine r_goto (tgt := 281) C dX12_undo_314 (by decide) ?_
      refine V.sub (L' := [(0, zP bs 193), (1, zI (x1 + 1))]) [1, 0] rfl ?_
      exact ih281 _ _ hf
    · refine r_aload_n (pc' := 318) (f4 := 0) (i := 0) C 0 rfl rfl dX12_undo_317 rfl ?_
      refine q_getI (pc' := 321) (j := 0) C (K_193 hF) fb_12_0 wd_1171 (Or.inl rfl) dX12_undo_318 rfl ?_
      cases hf
      exact r_iret C dX12_undo_321
set_option maxHeartbeats 4000000 in
set_option maxRecDepth 100000 in
theorem t_m_undo {S : SS} (hF : Fx S) {h : HH} {res : Int × HH} (hf : m_undo h = some res) : CM yX12_undo cX12_undo 2 (some Jvm.ClassFile.FieldType.int) 0 0 0 0 (fun bs => [zP bs 193]) h S (fun _ => some (zI res.1)) res.2 S := by
  refine CM.intro (own := RX12) (by decide) rfl (fun _ => Nat.le_of_ble_eq_true rfl) ?_
  intro D dT bs p l e s m args below meth c C
  show V D dT bs 2 p l e rm_m_undo s m args below meth c 0 0 _ h S 0 [(0, zP bs 193)] []
  unfold m_undo at hf
  refine r_aload_n (pc' := 1) (f4 := 0) (i := 0) C 0 rfl rfl dX12_undo_0 rfl ?_
  refine q_getI (pc' := 4) (j := 49) C (K_193 hF) fb_12_49 wd_1220 (Or.inl rfl) dX12_undo_1 rfl ?_
  refine r_if_ne (pc' := 7) (tgt := 10) C rfl hf dX12_undo_4 (by decide) rfl (fun hf => ?_) (fun hf => ?_)
  · refine r_bipush (pc' := 9) C rfl dX12_undo_7 rfl ?_
    cases hf
    exact r_iret C dX12_undo_9
  · refine r_aload_n (pc' := 11) (f4 := 0) (i := 0) C 0 rfl rfl dX12_undo_10 rfl ?_
    refine r_aload_n (pc' := 12) (f4 := 0) (i := 0) C 0 rfl rfl dX12_undo_11 rfl ?_
    refine q_getI (pc' := 15) (j := 50) C (K_193 hF) fb_12_50 wd_1221 (Or.inl rfl) dX12_undo_12 rfl ?_
    refine q_putI (pc' := 18) (j := 10) C (K_193 hF) fb_12_10 fp_12_10 wd_1181 (Or.inl rfl) (Or.inl rfl) rfl rfl dX12_undo_15 rfl ?_
    refine r_aload_n (pc' := 19) (f4 := 0) (i := 0) C 0 rfl rfl dX12_undo_18 rfl ?_
    refine r_aload_n (pc' := 20) (f4 := 0) (i := 0) C 0 rfl rfl dX12_undo_19 rfl ?_
    refine q_getI (pc' := 23) (j := 51) C (K_193 hF) fb_12_51 wd_1222 (Or.inl rfl) dX12_undo_20 rfl ?_
    refine q_putI (pc' := 26) (j := 0) C (K_193 hF) fb_12_0 fp_12_0 wd_1171 (Or.inl rfl) (Or.inl rfl) rfl rfl dX12_undo_23 rfl ?_
    refine r_aload_n (pc' := 27) (f4 := 0) (i := 0) C 0 rfl rfl dX12_undo_26 rfl ?_
    refine r_aload_n (pc' := 28) (f4 := 0) (i := 0) C 0 rfl rfl dX12_undo_27 rfl ?_
    refine q_getI (pc' := 31) (j := 52) C (K_193 hF) fb_12_52 wd_1223 (Or.inl rfl) dX12_undo_28 rfl ?_
    refine q_putI (pc' := 34) (j := 1) C (K_193 hF) fb_12_1 fp_12_1 wd_1172 (Or.inl rfl) (Or.inl rfl) rfl rfl dX12_undo_31 rfl ?_
    refine r_aload_n (pc' := 35) (f4 := 0) (i := 0) C 0 rfl rfl dX12_undo_34 rfl ?_
    refine r_aload_n (pc' := 36) (f4 := 0) (i := 0) C 0 rfl rfl dX12_undo_35 rfl ?_
    refine q_getI (pc' := 39) (j := 53) C (K_193 hF) fb_12_53 wd_1224 (Or.inl rfl) dX12_undo_36 rfl ?_
    refine q_putI (pc' := 42) (j := 2) C (K_193 hF) fb_12_2 fp_12_2 wd_1173 (Or.inl rfl) (Or.inl rfl) rfl rfl dX12_undo_39 rfl ?_
    refine r_aload_n (pc' := 43) (f4 := 0) (i := 0) C 0 rfl rfl dX12_undo_42 rfl ?_
    refine r_aload_n (pc' := 44) (f4 := 0) (i := 0) C 0 rfl rfl dX12_undo_43 rfl ?_
    refine q_getI (pc' := 47) (j := 54) C (K_193 hF) fb_12_54 wd_1225 (Or.inl rfl) dX12_undo_44 rfl ?_
    refine q_putI (pc' := 50) (j := 38) C (K_193 hF) fb_12_38 fp_12_38 wd_1209 (Or.inl rfl) (Or.inl rfl) rfl rfl dX12_undo_47 rfl ?_
    refine r_aload_n (pc' := 51) (f4 := 0) (i := 0) C 0 rfl rfl dX12_undo_50 rfl ?_
    refine r_aload_n (pc' := 52) (f4 := 0) (i := 0) C 0 rfl rfl dX12_undo_51 rfl ?_
    refine q_getI (pc' := 55) (j := 55) C (K_193 hF) fb_12_55 wd_1226 (Or.inl rfl) dX12_undo_52 rfl ?_
    refine q_putI (pc' := 58) (j := 43) C (K_193 hF) fb_12_43 fp_12_43 wd_1214 (Or.inl rfl) (Or.inl rfl) rfl rfl dX12_undo_55 rfl ?_
    refine r_aload_n (pc' := 59) (f4 := 0) (i := 0) C 0 rfl rfl dX12_undo_58 rfl ?_
    refine r_aload_n (pc' := 60) (f4 := 0) (i := 0) C 0 rfl rfl dX12_undo_59 rfl ?_
    refine q_getI (pc' := 63) (j := 56) C (K_193 hF) fb_12_56 wd_1227 (Or.inl rfl) dX12_undo_60 rfl ?_
    refine q_putI (pc' := 66) (j := 44) C (K_193 hF) fb_12_44 fp_12_44 wd_1215 (Or.inl rfl) (Or.inl rfl) rfl rfl dX12_undo_63 rfl ?_
    refine r_iconst (pc' := 67) C dX12_undo_66 rfl ?_
    refine r_istore_n (pc' := 68) (f4 := 1) (i := 1) (L' := [(1, zI 0), (0, zP bs 193)]) C rfl (by decide) rfl dX12_undo_67 rfl ?_
    refine V.sub (L' := [(0, zP bs 193), (1, zI 0)]) [1, 0] rfl ?_
    refine w_m_undo_L68 hF C _ ?_ _ _ _ hf
    intro h1 hf
    refine r_iconst (pc' := 105) C dX12_undo_104 rfl ?_
    refine r_istore_n (pc' := 106) (f4 := 1) (i := 1) (L' := [(1, zI 0), (0, zP bs 193)]) C rfl (by decide) rfl dX12_undo_105 rfl ?_
    refine V.sub (L' := [(0, zP bs 193), (1, zI 0)]) [1, 0] rfl ?_
    refine w_m_undo_L106 hF C _ ?_ _ _ _ hf
    intro h2 hf
    refine r_iconst (pc' := 131) C dX12_undo_130 rfl ?_
    refine r_istore_n (pc' := 132) (f4 := 1) (i := 1) (L' := [(1, zI 0), (0, zP bs 193)]) C rfl (by decide) rfl dX12_undo_131 rfl ?_
    refine V.sub (L' := [(0, zP bs 193), (1, zI 0)]) [1, 0] rfl ?_
    refine w_m_undo_L132 hF C _ ?_ _ _ _ hf
    intro h3 hf
    refine r_iconst (pc' := 157) C dX12_undo_156 rfl ?_
    refine r_istore_n (pc' := 158) (f4 := 1) (i := 1) (L' := [(1, zI 0), (0, zP bs 193)]) C rfl (by decide) rfl dX12_undo_157 rfl ?_
    refine V.sub (L' := [(0, zP bs 193), (1, zI 0)]) [1, 0] rfl ?_
    refine w_m_undo_L158 hF C _ ?_ _ _ _ hf
    intro h4 hf
    refine r_iconst (pc' := 242) C dX12_undo_241 rfl ?_
    refine r_istore_n (pc' := 243) (f4 := 1) (i := 1) (L' := [(1, zI 0), (0, zP bs 193)]) C rfl (by decide) rfl dX12_undo_242 rfl ?_
    refine V.sub (L' := [(0, zP bs 193), (1, zI 0)]) [1, 0] rfl ?_
    refine w_m_undo_L243 hF C _ ?_ _ _ _ hf
    intro h5 hf
    refine r_iconst (pc' := 280) C dX12_undo_279 rfl ?_
    refine r_istore_n (pc' := 281) (f4 := 1) (i := 1) (L' := [(1, zI 0), (0, zP bs 193)]) C rfl (by decide) rfl dX12_undo_280 rfl ?_
    refine V.sub (L' := [(0, zP bs 193), (1, zI 0)]) [1, 0] rfl ?_
    refine w_m_undo_L281 hF C _ _ _ hf

/- WassailEnemiesModel.body(I)V -/
def m_body (h : HH) (a1 : Int) : Option HH :=
  if ww (h 193 71) < 20 then (ck (ww (h 193 71)) 20 <| some (u2 (u2 h 238 (ww (h 193 71)) a1) 193 71 (((u2 h 238 (ww (h 193 71)) a1) 193 71) + 1))) else (some (u2 h 193 71 ((h 193 71) + 1)))
abbrev rm_m_body : Room := { frames := 0, cells := 0, slots := 0, locals := 0 }
set_option maxHeartbeats 4000000 in
set_option maxRecDepth 100000 in
theorem t_m_body {S : SS} (hF : Fx S) {h : HH} {a1 : Int} {res : HH} (hf : m_body h a1 = some res) : CM yX12_body cX12_body 2 (Option.none : Option Jvm.ClassFile.FieldType) 0 0 0 0 (fun bs => [zP bs 193, zI a1]) h S (fun _ => none) res S := by
  refine CM.intro (own := RX12) (by decide) rfl (fun _ => Nat.le_of_ble_eq_true rfl) ?_
  intro D dT bs p l e s m args below meth c C
  show V D dT bs 2 p l e rm_m_body s m args below meth c 0 0 _ h S 0 [(0, zP bs 193), (1, zI a1)] []
  unfold m_body at hf
  refine r_aload_n (pc' := 1) (f4 := 0) (i := 0) C 0 rfl rfl dX12_body_0 rfl ?_
  refine q_getI (pc' := 4) (j := 71) C (K_193 hF) fb_12_71 wd_1242 (Or.inl rfl) dX12_body_1 rfl ?_
  refine r_bipush (pc' := 6) C rfl dX12_body_4 rfl ?_
  refine r_icmp_ge (pc' := 9) (tgt := 19) C rfl ww_n20 hf dX12_body_6 (by decide) rfl (fun hf => ?_) (fun hf => ?_)
  · refine r_aload_n (pc' := 10) (f4 := 0) (i := 0) C 0 rfl rfl dX12_body_9 rfl ?_
    refine q_getP (pc' := 13) (j := 72) C (K_193 hF) fb_12_72 (by decide) wd_1243 (Or.inl rfl) (F_193_72 hF) (by decide) dX12_body_10 rfl ?_
    refine r_aload_n (pc' := 14) (f4 := 0) (i := 0) C 0 rfl rfl dX12_body_13 rfl ?_
    refine q_getI (pc' := 17) (j := 71) C (K_193 hF) fb_12_71 wd_1242 (Or.inl rfl) dX12_body_14 rfl ?_
    refine r_iload_n (pc' := 18) (f4 := 1) (i := 1) C 1 rfl rfl dX12_body_17 rfl ?_
    obtain ⟨hi, hf⟩ := ck_in hf
    refine r_iast (pc' := 19) C (K_238 hF) rfl hi dX12_body_18 rfl ?_
    refine r_aload_n (pc' := 20) (f4 := 0) (i := 0) C 0 rfl rfl dX12_body_19 rfl ?_
    refine r_dup (pc' := 21) C rfl dX12_body_20 rfl ?_
    refine q_getI (pc' := 24) (j := 71) C (K_193 hF) fb_12_71 wd_1242 (Or.inl rfl) dX12_body_21 rfl ?_
    refine r_iconst (pc' := 25) C dX12_body_24 rfl ?_
    refine r_iadd (pc' := 26) C dX12_body_25 rfl ?_
    refine q_putI (pc' := 29) (j := 71) C (K_193 hF) fb_12_71 fp_12_71 wd_1242 (Or.inl rfl) (Or.inl rfl) rfl rfl dX12_body_26 rfl ?_
    cases hf
    exact r_vret C dX12_body_29
  · refine r_aload_n (pc' := 20) (f4 := 0) (i := 0) C 0 rfl rfl dX12_body_19 rfl ?_
    refine r_dup (pc' := 21) C rfl dX12_body_20 rfl ?_
    refine q_getI (pc' := 24) (j := 71) C (K_193 hF) fb_12_71 wd_1242 (Or.inl rfl) dX12_body_21 rfl ?_
    refine r_iconst (pc' := 25) C dX12_body_24 rfl ?_
    refine r_iadd (pc' := 26) C dX12_body_25 rfl ?_
    refine q_putI (pc' := 29) (j := 71) C (K_193 hF) fb_12_71 fp_12_71 wd_1242 (Or.inl rfl) (Or.inl rfl) rfl rfl dX12_body_26 rfl ?_
    cases hf
    exact r_vret C dX12_body_29

/- WassailEnemiesModel.haterSings(II)I -/
def m_haterSings (h : HH) (a1 : Int) (a2 : Int) : Option (Int × HH) :=
  (m_body h 10).bind fun q1 => some (a2 + a1, q1)
abbrev rm_m_haterSings : Room := { frames := 1, cells := 0, slots := 0, locals := 21 }
set_option maxHeartbeats 4000000 in
set_option maxRecDepth 100000 in
theorem t_m_haterSings {S : SS} (hF : Fx S) {h : HH} {a1 : Int} {a2 : Int} {res : Int × HH} (hf : m_haterSings h a1 a2 = some res) : CM yX12_haterSings cX12_haterSings 3 (some Jvm.ClassFile.FieldType.int) 1 21 0 0 (fun bs => [zP bs 193, zI a1, zI a2]) h S (fun _ => some (zI res.1)) res.2 S := by
  refine CM.intro (own := RX12) (by decide) rfl (fun _ => Nat.le_of_ble_eq_true rfl) ?_
  intro D dT bs p l e s m args below meth c C
  show V D dT bs 3 p l e rm_m_haterSings s m args below meth c 0 0 _ h S 0 [(0, zP bs 193), (1, zI a1), (2, zI a2)] []
  unfold m_haterSings at hf
  refine r_aload_n (pc' := 1) (f4 := 0) (i := 0) C 0 rfl rfl dX12_haterSings_0 rfl ?_
  refine r_bipush (pc' := 3) C rfl dX12_haterSings_1 rfl ?_
  obtain ⟨q1, hq1, hf⟩ := bind_in hf
  refine q_callVv (pc' := 6) C (t_m_body hF hq1) rfl (K_193 hF) cl_12 wv_RX12_427 ⟨Nat.le_of_ble_eq_true rfl, Nat.le_of_ble_eq_true rfl⟩ rfl rfl (Nat.le_of_ble_eq_true rfl) dX12_haterSings_3 rfl ⟨Nat.le_of_ble_eq_true rfl, Nat.le_of_ble_eq_true rfl⟩ ?_
  refine r_iload_n (pc' := 7) (f4 := 2) (i := 2) C 2 rfl rfl dX12_haterSings_6 rfl ?_
  refine r_iload_n (pc' := 8) (f4 := 1) (i := 1) C 1 rfl rfl dX12_haterSings_7 rfl ?_
  refine r_iadd (pc' := 9) C dX12_haterSings_8 rfl ?_
  cases hf
  exact r_iret C dX12_haterSings_9

/- WassailEnemiesModel.singsAct(II)I -/
def m_singsAct (h : HH) (a1 : Int) (a2 : Int) : Option (Int × HH) :=
  ck (ww a1) 6 <| if ww (h 194 (ww a1)) = 2 then ((m_body h 30).bind fun q1 => (m_haterSings q1 a1 (a2 * 3)).bind fun q2 => some (q2.1, q2.2)) else (if ww (h 194 (ww a1)) = 3 then ((m_haterSings h a1 a2).bind fun q3 => some (q3.1, q3.2)) else (if ww (h 194 (ww a1)) = 4 then ((m_body h 50).bind fun q4 => (m_haterSings q4 a1 a2).bind fun q5 => some (-q5.1, q5.2)) else (if ww (h 194 (ww a1)) = 5 then ((m_body h 30).bind fun q6 => (m_haterSings q6 a1 (a2 * 3)).bind fun q7 => some (q7.1, q7.2)) else (if ww (h 194 (ww a1)) = 6 then ((m_body h 71).bind fun q8 => (m_haterSings q8 a1 a2).bind fun q9 => ck (ww a1) 6 <| some (zxor q9.1 (q9.2 195 (ww a1)), q9.2)) else ((m_haterSings h a1 a2).bind fun q10 => some (q10.1, q10.2))))))
abbrev rm_m_singsAct : Room := { frames := 2, cells := 0, slots := 0, locals := 43 }
set_option maxHeartbeats 4000000 in
set_option maxRecDepth 100000 in
theorem t_m_singsAct {S : SS} (hF : Fx S) {h : HH} {a1 : Int} {a2 : Int} {res : Int × HH} (hf : m_singsAct h a1 a2 = some res) : CM yX12_singsAct cX12_singsAct 3 (some Jvm.ClassFile.FieldType.int) 2 43 0 0 (fun bs => [zP bs 193, zI a1, zI a2]) h S (fun _ => some (zI res.1)) res.2 S := by
  refine CM.intro (own := RX12) (by decide) rfl (fun _ => Nat.le_of_ble_eq_true rfl) ?_
  intro D dT bs p l e s m args below meth c C
  show V D dT bs 3 p l e rm_m_singsAct s m args below meth c 0 0 _ h S 0 [(0, zP bs 193), (1, zI a1), (2, zI a2)] []
  unfold m_singsAct at hf
  refine r_aload_n (pc' := 1) (f4 := 0) (i := 0) C 0 rfl rfl dX12_singsAct_0 rfl ?_
  refine q_getP (pc' := 4) (j := 3) C (K_193 hF) fb_12_3 (by decide) wd_1174 (Or.inl rfl) (F_193_3 hF) (by decide) dX12_singsAct_1 rfl ?_
  refine r_iload_n (pc' := 5) (f4 := 1) (i := 1) C 1 rfl rfl dX12_singsAct_4 rfl ?_
  obtain ⟨hi, hf⟩ := ck_in hf
  refine r_iald (pc' := 6) C (K_194 hF) rfl hi dX12_singsAct_5 rfl ?_
  by_cases cs0 : ww (h 194 (ww a1)) = 2
  · rw [if_pos cs0] at hf
    refine r_tsIn (tgt := 40) C 2 cs0 dX12_singsAct_6 (by decide) (by decide) rfl (by decide) ?_
    refine r_aload_n (pc' := 41) (f4 := 0) (i := 0) C 0 rfl rfl dX12_singsAct_40 rfl ?_
    refine r_bipush (pc' := 43) C rfl dX12_singsAct_41 rfl ?_
    obtain ⟨q1, hq1, hf⟩ := bind_in hf
    refine q_callVv (pc' := 46) C (t_m_body hF hq1) rfl (K_193 hF) cl_12 wv_RX12_427 ⟨Nat.le_of_ble_eq_true rfl, Nat.le_of_ble_eq_true rfl⟩ rfl rfl (Nat.le_of_ble_eq_true rfl) dX12_singsAct_43 rfl ⟨Nat.le_of_ble_eq_true rfl, Nat.le_of_ble_eq_true rfl⟩ ?_
    refine r_aload_n (pc' := 47) (f4 := 0) (i := 0) C 0 rfl rfl dX12_singsAct_46 rfl ?_
    refine r_iload_n (pc' := 48) (f4 := 1) (i := 1) C 1 rfl rfl dX12_singsAct_47 rfl ?_
    refine r_iload_n (pc' := 49) (f4 := 2) (i := 2) C 2 rfl rfl dX12_singsAct_48 rfl ?_
    refine r_iconst (pc' := 50) C dX12_singsAct_49 rfl ?_
    refine r_imul (pc' := 51) C dX12_singsAct_50 rfl ?_
    obtain ⟨q2, hq2, hf⟩ := bind_in hf
    refine q_callV (pc' := 54) C (t_m_haterSings hF hq2) rfl (K_193 hF) cl_12 wv_RX12_430 ⟨Nat.le_of_ble_eq_true rfl, Nat.le_of_ble_eq_true rfl⟩ rfl rfl (Nat.le_of_ble_eq_true rfl) dX12_singsAct_51 rfl ⟨Nat.le_of_ble_eq_true rfl, Nat.le_of_ble_eq_true rfl⟩ ?_
    cases hf
    exact r_iret C dX12_singsAct_54
  · rw [if_neg cs0] at hf
    by_cases cs1 : ww (h 194 (ww a1)) = 3
    · rw [if_pos cs1] at hf
      refine r_tsIn (tgt := 89) C 3 cs1 dX12_singsAct_6 (by decide) (by decide) rfl (by decide) ?_
      refine r_aload_n (pc' := 90) (f4 := 0) (i := 0) C 0 rfl rfl dX12_singsAct_89 rfl ?_
      refine r_iload_n (pc' := 91) (f4 := 1) (i := 1) C 1 rfl rfl dX12_singsAct_90 rfl ?_
      refine r_iload_n (pc' := 92) (f4 := 2) (i := 2) C 2 rfl rfl dX12_singsAct_91 rfl ?_
      obtain ⟨q3, hq3, hf⟩ := bind_in hf
      refine q_callV (pc' := 95) C (t_m_haterSings hF hq3) rfl (K_193 hF) cl_12 wv_RX12_430 ⟨Nat.le_of_ble_eq_true rfl, Nat.le_of_ble_eq_true rfl⟩ rfl rfl (Nat.le_of_ble_eq_true rfl) dX12_singsAct_92 rfl ⟨Nat.le_of_ble_eq_true rfl, Nat.le_of_ble_eq_true rfl⟩ ?_
      cases hf
      exact r_iret C dX12_singsAct_95
    · rw [if_neg cs1] at hf
      by_cases cs2 : ww (h 194 (ww a1)) = 4
      · rw [if_pos cs2] at hf
        refine r_tsIn (tgt := 55) C 4 cs2 dX12_singsAct_6 (by decide) (by decide) rfl (by decide) ?_
        refine r_aload_n (pc' := 56) (f4 := 0) (i := 0) C 0 rfl rfl dX12_singsAct_55 rfl ?_
        refine r_bipush (pc' := 58) C rfl dX12_singsAct_56 rfl ?_
        obtain ⟨q4, hq4, hf⟩ := bind_in hf
        refine q_callVv (pc' := 61) C (t_m_body hF hq4) rfl (K_193 hF) cl_12 wv_RX12_427 ⟨Nat.le_of_ble_eq_true rfl, Nat.le_of_ble_eq_true rfl⟩ rfl rfl (Nat.le_of_ble_eq_true rfl) dX12_singsAct_58 rfl ⟨Nat.le_of_ble_eq_true rfl, Nat.le_of_ble_eq_true rfl⟩ ?_
        refine r_aload_n (pc' := 62) (f4 := 0) (i := 0) C 0 rfl rfl dX12_singsAct_61 rfl ?_
        refine r_iload_n (pc' := 63) (f4 := 1) (i := 1) C 1 rfl rfl dX12_singsAct_62 rfl ?_
        refine r_iload_n (pc' := 64) (f4 := 2) (i := 2) C 2 rfl rfl dX12_singsAct_63 rfl ?_
        obtain ⟨q5, hq5, hf⟩ := bind_in hf
        refine q_callV (pc' := 67) C (t_m_haterSings hF hq5) rfl (K_193 hF) cl_12 wv_RX12_430 ⟨Nat.le_of_ble_eq_true rfl, Nat.le_of_ble_eq_true rfl⟩ rfl rfl (Nat.le_of_ble_eq_true rfl) dX12_singsAct_64 rfl ⟨Nat.le_of_ble_eq_true rfl, Nat.le_of_ble_eq_true rfl⟩ ?_
        refine r_ineg (pc' := 68) C dX12_singsAct_67 rfl ?_
        cases hf
        exact r_iret C dX12_singsAct_68
      · rw [if_neg cs2] at hf
        by_cases cs3 : ww (h 194 (ww a1)) = 5
        · rw [if_pos cs3] at hf
          refine r_tsIn (tgt := 40) C 5 cs3 dX12_singsAct_6 (by decide) (by decide) rfl (by decide) ?_
          refine r_aload_n (pc' := 41) (f4 := 0) (i := 0) C 0 rfl rfl dX12_singsAct_40 rfl ?_
          refine r_bipush (pc' := 43) C rfl dX12_singsAct_41 rfl ?_
          obtain ⟨q6, hq6, hf⟩ := bind_in hf
          refine q_callVv (pc' := 46) C (t_m_body hF hq6) rfl (K_193 hF) cl_12 wv_RX12_427 ⟨Nat.le_of_ble_eq_true rfl, Nat.le_of_ble_eq_true rfl⟩ rfl rfl (Nat.le_of_ble_eq_true rfl) dX12_singsAct_43 rfl ⟨Nat.le_of_ble_eq_true rfl, Nat.le_of_ble_eq_true rfl⟩ ?_
          refine r_aload_n (pc' := 47) (f4 := 0) (i := 0) C 0 rfl rfl dX12_singsAct_46 rfl ?_
          refine r_iload_n (pc' := 48) (f4 := 1) (i := 1) C 1 rfl rfl dX12_singsAct_47 rfl ?_
          refine r_iload_n (pc' := 49) (f4 := 2) (i := 2) C 2 rfl rfl dX12_singsAct_48 rfl ?_
          refine r_iconst (pc' := 50) C dX12_singsAct_49 rfl ?_
          refine r_imul (pc' := 51) C dX12_singsAct_50 rfl ?_
          obtain ⟨q7, hq7, hf⟩ := bind_in hf
          refine q_callV (pc' := 54) C (t_m_haterSings hF hq7) rfl (K_193 hF) cl_12 wv_RX12_430 ⟨Nat.le_of_ble_eq_true rfl, Nat.le_of_ble_eq_true rfl⟩ rfl rfl (Nat.le_of_ble_eq_true rfl) dX12_singsAct_51 rfl ⟨Nat.le_of_ble_eq_true rfl, Nat.le_of_ble_eq_true rfl⟩ ?_
          cases hf
          exact r_iret C dX12_singsAct_54
        · rw [if_neg cs3] at hf
          by_cases cs4 : ww (h 194 (ww a1)) = 6
          · rw [if_pos cs4] at hf
            refine r_tsIn (tgt := 69) C 6 cs4 dX12_singsAct_6 (by decide) (by decide) rfl (by decide) ?_
            refine r_aload_n (pc' := 70) (f4 := 0) (i := 0) C 0 rfl rfl dX12_singsAct_69 rfl ?_
            refine r_bipush (pc' := 72) C rfl dX12_singsAct_70 rfl ?_
            obtain ⟨q8, hq8, hf⟩ := bind_in hf
            refine q_callVv (pc' := 75) C (t_m_body hF hq8) rfl (K_193 hF) cl_12 wv_RX12_427 ⟨Nat.le_of_ble_eq_true rfl, Nat.le_of_ble_eq_true rfl⟩ rfl rfl (Nat.le_of_ble_eq_true rfl) dX12_singsAct_72 rfl ⟨Nat.le_of_ble_eq_true rfl, Nat.le_of_ble_eq_true rfl⟩ ?_
            refine r_aload_n (pc' := 76) (f4 := 0) (i := 0) C 0 rfl rfl dX12_singsAct_75 rfl ?_
            refine r_iload_n (pc' := 77) (f4 := 1) (i := 1) C 1 rfl rfl dX12_singsAct_76 rfl ?_
            refine r_iload_n (pc' := 78) (f4 := 2) (i := 2) C 2 rfl rfl dX12_singsAct_77 rfl ?_
            obtain ⟨q9, hq9, hf⟩ := bind_in hf
            refine q_callV (pc' := 81) C (t_m_haterSings hF hq9) rfl (K_193 hF) cl_12 wv_RX12_430 ⟨Nat.le_of_ble_eq_true rfl, Nat.le_of_ble_eq_true rfl⟩ rfl rfl (Nat.le_of_ble_eq_true rfl) dX12_singsAct_78 rfl ⟨Nat.le_of_ble_eq_true rfl, Nat.le_of_ble_eq_true rfl⟩ ?_
            refine r_aload_n (pc' := 82) (f4 := 0) (i := 0) C 0 rfl rfl dX12_singsAct_81 rfl ?_
            refine q_getP (pc' := 85) (j := 4) C (K_193 hF) fb_12_4 (by decide) wd_1175 (Or.inl rfl) (F_193_4 hF) (by decide) dX12_singsAct_82 rfl ?_
            refine r_iload_n (pc' := 86) (f4 := 1) (i := 1) C 1 rfl rfl dX12_singsAct_85 rfl ?_
            obtain ⟨hi, hf⟩ := ck_in hf
            refine r_iald (pc' := 87) C (K_195 hF) rfl hi dX12_singsAct_86 rfl ?_
            refine r_ixor (pc' := 88) C dX12_singsAct_87 rfl ?_
            cases hf
            exact r_iret C dX12_singsAct_88
          · rw [if_neg cs4] at hf
            refine r_tsOut (tgt := 89) C dX12_singsAct_6 (by omega) (by decide) ?_
            refine r_aload_n (pc' := 90) (f4 := 0) (i := 0) C 0 rfl rfl dX12_singsAct_89 rfl ?_
            refine r_iload_n (pc' := 91) (f4 := 1) (i := 1) C 1 rfl rfl dX12_singsAct_90 rfl ?_
            refine r_iload_n (pc' := 92) (f4 := 2) (i := 2) C 2 rfl rfl dX12_singsAct_91 rfl ?_
            obtain ⟨q10, hq10, hf⟩ := bind_in hf
            refine q_callV (pc' := 95) C (t_m_haterSings hF hq10) rfl (K_193 hF) cl_12 wv_RX12_430 ⟨Nat.le_of_ble_eq_true rfl, Nat.le_of_ble_eq_true rfl⟩ rfl rfl (Nat.le_of_ble_eq_true rfl) dX12_singsAct_92 rfl ⟨Nat.le_of_ble_eq_true rfl, Nat.le_of_ble_eq_true rfl⟩ ?_
            cases hf
            exact r_iret C dX12_singsAct_95

/- WassailEnemiesModel.haterSpits(II)I -/
def m_haterSpits (h : HH) (a1 : Int) (a2 : Int) : Option (Int × HH) :=
  (m_body h 11).bind fun q1 => (m_singsAct q1 a1 a2).bind fun q2 => ck (ww a1) 6 <| some (q2.1 - (q2.2 195 (ww a1)), q2.2)
abbrev rm_m_haterSpits : Room := { frames := 3, cells := 0, slots := 0, locals := 65 }
set_option maxHeartbeats 4000000 in
set_option maxRecDepth 100000 in
theorem t_m_haterSpits {S : SS} (hF : Fx S) {h : HH} {a1 : Int} {a2 : Int} {res : Int × HH} (hf : m_haterSpits h a1 a2 = some res) : CM yX12_haterSpits cX12_haterSpits 3 (some Jvm.ClassFile.FieldType.int) 3 65 0 0 (fun bs => [zP bs 193, zI a1, zI a2]) h S (fun _ => some (zI res.1)) res.2 S := by
  refine CM.intro (own := RX12) (by decide) rfl (fun _ => Nat.le_of_ble_eq_true rfl) ?_
  intro D dT bs p l e s m args below meth c C
  show V D dT bs 3 p l e rm_m_haterSpits s m args below meth c 0 0 _ h S 0 [(0, zP bs 193), (1, zI a1), (2, zI a2)] []
  unfold m_haterSpits at hf
  refine r_aload_n (pc' := 1) (f4 := 0) (i := 0) C 0 rfl rfl dX12_haterSpits_0 rfl ?_
  refine r_bipush (pc' := 3) C rfl dX12_haterSpits_1 rfl ?_
  obtain ⟨q1, hq1, hf⟩ := bind_in hf
  refine q_callVv (pc' := 6) C (t_m_body hF hq1) rfl (K_193 hF) cl_12 wv_RX12_427 ⟨Nat.le_of_ble_eq_true rfl, Nat.le_of_ble_eq_true rfl⟩ rfl rfl (Nat.le_of_ble_eq_true rfl) dX12_haterSpits_3 rfl ⟨Nat.le_of_ble_eq_true rfl, Nat.le_of_ble_eq_true rfl⟩ ?_
  refine r_aload_n (pc' := 7) (f4 := 0) (i := 0) C 0 rfl rfl dX12_haterSpits_6 rfl ?_
  refine r_iload_n (pc' := 8) (f4 := 1) (i := 1) C 1 rfl rfl dX12_haterSpits_7 rfl ?_
  refine r_iload_n (pc' := 9) (f4 := 2) (i := 2) C 2 rfl rfl dX12_haterSpits_8 rfl ?_
  obtain ⟨q2, hq2, hf⟩ := bind_in hf
  refine q_callV (pc' := 12) C (t_m_singsAct hF hq2) rfl (K_193 hF) cl_12 wv_RX12_433 ⟨Nat.le_of_ble_eq_true rfl, Nat.le_of_ble_eq_true rfl⟩ rfl rfl (Nat.le_of_ble_eq_true rfl) dX12_haterSpits_9 rfl ⟨Nat.le_of_ble_eq_true rfl, Nat.le_of_ble_eq_true rfl⟩ ?_
  refine r_aload_n (pc' := 13) (f4 := 0) (i := 0) C 0 rfl rfl dX12_haterSpits_12 rfl ?_
  refine q_getP (pc' := 16) (j := 4) C (K_193 hF) fb_12_4 (by decide) wd_1175 (Or.inl rfl) (F_193_4 hF) (by decide) dX12_haterSpits_13 rfl ?_
  refine r_iload_n (pc' := 17) (f4 := 1) (i := 1) C 1 rfl rfl dX12_haterSpits_16 rfl ?_
  obtain ⟨hi, hf⟩ := ck_in hf
  refine r_iald (pc' := 18) C (K_195 hF) rfl hi dX12_haterSpits_17 rfl ?_
  refine r_isub (pc' := 19) C dX12_haterSpits_18 rfl ?_
  cases hf
  exact r_iret C dX12_haterSpits_19

/- WassailEnemiesModel.uncleSpits(II)I -/
def m_uncleSpits (h : HH) (a1 : Int) (a2 : Int) : Option (Int × HH) :=
  (m_body h 20).bind fun q1 => (m_haterSpits q1 a1 a2).bind fun q2 => some (zxor q2.1 6, q2.2)
abbrev rm_m_uncleSpits : Room := { frames := 4, cells := 0, slots := 0, locals := 87 }
set_option maxHeartbeats 4000000 in
set_option maxRecDepth 100000 in
theorem t_m_uncleSpits {S : SS} (hF : Fx S) {h : HH} {a1 : Int} {a2 : Int} {res : Int × HH} (hf : m_uncleSpits h a1 a2 = some res) : CM yX12_uncleSpits cX12_uncleSpits 3 (some Jvm.ClassFile.FieldType.int) 4 87 0 0 (fun bs => [zP bs 193, zI a1, zI a2]) h S (fun _ => some (zI res.1)) res.2 S := by
  refine CM.intro (own := RX12) (by decide) rfl (fun _ => Nat.le_of_ble_eq_true rfl) ?_
  intro D dT bs p l e s m args below meth c C
  show V D dT bs 3 p l e rm_m_uncleSpits s m args below meth c 0 0 _ h S 0 [(0, zP bs 193), (1, zI a1), (2, zI a2)] []
  unfold m_uncleSpits at hf
  refine r_aload_n (pc' := 1) (f4 := 0) (i := 0) C 0 rfl rfl dX12_uncleSpits_0 rfl ?_
  refine r_bipush (pc' := 3) C rfl dX12_uncleSpits_1 rfl ?_
  obtain ⟨q1, hq1, hf⟩ := bind_in hf
  refine q_callVv (pc' := 6) C (t_m_body hF hq1) rfl (K_193 hF) cl_12 wv_RX12_427 ⟨Nat.le_of_ble_eq_true rfl, Nat.le_of_ble_eq_true rfl⟩ rfl rfl (Nat.le_of_ble_eq_true rfl) dX12_uncleSpits_3 rfl ⟨Nat.le_of_ble_eq_true rfl, Nat.le_of_ble_eq_true rfl⟩ ?_
  refine r_aload_n (pc' := 7) (f4 := 0) (i := 0) C 0 rfl rfl dX12_uncleSpits_6 rfl ?_
  refine r_iload_n (pc' := 8) (f4 := 1) (i := 1) C 1 rfl rfl dX12_uncleSpits_7 rfl ?_
  refine r_iload_n (pc' := 9) (f4 := 2) (i := 2) C 2 rfl rfl dX12_uncleSpits_8 rfl ?_
  obtain ⟨q2, hq2, hf⟩ := bind_in hf
  refine q_callV (pc' := 12) C (t_m_haterSpits hF hq2) rfl (K_193 hF) cl_12 wv_RX12_436 ⟨Nat.le_of_ble_eq_true rfl, Nat.le_of_ble_eq_true rfl⟩ rfl rfl (Nat.le_of_ble_eq_true rfl) dX12_uncleSpits_9 rfl ⟨Nat.le_of_ble_eq_true rfl, Nat.le_of_ble_eq_true rfl⟩ ?_
  refine r_bipush (pc' := 14) C rfl dX12_uncleSpits_12 rfl ?_
  refine r_ixor (pc' := 15) C dX12_uncleSpits_14 rfl ?_
  cases hf
  exact r_iret C dX12_uncleSpits_15

/- WassailEnemiesModel.spitsAct(II)I -/
def m_spitsAct (h : HH) (a1 : Int) (a2 : Int) : Option (Int × HH) :=
  ck (ww a1) 6 <| if ww (h 194 (ww a1)) = 1 then ((m_uncleSpits h a1 a2).bind fun q1 => some (q1.1, q1.2)) else (if ww (h 194 (ww a1)) = 4 then ((m_body h 51).bind fun q2 => (m_uncleSpits q2 a1 (a2 + 1)).bind fun q3 => some (q3.1, q3.2)) else (if ww (h 194 (ww a1)) = 6 then ((m_body h 70).bind fun q4 => (m_haterSpits q4 a1 a2).bind fun q5 => (m_haterSings q5.2 a1 2).bind fun q6 => some (q5.1 + q6.1, q6.2)) else ((m_haterSpits h a1 a2).bind fun q7 => some (q7.1, q7.2))))
abbrev rm_m_spitsAct : Room := { frames := 5, cells := 0, slots := 0, locals := 109 }
set_option maxHeartbeats 4000000 in
set_option maxRecDepth 100000 in
theorem t_m_spitsAct {S : SS} (hF : Fx S) {h : HH} {a1 : Int} {a2 : Int} {res : Int × HH} (hf : m_spitsAct h a1 a2 = some res) : CM yX12_spitsAct cX12_spitsAct 4 (some Jvm.ClassFile.FieldType.int) 5 109 0 0 (fun bs => [zP bs 193, zI a1, zI a2]) h S (fun _ => some (zI res.1)) res.2 S := by
  refine CM.intro (own := RX12) (by decide) rfl (fun _ => Nat.le_of_ble_eq_true rfl) ?_
  intro D dT bs p l e s m args below meth c C
  show V D dT bs 4 p l e rm_m_spitsAct s m args below meth c 0 0 _ h S 0 [(0, zP bs 193), (1, zI a1), (2, zI a2)] []
  unfold m_spitsAct at hf
  refine r_aload_n (pc' := 1) (f4 := 0) (i := 0) C 0 rfl rfl dX12_spitsAct_0 rfl ?_
  refine q_getP (pc' := 4) (j := 3) C (K_193 hF) fb_12_3 (by decide) wd_1174 (Or.inl rfl) (F_193_3 hF) (by decide) dX12_spitsAct_1 rfl ?_
  refine r_iload_n (pc' := 5) (f4 := 1) (i := 1) C 1 rfl rfl dX12_spitsAct_4 rfl ?_
  obtain ⟨hi, hf⟩ := ck_in hf
  refine r_iald (pc' := 6) C (K_194 hF) rfl hi dX12_spitsAct_5 rfl ?_
  by_cases cs0 : ww (h 194 (ww a1)) = 1
  · rw [if_pos cs0] at hf
    refine r_ls (tgt := 40) C (off := 34) dX12_spitsAct_6 rfl (by simp [Op.lookupswitch.offset, cs0]) (by decide) ?_
    refine r_aload_n (pc' := 41) (f4 := 0) (i := 0) C 0 rfl rfl dX12_spitsAct_40 rfl ?_
    refine r_iload_n (pc' := 42) (f4 := 1) (i := 1) C 1 rfl rfl dX12_spitsAct_41 rfl ?_
    refine r_iload_n (pc' := 43) (f4 := 2) (i := 2) C 2 rfl rfl dX12_spitsAct_42 rfl ?_
    obtain ⟨q1, hq1, hf⟩ := bind_in hf
    refine q_callV (pc' := 46) C (t_m_uncleSpits hF hq1) rfl (K_193 hF) cl_12 wv_RX12_439 ⟨Nat.le_of_ble_eq_true rfl, Nat.le_of_ble_eq_true rfl⟩ rfl rfl (Nat.le_of_ble_eq_true rfl) dX12_spitsAct_43 rfl ⟨Nat.le_of_ble_eq_true rfl, Nat.le_of_ble_eq_true rfl⟩ ?_
    cases hf
    exact r_iret C dX12_spitsAct_46
  · rw [if_neg cs0] at hf
    by_cases cs1 : ww (h 194 (ww a1)) = 4
    · rw [if_pos cs1] at hf
      refine r_ls (tgt := 47) C (off := 41) dX12_spitsAct_6 rfl (by simp [Op.lookupswitch.offset, cs1]) (by decide) ?_
      refine r_aload_n (pc' := 48) (f4 := 0) (i := 0) C 0 rfl rfl dX12_spitsAct_47 rfl ?_
      refine r_bipush (pc' := 50) C rfl dX12_spitsAct_48 rfl ?_
      obtain ⟨q2, hq2, hf⟩ := bind_in hf
      refine q_callVv (pc' := 53) C (t_m_body hF hq2) rfl (K_193 hF) cl_12 wv_RX12_427 ⟨Nat.le_of_ble_eq_true rfl, Nat.le_of_ble_eq_true rfl⟩ rfl rfl (Nat.le_of_ble_eq_true rfl) dX12_spitsAct_50 rfl ⟨Nat.le_of_ble_eq_true rfl, Nat.le_of_ble_eq_true rfl⟩ ?_
      refine r_aload_n (pc' := 54) (f4 := 0) (i := 0) C 0 rfl rfl dX12_spitsAct_53 rfl ?_
      refine r_iload_n (pc' := 55) (f4 := 1) (i := 1) C 1 rfl rfl dX12_spitsAct_54 rfl ?_
      refine r_iload_n (pc' := 56) (f4 := 2) (i := 2) C 2 rfl rfl dX12_spitsAct_55 rfl ?_
      refine r_iconst (pc' := 57) C dX12_spitsAct_56 rfl ?_
      refine r_iadd (pc' := 58) C dX12_spitsAct_57 rfl ?_
      obtain ⟨q3, hq3, hf⟩ := bind_in hf
      refine q_callV (pc' := 61) C (t_m_uncleSpits hF hq3) rfl (K_193 hF) cl_12 wv_RX12_439 ⟨Nat.le_of_ble_eq_true rfl, Nat.le_of_ble_eq_true rfl⟩ rfl rfl (Nat.le_of_ble_eq_true rfl) dX12_spitsAct_58 rfl ⟨Nat.le_of_ble_eq_true rfl, Nat.le_of_ble_eq_true rfl⟩ ?_
      cases hf
      exact r_iret C dX12_spitsAct_61
    · rw [if_neg cs1] at hf
      by_cases cs2 : ww (h 194 (ww a1)) = 6
      · rw [if_pos cs2] at hf
        refine r_ls (tgt := 62) C (off := 56) dX12_spitsAct_6 rfl (by simp [Op.lookupswitch.offset, cs2]) (by decide) ?_
        refine r_aload_n (pc' := 63) (f4 := 0) (i := 0) C 0 rfl rfl dX12_spitsAct_62 rfl ?_
        refine r_bipush (pc' := 65) C rfl dX12_spitsAct_63 rfl ?_
        obtain ⟨q4, hq4, hf⟩ := bind_in hf
        refine q_callVv (pc' := 68) C (t_m_body hF hq4) rfl (K_193 hF) cl_12 wv_RX12_427 ⟨Nat.le_of_ble_eq_true rfl, Nat.le_of_ble_eq_true rfl⟩ rfl rfl (Nat.le_of_ble_eq_true rfl) dX12_spitsAct_65 rfl ⟨Nat.le_of_ble_eq_true rfl, Nat.le_of_ble_eq_true rfl⟩ ?_
        refine r_aload_n (pc' := 69) (f4 := 0) (i := 0) C 0 rfl rfl dX12_spitsAct_68 rfl ?_
        refine r_iload_n (pc' := 70) (f4 := 1) (i := 1) C 1 rfl rfl dX12_spitsAct_69 rfl ?_
        refine r_iload_n (pc' := 71) (f4 := 2) (i := 2) C 2 rfl rfl dX12_spitsAct_70 rfl ?_
        obtain ⟨q5, hq5, hf⟩ := bind_in hf
        refine q_callV (pc' := 74) C (t_m_haterSpits hF hq5) rfl (K_193 hF) cl_12 wv_RX12_436 ⟨Nat.le_of_ble_eq_true rfl, Nat.le_of_ble_eq_true rfl⟩ rfl rfl (Nat.le_of_ble_eq_true rfl) dX12_spitsAct_71 rfl ⟨Nat.le_of_ble_eq_true rfl, Nat.le_of_ble_eq_true rfl⟩ ?_
        refine r_istore_n (pc' := 75) (f4 := 3) (i := 3) (L' := [(3, zI q5.1), (0, zP bs 193), (1, zI a1), (2, zI a2)]) C rfl (by decide) rfl dX12_spitsAct_74 rfl ?_
        refine r_iload_n (pc' := 76) (f4 := 3) (i := 3) C 0 rfl rfl dX12_spitsAct_75 rfl ?_
        refine r_aload_n (pc' := 77) (f4 := 0) (i := 0) C 1 rfl rfl dX12_spitsAct_76 rfl ?_
        refine r_iload_n (pc' := 78) (f4 := 1) (i := 1) C 2 rfl rfl dX12_spitsAct_77 rfl ?_
        refine r_iconst (pc' := 79) C dX12_spitsAct_78 rfl ?_
        obtain ⟨q6, hq6, hf⟩ := bind_in hf
        refine q_callV (pc' := 82) C (t_m_haterSings hF hq6) rfl (K_193 hF) cl_12 wv_RX12_430 ⟨Nat.le_of_ble_eq_true rfl, Nat.le_of_ble_eq_true rfl⟩ rfl rfl (Nat.le_of_ble_eq_true rfl) dX12_spitsAct_79 rfl ⟨Nat.le_of_ble_eq_true rfl, Nat.le_of_ble_eq_true rfl⟩ ?_
        refine r_iadd (pc' := 83) C dX12_spitsAct_82 rfl ?_
        cases hf
        exact r_iret C dX12_spitsAct_83
      · rw [if_neg cs2] at hf
        refine r_ls (tgt := 84) C (off := 78) dX12_spitsAct_6 rfl (by simp [Op.lookupswitch.offset, Ne.symm cs0, Ne.symm cs1, Ne.symm cs2]) (by decide) ?_
        refine r_aload_n (pc' := 85) (f4 := 0) (i := 0) C 0 rfl rfl dX12_spitsAct_84 rfl ?_
        refine r_iload_n (pc' := 86) (f4 := 1) (i := 1) C 1 rfl rfl dX12_spitsAct_85 rfl ?_
        refine r_iload_n (pc' := 87) (f4 := 2) (i := 2) C 2 rfl rfl dX12_spitsAct_86 rfl ?_
        obtain ⟨q7, hq7, hf⟩ := bind_in hf
        refine q_callV (pc' := 90) C (t_m_haterSpits hF hq7) rfl (K_193 hF) cl_12 wv_RX12_436 ⟨Nat.le_of_ble_eq_true rfl, Nat.le_of_ble_eq_true rfl⟩ rfl rfl (Nat.le_of_ble_eq_true rfl) dX12_spitsAct_87 rfl ⟨Nat.le_of_ble_eq_true rfl, Nat.le_of_ble_eq_true rfl⟩ ?_
        cases hf
        exact r_iret C dX12_spitsAct_90

/- WassailEnemiesModel.haterTells(II)I -/
def m_haterTells (h : HH) (a1 : Int) (a2 : Int) : Option (Int × HH) :=
  (m_body h 12).bind fun q1 => (m_spitsAct q1 a1 a2).bind fun q2 => some (q2.1 * 2, q2.2)
abbrev rm_m_haterTells : Room := { frames := 6, cells := 0, slots := 0, locals := 132 }
set_option maxHeartbeats 4000000 in
set_option maxRecDepth 100000 in
theorem t_m_haterTells {S : SS} (hF : Fx S) {h : HH} {a1 : Int} {a2 : Int} {res : Int × HH} (hf : m_haterTells h a1 a2 = some res) : CM yX12_haterTells cX12_haterTells 3 (some Jvm.ClassFile.FieldType.int) 6 132 0 0 (fun bs => [zP bs 193, zI a1, zI a2]) h S (fun _ => some (zI res.1)) res.2 S := by
  refine CM.intro (own := RX12) (by decide) rfl (fun _ => Nat.le_of_ble_eq_true rfl) ?_
  intro D dT bs p l e s m args below meth c C
  show V D dT bs 3 p l e rm_m_haterTells s m args below meth c 0 0 _ h S 0 [(0, zP bs 193), (1, zI a1), (2, zI a2)] []
  unfold m_haterTells at hf
  refine r_aload_n (pc' := 1) (f4 := 0) (i := 0) C 0 rfl rfl dX12_haterTells_0 rfl ?_
  refine r_bipush (pc' := 3) C rfl dX12_haterTells_1 rfl ?_
  obtain ⟨q1, hq1, hf⟩ := bind_in hf
  refine q_callVv (pc' := 6) C (t_m_body hF hq1) rfl (K_193 hF) cl_12 wv_RX12_427 ⟨Nat.le_of_ble_eq_true rfl, Nat.le_of_ble_eq_true rfl⟩ rfl rfl (Nat.le_of_ble_eq_true rfl) dX12_haterTells_3 rfl ⟨Nat.le_of_ble_eq_true rfl, Nat.le_of_ble_eq_true rfl⟩ ?_
  refine r_aload_n (pc' := 7) (f4 := 0) (i := 0) C 0 rfl rfl dX12_haterTells_6 rfl ?_
  refine r_iload_n (pc' := 8) (f4 := 1) (i := 1) C 1 rfl rfl dX12_haterTells_7 rfl ?_
  refine r_iload_n (pc' := 9) (f4 := 2) (i := 2) C 2 rfl rfl dX12_haterTells_8 rfl ?_
  obtain ⟨q2, hq2, hf⟩ := bind_in hf
  refine q_callV (pc' := 12) C (t_m_spitsAct hF hq2) rfl (K_193 hF) cl_12 wv_RX12_442 ⟨Nat.le_of_ble_eq_true rfl, Nat.le_of_ble_eq_true rfl⟩ rfl rfl (Nat.le_of_ble_eq_true rfl) dX12_haterTells_9 rfl ⟨Nat.le_of_ble_eq_true rfl, Nat.le_of_ble_eq_true rfl⟩ ?_
  refine r_iconst (pc' := 13) C dX12_haterTells_12 rfl ?_
  refine r_imul (pc' := 14) C dX12_haterTells_13 rfl ?_
  cases hf
  exact r_iret C dX12_haterTells_14

/- WassailEnemiesModel.tellsAct(II)I -/
def m_tellsAct (h : HH) (a1 : Int) (a2 : Int) : Option (Int × HH) :=
  ck (ww a1) 6 <| if ww (h 194 (ww a1)) = 3 then ((m_body h 40).bind fun q1 => (m_haterTells q1 a1 a2).bind fun q2 => (m_spitsAct q2.2 a1 1).bind fun q3 => some (q2.1 + q3.1, q3.2)) else (if ww (h 194 (ww a1)) = 4 then ((m_haterTells h a1 a2).bind fun q4 => some (q4.1, q4.2)) else (if ww (h 194 (ww a1)) = 5 then ((m_body h 60).bind fun q5 => (m_haterTells q5 a1 (a2 - a1)).bind fun q6 => some (q6.1, q6.2)) else (if ww (h 194 (ww a1)) = 6 then ((m_body h 40).bind fun q7 => (m_haterTells q7 a1 a2).bind fun q8 => (m_spitsAct q8.2 a1 1).bind fun q9 => some (q8.1 + q9.1, q9.2)) else ((m_haterTells h a1 a2).bind fun q10 => some (q10.1, q10.2)))))
abbrev rm_m_tellsAct : Room := { frames := 7, cells := 0, slots := 0, locals := 154 }
set_option maxHeartbeats 4000000 in
set_option maxRecDepth 100000 in
theorem t_m_tellsAct {S : SS} (hF : Fx S) {h : HH} {a1 : Int} {a2 : Int} {res : Int × HH} (hf : m_tellsAct h a1 a2 = some res) : CM yX12_tellsAct cX12_tellsAct 4 (some Jvm.ClassFile.FieldType.int) 7 154 0 0 (fun bs => [zP bs 193, zI a1, zI a2]) h S (fun _ => some (zI res.1)) res.2 S := by
  refine CM.intro (own := RX12) (by decide) rfl (fun _ => Nat.le_of_ble_eq_true rfl) ?_
  intro D dT bs p l e s m args below meth c C
  show V D dT bs 4 p l e rm_m_tellsAct s m args below meth c 0 0 _ h S 0 [(0, zP bs 193), (1, zI a1), (2, zI a2)] []
  unfold m_tellsAct at hf
  refine r_aload_n (pc' := 1) (f4 := 0) (i := 0) C 0 rfl rfl dX12_tellsAct_0 rfl ?_
  refine q_getP (pc' := 4) (j := 3) C (K_193 hF) fb_12_3 (by decide) wd_1174 (Or.inl rfl) (F_193_3 hF) (by decide) dX12_tellsAct_1 rfl ?_
  refine r_iload_n (pc' := 5) (f4 := 1) (i := 1) C 1 rfl rfl dX12_tellsAct_4 rfl ?_
  obtain ⟨hi, hf⟩ := ck_in hf
  refine r_iald (pc' := 6) C (K_194 hF) rfl hi dX12_tellsAct_5 rfl ?_
  by_cases cs0 : ww (h 194 (ww a1)) = 3
  · rw [if_pos cs0] at hf
    refine r_tsIn (tgt := 36) C 3 cs0 dX12_tellsAct_6 (by decide) (by decide) rfl (by decide) ?_
    refine r_aload_n (pc' := 37) (f4 := 0) (i := 0) C 0 rfl rfl dX12_tellsAct_36 rfl ?_
    refine r_bipush (pc' := 39) C rfl dX12_tellsAct_37 rfl ?_
    obtain ⟨q1, hq1, hf⟩ := bind_in hf
    refine q_callVv (pc' := 42) C (t_m_body hF hq1) rfl (K_193 hF) cl_12 wv_RX12_427 ⟨Nat.le_of_ble_eq_true rfl, Nat.le_of_ble_eq_true rfl⟩ rfl rfl (Nat.le_of_ble_eq_true rfl) dX12_tellsAct_39 rfl ⟨Nat.le_of_ble_eq_true rfl, Nat.le_of_ble_eq_true rfl⟩ ?_
    refine r_aload_n (pc' := 43) (f4 := 0) (i := 0) C 0 rfl rfl dX12_tellsAct_42 rfl ?_
    refine r_iload_n (pc' := 44) (f4 := 1) (i := 1) C 1 rfl rfl dX12_tellsAct_43 rfl ?_
    refine r_iload_n (pc' := 45) (f4 := 2) (i := 2) C 2 rfl rfl dX12_tellsAct_44 rfl ?_
    obtain ⟨q2, hq2, hf⟩ := bind_in hf
    refine q_callV (pc' := 48) C (t_m_haterTells hF hq2) rfl (K_193 hF) cl_12 wv_RX12_445 ⟨Nat.le_of_ble_eq_true rfl, Nat.le_of_ble_eq_true rfl⟩ rfl rfl (Nat.le_of_ble_eq_true rfl) dX12_tellsAct_45 rfl ⟨Nat.le_of_ble_eq_true rfl, Nat.le_of_ble_eq_true rfl⟩ ?_
    refine r_istore_n (pc' := 49) (f4 := 3) (i := 3) (L' := [(3, zI q2.1), (0, zP bs 193), (1, zI a1), (2, zI a2)]) C rfl (by decide) rfl dX12_tellsAct_48 rfl ?_
    refine r_iload_n (pc' := 50) (f4 := 3) (i := 3) C 0 rfl rfl dX12_tellsAct_49 rfl ?_
    refine r_aload_n (pc' := 51) (f4 := 0) (i := 0) C 1 rfl rfl dX12_tellsAct_50 rfl ?_
    refine r_iload_n (pc' := 52) (f4 := 1) (i := 1) C 2 rfl rfl dX12_tellsAct_51 rfl ?_
    refine r_iconst (pc' := 53) C dX12_tellsAct_52 rfl ?_
    obtain ⟨q3, hq3, hf⟩ := bind_in hf
    refine q_callV (pc' := 56) C (t_m_spitsAct hF hq3) rfl (K_193 hF) cl_12 wv_RX12_442 ⟨Nat.le_of_ble_eq_true rfl, Nat.le_of_ble_eq_true rfl⟩ rfl rfl (Nat.le_of_ble_eq_true rfl) dX12_tellsAct_53 rfl ⟨Nat.le_of_ble_eq_true rfl, Nat.le_of_ble_eq_true rfl⟩ ?_
    refine r_iadd (pc' := 57) C dX12_tellsAct_56 rfl ?_
    cases hf
    exact r_iret C dX12_tellsAct_57
  · rw [if_neg cs0] at hf
    by_cases cs1 : ww (h 194 (ww a1)) = 4
    · rw [if_pos cs1] at hf
      refine r_tsIn (tgt := 73) C 4 cs1 dX12_tellsAct_6 (by decide) (by decide) rfl (by decide) ?_
      refine r_aload_n (pc' := 74) (f4 := 0) (i := 0) C 0 rfl rfl dX12_tellsAct_73 rfl ?_
      refine r_iload_n (pc' := 75) (f4 := 1) (i := 1) C 1 rfl rfl dX12_tellsAct_74 rfl ?_
      refine r_iload_n (pc' := 76) (f4 := 2) (i := 2) C 2 rfl rfl dX12_tellsAct_75 rfl ?_
      obtain ⟨q4, hq4, hf⟩ := bind_in hf
      refine q_callV (pc' := 79) C (t_m_haterTells hF hq4) rfl (K_193 hF) cl_12 wv_RX12_445 ⟨Nat.le_of_ble_eq_true rfl, Nat.le_of_ble_eq_true rfl⟩ rfl rfl (Nat.le_of_ble_eq_true rfl) dX12_tellsAct_76 rfl ⟨Nat.le_of_ble_eq_true rfl, Nat.le_of_ble_eq_true rfl⟩ ?_
      cases hf
      exact r_iret C dX12_tellsAct_79
    · rw [if_neg cs1] at hf
      by_cases cs2 : ww (h 194 (ww a1)) = 5
      · rw [if_pos cs2] at hf
        refine r_tsIn (tgt := 58) C 5 cs2 dX12_tellsAct_6 (by decide) (by decide) rfl (by decide) ?_
        refine r_aload_n (pc' := 59) (f4 := 0) (i := 0) C 0 rfl rfl dX12_tellsAct_58 rfl ?_
        refine r_bipush (pc' := 61) C rfl dX12_tellsAct_59 rfl ?_
        obtain ⟨q5, hq5, hf⟩ := bind_in hf
        refine q_callVv (pc' := 64) C (t_m_body hF hq5) rfl (K_193 hF) cl_12 wv_RX12_427 ⟨Nat.le_of_ble_eq_true rfl, Nat.le_of_ble_eq_true rfl⟩ rfl rfl (Nat.le_of_ble_eq_true rfl) dX12_tellsAct_61 rfl ⟨Nat.le_of_ble_eq_true rfl, Nat.le_of_ble_eq_true rfl⟩ ?_
        refine r_aload_n (pc' := 65) (f4 := 0) (i := 0) C 0 rfl rfl dX12_tellsAct_64 rfl ?_
        refine r_iload_n (pc' := 66) (f4 := 1) (i := 1) C 1 rfl rfl dX12_tellsAct_65 rfl ?_
        refine r_iload_n (pc' := 67) (f4 := 2) (i := 2) C 2 rfl rfl dX12_tellsAct_66 rfl ?_
        refine r_iload_n (pc' := 68) (f4 := 1) (i := 1) C 1 rfl rfl dX12_tellsAct_67 rfl ?_
        refine r_isub (pc' := 69) C dX12_tellsAct_68 rfl ?_
        obtain ⟨q6, hq6, hf⟩ := bind_in hf
        refine q_callV (pc' := 72) C (t_m_haterTells hF hq6) rfl (K_193 hF) cl_12 wv_RX12_445 ⟨Nat.le_of_ble_eq_true rfl, Nat.le_of_ble_eq_true rfl⟩ rfl rfl (Nat.le_of_ble_eq_true rfl) dX12_tellsAct_69 rfl ⟨Nat.le_of_ble_eq_true rfl, Nat.le_of_ble_eq_true rfl⟩ ?_
        cases hf
        exact r_iret C dX12_tellsAct_72
      · rw [if_neg cs2] at hf
        by_cases cs3 : ww (h 194 (ww a1)) = 6
        · rw [if_pos cs3] at hf
          refine r_tsIn (tgt := 36) C 6 cs3 dX12_tellsAct_6 (by decide) (by decide) rfl (by decide) ?_
          refine r_aload_n (pc' := 37) (f4 := 0) (i := 0) C 0 rfl rfl dX12_tellsAct_36 rfl ?_
          refine r_bipush (pc' := 39) C rfl dX12_tellsAct_37 rfl ?_
          obtain ⟨q7, hq7, hf⟩ := bind_in hf
          refine q_callVv (pc' := 42) C (t_m_body hF hq7) rfl (K_193 hF) cl_12 wv_RX12_427 ⟨Nat.le_of_ble_eq_true rfl, Nat.le_of_ble_eq_true rfl⟩ rfl rfl (Nat.le_of_ble_eq_true rfl) dX12_tellsAct_39 rfl ⟨Nat.le_of_ble_eq_true rfl, Nat.le_of_ble_eq_true rfl⟩ ?_
          refine r_aload_n (pc' := 43) (f4 := 0) (i := 0) C 0 rfl rfl dX12_tellsAct_42 rfl ?_
          refine r_iload_n (pc' := 44) (f4 := 1) (i := 1) C 1 rfl rfl dX12_tellsAct_43 rfl ?_
          refine r_iload_n (pc' := 45) (f4 := 2) (i := 2) C 2 rfl rfl dX12_tellsAct_44 rfl ?_
          obtain ⟨q8, hq8, hf⟩ := bind_in hf
          refine q_callV (pc' := 48) C (t_m_haterTells hF hq8) rfl (K_193 hF) cl_12 wv_RX12_445 ⟨Nat.le_of_ble_eq_true rfl, Nat.le_of_ble_eq_true rfl⟩ rfl rfl (Nat.le_of_ble_eq_true rfl) dX12_tellsAct_45 rfl ⟨Nat.le_of_ble_eq_true rfl, Nat.le_of_ble_eq_true rfl⟩ ?_
          refine r_istore_n (pc' := 49) (f4 := 3) (i := 3) (L' := [(3, zI q8.1), (0, zP bs 193), (1, zI a1), (2, zI a2)]) C rfl (by decide) rfl dX12_tellsAct_48 rfl ?_
          refine r_iload_n (pc' := 50) (f4 := 3) (i := 3) C 0 rfl rfl dX12_tellsAct_49 rfl ?_
          refine r_aload_n (pc' := 51) (f4 := 0) (i := 0) C 1 rfl rfl dX12_tellsAct_50 rfl ?_
          refine r_iload_n (pc' := 52) (f4 := 1) (i := 1) C 2 rfl rfl dX12_tellsAct_51 rfl ?_
          refine r_iconst (pc' := 53) C dX12_tellsAct_52 rfl ?_
          obtain ⟨q9, hq9, hf⟩ := bind_in hf
          refine q_callV (pc' := 56) C (t_m_spitsAct hF hq9) rfl (K_193 hF) cl_12 wv_RX12_442 ⟨Nat.le_of_ble_eq_true rfl, Nat.le_of_ble_eq_true rfl⟩ rfl rfl (Nat.le_of_ble_eq_true rfl) dX12_tellsAct_53 rfl ⟨Nat.le_of_ble_eq_true rfl, Nat.le_of_ble_eq_true rfl⟩ ?_
          refine r_iadd (pc' := 57) C dX12_tellsAct_56 rfl ?_
          cases hf
          exact r_iret C dX12_tellsAct_57
        · rw [if_neg cs3] at hf
          refine r_tsOut (tgt := 73) C dX12_tellsAct_6 (by omega) (by decide) ?_
          refine r_aload_n (pc' := 74) (f4 := 0) (i := 0) C 0 rfl rfl dX12_tellsAct_73 rfl ?_
          refine r_iload_n (pc' := 75) (f4 := 1) (i := 1) C 1 rfl rfl dX12_tellsAct_74 rfl ?_
          refine r_iload_n (pc' := 76) (f4 := 2) (i := 2) C 2 rfl rfl dX12_tellsAct_75 rfl ?_
          obtain ⟨q10, hq10, hf⟩ := bind_in hf
          refine q_callV (pc' := 79) C (t_m_haterTells hF hq10) rfl (K_193 hF) cl_12 wv_RX12_445 ⟨Nat.le_of_ble_eq_true rfl, Nat.le_of_ble_eq_true rfl⟩ rfl rfl (Nat.le_of_ble_eq_true rfl) dX12_tellsAct_76 rfl ⟨Nat.le_of_ble_eq_true rfl, Nat.le_of_ble_eq_true rfl⟩ ?_
          cases hf
          exact r_iret C dX12_tellsAct_79

/- WassailEnemiesModel.act(III)I -/
def m_act (h : HH) (a1 : Int) (a2 : Int) (a3 : Int) : Option (Int × HH) :=
  if ww (m_isHater (u2 h 193 71 0) a1) = 0 then (some (0, u2 h 193 71 0)) else (if ww (m_in a2 0 2) = 0 then (some (0, u2 h 193 71 0)) else (if ww a2 = 0 then ((m_singsAct (u2 h 193 71 0) a1 a3).bind fun q1 => some (q1.1, q1.2)) else (if ww a2 = 1 then ((m_spitsAct (u2 h 193 71 0) a1 a3).bind fun q2 => some (q2.1, q2.2)) else ((m_tellsAct (u2 h 193 71 0) a1 a3).bind fun q3 => some (q3.1, q3.2)))))
abbrev rm_m_act : Room := { frames := 8, cells := 0, slots := 0, locals := 177 }
set_option maxHeartbeats 4000000 in
set_option maxRecDepth 100000 in
theorem t_m_act {S : SS} (hF : Fx S) {h : HH} {a1 : Int} {a2 : Int} {a3 : Int} {res : Int × HH} (hf : m_act h a1 a2 a3 = some res) : CM yX12_act cX12_act 4 (some Jvm.ClassFile.FieldType.int) 8 177 0 0 (fun bs => [zP bs 193, zI a1, zI a2, zI a3]) h S (fun _ => some (zI res.1)) res.2 S := by
  refine CM.intro (own := RX12) (by decide) rfl (fun _ => Nat.le_of_ble_eq_true rfl) ?_
  intro D dT bs p l e s m args below meth c C
  show V D dT bs 4 p l e rm_m_act s m args below meth c 0 0 _ h S 0 [(0, zP bs 193), (1, zI a1), (2, zI a2), (3, zI a3)] []
  unfold m_act at hf
  refine r_aload_n (pc' := 1) (f4 := 0) (i := 0) C 0 rfl rfl dX12_act_0 rfl ?_
  refine r_iconst (pc' := 2) C dX12_act_1 rfl ?_
  refine q_putI (pc' := 5) (j := 71) C (K_193 hF) fb_12_71 fp_12_71 wd_1242 (Or.inl rfl) (Or.inl rfl) rfl rfl dX12_act_2 rfl ?_
  refine r_aload_n (pc' := 6) (f4 := 0) (i := 0) C 0 rfl rfl dX12_act_5 rfl ?_
  refine r_iload_n (pc' := 7) (f4 := 1) (i := 1) C 1 rfl rfl dX12_act_6 rfl ?_
  refine q_callV (pc' := 10) C (t_m_isHater hF) rfl (K_193 hF) cl_12 wv_RX12_253 ⟨Nat.le_of_ble_eq_true rfl, Nat.le_of_ble_eq_true rfl⟩ rfl rfl (Nat.le_of_ble_eq_true rfl) dX12_act_7 rfl ⟨Nat.le_of_ble_eq_true rfl, Nat.le_of_ble_eq_true rfl⟩ ?_
  refine r_if_eq (pc' := 13) (tgt := 23) C rfl hf dX12_act_10 (by decide) rfl (fun hf => ?_) (fun hf => ?_)
  · refine r_iconst (pc' := 24) C dX12_act_23 rfl ?_
    cases hf
    exact r_iret C dX12_act_24
  · refine r_aload_n (pc' := 14) (f4 := 0) (i := 0) C 0 rfl rfl dX12_act_13 rfl ?_
    refine r_iload_n (pc' := 15) (f4 := 2) (i := 2) C 2 rfl rfl dX12_act_14 rfl ?_
    refine r_iconst (pc' := 16) C dX12_act_15 rfl ?_
    refine r_iconst (pc' := 17) C dX12_act_16 rfl ?_
    refine q_callV (pc' := 20) C (t_m_in hF) rfl (K_193 hF) cl_12 wv_RX12_245 ⟨Nat.le_of_ble_eq_true rfl, Nat.le_of_ble_eq_true rfl⟩ rfl rfl (Nat.le_of_ble_eq_true rfl) dX12_act_17 rfl ⟨Nat.le_of_ble_eq_true rfl, Nat.le_of_ble_eq_true rfl⟩ ?_
    refine r_if_ne (pc' := 23) (tgt := 25) C rfl hf dX12_act_20 (by decide) rfl (fun hf => ?_) (fun hf => ?_)
    · refine r_iconst (pc' := 24) C dX12_act_23 rfl ?_
      cases hf
      exact r_iret C dX12_act_24
    · refine r_iload_n (pc' := 26) (f4 := 2) (i := 2) C 2 rfl rfl dX12_act_25 rfl ?_
      refine r_if_ne (pc' := 29) (tgt := 38) C rfl hf dX12_act_26 (by decide) rfl (fun hf => ?_) (fun hf => ?_)
      · refine r_aload_n (pc' := 30) (f4 := 0) (i := 0) C 0 rfl rfl dX12_act_29 rfl ?_
        refine r_iload_n (pc' := 31) (f4 := 1) (i := 1) C 1 rfl rfl dX12_act_30 rfl ?_
        refine r_iload_n (pc' := 32) (f4 := 3) (i := 3) C 3 rfl rfl dX12_act_31 rfl ?_
        obtain ⟨q1, hq1, hf⟩ := bind_in hf
        refine q_callV (pc' := 35) C (t_m_singsAct hF hq1) rfl (K_193 hF) cl_12 wv_RX12_433 ⟨Nat.le_of_ble_eq_true rfl, Nat.le_of_ble_eq_true rfl⟩ rfl rfl (Nat.le_of_ble_eq_true rfl) dX12_act_32 rfl ⟨Nat.le_of_ble_eq_true rfl, Nat.le_of_ble_eq_true rfl⟩ ?_
        refine r_goto (tgt := 58) C dX12_act_35 (by decide) ?_
        cases hf
        exact r_iret C dX12_act_58
      · refine r_iload_n (pc' := 39) (f4 := 2) (i := 2) C 2 rfl rfl dX12_act_38 rfl ?_
        refine r_iconst (pc' := 40) C dX12_act_39 rfl ?_
        refine r_icmp_ne (pc' := 43) (tgt := 52) C rfl ww_n1 hf dX12_act_40 (by decide) rfl (fun hf => ?_) (fun hf => ?_)
        · refine r_aload_n (pc' := 44) (f4 := 0) (i := 0) C 0 rfl rfl dX12_act_43 rfl ?_
          refine r_iload_n (pc' := 45) (f4 := 1) (i := 1) C 1 rfl rfl dX12_act_44 rfl ?_
          refine r_iload_n (pc' := 46) (f4 := 3) (i := 3) C 3 rfl rfl dX12_act_45 rfl ?_
          obtain ⟨q2, hq2, hf⟩ := bind_in hf
          refine q_callV (pc' := 49) C (t_m_spitsAct hF hq2) rfl (K_193 hF) cl_12 wv_RX12_442 ⟨Nat.le_of_ble_eq_true rfl, Nat.le_of_ble_eq_true rfl⟩ rfl rfl (Nat.le_of_ble_eq_true rfl) dX12_act_46 rfl ⟨Nat.le_of_ble_eq_true rfl, Nat.le_of_ble_eq_true rfl⟩ ?_
          refine r_goto (tgt := 58) C dX12_act_49 (by decide) ?_
          cases hf
          exact r_iret C dX12_act_58
        · refine r_aload_n (pc' := 53) (f4 := 0) (i := 0) C 0 rfl rfl dX12_act_52 rfl ?_
          refine r_iload_n (pc' := 54) (f4 := 1) (i := 1) C 1 rfl rfl dX12_act_53 rfl ?_
          refine r_iload_n (pc' := 55) (f4 := 3) (i := 3) C 3 rfl rfl dX12_act_54 rfl ?_
          obtain ⟨q3, hq3, hf⟩ := bind_in hf
          refine q_callV (pc' := 58) C (t_m_tellsAct hF hq3) rfl (K_193 hF) cl_12 wv_RX12_448 ⟨Nat.le_of_ble_eq_true rfl, Nat.le_of_ble_eq_true rfl⟩ rfl rfl (Nat.le_of_ble_eq_true rfl) dX12_act_55 rfl ⟨Nat.le_of_ble_eq_true rfl, Nat.le_of_ble_eq_true rfl⟩ ?_
          cases hf
          exact r_iret C dX12_act_58

/- WassailEnemiesModel.trace(I)I -/
def m_trace (h : HH) (a1 : Int) : Option Int :=
  if ww (m_in a1 0 19) = 0 then (some (-1)) else (if ww a1 < ww (h 193 71) then (ck (ww a1) 20 <| some (h 238 (ww a1))) else (some (-1)))
abbrev rm_m_trace : Room := { frames := 1, cells := 0, slots := 0, locals := 23 }
set_option maxHeartbeats 4000000 in
set_option maxRecDepth 100000 in
theorem t_m_trace {S : SS} (hF : Fx S) {h : HH} {a1 : Int} {res : Int} (hf : m_trace h a1 = some res) : CM yX12_trace cX12_trace 2 (some Jvm.ClassFile.FieldType.int) 1 23 0 0 (fun bs => [zP bs 193, zI a1]) h S (fun _ => some (zI res)) h S := by
  refine CM.intro (own := RX12) (by decide) rfl (fun _ => Nat.le_of_ble_eq_true rfl) ?_
  intro D dT bs p l e s m args below meth c C
  show V D dT bs 2 p l e rm_m_trace s m args below meth c 0 0 _ h S 0 [(0, zP bs 193), (1, zI a1)] []
  unfold m_trace at hf
  refine r_aload_n (pc' := 1) (f4 := 0) (i := 0) C 0 rfl rfl dX12_trace_0 rfl ?_
  refine r_iload_n (pc' := 2) (f4 := 1) (i := 1) C 1 rfl rfl dX12_trace_1 rfl ?_
  refine r_iconst (pc' := 3) C dX12_trace_2 rfl ?_
  refine r_bipush (pc' := 5) C rfl dX12_trace_3 rfl ?_
  refine q_callV (pc' := 8) C (t_m_in hF) rfl (K_193 hF) cl_12 wv_RX12_245 ⟨Nat.le_of_ble_eq_true rfl, Nat.le_of_ble_eq_true rfl⟩ rfl rfl (Nat.le_of_ble_eq_true rfl) dX12_trace_5 rfl ⟨Nat.le_of_ble_eq_true rfl, Nat.le_of_ble_eq_true rfl⟩ ?_
  refine r_if_eq (pc' := 11) (tgt := 28) C rfl hf dX12_trace_8 (by decide) rfl (fun hf => ?_) (fun hf => ?_)
  · refine r_iconst (pc' := 29) C dX12_trace_28 rfl ?_
    cases hf
    exact r_iret C dX12_trace_29
  · refine r_iload_n (pc' := 12) (f4 := 1) (i := 1) C 1 rfl rfl dX12_trace_11 rfl ?_
    refine r_aload_n (pc' := 13) (f4 := 0) (i := 0) C 0 rfl rfl dX12_trace_12 rfl ?_
    refine q_getI (pc' := 16) (j := 71) C (K_193 hF) fb_12_71 wd_1242 (Or.inl rfl) dX12_trace_13 rfl ?_
    refine r_icmp_ge (pc' := 19) (tgt := 28) C rfl rfl hf dX12_trace_16 (by decide) rfl (fun hf => ?_) (fun hf => ?_)
    · refine r_aload_n (pc' := 20) (f4 := 0) (i := 0) C 0 rfl rfl dX12_trace_19 rfl ?_
      refine q_getP (pc' := 23) (j := 72) C (K_193 hF) fb_12_72 (by decide) wd_1243 (Or.inl rfl) (F_193_72 hF) (by decide) dX12_trace_20 rfl ?_
      refine r_iload_n (pc' := 24) (f4 := 1) (i := 1) C 1 rfl rfl dX12_trace_23 rfl ?_
      obtain ⟨hi, hf⟩ := ck_in hf
      refine r_iald (pc' := 25) C (K_238 hF) rfl hi dX12_trace_24 rfl ?_
      refine r_goto (tgt := 29) C dX12_trace_25 (by decide) ?_
      cases hf
      exact r_iret C dX12_trace_29
    · refine r_iconst (pc' := 29) C dX12_trace_28 rfl ?_
      cases hf
      exact r_iret C dX12_trace_29

/- WassailEnemiesModel.taken(II)I -/
def m_taken (h : HH) (a1 : Int) (a2 : Int) : Option Int :=
  if ww (m_in a2 0 6) = 0 then (some (-2)) else (if ww (m_isHater h a1) = 0 then (some (-11)) else (ck (ww a1) 6 <| if ww a2 = 0 then (some (h 194 (ww a1))) else (if ww (h 194 (ww a1)) = ww a2 then (some (h 194 (ww a1))) else (if ww a2 = 1 then (if ww (h 194 (ww a1)) = 4 then (some (h 194 (ww a1))) else (if ww a2 = 2 then (if ww (h 194 (ww a1)) = 5 then (some (h 194 (ww a1))) else (if ww a2 = 3 then (if ww (h 194 (ww a1)) = 6 then (some (h 194 (ww a1))) else (some (-12))) else (some (-12)))) else (if ww a2 = 3 then (if ww (h 194 (ww a1)) = 6 then (some (h 194 (ww a1))) else (some (-12))) else (some (-12))))) else (if ww a2 = 2 then (if ww (h 194 (ww a1)) = 5 then (some (h 194 (ww a1))) else (if ww a2 = 3 then (if ww (h 194 (ww a1)) = 6 then (some (h 194 (ww a1))) else (some (-12))) else (some (-12)))) else (if ww a2 = 3 then (if ww (h 194 (ww a1)) = 6 then (some (h 194 (ww a1))) else (some (-12))) else (some (-12))))))))
abbrev rm_m_taken : Room := { frames := 2, cells := 0, slots := 0, locals := 44 }
set_option maxHeartbeats 4000000 in
set_option maxRecDepth 100000 in
theorem t_m_taken {S : SS} (hF : Fx S) {h : HH} {a1 : Int} {a2 : Int} {res : Int} (hf : m_taken h a1 a2 = some res) : CM yX12_taken cX12_taken 4 (some Jvm.ClassFile.FieldType.int) 2 44 0 0 (fun bs => [zP bs 193, zI a1, zI a2]) h S (fun _ => some (zI res)) h S := by
  refine CM.intro (own := RX12) (by decide) rfl (fun _ => Nat.le_of_ble_eq_true rfl) ?_
  intro D dT bs p l e s m args below meth c C
  show V D dT bs 4 p l e rm_m_taken s m args below meth c 0 0 _ h S 0 [(0, zP bs 193), (1, zI a1), (2, zI a2)] []
  unfold m_taken at hf
  refine r_aload_n (pc' := 1) (f4 := 0) (i := 0) C 0 rfl rfl dX12_taken_0 rfl ?_
  refine r_iload_n (pc' := 2) (f4 := 2) (i := 2) C 2 rfl rfl dX12_taken_1 rfl ?_
  refine r_iconst (pc' := 3) C dX12_taken_2 rfl ?_
  refine r_bipush (pc' := 5) C rfl dX12_taken_3 rfl ?_
  refine q_callV (pc' := 8) C (t_m_in hF) rfl (K_193 hF) cl_12 wv_RX12_245 ⟨Nat.le_of_ble_eq_true rfl, Nat.le_of_ble_eq_true rfl⟩ rfl rfl (Nat.le_of_ble_eq_true rfl) dX12_taken_5 rfl ⟨Nat.le_of_ble_eq_true rfl, Nat.le_of_ble_eq_true rfl⟩ ?_
  refine r_if_ne (pc' := 11) (tgt := 14) C rfl hf dX12_taken_8 (by decide) rfl (fun hf => ?_) (fun hf => ?_)
  · refine r_bipush (pc' := 13) C rfl dX12_taken_11 rfl ?_
    cases hf
    exact r_iret C dX12_taken_13
  · refine r_aload_n (pc' := 15) (f4 := 0) (i := 0) C 0 rfl rfl dX12_taken_14 rfl ?_
    refine r_iload_n (pc' := 16) (f4 := 1) (i := 1) C 1 rfl rfl dX12_taken_15 rfl ?_
    refine q_callV (pc' := 19) C (t_m_isHater hF) rfl (K_193 hF) cl_12 wv_RX12_253 ⟨Nat.le_of_ble_eq_true rfl, Nat.le_of_ble_eq_true rfl⟩ rfl rfl (Nat.le_of_ble_eq_true rfl) dX12_taken_16 rfl ⟨Nat.le_of_ble_eq_true rfl, Nat.le_of_ble_eq_true rfl⟩ ?_
    refine r_if_ne (pc' := 22) (tgt := 25) C rfl hf dX12_taken_19 (by decide) rfl (fun hf => ?_) (fun hf => ?_)
    · refine r_bipush (pc' := 24) C rfl dX12_taken_22 rfl ?_
      cases hf
      exact r_iret C dX12_taken_24
    · refine r_aload_n (pc' := 26) (f4 := 0) (i := 0) C 0 rfl rfl dX12_taken_25 rfl ?_
      refine q_getP (pc' := 29) (j := 3) C (K_193 hF) fb_12_3 (by decide) wd_1174 (Or.inl rfl) (F_193_3 hF) (by decide) dX12_taken_26 rfl ?_
      refine r_iload_n (pc' := 30) (f4 := 1) (i := 1) C 1 rfl rfl dX12_taken_29 rfl ?_
      obtain ⟨hi, hf⟩ := ck_in hf
      refine r_iald (pc' := 31) C (K_194 hF) rfl hi dX12_taken_30 rfl ?_
      refine r_istore_n (pc' := 32) (f4 := 3) (i := 3) (L' := [(3, zI (h 194 (ww a1))), (0, zP bs 193), (1, zI a1), (2, zI a2)]) C rfl (by decide) rfl dX12_taken_31 rfl ?_
      refine r_iload_n (pc' := 33) (f4 := 2) (i := 2) C 3 rfl rfl dX12_taken_32 rfl ?_
      refine r_if_eq (pc' := 36) (tgt := 72) C rfl hf dX12_taken_33 (by decide) rfl (fun hf => ?_) (fun hf => ?_)
      · refine r_iload_n (pc' := 73) (f4 := 3) (i := 3) C 0 rfl rfl dX12_taken_72 rfl ?_
        refine r_goto (tgt := 78) C dX12_taken_73 (by decide) ?_
        cases hf
        exact r_iret C dX12_taken_78
      · refine r_iload_n (pc' := 37) (f4 := 3) (i := 3) C 0 rfl rfl dX12_taken_36 rfl ?_
        refine r_iload_n (pc' := 38) (f4 := 2) (i := 2) C 3 rfl rfl dX12_taken_37 rfl ?_
        refine r_icmp_eq (pc' := 41) (tgt := 72) C rfl rfl hf dX12_taken_38 (by decide) rfl (fun hf => ?_) (fun hf => ?_)
        · refine r_iload_n (pc' := 73) (f4 := 3) (i := 3) C 0 rfl rfl dX12_taken_72 rfl ?_
          refine r_goto (tgt := 78) C dX12_taken_73 (by decide) ?_
          cases hf
          exact r_iret C dX12_taken_78
        · refine r_iload_n (pc' := 42) (f4 := 2) (i := 2) C 3 rfl rfl dX12_taken_41 rfl ?_
          refine r_iconst (pc' := 43) C dX12_taken_42 rfl ?_
          refine r_icmp_ne (pc' := 46) (tgt := 51) C rfl ww_n1 hf dX12_taken_43 (by decide) rfl (fun hf => ?_) (fun hf => ?_)
          · refine r_iload_n (pc' := 47) (f4 := 3) (i := 3) C 0 rfl rfl dX12_taken_46 rfl ?_
            refine r_iconst (pc' := 48) C dX12_taken_47 rfl ?_
            refine r_icmp_eq (pc' := 51) (tgt := 72) C rfl ww_n4 hf dX12_taken_48 (by decide) rfl (fun hf => ?_) (fun hf => ?_)
            · refine r_iload_n (pc' := 73) (f4 := 3) (i := 3) C 0 rfl rfl dX12_taken_72 rfl ?_
              refine r_goto (tgt := 78) C dX12_taken_73 (by decide) ?_
              cases hf
              exact r_iret C dX12_taken_78
            · refine r_iload_n (pc' := 52) (f4 := 2) (i := 2) C 3 rfl rfl dX12_taken_51 rfl ?_
              refine r_iconst (pc' := 53) C dX12_taken_52 rfl ?_
              refine r_icmp_ne (pc' := 56) (tgt := 61) C rfl ww_n2 hf dX12_taken_53 (by decide) rfl (fun hf => ?_) (fun hf => ?_)
              · refine r_iload_n (pc' := 57) (f4 := 3) (i := 3) C 0 rfl rfl dX12_taken_56 rfl ?_
                refine r_iconst (pc' := 58) C dX12_taken_57 rfl ?_
                refine r_icmp_eq (pc' := 61) (tgt := 72) C rfl ww_n5 hf dX12_taken_58 (by decide) rfl (fun hf => ?_) (fun hf => ?_)
                · refine r_iload_n (pc' := 73) (f4 := 3) (i := 3) C 0 rfl rfl dX12_taken_72 rfl ?_
                  refine r_goto (tgt := 78) C dX12_taken_73 (by decide) ?_
                  cases hf
                  exact r_iret C dX12_taken_78
                · refine r_iload_n (pc' := 62) (f4 := 2) (i := 2) C 3 rfl rfl dX12_taken_61 rfl ?_
                  refine r_iconst (pc' := 63) C dX12_taken_62 rfl ?_
                  refine r_icmp_ne (pc' := 66) (tgt := 76) C rfl ww_n3 hf dX12_taken_63 (by decide) rfl (fun hf => ?_) (fun hf => ?_)
                  · refine r_iload_n (pc' := 67) (f4 := 3) (i := 3) C 0 rfl rfl dX12_taken_66 rfl ?_
                    refine r_bipush (pc' := 69) C rfl dX12_taken_67 rfl ?_
                    refine r_icmp_ne (pc' := 72) (tgt := 76) C rfl ww_n6 hf dX12_taken_69 (by decide) rfl (fun hf => ?_) (fun hf => ?_)
                    · refine r_iload_n (pc' := 73) (f4 := 3) (i := 3) C 0 rfl rfl dX12_taken_72 rfl ?_
                      refine r_goto (tgt := 78) C dX12_taken_73 (by decide) ?_
                      cases hf
                      exact r_iret C dX12_taken_78
                    · refine r_bipush (pc' := 78) C rfl dX12_taken_76 rfl ?_
                      cases hf
                      exact r_iret C dX12_taken_78
                  · refine r_bipush (pc' := 78) C rfl dX12_taken_76 rfl ?_
                    cases hf
                    exact r_iret C dX12_taken_78
              · refine r_iload_n (pc' := 62) (f4 := 2) (i := 2) C 3 rfl rfl dX12_taken_61 rfl ?_
                refine r_iconst (pc' := 63) C dX12_taken_62 rfl ?_
                refine r_icmp_ne (pc' := 66) (tgt := 76) C rfl ww_n3 hf dX12_taken_63 (by decide) rfl (fun hf => ?_) (fun hf => ?_)
                · refine r_iload_n (pc' := 67) (f4 := 3) (i := 3) C 0 rfl rfl dX12_taken_66 rfl ?_
                  refine r_bipush (pc' := 69) C rfl dX12_taken_67 rfl ?_
                  refine r_icmp_ne (pc' := 72) (tgt := 76) C rfl ww_n6 hf dX12_taken_69 (by decide) rfl (fun hf => ?_) (fun hf => ?_)
                  · refine r_iload_n (pc' := 73) (f4 := 3) (i := 3) C 0 rfl rfl dX12_taken_72 rfl ?_
                    refine r_goto (tgt := 78) C dX12_taken_73 (by decide) ?_
                    cases hf
                    exact r_iret C dX12_taken_78
                  · refine r_bipush (pc' := 78) C rfl dX12_taken_76 rfl ?_
                    cases hf
                    exact r_iret C dX12_taken_78
                · refine r_bipush (pc' := 78) C rfl dX12_taken_76 rfl ?_
                  cases hf
                  exact r_iret C dX12_taken_78
          · refine r_iload_n (pc' := 52) (f4 := 2) (i := 2) C 3 rfl rfl dX12_taken_51 rfl ?_
            refine r_iconst (pc' := 53) C dX12_taken_52 rfl ?_
            refine r_icmp_ne (pc' := 56) (tgt := 61) C rfl ww_n2 hf dX12_taken_53 (by decide) rfl (fun hf => ?_) (fun hf => ?_)
            · refine r_iload_n (pc' := 57) (f4 := 3) (i := 3) C 0 rfl rfl dX12_taken_56 rfl ?_
              refine r_iconst (pc' := 58) C dX12_taken_57 rfl ?_
              refine r_icmp_eq (pc' := 61) (tgt := 72) C rfl ww_n5 hf dX12_taken_58 (by decide) rfl (fun hf => ?_) (fun hf => ?_)
              · refine r_iload_n (pc' := 73) (f4 := 3) (i := 3) C 0 rfl rfl dX12_taken_72 rfl ?_
                refine r_goto (tgt := 78) C dX12_taken_73 (by decide) ?_
                cases hf
                exact r_iret C dX12_taken_78
              · refine r_iload_n (pc' := 62) (f4 := 2) (i := 2) C 3 rfl rfl dX12_taken_61 rfl ?_
                refine r_iconst (pc' := 63) C dX12_taken_62 rfl ?_
                refine r_icmp_ne (pc' := 66) (tgt := 76) C rfl ww_n3 hf dX12_taken_63 (by decide) rfl (fun hf => ?_) (fun hf => ?_)
                · refine r_iload_n (pc' := 67) (f4 := 3) (i := 3) C 0 rfl rfl dX12_taken_66 rfl ?_
                  refine r_bipush (pc' := 69) C rfl dX12_taken_67 rfl ?_
                  refine r_icmp_ne (pc' := 72) (tgt := 76) C rfl ww_n6 hf dX12_taken_69 (by decide) rfl (fun hf => ?_) (fun hf => ?_)
                  · refine r_iload_n (pc' := 73) (f4 := 3) (i := 3) C 0 rfl rfl dX12_taken_72 rfl ?_
                    refine r_goto (tgt := 78) C dX12_taken_73 (by decide) ?_
                    cases hf
                    exact r_iret C dX12_taken_78
                  · refine r_bipush (pc' := 78) C rfl dX12_taken_76 rfl ?_
                    cases hf
                    exact r_iret C dX12_taken_78
                · refine r_bipush (pc' := 78) C rfl dX12_taken_76 rfl ?_
                  cases hf
                  exact r_iret C dX12_taken_78
            · refine r_iload_n (pc' := 62) (f4 := 2) (i := 2) C 3 rfl rfl dX12_taken_61 rfl ?_
              refine r_iconst (pc' := 63) C dX12_taken_62 rfl ?_
              refine r_icmp_ne (pc' := 66) (tgt := 76) C rfl ww_n3 hf dX12_taken_63 (by decide) rfl (fun hf => ?_) (fun hf => ?_)
              · refine r_iload_n (pc' := 67) (f4 := 3) (i := 3) C 0 rfl rfl dX12_taken_66 rfl ?_
                refine r_bipush (pc' := 69) C rfl dX12_taken_67 rfl ?_
                refine r_icmp_ne (pc' := 72) (tgt := 76) C rfl ww_n6 hf dX12_taken_69 (by decide) rfl (fun hf => ?_) (fun hf => ?_)
                · refine r_iload_n (pc' := 73) (f4 := 3) (i := 3) C 0 rfl rfl dX12_taken_72 rfl ?_
                  refine r_goto (tgt := 78) C dX12_taken_73 (by decide) ?_
                  cases hf
                  exact r_iret C dX12_taken_78
                · refine r_bipush (pc' := 78) C rfl dX12_taken_76 rfl ?_
                  cases hf
                  exact r_iret C dX12_taken_78
              · refine r_bipush (pc' := 78) C rfl dX12_taken_76 rfl ?_
                cases hf
                exact r_iret C dX12_taken_78

/- WassailEnemiesModel.count(I)I -/
def m_count (h : HH) (a1 : Int) : Int :=
  if ww a1 = 0 then (h 193 0) else (if ww a1 = 1 then (h 193 9) else (if ww a1 = 2 then (h 193 38) else (if ww a1 = 3 then (h 193 43) else (if ww a1 = 4 then (h 193 44) else (if ww a1 = 5 then (h 193 11) else (if ww a1 = 6 then (h 193 71) else (-2)))))))
abbrev rm_m_count : Room := { frames := 0, cells := 0, slots := 0, locals := 0 }
set_option maxHeartbeats 4000000 in
set_option maxRecDepth 100000 in
theorem t_m_count {S : SS} (hF : Fx S) {h : HH} {a1 : Int} : CM yX12_count cX12_count 2 (some Jvm.ClassFile.FieldType.int) 0 0 0 0 (fun bs => [zP bs 193, zI a1]) h S (fun _ => some (zI (m_count h a1))) h S := by
  refine CM.intro (own := RX12) (by decide) rfl (fun _ => Nat.le_of_ble_eq_true rfl) ?_
  intro D dT bs p l e s m args below meth c C
  show V D dT bs 2 p l e rm_m_count s m args below meth c 0 0 _ h S 0 [(0, zP bs 193), (1, zI a1)] []
  obtain ⟨res, hf⟩ : ∃ r, m_count h a1 = r := ⟨_, rfl⟩
  rw [hf]
  unfold m_count at hf
  refine r_iload_n (pc' := 1) (f4 := 1) (i := 1) C 1 rfl rfl dX12_count_0 rfl ?_
  by_cases cs0 : ww a1 = 0
  · rw [if_pos cs0] at hf
    refine r_tsIn (tgt := 44) C 0 cs0 dX12_count_1 (by decide) (by decide) rfl (by decide) ?_
    refine r_aload_n (pc' := 45) (f4 := 0) (i := 0) C 0 rfl rfl dX12_count_44 rfl ?_
    refine q_getI (pc' := 48) (j := 0) C (K_193 hF) fb_12_0 wd_1171 (Or.inl rfl) dX12_count_45 rfl ?_
    subst hf
    exact r_iret C dX12_count_48
  · rw [if_neg cs0] at hf
    by_cases cs1 : ww a1 = 1
    · rw [if_pos cs1] at hf
      refine r_tsIn (tgt := 49) C 1 cs1 dX12_count_1 (by decide) (by decide) rfl (by decide) ?_
      refine r_aload_n (pc' := 50) (f4 := 0) (i := 0) C 0 rfl rfl dX12_count_49 rfl ?_
      refine q_getI (pc' := 53) (j := 9) C (K_193 hF) fb_12_9 wd_1180 (Or.inl rfl) dX12_count_50 rfl ?_
      subst hf
      exact r_iret C dX12_count_53
    · rw [if_neg cs1] at hf
      by_cases cs2 : ww a1 = 2
      · rw [if_pos cs2] at hf
        refine r_tsIn (tgt := 54) C 2 cs2 dX12_count_1 (by decide) (by decide) rfl (by decide) ?_
        refine r_aload_n (pc' := 55) (f4 := 0) (i := 0) C 0 rfl rfl dX12_count_54 rfl ?_
        refine q_getI (pc' := 58) (j := 38) C (K_193 hF) fb_12_38 wd_1209 (Or.inl rfl) dX12_count_55 rfl ?_
        subst hf
        exact r_iret C dX12_count_58
      · rw [if_neg cs2] at hf
        by_cases cs3 : ww a1 = 3
        · rw [if_pos cs3] at hf
          refine r_tsIn (tgt := 59) C 3 cs3 dX12_count_1 (by decide) (by decide) rfl (by decide) ?_
          refine r_aload_n (pc' := 60) (f4 := 0) (i := 0) C 0 rfl rfl dX12_count_59 rfl ?_
          refine q_getI (pc' := 63) (j := 43) C (K_193 hF) fb_12_43 wd_1214 (Or.inl rfl) dX12_count_60 rfl ?_
          subst hf
          exact r_iret C dX12_count_63
        · rw [if_neg cs3] at hf
          by_cases cs4 : ww a1 = 4
          · rw [if_pos cs4] at hf
            refine r_tsIn (tgt := 64) C 4 cs4 dX12_count_1 (by decide) (by decide) rfl (by decide) ?_
            refine r_aload_n (pc' := 65) (f4 := 0) (i := 0) C 0 rfl rfl dX12_count_64 rfl ?_
            refine q_getI (pc' := 68) (j := 44) C (K_193 hF) fb_12_44 wd_1215 (Or.inl rfl) dX12_count_65 rfl ?_
            subst hf
            exact r_iret C dX12_count_68
          · rw [if_neg cs4] at hf
            by_cases cs5 : ww a1 = 5
            · rw [if_pos cs5] at hf
              refine r_tsIn (tgt := 69) C 5 cs5 dX12_count_1 (by decide) (by decide) rfl (by decide) ?_
              refine r_aload_n (pc' := 70) (f4 := 0) (i := 0) C 0 rfl rfl dX12_count_69 rfl ?_
              refine q_getI (pc' := 73) (j := 11) C (K_193 hF) fb_12_11 wd_1182 (Or.inl rfl) dX12_count_70 rfl ?_
              subst hf
              exact r_iret C dX12_count_73
            · rw [if_neg cs5] at hf
              by_cases cs6 : ww a1 = 6
              · rw [if_pos cs6] at hf
                refine r_tsIn (tgt := 74) C 6 cs6 dX12_count_1 (by decide) (by decide) rfl (by decide) ?_
                refine r_aload_n (pc' := 75) (f4 := 0) (i := 0) C 0 rfl rfl dX12_count_74 rfl ?_
                refine q_getI (pc' := 78) (j := 71) C (K_193 hF) fb_12_71 wd_1242 (Or.inl rfl) dX12_count_75 rfl ?_
                subst hf
                exact r_iret C dX12_count_78
              · rw [if_neg cs6] at hf
                refine r_tsOut (tgt := 79) C dX12_count_1 (by omega) (by decide) ?_
                refine r_bipush (pc' := 81) C rfl dX12_count_79 rfl ?_
                subst hf
                exact r_iret C dX12_count_81

/- WassailEnemiesModel.tape(III)I -/
def m_tape_L69 (x1 : Int) : Nat → HH → Int → Option (Int × HH)
  | 0, _, _ => none
  | n69 + 1, h, x4 =>
    if ww x4 < 60 then (ck (ww ((60 * x1) + x4)) 360 <| m_tape_L69 x1 n69 (u2 h 241 (ww ((60 * x1) + x4)) 0) (x4 + 1)) else (some (1, h))
def m_tape (h : HH) (a1 : Int) (a2 : Int) (a3 : Int) : Option (Int × HH) :=
  if ww (m_isTape a1) = 0 then (some (-1, h)) else (if ww (m_in a2 (-1) 4) = 0 then (some (-2, h)) else (if ww a2 < 0 then (if ww a2 < 0 then (ck (ww a1) 6 <| if ww a2 < 0 then (ck (ww a1) 6 <| m_tape_L69 a1 FU (u2 (u2 h 239 (ww a1) a2) 240 (ww a1) 0) 0) else (ck (ww a1) 6 <| m_tape_L69 a1 FU (u2 (u2 h 239 (ww a1) a2) 240 (ww a1) a3) 0)) else (if ww a3 < 0 then (some (-14, h)) else (ck (ww a1) 6 <| if ww a2 < 0 then (ck (ww a1) 6 <| m_tape_L69 a1 FU (u2 (u2 h 239 (ww a1) a2) 240 (ww a1) 0) 0) else (ck (ww a1) 6 <| m_tape_L69 a1 FU (u2 (u2 h 239 (ww a1) a2) 240 (ww a1) a3) 0)))) else (if 60 < ww a3 then (some (-2, h)) else (if ww a2 < 0 then (ck (ww a1) 6 <| if ww a2 < 0 then (ck (ww a1) 6 <| m_tape_L69 a1 FU (u2 (u2 h 239 (ww a1) a2) 240 (ww a1) 0) 0) else (ck (ww a1) 6 <| m_tape_L69 a1 FU (u2 (u2 h 239 (ww a1) a2) 240 (ww a1) a3) 0)) else (if ww a3 < 0 then (some (-14, h)) else (ck (ww a1) 6 <| if ww a2 < 0 then (ck (ww a1) 6 <| m_tape_L69 a1 FU (u2 (u2 h 239 (ww a1) a2) 240 (ww a1) 0) 0) else (ck (ww a1) 6 <| m_tape_L69 a1 FU (u2 (u2 h 239 (ww a1) a2) 240 (ww a1) a3) 0)))))))
abbrev rm_m_tape : Room := { frames := 2, cells := 0, slots := 0, locals := 44 }
set_option maxHeartbeats 4000000 in
set_option maxRecDepth 100000 in
theorem w_m_tape_L69 (hF : Fx S) (C : Cx D dT bs RX12 cX12_tape 5 (some Jvm.ClassFile.FieldType.int) p s m args meth c) (x1 : Int) {res : (Int × HH)} :
    ∀ (n : Nat) (h : HH) (x4 : Int), m_tape_L69 x1 n h x4 = some res → V D dT bs 5 p l e rm_m_tape s m args below meth c 0 0 (MQ below (QQ D dT bs (some (zI res.1)) res.2 S) args s 0 0 (AA bs)) h S 69 [(0, zP bs 193), (1, zI x1), (4, zI x4)] [] := by
  intro n
  induction n with
  | zero => intro h x4 hf; simp [m_tape_L69] at hf
  | succ n69 ih69 =>
    intro h x4 hf
    rw [m_tape_L69] at hf
    refine r_iload (pc' := 71) (i := 4) C 2 rfl dX12_tape_69 rfl ?_
    refine r_bipush (pc' := 73) C rfl dX12_tape_71 rfl ?_
    refine r_icmp_ge (pc' := 76) (tgt := 95) C rfl ww_n60 hf dX12_tape_73 (by decide) rfl (fun hf => ?_) (fun hf => ?_)
    · refine r_aload_n (pc' := 77) (f4 := 0) (i := 0) C 0 rfl rfl dX12_tape_76 rfl ?_
      refine q_getP (pc' := 80) (j := 75) C (K_193 hF) fb_12_75 (by decide) wd_1246 (Or.inl rfl) (F_193_75 hF) (by decide) dX12_tape_77 rfl ?_
      refine r_bipush (pc' := 82) C rfl dX12_tape_80 rfl ?_
      refine r_iload_n (pc' := 83) (f4 := 1) (i := 1) C 1 rfl rfl dX12_tape_82 rfl ?_
      refine r_imul (pc' := 84) C dX12_tape_83 rfl ?_
      refine r_iload (pc' := 86) (i := 4) C 2 rfl dX12_tape_84 rfl ?_
      refine r_iadd (pc' := 87) C dX12_tape_86 rfl ?_
      refine r_lconst (pc' := 88) (z := 0) C rfl dX12_tape_87 rfl ?_
      obtain ⟨hi, hf⟩ := ck_in hf
      refine r_last (pc' := 89) C (K_241 hF) rfl hi dX12_tape_88 rfl ?_
      refine r_iinc (pc' := 92) (i := 4) (L' := [(4, zI (x4 + 1)), (0, zP bs 193), (1, zI x1)]) C 2 rfl (by decide) rfl dX12_tape_89 rfl ?_
      refine r_goto (tgt := 69) C dX12_tape_92 (by decide) ?_
      refine V.sub (L' := [(0, zP bs 193), (1, zI x1), (4, zI (x4 + 1))]) [1, 2, 0] rfl ?_
      exact ih69 _ _ hf
    · refine r_iconst (pc' := 96) C dX12_tape_95 rfl ?_
      cases hf
      exact r_iret C dX12_tape_96
set_option maxHeartbeats 4000000 in
set_option maxRecDepth 100000 in
theorem t_m_tape {S : SS} (hF : Fx S) {h : HH} {a1 : Int} {a2 : Int} {a3 : Int} {res : Int × HH} (hf : m_tape h a1 a2 a3 = some res) : CM yX12_tape cX12_tape 5 (some Jvm.ClassFile.FieldType.int) 2 44 0 0 (fun bs => [zP bs 193, zI a1, zI a2, zI a3]) h S (fun _ => some (zI res.1)) res.2 S := by
  refine CM.intro (own := RX12) (by decide) rfl (fun _ => Nat.le_of_ble_eq_true rfl) ?_
  intro D dT bs p l e s m args below meth c C
  show V D dT bs 5 p l e rm_m_tape s m args below meth c 0 0 _ h S 0 [(0, zP bs 193), (1, zI a1), (2, zI a2), (3, zI a3)] []
  unfold m_tape at hf
  refine r_aload_n (pc' := 1) (f4 := 0) (i := 0) C 0 rfl rfl dX12_tape_0 rfl ?_
  refine r_iload_n (pc' := 2) (f4 := 1) (i := 1) C 1 rfl rfl dX12_tape_1 rfl ?_
  refine q_callV (pc' := 5) C (t_m_isTape hF) rfl (K_193 hF) cl_12 wv_RX12_424 ⟨Nat.le_of_ble_eq_true rfl, Nat.le_of_ble_eq_true rfl⟩ rfl rfl (Nat.le_of_ble_eq_true rfl) dX12_tape_2 rfl ⟨Nat.le_of_ble_eq_true rfl, Nat.le_of_ble_eq_true rfl⟩ ?_
  refine r_if_ne (pc' := 8) (tgt := 10) C rfl hf dX12_tape_5 (by decide) rfl (fun hf => ?_) (fun hf => ?_)
  · refine r_iconst (pc' := 9) C dX12_tape_8 rfl ?_
    cases hf
    exact r_iret C dX12_tape_9
  · refine r_aload_n (pc' := 11) (f4 := 0) (i := 0) C 0 rfl rfl dX12_tape_10 rfl ?_
    refine r_iload_n (pc' := 12) (f4 := 2) (i := 2) C 2 rfl rfl dX12_tape_11 rfl ?_
    refine r_iconst (pc' := 13) C dX12_tape_12 rfl ?_
    refine r_iconst (pc' := 14) C dX12_tape_13 rfl ?_
    refine q_callV (pc' := 17) C (t_m_in hF) rfl (K_193 hF) cl_12 wv_RX12_245 ⟨Nat.le_of_ble_eq_true rfl, Nat.le_of_ble_eq_true rfl⟩ rfl rfl (Nat.le_of_ble_eq_true rfl) dX12_tape_14 rfl ⟨Nat.le_of_ble_eq_true rfl, Nat.le_of_ble_eq_true rfl⟩ ?_
    refine r_if_eq (pc' := 20) (tgt := 30) C rfl hf dX12_tape_17 (by decide) rfl (fun hf => ?_) (fun hf => ?_)
    · refine r_bipush (pc' := 32) C rfl dX12_tape_30 rfl ?_
      cases hf
      exact r_iret C dX12_tape_32
    · refine r_iload_n (pc' := 21) (f4 := 2) (i := 2) C 2 rfl rfl dX12_tape_20 rfl ?_
      refine r_if_lt (pc' := 24) (tgt := 33) C rfl hf dX12_tape_21 (by decide) rfl (fun hf => ?_) (fun hf => ?_)
      · refine r_iload_n (pc' := 34) (f4 := 2) (i := 2) C 2 rfl rfl dX12_tape_33 rfl ?_
        refine r_if_lt (pc' := 37) (tgt := 44) C rfl hf dX12_tape_34 (by decide) rfl (fun hf => ?_) (fun hf => ?_)
        · refine r_aload_n (pc' := 45) (f4 := 0) (i := 0) C 0 rfl rfl dX12_tape_44 rfl ?_
          refine q_getP (pc' := 48) (j := 73) C (K_193 hF) fb_12_73 (by decide) wd_1244 (Or.inl rfl) (F_193_73 hF) (by decide) dX12_tape_45 rfl ?_
          refine r_iload_n (pc' := 49) (f4 := 1) (i := 1) C 1 rfl rfl dX12_tape_48 rfl ?_
          refine r_iload_n (pc' := 50) (f4 := 2) (i := 2) C 2 rfl rfl dX12_tape_49 rfl ?_
          obtain ⟨hi, hf⟩ := ck_in hf
          refine r_iast (pc' := 51) C (K_239 hF) rfl hi dX12_tape_50 rfl ?_
          refine r_aload_n (pc' := 52) (f4 := 0) (i := 0) C 0 rfl rfl dX12_tape_51 rfl ?_
          refine q_getP (pc' := 55) (j := 74) C (K_193 hF) fb_12_74 (by decide) wd_1245 (Or.inl rfl) (F_193_74 hF) (by decide) dX12_tape_52 rfl ?_
          refine r_iload_n (pc' := 56) (f4 := 1) (i := 1) C 1 rfl rfl dX12_tape_55 rfl ?_
          refine r_iload_n (pc' := 57) (f4 := 2) (i := 2) C 2 rfl rfl dX12_tape_56 rfl ?_
          refine r_if_ge (pc' := 60) (tgt := 64) C rfl hf dX12_tape_57 (by decide) rfl (fun hf => ?_) (fun hf => ?_)
          · refine r_iconst (pc' := 61) C dX12_tape_60 rfl ?_
            refine r_goto (tgt := 65) C dX12_tape_61 (by decide) ?_
            obtain ⟨hi, hf⟩ := ck_in hf
            refine r_iast (pc' := 66) C (K_240 hF) rfl hi dX12_tape_65 rfl ?_
            refine r_iconst (pc' := 67) C dX12_tape_66 rfl ?_
            refine r_istore (pc' := 69) (i := 4) (L' := [(4, zI 0), (0, zP bs 193), (1, zI a1), (2, zI a2), (3, zI a3)]) C (by decide) rfl dX12_tape_67 rfl ?_
            refine V.sub (L' := [(0, zP bs 193), (1, zI a1), (4, zI 0)]) [1, 2, 0] rfl ?_
            refine w_m_tape_L69 hF C _ _ _ _ hf
          · refine r_iload_n (pc' := 65) (f4 := 3) (i := 3) C 3 rfl rfl dX12_tape_64 rfl ?_
            obtain ⟨hi, hf⟩ := ck_in hf
            refine r_iast (pc' := 66) C (K_240 hF) rfl hi dX12_tape_65 rfl ?_
            refine r_iconst (pc' := 67) C dX12_tape_66 rfl ?_
            refine r_istore (pc' := 69) (i := 4) (L' := [(4, zI 0), (0, zP bs 193), (1, zI a1), (2, zI a2), (3, zI a3)]) C (by decide) rfl dX12_tape_67 rfl ?_
            refine V.sub (L' := [(0, zP bs 193), (1, zI a1), (4, zI 0)]) [1, 2, 0] rfl ?_
            refine w_m_tape_L69 hF C _ _ _ _ hf
        · refine r_iload_n (pc' := 38) (f4 := 3) (i := 3) C 3 rfl rfl dX12_tape_37 rfl ?_
          refine r_if_ge (pc' := 41) (tgt := 44) C rfl hf dX12_tape_38 (by decide) rfl (fun hf => ?_) (fun hf => ?_)
          · refine r_bipush (pc' := 43) C rfl dX12_tape_41 rfl ?_
            cases hf
            exact r_iret C dX12_tape_43
          · refine r_aload_n (pc' := 45) (f4 := 0) (i := 0) C 0 rfl rfl dX12_tape_44 rfl ?_
            refine q_getP (pc' := 48) (j := 73) C (K_193 hF) fb_12_73 (by decide) wd_1244 (Or.inl rfl) (F_193_73 hF) (by decide) dX12_tape_45 rfl ?_
            refine r_iload_n (pc' := 49) (f4 := 1) (i := 1) C 1 rfl rfl dX12_tape_48 rfl ?_
            refine r_iload_n (pc' := 50) (f4 := 2) (i := 2) C 2 rfl rfl dX12_tape_49 rfl ?_
            obtain ⟨hi, hf⟩ := ck_in hf
            refine r_iast (pc' := 51) C (K_239 hF) rfl hi dX12_tape_50 rfl ?_
            refine r_aload_n (pc' := 52) (f4 := 0) (i := 0) C 0 rfl rfl dX12_tape_51 rfl ?_
            refine q_getP (pc' := 55) (j := 74) C (K_193 hF) fb_12_74 (by decide) wd_1245 (Or.inl rfl) (F_193_74 hF) (by decide) dX12_tape_52 rfl ?_
            refine r_iload_n (pc' := 56) (f4 := 1) (i := 1) C 1 rfl rfl dX12_tape_55 rfl ?_
            refine r_iload_n (pc' := 57) (f4 := 2) (i := 2) C 2 rfl rfl dX12_tape_56 rfl ?_
            refine r_if_ge (pc' := 60) (tgt := 64) C rfl hf dX12_tape_57 (by decide) rfl (fun hf => ?_) (fun hf => ?_)
            · refine r_iconst (pc' := 61) C dX12_tape_60 rfl ?_
              refine r_goto (tgt := 65) C dX12_tape_61 (by decide) ?_
              obtain ⟨hi, hf⟩ := ck_in hf
              refine r_iast (pc' := 66) C (K_240 hF) rfl hi dX12_tape_65 rfl ?_
              refine r_iconst (pc' := 67) C dX12_tape_66 rfl ?_
              refine r_istore (pc' := 69) (i := 4) (L' := [(4, zI 0), (0, zP bs 193), (1, zI a1), (2, zI a2), (3, zI a3)]) C (by decide) rfl dX12_tape_67 rfl ?_
              refine V.sub (L' := [(0, zP bs 193), (1, zI a1), (4, zI 0)]) [1, 2, 0] rfl ?_
              refine w_m_tape_L69 hF C _ _ _ _ hf
            · refine r_iload_n (pc' := 65) (f4 := 3) (i := 3) C 3 rfl rfl dX12_tape_64 rfl ?_
              obtain ⟨hi, hf⟩ := ck_in hf
              refine r_iast (pc' := 66) C (K_240 hF) rfl hi dX12_tape_65 rfl ?_
              refine r_iconst (pc' := 67) C dX12_tape_66 rfl ?_
              refine r_istore (pc' := 69) (i := 4) (L' := [(4, zI 0), (0, zP bs 193), (1, zI a1), (2, zI a2), (3, zI a3)]) C (by decide) rfl dX12_tape_67 rfl ?_
              refine V.sub (L' := [(0, zP bs 193), (1, zI a1), (4, zI 0)]) [1, 2, 0] rfl ?_
              refine w_m_tape_L69 hF C _ _ _ _ hf
      · refine r_iload_n (pc' := 25) (f4 := 3) (i := 3) C 3 rfl rfl dX12_tape_24 rfl ?_
        refine r_bipush (pc' := 27) C rfl dX12_tape_25 rfl ?_
        refine r_icmp_le (pc' := 30) (tgt := 33) C rfl ww_n60 hf dX12_tape_27 (by decide) rfl (fun hf => ?_) (fun hf => ?_)
        · refine r_bipush (pc' := 32) C rfl dX12_tape_30 rfl ?_
          cases hf
          exact r_iret C dX12_tape_32
        · refine r_iload_n (pc' := 34) (f4 := 2) (i := 2) C 2 rfl rfl dX12_tape_33 rfl ?_
          refine r_if_lt (pc' := 37) (tgt := 44) C rfl hf dX12_tape_34 (by decide) rfl (fun hf => ?_) (fun hf => ?_)
          · refine r_aload_n (pc' := 45) (f4 := 0) (i := 0) C 0 rfl rfl dX12_tape_44 rfl ?_
            refine q_getP (pc' := 48) (j := 73) C (K_193 hF) fb_12_73 (by decide) wd_1244 (Or.inl rfl) (F_193_73 hF) (by decide) dX12_tape_45 rfl ?_
            refine r_iload_n (pc' := 49) (f4 := 1) (i := 1) C 1 rfl rfl dX12_tape_48 rfl ?_
            refine r_iload_n (pc' := 50) (f4 := 2) (i := 2) C 2 rfl rfl dX12_tape_49 rfl ?_
            obtain ⟨hi, hf⟩ := ck_in hf
            refine r_iast (pc' := 51) C (K_239 hF) rfl hi dX12_tape_50 rfl ?_
            refine r_aload_n (pc' := 52) (f4 := 0) (i := 0) C 0 rfl rfl dX12_tape_51 rfl ?_
            refine q_getP (pc' := 55) (j := 74) C (K_193 hF) fb_12_74 (by decide) wd_1245 (Or.inl rfl) (F_193_74 hF) (by decide) dX12_tape_52 rfl ?_
            refine r_iload_n (pc' := 56) (f4 := 1) (i := 1) C 1 rfl rfl dX12_tape_55 rfl ?_
            refine r_iload_n (pc' := 57) (f4 := 2) (i := 2) C 2 rfl rfl dX12_tape_56 rfl ?_
            refine r_if_ge (pc' := 60) (tgt := 64) C rfl hf dX12_tape_57 (by decide) rfl (fun hf => ?_) (fun hf => ?_)
            · refine r_iconst (pc' := 61) C dX12_tape_60 rfl ?_
              refine r_goto (tgt := 65) C dX12_tape_61 (by decide) ?_
              obtain ⟨hi, hf⟩ := ck_in hf
              refine r_iast (pc' := 66) C (K_240 hF) rfl hi dX12_tape_65 rfl ?_
              refine r_iconst (pc' := 67) C dX12_tape_66 rfl ?_
              refine r_istore (pc' := 69) (i := 4) (L' := [(4, zI 0), (0, zP bs 193), (1, zI a1), (2, zI a2), (3, zI a3)]) C (by decide) rfl dX12_tape_67 rfl ?_
              refine V.sub (L' := [(0, zP bs 193), (1, zI a1), (4, zI 0)]) [1, 2, 0] rfl ?_
              refine w_m_tape_L69 hF C _ _ _ _ hf
            · refine r_iload_n (pc' := 65) (f4 := 3) (i := 3) C 3 rfl rfl dX12_tape_64 rfl ?_
              obtain ⟨hi, hf⟩ := ck_in hf
              refine r_iast (pc' := 66) C (K_240 hF) rfl hi dX12_tape_65 rfl ?_
              refine r_iconst (pc' := 67) C dX12_tape_66 rfl ?_
              refine r_istore (pc' := 69) (i := 4) (L' := [(4, zI 0), (0, zP bs 193), (1, zI a1), (2, zI a2), (3, zI a3)]) C (by decide) rfl dX12_tape_67 rfl ?_
              refine V.sub (L' := [(0, zP bs 193), (1, zI a1), (4, zI 0)]) [1, 2, 0] rfl ?_
              refine w_m_tape_L69 hF C _ _ _ _ hf
          · refine r_iload_n (pc' := 38) (f4 := 3) (i := 3) C 3 rfl rfl dX12_tape_37 rfl ?_
            refine r_if_ge (pc' := 41) (tgt := 44) C rfl hf dX12_tape_38 (by decide) rfl (fun hf => ?_) (fun hf => ?_)
            · refine r_bipush (pc' := 43) C rfl dX12_tape_41 rfl ?_
              cases hf
              exact r_iret C dX12_tape_43
            · refine r_aload_n (pc' := 45) (f4 := 0) (i := 0) C 0 rfl rfl dX12_tape_44 rfl ?_
              refine q_getP (pc' := 48) (j := 73) C (K_193 hF) fb_12_73 (by decide) wd_1244 (Or.inl rfl) (F_193_73 hF) (by decide) dX12_tape_45 rfl ?_
              refine r_iload_n (pc' := 49) (f4 := 1) (i := 1) C 1 rfl rfl dX12_tape_48 rfl ?_
              refine r_iload_n (pc' := 50) (f4 := 2) (i := 2) C 2 rfl rfl dX12_tape_49 rfl ?_
              obtain ⟨hi, hf⟩ := ck_in hf
              refine r_iast (pc' := 51) C (K_239 hF) rfl hi dX12_tape_50 rfl ?_
              refine r_aload_n (pc' := 52) (f4 := 0) (i := 0) C 0 rfl rfl dX12_tape_51 rfl ?_
              refine q_getP (pc' := 55) (j := 74) C (K_193 hF) fb_12_74 (by decide) wd_1245 (Or.inl rfl) (F_193_74 hF) (by decide) dX12_tape_52 rfl ?_
              refine r_iload_n (pc' := 56) (f4 := 1) (i := 1) C 1 rfl rfl dX12_tape_55 rfl ?_
              refine r_iload_n (pc' := 57) (f4 := 2) (i := 2) C 2 rfl rfl dX12_tape_56 rfl ?_
              refine r_if_ge (pc' := 60) (tgt := 64) C rfl hf dX12_tape_57 (by decide) rfl (fun hf => ?_) (fun hf => ?_)
              · refine r_iconst (pc' := 61) C dX12_tape_60 rfl ?_
                refine r_goto (tgt := 65) C dX12_tape_61 (by decide) ?_
                obtain ⟨hi, hf⟩ := ck_in hf
                refine r_iast (pc' := 66) C (K_240 hF) rfl hi dX12_tape_65 rfl ?_
                refine r_iconst (pc' := 67) C dX12_tape_66 rfl ?_
                refine r_istore (pc' := 69) (i := 4) (L' := [(4, zI 0), (0, zP bs 193), (1, zI a1), (2, zI a2), (3, zI a3)]) C (by decide) rfl dX12_tape_67 rfl ?_
                refine V.sub (L' := [(0, zP bs 193), (1, zI a1), (4, zI 0)]) [1, 2, 0] rfl ?_
                refine w_m_tape_L69 hF C _ _ _ _ hf
              · refine r_iload_n (pc' := 65) (f4 := 3) (i := 3) C 3 rfl rfl dX12_tape_64 rfl ?_
                obtain ⟨hi, hf⟩ := ck_in hf
                refine r_iast (pc' := 66) C (K_240 hF) rfl hi dX12_tape_65 rfl ?_
                refine r_iconst (pc' := 67) C dX12_tape_66 rfl ?_
                refine r_istore (pc' := 69) (i := 4) (L' := [(4, zI 0), (0, zP bs 193), (1, zI a1), (2, zI a2), (3, zI a3)]) C (by decide) rfl dX12_tape_67 rfl ?_
                refine V.sub (L' := [(0, zP bs 193), (1, zI a1), (4, zI 0)]) [1, 2, 0] rfl ?_
                refine w_m_tape_L69 hF C _ _ _ _ hf

/- WassailEnemiesModel.narrow(IJ)J -/
def m_narrow (a1 : Int) (a2 : Int) : Int :=
  if ww a1 = 0 then (zi2l (zb8 (zl2i a2))) else (if ww a1 = 1 then (zi2l (zb16 (zl2i a2))) else (if ww a1 = 2 then (zi2l (zl2i a2)) else (if ww a1 = 4 then (if ww (zlcmp a2 0) = 0 then (0) else (1)) else (a2))))
abbrev rm_m_narrow : Room := { frames := 0, cells := 0, slots := 0, locals := 0 }
set_option maxHeartbeats 4000000 in
set_option maxRecDepth 100000 in
theorem t_m_narrow {S : SS} (hF : Fx S) {h : HH} {a1 : Int} {a2 : Int} : CM yX12_narrow cX12_narrow 4 (some Jvm.ClassFile.FieldType.long) 0 0 0 0 (fun bs => [zP bs 193, zI a1, zL a2]) h S (fun _ => some (zL (m_narrow a1 a2))) h S := by
  refine CM.intro (own := RX12) (by decide) rfl (fun _ => Nat.le_of_ble_eq_true rfl) ?_
  intro D dT bs p l e s m args below meth c C
  show V D dT bs 4 p l e rm_m_narrow s m args below meth c 0 0 _ h S 0 [(0, zP bs 193), (1, zI a1), (2, zL a2)] []
  obtain ⟨res, hf⟩ : ∃ r, m_narrow a1 a2 = r := ⟨_, rfl⟩
  rw [hf]
  unfold m_narrow at hf
  refine r_iload_n (pc' := 1) (f4 := 1) (i := 1) C 1 rfl rfl dX12_narrow_0 rfl ?_
  refine r_if_ne (pc' := 4) (tgt := 11) C rfl hf dX12_narrow_1 (by decide) rfl (fun hf => ?_) (fun hf => ?_)
  · refine r_lload_n (pc' := 5) (f4 := 2) (i := 2) C 2 rfl rfl dX12_narrow_4 rfl ?_
    refine r_l2i (pc' := 6) C dX12_narrow_5 rfl ?_
    refine r_i2b (pc' := 7) C dX12_narrow_6 rfl ?_
    refine r_i2l (pc' := 8) C dX12_narrow_7 rfl ?_
    refine r_goto (tgt := 54) C dX12_narrow_8 (by decide) ?_
    subst hf
    exact r_lret C dX12_narrow_54
  · refine r_iload_n (pc' := 12) (f4 := 1) (i := 1) C 1 rfl rfl dX12_narrow_11 rfl ?_
    refine r_iconst (pc' := 13) C dX12_narrow_12 rfl ?_
    refine r_icmp_ne (pc' := 16) (tgt := 23) C rfl ww_n1 hf dX12_narrow_13 (by decide) rfl (fun hf => ?_) (fun hf => ?_)
    · refine r_lload_n (pc' := 17) (f4 := 2) (i := 2) C 2 rfl rfl dX12_narrow_16 rfl ?_
      refine r_l2i (pc' := 18) C dX12_narrow_17 rfl ?_
      refine r_i2s (pc' := 19) C dX12_narrow_18 rfl ?_
      refine r_i2l (pc' := 20) C dX12_narrow_19 rfl ?_
      refine r_goto (tgt := 54) C dX12_narrow_20 (by decide) ?_
      subst hf
      exact r_lret C dX12_narrow_54
    · refine r_iload_n (pc' := 24) (f4 := 1) (i := 1) C 1 rfl rfl dX12_narrow_23 rfl ?_
      refine r_iconst (pc' := 25) C dX12_narrow_24 rfl ?_
      refine r_icmp_ne (pc' := 28) (tgt := 34) C rfl ww_n2 hf dX12_narrow_25 (by decide) rfl (fun hf => ?_) (fun hf => ?_)
      · refine r_lload_n (pc' := 29) (f4 := 2) (i := 2) C 2 rfl rfl dX12_narrow_28 rfl ?_
        refine r_l2i (pc' := 30) C dX12_narrow_29 rfl ?_
        refine r_i2l (pc' := 31) C dX12_narrow_30 rfl ?_
        refine r_goto (tgt := 54) C dX12_narrow_31 (by decide) ?_
        subst hf
        exact r_lret C dX12_narrow_54
      · refine r_iload_n (pc' := 35) (f4 := 1) (i := 1) C 1 rfl rfl dX12_narrow_34 rfl ?_
        refine r_iconst (pc' := 36) C dX12_narrow_35 rfl ?_
        refine r_icmp_ne (pc' := 39) (tgt := 53) C rfl ww_n4 hf dX12_narrow_36 (by decide) rfl (fun hf => ?_) (fun hf => ?_)
        · refine r_lload_n (pc' := 40) (f4 := 2) (i := 2) C 2 rfl rfl dX12_narrow_39 rfl ?_
          refine r_lconst (pc' := 41) (z := 0) C rfl dX12_narrow_40 rfl ?_
          refine r_lcmp (pc' := 42) C dX12_narrow_41 rfl ?_
          refine r_if_eq (pc' := 45) (tgt := 49) C rfl hf dX12_narrow_42 (by decide) rfl (fun hf => ?_) (fun hf => ?_)
          · refine r_lconst (pc' := 50) (z := 0) C rfl dX12_narrow_49 rfl ?_
            refine r_goto (tgt := 54) C dX12_narrow_50 (by decide) ?_
            subst hf
            exact r_lret C dX12_narrow_54
          · refine r_lconst (pc' := 46) (z := 1) C rfl dX12_narrow_45 rfl ?_
            refine r_goto (tgt := 54) C dX12_narrow_46 (by decide) ?_
            subst hf
            exact r_lret C dX12_narrow_54
        · refine r_lload_n (pc' := 54) (f4 := 2) (i := 2) C 2 rfl rfl dX12_narrow_53 rfl ?_
          subst hf
          exact r_lret C dX12_narrow_54

/- WassailEnemiesModel.item(IIJ)I -/
def m_item (h : HH) (a1 : Int) (a2 : Int) (a3 : Int) : Option (Int × HH) :=
  if ww (m_isTape a1) = 0 then (some (-1, h)) else (ck (ww a1) 6 <| if ww (h 239 (ww a1)) < 0 then (some (-11, h)) else (ck (ww a1) 6 <| if ww (m_in a2 0 ((h 240 (ww a1)) - 1)) = 0 then (some (-13, h)) else (ck (ww a1) 6 <| ck (ww ((60 * a1) + a2)) 360 <| some (1, u2 h 241 (ww ((60 * a1) + a2)) (m_narrow (h 239 (ww a1)) a3)))))
abbrev rm_m_item : Room := { frames := 2, cells := 0, slots := 0, locals := 44 }
set_option maxHeartbeats 4000000 in
set_option maxRecDepth 100000 in
theorem t_m_item {S : SS} (hF : Fx S) {h : HH} {a1 : Int} {a2 : Int} {a3 : Int} {res : Int × HH} (hf : m_item h a1 a2 a3 = some res) : CM yX12_item cX12_item 5 (some Jvm.ClassFile.FieldType.int) 2 44 0 0 (fun bs => [zP bs 193, zI a1, zI a2, zL a3]) h S (fun _ => some (zI res.1)) res.2 S := by
  refine CM.intro (own := RX12) (by decide) rfl (fun _ => Nat.le_of_ble_eq_true rfl) ?_
  intro D dT bs p l e s m args below meth c C
  show V D dT bs 5 p l e rm_m_item s m args below meth c 0 0 _ h S 0 [(0, zP bs 193), (1, zI a1), (2, zI a2), (3, zL a3)] []
  unfold m_item at hf
  refine r_aload_n (pc' := 1) (f4 := 0) (i := 0) C 0 rfl rfl dX12_item_0 rfl ?_
  refine r_iload_n (pc' := 2) (f4 := 1) (i := 1) C 1 rfl rfl dX12_item_1 rfl ?_
  refine q_callV (pc' := 5) C (t_m_isTape hF) rfl (K_193 hF) cl_12 wv_RX12_424 ⟨Nat.le_of_ble_eq_true rfl, Nat.le_of_ble_eq_true rfl⟩ rfl rfl (Nat.le_of_ble_eq_true rfl) dX12_item_2 rfl ⟨Nat.le_of_ble_eq_true rfl, Nat.le_of_ble_eq_true rfl⟩ ?_
  refine r_if_ne (pc' := 8) (tgt := 10) C rfl hf dX12_item_5 (by decide) rfl (fun hf => ?_) (fun hf => ?_)
  · refine r_iconst (pc' := 9) C dX12_item_8 rfl ?_
    cases hf
    exact r_iret C dX12_item_9
  · refine r_aload_n (pc' := 11) (f4 := 0) (i := 0) C 0 rfl rfl dX12_item_10 rfl ?_
    refine q_getP (pc' := 14) (j := 73) C (K_193 hF) fb_12_73 (by decide) wd_1244 (Or.inl rfl) (F_193_73 hF) (by decide) dX12_item_11 rfl ?_
    refine r_iload_n (pc' := 15) (f4 := 1) (i := 1) C 1 rfl rfl dX12_item_14 rfl ?_
    obtain ⟨hi, hf⟩ := ck_in hf
    refine r_iald (pc' := 16) C (K_239 hF) rfl hi dX12_item_15 rfl ?_
    refine r_if_ge (pc' := 19) (tgt := 22) C rfl hf dX12_item_16 (by decide) rfl (fun hf => ?_) (fun hf => ?_)
    · refine r_bipush (pc' := 21) C rfl dX12_item_19 rfl ?_
      cases hf
      exact r_iret C dX12_item_21
    · refine r_aload_n (pc' := 23) (f4 := 0) (i := 0) C 0 rfl rfl dX12_item_22 rfl ?_
      refine r_iload_n (pc' := 24) (f4 := 2) (i := 2) C 2 rfl rfl dX12_item_23 rfl ?_
      refine r_iconst (pc' := 25) C dX12_item_24 rfl ?_
      refine r_aload_n (pc' := 26) (f4 := 0) (i := 0) C 0 rfl rfl dX12_item_25 rfl ?_
      refine q_getP (pc' := 29) (j := 74) C (K_193 hF) fb_12_74 (by decide) wd_1245 (Or.inl rfl) (F_193_74 hF) (by decide) dX12_item_26 rfl ?_
      refine r_iload_n (pc' := 30) (f4 := 1) (i := 1) C 1 rfl rfl dX12_item_29 rfl ?_
      obtain ⟨hi, hf⟩ := ck_in hf
      refine r_iald (pc' := 31) C (K_240 hF) rfl hi dX12_item_30 rfl ?_
      refine r_iconst (pc' := 32) C dX12_item_31 rfl ?_
      refine r_isub (pc' := 33) C dX12_item_32 rfl ?_
      refine q_callV (pc' := 36) C (t_m_in hF) rfl (K_193 hF) cl_12 wv_RX12_245 ⟨Nat.le_of_ble_eq_true rfl, Nat.le_of_ble_eq_true rfl⟩ rfl rfl (Nat.le_of_ble_eq_true rfl) dX12_item_33 rfl ⟨Nat.le_of_ble_eq_true rfl, Nat.le_of_ble_eq_true rfl⟩ ?_
      refine r_if_ne (pc' := 39) (tgt := 42) C rfl hf dX12_item_36 (by decide) rfl (fun hf => ?_) (fun hf => ?_)
      · refine r_bipush (pc' := 41) C rfl dX12_item_39 rfl ?_
        cases hf
        exact r_iret C dX12_item_41
      · refine r_aload_n (pc' := 43) (f4 := 0) (i := 0) C 0 rfl rfl dX12_item_42 rfl ?_
        refine q_getP (pc' := 46) (j := 75) C (K_193 hF) fb_12_75 (by decide) wd_1246 (Or.inl rfl) (F_193_75 hF) (by decide) dX12_item_43 rfl ?_
        refine r_bipush (pc' := 48) C rfl dX12_item_46 rfl ?_
        refine r_iload_n (pc' := 49) (f4 := 1) (i := 1) C 1 rfl rfl dX12_item_48 rfl ?_
        refine r_imul (pc' := 50) C dX12_item_49 rfl ?_
        refine r_iload_n (pc' := 51) (f4 := 2) (i := 2) C 2 rfl rfl dX12_item_50 rfl ?_
        refine r_iadd (pc' := 52) C dX12_item_51 rfl ?_
        refine r_aload_n (pc' := 53) (f4 := 0) (i := 0) C 0 rfl rfl dX12_item_52 rfl ?_
        refine r_aload_n (pc' := 54) (f4 := 0) (i := 0) C 0 rfl rfl dX12_item_53 rfl ?_
        refine q_getP (pc' := 57) (j := 73) C (K_193 hF) fb_12_73 (by decide) wd_1244 (Or.inl rfl) (F_193_73 hF) (by decide) dX12_item_54 rfl ?_
        refine r_iload_n (pc' := 58) (f4 := 1) (i := 1) C 1 rfl rfl dX12_item_57 rfl ?_
        obtain ⟨hi, hf⟩ := ck_in hf
        refine r_iald (pc' := 59) C (K_239 hF) rfl hi dX12_item_58 rfl ?_
        refine r_lload_n (pc' := 60) (f4 := 3) (i := 3) C 3 rfl rfl dX12_item_59 rfl ?_
        refine q_callV (pc' := 63) C (t_m_narrow hF) rfl (K_193 hF) cl_12 wv_RX12_451 ⟨Nat.le_of_ble_eq_true rfl, Nat.le_of_ble_eq_true rfl⟩ rfl rfl (Nat.le_of_ble_eq_true rfl) dX12_item_60 rfl ⟨Nat.le_of_ble_eq_true rfl, Nat.le_of_ble_eq_true rfl⟩ ?_
        obtain ⟨hi, hf⟩ := ck_in hf
        refine r_last (pc' := 64) C (K_241 hF) rfl hi dX12_item_63 rfl ?_
        refine r_iconst (pc' := 65) C dX12_item_64 rfl ?_
        cases hf
        exact r_iret C dX12_item_65

/- WassailEnemiesModel.read(II)J -/
def m_read (h : HH) (a1 : Int) (a2 : Int) : Option Int :=
  if ww (m_isTape a1) = 0 then (some (-9223372036854775808)) else (ck (ww a1) 6 <| if ww (h 239 (ww a1)) < 0 then (some (-9223372036854775808)) else (ck (ww a1) 6 <| if ww (m_in a2 0 ((h 240 (ww a1)) - 1)) = 0 then (some (-9223372036854775808)) else (ck (ww ((60 * a1) + a2)) 360 <| some (h 241 (ww ((60 * a1) + a2))))))
abbrev rm_m_read : Room := { frames := 2, cells := 0, slots := 0, locals := 44 }
set_option maxHeartbeats 4000000 in
set_option maxRecDepth 100000 in
theorem t_m_read {S : SS} (hF : Fx S) {h : HH} {a1 : Int} {a2 : Int} {res : Int} (hf : m_read h a1 a2 = some res) : CM yX12_read cX12_read 3 (some Jvm.ClassFile.FieldType.long) 2 44 0 0 (fun bs => [zP bs 193, zI a1, zI a2]) h S (fun _ => some (zL res)) h S := by
  refine CM.intro (own := RX12) (by decide) rfl (fun _ => Nat.le_of_ble_eq_true rfl) ?_
  intro D dT bs p l e s m args below meth c C
  show V D dT bs 3 p l e rm_m_read s m args below meth c 0 0 _ h S 0 [(0, zP bs 193), (1, zI a1), (2, zI a2)] []
  unfold m_read at hf
  refine r_aload_n (pc' := 1) (f4 := 0) (i := 0) C 0 rfl rfl dX12_read_0 rfl ?_
  refine r_iload_n (pc' := 2) (f4 := 1) (i := 1) C 1 rfl rfl dX12_read_1 rfl ?_
  refine q_callV (pc' := 5) C (t_m_isTape hF) rfl (K_193 hF) cl_12 wv_RX12_424 ⟨Nat.le_of_ble_eq_true rfl, Nat.le_of_ble_eq_true rfl⟩ rfl rfl (Nat.le_of_ble_eq_true rfl) dX12_read_2 rfl ⟨Nat.le_of_ble_eq_true rfl, Nat.le_of_ble_eq_true rfl⟩ ?_
  refine r_if_eq (pc' := 8) (tgt := 34) C rfl hf dX12_read_5 (by decide) rfl (fun hf => ?_) (fun hf => ?_)
  · refine r_ldc2 (pc' := 37) C (n := (-9223372036854775808)) wc_1669 dX12_read_34 rfl ?_
    refine r_goto (tgt := 51) C dX12_read_37 (by decide) ?_
    cases hf
    exact r_lret C dX12_read_51
  · refine r_aload_n (pc' := 9) (f4 := 0) (i := 0) C 0 rfl rfl dX12_read_8 rfl ?_
    refine q_getP (pc' := 12) (j := 73) C (K_193 hF) fb_12_73 (by decide) wd_1244 (Or.inl rfl) (F_193_73 hF) (by decide) dX12_read_9 rfl ?_
    refine r_iload_n (pc' := 13) (f4 := 1) (i := 1) C 1 rfl rfl dX12_read_12 rfl ?_
    obtain ⟨hi, hf⟩ := ck_in hf
    refine r_iald (pc' := 14) C (K_239 hF) rfl hi dX12_read_13 rfl ?_
    refine r_if_lt (pc' := 17) (tgt := 34) C rfl hf dX12_read_14 (by decide) rfl (fun hf => ?_) (fun hf => ?_)
    · refine r_ldc2 (pc' := 37) C (n := (-9223372036854775808)) wc_1669 dX12_read_34 rfl ?_
      refine r_goto (tgt := 51) C dX12_read_37 (by decide) ?_
      cases hf
      exact r_lret C dX12_read_51
    · refine r_aload_n (pc' := 18) (f4 := 0) (i := 0) C 0 rfl rfl dX12_read_17 rfl ?_
      refine r_iload_n (pc' := 19) (f4 := 2) (i := 2) C 2 rfl rfl dX12_read_18 rfl ?_
      refine r_iconst (pc' := 20) C dX12_read_19 rfl ?_
      refine r_aload_n (pc' := 21) (f4 := 0) (i := 0) C 0 rfl rfl dX12_read_20 rfl ?_
      refine q_getP (pc' := 24) (j := 74) C (K_193 hF) fb_12_74 (by decide) wd_1245 (Or.inl rfl) (F_193_74 hF) (by decide) dX12_read_21 rfl ?_
      refine r_iload_n (pc' := 25) (f4 := 1) (i := 1) C 1 rfl rfl dX12_read_24 rfl ?_
      obtain ⟨hi, hf⟩ := ck_in hf
      refine r_iald (pc' := 26) C (K_240 hF) rfl hi dX12_read_25 rfl ?_
      refine r_iconst (pc' := 27) C dX12_read_26 rfl ?_
      refine r_isub (pc' := 28) C dX12_read_27 rfl ?_
      refine q_callV (pc' := 31) C (t_m_in hF) rfl (K_193 hF) cl_12 wv_RX12_245 ⟨Nat.le_of_ble_eq_true rfl, Nat.le_of_ble_eq_true rfl⟩ rfl rfl (Nat.le_of_ble_eq_true rfl) dX12_read_28 rfl ⟨Nat.le_of_ble_eq_true rfl, Nat.le_of_ble_eq_true rfl⟩ ?_
      refine r_if_ne (pc' := 34) (tgt := 40) C rfl hf dX12_read_31 (by decide) rfl (fun hf => ?_) (fun hf => ?_)
      · refine r_ldc2 (pc' := 37) C (n := (-9223372036854775808)) wc_1669 dX12_read_34 rfl ?_
        refine r_goto (tgt := 51) C dX12_read_37 (by decide) ?_
        cases hf
        exact r_lret C dX12_read_51
      · refine r_aload_n (pc' := 41) (f4 := 0) (i := 0) C 0 rfl rfl dX12_read_40 rfl ?_
        refine q_getP (pc' := 44) (j := 75) C (K_193 hF) fb_12_75 (by decide) wd_1246 (Or.inl rfl) (F_193_75 hF) (by decide) dX12_read_41 rfl ?_
        refine r_bipush (pc' := 46) C rfl dX12_read_44 rfl ?_
        refine r_iload_n (pc' := 47) (f4 := 1) (i := 1) C 1 rfl rfl dX12_read_46 rfl ?_
        refine r_imul (pc' := 48) C dX12_read_47 rfl ?_
        refine r_iload_n (pc' := 49) (f4 := 2) (i := 2) C 2 rfl rfl dX12_read_48 rfl ?_
        refine r_iadd (pc' := 50) C dX12_read_49 rfl ?_
        obtain ⟨hi, hf⟩ := ck_in hf
        refine r_lald (pc' := 51) C (K_241 hF) rfl hi dX12_read_50 rfl ?_
        cases hf
        exact r_lret C dX12_read_51

/- WassailEnemiesModel.shift(IIIII)I -/
def m_shift_L104 (x1 : Int) (x2 : Int) (x3 : Int) (x4 : Int) (x5 : Int) (k138 : HH → Option (Int × HH)) : Nat → HH → Int → Option (Int × HH)
  | 0, _, _ => none
  | n104 + 1, h, x6 =>
    if ww x6 < ww x5 then (ck (ww (((60 * x1) + x2) + x6)) 360 <| ck (ww x6) 60 <| m_shift_L104 x1 x2 x3 x4 x5 k138 n104 (u2 h 242 (ww x6) (h 241 (ww (((60 * x1) + x2) + x6)))) (x6 + 1)) else (k138 h)
def m_shift_L141 (x3 : Int) (x4 : Int) (x5 : Int) : Nat → HH → Int → Option (Int × HH)
  | 0, _, _ => none
  | n141 + 1, h, x6 =>
    if ww x6 < ww x5 then (ck (ww x6) 60 <| ck (ww (((60 * x3) + x4) + x6)) 360 <| m_shift_L141 x3 x4 x5 n141 (u2 h 241 (ww (((60 * x3) + x4) + x6)) (h 242 (ww x6))) (x6 + 1)) else (some (x5, h))
def m_shift (h : HH) (a1 : Int) (a2 : Int) (a3 : Int) (a4 : Int) (a5 : Int) : Option (Int × HH) :=
  if ww (m_isTape a1) = 0 then (some (-1, h)) else (if ww (m_isTape a3) = 0 then (some (-1, h)) else (ck (ww a1) 6 <| if ww (h 239 (ww a1)) < 0 then (some (-11, h)) else (ck (ww a3) 6 <| if ww (h 239 (ww a3)) < 0 then (some (-11, h)) else (ck (ww a1) 6 <| ck (ww a3) 6 <| if ww (h 239 (ww a1)) = ww (h 239 (ww a3)) then (if ww a5 < 0 then (some (-13, h)) else (if ww a2 < 0 then (some (-13, h)) else (if ww a4 < 0 then (some (-13, h)) else (ck (ww a1) 6 <| if ww ((h 240 (ww a1)) - a5) < ww a2 then (some (-13, h)) else (ck (ww a3) 6 <| if ww ((h 240 (ww a3)) - a5) < ww a4 then (some (-13, h)) else (m_shift_L104 a1 a2 a3 a4 a5 (fun h1 => m_shift_L141 a3 a4 a5 FU h1 0) FU h 0)))))) else (some (-12, h))))))
abbrev rm_m_shift : Room := { frames := 2, cells := 0, slots := 0, locals := 44 }
set_option maxHeartbeats 4000000 in
set_option maxRecDepth 100000 in
theorem w_m_shift_L104 (hF : Fx S) (C : Cx D dT bs RX12 cX12_shift 7 (some Jvm.ClassFile.FieldType.int) p s m args meth c) (x1 : Int) (x2 : Int) (x3 : Int) (x4 : Int) (x5 : Int) (k138 : HH → Option (Int × HH)) {res : (Int × HH)} (hk138 : ∀ (h : HH), k138 h = some res → V D dT bs 7 p l e rm_m_shift s m args below meth c 0 0 (MQ below (QQ D dT bs (some (zI res.1)) res.2 S) args s 0 0 (AA bs)) h S 138 [(0, zP bs 193), (3, zI x3), (4, zI x4), (5, zI x5)] []) :
    ∀ (n : Nat) (h : HH) (x6 : Int), m_shift_L104 x1 x2 x3 x4 x5 k138 n h x6 = some res → V D dT bs 7 p l e rm_m_shift s m args below meth c 0 0 (MQ below (QQ D dT bs (some (zI res.1)) res.2 S) args s 0 0 (AA bs)) h S 104 [(0, zP bs 193), (1, zI x1), (2, zI x2), (3, zI x3), (4, zI x4), (5, zI x5), (6, zI x6)] [] := by
  intro n
  induction n with
  | zero => intro h x6 hf; simp [m_shift_L104] at hf
  | succ n104 ih104 =>
    intro h x6 hf
    rw [m_shift_L104] at hf
    refine r_iload (pc' := 106) (i := 6) C 6 rfl dX12_shift_104 rfl ?_
    refine r_iload (pc' := 108) (i := 5) C 5 rfl dX12_shift_106 rfl ?_
    refine r_icmp_ge (pc' := 111) (tgt := 138) C rfl rfl hf dX12_shift_108 (by decide) rfl (fun hf => ?_) (fun hf => ?_)
    · refine r_aload_n (pc' := 112) (f4 := 0) (i := 0) C 0 rfl rfl dX12_shift_111 rfl ?_
      refine q_getP (pc' := 115) (j := 76) C (K_193 hF) fb_12_76 (by decide) wd_1247 (Or.inl rfl) (F_193_76 hF) (by decide) dX12_shift_112 rfl ?_
      refine r_iload (pc' := 117) (i := 6) C 6 rfl dX12_shift_115 rfl ?_
      refine r_aload_n (pc' := 118) (f4 := 0) (i := 0) C 0 rfl rfl dX12_shift_117 rfl ?_
      refine q_getP (pc' := 121) (j := 75) C (K_193 hF) fb_12_75 (by decide) wd_1246 (Or.inl rfl) (F_193_75 hF) (by decide) dX12_shift_118 rfl ?_
      refine r_bipush (pc' := 123) C rfl dX12_shift_121 rfl ?_
      refine r_iload_n (pc' := 124) (f4 := 1) (i := 1) C 1 rfl rfl dX12_shift_123 rfl ?_
      refine r_imul (pc' := 125) C dX12_shift_124 rfl ?_
      refine r_iload_n (pc' := 126) (f4 := 2) (i := 2) C 2 rfl rfl dX12_shift_125 rfl ?_
      refine r_iadd (pc' := 127) C dX12_shift_126 rfl ?_
      refine r_iload (pc' := 129) (i := 6) C 6 rfl dX12_shift_127 rfl ?_
      refine r_iadd (pc' := 130) C dX12_shift_129 rfl ?_
      obtain ⟨hi, hf⟩ := ck_in hf
      refine r_lald (pc' := 131) C (K_241 hF) rfl hi dX12_shift_130 rfl ?_
      obtain ⟨hi, hf⟩ := ck_in hf
      refine r_last (pc' := 132) C (K_242 hF) rfl hi dX12_shift_131 rfl ?_
      refine r_iinc (pc' := 135) (i := 6) (L' := [(6, zI (x6 + 1)), (0, zP bs 193), (1, zI x1), (2, zI x2), (3, zI x3), (4, zI x4), (5, zI x5)]) C 6 rfl (by decide) rfl dX12_shift_132 rfl ?_
      refine r_goto (tgt := 104) C dX12_shift_135 (by decide) ?_
      refine V.sub (L' := [(0, zP bs 193), (1, zI x1), (2, zI x2), (3, zI x3), (4, zI x4), (5, zI x5), (6, zI (x6 + 1))]) [1, 2, 3, 4, 5, 6, 0] rfl ?_
      exact ih104 _ _ hf
    · refine V.sub (L' := [(0, zP bs 193), (3, zI x3), (4, zI x4), (5, zI x5)]) [0, 3, 4, 5] rfl ?_
      exact hk138 _ hf
set_option maxHeartbeats 4000000 in
set_option maxRecDepth 100000 in
theorem w_m_shift_L141 (hF : Fx S) (C : Cx D dT bs RX12 cX12_shift 7 (some Jvm.ClassFile.FieldType.int) p s m args meth c) (x3 : Int) (x4 : Int) (x5 : Int) {res : (Int × HH)} :
    ∀ (n : Nat) (h : HH) (x6 : Int), m_shift_L141 x3 x4 x5 n h x6 = some res → V D dT bs 7 p l e rm_m_shift s m args below meth c 0 0 (MQ below (QQ D dT bs (some (zI res.1)) res.2 S) args s 0 0 (AA bs)) h S 141 [(0, zP bs 193), (3, zI x3), (4, zI x4), (5, zI x5), (6, zI x6)] [] := by
  intro n
  induction n with
  | zero => intro h x6 hf; simp [m_shift_L141] at hf
  | succ n141 ih141 =>
    intro h x6 hf
    rw [m_shift_L141] at hf
    refine r_iload (pc' := 143) (i := 6) C 4 rfl dX12_shift_141 rfl ?_
    refine r_iload (pc' := 145) (i := 5) C 3 rfl dX12_shift_143 rfl ?_
    refine r_icmp_ge (pc' := 148) (tgt := 176) C rfl rfl hf dX12_shift_145 (by decide) rfl (fun hf => ?_) (fun hf => ?_)
    · refine r_aload_n (pc' := 149) (f4 := 0) (i := 0) C 0 rfl rfl dX12_shift_148 rfl ?_
      refine q_getP (pc' := 152) (j := 75) C (K_193 hF) fb_12_75 (by decide) wd_1246 (Or.inl rfl) (F_193_75 hF) (by decide) dX12_shift_149 rfl ?_
      refine r_bipush (pc' := 154) C rfl dX12_shift_152 rfl ?_
      refine r_iload_n (pc' := 155) (f4 := 3) (i := 3) C 1 rfl rfl dX12_shift_154 rfl ?_
      refine r_imul (pc' := 156) C dX12_shift_155 rfl ?_
      refine r_iload (pc' := 158) (i := 4) C 2 rfl dX12_shift_156 rfl ?_
      refine r_iadd (pc' := 159) C dX12_shift_158 rfl ?_
      refine r_iload (pc' := 161) (i := 6) C 4 rfl dX12_shift_159 rfl ?_
      refine r_iadd (pc' := 162) C dX12_shift_161 rfl ?_
      refine r_aload_n (pc' := 163) (f4 := 0) (i := 0) C 0 rfl rfl dX12_shift_162 rfl ?_
      refine q_getP (pc' := 166) (j := 76) C (K_193 hF) fb_12_76 (by decide) wd_1247 (Or.inl rfl) (F_193_76 hF) (by decide) dX12_shift_163 rfl ?_
      refine r_iload (pc' := 168) (i := 6) C 4 rfl dX12_shift_166 rfl ?_
      obtain ⟨hi, hf⟩ := ck_in hf
      refine r_lald (pc' := 169) C (K_242 hF) rfl hi dX12_shift_168 rfl ?_
      obtain ⟨hi, hf⟩ := ck_in hf
      refine r_last (pc' := 170) C (K_241 hF) rfl hi dX12_shift_169 rfl ?_
      refine r_iinc (pc' := 173) (i := 6) (L' := [(6, zI (x6 + 1)), (0, zP bs 193), (3, zI x3), (4, zI x4), (5, zI x5)]) C 4 rfl (by decide) rfl dX12_shift_170 rfl ?_
      refine r_goto (tgt := 141) C dX12_shift_173 (by decide) ?_
      refine V.sub (L' := [(0, zP bs 193), (3, zI x3), (4, zI x4), (5, zI x5), (6, zI (x6 + 1))]) [1, 2, 3, 4, 0] rfl ?_
      exact ih141 _ _ hf
    · refine r_iload (pc' := 178) (i := 5) C 3 rfl dX12_shift_176 rfl ?_
      cases hf
      exact r_iret C dX12_shift_178
set_option maxHeartbeats 4000000 in
set_option maxRecDepth 100000 in
theorem t_m_shift {S : SS} (hF : Fx S) {h : HH} {a1 : Int} {a2 : Int} {a3 : Int} {a4 : Int} {a5 : Int} {res : Int × HH} (hf : m_shift h a1 a2 a3 a4 a5 = some res) : CM yX12_shift cX12_shift 7 (some Jvm.ClassFile.FieldType.int) 2 44 0 0 (fun bs => [zP bs 193, zI a1, zI a2, zI a3, zI a4, zI a5]) h S (fun _ => some (zI res.1)) res.2 S := by
  refine CM.intro (own := RX12) (by decide) rfl (fun _ => Nat.le_of_ble_eq_true rfl) ?_
  intro D dT bs p l e s m args below meth c C
  show V D dT bs 7 p l e rm_m_shift s m args below meth c 0 0 _ h S 0 [(0, zP bs 193), (1, zI a1), (2, zI a2), (3, zI a3), (4, zI a4), (5, zI a5)] []
  unfold m_shift at hf
  refine r_aload_n (pc' := 1) (f4 := 0) (i := 0) C 0 rfl rfl dX12_shift_0 rfl ?_
  refine r_iload_n (pc' := 2) (f4 := 1) (i := 1) C 1 rfl rfl dX12_shift_1 rfl ?_
  refine q_callV (pc' := 5) C (t_m_isTape hF) rfl (K_193 hF) cl_12 wv_RX12_424 ⟨Nat.le_of_ble_eq_true rfl, Nat.le_of_ble_eq_true rfl⟩ rfl rfl (Nat.le_of_ble_eq_true rfl) dX12_shift_2 rfl ⟨Nat.le_of_ble_eq_true rfl, Nat.le_of_ble_eq_true rfl⟩ ?_
  refine r_if_eq (pc' := 8) (tgt := 16) C rfl hf dX12_shift_5 (by decide) rfl (fun hf => ?_) (fun hf => ?_)
  · refine r_iconst (pc' := 17) C dX12_shift_16 rfl ?_
    cases hf
    exact r_iret C dX12_shift_17
  · refine r_aload_n (pc' := 9) (f4 := 0) (i := 0) C 0 rfl rfl dX12_shift_8 rfl ?_
    refine r_iload_n (pc' := 10) (f4 := 3) (i := 3) C 3 rfl rfl dX12_shift_9 rfl ?_
    refine q_callV (pc' := 13) C (t_m_isTape hF) rfl (K_193 hF) cl_12 wv_RX12_424 ⟨Nat.le_of_ble_eq_true rfl, Nat.le_of_ble_eq_true rfl⟩ rfl rfl (Nat.le_of_ble_eq_true rfl) dX12_shift_10 rfl ⟨Nat.le_of_ble_eq_true rfl, Nat.le_of_ble_eq_true rfl⟩ ?_
    refine r_if_ne (pc' := 16) (tgt := 18) C rfl hf dX12_shift_13 (by decide) rfl (fun hf => ?_) (fun hf => ?_)
    · refine r_iconst (pc' := 17) C dX12_shift_16 rfl ?_
      cases hf
      exact r_iret C dX12_shift_17
    · refine r_aload_n (pc' := 19) (f4 := 0) (i := 0) C 0 rfl rfl dX12_shift_18 rfl ?_
      refine q_getP (pc' := 22) (j := 73) C (K_193 hF) fb_12_73 (by decide) wd_1244 (Or.inl rfl) (F_193_73 hF) (by decide) dX12_shift_19 rfl ?_
      refine r_iload_n (pc' := 23) (f4 := 1) (i := 1) C 1 rfl rfl dX12_shift_22 rfl ?_
      obtain ⟨hi, hf⟩ := ck_in hf
      refine r_iald (pc' := 24) C (K_239 hF) rfl hi dX12_shift_23 rfl ?_
      refine r_if_lt (pc' := 27) (tgt := 36) C rfl hf dX12_shift_24 (by decide) rfl (fun hf => ?_) (fun hf => ?_)
      · refine r_bipush (pc' := 38) C rfl dX12_shift_36 rfl ?_
        cases hf
        exact r_iret C dX12_shift_38
      · refine r_aload_n (pc' := 28) (f4 := 0) (i := 0) C 0 rfl rfl dX12_shift_27 rfl ?_
        refine q_getP (pc' := 31) (j := 73) C (K_193 hF) fb_12_73 (by decide) wd_1244 (Or.inl rfl) (F_193_73 hF) (by decide) dX12_shift_28 rfl ?_
        refine r_iload_n (pc' := 32) (f4 := 3) (i := 3) C 3 rfl rfl dX12_shift_31 rfl ?_
        obtain ⟨hi, hf⟩ := ck_in hf
        refine r_iald (pc' := 33) C (K_239 hF) rfl hi dX12_shift_32 rfl ?_
        refine r_if_ge (pc' := 36) (tgt := 39) C rfl hf dX12_shift_33 (by decide) rfl (fun hf => ?_) (fun hf => ?_)
        · refine r_bipush (pc' := 38) C rfl dX12_shift_36 rfl ?_
          cases hf
          exact r_iret C dX12_shift_38
        · refine r_aload_n (pc' := 40) (f4 := 0) (i := 0) C 0 rfl rfl dX12_shift_39 rfl ?_
          refine q_getP (pc' := 43) (j := 73) C (K_193 hF) fb_12_73 (by decide) wd_1244 (Or.inl rfl) (F_193_73 hF) (by decide) dX12_shift_40 rfl ?_
          refine r_iload_n (pc' := 44) (f4 := 1) (i := 1) C 1 rfl rfl dX12_shift_43 rfl ?_
          obtain ⟨hi, hf⟩ := ck_in hf
          refine r_iald (pc' := 45) C (K_239 hF) rfl hi dX12_shift_44 rfl ?_
          refine r_aload_n (pc' := 46) (f4 := 0) (i := 0) C 0 rfl rfl dX12_shift_45 rfl ?_
          refine q_getP (pc' := 49) (j := 73) C (K_193 hF) fb_12_73 (by decide) wd_1244 (Or.inl rfl) (F_193_73 hF) (by decide) dX12_shift_46 rfl ?_
          refine r_iload_n (pc' := 50) (f4 := 3) (i := 3) C 3 rfl rfl dX12_shift_49 rfl ?_
          obtain ⟨hi, hf⟩ := ck_in hf
          refine r_iald (pc' := 51) C (K_239 hF) rfl hi dX12_shift_50 rfl ?_
          refine r_icmp_eq (pc' := 54) (tgt := 57) C rfl rfl hf dX12_shift_51 (by decide) rfl (fun hf => ?_) (fun hf => ?_)
          · refine r_iload (pc' := 59) (i := 5) C 5 rfl dX12_shift_57 rfl ?_
            refine r_if_lt (pc' := 62) (tgt := 98) C rfl hf dX12_shift_59 (by decide) rfl (fun hf => ?_) (fun hf => ?_)
            · refine r_bipush (pc' := 100) C rfl dX12_shift_98 rfl ?_
              cases hf
              exact r_iret C dX12_shift_100
            · refine r_iload_n (pc' := 63) (f4 := 2) (i := 2) C 2 rfl rfl dX12_shift_62 rfl ?_
              refine r_if_lt (pc' := 66) (tgt := 98) C rfl hf dX12_shift_63 (by decide) rfl (fun hf => ?_) (fun hf => ?_)
              · refine r_bipush (pc' := 100) C rfl dX12_shift_98 rfl ?_
                cases hf
                exact r_iret C dX12_shift_100
              · refine r_iload (pc' := 68) (i := 4) C 4 rfl dX12_shift_66 rfl ?_
                refine r_if_lt (pc' := 71) (tgt := 98) C rfl hf dX12_shift_68 (by decide) rfl (fun hf => ?_) (fun hf => ?_)
                · refine r_bipush (pc' := 100) C rfl dX12_shift_98 rfl ?_
                  cases hf
                  exact r_iret C dX12_shift_100
                · refine r_iload_n (pc' := 72) (f4 := 2) (i := 2) C 2 rfl rfl dX12_shift_71 rfl ?_
                  refine r_aload_n (pc' := 73) (f4 := 0) (i := 0) C 0 rfl rfl dX12_shift_72 rfl ?_
                  refine q_getP (pc' := 76) (j := 74) C (K_193 hF) fb_12_74 (by decide) wd_1245 (Or.inl rfl) (F_193_74 hF) (by decide) dX12_shift_73 rfl ?_
                  refine r_iload_n (pc' := 77) (f4 := 1) (i := 1) C 1 rfl rfl dX12_shift_76 rfl ?_
                  obtain ⟨hi, hf⟩ := ck_in hf
                  refine r_iald (pc' := 78) C (K_240 hF) rfl hi dX12_shift_77 rfl ?_
                  refine r_iload (pc' := 80) (i := 5) C 5 rfl dX12_shift_78 rfl ?_
                  refine r_isub (pc' := 81) C dX12_shift_80 rfl ?_
                  refine r_icmp_gt (pc' := 84) (tgt := 98) C rfl rfl hf dX12_shift_81 (by decide) rfl (fun hf => ?_) (fun hf => ?_)
                  · refine r_bipush (pc' := 100) C rfl dX12_shift_98 rfl ?_
                    cases hf
                    exact r_iret C dX12_shift_100
                  · refine r_iload (pc' := 86) (i := 4) C 4 rfl dX12_shift_84 rfl ?_
                    refine r_aload_n (pc' := 87) (f4 := 0) (i := 0) C 0 rfl rfl dX12_shift_86 rfl ?_
                    refine q_getP (pc' := 90) (j := 74) C (K_193 hF) fb_12_74 (by decide) wd_1245 (Or.inl rfl) (F_193_74 hF) (by decide) dX12_shift_87 rfl ?_
                    refine r_iload_n (pc' := 91) (f4 := 3) (i := 3) C 3 rfl rfl dX12_shift_90 rfl ?_
                    obtain ⟨hi, hf⟩ := ck_in hf
                    refine r_iald (pc' := 92) C (K_240 hF) rfl hi dX12_shift_91 rfl ?_
                    refine r_iload (pc' := 94) (i := 5) C 5 rfl dX12_shift_92 rfl ?_
                    refine r_isub (pc' := 95) C dX12_shift_94 rfl ?_
                    refine r_icmp_le (pc' := 98) (tgt := 101) C rfl rfl hf dX12_shift_95 (by decide) rfl (fun hf => ?_) (fun hf => ?_)
                    · refine r_bipush (pc' := 100) C rfl dX12_shift_98 rfl ?_
                      cases hf
                      exact r_iret C dX12_shift_100
                    · refine r_iconst (pc' := 102) C dX12_shift_101 rfl ?_
                      refine r_istore (pc' := 104) (i := 6) (L' := [(6, zI 0), (0, zP bs 193), (1, zI a1), (2, zI a2), (3, zI a3), (4, zI a4), (5, zI a5)]) C (by decide) rfl dX12_shift_102 rfl ?_
                      refine V.sub (L' := [(0, zP bs 193), (1, zI a1), (2, zI a2), (3, zI a3), (4, zI a4), (5, zI a5), (6, zI 0)]) [1, 2, 3, 4, 5, 6, 0] rfl ?_
                      refine w_m_shift_L104 hF C _ _ _ _ _ _ ?_ _ _ _ hf
                      intro h1 hf
                      refine r_iconst (pc' := 139) C dX12_shift_138 rfl ?_
                      refine r_istore (pc' := 141) (i := 6) (L' := [(6, zI 0), (0, zP bs 193), (3, zI a3), (4, zI a4), (5, zI a5)]) C (by decide) rfl dX12_shift_139 rfl ?_
                      refine V.sub (L' := [(0, zP bs 193), (3, zI a3), (4, zI a4), (5, zI a5), (6, zI 0)]) [1, 2, 3, 4, 0] rfl ?_
                      refine w_m_shift_L141 hF C _ _ _ _ _ _ hf
          · refine r_bipush (pc' := 56) C rfl dX12_shift_54 rfl ?_
            cases hf
            exact r_iret C dX12_shift_56
end
