section
variable {D : va_G} {dT : ZT} {bs : Nat} {p : Program} {l : Launch} {e : Env} {s : State} {m : MethodId} {args : Array Value} {below : List Frame} {meth : Method} {c : Code} {S : SS}
/- WassailEnemiesModel.holds(III)Z -/
def m_holds_L11 (x1 : Int) (x2 : Int) (x3 : Int) : Nat → HH → Int → Int → Option (Int × HH)
  | 0, _, _, _ => none
  | n11 + 1, h, x4, x5 =>
    ck (ww x1) 60 <| if ww x5 < ww (h 205 (ww x1)) then (ck (ww x5) 600 <| if ww (h 206 (ww x5)) = -33 then (ck (ww (x4 - 1)) 100 <| if ww (h 209 (ww (x4 - 1))) = 0 then (ck (ww (x4 - 1)) 100 <| m_holds_L11 x1 x2 x3 n11 (u2 h 209 (ww (x4 - 1)) 1) x4 (x5 + 1)) else (ck (ww (x4 - 1)) 100 <| m_holds_L11 x1 x2 x3 n11 (u2 h 209 (ww (x4 - 1)) 0) x4 (x5 + 1))) else (if ww (h 206 (ww x5)) < 0 then (if ww (h 206 (ww x5)) = -38 then (ck (ww ((x4 + (-1)) - 1)) 100 <| if ww (h 209 (ww ((x4 + (-1)) - 1))) = 0 then (ck (ww ((x4 + (-1)) - 1)) 100 <| m_holds_L11 x1 x2 x3 n11 (u2 h 209 (ww ((x4 + (-1)) - 1)) 0) (x4 + (-1)) (x5 + 1)) else (ck (ww (x4 + (-1))) 100 <| if ww (h 209 (ww (x4 + (-1)))) = 0 then (ck (ww ((x4 + (-1)) - 1)) 100 <| m_holds_L11 x1 x2 x3 n11 (u2 h 209 (ww ((x4 + (-1)) - 1)) 0) (x4 + (-1)) (x5 + 1)) else (ck (ww ((x4 + (-1)) - 1)) 100 <| m_holds_L11 x1 x2 x3 n11 (u2 h 209 (ww ((x4 + (-1)) - 1)) 1) (x4 + (-1)) (x5 + 1)))) else (ck (ww ((x4 + (-1)) - 1)) 100 <| if ww (h 209 (ww ((x4 + (-1)) - 1))) = 0 then (ck (ww (x4 + (-1))) 100 <| if ww (h 209 (ww (x4 + (-1)))) = 0 then (ck (ww ((x4 + (-1)) - 1)) 100 <| m_holds_L11 x1 x2 x3 n11 (u2 h 209 (ww ((x4 + (-1)) - 1)) 0) (x4 + (-1)) (x5 + 1)) else (ck (ww ((x4 + (-1)) - 1)) 100 <| m_holds_L11 x1 x2 x3 n11 (u2 h 209 (ww ((x4 + (-1)) - 1)) 1) (x4 + (-1)) (x5 + 1))) else (ck (ww ((x4 + (-1)) - 1)) 100 <| m_holds_L11 x1 x2 x3 n11 (u2 h 209 (ww ((x4 + (-1)) - 1)) 1) (x4 + (-1)) (x5 + 1)))) else ((m_factOf h (zdiv (h 206 (ww x5)) 1000) x2 x3).bind fun q1 => if ww (zrem (zdiv (h 206 (ww x5)) 100) 10) = 0 then (if ww q1 < ww (zrem (h 206 (ww x5)) 100) then (ck (ww x4) 100 <| m_holds_L11 x1 x2 x3 n11 (u2 h 209 (ww x4) 1) (x4 + 1) (x5 + 1)) else (ck (ww x4) 100 <| m_holds_L11 x1 x2 x3 n11 (u2 h 209 (ww x4) 0) (x4 + 1) (x5 + 1))) else (if ww (zrem (zdiv (h 206 (ww x5)) 100) 10) = 1 then (if ww q1 = ww (zrem (h 206 (ww x5)) 100) then (ck (ww x4) 100 <| m_holds_L11 x1 x2 x3 n11 (u2 h 209 (ww x4) 1) (x4 + 1) (x5 + 1)) else (ck (ww x4) 100 <| m_holds_L11 x1 x2 x3 n11 (u2 h 209 (ww x4) 0) (x4 + 1) (x5 + 1))) else (if ww (zrem (h 206 (ww x5)) 100) < ww q1 then (ck (ww x4) 100 <| m_holds_L11 x1 x2 x3 n11 (u2 h 209 (ww x4) 1) (x4 + 1) (x5 + 1)) else (ck (ww x4) 100 <| m_holds_L11 x1 x2 x3 n11 (u2 h 209 (ww x4) 0) (x4 + 1) (x5 + 1))))))) else (ckb (h 209 0) <| some (h 209 0, h))
def m_holds (h : HH) (a1 : Int) (a2 : Int) (a3 : Int) : Option (Int × HH) :=
  ck (ww a1) 60 <| m_holds_L11 a1 a2 a3 FU h 0 (h 204 (ww a1))
abbrev rm_m_holds : Room := { frames := 1, cells := 0, slots := 0, locals := 23 }
set_option maxHeartbeats 4000000 in
set_option maxRecDepth 100000 in
theorem w_m_holds_L11 (hF : Fx S) (C : Cx D dT bs RX12 cX12_holds 9 (some Jvm.ClassFile.FieldType.boolean) p s m args meth c) (x1 : Int) (x2 : Int) (x3 : Int) {res : (Int × HH)} :
    ∀ (n : Nat) (h : HH) (x4 : Int) (x5 : Int), m_holds_L11 x1 x2 x3 n h x4 x5 = some res → V D dT bs 9 p l e rm_m_holds s m args below meth c 0 0 (MQ below (QQ D dT bs (some (zI res.1)) res.2 S) args s 0 0 (AA bs)) h S 11 [(0, zP bs 193), (1, zI x1), (2, zI x2), (3, zI x3), (4, zI x4), (5, zI x5)] [] := by
  intro n
  induction n with
  | zero => intro h x4 x5 hf; simp [m_holds_L11] at hf
  | succ n11 ih11 =>
    intro h x4 x5 hf
    rw [m_holds_L11] at hf
    refine r_iload (pc' := 13) (i := 5) C 5 rfl dX12_holds_11 rfl ?_
    refine r_aload_n (pc' := 14) (f4 := 0) (i := 0) C 0 rfl rfl dX12_holds_13 rfl ?_
    refine q_getP (pc' := 17) (j := 19) C (K_193 hF) fb_12_19 (by decide) wd_1190 (Or.inl rfl) (F_193_19 hF) (by decide) dX12_holds_14 rfl ?_
    refine r_iload_n (pc' := 18) (f4 := 1) (i := 1) C 1 rfl rfl dX12_holds_17 rfl ?_
    obtain ⟨hi, hf⟩ := ck_in hf
    refine r_iald (pc' := 19) C (K_205 hF) rfl hi dX12_holds_18 rfl ?_
    refine r_icmp_ge (pc' := 22) (tgt := 253) C rfl rfl hf dX12_holds_19 (by decide) rfl (fun hf => ?_) (fun hf => ?_)
    · refine r_aload_n (pc' := 23) (f4 := 0) (i := 0) C 0 rfl rfl dX12_holds_22 rfl ?_
      refine q_getP (pc' := 26) (j := 20) C (K_193 hF) fb_12_20 (by decide) wd_1191 (Or.inl rfl) (F_193_20 hF) (by decide) dX12_holds_23 rfl ?_
      refine r_iload (pc' := 28) (i := 5) C 5 rfl dX12_holds_26 rfl ?_
      obtain ⟨hi, hf⟩ := ck_in hf
      refine r_iald (pc' := 29) C (K_206 hF) rfl hi dX12_holds_28 rfl ?_
      refine r_istore (pc' := 31) (i := 6) (L' := [(6, zI (h 206 (ww x5))), (0, zP bs 193), (1, zI x1), (2, zI x2), (3, zI x3), (4, zI x4), (5, zI x5)]) C (by decide) rfl dX12_holds_29 rfl ?_
      refine r_iload (pc' := 33) (i := 6) C 0 rfl dX12_holds_31 rfl ?_
      refine r_bipush (pc' := 35) C rfl dX12_holds_33 rfl ?_
      refine r_icmp_ne (pc' := 38) (tgt := 67) C rfl ww_m33 hf dX12_holds_35 (by decide) rfl (fun hf => ?_) (fun hf => ?_)
      · refine r_aload_n (pc' := 39) (f4 := 0) (i := 0) C 1 rfl rfl dX12_holds_38 rfl ?_
        refine q_getP (pc' := 42) (j := 26) C (K_193 hF) fb_12_26 (by decide) wd_1197 (Or.inl rfl) (F_193_26 hF) (by decide) dX12_holds_39 rfl ?_
        refine r_iload (pc' := 44) (i := 4) C 5 rfl dX12_holds_42 rfl ?_
        refine r_iconst (pc' := 45) C dX12_holds_44 rfl ?_
        refine r_isub (pc' := 46) C dX12_holds_45 rfl ?_
        refine r_aload_n (pc' := 47) (f4 := 0) (i := 0) C 1 rfl rfl dX12_holds_46 rfl ?_
        refine q_getP (pc' := 50) (j := 26) C (K_193 hF) fb_12_26 (by decide) wd_1197 (Or.inl rfl) (F_193_26 hF) (by decide) dX12_holds_47 rfl ?_
        refine r_iload (pc' := 52) (i := 4) C 5 rfl dX12_holds_50 rfl ?_
        refine r_iconst (pc' := 53) C dX12_holds_52 rfl ?_
        refine r_isub (pc' := 54) C dX12_holds_53 rfl ?_
        obtain ⟨hi, hf⟩ := ck_in hf
        refine r_zald (pc' := 55) C (K_209 hF) rfl hi dX12_holds_54 rfl ?_
        refine r_if_ne (pc' := 58) (tgt := 62) C rfl hf dX12_holds_55 (by decide) rfl (fun hf => ?_) (fun hf => ?_)
        · refine r_iconst (pc' := 59) C dX12_holds_58 rfl ?_
          refine r_goto (tgt := 63) C dX12_holds_59 (by decide) ?_
          obtain ⟨hi, hf⟩ := ck_in hf
          refine r_zast (pc' := 64) C (K_209 hF) rfl (zb_nar (Or.inr rfl)) hi dX12_holds_63 rfl ?_
          refine r_goto (tgt := 247) C dX12_holds_64 (by decide) ?_
          refine r_iinc (pc' := 250) (i := 5) (L' := [(5, zI (x5 + 1)), (6, zI (h 206 (ww x5))), (0, zP bs 193), (1, zI x1), (2, zI x2), (3, zI x3), (4, zI x4)]) C 6 rfl (by decide) rfl dX12_holds_247 rfl ?_
          refine r_goto (tgt := 11) C dX12_holds_250 (by decide) ?_
          refine V.sub (L' := [(0, zP bs 193), (1, zI x1), (2, zI x2), (3, zI x3), (4, zI x4), (5, zI (x5 + 1))]) [2, 3, 4, 5, 6, 0] rfl ?_
          exact ih11 _ _ _ hf
        · refine r_iconst (pc' := 63) C dX12_holds_62 rfl ?_
          obtain ⟨hi, hf⟩ := ck_in hf
          refine r_zast (pc' := 64) C (K_209 hF) rfl (zb_nar (Or.inl rfl)) hi dX12_holds_63 rfl ?_
          refine r_goto (tgt := 247) C dX12_holds_64 (by decide) ?_
          refine r_iinc (pc' := 250) (i := 5) (L' := [(5, zI (x5 + 1)), (6, zI (h 206 (ww x5))), (0, zP bs 193), (1, zI x1), (2, zI x2), (3, zI x3), (4, zI x4)]) C 6 rfl (by decide) rfl dX12_holds_247 rfl ?_
          refine r_goto (tgt := 11) C dX12_holds_250 (by decide) ?_
          refine V.sub (L' := [(0, zP bs 193), (1, zI x1), (2, zI x2), (3, zI x3), (4, zI x4), (5, zI (x5 + 1))]) [2, 3, 4, 5, 6, 0] rfl ?_
          exact ih11 _ _ _ hf
      · refine r_iload (pc' := 69) (i := 6) C 0 rfl dX12_holds_67 rfl ?_
        refine r_if_ge (pc' := 72) (tgt := 151) C rfl hf dX12_holds_69 (by decide) rfl (fun hf => ?_) (fun hf => ?_)
        · refine r_iinc (pc' := 75) (i := 4) (L' := [(4, zI (x4 + (-1))), (6, zI (h 206 (ww x5))), (0, zP bs 193), (1, zI x1), (2, zI x2), (3, zI x3), (5, zI x5)]) C 5 rfl (by decide) rfl dX12_holds_72 rfl ?_
          refine r_aload_n (pc' := 76) (f4 := 0) (i := 0) C 2 rfl rfl dX12_holds_75 rfl ?_
          refine q_getP (pc' := 79) (j := 26) C (K_193 hF) fb_12_26 (by decide) wd_1197 (Or.inl rfl) (F_193_26 hF) (by decide) dX12_holds_76 rfl ?_
          refine r_iload (pc' := 81) (i := 4) C 0 rfl dX12_holds_79 rfl ?_
          refine r_iconst (pc' := 82) C dX12_holds_81 rfl ?_
          refine r_isub (pc' := 83) C dX12_holds_82 rfl ?_
          refine r_iload (pc' := 85) (i := 6) C 1 rfl dX12_holds_83 rfl ?_
          refine r_bipush (pc' := 87) C rfl dX12_holds_85 rfl ?_
          refine r_icmp_ne (pc' := 90) (tgt := 120) C rfl ww_m38 hf dX12_holds_87 (by decide) rfl (fun hf => ?_) (fun hf => ?_)
          · refine r_aload_n (pc' := 91) (f4 := 0) (i := 0) C 2 rfl rfl dX12_holds_90 rfl ?_
            refine q_getP (pc' := 94) (j := 26) C (K_193 hF) fb_12_26 (by decide) wd_1197 (Or.inl rfl) (F_193_26 hF) (by decide) dX12_holds_91 rfl ?_
            refine r_iload (pc' := 96) (i := 4) C 0 rfl dX12_holds_94 rfl ?_
            refine r_iconst (pc' := 97) C dX12_holds_96 rfl ?_
            refine r_isub (pc' := 98) C dX12_holds_97 rfl ?_
            obtain ⟨hi, hf⟩ := ck_in hf
            refine r_zald (pc' := 99) C (K_209 hF) rfl hi dX12_holds_98 rfl ?_
            refine r_if_eq (pc' := 102) (tgt := 116) C rfl hf dX12_holds_99 (by decide) rfl (fun hf => ?_) (fun hf => ?_)
            · refine r_iconst (pc' := 117) C dX12_holds_116 rfl ?_
              refine r_goto (tgt := 147) C dX12_holds_117 (by decide) ?_
              obtain ⟨hi, hf⟩ := ck_in hf
              refine r_zast (pc' := 148) C (K_209 hF) rfl (zb_nar (Or.inl rfl)) hi dX12_holds_147 rfl ?_
              refine r_goto (tgt := 247) C dX12_holds_148 (by decide) ?_
              refine r_iinc (pc' := 250) (i := 5) (L' := [(5, zI (x5 + 1)), (4, zI (x4 + (-1))), (6, zI (h 206 (ww x5))), (0, zP bs 193), (1, zI x1), (2, zI x2), (3, zI x3)]) C 6 rfl (by decide) rfl dX12_holds_247 rfl ?_
              refine r_goto (tgt := 11) C dX12_holds_250 (by decide) ?_
              refine V.sub (L' := [(0, zP bs 193), (1, zI x1), (2, zI x2), (3, zI x3), (4, zI (x4 + (-1))), (5, zI (x5 + 1))]) [3, 4, 5, 6, 1, 0] rfl ?_
              exact ih11 _ _ _ hf
            · refine r_aload_n (pc' := 103) (f4 := 0) (i := 0) C 2 rfl rfl dX12_holds_102 rfl ?_
              refine q_getP (pc' := 106) (j := 26) C (K_193 hF) fb_12_26 (by decide) wd_1197 (Or.inl rfl) (F_193_26 hF) (by decide) dX12_holds_103 rfl ?_
              refine r_iload (pc' := 108) (i := 4) C 0 rfl dX12_holds_106 rfl ?_
              obtain ⟨hi, hf⟩ := ck_in hf
              refine r_zald (pc' := 109) C (K_209 hF) rfl hi dX12_holds_108 rfl ?_
              refine r_if_eq (pc' := 112) (tgt := 116) C rfl hf dX12_holds_109 (by decide) rfl (fun hf => ?_) (fun hf => ?_)
              · refine r_iconst (pc' := 117) C dX12_holds_116 rfl ?_
                refine r_goto (tgt := 147) C dX12_holds_117 (by decide) ?_
                obtain ⟨hi, hf⟩ := ck_in hf
                refine r_zast (pc' := 148) C (K_209 hF) rfl (zb_nar (Or.inl rfl)) hi dX12_holds_147 rfl ?_
                refine r_goto (tgt := 247) C dX12_holds_148 (by decide) ?_
                refine r_iinc (pc' := 250) (i := 5) (L' := [(5, zI (x5 + 1)), (4, zI (x4 + (-1))), (6, zI (h 206 (ww x5))), (0, zP bs 193), (1, zI x1), (2, zI x2), (3, zI x3)]) C 6 rfl (by decide) rfl dX12_holds_247 rfl ?_
                refine r_goto (tgt := 11) C dX12_holds_250 (by decide) ?_
                refine V.sub (L' := [(0, zP bs 193), (1, zI x1), (2, zI x2), (3, zI x3), (4, zI (x4 + (-1))), (5, zI (x5 + 1))]) [3, 4, 5, 6, 1, 0] rfl ?_
                exact ih11 _ _ _ hf
              · refine r_iconst (pc' := 113) C dX12_holds_112 rfl ?_
                refine r_goto (tgt := 147) C dX12_holds_113 (by decide) ?_
                obtain ⟨hi, hf⟩ := ck_in hf
                refine r_zast (pc' := 148) C (K_209 hF) rfl (zb_nar (Or.inr rfl)) hi dX12_holds_147 rfl ?_
                refine r_goto (tgt := 247) C dX12_holds_148 (by decide) ?_
                refine r_iinc (pc' := 250) (i := 5) (L' := [(5, zI (x5 + 1)), (4, zI (x4 + (-1))), (6, zI (h 206 (ww x5))), (0, zP bs 193), (1, zI x1), (2, zI x2), (3, zI x3)]) C 6 rfl (by decide) rfl dX12_holds_247 rfl ?_
                refine r_goto (tgt := 11) C dX12_holds_250 (by decide) ?_
                refine V.sub (L' := [(0, zP bs 193), (1, zI x1), (2, zI x2), (3, zI x3), (4, zI (x4 + (-1))), (5, zI (x5 + 1))]) [3, 4, 5, 6, 1, 0] rfl ?_
                exact ih11 _ _ _ hf
          · refine r_aload_n (pc' := 121) (f4 := 0) (i := 0) C 2 rfl rfl dX12_holds_120 rfl ?_
            refine q_getP (pc' := 124) (j := 26) C (K_193 hF) fb_12_26 (by decide) wd_1197 (Or.inl rfl) (F_193_26 hF) (by decide) dX12_holds_121 rfl ?_
            refine r_iload (pc' := 126) (i := 4) C 0 rfl dX12_holds_124 rfl ?_
            refine r_iconst (pc' := 127) C dX12_holds_126 rfl ?_
            refine r_isub (pc' := 128) C dX12_holds_127 rfl ?_
            obtain ⟨hi, hf⟩ := ck_in hf
            refine r_zald (pc' := 129) C (K_209 hF) rfl hi dX12_holds_128 rfl ?_
            refine r_if_ne (pc' := 132) (tgt := 142) C rfl hf dX12_holds_129 (by decide) rfl (fun hf => ?_) (fun hf => ?_)
            · refine r_aload_n (pc' := 133) (f4 := 0) (i := 0) C 2 rfl rfl dX12_holds_132 rfl ?_
              refine q_getP (pc' := 136) (j := 26) C (K_193 hF) fb_12_26 (by decide) wd_1197 (Or.inl rfl) (F_193_26 hF) (by decide) dX12_holds_133 rfl ?_
              refine r_iload (pc' := 138) (i := 4) C 0 rfl dX12_holds_136 rfl ?_
              obtain ⟨hi, hf⟩ := ck_in hf
              refine r_zald (pc' := 139) C (K_209 hF) rfl hi dX12_holds_138 rfl ?_
              refine r_if_eq (pc' := 142) (tgt := 146) C rfl hf dX12_holds_139 (by decide) rfl (fun hf => ?_) (fun hf => ?_)
              · refine r_iconst (pc' := 147) C dX12_holds_146 rfl ?_
                obtain ⟨hi, hf⟩ := ck_in hf
                refine r_zast (pc' := 148) C (K_209 hF) rfl (zb_nar (Or.inl rfl)) hi dX12_holds_147 rfl ?_
                refine r_goto (tgt := 247) C dX12_holds_148 (by decide) ?_
                refine r_iinc (pc' := 250) (i := 5) (L' := [(5, zI (x5 + 1)), (4, zI (x4 + (-1))), (6, zI (h 206 (ww x5))), (0, zP bs 193), (1, zI x1), (2, zI x2), (3, zI x3)]) C 6 rfl (by decide) rfl dX12_holds_247 rfl ?_
                refine r_goto (tgt := 11) C dX12_holds_250 (by decide) ?_
                refine V.sub (L' := [(0, zP bs 193), (1, zI x1), (2, zI x2), (3, zI x3), (4, zI (x4 + (-1))), (5, zI (x5 + 1))]) [3, 4, 5, 6, 1, 0] rfl ?_
                exact ih11 _ _ _ hf
              · refine r_iconst (pc' := 143) C dX12_holds_142 rfl ?_
                refine r_goto (tgt := 147) C dX12_holds_143 (by decide) ?_
                obtain ⟨hi, hf⟩ := ck_in hf
                refine r_zast (pc' := 148) C (K_209 hF) rfl (zb_nar (Or.inr rfl)) hi dX12_holds_147 rfl ?_
                refine r_goto (tgt := 247) C dX12_holds_148 (by decide) ?_
                refine r_iinc (pc' := 250) (i := 5) (L' := [(5, zI (x5 + 1)), (4, zI (x4 + (-1))), (6, zI (h 206 (ww x5))), (0, zP bs 193), (1, zI x1), (2, zI x2), (3, zI x3)]) C 6 rfl (by decide) rfl dX12_holds_247 rfl ?_
                refine r_goto (tgt := 11) C dX12_holds_250 (by decide) ?_
                refine V.sub (L' := [(0, zP bs 193), (1, zI x1), (2, zI x2), (3, zI x3), (4, zI (x4 + (-1))), (5, zI (x5 + 1))]) [3, 4, 5, 6, 1, 0] rfl ?_
                exact ih11 _ _ _ hf
            · refine r_iconst (pc' := 143) C dX12_holds_142 rfl ?_
              refine r_goto (tgt := 147) C dX12_holds_143 (by decide) ?_
              obtain ⟨hi, hf⟩ := ck_in hf
              refine r_zast (pc' := 148) C (K_209 hF) rfl (zb_nar (Or.inr rfl)) hi dX12_holds_147 rfl ?_
              refine r_goto (tgt := 247) C dX12_holds_148 (by decide) ?_
              refine r_iinc (pc' := 250) (i := 5) (L' := [(5, zI (x5 + 1)), (4, zI (x4 + (-1))), (6, zI (h 206 (ww x5))), (0, zP bs 193), (1, zI x1), (2, zI x2), (3, zI x3)]) C 6 rfl (by decide) rfl dX12_holds_247 rfl ?_
              refine r_goto (tgt := 11) C dX12_holds_250 (by decide) ?_
              refine V.sub (L' := [(0, zP bs 193), (1, zI x1), (2, zI x2), (3, zI x3), (4, zI (x4 + (-1))), (5, zI (x5 + 1))]) [3, 4, 5, 6, 1, 0] rfl ?_
              exact ih11 _ _ _ hf
        · refine r_aload_n (pc' := 152) (f4 := 0) (i := 0) C 1 rfl rfl dX12_holds_151 rfl ?_
          refine r_iload (pc' := 154) (i := 6) C 0 rfl dX12_holds_152 rfl ?_
          refine r_sipush (pc' := 157) C rfl dX12_holds_154 rfl ?_
          refine r_idiv (pc' := 158) C ww_n1000 (by decide) dX12_holds_157 rfl ?_
          refine r_iload_n (pc' := 159) (f4 := 2) (i := 2) C 3 rfl rfl dX12_holds_158 rfl ?_
          refine r_iload_n (pc' := 160) (f4 := 3) (i := 3) C 4 rfl rfl dX12_holds_159 rfl ?_
          obtain ⟨q1, hq1, hf⟩ := bind_in hf
          refine q_callV (pc' := 163) C (t_m_factOf hF hq1) rfl (K_193 hF) cl_12 wv_RX12_327 ⟨Nat.le_of_ble_eq_true rfl, Nat.le_of_ble_eq_true rfl⟩ rfl rfl (Nat.le_of_ble_eq_true rfl) dX12_holds_160 rfl ⟨Nat.le_of_ble_eq_true rfl, Nat.le_of_ble_eq_true rfl⟩ ?_
          refine r_istore (pc' := 165) (i := 7) (L' := [(7, zI q1), (6, zI (h 206 (ww x5))), (0, zP bs 193), (1, zI x1), (2, zI x2), (3, zI x3), (4, zI x4), (5, zI x5)]) C (by decide) rfl dX12_holds_163 rfl ?_
          refine r_iload (pc' := 167) (i := 6) C 1 rfl dX12_holds_165 rfl ?_
          refine r_bipush (pc' := 169) C rfl dX12_holds_167 rfl ?_
          refine r_idiv (pc' := 170) C ww_n100 (by decide) dX12_holds_169 rfl ?_
          refine r_bipush (pc' := 172) C rfl dX12_holds_170 rfl ?_
          refine r_irem (pc' := 173) C ww_n10 (by decide) dX12_holds_172 rfl ?_
          refine r_istore (pc' := 175) (i := 8) (L' := [(8, zI (zrem (zdiv (h 206 (ww x5)) 100) 10)), (7, zI q1), (6, zI (h 206 (ww x5))), (0, zP bs 193), (1, zI x1), (2, zI x2), (3, zI x3), (4, zI x4), (5, zI x5)]) C (by decide) rfl dX12_holds_173 rfl ?_
          refine r_aload_n (pc' := 176) (f4 := 0) (i := 0) C 3 rfl rfl dX12_holds_175 rfl ?_
          refine q_getP (pc' := 179) (j := 26) C (K_193 hF) fb_12_26 (by decide) wd_1197 (Or.inl rfl) (F_193_26 hF) (by decide) dX12_holds_176 rfl ?_
          refine r_iload (pc' := 181) (i := 4) C 7 rfl dX12_holds_179 rfl ?_
          refine r_iload (pc' := 183) (i := 8) C 0 rfl dX12_holds_181 rfl ?_
          refine r_if_ne (pc' := 186) (tgt := 204) C rfl hf dX12_holds_183 (by decide) rfl (fun hf => ?_) (fun hf => ?_)
          · refine r_iload (pc' := 188) (i := 7) C 1 rfl dX12_holds_186 rfl ?_
            refine r_iload (pc' := 190) (i := 6) C 2 rfl dX12_holds_188 rfl ?_
            refine r_bipush (pc' := 192) C rfl dX12_holds_190 rfl ?_
            refine r_irem (pc' := 193) C ww_n100 (by decide) dX12_holds_192 rfl ?_
            refine r_icmp_ge (pc' := 196) (tgt := 200) C rfl rfl hf dX12_holds_193 (by decide) rfl (fun hf => ?_) (fun hf => ?_)
            · refine r_iconst (pc' := 197) C dX12_holds_196 rfl ?_
              refine r_goto (tgt := 243) C dX12_holds_197 (by decide) ?_
              obtain ⟨hi, hf⟩ := ck_in hf
              refine r_zast (pc' := 244) C (K_209 hF) rfl (zb_nar (Or.inr rfl)) hi dX12_holds_243 rfl ?_
              refine r_iinc (pc' := 247) (i := 4) (L' := [(4, zI (x4 + 1)), (8, zI (zrem (zdiv (h 206 (ww x5)) 100) 10)), (7, zI q1), (6, zI (h 206 (ww x5))), (0, zP bs 193), (1, zI x1), (2, zI x2), (3, zI x3), (5, zI x5)]) C 7 rfl (by decide) rfl dX12_holds_244 rfl ?_
              refine r_iinc (pc' := 250) (i := 5) (L' := [(5, zI (x5 + 1)), (4, zI (x4 + 1)), (8, zI (zrem (zdiv (h 206 (ww x5)) 100) 10)), (7, zI q1), (6, zI (h 206 (ww x5))), (0, zP bs 193), (1, zI x1), (2, zI x2), (3, zI x3)]) C 8 rfl (by decide) rfl dX12_holds_247 rfl ?_
              refine r_goto (tgt := 11) C dX12_holds_250 (by decide) ?_
              refine V.sub (L' := [(0, zP bs 193), (1, zI x1), (2, zI x2), (3, zI x3), (4, zI (x4 + 1)), (5, zI (x5 + 1))]) [5, 6, 7, 8, 1, 0] rfl ?_
              exact ih11 _ _ _ hf
            · refine r_iconst (pc' := 201) C dX12_holds_200 rfl ?_
              refine r_goto (tgt := 243) C dX12_holds_201 (by decide) ?_
              obtain ⟨hi, hf⟩ := ck_in hf
              refine r_zast (pc' := 244) C (K_209 hF) rfl (zb_nar (Or.inl rfl)) hi dX12_holds_243 rfl ?_
              refine r_iinc (pc' := 247) (i := 4) (L' := [(4, zI (x4 + 1)), (8, zI (zrem (zdiv (h 206 (ww x5)) 100) 10)), (7, zI q1), (6, zI (h 206 (ww x5))), (0, zP bs 193), (1, zI x1), (2, zI x2), (3, zI x3), (5, zI x5)]) C 7 rfl (by decide) rfl dX12_holds_244 rfl ?_
              refine r_iinc (pc' := 250) (i := 5) (L' := [(5, zI (x5 + 1)), (4, zI (x4 + 1)), (8, zI (zrem (zdiv (h 206 (ww x5)) 100) 10)), (7, zI q1), (6, zI (h 206 (ww x5))), (0, zP bs 193), (1, zI x1), (2, zI x2), (3, zI x3)]) C 8 rfl (by decide) rfl dX12_holds_247 rfl ?_
              refine r_goto (tgt := 11) C dX12_holds_250 (by decide) ?_
              refine V.sub (L' := [(0, zP bs 193), (1, zI x1), (2, zI x2), (3, zI x3), (4, zI (x4 + 1)), (5, zI (x5 + 1))]) [5, 6, 7, 8, 1, 0] rfl ?_
              exact ih11 _ _ _ hf
          · refine r_iload (pc' := 206) (i := 8) C 0 rfl dX12_holds_204 rfl ?_
            refine r_iconst (pc' := 207) C dX12_holds_206 rfl ?_
            refine r_icmp_ne (pc' := 210) (tgt := 228) C rfl ww_n1 hf dX12_holds_207 (by decide) rfl (fun hf => ?_) (fun hf => ?_)
            · refine r_iload (pc' := 212) (i := 7) C 1 rfl dX12_holds_210 rfl ?_
              refine r_iload (pc' := 214) (i := 6) C 2 rfl dX12_holds_212 rfl ?_
              refine r_bipush (pc' := 216) C rfl dX12_holds_214 rfl ?_
              refine r_irem (pc' := 217) C ww_n100 (by decide) dX12_holds_216 rfl ?_
              refine r_icmp_ne (pc' := 220) (tgt := 224) C rfl rfl hf dX12_holds_217 (by decide) rfl (fun hf => ?_) (fun hf => ?_)
              · refine r_iconst (pc' := 221) C dX12_holds_220 rfl ?_
                refine r_goto (tgt := 243) C dX12_holds_221 (by decide) ?_
                obtain ⟨hi, hf⟩ := ck_in hf
                refine r_zast (pc' := 244) C (K_209 hF) rfl (zb_nar (Or.inr rfl)) hi dX12_holds_243 rfl ?_
                refine r_iinc (pc' := 247) (i := 4) (L' := [(4, zI (x4 + 1)), (8, zI (zrem (zdiv (h 206 (ww x5)) 100) 10)), (7, zI q1), (6, zI (h 206 (ww x5))), (0, zP bs 193), (1, zI x1), (2, zI x2), (3, zI x3), (5, zI x5)]) C 7 rfl (by decide) rfl dX12_holds_244 rfl ?_
                refine r_iinc (pc' := 250) (i := 5) (L' := [(5, zI (x5 + 1)), (4, zI (x4 + 1)), (8, zI (zrem (zdiv (h 206 (ww x5)) 100) 10)), (7, zI q1), (6, zI (h 206 (ww x5))), (0, zP bs 193), (1, zI x1), (2, zI x2), (3, zI x3)]) C 8 rfl (by decide) rfl dX12_holds_247 rfl ?_
                refine r_goto (tgt := 11) C dX12_holds_250 (by decide) ?_
                refine V.sub (L' := [(0, zP bs 193), (1, zI x1), (2, zI x2), (3, zI x3), (4, zI (x4 + 1)), (5, zI (x5 + 1))]) [5, 6, 7, 8, 1, 0] rfl ?_
                exact ih11 _ _ _ hf
              · refine r_iconst (pc' := 225) C dX12_holds_224 rfl ?_
                refine r_goto (tgt := 243) C dX12_holds_225 (by decide) ?_
                obtain ⟨hi, hf⟩ := ck_in hf
                refine r_zast (pc' := 244) C (K_209 hF) rfl (zb_nar (Or.inl rfl)) hi dX12_holds_243 rfl ?_
                refine r_iinc (pc' := 247) (i := 4) (L' := [(4, zI (x4 + 1)), (8, zI (zrem (zdiv (h 206 (ww x5)) 100) 10)), (7, zI q1), (6, zI (h 206 (ww x5))), (0, zP bs 193), (1, zI x1), (2, zI x2), (3, zI x3), (5, zI x5)]) C 7 rfl (by decide) rfl dX12_holds_244 rfl ?_
                refine r_iinc (pc' := 250) (i := 5) (L' := [(5, zI (x5 + 1)), (4, zI (x4 + 1)), (8, zI (zrem (zdiv (h 206 (ww x5)) 100) 10)), (7, zI q1), (6, zI (h 206 (ww x5))), (0, zP bs 193), (1, zI x1), (2, zI x2), (3, zI x3)]) C 8 rfl (by decide) rfl dX12_holds_247 rfl ?_
                refine r_goto (tgt := 11) C dX12_holds_250 (by decide) ?_
                refine V.sub (L' := [(0, zP bs 193), (1, zI x1), (2, zI x2), (3, zI x3), (4, zI (x4 + 1)), (5, zI (x5 + 1))]) [5, 6, 7, 8, 1, 0] rfl ?_
                exact ih11 _ _ _ hf
            · refine r_iload (pc' := 230) (i := 7) C 1 rfl dX12_holds_228 rfl ?_
              refine r_iload (pc' := 232) (i := 6) C 2 rfl dX12_holds_230 rfl ?_
              refine r_bipush (pc' := 234) C rfl dX12_holds_232 rfl ?_
              refine r_irem (pc' := 235) C ww_n100 (by decide) dX12_holds_234 rfl ?_
              refine r_icmp_le (pc' := 238) (tgt := 242) C rfl rfl hf dX12_holds_235 (by decide) rfl (fun hf => ?_) (fun hf => ?_)
              · refine r_iconst (pc' := 239) C dX12_holds_238 rfl ?_
                refine r_goto (tgt := 243) C dX12_holds_239 (by decide) ?_
                obtain ⟨hi, hf⟩ := ck_in hf
                refine r_zast (pc' := 244) C (K_209 hF) rfl (zb_nar (Or.inr rfl)) hi dX12_holds_243 rfl ?_
                refine r_iinc (pc' := 247) (i := 4) (L' := [(4, zI (x4 + 1)), (8, zI (zrem (zdiv (h 206 (ww x5)) 100) 10)), (7, zI q1), (6, zI (h 206 (ww x5))), (0, zP bs 193), (1, zI x1), (2, zI x2), (3, zI x3), (5, zI x5)]) C 7 rfl (by decide) rfl dX12_holds_244 rfl ?_
                refine r_iinc (pc' := 250) (i := 5) (L' := [(5, zI (x5 + 1)), (4, zI (x4 + 1)), (8, zI (zrem (zdiv (h 206 (ww x5)) 100) 10)), (7, zI q1), (6, zI (h 206 (ww x5))), (0, zP bs 193), (1, zI x1), (2, zI x2), (3, zI x3)]) C 8 rfl (by decide) rfl dX12_holds_247 rfl ?_
                refine r_goto (tgt := 11) C dX12_holds_250 (by decide) ?_
                refine V.sub (L' := [(0, zP bs 193), (1, zI x1), (2, zI x2), (3, zI x3), (4, zI (x4 + 1)), (5, zI (x5 + 1))]) [5, 6, 7, 8, 1, 0] rfl ?_
                exact ih11 _ _ _ hf
              · refine r_iconst (pc' := 243) C dX12_holds_242 rfl ?_
                obtain ⟨hi, hf⟩ := ck_in hf
                refine r_zast (pc' := 244) C (K_209 hF) rfl (zb_nar (Or.inl rfl)) hi dX12_holds_243 rfl ?_
                refine r_iinc (pc' := 247) (i := 4) (L' := [(4, zI (x4 + 1)), (8, zI (zrem (zdiv (h 206 (ww x5)) 100) 10)), (7, zI q1), (6, zI (h 206 (ww x5))), (0, zP bs 193), (1, zI x1), (2, zI x2), (3, zI x3), (5, zI x5)]) C 7 rfl (by decide) rfl dX12_holds_244 rfl ?_
                refine r_iinc (pc' := 250) (i := 5) (L' := [(5, zI (x5 + 1)), (4, zI (x4 + 1)), (8, zI (zrem (zdiv (h 206 (ww x5)) 100) 10)), (7, zI q1), (6, zI (h 206 (ww x5))), (0, zP bs 193), (1, zI x1), (2, zI x2), (3, zI x3)]) C 8 rfl (by decide) rfl dX12_holds_247 rfl ?_
                refine r_goto (tgt := 11) C dX12_holds_250 (by decide) ?_
                refine V.sub (L' := [(0, zP bs 193), (1, zI x1), (2, zI x2), (3, zI x3), (4, zI (x4 + 1)), (5, zI (x5 + 1))]) [5, 6, 7, 8, 1, 0] rfl ?_
                exact ih11 _ _ _ hf
    · refine r_aload_n (pc' := 254) (f4 := 0) (i := 0) C 0 rfl rfl dX12_holds_253 rfl ?_
      refine q_getP (pc' := 257) (j := 26) C (K_193 hF) fb_12_26 (by decide) wd_1197 (Or.inl rfl) (F_193_26 hF) (by decide) dX12_holds_254 rfl ?_
      refine r_iconst (pc' := 258) C dX12_holds_257 rfl ?_
      refine r_zald (pc' := 259) C (K_209 hF) ww_n0 (by decide) dX12_holds_258 rfl ?_
      obtain ⟨hz, hf⟩ := ckb_in hf
      cases hf
      exact r_zret C hz dX12_holds_259
set_option maxHeartbeats 4000000 in
set_option maxRecDepth 100000 in
theorem t_m_holds {S : SS} (hF : Fx S) {h : HH} {a1 : Int} {a2 : Int} {a3 : Int} {res : Int × HH} (hf : m_holds h a1 a2 a3 = some res) : CM yX12_holds cX12_holds 9 (some Jvm.ClassFile.FieldType.boolean) 1 23 0 0 (fun bs => [zP bs 193, zI a1, zI a2, zI a3]) h S (fun _ => some (zI res.1)) res.2 S := by
  refine CM.intro (own := RX12) (by decide) rfl (fun _ => Nat.le_of_ble_eq_true rfl) ?_
  intro D dT bs p l e s m args below meth c C
  show V D dT bs 9 p l e rm_m_holds s m args below meth c 0 0 _ h S 0 [(0, zP bs 193), (1, zI a1), (2, zI a2), (3, zI a3)] []
  unfold m_holds at hf
  refine r_iconst (pc' := 1) C dX12_holds_0 rfl ?_
  refine r_istore (pc' := 3) (i := 4) (L' := [(4, zI 0), (0, zP bs 193), (1, zI a1), (2, zI a2), (3, zI a3)]) C (by decide) rfl dX12_holds_1 rfl ?_
  refine r_aload_n (pc' := 4) (f4 := 0) (i := 0) C 1 rfl rfl dX12_holds_3 rfl ?_
  refine q_getP (pc' := 7) (j := 18) C (K_193 hF) fb_12_18 (by decide) wd_1189 (Or.inl rfl) (F_193_18 hF) (by decide) dX12_holds_4 rfl ?_
  refine r_iload_n (pc' := 8) (f4 := 1) (i := 1) C 2 rfl rfl dX12_holds_7 rfl ?_
  obtain ⟨hi, hf⟩ := ck_in hf
  refine r_iald (pc' := 9) C (K_204 hF) rfl hi dX12_holds_8 rfl ?_
  refine r_istore (pc' := 11) (i := 5) (L' := [(5, zI (h 204 (ww a1))), (4, zI 0), (0, zP bs 193), (1, zI a1), (2, zI a2), (3, zI a3)]) C (by decide) rfl dX12_holds_9 rfl ?_
  refine V.sub (L' := [(0, zP bs 193), (1, zI a1), (2, zI a2), (3, zI a3), (4, zI 0), (5, zI (h 204 (ww a1)))]) [2, 3, 4, 5, 1, 0] rfl ?_
  refine w_m_holds_L11 hF C _ _ _ _ _ _ _ hf

/- WassailEnemiesModel.sum(II)I -/
def m_sum_L17 (x1 : Int) (x2 : Int) : Nat → HH → Int → Int → Option (Int × HH)
  | 0, _, _, _ => none
  | n17 + 1, h, x3, x4 =>
    (m_behind h).bind fun q1 => if ww x4 < ww q1 then (ck (ww x4) 60 <| if 1 < ww (h 202 (ww x4)) then (m_sum_L17 x1 x2 n17 h x3 (x4 + 1)) else ((m_holds h x4 x1 x2).bind fun q2 => if ww q2.1 = 0 then (m_sum_L17 x1 x2 n17 q2.2 x3 (x4 + 1)) else (ck (ww x4) 60 <| if ww (q2.2 202 (ww x4)) = 0 then (ck (ww x4) 60 <| m_sum_L17 x1 x2 n17 q2.2 (x3 + (q2.2 203 (ww x4))) (x4 + 1)) else (ck (ww x4) 60 <| m_sum_L17 x1 x2 n17 q2.2 (x3 + (-(q2.2 203 (ww x4)))) (x4 + 1))))) else (some (x3, h))
def m_sum (h : HH) (a1 : Int) (a2 : Int) : Option (Int × HH) :=
  ck (ww ((5 * a1) + a2)) 30 <| m_sum_L17 a1 a2 FU h (h 196 (ww ((5 * a1) + a2))) (m_begin h)
abbrev rm_m_sum : Room := { frames := 2, cells := 0, slots := 0, locals := 51 }
set_option maxHeartbeats 4000000 in
set_option maxRecDepth 100000 in
theorem w_m_sum_L17 (hF : Fx S) (C : Cx D dT bs RX12 cX12_sum 5 (some Jvm.ClassFile.FieldType.int) p s m args meth c) (x1 : Int) (x2 : Int) {res : (Int × HH)} :
    ∀ (n : Nat) (h : HH) (x3 : Int) (x4 : Int), m_sum_L17 x1 x2 n h x3 x4 = some res → V D dT bs 5 p l e rm_m_sum s m args below meth c 0 0 (MQ below (QQ D dT bs (some (zI res.1)) res.2 S) args s 0 0 (AA bs)) h S 17 [(0, zP bs 193), (1, zI x1), (2, zI x2), (3, zI x3), (4, zI x4)] [] := by
  intro n
  induction n with
  | zero => intro h x3 x4 hf; simp [m_sum_L17] at hf
  | succ n17 ih17 =>
    intro h x3 x4 hf
    rw [m_sum_L17] at hf
    refine r_iload (pc' := 19) (i := 4) C 4 rfl dX12_sum_17 rfl ?_
    refine r_aload_n (pc' := 20) (f4 := 0) (i := 0) C 0 rfl rfl dX12_sum_19 rfl ?_
    obtain ⟨q1, hq1, hf⟩ := bind_in hf
    refine q_callV (pc' := 23) C (t_m_behind hF hq1) rfl (K_193 hF) cl_12 wv_RX12_320 ⟨Nat.le_of_ble_eq_true rfl, Nat.le_of_ble_eq_true rfl⟩ rfl rfl (Nat.le_of_ble_eq_true rfl) dX12_sum_20 rfl ⟨Nat.le_of_ble_eq_true rfl, Nat.le_of_ble_eq_true rfl⟩ ?_
    refine r_icmp_ge (pc' := 26) (tgt := 88) C rfl rfl hf dX12_sum_23 (by decide) rfl (fun hf => ?_) (fun hf => ?_)
    · refine r_aload_n (pc' := 27) (f4 := 0) (i := 0) C 0 rfl rfl dX12_sum_26 rfl ?_
      refine q_getP (pc' := 30) (j := 16) C (K_193 hF) fb_12_16 (by decide) wd_1187 (Or.inl rfl) (F_193_16 hF) (by decide) dX12_sum_27 rfl ?_
      refine r_iload (pc' := 32) (i := 4) C 4 rfl dX12_sum_30 rfl ?_
      obtain ⟨hi, hf⟩ := ck_in hf
      refine r_iald (pc' := 33) C (K_202 hF) rfl hi dX12_sum_32 rfl ?_
      refine r_iconst (pc' := 34) C dX12_sum_33 rfl ?_
      refine r_icmp_gt (pc' := 37) (tgt := 82) C rfl ww_n1 hf dX12_sum_34 (by decide) rfl (fun hf => ?_) (fun hf => ?_)
      · refine r_iinc (pc' := 85) (i := 4) (L' := [(4, zI (x4 + 1)), (0, zP bs 193), (1, zI x1), (2, zI x2), (3, zI x3)]) C 4 rfl (by decide) rfl dX12_sum_82 rfl ?_
        refine r_goto (tgt := 17) C dX12_sum_85 (by decide) ?_
        refine V.sub (L' := [(0, zP bs 193), (1, zI x1), (2, zI x2), (3, zI x3), (4, zI (x4 + 1))]) [1, 2, 3, 4, 0] rfl ?_
        exact ih17 _ _ _ hf
      · refine r_aload_n (pc' := 38) (f4 := 0) (i := 0) C 0 rfl rfl dX12_sum_37 rfl ?_
        refine r_iload (pc' := 40) (i := 4) C 4 rfl dX12_sum_38 rfl ?_
        refine r_iload_n (pc' := 41) (f4 := 1) (i := 1) C 1 rfl rfl dX12_sum_40 rfl ?_
        refine r_iload_n (pc' := 42) (f4 := 2) (i := 2) C 2 rfl rfl dX12_sum_41 rfl ?_
        obtain ⟨q2, hq2, hf⟩ := bind_in hf
        refine q_callV (pc' := 45) C (t_m_holds hF hq2) rfl (K_193 hF) cl_12 wv_RX12_331 ⟨Nat.le_of_ble_eq_true rfl, Nat.le_of_ble_eq_true rfl⟩ rfl rfl (Nat.le_of_ble_eq_true rfl) dX12_sum_42 rfl ⟨Nat.le_of_ble_eq_true rfl, Nat.le_of_ble_eq_true rfl⟩ ?_
        refine r_if_ne (pc' := 48) (tgt := 51) C rfl hf dX12_sum_45 (by decide) rfl (fun hf => ?_) (fun hf => ?_)
        · refine r_goto (tgt := 82) C dX12_sum_48 (by decide) ?_
          refine r_iinc (pc' := 85) (i := 4) (L' := [(4, zI (x4 + 1)), (0, zP bs 193), (1, zI x1), (2, zI x2), (3, zI x3)]) C 4 rfl (by decide) rfl dX12_sum_82 rfl ?_
          refine r_goto (tgt := 17) C dX12_sum_85 (by decide) ?_
          refine V.sub (L' := [(0, zP bs 193), (1, zI x1), (2, zI x2), (3, zI x3), (4, zI (x4 + 1))]) [1, 2, 3, 4, 0] rfl ?_
          exact ih17 _ _ _ hf
        · refine r_iload_n (pc' := 52) (f4 := 3) (i := 3) C 3 rfl rfl dX12_sum_51 rfl ?_
          refine r_aload_n (pc' := 53) (f4 := 0) (i := 0) C 0 rfl rfl dX12_sum_52 rfl ?_
          refine q_getP (pc' := 56) (j := 16) C (K_193 hF) fb_12_16 (by decide) wd_1187 (Or.inl rfl) (F_193_16 hF) (by decide) dX12_sum_53 rfl ?_
          refine r_iload (pc' := 58) (i := 4) C 4 rfl dX12_sum_56 rfl ?_
          obtain ⟨hi, hf⟩ := ck_in hf
          refine r_iald (pc' := 59) C (K_202 hF) rfl hi dX12_sum_58 rfl ?_
          refine r_if_ne (pc' := 62) (tgt := 72) C rfl hf dX12_sum_59 (by decide) rfl (fun hf => ?_) (fun hf => ?_)
          · refine r_aload_n (pc' := 63) (f4 := 0) (i := 0) C 0 rfl rfl dX12_sum_62 rfl ?_
            refine q_getP (pc' := 66) (j := 17) C (K_193 hF) fb_12_17 (by decide) wd_1188 (Or.inl rfl) (F_193_17 hF) (by decide) dX12_sum_63 rfl ?_
            refine r_iload (pc' := 68) (i := 4) C 4 rfl dX12_sum_66 rfl ?_
            obtain ⟨hi, hf⟩ := ck_in hf
            refine r_iald (pc' := 69) C (K_203 hF) rfl hi dX12_sum_68 rfl ?_
            refine r_goto (tgt := 80) C dX12_sum_69 (by decide) ?_
            refine r_iadd (pc' := 81) C dX12_sum_80 rfl ?_
            refine r_istore_n (pc' := 82) (f4 := 3) (i := 3) (L' := [(3, zI (x3 + (q2.2 203 (ww x4)))), (0, zP bs 193), (1, zI x1), (2, zI x2), (4, zI x4)]) C rfl (by decide) rfl dX12_sum_81 rfl ?_
            refine r_iinc (pc' := 85) (i := 4) (L' := [(4, zI (x4 + 1)), (3, zI (x3 + (q2.2 203 (ww x4)))), (0, zP bs 193), (1, zI x1), (2, zI x2)]) C 4 rfl (by decide) rfl dX12_sum_82 rfl ?_
            refine r_goto (tgt := 17) C dX12_sum_85 (by decide) ?_
            refine V.sub (L' := [(0, zP bs 193), (1, zI x1), (2, zI x2), (3, zI (x3 + (q2.2 203 (ww x4)))), (4, zI (x4 + 1))]) [2, 3, 4, 1, 0] rfl ?_
            exact ih17 _ _ _ hf
          · refine r_aload_n (pc' := 73) (f4 := 0) (i := 0) C 0 rfl rfl dX12_sum_72 rfl ?_
            refine q_getP (pc' := 76) (j := 17) C (K_193 hF) fb_12_17 (by decide) wd_1188 (Or.inl rfl) (F_193_17 hF) (by decide) dX12_sum_73 rfl ?_
            refine r_iload (pc' := 78) (i := 4) C 4 rfl dX12_sum_76 rfl ?_
            obtain ⟨hi, hf⟩ := ck_in hf
            refine r_iald (pc' := 79) C (K_203 hF) rfl hi dX12_sum_78 rfl ?_
            refine r_ineg (pc' := 80) C dX12_sum_79 rfl ?_
            refine r_iadd (pc' := 81) C dX12_sum_80 rfl ?_
            refine r_istore_n (pc' := 82) (f4 := 3) (i := 3) (L' := [(3, zI (x3 + (-(q2.2 203 (ww x4))))), (0, zP bs 193), (1, zI x1), (2, zI x2), (4, zI x4)]) C rfl (by decide) rfl dX12_sum_81 rfl ?_
            refine r_iinc (pc' := 85) (i := 4) (L' := [(4, zI (x4 + 1)), (3, zI (x3 + (-(q2.2 203 (ww x4))))), (0, zP bs 193), (1, zI x1), (2, zI x2)]) C 4 rfl (by decide) rfl dX12_sum_82 rfl ?_
            refine r_goto (tgt := 17) C dX12_sum_85 (by decide) ?_
            refine V.sub (L' := [(0, zP bs 193), (1, zI x1), (2, zI x2), (3, zI (x3 + (-(q2.2 203 (ww x4))))), (4, zI (x4 + 1))]) [2, 3, 4, 1, 0] rfl ?_
            exact ih17 _ _ _ hf
    · refine r_iload_n (pc' := 89) (f4 := 3) (i := 3) C 3 rfl rfl dX12_sum_88 rfl ?_
      cases hf
      exact r_iret C dX12_sum_89
set_option maxHeartbeats 4000000 in
set_option maxRecDepth 100000 in
theorem t_m_sum {S : SS} (hF : Fx S) {h : HH} {a1 : Int} {a2 : Int} {res : Int × HH} (hf : m_sum h a1 a2 = some res) : CM yX12_sum cX12_sum 5 (some Jvm.ClassFile.FieldType.int) 2 51 0 0 (fun bs => [zP bs 193, zI a1, zI a2]) h S (fun _ => some (zI res.1)) res.2 S := by
  refine CM.intro (own := RX12) (by decide) rfl (fun _ => Nat.le_of_ble_eq_true rfl) ?_
  intro D dT bs p l e s m args below meth c C
  show V D dT bs 5 p l e rm_m_sum s m args below meth c 0 0 _ h S 0 [(0, zP bs 193), (1, zI a1), (2, zI a2)] []
  unfold m_sum at hf
  refine r_aload_n (pc' := 1) (f4 := 0) (i := 0) C 0 rfl rfl dX12_sum_0 rfl ?_
  refine q_getP (pc' := 4) (j := 5) C (K_193 hF) fb_12_5 (by decide) wd_1176 (Or.inl rfl) (F_193_5 hF) (by decide) dX12_sum_1 rfl ?_
  refine r_iconst (pc' := 5) C dX12_sum_4 rfl ?_
  refine r_iload_n (pc' := 6) (f4 := 1) (i := 1) C 1 rfl rfl dX12_sum_5 rfl ?_
  refine r_imul (pc' := 7) C dX12_sum_6 rfl ?_
  refine r_iload_n (pc' := 8) (f4 := 2) (i := 2) C 2 rfl rfl dX12_sum_7 rfl ?_
  refine r_iadd (pc' := 9) C dX12_sum_8 rfl ?_
  obtain ⟨hi, hf⟩ := ck_in hf
  refine r_iald (pc' := 10) C (K_196 hF) rfl hi dX12_sum_9 rfl ?_
  refine r_istore_n (pc' := 11) (f4 := 3) (i := 3) (L' := [(3, zI (h 196 (ww ((5 * a1) + a2)))), (0, zP bs 193), (1, zI a1), (2, zI a2)]) C rfl (by decide) rfl dX12_sum_10 rfl ?_
  refine r_aload_n (pc' := 12) (f4 := 0) (i := 0) C 1 rfl rfl dX12_sum_11 rfl ?_
  refine q_callV (pc' := 15) C (t_m_begin hF) rfl (K_193 hF) cl_12 wv_RX12_317 ⟨Nat.le_of_ble_eq_true rfl, Nat.le_of_ble_eq_true rfl⟩ rfl rfl (Nat.le_of_ble_eq_true rfl) dX12_sum_12 rfl ⟨Nat.le_of_ble_eq_true rfl, Nat.le_of_ble_eq_true rfl⟩ ?_
  refine r_istore (pc' := 17) (i := 4) (L' := [(4, zI (m_begin h)), (3, zI (h 196 (ww ((5 * a1) + a2)))), (0, zP bs 193), (1, zI a1), (2, zI a2)]) C (by decide) rfl dX12_sum_15 rfl ?_
  refine V.sub (L' := [(0, zP bs 193), (1, zI a1), (2, zI a2), (3, zI (h 196 (ww ((5 * a1) + a2)))), (4, zI (m_begin h))]) [2, 3, 4, 1, 0] rfl ?_
  refine w_m_sum_L17 hF C _ _ _ _ _ _ hf

/- WassailEnemiesModel.force(II)I -/
def m_force (h : HH) (a1 : Int) (a2 : Int) : Option (Int × HH) :=
  (m_sum h a1 a2).bind fun q1 => if ww (zrem a2 2) = 1 then (ck (ww a1) 6 <| ck (ww ((5 * a1) + a2)) 30 <| if ww (q1.2 196 (ww ((5 * a1) + a2))) < 50 then (ck (ww a1) 6 <| if ww (q1.2 194 (ww a1)) = 1 then (some (q1.1 + (q1.2 195 (ww a1)), q1.2)) else (if ww (q1.2 194 (ww a1)) = 2 then (some (q1.1, q1.2)) else (if ww (q1.2 194 (ww a1)) = 3 then (some (50 - q1.1, q1.2)) else (if ww (q1.2 194 (ww a1)) = 4 then (if ww (zrem (q1.2 193 2) 2) = 1 then (some (zdiv (q1.1 + (q1.2 195 (ww a1))) 2, q1.2)) else (some (q1.1 + (q1.2 195 (ww a1)), q1.2))) else (if ww (q1.2 194 (ww a1)) = 5 then (some (q1.1 - (zrem (q1.2 193 2) 10), q1.2)) else (if ww (q1.2 194 (ww a1)) = 6 then (ck (ww ((4 * a1) + (zrem (q1.2 193 2) 4))) 24 <| some ((50 - q1.1) + (q1.2 197 (ww ((4 * a1) + (zrem (q1.2 193 2) 4)))), q1.2)) else (some (q1.1, q1.2)))))))) else (ck (ww a1) 6 <| if ww (q1.2 194 (ww a1)) = 1 then (some (q1.1 + (q1.2 195 (ww a1)), q1.2)) else (if ww (q1.2 194 (ww a1)) = 2 then (some (2 * q1.1, q1.2)) else (if ww (q1.2 194 (ww a1)) = 3 then (some (50 - q1.1, q1.2)) else (if ww (q1.2 194 (ww a1)) = 4 then (if ww (zrem (q1.2 193 2) 2) = 1 then (some (zdiv (q1.1 + (q1.2 195 (ww a1))) 2, q1.2)) else (some (q1.1 + (q1.2 195 (ww a1)), q1.2))) else (if ww (q1.2 194 (ww a1)) = 5 then (some ((2 * q1.1) - (zrem (q1.2 193 2) 10), q1.2)) else (if ww (q1.2 194 (ww a1)) = 6 then (ck (ww ((4 * a1) + (zrem (q1.2 193 2) 4))) 24 <| some ((50 - q1.1) + (q1.2 197 (ww ((4 * a1) + (zrem (q1.2 193 2) 4)))), q1.2)) else (some (q1.1, q1.2))))))))) else (ck (ww ((5 * a1) + a2)) 30 <| if ww (q1.2 196 (ww ((5 * a1) + a2))) < 50 then (ck (ww a1) 6 <| if ww (q1.2 194 (ww a1)) = 1 then (some (q1.1, q1.2)) else (if ww (q1.2 194 (ww a1)) = 2 then (some (q1.1, q1.2)) else (if ww (q1.2 194 (ww a1)) = 3 then (some (50 - q1.1, q1.2)) else (if ww (q1.2 194 (ww a1)) = 4 then (if ww (zrem (q1.2 193 2) 2) = 1 then (some (zdiv q1.1 2, q1.2)) else (some (q1.1, q1.2))) else (if ww (q1.2 194 (ww a1)) = 5 then (some (q1.1 - (zrem (q1.2 193 2) 10), q1.2)) else (if ww (q1.2 194 (ww a1)) = 6 then (ck (ww ((4 * a1) + (zrem (q1.2 193 2) 4))) 24 <| some ((50 - q1.1) + (q1.2 197 (ww ((4 * a1) + (zrem (q1.2 193 2) 4)))), q1.2)) else (some (q1.1, q1.2)))))))) else (ck (ww a1) 6 <| if ww (q1.2 194 (ww a1)) = 1 then (some (q1.1, q1.2)) else (if ww (q1.2 194 (ww a1)) = 2 then (some (2 * q1.1, q1.2)) else (if ww (q1.2 194 (ww a1)) = 3 then (some (50 - q1.1, q1.2)) else (if ww (q1.2 194 (ww a1)) = 4 then (if ww (zrem (q1.2 193 2) 2) = 1 then (some (zdiv q1.1 2, q1.2)) else (some (q1.1, q1.2))) else (if ww (q1.2 194 (ww a1)) = 5 then (some ((2 * q1.1) - (zrem (q1.2 193 2) 10), q1.2)) else (if ww (q1.2 194 (ww a1)) = 6 then (ck (ww ((4 * a1) + (zrem (q1.2 193 2) 4))) 24 <| some ((50 - q1.1) + (q1.2 197 (ww ((4 * a1) + (zrem (q1.2 193 2) 4)))), q1.2)) else (some (q1.1, q1.2)))))))))
abbrev rm_m_force : Room := { frames := 3, cells := 0, slots := 0, locals := 75 }
set_option maxHeartbeats 4000000 in
set_option maxRecDepth 100000 in
theorem t_m_force {S : SS} (hF : Fx S) {h : HH} {a1 : Int} {a2 : Int} {res : Int × HH} (hf : m_force h a1 a2 = some res) : CM yX12_force cX12_force 6 (some Jvm.ClassFile.FieldType.int) 3 75 0 0 (fun bs => [zP bs 193, zI a1, zI a2]) h S (fun _ => some (zI res.1)) res.2 S := by
  refine CM.intro (own := RX12) (by decide) rfl (fun _ => Nat.le_of_ble_eq_true rfl) ?_
  intro D dT bs p l e s m args below meth c C
  show V D dT bs 6 p l e rm_m_force s m args below meth c 0 0 _ h S 0 [(0, zP bs 193), (1, zI a1), (2, zI a2)] []
  unfold m_force at hf
  refine r_aload_n (pc' := 1) (f4 := 0) (i := 0) C 0 rfl rfl dX12_force_0 rfl ?_
  refine r_iload_n (pc' := 2) (f4 := 1) (i := 1) C 1 rfl rfl dX12_force_1 rfl ?_
  refine r_iload_n (pc' := 3) (f4 := 2) (i := 2) C 2 rfl rfl dX12_force_2 rfl ?_
  obtain ⟨q1, hq1, hf⟩ := bind_in hf
  refine q_callV (pc' := 6) C (t_m_sum hF hq1) rfl (K_193 hF) cl_12 wv_RX12_334 ⟨Nat.le_of_ble_eq_true rfl, Nat.le_of_ble_eq_true rfl⟩ rfl rfl (Nat.le_of_ble_eq_true rfl) dX12_force_3 rfl ⟨Nat.le_of_ble_eq_true rfl, Nat.le_of_ble_eq_true rfl⟩ ?_
  refine r_istore_n (pc' := 7) (f4 := 3) (i := 3) (L' := [(3, zI q1.1), (0, zP bs 193), (1, zI a1), (2, zI a2)]) C rfl (by decide) rfl dX12_force_6 rfl ?_
  refine r_iload_n (pc' := 8) (f4 := 2) (i := 2) C 3 rfl rfl dX12_force_7 rfl ?_
  refine r_iconst (pc' := 9) C dX12_force_8 rfl ?_
  refine r_irem (pc' := 10) C ww_n2 (by decide) dX12_force_9 rfl ?_
  refine r_iconst (pc' := 11) C dX12_force_10 rfl ?_
  refine r_icmp_ne (pc' := 14) (tgt := 25) C rfl ww_n1 hf dX12_force_11 (by decide) rfl (fun hf => ?_) (fun hf => ?_)
  · refine r_iload_n (pc' := 15) (f4 := 3) (i := 3) C 0 rfl rfl dX12_force_14 rfl ?_
    refine r_aload_n (pc' := 16) (f4 := 0) (i := 0) C 1 rfl rfl dX12_force_15 rfl ?_
    refine q_getP (pc' := 19) (j := 4) C (K_193 hF) fb_12_4 (by decide) wd_1175 (Or.inl rfl) (F_193_4 hF) (by decide) dX12_force_16 rfl ?_
    refine r_iload_n (pc' := 20) (f4 := 1) (i := 1) C 2 rfl rfl dX12_force_19 rfl ?_
    obtain ⟨hi, hf⟩ := ck_in hf
    refine r_iald (pc' := 21) C (K_195 hF) rfl hi dX12_force_20 rfl ?_
    refine r_iadd (pc' := 22) C dX12_force_21 rfl ?_
    refine r_goto (tgt := 26) C dX12_force_22 (by decide) ?_
    refine r_istore (pc' := 28) (i := 4) (L' := [(4, zI (q1.1 + (q1.2 195 (ww a1)))), (3, zI q1.1), (0, zP bs 193), (1, zI a1), (2, zI a2)]) C (by decide) rfl dX12_force_26 rfl ?_
    refine r_aload_n (pc' := 29) (f4 := 0) (i := 0) C 2 rfl rfl dX12_force_28 rfl ?_
    refine q_getP (pc' := 32) (j := 5) C (K_193 hF) fb_12_5 (by decide) wd_1176 (Or.inl rfl) (F_193_5 hF) (by decide) dX12_force_29 rfl ?_
    refine r_iconst (pc' := 33) C dX12_force_32 rfl ?_
    refine r_iload_n (pc' := 34) (f4 := 1) (i := 1) C 3 rfl rfl dX12_force_33 rfl ?_
    refine r_imul (pc' := 35) C dX12_force_34 rfl ?_
    refine r_iload_n (pc' := 36) (f4 := 2) (i := 2) C 4 rfl rfl dX12_force_35 rfl ?_
    refine r_iadd (pc' := 37) C dX12_force_36 rfl ?_
    obtain ⟨hi, hf⟩ := ck_in hf
    refine r_iald (pc' := 38) C (K_196 hF) rfl hi dX12_force_37 rfl ?_
    refine r_bipush (pc' := 40) C rfl dX12_force_38 rfl ?_
    refine r_icmp_lt (pc' := 43) (tgt := 49) C rfl ww_n50 hf dX12_force_40 (by decide) rfl (fun hf => ?_) (fun hf => ?_)
    · refine r_iload_n (pc' := 50) (f4 := 3) (i := 3) C 1 rfl rfl dX12_force_49 rfl ?_
      refine r_istore (pc' := 52) (i := 5) (L' := [(5, zI q1.1), (4, zI (q1.1 + (q1.2 195 (ww a1)))), (3, zI q1.1), (0, zP bs 193), (1, zI a1), (2, zI a2)]) C (by decide) rfl dX12_force_50 rfl ?_
      refine r_aload_n (pc' := 53) (f4 := 0) (i := 0) C 3 rfl rfl dX12_force_52 rfl ?_
      refine q_getP (pc' := 56) (j := 3) C (K_193 hF) fb_12_3 (by decide) wd_1174 (Or.inl rfl) (F_193_3 hF) (by decide) dX12_force_53 rfl ?_
      refine r_iload_n (pc' := 57) (f4 := 1) (i := 1) C 4 rfl rfl dX12_force_56 rfl ?_
      obtain ⟨hi, hf⟩ := ck_in hf
      refine r_iald (pc' := 58) C (K_194 hF) rfl hi dX12_force_57 rfl ?_
      by_cases cs0 : ww (q1.2 194 (ww a1)) = 1
      · rw [if_pos cs0] at hf
        refine r_tsIn (tgt := 96) C 1 cs0 dX12_force_58 (by decide) (by decide) rfl (by decide) ?_
        refine r_iload (pc' := 98) (i := 4) C 1 rfl dX12_force_96 rfl ?_
        cases hf
        exact r_iret C dX12_force_98
      · rw [if_neg cs0] at hf
        by_cases cs1 : ww (q1.2 194 (ww a1)) = 2
        · rw [if_pos cs1] at hf
          refine r_tsIn (tgt := 99) C 2 cs1 dX12_force_58 (by decide) (by decide) rfl (by decide) ?_
          refine r_iload (pc' := 101) (i := 5) C 0 rfl dX12_force_99 rfl ?_
          cases hf
          exact r_iret C dX12_force_101
        · rw [if_neg cs1] at hf
          by_cases cs2 : ww (q1.2 194 (ww a1)) = 3
          · rw [if_pos cs2] at hf
            refine r_tsIn (tgt := 102) C 3 cs2 dX12_force_58 (by decide) (by decide) rfl (by decide) ?_
            refine r_bipush (pc' := 104) C rfl dX12_force_102 rfl ?_
            refine r_iload_n (pc' := 105) (f4 := 3) (i := 3) C 2 rfl rfl dX12_force_104 rfl ?_
            refine r_isub (pc' := 106) C dX12_force_105 rfl ?_
            cases hf
            exact r_iret C dX12_force_106
          · rw [if_neg cs2] at hf
            by_cases cs3 : ww (q1.2 194 (ww a1)) = 4
            · rw [if_pos cs3] at hf
              refine r_tsIn (tgt := 107) C 4 cs3 dX12_force_58 (by decide) (by decide) rfl (by decide) ?_
              refine r_aload_n (pc' := 108) (f4 := 0) (i := 0) C 3 rfl rfl dX12_force_107 rfl ?_
              refine q_getI (pc' := 111) (j := 2) C (K_193 hF) fb_12_2 wd_1173 (Or.inl rfl) dX12_force_108 rfl ?_
              refine r_iconst (pc' := 112) C dX12_force_111 rfl ?_
              refine r_irem (pc' := 113) C ww_n2 (by decide) dX12_force_112 rfl ?_
              refine r_iconst (pc' := 114) C dX12_force_113 rfl ?_
              refine r_icmp_ne (pc' := 117) (tgt := 124) C rfl ww_n1 hf dX12_force_114 (by decide) rfl (fun hf => ?_) (fun hf => ?_)
              · refine r_iload (pc' := 119) (i := 4) C 1 rfl dX12_force_117 rfl ?_
                refine r_iconst (pc' := 120) C dX12_force_119 rfl ?_
                refine r_idiv (pc' := 121) C ww_n2 (by decide) dX12_force_120 rfl ?_
                refine r_goto (tgt := 126) C dX12_force_121 (by decide) ?_
                cases hf
                exact r_iret C dX12_force_126
              · refine r_iload (pc' := 126) (i := 4) C 1 rfl dX12_force_124 rfl ?_
                cases hf
                exact r_iret C dX12_force_126
            · rw [if_neg cs3] at hf
              by_cases cs4 : ww (q1.2 194 (ww a1)) = 5
              · rw [if_pos cs4] at hf
                refine r_tsIn (tgt := 127) C 5 cs4 dX12_force_58 (by decide) (by decide) rfl (by decide) ?_
                refine r_iload (pc' := 129) (i := 5) C 0 rfl dX12_force_127 rfl ?_
                refine r_aload_n (pc' := 130) (f4 := 0) (i := 0) C 3 rfl rfl dX12_force_129 rfl ?_
                refine q_getI (pc' := 133) (j := 2) C (K_193 hF) fb_12_2 wd_1173 (Or.inl rfl) dX12_force_130 rfl ?_
                refine r_bipush (pc' := 135) C rfl dX12_force_133 rfl ?_
                refine r_irem (pc' := 136) C ww_n10 (by decide) dX12_force_135 rfl ?_
                refine r_isub (pc' := 137) C dX12_force_136 rfl ?_
                cases hf
                exact r_iret C dX12_force_137
              · rw [if_neg cs4] at hf
                by_cases cs5 : ww (q1.2 194 (ww a1)) = 6
                · rw [if_pos cs5] at hf
                  refine r_tsIn (tgt := 138) C 6 cs5 dX12_force_58 (by decide) (by decide) rfl (by decide) ?_
                  refine r_bipush (pc' := 140) C rfl dX12_force_138 rfl ?_
                  refine r_iload_n (pc' := 141) (f4 := 3) (i := 3) C 2 rfl rfl dX12_force_140 rfl ?_
                  refine r_isub (pc' := 142) C dX12_force_141 rfl ?_
                  refine r_aload_n (pc' := 143) (f4 := 0) (i := 0) C 3 rfl rfl dX12_force_142 rfl ?_
                  refine q_getP (pc' := 146) (j := 6) C (K_193 hF) fb_12_6 (by decide) wd_1177 (Or.inl rfl) (F_193_6 hF) (by decide) dX12_force_143 rfl ?_
                  refine r_iconst (pc' := 147) C dX12_force_146 rfl ?_
                  refine r_iload_n (pc' := 148) (f4 := 1) (i := 1) C 4 rfl rfl dX12_force_147 rfl ?_
                  refine r_imul (pc' := 149) C dX12_force_148 rfl ?_
                  refine r_aload_n (pc' := 150) (f4 := 0) (i := 0) C 3 rfl rfl dX12_force_149 rfl ?_
                  refine q_getI (pc' := 153) (j := 2) C (K_193 hF) fb_12_2 wd_1173 (Or.inl rfl) dX12_force_150 rfl ?_
                  refine r_iconst (pc' := 154) C dX12_force_153 rfl ?_
                  refine r_irem (pc' := 155) C ww_n4 (by decide) dX12_force_154 rfl ?_
                  refine r_iadd (pc' := 156) C dX12_force_155 rfl ?_
                  obtain ⟨hi, hf⟩ := ck_in hf
                  refine r_iald (pc' := 157) C (K_197 hF) rfl hi dX12_force_156 rfl ?_
                  refine r_iadd (pc' := 158) C dX12_force_157 rfl ?_
                  cases hf
                  exact r_iret C dX12_force_158
                · rw [if_neg cs5] at hf
                  refine r_tsOut (tgt := 159) C dX12_force_58 (by omega) (by decide) ?_
                  refine r_iload_n (pc' := 160) (f4 := 3) (i := 3) C 2 rfl rfl dX12_force_159 rfl ?_
                  cases hf
                  exact r_iret C dX12_force_160
    · refine r_iconst (pc' := 44) C dX12_force_43 rfl ?_
      refine r_iload_n (pc' := 45) (f4 := 3) (i := 3) C 1 rfl rfl dX12_force_44 rfl ?_
      refine r_imul (pc' := 46) C dX12_force_45 rfl ?_
      refine r_goto (tgt := 50) C dX12_force_46 (by decide) ?_
      refine r_istore (pc' := 52) (i := 5) (L' := [(5, zI (2 * q1.1)), (4, zI (q1.1 + (q1.2 195 (ww a1)))), (3, zI q1.1), (0, zP bs 193), (1, zI a1), (2, zI a2)]) C (by decide) rfl dX12_force_50 rfl ?_
      refine r_aload_n (pc' := 53) (f4 := 0) (i := 0) C 3 rfl rfl dX12_force_52 rfl ?_
      refine q_getP (pc' := 56) (j := 3) C (K_193 hF) fb_12_3 (by decide) wd_1174 (Or.inl rfl) (F_193_3 hF) (by decide) dX12_force_53 rfl ?_
      refine r_iload_n (pc' := 57) (f4 := 1) (i := 1) C 4 rfl rfl dX12_force_56 rfl ?_
      obtain ⟨hi, hf⟩ := ck_in hf
      refine r_iald (pc' := 58) C (K_194 hF) rfl hi dX12_force_57 rfl ?_
      by_cases cs0 : ww (q1.2 194 (ww a1)) = 1
      · rw [if_pos cs0] at hf
        refine r_tsIn (tgt := 96) C 1 cs0 dX12_force_58 (by decide) (by decide) rfl (by decide) ?_
        refine r_iload (pc' := 98) (i := 4) C 1 rfl dX12_force_96 rfl ?_
        cases hf
        exact r_iret C dX12_force_98
      · rw [if_neg cs0] at hf
        by_cases cs1 : ww (q1.2 194 (ww a1)) = 2
        · rw [if_pos cs1] at hf
          refine r_tsIn (tgt := 99) C 2 cs1 dX12_force_58 (by decide) (by decide) rfl (by decide) ?_
          refine r_iload (pc' := 101) (i := 5) C 0 rfl dX12_force_99 rfl ?_
          cases hf
          exact r_iret C dX12_force_101
        · rw [if_neg cs1] at hf
          by_cases cs2 : ww (q1.2 194 (ww a1)) = 3
          · rw [if_pos cs2] at hf
            refine r_tsIn (tgt := 102) C 3 cs2 dX12_force_58 (by decide) (by decide) rfl (by decide) ?_
            refine r_bipush (pc' := 104) C rfl dX12_force_102 rfl ?_
            refine r_iload_n (pc' := 105) (f4 := 3) (i := 3) C 2 rfl rfl dX12_force_104 rfl ?_
            refine r_isub (pc' := 106) C dX12_force_105 rfl ?_
            cases hf
            exact r_iret C dX12_force_106
          · rw [if_neg cs2] at hf
            by_cases cs3 : ww (q1.2 194 (ww a1)) = 4
            · rw [if_pos cs3] at hf
              refine r_tsIn (tgt := 107) C 4 cs3 dX12_force_58 (by decide) (by decide) rfl (by decide) ?_
              refine r_aload_n (pc' := 108) (f4 := 0) (i := 0) C 3 rfl rfl dX12_force_107 rfl ?_
              refine q_getI (pc' := 111) (j := 2) C (K_193 hF) fb_12_2 wd_1173 (Or.inl rfl) dX12_force_108 rfl ?_
              refine r_iconst (pc' := 112) C dX12_force_111 rfl ?_
              refine r_irem (pc' := 113) C ww_n2 (by decide) dX12_force_112 rfl ?_
              refine r_iconst (pc' := 114) C dX12_force_113 rfl ?_
              refine r_icmp_ne (pc' := 117) (tgt := 124) C rfl ww_n1 hf dX12_force_114 (by decide) rfl (fun hf => ?_) (fun hf => ?_)
              · refine r_iload (pc' := 119) (i := 4) C 1 rfl dX12_force_117 rfl ?_
                refine r_iconst (pc' := 120) C dX12_force_119 rfl ?_
                refine r_idiv (pc' := 121) C ww_n2 (by decide) dX12_force_120 rfl ?_
                refine r_goto (tgt := 126) C dX12_force_121 (by decide) ?_
                cases hf
                exact r_iret C dX12_force_126
              · refine r_iload (pc' := 126) (i := 4) C 1 rfl dX12_force_124 rfl ?_
                cases hf
                exact r_iret C dX12_force_126
            · rw [if_neg cs3] at hf
              by_cases cs4 : ww (q1.2 194 (ww a1)) = 5
              · rw [if_pos cs4] at hf
                refine r_tsIn (tgt := 127) C 5 cs4 dX12_force_58 (by decide) (by decide) rfl (by decide) ?_
                refine r_iload (pc' := 129) (i := 5) C 0 rfl dX12_force_127 rfl ?_
                refine r_aload_n (pc' := 130) (f4 := 0) (i := 0) C 3 rfl rfl dX12_force_129 rfl ?_
                refine q_getI (pc' := 133) (j := 2) C (K_193 hF) fb_12_2 wd_1173 (Or.inl rfl) dX12_force_130 rfl ?_
                refine r_bipush (pc' := 135) C rfl dX12_force_133 rfl ?_
                refine r_irem (pc' := 136) C ww_n10 (by decide) dX12_force_135 rfl ?_
                refine r_isub (pc' := 137) C dX12_force_136 rfl ?_
                cases hf
                exact r_iret C dX12_force_137
              · rw [if_neg cs4] at hf
                by_cases cs5 : ww (q1.2 194 (ww a1)) = 6
                · rw [if_pos cs5] at hf
                  refine r_tsIn (tgt := 138) C 6 cs5 dX12_force_58 (by decide) (by decide) rfl (by decide) ?_
                  refine r_bipush (pc' := 140) C rfl dX12_force_138 rfl ?_
                  refine r_iload_n (pc' := 141) (f4 := 3) (i := 3) C 2 rfl rfl dX12_force_140 rfl ?_
                  refine r_isub (pc' := 142) C dX12_force_141 rfl ?_
                  refine r_aload_n (pc' := 143) (f4 := 0) (i := 0) C 3 rfl rfl dX12_force_142 rfl ?_
                  refine q_getP (pc' := 146) (j := 6) C (K_193 hF) fb_12_6 (by decide) wd_1177 (Or.inl rfl) (F_193_6 hF) (by decide) dX12_force_143 rfl ?_
                  refine r_iconst (pc' := 147) C dX12_force_146 rfl ?_
                  refine r_iload_n (pc' := 148) (f4 := 1) (i := 1) C 4 rfl rfl dX12_force_147 rfl ?_
                  refine r_imul (pc' := 149) C dX12_force_148 rfl ?_
                  refine r_aload_n (pc' := 150) (f4 := 0) (i := 0) C 3 rfl rfl dX12_force_149 rfl ?_
                  refine q_getI (pc' := 153) (j := 2) C (K_193 hF) fb_12_2 wd_1173 (Or.inl rfl) dX12_force_150 rfl ?_
                  refine r_iconst (pc' := 154) C dX12_force_153 rfl ?_
                  refine r_irem (pc' := 155) C ww_n4 (by decide) dX12_force_154 rfl ?_
                  refine r_iadd (pc' := 156) C dX12_force_155 rfl ?_
                  obtain ⟨hi, hf⟩ := ck_in hf
                  refine r_iald (pc' := 157) C (K_197 hF) rfl hi dX12_force_156 rfl ?_
                  refine r_iadd (pc' := 158) C dX12_force_157 rfl ?_
                  cases hf
                  exact r_iret C dX12_force_158
                · rw [if_neg cs5] at hf
                  refine r_tsOut (tgt := 159) C dX12_force_58 (by omega) (by decide) ?_
                  refine r_iload_n (pc' := 160) (f4 := 3) (i := 3) C 2 rfl rfl dX12_force_159 rfl ?_
                  cases hf
                  exact r_iret C dX12_force_160
  · refine r_iload_n (pc' := 26) (f4 := 3) (i := 3) C 0 rfl rfl dX12_force_25 rfl ?_
    refine r_istore (pc' := 28) (i := 4) (L' := [(4, zI q1.1), (3, zI q1.1), (0, zP bs 193), (1, zI a1), (2, zI a2)]) C (by decide) rfl dX12_force_26 rfl ?_
    refine r_aload_n (pc' := 29) (f4 := 0) (i := 0) C 2 rfl rfl dX12_force_28 rfl ?_
    refine q_getP (pc' := 32) (j := 5) C (K_193 hF) fb_12_5 (by decide) wd_1176 (Or.inl rfl) (F_193_5 hF) (by decide) dX12_force_29 rfl ?_
    refine r_iconst (pc' := 33) C dX12_force_32 rfl ?_
    refine r_iload_n (pc' := 34) (f4 := 1) (i := 1) C 3 rfl rfl dX12_force_33 rfl ?_
    refine r_imul (pc' := 35) C dX12_force_34 rfl ?_
    refine r_iload_n (pc' := 36) (f4 := 2) (i := 2) C 4 rfl rfl dX12_force_35 rfl ?_
    refine r_iadd (pc' := 37) C dX12_force_36 rfl ?_
    obtain ⟨hi, hf⟩ := ck_in hf
    refine r_iald (pc' := 38) C (K_196 hF) rfl hi dX12_force_37 rfl ?_
    refine r_bipush (pc' := 40) C rfl dX12_force_38 rfl ?_
    refine r_icmp_lt (pc' := 43) (tgt := 49) C rfl ww_n50 hf dX12_force_40 (by decide) rfl (fun hf => ?_) (fun hf => ?_)
    · refine r_iload_n (pc' := 50) (f4 := 3) (i := 3) C 1 rfl rfl dX12_force_49 rfl ?_
      refine r_istore (pc' := 52) (i := 5) (L' := [(5, zI q1.1), (4, zI q1.1), (3, zI q1.1), (0, zP bs 193), (1, zI a1), (2, zI a2)]) C (by decide) rfl dX12_force_50 rfl ?_
      refine r_aload_n (pc' := 53) (f4 := 0) (i := 0) C 3 rfl rfl dX12_force_52 rfl ?_
      refine q_getP (pc' := 56) (j := 3) C (K_193 hF) fb_12_3 (by decide) wd_1174 (Or.inl rfl) (F_193_3 hF) (by decide) dX12_force_53 rfl ?_
      refine r_iload_n (pc' := 57) (f4 := 1) (i := 1) C 4 rfl rfl dX12_force_56 rfl ?_
      obtain ⟨hi, hf⟩ := ck_in hf
      refine r_iald (pc' := 58) C (K_194 hF) rfl hi dX12_force_57 rfl ?_
      by_cases cs0 : ww (q1.2 194 (ww a1)) = 1
      · rw [if_pos cs0] at hf
        refine r_tsIn (tgt := 96) C 1 cs0 dX12_force_58 (by decide) (by decide) rfl (by decide) ?_
        refine r_iload (pc' := 98) (i := 4) C 1 rfl dX12_force_96 rfl ?_
        cases hf
        exact r_iret C dX12_force_98
      · rw [if_neg cs0] at hf
        by_cases cs1 : ww (q1.2 194 (ww a1)) = 2
        · rw [if_pos cs1] at hf
          refine r_tsIn (tgt := 99) C 2 cs1 dX12_force_58 (by decide) (by decide) rfl (by decide) ?_
          refine r_iload (pc' := 101) (i := 5) C 0 rfl dX12_force_99 rfl ?_
          cases hf
          exact r_iret C dX12_force_101
        · rw [if_neg cs1] at hf
          by_cases cs2 : ww (q1.2 194 (ww a1)) = 3
          · rw [if_pos cs2] at hf
            refine r_tsIn (tgt := 102) C 3 cs2 dX12_force_58 (by decide) (by decide) rfl (by decide) ?_
            refine r_bipush (pc' := 104) C rfl dX12_force_102 rfl ?_
            refine r_iload_n (pc' := 105) (f4 := 3) (i := 3) C 2 rfl rfl dX12_force_104 rfl ?_
            refine r_isub (pc' := 106) C dX12_force_105 rfl ?_
            cases hf
            exact r_iret C dX12_force_106
          · rw [if_neg cs2] at hf
            by_cases cs3 : ww (q1.2 194 (ww a1)) = 4
            · rw [if_pos cs3] at hf
              refine r_tsIn (tgt := 107) C 4 cs3 dX12_force_58 (by decide) (by decide) rfl (by decide) ?_
              refine r_aload_n (pc' := 108) (f4 := 0) (i := 0) C 3 rfl rfl dX12_force_107 rfl ?_
              refine q_getI (pc' := 111) (j := 2) C (K_193 hF) fb_12_2 wd_1173 (Or.inl rfl) dX12_force_108 rfl ?_
              refine r_iconst (pc' := 112) C dX12_force_111 rfl ?_
              refine r_irem (pc' := 113) C ww_n2 (by decide) dX12_force_112 rfl ?_
              refine r_iconst (pc' := 114) C dX12_force_113 rfl ?_
              refine r_icmp_ne (pc' := 117) (tgt := 124) C rfl ww_n1 hf dX12_force_114 (by decide) rfl (fun hf => ?_) (fun hf => ?_)
              · refine r_iload (pc' := 119) (i := 4) C 1 rfl dX12_force_117 rfl ?_
                refine r_iconst (pc' := 120) C dX12_force_119 rfl ?_
                refine r_idiv (pc' := 121) C ww_n2 (by decide) dX12_force_120 rfl ?_
                refine r_goto (tgt := 126) C dX12_force_121 (by decide) ?_
                cases hf
                exact r_iret C dX12_force_126
              · refine r_iload (pc' := 126) (i := 4) C 1 rfl dX12_force_124 rfl ?_
                cases hf
                exact r_iret C dX12_force_126
            · rw [if_neg cs3] at hf
              by_cases cs4 : ww (q1.2 194 (ww a1)) = 5
              · rw [if_pos cs4] at hf
                refine r_tsIn (tgt := 127) C 5 cs4 dX12_force_58 (by decide) (by decide) rfl (by decide) ?_
                refine r_iload (pc' := 129) (i := 5) C 0 rfl dX12_force_127 rfl ?_
                refine r_aload_n (pc' := 130) (f4 := 0) (i := 0) C 3 rfl rfl dX12_force_129 rfl ?_
                refine q_getI (pc' := 133) (j := 2) C (K_193 hF) fb_12_2 wd_1173 (Or.inl rfl) dX12_force_130 rfl ?_
                refine r_bipush (pc' := 135) C rfl dX12_force_133 rfl ?_
                refine r_irem (pc' := 136) C ww_n10 (by decide) dX12_force_135 rfl ?_
                refine r_isub (pc' := 137) C dX12_force_136 rfl ?_
                cases hf
                exact r_iret C dX12_force_137
              · rw [if_neg cs4] at hf
                by_cases cs5 : ww (q1.2 194 (ww a1)) = 6
                · rw [if_pos cs5] at hf
                  refine r_tsIn (tgt := 138) C 6 cs5 dX12_force_58 (by decide) (by decide) rfl (by decide) ?_
                  refine r_bipush (pc' := 140) C rfl dX12_force_138 rfl ?_
                  refine r_iload_n (pc' := 141) (f4 := 3) (i := 3) C 2 rfl rfl dX12_force_140 rfl ?_
                  refine r_isub (pc' := 142) C dX12_force_141 rfl ?_
                  refine r_aload_n (pc' := 143) (f4 := 0) (i := 0) C 3 rfl rfl dX12_force_142 rfl ?_
                  refine q_getP (pc' := 146) (j := 6) C (K_193 hF) fb_12_6 (by decide) wd_1177 (Or.inl rfl) (F_193_6 hF) (by decide) dX12_force_143 rfl ?_
                  refine r_iconst (pc' := 147) C dX12_force_146 rfl ?_
                  refine r_iload_n (pc' := 148) (f4 := 1) (i := 1) C 4 rfl rfl dX12_force_147 rfl ?_
                  refine r_imul (pc' := 149) C dX12_force_148 rfl ?_
                  refine r_aload_n (pc' := 150) (f4 := 0) (i := 0) C 3 rfl rfl dX12_force_149 rfl ?_
                  refine q_getI (pc' := 153) (j := 2) C (K_193 hF) fb_12_2 wd_1173 (Or.inl rfl) dX12_force_150 rfl ?_
                  refine r_iconst (pc' := 154) C dX12_force_153 rfl ?_
                  refine r_irem (pc' := 155) C ww_n4 (by decide) dX12_force_154 rfl ?_
                  refine r_iadd (pc' := 156) C dX12_force_155 rfl ?_
                  obtain ⟨hi, hf⟩ := ck_in hf
                  refine r_iald (pc' := 157) C (K_197 hF) rfl hi dX12_force_156 rfl ?_
                  refine r_iadd (pc' := 158) C dX12_force_157 rfl ?_
                  cases hf
                  exact r_iret C dX12_force_158
                · rw [if_neg cs5] at hf
                  refine r_tsOut (tgt := 159) C dX12_force_58 (by omega) (by decide) ?_
                  refine r_iload_n (pc' := 160) (f4 := 3) (i := 3) C 2 rfl rfl dX12_force_159 rfl ?_
                  cases hf
                  exact r_iret C dX12_force_160
    · refine r_iconst (pc' := 44) C dX12_force_43 rfl ?_
      refine r_iload_n (pc' := 45) (f4 := 3) (i := 3) C 1 rfl rfl dX12_force_44 rfl ?_
      refine r_imul (pc' := 46) C dX12_force_45 rfl ?_
      refine r_goto (tgt := 50) C dX12_force_46 (by decide) ?_
      refine r_istore (pc' := 52) (i := 5) (L' := [(5, zI (2 * q1.1)), (4, zI q1.1), (3, zI q1.1), (0, zP bs 193), (1, zI a1), (2, zI a2)]) C (by decide) rfl dX12_force_50 rfl ?_
      refine r_aload_n (pc' := 53) (f4 := 0) (i := 0) C 3 rfl rfl dX12_force_52 rfl ?_
      refine q_getP (pc' := 56) (j := 3) C (K_193 hF) fb_12_3 (by decide) wd_1174 (Or.inl rfl) (F_193_3 hF) (by decide) dX12_force_53 rfl ?_
      refine r_iload_n (pc' := 57) (f4 := 1) (i := 1) C 4 rfl rfl dX12_force_56 rfl ?_
      obtain ⟨hi, hf⟩ := ck_in hf
      refine r_iald (pc' := 58) C (K_194 hF) rfl hi dX12_force_57 rfl ?_
      by_cases cs0 : ww (q1.2 194 (ww a1)) = 1
      · rw [if_pos cs0] at hf
        refine r_tsIn (tgt := 96) C 1 cs0 dX12_force_58 (by decide) (by decide) rfl (by decide) ?_
        refine r_iload (pc' := 98) (i := 4) C 1 rfl dX12_force_96 rfl ?_
        cases hf
        exact r_iret C dX12_force_98
      · rw [if_neg cs0] at hf
        by_cases cs1 : ww (q1.2 194 (ww a1)) = 2
        · rw [if_pos cs1] at hf
          refine r_tsIn (tgt := 99) C 2 cs1 dX12_force_58 (by decide) (by decide) rfl (by decide) ?_
          refine r_iload (pc' := 101) (i := 5) C 0 rfl dX12_force_99 rfl ?_
          cases hf
          exact r_iret C dX12_force_101
        · rw [if_neg cs1] at hf
          by_cases cs2 : ww (q1.2 194 (ww a1)) = 3
          · rw [if_pos cs2] at hf
            refine r_tsIn (tgt := 102) C 3 cs2 dX12_force_58 (by decide) (by decide) rfl (by decide) ?_
            refine r_bipush (pc' := 104) C rfl dX12_force_102 rfl ?_
            refine r_iload_n (pc' := 105) (f4 := 3) (i := 3) C 2 rfl rfl dX12_force_104 rfl ?_
            refine r_isub (pc' := 106) C dX12_force_105 rfl ?_
            cases hf
            exact r_iret C dX12_force_106
          · rw [if_neg cs2] at hf
            by_cases cs3 : ww (q1.2 194 (ww a1)) = 4
            · rw [if_pos cs3] at hf
              refine r_tsIn (tgt := 107) C 4 cs3 dX12_force_58 (by decide) (by decide) rfl (by decide) ?_
              refine r_aload_n (pc' := 108) (f4 := 0) (i := 0) C 3 rfl rfl dX12_force_107 rfl ?_
              refine q_getI (pc' := 111) (j := 2) C (K_193 hF) fb_12_2 wd_1173 (Or.inl rfl) dX12_force_108 rfl ?_
              refine r_iconst (pc' := 112) C dX12_force_111 rfl ?_
              refine r_irem (pc' := 113) C ww_n2 (by decide) dX12_force_112 rfl ?_
              refine r_iconst (pc' := 114) C dX12_force_113 rfl ?_
              refine r_icmp_ne (pc' := 117) (tgt := 124) C rfl ww_n1 hf dX12_force_114 (by decide) rfl (fun hf => ?_) (fun hf => ?_)
              · refine r_iload (pc' := 119) (i := 4) C 1 rfl dX12_force_117 rfl ?_
                refine r_iconst (pc' := 120) C dX12_force_119 rfl ?_
                refine r_idiv (pc' := 121) C ww_n2 (by decide) dX12_force_120 rfl ?_
                refine r_goto (tgt := 126) C dX12_force_121 (by decide) ?_
                cases hf
                exact r_iret C dX12_force_126
              · refine r_iload (pc' := 126) (i := 4) C 1 rfl dX12_force_124 rfl ?_
                cases hf
                exact r_iret C dX12_force_126
            · rw [if_neg cs3] at hf
              by_cases cs4 : ww (q1.2 194 (ww a1)) = 5
              · rw [if_pos cs4] at hf
                refine r_tsIn (tgt := 127) C 5 cs4 dX12_force_58 (by decide) (by decide) rfl (by decide) ?_
                refine r_iload (pc' := 129) (i := 5) C 0 rfl dX12_force_127 rfl ?_
                refine r_aload_n (pc' := 130) (f4 := 0) (i := 0) C 3 rfl rfl dX12_force_129 rfl ?_
                refine q_getI (pc' := 133) (j := 2) C (K_193 hF) fb_12_2 wd_1173 (Or.inl rfl) dX12_force_130 rfl ?_
                refine r_bipush (pc' := 135) C rfl dX12_force_133 rfl ?_
                refine r_irem (pc' := 136) C ww_n10 (by decide) dX12_force_135 rfl ?_
                refine r_isub (pc' := 137) C dX12_force_136 rfl ?_
                cases hf
                exact r_iret C dX12_force_137
              · rw [if_neg cs4] at hf
                by_cases cs5 : ww (q1.2 194 (ww a1)) = 6
                · rw [if_pos cs5] at hf
                  refine r_tsIn (tgt := 138) C 6 cs5 dX12_force_58 (by decide) (by decide) rfl (by decide) ?_
                  refine r_bipush (pc' := 140) C rfl dX12_force_138 rfl ?_
                  refine r_iload_n (pc' := 141) (f4 := 3) (i := 3) C 2 rfl rfl dX12_force_140 rfl ?_
                  refine r_isub (pc' := 142) C dX12_force_141 rfl ?_
                  refine r_aload_n (pc' := 143) (f4 := 0) (i := 0) C 3 rfl rfl dX12_force_142 rfl ?_
                  refine q_getP (pc' := 146) (j := 6) C (K_193 hF) fb_12_6 (by decide) wd_1177 (Or.inl rfl) (F_193_6 hF) (by decide) dX12_force_143 rfl ?_
                  refine r_iconst (pc' := 147) C dX12_force_146 rfl ?_
                  refine r_iload_n (pc' := 148) (f4 := 1) (i := 1) C 4 rfl rfl dX12_force_147 rfl ?_
                  refine r_imul (pc' := 149) C dX12_force_148 rfl ?_
                  refine r_aload_n (pc' := 150) (f4 := 0) (i := 0) C 3 rfl rfl dX12_force_149 rfl ?_
                  refine q_getI (pc' := 153) (j := 2) C (K_193 hF) fb_12_2 wd_1173 (Or.inl rfl) dX12_force_150 rfl ?_
                  refine r_iconst (pc' := 154) C dX12_force_153 rfl ?_
                  refine r_irem (pc' := 155) C ww_n4 (by decide) dX12_force_154 rfl ?_
                  refine r_iadd (pc' := 156) C dX12_force_155 rfl ?_
                  obtain ⟨hi, hf⟩ := ck_in hf
                  refine r_iald (pc' := 157) C (K_197 hF) rfl hi dX12_force_156 rfl ?_
                  refine r_iadd (pc' := 158) C dX12_force_157 rfl ?_
                  cases hf
                  exact r_iret C dX12_force_158
                · rw [if_neg cs5] at hf
                  refine r_tsOut (tgt := 159) C dX12_force_58 (by omega) (by decide) ?_
                  refine r_iload_n (pc' := 160) (f4 := 3) (i := 3) C 2 rfl rfl dX12_force_159 rfl ?_
                  cases hf
                  exact r_iret C dX12_force_160

/- WassailEnemiesModel.bears(II)Z -/
def m_bears (h : HH) (a1 : Int) (a2 : Int) : Option (Int × HH) :=
  if ww (m_has (h 193 1) a1) = 0 then ((m_force h a1 a2).bind fun q1 => (m_need q1.2).bind fun q2 => if ww q1.1 < ww q2 then (some (0, q1.2)) else (some (1, q1.2))) else (some (0, h))
abbrev rm_m_bears : Room := { frames := 4, cells := 0, slots := 0, locals := 100 }
set_option maxHeartbeats 4000000 in
set_option maxRecDepth 100000 in
theorem t_m_bears {S : SS} (hF : Fx S) {h : HH} {a1 : Int} {a2 : Int} {res : Int × HH} (hf : m_bears h a1 a2 = some res) : CM yX12_bears cX12_bears 3 (some Jvm.ClassFile.FieldType.boolean) 4 100 0 0 (fun bs => [zP bs 193, zI a1, zI a2]) h S (fun _ => some (zI res.1)) res.2 S := by
  refine CM.intro (own := RX12) (by decide) rfl (fun _ => Nat.le_of_ble_eq_true rfl) ?_
  intro D dT bs p l e s m args below meth c C
  show V D dT bs 3 p l e rm_m_bears s m args below meth c 0 0 _ h S 0 [(0, zP bs 193), (1, zI a1), (2, zI a2)] []
  unfold m_bears at hf
  refine r_aload_n (pc' := 1) (f4 := 0) (i := 0) C 0 rfl rfl dX12_bears_0 rfl ?_
  refine r_aload_n (pc' := 2) (f4 := 0) (i := 0) C 0 rfl rfl dX12_bears_1 rfl ?_
  refine q_getI (pc' := 5) (j := 1) C (K_193 hF) fb_12_1 wd_1172 (Or.inl rfl) dX12_bears_2 rfl ?_
  refine r_iload_n (pc' := 6) (f4 := 1) (i := 1) C 1 rfl rfl dX12_bears_5 rfl ?_
  refine q_callV (pc' := 9) C (t_m_has hF) rfl (K_193 hF) cl_12 wv_RX12_263 ⟨Nat.le_of_ble_eq_true rfl, Nat.le_of_ble_eq_true rfl⟩ rfl rfl (Nat.le_of_ble_eq_true rfl) dX12_bears_6 rfl ⟨Nat.le_of_ble_eq_true rfl, Nat.le_of_ble_eq_true rfl⟩ ?_
  refine r_if_ne (pc' := 12) (tgt := 29) C rfl hf dX12_bears_9 (by decide) rfl (fun hf => ?_) (fun hf => ?_)
  · refine r_aload_n (pc' := 13) (f4 := 0) (i := 0) C 0 rfl rfl dX12_bears_12 rfl ?_
    refine r_iload_n (pc' := 14) (f4 := 1) (i := 1) C 1 rfl rfl dX12_bears_13 rfl ?_
    refine r_iload_n (pc' := 15) (f4 := 2) (i := 2) C 2 rfl rfl dX12_bears_14 rfl ?_
    obtain ⟨q1, hq1, hf⟩ := bind_in hf
    refine q_callV (pc' := 18) C (t_m_force hF hq1) rfl (K_193 hF) cl_12 wv_RX12_337 ⟨Nat.le_of_ble_eq_true rfl, Nat.le_of_ble_eq_true rfl⟩ rfl rfl (Nat.le_of_ble_eq_true rfl) dX12_bears_15 rfl ⟨Nat.le_of_ble_eq_true rfl, Nat.le_of_ble_eq_true rfl⟩ ?_
    refine r_aload_n (pc' := 19) (f4 := 0) (i := 0) C 0 rfl rfl dX12_bears_18 rfl ?_
    obtain ⟨q2, hq2, hf⟩ := bind_in hf
    refine q_callV (pc' := 22) C (t_m_need hF hq2) rfl (K_193 hF) cl_12 wv_RX12_340 ⟨Nat.le_of_ble_eq_true rfl, Nat.le_of_ble_eq_true rfl⟩ rfl rfl (Nat.le_of_ble_eq_true rfl) dX12_bears_19 rfl ⟨Nat.le_of_ble_eq_true rfl, Nat.le_of_ble_eq_true rfl⟩ ?_
    refine r_icmp_lt (pc' := 25) (tgt := 29) C rfl rfl hf dX12_bears_22 (by decide) rfl (fun hf => ?_) (fun hf => ?_)
    · refine r_iconst (pc' := 30) C dX12_bears_29 rfl ?_
      cases hf
      exact r_zret C (Or.inl rfl) dX12_bears_30
    · refine r_iconst (pc' := 26) C dX12_bears_25 rfl ?_
      refine r_goto (tgt := 30) C dX12_bears_26 (by decide) ?_
      cases hf
      exact r_zret C (Or.inr rfl) dX12_bears_30
  · refine r_iconst (pc' := 30) C dX12_bears_29 rfl ?_
    cases hf
    exact r_zret C (Or.inl rfl) dX12_bears_30

/- WassailEnemiesModel.bearSet()I -/
def m_bearSet_L4 : Nat → HH → Int → Int → Option (Int × HH)
  | 0, _, _, _ => none
  | n4 + 1, h, x1, x2 =>
    if ww x2 < 5 then (ck (ww x2) 5 <| if ww (h 199 (ww x2)) < 0 then (m_bearSet_L4 n4 h (zor x1 0) (x2 + 1)) else (ck (ww x2) 5 <| (m_bears h (h 199 (ww x2)) x2).bind fun q1 => if ww q1.1 = 0 then (m_bearSet_L4 n4 q1.2 (zor x1 0) (x2 + 1)) else (m_bearSet_L4 n4 q1.2 (zor x1 (zshl 1 x2)) (x2 + 1)))) else (some (x1, h))
def m_bearSet (h : HH) : Option (Int × HH) :=
  m_bearSet_L4 FU h 0 0
abbrev rm_m_bearSet : Room := { frames := 5, cells := 0, slots := 0, locals := 122 }
set_option maxHeartbeats 4000000 in
set_option maxRecDepth 100000 in
theorem w_m_bearSet_L4 (hF : Fx S) (C : Cx D dT bs RX12 cX12_bearSet 3 (some Jvm.ClassFile.FieldType.int) p s m args meth c) {res : (Int × HH)} :
    ∀ (n : Nat) (h : HH) (x1 : Int) (x2 : Int), m_bearSet_L4 n h x1 x2 = some res → V D dT bs 3 p l e rm_m_bearSet s m args below meth c 0 0 (MQ below (QQ D dT bs (some (zI res.1)) res.2 S) args s 0 0 (AA bs)) h S 4 [(0, zP bs 193), (1, zI x1), (2, zI x2)] [] := by
  intro n
  induction n with
  | zero => intro h x1 x2 hf; simp [m_bearSet_L4] at hf
  | succ n4 ih4 =>
    intro h x1 x2 hf
    rw [m_bearSet_L4] at hf
    refine r_iload_n (pc' := 5) (f4 := 2) (i := 2) C 2 rfl rfl dX12_bearSet_4 rfl ?_
    refine r_iconst (pc' := 6) C dX12_bearSet_5 rfl ?_
    refine r_icmp_ge (pc' := 9) (tgt := 48) C rfl ww_n5 hf dX12_bearSet_6 (by decide) rfl (fun hf => ?_) (fun hf => ?_)
    · refine r_iload_n (pc' := 10) (f4 := 1) (i := 1) C 1 rfl rfl dX12_bearSet_9 rfl ?_
      refine r_aload_n (pc' := 11) (f4 := 0) (i := 0) C 0 rfl rfl dX12_bearSet_10 rfl ?_
      refine q_getP (pc' := 14) (j := 8) C (K_193 hF) fb_12_8 (by decide) wd_1179 (Or.inl rfl) (F_193_8 hF) (by decide) dX12_bearSet_11 rfl ?_
      refine r_iload_n (pc' := 15) (f4 := 2) (i := 2) C 2 rfl rfl dX12_bearSet_14 rfl ?_
      obtain ⟨hi, hf⟩ := ck_in hf
      refine r_iald (pc' := 16) C (K_199 hF) rfl hi dX12_bearSet_15 rfl ?_
      refine r_if_lt (pc' := 19) (tgt := 39) C rfl hf dX12_bearSet_16 (by decide) rfl (fun hf => ?_) (fun hf => ?_)
      · refine r_iconst (pc' := 40) C dX12_bearSet_39 rfl ?_
        refine r_ior (pc' := 41) C dX12_bearSet_40 rfl ?_
        refine r_istore_n (pc' := 42) (f4 := 1) (i := 1) (L' := [(1, zI (zor x1 0)), (0, zP bs 193), (2, zI x2)]) C rfl (by decide) rfl dX12_bearSet_41 rfl ?_
        refine r_iinc (pc' := 45) (i := 2) (L' := [(2, zI (x2 + 1)), (1, zI (zor x1 0)), (0, zP bs 193)]) C 2 rfl (by decide) rfl dX12_bearSet_42 rfl ?_
        refine r_goto (tgt := 4) C dX12_bearSet_45 (by decide) ?_
        refine V.sub (L' := [(0, zP bs 193), (1, zI (zor x1 0)), (2, zI (x2 + 1))]) [2, 1, 0] rfl ?_
        exact ih4 _ _ _ hf
      · refine r_aload_n (pc' := 20) (f4 := 0) (i := 0) C 0 rfl rfl dX12_bearSet_19 rfl ?_
        refine r_aload_n (pc' := 21) (f4 := 0) (i := 0) C 0 rfl rfl dX12_bearSet_20 rfl ?_
        refine q_getP (pc' := 24) (j := 8) C (K_193 hF) fb_12_8 (by decide) wd_1179 (Or.inl rfl) (F_193_8 hF) (by decide) dX12_bearSet_21 rfl ?_
        refine r_iload_n (pc' := 25) (f4 := 2) (i := 2) C 2 rfl rfl dX12_bearSet_24 rfl ?_
        obtain ⟨hi, hf⟩ := ck_in hf
        refine r_iald (pc' := 26) C (K_199 hF) rfl hi dX12_bearSet_25 rfl ?_
        refine r_iload_n (pc' := 27) (f4 := 2) (i := 2) C 2 rfl rfl dX12_bearSet_26 rfl ?_
        obtain ⟨q1, hq1, hf⟩ := bind_in hf
        refine q_callV (pc' := 30) C (t_m_bears hF hq1) rfl (K_193 hF) cl_12 wv_RX12_343 ⟨Nat.le_of_ble_eq_true rfl, Nat.le_of_ble_eq_true rfl⟩ rfl rfl (Nat.le_of_ble_eq_true rfl) dX12_bearSet_27 rfl ⟨Nat.le_of_ble_eq_true rfl, Nat.le_of_ble_eq_true rfl⟩ ?_
        refine r_if_eq (pc' := 33) (tgt := 39) C rfl hf dX12_bearSet_30 (by decide) rfl (fun hf => ?_) (fun hf => ?_)
        · refine r_iconst (pc' := 40) C dX12_bearSet_39 rfl ?_
          refine r_ior (pc' := 41) C dX12_bearSet_40 rfl ?_
          refine r_istore_n (pc' := 42) (f4 := 1) (i := 1) (L' := [(1, zI (zor x1 0)), (0, zP bs 193), (2, zI x2)]) C rfl (by decide) rfl dX12_bearSet_41 rfl ?_
          refine r_iinc (pc' := 45) (i := 2) (L' := [(2, zI (x2 + 1)), (1, zI (zor x1 0)), (0, zP bs 193)]) C 2 rfl (by decide) rfl dX12_bearSet_42 rfl ?_
          refine r_goto (tgt := 4) C dX12_bearSet_45 (by decide) ?_
          refine V.sub (L' := [(0, zP bs 193), (1, zI (zor x1 0)), (2, zI (x2 + 1))]) [2, 1, 0] rfl ?_
          exact ih4 _ _ _ hf
        · refine r_iconst (pc' := 34) C dX12_bearSet_33 rfl ?_
          refine r_iload_n (pc' := 35) (f4 := 2) (i := 2) C 2 rfl rfl dX12_bearSet_34 rfl ?_
          refine r_ishl (pc' := 36) C dX12_bearSet_35 rfl ?_
          refine r_goto (tgt := 40) C dX12_bearSet_36 (by decide) ?_
          refine r_ior (pc' := 41) C dX12_bearSet_40 rfl ?_
          refine r_istore_n (pc' := 42) (f4 := 1) (i := 1) (L' := [(1, zI (zor x1 (zshl 1 x2))), (0, zP bs 193), (2, zI x2)]) C rfl (by decide) rfl dX12_bearSet_41 rfl ?_
          refine r_iinc (pc' := 45) (i := 2) (L' := [(2, zI (x2 + 1)), (1, zI (zor x1 (zshl 1 x2))), (0, zP bs 193)]) C 2 rfl (by decide) rfl dX12_bearSet_42 rfl ?_
          refine r_goto (tgt := 4) C dX12_bearSet_45 (by decide) ?_
          refine V.sub (L' := [(0, zP bs 193), (1, zI (zor x1 (zshl 1 x2))), (2, zI (x2 + 1))]) [2, 1, 0] rfl ?_
          exact ih4 _ _ _ hf
    · refine r_iload_n (pc' := 49) (f4 := 1) (i := 1) C 1 rfl rfl dX12_bearSet_48 rfl ?_
      cases hf
      exact r_iret C dX12_bearSet_49
set_option maxHeartbeats 4000000 in
set_option maxRecDepth 100000 in
theorem t_m_bearSet {S : SS} (hF : Fx S) {h : HH} {res : Int × HH} (hf : m_bearSet h = some res) : CM yX12_bearSet cX12_bearSet 3 (some Jvm.ClassFile.FieldType.int) 5 122 0 0 (fun bs => [zP bs 193]) h S (fun _ => some (zI res.1)) res.2 S := by
  refine CM.intro (own := RX12) (by decide) rfl (fun _ => Nat.le_of_ble_eq_true rfl) ?_
  intro D dT bs p l e s m args below meth c C
  show V D dT bs 3 p l e rm_m_bearSet s m args below meth c 0 0 _ h S 0 [(0, zP bs 193)] []
  unfold m_bearSet at hf
  refine r_iconst (pc' := 1) C dX12_bearSet_0 rfl ?_
  refine r_istore_n (pc' := 2) (f4 := 1) (i := 1) (L' := [(1, zI 0), (0, zP bs 193)]) C rfl (by decide) rfl dX12_bearSet_1 rfl ?_
  refine r_iconst (pc' := 3) C dX12_bearSet_2 rfl ?_
  refine r_istore_n (pc' := 4) (f4 := 2) (i := 2) (L' := [(2, zI 0), (1, zI 0), (0, zP bs 193)]) C rfl (by decide) rfl dX12_bearSet_3 rfl ?_
  refine V.sub (L' := [(0, zP bs 193), (1, zI 0), (2, zI 0)]) [2, 1, 0] rfl ?_
  refine w_m_bearSet_L4 hF C _ _ _ _ hf

/- WassailEnemiesModel.wears(II)V -/
def m_wears (h : HH) (a1 : Int) (a2 : Int) : Option HH :=
  ck (ww ((5 * a1) + a2)) 30 <| (m_wear h).bind fun q1 => if ww ((h 196 (ww ((5 * a1) + a2))) - q1) < 0 then (ck (ww ((5 * a1) + a2)) 30 <| some (u2 h 196 (ww ((5 * a1) + a2)) 0)) else (ck (ww ((5 * a1) + a2)) 30 <| some (u2 h 196 (ww ((5 * a1) + a2)) ((h 196 (ww ((5 * a1) + a2))) - q1)))
abbrev rm_m_wears : Room := { frames := 3, cells := 0, slots := 0, locals := 64 }
set_option maxHeartbeats 4000000 in
set_option maxRecDepth 100000 in
theorem t_m_wears {S : SS} (hF : Fx S) {h : HH} {a1 : Int} {a2 : Int} {res : HH} (hf : m_wears h a1 a2 = some res) : CM yX12_wears cX12_wears 4 (Option.none : Option Jvm.ClassFile.FieldType) 3 64 0 0 (fun bs => [zP bs 193, zI a1, zI a2]) h S (fun _ => none) res S := by
  refine CM.intro (own := RX12) (by decide) rfl (fun _ => Nat.le_of_ble_eq_true rfl) ?_
  intro D dT bs p l e s m args below meth c C
  show V D dT bs 4 p l e rm_m_wears s m args below meth c 0 0 _ h S 0 [(0, zP bs 193), (1, zI a1), (2, zI a2)] []
  unfold m_wears at hf
  refine r_aload_n (pc' := 1) (f4 := 0) (i := 0) C 0 rfl rfl dX12_wears_0 rfl ?_
  refine q_getP (pc' := 4) (j := 5) C (K_193 hF) fb_12_5 (by decide) wd_1176 (Or.inl rfl) (F_193_5 hF) (by decide) dX12_wears_1 rfl ?_
  refine r_iconst (pc' := 5) C dX12_wears_4 rfl ?_
  refine r_iload_n (pc' := 6) (f4 := 1) (i := 1) C 1 rfl rfl dX12_wears_5 rfl ?_
  refine r_imul (pc' := 7) C dX12_wears_6 rfl ?_
  refine r_iload_n (pc' := 8) (f4 := 2) (i := 2) C 2 rfl rfl dX12_wears_7 rfl ?_
  refine r_iadd (pc' := 9) C dX12_wears_8 rfl ?_
  obtain ⟨hi, hf⟩ := ck_in hf
  refine r_iald (pc' := 10) C (K_196 hF) rfl hi dX12_wears_9 rfl ?_
  refine r_aload_n (pc' := 11) (f4 := 0) (i := 0) C 0 rfl rfl dX12_wears_10 rfl ?_
  obtain ⟨q1, hq1, hf⟩ := bind_in hf
  refine q_callV (pc' := 14) C (t_m_wear hF hq1) rfl (K_193 hF) cl_12 wv_RX12_346 ⟨Nat.le_of_ble_eq_true rfl, Nat.le_of_ble_eq_true rfl⟩ rfl rfl (Nat.le_of_ble_eq_true rfl) dX12_wears_11 rfl ⟨Nat.le_of_ble_eq_true rfl, Nat.le_of_ble_eq_true rfl⟩ ?_
  refine r_isub (pc' := 15) C dX12_wears_14 rfl ?_
  refine r_istore_n (pc' := 16) (f4 := 3) (i := 3) (L' := [(3, zI ((h 196 (ww ((5 * a1) + a2))) - q1)), (0, zP bs 193), (1, zI a1), (2, zI a2)]) C rfl (by decide) rfl dX12_wears_15 rfl ?_
  refine r_aload_n (pc' := 17) (f4 := 0) (i := 0) C 1 rfl rfl dX12_wears_16 rfl ?_
  refine q_getP (pc' := 20) (j := 5) C (K_193 hF) fb_12_5 (by decide) wd_1176 (Or.inl rfl) (F_193_5 hF) (by decide) dX12_wears_17 rfl ?_
  refine r_iconst (pc' := 21) C dX12_wears_20 rfl ?_
  refine r_iload_n (pc' := 22) (f4 := 1) (i := 1) C 2 rfl rfl dX12_wears_21 rfl ?_
  refine r_imul (pc' := 23) C dX12_wears_22 rfl ?_
  refine r_iload_n (pc' := 24) (f4 := 2) (i := 2) C 3 rfl rfl dX12_wears_23 rfl ?_
  refine r_iadd (pc' := 25) C dX12_wears_24 rfl ?_
  refine r_iload_n (pc' := 26) (f4 := 3) (i := 3) C 0 rfl rfl dX12_wears_25 rfl ?_
  refine r_if_ge (pc' := 29) (tgt := 33) C rfl hf dX12_wears_26 (by decide) rfl (fun hf => ?_) (fun hf => ?_)
  · refine r_iconst (pc' := 30) C dX12_wears_29 rfl ?_
    refine r_goto (tgt := 34) C dX12_wears_30 (by decide) ?_
    obtain ⟨hi, hf⟩ := ck_in hf
    refine r_iast (pc' := 35) C (K_196 hF) rfl hi dX12_wears_34 rfl ?_
    cases hf
    exact r_vret C dX12_wears_35
  · refine r_iload_n (pc' := 34) (f4 := 3) (i := 3) C 0 rfl rfl dX12_wears_33 rfl ?_
    obtain ⟨hi, hf⟩ := ck_in hf
    refine r_iast (pc' := 35) C (K_196 hF) rfl hi dX12_wears_34 rfl ?_
    cases hf
    exact r_vret C dX12_wears_35

/- WassailEnemiesModel.goYear()V -/
def m_goYear_L7 (x1 : Int) : Nat → HH → Int → Option HH
  | 0, _, _ => none
  | n7 + 1, h, x2 =>
    if ww x2 < 5 then (if ww (m_has x1 x2) = 0 then (m_goYear_L7 x1 n7 h (x2 + 1)) else (ck (ww x2) 5 <| ck (ww x2) 5 <| ck (ww x2) 5 <| (m_wears (u2 h 198 (ww x2) (m_least ((h 198 (ww x2)) + 1) (h 193 27))) ((u2 h 198 (ww x2) (m_least ((h 198 (ww x2)) + 1) (h 193 27))) 199 (ww x2)) x2).bind fun q2 => m_goYear_L7 x1 n7 q2 (x2 + 1))) else (some (u2 h 193 2 ((h 193 2) + 1)))
def m_goYear (h : HH) : Option HH :=
  (m_bearSet h).bind fun q1 => m_goYear_L7 q1.1 FU q1.2 0
abbrev rm_m_goYear : Room := { frames := 6, cells := 0, slots := 0, locals := 144 }
set_option maxHeartbeats 4000000 in
set_option maxRecDepth 100000 in
theorem w_m_goYear_L7 (hF : Fx S) (C : Cx D dT bs RX12 cX12_goYear 3 (Option.none : Option Jvm.ClassFile.FieldType) p s m args meth c) (x1 : Int) {res : HH} :
    ∀ (n : Nat) (h : HH) (x2 : Int), m_goYear_L7 x1 n h x2 = some res → V D dT bs 3 p l e rm_m_goYear s m args below meth c 0 0 (MQ below (QQ D dT bs none res S) args s 0 0 (AA bs)) h S 7 [(0, zP bs 193), (1, zI x1), (2, zI x2)] [] := by
  intro n
  induction n with
  | zero => intro h x2 hf; simp [m_goYear_L7] at hf
  | succ n7 ih7 =>
    intro h x2 hf
    rw [m_goYear_L7] at hf
    refine r_iload_n (pc' := 8) (f4 := 2) (i := 2) C 2 rfl rfl dX12_goYear_7 rfl ?_
    refine r_iconst (pc' := 9) C dX12_goYear_8 rfl ?_
    refine r_icmp_ge (pc' := 12) (tgt := 63) C rfl ww_n5 hf dX12_goYear_9 (by decide) rfl (fun hf => ?_) (fun hf => ?_)
    · refine r_aload_n (pc' := 13) (f4 := 0) (i := 0) C 0 rfl rfl dX12_goYear_12 rfl ?_
      refine r_iload_n (pc' := 14) (f4 := 1) (i := 1) C 1 rfl rfl dX12_goYear_13 rfl ?_
      refine r_iload_n (pc' := 15) (f4 := 2) (i := 2) C 2 rfl rfl dX12_goYear_14 rfl ?_
      refine q_callV (pc' := 18) C (t_m_has hF) rfl (K_193 hF) cl_12 wv_RX12_263 ⟨Nat.le_of_ble_eq_true rfl, Nat.le_of_ble_eq_true rfl⟩ rfl rfl (Nat.le_of_ble_eq_true rfl) dX12_goYear_15 rfl ⟨Nat.le_of_ble_eq_true rfl, Nat.le_of_ble_eq_true rfl⟩ ?_
      refine r_if_ne (pc' := 21) (tgt := 24) C rfl hf dX12_goYear_18 (by decide) rfl (fun hf => ?_) (fun hf => ?_)
      · refine r_goto (tgt := 57) C dX12_goYear_21 (by decide) ?_
        refine r_iinc (pc' := 60) (i := 2) (L' := [(2, zI (x2 + 1)), (0, zP bs 193), (1, zI x1)]) C 2 rfl (by decide) rfl dX12_goYear_57 rfl ?_
        refine r_goto (tgt := 7) C dX12_goYear_60 (by decide) ?_
        refine V.sub (L' := [(0, zP bs 193), (1, zI x1), (2, zI (x2 + 1))]) [1, 2, 0] rfl ?_
        exact ih7 _ _ hf
      · refine r_aload_n (pc' := 25) (f4 := 0) (i := 0) C 0 rfl rfl dX12_goYear_24 rfl ?_
        refine q_getP (pc' := 28) (j := 7) C (K_193 hF) fb_12_7 (by decide) wd_1178 (Or.inl rfl) (F_193_7 hF) (by decide) dX12_goYear_25 rfl ?_
        refine r_iload_n (pc' := 29) (f4 := 2) (i := 2) C 2 rfl rfl dX12_goYear_28 rfl ?_
        refine r_aload_n (pc' := 30) (f4 := 0) (i := 0) C 0 rfl rfl dX12_goYear_29 rfl ?_
        refine r_aload_n (pc' := 31) (f4 := 0) (i := 0) C 0 rfl rfl dX12_goYear_30 rfl ?_
        refine q_getP (pc' := 34) (j := 7) C (K_193 hF) fb_12_7 (by decide) wd_1178 (Or.inl rfl) (F_193_7 hF) (by decide) dX12_goYear_31 rfl ?_
        refine r_iload_n (pc' := 35) (f4 := 2) (i := 2) C 2 rfl rfl dX12_goYear_34 rfl ?_
        obtain ⟨hi, hf⟩ := ck_in hf
        refine r_iald (pc' := 36) C (K_198 hF) rfl hi dX12_goYear_35 rfl ?_
        refine r_iconst (pc' := 37) C dX12_goYear_36 rfl ?_
        refine r_iadd (pc' := 38) C dX12_goYear_37 rfl ?_
        refine r_aload_n (pc' := 39) (f4 := 0) (i := 0) C 0 rfl rfl dX12_goYear_38 rfl ?_
        refine q_getI (pc' := 42) (j := 27) C (K_193 hF) fb_12_27 wd_1198 (Or.inl rfl) dX12_goYear_39 rfl ?_
        refine q_callV (pc' := 45) C (t_m_least hF) rfl (K_193 hF) cl_12 wv_RX12_352 ⟨Nat.le_of_ble_eq_true rfl, Nat.le_of_ble_eq_true rfl⟩ rfl rfl (Nat.le_of_ble_eq_true rfl) dX12_goYear_42 rfl ⟨Nat.le_of_ble_eq_true rfl, Nat.le_of_ble_eq_true rfl⟩ ?_
        obtain ⟨hi, hf⟩ := ck_in hf
        refine r_iast (pc' := 46) C (K_198 hF) rfl hi dX12_goYear_45 rfl ?_
        refine r_aload_n (pc' := 47) (f4 := 0) (i := 0) C 0 rfl rfl dX12_goYear_46 rfl ?_
        refine r_aload_n (pc' := 48) (f4 := 0) (i := 0) C 0 rfl rfl dX12_goYear_47 rfl ?_
        refine q_getP (pc' := 51) (j := 8) C (K_193 hF) fb_12_8 (by decide) wd_1179 (Or.inl rfl) (F_193_8 hF) (by decide) dX12_goYear_48 rfl ?_
        refine r_iload_n (pc' := 52) (f4 := 2) (i := 2) C 2 rfl rfl dX12_goYear_51 rfl ?_
        obtain ⟨hi, hf⟩ := ck_in hf
        refine r_iald (pc' := 53) C (K_199 hF) rfl hi dX12_goYear_52 rfl ?_
        refine r_iload_n (pc' := 54) (f4 := 2) (i := 2) C 2 rfl rfl dX12_goYear_53 rfl ?_
        obtain ⟨q2, hq2, hf⟩ := bind_in hf
        refine q_callVv (pc' := 57) C (t_m_wears hF hq2) rfl (K_193 hF) cl_12 wv_RX12_355 ⟨Nat.le_of_ble_eq_true rfl, Nat.le_of_ble_eq_true rfl⟩ rfl rfl (Nat.le_of_ble_eq_true rfl) dX12_goYear_54 rfl ⟨Nat.le_of_ble_eq_true rfl, Nat.le_of_ble_eq_true rfl⟩ ?_
        refine r_iinc (pc' := 60) (i := 2) (L' := [(2, zI (x2 + 1)), (0, zP bs 193), (1, zI x1)]) C 2 rfl (by decide) rfl dX12_goYear_57 rfl ?_
        refine r_goto (tgt := 7) C dX12_goYear_60 (by decide) ?_
        refine V.sub (L' := [(0, zP bs 193), (1, zI x1), (2, zI (x2 + 1))]) [1, 2, 0] rfl ?_
        exact ih7 _ _ hf
    · refine r_aload_n (pc' := 64) (f4 := 0) (i := 0) C 0 rfl rfl dX12_goYear_63 rfl ?_
      refine r_dup (pc' := 65) C rfl dX12_goYear_64 rfl ?_
      refine q_getI (pc' := 68) (j := 2) C (K_193 hF) fb_12_2 wd_1173 (Or.inl rfl) dX12_goYear_65 rfl ?_
      refine r_iconst (pc' := 69) C dX12_goYear_68 rfl ?_
      refine r_iadd (pc' := 70) C dX12_goYear_69 rfl ?_
      refine q_putI (pc' := 73) (j := 2) C (K_193 hF) fb_12_2 fp_12_2 wd_1173 (Or.inl rfl) (Or.inl rfl) rfl rfl dX12_goYear_70 rfl ?_
      cases hf
      exact r_vret C dX12_goYear_73
set_option maxHeartbeats 4000000 in
set_option maxRecDepth 100000 in
theorem t_m_goYear {S : SS} (hF : Fx S) {h : HH} {res : HH} (hf : m_goYear h = some res) : CM yX12_goYear cX12_goYear 3 (Option.none : Option Jvm.ClassFile.FieldType) 6 144 0 0 (fun bs => [zP bs 193]) h S (fun _ => none) res S := by
  refine CM.intro (own := RX12) (by decide) rfl (fun _ => Nat.le_of_ble_eq_true rfl) ?_
  intro D dT bs p l e s m args below meth c C
  show V D dT bs 3 p l e rm_m_goYear s m args below meth c 0 0 _ h S 0 [(0, zP bs 193)] []
  unfold m_goYear at hf
  refine r_aload_n (pc' := 1) (f4 := 0) (i := 0) C 0 rfl rfl dX12_goYear_0 rfl ?_
  obtain ⟨q1, hq1, hf⟩ := bind_in hf
  refine q_callV (pc' := 4) C (t_m_bearSet hF hq1) rfl (K_193 hF) cl_12 wv_RX12_349 ⟨Nat.le_of_ble_eq_true rfl, Nat.le_of_ble_eq_true rfl⟩ rfl rfl (Nat.le_of_ble_eq_true rfl) dX12_goYear_1 rfl ⟨Nat.le_of_ble_eq_true rfl, Nat.le_of_ble_eq_true rfl⟩ ?_
  refine r_istore_n (pc' := 5) (f4 := 1) (i := 1) (L' := [(1, zI q1.1), (0, zP bs 193)]) C rfl (by decide) rfl dX12_goYear_4 rfl ?_
  refine r_iconst (pc' := 6) C dX12_goYear_5 rfl ?_
  refine r_istore_n (pc' := 7) (f4 := 2) (i := 2) (L' := [(2, zI 0), (1, zI q1.1), (0, zP bs 193)]) C rfl (by decide) rfl dX12_goYear_6 rfl ?_
  refine V.sub (L' := [(0, zP bs 193), (1, zI q1.1), (2, zI 0)]) [2, 1, 0] rfl ?_
  refine w_m_goYear_L7 hF C _ _ _ _ hf

/- WassailEnemiesModel.goYears(I)V -/
def m_goYears_L2 (x1 : Int) : Nat → HH → Int → Option HH
  | 0, _, _ => none
  | n2 + 1, h, x2 =>
    if ww x2 < ww x1 then ((m_goYear h).bind fun q1 => m_goYears_L2 x1 n2 q1 (x2 + 1)) else (some h)
def m_goYears (h : HH) (a1 : Int) : Option HH :=
  m_goYears_L2 a1 FU h 0
abbrev rm_m_goYears : Room := { frames := 7, cells := 0, slots := 0, locals := 166 }
set_option maxHeartbeats 4000000 in
set_option maxRecDepth 100000 in
theorem w_m_goYears_L2 (hF : Fx S) (C : Cx D dT bs RX12 cX12_goYears 3 (Option.none : Option Jvm.ClassFile.FieldType) p s m args meth c) (x1 : Int) {res : HH} :
    ∀ (n : Nat) (h : HH) (x2 : Int), m_goYears_L2 x1 n h x2 = some res → V D dT bs 3 p l e rm_m_goYears s m args below meth c 0 0 (MQ below (QQ D dT bs none res S) args s 0 0 (AA bs)) h S 2 [(0, zP bs 193), (1, zI x1), (2, zI x2)] [] := by
  intro n
  induction n with
  | zero => intro h x2 hf; simp [m_goYears_L2] at hf
  | succ n2 ih2 =>
    intro h x2 hf
    rw [m_goYears_L2] at hf
    refine r_iload_n (pc' := 3) (f4 := 2) (i := 2) C 2 rfl rfl dX12_goYears_2 rfl ?_
    refine r_iload_n (pc' := 4) (f4 := 1) (i := 1) C 1 rfl rfl dX12_goYears_3 rfl ?_
    refine r_icmp_ge (pc' := 7) (tgt := 17) C rfl rfl hf dX12_goYears_4 (by decide) rfl (fun hf => ?_) (fun hf => ?_)
    · refine r_aload_n (pc' := 8) (f4 := 0) (i := 0) C 0 rfl rfl dX12_goYears_7 rfl ?_
      obtain ⟨q1, hq1, hf⟩ := bind_in hf
      refine q_callVv (pc' := 11) C (t_m_goYear hF hq1) rfl (K_193 hF) cl_12 wv_RX12_358 ⟨Nat.le_of_ble_eq_true rfl, Nat.le_of_ble_eq_true rfl⟩ rfl rfl (Nat.le_of_ble_eq_true rfl) dX12_goYears_8 rfl ⟨Nat.le_of_ble_eq_true rfl, Nat.le_of_ble_eq_true rfl⟩ ?_
      refine r_iinc (pc' := 14) (i := 2) (L' := [(2, zI (x2 + 1)), (0, zP bs 193), (1, zI x1)]) C 2 rfl (by decide) rfl dX12_goYears_11 rfl ?_
      refine r_goto (tgt := 2) C dX12_goYears_14 (by decide) ?_
      refine V.sub (L' := [(0, zP bs 193), (1, zI x1), (2, zI (x2 + 1))]) [1, 2, 0] rfl ?_
      exact ih2 _ _ hf
    · cases hf
      exact r_vret C dX12_goYears_17
set_option maxHeartbeats 4000000 in
set_option maxRecDepth 100000 in
theorem t_m_goYears {S : SS} (hF : Fx S) {h : HH} {a1 : Int} {res : HH} (hf : m_goYears h a1 = some res) : CM yX12_goYears cX12_goYears 3 (Option.none : Option Jvm.ClassFile.FieldType) 7 166 0 0 (fun bs => [zP bs 193, zI a1]) h S (fun _ => none) res S := by
  refine CM.intro (own := RX12) (by decide) rfl (fun _ => Nat.le_of_ble_eq_true rfl) ?_
  intro D dT bs p l e s m args below meth c C
  show V D dT bs 3 p l e rm_m_goYears s m args below meth c 0 0 _ h S 0 [(0, zP bs 193), (1, zI a1)] []
  unfold m_goYears at hf
  refine r_iconst (pc' := 1) C dX12_goYears_0 rfl ?_
  refine r_istore_n (pc' := 2) (f4 := 2) (i := 2) (L' := [(2, zI 0), (0, zP bs 193), (1, zI a1)]) C rfl (by decide) rfl dX12_goYears_1 rfl ?_
  refine V.sub (L' := [(0, zP bs 193), (1, zI a1), (2, zI 0)]) [1, 2, 0] rfl ?_
  refine w_m_goYears_L2 hF C _ _ _ _ hf

/- WassailEnemiesModel.pass(I)I -/
def m_pass (h : HH) (a1 : Int) : Option (Int × HH) :=
  if ww (m_isYears a1) = 0 then (some (-2, h)) else (if 9999 < ww ((h 193 2) + a1) then (some (-3, h)) else ((m_goYears h a1).bind fun q1 => some (q1 193 2, q1)))
abbrev rm_m_pass : Room := { frames := 8, cells := 0, slots := 0, locals := 188 }
set_option maxHeartbeats 4000000 in
set_option maxRecDepth 100000 in
theorem t_m_pass {S : SS} (hF : Fx S) {h : HH} {a1 : Int} {res : Int × HH} (hf : m_pass h a1 = some res) : CM yX12_pass cX12_pass 2 (some Jvm.ClassFile.FieldType.int) 8 188 0 0 (fun bs => [zP bs 193, zI a1]) h S (fun _ => some (zI res.1)) res.2 S := by
  refine CM.intro (own := RX12) (by decide) rfl (fun _ => Nat.le_of_ble_eq_true rfl) ?_
  intro D dT bs p l e s m args below meth c C
  show V D dT bs 2 p l e rm_m_pass s m args below meth c 0 0 _ h S 0 [(0, zP bs 193), (1, zI a1)] []
  unfold m_pass at hf
  refine r_aload_n (pc' := 1) (f4 := 0) (i := 0) C 0 rfl rfl dX12_pass_0 rfl ?_
  refine r_iload_n (pc' := 2) (f4 := 1) (i := 1) C 1 rfl rfl dX12_pass_1 rfl ?_
  refine q_callV (pc' := 5) C (t_m_isYears hF) rfl (K_193 hF) cl_12 wv_RX12_361 ⟨Nat.le_of_ble_eq_true rfl, Nat.le_of_ble_eq_true rfl⟩ rfl rfl (Nat.le_of_ble_eq_true rfl) dX12_pass_2 rfl ⟨Nat.le_of_ble_eq_true rfl, Nat.le_of_ble_eq_true rfl⟩ ?_
  refine r_if_ne (pc' := 8) (tgt := 11) C rfl hf dX12_pass_5 (by decide) rfl (fun hf => ?_) (fun hf => ?_)
  · refine r_bipush (pc' := 10) C rfl dX12_pass_8 rfl ?_
    cases hf
    exact r_iret C dX12_pass_10
  · refine r_aload_n (pc' := 12) (f4 := 0) (i := 0) C 0 rfl rfl dX12_pass_11 rfl ?_
    refine q_getI (pc' := 15) (j := 2) C (K_193 hF) fb_12_2 wd_1173 (Or.inl rfl) dX12_pass_12 rfl ?_
    refine r_iload_n (pc' := 16) (f4 := 1) (i := 1) C 1 rfl rfl dX12_pass_15 rfl ?_
    refine r_iadd (pc' := 17) C dX12_pass_16 rfl ?_
    refine r_sipush (pc' := 20) C rfl dX12_pass_17 rfl ?_
    refine r_icmp_le (pc' := 23) (tgt := 26) C rfl ww_n9999 hf dX12_pass_20 (by decide) rfl (fun hf => ?_) (fun hf => ?_)
    · refine r_bipush (pc' := 25) C rfl dX12_pass_23 rfl ?_
      cases hf
      exact r_iret C dX12_pass_25
    · refine r_aload_n (pc' := 27) (f4 := 0) (i := 0) C 0 rfl rfl dX12_pass_26 rfl ?_
      refine r_iload_n (pc' := 28) (f4 := 1) (i := 1) C 1 rfl rfl dX12_pass_27 rfl ?_
      obtain ⟨q1, hq1, hf⟩ := bind_in hf
      refine q_callVv (pc' := 31) C (t_m_goYears hF hq1) rfl (K_193 hF) cl_12 wv_RX12_364 ⟨Nat.le_of_ble_eq_true rfl, Nat.le_of_ble_eq_true rfl⟩ rfl rfl (Nat.le_of_ble_eq_true rfl) dX12_pass_28 rfl ⟨Nat.le_of_ble_eq_true rfl, Nat.le_of_ble_eq_true rfl⟩ ?_
      refine r_aload_n (pc' := 32) (f4 := 0) (i := 0) C 0 rfl rfl dX12_pass_31 rfl ?_
      refine q_getI (pc' := 35) (j := 2) C (K_193 hF) fb_12_2 wd_1173 (Or.inl rfl) dX12_pass_32 rfl ?_
      cases hf
      exact r_iret C dX12_pass_35

/- WassailEnemiesModel.save()V -/
def m_save_L25 (k49 : HH → Option HH) : Nat → HH → Int → Option HH
  | 0, _, _ => none
  | n25 + 1, h, x1 =>
    if ww x1 < 30 then (ck (ww x1) 30 <| ck (ww x1) 30 <| m_save_L25 k49 n25 (u2 h 210 (ww x1) (h 196 (ww x1))) (x1 + 1)) else (k49 h)
def m_save_L51 : Nat → HH → Int → Option HH
  | 0, _, _ => none
  | n51 + 1, h, x1 =>
    if ww x1 < 5 then (ck (ww x1) 5 <| ck (ww x1) 5 <| ck (ww x1) 5 <| ck (ww x1) 5 <| m_save_L51 n51 (u2 (u2 h 211 (ww x1) (h 198 (ww x1))) 212 (ww x1) ((u2 h 211 (ww x1) (h 198 (ww x1))) 199 (ww x1))) (x1 + 1)) else (some h)
def m_save (h : HH) : Option HH :=
  m_save_L25 (fun h1 => m_save_L51 FU h1 0) FU (u2 (u2 (u2 h 193 27 2000000000) 193 28 ((u2 h 193 27 2000000000) 193 1)) 193 29 ((u2 (u2 h 193 27 2000000000) 193 28 ((u2 h 193 27 2000000000) 193 1)) 193 2)) 0
abbrev rm_m_save : Room := { frames := 0, cells := 0, slots := 0, locals := 0 }
set_option maxHeartbeats 4000000 in
set_option maxRecDepth 100000 in
theorem w_m_save_L25 (hF : Fx S) (C : Cx D dT bs RX12 cX12_save 2 (Option.none : Option Jvm.ClassFile.FieldType) p s m args meth c) (k49 : HH → Option HH) {res : HH} (hk49 : ∀ (h : HH), k49 h = some res → V D dT bs 2 p l e rm_m_save s m args below meth c 0 0 (MQ below (QQ D dT bs none res S) args s 0 0 (AA bs)) h S 49 [(0, zP bs 193)] []) :
    ∀ (n : Nat) (h : HH) (x1 : Int), m_save_L25 k49 n h x1 = some res → V D dT bs 2 p l e rm_m_save s m args below meth c 0 0 (MQ below (QQ D dT bs none res S) args s 0 0 (AA bs)) h S 25 [(0, zP bs 193), (1, zI x1)] [] := by
  intro n
  induction n with
  | zero => intro h x1 hf; simp [m_save_L25] at hf
  | succ n25 ih25 =>
    intro h x1 hf
    rw [m_save_L25] at hf
    refine r_iload_n (pc' := 26) (f4 := 1) (i := 1) C 1 rfl rfl dX12_save_25 rfl ?_
    refine r_bipush (pc' := 28) C rfl dX12_save_26 rfl ?_
    refine r_icmp_ge (pc' := 31) (tgt := 49) C rfl ww_n30 hf dX12_save_28 (by decide) rfl (fun hf => ?_) (fun hf => ?_)
    · refine r_aload_n (pc' := 32) (f4 := 0) (i := 0) C 0 rfl rfl dX12_save_31 rfl ?_
      refine q_getP (pc' := 35) (j := 30) C (K_193 hF) fb_12_30 (by decide) wd_1201 (Or.inl rfl) (F_193_30 hF) (by decide) dX12_save_32 rfl ?_
      refine r_iload_n (pc' := 36) (f4 := 1) (i := 1) C 1 rfl rfl dX12_save_35 rfl ?_
      refine r_aload_n (pc' := 37) (f4 := 0) (i := 0) C 0 rfl rfl dX12_save_36 rfl ?_
      refine q_getP (pc' := 40) (j := 5) C (K_193 hF) fb_12_5 (by decide) wd_1176 (Or.inl rfl) (F_193_5 hF) (by decide) dX12_save_37 rfl ?_
      refine r_iload_n (pc' := 41) (f4 := 1) (i := 1) C 1 rfl rfl dX12_save_40 rfl ?_
      obtain ⟨hi, hf⟩ := ck_in hf
      refine r_iald (pc' := 42) C (K_196 hF) rfl hi dX12_save_41 rfl ?_
      obtain ⟨hi, hf⟩ := ck_in hf
      refine r_iast (pc' := 43) C (K_210 hF) rfl hi dX12_save_42 rfl ?_
      refine r_iinc (pc' := 46) (i := 1) (L' := [(1, zI (x1 + 1)), (0, zP bs 193)]) C 1 rfl (by decide) rfl dX12_save_43 rfl ?_
      refine r_goto (tgt := 25) C dX12_save_46 (by decide) ?_
      refine V.sub (L' := [(0, zP bs 193), (1, zI (x1 + 1))]) [1, 0] rfl ?_
      exact ih25 _ _ hf
    · refine V.sub (L' := [(0, zP bs 193)]) [0] rfl ?_
      exact hk49 _ hf
set_option maxHeartbeats 4000000 in
set_option maxRecDepth 100000 in
theorem w_m_save_L51 (hF : Fx S) (C : Cx D dT bs RX12 cX12_save 2 (Option.none : Option Jvm.ClassFile.FieldType) p s m args meth c) {res : HH} :
    ∀ (n : Nat) (h : HH) (x1 : Int), m_save_L51 n h x1 = some res → V D dT bs 2 p l e rm_m_save s m args below meth c 0 0 (MQ below (QQ D dT bs none res S) args s 0 0 (AA bs)) h S 51 [(0, zP bs 193), (1, zI x1)] [] := by
  intro n
  induction n with
  | zero => intro h x1 hf; simp [m_save_L51] at hf
  | succ n51 ih51 =>
    intro h x1 hf
    rw [m_save_L51] at hf
    refine r_iload_n (pc' := 52) (f4 := 1) (i := 1) C 1 rfl rfl dX12_save_51 rfl ?_
    refine r_iconst (pc' := 53) C dX12_save_52 rfl ?_
    refine r_icmp_ge (pc' := 56) (tgt := 86) C rfl ww_n5 hf dX12_save_53 (by decide) rfl (fun hf => ?_) (fun hf => ?_)
    · refine r_aload_n (pc' := 57) (f4 := 0) (i := 0) C 0 rfl rfl dX12_save_56 rfl ?_
      refine q_getP (pc' := 60) (j := 31) C (K_193 hF) fb_12_31 (by decide) wd_1202 (Or.inl rfl) (F_193_31 hF) (by decide) dX12_save_57 rfl ?_
      refine r_iload_n (pc' := 61) (f4 := 1) (i := 1) C 1 rfl rfl dX12_save_60 rfl ?_
      refine r_aload_n (pc' := 62) (f4 := 0) (i := 0) C 0 rfl rfl dX12_save_61 rfl ?_
      refine q_getP (pc' := 65) (j := 7) C (K_193 hF) fb_12_7 (by decide) wd_1178 (Or.inl rfl) (F_193_7 hF) (by decide) dX12_save_62 rfl ?_
      refine r_iload_n (pc' := 66) (f4 := 1) (i := 1) C 1 rfl rfl dX12_save_65 rfl ?_
      obtain ⟨hi, hf⟩ := ck_in hf
      refine r_iald (pc' := 67) C (K_198 hF) rfl hi dX12_save_66 rfl ?_
      obtain ⟨hi, hf⟩ := ck_in hf
      refine r_iast (pc' := 68) C (K_211 hF) rfl hi dX12_save_67 rfl ?_
      refine r_aload_n (pc' := 69) (f4 := 0) (i := 0) C 0 rfl rfl dX12_save_68 rfl ?_
      refine q_getP (pc' := 72) (j := 32) C (K_193 hF) fb_12_32 (by decide) wd_1203 (Or.inl rfl) (F_193_32 hF) (by decide) dX12_save_69 rfl ?_
      refine r_iload_n (pc' := 73) (f4 := 1) (i := 1) C 1 rfl rfl dX12_save_72 rfl ?_
      refine r_aload_n (pc' := 74) (f4 := 0) (i := 0) C 0 rfl rfl dX12_save_73 rfl ?_
      refine q_getP (pc' := 77) (j := 8) C (K_193 hF) fb_12_8 (by decide) wd_1179 (Or.inl rfl) (F_193_8 hF) (by decide) dX12_save_74 rfl ?_
      refine r_iload_n (pc' := 78) (f4 := 1) (i := 1) C 1 rfl rfl dX12_save_77 rfl ?_
      obtain ⟨hi, hf⟩ := ck_in hf
      refine r_iald (pc' := 79) C (K_199 hF) rfl hi dX12_save_78 rfl ?_
      obtain ⟨hi, hf⟩ := ck_in hf
      refine r_iast (pc' := 80) C (K_212 hF) rfl hi dX12_save_79 rfl ?_
      refine r_iinc (pc' := 83) (i := 1) (L' := [(1, zI (x1 + 1)), (0, zP bs 193)]) C 1 rfl (by decide) rfl dX12_save_80 rfl ?_
      refine r_goto (tgt := 51) C dX12_save_83 (by decide) ?_
      refine V.sub (L' := [(0, zP bs 193), (1, zI (x1 + 1))]) [1, 0] rfl ?_
      exact ih51 _ _ hf
    · cases hf
      exact r_vret C dX12_save_86
set_option maxHeartbeats 4000000 in
set_option maxRecDepth 100000 in
theorem t_m_save {S : SS} (hF : Fx S) {h : HH} {res : HH} (hf : m_save h = some res) : CM yX12_save cX12_save 2 (Option.none : Option Jvm.ClassFile.FieldType) 0 0 0 0 (fun bs => [zP bs 193]) h S (fun _ => none) res S := by
  refine CM.intro (own := RX12) (by decide) rfl (fun _ => Nat.le_of_ble_eq_true rfl) ?_
  intro D dT bs p l e s m args below meth c C
  show V D dT bs 2 p l e rm_m_save s m args below meth c 0 0 _ h S 0 [(0, zP bs 193)] []
  unfold m_save at hf
  refine r_aload_n (pc' := 1) (f4 := 0) (i := 0) C 0 rfl rfl dX12_save_0 rfl ?_
  refine r_ldcw (pc' := 4) C (n := 2000000000) wc_1595 dX12_save_1 rfl ?_
  refine q_putI (pc' := 7) (j := 27) C (K_193 hF) fb_12_27 fp_12_27 wd_1198 (Or.inl rfl) (Or.inl rfl) rfl rfl dX12_save_4 rfl ?_
  refine r_aload_n (pc' := 8) (f4 := 0) (i := 0) C 0 rfl rfl dX12_save_7 rfl ?_
  refine r_aload_n (pc' := 9) (f4 := 0) (i := 0) C 0 rfl rfl dX12_save_8 rfl ?_
  refine q_getI (pc' := 12) (j := 1) C (K_193 hF) fb_12_1 wd_1172 (Or.inl rfl) dX12_save_9 rfl ?_
  refine q_putI (pc' := 15) (j := 28) C (K_193 hF) fb_12_28 fp_12_28 wd_1199 (Or.inl rfl) (Or.inl rfl) rfl rfl dX12_save_12 rfl ?_
  refine r_aload_n (pc' := 16) (f4 := 0) (i := 0) C 0 rfl rfl dX12_save_15 rfl ?_
  refine r_aload_n (pc' := 17) (f4 := 0) (i := 0) C 0 rfl rfl dX12_save_16 rfl ?_
  refine q_getI (pc' := 20) (j := 2) C (K_193 hF) fb_12_2 wd_1173 (Or.inl rfl) dX12_save_17 rfl ?_
  refine q_putI (pc' := 23) (j := 29) C (K_193 hF) fb_12_29 fp_12_29 wd_1200 (Or.inl rfl) (Or.inl rfl) rfl rfl dX12_save_20 rfl ?_
  refine r_iconst (pc' := 24) C dX12_save_23 rfl ?_
  refine r_istore_n (pc' := 25) (f4 := 1) (i := 1) (L' := [(1, zI 0), (0, zP bs 193)]) C rfl (by decide) rfl dX12_save_24 rfl ?_
  refine V.sub (L' := [(0, zP bs 193), (1, zI 0)]) [1, 0] rfl ?_
  refine w_m_save_L25 hF C _ ?_ _ _ _ hf
  intro h1 hf
  refine r_iconst (pc' := 50) C dX12_save_49 rfl ?_
  refine r_istore_n (pc' := 51) (f4 := 1) (i := 1) (L' := [(1, zI 0), (0, zP bs 193)]) C rfl (by decide) rfl dX12_save_50 rfl ?_
  refine V.sub (L' := [(0, zP bs 193), (1, zI 0)]) [1, 0] rfl ?_
  refine w_m_save_L51 hF C _ _ _ hf

/- WassailEnemiesModel.putBack()V -/
def m_putBack_L25 (k49 : HH → Option HH) : Nat → HH → Int → Option HH
  | 0, _, _ => none
  | n25 + 1, h, x1 =>
    if ww x1 < 30 then (ck (ww x1) 30 <| ck (ww x1) 30 <| m_putBack_L25 k49 n25 (u2 h 196 (ww x1) (h 210 (ww x1))) (x1 + 1)) else (k49 h)
def m_putBack_L51 : Nat → HH → Int → Option HH
  | 0, _, _ => none
  | n51 + 1, h, x1 =>
    if ww x1 < 5 then (ck (ww x1) 5 <| ck (ww x1) 5 <| ck (ww x1) 5 <| ck (ww x1) 5 <| m_putBack_L51 n51 (u2 (u2 h 198 (ww x1) (h 211 (ww x1))) 199 (ww x1) ((u2 h 198 (ww x1) (h 211 (ww x1))) 212 (ww x1))) (x1 + 1)) else (some h)
def m_putBack (h : HH) : Option HH :=
  m_putBack_L25 (fun h1 => m_putBack_L51 FU h1 0) FU (u2 (u2 (u2 h 193 27 9999) 193 1 ((u2 h 193 27 9999) 193 28)) 193 2 ((u2 (u2 h 193 27 9999) 193 1 ((u2 h 193 27 9999) 193 28)) 193 29)) 0
abbrev rm_m_putBack : Room := { frames := 0, cells := 0, slots := 0, locals := 0 }
set_option maxHeartbeats 4000000 in
set_option maxRecDepth 100000 in
theorem w_m_putBack_L25 (hF : Fx S) (C : Cx D dT bs RX12 cX12_putBack 2 (Option.none : Option Jvm.ClassFile.FieldType) p s m args meth c) (k49 : HH → Option HH) {res : HH} (hk49 : ∀ (h : HH), k49 h = some res → V D dT bs 2 p l e rm_m_putBack s m args below meth c 0 0 (MQ below (QQ D dT bs none res S) args s 0 0 (AA bs)) h S 49 [(0, zP bs 193)] []) :
    ∀ (n : Nat) (h : HH) (x1 : Int), m_putBack_L25 k49 n h x1 = some res → V D dT bs 2 p l e rm_m_putBack s m args below meth c 0 0 (MQ below (QQ D dT bs none res S) args s 0 0 (AA bs)) h S 25 [(0, zP bs 193), (1, zI x1)] [] := by
  intro n
  induction n with
  | zero => intro h x1 hf; simp [m_putBack_L25] at hf
  | succ n25 ih25 =>
    intro h x1 hf
    rw [m_putBack_L25] at hf
    refine r_iload_n (pc' := 26) (f4 := 1) (i := 1) C 1 rfl rfl dX12_putBack_25 rfl ?_
    refine r_bipush (pc' := 28) C rfl dX12_putBack_26 rfl ?_
    refine r_icmp_ge (pc' := 31) (tgt := 49) C rfl ww_n30 hf dX12_putBack_28 (by decide) rfl (fun hf => ?_) (fun hf => ?_)
    · refine r_aload_n (pc' := 32) (f4 := 0) (i := 0) C 0 rfl rfl dX12_putBack_31 rfl ?_
      refine q_getP (pc' := 35) (j := 5) C (K_193 hF) fb_12_5 (by decide) wd_1176 (Or.inl rfl) (F_193_5 hF) (by decide) dX12_putBack_32 rfl ?_
      refine r_iload_n (pc' := 36) (f4 := 1) (i := 1) C 1 rfl rfl dX12_putBack_35 rfl ?_
      refine r_aload_n (pc' := 37) (f4 := 0) (i := 0) C 0 rfl rfl dX12_putBack_36 rfl ?_
      refine q_getP (pc' := 40) (j := 30) C (K_193 hF) fb_12_30 (by decide) wd_1201 (Or.inl rfl) (F_193_30 hF) (by decide) dX12_putBack_37 rfl ?_
      refine r_iload_n (pc' := 41) (f4 := 1) (i := 1) C 1 rfl rfl dX12_putBack_40 rfl ?_
      obtain ⟨hi, hf⟩ := ck_in hf
      refine r_iald (pc' := 42) C (K_210 hF) rfl hi dX12_putBack_41 rfl ?_
      obtain ⟨hi, hf⟩ := ck_in hf
      refine r_iast (pc' := 43) C (K_196 hF) rfl hi dX12_putBack_42 rfl ?_
      refine r_iinc (pc' := 46) (i := 1) (L' := [(1, zI (x1 + 1)), (0, zP bs 193)]) C 1 rfl (by decide) rfl dX12_putBack_43 rfl ?_
      refine r_goto (tgt := 25) C dX12_putBack_46 (by decide) ?_
      refine V.sub (L' := [(0, zP bs 193), (1, zI (x1 + 1))]) [1, 0] rfl ?_
      exact ih25 _ _ hf
    · refine V.sub (L' := [(0, zP bs 193)]) [0] rfl ?_
      exact hk49 _ hf
set_option maxHeartbeats 4000000 in
set_option maxRecDepth 100000 in
theorem w_m_putBack_L51 (hF : Fx S) (C : Cx D dT bs RX12 cX12_putBack 2 (Option.none : Option Jvm.ClassFile.FieldType) p s m args meth c) {res : HH} :
    ∀ (n : Nat) (h : HH) (x1 : Int), m_putBack_L51 n h x1 = some res → V D dT bs 2 p l e rm_m_putBack s m args below meth c 0 0 (MQ below (QQ D dT bs none res S) args s 0 0 (AA bs)) h S 51 [(0, zP bs 193), (1, zI x1)] [] := by
  intro n
  induction n with
  | zero => intro h x1 hf; simp [m_putBack_L51] at hf
  | succ n51 ih51 =>
    intro h x1 hf
    rw [m_putBack_L51] at hf
    refine r_iload_n (pc' := 52) (f4 := 1) (i := 1) C 1 rfl rfl dX12_putBack_51 rfl ?_
    refine r_iconst (pc' := 53) C dX12_putBack_52 rfl ?_
    refine r_icmp_ge (pc' := 56) (tgt := 86) C rfl ww_n5 hf dX12_putBack_53 (by decide) rfl (fun hf => ?_) (fun hf => ?_)
    · refine r_aload_n (pc' := 57) (f4 := 0) (i := 0) C 0 rfl rfl dX12_putBack_56 rfl ?_
      refine q_getP (pc' := 60) (j := 7) C (K_193 hF) fb_12_7 (by decide) wd_1178 (Or.inl rfl) (F_193_7 hF) (by decide) dX12_putBack_57 rfl ?_
      refine r_iload_n (pc' := 61) (f4 := 1) (i := 1) C 1 rfl rfl dX12_putBack_60 rfl ?_
      refine r_aload_n (pc' := 62) (f4 := 0) (i := 0) C 0 rfl rfl dX12_putBack_61 rfl ?_
      refine q_getP (pc' := 65) (j := 31) C (K_193 hF) fb_12_31 (by decide) wd_1202 (Or.inl rfl) (F_193_31 hF) (by decide) dX12_putBack_62 rfl ?_
      refine r_iload_n (pc' := 66) (f4 := 1) (i := 1) C 1 rfl rfl dX12_putBack_65 rfl ?_
      obtain ⟨hi, hf⟩ := ck_in hf
      refine r_iald (pc' := 67) C (K_211 hF) rfl hi dX12_putBack_66 rfl ?_
      obtain ⟨hi, hf⟩ := ck_in hf
      refine r_iast (pc' := 68) C (K_198 hF) rfl hi dX12_putBack_67 rfl ?_
      refine r_aload_n (pc' := 69) (f4 := 0) (i := 0) C 0 rfl rfl dX12_putBack_68 rfl ?_
      refine q_getP (pc' := 72) (j := 8) C (K_193 hF) fb_12_8 (by decide) wd_1179 (Or.inl rfl) (F_193_8 hF) (by decide) dX12_putBack_69 rfl ?_
      refine r_iload_n (pc' := 73) (f4 := 1) (i := 1) C 1 rfl rfl dX12_putBack_72 rfl ?_
      refine r_aload_n (pc' := 74) (f4 := 0) (i := 0) C 0 rfl rfl dX12_putBack_73 rfl ?_
      refine q_getP (pc' := 77) (j := 32) C (K_193 hF) fb_12_32 (by decide) wd_1203 (Or.inl rfl) (F_193_32 hF) (by decide) dX12_putBack_74 rfl ?_
      refine r_iload_n (pc' := 78) (f4 := 1) (i := 1) C 1 rfl rfl dX12_putBack_77 rfl ?_
      obtain ⟨hi, hf⟩ := ck_in hf
      refine r_iald (pc' := 79) C (K_212 hF) rfl hi dX12_putBack_78 rfl ?_
      obtain ⟨hi, hf⟩ := ck_in hf
      refine r_iast (pc' := 80) C (K_199 hF) rfl hi dX12_putBack_79 rfl ?_
      refine r_iinc (pc' := 83) (i := 1) (L' := [(1, zI (x1 + 1)), (0, zP bs 193)]) C 1 rfl (by decide) rfl dX12_putBack_80 rfl ?_
      refine r_goto (tgt := 51) C dX12_putBack_83 (by decide) ?_
      refine V.sub (L' := [(0, zP bs 193), (1, zI (x1 + 1))]) [1, 0] rfl ?_
      exact ih51 _ _ hf
    · cases hf
      exact r_vret C dX12_putBack_86
set_option maxHeartbeats 4000000 in
set_option maxRecDepth 100000 in
theorem t_m_putBack {S : SS} (hF : Fx S) {h : HH} {res : HH} (hf : m_putBack h = some res) : CM yX12_putBack cX12_putBack 2 (Option.none : Option Jvm.ClassFile.FieldType) 0 0 0 0 (fun bs => [zP bs 193]) h S (fun _ => none) res S := by
  refine CM.intro (own := RX12) (by decide) rfl (fun _ => Nat.le_of_ble_eq_true rfl) ?_
  intro D dT bs p l e s m args below meth c C
  show V D dT bs 2 p l e rm_m_putBack s m args below meth c 0 0 _ h S 0 [(0, zP bs 193)] []
  unfold m_putBack at hf
  refine r_aload_n (pc' := 1) (f4 := 0) (i := 0) C 0 rfl rfl dX12_putBack_0 rfl ?_
  refine r_sipush (pc' := 4) C rfl dX12_putBack_1 rfl ?_
  refine q_putI (pc' := 7) (j := 27) C (K_193 hF) fb_12_27 fp_12_27 wd_1198 (Or.inl rfl) (Or.inl rfl) rfl rfl dX12_putBack_4 rfl ?_
  refine r_aload_n (pc' := 8) (f4 := 0) (i := 0) C 0 rfl rfl dX12_putBack_7 rfl ?_
  refine r_aload_n (pc' := 9) (f4 := 0) (i := 0) C 0 rfl rfl dX12_putBack_8 rfl ?_
  refine q_getI (pc' := 12) (j := 28) C (K_193 hF) fb_12_28 wd_1199 (Or.inl rfl) dX12_putBack_9 rfl ?_
  refine q_putI (pc' := 15) (j := 1) C (K_193 hF) fb_12_1 fp_12_1 wd_1172 (Or.inl rfl) (Or.inl rfl) rfl rfl dX12_putBack_12 rfl ?_
  refine r_aload_n (pc' := 16) (f4 := 0) (i := 0) C 0 rfl rfl dX12_putBack_15 rfl ?_
  refine r_aload_n (pc' := 17) (f4 := 0) (i := 0) C 0 rfl rfl dX12_putBack_16 rfl ?_
  refine q_getI (pc' := 20) (j := 29) C (K_193 hF) fb_12_29 wd_1200 (Or.inl rfl) dX12_putBack_17 rfl ?_
  refine q_putI (pc' := 23) (j := 2) C (K_193 hF) fb_12_2 fp_12_2 wd_1173 (Or.inl rfl) (Or.inl rfl) rfl rfl dX12_putBack_20 rfl ?_
  refine r_iconst (pc' := 24) C dX12_putBack_23 rfl ?_
  refine r_istore_n (pc' := 25) (f4 := 1) (i := 1) (L' := [(1, zI 0), (0, zP bs 193)]) C rfl (by decide) rfl dX12_putBack_24 rfl ?_
  refine V.sub (L' := [(0, zP bs 193), (1, zI 0)]) [1, 0] rfl ?_
  refine w_m_putBack_L25 hF C _ ?_ _ _ _ hf
  intro h1 hf
  refine r_iconst (pc' := 50) C dX12_putBack_49 rfl ?_
  refine r_istore_n (pc' := 51) (f4 := 1) (i := 1) (L' := [(1, zI 0), (0, zP bs 193)]) C rfl (by decide) rfl dX12_putBack_50 rfl ?_
  refine V.sub (L' := [(0, zP bs 193), (1, zI 0)]) [1, 0] rfl ?_
  refine w_m_putBack_L51 hF C _ _ _ hf

/- WassailEnemiesModel.lasts(II)I -/
def m_lasts_L6 (x1 : Int) (x2 : Int) : Nat → HH → Int → Option (Int × HH)
  | 0, _, _ => none
  | n6 + 1, h, x3 =>
    if ww x3 < 60 then ((m_bears h x1 x2).bind fun q2 => if ww q2.1 = 0 then ((m_putBack q2.2).bind fun q3 => some (x3, q3)) else ((m_wears q2.2 x1 x2).bind fun q4 => m_lasts_L6 x1 x2 n6 (u2 q4 193 2 ((q4 193 2) + 1)) (x3 + 1))) else ((m_putBack h).bind fun q5 => some (x3, q5))
def m_lasts (h : HH) (a1 : Int) (a2 : Int) : Option (Int × HH) :=
  (m_save h).bind fun q1 => m_lasts_L6 a1 a2 FU q1 0
abbrev rm_m_lasts : Room := { frames := 5, cells := 0, slots := 0, locals := 122 }
set_option maxHeartbeats 4000000 in
set_option maxRecDepth 100000 in
theorem w_m_lasts_L6 (hF : Fx S) (C : Cx D dT bs RX12 cX12_lasts 4 (some Jvm.ClassFile.FieldType.int) p s m args meth c) (x1 : Int) (x2 : Int) {res : (Int × HH)} :
    ∀ (n : Nat) (h : HH) (x3 : Int), m_lasts_L6 x1 x2 n h x3 = some res → V D dT bs 4 p l e rm_m_lasts s m args below meth c 0 0 (MQ below (QQ D dT bs (some (zI res.1)) res.2 S) args s 0 0 (AA bs)) h S 6 [(0, zP bs 193), (1, zI x1), (2, zI x2), (3, zI x3)] [] := by
  intro n
  induction n with
  | zero => intro h x3 hf; simp [m_lasts_L6] at hf
  | succ n6 ih6 =>
    intro h x3 hf
    rw [m_lasts_L6] at hf
    refine r_iload_n (pc' := 7) (f4 := 3) (i := 3) C 3 rfl rfl dX12_lasts_6 rfl ?_
    refine r_bipush (pc' := 9) C rfl dX12_lasts_7 rfl ?_
    refine r_icmp_ge (pc' := 12) (tgt := 43) C rfl ww_n60 hf dX12_lasts_9 (by decide) rfl (fun hf => ?_) (fun hf => ?_)
    · refine r_aload_n (pc' := 13) (f4 := 0) (i := 0) C 0 rfl rfl dX12_lasts_12 rfl ?_
      refine r_iload_n (pc' := 14) (f4 := 1) (i := 1) C 1 rfl rfl dX12_lasts_13 rfl ?_
      refine r_iload_n (pc' := 15) (f4 := 2) (i := 2) C 2 rfl rfl dX12_lasts_14 rfl ?_
      obtain ⟨q2, hq2, hf⟩ := bind_in hf
      refine q_callV (pc' := 18) C (t_m_bears hF hq2) rfl (K_193 hF) cl_12 wv_RX12_343 ⟨Nat.le_of_ble_eq_true rfl, Nat.le_of_ble_eq_true rfl⟩ rfl rfl (Nat.le_of_ble_eq_true rfl) dX12_lasts_15 rfl ⟨Nat.le_of_ble_eq_true rfl, Nat.le_of_ble_eq_true rfl⟩ ?_
      refine r_if_eq (pc' := 21) (tgt := 43) C rfl hf dX12_lasts_18 (by decide) rfl (fun hf => ?_) (fun hf => ?_)
      · refine r_aload_n (pc' := 44) (f4 := 0) (i := 0) C 0 rfl rfl dX12_lasts_43 rfl ?_
        obtain ⟨q3, hq3, hf⟩ := bind_in hf
        refine q_callVv (pc' := 47) C (t_m_putBack hF hq3) rfl (K_193 hF) cl_12 wv_RX12_371 ⟨Nat.le_of_ble_eq_true rfl, Nat.le_of_ble_eq_true rfl⟩ rfl rfl (Nat.le_of_ble_eq_true rfl) dX12_lasts_44 rfl ⟨Nat.le_of_ble_eq_true rfl, Nat.le_of_ble_eq_true rfl⟩ ?_
        refine r_iload_n (pc' := 48) (f4 := 3) (i := 3) C 3 rfl rfl dX12_lasts_47 rfl ?_
        cases hf
        exact r_iret C dX12_lasts_48
      · refine r_aload_n (pc' := 22) (f4 := 0) (i := 0) C 0 rfl rfl dX12_lasts_21 rfl ?_
        refine r_iload_n (pc' := 23) (f4 := 1) (i := 1) C 1 rfl rfl dX12_lasts_22 rfl ?_
        refine r_iload_n (pc' := 24) (f4 := 2) (i := 2) C 2 rfl rfl dX12_lasts_23 rfl ?_
        obtain ⟨q4, hq4, hf⟩ := bind_in hf
        refine q_callVv (pc' := 27) C (t_m_wears hF hq4) rfl (K_193 hF) cl_12 wv_RX12_355 ⟨Nat.le_of_ble_eq_true rfl, Nat.le_of_ble_eq_true rfl⟩ rfl rfl (Nat.le_of_ble_eq_true rfl) dX12_lasts_24 rfl ⟨Nat.le_of_ble_eq_true rfl, Nat.le_of_ble_eq_true rfl⟩ ?_
        refine r_aload_n (pc' := 28) (f4 := 0) (i := 0) C 0 rfl rfl dX12_lasts_27 rfl ?_
        refine r_dup (pc' := 29) C rfl dX12_lasts_28 rfl ?_
        refine q_getI (pc' := 32) (j := 2) C (K_193 hF) fb_12_2 wd_1173 (Or.inl rfl) dX12_lasts_29 rfl ?_
        refine r_iconst (pc' := 33) C dX12_lasts_32 rfl ?_
        refine r_iadd (pc' := 34) C dX12_lasts_33 rfl ?_
        refine q_putI (pc' := 37) (j := 2) C (K_193 hF) fb_12_2 fp_12_2 wd_1173 (Or.inl rfl) (Or.inl rfl) rfl rfl dX12_lasts_34 rfl ?_
        refine r_iinc (pc' := 40) (i := 3) (L' := [(3, zI (x3 + 1)), (0, zP bs 193), (1, zI x1), (2, zI x2)]) C 3 rfl (by decide) rfl dX12_lasts_37 rfl ?_
        refine r_goto (tgt := 6) C dX12_lasts_40 (by decide) ?_
        refine V.sub (L' := [(0, zP bs 193), (1, zI x1), (2, zI x2), (3, zI (x3 + 1))]) [1, 2, 3, 0] rfl ?_
        exact ih6 _ _ hf
    · refine r_aload_n (pc' := 44) (f4 := 0) (i := 0) C 0 rfl rfl dX12_lasts_43 rfl ?_
      obtain ⟨q5, hq5, hf⟩ := bind_in hf
      refine q_callVv (pc' := 47) C (t_m_putBack hF hq5) rfl (K_193 hF) cl_12 wv_RX12_371 ⟨Nat.le_of_ble_eq_true rfl, Nat.le_of_ble_eq_true rfl⟩ rfl rfl (Nat.le_of_ble_eq_true rfl) dX12_lasts_44 rfl ⟨Nat.le_of_ble_eq_true rfl, Nat.le_of_ble_eq_true rfl⟩ ?_
      refine r_iload_n (pc' := 48) (f4 := 3) (i := 3) C 3 rfl rfl dX12_lasts_47 rfl ?_
      cases hf
      exact r_iret C dX12_lasts_48
set_option maxHeartbeats 4000000 in
set_option maxRecDepth 100000 in
theorem t_m_lasts {S : SS} (hF : Fx S) {h : HH} {a1 : Int} {a2 : Int} {res : Int × HH} (hf : m_lasts h a1 a2 = some res) : CM yX12_lasts cX12_lasts 4 (some Jvm.ClassFile.FieldType.int) 5 122 0 0 (fun bs => [zP bs 193, zI a1, zI a2]) h S (fun _ => some (zI res.1)) res.2 S := by
  refine CM.intro (own := RX12) (by decide) rfl (fun _ => Nat.le_of_ble_eq_true rfl) ?_
  intro D dT bs p l e s m args below meth c C
  show V D dT bs 4 p l e rm_m_lasts s m args below meth c 0 0 _ h S 0 [(0, zP bs 193), (1, zI a1), (2, zI a2)] []
  unfold m_lasts at hf
  refine r_aload_n (pc' := 1) (f4 := 0) (i := 0) C 0 rfl rfl dX12_lasts_0 rfl ?_
  obtain ⟨q1, hq1, hf⟩ := bind_in hf
  refine q_callVv (pc' := 4) C (t_m_save hF hq1) rfl (K_193 hF) cl_12 wv_RX12_368 ⟨Nat.le_of_ble_eq_true rfl, Nat.le_of_ble_eq_true rfl⟩ rfl rfl (Nat.le_of_ble_eq_true rfl) dX12_lasts_1 rfl ⟨Nat.le_of_ble_eq_true rfl, Nat.le_of_ble_eq_true rfl⟩ ?_
  refine r_iconst (pc' := 5) C dX12_lasts_4 rfl ?_
  refine r_istore_n (pc' := 6) (f4 := 3) (i := 3) (L' := [(3, zI 0), (0, zP bs 193), (1, zI a1), (2, zI a2)]) C rfl (by decide) rfl dX12_lasts_5 rfl ?_
  refine V.sub (L' := [(0, zP bs 193), (1, zI a1), (2, zI a2), (3, zI 0)]) [1, 2, 3, 0] rfl ?_
  refine w_m_lasts_L6 hF C _ _ _ _ _ hf

/- WassailEnemiesModel.whereLeads(I)I -/
def m_whereLeads_L2 (h : HH) (x1 : Int) : Nat → Int → Option Int
  | 0, _ => none
  | n2 + 1, x2 =>
    if ww x2 < 5 then (ck (ww x2) 5 <| if ww (h 199 (ww x2)) = ww x1 then (some x2) else (m_whereLeads_L2 h x1 n2 (x2 + 1))) else (some (-5))
def m_whereLeads (h : HH) (a1 : Int) : Option Int :=
  m_whereLeads_L2 h a1 FU 0
abbrev rm_m_whereLeads : Room := { frames := 0, cells := 0, slots := 0, locals := 0 }
set_option maxHeartbeats 4000000 in
set_option maxRecDepth 100000 in
theorem w_m_whereLeads_L2 (hF : Fx S) (C : Cx D dT bs RX12 cX12_whereLeads 3 (some Jvm.ClassFile.FieldType.int) p s m args meth c) {h : HH} (x1 : Int) {res : Int} :
    ∀ (n : Nat) (x2 : Int), m_whereLeads_L2 h x1 n x2 = some res → V D dT bs 3 p l e rm_m_whereLeads s m args below meth c 0 0 (MQ below (QQ D dT bs (some (zI res)) h S) args s 0 0 (AA bs)) h S 2 [(0, zP bs 193), (1, zI x1), (2, zI x2)] [] := by
  intro n
  induction n with
  | zero => intro x2 hf; simp [m_whereLeads_L2] at hf
  | succ n2 ih2 =>
    intro x2 hf
    rw [m_whereLeads_L2] at hf
    refine r_iload_n (pc' := 3) (f4 := 2) (i := 2) C 2 rfl rfl dX12_whereLeads_2 rfl ?_
    refine r_iconst (pc' := 4) C dX12_whereLeads_3 rfl ?_
    refine r_icmp_ge (pc' := 7) (tgt := 25) C rfl ww_n5 hf dX12_whereLeads_4 (by decide) rfl (fun hf => ?_) (fun hf => ?_)
    · refine r_aload_n (pc' := 8) (f4 := 0) (i := 0) C 0 rfl rfl dX12_whereLeads_7 rfl ?_
      refine q_getP (pc' := 11) (j := 8) C (K_193 hF) fb_12_8 (by decide) wd_1179 (Or.inl rfl) (F_193_8 hF) (by decide) dX12_whereLeads_8 rfl ?_
      refine r_iload_n (pc' := 12) (f4 := 2) (i := 2) C 2 rfl rfl dX12_whereLeads_11 rfl ?_
      obtain ⟨hi, hf⟩ := ck_in hf
      refine r_iald (pc' := 13) C (K_199 hF) rfl hi dX12_whereLeads_12 rfl ?_
      refine r_iload_n (pc' := 14) (f4 := 1) (i := 1) C 1 rfl rfl dX12_whereLeads_13 rfl ?_
      refine r_icmp_ne (pc' := 17) (tgt := 19) C rfl rfl hf dX12_whereLeads_14 (by decide) rfl (fun hf => ?_) (fun hf => ?_)
      · refine r_iload_n (pc' := 18) (f4 := 2) (i := 2) C 2 rfl rfl dX12_whereLeads_17 rfl ?_
        cases hf
        exact r_iret C dX12_whereLeads_18
      · refine r_iinc (pc' := 22) (i := 2) (L' := [(2, zI (x2 + 1)), (0, zP bs 193), (1, zI x1)]) C 2 rfl (by decide) rfl dX12_whereLeads_19 rfl ?_
        refine r_goto (tgt := 2) C dX12_whereLeads_22 (by decide) ?_
        refine V.sub (L' := [(0, zP bs 193), (1, zI x1), (2, zI (x2 + 1))]) [1, 2, 0] rfl ?_
        exact ih2 _ hf
    · refine r_bipush (pc' := 27) C rfl dX12_whereLeads_25 rfl ?_
      cases hf
      exact r_iret C dX12_whereLeads_27
set_option maxHeartbeats 4000000 in
set_option maxRecDepth 100000 in
theorem t_m_whereLeads {S : SS} (hF : Fx S) {h : HH} {a1 : Int} {res : Int} (hf : m_whereLeads h a1 = some res) : CM yX12_whereLeads cX12_whereLeads 3 (some Jvm.ClassFile.FieldType.int) 0 0 0 0 (fun bs => [zP bs 193, zI a1]) h S (fun _ => some (zI res)) h S := by
  refine CM.intro (own := RX12) (by decide) rfl (fun _ => Nat.le_of_ble_eq_true rfl) ?_
  intro D dT bs p l e s m args below meth c C
  show V D dT bs 3 p l e rm_m_whereLeads s m args below meth c 0 0 _ h S 0 [(0, zP bs 193), (1, zI a1)] []
  unfold m_whereLeads at hf
  refine r_iconst (pc' := 1) C dX12_whereLeads_0 rfl ?_
  refine r_istore_n (pc' := 2) (f4 := 2) (i := 2) (L' := [(2, zI 0), (0, zP bs 193), (1, zI a1)]) C rfl (by decide) rfl dX12_whereLeads_1 rfl ?_
  refine V.sub (L' := [(0, zP bs 193), (1, zI a1), (2, zI 0)]) [1, 2, 0] rfl ?_
  refine w_m_whereLeads_L2 hF C _ _ _ hf

/- WassailEnemiesModel.of(II)I -/
def m_of (h : HH) (a1 : Int) (a2 : Int) : Option (Int × HH) :=
  if ww (m_isHater h a1) = 0 then (some (-10001, h)) else (if ww (m_in a2 10 14) = 0 then (if ww (m_in a2 20 24) = 0 then (if ww (m_in a2 30 34) = 0 then (if ww a2 = 0 then (ck (ww a1) 6 <| some (h 194 (ww a1), h)) else (if ww a2 = 1 then (ck (ww a1) 6 <| some (h 195 (ww a1), h)) else (if ww a2 = 2 then (if ww (m_has (h 193 1) a1) = 0 then (some (0, h)) else (some (1, h))) else (if ww a2 = 3 then ((m_whereLeads h a1).bind fun q1 => some (q1, h)) else (some (-10001, h)))))) else ((m_lasts h a1 (a2 - 30)).bind fun q2 => some (q2.1, q2.2))) else ((m_force h a1 (a2 - 20)).bind fun q3 => some (q3.1, q3.2))) else (ck (ww (((5 * a1) + a2) - 10)) 30 <| some (h 196 (ww (((5 * a1) + a2) - 10)), h)))
abbrev rm_m_of : Room := { frames := 6, cells := 0, slots := 0, locals := 145 }
set_option maxHeartbeats 4000000 in
set_option maxRecDepth 100000 in
theorem t_m_of {S : SS} (hF : Fx S) {h : HH} {a1 : Int} {a2 : Int} {res : Int × HH} (hf : m_of h a1 a2 = some res) : CM yX12_of cX12_of 3 (some Jvm.ClassFile.FieldType.int) 6 145 0 0 (fun bs => [zP bs 193, zI a1, zI a2]) h S (fun _ => some (zI res.1)) res.2 S := by
  refine CM.intro (own := RX12) (by decide) rfl (fun _ => Nat.le_of_ble_eq_true rfl) ?_
  intro D dT bs p l e s m args below meth c C
  show V D dT bs 3 p l e rm_m_of s m args below meth c 0 0 _ h S 0 [(0, zP bs 193), (1, zI a1), (2, zI a2)] []
  unfold m_of at hf
  refine r_aload_n (pc' := 1) (f4 := 0) (i := 0) C 0 rfl rfl dX12_of_0 rfl ?_
  refine r_iload_n (pc' := 2) (f4 := 1) (i := 1) C 1 rfl rfl dX12_of_1 rfl ?_
  refine q_callV (pc' := 5) C (t_m_isHater hF) rfl (K_193 hF) cl_12 wv_RX12_253 ⟨Nat.le_of_ble_eq_true rfl, Nat.le_of_ble_eq_true rfl⟩ rfl rfl (Nat.le_of_ble_eq_true rfl) dX12_of_2 rfl ⟨Nat.le_of_ble_eq_true rfl, Nat.le_of_ble_eq_true rfl⟩ ?_
  refine r_if_ne (pc' := 8) (tgt := 12) C rfl hf dX12_of_5 (by decide) rfl (fun hf => ?_) (fun hf => ?_)
  · refine r_sipush (pc' := 11) C rfl dX12_of_8 rfl ?_
    cases hf
    exact r_iret C dX12_of_11
  · refine r_aload_n (pc' := 13) (f4 := 0) (i := 0) C 0 rfl rfl dX12_of_12 rfl ?_
    refine r_iload_n (pc' := 14) (f4 := 2) (i := 2) C 2 rfl rfl dX12_of_13 rfl ?_
    refine r_bipush (pc' := 16) C rfl dX12_of_14 rfl ?_
    refine r_bipush (pc' := 18) C rfl dX12_of_16 rfl ?_
    refine q_callV (pc' := 21) C (t_m_in hF) rfl (K_193 hF) cl_12 wv_RX12_245 ⟨Nat.le_of_ble_eq_true rfl, Nat.le_of_ble_eq_true rfl⟩ rfl rfl (Nat.le_of_ble_eq_true rfl) dX12_of_18 rfl ⟨Nat.le_of_ble_eq_true rfl, Nat.le_of_ble_eq_true rfl⟩ ?_
    refine r_if_eq (pc' := 24) (tgt := 38) C rfl hf dX12_of_21 (by decide) rfl (fun hf => ?_) (fun hf => ?_)
    · refine r_aload_n (pc' := 39) (f4 := 0) (i := 0) C 0 rfl rfl dX12_of_38 rfl ?_
      refine r_iload_n (pc' := 40) (f4 := 2) (i := 2) C 2 rfl rfl dX12_of_39 rfl ?_
      refine r_bipush (pc' := 42) C rfl dX12_of_40 rfl ?_
      refine r_bipush (pc' := 44) C rfl dX12_of_42 rfl ?_
      refine q_callV (pc' := 47) C (t_m_in hF) rfl (K_193 hF) cl_12 wv_RX12_245 ⟨Nat.le_of_ble_eq_true rfl, Nat.le_of_ble_eq_true rfl⟩ rfl rfl (Nat.le_of_ble_eq_true rfl) dX12_of_44 rfl ⟨Nat.le_of_ble_eq_true rfl, Nat.le_of_ble_eq_true rfl⟩ ?_
      refine r_if_eq (pc' := 50) (tgt := 60) C rfl hf dX12_of_47 (by decide) rfl (fun hf => ?_) (fun hf => ?_)
      · refine r_aload_n (pc' := 61) (f4 := 0) (i := 0) C 0 rfl rfl dX12_of_60 rfl ?_
        refine r_iload_n (pc' := 62) (f4 := 2) (i := 2) C 2 rfl rfl dX12_of_61 rfl ?_
        refine r_bipush (pc' := 64) C rfl dX12_of_62 rfl ?_
        refine r_bipush (pc' := 66) C rfl dX12_of_64 rfl ?_
        refine q_callV (pc' := 69) C (t_m_in hF) rfl (K_193 hF) cl_12 wv_RX12_245 ⟨Nat.le_of_ble_eq_true rfl, Nat.le_of_ble_eq_true rfl⟩ rfl rfl (Nat.le_of_ble_eq_true rfl) dX12_of_66 rfl ⟨Nat.le_of_ble_eq_true rfl, Nat.le_of_ble_eq_true rfl⟩ ?_
        refine r_if_eq (pc' := 72) (tgt := 82) C rfl hf dX12_of_69 (by decide) rfl (fun hf => ?_) (fun hf => ?_)
        · refine r_iload_n (pc' := 83) (f4 := 2) (i := 2) C 2 rfl rfl dX12_of_82 rfl ?_
          by_cases cs0 : ww a2 = 0
          · rw [if_pos cs0] at hf
            refine r_tsIn (tgt := 112) C 0 cs0 dX12_of_83 (by decide) (by decide) rfl (by decide) ?_
            refine r_aload_n (pc' := 113) (f4 := 0) (i := 0) C 0 rfl rfl dX12_of_112 rfl ?_
            refine q_getP (pc' := 116) (j := 3) C (K_193 hF) fb_12_3 (by decide) wd_1174 (Or.inl rfl) (F_193_3 hF) (by decide) dX12_of_113 rfl ?_
            refine r_iload_n (pc' := 117) (f4 := 1) (i := 1) C 1 rfl rfl dX12_of_116 rfl ?_
            obtain ⟨hi, hf⟩ := ck_in hf
            refine r_iald (pc' := 118) C (K_194 hF) rfl hi dX12_of_117 rfl ?_
            cases hf
            exact r_iret C dX12_of_118
          · rw [if_neg cs0] at hf
            by_cases cs1 : ww a2 = 1
            · rw [if_pos cs1] at hf
              refine r_tsIn (tgt := 119) C 1 cs1 dX12_of_83 (by decide) (by decide) rfl (by decide) ?_
              refine r_aload_n (pc' := 120) (f4 := 0) (i := 0) C 0 rfl rfl dX12_of_119 rfl ?_
              refine q_getP (pc' := 123) (j := 4) C (K_193 hF) fb_12_4 (by decide) wd_1175 (Or.inl rfl) (F_193_4 hF) (by decide) dX12_of_120 rfl ?_
              refine r_iload_n (pc' := 124) (f4 := 1) (i := 1) C 1 rfl rfl dX12_of_123 rfl ?_
              obtain ⟨hi, hf⟩ := ck_in hf
              refine r_iald (pc' := 125) C (K_195 hF) rfl hi dX12_of_124 rfl ?_
              cases hf
              exact r_iret C dX12_of_125
            · rw [if_neg cs1] at hf
              by_cases cs2 : ww a2 = 2
              · rw [if_pos cs2] at hf
                refine r_tsIn (tgt := 126) C 2 cs2 dX12_of_83 (by decide) (by decide) rfl (by decide) ?_
                refine r_aload_n (pc' := 127) (f4 := 0) (i := 0) C 0 rfl rfl dX12_of_126 rfl ?_
                refine r_aload_n (pc' := 128) (f4 := 0) (i := 0) C 0 rfl rfl dX12_of_127 rfl ?_
                refine q_getI (pc' := 131) (j := 1) C (K_193 hF) fb_12_1 wd_1172 (Or.inl rfl) dX12_of_128 rfl ?_
                refine r_iload_n (pc' := 132) (f4 := 1) (i := 1) C 1 rfl rfl dX12_of_131 rfl ?_
                refine q_callV (pc' := 135) C (t_m_has hF) rfl (K_193 hF) cl_12 wv_RX12_263 ⟨Nat.le_of_ble_eq_true rfl, Nat.le_of_ble_eq_true rfl⟩ rfl rfl (Nat.le_of_ble_eq_true rfl) dX12_of_132 rfl ⟨Nat.le_of_ble_eq_true rfl, Nat.le_of_ble_eq_true rfl⟩ ?_
                refine r_if_eq (pc' := 138) (tgt := 142) C rfl hf dX12_of_135 (by decide) rfl (fun hf => ?_) (fun hf => ?_)
                · refine r_iconst (pc' := 143) C dX12_of_142 rfl ?_
                  cases hf
                  exact r_iret C dX12_of_143
                · refine r_iconst (pc' := 139) C dX12_of_138 rfl ?_
                  refine r_goto (tgt := 143) C dX12_of_139 (by decide) ?_
                  cases hf
                  exact r_iret C dX12_of_143
              · rw [if_neg cs2] at hf
                by_cases cs3 : ww a2 = 3
                · rw [if_pos cs3] at hf
                  refine r_tsIn (tgt := 144) C 3 cs3 dX12_of_83 (by decide) (by decide) rfl (by decide) ?_
                  refine r_aload_n (pc' := 145) (f4 := 0) (i := 0) C 0 rfl rfl dX12_of_144 rfl ?_
                  refine r_iload_n (pc' := 146) (f4 := 1) (i := 1) C 1 rfl rfl dX12_of_145 rfl ?_
                  obtain ⟨q1, hq1, hf⟩ := bind_in hf
                  refine q_callV (pc' := 149) C (t_m_whereLeads hF hq1) rfl (K_193 hF) cl_12 wv_RX12_377 ⟨Nat.le_of_ble_eq_true rfl, Nat.le_of_ble_eq_true rfl⟩ rfl rfl (Nat.le_of_ble_eq_true rfl) dX12_of_146 rfl ⟨Nat.le_of_ble_eq_true rfl, Nat.le_of_ble_eq_true rfl⟩ ?_
                  cases hf
                  exact r_iret C dX12_of_149
                · rw [if_neg cs3] at hf
                  refine r_tsOut (tgt := 150) C dX12_of_83 (by omega) (by decide) ?_
                  refine r_sipush (pc' := 153) C rfl dX12_of_150 rfl ?_
                  cases hf
                  exact r_iret C dX12_of_153
        · refine r_aload_n (pc' := 73) (f4 := 0) (i := 0) C 0 rfl rfl dX12_of_72 rfl ?_
          refine r_iload_n (pc' := 74) (f4 := 1) (i := 1) C 1 rfl rfl dX12_of_73 rfl ?_
          refine r_iload_n (pc' := 75) (f4 := 2) (i := 2) C 2 rfl rfl dX12_of_74 rfl ?_
          refine r_bipush (pc' := 77) C rfl dX12_of_75 rfl ?_
          refine r_isub (pc' := 78) C dX12_of_77 rfl ?_
          obtain ⟨q2, hq2, hf⟩ := bind_in hf
          refine q_callV (pc' := 81) C (t_m_lasts hF hq2) rfl (K_193 hF) cl_12 wv_RX12_374 ⟨Nat.le_of_ble_eq_true rfl, Nat.le_of_ble_eq_true rfl⟩ rfl rfl (Nat.le_of_ble_eq_true rfl) dX12_of_78 rfl ⟨Nat.le_of_ble_eq_true rfl, Nat.le_of_ble_eq_true rfl⟩ ?_
          cases hf
          exact r_iret C dX12_of_81
      · refine r_aload_n (pc' := 51) (f4 := 0) (i := 0) C 0 rfl rfl dX12_of_50 rfl ?_
        refine r_iload_n (pc' := 52) (f4 := 1) (i := 1) C 1 rfl rfl dX12_of_51 rfl ?_
        refine r_iload_n (pc' := 53) (f4 := 2) (i := 2) C 2 rfl rfl dX12_of_52 rfl ?_
        refine r_bipush (pc' := 55) C rfl dX12_of_53 rfl ?_
        refine r_isub (pc' := 56) C dX12_of_55 rfl ?_
        obtain ⟨q3, hq3, hf⟩ := bind_in hf
        refine q_callV (pc' := 59) C (t_m_force hF hq3) rfl (K_193 hF) cl_12 wv_RX12_337 ⟨Nat.le_of_ble_eq_true rfl, Nat.le_of_ble_eq_true rfl⟩ rfl rfl (Nat.le_of_ble_eq_true rfl) dX12_of_56 rfl ⟨Nat.le_of_ble_eq_true rfl, Nat.le_of_ble_eq_true rfl⟩ ?_
        cases hf
        exact r_iret C dX12_of_59
    · refine r_aload_n (pc' := 25) (f4 := 0) (i := 0) C 0 rfl rfl dX12_of_24 rfl ?_
      refine q_getP (pc' := 28) (j := 5) C (K_193 hF) fb_12_5 (by decide) wd_1176 (Or.inl rfl) (F_193_5 hF) (by decide) dX12_of_25 rfl ?_
      refine r_iconst (pc' := 29) C dX12_of_28 rfl ?_
      refine r_iload_n (pc' := 30) (f4 := 1) (i := 1) C 1 rfl rfl dX12_of_29 rfl ?_
      refine r_imul (pc' := 31) C dX12_of_30 rfl ?_
      refine r_iload_n (pc' := 32) (f4 := 2) (i := 2) C 2 rfl rfl dX12_of_31 rfl ?_
      refine r_iadd (pc' := 33) C dX12_of_32 rfl ?_
      refine r_bipush (pc' := 35) C rfl dX12_of_33 rfl ?_
      refine r_isub (pc' := 36) C dX12_of_35 rfl ?_
      obtain ⟨hi, hf⟩ := ck_in hf
      refine r_iald (pc' := 37) C (K_196 hF) rfl hi dX12_of_36 rfl ?_
      cases hf
      exact r_iret C dX12_of_37

/- WassailEnemiesModel.allBore()I -/
def m_allBore_L4 (h : HH) : Nat → Int → Int → Option Int
  | 0, _, _ => none
  | n4 + 1, x1, x2 =>
    if ww x2 < 5 then (ck (ww x2) 5 <| m_allBore_L4 h n4 (x1 + (h 198 (ww x2))) (x2 + 1)) else (some x1)
def m_allBore (h : HH) : Option Int :=
  m_allBore_L4 h FU 0 0
abbrev rm_m_allBore : Room := { frames := 0, cells := 0, slots := 0, locals := 0 }
set_option maxHeartbeats 4000000 in
set_option maxRecDepth 100000 in
theorem w_m_allBore_L4 (hF : Fx S) (C : Cx D dT bs RX12 cX12_allBore 3 (some Jvm.ClassFile.FieldType.int) p s m args meth c) {h : HH} {res : Int} :
    ∀ (n : Nat) (x1 : Int) (x2 : Int), m_allBore_L4 h n x1 x2 = some res → V D dT bs 3 p l e rm_m_allBore s m args below meth c 0 0 (MQ below (QQ D dT bs (some (zI res)) h S) args s 0 0 (AA bs)) h S 4 [(0, zP bs 193), (1, zI x1), (2, zI x2)] [] := by
  intro n
  induction n with
  | zero => intro x1 x2 hf; simp [m_allBore_L4] at hf
  | succ n4 ih4 =>
    intro x1 x2 hf
    rw [m_allBore_L4] at hf
    refine r_iload_n (pc' := 5) (f4 := 2) (i := 2) C 2 rfl rfl dX12_allBore_4 rfl ?_
    refine r_iconst (pc' := 6) C dX12_allBore_5 rfl ?_
    refine r_icmp_ge (pc' := 9) (tgt := 24) C rfl ww_n5 hf dX12_allBore_6 (by decide) rfl (fun hf => ?_) (fun hf => ?_)
    · refine r_iload_n (pc' := 10) (f4 := 1) (i := 1) C 1 rfl rfl dX12_allBore_9 rfl ?_
      refine r_aload_n (pc' := 11) (f4 := 0) (i := 0) C 0 rfl rfl dX12_allBore_10 rfl ?_
      refine q_getP (pc' := 14) (j := 7) C (K_193 hF) fb_12_7 (by decide) wd_1178 (Or.inl rfl) (F_193_7 hF) (by decide) dX12_allBore_11 rfl ?_
      refine r_iload_n (pc' := 15) (f4 := 2) (i := 2) C 2 rfl rfl dX12_allBore_14 rfl ?_
      obtain ⟨hi, hf⟩ := ck_in hf
      refine r_iald (pc' := 16) C (K_198 hF) rfl hi dX12_allBore_15 rfl ?_
      refine r_iadd (pc' := 17) C dX12_allBore_16 rfl ?_
      refine r_istore_n (pc' := 18) (f4 := 1) (i := 1) (L' := [(1, zI (x1 + (h 198 (ww x2)))), (0, zP bs 193), (2, zI x2)]) C rfl (by decide) rfl dX12_allBore_17 rfl ?_
      refine r_iinc (pc' := 21) (i := 2) (L' := [(2, zI (x2 + 1)), (1, zI (x1 + (h 198 (ww x2)))), (0, zP bs 193)]) C 2 rfl (by decide) rfl dX12_allBore_18 rfl ?_
      refine r_goto (tgt := 4) C dX12_allBore_21 (by decide) ?_
      refine V.sub (L' := [(0, zP bs 193), (1, zI (x1 + (h 198 (ww x2)))), (2, zI (x2 + 1))]) [2, 1, 0] rfl ?_
      exact ih4 _ _ hf
    · refine r_iload_n (pc' := 25) (f4 := 1) (i := 1) C 1 rfl rfl dX12_allBore_24 rfl ?_
      cases hf
      exact r_iret C dX12_allBore_25
set_option maxHeartbeats 4000000 in
set_option maxRecDepth 100000 in
theorem t_m_allBore {S : SS} (hF : Fx S) {h : HH} {res : Int} (hf : m_allBore h = some res) : CM yX12_allBore cX12_allBore 3 (some Jvm.ClassFile.FieldType.int) 0 0 0 0 (fun bs => [zP bs 193]) h S (fun _ => some (zI res)) h S := by
  refine CM.intro (own := RX12) (by decide) rfl (fun _ => Nat.le_of_ble_eq_true rfl) ?_
  intro D dT bs p l e s m args below meth c C
  show V D dT bs 3 p l e rm_m_allBore s m args below meth c 0 0 _ h S 0 [(0, zP bs 193)] []
  unfold m_allBore at hf
  refine r_iconst (pc' := 1) C dX12_allBore_0 rfl ?_
  refine r_istore_n (pc' := 2) (f4 := 1) (i := 1) (L' := [(1, zI 0), (0, zP bs 193)]) C rfl (by decide) rfl dX12_allBore_1 rfl ?_
  refine r_iconst (pc' := 3) C dX12_allBore_2 rfl ?_
  refine r_istore_n (pc' := 4) (f4 := 2) (i := 2) (L' := [(2, zI 0), (1, zI 0), (0, zP bs 193)]) C rfl (by decide) rfl dX12_allBore_3 rfl ?_
  refine V.sub (L' := [(0, zP bs 193), (1, zI 0), (2, zI 0)]) [2, 1, 0] rfl ?_
  refine w_m_allBore_L4 hF C _ _ _ hf

/- WassailEnemiesModel.allHate()I -/
def m_allHate_L4 (h : HH) : Nat → Int → Int → Option Int
  | 0, _, _ => none
  | n4 + 1, x1, x2 =>
    if ww x2 < ww (5 * (h 193 0)) then (ck (ww x2) 30 <| m_allHate_L4 h n4 (x1 + (h 196 (ww x2))) (x2 + 1)) else (some x1)
def m_allHate (h : HH) : Option Int :=
  m_allHate_L4 h FU 0 0
abbrev rm_m_allHate : Room := { frames := 0, cells := 0, slots := 0, locals := 0 }
set_option maxHeartbeats 4000000 in
set_option maxRecDepth 100000 in
theorem w_m_allHate_L4 (hF : Fx S) (C : Cx D dT bs RX12 cX12_allHate 3 (some Jvm.ClassFile.FieldType.int) p s m args meth c) {h : HH} {res : Int} :
    ∀ (n : Nat) (x1 : Int) (x2 : Int), m_allHate_L4 h n x1 x2 = some res → V D dT bs 3 p l e rm_m_allHate s m args below meth c 0 0 (MQ below (QQ D dT bs (some (zI res)) h S) args s 0 0 (AA bs)) h S 4 [(0, zP bs 193), (1, zI x1), (2, zI x2)] [] := by
  intro n
  induction n with
  | zero => intro x1 x2 hf; simp [m_allHate_L4] at hf
  | succ n4 ih4 =>
    intro x1 x2 hf
    rw [m_allHate_L4] at hf
    refine r_iload_n (pc' := 5) (f4 := 2) (i := 2) C 2 rfl rfl dX12_allHate_4 rfl ?_
    refine r_iconst (pc' := 6) C dX12_allHate_5 rfl ?_
    refine r_aload_n (pc' := 7) (f4 := 0) (i := 0) C 0 rfl rfl dX12_allHate_6 rfl ?_
    refine q_getI (pc' := 10) (j := 0) C (K_193 hF) fb_12_0 wd_1171 (Or.inl rfl) dX12_allHate_7 rfl ?_
    refine r_imul (pc' := 11) C dX12_allHate_10 rfl ?_
    refine r_icmp_ge (pc' := 14) (tgt := 29) C rfl rfl hf dX12_allHate_11 (by decide) rfl (fun hf => ?_) (fun hf => ?_)
    · refine r_iload_n (pc' := 15) (f4 := 1) (i := 1) C 1 rfl rfl dX12_allHate_14 rfl ?_
      refine r_aload_n (pc' := 16) (f4 := 0) (i := 0) C 0 rfl rfl dX12_allHate_15 rfl ?_
      refine q_getP (pc' := 19) (j := 5) C (K_193 hF) fb_12_5 (by decide) wd_1176 (Or.inl rfl) (F_193_5 hF) (by decide) dX12_allHate_16 rfl ?_
      refine r_iload_n (pc' := 20) (f4 := 2) (i := 2) C 2 rfl rfl dX12_allHate_19 rfl ?_
      obtain ⟨hi, hf⟩ := ck_in hf
      refine r_iald (pc' := 21) C (K_196 hF) rfl hi dX12_allHate_20 rfl ?_
      refine r_iadd (pc' := 22) C dX12_allHate_21 rfl ?_
      refine r_istore_n (pc' := 23) (f4 := 1) (i := 1) (L' := [(1, zI (x1 + (h 196 (ww x2)))), (0, zP bs 193), (2, zI x2)]) C rfl (by decide) rfl dX12_allHate_22 rfl ?_
      refine r_iinc (pc' := 26) (i := 2) (L' := [(2, zI (x2 + 1)), (1, zI (x1 + (h 196 (ww x2)))), (0, zP bs 193)]) C 2 rfl (by decide) rfl dX12_allHate_23 rfl ?_
      refine r_goto (tgt := 4) C dX12_allHate_26 (by decide) ?_
      refine V.sub (L' := [(0, zP bs 193), (1, zI (x1 + (h 196 (ww x2)))), (2, zI (x2 + 1))]) [2, 1, 0] rfl ?_
      exact ih4 _ _ hf
    · refine r_iload_n (pc' := 30) (f4 := 1) (i := 1) C 1 rfl rfl dX12_allHate_29 rfl ?_
      cases hf
      exact r_iret C dX12_allHate_30
set_option maxHeartbeats 4000000 in
set_option maxRecDepth 100000 in
theorem t_m_allHate {S : SS} (hF : Fx S) {h : HH} {res : Int} (hf : m_allHate h = some res) : CM yX12_allHate cX12_allHate 3 (some Jvm.ClassFile.FieldType.int) 0 0 0 0 (fun bs => [zP bs 193]) h S (fun _ => some (zI res)) h S := by
  refine CM.intro (own := RX12) (by decide) rfl (fun _ => Nat.le_of_ble_eq_true rfl) ?_
  intro D dT bs p l e s m args below meth c C
  show V D dT bs 3 p l e rm_m_allHate s m args below meth c 0 0 _ h S 0 [(0, zP bs 193)] []
  unfold m_allHate at hf
  refine r_iconst (pc' := 1) C dX12_allHate_0 rfl ?_
  refine r_istore_n (pc' := 2) (f4 := 1) (i := 1) (L' := [(1, zI 0), (0, zP bs 193)]) C rfl (by decide) rfl dX12_allHate_1 rfl ?_
  refine r_iconst (pc' := 3) C dX12_allHate_2 rfl ?_
  refine r_istore_n (pc' := 4) (f4 := 2) (i := 2) (L' := [(2, zI 0), (1, zI 0), (0, zP bs 193)]) C rfl (by decide) rfl dX12_allHate_3 rfl ?_
  refine V.sub (L' := [(0, zP bs 193), (1, zI 0), (2, zI 0)]) [2, 1, 0] rfl ?_
  refine w_m_allHate_L4 hF C _ _ _ hf

/- WassailEnemiesModel.on(II)I -/
def m_on (h : HH) (a1 : Int) (a2 : Int) : Option (Int × HH) :=
  if ww a2 = 0 then (if ww (m_isYears a1) = 0 then (some (-2, h)) else ((m_save h).bind fun q1 => (m_goYears q1 a1).bind fun q2 => if ww a2 = 0 then ((m_bearSet q2).bind fun q3 => (m_putBack q3.2).bind fun q4 => some (q3.1, q4)) else (if ww a2 < 20 then (ck (ww (a2 - 10)) 5 <| (m_putBack q2).bind fun q5 => some (q2 198 (ww (a2 - 10)), q5)) else (ck (ww (a2 - 20)) 30 <| (m_putBack q2).bind fun q6 => some (q2 196 (ww (a2 - 20)), q6))))) else (if ww (m_in a2 10 14) = 0 then (if ww (m_in a2 20 (19 + (5 * (h 193 0)))) = 0 then (some (-1, h)) else (if ww (m_isYears a1) = 0 then (some (-2, h)) else ((m_save h).bind fun q7 => (m_goYears q7 a1).bind fun q8 => if ww a2 = 0 then ((m_bearSet q8).bind fun q9 => (m_putBack q9.2).bind fun q10 => some (q9.1, q10)) else (if ww a2 < 20 then (ck (ww (a2 - 10)) 5 <| (m_putBack q8).bind fun q11 => some (q8 198 (ww (a2 - 10)), q11)) else (ck (ww (a2 - 20)) 30 <| (m_putBack q8).bind fun q12 => some (q8 196 (ww (a2 - 20)), q12)))))) else (if ww (m_isYears a1) = 0 then (some (-2, h)) else ((m_save h).bind fun q13 => (m_goYears q13 a1).bind fun q14 => if ww a2 = 0 then ((m_bearSet q14).bind fun q15 => (m_putBack q15.2).bind fun q16 => some (q15.1, q16)) else (if ww a2 < 20 then (ck (ww (a2 - 10)) 5 <| (m_putBack q14).bind fun q17 => some (q14 198 (ww (a2 - 10)), q17)) else (ck (ww (a2 - 20)) 30 <| (m_putBack q14).bind fun q18 => some (q14 196 (ww (a2 - 20)), q18))))))
abbrev rm_m_on : Room := { frames := 8, cells := 0, slots := 0, locals := 188 }
set_option maxHeartbeats 4000000 in
set_option maxRecDepth 100000 in
theorem t_m_on {S : SS} (hF : Fx S) {h : HH} {a1 : Int} {a2 : Int} {res : Int × HH} (hf : m_on h a1 a2 = some res) : CM yX12_on cX12_on 4 (some Jvm.ClassFile.FieldType.int) 8 188 0 0 (fun bs => [zP bs 193, zI a1, zI a2]) h S (fun _ => some (zI res.1)) res.2 S := by
  refine CM.intro (own := RX12) (by decide) rfl (fun _ => Nat.le_of_ble_eq_true rfl) ?_
  intro D dT bs p l e s m args below meth c C
  show V D dT bs 4 p l e rm_m_on s m args below meth c 0 0 _ h S 0 [(0, zP bs 193), (1, zI a1), (2, zI a2)] []
  unfold m_on at hf
  refine r_iload_n (pc' := 1) (f4 := 2) (i := 2) C 2 rfl rfl dX12_on_0 rfl ?_
  refine r_if_eq (pc' := 4) (tgt := 37) C rfl hf dX12_on_1 (by decide) rfl (fun hf => ?_) (fun hf => ?_)
  · refine r_aload_n (pc' := 38) (f4 := 0) (i := 0) C 0 rfl rfl dX12_on_37 rfl ?_
    refine r_iload_n (pc' := 39) (f4 := 1) (i := 1) C 1 rfl rfl dX12_on_38 rfl ?_
    refine q_callV (pc' := 42) C (t_m_isYears hF) rfl (K_193 hF) cl_12 wv_RX12_361 ⟨Nat.le_of_ble_eq_true rfl, Nat.le_of_ble_eq_true rfl⟩ rfl rfl (Nat.le_of_ble_eq_true rfl) dX12_on_39 rfl ⟨Nat.le_of_ble_eq_true rfl, Nat.le_of_ble_eq_true rfl⟩ ?_
    refine r_if_ne (pc' := 45) (tgt := 48) C rfl hf dX12_on_42 (by decide) rfl (fun hf => ?_) (fun hf => ?_)
    · refine r_bipush (pc' := 47) C rfl dX12_on_45 rfl ?_
      cases hf
      exact r_iret C dX12_on_47
    · refine r_aload_n (pc' := 49) (f4 := 0) (i := 0) C 0 rfl rfl dX12_on_48 rfl ?_
      obtain ⟨q1, hq1, hf⟩ := bind_in hf
      refine q_callVv (pc' := 52) C (t_m_save hF hq1) rfl (K_193 hF) cl_12 wv_RX12_368 ⟨Nat.le_of_ble_eq_true rfl, Nat.le_of_ble_eq_true rfl⟩ rfl rfl (Nat.le_of_ble_eq_true rfl) dX12_on_49 rfl ⟨Nat.le_of_ble_eq_true rfl, Nat.le_of_ble_eq_true rfl⟩ ?_
      refine r_aload_n (pc' := 53) (f4 := 0) (i := 0) C 0 rfl rfl dX12_on_52 rfl ?_
      refine r_iload_n (pc' := 54) (f4 := 1) (i := 1) C 1 rfl rfl dX12_on_53 rfl ?_
      obtain ⟨q2, hq2, hf⟩ := bind_in hf
      refine q_callVv (pc' := 57) C (t_m_goYears hF hq2) rfl (K_193 hF) cl_12 wv_RX12_364 ⟨Nat.le_of_ble_eq_true rfl, Nat.le_of_ble_eq_true rfl⟩ rfl rfl (Nat.le_of_ble_eq_true rfl) dX12_on_54 rfl ⟨Nat.le_of_ble_eq_true rfl, Nat.le_of_ble_eq_true rfl⟩ ?_
      refine r_iload_n (pc' := 58) (f4 := 2) (i := 2) C 2 rfl rfl dX12_on_57 rfl ?_
      refine r_if_ne (pc' := 61) (tgt := 68) C rfl hf dX12_on_58 (by decide) rfl (fun hf => ?_) (fun hf => ?_)
      · refine r_aload_n (pc' := 62) (f4 := 0) (i := 0) C 0 rfl rfl dX12_on_61 rfl ?_
        obtain ⟨q3, hq3, hf⟩ := bind_in hf
        refine q_callV (pc' := 65) C (t_m_bearSet hF hq3) rfl (K_193 hF) cl_12 wv_RX12_349 ⟨Nat.le_of_ble_eq_true rfl, Nat.le_of_ble_eq_true rfl⟩ rfl rfl (Nat.le_of_ble_eq_true rfl) dX12_on_62 rfl ⟨Nat.le_of_ble_eq_true rfl, Nat.le_of_ble_eq_true rfl⟩ ?_
        refine r_goto (tgt := 95) C dX12_on_65 (by decide) ?_
        refine r_istore_n (pc' := 96) (f4 := 3) (i := 3) (L' := [(3, zI q3.1), (0, zP bs 193), (1, zI a1), (2, zI a2)]) C rfl (by decide) rfl dX12_on_95 rfl ?_
        refine r_aload_n (pc' := 97) (f4 := 0) (i := 0) C 1 rfl rfl dX12_on_96 rfl ?_
        obtain ⟨q4, hq4, hf⟩ := bind_in hf
        refine q_callVv (pc' := 100) C (t_m_putBack hF hq4) rfl (K_193 hF) cl_12 wv_RX12_371 ⟨Nat.le_of_ble_eq_true rfl, Nat.le_of_ble_eq_true rfl⟩ rfl rfl (Nat.le_of_ble_eq_true rfl) dX12_on_97 rfl ⟨Nat.le_of_ble_eq_true rfl, Nat.le_of_ble_eq_true rfl⟩ ?_
        refine r_iload_n (pc' := 101) (f4 := 3) (i := 3) C 0 rfl rfl dX12_on_100 rfl ?_
        cases hf
        exact r_iret C dX12_on_101
      · refine r_iload_n (pc' := 69) (f4 := 2) (i := 2) C 2 rfl rfl dX12_on_68 rfl ?_
        refine r_bipush (pc' := 71) C rfl dX12_on_69 rfl ?_
        refine r_icmp_ge (pc' := 74) (tgt := 86) C rfl ww_n20 hf dX12_on_71 (by decide) rfl (fun hf => ?_) (fun hf => ?_)
        · refine r_aload_n (pc' := 75) (f4 := 0) (i := 0) C 0 rfl rfl dX12_on_74 rfl ?_
          refine q_getP (pc' := 78) (j := 7) C (K_193 hF) fb_12_7 (by decide) wd_1178 (Or.inl rfl) (F_193_7 hF) (by decide) dX12_on_75 rfl ?_
          refine r_iload_n (pc' := 79) (f4 := 2) (i := 2) C 2 rfl rfl dX12_on_78 rfl ?_
          refine r_bipush (pc' := 81) C rfl dX12_on_79 rfl ?_
          refine r_isub (pc' := 82) C dX12_on_81 rfl ?_
          obtain ⟨hi, hf⟩ := ck_in hf
          refine r_iald (pc' := 83) C (K_198 hF) rfl hi dX12_on_82 rfl ?_
          refine r_goto (tgt := 95) C dX12_on_83 (by decide) ?_
          refine r_istore_n (pc' := 96) (f4 := 3) (i := 3) (L' := [(3, zI (q2 198 (ww (a2 - 10)))), (0, zP bs 193), (1, zI a1), (2, zI a2)]) C rfl (by decide) rfl dX12_on_95 rfl ?_
          refine r_aload_n (pc' := 97) (f4 := 0) (i := 0) C 1 rfl rfl dX12_on_96 rfl ?_
          obtain ⟨q5, hq5, hf⟩ := bind_in hf
          refine q_callVv (pc' := 100) C (t_m_putBack hF hq5) rfl (K_193 hF) cl_12 wv_RX12_371 ⟨Nat.le_of_ble_eq_true rfl, Nat.le_of_ble_eq_true rfl⟩ rfl rfl (Nat.le_of_ble_eq_true rfl) dX12_on_97 rfl ⟨Nat.le_of_ble_eq_true rfl, Nat.le_of_ble_eq_true rfl⟩ ?_
          refine r_iload_n (pc' := 101) (f4 := 3) (i := 3) C 0 rfl rfl dX12_on_100 rfl ?_
          cases hf
          exact r_iret C dX12_on_101
        · refine r_aload_n (pc' := 87) (f4 := 0) (i := 0) C 0 rfl rfl dX12_on_86 rfl ?_
          refine q_getP (pc' := 90) (j := 5) C (K_193 hF) fb_12_5 (by decide) wd_1176 (Or.inl rfl) (F_193_5 hF) (by decide) dX12_on_87 rfl ?_
          refine r_iload_n (pc' := 91) (f4 := 2) (i := 2) C 2 rfl rfl dX12_on_90 rfl ?_
          refine r_bipush (pc' := 93) C rfl dX12_on_91 rfl ?_
          refine r_isub (pc' := 94) C dX12_on_93 rfl ?_
          obtain ⟨hi, hf⟩ := ck_in hf
          refine r_iald (pc' := 95) C (K_196 hF) rfl hi dX12_on_94 rfl ?_
          refine r_istore_n (pc' := 96) (f4 := 3) (i := 3) (L' := [(3, zI (q2 196 (ww (a2 - 20)))), (0, zP bs 193), (1, zI a1), (2, zI a2)]) C rfl (by decide) rfl dX12_on_95 rfl ?_
          refine r_aload_n (pc' := 97) (f4 := 0) (i := 0) C 1 rfl rfl dX12_on_96 rfl ?_
          obtain ⟨q6, hq6, hf⟩ := bind_in hf
          refine q_callVv (pc' := 100) C (t_m_putBack hF hq6) rfl (K_193 hF) cl_12 wv_RX12_371 ⟨Nat.le_of_ble_eq_true rfl, Nat.le_of_ble_eq_true rfl⟩ rfl rfl (Nat.le_of_ble_eq_true rfl) dX12_on_97 rfl ⟨Nat.le_of_ble_eq_true rfl, Nat.le_of_ble_eq_true rfl⟩ ?_
          refine r_iload_n (pc' := 101) (f4 := 3) (i := 3) C 0 rfl rfl dX12_on_100 rfl ?_
          cases hf
          exact r_iret C dX12_on_101
  · refine r_aload_n (pc' := 5) (f4 := 0) (i := 0) C 0 rfl rfl dX12_on_4 rfl ?_
    refine r_iload_n (pc' := 6) (f4 := 2) (i := 2) C 2 rfl rfl dX12_on_5 rfl ?_
    refine r_bipush (pc' := 8) C rfl dX12_on_6 rfl ?_
    refine r_bipush (pc' := 10) C rfl dX12_on_8 rfl ?_
    refine q_callV (pc' := 13) C (t_m_in hF) rfl (K_193 hF) cl_12 wv_RX12_245 ⟨Nat.le_of_ble_eq_true rfl, Nat.le_of_ble_eq_true rfl⟩ rfl rfl (Nat.le_of_ble_eq_true rfl) dX12_on_10 rfl ⟨Nat.le_of_ble_eq_true rfl, Nat.le_of_ble_eq_true rfl⟩ ?_
    refine r_if_ne (pc' := 16) (tgt := 37) C rfl hf dX12_on_13 (by decide) rfl (fun hf => ?_) (fun hf => ?_)
    · refine r_aload_n (pc' := 17) (f4 := 0) (i := 0) C 0 rfl rfl dX12_on_16 rfl ?_
      refine r_iload_n (pc' := 18) (f4 := 2) (i := 2) C 2 rfl rfl dX12_on_17 rfl ?_
      refine r_bipush (pc' := 20) C rfl dX12_on_18 rfl ?_
      refine r_bipush (pc' := 22) C rfl dX12_on_20 rfl ?_
      refine r_iconst (pc' := 23) C dX12_on_22 rfl ?_
      refine r_aload_n (pc' := 24) (f4 := 0) (i := 0) C 0 rfl rfl dX12_on_23 rfl ?_
      refine q_getI (pc' := 27) (j := 0) C (K_193 hF) fb_12_0 wd_1171 (Or.inl rfl) dX12_on_24 rfl ?_
      refine r_imul (pc' := 28) C dX12_on_27 rfl ?_
      refine r_iadd (pc' := 29) C dX12_on_28 rfl ?_
      refine q_callV (pc' := 32) C (t_m_in hF) rfl (K_193 hF) cl_12 wv_RX12_245 ⟨Nat.le_of_ble_eq_true rfl, Nat.le_of_ble_eq_true rfl⟩ rfl rfl (Nat.le_of_ble_eq_true rfl) dX12_on_29 rfl ⟨Nat.le_of_ble_eq_true rfl, Nat.le_of_ble_eq_true rfl⟩ ?_
      refine r_if_ne (pc' := 35) (tgt := 37) C rfl hf dX12_on_32 (by decide) rfl (fun hf => ?_) (fun hf => ?_)
      · refine r_iconst (pc' := 36) C dX12_on_35 rfl ?_
        cases hf
        exact r_iret C dX12_on_36
      · refine r_aload_n (pc' := 38) (f4 := 0) (i := 0) C 0 rfl rfl dX12_on_37 rfl ?_
        refine r_iload_n (pc' := 39) (f4 := 1) (i := 1) C 1 rfl rfl dX12_on_38 rfl ?_
        refine q_callV (pc' := 42) C (t_m_isYears hF) rfl (K_193 hF) cl_12 wv_RX12_361 ⟨Nat.le_of_ble_eq_true rfl, Nat.le_of_ble_eq_true rfl⟩ rfl rfl (Nat.le_of_ble_eq_true rfl) dX12_on_39 rfl ⟨Nat.le_of_ble_eq_true rfl, Nat.le_of_ble_eq_true rfl⟩ ?_
        refine r_if_ne (pc' := 45) (tgt := 48) C rfl hf dX12_on_42 (by decide) rfl (fun hf => ?_) (fun hf => ?_)
        · refine r_bipush (pc' := 47) C rfl dX12_on_45 rfl ?_
          cases hf
          exact r_iret C dX12_on_47
        · refine r_aload_n (pc' := 49) (f4 := 0) (i := 0) C 0 rfl rfl dX12_on_48 rfl ?_
          obtain ⟨q7, hq7, hf⟩ := bind_in hf
          refine q_callVv (pc' := 52) C (t_m_save hF hq7) rfl (K_193 hF) cl_12 wv_RX12_368 ⟨Nat.le_of_ble_eq_true rfl, Nat.le_of_ble_eq_true rfl⟩ rfl rfl (Nat.le_of_ble_eq_true rfl) dX12_on_49 rfl ⟨Nat.le_of_ble_eq_true rfl, Nat.le_of_ble_eq_true rfl⟩ ?_
          refine r_aload_n (pc' := 53) (f4 := 0) (i := 0) C 0 rfl rfl dX12_on_52 rfl ?_
          refine r_iload_n (pc' := 54) (f4 := 1) (i := 1) C 1 rfl rfl dX12_on_53 rfl ?_
          obtain ⟨q8, hq8, hf⟩ := bind_in hf
          refine q_callVv (pc' := 57) C (t_m_goYears hF hq8) rfl (K_193 hF) cl_12 wv_RX12_364 ⟨Nat.le_of_ble_eq_true rfl, Nat.le_of_ble_eq_true rfl⟩ rfl rfl (Nat.le_of_ble_eq_true rfl) dX12_on_54 rfl ⟨Nat.le_of_ble_eq_true rfl, Nat.le_of_ble_eq_true rfl⟩ ?_
          refine r_iload_n (pc' := 58) (f4 := 2) (i := 2) C 2 rfl rfl dX12_on_57 rfl ?_
          refine r_if_ne (pc' := 61) (tgt := 68) C rfl hf dX12_on_58 (by decide) rfl (fun hf => ?_) (fun hf => ?_)
          · refine r_aload_n (pc' := 62) (f4 := 0) (i := 0) C 0 rfl rfl dX12_on_61 rfl ?_
            obtain ⟨q9, hq9, hf⟩ := bind_in hf
            refine q_callV (pc' := 65) C (t_m_bearSet hF hq9) rfl (K_193 hF) cl_12 wv_RX12_349 ⟨Nat.le_of_ble_eq_true rfl, Nat.le_of_ble_eq_true rfl⟩ rfl rfl (Nat.le_of_ble_eq_true rfl) dX12_on_62 rfl ⟨Nat.le_of_ble_eq_true rfl, Nat.le_of_ble_eq_true rfl⟩ ?_
            refine r_goto (tgt := 95) C dX12_on_65 (by decide) ?_
            refine r_istore_n (pc' := 96) (f4 := 3) (i := 3) (L' := [(3, zI q9.1), (0, zP bs 193), (1, zI a1), (2, zI a2)]) C rfl (by decide) rfl dX12_on_95 rfl ?_
            refine r_aload_n (pc' := 97) (f4 := 0) (i := 0) C 1 rfl rfl dX12_on_96 rfl ?_
            obtain ⟨q10, hq10, hf⟩ := bind_in hf
            refine q_callVv (pc' := 100) C (t_m_putBack hF hq10) rfl (K_193 hF) cl_12 wv_RX12_371 ⟨Nat.le_of_ble_eq_true rfl, Nat.le_of_ble_eq_true rfl⟩ rfl rfl (Nat.le_of_ble_eq_true rfl) dX12_on_97 rfl ⟨Nat.le_of_ble_eq_true rfl, Nat.le_of_ble_eq_true rfl⟩ ?_
            refine r_iload_n (pc' := 101) (f4 := 3) (i := 3) C 0 rfl rfl dX12_on_100 rfl ?_
            cases hf
            exact r_iret C dX12_on_101
          · refine r_iload_n (pc' := 69) (f4 := 2) (i := 2) C 2 rfl rfl dX12_on_68 rfl ?_
            refine r_bipush (pc' := 71) C rfl dX12_on_69 rfl ?_
            refine r_icmp_ge (pc' := 74) (tgt := 86) C rfl ww_n20 hf dX12_on_71 (by decide) rfl (fun hf => ?_) (fun hf => ?_)
            · refine r_aload_n (pc' := 75) (f4 := 0) (i := 0) C 0 rfl rfl dX12_on_74 rfl ?_
              refine q_getP (pc' := 78) (j := 7) C (K_193 hF) fb_12_7 (by decide) wd_1178 (Or.inl rfl) (F_193_7 hF) (by decide) dX12_on_75 rfl ?_
              refine r_iload_n (pc' := 79) (f4 := 2) (i := 2) C 2 rfl rfl dX12_on_78 rfl ?_
              refine r_bipush (pc' := 81) C rfl dX12_on_79 rfl ?_
              refine r_isub (pc' := 82) C dX12_on_81 rfl ?_
              obtain ⟨hi, hf⟩ := ck_in hf
              refine r_iald (pc' := 83) C (K_198 hF) rfl hi dX12_on_82 rfl ?_
              refine r_goto (tgt := 95) C dX12_on_83 (by decide) ?_
              refine r_istore_n (pc' := 96) (f4 := 3) (i := 3) (L' := [(3, zI (q8 198 (ww (a2 - 10)))), (0, zP bs 193), (1, zI a1), (2, zI a2)]) C rfl (by decide) rfl dX12_on_95 rfl ?_
              refine r_aload_n (pc' := 97) (f4 := 0) (i := 0) C 1 rfl rfl dX12_on_96 rfl ?_
              obtain ⟨q11, hq11, hf⟩ := bind_in hf
              refine q_callVv (pc' := 100) C (t_m_putBack hF hq11) rfl (K_193 hF) cl_12 wv_RX12_371 ⟨Nat.le_of_ble_eq_true rfl, Nat.le_of_ble_eq_true rfl⟩ rfl rfl (Nat.le_of_ble_eq_true rfl) dX12_on_97 rfl ⟨Nat.le_of_ble_eq_true rfl, Nat.le_of_ble_eq_true rfl⟩ ?_
              refine r_iload_n (pc' := 101) (f4 := 3) (i := 3) C 0 rfl rfl dX12_on_100 rfl ?_
              cases hf
              exact r_iret C dX12_on_101
            · refine r_aload_n (pc' := 87) (f4 := 0) (i := 0) C 0 rfl rfl dX12_on_86 rfl ?_
              refine q_getP (pc' := 90) (j := 5) C (K_193 hF) fb_12_5 (by decide) wd_1176 (Or.inl rfl) (F_193_5 hF) (by decide) dX12_on_87 rfl ?_
              refine r_iload_n (pc' := 91) (f4 := 2) (i := 2) C 2 rfl rfl dX12_on_90 rfl ?_
              refine r_bipush (pc' := 93) C rfl dX12_on_91 rfl ?_
              refine r_isub (pc' := 94) C dX12_on_93 rfl ?_
              obtain ⟨hi, hf⟩ := ck_in hf
              refine r_iald (pc' := 95) C (K_196 hF) rfl hi dX12_on_94 rfl ?_
              refine r_istore_n (pc' := 96) (f4 := 3) (i := 3) (L' := [(3, zI (q8 196 (ww (a2 - 20)))), (0, zP bs 193), (1, zI a1), (2, zI a2)]) C rfl (by decide) rfl dX12_on_95 rfl ?_
              refine r_aload_n (pc' := 97) (f4 := 0) (i := 0) C 1 rfl rfl dX12_on_96 rfl ?_
              obtain ⟨q12, hq12, hf⟩ := bind_in hf
              refine q_callVv (pc' := 100) C (t_m_putBack hF hq12) rfl (K_193 hF) cl_12 wv_RX12_371 ⟨Nat.le_of_ble_eq_true rfl, Nat.le_of_ble_eq_true rfl⟩ rfl rfl (Nat.le_of_ble_eq_true rfl) dX12_on_97 rfl ⟨Nat.le_of_ble_eq_true rfl, Nat.le_of_ble_eq_true rfl⟩ ?_
              refine r_iload_n (pc' := 101) (f4 := 3) (i := 3) C 0 rfl rfl dX12_on_100 rfl ?_
              cases hf
              exact r_iret C dX12_on_101
    · refine r_aload_n (pc' := 38) (f4 := 0) (i := 0) C 0 rfl rfl dX12_on_37 rfl ?_
      refine r_iload_n (pc' := 39) (f4 := 1) (i := 1) C 1 rfl rfl dX12_on_38 rfl ?_
      refine q_callV (pc' := 42) C (t_m_isYears hF) rfl (K_193 hF) cl_12 wv_RX12_361 ⟨Nat.le_of_ble_eq_true rfl, Nat.le_of_ble_eq_true rfl⟩ rfl rfl (Nat.le_of_ble_eq_true rfl) dX12_on_39 rfl ⟨Nat.le_of_ble_eq_true rfl, Nat.le_of_ble_eq_true rfl⟩ ?_
      refine r_if_ne (pc' := 45) (tgt := 48) C rfl hf dX12_on_42 (by decide) rfl (fun hf => ?_) (fun hf => ?_)
      · refine r_bipush (pc' := 47) C rfl dX12_on_45 rfl ?_
        cases hf
        exact r_iret C dX12_on_47
      · refine r_aload_n (pc' := 49) (f4 := 0) (i := 0) C 0 rfl rfl dX12_on_48 rfl ?_
        obtain ⟨q13, hq13, hf⟩ := bind_in hf
        refine q_callVv (pc' := 52) C (t_m_save hF hq13) rfl (K_193 hF) cl_12 wv_RX12_368 ⟨Nat.le_of_ble_eq_true rfl, Nat.le_of_ble_eq_true rfl⟩ rfl rfl (Nat.le_of_ble_eq_true rfl) dX12_on_49 rfl ⟨Nat.le_of_ble_eq_true rfl, Nat.le_of_ble_eq_true rfl⟩ ?_
        refine r_aload_n (pc' := 53) (f4 := 0) (i := 0) C 0 rfl rfl dX12_on_52 rfl ?_
        refine r_iload_n (pc' := 54) (f4 := 1) (i := 1) C 1 rfl rfl dX12_on_53 rfl ?_
        obtain ⟨q14, hq14, hf⟩ := bind_in hf
        refine q_callVv (pc' := 57) C (t_m_goYears hF hq14) rfl (K_193 hF) cl_12 wv_RX12_364 ⟨Nat.le_of_ble_eq_true rfl, Nat.le_of_ble_eq_true rfl⟩ rfl rfl (Nat.le_of_ble_eq_true rfl) dX12_on_54 rfl ⟨Nat.le_of_ble_eq_true rfl, Nat.le_of_ble_eq_true rfl⟩ ?_
        refine r_iload_n (pc' := 58) (f4 := 2) (i := 2) C 2 rfl rfl dX12_on_57 rfl ?_
        refine r_if_ne (pc' := 61) (tgt := 68) C rfl hf dX12_on_58 (by decide) rfl (fun hf => ?_) (fun hf => ?_)
        · refine r_aload_n (pc' := 62) (f4 := 0) (i := 0) C 0 rfl rfl dX12_on_61 rfl ?_
          obtain ⟨q15, hq15, hf⟩ := bind_in hf
          refine q_callV (pc' := 65) C (t_m_bearSet hF hq15) rfl (K_193 hF) cl_12 wv_RX12_349 ⟨Nat.le_of_ble_eq_true rfl, Nat.le_of_ble_eq_true rfl⟩ rfl rfl (Nat.le_of_ble_eq_true rfl) dX12_on_62 rfl ⟨Nat.le_of_ble_eq_true rfl, Nat.le_of_ble_eq_true rfl⟩ ?_
          refine r_goto (tgt := 95) C dX12_on_65 (by decide) ?_
          refine r_istore_n (pc' := 96) (f4 := 3) (i := 3) (L' := [(3, zI q15.1), (0, zP bs 193), (1, zI a1), (2, zI a2)]) C rfl (by decide) rfl dX12_on_95 rfl ?_
          refine r_aload_n (pc' := 97) (f4 := 0) (i := 0) C 1 rfl rfl dX12_on_96 rfl ?_
          obtain ⟨q16, hq16, hf⟩ := bind_in hf
          refine q_callVv (pc' := 100) C (t_m_putBack hF hq16) rfl (K_193 hF) cl_12 wv_RX12_371 ⟨Nat.le_of_ble_eq_true rfl, Nat.le_of_ble_eq_true rfl⟩ rfl rfl (Nat.le_of_ble_eq_true rfl) dX12_on_97 rfl ⟨Nat.le_of_ble_eq_true rfl, Nat.le_of_ble_eq_true rfl⟩ ?_
          refine r_iload_n (pc' := 101) (f4 := 3) (i := 3) C 0 rfl rfl dX12_on_100 rfl ?_
          cases hf
          exact r_iret C dX12_on_101
        · refine r_iload_n (pc' := 69) (f4 := 2) (i := 2) C 2 rfl rfl dX12_on_68 rfl ?_
          refine r_bipush (pc' := 71) C rfl dX12_on_69 rfl ?_
          refine r_icmp_ge (pc' := 74) (tgt := 86) C rfl ww_n20 hf dX12_on_71 (by decide) rfl (fun hf => ?_) (fun hf => ?_)
          · refine r_aload_n (pc' := 75) (f4 := 0) (i := 0) C 0 rfl rfl dX12_on_74 rfl ?_
            refine q_getP (pc' := 78) (j := 7) C (K_193 hF) fb_12_7 (by decide) wd_1178 (Or.inl rfl) (F_193_7 hF) (by decide) dX12_on_75 rfl ?_
            refine r_iload_n (pc' := 79) (f4 := 2) (i := 2) C 2 rfl rfl dX12_on_78 rfl ?_
            refine r_bipush (pc' := 81) C rfl dX12_on_79 rfl ?_
            refine r_isub (pc' := 82) C dX12_on_81 rfl ?_
            obtain ⟨hi, hf⟩ := ck_in hf
            refine r_iald (pc' := 83) C (K_198 hF) rfl hi dX12_on_82 rfl ?_
            refine r_goto (tgt := 95) C dX12_on_83 (by decide) ?_
            refine r_istore_n (pc' := 96) (f4 := 3) (i := 3) (L' := [(3, zI (q14 198 (ww (a2 - 10)))), (0, zP bs 193), (1, zI a1), (2, zI a2)]) C rfl (by decide) rfl dX12_on_95 rfl ?_
            refine r_aload_n (pc' := 97) (f4 := 0) (i := 0) C 1 rfl rfl dX12_on_96 rfl ?_
            obtain ⟨q17, hq17, hf⟩ := bind_in hf
            refine q_callVv (pc' := 100) C (t_m_putBack hF hq17) rfl (K_193 hF) cl_12 wv_RX12_371 ⟨Nat.le_of_ble_eq_true rfl, Nat.le_of_ble_eq_true rfl⟩ rfl rfl (Nat.le_of_ble_eq_true rfl) dX12_on_97 rfl ⟨Nat.le_of_ble_eq_true rfl, Nat.le_of_ble_eq_true rfl⟩ ?_
            refine r_iload_n (pc' := 101) (f4 := 3) (i := 3) C 0 rfl rfl dX12_on_100 rfl ?_
            cases hf
            exact r_iret C dX12_on_101
          · refine r_aload_n (pc' := 87) (f4 := 0) (i := 0) C 0 rfl rfl dX12_on_86 rfl ?_
            refine q_getP (pc' := 90) (j := 5) C (K_193 hF) fb_12_5 (by decide) wd_1176 (Or.inl rfl) (F_193_5 hF) (by decide) dX12_on_87 rfl ?_
            refine r_iload_n (pc' := 91) (f4 := 2) (i := 2) C 2 rfl rfl dX12_on_90 rfl ?_
            refine r_bipush (pc' := 93) C rfl dX12_on_91 rfl ?_
            refine r_isub (pc' := 94) C dX12_on_93 rfl ?_
            obtain ⟨hi, hf⟩ := ck_in hf
            refine r_iald (pc' := 95) C (K_196 hF) rfl hi dX12_on_94 rfl ?_
            refine r_istore_n (pc' := 96) (f4 := 3) (i := 3) (L' := [(3, zI (q14 196 (ww (a2 - 20)))), (0, zP bs 193), (1, zI a1), (2, zI a2)]) C rfl (by decide) rfl dX12_on_95 rfl ?_
            refine r_aload_n (pc' := 97) (f4 := 0) (i := 0) C 1 rfl rfl dX12_on_96 rfl ?_
            obtain ⟨q18, hq18, hf⟩ := bind_in hf
            refine q_callVv (pc' := 100) C (t_m_putBack hF hq18) rfl (K_193 hF) cl_12 wv_RX12_371 ⟨Nat.le_of_ble_eq_true rfl, Nat.le_of_ble_eq_true rfl⟩ rfl rfl (Nat.le_of_ble_eq_true rfl) dX12_on_97 rfl ⟨Nat.le_of_ble_eq_true rfl, Nat.le_of_ble_eq_true rfl⟩ ?_
            refine r_iload_n (pc' := 101) (f4 := 3) (i := 3) C 0 rfl rfl dX12_on_100 rfl ?_
            cases hf
            exact r_iret C dX12_on_101

/- WassailEnemiesModel.layForces()V -/
def m_layForces_L12 (x1 : Int) (k54 : HH → Option HH) : Nat → HH → Int → Option HH
  | 0, _, _ => none
  | n12 + 1, h, x2 =>
    if ww x2 < 5 then ((m_bears h x1 x2).bind fun q1 => if ww q1.1 = 0 then (ck (ww ((5 * x1) + x2)) 30 <| m_layForces_L12 x1 k54 n12 (u2 q1.2 213 (ww ((5 * x1) + x2)) (-2000000000)) (x2 + 1)) else ((m_force q1.2 x1 x2).bind fun q2 => ck (ww ((5 * x1) + x2)) 30 <| m_layForces_L12 x1 k54 n12 (u2 q2.2 213 (ww ((5 * x1) + x2)) q2.1) (x2 + 1))) else (k54 h)
def m_layForces_L2 : Nat → HH → Int → Option HH
  | 0, _, _ => none
  | n2 + 1, h, x1 =>
    if ww x1 < ww (h 193 0) then (m_layForces_L12 x1 (fun h3 => m_layForces_L2 n2 h3 (x1 + 1)) FU h 0) else (some h)
def m_layForces (h : HH) : Option HH :=
  m_layForces_L2 FU h 0
abbrev rm_m_layForces : Room := { frames := 5, cells := 0, slots := 0, locals := 122 }
set_option maxHeartbeats 4000000 in
set_option maxRecDepth 100000 in
theorem w_m_layForces_L12 (hF : Fx S) (C : Cx D dT bs RX12 cX12_layForces 3 (Option.none : Option Jvm.ClassFile.FieldType) p s m args meth c) (x1 : Int) (k54 : HH → Option HH) {res : HH} (hk54 : ∀ (h : HH), k54 h = some res → V D dT bs 3 p l e rm_m_layForces s m args below meth c 0 0 (MQ below (QQ D dT bs none res S) args s 0 0 (AA bs)) h S 54 [(0, zP bs 193), (1, zI x1)] []) :
    ∀ (n : Nat) (h : HH) (x2 : Int), m_layForces_L12 x1 k54 n h x2 = some res → V D dT bs 3 p l e rm_m_layForces s m args below meth c 0 0 (MQ below (QQ D dT bs none res S) args s 0 0 (AA bs)) h S 12 [(0, zP bs 193), (1, zI x1), (2, zI x2)] [] := by
  intro n
  induction n with
  | zero => intro h x2 hf; simp [m_layForces_L12] at hf
  | succ n12 ih12 =>
    intro h x2 hf
    rw [m_layForces_L12] at hf
    refine r_iload_n (pc' := 13) (f4 := 2) (i := 2) C 2 rfl rfl dX12_layForces_12 rfl ?_
    refine r_iconst (pc' := 14) C dX12_layForces_13 rfl ?_
    refine r_icmp_ge (pc' := 17) (tgt := 54) C rfl ww_n5 hf dX12_layForces_14 (by decide) rfl (fun hf => ?_) (fun hf => ?_)
    · refine r_aload_n (pc' := 18) (f4 := 0) (i := 0) C 0 rfl rfl dX12_layForces_17 rfl ?_
      refine q_getP (pc' := 21) (j := 33) C (K_193 hF) fb_12_33 (by decide) wd_1204 (Or.inl rfl) (F_193_33 hF) (by decide) dX12_layForces_18 rfl ?_
      refine r_iconst (pc' := 22) C dX12_layForces_21 rfl ?_
      refine r_iload_n (pc' := 23) (f4 := 1) (i := 1) C 1 rfl rfl dX12_layForces_22 rfl ?_
      refine r_imul (pc' := 24) C dX12_layForces_23 rfl ?_
      refine r_iload_n (pc' := 25) (f4 := 2) (i := 2) C 2 rfl rfl dX12_layForces_24 rfl ?_
      refine r_iadd (pc' := 26) C dX12_layForces_25 rfl ?_
      refine r_aload_n (pc' := 27) (f4 := 0) (i := 0) C 0 rfl rfl dX12_layForces_26 rfl ?_
      refine r_iload_n (pc' := 28) (f4 := 1) (i := 1) C 1 rfl rfl dX12_layForces_27 rfl ?_
      refine r_iload_n (pc' := 29) (f4 := 2) (i := 2) C 2 rfl rfl dX12_layForces_28 rfl ?_
      obtain ⟨q1, hq1, hf⟩ := bind_in hf
      refine q_callV (pc' := 32) C (t_m_bears hF hq1) rfl (K_193 hF) cl_12 wv_RX12_343 ⟨Nat.le_of_ble_eq_true rfl, Nat.le_of_ble_eq_true rfl⟩ rfl rfl (Nat.le_of_ble_eq_true rfl) dX12_layForces_29 rfl ⟨Nat.le_of_ble_eq_true rfl, Nat.le_of_ble_eq_true rfl⟩ ?_
      refine r_if_eq (pc' := 35) (tgt := 44) C rfl hf dX12_layForces_32 (by decide) rfl (fun hf => ?_) (fun hf => ?_)
      · refine r_ldcw (pc' := 47) C (n := (-2000000000)) wc_1620 dX12_layForces_44 rfl ?_
        obtain ⟨hi, hf⟩ := ck_in hf
        refine r_iast (pc' := 48) C (K_213 hF) rfl hi dX12_layForces_47 rfl ?_
        refine r_iinc (pc' := 51) (i := 2) (L' := [(2, zI (x2 + 1)), (0, zP bs 193), (1, zI x1)]) C 2 rfl (by decide) rfl dX12_layForces_48 rfl ?_
        refine r_goto (tgt := 12) C dX12_layForces_51 (by decide) ?_
        refine V.sub (L' := [(0, zP bs 193), (1, zI x1), (2, zI (x2 + 1))]) [1, 2, 0] rfl ?_
        exact ih12 _ _ hf
      · refine r_aload_n (pc' := 36) (f4 := 0) (i := 0) C 0 rfl rfl dX12_layForces_35 rfl ?_
        refine r_iload_n (pc' := 37) (f4 := 1) (i := 1) C 1 rfl rfl dX12_layForces_36 rfl ?_
        refine r_iload_n (pc' := 38) (f4 := 2) (i := 2) C 2 rfl rfl dX12_layForces_37 rfl ?_
        obtain ⟨q2, hq2, hf⟩ := bind_in hf
        refine q_callV (pc' := 41) C (t_m_force hF hq2) rfl (K_193 hF) cl_12 wv_RX12_337 ⟨Nat.le_of_ble_eq_true rfl, Nat.le_of_ble_eq_true rfl⟩ rfl rfl (Nat.le_of_ble_eq_true rfl) dX12_layForces_38 rfl ⟨Nat.le_of_ble_eq_true rfl, Nat.le_of_ble_eq_true rfl⟩ ?_
        refine r_goto (tgt := 47) C dX12_layForces_41 (by decide) ?_
        obtain ⟨hi, hf⟩ := ck_in hf
        refine r_iast (pc' := 48) C (K_213 hF) rfl hi dX12_layForces_47 rfl ?_
        refine r_iinc (pc' := 51) (i := 2) (L' := [(2, zI (x2 + 1)), (0, zP bs 193), (1, zI x1)]) C 2 rfl (by decide) rfl dX12_layForces_48 rfl ?_
        refine r_goto (tgt := 12) C dX12_layForces_51 (by decide) ?_
        refine V.sub (L' := [(0, zP bs 193), (1, zI x1), (2, zI (x2 + 1))]) [1, 2, 0] rfl ?_
        exact ih12 _ _ hf
    · refine V.sub (L' := [(0, zP bs 193), (1, zI x1)]) [0, 1] rfl ?_
      exact hk54 _ hf
set_option maxHeartbeats 4000000 in
set_option maxRecDepth 100000 in
theorem w_m_layForces_L2 (hF : Fx S) (C : Cx D dT bs RX12 cX12_layForces 3 (Option.none : Option Jvm.ClassFile.FieldType) p s m args meth c) {res : HH} :
    ∀ (n : Nat) (h : HH) (x1 : Int), m_layForces_L2 n h x1 = some res → V D dT bs 3 p l e rm_m_layForces s m args below meth c 0 0 (MQ below (QQ D dT bs none res S) args s 0 0 (AA bs)) h S 2 [(0, zP bs 193), (1, zI x1)] [] := by
  intro n
  induction n with
  | zero => intro h x1 hf; simp [m_layForces_L2] at hf
  | succ n2 ih2 =>
    intro h x1 hf
    rw [m_layForces_L2] at hf
    refine r_iload_n (pc' := 3) (f4 := 1) (i := 1) C 1 rfl rfl dX12_layForces_2 rfl ?_
    refine r_aload_n (pc' := 4) (f4 := 0) (i := 0) C 0 rfl rfl dX12_layForces_3 rfl ?_
    refine q_getI (pc' := 7) (j := 0) C (K_193 hF) fb_12_0 wd_1171 (Or.inl rfl) dX12_layForces_4 rfl ?_
    refine r_icmp_ge (pc' := 10) (tgt := 60) C rfl rfl hf dX12_layForces_7 (by decide) rfl (fun hf => ?_) (fun hf => ?_)
    · refine r_iconst (pc' := 11) C dX12_layForces_10 rfl ?_
      refine r_istore_n (pc' := 12) (f4 := 2) (i := 2) (L' := [(2, zI 0), (0, zP bs 193), (1, zI x1)]) C rfl (by decide) rfl dX12_layForces_11 rfl ?_
      refine V.sub (L' := [(0, zP bs 193), (1, zI x1), (2, zI 0)]) [1, 2, 0] rfl ?_
      refine w_m_layForces_L12 hF C _ _ ?_ _ _ _ hf
      intro h3 hf
      refine r_iinc (pc' := 57) (i := 1) (L' := [(1, zI (x1 + 1)), (0, zP bs 193)]) C 1 rfl (by decide) rfl dX12_layForces_54 rfl ?_
      refine r_goto (tgt := 2) C dX12_layForces_57 (by decide) ?_
      refine V.sub (L' := [(0, zP bs 193), (1, zI (x1 + 1))]) [1, 0] rfl ?_
      exact ih2 _ _ hf
    · cases hf
      exact r_vret C dX12_layForces_60
set_option maxHeartbeats 4000000 in
set_option maxRecDepth 100000 in
theorem t_m_layForces {S : SS} (hF : Fx S) {h : HH} {res : HH} (hf : m_layForces h = some res) : CM yX12_layForces cX12_layForces 3 (Option.none : Option Jvm.ClassFile.FieldType) 5 122 0 0 (fun bs => [zP bs 193]) h S (fun _ => none) res S := by
  refine CM.intro (own := RX12) (by decide) rfl (fun _ => Nat.le_of_ble_eq_true rfl) ?_
  intro D dT bs p l e s m args below meth c C
  show V D dT bs 3 p l e rm_m_layForces s m args below meth c 0 0 _ h S 0 [(0, zP bs 193)] []
  unfold m_layForces at hf
  refine r_iconst (pc' := 1) C dX12_layForces_0 rfl ?_
  refine r_istore_n (pc' := 2) (f4 := 1) (i := 1) (L' := [(1, zI 0), (0, zP bs 193)]) C rfl (by decide) rfl dX12_layForces_1 rfl ?_
  refine V.sub (L' := [(0, zP bs 193), (1, zI 0)]) [1, 0] rfl ?_
  refine w_m_layForces_L2 hF C _ _ _ hf

/- WassailEnemiesModel.layRing(I)Z -/
def m_layRing_L10 : Nat → HH → Int → Int → Int → Option (Int × HH)
  | 0, _, _, _, _ => none
  | n10 + 1, h, x2, x3, x4 =>
    if ww x4 < 0 then (some (1, h)) else (ck (ww x4) 5 <| if ww (zrem x2 7) = 6 then (m_layRing_L10 n10 (u2 h 214 (ww x4) (zrem x2 7)) (zdiv x2 7) x3 (x4 + (-1))) else (if ww (zrem x2 7) < ww ((u2 h 214 (ww x4) (zrem x2 7)) 193 0) then (if ww (m_has x3 (zrem x2 7)) = 0 then (m_layRing_L10 n10 (u2 h 214 (ww x4) (zrem x2 7)) (zdiv x2 7) (zor x3 (zshl 1 (zrem x2 7))) (x4 + (-1))) else (some (0, u2 h 214 (ww x4) (zrem x2 7)))) else (some (0, u2 h 214 (ww x4) (zrem x2 7)))))
def m_layRing (h : HH) (a1 : Int) : Option (Int × HH) :=
  m_layRing_L10 FU h a1 (h 193 1) 4
abbrev rm_m_layRing : Room := { frames := 1, cells := 0, slots := 0, locals := 22 }
set_option maxHeartbeats 4000000 in
set_option maxRecDepth 100000 in
theorem w_m_layRing_L10 (hF : Fx S) (C : Cx D dT bs RX12 cX12_layRing 6 (some Jvm.ClassFile.FieldType.boolean) p s m args meth c) {res : (Int × HH)} :
    ∀ (n : Nat) (h : HH) (x2 : Int) (x3 : Int) (x4 : Int), m_layRing_L10 n h x2 x3 x4 = some res → V D dT bs 6 p l e rm_m_layRing s m args below meth c 0 0 (MQ below (QQ D dT bs (some (zI res.1)) res.2 S) args s 0 0 (AA bs)) h S 10 [(0, zP bs 193), (2, zI x2), (3, zI x3), (4, zI x4)] [] := by
  intro n
  induction n with
  | zero => intro h x2 x3 x4 hf; simp [m_layRing_L10] at hf
  | succ n10 ih10 =>
    intro h x2 x3 x4 hf
    rw [m_layRing_L10] at hf
    refine r_iload (pc' := 12) (i := 4) C 3 rfl dX12_layRing_10 rfl ?_
    refine r_if_lt (pc' := 15) (tgt := 79) C rfl hf dX12_layRing_12 (by decide) rfl (fun hf => ?_) (fun hf => ?_)
    · refine r_iconst (pc' := 80) C dX12_layRing_79 rfl ?_
      cases hf
      exact r_zret C (Or.inr rfl) dX12_layRing_80
    · refine r_iload_n (pc' := 16) (f4 := 2) (i := 2) C 1 rfl rfl dX12_layRing_15 rfl ?_
      refine r_bipush (pc' := 18) C rfl dX12_layRing_16 rfl ?_
      refine r_irem (pc' := 19) C ww_n7 (by decide) dX12_layRing_18 rfl ?_
      refine r_istore (pc' := 21) (i := 5) (L' := [(5, zI (zrem x2 7)), (0, zP bs 193), (2, zI x2), (3, zI x3), (4, zI x4)]) C (by decide) rfl dX12_layRing_19 rfl ?_
      refine r_iload_n (pc' := 22) (f4 := 2) (i := 2) C 2 rfl rfl dX12_layRing_21 rfl ?_
      refine r_bipush (pc' := 24) C rfl dX12_layRing_22 rfl ?_
      refine r_idiv (pc' := 25) C ww_n7 (by decide) dX12_layRing_24 rfl ?_
      refine r_istore_n (pc' := 26) (f4 := 2) (i := 2) (L' := [(2, zI (zdiv x2 7)), (5, zI (zrem x2 7)), (0, zP bs 193), (3, zI x3), (4, zI x4)]) C rfl (by decide) rfl dX12_layRing_25 rfl ?_
      refine r_aload_n (pc' := 27) (f4 := 0) (i := 0) C 2 rfl rfl dX12_layRing_26 rfl ?_
      refine q_getP (pc' := 30) (j := 34) C (K_193 hF) fb_12_34 (by decide) wd_1205 (Or.inl rfl) (F_193_34 hF) (by decide) dX12_layRing_27 rfl ?_
      refine r_iload (pc' := 32) (i := 4) C 4 rfl dX12_layRing_30 rfl ?_
      refine r_iload (pc' := 34) (i := 5) C 1 rfl dX12_layRing_32 rfl ?_
      obtain ⟨hi, hf⟩ := ck_in hf
      refine r_iast (pc' := 35) C (K_214 hF) rfl hi dX12_layRing_34 rfl ?_
      refine r_iload (pc' := 37) (i := 5) C 1 rfl dX12_layRing_35 rfl ?_
      refine r_bipush (pc' := 39) C rfl dX12_layRing_37 rfl ?_
      refine r_icmp_ne (pc' := 42) (tgt := 45) C rfl ww_n6 hf dX12_layRing_39 (by decide) rfl (fun hf => ?_) (fun hf => ?_)
      · refine r_goto (tgt := 73) C dX12_layRing_42 (by decide) ?_
        refine r_iinc (pc' := 76) (i := 4) (L' := [(4, zI (x4 + (-1))), (2, zI (zdiv x2 7)), (5, zI (zrem x2 7)), (0, zP bs 193), (3, zI x3)]) C 4 rfl (by decide) rfl dX12_layRing_73 rfl ?_
        refine r_goto (tgt := 10) C dX12_layRing_76 (by decide) ?_
        refine V.sub (L' := [(0, zP bs 193), (2, zI (zdiv x2 7)), (3, zI x3), (4, zI (x4 + (-1)))]) [3, 1, 4, 0] rfl ?_
        exact ih10 _ _ _ _ hf
      · refine r_iload (pc' := 47) (i := 5) C 1 rfl dX12_layRing_45 rfl ?_
        refine r_aload_n (pc' := 48) (f4 := 0) (i := 0) C 2 rfl rfl dX12_layRing_47 rfl ?_
        refine q_getI (pc' := 51) (j := 0) C (K_193 hF) fb_12_0 wd_1171 (Or.inl rfl) dX12_layRing_48 rfl ?_
        refine r_icmp_ge (pc' := 54) (tgt := 64) C rfl rfl hf dX12_layRing_51 (by decide) rfl (fun hf => ?_) (fun hf => ?_)
        · refine r_aload_n (pc' := 55) (f4 := 0) (i := 0) C 2 rfl rfl dX12_layRing_54 rfl ?_
          refine r_iload_n (pc' := 56) (f4 := 3) (i := 3) C 3 rfl rfl dX12_layRing_55 rfl ?_
          refine r_iload (pc' := 58) (i := 5) C 1 rfl dX12_layRing_56 rfl ?_
          refine q_callV (pc' := 61) C (t_m_has hF) rfl (K_193 hF) cl_12 wv_RX12_263 ⟨Nat.le_of_ble_eq_true rfl, Nat.le_of_ble_eq_true rfl⟩ rfl rfl (Nat.le_of_ble_eq_true rfl) dX12_layRing_58 rfl ⟨Nat.le_of_ble_eq_true rfl, Nat.le_of_ble_eq_true rfl⟩ ?_
          refine r_if_eq (pc' := 64) (tgt := 66) C rfl hf dX12_layRing_61 (by decide) rfl (fun hf => ?_) (fun hf => ?_)
          · refine r_iload_n (pc' := 67) (f4 := 3) (i := 3) C 3 rfl rfl dX12_layRing_66 rfl ?_
            refine r_iconst (pc' := 68) C dX12_layRing_67 rfl ?_
            refine r_iload (pc' := 70) (i := 5) C 1 rfl dX12_layRing_68 rfl ?_
            refine r_ishl (pc' := 71) C dX12_layRing_70 rfl ?_
            refine r_ior (pc' := 72) C dX12_layRing_71 rfl ?_
            refine r_istore_n (pc' := 73) (f4 := 3) (i := 3) (L' := [(3, zI (zor x3 (zshl 1 (zrem x2 7)))), (2, zI (zdiv x2 7)), (5, zI (zrem x2 7)), (0, zP bs 193), (4, zI x4)]) C rfl (by decide) rfl dX12_layRing_72 rfl ?_
            refine r_iinc (pc' := 76) (i := 4) (L' := [(4, zI (x4 + (-1))), (3, zI (zor x3 (zshl 1 (zrem x2 7)))), (2, zI (zdiv x2 7)), (5, zI (zrem x2 7)), (0, zP bs 193)]) C 4 rfl (by decide) rfl dX12_layRing_73 rfl ?_
            refine r_goto (tgt := 10) C dX12_layRing_76 (by decide) ?_
            refine V.sub (L' := [(0, zP bs 193), (2, zI (zdiv x2 7)), (3, zI (zor x3 (zshl 1 (zrem x2 7)))), (4, zI (x4 + (-1)))]) [4, 2, 1, 0] rfl ?_
            exact ih10 _ _ _ _ hf
          · refine r_iconst (pc' := 65) C dX12_layRing_64 rfl ?_
            cases hf
            exact r_zret C (Or.inl rfl) dX12_layRing_65
        · refine r_iconst (pc' := 65) C dX12_layRing_64 rfl ?_
          cases hf
          exact r_zret C (Or.inl rfl) dX12_layRing_65
set_option maxHeartbeats 4000000 in
set_option maxRecDepth 100000 in
theorem t_m_layRing {S : SS} (hF : Fx S) {h : HH} {a1 : Int} {res : Int × HH} (hf : m_layRing h a1 = some res) : CM yX12_layRing cX12_layRing 6 (some Jvm.ClassFile.FieldType.boolean) 1 22 0 0 (fun bs => [zP bs 193, zI a1]) h S (fun _ => some (zI res.1)) res.2 S := by
  refine CM.intro (own := RX12) (by decide) rfl (fun _ => Nat.le_of_ble_eq_true rfl) ?_
  intro D dT bs p l e s m args below meth c C
  show V D dT bs 6 p l e rm_m_layRing s m args below meth c 0 0 _ h S 0 [(0, zP bs 193), (1, zI a1)] []
  unfold m_layRing at hf
  refine r_iload_n (pc' := 1) (f4 := 1) (i := 1) C 1 rfl rfl dX12_layRing_0 rfl ?_
  refine r_istore_n (pc' := 2) (f4 := 2) (i := 2) (L' := [(2, zI a1), (0, zP bs 193), (1, zI a1)]) C rfl (by decide) rfl dX12_layRing_1 rfl ?_
  refine r_aload_n (pc' := 3) (f4 := 0) (i := 0) C 1 rfl rfl dX12_layRing_2 rfl ?_
  refine q_getI (pc' := 6) (j := 1) C (K_193 hF) fb_12_1 wd_1172 (Or.inl rfl) dX12_layRing_3 rfl ?_
  refine r_istore_n (pc' := 7) (f4 := 3) (i := 3) (L' := [(3, zI (h 193 1)), (2, zI a1), (0, zP bs 193), (1, zI a1)]) C rfl (by decide) rfl dX12_layRing_6 rfl ?_
  refine r_iconst (pc' := 8) C dX12_layRing_7 rfl ?_
  refine r_istore (pc' := 10) (i := 4) (L' := [(4, zI 4), (3, zI (h 193 1)), (2, zI a1), (0, zP bs 193), (1, zI a1)]) C (by decide) rfl dX12_layRing_8 rfl ?_
  refine V.sub (L' := [(0, zP bs 193), (2, zI a1), (3, zI (h 193 1)), (4, zI 4)]) [3, 2, 1, 0] rfl ?_
  refine w_m_layRing_L10 hF C _ _ _ _ _ hf

/- WassailEnemiesModel.layBest()V -/
def m_layBest_L41 (x1 : Int) (k114 : HH → Int → Int → Option HH) : Nat → HH → Int → Int → Int → Option HH
  | 0, _, _, _, _ => none
  | n41 + 1, h, x2, x3, x4 =>
    if ww x4 < 5 then (ck (ww x4) 5 <| if ww (h 214 (ww x4)) = 6 then (m_layBest_L41 x1 k114 n41 h x2 x3 (x4 + 1)) else (ck (ww x4) 5 <| ck (ww ((5 * (h 214 (ww x4))) + x4)) 30 <| if ww (h 213 (ww ((5 * (h 214 (ww x4))) + x4))) = -2000000000 then (m_layBest_L41 x1 k114 n41 h x2 x3 (x4 + 1)) else (ck (ww x4) 5 <| ck (ww ((5 * (h 214 (ww x4))) + x4)) 30 <| m_layBest_L41 x1 k114 n41 h (x2 + 1) (x3 + (h 213 (ww ((5 * (h 214 (ww x4))) + x4)))) (x4 + 1)))) else (k114 h x2 x3)
def m_layBest_L154 (x1 : Int) (k180 : HH → Option HH) : Nat → HH → Int → Option HH
  | 0, _, _ => none
  | n154 + 1, h, x4 =>
    if ww x4 < 5 then (ck (ww x4) 5 <| ck (ww x4) 5 <| m_layBest_L154 x1 k180 n154 (u2 h 215 (ww x4) (h 214 (ww x4))) (x4 + 1)) else (k180 h)
def m_layBest_L16 : Nat → HH → Int → Option HH
  | 0, _, _ => none
  | n16 + 1, h, x1 =>
    if ww x1 < 16807 then ((m_layRing h x1).bind fun q2 => if ww q2.1 = 0 then (m_layBest_L16 n16 q2.2 (x1 + 1)) else (m_layBest_L41 x1 (fun h5 y3 y4 => if ww y3 < ww (h5 193 36) then (m_layBest_L16 n16 h5 (x1 + 1)) else (if ww y3 = ww (h5 193 36) then (if ww (h5 193 37) < ww y4 then (m_layBest_L154 x1 (fun h6 => m_layBest_L16 n16 h6 (x1 + 1)) FU (u2 (u2 h5 193 36 y3) 193 37 y4) 0) else (m_layBest_L16 n16 h5 (x1 + 1))) else (m_layBest_L154 x1 (fun h7 => m_layBest_L16 n16 h7 (x1 + 1)) FU (u2 (u2 h5 193 36 y3) 193 37 y4) 0))) FU q2.2 0 0 0)) else (some h)
def m_layBest (h : HH) : Option HH :=
  (m_layForces h).bind fun q1 => m_layBest_L16 FU (u2 (u2 q1 193 36 (-1)) 193 37 0) 0
abbrev rm_m_layBest : Room := { frames := 6, cells := 0, slots := 0, locals := 144 }
set_option maxHeartbeats 4000000 in
set_option maxRecDepth 100000 in
theorem w_m_layBest_L41 (hF : Fx S) (C : Cx D dT bs RX12 cX12_layBest 5 (Option.none : Option Jvm.ClassFile.FieldType) p s m args meth c) (x1 : Int) (k114 : HH → Int → Int → Option HH) {res : HH} (hk114 : ∀ (h : HH) (x2 : Int) (x3 : Int), k114 h x2 x3 = some res → V D dT bs 5 p l e rm_m_layBest s m args below meth c 0 0 (MQ below (QQ D dT bs none res S) args s 0 0 (AA bs)) h S 114 [(0, zP bs 193), (1, zI x1), (2, zI x2), (3, zI x3)] []) :
    ∀ (n : Nat) (h : HH) (x2 : Int) (x3 : Int) (x4 : Int), m_layBest_L41 x1 k114 n h x2 x3 x4 = some res → V D dT bs 5 p l e rm_m_layBest s m args below meth c 0 0 (MQ below (QQ D dT bs none res S) args s 0 0 (AA bs)) h S 41 [(0, zP bs 193), (1, zI x1), (2, zI x2), (3, zI x3), (4, zI x4)] [] := by
  intro n
  induction n with
  | zero => intro h x2 x3 x4 hf; simp [m_layBest_L41] at hf
  | succ n41 ih41 =>
    intro h x2 x3 x4 hf
    rw [m_layBest_L41] at hf
    refine r_iload (pc' := 43) (i := 4) C 4 rfl dX12_layBest_41 rfl ?_
    refine r_iconst (pc' := 44) C dX12_layBest_43 rfl ?_
    refine r_icmp_ge (pc' := 47) (tgt := 114) C rfl ww_n5 hf dX12_layBest_44 (by decide) rfl (fun hf => ?_) (fun hf => ?_)
    · refine r_aload_n (pc' := 48) (f4 := 0) (i := 0) C 0 rfl rfl dX12_layBest_47 rfl ?_
      refine q_getP (pc' := 51) (j := 34) C (K_193 hF) fb_12_34 (by decide) wd_1205 (Or.inl rfl) (F_193_34 hF) (by decide) dX12_layBest_48 rfl ?_
      refine r_iload (pc' := 53) (i := 4) C 4 rfl dX12_layBest_51 rfl ?_
      obtain ⟨hi, hf⟩ := ck_in hf
      refine r_iald (pc' := 54) C (K_214 hF) rfl hi dX12_layBest_53 rfl ?_
      refine r_bipush (pc' := 56) C rfl dX12_layBest_54 rfl ?_
      refine r_icmp_eq (pc' := 59) (tgt := 108) C rfl ww_n6 hf dX12_layBest_56 (by decide) rfl (fun hf => ?_) (fun hf => ?_)
      · refine r_iinc (pc' := 111) (i := 4) (L' := [(4, zI (x4 + 1)), (0, zP bs 193), (1, zI x1), (2, zI x2), (3, zI x3)]) C 4 rfl (by decide) rfl dX12_layBest_108 rfl ?_
        refine r_goto (tgt := 41) C dX12_layBest_111 (by decide) ?_
        refine V.sub (L' := [(0, zP bs 193), (1, zI x1), (2, zI x2), (3, zI x3), (4, zI (x4 + 1))]) [1, 2, 3, 4, 0] rfl ?_
        exact ih41 _ _ _ _ hf
      · refine r_aload_n (pc' := 60) (f4 := 0) (i := 0) C 0 rfl rfl dX12_layBest_59 rfl ?_
        refine q_getP (pc' := 63) (j := 33) C (K_193 hF) fb_12_33 (by decide) wd_1204 (Or.inl rfl) (F_193_33 hF) (by decide) dX12_layBest_60 rfl ?_
        refine r_iconst (pc' := 64) C dX12_layBest_63 rfl ?_
        refine r_aload_n (pc' := 65) (f4 := 0) (i := 0) C 0 rfl rfl dX12_layBest_64 rfl ?_
        refine q_getP (pc' := 68) (j := 34) C (K_193 hF) fb_12_34 (by decide) wd_1205 (Or.inl rfl) (F_193_34 hF) (by decide) dX12_layBest_65 rfl ?_
        refine r_iload (pc' := 70) (i := 4) C 4 rfl dX12_layBest_68 rfl ?_
        obtain ⟨hi, hf⟩ := ck_in hf
        refine r_iald (pc' := 71) C (K_214 hF) rfl hi dX12_layBest_70 rfl ?_
        refine r_imul (pc' := 72) C dX12_layBest_71 rfl ?_
        refine r_iload (pc' := 74) (i := 4) C 4 rfl dX12_layBest_72 rfl ?_
        refine r_iadd (pc' := 75) C dX12_layBest_74 rfl ?_
        obtain ⟨hi, hf⟩ := ck_in hf
        refine r_iald (pc' := 76) C (K_213 hF) rfl hi dX12_layBest_75 rfl ?_
        refine r_ldcw (pc' := 79) C (n := (-2000000000)) wc_1620 dX12_layBest_76 rfl ?_
        refine r_icmp_ne (pc' := 82) (tgt := 85) C rfl ww_m2000000000 hf dX12_layBest_79 (by decide) rfl (fun hf => ?_) (fun hf => ?_)
        · refine r_goto (tgt := 108) C dX12_layBest_82 (by decide) ?_
          refine r_iinc (pc' := 111) (i := 4) (L' := [(4, zI (x4 + 1)), (0, zP bs 193), (1, zI x1), (2, zI x2), (3, zI x3)]) C 4 rfl (by decide) rfl dX12_layBest_108 rfl ?_
          refine r_goto (tgt := 41) C dX12_layBest_111 (by decide) ?_
          refine V.sub (L' := [(0, zP bs 193), (1, zI x1), (2, zI x2), (3, zI x3), (4, zI (x4 + 1))]) [1, 2, 3, 4, 0] rfl ?_
          exact ih41 _ _ _ _ hf
        · refine r_iinc (pc' := 88) (i := 2) (L' := [(2, zI (x2 + 1)), (0, zP bs 193), (1, zI x1), (3, zI x3), (4, zI x4)]) C 2 rfl (by decide) rfl dX12_layBest_85 rfl ?_
          refine r_iload_n (pc' := 89) (f4 := 3) (i := 3) C 3 rfl rfl dX12_layBest_88 rfl ?_
          refine r_aload_n (pc' := 90) (f4 := 0) (i := 0) C 1 rfl rfl dX12_layBest_89 rfl ?_
          refine q_getP (pc' := 93) (j := 33) C (K_193 hF) fb_12_33 (by decide) wd_1204 (Or.inl rfl) (F_193_33 hF) (by decide) dX12_layBest_90 rfl ?_
          refine r_iconst (pc' := 94) C dX12_layBest_93 rfl ?_
          refine r_aload_n (pc' := 95) (f4 := 0) (i := 0) C 1 rfl rfl dX12_layBest_94 rfl ?_
          refine q_getP (pc' := 98) (j := 34) C (K_193 hF) fb_12_34 (by decide) wd_1205 (Or.inl rfl) (F_193_34 hF) (by decide) dX12_layBest_95 rfl ?_
          refine r_iload (pc' := 100) (i := 4) C 4 rfl dX12_layBest_98 rfl ?_
          obtain ⟨hi, hf⟩ := ck_in hf
          refine r_iald (pc' := 101) C (K_214 hF) rfl hi dX12_layBest_100 rfl ?_
          refine r_imul (pc' := 102) C dX12_layBest_101 rfl ?_
          refine r_iload (pc' := 104) (i := 4) C 4 rfl dX12_layBest_102 rfl ?_
          refine r_iadd (pc' := 105) C dX12_layBest_104 rfl ?_
          obtain ⟨hi, hf⟩ := ck_in hf
          refine r_iald (pc' := 106) C (K_213 hF) rfl hi dX12_layBest_105 rfl ?_
          refine r_iadd (pc' := 107) C dX12_layBest_106 rfl ?_
          refine r_istore_n (pc' := 108) (f4 := 3) (i := 3) (L' := [(3, zI (x3 + (h 213 (ww ((5 * (h 214 (ww x4))) + x4))))), (2, zI (x2 + 1)), (0, zP bs 193), (1, zI x1), (4, zI x4)]) C rfl (by decide) rfl dX12_layBest_107 rfl ?_
          refine r_iinc (pc' := 111) (i := 4) (L' := [(4, zI (x4 + 1)), (3, zI (x3 + (h 213 (ww ((5 * (h 214 (ww x4))) + x4))))), (2, zI (x2 + 1)), (0, zP bs 193), (1, zI x1)]) C 4 rfl (by decide) rfl dX12_layBest_108 rfl ?_
          refine r_goto (tgt := 41) C dX12_layBest_111 (by decide) ?_
          refine V.sub (L' := [(0, zP bs 193), (1, zI x1), (2, zI (x2 + 1)), (3, zI (x3 + (h 213 (ww ((5 * (h 214 (ww x4))) + x4))))), (4, zI (x4 + 1))]) [3, 4, 2, 1, 0] rfl ?_
          exact ih41 _ _ _ _ hf
    · refine V.sub (L' := [(0, zP bs 193), (1, zI x1), (2, zI x2), (3, zI x3)]) [0, 1, 2, 3] rfl ?_
      exact hk114 _ _ _ hf
set_option maxHeartbeats 4000000 in
set_option maxRecDepth 100000 in
theorem w_m_layBest_L154 (hF : Fx S) (C : Cx D dT bs RX12 cX12_layBest 5 (Option.none : Option Jvm.ClassFile.FieldType) p s m args meth c) (x1 : Int) (k180 : HH → Option HH) {res : HH} (hk180 : ∀ (h : HH), k180 h = some res → V D dT bs 5 p l e rm_m_layBest s m args below meth c 0 0 (MQ below (QQ D dT bs none res S) args s 0 0 (AA bs)) h S 180 [(0, zP bs 193), (1, zI x1)] []) :
    ∀ (n : Nat) (h : HH) (x4 : Int), m_layBest_L154 x1 k180 n h x4 = some res → V D dT bs 5 p l e rm_m_layBest s m args below meth c 0 0 (MQ below (QQ D dT bs none res S) args s 0 0 (AA bs)) h S 154 [(0, zP bs 193), (1, zI x1), (4, zI x4)] [] := by
  intro n
  induction n with
  | zero => intro h x4 hf; simp [m_layBest_L154] at hf
  | succ n154 ih154 =>
    intro h x4 hf
    rw [m_layBest_L154] at hf
    refine r_iload (pc' := 156) (i := 4) C 2 rfl dX12_layBest_154 rfl ?_
    refine r_iconst (pc' := 157) C dX12_layBest_156 rfl ?_
    refine r_icmp_ge (pc' := 160) (tgt := 180) C rfl ww_n5 hf dX12_layBest_157 (by decide) rfl (fun hf => ?_) (fun hf => ?_)
    · refine r_aload_n (pc' := 161) (f4 := 0) (i := 0) C 0 rfl rfl dX12_layBest_160 rfl ?_
      refine q_getP (pc' := 164) (j := 35) C (K_193 hF) fb_12_35 (by decide) wd_1206 (Or.inl rfl) (F_193_35 hF) (by decide) dX12_layBest_161 rfl ?_
      refine r_iload (pc' := 166) (i := 4) C 2 rfl dX12_layBest_164 rfl ?_
      refine r_aload_n (pc' := 167) (f4 := 0) (i := 0) C 0 rfl rfl dX12_layBest_166 rfl ?_
      refine q_getP (pc' := 170) (j := 34) C (K_193 hF) fb_12_34 (by decide) wd_1205 (Or.inl rfl) (F_193_34 hF) (by decide) dX12_layBest_167 rfl ?_
      refine r_iload (pc' := 172) (i := 4) C 2 rfl dX12_layBest_170 rfl ?_
      obtain ⟨hi, hf⟩ := ck_in hf
      refine r_iald (pc' := 173) C (K_214 hF) rfl hi dX12_layBest_172 rfl ?_
      obtain ⟨hi, hf⟩ := ck_in hf
      refine r_iast (pc' := 174) C (K_215 hF) rfl hi dX12_layBest_173 rfl ?_
      refine r_iinc (pc' := 177) (i := 4) (L' := [(4, zI (x4 + 1)), (0, zP bs 193), (1, zI x1)]) C 2 rfl (by decide) rfl dX12_layBest_174 rfl ?_
      refine r_goto (tgt := 154) C dX12_layBest_177 (by decide) ?_
      refine V.sub (L' := [(0, zP bs 193), (1, zI x1), (4, zI (x4 + 1))]) [1, 2, 0] rfl ?_
      exact ih154 _ _ hf
    · refine V.sub (L' := [(0, zP bs 193), (1, zI x1)]) [0, 1] rfl ?_
      exact hk180 _ hf
set_option maxHeartbeats 4000000 in
set_option maxRecDepth 100000 in
theorem w_m_layBest_L16 (hF : Fx S) (C : Cx D dT bs RX12 cX12_layBest 5 (Option.none : Option Jvm.ClassFile.FieldType) p s m args meth c) {res : HH} :
    ∀ (n : Nat) (h : HH) (x1 : Int), m_layBest_L16 n h x1 = some res → V D dT bs 5 p l e rm_m_layBest s m args below meth c 0 0 (MQ below (QQ D dT bs none res S) args s 0 0 (AA bs)) h S 16 [(0, zP bs 193), (1, zI x1)] [] := by
  intro n
  induction n with
  | zero => intro h x1 hf; simp [m_layBest_L16] at hf
  | succ n16 ih16 =>
    intro h x1 hf
    rw [m_layBest_L16] at hf
    refine r_iload_n (pc' := 17) (f4 := 1) (i := 1) C 1 rfl rfl dX12_layBest_16 rfl ?_
    refine r_sipush (pc' := 20) C rfl dX12_layBest_17 rfl ?_
    refine r_icmp_ge (pc' := 23) (tgt := 186) C rfl ww_n16807 hf dX12_layBest_20 (by decide) rfl (fun hf => ?_) (fun hf => ?_)
    · refine r_aload_n (pc' := 24) (f4 := 0) (i := 0) C 0 rfl rfl dX12_layBest_23 rfl ?_
      refine r_iload_n (pc' := 25) (f4 := 1) (i := 1) C 1 rfl rfl dX12_layBest_24 rfl ?_
      obtain ⟨q2, hq2, hf⟩ := bind_in hf
      refine q_callV (pc' := 28) C (t_m_layRing hF hq2) rfl (K_193 hF) cl_12 wv_RX12_384 ⟨Nat.le_of_ble_eq_true rfl, Nat.le_of_ble_eq_true rfl⟩ rfl rfl (Nat.le_of_ble_eq_true rfl) dX12_layBest_25 rfl ⟨Nat.le_of_ble_eq_true rfl, Nat.le_of_ble_eq_true rfl⟩ ?_
      refine r_if_ne (pc' := 31) (tgt := 34) C rfl hf dX12_layBest_28 (by decide) rfl (fun hf => ?_) (fun hf => ?_)
      · refine r_goto (tgt := 180) C dX12_layBest_31 (by decide) ?_
        refine r_iinc (pc' := 183) (i := 1) (L' := [(1, zI (x1 + 1)), (0, zP bs 193)]) C 1 rfl (by decide) rfl dX12_layBest_180 rfl ?_
        refine r_goto (tgt := 16) C dX12_layBest_183 (by decide) ?_
        refine V.sub (L' := [(0, zP bs 193), (1, zI (x1 + 1))]) [1, 0] rfl ?_
        exact ih16 _ _ hf
      · refine r_iconst (pc' := 35) C dX12_layBest_34 rfl ?_
        refine r_istore_n (pc' := 36) (f4 := 2) (i := 2) (L' := [(2, zI 0), (0, zP bs 193), (1, zI x1)]) C rfl (by decide) rfl dX12_layBest_35 rfl ?_
        refine r_iconst (pc' := 37) C dX12_layBest_36 rfl ?_
        refine r_istore_n (pc' := 38) (f4 := 3) (i := 3) (L' := [(3, zI 0), (2, zI 0), (0, zP bs 193), (1, zI x1)]) C rfl (by decide) rfl dX12_layBest_37 rfl ?_
        refine r_iconst (pc' := 39) C dX12_layBest_38 rfl ?_
        refine r_istore (pc' := 41) (i := 4) (L' := [(4, zI 0), (3, zI 0), (2, zI 0), (0, zP bs 193), (1, zI x1)]) C (by decide) rfl dX12_layBest_39 rfl ?_
        refine V.sub (L' := [(0, zP bs 193), (1, zI x1), (2, zI 0), (3, zI 0), (4, zI 0)]) [3, 4, 2, 1, 0] rfl ?_
        refine w_m_layBest_L41 hF C _ _ ?_ _ _ _ _ _ hf
        intro h5 y3 y4 hf
        refine r_iload_n (pc' := 115) (f4 := 2) (i := 2) C 2 rfl rfl dX12_layBest_114 rfl ?_
        refine r_aload_n (pc' := 116) (f4 := 0) (i := 0) C 0 rfl rfl dX12_layBest_115 rfl ?_
        refine q_getI (pc' := 119) (j := 36) C (K_193 hF) fb_12_36 wd_1207 (Or.inl rfl) dX12_layBest_116 rfl ?_
        refine r_icmp_lt (pc' := 122) (tgt := 180) C rfl rfl hf dX12_layBest_119 (by decide) rfl (fun hf => ?_) (fun hf => ?_)
        · refine r_iinc (pc' := 183) (i := 1) (L' := [(1, zI (x1 + 1)), (0, zP bs 193), (2, zI y3), (3, zI y4)]) C 1 rfl (by decide) rfl dX12_layBest_180 rfl ?_
          refine r_goto (tgt := 16) C dX12_layBest_183 (by decide) ?_
          refine V.sub (L' := [(0, zP bs 193), (1, zI (x1 + 1))]) [1, 0] rfl ?_
          exact ih16 _ _ hf
        · refine r_iload_n (pc' := 123) (f4 := 2) (i := 2) C 2 rfl rfl dX12_layBest_122 rfl ?_
          refine r_aload_n (pc' := 124) (f4 := 0) (i := 0) C 0 rfl rfl dX12_layBest_123 rfl ?_
          refine q_getI (pc' := 127) (j := 36) C (K_193 hF) fb_12_36 wd_1207 (Or.inl rfl) dX12_layBest_124 rfl ?_
          refine r_icmp_ne (pc' := 130) (tgt := 141) C rfl rfl hf dX12_layBest_127 (by decide) rfl (fun hf => ?_) (fun hf => ?_)
          · refine r_iload_n (pc' := 131) (f4 := 3) (i := 3) C 3 rfl rfl dX12_layBest_130 rfl ?_
            refine r_aload_n (pc' := 132) (f4 := 0) (i := 0) C 0 rfl rfl dX12_layBest_131 rfl ?_
            refine q_getI (pc' := 135) (j := 37) C (K_193 hF) fb_12_37 wd_1208 (Or.inl rfl) dX12_layBest_132 rfl ?_
            refine r_icmp_gt (pc' := 138) (tgt := 141) C rfl rfl hf dX12_layBest_135 (by decide) rfl (fun hf => ?_) (fun hf => ?_)
            · refine r_aload_n (pc' := 142) (f4 := 0) (i := 0) C 0 rfl rfl dX12_layBest_141 rfl ?_
              refine r_iload_n (pc' := 143) (f4 := 2) (i := 2) C 2 rfl rfl dX12_layBest_142 rfl ?_
              refine q_putI (pc' := 146) (j := 36) C (K_193 hF) fb_12_36 fp_12_36 wd_1207 (Or.inl rfl) (Or.inl rfl) rfl rfl dX12_layBest_143 rfl ?_
              refine r_aload_n (pc' := 147) (f4 := 0) (i := 0) C 0 rfl rfl dX12_layBest_146 rfl ?_
              refine r_iload_n (pc' := 148) (f4 := 3) (i := 3) C 3 rfl rfl dX12_layBest_147 rfl ?_
              refine q_putI (pc' := 151) (j := 37) C (K_193 hF) fb_12_37 fp_12_37 wd_1208 (Or.inl rfl) (Or.inl rfl) rfl rfl dX12_layBest_148 rfl ?_
              refine r_iconst (pc' := 152) C dX12_layBest_151 rfl ?_
              refine r_istore (pc' := 154) (i := 4) (L' := [(4, zI 0), (0, zP bs 193), (1, zI x1), (2, zI y3), (3, zI y4)]) C (by decide) rfl dX12_layBest_152 rfl ?_
              refine V.sub (L' := [(0, zP bs 193), (1, zI x1), (4, zI 0)]) [1, 2, 0] rfl ?_
              refine w_m_layBest_L154 hF C _ _ ?_ _ _ _ hf
              intro h6 hf
              refine r_iinc (pc' := 183) (i := 1) (L' := [(1, zI (x1 + 1)), (0, zP bs 193)]) C 1 rfl (by decide) rfl dX12_layBest_180 rfl ?_
              refine r_goto (tgt := 16) C dX12_layBest_183 (by decide) ?_
              refine V.sub (L' := [(0, zP bs 193), (1, zI (x1 + 1))]) [1, 0] rfl ?_
              exact ih16 _ _ hf
            · refine r_goto (tgt := 180) C dX12_layBest_138 (by decide) ?_
              refine r_iinc (pc' := 183) (i := 1) (L' := [(1, zI (x1 + 1)), (0, zP bs 193), (2, zI y3), (3, zI y4)]) C 1 rfl (by decide) rfl dX12_layBest_180 rfl ?_
              refine r_goto (tgt := 16) C dX12_layBest_183 (by decide) ?_
              refine V.sub (L' := [(0, zP bs 193), (1, zI (x1 + 1))]) [1, 0] rfl ?_
              exact ih16 _ _ hf
          · refine r_aload_n (pc' := 142) (f4 := 0) (i := 0) C 0 rfl rfl dX12_layBest_141 rfl ?_
            refine r_iload_n (pc' := 143) (f4 := 2) (i := 2) C 2 rfl rfl dX12_layBest_142 rfl ?_
            refine q_putI (pc' := 146) (j := 36) C (K_193 hF) fb_12_36 fp_12_36 wd_1207 (Or.inl rfl) (Or.inl rfl) rfl rfl dX12_layBest_143 rfl ?_
            refine r_aload_n (pc' := 147) (f4 := 0) (i := 0) C 0 rfl rfl dX12_layBest_146 rfl ?_
            refine r_iload_n (pc' := 148) (f4 := 3) (i := 3) C 3 rfl rfl dX12_layBest_147 rfl ?_
            refine q_putI (pc' := 151) (j := 37) C (K_193 hF) fb_12_37 fp_12_37 wd_1208 (Or.inl rfl) (Or.inl rfl) rfl rfl dX12_layBest_148 rfl ?_
            refine r_iconst (pc' := 152) C dX12_layBest_151 rfl ?_
            refine r_istore (pc' := 154) (i := 4) (L' := [(4, zI 0), (0, zP bs 193), (1, zI x1), (2, zI y3), (3, zI y4)]) C (by decide) rfl dX12_layBest_152 rfl ?_
            refine V.sub (L' := [(0, zP bs 193), (1, zI x1), (4, zI 0)]) [1, 2, 0] rfl ?_
            refine w_m_layBest_L154 hF C _ _ ?_ _ _ _ hf
            intro h7 hf
            refine r_iinc (pc' := 183) (i := 1) (L' := [(1, zI (x1 + 1)), (0, zP bs 193)]) C 1 rfl (by decide) rfl dX12_layBest_180 rfl ?_
            refine r_goto (tgt := 16) C dX12_layBest_183 (by decide) ?_
            refine V.sub (L' := [(0, zP bs 193), (1, zI (x1 + 1))]) [1, 0] rfl ?_
            exact ih16 _ _ hf
    · cases hf
      exact r_vret C dX12_layBest_186
set_option maxHeartbeats 4000000 in
set_option maxRecDepth 100000 in
theorem t_m_layBest {S : SS} (hF : Fx S) {h : HH} {res : HH} (hf : m_layBest h = some res) : CM yX12_layBest cX12_layBest 5 (Option.none : Option Jvm.ClassFile.FieldType) 6 144 0 0 (fun bs => [zP bs 193]) h S (fun _ => none) res S := by
  refine CM.intro (own := RX12) (by decide) rfl (fun _ => Nat.le_of_ble_eq_true rfl) ?_
  intro D dT bs p l e s m args below meth c C
  show V D dT bs 5 p l e rm_m_layBest s m args below meth c 0 0 _ h S 0 [(0, zP bs 193)] []
  unfold m_layBest at hf
  refine r_aload_n (pc' := 1) (f4 := 0) (i := 0) C 0 rfl rfl dX12_layBest_0 rfl ?_
  obtain ⟨q1, hq1, hf⟩ := bind_in hf
  refine q_callVv (pc' := 4) C (t_m_layForces hF hq1) rfl (K_193 hF) cl_12 wv_RX12_381 ⟨Nat.le_of_ble_eq_true rfl, Nat.le_of_ble_eq_true rfl⟩ rfl rfl (Nat.le_of_ble_eq_true rfl) dX12_layBest_1 rfl ⟨Nat.le_of_ble_eq_true rfl, Nat.le_of_ble_eq_true rfl⟩ ?_
  refine r_aload_n (pc' := 5) (f4 := 0) (i := 0) C 0 rfl rfl dX12_layBest_4 rfl ?_
  refine r_iconst (pc' := 6) C dX12_layBest_5 rfl ?_
  refine q_putI (pc' := 9) (j := 36) C (K_193 hF) fb_12_36 fp_12_36 wd_1207 (Or.inl rfl) (Or.inl rfl) rfl rfl dX12_layBest_6 rfl ?_
  refine r_aload_n (pc' := 10) (f4 := 0) (i := 0) C 0 rfl rfl dX12_layBest_9 rfl ?_
  refine r_iconst (pc' := 11) C dX12_layBest_10 rfl ?_
  refine q_putI (pc' := 14) (j := 37) C (K_193 hF) fb_12_37 fp_12_37 wd_1208 (Or.inl rfl) (Or.inl rfl) rfl rfl dX12_layBest_11 rfl ?_
  refine r_iconst (pc' := 15) C dX12_layBest_14 rfl ?_
  refine r_istore_n (pc' := 16) (f4 := 1) (i := 1) (L' := [(1, zI 0), (0, zP bs 193)]) C rfl (by decide) rfl dX12_layBest_15 rfl ?_
  refine V.sub (L' := [(0, zP bs 193), (1, zI 0)]) [1, 0] rfl ?_
  refine w_m_layBest_L16 hF C _ _ _ hf

/- WassailEnemiesModel.ring(I)I -/
def m_ring (h : HH) (a1 : Int) : Option (Int × HH) :=
  if ww (m_in a1 0 1) = 0 then (if ww (m_in a1 10 14) = 0 then (some (-10001, h)) else ((m_layBest h).bind fun q1 => if ww a1 < 2 then (if ww a1 = 0 then (some (q1 193 36, q1)) else (some (q1 193 37, q1))) else (ck (ww (a1 - 10)) 5 <| if ww (q1 215 (ww (a1 - 10))) = 6 then (some (-5, q1)) else (ck (ww (a1 - 10)) 5 <| some (q1 215 (ww (a1 - 10)), q1))))) else ((m_layBest h).bind fun q2 => if ww a1 < 2 then (if ww a1 = 0 then (some (q2 193 36, q2)) else (some (q2 193 37, q2))) else (ck (ww (a1 - 10)) 5 <| if ww (q2 215 (ww (a1 - 10))) = 6 then (some (-5, q2)) else (ck (ww (a1 - 10)) 5 <| some (q2 215 (ww (a1 - 10)), q2))))
abbrev rm_m_ring : Room := { frames := 7, cells := 0, slots := 0, locals := 168 }
set_option maxHeartbeats 4000000 in
set_option maxRecDepth 100000 in
theorem t_m_ring {S : SS} (hF : Fx S) {h : HH} {a1 : Int} {res : Int × HH} (hf : m_ring h a1 = some res) : CM yX12_ring cX12_ring 2 (some Jvm.ClassFile.FieldType.int) 7 168 0 0 (fun bs => [zP bs 193, zI a1]) h S (fun _ => some (zI res.1)) res.2 S := by
  refine CM.intro (own := RX12) (by decide) rfl (fun _ => Nat.le_of_ble_eq_true rfl) ?_
  intro D dT bs p l e s m args below meth c C
  show V D dT bs 2 p l e rm_m_ring s m args below meth c 0 0 _ h S 0 [(0, zP bs 193), (1, zI a1)] []
  unfold m_ring at hf
  refine r_aload_n (pc' := 1) (f4 := 0) (i := 0) C 0 rfl rfl dX12_ring_0 rfl ?_
  refine r_iload_n (pc' := 2) (f4 := 1) (i := 1) C 1 rfl rfl dX12_ring_1 rfl ?_
  refine r_iconst (pc' := 3) C dX12_ring_2 rfl ?_
  refine r_iconst (pc' := 4) C dX12_ring_3 rfl ?_
  refine q_callV (pc' := 7) C (t_m_in hF) rfl (K_193 hF) cl_12 wv_RX12_245 ⟨Nat.le_of_ble_eq_true rfl, Nat.le_of_ble_eq_true rfl⟩ rfl rfl (Nat.le_of_ble_eq_true rfl) dX12_ring_4 rfl ⟨Nat.le_of_ble_eq_true rfl, Nat.le_of_ble_eq_true rfl⟩ ?_
  refine r_if_ne (pc' := 10) (tgt := 26) C rfl hf dX12_ring_7 (by decide) rfl (fun hf => ?_) (fun hf => ?_)
  · refine r_aload_n (pc' := 11) (f4 := 0) (i := 0) C 0 rfl rfl dX12_ring_10 rfl ?_
    refine r_iload_n (pc' := 12) (f4 := 1) (i := 1) C 1 rfl rfl dX12_ring_11 rfl ?_
    refine r_bipush (pc' := 14) C rfl dX12_ring_12 rfl ?_
    refine r_bipush (pc' := 16) C rfl dX12_ring_14 rfl ?_
    refine q_callV (pc' := 19) C (t_m_in hF) rfl (K_193 hF) cl_12 wv_RX12_245 ⟨Nat.le_of_ble_eq_true rfl, Nat.le_of_ble_eq_true rfl⟩ rfl rfl (Nat.le_of_ble_eq_true rfl) dX12_ring_16 rfl ⟨Nat.le_of_ble_eq_true rfl, Nat.le_of_ble_eq_true rfl⟩ ?_
    refine r_if_ne (pc' := 22) (tgt := 26) C rfl hf dX12_ring_19 (by decide) rfl (fun hf => ?_) (fun hf => ?_)
    · refine r_sipush (pc' := 25) C rfl dX12_ring_22 rfl ?_
      cases hf
      exact r_iret C dX12_ring_25
    · refine r_aload_n (pc' := 27) (f4 := 0) (i := 0) C 0 rfl rfl dX12_ring_26 rfl ?_
      obtain ⟨q1, hq1, hf⟩ := bind_in hf
      refine q_callVv (pc' := 30) C (t_m_layBest hF hq1) rfl (K_193 hF) cl_12 wv_RX12_387 ⟨Nat.le_of_ble_eq_true rfl, Nat.le_of_ble_eq_true rfl⟩ rfl rfl (Nat.le_of_ble_eq_true rfl) dX12_ring_27 rfl ⟨Nat.le_of_ble_eq_true rfl, Nat.le_of_ble_eq_true rfl⟩ ?_
      refine r_iload_n (pc' := 31) (f4 := 1) (i := 1) C 1 rfl rfl dX12_ring_30 rfl ?_
      refine r_iconst (pc' := 32) C dX12_ring_31 rfl ?_
      refine r_icmp_ge (pc' := 35) (tgt := 51) C rfl ww_n2 hf dX12_ring_32 (by decide) rfl (fun hf => ?_) (fun hf => ?_)
      · refine r_iload_n (pc' := 36) (f4 := 1) (i := 1) C 1 rfl rfl dX12_ring_35 rfl ?_
        refine r_if_ne (pc' := 39) (tgt := 46) C rfl hf dX12_ring_36 (by decide) rfl (fun hf => ?_) (fun hf => ?_)
        · refine r_aload_n (pc' := 40) (f4 := 0) (i := 0) C 0 rfl rfl dX12_ring_39 rfl ?_
          refine q_getI (pc' := 43) (j := 36) C (K_193 hF) fb_12_36 wd_1207 (Or.inl rfl) dX12_ring_40 rfl ?_
          refine r_goto (tgt := 50) C dX12_ring_43 (by decide) ?_
          cases hf
          exact r_iret C dX12_ring_50
        · refine r_aload_n (pc' := 47) (f4 := 0) (i := 0) C 0 rfl rfl dX12_ring_46 rfl ?_
          refine q_getI (pc' := 50) (j := 37) C (K_193 hF) fb_12_37 wd_1208 (Or.inl rfl) dX12_ring_47 rfl ?_
          cases hf
          exact r_iret C dX12_ring_50
      · refine r_aload_n (pc' := 52) (f4 := 0) (i := 0) C 0 rfl rfl dX12_ring_51 rfl ?_
        refine q_getP (pc' := 55) (j := 35) C (K_193 hF) fb_12_35 (by decide) wd_1206 (Or.inl rfl) (F_193_35 hF) (by decide) dX12_ring_52 rfl ?_
        refine r_iload_n (pc' := 56) (f4 := 1) (i := 1) C 1 rfl rfl dX12_ring_55 rfl ?_
        refine r_bipush (pc' := 58) C rfl dX12_ring_56 rfl ?_
        refine r_isub (pc' := 59) C dX12_ring_58 rfl ?_
        obtain ⟨hi, hf⟩ := ck_in hf
        refine r_iald (pc' := 60) C (K_215 hF) rfl hi dX12_ring_59 rfl ?_
        refine r_bipush (pc' := 62) C rfl dX12_ring_60 rfl ?_
        refine r_icmp_ne (pc' := 65) (tgt := 70) C rfl ww_n6 hf dX12_ring_62 (by decide) rfl (fun hf => ?_) (fun hf => ?_)
        · refine r_bipush (pc' := 67) C rfl dX12_ring_65 rfl ?_
          refine r_goto (tgt := 79) C dX12_ring_67 (by decide) ?_
          cases hf
          exact r_iret C dX12_ring_79
        · refine r_aload_n (pc' := 71) (f4 := 0) (i := 0) C 0 rfl rfl dX12_ring_70 rfl ?_
          refine q_getP (pc' := 74) (j := 35) C (K_193 hF) fb_12_35 (by decide) wd_1206 (Or.inl rfl) (F_193_35 hF) (by decide) dX12_ring_71 rfl ?_
          refine r_iload_n (pc' := 75) (f4 := 1) (i := 1) C 1 rfl rfl dX12_ring_74 rfl ?_
          refine r_bipush (pc' := 77) C rfl dX12_ring_75 rfl ?_
          refine r_isub (pc' := 78) C dX12_ring_77 rfl ?_
          obtain ⟨hi, hf⟩ := ck_in hf
          refine r_iald (pc' := 79) C (K_215 hF) rfl hi dX12_ring_78 rfl ?_
          cases hf
          exact r_iret C dX12_ring_79
  · refine r_aload_n (pc' := 27) (f4 := 0) (i := 0) C 0 rfl rfl dX12_ring_26 rfl ?_
    obtain ⟨q2, hq2, hf⟩ := bind_in hf
    refine q_callVv (pc' := 30) C (t_m_layBest hF hq2) rfl (K_193 hF) cl_12 wv_RX12_387 ⟨Nat.le_of_ble_eq_true rfl, Nat.le_of_ble_eq_true rfl⟩ rfl rfl (Nat.le_of_ble_eq_true rfl) dX12_ring_27 rfl ⟨Nat.le_of_ble_eq_true rfl, Nat.le_of_ble_eq_true rfl⟩ ?_
    refine r_iload_n (pc' := 31) (f4 := 1) (i := 1) C 1 rfl rfl dX12_ring_30 rfl ?_
    refine r_iconst (pc' := 32) C dX12_ring_31 rfl ?_
    refine r_icmp_ge (pc' := 35) (tgt := 51) C rfl ww_n2 hf dX12_ring_32 (by decide) rfl (fun hf => ?_) (fun hf => ?_)
    · refine r_iload_n (pc' := 36) (f4 := 1) (i := 1) C 1 rfl rfl dX12_ring_35 rfl ?_
      refine r_if_ne (pc' := 39) (tgt := 46) C rfl hf dX12_ring_36 (by decide) rfl (fun hf => ?_) (fun hf => ?_)
      · refine r_aload_n (pc' := 40) (f4 := 0) (i := 0) C 0 rfl rfl dX12_ring_39 rfl ?_
        refine q_getI (pc' := 43) (j := 36) C (K_193 hF) fb_12_36 wd_1207 (Or.inl rfl) dX12_ring_40 rfl ?_
        refine r_goto (tgt := 50) C dX12_ring_43 (by decide) ?_
        cases hf
        exact r_iret C dX12_ring_50
      · refine r_aload_n (pc' := 47) (f4 := 0) (i := 0) C 0 rfl rfl dX12_ring_46 rfl ?_
        refine q_getI (pc' := 50) (j := 37) C (K_193 hF) fb_12_37 wd_1208 (Or.inl rfl) dX12_ring_47 rfl ?_
        cases hf
        exact r_iret C dX12_ring_50
    · refine r_aload_n (pc' := 52) (f4 := 0) (i := 0) C 0 rfl rfl dX12_ring_51 rfl ?_
      refine q_getP (pc' := 55) (j := 35) C (K_193 hF) fb_12_35 (by decide) wd_1206 (Or.inl rfl) (F_193_35 hF) (by decide) dX12_ring_52 rfl ?_
      refine r_iload_n (pc' := 56) (f4 := 1) (i := 1) C 1 rfl rfl dX12_ring_55 rfl ?_
      refine r_bipush (pc' := 58) C rfl dX12_ring_56 rfl ?_
      refine r_isub (pc' := 59) C dX12_ring_58 rfl ?_
      obtain ⟨hi, hf⟩ := ck_in hf
      refine r_iald (pc' := 60) C (K_215 hF) rfl hi dX12_ring_59 rfl ?_
      refine r_bipush (pc' := 62) C rfl dX12_ring_60 rfl ?_
      refine r_icmp_ne (pc' := 65) (tgt := 70) C rfl ww_n6 hf dX12_ring_62 (by decide) rfl (fun hf => ?_) (fun hf => ?_)
      · refine r_bipush (pc' := 67) C rfl dX12_ring_65 rfl ?_
        refine r_goto (tgt := 79) C dX12_ring_67 (by decide) ?_
        cases hf
        exact r_iret C dX12_ring_79
      · refine r_aload_n (pc' := 71) (f4 := 0) (i := 0) C 0 rfl rfl dX12_ring_70 rfl ?_
        refine q_getP (pc' := 74) (j := 35) C (K_193 hF) fb_12_35 (by decide) wd_1206 (Or.inl rfl) (F_193_35 hF) (by decide) dX12_ring_71 rfl ?_
        refine r_iload_n (pc' := 75) (f4 := 1) (i := 1) C 1 rfl rfl dX12_ring_74 rfl ?_
        refine r_bipush (pc' := 77) C rfl dX12_ring_75 rfl ?_
        refine r_isub (pc' := 78) C dX12_ring_77 rfl ?_
        obtain ⟨hi, hf⟩ := ck_in hf
        refine r_iald (pc' := 79) C (K_215 hF) rfl hi dX12_ring_78 rfl ?_
        cases hf
        exact r_iret C dX12_ring_79

/- WassailEnemiesModel.worst(Z)I -/
def m_worst_L15 (x1 : Int) (x4 : Int) : Nat → HH → Int → Int → Int → Option (Int × HH)
  | 0, _, _, _, _ => none
  | n15 + 1, h, x2, x3, x5 =>
    if ww x5 < ww (h 193 0) then (if ww (m_has x4 x5) = 0 then ((m_goes h x5 1).bind fun q1 => (m_layBest q1).bind fun q2 => if ww x2 < 0 then (m_worst_L15 x1 x4 n15 (u2 q2 193 1 x4) x5 ((u2 q2 193 1 x4) 193 36) (x5 + 1)) else (if ww ((u2 q2 193 1 x4) 193 36) < ww x3 then (m_worst_L15 x1 x4 n15 (u2 q2 193 1 x4) x5 ((u2 q2 193 1 x4) 193 36) (x5 + 1)) else (m_worst_L15 x1 x4 n15 (u2 q2 193 1 x4) x2 x3 (x5 + 1)))) else (m_worst_L15 x1 x4 n15 h x2 x3 (x5 + 1))) else (if ww x1 = 0 then (some (x3, h)) else (some (x2, h)))
def m_worst (h : HH) (a1 : Int) : Option (Int × HH) :=
  m_worst_L15 a1 (h 193 1) FU h (-5) (-5) 0
abbrev rm_m_worst : Room := { frames := 7, cells := 0, slots := 0, locals := 168 }
set_option maxHeartbeats 4000000 in
set_option maxRecDepth 100000 in
theorem w_m_worst_L15 (hF : Fx S) (C : Cx D dT bs RX12 cX12_worst 6 (some Jvm.ClassFile.FieldType.int) p s m args meth c) (x1 : Int) (x4 : Int) {res : (Int × HH)} :
    ∀ (n : Nat) (h : HH) (x2 : Int) (x3 : Int) (x5 : Int), m_worst_L15 x1 x4 n h x2 x3 x5 = some res → V D dT bs 6 p l e rm_m_worst s m args below meth c 0 0 (MQ below (QQ D dT bs (some (zI res.1)) res.2 S) args s 0 0 (AA bs)) h S 15 [(0, zP bs 193), (1, zI x1), (2, zI x2), (3, zI x3), (4, zI x4), (5, zI x5)] [] := by
  intro n
  induction n with
  | zero => intro h x2 x3 x5 hf; simp [m_worst_L15] at hf
  | succ n15 ih15 =>
    intro h x2 x3 x5 hf
    rw [m_worst_L15] at hf
    refine r_iload (pc' := 17) (i := 5) C 5 rfl dX12_worst_15 rfl ?_
    refine r_aload_n (pc' := 18) (f4 := 0) (i := 0) C 0 rfl rfl dX12_worst_17 rfl ?_
    refine q_getI (pc' := 21) (j := 0) C (K_193 hF) fb_12_0 wd_1171 (Or.inl rfl) dX12_worst_18 rfl ?_
    refine r_icmp_ge (pc' := 24) (tgt := 84) C rfl rfl hf dX12_worst_21 (by decide) rfl (fun hf => ?_) (fun hf => ?_)
    · refine r_aload_n (pc' := 25) (f4 := 0) (i := 0) C 0 rfl rfl dX12_worst_24 rfl ?_
      refine r_iload (pc' := 27) (i := 4) C 4 rfl dX12_worst_25 rfl ?_
      refine r_iload (pc' := 29) (i := 5) C 5 rfl dX12_worst_27 rfl ?_
      refine q_callV (pc' := 32) C (t_m_has hF) rfl (K_193 hF) cl_12 wv_RX12_263 ⟨Nat.le_of_ble_eq_true rfl, Nat.le_of_ble_eq_true rfl⟩ rfl rfl (Nat.le_of_ble_eq_true rfl) dX12_worst_29 rfl ⟨Nat.le_of_ble_eq_true rfl, Nat.le_of_ble_eq_true rfl⟩ ?_
      refine r_if_eq (pc' := 35) (tgt := 38) C rfl hf dX12_worst_32 (by decide) rfl (fun hf => ?_) (fun hf => ?_)
      · refine r_aload_n (pc' := 39) (f4 := 0) (i := 0) C 0 rfl rfl dX12_worst_38 rfl ?_
        refine r_iload (pc' := 41) (i := 5) C 5 rfl dX12_worst_39 rfl ?_
        refine r_iconst (pc' := 42) C dX12_worst_41 rfl ?_
        obtain ⟨q1, hq1, hf⟩ := bind_in hf
        refine q_callVv (pc' := 45) C (t_m_goes hF hq1) rfl (K_193 hF) cl_12 wv_RX12_267 ⟨Nat.le_of_ble_eq_true rfl, Nat.le_of_ble_eq_true rfl⟩ rfl rfl (Nat.le_of_ble_eq_true rfl) dX12_worst_42 rfl ⟨Nat.le_of_ble_eq_true rfl, Nat.le_of_ble_eq_true rfl⟩ ?_
        refine r_aload_n (pc' := 46) (f4 := 0) (i := 0) C 0 rfl rfl dX12_worst_45 rfl ?_
        obtain ⟨q2, hq2, hf⟩ := bind_in hf
        refine q_callVv (pc' := 49) C (t_m_layBest hF hq2) rfl (K_193 hF) cl_12 wv_RX12_387 ⟨Nat.le_of_ble_eq_true rfl, Nat.le_of_ble_eq_true rfl⟩ rfl rfl (Nat.le_of_ble_eq_true rfl) dX12_worst_46 rfl ⟨Nat.le_of_ble_eq_true rfl, Nat.le_of_ble_eq_true rfl⟩ ?_
        refine r_aload_n (pc' := 50) (f4 := 0) (i := 0) C 0 rfl rfl dX12_worst_49 rfl ?_
        refine r_iload (pc' := 52) (i := 4) C 4 rfl dX12_worst_50 rfl ?_
        refine q_putI (pc' := 55) (j := 1) C (K_193 hF) fb_12_1 fp_12_1 wd_1172 (Or.inl rfl) (Or.inl rfl) rfl rfl dX12_worst_52 rfl ?_
        refine r_iload_n (pc' := 56) (f4 := 2) (i := 2) C 2 rfl rfl dX12_worst_55 rfl ?_
        refine r_if_lt (pc' := 59) (tgt := 70) C rfl hf dX12_worst_56 (by decide) rfl (fun hf => ?_) (fun hf => ?_)
        · refine r_iload (pc' := 72) (i := 5) C 5 rfl dX12_worst_70 rfl ?_
          refine r_istore_n (pc' := 73) (f4 := 2) (i := 2) (L' := [(2, zI x5), (0, zP bs 193), (1, zI x1), (3, zI x3), (4, zI x4), (5, zI x5)]) C rfl (by decide) rfl dX12_worst_72 rfl ?_
          refine r_aload_n (pc' := 74) (f4 := 0) (i := 0) C 1 rfl rfl dX12_worst_73 rfl ?_
          refine q_getI (pc' := 77) (j := 36) C (K_193 hF) fb_12_36 wd_1207 (Or.inl rfl) dX12_worst_74 rfl ?_
          refine r_istore_n (pc' := 78) (f4 := 3) (i := 3) (L' := [(3, zI ((u2 q2 193 1 x4) 193 36)), (2, zI x5), (0, zP bs 193), (1, zI x1), (4, zI x4), (5, zI x5)]) C rfl (by decide) rfl dX12_worst_77 rfl ?_
          refine r_iinc (pc' := 81) (i := 5) (L' := [(5, zI (x5 + 1)), (3, zI ((u2 q2 193 1 x4) 193 36)), (2, zI x5), (0, zP bs 193), (1, zI x1), (4, zI x4)]) C 5 rfl (by decide) rfl dX12_worst_78 rfl ?_
          refine r_goto (tgt := 15) C dX12_worst_81 (by decide) ?_
          refine V.sub (L' := [(0, zP bs 193), (1, zI x1), (2, zI x5), (3, zI ((u2 q2 193 1 x4) 193 36)), (4, zI x4), (5, zI (x5 + 1))]) [3, 4, 2, 1, 5, 0] rfl ?_
          exact ih15 _ _ _ _ hf
        · refine r_aload_n (pc' := 60) (f4 := 0) (i := 0) C 0 rfl rfl dX12_worst_59 rfl ?_
          refine q_getI (pc' := 63) (j := 36) C (K_193 hF) fb_12_36 wd_1207 (Or.inl rfl) dX12_worst_60 rfl ?_
          refine r_iload_n (pc' := 64) (f4 := 3) (i := 3) C 3 rfl rfl dX12_worst_63 rfl ?_
          refine r_icmp_lt (pc' := 67) (tgt := 70) C rfl rfl hf dX12_worst_64 (by decide) rfl (fun hf => ?_) (fun hf => ?_)
          · refine r_iload (pc' := 72) (i := 5) C 5 rfl dX12_worst_70 rfl ?_
            refine r_istore_n (pc' := 73) (f4 := 2) (i := 2) (L' := [(2, zI x5), (0, zP bs 193), (1, zI x1), (3, zI x3), (4, zI x4), (5, zI x5)]) C rfl (by decide) rfl dX12_worst_72 rfl ?_
            refine r_aload_n (pc' := 74) (f4 := 0) (i := 0) C 1 rfl rfl dX12_worst_73 rfl ?_
            refine q_getI (pc' := 77) (j := 36) C (K_193 hF) fb_12_36 wd_1207 (Or.inl rfl) dX12_worst_74 rfl ?_
            refine r_istore_n (pc' := 78) (f4 := 3) (i := 3) (L' := [(3, zI ((u2 q2 193 1 x4) 193 36)), (2, zI x5), (0, zP bs 193), (1, zI x1), (4, zI x4), (5, zI x5)]) C rfl (by decide) rfl dX12_worst_77 rfl ?_
            refine r_iinc (pc' := 81) (i := 5) (L' := [(5, zI (x5 + 1)), (3, zI ((u2 q2 193 1 x4) 193 36)), (2, zI x5), (0, zP bs 193), (1, zI x1), (4, zI x4)]) C 5 rfl (by decide) rfl dX12_worst_78 rfl ?_
            refine r_goto (tgt := 15) C dX12_worst_81 (by decide) ?_
            refine V.sub (L' := [(0, zP bs 193), (1, zI x1), (2, zI x5), (3, zI ((u2 q2 193 1 x4) 193 36)), (4, zI x4), (5, zI (x5 + 1))]) [3, 4, 2, 1, 5, 0] rfl ?_
            exact ih15 _ _ _ _ hf
          · refine r_goto (tgt := 78) C dX12_worst_67 (by decide) ?_
            refine r_iinc (pc' := 81) (i := 5) (L' := [(5, zI (x5 + 1)), (0, zP bs 193), (1, zI x1), (2, zI x2), (3, zI x3), (4, zI x4)]) C 5 rfl (by decide) rfl dX12_worst_78 rfl ?_
            refine r_goto (tgt := 15) C dX12_worst_81 (by decide) ?_
            refine V.sub (L' := [(0, zP bs 193), (1, zI x1), (2, zI x2), (3, zI x3), (4, zI x4), (5, zI (x5 + 1))]) [1, 2, 3, 4, 5, 0] rfl ?_
            exact ih15 _ _ _ _ hf
      · refine r_goto (tgt := 78) C dX12_worst_35 (by decide) ?_
        refine r_iinc (pc' := 81) (i := 5) (L' := [(5, zI (x5 + 1)), (0, zP bs 193), (1, zI x1), (2, zI x2), (3, zI x3), (4, zI x4)]) C 5 rfl (by decide) rfl dX12_worst_78 rfl ?_
        refine r_goto (tgt := 15) C dX12_worst_81 (by decide) ?_
        refine V.sub (L' := [(0, zP bs 193), (1, zI x1), (2, zI x2), (3, zI x3), (4, zI x4), (5, zI (x5 + 1))]) [1, 2, 3, 4, 5, 0] rfl ?_
        exact ih15 _ _ _ _ hf
    · refine r_iload_n (pc' := 85) (f4 := 1) (i := 1) C 1 rfl rfl dX12_worst_84 rfl ?_
      refine r_if_eq (pc' := 88) (tgt := 92) C rfl hf dX12_worst_85 (by decide) rfl (fun hf => ?_) (fun hf => ?_)
      · refine r_iload_n (pc' := 93) (f4 := 3) (i := 3) C 3 rfl rfl dX12_worst_92 rfl ?_
        cases hf
        exact r_iret C dX12_worst_93
      · refine r_iload_n (pc' := 89) (f4 := 2) (i := 2) C 2 rfl rfl dX12_worst_88 rfl ?_
        refine r_goto (tgt := 93) C dX12_worst_89 (by decide) ?_
        cases hf
        exact r_iret C dX12_worst_93
set_option maxHeartbeats 4000000 in
set_option maxRecDepth 100000 in
theorem t_m_worst {S : SS} (hF : Fx S) {h : HH} {a1 : Int} {res : Int × HH} (hf : m_worst h a1 = some res) : CM yX12_worst cX12_worst 6 (some Jvm.ClassFile.FieldType.int) 7 168 0 0 (fun bs => [zP bs 193, zI a1]) h S (fun _ => some (zI res.1)) res.2 S := by
  refine CM.intro (own := RX12) (by decide) rfl (fun _ => Nat.le_of_ble_eq_true rfl) ?_
  intro D dT bs p l e s m args below meth c C
  show V D dT bs 6 p l e rm_m_worst s m args below meth c 0 0 _ h S 0 [(0, zP bs 193), (1, zI a1)] []
  unfold m_worst at hf
  refine r_bipush (pc' := 2) C rfl dX12_worst_0 rfl ?_
  refine r_istore_n (pc' := 3) (f4 := 2) (i := 2) (L' := [(2, zI (-5)), (0, zP bs 193), (1, zI a1)]) C rfl (by decide) rfl dX12_worst_2 rfl ?_
  refine r_bipush (pc' := 5) C rfl dX12_worst_3 rfl ?_
  refine r_istore_n (pc' := 6) (f4 := 3) (i := 3) (L' := [(3, zI (-5)), (2, zI (-5)), (0, zP bs 193), (1, zI a1)]) C rfl (by decide) rfl dX12_worst_5 rfl ?_
  refine r_aload_n (pc' := 7) (f4 := 0) (i := 0) C 2 rfl rfl dX12_worst_6 rfl ?_
  refine q_getI (pc' := 10) (j := 1) C (K_193 hF) fb_12_1 wd_1172 (Or.inl rfl) dX12_worst_7 rfl ?_
  refine r_istore (pc' := 12) (i := 4) (L' := [(4, zI (h 193 1)), (3, zI (-5)), (2, zI (-5)), (0, zP bs 193), (1, zI a1)]) C (by decide) rfl dX12_worst_10 rfl ?_
  refine r_iconst (pc' := 13) C dX12_worst_12 rfl ?_
  refine r_istore (pc' := 15) (i := 5) (L' := [(5, zI 0), (4, zI (h 193 1)), (3, zI (-5)), (2, zI (-5)), (0, zP bs 193), (1, zI a1)]) C (by decide) rfl dX12_worst_13 rfl ?_
  refine V.sub (L' := [(0, zP bs 193), (1, zI a1), (2, zI (-5)), (3, zI (-5)), (4, zI (h 193 1)), (5, zI 0)]) [4, 5, 3, 2, 1, 0] rfl ?_
  refine w_m_worst_L15 hF C _ _ _ _ _ _ _ hf

/- WassailEnemiesModel.told(I)I -/
def m_told (h : HH) (a1 : Int) : Option (Int × HH) :=
  if ww (m_in a1 10 14) = 0 then (if ww (m_in a1 20 24) = 0 then (if ww a1 = 0 then (some (h 193 2, h)) else (if ww a1 = 1 then ((m_need h).bind fun q1 => some (q1, h)) else (if ww a1 = 2 then ((m_wear h).bind fun q2 => some (q2, h)) else (if ww a1 = 3 then ((m_bearSet h).bind fun q3 => some (q3.1, q3.2)) else (if ww a1 = 4 then ((m_allBore h).bind fun q4 => some (q4, h)) else (if ww a1 = 5 then ((m_worst h 1).bind fun q5 => some (q5.1, q5.2)) else (if ww a1 = 6 then ((m_worst h 0).bind fun q6 => some (q6.1, q6.2)) else (some (-1, h))))))))) else (ck (ww (a1 - 20)) 5 <| some (h 199 (ww (a1 - 20)), h))) else (ck (ww (a1 - 10)) 5 <| some (h 198 (ww (a1 - 10)), h))
abbrev rm_m_told : Room := { frames := 8, cells := 0, slots := 0, locals := 193 }
set_option maxHeartbeats 4000000 in
set_option maxRecDepth 100000 in
theorem t_m_told {S : SS} (hF : Fx S) {h : HH} {a1 : Int} {res : Int × HH} (hf : m_told h a1 = some res) : CM yX12_told cX12_told 2 (some Jvm.ClassFile.FieldType.int) 8 193 0 0 (fun bs => [zP bs 193, zI a1]) h S (fun _ => some (zI res.1)) res.2 S := by
  refine CM.intro (own := RX12) (by decide) rfl (fun _ => Nat.le_of_ble_eq_true rfl) ?_
  intro D dT bs p l e s m args below meth c C
  show V D dT bs 2 p l e rm_m_told s m args below meth c 0 0 _ h S 0 [(0, zP bs 193), (1, zI a1)] []
  unfold m_told at hf
  refine r_aload_n (pc' := 1) (f4 := 0) (i := 0) C 0 rfl rfl dX12_told_0 rfl ?_
  refine r_iload_n (pc' := 2) (f4 := 1) (i := 1) C 1 rfl rfl dX12_told_1 rfl ?_
  refine r_bipush (pc' := 4) C rfl dX12_told_2 rfl ?_
  refine r_bipush (pc' := 6) C rfl dX12_told_4 rfl ?_
  refine q_callV (pc' := 9) C (t_m_in hF) rfl (K_193 hF) cl_12 wv_RX12_245 ⟨Nat.le_of_ble_eq_true rfl, Nat.le_of_ble_eq_true rfl⟩ rfl rfl (Nat.le_of_ble_eq_true rfl) dX12_told_6 rfl ⟨Nat.le_of_ble_eq_true rfl, Nat.le_of_ble_eq_true rfl⟩ ?_
  refine r_if_eq (pc' := 12) (tgt := 22) C rfl hf dX12_told_9 (by decide) rfl (fun hf => ?_) (fun hf => ?_)
  · refine r_aload_n (pc' := 23) (f4 := 0) (i := 0) C 0 rfl rfl dX12_told_22 rfl ?_
    refine r_iload_n (pc' := 24) (f4 := 1) (i := 1) C 1 rfl rfl dX12_told_23 rfl ?_
    refine r_bipush (pc' := 26) C rfl dX12_told_24 rfl ?_
    refine r_bipush (pc' := 28) C rfl dX12_told_26 rfl ?_
    refine q_callV (pc' := 31) C (t_m_in hF) rfl (K_193 hF) cl_12 wv_RX12_245 ⟨Nat.le_of_ble_eq_true rfl, Nat.le_of_ble_eq_true rfl⟩ rfl rfl (Nat.le_of_ble_eq_true rfl) dX12_told_28 rfl ⟨Nat.le_of_ble_eq_true rfl, Nat.le_of_ble_eq_true rfl⟩ ?_
    refine r_if_eq (pc' := 34) (tgt := 44) C rfl hf dX12_told_31 (by decide) rfl (fun hf => ?_) (fun hf => ?_)
    · refine r_iload_n (pc' := 45) (f4 := 1) (i := 1) C 1 rfl rfl dX12_told_44 rfl ?_
      by_cases cs0 : ww a1 = 0
      · rw [if_pos cs0] at hf
        refine r_tsIn (tgt := 88) C 0 cs0 dX12_told_45 (by decide) (by decide) rfl (by decide) ?_
        refine r_aload_n (pc' := 89) (f4 := 0) (i := 0) C 0 rfl rfl dX12_told_88 rfl ?_
        refine q_getI (pc' := 92) (j := 2) C (K_193 hF) fb_12_2 wd_1173 (Or.inl rfl) dX12_told_89 rfl ?_
        cases hf
        exact r_iret C dX12_told_92
      · rw [if_neg cs0] at hf
        by_cases cs1 : ww a1 = 1
        · rw [if_pos cs1] at hf
          refine r_tsIn (tgt := 93) C 1 cs1 dX12_told_45 (by decide) (by decide) rfl (by decide) ?_
          refine r_aload_n (pc' := 94) (f4 := 0) (i := 0) C 0 rfl rfl dX12_told_93 rfl ?_
          obtain ⟨q1, hq1, hf⟩ := bind_in hf
          refine q_callV (pc' := 97) C (t_m_need hF hq1) rfl (K_193 hF) cl_12 wv_RX12_340 ⟨Nat.le_of_ble_eq_true rfl, Nat.le_of_ble_eq_true rfl⟩ rfl rfl (Nat.le_of_ble_eq_true rfl) dX12_told_94 rfl ⟨Nat.le_of_ble_eq_true rfl, Nat.le_of_ble_eq_true rfl⟩ ?_
          cases hf
          exact r_iret C dX12_told_97
        · rw [if_neg cs1] at hf
          by_cases cs2 : ww a1 = 2
          · rw [if_pos cs2] at hf
            refine r_tsIn (tgt := 98) C 2 cs2 dX12_told_45 (by decide) (by decide) rfl (by decide) ?_
            refine r_aload_n (pc' := 99) (f4 := 0) (i := 0) C 0 rfl rfl dX12_told_98 rfl ?_
            obtain ⟨q2, hq2, hf⟩ := bind_in hf
            refine q_callV (pc' := 102) C (t_m_wear hF hq2) rfl (K_193 hF) cl_12 wv_RX12_346 ⟨Nat.le_of_ble_eq_true rfl, Nat.le_of_ble_eq_true rfl⟩ rfl rfl (Nat.le_of_ble_eq_true rfl) dX12_told_99 rfl ⟨Nat.le_of_ble_eq_true rfl, Nat.le_of_ble_eq_true rfl⟩ ?_
            cases hf
            exact r_iret C dX12_told_102
          · rw [if_neg cs2] at hf
            by_cases cs3 : ww a1 = 3
            · rw [if_pos cs3] at hf
              refine r_tsIn (tgt := 103) C 3 cs3 dX12_told_45 (by decide) (by decide) rfl (by decide) ?_
              refine r_aload_n (pc' := 104) (f4 := 0) (i := 0) C 0 rfl rfl dX12_told_103 rfl ?_
              obtain ⟨q3, hq3, hf⟩ := bind_in hf
              refine q_callV (pc' := 107) C (t_m_bearSet hF hq3) rfl (K_193 hF) cl_12 wv_RX12_349 ⟨Nat.le_of_ble_eq_true rfl, Nat.le_of_ble_eq_true rfl⟩ rfl rfl (Nat.le_of_ble_eq_true rfl) dX12_told_104 rfl ⟨Nat.le_of_ble_eq_true rfl, Nat.le_of_ble_eq_true rfl⟩ ?_
              cases hf
              exact r_iret C dX12_told_107
            · rw [if_neg cs3] at hf
              by_cases cs4 : ww a1 = 4
              · rw [if_pos cs4] at hf
                refine r_tsIn (tgt := 108) C 4 cs4 dX12_told_45 (by decide) (by decide) rfl (by decide) ?_
                refine r_aload_n (pc' := 109) (f4 := 0) (i := 0) C 0 rfl rfl dX12_told_108 rfl ?_
                obtain ⟨q4, hq4, hf⟩ := bind_in hf
                refine q_callV (pc' := 112) C (t_m_allBore hF hq4) rfl (K_193 hF) cl_12 wv_RX12_390 ⟨Nat.le_of_ble_eq_true rfl, Nat.le_of_ble_eq_true rfl⟩ rfl rfl (Nat.le_of_ble_eq_true rfl) dX12_told_109 rfl ⟨Nat.le_of_ble_eq_true rfl, Nat.le_of_ble_eq_true rfl⟩ ?_
                cases hf
                exact r_iret C dX12_told_112
              · rw [if_neg cs4] at hf
                by_cases cs5 : ww a1 = 5
                · rw [if_pos cs5] at hf
                  refine r_tsIn (tgt := 113) C 5 cs5 dX12_told_45 (by decide) (by decide) rfl (by decide) ?_
                  refine r_aload_n (pc' := 114) (f4 := 0) (i := 0) C 0 rfl rfl dX12_told_113 rfl ?_
                  refine r_iconst (pc' := 115) C dX12_told_114 rfl ?_
                  obtain ⟨q5, hq5, hf⟩ := bind_in hf
                  refine q_callV (pc' := 118) C (t_m_worst hF hq5) rfl (K_193 hF) cl_12 wv_RX12_393 ⟨Nat.le_of_ble_eq_true rfl, Nat.le_of_ble_eq_true rfl⟩ rfl rfl (Nat.le_of_ble_eq_true rfl) dX12_told_115 rfl ⟨Nat.le_of_ble_eq_true rfl, Nat.le_of_ble_eq_true rfl⟩ ?_
                  cases hf
                  exact r_iret C dX12_told_118
                · rw [if_neg cs5] at hf
                  by_cases cs6 : ww a1 = 6
                  · rw [if_pos cs6] at hf
                    refine r_tsIn (tgt := 119) C 6 cs6 dX12_told_45 (by decide) (by decide) rfl (by decide) ?_
                    refine r_aload_n (pc' := 120) (f4 := 0) (i := 0) C 0 rfl rfl dX12_told_119 rfl ?_
                    refine r_iconst (pc' := 121) C dX12_told_120 rfl ?_
                    obtain ⟨q6, hq6, hf⟩ := bind_in hf
                    refine q_callV (pc' := 124) C (t_m_worst hF hq6) rfl (K_193 hF) cl_12 wv_RX12_393 ⟨Nat.le_of_ble_eq_true rfl, Nat.le_of_ble_eq_true rfl⟩ rfl rfl (Nat.le_of_ble_eq_true rfl) dX12_told_121 rfl ⟨Nat.le_of_ble_eq_true rfl, Nat.le_of_ble_eq_true rfl⟩ ?_
                    cases hf
                    exact r_iret C dX12_told_124
                  · rw [if_neg cs6] at hf
                    refine r_tsOut (tgt := 125) C dX12_told_45 (by omega) (by decide) ?_
                    refine r_iconst (pc' := 126) C dX12_told_125 rfl ?_
                    cases hf
                    exact r_iret C dX12_told_126
    · refine r_aload_n (pc' := 35) (f4 := 0) (i := 0) C 0 rfl rfl dX12_told_34 rfl ?_
      refine q_getP (pc' := 38) (j := 8) C (K_193 hF) fb_12_8 (by decide) wd_1179 (Or.inl rfl) (F_193_8 hF) (by decide) dX12_told_35 rfl ?_
      refine r_iload_n (pc' := 39) (f4 := 1) (i := 1) C 1 rfl rfl dX12_told_38 rfl ?_
      refine r_bipush (pc' := 41) C rfl dX12_told_39 rfl ?_
      refine r_isub (pc' := 42) C dX12_told_41 rfl ?_
      obtain ⟨hi, hf⟩ := ck_in hf
      refine r_iald (pc' := 43) C (K_199 hF) rfl hi dX12_told_42 rfl ?_
      cases hf
      exact r_iret C dX12_told_43
  · refine r_aload_n (pc' := 13) (f4 := 0) (i := 0) C 0 rfl rfl dX12_told_12 rfl ?_
    refine q_getP (pc' := 16) (j := 7) C (K_193 hF) fb_12_7 (by decide) wd_1178 (Or.inl rfl) (F_193_7 hF) (by decide) dX12_told_13 rfl ?_
    refine r_iload_n (pc' := 17) (f4 := 1) (i := 1) C 1 rfl rfl dX12_told_16 rfl ?_
    refine r_bipush (pc' := 19) C rfl dX12_told_17 rfl ?_
    refine r_isub (pc' := 20) C dX12_told_19 rfl ?_
    obtain ⟨hi, hf⟩ := ck_in hf
    refine r_iald (pc' := 21) C (K_198 hF) rfl hi dX12_told_20 rfl ?_
    cases hf
    exact r_iret C dX12_told_21

/- WassailEnemiesModel.leaderAt(III)I -/
def m_leaderAt_L8 (h : HH) (x1 : Int) (x2 : Int) : Nat → Int → Int → Option Int
  | 0, _, _ => none
  | n8 + 1, x4, x5 =>
    if ww x5 < ww x2 then (m_leaderAt_L8 h x1 x2 n8 (x4 * (h 193 0)) (x5 + 1)) else (ckz (ww x4) <| ckz (ww (h 193 0)) <| some (zrem (zdiv x1 x4) (h 193 0)))
def m_leaderAt (h : HH) (a1 : Int) (a2 : Int) (a3 : Int) : Option Int :=
  m_leaderAt_L8 h a1 a2 FU 1 (a3 + 1)
abbrev rm_m_leaderAt : Room := { frames := 0, cells := 0, slots := 0, locals := 0 }
set_option maxHeartbeats 4000000 in
set_option maxRecDepth 100000 in
theorem w_m_leaderAt_L8 (hF : Fx S) (C : Cx D dT bs RX12 cX12_leaderAt 6 (some Jvm.ClassFile.FieldType.int) p s m args meth c) {h : HH} (x1 : Int) (x2 : Int) {res : Int} :
    ∀ (n : Nat) (x4 : Int) (x5 : Int), m_leaderAt_L8 h x1 x2 n x4 x5 = some res → V D dT bs 6 p l e rm_m_leaderAt s m args below meth c 0 0 (MQ below (QQ D dT bs (some (zI res)) h S) args s 0 0 (AA bs)) h S 8 [(0, zP bs 193), (1, zI x1), (2, zI x2), (4, zI x4), (5, zI x5)] [] := by
  intro n
  induction n with
  | zero => intro x4 x5 hf; simp [m_leaderAt_L8] at hf
  | succ n8 ih8 =>
    intro x4 x5 hf
    rw [m_leaderAt_L8] at hf
    refine r_iload (pc' := 10) (i := 5) C 4 rfl dX12_leaderAt_8 rfl ?_
    refine r_iload_n (pc' := 11) (f4 := 2) (i := 2) C 2 rfl rfl dX12_leaderAt_10 rfl ?_
    refine r_icmp_ge (pc' := 14) (tgt := 29) C rfl rfl hf dX12_leaderAt_11 (by decide) rfl (fun hf => ?_) (fun hf => ?_)
    · refine r_iload (pc' := 16) (i := 4) C 3 rfl dX12_leaderAt_14 rfl ?_
      refine r_aload_n (pc' := 17) (f4 := 0) (i := 0) C 0 rfl rfl dX12_leaderAt_16 rfl ?_
      refine q_getI (pc' := 20) (j := 0) C (K_193 hF) fb_12_0 wd_1171 (Or.inl rfl) dX12_leaderAt_17 rfl ?_
      refine r_imul (pc' := 21) C dX12_leaderAt_20 rfl ?_
      refine r_istore (pc' := 23) (i := 4) (L' := [(4, zI (x4 * (h 193 0))), (0, zP bs 193), (1, zI x1), (2, zI x2), (5, zI x5)]) C (by decide) rfl dX12_leaderAt_21 rfl ?_
      refine r_iinc (pc' := 26) (i := 5) (L' := [(5, zI (x5 + 1)), (4, zI (x4 * (h 193 0))), (0, zP bs 193), (1, zI x1), (2, zI x2)]) C 4 rfl (by decide) rfl dX12_leaderAt_23 rfl ?_
      refine r_goto (tgt := 8) C dX12_leaderAt_26 (by decide) ?_
      refine V.sub (L' := [(0, zP bs 193), (1, zI x1), (2, zI x2), (4, zI (x4 * (h 193 0))), (5, zI (x5 + 1))]) [2, 3, 4, 1, 0] rfl ?_
      exact ih8 _ _ hf
    · refine r_iload_n (pc' := 30) (f4 := 1) (i := 1) C 1 rfl rfl dX12_leaderAt_29 rfl ?_
      refine r_iload (pc' := 32) (i := 4) C 3 rfl dX12_leaderAt_30 rfl ?_
      obtain ⟨hz, hf⟩ := ckz_in hf
      refine r_idiv (pc' := 33) C rfl hz dX12_leaderAt_32 rfl ?_
      refine r_aload_n (pc' := 34) (f4 := 0) (i := 0) C 0 rfl rfl dX12_leaderAt_33 rfl ?_
      refine q_getI (pc' := 37) (j := 0) C (K_193 hF) fb_12_0 wd_1171 (Or.inl rfl) dX12_leaderAt_34 rfl ?_
      obtain ⟨hz, hf⟩ := ckz_in hf
      refine r_irem (pc' := 38) C rfl hz dX12_leaderAt_37 rfl ?_
      cases hf
      exact r_iret C dX12_leaderAt_38
set_option maxHeartbeats 4000000 in
set_option maxRecDepth 100000 in
theorem t_m_leaderAt {S : SS} (hF : Fx S) {h : HH} {a1 : Int} {a2 : Int} {a3 : Int} {res : Int} (hf : m_leaderAt h a1 a2 a3 = some res) : CM yX12_leaderAt cX12_leaderAt 6 (some Jvm.ClassFile.FieldType.int) 0 0 0 0 (fun bs => [zP bs 193, zI a1, zI a2, zI a3]) h S (fun _ => some (zI res)) h S := by
  refine CM.intro (own := RX12) (by decide) rfl (fun _ => Nat.le_of_ble_eq_true rfl) ?_
  intro D dT bs p l e s m args below meth c C
  show V D dT bs 6 p l e rm_m_leaderAt s m args below meth c 0 0 _ h S 0 [(0, zP bs 193), (1, zI a1), (2, zI a2), (3, zI a3)] []
  unfold m_leaderAt at hf
  refine r_iconst (pc' := 1) C dX12_leaderAt_0 rfl ?_
  refine r_istore (pc' := 3) (i := 4) (L' := [(4, zI 1), (0, zP bs 193), (1, zI a1), (2, zI a2), (3, zI a3)]) C (by decide) rfl dX12_leaderAt_1 rfl ?_
  refine r_iload_n (pc' := 4) (f4 := 3) (i := 3) C 4 rfl rfl dX12_leaderAt_3 rfl ?_
  refine r_iconst (pc' := 5) C dX12_leaderAt_4 rfl ?_
  refine r_iadd (pc' := 6) C dX12_leaderAt_5 rfl ?_
  refine r_istore (pc' := 8) (i := 5) (L' := [(5, zI (a3 + 1)), (4, zI 1), (0, zP bs 193), (1, zI a1), (2, zI a2), (3, zI a3)]) C (by decide) rfl dX12_leaderAt_6 rfl ?_
  refine V.sub (L' := [(0, zP bs 193), (1, zI a1), (2, zI a2), (4, zI 1), (5, zI (a3 + 1))]) [2, 3, 4, 1, 0] rfl ?_
  refine w_m_leaderAt_L8 hF C _ _ _ _ _ hf
end
