theorem wt_sio1 : (Jvm.Cond.laysStatic "jdk/internal/util/Preconditions" "SIOOBE_FORMATTER" "Ljava/util/function/BiFunction;") ∈ lw_tbl := in_t3 (List.mem_of_getElem? (i := 66) (by decide +kernel))
theorem wt_sio2 : (Jvm.Cond.initialized "jdk/internal/util/Preconditions") ∈ lw_tbl := in_t1 (List.mem_of_getElem? (i := 22) (by decide +kernel))
section ZU
variable {D : va_G} {dT : ZT} {bs nL : Nat} {own : String} {cc : ByteArray} {ret : Option FieldType} {p : Program} {s : State} {m : MethodId} {args : Array Value} {meth : Method} {c : Code}
theorem zx_sio (C : Cx D dT bs own cc nL ret p s m args meth c) : ∃ v : Value, (v = .null ∨ ∃ t, v = .ref t) ∧ va_Z "jdk/internal/util/Preconditions" "SIOOBE_FORMATTER" "Ljava/util/function/BiFunction;" v (AA bs) s s.heap := by
  obtain ⟨z1, z2, z3, z4, z5⟩ := zx_here C
  have h0 : Cond.isRef (.static "jdk/internal/util/Preconditions" "SIOOBE_FORMATTER" "Ljava/util/function/BiFunction;") ∈ flatC (Jvm.Cond.and given_1 narrow_1) := by decide +kernel
  have h1 := z4 _ h0
  cases hv : (Term.static "jdk/internal/util/Preconditions" "SIOOBE_FORMATTER" "Ljava/util/function/BiFunction;").eval #[Value.ref dT.2.2.2.2] dT.2.2.2.1 none [] dT.2.2.2.1 with
  | none => simp [Cond.before, Cond.holds, Cond.value, hv] at h1
  | some v =>
    refine ⟨v, ?_, ?_⟩
    · simp [Cond.before, Cond.holds, Cond.value, hv] at h1
      cases v <;> simp_all [Value.isRef]
    · exact ((va_Zof (A := AA bs) (z5 _ wt_sio1) (z5 _ wt_sio2) hv z3).moved z1.alike).kept z2
end ZU
theorem t_pcheck {v : Value} (hv : v = .null ∨ ∃ t, v = .ref t) {i n : Int} (h0 : 0 ≤ ww i) (h1 : ww i < ww n) {h : HH} {S : SS} : CM yJ3_checkIndex_8e157 cJ3_checkIndex_8e157 3 (some .int) 0 0 0 0 (fun _ => [zI i, zI n, v]) h S (fun _ => some (zI i)) h S := by
  have hcat : v.category = 1 := by rcases hv with rfl | ⟨t, rfl⟩ <;> rfl
  refine CM.intro (own := RJ3) (by decide) rfl (fun _ => by simp [lg_sl, hcat, zI_cat]) ?_
  intro D dT bs p l e s m args below meth c C
  rw [show lv_args 0 [zI i, zI n, v] = [(0, zI i), (1, zI n), (2, v)] from by simp [lv_args, zI_cat]]
  refine r_iload_n (pc' := 1) (f4 := 0) (i := 0) C 0 rfl rfl dJ3_checkIndex_8e157_0 rfl ?_
  refine r_if_lt (pc' := 4) (tgt := 9) (E1 := (0 : Nat)) (E2 := 1) (res := 1) C rfl (by rw [if_neg (by omega)]) dJ3_checkIndex_8e157_1 (by decide) rfl (fun hf => absurd hf (by decide)) (fun _ => ?_)
  refine r_iload_n (pc' := 5) (f4 := 0) (i := 0) C 0 rfl rfl dJ3_checkIndex_8e157_4 rfl ?_
  refine r_iload_n (pc' := 6) (f4 := 1) (i := 1) C 1 rfl rfl dJ3_checkIndex_8e157_5 rfl ?_
  refine r_icmp_lt (pc' := 9) (tgt := 16) (E1 := (0 : Nat)) (E2 := 1) (res := 0) C rfl rfl (by rw [if_pos h1]) dJ3_checkIndex_8e157_6 (by decide) rfl (fun _ => ?_) (fun hf => absurd hf (by decide))
  refine r_iload_n (pc' := 17) (f4 := 0) (i := 0) C 0 rfl rfl dJ3_checkIndex_8e157_16 rfl ?_
  exact r_iret C dJ3_checkIndex_8e157_17
