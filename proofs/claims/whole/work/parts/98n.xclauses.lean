def sNx (T : Int → Int) (L : Int) (m : Nat) (q : Int) : Bool × Int × List CL := if m = 0 then (false, q, []) else if T q = 59 then sCls T L m (q + 1) else (false, q, [])
theorem sCls_nx {T : Int → Int} {L : Int} {m : Nat} {p : Int} : sCls T L (m + 1) p = if (sCl T p).1 then (if (sCl T p).2.1 = L then (true, L, [(sCl T p).2.2]) else if (sNx T L m (sCl T p).2.1).1 then (true, (sNx T L m (sCl T p).2.1).2.1, (sCl T p).2.2 :: (sNx T L m (sCl T p).2.1).2.2) else (false, (sNx T L m (sCl T p).2.1).2.1, [])) else (false, (sCl T p).2.1, []) := by
  rw [sCls]
  unfold sNx
  by_cases c1 : (sCl T p).1 = true
  · rw [if_pos c1, if_pos c1]
    by_cases c2 : (sCl T p).2.1 = L
    · rw [if_pos c2, if_pos c2]
    · rw [if_neg c2, if_neg c2]
      by_cases c3 : m = 0
      · rw [if_pos c3, if_pos c3, if_neg (by simp)]
      · rw [if_neg c3, if_neg c3]
        by_cases c4 : T (sCl T p).2.1 = 59
        · rw [if_pos c4, if_pos c4]
        · rw [if_neg c4, if_neg c4, if_neg (by simp)]
  · rw [if_neg c1, if_neg c1]
theorem codeX_app (a b : List CL) : codeX (a ++ b) = codeX a ++ codeX b := by unfold codeX; rw [List.flatMap_append]
theorem codeX_one (q : CL) : codeX [q] = cX q := by
  unfold codeX cX mapC
  rw [List.flatMap_cons, List.flatMap_nil, List.append_nil]
theorem lastC_one (L : List CL) (q : CL) (w d : Int) : lastC (L ++ [q]) w d = if q.1 = w then q.2.1 else lastC L w d := by
  unfold lastC
  rw [List.foldl_append]
  rfl
/-- the class's orchard stands as these clauses say -/
def RXC (o : Int) (h : HH) (L : List CL) : Prop := RXE o h (codeX L) (lastC L 2 20) (lastC L 3 3)
theorem cX_len {q : CL} {p r : Int} (g : GC q p r) (h : p + 1 ≤ r) : (cX q).length + p ≤ r := by
  unfold cX
  by_cases c : q.1 < 2
  · have := (g.2.2 c).1
    rw [if_pos c, List.length_append, mapC_len, List.length_singleton]
    omega
  · rw [if_neg c, List.length_nil]
    omega
theorem X_clauseC {T : Int → Int} {L o : Int} {h0 h : HH} {p : Int} {L0 : List CL} (X : XTX T L o h0) (F : RXF o h0 h p) (hp : 0 ≤ p ∧ p ≤ L) (R : RXC o h L0) (hE : (codeX L0).length ≤ p) : ∃ h', xd_readClause h o = some (if (sCl T p).1 = true then 1 else 0, h') ∧ RXF o h0 h' (sCl T p).2.1 ∧ ((sCl T p).1 = true → RXC o h' (L0 ++ [(sCl T p).2.2]) ∧ (codeX (L0 ++ [(sCl T p).2.2])).length ≤ (sCl T p).2.1) := by
  obtain ⟨h1, e1, F1, g1⟩ := X_clause X F hp R hE
  refine ⟨h1, e1, F1, fun z => ⟨?_, ?_⟩⟩
  · have := g1 z
    unfold RXC
    rw [codeX_app, codeX_one, lastC_one, lastC_one]
    exact this
  · obtain ⟨g2, g3⟩ := sCl_G X.1 hp.1 hp.2 z
    have := cX_len g3 g2.1
    rw [codeX_app, codeX_one, List.length_append]
    omega
theorem X_cls {T : Int → Int} {L o : Int} {h0 : HH} (X : XTX T L o h0) : ∀ (m n : Nat) (h : HH) (x q : Int) (L0 : List CL), x + m = 10 → 1 ≤ x → m < n → (0 ≤ q ∧ q ≤ L) → RXF o h0 h q → RXC o h L0 → (codeX L0).length ≤ q → ∃ h', xd_readClauses_L11 o n h x = some (if (sNx T L m q).1 = true then 1 else 0, h') ∧ RXF o h0 h' (sNx T L m q).2.1 ∧ ((sNx T L m q).1 = true → RXC o h' (L0 ++ (sNx T L m q).2.2)) := by
  have L1 := X.1.1
  intro m
  induction m with
  | zero =>
    intro n h x q L0 hx x1 hn hq F R hE
    obtain ⟨n, rfl⟩ : ∃ k, n = k + 1 := ⟨n - 1, by omega⟩
    rw [xd_readClauses_L11, if_neg (by rw [wwP (by omega)]; omega), sNx, if_pos rfl]
    exact ⟨h, rfl, F, fun z => by simp at z⟩
  | succ m im =>
    intro n h x q L0 hx x1 hn hq F R hE
    obtain ⟨n, rfl⟩ : ∃ k, n = k + 1 := ⟨n - 1, by omega⟩
    have ob := X.2.2.2
    have tk := X_take X F hq (c := 59) (by omega)
    rw [xd_readClauses_L11, if_pos (by rw [wwP (by omega)]; omega), if_pos (by rw [wwP (by omega)]; omega), tk, Option.bind_some, sNx, if_neg (show ¬ m + 1 = 0 by omega)]
    by_cases c1 : T q = 59
    · have pL := lt_L X.1 (p := q) (by omega)
      rw [if_pos c1, if_pos c1, if_pos c1, if_neg (show ¬ ww (1 : Int) = 0 by decide)]
      have R1 : RXC o (u2 h 148 2 (q + 1)) L0 := RXE.cg R fun a b _ _ => u2N (by omega)
      obtain ⟨h1, e1, F1, g1⟩ := X_clauseC X F.adv (by omega) R1 (by omega)
      dsimp only
      rw [e1, Option.bind_some, sCls_nx]
      by_cases c2 : (sCl T (q + 1)).1 = true
      · obtain ⟨R2, l2⟩ := g1 c2
        obtain ⟨s1, s2⟩ := sCl_G X.1 (by omega) (by omega) c2
        have lL := (X_cur X F1 (by omega)).1
        rw [if_pos c2, if_pos c2, if_neg (show ¬ ww (1 : Int) = 0 by decide)]
        dsimp only
        have ec : ww (h1 148 2) = ww (h1 148 1) ↔ (sCl T (q + 1)).2.1 = L := by rw [F1.1, lL, wwP (by omega), wwP (by omega)]
        by_cases c3 : (sCl T (q + 1)).2.1 = L
        · rw [if_pos (ec.2 c3), if_pos c3]
          refine ⟨h1, rfl, ?_, fun _ => R2⟩
          rw [c3] at F1
          exact F1
        · rw [if_neg (fun z => c3 (ec.1 z)), if_neg c3]
          obtain ⟨h2, e2, F2, g2⟩ := im n h1 (x + 1) (sCl T (q + 1)).2.1 (L0 ++ [(sCl T (q + 1)).2.2]) (by omega) (by omega) (by omega) (by omega) F1 R2 l2
          rw [e2]
          by_cases c4 : (sNx T L m (sCl T (q + 1)).2.1).1 = true
          · rw [if_pos c4, if_pos c4]
            refine ⟨h2, rfl, F2, fun _ => ?_⟩
            have := g2 c4
            rw [List.append_assoc] at this
            exact this
          · rw [if_neg c4, if_neg c4]
            exact ⟨h2, rfl, F2, fun z => by simp at z⟩
      · rw [if_neg c2, if_neg c2, if_pos (show ww (0 : Int) = 0 by decide)]
        exact ⟨h1, rfl, F1, fun z => by simp at z⟩
    · rw [if_neg c1, if_neg c1, if_neg c1, if_pos (show ww (0 : Int) = 0 by decide)]
      exact ⟨h, rfl, F, fun z => by simp at z⟩
theorem X_clauses {T : Int → Int} {L o : Int} {h0 : HH} (X : XTX T L o h0) : ∃ h', xd_readClauses h0 o = some (if (sCls T L 10 0).1 = true then 1 else 0, h') ∧ RXF o h0 h' (sCls T L 10 0).2.1 ∧ ((sCls T L 10 0).1 = true → RXC o h' (sCls T L 10 0).2.2) := by
  have L1 := X.1.1
  have ob := X.2.2.2
  have F : RXF o h0 (u2 (u2 (u2 (u2 h0 o 0 20) o 1 3) o 4 0) 148 2 0) 0 := ⟨u2S, fun c j z => by rw [u2N (by omega), u2N (by omega), u2N (by omega), u2N (by omega)]⟩
  have R : RXC o (u2 (u2 (u2 (u2 h0 o 0 20) o 1 3) o 4 0) 148 2 0) [] := by
    refine ⟨?_, fun i hi => by simp [codeX] at hi, ?_, ?_⟩
    · simp (disch := omega) only [u2S, u2N, u2T]
      rfl
    · simp (disch := omega) only [u2S, u2N, u2T]
      rfl
    · simp (disch := omega) only [u2S, u2N, u2T]
      rfl
  unfold xd_readClauses xo_clear
  rw [Option.bind_some, show FU = 19999 + 1 from rfl, xd_readClauses_L11, if_pos (by decide), if_neg (by decide)]
  obtain ⟨h1, e1, F1, g1⟩ := X_clauseC X F (by omega) R (by simp [codeX])
  rw [e1, Option.bind_some, sCls_nx]
  by_cases c2 : (sCl T 0).1 = true
  · obtain ⟨R2, l2⟩ := g1 c2
    obtain ⟨s1, s2⟩ := sCl_G X.1 (by omega) (by omega) c2
    have lL := (X_cur X F1 (by omega)).1
    rw [if_pos c2, if_pos c2, if_neg (show ¬ ww (1 : Int) = 0 by decide)]
    dsimp only
    have ec : ww (h1 148 2) = ww (h1 148 1) ↔ (sCl T 0).2.1 = L := by rw [F1.1, lL, wwP (by omega), wwP (by omega)]
    by_cases c3 : (sCl T 0).2.1 = L
    · rw [if_pos (ec.2 c3), if_pos c3]
      refine ⟨h1, rfl, ?_, fun _ => R2⟩
      rw [c3] at F1
      exact F1
    · rw [if_neg (fun z => c3 (ec.1 z)), if_neg c3]
      obtain ⟨h2, e2, F2, g2⟩ := X_cls X 9 19999 h1 (0 + 1) (sCl T 0).2.1 ([] ++ [(sCl T 0).2.2]) rfl (by omega) (by decide) (by omega) F1 R2 l2
      rw [e2]
      by_cases c4 : (sNx T L 9 (sCl T 0).2.1).1 = true
      · rw [if_pos c4, if_pos c4]
        exact ⟨h2, rfl, F2, fun _ => g2 c4⟩
      · rw [if_neg c4, if_neg c4]
        exact ⟨h2, rfl, F2, fun z => by simp at z⟩
  · rw [if_neg c2, if_neg c2, if_pos (show ww (0 : Int) = 0 by decide)]
    exact ⟨h1, rfl, F1, fun z => by simp at z⟩
