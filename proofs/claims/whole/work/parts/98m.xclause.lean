theorem X_word_L {T : Int → Int} {L o : Int} {h0 : HH} (X : XTX T L o h0) {tb : List Int32} {cs : List Int} (hl : cs.length = tb.length) (h5 : tb.length ≤ 10) (hc : ∀ i : Nat, i < tb.length → zch tb i = cs.getD i 0 ∧ 0 ≤ cs.getD i 0 ∧ cs.getD i 0 ≤ 127) : ∀ (d n x : Nat) (h : HH) (p : Int), x + d = tb.length → d < n → (0 ≤ p ∧ p ≤ L) → RXF o h0 h p → ∃ h', xd_takeWord_L2 tb n h x = some (if (sWd T (cs.drop x) p).1 = true then 1 else 0, h') ∧ RXF o h0 h' (sWd T (cs.drop x) p).2 ∧ ∀ c j, c ≠ 148 → h' c j = h c j := by
  intro d
  induction d with
  | zero =>
    intro n x h p e hn hp F
    obtain ⟨n, rfl⟩ : ∃ k, n = k + 1 := ⟨n - 1, by omega⟩
    rw [xd_takeWord_L2, if_neg (by rw [wwP (by omega), wwP (by omega)]; omega), List.drop_eq_nil_of_le (by omega), sWd]
    exact ⟨h, rfl, F, fun _ _ _ => rfl⟩
  | succ d ih =>
    intro n x h p e hn hp F
    obtain ⟨n, rfl⟩ : ∃ k, n = k + 1 := ⟨n - 1, by omega⟩
    obtain ⟨z1, z2, z3⟩ := hc x (by omega)
    have dr : cs.drop x = cs.getD x 0 :: cs.drop (x + 1) := by
      rw [List.drop_eq_getElem_cons (by omega), List.getD_eq_getElem?_getD, List.getElem?_eq_getElem (by omega)]
      rfl
    rw [xd_takeWord_L2, if_pos (by rw [wwP (by omega), wwP (by omega)]; omega), wwP (z := (x : Int)) (by omega), ckP (by omega), z1, X_take X F hp ⟨z2, z3⟩, Option.bind_some, dr, sWd]
    by_cases c1 : T p = cs.getD x 0
    · have pL := lt_L X.1 (p := p) (by omega)
      rw [if_pos c1, if_pos c1, if_pos c1, if_neg (show ¬ ww (1 : Int) = 0 by decide)]
      obtain ⟨h1, e1, F1, o1⟩ := ih n (x + 1) (u2 h 148 2 (p + 1)) (p + 1) (by omega) (by omega) (by omega) F.adv
      have ex : ((x + 1 : Nat) : Int) = (x : Int) + 1 := by omega
      rw [ex] at e1
      exact ⟨h1, e1, F1, fun c j z => by rw [o1 c j z, u2N (by omega)]⟩
    · rw [if_neg c1, if_neg c1, if_neg c1, if_pos (show ww (0 : Int) = 0 by decide)]
      exact ⟨h, rfl, F, fun _ _ _ => rfl⟩
theorem X_word {T : Int → Int} {L o : Int} {h0 h : HH} {p : Int} (X : XTX T L o h0) (F : RXF o h0 h p) (hp : 0 ≤ p ∧ p ≤ L) {tb : List Int32} {cs : List Int} (hl : cs.length = tb.length) (h5 : tb.length ≤ 10) (hc : ∀ i : Nat, i < tb.length → zch tb i = cs.getD i 0 ∧ 0 ≤ cs.getD i 0 ∧ cs.getD i 0 ≤ 127) : ∃ h', xd_takeWord tb h = some (if (sWd T cs p).1 = true then 1 else 0, h') ∧ RXF o h0 h' (sWd T cs p).2 ∧ ∀ c j, c ≠ 148 → h' c j = h c j :=
  X_word_L X hl h5 hc tb.length FU 0 h p (by omega) (by unfold FU; omega) hp F
theorem rdN_f {T : Int → Int} {p : Int} (h : ¬ (rdN T p).1 = true) : (rdN T p).2.2 = p := by
  unfold rdN at h ⊢
  by_cases y : isDg (T p) = true
  · rw [if_pos y] at h
    exfalso
    apply h
    split <;> rfl
  · rw [if_neg y]
/-- a warmth's rest: number, blank, what it hangs on -/
def sWm (T : Int → Int) (p : Int) : Bool × Int × Int × List Int :=
  if (rdN T p).1 then (if T (rdN T p).2.2 = 32 then (if (sAny T (sOne T 6 0) ((rdN T p).2.2 + 1)).1 then (true, (sAny T (sOne T 6 0) ((rdN T p).2.2 + 1)).2.1, (rdN T p).2.1, (sAny T (sOne T 6 0) ((rdN T p).2.2 + 1)).2.2) else (false, (sAny T (sOne T 6 0) ((rdN T p).2.2 + 1)).2.1, 0, [])) else (false, (rdN T p).2.2, 0, [])) else (false, (rdN T p).2.2, 0, [])
theorem X_wm {T : Int → Int} {L o : Int} {h0 h : HH} {p nd wr s : Int} {E : List (Int × Option Int)} (X : XTX T L o h0) (F : RXF o h0 h p) (hp : 0 ≤ p ∧ p ≤ L) (R : RXE o h E nd wr) (hE : E.length ≤ p) : ∃ h', xd_readWarmth h o s = some (if (sWm T p).1 = true then 1 else 0, h') ∧ RXF o h0 h' (sWm T p).2.1 ∧ ((sWm T p).1 = true → RXE o h' (E ++ (mapC (sWm T p).2.2.2 ++ [(s, some (sWm T p).2.2.1)])) nd wr) := by
  have L1 := X.1.1
  have ob := X.2.2.2
  obtain ⟨h1, e1, F1, o1, v1⟩ := X_num X F hp
  unfold xd_readWarmth
  rw [e1, Option.bind_some]
  unfold sWm
  by_cases c1 : (rdN T p).1 = true
  · have nb := rdN_p X.1 c1
    rw [if_pos c1, if_pos c1, if_neg (show ¬ ww (1 : Int) = 0 by decide)]
    have tk := X_take X F1 (by omega) (c := 32) (by omega)
    dsimp only
    rw [tk, Option.bind_some]
    by_cases c2 : T (rdN T p).2.2 = 32
    · have pL := lt_L X.1 (p := (rdN T p).2.2) (by omega)
      rw [if_pos c2, if_pos c2, if_pos c2, if_neg (show ¬ ww (1 : Int) = 0 by decide)]
      have R1 : RXE o (u2 h1 148 2 ((rdN T p).2.2 + 1)) E nd wr := R.cg fun a b _ _ => by rw [u2N (by omega), o1 a b (by omega)]
      obtain ⟨h2, e2, F2, g2⟩ := X_any X (one_S X.1 6 0) (X_one X 6 0 rfl (by omega) (by omega)) (u2 h1 148 2 ((rdN T p).2.2 + 1)) ((rdN T p).2.2 + 1) nd wr E (by omega) F1.adv R1 (by omega)
      have e2 : xd_readAny9 (u2 h1 148 2 ((rdN T p).2.2 + 1)) o 0 = _ := e2
      dsimp only
      rw [e2, Option.bind_some]
      by_cases c3 : (sAny T (sOne T 6 0) ((rdN T p).2.2 + 1)).1 = true
      · obtain ⟨s1, s2⟩ := any_S X.1 (one_S X.1 6 0) ((rdN T p).2.2 + 1) (by omega) (by omega) c3
        rw [if_pos c3, if_pos c3, if_neg (show ¬ ww (1 : Int) = 0 by decide)]
        have ln2 : (E ++ mapC (sAny T (sOne T 6 0) ((rdN T p).2.2 + 1)).2.2).length < 100 := by
          have := s2.1
          rw [List.length_append, mapC_len]
          omega
        obtain ⟨h3, e3, F3, R3, -⟩ := X_app (s := s) (n := h1 148 3) ob F2 (g2 c3) ln2 (some (rdN T p).2.1) (fun w hw => by
          rw [v1 c1]
          exact Option.some.inj hw)
        dsimp only
        rw [e3, Option.bind_some]
        rw [List.append_assoc] at R3
        exact ⟨h3, rfl, F3, fun _ => R3⟩
      · rw [if_neg c3, if_neg c3, if_pos (show ww (0 : Int) = 0 by decide)]
        exact ⟨h2, rfl, F2, fun z => by simp at z⟩
    · rw [if_neg c2, if_neg c2, if_neg c2, if_pos (show ww (0 : Int) = 0 by decide)]
      exact ⟨h1, rfl, F1, fun z => by simp at z⟩
  · rw [if_neg c1, if_neg c1, if_pos (show ww (0 : Int) = 0 by decide)]
    exact ⟨h1, rfl, F1, fun z => by simp at z⟩
/-- what a clause leaves -/
def cX (q : CL) : List (Int × Option Int) := if q.1 < 2 then mapC q.2.2 ++ [(if q.1 = 0 then -4 else -5, some q.2.1)] else []
theorem X_clause {T : Int → Int} {L o : Int} {h0 h : HH} {p nd wr : Int} {E : List (Int × Option Int)} (X : XTX T L o h0) (F : RXF o h0 h p) (hp : 0 ≤ p ∧ p ≤ L) (R : RXE o h E nd wr) (hE : E.length ≤ p) : ∃ h', xd_readClause h o = some (if (sCl T p).1 = true then 1 else 0, h') ∧ RXF o h0 h' (sCl T p).2.1 ∧ ((sCl T p).1 = true → RXE o h' (E ++ cX (sCl T p).2.2) (if (sCl T p).2.2.1 = 2 then (sCl T p).2.2.2.1 else nd) (if (sCl T p).2.2.1 = 3 then (sCl T p).2.2.2.1 else wr)) := by
  have L1 := X.1.1
  have ob := X.2.2.2
  obtain ⟨l, a, b⟩ := X_cur X F hp
  have e2 := F.1
  -- hot and cold
  have warm : ∀ (w s : Int) (tb : List Int32), (w = 0 ∧ s = -4 ∨ w = 1 ∧ s = -5) → wdOf (T p) = w → (wdL w).length = tb.length → tb.length ≤ 10 → (∀ i : Nat, i < tb.length → zch tb i = (wdL w).getD i 0 ∧ 0 ≤ (wdL w).getD i 0 ∧ (wdL w).getD i 0 ≤ 127) → ∃ h', ((xd_takeWord tb h).bind fun q2 => if ww q2.1 = 0 then (some ((0 : Int), q2.2)) else ((xd_readWarmth q2.2 o s).bind fun q3 => if ww q3.1 = 0 then (some (0, q3.2)) else (some (1, q3.2)))) = some (if (sCl T p).1 = true then 1 else 0, h') ∧ RXF o h0 h' (sCl T p).2.1 ∧ ((sCl T p).1 = true → RXE o h' (E ++ cX (sCl T p).2.2) (if (sCl T p).2.2.1 = 2 then (sCl T p).2.2.2.1 else nd) (if (sCl T p).2.2.1 = 3 then (sCl T p).2.2.2.1 else wr)) := fun w s tb hw ew hl h5 hc => by
    obtain ⟨h1, e1, F1, o1⟩ := X_word X F hp hl h5 hc
    have R1 : RXE o h1 E nd wr := R.cg fun a b _ _ => o1 a b (by omega)
    have w2 : w < 2 := by omega
    rw [e1, Option.bind_some]
    unfold sCl
    rw [ew]
    by_cases c1 : (sWd T (wdL w) p).1 = true
    · have wl := sWd_p X.1 (wdL w) p (wdL_b w).1 hp.2 c1
      rw [if_pos c1, if_pos c1, if_neg (show ¬ ww (1 : Int) = 0 by decide)]
      obtain ⟨h2, e3, F2, g2⟩ := X_wm (s := s) X F1 (by omega) R1 (by omega)
      dsimp only
      rw [e3, Option.bind_some]
      generalize (sWd T (wdL w) p).2 = r at *
      unfold sWm at F2 g2 ⊢
      by_cases c2 : (rdN T r).1 = true
      · rw [if_pos c2] at F2 g2 ⊢
        rw [if_pos c2, if_pos w2]
        by_cases c3 : T (rdN T r).2.2 = 32
        · rw [if_pos c3] at F2 g2 ⊢
          rw [if_pos c3]
          by_cases c4 : (sAny T (sOne T 6 0) ((rdN T r).2.2 + 1)).1 = true
          · rw [if_pos c4] at F2 g2 ⊢
            rw [if_pos c4]
            refine ⟨h2, rfl, F2, fun _ => ?_⟩
            have g3 := g2 rfl
            dsimp only at g3 ⊢
            rw [if_neg (by omega), if_neg (by omega), cX, if_pos (by exact w2)]
            have es : (if w = 0 then (-4 : Int) else -5) = s := by
              rcases hw with ⟨y, z⟩ | ⟨y, z⟩
              · rw [if_pos y, z]
              · rw [if_neg (by omega), z]
            dsimp only
            rw [es]
            exact g3
          · rw [if_neg c4] at F2 ⊢
            rw [if_neg c4]
            exact ⟨h2, rfl, F2, fun z => by simp at z⟩
        · rw [if_neg c3] at F2 ⊢
          rw [if_neg c3]
          exact ⟨h2, rfl, F2, fun z => by simp at z⟩
      · rw [if_neg c2] at F2 ⊢
        rw [if_neg c2]
        exact ⟨h2, rfl, F2, fun z => by simp at z⟩
    · rw [if_neg c1, if_neg c1, if_pos (show ww (0 : Int) = 0 by decide)]
      exact ⟨h1, rfl, F1, fun z => by simp at z⟩
  -- need and wear
  have numb : ∀ (w j : Int) (tb : List Int32), (w = 2 ∧ j = 0 ∨ w = 3 ∧ j = 1) → wdOf (T p) = w → (wdL w).length = tb.length → tb.length ≤ 10 → (∀ i : Nat, i < tb.length → zch tb i = (wdL w).getD i 0 ∧ 0 ≤ (wdL w).getD i 0 ∧ (wdL w).getD i 0 ≤ 127) → ∃ h', ((xd_takeWord tb h).bind fun q8 => if ww q8.1 = 0 then (some ((0 : Int), q8.2)) else ((xd_readNumber q8.2).bind fun q9 => if ww q9.1 = 0 then (some (0, q9.2)) else (some (1, u2 q9.2 o j (q9.2 148 3))))) = some (if (sCl T p).1 = true then 1 else 0, h') ∧ RXF o h0 h' (sCl T p).2.1 ∧ ((sCl T p).1 = true → RXE o h' (E ++ cX (sCl T p).2.2) (if (sCl T p).2.2.1 = 2 then (sCl T p).2.2.2.1 else nd) (if (sCl T p).2.2.1 = 3 then (sCl T p).2.2.2.1 else wr)) := fun w j tb hw ew hl h5 hc => by
    obtain ⟨h1, e1, F1, o1⟩ := X_word X F hp hl h5 hc
    have w2 : ¬ w < 2 := by omega
    rw [e1, Option.bind_some]
    unfold sCl
    rw [ew]
    by_cases c1 : (sWd T (wdL w) p).1 = true
    · have wl := sWd_p X.1 (wdL w) p (wdL_b w).1 hp.2 c1
      rw [if_pos c1, if_pos c1, if_neg (show ¬ ww (1 : Int) = 0 by decide)]
      obtain ⟨h2, e3, F2, o2, v2⟩ := X_num X F1 (by omega)
      dsimp only
      rw [e3, Option.bind_some]
      generalize (sWd T (wdL w) p).2 = r at *
      by_cases c2 : (rdN T r).1 = true
      · rw [if_pos c2, if_pos c2, if_neg (show ¬ ww (1 : Int) = 0 by decide), if_neg w2]
        refine ⟨_, rfl, ⟨by dsimp only; rw [u2N (by omega)]; exact F2.1, fun c i z => by dsimp only; rw [u2N (by omega)]; exact F2.2 c i z⟩, fun _ => ?_⟩
        have R2 : RXE o h2 E nd wr := R.cg fun a b _ _ => by rw [o2 a b (by omega), o1 a b (by omega)]
        obtain ⟨r1, r2, r3, r4⟩ := R2
        dsimp only
        rw [cX, if_neg (by exact w2), List.append_nil, v2 c2]
        refine ⟨by rw [u2N (by omega)]; exact r1, fun i hi => by rw [u2N (by omega), u2N (by omega)]; exact r2 i hi, ?_, ?_⟩
        · rcases hw with ⟨y, z⟩ | ⟨y, z⟩
          · rw [if_pos y, z, u2S]
          · rw [if_neg (by omega), z, u2N (by omega)]; exact r3
        · rcases hw with ⟨y, z⟩ | ⟨y, z⟩
          · rw [if_neg (by omega), z, u2N (by omega)]; exact r4
          · rw [if_pos y, z, u2S]
      · rw [if_neg c2, if_neg c2, if_pos (show ww (0 : Int) = 0 by decide)]
        exact ⟨h2, rfl, F2, fun z => by simp at z⟩
    · rw [if_neg c1, if_neg c1, if_pos (show ww (0 : Int) = 0 by decide)]
      exact ⟨h1, rfl, F1, fun z => by simp at z⟩
  have none' : T p ≠ 99 → T p ≠ 104 → T p ≠ 110 → T p ≠ 119 → ∃ h', some ((0 : Int), h) = some (if (sCl T p).1 = true then 1 else 0, h') ∧ RXF o h0 h' (sCl T p).2.1 ∧ ((sCl T p).1 = true → RXE o h' (E ++ cX (sCl T p).2.2) (if (sCl T p).2.2.1 = 2 then (sCl T p).2.2.2.1 else nd) (if (sCl T p).2.2.1 = 3 then (sCl T p).2.2.2.1 else wr)) := fun n1 n2 n3 n4 => by
    have ew : wdOf (T p) = 3 := by unfold wdOf; rw [if_neg n1, if_neg n2, if_neg n3]
    have es : sWd T (wdL 3) p = (false, p) := by
      show sWd T [119, 101, 97, 114, 32] p = _
      rw [sWd, if_neg n4]
    unfold sCl
    rw [ew, es, if_neg (by simp)]
    exact ⟨h, rfl, F, fun z => by simp at z⟩
  unfold xd_readClause
  by_cases z : p < L
  · obtain ⟨a1, a2, a3⟩ := a z
    rw [if_pos (by rw [e2, l, wwP (by omega), wwP (by omega)]; exact z), e2, wwP (z := p) (by omega), ckP (by omega), a1, wwP (z := T p) (by omega)]
    by_cases k1 : T p = 99
    · rw [if_pos k1]
      exact warm 1 (-5) [99, 111, 108, 100, 32] (.inr ⟨rfl, rfl⟩) (by unfold wdOf; rw [if_pos k1]) rfl (by decide) (by decide)
    · rw [if_neg k1]
      by_cases k2 : T p = 104
      · rw [if_pos k2]
        exact warm 0 (-4) [104, 111, 116, 32] (.inl ⟨rfl, rfl⟩) (by unfold wdOf; rw [if_neg k1, if_pos k2]) rfl (by decide) (by decide)
      · rw [if_neg k2]
        by_cases k3 : T p = 110
        · rw [if_pos k3]
          exact numb 2 0 [110, 101, 101, 100, 32] (.inl ⟨rfl, rfl⟩) (by unfold wdOf; rw [if_neg k1, if_neg k2, if_pos k3]) rfl (by decide) (by decide)
        · rw [if_neg k3]
          by_cases k4 : T p = 119
          · rw [if_pos k4]
            exact numb 3 1 [119, 101, 97, 114, 32] (.inr ⟨rfl, rfl⟩) (by unfold wdOf; rw [if_neg k1, if_neg k2, if_neg k3]) rfl (by decide) (by decide)
          · rw [if_neg k4]
            exact none' k1 k2 k3 k4
  · have bz := b z
    rw [if_neg (by rw [e2, l, wwP (by omega), wwP (by omega)]; exact z), if_neg (by decide), if_neg (by decide), if_neg (by decide), if_neg (by decide)]
    exact none' (by omega) (by omega) (by omega) (by omega)
