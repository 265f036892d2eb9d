/- the class reads a text -/
def XTX (T : Int → Int) (L o : Int) (h0 : HH) : Prop := TX T L ∧ h0 148 1 = L ∧ (∀ i, 0 ≤ i → i < L → h0 149 i = T i ∧ T i ≤ 127) ∧ (175 ≤ o ∧ o ≤ 190)
def RXF (o : Int) (h0 h : HH) (p : Int) : Prop := h 148 2 = p ∧ ∀ c j, ¬ ((c = 148 ∧ (j = 2 ∨ j = 3)) ∨ (o ≤ c ∧ c ≤ o + 2)) → h c j = h0 c j
def RXE (o : Int) (h : HH) (E : List (Int × Option Int)) (nd wr : Int) : Prop := h o 4 = E.length ∧ (∀ i : Nat, i < E.length → h (o + 1) i = (E.getD i (0, none)).1 ∧ ∀ v, (E.getD i (0, none)).2 = some v → h (o + 2) i = v) ∧ h o 0 = nd ∧ h o 1 = wr
theorem RXE.cg {o : Int} {h h' : HH} {E : List (Int × Option Int)} {nd wr : Int} (H : RXE o h E nd wr) (e : ∀ c j, o ≤ c → c ≤ o + 2 → h' c j = h c j) : RXE o h' E nd wr := by
  obtain ⟨h1, h2, h3, h4⟩ := H
  refine ⟨by rw [e _ _ (by omega) (by omega)]; exact h1, fun i hi => ?_, by rw [e _ _ (by omega) (by omega)]; exact h3, by rw [e _ _ (by omega) (by omega)]; exact h4⟩
  rw [e _ _ (by omega) (by omega), e _ _ (by omega) (by omega)]
  exact h2 i hi
theorem RXF.adv {o : Int} {h0 h : HH} {p q : Int} (H : RXF o h0 h p) : RXF o h0 (u2 h 148 2 q) q := ⟨u2S, fun c j z => by rw [u2N (by omega)]; exact H.2 c j z⟩
theorem X_cur {T : Int → Int} {L o : Int} {h0 h : HH} {p : Int} (X : XTX T L o h0) (F : RXF o h0 h p) (hp : 0 ≤ p ∧ p ≤ L) : h 148 1 = L ∧ (p < L → h 149 p = T p ∧ 0 ≤ T p ∧ T p ≤ 127) ∧ (¬ p < L → T p = -1) := by
  obtain ⟨t, l, c, ob⟩ := X
  refine ⟨by rw [F.2 _ _ (by omega)]; exact l, fun z => ?_, fun z => t.2.1 p (by omega)⟩
  rw [F.2 _ _ (by omega)]
  exact ⟨(c p hp.1 z).1, t.2.2 p hp.1 z, (c p hp.1 z).2⟩
theorem X_take {T : Int → Int} {L o : Int} {h0 h : HH} {p : Int} (X : XTX T L o h0) (F : RXF o h0 h p) (hp : 0 ≤ p ∧ p ≤ L) {c : Int} (hc : 0 ≤ c ∧ c ≤ 127) : xd_take h c = some (if T p = c then 1 else 0, if T p = c then u2 h 148 2 (p + 1) else h) := by
  obtain ⟨l, a, b⟩ := X_cur X F hp
  have L1 := X.1.1
  have e2 := F.1
  unfold xd_take
  by_cases z : p < L
  · obtain ⟨a1, a2, a3⟩ := a z
    by_cases y : T p = c
    · rw [if_pos y, if_pos y]
      simp (disch := omega) only [reduceIte, ltT, ltF, eqT, eqF, leT, leF, wwP, ckP, ckzP, ckbP, u2S, u2N, u2T, ↓Option.bind_some, inB_T, inB_F, Bool.false_eq_true, m_in0, m_in1, l, e2, a1]
    · rw [if_neg y, if_neg y]
      simp (disch := omega) only [reduceIte, ltT, ltF, eqT, eqF, leT, leF, wwP, ckP, ckzP, ckbP, u2S, u2N, u2T, ↓Option.bind_some, inB_T, inB_F, Bool.false_eq_true, m_in0, m_in1, l, e2, a1]
  · have y : ¬ T p = c := by rw [b z]; omega
    rw [if_neg y, if_neg y]
    simp (disch := omega) only [reduceIte, ltT, ltF, eqT, eqF, leT, leF, wwP, ckP, ckzP, ckbP, u2S, u2N, u2T, ↓Option.bind_some, inB_T, inB_F, Bool.false_eq_true, m_in0, m_in1, l, e2]
theorem X_num_L {T : Int → Int} {L o : Int} {h0 h : HH} {p : Int} (X : XTX T L o h0) (F : RXF o h0 h p) (hp : 0 ≤ p ∧ p ≤ L) {x v : Int} (hx : 0 ≤ x ∧ x ≤ 2) (hv : h 148 3 = v) (n : Nat) : xd_readNumber_L7 (n + 1) h x = if x < 2 ∧ isDg (T p) = true then xd_readNumber_L7 n (u2 (u2 h 148 3 (v * 10 + T p - 48)) 148 2 (p + 1)) (x + 1) else some (if 0 < x then 1 else 0, h) := by
  obtain ⟨l, a, b⟩ := X_cur X F hp
  have L1 := X.1.1
  have e2 := F.1
  have dg : isDg (T p) = true ↔ 48 ≤ T p ∧ T p ≤ 57 := by rw [isDg, decide_eq_true_eq]
  rw [xd_readNumber_L7]
  have fin : (if 0 < ww x then some ((1 : Int), h) else some (0, h)) = some (if 0 < x then 1 else 0, h) := by
    rw [wwP (by omega)]
    by_cases c : 0 < x
    · rw [if_pos c, if_pos c]
    · rw [if_neg c, if_neg c]
  by_cases c0 : x < 2
  · rw [if_pos (by rw [wwP (by omega)]; exact c0)]
    by_cases z : p < L
    · obtain ⟨a1, a2, a3⟩ := a z
      rw [if_pos (by rw [e2, l, wwP (by omega), wwP (by omega)]; exact z), e2, wwP (z := p) (by omega), ckP (by omega), a1]
      by_cases c1 : T p < 48
      · rw [if_pos (by rw [wwP (by omega)]; exact c1), fin, if_neg (show ¬ (x < 2 ∧ isDg (T p) = true) by rw [dg]; omega)]
      · rw [if_neg (by rw [wwP (by omega)]; exact c1), ckP (by omega)]
        by_cases c2 : 57 < T p
        · rw [if_pos (by rw [wwP (by omega)]; exact c2), fin, if_neg (show ¬ (x < 2 ∧ isDg (T p) = true) by rw [dg]; omega)]
        · rw [if_neg (by rw [wwP (by omega)]; exact c2), ckP (by omega), if_pos ⟨c0, dg.2 (by omega)⟩, u2N (by omega), e2, hv]
    · rw [if_neg (by rw [e2, l, wwP (by omega), wwP (by omega)]; exact z), fin, if_neg (show ¬ (x < 2 ∧ isDg (T p) = true) by rw [dg]; have := b z; omega)]
  · rw [if_neg (by rw [wwP (by omega)]; exact c0), fin, if_neg (show ¬ (x < 2 ∧ isDg (T p) = true) from fun y => c0 y.1)]
theorem X_num {T : Int → Int} {L o : Int} {h0 h : HH} {p : Int} (X : XTX T L o h0) (F : RXF o h0 h p) (hp : 0 ≤ p ∧ p ≤ L) : ∃ h', xd_readNumber h = some (if (rdN T p).1 = true then 1 else 0, h') ∧ RXF o h0 h' (rdN T p).2.2 ∧ (∀ c j, c ≠ 148 → h' c j = h c j) ∧ ((rdN T p).1 = true → h' 148 3 = (rdN T p).2.1) := by
  have hT := X.1
  have ob := X.2.2.2
  have dgL : ∀ q, isDg (T q) = true → q < L := fun q z => by
    rw [isDg, decide_eq_true_eq] at z
    exact lt_L hT (by omega)
  unfold xd_readNumber
  rw [show FU = 19997 + 1 + 1 + 1 from rfl]
  have F1 : RXF o h0 (u2 h 148 3 0) p := ⟨by rw [u2N (by omega)]; exact F.1, fun c j z => by rw [u2N (by omega)]; exact F.2 c j z⟩
  rw [X_num_L X F1 hp (x := 0) (by omega) u2S]
  unfold rdN
  by_cases c1 : isDg (T p) = true
  · have l1 := dgL p c1
    have F2 : RXF o h0 (u2 (u2 (u2 h 148 3 0) 148 3 (0 * 10 + T p - 48)) 148 2 (p + 1)) (p + 1) := ⟨u2S, fun c j z => by rw [u2N (by omega), u2N (by omega), u2N (by omega)]; exact F.2 c j z⟩
    rw [if_pos ⟨by omega, c1⟩, if_pos c1, X_num_L X F2 (by omega) (x := 0 + 1) (v := T p - 48) (by omega) (by rw [u2N (by omega), u2S]; omega)]
    by_cases c2 : isDg (T (p + 1)) = true
    · have l2 := dgL _ c2
      have F3 : RXF o h0 (u2 (u2 (u2 (u2 (u2 h 148 3 0) 148 3 (0 * 10 + T p - 48)) 148 2 (p + 1)) 148 3 ((T p - 48) * 10 + T (p + 1) - 48)) 148 2 (p + 1 + 1)) (p + 1 + 1) := ⟨u2S, fun c j z => by rw [u2N (by omega), u2N (by omega), u2N (by omega), u2N (by omega), u2N (by omega)]; exact F.2 c j z⟩
      rw [if_pos ⟨by omega, c2⟩, if_pos c2, X_num_L X F3 (by omega) (x := 0 + 1 + 1) (v := (T p - 48) * 10 + T (p + 1) - 48) (by omega) (by rw [u2N (by omega), u2S]), if_neg (by omega)]
      refine ⟨_, rfl, ?_, fun c j z => by rw [u2N (by omega), u2N (by omega), u2N (by omega), u2N (by omega), u2N (by omega)], fun _ => ?_⟩
      · show RXF o h0 _ (p + 2)
        rw [show p + 2 = p + 1 + 1 by omega]
        exact F3
      · show _ = 10 * (T p - 48) + (T (p + 1) - 48)
        rw [u2N (by omega), u2S]
        omega
    · rw [if_neg (fun z => c2 z.2), if_neg c2]
      refine ⟨_, rfl, F2, fun c j z => by rw [u2N (by omega), u2N (by omega), u2N (by omega)], fun _ => ?_⟩
      show _ = T p - 48
      rw [u2N (by omega), u2S]
      omega
  · rw [if_neg (fun z => c1 z.2), if_neg c1]
    exact ⟨_, rfl, F1, fun c j z => by rw [u2N (by omega)], fun z => by simp at z⟩
theorem tok1_fin : ∀ c : Fin 128, zfind [112, 116, 107, 118, 104, 121] (zb8 (zi2c (c.val : Int))) 6 0 = placeN (c.val : Int) := by decide +kernel
theorem tok2_fin : ∀ c : Fin 128, zfind [60, 61, 62] (zb8 (zi2c (c.val : Int))) 3 0 = if 60 ≤ (c.val : Int) ∧ (c.val : Int) ≤ 62 then (c.val : Int) - 60 else -1 := by decide +kernel
theorem i2c_fin : ∀ c : Fin 128, ww (zi2c (c.val : Int)) = (c.val : Int) := by decide +kernel
theorem X_tok {T : Int → Int} {L o : Int} {h0 h : HH} {p : Int} (X : XTX T L o h0) (F : RXF o h0 h p) (hp : 0 ≤ p ∧ p ≤ L) {tb : List Int32} {v : Int → Int} (hv : ∀ c : Fin 128, zfind tb (zb8 (zi2c (c.val : Int))) tb.length 0 = v (c.val : Int)) (vb : ∀ c, -1 ≤ v c ∧ v c ≤ 100) (v1 : v (-1) = -1) : xd_takeOneOf tb h = some (v (T p), if v (T p) < 0 then h else u2 h 148 2 (p + 1)) := by
  obtain ⟨l, a, b⟩ := X_cur X F hp
  have L1 := X.1.1
  have e2 := F.1
  have w := vb (T p)
  unfold xd_takeOneOf
  by_cases z : p < L
  · obtain ⟨a1, a2, a3⟩ := a z
    obtain ⟨cf, hcf⟩ := fin_of (n := 128) (p := T p) (by omega)
    have e3 : zfind tb (zb8 (zi2c (T p))) tb.length 0 = v (T p) := by rw [hcf]; exact hv cf
    have e4 : ww (zi2c (T p)) = T p := by rw [hcf]; exact i2c_fin cf
    rw [if_pos (by rw [e2, l, wwP (by omega), wwP (by omega)]; exact z), e2, wwP (z := p) (by omega), ckP (by omega), a1, e4, ckP (by omega), e3]
    by_cases y : v (T p) < 0
    · rw [if_pos (by rw [wwP (by omega)]; exact y), if_pos y]
    · rw [if_neg (by rw [wwP (by omega)]; exact y), if_neg y]
  · rw [if_neg (by rw [e2, l, wwP (by omega), wwP (by omega)]; exact z), if_pos (by decide), b z, v1, if_pos (by decide)]
theorem X_app {o : Int} {h0 h : HH} {p nd wr s n : Int} {E : List (Int × Option Int)} (ob : 175 ≤ o ∧ o ≤ 190) (F : RXF o h0 h p) (R : RXE o h E nd wr) (hE : E.length < 100) (v : Option Int) (hv : ∀ w, v = some w → n = w) : ∃ h', xo_append h o s n = some h' ∧ RXF o h0 h' p ∧ RXE o h' (E ++ [(s, v)]) nd wr ∧ ∀ c j, ¬ (o ≤ c ∧ c ≤ o + 2) → h' c j = h c j := by
  obtain ⟨r1, r2, r3, r4⟩ := R
  refine ⟨u2 (u2 (u2 h (o + 1) E.length s) (o + 2) E.length n) o 4 (E.length + 1), ?_, ⟨by simp (disch := omega) only [u2S, u2N, u2T]; exact F.1, fun c j z => by simp (disch := omega) only [u2S, u2N, u2T]; exact F.2 c j z⟩, ⟨?_, fun i hi => ?_, by simp (disch := omega) only [u2S, u2N, u2T]; exact r3, by simp (disch := omega) only [u2S, u2N, u2T]; exact r4⟩, fun c j z => by simp (disch := omega) only [u2S, u2N, u2T]⟩
  · unfold xo_append
    simp (disch := omega) only [reduceIte, ltT, ltF, eqT, eqF, leT, leF, wwP, ckP, ckzP, ckbP, u2S, u2N, u2T, ↓Option.bind_some, inB_T, inB_F, Bool.false_eq_true, m_in0, m_in1, r1]
  · rw [u2S, List.length_append, List.length_singleton]
    omega
  · rw [List.length_append, List.length_singleton] at hi
    by_cases z : i < E.length
    · have e : (E ++ [(s, v)]).getD i (0, none) = E.getD i (0, none) := by
        rw [List.getD_eq_getElem?_getD, List.getD_eq_getElem?_getD, List.getElem?_append_left z]
      rw [e]
      simp (disch := omega) only [u2S, u2N, u2T]
      exact r2 i z
    · have y : i = E.length := by omega
      subst y
      have e : (E ++ [(s, v)]).getD E.length (0, none) = (s, v) := by
        rw [List.getD_eq_getElem?_getD, List.getElem?_append_right (Nat.le_refl _), Nat.sub_self]
        rfl
      rw [e]
      simp (disch := omega) only [u2S, u2N, u2T]
      exact ⟨trivial, fun w hw => hv w hw⟩
def mapC (c : List Int) : List (Int × Option Int) := c.map (fun z => (stepX z, if z < 0 then none else some (numX z)))
theorem mapC_len (c : List Int) : (mapC c).length = c.length := by unfold mapC; rw [List.length_map]
theorem mapC_app (a b : List Int) : mapC (a ++ b) = mapC a ++ mapC b := by unfold mapC; rw [List.map_append]
theorem X_test {T : Int → Int} {L o : Int} {h0 h : HH} {p nd wr : Int} {E : List (Int × Option Int)} (X : XTX T L o h0) (F : RXF o h0 h p) (hp : 0 ≤ p ∧ p ≤ L) (R : RXE o h E nd wr) (hE : E.length ≤ p) : ∃ h', xd_readTest h o = some (if (rdT T p).1 = true then 1 else 0, h') ∧ RXF o h0 h' (rdT T p).2.1 ∧ ((rdT T p).1 = true → RXE o h' (E ++ mapC (rdT T p).2.2) nd wr) := by
  have ob := X.2.2.2
  have hT := X.1
  have L1 := hT.1
  have R148 : ∀ {h' : HH}, (∀ c j, c ≠ 148 → h' c j = h c j) → RXE o h' E nd wr := fun e => R.cg fun c j a b => e c j (by omega)
  have t1 := X_tok X F hp tok1_fin (fun c => by unfold placeN; repeat' split; all_goals omega) (by decide)
  unfold xd_readTest
  rw [t1, Option.bind_some]
  unfold rdT
  by_cases c1 : placeN (T p) < 0
  · have pm : -1 ≤ placeN (T p) := by
      unfold placeN
      repeat' split
      all_goals omega
    rw [if_pos c1, if_pos c1, if_pos (show ww (placeN (T p)) < 0 by rw [wwP (by omega)]; exact c1), if_pos (by decide)]
    exact ⟨h, rfl, F, fun z => by simp at z⟩
  · have pb := placeN_b c1
    have pL := lt_L hT (p := p) (by omega)
    rw [if_neg c1, if_neg c1, if_neg (by rw [wwP (by omega)]; exact c1)]
    have F1 : RXF o h0 (u2 h 148 2 (p + 1)) (p + 1) := F.adv
    have t2 := X_tok (v := fun c => if 60 ≤ c ∧ c ≤ 62 then c - 60 else -1) X F1 (by omega) tok2_fin (fun c => by split <;> omega) (by decide)
    dsimp only at t2 ⊢
    rw [t2, Option.bind_some]
    by_cases c2 : 60 ≤ T (p + 1) ∧ T (p + 1) ≤ 62
    · have pL1 := lt_L hT (p := p + 1) (by omega)
      rw [if_pos c2, if_neg (show ¬ (T (p + 1) - 60 < 0) by omega), if_neg (by rw [wwP (by omega)]; omega), if_pos c2]
      have F2 : RXF o h0 (u2 (u2 h 148 2 (p + 1)) 148 2 (p + 1 + 1)) (p + 2) := by
        have := F1.adv (q := p + 1 + 1)
        rw [show p + 2 = p + 1 + 1 by omega]
        exact this
      obtain ⟨h3, e3, F3, o3, v3⟩ := X_num X F2 (by omega)
      dsimp only
      rw [e3, Option.bind_some]
      by_cases c3 : (rdN T (p + 2)).1 = true
      · have nb := rdN_p hT c3
        rw [if_pos c3, if_pos c3, if_neg (show ¬ ww (1 : Int) = 0 by decide)]
        have R3 : RXE o h3 E nd wr := R148 fun c j z => by rw [o3 c j z, u2N (by omega), u2N (by omega)]
        obtain ⟨h4, e4, F4, R4, -⟩ := X_app (s := xo_testStep (placeN (T p)) (T (p + 1) - 60)) (n := h3 148 3) ob F3 R3 (by omega) (some (rdN T (p + 2)).2.1) (fun w hw => by
          rw [v3 c3]
          exact Option.some.inj hw)
        dsimp only
        rw [e4, Option.bind_some]
        refine ⟨h4, rfl, F4, fun _ => ?_⟩
        have em : mapC [1000 * placeN (T p) + 100 * (T (p + 1) - 60) + (rdN T (p + 2)).2.1] = [(xo_testStep (placeN (T p)) (T (p + 1) - 60), some (rdN T (p + 2)).2.1)] := by
          unfold mapC xo_testStep
          rw [List.map_singleton]
          generalize placeN (T p) = f at pb ⊢
          generalize (rdN T (p + 2)).2.1 = n at nb ⊢
          have s1 : stepX (1000 * f + 100 * (T (p + 1) - 60) + n) = f * 3 + (T (p + 1) - 60) := by
            unfold stepX
            rw [if_neg (by omega), if_neg (by omega), if_neg (by omega)]
            omega
          have s2 : numX (1000 * f + 100 * (T (p + 1) - 60) + n) = n := by
            unfold numX
            omega
          rw [s1, s2, if_neg (by omega)]
        rw [em]
        exact R4
      · rw [if_neg c3, if_neg c3, if_pos (show ww (0 : Int) = 0 by decide)]
        have c4 : (rdN T (p + 2)).2.2 = p + 2 := by
          unfold rdN at c3 ⊢
          by_cases y : isDg (T (p + 2)) = true
          · rw [if_pos y] at c3
            exfalso
            apply c3
            split <;> rfl
          · rw [if_neg y]
        refine ⟨h3, rfl, ?_, fun z => by simp at z⟩
        show RXF o h0 h3 (p + 2)
        rw [c4] at F3
        exact F3
    · rw [if_neg c2, if_pos (show (-1 : Int) < 0 by decide), if_pos (show ww (-1 : Int) < 0 by decide), if_neg c2]
      exact ⟨_, rfl, F1, fun z => by simp at z⟩
/-- the class reads as ro says -/
def OneX (T : Int → Int) (L o : Int) (h0 : HH) (roX : HH → Int → Int → Option (Int × HH)) (d : Int) (ro : Int → RZ) : Prop := ∀ (h : HH) (p nd wr : Int) (E : List (Int × Option Int)), (0 ≤ p ∧ p ≤ L) → RXF o h0 h p → RXE o h E nd wr → E.length ≤ p → ∃ h', roX h o d = some (if (ro p).1 = true then 1 else 0, h') ∧ RXF o h0 h' (ro p).2.1 ∧ ((ro p).1 = true → RXE o h' (E ++ mapC (ro p).2.2) nd wr)
theorem X_and {T : Int → Int} {L o : Int} {h0 : HH} (X : XTX T L o h0) {ro : Int → RZ} {roX : HH → Int → Int → Option (Int × HH)} {d : Int} (HS : OneS L ro) (HX : OneX T L o h0 roX d ro) {nd wr x3 : Int} (kk : HH → Option (Int × HH)) : ∀ (m n : Nat) (h : HH) (x p0 p : Int) (c : List Int) (E : List (Int × Option Int)), x + m = 100 → 1 ≤ x → m < n → (0 ≤ p0 ∧ p0 ≤ p ∧ p ≤ L) → GZ c p0 p → E.length ≤ p0 → RXF o h0 h p → RXE o h (E ++ mapC c) nd wr → ∃ h', RXF o h0 h' (sAnd T ro m p c).2.1 ∧ ((sAnd T ro m p c).1 = true → xd_readAny_L24 roX o d x3 kk n h x = kk h' ∧ RXE o h' (E ++ mapC (sAnd T ro m p c).2.2) nd wr) ∧ ((sAnd T ro m p c).1 = false → xd_readAny_L24 roX o d x3 kk n h x = some (0, h')) := by
  have L1 := X.1.1
  intro m
  induction m with
  | zero =>
    intro n h x p0 p c E hx x1 hn hp hg hE F R
    obtain ⟨n, rfl⟩ : ∃ k, n = k + 1 := ⟨n - 1, by omega⟩
    rw [xd_readAny_L24, if_neg (by rw [wwP (by omega)]; omega), sAnd]
    exact ⟨h, F, fun _ => ⟨rfl, R⟩, fun z => by simp at z⟩
  | succ m im =>
    intro n h x p0 p c E hx x1 hn hp hg hE F R
    obtain ⟨n, rfl⟩ : ∃ k, n = k + 1 := ⟨n - 1, by omega⟩
    have tk := X_take X F (by omega) (c := 38) (by omega)
    rw [xd_readAny_L24, if_pos (by rw [wwP (by omega)]; omega), if_neg (by rw [wwP (by omega)]; omega), tk, Option.bind_some, sAnd]
    by_cases c1 : T p = 38
    · have pL := lt_L X.1 (p := p) (by omega)
      rw [if_pos c1, if_pos c1, if_pos c1, if_neg (show ¬ ww (1 : Int) = 0 by decide)]
      have R1 : RXE o (u2 h 148 2 (p + 1)) (E ++ mapC c) nd wr := R.cg fun a b _ _ => u2N (by have := X.2.2.2; omega)
      have ln : (E ++ mapC c).length ≤ p := by
        have := hg.1
        rw [List.length_append, mapC_len]
        omega
      obtain ⟨h1, e1, F1, g1⟩ := HX (u2 h 148 2 (p + 1)) (p + 1) nd wr (E ++ mapC c) (by omega) F.adv R1 (by omega)
      dsimp only
      rw [e1, Option.bind_some]
      by_cases c2 : (ro (p + 1)).1 = true
      · obtain ⟨s1, s2⟩ := HS (p + 1) (by omega) (by omega) c2
        rw [if_pos c2, if_pos c2, if_neg (show ¬ ww (1 : Int) = 0 by decide), if_pos (by rw [wwP (by omega)]; omega)]
        have ln2 : (E ++ mapC c ++ mapC (ro (p + 1)).2.2).length < 100 := by
          have := s2.1
          rw [List.length_append, mapC_len]
          omega
        obtain ⟨h2, e2, F2, R2, -⟩ := X_app (s := -2) (n := 0) X.2.2.2 F1 (g1 c2) ln2 none (fun w z => by simp at z)
        dsimp only
        rw [e2, Option.bind_some]
        have em : E ++ mapC c ++ mapC (ro (p + 1)).2.2 ++ [(-2, none)] = E ++ mapC (c ++ (ro (p + 1)).2.2 ++ [-38]) := by
          rw [mapC_app, mapC_app]
          show _ = E ++ (mapC c ++ mapC (ro (p + 1)).2.2 ++ [(-2, none)])
          simp only [List.append_assoc]
        rw [em] at R2
        exact im n h2 (x + 1) p0 _ _ E (by omega) (by omega) (by omega) (by omega) (GZ_op hg s2 (.inl rfl)) hE F2 R2
      · rw [if_neg c2, if_neg c2, if_pos (show ww (0 : Int) = 0 by decide)]
        exact ⟨h1, F1, fun z => by simp at z, fun _ => rfl⟩
    · rw [if_neg c1, if_neg c1, if_neg c1, if_pos (show ww (0 : Int) = 0 by decide)]
      exact ⟨h, F, fun _ => ⟨rfl, R⟩, fun z => by simp at z⟩
/-- a whole group, from its first operand on -/
theorem X_all {T : Int → Int} {L o : Int} {h0 : HH} (X : XTX T L o h0) {ro : Int → RZ} {roX : HH → Int → Int → Option (Int × HH)} {d : Int} (HS : OneS L ro) (HX : OneX T L o h0 roX d ro) {nd wr x3 : Int} (kk : HH → Option (Int × HH)) {h : HH} {p : Int} {E : List (Int × Option Int)} (hp : 0 ≤ p ∧ p ≤ L) (F : RXF o h0 h p) (R : RXE o h E nd wr) (hE : E.length ≤ p) : ∃ h', RXF o h0 h' (sAll T ro p).2.1 ∧ ((sAll T ro p).1 = true → xd_readAny_L24 roX o d x3 kk FU h 0 = kk h' ∧ RXE o h' (E ++ mapC (sAll T ro p).2.2) nd wr) ∧ ((sAll T ro p).1 = false → xd_readAny_L24 roX o d x3 kk FU h 0 = some (0, h')) := by
  have L1 := X.1.1
  rw [show FU = 19999 + 1 from rfl, xd_readAny_L24, if_pos (by decide), if_pos (by decide)]
  obtain ⟨h1, e1, F1, g1⟩ := HX h p nd wr E hp F R hE
  rw [e1, Option.bind_some]
  unfold sAll
  by_cases c2 : (ro p).1 = true
  · obtain ⟨s1, s2⟩ := HS p hp.1 hp.2 c2
    rw [if_pos c2, if_pos c2, if_neg (show ¬ ww (1 : Int) = 0 by decide), if_neg (by decide)]
    exact X_and X HS HX kk 99 19999 h1 (0 + 1) p (ro p).2.1 (ro p).2.2 E rfl (by omega) (by decide) (by omega) s2 hE F1 (g1 c2)
  · rw [if_neg c2, if_neg c2, if_pos (show ww (0 : Int) = 0 by decide)]
    exact ⟨h1, F1, fun z => by simp at z, fun _ => rfl⟩
theorem X_or {T : Int → Int} {L o : Int} {h0 : HH} (X : XTX T L o h0) {ro : Int → RZ} {roX : HH → Int → Int → Option (Int × HH)} {d : Int} (HS : OneS L ro) (HX : OneX T L o h0 roX d ro) {nd wr : Int} : ∀ (m n : Nat) (h : HH) (x p0 p : Int) (c : List Int) (E : List (Int × Option Int)), x + m = 100 → 1 ≤ x → m < n → (0 ≤ p0 ∧ p0 ≤ p ∧ p ≤ L) → GZ c p0 p → E.length ≤ p0 → RXF o h0 h p → RXE o h (E ++ mapC c) nd wr → ∃ h', xd_readAny_L2 roX o d n h x = some (if (sOr T ro m p c).1 = true then 1 else 0, h') ∧ RXF o h0 h' (sOr T ro m p c).2.1 ∧ ((sOr T ro m p c).1 = true → RXE o h' (E ++ mapC (sOr T ro m p c).2.2) nd wr) := by
  have L1 := X.1.1
  intro m
  induction m with
  | zero =>
    intro n h x p0 p c E hx x1 hn hp hg hE F R
    obtain ⟨n, rfl⟩ : ∃ k, n = k + 1 := ⟨n - 1, by omega⟩
    rw [xd_readAny_L2, if_neg (by rw [wwP (by omega)]; omega), sOr]
    exact ⟨h, rfl, F, fun _ => R⟩
  | succ m im =>
    intro n h x p0 p c E hx x1 hn hp hg hE F R
    obtain ⟨n, rfl⟩ : ∃ k, n = k + 1 := ⟨n - 1, by omega⟩
    have tk := X_take X F (by omega) (c := 124) (by omega)
    rw [xd_readAny_L2, if_pos (by rw [wwP (by omega)]; omega), if_neg (by rw [wwP (by omega)]; omega), tk, Option.bind_some, sOr]
    by_cases c1 : T p = 124
    · have pL := lt_L X.1 (p := p) (by omega)
      rw [if_pos c1, if_pos c1, if_pos c1, if_neg (show ¬ ww (1 : Int) = 0 by decide)]
      have R1 : RXE o (u2 h 148 2 (p + 1)) (E ++ mapC c) nd wr := R.cg fun a b _ _ => u2N (by have := X.2.2.2; omega)
      have ln : (E ++ mapC c).length ≤ p := by
        have := hg.1
        rw [List.length_append, mapC_len]
        omega
      obtain ⟨h1, F1, g1, g2⟩ := X_all X HS HX (nd := nd) (wr := wr) (x3 := x) (fun h9 => if 0 < ww x then ((xo_append h9 o (-3) 0).bind fun q10 => xd_readAny_L2 roX o d n q10 (x + 1)) else (xd_readAny_L2 roX o d n h9 (x + 1))) (h := u2 h 148 2 (p + 1)) (p := p + 1) (E := E ++ mapC c) (by omega) F.adv R1 (by omega)
      by_cases c2 : (sAll T ro (p + 1)).1 = true
      · obtain ⟨e1, R2⟩ := g1 c2
        obtain ⟨s1, s2⟩ := all_S X.1 HS (p + 1) (by omega) (by omega) c2
        dsimp only
        rw [e1, if_pos c2, if_pos (by rw [wwP (by omega)]; omega)]
        have ln2 : (E ++ mapC c ++ mapC (sAll T ro (p + 1)).2.2).length < 100 := by
          have := s2.1
          rw [List.length_append, mapC_len]
          omega
        obtain ⟨h2, e2, F2, R3, -⟩ := X_app (s := -3) (n := 0) X.2.2.2 F1 R2 ln2 none (fun w z => by simp at z)
        rw [e2, Option.bind_some]
        have em : E ++ mapC c ++ mapC (sAll T ro (p + 1)).2.2 ++ [(-3, none)] = E ++ mapC (c ++ (sAll T ro (p + 1)).2.2 ++ [-124]) := by
          rw [mapC_app, mapC_app]
          show _ = E ++ (mapC c ++ mapC (sAll T ro (p + 1)).2.2 ++ [(-3, none)])
          simp only [List.append_assoc]
        rw [em] at R3
        exact im n h2 (x + 1) p0 _ _ E (by omega) (by omega) (by omega) (by omega) (GZ_op hg s2 (.inr rfl)) hE F2 R3
      · dsimp only
        rw [if_neg c2, g2 (by simpa using c2)]
        exact ⟨h1, rfl, F1, fun z => by simp at z⟩
    · rw [if_neg c1, if_neg c1, if_neg c1, if_pos (show ww (0 : Int) = 0 by decide)]
      exact ⟨h, rfl, F, fun _ => R⟩
theorem X_any {T : Int → Int} {L o : Int} {h0 : HH} (X : XTX T L o h0) {ro : Int → RZ} {roX : HH → Int → Int → Option (Int × HH)} {d : Int} (HS : OneS L ro) (HX : OneX T L o h0 roX d ro) : OneX T L o h0 (fun h a b => xd_readAny roX h a b) d (sAny T ro) := by
  intro h p nd wr E hp F R hE
  have L1 := X.1.1
  show ∃ h', xd_readAny_L2 roX o d FU h 0 = _ ∧ _
  rw [show FU = 19999 + 1 from rfl, xd_readAny_L2, if_pos (by decide), if_pos (by decide)]
  obtain ⟨h1, F1, g1, g2⟩ := X_all X HS HX (nd := nd) (wr := wr) (x3 := 0) (fun h6 => if 0 < ww 0 then ((xo_append h6 o (-3) 0).bind fun q7 => xd_readAny_L2 roX o d 19999 q7 (0 + 1)) else (xd_readAny_L2 roX o d 19999 h6 (0 + 1))) hp F R hE
  unfold sAny
  by_cases c2 : (sAll T ro p).1 = true
  · obtain ⟨e1, R2⟩ := g1 c2
    obtain ⟨s1, s2⟩ := all_S X.1 HS p hp.1 hp.2 c2
    rw [e1, if_pos c2, if_neg (by decide)]
    exact X_or X HS HX 99 19999 h1 (0 + 1) p _ _ E rfl (by omega) (by decide) (by omega) s2 hE F1 R2
  · rw [if_neg c2, g2 (by simpa using c2)]
    exact ⟨h1, rfl, F1, fun z => by simp at z⟩
theorem X_one {T : Int → Int} {L o : Int} {h0 : HH} (X : XTX T L o h0) : ∀ (n : Nat) (w : Int), n + w = 6 → 0 ≤ w → w ≤ 4 → OneX T L o h0 (xd_readOne n) w (sOne T n w)
  | 0, w, e, w0, w4 => by omega
  | n + 1, w, e, w0, w4 => by
    intro h p nd wr E hp F R hE
    have L1 := X.1.1
    have ob := X.2.2.2
    show ∃ h', xd_readOneF (xd_readOne n) h o w = _ ∧ _
    have tst : ∀ h', h' = h → ∃ h2, ((xd_readTest h' o).bind fun q3 => ckb q3.1 <| some (q3.1, q3.2)) = some (if (rdT T p).1 = true then 1 else 0, h2) ∧ RXF o h0 h2 (rdT T p).2.1 ∧ ((rdT T p).1 = true → RXE o h2 (E ++ mapC (rdT T p).2.2) nd wr) := fun h' eh => by
      rw [eh]
      obtain ⟨h2, e2, F2, R2⟩ := X_test X F hp R hE
      refine ⟨h2, ?_, F2, R2⟩
      rw [e2, Option.bind_some]
      exact ckbP (by dsimp only; split <;> simp)
    unfold xd_readOneF
    rw [sOne]
    by_cases c : w < 4
    · have ih := X_one X n (w + 1) (by omega) (by omega) (by omega)
      have ihS := one_S X.1 n (w + 1)
      have tk := X_take X F hp (c := 33) (by omega)
      rw [if_pos (by rw [wwP (by omega)]; exact c), if_pos c, tk, Option.bind_some]
      by_cases c1 : T p = 33
      · have pL := lt_L X.1 (p := p) (by omega)
        rw [if_pos c1, if_pos c1, if_pos c1, if_neg (show ¬ ww (1 : Int) = 0 by decide)]
        have R1 : RXE o (u2 h 148 2 (p + 1)) E nd wr := R.cg fun a b _ _ => u2N (by omega)
        obtain ⟨h1, e1, F1, g1⟩ := ih (u2 h 148 2 (p + 1)) (p + 1) nd wr E (by omega) F.adv R1 (by omega)
        dsimp only
        rw [e1, Option.bind_some]
        by_cases c2 : (sOne T n (w + 1) (p + 1)).1 = true
        · obtain ⟨s1, s2⟩ := ihS (p + 1) (by omega) (by omega) c2
          rw [if_pos c2, if_pos c2, if_neg (show ¬ ww (1 : Int) = 0 by decide)]
          have ln2 : (E ++ mapC (sOne T n (w + 1) (p + 1)).2.2).length < 100 := by
            have := s2.1
            rw [List.length_append, mapC_len]
            omega
          obtain ⟨h2, e2, F2, R3, -⟩ := X_app (s := -1) (n := 0) ob F1 (g1 c2) ln2 none (fun w z => by simp at z)
          dsimp only
          rw [e2, Option.bind_some]
          refine ⟨h2, rfl, F2, fun _ => ?_⟩
          have em : E ++ mapC (sOne T n (w + 1) (p + 1)).2.2 ++ [(-1, none)] = E ++ mapC ((sOne T n (w + 1) (p + 1)).2.2 ++ [-33]) := by
            rw [mapC_app]
            show _ = E ++ (mapC (sOne T n (w + 1) (p + 1)).2.2 ++ [(-1, none)])
            simp only [List.append_assoc]
          rw [em] at R3
          exact R3
        · rw [if_neg c2, if_neg c2, if_pos (show ww (0 : Int) = 0 by decide)]
          exact ⟨h1, rfl, F1, fun z => by simp at z⟩
      · rw [if_neg c1, if_neg c1, if_neg c1, if_pos (show ww (0 : Int) = 0 by decide), if_pos (by rw [wwP (by omega)]; exact c)]
        have tk2 := X_take X F hp (c := 40) (by omega)
        dsimp only
        rw [tk2, Option.bind_some]
        by_cases c2 : T p = 40
        · have pL := lt_L X.1 (p := p) (by omega)
          rw [if_pos c2, if_pos c2, if_pos c2, if_neg (show ¬ ww (1 : Int) = 0 by decide)]
          have R1 : RXE o (u2 h 148 2 (p + 1)) E nd wr := R.cg fun a b _ _ => u2N (by omega)
          obtain ⟨h1, e1, F1, g1⟩ := X_any X ihS ih (u2 h 148 2 (p + 1)) (p + 1) nd wr E (by omega) F.adv R1 (by omega)
          have e1 : xd_readAny (xd_readOne n) (u2 h 148 2 (p + 1)) o (w + 1) = _ := e1
          dsimp only
          rw [e1, Option.bind_some]
          by_cases c3 : (sAny T (sOne T n (w + 1)) (p + 1)).1 = true
          · obtain ⟨s1, s2⟩ := any_S X.1 ihS (p + 1) (by omega) (by omega) c3
            have tk3 := X_take X F1 (by omega) (c := 41) (by omega)
            rw [if_pos c3, if_pos c3, if_neg (show ¬ ww (1 : Int) = 0 by decide)]
            dsimp only
            rw [tk3, Option.bind_some]
            by_cases c4 : T (sAny T (sOne T n (w + 1)) (p + 1)).2.1 = 41
            · rw [if_pos c4, if_pos c4, if_pos c4, if_neg (show ¬ ww (1 : Int) = 0 by decide)]
              exact ⟨_, rfl, F1.adv, fun _ => (g1 c3).cg fun a b _ _ => u2N (by omega)⟩
            · rw [if_neg c4, if_neg c4, if_neg c4, if_pos (show ww (0 : Int) = 0 by decide)]
              exact ⟨_, rfl, F1, fun z => by simp at z⟩
          · rw [if_neg c3, if_neg c3, if_pos (show ww (0 : Int) = 0 by decide)]
            exact ⟨h1, rfl, F1, fun z => by simp at z⟩
        · rw [if_neg c2, if_neg c2, if_neg c2, if_pos (show ww (0 : Int) = 0 by decide)]
          exact tst h rfl
    · rw [if_neg (by rw [wwP (by omega)]; exact c), if_neg (by rw [wwP (by omega)]; exact c), if_neg c]
      exact tst h rfl
