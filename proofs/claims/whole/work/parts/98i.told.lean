theorem stB_cg {fr fr' : Int → Bool} {v v' : Int → Int} : ∀ (d : Nat) (p x : Int), (∀ q, p ≤ q → q < p + d → fr q = fr' q ∧ (fr q = true → v q = v' q)) → stB fr v d p x = stB fr' v' d p x
  | 0, _, _, _ => rfl
  | d + 1, p, x, h => by
    obtain ⟨h1, h2⟩ := h p (by omega) (by omega)
    rw [stB, stB, ← h1]
    by_cases c : fr p = true
    · rw [if_pos c, if_pos c, h2 c]
      exact stB_cg d (p + 1) _ (fun q a b => h q (by omega) (by omega))
    · rw [if_neg c, if_neg c]
      exact stB_cg d (p + 1) _ (fun q a b => h q (by omega) (by omega))
theorem BB_cg {ok ok' : Int → Bool} {W W' : Int → Int → Int} (h : ∀ p, 0 ≤ p → p < 6 → ok p = ok' p ∧ (ok p = true → ∀ t, 0 ≤ t → t < 5 → W p t = W' p t)) : ∀ (d : Nat) (u : Int), d ≤ 5 → BB ok W d u = BB ok' W' d u
  | 0, _, _ => rfl
  | d + 1, u, hd => by
    rw [BB, BB, BB_cg h d u (by omega)]
    refine stB_cg 6 0 _ (fun q a b => ?_)
    obtain ⟨h1, h2⟩ := h q a (by omega)
    refine ⟨by rw [frB, frB, h1], fun z => ?_⟩
    rw [frB, Bool.and_eq_true] at z
    show W q (4 - d) + _ = W' q (4 - d) + _
    rw [h2 z.1 _ (by omega) (by omega), BB_cg h d _ (by omega)]
def okX (A : HH) (p q : Int) : Bool := okA A q && decide (q ≠ p)
/-- how many bear at the best without p -/
def cW (A : HH) (O : Int → List CL) (p : Int) : Int := BB (okX A p) (WA A O) 5 0 / 1000000
theorem WB_X {A : HH} {O : Int → List CL} {p : Int} (h : WB (okA A) (WA A O)) : WB (okX A p) (WA A O) := fun q t a b c d e => by
  rw [okX, Bool.and_eq_true] at c
  exact h q t a b c.1 d e
theorem cW_b {A : HH} {O : Int → List CL} {p : Int} (h : WB (okA A) (WA A O)) : 0 ≤ cW A O p ∧ cW A O p ≤ 5 := by
  have := BB_b (WB_X (p := p) h) 5 0 (by omega)
  unfold cW
  omega
/-- whom one can least do without, from p on -/
def wst (A : HH) (O : Int → List CL) : Nat → Int → Int → Int → Int × Int
  | 0, _, w, l => (w, l)
  | d + 1, p, w, l => if m_has (A 193 1) p = 0 then (if w < 0 ∨ cW A O p < l then wst A O d (p + 1) p (cW A O p) else wst A O d (p + 1) w l) else wst A O d (p + 1) w l
theorem mask_WO {A : HH} {Y N v : Int} (W : WO Y N A) (hv : 0 ≤ v ∧ v < 64) : WO Y N (u2 A 193 1 v) := by
  obtain ⟨h1, h2, h3, h4, h5, h6, h7, h8, h9, h10, h11⟩ := W
  exact ⟨by simp (disch := omega) only [u2S, u2N, u2T]; exact h1, by simp (disch := omega) only [u2S, u2N, u2T]; exact h2, by simp (disch := omega) only [u2S, u2N, u2T]; exact hv, by simp (disch := omega) only [u2S, u2N, u2T]; exact h4, fun p => by simp (disch := omega) only [u2S, u2N, u2T]; exact h5 p, fun p => by simp (disch := omega) only [u2S, u2N, u2T]; exact h6 p, fun p t => by simp (disch := omega) only [u2S, u2N, u2T]; exact h7 p t, fun p i => by simp (disch := omega) only [u2S, u2N, u2T]; exact h8 p i, fun t => by simp (disch := omega) only [u2S, u2N, u2T]; exact h9 t, fun t => by simp (disch := omega) only [u2S, u2N, u2T]; exact h10 t, fun t u => by simp (disch := omega) only [u2S, u2N, u2T]; exact h11 t u⟩
theorem mask_OM {A : HH} {O : Int → List CL} {v : Int} (hO : OM A O) : OM (u2 A 193 1 v) O := hO.cg (u2N (by omega)) (fun c i q => u2N (by unfold orchC at q; omega))
theorem mask_BB {A : HH} {O : Int → List CL} {p : Int} (hG : 0 ≤ A 193 1 ∧ A 193 1 < 64) (hp : 0 ≤ p ∧ p < 6) : BB (okA (u2 A 193 1 (zor (A 193 1) (zshl 1 p)))) (WA (u2 A 193 1 (zor (A 193 1) (zshl 1 p))) O) 5 0 = BB (okX A p) (WA A O) 5 0 := by
  refine BB_cg (fun q q0 q6 => ?_) 5 0 (by omega)
  have e0 : u2 A 193 1 (zor (A 193 1) (zshl 1 p)) 193 0 = A 193 0 := u2N (by omega)
  have hs := has_set hG hp (q := q) (by omega)
  constructor
  · rw [okA, okX, okA, e0, u2S, hs]
    by_cases c : q = p
    · rw [if_pos c, decide_eq_false (p := q ≠ p) (fun z => z c)]
      simp
    · rw [if_neg c, decide_eq_true (p := q ≠ p) c, Bool.and_true]
  · intro z t t0 t5
    rw [okA, e0, u2S, hs, Bool.and_eq_true, decide_eq_true_eq, decide_eq_true_eq] at z
    by_cases c : q = p
    · rw [if_pos c] at z
      omega
    · rw [if_neg c] at z hs
      have ef : forceA (u2 A 193 1 (zor (A 193 1) (zshl 1 p))) O q t = forceA A O q t := forceA_cg (u2N (by omega)) (u2N (by omega)) (u2N (by omega)) (u2N (by omega)) (u2N (by omega)) (fun j => u2N (by omega))
      have en : needA (u2 A 193 1 (zor (A 193 1) (zshl 1 p))) O = needA A O := needA_cg (u2N (by omega))
      unfold WA bearA
      rw [ef, en, u2S, hs]
theorem M_worst_L {k A : HH} {O : Int → List CL} {Y N what : Int} (hO : OM A O) (W : WO Y N A) (hY : Y ≤ 20000) (hwhat : what = 0 ∨ what = 1) (R : Int × Int) : ∀ (d n : Nat) (h B : HH) (w l p : Int), wst A O d p w l = R → p + d = A 193 0 → 0 ≤ p → d < n → (-5 ≤ w ∧ w < 6) ∧ (-5 ≤ l ∧ l ≤ 5) → MR k h B → dB B A → ∃ h' B', m_worst_L15 what (A 193 1) n h w l p = some (if what = 0 then R.2 else R.1, h') ∧ MR k h' B' ∧ dB B' A := by
  have n0 := W.1
  have hG := W.2.2.1
  have hWB := WA_B hO W
  intro d
  induction d with
  | zero =>
    intro n h B w l p hR e p0 hn hb H D
    obtain ⟨n, rfl⟩ : ∃ m, n = m + 1 := ⟨n - 1, by omega⟩
    have n1 : h 193 0 = A 193 0 := by rw [H.s0, D _ _ (by omega)]
    rw [wst] at hR
    rw [m_worst_L15, n1, if_neg (by rw [wwP (by omega), wwP (by omega)]; omega), ← hR]
    refine ⟨h, B, ?_, H, D⟩
    rcases hwhat with rfl | rfl
    · rw [if_pos (by decide), if_pos rfl]
    · rw [if_neg (by decide), if_neg (by decide)]
  | succ d ih =>
    intro n h B w l p hR e p0 hn hb H D
    obtain ⟨n, rfl⟩ : ∃ m, n = m + 1 := ⟨n - 1, by omega⟩
    have n1 : h 193 0 = A 193 0 := by rw [H.s0, D _ _ (by omega)]
    have g1 : h 193 1 = A 193 1 := by rw [H.s1, D _ _ (by omega)]
    rw [wst] at hR
    rw [m_worst_L15, n1, if_pos (by rw [wwP (by omega), wwP (by omega)]; omega)]
    rcases @has_01 (A 193 1) p with z | z
    · rw [if_pos z] at hR
      rw [if_pos (by rw [ww_has, z])]
      have hv := set_b hG (p := p) (by omega)
      have eg : m_goes h p 1 = some (u2 h 193 1 (zor (A 193 1) (zshl 1 p))) := by
        unfold m_goes
        rw [if_neg (by decide), g1]
      have D1 : dB (u2 B 193 1 (zor (A 193 1) (zshl 1 p))) (u2 A 193 1 (zor (A 193 1) (zshl 1 p))) := fun c j y => by
        unfold u2
        by_cases y2 : c = 193 ∧ j = 1
        · rw [if_pos y2, if_pos y2]
        · rw [if_neg y2, if_neg y2]; exact D c j y
      have H1 : MR k (u2 h 193 1 (zor (A 193 1) (zshl 1 p))) (u2 B 193 1 (zor (A 193 1) (zshl 1 p))) := H.w (by omega)
      have Wm : WO Y N (u2 B 193 1 (zor (A 193 1) (zshl 1 p))) := (mask_WO W hv).cg D1.core
      have Om : OM (u2 B 193 1 (zor (A 193 1) (zshl 1 p))) O := D1.om (mask_OM hO)
      obtain ⟨h2, B2, e2, H2, D2, b1, b2, b3, -⟩ := M_layBest Om Wm hY H1
      have eB : BB (okA (u2 B 193 1 (zor (A 193 1) (zshl 1 p)))) (WA (u2 B 193 1 (zor (A 193 1) (zshl 1 p))) O) 5 0 = BB (okX A p) (WA A O) 5 0 := by
        rw [← mask_BB hG (by omega)]
        refine BB_cg (fun q q0 q6 => ⟨?_, fun _ t _ _ => ?_⟩) 5 0 (by omega)
        · unfold okA
          rw [D1 193 0 (by omega), D1 193 1 (by omega)]
        · unfold WA
          rw [D1.agr.bear, D1.force]
      rw [eB] at b1
      have ec : B2 193 36 = cW A O p := by unfold cW; omega
      have cb := cW_b (p := p) hWB
      have D3 : dB (u2 B2 193 1 (A 193 1)) A := fun c j y => by
        unfold u2
        by_cases y2 : c = 193 ∧ j = 1
        · rw [if_pos y2, y2.1, y2.2]
        · rw [if_neg y2, D2 c j y, u2N (by omega)]
          exact D c j y
      have H3 : MR k (u2 h2 193 1 (A 193 1)) (u2 B2 193 1 (A 193 1)) := H2.w (by omega)
      have r36 : u2 h2 193 1 (A 193 1) 193 36 = cW A O p := by rw [u2N (by omega), H2.s36, ec]
      rw [eg, Option.bind_some, e2, Option.bind_some, r36]
      by_cases c1 : w < 0
      · rw [if_pos (Or.inl c1)] at hR
        rw [if_pos (by rw [wwP (by omega)]; exact c1)]
        exact ih n _ _ p (cW A O p) (p + 1) hR (by omega) (by omega) (by omega) (by omega) H3 D3
      · rw [if_neg (by rw [wwP (by omega)]; exact c1)]
        by_cases c2 : cW A O p < l
        · rw [if_pos (Or.inr c2)] at hR
          rw [if_pos (by rw [wwP (by omega), wwP (by omega)]; exact c2)]
          exact ih n _ _ p (cW A O p) (p + 1) hR (by omega) (by omega) (by omega) (by omega) H3 D3
        · rw [if_neg (show ¬ (w < 0 ∨ cW A O p < l) by omega)] at hR
          rw [if_neg (by rw [wwP (by omega), wwP (by omega)]; exact c2)]
          exact ih n _ _ w l (p + 1) hR (by omega) (by omega) (by omega) hb H3 D3
    · rw [if_neg (by omega)] at hR
      rw [if_neg (by rw [ww_has, z]; decide)]
      exact ih n h B w l (p + 1) hR (by omega) (by omega) (by omega) hb H D
theorem X_without {S : SS} {h0 h A : HH} {O : Int → List CL} {Y N p P : Int} (hO : OM A O) (W : WO Y N A) (C : XC S h 1 A) (f : dpF h h0) (w : ∀ q u, 0 ≤ q → 0 ≤ u → u < 5 → q < A 193 0 → h (153 + q) u = WA A O q u) (hz : ∀ j, 0 ≤ j → j < 64 → h 165 j = 0) (hp : 0 ≤ p ∧ p < A 193 0) (e2 : xw_present h 1 = some P) (hP : 0 ≤ P ∧ P < 64) (hok : ∀ q, 0 ≤ q → q < 6 → (okA A q = true ↔ m_has P q = 1)) : ∃ h', x_bearingWithout h p = some (cW A O p, h') ∧ ∀ c j, ¬ (160 ≤ c ∧ c ≤ 164) → h' c j = h c j := by
  have n0 := W.1
  have hWB := WA_B hO W
  have n1 : h 1 4 = A 193 0 := C.1.2.2
  have hk : ∀ q, 0 ≤ q → q < 6 → (okX A p q = true ↔ m_has (zand P (zxor (zshl 1 p) (-1))) q = 1) := fun q q0 q6 => by
    rw [has_clr hP (by omega) ⟨q0, q6⟩, okX, Bool.and_eq_true, decide_eq_true_eq, hok q q0 q6]
    by_cases c : q = p
    · rw [if_pos c]
      exact ⟨fun y => absurd c y.2, fun y => by omega⟩
    · rw [if_neg c]
      exact ⟨fun y => y.1, fun y => ⟨y, c⟩⟩
  obtain ⟨h2, e3, f2, -⟩ := X_fill (g := h) (clr_b hP (by omega)) hk (WB_X hWB) (fun q t q0 q6 ok t0 t5 => by
    rw [okX, Bool.and_eq_true, okA, Bool.and_eq_true, decide_eq_true_eq] at ok
    exact w q t q0 t0 t5 ok.1.1) hz
  have bb := BB_b (WB_X (p := p) hWB) 5 0 (by omega)
  refine ⟨h2, ?_, f2⟩
  unfold x_bearingWithout
  rw [if_neg (by rw [ww_hasT (by omega)]; decide), e2, Option.bind_some, e3, Option.bind_some]
  show some (zdiv (BB (okX A p) (WA A O) 5 0) 1000000, h2) = _
  rw [zdivP (by omega)]
  rfl
theorem X_worst_L {S : SS} {h0 A : HH} {O : Int → List CL} {Y N : Int} (hO : OM A O) (W : WO Y N A) (C0 : XC S h0 1 A) (hz0 : ∀ j, 0 ≤ j → j < 64 → h0 165 j = 0) (R : Int × Int) : ∀ (d n : Nat) (h : HH) (w l l' p : Int), wst A O d p w l = R → p + d = A 193 0 → 0 ≤ p → d < n → (-5 ≤ w ∧ w < 6) ∧ (-5 ≤ l ∧ l ≤ 5) → (w < 0 → w = -5 ∧ l = -5 ∧ l' = 6) → (0 ≤ w → l' = l ∧ w < A 193 0 ∧ l = cW A O w) → dpF h h0 → (∀ q u, 0 ≤ q → 0 ≤ u → u < 5 → q < A 193 0 → h (153 + q) u = WA A O q u) → ∃ h', x_worst_L12 S n h w l' p = some (R.1, h') ∧ dpF h' h0 ∧ (∀ q u, 0 ≤ q → 0 ≤ u → u < 5 → q < A 193 0 → h' (153 + q) u = WA A O q u) ∧ ((R.1 = -5 ∧ R.2 = -5) ∨ (0 ≤ R.1 ∧ R.1 < A 193 0 ∧ R.2 = cW A O R.1)) := by
  have n0 := W.1
  have hG := W.2.2.1
  have hWB := WA_B hO W
  intro d
  induction d with
  | zero =>
    intro n h w l l' p hR e p0 hn hb a1 a2 f wt
    obtain ⟨n, rfl⟩ : ∃ m, n = m + 1 := ⟨n - 1, by omega⟩
    have n1 : h 1 4 = A 193 0 := by rw [f _ _ (by omega)]; exact C0.1.2.2
    rw [wst] at hR
    rw [x_worst_L12, n1, if_neg (by rw [wwP (by omega), wwP (by omega)]; omega), ← hR]
    refine ⟨h, rfl, f, wt, ?_⟩
    by_cases c : w < 0
    · exact .inl ⟨(a1 c).1, (a1 c).2.1⟩
    · exact .inr ⟨by show 0 ≤ w; omega, (a2 (by omega)).2.1, (a2 (by omega)).2.2⟩
  | succ d ih =>
    intro n h w l l' p hR e p0 hn hb a1 a2 f wt
    obtain ⟨n, rfl⟩ : ∃ m, n = m + 1 := ⟨n - 1, by omega⟩
    have C : XC S h 1 A := C0.cg (fun c j q => f c j (by rcases q with q | q; omega; have := isHb_ge q; omega)) (fun _ _ _ => rfl)
    have n1 : h 1 4 = A 193 0 := C.1.2.2
    have g3 : h 3 p = m_has (A 193 1) p := C.2.2.2.2.2.1 p p0 (by omega)
    have l6 : -5 ≤ l' ∧ l' ≤ 6 := by
      by_cases c : w < 0
      · have := a1 c; omega
      · have := a2 (by omega); omega
    rw [wst] at hR
    rw [x_worst_L12, n1, if_pos (by rw [wwP (by omega), wwP (by omega)]; omega), wwP (z := p) (by omega), ckP (by omega)]
    rcases @has_01 (A 193 1) p with z | z
    · rw [if_pos z] at hR
      rw [if_pos (by rw [g3, ww_has, z])]
      obtain ⟨P, e2, hP, hok⟩ := X_present C
      obtain ⟨h2, e3, f3⟩ := X_without hO W C f wt (fun j a b => by rw [f _ _ (by omega)]; exact hz0 j a b) ⟨p0, by omega⟩ e2 hP hok
      have cb := cW_b (p := p) hWB
      have f4 : dpF h2 h0 := fun c j q => by rw [f3 c j (by omega)]; exact f c j q
      have wt2 : ∀ q u, 0 ≤ q → 0 ≤ u → u < 5 → q < A 193 0 → h2 (153 + q) u = WA A O q u := fun q u a b c d => by rw [f3 _ _ (by omega)]; exact wt q u a b c d
      rw [e3, Option.bind_some]
      dsimp only
      by_cases c2 : cW A O p < l'
      · rw [if_pos (by omega : w < 0 ∨ cW A O p < l)] at hR
        rw [if_pos (by rw [wwP (by omega), wwP (by omega)]; exact c2)]
        exact ih n h2 p (cW A O p) (cW A O p) (p + 1) hR (by omega) (by omega) (by omega) (by omega) (fun y => by omega) (fun _ => ⟨rfl, by omega, rfl⟩) f4 wt2
      · rw [if_neg (by omega : ¬ (w < 0 ∨ cW A O p < l))] at hR
        rw [if_neg (by rw [wwP (by omega), wwP (by omega)]; exact c2)]
        exact ih n h2 w l l' (p + 1) hR (by omega) (by omega) (by omega) hb a1 a2 f4 wt2
    · rw [if_neg (by omega)] at hR
      rw [if_neg (by rw [g3, ww_has, z]; decide), if_neg (by rw [wwP (by omega)]; omega)]
      exact ih n h w l l' (p + 1) hR (by omega) (by omega) (by omega) hb a1 a2 f wt
theorem zdiv10 {a : Int} (h : -2147483648 ≤ a ∧ a < 0) : zdiv a 10 ≤ 0 ∧ -2147483648 ≤ zdiv a 10 := by
  rw [zdivM (by omega)]
  omega
theorem X_told_else {h : HH} {a : Int} (ha : -2147483648 ≤ a ∧ a ≤ 2147483647) (n : ¬ (0 ≤ a ∧ a ≤ 6) ∧ ¬ (10 ≤ a ∧ a ≤ 14) ∧ ¬ (20 ≤ a ∧ a ≤ 24)) : x_toldOfTree h (zdiv a 10) (zrem a 10) = some (-1) := by
  unfold x_toldOfTree
  by_cases t : ww (x_isTree (zrem a 10)) = 0
  · rw [if_pos t]
  · rw [if_neg t]
    by_cases s : a < 0
    · have d := zdiv10 ⟨ha.1, s⟩
      rw [if_neg (by rw [wwP (by omega)]; omega), if_neg (by rw [wwP (by omega)]; omega)]
    · have e1 : zdiv a 10 = a / 10 := zdivP (by omega)
      have e2 : zrem a 10 = a % 10 := zremP (by omega)
      have t2 : a % 10 < 5 := by
        by_cases c : a % 10 < 5
        · exact c
        · refine absurd ?_ t
          rw [e2, ww_treeF (by omega)]
      rw [e1, if_neg (by rw [wwP (by omega)]; omega), if_neg (by rw [wwP (by omega)]; omega)]
theorem st_told {S : SS} {h : HH} {a : Int} (F : Fx S) (I : Inv h S) (ha : -2147483648 ≤ a ∧ a ≤ 2147483647) : ∃ r, ((x_told S h a).bind fun q => (m_told q.2 a).bind fun q1 => if ww q.1 = ww q1.1 then some (q1.2, S) else none) = some r ∧ Fx r.2 ∧ Inv r.1 r.2 := by
  obtain ⟨A, O, hA, hX, hM⟩ := I
  have W := hA.2.2.1
  have n0 := W.1
  have hO := hX.OM W
  have C := hX.2.1
  have hOX := hX.OX W
  have key : ∀ v, x_told S h a = some (v, h) → (∀ k g, MR k g A → m_told g a = some (v, g)) → ∃ r, ((x_told S h a).bind fun q => (m_told q.2 a).bind fun q1 => if ww q.1 = ww q1.1 then some (q1.2, S) else none) = some r ∧ Fx r.2 ∧ Inv r.1 r.2 := fun v e1 e2 => by
    rw [e1]
    exact glueW (m := fun g => m_told g a) (a := v) (b := v) F hA hX hM (fun k g H => ⟨g, e2 k g H, H⟩) rfl
  have worst : ∀ what : Int, (what = 0 ∨ what = 1) → ∃ (h1 : HH) (R : Int × Int), x_worst S h = some (R.1, h1) ∧ dpF h1 h ∧ (∀ q u, 0 ≤ q → 0 ≤ u → u < 5 → q < A 193 0 → h1 (153 + q) u = WA A O q u) ∧ ((R.1 = -5 ∧ R.2 = -5) ∨ (0 ≤ R.1 ∧ R.1 < A 193 0 ∧ R.2 = cW A O R.1)) ∧ ∀ k g, MR k g A → ∃ g' B, m_worst g what = some (if what = 0 then R.2 else R.1, g') ∧ MR k g' B ∧ ∀ c j, ¬ scC c j → B c j = A c j := fun what hw => by
    obtain ⟨h1, P, e1, f1, w1, e2, hP, hok, C1, z1⟩ := X_ringsetup F.1 hA hX
    have X := X_worst_L (S := S) (h0 := h) hO (W.wo (by omega)) C (fun j a b => hX.2.2.2.1.2.2.2.2.2.2.1 j a b) (wst A O (A 193 0).toNat 0 (-5) (-5)) (A 193 0).toNat FU h1 (-5) (-5) 6 0 rfl (by omega) (by omega) (by unfold FU; omega) (by omega) (fun _ => by omega) (fun y => by omega) f1 w1
    obtain ⟨h2, e3, f3, w3, o3⟩ := X
    refine ⟨h2, wst A O (A 193 0).toNat 0 (-5) (-5), ?_, f3, w3, o3, fun k g H => ?_⟩
    · unfold x_worst
      rw [e1, Option.bind_some]
      exact e3
    · obtain ⟨g', B, e4, H4, D4⟩ := M_worst_L (k := k) hO (W.wo (by omega)) (by omega) hw (wst A O (A 193 0).toNat 0 (-5) (-5)) (A 193 0).toNat FU g A (-5) (-5) 0 rfl (by omega) (by omega) (by unfold FU; omega) (by omega) H (fun _ _ _ => rfl)
      refine ⟨g', B, ?_, H4, fun c j q => D4 c j (by unfold scC at q; omega)⟩
      unfold m_worst
      rw [H.s1]
      exact e4
  have scr : ∀ h1, dpF h1 h → XR S h h1 A O := fun h1 f => hX.scr (fun c j q => f c j (by omega))
  by_cases c0 : a = 0
  · subst c0
    refine key (A 193 2) ?_ (fun k g H => ?_)
    · unfold x_told
      rw [if_pos (by decide)]
      rw [show h 1 7 = A 193 2 from C.2.1]
    · unfold m_told; simp (disch := omega) only [reduceIte, ltT, ltF, eqT, eqF, leT, leF, wwP, ckP, ckzP, ckbP, u2S, u2N, u2T, ↓Option.bind_some, inB_T, inB_F, Bool.false_eq_true, m_in0, m_in1, H.s2]
  by_cases c1 : a = 1
  · subst c1
    refine key (needA A O) ?_ (fun k g H => ?_)
    · have e := X_need C ⟨hO.1, hO.2.1⟩ hOX
      unfold x_told; simp (disch := omega) only [reduceIte, ltT, ltF, eqT, eqF, leT, leF, wwP, ckP, ckzP, ckbP, u2S, u2N, u2T, ↓Option.bind_some, inB_T, inB_F, Bool.false_eq_true, m_in0, m_in1, e]
    · have e := M_need H hO
      unfold m_told; simp (disch := omega) only [reduceIte, ltT, ltF, eqT, eqF, leT, leF, wwP, ckP, ckzP, ckbP, u2S, u2N, u2T, ↓Option.bind_some, inB_T, inB_F, Bool.false_eq_true, m_in0, m_in1, e]
  by_cases c2 : a = 2
  · subst c2
    refine key (wearA A O) ?_ (fun k g H => ?_)
    · have e := X_wear C ⟨hO.1, hO.2.1⟩ hOX
      unfold x_told; simp (disch := omega) only [reduceIte, ltT, ltF, eqT, eqF, leT, leF, wwP, ckP, ckzP, ckbP, u2S, u2N, u2T, ↓Option.bind_some, inB_T, inB_F, Bool.false_eq_true, m_in0, m_in1, e]
    · have e := M_wear H hO
      unfold m_told; simp (disch := omega) only [reduceIte, ltT, ltF, eqT, eqF, leT, leF, wwP, ckP, ckzP, ckbP, u2S, u2N, u2T, ↓Option.bind_some, inB_T, inB_F, Bool.false_eq_true, m_in0, m_in1, e]
  by_cases c3 : a = 3
  · subst c3
    obtain ⟨h1, e1, f1⟩ := X_bset (S := S) (.inl rfl) C (W.wo (by omega)) (by omega) hO hOX
    have ex : x_told S h 3 = some (bsetN A O 5, h1) := by unfold x_told; simp (disch := omega) only [reduceIte, ltT, ltF, eqT, eqF, leT, leF, wwP, ckP, ckzP, ckbP, u2S, u2N, u2T, ↓Option.bind_some, inB_T, inB_F, Bool.false_eq_true, m_in0, m_in1, e1]
    rw [ex]
    refine glueW (m := fun g => m_told g 3) (a := bsetN A O 5) (b := bsetN A O 5) F hA (hX.scr (fun c j q => f1 c j (by omega))) hM (fun k g H => ?_) rfl
    obtain ⟨g', e2, H2⟩ := M_bset H (W.wo (by omega)) (by omega) hO
    refine ⟨g', ?_, H2⟩
    show m_told g 3 = _
    unfold m_told; simp (disch := omega) only [reduceIte, ltT, ltF, eqT, eqF, leT, leF, wwP, ckP, ckzP, ckbP, u2S, u2N, u2T, ↓Option.bind_some, inB_T, inB_F, Bool.false_eq_true, m_in0, m_in1, e2]
  by_cases c4 : a = 4
  · subst c4
    refine key (sumR A 198 5) ?_ (fun k g H => ?_)
    · have e := X_allBore C
      unfold x_told; simp (disch := omega) only [reduceIte, ltT, ltF, eqT, eqF, leT, leF, wwP, ckP, ckzP, ckbP, u2S, u2N, u2T, ↓Option.bind_some, inB_T, inB_F, Bool.false_eq_true, m_in0, m_in1, e]
    · have e := M_allBore H
      unfold m_told; simp (disch := omega) only [reduceIte, ltT, ltF, eqT, eqF, leT, leF, wwP, ckP, ckzP, ckbP, u2S, u2N, u2T, ↓Option.bind_some, inB_T, inB_F, Bool.false_eq_true, m_in0, m_in1, e]
  by_cases c5 : a = 5
  · subst c5
    obtain ⟨h1, R, e1, f1, w1, o1, m1⟩ := worst 1 (.inr rfl)
    have ex : x_told S h 5 = some (R.1, h1) := by unfold x_told; simp (disch := omega) only [reduceIte, ltT, ltF, eqT, eqF, leT, leF, wwP, ckP, ckzP, ckbP, u2S, u2N, u2T, ↓Option.bind_some, inB_T, inB_F, Bool.false_eq_true, m_in0, m_in1, e1]
    rw [ex]
    refine glueS (m := fun g => m_told g 5) (a := R.1) (b := R.1) F hA (scr h1 f1) hM (fun k g H => ?_) rfl
    obtain ⟨g', B, e2, H2, o2⟩ := m1 k g H
    rw [if_neg (by decide)] at e2
    refine ⟨g', B, ?_, H2, o2⟩
    show m_told g 5 = _
    unfold m_told; simp (disch := omega) only [reduceIte, ltT, ltF, eqT, eqF, leT, leF, wwP, ckP, ckzP, ckbP, u2S, u2N, u2T, ↓Option.bind_some, inB_T, inB_F, Bool.false_eq_true, m_in0, m_in1, e2]
  by_cases c6 : a = 6
  · subst c6
    obtain ⟨h1, R, e1, f1, w1, o1, m1⟩ := worst 0 (.inl rfl)
    have C1 : XC S h1 1 A := C.cg (fun c j q => f1 c j (by rcases q with q | q; omega; have := isHb_ge q; omega)) (fun _ _ _ => rfl)
    have n1 : h1 1 4 = A 193 0 := C1.1.2.2
    have wo : ∃ h2, x_bearingWithout h1 R.1 = some (R.2, h2) ∧ dpF h2 h := by
      rcases o1 with ⟨y1, y2⟩ | ⟨y1, y2, y3⟩
      · refine ⟨h1, ?_, f1⟩
        unfold x_bearingWithout
        rw [y1, y2, if_pos (by rw [ww_hasF (by omega)])]
      · obtain ⟨P, e2, hP, hok⟩ := X_present C1
        obtain ⟨h2, e3, f3⟩ := X_without hO (W.wo (by omega)) C1 f1 w1 (fun j a b => by rw [f1 _ _ (by omega)]; exact hX.2.2.2.1.2.2.2.2.2.2.1 j a b) ⟨y1, y2⟩ e2 hP hok
        refine ⟨h2, by rw [y3]; exact e3, fun c j q => by rw [f3 c j (by omega)]; exact f1 c j q⟩
    obtain ⟨h2, e2, f2⟩ := wo
    have ex : x_told S h 6 = some (R.2, h2) := by unfold x_told; simp (disch := omega) only [reduceIte, ltT, ltF, eqT, eqF, leT, leF, wwP, ckP, ckzP, ckbP, u2S, u2N, u2T, ↓Option.bind_some, inB_T, inB_F, Bool.false_eq_true, m_in0, m_in1, e1, e2]
    rw [ex]
    refine glueS (m := fun g => m_told g 6) (a := R.2) (b := R.2) F hA (scr h2 f2) hM (fun k g H => ?_) rfl
    obtain ⟨g', B, e3, H3, o3⟩ := m1 k g H
    rw [if_pos rfl] at e3
    refine ⟨g', B, ?_, H3, o3⟩
    show m_told g 6 = _
    unfold m_told; simp (disch := omega) only [reduceIte, ltT, ltF, eqT, eqF, leT, leF, wwP, ckP, ckzP, ckbP, u2S, u2N, u2T, ↓Option.bind_some, inB_T, inB_F, Bool.false_eq_true, m_in0, m_in1, e3]
  have ex : x_told S h a = (x_toldOfTree h (zdiv a 10) (zrem a 10)).bind fun q8 => some (q8, h) := by unfold x_told; simp (disch := omega) only [reduceIte, ltT, ltF, eqT, eqF, leT, leF, wwP, ckP, ckzP, ckbP, u2S, u2N, u2T, ↓Option.bind_some, inB_T, inB_F, Bool.false_eq_true, m_in0, m_in1]
  by_cases c7 : 10 ≤ a ∧ a ≤ 14
  · have e1 : zdiv a 10 = 1 := by rw [zdivP (by omega)]; omega
    have e2 : zrem a 10 = a - 10 := by rw [zremP (by omega)]; omega
    have r : h 18 (a - 10) = A 198 (a - 10) := C.2.2.2.2.2.2.2.2.1 (a - 10) (by omega) (by omega)
    refine key (A 198 (a - 10)) ?_ (fun k g H => ?_)
    · rw [ex, e1, e2]
      unfold x_toldOfTree; simp (disch := omega) only [reduceIte, ltT, ltF, eqT, eqF, leT, leF, wwP, ckP, ckzP, ckbP, u2S, u2N, u2T, ↓Option.bind_some, inB_T, inB_F, Bool.false_eq_true, m_in0, m_in1, ww_treeT, r]
    · unfold m_told; simp (disch := omega) only [reduceIte, ltT, ltF, eqT, eqF, leT, leF, wwP, ckP, ckzP, ckbP, u2S, u2N, u2T, ↓Option.bind_some, inB_T, inB_F, Bool.false_eq_true, m_in0, m_in1, H.r198]
  by_cases c8 : 20 ≤ a ∧ a ≤ 24
  · have e1 : zdiv a 10 = 2 := by rw [zdivP (by omega)]; omega
    have e2 : zrem a 10 = a - 20 := by rw [zremP (by omega)]; omega
    have r : h 19 (a - 20) = A 199 (a - 20) := C.2.2.2.2.2.2.2.2.2 (a - 20) (by omega) (by omega)
    refine key (A 199 (a - 20)) ?_ (fun k g H => ?_)
    · rw [ex, e1, e2]
      unfold x_toldOfTree; simp (disch := omega) only [reduceIte, ltT, ltF, eqT, eqF, leT, leF, wwP, ckP, ckzP, ckbP, u2S, u2N, u2T, ↓Option.bind_some, inB_T, inB_F, Bool.false_eq_true, m_in0, m_in1, ww_treeT, r]
    · unfold m_told; simp (disch := omega) only [reduceIte, ltT, ltF, eqT, eqF, leT, leF, wwP, ckP, ckzP, ckbP, u2S, u2N, u2T, ↓Option.bind_some, inB_T, inB_F, Bool.false_eq_true, m_in0, m_in1, H.r199]
  refine key (-1) ?_ (fun k g H => ?_)
  · rw [ex, X_told_else ha (by omega)]
    rfl
  · unfold m_told; simp (disch := omega) only [reduceIte, ltT, ltF, eqT, eqF, leT, leF, wwP, ckP, ckzP, ckbP, u2S, u2N, u2T, ↓Option.bind_some, inB_T, inB_F, Bool.false_eq_true, m_in0, m_in1]
