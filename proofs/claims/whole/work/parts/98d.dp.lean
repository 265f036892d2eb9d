def put (u p : Int) : Int := zor u (zshl 1 p)
def frB (ok : Int → Bool) (u p : Int) : Bool := ok p && decide (m_has u p = 0)
/-- the greatest of x and what the free ones from p on are worth -/
def stB (fr : Int → Bool) (v : Int → Int) : Nat → Int → Int → Int
  | 0, _, x => x
  | d + 1, p, x => stB fr v d (p + 1) (if fr p then max x (v p) else x)
/-- the first free one from p on that is worth m, or 6 -/
def fsB (fr : Int → Bool) (v : Int → Int) (m : Int) : Nat → Int → Int
  | 0, _ => 6
  | d + 1, p => if fr p = true ∧ v p = m then p else fsB fr v m d (p + 1)
def BB (ok : Int → Bool) (W : Int → Int → Int) : Nat → Int → Int
  | 0, _ => 0
  | d + 1, u => stB (frB ok u) (fun p => W p (4 - d) + BB ok W d (put u p)) 6 0 (BB ok W d u)
def pw : Nat → Int
  | 0 => 1
  | d + 1 => 7 * pw d
theorem pw_pos : ∀ d, 0 < pw d
  | 0 => by decide
  | d + 1 => by have := pw_pos d; rw [pw]; omega
theorem pw_nat : ∀ d : Nat, ((7 ^ d : Nat) : Int) = pw d
  | 0 => rfl
  | d + 1 => by rw [Nat.pow_succ, pw, ← pw_nat d]; omega
def FI (ok : Int → Bool) (W : Int → Int → Int) : Nat → Int → Int
  | 0, _ => 0
  | d + 1, u => fsB (frB ok u) (fun p => W p (4 - d) + BB ok W d (put u p)) (BB ok W (d + 1) u) 6 0 * pw d + FI ok W d (if fsB (frB ok u) (fun p => W p (4 - d) + BB ok W d (put u p)) (BB ok W (d + 1) u) 6 0 = 6 then u else put u (fsB (frB ok u) (fun p => W p (4 - d) + BB ok W d (put u p)) (BB ok W (d + 1) u) 6 0))
def updK (st : Int × Int) (key idx : Int) : Int × Int := if st.1 < key then (key, idx) else st
def stp (ev : Int → Option Int) (st : Int × Int) (x : Int) : Int × Int := match ev x with | none => st | some k => updK st k x
def FL (ev : Int → Option Int) : Nat → Int → Int × Int → Int × Int
  | 0, _, st => st
  | c + 1, x, st => FL ev c (x + 1) (stp ev st x)
theorem FL_add {ev : Int → Option Int} : ∀ (a b : Nat) (x : Int) (st : Int × Int), FL ev (a + b) x st = FL ev b (x + a) (FL ev a x st)
  | 0, b, x, st => by rw [Nat.zero_add, FL]; congr 1; omega
  | a + 1, b, x, st => by
    rw [show a + 1 + b = (a + b) + 1 by omega, FL, FL_add a b, FL]
    congr 1
    omega
theorem FL_none {ev : Int → Option Int} : ∀ (a : Nat) (x : Int) (st : Int × Int), (∀ o : Int, 0 ≤ o → o < a → ev (x + o) = none) → FL ev a x st = st
  | 0, x, st, h => rfl
  | a + 1, x, st, h => by
    have h0 := h 0 (by omega) (by omega)
    rw [Int.add_zero] at h0
    rw [FL, stp, h0]
    exact FL_none a (x + 1) st (fun o o0 o1 => by rw [show x + 1 + o = x + (o + 1) by omega]; exact h (o + 1) (by omega) (by omega))
def evF (ok : Int → Bool) (W : Int → Int → Int) : Nat → Int → Int → Option Int
  | 0, _, _ => some 0
  | d + 1, u, x => if x / pw d = 6 then evF ok W d u (x % pw d) else if frB ok u (x / pw d) = true then (evF ok W d (put u (x / pw d)) (x % pw d)).map (fun z => W (x / pw d) (4 - d) + z) else none
theorem dv {p w o : Int} (h0 : 0 ≤ o) (h1 : o < w) : (p * w + o) / w = p ∧ (p * w + o) % w = o := by
  constructor
  · rw [Int.add_comm, Int.add_mul_ediv_right _ _ (by omega), Int.ediv_eq_zero_of_lt h0 h1, Int.zero_add]
  · rw [Int.add_comm, Int.add_mul_emod_self_right, Int.emod_eq_of_lt h0 h1]
theorem stB_max {fr : Int → Bool} {v : Int → Int} {a : Int} : ∀ (d : Nat) (p x : Int), stB fr v d p (max a x) = max a (stB fr v d p x)
  | 0, _, _ => rfl
  | d + 1, p, x => by
    rw [stB, stB]
    by_cases c : fr p = true
    · rw [if_pos c, if_pos c, Int.max_assoc, stB_max d]
    · rw [if_neg c, if_neg c, stB_max d]
theorem blk {ok : Int → Bool} {W : Int → Int → Int} {ev : Int → Option Int} : ∀ (d : Nat) (u k base : Int) (st : Int × Int), (∀ o, 0 ≤ o → o < pw d → ev (base + o) = (evF ok W d u o).map (fun z => k + z)) → FL ev (7 ^ d) base st = updK st (k + BB ok W d u) (base + FI ok W d u)
  | 0, u, k, base, st, h => by
    have h0 := h 0 (by omega) (by decide)
    rw [Int.add_zero] at h0
    show stp ev st base = _
    rw [stp, h0]
    show updK st (k + 0) base = updK st (k + 0) (base + 0)
    rw [Int.add_zero base]
  | d + 1, u, k, base, st, h => by
    have wp := pw_pos d
    have ih := blk (ok := ok) (W := W) (ev := ev) d
    -- from the digit p on
    have en : ∀ (m : Nat) (p : Int) (st : Int × Int), p + m = 6 → 0 ≤ p → FL ev ((m + 1) * 7 ^ d) (base + p * pw d) st = updK st (k + stB (frB ok u) (fun p => W p (4 - d) + BB ok W d (put u p)) m p (BB ok W d u)) (base + fsB (frB ok u) (fun p => W p (4 - d) + BB ok W d (put u p)) (stB (frB ok u) (fun p => W p (4 - d) + BB ok W d (put u p)) m p (BB ok W d u)) m p * pw d + FI ok W d (if fsB (frB ok u) (fun p => W p (4 - d) + BB ok W d (put u p)) (stB (frB ok u) (fun p => W p (4 - d) + BB ok W d (put u p)) m p (BB ok W d u)) m p = 6 then u else put u (fsB (frB ok u) (fun p => W p (4 - d) + BB ok W d (put u p)) (stB (frB ok u) (fun p => W p (4 - d) + BB ok W d (put u p)) m p (BB ok W d u)) m p))) := by
      intro m
      induction m with
      | zero =>
        intro p st e p0
        have e : p = 6 := by omega
        subst e
        rw [stB, fsB, if_pos rfl, Nat.zero_add, Nat.one_mul]
        refine ih u k _ st (fun o o0 o1 => ?_)
        rw [show base + 6 * pw d + o = base + (6 * pw d + o) by omega, h _ (by omega) (by rw [pw]; omega), evF, (dv (p := 6) o0 o1).1, (dv (p := 6) o0 o1).2, if_pos rfl]
      | succ m im =>
        intro p st e p0
        rw [show (m + 1 + 1) * 7 ^ d = 7 ^ d + (m + 1) * 7 ^ d by rw [Nat.add_mul (m + 1) 1, Nat.one_mul]; omega, FL_add, pw_nat]
        have ep : (p + 1) * pw d = p * pw d + pw d := by rw [Int.add_mul, Int.one_mul]
        have pd : 0 ≤ p * pw d := Int.mul_nonneg p0 (by omega)
        have pd2 : p * pw d + pw d ≤ 6 * pw d := by
          rw [← ep]
          exact Int.mul_le_mul_of_nonneg_right (by omega) (by omega)
        have im1 := fun st => im (p + 1) st (by omega) (by omega)
        rw [show base + p * pw d + pw d = base + (p + 1) * pw d by omega]
        by_cases c : frB ok u p = true
        · have b1 := ih (put u p) (k + W p (4 - d)) (base + p * pw d) st (fun o o0 o1 => by
            rw [show base + p * pw d + o = base + (p * pw d + o) by omega, h _ (by omega) (by rw [pw]; omega), evF, (dv o0 o1).1, (dv o0 o1).2, if_neg (by omega), if_pos c, Option.map_map]
            congr 1
            funext z
            show k + (W p (4 - d) + z) = _
            omega)
          rw [b1, im1, stB, if_pos c, fsB]
          rw [Int.max_comm, stB_max]
          generalize stB (frB ok u) (fun p => W p (4 - d) + BB ok W d (put u p)) m (p + 1) (BB ok W d u) = M
          by_cases c2 : W p (4 - d) + BB ok W d (put u p) < M
          · have hne : ¬ (frB ok u p = true ∧ W p (4 - d) + BB ok W d (put u p) = M) := fun q => by have := q.2; omega
            rw [show max (W p (4 - d) + BB ok W d (put u p)) M = M by omega, if_neg hne]
            unfold updK
            by_cases c3 : st.1 < k + W p (4 - d) + BB ok W d (put u p)
            · rw [if_pos c3, if_pos (show k + W p (4 - d) + BB ok W d (put u p) < k + M by omega), if_pos (show st.1 < k + M by omega)]
            · rw [if_neg c3]
          · have hpe : frB ok u p = true ∧ W p (4 - d) + BB ok W d (put u p) = W p (4 - d) + BB ok W d (put u p) := ⟨c, rfl⟩
            rw [show max (W p (4 - d) + BB ok W d (put u p)) M = W p (4 - d) + BB ok W d (put u p) by omega, if_pos hpe]
            rw [if_neg (by omega : ¬ p = 6)]
            unfold updK
            by_cases c3 : st.1 < k + W p (4 - d) + BB ok W d (put u p)
            · rw [if_pos c3, if_neg (show ¬ k + W p (4 - d) + BB ok W d (put u p) < k + M by omega), if_pos (show st.1 < k + (W p (4 - d) + BB ok W d (put u p)) by omega)]
              rw [Int.add_assoc]
            · rw [if_neg c3, if_neg (show ¬ st.1 < k + M by omega), if_neg (show ¬ st.1 < k + (W p (4 - d) + BB ok W d (put u p)) by omega)]
        · rw [FL_none _ (base + p * pw d) st (fun o o0 o1 => by
            rw [pw_nat] at o1
            rw [show base + p * pw d + o = base + (p * pw d + o) by omega, h _ (by omega) (by rw [pw]; omega), evF, (dv o0 o1).1, (dv o0 o1).2, if_neg (by omega), if_neg c]
            rfl)]
          have hnc : ∀ M : Int, ¬ (frB ok u p = true ∧ W p (4 - d) + BB ok W d (put u p) = M) := fun M q => c q.1
          rw [im1, stB, if_neg c, fsB, if_neg (hnc _)]
    have := en 6 0 st rfl (by omega)
    rw [Int.zero_mul, Int.add_zero] at this
    rw [Nat.pow_succ, Nat.mul_comm, this, FI, BB, Int.add_assoc]
def okL (ok : Int → Bool) : Int → List Int → Bool
  | _, [] => true
  | u, p :: r => if p = 6 then okL ok u r else frB ok u p && okL ok (put u p) r
theorem okL_iff {ok : Int → Bool} : ∀ (L : List Int) (u : Int), 0 ≤ u ∧ u < 64 → (∀ p ∈ L, 0 ≤ p ∧ p ≤ 6) → (okL ok u L = true ↔ (∀ p ∈ L, p = 6 ∨ (ok p = true ∧ m_has u p = 0)) ∧ L.Pairwise (fun a b => a = 6 ∨ a ≠ b))
  | [], u, hu, hL => by simp [okL]
  | p :: r, u, hu, hL => by
    have hp := hL p List.mem_cons_self
    have hr : ∀ q ∈ r, 0 ≤ q ∧ q ≤ 6 := fun q h => hL q (List.mem_cons_of_mem _ h)
    rw [okL, List.pairwise_cons, List.forall_mem_cons]
    by_cases c : p = 6
    · rw [if_pos c, okL_iff r u hu hr]
      constructor
      · rintro ⟨a, b⟩
        exact ⟨⟨.inl c, a⟩, fun q _ => .inl c, b⟩
      · rintro ⟨⟨-, a⟩, -, b⟩
        exact ⟨a, b⟩
    · rw [if_neg c, Bool.and_eq_true, okL_iff r (put u p) (set_b hu (by omega)) hr, frB, Bool.and_eq_true, decide_eq_true_eq]
      constructor
      · rintro ⟨⟨a1, a2⟩, a3, a4⟩
        refine ⟨⟨.inr ⟨a1, a2⟩, fun q hq => ?_⟩, fun q hq => ?_, a4⟩
        · rcases a3 q hq with e | ⟨e1, e2⟩
          · exact .inl e
          · by_cases q6 : q = 6
            · exact .inl q6
            · have := hr q hq
              rw [put, has_set hu (by omega) (by omega)] at e2
              by_cases z : q = p
              · rw [if_pos z] at e2; omega
              · rw [if_neg z] at e2; exact .inr ⟨e1, e2⟩
        · right
          rcases a3 q hq with e | ⟨e1, e2⟩
          · omega
          · intro z
            subst z
            rw [put, has_set hu (by omega) (by omega), if_pos rfl] at e2
            omega
      · rintro ⟨⟨a1, a2⟩, a3, a4⟩
        refine ⟨?_, fun q hq => ?_, a4⟩
        · rcases a1 with e | e
          · exact absurd e c
          · exact e
        · rcases a2 q hq with e | ⟨e1, e2⟩
          · exact .inl e
          · by_cases q6 : q = 6
            · exact .inl q6
            · have := hr q hq
              right
              refine ⟨e1, ?_⟩
              rw [put, has_set hu (by omega) (by omega), if_neg (by
                rcases a3 q hq with z | z
                · omega
                · exact fun y => z y.symm)]
              exact e2
theorem okL_eq {ok1 ok2 : Int → Bool} {u1 u2 : Int} {L1 L2 : List Int} (h1 : 0 ≤ u1 ∧ u1 < 64) (h2 : 0 ≤ u2 ∧ u2 < 64) (e : L2 = L1.reverse) (hL : ∀ p ∈ L1, 0 ≤ p ∧ p ≤ 6) (ho : ∀ p, 0 ≤ p → p < 6 → ((ok1 p = true ∧ m_has u1 p = 0) ↔ (ok2 p = true ∧ m_has u2 p = 0))) : okL ok1 u1 L1 = okL ok2 u2 L2 := by
  have hL2 : ∀ p ∈ L2, 0 ≤ p ∧ p ≤ 6 := fun p hp => by
    rw [e, List.mem_reverse] at hp
    exact hL p hp
  rw [Bool.eq_iff_iff, okL_iff L1 u1 h1 hL, okL_iff L2 u2 h2 hL2]
  have a1 : (∀ p ∈ L1, p = 6 ∨ (ok1 p = true ∧ m_has u1 p = 0)) ↔ (∀ p ∈ L2, p = 6 ∨ (ok2 p = true ∧ m_has u2 p = 0)) := by
    constructor
    · intro h p hp
      rw [e, List.mem_reverse] at hp
      have := hL p hp
      rcases h p hp with z | z
      · exact .inl z
      · by_cases c : p = 6
        · exact .inl c
        · exact .inr ((ho p (by omega) (by omega)).1 z)
    · intro h p hp
      have := hL p hp
      rcases h p (by rw [e, List.mem_reverse]; exact hp) with z | z
      · exact .inl z
      · by_cases c : p = 6
        · exact .inl c
        · exact .inr ((ho p (by omega) (by omega)).2 z)
  have a2 : L1.Pairwise (fun a b => a = 6 ∨ a ≠ b) ↔ L2.Pairwise (fun a b => a = 6 ∨ a ≠ b) := by
    rw [e, List.pairwise_reverse]
    constructor
    · intro h
      exact h.imp (fun {a b} z => by omega)
    · intro h
      exact h.imp (fun {a b} z => by omega)
  rw [a1, a2]
/-- the digits of x, the greatest first -/
def dl : Nat → Int → List Int
  | 0, _ => []
  | d + 1, x => (x / pw d) :: dl d (x % pw d)
def smL (W : Int → Int → Int) : Int → List Int → Int
  | _, [] => 0
  | t, p :: r => (if p = 6 then 0 else W p t) + smL W (t + 1) r
theorem evF_L {ok : Int → Bool} {W : Int → Int → Int} : ∀ (d : Nat) (u x : Int), d ≤ 5 → evF ok W d u x = if okL ok u (dl d x) = true then some (smL W (5 - d) (dl d x)) else none
  | 0, u, x, h => rfl
  | d + 1, u, x, h => by
    rw [evF, dl, okL]
    have e : (5 : Int) - ((d + 1 : Nat) : Int) = 4 - d := by omega
    have e2 : (4 : Int) - d + 1 = 5 - d := by omega
    rw [e]
    by_cases c : x / pw d = 6
    · rw [if_pos c, if_pos c, evF_L d u _ (by omega), smL, if_pos c, e2, Int.zero_add]
    · rw [if_neg c, if_neg c, evF_L d _ _ (by omega), smL, if_neg c, e2]
      by_cases c2 : frB ok u (x / pw d) = true
      · rw [if_pos c2, c2, Bool.true_and]
        by_cases c3 : okL ok (put u (x / pw d)) (dl d (x % pw d)) = true
        · rw [if_pos c3, if_pos c3]; rfl
        · rw [if_neg c3, if_neg c3]; rfl
      · rw [if_neg c2, if_neg (by rw [Bool.and_eq_true]; exact fun z => c2 z.1)]
/-- as the Model takes the digits: the last first -/
def rok (n : Int) : Nat → Int → Int → Bool
  | 0, _, _ => true
  | d + 1, x, m => if x % 7 = 6 then rok n d (x / 7) m else if x % 7 < n ∧ m_has m (x % 7) = 0 then rok n d (x / 7) (put m (x % 7)) else false
def rl : Nat → Int → List Int
  | 0, _ => []
  | d + 1, x => (x % 7) :: rl d (x / 7)
theorem rok_L {n : Int} : ∀ (d : Nat) (x m : Int), rok n d x m = okL (fun p => decide (p < n)) m (rl d x)
  | 0, _, _ => rfl
  | d + 1, x, m => by
    rw [rok, rl, okL, frB]
    by_cases c : x % 7 = 6
    · rw [if_pos c, if_pos c, rok_L d]
    · rw [if_neg c, if_neg c, rok_L d]
      by_cases c2 : x % 7 < n ∧ m_has m (x % 7) = 0
      · rw [if_pos c2, decide_eq_true c2.1, decide_eq_true c2.2]; rfl
      · rw [if_neg c2]
        by_cases c3 : x % 7 < n
        · rw [decide_eq_false (p := m_has m (x % 7) = 0) (fun z => c2 ⟨c3, z⟩)]; simp
        · rw [decide_eq_false c3]; simp
theorem rl_5 {x : Int} (h : 0 ≤ x ∧ x < 16807) : rl 5 x = (dl 5 x).reverse := by
  show [x % 7, x / 7 % 7, x / 7 / 7 % 7, x / 7 / 7 / 7 % 7, x / 7 / 7 / 7 / 7 % 7] = [x % 2401 % 343 % 49 % 7 / 1, x % 2401 % 343 % 49 / 7, x % 2401 % 343 / 49, x % 2401 / 343, x / 2401]
  refine List.cons_eq_cons.2 ⟨by omega, List.cons_eq_cons.2 ⟨by omega, List.cons_eq_cons.2 ⟨by omega, List.cons_eq_cons.2 ⟨by omega, List.cons_eq_cons.2 ⟨by omega, rfl⟩⟩⟩⟩⟩
theorem dl_b {x : Int} (h : 0 ≤ x ∧ x < 16807) : ∀ p ∈ dl 5 x, 0 ≤ p ∧ p ≤ 6 := by
  intro p hp
  have hp : p ∈ [x / 2401, x % 2401 / 343, x % 2401 % 343 / 49, x % 2401 % 343 % 49 / 7, x % 2401 % 343 % 49 % 7 / 1] := hp
  simp only [List.mem_cons, List.not_mem_nil, or_false] at hp
  omega
