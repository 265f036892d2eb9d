/- the text of an orchard: T i is the character at i, below 0 behind the end L -/
def isDg (c : Int) : Bool := decide (48 ≤ c ∧ c ≤ 57)
def placeN (c : Int) : Int := if c = 112 then 0 else if c = 116 then 1 else if c = 107 then 2 else if c = 118 then 3 else if c = 104 then 4 else if c = 121 then 5 else -1
abbrev RZ : Type := Bool × Int × List Int
/-- a number at p: whether there is one, its value, the place behind -/
def rdN (T : Int → Int) (p : Int) : Bool × Int × Int := if isDg (T p) then (if isDg (T (p + 1)) then (true, 10 * (T p - 48) + (T (p + 1) - 48), p + 2) else (true, T p - 48, p + 1)) else (false, 0, p)
def rdT (T : Int → Int) (p : Int) : RZ :=
  if placeN (T p) < 0 then (false, p, []) else
  if 60 ≤ T (p + 1) ∧ T (p + 1) ≤ 62 then (if (rdN T (p + 2)).1 then (true, (rdN T (p + 2)).2.2, [1000 * placeN (T p) + 100 * (T (p + 1) - 60) + (rdN T (p + 2)).2.1]) else (false, p + 2, []))
  else (false, p + 1, [])
/-- what follows an operand: the rest of its group -/
def sAnd (T : Int → Int) (ro : Int → RZ) : Nat → Int → List Int → RZ
  | 0, p, c => (true, p, c)
  | m + 1, p, c => if T p = 38 then (if (ro (p + 1)).1 then sAnd T ro m (ro (p + 1)).2.1 (c ++ (ro (p + 1)).2.2 ++ [-38]) else (false, (ro (p + 1)).2.1, [])) else (true, p, c)
def sAll (T : Int → Int) (ro : Int → RZ) (p : Int) : RZ := if (ro p).1 then sAnd T ro 99 (ro p).2.1 (ro p).2.2 else (false, (ro p).2.1, [])
def sOr (T : Int → Int) (ro : Int → RZ) : Nat → Int → List Int → RZ
  | 0, p, c => (true, p, c)
  | m + 1, p, c => if T p = 124 then (if (sAll T ro (p + 1)).1 then sOr T ro m (sAll T ro (p + 1)).2.1 (c ++ (sAll T ro (p + 1)).2.2 ++ [-124]) else (false, (sAll T ro (p + 1)).2.1, [])) else (true, p, c)
def sAny (T : Int → Int) (ro : Int → RZ) (p : Int) : RZ := if (sAll T ro p).1 then sOr T ro 99 (sAll T ro p).2.1 (sAll T ro p).2.2 else (false, (sAll T ro p).2.1, [])
def sOne (T : Int → Int) : Nat → Int → Int → RZ
  | 0, _, p => (false, p, [])
  | n + 1, d, p => if d < 4 then (if T p = 33 then (if (sOne T n (d + 1) (p + 1)).1 then (true, (sOne T n (d + 1) (p + 1)).2.1, (sOne T n (d + 1) (p + 1)).2.2 ++ [-33]) else (false, (sOne T n (d + 1) (p + 1)).2.1, []))
      else if T p = 40 then (if (sAny T (sOne T n (d + 1)) (p + 1)).1 then (if T (sAny T (sOne T n (d + 1)) (p + 1)).2.1 = 41 then (true, (sAny T (sOne T n (d + 1)) (p + 1)).2.1 + 1, (sAny T (sOne T n (d + 1)) (p + 1)).2.2) else (false, (sAny T (sOne T n (d + 1)) (p + 1)).2.1, [])) else (false, (sAny T (sOne T n (d + 1)) (p + 1)).2.1, []))
      else rdT T p) else rdT T p
/- the Model's way: a pile of what waits -/
def setl (a : Int) : List Int → List Int → List Int × List Int
  | [], C => ([], C)
  | t :: P, C => if t = 38 then setl a P (C ++ [-38]) else if t = 124 then (if a = 38 then (t :: P, C) else setl a P (C ++ [-124])) else (t :: P, C)
def whol : List Int → List Int → Int → List Int × List Int × Int
  | [], C, w => ([], C, w)
  | t :: P, C, w => if t = 33 then whol P (C ++ [-33]) (w - 1) else (t :: P, C, w)
def mEm (T : Int → Int) : Nat → Int → List Int → Int → List Int → Int → Option RZ
  | 0, _, _, _, _, _ => none
  | n + 1, p, P, w, C, x =>
    if x = 0 then
      (if T p = 38 then mEm T n (p + 1) (38 :: (setl 38 P C).1) w (setl 38 P C).2 1
      else if T p = 124 then mEm T n (p + 1) (124 :: (setl 124 P C).1) w (setl 124 P C).2 1
      else if (setl 124 P C).1 = [] then some (true, p, (setl 124 P C).2)
      else if T p = 41 then mEm T n (p + 1) (whol (setl 124 P C).1.tail (setl 124 P C).2 (w - 1)).1 (whol (setl 124 P C).1.tail (setl 124 P C).2 (w - 1)).2.2 (whol (setl 124 P C).1.tail (setl 124 P C).2 (w - 1)).2.1 0
      else some (false, p, []))
    else if T p = 33 then (if w = 4 then some (false, p, []) else mEm T n (p + 1) (33 :: P) (w + 1) C 1)
    else if T p = 40 then (if w = 4 then some (false, p, []) else mEm T n (p + 1) (40 :: P) (w + 1) C 1)
    else if (rdT T p).1 then mEm T n (rdT T p).2.1 (whol P (C ++ (rdT T p).2.2) w).1 (whol P (C ++ (rdT T p).2.2) w).2.2 (whol P (C ++ (rdT T p).2.2) w).2.1 0
    else some (false, (rdT T p).2.1, [])
/-- where it stands when a group is closed -/
def mCl (T : Int → Int) (n : Nat) (p : Int) (P : List Int) (w : Int) (C : List Int) : Option RZ :=
  if P = [] then some (true, p, C) else if T p = 41 then mEm T n (p + 1) (whol P.tail C (w - 1)).1 (whol P.tail C (w - 1)).2.2 (whol P.tail C (w - 1)).2.1 0 else some (false, p, [])
def TX (T : Int → Int) (L : Int) : Prop := (0 ≤ L ∧ L ≤ 100) ∧ (∀ i, L ≤ i → T i = -1) ∧ ∀ i, 0 ≤ i → i < L → 0 ≤ T i
/-- the top of the pile is none of these -/
def topN (P : List Int) : Prop := ∀ t r, P = t :: r → t ≠ 33 ∧ t ≠ 38 ∧ t ≠ 124
def top33 (P : List Int) : Prop := ∀ t r, P = t :: r → t ≠ 33
theorem whol_top {P C : List Int} {w : Int} (h : top33 P) : whol P C w = (P, C, w) := by
  cases P with
  | nil => rfl
  | cons t r => rw [whol, if_neg (h t r rfl)]
theorem whol_k {Q : List Int} (h : top33 Q) : ∀ (k : Nat) (C : List Int) (w : Int), whol (List.replicate k 33 ++ Q) C w = (Q, C ++ List.replicate k (-33), w - k)
  | 0, C, w => by
    show whol Q C w = _
    rw [whol_top h]
    simp
  | k + 1, C, w => by
    rw [List.replicate_succ, List.cons_append, whol, if_pos rfl, whol_k h k, List.append_assoc]
    congr 1
    congr 1
    omega
/-- waiting all and any -/
def pAnd (b : Bool) : List Int := if b then [38] else []
def pOr (b : Bool) : List Int := if b then [124] else []
def cAnd (b : Bool) : List Int := if b then [-38] else []
def cOr (b : Bool) : List Int := if b then [-124] else []
theorem setl_top {P C : List Int} {a : Int} (h : topN P) : setl a P C = (P, C) := by
  cases P with
  | nil => rfl
  | cons t r =>
    obtain ⟨h1, h2, h3⟩ := h t r rfl
    rw [setl, if_neg h2, if_neg h3]
theorem setl_any {P C : List Int} (h : topN P) (b1 b2 : Bool) : setl 124 (pAnd b2 ++ (pOr b1 ++ P)) C = (P, C ++ cAnd b2 ++ cOr b1) := by
  cases b1 <;> cases b2 <;> simp [pAnd, pOr, cAnd, cOr, setl, setl_top h]
theorem setl_all {P C : List Int} (h : topN P) (b1 b2 : Bool) : setl 38 (pAnd b2 ++ (pOr b1 ++ P)) C = (pOr b1 ++ P, C ++ cAnd b2) := by
  cases b1 <;> cases b2 <;> simp [pAnd, pOr, cAnd, setl, setl_top h]
theorem rdN_p {T : Int → Int} {L p : Int} (hT : TX T L) (h : (rdN T p).1 = true) : p + 1 ≤ (rdN T p).2.2 ∧ (rdN T p).2.2 ≤ p + 2 ∧ (rdN T p).2.2 ≤ L ∧ (0 ≤ (rdN T p).2.1 ∧ (rdN T p).2.1 ≤ 99) := by
  have hb : ∀ q, isDg (T q) = true → q < L ∧ 48 ≤ T q ∧ T q ≤ 57 := fun q z => by
    rw [isDg, decide_eq_true_eq] at z
    refine ⟨?_, z⟩
    by_cases c : q < L
    · exact c
    · have := hT.2.1 q (by omega)
      omega
  unfold rdN at h ⊢
  by_cases c1 : isDg (T p) = true
  · rw [if_pos c1]
    have b1 := hb p c1
    by_cases c2 : isDg (T (p + 1)) = true
    · rw [if_pos c2]
      have b2 := hb _ c2
      dsimp only
      omega
    · rw [if_neg c2]
      dsimp only
      omega
  · rw [if_neg c1] at h
    simp at h
theorem placeN_b {c : Int} (h : ¬ placeN c < 0) : 0 ≤ placeN c ∧ placeN c < 6 ∧ 0 < c := by
  unfold placeN at h ⊢
  repeat' split
  all_goals first | omega | skip
  all_goals simp_all
theorem rdT_p {T : Int → Int} {L p : Int} (hT : TX T L) (h : (rdT T p).1 = true) : p + 3 ≤ (rdT T p).2.1 ∧ (rdT T p).2.1 ≤ L := by
  unfold rdT at h ⊢
  by_cases c1 : placeN (T p) < 0
  · rw [if_pos c1] at h; simp at h
  · rw [if_neg c1] at h ⊢
    by_cases c2 : 60 ≤ T (p + 1) ∧ T (p + 1) ≤ 62
    · rw [if_pos c2] at h ⊢
      by_cases c3 : (rdN T (p + 2)).1 = true
      · rw [if_pos c3]
        have := rdN_p hT c3
        dsimp only
        omega
      · rw [if_neg c3] at h; simp at h
    · rw [if_neg c2] at h; simp at h
theorem lt_L {T : Int → Int} {L p : Int} (hT : TX T L) (h : 0 ≤ T p) : p < L := by
  by_cases c : p < L
  · exact c
  · have := hT.2.1 p (by omega)
    omega
/-- an operand read on the pile: what the recursive reading says, the pile says -/
def OneP (T : Int → Int) (L : Int) (ro : Int → RZ) (w : Int) : Prop := ∀ (p : Int) (Q : List Int) (k : Nat) (C : List Int) (f : Nat), top33 Q → (0 ≤ p ∧ p ≤ L) → (L - p).toNat + 2 ≤ f →
  ((ro p).1 = true → (p + 1 ≤ (ro p).2.1 ∧ (ro p).2.1 ≤ L) ∧ ∃ f', (L - (ro p).2.1).toNat + 2 ≤ f' ∧ mEm T f p (List.replicate k 33 ++ Q) w C 1 = mEm T f' (ro p).2.1 Q (w - k) (C ++ (ro p).2.2 ++ List.replicate k (-33)) 0) ∧
  ((ro p).1 = false → mEm T f p (List.replicate k 33 ++ Q) w C 1 = some (false, (ro p).2.1, []))
theorem test_P {T : Int → Int} {L w : Int} (hT : TX T L) {p : Int} {Q : List Int} {k : Nat} {C : List Int} {f : Nat} (hQ : top33 Q) (hp : 0 ≤ p ∧ p ≤ L) (hf : (L - p).toNat + 2 ≤ f) (n33 : T p ≠ 33 ∨ w = 4) (n40 : T p ≠ 40 ∨ w = 4) :
  ((rdT T p).1 = true → (p + 1 ≤ (rdT T p).2.1 ∧ (rdT T p).2.1 ≤ L) ∧ ∃ f', (L - (rdT T p).2.1).toNat + 2 ≤ f' ∧ mEm T f p (List.replicate k 33 ++ Q) w C 1 = mEm T f' (rdT T p).2.1 Q (w - k) (C ++ (rdT T p).2.2 ++ List.replicate k (-33)) 0) ∧
  ((rdT T p).1 = false → mEm T f p (List.replicate k 33 ++ Q) w C 1 = some (false, (rdT T p).2.1, [])) := by
  obtain ⟨f, rfl⟩ : ∃ g, f = g + 1 := ⟨f - 1, by omega⟩
  have ef : (T p = 33 ∨ T p = 40) → (rdT T p).2.1 = p := fun z => by
    unfold rdT
    have : placeN (T p) < 0 := by rcases z with z | z <;> rw [z] <;> decide
    rw [if_pos this]
  constructor
  · intro h
    have b := rdT_p hT h
    have z1 : T p ≠ 33 ∧ T p ≠ 40 := by
      constructor
      · intro z
        have : (rdT T p).1 = false := by
          unfold rdT
          rw [if_pos (by rw [z]; decide)]
        rw [this] at h; simp at h
      · intro z
        have : (rdT T p).1 = false := by
          unfold rdT
          rw [if_pos (by rw [z]; decide)]
        rw [this] at h; simp at h
    refine ⟨by omega, f, by omega, ?_⟩
    rw [mEm, if_neg (by decide), if_neg z1.1, if_neg z1.2, if_pos h, whol_k hQ]
  · intro h
    rw [mEm, if_neg (by decide)]
    by_cases c1 : T p = 33
    · rw [if_pos c1, if_pos (by rcases n33 with z | z; exact absurd c1 z; exact z), ef (.inl c1)]
    · rw [if_neg c1]
      by_cases c2 : T p = 40
      · rw [if_pos c2, if_pos (by rcases n40 with z | z; exact absurd c2 z; exact z), ef (.inr c2)]
      · rw [if_neg c2, if_neg (by rw [h]; simp)]
theorem and_P {T : Int → Int} {L w : Int} (hT : TX T L) {ro : Int → RZ} (H : OneP T L ro w) {P : List Int} (hP : topN P) (b1 : Bool) : ∀ (m : Nat) (p : Int) (c C0 CM : List Int) (b2 : Bool) (f : Nat), (0 ≤ p ∧ p ≤ L) → L - p ≤ m → (L - p).toNat + 2 ≤ f → C0 ++ c = CM ++ cAnd b2 →
  ((sAnd T ro m p c).1 = true → (p ≤ (sAnd T ro m p c).2.1 ∧ (sAnd T ro m p c).2.1 ≤ L) ∧ T (sAnd T ro m p c).2.1 ≠ 38 ∧ ∃ b2' CM' f', (L - (sAnd T ro m p c).2.1).toNat + 2 ≤ f' ∧ C0 ++ (sAnd T ro m p c).2.2 = CM' ++ cAnd b2' ∧ mEm T f p (pAnd b2 ++ (pOr b1 ++ P)) w CM 0 = mEm T f' (sAnd T ro m p c).2.1 (pAnd b2' ++ (pOr b1 ++ P)) w CM' 0) ∧
  ((sAnd T ro m p c).1 = false → mEm T f p (pAnd b2 ++ (pOr b1 ++ P)) w CM 0 = some (false, (sAnd T ro m p c).2.1, []))
  | 0, p, c, C0, CM, b2, f, hp, hm, hf, he => by
    rw [sAnd]
    refine ⟨fun _ => ⟨by dsimp only; omega, ?_, b2, CM, f, hf, he, rfl⟩, fun h => by simp at h⟩
    show T p ≠ 38
    have := hT.2.1 p (by omega)
    omega
  | m + 1, p, c, C0, CM, b2, f, hp, hm, hf, he => by
    rw [sAnd]
    by_cases c1 : T p = 38
    · rw [if_pos c1]
      have pL := lt_L hT (p := p) (by omega)
      obtain ⟨f, rfl⟩ : ∃ g, f = g + 1 := ⟨f - 1, by omega⟩
      have e0 : mEm T (f + 1) p (pAnd b2 ++ (pOr b1 ++ P)) w CM 0 = mEm T f (p + 1) (List.replicate 0 33 ++ (38 :: (pOr b1 ++ P))) w (CM ++ cAnd b2) 1 := by
        rw [mEm, if_pos rfl, if_pos c1, setl_all hP]
        rfl
      obtain ⟨g1, g2⟩ := H (p + 1) (38 :: (pOr b1 ++ P)) 0 (CM ++ cAnd b2) f (fun t r z => by
        have := (List.cons_eq_cons.1 z).1
        omega) (by omega) (by omega)
      by_cases c2 : (ro (p + 1)).1 = true
      · rw [if_pos c2]
        obtain ⟨q1, f', q2, q3⟩ := g1 c2
        have ih := and_P hT H hP b1 m (ro (p + 1)).2.1 (c ++ (ro (p + 1)).2.2 ++ [-38]) C0 (CM ++ cAnd b2 ++ (ro (p + 1)).2.2) true f' (by omega) (by omega) q2 (by
          rw [← he]
          simp [cAnd])
        have e1 : mEm T f' (ro (p + 1)).2.1 (38 :: (pOr b1 ++ P)) (w - ((0 : Nat) : Int)) (CM ++ cAnd b2 ++ (ro (p + 1)).2.2 ++ List.replicate 0 (-33)) 0 = mEm T f' (ro (p + 1)).2.1 (pAnd true ++ (pOr b1 ++ P)) w (CM ++ cAnd b2 ++ (ro (p + 1)).2.2) 0 := by
          rw [show w - ((0 : Nat) : Int) = w by omega]
          simp [pAnd]
        rw [e0, q3, e1]
        refine ⟨fun h => ?_, ih.2⟩
        obtain ⟨i1, i2⟩ := ih.1 h
        exact ⟨by omega, i2⟩
      · rw [if_neg c2]
        have c2 : (ro (p + 1)).1 = false := by simpa using c2
        exact ⟨fun h => by simp at h, fun _ => by rw [e0, g2 c2]⟩
    · rw [if_neg c1]
      exact ⟨fun _ => ⟨by dsimp only; omega, c1, b2, CM, f, hf, he, rfl⟩, fun h => by simp at h⟩
theorem or_P {T : Int → Int} {L w : Int} (hT : TX T L) {ro : Int → RZ} (H : OneP T L ro w) {P : List Int} (hP : topN P) : ∀ (m : Nat) (p : Int) (c C CM : List Int) (b1 b2 : Bool) (f : Nat), (1 ≤ p ∧ p ≤ L) → L - p ≤ m → T p ≠ 38 → (L - p).toNat + 2 ≤ f → C ++ c = CM ++ cAnd b2 ++ cOr b1 →
  ((sOr T ro m p c).1 = true → (p ≤ (sOr T ro m p c).2.1 ∧ (sOr T ro m p c).2.1 ≤ L) ∧ ∃ f', (L - (sOr T ro m p c).2.1).toNat + 1 ≤ f' ∧ mEm T f p (pAnd b2 ++ (pOr b1 ++ P)) w CM 0 = mCl T f' (sOr T ro m p c).2.1 P w (C ++ (sOr T ro m p c).2.2)) ∧
  ((sOr T ro m p c).1 = false → mEm T f p (pAnd b2 ++ (pOr b1 ++ P)) w CM 0 = some (false, (sOr T ro m p c).2.1, []))
  | m, p, c, C, CM, b1, b2, f, hp, hm, n38, hf, he => by
    obtain ⟨f, rfl⟩ : ∃ g, f = g + 1 := ⟨f - 1, by omega⟩
    have done : T p ≠ 124 → mEm T (f + 1) p (pAnd b2 ++ (pOr b1 ++ P)) w CM 0 = mCl T f p P w (C ++ c) := fun n124 => by
      rw [mEm, if_pos rfl, if_neg n38, if_neg n124, setl_any hP, he]
      rfl
    match m with
    | 0 =>
      rw [sOr]
      refine ⟨fun _ => ⟨by dsimp only; omega, f, by dsimp only; omega, done ?_⟩, fun h => by simp at h⟩
      have := hT.2.1 p (by omega)
      omega
    | m + 1 =>
      rw [sOr]
      by_cases c1 : T p = 124
      · rw [if_pos c1]
        have pL := lt_L hT (p := p) (by omega)
        have e0 : mEm T (f + 1) p (pAnd b2 ++ (pOr b1 ++ P)) w CM 0 = mEm T f (p + 1) (List.replicate 0 33 ++ (124 :: P)) w (C ++ c) 1 := by
          rw [mEm, if_pos rfl, if_neg n38, if_pos c1, setl_any hP, he]
          rfl
        obtain ⟨g1, g2⟩ := H (p + 1) (124 :: P) 0 (C ++ c) f (fun t r z => by
          have := (List.cons_eq_cons.1 z).1
          omega) (by omega) (by omega)
        unfold sAll
        by_cases c2 : (ro (p + 1)).1 = true
        · rw [if_pos c2]
          obtain ⟨q1, f', q2, q3⟩ := g1 c2
          have e1 : mEm T f' (ro (p + 1)).2.1 (124 :: P) (w - ((0 : Nat) : Int)) (C ++ c ++ (ro (p + 1)).2.2 ++ List.replicate 0 (-33)) 0 = mEm T f' (ro (p + 1)).2.1 (pAnd false ++ (pOr true ++ P)) w (C ++ c ++ (ro (p + 1)).2.2) 0 := by
            rw [show w - ((0 : Nat) : Int) = w by omega]
            simp [pAnd, pOr]
          rw [e0, q3, e1]
          obtain ⟨a1, a2⟩ := and_P hT H hP true 99 (ro (p + 1)).2.1 (ro (p + 1)).2.2 (C ++ c) (C ++ c ++ (ro (p + 1)).2.2) false f' (by omega) (by have := hT.1; omega) q2 (by simp [cAnd])
          by_cases c3 : (sAnd T ro 99 (ro (p + 1)).2.1 (ro (p + 1)).2.2).1 = true
          · rw [if_pos c3]
            obtain ⟨i1, i2, b2', CM', f'', i3, i4, i5⟩ := a1 c3
            rw [i5]
            have ih := or_P hT H hP m _ (c ++ (sAnd T ro 99 (ro (p + 1)).2.1 (ro (p + 1)).2.2).2.2 ++ [-124]) C CM' true b2' f'' (by omega) (by omega) i2 i3 (by
              rw [← i4]
              simp [cOr])
            refine ⟨fun h => ?_, ih.2⟩
            obtain ⟨j1, j2⟩ := ih.1 h
            exact ⟨by omega, j2⟩
          · rw [if_neg c3]
            have c3 : (sAnd T ro 99 (ro (p + 1)).2.1 (ro (p + 1)).2.2).1 = false := by simpa using c3
            exact ⟨fun h => by simp at h, fun _ => a2 c3⟩
        · rw [if_neg c2]
          have c2 : (ro (p + 1)).1 = false := by simpa using c2
          rw [if_neg (by simp)]
          exact ⟨fun h => by simp at h, fun _ => by rw [e0, g2 c2]⟩
      · rw [if_neg c1]
        exact ⟨fun _ => ⟨by dsimp only; omega, f, by dsimp only; omega, done c1⟩, fun h => by simp at h⟩
theorem any_P {T : Int → Int} {L w : Int} (hT : TX T L) {ro : Int → RZ} (H : OneP T L ro w) {P : List Int} (hP : topN P) {p : Int} {C : List Int} {f : Nat} (hp : 0 ≤ p ∧ p ≤ L) (hf : (L - p).toNat + 2 ≤ f) :
  ((sAny T ro p).1 = true → (p + 1 ≤ (sAny T ro p).2.1 ∧ (sAny T ro p).2.1 ≤ L) ∧ ∃ f', (L - (sAny T ro p).2.1).toNat + 1 ≤ f' ∧ mEm T f p P w C 1 = mCl T f' (sAny T ro p).2.1 P w (C ++ (sAny T ro p).2.2)) ∧
  ((sAny T ro p).1 = false → mEm T f p P w C 1 = some (false, (sAny T ro p).2.1, [])) := by
  obtain ⟨g1, g2⟩ := H p P 0 C f (fun t r z => (hP t r z).1) hp hf
  have e00 : List.replicate 0 (33 : Int) ++ P = P := rfl
  rw [e00] at g1 g2
  unfold sAny sAll
  by_cases c2 : (ro p).1 = true
  · rw [if_pos c2]
    obtain ⟨q1, f', q2, q3⟩ := g1 c2
    have e1 : mEm T f' (ro p).2.1 P (w - ((0 : Nat) : Int)) (C ++ (ro p).2.2 ++ List.replicate 0 (-33)) 0 = mEm T f' (ro p).2.1 (pAnd false ++ (pOr false ++ P)) w (C ++ (ro p).2.2) 0 := by
      rw [show w - ((0 : Nat) : Int) = w by omega]
      simp [pAnd, pOr]
    rw [q3, e1]
    obtain ⟨a1, a2⟩ := and_P hT H hP false 99 (ro p).2.1 (ro p).2.2 C (C ++ (ro p).2.2) false f' (by omega) (by have := hT.1; omega) q2 (by simp [cAnd])
    by_cases c3 : (sAnd T ro 99 (ro p).2.1 (ro p).2.2).1 = true
    · rw [if_pos c3]
      obtain ⟨i1, i2, b2', CM', f'', i3, i4, i5⟩ := a1 c3
      rw [i5]
      have ih := or_P hT H hP 99 _ (sAnd T ro 99 (ro p).2.1 (ro p).2.2).2.2 C CM' false b2' f'' (by omega) (by have := hT.1; omega) i2 i3 (by
        rw [i4]
        simp [cOr])
      refine ⟨fun h => ?_, ih.2⟩
      obtain ⟨j1, j2⟩ := ih.1 h
      exact ⟨by omega, j2⟩
    · rw [if_neg c3]
      have c3 : (sAnd T ro 99 (ro p).2.1 (ro p).2.2).1 = false := by simpa using c3
      exact ⟨fun h => by simp at h, fun _ => a2 c3⟩
  · rw [if_neg c2]
    have c2 : (ro p).1 = false := by simpa using c2
    rw [if_neg (by simp)]
    exact ⟨fun h => by simp at h, fun _ => g2 c2⟩
theorem one_P {T : Int → Int} {L : Int} (hT : TX T L) : ∀ (n : Nat) (w : Int), n + w = 6 → 0 ≤ w → w ≤ 4 → OneP T L (sOne T n w) w
  | 0, w, e, w0, w4 => by omega
  | n + 1, w, e, w0, w4 => by
    intro p Q k C f hQ hp hf
    rw [sOne]
    by_cases c : w < 4
    · rw [if_pos c]
      have ih := one_P hT n (w + 1) (by omega) (by omega) (by omega)
      by_cases c1 : T p = 33
      · rw [if_pos c1]
        have pL := lt_L hT (p := p) (by omega)
        obtain ⟨f, rfl⟩ : ∃ g, f = g + 1 := ⟨f - 1, by omega⟩
        have e0 : mEm T (f + 1) p (List.replicate k 33 ++ Q) w C 1 = mEm T f (p + 1) (List.replicate (k + 1) 33 ++ Q) (w + 1) C 1 := by
          rw [mEm, if_neg (by decide), if_pos c1, if_neg (by omega)]
          rfl
        obtain ⟨g1, g2⟩ := ih (p + 1) Q (k + 1) C f hQ (by omega) (by omega)
        by_cases c2 : (sOne T n (w + 1) (p + 1)).1 = true
        · rw [if_pos c2]
          obtain ⟨q1, f', q2, q3⟩ := g1 c2
          refine ⟨fun _ => ⟨by dsimp only; omega, f', q2, ?_⟩, fun h => by simp at h⟩
          rw [e0, q3, show w + 1 - ((k + 1 : Nat) : Int) = w - k by omega]
          congr 1
          rw [List.replicate_succ]
          simp
        · rw [if_neg c2]
          have c2 : (sOne T n (w + 1) (p + 1)).1 = false := by simpa using c2
          exact ⟨fun h => by simp at h, fun _ => by rw [e0, g2 c2]⟩
      · rw [if_neg c1]
        by_cases c2 : T p = 40
        · rw [if_pos c2]
          have pL := lt_L hT (p := p) (by omega)
          obtain ⟨f, rfl⟩ : ∃ g, f = g + 1 := ⟨f - 1, by omega⟩
          have e0 : mEm T (f + 1) p (List.replicate k 33 ++ Q) w C 1 = mEm T f (p + 1) (40 :: (List.replicate k 33 ++ Q)) (w + 1) C 1 := by
            rw [mEm, if_neg (by decide), if_neg c1, if_pos c2, if_neg (by omega)]
          obtain ⟨g1, g2⟩ := any_P hT ih (P := 40 :: (List.replicate k 33 ++ Q)) (fun t r z => by
            have := (List.cons_eq_cons.1 z).1
            omega) (p := p + 1) (C := C) (f := f) (by omega) (by omega)
          by_cases c3 : (sAny T (sOne T n (w + 1)) (p + 1)).1 = true
          · rw [if_pos c3]
            obtain ⟨q1, f', q2, q3⟩ := g1 c3
            rw [e0, q3]
            by_cases c4 : T (sAny T (sOne T n (w + 1)) (p + 1)).2.1 = 41
            · rw [if_pos c4]
              have pL2 := lt_L hT (p := (sAny T (sOne T n (w + 1)) (p + 1)).2.1) (by omega)
              refine ⟨fun _ => ⟨by dsimp only; omega, f', by dsimp only; omega, ?_⟩, fun h => by simp at h⟩
              rw [mCl, if_neg (by simp), if_pos c4, List.tail_cons, whol_k hQ]
              dsimp only
              rw [show w + 1 - 1 - (k : Int) = w - k by omega]
            · rw [if_neg c4]
              refine ⟨fun h => by simp at h, fun _ => ?_⟩
              rw [mCl, if_neg (by simp), if_neg c4]
          · rw [if_neg c3]
            have c3 : (sAny T (sOne T n (w + 1)) (p + 1)).1 = false := by simpa using c3
            exact ⟨fun h => by simp at h, fun _ => by rw [e0, g2 c3]⟩
        · rw [if_neg c2]
          exact test_P hT hQ hp hf (.inl c1) (.inl c2)
    · rw [if_neg c]
      exact test_P hT hQ hp hf (.inr (by omega)) (.inr (by omega))
theorem E_P {T : Int → Int} {L p : Int} (hT : TX T L) (hp : 0 ≤ p ∧ p ≤ L) : mEm T 20000 p [] 0 [] 1 = some (if (sAny T (sOne T 6 0) p).1 = true then (true, (sAny T (sOne T 6 0) p).2.1, (sAny T (sOne T 6 0) p).2.2) else (false, (sAny T (sOne T 6 0) p).2.1, [])) := by
  obtain ⟨g1, g2⟩ := any_P hT (one_P hT 6 0 rfl (by omega) (by omega)) (P := []) (fun t r z => by simp at z) (p := p) (C := []) (f := 20000) hp (by have := hT.1; omega)
  by_cases c : (sAny T (sOne T 6 0) p).1 = true
  · rw [if_pos c]
    obtain ⟨-, f', -, q⟩ := g1 c
    rw [q, mCl, if_pos rfl, List.nil_append]
  · rw [if_neg c]
    exact g2 (by simpa using c)
/-- how many tests -/
def tstN : List Int → Nat
  | [] => 0
  | z :: r => (if 0 ≤ z then 1 else 0) + tstN r
theorem tstN_app : ∀ (a b : List Int), tstN (a ++ b) = tstN a + tstN b
  | [], b => by simp [tstN]
  | z :: r, b => by rw [List.cons_append, tstN, tstN, tstN_app r b]; omega
/-- an operand's code, read from p to q -/
def GZ (c : List Int) (p q : Int) : Prop := c.length + p ≤ q ∧ 3 * tstN c + p ≤ q ∧ 1 ≤ tstN c ∧ (∀ (d : Int) rest, 0 ≤ d → d + tstN c ≤ 31 → okC (d + 1) rest → okC d (c ++ rest))
def OneS (L : Int) (ro : Int → RZ) : Prop := ∀ p, 0 ≤ p → p ≤ L → (ro p).1 = true → (p + 1 ≤ (ro p).2.1 ∧ (ro p).2.1 ≤ L) ∧ GZ (ro p).2.2 p (ro p).2.1
theorem GZ_op {a b : List Int} {p q r z : Int} (ha : GZ a p q) (hb : GZ b (q + 1) r) (hz : z = -38 ∨ z = -124) : GZ (a ++ b ++ [z]) p r := by
  obtain ⟨a1, a2, a3, a4⟩ := ha
  obtain ⟨b1, b2, b3, b4⟩ := hb
  have t1 : tstN [z] = 0 := by
    rw [tstN, tstN, if_neg (by omega)]
  refine ⟨?_, ?_, ?_, fun d rest d0 hd hr => ?_⟩
  · rw [List.length_append, List.length_append, List.length_singleton]
    omega
  · rw [tstN_app, tstN_app, t1]
    omega
  · rw [tstN_app, tstN_app, t1]
    omega
  · rw [tstN_app, tstN_app, t1] at hd
    rw [List.append_assoc, List.append_assoc]
    refine a4 d _ d0 (by omega) (b4 (d + 1) _ (by omega) (by omega) ?_)
    rw [List.singleton_append, okC, if_neg (by omega), if_pos hz]
    refine ⟨by omega, ?_⟩
    rw [show d + 1 + 1 - 1 = d + 1 by omega]
    exact hr
theorem GZ_not {a : List Int} {p q : Int} (ha : GZ a (p + 1) q) : GZ (a ++ [-33]) p q := by
  obtain ⟨a1, a2, a3, a4⟩ := ha
  have t1 : tstN [(-33 : Int)] = 0 := rfl
  refine ⟨?_, ?_, ?_, fun d rest d0 hd hr => ?_⟩
  · rw [List.length_append, List.length_singleton]
    omega
  · rw [tstN_app, t1]
    omega
  · rw [tstN_app, t1]
    omega
  · rw [tstN_app, t1] at hd
    rw [List.append_assoc]
    refine a4 d _ d0 (by omega) ?_
    rw [List.singleton_append, okC, if_pos rfl]
    exact ⟨by omega, hr⟩
theorem GZ_mono {a : List Int} {p q p' q' : Int} (ha : GZ a p q) (h : p' ≤ p ∧ q ≤ q') : GZ a p' q' := by
  obtain ⟨a1, a2, a3, a4⟩ := ha
  exact ⟨by omega, by omega, a3, a4⟩
theorem rdT_G {T : Int → Int} {L p : Int} (hT : TX T L) (h : (rdT T p).1 = true) : GZ (rdT T p).2.2 p (rdT T p).2.1 := by
  have b := rdT_p hT h
  unfold rdT at h b ⊢
  by_cases c1 : placeN (T p) < 0
  · rw [if_pos c1] at h; simp at h
  · have pb := placeN_b c1
    rw [if_neg c1] at h b ⊢
    by_cases c2 : 60 ≤ T (p + 1) ∧ T (p + 1) ≤ 62
    · rw [if_pos c2] at h b ⊢
      by_cases c3 : (rdN T (p + 2)).1 = true
      · rw [if_pos c3] at b ⊢
        have nb := rdN_p hT c3
        generalize placeN (T p) = f at pb ⊢
        generalize (rdN T (p + 2)).2.1 = n at nb ⊢
        have z0 : 0 ≤ 1000 * f + 100 * (T (p + 1) - 60) + n := by omega
        have tt : tstN [1000 * f + 100 * (T (p + 1) - 60) + n] = 1 := by
          rw [tstN, tstN, if_pos z0]
        refine ⟨?_, ?_, ?_, fun d rest d0 hd hr => ?_⟩
        · rw [List.length_singleton]
          dsimp only at b ⊢
          omega
        · rw [tt]
          dsimp only at b ⊢
          omega
        · rw [tt]; omega
        · rw [tt] at hd
          rw [List.singleton_append, okC, if_neg (by omega), if_neg (by omega)]
          exact ⟨z0, by omega, by omega, by omega, hr⟩
      · rw [if_neg c3] at h; simp at h
    · rw [if_neg c2] at h; simp at h
theorem and_S {T : Int → Int} {L : Int} (hT : TX T L) {ro : Int → RZ} (H : OneS L ro) : ∀ (m : Nat) (p q : Int) (c : List Int), 0 ≤ p → p ≤ q → q ≤ L → GZ c p q → (sAnd T ro m q c).1 = true → (q ≤ (sAnd T ro m q c).2.1 ∧ (sAnd T ro m q c).2.1 ≤ L) ∧ GZ (sAnd T ro m q c).2.2 p (sAnd T ro m q c).2.1
  | 0, p, q, c, p0, pq, qL, hg, h => by
    rw [sAnd]
    exact ⟨by dsimp only; omega, hg⟩
  | m + 1, p, q, c, p0, pq, qL, hg, h => by
    rw [sAnd] at h ⊢
    by_cases c1 : T q = 38
    · rw [if_pos c1] at h ⊢
      have pL := lt_L hT (p := q) (by omega)
      by_cases c2 : (ro (q + 1)).1 = true
      · rw [if_pos c2] at h ⊢
        obtain ⟨g1, g2⟩ := H (q + 1) (by omega) (by omega) c2
        have := and_S hT H m p (ro (q + 1)).2.1 _ p0 (by omega) (by omega) (GZ_op hg g2 (.inl rfl)) h
        exact ⟨by omega, this.2⟩
      · rw [if_neg c2] at h; simp at h
    · rw [if_neg c1] at h ⊢
      exact ⟨by dsimp only; omega, hg⟩
theorem all_S {T : Int → Int} {L : Int} (hT : TX T L) {ro : Int → RZ} (H : OneS L ro) : OneS L (sAll T ro) := fun p p0 pL h => by
  unfold sAll at h ⊢
  by_cases c2 : (ro p).1 = true
  · rw [if_pos c2] at h ⊢
    obtain ⟨g1, g2⟩ := H p p0 pL c2
    have := and_S hT H 99 p (ro p).2.1 (ro p).2.2 p0 (by omega) (by omega) g2 h
    exact ⟨by omega, this.2⟩
  · rw [if_neg c2] at h; simp at h
theorem or_S {T : Int → Int} {L : Int} (hT : TX T L) {ro : Int → RZ} (H : OneS L ro) : ∀ (m : Nat) (p q : Int) (c : List Int), 0 ≤ p → p ≤ q → q ≤ L → GZ c p q → (sOr T ro m q c).1 = true → (q ≤ (sOr T ro m q c).2.1 ∧ (sOr T ro m q c).2.1 ≤ L) ∧ GZ (sOr T ro m q c).2.2 p (sOr T ro m q c).2.1
  | 0, p, q, c, p0, pq, qL, hg, h => by
    rw [sOr]
    exact ⟨by dsimp only; omega, hg⟩
  | m + 1, p, q, c, p0, pq, qL, hg, h => by
    rw [sOr] at h ⊢
    by_cases c1 : T q = 124
    · rw [if_pos c1] at h ⊢
      have pL := lt_L hT (p := q) (by omega)
      by_cases c2 : (sAll T ro (q + 1)).1 = true
      · rw [if_pos c2] at h ⊢
        obtain ⟨g1, g2⟩ := all_S hT H (q + 1) (by omega) (by omega) c2
        have := or_S hT H m p (sAll T ro (q + 1)).2.1 _ p0 (by omega) (by omega) (GZ_op hg g2 (.inr rfl)) h
        exact ⟨by omega, this.2⟩
      · rw [if_neg c2] at h; simp at h
    · rw [if_neg c1] at h ⊢
      exact ⟨by dsimp only; omega, hg⟩
theorem any_S {T : Int → Int} {L : Int} (hT : TX T L) {ro : Int → RZ} (H : OneS L ro) : OneS L (sAny T ro) := fun p p0 pL h => by
  unfold sAny at h ⊢
  by_cases c2 : (sAll T ro p).1 = true
  · rw [if_pos c2] at h ⊢
    obtain ⟨g1, g2⟩ := all_S hT H p p0 pL c2
    have := or_S hT H 99 p (sAll T ro p).2.1 (sAll T ro p).2.2 p0 (by omega) (by omega) g2 h
    exact ⟨by omega, this.2⟩
  · rw [if_neg c2] at h; simp at h
theorem one_S {T : Int → Int} {L : Int} (hT : TX T L) : ∀ (n : Nat) (w : Int), OneS L (sOne T n w)
  | 0, w => fun p p0 pL h => by rw [sOne] at h; simp at h
  | n + 1, w => fun p p0 pL h => by
    have ih := one_S hT n (w + 1)
    have tst : (rdT T p).1 = true → (p + 1 ≤ (rdT T p).2.1 ∧ (rdT T p).2.1 ≤ L) ∧ GZ (rdT T p).2.2 p (rdT T p).2.1 := fun h => by
      have b := rdT_p hT h
      exact ⟨by omega, rdT_G hT h⟩
    rw [sOne] at h ⊢
    by_cases c : w < 4
    · rw [if_pos c] at h ⊢
      by_cases c1 : T p = 33
      · rw [if_pos c1] at h ⊢
        have pL := lt_L hT (p := p) (by omega)
        by_cases c2 : (sOne T n (w + 1) (p + 1)).1 = true
        · rw [if_pos c2] at h ⊢
          obtain ⟨g1, g2⟩ := ih (p + 1) (by omega) (by omega) c2
          exact ⟨by dsimp only; omega, GZ_not g2⟩
        · rw [if_neg c2] at h; simp at h
      · rw [if_neg c1] at h ⊢
        by_cases c2 : T p = 40
        · rw [if_pos c2] at h ⊢
          have pL := lt_L hT (p := p) (by omega)
          by_cases c3 : (sAny T (sOne T n (w + 1)) (p + 1)).1 = true
          · rw [if_pos c3] at h ⊢
            obtain ⟨g1, g2⟩ := any_S hT ih (p + 1) (by omega) (by omega) c3
            by_cases c4 : T (sAny T (sOne T n (w + 1)) (p + 1)).2.1 = 41
            · rw [if_pos c4] at h ⊢
              have pL2 := lt_L hT (p := (sAny T (sOne T n (w + 1)) (p + 1)).2.1) (by omega)
              exact ⟨by dsimp only; omega, GZ_mono g2 (by dsimp only; omega)⟩
            · rw [if_neg c4] at h; simp at h
          · rw [if_neg c3] at h; simp at h
        · rw [if_neg c2] at h ⊢
          exact tst h
    · rw [if_neg c] at h ⊢
      exact tst h
/-- a word at p -/
def sWd (T : Int → Int) : List Int → Int → Bool × Int
  | [], p => (true, p)
  | c :: r, p => if T p = c then sWd T r (p + 1) else (false, p)
def wdL (w : Int) : List Int := if w = 0 then [104, 111, 116, 32] else if w = 1 then [99, 111, 108, 100, 32] else if w = 2 then [110, 101, 101, 100, 32] else [119, 101, 97, 114, 32]
def wdOf (c : Int) : Int := if c = 99 then 1 else if c = 104 then 0 else if c = 110 then 2 else 3
/-- a clause at p -/
def sCl (T : Int → Int) (p : Int) : Bool × Int × CL :=
  if (sWd T (wdL (wdOf (T p))) p).1 then
    (if (rdN T (sWd T (wdL (wdOf (T p))) p).2).1 then
      (if wdOf (T p) < 2 then
        (if T (rdN T (sWd T (wdL (wdOf (T p))) p).2).2.2 = 32 then
          (if (sAny T (sOne T 6 0) ((rdN T (sWd T (wdL (wdOf (T p))) p).2).2.2 + 1)).1 then (true, (sAny T (sOne T 6 0) ((rdN T (sWd T (wdL (wdOf (T p))) p).2).2.2 + 1)).2.1, (wdOf (T p), (rdN T (sWd T (wdL (wdOf (T p))) p).2).2.1, (sAny T (sOne T 6 0) ((rdN T (sWd T (wdL (wdOf (T p))) p).2).2.2 + 1)).2.2))
          else (false, (sAny T (sOne T 6 0) ((rdN T (sWd T (wdL (wdOf (T p))) p).2).2.2 + 1)).2.1, (0, 0, [])))
        else (false, (rdN T (sWd T (wdL (wdOf (T p))) p).2).2.2, (0, 0, [])))
      else (true, (rdN T (sWd T (wdL (wdOf (T p))) p).2).2.2, (wdOf (T p), (rdN T (sWd T (wdL (wdOf (T p))) p).2).2.1, [])))
    else (false, (rdN T (sWd T (wdL (wdOf (T p))) p).2).2.2, (0, 0, [])))
  else (false, (sWd T (wdL (wdOf (T p))) p).2, (0, 0, []))
def sCls (T : Int → Int) (L : Int) : Nat → Int → Bool × Int × List CL
  | 0, p => (false, p, [])
  | m + 1, p => if (sCl T p).1 then (if (sCl T p).2.1 = L then (true, L, [(sCl T p).2.2]) else if m = 0 then (false, (sCl T p).2.1, []) else if T (sCl T p).2.1 = 59 then (if (sCls T L m ((sCl T p).2.1 + 1)).1 then (true, (sCls T L m ((sCl T p).2.1 + 1)).2.1, (sCl T p).2.2 :: (sCls T L m ((sCl T p).2.1 + 1)).2.2) else (false, (sCls T L m ((sCl T p).2.1 + 1)).2.1, [])) else (false, (sCl T p).2.1, [])) else (false, (sCl T p).2.1, [])
theorem sWd_p {T : Int → Int} {L : Int} (hT : TX T L) : ∀ (w : List Int) (p : Int), (∀ c ∈ w, 0 ≤ c) → p ≤ L → (sWd T w p).1 = true → (sWd T w p).2 = p + w.length ∧ p + w.length ≤ L
  | [], p, hw, hp, h => by rw [sWd]; simp; exact hp
  | c :: r, p, hw, hp, h => by
    rw [sWd] at h ⊢
    by_cases c1 : T p = c
    · rw [if_pos c1] at h ⊢
      have pL := lt_L hT (p := p) (by have := hw c List.mem_cons_self; omega)
      have := sWd_p hT r (p + 1) (fun x hx => hw x (List.mem_cons_of_mem _ hx)) (by omega) h
      rw [List.length_cons]
      omega
    · rw [if_neg c1] at h; simp at h
theorem wdL_b (w : Int) : (∀ c ∈ wdL w, 0 ≤ c) ∧ 4 ≤ (wdL w).length := by
  unfold wdL
  repeat' split
  all_goals decide
theorem wdOf_b (c : Int) : 0 ≤ wdOf c ∧ wdOf c ≤ 3 := by
  unfold wdOf
  repeat' split
  all_goals decide
/-- what a clause read from p to q is -/
def GC (q : CL) (p r : Int) : Prop := (0 ≤ q.1 ∧ q.1 ≤ 3) ∧ (0 ≤ q.2.1 ∧ q.2.1 ≤ 99) ∧ (q.1 < 2 → q.2.2.length + p + 6 ≤ r ∧ okC 0 q.2.2)
theorem sCl_G {T : Int → Int} {L p : Int} (hT : TX T L) (p0 : 0 ≤ p) (pL : p ≤ L) (h : (sCl T p).1 = true) : (p + 1 ≤ (sCl T p).2.1 ∧ (sCl T p).2.1 ≤ L) ∧ GC (sCl T p).2.2 p (sCl T p).2.1 := by
  have wb := wdOf_b (T p)
  have wl := wdL_b (wdOf (T p))
  unfold sCl at h ⊢
  by_cases c1 : (sWd T (wdL (wdOf (T p))) p).1 = true
  · have w1 := sWd_p hT _ p wl.1 pL c1
    rw [if_pos c1] at h ⊢
    by_cases c2 : (rdN T (sWd T (wdL (wdOf (T p))) p).2).1 = true
    · have n1 := rdN_p hT c2
      rw [if_pos c2] at h ⊢
      by_cases c3 : wdOf (T p) < 2
      · rw [if_pos c3] at h ⊢
        by_cases c4 : T (rdN T (sWd T (wdL (wdOf (T p))) p).2).2.2 = 32
        · rw [if_pos c4] at h ⊢
          have pL2 := lt_L hT (p := (rdN T (sWd T (wdL (wdOf (T p))) p).2).2.2) (by omega)
          by_cases c5 : (sAny T (sOne T 6 0) ((rdN T (sWd T (wdL (wdOf (T p))) p).2).2.2 + 1)).1 = true
          · rw [if_pos c5]
            obtain ⟨g1, g2, g3, g4, g5⟩ := any_S hT (one_S hT 6 0) _ (by omega) (by omega) c5
            refine ⟨by dsimp only; omega, wb, n1.2.2.2, fun _ => ⟨by dsimp only; omega, ?_⟩⟩
            have := g5 0 [] (by omega) (by have := hT.1; omega) (by rw [okC]; rfl)
            rw [List.append_nil] at this
            exact this
          · rw [if_neg c5] at h; simp at h
        · rw [if_neg c4] at h; simp at h
      · rw [if_neg c3]
        exact ⟨by dsimp only; omega, wb, n1.2.2.2, fun z => absurd z c3⟩
    · rw [if_neg c2] at h; simp at h
  · rw [if_neg c1] at h; simp at h
