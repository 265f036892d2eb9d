/-! THE PURE PART: from here on no bytecode, only functions over the memory -/
theorem wwP {z : Int} (h : -2147483648 ≤ z ∧ z ≤ 2147483647) : ww z = z := by
  unfold ww
  rw [Int32.toInt_ofInt, show Int32.size = 4294967296 from rfl]
  exact Int.bmod_eq_of_le (by omega) (by omega)
theorem ckP {α : Type} {i n : Int} {x : Option α} (h : 0 ≤ i ∧ i < n) : ck i n x = x := by unfold ck; rw [if_pos h]
theorem ckzP {α : Type} {i : Int} {x : Option α} (h : ¬ i = 0) : ckz i x = x := by unfold ckz; rw [if_neg h]
theorem ckbP {α : Type} {i : Int} {x : Option α} (h : i = 0 ∨ i = 1) : ckb i x = x := by unfold ckb; rw [if_pos h]
theorem ckhP {α : Type} {S : SS} {q : Int} {x : Option α} (h : isHb S q = true) : ckh S q x = x := by unfold ckh; rw [if_pos h]
theorem ckhnP {α : Type} {S : SS} {q : Int} {x : Option α} (h : q ≤ 0 ∨ isHb S (q - 1) = true) : ckhn S q x = x := by unfold ckhn; rw [if_pos h]
theorem u2S {f : HH} {k j v : Int} : u2 f k j v k j = v := by simp [u2]
theorem u2N {f : HH} {k j v a b : Int} (h : a ≠ k ∨ b ≠ j) : u2 f k j v a b = f a b := by unfold u2; rw [if_neg (by omega)]
theorem u2T {f : HH} {k j v a b : Int} (h : a = k ∧ b = j) : u2 f k j v a b = v := by unfold u2; rw [if_pos h]
/-- an int of the law's script -/
def isI (z : Int) : Prop := -2147483648 ≤ z ∧ z ≤ 2147483647
theorem isI_of {z : Int} (h : ∃ x : Int32, z = x.toInt) : isI z := by
  obtain ⟨x, rfl⟩ := h
  have h1 := Int32.minValue_le_toInt x
  have h2 := Int32.toInt_le x
  exact ⟨h1, Int.le_trans h2 (by decide)⟩
theorem m_inP {a lo hi : Int} (ha : isI a) (hl : isI lo) (hh : isI hi) : m_in a lo hi = if lo ≤ a ∧ a ≤ hi then 1 else 0 := by
  unfold m_in
  rw [wwP ha, wwP hl, wwP hh]
  by_cases c : lo ≤ a ∧ a ≤ hi
  · rw [if_pos c, if_neg (by omega), if_neg (by omega)]
  · rw [if_neg c]
    by_cases d : a < lo
    · rw [if_pos d]
    · rw [if_neg d, if_pos (by omega)]
theorem m_in0 {a lo hi : Int} (h : (lo ≤ a ∧ a ≤ hi) ∧ -2147483648 ≤ lo ∧ hi ≤ 2147483647) : ww (m_in a lo hi) = 1 := by
  rw [m_inP (by unfold isI; omega) (by unfold isI; omega) (by unfold isI; omega), if_pos h.1]; rfl
theorem m_in1 {a lo hi : Int} (h : ¬ (lo ≤ a ∧ a ≤ hi) ∧ (-2147483648 ≤ a ∧ a ≤ 2147483647) ∧ (-2147483648 ≤ lo ∧ lo ≤ 2147483647) ∧ (-2147483648 ≤ hi ∧ hi ≤ 2147483647)) : ww (m_in a lo hi) = 0 := by
  rw [m_inP h.2.1 h.2.2.1 h.2.2.2, if_neg h.1]; rfl
theorem x_isTreeP {a : Int} (ha : isI a) : x_isTree a = if 0 ≤ a ∧ a < 5 then 1 else 0 := by
  unfold x_isTree
  rw [wwP ha]
  by_cases c : 0 ≤ a ∧ a < 5
  · rw [if_pos c, if_neg (by omega), if_pos (by omega)]
  · rw [if_neg c]
    by_cases d : a < 0
    · rw [if_pos d]
    · rw [if_neg d, if_neg (by omega)]
theorem x_isHateP {a : Int} (ha : isI a) : x_isHate a = if 0 ≤ a ∧ a ≤ 99 then 1 else 0 := by
  unfold x_isHate
  rw [wwP ha]
  by_cases c : 0 ≤ a ∧ a ≤ 99
  · rw [if_pos c, if_neg (by omega), if_neg (by omega)]
  · rw [if_neg c]
    by_cases d : a < 0
    · rw [if_pos d]
    · rw [if_neg d, if_pos (by omega)]
theorem x_isYearsP {a : Int} (ha : isI a) : x_isYears a = if 0 ≤ a ∧ a ≤ 60 then 1 else 0 := by
  unfold x_isYears
  rw [wwP ha]
  by_cases c : 0 ≤ a ∧ a ≤ 60
  · rw [if_pos c, if_neg (by omega), if_neg (by omega)]
  · rw [if_neg c]
    by_cases d : a < 0
    · rw [if_pos d]
    · rw [if_neg d, if_pos (by omega)]
theorem x_isTapeP {a : Int} (ha : isI a) : x_isTape a = if 0 ≤ a ∧ a < 6 then 1 else 0 := by
  unfold x_isTape
  rw [wwP ha]
  by_cases c : 0 ≤ a ∧ a < 6
  · rw [if_pos c, if_neg (by omega), if_pos (by omega)]
  · rw [if_neg c]
    by_cases d : a < 0
    · rw [if_pos d]
    · rw [if_neg d, if_neg (by omega)]
theorem xw_hasP {h : HH} {w a n : Int} (ha : isI a) (hn : h w 4 = n) (hb : isI n) : xw_has h w a = if 0 ≤ a ∧ a < n then 1 else 0 := by
  unfold xw_has
  rw [wwP ha, hn, wwP hb]
  by_cases c : 0 ≤ a ∧ a < n
  · rw [if_pos c, if_neg (by omega), if_pos (by omega)]
  · rw [if_neg c]
    by_cases d : a < 0
    · rw [if_pos d]
    · rw [if_neg d, if_neg (by omega)]
theorem x_bitP {a : Int} (h : a = 0 ∨ a = 1) : x_bit a = a := by
  unfold x_bit
  rcases h with rfl | rfl <;> rfl
/-- MR: what of the Model's cells counts (the rest is scratch): h is as the abstract state A there -/
def rel (c _j : Int) : Prop := (193 ≤ c ∧ c ≤ 208) ∨ (210 ≤ c ∧ c ≤ 241)
/-- the memory h beside k: only the Model's cells are others; the Model's cells are as A's -/
def MR (k h A : HH) : Prop := (∀ c j, (c < 193 ∨ 242 < c) → h c j = k c j) ∧ ∀ c j, rel c j → h c j = A c j
/-- an orchard's clause: word (0 hot, 1 cold, 2 need, 3 wear), n, code -/
abbrev CL : Type := Int × Int × List Int
def stepX (z : Int) : Int := if z = -33 then -1 else if z = -38 then -2 else if z = -124 then -3 else 3 * (z / 1000) + z / 100 % 10
def numX (z : Int) : Int := z % 100
def codeX (L : List CL) : List (Int × Option Int) := L.flatMap fun q => if q.1 < 2 then q.2.2.map (fun z => (stepX z, if z < 0 then none else some (numX z))) ++ [(if q.1 = 0 then -4 else -5, some q.2.1)] else []
def lastC (L : List CL) (w d : Int) : Int := L.foldl (fun a q => if q.1 = w then q.2.1 else a) d
/-- the code: a test (1000 f + 100 s + n), or one of the words below 0; how deep, with d below it -/
def okC : Int → List Int → Prop
  | d, [] => d = 1
  | d, z :: r => if z = -33 then 1 ≤ d ∧ okC d r else if z = -38 ∨ z = -124 then 2 ≤ d ∧ okC (d - 1) r else 0 ≤ z ∧ z / 1000 < 6 ∧ z / 100 % 10 < 3 ∧ d < 31 ∧ okC (d + 1) r
/-- a clause as the Model keeps it, at i -/
def MCl (A : HH) (f i : Int) (q : CL) : Prop := A 202 i = q.1 ∧ A 203 i = q.2.1 ∧ (0 ≤ q.1 ∧ q.1 ≤ 3) ∧ (0 ≤ q.2.1 ∧ q.2.1 ≤ 99) ∧ (q.1 < 2 → 100 * f ≤ A 204 i ∧ A 205 i = A 204 i + q.2.2.length ∧ A 205 i ≤ 100 * f + 100 ∧ (∀ j : Nat, j < q.2.2.length → A 206 (A 204 i + j) = q.2.2.getD j 0) ∧ okC 0 q.2.2)
def MO (A : HH) (f : Int) (L : List CL) : Prop := A 201 f = L.length ∧ 1 ≤ L.length ∧ L.length ≤ 10 ∧ ∀ i : Nat, i < L.length → MCl A f (10 * f + i) (L.getD i (0, 0, []))
def XO (h : HH) (f : Int) (L : List CL) : Prop := h (175 + 3 * f) 0 = lastC L 2 20 ∧ h (175 + 3 * f) 1 = lastC L 3 3 ∧ h (175 + 3 * f) 4 = (codeX L).length ∧ (codeX L).length ≤ 100 ∧ ∀ i : Nat, i < (codeX L).length → h (176 + 3 * f) i = ((codeX L).getD i (0, none)).1 ∧ ∀ v, ((codeX L).getD i (0, none)).2 = some v → h (177 + 3 * f) i = v
/-- the bounds of the lists -/
def LOK (A : HH) : Prop := (0 ≤ A 193 38 ∧ A 193 38 ≤ 5) ∧ (0 ≤ A 193 43 ∧ A 193 43 ≤ 10) ∧ (0 ≤ A 193 44 ∧ A 193 44 ≤ 8) ∧
  (∀ i, 0 ≤ i → i < A 193 38 → (0 ≤ A 216 i ∧ A 216 i < A 193 0) ∧ (0 ≤ A 217 i ∧ A 217 i < 5) ∧ (0 ≤ A 218 i ∧ A 218 i ≤ 20) ∧ (A 219 i = 0 ∨ A 219 i = 1)) ∧
  (∀ i, 0 ≤ i → i < A 193 43 → (0 ≤ A 220 i ∧ A 220 i ≤ 3) ∧ (A 220 i = 1 ∨ A 220 i = 2 → 0 ≤ A 221 i ∧ A 221 i < A 193 0) ∧ (A 220 i = 3 → 0 ≤ A 221 i ∧ A 221 i / 10 < 5 ∧ (A 221 i % 10 = 9 ∨ A 221 i % 10 < A 193 0))) ∧
  (∀ i, 0 ≤ i → i < A 193 44 → (0 ≤ A 222 i ∧ A 222 i < 5) ∧ (0 ≤ A 223 i ∧ A 223 i ≤ 9999)) ∧
  (∀ i, 0 ≤ i → i < 5 → A 219 i = 0 ∨ A 219 i = 1)
/-- the bounds of a world, in the year Y at most, N orchards -/
def WOK (Y N : Int) (A : HH) : Prop := (0 ≤ A 193 0 ∧ A 193 0 ≤ 6) ∧ (0 ≤ A 193 2 ∧ A 193 2 ≤ Y) ∧ (0 ≤ A 193 1 ∧ A 193 1 < 64) ∧ (-1 ≤ A 193 10 ∧ A 193 10 < N) ∧
  (∀ p, 0 ≤ p → p < A 193 0 → 0 ≤ A 194 p ∧ A 194 p ≤ 6) ∧ (∀ p, 0 ≤ p → p < A 193 0 → 0 ≤ A 195 p ∧ A 195 p ≤ 9) ∧
  (∀ p t, 0 ≤ p → p < A 193 0 → 0 ≤ t → t < 5 → 0 ≤ A 196 (5 * p + t) ∧ A 196 (5 * p + t) ≤ 99) ∧ (∀ p i, 0 ≤ p → p < A 193 0 → 0 ≤ i → i < 4 → 0 ≤ A 197 (4 * p + i) ∧ A 197 (4 * p + i) ≤ 9) ∧
  (∀ t, 0 ≤ t → t < 5 → 0 ≤ A 198 t ∧ A 198 t ≤ A 193 2) ∧ (∀ t, 0 ≤ t → t < 5 → A 199 t = -5 ∨ (0 ≤ A 199 t ∧ A 199 t < A 193 0)) ∧
  (∀ t u, 0 ≤ t → t < 5 → 0 ≤ u → u < 5 → t ≠ u → A 199 t = A 199 u → A 199 t = -5)
/-- a world of the class, as A has it -/
def XC (S : SS) (h : HH) (w : Int) (A : HH) : Prop := (0 ≤ A 193 0 ∧ A 193 0 ≤ 6 ∧ h w 4 = A 193 0) ∧ h w 7 = A 193 2 ∧ (h w 11 = if A 193 10 < 0 then 0 else 176 + 3 * A 193 10) ∧
  (∀ p, 0 ≤ p → p < 6 → (h (w + 1) p ≤ 0 ∨ isHb S (h (w + 1) p - 1) = true) ∧ (h (w + 2) p = 0 ∨ h (w + 2) p = 1)) ∧
  (∀ p, 0 ≤ p → p < A 193 0 → isHb S (h (w + 1) p - 1) = true ∧ S.1 (h (w + 1) p - 1) (-1) = nhC (A 194 p) ∧ h (h (w + 1) p - 1) 0 = A 194 p ∧ h (h (w + 1) p - 1) 1 = p ∧ h (h (w + 1) p - 1) 2 = A 195 p) ∧
  (∀ p, 0 ≤ p → p < A 193 0 → h (w + 2) p = m_has (A 193 1) p) ∧
  (∀ p t, 0 ≤ p → p < A 193 0 → 0 ≤ t → t < 5 → h (w + 4 + p) t = A 196 (5 * p + t)) ∧ (∀ p i, 0 ≤ p → p < A 193 0 → 0 ≤ i → i < 4 → h (w + 11 + p) i = A 197 (4 * p + i)) ∧
  (∀ t, 0 ≤ t → t < 5 → h (w + 17) t = A 198 t) ∧ (∀ t, 0 ≤ t → t < 5 → h (w + 18) t = A 199 t)
/-- the lists of a world of the class -/
def XL (h : HH) (w : Int) (A : HH) : Prop := (A 193 38 ≤ 5 ∧ h (w + 19) 1 = A 193 38) ∧ (A 193 43 ≤ 10 ∧ h (w + 26) 1 = A 193 43) ∧ (A 193 44 ≤ 8 ∧ h (w + 38) 1 = A 193 44) ∧
  (∀ i, 0 ≤ i → i < A 193 38 → h (w + 21 + i) 0 = A 216 i ∧ h (w + 21 + i) 1 = A 217 i ∧ h (w + 21 + i) 2 = A 218 i ∧ h (w + 21 + i) 3 = A 219 i) ∧
  (∀ i, 0 ≤ i → i < A 193 43 → h (w + 28 + i) 0 = A 220 i ∧ (A 220 i ≠ 0 → h (w + 28 + i) 1 = A 221 i)) ∧
  (∀ i, 0 ≤ i → i < A 193 44 → h (w + 40 + i) 0 = A 222 i ∧ h (w + 40 + i) 1 = A 223 i)
/-- the image, as a world -/
def imS (j : Int) : Int := if j = 0 then 51 else if j = 1 then 52 else if j = 2 then 53 else if j = 10 then 50 else if j = 38 then 54 else if j = 43 then 55 else 56
def imC (c : Int) : Int := if c < 200 then c + 30 else if c < 219 then c + 14 else if c = 219 then 237 else c + 13
def imA (A : HH) : HH := fun c j => if c = 193 then A 193 (imS j) else A (imC c) j
/-- the tapes, the text, the trace of the class -/
def XT (S : SS) (h A : HH) : Prop := h 148 1 = A 193 11 ∧ (0 ≤ A 193 11 ∧ A 193 11 ≤ 100) ∧ (∀ i, 0 ≤ i → i < A 193 11 → h 149 i = A 200 i ∧ 0 ≤ A 200 i ∧ A 200 i ≤ 127) ∧
  (∀ t, 0 ≤ t → t < 6 → (A 239 t = -1 ∨ (0 ≤ A 239 t ∧ A 239 t ≤ 4)) ∧ h 166 t = (if A 239 t < 0 then -5 else A 239 t) ∧ h 167 t = A 240 t ∧ (0 ≤ A 240 t ∧ A 240 t ≤ 60) ∧ (A 239 t < 0 → A 240 t = 0) ∧ ∀ i, 0 ≤ i → i < A 240 t → h (169 + t) i = A 241 (60 * t + i)) ∧
  h 151 2 = A 193 71 ∧ (0 ≤ A 193 71 ∧ A 193 71 ≤ 12) ∧ (∀ j, 0 ≤ j → j < 64 → h 165 j = 0) ∧
  ((h 151 1 = -7 ∧ A 193 71 = 0) ∨ (0 < h 151 1 ∧ 243 ≤ h 151 1 - 1 ∧ h 151 1 - 1 < S.2 ∧ S.1 (h 151 1 - 1) (-1) = 27 ∧ (S.1 (h 151 1 - 1) (-2) = 10 ∨ S.1 (h 151 1 - 1) (-2) = 15) ∧ A 193 71 ≤ S.1 (h 151 1 - 1) (-2) ∧ ∀ i, 0 ≤ i → i < A 193 71 → h (h 151 1 - 1) i = A 238 i ∧ 1 ≤ A 238 i ∧ A 238 i ≤ 127))
/-- the class's side, beside k: the Model's cells are as k's -/
def XR (S : SS) (k h A : HH) (O : Int → List CL) : Prop := (∀ c j, 193 ≤ c → c ≤ 242 → h c j = k c j) ∧ XC S h 1 A ∧ XL h 1 A ∧ XT S h A ∧
  h 0 3 = A 193 49 ∧ (A 193 49 = 0 ∨ A 193 49 = 1) ∧ (A 193 49 = 1 → XC S h 50 (imA A) ∧ XL h 50 (imA A)) ∧
  h 0 6 = A 193 9 ∧ (0 ≤ A 193 9 ∧ A 193 9 ≤ 6) ∧ ∀ f, 0 ≤ f → f < A 193 9 → XO h f (O f) ∧ MO A f (O f)
/-- what of a hater cell and a null holds in the two worlds that are no world yet -/
def XN (S : SS) (h : HH) (w : Int) : Prop := ∀ p, 0 ≤ p → p < 6 → (h (w + 1) p ≤ 0 ∨ isHb S (h (w + 1) p - 1) = true) ∧ (h (w + 2) p = 0 ∨ h (w + 2) p = 1)
def AOK (A : HH) : Prop := A 193 27 = 9999 ∧ (∀ i : Nat, i < 15 → A 208 i = [104, 111, 116, 99, 111, 108, 100, 110, 101, 101, 100, 119, 101, 97, 114].getD i 0) ∧ WOK 9999 (A 193 9) A ∧ LOK A ∧ (A 193 49 = 1 → WOK 9999 (A 193 9) (imA A) ∧ LOK (imA A))
def Inv (h : HH) (S : SS) : Prop := ∃ (A : HH) (O : Int → List CL), AOK A ∧ XR S h h A O ∧ MR h h A
