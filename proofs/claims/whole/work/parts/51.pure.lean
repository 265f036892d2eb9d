theorem ltT {a b : Int} (h : a < b) : (a < b) = True := eq_true h
theorem ltF {a b : Int} (h : ¬ a < b) : (a < b) = False := eq_false h
theorem eqT {a b : Int} (h : a = b) : (a = b) = True := eq_true h
theorem eqF {a b : Int} (h : ¬ a = b) : (a = b) = False := eq_false h
theorem leT {a b : Int} (h : a ≤ b) : (a ≤ b) = True := eq_true h
theorem leF {a b : Int} (h : ¬ a ≤ b) : (a ≤ b) = False := eq_false h
theorem MR.s0 {k h A : HH} (H : MR k h A) : h 193 0 = A 193 0 := H.2 193 0 (by unfold rel; omega)
theorem MR.s1 {k h A : HH} (H : MR k h A) : h 193 1 = A 193 1 := H.2 193 1 (by unfold rel; omega)
theorem MR.s2 {k h A : HH} (H : MR k h A) : h 193 2 = A 193 2 := H.2 193 2 (by unfold rel; omega)
theorem MR.s9 {k h A : HH} (H : MR k h A) : h 193 9 = A 193 9 := H.2 193 9 (by unfold rel; omega)
theorem MR.s10 {k h A : HH} (H : MR k h A) : h 193 10 = A 193 10 := H.2 193 10 (by unfold rel; omega)
theorem MR.s11 {k h A : HH} (H : MR k h A) : h 193 11 = A 193 11 := H.2 193 11 (by unfold rel; omega)
theorem MR.s27 {k h A : HH} (H : MR k h A) : h 193 27 = A 193 27 := H.2 193 27 (by unfold rel; omega)
theorem MR.s38 {k h A : HH} (H : MR k h A) : h 193 38 = A 193 38 := H.2 193 38 (by unfold rel; omega)
theorem MR.s43 {k h A : HH} (H : MR k h A) : h 193 43 = A 193 43 := H.2 193 43 (by unfold rel; omega)
theorem MR.s44 {k h A : HH} (H : MR k h A) : h 193 44 = A 193 44 := H.2 193 44 (by unfold rel; omega)
theorem MR.s49 {k h A : HH} (H : MR k h A) : h 193 49 = A 193 49 := H.2 193 49 (by unfold rel; omega)
theorem MR.s50 {k h A : HH} (H : MR k h A) : h 193 50 = A 193 50 := H.2 193 50 (by unfold rel; omega)
theorem MR.s51 {k h A : HH} (H : MR k h A) : h 193 51 = A 193 51 := H.2 193 51 (by unfold rel; omega)
theorem MR.s52 {k h A : HH} (H : MR k h A) : h 193 52 = A 193 52 := H.2 193 52 (by unfold rel; omega)
theorem MR.s53 {k h A : HH} (H : MR k h A) : h 193 53 = A 193 53 := H.2 193 53 (by unfold rel; omega)
theorem MR.s54 {k h A : HH} (H : MR k h A) : h 193 54 = A 193 54 := H.2 193 54 (by unfold rel; omega)
theorem MR.s55 {k h A : HH} (H : MR k h A) : h 193 55 = A 193 55 := H.2 193 55 (by unfold rel; omega)
theorem MR.s56 {k h A : HH} (H : MR k h A) : h 193 56 = A 193 56 := H.2 193 56 (by unfold rel; omega)
theorem MR.s71 {k h A : HH} (H : MR k h A) : h 193 71 = A 193 71 := H.2 193 71 (by unfold rel; omega)
theorem MR.r194 {k h A : HH} (H : MR k h A) : ∀ j, h 194 j = A 194 j := fun j => H.2 194 j (by unfold rel; omega)
theorem MR.r195 {k h A : HH} (H : MR k h A) : ∀ j, h 195 j = A 195 j := fun j => H.2 195 j (by unfold rel; omega)
theorem MR.r196 {k h A : HH} (H : MR k h A) : ∀ j, h 196 j = A 196 j := fun j => H.2 196 j (by unfold rel; omega)
theorem MR.r197 {k h A : HH} (H : MR k h A) : ∀ j, h 197 j = A 197 j := fun j => H.2 197 j (by unfold rel; omega)
theorem MR.r198 {k h A : HH} (H : MR k h A) : ∀ j, h 198 j = A 198 j := fun j => H.2 198 j (by unfold rel; omega)
theorem MR.r199 {k h A : HH} (H : MR k h A) : ∀ j, h 199 j = A 199 j := fun j => H.2 199 j (by unfold rel; omega)
theorem MR.r200 {k h A : HH} (H : MR k h A) : ∀ j, h 200 j = A 200 j := fun j => H.2 200 j (by unfold rel; omega)
theorem MR.r201 {k h A : HH} (H : MR k h A) : ∀ j, h 201 j = A 201 j := fun j => H.2 201 j (by unfold rel; omega)
theorem MR.r202 {k h A : HH} (H : MR k h A) : ∀ j, h 202 j = A 202 j := fun j => H.2 202 j (by unfold rel; omega)
theorem MR.r203 {k h A : HH} (H : MR k h A) : ∀ j, h 203 j = A 203 j := fun j => H.2 203 j (by unfold rel; omega)
theorem MR.r204 {k h A : HH} (H : MR k h A) : ∀ j, h 204 j = A 204 j := fun j => H.2 204 j (by unfold rel; omega)
theorem MR.r205 {k h A : HH} (H : MR k h A) : ∀ j, h 205 j = A 205 j := fun j => H.2 205 j (by unfold rel; omega)
theorem MR.r206 {k h A : HH} (H : MR k h A) : ∀ j, h 206 j = A 206 j := fun j => H.2 206 j (by unfold rel; omega)
theorem MR.r208 {k h A : HH} (H : MR k h A) : ∀ j, h 208 j = A 208 j := fun j => H.2 208 j (by unfold rel; omega)
theorem MR.r216 {k h A : HH} (H : MR k h A) : ∀ j, h 216 j = A 216 j := fun j => H.2 216 j (by unfold rel; omega)
theorem MR.r217 {k h A : HH} (H : MR k h A) : ∀ j, h 217 j = A 217 j := fun j => H.2 217 j (by unfold rel; omega)
theorem MR.r218 {k h A : HH} (H : MR k h A) : ∀ j, h 218 j = A 218 j := fun j => H.2 218 j (by unfold rel; omega)
theorem MR.r219 {k h A : HH} (H : MR k h A) : ∀ j, h 219 j = A 219 j := fun j => H.2 219 j (by unfold rel; omega)
theorem MR.r220 {k h A : HH} (H : MR k h A) : ∀ j, h 220 j = A 220 j := fun j => H.2 220 j (by unfold rel; omega)
theorem MR.r221 {k h A : HH} (H : MR k h A) : ∀ j, h 221 j = A 221 j := fun j => H.2 221 j (by unfold rel; omega)
theorem MR.r222 {k h A : HH} (H : MR k h A) : ∀ j, h 222 j = A 222 j := fun j => H.2 222 j (by unfold rel; omega)
theorem MR.r223 {k h A : HH} (H : MR k h A) : ∀ j, h 223 j = A 223 j := fun j => H.2 223 j (by unfold rel; omega)
theorem MR.r224 {k h A : HH} (H : MR k h A) : ∀ j, h 224 j = A 224 j := fun j => H.2 224 j (by unfold rel; omega)
theorem MR.r225 {k h A : HH} (H : MR k h A) : ∀ j, h 225 j = A 225 j := fun j => H.2 225 j (by unfold rel; omega)
theorem MR.r226 {k h A : HH} (H : MR k h A) : ∀ j, h 226 j = A 226 j := fun j => H.2 226 j (by unfold rel; omega)
theorem MR.r227 {k h A : HH} (H : MR k h A) : ∀ j, h 227 j = A 227 j := fun j => H.2 227 j (by unfold rel; omega)
theorem MR.r228 {k h A : HH} (H : MR k h A) : ∀ j, h 228 j = A 228 j := fun j => H.2 228 j (by unfold rel; omega)
theorem MR.r229 {k h A : HH} (H : MR k h A) : ∀ j, h 229 j = A 229 j := fun j => H.2 229 j (by unfold rel; omega)
theorem MR.r230 {k h A : HH} (H : MR k h A) : ∀ j, h 230 j = A 230 j := fun j => H.2 230 j (by unfold rel; omega)
theorem MR.r231 {k h A : HH} (H : MR k h A) : ∀ j, h 231 j = A 231 j := fun j => H.2 231 j (by unfold rel; omega)
theorem MR.r232 {k h A : HH} (H : MR k h A) : ∀ j, h 232 j = A 232 j := fun j => H.2 232 j (by unfold rel; omega)
theorem MR.r233 {k h A : HH} (H : MR k h A) : ∀ j, h 233 j = A 233 j := fun j => H.2 233 j (by unfold rel; omega)
theorem MR.r234 {k h A : HH} (H : MR k h A) : ∀ j, h 234 j = A 234 j := fun j => H.2 234 j (by unfold rel; omega)
theorem MR.r235 {k h A : HH} (H : MR k h A) : ∀ j, h 235 j = A 235 j := fun j => H.2 235 j (by unfold rel; omega)
theorem MR.r236 {k h A : HH} (H : MR k h A) : ∀ j, h 236 j = A 236 j := fun j => H.2 236 j (by unfold rel; omega)
theorem MR.r237 {k h A : HH} (H : MR k h A) : ∀ j, h 237 j = A 237 j := fun j => H.2 237 j (by unfold rel; omega)
theorem MR.r238 {k h A : HH} (H : MR k h A) : ∀ j, h 238 j = A 238 j := fun j => H.2 238 j (by unfold rel; omega)
theorem MR.r239 {k h A : HH} (H : MR k h A) : ∀ j, h 239 j = A 239 j := fun j => H.2 239 j (by unfold rel; omega)
theorem MR.r240 {k h A : HH} (H : MR k h A) : ∀ j, h 240 j = A 240 j := fun j => H.2 240 j (by unfold rel; omega)
theorem MR.r241 {k h A : HH} (H : MR k h A) : ∀ j, h 241 j = A 241 j := fun j => H.2 241 j (by unfold rel; omega)
theorem MR.s12 {k h A : HH} (H : MR k h A) : h 193 12 = A 193 12 := H.2 193 12 (by unfold rel; omega)
theorem MR.s13 {k h A : HH} (H : MR k h A) : h 193 13 = A 193 13 := H.2 193 13 (by unfold rel; omega)
theorem MR.s22 {k h A : HH} (H : MR k h A) : h 193 22 = A 193 22 := H.2 193 22 (by unfold rel; omega)
theorem MR.s23 {k h A : HH} (H : MR k h A) : h 193 23 = A 193 23 := H.2 193 23 (by unfold rel; omega)
theorem MR.s24 {k h A : HH} (H : MR k h A) : h 193 24 = A 193 24 := H.2 193 24 (by unfold rel; omega)
theorem MR.s28 {k h A : HH} (H : MR k h A) : h 193 28 = A 193 28 := H.2 193 28 (by unfold rel; omega)
theorem MR.s29 {k h A : HH} (H : MR k h A) : h 193 29 = A 193 29 := H.2 193 29 (by unfold rel; omega)
theorem MR.s36 {k h A : HH} (H : MR k h A) : h 193 36 = A 193 36 := H.2 193 36 (by unfold rel; omega)
theorem MR.s37 {k h A : HH} (H : MR k h A) : h 193 37 = A 193 37 := H.2 193 37 (by unfold rel; omega)
theorem MR.r207 {k h A : HH} (H : MR k h A) : ∀ j, h 207 j = A 207 j := fun j => H.2 207 j (by unfold rel; omega)
theorem MR.r210 {k h A : HH} (H : MR k h A) : ∀ j, h 210 j = A 210 j := fun j => H.2 210 j (by unfold rel; omega)
theorem MR.r211 {k h A : HH} (H : MR k h A) : ∀ j, h 211 j = A 211 j := fun j => H.2 211 j (by unfold rel; omega)
theorem MR.r212 {k h A : HH} (H : MR k h A) : ∀ j, h 212 j = A 212 j := fun j => H.2 212 j (by unfold rel; omega)
theorem MR.r213 {k h A : HH} (H : MR k h A) : ∀ j, h 213 j = A 213 j := fun j => H.2 213 j (by unfold rel; omega)
theorem MR.r214 {k h A : HH} (H : MR k h A) : ∀ j, h 214 j = A 214 j := fun j => H.2 214 j (by unfold rel; omega)
theorem MR.r215 {k h A : HH} (H : MR k h A) : ∀ j, h 215 j = A 215 j := fun j => H.2 215 j (by unfold rel; omega)
theorem MR.w {k h A : HH} (H : MR k h A) {c j v : Int} (hc : 193 ≤ c ∧ c ≤ 242) : MR k (u2 h c j v) (u2 A c j v) := by
  refine ⟨fun a b hab => ?_, fun a b hr => ?_⟩
  · rw [u2N (by omega)]; exact H.1 a b hab
  · unfold u2
    by_cases e : a = c ∧ b = j
    · rw [if_pos e, if_pos e]
    · rw [if_neg e, if_neg e]; exact H.2 a b hr
theorem MR.sc {k h A : HH} (H : MR k h A) {c j v : Int} (hc : 193 ≤ c ∧ c ≤ 242) (hn : ¬ rel c j) : MR k (u2 h c j v) A := by
  refine ⟨fun a b hab => ?_, fun a b hr => ?_⟩
  · rw [u2N (by omega)]; exact H.1 a b hab
  · rw [u2N (by
      by_cases e : a = c
      · right; intro e2; exact hn (by rw [← e, ← e2]; exact hr)
      · exact .inl e)]
    exact H.2 a b hr
def coreC (c j : Int) : Prop := (c = 193 ∧ (j = 0 ∨ j = 1 ∨ j = 2 ∨ j = 10)) ∨ (194 ≤ c ∧ c ≤ 199)
def listC (c j : Int) : Prop := (c = 193 ∧ (j = 38 ∨ j = 43 ∨ j = 44)) ∨ (216 ≤ c ∧ c ≤ 223)
def tapeC (c j : Int) : Prop := (c = 193 ∧ (j = 11 ∨ j = 71)) ∨ c = 200 ∨ (238 ≤ c ∧ c ≤ 241)
def orchC (c j : Int) : Prop := (c = 193 ∧ j = 9) ∨ (201 ≤ c ∧ c ≤ 206)
def imgC (c j : Int) : Prop := (c = 193 ∧ 49 ≤ j ∧ j ≤ 56) ∨ (224 ≤ c ∧ c ≤ 237)
theorem nhC_is {k : Int} : nhC k = 9 ∨ nhC k = 3 ∨ nhC k = 4 ∨ nhC k = 1 ∨ nhC k = 0 ∨ nhC k = 8 ∨ nhC k = 2 := by
  unfold nhC
  repeat' split
  all_goals simp
theorem isHb_ge {S : SS} {q : Int} (h : isHb S q = true) : 243 ≤ q ∧ q < S.2 := by
  unfold isHb at h
  have := of_decide_eq_true h
  exact ⟨this.1, this.2.1⟩
theorem isHb_k {S : SS} {q : Int} (h : isHb S q = true) : S.1 q (-1) ≠ 27 := by
  unfold isHb at h
  have := of_decide_eq_true h
  omega
theorem XC.cg {S : SS} {h h' : HH} {w : Int} {A A' : HH} (H : XC S h w A) (e : ∀ c j, (w ≤ c ∧ c ≤ w + 18) ∨ isHb S c = true → h' c j = h c j) (a : ∀ c j, coreC c j → A' c j = A c j) : XC S h' w A' := by
  obtain ⟨h1, h2, h3, h4, h5, h6, h7, h8, h9, h10⟩ := H
  have a0 := a 193 0 (by unfold coreC; omega)
  have a1 := a 193 1 (by unfold coreC; omega)
  have a2 := a 193 2 (by unfold coreC; omega)
  have a3 := a 193 10 (by unfold coreC; omega)
  unfold XC
  rw [a0, a1, a2, a3, e w 4 (by omega), e w 7 (by omega), e w 11 (by omega)]
  obtain ⟨n0, n6, h1⟩ := h1
  refine ⟨⟨n0, n6, h1⟩, h2, h3, fun p q r => ?_, fun p q r => ?_, fun p q r => ?_, fun p t q r u v => ?_, fun p t q r u v => ?_, fun t u v => ?_, fun t u v => ?_⟩
  · rw [e (w + 1) p (by omega), e (w + 2) p (by omega)]; exact h4 p q r
  · obtain ⟨g1, g2, g3, g4, g5⟩ := h5 p q r
    rw [e (w + 1) p (by omega), a 194 p (by unfold coreC; omega), a 195 p (by unfold coreC; omega), e _ 0 (.inr g1), e _ 1 (.inr g1), e _ 2 (.inr g1)]
    exact ⟨g1, g2, g3, g4, g5⟩
  · rw [e (w + 2) p (by omega)]; exact h6 p q r
  · rw [e (w + 4 + p) t (by omega), a 196 _ (by unfold coreC; omega)]; exact h7 p t q r u v
  · rw [e (w + 11 + p) t (by omega), a 197 _ (by unfold coreC; omega)]; exact h8 p t q r u v
  · rw [e (w + 17) t (by omega), a 198 _ (by unfold coreC; omega)]; exact h9 t u v
  · rw [e (w + 18) t (by omega), a 199 _ (by unfold coreC; omega)]; exact h10 t u v
theorem XC.ext {S S' : SS} {h : HH} {w : Int} {A : HH} (x : SXt S S') (H : XC S h w A) : XC S' h w A := by
  obtain ⟨h1, h2, h3, h4, h5, h6⟩ := H
  refine ⟨h1, h2, h3, fun p q r => ?_, fun p q r => ?_, h6⟩
  · obtain ⟨g1, g2⟩ := h4 p q r
    exact ⟨g1.imp id (isHb_ext x), g2⟩
  · obtain ⟨g1, g2, g3⟩ := h5 p q r
    exact ⟨isHb_ext x g1, by rw [x.2 _ _ (isHb_ge g1).2]; exact g2, g3⟩
theorem XL.cg {h h' : HH} {w : Int} {A A' : HH} (H : XL h w A) (e : ∀ c j, w + 19 ≤ c ∧ c ≤ w + 47 → h' c j = h c j) (a : ∀ c j, listC c j → A' c j = A c j) : XL h' w A' := by
  obtain ⟨h1, h2, h3, h4, h5, h6⟩ := H
  unfold XL
  rw [a 193 38 (by unfold listC; omega), a 193 43 (by unfold listC; omega), a 193 44 (by unfold listC; omega), e (w + 19) 1 (by omega), e (w + 26) 1 (by omega), e (w + 38) 1 (by omega)]
  refine ⟨h1, h2, h3, fun i p q => ?_, fun i p q => ?_, fun i p q => ?_⟩
  · rw [e (w + 21 + i) 0 (by omega), e (w + 21 + i) 1 (by omega), e (w + 21 + i) 2 (by omega), e (w + 21 + i) 3 (by omega), a 216 i (by unfold listC; omega), a 217 i (by unfold listC; omega), a 218 i (by unfold listC; omega), a 219 i (by unfold listC; omega)]
    exact h4 i p q
  · rw [e (w + 28 + i) 0 (by omega), e (w + 28 + i) 1 (by omega), a 220 i (by unfold listC; omega), a 221 i (by unfold listC; omega)]
    exact h5 i p q
  · rw [e (w + 40 + i) 0 (by omega), e (w + 40 + i) 1 (by omega), a 222 i (by unfold listC; omega), a 223 i (by unfold listC; omega)]
    exact h6 i p q
theorem XT.cg {S : SS} {h h' : HH} {A A' : HH} (H : XT S h A) (e : ∀ c j, (148 ≤ c ∧ c ≤ 149) ∨ c = 151 ∨ (165 ≤ c ∧ c ≤ 174) ∨ (243 ≤ c ∧ S.1 c (-1) = 27) → h' c j = h c j) (a : ∀ c j, tapeC c j → A' c j = A c j) : XT S h' A' := by
  obtain ⟨h1, h2, h3, h4, h5, h6, hz, h7⟩ := H
  unfold XT
  rw [a 193 11 (by unfold tapeC; omega), a 193 71 (by unfold tapeC; omega), e 148 1 (by omega), e 151 2 (by omega), e 151 1 (by omega)]
  refine ⟨h1, h2, fun i p q => ?_, fun t p q => ?_, h5, h6, fun j p q => by rw [e 165 j (by omega)]; exact hz j p q, ?_⟩
  · rw [e 149 i (by omega), a 200 i (by unfold tapeC; omega)]; exact h3 i p q
  · rw [e 166 t (by omega), e 167 t (by omega), a 239 t (by unfold tapeC; omega), a 240 t (by unfold tapeC; omega)]
    obtain ⟨g1, g2, g3, g4, g5, g6⟩ := h4 t p q
    refine ⟨g1, g2, g3, g4, g5, fun i x y => ?_⟩
    rw [e (169 + t) i (by omega), a 241 _ (by unfold tapeC; omega)]
    exact g6 i x y
  · rcases h7 with h7 | ⟨g1, g2, g3, g4, g5, g6, g7⟩
    · exact .inl h7
    · refine .inr ⟨g1, g2, g3, g4, g5, g6, fun i x y => ?_⟩
      rw [e _ i (.inr (.inr (.inr ⟨g2, g4⟩))), a 238 i (by unfold tapeC; omega)]
      exact g7 i x y
theorem XO.cg {h h' : HH} {f : Int} {L : List CL} (H : XO h f L) (e : ∀ c j, 175 + 3 * f ≤ c → c ≤ 177 + 3 * f → h' c j = h c j) : XO h' f L := by
  obtain ⟨h1, h2, h3, h4, h5⟩ := H
  unfold XO
  rw [e _ 0 (by omega) (by omega), e _ 1 (by omega) (by omega), e _ 4 (by omega) (by omega)]
  refine ⟨h1, h2, h3, h4, fun i p => ?_⟩
  rw [e (176 + 3 * f) i (by omega) (by omega), e (177 + 3 * f) i (by omega) (by omega)]
  exact h5 i p
theorem MCl.cg {A A' : HH} {f i : Int} {q : CL} (H : MCl A f i q) (e : A' 202 i = A 202 i ∧ A' 203 i = A 203 i ∧ A' 204 i = A 204 i ∧ A' 205 i = A 205 i) (c : ∀ j, 100 * f ≤ j → j < 100 * f + 100 → A' 206 j = A 206 j) : MCl A' f i q := by
  obtain ⟨h1, h2, h3, h4, h5⟩ := H
  obtain ⟨e1, e2, e3, e4⟩ := e
  unfold MCl
  rw [e1, e2, e3, e4]
  refine ⟨h1, h2, h3, h4, fun q2 => ?_⟩
  obtain ⟨g1, g2, g3, g4, g5⟩ := h5 q2
  exact ⟨g1, g2, g3, fun j hj => by rw [c _ (by omega) (by omega)]; exact g4 j hj, g5⟩
theorem MO.cg {A A' : HH} {f : Int} {L : List CL} (H : MO A f L) (e : ∀ c j, orchC c j → A' c j = A c j) : MO A' f L := by
  obtain ⟨h1, h2, h3, h4⟩ := H
  refine ⟨by rw [e 201 f (by unfold orchC; omega)]; exact h1, h2, h3, fun i hi => ?_⟩
  exact (h4 i hi).cg ⟨e _ _ (by unfold orchC; omega), e _ _ (by unfold orchC; omega), e _ _ (by unfold orchC; omega), e _ _ (by unfold orchC; omega)⟩ (fun j _ _ => e _ _ (by unfold orchC; omega))
theorem imA.cg {A A' : HH} (e : ∀ c j, imgC c j → A' c j = A c j) (c j : Int) (h : coreC c j ∨ listC c j) : imA A' c j = imA A c j := by
  unfold imA
  by_cases q : c = 193
  · rw [if_pos q, if_pos q]
    refine e _ _ ?_
    unfold imgC imS
    refine .inl ⟨rfl, ?_⟩
    repeat' split
    all_goals omega
  · rw [if_neg q, if_neg q]
    refine e _ _ ?_
    unfold coreC listC at h
    unfold imgC imC
    right
    repeat' split
    all_goals omega
theorem imA.cC {A A' : HH} (e : ∀ c j, imgC c j → A' c j = A c j) : ∀ c j, coreC c j → imA A' c j = imA A c j := fun c j h => imA.cg e c j (.inl h)
theorem imA.cL {A A' : HH} (e : ∀ c j, imgC c j → A' c j = A c j) : ∀ c j, listC c j → imA A' c j = imA A c j := fun c j h => imA.cg e c j (.inr h)
/-- the class's side with only its present world's core another -/
theorem XR.core {S : SS} {k h h' A A' : HH} {O : Int → List CL} (H : XR S k h A O) (e : ∀ c j, ¬ (1 ≤ c ∧ c ≤ 19) → h' c j = h c j) (a : ∀ c j, ¬ coreC c j → A' c j = A c j) (C : XC S h' 1 A') : XR S k h' A' O := by
  obtain ⟨h1, h2, h3, h4, h5, h6, h7, h8, h9, h10⟩ := H
  have i1 : ∀ c j, imgC c j → A' c j = A c j := fun c j q => a c j (by unfold coreC; unfold imgC at q; omega)
  refine ⟨fun c j p q => by rw [e c j (by omega)]; exact h1 c j p q, C, h3.cg (fun c j q => e c j (by omega)) (fun c j q => a c j (by unfold coreC; unfold listC at q; omega)), h4.cg (fun c j q => e c j (by omega)) (fun c j q => a c j (by unfold coreC; unfold tapeC at q; omega)), ?_, ?_, ?_, ?_, ?_, ?_⟩
  · rw [e 0 3 (by omega), a 193 49 (by unfold coreC; omega)]; exact h5
  · rw [a 193 49 (by unfold coreC; omega)]; exact h6
  · rw [a 193 49 (by unfold coreC; omega)]
    exact fun z => ⟨(h7 z).1.cg (fun c j q => e c j (by rcases q with q | q; omega; have := isHb_ge q; omega)) (imA.cC i1), (h7 z).2.cg (fun c j q => e c j (by omega)) (imA.cL i1)⟩
  · rw [e 0 6 (by omega), a 193 9 (by unfold coreC; omega)]; exact h8
  · rw [a 193 9 (by unfold coreC; omega)]; exact h9
  · rw [a 193 9 (by unfold coreC; omega)]
    exact fun f p q => ⟨(h10 f p q).1.cg (fun c j _ _ => e c j (by omega)), (h10 f p q).2.cg (fun c j z => a c j (by unfold coreC; unfold orchC at z; omega))⟩
