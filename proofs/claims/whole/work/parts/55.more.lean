theorem MR.eq {k h A A' : HH} (H : MR k h A) (e : ∀ c j, rel c j → A' c j = A c j) : MR k h A' := ⟨H.1, fun c j q => by rw [e c j q]; exact H.2 c j q⟩
/- bits -/
theorem bit_fin1 : ∀ (G : Fin 64) (p q : Fin 6), m_has (zand (G.val : Int) (zxor (zshl 1 (p.val : Int)) (-1))) (q.val : Int) = if q = p then 0 else m_has (G.val : Int) (q.val : Int) := by decide +kernel
theorem bit_fin2 : ∀ (G : Fin 64) (p q : Fin 6), m_has (zor (G.val : Int) (zshl 1 (p.val : Int))) (q.val : Int) = if q = p then 1 else m_has (G.val : Int) (q.val : Int) := by decide +kernel
theorem bit_fin3 : ∀ (G : Fin 64) (p : Fin 6), (0 ≤ zand (G.val : Int) (zxor (zshl 1 (p.val : Int)) (-1)) ∧ zand (G.val : Int) (zxor (zshl 1 (p.val : Int)) (-1)) < 64) ∧ (0 ≤ zor (G.val : Int) (zshl 1 (p.val : Int)) ∧ zor (G.val : Int) (zshl 1 (p.val : Int)) < 64) := by decide +kernel
theorem fin_of {n : Nat} {p : Int} (h : 0 ≤ p ∧ p < n) : ∃ q : Fin n, p = (q.val : Int) := ⟨⟨p.toNat, by omega⟩, by show p = (p.toNat : Int); omega⟩
theorem has_clr {G p q : Int} (hG : 0 ≤ G ∧ G < 64) (hp : 0 ≤ p ∧ p < 6) (hq : 0 ≤ q ∧ q < 6) : m_has (zand G (zxor (zshl 1 p) (-1))) q = if q = p then 0 else m_has G q := by
  obtain ⟨G', rfl⟩ := fin_of (n := 64) hG
  obtain ⟨p', rfl⟩ := fin_of (n := 6) hp
  obtain ⟨q', rfl⟩ := fin_of (n := 6) hq
  rw [bit_fin1]
  by_cases e : q' = p'
  · rw [if_pos e, if_pos (by rw [e])]
  · rw [if_neg e, if_neg (fun z => e (Fin.ext (by omega)))]
theorem has_set {G p q : Int} (hG : 0 ≤ G ∧ G < 64) (hp : 0 ≤ p ∧ p < 6) (hq : 0 ≤ q ∧ q < 6) : m_has (zor G (zshl 1 p)) q = if q = p then 1 else m_has G q := by
  obtain ⟨G', rfl⟩ := fin_of (n := 64) hG
  obtain ⟨p', rfl⟩ := fin_of (n := 6) hp
  obtain ⟨q', rfl⟩ := fin_of (n := 6) hq
  rw [bit_fin2]
  by_cases e : q' = p'
  · rw [if_pos e, if_pos (by rw [e])]
  · rw [if_neg e, if_neg (fun z => e (Fin.ext (by omega)))]
theorem clr_b {G p : Int} (hG : 0 ≤ G ∧ G < 64) (hp : 0 ≤ p ∧ p < 6) : 0 ≤ zand G (zxor (zshl 1 p) (-1)) ∧ zand G (zxor (zshl 1 p) (-1)) < 64 := by
  obtain ⟨G', rfl⟩ := fin_of (n := 64) hG
  obtain ⟨p', rfl⟩ := fin_of (n := 6) hp
  exact (bit_fin3 G' p').1
theorem set_b {G p : Int} (hG : 0 ≤ G ∧ G < 64) (hp : 0 ≤ p ∧ p < 6) : 0 ≤ zor G (zshl 1 p) ∧ zor G (zshl 1 p) < 64 := by
  obtain ⟨G', rfl⟩ := fin_of (n := 64) hG
  obtain ⟨p', rfl⟩ := fin_of (n := 6) hp
  exact (bit_fin3 G' p').2
theorem has_01 {G p : Int} : m_has G p = 0 ∨ m_has G p = 1 := by
  unfold m_has
  split
  · exact .inr rfl
  · exact .inl rfl
theorem ww_has {G p : Int} : ww (m_has G p) = m_has G p := wwP (by have := @has_01 G p; omega)
/-- the class's side with only text, tapes, trace others (and new cells) -/
theorem XR.tape {S S' : SS} {k h h' A A' : HH} {O : Int → List CL} (H : XR S k h A O) (x : SXt S S') (e : ∀ c j, c < 243 → ¬ ((148 ≤ c ∧ c ≤ 149) ∨ c = 151 ∨ (166 ≤ c ∧ c ≤ 174)) → h' c j = h c j) (e2 : ∀ c j, isHb S c = true → h' c j = h c j) (a : ∀ c j, ¬ tapeC c j → A' c j = A c j) (C : XT S' h' A') : XR S' k h' A' O := by
  obtain ⟨h1, h2, h3, h4, h5, h6, h7, h8, h9, h10⟩ := H
  have i1 : ∀ c j, imgC c j → A' c j = A c j := fun c j q => a c j (by unfold tapeC; unfold imgC at q; omega)
  refine ⟨fun c j p q => by rw [e c j (by omega) (by omega)]; exact h1 c j p q, (h2.cg (fun c j q => by rcases q with q | q; exact e c j (by omega) (by omega); exact e2 c j q) (fun c j q => a c j (by unfold tapeC; unfold coreC at q; omega))).ext x, h3.cg (fun c j q => e c j (by omega) (by omega)) (fun c j q => a c j (by unfold tapeC; unfold listC at q; omega)), C, ?_, ?_, ?_, ?_, ?_, ?_⟩
  · rw [e 0 3 (by omega) (by omega), a 193 49 (by unfold tapeC; omega)]; exact h5
  · rw [a 193 49 (by unfold tapeC; omega)]; exact h6
  · rw [a 193 49 (by unfold tapeC; omega)]
    exact fun z => ⟨((h7 z).1.cg (fun c j q => by rcases q with q | q; exact e c j (by omega) (by omega); exact e2 c j q) (imA.cC i1)).ext x, (h7 z).2.cg (fun c j q => e c j (by omega) (by omega)) (imA.cL i1)⟩
  · rw [e 0 6 (by omega) (by omega), a 193 9 (by unfold tapeC; omega)]; exact h8
  · rw [a 193 9 (by unfold tapeC; omega)]; exact h9
  · rw [a 193 9 (by unfold tapeC; omega)]
    exact fun f p q => ⟨(h10 f p q).1.cg (fun c j _ _ => e c j (by omega) (by omega)), (h10 f p q).2.cg (fun c j z => a c j (by unfold tapeC; unfold orchC at z; omega))⟩
/-- the class's side with only the present world's lists others -/
theorem XR.list {S : SS} {k h h' A A' : HH} {O : Int → List CL} (H : XR S k h A O) (e : ∀ c j, ¬ (20 ≤ c ∧ c ≤ 48) → h' c j = h c j) (a : ∀ c j, ¬ listC c j → A' c j = A c j) (C : XL h' 1 A') : XR S k h' A' O := by
  obtain ⟨h1, h2, h3, h4, h5, h6, h7, h8, h9, h10⟩ := H
  have i1 : ∀ c j, imgC c j → A' c j = A c j := fun c j q => a c j (by unfold listC; unfold imgC at q; omega)
  refine ⟨fun c j p q => by rw [e c j (by omega)]; exact h1 c j p q, h2.cg (fun c j q => e c j (by rcases q with q | q; omega; have := isHb_ge q; omega)) (fun c j q => a c j (by unfold listC; unfold coreC at q; omega)), C, h4.cg (fun c j q => e c j (by omega)) (fun c j q => a c j (by unfold listC; unfold tapeC at q; omega)), ?_, ?_, ?_, ?_, ?_, ?_⟩
  · rw [e 0 3 (by omega), a 193 49 (by unfold listC; omega)]; exact h5
  · rw [a 193 49 (by unfold listC; omega)]; exact h6
  · rw [a 193 49 (by unfold listC; omega)]
    exact fun z => ⟨(h7 z).1.cg (fun c j q => e c j (by rcases q with q | q; omega; have := isHb_ge q; omega)) (imA.cC i1), (h7 z).2.cg (fun c j q => e c j (by omega)) (imA.cL i1)⟩
  · rw [e 0 6 (by omega), a 193 9 (by unfold listC; omega)]; exact h8
  · rw [a 193 9 (by unfold listC; omega)]; exact h9
  · rw [a 193 9 (by unfold listC; omega)]
    exact fun f p q => ⟨(h10 f p q).1.cg (fun c j _ _ => e c j (by omega)), (h10 f p q).2.cg (fun c j z => a c j (by unfold listC; unfold orchC at z; omega))⟩
/-- the class's side with only scratch others: the facts, the world that is asked, what RING is found with -/
theorem XR.scr {S : SS} {k h h' A : HH} {O : Int → List CL} (H : XR S k h A O) (e : ∀ c j, ¬ (c = 49 ∨ c = 98 ∨ (99 ≤ c ∧ c ≤ 147) ∨ (152 ≤ c ∧ c ≤ 164)) → h' c j = h c j) : XR S k h' A O := by
  obtain ⟨h1, h2, h3, h4, h5, h6, h7, h8, h9, h10⟩ := H
  refine ⟨fun c j p q => by rw [e c j (by omega)]; exact h1 c j p q, h2.cg (fun c j q => e c j (by rcases q with q | q; omega; have := isHb_ge q; omega)) (fun _ _ _ => rfl), h3.cg (fun c j q => e c j (by omega)) (fun _ _ _ => rfl), h4.cg (fun c j q => e c j (by omega)) (fun _ _ _ => rfl), by rw [e 0 3 (by omega)]; exact h5, h6, ?_, by rw [e 0 6 (by omega)]; exact h8, h9, ?_⟩
  · exact fun z => ⟨(h7 z).1.cg (fun c j q => e c j (by rcases q with q | q; omega; have := isHb_ge q; omega)) (fun _ _ _ => rfl), (h7 z).2.cg (fun c j q => e c j (by omega)) (fun _ _ _ => rfl)⟩
  · exact fun f p q => ⟨(h10 f p q).1.cg (fun c j _ _ => e c j (by omega)), (h10 f p q).2⟩
theorem AOK.tape {A A' : HH} (H : AOK A) (a : ∀ c j, ¬ tapeC c j → A' c j = A c j) : AOK A' := by
  obtain ⟨h1, h2, h3, h4, h5⟩ := H
  have i1 : ∀ c j, imgC c j → A' c j = A c j := fun c j q => a c j (by unfold tapeC; unfold imgC at q; omega)
  unfold AOK
  rw [a 193 27 (by unfold tapeC; omega), a 193 9 (by unfold tapeC; omega), a 193 49 (by unfold tapeC; omega)]
  refine ⟨h1, fun i hi => by rw [a 208 i (by unfold tapeC; omega)]; exact h2 i hi, h3.core (fun c j q => a c j (by unfold tapeC; unfold coreC at q; omega)), h4.cg (fun c j q => a c j (by unfold tapeC; unfold listC at q; omega)) (by rw [a 193 0 (by unfold tapeC; omega)]; exact Int.le_refl _), fun z => ⟨(h5 z).1.core (imA.cC i1), (h5 z).2.cg (imA.cL i1) ?_⟩⟩
  rw [imA.cC i1 193 0 (by unfold coreC; omega)]
  exact Int.le_refl _
theorem AOK.list {A A' : HH} (H : AOK A) (a : ∀ c j, ¬ listC c j → A' c j = A c j) (L : LOK A') : AOK A' := by
  obtain ⟨h1, h2, h3, h4, h5⟩ := H
  have i1 : ∀ c j, imgC c j → A' c j = A c j := fun c j q => a c j (by unfold listC; unfold imgC at q; omega)
  unfold AOK
  rw [a 193 27 (by unfold listC; omega), a 193 9 (by unfold listC; omega), a 193 49 (by unfold listC; omega)]
  refine ⟨h1, fun i hi => by rw [a 208 i (by unfold listC; omega)]; exact h2 i hi, h3.core (fun c j q => a c j (by unfold listC; unfold coreC at q; omega)), L, fun z => ⟨(h5 z).1.core (imA.cC i1), (h5 z).2.cg (imA.cL i1) ?_⟩⟩
  rw [imA.cC i1 193 0 (by unfold coreC; omega)]
  exact Int.le_refl _
theorem st_hate {S : SS} {h : HH} {a b c : Int} (F : Fx S) (I : Inv h S) (ha : -2147483648 ≤ a ∧ a ≤ 2147483647) (hb : -2147483648 ≤ b ∧ b ≤ 2147483647) (hc : -2147483648 ≤ c ∧ c ≤ 2147483647) : ∃ r, ((x_hate h a b c).bind fun q => (m_hate q.2 a b c).bind fun q1 => if ww q.1 = ww q1.1 then some (q1.2, S) else none) = some r ∧ Fx r.2 ∧ Inv r.1 r.2 := by
  obtain ⟨A, O, hA, hX, hM⟩ := I
  obtain ⟨h1, e1, X1⟩ := X_hate hX ha hb hc
  rw [e1]
  exact glueW F (A_hate hA) X1 hM (fun k h H => M_hate H hA.2.2.1.1 ha hb hc) rfl
