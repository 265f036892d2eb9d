/- writes into a world of the class -/
theorem XC.hate {S : SS} {h A : HH} {w : Int} (hw : 1 ≤ w ∧ w ≤ 99) (H : XC S h w A) {a b x : Int} (ha : 0 ≤ a ∧ a < 6) (hb : 0 ≤ b ∧ b < 5) : XC S (u2 h (w + 4 + a) b x) w (u2 A 196 (5 * a + b) x) := by
  obtain ⟨h1, h2, h3, h4, h5, h6, h7, h8, h9, h10⟩ := H
  have n6 := h1.1
  have n7 := h1.2.1
  exact ⟨by simp (disch := omega) only [u2S, u2N, u2T]; exact h1, by simp (disch := omega) only [u2S, u2N, u2T]; exact h2, by simp (disch := omega) only [u2S, u2N, u2T]; exact h3, by (try simp (disch := omega) only [u2S, u2N, u2T]); intro p q r; (try simp (disch := omega) only [u2S, u2N, u2T]); exact h4 p q r, by (try simp (disch := omega) only [u2S, u2N, u2T]); intro p q r; have g := h5 p q r; have gg := isHb_ge g.1; (try simp (disch := omega) only [u2S, u2N, u2T]); exact g, by (try simp (disch := omega) only [u2S, u2N, u2T]); intro p q r; (try simp (disch := omega) only [u2S, u2N, u2T]); exact h6 p q r, by
    (try simp (disch := omega) only [u2S, u2N, u2T])
    intro p t q r u v
    by_cases e : p = a ∧ t = b
    · obtain ⟨rfl, rfl⟩ := e; simp (disch := omega) only [u2S, u2N, u2T]
    · (try simp (disch := omega) only [u2S, u2N, u2T]); exact h7 p t q r u v, by (try simp (disch := omega) only [u2S, u2N, u2T]); intro p t q r u v; (try simp (disch := omega) only [u2S, u2N, u2T]); exact h8 p t q r u v, by (try simp (disch := omega) only [u2S, u2N, u2T]); intro t u v; (try simp (disch := omega) only [u2S, u2N, u2T]); exact h9 t u v, by (try simp (disch := omega) only [u2S, u2N, u2T]); intro t u v; (try simp (disch := omega) only [u2S, u2N, u2T]); exact h10 t u v⟩
theorem XC.rowW {S : SS} {h A : HH} {w : Int} (hw : 1 ≤ w ∧ w ≤ 99) (H : XC S h w A) {a b x : Int} (ha : 0 ≤ a ∧ a < 6) (hb : 0 ≤ b ∧ b < 4) : XC S (u2 h (w + 11 + a) b x) w (u2 A 197 (4 * a + b) x) := by
  obtain ⟨h1, h2, h3, h4, h5, h6, h7, h8, h9, h10⟩ := H
  have n6 := h1.1
  have n7 := h1.2.1
  exact ⟨by simp (disch := omega) only [u2S, u2N, u2T]; exact h1, by simp (disch := omega) only [u2S, u2N, u2T]; exact h2, by simp (disch := omega) only [u2S, u2N, u2T]; exact h3, by (try simp (disch := omega) only [u2S, u2N, u2T]); intro p q r; (try simp (disch := omega) only [u2S, u2N, u2T]); exact h4 p q r, by (try simp (disch := omega) only [u2S, u2N, u2T]); intro p q r; have g := h5 p q r; have gg := isHb_ge g.1; (try simp (disch := omega) only [u2S, u2N, u2T]); exact g, by (try simp (disch := omega) only [u2S, u2N, u2T]); intro p q r; (try simp (disch := omega) only [u2S, u2N, u2T]); exact h6 p q r, by (try simp (disch := omega) only [u2S, u2N, u2T]); intro p t q r u v; (try simp (disch := omega) only [u2S, u2N, u2T]); exact h7 p t q r u v, by
    (try simp (disch := omega) only [u2S, u2N, u2T])
    intro p t q r u v
    by_cases e : p = a ∧ t = b
    · obtain ⟨rfl, rfl⟩ := e; simp (disch := omega) only [u2S, u2N, u2T]
    · (try simp (disch := omega) only [u2S, u2N, u2T]); exact h8 p t q r u v, by (try simp (disch := omega) only [u2S, u2N, u2T]); intro t u v; (try simp (disch := omega) only [u2S, u2N, u2T]); exact h9 t u v, by (try simp (disch := omega) only [u2S, u2N, u2T]); intro t u v; (try simp (disch := omega) only [u2S, u2N, u2T]); exact h10 t u v⟩
theorem XC.bore {S : SS} {h A : HH} {w : Int} (hw : 1 ≤ w ∧ w ≤ 99) (H : XC S h w A) {b x : Int} (hb : 0 ≤ b ∧ b < 5) : XC S (u2 h (w + 17) b x) w (u2 A 198 b x) := by
  obtain ⟨h1, h2, h3, h4, h5, h6, h7, h8, h9, h10⟩ := H
  have n6 := h1.1
  have n7 := h1.2.1
  exact ⟨by simp (disch := omega) only [u2S, u2N, u2T]; exact h1, by simp (disch := omega) only [u2S, u2N, u2T]; exact h2, by simp (disch := omega) only [u2S, u2N, u2T]; exact h3, by (try simp (disch := omega) only [u2S, u2N, u2T]); intro p q r; (try simp (disch := omega) only [u2S, u2N, u2T]); exact h4 p q r, by (try simp (disch := omega) only [u2S, u2N, u2T]); intro p q r; have g := h5 p q r; have gg := isHb_ge g.1; (try simp (disch := omega) only [u2S, u2N, u2T]); exact g, by (try simp (disch := omega) only [u2S, u2N, u2T]); intro p q r; (try simp (disch := omega) only [u2S, u2N, u2T]); exact h6 p q r, by (try simp (disch := omega) only [u2S, u2N, u2T]); intro p t q r u v; (try simp (disch := omega) only [u2S, u2N, u2T]); exact h7 p t q r u v, by (try simp (disch := omega) only [u2S, u2N, u2T]); intro p t q r u v; (try simp (disch := omega) only [u2S, u2N, u2T]); exact h8 p t q r u v, by
    (try simp (disch := omega) only [u2S, u2N, u2T])
    intro t u v
    by_cases e : t = b
    · subst e; simp (disch := omega) only [u2S, u2N, u2T]
    · (try simp (disch := omega) only [u2S, u2N, u2T]); exact h9 t u v, by (try simp (disch := omega) only [u2S, u2N, u2T]); intro t u v; (try simp (disch := omega) only [u2S, u2N, u2T]); exact h10 t u v⟩
theorem XC.lead {S : SS} {h A : HH} {w : Int} (hw : 1 ≤ w ∧ w ≤ 99) (H : XC S h w A) {b x : Int} (hb : 0 ≤ b ∧ b < 5) : XC S (u2 h (w + 18) b x) w (u2 A 199 b x) := by
  obtain ⟨h1, h2, h3, h4, h5, h6, h7, h8, h9, h10⟩ := H
  have n6 := h1.1
  have n7 := h1.2.1
  exact ⟨by simp (disch := omega) only [u2S, u2N, u2T]; exact h1, by simp (disch := omega) only [u2S, u2N, u2T]; exact h2, by simp (disch := omega) only [u2S, u2N, u2T]; exact h3, by (try simp (disch := omega) only [u2S, u2N, u2T]); intro p q r; (try simp (disch := omega) only [u2S, u2N, u2T]); exact h4 p q r, by (try simp (disch := omega) only [u2S, u2N, u2T]); intro p q r; have g := h5 p q r; have gg := isHb_ge g.1; (try simp (disch := omega) only [u2S, u2N, u2T]); exact g, by (try simp (disch := omega) only [u2S, u2N, u2T]); intro p q r; (try simp (disch := omega) only [u2S, u2N, u2T]); exact h6 p q r, by (try simp (disch := omega) only [u2S, u2N, u2T]); intro p t q r u v; (try simp (disch := omega) only [u2S, u2N, u2T]); exact h7 p t q r u v, by (try simp (disch := omega) only [u2S, u2N, u2T]); intro p t q r u v; (try simp (disch := omega) only [u2S, u2N, u2T]); exact h8 p t q r u v, by (try simp (disch := omega) only [u2S, u2N, u2T]); intro t u v; (try simp (disch := omega) only [u2S, u2N, u2T]); exact h9 t u v, by
    (try simp (disch := omega) only [u2S, u2N, u2T])
    intro t u v
    by_cases e : t = b
    · subst e; simp (disch := omega) only [u2S, u2N, u2T]
    · (try simp (disch := omega) only [u2S, u2N, u2T]); exact h10 t u v⟩
theorem XC.year {S : SS} {h A : HH} {w : Int} (hw : 1 ≤ w ∧ w ≤ 99) (H : XC S h w A) {x : Int} : XC S (u2 h w 7 x) w (u2 A 193 2 x) := by
  obtain ⟨h1, h2, h3, h4, h5, h6, h7, h8, h9, h10⟩ := H
  have n6 := h1.1
  have n7 := h1.2.1
  exact ⟨by simp (disch := omega) only [u2S, u2N, u2T]; exact h1, by simp (disch := omega) only [u2S, u2N, u2T], by simp (disch := omega) only [u2S, u2N, u2T]; exact h3, by (try simp (disch := omega) only [u2S, u2N, u2T]); intro p q r; (try simp (disch := omega) only [u2S, u2N, u2T]); exact h4 p q r, by (try simp (disch := omega) only [u2S, u2N, u2T]); intro p q r; have g := h5 p q r; have gg := isHb_ge g.1; (try simp (disch := omega) only [u2S, u2N, u2T]); exact g, by (try simp (disch := omega) only [u2S, u2N, u2T]); intro p q r; (try simp (disch := omega) only [u2S, u2N, u2T]); exact h6 p q r, by (try simp (disch := omega) only [u2S, u2N, u2T]); intro p t q r u v; (try simp (disch := omega) only [u2S, u2N, u2T]); exact h7 p t q r u v, by (try simp (disch := omega) only [u2S, u2N, u2T]); intro p t q r u v; (try simp (disch := omega) only [u2S, u2N, u2T]); exact h8 p t q r u v, by (try simp (disch := omega) only [u2S, u2N, u2T]); intro t u v; (try simp (disch := omega) only [u2S, u2N, u2T]); exact h9 t u v, by (try simp (disch := omega) only [u2S, u2N, u2T]); intro t u v; (try simp (disch := omega) only [u2S, u2N, u2T]); exact h10 t u v⟩
