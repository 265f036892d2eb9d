def c_m (h : HH) (S : SS) (a0 : Int) : Option (HH × SS) :=
  (some (nh (u2 (u2 (u2 h a0 0 0) a0 1 0) a0 2 0) S.2, nS S 20 6)).bind fun q1 => 
  (some (q1.1, uS q1.2 a0 3 (S.2 : Int))).bind fun q2 => 
  (some (nh q2.1 q2.2.2, nS q2.2 20 6)).bind fun q3 => 
  (some (q3.1, uS q3.2 a0 4 (q2.2.2 : Int))).bind fun q4 => 
  (some (nh q4.1 q4.2.2, nS q4.2 20 30)).bind fun q5 => 
  (some (q5.1, uS q5.2 a0 5 (q4.2.2 : Int))).bind fun q6 => 
  (some (nh q6.1 q6.2.2, nS q6.2 20 24)).bind fun q7 => 
  (some (q7.1, uS q7.2 a0 6 (q6.2.2 : Int))).bind fun q8 => 
  (some (nh q8.1 q8.2.2, nS q8.2 20 5)).bind fun q9 => 
  (some (q9.1, uS q9.2 a0 7 (q8.2.2 : Int))).bind fun q10 => 
  (some (nh q10.1 q10.2.2, nS q10.2 20 5)).bind fun q11 => 
  (some (u2 (u2 (u2 (u2 (u2 q11.1 (q10.2.2 : Int) 0 (-5)) (q10.2.2 : Int) 1 (-5)) (q10.2.2 : Int) 2 (-5)) (q10.2.2 : Int) 3 (-5)) (q10.2.2 : Int) 4 (-5), uS q11.2 a0 8 (q10.2.2 : Int))).bind fun q12 => 
  (some (nh (u2 (u2 (u2 (u2 (u2 q12.1 a0 9 0) a0 10 (-1)) a0 11 0) a0 12 0) a0 13 0) q12.2.2, nS q12.2 20 100)).bind fun q13 => 
  (some (q13.1, uS q13.2 a0 14 (q12.2.2 : Int))).bind fun q14 => 
  (some (nh q14.1 q14.2.2, nS q14.2 20 6)).bind fun q15 => 
  (some (q15.1, uS q15.2 a0 15 (q14.2.2 : Int))).bind fun q16 => 
  (some (nh q16.1 q16.2.2, nS q16.2 20 60)).bind fun q17 => 
  (some (q17.1, uS q17.2 a0 16 (q16.2.2 : Int))).bind fun q18 => 
  (some (nh q18.1 q18.2.2, nS q18.2 20 60)).bind fun q19 => 
  (some (q19.1, uS q19.2 a0 17 (q18.2.2 : Int))).bind fun q20 => 
  (some (nh q20.1 q20.2.2, nS q20.2 20 60)).bind fun q21 => 
  (some (q21.1, uS q21.2 a0 18 (q20.2.2 : Int))).bind fun q22 => 
  (some (nh q22.1 q22.2.2, nS q22.2 20 60)).bind fun q23 => 
  (some (q23.1, uS q23.2 a0 19 (q22.2.2 : Int))).bind fun q24 => 
  (some (nh q24.1 q24.2.2, nS q24.2 20 600)).bind fun q25 => 
  (some (q25.1, uS q25.2 a0 20 (q24.2.2 : Int))).bind fun q26 => 
  (some (nh q26.1 q26.2.2, nS q26.2 20 101)).bind fun q27 => 
  (some (q27.1, uS q27.2 a0 21 (q26.2.2 : Int))).bind fun q28 => 
  (some (nh (u2 (u2 (u2 q28.1 a0 22 0) a0 23 0) a0 24 0) q28.2.2, nS q28.2 20 15)).bind fun q29 => 
  (some (u2 (u2 (u2 (u2 (u2 (u2 (u2 (u2 (u2 (u2 (u2 (u2 (u2 (u2 (u2 q29.1 (q28.2.2 : Int) 0 104) (q28.2.2 : Int) 1 111) (q28.2.2 : Int) 2 116) (q28.2.2 : Int) 3 99) (q28.2.2 : Int) 4 111) (q28.2.2 : Int) 5 108) (q28.2.2 : Int) 6 100) (q28.2.2 : Int) 7 110) (q28.2.2 : Int) 8 101) (q28.2.2 : Int) 9 101) (q28.2.2 : Int) 10 100) (q28.2.2 : Int) 11 119) (q28.2.2 : Int) 12 101) (q28.2.2 : Int) 13 97) (q28.2.2 : Int) 14 114, uS q29.2 a0 25 (q28.2.2 : Int))).bind fun q30 => 
  (some (nh q30.1 q30.2.2, nS q30.2 22 100)).bind fun q31 => 
  (some (q31.1, uS q31.2 a0 26 (q30.2.2 : Int))).bind fun q32 => 
  (some (nh (u2 (u2 (u2 q32.1 a0 27 9999) a0 28 0) a0 29 0) q32.2.2, nS q32.2 20 30)).bind fun q33 => 
  (some (q33.1, uS q33.2 a0 30 (q32.2.2 : Int))).bind fun q34 => 
  (some (nh q34.1 q34.2.2, nS q34.2 20 5)).bind fun q35 => 
  (some (q35.1, uS q35.2 a0 31 (q34.2.2 : Int))).bind fun q36 => 
  (some (nh q36.1 q36.2.2, nS q36.2 20 5)).bind fun q37 => 
  (some (q37.1, uS q37.2 a0 32 (q36.2.2 : Int))).bind fun q38 => 
  (some (nh q38.1 q38.2.2, nS q38.2 20 30)).bind fun q39 => 
  (some (q39.1, uS q39.2 a0 33 (q38.2.2 : Int))).bind fun q40 => 
  (some (nh q40.1 q40.2.2, nS q40.2 20 5)).bind fun q41 => 
  (some (q41.1, uS q41.2 a0 34 (q40.2.2 : Int))).bind fun q42 => 
  (some (nh q42.1 q42.2.2, nS q42.2 20 5)).bind fun q43 => 
  (some (q43.1, uS q43.2 a0 35 (q42.2.2 : Int))).bind fun q44 => 
  (some (nh (u2 (u2 (u2 q44.1 a0 36 0) a0 37 0) a0 38 0) q44.2.2, nS q44.2 20 5)).bind fun q45 => 
  (some (q45.1, uS q45.2 a0 39 (q44.2.2 : Int))).bind fun q46 => 
  (some (nh q46.1 q46.2.2, nS q46.2 20 5)).bind fun q47 => 
  (some (q47.1, uS q47.2 a0 40 (q46.2.2 : Int))).bind fun q48 => 
  (some (nh q48.1 q48.2.2, nS q48.2 20 5)).bind fun q49 => 
  (some (q49.1, uS q49.2 a0 41 (q48.2.2 : Int))).bind fun q50 => 
  (some (nh q50.1 q50.2.2, nS q50.2 22 5)).bind fun q51 => 
  (some (q51.1, uS q51.2 a0 42 (q50.2.2 : Int))).bind fun q52 => 
  (some (nh (u2 (u2 q52.1 a0 43 0) a0 44 0) q52.2.2, nS q52.2 20 10)).bind fun q53 => 
  (some (q53.1, uS q53.2 a0 45 (q52.2.2 : Int))).bind fun q54 => 
  (some (nh q54.1 q54.2.2, nS q54.2 20 10)).bind fun q55 => 
  (some (q55.1, uS q55.2 a0 46 (q54.2.2 : Int))).bind fun q56 => 
  (some (nh q56.1 q56.2.2, nS q56.2 20 8)).bind fun q57 => 
  (some (q57.1, uS q57.2 a0 47 (q56.2.2 : Int))).bind fun q58 => 
  (some (nh q58.1 q58.2.2, nS q58.2 20 8)).bind fun q59 => 
  (some (q59.1, uS q59.2 a0 48 (q58.2.2 : Int))).bind fun q60 => 
  (some (nh (u2 (u2 (u2 (u2 (u2 (u2 (u2 (u2 q60.1 a0 49 0) a0 50 (-1)) a0 51 0) a0 52 0) a0 53 0) a0 54 0) a0 55 0) a0 56 0) q60.2.2, nS q60.2 20 6)).bind fun q61 => 
  (some (q61.1, uS q61.2 a0 57 (q60.2.2 : Int))).bind fun q62 => 
  (some (nh q62.1 q62.2.2, nS q62.2 20 6)).bind fun q63 => 
  (some (q63.1, uS q63.2 a0 58 (q62.2.2 : Int))).bind fun q64 => 
  (some (nh q64.1 q64.2.2, nS q64.2 20 30)).bind fun q65 => 
  (some (q65.1, uS q65.2 a0 59 (q64.2.2 : Int))).bind fun q66 => 
  (some (nh q66.1 q66.2.2, nS q66.2 20 24)).bind fun q67 => 
  (some (q67.1, uS q67.2 a0 60 (q66.2.2 : Int))).bind fun q68 => 
  (some (nh q68.1 q68.2.2, nS q68.2 20 5)).bind fun q69 => 
  (some (q69.1, uS q69.2 a0 61 (q68.2.2 : Int))).bind fun q70 => 
  (some (nh q70.1 q70.2.2, nS q70.2 20 5)).bind fun q71 => 
  (some (q71.1, uS q71.2 a0 62 (q70.2.2 : Int))).bind fun q72 => 
  (some (nh q72.1 q72.2.2, nS q72.2 20 5)).bind fun q73 => 
  (some (q73.1, uS q73.2 a0 63 (q72.2.2 : Int))).bind fun q74 => 
  (some (nh q74.1 q74.2.2, nS q74.2 20 5)).bind fun q75 => 
  (some (q75.1, uS q75.2 a0 64 (q74.2.2 : Int))).bind fun q76 => 
  (some (nh q76.1 q76.2.2, nS q76.2 20 5)).bind fun q77 => 
  (some (q77.1, uS q77.2 a0 65 (q76.2.2 : Int))).bind fun q78 => 
  (some (nh q78.1 q78.2.2, nS q78.2 20 10)).bind fun q79 => 
  (some (q79.1, uS q79.2 a0 66 (q78.2.2 : Int))).bind fun q80 => 
  (some (nh q80.1 q80.2.2, nS q80.2 20 10)).bind fun q81 => 
  (some (q81.1, uS q81.2 a0 67 (q80.2.2 : Int))).bind fun q82 => 
  (some (nh q82.1 q82.2.2, nS q82.2 20 8)).bind fun q83 => 
  (some (q83.1, uS q83.2 a0 68 (q82.2.2 : Int))).bind fun q84 => 
  (some (nh q84.1 q84.2.2, nS q84.2 20 8)).bind fun q85 => 
  (some (q85.1, uS q85.2 a0 69 (q84.2.2 : Int))).bind fun q86 => 
  (some (nh q86.1 q86.2.2, nS q86.2 22 5)).bind fun q87 => 
  (some (q87.1, uS q87.2 a0 70 (q86.2.2 : Int))).bind fun q88 => 
  (some (nh (u2 q88.1 a0 71 0) q88.2.2, nS q88.2 20 20)).bind fun q89 => 
  (some (q89.1, uS q89.2 a0 72 (q88.2.2 : Int))).bind fun q90 => 
  (some (nh q90.1 q90.2.2, nS q90.2 20 6)).bind fun q91 => 
  (some (u2 (u2 (u2 (u2 (u2 (u2 q91.1 (q90.2.2 : Int) 0 (-1)) (q90.2.2 : Int) 1 (-1)) (q90.2.2 : Int) 2 (-1)) (q90.2.2 : Int) 3 (-1)) (q90.2.2 : Int) 4 (-1)) (q90.2.2 : Int) 5 (-1), uS q91.2 a0 73 (q90.2.2 : Int))).bind fun q92 => 
  (some (nh q92.1 q92.2.2, nS q92.2 20 6)).bind fun q93 => 
  (some (q93.1, uS q93.2 a0 74 (q92.2.2 : Int))).bind fun q94 => 
  (some (nh q94.1 q94.2.2, nS q94.2 21 360)).bind fun q95 => 
  (some (q95.1, uS q95.2 a0 75 (q94.2.2 : Int))).bind fun q96 => 
  (some (nh q96.1 q96.2.2, nS q96.2 21 60)).bind fun q97 => 
  (some (q97.1, uS q97.2 a0 76 (q96.2.2 : Int))).bind fun q98 => 
  some (q98.1, q98.2)
theorem x_c_m {S : SS} {h : HH} {a0 : Int} (ha0 : KD S a0 12 0) {res : HH × SS} (hf : c_m h S a0 = some res) : SXo S res.2 a0 := by
  unfold c_m at hf
  have y0 : SXo S S a0 := SXo.rf
  have hlt0 := ha0.2.1
  have hb := bind_in hf
  clear hf
  obtain ⟨q1, eq1, hf⟩ := hb
  replace eq1 := (Option.some.inj eq1).symm
  have mq1 : S.2 ≤ q1.2.2 := by rw [eq1]; exact SXt.nS.1
  have yq1 : SXo S q1.2 a0 := by rw [eq1]; exact SXo.tr y0 (SXt.o SXt.nS (by omega))
  have hb := bind_in hf
  clear hf
  obtain ⟨q2, eq2, hf⟩ := hb
  replace eq2 := (Option.some.inj eq2).symm
  have mq2 : q1.2.2 ≤ q2.2.2 := by rw [eq2]; exact Nat.le_refl _
  have yq2 : SXo S q2.2 a0 := by rw [eq2]; exact SXo.tr yq1 (SXo.put (by decide))
  have hb := bind_in hf
  clear hf
  obtain ⟨q3, eq3, hf⟩ := hb
  replace eq3 := (Option.some.inj eq3).symm
  have mq3 : q2.2.2 ≤ q3.2.2 := by rw [eq3]; exact SXt.nS.1
  have yq3 : SXo S q3.2 a0 := by rw [eq3]; exact SXo.tr yq2 (SXt.o SXt.nS (by omega))
  have hb := bind_in hf
  clear hf
  obtain ⟨q4, eq4, hf⟩ := hb
  replace eq4 := (Option.some.inj eq4).symm
  have mq4 : q3.2.2 ≤ q4.2.2 := by rw [eq4]; exact Nat.le_refl _
  have yq4 : SXo S q4.2 a0 := by rw [eq4]; exact SXo.tr yq3 (SXo.put (by decide))
  have hb := bind_in hf
  clear hf
  obtain ⟨q5, eq5, hf⟩ := hb
  replace eq5 := (Option.some.inj eq5).symm
  have mq5 : q4.2.2 ≤ q5.2.2 := by rw [eq5]; exact SXt.nS.1
  have yq5 : SXo S q5.2 a0 := by rw [eq5]; exact SXo.tr yq4 (SXt.o SXt.nS (by omega))
  have hb := bind_in hf
  clear hf
  obtain ⟨q6, eq6, hf⟩ := hb
  replace eq6 := (Option.some.inj eq6).symm
  have mq6 : q5.2.2 ≤ q6.2.2 := by rw [eq6]; exact Nat.le_refl _
  have yq6 : SXo S q6.2 a0 := by rw [eq6]; exact SXo.tr yq5 (SXo.put (by decide))
  have hb := bind_in hf
  clear hf
  obtain ⟨q7, eq7, hf⟩ := hb
  replace eq7 := (Option.some.inj eq7).symm
  have mq7 : q6.2.2 ≤ q7.2.2 := by rw [eq7]; exact SXt.nS.1
  have yq7 : SXo S q7.2 a0 := by rw [eq7]; exact SXo.tr yq6 (SXt.o SXt.nS (by omega))
  have hb := bind_in hf
  clear hf
  obtain ⟨q8, eq8, hf⟩ := hb
  replace eq8 := (Option.some.inj eq8).symm
  have mq8 : q7.2.2 ≤ q8.2.2 := by rw [eq8]; exact Nat.le_refl _
  have yq8 : SXo S q8.2 a0 := by rw [eq8]; exact SXo.tr yq7 (SXo.put (by decide))
  have hb := bind_in hf
  clear hf
  obtain ⟨q9, eq9, hf⟩ := hb
  replace eq9 := (Option.some.inj eq9).symm
  have mq9 : q8.2.2 ≤ q9.2.2 := by rw [eq9]; exact SXt.nS.1
  have yq9 : SXo S q9.2 a0 := by rw [eq9]; exact SXo.tr yq8 (SXt.o SXt.nS (by omega))
  have hb := bind_in hf
  clear hf
  obtain ⟨q10, eq10, hf⟩ := hb
  replace eq10 := (Option.some.inj eq10).symm
  have mq10 : q9.2.2 ≤ q10.2.2 := by rw [eq10]; exact Nat.le_refl _
  have yq10 : SXo S q10.2 a0 := by rw [eq10]; exact SXo.tr yq9 (SXo.put (by decide))
  have hb := bind_in hf
  clear hf
  obtain ⟨q11, eq11, hf⟩ := hb
  replace eq11 := (Option.some.inj eq11).symm
  have mq11 : q10.2.2 ≤ q11.2.2 := by rw [eq11]; exact SXt.nS.1
  have yq11 : SXo S q11.2 a0 := by rw [eq11]; exact SXo.tr yq10 (SXt.o SXt.nS (by omega))
  have hb := bind_in hf
  clear hf
  obtain ⟨q12, eq12, hf⟩ := hb
  replace eq12 := (Option.some.inj eq12).symm
  have mq12 : q11.2.2 ≤ q12.2.2 := by rw [eq12]; exact Nat.le_refl _
  have yq12 : SXo S q12.2 a0 := by rw [eq12]; exact SXo.tr yq11 (SXo.put (by decide))
  have hb := bind_in hf
  clear hf
  obtain ⟨q13, eq13, hf⟩ := hb
  replace eq13 := (Option.some.inj eq13).symm
  have mq13 : q12.2.2 ≤ q13.2.2 := by rw [eq13]; exact SXt.nS.1
  have yq13 : SXo S q13.2 a0 := by rw [eq13]; exact SXo.tr yq12 (SXt.o SXt.nS (by omega))
  have hb := bind_in hf
  clear hf
  obtain ⟨q14, eq14, hf⟩ := hb
  replace eq14 := (Option.some.inj eq14).symm
  have mq14 : q13.2.2 ≤ q14.2.2 := by rw [eq14]; exact Nat.le_refl _
  have yq14 : SXo S q14.2 a0 := by rw [eq14]; exact SXo.tr yq13 (SXo.put (by decide))
  have hb := bind_in hf
  clear hf
  obtain ⟨q15, eq15, hf⟩ := hb
  replace eq15 := (Option.some.inj eq15).symm
  have mq15 : q14.2.2 ≤ q15.2.2 := by rw [eq15]; exact SXt.nS.1
  have yq15 : SXo S q15.2 a0 := by rw [eq15]; exact SXo.tr yq14 (SXt.o SXt.nS (by omega))
  have hb := bind_in hf
  clear hf
  obtain ⟨q16, eq16, hf⟩ := hb
  replace eq16 := (Option.some.inj eq16).symm
  have mq16 : q15.2.2 ≤ q16.2.2 := by rw [eq16]; exact Nat.le_refl _
  have yq16 : SXo S q16.2 a0 := by rw [eq16]; exact SXo.tr yq15 (SXo.put (by decide))
  have hb := bind_in hf
  clear hf
  obtain ⟨q17, eq17, hf⟩ := hb
  replace eq17 := (Option.some.inj eq17).symm
  have mq17 : q16.2.2 ≤ q17.2.2 := by rw [eq17]; exact SXt.nS.1
  have yq17 : SXo S q17.2 a0 := by rw [eq17]; exact SXo.tr yq16 (SXt.o SXt.nS (by omega))
  have hb := bind_in hf
  clear hf
  obtain ⟨q18, eq18, hf⟩ := hb
  replace eq18 := (Option.some.inj eq18).symm
  have mq18 : q17.2.2 ≤ q18.2.2 := by rw [eq18]; exact Nat.le_refl _
  have yq18 : SXo S q18.2 a0 := by rw [eq18]; exact SXo.tr yq17 (SXo.put (by decide))
  have hb := bind_in hf
  clear hf
  obtain ⟨q19, eq19, hf⟩ := hb
  replace eq19 := (Option.some.inj eq19).symm
  have mq19 : q18.2.2 ≤ q19.2.2 := by rw [eq19]; exact SXt.nS.1
  have yq19 : SXo S q19.2 a0 := by rw [eq19]; exact SXo.tr yq18 (SXt.o SXt.nS (by omega))
  have hb := bind_in hf
  clear hf
  obtain ⟨q20, eq20, hf⟩ := hb
  replace eq20 := (Option.some.inj eq20).symm
  have mq20 : q19.2.2 ≤ q20.2.2 := by rw [eq20]; exact Nat.le_refl _
  have yq20 : SXo S q20.2 a0 := by rw [eq20]; exact SXo.tr yq19 (SXo.put (by decide))
  have hb := bind_in hf
  clear hf
  obtain ⟨q21, eq21, hf⟩ := hb
  replace eq21 := (Option.some.inj eq21).symm
  have mq21 : q20.2.2 ≤ q21.2.2 := by rw [eq21]; exact SXt.nS.1
  have yq21 : SXo S q21.2 a0 := by rw [eq21]; exact SXo.tr yq20 (SXt.o SXt.nS (by omega))
  have hb := bind_in hf
  clear hf
  obtain ⟨q22, eq22, hf⟩ := hb
  replace eq22 := (Option.some.inj eq22).symm
  have mq22 : q21.2.2 ≤ q22.2.2 := by rw [eq22]; exact Nat.le_refl _
  have yq22 : SXo S q22.2 a0 := by rw [eq22]; exact SXo.tr yq21 (SXo.put (by decide))
  have hb := bind_in hf
  clear hf
  obtain ⟨q23, eq23, hf⟩ := hb
  replace eq23 := (Option.some.inj eq23).symm
  have mq23 : q22.2.2 ≤ q23.2.2 := by rw [eq23]; exact SXt.nS.1
  have yq23 : SXo S q23.2 a0 := by rw [eq23]; exact SXo.tr yq22 (SXt.o SXt.nS (by omega))
  have hb := bind_in hf
  clear hf
  obtain ⟨q24, eq24, hf⟩ := hb
  replace eq24 := (Option.some.inj eq24).symm
  have mq24 : q23.2.2 ≤ q24.2.2 := by rw [eq24]; exact Nat.le_refl _
  have yq24 : SXo S q24.2 a0 := by rw [eq24]; exact SXo.tr yq23 (SXo.put (by decide))
  have hb := bind_in hf
  clear hf
  obtain ⟨q25, eq25, hf⟩ := hb
  replace eq25 := (Option.some.inj eq25).symm
  have mq25 : q24.2.2 ≤ q25.2.2 := by rw [eq25]; exact SXt.nS.1
  have yq25 : SXo S q25.2 a0 := by rw [eq25]; exact SXo.tr yq24 (SXt.o SXt.nS (by omega))
  have hb := bind_in hf
  clear hf
  obtain ⟨q26, eq26, hf⟩ := hb
  replace eq26 := (Option.some.inj eq26).symm
  have mq26 : q25.2.2 ≤ q26.2.2 := by rw [eq26]; exact Nat.le_refl _
  have yq26 : SXo S q26.2 a0 := by rw [eq26]; exact SXo.tr yq25 (SXo.put (by decide))
  have hb := bind_in hf
  clear hf
  obtain ⟨q27, eq27, hf⟩ := hb
  replace eq27 := (Option.some.inj eq27).symm
  have mq27 : q26.2.2 ≤ q27.2.2 := by rw [eq27]; exact SXt.nS.1
  have yq27 : SXo S q27.2 a0 := by rw [eq27]; exact SXo.tr yq26 (SXt.o SXt.nS (by omega))
  have hb := bind_in hf
  clear hf
  obtain ⟨q28, eq28, hf⟩ := hb
  replace eq28 := (Option.some.inj eq28).symm
  have mq28 : q27.2.2 ≤ q28.2.2 := by rw [eq28]; exact Nat.le_refl _
  have yq28 : SXo S q28.2 a0 := by rw [eq28]; exact SXo.tr yq27 (SXo.put (by decide))
  have hb := bind_in hf
  clear hf
  obtain ⟨q29, eq29, hf⟩ := hb
  replace eq29 := (Option.some.inj eq29).symm
  have mq29 : q28.2.2 ≤ q29.2.2 := by rw [eq29]; exact SXt.nS.1
  have yq29 : SXo S q29.2 a0 := by rw [eq29]; exact SXo.tr yq28 (SXt.o SXt.nS (by omega))
  have hb := bind_in hf
  clear hf
  obtain ⟨q30, eq30, hf⟩ := hb
  replace eq30 := (Option.some.inj eq30).symm
  have mq30 : q29.2.2 ≤ q30.2.2 := by rw [eq30]; exact Nat.le_refl _
  have yq30 : SXo S q30.2 a0 := by rw [eq30]; exact SXo.tr yq29 (SXo.put (by decide))
  have hb := bind_in hf
  clear hf
  obtain ⟨q31, eq31, hf⟩ := hb
  replace eq31 := (Option.some.inj eq31).symm
  have mq31 : q30.2.2 ≤ q31.2.2 := by rw [eq31]; exact SXt.nS.1
  have yq31 : SXo S q31.2 a0 := by rw [eq31]; exact SXo.tr yq30 (SXt.o SXt.nS (by omega))
  have hb := bind_in hf
  clear hf
  obtain ⟨q32, eq32, hf⟩ := hb
  replace eq32 := (Option.some.inj eq32).symm
  have mq32 : q31.2.2 ≤ q32.2.2 := by rw [eq32]; exact Nat.le_refl _
  have yq32 : SXo S q32.2 a0 := by rw [eq32]; exact SXo.tr yq31 (SXo.put (by decide))
  have hb := bind_in hf
  clear hf
  obtain ⟨q33, eq33, hf⟩ := hb
  replace eq33 := (Option.some.inj eq33).symm
  have mq33 : q32.2.2 ≤ q33.2.2 := by rw [eq33]; exact SXt.nS.1
  have yq33 : SXo S q33.2 a0 := by rw [eq33]; exact SXo.tr yq32 (SXt.o SXt.nS (by omega))
  have hb := bind_in hf
  clear hf
  obtain ⟨q34, eq34, hf⟩ := hb
  replace eq34 := (Option.some.inj eq34).symm
  have mq34 : q33.2.2 ≤ q34.2.2 := by rw [eq34]; exact Nat.le_refl _
  have yq34 : SXo S q34.2 a0 := by rw [eq34]; exact SXo.tr yq33 (SXo.put (by decide))
  have hb := bind_in hf
  clear hf
  obtain ⟨q35, eq35, hf⟩ := hb
  replace eq35 := (Option.some.inj eq35).symm
  have mq35 : q34.2.2 ≤ q35.2.2 := by rw [eq35]; exact SXt.nS.1
  have yq35 : SXo S q35.2 a0 := by rw [eq35]; exact SXo.tr yq34 (SXt.o SXt.nS (by omega))
  have hb := bind_in hf
  clear hf
  obtain ⟨q36, eq36, hf⟩ := hb
  replace eq36 := (Option.some.inj eq36).symm
  have mq36 : q35.2.2 ≤ q36.2.2 := by rw [eq36]; exact Nat.le_refl _
  have yq36 : SXo S q36.2 a0 := by rw [eq36]; exact SXo.tr yq35 (SXo.put (by decide))
  have hb := bind_in hf
  clear hf
  obtain ⟨q37, eq37, hf⟩ := hb
  replace eq37 := (Option.some.inj eq37).symm
  have mq37 : q36.2.2 ≤ q37.2.2 := by rw [eq37]; exact SXt.nS.1
  have yq37 : SXo S q37.2 a0 := by rw [eq37]; exact SXo.tr yq36 (SXt.o SXt.nS (by omega))
  have hb := bind_in hf
  clear hf
  obtain ⟨q38, eq38, hf⟩ := hb
  replace eq38 := (Option.some.inj eq38).symm
  have mq38 : q37.2.2 ≤ q38.2.2 := by rw [eq38]; exact Nat.le_refl _
  have yq38 : SXo S q38.2 a0 := by rw [eq38]; exact SXo.tr yq37 (SXo.put (by decide))
  have hb := bind_in hf
  clear hf
  obtain ⟨q39, eq39, hf⟩ := hb
  replace eq39 := (Option.some.inj eq39).symm
  have mq39 : q38.2.2 ≤ q39.2.2 := by rw [eq39]; exact SXt.nS.1
  have yq39 : SXo S q39.2 a0 := by rw [eq39]; exact SXo.tr yq38 (SXt.o SXt.nS (by omega))
  have hb := bind_in hf
  clear hf
  obtain ⟨q40, eq40, hf⟩ := hb
  replace eq40 := (Option.some.inj eq40).symm
  have mq40 : q39.2.2 ≤ q40.2.2 := by rw [eq40]; exact Nat.le_refl _
  have yq40 : SXo S q40.2 a0 := by rw [eq40]; exact SXo.tr yq39 (SXo.put (by decide))
  have hb := bind_in hf
  clear hf
  obtain ⟨q41, eq41, hf⟩ := hb
  replace eq41 := (Option.some.inj eq41).symm
  have mq41 : q40.2.2 ≤ q41.2.2 := by rw [eq41]; exact SXt.nS.1
  have yq41 : SXo S q41.2 a0 := by rw [eq41]; exact SXo.tr yq40 (SXt.o SXt.nS (by omega))
  have hb := bind_in hf
  clear hf
  obtain ⟨q42, eq42, hf⟩ := hb
  replace eq42 := (Option.some.inj eq42).symm
  have mq42 : q41.2.2 ≤ q42.2.2 := by rw [eq42]; exact Nat.le_refl _
  have yq42 : SXo S q42.2 a0 := by rw [eq42]; exact SXo.tr yq41 (SXo.put (by decide))
  have hb := bind_in hf
  clear hf
  obtain ⟨q43, eq43, hf⟩ := hb
  replace eq43 := (Option.some.inj eq43).symm
  have mq43 : q42.2.2 ≤ q43.2.2 := by rw [eq43]; exact SXt.nS.1
  have yq43 : SXo S q43.2 a0 := by rw [eq43]; exact SXo.tr yq42 (SXt.o SXt.nS (by omega))
  have hb := bind_in hf
  clear hf
  obtain ⟨q44, eq44, hf⟩ := hb
  replace eq44 := (Option.some.inj eq44).symm
  have mq44 : q43.2.2 ≤ q44.2.2 := by rw [eq44]; exact Nat.le_refl _
  have yq44 : SXo S q44.2 a0 := by rw [eq44]; exact SXo.tr yq43 (SXo.put (by decide))
  have hb := bind_in hf
  clear hf
  obtain ⟨q45, eq45, hf⟩ := hb
  replace eq45 := (Option.some.inj eq45).symm
  have mq45 : q44.2.2 ≤ q45.2.2 := by rw [eq45]; exact SXt.nS.1
  have yq45 : SXo S q45.2 a0 := by rw [eq45]; exact SXo.tr yq44 (SXt.o SXt.nS (by omega))
  have hb := bind_in hf
  clear hf
  obtain ⟨q46, eq46, hf⟩ := hb
  replace eq46 := (Option.some.inj eq46).symm
  have mq46 : q45.2.2 ≤ q46.2.2 := by rw [eq46]; exact Nat.le_refl _
  have yq46 : SXo S q46.2 a0 := by rw [eq46]; exact SXo.tr yq45 (SXo.put (by decide))
  have hb := bind_in hf
  clear hf
  obtain ⟨q47, eq47, hf⟩ := hb
  replace eq47 := (Option.some.inj eq47).symm
  have mq47 : q46.2.2 ≤ q47.2.2 := by rw [eq47]; exact SXt.nS.1
  have yq47 : SXo S q47.2 a0 := by rw [eq47]; exact SXo.tr yq46 (SXt.o SXt.nS (by omega))
  have hb := bind_in hf
  clear hf
  obtain ⟨q48, eq48, hf⟩ := hb
  replace eq48 := (Option.some.inj eq48).symm
  have mq48 : q47.2.2 ≤ q48.2.2 := by rw [eq48]; exact Nat.le_refl _
  have yq48 : SXo S q48.2 a0 := by rw [eq48]; exact SXo.tr yq47 (SXo.put (by decide))
  have hb := bind_in hf
  clear hf
  obtain ⟨q49, eq49, hf⟩ := hb
  replace eq49 := (Option.some.inj eq49).symm
  have mq49 : q48.2.2 ≤ q49.2.2 := by rw [eq49]; exact SXt.nS.1
  have yq49 : SXo S q49.2 a0 := by rw [eq49]; exact SXo.tr yq48 (SXt.o SXt.nS (by omega))
  have hb := bind_in hf
  clear hf
  obtain ⟨q50, eq50, hf⟩ := hb
  replace eq50 := (Option.some.inj eq50).symm
  have mq50 : q49.2.2 ≤ q50.2.2 := by rw [eq50]; exact Nat.le_refl _
  have yq50 : SXo S q50.2 a0 := by rw [eq50]; exact SXo.tr yq49 (SXo.put (by decide))
  have hb := bind_in hf
  clear hf
  obtain ⟨q51, eq51, hf⟩ := hb
  replace eq51 := (Option.some.inj eq51).symm
  have mq51 : q50.2.2 ≤ q51.2.2 := by rw [eq51]; exact SXt.nS.1
  have yq51 : SXo S q51.2 a0 := by rw [eq51]; exact SXo.tr yq50 (SXt.o SXt.nS (by omega))
  have hb := bind_in hf
  clear hf
  obtain ⟨q52, eq52, hf⟩ := hb
  replace eq52 := (Option.some.inj eq52).symm
  have mq52 : q51.2.2 ≤ q52.2.2 := by rw [eq52]; exact Nat.le_refl _
  have yq52 : SXo S q52.2 a0 := by rw [eq52]; exact SXo.tr yq51 (SXo.put (by decide))
  have hb := bind_in hf
  clear hf
  obtain ⟨q53, eq53, hf⟩ := hb
  replace eq53 := (Option.some.inj eq53).symm
  have mq53 : q52.2.2 ≤ q53.2.2 := by rw [eq53]; exact SXt.nS.1
  have yq53 : SXo S q53.2 a0 := by rw [eq53]; exact SXo.tr yq52 (SXt.o SXt.nS (by omega))
  have hb := bind_in hf
  clear hf
  obtain ⟨q54, eq54, hf⟩ := hb
  replace eq54 := (Option.some.inj eq54).symm
  have mq54 : q53.2.2 ≤ q54.2.2 := by rw [eq54]; exact Nat.le_refl _
  have yq54 : SXo S q54.2 a0 := by rw [eq54]; exact SXo.tr yq53 (SXo.put (by decide))
  have hb := bind_in hf
  clear hf
  obtain ⟨q55, eq55, hf⟩ := hb
  replace eq55 := (Option.some.inj eq55).symm
  have mq55 : q54.2.2 ≤ q55.2.2 := by rw [eq55]; exact SXt.nS.1
  have yq55 : SXo S q55.2 a0 := by rw [eq55]; exact SXo.tr yq54 (SXt.o SXt.nS (by omega))
  have hb := bind_in hf
  clear hf
  obtain ⟨q56, eq56, hf⟩ := hb
  replace eq56 := (Option.some.inj eq56).symm
  have mq56 : q55.2.2 ≤ q56.2.2 := by rw [eq56]; exact Nat.le_refl _
  have yq56 : SXo S q56.2 a0 := by rw [eq56]; exact SXo.tr yq55 (SXo.put (by decide))
  have hb := bind_in hf
  clear hf
  obtain ⟨q57, eq57, hf⟩ := hb
  replace eq57 := (Option.some.inj eq57).symm
  have mq57 : q56.2.2 ≤ q57.2.2 := by rw [eq57]; exact SXt.nS.1
  have yq57 : SXo S q57.2 a0 := by rw [eq57]; exact SXo.tr yq56 (SXt.o SXt.nS (by omega))
  have hb := bind_in hf
  clear hf
  obtain ⟨q58, eq58, hf⟩ := hb
  replace eq58 := (Option.some.inj eq58).symm
  have mq58 : q57.2.2 ≤ q58.2.2 := by rw [eq58]; exact Nat.le_refl _
  have yq58 : SXo S q58.2 a0 := by rw [eq58]; exact SXo.tr yq57 (SXo.put (by decide))
  have hb := bind_in hf
  clear hf
  obtain ⟨q59, eq59, hf⟩ := hb
  replace eq59 := (Option.some.inj eq59).symm
  have mq59 : q58.2.2 ≤ q59.2.2 := by rw [eq59]; exact SXt.nS.1
  have yq59 : SXo S q59.2 a0 := by rw [eq59]; exact SXo.tr yq58 (SXt.o SXt.nS (by omega))
  have hb := bind_in hf
  clear hf
  obtain ⟨q60, eq60, hf⟩ := hb
  replace eq60 := (Option.some.inj eq60).symm
  have mq60 : q59.2.2 ≤ q60.2.2 := by rw [eq60]; exact Nat.le_refl _
  have yq60 : SXo S q60.2 a0 := by rw [eq60]; exact SXo.tr yq59 (SXo.put (by decide))
  have hb := bind_in hf
  clear hf
  obtain ⟨q61, eq61, hf⟩ := hb
  replace eq61 := (Option.some.inj eq61).symm
  have mq61 : q60.2.2 ≤ q61.2.2 := by rw [eq61]; exact SXt.nS.1
  have yq61 : SXo S q61.2 a0 := by rw [eq61]; exact SXo.tr yq60 (SXt.o SXt.nS (by omega))
  have hb := bind_in hf
  clear hf
  obtain ⟨q62, eq62, hf⟩ := hb
  replace eq62 := (Option.some.inj eq62).symm
  have mq62 : q61.2.2 ≤ q62.2.2 := by rw [eq62]; exact Nat.le_refl _
  have yq62 : SXo S q62.2 a0 := by rw [eq62]; exact SXo.tr yq61 (SXo.put (by decide))
  have hb := bind_in hf
  clear hf
  obtain ⟨q63, eq63, hf⟩ := hb
  replace eq63 := (Option.some.inj eq63).symm
  have mq63 : q62.2.2 ≤ q63.2.2 := by rw [eq63]; exact SXt.nS.1
  have yq63 : SXo S q63.2 a0 := by rw [eq63]; exact SXo.tr yq62 (SXt.o SXt.nS (by omega))
  have hb := bind_in hf
  clear hf
  obtain ⟨q64, eq64, hf⟩ := hb
  replace eq64 := (Option.some.inj eq64).symm
  have mq64 : q63.2.2 ≤ q64.2.2 := by rw [eq64]; exact Nat.le_refl _
  have yq64 : SXo S q64.2 a0 := by rw [eq64]; exact SXo.tr yq63 (SXo.put (by decide))
  have hb := bind_in hf
  clear hf
  obtain ⟨q65, eq65, hf⟩ := hb
  replace eq65 := (Option.some.inj eq65).symm
  have mq65 : q64.2.2 ≤ q65.2.2 := by rw [eq65]; exact SXt.nS.1
  have yq65 : SXo S q65.2 a0 := by rw [eq65]; exact SXo.tr yq64 (SXt.o SXt.nS (by omega))
  have hb := bind_in hf
  clear hf
  obtain ⟨q66, eq66, hf⟩ := hb
  replace eq66 := (Option.some.inj eq66).symm
  have mq66 : q65.2.2 ≤ q66.2.2 := by rw [eq66]; exact Nat.le_refl _
  have yq66 : SXo S q66.2 a0 := by rw [eq66]; exact SXo.tr yq65 (SXo.put (by decide))
  have hb := bind_in hf
  clear hf
  obtain ⟨q67, eq67, hf⟩ := hb
  replace eq67 := (Option.some.inj eq67).symm
  have mq67 : q66.2.2 ≤ q67.2.2 := by rw [eq67]; exact SXt.nS.1
  have yq67 : SXo S q67.2 a0 := by rw [eq67]; exact SXo.tr yq66 (SXt.o SXt.nS (by omega))
  have hb := bind_in hf
  clear hf
  obtain ⟨q68, eq68, hf⟩ := hb
  replace eq68 := (Option.some.inj eq68).symm
  have mq68 : q67.2.2 ≤ q68.2.2 := by rw [eq68]; exact Nat.le_refl _
  have yq68 : SXo S q68.2 a0 := by rw [eq68]; exact SXo.tr yq67 (SXo.put (by decide))
  have hb := bind_in hf
  clear hf
  obtain ⟨q69, eq69, hf⟩ := hb
  replace eq69 := (Option.some.inj eq69).symm
  have mq69 : q68.2.2 ≤ q69.2.2 := by rw [eq69]; exact SXt.nS.1
  have yq69 : SXo S q69.2 a0 := by rw [eq69]; exact SXo.tr yq68 (SXt.o SXt.nS (by omega))
  have hb := bind_in hf
  clear hf
  obtain ⟨q70, eq70, hf⟩ := hb
  replace eq70 := (Option.some.inj eq70).symm
  have mq70 : q69.2.2 ≤ q70.2.2 := by rw [eq70]; exact Nat.le_refl _
  have yq70 : SXo S q70.2 a0 := by rw [eq70]; exact SXo.tr yq69 (SXo.put (by decide))
  have hb := bind_in hf
  clear hf
  obtain ⟨q71, eq71, hf⟩ := hb
  replace eq71 := (Option.some.inj eq71).symm
  have mq71 : q70.2.2 ≤ q71.2.2 := by rw [eq71]; exact SXt.nS.1
  have yq71 : SXo S q71.2 a0 := by rw [eq71]; exact SXo.tr yq70 (SXt.o SXt.nS (by omega))
  have hb := bind_in hf
  clear hf
  obtain ⟨q72, eq72, hf⟩ := hb
  replace eq72 := (Option.some.inj eq72).symm
  have mq72 : q71.2.2 ≤ q72.2.2 := by rw [eq72]; exact Nat.le_refl _
  have yq72 : SXo S q72.2 a0 := by rw [eq72]; exact SXo.tr yq71 (SXo.put (by decide))
  have hb := bind_in hf
  clear hf
  obtain ⟨q73, eq73, hf⟩ := hb
  replace eq73 := (Option.some.inj eq73).symm
  have mq73 : q72.2.2 ≤ q73.2.2 := by rw [eq73]; exact SXt.nS.1
  have yq73 : SXo S q73.2 a0 := by rw [eq73]; exact SXo.tr yq72 (SXt.o SXt.nS (by omega))
  have hb := bind_in hf
  clear hf
  obtain ⟨q74, eq74, hf⟩ := hb
  replace eq74 := (Option.some.inj eq74).symm
  have mq74 : q73.2.2 ≤ q74.2.2 := by rw [eq74]; exact Nat.le_refl _
  have yq74 : SXo S q74.2 a0 := by rw [eq74]; exact SXo.tr yq73 (SXo.put (by decide))
  have hb := bind_in hf
  clear hf
  obtain ⟨q75, eq75, hf⟩ := hb
  replace eq75 := (Option.some.inj eq75).symm
  have mq75 : q74.2.2 ≤ q75.2.2 := by rw [eq75]; exact SXt.nS.1
  have yq75 : SXo S q75.2 a0 := by rw [eq75]; exact SXo.tr yq74 (SXt.o SXt.nS (by omega))
  have hb := bind_in hf
  clear hf
  obtain ⟨q76, eq76, hf⟩ := hb
  replace eq76 := (Option.some.inj eq76).symm
  have mq76 : q75.2.2 ≤ q76.2.2 := by rw [eq76]; exact Nat.le_refl _
  have yq76 : SXo S q76.2 a0 := by rw [eq76]; exact SXo.tr yq75 (SXo.put (by decide))
  have hb := bind_in hf
  clear hf
  obtain ⟨q77, eq77, hf⟩ := hb
  replace eq77 := (Option.some.inj eq77).symm
  have mq77 : q76.2.2 ≤ q77.2.2 := by rw [eq77]; exact SXt.nS.1
  have yq77 : SXo S q77.2 a0 := by rw [eq77]; exact SXo.tr yq76 (SXt.o SXt.nS (by omega))
  have hb := bind_in hf
  clear hf
  obtain ⟨q78, eq78, hf⟩ := hb
  replace eq78 := (Option.some.inj eq78).symm
  have mq78 : q77.2.2 ≤ q78.2.2 := by rw [eq78]; exact Nat.le_refl _
  have yq78 : SXo S q78.2 a0 := by rw [eq78]; exact SXo.tr yq77 (SXo.put (by decide))
  have hb := bind_in hf
  clear hf
  obtain ⟨q79, eq79, hf⟩ := hb
  replace eq79 := (Option.some.inj eq79).symm
  have mq79 : q78.2.2 ≤ q79.2.2 := by rw [eq79]; exact SXt.nS.1
  have yq79 : SXo S q79.2 a0 := by rw [eq79]; exact SXo.tr yq78 (SXt.o SXt.nS (by omega))
  have hb := bind_in hf
  clear hf
  obtain ⟨q80, eq80, hf⟩ := hb
  replace eq80 := (Option.some.inj eq80).symm
  have mq80 : q79.2.2 ≤ q80.2.2 := by rw [eq80]; exact Nat.le_refl _
  have yq80 : SXo S q80.2 a0 := by rw [eq80]; exact SXo.tr yq79 (SXo.put (by decide))
  have hb := bind_in hf
  clear hf
  obtain ⟨q81, eq81, hf⟩ := hb
  replace eq81 := (Option.some.inj eq81).symm
  have mq81 : q80.2.2 ≤ q81.2.2 := by rw [eq81]; exact SXt.nS.1
  have yq81 : SXo S q81.2 a0 := by rw [eq81]; exact SXo.tr yq80 (SXt.o SXt.nS (by omega))
  have hb := bind_in hf
  clear hf
  obtain ⟨q82, eq82, hf⟩ := hb
  replace eq82 := (Option.some.inj eq82).symm
  have mq82 : q81.2.2 ≤ q82.2.2 := by rw [eq82]; exact Nat.le_refl _
  have yq82 : SXo S q82.2 a0 := by rw [eq82]; exact SXo.tr yq81 (SXo.put (by decide))
  have hb := bind_in hf
  clear hf
  obtain ⟨q83, eq83, hf⟩ := hb
  replace eq83 := (Option.some.inj eq83).symm
  have mq83 : q82.2.2 ≤ q83.2.2 := by rw [eq83]; exact SXt.nS.1
  have yq83 : SXo S q83.2 a0 := by rw [eq83]; exact SXo.tr yq82 (SXt.o SXt.nS (by omega))
  have hb := bind_in hf
  clear hf
  obtain ⟨q84, eq84, hf⟩ := hb
  replace eq84 := (Option.some.inj eq84).symm
  have mq84 : q83.2.2 ≤ q84.2.2 := by rw [eq84]; exact Nat.le_refl _
  have yq84 : SXo S q84.2 a0 := by rw [eq84]; exact SXo.tr yq83 (SXo.put (by decide))
  have hb := bind_in hf
  clear hf
  obtain ⟨q85, eq85, hf⟩ := hb
  replace eq85 := (Option.some.inj eq85).symm
  have mq85 : q84.2.2 ≤ q85.2.2 := by rw [eq85]; exact SXt.nS.1
  have yq85 : SXo S q85.2 a0 := by rw [eq85]; exact SXo.tr yq84 (SXt.o SXt.nS (by omega))
  have hb := bind_in hf
  clear hf
  obtain ⟨q86, eq86, hf⟩ := hb
  replace eq86 := (Option.some.inj eq86).symm
  have mq86 : q85.2.2 ≤ q86.2.2 := by rw [eq86]; exact Nat.le_refl _
  have yq86 : SXo S q86.2 a0 := by rw [eq86]; exact SXo.tr yq85 (SXo.put (by decide))
  have hb := bind_in hf
  clear hf
  obtain ⟨q87, eq87, hf⟩ := hb
  replace eq87 := (Option.some.inj eq87).symm
  have mq87 : q86.2.2 ≤ q87.2.2 := by rw [eq87]; exact SXt.nS.1
  have yq87 : SXo S q87.2 a0 := by rw [eq87]; exact SXo.tr yq86 (SXt.o SXt.nS (by omega))
  have hb := bind_in hf
  clear hf
  obtain ⟨q88, eq88, hf⟩ := hb
  replace eq88 := (Option.some.inj eq88).symm
  have mq88 : q87.2.2 ≤ q88.2.2 := by rw [eq88]; exact Nat.le_refl _
  have yq88 : SXo S q88.2 a0 := by rw [eq88]; exact SXo.tr yq87 (SXo.put (by decide))
  have hb := bind_in hf
  clear hf
  obtain ⟨q89, eq89, hf⟩ := hb
  replace eq89 := (Option.some.inj eq89).symm
  have mq89 : q88.2.2 ≤ q89.2.2 := by rw [eq89]; exact SXt.nS.1
  have yq89 : SXo S q89.2 a0 := by rw [eq89]; exact SXo.tr yq88 (SXt.o SXt.nS (by omega))
  have hb := bind_in hf
  clear hf
  obtain ⟨q90, eq90, hf⟩ := hb
  replace eq90 := (Option.some.inj eq90).symm
  have mq90 : q89.2.2 ≤ q90.2.2 := by rw [eq90]; exact Nat.le_refl _
  have yq90 : SXo S q90.2 a0 := by rw [eq90]; exact SXo.tr yq89 (SXo.put (by decide))
  have hb := bind_in hf
  clear hf
  obtain ⟨q91, eq91, hf⟩ := hb
  replace eq91 := (Option.some.inj eq91).symm
  have mq91 : q90.2.2 ≤ q91.2.2 := by rw [eq91]; exact SXt.nS.1
  have yq91 : SXo S q91.2 a0 := by rw [eq91]; exact SXo.tr yq90 (SXt.o SXt.nS (by omega))
  have hb := bind_in hf
  clear hf
  obtain ⟨q92, eq92, hf⟩ := hb
  replace eq92 := (Option.some.inj eq92).symm
  have mq92 : q91.2.2 ≤ q92.2.2 := by rw [eq92]; exact Nat.le_refl _
  have yq92 : SXo S q92.2 a0 := by rw [eq92]; exact SXo.tr yq91 (SXo.put (by decide))
  have hb := bind_in hf
  clear hf
  obtain ⟨q93, eq93, hf⟩ := hb
  replace eq93 := (Option.some.inj eq93).symm
  have mq93 : q92.2.2 ≤ q93.2.2 := by rw [eq93]; exact SXt.nS.1
  have yq93 : SXo S q93.2 a0 := by rw [eq93]; exact SXo.tr yq92 (SXt.o SXt.nS (by omega))
  have hb := bind_in hf
  clear hf
  obtain ⟨q94, eq94, hf⟩ := hb
  replace eq94 := (Option.some.inj eq94).symm
  have mq94 : q93.2.2 ≤ q94.2.2 := by rw [eq94]; exact Nat.le_refl _
  have yq94 : SXo S q94.2 a0 := by rw [eq94]; exact SXo.tr yq93 (SXo.put (by decide))
  have hb := bind_in hf
  clear hf
  obtain ⟨q95, eq95, hf⟩ := hb
  replace eq95 := (Option.some.inj eq95).symm
  have mq95 : q94.2.2 ≤ q95.2.2 := by rw [eq95]; exact SXt.nS.1
  have yq95 : SXo S q95.2 a0 := by rw [eq95]; exact SXo.tr yq94 (SXt.o SXt.nS (by omega))
  have hb := bind_in hf
  clear hf
  obtain ⟨q96, eq96, hf⟩ := hb
  replace eq96 := (Option.some.inj eq96).symm
  have mq96 : q95.2.2 ≤ q96.2.2 := by rw [eq96]; exact Nat.le_refl _
  have yq96 : SXo S q96.2 a0 := by rw [eq96]; exact SXo.tr yq95 (SXo.put (by decide))
  have hb := bind_in hf
  clear hf
  obtain ⟨q97, eq97, hf⟩ := hb
  replace eq97 := (Option.some.inj eq97).symm
  have mq97 : q96.2.2 ≤ q97.2.2 := by rw [eq97]; exact SXt.nS.1
  have yq97 : SXo S q97.2 a0 := by rw [eq97]; exact SXo.tr yq96 (SXt.o SXt.nS (by omega))
  have hb := bind_in hf
  clear hf
  obtain ⟨q98, eq98, hf⟩ := hb
  replace eq98 := (Option.some.inj eq98).symm
  have mq98 : q97.2.2 ≤ q98.2.2 := by rw [eq98]; exact Nat.le_refl _
  have yq98 : SXo S q98.2 a0 := by rw [eq98]; exact SXo.tr yq97 (SXo.put (by decide))
  cases hf
  exact yq98
set_option maxHeartbeats 4000000 in
set_option maxRecDepth 100000 in
theorem t_c_m {S : SS} {h : HH} {a0 : Int} (ha0 : KD S a0 12 0) {res : HH × SS} (hf : c_m h S a0 = some res) : CM yX12_init cX12_init 1 (Option.none : Option Jvm.ClassFile.FieldType) 1 12 49 1958 (fun bs => [zP bs a0]) h S (fun _ => none) res.1 res.2 := by
  refine CMI.intro (own := RX12) rfl (by decide) rfl (fun _ => Nat.le_of_ble_eq_true rfl) ?_
  intro D dT bs p l e s m args below meth c C hin
  show V D dT bs 1 p l e { frames := 1, cells := 49, slots := 1958, locals := 12 } s m args below meth c 0 0 _ h S 0 [(0, zP bs a0)] []
  unfold c_m at hf
  have hlt0 := ha0.2.1
  refine r_aload_n (pc' := 1) (f4 := 0) (i := 0) C 0 rfl rfl dX12_init_0 rfl ?_
  refine r_objI (pc' := 4) C wd_1170 wd_130 wd_131 (Nat.le_of_ble_eq_true rfl) (Nat.le_of_ble_eq_true rfl) dX12_init_1 rfl ?_
  refine r_aload_n (pc' := 5) (f4 := 0) (i := 0) C 0 rfl rfl dX12_init_4 rfl ?_
  refine r_iconst (pc' := 6) C dX12_init_5 rfl ?_
  refine q_putI (pc' := 9) (j := 0) C ha0 fbc_12_0 fpc_12_0 wd_1171 (Or.inl rfl) (Or.inl rfl) rfl rfl dX12_init_6 rfl ?_
  refine r_aload_n (pc' := 10) (f4 := 0) (i := 0) C 0 rfl rfl dX12_init_9 rfl ?_
  refine r_iconst (pc' := 11) C dX12_init_10 rfl ?_
  refine q_putI (pc' := 14) (j := 1) C ha0 fbc_12_1 fpc_12_1 wd_1172 (Or.inl rfl) (Or.inl rfl) rfl rfl dX12_init_11 rfl ?_
  refine r_aload_n (pc' := 15) (f4 := 0) (i := 0) C 0 rfl rfl dX12_init_14 rfl ?_
  refine r_iconst (pc' := 16) C dX12_init_15 rfl ?_
  refine q_putI (pc' := 19) (j := 2) C ha0 fbc_12_2 fpc_12_2 wd_1173 (Or.inl rfl) (Or.inl rfl) rfl rfl dX12_init_16 rfl ?_
  refine r_aload_n (pc' := 20) (f4 := 0) (i := 0) C 0 rfl rfl dX12_init_19 rfl ?_
  refine r_bipush (pc' := 22) C rfl dX12_init_20 rfl ?_
  have hb := bind_in hf
  clear hf
  obtain ⟨q1, eq1, hf⟩ := hb
  refine r_newI (pc' := 24) C wd_159 ww_n6 ⟨by decide, by decide⟩ ⟨Nat.le_of_ble_eq_true rfl, Nat.le_of_ble_eq_true rfl⟩ dX12_init_22 rfl ?_
  replace eq1 := (Option.some.inj eq1).symm
  refine V.eq (h1 := q1.1) (S1 := q1.2) (by rw [eq1] <;> rfl) (by rw [eq1] <;> rfl) rfl rfl rfl ?_
  replace ha0 : KD q1.2 a0 12 0 := by rw [eq1]; exact KD.ext SXt.nS ha0
  have mq1 : S.2 ≤ q1.2.2 := by rw [eq1]; exact SXt.nS.1
  have kq1 : KD q1.2 (S.2 : Int) 20 6 := by rw [eq1]; exact KD.new
  have hb := bind_in hf
  clear hf
  obtain ⟨q2, eq2, hf⟩ := hb
  refine q_putRP (pc' := 27) (j := 3) C ha0 fbc_12_3 fpc_12_3 (by decide) wd_1174 (Or.inl rfl) (Or.inr ⟨rfl, hin, rfl⟩) (by rfl) (by rfl) dX12_init_24 (by have := kq1.1; omega) rfl ?_
  replace eq2 := (Option.some.inj eq2).symm
  refine V.eq (h1 := q2.1) (S1 := q2.2) (by rw [eq2] <;> rfl) (by rw [eq2] <;> rfl) rfl rfl rfl ?_
  replace ha0 : KD q2.2 a0 12 0 := by rw [eq2]; exact KD.uS ha0 (by decide)
  replace kq1 : KD q2.2 (S.2 : Int) 20 6 := by rw [eq2]; exact KD.uS kq1 (by decide)
  have mq2 : q1.2.2 ≤ q2.2.2 := by rw [eq2]; exact Nat.le_refl _
  refine r_aload_n (pc' := 28) (f4 := 0) (i := 0) C 0 rfl rfl dX12_init_27 rfl ?_
  refine r_bipush (pc' := 30) C rfl dX12_init_28 rfl ?_
  have hb := bind_in hf
  clear hf
  obtain ⟨q3, eq3, hf⟩ := hb
  refine r_newI (pc' := 32) C wd_159 ww_n6 ⟨by decide, by decide⟩ ⟨Nat.le_of_ble_eq_true rfl, Nat.le_of_ble_eq_true rfl⟩ dX12_init_30 rfl ?_
  replace eq3 := (Option.some.inj eq3).symm
  refine V.eq (h1 := q3.1) (S1 := q3.2) (by rw [eq3] <;> rfl) (by rw [eq3] <;> rfl) rfl rfl rfl ?_
  replace ha0 : KD q3.2 a0 12 0 := by rw [eq3]; exact KD.ext SXt.nS ha0
  have mq3 : q2.2.2 ≤ q3.2.2 := by rw [eq3]; exact SXt.nS.1
  have kq3 : KD q3.2 (q2.2.2 : Int) 20 6 := by rw [eq3]; exact KD.new
  have hb := bind_in hf
  clear hf
  obtain ⟨q4, eq4, hf⟩ := hb
  refine q_putRP (pc' := 35) (j := 4) C ha0 fbc_12_4 fpc_12_4 (by decide) wd_1175 (Or.inl rfl) (Or.inr ⟨rfl, hin, rfl⟩) (by rfl) (by rfl) dX12_init_32 (by have := kq3.1; omega) rfl ?_
  replace eq4 := (Option.some.inj eq4).symm
  refine V.eq (h1 := q4.1) (S1 := q4.2) (by rw [eq4] <;> rfl) (by rw [eq4] <;> rfl) rfl rfl rfl ?_
  replace ha0 : KD q4.2 a0 12 0 := by rw [eq4]; exact KD.uS ha0 (by decide)
  replace kq3 : KD q4.2 (q2.2.2 : Int) 20 6 := by rw [eq4]; exact KD.uS kq3 (by decide)
  have mq4 : q3.2.2 ≤ q4.2.2 := by rw [eq4]; exact Nat.le_refl _
  refine r_aload_n (pc' := 36) (f4 := 0) (i := 0) C 0 rfl rfl dX12_init_35 rfl ?_
  refine r_bipush (pc' := 38) C rfl dX12_init_36 rfl ?_
  have hb := bind_in hf
  clear hf
  obtain ⟨q5, eq5, hf⟩ := hb
  refine r_newI (pc' := 40) C wd_159 ww_n30 ⟨by decide, by decide⟩ ⟨Nat.le_of_ble_eq_true rfl, Nat.le_of_ble_eq_true rfl⟩ dX12_init_38 rfl ?_
  replace eq5 := (Option.some.inj eq5).symm
  refine V.eq (h1 := q5.1) (S1 := q5.2) (by rw [eq5] <;> rfl) (by rw [eq5] <;> rfl) rfl rfl rfl ?_
  replace ha0 : KD q5.2 a0 12 0 := by rw [eq5]; exact KD.ext SXt.nS ha0
  have mq5 : q4.2.2 ≤ q5.2.2 := by rw [eq5]; exact SXt.nS.1
  have kq5 : KD q5.2 (q4.2.2 : Int) 20 30 := by rw [eq5]; exact KD.new
  have hb := bind_in hf
  clear hf
  obtain ⟨q6, eq6, hf⟩ := hb
  refine q_putRP (pc' := 43) (j := 5) C ha0 fbc_12_5 fpc_12_5 (by decide) wd_1176 (Or.inl rfl) (Or.inr ⟨rfl, hin, rfl⟩) (by rfl) (by rfl) dX12_init_40 (by have := kq5.1; omega) rfl ?_
  replace eq6 := (Option.some.inj eq6).symm
  refine V.eq (h1 := q6.1) (S1 := q6.2) (by rw [eq6] <;> rfl) (by rw [eq6] <;> rfl) rfl rfl rfl ?_
  replace ha0 : KD q6.2 a0 12 0 := by rw [eq6]; exact KD.uS ha0 (by decide)
  replace kq5 : KD q6.2 (q4.2.2 : Int) 20 30 := by rw [eq6]; exact KD.uS kq5 (by decide)
  have mq6 : q5.2.2 ≤ q6.2.2 := by rw [eq6]; exact Nat.le_refl _
  refine r_aload_n (pc' := 44) (f4 := 0) (i := 0) C 0 rfl rfl dX12_init_43 rfl ?_
  refine r_bipush (pc' := 46) C rfl dX12_init_44 rfl ?_
  have hb := bind_in hf
  clear hf
  obtain ⟨q7, eq7, hf⟩ := hb
  refine r_newI (pc' := 48) C wd_159 ww_n24 ⟨by decide, by decide⟩ ⟨Nat.le_of_ble_eq_true rfl, Nat.le_of_ble_eq_true rfl⟩ dX12_init_46 rfl ?_
  replace eq7 := (Option.some.inj eq7).symm
  refine V.eq (h1 := q7.1) (S1 := q7.2) (by rw [eq7] <;> rfl) (by rw [eq7] <;> rfl) rfl rfl rfl ?_
  replace ha0 : KD q7.2 a0 12 0 := by rw [eq7]; exact KD.ext SXt.nS ha0
  have mq7 : q6.2.2 ≤ q7.2.2 := by rw [eq7]; exact SXt.nS.1
  have kq7 : KD q7.2 (q6.2.2 : Int) 20 24 := by rw [eq7]; exact KD.new
  have hb := bind_in hf
  clear hf
  obtain ⟨q8, eq8, hf⟩ := hb
  refine q_putRP (pc' := 51) (j := 6) C ha0 fbc_12_6 fpc_12_6 (by decide) wd_1177 (Or.inl rfl) (Or.inr ⟨rfl, hin, rfl⟩) (by rfl) (by rfl) dX12_init_48 (by have := kq7.1; omega) rfl ?_
  replace eq8 := (Option.some.inj eq8).symm
  refine V.eq (h1 := q8.1) (S1 := q8.2) (by rw [eq8] <;> rfl) (by rw [eq8] <;> rfl) rfl rfl rfl ?_
  replace ha0 : KD q8.2 a0 12 0 := by rw [eq8]; exact KD.uS ha0 (by decide)
  replace kq7 : KD q8.2 (q6.2.2 : Int) 20 24 := by rw [eq8]; exact KD.uS kq7 (by decide)
  have mq8 : q7.2.2 ≤ q8.2.2 := by rw [eq8]; exact Nat.le_refl _
  refine r_aload_n (pc' := 52) (f4 := 0) (i := 0) C 0 rfl rfl dX12_init_51 rfl ?_
  refine r_iconst (pc' := 53) C dX12_init_52 rfl ?_
  have hb := bind_in hf
  clear hf
  obtain ⟨q9, eq9, hf⟩ := hb
  refine r_newI (pc' := 55) C wd_159 ww_n5 ⟨by decide, by decide⟩ ⟨Nat.le_of_ble_eq_true rfl, Nat.le_of_ble_eq_true rfl⟩ dX12_init_53 rfl ?_
  replace eq9 := (Option.some.inj eq9).symm
  refine V.eq (h1 := q9.1) (S1 := q9.2) (by rw [eq9] <;> rfl) (by rw [eq9] <;> rfl) rfl rfl rfl ?_
  replace ha0 : KD q9.2 a0 12 0 := by rw [eq9]; exact KD.ext SXt.nS ha0
  have mq9 : q8.2.2 ≤ q9.2.2 := by rw [eq9]; exact SXt.nS.1
  have kq9 : KD q9.2 (q8.2.2 : Int) 20 5 := by rw [eq9]; exact KD.new
  have hb := bind_in hf
  clear hf
  obtain ⟨q10, eq10, hf⟩ := hb
  refine q_putRP (pc' := 58) (j := 7) C ha0 fbc_12_7 fpc_12_7 (by decide) wd_1178 (Or.inl rfl) (Or.inr ⟨rfl, hin, rfl⟩) (by rfl) (by rfl) dX12_init_55 (by have := kq9.1; omega) rfl ?_
  replace eq10 := (Option.some.inj eq10).symm
  refine V.eq (h1 := q10.1) (S1 := q10.2) (by rw [eq10] <;> rfl) (by rw [eq10] <;> rfl) rfl rfl rfl ?_
  replace ha0 : KD q10.2 a0 12 0 := by rw [eq10]; exact KD.uS ha0 (by decide)
  replace kq9 : KD q10.2 (q8.2.2 : Int) 20 5 := by rw [eq10]; exact KD.uS kq9 (by decide)
  have mq10 : q9.2.2 ≤ q10.2.2 := by rw [eq10]; exact Nat.le_refl _
  refine r_aload_n (pc' := 59) (f4 := 0) (i := 0) C 0 rfl rfl dX12_init_58 rfl ?_
  refine r_iconst (pc' := 60) C dX12_init_59 rfl ?_
  have hb := bind_in hf
  clear hf
  obtain ⟨q11, eq11, hf⟩ := hb
  refine r_newI (pc' := 62) C wd_159 ww_n5 ⟨by decide, by decide⟩ ⟨Nat.le_of_ble_eq_true rfl, Nat.le_of_ble_eq_true rfl⟩ dX12_init_60 rfl ?_
  replace eq11 := (Option.some.inj eq11).symm
  refine V.eq (h1 := q11.1) (S1 := q11.2) (by rw [eq11] <;> rfl) (by rw [eq11] <;> rfl) rfl rfl rfl ?_
  replace ha0 : KD q11.2 a0 12 0 := by rw [eq11]; exact KD.ext SXt.nS ha0
  have mq11 : q10.2.2 ≤ q11.2.2 := by rw [eq11]; exact SXt.nS.1
  have kq11 : KD q11.2 (q10.2.2 : Int) 20 5 := by rw [eq11]; exact KD.new
  refine r_dup (pc' := 63) C rfl dX12_init_62 rfl ?_
  refine r_iconst (pc' := 64) C dX12_init_63 rfl ?_
  refine r_bipush (pc' := 66) C rfl dX12_init_64 rfl ?_
  refine r_iast (pc' := 67) C kq11 ww_n0 (by decide) dX12_init_66 rfl ?_
  refine r_dup (pc' := 68) C rfl dX12_init_67 rfl ?_
  refine r_iconst (pc' := 69) C dX12_init_68 rfl ?_
  refine r_bipush (pc' := 71) C rfl dX12_init_69 rfl ?_
  refine r_iast (pc' := 72) C kq11 ww_n1 (by decide) dX12_init_71 rfl ?_
  refine r_dup (pc' := 73) C rfl dX12_init_72 rfl ?_
  refine r_iconst (pc' := 74) C dX12_init_73 rfl ?_
  refine r_bipush (pc' := 76) C rfl dX12_init_74 rfl ?_
  refine r_iast (pc' := 77) C kq11 ww_n2 (by decide) dX12_init_76 rfl ?_
  refine r_dup (pc' := 78) C rfl dX12_init_77 rfl ?_
  refine r_iconst (pc' := 79) C dX12_init_78 rfl ?_
  refine r_bipush (pc' := 81) C rfl dX12_init_79 rfl ?_
  refine r_iast (pc' := 82) C kq11 ww_n3 (by decide) dX12_init_81 rfl ?_
  refine r_dup (pc' := 83) C rfl dX12_init_82 rfl ?_
  refine r_iconst (pc' := 84) C dX12_init_83 rfl ?_
  refine r_bipush (pc' := 86) C rfl dX12_init_84 rfl ?_
  refine r_iast (pc' := 87) C kq11 ww_n4 (by decide) dX12_init_86 rfl ?_
  have hb := bind_in hf
  clear hf
  obtain ⟨q12, eq12, hf⟩ := hb
  refine q_putRP (pc' := 90) (j := 8) C ha0 fbc_12_8 fpc_12_8 (by decide) wd_1179 (Or.inl rfl) (Or.inr ⟨rfl, hin, rfl⟩) (by rfl) (by rfl) dX12_init_87 (by have := kq11.1; omega) rfl ?_
  replace eq12 := (Option.some.inj eq12).symm
  refine V.eq (h1 := q12.1) (S1 := q12.2) (by rw [eq12] <;> rfl) (by rw [eq12] <;> rfl) rfl rfl rfl ?_
  replace ha0 : KD q12.2 a0 12 0 := by rw [eq12]; exact KD.uS ha0 (by decide)
  replace kq11 : KD q12.2 (q10.2.2 : Int) 20 5 := by rw [eq12]; exact KD.uS kq11 (by decide)
  have mq12 : q11.2.2 ≤ q12.2.2 := by rw [eq12]; exact Nat.le_refl _
  refine r_aload_n (pc' := 91) (f4 := 0) (i := 0) C 0 rfl rfl dX12_init_90 rfl ?_
  refine r_iconst (pc' := 92) C dX12_init_91 rfl ?_
  refine q_putI (pc' := 95) (j := 9) C ha0 fbc_12_9 fpc_12_9 wd_1180 (Or.inl rfl) (Or.inl rfl) rfl rfl dX12_init_92 rfl ?_
  refine r_aload_n (pc' := 96) (f4 := 0) (i := 0) C 0 rfl rfl dX12_init_95 rfl ?_
  refine r_iconst (pc' := 97) C dX12_init_96 rfl ?_
  refine q_putI (pc' := 100) (j := 10) C ha0 fbc_12_10 fpc_12_10 wd_1181 (Or.inl rfl) (Or.inl rfl) rfl rfl dX12_init_97 rfl ?_
  refine r_aload_n (pc' := 101) (f4 := 0) (i := 0) C 0 rfl rfl dX12_init_100 rfl ?_
  refine r_iconst (pc' := 102) C dX12_init_101 rfl ?_
  refine q_putI (pc' := 105) (j := 11) C ha0 fbc_12_11 fpc_12_11 wd_1182 (Or.inl rfl) (Or.inl rfl) rfl rfl dX12_init_102 rfl ?_
  refine r_aload_n (pc' := 106) (f4 := 0) (i := 0) C 0 rfl rfl dX12_init_105 rfl ?_
  refine r_iconst (pc' := 107) C dX12_init_106 rfl ?_
  refine q_putI (pc' := 110) (j := 12) C ha0 fbc_12_12 fpc_12_12 wd_1183 (Or.inl rfl) (Or.inl rfl) rfl rfl dX12_init_107 rfl ?_
  refine r_aload_n (pc' := 111) (f4 := 0) (i := 0) C 0 rfl rfl dX12_init_110 rfl ?_
  refine r_iconst (pc' := 112) C dX12_init_111 rfl ?_
  refine q_putI (pc' := 115) (j := 13) C ha0 fbc_12_13 fpc_12_13 wd_1184 (Or.inl rfl) (Or.inl rfl) rfl rfl dX12_init_112 rfl ?_
  refine r_aload_n (pc' := 116) (f4 := 0) (i := 0) C 0 rfl rfl dX12_init_115 rfl ?_
  refine r_bipush (pc' := 118) C rfl dX12_init_116 rfl ?_
  have hb := bind_in hf
  clear hf
  obtain ⟨q13, eq13, hf⟩ := hb
  refine r_newI (pc' := 120) C wd_159 ww_n100 ⟨by decide, by decide⟩ ⟨Nat.le_of_ble_eq_true rfl, Nat.le_of_ble_eq_true rfl⟩ dX12_init_118 rfl ?_
  replace eq13 := (Option.some.inj eq13).symm
  refine V.eq (h1 := q13.1) (S1 := q13.2) (by rw [eq13] <;> rfl) (by rw [eq13] <;> rfl) rfl rfl rfl ?_
  replace ha0 : KD q13.2 a0 12 0 := by rw [eq13]; exact KD.ext SXt.nS ha0
  have mq13 : q12.2.2 ≤ q13.2.2 := by rw [eq13]; exact SXt.nS.1
  have kq13 : KD q13.2 (q12.2.2 : Int) 20 100 := by rw [eq13]; exact KD.new
  have hb := bind_in hf
  clear hf
  obtain ⟨q14, eq14, hf⟩ := hb
  refine q_putRP (pc' := 123) (j := 14) C ha0 fbc_12_14 fpc_12_14 (by decide) wd_1185 (Or.inl rfl) (Or.inr ⟨rfl, hin, rfl⟩) (by rfl) (by rfl) dX12_init_120 (by have := kq13.1; omega) rfl ?_
  replace eq14 := (Option.some.inj eq14).symm
  refine V.eq (h1 := q14.1) (S1 := q14.2) (by rw [eq14] <;> rfl) (by rw [eq14] <;> rfl) rfl rfl rfl ?_
  replace ha0 : KD q14.2 a0 12 0 := by rw [eq14]; exact KD.uS ha0 (by decide)
  replace kq13 : KD q14.2 (q12.2.2 : Int) 20 100 := by rw [eq14]; exact KD.uS kq13 (by decide)
  have mq14 : q13.2.2 ≤ q14.2.2 := by rw [eq14]; exact Nat.le_refl _
  refine r_aload_n (pc' := 124) (f4 := 0) (i := 0) C 0 rfl rfl dX12_init_123 rfl ?_
  refine r_bipush (pc' := 126) C rfl dX12_init_124 rfl ?_
  have hb := bind_in hf
  clear hf
  obtain ⟨q15, eq15, hf⟩ := hb
  refine r_newI (pc' := 128) C wd_159 ww_n6 ⟨by decide, by decide⟩ ⟨Nat.le_of_ble_eq_true rfl, Nat.le_of_ble_eq_true rfl⟩ dX12_init_126 rfl ?_
  replace eq15 := (Option.some.inj eq15).symm
  refine V.eq (h1 := q15.1) (S1 := q15.2) (by rw [eq15] <;> rfl) (by rw [eq15] <;> rfl) rfl rfl rfl ?_
  replace ha0 : KD q15.2 a0 12 0 := by rw [eq15]; exact KD.ext SXt.nS ha0
  have mq15 : q14.2.2 ≤ q15.2.2 := by rw [eq15]; exact SXt.nS.1
  have kq15 : KD q15.2 (q14.2.2 : Int) 20 6 := by rw [eq15]; exact KD.new
  have hb := bind_in hf
  clear hf
  obtain ⟨q16, eq16, hf⟩ := hb
  refine q_putRP (pc' := 131) (j := 15) C ha0 fbc_12_15 fpc_12_15 (by decide) wd_1186 (Or.inl rfl) (Or.inr ⟨rfl, hin, rfl⟩) (by rfl) (by rfl) dX12_init_128 (by have := kq15.1; omega) rfl ?_
  replace eq16 := (Option.some.inj eq16).symm
  refine V.eq (h1 := q16.1) (S1 := q16.2) (by rw [eq16] <;> rfl) (by rw [eq16] <;> rfl) rfl rfl rfl ?_
  replace ha0 : KD q16.2 a0 12 0 := by rw [eq16]; exact KD.uS ha0 (by decide)
  replace kq15 : KD q16.2 (q14.2.2 : Int) 20 6 := by rw [eq16]; exact KD.uS kq15 (by decide)
  have mq16 : q15.2.2 ≤ q16.2.2 := by rw [eq16]; exact Nat.le_refl _
  refine r_aload_n (pc' := 132) (f4 := 0) (i := 0) C 0 rfl rfl dX12_init_131 rfl ?_
  refine r_bipush (pc' := 134) C rfl dX12_init_132 rfl ?_
  have hb := bind_in hf
  clear hf
  obtain ⟨q17, eq17, hf⟩ := hb
  refine r_newI (pc' := 136) C wd_159 ww_n60 ⟨by decide, by decide⟩ ⟨Nat.le_of_ble_eq_true rfl, Nat.le_of_ble_eq_true rfl⟩ dX12_init_134 rfl ?_
  replace eq17 := (Option.some.inj eq17).symm
  refine V.eq (h1 := q17.1) (S1 := q17.2) (by rw [eq17] <;> rfl) (by rw [eq17] <;> rfl) rfl rfl rfl ?_
  replace ha0 : KD q17.2 a0 12 0 := by rw [eq17]; exact KD.ext SXt.nS ha0
  have mq17 : q16.2.2 ≤ q17.2.2 := by rw [eq17]; exact SXt.nS.1
  have kq17 : KD q17.2 (q16.2.2 : Int) 20 60 := by rw [eq17]; exact KD.new
  have hb := bind_in hf
  clear hf
  obtain ⟨q18, eq18, hf⟩ := hb
  refine q_putRP (pc' := 139) (j := 16) C ha0 fbc_12_16 fpc_12_16 (by decide) wd_1187 (Or.inl rfl) (Or.inr ⟨rfl, hin, rfl⟩) (by rfl) (by rfl) dX12_init_136 (by have := kq17.1; omega) rfl ?_
  replace eq18 := (Option.some.inj eq18).symm
  refine V.eq (h1 := q18.1) (S1 := q18.2) (by rw [eq18] <;> rfl) (by rw [eq18] <;> rfl) rfl rfl rfl ?_
  replace ha0 : KD q18.2 a0 12 0 := by rw [eq18]; exact KD.uS ha0 (by decide)
  replace kq17 : KD q18.2 (q16.2.2 : Int) 20 60 := by rw [eq18]; exact KD.uS kq17 (by decide)
  have mq18 : q17.2.2 ≤ q18.2.2 := by rw [eq18]; exact Nat.le_refl _
  refine r_aload_n (pc' := 140) (f4 := 0) (i := 0) C 0 rfl rfl dX12_init_139 rfl ?_
  refine r_bipush (pc' := 142) C rfl dX12_init_140 rfl ?_
  have hb := bind_in hf
  clear hf
  obtain ⟨q19, eq19, hf⟩ := hb
  refine r_newI (pc' := 144) C wd_159 ww_n60 ⟨by decide, by decide⟩ ⟨Nat.le_of_ble_eq_true rfl, Nat.le_of_ble_eq_true rfl⟩ dX12_init_142 rfl ?_
  replace eq19 := (Option.some.inj eq19).symm
  refine V.eq (h1 := q19.1) (S1 := q19.2) (by rw [eq19] <;> rfl) (by rw [eq19] <;> rfl) rfl rfl rfl ?_
  replace ha0 : KD q19.2 a0 12 0 := by rw [eq19]; exact KD.ext SXt.nS ha0
  have mq19 : q18.2.2 ≤ q19.2.2 := by rw [eq19]; exact SXt.nS.1
  have kq19 : KD q19.2 (q18.2.2 : Int) 20 60 := by rw [eq19]; exact KD.new
  have hb := bind_in hf
  clear hf
  obtain ⟨q20, eq20, hf⟩ := hb
  refine q_putRP (pc' := 147) (j := 17) C ha0 fbc_12_17 fpc_12_17 (by decide) wd_1188 (Or.inl rfl) (Or.inr ⟨rfl, hin, rfl⟩) (by rfl) (by rfl) dX12_init_144 (by have := kq19.1; omega) rfl ?_
  replace eq20 := (Option.some.inj eq20).symm
  refine V.eq (h1 := q20.1) (S1 := q20.2) (by rw [eq20] <;> rfl) (by rw [eq20] <;> rfl) rfl rfl rfl ?_
  replace ha0 : KD q20.2 a0 12 0 := by rw [eq20]; exact KD.uS ha0 (by decide)
  replace kq19 : KD q20.2 (q18.2.2 : Int) 20 60 := by rw [eq20]; exact KD.uS kq19 (by decide)
  have mq20 : q19.2.2 ≤ q20.2.2 := by rw [eq20]; exact Nat.le_refl _
  refine r_aload_n (pc' := 148) (f4 := 0) (i := 0) C 0 rfl rfl dX12_init_147 rfl ?_
  refine r_bipush (pc' := 150) C rfl dX12_init_148 rfl ?_
  have hb := bind_in hf
  clear hf
  obtain ⟨q21, eq21, hf⟩ := hb
  refine r_newI (pc' := 152) C wd_159 ww_n60 ⟨by decide, by decide⟩ ⟨Nat.le_of_ble_eq_true rfl, Nat.le_of_ble_eq_true rfl⟩ dX12_init_150 rfl ?_
  replace eq21 := (Option.some.inj eq21).symm
  refine V.eq (h1 := q21.1) (S1 := q21.2) (by rw [eq21] <;> rfl) (by rw [eq21] <;> rfl) rfl rfl rfl ?_
  replace ha0 : KD q21.2 a0 12 0 := by rw [eq21]; exact KD.ext SXt.nS ha0
  have mq21 : q20.2.2 ≤ q21.2.2 := by rw [eq21]; exact SXt.nS.1
  have kq21 : KD q21.2 (q20.2.2 : Int) 20 60 := by rw [eq21]; exact KD.new
  have hb := bind_in hf
  clear hf
  obtain ⟨q22, eq22, hf⟩ := hb
  refine q_putRP (pc' := 155) (j := 18) C ha0 fbc_12_18 fpc_12_18 (by decide) wd_1189 (Or.inl rfl) (Or.inr ⟨rfl, hin, rfl⟩) (by rfl) (by rfl) dX12_init_152 (by have := kq21.1; omega) rfl ?_
  replace eq22 := (Option.some.inj eq22).symm
  refine V.eq (h1 := q22.1) (S1 := q22.2) (by rw [eq22] <;> rfl) (by rw [eq22] <;> rfl) rfl rfl rfl ?_
  replace ha0 : KD q22.2 a0 12 0 := by rw [eq22]; exact KD.uS ha0 (by decide)
  replace kq21 : KD q22.2 (q20.2.2 : Int) 20 60 := by rw [eq22]; exact KD.uS kq21 (by decide)
  have mq22 : q21.2.2 ≤ q22.2.2 := by rw [eq22]; exact Nat.le_refl _
  refine r_aload_n (pc' := 156) (f4 := 0) (i := 0) C 0 rfl rfl dX12_init_155 rfl ?_
  refine r_bipush (pc' := 158) C rfl dX12_init_156 rfl ?_
  have hb := bind_in hf
  clear hf
  obtain ⟨q23, eq23, hf⟩ := hb
  refine r_newI (pc' := 160) C wd_159 ww_n60 ⟨by decide, by decide⟩ ⟨Nat.le_of_ble_eq_true rfl, Nat.le_of_ble_eq_true rfl⟩ dX12_init_158 rfl ?_
  replace eq23 := (Option.some.inj eq23).symm
  refine V.eq (h1 := q23.1) (S1 := q23.2) (by rw [eq23] <;> rfl) (by rw [eq23] <;> rfl) rfl rfl rfl ?_
  replace ha0 : KD q23.2 a0 12 0 := by rw [eq23]; exact KD.ext SXt.nS ha0
  have mq23 : q22.2.2 ≤ q23.2.2 := by rw [eq23]; exact SXt.nS.1
  have kq23 : KD q23.2 (q22.2.2 : Int) 20 60 := by rw [eq23]; exact KD.new
  have hb := bind_in hf
  clear hf
  obtain ⟨q24, eq24, hf⟩ := hb
  refine q_putRP (pc' := 163) (j := 19) C ha0 fbc_12_19 fpc_12_19 (by decide) wd_1190 (Or.inl rfl) (Or.inr ⟨rfl, hin, rfl⟩) (by rfl) (by rfl) dX12_init_160 (by have := kq23.1; omega) rfl ?_
  replace eq24 := (Option.some.inj eq24).symm
  refine V.eq (h1 := q24.1) (S1 := q24.2) (by rw [eq24] <;> rfl) (by rw [eq24] <;> rfl) rfl rfl rfl ?_
  replace ha0 : KD q24.2 a0 12 0 := by rw [eq24]; exact KD.uS ha0 (by decide)
  replace kq23 : KD q24.2 (q22.2.2 : Int) 20 60 := by rw [eq24]; exact KD.uS kq23 (by decide)
  have mq24 : q23.2.2 ≤ q24.2.2 := by rw [eq24]; exact Nat.le_refl _
  refine r_aload_n (pc' := 164) (f4 := 0) (i := 0) C 0 rfl rfl dX12_init_163 rfl ?_
  refine r_sipush (pc' := 167) C rfl dX12_init_164 rfl ?_
  have hb := bind_in hf
  clear hf
  obtain ⟨q25, eq25, hf⟩ := hb
  refine r_newI (pc' := 169) C wd_159 ww_n600 ⟨by decide, by decide⟩ ⟨Nat.le_of_ble_eq_true rfl, Nat.le_of_ble_eq_true rfl⟩ dX12_init_167 rfl ?_
  replace eq25 := (Option.some.inj eq25).symm
  refine V.eq (h1 := q25.1) (S1 := q25.2) (by rw [eq25] <;> rfl) (by rw [eq25] <;> rfl) rfl rfl rfl ?_
  replace ha0 : KD q25.2 a0 12 0 := by rw [eq25]; exact KD.ext SXt.nS ha0
  have mq25 : q24.2.2 ≤ q25.2.2 := by rw [eq25]; exact SXt.nS.1
  have kq25 : KD q25.2 (q24.2.2 : Int) 20 600 := by rw [eq25]; exact KD.new
  have hb := bind_in hf
  clear hf
  obtain ⟨q26, eq26, hf⟩ := hb
  refine q_putRP (pc' := 172) (j := 20) C ha0 fbc_12_20 fpc_12_20 (by decide) wd_1191 (Or.inl rfl) (Or.inr ⟨rfl, hin, rfl⟩) (by rfl) (by rfl) dX12_init_169 (by have := kq25.1; omega) rfl ?_
  replace eq26 := (Option.some.inj eq26).symm
  refine V.eq (h1 := q26.1) (S1 := q26.2) (by rw [eq26] <;> rfl) (by rw [eq26] <;> rfl) rfl rfl rfl ?_
  replace ha0 : KD q26.2 a0 12 0 := by rw [eq26]; exact KD.uS ha0 (by decide)
  replace kq25 : KD q26.2 (q24.2.2 : Int) 20 600 := by rw [eq26]; exact KD.uS kq25 (by decide)
  have mq26 : q25.2.2 ≤ q26.2.2 := by rw [eq26]; exact Nat.le_refl _
  refine r_aload_n (pc' := 173) (f4 := 0) (i := 0) C 0 rfl rfl dX12_init_172 rfl ?_
  refine r_bipush (pc' := 175) C rfl dX12_init_173 rfl ?_
  have hb := bind_in hf
  clear hf
  obtain ⟨q27, eq27, hf⟩ := hb
  refine r_newI (pc' := 177) C wd_159 ww_n101 ⟨by decide, by decide⟩ ⟨Nat.le_of_ble_eq_true rfl, Nat.le_of_ble_eq_true rfl⟩ dX12_init_175 rfl ?_
  replace eq27 := (Option.some.inj eq27).symm
  refine V.eq (h1 := q27.1) (S1 := q27.2) (by rw [eq27] <;> rfl) (by rw [eq27] <;> rfl) rfl rfl rfl ?_
  replace ha0 : KD q27.2 a0 12 0 := by rw [eq27]; exact KD.ext SXt.nS ha0
  have mq27 : q26.2.2 ≤ q27.2.2 := by rw [eq27]; exact SXt.nS.1
  have kq27 : KD q27.2 (q26.2.2 : Int) 20 101 := by rw [eq27]; exact KD.new
  have hb := bind_in hf
  clear hf
  obtain ⟨q28, eq28, hf⟩ := hb
  refine q_putRP (pc' := 180) (j := 21) C ha0 fbc_12_21 fpc_12_21 (by decide) wd_1192 (Or.inl rfl) (Or.inr ⟨rfl, hin, rfl⟩) (by rfl) (by rfl) dX12_init_177 (by have := kq27.1; omega) rfl ?_
  replace eq28 := (Option.some.inj eq28).symm
  refine V.eq (h1 := q28.1) (S1 := q28.2) (by rw [eq28] <;> rfl) (by rw [eq28] <;> rfl) rfl rfl rfl ?_
  replace ha0 : KD q28.2 a0 12 0 := by rw [eq28]; exact KD.uS ha0 (by decide)
  replace kq27 : KD q28.2 (q26.2.2 : Int) 20 101 := by rw [eq28]; exact KD.uS kq27 (by decide)
  have mq28 : q27.2.2 ≤ q28.2.2 := by rw [eq28]; exact Nat.le_refl _
  refine r_aload_n (pc' := 181) (f4 := 0) (i := 0) C 0 rfl rfl dX12_init_180 rfl ?_
  refine r_iconst (pc' := 182) C dX12_init_181 rfl ?_
  refine q_putI (pc' := 185) (j := 22) C ha0 fbc_12_22 fpc_12_22 wd_1193 (Or.inl rfl) (Or.inl rfl) rfl rfl dX12_init_182 rfl ?_
  refine r_aload_n (pc' := 186) (f4 := 0) (i := 0) C 0 rfl rfl dX12_init_185 rfl ?_
  refine r_iconst (pc' := 187) C dX12_init_186 rfl ?_
  refine q_putI (pc' := 190) (j := 23) C ha0 fbc_12_23 fpc_12_23 wd_1194 (Or.inl rfl) (Or.inl rfl) rfl rfl dX12_init_187 rfl ?_
  refine r_aload_n (pc' := 191) (f4 := 0) (i := 0) C 0 rfl rfl dX12_init_190 rfl ?_
  refine r_iconst (pc' := 192) C dX12_init_191 rfl ?_
  refine q_putI (pc' := 195) (j := 24) C ha0 fbc_12_24 fpc_12_24 wd_1195 (Or.inl rfl) (Or.inl rfl) rfl rfl dX12_init_192 rfl ?_
  refine r_aload_n (pc' := 196) (f4 := 0) (i := 0) C 0 rfl rfl dX12_init_195 rfl ?_
  refine r_bipush (pc' := 198) C rfl dX12_init_196 rfl ?_
  have hb := bind_in hf
  clear hf
  obtain ⟨q29, eq29, hf⟩ := hb
  refine r_newI (pc' := 200) C wd_159 ww_n15 ⟨by decide, by decide⟩ ⟨Nat.le_of_ble_eq_true rfl, Nat.le_of_ble_eq_true rfl⟩ dX12_init_198 rfl ?_
  replace eq29 := (Option.some.inj eq29).symm
  refine V.eq (h1 := q29.1) (S1 := q29.2) (by rw [eq29] <;> rfl) (by rw [eq29] <;> rfl) rfl rfl rfl ?_
  replace ha0 : KD q29.2 a0 12 0 := by rw [eq29]; exact KD.ext SXt.nS ha0
  have mq29 : q28.2.2 ≤ q29.2.2 := by rw [eq29]; exact SXt.nS.1
  have kq29 : KD q29.2 (q28.2.2 : Int) 20 15 := by rw [eq29]; exact KD.new
  refine r_dup (pc' := 201) C rfl dX12_init_200 rfl ?_
  refine r_iconst (pc' := 202) C dX12_init_201 rfl ?_
  refine r_bipush (pc' := 204) C rfl dX12_init_202 rfl ?_
  refine r_iast (pc' := 205) C kq29 ww_n0 (by decide) dX12_init_204 rfl ?_
  refine r_dup (pc' := 206) C rfl dX12_init_205 rfl ?_
  refine r_iconst (pc' := 207) C dX12_init_206 rfl ?_
  refine r_bipush (pc' := 209) C rfl dX12_init_207 rfl ?_
  refine r_iast (pc' := 210) C kq29 ww_n1 (by decide) dX12_init_209 rfl ?_
  refine r_dup (pc' := 211) C rfl dX12_init_210 rfl ?_
  refine r_iconst (pc' := 212) C dX12_init_211 rfl ?_
  refine r_bipush (pc' := 214) C rfl dX12_init_212 rfl ?_
  refine r_iast (pc' := 215) C kq29 ww_n2 (by decide) dX12_init_214 rfl ?_
  refine r_dup (pc' := 216) C rfl dX12_init_215 rfl ?_
  refine r_iconst (pc' := 217) C dX12_init_216 rfl ?_
  refine r_bipush (pc' := 219) C rfl dX12_init_217 rfl ?_
  refine r_iast (pc' := 220) C kq29 ww_n3 (by decide) dX12_init_219 rfl ?_
  refine r_dup (pc' := 221) C rfl dX12_init_220 rfl ?_
  refine r_iconst (pc' := 222) C dX12_init_221 rfl ?_
  refine r_bipush (pc' := 224) C rfl dX12_init_222 rfl ?_
  refine r_iast (pc' := 225) C kq29 ww_n4 (by decide) dX12_init_224 rfl ?_
  refine r_dup (pc' := 226) C rfl dX12_init_225 rfl ?_
  refine r_iconst (pc' := 227) C dX12_init_226 rfl ?_
  refine r_bipush (pc' := 229) C rfl dX12_init_227 rfl ?_
  refine r_iast (pc' := 230) C kq29 ww_n5 (by decide) dX12_init_229 rfl ?_
  refine r_dup (pc' := 231) C rfl dX12_init_230 rfl ?_
  refine r_bipush (pc' := 233) C rfl dX12_init_231 rfl ?_
  refine r_bipush (pc' := 235) C rfl dX12_init_233 rfl ?_
  refine r_iast (pc' := 236) C kq29 ww_n6 (by decide) dX12_init_235 rfl ?_
  refine r_dup (pc' := 237) C rfl dX12_init_236 rfl ?_
  refine r_bipush (pc' := 239) C rfl dX12_init_237 rfl ?_
  refine r_bipush (pc' := 241) C rfl dX12_init_239 rfl ?_
  refine r_iast (pc' := 242) C kq29 ww_n7 (by decide) dX12_init_241 rfl ?_
  refine r_dup (pc' := 243) C rfl dX12_init_242 rfl ?_
  refine r_bipush (pc' := 245) C rfl dX12_init_243 rfl ?_
  refine r_bipush (pc' := 247) C rfl dX12_init_245 rfl ?_
  refine r_iast (pc' := 248) C kq29 ww_n8 (by decide) dX12_init_247 rfl ?_
  refine r_dup (pc' := 249) C rfl dX12_init_248 rfl ?_
  refine r_bipush (pc' := 251) C rfl dX12_init_249 rfl ?_
  refine r_bipush (pc' := 253) C rfl dX12_init_251 rfl ?_
  refine r_iast (pc' := 254) C kq29 ww_n9 (by decide) dX12_init_253 rfl ?_
  refine r_dup (pc' := 255) C rfl dX12_init_254 rfl ?_
  refine r_bipush (pc' := 257) C rfl dX12_init_255 rfl ?_
  refine r_bipush (pc' := 259) C rfl dX12_init_257 rfl ?_
  refine r_iast (pc' := 260) C kq29 ww_n10 (by decide) dX12_init_259 rfl ?_
  refine r_dup (pc' := 261) C rfl dX12_init_260 rfl ?_
  refine r_bipush (pc' := 263) C rfl dX12_init_261 rfl ?_
  refine r_bipush (pc' := 265) C rfl dX12_init_263 rfl ?_
  refine r_iast (pc' := 266) C kq29 ww_n11 (by decide) dX12_init_265 rfl ?_
  refine r_dup (pc' := 267) C rfl dX12_init_266 rfl ?_
  refine r_bipush (pc' := 269) C rfl dX12_init_267 rfl ?_
  refine r_bipush (pc' := 271) C rfl dX12_init_269 rfl ?_
  refine r_iast (pc' := 272) C kq29 ww_n12 (by decide) dX12_init_271 rfl ?_
  refine r_dup (pc' := 273) C rfl dX12_init_272 rfl ?_
  refine r_bipush (pc' := 275) C rfl dX12_init_273 rfl ?_
  refine r_bipush (pc' := 277) C rfl dX12_init_275 rfl ?_
  refine r_iast (pc' := 278) C kq29 ww_n13 (by decide) dX12_init_277 rfl ?_
  refine r_dup (pc' := 279) C rfl dX12_init_278 rfl ?_
  refine r_bipush (pc' := 281) C rfl dX12_init_279 rfl ?_
  refine r_bipush (pc' := 283) C rfl dX12_init_281 rfl ?_
  refine r_iast (pc' := 284) C kq29 ww_n14 (by decide) dX12_init_283 rfl ?_
  have hb := bind_in hf
  clear hf
  obtain ⟨q30, eq30, hf⟩ := hb
  refine q_putRP (pc' := 287) (j := 25) C ha0 fbc_12_25 fpc_12_25 (by decide) wd_1196 (Or.inl rfl) (Or.inr ⟨rfl, hin, rfl⟩) (by rfl) (by rfl) dX12_init_284 (by have := kq29.1; omega) rfl ?_
  replace eq30 := (Option.some.inj eq30).symm
  refine V.eq (h1 := q30.1) (S1 := q30.2) (by rw [eq30] <;> rfl) (by rw [eq30] <;> rfl) rfl rfl rfl ?_
  replace ha0 : KD q30.2 a0 12 0 := by rw [eq30]; exact KD.uS ha0 (by decide)
  replace kq29 : KD q30.2 (q28.2.2 : Int) 20 15 := by rw [eq30]; exact KD.uS kq29 (by decide)
  have mq30 : q29.2.2 ≤ q30.2.2 := by rw [eq30]; exact Nat.le_refl _
  refine r_aload_n (pc' := 288) (f4 := 0) (i := 0) C 0 rfl rfl dX12_init_287 rfl ?_
  refine r_bipush (pc' := 290) C rfl dX12_init_288 rfl ?_
  have hb := bind_in hf
  clear hf
  obtain ⟨q31, eq31, hf⟩ := hb
  refine r_newZ (pc' := 292) C wd_158 ww_n100 ⟨by decide, by decide⟩ ⟨Nat.le_of_ble_eq_true rfl, Nat.le_of_ble_eq_true rfl⟩ dX12_init_290 rfl ?_
  replace eq31 := (Option.some.inj eq31).symm
  refine V.eq (h1 := q31.1) (S1 := q31.2) (by rw [eq31] <;> rfl) (by rw [eq31] <;> rfl) rfl rfl rfl ?_
  replace ha0 : KD q31.2 a0 12 0 := by rw [eq31]; exact KD.ext SXt.nS ha0
  have mq31 : q30.2.2 ≤ q31.2.2 := by rw [eq31]; exact SXt.nS.1
  have kq31 : KD q31.2 (q30.2.2 : Int) 22 100 := by rw [eq31]; exact KD.new
  have hb := bind_in hf
  clear hf
  obtain ⟨q32, eq32, hf⟩ := hb
  refine q_putRP (pc' := 295) (j := 26) C ha0 fbc_12_26 fpc_12_26 (by decide) wd_1197 (Or.inl rfl) (Or.inr ⟨rfl, hin, rfl⟩) (by rfl) (by rfl) dX12_init_292 (by have := kq31.1; omega) rfl ?_
  replace eq32 := (Option.some.inj eq32).symm
  refine V.eq (h1 := q32.1) (S1 := q32.2) (by rw [eq32] <;> rfl) (by rw [eq32] <;> rfl) rfl rfl rfl ?_
  replace ha0 : KD q32.2 a0 12 0 := by rw [eq32]; exact KD.uS ha0 (by decide)
  replace kq31 : KD q32.2 (q30.2.2 : Int) 22 100 := by rw [eq32]; exact KD.uS kq31 (by decide)
  have mq32 : q31.2.2 ≤ q32.2.2 := by rw [eq32]; exact Nat.le_refl _
  refine r_aload_n (pc' := 296) (f4 := 0) (i := 0) C 0 rfl rfl dX12_init_295 rfl ?_
  refine r_sipush (pc' := 299) C rfl dX12_init_296 rfl ?_
  refine q_putI (pc' := 302) (j := 27) C ha0 fbc_12_27 fpc_12_27 wd_1198 (Or.inl rfl) (Or.inl rfl) rfl rfl dX12_init_299 rfl ?_
  refine r_aload_n (pc' := 303) (f4 := 0) (i := 0) C 0 rfl rfl dX12_init_302 rfl ?_
  refine r_iconst (pc' := 304) C dX12_init_303 rfl ?_
  refine q_putI (pc' := 307) (j := 28) C ha0 fbc_12_28 fpc_12_28 wd_1199 (Or.inl rfl) (Or.inl rfl) rfl rfl dX12_init_304 rfl ?_
  refine r_aload_n (pc' := 308) (f4 := 0) (i := 0) C 0 rfl rfl dX12_init_307 rfl ?_
  refine r_iconst (pc' := 309) C dX12_init_308 rfl ?_
  refine q_putI (pc' := 312) (j := 29) C ha0 fbc_12_29 fpc_12_29 wd_1200 (Or.inl rfl) (Or.inl rfl) rfl rfl dX12_init_309 rfl ?_
  refine r_aload_n (pc' := 313) (f4 := 0) (i := 0) C 0 rfl rfl dX12_init_312 rfl ?_
  refine r_bipush (pc' := 315) C rfl dX12_init_313 rfl ?_
  have hb := bind_in hf
  clear hf
  obtain ⟨q33, eq33, hf⟩ := hb
  refine r_newI (pc' := 317) C wd_159 ww_n30 ⟨by decide, by decide⟩ ⟨Nat.le_of_ble_eq_true rfl, Nat.le_of_ble_eq_true rfl⟩ dX12_init_315 rfl ?_
  replace eq33 := (Option.some.inj eq33).symm
  refine V.eq (h1 := q33.1) (S1 := q33.2) (by rw [eq33] <;> rfl) (by rw [eq33] <;> rfl) rfl rfl rfl ?_
  replace ha0 : KD q33.2 a0 12 0 := by rw [eq33]; exact KD.ext SXt.nS ha0
  have mq33 : q32.2.2 ≤ q33.2.2 := by rw [eq33]; exact SXt.nS.1
  have kq33 : KD q33.2 (q32.2.2 : Int) 20 30 := by rw [eq33]; exact KD.new
  have hb := bind_in hf
  clear hf
  obtain ⟨q34, eq34, hf⟩ := hb
  refine q_putRP (pc' := 320) (j := 30) C ha0 fbc_12_30 fpc_12_30 (by decide) wd_1201 (Or.inl rfl) (Or.inr ⟨rfl, hin, rfl⟩) (by rfl) (by rfl) dX12_init_317 (by have := kq33.1; omega) rfl ?_
  replace eq34 := (Option.some.inj eq34).symm
  refine V.eq (h1 := q34.1) (S1 := q34.2) (by rw [eq34] <;> rfl) (by rw [eq34] <;> rfl) rfl rfl rfl ?_
  replace ha0 : KD q34.2 a0 12 0 := by rw [eq34]; exact KD.uS ha0 (by decide)
  replace kq33 : KD q34.2 (q32.2.2 : Int) 20 30 := by rw [eq34]; exact KD.uS kq33 (by decide)
  have mq34 : q33.2.2 ≤ q34.2.2 := by rw [eq34]; exact Nat.le_refl _
  refine r_aload_n (pc' := 321) (f4 := 0) (i := 0) C 0 rfl rfl dX12_init_320 rfl ?_
  refine r_iconst (pc' := 322) C dX12_init_321 rfl ?_
  have hb := bind_in hf
  clear hf
  obtain ⟨q35, eq35, hf⟩ := hb
  refine r_newI (pc' := 324) C wd_159 ww_n5 ⟨by decide, by decide⟩ ⟨Nat.le_of_ble_eq_true rfl, Nat.le_of_ble_eq_true rfl⟩ dX12_init_322 rfl ?_
  replace eq35 := (Option.some.inj eq35).symm
  refine V.eq (h1 := q35.1) (S1 := q35.2) (by rw [eq35] <;> rfl) (by rw [eq35] <;> rfl) rfl rfl rfl ?_
  replace ha0 : KD q35.2 a0 12 0 := by rw [eq35]; exact KD.ext SXt.nS ha0
  have mq35 : q34.2.2 ≤ q35.2.2 := by rw [eq35]; exact SXt.nS.1
  have kq35 : KD q35.2 (q34.2.2 : Int) 20 5 := by rw [eq35]; exact KD.new
  have hb := bind_in hf
  clear hf
  obtain ⟨q36, eq36, hf⟩ := hb
  refine q_putRP (pc' := 327) (j := 31) C ha0 fbc_12_31 fpc_12_31 (by decide) wd_1202 (Or.inl rfl) (Or.inr ⟨rfl, hin, rfl⟩) (by rfl) (by rfl) dX12_init_324 (by have := kq35.1; omega) rfl ?_
  replace eq36 := (Option.some.inj eq36).symm
  refine V.eq (h1 := q36.1) (S1 := q36.2) (by rw [eq36] <;> rfl) (by rw [eq36] <;> rfl) rfl rfl rfl ?_
  replace ha0 : KD q36.2 a0 12 0 := by rw [eq36]; exact KD.uS ha0 (by decide)
  replace kq35 : KD q36.2 (q34.2.2 : Int) 20 5 := by rw [eq36]; exact KD.uS kq35 (by decide)
  have mq36 : q35.2.2 ≤ q36.2.2 := by rw [eq36]; exact Nat.le_refl _
  refine r_aload_n (pc' := 328) (f4 := 0) (i := 0) C 0 rfl rfl dX12_init_327 rfl ?_
  refine r_iconst (pc' := 329) C dX12_init_328 rfl ?_
  have hb := bind_in hf
  clear hf
  obtain ⟨q37, eq37, hf⟩ := hb
  refine r_newI (pc' := 331) C wd_159 ww_n5 ⟨by decide, by decide⟩ ⟨Nat.le_of_ble_eq_true rfl, Nat.le_of_ble_eq_true rfl⟩ dX12_init_329 rfl ?_
  replace eq37 := (Option.some.inj eq37).symm
  refine V.eq (h1 := q37.1) (S1 := q37.2) (by rw [eq37] <;> rfl) (by rw [eq37] <;> rfl) rfl rfl rfl ?_
  replace ha0 : KD q37.2 a0 12 0 := by rw [eq37]; exact KD.ext SXt.nS ha0
  have mq37 : q36.2.2 ≤ q37.2.2 := by rw [eq37]; exact SXt.nS.1
  have kq37 : KD q37.2 (q36.2.2 : Int) 20 5 := by rw [eq37]; exact KD.new
  have hb := bind_in hf
  clear hf
  obtain ⟨q38, eq38, hf⟩ := hb
  refine q_putRP (pc' := 334) (j := 32) C ha0 fbc_12_32 fpc_12_32 (by decide) wd_1203 (Or.inl rfl) (Or.inr ⟨rfl, hin, rfl⟩) (by rfl) (by rfl) dX12_init_331 (by have := kq37.1; omega) rfl ?_
  replace eq38 := (Option.some.inj eq38).symm
  refine V.eq (h1 := q38.1) (S1 := q38.2) (by rw [eq38] <;> rfl) (by rw [eq38] <;> rfl) rfl rfl rfl ?_
  replace ha0 : KD q38.2 a0 12 0 := by rw [eq38]; exact KD.uS ha0 (by decide)
  replace kq37 : KD q38.2 (q36.2.2 : Int) 20 5 := by rw [eq38]; exact KD.uS kq37 (by decide)
  have mq38 : q37.2.2 ≤ q38.2.2 := by rw [eq38]; exact Nat.le_refl _
  refine r_aload_n (pc' := 335) (f4 := 0) (i := 0) C 0 rfl rfl dX12_init_334 rfl ?_
  refine r_bipush (pc' := 337) C rfl dX12_init_335 rfl ?_
  have hb := bind_in hf
  clear hf
  obtain ⟨q39, eq39, hf⟩ := hb
  refine r_newI (pc' := 339) C wd_159 ww_n30 ⟨by decide, by decide⟩ ⟨Nat.le_of_ble_eq_true rfl, Nat.le_of_ble_eq_true rfl⟩ dX12_init_337 rfl ?_
  replace eq39 := (Option.some.inj eq39).symm
  refine V.eq (h1 := q39.1) (S1 := q39.2) (by rw [eq39] <;> rfl) (by rw [eq39] <;> rfl) rfl rfl rfl ?_
  replace ha0 : KD q39.2 a0 12 0 := by rw [eq39]; exact KD.ext SXt.nS ha0
  have mq39 : q38.2.2 ≤ q39.2.2 := by rw [eq39]; exact SXt.nS.1
  have kq39 : KD q39.2 (q38.2.2 : Int) 20 30 := by rw [eq39]; exact KD.new
  have hb := bind_in hf
  clear hf
  obtain ⟨q40, eq40, hf⟩ := hb
  refine q_putRP (pc' := 342) (j := 33) C ha0 fbc_12_33 fpc_12_33 (by decide) wd_1204 (Or.inl rfl) (Or.inr ⟨rfl, hin, rfl⟩) (by rfl) (by rfl) dX12_init_339 (by have := kq39.1; omega) rfl ?_
  replace eq40 := (Option.some.inj eq40).symm
  refine V.eq (h1 := q40.1) (S1 := q40.2) (by rw [eq40] <;> rfl) (by rw [eq40] <;> rfl) rfl rfl rfl ?_
  replace ha0 : KD q40.2 a0 12 0 := by rw [eq40]; exact KD.uS ha0 (by decide)
  replace kq39 : KD q40.2 (q38.2.2 : Int) 20 30 := by rw [eq40]; exact KD.uS kq39 (by decide)
  have mq40 : q39.2.2 ≤ q40.2.2 := by rw [eq40]; exact Nat.le_refl _
  refine r_aload_n (pc' := 343) (f4 := 0) (i := 0) C 0 rfl rfl dX12_init_342 rfl ?_
  refine r_iconst (pc' := 344) C dX12_init_343 rfl ?_
  have hb := bind_in hf
  clear hf
  obtain ⟨q41, eq41, hf⟩ := hb
  refine r_newI (pc' := 346) C wd_159 ww_n5 ⟨by decide, by decide⟩ ⟨Nat.le_of_ble_eq_true rfl, Nat.le_of_ble_eq_true rfl⟩ dX12_init_344 rfl ?_
  replace eq41 := (Option.some.inj eq41).symm
  refine V.eq (h1 := q41.1) (S1 := q41.2) (by rw [eq41] <;> rfl) (by rw [eq41] <;> rfl) rfl rfl rfl ?_
  replace ha0 : KD q41.2 a0 12 0 := by rw [eq41]; exact KD.ext SXt.nS ha0
  have mq41 : q40.2.2 ≤ q41.2.2 := by rw [eq41]; exact SXt.nS.1
  have kq41 : KD q41.2 (q40.2.2 : Int) 20 5 := by rw [eq41]; exact KD.new
  have hb := bind_in hf
  clear hf
  obtain ⟨q42, eq42, hf⟩ := hb
  refine q_putRP (pc' := 349) (j := 34) C ha0 fbc_12_34 fpc_12_34 (by decide) wd_1205 (Or.inl rfl) (Or.inr ⟨rfl, hin, rfl⟩) (by rfl) (by rfl) dX12_init_346 (by have := kq41.1; omega) rfl ?_
  replace eq42 := (Option.some.inj eq42).symm
  refine V.eq (h1 := q42.1) (S1 := q42.2) (by rw [eq42] <;> rfl) (by rw [eq42] <;> rfl) rfl rfl rfl ?_
  replace ha0 : KD q42.2 a0 12 0 := by rw [eq42]; exact KD.uS ha0 (by decide)
  replace kq41 : KD q42.2 (q40.2.2 : Int) 20 5 := by rw [eq42]; exact KD.uS kq41 (by decide)
  have mq42 : q41.2.2 ≤ q42.2.2 := by rw [eq42]; exact Nat.le_refl _
  refine r_aload_n (pc' := 350) (f4 := 0) (i := 0) C 0 rfl rfl dX12_init_349 rfl ?_
  refine r_iconst (pc' := 351) C dX12_init_350 rfl ?_
  have hb := bind_in hf
  clear hf
  obtain ⟨q43, eq43, hf⟩ := hb
  refine r_newI (pc' := 353) C wd_159 ww_n5 ⟨by decide, by decide⟩ ⟨Nat.le_of_ble_eq_true rfl, Nat.le_of_ble_eq_true rfl⟩ dX12_init_351 rfl ?_
  replace eq43 := (Option.some.inj eq43).symm
  refine V.eq (h1 := q43.1) (S1 := q43.2) (by rw [eq43] <;> rfl) (by rw [eq43] <;> rfl) rfl rfl rfl ?_
  replace ha0 : KD q43.2 a0 12 0 := by rw [eq43]; exact KD.ext SXt.nS ha0
  have mq43 : q42.2.2 ≤ q43.2.2 := by rw [eq43]; exact SXt.nS.1
  have kq43 : KD q43.2 (q42.2.2 : Int) 20 5 := by rw [eq43]; exact KD.new
  have hb := bind_in hf
  clear hf
  obtain ⟨q44, eq44, hf⟩ := hb
  refine q_putRP (pc' := 356) (j := 35) C ha0 fbc_12_35 fpc_12_35 (by decide) wd_1206 (Or.inl rfl) (Or.inr ⟨rfl, hin, rfl⟩) (by rfl) (by rfl) dX12_init_353 (by have := kq43.1; omega) rfl ?_
  replace eq44 := (Option.some.inj eq44).symm
  refine V.eq (h1 := q44.1) (S1 := q44.2) (by rw [eq44] <;> rfl) (by rw [eq44] <;> rfl) rfl rfl rfl ?_
  replace ha0 : KD q44.2 a0 12 0 := by rw [eq44]; exact KD.uS ha0 (by decide)
  replace kq43 : KD q44.2 (q42.2.2 : Int) 20 5 := by rw [eq44]; exact KD.uS kq43 (by decide)
  have mq44 : q43.2.2 ≤ q44.2.2 := by rw [eq44]; exact Nat.le_refl _
  refine r_aload_n (pc' := 357) (f4 := 0) (i := 0) C 0 rfl rfl dX12_init_356 rfl ?_
  refine r_iconst (pc' := 358) C dX12_init_357 rfl ?_
  refine q_putI (pc' := 361) (j := 36) C ha0 fbc_12_36 fpc_12_36 wd_1207 (Or.inl rfl) (Or.inl rfl) rfl rfl dX12_init_358 rfl ?_
  refine r_aload_n (pc' := 362) (f4 := 0) (i := 0) C 0 rfl rfl dX12_init_361 rfl ?_
  refine r_iconst (pc' := 363) C dX12_init_362 rfl ?_
  refine q_putI (pc' := 366) (j := 37) C ha0 fbc_12_37 fpc_12_37 wd_1208 (Or.inl rfl) (Or.inl rfl) rfl rfl dX12_init_363 rfl ?_
  refine r_aload_n (pc' := 367) (f4 := 0) (i := 0) C 0 rfl rfl dX12_init_366 rfl ?_
  refine r_iconst (pc' := 368) C dX12_init_367 rfl ?_
  refine q_putI (pc' := 371) (j := 38) C ha0 fbc_12_38 fpc_12_38 wd_1209 (Or.inl rfl) (Or.inl rfl) rfl rfl dX12_init_368 rfl ?_
  refine r_aload_n (pc' := 372) (f4 := 0) (i := 0) C 0 rfl rfl dX12_init_371 rfl ?_
  refine r_iconst (pc' := 373) C dX12_init_372 rfl ?_
  have hb := bind_in hf
  clear hf
  obtain ⟨q45, eq45, hf⟩ := hb
  refine r_newI (pc' := 375) C wd_159 ww_n5 ⟨by decide, by decide⟩ ⟨Nat.le_of_ble_eq_true rfl, Nat.le_of_ble_eq_true rfl⟩ dX12_init_373 rfl ?_
  replace eq45 := (Option.some.inj eq45).symm
  refine V.eq (h1 := q45.1) (S1 := q45.2) (by rw [eq45] <;> rfl) (by rw [eq45] <;> rfl) rfl rfl rfl ?_
  replace ha0 : KD q45.2 a0 12 0 := by rw [eq45]; exact KD.ext SXt.nS ha0
  have mq45 : q44.2.2 ≤ q45.2.2 := by rw [eq45]; exact SXt.nS.1
  have kq45 : KD q45.2 (q44.2.2 : Int) 20 5 := by rw [eq45]; exact KD.new
  have hb := bind_in hf
  clear hf
  obtain ⟨q46, eq46, hf⟩ := hb
  refine q_putRP (pc' := 378) (j := 39) C ha0 fbc_12_39 fpc_12_39 (by decide) wd_1210 (Or.inl rfl) (Or.inr ⟨rfl, hin, rfl⟩) (by rfl) (by rfl) dX12_init_375 (by have := kq45.1; omega) rfl ?_
  replace eq46 := (Option.some.inj eq46).symm
  refine V.eq (h1 := q46.1) (S1 := q46.2) (by rw [eq46] <;> rfl) (by rw [eq46] <;> rfl) rfl rfl rfl ?_
  replace ha0 : KD q46.2 a0 12 0 := by rw [eq46]; exact KD.uS ha0 (by decide)
  replace kq45 : KD q46.2 (q44.2.2 : Int) 20 5 := by rw [eq46]; exact KD.uS kq45 (by decide)
  have mq46 : q45.2.2 ≤ q46.2.2 := by rw [eq46]; exact Nat.le_refl _
  refine r_aload_n (pc' := 379) (f4 := 0) (i := 0) C 0 rfl rfl dX12_init_378 rfl ?_
  refine r_iconst (pc' := 380) C dX12_init_379 rfl ?_
  have hb := bind_in hf
  clear hf
  obtain ⟨q47, eq47, hf⟩ := hb
  refine r_newI (pc' := 382) C wd_159 ww_n5 ⟨by decide, by decide⟩ ⟨Nat.le_of_ble_eq_true rfl, Nat.le_of_ble_eq_true rfl⟩ dX12_init_380 rfl ?_
  replace eq47 := (Option.some.inj eq47).symm
  refine V.eq (h1 := q47.1) (S1 := q47.2) (by rw [eq47] <;> rfl) (by rw [eq47] <;> rfl) rfl rfl rfl ?_
  replace ha0 : KD q47.2 a0 12 0 := by rw [eq47]; exact KD.ext SXt.nS ha0
  have mq47 : q46.2.2 ≤ q47.2.2 := by rw [eq47]; exact SXt.nS.1
  have kq47 : KD q47.2 (q46.2.2 : Int) 20 5 := by rw [eq47]; exact KD.new
  have hb := bind_in hf
  clear hf
  obtain ⟨q48, eq48, hf⟩ := hb
  refine q_putRP (pc' := 385) (j := 40) C ha0 fbc_12_40 fpc_12_40 (by decide) wd_1211 (Or.inl rfl) (Or.inr ⟨rfl, hin, rfl⟩) (by rfl) (by rfl) dX12_init_382 (by have := kq47.1; omega) rfl ?_
  replace eq48 := (Option.some.inj eq48).symm
  refine V.eq (h1 := q48.1) (S1 := q48.2) (by rw [eq48] <;> rfl) (by rw [eq48] <;> rfl) rfl rfl rfl ?_
  replace ha0 : KD q48.2 a0 12 0 := by rw [eq48]; exact KD.uS ha0 (by decide)
  replace kq47 : KD q48.2 (q46.2.2 : Int) 20 5 := by rw [eq48]; exact KD.uS kq47 (by decide)
  have mq48 : q47.2.2 ≤ q48.2.2 := by rw [eq48]; exact Nat.le_refl _
  refine r_aload_n (pc' := 386) (f4 := 0) (i := 0) C 0 rfl rfl dX12_init_385 rfl ?_
  refine r_iconst (pc' := 387) C dX12_init_386 rfl ?_
  have hb := bind_in hf
  clear hf
  obtain ⟨q49, eq49, hf⟩ := hb
  refine r_newI (pc' := 389) C wd_159 ww_n5 ⟨by decide, by decide⟩ ⟨Nat.le_of_ble_eq_true rfl, Nat.le_of_ble_eq_true rfl⟩ dX12_init_387 rfl ?_
  replace eq49 := (Option.some.inj eq49).symm
  refine V.eq (h1 := q49.1) (S1 := q49.2) (by rw [eq49] <;> rfl) (by rw [eq49] <;> rfl) rfl rfl rfl ?_
  replace ha0 : KD q49.2 a0 12 0 := by rw [eq49]; exact KD.ext SXt.nS ha0
  have mq49 : q48.2.2 ≤ q49.2.2 := by rw [eq49]; exact SXt.nS.1
  have kq49 : KD q49.2 (q48.2.2 : Int) 20 5 := by rw [eq49]; exact KD.new
  have hb := bind_in hf
  clear hf
  obtain ⟨q50, eq50, hf⟩ := hb
  refine q_putRP (pc' := 392) (j := 41) C ha0 fbc_12_41 fpc_12_41 (by decide) wd_1212 (Or.inl rfl) (Or.inr ⟨rfl, hin, rfl⟩) (by rfl) (by rfl) dX12_init_389 (by have := kq49.1; omega) rfl ?_
  replace eq50 := (Option.some.inj eq50).symm
  refine V.eq (h1 := q50.1) (S1 := q50.2) (by rw [eq50] <;> rfl) (by rw [eq50] <;> rfl) rfl rfl rfl ?_
  replace ha0 : KD q50.2 a0 12 0 := by rw [eq50]; exact KD.uS ha0 (by decide)
  replace kq49 : KD q50.2 (q48.2.2 : Int) 20 5 := by rw [eq50]; exact KD.uS kq49 (by decide)
  have mq50 : q49.2.2 ≤ q50.2.2 := by rw [eq50]; exact Nat.le_refl _
  refine r_aload_n (pc' := 393) (f4 := 0) (i := 0) C 0 rfl rfl dX12_init_392 rfl ?_
  refine r_iconst (pc' := 394) C dX12_init_393 rfl ?_
  have hb := bind_in hf
  clear hf
  obtain ⟨q51, eq51, hf⟩ := hb
  refine r_newZ (pc' := 396) C wd_158 ww_n5 ⟨by decide, by decide⟩ ⟨Nat.le_of_ble_eq_true rfl, Nat.le_of_ble_eq_true rfl⟩ dX12_init_394 rfl ?_
  replace eq51 := (Option.some.inj eq51).symm
  refine V.eq (h1 := q51.1) (S1 := q51.2) (by rw [eq51] <;> rfl) (by rw [eq51] <;> rfl) rfl rfl rfl ?_
  replace ha0 : KD q51.2 a0 12 0 := by rw [eq51]; exact KD.ext SXt.nS ha0
  have mq51 : q50.2.2 ≤ q51.2.2 := by rw [eq51]; exact SXt.nS.1
  have kq51 : KD q51.2 (q50.2.2 : Int) 22 5 := by rw [eq51]; exact KD.new
  have hb := bind_in hf
  clear hf
  obtain ⟨q52, eq52, hf⟩ := hb
  refine q_putRP (pc' := 399) (j := 42) C ha0 fbc_12_42 fpc_12_42 (by decide) wd_1213 (Or.inl rfl) (Or.inr ⟨rfl, hin, rfl⟩) (by rfl) (by rfl) dX12_init_396 (by have := kq51.1; omega) rfl ?_
  replace eq52 := (Option.some.inj eq52).symm
  refine V.eq (h1 := q52.1) (S1 := q52.2) (by rw [eq52] <;> rfl) (by rw [eq52] <;> rfl) rfl rfl rfl ?_
  replace ha0 : KD q52.2 a0 12 0 := by rw [eq52]; exact KD.uS ha0 (by decide)
  replace kq51 : KD q52.2 (q50.2.2 : Int) 22 5 := by rw [eq52]; exact KD.uS kq51 (by decide)
  have mq52 : q51.2.2 ≤ q52.2.2 := by rw [eq52]; exact Nat.le_refl _
  refine r_aload_n (pc' := 400) (f4 := 0) (i := 0) C 0 rfl rfl dX12_init_399 rfl ?_
  refine r_iconst (pc' := 401) C dX12_init_400 rfl ?_
  refine q_putI (pc' := 404) (j := 43) C ha0 fbc_12_43 fpc_12_43 wd_1214 (Or.inl rfl) (Or.inl rfl) rfl rfl dX12_init_401 rfl ?_
  refine r_aload_n (pc' := 405) (f4 := 0) (i := 0) C 0 rfl rfl dX12_init_404 rfl ?_
  refine r_iconst (pc' := 406) C dX12_init_405 rfl ?_
  refine q_putI (pc' := 409) (j := 44) C ha0 fbc_12_44 fpc_12_44 wd_1215 (Or.inl rfl) (Or.inl rfl) rfl rfl dX12_init_406 rfl ?_
  refine r_aload_n (pc' := 410) (f4 := 0) (i := 0) C 0 rfl rfl dX12_init_409 rfl ?_
  refine r_bipush (pc' := 412) C rfl dX12_init_410 rfl ?_
  have hb := bind_in hf
  clear hf
  obtain ⟨q53, eq53, hf⟩ := hb
  refine r_newI (pc' := 414) C wd_159 ww_n10 ⟨by decide, by decide⟩ ⟨Nat.le_of_ble_eq_true rfl, Nat.le_of_ble_eq_true rfl⟩ dX12_init_412 rfl ?_
  replace eq53 := (Option.some.inj eq53).symm
  refine V.eq (h1 := q53.1) (S1 := q53.2) (by rw [eq53] <;> rfl) (by rw [eq53] <;> rfl) rfl rfl rfl ?_
  replace ha0 : KD q53.2 a0 12 0 := by rw [eq53]; exact KD.ext SXt.nS ha0
  have mq53 : q52.2.2 ≤ q53.2.2 := by rw [eq53]; exact SXt.nS.1
  have kq53 : KD q53.2 (q52.2.2 : Int) 20 10 := by rw [eq53]; exact KD.new
  have hb := bind_in hf
  clear hf
  obtain ⟨q54, eq54, hf⟩ := hb
  refine q_putRP (pc' := 417) (j := 45) C ha0 fbc_12_45 fpc_12_45 (by decide) wd_1216 (Or.inl rfl) (Or.inr ⟨rfl, hin, rfl⟩) (by rfl) (by rfl) dX12_init_414 (by have := kq53.1; omega) rfl ?_
  replace eq54 := (Option.some.inj eq54).symm
  refine V.eq (h1 := q54.1) (S1 := q54.2) (by rw [eq54] <;> rfl) (by rw [eq54] <;> rfl) rfl rfl rfl ?_
  replace ha0 : KD q54.2 a0 12 0 := by rw [eq54]; exact KD.uS ha0 (by decide)
  replace kq53 : KD q54.2 (q52.2.2 : Int) 20 10 := by rw [eq54]; exact KD.uS kq53 (by decide)
  have mq54 : q53.2.2 ≤ q54.2.2 := by rw [eq54]; exact Nat.le_refl _
  refine r_aload_n (pc' := 418) (f4 := 0) (i := 0) C 0 rfl rfl dX12_init_417 rfl ?_
  refine r_bipush (pc' := 420) C rfl dX12_init_418 rfl ?_
  have hb := bind_in hf
  clear hf
  obtain ⟨q55, eq55, hf⟩ := hb
  refine r_newI (pc' := 422) C wd_159 ww_n10 ⟨by decide, by decide⟩ ⟨Nat.le_of_ble_eq_true rfl, Nat.le_of_ble_eq_true rfl⟩ dX12_init_420 rfl ?_
  replace eq55 := (Option.some.inj eq55).symm
  refine V.eq (h1 := q55.1) (S1 := q55.2) (by rw [eq55] <;> rfl) (by rw [eq55] <;> rfl) rfl rfl rfl ?_
  replace ha0 : KD q55.2 a0 12 0 := by rw [eq55]; exact KD.ext SXt.nS ha0
  have mq55 : q54.2.2 ≤ q55.2.2 := by rw [eq55]; exact SXt.nS.1
  have kq55 : KD q55.2 (q54.2.2 : Int) 20 10 := by rw [eq55]; exact KD.new
  have hb := bind_in hf
  clear hf
  obtain ⟨q56, eq56, hf⟩ := hb
  refine q_putRP (pc' := 425) (j := 46) C ha0 fbc_12_46 fpc_12_46 (by decide) wd_1217 (Or.inl rfl) (Or.inr ⟨rfl, hin, rfl⟩) (by rfl) (by rfl) dX12_init_422 (by have := kq55.1; omega) rfl ?_
  replace eq56 := (Option.some.inj eq56).symm
  refine V.eq (h1 := q56.1) (S1 := q56.2) (by rw [eq56] <;> rfl) (by rw [eq56] <;> rfl) rfl rfl rfl ?_
  replace ha0 : KD q56.2 a0 12 0 := by rw [eq56]; exact KD.uS ha0 (by decide)
  replace kq55 : KD q56.2 (q54.2.2 : Int) 20 10 := by rw [eq56]; exact KD.uS kq55 (by decide)
  have mq56 : q55.2.2 ≤ q56.2.2 := by rw [eq56]; exact Nat.le_refl _
  refine r_aload_n (pc' := 426) (f4 := 0) (i := 0) C 0 rfl rfl dX12_init_425 rfl ?_
  refine r_bipush (pc' := 428) C rfl dX12_init_426 rfl ?_
  have hb := bind_in hf
  clear hf
  obtain ⟨q57, eq57, hf⟩ := hb
  refine r_newI (pc' := 430) C wd_159 ww_n8 ⟨by decide, by decide⟩ ⟨Nat.le_of_ble_eq_true rfl, Nat.le_of_ble_eq_true rfl⟩ dX12_init_428 rfl ?_
  replace eq57 := (Option.some.inj eq57).symm
  refine V.eq (h1 := q57.1) (S1 := q57.2) (by rw [eq57] <;> rfl) (by rw [eq57] <;> rfl) rfl rfl rfl ?_
  replace ha0 : KD q57.2 a0 12 0 := by rw [eq57]; exact KD.ext SXt.nS ha0
  have mq57 : q56.2.2 ≤ q57.2.2 := by rw [eq57]; exact SXt.nS.1
  have kq57 : KD q57.2 (q56.2.2 : Int) 20 8 := by rw [eq57]; exact KD.new
  have hb := bind_in hf
  clear hf
  obtain ⟨q58, eq58, hf⟩ := hb
  refine q_putRP (pc' := 433) (j := 47) C ha0 fbc_12_47 fpc_12_47 (by decide) wd_1218 (Or.inl rfl) (Or.inr ⟨rfl, hin, rfl⟩) (by rfl) (by rfl) dX12_init_430 (by have := kq57.1; omega) rfl ?_
  replace eq58 := (Option.some.inj eq58).symm
  refine V.eq (h1 := q58.1) (S1 := q58.2) (by rw [eq58] <;> rfl) (by rw [eq58] <;> rfl) rfl rfl rfl ?_
  replace ha0 : KD q58.2 a0 12 0 := by rw [eq58]; exact KD.uS ha0 (by decide)
  replace kq57 : KD q58.2 (q56.2.2 : Int) 20 8 := by rw [eq58]; exact KD.uS kq57 (by decide)
  have mq58 : q57.2.2 ≤ q58.2.2 := by rw [eq58]; exact Nat.le_refl _
  refine r_aload_n (pc' := 434) (f4 := 0) (i := 0) C 0 rfl rfl dX12_init_433 rfl ?_
  refine r_bipush (pc' := 436) C rfl dX12_init_434 rfl ?_
  have hb := bind_in hf
  clear hf
  obtain ⟨q59, eq59, hf⟩ := hb
  refine r_newI (pc' := 438) C wd_159 ww_n8 ⟨by decide, by decide⟩ ⟨Nat.le_of_ble_eq_true rfl, Nat.le_of_ble_eq_true rfl⟩ dX12_init_436 rfl ?_
  replace eq59 := (Option.some.inj eq59).symm
  refine V.eq (h1 := q59.1) (S1 := q59.2) (by rw [eq59] <;> rfl) (by rw [eq59] <;> rfl) rfl rfl rfl ?_
  replace ha0 : KD q59.2 a0 12 0 := by rw [eq59]; exact KD.ext SXt.nS ha0
  have mq59 : q58.2.2 ≤ q59.2.2 := by rw [eq59]; exact SXt.nS.1
  have kq59 : KD q59.2 (q58.2.2 : Int) 20 8 := by rw [eq59]; exact KD.new
  have hb := bind_in hf
  clear hf
  obtain ⟨q60, eq60, hf⟩ := hb
  refine q_putRP (pc' := 441) (j := 48) C ha0 fbc_12_48 fpc_12_48 (by decide) wd_1219 (Or.inl rfl) (Or.inr ⟨rfl, hin, rfl⟩) (by rfl) (by rfl) dX12_init_438 (by have := kq59.1; omega) rfl ?_
  replace eq60 := (Option.some.inj eq60).symm
  refine V.eq (h1 := q60.1) (S1 := q60.2) (by rw [eq60] <;> rfl) (by rw [eq60] <;> rfl) rfl rfl rfl ?_
  replace ha0 : KD q60.2 a0 12 0 := by rw [eq60]; exact KD.uS ha0 (by decide)
  replace kq59 : KD q60.2 (q58.2.2 : Int) 20 8 := by rw [eq60]; exact KD.uS kq59 (by decide)
  have mq60 : q59.2.2 ≤ q60.2.2 := by rw [eq60]; exact Nat.le_refl _
  refine r_aload_n (pc' := 442) (f4 := 0) (i := 0) C 0 rfl rfl dX12_init_441 rfl ?_
  refine r_iconst (pc' := 443) C dX12_init_442 rfl ?_
  refine q_putI (pc' := 446) (j := 49) C ha0 fbc_12_49 fpc_12_49 wd_1220 (Or.inl rfl) (Or.inl rfl) rfl rfl dX12_init_443 rfl ?_
  refine r_aload_n (pc' := 447) (f4 := 0) (i := 0) C 0 rfl rfl dX12_init_446 rfl ?_
  refine r_iconst (pc' := 448) C dX12_init_447 rfl ?_
  refine q_putI (pc' := 451) (j := 50) C ha0 fbc_12_50 fpc_12_50 wd_1221 (Or.inl rfl) (Or.inl rfl) rfl rfl dX12_init_448 rfl ?_
  refine r_aload_n (pc' := 452) (f4 := 0) (i := 0) C 0 rfl rfl dX12_init_451 rfl ?_
  refine r_iconst (pc' := 453) C dX12_init_452 rfl ?_
  refine q_putI (pc' := 456) (j := 51) C ha0 fbc_12_51 fpc_12_51 wd_1222 (Or.inl rfl) (Or.inl rfl) rfl rfl dX12_init_453 rfl ?_
  refine r_aload_n (pc' := 457) (f4 := 0) (i := 0) C 0 rfl rfl dX12_init_456 rfl ?_
  refine r_iconst (pc' := 458) C dX12_init_457 rfl ?_
  refine q_putI (pc' := 461) (j := 52) C ha0 fbc_12_52 fpc_12_52 wd_1223 (Or.inl rfl) (Or.inl rfl) rfl rfl dX12_init_458 rfl ?_
  refine r_aload_n (pc' := 462) (f4 := 0) (i := 0) C 0 rfl rfl dX12_init_461 rfl ?_
  refine r_iconst (pc' := 463) C dX12_init_462 rfl ?_
  refine q_putI (pc' := 466) (j := 53) C ha0 fbc_12_53 fpc_12_53 wd_1224 (Or.inl rfl) (Or.inl rfl) rfl rfl dX12_init_463 rfl ?_
  refine r_aload_n (pc' := 467) (f4 := 0) (i := 0) C 0 rfl rfl dX12_init_466 rfl ?_
  refine r_iconst (pc' := 468) C dX12_init_467 rfl ?_
  refine q_putI (pc' := 471) (j := 54) C ha0 fbc_12_54 fpc_12_54 wd_1225 (Or.inl rfl) (Or.inl rfl) rfl rfl dX12_init_468 rfl ?_
  refine r_aload_n (pc' := 472) (f4 := 0) (i := 0) C 0 rfl rfl dX12_init_471 rfl ?_
  refine r_iconst (pc' := 473) C dX12_init_472 rfl ?_
  refine q_putI (pc' := 476) (j := 55) C ha0 fbc_12_55 fpc_12_55 wd_1226 (Or.inl rfl) (Or.inl rfl) rfl rfl dX12_init_473 rfl ?_
  refine r_aload_n (pc' := 477) (f4 := 0) (i := 0) C 0 rfl rfl dX12_init_476 rfl ?_
  refine r_iconst (pc' := 478) C dX12_init_477 rfl ?_
  refine q_putI (pc' := 481) (j := 56) C ha0 fbc_12_56 fpc_12_56 wd_1227 (Or.inl rfl) (Or.inl rfl) rfl rfl dX12_init_478 rfl ?_
  refine r_aload_n (pc' := 482) (f4 := 0) (i := 0) C 0 rfl rfl dX12_init_481 rfl ?_
  refine r_bipush (pc' := 484) C rfl dX12_init_482 rfl ?_
  have hb := bind_in hf
  clear hf
  obtain ⟨q61, eq61, hf⟩ := hb
  refine r_newI (pc' := 486) C wd_159 ww_n6 ⟨by decide, by decide⟩ ⟨Nat.le_of_ble_eq_true rfl, Nat.le_of_ble_eq_true rfl⟩ dX12_init_484 rfl ?_
  replace eq61 := (Option.some.inj eq61).symm
  refine V.eq (h1 := q61.1) (S1 := q61.2) (by rw [eq61] <;> rfl) (by rw [eq61] <;> rfl) rfl rfl rfl ?_
  replace ha0 : KD q61.2 a0 12 0 := by rw [eq61]; exact KD.ext SXt.nS ha0
  have mq61 : q60.2.2 ≤ q61.2.2 := by rw [eq61]; exact SXt.nS.1
  have kq61 : KD q61.2 (q60.2.2 : Int) 20 6 := by rw [eq61]; exact KD.new
  have hb := bind_in hf
  clear hf
  obtain ⟨q62, eq62, hf⟩ := hb
  refine q_putRP (pc' := 489) (j := 57) C ha0 fbc_12_57 fpc_12_57 (by decide) wd_1228 (Or.inl rfl) (Or.inr ⟨rfl, hin, rfl⟩) (by rfl) (by rfl) dX12_init_486 (by have := kq61.1; omega) rfl ?_
  replace eq62 := (Option.some.inj eq62).symm
  refine V.eq (h1 := q62.1) (S1 := q62.2) (by rw [eq62] <;> rfl) (by rw [eq62] <;> rfl) rfl rfl rfl ?_
  replace ha0 : KD q62.2 a0 12 0 := by rw [eq62]; exact KD.uS ha0 (by decide)
  replace kq61 : KD q62.2 (q60.2.2 : Int) 20 6 := by rw [eq62]; exact KD.uS kq61 (by decide)
  have mq62 : q61.2.2 ≤ q62.2.2 := by rw [eq62]; exact Nat.le_refl _
  refine r_aload_n (pc' := 490) (f4 := 0) (i := 0) C 0 rfl rfl dX12_init_489 rfl ?_
  refine r_bipush (pc' := 492) C rfl dX12_init_490 rfl ?_
  have hb := bind_in hf
  clear hf
  obtain ⟨q63, eq63, hf⟩ := hb
  refine r_newI (pc' := 494) C wd_159 ww_n6 ⟨by decide, by decide⟩ ⟨Nat.le_of_ble_eq_true rfl, Nat.le_of_ble_eq_true rfl⟩ dX12_init_492 rfl ?_
  replace eq63 := (Option.some.inj eq63).symm
  refine V.eq (h1 := q63.1) (S1 := q63.2) (by rw [eq63] <;> rfl) (by rw [eq63] <;> rfl) rfl rfl rfl ?_
  replace ha0 : KD q63.2 a0 12 0 := by rw [eq63]; exact KD.ext SXt.nS ha0
  have mq63 : q62.2.2 ≤ q63.2.2 := by rw [eq63]; exact SXt.nS.1
  have kq63 : KD q63.2 (q62.2.2 : Int) 20 6 := by rw [eq63]; exact KD.new
  have hb := bind_in hf
  clear hf
  obtain ⟨q64, eq64, hf⟩ := hb
  refine q_putRP (pc' := 497) (j := 58) C ha0 fbc_12_58 fpc_12_58 (by decide) wd_1229 (Or.inl rfl) (Or.inr ⟨rfl, hin, rfl⟩) (by rfl) (by rfl) dX12_init_494 (by have := kq63.1; omega) rfl ?_
  replace eq64 := (Option.some.inj eq64).symm
  refine V.eq (h1 := q64.1) (S1 := q64.2) (by rw [eq64] <;> rfl) (by rw [eq64] <;> rfl) rfl rfl rfl ?_
  replace ha0 : KD q64.2 a0 12 0 := by rw [eq64]; exact KD.uS ha0 (by decide)
  replace kq63 : KD q64.2 (q62.2.2 : Int) 20 6 := by rw [eq64]; exact KD.uS kq63 (by decide)
  have mq64 : q63.2.2 ≤ q64.2.2 := by rw [eq64]; exact Nat.le_refl _
  refine r_aload_n (pc' := 498) (f4 := 0) (i := 0) C 0 rfl rfl dX12_init_497 rfl ?_
  refine r_bipush (pc' := 500) C rfl dX12_init_498 rfl ?_
  have hb := bind_in hf
  clear hf
  obtain ⟨q65, eq65, hf⟩ := hb
  refine r_newI (pc' := 502) C wd_159 ww_n30 ⟨by decide, by decide⟩ ⟨Nat.le_of_ble_eq_true rfl, Nat.le_of_ble_eq_true rfl⟩ dX12_init_500 rfl ?_
  replace eq65 := (Option.some.inj eq65).symm
  refine V.eq (h1 := q65.1) (S1 := q65.2) (by rw [eq65] <;> rfl) (by rw [eq65] <;> rfl) rfl rfl rfl ?_
  replace ha0 : KD q65.2 a0 12 0 := by rw [eq65]; exact KD.ext SXt.nS ha0
  have mq65 : q64.2.2 ≤ q65.2.2 := by rw [eq65]; exact SXt.nS.1
  have kq65 : KD q65.2 (q64.2.2 : Int) 20 30 := by rw [eq65]; exact KD.new
  have hb := bind_in hf
  clear hf
  obtain ⟨q66, eq66, hf⟩ := hb
  refine q_putRP (pc' := 505) (j := 59) C ha0 fbc_12_59 fpc_12_59 (by decide) wd_1230 (Or.inl rfl) (Or.inr ⟨rfl, hin, rfl⟩) (by rfl) (by rfl) dX12_init_502 (by have := kq65.1; omega) rfl ?_
  replace eq66 := (Option.some.inj eq66).symm
  refine V.eq (h1 := q66.1) (S1 := q66.2) (by rw [eq66] <;> rfl) (by rw [eq66] <;> rfl) rfl rfl rfl ?_
  replace ha0 : KD q66.2 a0 12 0 := by rw [eq66]; exact KD.uS ha0 (by decide)
  replace kq65 : KD q66.2 (q64.2.2 : Int) 20 30 := by rw [eq66]; exact KD.uS kq65 (by decide)
  have mq66 : q65.2.2 ≤ q66.2.2 := by rw [eq66]; exact Nat.le_refl _
  refine r_aload_n (pc' := 506) (f4 := 0) (i := 0) C 0 rfl rfl dX12_init_505 rfl ?_
  refine r_bipush (pc' := 508) C rfl dX12_init_506 rfl ?_
  have hb := bind_in hf
  clear hf
  obtain ⟨q67, eq67, hf⟩ := hb
  refine r_newI (pc' := 510) C wd_159 ww_n24 ⟨by decide, by decide⟩ ⟨Nat.le_of_ble_eq_true rfl, Nat.le_of_ble_eq_true rfl⟩ dX12_init_508 rfl ?_
  replace eq67 := (Option.some.inj eq67).symm
  refine V.eq (h1 := q67.1) (S1 := q67.2) (by rw [eq67] <;> rfl) (by rw [eq67] <;> rfl) rfl rfl rfl ?_
  replace ha0 : KD q67.2 a0 12 0 := by rw [eq67]; exact KD.ext SXt.nS ha0
  have mq67 : q66.2.2 ≤ q67.2.2 := by rw [eq67]; exact SXt.nS.1
  have kq67 : KD q67.2 (q66.2.2 : Int) 20 24 := by rw [eq67]; exact KD.new
  have hb := bind_in hf
  clear hf
  obtain ⟨q68, eq68, hf⟩ := hb
  refine q_putRP (pc' := 513) (j := 60) C ha0 fbc_12_60 fpc_12_60 (by decide) wd_1231 (Or.inl rfl) (Or.inr ⟨rfl, hin, rfl⟩) (by rfl) (by rfl) dX12_init_510 (by have := kq67.1; omega) rfl ?_
  replace eq68 := (Option.some.inj eq68).symm
  refine V.eq (h1 := q68.1) (S1 := q68.2) (by rw [eq68] <;> rfl) (by rw [eq68] <;> rfl) rfl rfl rfl ?_
  replace ha0 : KD q68.2 a0 12 0 := by rw [eq68]; exact KD.uS ha0 (by decide)
  replace kq67 : KD q68.2 (q66.2.2 : Int) 20 24 := by rw [eq68]; exact KD.uS kq67 (by decide)
  have mq68 : q67.2.2 ≤ q68.2.2 := by rw [eq68]; exact Nat.le_refl _
  refine r_aload_n (pc' := 514) (f4 := 0) (i := 0) C 0 rfl rfl dX12_init_513 rfl ?_
  refine r_iconst (pc' := 515) C dX12_init_514 rfl ?_
  have hb := bind_in hf
  clear hf
  obtain ⟨q69, eq69, hf⟩ := hb
  refine r_newI (pc' := 517) C wd_159 ww_n5 ⟨by decide, by decide⟩ ⟨Nat.le_of_ble_eq_true rfl, Nat.le_of_ble_eq_true rfl⟩ dX12_init_515 rfl ?_
  replace eq69 := (Option.some.inj eq69).symm
  refine V.eq (h1 := q69.1) (S1 := q69.2) (by rw [eq69] <;> rfl) (by rw [eq69] <;> rfl) rfl rfl rfl ?_
  replace ha0 : KD q69.2 a0 12 0 := by rw [eq69]; exact KD.ext SXt.nS ha0
  have mq69 : q68.2.2 ≤ q69.2.2 := by rw [eq69]; exact SXt.nS.1
  have kq69 : KD q69.2 (q68.2.2 : Int) 20 5 := by rw [eq69]; exact KD.new
  have hb := bind_in hf
  clear hf
  obtain ⟨q70, eq70, hf⟩ := hb
  refine q_putRP (pc' := 520) (j := 61) C ha0 fbc_12_61 fpc_12_61 (by decide) wd_1232 (Or.inl rfl) (Or.inr ⟨rfl, hin, rfl⟩) (by rfl) (by rfl) dX12_init_517 (by have := kq69.1; omega) rfl ?_
  replace eq70 := (Option.some.inj eq70).symm
  refine V.eq (h1 := q70.1) (S1 := q70.2) (by rw [eq70] <;> rfl) (by rw [eq70] <;> rfl) rfl rfl rfl ?_
  replace ha0 : KD q70.2 a0 12 0 := by rw [eq70]; exact KD.uS ha0 (by decide)
  replace kq69 : KD q70.2 (q68.2.2 : Int) 20 5 := by rw [eq70]; exact KD.uS kq69 (by decide)
  have mq70 : q69.2.2 ≤ q70.2.2 := by rw [eq70]; exact Nat.le_refl _
  refine r_aload_n (pc' := 521) (f4 := 0) (i := 0) C 0 rfl rfl dX12_init_520 rfl ?_
  refine r_iconst (pc' := 522) C dX12_init_521 rfl ?_
  have hb := bind_in hf
  clear hf
  obtain ⟨q71, eq71, hf⟩ := hb
  refine r_newI (pc' := 524) C wd_159 ww_n5 ⟨by decide, by decide⟩ ⟨Nat.le_of_ble_eq_true rfl, Nat.le_of_ble_eq_true rfl⟩ dX12_init_522 rfl ?_
  replace eq71 := (Option.some.inj eq71).symm
  refine V.eq (h1 := q71.1) (S1 := q71.2) (by rw [eq71] <;> rfl) (by rw [eq71] <;> rfl) rfl rfl rfl ?_
  replace ha0 : KD q71.2 a0 12 0 := by rw [eq71]; exact KD.ext SXt.nS ha0
  have mq71 : q70.2.2 ≤ q71.2.2 := by rw [eq71]; exact SXt.nS.1
  have kq71 : KD q71.2 (q70.2.2 : Int) 20 5 := by rw [eq71]; exact KD.new
  have hb := bind_in hf
  clear hf
  obtain ⟨q72, eq72, hf⟩ := hb
  refine q_putRP (pc' := 527) (j := 62) C ha0 fbc_12_62 fpc_12_62 (by decide) wd_1233 (Or.inl rfl) (Or.inr ⟨rfl, hin, rfl⟩) (by rfl) (by rfl) dX12_init_524 (by have := kq71.1; omega) rfl ?_
  replace eq72 := (Option.some.inj eq72).symm
  refine V.eq (h1 := q72.1) (S1 := q72.2) (by rw [eq72] <;> rfl) (by rw [eq72] <;> rfl) rfl rfl rfl ?_
  replace ha0 : KD q72.2 a0 12 0 := by rw [eq72]; exact KD.uS ha0 (by decide)
  replace kq71 : KD q72.2 (q70.2.2 : Int) 20 5 := by rw [eq72]; exact KD.uS kq71 (by decide)
  have mq72 : q71.2.2 ≤ q72.2.2 := by rw [eq72]; exact Nat.le_refl _
  refine r_aload_n (pc' := 528) (f4 := 0) (i := 0) C 0 rfl rfl dX12_init_527 rfl ?_
  refine r_iconst (pc' := 529) C dX12_init_528 rfl ?_
  have hb := bind_in hf
  clear hf
  obtain ⟨q73, eq73, hf⟩ := hb
  refine r_newI (pc' := 531) C wd_159 ww_n5 ⟨by decide, by decide⟩ ⟨Nat.le_of_ble_eq_true rfl, Nat.le_of_ble_eq_true rfl⟩ dX12_init_529 rfl ?_
  replace eq73 := (Option.some.inj eq73).symm
  refine V.eq (h1 := q73.1) (S1 := q73.2) (by rw [eq73] <;> rfl) (by rw [eq73] <;> rfl) rfl rfl rfl ?_
  replace ha0 : KD q73.2 a0 12 0 := by rw [eq73]; exact KD.ext SXt.nS ha0
  have mq73 : q72.2.2 ≤ q73.2.2 := by rw [eq73]; exact SXt.nS.1
  have kq73 : KD q73.2 (q72.2.2 : Int) 20 5 := by rw [eq73]; exact KD.new
  have hb := bind_in hf
  clear hf
  obtain ⟨q74, eq74, hf⟩ := hb
  refine q_putRP (pc' := 534) (j := 63) C ha0 fbc_12_63 fpc_12_63 (by decide) wd_1234 (Or.inl rfl) (Or.inr ⟨rfl, hin, rfl⟩) (by rfl) (by rfl) dX12_init_531 (by have := kq73.1; omega) rfl ?_
  replace eq74 := (Option.some.inj eq74).symm
  refine V.eq (h1 := q74.1) (S1 := q74.2) (by rw [eq74] <;> rfl) (by rw [eq74] <;> rfl) rfl rfl rfl ?_
  replace ha0 : KD q74.2 a0 12 0 := by rw [eq74]; exact KD.uS ha0 (by decide)
  replace kq73 : KD q74.2 (q72.2.2 : Int) 20 5 := by rw [eq74]; exact KD.uS kq73 (by decide)
  have mq74 : q73.2.2 ≤ q74.2.2 := by rw [eq74]; exact Nat.le_refl _
  refine r_aload_n (pc' := 535) (f4 := 0) (i := 0) C 0 rfl rfl dX12_init_534 rfl ?_
  refine r_iconst (pc' := 536) C dX12_init_535 rfl ?_
  have hb := bind_in hf
  clear hf
  obtain ⟨q75, eq75, hf⟩ := hb
  refine r_newI (pc' := 538) C wd_159 ww_n5 ⟨by decide, by decide⟩ ⟨Nat.le_of_ble_eq_true rfl, Nat.le_of_ble_eq_true rfl⟩ dX12_init_536 rfl ?_
  replace eq75 := (Option.some.inj eq75).symm
  refine V.eq (h1 := q75.1) (S1 := q75.2) (by rw [eq75] <;> rfl) (by rw [eq75] <;> rfl) rfl rfl rfl ?_
  replace ha0 : KD q75.2 a0 12 0 := by rw [eq75]; exact KD.ext SXt.nS ha0
  have mq75 : q74.2.2 ≤ q75.2.2 := by rw [eq75]; exact SXt.nS.1
  have kq75 : KD q75.2 (q74.2.2 : Int) 20 5 := by rw [eq75]; exact KD.new
  have hb := bind_in hf
  clear hf
  obtain ⟨q76, eq76, hf⟩ := hb
  refine q_putRP (pc' := 541) (j := 64) C ha0 fbc_12_64 fpc_12_64 (by decide) wd_1235 (Or.inl rfl) (Or.inr ⟨rfl, hin, rfl⟩) (by rfl) (by rfl) dX12_init_538 (by have := kq75.1; omega) rfl ?_
  replace eq76 := (Option.some.inj eq76).symm
  refine V.eq (h1 := q76.1) (S1 := q76.2) (by rw [eq76] <;> rfl) (by rw [eq76] <;> rfl) rfl rfl rfl ?_
  replace ha0 : KD q76.2 a0 12 0 := by rw [eq76]; exact KD.uS ha0 (by decide)
  replace kq75 : KD q76.2 (q74.2.2 : Int) 20 5 := by rw [eq76]; exact KD.uS kq75 (by decide)
  have mq76 : q75.2.2 ≤ q76.2.2 := by rw [eq76]; exact Nat.le_refl _
  refine r_aload_n (pc' := 542) (f4 := 0) (i := 0) C 0 rfl rfl dX12_init_541 rfl ?_
  refine r_iconst (pc' := 543) C dX12_init_542 rfl ?_
  have hb := bind_in hf
  clear hf
  obtain ⟨q77, eq77, hf⟩ := hb
  refine r_newI (pc' := 545) C wd_159 ww_n5 ⟨by decide, by decide⟩ ⟨Nat.le_of_ble_eq_true rfl, Nat.le_of_ble_eq_true rfl⟩ dX12_init_543 rfl ?_
  replace eq77 := (Option.some.inj eq77).symm
  refine V.eq (h1 := q77.1) (S1 := q77.2) (by rw [eq77] <;> rfl) (by rw [eq77] <;> rfl) rfl rfl rfl ?_
  replace ha0 : KD q77.2 a0 12 0 := by rw [eq77]; exact KD.ext SXt.nS ha0
  have mq77 : q76.2.2 ≤ q77.2.2 := by rw [eq77]; exact SXt.nS.1
  have kq77 : KD q77.2 (q76.2.2 : Int) 20 5 := by rw [eq77]; exact KD.new
  have hb := bind_in hf
  clear hf
  obtain ⟨q78, eq78, hf⟩ := hb
  refine q_putRP (pc' := 548) (j := 65) C ha0 fbc_12_65 fpc_12_65 (by decide) wd_1236 (Or.inl rfl) (Or.inr ⟨rfl, hin, rfl⟩) (by rfl) (by rfl) dX12_init_545 (by have := kq77.1; omega) rfl ?_
  replace eq78 := (Option.some.inj eq78).symm
  refine V.eq (h1 := q78.1) (S1 := q78.2) (by rw [eq78] <;> rfl) (by rw [eq78] <;> rfl) rfl rfl rfl ?_
  replace ha0 : KD q78.2 a0 12 0 := by rw [eq78]; exact KD.uS ha0 (by decide)
  replace kq77 : KD q78.2 (q76.2.2 : Int) 20 5 := by rw [eq78]; exact KD.uS kq77 (by decide)
  have mq78 : q77.2.2 ≤ q78.2.2 := by rw [eq78]; exact Nat.le_refl _
  refine r_aload_n (pc' := 549) (f4 := 0) (i := 0) C 0 rfl rfl dX12_init_548 rfl ?_
  refine r_bipush (pc' := 551) C rfl dX12_init_549 rfl ?_
  have hb := bind_in hf
  clear hf
  obtain ⟨q79, eq79, hf⟩ := hb
  refine r_newI (pc' := 553) C wd_159 ww_n10 ⟨by decide, by decide⟩ ⟨Nat.le_of_ble_eq_true rfl, Nat.le_of_ble_eq_true rfl⟩ dX12_init_551 rfl ?_
  replace eq79 := (Option.some.inj eq79).symm
  refine V.eq (h1 := q79.1) (S1 := q79.2) (by rw [eq79] <;> rfl) (by rw [eq79] <;> rfl) rfl rfl rfl ?_
  replace ha0 : KD q79.2 a0 12 0 := by rw [eq79]; exact KD.ext SXt.nS ha0
  have mq79 : q78.2.2 ≤ q79.2.2 := by rw [eq79]; exact SXt.nS.1
  have kq79 : KD q79.2 (q78.2.2 : Int) 20 10 := by rw [eq79]; exact KD.new
  have hb := bind_in hf
  clear hf
  obtain ⟨q80, eq80, hf⟩ := hb
  refine q_putRP (pc' := 556) (j := 66) C ha0 fbc_12_66 fpc_12_66 (by decide) wd_1237 (Or.inl rfl) (Or.inr ⟨rfl, hin, rfl⟩) (by rfl) (by rfl) dX12_init_553 (by have := kq79.1; omega) rfl ?_
  replace eq80 := (Option.some.inj eq80).symm
  refine V.eq (h1 := q80.1) (S1 := q80.2) (by rw [eq80] <;> rfl) (by rw [eq80] <;> rfl) rfl rfl rfl ?_
  replace ha0 : KD q80.2 a0 12 0 := by rw [eq80]; exact KD.uS ha0 (by decide)
  replace kq79 : KD q80.2 (q78.2.2 : Int) 20 10 := by rw [eq80]; exact KD.uS kq79 (by decide)
  have mq80 : q79.2.2 ≤ q80.2.2 := by rw [eq80]; exact Nat.le_refl _
  refine r_aload_n (pc' := 557) (f4 := 0) (i := 0) C 0 rfl rfl dX12_init_556 rfl ?_
  refine r_bipush (pc' := 559) C rfl dX12_init_557 rfl ?_
  have hb := bind_in hf
  clear hf
  obtain ⟨q81, eq81, hf⟩ := hb
  refine r_newI (pc' := 561) C wd_159 ww_n10 ⟨by decide, by decide⟩ ⟨Nat.le_of_ble_eq_true rfl, Nat.le_of_ble_eq_true rfl⟩ dX12_init_559 rfl ?_
  replace eq81 := (Option.some.inj eq81).symm
  refine V.eq (h1 := q81.1) (S1 := q81.2) (by rw [eq81] <;> rfl) (by rw [eq81] <;> rfl) rfl rfl rfl ?_
  replace ha0 : KD q81.2 a0 12 0 := by rw [eq81]; exact KD.ext SXt.nS ha0
  have mq81 : q80.2.2 ≤ q81.2.2 := by rw [eq81]; exact SXt.nS.1
  have kq81 : KD q81.2 (q80.2.2 : Int) 20 10 := by rw [eq81]; exact KD.new
  have hb := bind_in hf
  clear hf
  obtain ⟨q82, eq82, hf⟩ := hb
  refine q_putRP (pc' := 564) (j := 67) C ha0 fbc_12_67 fpc_12_67 (by decide) wd_1238 (Or.inl rfl) (Or.inr ⟨rfl, hin, rfl⟩) (by rfl) (by rfl) dX12_init_561 (by have := kq81.1; omega) rfl ?_
  replace eq82 := (Option.some.inj eq82).symm
  refine V.eq (h1 := q82.1) (S1 := q82.2) (by rw [eq82] <;> rfl) (by rw [eq82] <;> rfl) rfl rfl rfl ?_
  replace ha0 : KD q82.2 a0 12 0 := by rw [eq82]; exact KD.uS ha0 (by decide)
  replace kq81 : KD q82.2 (q80.2.2 : Int) 20 10 := by rw [eq82]; exact KD.uS kq81 (by decide)
  have mq82 : q81.2.2 ≤ q82.2.2 := by rw [eq82]; exact Nat.le_refl _
  refine r_aload_n (pc' := 565) (f4 := 0) (i := 0) C 0 rfl rfl dX12_init_564 rfl ?_
  refine r_bipush (pc' := 567) C rfl dX12_init_565 rfl ?_
  have hb := bind_in hf
  clear hf
  obtain ⟨q83, eq83, hf⟩ := hb
  refine r_newI (pc' := 569) C wd_159 ww_n8 ⟨by decide, by decide⟩ ⟨Nat.le_of_ble_eq_true rfl, Nat.le_of_ble_eq_true rfl⟩ dX12_init_567 rfl ?_
  replace eq83 := (Option.some.inj eq83).symm
  refine V.eq (h1 := q83.1) (S1 := q83.2) (by rw [eq83] <;> rfl) (by rw [eq83] <;> rfl) rfl rfl rfl ?_
  replace ha0 : KD q83.2 a0 12 0 := by rw [eq83]; exact KD.ext SXt.nS ha0
  have mq83 : q82.2.2 ≤ q83.2.2 := by rw [eq83]; exact SXt.nS.1
  have kq83 : KD q83.2 (q82.2.2 : Int) 20 8 := by rw [eq83]; exact KD.new
  have hb := bind_in hf
  clear hf
  obtain ⟨q84, eq84, hf⟩ := hb
  refine q_putRP (pc' := 572) (j := 68) C ha0 fbc_12_68 fpc_12_68 (by decide) wd_1239 (Or.inl rfl) (Or.inr ⟨rfl, hin, rfl⟩) (by rfl) (by rfl) dX12_init_569 (by have := kq83.1; omega) rfl ?_
  replace eq84 := (Option.some.inj eq84).symm
  refine V.eq (h1 := q84.1) (S1 := q84.2) (by rw [eq84] <;> rfl) (by rw [eq84] <;> rfl) rfl rfl rfl ?_
  replace ha0 : KD q84.2 a0 12 0 := by rw [eq84]; exact KD.uS ha0 (by decide)
  replace kq83 : KD q84.2 (q82.2.2 : Int) 20 8 := by rw [eq84]; exact KD.uS kq83 (by decide)
  have mq84 : q83.2.2 ≤ q84.2.2 := by rw [eq84]; exact Nat.le_refl _
  refine r_aload_n (pc' := 573) (f4 := 0) (i := 0) C 0 rfl rfl dX12_init_572 rfl ?_
  refine r_bipush (pc' := 575) C rfl dX12_init_573 rfl ?_
  have hb := bind_in hf
  clear hf
  obtain ⟨q85, eq85, hf⟩ := hb
  refine r_newI (pc' := 577) C wd_159 ww_n8 ⟨by decide, by decide⟩ ⟨Nat.le_of_ble_eq_true rfl, Nat.le_of_ble_eq_true rfl⟩ dX12_init_575 rfl ?_
  replace eq85 := (Option.some.inj eq85).symm
  refine V.eq (h1 := q85.1) (S1 := q85.2) (by rw [eq85] <;> rfl) (by rw [eq85] <;> rfl) rfl rfl rfl ?_
  replace ha0 : KD q85.2 a0 12 0 := by rw [eq85]; exact KD.ext SXt.nS ha0
  have mq85 : q84.2.2 ≤ q85.2.2 := by rw [eq85]; exact SXt.nS.1
  have kq85 : KD q85.2 (q84.2.2 : Int) 20 8 := by rw [eq85]; exact KD.new
  have hb := bind_in hf
  clear hf
  obtain ⟨q86, eq86, hf⟩ := hb
  refine q_putRP (pc' := 580) (j := 69) C ha0 fbc_12_69 fpc_12_69 (by decide) wd_1240 (Or.inl rfl) (Or.inr ⟨rfl, hin, rfl⟩) (by rfl) (by rfl) dX12_init_577 (by have := kq85.1; omega) rfl ?_
  replace eq86 := (Option.some.inj eq86).symm
  refine V.eq (h1 := q86.1) (S1 := q86.2) (by rw [eq86] <;> rfl) (by rw [eq86] <;> rfl) rfl rfl rfl ?_
  replace ha0 : KD q86.2 a0 12 0 := by rw [eq86]; exact KD.uS ha0 (by decide)
  replace kq85 : KD q86.2 (q84.2.2 : Int) 20 8 := by rw [eq86]; exact KD.uS kq85 (by decide)
  have mq86 : q85.2.2 ≤ q86.2.2 := by rw [eq86]; exact Nat.le_refl _
  refine r_aload_n (pc' := 581) (f4 := 0) (i := 0) C 0 rfl rfl dX12_init_580 rfl ?_
  refine r_iconst (pc' := 582) C dX12_init_581 rfl ?_
  have hb := bind_in hf
  clear hf
  obtain ⟨q87, eq87, hf⟩ := hb
  refine r_newZ (pc' := 584) C wd_158 ww_n5 ⟨by decide, by decide⟩ ⟨Nat.le_of_ble_eq_true rfl, Nat.le_of_ble_eq_true rfl⟩ dX12_init_582 rfl ?_
  replace eq87 := (Option.some.inj eq87).symm
  refine V.eq (h1 := q87.1) (S1 := q87.2) (by rw [eq87] <;> rfl) (by rw [eq87] <;> rfl) rfl rfl rfl ?_
  replace ha0 : KD q87.2 a0 12 0 := by rw [eq87]; exact KD.ext SXt.nS ha0
  have mq87 : q86.2.2 ≤ q87.2.2 := by rw [eq87]; exact SXt.nS.1
  have kq87 : KD q87.2 (q86.2.2 : Int) 22 5 := by rw [eq87]; exact KD.new
  have hb := bind_in hf
  clear hf
  obtain ⟨q88, eq88, hf⟩ := hb
  refine q_putRP (pc' := 587) (j := 70) C ha0 fbc_12_70 fpc_12_70 (by decide) wd_1241 (Or.inl rfl) (Or.inr ⟨rfl, hin, rfl⟩) (by rfl) (by rfl) dX12_init_584 (by have := kq87.1; omega) rfl ?_
  replace eq88 := (Option.some.inj eq88).symm
  refine V.eq (h1 := q88.1) (S1 := q88.2) (by rw [eq88] <;> rfl) (by rw [eq88] <;> rfl) rfl rfl rfl ?_
  replace ha0 : KD q88.2 a0 12 0 := by rw [eq88]; exact KD.uS ha0 (by decide)
  replace kq87 : KD q88.2 (q86.2.2 : Int) 22 5 := by rw [eq88]; exact KD.uS kq87 (by decide)
  have mq88 : q87.2.2 ≤ q88.2.2 := by rw [eq88]; exact Nat.le_refl _
  refine r_aload_n (pc' := 588) (f4 := 0) (i := 0) C 0 rfl rfl dX12_init_587 rfl ?_
  refine r_iconst (pc' := 589) C dX12_init_588 rfl ?_
  refine q_putI (pc' := 592) (j := 71) C ha0 fbc_12_71 fpc_12_71 wd_1242 (Or.inl rfl) (Or.inl rfl) rfl rfl dX12_init_589 rfl ?_
  refine r_aload_n (pc' := 593) (f4 := 0) (i := 0) C 0 rfl rfl dX12_init_592 rfl ?_
  refine r_bipush (pc' := 595) C rfl dX12_init_593 rfl ?_
  have hb := bind_in hf
  clear hf
  obtain ⟨q89, eq89, hf⟩ := hb
  refine r_newI (pc' := 597) C wd_159 ww_n20 ⟨by decide, by decide⟩ ⟨Nat.le_of_ble_eq_true rfl, Nat.le_of_ble_eq_true rfl⟩ dX12_init_595 rfl ?_
  replace eq89 := (Option.some.inj eq89).symm
  refine V.eq (h1 := q89.1) (S1 := q89.2) (by rw [eq89] <;> rfl) (by rw [eq89] <;> rfl) rfl rfl rfl ?_
  replace ha0 : KD q89.2 a0 12 0 := by rw [eq89]; exact KD.ext SXt.nS ha0
  have mq89 : q88.2.2 ≤ q89.2.2 := by rw [eq89]; exact SXt.nS.1
  have kq89 : KD q89.2 (q88.2.2 : Int) 20 20 := by rw [eq89]; exact KD.new
  have hb := bind_in hf
  clear hf
  obtain ⟨q90, eq90, hf⟩ := hb
  refine q_putRP (pc' := 600) (j := 72) C ha0 fbc_12_72 fpc_12_72 (by decide) wd_1243 (Or.inl rfl) (Or.inr ⟨rfl, hin, rfl⟩) (by rfl) (by rfl) dX12_init_597 (by have := kq89.1; omega) rfl ?_
  replace eq90 := (Option.some.inj eq90).symm
  refine V.eq (h1 := q90.1) (S1 := q90.2) (by rw [eq90] <;> rfl) (by rw [eq90] <;> rfl) rfl rfl rfl ?_
  replace ha0 : KD q90.2 a0 12 0 := by rw [eq90]; exact KD.uS ha0 (by decide)
  replace kq89 : KD q90.2 (q88.2.2 : Int) 20 20 := by rw [eq90]; exact KD.uS kq89 (by decide)
  have mq90 : q89.2.2 ≤ q90.2.2 := by rw [eq90]; exact Nat.le_refl _
  refine r_aload_n (pc' := 601) (f4 := 0) (i := 0) C 0 rfl rfl dX12_init_600 rfl ?_
  refine r_bipush (pc' := 603) C rfl dX12_init_601 rfl ?_
  have hb := bind_in hf
  clear hf
  obtain ⟨q91, eq91, hf⟩ := hb
  refine r_newI (pc' := 605) C wd_159 ww_n6 ⟨by decide, by decide⟩ ⟨Nat.le_of_ble_eq_true rfl, Nat.le_of_ble_eq_true rfl⟩ dX12_init_603 rfl ?_
  replace eq91 := (Option.some.inj eq91).symm
  refine V.eq (h1 := q91.1) (S1 := q91.2) (by rw [eq91] <;> rfl) (by rw [eq91] <;> rfl) rfl rfl rfl ?_
  replace ha0 : KD q91.2 a0 12 0 := by rw [eq91]; exact KD.ext SXt.nS ha0
  have mq91 : q90.2.2 ≤ q91.2.2 := by rw [eq91]; exact SXt.nS.1
  have kq91 : KD q91.2 (q90.2.2 : Int) 20 6 := by rw [eq91]; exact KD.new
  refine r_dup (pc' := 606) C rfl dX12_init_605 rfl ?_
  refine r_iconst (pc' := 607) C dX12_init_606 rfl ?_
  refine r_iconst (pc' := 608) C dX12_init_607 rfl ?_
  refine r_iast (pc' := 609) C kq91 ww_n0 (by decide) dX12_init_608 rfl ?_
  refine r_dup (pc' := 610) C rfl dX12_init_609 rfl ?_
  refine r_iconst (pc' := 611) C dX12_init_610 rfl ?_
  refine r_iconst (pc' := 612) C dX12_init_611 rfl ?_
  refine r_iast (pc' := 613) C kq91 ww_n1 (by decide) dX12_init_612 rfl ?_
  refine r_dup (pc' := 614) C rfl dX12_init_613 rfl ?_
  refine r_iconst (pc' := 615) C dX12_init_614 rfl ?_
  refine r_iconst (pc' := 616) C dX12_init_615 rfl ?_
  refine r_iast (pc' := 617) C kq91 ww_n2 (by decide) dX12_init_616 rfl ?_
  refine r_dup (pc' := 618) C rfl dX12_init_617 rfl ?_
  refine r_iconst (pc' := 619) C dX12_init_618 rfl ?_
  refine r_iconst (pc' := 620) C dX12_init_619 rfl ?_
  refine r_iast (pc' := 621) C kq91 ww_n3 (by decide) dX12_init_620 rfl ?_
  refine r_dup (pc' := 622) C rfl dX12_init_621 rfl ?_
  refine r_iconst (pc' := 623) C dX12_init_622 rfl ?_
  refine r_iconst (pc' := 624) C dX12_init_623 rfl ?_
  refine r_iast (pc' := 625) C kq91 ww_n4 (by decide) dX12_init_624 rfl ?_
  refine r_dup (pc' := 626) C rfl dX12_init_625 rfl ?_
  refine r_iconst (pc' := 627) C dX12_init_626 rfl ?_
  refine r_iconst (pc' := 628) C dX12_init_627 rfl ?_
  refine r_iast (pc' := 629) C kq91 ww_n5 (by decide) dX12_init_628 rfl ?_
  have hb := bind_in hf
  clear hf
  obtain ⟨q92, eq92, hf⟩ := hb
  refine q_putRP (pc' := 632) (j := 73) C ha0 fbc_12_73 fpc_12_73 (by decide) wd_1244 (Or.inl rfl) (Or.inr ⟨rfl, hin, rfl⟩) (by rfl) (by rfl) dX12_init_629 (by have := kq91.1; omega) rfl ?_
  replace eq92 := (Option.some.inj eq92).symm
  refine V.eq (h1 := q92.1) (S1 := q92.2) (by rw [eq92] <;> rfl) (by rw [eq92] <;> rfl) rfl rfl rfl ?_
  replace ha0 : KD q92.2 a0 12 0 := by rw [eq92]; exact KD.uS ha0 (by decide)
  replace kq91 : KD q92.2 (q90.2.2 : Int) 20 6 := by rw [eq92]; exact KD.uS kq91 (by decide)
  have mq92 : q91.2.2 ≤ q92.2.2 := by rw [eq92]; exact Nat.le_refl _
  refine r_aload_n (pc' := 633) (f4 := 0) (i := 0) C 0 rfl rfl dX12_init_632 rfl ?_
  refine r_bipush (pc' := 635) C rfl dX12_init_633 rfl ?_
  have hb := bind_in hf
  clear hf
  obtain ⟨q93, eq93, hf⟩ := hb
  refine r_newI (pc' := 637) C wd_159 ww_n6 ⟨by decide, by decide⟩ ⟨Nat.le_of_ble_eq_true rfl, Nat.le_of_ble_eq_true rfl⟩ dX12_init_635 rfl ?_
  replace eq93 := (Option.some.inj eq93).symm
  refine V.eq (h1 := q93.1) (S1 := q93.2) (by rw [eq93] <;> rfl) (by rw [eq93] <;> rfl) rfl rfl rfl ?_
  replace ha0 : KD q93.2 a0 12 0 := by rw [eq93]; exact KD.ext SXt.nS ha0
  have mq93 : q92.2.2 ≤ q93.2.2 := by rw [eq93]; exact SXt.nS.1
  have kq93 : KD q93.2 (q92.2.2 : Int) 20 6 := by rw [eq93]; exact KD.new
  have hb := bind_in hf
  clear hf
  obtain ⟨q94, eq94, hf⟩ := hb
  refine q_putRP (pc' := 640) (j := 74) C ha0 fbc_12_74 fpc_12_74 (by decide) wd_1245 (Or.inl rfl) (Or.inr ⟨rfl, hin, rfl⟩) (by rfl) (by rfl) dX12_init_637 (by have := kq93.1; omega) rfl ?_
  replace eq94 := (Option.some.inj eq94).symm
  refine V.eq (h1 := q94.1) (S1 := q94.2) (by rw [eq94] <;> rfl) (by rw [eq94] <;> rfl) rfl rfl rfl ?_
  replace ha0 : KD q94.2 a0 12 0 := by rw [eq94]; exact KD.uS ha0 (by decide)
  replace kq93 : KD q94.2 (q92.2.2 : Int) 20 6 := by rw [eq94]; exact KD.uS kq93 (by decide)
  have mq94 : q93.2.2 ≤ q94.2.2 := by rw [eq94]; exact Nat.le_refl _
  refine r_aload_n (pc' := 641) (f4 := 0) (i := 0) C 0 rfl rfl dX12_init_640 rfl ?_
  refine r_sipush (pc' := 644) C rfl dX12_init_641 rfl ?_
  have hb := bind_in hf
  clear hf
  obtain ⟨q95, eq95, hf⟩ := hb
  refine r_newL (pc' := 646) C wd_309 ww_n360 ⟨by decide, by decide⟩ ⟨Nat.le_of_ble_eq_true rfl, Nat.le_of_ble_eq_true rfl⟩ dX12_init_644 rfl ?_
  replace eq95 := (Option.some.inj eq95).symm
  refine V.eq (h1 := q95.1) (S1 := q95.2) (by rw [eq95] <;> rfl) (by rw [eq95] <;> rfl) rfl rfl rfl ?_
  replace ha0 : KD q95.2 a0 12 0 := by rw [eq95]; exact KD.ext SXt.nS ha0
  have mq95 : q94.2.2 ≤ q95.2.2 := by rw [eq95]; exact SXt.nS.1
  have kq95 : KD q95.2 (q94.2.2 : Int) 21 360 := by rw [eq95]; exact KD.new
  have hb := bind_in hf
  clear hf
  obtain ⟨q96, eq96, hf⟩ := hb
  refine q_putRP (pc' := 649) (j := 75) C ha0 fbc_12_75 fpc_12_75 (by decide) wd_1246 (Or.inl rfl) (Or.inr ⟨rfl, hin, rfl⟩) (by rfl) (by rfl) dX12_init_646 (by have := kq95.1; omega) rfl ?_
  replace eq96 := (Option.some.inj eq96).symm
  refine V.eq (h1 := q96.1) (S1 := q96.2) (by rw [eq96] <;> rfl) (by rw [eq96] <;> rfl) rfl rfl rfl ?_
  replace ha0 : KD q96.2 a0 12 0 := by rw [eq96]; exact KD.uS ha0 (by decide)
  replace kq95 : KD q96.2 (q94.2.2 : Int) 21 360 := by rw [eq96]; exact KD.uS kq95 (by decide)
  have mq96 : q95.2.2 ≤ q96.2.2 := by rw [eq96]; exact Nat.le_refl _
  refine r_aload_n (pc' := 650) (f4 := 0) (i := 0) C 0 rfl rfl dX12_init_649 rfl ?_
  refine r_bipush (pc' := 652) C rfl dX12_init_650 rfl ?_
  have hb := bind_in hf
  clear hf
  obtain ⟨q97, eq97, hf⟩ := hb
  refine r_newL (pc' := 654) C wd_309 ww_n60 ⟨by decide, by decide⟩ ⟨Nat.le_of_ble_eq_true rfl, Nat.le_of_ble_eq_true rfl⟩ dX12_init_652 rfl ?_
  replace eq97 := (Option.some.inj eq97).symm
  refine V.eq (h1 := q97.1) (S1 := q97.2) (by rw [eq97] <;> rfl) (by rw [eq97] <;> rfl) rfl rfl rfl ?_
  replace ha0 : KD q97.2 a0 12 0 := by rw [eq97]; exact KD.ext SXt.nS ha0
  have mq97 : q96.2.2 ≤ q97.2.2 := by rw [eq97]; exact SXt.nS.1
  have kq97 : KD q97.2 (q96.2.2 : Int) 21 60 := by rw [eq97]; exact KD.new
  have hb := bind_in hf
  clear hf
  obtain ⟨q98, eq98, hf⟩ := hb
  refine q_putRP (pc' := 657) (j := 76) C ha0 fbc_12_76 fpc_12_76 (by decide) wd_1247 (Or.inl rfl) (Or.inr ⟨rfl, hin, rfl⟩) (by rfl) (by rfl) dX12_init_654 (by have := kq97.1; omega) rfl ?_
  replace eq98 := (Option.some.inj eq98).symm
  refine V.eq (h1 := q98.1) (S1 := q98.2) (by rw [eq98] <;> rfl) (by rw [eq98] <;> rfl) rfl rfl rfl ?_
  replace ha0 : KD q98.2 a0 12 0 := by rw [eq98]; exact KD.uS ha0 (by decide)
  replace kq97 : KD q98.2 (q96.2.2 : Int) 21 60 := by rw [eq98]; exact KD.uS kq97 (by decide)
  have mq98 : q97.2.2 ≤ q98.2.2 := by rw [eq98]; exact Nat.le_refl _
  cases hf
  exact r_vret C dX12_init_657
