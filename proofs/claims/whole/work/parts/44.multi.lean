theorem ww_b' {n : Nat} (h : n ≤ 1000) : ww (n : Int) = n := ww_id (by omega) (by omega)
def mnH (h : HH) (b0 n : Nat) : HH := fun a b => if (b0 : Int) ≤ a ∧ a ≤ b0 + n then 0 else h a b
def mnS (S : SS) (co ci : Int) (n k : Nat) : SS := (fun a b => if a = S.2 then (if b = -1 then co else if b = -2 then n else if 0 ≤ b ∧ b < n then S.2 + 1 + b else -1) else if (S.2 : Int) < a ∧ a ≤ S.2 + n then (if b = -1 then ci else if b = -2 then k else -1) else S.1 a b, S.2 + (1 + n))
theorem SXt.mnS {S : SS} {co ci : Int} {n k : Nat} : SXt S (mnS S co ci n k) := ⟨by show S.2 ≤ S.2 + (1 + n); omega, fun a j ha => by
  show (if a = S.2 then _ else if (S.2 : Int) < a ∧ a ≤ S.2 + n then _ else S.1 a j) = _
  rw [if_neg (by omega), if_neg (by omega)]⟩
theorem KD.mnO {S : SS} {co ci : Int} {n k : Nat} : KD (mnS S co ci n k) S.2 co n := by
  refine ⟨by omega, by show (S.2 : Int) < ((S.2 + (1 + n) : Nat) : Int); omega, ?_, ?_⟩
  · show (if (S.2 : Int) = S.2 then (if (-1 : Int) = -1 then co else _) else _) = co
    rw [if_pos rfl, if_pos rfl]
  · show (if (S.2 : Int) = S.2 then (if (-2 : Int) = -1 then co else if (-2 : Int) = -2 then (n : Int) else _) else _) = n
    rw [if_pos rfl, if_neg (by decide), if_pos rfl]
theorem KD.mnI {S : SS} {co ci : Int} {n k : Nat} {j : Int} (h0 : 0 ≤ j) (h1 : j < n) : KD (mnS S co ci n k) (S.2 + 1 + j) ci k := by
  refine ⟨by omega, by show (S.2 : Int) + 1 + j < ((S.2 + (1 + n) : Nat) : Int); omega, ?_, ?_⟩
  · show (if (S.2 : Int) + 1 + j = S.2 then _ else if (S.2 : Int) < S.2 + 1 + j ∧ (S.2 : Int) + 1 + j ≤ S.2 + n then (if (-1 : Int) = -1 then ci else _) else _) = ci
    rw [if_neg (by omega), if_pos (by omega), if_pos rfl]
  · show (if (S.2 : Int) + 1 + j = S.2 then _ else if (S.2 : Int) < S.2 + 1 + j ∧ (S.2 : Int) + 1 + j ≤ S.2 + n then (if (-2 : Int) = -1 then ci else if (-2 : Int) = -2 then (k : Int) else -1) else _) = k
    rw [if_neg (by omega), if_pos (by omega), if_neg (by decide), if_pos rfl]
theorem arrV_congr {cA : ClassId} {N : Nat} {f g : Nat → Value} (h : ∀ j, j < N → f j = g j) : arrV cA N f = arrV cA N g := by
  unfold arrV
  congr 1
  apply Array.ext
  · simp
  · intro i h1 h2
    simp at h1
    simp [h i h1]
theorem ent_mn_ne {dT : ZT} {bs : Nat} {h : HH} {S : SS} {co ci : Int} {n k : Nat} {a : Int} (ha : a < S.2) : ent dT bs (mnH h S.2 n) (mnS S co ci n k) a = ent dT bs h S a := by
  have e1 : ∀ j : Int, (mnS S co ci n k).1 a j = S.1 a j := fun j => SXt.mnS.2 a j ha
  have e2 : ∀ j : Int, mnH h S.2 n a j = h a j := fun j => by unfold mnH; rw [if_neg (by omega)]
  simp [ent, fldV, e1, e2]
section ZN2
variable {D : va_G} {dT : ZT} {bs nL : Nat} {own : String} {cc : ByteArray} {ret : Option FieldType} {p : Program} {l : Launch} {e : Env} {R : Room} {s : State} {m : MethodId} {args : Array Value} {below : List Frame} {meth : Method} {c : Code} {cells slots : Nat} {Q : State → Prop} {h : HH} {S : SS} {pc pc' : Nat} {L : List (Nat × Value)} {st : List Value}
theorem zx_over (C : Cx D dT bs own cc nL ret p s m args meth c) {A : FieldType} (hm : Cond.arrayOver (.array A) ∈ lw_tbl) : ∃ (comp c : ClassId) (k : Class), s.vm.findClass (FieldType.array A).toString = some comp ∧ s.vm.classes[c]? = some k ∧ k.kind = .array comp (.array A) ∧ s.vm.findClass ("[" ++ (FieldType.array A).toString) = some c := by
  obtain ⟨z1, -, -, -, z5, -⟩ := C.2.2.2.2.2.2.2.2.2
  obtain ⟨comp, cA, k, h1, h2, h3, h4⟩ := zm_over (z5 _ hm)
  have hal := z1.alike
  obtain ⟨k', hk', he⟩ := hal.2.2 _ _ h2
  exact ⟨comp, cA, k', by rw [hal.findClass]; exact h1, hk', by rw [he]; exact h3, by rw [hal.findClass]; exact h4⟩
theorem r_multi (C : Cx D dT bs own cc nL ret p s m args meth c) {n k ix : Nat} {to ti : Nat} {ty : FieldType} (ht : (to = 3 ∧ ti = 0 ∧ ty = .int) ∨ (to = 4 ∧ ti = 1 ∧ ty = .long)) (hn : n ≤ 1000) (hk : k ≤ 1000) (hlink : Cond.classLink own ix ("[" ++ (FieldType.array ty).toString) ∈ lwb) (hover : Cond.arrayOver (.array ty) ∈ lw_tbl) (harr : Cond.arrayClass ty ∈ lwb) (hz : cells + (1 + n) ≤ R.cells ∧ slots + (n + n * k) ≤ R.slots) (hd : decode cc pc = .ok (.multianewarray ix 2, 4)) (hp : pc + 4 = pc')
    (kk : V D dT bs nL p l e R s m args below meth c (cells + (1 + n)) (slots + (n + n * k)) Q (mnH h S.2 n) (mnS S (20 + (to : Int)) (20 + (ti : Int)) n k) pc' L (zP bs S.2 :: st)) : V D dT bs nL p l e R s m args below meth c cells slots Q h S pc L (zI k :: zI n :: st) := by
  intro H locs ls hP hS hl
  subst hp
  have hK := C.2.2.2.2.2.2.2.1
  have hts := C.2.2.2.2.1
  have cn : (Int32.ofInt (n : Int)).toNatClampNeg = n := by rw [ww_cl (ww_b' hn) (by omega)]; rfl
  have ck' : (Int32.ofInt (k : Int)).toNatClampNeg = k := by rw [ww_cl (ww_b' hk) (by omega)]; rfl
  have nn : ¬ Int32.ofInt (n : Int) < 0 := fun q => by have := ww_lt0.mp q; rw [ww_b' hn] at this; omega
  have nk : ¬ Int32.ofInt (k : Int) < 0 := fun q => by have := ww_lt0.mp q; rw [ww_b' hk] at this; omega
  have hby : componentBytes ty ≤ 8 := by rcases ht with ⟨-, -, rfl⟩ | ⟨-, -, rfl⟩ <;> decide
  have hdf : fits ty (defaultValue ty) = true := by rcases ht with ⟨-, -, rfl⟩ | ⟨-, -, rfl⟩ <;> rfl
  intro T hT X
  obtain ⟨vm₁, cA, comp, hA, hC, X1, step⟩ := zm_step X C.1 C.2.2.2.1 (hts _ hlink) (zx_over C hover) (hts _ harr) (g := F0 m pc ls (zI k :: zI n :: st)) rfl (by rw [C.2.1]; exact hd) (n := Int32.ofInt n) (k := Int32.ofInt k) (rest := st) rfl nn nk (by rw [cn]; omega) (by rw [ck']; have := Nat.mul_le_mul hk hby; omega) (by rw [ck']; omega) hdf (by rw [cn]; exact hz.1) (by rw [cn, ck']; exact hz.2)
  rw [cn, ck'] at X1 step
  obtain ⟨a1, a2, a3, a4, a5, a6⟩ := zmS_all (T.setVm vm₁) cA comp n k (defaultValue ty) n
  have hH : (T.setVm vm₁).heap = H := hT
  rw [hH] at a1 a2 a5 a6
  have eA : cA = dT.1 to := by
    have := (hK.2 to _ (tyL_at (by omega))).2
    rcases ht with ⟨rfl, rfl, rfl⟩ | ⟨rfl, rfl, rfl⟩
    · exact Option.some.inj (hA.symm.trans this)
    · exact Option.some.inj (hA.symm.trans this)
  have eC : comp = dT.1 ti := by
    have := (hK.2 ti _ (tyL_at (by omega))).2
    rcases ht with ⟨rfl, rfl, rfl⟩ | ⟨rfl, rfl, rfl⟩
    · exact Option.some.inj (hC.symm.trans this)
    · exact Option.some.inj (hC.symm.trans this)
  subst eA eC
  generalize hG : (zmS (T.setVm vm₁) (dT.1 to) (dT.1 ti) n k (defaultValue ty) n) = U1 at X1 step a1 a2 a5 a6
  have hPic : Pic D dT bs (mnH h S.2 n) (mnS S (20 + (to : Int)) (20 + (ti : Int)) n k) U1.heap := by
    refine ⟨by rw [a1, hP.1]; show bs + S.2 + 1 + n = bs + (S.2 + (1 + n)); omega, fun i hi => ?_⟩
    have hi' : i < S.2 + (1 + n) := hi
    by_cases c1 : i < S.2
    · rw [ent_mn_ne (by omega)]
      exact (hP.2 i c1).kept (a5 _ (by rw [hP.1]; show bs + i < bs + S.2; omega))
    · by_cases c2 : i = S.2
      · subst c2
        rw [ent_arR (t := to) KD.mnO (by omega) (by omega) (by omega), ← hP.1]
        show U1.heap[H.size]? = some (arrV (dT.1 to) n (fun j => va_rf (oP bs ((mnS S (20 + (to : Int)) (20 + (ti : Int)) n k).1 S.2 j))))
        rw [a2]
        unfold zmC
        congr 1
        refine arrV_congr (fun j hj => ?_)
        rw [if_pos hj]
        have e1 : (mnS S (20 + (to : Int)) (20 + (ti : Int)) n k).1 S.2 (j : Int) = S.2 + 1 + j := by
          show (if (S.2 : Int) = S.2 then (if (j : Int) = -1 then _ else if (j : Int) = -2 then _ else if 0 ≤ (j : Int) ∧ (j : Int) < n then (S.2 : Int) + 1 + j else -1) else _) = _
          rw [if_pos rfl, if_neg (by omega), if_neg (by omega), if_pos (by omega)]
        have e2 : oP bs ((mnS S (20 + (to : Int)) (20 + (ti : Int)) n k).1 S.2 (j : Int)) = some (H.size + 1 + j) := by
          rw [e1, oP, if_neg (by omega), hP.1]
          congr 1
          show bs + ((S.2 : Int) + 1 + j).toNat = bs + S.2 + 1 + j
          omega
        rw [e2]
        rfl
      · obtain ⟨j, rfl⟩ : ∃ j : Nat, i = S.2 + 1 + j := ⟨i - S.2 - 1, by omega⟩
        have hj : j < n := by omega
        have hk0 : KD (mnS S (20 + (to : Int)) (20 + (ti : Int)) n k) ((S.2 + 1 + j : Nat) : Int) (20 + (ti : Int)) k := by
          have := KD.mnI (S := S) (co := 20 + (to : Int)) (ci := 20 + (ti : Int)) (n := n) (k := k) (j := j) (by omega) (by omega)
          rw [show ((S.2 + 1 + j : Nat) : Int) = (S.2 : Int) + 1 + j from by omega]
          exact this
        have hz0 : ∀ q : Int, mnH h S.2 n ((S.2 + 1 + j : Nat) : Int) q = 0 := fun q => by unfold mnH; rw [if_pos (by omega)]
        have ha := a6 j hj
        rw [show H.size + 1 + j = bs + (S.2 + 1 + j) from by rw [hP.1]; show bs + S.2 + 1 + j = _; omega] at ha
        rcases ht with ⟨rfl, rfl, rfl⟩ | ⟨rfl, rfl, rfl⟩
        · rw [ent_arI hk0]
          show U1.heap[bs + (S.2 + 1 + j)]? = some (arrV (dT.1 0) k (fun q => .int (Int32.ofInt (mnH h S.2 n ((S.2 + 1 + j : Nat) : Int) q))))
          rw [ha]; simp only [hz0]; rfl
        · rw [ent_arL hk0]
          show U1.heap[bs + (S.2 + 1 + j)]? = some (arrV (dT.1 1) k (fun q => .long (Int64.ofInt (mnH h S.2 n ((S.2 + 1 + j : Nat) : Int) q))))
          rw [ha]; simp only [hz0]; rfl
  have hS1 : va_S (AA bs) s.heap U1.heap locs := ⟨Nat.le_trans hS.1 (by rw [a1]; omega), fun x h1 h2 => (a5 x (Nat.lt_of_lt_of_le h1 hS.1)).trans (hS.2.1 x h1 h2), hS.2.2⟩
  obtain ⟨t, b1, b2⟩ := kk U1.heap locs ls hPic hS1 hl U1 rfl X1
  refine ⟨t, step t ?_, b2⟩
  have eP : zP bs (S.2 : Int) = .ref T.heap.size := by rw [hT, hP.1]; rfl
  rw [← eP]
  exact b1
/-- a cell into a row of orchards -/
theorem r_aast6 (C : Cx D dT bs own cc nL ret p s m args meth c) {k n a a' q nq : Int} (hk : KD S k 26 n) (ha : ww a = a') (hi : 0 ≤ a' ∧ a' < n) (hq : KD S q 5 nq) (hd : decode cc pc = .ok (.aastore, 1)) (hp : pc + 1 = pc') (kk : V D dT bs nL p l e R s m args below meth c cells slots Q h (uS S k a' q) pc' L st) : V D dT bs nL p l e R s m args below meth c cells slots Q h S pc L (zP bs q :: zI a :: zP bs k :: st) := by
  intro H locs ls hP hS hl
  subst hp
  have hat := hP.at hk.1 hk.2.1
  rw [ent_arR (t := 6) hk (by decide) (by decide) (by decide)] at hat
  have hatv := hP.at hq.1 hq.2.1
  rw [ent_obj (c := 5) hq (by decide)] at hatv
  obtain ⟨r, g1, cellv, g2, g3, g4, -⟩ := hatv
  have hK := C.2.2.2.2.2.2.2.1
  have hA := hK.2 6 _ (tyL_at (dT := dT) (t := 6) (by decide))
  have hvp := ww_vp ha hi
  obtain ⟨kA, comp, b1, b2, b3, -⟩ : ∃ (kA : Class) (comp : ClassId), s.vm.classes[dT.1 6]? = some kA ∧ kA.kind = .array comp (.object "WassailEnemies$Orchard") ∧ s.vm.findClass "WassailEnemies$Orchard" = some comp ∧ _ := hA.2
  obtain ⟨-, hfcO, kO, hkO, -⟩ := hK.1 5 (RX5, TX5, 5) rfl
  have hcomp : comp = D.1 5 := Option.some.inj (b3.symm.trans hfcO)
  have hcls : cellv.cls = D.1 5 := g3
  refine W.aast C.1 C.2.1 (cell := arrV (dT.1 6) n.toNat (fun j => va_rf (oP bs (S.1 k j)))) hat (fun q z => by cases z) (fun q => by cases q) b1 b2 rfl (by rw [hcomp]; exact hkO) ⟨fun q => hvp (Or.inl q), by rw [arrV_size]; exact Nat.not_le.mp (fun q => hvp (Or.inr q))⟩ g2 (fun q z => by rw [g4] at z; cases z) (by rw [hcls]; exact hkO) (by rw [hcls, hcomp]; exact va_asg _ _) rfl rfl hd fun H1 e1 e2 e3 => ?_
  have hk' : KD (uS S k a' q) k 26 n := hk.uS hi.1
  refine kk H1 _ ls (hP.set hk.1 hk.2.1 rfl e2 e3 (fun b hb => ent_uS_ne hb) ?_) (AA_S hS e2 e3) hl
  rw [ent_arR (t := 6) hk' (by decide) (by decide) (by decide)]
  show H1[_]? = some (arrV (dT.1 6) n.toNat (fun j => va_rf (oP bs ((uS S k a' q).1 k j))))
  rw [e1, arrV_store, ww_cl ha hi.1]
  congr 2
  funext j
  unfold updV
  by_cases hj : j = a'.toNat
  · subst hj
    rw [if_pos rfl]
    have e4 : (uS S k a' q).1 k ((a'.toNat : Nat) : Int) = q := by
      show (if k = k ∧ ((a'.toNat : Nat) : Int) = a' then q else _) = q
      rw [if_pos ⟨rfl, by omega⟩]
    rw [e4, oP, if_neg (by have := hq.1; omega)]
    rfl
  · rw [if_neg hj]
    have e4 : (uS S k a' q).1 k (j : Int) = S.1 k j := by
      show (if k = k ∧ (j : Int) = a' then q else _) = _
      rw [if_neg (by omega)]
    rw [e4]
end ZN2
