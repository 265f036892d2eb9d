-- THE FLAT MEMORY: cells numbered in the order of their making. h: ints; S.1: references (as numbers of cells, below 0: null), kinds (at -1), lengths (at -2); S.2: how many cells
abbrev HH : Type := Int → Int → Int
abbrev SS : Type := (Int → Int → Int) × Nat
/-- the classes of the arrays; where the kept Integers are; where the empty row of a new list is; the law's start, and where its script is -/
abbrev ZT : Type := (Nat → ClassId) × (Int → Nat) × Nat × State × Nat
def zI (z : Int) : Value := .int (Int32.ofInt z)
def zL (z : Int) : Value := .long (Int64.ofInt z)
def zP (bs : Nat) (k : Int) : Value := .ref (bs + k.toNat)
def oP (bs : Nat) (k : Int) : Option Nat := if k < 0 then none else some (bs + k.toNat)
def zN (bs : Nat) (k : Int) : Value := va_rf (oP bs k)
/-- a reference that changes is kept among the ints: 0 null, else its cell's number and 1 -/
def oD (bs : Nat) (v : Int) : Option Nat := if v ≤ 0 then none else some (bs + (v - 1).toNat)
def zD (bs : Nat) (v : Int) : Value := va_rf (oD bs v)
def oE (ea bs : Nat) (v : Int) : Option Nat := if v = -7 then some ea else oD bs v
def ww (z : Int) : Int := (Int32.ofInt z).toInt
def wl (z : Int) : Int := (Int64.ofInt z).toInt
def u2 (f : HH) (k j v : Int) : HH := fun a b => if a = k ∧ b = j then v else f a b
def uS (S : SS) (k j v : Int) : SS := (u2 S.1 k j v, S.2)
/-- a new cell of kind c and length n -/
def nh (h : HH) (N : Nat) : HH := fun a b => if a = N then 0 else h a b
def nS (S : SS) (c n : Int) : SS := (fun a b => if a = S.2 then (if b = -1 then c else if b = -2 then n else -1) else S.1 a b, S.2 + 1)
abbrev clX : List vw_C := [(RX0, TX0, 4), (RX1, TX1, 4), (RX2, TX2, 4), (RX3, TX3, 4), (RX4, TX4, 4), (RX5, TX5, 5), (RX6, TX6, 4), (RX7, TX7, 2), (RX8, TX8, 4), (RX9, TX9, 4), (RX10, TX10, 13), (RX11, TX11, 13), (RX12, TX12, 77), (RJx4a65c, TJx4a65c, 3)]
/-- how many fields, and whether the j-th is a reference -/
def nF (c : Nat) : Nat := match clX[c]? with
  | some q => q.2.2
  | none => 0
def isRefD (d : String) : Bool := match parseFieldDescriptor d with
  | some (.object _) => true
  | some (.array _) => true
  | _ => false
def fR (c j : Nat) : Bool := match clX[c]? with
  | some q => isRefD (q.2.1 j).2.2.1
  | none => false
def tyA (t : Nat) : FieldType := match t with
  | 0 => .int
  | 1 => .long
  | 2 => .boolean
  | 3 => .array .int
  | 4 => .array .long
  | 5 => .object "WassailEnemies$Hater"
  | 6 => .object "WassailEnemies$Orchard"
  | _ => .object "java/lang/Object"
def tyL (dT : ZT) : List (ClassId × FieldType) := (List.range 8).map (fun t => (dT.1 t, tyA t))
def fldV (dT : ZT) (bs : Nat) (h : HH) (S : SS) (c : Nat) (k : Int) : List Value := (List.range (nF c)).map (fun j => if fR c j then (if c = 13 then va_rf (oE dT.2.2.1 bs (h k j)) else if c = 10 ∧ j = 11 then zD bs (h k j) else zN bs (S.1 k j)) else zI (h k j))
def ent (dT : ZT) (bs : Nat) (h : HH) (S : SS) (k : Int) : va_E :=
  if S.1 k (-1) < 20 then .inr ((S.1 k (-1)).toNat, fldV dT bs h S (S.1 k (-1)).toNat k)
  else if S.1 k (-1) = 21 then .inl (dT.1 1, (S.1 k (-2)).toNat, .inr (.inl (fun j => Int64.ofInt (h k j))))
  else if S.1 k (-1) = 20 ∨ S.1 k (-1) = 22 then .inl (dT.1 (S.1 k (-1) - 20).toNat, (S.1 k (-2)).toNat, .inl (fun j => Int32.ofInt (h k j)))
  else if S.1 k (-1) = 25 then .inl (dT.1 5, (S.1 k (-2)).toNat, .inr (.inr (.inr (.inr (fun j => oD bs (h k j))))))
  else if S.1 k (-1) = 27 then .inl (dT.1 7, (S.1 k (-2)).toNat, .inr (.inr (.inr (.inr (fun j => if h k j = 0 then none else some (dT.2.1 (h k j)))))))
  else .inl (dT.1 (S.1 k (-1) - 20).toNat, (S.1 k (-2)).toNat, .inr (.inr (.inr (.inr (fun j => oP bs (S.1 k j))))))
def Pic (D : va_G) (dT : ZT) (bs : Nat) (h : HH) (S : SS) (H : Heap) : Prop := H.size = bs + S.2 ∧ ∀ k : Nat, k < S.2 → va_at D clX (bs + k, ent dT bs h S k) H
/-- what is known of a cell: it is there, its kind, its length -/
def KD (S : SS) (k c n : Int) : Prop := 0 ≤ k ∧ k < S.2 ∧ S.1 k (-1) = c ∧ S.1 k (-2) = n
def ck {α : Type} (i n : Int) (x : Option α) : Option α := if 0 ≤ i ∧ i < n then x else none
def ckz {α : Type} (i : Int) (x : Option α) : Option α := if i = 0 then none else x
def ckb {α : Type} (i : Int) (x : Option α) : Option α := if i = 0 ∨ i = 1 then x else none
def ckn {α : Type} (i : Int) (x : Option α) : Option α := if i < 0 then none else x
theorem ck_in {α : Type} {i n : Int} {x : Option α} {r : α} (h : ck i n x = some r) : (0 ≤ i ∧ i < n) ∧ x = some r := by
  unfold ck at h
  by_cases c : 0 ≤ i ∧ i < n
  · rw [if_pos c] at h; exact ⟨c, h⟩
  · rw [if_neg c] at h; cases h
theorem ckz_in {α : Type} {i : Int} {x : Option α} {r : α} (h : ckz i x = some r) : i ≠ 0 ∧ x = some r := by
  unfold ckz at h
  by_cases c : i = 0
  · rw [if_pos c] at h; cases h
  · rw [if_neg c] at h; exact ⟨c, h⟩
theorem ckb_in {α : Type} {i : Int} {x : Option α} {r : α} (h : ckb i x = some r) : (i = 0 ∨ i = 1) ∧ x = some r := by
  unfold ckb at h
  by_cases c : i = 0 ∨ i = 1
  · rw [if_pos c] at h; exact ⟨c, h⟩
  · rw [if_neg c] at h; cases h
theorem ckn_in {α : Type} {i : Int} {x : Option α} {r : α} (h : ckn i x = some r) : 0 ≤ i ∧ x = some r := by
  unfold ckn at h
  by_cases c : i < 0
  · rw [if_pos c] at h; cases h
  · rw [if_neg c] at h; exact ⟨by omega, h⟩
theorem bind_in {α β : Type} {f : Option α} {g : α → Option β} {r : β} (h : f.bind g = some r) : ∃ q, f = some q ∧ g q = some r := by
  cases f with
  | none => cases h
  | some q => exact ⟨q, rfl, h⟩
theorem zI_cat (z : Int) : (zI z).category = 1 := rfl
theorem zN_nn {bs : Nat} {k : Int} (h : 0 ≤ k) : zN bs k = zP bs k := by
  unfold zN oP zP
  rw [if_neg (by omega)]
  rfl
def lwb : List Cond := lw_tbl.filter goodWord
theorem zD_nn {bs : Nat} {v : Int} (h : 0 < v) : zD bs v = zP bs (v - 1) := by
  unfold zD oD zP
  rw [if_neg (by omega)]
  rfl
theorem zD_nul {bs : Nat} {v : Int} (h : v ≤ 0) : zD bs v = .null := by
  unfold zD oD
  rw [if_pos h]
  rfl
theorem lwb_in {w : Cond} (h : w ∈ lw_tbl) (g : goodWord w = true) : w ∈ lwb := List.mem_filter.mpr ⟨h, g⟩
theorem lwb_tbl {w : Cond} (h : w ∈ lwb) : w ∈ lw_tbl := (List.mem_filter.mp h).1
theorem lwb_good {w : Cond} (h : w ∈ lwb) : goodWord w = true := (List.mem_filter.mp h).2
theorem fldV_len (dT : ZT) (bs : Nat) (h : HH) (S : SS) (c : Nat) (k : Int) : (fldV dT bs h S c k).length = nF c := by simp [fldV]
theorem fldV_int {dT : ZT} {bs : Nat} {h : HH} {S : SS} {c : Nat} {k : Int} {j : Nat} (hj : j < nF c) (hr : fR c j = false) : (fldV dT bs h S c k)[j]? = some (zI (h k j)) := by
  simp [fldV, hj, hr]
theorem fldV_ref {dT : ZT} {bs : Nat} {h : HH} {S : SS} {c : Nat} {k : Int} {j : Nat} (hj : j < nF c) (hr : fR c j = true) (h13 : c ≠ 13 ∧ ¬ (c = 10 ∧ j = 11)) : (fldV dT bs h S c k)[j]? = some (zN bs (S.1 k j)) := by
  simp only [fldV, List.getElem?_map, List.getElem?_range hj, Option.map_some, hr, if_true, if_neg h13.1, if_neg h13.2]
theorem fldV_refD {dT : ZT} {bs : Nat} {h : HH} {S : SS} {k : Int} (hr : fR 10 11 = true) (hj : 11 < nF 10) : (fldV dT bs h S 10 k)[11]? = some (zD bs (h k 11)) := by
  simp [fldV, hj, hr]
theorem fldV_refE {dT : ZT} {bs : Nat} {h : HH} {S : SS} {k : Int} {j : Nat} (hj : j < nF 13) (hr : fR 13 j = true) : (fldV dT bs h S 13 k)[j]? = some (va_rf (oE dT.2.2.1 bs (h k j))) := by
  simp [fldV, hj, hr]
theorem fldV_set {dT : ZT} {bs : Nat} {h h' : HH} {S S' : SS} {c : Nat} {k : Int} {j : Nat} {v : Value} (hj : j < nF c) (hv : (fldV dT bs h' S' c k)[j]? = some v) (hh : ∀ i : Int, i ≠ j → h' k i = h k i) (hS : ∀ i : Int, i ≠ j → S'.1 k i = S.1 k i) : (fldV dT bs h S c k).set j v = fldV dT bs h' S' c k := by
  apply List.ext_getElem?
  intro i
  rw [List.getElem?_set]
  by_cases hi : j = i
  · subst hi
    rw [if_pos rfl, if_pos (by rw [fldV_len]; exact hj), hv]
  · rw [if_neg hi]
    unfold fldV
    rw [List.getElem?_map, List.getElem?_map]
    by_cases hl : i < nF c
    · rw [List.getElem?_range hl]
      simp only [Option.map_some]
      rw [hh i (by omega), hS i (by omega)]
    · rw [List.getElem?_eq_none (by simp; omega)]
      rfl
theorem ent_u2_ne {dT : ZT} {bs : Nat} {h : HH} {S : SS} {k j v a : Int} (hn : a ≠ k) : ent dT bs (u2 h k j v) S a = ent dT bs h S a := by
  simp [ent, fldV, u2, hn]
theorem ent_uS_ne {dT : ZT} {bs : Nat} {h : HH} {S : SS} {k j v a : Int} (hn : a ≠ k) : ent dT bs h (uS S k j v) a = ent dT bs h S a := by
  simp [ent, fldV, uS, u2, hn]
theorem ent_obj {dT : ZT} {bs : Nat} {h : HH} {S : SS} {k n : Int} {c : Nat} (hk : KD S k (c : Int) n) (hc : c < 20) : ent dT bs h S k = .inr (c, fldV dT bs h S c k) := by
  obtain ⟨h0, h1, h2, h3⟩ := hk
  unfold ent
  rw [h2, if_pos (by omega)]
  simp
theorem ent_arI {dT : ZT} {bs : Nat} {h : HH} {S : SS} {k n : Int} (hk : KD S k 20 n) : ent dT bs h S k = .inl (dT.1 0, n.toNat, .inl (fun j => Int32.ofInt (h k j))) := by
  obtain ⟨h0, h1, h2, h3⟩ := hk
  unfold ent
  rw [h2, h3]
  simp
theorem ent_arZ {dT : ZT} {bs : Nat} {h : HH} {S : SS} {k n : Int} (hk : KD S k 22 n) : ent dT bs h S k = .inl (dT.1 2, n.toNat, .inl (fun j => Int32.ofInt (h k j))) := by
  obtain ⟨h0, h1, h2, h3⟩ := hk
  unfold ent
  rw [h2, h3]
  simp
theorem ent_arL {dT : ZT} {bs : Nat} {h : HH} {S : SS} {k n : Int} (hk : KD S k 21 n) : ent dT bs h S k = .inl (dT.1 1, n.toNat, .inr (.inl (fun j => Int64.ofInt (h k j)))) := by
  obtain ⟨h0, h1, h2, h3⟩ := hk
  unfold ent
  rw [h2, h3]
  simp
theorem ent_arR {dT : ZT} {bs : Nat} {h : HH} {S : SS} {k n : Int} {t : Nat} (hk : KD S k (20 + (t : Int)) n) (ht : 3 ≤ t) (ht7 : t ≠ 7) (ht5 : t ≠ 5) : ent dT bs h S k = .inl (dT.1 t, n.toNat, .inr (.inr (.inr (.inr (fun j => oP bs (S.1 k j)))))) := by
  obtain ⟨h0, h1, h2, h3⟩ := hk
  unfold ent
  rw [h2, h3, if_neg (by omega), if_neg (by omega), if_neg (by omega), if_neg (by omega), if_neg (by omega)]
  rw [show ((20 : Int) + t - 20).toNat = t from by omega]
theorem ent_arD {dT : ZT} {bs : Nat} {h : HH} {S : SS} {k n : Int} (hk : KD S k 25 n) : ent dT bs h S k = .inl (dT.1 5, n.toNat, .inr (.inr (.inr (.inr (fun j => oD bs (h k j)))))) := by
  obtain ⟨h0, h1, h2, h3⟩ := hk
  unfold ent
  rw [h2, h3]
  simp
theorem Pic.at {D : va_G} {dT : ZT} {bs : Nat} {h : HH} {S : SS} {H : Heap} (hP : Pic D dT bs h S H) {k : Int} (h0 : 0 ≤ k) (h1 : k < S.2) : va_at D clX (bs + k.toNat, ent dT bs h S k) H := by
  obtain ⟨n, rfl⟩ := Int.eq_ofNat_of_zero_le h0
  have := hP.2 n (by omega)
  simpa using this
theorem Pic.set {D : va_G} {dT : ZT} {bs : Nat} {h h' : HH} {S S' : SS} {H H1 : Heap} (hP : Pic D dT bs h S H) {k : Int} (h0 : 0 ≤ k) (h1 : k < S.2) (hN : S'.2 = S.2) (hz : H1.size = H.size) (ho : ∀ q : Nat, q ≠ bs + k.toNat → H1[q]? = H[q]?) (he : ∀ a : Int, a ≠ k → ent dT bs h' S' a = ent dT bs h S a) (hk : va_at D clX (bs + k.toNat, ent dT bs h' S' k) H1) : Pic D dT bs h' S' H1 := by
  obtain ⟨n, rfl⟩ := Int.eq_ofNat_of_zero_le h0
  refine ⟨by rw [hz, hN]; exact hP.1, fun i hi => ?_⟩
  by_cases e : i = n
  · subst e
    simpa using hk
  · rw [he i (by omega)]
    exact (hP.2 i (by rw [hN] at hi; exact hi)).kept (ho _ (by simp; omega))
/-- the law's start, as it is still known: its tables, its old cells -/
def ZX (dT : ZT) (bs : Nat) (U : State) (H : Heap) : Prop := dT.2.2.2.1.WarmedH U.vm ∧ bs = dT.2.2.2.1.heap.size ∧ (∀ q : Nat, q < bs → H[q]? = dT.2.2.2.1.heap[q]?) ∧ (Jvm.Cond.and given_1 narrow_1).before #[Value.ref dT.2.2.2.2] dT.2.2.2.1 = true ∧ (∀ w ∈ lw_tbl, w.before #[Value.ref dT.2.2.2.2] dT.2.2.2.1 = true) ∧
  (Term.static "java/util/ArrayList" "DEFAULTCAPACITY_EMPTY_ELEMENTDATA" "[Ljava/lang/Object;").eval #[Value.ref dT.2.2.2.2] dT.2.2.2.1 none [] dT.2.2.2.1 = some (.ref dT.2.2.1) ∧
  (∀ j : Nat, j < 256 → (Term.elem (Term.static "java/lang/Integer$IntegerCache" "cache" "[Ljava/lang/Integer;") (.int (Int32.ofNat j))).eval #[Value.ref dT.2.2.2.2] dT.2.2.2.1 none [] dT.2.2.2.1 = some (.ref (dT.2.1 ((j : Int) - 128))))
/-- what a walk stands on -/
def Cx (D : va_G) (dT : ZT) (bs : Nat) (own : String) (cc : ByteArray) (nL : Nat) (ret : Option FieldType) (p : Program) (s : State) (m : MethodId) (args : Array Value) (meth : Method) (c : Code) : Prop :=
  p.tables.exec = Jvm.exec ∧ c.code = cc ∧ c.maxLocals = nL ∧ s.vm.findClass own = some m.cls ∧ (∀ w ∈ lwb, w.before args s = true) ∧ meth.locks = false ∧ meth.sig.returnType = ret ∧ va_K D clX (tyL dT) s ∧ bs ≤ s.heap.size ∧ ZX dT bs s s.heap
def AA (bs : Nat) : Nat → Prop := fun q => bs ≤ q
def V (D : va_G) (dT : ZT) (bs nL : Nat) (p : Program) (l : Launch) (e : Env) (R : Room) (s : State) (m : MethodId) (args : Array Value) (below : List Frame) (meth : Method) (c : Code) (cells slots : Nat) (Q : State → Prop) (h : HH) (S : SS) (pc : Nat) (L : List (Nat × Value)) (st : List Value) : Prop :=
  ∀ (H : Heap) (locs : List Loc) (ls : Array Slot), Pic D dT bs h S H → va_S (AA bs) s.heap H locs → lv_has ls nL L → W p l e R s m args below meth c H locs cells slots Q (F0 m pc ls st)
/-- behind a method: what it answers, the memory; nothing that was ahead of bs is changed -/
def QQ (D : va_G) (dT : ZT) (bs : Nat) (v : Option Value) (h' : HH) (S' : SS) : Array Value → State → Outcome → State → Prop := fun _ st oc t => oc = .returned v ∧ Pic D dT bs h' S' t.heap ∧ va_F (AA bs) st t
def PP (D : va_G) (dT : ZT) (bs : Nat) (h : HH) (S : SS) (U : State) : Prop := Pic D dT bs h S U.heap ∧ va_K D clX (tyL dT) U ∧ bs ≤ U.heap.size ∧ ZX dT bs U U.heap
/-- a method's contract: of these arguments and this memory it returns v, and leaves M' -/
def CM (y : MethodName) (cc : ByteArray) (nL : Nat) (ret : Option FieldType) (fr lo mc ms : Nat) (av : Nat → List Value) (h : HH) (S : SS) (v : Nat → Option Value) (h' : HH) (S' : SS) : Prop :=
  ∀ (l : Launch) (D : va_G) (dT : ZT) (bs : Nat), Met l y (.code y cc nL ret :: lwb) ({ frames := fr, cells := mc, slots := ms, locals := lo }) (va_Pc (av bs) (PP D dT bs h S)) (QQ D dT bs (v bs) h' S') mc ms (AA bs)
theorem CM.intro {y : MethodName} {own : String} {cc : ByteArray} {nL : Nat} {ret : Option FieldType} {fr lo mc ms : Nat} {av : Nat → List Value} {h : HH} {S : SS} {v : Nat → Option Value} {h' : HH} {S' : SS} (hy : plainName y.cls = true) (hown : y.cls = own) (hlen : ∀ bs, (lg_sl (av bs)).length ≤ nL)
    (body : ∀ (D : va_G) (dT : ZT) (bs : Nat) (p : Program) (l : Launch) (e : Env) (s : State) (m : MethodId) (args : Array Value) (below : List Frame) (meth : Method) (c : Code), Cx D dT bs own cc nL ret p s m args meth c →
      V D dT bs nL p l e ({ frames := fr, cells := mc, slots := ms, locals := lo }) s m args below meth c 0 0 (MQ below (QQ D dT bs (v bs) h' S') args s mc ms (AA bs)) h S 0 (lv_args 0 (av bs)) []) : CM y cc nL ret fr lo mc ms av h S v h' S' := by
  intro l D dT bs
  refine Met.ofW (cc := cc) (maxL := nL) (ret := ret) hy rfl ?_
  intro p e s m args below meth c s₁ B hml hv
  obtain ⟨rfl, hP, hK, hbs, hzx⟩ := hv
  have hts := atoms_spec (ws := .code y cc nL ret :: lwb) B.pre
  have hfc : s.vm.findClass own = some m.cls := by rw [← hown]; exact findClass_of_methodNamed B.named
  rw [lg_entry_eq]
  exact body D dT bs p l e s m _ below meth c ⟨B.exec, B.bytes, hml, hfc, fun w hw => hts w (List.mem_cons_of_mem _ hw), B.notSynchronized, B.returns, hK, hbs, hzx⟩ s.heap [] _ hP va_S.rf (lv_entry (av bs) (hlen bs))
def zdiv (a b : Int) : Int := (Int32.ofInt a / Int32.ofInt b).toInt
def zrem (a b : Int) : Int := (Int32.ofInt a - Int32.ofInt a / Int32.ofInt b * Int32.ofInt b).toInt
def zand (a b : Int) : Int := (Int32.ofInt a &&& Int32.ofInt b).toInt
def zor (a b : Int) : Int := (Int32.ofInt a ||| Int32.ofInt b).toInt
def zxor (a b : Int) : Int := (Int32.ofInt a ^^^ Int32.ofInt b).toInt
def zshl (a b : Int) : Int := (Int32.ofInt a <<< (Int32.ofInt b &&& 31)).toInt
def zshr (a b : Int) : Int := (Int32.ofInt a >>> (Int32.ofInt b &&& 31)).toInt
def zb8 (a : Int) : Int := (Int32.ofInt a).toInt8.toInt32.toInt
def zb16 (a : Int) : Int := (Int32.ofInt a).toInt16.toInt32.toInt
def zl2i (a : Int) : Int := (Int64.ofInt a).toInt32.toInt
def zi2l (a : Int) : Int := (Int32.ofInt a).toInt64.toInt
def zland (a b : Int) : Int := (Int64.ofInt a &&& Int64.ofInt b).toInt
def zlor (a b : Int) : Int := (Int64.ofInt a ||| Int64.ofInt b).toInt
def zlshl (a b : Int) : Int := (Int64.ofInt a <<< ((Int32.ofInt b).toInt64 &&& 63)).toInt
def zlcmp (a b : Int) : Int := if wl b < wl a then 1 else if wl a = wl b then 0 else -1
theorem zI_toInt (x : Int32) : zI x.toInt = .int x := by rw [zI, Int32.ofInt_toInt]
theorem zL_toInt (x : Int64) : zL x.toInt = .long x := by rw [zL, Int64.ofInt_toInt]
theorem ofI_ne0 {b b' : Int} (hb : ww b = b') (h : b' ≠ 0) : ¬ Int32.ofInt b = 0 := by
  intro q
  apply h
  rw [← hb, ww, q]
  rfl
theorem ww_eq {a b : Int} : Int32.ofInt a = Int32.ofInt b ↔ ww a = ww b := by
  unfold ww
  exact Int32.toInt_inj.symm
theorem ww_eq0 {a : Int} : Int32.ofInt a = 0 ↔ ww a = 0 := by
  rw [show (0 : Int32) = Int32.ofInt 0 from rfl, ww_eq]
  rfl
theorem ww_lt {a b : Int} : Int32.ofInt a < Int32.ofInt b ↔ ww a < ww b := Int32.lt_iff_toInt_lt
theorem ww_le {a b : Int} : Int32.ofInt a ≤ Int32.ofInt b ↔ ww a ≤ ww b := Int32.le_iff_toInt_le
theorem ww_lt0 {a : Int} : Int32.ofInt a < 0 ↔ ww a < 0 := by
  rw [show (0 : Int32) = Int32.ofInt 0 from rfl, ww_lt]
  rfl
theorem ww_le0 {a : Int} : Int32.ofInt a ≤ 0 ↔ ww a ≤ 0 := by
  rw [show (0 : Int32) = Int32.ofInt 0 from rfl, ww_le]
  rfl
theorem ww_0lt {a : Int} : 0 < Int32.ofInt a ↔ 0 < ww a := by
  rw [show (0 : Int32) = Int32.ofInt 0 from rfl, ww_lt]
  rfl
theorem ww_0le {a : Int} : 0 ≤ Int32.ofInt a ↔ 0 ≤ ww a := by
  rw [show (0 : Int32) = Int32.ofInt 0 from rfl, ww_le]
  rfl
theorem wl_eq {a b : Int} : Int64.ofInt a = Int64.ofInt b ↔ wl a = wl b := by
  unfold wl
  exact Int64.toInt_inj.symm
theorem wl_lt {a b : Int} : Int64.ofInt a < Int64.ofInt b ↔ wl a < wl b := Int64.lt_iff_toInt_lt

section ZR
variable {D : va_G} {dT : ZT} {bs nL : Nat} {own : String} {cc : ByteArray} {ret : Option FieldType} {p : Program} {l : Launch} {e : Env} {R : Room} {s : State} {m : MethodId} {args : Array Value} {below : List Frame} {meth : Method} {c : Code} {cells slots : Nat} {Q : State → Prop} {h : HH} {S : SS} {pc pc' tgt : Nat} {L L' : List (Nat × Value)} {st : List Value}

theorem r_iconst (C : Cx D dT bs own cc nL ret p s m args meth c) {n : Int} (hd : decode cc pc = .ok (.iconst n, 1)) (hp : pc + 1 = pc') (k : V D dT bs nL p l e R s m args below meth c cells slots Q h S pc' L (zI n :: st)) : V D dT bs nL p l e R s m args below meth c cells slots Q h S pc L st := by
  intro H locs ls hP hS hl
  subst hp
  exact lv_iconst C.1 C.2.1 hd rfl (k H locs ls hP hS hl)
theorem r_bipush (C : Cx D dT bs own cc nL ret p s m args meth c) {n : Int} (hv : (Int8.ofInt n).toInt32 = Int32.ofInt n) (hd : decode cc pc = .ok (.bipush n, 2)) (hp : pc + 2 = pc') (k : V D dT bs nL p l e R s m args below meth c cells slots Q h S pc' L (zI n :: st)) : V D dT bs nL p l e R s m args below meth c cells slots Q h S pc L st := by
  intro H locs ls hP hS hl
  subst hp
  exact lv_bipush C.1 C.2.1 hd hv (k H locs ls hP hS hl)
theorem r_sipush (C : Cx D dT bs own cc nL ret p s m args meth c) {n : Int} (hv : (Int16.ofInt n).toInt32 = Int32.ofInt n) (hd : decode cc pc = .ok (.sipush n, 3)) (hp : pc + 3 = pc') (k : V D dT bs nL p l e R s m args below meth c cells slots Q h S pc' L (zI n :: st)) : V D dT bs nL p l e R s m args below meth c cells slots Q h S pc L st := by
  intro H locs ls hP hS hl
  subst hp
  exact lv_sipush C.1 C.2.1 hd hv (k H locs ls hP hS hl)
theorem r_ldc (C : Cx D dT bs own cc nL ret p s m args meth c) {ix : Nat} {n : Int} (hw : Jvm.Cond.constant own ix (Int32.ofInt n) ∈ lwb) (hd : decode cc pc = .ok (.ldc ix, 2)) (hp : pc + 2 = pc') (k : V D dT bs nL p l e R s m args below meth c cells slots Q h S pc' L (zI n :: st)) : V D dT bs nL p l e R s m args below meth c cells slots Q h S pc L st := by
  intro H locs ls hP hS hl
  subst hp
  exact lv_ldc C.1 C.2.1 C.2.2.2.1 (C.2.2.2.2.1 _ hw) hd (k H locs ls hP hS hl)
theorem r_ldcw (C : Cx D dT bs own cc nL ret p s m args meth c) {ix : Nat} {n : Int} (hw : Jvm.Cond.constant own ix (Int32.ofInt n) ∈ lwb) (hd : decode cc pc = .ok (.ldc_w ix, 3)) (hp : pc + 3 = pc') (k : V D dT bs nL p l e R s m args below meth c cells slots Q h S pc' L (zI n :: st)) : V D dT bs nL p l e R s m args below meth c cells slots Q h S pc L st := by
  intro H locs ls hP hS hl
  subst hp
  exact lv_ldcw C.1 C.2.1 C.2.2.2.1 (C.2.2.2.2.1 _ hw) hd (k H locs ls hP hS hl)
theorem r_ldc2 (C : Cx D dT bs own cc nL ret p s m args meth c) {ix : Nat} {n : Int} (hw : Jvm.Cond.constantLong own ix (Int64.ofInt n) ∈ lwb) (hd : decode cc pc = .ok (.ldc2_w ix, 3)) (hp : pc + 3 = pc') (k : V D dT bs nL p l e R s m args below meth c cells slots Q h S pc' L (zL n :: st)) : V D dT bs nL p l e R s m args below meth c cells slots Q h S pc L st := by
  intro H locs ls hP hS hl
  subst hp
  exact lv_ldc2 C.1 C.2.1 C.2.2.2.1 (C.2.2.2.2.1 _ hw) hd (k H locs ls hP hS hl)
theorem r_lconst (C : Cx D dT bs own cc nL ret p s m args meth c) {n : Fin 2} {z : Int} (hz : Int64.ofNat (n : Nat) = Int64.ofInt z) (hd : decode cc pc = .ok (.lconst n, 1)) (hp : pc + 1 = pc') (k : V D dT bs nL p l e R s m args below meth c cells slots Q h S pc' L (zL z :: st)) : V D dT bs nL p l e R s m args below meth c cells slots Q h S pc L st := by
  intro H locs ls hP hS hl
  subst hp
  exact lv_lconst C.1 C.2.1 hd hz (k H locs ls hP hS hl)
theorem r_iload_n (C : Cx D dT bs own cc nL ret p s m args meth c) {f4 : Fin 4} {i : Nat} {a : Int} (q : Nat) (hi : (f4 : Nat) = i) (hq : L[q]? = some (i, zI a)) (hd : decode cc pc = .ok (.iload_n f4, 1)) (hp : pc + 1 = pc') (k : V D dT bs nL p l e R s m args below meth c cells slots Q h S pc' L (zI a :: st)) : V D dT bs nL p l e R s m args below meth c cells slots Q h S pc L st := by
  intro H locs ls hP hS hl
  subst hp
  exact lv_iload_n C.1 C.2.1 hd hi (lv_at hl q hq) (k H locs ls hP hS hl)
theorem r_iload (C : Cx D dT bs own cc nL ret p s m args meth c) {i : Nat} {a : Int} (q : Nat) (hq : L[q]? = some (i, zI a)) (hd : decode cc pc = .ok (.iload i, 2)) (hp : pc + 2 = pc') (k : V D dT bs nL p l e R s m args below meth c cells slots Q h S pc' L (zI a :: st)) : V D dT bs nL p l e R s m args below meth c cells slots Q h S pc L st := by
  intro H locs ls hP hS hl
  subst hp
  exact lv_iload C.1 C.2.1 hd (lv_at hl q hq) (k H locs ls hP hS hl)
theorem r_lload_n (C : Cx D dT bs own cc nL ret p s m args meth c) {f4 : Fin 4} {i : Nat} {a : Int} (q : Nat) (hi : (f4 : Nat) = i) (hq : L[q]? = some (i, zL a)) (hd : decode cc pc = .ok (.lload_n f4, 1)) (hp : pc + 1 = pc') (k : V D dT bs nL p l e R s m args below meth c cells slots Q h S pc' L (zL a :: st)) : V D dT bs nL p l e R s m args below meth c cells slots Q h S pc L st := by
  intro H locs ls hP hS hl
  subst hp
  exact lv_lload_n C.1 C.2.1 hd hi (lv_at hl q hq) (k H locs ls hP hS hl)
theorem r_lload (C : Cx D dT bs own cc nL ret p s m args meth c) {i : Nat} {a : Int} (q : Nat) (hq : L[q]? = some (i, zL a)) (hd : decode cc pc = .ok (.lload i, 2)) (hp : pc + 2 = pc') (k : V D dT bs nL p l e R s m args below meth c cells slots Q h S pc' L (zL a :: st)) : V D dT bs nL p l e R s m args below meth c cells slots Q h S pc L st := by
  intro H locs ls hP hS hl
  subst hp
  exact lv_lload C.1 C.2.1 hd (lv_at hl q hq) (k H locs ls hP hS hl)
theorem r_aload_n (C : Cx D dT bs own cc nL ret p s m args meth c) {f4 : Fin 4} {i : Nat} {a : Int} (q : Nat) (hi : (f4 : Nat) = i) (hq : L[q]? = some (i, zP bs a)) (hd : decode cc pc = .ok (.aload_n f4, 1)) (hp : pc + 1 = pc') (k : V D dT bs nL p l e R s m args below meth c cells slots Q h S pc' L (zP bs a :: st)) : V D dT bs nL p l e R s m args below meth c cells slots Q h S pc L st := by
  intro H locs ls hP hS hl
  subst hp
  exact lv_aload_n C.1 C.2.1 hd hi (lv_at hl q hq) (k H locs ls hP hS hl)
theorem r_aload (C : Cx D dT bs own cc nL ret p s m args meth c) {i : Nat} {a : Int} (q : Nat) (hq : L[q]? = some (i, zP bs a)) (hd : decode cc pc = .ok (.aload i, 2)) (hp : pc + 2 = pc') (k : V D dT bs nL p l e R s m args below meth c cells slots Q h S pc' L (zP bs a :: st)) : V D dT bs nL p l e R s m args below meth c cells slots Q h S pc L st := by
  intro H locs ls hP hS hl
  subst hp
  exact lv_aload C.1 C.2.1 hd (lv_at hl q hq) (k H locs ls hP hS hl)
theorem r_aloadO_n (C : Cx D dT bs own cc nL ret p s m args meth c) {f4 : Fin 4} {i : Nat} {a : Nat} (q : Nat) (hi : (f4 : Nat) = i) (hq : L[q]? = some (i, .ref a)) (hd : decode cc pc = .ok (.aload_n f4, 1)) (hp : pc + 1 = pc') (k : V D dT bs nL p l e R s m args below meth c cells slots Q h S pc' L (.ref a :: st)) : V D dT bs nL p l e R s m args below meth c cells slots Q h S pc L st := by
  intro H locs ls hP hS hl
  subst hp
  exact lv_aload_n C.1 C.2.1 hd hi (lv_at hl q hq) (k H locs ls hP hS hl)
theorem r_istore_n (C : Cx D dT bs own cc nL ret p s m args meth c) {f4 : Fin 4} {i : Nat} {a : Int} (hi : (f4 : Nat) = i) (hn : i < nL) (hL : (i, zI a) :: L.filter (fun q => !(q.1 == i) && !(q.1 + 1 == i && q.2.category == 2)) = L') (hd : decode cc pc = .ok (.istore_n f4, 1)) (hp : pc + 1 = pc') (k : V D dT bs nL p l e R s m args below meth c cells slots Q h S pc' L' st) : V D dT bs nL p l e R s m args below meth c cells slots Q h S pc L (zI a :: st) := by
  intro H locs ls hP hS hl
  subst hp
  exact lv_istore_n C.1 C.2.1 hd hi hl hn hL (fun ls1 hl1 => k H locs ls1 hP hS hl1)
theorem r_istore (C : Cx D dT bs own cc nL ret p s m args meth c) {i : Nat} {a : Int} (hn : i < nL) (hL : (i, zI a) :: L.filter (fun q => !(q.1 == i) && !(q.1 + 1 == i && q.2.category == 2)) = L') (hd : decode cc pc = .ok (.istore i, 2)) (hp : pc + 2 = pc') (k : V D dT bs nL p l e R s m args below meth c cells slots Q h S pc' L' st) : V D dT bs nL p l e R s m args below meth c cells slots Q h S pc L (zI a :: st) := by
  intro H locs ls hP hS hl
  subst hp
  exact lv_istore C.1 C.2.1 hd hl hn hL (fun ls1 hl1 => k H locs ls1 hP hS hl1)
theorem r_astore_n (C : Cx D dT bs own cc nL ret p s m args meth c) {f4 : Fin 4} {i : Nat} {a : Int} (hi : (f4 : Nat) = i) (hn : i < nL) (hL : (i, zP bs a) :: L.filter (fun q => !(q.1 == i) && !(q.1 + 1 == i && q.2.category == 2)) = L') (hd : decode cc pc = .ok (.astore_n f4, 1)) (hp : pc + 1 = pc') (k : V D dT bs nL p l e R s m args below meth c cells slots Q h S pc' L' st) : V D dT bs nL p l e R s m args below meth c cells slots Q h S pc L (zP bs a :: st) := by
  intro H locs ls hP hS hl
  subst hp
  exact lv_astore_n C.1 C.2.1 hd hi hl hn hL (fun ls1 hl1 => k H locs ls1 hP hS hl1)
theorem r_astore (C : Cx D dT bs own cc nL ret p s m args meth c) {i : Nat} {a : Int} (hn : i < nL) (hL : (i, zP bs a) :: L.filter (fun q => !(q.1 == i) && !(q.1 + 1 == i && q.2.category == 2)) = L') (hd : decode cc pc = .ok (.astore i, 2)) (hp : pc + 2 = pc') (k : V D dT bs nL p l e R s m args below meth c cells slots Q h S pc' L' st) : V D dT bs nL p l e R s m args below meth c cells slots Q h S pc L (zP bs a :: st) := by
  intro H locs ls hP hS hl
  subst hp
  exact lv_astore C.1 C.2.1 hd hl hn hL (fun ls1 hl1 => k H locs ls1 hP hS hl1)
theorem r_lstore_n (C : Cx D dT bs own cc nL ret p s m args meth c) {f4 : Fin 4} {i : Nat} {a : Int} (hi : (f4 : Nat) = i) (hn : i + 1 < nL) (hL : (i, zL a) :: L.filter (fun q => !(q.1 == i) && (!(q.1 == i + 1) && !(q.1 + 1 == i && q.2.category == 2))) = L') (hd : decode cc pc = .ok (.lstore_n f4, 1)) (hp : pc + 1 = pc') (k : V D dT bs nL p l e R s m args below meth c cells slots Q h S pc' L' st) : V D dT bs nL p l e R s m args below meth c cells slots Q h S pc L (zL a :: st) := by
  intro H locs ls hP hS hl
  subst hp
  exact lv_lstore_n C.1 C.2.1 hd hi hl hn hL (fun ls1 hl1 => k H locs ls1 hP hS hl1)
theorem r_lstore (C : Cx D dT bs own cc nL ret p s m args meth c) {i : Nat} {a : Int} (hn : i + 1 < nL) (hL : (i, zL a) :: L.filter (fun q => !(q.1 == i) && (!(q.1 == i + 1) && !(q.1 + 1 == i && q.2.category == 2))) = L') (hd : decode cc pc = .ok (.lstore i, 2)) (hp : pc + 2 = pc') (k : V D dT bs nL p l e R s m args below meth c cells slots Q h S pc' L' st) : V D dT bs nL p l e R s m args below meth c cells slots Q h S pc L (zL a :: st) := by
  intro H locs ls hP hS hl
  subst hp
  exact lv_lstore C.1 C.2.1 hd hl hn hL (fun ls1 hl1 => k H locs ls1 hP hS hl1)
theorem r_iinc (C : Cx D dT bs own cc nL ret p s m args meth c) {i : Nat} {n a : Int} (q : Nat) (hq : L[q]? = some (i, zI a)) (hn : i < nL) (hL : (i, zI (a + n)) :: L.filter (fun q => !(q.1 == i) && !(q.1 + 1 == i && q.2.category == 2)) = L') (hd : decode cc pc = .ok (.iinc i n, 3)) (hp : pc + 3 = pc') (k : V D dT bs nL p l e R s m args below meth c cells slots Q h S pc' L' st) : V D dT bs nL p l e R s m args below meth c cells slots Q h S pc L st := by
  intro H locs ls hP hS hl
  subst hp
  exact lv_iinc C.1 C.2.1 hd hl hq (v := Int32.ofInt (a + n)) (by rw [Int32.ofInt_add]) hn hL (fun ls1 hl1 => k H locs ls1 hP hS hl1)
theorem r_pop (C : Cx D dT bs own cc nL ret p s m args meth c) {v : Value} (hc : v.category = 1) (hd : decode cc pc = .ok (.pop, 1)) (hp : pc + 1 = pc') (k : V D dT bs nL p l e R s m args below meth c cells slots Q h S pc' L st) : V D dT bs nL p l e R s m args below meth c cells slots Q h S pc L (v :: st) := by
  intro H locs ls hP hS hl
  subst hp
  exact lv_pop C.1 C.2.1 hd hc (k H locs ls hP hS hl)
theorem r_dup (C : Cx D dT bs own cc nL ret p s m args meth c) {v : Value} (hc : v.category = 1) (hd : decode cc pc = .ok (.dup, 1)) (hp : pc + 1 = pc') (k : V D dT bs nL p l e R s m args below meth c cells slots Q h S pc' L (v :: v :: st)) : V D dT bs nL p l e R s m args below meth c cells slots Q h S pc L (v :: st) := by
  intro H locs ls hP hS hl
  subst hp
  exact lv_dup C.1 C.2.1 hd hc (k H locs ls hP hS hl)
theorem r_dup2 (C : Cx D dT bs own cc nL ret p s m args meth c) {v w : Value} (hc : v.category = 1) (hc2 : w.category = 1) (hd : decode cc pc = .ok (.dup2, 1)) (hp : pc + 1 = pc') (k : V D dT bs nL p l e R s m args below meth c cells slots Q h S pc' L (v :: w :: v :: w :: st)) : V D dT bs nL p l e R s m args below meth c cells slots Q h S pc L (v :: w :: st) := by
  intro H locs ls hP hS hl
  subst hp
  exact lv_dup2_11 C.1 C.2.1 hd hc hc2 (k H locs ls hP hS hl)
theorem r_iadd (C : Cx D dT bs own cc nL ret p s m args meth c) {a b : Int} (hd : decode cc pc = .ok (.iadd, 1)) (hp : pc + 1 = pc') (k : V D dT bs nL p l e R s m args below meth c cells slots Q h S pc' L (zI (a + b) :: st)) : V D dT bs nL p l e R s m args below meth c cells slots Q h S pc L (zI b :: zI a :: st) := by
  intro H locs ls hP hS hl
  subst hp
  have k := k H locs ls hP hS hl
  rw [zI, Int32.ofInt_add] at k
  exact lv_iadd C.1 C.2.1 hd k
theorem r_isub (C : Cx D dT bs own cc nL ret p s m args meth c) {a b : Int} (hd : decode cc pc = .ok (.isub, 1)) (hp : pc + 1 = pc') (k : V D dT bs nL p l e R s m args below meth c cells slots Q h S pc' L (zI (a - b) :: st)) : V D dT bs nL p l e R s m args below meth c cells slots Q h S pc L (zI b :: zI a :: st) := by
  intro H locs ls hP hS hl
  subst hp
  have k := k H locs ls hP hS hl
  rw [zI, Int32.ofInt_sub] at k
  exact lv_isub C.1 C.2.1 hd k
theorem r_imul (C : Cx D dT bs own cc nL ret p s m args meth c) {a b : Int} (hd : decode cc pc = .ok (.imul, 1)) (hp : pc + 1 = pc') (k : V D dT bs nL p l e R s m args below meth c cells slots Q h S pc' L (zI (a * b) :: st)) : V D dT bs nL p l e R s m args below meth c cells slots Q h S pc L (zI b :: zI a :: st) := by
  intro H locs ls hP hS hl
  subst hp
  have k := k H locs ls hP hS hl
  rw [zI, Int32.ofInt_mul] at k
  exact lv_imul C.1 C.2.1 hd k
theorem r_idiv (C : Cx D dT bs own cc nL ret p s m args meth c) {a b : Int} {b' : Int} (hb : ww b = b') (h0 : b' ≠ 0) (hd : decode cc pc = .ok (.idiv, 1)) (hp : pc + 1 = pc') (k : V D dT bs nL p l e R s m args below meth c cells slots Q h S pc' L (zI (zdiv a b) :: st)) : V D dT bs nL p l e R s m args below meth c cells slots Q h S pc L (zI b :: zI a :: st) := by
  intro H locs ls hP hS hl
  subst hp
  have k := k H locs ls hP hS hl
  rw [zdiv, zI_toInt] at k
  exact lv_idiv C.1 C.2.1 hd (ofI_ne0 hb h0) k
theorem r_irem (C : Cx D dT bs own cc nL ret p s m args meth c) {a b : Int} {b' : Int} (hb : ww b = b') (h0 : b' ≠ 0) (hd : decode cc pc = .ok (.irem, 1)) (hp : pc + 1 = pc') (k : V D dT bs nL p l e R s m args below meth c cells slots Q h S pc' L (zI (zrem a b) :: st)) : V D dT bs nL p l e R s m args below meth c cells slots Q h S pc L (zI b :: zI a :: st) := by
  intro H locs ls hP hS hl
  subst hp
  have k := k H locs ls hP hS hl
  rw [zrem, zI_toInt] at k
  exact lv_irem C.1 C.2.1 hd (ofI_ne0 hb h0) k
theorem r_iand (C : Cx D dT bs own cc nL ret p s m args meth c) {a b : Int} (hd : decode cc pc = .ok (.iand, 1)) (hp : pc + 1 = pc') (k : V D dT bs nL p l e R s m args below meth c cells slots Q h S pc' L (zI (zand a b) :: st)) : V D dT bs nL p l e R s m args below meth c cells slots Q h S pc L (zI b :: zI a :: st) := by
  intro H locs ls hP hS hl
  subst hp
  have k := k H locs ls hP hS hl
  rw [zand, zI_toInt] at k
  exact lv_iand C.1 C.2.1 hd k
theorem r_ior (C : Cx D dT bs own cc nL ret p s m args meth c) {a b : Int} (hd : decode cc pc = .ok (.ior, 1)) (hp : pc + 1 = pc') (k : V D dT bs nL p l e R s m args below meth c cells slots Q h S pc' L (zI (zor a b) :: st)) : V D dT bs nL p l e R s m args below meth c cells slots Q h S pc L (zI b :: zI a :: st) := by
  intro H locs ls hP hS hl
  subst hp
  have k := k H locs ls hP hS hl
  rw [zor, zI_toInt] at k
  exact lv_ior C.1 C.2.1 hd k
theorem r_ixor (C : Cx D dT bs own cc nL ret p s m args meth c) {a b : Int} (hd : decode cc pc = .ok (.ixor, 1)) (hp : pc + 1 = pc') (k : V D dT bs nL p l e R s m args below meth c cells slots Q h S pc' L (zI (zxor a b) :: st)) : V D dT bs nL p l e R s m args below meth c cells slots Q h S pc L (zI b :: zI a :: st) := by
  intro H locs ls hP hS hl
  subst hp
  have k := k H locs ls hP hS hl
  rw [zxor, zI_toInt] at k
  exact lv_ixor C.1 C.2.1 hd k
theorem r_ishl (C : Cx D dT bs own cc nL ret p s m args meth c) {a b : Int} (hd : decode cc pc = .ok (.ishl, 1)) (hp : pc + 1 = pc') (k : V D dT bs nL p l e R s m args below meth c cells slots Q h S pc' L (zI (zshl a b) :: st)) : V D dT bs nL p l e R s m args below meth c cells slots Q h S pc L (zI b :: zI a :: st) := by
  intro H locs ls hP hS hl
  subst hp
  have k := k H locs ls hP hS hl
  rw [zshl, zI_toInt] at k
  exact lv_ishl C.1 C.2.1 hd k
theorem r_ishr (C : Cx D dT bs own cc nL ret p s m args meth c) {a b : Int} (hd : decode cc pc = .ok (.ishr, 1)) (hp : pc + 1 = pc') (k : V D dT bs nL p l e R s m args below meth c cells slots Q h S pc' L (zI (zshr a b) :: st)) : V D dT bs nL p l e R s m args below meth c cells slots Q h S pc L (zI b :: zI a :: st) := by
  intro H locs ls hP hS hl
  subst hp
  have k := k H locs ls hP hS hl
  rw [zshr, zI_toInt] at k
  exact lv_ishr C.1 C.2.1 hd k
theorem r_ineg (C : Cx D dT bs own cc nL ret p s m args meth c) {a : Int} (hd : decode cc pc = .ok (.ineg, 1)) (hp : pc + 1 = pc') (k : V D dT bs nL p l e R s m args below meth c cells slots Q h S pc' L (zI (-a) :: st)) : V D dT bs nL p l e R s m args below meth c cells slots Q h S pc L (zI a :: st) := by
  intro H locs ls hP hS hl
  subst hp
  have k := k H locs ls hP hS hl
  rw [zI, Int32.ofInt_neg] at k
  exact lv_ineg C.1 C.2.1 hd k
theorem r_i2b (C : Cx D dT bs own cc nL ret p s m args meth c) {a : Int} (hd : decode cc pc = .ok (.i2b, 1)) (hp : pc + 1 = pc') (k : V D dT bs nL p l e R s m args below meth c cells slots Q h S pc' L (zI (zb8 a) :: st)) : V D dT bs nL p l e R s m args below meth c cells slots Q h S pc L (zI a :: st) := by
  intro H locs ls hP hS hl
  subst hp
  have k := k H locs ls hP hS hl
  rw [zb8, zI_toInt] at k
  exact lv_i2b C.1 C.2.1 hd rfl k
theorem r_i2s (C : Cx D dT bs own cc nL ret p s m args meth c) {a : Int} (hd : decode cc pc = .ok (.i2s, 1)) (hp : pc + 1 = pc') (k : V D dT bs nL p l e R s m args below meth c cells slots Q h S pc' L (zI (zb16 a) :: st)) : V D dT bs nL p l e R s m args below meth c cells slots Q h S pc L (zI a :: st) := by
  intro H locs ls hP hS hl
  subst hp
  have k := k H locs ls hP hS hl
  rw [zb16, zI_toInt] at k
  exact lv_i2s C.1 C.2.1 hd rfl k
theorem r_l2i (C : Cx D dT bs own cc nL ret p s m args meth c) {a : Int} (hd : decode cc pc = .ok (.l2i, 1)) (hp : pc + 1 = pc') (k : V D dT bs nL p l e R s m args below meth c cells slots Q h S pc' L (zI (zl2i a) :: st)) : V D dT bs nL p l e R s m args below meth c cells slots Q h S pc L (zL a :: st) := by
  intro H locs ls hP hS hl
  subst hp
  have k := k H locs ls hP hS hl
  rw [zl2i, zI_toInt] at k
  exact lv_l2i C.1 C.2.1 hd rfl k
theorem r_i2l (C : Cx D dT bs own cc nL ret p s m args meth c) {a : Int} (hd : decode cc pc = .ok (.i2l, 1)) (hp : pc + 1 = pc') (k : V D dT bs nL p l e R s m args below meth c cells slots Q h S pc' L (zL (zi2l a) :: st)) : V D dT bs nL p l e R s m args below meth c cells slots Q h S pc L (zI a :: st) := by
  intro H locs ls hP hS hl
  subst hp
  have k := k H locs ls hP hS hl
  rw [zi2l, zL_toInt] at k
  exact lv_i2l C.1 C.2.1 hd rfl k
theorem r_land (C : Cx D dT bs own cc nL ret p s m args meth c) {a b : Int} (hd : decode cc pc = .ok (.land, 1)) (hp : pc + 1 = pc') (k : V D dT bs nL p l e R s m args below meth c cells slots Q h S pc' L (zL (zland a b) :: st)) : V D dT bs nL p l e R s m args below meth c cells slots Q h S pc L (zL b :: zL a :: st) := by
  intro H locs ls hP hS hl
  subst hp
  have k := k H locs ls hP hS hl
  rw [zland, zL_toInt] at k
  exact lv_land C.1 C.2.1 hd k
theorem r_lor (C : Cx D dT bs own cc nL ret p s m args meth c) {a b : Int} (hd : decode cc pc = .ok (.lor, 1)) (hp : pc + 1 = pc') (k : V D dT bs nL p l e R s m args below meth c cells slots Q h S pc' L (zL (zlor a b) :: st)) : V D dT bs nL p l e R s m args below meth c cells slots Q h S pc L (zL b :: zL a :: st) := by
  intro H locs ls hP hS hl
  subst hp
  have k := k H locs ls hP hS hl
  rw [zlor, zL_toInt] at k
  exact lv_lor C.1 C.2.1 hd k
theorem r_lshl (C : Cx D dT bs own cc nL ret p s m args meth c) {a b : Int} (hd : decode cc pc = .ok (.lshl, 1)) (hp : pc + 1 = pc') (k : V D dT bs nL p l e R s m args below meth c cells slots Q h S pc' L (zL (zlshl a b) :: st)) : V D dT bs nL p l e R s m args below meth c cells slots Q h S pc L (zI b :: zL a :: st) := by
  intro H locs ls hP hS hl
  subst hp
  have k := k H locs ls hP hS hl
  rw [zlshl, zL_toInt] at k
  exact lv_lshl C.1 C.2.1 hd rfl k
theorem r_lcmp (C : Cx D dT bs own cc nL ret p s m args meth c) {a b : Int} (hd : decode cc pc = .ok (.lcmp, 1)) (hp : pc + 1 = pc') (k : V D dT bs nL p l e R s m args below meth c cells slots Q h S pc' L (zI (zlcmp a b) :: st)) : V D dT bs nL p l e R s m args below meth c cells slots Q h S pc L (zL b :: zL a :: st) := by
  intro H locs ls hP hS hl
  subst hp
  have k := k H locs ls hP hS hl
  have hz : zI (zlcmp a b) = .int (lg_cmp (Int64.ofInt a) (Int64.ofInt b)) := by
    unfold zlcmp lg_cmp
    by_cases h1 : wl b < wl a
    · rw [if_pos h1, if_pos (wl_lt.mpr h1)]; rfl
    · rw [if_neg h1, if_neg (fun q => h1 (wl_lt.mp q))]
      by_cases h2 : wl a = wl b
      · rw [if_pos h2, if_pos (wl_eq.mpr h2)]; rfl
      · rw [if_neg h2, if_neg (fun q => h2 (wl_eq.mp q))]; rfl
  rw [hz] at k
  exact W.lcmp C.1 C.2.1 hd k
theorem r_goto (C : Cx D dT bs own cc nL ret p s m args meth c) {off : Int} (hd : decode cc pc = .ok (.goto off, 3)) (ht : (pc : Int) + off = (tgt : Int)) (k : V D dT bs nL p l e R s m args below meth c cells slots Q h S tgt L st) : V D dT bs nL p l e R s m args below meth c cells slots Q h S pc L st := by
  intro H locs ls hP hS hl
  exact lv_goto C.1 C.2.1 hd ht (k H locs ls hP hS hl)
theorem r_icmp_lt (C : Cx D dT bs own cc nL ret p s m args meth c) {α : Type} {E1 E2 res : α} {off : Int} {a b a' b' : Int} (ha : ww a = a') (hb : ww b = b') (hf : (if a' < b' then E1 else E2) = res) (hd : decode cc pc = .ok (.if_icmp .lt off, 3)) (ht : (pc : Int) + off = (tgt : Int)) (hp : pc + 3 = pc') (k1 : E1 = res → V D dT bs nL p l e R s m args below meth c cells slots Q h S tgt L st) (k2 : E2 = res → V D dT bs nL p l e R s m args below meth c cells slots Q h S pc' L st) : V D dT bs nL p l e R s m args below meth c cells slots Q h S pc L (zI b :: zI a :: st) := by
  intro H locs ls hP hS hl
  subst hp
  subst ha
  subst hb
  exact lv_icmp_lt C.1 C.2.1 hd ht (fun hq => k1 (by rw [if_pos (ww_lt.mp hq)] at hf; exact hf) H locs ls hP hS hl) (fun hq => k2 (by rw [if_neg (fun q => hq (ww_lt.mpr q))] at hf; exact hf) H locs ls hP hS hl)
theorem r_icmp_ge (C : Cx D dT bs own cc nL ret p s m args meth c) {α : Type} {E1 E2 res : α} {off : Int} {a b a' b' : Int} (ha : ww a = a') (hb : ww b = b') (hf : (if a' < b' then E1 else E2) = res) (hd : decode cc pc = .ok (.if_icmp .ge off, 3)) (ht : (pc : Int) + off = (tgt : Int)) (hp : pc + 3 = pc') (k1 : E1 = res → V D dT bs nL p l e R s m args below meth c cells slots Q h S pc' L st) (k2 : E2 = res → V D dT bs nL p l e R s m args below meth c cells slots Q h S tgt L st) : V D dT bs nL p l e R s m args below meth c cells slots Q h S pc L (zI b :: zI a :: st) := by
  intro H locs ls hP hS hl
  subst hp
  subst ha
  subst hb
  exact lv_icmp_ge C.1 C.2.1 hd ht (fun hq => k2 (by rw [if_neg (by have := ww_le.mp hq; omega)] at hf; exact hf) H locs ls hP hS hl) (fun hq => k1 (by rw [if_pos (Int.not_le.mp (fun q => hq (ww_le.mpr q)))] at hf; exact hf) H locs ls hP hS hl)
theorem r_icmp_gt (C : Cx D dT bs own cc nL ret p s m args meth c) {α : Type} {E1 E2 res : α} {off : Int} {a b a' b' : Int} (ha : ww a = a') (hb : ww b = b') (hf : (if b' < a' then E1 else E2) = res) (hd : decode cc pc = .ok (.if_icmp .gt off, 3)) (ht : (pc : Int) + off = (tgt : Int)) (hp : pc + 3 = pc') (k1 : E1 = res → V D dT bs nL p l e R s m args below meth c cells slots Q h S tgt L st) (k2 : E2 = res → V D dT bs nL p l e R s m args below meth c cells slots Q h S pc' L st) : V D dT bs nL p l e R s m args below meth c cells slots Q h S pc L (zI b :: zI a :: st) := by
  intro H locs ls hP hS hl
  subst hp
  subst ha
  subst hb
  exact lv_icmp_gt C.1 C.2.1 hd ht (fun hq => k1 (by rw [if_pos (ww_lt.mp hq)] at hf; exact hf) H locs ls hP hS hl) (fun hq => k2 (by rw [if_neg (fun q => hq (ww_lt.mpr q))] at hf; exact hf) H locs ls hP hS hl)
theorem r_icmp_le (C : Cx D dT bs own cc nL ret p s m args meth c) {α : Type} {E1 E2 res : α} {off : Int} {a b a' b' : Int} (ha : ww a = a') (hb : ww b = b') (hf : (if b' < a' then E1 else E2) = res) (hd : decode cc pc = .ok (.if_icmp .le off, 3)) (ht : (pc : Int) + off = (tgt : Int)) (hp : pc + 3 = pc') (k1 : E1 = res → V D dT bs nL p l e R s m args below meth c cells slots Q h S pc' L st) (k2 : E2 = res → V D dT bs nL p l e R s m args below meth c cells slots Q h S tgt L st) : V D dT bs nL p l e R s m args below meth c cells slots Q h S pc L (zI b :: zI a :: st) := by
  intro H locs ls hP hS hl
  subst hp
  subst ha
  subst hb
  exact lv_icmp_le C.1 C.2.1 hd ht (fun hq => k2 (by rw [if_neg (by have := ww_le.mp hq; omega)] at hf; exact hf) H locs ls hP hS hl) (fun hq => k1 (by rw [if_pos (Int.not_le.mp (fun q => hq (ww_le.mpr q)))] at hf; exact hf) H locs ls hP hS hl)
theorem r_icmp_eq (C : Cx D dT bs own cc nL ret p s m args meth c) {α : Type} {E1 E2 res : α} {off : Int} {a b a' b' : Int} (ha : ww a = a') (hb : ww b = b') (hf : (if a' = b' then E1 else E2) = res) (hd : decode cc pc = .ok (.if_icmp .eq off, 3)) (ht : (pc : Int) + off = (tgt : Int)) (hp : pc + 3 = pc') (k1 : E1 = res → V D dT bs nL p l e R s m args below meth c cells slots Q h S tgt L st) (k2 : E2 = res → V D dT bs nL p l e R s m args below meth c cells slots Q h S pc' L st) : V D dT bs nL p l e R s m args below meth c cells slots Q h S pc L (zI b :: zI a :: st) := by
  intro H locs ls hP hS hl
  subst hp
  subst ha
  subst hb
  exact lv_icmp_eq C.1 C.2.1 hd ht (fun hq => k1 (by rw [if_pos (ww_eq.mp hq)] at hf; exact hf) H locs ls hP hS hl) (fun hq => k2 (by rw [if_neg (fun q => hq (ww_eq.mpr q))] at hf; exact hf) H locs ls hP hS hl)
theorem r_icmp_ne (C : Cx D dT bs own cc nL ret p s m args meth c) {α : Type} {E1 E2 res : α} {off : Int} {a b a' b' : Int} (ha : ww a = a') (hb : ww b = b') (hf : (if a' = b' then E1 else E2) = res) (hd : decode cc pc = .ok (.if_icmp .ne off, 3)) (ht : (pc : Int) + off = (tgt : Int)) (hp : pc + 3 = pc') (k1 : E1 = res → V D dT bs nL p l e R s m args below meth c cells slots Q h S pc' L st) (k2 : E2 = res → V D dT bs nL p l e R s m args below meth c cells slots Q h S tgt L st) : V D dT bs nL p l e R s m args below meth c cells slots Q h S pc L (zI b :: zI a :: st) := by
  intro H locs ls hP hS hl
  subst hp
  subst ha
  subst hb
  exact lv_icmp_ne C.1 C.2.1 hd ht (fun hq => k2 (by rw [if_neg (fun q => hq (ww_eq.mpr q))] at hf; exact hf) H locs ls hP hS hl) (fun hq => k1 (by rw [if_pos (ww_eq.mp hq)] at hf; exact hf) H locs ls hP hS hl)
theorem r_if_lt (C : Cx D dT bs own cc nL ret p s m args meth c) {α : Type} {E1 E2 res : α} {off : Int} {a a' : Int} (ha : ww a = a') (hf : (if a' < 0 then E1 else E2) = res) (hd : decode cc pc = .ok (.ifCond .lt off, 3)) (ht : (pc : Int) + off = (tgt : Int)) (hp : pc + 3 = pc') (k1 : E1 = res → V D dT bs nL p l e R s m args below meth c cells slots Q h S tgt L st) (k2 : E2 = res → V D dT bs nL p l e R s m args below meth c cells slots Q h S pc' L st) : V D dT bs nL p l e R s m args below meth c cells slots Q h S pc L (zI a :: st) := by
  intro H locs ls hP hS hl
  subst hp
  subst ha
  skip
  exact lv_if_lt C.1 C.2.1 hd ht (fun hq => k1 (by rw [if_pos (ww_lt0.mp hq)] at hf; exact hf) H locs ls hP hS hl) (fun hq => k2 (by rw [if_neg (fun q => hq (ww_lt0.mpr q))] at hf; exact hf) H locs ls hP hS hl)
theorem r_if_ge (C : Cx D dT bs own cc nL ret p s m args meth c) {α : Type} {E1 E2 res : α} {off : Int} {a a' : Int} (ha : ww a = a') (hf : (if a' < 0 then E1 else E2) = res) (hd : decode cc pc = .ok (.ifCond .ge off, 3)) (ht : (pc : Int) + off = (tgt : Int)) (hp : pc + 3 = pc') (k1 : E1 = res → V D dT bs nL p l e R s m args below meth c cells slots Q h S pc' L st) (k2 : E2 = res → V D dT bs nL p l e R s m args below meth c cells slots Q h S tgt L st) : V D dT bs nL p l e R s m args below meth c cells slots Q h S pc L (zI a :: st) := by
  intro H locs ls hP hS hl
  subst hp
  subst ha
  skip
  exact lv_if_ge C.1 C.2.1 hd ht (fun hq => k2 (by rw [if_neg (by have := ww_0le.mp hq; omega)] at hf; exact hf) H locs ls hP hS hl) (fun hq => k1 (by rw [if_pos (Int.not_le.mp (fun q => hq (ww_0le.mpr q)))] at hf; exact hf) H locs ls hP hS hl)
theorem r_if_gt (C : Cx D dT bs own cc nL ret p s m args meth c) {α : Type} {E1 E2 res : α} {off : Int} {a a' : Int} (ha : ww a = a') (hf : (if 0 < a' then E1 else E2) = res) (hd : decode cc pc = .ok (.ifCond .gt off, 3)) (ht : (pc : Int) + off = (tgt : Int)) (hp : pc + 3 = pc') (k1 : E1 = res → V D dT bs nL p l e R s m args below meth c cells slots Q h S tgt L st) (k2 : E2 = res → V D dT bs nL p l e R s m args below meth c cells slots Q h S pc' L st) : V D dT bs nL p l e R s m args below meth c cells slots Q h S pc L (zI a :: st) := by
  intro H locs ls hP hS hl
  subst hp
  subst ha
  skip
  exact lv_if_gt C.1 C.2.1 hd ht (fun hq => k1 (by rw [if_pos (ww_0lt.mp hq)] at hf; exact hf) H locs ls hP hS hl) (fun hq => k2 (by rw [if_neg (fun q => hq (ww_0lt.mpr q))] at hf; exact hf) H locs ls hP hS hl)
theorem r_if_le (C : Cx D dT bs own cc nL ret p s m args meth c) {α : Type} {E1 E2 res : α} {off : Int} {a a' : Int} (ha : ww a = a') (hf : (if 0 < a' then E1 else E2) = res) (hd : decode cc pc = .ok (.ifCond .le off, 3)) (ht : (pc : Int) + off = (tgt : Int)) (hp : pc + 3 = pc') (k1 : E1 = res → V D dT bs nL p l e R s m args below meth c cells slots Q h S pc' L st) (k2 : E2 = res → V D dT bs nL p l e R s m args below meth c cells slots Q h S tgt L st) : V D dT bs nL p l e R s m args below meth c cells slots Q h S pc L (zI a :: st) := by
  intro H locs ls hP hS hl
  subst hp
  subst ha
  skip
  exact lv_if_le C.1 C.2.1 hd ht (fun hq => k2 (by rw [if_neg (by have := ww_le0.mp hq; omega)] at hf; exact hf) H locs ls hP hS hl) (fun hq => k1 (by rw [if_pos (Int.not_le.mp (fun q => hq (ww_le0.mpr q)))] at hf; exact hf) H locs ls hP hS hl)
theorem r_if_eq (C : Cx D dT bs own cc nL ret p s m args meth c) {α : Type} {E1 E2 res : α} {off : Int} {a a' : Int} (ha : ww a = a') (hf : (if a' = 0 then E1 else E2) = res) (hd : decode cc pc = .ok (.ifCond .eq off, 3)) (ht : (pc : Int) + off = (tgt : Int)) (hp : pc + 3 = pc') (k1 : E1 = res → V D dT bs nL p l e R s m args below meth c cells slots Q h S tgt L st) (k2 : E2 = res → V D dT bs nL p l e R s m args below meth c cells slots Q h S pc' L st) : V D dT bs nL p l e R s m args below meth c cells slots Q h S pc L (zI a :: st) := by
  intro H locs ls hP hS hl
  subst hp
  subst ha
  skip
  exact lv_if_eq C.1 C.2.1 hd ht (fun hq => k1 (by rw [if_pos (ww_eq0.mp hq)] at hf; exact hf) H locs ls hP hS hl) (fun hq => k2 (by rw [if_neg (fun q => hq (ww_eq0.mpr q))] at hf; exact hf) H locs ls hP hS hl)
theorem r_if_ne (C : Cx D dT bs own cc nL ret p s m args meth c) {α : Type} {E1 E2 res : α} {off : Int} {a a' : Int} (ha : ww a = a') (hf : (if a' = 0 then E1 else E2) = res) (hd : decode cc pc = .ok (.ifCond .ne off, 3)) (ht : (pc : Int) + off = (tgt : Int)) (hp : pc + 3 = pc') (k1 : E1 = res → V D dT bs nL p l e R s m args below meth c cells slots Q h S pc' L st) (k2 : E2 = res → V D dT bs nL p l e R s m args below meth c cells slots Q h S tgt L st) : V D dT bs nL p l e R s m args below meth c cells slots Q h S pc L (zI a :: st) := by
  intro H locs ls hP hS hl
  subst hp
  subst ha
  skip
  exact lv_if_ne C.1 C.2.1 hd ht (fun hq => k2 (by rw [if_neg (fun q => hq (ww_eq0.mpr q))] at hf; exact hf) H locs ls hP hS hl) (fun hq => k1 (by rw [if_pos (ww_eq0.mp hq)] at hf; exact hf) H locs ls hP hS hl)
theorem r_tsIn (C : Cx D dT bs own cc nL ret p s m args meth c) {dflt lo hi : Int} {offs : Array Int} {len : Nat} {a off : Int} (n : Int) (hn : ww a = n) (hd : decode cc pc = .ok (.tableswitch dflt lo hi offs, len)) (h1 : ¬ n < lo) (h2 : ¬ hi < n) (ho : offs[(n - lo).toNat]? = some off) (ht : (pc : Int) + off = (tgt : Int)) (k : V D dT bs nL p l e R s m args below meth c cells slots Q h S tgt L st) : V D dT bs nL p l e R s m args below meth c cells slots Q h S pc L (zI a :: st) := by
  intro H locs ls hP hS hl
  subst hn
  exact lv_tableIn C.1 C.2.1 hd h1 h2 ho ht (k H locs ls hP hS hl)
theorem r_tsOut (C : Cx D dT bs own cc nL ret p s m args meth c) {dflt lo hi : Int} {offs : Array Int} {len : Nat} {a : Int} (hd : decode cc pc = .ok (.tableswitch dflt lo hi offs, len)) (ho : ww a < lo ∨ hi < ww a) (ht : (pc : Int) + dflt = (tgt : Int)) (k : V D dT bs nL p l e R s m args below meth c cells slots Q h S tgt L st) : V D dT bs nL p l e R s m args below meth c cells slots Q h S pc L (zI a :: st) := by
  intro H locs ls hP hS hl
  exact lv_tableOut C.1 C.2.1 hd ho ht (k H locs ls hP hS hl)
theorem r_ls (C : Cx D dT bs own cc nL ret p s m args meth c) {dflt : Int} {ps : Array (Int × Int)} {len : Nat} {a off : Int} (hd : decode cc pc = .ok (.lookupswitch dflt ps, len)) (hq : (ps.toList.zip (ps.toList.drop 1)).all (fun (a, next) => a.1 < next.1) = true) (ho : Op.lookupswitch.offset ps.toList dflt (ww a) = off) (ht : (pc : Int) + off = (tgt : Int)) (k : V D dT bs nL p l e R s m args below meth c cells slots Q h S tgt L st) : V D dT bs nL p l e R s m args below meth c cells slots Q h S pc L (zI a :: st) := by
  intro H locs ls hP hS hl
  exact lv_lookup C.1 C.2.1 hd hq ho ht (k H locs ls hP hS hl)
theorem r_ifnull (C : Cx D dT bs own cc nL ret p s m args meth c) {α : Type} {E1 E2 res : α} {off a : Int} (hf : (if a < 0 then E1 else E2) = res) (hd : decode cc pc = .ok (.ifnull off, 3)) (ht : (pc : Int) + off = (tgt : Int)) (hp : pc + 3 = pc') (k1 : E1 = res → V D dT bs nL p l e R s m args below meth c cells slots Q h S tgt L st) (k2 : E2 = res → V D dT bs nL p l e R s m args below meth c cells slots Q h S pc' L st) : V D dT bs nL p l e R s m args below meth c cells slots Q h S pc L (zN bs a :: st) := by
  intro H locs ls hP hS hl
  subst hp
  unfold zN oP
  by_cases hn : a < 0
  · rw [if_pos hn] at hf ⊢
    exact lv_ifnullN C.1 C.2.1 hd ht (k1 hf H locs ls hP hS hl)
  · rw [if_neg hn] at hf ⊢
    exact lv_ifnull C.1 C.2.1 hd (k2 hf H locs ls hP hS hl)
theorem r_ifnonnull (C : Cx D dT bs own cc nL ret p s m args meth c) {α : Type} {E1 E2 res : α} {off a : Int} (hf : (if a < 0 then E1 else E2) = res) (hd : decode cc pc = .ok (.ifnonnull off, 3)) (ht : (pc : Int) + off = (tgt : Int)) (hp : pc + 3 = pc') (k1 : E1 = res → V D dT bs nL p l e R s m args below meth c cells slots Q h S pc' L st) (k2 : E2 = res → V D dT bs nL p l e R s m args below meth c cells slots Q h S tgt L st) : V D dT bs nL p l e R s m args below meth c cells slots Q h S pc L (zN bs a :: st) := by
  intro H locs ls hP hS hl
  subst hp
  unfold zN oP
  by_cases hn : a < 0
  · rw [if_pos hn] at hf ⊢
    exact lv_ifnonnullN C.1 C.2.1 hd (k1 hf H locs ls hP hS hl)
  · rw [if_neg hn] at hf ⊢
    exact lv_ifnonnull C.1 C.2.1 hd ht (k2 hf H locs ls hP hS hl)
theorem V.eq {pc1 : Nat} {L1 : List (Nat × Value)} {st1 : List Value} {h1 : HH} {S1 : SS} (hM : h1 = h) (hM2 : S1 = S) (hpc : pc1 = pc) (hL : L1 = L) (hst : st1 = st) (k : V D dT bs nL p l e R s m args below meth c cells slots Q h1 S1 pc1 L1 st1) : V D dT bs nL p l e R s m args below meth c cells slots Q h S pc L st := by
  subst hM; subst hM2; subst hpc; subst hL; subst hst; exact k
theorem V.sub (ks : List Nat) (hL : lv_pick L ks = L') (k : V D dT bs nL p l e R s m args below meth c cells slots Q h S pc L' st) : V D dT bs nL p l e R s m args below meth c cells slots Q h S pc L st := fun H locs ls hP hS hl => k H locs ls hP hS (lv_sub hl ks hL)
end ZR
section ZM
variable {D : va_G} {dT : ZT} {bs nL : Nat} {own : String} {cc : ByteArray} {ret : Option FieldType} {p : Program} {l : Launch} {e : Env} {R : Room} {s : State} {m : MethodId} {args : Array Value} {below : List Frame} {meth : Method} {c : Code} {cells slots : Nat} {Q : State → Prop} {h : HH} {S : SS} {pc pc' tgt : Nat} {L L' : List (Nat × Value)} {st : List Value} {H : Heap} {locs : List Loc} {ls : Array Slot}
theorem va_P1 {cl : List vw_C} {q : Nat × va_E} (h : va_at D cl q H) : va_P D cl [q] H := by
  intro i x hx
  cases i with
  | zero => cases hx; exact h
  | succ i => cases hx
theorem nF_of {ci N : Nat} {Cn : String} {T : u_T} (h : clX[ci]? = some (Cn, T, N)) : nF ci = N := by
  unfold nF
  rw [h]
theorem z_same {ref o nm ds : String} (hts : ∀ w ∈ lwb, w.before args s = true) (h : o = ref ∨ Cond.sameField ref o nm ds ∈ lwb) : ∀ x, s.fieldFound? o nm ds = some x → s.fieldFound? ref nm ds = some x := by
  intro x hx
  rcases h with h | h
  · rw [← h]; exact hx
  · exact u_same (hts _ h) x hx
theorem r_getI (C : Cx D dT bs own cc nL ret p s m args meth c) {ci j ix N : Nat} {k nn : Int} {ref Cn : String} {T : u_T} (hk : KD S k (ci : Int) nn) (h20 : ci < 20) (hcl : clX[ci]? = some (Cn, T, N)) (hin : ∀ w ∈ u_ws Cn T N, w ∈ lwb) (hj : j < N) (hr : fR ci j = false) (hlink : Cond.fieldLink own ix ref (T j).2.1 (T j).2.2.1 ∈ lwb) (hsame : (T j).1 = ref ∨ Cond.sameField ref (T j).1 (T j).2.1 (T j).2.2.1 ∈ lwb) (hd : decode cc pc = .ok (.getfield ix, 3)) (hp : pc + 3 = pc') (kk : V D dT bs nL p l e R s m args below meth c cells slots Q h S pc' L (zI (h k j) :: st)) : V D dT bs nL p l e R s m args below meth c cells slots Q h S pc L (zP bs k :: st) := by
  intro H locs ls hP hS hl
  subst hp
  have hat := hP.at hk.1 hk.2.1
  rw [ent_obj hk h20] at hat
  exact va_get C.1 C.2.1 C.2.2.2.2.1 hin C.2.2.2.1 C.2.2.2.2.2.2.2.1 (va_P1 hat) 0 rfl hcl j hj (C.2.2.2.2.1 _ hlink) (z_same C.2.2.2.2.1 hsame) (fldV_int (by rw [nF_of hcl]; exact hj) hr) hd (kk H locs ls hP hS hl)
theorem r_getR (C : Cx D dT bs own cc nL ret p s m args meth c) {ci j ix N : Nat} {k nn : Int} {ref Cn : String} {T : u_T} (hk : KD S k (ci : Int) nn) (h20 : ci < 20) (hcl : clX[ci]? = some (Cn, T, N)) (hin : ∀ w ∈ u_ws Cn T N, w ∈ lwb) (hj : j < N) (hr : fR ci j = true) (h13 : ci ≠ 13 ∧ ¬ (ci = 10 ∧ j = 11)) (hlink : Cond.fieldLink own ix ref (T j).2.1 (T j).2.2.1 ∈ lwb) (hsame : (T j).1 = ref ∨ Cond.sameField ref (T j).1 (T j).2.1 (T j).2.2.1 ∈ lwb) (hd : decode cc pc = .ok (.getfield ix, 3)) (hp : pc + 3 = pc') (kk : V D dT bs nL p l e R s m args below meth c cells slots Q h S pc' L (zN bs (S.1 k j) :: st)) : V D dT bs nL p l e R s m args below meth c cells slots Q h S pc L (zP bs k :: st) := by
  intro H locs ls hP hS hl
  subst hp
  have hat := hP.at hk.1 hk.2.1
  rw [ent_obj hk h20] at hat
  exact va_get C.1 C.2.1 C.2.2.2.2.1 hin C.2.2.2.1 C.2.2.2.2.2.2.2.1 (va_P1 hat) 0 rfl hcl j hj (C.2.2.2.2.1 _ hlink) (z_same C.2.2.2.2.1 hsame) (fldV_ref (by rw [nF_of hcl]; exact hj) hr h13) hd (kk H locs ls hP hS hl)
theorem r_getP (C : Cx D dT bs own cc nL ret p s m args meth c) {ci j ix N : Nat} {k nn t : Int} {ref Cn : String} {T : u_T} (hk : KD S k (ci : Int) nn) (h20 : ci < 20) (hcl : clX[ci]? = some (Cn, T, N)) (hin : ∀ w ∈ u_ws Cn T N, w ∈ lwb) (hj : j < N) (hr : fR ci j = true) (h13 : ci ≠ 13 ∧ ¬ (ci = 10 ∧ j = 11)) (hlink : Cond.fieldLink own ix ref (T j).2.1 (T j).2.2.1 ∈ lwb) (hsame : (T j).1 = ref ∨ Cond.sameField ref (T j).1 (T j).2.1 (T j).2.2.1 ∈ lwb) (ht : S.1 k j = t) (h0 : 0 ≤ t) (hd : decode cc pc = .ok (.getfield ix, 3)) (hp : pc + 3 = pc') (kk : V D dT bs nL p l e R s m args below meth c cells slots Q h S pc' L (zP bs t :: st)) : V D dT bs nL p l e R s m args below meth c cells slots Q h S pc L (zP bs k :: st) := by
  subst ht
  rw [← zN_nn h0] at kk
  exact r_getR C hk h20 hcl hin hj hr h13 hlink hsame hd hp kk
theorem z_put (hexec : p.tables.exec = Jvm.exec) (hb : c.code = cc) {ref Cn : String} {T : u_T} {N ci index a pc : Nat} {rest : List Value} {tys : List (ClassId × FieldType)} {cl : List vw_C} {Ts : List Cond} (hts : ∀ w ∈ Ts, w.before args s = true) (hin : ∀ w ∈ u_ws Cn T N, w ∈ Ts) (ty0 : Nat → FieldType) (hty : ∀ k, k < N → parseFieldDescriptor (T k).2.2.1 = some (ty0 k)) (hnm : ∀ a, a < N → ∀ b, b < N → a ≠ b → (T a).2.1 ≠ (T b).2.1) (hown : s.vm.findClass own = some m.cls) (hK : va_K D cl tys s) {fs : List Value} (hat : va_at D cl (a, .inr (ci, fs)) H) (hc : cl[ci]? = some (Cn, T, N)) (k : Nat) (hk : k < N) (hlink : (Cond.fieldLink own index ref (T k).2.1 (T k).2.2.1).before args s = true) (hsame : ∀ x, s.fieldFound? (T k).1 (T k).2.1 (T k).2.2.1 = some x → s.fieldFound? ref (T k).2.1 (T k).2.2.1 = some x) (hfin : (T k).2.2.2 = false ∨ ((T k).2.2.2 = true ∧ meth.name = "<init>" ∧ (T k).1 = own)) {ty : FieldType} {v : Value} (hd : parseFieldDescriptor (T k).2.2.1 = some ty) (hn : narrow ty v = v) (hfit : fits ty v = true) (hl : k < fs.length)
    (hdg : decode cc pc = .ok (.putfield index, 3)) (kk : ∀ (H1 : Heap) (sl : Nat), va_at D cl (a, .inr (ci, fs.set k v)) H1 → H1.size = H.size → (∀ q, q ≠ a → H1[q]? = H[q]?) → W p l e R s m args below meth c H1 (locs ++ [⟨a, sl⟩]) cells slots Q (F0 m (pc + 3) ls rest)) : W p l e R s m args below meth c H locs cells slots Q (F0 m pc ls (v :: .ref a :: rest)) := by
  have hap := va_apart (own := own) hts hin ty0 hty hnm hK hc
  obtain ⟨r, h1, cell, q1, q2, q3, q4⟩ := hat
  have hr : r = (Cn, T, N) := Option.some.inj (h1.symm.trans hc)
  subst hr
  obtain ⟨hS, hfc, kC, hkC, hkind⟩ := hK.1 ci _ hc
  obtain ⟨cf, kf, fi, f, hi, hsl⟩ := hS k hk
  have hlay := hts _ (hin _ (u_in_lay hk))
  have hst := (u_facts hfc hkC (u_lays hts hin hk) hi).1
  rcases hfin with hfin | ⟨hfin, hin2, hdecl⟩
  · unfold u_lay at hlay
    rw [if_neg (by rw [hfin]; decide)] at hlay
    have h6 := u_store hfc hkC hkind hlay hi hd hn hfit
    refine W.putK hexec hb (f := f) ⟨hown, hlink, ⟨_, _, _, hsame _ hi⟩, hst⟩ (by rw [q2]; exact h6) q1 q3 (by rw [hsl]; exact k2_hasslot (q4 k hk)) rfl rfl hdg fun H' e1 e2 e3 => ?_
    rw [hsl] at e1 ⊢
    exact kk H' _ ⟨_, hc, t_OB.to (V := updV (vp_V fs) k v) ⟨_, e1, q2, q3, t_set q4 hap hk v⟩ (fun j _ => vp_updV_set hl v j)⟩ e2 e3
  · unfold u_lay at hlay
    rw [if_pos hfin] at hlay
    have hcf : m.cls = cf := by
      obtain ⟨_, _, c', _, _, _, -, -, hf', -, -, -, hown2, -⟩ := Cond.laysFinal_spec hlay
      have e1 : c' = cf := by have := hi.symm.trans hf'; simp at this; exact this.1.symm
      rw [hdecl] at hown2
      rw [← e1]; exact Option.some.inj (hown.symm.trans hown2)
    have h6 := u_fits hfc hkC hkind (Or.inr hlay) hi hd hn hfit
    refine W.putFinK hexec hb hown hlink (hsame _ hi) hst hcf hin2 (by rw [q2]; exact h6) q1 q3 (by rw [hsl]; exact k2_hasslot (q4 k hk)) rfl rfl hdg fun H' e1 e2 e3 => ?_
    rw [hsl] at e1 ⊢
    exact kk H' _ ⟨_, hc, t_OB.to (V := updV (vp_V fs) k v) ⟨_, e1, q2, q3, t_set q4 hap hk v⟩ (fun j _ => vp_updV_set hl v j)⟩ e2 e3
theorem AA_S {H1 : Heap} {k : Int} {sl : Nat} (hS : va_S (AA bs) s.heap H locs) (e2 : H1.size = H.size) (e3 : ∀ q, q ≠ bs + k.toNat → H1[q]? = H[q]?) : va_S (AA bs) s.heap H1 (locs ++ [⟨bs + k.toNat, sl⟩]) := hS.put e2 e3 (by show bs ≤ _; omega)
theorem r_putI (C : Cx D dT bs own cc nL ret p s m args meth c) {ci j ix N : Nat} {k nn v : Int} {ref Cn : String} {T : u_T} {ty0 : Nat → FieldType} {ty : FieldType} (hk : KD S k (ci : Int) nn) (h20 : ci < 20) (hcl : clX[ci]? = some (Cn, T, N)) (hin : ∀ w ∈ u_ws Cn T N, w ∈ lwb) (hty : ∀ k, k < N → parseFieldDescriptor (T k).2.2.1 = some (ty0 k)) (hnm : ∀ a, a < N → ∀ b, b < N → a ≠ b → (T a).2.1 ≠ (T b).2.1) (hj : j < N) (hr : fR ci j = false) (hlink : Cond.fieldLink own ix ref (T j).2.1 (T j).2.2.1 ∈ lwb) (hsame : (T j).1 = ref ∨ Cond.sameField ref (T j).1 (T j).2.1 (T j).2.2.1 ∈ lwb) (hfin : (T j).2.2.2 = false ∨ ((T j).2.2.2 = true ∧ meth.name = "<init>" ∧ (T j).1 = own)) (hdt : parseFieldDescriptor (T j).2.2.1 = some ty) (hn : narrow ty (zI v) = zI v) (hfit : fits ty (zI v) = true) (hd : decode cc pc = .ok (.putfield ix, 3)) (hp : pc + 3 = pc') (kk : V D dT bs nL p l e R s m args below meth c cells slots Q (u2 h k j v) S pc' L st) : V D dT bs nL p l e R s m args below meth c cells slots Q h S pc L (zI v :: zP bs k :: st) := by
  intro H locs ls hP hS hl
  subst hp
  have hat := hP.at hk.1 hk.2.1
  rw [ent_obj hk h20] at hat
  refine z_put C.1 C.2.1 C.2.2.2.2.1 hin ty0 hty hnm C.2.2.2.1 C.2.2.2.2.2.2.2.1 hat hcl j hj (C.2.2.2.2.1 _ hlink) (z_same C.2.2.2.2.1 hsame) hfin hdt hn hfit (by rw [fldV_len, nF_of hcl]; exact hj) hd (fun H1 sl h1 e2 e3 => ?_)
  refine kk H1 _ ls (hP.set hk.1 hk.2.1 rfl e2 e3 (fun a ha => ent_u2_ne ha) ?_) (AA_S hS e2 e3) hl
  rw [ent_obj (h := u2 h k j v) (n := nn) hk h20, ← fldV_set (h := h) (S := S) (v := zI v) (by rw [nF_of hcl]; exact hj) (by rw [fldV_int (by rw [nF_of hcl]; exact hj) hr]; simp [u2]) (fun i hi => by simp [u2, hi]) (fun i hi => rfl)]
  exact h1
theorem r_putR (C : Cx D dT bs own cc nL ret p s m args meth c) {ci j ix N : Nat} {k nn v : Int} {ref Cn : String} {T : u_T} {ty0 : Nat → FieldType} {ty : FieldType} (hk : KD S k (ci : Int) nn) (h20 : ci < 20) (hcl : clX[ci]? = some (Cn, T, N)) (hin : ∀ w ∈ u_ws Cn T N, w ∈ lwb) (hty : ∀ k, k < N → parseFieldDescriptor (T k).2.2.1 = some (ty0 k)) (hnm : ∀ a, a < N → ∀ b, b < N → a ≠ b → (T a).2.1 ≠ (T b).2.1) (hj : j < N) (hr : fR ci j = true) (h13 : ci ≠ 13 ∧ ¬ (ci = 10 ∧ j = 11)) (hlink : Cond.fieldLink own ix ref (T j).2.1 (T j).2.2.1 ∈ lwb) (hsame : (T j).1 = ref ∨ Cond.sameField ref (T j).1 (T j).2.1 (T j).2.2.1 ∈ lwb) (hfin : (T j).2.2.2 = false ∨ ((T j).2.2.2 = true ∧ meth.name = "<init>" ∧ (T j).1 = own)) (hdt : parseFieldDescriptor (T j).2.2.1 = some ty) (hn : narrow ty (zN bs v) = zN bs v) (hfit : fits ty (zN bs v) = true) (hd : decode cc pc = .ok (.putfield ix, 3)) (hp : pc + 3 = pc') (kk : V D dT bs nL p l e R s m args below meth c cells slots Q h (uS S k j v) pc' L st) (hj2 : (j : Int) ≠ -1 ∧ (j : Int) ≠ -2) : V D dT bs nL p l e R s m args below meth c cells slots Q h S pc L (zN bs v :: zP bs k :: st) := by
  intro H locs ls hP hS hl
  subst hp
  have hat := hP.at hk.1 hk.2.1
  rw [ent_obj hk h20] at hat
  refine z_put C.1 C.2.1 C.2.2.2.2.1 hin ty0 hty hnm C.2.2.2.1 C.2.2.2.2.2.2.2.1 hat hcl j hj (C.2.2.2.2.1 _ hlink) (z_same C.2.2.2.2.1 hsame) hfin hdt hn hfit (by rw [fldV_len, nF_of hcl]; exact hj) hd (fun H1 sl h1 e2 e3 => ?_)
  refine kk H1 _ ls (hP.set hk.1 hk.2.1 rfl e2 e3 (fun a ha => ent_uS_ne ha) ?_) (AA_S hS e2 e3) hl
  have hk' : KD (uS S k j v) k (ci : Int) nn := by
    obtain ⟨a1, a2, a3, a4⟩ := hk
    refine ⟨a1, a2, ?_, ?_⟩
    · show (if k = k ∧ (-1 : Int) = j then v else S.1 k (-1)) = _
      rw [if_neg (by omega)]; exact a3
    · show (if k = k ∧ (-2 : Int) = j then v else S.1 k (-2)) = _
      rw [if_neg (by omega)]; exact a4
  rw [ent_obj hk' h20, ← fldV_set (h := h) (S := S) (v := zN bs v) (by rw [nF_of hcl]; exact hj) (by rw [fldV_ref (by rw [nF_of hcl]; exact hj) hr h13]; simp [uS, u2]) (fun i hi => rfl) (fun i hi => by simp [uS, u2, hi])]
  exact h1
theorem ww_cl {a a' : Int} (ha : ww a = a') (h : 0 ≤ a') : (Int32.ofInt a).toNatClampNeg = a'.toNat := by
  subst ha
  show (Int32.ofInt a).toInt.toNat = _
  rfl
theorem ww_vp {a a' : Int} {n : Int} (ha : ww a = a') (h : 0 ≤ a' ∧ a' < n) : vp_in (Int32.ofInt a) n.toNat := by
  rw [vp_in_iff]
  have : (Int32.ofInt a).toInt = a' := ha
  omega
theorem tyL_at {t : Nat} (h : t < 8) : (tyL dT)[t]? = some (dT.1 t, tyA t) := by
  simp [tyL, h]
theorem ofI_nat (m : Nat) : Int32.ofInt (m : Int) = Int32.ofNat m := by first | exact Int32.ofInt_eq_ofNat | exact (Int32.ofNat_eq_ofInt m).symm | rfl | simp | (apply Int32.toBitVec_inj.mp; simp)
theorem r_iald (C : Cx D dT bs own cc nL ret p s m args meth c) {k n a a' : Int} (hk : KD S k 20 n) (ha : ww a = a') (hi : 0 ≤ a' ∧ a' < n) (hd : decode cc pc = .ok (.iaload, 1)) (hp : pc + 1 = pc') (kk : V D dT bs nL p l e R s m args below meth c cells slots Q h S pc' L (zI (h k a') :: st)) : V D dT bs nL p l e R s m args below meth c cells slots Q h S pc L (zI a :: zP bs k :: st) := by
  intro H locs ls hP hS hl
  subst hp
  have hat := hP.at hk.1 hk.2.1
  rw [ent_arI hk] at hat
  refine va_iald C.1 C.2.1 C.2.2.2.2.2.2.2.1 (va_P1 hat) 0 0 rfl (tyL_at (by decide)) (ww_vp ha hi) hd ?_
  rw [ww_cl ha hi.1, show ((a'.toNat : Nat) : Int) = a' from by omega]
  exact kk H locs ls hP hS hl
theorem r_zald (C : Cx D dT bs own cc nL ret p s m args meth c) {k n a a' : Int} (hk : KD S k 22 n) (ha : ww a = a') (hi : 0 ≤ a' ∧ a' < n) (hd : decode cc pc = .ok (.baload, 1)) (hp : pc + 1 = pc') (kk : V D dT bs nL p l e R s m args below meth c cells slots Q h S pc' L (zI (h k a') :: st)) : V D dT bs nL p l e R s m args below meth c cells slots Q h S pc L (zI a :: zP bs k :: st) := by
  intro H locs ls hP hS hl
  subst hp
  have hat := hP.at hk.1 hk.2.1
  rw [ent_arZ hk] at hat
  refine va_zald C.1 C.2.1 C.2.2.2.2.2.2.2.1 (va_P1 hat) 0 2 rfl (tyL_at (by decide)) (ww_vp ha hi) hd ?_
  rw [ww_cl ha hi.1, show ((a'.toNat : Nat) : Int) = a' from by omega]
  exact kk H locs ls hP hS hl
theorem r_lald (C : Cx D dT bs own cc nL ret p s m args meth c) {k n a a' : Int} (hk : KD S k 21 n) (ha : ww a = a') (hi : 0 ≤ a' ∧ a' < n) (hd : decode cc pc = .ok (.laload, 1)) (hp : pc + 1 = pc') (kk : V D dT bs nL p l e R s m args below meth c cells slots Q h S pc' L (zL (h k a') :: st)) : V D dT bs nL p l e R s m args below meth c cells slots Q h S pc L (zI a :: zP bs k :: st) := by
  intro H locs ls hP hS hl
  subst hp
  have hat := hP.at hk.1 hk.2.1
  rw [ent_arL hk] at hat
  refine va_lald C.1 C.2.1 C.2.2.2.2.2.2.2.1 (va_P1 hat) 0 1 rfl (tyL_at (by decide)) (ww_vp ha hi) hd ?_
  rw [ww_cl ha hi.1, show ((a'.toNat : Nat) : Int) = a' from by omega]
  exact kk H locs ls hP hS hl
theorem r_aaldN (C : Cx D dT bs own cc nL ret p s m args meth c) {k n a a' : Int} {t : Nat} (hk : KD S k (20 + (t : Int)) n) (h3 : 3 ≤ t) (h8 : t < 8) (h7 : t ≠ 7) (h5 : t ≠ 5) (hE : (tyA t).isReference = true) (ha : ww a = a') (hi : 0 ≤ a' ∧ a' < n) (hd : decode cc pc = .ok (.aaload, 1)) (hp : pc + 1 = pc') (kk : V D dT bs nL p l e R s m args below meth c cells slots Q h S pc' L (zN bs (S.1 k a') :: st)) : V D dT bs nL p l e R s m args below meth c cells slots Q h S pc L (zI a :: zP bs k :: st) := by
  intro H locs ls hP hS hl
  subst hp
  have hat := hP.at hk.1 hk.2.1
  rw [ent_arR hk h3 h7 h5] at hat
  have hv := ww_vp ha hi
  have hlt : (Int32.ofInt a).toNatClampNeg < n.toNat := by rw [ww_cl ha hi.1]; omega
  refine W.aald C.1 C.2.1 hat ((C.2.2.2.2.2.2.2.1.2 t _ (tyL_at h8)).1 n.toNat (fun j => va_rf (oP bs (S.1 k j)))) hE (fun q => by cases q) (by show ¬ (_ ∨ (arrV _ _ _).slots.size ≤ _); rw [arrV_size]; exact hv) (arrV_read _ _ hlt) rfl rfl hd ?_
  have k2 := kk H locs ls hP hS hl
  rw [← show ((a'.toNat : Nat) : Int) = a' from by omega, ← ww_cl ha hi.1] at k2
  exact k2
theorem r_aaldP (C : Cx D dT bs own cc nL ret p s m args meth c) {k n a a' g : Int} {t : Nat} (hk : KD S k (20 + (t : Int)) n) (h3 : 3 ≤ t) (h8 : t < 8) (h7 : t ≠ 7) (h5 : t ≠ 5) (hE : (tyA t).isReference = true) (ha : ww a = a') (hi : 0 ≤ a' ∧ a' < n) (hg : S.1 k a' = g) (h0 : 0 ≤ g) (hd : decode cc pc = .ok (.aaload, 1)) (hp : pc + 1 = pc') (kk : V D dT bs nL p l e R s m args below meth c cells slots Q h S pc' L (zP bs g :: st)) : V D dT bs nL p l e R s m args below meth c cells slots Q h S pc L (zI a :: zP bs k :: st) := by
  subst hg
  rw [← zN_nn h0] at kk
  exact r_aaldN C hk h3 h8 h7 h5 hE ha hi hd hp kk
theorem r_aaldD (C : Cx D dT bs own cc nL ret p s m args meth c) {k n a a' : Int} (hk : KD S k 25 n) (ha : ww a = a') (hi : 0 ≤ a' ∧ a' < n) (hd : decode cc pc = .ok (.aaload, 1)) (hp : pc + 1 = pc') (kk : V D dT bs nL p l e R s m args below meth c cells slots Q h S pc' L (zD bs (h k a') :: st)) : V D dT bs nL p l e R s m args below meth c cells slots Q h S pc L (zI a :: zP bs k :: st) := by
  intro H locs ls hP hS hl
  subst hp
  have hat := hP.at hk.1 hk.2.1
  rw [ent_arD hk] at hat
  have hv := ww_vp ha hi
  have hlt : (Int32.ofInt a).toNatClampNeg < n.toNat := by rw [ww_cl ha hi.1]; omega
  refine W.aald C.1 C.2.1 hat ((C.2.2.2.2.2.2.2.1.2 5 _ (tyL_at (by decide))).1 n.toNat (fun j => va_rf (oD bs (h k j)))) rfl (fun q => by cases q) (by show ¬ (_ ∨ (arrV _ _ _).slots.size ≤ _); rw [arrV_size]; exact hv) (arrV_read _ _ hlt) rfl rfl hd ?_
  have k2 := kk H locs ls hP hS hl
  rw [← show ((a'.toNat : Nat) : Int) = a' from by omega, ← ww_cl ha hi.1] at k2
  exact k2
/-- World.orchard -/
theorem r_getD (C : Cx D dT bs own cc nL ret p s m args meth c) {ix : Nat} {k nn : Int} {ref : String} (hk : KD S k 10 nn) (hin : ∀ w ∈ u_ws RX10 TX10 13, w ∈ lwb) (hr : fR 10 11 = true) (hlink : Cond.fieldLink own ix ref (TX10 11).2.1 (TX10 11).2.2.1 ∈ lwb) (hsame : (TX10 11).1 = ref) (hd : decode cc pc = .ok (.getfield ix, 3)) (hp : pc + 3 = pc') (kk : V D dT bs nL p l e R s m args below meth c cells slots Q h S pc' L (zD bs (h k 11) :: st)) : V D dT bs nL p l e R s m args below meth c cells slots Q h S pc L (zP bs k :: st) := by
  intro H locs ls hP hS hl
  subst hp
  have hat := hP.at hk.1 hk.2.1
  rw [ent_obj (c := 10) hk (by decide)] at hat
  exact va_get C.1 C.2.1 C.2.2.2.2.1 hin C.2.2.2.1 C.2.2.2.2.2.2.2.1 (va_P1 hat) 0 rfl (show clX[10]? = some (RX10, TX10, 13) from rfl) 11 (by decide) (C.2.2.2.2.1 _ hlink) (z_same C.2.2.2.2.1 (Or.inl hsame)) (fldV_refD hr (by decide)) hd (kk H locs ls hP hS hl)
theorem r_putD (C : Cx D dT bs own cc nL ret p s m args meth c) {ix : Nat} {k nn v : Int} {ref : String} (hk : KD S k 10 nn) (hin : ∀ w ∈ u_ws RX10 TX10 13, w ∈ lwb) (hr : fR 10 11 = true) (hlink : Cond.fieldLink own ix ref (TX10 11).2.1 (TX10 11).2.2.1 ∈ lwb) (hsame : (TX10 11).1 = ref) (hd : decode cc pc = .ok (.putfield ix, 3)) (hp : pc + 3 = pc') (kk : V D dT bs nL p l e R s m args below meth c cells slots Q (u2 h k 11 v) S pc' L st) : V D dT bs nL p l e R s m args below meth c cells slots Q h S pc L (zD bs v :: zP bs k :: st) := by
  intro H locs ls hP hS hl
  subst hp
  have hat := hP.at hk.1 hk.2.1
  rw [ent_obj (c := 10) hk (by decide)] at hat
  have hn : narrow (.object "WassailEnemies$Orchard") (zD bs v) = zD bs v := by
    unfold zD oD; split <;> rfl
  have hfit : fits (.object "WassailEnemies$Orchard") (zD bs v) = true := by
    unfold zD oD; split <;> rfl
  refine z_put C.1 C.2.1 C.2.2.2.2.1 hin tyX10 tyX10_ok nmX10 C.2.2.2.1 C.2.2.2.2.2.2.2.1 hat (show clX[10]? = some (RX10, TX10, 13) from rfl) 11 (by decide) (C.2.2.2.2.1 _ hlink) (z_same C.2.2.2.2.1 (Or.inl hsame)) (Or.inl rfl) (show parseFieldDescriptor (TX10 11).2.2.1 = some (.object "WassailEnemies$Orchard") by decide +kernel) hn hfit (by rw [fldV_len]; decide) hd (fun H1 sl h1 e2 e3 => ?_)
  refine kk H1 _ ls (hP.set hk.1 hk.2.1 rfl e2 e3 (fun a ha => ent_u2_ne ha) ?_) (AA_S hS e2 e3) hl
  rw [ent_obj (c := 10) (h := u2 h k 11 v) (n := nn) hk (by decide), ← fldV_set (h := h) (S := S) (j := 11) (v := zD bs v) (by decide) (by rw [fldV_refD hr (by decide)]; simp [u2]) (fun i hi => by simp at hi; simp [u2, hi]) (fun i hi => rfl)]
  exact h1
theorem r_ifnullD (C : Cx D dT bs own cc nL ret p s m args meth c) {α : Type} {E1 E2 res : α} {off a : Int} (hf : (if a ≤ 0 then E1 else E2) = res) (hd : decode cc pc = .ok (.ifnull off, 3)) (ht : (pc : Int) + off = (tgt : Int)) (hp : pc + 3 = pc') (k1 : E1 = res → V D dT bs nL p l e R s m args below meth c cells slots Q h S tgt L st) (k2 : E2 = res → V D dT bs nL p l e R s m args below meth c cells slots Q h S pc' L st) : V D dT bs nL p l e R s m args below meth c cells slots Q h S pc L (zD bs a :: st) := by
  intro H locs ls hP hS hl
  subst hp
  by_cases hn : a ≤ 0
  · rw [if_pos hn] at hf
    rw [zD_nul hn]
    exact lv_ifnullN C.1 C.2.1 hd ht (k1 hf H locs ls hP hS hl)
  · rw [if_neg hn] at hf
    rw [zD_nn (by omega)]
    exact lv_ifnull C.1 C.2.1 hd (k2 hf H locs ls hP hS hl)
theorem r_ifnonnullD (C : Cx D dT bs own cc nL ret p s m args meth c) {α : Type} {E1 E2 res : α} {off a : Int} (hf : (if a ≤ 0 then E1 else E2) = res) (hd : decode cc pc = .ok (.ifnonnull off, 3)) (ht : (pc : Int) + off = (tgt : Int)) (hp : pc + 3 = pc') (k1 : E1 = res → V D dT bs nL p l e R s m args below meth c cells slots Q h S pc' L st) (k2 : E2 = res → V D dT bs nL p l e R s m args below meth c cells slots Q h S tgt L st) : V D dT bs nL p l e R s m args below meth c cells slots Q h S pc L (zD bs a :: st) := by
  intro H locs ls hP hS hl
  subst hp
  by_cases hn : a ≤ 0
  · rw [if_pos hn] at hf
    rw [zD_nul hn]
    exact lv_ifnonnullN C.1 C.2.1 hd (k1 hf H locs ls hP hS hl)
  · rw [if_neg hn] at hf
    rw [zD_nn (by omega)]
    exact lv_ifnonnull C.1 C.2.1 hd ht (k2 hf H locs ls hP hS hl)
/-- a reference that may be null, tested: the stack's top is a cell's -/
theorem r_nnD {a : Int} (ha : 0 < a) (kk : V D dT bs nL p l e R s m args below meth c cells slots Q h S pc L (zP bs (a - 1) :: st)) : V D dT bs nL p l e R s m args below meth c cells slots Q h S pc L (zD bs a :: st) := by
  rw [zD_nn ha]; exact kk
/-- int[].length, Rows' rows -/
theorem r_alen (C : Cx D dT bs own cc nL ret p s m args meth c) {k n : Int} {t : Nat} (hk : KD S k (20 + (t : Int)) n) (h8 : t < 8) (hn : 0 ≤ n ∧ n < 2147483648) (hd : decode cc pc = .ok (.arraylength, 1)) (hp : pc + 1 = pc') (kk : V D dT bs nL p l e R s m args below meth c cells slots Q h S pc' L (zI n :: st)) : V D dT bs nL p l e R s m args below meth c cells slots Q h S pc L (zP bs k :: st) := by
  intro H locs ls hP hS hl
  subst hp
  have hat := hP.at hk.1 hk.2.1
  obtain ⟨x, hx, he⟩ : ∃ x : vp_A, x.1 = n.toNat ∧ ent dT bs h S k = .inl (dT.1 t, x) := by
    obtain ⟨h0, h1, h2, h3⟩ := hk
    unfold ent
    rw [h2, h3]
    match t, h8 with
    | 0, _ => exact ⟨_, rfl, rfl⟩
    | 1, _ => exact ⟨_, rfl, rfl⟩
    | 2, _ => exact ⟨_, rfl, rfl⟩
    | 3, _ => exact ⟨_, rfl, rfl⟩
    | 4, _ => exact ⟨_, rfl, rfl⟩
    | 5, _ => exact ⟨_, rfl, rfl⟩
    | 6, _ => exact ⟨_, rfl, rfl⟩
    | 7, _ => exact ⟨_, rfl, rfl⟩
  rw [he] at hat
  refine va_alen C.1 C.2.1 C.2.2.2.2.2.2.2.1 (va_P1 hat) 0 t rfl (tyL_at h8) (v := Int32.ofInt n) (by rw [hx]; conv => rhs; rw [show n = ((n.toNat : Nat) : Int) from by omega, ofI_nat]) hd (kk H locs ls hP hS hl)
theorem ent_u2_len {dT : ZT} : True := trivial
theorem r_iast (C : Cx D dT bs own cc nL ret p s m args meth c) {k n a a' v : Int} (hk : KD S k 20 n) (ha : ww a = a') (hi : 0 ≤ a' ∧ a' < n) (hd : decode cc pc = .ok (.iastore, 1)) (hp : pc + 1 = pc') (kk : V D dT bs nL p l e R s m args below meth c cells slots Q (u2 h k a' v) S pc' L st) : V D dT bs nL p l e R s m args below meth c cells slots Q h S pc L (zI v :: zI a :: zP bs k :: st) := by
  intro H locs ls hP hS hl
  subst hp
  have hat := hP.at hk.1 hk.2.1
  rw [ent_arI hk] at hat
  refine W.iast C.1 C.2.1 hat ((C.2.2.2.2.2.2.2.1.2 0 _ (tyL_at (by decide))).1 n.toNat (fun j => .int (Int32.ofInt (h k j)))) (fun q => by cases q) (by show ¬ (_ ∨ (arrV _ _ _).slots.size ≤ _); rw [arrV_size]; exact ww_vp ha hi) rfl rfl hd fun H1 e1 e2 e3 => ?_
  refine kk H1 _ ls (hP.set hk.1 hk.2.1 rfl e2 e3 (fun b hb => ent_u2_ne hb) ?_) (AA_S hS e2 e3) hl
  rw [ent_arI (h := u2 h k a' v) hk]
  show H1[_]? = some (vp_cell _ _)
  rw [e1, vp_cell_i, vp_cell_i, arrV_store, ww_cl ha hi.1]
  congr 2
  funext q
  by_cases hq : q = a'.toNat
  · subst hq
    simp [updV, u2, show (max a' 0) = a' from by omega]
  · have : ¬ ((q : Int) = a') := by omega
    simp [updV, u2, hq, this]
theorem r_zast (C : Cx D dT bs own cc nL ret p s m args meth c) {k n a a' v v' : Int} (hk : KD S k 22 n) (ha : ww a = a') (hz : narrow .boolean (zI v) = zI v') (hi : 0 ≤ a' ∧ a' < n) (hd : decode cc pc = .ok (.bastore, 1)) (hp : pc + 1 = pc') (kk : V D dT bs nL p l e R s m args below meth c cells slots Q (u2 h k a' v') S pc' L st) : V D dT bs nL p l e R s m args below meth c cells slots Q h S pc L (zI v :: zI a :: zP bs k :: st) := by
  intro H locs ls hP hS hl
  subst hp
  have hat := hP.at hk.1 hk.2.1
  rw [ent_arZ hk] at hat
  refine W.zast C.1 C.2.1 hat ((C.2.2.2.2.2.2.2.1.2 2 _ (tyL_at (by decide))).1 n.toNat (fun j => .int (Int32.ofInt (h k j)))) (fun q => by cases q) (by show ¬ (_ ∨ (arrV _ _ _).slots.size ≤ _); rw [arrV_size]; exact ww_vp ha hi) rfl rfl hd fun H1 e1 e2 e3 => ?_
  refine kk H1 _ ls (hP.set hk.1 hk.2.1 rfl e2 e3 (fun b hb => ent_u2_ne hb) ?_) (AA_S hS e2 e3) hl
  rw [ent_arZ (h := u2 h k a' v') hk]
  show H1[_]? = some (vp_cell _ _)
  have hz' : narrow .boolean (.int (Int32.ofInt v)) = .int (Int32.ofInt v') := hz
  rw [e1, vp_cell_i, vp_cell_i, arrV_store, ww_cl ha hi.1, hz']
  congr 2
  funext q
  by_cases hq : q = a'.toNat
  · subst hq
    simp [updV, u2, show (max a' 0) = a' from by omega]
  · have : ¬ ((q : Int) = a') := by omega
    simp [updV, u2, hq, this]
theorem r_last (C : Cx D dT bs own cc nL ret p s m args meth c) {k n a a' v : Int} (hk : KD S k 21 n) (ha : ww a = a') (hi : 0 ≤ a' ∧ a' < n) (hd : decode cc pc = .ok (.lastore, 1)) (hp : pc + 1 = pc') (kk : V D dT bs nL p l e R s m args below meth c cells slots Q (u2 h k a' v) S pc' L st) : V D dT bs nL p l e R s m args below meth c cells slots Q h S pc L (zL v :: zI a :: zP bs k :: st) := by
  intro H locs ls hP hS hl
  subst hp
  have hat := hP.at hk.1 hk.2.1
  rw [ent_arL hk] at hat
  refine W.last C.1 C.2.1 hat ((C.2.2.2.2.2.2.2.1.2 1 _ (tyL_at (by decide))).1 n.toNat (fun j => .long (Int64.ofInt (h k j)))) (fun q => by cases q) (by show ¬ (_ ∨ (arrV _ _ _).slots.size ≤ _); rw [arrV_size]; exact ww_vp ha hi) rfl rfl hd fun H1 e1 e2 e3 => ?_
  refine kk H1 _ ls (hP.set hk.1 hk.2.1 rfl e2 e3 (fun b hb => ent_u2_ne hb) ?_) (AA_S hS e2 e3) hl
  rw [ent_arL (h := u2 h k a' v) hk]
  show H1[_]? = some (vp_cell _ _)
  rw [e1, vp_cell_l, vp_cell_l, arrV_store, ww_cl ha hi.1]
  congr 2
  funext q
  by_cases hq : q = a'.toNat
  · subst hq
    simp [updV, u2, show (max a' 0) = a' from by omega]
  · have : ¬ ((q : Int) = a') := by omega
    simp [updV, u2, hq, this]
-- returns
theorem r_iret (C : Cx D dT bs own cc nL (some .int) p s m args meth c) {a : Int} (hd : decode cc pc = .ok (.ireturn, 1)) : V D dT bs nL p l e R s m args below meth c cells slots (MQ below (QQ D dT bs (some (zI a)) h S) args s cells slots (AA bs)) h S pc L [zI a] := by
  intro H locs ls hP hS hl
  exact W.iret C.1 C.2.1 C.2.2.2.2.2.2.1 (fun t ht hW => ⟨rfl, by rw [ht]; exact hP, hS.F ht⟩) hS.2.2 hd C.2.2.2.2.2.1
theorem r_zret (C : Cx D dT bs own cc nL (some .boolean) p s m args meth c) {a : Int} (hz : a = 0 ∨ a = 1) (hd : decode cc pc = .ok (.ireturn, 1)) : V D dT bs nL p l e R s m args below meth c cells slots (MQ below (QQ D dT bs (some (zI a)) h S) args s cells slots (AA bs)) h S pc L [zI a] := by
  intro H locs ls hP hS hl
  exact W.zret C.1 C.2.1 C.2.2.2.2.2.2.1 (by rcases hz with rfl | rfl <;> rfl) (fun t ht hW => ⟨rfl, by rw [ht]; exact hP, hS.F ht⟩) hS.2.2 hd C.2.2.2.2.2.1
theorem r_lret (C : Cx D dT bs own cc nL (some .long) p s m args meth c) {a : Int} (hd : decode cc pc = .ok (.lreturn, 1)) : V D dT bs nL p l e R s m args below meth c cells slots (MQ below (QQ D dT bs (some (zL a)) h S) args s cells slots (AA bs)) h S pc L [zL a] := by
  intro H locs ls hP hS hl
  exact W.lret C.1 C.2.1 C.2.2.2.2.2.2.1 (fun t ht hW => ⟨rfl, by rw [ht]; exact hP, hS.F ht⟩) hS.2.2 hd C.2.2.2.2.2.1
theorem r_vret (C : Cx D dT bs own cc nL none p s m args meth c) (hd : decode cc pc = .ok (.return_, 1)) : V D dT bs nL p l e R s m args below meth c cells slots (MQ below (QQ D dT bs none h S) args s cells slots (AA bs)) h S pc L [] := by
  intro H locs ls hP hS hl
  exact W.vret C.1 C.2.1 C.2.2.2.2.2.2.1 (fun t ht hW => ⟨rfl, by rw [ht]; exact hP, hS.F ht⟩) hS.2.2 hd C.2.2.2.2.2.1
-- calls
theorem z_call {mc ms : Nat} {rest st0 : List Value} {v : Option Value} {h' : HH} {S' : SS} {a : Array Value} (hr : va_Run p l e R s m args below meth c H locs cells slots mc ms (F0 m pc ls st0) rest (QQ D dT bs v h' S' a) (AA bs)) (hS : va_S (AA bs) s.heap H locs)
    (kk : ∀ (H1 : Heap) (locs1 : List Loc), Pic D dT bs h' S' H1 → va_S (AA bs) s.heap H1 locs1 → W p l e R s m args below meth c H1 locs1 (cells + mc) (slots + ms) Q (F0 m (pc + 3) ls (v.toList ++ rest))) : W p l e R s m args below meth c H locs cells slots Q (F0 m pc ls st0) := by
  intro T hT X
  obtain ⟨v1, st₀, t, T', L, h0, X', hL, e1, e2, ⟨hv, hp, hz, hk⟩, st⟩ := hr T hT X
  cases hv
  rw [h0] at hz hk
  obtain ⟨t2, a1, b1⟩ := kk T'.heap (locs ++ L) (by rw [e1]; exact hp)
    ⟨Nat.le_trans hS.1 (by rw [e1]; exact hz), fun q h1 h2 => by rw [e1, hk q (Nat.lt_of_lt_of_le h1 hS.1) h2]; exact hS.2.1 q h1 h2, fun q hq => by
      rcases List.mem_append.mp hq with h | h
      · exact hS.2.2 q h
      · exact hL q h⟩ T' rfl X'
  exact ⟨t2, st t2 a1, b1⟩
theorem PP_blind {av : List Value} : FrameBlind (va_Pc av (PP D dT bs h S)) := fun a U g mk q => by
  obtain ⟨q1, q2, q3, q4, q5⟩ := q
  exact ⟨q1, q2, va_K.moved (u := U) (U := U.calling g mk a) (Vm.Alike.refl U.vm) q3, q4, q5⟩
theorem PP_at {av : List Value} {U : State} (C : Cx D dT bs own cc nL ret p s m args meth c) (hP : Pic D dT bs h S H) (hS : va_S (AA bs) s.heap H locs) (hU : U.heap = H) (hW : s.WarmedH U.vm) : va_Pc av (PP D dT bs h S) av.toArray U := by
  obtain ⟨z1, z2, z3, z4⟩ := C.2.2.2.2.2.2.2.2.2
  refine ⟨rfl, by rw [hU]; exact hP, va_K.moved hW.alike C.2.2.2.2.2.2.2.1, ?_, State.WarmedH.trans z1 hW, z2, fun q hq => ?_, z4⟩
  · rw [hU, hP.1]
    omega
  · rw [hU, ← z3 q hq]
    exact hS.2.1 q (Nat.lt_of_lt_of_le hq C.2.2.2.2.2.2.2.2.1) (fun w => absurd (show bs ≤ q from w) (by omega))
theorem lwb_goodIn {ws : List Cond} (hw : ∀ w ∈ ws, w ∈ lwb) : GoodIn lwb ws := fun w h => ⟨hw w h, good_of_word (lwb_good (hw w h))⟩
/-- the words of a call of an instance method, by its receiver's class -/
theorem lwb_callV {own C : String} {ix : Nat} {y : MethodName} {bytes : ByteArray} {maxL : Nat} {ret : Option FieldType} (h1 : Cond.methodLink own ix y ∈ lwb) (h2 : Cond.instanceMethod y ∈ lwb) (h3 : Cond.selects C y y ∈ lwb) (h4 : Cond.initialized C ∈ lwb) (h5 : Cond.code y bytes maxL ret ∈ lwb) : GoodIn lwb (wsV own ix C y (.code y bytes maxL ret :: lwb)) := by
  refine lwb_goodIn (fun w hw => ?_)
  simp only [wsV, List.cons_append, List.nil_append, List.mem_cons] at hw
  rcases hw with rfl | rfl | rfl | rfl | rfl | hw
  · exact h1
  · exact h2
  · exact h3
  · exact h4
  · exact h5
  · exact hw
theorem lwb_callS {own : String} {ix : Nat} {y : MethodName} {bytes : ByteArray} {maxL : Nat} {ret : Option FieldType} (h1 : Cond.methodLink own ix y ∈ lwb) (h2 : Cond.static y ∈ lwb) (h4 : Cond.initialized y.cls ∈ lwb) (h5 : Cond.code y bytes maxL ret ∈ lwb) : GoodIn lwb (va_wsS own ix y (.code y bytes maxL ret :: lwb)) := by
  refine lwb_goodIn (fun w hw => ?_)
  simp only [va_wsS, List.cons_append, List.nil_append, List.mem_cons] at hw
  rcases hw with rfl | rfl | rfl | rfl | hw
  · exact h1
  · exact h2
  · exact h4
  · exact h5
  · exact hw
theorem r_callV (C : Cx D dT bs own cc nL ret p s m args meth c) {y : MethodName} {bytes : ByteArray} {mL fr lo mc ms ix ci N : Nat} {rt : Option FieldType} {Cn : String} {T : u_T} {b nn : Int} {As rest : List Value} {av : Nat → List Value} {v : Nat → Option Value} {h' : HH} {S' : SS} (n : Nat) (hM : CM y bytes mL rt fr lo mc ms av h S v h' S') (hav : av bs = zP bs b :: As) (hk : KD S b (ci : Int) nn) (h20 : ci < 20) (hcl : clX[ci]? = some (Cn, T, N)) (hG : GoodIn lwb (wsV own ix Cn y (.code y bytes mL rt :: lwb))) (hdd : y.cls = Cn ∧ y.cls ≠ "java/lang/invoke/MethodHandle" ∧ y.cls ≠ "java/lang/invoke/VarHandle" ∧ (parseMethodDescriptor y.desc).map (fun d => d.parameters.length) = some n) (hR : fr + 1 ≤ R.frames ∧ 8 + (mL + 11) + lo ≤ R.locals) (hn : As.length = n) (hst : st = As.reverse ++ zP bs b :: rest) (hW : (rest.map fun v => v.category).sum ≤ 8) (hd : decode cc pc = .ok (.invokevirtual ix, 3)) (hp : pc + 3 = pc') (hf : cells + mc ≤ R.cells ∧ slots + ms ≤ R.slots)
    (kk : V D dT bs nL p l e R s m args below meth c (cells + mc) (slots + ms) Q h' S' pc' L ((v bs).toList ++ rest)) : V D dT bs nL p l e R s m args below meth c cells slots Q h S pc L st := by
  intro H locs ls hP hS hl
  subst hp
  subst hst
  have hat := hP.at hk.1 hk.2.1
  rw [ent_obj hk h20] at hat
  have hM' := hM l D dT bs
  rw [hav] at hM'
  refine z_call (va_runV (As := As) (rest := rest) (b := bs + b.toNat) (g := F0 m pc ls (As.reverse ++ zP bs b :: rest)) ⟨C.1, C.2.1, C.2.2.1, C.2.2.2.1, C.2.2.2.2.1⟩ hM' (cwV n C.2.2.2.2.1 hG rfl rfl rfl hdd hR) ⟨PP_blind, va_recv C.2.2.2.2.2.2.2.1 (va_P1 hat) hcl (q0 := 0) rfl, fun U hU hW => PP_at C hP hS hU hW⟩ rfl hn hl.1 rfl (lv_room hW) hd hf) hS (fun H1 locs1 hP1 hS1 => ?_)
  exact kk H1 locs1 ls hP1 hS1 hl
theorem r_callS (C : Cx D dT bs own cc nL ret p s m args meth c) {y : MethodName} {bytes : ByteArray} {mL fr lo mc ms ix : Nat} {rt : Option FieldType} {As rest : List Value} {av : Nat → List Value} {v : Nat → Option Value} {h' : HH} {S' : SS} (n : Nat) (hM : CM y bytes mL rt fr lo mc ms av h S v h' S') (hav : av bs = As) (hG : GoodIn lwb (va_wsS own ix y (.code y bytes mL rt :: lwb))) (hdd : y.cls ≠ "java/lang/invoke/MethodHandle" ∧ y.cls ≠ "java/lang/invoke/VarHandle" ∧ (parseMethodDescriptor y.desc).map (fun d => d.parameters.length) = some n) (hR : fr + 1 ≤ R.frames ∧ 8 + (mL + 11) + lo ≤ R.locals) (hn : As.length = n) (hst : st = As.reverse ++ rest) (hW : (rest.map fun v => v.category).sum ≤ 8) (hd : decode cc pc = .ok (.invokestatic ix, 3)) (hp : pc + 3 = pc') (hf : cells + mc ≤ R.cells ∧ slots + ms ≤ R.slots)
    (kk : V D dT bs nL p l e R s m args below meth c (cells + mc) (slots + ms) Q h' S' pc' L ((v bs).toList ++ rest)) : V D dT bs nL p l e R s m args below meth c cells slots Q h S pc L st := by
  intro H locs ls hP hS hl
  subst hp
  subst hst
  have hM' := hM l D dT bs
  rw [hav] at hM'
  refine z_call (va_runS (As := As) (rest := rest) (g := F0 m pc ls (As.reverse ++ rest)) ⟨C.1, C.2.1, C.2.2.1, C.2.2.2.1, C.2.2.2.2.1⟩ hM' (va_cwS n C.2.2.2.2.1 hG rfl rfl rfl hdd hR) ⟨PP_blind, fun U hU hW => PP_at C hP hS hU hW⟩ rfl hn hl.1 rfl (lv_room hW) hd hf) hS (fun H1 locs1 hP1 hS1 => ?_)
  exact kk H1 locs1 ls hP1 hS1 hl
theorem r_callI (C : Cx D dT bs own cc nL ret p s m args meth c) {y : MethodName} {bytes : ByteArray} {mL fr lo mc ms ix : Nat} {b : Int} {As rest : List Value} {av : Nat → List Value} {v : Nat → Option Value} {h' : HH} {S' : SS} (n : Nat) (hM : CM y bytes mL none fr lo mc ms av h S v h' S') (hav : av bs = zP bs b :: As) (hG : GoodIn lwb (.code y bytes mL none :: lwb)) (hini : Cond.initialized y.cls ∈ lwb) (hlk : Cond.methodLink own ix y ∈ lwb) (him : Cond.instanceMethod y ∈ lwb) (hy1 : y.name = "<init>") (hdd : y.cls ≠ "java/lang/invoke/MethodHandle" ∧ y.cls ≠ "java/lang/invoke/VarHandle" ∧ (parseMethodDescriptor y.desc).map (fun d => d.parameters.length) = some n) (hR : fr + 1 ≤ R.frames ∧ 8 + (mL + 11) + lo ≤ R.locals) (hn : As.length = n) (hst : st = As.reverse ++ zP bs b :: rest) (hW : (rest.map fun v => v.category).sum ≤ 8) (hd : decode cc pc = .ok (.invokespecial ix, 3)) (hp : pc + 3 = pc') (hf : cells + mc ≤ R.cells ∧ slots + ms ≤ R.slots)
    (kk : V D dT bs nL p l e R s m args below meth c (cells + mc) (slots + ms) Q h' S' pc' L ((v bs).toList ++ rest)) : V D dT bs nL p l e R s m args below meth c cells slots Q h S pc L st := by
  intro H locs ls hP hS hl
  subst hp
  subst hst
  have hM' := hM l D dT bs
  rw [hav] at hM'
  refine z_call (va_runI (As := As) (rest := rest) (b := bs + b.toNat) (g := F0 m pc ls (As.reverse ++ zP bs b :: rest)) ⟨C.1, C.2.1, C.2.2.1, C.2.2.2.1, C.2.2.2.2.1⟩ hM' (cwI n C.2.2.2.2.1 hG rfl rfl rfl (C.2.2.2.2.1 _ hini) (C.2.2.2.2.1 _ hlk) (C.2.2.2.2.1 _ him) hy1 hdd hR) ⟨PP_blind, fun U hU hW => PP_at C hP hS hU hW⟩ rfl hn hl.1 rfl (lv_room hW) hd hf) hS (fun H1 locs1 hP1 hS1 => ?_)
  exact kk H1 locs1 ls hP1 hS1 hl
end ZM
/-- what is known of a field: its class in the list, the tables' words for it, whether it is a reference -/
def FB (ci j N : Nat) (Cn : String) (T : u_T) (b : Bool) : Prop := ci < 20 ∧ clX[ci]? = some (Cn, T, N) ∧ (∀ w ∈ u_ws Cn T N, w ∈ lwb) ∧ j < N ∧ fR ci j = b
def FP (N j : Nat) (T : u_T) (ty0 : Nat → FieldType) (ty : FieldType) : Prop := (∀ k, k < N → parseFieldDescriptor (T k).2.2.1 = some (ty0 k)) ∧ (∀ a, a < N → ∀ b, b < N → a ≠ b → (T a).2.1 ≠ (T b).2.1) ∧ parseFieldDescriptor (T j).2.2.1 = some ty
section ZQ
variable {D : va_G} {dT : ZT} {bs nL : Nat} {own : String} {cc : ByteArray} {ret : Option FieldType} {p : Program} {l : Launch} {e : Env} {R : Room} {s : State} {m : MethodId} {args : Array Value} {below : List Frame} {meth : Method} {c : Code} {cells slots : Nat} {Q : State → Prop} {h : HH} {S : SS} {pc pc' tgt : Nat} {L L' : List (Nat × Value)} {st : List Value} {H : Heap} {locs : List Loc} {ls : Array Slot}
theorem q_getI (C : Cx D dT bs own cc nL ret p s m args meth c) {ci j ix N : Nat} {k nn : Int} {ref Cn : String} {T : u_T} (hk : KD S k (ci : Int) nn) (B : FB ci j N Cn T false) (hlink : Cond.fieldLink own ix ref (T j).2.1 (T j).2.2.1 ∈ lwb) (hsame : (T j).1 = ref ∨ Cond.sameField ref (T j).1 (T j).2.1 (T j).2.2.1 ∈ lwb) (hd : decode cc pc = .ok (.getfield ix, 3)) (hp : pc + 3 = pc') (kk : V D dT bs nL p l e R s m args below meth c cells slots Q h S pc' L (zI (h k j) :: st)) : V D dT bs nL p l e R s m args below meth c cells slots Q h S pc L (zP bs k :: st) :=
  r_getI C hk B.1 B.2.1 B.2.2.1 B.2.2.2.1 B.2.2.2.2 hlink hsame hd hp kk
theorem q_getP (C : Cx D dT bs own cc nL ret p s m args meth c) {ci j ix N : Nat} {k nn t : Int} {ref Cn : String} {T : u_T} (hk : KD S k (ci : Int) nn) (B : FB ci j N Cn T true) (h13 : ci ≠ 13 ∧ ¬ (ci = 10 ∧ j = 11)) (hlink : Cond.fieldLink own ix ref (T j).2.1 (T j).2.2.1 ∈ lwb) (hsame : (T j).1 = ref ∨ Cond.sameField ref (T j).1 (T j).2.1 (T j).2.2.1 ∈ lwb) (ht : S.1 k j = t) (h0 : 0 ≤ t) (hd : decode cc pc = .ok (.getfield ix, 3)) (hp : pc + 3 = pc') (kk : V D dT bs nL p l e R s m args below meth c cells slots Q h S pc' L (zP bs t :: st)) : V D dT bs nL p l e R s m args below meth c cells slots Q h S pc L (zP bs k :: st) :=
  r_getP C hk B.1 B.2.1 B.2.2.1 B.2.2.2.1 B.2.2.2.2 h13 hlink hsame ht h0 hd hp kk
theorem q_getR (C : Cx D dT bs own cc nL ret p s m args meth c) {ci j ix N : Nat} {k nn : Int} {ref Cn : String} {T : u_T} (hk : KD S k (ci : Int) nn) (B : FB ci j N Cn T true) (h13 : ci ≠ 13 ∧ ¬ (ci = 10 ∧ j = 11)) (hlink : Cond.fieldLink own ix ref (T j).2.1 (T j).2.2.1 ∈ lwb) (hsame : (T j).1 = ref ∨ Cond.sameField ref (T j).1 (T j).2.1 (T j).2.2.1 ∈ lwb) (hd : decode cc pc = .ok (.getfield ix, 3)) (hp : pc + 3 = pc') (kk : V D dT bs nL p l e R s m args below meth c cells slots Q h S pc' L (zN bs (S.1 k j) :: st)) : V D dT bs nL p l e R s m args below meth c cells slots Q h S pc L (zP bs k :: st) :=
  r_getR C hk B.1 B.2.1 B.2.2.1 B.2.2.2.1 B.2.2.2.2 h13 hlink hsame hd hp kk
theorem q_putI (C : Cx D dT bs own cc nL ret p s m args meth c) {ci j ix N : Nat} {k nn v : Int} {ref Cn : String} {T : u_T} {ty0 : Nat → FieldType} {ty : FieldType} (hk : KD S k (ci : Int) nn) (B : FB ci j N Cn T false) (P : FP N j T ty0 ty) (hlink : Cond.fieldLink own ix ref (T j).2.1 (T j).2.2.1 ∈ lwb) (hsame : (T j).1 = ref ∨ Cond.sameField ref (T j).1 (T j).2.1 (T j).2.2.1 ∈ lwb) (hfin : (T j).2.2.2 = false ∨ ((T j).2.2.2 = true ∧ meth.name = "<init>" ∧ (T j).1 = own)) (hn : narrow ty (zI v) = zI v) (hfit : fits ty (zI v) = true) (hd : decode cc pc = .ok (.putfield ix, 3)) (hp : pc + 3 = pc') (kk : V D dT bs nL p l e R s m args below meth c cells slots Q (u2 h k j v) S pc' L st) : V D dT bs nL p l e R s m args below meth c cells slots Q h S pc L (zI v :: zP bs k :: st) :=
  r_putI C hk B.1 B.2.1 B.2.2.1 P.1 P.2.1 B.2.2.2.1 B.2.2.2.2 hlink hsame hfin P.2.2 hn hfit hd hp kk
theorem q_putR (C : Cx D dT bs own cc nL ret p s m args meth c) {ci j ix N : Nat} {k nn v : Int} {ref Cn : String} {T : u_T} {ty0 : Nat → FieldType} {ty : FieldType} (hk : KD S k (ci : Int) nn) (B : FB ci j N Cn T true) (P : FP N j T ty0 ty) (h13 : ci ≠ 13 ∧ ¬ (ci = 10 ∧ j = 11)) (hlink : Cond.fieldLink own ix ref (T j).2.1 (T j).2.2.1 ∈ lwb) (hsame : (T j).1 = ref ∨ Cond.sameField ref (T j).1 (T j).2.1 (T j).2.2.1 ∈ lwb) (hfin : (T j).2.2.2 = false ∨ ((T j).2.2.2 = true ∧ meth.name = "<init>" ∧ (T j).1 = own)) (hn : narrow ty (zN bs v) = zN bs v) (hfit : fits ty (zN bs v) = true) (hd : decode cc pc = .ok (.putfield ix, 3)) (hp : pc + 3 = pc') (kk : V D dT bs nL p l e R s m args below meth c cells slots Q h (uS S k j v) pc' L st) : V D dT bs nL p l e R s m args below meth c cells slots Q h S pc L (zN bs v :: zP bs k :: st) :=
  r_putR C hk B.1 B.2.1 B.2.2.1 P.1 P.2.1 B.2.2.2.1 B.2.2.2.2 h13 hlink hsame hfin P.2.2 hn hfit hd hp kk (by omega)
/-- a call's own words, all four in one -/
def WV (own : String) (ix : Nat) (Cn : String) (y : MethodName) (bytes : ByteArray) (mL : Nat) (rt : Option FieldType) (n : Nat) : Prop := GoodIn lwb (wsV own ix Cn y (.code y bytes mL rt :: lwb)) ∧ y.cls = Cn ∧ y.cls ≠ "java/lang/invoke/MethodHandle" ∧ y.cls ≠ "java/lang/invoke/VarHandle" ∧ (parseMethodDescriptor y.desc).map (fun d => d.parameters.length) = some n
def WS (own : String) (ix : Nat) (y : MethodName) (bytes : ByteArray) (mL : Nat) (rt : Option FieldType) (n : Nat) : Prop := GoodIn lwb (va_wsS own ix y (.code y bytes mL rt :: lwb)) ∧ y.cls ≠ "java/lang/invoke/MethodHandle" ∧ y.cls ≠ "java/lang/invoke/VarHandle" ∧ (parseMethodDescriptor y.desc).map (fun d => d.parameters.length) = some n
def RM (R : Room) (fr mL lo : Nat) : Prop := fr + 1 ≤ R.frames ∧ 8 + (mL + 11) + lo ≤ R.locals
theorem q_callV (C : Cx D dT bs own cc nL ret p s m args meth c) {y : MethodName} {bytes : ByteArray} {mL fr lo ix ci N n : Nat} {rt : Option FieldType} {Cn : String} {T : u_T} {b nn : Int} {As rest : List Value} {av : Nat → List Value} {v : Nat → Value} {h' : HH} {S' : SS} (hM : CM y bytes mL rt fr lo 0 0 av h S (fun bs => some (v bs)) h' S') (hav : av bs = zP bs b :: As) (hk : KD S b (ci : Int) nn) (hcl : ci < 20 ∧ clX[ci]? = some (Cn, T, N)) (hG : WV own ix Cn y bytes mL rt n) (hR : RM R fr mL lo) (hn : As.length = n) (hst : st = As.reverse ++ zP bs b :: rest) (hW : (rest.map fun v => v.category).sum ≤ 8) (hd : decode cc pc = .ok (.invokevirtual ix, 3)) (hp : pc + 3 = pc') (hf : cells ≤ R.cells ∧ slots ≤ R.slots)
    (kk : V D dT bs nL p l e R s m args below meth c cells slots Q h' S' pc' L (v bs :: rest)) : V D dT bs nL p l e R s m args below meth c cells slots Q h S pc L st :=
  r_callV C n hM hav hk hcl.1 hcl.2 hG.1 hG.2 hR hn hst hW hd hp hf kk
theorem q_callVv (C : Cx D dT bs own cc nL ret p s m args meth c) {y : MethodName} {bytes : ByteArray} {mL fr lo ix ci N n : Nat} {rt : Option FieldType} {Cn : String} {T : u_T} {b nn : Int} {As rest : List Value} {av : Nat → List Value} {h' : HH} {S' : SS} (hM : CM y bytes mL rt fr lo 0 0 av h S (fun _ => none) h' S') (hav : av bs = zP bs b :: As) (hk : KD S b (ci : Int) nn) (hcl : ci < 20 ∧ clX[ci]? = some (Cn, T, N)) (hG : WV own ix Cn y bytes mL rt n) (hR : RM R fr mL lo) (hn : As.length = n) (hst : st = As.reverse ++ zP bs b :: rest) (hW : (rest.map fun v => v.category).sum ≤ 8) (hd : decode cc pc = .ok (.invokevirtual ix, 3)) (hp : pc + 3 = pc') (hf : cells ≤ R.cells ∧ slots ≤ R.slots)
    (kk : V D dT bs nL p l e R s m args below meth c cells slots Q h' S' pc' L rest) : V D dT bs nL p l e R s m args below meth c cells slots Q h S pc L st :=
  r_callV C n hM hav hk hcl.1 hcl.2 hG.1 hG.2 hR hn hst hW hd hp hf kk
theorem q_callS (C : Cx D dT bs own cc nL ret p s m args meth c) {y : MethodName} {bytes : ByteArray} {mL fr lo ix n : Nat} {rt : Option FieldType} {As rest : List Value} {av : Nat → List Value} {v : Nat → Value} {h' : HH} {S' : SS} (hM : CM y bytes mL rt fr lo 0 0 av h S (fun bs => some (v bs)) h' S') (hav : av bs = As) (hG : WS own ix y bytes mL rt n) (hR : RM R fr mL lo) (hn : As.length = n) (hst : st = As.reverse ++ rest) (hW : (rest.map fun v => v.category).sum ≤ 8) (hd : decode cc pc = .ok (.invokestatic ix, 3)) (hp : pc + 3 = pc') (hf : cells ≤ R.cells ∧ slots ≤ R.slots)
    (kk : V D dT bs nL p l e R s m args below meth c cells slots Q h' S' pc' L (v bs :: rest)) : V D dT bs nL p l e R s m args below meth c cells slots Q h S pc L st :=
  r_callS C n hM hav hG.1 hG.2 hR hn hst hW hd hp hf kk
theorem q_callSv (C : Cx D dT bs own cc nL ret p s m args meth c) {y : MethodName} {bytes : ByteArray} {mL fr lo ix n : Nat} {rt : Option FieldType} {As rest : List Value} {av : Nat → List Value} {h' : HH} {S' : SS} (hM : CM y bytes mL rt fr lo 0 0 av h S (fun _ => none) h' S') (hav : av bs = As) (hG : WS own ix y bytes mL rt n) (hR : RM R fr mL lo) (hn : As.length = n) (hst : st = As.reverse ++ rest) (hW : (rest.map fun v => v.category).sum ≤ 8) (hd : decode cc pc = .ok (.invokestatic ix, 3)) (hp : pc + 3 = pc') (hf : cells ≤ R.cells ∧ slots ≤ R.slots)
    (kk : V D dT bs nL p l e R s m args below meth c cells slots Q h' S' pc' L rest) : V D dT bs nL p l e R s m args below meth c cells slots Q h S pc L st :=
  r_callS C n hM hav hG.1 hG.2 hR hn hst hW hd hp hf kk
end ZQ
theorem zb_nar {v : Int} (h : v = 0 ∨ v = 1) : narrow .boolean (zI v) = zI v := by rcases h with rfl | rfl <;> rfl
def FU : Nat := 20000
theorem uin_of {ws : List Cond} (ps : List Nat) (hp : ws = ps.filterMap (fun i => lw_tbl[i]?)) (hg : ws.all goodWord = true) : ∀ w ∈ ws, w ∈ lwb := by
  intro w hw
  have h1 := List.all_eq_true.mp hg w hw
  refine lwb_in ?_ h1
  rw [hp] at hw
  obtain ⟨i, -, hi⟩ := List.mem_filterMap.mp hw
  exact List.mem_of_getElem? hi
