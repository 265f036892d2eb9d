-- multianewarray of two dimensions: a row of my own
section ZMul
def zmC (cA : ClassId) (N h0 i : Nat) : Cell := arrV cA N (fun j => if j < i then .ref (h0 + 1 + j) else .null)
def zmI (comp : ClassId) (M : Nat) (dv : Value) : Cell := arrV comp M (fun _ => dv)
/-- the outer row, and i inner ones that stand in it -/
def zmS (u : State) (cA comp : ClassId) (N M : Nat) (dv : Value) : Nat → State
  | 0 => u.pushCell (zmC cA N u.heap.size 0)
  | i + 1 => ((zmS u cA comp N M dv i).pushCell (zmI comp M dv)).setCell u.heap.size (zmC cA N u.heap.size (i + 1))
theorem zmC_step {cA : ClassId} {N h0 i : Nat} : (zmC cA N h0 i).setSlot i (.ref (h0 + 1 + i)) = zmC cA N h0 (i + 1) := by
  unfold zmC
  rw [arrV_store]
  congr 1
  funext j
  unfold updV
  by_cases e : j = i
  · subst e; rw [if_pos rfl, if_pos (by omega)]
  · rw [if_neg e]
    show (if j < i then Value.ref (h0 + 1 + j) else .null) = if j < i + 1 then Value.ref (h0 + 1 + j) else .null
    by_cases hj : j < i
    · rw [if_pos hj, if_pos (by omega)]
    · rw [if_neg hj, if_neg (by omega)]
theorem zmC_size {cA : ClassId} {N h0 i : Nat} : (zmC cA N h0 i).slots.size = N := arrV_size _ _ _
theorem zmI_size {comp : ClassId} {M : Nat} {dv : Value} : (zmI comp M dv).slots.size = M := arrV_size _ _ _
theorem zmS_all (u : State) (cA comp : ClassId) (N M : Nat) (dv : Value) : ∀ i : Nat, (zmS u cA comp N M dv i).heap.size = u.heap.size + 1 + i ∧ (zmS u cA comp N M dv i).heap[u.heap.size]? = some (zmC cA N u.heap.size i) ∧ (zmS u cA comp N M dv i).vm = u.vm ∧ (zmS u cA comp N M dv i).slotsUsed = u.slotsUsed + N + i * M ∧ (∀ a : Nat, a < u.heap.size → (zmS u cA comp N M dv i).heap[a]? = u.heap[a]?) ∧ (∀ j : Nat, j < i → (zmS u cA comp N M dv i).heap[u.heap.size + 1 + j]? = some (zmI comp M dv)) := by
  intro i
  induction i with
  | zero =>
    refine ⟨by simp [zmS], by simp [zmS], rfl, by simp [zmS, zmC_size], fun a ha => State.heap_pushCell_of_lt _ _ ha, fun j hj => absurd hj (by omega)⟩
  | succ i ih =>
    obtain ⟨a1, a2, a3, a4, a5, a6⟩ := ih
    have hlt : u.heap.size < (zmS u cA comp N M dv i).heap.size := by omega
    have hb : ((zmS u cA comp N M dv i).pushCell (zmI comp M dv)).heap[u.heap.size]? = some (zmC cA N u.heap.size i) := by rw [State.heap_pushCell_of_lt (h := hlt)]; exact a2
    refine ⟨?_, State.heap_setCell_self hb, by simp [zmS, a3], ?_, fun a ha => ?_, fun j hj => ?_⟩
    · simp [zmS, State.setCell, a1]; omega
    · simp [zmS, a4, zmI_size, Nat.succ_mul]; omega
    · show (((zmS u cA comp N M dv i).pushCell (zmI comp M dv)).setCell u.heap.size _).heap[a]? = _
      have h3 : a < (zmS u cA comp N M dv i).heap.size := by omega
      rw [State.heap_setCell_other (Nat.ne_of_gt ha), State.heap_pushCell_of_lt (h := h3)]
      exact a5 a ha
    · show (((zmS u cA comp N M dv i).pushCell (zmI comp M dv)).setCell u.heap.size _).heap[u.heap.size + 1 + j]? = _
      rw [State.heap_setCell_other (show u.heap.size ≠ u.heap.size + 1 + j by omega)]
      by_cases e : j = i
      · subst e
        rw [← a1]
        exact State.heap_pushCell_size _ _
      · have h3 : u.heap.size + 1 + j < (zmS u cA comp N M dv i).heap.size := by omega
        rw [State.heap_pushCell_of_lt (h := h3)]
        exact a6 j (by omega)
theorem zmS_top (u : State) (f : JFrame) (cA comp : ClassId) (N M : Nat) (dv : Value) : ∀ i : Nat, zmS (u.setTop f) cA comp N M dv i = (zmS u cA comp N M dv i).setTop f
  | 0 => rfl
  | i + 1 => by simp only [zmS, zmS_top u f cA comp N M dv i, State.heap_setTop, State.pushCell_setTop, State.setCell_setTop]
theorem zm_over {args : Array Value} {s : State} {t : FieldType} (h : (Cond.arrayOver (.array t)).before args s = true) : ∃ (comp c : ClassId) (k : Class), s.vm.findClass (FieldType.array t).toString = some comp ∧ s.vm.classes[c]? = some k ∧ k.kind = .array comp (.array t) ∧ s.vm.findClass ("[" ++ (FieldType.array t).toString) = some c := by
  simp only [Cond.before, Cond.holds, Cond.value, beq_iff_eq] at h
  cases hc : s.vm.findClass (FieldType.array t).toString with
  | none => simp [hc] at h
  | some comp =>
    simp only [hc, Option.bind_some, Option.bind_eq_some_iff, Option.map_eq_some_iff] at h
    obtain ⟨c, hi, k, hk, hb⟩ := h
    have hp := (Array.findIdx?_eq_some_iff_getElem.mp hi).2.1
    rw [(Array.getElem?_eq_some_iff.mp hk).2] at hp
    cases hkind : k.kind with
    | array component ty =>
      rw [hkind] at hb hp
      simp at hb hp
      exact ⟨comp, c, k, rfl, hk, by rw [hkind, hp, hb.1], hb.2⟩
    | _ => rw [hkind] at hb; simp at hb
section ZMw
variable {E : CtlPost} {e : Env} {d : Bool} {acts : List Action} {u : State}
theorem zm_make {cA comp cc : ClassId} {kA kC : Class} {ty : FieldType} {n m : Int32} (hkA : u.vm.classes[cA]? = some kA) (hA : kA.kind = .array comp (.array ty)) (hkC : u.vm.classes[comp]? = some kC) (hC : kC.kind = .array cc ty) (hn : ¬ n < 0) (hm : ¬ m < 0)
    (l1 : ¬ n.toNatClampNeg > e.platform.arrayLengthLimit) (g1 : ¬ n.toNatClampNeg * componentBytes (.array ty) > e.platform.maxHeapBytes) (l2 : ¬ m.toNatClampNeg > e.platform.arrayLengthLimit) (g2 : ¬ m.toNatClampNeg * componentBytes ty > e.platform.maxHeapBytes) (hdf : fits ty (defaultValue ty) = true)
    (hc : u.heap.size + 1 + n.toNatClampNeg ≤ e.platform.maxCells) (hs : u.slotsUsed + (n.toNatClampNeg + n.toNatClampNeg * m.toNatClampNeg) ≤ e.platform.maxSlots)
    {Q : Addr → Pre} (hq : ∀ d' acts', Q u.heap.size d' acts' (zmS u cA comp n.toNatClampNeg m.toNatClampNeg (defaultValue ty) n.toNatClampNeg)) : wp (multianewarray.make cA [n, m]) Q E e d acts u := by
  have hfind : ([m].find? (· < 0)) = none := by simp [hm]
  rw [multianewarray.make]
  simp only [wp_bind', W.ite, hn, if_false, wp_pure', W.theClass, hkA, hA, Option.some.injEq, exists_eq_left']
  refine W.newArray_of hkA hA l1 g1 (by omega) (by omega) rfl fun acts1 => ?_
  have e0 : u.pushCell { cls := cA, slots := Array.replicate n.toNatClampNeg .null } = zmS u cA comp n.toNatClampNeg m.toNatClampNeg (defaultValue ty) 0 := by
    show _ = u.pushCell (zmC cA n.toNatClampNeg u.heap.size 0)
    unfold zmC
    simp only [Nat.not_lt_zero, if_false]
    rw [← arrV_new]
  rw [e0]
  simp only [hfind]
  rw [ite_self, wp_bind', Std.Legacy.Range.forIn_eq_forIn_range', show ([:n.toNatClampNeg] : Std.Legacy.Range).size = n.toNatClampNeg from by simp [Std.Legacy.Range.size]]
  show wp (forIn (List.range' 0 n.toNatClampNeg 1) PUnit.unit _) _ E e d acts1 _
  refine wp_forIn_inv (fun rest s' => ∃ i, rest = List.range' i (n.toNatClampNeg - i) ∧ i ≤ n.toNatClampNeg ∧ s' = zmS u cA comp n.toNatClampNeg m.toNatClampNeg (defaultValue ty) i) _ _ ⟨0, rfl, Nat.zero_le _, rfl⟩ ?_ ?_
  · rintro x rest s' d' acts' Q' ⟨i, hl, hi, rfl⟩ hnext
    have hne : n.toNatClampNeg - i ≠ 0 := fun z => by rw [z] at hl; simp at hl
    obtain ⟨r, hr⟩ : ∃ r, n.toNatClampNeg - i = r + 1 := ⟨n.toNatClampNeg - i - 1, by omega⟩
    rw [hr, List.range'_succ] at hl
    obtain ⟨rfl, hrest⟩ := List.cons.inj hl
    obtain ⟨a1, a2, a3, a4, a5, a6⟩ := zmS_all u cA comp n.toNatClampNeg m.toNatClampNeg (defaultValue ty) x
    have hmul : x * m.toNatClampNeg + m.toNatClampNeg ≤ n.toNatClampNeg * m.toNatClampNeg := by
      have := Nat.mul_le_mul_right m.toNatClampNeg (show x + 1 ≤ n.toNatClampNeg by omega)
      rw [Nat.succ_mul] at this
      exact this
    simp only [wp_bind']
    rw [multianewarray.make]
    simp only [wp_bind', W.ite, hm, if_false, wp_pure', W.theClass, a3, hkC, hC, Option.some.injEq, exists_eq_left']
    refine W.newArray_of (by rw [a3]; exact hkC) hC l2 g2 (by omega) (by omega) hdf fun acts2 => ?_
    have e1 : ({ cls := comp, slots := Array.replicate m.toNatClampNeg (defaultValue ty) } : Cell) = zmI comp m.toNatClampNeg (defaultValue ty) := arrV_new _ _ _
    rw [e1]
    have hlt : u.heap.size < (zmS u cA comp n.toNatClampNeg m.toNatClampNeg (defaultValue ty) x).heap.size := by omega
    simp only [wp_bind', W.writeLoc, wp_pure']
    refine ⟨zmC cA n.toNatClampNeg u.heap.size x, by rw [State.heap_pushCell_of_lt (h := hlt)]; exact a2, (by show Cell.vm (arrV _ _ _) ≠ _; intro z; cases z), by rw [zmC_size]; omega, ?_, hnext _ _ _ ⟨x + 1, by rw [hrest, show n.toNatClampNeg - (x + 1) = r from by omega], by omega, ?_⟩⟩
    · show State.fitsSlot _ cA .none x _ = true
      simp [State.fitsSlot, State.slotType?, a3, hkA, hA]
      rfl
    · show State.setCell _ _ ((zmC cA n.toNatClampNeg u.heap.size x).setSlot x _) = _
      rw [a1, zmC_step]
      rfl
  · rintro s' d' acts' ⟨i, hl, hi, rfl⟩
    have hi2 : i = n.toNatClampNeg := by
      apply Nat.le_antisymm hi
      apply Nat.not_lt.mp
      intro z
      obtain ⟨r, hr⟩ : ∃ r, n.toNatClampNeg - i = r + 1 := ⟨n.toNatClampNeg - i - 1, by omega⟩
      rw [hr, List.range'_succ] at hl
      cases hl
    subst hi2
    simp only [wp_pure']
    exact hq _ _
end ZMw
section ZMs
variable {p : Program} {l : Launch} {e : Env} {R : Room} {s : State} {m : MethodId} {args : Array Value} {below : List Frame} {meth : Method} {c : Code} {locs : List Loc} {cells slots : Nat}
theorem zm_stand {T : State} (X : Stand p l e R s m args below meth c T locs cells slots) (cA comp : ClassId) (N M : Nat) (dv : Value) : ∀ i : Nat, Stand p l e R s m args below meth c (zmS T cA comp N M dv i) locs (cells + 1 + i) (slots + N + i * M) := by
  intro i
  induction i with
  | zero =>
    have h := X.pushed (zmC cA N T.heap.size 0)
    rw [zmC_size] at h
    simpa [zmS] using h
  | succ i ih =>
    obtain ⟨a1, a2, a3, a4, a5, a6⟩ := zmS_all T cA comp N M dv i
    have hlt : T.heap.size < (zmS T cA comp N M dv i).heap.size := by omega
    have hcell : ((zmS T cA comp N M dv i).pushCell (zmI comp M dv)).heap[T.heap.size]? = some (zmC cA N T.heap.size i) := by rw [State.heap_pushCell_of_lt (h := hlt)]; exact a2
    have h := (ih.pushed (zmI comp M dv)).stored hcell i (.ref (T.heap.size + 1 + i))
    rw [zmI_size, zmC_step] at h
    have h2 := h.dropFresh (fun x hx => by
      rw [List.mem_singleton.mp hx]
      exact X.heapGrown)
    rw [show slots + N + (i + 1) * M = slots + N + i * M + M from by rw [Nat.succ_mul]; omega]
    exact h2
theorem zm_step {T : State} (X : Stand p l e R s m args below meth c T locs cells slots) (hexec : p.tables.exec = Jvm.exec) {own : String} {index : Nat} {ty : FieldType}
    (hown : s.vm.findClass own = some m.cls) (hclink : (Cond.classLink own index ("[" ++ (FieldType.array ty).toString)).before args s = true) (hover : ∃ (comp c : ClassId) (k : Class), s.vm.findClass (FieldType.array ty).toString = some comp ∧ s.vm.classes[c]? = some k ∧ k.kind = .array comp (.array ty) ∧ s.vm.findClass ("[" ++ (FieldType.array ty).toString) = some c) (harr : (Cond.arrayClass ty).before args s = true)
    {g : JFrame} (hg : g.method = m) (hdg : decode c.code g.pc = .ok (.multianewarray index 2, 4)) {n k : Int32} {rest : List Value} (hstack : g.stack = .int k :: .int n :: rest)
    (hn : ¬ n < 0) (hk : ¬ k < 0) (b1 : n.toNatClampNeg * 4 ≤ 536870912) (b2 : k.toNatClampNeg * componentBytes ty ≤ 536870912) (b3 : k.toNatClampNeg ≤ 536870912) (hdf : fits ty (defaultValue ty) = true)
    (hcells : cells + (1 + n.toNatClampNeg) ≤ R.cells) (hslots : slots + (n.toNatClampNeg + n.toNatClampNeg * k.toNatClampNeg) ≤ R.slots) :
    ∃ (vm₁ : Vm) (cA comp : ClassId), s.vm.findClass ("[" ++ (FieldType.array ty).toString) = some cA ∧ s.vm.findClass (FieldType.array ty).toString = some comp ∧
      Stand p l e R s m args below meth c (zmS (T.setVm vm₁) cA comp n.toNatClampNeg k.toNatClampNeg (defaultValue ty) n.toNatClampNeg) locs (cells + (1 + n.toNatClampNeg)) (slots + (n.toNatClampNeg + n.toNatClampNeg * k.toNatClampNeg)) ∧
      ∀ target, Steps p.tables e below ((zmS (T.setVm vm₁) cA comp n.toNatClampNeg k.toNatClampNeg (defaultValue ty) n.toNatClampNeg).setTop { g with pc := g.pc + 4, stack := .ref T.heap.size :: rest }) target → Steps p.tables e below (T.setTop g) target := by
  subst hg
  have hpl : e.platform.magicAccessors = ({} : Platform).magicAccessors := by rw [X.admits.platform]
  obtain ⟨comp, cA, kA, hcomp, hkA, hkindA, hnameA⟩ := hover
  obtain ⟨comp', kC, cc, hcomp', hkC, hkindC⟩ := Cond.arrayClass_spec harr
  cases hcomp'.symm.trans hcomp
  obtain ⟨c0, hfc0, hcl⟩ := Cond.classLink_spec hown hclink e.platform hpl
  cases hnameA.symm.trans hfc0
  obtain ⟨hg₁, hwarm₁, hready₁⟩ := State.classEntry (e := e) X.warmed hcl
  generalize T.vm.noted g.method.cls index (.cls cA) = vm₁ at hg₁ hwarm₁ hready₁
  obtain ⟨kA₁, hkA₁, heA⟩ := hwarm₁.alike.2.2 _ _ hkA
  obtain ⟨kC₁, hkC₁, heC⟩ := hwarm₁.alike.2.2 _ _ hkC
  have X₁ := X.noted hwarm₁
  obtain ⟨hr1, hr2⟩ := X.roomAbove hcells hslots
  have XF := zm_stand X₁ cA comp n.toNatClampNeg k.toNatClampNeg (defaultValue ty) n.toNatClampNeg
  rw [show cells + 1 + n.toNatClampNeg = cells + (1 + n.toNatClampNeg) from by omega, show slots + n.toNatClampNeg + n.toNatClampNeg * k.toNatClampNeg = slots + (n.toNatClampNeg + n.toNatClampNeg * k.toNatClampNeg) from by omega] at XF
  refine ⟨vm₁, cA, comp, hnameA, hcomp, XF, fun target hrest => ?_⟩
  have l1 : ¬ n.toNatClampNeg > e.platform.arrayLengthLimit := by rw [Launch.admits_arrayLengthLimit X.admits]; omega
  have g1 : ¬ n.toNatClampNeg * componentBytes (.array ty) > e.platform.maxHeapBytes := by
    rw [Launch.admits_maxHeapBytes X.admits]; show ¬ n.toNatClampNeg * 4 > 536870912; omega
  have l2 : ¬ k.toNatClampNeg > e.platform.arrayLengthLimit := by rw [Launch.admits_arrayLengthLimit X.admits]; omega
  have g2 : ¬ k.toNatClampNeg * componentBytes ty > e.platform.maxHeapBytes := by rw [Launch.admits_maxHeapBytes X.admits]; omega
  jvm_step X.here [hexec, hdg]
  simp only [multianewarray.sem, wp_bind', W.resolveClassAt_links (State.method?_setTop g X.here.top) hg₁]
  rw [W.popN, if_neg (by decide)]
  refine ⟨g, State.topJava?_setTop' (s := T.setVm vm₁) g X.here.top, [.int n, .int k], rest, rfl, hstack, ?_⟩
  simp only [List.mapM_cons, List.mapM_nil, wp_bind', wp_pure']
  refine zm_make (kA := kA₁) (kC := kC₁) (comp := comp) (cc := cc) (ty := ty) hkA₁ (by rw [heA]; exact hkindA) hkC₁ (by rw [heC]; exact hkindC) hn hk l1 g1 l2 g2 hdf (by show T.heap.size + 1 + _ ≤ _; omega) (by show T.slotsUsed + _ ≤ _; omega) (fun d' acts' => ?_)
  have eS : ((T.setTop g).setVm vm₁).setTop { g with stack := rest } = (T.setVm vm₁).setTop { g with stack := rest } := by
    show ((T.setVm vm₁).setTop g).setTop _ = _
    rw [State.setTop_setTop]
  rw [eS, zmS_top]
  simp only [wp_bind', W.mark, W.pushRef, State.topJava?_setTop' _ XF.here.top, Option.some.injEq, exists_eq_left', State.setTop_setTop, State.heap_setTop]
  intro acts
  simp [jvm, XF.here.top]
  exact hrest
end ZMs
end ZMul
