-- super.m(..) where the superclass has m from its own superclass
section ZSI
variable {p : Program} {l : Launch} {e : Env} {R : Room} {s : State} {m : MethodId} {args : Array Value} {below : List Frame} {meth : Method} {c : Code}
theorem z_callSUi {T : State} {locs : List Loc} {cells slots : Nat} (X : Stand p l e R s m args below meth c T locs cells slots) (hexec : p.tables.exec = Jvm.exec) {own : String} {index : Nat} {x y : MethodName} {bytes : ByteArray} {maxL : Nat} {ret : Option FieldType} (hyx : y = ⟨y.cls, x.name, x.desc⟩)
    (hown : s.vm.findClass own = some m.cls) (hlink : (Cond.methodLink own index x).before args s = true) (hsame : (Cond.sameMethod x.cls y.cls x.name x.desc).before args s = true) (hsup : (Cond.superclass own x.cls).before args s = true) (hsup2 : (Cond.superclass x.cls y.cls).before args s = true)
    (hinst : (Cond.instanceMethod y).before args s = true) (hcode : (Cond.code y bytes maxL ret).before args s = true) (hno : x.name ≠ "<init>")
    {W : Nat} {Pre : Pt → Array Value → Prop} {Post : Pt → Array Value → Option Value → Pt → Prop} (hK : Back l R p e below s args y 3 W Pre Post)
    {b : Addr} {cellB : Cell} {kB : Class} (hcell : T.heap[b]? = some cellB) (hobj : cellB.vm.isStatics = false) (hkB : s.vm.classes[cellB.cls]? = some kB)
    {g : JFrame} (hg : g.method = m) (hsize : g.locals.size = c.maxLocals) {argsL rest : List Value} (hlen : ∀ sig, parseMethodDescriptor y.desc = some sig → argsL.length = sig.parameters.length)
    (hstack : g.stack = argsL.reverse ++ .ref b :: rest) (hW : 2 * g.monitorRoom + (rest.map fun v => v.category).sum ≤ W) (hdg : decode c.code g.pc = .ok (.invokespecial index, 3))
    (hpre : ∀ vm₁, s.WarmedH vm₁ → Pre ⟨T.setVm vm₁, locs, cells, slots⟩ (Value.ref b :: argsL).toArray) :
    ∃ (v : Option Value) (vm₁ : Vm) (B : Pt), s.WarmedH vm₁ ∧ Stand p l e R s m args below meth c B.U B.locs B.cells B.slots ∧ Post ⟨T.setVm vm₁, locs, cells, slots⟩ (Value.ref b :: argsL).toArray v B ∧
      ∀ target, Steps p.tables e below (B.U.setTop { g with pc := g.pc + 3, stack := v.toList ++ rest }) target → Steps p.tables e below (T.setTop g) target := by
  obtain ⟨mk, methM, hnamed, hmethM, hstM, habM⟩ := Cond.instanceMethod_spec hinst
  obtain ⟨methM', cM, hmethM', -, -, -, -, -, -, hsigM⟩ := Cond.code_spec hnamed hcode
  cases hmethM.symm.trans hmethM'
  obtain ⟨ps, dk, kp, hps, hdk, hkp, hsuper, -, -, hnid⟩ := Cond.superclass_spec hown hsup
  obtain ⟨p2, k2, kp2, hp2, hk2, -, hsuper2, -, -, -⟩ := Cond.superclass_spec hps hsup2
  have hn : s.methodNamed? ⟨y.cls, x.name, x.desc⟩ = some mk := by rw [← hyx]; exact hnamed
  have hpm : p2 = mk.cls := Option.some.inj (hp2.symm.trans (findClass_of_methodNamed hnamed))
  have hsub : s.vm.isSubclass ps mk.cls = true := by
    have hlt : ps < s.vm.classes.size := (Array.getElem?_eq_some_iff.mp hk2).1
    obtain ⟨n, hn1⟩ : ∃ n, s.vm.classes.size = n + 1 := ⟨s.vm.classes.size - 1, (Nat.sub_add_cancel (Nat.succ_le_of_lt (Nat.lt_of_le_of_lt (Nat.zero_le _) hlt))).symm⟩
    rw [← hpm, Vm.isSubclass, hn1]
    simp [Vm.isSubclassAux, hk2, hsuper2]
  obtain ⟨vm₁, X₁, hstep₁⟩ := X.invokespecialUp hexec hown hlink hsame hn hmethM hstM habM hno hdk hnid hps hsuper hsub (a := b) (cell := cellB) hcell
    (fun z h => by rw [h] at hobj; cases hobj) hkB (g := g) hg (argsL := argsL) (rest := rest) (hlen _ hsigM) hstack hdg
  obtain ⟨v, B, X', hpost, hsteps⟩ := hK m meth c ⟨T.setVm vm₁, locs, cells, slots⟩ { g with stack := rest } (.invokespecial index) mk (Value.ref b :: argsL).toArray X₁ hg hsize hdg hW (X₁.named hnamed) (hpre vm₁ X₁.warmed)
  exact ⟨v, vm₁, B, X₁.warmed, X', hpost, fun target h => hstep₁ _ (by rw [doInvoke_state]; exact hsteps.trans h)⟩
variable {H : Heap} {locs : List Loc} {cells slots : Nat}
theorem z_runSUi {x y : MethodName} {bytes cc : ByteArray} {maxL nL mc ms n index : Nat} {ret : Option FieldType} {ws : List Cond} {rm : Room} {Pc : Array Value → State → Prop} {Qc : Array Value → State → Outcome → State → Prop} {free : Addr → Prop} {Ts : List Cond} {own C : String} {cC : ClassId} {b : Addr} {As rest : List Value} {g : JFrame} (hyx : y = ⟨y.cls, x.name, x.desc⟩)
    (hat : ClassAt s C cC) (S : CallFix p m c cc nL s args Ts own) (hM : Met l y ws rm Pc Qc mc ms free) (hrc : rm.cells = mc) (hrs : rm.slots = ms) (hfr : rm.frames + 1 ≤ R.frames) (hlo : 8 + (maxL + 11) + rm.locals ≤ R.locals) (hws : ∀ w ∈ ws, ∀ (a' : Array Value) (U : State), s.WarmedH U.vm → w.before a' U = true) (hcw : Cond.code y bytes maxL ret ∈ ws)
    (hl1 : (Cond.methodLink own index x).before args s = true) (hl2 : (Cond.sameMethod x.cls y.cls x.name x.desc).before args s = true) (hl3 : (Cond.superclass own x.cls).before args s = true) (hl5 : (Cond.superclass x.cls y.cls).before args s = true) (hl4 : (Cond.instanceMethod y).before args s = true) (hini : (Cond.initialized y.cls).before args s = true) (hcode : (Cond.code y bytes maxL ret).before args s = true) (hno : x.name ≠ "<init>") (hlen : ∀ sig, parseMethodDescriptor y.desc = some sig → n = sig.parameters.length) (hp : PreV s H C b Pc As)
    (hg : g.method = m) (hn : As.length = n) (hsize : g.locals.size = nL) (hstack : g.stack = As.reverse ++ .ref b :: rest) (hW : 2 * g.monitorRoom + (rest.map fun v => v.category).sum ≤ 8) (hdg : decode cc g.pc = .ok (.invokespecial index, 3)) (hf : cells + mc ≤ R.cells ∧ slots + ms ≤ R.slots) :
    va_Run p l e R s m args below meth c H locs cells slots mc ms g rest (Qc (Value.ref b :: As).toArray) (free) := by
  have hK : Back l R p e below s args y 3 8 (PreOf R mc ms Pc) (PostOf Qc mc ms free) := back_of (bytes := bytes) (maxL := maxL) (ret := ret) hM hp.1 hrc hrs hfr hlo hws hcw (fun a' U hW => word_at hW (Or.inl (by first | rfl | simp [Cond.onTables, Cond.keeps, Cond.steady])) hini)
  obtain ⟨hx, hb, hml, ho, -⟩ := S
  obtain ⟨-, ⟨cellB, hcB, hoB, hclB⟩, hPc⟩ := hp
  obtain ⟨hfc, kB, hkB, -⟩ := hat
  cases hfc.symm.trans hclB
  intro T hT X
  obtain ⟨v, vm₁, ⟨U', l2, c2, s2⟩, hW₁, X', ⟨g', mk, t, L, e1, e2, hq, h1, hL, h2, h3⟩, st⟩ := z_callSUi X hx (bytes := bytes) (maxL := maxL) (ret := ret) hyx ho hl1 hl2 hl3 hl5 hl4 hcode hno hK (by rw [hT]; exact hcB) hoB hkB hg (hsize.trans hml.symm) (argsL := As) (rest := rest) (fun sig h => hn.trans (hlen sig h)) hstack hW (by rw [hb]; exact hdg)
    (fun vm₁ hW₁ => ⟨hf.1, hf.2, hPc (T.setVm vm₁) hT hW₁⟩)
  dsimp only [Pt.U, Pt.locs, Pt.cells, Pt.slots] at X' e1 e2 h1 h2 h3 st
  subst h1; subst h2; subst h3
  exact ⟨v, (T.setVm vm₁).calling g' mk (Value.ref b :: As).toArray, t, U', L, hT, X', hL, e1, e2, hq, st⟩
end ZSI
section ZSD
variable {D : va_G} {dT : ZT} {bs nL : Nat} {own : String} {cc : ByteArray} {ret : Option FieldType} {p : Program} {l : Launch} {e : Env} {R : Room} {s : State} {m : MethodId} {args : Array Value} {below : List Frame} {meth : Method} {c : Code} {cells slots : Nat} {Q : State → Prop} {h : HH} {S : SS} {pc pc' tgt : Nat} {L L' : List (Nat × Value)} {st : List Value} {H : Heap} {locs : List Loc} {ls : Array Slot}
theorem q_callSUi (C : Cx D dT bs own cc nL ret p s m args meth c) {x y : MethodName} {bytes : ByteArray} {mL fr lo mc ms ix n : Nat} {rt : Option FieldType} {b : Int} {As rest : List Value} {av : Nat → List Value} {v : Nat → Value} {h' : HH} {S' : SS} (hM : CM y bytes mL rt fr lo mc ms av h S (fun bs => some (v bs)) h' S') (hav : av bs = zP bs b :: As) (hH : isHb S b = true) (hyx : y = ⟨y.cls, x.name, x.desc⟩) (w1 : Cond.methodLink own ix x ∈ lwb) (w2 : Cond.sameMethod x.cls y.cls x.name x.desc ∈ lwb) (w3 : Cond.superclass own x.cls ∈ lwb) (w4 : Cond.superclass x.cls y.cls ∈ lwb) (w5 : Cond.instanceMethod y ∈ lwb) (w6 : Cond.initialized y.cls ∈ lwb) (w7 : Cond.code y bytes mL rt ∈ lwb) (hno : x.name ≠ "<init>" ∧ (parseMethodDescriptor y.desc).map (fun d => d.parameters.length) = some n) (hR : RM R fr mL lo) (hn : As.length = n) (hst : st = As.reverse ++ zP bs b :: rest) (hW : (rest.map fun v => v.category).sum ≤ 8) (hd : decode cc pc = .ok (.invokespecial ix, 3)) (hp : pc + 3 = pc') (hf : cells + mc ≤ R.cells ∧ slots + ms ≤ R.slots)
    (kk : V D dT bs nL p l e R s m args below meth c (cells + mc) (slots + ms) Q h' S' pc' L (v bs :: rest)) : V D dT bs nL p l e R s m args below meth c cells slots Q h S pc L st := by
  intro H locs ls hP hS hl
  subst hp
  subst hst
  obtain ⟨ci, Cn, T, h1, h2, h3, -⟩ := isHb_cl hH
  have hat := hP.at h1.1 h1.2.1
  rw [ent_obj h1 h2] at hat
  have hM' := hM l D dT bs
  rw [hav] at hM'
  have hK := C.2.2.2.2.2.2.2.1
  have hts := C.2.2.2.2.1
  have hG : GoodIn lwb (.code y bytes mL rt :: lwb) := lwb_goodIn (fun w hw => by
    rcases List.mem_cons.mp hw with rfl | hw
    · exact w7
    · exact hw)
  refine z_call (z_runSUi (C := Cn) (n := n) hyx ((hK.1 ci _ h3).2) (As := As) (rest := rest) (b := bs + b.toNat) (g := F0 m pc ls (As.reverse ++ zP bs b :: rest)) ⟨C.1, C.2.1, C.2.2.1, C.2.2.2.1, C.2.2.2.2.1⟩ hM' rfl rfl hR.1 hR.2 (pay_in hts hG) List.mem_cons_self (hts _ w1) (hts _ w2) (hts _ w3) (hts _ w4) (hts _ w5) (hts _ w6) (hts _ w7) hno.1 (fun sig hs => by
    have h2 := hno.2
    rw [hs] at h2
    exact (Option.some.inj h2).symm) ⟨PP_blind, va_recv hK (va_P1 hat) h3 (q0 := 0) rfl, fun U hU hW => PP_at C hP hS hU hW⟩ rfl hn hl.1 rfl (lv_room hW) hd hf) hS (fun H1 locs1 hP1 hS1 => ?_)
  exact kk H1 locs1 ls hP1 hS1 hl
end ZSD
noncomputable def ckX {α : Type} (S S' : SS) (x : Option α) : Option α := @ite _ (SXt S S') (Classical.propDecidable _) x none
theorem ckX_in {α : Type} {S S' : SS} {x : Option α} {r : α} (h : ckX S S' x = some r) : SXt S S' ∧ x = some r := by
  unfold ckX at h
  by_cases c : SXt S S'
  · rw [if_pos c] at h; exact ⟨c, h⟩
  · rw [if_neg c] at h; cases h
theorem ckX_ok {α : Type} {S S' : SS} {x : Option α} (h : SXt S S') : ckX S S' x = x := by
  unfold ckX
  rw [if_pos h]
theorem isHb_ext {S S' : SS} {k : Int} (a : SXt S S') (h : isHb S k = true) : isHb S' k = true := by
  obtain ⟨h1, h2, h3, h4, h5⟩ := isHb_at h
  have e : ∀ j : Int, S'.1 k j = S.1 k j := fun j => a.2 k j h2
  have hlt : k < S'.2 := by have := a.1; omega
  have h' := h
  unfold isHb at h' ⊢
  simp only [e] at h' ⊢
  simp_all
