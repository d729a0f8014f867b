/-! what the law's own methods rest on -/
def vwNc (U : State) : Prop := va_Nc "java/lang/IllegalStateException" "java/lang/IllegalArgumentException" U
def vwAll (A : Nat → Prop) (U : State) (H : Heap) : Prop := vwE A U H ∧ vwTh A U H ∧ vwX U ∧ vwR U ∧ vwNc U
theorem vwAll.call {A : Nat → Prop} {U : State} {g : JFrame} {mk : MethodId} {a : Array Value} (h : vwAll A U U.heap) : vwAll A (U.calling g mk a) (U.calling g mk a).heap :=
  ⟨h.1.call, h.2.1.call, vwX.same (s := U) (U := U.calling g mk a) rfl h.2.2.1, vwR.same (s := U) (U := U.calling g mk a) rfl h.2.2.2.1, va_Nc.moved (u := U) (U := U.calling g mk a) (Vm.Alike.refl U.vm) h.2.2.2.2⟩
theorem vwAll.give {A B : Nat → Prop} {s U : State} {H : Heap} {locs : List Loc} (h : vwAll A s s.heap) (hS : va_S A s.heap H locs) (hF : ∀ q, B q → A q) (hW : s.WarmedH U.vm) (hU : U.heap = H) : vwAll B U U.heap :=
  ⟨h.1.give hS hF hW hU, h.2.1.give hS hF hW hU, vwX.warm hW h.2.2.1, vwR.warm hW h.2.2.2.1, va_Nc.moved hW.alike h.2.2.2.2⟩
section XL2
variable {p : Program} {l : Launch} {e : Env} {R : Room} {s : State} {m : MethodId} {args : Array Value} {below : List Frame} {meth : Method} {c : Code} {H : Heap} {locs : List Loc} {cells slots : Nat} {Q : State → Prop}
/-- a static method with handlers is called -/
theorem xrunS {y : MethodName} {bytes cc : ByteArray} {maxL nL mc ms n index : Nat} {ret : Option FieldType} {hh : List (Nat × Nat × Nat × Nat)} {ws : List Cond} {rm : Room} {Pc : Array Value → State → Prop} {Qc : Array Value → State → Outcome → State → Prop} {free : Addr → Prop} {Ts : List Cond} {own : String} {As rest : List Value} {g : JFrame}
    (S : CallFix p m c cc nL s args Ts own) (hM : Met l y ws rm Pc Qc mc ms free) (hrc : rm.cells = mc) (hrs : rm.slots = ms) (hR : rm.frames + 1 ≤ R.frames ∧ 8 + (maxL + 11) + rm.locals ≤ R.locals) (hG : GoodIn Ts ws) (hcw : Cond.codeWith y bytes maxL ret hh ∈ ws)
    (hini : (Cond.initialized y.cls).before args s = true) (hy : y.cls ≠ "java/lang/invoke/MethodHandle" ∧ y.cls ≠ "java/lang/invoke/VarHandle" ∧ (parseMethodDescriptor y.desc).map (fun d => d.parameters.length) = some n) (hl : (Cond.methodLink own index y).before args s = true) (hstat : (Cond.static y).before args s = true) (hp : PreS s H Pc As)
    (hg : g.method = m) (hn : As.length = n) (hsize : g.locals.size = nL) (hstack : g.stack = As.reverse ++ rest) (hW : 2 * g.monitorRoom + (rest.map fun v => v.category).sum ≤ 8) (hdg : decode cc g.pc = .ok (.invokestatic index, 3)) (hf : cells + mc ≤ R.cells ∧ slots + ms ≤ R.slots) :
    va_Run p l e R s m args below meth c H locs cells slots mc ms g rest (Qc As.toArray) (free) := by
  obtain ⟨hx, hb, hml, ho, hts⟩ := S
  have hws : ∀ w ∈ ws, ∀ (a' : Array Value) (U : State), s.WarmedH U.vm → w.before a' U = true := pay_in hts hG
  have hcode : (Cond.codeWith y bytes maxL ret hh).before args s = true := hts _ (hG _ hcw).1
  have hK : Back l R p e below s args y 3 8 (PreOf R mc ms Pc) (PostOf Qc mc ms free) := va_backW (hh := hh) (bytes := bytes) (maxL := maxL) (ret := ret) hM hp.1 hrc hrs hR.1 hR.2 hws hcw (fun a' U hW => word_at hW (Or.inl (by first | rfl | simp [Cond.onTables, Cond.keeps, Cond.steady])) hini)
  obtain ⟨mk, methM, cM, hnamed, hmethM, -, -, -, -, -, -, hsigM⟩ := Cond.codeWith_spec hcode
  have hstatic : methM.isStatic = true := Cond.static_spec hnamed hmethM hstat
  obtain ⟨kP, hkP, -⟩ := className_of_methodNamed hnamed
  have hinitP : kP.init = .initialized := Cond.initialized_spec (findClass_of_methodNamed hnamed) hkP hini
  have hlen : As.length = methM.sig.parameters.length := by
    have h2 := hy.2.2
    rw [hsigM] at h2
    exact hn.trans (Option.some.inj h2).symm
  intro T hT X
  obtain ⟨vm₁, X₁, hstep₁⟩ := X.invokestatic hx ho hl hnamed hmethM hstatic hkP hinitP ⟨hy.1, hy.2.1⟩ (g := g) hg (argsL := As) (rest := rest) hlen hstack (by rw [hb]; exact hdg)
  obtain ⟨v, ⟨U', l2, c2, s2⟩, X', ⟨g', mk', t, L, e1, e2, hq, h1, hL, h2, h3⟩, hsteps⟩ := hK m meth c ⟨T.setVm vm₁, locs, cells, slots⟩ { g with stack := rest } (.invokestatic index) mk As.toArray X₁ hg (hsize.trans hml.symm) (by rw [hb]; exact hdg) hW (X₁.named hnamed) ⟨hf.1, hf.2, hp.2 (T.setVm vm₁) hT X₁.warmed⟩
  dsimp only [Pt.U, Pt.locs, Pt.cells, Pt.slots] at X' e1 e2 h1 h2 h3 hsteps
  subst h1; subst h2; subst h3
  exact ⟨v, (T.setVm vm₁).calling g' mk' As.toArray, t, U', L, hT, X', hL, e1, e2, hq, fun target h => hstep₁ _ fun acts => by rw [doInvoke_state]; exact hsteps.trans h⟩
/-- caught by the first row -/
theorem xcatch1 {T' : State} {k x pc hpc ct : Nat} {ce : Cell} {ls : Array Slot} {rest : List Value} {a0 b0 : Nat} {tl : List ExceptionTableEntry} (X' : Stand p l e R s m args below meth c T' locs cells slots) {own : String} (hown : s.vm.findClass own = some m.cls) (hx : T'.heap[x]? = some ce) (hf : s.vm.findClass (xE k) = some ce.cls) (hv : ce.vm = .none)
    (htab : c.exceptionTable.toList = ⟨a0, b0, hpc, ct⟩ :: tl) (hcov : covers ⟨a0, b0, hpc, ct⟩ pc = true) (h0 : ct ≠ 0) (hlink : (Cond.classLink own ct (xE k)).before args s = true) (hc : va_Nw (.castable (xE k) (xE k)) s)
    (kk : W p l e R s m args below meth c T'.heap locs cells slots Q (F0 m hpc ls [.ref x])) : ∃ t2, Steps p.tables e below ((T'.setTop (F0 m pc ls rest)).pushFrame (.throwing x)) t2 ∧ Q t2 := by
  obtain ⟨c3, cT, hc3, hcT, hasg⟩ := Cond.castable_spec hc
  cases hf.symm.trans hc3
  cases hf.symm.trans hcT
  obtain ⟨hend, hk0⟩ := X'.catches_of_link (x := ⟨a0, b0, hpc, ct⟩) hown h0 hlink hf hasg
  obtain ⟨vm', XV, st⟩ := X'.thenCaughtThrough x (g := F0 m pc ls rest) rfl (Steps.refl _) hx (by rw [hv]; rfl) hk0 [] ⟨a0, b0, hpc, ct⟩ tl htab (fun y hy => by cases hy) hcov hend
  obtain ⟨t2, a1, b1⟩ := kk (T'.setVm vm') rfl XV
  exact ⟨t2, st.trans a1, b1⟩
/-- passed by the first row, caught by the second -/
theorem xcatch2 {T' : State} {x pc hpc ct ct1 hpc1 : Nat} {ce : Cell} {ls : Array Slot} {rest : List Value} {a0 b0 a1 b1 : Nat} (X' : Stand p l e R s m args below meth c T' locs cells slots) {own : String} (hown : s.vm.findClass own = some m.cls) (hx : T'.heap[x]? = some ce) (hf : s.vm.findClass (xE 2) = some ce.cls) (hv : ce.vm = .none)
    (htab : c.exceptionTable.toList = [⟨a0, b0, hpc1, ct1⟩, ⟨a1, b1, hpc, ct⟩]) (hcov : covers ⟨a1, b1, hpc, ct⟩ pc = true) (h0 : ct ≠ 0) (h01 : ct1 ≠ 0) (hlink : (Cond.classLink own ct (xE 2)).before args s = true) (hlink1 : (Cond.classLink own ct1 (xE 1)).before args s = true) (hc : va_Nw (.castable (xE 2) (xE 2)) s) (hno : vwNc s)
    (kk : W p l e R s m args below meth c T'.heap locs cells slots Q (F0 m hpc ls [.ref x])) : ∃ t2, Steps p.tables e below ((T'.setTop (F0 m pc ls rest)).pushFrame (.throwing x)) t2 ∧ Q t2 := by
  obtain ⟨c3, cT, hc3, hcT, hasg⟩ := Cond.castable_spec hc
  cases hf.symm.trans hc3
  cases hf.symm.trans hcT
  obtain ⟨hend, hk0⟩ := X'.catches_of_link (x := ⟨a1, b1, hpc, ct⟩) hown h0 hlink hf hasg
  have hpl : e.platform.magicAccessors = ({} : Platform).magicAccessors := by rw [X'.admits.platform]
  obtain ⟨c1, hc1, hcl1⟩ := Cond.classLink_spec hown hlink1 e.platform hpl
  obtain ⟨cs2, ct2, n1, n2, n3⟩ := hno
  have hs2 : cs2 = ce.cls := Option.some.inj (n1.symm.trans hf)
  have ht2 : ct2 = c1 := Option.some.inj (n2.symm.trans hc1)
  subst hs2
  subst ht2
  obtain ⟨vm', XV, st⟩ := X'.thenCaughtThrough x (g := F0 m pc ls rest) rfl (Steps.refl _) hx (by rw [hv]; rfl) hk0 [⟨a0, b0, hpc1, ct1⟩] ⟨a1, b1, hpc, ct⟩ [] htab (fun y hy => by
    rw [List.mem_singleton] at hy
    subst hy
    exact Or.inr ⟨h01, _, hcl1, n3⟩) hcov hend
  obtain ⟨t2, a1, b1⟩ := kk (T'.setVm vm') rfl XV
  exact ⟨t2, st.trans a1, b1⟩
end XL2
