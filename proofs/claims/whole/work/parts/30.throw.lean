/-! methods that may throw: contracts with both ends; what is thrown is new, and nothing that was there before has changed -/
def xE (k : Nat) : String := if k = 1 then "java/lang/IllegalArgumentException" else "java/lang/IllegalStateException"
def xEnd (s : State) (t : State) (L : List Loc) (k n : Nat) : Prop := s.WarmedH t.vm ∧ s.sameButNew ({ t with vm := s.vm } : State) L k n
def xQ (below : List Frame) (Qc : Array Value → State → Outcome → State → Prop) (a : Array Value) (s : State) (mc ms : Nat) (free : Addr → Prop) : State → Prop := fun t =>
  ∃ o, t.status = .running ∧ Ended t below o ∧ Qc a s o t ∧ ∃ L, xEnd s t L mc ms ∧ ∀ q ∈ L, free q.base
def xMet (l : Launch) (y : MethodName) (ws : List Cond) (rm : Room) (Pc : Array Value → State → Prop) (Qc : Array Value → State → Outcome → State → Prop) (mc ms : Nat) (free : Addr → Prop) : Prop :=
  MetFree l y (headSpec ws rm) Pc (fun _ _ _ _ _ => True) (fun a st o t => Qc a st o t ∧ ∃ L, xEnd st t L mc ms ∧ ∀ q ∈ L, free q.base)
/-- the thrown end: an object of the class k, new; all that was there is as it was -/
def xT (T : Nat → Prop) : Array Value → State → Outcome → State → Prop := fun _ st oc t =>
  ∃ (x : Addr) (ce : Cell) (k : Nat), oc = .threw x ∧ st.heap.size ≤ x ∧ t.heap[x]? = some ce ∧ st.vm.findClass (xE k) = some ce.cls ∧ ce.vm = .none ∧ T k ∧ st.heap.size ≤ t.heap.size ∧ ∀ q : Nat, q < st.heap.size → t.heap[q]? = st.heap[q]?
def xOr (Q1 Q2 : Array Value → State → Outcome → State → Prop) : Array Value → State → Outcome → State → Prop := fun a st oc t => Q1 a st oc t ∨ Q2 a st oc t
theorem xMet.ofW {l : Launch} {y : MethodName} {ws ws' : List Cond} {rm : Room} {Pc : Array Value → State → Prop} {Qc : Array Value → State → Outcome → State → Prop} {mc ms : Nat} {free : Addr → Prop} {cc : ByteArray} {maxL : Nat} {ret : Option FieldType}
    (hy : plainName y.cls = true) (hw : ws = Cond.code y cc maxL ret :: ws')
    (body : ∀ p e s m args below meth c s₁, BodyLoose p l y (headSpec ws rm) cc maxL ret e s m args below meth c s₁ → c.maxLocals = maxL → Pc args s →
      W p l e (headSpec ws rm).room s m args below meth c s.heap [] 0 0 (xQ below Qc args s mc ms free) (entryFrame m args maxL)) : xMet l y ws rm Pc Qc mc ms free := by
  refine MetFree.of_bodyS (code := cc) (maxLocals := maxL) (ret := ret) hy ?_ ?_
  · intro args s m h hn
    obtain ⟨meth, c, h1, h2, h3, h4, h5, h6, -, -⟩ := Cond.code_spec hn (atoms_spec (ws := ws) h _ (by rw [hw]; exact List.mem_cons_self))
    exact ⟨meth, c, h1, h2, h3, h4, h5, h6⟩
  · intro p e s m args below meth c s₁ B hml hP _
    have hh0 : s₁.heap = s.heap := by rw [B.state]; rfl
    obtain ⟨t, a1, o, b1, b2, b3⟩ := body p e s m args below meth c s₁ B hml hP s₁ hh0 (Stand.of_body B)
    exact ⟨t, o, a1, b1, b2, ⟨b3.1, b3.2⟩⟩
section XW
variable {p : Program} {l : Launch} {e : Env} {R : Room} {s : State} {m : MethodId} {args : Array Value} {below : List Frame} {meth : Method} {c : Code} {H : Heap} {locs : List Loc} {cells slots : Nat} {Q : State → Prop}
theorem xW_mono {Q' : State → Prop} {g : JFrame} (h : ∀ t, Q t → Q' t) (k : W p l e R s m args below meth c H locs cells slots Q g) : W p l e R s m args below meth c H locs cells slots Q' g := fun T hT X => by
  obtain ⟨t, a, b⟩ := k T hT X
  exact ⟨t, a, h t b⟩
theorem xQ.of {Q1 Q2 : Array Value → State → Outcome → State → Prop} {a : Array Value} {mc ms : Nat} {free : Addr → Prop} {t : State} (h : MQ below Q1 a s mc ms free t) : xQ below (xOr Q1 Q2) a s mc ms free t := by
  obtain ⟨o, h1, h2, h3, L, hF, hL⟩ := h
  exact ⟨o, h1, h2, Or.inl h3, L, hF.2, hL⟩
/-- a call that writes nothing old: the walk's own list of what was written stays -/
theorem xW_callR {pc : Nat} {ls : Array Slot} {rest st0 : List Value} {a : Array Value} {post : Int32 → Unit → Prop} {B : Unit → State → Prop} (hr : va_Run p l e R s m args below meth c H locs cells slots 0 0 (F0 m pc ls st0) rest (va_Qi post B (fun q => H.size ≤ q) a) (fun q => H.size ≤ q)) (hsz : s.heap.size ≤ H.size)
    (kk : ∀ (r : Int32) (H1 : Heap), post r () → H.size ≤ H1.size → (∀ q : Nat, q < H.size → H1[q]? = H[q]?) → W p l e R s m args below meth c H1 locs cells slots Q (F0 m (pc + 3) ls (.int r :: rest))) : W p l e R s m args below meth c H locs cells slots Q (F0 m pc ls st0) := by
  intro T hT X
  obtain ⟨v, st₀, t, T', L, h0, X', hL, e1, e2, ⟨⟨r, u, hv, hp, hb⟩, hz, hk⟩, st⟩ := hr T hT X
  cases hv
  rw [h0] at hz hk
  obtain ⟨t2, a1, b1⟩ := kk r T'.heap hp (by rw [e1]; exact hz) (fun q h => by rw [e1]; exact hk q h (Nat.not_le.mpr h)) T' rfl (X'.forget (fun y hy => Nat.le_trans hsz (hL y hy)))
  exact ⟨t2, st t2 a1, b1⟩
/-- throw new X("..") -/
theorem xW_throw {cc : ByteArray} {X tx own : String} {k i1 i2 ic a2 pc : Nat} {ls : Array Slot} {Q1 : Array Value → State → Outcome → State → Prop} {TT : Nat → Prop} {free : Addr → Prop} (hexec : p.tables.exec = Jvm.exec) (hb : c.code = cc) (hml : c.maxLocals = ls.size) (hll : l.stackTraces = false) (hown : s.vm.findClass own = some m.cls) (hXk : xE k = X) (hX : Bundle.fit X = true)
    (hcl : (Cond.classLink own i1 X).before args s = true) (hinst : (Cond.instantiable X 6).before args s = true) (hini : (Cond.initialized X).before args s = true) (hstr : vk_R own i2 tx a2 s)
    (hat : ∀ a ∈ Bundle.ownAtoms own ic X ["java/lang/RuntimeException", "java/lang/Exception"], a.before args s = true) (hH : s.heap.size ≤ H.size) (hnh : ∀ x ∈ c.exceptionTable.toList, covers x (pc + 9) = false) (hlocks : meth.locks = false)
    (d0 : decode cc pc = .ok (.new i1, 3)) (d1 : decode cc (pc + 3) = .ok (.dup, 1)) (d2 : decode cc (pc + 4) = .ok (.ldc i2, 2)) (d3 : decode cc (pc + 6) = .ok (.invokespecial ic, 3)) (d4 : decode cc (pc + 9) = .ok (.athrow, 1))
    (hc : 0 + 1 ≤ R.cells) (hs : 0 + 6 ≤ R.slots) (hf : 6 ≤ R.frames) (hlo : 100 ≤ R.locals) (hT : TT k) :
    W p l e R s m args below meth c H [] 0 0 (xQ below (xOr Q1 (xT TT)) args s 1 6 free) (F0 m pc ls []) := by
  refine W.newc hexec hb hown hcl hinst hini rfl d0 hc hs (fun cC kC f1 f2 f3 f4 => ?_)
  refine lv_dup hexec hb d1 rfl ?_
  refine va_ldcS hexec hb hown hstr d2 ?_
  intro T hTH Xs
  have htr : e.platform.stackTraces = false := by rw [Xs.admits.platform]; exact hll
  have hcell : T.heap[H.size]? = some (freshCell cC kC) := by rw [hTH]; simp
  obtain ⟨U, st, hrun, hend, hW, hsame, ce, hce, K⟩ := Xs.ctorThrowS hexec htr (own := own) (cls := X) (names := ["java/lang/RuntimeException", "java/lang/Exception"]) (ic := ic) hown hX (by decide +kernel) hat (fun y hy => by cases hy) (a := H.size) f1 f2 hcell hH (msg := .ref a2) rfl
    (g := F0 m (pc + 6) ls [.ref a2, .ref H.size, .ref H.size]) rfl hml.symm rfl rfl (rest := []) rfl (by rw [hb]; exact d3) (by rw [hb]; exact d4) hnh (by simp; omega) (by simp [JFrame.monitorRoom, Value.category]; omega)
  have hz : s.heap.size ≤ U.heap.size := hsame.2.1
  refine ⟨U, st, .threw H.size, hrun, hend, Or.inr ⟨H.size, ce, k, rfl, hH, hce, by rw [hXk]; exact K.cls, K.vm, hT, hz, fun q hq => ?_⟩, [], ⟨hW, hsame⟩, fun q h => by cases h⟩
  obtain ⟨cq, hcq⟩ : ∃ cq, s.heap[q]? = some cq := ⟨_, Array.getElem?_eq_getElem hq⟩
  rw [hcq]
  exact hsame.old_cell hcq
end XW
