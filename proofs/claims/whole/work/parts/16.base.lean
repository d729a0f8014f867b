/-! what the contracts of some methods rest on beside the words: the one static array, the two statics of Throwable, rows of a grid -/
def vwHi (k : Nat) : Int32 := match k with
  | 0 => 0
  | 1 => 30
  | 2 => 12
  | 3 => 7
  | _ => 5
def vwGr (ad : Nat → Nat) (b n : Nat) : Nat → Option Nat := fun i => if i < n then some (ad (b + i)) else none
def vwE (A : Nat → Prop) (U : State) (H : Heap) : Prop :=
  (∃ t : Nat, va_Z "SpaceBasis" "HIGHEST_OF_VARIABLES" "[I" (.ref t) A U H ∧ va_T .int t 5 (fun k => .int (vwHi k)) A U H) ∧
  va_Zq "java/lang/Throwable" "UNASSIGNED_STACK" "[Ljava/lang/StackTraceElement;" A U H ∧ va_Zq "java/lang/Throwable" "SUPPRESSED_SENTINEL" "Ljava/util/List;" A U H
theorem vwE.moved {A : Nat → Prop} {u U : State} {H : Heap} (hvm : u.vm.Alike U.vm) (h : vwE A u H) : vwE A U H := by
  obtain ⟨⟨t, h1, h2⟩, h3, h4⟩ := h
  exact ⟨⟨t, h1.moved hvm, h2.moved hvm⟩, h3.moved hvm, h4.moved hvm⟩
theorem vwE.kept {A : Nat → Prop} {U : State} {H H1 : Heap} (h : vwE A U H) (hq : ∀ a : Nat, a < H.size → ¬ A a → H1[a]? = H[a]?) : vwE A U H1 := by
  obtain ⟨⟨t, h1, h2⟩, h3, h4⟩ := h
  exact ⟨⟨t, h1.kept hq, h2.kept hq⟩, h3.kept hq, h4.kept hq⟩
theorem vwE.narrow {A B : Nat → Prop} {U : State} {H : Heap} (h : vwE A U H) (hAB : ∀ q, B q → A q) : vwE B U H := by
  obtain ⟨⟨t, h1, h2⟩, h3, h4⟩ := h
  exact ⟨⟨t, h1.narrow hAB, h2.narrow hAB⟩, h3.narrow hAB, h4.narrow hAB⟩
theorem vwE.call {A : Nat → Prop} {U : State} {g : JFrame} {mk : MethodId} {a : Array Value} (h : vwE A U U.heap) : vwE A (U.calling g mk a) (U.calling g mk a).heap :=
  vwE.moved (u := U) (U := U.calling g mk a) (Vm.Alike.refl U.vm) h
theorem vwE.give {A B : Nat → Prop} {s U : State} {H : Heap} {locs : List Loc} (h : vwE A s s.heap) (hS : va_S A s.heap H locs) (hF : ∀ q, B q → A q) (hW : s.WarmedH U.vm) (hU : U.heap = H) : vwE B U U.heap := by
  rw [hU]
  exact ((h.kept (fun a h1 h2 => hS.2.1 a h1 h2)).moved hW.alike).narrow hF
section VWG
variable {p : Program} {l : Launch} {e : Env} {R : Room} {s : State} {m : MethodId} {args : Array Value} {below : List Frame} {meth : Method} {c : Code} {H : Heap} {locs : List Loc} {cells slots : Nat} {Q : State → Prop}
variable {cc : ByteArray} {pc : Nat} {ls : Array Slot} {rest : List Value} {D : va_G} {cl : List vw_C} {a : Nat} {ws : va_W}
theorem vw_aald (hexec : p.tables.exec = Jvm.exec) (hb : c.code = cc) {cs : Nat → ClassId} (hK : va_K D cl (vwT cs) s) (hP : va_P D cl ws H) (q0 : Nat) {ad : Nat → Nat} {b n : Nat} (ha : ws[q0]? = some (a, .inl (cs 1, n, .inr (.inr (.inr (.inr (vwGr ad b n))))))) {i : Int32} (hin : vp_in i n) (hdg : decode cc pc = .ok (.aaload, 1))
    (kk : W p l e R s m args below meth c H locs cells slots Q (F0 m (pc + 1) ls (.ref (ad (b + i.toNatClampNeg)) :: rest))) : W p l e R s m args below meth c H locs cells slots Q (F0 m pc ls (.int i :: .ref a :: rest)) := by
  have hlt : i.toNatClampNeg < n := Nat.not_le.mp fun q => hin (Or.inr q)
  have hv : va_rf (vwGr ad b n i.toNatClampNeg) = .ref (ad (b + i.toNatClampNeg)) := by unfold vwGr; rw [if_pos hlt]; rfl
  exact W.aald (v := .ref (ad (b + i.toNatClampNeg))) (ty := .array .int) hexec hb (hP q0 _ ha) ((hK.2 1 _ rfl).1 n (fun j => va_rf (vwGr ad b n j))) rfl (fun q => by cases q) (by show ¬ (i < 0 ∨ (arrV _ _ _).slots.size ≤ _); rw [arrV_size]; exact hin) (by show (arrV _ _ _).slots[_]? = _; rw [arrV_read _ _ hlt, hv]) rfl rfl hdg kk
end VWG
