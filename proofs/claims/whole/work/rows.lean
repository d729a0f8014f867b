section
-- ===== PART A: goes FIRST, ahead of the names: the tables' words, and 'selects' of the private methods out of them =====
/-- a private method of a class that the tables say can be made, by its rows of tables_1 -/
def lw_okq (q : MethodName × Nat) : Prop := (q.1.cls ≠ "java/lang/invoke/MethodHandle" ∧ q.1.cls ≠ "java/lang/invoke/VarHandle") ∧ Cond.instantiable q.1.cls q.2 ∈ tables_1 ∧ Cond.privateMethod q.1 ∈ tables_1 ∧ Cond.instanceMethod q.1 ∈ tables_1
theorem lw_p0 : lw_okq (⟨"SpaceBasis", "beginField", "(III)V"⟩, 9) := ⟨⟨by decide +kernel, by decide +kernel⟩, List.mem_of_getElem? (i := 20) (by decide +kernel), List.mem_of_getElem? (i := 232) (by decide +kernel), List.mem_of_getElem? (i := 233) (by decide +kernel)⟩
theorem lw_p1 : lw_okq (⟨"SpaceBasis$Monomials", "listDegree", "(IIII)V"⟩, 8) := ⟨⟨by decide +kernel, by decide +kernel⟩, List.mem_of_getElem? (i := 40) (by decide +kernel), List.mem_of_getElem? (i := 242) (by decide +kernel), List.mem_of_getElem? (i := 243) (by decide +kernel)⟩
theorem lw_p2 : lw_okq (⟨"SpaceBasis$Monomials", "append", "(II)V"⟩, 8) := ⟨⟨by decide +kernel, by decide +kernel⟩, List.mem_of_getElem? (i := 40) (by decide +kernel), List.mem_of_getElem? (i := 249) (by decide +kernel), List.mem_of_getElem? (i := 250) (by decide +kernel)⟩
theorem lw_p3 : lw_okq (⟨"SpaceBasis", "beginAnew", "()V"⟩, 9) := ⟨⟨by decide +kernel, by decide +kernel⟩, List.mem_of_getElem? (i := 20) (by decide +kernel), List.mem_of_getElem? (i := 260) (by decide +kernel), List.mem_of_getElem? (i := 261) (by decide +kernel)⟩
theorem lw_p4 : lw_okq (⟨"SpaceBasis", "emptyHand", "()V"⟩, 9) := ⟨⟨by decide +kernel, by decide +kernel⟩, List.mem_of_getElem? (i := 20) (by decide +kernel), List.mem_of_getElem? (i := 264) (by decide +kernel), List.mem_of_getElem? (i := 265) (by decide +kernel)⟩
theorem lw_p5 : lw_okq (⟨"SpaceBasis", "hasMember", "(I)Z"⟩, 9) := ⟨⟨by decide +kernel, by decide +kernel⟩, List.mem_of_getElem? (i := 20) (by decide +kernel), List.mem_of_getElem? (i := 316) (by decide +kernel), List.mem_of_getElem? (i := 317) (by decide +kernel)⟩
theorem lw_p6 : lw_okq (⟨"SpaceBasis$Members", "hasLeadOf", "(I)Z"⟩, 7) := ⟨⟨by decide +kernel, by decide +kernel⟩, List.mem_of_getElem? (i := 179) (by decide +kernel), List.mem_of_getElem? (i := 339) (by decide +kernel), List.mem_of_getElem? (i := 340) (by decide +kernel)⟩
theorem lw_p7 : lw_okq (⟨"java/lang/Throwable", "fillInStackTrace", "(I)Ljava/lang/Throwable;"⟩, 6) := ⟨⟨by decide +kernel, by decide +kernel⟩, List.mem_of_getElem? (i := 420) (by decide +kernel), List.mem_of_getElem? (i := 418) (by decide +kernel), List.mem_of_getElem? (i := 419) (by decide +kernel)⟩
theorem lw_p8 : lw_okq (⟨"SpaceBasis$Space", "takeIn", "(III)V"⟩, 11) := ⟨⟨by decide +kernel, by decide +kernel⟩, List.mem_of_getElem? (i := 105) (by decide +kernel), List.mem_of_getElem? (i := 519) (by decide +kernel), List.mem_of_getElem? (i := 520) (by decide +kernel)⟩
theorem lw_p9 : lw_okq (⟨"SpaceBasis$Space", "takeInProducts", "(I)V"⟩, 11) := ⟨⟨by decide +kernel, by decide +kernel⟩, List.mem_of_getElem? (i := 105) (by decide +kernel), List.mem_of_getElem? (i := 551) (by decide +kernel), List.mem_of_getElem? (i := 552) (by decide +kernel)⟩
theorem lw_p10 : lw_okq (⟨"SpaceBasis$Members", "hasDividingLead", "(I)Z"⟩, 7) := ⟨⟨by decide +kernel, by decide +kernel⟩, List.mem_of_getElem? (i := 179) (by decide +kernel), List.mem_of_getElem? (i := 573) (by decide +kernel), List.mem_of_getElem? (i := 574) (by decide +kernel)⟩
theorem lw_p11 : lw_okq (⟨"SpaceBasis$Members", "addReduced", "(I)V"⟩, 7) := ⟨⟨by decide +kernel, by decide +kernel⟩, List.mem_of_getElem? (i := 179) (by decide +kernel), List.mem_of_getElem? (i := 581) (by decide +kernel), List.mem_of_getElem? (i := 582) (by decide +kernel)⟩
theorem lw_p12 : lw_okq (⟨"SpaceBasis$Members", "allPairsInside", "()Z"⟩, 7) := ⟨⟨by decide +kernel, by decide +kernel⟩, List.mem_of_getElem? (i := 179) (by decide +kernel), List.mem_of_getElem? (i := 589) (by decide +kernel), List.mem_of_getElem? (i := 590) (by decide +kernel)⟩
theorem lw_p13 : lw_okq (⟨"SpaceBasis$Proof", "isLine", "([I)Z"⟩, 5) := ⟨⟨by decide +kernel, by decide +kernel⟩, List.mem_of_getElem? (i := 210) (by decide +kernel), List.mem_of_getElem? (i := 619) (by decide +kernel), List.mem_of_getElem? (i := 620) (by decide +kernel)⟩
theorem lw_p14 : lw_okq (⟨"SpaceBasis$Proof", "reckonsRows", "(I)Z"⟩, 5) := ⟨⟨by decide +kernel, by decide +kernel⟩, List.mem_of_getElem? (i := 210) (by decide +kernel), List.mem_of_getElem? (i := 623) (by decide +kernel), List.mem_of_getElem? (i := 624) (by decide +kernel)⟩
theorem lw_p15 : lw_okq (⟨"SpaceBasis$Proof", "reckonsRow", "(I)Z"⟩, 5) := ⟨⟨by decide +kernel, by decide +kernel⟩, List.mem_of_getElem? (i := 210) (by decide +kernel), List.mem_of_getElem? (i := 627) (by decide +kernel), List.mem_of_getElem? (i := 628) (by decide +kernel)⟩
def lw_privs_1 : List (MethodName × Nat) := [(⟨"SpaceBasis", "beginField", "(III)V"⟩, 9), (⟨"SpaceBasis$Monomials", "listDegree", "(IIII)V"⟩, 8), (⟨"SpaceBasis$Monomials", "append", "(II)V"⟩, 8), (⟨"SpaceBasis", "beginAnew", "()V"⟩, 9), (⟨"SpaceBasis", "emptyHand", "()V"⟩, 9), (⟨"SpaceBasis", "hasMember", "(I)Z"⟩, 9), (⟨"SpaceBasis$Members", "hasLeadOf", "(I)Z"⟩, 7), (⟨"java/lang/Throwable", "fillInStackTrace", "(I)Ljava/lang/Throwable;"⟩, 6), (⟨"SpaceBasis$Space", "takeIn", "(III)V"⟩, 11), (⟨"SpaceBasis$Space", "takeInProducts", "(I)V"⟩, 11), (⟨"SpaceBasis$Members", "hasDividingLead", "(I)Z"⟩, 7), (⟨"SpaceBasis$Members", "addReduced", "(I)V"⟩, 7), (⟨"SpaceBasis$Members", "allPairsInside", "()Z"⟩, 7), (⟨"SpaceBasis$Proof", "isLine", "([I)Z"⟩, 5), (⟨"SpaceBasis$Proof", "reckonsRows", "(I)Z"⟩, 5), (⟨"SpaceBasis$Proof", "reckonsRow", "(I)Z"⟩, 5)]
theorem lw_r1 : ∀ q ∈ lw_privs_1, lw_okq q := List.forall_mem_cons.mpr ⟨lw_p0, List.forall_mem_cons.mpr ⟨lw_p1, List.forall_mem_cons.mpr ⟨lw_p2, List.forall_mem_cons.mpr ⟨lw_p3, List.forall_mem_cons.mpr ⟨lw_p4, List.forall_mem_cons.mpr ⟨lw_p5, List.forall_mem_cons.mpr ⟨lw_p6, List.forall_mem_cons.mpr ⟨lw_p7, List.forall_mem_cons.mpr ⟨lw_p8, List.forall_mem_cons.mpr ⟨lw_p9, List.forall_mem_cons.mpr ⟨lw_p10, List.forall_mem_cons.mpr ⟨lw_p11, List.forall_mem_cons.mpr ⟨lw_p12, List.forall_mem_cons.mpr ⟨lw_p13, List.forall_mem_cons.mpr ⟨lw_p14, List.forall_mem_cons.mpr ⟨lw_p15, fun _ h => absurd h List.not_mem_nil⟩⟩⟩⟩⟩⟩⟩⟩⟩⟩⟩⟩⟩⟩⟩⟩
theorem lw_p16 : lw_okq (⟨"SpaceBasis$Proof", "writeSource", "(I)Z"⟩, 5) := ⟨⟨by decide +kernel, by decide +kernel⟩, List.mem_of_getElem? (i := 210) (by decide +kernel), List.mem_of_getElem? (i := 631) (by decide +kernel), List.mem_of_getElem? (i := 632) (by decide +kernel)⟩
theorem lw_p17 : lw_okq (⟨"SpaceBasisModel", "fresh", "(III)V"⟩, 18) := ⟨⟨by decide +kernel, by decide +kernel⟩, List.mem_of_getElem? (i := 646) (by decide +kernel), List.mem_of_getElem? (i := 652) (by decide +kernel), List.mem_of_getElem? (i := 653) (by decide +kernel)⟩
theorem lw_p18 : lw_okq (⟨"SpaceBasisModel", "put", "(I)V"⟩, 18) := ⟨⟨by decide +kernel, by decide +kernel⟩, List.mem_of_getElem? (i := 646) (by decide +kernel), List.mem_of_getElem? (i := 659) (by decide +kernel), List.mem_of_getElem? (i := 660) (by decide +kernel)⟩
theorem lw_p19 : lw_okq (⟨"SpaceBasisModel", "greater", "(II)Z"⟩, 18) := ⟨⟨by decide +kernel, by decide +kernel⟩, List.mem_of_getElem? (i := 646) (by decide +kernel), List.mem_of_getElem? (i := 663) (by decide +kernel), List.mem_of_getElem? (i := 664) (by decide +kernel)⟩
theorem lw_p20 : lw_okq (⟨"SpaceBasisModel", "placeOf", "(I)I"⟩, 18) := ⟨⟨by decide +kernel, by decide +kernel⟩, List.mem_of_getElem? (i := 646) (by decide +kernel), List.mem_of_getElem? (i := 744) (by decide +kernel), List.mem_of_getElem? (i := 745) (by decide +kernel)⟩
theorem lw_p21 : lw_okq (⟨"SpaceBasisModel", "findSpace", "(I)V"⟩, 18) := ⟨⟨by decide +kernel, by decide +kernel⟩, List.mem_of_getElem? (i := 646) (by decide +kernel), List.mem_of_getElem? (i := 764) (by decide +kernel), List.mem_of_getElem? (i := 765) (by decide +kernel)⟩
theorem lw_p22 : lw_okq (⟨"SpaceBasisModel", "degreeOfGenerator", "(I)I"⟩, 18) := ⟨⟨by decide +kernel, by decide +kernel⟩, List.mem_of_getElem? (i := 646) (by decide +kernel), List.mem_of_getElem? (i := 768) (by decide +kernel), List.mem_of_getElem? (i := 769) (by decide +kernel)⟩
theorem lw_p23 : lw_okq (⟨"SpaceBasisModel", "comes", "()Z"⟩, 18) := ⟨⟨by decide +kernel, by decide +kernel⟩, List.mem_of_getElem? (i := 646) (by decide +kernel), List.mem_of_getElem? (i := 772) (by decide +kernel), List.mem_of_getElem? (i := 773) (by decide +kernel)⟩
theorem lw_p24 : lw_okq (⟨"SpaceBasisModel", "reduce", "()I"⟩, 18) := ⟨⟨by decide +kernel, by decide +kernel⟩, List.mem_of_getElem? (i := 646) (by decide +kernel), List.mem_of_getElem? (i := 776) (by decide +kernel), List.mem_of_getElem? (i := 777) (by decide +kernel)⟩
theorem lw_p25 : lw_okq (⟨"SpaceBasisModel", "takeRow", "(I)V"⟩, 18) := ⟨⟨by decide +kernel, by decide +kernel⟩, List.mem_of_getElem? (i := 646) (by decide +kernel), List.mem_of_getElem? (i := 780) (by decide +kernel), List.mem_of_getElem? (i := 781) (by decide +kernel)⟩
theorem lw_p26 : lw_okq (⟨"SpaceBasisModel", "inverse", "(I)I"⟩, 18) := ⟨⟨by decide +kernel, by decide +kernel⟩, List.mem_of_getElem? (i := 646) (by decide +kernel), List.mem_of_getElem? (i := 784) (by decide +kernel), List.mem_of_getElem? (i := 785) (by decide +kernel)⟩
theorem lw_p27 : lw_okq (⟨"SpaceBasisModel", "multiplied", "(II)V"⟩, 18) := ⟨⟨by decide +kernel, by decide +kernel⟩, List.mem_of_getElem? (i := 646) (by decide +kernel), List.mem_of_getElem? (i := 788) (by decide +kernel), List.mem_of_getElem? (i := 789) (by decide +kernel)⟩
theorem lw_p28 : lw_okq (⟨"SpaceBasisModel", "clean", "(I)V"⟩, 18) := ⟨⟨by decide +kernel, by decide +kernel⟩, List.mem_of_getElem? (i := 646) (by decide +kernel), List.mem_of_getElem? (i := 792) (by decide +kernel), List.mem_of_getElem? (i := 793) (by decide +kernel)⟩
theorem lw_p29 : lw_okq (⟨"SpaceBasisModel", "complete", "()Z"⟩, 18) := ⟨⟨by decide +kernel, by decide +kernel⟩, List.mem_of_getElem? (i := 646) (by decide +kernel), List.mem_of_getElem? (i := 811) (by decide +kernel), List.mem_of_getElem? (i := 812) (by decide +kernel)⟩
theorem lw_p30 : lw_okq (⟨"SpaceBasisModel", "dimension", "()I"⟩, 18) := ⟨⟨by decide +kernel, by decide +kernel⟩, List.mem_of_getElem? (i := 646) (by decide +kernel), List.mem_of_getElem? (i := 815) (by decide +kernel), List.mem_of_getElem? (i := 816) (by decide +kernel)⟩
def lw_privs_2 : List (MethodName × Nat) := [(⟨"SpaceBasis$Proof", "writeSource", "(I)Z"⟩, 5), (⟨"SpaceBasisModel", "fresh", "(III)V"⟩, 18), (⟨"SpaceBasisModel", "put", "(I)V"⟩, 18), (⟨"SpaceBasisModel", "greater", "(II)Z"⟩, 18), (⟨"SpaceBasisModel", "placeOf", "(I)I"⟩, 18), (⟨"SpaceBasisModel", "findSpace", "(I)V"⟩, 18), (⟨"SpaceBasisModel", "degreeOfGenerator", "(I)I"⟩, 18), (⟨"SpaceBasisModel", "comes", "()Z"⟩, 18), (⟨"SpaceBasisModel", "reduce", "()I"⟩, 18), (⟨"SpaceBasisModel", "takeRow", "(I)V"⟩, 18), (⟨"SpaceBasisModel", "inverse", "(I)I"⟩, 18), (⟨"SpaceBasisModel", "multiplied", "(II)V"⟩, 18), (⟨"SpaceBasisModel", "clean", "(I)V"⟩, 18), (⟨"SpaceBasisModel", "complete", "()Z"⟩, 18), (⟨"SpaceBasisModel", "dimension", "()I"⟩, 18)]
theorem lw_r2 : ∀ q ∈ lw_privs_2, lw_okq q := List.forall_mem_cons.mpr ⟨lw_p16, List.forall_mem_cons.mpr ⟨lw_p17, List.forall_mem_cons.mpr ⟨lw_p18, List.forall_mem_cons.mpr ⟨lw_p19, List.forall_mem_cons.mpr ⟨lw_p20, List.forall_mem_cons.mpr ⟨lw_p21, List.forall_mem_cons.mpr ⟨lw_p22, List.forall_mem_cons.mpr ⟨lw_p23, List.forall_mem_cons.mpr ⟨lw_p24, List.forall_mem_cons.mpr ⟨lw_p25, List.forall_mem_cons.mpr ⟨lw_p26, List.forall_mem_cons.mpr ⟨lw_p27, List.forall_mem_cons.mpr ⟨lw_p28, List.forall_mem_cons.mpr ⟨lw_p29, List.forall_mem_cons.mpr ⟨lw_p30, fun _ h => absurd h List.not_mem_nil⟩⟩⟩⟩⟩⟩⟩⟩⟩⟩⟩⟩⟩⟩⟩
def lw_privs : List (MethodName × Nat) := lw_privs_1 ++ (lw_privs_2)
def lw_tbl : List Cond := k2_sels lw_privs ++ tables_1
theorem lw_privs_ok : ∀ q ∈ lw_privs, lw_okq q := by
  show ∀ q ∈ lw_privs_1 ++ (lw_privs_2), lw_okq q
  exact List.forall_mem_append.mpr ⟨lw_r1, lw_r2⟩

/-! ===== BEGIN words of one list among another's, by their places ===== -/
theorem goodIn_r {big : List Cond} (ws : List Cond) (ps : List Nat) (hp : ws = ps.filterMap (fun i => big[i]?)) (h : ws.all goodWord = true) : GoodIn big ws := by
  intro w hw
  have h1 := List.all_eq_true.mp h w hw
  rw [hp] at hw
  obtain ⟨i, -, hi⟩ := List.mem_filterMap.mp hw
  have hm : w ∈ big := by first | exact List.mem_of_getElem? hi | exact List.getElem?_mem hi
  exact ⟨hm, good_of_word h1⟩
theorem goodIn_app {big a b : List Cond} (ha : GoodIn big a) (hb : GoodIn big b) : GoodIn big (a ++ b) := fun w h => (List.mem_append.mp h).elim (ha w) (hb w)
theorem goodIn_ca {big a b : List Cond} {c : Cond} (ha : GoodIn big (c :: a)) (hb : GoodIn big b) : GoodIn big (c :: (a ++ b)) := fun w h => (List.mem_cons.mp h).elim (fun e => ha w (List.mem_cons.mpr (Or.inl e))) (fun h => (List.mem_append.mp h).elim (fun h => ha w (List.mem_cons.mpr (Or.inr h))) (hb w))
theorem goodIn_sub {big ws : List Cond} (hm : ∀ w ∈ ws, w ∈ big) (h : ws.all goodWord = true) : GoodIn big ws := fun w hw => ⟨hm w hw, good_of_word (List.all_eq_true.mp h w hw)⟩
/-! ===== END ===== -/

/-! ===== BEGIN new T[n][m]: the outer array a place, the inner ones among the pooled ===== -/
/-- f, but v at every address of l -/
def vr_up {α : Type} (f : Nat → α) (l : List Nat) (v : α) : Nat → α := fun a => if a ∈ l then v else f a
theorem vr_up_in {α : Type} {f : Nat → α} {l : List Nat} {v : α} {a : Nat} (h : a ∈ l) : vr_up f l v a = v := if_pos h
theorem vr_up_ne {α : Type} {f : Nat → α} {l : List Nat} {v : α} {a : Nat} (h : a ∉ l) : vr_up f l v a = f a := if_neg h
theorem vr_rows {L l : List Nat} {f : Nat → va_E} {e : va_E} (h : ∀ a, a ∈ l → a ∉ L) : va_pl L f ++ l.map (fun a => (a, e)) = va_pl (L ++ l) (vr_up f l e) := by
  unfold va_pl
  rw [List.map_append]
  congr 1
  · apply List.map_congr_left
    intro a ha
    rw [vr_up_ne (fun q => h a q ha)]
  · apply List.map_congr_left
    intro a ha
    rw [vr_up_in ha]
theorem vr_lay {X rows : va_W} {x : Nat × va_E} {pl : va_W} {D : va_G} {cl : List vw_C} {H : Heap} (hP : va_P D cl (((X ++ pl) ++ [x]) ++ rows) H) : va_P D cl ((X ++ [x]) ++ (pl ++ rows)) H := by
  rw [List.append_assoc (X ++ pl)] at hP
  have h := va_P.swap hP
  rw [← List.append_assoc X] at h
  have h2 := va_P.swap h
  rw [List.append_assoc (X ++ [x])] at h2
  exact h2
theorem vr_layD {X rows : va_W} {x : Nat × va_E} {pl : va_W} {A : Nat → Prop} (hD : va_D A (((X ++ pl) ++ [x]) ++ rows)) : va_D A ((X ++ [x]) ++ (pl ++ rows)) := by
  rw [List.append_assoc (X ++ pl)] at hD
  have h := va_D.swap hD
  rw [← List.append_assoc X] at h
  have h2 := va_D.swap h
  rw [List.append_assoc (X ++ [x])] at h2
  exact h2
theorem vr_outer (c : ClassId) (N h0 : Nat) : ∀ i : Nat, Jvm.Free.Multi.outerC c N h0 i = arrV c N (fun j => va_rf (if j < i then some (h0 + 1 + j) else none))
  | 0 => by
    show ({ cls := c, slots := Array.replicate N .null, vm := .none } : Cell) = _
    rw [arrV_new]
    refine congrArg (arrV c N) (funext fun j => ?_)
    simp [va_rf]
  | i + 1 => by
    show (Jvm.Free.Multi.outerC c N h0 i).setSlot i (.ref (h0 + 1 + i)) = _
    rw [vr_outer c N h0 i, arrV_store]
    refine congrArg (arrV c N) (funext fun j => ?_)
    by_cases e : j = i
    · subst e
      simp [updV, va_rf]
    · by_cases h : j < i
      · simp [updV, e, h, Nat.lt_succ_of_lt h]
      · simp [updV, e, h, show ¬ j < i + 1 by omega]
section VGM
variable {p : Program} {l : Launch} {e : Env} {R : Room} {s : State} {m : MethodId} {args : Array Value} {below : List Frame} {meth : Method} {c : Code} {H : Heap} {locs : List Loc} {cells slots : Nat} {Q : State → Prop}
variable {cc : ByteArray} {pc : Nat} {ls : Array Slot} {rest : List Value} {D : va_G} {cl : List vw_C} {A : Nat → Prop} {a : Nat} {tys : List (ClassId × FieldType)} {ws : va_W} {H0 : Heap}
theorem va_mna {X : va_W} {L : List Nat} {f : Nat → va_E} {cc : ByteArray} (hexec : p.tables.exec = Jvm.exec) (hb : c.code = cc) {own : String} {index : Nat} {ty : FieldType} {cy : ClassId} (hown : s.vm.findClass own = some m.cls) (hclink : (Cond.classLink own index ("[" ++ (FieldType.array ty).toString)).before args s = true) (hover : (Cond.arrayOver (.array ty)).before args s = true) (harr : (Cond.arrayClass ty).before args s = true) (hcy : s.vm.findClass (FieldType.array ty).toString = some cy)
    (hK : va_K D cl tys s) (hP : va_P D cl (X ++ va_pl L f) H) (hD : va_D A (X ++ va_pl L f)) (hS : va_S A H0 H locs) (hA : ∀ q, H0.size ≤ q → A q) {n k : Int32} {N' K' : Nat} {z : vp_A} (hn : ¬ n < 0) (hk : ¬ k < 0) (hN : n.toNatClampNeg = N') (hM : k.toNatClampNeg = K')
    (hb1 : N' * 4 ≤ 536870912) (hb2 : K' * componentBytes ty ≤ 536870912) (hb3 : K' ≤ 536870912) (hdf : fits ty (defaultValue ty) = true) (hdd : (defaultValue ty).isDefault = true) (hcells : cells + (1 + N') ≤ R.cells) (hslots : slots + (N' + N' * K') ≤ R.slots) (hz : ∀ c : ClassId, Jvm.Free.Multi.innerC c K' (defaultValue ty) = vp_cell c z) (hdg : decode cc pc = .ok (.multianewarray index 2, 4))
    (kk : ∀ (q : Nat) (r : Nat → Nat) (cA : ClassId) (H1 : Heap), (∀ i j : Nat, i < N' → j < N' → r i = r j → i = j) → (∀ i : Nat, i < N' → r i ∉ L) → va_K D cl (tys ++ [(cA, .array ty)]) s →
      va_P D cl ((X ++ [(q, .inl (cA, N', .inr (.inr (.inr (.inr (fun i => if i < N' then some (r i) else none))))))]) ++ va_pl (L ++ (List.range N').map r) (vr_up f ((List.range N').map r) (.inl (cy, z)))) H1 → va_D A ((X ++ [(q, .inl (cA, N', .inr (.inr (.inr (.inr (fun i => if i < N' then some (r i) else none))))))]) ++ va_pl (L ++ (List.range N').map r) (vr_up f ((List.range N').map r) (.inl (cy, z)))) → va_S A H0 H1 locs →
      W p l e R s m args below meth c H1 locs (cells + 1 + N') (slots + N' + N' * K') Q (F0 m (pc + 4) ls (.ref q :: rest))) : W p l e R s m args below meth c H locs cells slots Q (F0 m pc ls (.int k :: .int n :: rest)) := by
  subst hN
  subst hM
  intro T hT Xs
  obtain ⟨vm₁, cA, comp, -, fA, fC, hO, -, X', step⟩ := Xs.multianewarray2F hexec hown hclink hover harr (g := F0 m pc ls (.int k :: .int n :: rest)) rfl (by rw [hb]; exact hdg) rfl hn hk hb1 hb2 hb3 hdf hdd hcells hslots
  have ec : some cy = some comp := hcy.symm.trans fC
  cases ec
  generalize hF : Jvm.Free.Multi.fill (T.setVm vm₁) cA cy n.toNatClampNeg k.toNatClampNeg (defaultValue ty) n.toNatClampNeg = F at X' step
  have hTh : (T.setVm vm₁).heap = H := hT
  obtain ⟨f1, f2, -, -⟩ := Jvm.Free.Multi.fill_facts (T.setVm vm₁) cA cy n.toNatClampNeg k.toNatClampNeg (defaultValue ty) n.toNatClampNeg
  rw [hF, hTh] at f1 f2
  have hold : ∀ x : Nat, x < H.size → F.heap[x]? = H[x]? := fun x hx => by
    have := Jvm.Free.Multi.fill_old (T.setVm vm₁) cA cy n.toNatClampNeg k.toNatClampNeg (defaultValue ty) (a := x) (by rw [hTh]; exact hx) n.toNatClampNeg
    rw [hF, hTh] at this
    exact this
  have hrow : ∀ j : Nat, j < n.toNatClampNeg → F.heap[H.size + 1 + j]? = some (vp_cell cy z) := fun j hj => by
    have := Jvm.Free.Multi.fill_inner (T.setVm vm₁) cA cy n.toNatClampNeg k.toNatClampNeg (defaultValue ty) n.toNatClampNeg j hj
    rw [hF, hTh, hz] at this
    exact this
  have hout : Jvm.Free.Multi.outerC cA n.toNatClampNeg H.size n.toNatClampNeg = vp_cell cA (n.toNatClampNeg, .inr (.inr (.inr (.inr (fun i => if i < n.toNatClampNeg then some (H.size + 1 + i) else none))))) := by
    rw [vp_cell_q]
    exact vr_outer cA n.toNatClampNeg H.size n.toNatClampNeg
  rw [hout] at f2
  have hlt : ∀ a, a ∈ L → a < H.size := fun a ha => by
    obtain ⟨k9, hk9⟩ := va_pl_get (X := X) (f := f) ha
    exact (hP k9 _ hk9).lt
  have hnl : ∀ i : Nat, i < n.toNatClampNeg → H.size + 1 + i ∉ L := fun i _ h => by
    have := hlt _ h
    omega
  have hnm : ∀ a, a ∈ (List.range n.toNatClampNeg).map (fun i => H.size + 1 + i) → a ∉ L := fun a ha h => by
    obtain ⟨i, -, rfl⟩ := List.mem_map.mp ha
    have := hlt _ h
    omega
  have hP0 : va_P D cl (X ++ va_pl L f) F.heap := hP.kept (fun k9 x hx => hold x.1 ((hP k9 x hx).lt))
  have hP1 : va_P D cl ((X ++ va_pl L f) ++ [(H.size, .inl (cA, n.toNatClampNeg, .inr (.inr (.inr (.inr (fun i => if i < n.toNatClampNeg then some (H.size + 1 + i) else none))))))]) F.heap := hP0.app (fun k9 x hx => by
    have h0 : k9 < 1 := (List.getElem?_eq_some_iff.mp hx).1
    rw [show k9 = 0 by omega] at hx
    cases hx
    exact f2)
  have hP2 : va_P D cl (((X ++ va_pl L f) ++ [(H.size, .inl (cA, n.toNatClampNeg, .inr (.inr (.inr (.inr (fun i => if i < n.toNatClampNeg then some (H.size + 1 + i) else none))))))]) ++ ((List.range n.toNatClampNeg).map (fun i => H.size + 1 + i)).map (fun a => (a, .inl (cy, z)))) F.heap := hP1.app (fun k9 x hx => by
    obtain ⟨a, ha, rfl⟩ := List.mem_map.mp (List.mem_of_getElem? hx)
    obtain ⟨i, hi, rfl⟩ := List.mem_map.mp ha
    exact hrow i (List.mem_range.mp hi))
  have hD2 : va_D A (((X ++ va_pl L f) ++ [(H.size, .inl (cA, n.toNatClampNeg, .inr (.inr (.inr (.inr (fun i => if i < n.toNatClampNeg then some (H.size + 1 + i) else none))))))]) ++ ((List.range n.toNatClampNeg).map (fun i => H.size + 1 + i)).map (fun a => (a, .inl (cy, z)))) := by
    have hD1 := hD.push (e := .inl (cA, n.toNatClampNeg, .inr (.inr (.inr (.inr (fun i => if i < n.toNatClampNeg then some (H.size + 1 + i) else none)))))) hP rfl (hA _ hS.1)
    generalize hW1 : (X ++ va_pl L f) ++ [(H.size, .inl (cA, n.toNatClampNeg, .inr (.inr (.inr (.inr (fun i => if i < n.toNatClampNeg then some (H.size + 1 + i) else none))))))] = W1 at hD1 hP1 ⊢
    have hle : ∀ (k9 : Nat) (x : Nat × va_E), W1[k9]? = some x → x.1 ≤ H.size := fun k9 x hx => by
      rw [← hW1] at hx
      by_cases hl : k9 < (X ++ va_pl L f).length
      · rw [List.getElem?_append_left hl] at hx
        exact Nat.le_of_lt ((hP k9 x hx).lt)
      · rw [List.getElem?_append_right (by omega)] at hx
        have h0 : k9 - (X ++ va_pl L f).length < 1 := (List.getElem?_eq_some_iff.mp hx).1
        rw [show k9 - (X ++ va_pl L f).length = 0 by omega] at hx
        cases hx
        exact Nat.le_refl _
    have hr : ∀ (k9 : Nat) (x : Nat × va_E), (((List.range n.toNatClampNeg).map (fun i => H.size + 1 + i)).map (fun a => ((a, .inl (cy, z)) : Nat × va_E)))[k9]? = some x → x.1 = H.size + 1 + k9 := fun k9 x hx => by
      rw [List.getElem?_map, List.getElem?_map] at hx
      by_cases h9 : k9 < n.toNatClampNeg
      · rw [List.getElem?_range h9] at hx
        cases hx
        rfl
      · have hn0 : (List.range n.toNatClampNeg)[k9]? = none := List.getElem?_eq_none (by rw [List.length_range]; omega)
        rw [hn0] at hx
        cases hx
    refine ⟨fun i j x y hi hj hxy => ?_, fun k9 x hx => ?_⟩
    · by_cases h1 : i < W1.length <;> by_cases h2 : j < W1.length
      · rw [List.getElem?_append_left h1] at hi
        rw [List.getElem?_append_left h2] at hj
        exact hD1.1 i j x y hi hj hxy
      · rw [List.getElem?_append_left h1] at hi
        rw [List.getElem?_append_right (by omega)] at hj
        have := hle _ _ hi
        have := hr _ _ hj
        omega
      · rw [List.getElem?_append_right (by omega)] at hi
        rw [List.getElem?_append_left h2] at hj
        have := hle _ _ hj
        have := hr _ _ hi
        omega
      · rw [List.getElem?_append_right (by omega)] at hi hj
        have := hr _ _ hi
        have := hr _ _ hj
        omega
    · by_cases h1 : k9 < W1.length
      · rw [List.getElem?_append_left h1] at hx
        exact hD1.2 k9 x hx
      · rw [List.getElem?_append_right (by omega)] at hx
        have := hr _ _ hx
        exact hA _ (by have := hS.1; omega)
  have hAr : ArrOfT s cA (.array ty) := fun N9 z9 => by
    obtain ⟨-, k9, hk9, cm9, hkk9⟩ := (hO 0 0 0).1
    exact ⟨(fun q hq => by cases hq), k9, hk9, cm9, hkk9⟩
  have hK2 : va_K D cl (tys ++ [(cA, .array ty)]) s := ⟨hK.1, fun k9 x hx => by
    by_cases hl : k9 < tys.length
    · rw [List.getElem?_append_left hl] at hx
      exact hK.2 k9 x hx
    · rw [List.getElem?_append_right (by omega)] at hx
      have h0 : k9 - tys.length < 1 := (List.getElem?_eq_some_iff.mp hx).1
      rw [show k9 - tys.length = 0 by omega] at hx
      cases hx
      exact ⟨hAr, fA⟩⟩
  obtain ⟨t, a1, b1⟩ := kk H.size (fun i => H.size + 1 + i) cA F.heap (fun i j _ _ h => by have h9 : H.size + 1 + i = H.size + 1 + j := h; omega) hnl hK2 (by rw [← vr_rows hnm]; exact vr_lay hP2) (by rw [← vr_rows hnm]; exact vr_layD hD2) ⟨by rw [f1]; have := hS.1; omega, fun x h1 h2 => (hold x (Nat.lt_of_lt_of_le h1 hS.1)).trans (hS.2.1 x h1 h2), hS.2.2⟩ F rfl X'
  refine ⟨t, step t ?_, b1⟩
  have e : T.heap.size = H.size := by rw [hT]
  rw [e]
  exact a1
end VGM
/-! ===== END ===== -/


/-! the words that the contracts rest on: all that the tables say of links, code, fields -/
def vw_a0 : List Cond := [(Jvm.Cond.selects "SpaceBasis" (⟨"SpaceBasis", "beginField", "(III)V"⟩ : Jvm.MethodName) (⟨"SpaceBasis", "beginField", "(III)V"⟩ : Jvm.MethodName)), (Jvm.Cond.selects "SpaceBasis$Monomials" (⟨"SpaceBasis$Monomials", "listDegree", "(IIII)V"⟩ : Jvm.MethodName) (⟨"SpaceBasis$Monomials", "listDegree", "(IIII)V"⟩ : Jvm.MethodName)), (Jvm.Cond.selects "SpaceBasis$Monomials" (⟨"SpaceBasis$Monomials", "append", "(II)V"⟩ : Jvm.MethodName) (⟨"SpaceBasis$Monomials", "append", "(II)V"⟩ : Jvm.MethodName)), (Jvm.Cond.selects "SpaceBasis" (⟨"SpaceBasis", "beginAnew", "()V"⟩ : Jvm.MethodName) (⟨"SpaceBasis", "beginAnew", "()V"⟩ : Jvm.MethodName)), (Jvm.Cond.selects "SpaceBasis" (⟨"SpaceBasis", "emptyHand", "()V"⟩ : Jvm.MethodName) (⟨"SpaceBasis", "emptyHand", "()V"⟩ : Jvm.MethodName)), (Jvm.Cond.selects "SpaceBasis" (⟨"SpaceBasis", "hasMember", "(I)Z"⟩ : Jvm.MethodName) (⟨"SpaceBasis", "hasMember", "(I)Z"⟩ : Jvm.MethodName)), (Jvm.Cond.selects "SpaceBasis$Members" (⟨"SpaceBasis$Members", "hasLeadOf", "(I)Z"⟩ : Jvm.MethodName) (⟨"SpaceBasis$Members", "hasLeadOf", "(I)Z"⟩ : Jvm.MethodName)), (Jvm.Cond.selects "java/lang/Throwable" (⟨"java/lang/Throwable", "fillInStackTrace", "(I)Ljava/lang/Throwable;"⟩ : Jvm.MethodName) (⟨"java/lang/Throwable", "fillInStackTrace", "(I)Ljava/lang/Throwable;"⟩ : Jvm.MethodName)), (Jvm.Cond.selects "SpaceBasis$Space" (⟨"SpaceBasis$Space", "takeIn", "(III)V"⟩ : Jvm.MethodName) (⟨"SpaceBasis$Space", "takeIn", "(III)V"⟩ : Jvm.MethodName)), (Jvm.Cond.selects "SpaceBasis$Space" (⟨"SpaceBasis$Space", "takeInProducts", "(I)V"⟩ : Jvm.MethodName) (⟨"SpaceBasis$Space", "takeInProducts", "(I)V"⟩ : Jvm.MethodName)), (Jvm.Cond.selects "SpaceBasis$Members" (⟨"SpaceBasis$Members", "hasDividingLead", "(I)Z"⟩ : Jvm.MethodName) (⟨"SpaceBasis$Members", "hasDividingLead", "(I)Z"⟩ : Jvm.MethodName)), (Jvm.Cond.selects "SpaceBasis$Members" (⟨"SpaceBasis$Members", "addReduced", "(I)V"⟩ : Jvm.MethodName) (⟨"SpaceBasis$Members", "addReduced", "(I)V"⟩ : Jvm.MethodName)), (Jvm.Cond.selects "SpaceBasis$Members" (⟨"SpaceBasis$Members", "allPairsInside", "()Z"⟩ : Jvm.MethodName) (⟨"SpaceBasis$Members", "allPairsInside", "()Z"⟩ : Jvm.MethodName)), (Jvm.Cond.selects "SpaceBasis$Proof" (⟨"SpaceBasis$Proof", "isLine", "([I)Z"⟩ : Jvm.MethodName) (⟨"SpaceBasis$Proof", "isLine", "([I)Z"⟩ : Jvm.MethodName)), (Jvm.Cond.selects "SpaceBasis$Proof" (⟨"SpaceBasis$Proof", "reckonsRows", "(I)Z"⟩ : Jvm.MethodName) (⟨"SpaceBasis$Proof", "reckonsRows", "(I)Z"⟩ : Jvm.MethodName)), (Jvm.Cond.selects "SpaceBasis$Proof" (⟨"SpaceBasis$Proof", "reckonsRow", "(I)Z"⟩ : Jvm.MethodName) (⟨"SpaceBasis$Proof", "reckonsRow", "(I)Z"⟩ : Jvm.MethodName)), (Jvm.Cond.selects "SpaceBasis$Proof" (⟨"SpaceBasis$Proof", "writeSource", "(I)Z"⟩ : Jvm.MethodName) (⟨"SpaceBasis$Proof", "writeSource", "(I)Z"⟩ : Jvm.MethodName)), (Jvm.Cond.selects "SpaceBasisModel" (⟨"SpaceBasisModel", "fresh", "(III)V"⟩ : Jvm.MethodName) (⟨"SpaceBasisModel", "fresh", "(III)V"⟩ : Jvm.MethodName)), (Jvm.Cond.selects "SpaceBasisModel" (⟨"SpaceBasisModel", "put", "(I)V"⟩ : Jvm.MethodName) (⟨"SpaceBasisModel", "put", "(I)V"⟩ : Jvm.MethodName)), (Jvm.Cond.selects "SpaceBasisModel" (⟨"SpaceBasisModel", "greater", "(II)Z"⟩ : Jvm.MethodName) (⟨"SpaceBasisModel", "greater", "(II)Z"⟩ : Jvm.MethodName)), (Jvm.Cond.selects "SpaceBasisModel" (⟨"SpaceBasisModel", "placeOf", "(I)I"⟩ : Jvm.MethodName) (⟨"SpaceBasisModel", "placeOf", "(I)I"⟩ : Jvm.MethodName)), (Jvm.Cond.selects "SpaceBasisModel" (⟨"SpaceBasisModel", "findSpace", "(I)V"⟩ : Jvm.MethodName) (⟨"SpaceBasisModel", "findSpace", "(I)V"⟩ : Jvm.MethodName)), (Jvm.Cond.selects "SpaceBasisModel" (⟨"SpaceBasisModel", "degreeOfGenerator", "(I)I"⟩ : Jvm.MethodName) (⟨"SpaceBasisModel", "degreeOfGenerator", "(I)I"⟩ : Jvm.MethodName)), (Jvm.Cond.selects "SpaceBasisModel" (⟨"SpaceBasisModel", "comes", "()Z"⟩ : Jvm.MethodName) (⟨"SpaceBasisModel", "comes", "()Z"⟩ : Jvm.MethodName)), (Jvm.Cond.selects "SpaceBasisModel" (⟨"SpaceBasisModel", "reduce", "()I"⟩ : Jvm.MethodName) (⟨"SpaceBasisModel", "reduce", "()I"⟩ : Jvm.MethodName)), (Jvm.Cond.selects "SpaceBasisModel" (⟨"SpaceBasisModel", "takeRow", "(I)V"⟩ : Jvm.MethodName) (⟨"SpaceBasisModel", "takeRow", "(I)V"⟩ : Jvm.MethodName)), (Jvm.Cond.selects "SpaceBasisModel" (⟨"SpaceBasisModel", "inverse", "(I)I"⟩ : Jvm.MethodName) (⟨"SpaceBasisModel", "inverse", "(I)I"⟩ : Jvm.MethodName)), (Jvm.Cond.selects "SpaceBasisModel" (⟨"SpaceBasisModel", "multiplied", "(II)V"⟩ : Jvm.MethodName) (⟨"SpaceBasisModel", "multiplied", "(II)V"⟩ : Jvm.MethodName)), (Jvm.Cond.selects "SpaceBasisModel" (⟨"SpaceBasisModel", "clean", "(I)V"⟩ : Jvm.MethodName) (⟨"SpaceBasisModel", "clean", "(I)V"⟩ : Jvm.MethodName)), (Jvm.Cond.selects "SpaceBasisModel" (⟨"SpaceBasisModel", "complete", "()Z"⟩ : Jvm.MethodName) (⟨"SpaceBasisModel", "complete", "()Z"⟩ : Jvm.MethodName)), (Jvm.Cond.selects "SpaceBasisModel" (⟨"SpaceBasisModel", "dimension", "()I"⟩ : Jvm.MethodName) (⟨"SpaceBasisModel", "dimension", "()I"⟩ : Jvm.MethodName)), (Jvm.Cond.initialized "SpaceBasisLaw"), (Jvm.Cond.initialized "SpaceBasis"), (Jvm.Cond.initialized "SpaceBasis$Modulus"), (Jvm.Cond.initialized "SpaceBasis$Monomials"), (Jvm.Cond.initialized "SpaceBasis$Generators"), (Jvm.Cond.initialized "SpaceBasis$Space"), (Jvm.Cond.initialized "SpaceBasis$Origins"), (Jvm.Cond.initialized "SpaceBasis$Members"), (Jvm.Cond.initialized "SpaceBasis$Proof"), (Jvm.Cond.initialized "java/util/Arrays"), (Jvm.Cond.initialized "SpaceBasisModel"), (Jvm.Cond.initialized "java/lang/Throwable"), (Jvm.Cond.initialized "java/lang/Exception"), (Jvm.Cond.initialized "java/lang/RuntimeException"), (Jvm.Cond.initialized "java/lang/IllegalArgumentException"), (Jvm.Cond.initialized "java/lang/Math"), (Jvm.Cond.initialized "java/lang/IllegalStateException"), (Jvm.Cond.initialized "java/lang/System"), (Jvm.Cond.initialized "java/lang/Integer"), (Jvm.Cond.classLink "SpaceBasisLaw" (8 : Nat) "SpaceBasis"), (Jvm.Cond.instantiable "SpaceBasis" (9 : Nat)), (Jvm.Cond.methodLink "SpaceBasisLaw" (33 : Nat) ({ cls := "SpaceBasis", name := "<init>", desc := "()V" } : Jvm.MethodName)), (Jvm.Cond.instanceMethod ({ cls := "SpaceBasis", name := "<init>", desc := "()V" } : Jvm.MethodName)), (Jvm.Cond.code ({ cls := "SpaceBasis", name := "<init>", desc := "()V" } : Jvm.MethodName) prog_1_method_1_code (1 : Nat) (Option.none : Option Jvm.ClassFile.FieldType)), (Jvm.Cond.methodLink "SpaceBasis" (3 : Nat) ({ cls := "java/lang/Object", name := "<init>", desc := "()V" } : Jvm.MethodName)), (Jvm.Cond.instanceMethod ({ cls := "java/lang/Object", name := "<init>", desc := "()V" } : Jvm.MethodName)), (Jvm.Cond.code ({ cls := "java/lang/Object", name := "<init>", desc := "()V" } : Jvm.MethodName) object_method_1_code (1 : Nat) (Option.none : Option Jvm.ClassFile.FieldType)), (Jvm.Cond.classLink "SpaceBasis" (9 : Nat) "SpaceBasis$Modulus"), (Jvm.Cond.instantiable "SpaceBasis$Modulus" (1 : Nat))]
set_option maxRecDepth 100000 in
theorem vw_g0 : GoodIn lw_tbl vw_a0 := goodIn_r _ [0, 1, 2, 3, 4, 5, 6, 7, 8, 9, 10, 11, 12, 13, 14, 15, 16, 17, 18, 19, 20, 21, 22, 23, 24, 25, 26, 27, 28, 29, 30, 31, 32, 33, 34, 35, 36, 37, 38, 39, 40, 41, 42, 43, 44, 45, 46, 47, 48, 49, 50, 51, 52, 53, 54, 55, 56, 57, 58, 59] rfl (by decide +kernel)
def vw_a1 : List Cond := [(Jvm.Cond.instanceMethod ({ cls := "SpaceBasis$Modulus", name := "<init>", desc := "()V" } : Jvm.MethodName)), (Jvm.Cond.code ({ cls := "SpaceBasis$Modulus", name := "<init>", desc := "()V" } : Jvm.MethodName) prog_4_method_1_code (1 : Nat) (Option.none : Option Jvm.ClassFile.FieldType)), (Jvm.Cond.methodLink "SpaceBasis$Modulus" (3 : Nat) ({ cls := "java/lang/Object", name := "<init>", desc := "()V" } : Jvm.MethodName)), (Jvm.Cond.fieldLink "SpaceBasis$Modulus" (9 : Nat) "SpaceBasis$Modulus" "prime" "I"), (Jvm.Cond.lays "SpaceBasis$Modulus" "SpaceBasis$Modulus" "prime" "I"), (Jvm.Cond.soleField "SpaceBasis$Modulus" "prime"), (Jvm.Cond.superclass "SpaceBasis$Modulus" "java/lang/Object"), (Jvm.Cond.classLink "SpaceBasis" (16 : Nat) "SpaceBasis$Monomials"), (Jvm.Cond.instantiable "SpaceBasis$Monomials" (8 : Nat)), (Jvm.Cond.instanceMethod ({ cls := "SpaceBasis$Monomials", name := "<init>", desc := "()V" } : Jvm.MethodName)), (Jvm.Cond.code ({ cls := "SpaceBasis$Monomials", name := "<init>", desc := "()V" } : Jvm.MethodName) prog_5_method_1_code (1 : Nat) (Option.none : Option Jvm.ClassFile.FieldType)), (Jvm.Cond.methodLink "SpaceBasis$Monomials" (3 : Nat) ({ cls := "java/lang/Object", name := "<init>", desc := "()V" } : Jvm.MethodName)), (Jvm.Cond.fieldLink "SpaceBasis$Monomials" (9 : Nat) "SpaceBasis$Monomials" "codes" "[I"), (Jvm.Cond.fieldLink "SpaceBasis$Monomials" (15 : Nat) "SpaceBasis$Monomials" "degrees" "[I"), (Jvm.Cond.fieldLink "SpaceBasis$Monomials" (18 : Nat) "SpaceBasis$Monomials" "firstOfDegree" "[I"), (Jvm.Cond.fieldLink "SpaceBasis$Monomials" (21 : Nat) "SpaceBasis$Monomials" "products" "[I"), (Jvm.Cond.fieldLink "SpaceBasis$Monomials" (24 : Nat) "SpaceBasis$Monomials" "variables" "I"), (Jvm.Cond.fieldLink "SpaceBasis$Monomials" (28 : Nat) "SpaceBasis$Monomials" "order" "I"), (Jvm.Cond.fieldLink "SpaceBasis$Monomials" (34 : Nat) "SpaceBasis$Monomials" "highest" "I"), (Jvm.Cond.fieldLink "SpaceBasis$Monomials" (37 : Nat) "SpaceBasis$Monomials" "count" "I"), (Jvm.Cond.laysFinal "SpaceBasis$Monomials" "SpaceBasis$Monomials" "codes" "[I"), (Jvm.Cond.soleField "SpaceBasis$Monomials" "codes"), (Jvm.Cond.laysFinal "SpaceBasis$Monomials" "SpaceBasis$Monomials" "degrees" "[I"), (Jvm.Cond.soleField "SpaceBasis$Monomials" "degrees"), (Jvm.Cond.laysFinal "SpaceBasis$Monomials" "SpaceBasis$Monomials" "firstOfDegree" "[I"), (Jvm.Cond.soleField "SpaceBasis$Monomials" "firstOfDegree"), (Jvm.Cond.laysFinal "SpaceBasis$Monomials" "SpaceBasis$Monomials" "products" "[I"), (Jvm.Cond.soleField "SpaceBasis$Monomials" "products"), (Jvm.Cond.lays "SpaceBasis$Monomials" "SpaceBasis$Monomials" "variables" "I"), (Jvm.Cond.soleField "SpaceBasis$Monomials" "variables"), (Jvm.Cond.lays "SpaceBasis$Monomials" "SpaceBasis$Monomials" "order" "I"), (Jvm.Cond.soleField "SpaceBasis$Monomials" "order"), (Jvm.Cond.lays "SpaceBasis$Monomials" "SpaceBasis$Monomials" "highest" "I"), (Jvm.Cond.soleField "SpaceBasis$Monomials" "highest"), (Jvm.Cond.lays "SpaceBasis$Monomials" "SpaceBasis$Monomials" "count" "I"), (Jvm.Cond.soleField "SpaceBasis$Monomials" "count"), (Jvm.Cond.superclass "SpaceBasis$Monomials" "java/lang/Object"), (Jvm.Cond.arrayClass Jvm.ClassFile.FieldType.int), (Jvm.Cond.classLink "SpaceBasis" (23 : Nat) "SpaceBasis$Generators"), (Jvm.Cond.instantiable "SpaceBasis$Generators" (3 : Nat)), (Jvm.Cond.instanceMethod ({ cls := "SpaceBasis$Generators", name := "<init>", desc := "()V" } : Jvm.MethodName)), (Jvm.Cond.code ({ cls := "SpaceBasis$Generators", name := "<init>", desc := "()V" } : Jvm.MethodName) prog_2_method_1_code (1 : Nat) (Option.none : Option Jvm.ClassFile.FieldType)), (Jvm.Cond.methodLink "SpaceBasis$Generators" (3 : Nat) ({ cls := "java/lang/Object", name := "<init>", desc := "()V" } : Jvm.MethodName)), (Jvm.Cond.classLink "SpaceBasis$Generators" (9 : Nat) "[[I"), (Jvm.Cond.fieldLink "SpaceBasis$Generators" (11 : Nat) "SpaceBasis$Generators" "polynomials" "[[I"), (Jvm.Cond.fieldLink "SpaceBasis$Generators" (16 : Nat) "SpaceBasis$Generators" "tops" "[I"), (Jvm.Cond.fieldLink "SpaceBasis$Generators" (20 : Nat) "SpaceBasis$Generators" "count" "I"), (Jvm.Cond.laysFinal "SpaceBasis$Generators" "SpaceBasis$Generators" "polynomials" "[[I"), (Jvm.Cond.soleField "SpaceBasis$Generators" "polynomials"), (Jvm.Cond.laysFinal "SpaceBasis$Generators" "SpaceBasis$Generators" "tops" "[I"), (Jvm.Cond.soleField "SpaceBasis$Generators" "tops"), (Jvm.Cond.lays "SpaceBasis$Generators" "SpaceBasis$Generators" "count" "I"), (Jvm.Cond.soleField "SpaceBasis$Generators" "count"), (Jvm.Cond.superclass "SpaceBasis$Generators" "java/lang/Object"), (Jvm.Cond.classLink "SpaceBasis" (30 : Nat) "SpaceBasis$Space"), (Jvm.Cond.instantiable "SpaceBasis$Space" (11 : Nat)), (Jvm.Cond.methodLink "SpaceBasis" (32 : Nat) ({ cls := "SpaceBasis$Space", name := "<init>", desc := "(LSpaceBasis$Modulus;LSpaceBasis$Monomials;)V" } : Jvm.MethodName)), (Jvm.Cond.instanceMethod ({ cls := "SpaceBasis$Space", name := "<init>", desc := "(LSpaceBasis$Modulus;LSpaceBasis$Monomials;)V" } : Jvm.MethodName)), (Jvm.Cond.code ({ cls := "SpaceBasis$Space", name := "<init>", desc := "(LSpaceBasis$Modulus;LSpaceBasis$Monomials;)V" } : Jvm.MethodName) prog_8_method_1_code (3 : Nat) (Option.none : Option Jvm.ClassFile.FieldType)), (Jvm.Cond.methodLink "SpaceBasis$Space" (3 : Nat) ({ cls := "java/lang/Object", name := "<init>", desc := "()V" } : Jvm.MethodName))]
set_option maxRecDepth 100000 in
theorem vw_g1 : GoodIn lw_tbl vw_a1 := goodIn_r _ [61, 62, 63, 64, 67, 68, 69, 70, 71, 73, 74, 75, 76, 78, 81, 83, 84, 87, 88, 90, 92, 93, 94, 95, 96, 97, 98, 99, 100, 101, 102, 103, 104, 105, 106, 107, 108, 109, 110, 111, 113, 114, 115, 116, 118, 121, 124, 128, 129, 130, 131, 132, 133, 134, 135, 136, 137, 138, 139, 140] rfl (by decide +kernel)
def vw_a2 : List Cond := [(Jvm.Cond.classLink "SpaceBasis$Space" (9 : Nat) "SpaceBasis$Origins"), (Jvm.Cond.instantiable "SpaceBasis$Origins" (4 : Nat)), (Jvm.Cond.instanceMethod ({ cls := "SpaceBasis$Origins", name := "<init>", desc := "()V" } : Jvm.MethodName)), (Jvm.Cond.code ({ cls := "SpaceBasis$Origins", name := "<init>", desc := "()V" } : Jvm.MethodName) prog_6_method_1_code (1 : Nat) (Option.none : Option Jvm.ClassFile.FieldType)), (Jvm.Cond.methodLink "SpaceBasis$Origins" (3 : Nat) ({ cls := "java/lang/Object", name := "<init>", desc := "()V" } : Jvm.MethodName)), (Jvm.Cond.fieldLink "SpaceBasis$Origins" (9 : Nat) "SpaceBasis$Origins" "sources" "[I"), (Jvm.Cond.fieldLink "SpaceBasis$Origins" (15 : Nat) "SpaceBasis$Origins" "variables" "[I"), (Jvm.Cond.fieldLink "SpaceBasis$Origins" (18 : Nat) "SpaceBasis$Origins" "factors" "[I"), (Jvm.Cond.fieldLink "SpaceBasis$Origins" (21 : Nat) "SpaceBasis$Origins" "numbers" "[I"), (Jvm.Cond.laysFinal "SpaceBasis$Origins" "SpaceBasis$Origins" "sources" "[I"), (Jvm.Cond.soleField "SpaceBasis$Origins" "sources"), (Jvm.Cond.laysFinal "SpaceBasis$Origins" "SpaceBasis$Origins" "variables" "[I"), (Jvm.Cond.soleField "SpaceBasis$Origins" "variables"), (Jvm.Cond.laysFinal "SpaceBasis$Origins" "SpaceBasis$Origins" "factors" "[I"), (Jvm.Cond.soleField "SpaceBasis$Origins" "factors"), (Jvm.Cond.laysFinal "SpaceBasis$Origins" "SpaceBasis$Origins" "numbers" "[I"), (Jvm.Cond.soleField "SpaceBasis$Origins" "numbers"), (Jvm.Cond.superclass "SpaceBasis$Origins" "java/lang/Object"), (Jvm.Cond.fieldLink "SpaceBasis$Space" (38 : Nat) "SpaceBasis$Space" "modulus" "LSpaceBasis$Modulus;"), (Jvm.Cond.fieldLink "SpaceBasis$Space" (42 : Nat) "SpaceBasis$Space" "monomials" "LSpaceBasis$Monomials;"), (Jvm.Cond.fieldLink "SpaceBasis$Space" (12 : Nat) "SpaceBasis$Space" "origins" "LSpaceBasis$Origins;"), (Jvm.Cond.fieldLink "SpaceBasis$Space" (18 : Nat) "SpaceBasis$Space" "coefficients" "[I"), (Jvm.Cond.fieldLink "SpaceBasis$Space" (22 : Nat) "SpaceBasis$Space" "leads" "[I"), (Jvm.Cond.fieldLink "SpaceBasis$Space" (25 : Nat) "SpaceBasis$Space" "rowOfLead" "[I"), (Jvm.Cond.fieldLink "SpaceBasis$Space" (28 : Nat) "SpaceBasis$Space" "taken" "[I"), (Jvm.Cond.fieldLink "SpaceBasis$Space" (31 : Nat) "SpaceBasis$Space" "work" "[I"), (Jvm.Cond.fieldLink "SpaceBasis$Space" (34 : Nat) "SpaceBasis$Space" "degree" "I"), (Jvm.Cond.fieldLink "SpaceBasis$Space" (46 : Nat) "SpaceBasis$Space" "size" "I"), (Jvm.Cond.fieldLink "SpaceBasis$Space" (49 : Nat) "SpaceBasis$Space" "count" "I"), (Jvm.Cond.laysFinal "SpaceBasis$Space" "SpaceBasis$Space" "modulus" "LSpaceBasis$Modulus;"), (Jvm.Cond.soleField "SpaceBasis$Space" "modulus"), (Jvm.Cond.laysFinal "SpaceBasis$Space" "SpaceBasis$Space" "monomials" "LSpaceBasis$Monomials;"), (Jvm.Cond.soleField "SpaceBasis$Space" "monomials"), (Jvm.Cond.laysFinal "SpaceBasis$Space" "SpaceBasis$Space" "origins" "LSpaceBasis$Origins;"), (Jvm.Cond.soleField "SpaceBasis$Space" "origins"), (Jvm.Cond.laysFinal "SpaceBasis$Space" "SpaceBasis$Space" "coefficients" "[I"), (Jvm.Cond.soleField "SpaceBasis$Space" "coefficients"), (Jvm.Cond.laysFinal "SpaceBasis$Space" "SpaceBasis$Space" "leads" "[I"), (Jvm.Cond.soleField "SpaceBasis$Space" "leads"), (Jvm.Cond.laysFinal "SpaceBasis$Space" "SpaceBasis$Space" "rowOfLead" "[I"), (Jvm.Cond.soleField "SpaceBasis$Space" "rowOfLead"), (Jvm.Cond.laysFinal "SpaceBasis$Space" "SpaceBasis$Space" "taken" "[I"), (Jvm.Cond.soleField "SpaceBasis$Space" "taken"), (Jvm.Cond.laysFinal "SpaceBasis$Space" "SpaceBasis$Space" "work" "[I"), (Jvm.Cond.soleField "SpaceBasis$Space" "work"), (Jvm.Cond.lays "SpaceBasis$Space" "SpaceBasis$Space" "degree" "I"), (Jvm.Cond.soleField "SpaceBasis$Space" "degree"), (Jvm.Cond.lays "SpaceBasis$Space" "SpaceBasis$Space" "size" "I"), (Jvm.Cond.soleField "SpaceBasis$Space" "size"), (Jvm.Cond.lays "SpaceBasis$Space" "SpaceBasis$Space" "count" "I"), (Jvm.Cond.soleField "SpaceBasis$Space" "count"), (Jvm.Cond.superclass "SpaceBasis$Space" "java/lang/Object"), (Jvm.Cond.classLink "SpaceBasis" (39 : Nat) "SpaceBasis$Members"), (Jvm.Cond.instantiable "SpaceBasis$Members" (7 : Nat)), (Jvm.Cond.methodLink "SpaceBasis" (41 : Nat) ({ cls := "SpaceBasis$Members", name := "<init>", desc := "(LSpaceBasis$Monomials;LSpaceBasis$Space;)V" } : Jvm.MethodName)), (Jvm.Cond.instanceMethod ({ cls := "SpaceBasis$Members", name := "<init>", desc := "(LSpaceBasis$Monomials;LSpaceBasis$Space;)V" } : Jvm.MethodName)), (Jvm.Cond.code ({ cls := "SpaceBasis$Members", name := "<init>", desc := "(LSpaceBasis$Monomials;LSpaceBasis$Space;)V" } : Jvm.MethodName) prog_3_method_1_code (3 : Nat) (Option.none : Option Jvm.ClassFile.FieldType)), (Jvm.Cond.methodLink "SpaceBasis$Members" (3 : Nat) ({ cls := "java/lang/Object", name := "<init>", desc := "()V" } : Jvm.MethodName)), (Jvm.Cond.fieldLink "SpaceBasis$Members" (21 : Nat) "SpaceBasis$Members" "monomials" "LSpaceBasis$Monomials;"), (Jvm.Cond.fieldLink "SpaceBasis$Members" (25 : Nat) "SpaceBasis$Members" "space" "LSpaceBasis$Space;")]
set_option maxRecDepth 100000 in
theorem vw_g2 : GoodIn lw_tbl vw_a2 := goodIn_r _ [141, 142, 144, 145, 146, 147, 150, 153, 156, 157, 158, 159, 160, 161, 162, 163, 164, 165, 166, 167, 168, 170, 171, 172, 174, 176, 177, 180, 184, 186, 187, 188, 189, 190, 191, 192, 193, 194, 195, 196, 197, 198, 199, 200, 201, 202, 203, 204, 205, 206, 207, 208, 209, 210, 211, 212, 213, 214, 215, 216] rfl (by decide +kernel)
def vw_a3 : List Cond := [(Jvm.Cond.fieldLink "SpaceBasis$Members" (9 : Nat) "SpaceBasis$Members" "coefficients" "[I"), (Jvm.Cond.fieldLink "SpaceBasis$Members" (15 : Nat) "SpaceBasis$Members" "leads" "[I"), (Jvm.Cond.fieldLink "SpaceBasis$Members" (18 : Nat) "SpaceBasis$Members" "work" "[I"), (Jvm.Cond.fieldLink "SpaceBasis$Members" (29 : Nat) "SpaceBasis$Members" "count" "I"), (Jvm.Cond.fieldLink "SpaceBasis$Members" (53 : Nat) "SpaceBasis$Members" "complete" "Z"), (Jvm.Cond.laysFinal "SpaceBasis$Members" "SpaceBasis$Members" "monomials" "LSpaceBasis$Monomials;"), (Jvm.Cond.soleField "SpaceBasis$Members" "monomials"), (Jvm.Cond.laysFinal "SpaceBasis$Members" "SpaceBasis$Members" "space" "LSpaceBasis$Space;"), (Jvm.Cond.soleField "SpaceBasis$Members" "space"), (Jvm.Cond.laysFinal "SpaceBasis$Members" "SpaceBasis$Members" "coefficients" "[I"), (Jvm.Cond.soleField "SpaceBasis$Members" "coefficients"), (Jvm.Cond.laysFinal "SpaceBasis$Members" "SpaceBasis$Members" "leads" "[I"), (Jvm.Cond.soleField "SpaceBasis$Members" "leads"), (Jvm.Cond.laysFinal "SpaceBasis$Members" "SpaceBasis$Members" "work" "[I"), (Jvm.Cond.soleField "SpaceBasis$Members" "work"), (Jvm.Cond.lays "SpaceBasis$Members" "SpaceBasis$Members" "count" "I"), (Jvm.Cond.soleField "SpaceBasis$Members" "count"), (Jvm.Cond.lays "SpaceBasis$Members" "SpaceBasis$Members" "complete" "Z"), (Jvm.Cond.soleField "SpaceBasis$Members" "complete"), (Jvm.Cond.superclass "SpaceBasis$Members" "java/lang/Object"), (Jvm.Cond.classLink "SpaceBasis" (48 : Nat) "SpaceBasis$Proof"), (Jvm.Cond.instantiable "SpaceBasis$Proof" (5 : Nat)), (Jvm.Cond.methodLink "SpaceBasis" (50 : Nat) ({ cls := "SpaceBasis$Proof", name := "<init>", desc := "(LSpaceBasis$Modulus;LSpaceBasis$Generators;LSpaceBasis$Space;)V" } : Jvm.MethodName)), (Jvm.Cond.instanceMethod ({ cls := "SpaceBasis$Proof", name := "<init>", desc := "(LSpaceBasis$Modulus;LSpaceBasis$Generators;LSpaceBasis$Space;)V" } : Jvm.MethodName)), (Jvm.Cond.code ({ cls := "SpaceBasis$Proof", name := "<init>", desc := "(LSpaceBasis$Modulus;LSpaceBasis$Generators;LSpaceBasis$Space;)V" } : Jvm.MethodName) prog_7_method_1_code (4 : Nat) (Option.none : Option Jvm.ClassFile.FieldType)), (Jvm.Cond.methodLink "SpaceBasis$Proof" (3 : Nat) ({ cls := "java/lang/Object", name := "<init>", desc := "()V" } : Jvm.MethodName)), (Jvm.Cond.fieldLink "SpaceBasis$Proof" (15 : Nat) "SpaceBasis$Proof" "modulus" "LSpaceBasis$Modulus;"), (Jvm.Cond.fieldLink "SpaceBasis$Proof" (19 : Nat) "SpaceBasis$Proof" "generators" "LSpaceBasis$Generators;"), (Jvm.Cond.fieldLink "SpaceBasis$Proof" (23 : Nat) "SpaceBasis$Proof" "space" "LSpaceBasis$Space;"), (Jvm.Cond.fieldLink "SpaceBasis$Proof" (9 : Nat) "SpaceBasis$Proof" "line" "[I"), (Jvm.Cond.fieldLink "SpaceBasis$Proof" (27 : Nat) "SpaceBasis$Proof" "reckoned" "I"), (Jvm.Cond.laysFinal "SpaceBasis$Proof" "SpaceBasis$Proof" "modulus" "LSpaceBasis$Modulus;"), (Jvm.Cond.soleField "SpaceBasis$Proof" "modulus"), (Jvm.Cond.laysFinal "SpaceBasis$Proof" "SpaceBasis$Proof" "generators" "LSpaceBasis$Generators;"), (Jvm.Cond.soleField "SpaceBasis$Proof" "generators"), (Jvm.Cond.laysFinal "SpaceBasis$Proof" "SpaceBasis$Proof" "space" "LSpaceBasis$Space;"), (Jvm.Cond.soleField "SpaceBasis$Proof" "space"), (Jvm.Cond.laysFinal "SpaceBasis$Proof" "SpaceBasis$Proof" "line" "[I"), (Jvm.Cond.soleField "SpaceBasis$Proof" "line"), (Jvm.Cond.lays "SpaceBasis$Proof" "SpaceBasis$Proof" "reckoned" "I"), (Jvm.Cond.soleField "SpaceBasis$Proof" "reckoned"), (Jvm.Cond.superclass "SpaceBasis$Proof" "java/lang/Object"), (Jvm.Cond.methodLink "SpaceBasis" (68 : Nat) ({ cls := "SpaceBasis", name := "beginField", desc := "(III)V" } : Jvm.MethodName)), (Jvm.Cond.instanceMethod ({ cls := "SpaceBasis", name := "beginField", desc := "(III)V" } : Jvm.MethodName)), (Jvm.Cond.code ({ cls := "SpaceBasis", name := "beginField", desc := "(III)V" } : Jvm.MethodName) prog_1_method_14_code (4 : Nat) (Option.none : Option Jvm.ClassFile.FieldType)), (Jvm.Cond.methodLink "SpaceBasis" (194 : Nat) ({ cls := "SpaceBasis$Monomials", name := "list", desc := "(II)V" } : Jvm.MethodName)), (Jvm.Cond.instanceMethod ({ cls := "SpaceBasis$Monomials", name := "list", desc := "(II)V" } : Jvm.MethodName)), (Jvm.Cond.selects "SpaceBasis$Monomials" ({ cls := "SpaceBasis$Monomials", name := "list", desc := "(II)V" } : Jvm.MethodName) ({ cls := "SpaceBasis$Monomials", name := "list", desc := "(II)V" } : Jvm.MethodName)), (Jvm.Cond.code ({ cls := "SpaceBasis$Monomials", name := "list", desc := "(II)V" } : Jvm.MethodName) prog_5_method_2_code (5 : Nat) (Option.none : Option Jvm.ClassFile.FieldType)), (Jvm.Cond.methodLink "SpaceBasis$Monomials" (40 : Nat) ({ cls := "SpaceBasis$Monomials", name := "listDegree", desc := "(IIII)V" } : Jvm.MethodName)), (Jvm.Cond.instanceMethod ({ cls := "SpaceBasis$Monomials", name := "listDegree", desc := "(IIII)V" } : Jvm.MethodName)), (Jvm.Cond.code ({ cls := "SpaceBasis$Monomials", name := "listDegree", desc := "(IIII)V" } : Jvm.MethodName) prog_5_method_3_code (8 : Nat) (Option.none : Option Jvm.ClassFile.FieldType)), (Jvm.Cond.methodLink "SpaceBasis$Monomials" (44 : Nat) ({ cls := "SpaceBasis$Monomials", name := "unit", desc := "(I)I" } : Jvm.MethodName)), (Jvm.Cond.static ({ cls := "SpaceBasis$Monomials", name := "unit", desc := "(I)I" } : Jvm.MethodName)), (Jvm.Cond.code ({ cls := "SpaceBasis$Monomials", name := "unit", desc := "(I)I" } : Jvm.MethodName) prog_5_method_10_code (1 : Nat) (Option.some Jvm.ClassFile.FieldType.int)), (Jvm.Cond.methodLink "SpaceBasis$Monomials" (51 : Nat) ({ cls := "SpaceBasis$Monomials", name := "append", desc := "(II)V" } : Jvm.MethodName)), (Jvm.Cond.instanceMethod ({ cls := "SpaceBasis$Monomials", name := "append", desc := "(II)V" } : Jvm.MethodName)), (Jvm.Cond.code ({ cls := "SpaceBasis$Monomials", name := "append", desc := "(II)V" } : Jvm.MethodName) prog_5_method_4_code (3 : Nat) (Option.none : Option Jvm.ClassFile.FieldType)), (Jvm.Cond.methodLink "SpaceBasis$Monomials" (48 : Nat) ({ cls := "SpaceBasis$Monomials", name := "placeOf", desc := "(I)I" } : Jvm.MethodName)), (Jvm.Cond.instanceMethod ({ cls := "SpaceBasis$Monomials", name := "placeOf", desc := "(I)I" } : Jvm.MethodName))]
set_option maxRecDepth 100000 in
theorem vw_g3 : GoodIn lw_tbl vw_a3 := goodIn_r _ [217, 218, 220, 221, 223, 225, 226, 227, 228, 229, 230, 231, 232, 233, 234, 235, 236, 237, 238, 239, 240, 241, 242, 243, 244, 245, 246, 247, 248, 249, 250, 251, 252, 253, 254, 255, 256, 257, 258, 259, 260, 261, 262, 264, 265, 266, 267, 268, 269, 272, 274, 275, 276, 277, 278, 279, 281, 282, 283, 284] rfl (by decide +kernel)
def vw_a4 : List Cond := [(Jvm.Cond.selects "SpaceBasis$Monomials" ({ cls := "SpaceBasis$Monomials", name := "placeOf", desc := "(I)I" } : Jvm.MethodName) ({ cls := "SpaceBasis$Monomials", name := "placeOf", desc := "(I)I" } : Jvm.MethodName)), (Jvm.Cond.code ({ cls := "SpaceBasis$Monomials", name := "placeOf", desc := "(I)I" } : Jvm.MethodName) prog_5_method_5_code (5 : Nat) (Option.some Jvm.ClassFile.FieldType.int)), (Jvm.Cond.methodLink "SpaceBasis$Monomials" (55 : Nat) ({ cls := "SpaceBasis$Monomials", name := "exponentIn", desc := "(II)I" } : Jvm.MethodName)), (Jvm.Cond.static ({ cls := "SpaceBasis$Monomials", name := "exponentIn", desc := "(II)I" } : Jvm.MethodName)), (Jvm.Cond.code ({ cls := "SpaceBasis$Monomials", name := "exponentIn", desc := "(II)I" } : Jvm.MethodName) prog_5_method_11_code (2 : Nat) (Option.some Jvm.ClassFile.FieldType.int)), (Jvm.Cond.methodLink "SpaceBasis" (121 : Nat) ({ cls := "SpaceBasis", name := "beginAnew", desc := "()V" } : Jvm.MethodName)), (Jvm.Cond.instanceMethod ({ cls := "SpaceBasis", name := "beginAnew", desc := "()V" } : Jvm.MethodName)), (Jvm.Cond.code ({ cls := "SpaceBasis", name := "beginAnew", desc := "()V" } : Jvm.MethodName) prog_1_method_15_code (1 : Nat) (Option.none : Option Jvm.ClassFile.FieldType)), (Jvm.Cond.methodLink "SpaceBasis" (115 : Nat) ({ cls := "SpaceBasis", name := "emptyHand", desc := "()V" } : Jvm.MethodName)), (Jvm.Cond.instanceMethod ({ cls := "SpaceBasis", name := "emptyHand", desc := "()V" } : Jvm.MethodName)), (Jvm.Cond.code ({ cls := "SpaceBasis", name := "emptyHand", desc := "()V" } : Jvm.MethodName) prog_1_method_16_code (1 : Nat) (Option.none : Option Jvm.ClassFile.FieldType)), (Jvm.Cond.methodLink "SpaceBasis" (198 : Nat) ({ cls := "java/util/Arrays", name := "fill", desc := "([II)V" } : Jvm.MethodName)), (Jvm.Cond.static ({ cls := "java/util/Arrays", name := "fill", desc := "([II)V" } : Jvm.MethodName)), (Jvm.Cond.code ({ cls := "java/util/Arrays", name := "fill", desc := "([II)V" } : Jvm.MethodName) prog_20_method_103_code (4 : Nat) (Option.none : Option Jvm.ClassFile.FieldType)), (Jvm.Cond.methodLink "SpaceBasis" (118 : Nat) ({ cls := "SpaceBasis$Space", name := "forget", desc := "()V" } : Jvm.MethodName)), (Jvm.Cond.instanceMethod ({ cls := "SpaceBasis$Space", name := "forget", desc := "()V" } : Jvm.MethodName)), (Jvm.Cond.selects "SpaceBasis$Space" ({ cls := "SpaceBasis$Space", name := "forget", desc := "()V" } : Jvm.MethodName) ({ cls := "SpaceBasis$Space", name := "forget", desc := "()V" } : Jvm.MethodName)), (Jvm.Cond.code ({ cls := "SpaceBasis$Space", name := "forget", desc := "()V" } : Jvm.MethodName) prog_8_method_2_code (1 : Nat) (Option.none : Option Jvm.ClassFile.FieldType)), (Jvm.Cond.fieldLink "SpaceBasis" (12 : Nat) "SpaceBasis" "modulus" "LSpaceBasis$Modulus;"), (Jvm.Cond.fieldLink "SpaceBasis" (19 : Nat) "SpaceBasis" "monomials" "LSpaceBasis$Monomials;"), (Jvm.Cond.fieldLink "SpaceBasis" (26 : Nat) "SpaceBasis" "generators" "LSpaceBasis$Generators;"), (Jvm.Cond.fieldLink "SpaceBasis" (35 : Nat) "SpaceBasis" "space" "LSpaceBasis$Space;"), (Jvm.Cond.fieldLink "SpaceBasis" (44 : Nat) "SpaceBasis" "members" "LSpaceBasis$Members;"), (Jvm.Cond.fieldLink "SpaceBasis" (53 : Nat) "SpaceBasis" "proof" "LSpaceBasis$Proof;"), (Jvm.Cond.fieldLink "SpaceBasis" (57 : Nat) "SpaceBasis" "inHand" "[I"), (Jvm.Cond.fieldLink "SpaceBasis" (61 : Nat) "SpaceBasis" "asked" "[I"), (Jvm.Cond.fieldLink "SpaceBasis" (64 : Nat) "SpaceBasis" "provedCount" "I"), (Jvm.Cond.laysFinal "SpaceBasis" "SpaceBasis" "modulus" "LSpaceBasis$Modulus;"), (Jvm.Cond.soleField "SpaceBasis" "modulus"), (Jvm.Cond.laysFinal "SpaceBasis" "SpaceBasis" "monomials" "LSpaceBasis$Monomials;"), (Jvm.Cond.soleField "SpaceBasis" "monomials"), (Jvm.Cond.laysFinal "SpaceBasis" "SpaceBasis" "generators" "LSpaceBasis$Generators;"), (Jvm.Cond.soleField "SpaceBasis" "generators"), (Jvm.Cond.laysFinal "SpaceBasis" "SpaceBasis" "space" "LSpaceBasis$Space;"), (Jvm.Cond.soleField "SpaceBasis" "space"), (Jvm.Cond.laysFinal "SpaceBasis" "SpaceBasis" "members" "LSpaceBasis$Members;"), (Jvm.Cond.soleField "SpaceBasis" "members"), (Jvm.Cond.laysFinal "SpaceBasis" "SpaceBasis" "proof" "LSpaceBasis$Proof;"), (Jvm.Cond.soleField "SpaceBasis" "proof"), (Jvm.Cond.laysFinal "SpaceBasis" "SpaceBasis" "inHand" "[I"), (Jvm.Cond.soleField "SpaceBasis" "inHand"), (Jvm.Cond.laysFinal "SpaceBasis" "SpaceBasis" "asked" "[I"), (Jvm.Cond.soleField "SpaceBasis" "asked"), (Jvm.Cond.lays "SpaceBasis" "SpaceBasis" "provedCount" "I"), (Jvm.Cond.soleField "SpaceBasis" "provedCount"), (Jvm.Cond.superclass "SpaceBasis" "java/lang/Object"), (Jvm.Cond.methodLink "SpaceBasisLaw" (50 : Nat) ({ cls := "SpaceBasis", name := "hand", desc := "(I)I" } : Jvm.MethodName)), (Jvm.Cond.instanceMethod ({ cls := "SpaceBasis", name := "hand", desc := "(I)I" } : Jvm.MethodName)), (Jvm.Cond.selects "SpaceBasis" ({ cls := "SpaceBasis", name := "hand", desc := "(I)I" } : Jvm.MethodName) ({ cls := "SpaceBasis", name := "hand", desc := "(I)I" } : Jvm.MethodName)), (Jvm.Cond.code ({ cls := "SpaceBasis", name := "hand", desc := "(I)I" } : Jvm.MethodName) prog_1_method_4_code (3 : Nat) (Option.some Jvm.ClassFile.FieldType.int)), (Jvm.Cond.methodLink "SpaceBasis" (87 : Nat) ({ cls := "SpaceBasis$Monomials", name := "placeOf", desc := "(I)I" } : Jvm.MethodName)), (Jvm.Cond.methodLink "SpaceBasisLaw" (58 : Nat) ({ cls := "SpaceBasis", name := "clear", desc := "()V" } : Jvm.MethodName)), (Jvm.Cond.instanceMethod ({ cls := "SpaceBasis", name := "clear", desc := "()V" } : Jvm.MethodName)), (Jvm.Cond.selects "SpaceBasis" ({ cls := "SpaceBasis", name := "clear", desc := "()V" } : Jvm.MethodName) ({ cls := "SpaceBasis", name := "clear", desc := "()V" } : Jvm.MethodName)), (Jvm.Cond.code ({ cls := "SpaceBasis", name := "clear", desc := "()V" } : Jvm.MethodName) prog_1_method_6_code (1 : Nat) (Option.none : Option Jvm.ClassFile.FieldType)), (Jvm.Cond.methodLink "SpaceBasisLaw" (66 : Nat) ({ cls := "SpaceBasis", name := "lead", desc := "(I)I" } : Jvm.MethodName)), (Jvm.Cond.instanceMethod ({ cls := "SpaceBasis", name := "lead", desc := "(I)I" } : Jvm.MethodName)), (Jvm.Cond.selects "SpaceBasis" ({ cls := "SpaceBasis", name := "lead", desc := "(I)I" } : Jvm.MethodName) ({ cls := "SpaceBasis", name := "lead", desc := "(I)I" } : Jvm.MethodName)), (Jvm.Cond.code ({ cls := "SpaceBasis", name := "lead", desc := "(I)I" } : Jvm.MethodName) prog_1_method_8_code (2 : Nat) (Option.some Jvm.ClassFile.FieldType.int)), (Jvm.Cond.methodLink "SpaceBasis" (151 : Nat) ({ cls := "SpaceBasis", name := "hasMember", desc := "(I)Z" } : Jvm.MethodName))]
set_option maxRecDepth 100000 in
theorem vw_g4 : GoodIn lw_tbl vw_a4 := goodIn_r _ [285, 286, 287, 288, 289, 290, 292, 293, 294, 296, 297, 298, 299, 300, 301, 302, 303, 304, 305, 306, 307, 308, 309, 310, 311, 312, 313, 314, 315, 316, 317, 318, 319, 320, 321, 322, 323, 324, 325, 326, 327, 328, 329, 330, 331, 332, 333, 334, 335, 336, 337, 338, 339, 340, 341, 342, 343, 344, 345, 346] rfl (by decide +kernel)
def vw_a5 : List Cond := [(Jvm.Cond.instanceMethod ({ cls := "SpaceBasis", name := "hasMember", desc := "(I)Z" } : Jvm.MethodName)), (Jvm.Cond.code ({ cls := "SpaceBasis", name := "hasMember", desc := "(I)Z" } : Jvm.MethodName) prog_1_method_17_code (2 : Nat) (Option.some Jvm.ClassFile.FieldType.boolean)), (Jvm.Cond.methodLink "SpaceBasisLaw" (70 : Nat) ({ cls := "SpaceBasis", name := "member", desc := "(II)I" } : Jvm.MethodName)), (Jvm.Cond.instanceMethod ({ cls := "SpaceBasis", name := "member", desc := "(II)I" } : Jvm.MethodName)), (Jvm.Cond.selects "SpaceBasis" ({ cls := "SpaceBasis", name := "member", desc := "(II)I" } : Jvm.MethodName) ({ cls := "SpaceBasis", name := "member", desc := "(II)I" } : Jvm.MethodName)), (Jvm.Cond.code ({ cls := "SpaceBasis", name := "member", desc := "(II)I" } : Jvm.MethodName) prog_1_method_9_code (3 : Nat) (Option.some Jvm.ClassFile.FieldType.int)), (Jvm.Cond.methodLink "SpaceBasis" (160 : Nat) ({ cls := "SpaceBasis$Members", name := "coefficientAt", desc := "(II)I" } : Jvm.MethodName)), (Jvm.Cond.instanceMethod ({ cls := "SpaceBasis$Members", name := "coefficientAt", desc := "(II)I" } : Jvm.MethodName)), (Jvm.Cond.selects "SpaceBasis$Members" ({ cls := "SpaceBasis$Members", name := "coefficientAt", desc := "(II)I" } : Jvm.MethodName) ({ cls := "SpaceBasis$Members", name := "coefficientAt", desc := "(II)I" } : Jvm.MethodName)), (Jvm.Cond.code ({ cls := "SpaceBasis$Members", name := "coefficientAt", desc := "(II)I" } : Jvm.MethodName) prog_3_method_6_code (4 : Nat) (Option.some Jvm.ClassFile.FieldType.int)), (Jvm.Cond.static ({ cls := "SpaceBasis", name := "startOfLine", desc := "(I)I" } : Jvm.MethodName)), (Jvm.Cond.code ({ cls := "SpaceBasis", name := "startOfLine", desc := "(I)I" } : Jvm.MethodName) prog_1_method_19_code (1 : Nat) (Option.some Jvm.ClassFile.FieldType.int)), (Jvm.Cond.methodLink "SpaceBasisLaw" (75 : Nat) ({ cls := "SpaceBasis", name := "ideal", desc := "(I)I" } : Jvm.MethodName)), (Jvm.Cond.instanceMethod ({ cls := "SpaceBasis", name := "ideal", desc := "(I)I" } : Jvm.MethodName)), (Jvm.Cond.selects "SpaceBasis" ({ cls := "SpaceBasis", name := "ideal", desc := "(I)I" } : Jvm.MethodName) ({ cls := "SpaceBasis", name := "ideal", desc := "(I)I" } : Jvm.MethodName)), (Jvm.Cond.code ({ cls := "SpaceBasis", name := "ideal", desc := "(I)I" } : Jvm.MethodName) prog_1_method_10_code (2 : Nat) (Option.some Jvm.ClassFile.FieldType.int)), (Jvm.Cond.methodLink "SpaceBasis" (168 : Nat) ({ cls := "SpaceBasis$Members", name := "dimension", desc := "()I" } : Jvm.MethodName)), (Jvm.Cond.instanceMethod ({ cls := "SpaceBasis$Members", name := "dimension", desc := "()I" } : Jvm.MethodName)), (Jvm.Cond.selects "SpaceBasis$Members" ({ cls := "SpaceBasis$Members", name := "dimension", desc := "()I" } : Jvm.MethodName) ({ cls := "SpaceBasis$Members", name := "dimension", desc := "()I" } : Jvm.MethodName)), (Jvm.Cond.code ({ cls := "SpaceBasis$Members", name := "dimension", desc := "()I" } : Jvm.MethodName) prog_3_method_7_code (3 : Nat) (Option.some Jvm.ClassFile.FieldType.int)), (Jvm.Cond.methodLink "SpaceBasis$Members" (101 : Nat) ({ cls := "SpaceBasis$Members", name := "hasLeadOf", desc := "(I)Z" } : Jvm.MethodName)), (Jvm.Cond.instanceMethod ({ cls := "SpaceBasis$Members", name := "hasLeadOf", desc := "(I)Z" } : Jvm.MethodName)), (Jvm.Cond.code ({ cls := "SpaceBasis$Members", name := "hasLeadOf", desc := "(I)Z" } : Jvm.MethodName) prog_3_method_8_code (3 : Nat) (Option.some Jvm.ClassFile.FieldType.boolean)), (Jvm.Cond.methodLink "SpaceBasis$Members" (114 : Nat) ({ cls := "SpaceBasis$Monomials", name := "variablesIn", desc := "(I)I" } : Jvm.MethodName)), (Jvm.Cond.instanceMethod ({ cls := "SpaceBasis$Monomials", name := "variablesIn", desc := "(I)I" } : Jvm.MethodName)), (Jvm.Cond.selects "SpaceBasis$Monomials" ({ cls := "SpaceBasis$Monomials", name := "variablesIn", desc := "(I)I" } : Jvm.MethodName) ({ cls := "SpaceBasis$Monomials", name := "variablesIn", desc := "(I)I" } : Jvm.MethodName)), (Jvm.Cond.code ({ cls := "SpaceBasis$Monomials", name := "variablesIn", desc := "(I)I" } : Jvm.MethodName) prog_5_method_9_code (4 : Nat) (Option.some Jvm.ClassFile.FieldType.int)), (Jvm.Cond.methodLink "SpaceBasis$Members" (104 : Nat) ({ cls := "java/lang/Integer", name := "bitCount", desc := "(I)I" } : Jvm.MethodName)), (Jvm.Cond.static ({ cls := "java/lang/Integer", name := "bitCount", desc := "(I)I" } : Jvm.MethodName)), (Jvm.Cond.code ({ cls := "java/lang/Integer", name := "bitCount", desc := "(I)I" } : Jvm.MethodName) prog_14_method_49_code (1 : Nat) (Option.some Jvm.ClassFile.FieldType.int)), (Jvm.Cond.constant "java/lang/Integer" (265 : Nat) (1431655765 : Int32)), (Jvm.Cond.constant "java/lang/Integer" (266 : Nat) (858993459 : Int32)), (Jvm.Cond.constant "java/lang/Integer" (267 : Nat) (252645135 : Int32)), (Jvm.Cond.methodLink "SpaceBasis$Members" (109 : Nat) ({ cls := "java/lang/Math", name := "max", desc := "(II)I" } : Jvm.MethodName)), (Jvm.Cond.static ({ cls := "java/lang/Math", name := "max", desc := "(II)I" } : Jvm.MethodName)), (Jvm.Cond.code ({ cls := "java/lang/Math", name := "max", desc := "(II)I" } : Jvm.MethodName) prog_15_method_65_code (2 : Nat) (Option.some Jvm.ClassFile.FieldType.int)), (Jvm.Cond.methodLink "SpaceBasisLaw" (79 : Nat) ({ cls := "SpaceBasis", name := "standard", desc := "(I)I" } : Jvm.MethodName)), (Jvm.Cond.instanceMethod ({ cls := "SpaceBasis", name := "standard", desc := "(I)I" } : Jvm.MethodName)), (Jvm.Cond.selects "SpaceBasis" ({ cls := "SpaceBasis", name := "standard", desc := "(I)I" } : Jvm.MethodName) ({ cls := "SpaceBasis", name := "standard", desc := "(I)I" } : Jvm.MethodName)), (Jvm.Cond.code ({ cls := "SpaceBasis", name := "standard", desc := "(I)I" } : Jvm.MethodName) prog_1_method_11_code (2 : Nat) (Option.some Jvm.ClassFile.FieldType.int)), (Jvm.Cond.methodLink "SpaceBasis" (171 : Nat) ({ cls := "SpaceBasis$Space", name := "standardOfDegree", desc := "(I)I" } : Jvm.MethodName)), (Jvm.Cond.instanceMethod ({ cls := "SpaceBasis$Space", name := "standardOfDegree", desc := "(I)I" } : Jvm.MethodName)), (Jvm.Cond.selects "SpaceBasis$Space" ({ cls := "SpaceBasis$Space", name := "standardOfDegree", desc := "(I)I" } : Jvm.MethodName) ({ cls := "SpaceBasis$Space", name := "standardOfDegree", desc := "(I)I" } : Jvm.MethodName)), (Jvm.Cond.code ({ cls := "SpaceBasis$Space", name := "standardOfDegree", desc := "(I)I" } : Jvm.MethodName) prog_8_method_11_code (4 : Nat) (Option.some Jvm.ClassFile.FieldType.int)), (Jvm.Cond.methodLink "SpaceBasis$Space" (131 : Nat) ({ cls := "SpaceBasis$Space", name := "isLead", desc := "(I)Z" } : Jvm.MethodName)), (Jvm.Cond.instanceMethod ({ cls := "SpaceBasis$Space", name := "isLead", desc := "(I)Z" } : Jvm.MethodName)), (Jvm.Cond.selects "SpaceBasis$Space" ({ cls := "SpaceBasis$Space", name := "isLead", desc := "(I)Z" } : Jvm.MethodName) ({ cls := "SpaceBasis$Space", name := "isLead", desc := "(I)Z" } : Jvm.MethodName)), (Jvm.Cond.code ({ cls := "SpaceBasis$Space", name := "isLead", desc := "(I)Z" } : Jvm.MethodName) prog_8_method_9_code (2 : Nat) (Option.some Jvm.ClassFile.FieldType.boolean)), (Jvm.Cond.methodLink "SpaceBasisLaw" (86 : Nat) ({ cls := "SpaceBasis", name := "proved", desc := "()I" } : Jvm.MethodName)), (Jvm.Cond.instanceMethod ({ cls := "SpaceBasis", name := "proved", desc := "()I" } : Jvm.MethodName)), (Jvm.Cond.selects "SpaceBasis" ({ cls := "SpaceBasis", name := "proved", desc := "()I" } : Jvm.MethodName) ({ cls := "SpaceBasis", name := "proved", desc := "()I" } : Jvm.MethodName)), (Jvm.Cond.code ({ cls := "SpaceBasis", name := "proved", desc := "()I" } : Jvm.MethodName) prog_1_method_13_code (1 : Nat) (Option.some Jvm.ClassFile.FieldType.int)), (Jvm.Cond.methodLink "SpaceBasisLaw" (37 : Nat) ({ cls := "SpaceBasisLaw", name := "field", desc := "(LSpaceBasis;III)I" } : Jvm.MethodName)), (Jvm.Cond.static ({ cls := "SpaceBasisLaw", name := "field", desc := "(LSpaceBasis;III)I" } : Jvm.MethodName)), (Jvm.Cond.codeWith ({ cls := "SpaceBasisLaw", name := "field", desc := "(LSpaceBasis;III)I" } : Jvm.MethodName) method_3_code (5 : Nat) (Option.some Jvm.ClassFile.FieldType.int) [((0 : Nat), (7 : Nat), (10 : Nat), (13 : Nat))]), (Jvm.Cond.classLink "SpaceBasisLaw" (13 : Nat) "java/lang/IllegalArgumentException"), (Jvm.Cond.methodLink "SpaceBasisLaw" (7 : Nat) ({ cls := "SpaceBasis", name := "field", desc := "(III)V" } : Jvm.MethodName)), (Jvm.Cond.instanceMethod ({ cls := "SpaceBasis", name := "field", desc := "(III)V" } : Jvm.MethodName)), (Jvm.Cond.selects "SpaceBasis" ({ cls := "SpaceBasis", name := "field", desc := "(III)V" } : Jvm.MethodName) ({ cls := "SpaceBasis", name := "field", desc := "(III)V" } : Jvm.MethodName)), (Jvm.Cond.code ({ cls := "SpaceBasis", name := "field", desc := "(III)V" } : Jvm.MethodName) prog_1_method_2_code (4 : Nat) (Option.none : Option Jvm.ClassFile.FieldType))]
set_option maxRecDepth 100000 in
theorem vw_g5 : GoodIn lw_tbl vw_a5 := goodIn_r _ [348, 349, 350, 351, 352, 353, 354, 355, 356, 357, 359, 360, 361, 362, 363, 364, 365, 366, 367, 368, 369, 371, 372, 373, 374, 375, 376, 377, 378, 379, 380, 381, 382, 383, 384, 385, 386, 387, 388, 389, 390, 391, 392, 393, 394, 395, 396, 397, 398, 399, 400, 401, 402, 403, 404, 405, 406, 407, 408, 409] rfl (by decide +kernel)
def vw_a6 : List Cond := [(Jvm.Cond.methodLink "SpaceBasis" (72 : Nat) ({ cls := "SpaceBasis$Modulus", name := "isPrime", desc := "(I)Z" } : Jvm.MethodName)), (Jvm.Cond.static ({ cls := "SpaceBasis$Modulus", name := "isPrime", desc := "(I)Z" } : Jvm.MethodName)), (Jvm.Cond.code ({ cls := "SpaceBasis$Modulus", name := "isPrime", desc := "(I)Z" } : Jvm.MethodName) prog_4_method_2_code (2 : Nat) (Option.some Jvm.ClassFile.FieldType.boolean)), (Jvm.Cond.classLink "SpaceBasis" (76 : Nat) "java/lang/IllegalArgumentException"), (Jvm.Cond.instantiable "java/lang/IllegalArgumentException" (6 : Nat)), (Jvm.Cond.selects "java/lang/IllegalArgumentException" ({ cls := "java/lang/Throwable", name := "fillInStackTrace", desc := "(I)Ljava/lang/Throwable;" } : Jvm.MethodName) ({ cls := "java/lang/Throwable", name := "fillInStackTrace", desc := "(I)Ljava/lang/Throwable;" } : Jvm.MethodName)), (Jvm.Cond.selects "java/lang/IllegalArgumentException" ({ cls := "java/lang/Throwable", name := "fillInStackTrace", desc := "()Ljava/lang/Throwable;" } : Jvm.MethodName) ({ cls := "java/lang/Throwable", name := "fillInStackTrace", desc := "()Ljava/lang/Throwable;" } : Jvm.MethodName)), (Jvm.Cond.lays "java/lang/IllegalArgumentException" "java/lang/Throwable" "cause" "Ljava/lang/Throwable;"), (Jvm.Cond.lays "java/lang/Throwable" "java/lang/Throwable" "cause" "Ljava/lang/Throwable;"), (Jvm.Cond.lays "java/lang/IllegalArgumentException" "java/lang/Throwable" "stackTrace" "[Ljava/lang/StackTraceElement;"), (Jvm.Cond.lays "java/lang/Throwable" "java/lang/Throwable" "stackTrace" "[Ljava/lang/StackTraceElement;"), (Jvm.Cond.lays "java/lang/IllegalArgumentException" "java/lang/Throwable" "suppressedExceptions" "Ljava/util/List;"), (Jvm.Cond.lays "java/lang/Throwable" "java/lang/Throwable" "suppressedExceptions" "Ljava/util/List;"), (Jvm.Cond.lays "java/lang/IllegalArgumentException" "java/lang/Throwable" "detailMessage" "Ljava/lang/String;"), (Jvm.Cond.lays "java/lang/Throwable" "java/lang/Throwable" "detailMessage" "Ljava/lang/String;"), (Jvm.Cond.lays "java/lang/IllegalArgumentException" "java/lang/Throwable" "backtrace" "Ljava/lang/Object;"), (Jvm.Cond.lays "java/lang/Throwable" "java/lang/Throwable" "backtrace" "Ljava/lang/Object;"), (Jvm.Cond.fieldLink "java/lang/Throwable" (198 : Nat) "java/lang/Throwable" "backtrace" "Ljava/lang/Object;"), (Jvm.Cond.superclass "java/lang/Throwable" "java/lang/Object"), (Jvm.Cond.instanceMethod ({ cls := "java/lang/Throwable", name := "<init>", desc := "()V" } : Jvm.MethodName)), (Jvm.Cond.code ({ cls := "java/lang/Throwable", name := "<init>", desc := "()V" } : Jvm.MethodName) prog_19_method_1_code (1 : Nat) (Option.none : Option Jvm.ClassFile.FieldType)), (Jvm.Cond.methodLink "java/lang/Throwable" (1 : Nat) ({ cls := "java/lang/Object", name := "<init>", desc := "()V" } : Jvm.MethodName)), (Jvm.Cond.fieldLink "java/lang/Throwable" (13 : Nat) "java/lang/Throwable" "UNASSIGNED_STACK" "[Ljava/lang/StackTraceElement;"), (Jvm.Cond.fieldLink "java/lang/Throwable" (20 : Nat) "java/lang/Throwable" "SUPPRESSED_SENTINEL" "Ljava/util/List;"), (Jvm.Cond.methodLink "java/lang/Throwable" (27 : Nat) ({ cls := "java/lang/Throwable", name := "fillInStackTrace", desc := "()Ljava/lang/Throwable;" } : Jvm.MethodName)), (Jvm.Cond.instanceMethod ({ cls := "java/lang/Throwable", name := "fillInStackTrace", desc := "()Ljava/lang/Throwable;" } : Jvm.MethodName)), (Jvm.Cond.sameMethod "java/lang/Throwable" "java/lang/Throwable" "fillInStackTrace" "()Ljava/lang/Throwable;"), (Jvm.Cond.selects "java/lang/IllegalStateException" ({ cls := "java/lang/Throwable", name := "fillInStackTrace", desc := "()Ljava/lang/Throwable;" } : Jvm.MethodName) ({ cls := "java/lang/Throwable", name := "fillInStackTrace", desc := "()Ljava/lang/Throwable;" } : Jvm.MethodName)), (Jvm.Cond.codeSync ({ cls := "java/lang/Throwable", name := "fillInStackTrace", desc := "()Ljava/lang/Throwable;" } : Jvm.MethodName) prog_19_method_18_code (1 : Nat) (Option.some (Jvm.ClassFile.FieldType.object "java/lang/Throwable"))), (Jvm.Cond.methodLink "java/lang/Throwable" (202 : Nat) ({ cls := "java/lang/Throwable", name := "fillInStackTrace", desc := "(I)Ljava/lang/Throwable;" } : Jvm.MethodName)), (Jvm.Cond.instanceMethod ({ cls := "java/lang/Throwable", name := "fillInStackTrace", desc := "(I)Ljava/lang/Throwable;" } : Jvm.MethodName)), (Jvm.Cond.instantiable "java/lang/Throwable" (6 : Nat)), (Jvm.Cond.native ({ cls := "java/lang/Throwable", name := "fillInStackTrace", desc := "(I)Ljava/lang/Throwable;" } : Jvm.MethodName)), (Jvm.Cond.methodLink "SpaceBasis" (80 : Nat) ({ cls := "java/lang/IllegalArgumentException", name := "<init>", desc := "(Ljava/lang/String;)V" } : Jvm.MethodName)), (Jvm.Cond.instanceMethod ({ cls := "java/lang/IllegalArgumentException", name := "<init>", desc := "(Ljava/lang/String;)V" } : Jvm.MethodName)), (Jvm.Cond.code ({ cls := "java/lang/IllegalArgumentException", name := "<init>", desc := "(Ljava/lang/String;)V" } : Jvm.MethodName) prog_12_method_2_code (2 : Nat) (Option.none : Option Jvm.ClassFile.FieldType)), (Jvm.Cond.methodLink "java/lang/IllegalArgumentException" (7 : Nat) ({ cls := "java/lang/RuntimeException", name := "<init>", desc := "(Ljava/lang/String;)V" } : Jvm.MethodName)), (Jvm.Cond.instanceMethod ({ cls := "java/lang/RuntimeException", name := "<init>", desc := "(Ljava/lang/String;)V" } : Jvm.MethodName)), (Jvm.Cond.code ({ cls := "java/lang/RuntimeException", name := "<init>", desc := "(Ljava/lang/String;)V" } : Jvm.MethodName) prog_16_method_2_code (2 : Nat) (Option.none : Option Jvm.ClassFile.FieldType)), (Jvm.Cond.methodLink "java/lang/RuntimeException" (7 : Nat) ({ cls := "java/lang/Exception", name := "<init>", desc := "(Ljava/lang/String;)V" } : Jvm.MethodName)), (Jvm.Cond.instanceMethod ({ cls := "java/lang/Exception", name := "<init>", desc := "(Ljava/lang/String;)V" } : Jvm.MethodName)), (Jvm.Cond.code ({ cls := "java/lang/Exception", name := "<init>", desc := "(Ljava/lang/String;)V" } : Jvm.MethodName) prog_11_method_2_code (2 : Nat) (Option.none : Option Jvm.ClassFile.FieldType)), (Jvm.Cond.methodLink "java/lang/Exception" (7 : Nat) ({ cls := "java/lang/Throwable", name := "<init>", desc := "(Ljava/lang/String;)V" } : Jvm.MethodName)), (Jvm.Cond.instanceMethod ({ cls := "java/lang/Throwable", name := "<init>", desc := "(Ljava/lang/String;)V" } : Jvm.MethodName)), (Jvm.Cond.code ({ cls := "java/lang/Throwable", name := "<init>", desc := "(Ljava/lang/String;)V" } : Jvm.MethodName) prog_19_method_2_code (2 : Nat) (Option.none : Option Jvm.ClassFile.FieldType)), (Jvm.Cond.fieldLink "java/lang/Throwable" (198 : Nat) "java/lang/Throwable" "backtrace" "Ljava/lang/Object;"), (Jvm.Cond.fieldLink "java/lang/Throwable" (31 : Nat) "java/lang/Throwable" "detailMessage" "Ljava/lang/String;"), (Jvm.Cond.fieldLink "java/lang/Throwable" (7 : Nat) "java/lang/Throwable" "cause" "Ljava/lang/Throwable;"), (Jvm.Cond.fieldLink "java/lang/Throwable" (17 : Nat) "java/lang/Throwable" "stackTrace" "[Ljava/lang/StackTraceElement;"), (Jvm.Cond.fieldLink "java/lang/Throwable" (24 : Nat) "java/lang/Throwable" "suppressedExceptions" "Ljava/util/List;"), (Jvm.Cond.soleField "java/lang/Throwable" "backtrace"), (Jvm.Cond.soleField "java/lang/Throwable" "detailMessage"), (Jvm.Cond.soleField "java/lang/Throwable" "cause"), (Jvm.Cond.soleField "java/lang/Throwable" "stackTrace"), (Jvm.Cond.lays "java/lang/IllegalArgumentException" "java/lang/Throwable" "depth" "I"), (Jvm.Cond.soleField "java/lang/Throwable" "depth"), (Jvm.Cond.soleField "java/lang/Throwable" "suppressedExceptions"), (Jvm.Cond.superclass "java/lang/IllegalArgumentException" "java/lang/RuntimeException"), (Jvm.Cond.arrayClass Jvm.ClassFile.FieldType.byte), (Jvm.Cond.methodLink "SpaceBasisLaw" (46 : Nat) ({ cls := "SpaceBasisLaw", name := "coefficient", desc := "(LSpaceBasis;II)I" } : Jvm.MethodName))]
set_option maxRecDepth 100000 in
theorem vw_g6 : GoodIn lw_tbl vw_a6 := goodIn_r _ [410, 411, 412, 413, 414, 422, 423, 424, 425, 426, 427, 428, 429, 430, 431, 432, 433, 434, 435, 436, 437, 438, 439, 441, 443, 444, 445, 446, 447, 448, 450, 451, 452, 454, 455, 456, 457, 458, 459, 460, 461, 462, 463, 464, 465, 466, 467, 468, 469, 470, 471, 472, 473, 474, 475, 476, 477, 478, 479, 482] rfl (by decide +kernel)
def vw_a7 : List Cond := [(Jvm.Cond.static ({ cls := "SpaceBasisLaw", name := "coefficient", desc := "(LSpaceBasis;II)I" } : Jvm.MethodName)), (Jvm.Cond.codeWith ({ cls := "SpaceBasisLaw", name := "coefficient", desc := "(LSpaceBasis;II)I" } : Jvm.MethodName) method_4_code (4 : Nat) (Option.some Jvm.ClassFile.FieldType.int) [((0 : Nat), (6 : Nat), (9 : Nat), (13 : Nat))]), (Jvm.Cond.methodLink "SpaceBasisLaw" (15 : Nat) ({ cls := "SpaceBasis", name := "coefficient", desc := "(II)V" } : Jvm.MethodName)), (Jvm.Cond.instanceMethod ({ cls := "SpaceBasis", name := "coefficient", desc := "(II)V" } : Jvm.MethodName)), (Jvm.Cond.selects "SpaceBasis" ({ cls := "SpaceBasis", name := "coefficient", desc := "(II)V" } : Jvm.MethodName) ({ cls := "SpaceBasis", name := "coefficient", desc := "(II)V" } : Jvm.MethodName)), (Jvm.Cond.code ({ cls := "SpaceBasis", name := "coefficient", desc := "(II)V" } : Jvm.MethodName) prog_1_method_3_code (4 : Nat) (Option.none : Option Jvm.ClassFile.FieldType)), (Jvm.Cond.methodLink "SpaceBasis" (93 : Nat) ({ cls := "SpaceBasis$Modulus", name := "within", desc := "(I)I" } : Jvm.MethodName)), (Jvm.Cond.instanceMethod ({ cls := "SpaceBasis$Modulus", name := "within", desc := "(I)I" } : Jvm.MethodName)), (Jvm.Cond.selects "SpaceBasis$Modulus" ({ cls := "SpaceBasis$Modulus", name := "within", desc := "(I)I" } : Jvm.MethodName) ({ cls := "SpaceBasis$Modulus", name := "within", desc := "(I)I" } : Jvm.MethodName)), (Jvm.Cond.code ({ cls := "SpaceBasis$Modulus", name := "within", desc := "(I)I" } : Jvm.MethodName) prog_4_method_3_code (2 : Nat) (Option.some Jvm.ClassFile.FieldType.int)), (Jvm.Cond.methodLink "SpaceBasis$Modulus" (15 : Nat) ({ cls := "java/lang/Math", name := "floorMod", desc := "(II)I" } : Jvm.MethodName)), (Jvm.Cond.static ({ cls := "java/lang/Math", name := "floorMod", desc := "(II)I" } : Jvm.MethodName)), (Jvm.Cond.code ({ cls := "java/lang/Math", name := "floorMod", desc := "(II)I" } : Jvm.MethodName) prog_15_method_50_code (3 : Nat) (Option.some Jvm.ClassFile.FieldType.int)), (Jvm.Cond.methodLink "SpaceBasisLaw" (54 : Nat) ({ cls := "SpaceBasisLaw", name := "join", desc := "(LSpaceBasis;[J)I" } : Jvm.MethodName)), (Jvm.Cond.static ({ cls := "SpaceBasisLaw", name := "join", desc := "(LSpaceBasis;[J)I" } : Jvm.MethodName)), (Jvm.Cond.codeWith ({ cls := "SpaceBasisLaw", name := "join", desc := "(LSpaceBasis;[J)I" } : Jvm.MethodName) method_5_code (3 : Nat) (Option.some Jvm.ClassFile.FieldType.int) [((0 : Nat), (8 : Nat), (11 : Nat), (13 : Nat)), ((0 : Nat), (8 : Nat), (14 : Nat), (23 : Nat))]), (Jvm.Cond.classLink "SpaceBasisLaw" (23 : Nat) "java/lang/IllegalStateException"), (Jvm.Cond.methodLink "SpaceBasisLaw" (19 : Nat) ({ cls := "SpaceBasis", name := "join", desc := "()I" } : Jvm.MethodName)), (Jvm.Cond.instanceMethod ({ cls := "SpaceBasis", name := "join", desc := "()I" } : Jvm.MethodName)), (Jvm.Cond.selects "SpaceBasis" ({ cls := "SpaceBasis", name := "join", desc := "()I" } : Jvm.MethodName) ({ cls := "SpaceBasis", name := "join", desc := "()I" } : Jvm.MethodName)), (Jvm.Cond.code ({ cls := "SpaceBasis", name := "join", desc := "()I" } : Jvm.MethodName) prog_1_method_5_code (2 : Nat) (Option.some Jvm.ClassFile.FieldType.int)), (Jvm.Cond.methodLink "SpaceBasis" (99 : Nat) ({ cls := "SpaceBasis", name := "topOf", desc := "([II)I" } : Jvm.MethodName)), (Jvm.Cond.static ({ cls := "SpaceBasis", name := "topOf", desc := "([II)I" } : Jvm.MethodName)), (Jvm.Cond.code ({ cls := "SpaceBasis", name := "topOf", desc := "([II)I" } : Jvm.MethodName) prog_1_method_18_code (3 : Nat) (Option.some Jvm.ClassFile.FieldType.int)), (Jvm.Cond.methodLink "SpaceBasis" (203 : Nat) ({ cls := "java/lang/Math", name := "min", desc := "(II)I" } : Jvm.MethodName)), (Jvm.Cond.static ({ cls := "java/lang/Math", name := "min", desc := "(II)I" } : Jvm.MethodName)), (Jvm.Cond.code ({ cls := "java/lang/Math", name := "min", desc := "(II)I" } : Jvm.MethodName) prog_15_method_69_code (2 : Nat) (Option.some Jvm.ClassFile.FieldType.int)), (Jvm.Cond.classLink "SpaceBasis" (106 : Nat) "java/lang/IllegalStateException"), (Jvm.Cond.instantiable "java/lang/IllegalStateException" (6 : Nat)), (Jvm.Cond.selects "java/lang/IllegalStateException" ({ cls := "java/lang/Throwable", name := "fillInStackTrace", desc := "(I)Ljava/lang/Throwable;" } : Jvm.MethodName) ({ cls := "java/lang/Throwable", name := "fillInStackTrace", desc := "(I)Ljava/lang/Throwable;" } : Jvm.MethodName)), (Jvm.Cond.lays "java/lang/IllegalStateException" "java/lang/Throwable" "cause" "Ljava/lang/Throwable;"), (Jvm.Cond.lays "java/lang/IllegalStateException" "java/lang/Throwable" "stackTrace" "[Ljava/lang/StackTraceElement;"), (Jvm.Cond.lays "java/lang/IllegalStateException" "java/lang/Throwable" "suppressedExceptions" "Ljava/util/List;"), (Jvm.Cond.lays "java/lang/IllegalStateException" "java/lang/Throwable" "detailMessage" "Ljava/lang/String;"), (Jvm.Cond.lays "java/lang/IllegalStateException" "java/lang/Throwable" "backtrace" "Ljava/lang/Object;"), (Jvm.Cond.methodLink "SpaceBasis" (110 : Nat) ({ cls := "java/lang/IllegalStateException", name := "<init>", desc := "(Ljava/lang/String;)V" } : Jvm.MethodName)), (Jvm.Cond.instanceMethod ({ cls := "java/lang/IllegalStateException", name := "<init>", desc := "(Ljava/lang/String;)V" } : Jvm.MethodName)), (Jvm.Cond.code ({ cls := "java/lang/IllegalStateException", name := "<init>", desc := "(Ljava/lang/String;)V" } : Jvm.MethodName) prog_13_method_2_code (2 : Nat) (Option.none : Option Jvm.ClassFile.FieldType)), (Jvm.Cond.methodLink "java/lang/IllegalStateException" (7 : Nat) ({ cls := "java/lang/RuntimeException", name := "<init>", desc := "(Ljava/lang/String;)V" } : Jvm.MethodName)), (Jvm.Cond.lays "java/lang/IllegalStateException" "java/lang/Throwable" "depth" "I"), (Jvm.Cond.superclass "java/lang/IllegalStateException" "java/lang/RuntimeException"), (Jvm.Cond.methodLink "SpaceBasis" (111 : Nat) ({ cls := "SpaceBasis$Generators", name := "add", desc := "([II)V" } : Jvm.MethodName)), (Jvm.Cond.instanceMethod ({ cls := "SpaceBasis$Generators", name := "add", desc := "([II)V" } : Jvm.MethodName)), (Jvm.Cond.selects "SpaceBasis$Generators" ({ cls := "SpaceBasis$Generators", name := "add", desc := "([II)V" } : Jvm.MethodName) ({ cls := "SpaceBasis$Generators", name := "add", desc := "([II)V" } : Jvm.MethodName)), (Jvm.Cond.code ({ cls := "SpaceBasis$Generators", name := "add", desc := "([II)V" } : Jvm.MethodName) prog_2_method_2_code (3 : Nat) (Option.none : Option Jvm.ClassFile.FieldType)), (Jvm.Cond.methodLink "SpaceBasis$Generators" (24 : Nat) ({ cls := "java/lang/System", name := "arraycopy", desc := "(Ljava/lang/Object;ILjava/lang/Object;II)V" } : Jvm.MethodName)), (Jvm.Cond.static ({ cls := "java/lang/System", name := "arraycopy", desc := "(Ljava/lang/Object;ILjava/lang/Object;II)V" } : Jvm.MethodName)), (Jvm.Cond.native ({ cls := "java/lang/System", name := "arraycopy", desc := "(Ljava/lang/Object;ILjava/lang/Object;II)V" } : Jvm.MethodName)), (Jvm.Cond.methodLink "SpaceBasisLaw" (62 : Nat) ({ cls := "SpaceBasisLaw", name := "basis", desc := "(LSpaceBasis;I[J)I" } : Jvm.MethodName)), (Jvm.Cond.static ({ cls := "SpaceBasisLaw", name := "basis", desc := "(LSpaceBasis;I[J)I" } : Jvm.MethodName)), (Jvm.Cond.codeWith ({ cls := "SpaceBasisLaw", name := "basis", desc := "(LSpaceBasis;I[J)I" } : Jvm.MethodName) method_6_code (4 : Nat) (Option.some Jvm.ClassFile.FieldType.int) [((0 : Nat), (9 : Nat), (12 : Nat), (13 : Nat))]), (Jvm.Cond.methodLink "SpaceBasisLaw" (25 : Nat) ({ cls := "SpaceBasis", name := "basis", desc := "(I)I" } : Jvm.MethodName)), (Jvm.Cond.instanceMethod ({ cls := "SpaceBasis", name := "basis", desc := "(I)I" } : Jvm.MethodName)), (Jvm.Cond.selects "SpaceBasis" ({ cls := "SpaceBasis", name := "basis", desc := "(I)I" } : Jvm.MethodName) ({ cls := "SpaceBasis", name := "basis", desc := "(I)I" } : Jvm.MethodName)), (Jvm.Cond.code ({ cls := "SpaceBasis", name := "basis", desc := "(I)I" } : Jvm.MethodName) prog_1_method_7_code (2 : Nat) (Option.some Jvm.ClassFile.FieldType.int)), (Jvm.Cond.methodLink "SpaceBasis" (132 : Nat) ({ cls := "SpaceBasis$Space", name := "span", desc := "(ILSpaceBasis$Generators;)V" } : Jvm.MethodName)), (Jvm.Cond.instanceMethod ({ cls := "SpaceBasis$Space", name := "span", desc := "(ILSpaceBasis$Generators;)V" } : Jvm.MethodName)), (Jvm.Cond.selects "SpaceBasis$Space" ({ cls := "SpaceBasis$Space", name := "span", desc := "(ILSpaceBasis$Generators;)V" } : Jvm.MethodName) ({ cls := "SpaceBasis$Space", name := "span", desc := "(ILSpaceBasis$Generators;)V" } : Jvm.MethodName)), (Jvm.Cond.code ({ cls := "SpaceBasis$Space", name := "span", desc := "(ILSpaceBasis$Generators;)V" } : Jvm.MethodName) prog_8_method_3_code (5 : Nat) (Option.none : Option Jvm.ClassFile.FieldType)), (Jvm.Cond.methodLink "SpaceBasis$Space" (57 : Nat) ({ cls := "java/util/Arrays", name := "fill", desc := "([II)V" } : Jvm.MethodName))]
set_option maxRecDepth 100000 in
theorem vw_g7 : GoodIn lw_tbl vw_a7 := goodIn_r _ [483, 484, 485, 486, 487, 488, 490, 491, 492, 493, 494, 495, 496, 497, 498, 499, 500, 501, 502, 503, 504, 505, 506, 507, 508, 509, 510, 512, 513, 515, 516, 517, 518, 519, 520, 522, 523, 524, 525, 526, 527, 528, 529, 530, 531, 532, 533, 534, 535, 536, 537, 538, 539, 540, 541, 543, 544, 545, 546, 547] rfl (by decide +kernel)
def vw_a8 : List Cond := [(Jvm.Cond.methodLink "SpaceBasis$Space" (73 : Nat) ({ cls := "java/lang/System", name := "arraycopy", desc := "(Ljava/lang/Object;ILjava/lang/Object;II)V" } : Jvm.MethodName)), (Jvm.Cond.methodLink "SpaceBasis$Space" (79 : Nat) ({ cls := "SpaceBasis$Space", name := "takeIn", desc := "(III)V" } : Jvm.MethodName)), (Jvm.Cond.instanceMethod ({ cls := "SpaceBasis$Space", name := "takeIn", desc := "(III)V" } : Jvm.MethodName)), (Jvm.Cond.code ({ cls := "SpaceBasis$Space", name := "takeIn", desc := "(III)V" } : Jvm.MethodName) prog_8_method_5_code (9 : Nat) (Option.none : Option Jvm.ClassFile.FieldType)), (Jvm.Cond.methodLink "SpaceBasis$Space" (97 : Nat) ({ cls := "SpaceBasis$Space", name := "reduce", desc := "([II)V" } : Jvm.MethodName)), (Jvm.Cond.instanceMethod ({ cls := "SpaceBasis$Space", name := "reduce", desc := "([II)V" } : Jvm.MethodName)), (Jvm.Cond.selects "SpaceBasis$Space" ({ cls := "SpaceBasis$Space", name := "reduce", desc := "([II)V" } : Jvm.MethodName) ({ cls := "SpaceBasis$Space", name := "reduce", desc := "([II)V" } : Jvm.MethodName)), (Jvm.Cond.code ({ cls := "SpaceBasis$Space", name := "reduce", desc := "([II)V" } : Jvm.MethodName) prog_8_method_6_code (5 : Nat) (Option.none : Option Jvm.ClassFile.FieldType)), (Jvm.Cond.methodLink "SpaceBasis$Space" (125 : Nat) ({ cls := "SpaceBasis$Modulus", name := "opposite", desc := "(I)I" } : Jvm.MethodName)), (Jvm.Cond.instanceMethod ({ cls := "SpaceBasis$Modulus", name := "opposite", desc := "(I)I" } : Jvm.MethodName)), (Jvm.Cond.selects "SpaceBasis$Modulus" ({ cls := "SpaceBasis$Modulus", name := "opposite", desc := "(I)I" } : Jvm.MethodName) ({ cls := "SpaceBasis$Modulus", name := "opposite", desc := "(I)I" } : Jvm.MethodName)), (Jvm.Cond.code ({ cls := "SpaceBasis$Modulus", name := "opposite", desc := "(I)I" } : Jvm.MethodName) prog_4_method_4_code (2 : Nat) (Option.some Jvm.ClassFile.FieldType.int)), (Jvm.Cond.methodLink "SpaceBasis$Space" (135 : Nat) ({ cls := "SpaceBasis$Space", name := "addRow", desc := "([III)V" } : Jvm.MethodName)), (Jvm.Cond.instanceMethod ({ cls := "SpaceBasis$Space", name := "addRow", desc := "([III)V" } : Jvm.MethodName)), (Jvm.Cond.selects "SpaceBasis$Space" ({ cls := "SpaceBasis$Space", name := "addRow", desc := "([III)V" } : Jvm.MethodName) ({ cls := "SpaceBasis$Space", name := "addRow", desc := "([III)V" } : Jvm.MethodName)), (Jvm.Cond.code ({ cls := "SpaceBasis$Space", name := "addRow", desc := "([III)V" } : Jvm.MethodName) prog_8_method_7_code (9 : Nat) (Option.none : Option Jvm.ClassFile.FieldType)), (Jvm.Cond.methodLink "SpaceBasis$Space" (104 : Nat) ({ cls := "SpaceBasis$Modulus", name := "inverse", desc := "(I)I" } : Jvm.MethodName)), (Jvm.Cond.instanceMethod ({ cls := "SpaceBasis$Modulus", name := "inverse", desc := "(I)I" } : Jvm.MethodName)), (Jvm.Cond.selects "SpaceBasis$Modulus" ({ cls := "SpaceBasis$Modulus", name := "inverse", desc := "(I)I" } : Jvm.MethodName) ({ cls := "SpaceBasis$Modulus", name := "inverse", desc := "(I)I" } : Jvm.MethodName)), (Jvm.Cond.code ({ cls := "SpaceBasis$Modulus", name := "inverse", desc := "(I)I" } : Jvm.MethodName) prog_4_method_6_code (5 : Nat) (Option.some Jvm.ClassFile.FieldType.int)), (Jvm.Cond.methodLink "SpaceBasis$Modulus" (21 : Nat) ({ cls := "SpaceBasis$Modulus", name := "product", desc := "(II)I" } : Jvm.MethodName)), (Jvm.Cond.instanceMethod ({ cls := "SpaceBasis$Modulus", name := "product", desc := "(II)I" } : Jvm.MethodName)), (Jvm.Cond.selects "SpaceBasis$Modulus" ({ cls := "SpaceBasis$Modulus", name := "product", desc := "(II)I" } : Jvm.MethodName) ({ cls := "SpaceBasis$Modulus", name := "product", desc := "(II)I" } : Jvm.MethodName)), (Jvm.Cond.code ({ cls := "SpaceBasis$Modulus", name := "product", desc := "(II)I" } : Jvm.MethodName) prog_4_method_5_code (3 : Nat) (Option.some Jvm.ClassFile.FieldType.int)), (Jvm.Cond.methodLink "SpaceBasis$Space" (113 : Nat) ({ cls := "SpaceBasis$Modulus", name := "product", desc := "(II)I" } : Jvm.MethodName)), (Jvm.Cond.methodLink "SpaceBasis$Space" (128 : Nat) ({ cls := "SpaceBasis$Origins", name := "noteNumber", desc := "(III)V" } : Jvm.MethodName)), (Jvm.Cond.instanceMethod ({ cls := "SpaceBasis$Origins", name := "noteNumber", desc := "(III)V" } : Jvm.MethodName)), (Jvm.Cond.selects "SpaceBasis$Origins" ({ cls := "SpaceBasis$Origins", name := "noteNumber", desc := "(III)V" } : Jvm.MethodName) ({ cls := "SpaceBasis$Origins", name := "noteNumber", desc := "(III)V" } : Jvm.MethodName)), (Jvm.Cond.code ({ cls := "SpaceBasis$Origins", name := "noteNumber", desc := "(III)V" } : Jvm.MethodName) prog_6_method_3_code (4 : Nat) (Option.none : Option Jvm.ClassFile.FieldType)), (Jvm.Cond.methodLink "SpaceBasis$Space" (83 : Nat) ({ cls := "SpaceBasis$Space", name := "takeInProducts", desc := "(I)V" } : Jvm.MethodName)), (Jvm.Cond.instanceMethod ({ cls := "SpaceBasis$Space", name := "takeInProducts", desc := "(I)V" } : Jvm.MethodName)), (Jvm.Cond.code ({ cls := "SpaceBasis$Space", name := "takeInProducts", desc := "(I)V" } : Jvm.MethodName) prog_8_method_4_code (4 : Nat) (Option.none : Option Jvm.ClassFile.FieldType)), (Jvm.Cond.methodLink "SpaceBasis$Space" (93 : Nat) ({ cls := "SpaceBasis$Space", name := "writeProduct", desc := "(II[I)I" } : Jvm.MethodName)), (Jvm.Cond.instanceMethod ({ cls := "SpaceBasis$Space", name := "writeProduct", desc := "(II[I)I" } : Jvm.MethodName)), (Jvm.Cond.selects "SpaceBasis$Space" ({ cls := "SpaceBasis$Space", name := "writeProduct", desc := "(II[I)I" } : Jvm.MethodName) ({ cls := "SpaceBasis$Space", name := "writeProduct", desc := "(II[I)I" } : Jvm.MethodName)), (Jvm.Cond.code ({ cls := "SpaceBasis$Space", name := "writeProduct", desc := "(II[I)I" } : Jvm.MethodName) prog_8_method_8_code (8 : Nat) (Option.some Jvm.ClassFile.FieldType.int)), (Jvm.Cond.methodLink "SpaceBasis$Space" (142 : Nat) ({ cls := "SpaceBasis$Monomials", name := "timesVariable", desc := "(II)I" } : Jvm.MethodName)), (Jvm.Cond.instanceMethod ({ cls := "SpaceBasis$Monomials", name := "timesVariable", desc := "(II)I" } : Jvm.MethodName)), (Jvm.Cond.selects "SpaceBasis$Monomials" ({ cls := "SpaceBasis$Monomials", name := "timesVariable", desc := "(II)I" } : Jvm.MethodName) ({ cls := "SpaceBasis$Monomials", name := "timesVariable", desc := "(II)I" } : Jvm.MethodName)), (Jvm.Cond.code ({ cls := "SpaceBasis$Monomials", name := "timesVariable", desc := "(II)I" } : Jvm.MethodName) prog_5_method_6_code (3 : Nat) (Option.some Jvm.ClassFile.FieldType.int)), (Jvm.Cond.methodLink "SpaceBasis" (136 : Nat) ({ cls := "SpaceBasis$Generators", name := "greatestTop", desc := "()I" } : Jvm.MethodName)), (Jvm.Cond.instanceMethod ({ cls := "SpaceBasis$Generators", name := "greatestTop", desc := "()I" } : Jvm.MethodName)), (Jvm.Cond.selects "SpaceBasis$Generators" ({ cls := "SpaceBasis$Generators", name := "greatestTop", desc := "()I" } : Jvm.MethodName) ({ cls := "SpaceBasis$Generators", name := "greatestTop", desc := "()I" } : Jvm.MethodName)), (Jvm.Cond.code ({ cls := "SpaceBasis$Generators", name := "greatestTop", desc := "()I" } : Jvm.MethodName) prog_2_method_3_code (3 : Nat) (Option.some Jvm.ClassFile.FieldType.int)), (Jvm.Cond.methodLink "SpaceBasis$Generators" (30 : Nat) ({ cls := "java/lang/Math", name := "max", desc := "(II)I" } : Jvm.MethodName)), (Jvm.Cond.methodLink "SpaceBasis" (143 : Nat) ({ cls := "SpaceBasis$Members", name := "find", desc := "(Z)V" } : Jvm.MethodName)), (Jvm.Cond.instanceMethod ({ cls := "SpaceBasis$Members", name := "find", desc := "(Z)V" } : Jvm.MethodName)), (Jvm.Cond.selects "SpaceBasis$Members" ({ cls := "SpaceBasis$Members", name := "find", desc := "(Z)V" } : Jvm.MethodName) ({ cls := "SpaceBasis$Members", name := "find", desc := "(Z)V" } : Jvm.MethodName)), (Jvm.Cond.code ({ cls := "SpaceBasis$Members", name := "find", desc := "(Z)V" } : Jvm.MethodName) prog_3_method_2_code (3 : Nat) (Option.none : Option Jvm.ClassFile.FieldType)), (Jvm.Cond.methodLink "SpaceBasis$Members" (38 : Nat) ({ cls := "SpaceBasis$Space", name := "isLead", desc := "(I)Z" } : Jvm.MethodName)), (Jvm.Cond.methodLink "SpaceBasis$Members" (42 : Nat) ({ cls := "SpaceBasis$Members", name := "hasDividingLead", desc := "(I)Z" } : Jvm.MethodName)), (Jvm.Cond.instanceMethod ({ cls := "SpaceBasis$Members", name := "hasDividingLead", desc := "(I)Z" } : Jvm.MethodName)), (Jvm.Cond.code ({ cls := "SpaceBasis$Members", name := "hasDividingLead", desc := "(I)Z" } : Jvm.MethodName) prog_3_method_3_code (3 : Nat) (Option.some Jvm.ClassFile.FieldType.boolean)), (Jvm.Cond.methodLink "SpaceBasis$Members" (62 : Nat) ({ cls := "SpaceBasis$Monomials", name := "byVariable", desc := "(II)I" } : Jvm.MethodName)), (Jvm.Cond.instanceMethod ({ cls := "SpaceBasis$Monomials", name := "byVariable", desc := "(II)I" } : Jvm.MethodName)), (Jvm.Cond.selects "SpaceBasis$Monomials" ({ cls := "SpaceBasis$Monomials", name := "byVariable", desc := "(II)I" } : Jvm.MethodName) ({ cls := "SpaceBasis$Monomials", name := "byVariable", desc := "(II)I" } : Jvm.MethodName)), (Jvm.Cond.code ({ cls := "SpaceBasis$Monomials", name := "byVariable", desc := "(II)I" } : Jvm.MethodName) prog_5_method_7_code (4 : Nat) (Option.some Jvm.ClassFile.FieldType.int)), (Jvm.Cond.methodLink "SpaceBasis$Members" (45 : Nat) ({ cls := "SpaceBasis$Members", name := "addReduced", desc := "(I)V" } : Jvm.MethodName)), (Jvm.Cond.instanceMethod ({ cls := "SpaceBasis$Members", name := "addReduced", desc := "(I)V" } : Jvm.MethodName)), (Jvm.Cond.code ({ cls := "SpaceBasis$Members", name := "addReduced", desc := "(I)V" } : Jvm.MethodName) prog_3_method_4_code (2 : Nat) (Option.none : Option Jvm.ClassFile.FieldType))]
set_option maxRecDepth 100000 in
theorem vw_g8 : GoodIn lw_tbl vw_a8 := goodIn_r _ [548, 549, 551, 552, 553, 554, 555, 556, 557, 558, 559, 560, 561, 562, 563, 564, 567, 568, 569, 570, 571, 572, 573, 574, 575, 576, 577, 578, 579, 581, 583, 584, 585, 586, 587, 588, 589, 590, 591, 592, 593, 594, 595, 596, 597, 598, 599, 600, 601, 602, 603, 605, 606, 607, 608, 609, 610, 611, 613, 614] rfl (by decide +kernel)
def vw_a9 : List Cond := [(Jvm.Cond.methodLink "SpaceBasis$Members" (66 : Nat) ({ cls := "java/util/Arrays", name := "fill", desc := "([II)V" } : Jvm.MethodName)), (Jvm.Cond.methodLink "SpaceBasis$Members" (75 : Nat) ({ cls := "SpaceBasis$Space", name := "addRow", desc := "([III)V" } : Jvm.MethodName)), (Jvm.Cond.methodLink "SpaceBasis$Members" (79 : Nat) ({ cls := "SpaceBasis$Space", name := "reduce", desc := "([II)V" } : Jvm.MethodName)), (Jvm.Cond.methodLink "SpaceBasis$Members" (86 : Nat) ({ cls := "java/lang/System", name := "arraycopy", desc := "(Ljava/lang/Object;ILjava/lang/Object;II)V" } : Jvm.MethodName)), (Jvm.Cond.methodLink "SpaceBasis$Members" (49 : Nat) ({ cls := "SpaceBasis$Members", name := "allPairsInside", desc := "()Z" } : Jvm.MethodName)), (Jvm.Cond.instanceMethod ({ cls := "SpaceBasis$Members", name := "allPairsInside", desc := "()Z" } : Jvm.MethodName)), (Jvm.Cond.code ({ cls := "SpaceBasis$Members", name := "allPairsInside", desc := "()Z" } : Jvm.MethodName) prog_3_method_5_code (5 : Nat) (Option.some Jvm.ClassFile.FieldType.boolean)), (Jvm.Cond.methodLink "SpaceBasis$Members" (92 : Nat) ({ cls := "SpaceBasis$Monomials", name := "degreeOfLeastCommonMultiple", desc := "(II)I" } : Jvm.MethodName)), (Jvm.Cond.instanceMethod ({ cls := "SpaceBasis$Monomials", name := "degreeOfLeastCommonMultiple", desc := "(II)I" } : Jvm.MethodName)), (Jvm.Cond.selects "SpaceBasis$Monomials" ({ cls := "SpaceBasis$Monomials", name := "degreeOfLeastCommonMultiple", desc := "(II)I" } : Jvm.MethodName) ({ cls := "SpaceBasis$Monomials", name := "degreeOfLeastCommonMultiple", desc := "(II)I" } : Jvm.MethodName)), (Jvm.Cond.code ({ cls := "SpaceBasis$Monomials", name := "degreeOfLeastCommonMultiple", desc := "(II)I" } : Jvm.MethodName) prog_5_method_8_code (5 : Nat) (Option.some Jvm.ClassFile.FieldType.int)), (Jvm.Cond.methodLink "SpaceBasis$Monomials" (59 : Nat) ({ cls := "java/lang/Math", name := "max", desc := "(II)I" } : Jvm.MethodName)), (Jvm.Cond.methodLink "SpaceBasis" (147 : Nat) ({ cls := "SpaceBasis$Proof", name := "begin", desc := "()V" } : Jvm.MethodName)), (Jvm.Cond.instanceMethod ({ cls := "SpaceBasis$Proof", name := "begin", desc := "()V" } : Jvm.MethodName)), (Jvm.Cond.selects "SpaceBasis$Proof" ({ cls := "SpaceBasis$Proof", name := "begin", desc := "()V" } : Jvm.MethodName) ({ cls := "SpaceBasis$Proof", name := "begin", desc := "()V" } : Jvm.MethodName)), (Jvm.Cond.code ({ cls := "SpaceBasis$Proof", name := "begin", desc := "()V" } : Jvm.MethodName) prog_7_method_2_code (1 : Nat) (Option.none : Option Jvm.ClassFile.FieldType)), (Jvm.Cond.methodLink "SpaceBasisLaw" (83 : Nat) ({ cls := "SpaceBasisLaw", name := "remainder", desc := "(LSpaceBasis;[J)I" } : Jvm.MethodName)), (Jvm.Cond.static ({ cls := "SpaceBasisLaw", name := "remainder", desc := "(LSpaceBasis;[J)I" } : Jvm.MethodName)), (Jvm.Cond.codeWith ({ cls := "SpaceBasisLaw", name := "remainder", desc := "(LSpaceBasis;[J)I" } : Jvm.MethodName) method_7_code (3 : Nat) (Option.some Jvm.ClassFile.FieldType.int) [((0 : Nat), (15 : Nat), (18 : Nat), (23 : Nat))]), (Jvm.Cond.methodLink "SpaceBasisLaw" (29 : Nat) ({ cls := "SpaceBasis", name := "remainder", desc := "()Z" } : Jvm.MethodName)), (Jvm.Cond.instanceMethod ({ cls := "SpaceBasis", name := "remainder", desc := "()Z" } : Jvm.MethodName)), (Jvm.Cond.selects "SpaceBasis" ({ cls := "SpaceBasis", name := "remainder", desc := "()Z" } : Jvm.MethodName) ({ cls := "SpaceBasis", name := "remainder", desc := "()Z" } : Jvm.MethodName)), (Jvm.Cond.code ({ cls := "SpaceBasis", name := "remainder", desc := "()Z" } : Jvm.MethodName) prog_1_method_12_code (2 : Nat) (Option.some Jvm.ClassFile.FieldType.boolean)), (Jvm.Cond.methodLink "SpaceBasis" (178 : Nat) ({ cls := "java/lang/System", name := "arraycopy", desc := "(Ljava/lang/Object;ILjava/lang/Object;II)V" } : Jvm.MethodName)), (Jvm.Cond.methodLink "SpaceBasis" (184 : Nat) ({ cls := "SpaceBasis$Space", name := "reduce", desc := "([II)V" } : Jvm.MethodName)), (Jvm.Cond.methodLink "SpaceBasis" (187 : Nat) ({ cls := "SpaceBasis$Proof", name := "reckonsOut", desc := "([I)Z" } : Jvm.MethodName)), (Jvm.Cond.instanceMethod ({ cls := "SpaceBasis$Proof", name := "reckonsOut", desc := "([I)Z" } : Jvm.MethodName)), (Jvm.Cond.selects "SpaceBasis$Proof" ({ cls := "SpaceBasis$Proof", name := "reckonsOut", desc := "([I)Z" } : Jvm.MethodName) ({ cls := "SpaceBasis$Proof", name := "reckonsOut", desc := "([I)Z" } : Jvm.MethodName)), (Jvm.Cond.code ({ cls := "SpaceBasis$Proof", name := "reckonsOut", desc := "([I)Z" } : Jvm.MethodName) prog_7_method_3_code (4 : Nat) (Option.some Jvm.ClassFile.FieldType.boolean)), (Jvm.Cond.methodLink "SpaceBasis$Proof" (31 : Nat) ({ cls := "java/util/Arrays", name := "fill", desc := "([II)V" } : Jvm.MethodName)), (Jvm.Cond.methodLink "SpaceBasis$Proof" (45 : Nat) ({ cls := "SpaceBasis$Space", name := "addRow", desc := "([III)V" } : Jvm.MethodName)), (Jvm.Cond.methodLink "SpaceBasis$Proof" (49 : Nat) ({ cls := "SpaceBasis$Proof", name := "isLine", desc := "([I)Z" } : Jvm.MethodName)), (Jvm.Cond.instanceMethod ({ cls := "SpaceBasis$Proof", name := "isLine", desc := "([I)Z" } : Jvm.MethodName)), (Jvm.Cond.code ({ cls := "SpaceBasis$Proof", name := "isLine", desc := "([I)Z" } : Jvm.MethodName) prog_7_method_4_code (3 : Nat) (Option.some Jvm.ClassFile.FieldType.boolean)), (Jvm.Cond.methodLink "SpaceBasis$Proof" (53 : Nat) ({ cls := "SpaceBasis$Proof", name := "reckonsRows", desc := "(I)Z" } : Jvm.MethodName)), (Jvm.Cond.instanceMethod ({ cls := "SpaceBasis$Proof", name := "reckonsRows", desc := "(I)Z" } : Jvm.MethodName)), (Jvm.Cond.code ({ cls := "SpaceBasis$Proof", name := "reckonsRows", desc := "(I)Z" } : Jvm.MethodName) prog_7_method_5_code (3 : Nat) (Option.some Jvm.ClassFile.FieldType.boolean)), (Jvm.Cond.methodLink "SpaceBasis$Proof" (57 : Nat) ({ cls := "SpaceBasis$Proof", name := "reckonsRow", desc := "(I)Z" } : Jvm.MethodName)), (Jvm.Cond.instanceMethod ({ cls := "SpaceBasis$Proof", name := "reckonsRow", desc := "(I)Z" } : Jvm.MethodName)), (Jvm.Cond.code ({ cls := "SpaceBasis$Proof", name := "reckonsRow", desc := "(I)Z" } : Jvm.MethodName) prog_7_method_6_code (4 : Nat) (Option.some Jvm.ClassFile.FieldType.boolean)), (Jvm.Cond.methodLink "SpaceBasis$Proof" (60 : Nat) ({ cls := "SpaceBasis$Proof", name := "writeSource", desc := "(I)Z" } : Jvm.MethodName)), (Jvm.Cond.instanceMethod ({ cls := "SpaceBasis$Proof", name := "writeSource", desc := "(I)Z" } : Jvm.MethodName)), (Jvm.Cond.code ({ cls := "SpaceBasis$Proof", name := "writeSource", desc := "(I)Z" } : Jvm.MethodName) prog_7_method_7_code (5 : Nat) (Option.some Jvm.ClassFile.FieldType.boolean)), (Jvm.Cond.methodLink "SpaceBasis$Proof" (103 : Nat) ({ cls := "java/lang/System", name := "arraycopy", desc := "(Ljava/lang/Object;ILjava/lang/Object;II)V" } : Jvm.MethodName)), (Jvm.Cond.methodLink "SpaceBasis$Proof" (109 : Nat) ({ cls := "SpaceBasis$Space", name := "writeProduct", desc := "(II[I)I" } : Jvm.MethodName)), (Jvm.Cond.methodLink "SpaceBasis$Proof" (75 : Nat) ({ cls := "SpaceBasis$Modulus", name := "product", desc := "(II)I" } : Jvm.MethodName)), (Jvm.Cond.methodLink "SpaceBasis$Proof" (81 : Nat) ({ cls := "SpaceBasis$Origins", name := "numberOf", desc := "(II)I" } : Jvm.MethodName)), (Jvm.Cond.instanceMethod ({ cls := "SpaceBasis$Origins", name := "numberOf", desc := "(II)I" } : Jvm.MethodName)), (Jvm.Cond.selects "SpaceBasis$Origins" ({ cls := "SpaceBasis$Origins", name := "numberOf", desc := "(II)I" } : Jvm.MethodName) ({ cls := "SpaceBasis$Origins", name := "numberOf", desc := "(II)I" } : Jvm.MethodName)), (Jvm.Cond.code ({ cls := "SpaceBasis$Origins", name := "numberOf", desc := "(II)I" } : Jvm.MethodName) prog_6_method_2_code (3 : Nat) (Option.some Jvm.ClassFile.FieldType.int)), (Jvm.Cond.methodLink "SpaceBasis$Proof" (84 : Nat) ({ cls := "SpaceBasis$Space", name := "coefficientOf", desc := "(II)I" } : Jvm.MethodName)), (Jvm.Cond.instanceMethod ({ cls := "SpaceBasis$Space", name := "coefficientOf", desc := "(II)I" } : Jvm.MethodName)), (Jvm.Cond.selects "SpaceBasis$Space" ({ cls := "SpaceBasis$Space", name := "coefficientOf", desc := "(II)I" } : Jvm.MethodName) ({ cls := "SpaceBasis$Space", name := "coefficientOf", desc := "(II)I" } : Jvm.MethodName)), (Jvm.Cond.code ({ cls := "SpaceBasis$Space", name := "coefficientOf", desc := "(II)I" } : Jvm.MethodName) prog_8_method_10_code (3 : Nat) (Option.some Jvm.ClassFile.FieldType.int)), (Jvm.Cond.classLink "SpaceBasisLaw" (34 : Nat) "SpaceBasisModel"), (Jvm.Cond.instantiable "SpaceBasisModel" (18 : Nat)), (Jvm.Cond.methodLink "SpaceBasisLaw" (36 : Nat) ({ cls := "SpaceBasisModel", name := "<init>", desc := "()V" } : Jvm.MethodName)), (Jvm.Cond.instanceMethod ({ cls := "SpaceBasisModel", name := "<init>", desc := "()V" } : Jvm.MethodName)), (Jvm.Cond.code ({ cls := "SpaceBasisModel", name := "<init>", desc := "()V" } : Jvm.MethodName) prog_10_method_1_code (1 : Nat) (Option.none : Option Jvm.ClassFile.FieldType)), (Jvm.Cond.methodLink "SpaceBasisModel" (1 : Nat) ({ cls := "java/lang/Object", name := "<init>", desc := "()V" } : Jvm.MethodName))]
set_option maxRecDepth 100000 in
theorem vw_g9 : GoodIn lw_tbl vw_a9 := goodIn_r _ [615, 616, 617, 618, 619, 621, 622, 623, 624, 625, 626, 627, 628, 629, 630, 631, 632, 633, 634, 635, 636, 637, 638, 641, 642, 643, 644, 645, 646, 647, 648, 649, 651, 652, 653, 655, 656, 657, 659, 660, 661, 663, 664, 665, 666, 667, 668, 669, 670, 671, 672, 673, 674, 675, 676, 677, 678, 679, 680, 681] rfl (by decide +kernel)
def vw_a10 : List Cond := [(Jvm.Cond.methodLink "SpaceBasisModel" (67 : Nat) ({ cls := "SpaceBasisModel", name := "fresh", desc := "(III)V" } : Jvm.MethodName)), (Jvm.Cond.instanceMethod ({ cls := "SpaceBasisModel", name := "fresh", desc := "(III)V" } : Jvm.MethodName)), (Jvm.Cond.code ({ cls := "SpaceBasisModel", name := "fresh", desc := "(III)V" } : Jvm.MethodName) prog_10_method_6_code (9 : Nat) (Option.none : Option Jvm.ClassFile.FieldType)), (Jvm.Cond.methodLink "SpaceBasisModel" (79 : Nat) ({ cls := "SpaceBasisModel", name := "highest", desc := "(I)I" } : Jvm.MethodName)), (Jvm.Cond.static ({ cls := "SpaceBasisModel", name := "highest", desc := "(I)I" } : Jvm.MethodName)), (Jvm.Cond.code ({ cls := "SpaceBasisModel", name := "highest", desc := "(I)I" } : Jvm.MethodName) prog_10_method_2_code (1 : Nat) (Option.some Jvm.ClassFile.FieldType.int)), (Jvm.Cond.methodLink "SpaceBasisModel" (82 : Nat) ({ cls := "SpaceBasisModel", name := "put", desc := "(I)V" } : Jvm.MethodName)), (Jvm.Cond.instanceMethod ({ cls := "SpaceBasisModel", name := "put", desc := "(I)V" } : Jvm.MethodName)), (Jvm.Cond.code ({ cls := "SpaceBasisModel", name := "put", desc := "(I)V" } : Jvm.MethodName) prog_10_method_7_code (3 : Nat) (Option.none : Option Jvm.ClassFile.FieldType)), (Jvm.Cond.methodLink "SpaceBasisModel" (86 : Nat) ({ cls := "SpaceBasisModel", name := "greater", desc := "(II)Z" } : Jvm.MethodName)), (Jvm.Cond.instanceMethod ({ cls := "SpaceBasisModel", name := "greater", desc := "(II)Z" } : Jvm.MethodName)), (Jvm.Cond.code ({ cls := "SpaceBasisModel", name := "greater", desc := "(II)Z" } : Jvm.MethodName) prog_10_method_5_code (5 : Nat) (Option.some Jvm.ClassFile.FieldType.boolean)), (Jvm.Cond.methodLink "SpaceBasisModel" (75 : Nat) ({ cls := "SpaceBasisModel", name := "degreeOf", desc := "(I)I" } : Jvm.MethodName)), (Jvm.Cond.static ({ cls := "SpaceBasisModel", name := "degreeOf", desc := "(I)I" } : Jvm.MethodName)), (Jvm.Cond.code ({ cls := "SpaceBasisModel", name := "degreeOf", desc := "(I)I" } : Jvm.MethodName) prog_10_method_4_code (1 : Nat) (Option.some Jvm.ClassFile.FieldType.int)), (Jvm.Cond.methodLink "SpaceBasisModel" (71 : Nat) ({ cls := "SpaceBasisModel", name := "exponent", desc := "(II)I" } : Jvm.MethodName)), (Jvm.Cond.static ({ cls := "SpaceBasisModel", name := "exponent", desc := "(II)I" } : Jvm.MethodName)), (Jvm.Cond.code ({ cls := "SpaceBasisModel", name := "exponent", desc := "(II)I" } : Jvm.MethodName) prog_10_method_3_code (2 : Nat) (Option.some Jvm.ClassFile.FieldType.int)), (Jvm.Cond.fieldLink "SpaceBasisModel" (7 : Nat) "SpaceBasisModel" "thrownCode" "I"), (Jvm.Cond.fieldLink "SpaceBasisModel" (13 : Nat) "SpaceBasisModel" "p" "I"), (Jvm.Cond.fieldLink "SpaceBasisModel" (16 : Nat) "SpaceBasisModel" "n" "I"), (Jvm.Cond.fieldLink "SpaceBasisModel" (19 : Nat) "SpaceBasisModel" "order" "I"), (Jvm.Cond.fieldLink "SpaceBasisModel" (22 : Nat) "SpaceBasisModel" "monomials" "I"), (Jvm.Cond.fieldLink "SpaceBasisModel" (25 : Nat) "SpaceBasisModel" "mono" "[I"), (Jvm.Cond.fieldLink "SpaceBasisModel" (29 : Nat) "SpaceBasisModel" "degree" "[I"), (Jvm.Cond.fieldLink "SpaceBasisModel" (32 : Nat) "SpaceBasisModel" "generators" "I"), (Jvm.Cond.fieldLink "SpaceBasisModel" (35 : Nat) "SpaceBasisModel" "generator" "[I"), (Jvm.Cond.fieldLink "SpaceBasisModel" (38 : Nat) "SpaceBasisModel" "hand" "[I"), (Jvm.Cond.fieldLink "SpaceBasisModel" (41 : Nat) "SpaceBasisModel" "found" "Z"), (Jvm.Cond.fieldLink "SpaceBasisModel" (45 : Nat) "SpaceBasisModel" "upTo" "I"), (Jvm.Cond.fieldLink "SpaceBasisModel" (48 : Nat) "SpaceBasisModel" "has" "[Z"), (Jvm.Cond.fieldLink "SpaceBasisModel" (52 : Nat) "SpaceBasisModel" "row" "[I"), (Jvm.Cond.fieldLink "SpaceBasisModel" (55 : Nat) "SpaceBasisModel" "work" "[I"), (Jvm.Cond.fieldLink "SpaceBasisModel" (58 : Nat) "SpaceBasisModel" "basis" "[I"), (Jvm.Cond.fieldLink "SpaceBasisModel" (61 : Nat) "SpaceBasisModel" "members" "I"), (Jvm.Cond.fieldLink "SpaceBasisModel" (64 : Nat) "SpaceBasisModel" "provedNow" "I"), (Jvm.Cond.lays "SpaceBasisModel" "SpaceBasisModel" "thrownCode" "I"), (Jvm.Cond.soleField "SpaceBasisModel" "thrownCode"), (Jvm.Cond.lays "SpaceBasisModel" "SpaceBasisModel" "p" "I"), (Jvm.Cond.soleField "SpaceBasisModel" "p"), (Jvm.Cond.lays "SpaceBasisModel" "SpaceBasisModel" "n" "I"), (Jvm.Cond.soleField "SpaceBasisModel" "n"), (Jvm.Cond.lays "SpaceBasisModel" "SpaceBasisModel" "order" "I"), (Jvm.Cond.soleField "SpaceBasisModel" "order"), (Jvm.Cond.lays "SpaceBasisModel" "SpaceBasisModel" "monomials" "I"), (Jvm.Cond.soleField "SpaceBasisModel" "monomials"), (Jvm.Cond.laysFinal "SpaceBasisModel" "SpaceBasisModel" "mono" "[I"), (Jvm.Cond.soleField "SpaceBasisModel" "mono"), (Jvm.Cond.laysFinal "SpaceBasisModel" "SpaceBasisModel" "degree" "[I"), (Jvm.Cond.soleField "SpaceBasisModel" "degree"), (Jvm.Cond.lays "SpaceBasisModel" "SpaceBasisModel" "generators" "I"), (Jvm.Cond.soleField "SpaceBasisModel" "generators"), (Jvm.Cond.laysFinal "SpaceBasisModel" "SpaceBasisModel" "generator" "[I"), (Jvm.Cond.soleField "SpaceBasisModel" "generator"), (Jvm.Cond.laysFinal "SpaceBasisModel" "SpaceBasisModel" "hand" "[I"), (Jvm.Cond.soleField "SpaceBasisModel" "hand"), (Jvm.Cond.lays "SpaceBasisModel" "SpaceBasisModel" "found" "Z"), (Jvm.Cond.soleField "SpaceBasisModel" "found"), (Jvm.Cond.lays "SpaceBasisModel" "SpaceBasisModel" "upTo" "I"), (Jvm.Cond.soleField "SpaceBasisModel" "upTo")]
set_option maxRecDepth 100000 in
theorem vw_g10 : GoodIn lw_tbl vw_a10 := goodIn_r _ [682, 684, 685, 686, 687, 688, 689, 691, 692, 693, 695, 696, 697, 698, 699, 700, 701, 702, 703, 704, 705, 706, 707, 708, 709, 710, 711, 712, 713, 714, 715, 716, 717, 718, 719, 720, 721, 722, 723, 724, 725, 726, 727, 728, 729, 730, 731, 732, 733, 734, 735, 736, 737, 738, 739, 740, 741, 742, 743, 744] rfl (by decide +kernel)
def vw_a11 : List Cond := [(Jvm.Cond.laysFinal "SpaceBasisModel" "SpaceBasisModel" "has" "[Z"), (Jvm.Cond.soleField "SpaceBasisModel" "has"), (Jvm.Cond.laysFinal "SpaceBasisModel" "SpaceBasisModel" "row" "[I"), (Jvm.Cond.soleField "SpaceBasisModel" "row"), (Jvm.Cond.laysFinal "SpaceBasisModel" "SpaceBasisModel" "work" "[I"), (Jvm.Cond.soleField "SpaceBasisModel" "work"), (Jvm.Cond.laysFinal "SpaceBasisModel" "SpaceBasisModel" "basis" "[I"), (Jvm.Cond.soleField "SpaceBasisModel" "basis"), (Jvm.Cond.lays "SpaceBasisModel" "SpaceBasisModel" "members" "I"), (Jvm.Cond.soleField "SpaceBasisModel" "members"), (Jvm.Cond.lays "SpaceBasisModel" "SpaceBasisModel" "provedNow" "I"), (Jvm.Cond.soleField "SpaceBasisModel" "provedNow"), (Jvm.Cond.superclass "SpaceBasisModel" "java/lang/Object"), (Jvm.Cond.arrayClass Jvm.ClassFile.FieldType.boolean), (Jvm.Cond.methodLink "SpaceBasisLaw" (43 : Nat) ({ cls := "SpaceBasisModel", name := "thrown", desc := "()I" } : Jvm.MethodName)), (Jvm.Cond.instanceMethod ({ cls := "SpaceBasisModel", name := "thrown", desc := "()I" } : Jvm.MethodName)), (Jvm.Cond.selects "SpaceBasisModel" ({ cls := "SpaceBasisModel", name := "thrown", desc := "()I" } : Jvm.MethodName) ({ cls := "SpaceBasisModel", name := "thrown", desc := "()I" } : Jvm.MethodName)), (Jvm.Cond.code ({ cls := "SpaceBasisModel", name := "thrown", desc := "()I" } : Jvm.MethodName) prog_10_method_21_code (1 : Nat) (Option.some Jvm.ClassFile.FieldType.int)), (Jvm.Cond.methodLink "SpaceBasisLaw" (42 : Nat) ({ cls := "SpaceBasisModel", name := "field", desc := "(III)V" } : Jvm.MethodName)), (Jvm.Cond.instanceMethod ({ cls := "SpaceBasisModel", name := "field", desc := "(III)V" } : Jvm.MethodName)), (Jvm.Cond.selects "SpaceBasisModel" ({ cls := "SpaceBasisModel", name := "field", desc := "(III)V" } : Jvm.MethodName) ({ cls := "SpaceBasisModel", name := "field", desc := "(III)V" } : Jvm.MethodName)), (Jvm.Cond.code ({ cls := "SpaceBasisModel", name := "field", desc := "(III)V" } : Jvm.MethodName) prog_10_method_22_code (4 : Nat) (Option.none : Option Jvm.ClassFile.FieldType)), (Jvm.Cond.methodLink "SpaceBasisModel" (117 : Nat) ({ cls := "SpaceBasisModel", name := "prime", desc := "(I)Z" } : Jvm.MethodName)), (Jvm.Cond.static ({ cls := "SpaceBasisModel", name := "prime", desc := "(I)Z" } : Jvm.MethodName)), (Jvm.Cond.code ({ cls := "SpaceBasisModel", name := "prime", desc := "(I)Z" } : Jvm.MethodName) prog_10_method_20_code (2 : Nat) (Option.some Jvm.ClassFile.FieldType.boolean)), (Jvm.Cond.methodLink "SpaceBasisLaw" (49 : Nat) ({ cls := "SpaceBasisModel", name := "coefficient", desc := "(II)V" } : Jvm.MethodName)), (Jvm.Cond.instanceMethod ({ cls := "SpaceBasisModel", name := "coefficient", desc := "(II)V" } : Jvm.MethodName)), (Jvm.Cond.selects "SpaceBasisModel" ({ cls := "SpaceBasisModel", name := "coefficient", desc := "(II)V" } : Jvm.MethodName) ({ cls := "SpaceBasisModel", name := "coefficient", desc := "(II)V" } : Jvm.MethodName)), (Jvm.Cond.code ({ cls := "SpaceBasisModel", name := "coefficient", desc := "(II)V" } : Jvm.MethodName) prog_10_method_23_code (4 : Nat) (Option.none : Option Jvm.ClassFile.FieldType)), (Jvm.Cond.methodLink "SpaceBasisModel" (100 : Nat) ({ cls := "SpaceBasisModel", name := "placeOf", desc := "(I)I" } : Jvm.MethodName)), (Jvm.Cond.instanceMethod ({ cls := "SpaceBasisModel", name := "placeOf", desc := "(I)I" } : Jvm.MethodName)), (Jvm.Cond.code ({ cls := "SpaceBasisModel", name := "placeOf", desc := "(I)I" } : Jvm.MethodName) prog_10_method_8_code (3 : Nat) (Option.some Jvm.ClassFile.FieldType.int)), (Jvm.Cond.methodLink "SpaceBasisLaw" (53 : Nat) ({ cls := "SpaceBasisModel", name := "hand", desc := "(I)I" } : Jvm.MethodName)), (Jvm.Cond.instanceMethod ({ cls := "SpaceBasisModel", name := "hand", desc := "(I)I" } : Jvm.MethodName)), (Jvm.Cond.selects "SpaceBasisModel" ({ cls := "SpaceBasisModel", name := "hand", desc := "(I)I" } : Jvm.MethodName) ({ cls := "SpaceBasisModel", name := "hand", desc := "(I)I" } : Jvm.MethodName)), (Jvm.Cond.code ({ cls := "SpaceBasisModel", name := "hand", desc := "(I)I" } : Jvm.MethodName) prog_10_method_24_code (3 : Nat) (Option.some Jvm.ClassFile.FieldType.int)), (Jvm.Cond.methodLink "SpaceBasisLaw" (57 : Nat) ({ cls := "SpaceBasisModel", name := "join", desc := "()I" } : Jvm.MethodName)), (Jvm.Cond.instanceMethod ({ cls := "SpaceBasisModel", name := "join", desc := "()I" } : Jvm.MethodName)), (Jvm.Cond.selects "SpaceBasisModel" ({ cls := "SpaceBasisModel", name := "join", desc := "()I" } : Jvm.MethodName) ({ cls := "SpaceBasisModel", name := "join", desc := "()I" } : Jvm.MethodName)), (Jvm.Cond.code ({ cls := "SpaceBasisModel", name := "join", desc := "()I" } : Jvm.MethodName) prog_10_method_25_code (3 : Nat) (Option.some Jvm.ClassFile.FieldType.int)), (Jvm.Cond.methodLink "SpaceBasisLaw" (61 : Nat) ({ cls := "SpaceBasisModel", name := "clear", desc := "()V" } : Jvm.MethodName)), (Jvm.Cond.instanceMethod ({ cls := "SpaceBasisModel", name := "clear", desc := "()V" } : Jvm.MethodName)), (Jvm.Cond.selects "SpaceBasisModel" ({ cls := "SpaceBasisModel", name := "clear", desc := "()V" } : Jvm.MethodName) ({ cls := "SpaceBasisModel", name := "clear", desc := "()V" } : Jvm.MethodName)), (Jvm.Cond.code ({ cls := "SpaceBasisModel", name := "clear", desc := "()V" } : Jvm.MethodName) prog_10_method_26_code (2 : Nat) (Option.none : Option Jvm.ClassFile.FieldType)), (Jvm.Cond.methodLink "SpaceBasisLaw" (65 : Nat) ({ cls := "SpaceBasisModel", name := "basis", desc := "(I)I" } : Jvm.MethodName)), (Jvm.Cond.instanceMethod ({ cls := "SpaceBasisModel", name := "basis", desc := "(I)I" } : Jvm.MethodName)), (Jvm.Cond.selects "SpaceBasisModel" ({ cls := "SpaceBasisModel", name := "basis", desc := "(I)I" } : Jvm.MethodName) ({ cls := "SpaceBasisModel", name := "basis", desc := "(I)I" } : Jvm.MethodName)), (Jvm.Cond.code ({ cls := "SpaceBasisModel", name := "basis", desc := "(I)I" } : Jvm.MethodName) prog_10_method_27_code (5 : Nat) (Option.some Jvm.ClassFile.FieldType.int)), (Jvm.Cond.methodLink "SpaceBasisModel" (121 : Nat) ({ cls := "SpaceBasisModel", name := "findSpace", desc := "(I)V" } : Jvm.MethodName)), (Jvm.Cond.instanceMethod ({ cls := "SpaceBasisModel", name := "findSpace", desc := "(I)V" } : Jvm.MethodName)), (Jvm.Cond.code ({ cls := "SpaceBasisModel", name := "findSpace", desc := "(I)V" } : Jvm.MethodName) prog_10_method_15_code (5 : Nat) (Option.none : Option Jvm.ClassFile.FieldType)), (Jvm.Cond.methodLink "SpaceBasisModel" (103 : Nat) ({ cls := "SpaceBasisModel", name := "degreeOfGenerator", desc := "(I)I" } : Jvm.MethodName)), (Jvm.Cond.instanceMethod ({ cls := "SpaceBasisModel", name := "degreeOfGenerator", desc := "(I)I" } : Jvm.MethodName)), (Jvm.Cond.code ({ cls := "SpaceBasisModel", name := "degreeOfGenerator", desc := "(I)I" } : Jvm.MethodName) prog_10_method_14_code (4 : Nat) (Option.some Jvm.ClassFile.FieldType.int)), (Jvm.Cond.methodLink "SpaceBasisModel" (106 : Nat) ({ cls := "SpaceBasisModel", name := "comes", desc := "()Z" } : Jvm.MethodName)), (Jvm.Cond.instanceMethod ({ cls := "SpaceBasisModel", name := "comes", desc := "()Z" } : Jvm.MethodName)), (Jvm.Cond.code ({ cls := "SpaceBasisModel", name := "comes", desc := "()Z" } : Jvm.MethodName) prog_10_method_12_code (5 : Nat) (Option.some Jvm.ClassFile.FieldType.boolean)), (Jvm.Cond.methodLink "SpaceBasisModel" (93 : Nat) ({ cls := "SpaceBasisModel", name := "reduce", desc := "()I" } : Jvm.MethodName)), (Jvm.Cond.instanceMethod ({ cls := "SpaceBasisModel", name := "reduce", desc := "()I" } : Jvm.MethodName)), (Jvm.Cond.code ({ cls := "SpaceBasisModel", name := "reduce", desc := "()I" } : Jvm.MethodName) prog_10_method_10_code (3 : Nat) (Option.some Jvm.ClassFile.FieldType.int))]
set_option maxRecDepth 100000 in
theorem vw_g11 : GoodIn lw_tbl vw_a11 := goodIn_r _ [745, 746, 747, 748, 749, 750, 751, 752, 753, 754, 755, 756, 757, 758, 759, 760, 761, 762, 763, 764, 765, 766, 767, 768, 769, 770, 771, 772, 773, 774, 776, 777, 778, 779, 780, 781, 782, 783, 784, 785, 786, 787, 788, 789, 790, 791, 792, 793, 794, 796, 797, 798, 800, 801, 802, 804, 805, 806, 808, 809] rfl (by decide +kernel)
def vw_a12 : List Cond := [(Jvm.Cond.methodLink "SpaceBasisModel" (90 : Nat) ({ cls := "SpaceBasisModel", name := "takeRow", desc := "(I)V" } : Jvm.MethodName)), (Jvm.Cond.instanceMethod ({ cls := "SpaceBasisModel", name := "takeRow", desc := "(I)V" } : Jvm.MethodName)), (Jvm.Cond.code ({ cls := "SpaceBasisModel", name := "takeRow", desc := "(I)V" } : Jvm.MethodName) prog_10_method_11_code (5 : Nat) (Option.none : Option Jvm.ClassFile.FieldType)), (Jvm.Cond.methodLink "SpaceBasisModel" (97 : Nat) ({ cls := "SpaceBasisModel", name := "inverse", desc := "(I)I" } : Jvm.MethodName)), (Jvm.Cond.instanceMethod ({ cls := "SpaceBasisModel", name := "inverse", desc := "(I)I" } : Jvm.MethodName)), (Jvm.Cond.code ({ cls := "SpaceBasisModel", name := "inverse", desc := "(I)I" } : Jvm.MethodName) prog_10_method_9_code (7 : Nat) (Option.some Jvm.ClassFile.FieldType.int)), (Jvm.Cond.methodLink "SpaceBasisModel" (110 : Nat) ({ cls := "SpaceBasisModel", name := "multiplied", desc := "(II)V" } : Jvm.MethodName)), (Jvm.Cond.instanceMethod ({ cls := "SpaceBasisModel", name := "multiplied", desc := "(II)V" } : Jvm.MethodName)), (Jvm.Cond.code ({ cls := "SpaceBasisModel", name := "multiplied", desc := "(II)V" } : Jvm.MethodName) prog_10_method_13_code (4 : Nat) (Option.none : Option Jvm.ClassFile.FieldType)), (Jvm.Cond.methodLink "SpaceBasisModel" (114 : Nat) ({ cls := "SpaceBasisModel", name := "clean", desc := "(I)V" } : Jvm.MethodName)), (Jvm.Cond.instanceMethod ({ cls := "SpaceBasisModel", name := "clean", desc := "(I)V" } : Jvm.MethodName)), (Jvm.Cond.code ({ cls := "SpaceBasisModel", name := "clean", desc := "(I)V" } : Jvm.MethodName) prog_10_method_16_code (3 : Nat) (Option.none : Option Jvm.ClassFile.FieldType)), (Jvm.Cond.methodLink "SpaceBasisModel" (124 : Nat) ({ cls := "SpaceBasisModel", name := "divides", desc := "(II)Z" } : Jvm.MethodName)), (Jvm.Cond.static ({ cls := "SpaceBasisModel", name := "divides", desc := "(II)Z" } : Jvm.MethodName)), (Jvm.Cond.code ({ cls := "SpaceBasisModel", name := "divides", desc := "(II)Z" } : Jvm.MethodName) prog_10_method_17_code (3 : Nat) (Option.some Jvm.ClassFile.FieldType.boolean)), (Jvm.Cond.methodLink "SpaceBasisLaw" (69 : Nat) ({ cls := "SpaceBasisModel", name := "lead", desc := "(I)I" } : Jvm.MethodName)), (Jvm.Cond.instanceMethod ({ cls := "SpaceBasisModel", name := "lead", desc := "(I)I" } : Jvm.MethodName)), (Jvm.Cond.selects "SpaceBasisModel" ({ cls := "SpaceBasisModel", name := "lead", desc := "(I)I" } : Jvm.MethodName) ({ cls := "SpaceBasisModel", name := "lead", desc := "(I)I" } : Jvm.MethodName)), (Jvm.Cond.code ({ cls := "SpaceBasisModel", name := "lead", desc := "(I)I" } : Jvm.MethodName) prog_10_method_28_code (2 : Nat) (Option.some Jvm.ClassFile.FieldType.int)), (Jvm.Cond.methodLink "SpaceBasisLaw" (74 : Nat) ({ cls := "SpaceBasisModel", name := "member", desc := "(II)I" } : Jvm.MethodName)), (Jvm.Cond.instanceMethod ({ cls := "SpaceBasisModel", name := "member", desc := "(II)I" } : Jvm.MethodName)), (Jvm.Cond.selects "SpaceBasisModel" ({ cls := "SpaceBasisModel", name := "member", desc := "(II)I" } : Jvm.MethodName) ({ cls := "SpaceBasisModel", name := "member", desc := "(II)I" } : Jvm.MethodName)), (Jvm.Cond.code ({ cls := "SpaceBasisModel", name := "member", desc := "(II)I" } : Jvm.MethodName) prog_10_method_29_code (4 : Nat) (Option.some Jvm.ClassFile.FieldType.int)), (Jvm.Cond.methodLink "SpaceBasisLaw" (78 : Nat) ({ cls := "SpaceBasisModel", name := "ideal", desc := "(I)I" } : Jvm.MethodName)), (Jvm.Cond.instanceMethod ({ cls := "SpaceBasisModel", name := "ideal", desc := "(I)I" } : Jvm.MethodName)), (Jvm.Cond.selects "SpaceBasisModel" ({ cls := "SpaceBasisModel", name := "ideal", desc := "(I)I" } : Jvm.MethodName) ({ cls := "SpaceBasisModel", name := "ideal", desc := "(I)I" } : Jvm.MethodName)), (Jvm.Cond.code ({ cls := "SpaceBasisModel", name := "ideal", desc := "(I)I" } : Jvm.MethodName) prog_10_method_30_code (2 : Nat) (Option.some Jvm.ClassFile.FieldType.int)), (Jvm.Cond.methodLink "SpaceBasisModel" (127 : Nat) ({ cls := "SpaceBasisModel", name := "complete", desc := "()Z" } : Jvm.MethodName)), (Jvm.Cond.instanceMethod ({ cls := "SpaceBasisModel", name := "complete", desc := "()Z" } : Jvm.MethodName)), (Jvm.Cond.code ({ cls := "SpaceBasisModel", name := "complete", desc := "()Z" } : Jvm.MethodName) prog_10_method_18_code (8 : Nat) (Option.some Jvm.ClassFile.FieldType.boolean)), (Jvm.Cond.methodLink "SpaceBasisModel" (130 : Nat) ({ cls := "SpaceBasisModel", name := "dimension", desc := "()I" } : Jvm.MethodName)), (Jvm.Cond.instanceMethod ({ cls := "SpaceBasisModel", name := "dimension", desc := "()I" } : Jvm.MethodName)), (Jvm.Cond.code ({ cls := "SpaceBasisModel", name := "dimension", desc := "()I" } : Jvm.MethodName) prog_10_method_19_code (8 : Nat) (Option.some Jvm.ClassFile.FieldType.int)), (Jvm.Cond.methodLink "SpaceBasisLaw" (82 : Nat) ({ cls := "SpaceBasisModel", name := "standard", desc := "(I)I" } : Jvm.MethodName)), (Jvm.Cond.instanceMethod ({ cls := "SpaceBasisModel", name := "standard", desc := "(I)I" } : Jvm.MethodName)), (Jvm.Cond.selects "SpaceBasisModel" ({ cls := "SpaceBasisModel", name := "standard", desc := "(I)I" } : Jvm.MethodName) ({ cls := "SpaceBasisModel", name := "standard", desc := "(I)I" } : Jvm.MethodName)), (Jvm.Cond.code ({ cls := "SpaceBasisModel", name := "standard", desc := "(I)I" } : Jvm.MethodName) prog_10_method_31_code (4 : Nat) (Option.some Jvm.ClassFile.FieldType.int)), (Jvm.Cond.methodLink "SpaceBasisLaw" (85 : Nat) ({ cls := "SpaceBasisModel", name := "remainder", desc := "()Z" } : Jvm.MethodName)), (Jvm.Cond.instanceMethod ({ cls := "SpaceBasisModel", name := "remainder", desc := "()Z" } : Jvm.MethodName)), (Jvm.Cond.selects "SpaceBasisModel" ({ cls := "SpaceBasisModel", name := "remainder", desc := "()Z" } : Jvm.MethodName) ({ cls := "SpaceBasisModel", name := "remainder", desc := "()Z" } : Jvm.MethodName)), (Jvm.Cond.code ({ cls := "SpaceBasisModel", name := "remainder", desc := "()Z" } : Jvm.MethodName) prog_10_method_32_code (3 : Nat) (Option.some Jvm.ClassFile.FieldType.boolean)), (Jvm.Cond.methodLink "SpaceBasisLaw" (89 : Nat) ({ cls := "SpaceBasisModel", name := "proved", desc := "()I" } : Jvm.MethodName)), (Jvm.Cond.instanceMethod ({ cls := "SpaceBasisModel", name := "proved", desc := "()I" } : Jvm.MethodName)), (Jvm.Cond.selects "SpaceBasisModel" ({ cls := "SpaceBasisModel", name := "proved", desc := "()I" } : Jvm.MethodName) ({ cls := "SpaceBasisModel", name := "proved", desc := "()I" } : Jvm.MethodName)), (Jvm.Cond.code ({ cls := "SpaceBasisModel", name := "proved", desc := "()I" } : Jvm.MethodName) prog_10_method_33_code (1 : Nat) (Option.some Jvm.ClassFile.FieldType.int)), (Jvm.Cond.arrayClass Jvm.ClassFile.FieldType.long), (Jvm.Cond.sameMethod "java/lang/Throwable" "java/lang/Throwable" "fillInStackTrace" "(I)Ljava/lang/Throwable;")]
set_option maxRecDepth 100000 in
theorem vw_g12 : GoodIn lw_tbl vw_a12 := goodIn_r _ [810, 812, 813, 814, 816, 817, 818, 820, 821, 822, 824, 825, 826, 827, 828, 829, 830, 831, 832, 833, 834, 835, 836, 837, 838, 839, 840, 841, 843, 844, 845, 847, 848, 849, 850, 851, 852, 853, 854, 855, 856, 857, 858, 859, 860, 861, 862] rfl (by decide +kernel)
def vwWS : List Cond := vw_a0 ++ (vw_a1 ++ (vw_a2 ++ (vw_a3 ++ (vw_a4 ++ (vw_a5 ++ (vw_a6 ++ (vw_a7 ++ (vw_a8 ++ (vw_a9 ++ (vw_a10 ++ (vw_a11 ++ (vw_a12))))))))))))
theorem vw_G : GoodIn lw_tbl vwWS := goodIn_app vw_g0 (goodIn_app vw_g1 (goodIn_app vw_g2 (goodIn_app vw_g3 (goodIn_app vw_g4 (goodIn_app vw_g5 (goodIn_app vw_g6 (goodIn_app vw_g7 (goodIn_app vw_g8 (goodIn_app vw_g9 (goodIn_app vw_g10 (goodIn_app vw_g11 (vw_g12))))))))))))
theorem vw_ok : ∀ w ∈ vwWS, (w.onTables && w.keeps) = true ∨ ∃ ty, w = .arrayClass ty := fun w h => (vw_G w h).2
theorem gd_c {w : Cond} (h : w ∈ vwWS) : GoodIn vwWS (w :: vwWS) := fun v hv => by
  rcases List.mem_cons.mp hv with rfl | hv
  · exact ⟨h, vw_ok _ h⟩
  · exact ⟨hv, vw_ok _ hv⟩
theorem gd_2 {a b : List Cond} (ha : ∀ w ∈ a, w ∈ vwWS) (hb : GoodIn vwWS b) : GoodIn vwWS (a ++ b) := fun v hv => by
  rcases List.mem_append.mp hv with h | h
  · exact ⟨ha v h, vw_ok _ (ha v h)⟩
  · exact hb v h
theorem gd_V {own C : String} {i n : Nat} {y : MethodName} {b : ByteArray} {r : Option FieldType} (h1 : Cond.methodLink own i y ∈ vwWS) (h2 : Cond.instanceMethod y ∈ vwWS) (h3 : Cond.selects C y y ∈ vwWS) (h4 : Cond.initialized C ∈ vwWS) (h5 : Cond.code y b n r ∈ vwWS) : GoodIn vwWS (wsV own i C y (Cond.code y b n r :: vwWS)) :=
  gd_2 (List.forall_mem_cons.mpr ⟨h1, List.forall_mem_cons.mpr ⟨h2, List.forall_mem_cons.mpr ⟨h3, List.forall_mem_cons.mpr ⟨h4, fun _ h => absurd h List.not_mem_nil⟩⟩⟩⟩) (gd_c h5)
theorem gd_S {own : String} {i n : Nat} {y : MethodName} {b : ByteArray} {r : Option FieldType} (h1 : Cond.methodLink own i y ∈ vwWS) (h2 : Cond.static y ∈ vwWS) (h3 : Cond.initialized y.cls ∈ vwWS) (h5 : Cond.code y b n r ∈ vwWS) : GoodIn vwWS (va_wsS own i y (Cond.code y b n r :: vwWS)) :=
  gd_2 (List.forall_mem_cons.mpr ⟨h1, List.forall_mem_cons.mpr ⟨h2, List.forall_mem_cons.mpr ⟨h3, fun _ h => absurd h List.not_mem_nil⟩⟩⟩) (gd_c h5)
set_option maxRecDepth 100000 in
theorem kw_0 : (Jvm.Cond.selects "SpaceBasis" (⟨"SpaceBasis", "beginField", "(III)V"⟩ : Jvm.MethodName) (⟨"SpaceBasis", "beginField", "(III)V"⟩ : Jvm.MethodName)) ∈ vwWS := List.mem_of_getElem? (i := 0) rfl
set_option maxRecDepth 100000 in
theorem kw_1 : (Jvm.Cond.selects "SpaceBasis$Monomials" (⟨"SpaceBasis$Monomials", "listDegree", "(IIII)V"⟩ : Jvm.MethodName) (⟨"SpaceBasis$Monomials", "listDegree", "(IIII)V"⟩ : Jvm.MethodName)) ∈ vwWS := List.mem_of_getElem? (i := 1) rfl
set_option maxRecDepth 100000 in
theorem kw_2 : (Jvm.Cond.selects "SpaceBasis$Monomials" (⟨"SpaceBasis$Monomials", "append", "(II)V"⟩ : Jvm.MethodName) (⟨"SpaceBasis$Monomials", "append", "(II)V"⟩ : Jvm.MethodName)) ∈ vwWS := List.mem_of_getElem? (i := 2) rfl
set_option maxRecDepth 100000 in
theorem kw_3 : (Jvm.Cond.selects "SpaceBasis" (⟨"SpaceBasis", "beginAnew", "()V"⟩ : Jvm.MethodName) (⟨"SpaceBasis", "beginAnew", "()V"⟩ : Jvm.MethodName)) ∈ vwWS := List.mem_of_getElem? (i := 3) rfl
set_option maxRecDepth 100000 in
theorem kw_4 : (Jvm.Cond.selects "SpaceBasis" (⟨"SpaceBasis", "emptyHand", "()V"⟩ : Jvm.MethodName) (⟨"SpaceBasis", "emptyHand", "()V"⟩ : Jvm.MethodName)) ∈ vwWS := List.mem_of_getElem? (i := 4) rfl
set_option maxRecDepth 100000 in
theorem kw_5 : (Jvm.Cond.selects "SpaceBasis" (⟨"SpaceBasis", "hasMember", "(I)Z"⟩ : Jvm.MethodName) (⟨"SpaceBasis", "hasMember", "(I)Z"⟩ : Jvm.MethodName)) ∈ vwWS := List.mem_of_getElem? (i := 5) rfl
set_option maxRecDepth 100000 in
theorem kw_6 : (Jvm.Cond.selects "SpaceBasis$Members" (⟨"SpaceBasis$Members", "hasLeadOf", "(I)Z"⟩ : Jvm.MethodName) (⟨"SpaceBasis$Members", "hasLeadOf", "(I)Z"⟩ : Jvm.MethodName)) ∈ vwWS := List.mem_of_getElem? (i := 6) rfl
set_option maxRecDepth 100000 in
theorem kw_7 : (Jvm.Cond.selects "java/lang/Throwable" (⟨"java/lang/Throwable", "fillInStackTrace", "(I)Ljava/lang/Throwable;"⟩ : Jvm.MethodName) (⟨"java/lang/Throwable", "fillInStackTrace", "(I)Ljava/lang/Throwable;"⟩ : Jvm.MethodName)) ∈ vwWS := List.mem_of_getElem? (i := 7) rfl
set_option maxRecDepth 100000 in
theorem kw_8 : (Jvm.Cond.selects "SpaceBasis$Space" (⟨"SpaceBasis$Space", "takeIn", "(III)V"⟩ : Jvm.MethodName) (⟨"SpaceBasis$Space", "takeIn", "(III)V"⟩ : Jvm.MethodName)) ∈ vwWS := List.mem_of_getElem? (i := 8) rfl
set_option maxRecDepth 100000 in
theorem kw_9 : (Jvm.Cond.selects "SpaceBasis$Space" (⟨"SpaceBasis$Space", "takeInProducts", "(I)V"⟩ : Jvm.MethodName) (⟨"SpaceBasis$Space", "takeInProducts", "(I)V"⟩ : Jvm.MethodName)) ∈ vwWS := List.mem_of_getElem? (i := 9) rfl
set_option maxRecDepth 100000 in
theorem kw_10 : (Jvm.Cond.selects "SpaceBasis$Members" (⟨"SpaceBasis$Members", "hasDividingLead", "(I)Z"⟩ : Jvm.MethodName) (⟨"SpaceBasis$Members", "hasDividingLead", "(I)Z"⟩ : Jvm.MethodName)) ∈ vwWS := List.mem_of_getElem? (i := 10) rfl
set_option maxRecDepth 100000 in
theorem kw_11 : (Jvm.Cond.selects "SpaceBasis$Members" (⟨"SpaceBasis$Members", "addReduced", "(I)V"⟩ : Jvm.MethodName) (⟨"SpaceBasis$Members", "addReduced", "(I)V"⟩ : Jvm.MethodName)) ∈ vwWS := List.mem_of_getElem? (i := 11) rfl
set_option maxRecDepth 100000 in
theorem kw_12 : (Jvm.Cond.selects "SpaceBasis$Members" (⟨"SpaceBasis$Members", "allPairsInside", "()Z"⟩ : Jvm.MethodName) (⟨"SpaceBasis$Members", "allPairsInside", "()Z"⟩ : Jvm.MethodName)) ∈ vwWS := List.mem_of_getElem? (i := 12) rfl
set_option maxRecDepth 100000 in
theorem kw_13 : (Jvm.Cond.selects "SpaceBasis$Proof" (⟨"SpaceBasis$Proof", "isLine", "([I)Z"⟩ : Jvm.MethodName) (⟨"SpaceBasis$Proof", "isLine", "([I)Z"⟩ : Jvm.MethodName)) ∈ vwWS := List.mem_of_getElem? (i := 13) rfl
set_option maxRecDepth 100000 in
theorem kw_14 : (Jvm.Cond.selects "SpaceBasis$Proof" (⟨"SpaceBasis$Proof", "reckonsRows", "(I)Z"⟩ : Jvm.MethodName) (⟨"SpaceBasis$Proof", "reckonsRows", "(I)Z"⟩ : Jvm.MethodName)) ∈ vwWS := List.mem_of_getElem? (i := 14) rfl
set_option maxRecDepth 100000 in
theorem kw_15 : (Jvm.Cond.selects "SpaceBasis$Proof" (⟨"SpaceBasis$Proof", "reckonsRow", "(I)Z"⟩ : Jvm.MethodName) (⟨"SpaceBasis$Proof", "reckonsRow", "(I)Z"⟩ : Jvm.MethodName)) ∈ vwWS := List.mem_of_getElem? (i := 15) rfl
set_option maxRecDepth 100000 in
theorem kw_16 : (Jvm.Cond.selects "SpaceBasis$Proof" (⟨"SpaceBasis$Proof", "writeSource", "(I)Z"⟩ : Jvm.MethodName) (⟨"SpaceBasis$Proof", "writeSource", "(I)Z"⟩ : Jvm.MethodName)) ∈ vwWS := List.mem_of_getElem? (i := 16) rfl
set_option maxRecDepth 100000 in
theorem kw_17 : (Jvm.Cond.selects "SpaceBasisModel" (⟨"SpaceBasisModel", "fresh", "(III)V"⟩ : Jvm.MethodName) (⟨"SpaceBasisModel", "fresh", "(III)V"⟩ : Jvm.MethodName)) ∈ vwWS := List.mem_of_getElem? (i := 17) rfl
set_option maxRecDepth 100000 in
theorem kw_18 : (Jvm.Cond.selects "SpaceBasisModel" (⟨"SpaceBasisModel", "put", "(I)V"⟩ : Jvm.MethodName) (⟨"SpaceBasisModel", "put", "(I)V"⟩ : Jvm.MethodName)) ∈ vwWS := List.mem_of_getElem? (i := 18) rfl
set_option maxRecDepth 100000 in
theorem kw_19 : (Jvm.Cond.selects "SpaceBasisModel" (⟨"SpaceBasisModel", "greater", "(II)Z"⟩ : Jvm.MethodName) (⟨"SpaceBasisModel", "greater", "(II)Z"⟩ : Jvm.MethodName)) ∈ vwWS := List.mem_of_getElem? (i := 19) rfl
set_option maxRecDepth 100000 in
theorem kw_20 : (Jvm.Cond.selects "SpaceBasisModel" (⟨"SpaceBasisModel", "placeOf", "(I)I"⟩ : Jvm.MethodName) (⟨"SpaceBasisModel", "placeOf", "(I)I"⟩ : Jvm.MethodName)) ∈ vwWS := List.mem_of_getElem? (i := 20) rfl
set_option maxRecDepth 100000 in
theorem kw_21 : (Jvm.Cond.selects "SpaceBasisModel" (⟨"SpaceBasisModel", "findSpace", "(I)V"⟩ : Jvm.MethodName) (⟨"SpaceBasisModel", "findSpace", "(I)V"⟩ : Jvm.MethodName)) ∈ vwWS := List.mem_of_getElem? (i := 21) rfl
set_option maxRecDepth 100000 in
theorem kw_22 : (Jvm.Cond.selects "SpaceBasisModel" (⟨"SpaceBasisModel", "degreeOfGenerator", "(I)I"⟩ : Jvm.MethodName) (⟨"SpaceBasisModel", "degreeOfGenerator", "(I)I"⟩ : Jvm.MethodName)) ∈ vwWS := List.mem_of_getElem? (i := 22) rfl
set_option maxRecDepth 100000 in
theorem kw_23 : (Jvm.Cond.selects "SpaceBasisModel" (⟨"SpaceBasisModel", "comes", "()Z"⟩ : Jvm.MethodName) (⟨"SpaceBasisModel", "comes", "()Z"⟩ : Jvm.MethodName)) ∈ vwWS := List.mem_of_getElem? (i := 23) rfl
set_option maxRecDepth 100000 in
theorem kw_24 : (Jvm.Cond.selects "SpaceBasisModel" (⟨"SpaceBasisModel", "reduce", "()I"⟩ : Jvm.MethodName) (⟨"SpaceBasisModel", "reduce", "()I"⟩ : Jvm.MethodName)) ∈ vwWS := List.mem_of_getElem? (i := 24) rfl
set_option maxRecDepth 100000 in
theorem kw_25 : (Jvm.Cond.selects "SpaceBasisModel" (⟨"SpaceBasisModel", "takeRow", "(I)V"⟩ : Jvm.MethodName) (⟨"SpaceBasisModel", "takeRow", "(I)V"⟩ : Jvm.MethodName)) ∈ vwWS := List.mem_of_getElem? (i := 25) rfl
set_option maxRecDepth 100000 in
theorem kw_26 : (Jvm.Cond.selects "SpaceBasisModel" (⟨"SpaceBasisModel", "inverse", "(I)I"⟩ : Jvm.MethodName) (⟨"SpaceBasisModel", "inverse", "(I)I"⟩ : Jvm.MethodName)) ∈ vwWS := List.mem_of_getElem? (i := 26) rfl
set_option maxRecDepth 100000 in
theorem kw_27 : (Jvm.Cond.selects "SpaceBasisModel" (⟨"SpaceBasisModel", "multiplied", "(II)V"⟩ : Jvm.MethodName) (⟨"SpaceBasisModel", "multiplied", "(II)V"⟩ : Jvm.MethodName)) ∈ vwWS := List.mem_of_getElem? (i := 27) rfl
set_option maxRecDepth 100000 in
theorem kw_28 : (Jvm.Cond.selects "SpaceBasisModel" (⟨"SpaceBasisModel", "clean", "(I)V"⟩ : Jvm.MethodName) (⟨"SpaceBasisModel", "clean", "(I)V"⟩ : Jvm.MethodName)) ∈ vwWS := List.mem_of_getElem? (i := 28) rfl
set_option maxRecDepth 100000 in
theorem kw_29 : (Jvm.Cond.selects "SpaceBasisModel" (⟨"SpaceBasisModel", "complete", "()Z"⟩ : Jvm.MethodName) (⟨"SpaceBasisModel", "complete", "()Z"⟩ : Jvm.MethodName)) ∈ vwWS := List.mem_of_getElem? (i := 29) rfl
set_option maxRecDepth 100000 in
theorem kw_30 : (Jvm.Cond.selects "SpaceBasisModel" (⟨"SpaceBasisModel", "dimension", "()I"⟩ : Jvm.MethodName) (⟨"SpaceBasisModel", "dimension", "()I"⟩ : Jvm.MethodName)) ∈ vwWS := List.mem_of_getElem? (i := 30) rfl
set_option maxRecDepth 100000 in
theorem kw_31 : (Jvm.Cond.initialized "SpaceBasisLaw") ∈ vwWS := List.mem_of_getElem? (i := 31) rfl
set_option maxRecDepth 100000 in
theorem kw_32 : (Jvm.Cond.initialized "SpaceBasis") ∈ vwWS := List.mem_of_getElem? (i := 32) rfl
set_option maxRecDepth 100000 in
theorem kw_33 : (Jvm.Cond.initialized "SpaceBasis$Modulus") ∈ vwWS := List.mem_of_getElem? (i := 33) rfl
set_option maxRecDepth 100000 in
theorem kw_34 : (Jvm.Cond.initialized "SpaceBasis$Monomials") ∈ vwWS := List.mem_of_getElem? (i := 34) rfl
set_option maxRecDepth 100000 in
theorem kw_35 : (Jvm.Cond.initialized "SpaceBasis$Generators") ∈ vwWS := List.mem_of_getElem? (i := 35) rfl
set_option maxRecDepth 100000 in
theorem kw_36 : (Jvm.Cond.initialized "SpaceBasis$Space") ∈ vwWS := List.mem_of_getElem? (i := 36) rfl
set_option maxRecDepth 100000 in
theorem kw_37 : (Jvm.Cond.initialized "SpaceBasis$Origins") ∈ vwWS := List.mem_of_getElem? (i := 37) rfl
set_option maxRecDepth 100000 in
theorem kw_38 : (Jvm.Cond.initialized "SpaceBasis$Members") ∈ vwWS := List.mem_of_getElem? (i := 38) rfl
set_option maxRecDepth 100000 in
theorem kw_39 : (Jvm.Cond.initialized "SpaceBasis$Proof") ∈ vwWS := List.mem_of_getElem? (i := 39) rfl
set_option maxRecDepth 100000 in
theorem kw_40 : (Jvm.Cond.initialized "java/util/Arrays") ∈ vwWS := List.mem_of_getElem? (i := 40) rfl
set_option maxRecDepth 100000 in
theorem kw_41 : (Jvm.Cond.initialized "SpaceBasisModel") ∈ vwWS := List.mem_of_getElem? (i := 41) rfl
set_option maxRecDepth 100000 in
theorem kw_42 : (Jvm.Cond.initialized "java/lang/Throwable") ∈ vwWS := List.mem_of_getElem? (i := 42) rfl
set_option maxRecDepth 100000 in
theorem kw_43 : (Jvm.Cond.initialized "java/lang/Exception") ∈ vwWS := List.mem_of_getElem? (i := 43) rfl
set_option maxRecDepth 100000 in
theorem kw_44 : (Jvm.Cond.initialized "java/lang/RuntimeException") ∈ vwWS := List.mem_of_getElem? (i := 44) rfl
set_option maxRecDepth 100000 in
theorem kw_45 : (Jvm.Cond.initialized "java/lang/IllegalArgumentException") ∈ vwWS := List.mem_of_getElem? (i := 45) rfl
set_option maxRecDepth 100000 in
theorem kw_46 : (Jvm.Cond.initialized "java/lang/Math") ∈ vwWS := List.mem_of_getElem? (i := 46) rfl
set_option maxRecDepth 100000 in
theorem kw_47 : (Jvm.Cond.initialized "java/lang/IllegalStateException") ∈ vwWS := List.mem_of_getElem? (i := 47) rfl
set_option maxRecDepth 100000 in
theorem kw_48 : (Jvm.Cond.initialized "java/lang/System") ∈ vwWS := List.mem_of_getElem? (i := 48) rfl
set_option maxRecDepth 100000 in
theorem kw_49 : (Jvm.Cond.initialized "java/lang/Integer") ∈ vwWS := List.mem_of_getElem? (i := 49) rfl
set_option maxRecDepth 100000 in
theorem kw_50 : (Jvm.Cond.classLink "SpaceBasisLaw" (8 : Nat) "SpaceBasis") ∈ vwWS := List.mem_of_getElem? (i := 50) rfl
set_option maxRecDepth 100000 in
theorem kw_51 : (Jvm.Cond.instantiable "SpaceBasis" (9 : Nat)) ∈ vwWS := List.mem_of_getElem? (i := 51) rfl
set_option maxRecDepth 100000 in
theorem kw_52 : (Jvm.Cond.methodLink "SpaceBasisLaw" (33 : Nat) ({ cls := "SpaceBasis", name := "<init>", desc := "()V" } : Jvm.MethodName)) ∈ vwWS := List.mem_of_getElem? (i := 52) rfl
set_option maxRecDepth 100000 in
theorem kw_53 : (Jvm.Cond.instanceMethod ({ cls := "SpaceBasis", name := "<init>", desc := "()V" } : Jvm.MethodName)) ∈ vwWS := List.mem_of_getElem? (i := 53) rfl
set_option maxRecDepth 100000 in
theorem kw_54 : (Jvm.Cond.code ({ cls := "SpaceBasis", name := "<init>", desc := "()V" } : Jvm.MethodName) prog_1_method_1_code (1 : Nat) (Option.none : Option Jvm.ClassFile.FieldType)) ∈ vwWS := List.mem_of_getElem? (i := 54) rfl
set_option maxRecDepth 100000 in
theorem kw_55 : (Jvm.Cond.methodLink "SpaceBasis" (3 : Nat) ({ cls := "java/lang/Object", name := "<init>", desc := "()V" } : Jvm.MethodName)) ∈ vwWS := List.mem_of_getElem? (i := 55) rfl
set_option maxRecDepth 100000 in
theorem kw_56 : (Jvm.Cond.instanceMethod ({ cls := "java/lang/Object", name := "<init>", desc := "()V" } : Jvm.MethodName)) ∈ vwWS := List.mem_of_getElem? (i := 56) rfl
set_option maxRecDepth 100000 in
theorem kw_57 : (Jvm.Cond.code ({ cls := "java/lang/Object", name := "<init>", desc := "()V" } : Jvm.MethodName) object_method_1_code (1 : Nat) (Option.none : Option Jvm.ClassFile.FieldType)) ∈ vwWS := List.mem_of_getElem? (i := 57) rfl
set_option maxRecDepth 100000 in
theorem kw_58 : (Jvm.Cond.classLink "SpaceBasis" (9 : Nat) "SpaceBasis$Modulus") ∈ vwWS := List.mem_of_getElem? (i := 58) rfl
set_option maxRecDepth 100000 in
theorem kw_59 : (Jvm.Cond.instantiable "SpaceBasis$Modulus" (1 : Nat)) ∈ vwWS := List.mem_of_getElem? (i := 59) rfl
set_option maxRecDepth 100000 in
theorem kw_60 : (Jvm.Cond.instanceMethod ({ cls := "SpaceBasis$Modulus", name := "<init>", desc := "()V" } : Jvm.MethodName)) ∈ vwWS := List.mem_of_getElem? (i := 60) rfl
set_option maxRecDepth 100000 in
theorem kw_61 : (Jvm.Cond.code ({ cls := "SpaceBasis$Modulus", name := "<init>", desc := "()V" } : Jvm.MethodName) prog_4_method_1_code (1 : Nat) (Option.none : Option Jvm.ClassFile.FieldType)) ∈ vwWS := List.mem_of_getElem? (i := 61) rfl
set_option maxRecDepth 100000 in
theorem kw_62 : (Jvm.Cond.methodLink "SpaceBasis$Modulus" (3 : Nat) ({ cls := "java/lang/Object", name := "<init>", desc := "()V" } : Jvm.MethodName)) ∈ vwWS := List.mem_of_getElem? (i := 62) rfl
set_option maxRecDepth 100000 in
theorem kw_63 : (Jvm.Cond.fieldLink "SpaceBasis$Modulus" (9 : Nat) "SpaceBasis$Modulus" "prime" "I") ∈ vwWS := List.mem_of_getElem? (i := 63) rfl
set_option maxRecDepth 100000 in
theorem kw_64 : (Jvm.Cond.lays "SpaceBasis$Modulus" "SpaceBasis$Modulus" "prime" "I") ∈ vwWS := List.mem_of_getElem? (i := 64) rfl
set_option maxRecDepth 100000 in
theorem kw_65 : (Jvm.Cond.soleField "SpaceBasis$Modulus" "prime") ∈ vwWS := List.mem_of_getElem? (i := 65) rfl
set_option maxRecDepth 100000 in
theorem kw_66 : (Jvm.Cond.superclass "SpaceBasis$Modulus" "java/lang/Object") ∈ vwWS := List.mem_of_getElem? (i := 66) rfl
set_option maxRecDepth 100000 in
theorem kw_67 : (Jvm.Cond.classLink "SpaceBasis" (16 : Nat) "SpaceBasis$Monomials") ∈ vwWS := List.mem_of_getElem? (i := 67) rfl
set_option maxRecDepth 100000 in
theorem kw_68 : (Jvm.Cond.instantiable "SpaceBasis$Monomials" (8 : Nat)) ∈ vwWS := List.mem_of_getElem? (i := 68) rfl
set_option maxRecDepth 100000 in
theorem kw_69 : (Jvm.Cond.instanceMethod ({ cls := "SpaceBasis$Monomials", name := "<init>", desc := "()V" } : Jvm.MethodName)) ∈ vwWS := List.mem_of_getElem? (i := 69) rfl
set_option maxRecDepth 100000 in
theorem kw_70 : (Jvm.Cond.code ({ cls := "SpaceBasis$Monomials", name := "<init>", desc := "()V" } : Jvm.MethodName) prog_5_method_1_code (1 : Nat) (Option.none : Option Jvm.ClassFile.FieldType)) ∈ vwWS := List.mem_of_getElem? (i := 70) rfl
set_option maxRecDepth 100000 in
theorem kw_71 : (Jvm.Cond.methodLink "SpaceBasis$Monomials" (3 : Nat) ({ cls := "java/lang/Object", name := "<init>", desc := "()V" } : Jvm.MethodName)) ∈ vwWS := List.mem_of_getElem? (i := 71) rfl
set_option maxRecDepth 100000 in
theorem kw_72 : (Jvm.Cond.fieldLink "SpaceBasis$Monomials" (9 : Nat) "SpaceBasis$Monomials" "codes" "[I") ∈ vwWS := List.mem_of_getElem? (i := 72) rfl
set_option maxRecDepth 100000 in
theorem kw_73 : (Jvm.Cond.fieldLink "SpaceBasis$Monomials" (15 : Nat) "SpaceBasis$Monomials" "degrees" "[I") ∈ vwWS := List.mem_of_getElem? (i := 73) rfl
set_option maxRecDepth 100000 in
theorem kw_74 : (Jvm.Cond.fieldLink "SpaceBasis$Monomials" (18 : Nat) "SpaceBasis$Monomials" "firstOfDegree" "[I") ∈ vwWS := List.mem_of_getElem? (i := 74) rfl
set_option maxRecDepth 100000 in
theorem kw_75 : (Jvm.Cond.fieldLink "SpaceBasis$Monomials" (21 : Nat) "SpaceBasis$Monomials" "products" "[I") ∈ vwWS := List.mem_of_getElem? (i := 75) rfl
set_option maxRecDepth 100000 in
theorem kw_76 : (Jvm.Cond.fieldLink "SpaceBasis$Monomials" (24 : Nat) "SpaceBasis$Monomials" "variables" "I") ∈ vwWS := List.mem_of_getElem? (i := 76) rfl
set_option maxRecDepth 100000 in
theorem kw_77 : (Jvm.Cond.fieldLink "SpaceBasis$Monomials" (28 : Nat) "SpaceBasis$Monomials" "order" "I") ∈ vwWS := List.mem_of_getElem? (i := 77) rfl
set_option maxRecDepth 100000 in
theorem kw_78 : (Jvm.Cond.fieldLink "SpaceBasis$Monomials" (34 : Nat) "SpaceBasis$Monomials" "highest" "I") ∈ vwWS := List.mem_of_getElem? (i := 78) rfl
set_option maxRecDepth 100000 in
theorem kw_79 : (Jvm.Cond.fieldLink "SpaceBasis$Monomials" (37 : Nat) "SpaceBasis$Monomials" "count" "I") ∈ vwWS := List.mem_of_getElem? (i := 79) rfl
set_option maxRecDepth 100000 in
theorem kw_80 : (Jvm.Cond.laysFinal "SpaceBasis$Monomials" "SpaceBasis$Monomials" "codes" "[I") ∈ vwWS := List.mem_of_getElem? (i := 80) rfl
set_option maxRecDepth 100000 in
theorem kw_81 : (Jvm.Cond.soleField "SpaceBasis$Monomials" "codes") ∈ vwWS := List.mem_of_getElem? (i := 81) rfl
set_option maxRecDepth 100000 in
theorem kw_82 : (Jvm.Cond.laysFinal "SpaceBasis$Monomials" "SpaceBasis$Monomials" "degrees" "[I") ∈ vwWS := List.mem_of_getElem? (i := 82) rfl
set_option maxRecDepth 100000 in
theorem kw_83 : (Jvm.Cond.soleField "SpaceBasis$Monomials" "degrees") ∈ vwWS := List.mem_of_getElem? (i := 83) rfl
set_option maxRecDepth 100000 in
theorem kw_84 : (Jvm.Cond.laysFinal "SpaceBasis$Monomials" "SpaceBasis$Monomials" "firstOfDegree" "[I") ∈ vwWS := List.mem_of_getElem? (i := 84) rfl
set_option maxRecDepth 100000 in
theorem kw_85 : (Jvm.Cond.soleField "SpaceBasis$Monomials" "firstOfDegree") ∈ vwWS := List.mem_of_getElem? (i := 85) rfl
set_option maxRecDepth 100000 in
theorem kw_86 : (Jvm.Cond.laysFinal "SpaceBasis$Monomials" "SpaceBasis$Monomials" "products" "[I") ∈ vwWS := List.mem_of_getElem? (i := 86) rfl
set_option maxRecDepth 100000 in
theorem kw_87 : (Jvm.Cond.soleField "SpaceBasis$Monomials" "products") ∈ vwWS := List.mem_of_getElem? (i := 87) rfl
set_option maxRecDepth 100000 in
theorem kw_88 : (Jvm.Cond.lays "SpaceBasis$Monomials" "SpaceBasis$Monomials" "variables" "I") ∈ vwWS := List.mem_of_getElem? (i := 88) rfl
set_option maxRecDepth 100000 in
theorem kw_89 : (Jvm.Cond.soleField "SpaceBasis$Monomials" "variables") ∈ vwWS := List.mem_of_getElem? (i := 89) rfl
set_option maxRecDepth 100000 in
theorem kw_90 : (Jvm.Cond.lays "SpaceBasis$Monomials" "SpaceBasis$Monomials" "order" "I") ∈ vwWS := List.mem_of_getElem? (i := 90) rfl
set_option maxRecDepth 100000 in
theorem kw_91 : (Jvm.Cond.soleField "SpaceBasis$Monomials" "order") ∈ vwWS := List.mem_of_getElem? (i := 91) rfl
set_option maxRecDepth 100000 in
theorem kw_92 : (Jvm.Cond.lays "SpaceBasis$Monomials" "SpaceBasis$Monomials" "highest" "I") ∈ vwWS := List.mem_of_getElem? (i := 92) rfl
set_option maxRecDepth 100000 in
theorem kw_93 : (Jvm.Cond.soleField "SpaceBasis$Monomials" "highest") ∈ vwWS := List.mem_of_getElem? (i := 93) rfl
set_option maxRecDepth 100000 in
theorem kw_94 : (Jvm.Cond.lays "SpaceBasis$Monomials" "SpaceBasis$Monomials" "count" "I") ∈ vwWS := List.mem_of_getElem? (i := 94) rfl
set_option maxRecDepth 100000 in
theorem kw_95 : (Jvm.Cond.soleField "SpaceBasis$Monomials" "count") ∈ vwWS := List.mem_of_getElem? (i := 95) rfl
set_option maxRecDepth 100000 in
theorem kw_96 : (Jvm.Cond.superclass "SpaceBasis$Monomials" "java/lang/Object") ∈ vwWS := List.mem_of_getElem? (i := 96) rfl
set_option maxRecDepth 100000 in
theorem kw_97 : (Jvm.Cond.arrayClass Jvm.ClassFile.FieldType.int) ∈ vwWS := List.mem_of_getElem? (i := 97) rfl
set_option maxRecDepth 100000 in
theorem kw_98 : (Jvm.Cond.classLink "SpaceBasis" (23 : Nat) "SpaceBasis$Generators") ∈ vwWS := List.mem_of_getElem? (i := 98) rfl
set_option maxRecDepth 100000 in
theorem kw_99 : (Jvm.Cond.instantiable "SpaceBasis$Generators" (3 : Nat)) ∈ vwWS := List.mem_of_getElem? (i := 99) rfl
set_option maxRecDepth 100000 in
theorem kw_100 : (Jvm.Cond.instanceMethod ({ cls := "SpaceBasis$Generators", name := "<init>", desc := "()V" } : Jvm.MethodName)) ∈ vwWS := List.mem_of_getElem? (i := 100) rfl
set_option maxRecDepth 100000 in
theorem kw_101 : (Jvm.Cond.code ({ cls := "SpaceBasis$Generators", name := "<init>", desc := "()V" } : Jvm.MethodName) prog_2_method_1_code (1 : Nat) (Option.none : Option Jvm.ClassFile.FieldType)) ∈ vwWS := List.mem_of_getElem? (i := 101) rfl
set_option maxRecDepth 100000 in
theorem kw_102 : (Jvm.Cond.methodLink "SpaceBasis$Generators" (3 : Nat) ({ cls := "java/lang/Object", name := "<init>", desc := "()V" } : Jvm.MethodName)) ∈ vwWS := List.mem_of_getElem? (i := 102) rfl
set_option maxRecDepth 100000 in
theorem kw_103 : (Jvm.Cond.classLink "SpaceBasis$Generators" (9 : Nat) "[[I") ∈ vwWS := List.mem_of_getElem? (i := 103) rfl
set_option maxRecDepth 100000 in
theorem kw_104 : (Jvm.Cond.fieldLink "SpaceBasis$Generators" (11 : Nat) "SpaceBasis$Generators" "polynomials" "[[I") ∈ vwWS := List.mem_of_getElem? (i := 104) rfl
set_option maxRecDepth 100000 in
theorem kw_105 : (Jvm.Cond.fieldLink "SpaceBasis$Generators" (16 : Nat) "SpaceBasis$Generators" "tops" "[I") ∈ vwWS := List.mem_of_getElem? (i := 105) rfl
set_option maxRecDepth 100000 in
theorem kw_106 : (Jvm.Cond.fieldLink "SpaceBasis$Generators" (20 : Nat) "SpaceBasis$Generators" "count" "I") ∈ vwWS := List.mem_of_getElem? (i := 106) rfl
set_option maxRecDepth 100000 in
theorem kw_107 : (Jvm.Cond.laysFinal "SpaceBasis$Generators" "SpaceBasis$Generators" "polynomials" "[[I") ∈ vwWS := List.mem_of_getElem? (i := 107) rfl
set_option maxRecDepth 100000 in
theorem kw_108 : (Jvm.Cond.soleField "SpaceBasis$Generators" "polynomials") ∈ vwWS := List.mem_of_getElem? (i := 108) rfl
set_option maxRecDepth 100000 in
theorem kw_109 : (Jvm.Cond.laysFinal "SpaceBasis$Generators" "SpaceBasis$Generators" "tops" "[I") ∈ vwWS := List.mem_of_getElem? (i := 109) rfl
set_option maxRecDepth 100000 in
theorem kw_110 : (Jvm.Cond.soleField "SpaceBasis$Generators" "tops") ∈ vwWS := List.mem_of_getElem? (i := 110) rfl
set_option maxRecDepth 100000 in
theorem kw_111 : (Jvm.Cond.lays "SpaceBasis$Generators" "SpaceBasis$Generators" "count" "I") ∈ vwWS := List.mem_of_getElem? (i := 111) rfl
set_option maxRecDepth 100000 in
theorem kw_112 : (Jvm.Cond.soleField "SpaceBasis$Generators" "count") ∈ vwWS := List.mem_of_getElem? (i := 112) rfl
set_option maxRecDepth 100000 in
theorem kw_113 : (Jvm.Cond.superclass "SpaceBasis$Generators" "java/lang/Object") ∈ vwWS := List.mem_of_getElem? (i := 113) rfl
set_option maxRecDepth 100000 in
theorem kw_114 : (Jvm.Cond.classLink "SpaceBasis" (30 : Nat) "SpaceBasis$Space") ∈ vwWS := List.mem_of_getElem? (i := 114) rfl
set_option maxRecDepth 100000 in
theorem kw_115 : (Jvm.Cond.instantiable "SpaceBasis$Space" (11 : Nat)) ∈ vwWS := List.mem_of_getElem? (i := 115) rfl
set_option maxRecDepth 100000 in
theorem kw_116 : (Jvm.Cond.methodLink "SpaceBasis" (32 : Nat) ({ cls := "SpaceBasis$Space", name := "<init>", desc := "(LSpaceBasis$Modulus;LSpaceBasis$Monomials;)V" } : Jvm.MethodName)) ∈ vwWS := List.mem_of_getElem? (i := 116) rfl
set_option maxRecDepth 100000 in
theorem kw_117 : (Jvm.Cond.instanceMethod ({ cls := "SpaceBasis$Space", name := "<init>", desc := "(LSpaceBasis$Modulus;LSpaceBasis$Monomials;)V" } : Jvm.MethodName)) ∈ vwWS := List.mem_of_getElem? (i := 117) rfl
set_option maxRecDepth 100000 in
theorem kw_118 : (Jvm.Cond.code ({ cls := "SpaceBasis$Space", name := "<init>", desc := "(LSpaceBasis$Modulus;LSpaceBasis$Monomials;)V" } : Jvm.MethodName) prog_8_method_1_code (3 : Nat) (Option.none : Option Jvm.ClassFile.FieldType)) ∈ vwWS := List.mem_of_getElem? (i := 118) rfl
set_option maxRecDepth 100000 in
theorem kw_119 : (Jvm.Cond.methodLink "SpaceBasis$Space" (3 : Nat) ({ cls := "java/lang/Object", name := "<init>", desc := "()V" } : Jvm.MethodName)) ∈ vwWS := List.mem_of_getElem? (i := 119) rfl
set_option maxRecDepth 100000 in
theorem kw_120 : (Jvm.Cond.classLink "SpaceBasis$Space" (9 : Nat) "SpaceBasis$Origins") ∈ vwWS := List.mem_of_getElem? (i := 120) rfl
set_option maxRecDepth 100000 in
theorem kw_121 : (Jvm.Cond.instantiable "SpaceBasis$Origins" (4 : Nat)) ∈ vwWS := List.mem_of_getElem? (i := 121) rfl
set_option maxRecDepth 100000 in
theorem kw_122 : (Jvm.Cond.instanceMethod ({ cls := "SpaceBasis$Origins", name := "<init>", desc := "()V" } : Jvm.MethodName)) ∈ vwWS := List.mem_of_getElem? (i := 122) rfl
set_option maxRecDepth 100000 in
theorem kw_123 : (Jvm.Cond.code ({ cls := "SpaceBasis$Origins", name := "<init>", desc := "()V" } : Jvm.MethodName) prog_6_method_1_code (1 : Nat) (Option.none : Option Jvm.ClassFile.FieldType)) ∈ vwWS := List.mem_of_getElem? (i := 123) rfl
set_option maxRecDepth 100000 in
theorem kw_124 : (Jvm.Cond.methodLink "SpaceBasis$Origins" (3 : Nat) ({ cls := "java/lang/Object", name := "<init>", desc := "()V" } : Jvm.MethodName)) ∈ vwWS := List.mem_of_getElem? (i := 124) rfl
set_option maxRecDepth 100000 in
theorem kw_125 : (Jvm.Cond.fieldLink "SpaceBasis$Origins" (9 : Nat) "SpaceBasis$Origins" "sources" "[I") ∈ vwWS := List.mem_of_getElem? (i := 125) rfl
set_option maxRecDepth 100000 in
theorem kw_126 : (Jvm.Cond.fieldLink "SpaceBasis$Origins" (15 : Nat) "SpaceBasis$Origins" "variables" "[I") ∈ vwWS := List.mem_of_getElem? (i := 126) rfl
set_option maxRecDepth 100000 in
theorem kw_127 : (Jvm.Cond.fieldLink "SpaceBasis$Origins" (18 : Nat) "SpaceBasis$Origins" "factors" "[I") ∈ vwWS := List.mem_of_getElem? (i := 127) rfl
set_option maxRecDepth 100000 in
theorem kw_128 : (Jvm.Cond.fieldLink "SpaceBasis$Origins" (21 : Nat) "SpaceBasis$Origins" "numbers" "[I") ∈ vwWS := List.mem_of_getElem? (i := 128) rfl
set_option maxRecDepth 100000 in
theorem kw_129 : (Jvm.Cond.laysFinal "SpaceBasis$Origins" "SpaceBasis$Origins" "sources" "[I") ∈ vwWS := List.mem_of_getElem? (i := 129) rfl
set_option maxRecDepth 100000 in
theorem kw_130 : (Jvm.Cond.soleField "SpaceBasis$Origins" "sources") ∈ vwWS := List.mem_of_getElem? (i := 130) rfl
set_option maxRecDepth 100000 in
theorem kw_131 : (Jvm.Cond.laysFinal "SpaceBasis$Origins" "SpaceBasis$Origins" "variables" "[I") ∈ vwWS := List.mem_of_getElem? (i := 131) rfl
set_option maxRecDepth 100000 in
theorem kw_132 : (Jvm.Cond.soleField "SpaceBasis$Origins" "variables") ∈ vwWS := List.mem_of_getElem? (i := 132) rfl
set_option maxRecDepth 100000 in
theorem kw_133 : (Jvm.Cond.laysFinal "SpaceBasis$Origins" "SpaceBasis$Origins" "factors" "[I") ∈ vwWS := List.mem_of_getElem? (i := 133) rfl
set_option maxRecDepth 100000 in
theorem kw_134 : (Jvm.Cond.soleField "SpaceBasis$Origins" "factors") ∈ vwWS := List.mem_of_getElem? (i := 134) rfl
set_option maxRecDepth 100000 in
theorem kw_135 : (Jvm.Cond.laysFinal "SpaceBasis$Origins" "SpaceBasis$Origins" "numbers" "[I") ∈ vwWS := List.mem_of_getElem? (i := 135) rfl
set_option maxRecDepth 100000 in
theorem kw_136 : (Jvm.Cond.soleField "SpaceBasis$Origins" "numbers") ∈ vwWS := List.mem_of_getElem? (i := 136) rfl
set_option maxRecDepth 100000 in
theorem kw_137 : (Jvm.Cond.superclass "SpaceBasis$Origins" "java/lang/Object") ∈ vwWS := List.mem_of_getElem? (i := 137) rfl
set_option maxRecDepth 100000 in
theorem kw_138 : (Jvm.Cond.fieldLink "SpaceBasis$Space" (38 : Nat) "SpaceBasis$Space" "modulus" "LSpaceBasis$Modulus;") ∈ vwWS := List.mem_of_getElem? (i := 138) rfl
set_option maxRecDepth 100000 in
theorem kw_139 : (Jvm.Cond.fieldLink "SpaceBasis$Space" (42 : Nat) "SpaceBasis$Space" "monomials" "LSpaceBasis$Monomials;") ∈ vwWS := List.mem_of_getElem? (i := 139) rfl
set_option maxRecDepth 100000 in
theorem kw_140 : (Jvm.Cond.fieldLink "SpaceBasis$Space" (12 : Nat) "SpaceBasis$Space" "origins" "LSpaceBasis$Origins;") ∈ vwWS := List.mem_of_getElem? (i := 140) rfl
set_option maxRecDepth 100000 in
theorem kw_141 : (Jvm.Cond.fieldLink "SpaceBasis$Space" (18 : Nat) "SpaceBasis$Space" "coefficients" "[I") ∈ vwWS := List.mem_of_getElem? (i := 141) rfl
set_option maxRecDepth 100000 in
theorem kw_142 : (Jvm.Cond.fieldLink "SpaceBasis$Space" (22 : Nat) "SpaceBasis$Space" "leads" "[I") ∈ vwWS := List.mem_of_getElem? (i := 142) rfl
set_option maxRecDepth 100000 in
theorem kw_143 : (Jvm.Cond.fieldLink "SpaceBasis$Space" (25 : Nat) "SpaceBasis$Space" "rowOfLead" "[I") ∈ vwWS := List.mem_of_getElem? (i := 143) rfl
set_option maxRecDepth 100000 in
theorem kw_144 : (Jvm.Cond.fieldLink "SpaceBasis$Space" (28 : Nat) "SpaceBasis$Space" "taken" "[I") ∈ vwWS := List.mem_of_getElem? (i := 144) rfl
set_option maxRecDepth 100000 in
theorem kw_145 : (Jvm.Cond.fieldLink "SpaceBasis$Space" (31 : Nat) "SpaceBasis$Space" "work" "[I") ∈ vwWS := List.mem_of_getElem? (i := 145) rfl
set_option maxRecDepth 100000 in
theorem kw_146 : (Jvm.Cond.fieldLink "SpaceBasis$Space" (34 : Nat) "SpaceBasis$Space" "degree" "I") ∈ vwWS := List.mem_of_getElem? (i := 146) rfl
set_option maxRecDepth 100000 in
theorem kw_147 : (Jvm.Cond.fieldLink "SpaceBasis$Space" (46 : Nat) "SpaceBasis$Space" "size" "I") ∈ vwWS := List.mem_of_getElem? (i := 147) rfl
set_option maxRecDepth 100000 in
theorem kw_148 : (Jvm.Cond.fieldLink "SpaceBasis$Space" (49 : Nat) "SpaceBasis$Space" "count" "I") ∈ vwWS := List.mem_of_getElem? (i := 148) rfl
set_option maxRecDepth 100000 in
theorem kw_149 : (Jvm.Cond.laysFinal "SpaceBasis$Space" "SpaceBasis$Space" "modulus" "LSpaceBasis$Modulus;") ∈ vwWS := List.mem_of_getElem? (i := 149) rfl
set_option maxRecDepth 100000 in
theorem kw_150 : (Jvm.Cond.soleField "SpaceBasis$Space" "modulus") ∈ vwWS := List.mem_of_getElem? (i := 150) rfl
set_option maxRecDepth 100000 in
theorem kw_151 : (Jvm.Cond.laysFinal "SpaceBasis$Space" "SpaceBasis$Space" "monomials" "LSpaceBasis$Monomials;") ∈ vwWS := List.mem_of_getElem? (i := 151) rfl
set_option maxRecDepth 100000 in
theorem kw_152 : (Jvm.Cond.soleField "SpaceBasis$Space" "monomials") ∈ vwWS := List.mem_of_getElem? (i := 152) rfl
set_option maxRecDepth 100000 in
theorem kw_153 : (Jvm.Cond.laysFinal "SpaceBasis$Space" "SpaceBasis$Space" "origins" "LSpaceBasis$Origins;") ∈ vwWS := List.mem_of_getElem? (i := 153) rfl
set_option maxRecDepth 100000 in
theorem kw_154 : (Jvm.Cond.soleField "SpaceBasis$Space" "origins") ∈ vwWS := List.mem_of_getElem? (i := 154) rfl
set_option maxRecDepth 100000 in
theorem kw_155 : (Jvm.Cond.laysFinal "SpaceBasis$Space" "SpaceBasis$Space" "coefficients" "[I") ∈ vwWS := List.mem_of_getElem? (i := 155) rfl
set_option maxRecDepth 100000 in
theorem kw_156 : (Jvm.Cond.soleField "SpaceBasis$Space" "coefficients") ∈ vwWS := List.mem_of_getElem? (i := 156) rfl
set_option maxRecDepth 100000 in
theorem kw_157 : (Jvm.Cond.laysFinal "SpaceBasis$Space" "SpaceBasis$Space" "leads" "[I") ∈ vwWS := List.mem_of_getElem? (i := 157) rfl
set_option maxRecDepth 100000 in
theorem kw_158 : (Jvm.Cond.soleField "SpaceBasis$Space" "leads") ∈ vwWS := List.mem_of_getElem? (i := 158) rfl
set_option maxRecDepth 100000 in
theorem kw_159 : (Jvm.Cond.laysFinal "SpaceBasis$Space" "SpaceBasis$Space" "rowOfLead" "[I") ∈ vwWS := List.mem_of_getElem? (i := 159) rfl
set_option maxRecDepth 100000 in
theorem kw_160 : (Jvm.Cond.soleField "SpaceBasis$Space" "rowOfLead") ∈ vwWS := List.mem_of_getElem? (i := 160) rfl
set_option maxRecDepth 100000 in
theorem kw_161 : (Jvm.Cond.laysFinal "SpaceBasis$Space" "SpaceBasis$Space" "taken" "[I") ∈ vwWS := List.mem_of_getElem? (i := 161) rfl
set_option maxRecDepth 100000 in
theorem kw_162 : (Jvm.Cond.soleField "SpaceBasis$Space" "taken") ∈ vwWS := List.mem_of_getElem? (i := 162) rfl
set_option maxRecDepth 100000 in
theorem kw_163 : (Jvm.Cond.laysFinal "SpaceBasis$Space" "SpaceBasis$Space" "work" "[I") ∈ vwWS := List.mem_of_getElem? (i := 163) rfl
set_option maxRecDepth 100000 in
theorem kw_164 : (Jvm.Cond.soleField "SpaceBasis$Space" "work") ∈ vwWS := List.mem_of_getElem? (i := 164) rfl
set_option maxRecDepth 100000 in
theorem kw_165 : (Jvm.Cond.lays "SpaceBasis$Space" "SpaceBasis$Space" "degree" "I") ∈ vwWS := List.mem_of_getElem? (i := 165) rfl
set_option maxRecDepth 100000 in
theorem kw_166 : (Jvm.Cond.soleField "SpaceBasis$Space" "degree") ∈ vwWS := List.mem_of_getElem? (i := 166) rfl
set_option maxRecDepth 100000 in
theorem kw_167 : (Jvm.Cond.lays "SpaceBasis$Space" "SpaceBasis$Space" "size" "I") ∈ vwWS := List.mem_of_getElem? (i := 167) rfl
set_option maxRecDepth 100000 in
theorem kw_168 : (Jvm.Cond.soleField "SpaceBasis$Space" "size") ∈ vwWS := List.mem_of_getElem? (i := 168) rfl
set_option maxRecDepth 100000 in
theorem kw_169 : (Jvm.Cond.lays "SpaceBasis$Space" "SpaceBasis$Space" "count" "I") ∈ vwWS := List.mem_of_getElem? (i := 169) rfl
set_option maxRecDepth 100000 in
theorem kw_170 : (Jvm.Cond.soleField "SpaceBasis$Space" "count") ∈ vwWS := List.mem_of_getElem? (i := 170) rfl
set_option maxRecDepth 100000 in
theorem kw_171 : (Jvm.Cond.superclass "SpaceBasis$Space" "java/lang/Object") ∈ vwWS := List.mem_of_getElem? (i := 171) rfl
set_option maxRecDepth 100000 in
theorem kw_172 : (Jvm.Cond.classLink "SpaceBasis" (39 : Nat) "SpaceBasis$Members") ∈ vwWS := List.mem_of_getElem? (i := 172) rfl
set_option maxRecDepth 100000 in
theorem kw_173 : (Jvm.Cond.instantiable "SpaceBasis$Members" (7 : Nat)) ∈ vwWS := List.mem_of_getElem? (i := 173) rfl
set_option maxRecDepth 100000 in
theorem kw_174 : (Jvm.Cond.methodLink "SpaceBasis" (41 : Nat) ({ cls := "SpaceBasis$Members", name := "<init>", desc := "(LSpaceBasis$Monomials;LSpaceBasis$Space;)V" } : Jvm.MethodName)) ∈ vwWS := List.mem_of_getElem? (i := 174) rfl
set_option maxRecDepth 100000 in
theorem kw_175 : (Jvm.Cond.instanceMethod ({ cls := "SpaceBasis$Members", name := "<init>", desc := "(LSpaceBasis$Monomials;LSpaceBasis$Space;)V" } : Jvm.MethodName)) ∈ vwWS := List.mem_of_getElem? (i := 175) rfl
set_option maxRecDepth 100000 in
theorem kw_176 : (Jvm.Cond.code ({ cls := "SpaceBasis$Members", name := "<init>", desc := "(LSpaceBasis$Monomials;LSpaceBasis$Space;)V" } : Jvm.MethodName) prog_3_method_1_code (3 : Nat) (Option.none : Option Jvm.ClassFile.FieldType)) ∈ vwWS := List.mem_of_getElem? (i := 176) rfl
set_option maxRecDepth 100000 in
theorem kw_177 : (Jvm.Cond.methodLink "SpaceBasis$Members" (3 : Nat) ({ cls := "java/lang/Object", name := "<init>", desc := "()V" } : Jvm.MethodName)) ∈ vwWS := List.mem_of_getElem? (i := 177) rfl
set_option maxRecDepth 100000 in
theorem kw_178 : (Jvm.Cond.fieldLink "SpaceBasis$Members" (21 : Nat) "SpaceBasis$Members" "monomials" "LSpaceBasis$Monomials;") ∈ vwWS := List.mem_of_getElem? (i := 178) rfl
set_option maxRecDepth 100000 in
theorem kw_179 : (Jvm.Cond.fieldLink "SpaceBasis$Members" (25 : Nat) "SpaceBasis$Members" "space" "LSpaceBasis$Space;") ∈ vwWS := List.mem_of_getElem? (i := 179) rfl
set_option maxRecDepth 100000 in
theorem kw_180 : (Jvm.Cond.fieldLink "SpaceBasis$Members" (9 : Nat) "SpaceBasis$Members" "coefficients" "[I") ∈ vwWS := List.mem_of_getElem? (i := 180) rfl
set_option maxRecDepth 100000 in
theorem kw_181 : (Jvm.Cond.fieldLink "SpaceBasis$Members" (15 : Nat) "SpaceBasis$Members" "leads" "[I") ∈ vwWS := List.mem_of_getElem? (i := 181) rfl
set_option maxRecDepth 100000 in
theorem kw_182 : (Jvm.Cond.fieldLink "SpaceBasis$Members" (18 : Nat) "SpaceBasis$Members" "work" "[I") ∈ vwWS := List.mem_of_getElem? (i := 182) rfl
set_option maxRecDepth 100000 in
theorem kw_183 : (Jvm.Cond.fieldLink "SpaceBasis$Members" (29 : Nat) "SpaceBasis$Members" "count" "I") ∈ vwWS := List.mem_of_getElem? (i := 183) rfl
set_option maxRecDepth 100000 in
theorem kw_184 : (Jvm.Cond.fieldLink "SpaceBasis$Members" (53 : Nat) "SpaceBasis$Members" "complete" "Z") ∈ vwWS := List.mem_of_getElem? (i := 184) rfl
set_option maxRecDepth 100000 in
theorem kw_185 : (Jvm.Cond.laysFinal "SpaceBasis$Members" "SpaceBasis$Members" "monomials" "LSpaceBasis$Monomials;") ∈ vwWS := List.mem_of_getElem? (i := 185) rfl
set_option maxRecDepth 100000 in
theorem kw_186 : (Jvm.Cond.soleField "SpaceBasis$Members" "monomials") ∈ vwWS := List.mem_of_getElem? (i := 186) rfl
set_option maxRecDepth 100000 in
theorem kw_187 : (Jvm.Cond.laysFinal "SpaceBasis$Members" "SpaceBasis$Members" "space" "LSpaceBasis$Space;") ∈ vwWS := List.mem_of_getElem? (i := 187) rfl
set_option maxRecDepth 100000 in
theorem kw_188 : (Jvm.Cond.soleField "SpaceBasis$Members" "space") ∈ vwWS := List.mem_of_getElem? (i := 188) rfl
set_option maxRecDepth 100000 in
theorem kw_189 : (Jvm.Cond.laysFinal "SpaceBasis$Members" "SpaceBasis$Members" "coefficients" "[I") ∈ vwWS := List.mem_of_getElem? (i := 189) rfl
set_option maxRecDepth 100000 in
theorem kw_190 : (Jvm.Cond.soleField "SpaceBasis$Members" "coefficients") ∈ vwWS := List.mem_of_getElem? (i := 190) rfl
set_option maxRecDepth 100000 in
theorem kw_191 : (Jvm.Cond.laysFinal "SpaceBasis$Members" "SpaceBasis$Members" "leads" "[I") ∈ vwWS := List.mem_of_getElem? (i := 191) rfl
set_option maxRecDepth 100000 in
theorem kw_192 : (Jvm.Cond.soleField "SpaceBasis$Members" "leads") ∈ vwWS := List.mem_of_getElem? (i := 192) rfl
set_option maxRecDepth 100000 in
theorem kw_193 : (Jvm.Cond.laysFinal "SpaceBasis$Members" "SpaceBasis$Members" "work" "[I") ∈ vwWS := List.mem_of_getElem? (i := 193) rfl
set_option maxRecDepth 100000 in
theorem kw_194 : (Jvm.Cond.soleField "SpaceBasis$Members" "work") ∈ vwWS := List.mem_of_getElem? (i := 194) rfl
set_option maxRecDepth 100000 in
theorem kw_195 : (Jvm.Cond.lays "SpaceBasis$Members" "SpaceBasis$Members" "count" "I") ∈ vwWS := List.mem_of_getElem? (i := 195) rfl
set_option maxRecDepth 100000 in
theorem kw_196 : (Jvm.Cond.soleField "SpaceBasis$Members" "count") ∈ vwWS := List.mem_of_getElem? (i := 196) rfl
set_option maxRecDepth 100000 in
theorem kw_197 : (Jvm.Cond.lays "SpaceBasis$Members" "SpaceBasis$Members" "complete" "Z") ∈ vwWS := List.mem_of_getElem? (i := 197) rfl
set_option maxRecDepth 100000 in
theorem kw_198 : (Jvm.Cond.soleField "SpaceBasis$Members" "complete") ∈ vwWS := List.mem_of_getElem? (i := 198) rfl
set_option maxRecDepth 100000 in
theorem kw_199 : (Jvm.Cond.superclass "SpaceBasis$Members" "java/lang/Object") ∈ vwWS := List.mem_of_getElem? (i := 199) rfl
set_option maxRecDepth 100000 in
theorem kw_200 : (Jvm.Cond.classLink "SpaceBasis" (48 : Nat) "SpaceBasis$Proof") ∈ vwWS := List.mem_of_getElem? (i := 200) rfl
set_option maxRecDepth 100000 in
theorem kw_201 : (Jvm.Cond.instantiable "SpaceBasis$Proof" (5 : Nat)) ∈ vwWS := List.mem_of_getElem? (i := 201) rfl
set_option maxRecDepth 100000 in
theorem kw_202 : (Jvm.Cond.methodLink "SpaceBasis" (50 : Nat) ({ cls := "SpaceBasis$Proof", name := "<init>", desc := "(LSpaceBasis$Modulus;LSpaceBasis$Generators;LSpaceBasis$Space;)V" } : Jvm.MethodName)) ∈ vwWS := List.mem_of_getElem? (i := 202) rfl
set_option maxRecDepth 100000 in
theorem kw_203 : (Jvm.Cond.instanceMethod ({ cls := "SpaceBasis$Proof", name := "<init>", desc := "(LSpaceBasis$Modulus;LSpaceBasis$Generators;LSpaceBasis$Space;)V" } : Jvm.MethodName)) ∈ vwWS := List.mem_of_getElem? (i := 203) rfl
set_option maxRecDepth 100000 in
theorem kw_204 : (Jvm.Cond.code ({ cls := "SpaceBasis$Proof", name := "<init>", desc := "(LSpaceBasis$Modulus;LSpaceBasis$Generators;LSpaceBasis$Space;)V" } : Jvm.MethodName) prog_7_method_1_code (4 : Nat) (Option.none : Option Jvm.ClassFile.FieldType)) ∈ vwWS := List.mem_of_getElem? (i := 204) rfl
set_option maxRecDepth 100000 in
theorem kw_205 : (Jvm.Cond.methodLink "SpaceBasis$Proof" (3 : Nat) ({ cls := "java/lang/Object", name := "<init>", desc := "()V" } : Jvm.MethodName)) ∈ vwWS := List.mem_of_getElem? (i := 205) rfl
set_option maxRecDepth 100000 in
theorem kw_206 : (Jvm.Cond.fieldLink "SpaceBasis$Proof" (15 : Nat) "SpaceBasis$Proof" "modulus" "LSpaceBasis$Modulus;") ∈ vwWS := List.mem_of_getElem? (i := 206) rfl
set_option maxRecDepth 100000 in
theorem kw_207 : (Jvm.Cond.fieldLink "SpaceBasis$Proof" (19 : Nat) "SpaceBasis$Proof" "generators" "LSpaceBasis$Generators;") ∈ vwWS := List.mem_of_getElem? (i := 207) rfl
set_option maxRecDepth 100000 in
theorem kw_208 : (Jvm.Cond.fieldLink "SpaceBasis$Proof" (23 : Nat) "SpaceBasis$Proof" "space" "LSpaceBasis$Space;") ∈ vwWS := List.mem_of_getElem? (i := 208) rfl
set_option maxRecDepth 100000 in
theorem kw_209 : (Jvm.Cond.fieldLink "SpaceBasis$Proof" (9 : Nat) "SpaceBasis$Proof" "line" "[I") ∈ vwWS := List.mem_of_getElem? (i := 209) rfl
set_option maxRecDepth 100000 in
theorem kw_210 : (Jvm.Cond.fieldLink "SpaceBasis$Proof" (27 : Nat) "SpaceBasis$Proof" "reckoned" "I") ∈ vwWS := List.mem_of_getElem? (i := 210) rfl
set_option maxRecDepth 100000 in
theorem kw_211 : (Jvm.Cond.laysFinal "SpaceBasis$Proof" "SpaceBasis$Proof" "modulus" "LSpaceBasis$Modulus;") ∈ vwWS := List.mem_of_getElem? (i := 211) rfl
set_option maxRecDepth 100000 in
theorem kw_212 : (Jvm.Cond.soleField "SpaceBasis$Proof" "modulus") ∈ vwWS := List.mem_of_getElem? (i := 212) rfl
set_option maxRecDepth 100000 in
theorem kw_213 : (Jvm.Cond.laysFinal "SpaceBasis$Proof" "SpaceBasis$Proof" "generators" "LSpaceBasis$Generators;") ∈ vwWS := List.mem_of_getElem? (i := 213) rfl
set_option maxRecDepth 100000 in
theorem kw_214 : (Jvm.Cond.soleField "SpaceBasis$Proof" "generators") ∈ vwWS := List.mem_of_getElem? (i := 214) rfl
set_option maxRecDepth 100000 in
theorem kw_215 : (Jvm.Cond.laysFinal "SpaceBasis$Proof" "SpaceBasis$Proof" "space" "LSpaceBasis$Space;") ∈ vwWS := List.mem_of_getElem? (i := 215) rfl
set_option maxRecDepth 100000 in
theorem kw_216 : (Jvm.Cond.soleField "SpaceBasis$Proof" "space") ∈ vwWS := List.mem_of_getElem? (i := 216) rfl
set_option maxRecDepth 100000 in
theorem kw_217 : (Jvm.Cond.laysFinal "SpaceBasis$Proof" "SpaceBasis$Proof" "line" "[I") ∈ vwWS := List.mem_of_getElem? (i := 217) rfl
set_option maxRecDepth 100000 in
theorem kw_218 : (Jvm.Cond.soleField "SpaceBasis$Proof" "line") ∈ vwWS := List.mem_of_getElem? (i := 218) rfl
set_option maxRecDepth 100000 in
theorem kw_219 : (Jvm.Cond.lays "SpaceBasis$Proof" "SpaceBasis$Proof" "reckoned" "I") ∈ vwWS := List.mem_of_getElem? (i := 219) rfl
set_option maxRecDepth 100000 in
theorem kw_220 : (Jvm.Cond.soleField "SpaceBasis$Proof" "reckoned") ∈ vwWS := List.mem_of_getElem? (i := 220) rfl
set_option maxRecDepth 100000 in
theorem kw_221 : (Jvm.Cond.superclass "SpaceBasis$Proof" "java/lang/Object") ∈ vwWS := List.mem_of_getElem? (i := 221) rfl
set_option maxRecDepth 100000 in
theorem kw_222 : (Jvm.Cond.methodLink "SpaceBasis" (68 : Nat) ({ cls := "SpaceBasis", name := "beginField", desc := "(III)V" } : Jvm.MethodName)) ∈ vwWS := List.mem_of_getElem? (i := 222) rfl
set_option maxRecDepth 100000 in
theorem kw_223 : (Jvm.Cond.instanceMethod ({ cls := "SpaceBasis", name := "beginField", desc := "(III)V" } : Jvm.MethodName)) ∈ vwWS := List.mem_of_getElem? (i := 223) rfl
set_option maxRecDepth 100000 in
theorem kw_224 : (Jvm.Cond.code ({ cls := "SpaceBasis", name := "beginField", desc := "(III)V" } : Jvm.MethodName) prog_1_method_14_code (4 : Nat) (Option.none : Option Jvm.ClassFile.FieldType)) ∈ vwWS := List.mem_of_getElem? (i := 224) rfl
set_option maxRecDepth 100000 in
theorem kw_225 : (Jvm.Cond.methodLink "SpaceBasis" (194 : Nat) ({ cls := "SpaceBasis$Monomials", name := "list", desc := "(II)V" } : Jvm.MethodName)) ∈ vwWS := List.mem_of_getElem? (i := 225) rfl
set_option maxRecDepth 100000 in
theorem kw_226 : (Jvm.Cond.instanceMethod ({ cls := "SpaceBasis$Monomials", name := "list", desc := "(II)V" } : Jvm.MethodName)) ∈ vwWS := List.mem_of_getElem? (i := 226) rfl
set_option maxRecDepth 100000 in
theorem kw_227 : (Jvm.Cond.selects "SpaceBasis$Monomials" ({ cls := "SpaceBasis$Monomials", name := "list", desc := "(II)V" } : Jvm.MethodName) ({ cls := "SpaceBasis$Monomials", name := "list", desc := "(II)V" } : Jvm.MethodName)) ∈ vwWS := List.mem_of_getElem? (i := 227) rfl
set_option maxRecDepth 100000 in
theorem kw_228 : (Jvm.Cond.code ({ cls := "SpaceBasis$Monomials", name := "list", desc := "(II)V" } : Jvm.MethodName) prog_5_method_2_code (5 : Nat) (Option.none : Option Jvm.ClassFile.FieldType)) ∈ vwWS := List.mem_of_getElem? (i := 228) rfl
set_option maxRecDepth 100000 in
theorem kw_229 : (Jvm.Cond.methodLink "SpaceBasis$Monomials" (40 : Nat) ({ cls := "SpaceBasis$Monomials", name := "listDegree", desc := "(IIII)V" } : Jvm.MethodName)) ∈ vwWS := List.mem_of_getElem? (i := 229) rfl
set_option maxRecDepth 100000 in
theorem kw_230 : (Jvm.Cond.instanceMethod ({ cls := "SpaceBasis$Monomials", name := "listDegree", desc := "(IIII)V" } : Jvm.MethodName)) ∈ vwWS := List.mem_of_getElem? (i := 230) rfl
set_option maxRecDepth 100000 in
theorem kw_231 : (Jvm.Cond.code ({ cls := "SpaceBasis$Monomials", name := "listDegree", desc := "(IIII)V" } : Jvm.MethodName) prog_5_method_3_code (8 : Nat) (Option.none : Option Jvm.ClassFile.FieldType)) ∈ vwWS := List.mem_of_getElem? (i := 231) rfl
set_option maxRecDepth 100000 in
theorem kw_232 : (Jvm.Cond.methodLink "SpaceBasis$Monomials" (44 : Nat) ({ cls := "SpaceBasis$Monomials", name := "unit", desc := "(I)I" } : Jvm.MethodName)) ∈ vwWS := List.mem_of_getElem? (i := 232) rfl
set_option maxRecDepth 100000 in
theorem kw_233 : (Jvm.Cond.static ({ cls := "SpaceBasis$Monomials", name := "unit", desc := "(I)I" } : Jvm.MethodName)) ∈ vwWS := List.mem_of_getElem? (i := 233) rfl
set_option maxRecDepth 100000 in
theorem kw_234 : (Jvm.Cond.code ({ cls := "SpaceBasis$Monomials", name := "unit", desc := "(I)I" } : Jvm.MethodName) prog_5_method_10_code (1 : Nat) (Option.some Jvm.ClassFile.FieldType.int)) ∈ vwWS := List.mem_of_getElem? (i := 234) rfl
set_option maxRecDepth 100000 in
theorem kw_235 : (Jvm.Cond.methodLink "SpaceBasis$Monomials" (51 : Nat) ({ cls := "SpaceBasis$Monomials", name := "append", desc := "(II)V" } : Jvm.MethodName)) ∈ vwWS := List.mem_of_getElem? (i := 235) rfl
set_option maxRecDepth 100000 in
theorem kw_236 : (Jvm.Cond.instanceMethod ({ cls := "SpaceBasis$Monomials", name := "append", desc := "(II)V" } : Jvm.MethodName)) ∈ vwWS := List.mem_of_getElem? (i := 236) rfl
set_option maxRecDepth 100000 in
theorem kw_237 : (Jvm.Cond.code ({ cls := "SpaceBasis$Monomials", name := "append", desc := "(II)V" } : Jvm.MethodName) prog_5_method_4_code (3 : Nat) (Option.none : Option Jvm.ClassFile.FieldType)) ∈ vwWS := List.mem_of_getElem? (i := 237) rfl
set_option maxRecDepth 100000 in
theorem kw_238 : (Jvm.Cond.methodLink "SpaceBasis$Monomials" (48 : Nat) ({ cls := "SpaceBasis$Monomials", name := "placeOf", desc := "(I)I" } : Jvm.MethodName)) ∈ vwWS := List.mem_of_getElem? (i := 238) rfl
set_option maxRecDepth 100000 in
theorem kw_239 : (Jvm.Cond.instanceMethod ({ cls := "SpaceBasis$Monomials", name := "placeOf", desc := "(I)I" } : Jvm.MethodName)) ∈ vwWS := List.mem_of_getElem? (i := 239) rfl
set_option maxRecDepth 100000 in
theorem kw_240 : (Jvm.Cond.selects "SpaceBasis$Monomials" ({ cls := "SpaceBasis$Monomials", name := "placeOf", desc := "(I)I" } : Jvm.MethodName) ({ cls := "SpaceBasis$Monomials", name := "placeOf", desc := "(I)I" } : Jvm.MethodName)) ∈ vwWS := List.mem_of_getElem? (i := 240) rfl
set_option maxRecDepth 100000 in
theorem kw_241 : (Jvm.Cond.code ({ cls := "SpaceBasis$Monomials", name := "placeOf", desc := "(I)I" } : Jvm.MethodName) prog_5_method_5_code (5 : Nat) (Option.some Jvm.ClassFile.FieldType.int)) ∈ vwWS := List.mem_of_getElem? (i := 241) rfl
set_option maxRecDepth 100000 in
theorem kw_242 : (Jvm.Cond.methodLink "SpaceBasis$Monomials" (55 : Nat) ({ cls := "SpaceBasis$Monomials", name := "exponentIn", desc := "(II)I" } : Jvm.MethodName)) ∈ vwWS := List.mem_of_getElem? (i := 242) rfl
set_option maxRecDepth 100000 in
theorem kw_243 : (Jvm.Cond.static ({ cls := "SpaceBasis$Monomials", name := "exponentIn", desc := "(II)I" } : Jvm.MethodName)) ∈ vwWS := List.mem_of_getElem? (i := 243) rfl
set_option maxRecDepth 100000 in
theorem kw_244 : (Jvm.Cond.code ({ cls := "SpaceBasis$Monomials", name := "exponentIn", desc := "(II)I" } : Jvm.MethodName) prog_5_method_11_code (2 : Nat) (Option.some Jvm.ClassFile.FieldType.int)) ∈ vwWS := List.mem_of_getElem? (i := 244) rfl
set_option maxRecDepth 100000 in
theorem kw_245 : (Jvm.Cond.methodLink "SpaceBasis" (121 : Nat) ({ cls := "SpaceBasis", name := "beginAnew", desc := "()V" } : Jvm.MethodName)) ∈ vwWS := List.mem_of_getElem? (i := 245) rfl
set_option maxRecDepth 100000 in
theorem kw_246 : (Jvm.Cond.instanceMethod ({ cls := "SpaceBasis", name := "beginAnew", desc := "()V" } : Jvm.MethodName)) ∈ vwWS := List.mem_of_getElem? (i := 246) rfl
set_option maxRecDepth 100000 in
theorem kw_247 : (Jvm.Cond.code ({ cls := "SpaceBasis", name := "beginAnew", desc := "()V" } : Jvm.MethodName) prog_1_method_15_code (1 : Nat) (Option.none : Option Jvm.ClassFile.FieldType)) ∈ vwWS := List.mem_of_getElem? (i := 247) rfl
set_option maxRecDepth 100000 in
theorem kw_248 : (Jvm.Cond.methodLink "SpaceBasis" (115 : Nat) ({ cls := "SpaceBasis", name := "emptyHand", desc := "()V" } : Jvm.MethodName)) ∈ vwWS := List.mem_of_getElem? (i := 248) rfl
set_option maxRecDepth 100000 in
theorem kw_249 : (Jvm.Cond.instanceMethod ({ cls := "SpaceBasis", name := "emptyHand", desc := "()V" } : Jvm.MethodName)) ∈ vwWS := List.mem_of_getElem? (i := 249) rfl
set_option maxRecDepth 100000 in
theorem kw_250 : (Jvm.Cond.code ({ cls := "SpaceBasis", name := "emptyHand", desc := "()V" } : Jvm.MethodName) prog_1_method_16_code (1 : Nat) (Option.none : Option Jvm.ClassFile.FieldType)) ∈ vwWS := List.mem_of_getElem? (i := 250) rfl
set_option maxRecDepth 100000 in
theorem kw_251 : (Jvm.Cond.methodLink "SpaceBasis" (198 : Nat) ({ cls := "java/util/Arrays", name := "fill", desc := "([II)V" } : Jvm.MethodName)) ∈ vwWS := List.mem_of_getElem? (i := 251) rfl
set_option maxRecDepth 100000 in
theorem kw_252 : (Jvm.Cond.static ({ cls := "java/util/Arrays", name := "fill", desc := "([II)V" } : Jvm.MethodName)) ∈ vwWS := List.mem_of_getElem? (i := 252) rfl
set_option maxRecDepth 100000 in
theorem kw_253 : (Jvm.Cond.code ({ cls := "java/util/Arrays", name := "fill", desc := "([II)V" } : Jvm.MethodName) prog_20_method_103_code (4 : Nat) (Option.none : Option Jvm.ClassFile.FieldType)) ∈ vwWS := List.mem_of_getElem? (i := 253) rfl
set_option maxRecDepth 100000 in
theorem kw_254 : (Jvm.Cond.methodLink "SpaceBasis" (118 : Nat) ({ cls := "SpaceBasis$Space", name := "forget", desc := "()V" } : Jvm.MethodName)) ∈ vwWS := List.mem_of_getElem? (i := 254) rfl
set_option maxRecDepth 100000 in
theorem kw_255 : (Jvm.Cond.instanceMethod ({ cls := "SpaceBasis$Space", name := "forget", desc := "()V" } : Jvm.MethodName)) ∈ vwWS := List.mem_of_getElem? (i := 255) rfl
set_option maxRecDepth 100000 in
theorem kw_256 : (Jvm.Cond.selects "SpaceBasis$Space" ({ cls := "SpaceBasis$Space", name := "forget", desc := "()V" } : Jvm.MethodName) ({ cls := "SpaceBasis$Space", name := "forget", desc := "()V" } : Jvm.MethodName)) ∈ vwWS := List.mem_of_getElem? (i := 256) rfl
set_option maxRecDepth 100000 in
theorem kw_257 : (Jvm.Cond.code ({ cls := "SpaceBasis$Space", name := "forget", desc := "()V" } : Jvm.MethodName) prog_8_method_2_code (1 : Nat) (Option.none : Option Jvm.ClassFile.FieldType)) ∈ vwWS := List.mem_of_getElem? (i := 257) rfl
set_option maxRecDepth 100000 in
theorem kw_258 : (Jvm.Cond.fieldLink "SpaceBasis" (12 : Nat) "SpaceBasis" "modulus" "LSpaceBasis$Modulus;") ∈ vwWS := List.mem_of_getElem? (i := 258) rfl
set_option maxRecDepth 100000 in
theorem kw_259 : (Jvm.Cond.fieldLink "SpaceBasis" (19 : Nat) "SpaceBasis" "monomials" "LSpaceBasis$Monomials;") ∈ vwWS := List.mem_of_getElem? (i := 259) rfl
set_option maxRecDepth 100000 in
theorem kw_260 : (Jvm.Cond.fieldLink "SpaceBasis" (26 : Nat) "SpaceBasis" "generators" "LSpaceBasis$Generators;") ∈ vwWS := List.mem_of_getElem? (i := 260) rfl
set_option maxRecDepth 100000 in
theorem kw_261 : (Jvm.Cond.fieldLink "SpaceBasis" (35 : Nat) "SpaceBasis" "space" "LSpaceBasis$Space;") ∈ vwWS := List.mem_of_getElem? (i := 261) rfl
set_option maxRecDepth 100000 in
theorem kw_262 : (Jvm.Cond.fieldLink "SpaceBasis" (44 : Nat) "SpaceBasis" "members" "LSpaceBasis$Members;") ∈ vwWS := List.mem_of_getElem? (i := 262) rfl
set_option maxRecDepth 100000 in
theorem kw_263 : (Jvm.Cond.fieldLink "SpaceBasis" (53 : Nat) "SpaceBasis" "proof" "LSpaceBasis$Proof;") ∈ vwWS := List.mem_of_getElem? (i := 263) rfl
set_option maxRecDepth 100000 in
theorem kw_264 : (Jvm.Cond.fieldLink "SpaceBasis" (57 : Nat) "SpaceBasis" "inHand" "[I") ∈ vwWS := List.mem_of_getElem? (i := 264) rfl
set_option maxRecDepth 100000 in
theorem kw_265 : (Jvm.Cond.fieldLink "SpaceBasis" (61 : Nat) "SpaceBasis" "asked" "[I") ∈ vwWS := List.mem_of_getElem? (i := 265) rfl
set_option maxRecDepth 100000 in
theorem kw_266 : (Jvm.Cond.fieldLink "SpaceBasis" (64 : Nat) "SpaceBasis" "provedCount" "I") ∈ vwWS := List.mem_of_getElem? (i := 266) rfl
set_option maxRecDepth 100000 in
theorem kw_267 : (Jvm.Cond.laysFinal "SpaceBasis" "SpaceBasis" "modulus" "LSpaceBasis$Modulus;") ∈ vwWS := List.mem_of_getElem? (i := 267) rfl
set_option maxRecDepth 100000 in
theorem kw_268 : (Jvm.Cond.soleField "SpaceBasis" "modulus") ∈ vwWS := List.mem_of_getElem? (i := 268) rfl
set_option maxRecDepth 100000 in
theorem kw_269 : (Jvm.Cond.laysFinal "SpaceBasis" "SpaceBasis" "monomials" "LSpaceBasis$Monomials;") ∈ vwWS := List.mem_of_getElem? (i := 269) rfl
set_option maxRecDepth 100000 in
theorem kw_270 : (Jvm.Cond.soleField "SpaceBasis" "monomials") ∈ vwWS := List.mem_of_getElem? (i := 270) rfl
set_option maxRecDepth 100000 in
theorem kw_271 : (Jvm.Cond.laysFinal "SpaceBasis" "SpaceBasis" "generators" "LSpaceBasis$Generators;") ∈ vwWS := List.mem_of_getElem? (i := 271) rfl
set_option maxRecDepth 100000 in
theorem kw_272 : (Jvm.Cond.soleField "SpaceBasis" "generators") ∈ vwWS := List.mem_of_getElem? (i := 272) rfl
set_option maxRecDepth 100000 in
theorem kw_273 : (Jvm.Cond.laysFinal "SpaceBasis" "SpaceBasis" "space" "LSpaceBasis$Space;") ∈ vwWS := List.mem_of_getElem? (i := 273) rfl
set_option maxRecDepth 100000 in
theorem kw_274 : (Jvm.Cond.soleField "SpaceBasis" "space") ∈ vwWS := List.mem_of_getElem? (i := 274) rfl
set_option maxRecDepth 100000 in
theorem kw_275 : (Jvm.Cond.laysFinal "SpaceBasis" "SpaceBasis" "members" "LSpaceBasis$Members;") ∈ vwWS := List.mem_of_getElem? (i := 275) rfl
set_option maxRecDepth 100000 in
theorem kw_276 : (Jvm.Cond.soleField "SpaceBasis" "members") ∈ vwWS := List.mem_of_getElem? (i := 276) rfl
set_option maxRecDepth 100000 in
theorem kw_277 : (Jvm.Cond.laysFinal "SpaceBasis" "SpaceBasis" "proof" "LSpaceBasis$Proof;") ∈ vwWS := List.mem_of_getElem? (i := 277) rfl
set_option maxRecDepth 100000 in
theorem kw_278 : (Jvm.Cond.soleField "SpaceBasis" "proof") ∈ vwWS := List.mem_of_getElem? (i := 278) rfl
set_option maxRecDepth 100000 in
theorem kw_279 : (Jvm.Cond.laysFinal "SpaceBasis" "SpaceBasis" "inHand" "[I") ∈ vwWS := List.mem_of_getElem? (i := 279) rfl
set_option maxRecDepth 100000 in
theorem kw_280 : (Jvm.Cond.soleField "SpaceBasis" "inHand") ∈ vwWS := List.mem_of_getElem? (i := 280) rfl
set_option maxRecDepth 100000 in
theorem kw_281 : (Jvm.Cond.laysFinal "SpaceBasis" "SpaceBasis" "asked" "[I") ∈ vwWS := List.mem_of_getElem? (i := 281) rfl
set_option maxRecDepth 100000 in
theorem kw_282 : (Jvm.Cond.soleField "SpaceBasis" "asked") ∈ vwWS := List.mem_of_getElem? (i := 282) rfl
set_option maxRecDepth 100000 in
theorem kw_283 : (Jvm.Cond.lays "SpaceBasis" "SpaceBasis" "provedCount" "I") ∈ vwWS := List.mem_of_getElem? (i := 283) rfl
set_option maxRecDepth 100000 in
theorem kw_284 : (Jvm.Cond.soleField "SpaceBasis" "provedCount") ∈ vwWS := List.mem_of_getElem? (i := 284) rfl
set_option maxRecDepth 100000 in
theorem kw_285 : (Jvm.Cond.superclass "SpaceBasis" "java/lang/Object") ∈ vwWS := List.mem_of_getElem? (i := 285) rfl
set_option maxRecDepth 100000 in
theorem kw_286 : (Jvm.Cond.methodLink "SpaceBasisLaw" (50 : Nat) ({ cls := "SpaceBasis", name := "hand", desc := "(I)I" } : Jvm.MethodName)) ∈ vwWS := List.mem_of_getElem? (i := 286) rfl
set_option maxRecDepth 100000 in
theorem kw_287 : (Jvm.Cond.instanceMethod ({ cls := "SpaceBasis", name := "hand", desc := "(I)I" } : Jvm.MethodName)) ∈ vwWS := List.mem_of_getElem? (i := 287) rfl
set_option maxRecDepth 100000 in
theorem kw_288 : (Jvm.Cond.selects "SpaceBasis" ({ cls := "SpaceBasis", name := "hand", desc := "(I)I" } : Jvm.MethodName) ({ cls := "SpaceBasis", name := "hand", desc := "(I)I" } : Jvm.MethodName)) ∈ vwWS := List.mem_of_getElem? (i := 288) rfl
set_option maxRecDepth 100000 in
theorem kw_289 : (Jvm.Cond.code ({ cls := "SpaceBasis", name := "hand", desc := "(I)I" } : Jvm.MethodName) prog_1_method_4_code (3 : Nat) (Option.some Jvm.ClassFile.FieldType.int)) ∈ vwWS := List.mem_of_getElem? (i := 289) rfl
set_option maxRecDepth 100000 in
theorem kw_290 : (Jvm.Cond.methodLink "SpaceBasis" (87 : Nat) ({ cls := "SpaceBasis$Monomials", name := "placeOf", desc := "(I)I" } : Jvm.MethodName)) ∈ vwWS := List.mem_of_getElem? (i := 290) rfl
set_option maxRecDepth 100000 in
theorem kw_291 : (Jvm.Cond.methodLink "SpaceBasisLaw" (58 : Nat) ({ cls := "SpaceBasis", name := "clear", desc := "()V" } : Jvm.MethodName)) ∈ vwWS := List.mem_of_getElem? (i := 291) rfl
set_option maxRecDepth 100000 in
theorem kw_292 : (Jvm.Cond.instanceMethod ({ cls := "SpaceBasis", name := "clear", desc := "()V" } : Jvm.MethodName)) ∈ vwWS := List.mem_of_getElem? (i := 292) rfl
set_option maxRecDepth 100000 in
theorem kw_293 : (Jvm.Cond.selects "SpaceBasis" ({ cls := "SpaceBasis", name := "clear", desc := "()V" } : Jvm.MethodName) ({ cls := "SpaceBasis", name := "clear", desc := "()V" } : Jvm.MethodName)) ∈ vwWS := List.mem_of_getElem? (i := 293) rfl
set_option maxRecDepth 100000 in
theorem kw_294 : (Jvm.Cond.code ({ cls := "SpaceBasis", name := "clear", desc := "()V" } : Jvm.MethodName) prog_1_method_6_code (1 : Nat) (Option.none : Option Jvm.ClassFile.FieldType)) ∈ vwWS := List.mem_of_getElem? (i := 294) rfl
set_option maxRecDepth 100000 in
theorem kw_295 : (Jvm.Cond.methodLink "SpaceBasisLaw" (66 : Nat) ({ cls := "SpaceBasis", name := "lead", desc := "(I)I" } : Jvm.MethodName)) ∈ vwWS := List.mem_of_getElem? (i := 295) rfl
set_option maxRecDepth 100000 in
theorem kw_296 : (Jvm.Cond.instanceMethod ({ cls := "SpaceBasis", name := "lead", desc := "(I)I" } : Jvm.MethodName)) ∈ vwWS := List.mem_of_getElem? (i := 296) rfl
set_option maxRecDepth 100000 in
theorem kw_297 : (Jvm.Cond.selects "SpaceBasis" ({ cls := "SpaceBasis", name := "lead", desc := "(I)I" } : Jvm.MethodName) ({ cls := "SpaceBasis", name := "lead", desc := "(I)I" } : Jvm.MethodName)) ∈ vwWS := List.mem_of_getElem? (i := 297) rfl
set_option maxRecDepth 100000 in
theorem kw_298 : (Jvm.Cond.code ({ cls := "SpaceBasis", name := "lead", desc := "(I)I" } : Jvm.MethodName) prog_1_method_8_code (2 : Nat) (Option.some Jvm.ClassFile.FieldType.int)) ∈ vwWS := List.mem_of_getElem? (i := 298) rfl
set_option maxRecDepth 100000 in
theorem kw_299 : (Jvm.Cond.methodLink "SpaceBasis" (151 : Nat) ({ cls := "SpaceBasis", name := "hasMember", desc := "(I)Z" } : Jvm.MethodName)) ∈ vwWS := List.mem_of_getElem? (i := 299) rfl
set_option maxRecDepth 100000 in
theorem kw_300 : (Jvm.Cond.instanceMethod ({ cls := "SpaceBasis", name := "hasMember", desc := "(I)Z" } : Jvm.MethodName)) ∈ vwWS := List.mem_of_getElem? (i := 300) rfl
set_option maxRecDepth 100000 in
theorem kw_301 : (Jvm.Cond.code ({ cls := "SpaceBasis", name := "hasMember", desc := "(I)Z" } : Jvm.MethodName) prog_1_method_17_code (2 : Nat) (Option.some Jvm.ClassFile.FieldType.boolean)) ∈ vwWS := List.mem_of_getElem? (i := 301) rfl
set_option maxRecDepth 100000 in
theorem kw_302 : (Jvm.Cond.methodLink "SpaceBasisLaw" (70 : Nat) ({ cls := "SpaceBasis", name := "member", desc := "(II)I" } : Jvm.MethodName)) ∈ vwWS := List.mem_of_getElem? (i := 302) rfl
set_option maxRecDepth 100000 in
theorem kw_303 : (Jvm.Cond.instanceMethod ({ cls := "SpaceBasis", name := "member", desc := "(II)I" } : Jvm.MethodName)) ∈ vwWS := List.mem_of_getElem? (i := 303) rfl
set_option maxRecDepth 100000 in
theorem kw_304 : (Jvm.Cond.selects "SpaceBasis" ({ cls := "SpaceBasis", name := "member", desc := "(II)I" } : Jvm.MethodName) ({ cls := "SpaceBasis", name := "member", desc := "(II)I" } : Jvm.MethodName)) ∈ vwWS := List.mem_of_getElem? (i := 304) rfl
set_option maxRecDepth 100000 in
theorem kw_305 : (Jvm.Cond.code ({ cls := "SpaceBasis", name := "member", desc := "(II)I" } : Jvm.MethodName) prog_1_method_9_code (3 : Nat) (Option.some Jvm.ClassFile.FieldType.int)) ∈ vwWS := List.mem_of_getElem? (i := 305) rfl
set_option maxRecDepth 100000 in
theorem kw_306 : (Jvm.Cond.methodLink "SpaceBasis" (160 : Nat) ({ cls := "SpaceBasis$Members", name := "coefficientAt", desc := "(II)I" } : Jvm.MethodName)) ∈ vwWS := List.mem_of_getElem? (i := 306) rfl
set_option maxRecDepth 100000 in
theorem kw_307 : (Jvm.Cond.instanceMethod ({ cls := "SpaceBasis$Members", name := "coefficientAt", desc := "(II)I" } : Jvm.MethodName)) ∈ vwWS := List.mem_of_getElem? (i := 307) rfl
set_option maxRecDepth 100000 in
theorem kw_308 : (Jvm.Cond.selects "SpaceBasis$Members" ({ cls := "SpaceBasis$Members", name := "coefficientAt", desc := "(II)I" } : Jvm.MethodName) ({ cls := "SpaceBasis$Members", name := "coefficientAt", desc := "(II)I" } : Jvm.MethodName)) ∈ vwWS := List.mem_of_getElem? (i := 308) rfl
set_option maxRecDepth 100000 in
theorem kw_309 : (Jvm.Cond.code ({ cls := "SpaceBasis$Members", name := "coefficientAt", desc := "(II)I" } : Jvm.MethodName) prog_3_method_6_code (4 : Nat) (Option.some Jvm.ClassFile.FieldType.int)) ∈ vwWS := List.mem_of_getElem? (i := 309) rfl
set_option maxRecDepth 100000 in
theorem kw_310 : (Jvm.Cond.static ({ cls := "SpaceBasis", name := "startOfLine", desc := "(I)I" } : Jvm.MethodName)) ∈ vwWS := List.mem_of_getElem? (i := 310) rfl
set_option maxRecDepth 100000 in
theorem kw_311 : (Jvm.Cond.code ({ cls := "SpaceBasis", name := "startOfLine", desc := "(I)I" } : Jvm.MethodName) prog_1_method_19_code (1 : Nat) (Option.some Jvm.ClassFile.FieldType.int)) ∈ vwWS := List.mem_of_getElem? (i := 311) rfl
set_option maxRecDepth 100000 in
theorem kw_312 : (Jvm.Cond.methodLink "SpaceBasisLaw" (75 : Nat) ({ cls := "SpaceBasis", name := "ideal", desc := "(I)I" } : Jvm.MethodName)) ∈ vwWS := List.mem_of_getElem? (i := 312) rfl
set_option maxRecDepth 100000 in
theorem kw_313 : (Jvm.Cond.instanceMethod ({ cls := "SpaceBasis", name := "ideal", desc := "(I)I" } : Jvm.MethodName)) ∈ vwWS := List.mem_of_getElem? (i := 313) rfl
set_option maxRecDepth 100000 in
theorem kw_314 : (Jvm.Cond.selects "SpaceBasis" ({ cls := "SpaceBasis", name := "ideal", desc := "(I)I" } : Jvm.MethodName) ({ cls := "SpaceBasis", name := "ideal", desc := "(I)I" } : Jvm.MethodName)) ∈ vwWS := List.mem_of_getElem? (i := 314) rfl
set_option maxRecDepth 100000 in
theorem kw_315 : (Jvm.Cond.code ({ cls := "SpaceBasis", name := "ideal", desc := "(I)I" } : Jvm.MethodName) prog_1_method_10_code (2 : Nat) (Option.some Jvm.ClassFile.FieldType.int)) ∈ vwWS := List.mem_of_getElem? (i := 315) rfl
set_option maxRecDepth 100000 in
theorem kw_316 : (Jvm.Cond.methodLink "SpaceBasis" (168 : Nat) ({ cls := "SpaceBasis$Members", name := "dimension", desc := "()I" } : Jvm.MethodName)) ∈ vwWS := List.mem_of_getElem? (i := 316) rfl
set_option maxRecDepth 100000 in
theorem kw_317 : (Jvm.Cond.instanceMethod ({ cls := "SpaceBasis$Members", name := "dimension", desc := "()I" } : Jvm.MethodName)) ∈ vwWS := List.mem_of_getElem? (i := 317) rfl
set_option maxRecDepth 100000 in
theorem kw_318 : (Jvm.Cond.selects "SpaceBasis$Members" ({ cls := "SpaceBasis$Members", name := "dimension", desc := "()I" } : Jvm.MethodName) ({ cls := "SpaceBasis$Members", name := "dimension", desc := "()I" } : Jvm.MethodName)) ∈ vwWS := List.mem_of_getElem? (i := 318) rfl
set_option maxRecDepth 100000 in
theorem kw_319 : (Jvm.Cond.code ({ cls := "SpaceBasis$Members", name := "dimension", desc := "()I" } : Jvm.MethodName) prog_3_method_7_code (3 : Nat) (Option.some Jvm.ClassFile.FieldType.int)) ∈ vwWS := List.mem_of_getElem? (i := 319) rfl
set_option maxRecDepth 100000 in
theorem kw_320 : (Jvm.Cond.methodLink "SpaceBasis$Members" (101 : Nat) ({ cls := "SpaceBasis$Members", name := "hasLeadOf", desc := "(I)Z" } : Jvm.MethodName)) ∈ vwWS := List.mem_of_getElem? (i := 320) rfl
set_option maxRecDepth 100000 in
theorem kw_321 : (Jvm.Cond.instanceMethod ({ cls := "SpaceBasis$Members", name := "hasLeadOf", desc := "(I)Z" } : Jvm.MethodName)) ∈ vwWS := List.mem_of_getElem? (i := 321) rfl
set_option maxRecDepth 100000 in
theorem kw_322 : (Jvm.Cond.code ({ cls := "SpaceBasis$Members", name := "hasLeadOf", desc := "(I)Z" } : Jvm.MethodName) prog_3_method_8_code (3 : Nat) (Option.some Jvm.ClassFile.FieldType.boolean)) ∈ vwWS := List.mem_of_getElem? (i := 322) rfl
set_option maxRecDepth 100000 in
theorem kw_323 : (Jvm.Cond.methodLink "SpaceBasis$Members" (114 : Nat) ({ cls := "SpaceBasis$Monomials", name := "variablesIn", desc := "(I)I" } : Jvm.MethodName)) ∈ vwWS := List.mem_of_getElem? (i := 323) rfl
set_option maxRecDepth 100000 in
theorem kw_324 : (Jvm.Cond.instanceMethod ({ cls := "SpaceBasis$Monomials", name := "variablesIn", desc := "(I)I" } : Jvm.MethodName)) ∈ vwWS := List.mem_of_getElem? (i := 324) rfl
set_option maxRecDepth 100000 in
theorem kw_325 : (Jvm.Cond.selects "SpaceBasis$Monomials" ({ cls := "SpaceBasis$Monomials", name := "variablesIn", desc := "(I)I" } : Jvm.MethodName) ({ cls := "SpaceBasis$Monomials", name := "variablesIn", desc := "(I)I" } : Jvm.MethodName)) ∈ vwWS := List.mem_of_getElem? (i := 325) rfl
set_option maxRecDepth 100000 in
theorem kw_326 : (Jvm.Cond.code ({ cls := "SpaceBasis$Monomials", name := "variablesIn", desc := "(I)I" } : Jvm.MethodName) prog_5_method_9_code (4 : Nat) (Option.some Jvm.ClassFile.FieldType.int)) ∈ vwWS := List.mem_of_getElem? (i := 326) rfl
set_option maxRecDepth 100000 in
theorem kw_327 : (Jvm.Cond.methodLink "SpaceBasis$Members" (104 : Nat) ({ cls := "java/lang/Integer", name := "bitCount", desc := "(I)I" } : Jvm.MethodName)) ∈ vwWS := List.mem_of_getElem? (i := 327) rfl
set_option maxRecDepth 100000 in
theorem kw_328 : (Jvm.Cond.static ({ cls := "java/lang/Integer", name := "bitCount", desc := "(I)I" } : Jvm.MethodName)) ∈ vwWS := List.mem_of_getElem? (i := 328) rfl
set_option maxRecDepth 100000 in
theorem kw_329 : (Jvm.Cond.code ({ cls := "java/lang/Integer", name := "bitCount", desc := "(I)I" } : Jvm.MethodName) prog_14_method_49_code (1 : Nat) (Option.some Jvm.ClassFile.FieldType.int)) ∈ vwWS := List.mem_of_getElem? (i := 329) rfl
set_option maxRecDepth 100000 in
theorem kw_330 : (Jvm.Cond.constant "java/lang/Integer" (265 : Nat) (1431655765 : Int32)) ∈ vwWS := List.mem_of_getElem? (i := 330) rfl
set_option maxRecDepth 100000 in
theorem kw_331 : (Jvm.Cond.constant "java/lang/Integer" (266 : Nat) (858993459 : Int32)) ∈ vwWS := List.mem_of_getElem? (i := 331) rfl
set_option maxRecDepth 100000 in
theorem kw_332 : (Jvm.Cond.constant "java/lang/Integer" (267 : Nat) (252645135 : Int32)) ∈ vwWS := List.mem_of_getElem? (i := 332) rfl
set_option maxRecDepth 100000 in
theorem kw_333 : (Jvm.Cond.methodLink "SpaceBasis$Members" (109 : Nat) ({ cls := "java/lang/Math", name := "max", desc := "(II)I" } : Jvm.MethodName)) ∈ vwWS := List.mem_of_getElem? (i := 333) rfl
set_option maxRecDepth 100000 in
theorem kw_334 : (Jvm.Cond.static ({ cls := "java/lang/Math", name := "max", desc := "(II)I" } : Jvm.MethodName)) ∈ vwWS := List.mem_of_getElem? (i := 334) rfl
set_option maxRecDepth 100000 in
theorem kw_335 : (Jvm.Cond.code ({ cls := "java/lang/Math", name := "max", desc := "(II)I" } : Jvm.MethodName) prog_15_method_65_code (2 : Nat) (Option.some Jvm.ClassFile.FieldType.int)) ∈ vwWS := List.mem_of_getElem? (i := 335) rfl
set_option maxRecDepth 100000 in
theorem kw_336 : (Jvm.Cond.methodLink "SpaceBasisLaw" (79 : Nat) ({ cls := "SpaceBasis", name := "standard", desc := "(I)I" } : Jvm.MethodName)) ∈ vwWS := List.mem_of_getElem? (i := 336) rfl
set_option maxRecDepth 100000 in
theorem kw_337 : (Jvm.Cond.instanceMethod ({ cls := "SpaceBasis", name := "standard", desc := "(I)I" } : Jvm.MethodName)) ∈ vwWS := List.mem_of_getElem? (i := 337) rfl
set_option maxRecDepth 100000 in
theorem kw_338 : (Jvm.Cond.selects "SpaceBasis" ({ cls := "SpaceBasis", name := "standard", desc := "(I)I" } : Jvm.MethodName) ({ cls := "SpaceBasis", name := "standard", desc := "(I)I" } : Jvm.MethodName)) ∈ vwWS := List.mem_of_getElem? (i := 338) rfl
set_option maxRecDepth 100000 in
theorem kw_339 : (Jvm.Cond.code ({ cls := "SpaceBasis", name := "standard", desc := "(I)I" } : Jvm.MethodName) prog_1_method_11_code (2 : Nat) (Option.some Jvm.ClassFile.FieldType.int)) ∈ vwWS := List.mem_of_getElem? (i := 339) rfl
set_option maxRecDepth 100000 in
theorem kw_340 : (Jvm.Cond.methodLink "SpaceBasis" (171 : Nat) ({ cls := "SpaceBasis$Space", name := "standardOfDegree", desc := "(I)I" } : Jvm.MethodName)) ∈ vwWS := List.mem_of_getElem? (i := 340) rfl
set_option maxRecDepth 100000 in
theorem kw_341 : (Jvm.Cond.instanceMethod ({ cls := "SpaceBasis$Space", name := "standardOfDegree", desc := "(I)I" } : Jvm.MethodName)) ∈ vwWS := List.mem_of_getElem? (i := 341) rfl
set_option maxRecDepth 100000 in
theorem kw_342 : (Jvm.Cond.selects "SpaceBasis$Space" ({ cls := "SpaceBasis$Space", name := "standardOfDegree", desc := "(I)I" } : Jvm.MethodName) ({ cls := "SpaceBasis$Space", name := "standardOfDegree", desc := "(I)I" } : Jvm.MethodName)) ∈ vwWS := List.mem_of_getElem? (i := 342) rfl
set_option maxRecDepth 100000 in
theorem kw_343 : (Jvm.Cond.code ({ cls := "SpaceBasis$Space", name := "standardOfDegree", desc := "(I)I" } : Jvm.MethodName) prog_8_method_11_code (4 : Nat) (Option.some Jvm.ClassFile.FieldType.int)) ∈ vwWS := List.mem_of_getElem? (i := 343) rfl
set_option maxRecDepth 100000 in
theorem kw_344 : (Jvm.Cond.methodLink "SpaceBasis$Space" (131 : Nat) ({ cls := "SpaceBasis$Space", name := "isLead", desc := "(I)Z" } : Jvm.MethodName)) ∈ vwWS := List.mem_of_getElem? (i := 344) rfl
set_option maxRecDepth 100000 in
theorem kw_345 : (Jvm.Cond.instanceMethod ({ cls := "SpaceBasis$Space", name := "isLead", desc := "(I)Z" } : Jvm.MethodName)) ∈ vwWS := List.mem_of_getElem? (i := 345) rfl
set_option maxRecDepth 100000 in
theorem kw_346 : (Jvm.Cond.selects "SpaceBasis$Space" ({ cls := "SpaceBasis$Space", name := "isLead", desc := "(I)Z" } : Jvm.MethodName) ({ cls := "SpaceBasis$Space", name := "isLead", desc := "(I)Z" } : Jvm.MethodName)) ∈ vwWS := List.mem_of_getElem? (i := 346) rfl
set_option maxRecDepth 100000 in
theorem kw_347 : (Jvm.Cond.code ({ cls := "SpaceBasis$Space", name := "isLead", desc := "(I)Z" } : Jvm.MethodName) prog_8_method_9_code (2 : Nat) (Option.some Jvm.ClassFile.FieldType.boolean)) ∈ vwWS := List.mem_of_getElem? (i := 347) rfl
set_option maxRecDepth 100000 in
theorem kw_348 : (Jvm.Cond.methodLink "SpaceBasisLaw" (86 : Nat) ({ cls := "SpaceBasis", name := "proved", desc := "()I" } : Jvm.MethodName)) ∈ vwWS := List.mem_of_getElem? (i := 348) rfl
set_option maxRecDepth 100000 in
theorem kw_349 : (Jvm.Cond.instanceMethod ({ cls := "SpaceBasis", name := "proved", desc := "()I" } : Jvm.MethodName)) ∈ vwWS := List.mem_of_getElem? (i := 349) rfl
set_option maxRecDepth 100000 in
theorem kw_350 : (Jvm.Cond.selects "SpaceBasis" ({ cls := "SpaceBasis", name := "proved", desc := "()I" } : Jvm.MethodName) ({ cls := "SpaceBasis", name := "proved", desc := "()I" } : Jvm.MethodName)) ∈ vwWS := List.mem_of_getElem? (i := 350) rfl
set_option maxRecDepth 100000 in
theorem kw_351 : (Jvm.Cond.code ({ cls := "SpaceBasis", name := "proved", desc := "()I" } : Jvm.MethodName) prog_1_method_13_code (1 : Nat) (Option.some Jvm.ClassFile.FieldType.int)) ∈ vwWS := List.mem_of_getElem? (i := 351) rfl
set_option maxRecDepth 100000 in
theorem kw_352 : (Jvm.Cond.methodLink "SpaceBasisLaw" (37 : Nat) ({ cls := "SpaceBasisLaw", name := "field", desc := "(LSpaceBasis;III)I" } : Jvm.MethodName)) ∈ vwWS := List.mem_of_getElem? (i := 352) rfl
set_option maxRecDepth 100000 in
theorem kw_353 : (Jvm.Cond.static ({ cls := "SpaceBasisLaw", name := "field", desc := "(LSpaceBasis;III)I" } : Jvm.MethodName)) ∈ vwWS := List.mem_of_getElem? (i := 353) rfl
set_option maxRecDepth 100000 in
theorem kw_354 : (Jvm.Cond.codeWith ({ cls := "SpaceBasisLaw", name := "field", desc := "(LSpaceBasis;III)I" } : Jvm.MethodName) method_3_code (5 : Nat) (Option.some Jvm.ClassFile.FieldType.int) [((0 : Nat), (7 : Nat), (10 : Nat), (13 : Nat))]) ∈ vwWS := List.mem_of_getElem? (i := 354) rfl
set_option maxRecDepth 100000 in
theorem kw_355 : (Jvm.Cond.classLink "SpaceBasisLaw" (13 : Nat) "java/lang/IllegalArgumentException") ∈ vwWS := List.mem_of_getElem? (i := 355) rfl
set_option maxRecDepth 100000 in
theorem kw_356 : (Jvm.Cond.methodLink "SpaceBasisLaw" (7 : Nat) ({ cls := "SpaceBasis", name := "field", desc := "(III)V" } : Jvm.MethodName)) ∈ vwWS := List.mem_of_getElem? (i := 356) rfl
set_option maxRecDepth 100000 in
theorem kw_357 : (Jvm.Cond.instanceMethod ({ cls := "SpaceBasis", name := "field", desc := "(III)V" } : Jvm.MethodName)) ∈ vwWS := List.mem_of_getElem? (i := 357) rfl
set_option maxRecDepth 100000 in
theorem kw_358 : (Jvm.Cond.selects "SpaceBasis" ({ cls := "SpaceBasis", name := "field", desc := "(III)V" } : Jvm.MethodName) ({ cls := "SpaceBasis", name := "field", desc := "(III)V" } : Jvm.MethodName)) ∈ vwWS := List.mem_of_getElem? (i := 358) rfl
set_option maxRecDepth 100000 in
theorem kw_359 : (Jvm.Cond.code ({ cls := "SpaceBasis", name := "field", desc := "(III)V" } : Jvm.MethodName) prog_1_method_2_code (4 : Nat) (Option.none : Option Jvm.ClassFile.FieldType)) ∈ vwWS := List.mem_of_getElem? (i := 359) rfl
set_option maxRecDepth 100000 in
theorem kw_360 : (Jvm.Cond.methodLink "SpaceBasis" (72 : Nat) ({ cls := "SpaceBasis$Modulus", name := "isPrime", desc := "(I)Z" } : Jvm.MethodName)) ∈ vwWS := List.mem_of_getElem? (i := 360) rfl
set_option maxRecDepth 100000 in
theorem kw_361 : (Jvm.Cond.static ({ cls := "SpaceBasis$Modulus", name := "isPrime", desc := "(I)Z" } : Jvm.MethodName)) ∈ vwWS := List.mem_of_getElem? (i := 361) rfl
set_option maxRecDepth 100000 in
theorem kw_362 : (Jvm.Cond.code ({ cls := "SpaceBasis$Modulus", name := "isPrime", desc := "(I)Z" } : Jvm.MethodName) prog_4_method_2_code (2 : Nat) (Option.some Jvm.ClassFile.FieldType.boolean)) ∈ vwWS := List.mem_of_getElem? (i := 362) rfl
set_option maxRecDepth 100000 in
theorem kw_363 : (Jvm.Cond.classLink "SpaceBasis" (76 : Nat) "java/lang/IllegalArgumentException") ∈ vwWS := List.mem_of_getElem? (i := 363) rfl
set_option maxRecDepth 100000 in
theorem kw_364 : (Jvm.Cond.instantiable "java/lang/IllegalArgumentException" (6 : Nat)) ∈ vwWS := List.mem_of_getElem? (i := 364) rfl
set_option maxRecDepth 100000 in
theorem kw_365 : (Jvm.Cond.selects "java/lang/IllegalArgumentException" ({ cls := "java/lang/Throwable", name := "fillInStackTrace", desc := "(I)Ljava/lang/Throwable;" } : Jvm.MethodName) ({ cls := "java/lang/Throwable", name := "fillInStackTrace", desc := "(I)Ljava/lang/Throwable;" } : Jvm.MethodName)) ∈ vwWS := List.mem_of_getElem? (i := 365) rfl
set_option maxRecDepth 100000 in
theorem kw_366 : (Jvm.Cond.selects "java/lang/IllegalArgumentException" ({ cls := "java/lang/Throwable", name := "fillInStackTrace", desc := "()Ljava/lang/Throwable;" } : Jvm.MethodName) ({ cls := "java/lang/Throwable", name := "fillInStackTrace", desc := "()Ljava/lang/Throwable;" } : Jvm.MethodName)) ∈ vwWS := List.mem_of_getElem? (i := 366) rfl
set_option maxRecDepth 100000 in
theorem kw_367 : (Jvm.Cond.lays "java/lang/IllegalArgumentException" "java/lang/Throwable" "cause" "Ljava/lang/Throwable;") ∈ vwWS := List.mem_of_getElem? (i := 367) rfl
set_option maxRecDepth 100000 in
theorem kw_368 : (Jvm.Cond.lays "java/lang/Throwable" "java/lang/Throwable" "cause" "Ljava/lang/Throwable;") ∈ vwWS := List.mem_of_getElem? (i := 368) rfl
set_option maxRecDepth 100000 in
theorem kw_369 : (Jvm.Cond.lays "java/lang/IllegalArgumentException" "java/lang/Throwable" "stackTrace" "[Ljava/lang/StackTraceElement;") ∈ vwWS := List.mem_of_getElem? (i := 369) rfl
set_option maxRecDepth 100000 in
theorem kw_370 : (Jvm.Cond.lays "java/lang/Throwable" "java/lang/Throwable" "stackTrace" "[Ljava/lang/StackTraceElement;") ∈ vwWS := List.mem_of_getElem? (i := 370) rfl
set_option maxRecDepth 100000 in
theorem kw_371 : (Jvm.Cond.lays "java/lang/IllegalArgumentException" "java/lang/Throwable" "suppressedExceptions" "Ljava/util/List;") ∈ vwWS := List.mem_of_getElem? (i := 371) rfl
set_option maxRecDepth 100000 in
theorem kw_372 : (Jvm.Cond.lays "java/lang/Throwable" "java/lang/Throwable" "suppressedExceptions" "Ljava/util/List;") ∈ vwWS := List.mem_of_getElem? (i := 372) rfl
set_option maxRecDepth 100000 in
theorem kw_373 : (Jvm.Cond.lays "java/lang/IllegalArgumentException" "java/lang/Throwable" "detailMessage" "Ljava/lang/String;") ∈ vwWS := List.mem_of_getElem? (i := 373) rfl
set_option maxRecDepth 100000 in
theorem kw_374 : (Jvm.Cond.lays "java/lang/Throwable" "java/lang/Throwable" "detailMessage" "Ljava/lang/String;") ∈ vwWS := List.mem_of_getElem? (i := 374) rfl
set_option maxRecDepth 100000 in
theorem kw_375 : (Jvm.Cond.lays "java/lang/IllegalArgumentException" "java/lang/Throwable" "backtrace" "Ljava/lang/Object;") ∈ vwWS := List.mem_of_getElem? (i := 375) rfl
set_option maxRecDepth 100000 in
theorem kw_376 : (Jvm.Cond.lays "java/lang/Throwable" "java/lang/Throwable" "backtrace" "Ljava/lang/Object;") ∈ vwWS := List.mem_of_getElem? (i := 376) rfl
set_option maxRecDepth 100000 in
theorem kw_377 : (Jvm.Cond.fieldLink "java/lang/Throwable" (198 : Nat) "java/lang/Throwable" "backtrace" "Ljava/lang/Object;") ∈ vwWS := List.mem_of_getElem? (i := 377) rfl
set_option maxRecDepth 100000 in
theorem kw_378 : (Jvm.Cond.superclass "java/lang/Throwable" "java/lang/Object") ∈ vwWS := List.mem_of_getElem? (i := 378) rfl
set_option maxRecDepth 100000 in
theorem kw_379 : (Jvm.Cond.instanceMethod ({ cls := "java/lang/Throwable", name := "<init>", desc := "()V" } : Jvm.MethodName)) ∈ vwWS := List.mem_of_getElem? (i := 379) rfl
set_option maxRecDepth 100000 in
theorem kw_380 : (Jvm.Cond.code ({ cls := "java/lang/Throwable", name := "<init>", desc := "()V" } : Jvm.MethodName) prog_19_method_1_code (1 : Nat) (Option.none : Option Jvm.ClassFile.FieldType)) ∈ vwWS := List.mem_of_getElem? (i := 380) rfl
set_option maxRecDepth 100000 in
theorem kw_381 : (Jvm.Cond.methodLink "java/lang/Throwable" (1 : Nat) ({ cls := "java/lang/Object", name := "<init>", desc := "()V" } : Jvm.MethodName)) ∈ vwWS := List.mem_of_getElem? (i := 381) rfl
set_option maxRecDepth 100000 in
theorem kw_382 : (Jvm.Cond.fieldLink "java/lang/Throwable" (13 : Nat) "java/lang/Throwable" "UNASSIGNED_STACK" "[Ljava/lang/StackTraceElement;") ∈ vwWS := List.mem_of_getElem? (i := 382) rfl
set_option maxRecDepth 100000 in
theorem kw_383 : (Jvm.Cond.fieldLink "java/lang/Throwable" (20 : Nat) "java/lang/Throwable" "SUPPRESSED_SENTINEL" "Ljava/util/List;") ∈ vwWS := List.mem_of_getElem? (i := 383) rfl
set_option maxRecDepth 100000 in
theorem kw_384 : (Jvm.Cond.methodLink "java/lang/Throwable" (27 : Nat) ({ cls := "java/lang/Throwable", name := "fillInStackTrace", desc := "()Ljava/lang/Throwable;" } : Jvm.MethodName)) ∈ vwWS := List.mem_of_getElem? (i := 384) rfl
set_option maxRecDepth 100000 in
theorem kw_385 : (Jvm.Cond.instanceMethod ({ cls := "java/lang/Throwable", name := "fillInStackTrace", desc := "()Ljava/lang/Throwable;" } : Jvm.MethodName)) ∈ vwWS := List.mem_of_getElem? (i := 385) rfl
set_option maxRecDepth 100000 in
theorem kw_386 : (Jvm.Cond.sameMethod "java/lang/Throwable" "java/lang/Throwable" "fillInStackTrace" "()Ljava/lang/Throwable;") ∈ vwWS := List.mem_of_getElem? (i := 386) rfl
set_option maxRecDepth 100000 in
theorem kw_387 : (Jvm.Cond.selects "java/lang/IllegalStateException" ({ cls := "java/lang/Throwable", name := "fillInStackTrace", desc := "()Ljava/lang/Throwable;" } : Jvm.MethodName) ({ cls := "java/lang/Throwable", name := "fillInStackTrace", desc := "()Ljava/lang/Throwable;" } : Jvm.MethodName)) ∈ vwWS := List.mem_of_getElem? (i := 387) rfl
set_option maxRecDepth 100000 in
theorem kw_388 : (Jvm.Cond.codeSync ({ cls := "java/lang/Throwable", name := "fillInStackTrace", desc := "()Ljava/lang/Throwable;" } : Jvm.MethodName) prog_19_method_18_code (1 : Nat) (Option.some (Jvm.ClassFile.FieldType.object "java/lang/Throwable"))) ∈ vwWS := List.mem_of_getElem? (i := 388) rfl
set_option maxRecDepth 100000 in
theorem kw_389 : (Jvm.Cond.methodLink "java/lang/Throwable" (202 : Nat) ({ cls := "java/lang/Throwable", name := "fillInStackTrace", desc := "(I)Ljava/lang/Throwable;" } : Jvm.MethodName)) ∈ vwWS := List.mem_of_getElem? (i := 389) rfl
set_option maxRecDepth 100000 in
theorem kw_390 : (Jvm.Cond.instanceMethod ({ cls := "java/lang/Throwable", name := "fillInStackTrace", desc := "(I)Ljava/lang/Throwable;" } : Jvm.MethodName)) ∈ vwWS := List.mem_of_getElem? (i := 390) rfl
set_option maxRecDepth 100000 in
theorem kw_391 : (Jvm.Cond.instantiable "java/lang/Throwable" (6 : Nat)) ∈ vwWS := List.mem_of_getElem? (i := 391) rfl
set_option maxRecDepth 100000 in
theorem kw_392 : (Jvm.Cond.native ({ cls := "java/lang/Throwable", name := "fillInStackTrace", desc := "(I)Ljava/lang/Throwable;" } : Jvm.MethodName)) ∈ vwWS := List.mem_of_getElem? (i := 392) rfl
set_option maxRecDepth 100000 in
theorem kw_393 : (Jvm.Cond.methodLink "SpaceBasis" (80 : Nat) ({ cls := "java/lang/IllegalArgumentException", name := "<init>", desc := "(Ljava/lang/String;)V" } : Jvm.MethodName)) ∈ vwWS := List.mem_of_getElem? (i := 393) rfl
set_option maxRecDepth 100000 in
theorem kw_394 : (Jvm.Cond.instanceMethod ({ cls := "java/lang/IllegalArgumentException", name := "<init>", desc := "(Ljava/lang/String;)V" } : Jvm.MethodName)) ∈ vwWS := List.mem_of_getElem? (i := 394) rfl
set_option maxRecDepth 100000 in
theorem kw_395 : (Jvm.Cond.code ({ cls := "java/lang/IllegalArgumentException", name := "<init>", desc := "(Ljava/lang/String;)V" } : Jvm.MethodName) prog_12_method_2_code (2 : Nat) (Option.none : Option Jvm.ClassFile.FieldType)) ∈ vwWS := List.mem_of_getElem? (i := 395) rfl
set_option maxRecDepth 100000 in
theorem kw_396 : (Jvm.Cond.methodLink "java/lang/IllegalArgumentException" (7 : Nat) ({ cls := "java/lang/RuntimeException", name := "<init>", desc := "(Ljava/lang/String;)V" } : Jvm.MethodName)) ∈ vwWS := List.mem_of_getElem? (i := 396) rfl
set_option maxRecDepth 100000 in
theorem kw_397 : (Jvm.Cond.instanceMethod ({ cls := "java/lang/RuntimeException", name := "<init>", desc := "(Ljava/lang/String;)V" } : Jvm.MethodName)) ∈ vwWS := List.mem_of_getElem? (i := 397) rfl
set_option maxRecDepth 100000 in
theorem kw_398 : (Jvm.Cond.code ({ cls := "java/lang/RuntimeException", name := "<init>", desc := "(Ljava/lang/String;)V" } : Jvm.MethodName) prog_16_method_2_code (2 : Nat) (Option.none : Option Jvm.ClassFile.FieldType)) ∈ vwWS := List.mem_of_getElem? (i := 398) rfl
set_option maxRecDepth 100000 in
theorem kw_399 : (Jvm.Cond.methodLink "java/lang/RuntimeException" (7 : Nat) ({ cls := "java/lang/Exception", name := "<init>", desc := "(Ljava/lang/String;)V" } : Jvm.MethodName)) ∈ vwWS := List.mem_of_getElem? (i := 399) rfl
set_option maxRecDepth 100000 in
theorem kw_400 : (Jvm.Cond.instanceMethod ({ cls := "java/lang/Exception", name := "<init>", desc := "(Ljava/lang/String;)V" } : Jvm.MethodName)) ∈ vwWS := List.mem_of_getElem? (i := 400) rfl
set_option maxRecDepth 100000 in
theorem kw_401 : (Jvm.Cond.code ({ cls := "java/lang/Exception", name := "<init>", desc := "(Ljava/lang/String;)V" } : Jvm.MethodName) prog_11_method_2_code (2 : Nat) (Option.none : Option Jvm.ClassFile.FieldType)) ∈ vwWS := List.mem_of_getElem? (i := 401) rfl
set_option maxRecDepth 100000 in
theorem kw_402 : (Jvm.Cond.methodLink "java/lang/Exception" (7 : Nat) ({ cls := "java/lang/Throwable", name := "<init>", desc := "(Ljava/lang/String;)V" } : Jvm.MethodName)) ∈ vwWS := List.mem_of_getElem? (i := 402) rfl
set_option maxRecDepth 100000 in
theorem kw_403 : (Jvm.Cond.instanceMethod ({ cls := "java/lang/Throwable", name := "<init>", desc := "(Ljava/lang/String;)V" } : Jvm.MethodName)) ∈ vwWS := List.mem_of_getElem? (i := 403) rfl
set_option maxRecDepth 100000 in
theorem kw_404 : (Jvm.Cond.code ({ cls := "java/lang/Throwable", name := "<init>", desc := "(Ljava/lang/String;)V" } : Jvm.MethodName) prog_19_method_2_code (2 : Nat) (Option.none : Option Jvm.ClassFile.FieldType)) ∈ vwWS := List.mem_of_getElem? (i := 404) rfl
set_option maxRecDepth 100000 in
theorem kw_405 : (Jvm.Cond.fieldLink "java/lang/Throwable" (198 : Nat) "java/lang/Throwable" "backtrace" "Ljava/lang/Object;") ∈ vwWS := List.mem_of_getElem? (i := 405) rfl
set_option maxRecDepth 100000 in
theorem kw_406 : (Jvm.Cond.fieldLink "java/lang/Throwable" (31 : Nat) "java/lang/Throwable" "detailMessage" "Ljava/lang/String;") ∈ vwWS := List.mem_of_getElem? (i := 406) rfl
set_option maxRecDepth 100000 in
theorem kw_407 : (Jvm.Cond.fieldLink "java/lang/Throwable" (7 : Nat) "java/lang/Throwable" "cause" "Ljava/lang/Throwable;") ∈ vwWS := List.mem_of_getElem? (i := 407) rfl
set_option maxRecDepth 100000 in
theorem kw_408 : (Jvm.Cond.fieldLink "java/lang/Throwable" (17 : Nat) "java/lang/Throwable" "stackTrace" "[Ljava/lang/StackTraceElement;") ∈ vwWS := List.mem_of_getElem? (i := 408) rfl
set_option maxRecDepth 100000 in
theorem kw_409 : (Jvm.Cond.fieldLink "java/lang/Throwable" (24 : Nat) "java/lang/Throwable" "suppressedExceptions" "Ljava/util/List;") ∈ vwWS := List.mem_of_getElem? (i := 409) rfl
set_option maxRecDepth 100000 in
theorem kw_410 : (Jvm.Cond.soleField "java/lang/Throwable" "backtrace") ∈ vwWS := List.mem_of_getElem? (i := 410) rfl
set_option maxRecDepth 100000 in
theorem kw_411 : (Jvm.Cond.soleField "java/lang/Throwable" "detailMessage") ∈ vwWS := List.mem_of_getElem? (i := 411) rfl
set_option maxRecDepth 100000 in
theorem kw_412 : (Jvm.Cond.soleField "java/lang/Throwable" "cause") ∈ vwWS := List.mem_of_getElem? (i := 412) rfl
set_option maxRecDepth 100000 in
theorem kw_413 : (Jvm.Cond.soleField "java/lang/Throwable" "stackTrace") ∈ vwWS := List.mem_of_getElem? (i := 413) rfl
set_option maxRecDepth 100000 in
theorem kw_414 : (Jvm.Cond.lays "java/lang/IllegalArgumentException" "java/lang/Throwable" "depth" "I") ∈ vwWS := List.mem_of_getElem? (i := 414) rfl
set_option maxRecDepth 100000 in
theorem kw_415 : (Jvm.Cond.soleField "java/lang/Throwable" "depth") ∈ vwWS := List.mem_of_getElem? (i := 415) rfl
set_option maxRecDepth 100000 in
theorem kw_416 : (Jvm.Cond.soleField "java/lang/Throwable" "suppressedExceptions") ∈ vwWS := List.mem_of_getElem? (i := 416) rfl
set_option maxRecDepth 100000 in
theorem kw_417 : (Jvm.Cond.superclass "java/lang/IllegalArgumentException" "java/lang/RuntimeException") ∈ vwWS := List.mem_of_getElem? (i := 417) rfl
set_option maxRecDepth 100000 in
theorem kw_418 : (Jvm.Cond.arrayClass Jvm.ClassFile.FieldType.byte) ∈ vwWS := List.mem_of_getElem? (i := 418) rfl
set_option maxRecDepth 100000 in
theorem kw_419 : (Jvm.Cond.methodLink "SpaceBasisLaw" (46 : Nat) ({ cls := "SpaceBasisLaw", name := "coefficient", desc := "(LSpaceBasis;II)I" } : Jvm.MethodName)) ∈ vwWS := List.mem_of_getElem? (i := 419) rfl
set_option maxRecDepth 100000 in
theorem kw_420 : (Jvm.Cond.static ({ cls := "SpaceBasisLaw", name := "coefficient", desc := "(LSpaceBasis;II)I" } : Jvm.MethodName)) ∈ vwWS := List.mem_of_getElem? (i := 420) rfl
set_option maxRecDepth 100000 in
theorem kw_421 : (Jvm.Cond.codeWith ({ cls := "SpaceBasisLaw", name := "coefficient", desc := "(LSpaceBasis;II)I" } : Jvm.MethodName) method_4_code (4 : Nat) (Option.some Jvm.ClassFile.FieldType.int) [((0 : Nat), (6 : Nat), (9 : Nat), (13 : Nat))]) ∈ vwWS := List.mem_of_getElem? (i := 421) rfl
set_option maxRecDepth 100000 in
theorem kw_422 : (Jvm.Cond.methodLink "SpaceBasisLaw" (15 : Nat) ({ cls := "SpaceBasis", name := "coefficient", desc := "(II)V" } : Jvm.MethodName)) ∈ vwWS := List.mem_of_getElem? (i := 422) rfl
set_option maxRecDepth 100000 in
theorem kw_423 : (Jvm.Cond.instanceMethod ({ cls := "SpaceBasis", name := "coefficient", desc := "(II)V" } : Jvm.MethodName)) ∈ vwWS := List.mem_of_getElem? (i := 423) rfl
set_option maxRecDepth 100000 in
theorem kw_424 : (Jvm.Cond.selects "SpaceBasis" ({ cls := "SpaceBasis", name := "coefficient", desc := "(II)V" } : Jvm.MethodName) ({ cls := "SpaceBasis", name := "coefficient", desc := "(II)V" } : Jvm.MethodName)) ∈ vwWS := List.mem_of_getElem? (i := 424) rfl
set_option maxRecDepth 100000 in
theorem kw_425 : (Jvm.Cond.code ({ cls := "SpaceBasis", name := "coefficient", desc := "(II)V" } : Jvm.MethodName) prog_1_method_3_code (4 : Nat) (Option.none : Option Jvm.ClassFile.FieldType)) ∈ vwWS := List.mem_of_getElem? (i := 425) rfl
set_option maxRecDepth 100000 in
theorem kw_426 : (Jvm.Cond.methodLink "SpaceBasis" (93 : Nat) ({ cls := "SpaceBasis$Modulus", name := "within", desc := "(I)I" } : Jvm.MethodName)) ∈ vwWS := List.mem_of_getElem? (i := 426) rfl
set_option maxRecDepth 100000 in
theorem kw_427 : (Jvm.Cond.instanceMethod ({ cls := "SpaceBasis$Modulus", name := "within", desc := "(I)I" } : Jvm.MethodName)) ∈ vwWS := List.mem_of_getElem? (i := 427) rfl
set_option maxRecDepth 100000 in
theorem kw_428 : (Jvm.Cond.selects "SpaceBasis$Modulus" ({ cls := "SpaceBasis$Modulus", name := "within", desc := "(I)I" } : Jvm.MethodName) ({ cls := "SpaceBasis$Modulus", name := "within", desc := "(I)I" } : Jvm.MethodName)) ∈ vwWS := List.mem_of_getElem? (i := 428) rfl
set_option maxRecDepth 100000 in
theorem kw_429 : (Jvm.Cond.code ({ cls := "SpaceBasis$Modulus", name := "within", desc := "(I)I" } : Jvm.MethodName) prog_4_method_3_code (2 : Nat) (Option.some Jvm.ClassFile.FieldType.int)) ∈ vwWS := List.mem_of_getElem? (i := 429) rfl
set_option maxRecDepth 100000 in
theorem kw_430 : (Jvm.Cond.methodLink "SpaceBasis$Modulus" (15 : Nat) ({ cls := "java/lang/Math", name := "floorMod", desc := "(II)I" } : Jvm.MethodName)) ∈ vwWS := List.mem_of_getElem? (i := 430) rfl
set_option maxRecDepth 100000 in
theorem kw_431 : (Jvm.Cond.static ({ cls := "java/lang/Math", name := "floorMod", desc := "(II)I" } : Jvm.MethodName)) ∈ vwWS := List.mem_of_getElem? (i := 431) rfl
set_option maxRecDepth 100000 in
theorem kw_432 : (Jvm.Cond.code ({ cls := "java/lang/Math", name := "floorMod", desc := "(II)I" } : Jvm.MethodName) prog_15_method_50_code (3 : Nat) (Option.some Jvm.ClassFile.FieldType.int)) ∈ vwWS := List.mem_of_getElem? (i := 432) rfl
set_option maxRecDepth 100000 in
theorem kw_433 : (Jvm.Cond.methodLink "SpaceBasisLaw" (54 : Nat) ({ cls := "SpaceBasisLaw", name := "join", desc := "(LSpaceBasis;[J)I" } : Jvm.MethodName)) ∈ vwWS := List.mem_of_getElem? (i := 433) rfl
set_option maxRecDepth 100000 in
theorem kw_434 : (Jvm.Cond.static ({ cls := "SpaceBasisLaw", name := "join", desc := "(LSpaceBasis;[J)I" } : Jvm.MethodName)) ∈ vwWS := List.mem_of_getElem? (i := 434) rfl
set_option maxRecDepth 100000 in
theorem kw_435 : (Jvm.Cond.codeWith ({ cls := "SpaceBasisLaw", name := "join", desc := "(LSpaceBasis;[J)I" } : Jvm.MethodName) method_5_code (3 : Nat) (Option.some Jvm.ClassFile.FieldType.int) [((0 : Nat), (8 : Nat), (11 : Nat), (13 : Nat)), ((0 : Nat), (8 : Nat), (14 : Nat), (23 : Nat))]) ∈ vwWS := List.mem_of_getElem? (i := 435) rfl
set_option maxRecDepth 100000 in
theorem kw_436 : (Jvm.Cond.classLink "SpaceBasisLaw" (23 : Nat) "java/lang/IllegalStateException") ∈ vwWS := List.mem_of_getElem? (i := 436) rfl
set_option maxRecDepth 100000 in
theorem kw_437 : (Jvm.Cond.methodLink "SpaceBasisLaw" (19 : Nat) ({ cls := "SpaceBasis", name := "join", desc := "()I" } : Jvm.MethodName)) ∈ vwWS := List.mem_of_getElem? (i := 437) rfl
set_option maxRecDepth 100000 in
theorem kw_438 : (Jvm.Cond.instanceMethod ({ cls := "SpaceBasis", name := "join", desc := "()I" } : Jvm.MethodName)) ∈ vwWS := List.mem_of_getElem? (i := 438) rfl
set_option maxRecDepth 100000 in
theorem kw_439 : (Jvm.Cond.selects "SpaceBasis" ({ cls := "SpaceBasis", name := "join", desc := "()I" } : Jvm.MethodName) ({ cls := "SpaceBasis", name := "join", desc := "()I" } : Jvm.MethodName)) ∈ vwWS := List.mem_of_getElem? (i := 439) rfl
set_option maxRecDepth 100000 in
theorem kw_440 : (Jvm.Cond.code ({ cls := "SpaceBasis", name := "join", desc := "()I" } : Jvm.MethodName) prog_1_method_5_code (2 : Nat) (Option.some Jvm.ClassFile.FieldType.int)) ∈ vwWS := List.mem_of_getElem? (i := 440) rfl
set_option maxRecDepth 100000 in
theorem kw_441 : (Jvm.Cond.methodLink "SpaceBasis" (99 : Nat) ({ cls := "SpaceBasis", name := "topOf", desc := "([II)I" } : Jvm.MethodName)) ∈ vwWS := List.mem_of_getElem? (i := 441) rfl
set_option maxRecDepth 100000 in
theorem kw_442 : (Jvm.Cond.static ({ cls := "SpaceBasis", name := "topOf", desc := "([II)I" } : Jvm.MethodName)) ∈ vwWS := List.mem_of_getElem? (i := 442) rfl
set_option maxRecDepth 100000 in
theorem kw_443 : (Jvm.Cond.code ({ cls := "SpaceBasis", name := "topOf", desc := "([II)I" } : Jvm.MethodName) prog_1_method_18_code (3 : Nat) (Option.some Jvm.ClassFile.FieldType.int)) ∈ vwWS := List.mem_of_getElem? (i := 443) rfl
set_option maxRecDepth 100000 in
theorem kw_444 : (Jvm.Cond.methodLink "SpaceBasis" (203 : Nat) ({ cls := "java/lang/Math", name := "min", desc := "(II)I" } : Jvm.MethodName)) ∈ vwWS := List.mem_of_getElem? (i := 444) rfl
set_option maxRecDepth 100000 in
theorem kw_445 : (Jvm.Cond.static ({ cls := "java/lang/Math", name := "min", desc := "(II)I" } : Jvm.MethodName)) ∈ vwWS := List.mem_of_getElem? (i := 445) rfl
set_option maxRecDepth 100000 in
theorem kw_446 : (Jvm.Cond.code ({ cls := "java/lang/Math", name := "min", desc := "(II)I" } : Jvm.MethodName) prog_15_method_69_code (2 : Nat) (Option.some Jvm.ClassFile.FieldType.int)) ∈ vwWS := List.mem_of_getElem? (i := 446) rfl
set_option maxRecDepth 100000 in
theorem kw_447 : (Jvm.Cond.classLink "SpaceBasis" (106 : Nat) "java/lang/IllegalStateException") ∈ vwWS := List.mem_of_getElem? (i := 447) rfl
set_option maxRecDepth 100000 in
theorem kw_448 : (Jvm.Cond.instantiable "java/lang/IllegalStateException" (6 : Nat)) ∈ vwWS := List.mem_of_getElem? (i := 448) rfl
set_option maxRecDepth 100000 in
theorem kw_449 : (Jvm.Cond.selects "java/lang/IllegalStateException" ({ cls := "java/lang/Throwable", name := "fillInStackTrace", desc := "(I)Ljava/lang/Throwable;" } : Jvm.MethodName) ({ cls := "java/lang/Throwable", name := "fillInStackTrace", desc := "(I)Ljava/lang/Throwable;" } : Jvm.MethodName)) ∈ vwWS := List.mem_of_getElem? (i := 449) rfl
set_option maxRecDepth 100000 in
theorem kw_450 : (Jvm.Cond.lays "java/lang/IllegalStateException" "java/lang/Throwable" "cause" "Ljava/lang/Throwable;") ∈ vwWS := List.mem_of_getElem? (i := 450) rfl
set_option maxRecDepth 100000 in
theorem kw_451 : (Jvm.Cond.lays "java/lang/IllegalStateException" "java/lang/Throwable" "stackTrace" "[Ljava/lang/StackTraceElement;") ∈ vwWS := List.mem_of_getElem? (i := 451) rfl
set_option maxRecDepth 100000 in
theorem kw_452 : (Jvm.Cond.lays "java/lang/IllegalStateException" "java/lang/Throwable" "suppressedExceptions" "Ljava/util/List;") ∈ vwWS := List.mem_of_getElem? (i := 452) rfl
set_option maxRecDepth 100000 in
theorem kw_453 : (Jvm.Cond.lays "java/lang/IllegalStateException" "java/lang/Throwable" "detailMessage" "Ljava/lang/String;") ∈ vwWS := List.mem_of_getElem? (i := 453) rfl
set_option maxRecDepth 100000 in
theorem kw_454 : (Jvm.Cond.lays "java/lang/IllegalStateException" "java/lang/Throwable" "backtrace" "Ljava/lang/Object;") ∈ vwWS := List.mem_of_getElem? (i := 454) rfl
set_option maxRecDepth 100000 in
theorem kw_455 : (Jvm.Cond.methodLink "SpaceBasis" (110 : Nat) ({ cls := "java/lang/IllegalStateException", name := "<init>", desc := "(Ljava/lang/String;)V" } : Jvm.MethodName)) ∈ vwWS := List.mem_of_getElem? (i := 455) rfl
set_option maxRecDepth 100000 in
theorem kw_456 : (Jvm.Cond.instanceMethod ({ cls := "java/lang/IllegalStateException", name := "<init>", desc := "(Ljava/lang/String;)V" } : Jvm.MethodName)) ∈ vwWS := List.mem_of_getElem? (i := 456) rfl
set_option maxRecDepth 100000 in
theorem kw_457 : (Jvm.Cond.code ({ cls := "java/lang/IllegalStateException", name := "<init>", desc := "(Ljava/lang/String;)V" } : Jvm.MethodName) prog_13_method_2_code (2 : Nat) (Option.none : Option Jvm.ClassFile.FieldType)) ∈ vwWS := List.mem_of_getElem? (i := 457) rfl
set_option maxRecDepth 100000 in
theorem kw_458 : (Jvm.Cond.methodLink "java/lang/IllegalStateException" (7 : Nat) ({ cls := "java/lang/RuntimeException", name := "<init>", desc := "(Ljava/lang/String;)V" } : Jvm.MethodName)) ∈ vwWS := List.mem_of_getElem? (i := 458) rfl
set_option maxRecDepth 100000 in
theorem kw_459 : (Jvm.Cond.lays "java/lang/IllegalStateException" "java/lang/Throwable" "depth" "I") ∈ vwWS := List.mem_of_getElem? (i := 459) rfl
set_option maxRecDepth 100000 in
theorem kw_460 : (Jvm.Cond.superclass "java/lang/IllegalStateException" "java/lang/RuntimeException") ∈ vwWS := List.mem_of_getElem? (i := 460) rfl
set_option maxRecDepth 100000 in
theorem kw_461 : (Jvm.Cond.methodLink "SpaceBasis" (111 : Nat) ({ cls := "SpaceBasis$Generators", name := "add", desc := "([II)V" } : Jvm.MethodName)) ∈ vwWS := List.mem_of_getElem? (i := 461) rfl
set_option maxRecDepth 100000 in
theorem kw_462 : (Jvm.Cond.instanceMethod ({ cls := "SpaceBasis$Generators", name := "add", desc := "([II)V" } : Jvm.MethodName)) ∈ vwWS := List.mem_of_getElem? (i := 462) rfl
set_option maxRecDepth 100000 in
theorem kw_463 : (Jvm.Cond.selects "SpaceBasis$Generators" ({ cls := "SpaceBasis$Generators", name := "add", desc := "([II)V" } : Jvm.MethodName) ({ cls := "SpaceBasis$Generators", name := "add", desc := "([II)V" } : Jvm.MethodName)) ∈ vwWS := List.mem_of_getElem? (i := 463) rfl
set_option maxRecDepth 100000 in
theorem kw_464 : (Jvm.Cond.code ({ cls := "SpaceBasis$Generators", name := "add", desc := "([II)V" } : Jvm.MethodName) prog_2_method_2_code (3 : Nat) (Option.none : Option Jvm.ClassFile.FieldType)) ∈ vwWS := List.mem_of_getElem? (i := 464) rfl
set_option maxRecDepth 100000 in
theorem kw_465 : (Jvm.Cond.methodLink "SpaceBasis$Generators" (24 : Nat) ({ cls := "java/lang/System", name := "arraycopy", desc := "(Ljava/lang/Object;ILjava/lang/Object;II)V" } : Jvm.MethodName)) ∈ vwWS := List.mem_of_getElem? (i := 465) rfl
set_option maxRecDepth 100000 in
theorem kw_466 : (Jvm.Cond.static ({ cls := "java/lang/System", name := "arraycopy", desc := "(Ljava/lang/Object;ILjava/lang/Object;II)V" } : Jvm.MethodName)) ∈ vwWS := List.mem_of_getElem? (i := 466) rfl
set_option maxRecDepth 100000 in
theorem kw_467 : (Jvm.Cond.native ({ cls := "java/lang/System", name := "arraycopy", desc := "(Ljava/lang/Object;ILjava/lang/Object;II)V" } : Jvm.MethodName)) ∈ vwWS := List.mem_of_getElem? (i := 467) rfl
set_option maxRecDepth 100000 in
theorem kw_468 : (Jvm.Cond.methodLink "SpaceBasisLaw" (62 : Nat) ({ cls := "SpaceBasisLaw", name := "basis", desc := "(LSpaceBasis;I[J)I" } : Jvm.MethodName)) ∈ vwWS := List.mem_of_getElem? (i := 468) rfl
set_option maxRecDepth 100000 in
theorem kw_469 : (Jvm.Cond.static ({ cls := "SpaceBasisLaw", name := "basis", desc := "(LSpaceBasis;I[J)I" } : Jvm.MethodName)) ∈ vwWS := List.mem_of_getElem? (i := 469) rfl
set_option maxRecDepth 100000 in
theorem kw_470 : (Jvm.Cond.codeWith ({ cls := "SpaceBasisLaw", name := "basis", desc := "(LSpaceBasis;I[J)I" } : Jvm.MethodName) method_6_code (4 : Nat) (Option.some Jvm.ClassFile.FieldType.int) [((0 : Nat), (9 : Nat), (12 : Nat), (13 : Nat))]) ∈ vwWS := List.mem_of_getElem? (i := 470) rfl
set_option maxRecDepth 100000 in
theorem kw_471 : (Jvm.Cond.methodLink "SpaceBasisLaw" (25 : Nat) ({ cls := "SpaceBasis", name := "basis", desc := "(I)I" } : Jvm.MethodName)) ∈ vwWS := List.mem_of_getElem? (i := 471) rfl
set_option maxRecDepth 100000 in
theorem kw_472 : (Jvm.Cond.instanceMethod ({ cls := "SpaceBasis", name := "basis", desc := "(I)I" } : Jvm.MethodName)) ∈ vwWS := List.mem_of_getElem? (i := 472) rfl
set_option maxRecDepth 100000 in
theorem kw_473 : (Jvm.Cond.selects "SpaceBasis" ({ cls := "SpaceBasis", name := "basis", desc := "(I)I" } : Jvm.MethodName) ({ cls := "SpaceBasis", name := "basis", desc := "(I)I" } : Jvm.MethodName)) ∈ vwWS := List.mem_of_getElem? (i := 473) rfl
set_option maxRecDepth 100000 in
theorem kw_474 : (Jvm.Cond.code ({ cls := "SpaceBasis", name := "basis", desc := "(I)I" } : Jvm.MethodName) prog_1_method_7_code (2 : Nat) (Option.some Jvm.ClassFile.FieldType.int)) ∈ vwWS := List.mem_of_getElem? (i := 474) rfl
set_option maxRecDepth 100000 in
theorem kw_475 : (Jvm.Cond.methodLink "SpaceBasis" (132 : Nat) ({ cls := "SpaceBasis$Space", name := "span", desc := "(ILSpaceBasis$Generators;)V" } : Jvm.MethodName)) ∈ vwWS := List.mem_of_getElem? (i := 475) rfl
set_option maxRecDepth 100000 in
theorem kw_476 : (Jvm.Cond.instanceMethod ({ cls := "SpaceBasis$Space", name := "span", desc := "(ILSpaceBasis$Generators;)V" } : Jvm.MethodName)) ∈ vwWS := List.mem_of_getElem? (i := 476) rfl
set_option maxRecDepth 100000 in
theorem kw_477 : (Jvm.Cond.selects "SpaceBasis$Space" ({ cls := "SpaceBasis$Space", name := "span", desc := "(ILSpaceBasis$Generators;)V" } : Jvm.MethodName) ({ cls := "SpaceBasis$Space", name := "span", desc := "(ILSpaceBasis$Generators;)V" } : Jvm.MethodName)) ∈ vwWS := List.mem_of_getElem? (i := 477) rfl
set_option maxRecDepth 100000 in
theorem kw_478 : (Jvm.Cond.code ({ cls := "SpaceBasis$Space", name := "span", desc := "(ILSpaceBasis$Generators;)V" } : Jvm.MethodName) prog_8_method_3_code (5 : Nat) (Option.none : Option Jvm.ClassFile.FieldType)) ∈ vwWS := List.mem_of_getElem? (i := 478) rfl
set_option maxRecDepth 100000 in
theorem kw_479 : (Jvm.Cond.methodLink "SpaceBasis$Space" (57 : Nat) ({ cls := "java/util/Arrays", name := "fill", desc := "([II)V" } : Jvm.MethodName)) ∈ vwWS := List.mem_of_getElem? (i := 479) rfl
set_option maxRecDepth 100000 in
theorem kw_480 : (Jvm.Cond.methodLink "SpaceBasis$Space" (73 : Nat) ({ cls := "java/lang/System", name := "arraycopy", desc := "(Ljava/lang/Object;ILjava/lang/Object;II)V" } : Jvm.MethodName)) ∈ vwWS := List.mem_of_getElem? (i := 480) rfl
set_option maxRecDepth 100000 in
theorem kw_481 : (Jvm.Cond.methodLink "SpaceBasis$Space" (79 : Nat) ({ cls := "SpaceBasis$Space", name := "takeIn", desc := "(III)V" } : Jvm.MethodName)) ∈ vwWS := List.mem_of_getElem? (i := 481) rfl
set_option maxRecDepth 100000 in
theorem kw_482 : (Jvm.Cond.instanceMethod ({ cls := "SpaceBasis$Space", name := "takeIn", desc := "(III)V" } : Jvm.MethodName)) ∈ vwWS := List.mem_of_getElem? (i := 482) rfl
set_option maxRecDepth 100000 in
theorem kw_483 : (Jvm.Cond.code ({ cls := "SpaceBasis$Space", name := "takeIn", desc := "(III)V" } : Jvm.MethodName) prog_8_method_5_code (9 : Nat) (Option.none : Option Jvm.ClassFile.FieldType)) ∈ vwWS := List.mem_of_getElem? (i := 483) rfl
set_option maxRecDepth 100000 in
theorem kw_484 : (Jvm.Cond.methodLink "SpaceBasis$Space" (97 : Nat) ({ cls := "SpaceBasis$Space", name := "reduce", desc := "([II)V" } : Jvm.MethodName)) ∈ vwWS := List.mem_of_getElem? (i := 484) rfl
set_option maxRecDepth 100000 in
theorem kw_485 : (Jvm.Cond.instanceMethod ({ cls := "SpaceBasis$Space", name := "reduce", desc := "([II)V" } : Jvm.MethodName)) ∈ vwWS := List.mem_of_getElem? (i := 485) rfl
set_option maxRecDepth 100000 in
theorem kw_486 : (Jvm.Cond.selects "SpaceBasis$Space" ({ cls := "SpaceBasis$Space", name := "reduce", desc := "([II)V" } : Jvm.MethodName) ({ cls := "SpaceBasis$Space", name := "reduce", desc := "([II)V" } : Jvm.MethodName)) ∈ vwWS := List.mem_of_getElem? (i := 486) rfl
set_option maxRecDepth 100000 in
theorem kw_487 : (Jvm.Cond.code ({ cls := "SpaceBasis$Space", name := "reduce", desc := "([II)V" } : Jvm.MethodName) prog_8_method_6_code (5 : Nat) (Option.none : Option Jvm.ClassFile.FieldType)) ∈ vwWS := List.mem_of_getElem? (i := 487) rfl
set_option maxRecDepth 100000 in
theorem kw_488 : (Jvm.Cond.methodLink "SpaceBasis$Space" (125 : Nat) ({ cls := "SpaceBasis$Modulus", name := "opposite", desc := "(I)I" } : Jvm.MethodName)) ∈ vwWS := List.mem_of_getElem? (i := 488) rfl
set_option maxRecDepth 100000 in
theorem kw_489 : (Jvm.Cond.instanceMethod ({ cls := "SpaceBasis$Modulus", name := "opposite", desc := "(I)I" } : Jvm.MethodName)) ∈ vwWS := List.mem_of_getElem? (i := 489) rfl
set_option maxRecDepth 100000 in
theorem kw_490 : (Jvm.Cond.selects "SpaceBasis$Modulus" ({ cls := "SpaceBasis$Modulus", name := "opposite", desc := "(I)I" } : Jvm.MethodName) ({ cls := "SpaceBasis$Modulus", name := "opposite", desc := "(I)I" } : Jvm.MethodName)) ∈ vwWS := List.mem_of_getElem? (i := 490) rfl
set_option maxRecDepth 100000 in
theorem kw_491 : (Jvm.Cond.code ({ cls := "SpaceBasis$Modulus", name := "opposite", desc := "(I)I" } : Jvm.MethodName) prog_4_method_4_code (2 : Nat) (Option.some Jvm.ClassFile.FieldType.int)) ∈ vwWS := List.mem_of_getElem? (i := 491) rfl
set_option maxRecDepth 100000 in
theorem kw_492 : (Jvm.Cond.methodLink "SpaceBasis$Space" (135 : Nat) ({ cls := "SpaceBasis$Space", name := "addRow", desc := "([III)V" } : Jvm.MethodName)) ∈ vwWS := List.mem_of_getElem? (i := 492) rfl
set_option maxRecDepth 100000 in
theorem kw_493 : (Jvm.Cond.instanceMethod ({ cls := "SpaceBasis$Space", name := "addRow", desc := "([III)V" } : Jvm.MethodName)) ∈ vwWS := List.mem_of_getElem? (i := 493) rfl
set_option maxRecDepth 100000 in
theorem kw_494 : (Jvm.Cond.selects "SpaceBasis$Space" ({ cls := "SpaceBasis$Space", name := "addRow", desc := "([III)V" } : Jvm.MethodName) ({ cls := "SpaceBasis$Space", name := "addRow", desc := "([III)V" } : Jvm.MethodName)) ∈ vwWS := List.mem_of_getElem? (i := 494) rfl
set_option maxRecDepth 100000 in
theorem kw_495 : (Jvm.Cond.code ({ cls := "SpaceBasis$Space", name := "addRow", desc := "([III)V" } : Jvm.MethodName) prog_8_method_7_code (9 : Nat) (Option.none : Option Jvm.ClassFile.FieldType)) ∈ vwWS := List.mem_of_getElem? (i := 495) rfl
set_option maxRecDepth 100000 in
theorem kw_496 : (Jvm.Cond.methodLink "SpaceBasis$Space" (104 : Nat) ({ cls := "SpaceBasis$Modulus", name := "inverse", desc := "(I)I" } : Jvm.MethodName)) ∈ vwWS := List.mem_of_getElem? (i := 496) rfl
set_option maxRecDepth 100000 in
theorem kw_497 : (Jvm.Cond.instanceMethod ({ cls := "SpaceBasis$Modulus", name := "inverse", desc := "(I)I" } : Jvm.MethodName)) ∈ vwWS := List.mem_of_getElem? (i := 497) rfl
set_option maxRecDepth 100000 in
theorem kw_498 : (Jvm.Cond.selects "SpaceBasis$Modulus" ({ cls := "SpaceBasis$Modulus", name := "inverse", desc := "(I)I" } : Jvm.MethodName) ({ cls := "SpaceBasis$Modulus", name := "inverse", desc := "(I)I" } : Jvm.MethodName)) ∈ vwWS := List.mem_of_getElem? (i := 498) rfl
set_option maxRecDepth 100000 in
theorem kw_499 : (Jvm.Cond.code ({ cls := "SpaceBasis$Modulus", name := "inverse", desc := "(I)I" } : Jvm.MethodName) prog_4_method_6_code (5 : Nat) (Option.some Jvm.ClassFile.FieldType.int)) ∈ vwWS := List.mem_of_getElem? (i := 499) rfl
set_option maxRecDepth 100000 in
theorem kw_500 : (Jvm.Cond.methodLink "SpaceBasis$Modulus" (21 : Nat) ({ cls := "SpaceBasis$Modulus", name := "product", desc := "(II)I" } : Jvm.MethodName)) ∈ vwWS := List.mem_of_getElem? (i := 500) rfl
set_option maxRecDepth 100000 in
theorem kw_501 : (Jvm.Cond.instanceMethod ({ cls := "SpaceBasis$Modulus", name := "product", desc := "(II)I" } : Jvm.MethodName)) ∈ vwWS := List.mem_of_getElem? (i := 501) rfl
set_option maxRecDepth 100000 in
theorem kw_502 : (Jvm.Cond.selects "SpaceBasis$Modulus" ({ cls := "SpaceBasis$Modulus", name := "product", desc := "(II)I" } : Jvm.MethodName) ({ cls := "SpaceBasis$Modulus", name := "product", desc := "(II)I" } : Jvm.MethodName)) ∈ vwWS := List.mem_of_getElem? (i := 502) rfl
set_option maxRecDepth 100000 in
theorem kw_503 : (Jvm.Cond.code ({ cls := "SpaceBasis$Modulus", name := "product", desc := "(II)I" } : Jvm.MethodName) prog_4_method_5_code (3 : Nat) (Option.some Jvm.ClassFile.FieldType.int)) ∈ vwWS := List.mem_of_getElem? (i := 503) rfl
set_option maxRecDepth 100000 in
theorem kw_504 : (Jvm.Cond.methodLink "SpaceBasis$Space" (113 : Nat) ({ cls := "SpaceBasis$Modulus", name := "product", desc := "(II)I" } : Jvm.MethodName)) ∈ vwWS := List.mem_of_getElem? (i := 504) rfl
set_option maxRecDepth 100000 in
theorem kw_505 : (Jvm.Cond.methodLink "SpaceBasis$Space" (128 : Nat) ({ cls := "SpaceBasis$Origins", name := "noteNumber", desc := "(III)V" } : Jvm.MethodName)) ∈ vwWS := List.mem_of_getElem? (i := 505) rfl
set_option maxRecDepth 100000 in
theorem kw_506 : (Jvm.Cond.instanceMethod ({ cls := "SpaceBasis$Origins", name := "noteNumber", desc := "(III)V" } : Jvm.MethodName)) ∈ vwWS := List.mem_of_getElem? (i := 506) rfl
set_option maxRecDepth 100000 in
theorem kw_507 : (Jvm.Cond.selects "SpaceBasis$Origins" ({ cls := "SpaceBasis$Origins", name := "noteNumber", desc := "(III)V" } : Jvm.MethodName) ({ cls := "SpaceBasis$Origins", name := "noteNumber", desc := "(III)V" } : Jvm.MethodName)) ∈ vwWS := List.mem_of_getElem? (i := 507) rfl
set_option maxRecDepth 100000 in
theorem kw_508 : (Jvm.Cond.code ({ cls := "SpaceBasis$Origins", name := "noteNumber", desc := "(III)V" } : Jvm.MethodName) prog_6_method_3_code (4 : Nat) (Option.none : Option Jvm.ClassFile.FieldType)) ∈ vwWS := List.mem_of_getElem? (i := 508) rfl
set_option maxRecDepth 100000 in
theorem kw_509 : (Jvm.Cond.methodLink "SpaceBasis$Space" (83 : Nat) ({ cls := "SpaceBasis$Space", name := "takeInProducts", desc := "(I)V" } : Jvm.MethodName)) ∈ vwWS := List.mem_of_getElem? (i := 509) rfl
set_option maxRecDepth 100000 in
theorem kw_510 : (Jvm.Cond.instanceMethod ({ cls := "SpaceBasis$Space", name := "takeInProducts", desc := "(I)V" } : Jvm.MethodName)) ∈ vwWS := List.mem_of_getElem? (i := 510) rfl
set_option maxRecDepth 100000 in
theorem kw_511 : (Jvm.Cond.code ({ cls := "SpaceBasis$Space", name := "takeInProducts", desc := "(I)V" } : Jvm.MethodName) prog_8_method_4_code (4 : Nat) (Option.none : Option Jvm.ClassFile.FieldType)) ∈ vwWS := List.mem_of_getElem? (i := 511) rfl
set_option maxRecDepth 100000 in
theorem kw_512 : (Jvm.Cond.methodLink "SpaceBasis$Space" (93 : Nat) ({ cls := "SpaceBasis$Space", name := "writeProduct", desc := "(II[I)I" } : Jvm.MethodName)) ∈ vwWS := List.mem_of_getElem? (i := 512) rfl
set_option maxRecDepth 100000 in
theorem kw_513 : (Jvm.Cond.instanceMethod ({ cls := "SpaceBasis$Space", name := "writeProduct", desc := "(II[I)I" } : Jvm.MethodName)) ∈ vwWS := List.mem_of_getElem? (i := 513) rfl
set_option maxRecDepth 100000 in
theorem kw_514 : (Jvm.Cond.selects "SpaceBasis$Space" ({ cls := "SpaceBasis$Space", name := "writeProduct", desc := "(II[I)I" } : Jvm.MethodName) ({ cls := "SpaceBasis$Space", name := "writeProduct", desc := "(II[I)I" } : Jvm.MethodName)) ∈ vwWS := List.mem_of_getElem? (i := 514) rfl
set_option maxRecDepth 100000 in
theorem kw_515 : (Jvm.Cond.code ({ cls := "SpaceBasis$Space", name := "writeProduct", desc := "(II[I)I" } : Jvm.MethodName) prog_8_method_8_code (8 : Nat) (Option.some Jvm.ClassFile.FieldType.int)) ∈ vwWS := List.mem_of_getElem? (i := 515) rfl
set_option maxRecDepth 100000 in
theorem kw_516 : (Jvm.Cond.methodLink "SpaceBasis$Space" (142 : Nat) ({ cls := "SpaceBasis$Monomials", name := "timesVariable", desc := "(II)I" } : Jvm.MethodName)) ∈ vwWS := List.mem_of_getElem? (i := 516) rfl
set_option maxRecDepth 100000 in
theorem kw_517 : (Jvm.Cond.instanceMethod ({ cls := "SpaceBasis$Monomials", name := "timesVariable", desc := "(II)I" } : Jvm.MethodName)) ∈ vwWS := List.mem_of_getElem? (i := 517) rfl
set_option maxRecDepth 100000 in
theorem kw_518 : (Jvm.Cond.selects "SpaceBasis$Monomials" ({ cls := "SpaceBasis$Monomials", name := "timesVariable", desc := "(II)I" } : Jvm.MethodName) ({ cls := "SpaceBasis$Monomials", name := "timesVariable", desc := "(II)I" } : Jvm.MethodName)) ∈ vwWS := List.mem_of_getElem? (i := 518) rfl
set_option maxRecDepth 100000 in
theorem kw_519 : (Jvm.Cond.code ({ cls := "SpaceBasis$Monomials", name := "timesVariable", desc := "(II)I" } : Jvm.MethodName) prog_5_method_6_code (3 : Nat) (Option.some Jvm.ClassFile.FieldType.int)) ∈ vwWS := List.mem_of_getElem? (i := 519) rfl
set_option maxRecDepth 100000 in
theorem kw_520 : (Jvm.Cond.methodLink "SpaceBasis" (136 : Nat) ({ cls := "SpaceBasis$Generators", name := "greatestTop", desc := "()I" } : Jvm.MethodName)) ∈ vwWS := List.mem_of_getElem? (i := 520) rfl
set_option maxRecDepth 100000 in
theorem kw_521 : (Jvm.Cond.instanceMethod ({ cls := "SpaceBasis$Generators", name := "greatestTop", desc := "()I" } : Jvm.MethodName)) ∈ vwWS := List.mem_of_getElem? (i := 521) rfl
set_option maxRecDepth 100000 in
theorem kw_522 : (Jvm.Cond.selects "SpaceBasis$Generators" ({ cls := "SpaceBasis$Generators", name := "greatestTop", desc := "()I" } : Jvm.MethodName) ({ cls := "SpaceBasis$Generators", name := "greatestTop", desc := "()I" } : Jvm.MethodName)) ∈ vwWS := List.mem_of_getElem? (i := 522) rfl
set_option maxRecDepth 100000 in
theorem kw_523 : (Jvm.Cond.code ({ cls := "SpaceBasis$Generators", name := "greatestTop", desc := "()I" } : Jvm.MethodName) prog_2_method_3_code (3 : Nat) (Option.some Jvm.ClassFile.FieldType.int)) ∈ vwWS := List.mem_of_getElem? (i := 523) rfl
set_option maxRecDepth 100000 in
theorem kw_524 : (Jvm.Cond.methodLink "SpaceBasis$Generators" (30 : Nat) ({ cls := "java/lang/Math", name := "max", desc := "(II)I" } : Jvm.MethodName)) ∈ vwWS := List.mem_of_getElem? (i := 524) rfl
set_option maxRecDepth 100000 in
theorem kw_525 : (Jvm.Cond.methodLink "SpaceBasis" (143 : Nat) ({ cls := "SpaceBasis$Members", name := "find", desc := "(Z)V" } : Jvm.MethodName)) ∈ vwWS := List.mem_of_getElem? (i := 525) rfl
set_option maxRecDepth 100000 in
theorem kw_526 : (Jvm.Cond.instanceMethod ({ cls := "SpaceBasis$Members", name := "find", desc := "(Z)V" } : Jvm.MethodName)) ∈ vwWS := List.mem_of_getElem? (i := 526) rfl
set_option maxRecDepth 100000 in
theorem kw_527 : (Jvm.Cond.selects "SpaceBasis$Members" ({ cls := "SpaceBasis$Members", name := "find", desc := "(Z)V" } : Jvm.MethodName) ({ cls := "SpaceBasis$Members", name := "find", desc := "(Z)V" } : Jvm.MethodName)) ∈ vwWS := List.mem_of_getElem? (i := 527) rfl
set_option maxRecDepth 100000 in
theorem kw_528 : (Jvm.Cond.code ({ cls := "SpaceBasis$Members", name := "find", desc := "(Z)V" } : Jvm.MethodName) prog_3_method_2_code (3 : Nat) (Option.none : Option Jvm.ClassFile.FieldType)) ∈ vwWS := List.mem_of_getElem? (i := 528) rfl
set_option maxRecDepth 100000 in
theorem kw_529 : (Jvm.Cond.methodLink "SpaceBasis$Members" (38 : Nat) ({ cls := "SpaceBasis$Space", name := "isLead", desc := "(I)Z" } : Jvm.MethodName)) ∈ vwWS := List.mem_of_getElem? (i := 529) rfl
set_option maxRecDepth 100000 in
theorem kw_530 : (Jvm.Cond.methodLink "SpaceBasis$Members" (42 : Nat) ({ cls := "SpaceBasis$Members", name := "hasDividingLead", desc := "(I)Z" } : Jvm.MethodName)) ∈ vwWS := List.mem_of_getElem? (i := 530) rfl
set_option maxRecDepth 100000 in
theorem kw_531 : (Jvm.Cond.instanceMethod ({ cls := "SpaceBasis$Members", name := "hasDividingLead", desc := "(I)Z" } : Jvm.MethodName)) ∈ vwWS := List.mem_of_getElem? (i := 531) rfl
set_option maxRecDepth 100000 in
theorem kw_532 : (Jvm.Cond.code ({ cls := "SpaceBasis$Members", name := "hasDividingLead", desc := "(I)Z" } : Jvm.MethodName) prog_3_method_3_code (3 : Nat) (Option.some Jvm.ClassFile.FieldType.boolean)) ∈ vwWS := List.mem_of_getElem? (i := 532) rfl
set_option maxRecDepth 100000 in
theorem kw_533 : (Jvm.Cond.methodLink "SpaceBasis$Members" (62 : Nat) ({ cls := "SpaceBasis$Monomials", name := "byVariable", desc := "(II)I" } : Jvm.MethodName)) ∈ vwWS := List.mem_of_getElem? (i := 533) rfl
set_option maxRecDepth 100000 in
theorem kw_534 : (Jvm.Cond.instanceMethod ({ cls := "SpaceBasis$Monomials", name := "byVariable", desc := "(II)I" } : Jvm.MethodName)) ∈ vwWS := List.mem_of_getElem? (i := 534) rfl
set_option maxRecDepth 100000 in
theorem kw_535 : (Jvm.Cond.selects "SpaceBasis$Monomials" ({ cls := "SpaceBasis$Monomials", name := "byVariable", desc := "(II)I" } : Jvm.MethodName) ({ cls := "SpaceBasis$Monomials", name := "byVariable", desc := "(II)I" } : Jvm.MethodName)) ∈ vwWS := List.mem_of_getElem? (i := 535) rfl
set_option maxRecDepth 100000 in
theorem kw_536 : (Jvm.Cond.code ({ cls := "SpaceBasis$Monomials", name := "byVariable", desc := "(II)I" } : Jvm.MethodName) prog_5_method_7_code (4 : Nat) (Option.some Jvm.ClassFile.FieldType.int)) ∈ vwWS := List.mem_of_getElem? (i := 536) rfl
set_option maxRecDepth 100000 in
theorem kw_537 : (Jvm.Cond.methodLink "SpaceBasis$Members" (45 : Nat) ({ cls := "SpaceBasis$Members", name := "addReduced", desc := "(I)V" } : Jvm.MethodName)) ∈ vwWS := List.mem_of_getElem? (i := 537) rfl
set_option maxRecDepth 100000 in
theorem kw_538 : (Jvm.Cond.instanceMethod ({ cls := "SpaceBasis$Members", name := "addReduced", desc := "(I)V" } : Jvm.MethodName)) ∈ vwWS := List.mem_of_getElem? (i := 538) rfl
set_option maxRecDepth 100000 in
theorem kw_539 : (Jvm.Cond.code ({ cls := "SpaceBasis$Members", name := "addReduced", desc := "(I)V" } : Jvm.MethodName) prog_3_method_4_code (2 : Nat) (Option.none : Option Jvm.ClassFile.FieldType)) ∈ vwWS := List.mem_of_getElem? (i := 539) rfl
set_option maxRecDepth 100000 in
theorem kw_540 : (Jvm.Cond.methodLink "SpaceBasis$Members" (66 : Nat) ({ cls := "java/util/Arrays", name := "fill", desc := "([II)V" } : Jvm.MethodName)) ∈ vwWS := List.mem_of_getElem? (i := 540) rfl
set_option maxRecDepth 100000 in
theorem kw_541 : (Jvm.Cond.methodLink "SpaceBasis$Members" (75 : Nat) ({ cls := "SpaceBasis$Space", name := "addRow", desc := "([III)V" } : Jvm.MethodName)) ∈ vwWS := List.mem_of_getElem? (i := 541) rfl
set_option maxRecDepth 100000 in
theorem kw_542 : (Jvm.Cond.methodLink "SpaceBasis$Members" (79 : Nat) ({ cls := "SpaceBasis$Space", name := "reduce", desc := "([II)V" } : Jvm.MethodName)) ∈ vwWS := List.mem_of_getElem? (i := 542) rfl
set_option maxRecDepth 100000 in
theorem kw_543 : (Jvm.Cond.methodLink "SpaceBasis$Members" (86 : Nat) ({ cls := "java/lang/System", name := "arraycopy", desc := "(Ljava/lang/Object;ILjava/lang/Object;II)V" } : Jvm.MethodName)) ∈ vwWS := List.mem_of_getElem? (i := 543) rfl
set_option maxRecDepth 100000 in
theorem kw_544 : (Jvm.Cond.methodLink "SpaceBasis$Members" (49 : Nat) ({ cls := "SpaceBasis$Members", name := "allPairsInside", desc := "()Z" } : Jvm.MethodName)) ∈ vwWS := List.mem_of_getElem? (i := 544) rfl
set_option maxRecDepth 100000 in
theorem kw_545 : (Jvm.Cond.instanceMethod ({ cls := "SpaceBasis$Members", name := "allPairsInside", desc := "()Z" } : Jvm.MethodName)) ∈ vwWS := List.mem_of_getElem? (i := 545) rfl
set_option maxRecDepth 100000 in
theorem kw_546 : (Jvm.Cond.code ({ cls := "SpaceBasis$Members", name := "allPairsInside", desc := "()Z" } : Jvm.MethodName) prog_3_method_5_code (5 : Nat) (Option.some Jvm.ClassFile.FieldType.boolean)) ∈ vwWS := List.mem_of_getElem? (i := 546) rfl
set_option maxRecDepth 100000 in
theorem kw_547 : (Jvm.Cond.methodLink "SpaceBasis$Members" (92 : Nat) ({ cls := "SpaceBasis$Monomials", name := "degreeOfLeastCommonMultiple", desc := "(II)I" } : Jvm.MethodName)) ∈ vwWS := List.mem_of_getElem? (i := 547) rfl
set_option maxRecDepth 100000 in
theorem kw_548 : (Jvm.Cond.instanceMethod ({ cls := "SpaceBasis$Monomials", name := "degreeOfLeastCommonMultiple", desc := "(II)I" } : Jvm.MethodName)) ∈ vwWS := List.mem_of_getElem? (i := 548) rfl
set_option maxRecDepth 100000 in
theorem kw_549 : (Jvm.Cond.selects "SpaceBasis$Monomials" ({ cls := "SpaceBasis$Monomials", name := "degreeOfLeastCommonMultiple", desc := "(II)I" } : Jvm.MethodName) ({ cls := "SpaceBasis$Monomials", name := "degreeOfLeastCommonMultiple", desc := "(II)I" } : Jvm.MethodName)) ∈ vwWS := List.mem_of_getElem? (i := 549) rfl
set_option maxRecDepth 100000 in
theorem kw_550 : (Jvm.Cond.code ({ cls := "SpaceBasis$Monomials", name := "degreeOfLeastCommonMultiple", desc := "(II)I" } : Jvm.MethodName) prog_5_method_8_code (5 : Nat) (Option.some Jvm.ClassFile.FieldType.int)) ∈ vwWS := List.mem_of_getElem? (i := 550) rfl
set_option maxRecDepth 100000 in
theorem kw_551 : (Jvm.Cond.methodLink "SpaceBasis$Monomials" (59 : Nat) ({ cls := "java/lang/Math", name := "max", desc := "(II)I" } : Jvm.MethodName)) ∈ vwWS := List.mem_of_getElem? (i := 551) rfl
set_option maxRecDepth 100000 in
theorem kw_552 : (Jvm.Cond.methodLink "SpaceBasis" (147 : Nat) ({ cls := "SpaceBasis$Proof", name := "begin", desc := "()V" } : Jvm.MethodName)) ∈ vwWS := List.mem_of_getElem? (i := 552) rfl
set_option maxRecDepth 100000 in
theorem kw_553 : (Jvm.Cond.instanceMethod ({ cls := "SpaceBasis$Proof", name := "begin", desc := "()V" } : Jvm.MethodName)) ∈ vwWS := List.mem_of_getElem? (i := 553) rfl
set_option maxRecDepth 100000 in
theorem kw_554 : (Jvm.Cond.selects "SpaceBasis$Proof" ({ cls := "SpaceBasis$Proof", name := "begin", desc := "()V" } : Jvm.MethodName) ({ cls := "SpaceBasis$Proof", name := "begin", desc := "()V" } : Jvm.MethodName)) ∈ vwWS := List.mem_of_getElem? (i := 554) rfl
set_option maxRecDepth 100000 in
theorem kw_555 : (Jvm.Cond.code ({ cls := "SpaceBasis$Proof", name := "begin", desc := "()V" } : Jvm.MethodName) prog_7_method_2_code (1 : Nat) (Option.none : Option Jvm.ClassFile.FieldType)) ∈ vwWS := List.mem_of_getElem? (i := 555) rfl
set_option maxRecDepth 100000 in
theorem kw_556 : (Jvm.Cond.methodLink "SpaceBasisLaw" (83 : Nat) ({ cls := "SpaceBasisLaw", name := "remainder", desc := "(LSpaceBasis;[J)I" } : Jvm.MethodName)) ∈ vwWS := List.mem_of_getElem? (i := 556) rfl
set_option maxRecDepth 100000 in
theorem kw_557 : (Jvm.Cond.static ({ cls := "SpaceBasisLaw", name := "remainder", desc := "(LSpaceBasis;[J)I" } : Jvm.MethodName)) ∈ vwWS := List.mem_of_getElem? (i := 557) rfl
set_option maxRecDepth 100000 in
theorem kw_558 : (Jvm.Cond.codeWith ({ cls := "SpaceBasisLaw", name := "remainder", desc := "(LSpaceBasis;[J)I" } : Jvm.MethodName) method_7_code (3 : Nat) (Option.some Jvm.ClassFile.FieldType.int) [((0 : Nat), (15 : Nat), (18 : Nat), (23 : Nat))]) ∈ vwWS := List.mem_of_getElem? (i := 558) rfl
set_option maxRecDepth 100000 in
theorem kw_559 : (Jvm.Cond.methodLink "SpaceBasisLaw" (29 : Nat) ({ cls := "SpaceBasis", name := "remainder", desc := "()Z" } : Jvm.MethodName)) ∈ vwWS := List.mem_of_getElem? (i := 559) rfl
set_option maxRecDepth 100000 in
theorem kw_560 : (Jvm.Cond.instanceMethod ({ cls := "SpaceBasis", name := "remainder", desc := "()Z" } : Jvm.MethodName)) ∈ vwWS := List.mem_of_getElem? (i := 560) rfl
set_option maxRecDepth 100000 in
theorem kw_561 : (Jvm.Cond.selects "SpaceBasis" ({ cls := "SpaceBasis", name := "remainder", desc := "()Z" } : Jvm.MethodName) ({ cls := "SpaceBasis", name := "remainder", desc := "()Z" } : Jvm.MethodName)) ∈ vwWS := List.mem_of_getElem? (i := 561) rfl
set_option maxRecDepth 100000 in
theorem kw_562 : (Jvm.Cond.code ({ cls := "SpaceBasis", name := "remainder", desc := "()Z" } : Jvm.MethodName) prog_1_method_12_code (2 : Nat) (Option.some Jvm.ClassFile.FieldType.boolean)) ∈ vwWS := List.mem_of_getElem? (i := 562) rfl
set_option maxRecDepth 100000 in
theorem kw_563 : (Jvm.Cond.methodLink "SpaceBasis" (178 : Nat) ({ cls := "java/lang/System", name := "arraycopy", desc := "(Ljava/lang/Object;ILjava/lang/Object;II)V" } : Jvm.MethodName)) ∈ vwWS := List.mem_of_getElem? (i := 563) rfl
set_option maxRecDepth 100000 in
theorem kw_564 : (Jvm.Cond.methodLink "SpaceBasis" (184 : Nat) ({ cls := "SpaceBasis$Space", name := "reduce", desc := "([II)V" } : Jvm.MethodName)) ∈ vwWS := List.mem_of_getElem? (i := 564) rfl
set_option maxRecDepth 100000 in
theorem kw_565 : (Jvm.Cond.methodLink "SpaceBasis" (187 : Nat) ({ cls := "SpaceBasis$Proof", name := "reckonsOut", desc := "([I)Z" } : Jvm.MethodName)) ∈ vwWS := List.mem_of_getElem? (i := 565) rfl
set_option maxRecDepth 100000 in
theorem kw_566 : (Jvm.Cond.instanceMethod ({ cls := "SpaceBasis$Proof", name := "reckonsOut", desc := "([I)Z" } : Jvm.MethodName)) ∈ vwWS := List.mem_of_getElem? (i := 566) rfl
set_option maxRecDepth 100000 in
theorem kw_567 : (Jvm.Cond.selects "SpaceBasis$Proof" ({ cls := "SpaceBasis$Proof", name := "reckonsOut", desc := "([I)Z" } : Jvm.MethodName) ({ cls := "SpaceBasis$Proof", name := "reckonsOut", desc := "([I)Z" } : Jvm.MethodName)) ∈ vwWS := List.mem_of_getElem? (i := 567) rfl
set_option maxRecDepth 100000 in
theorem kw_568 : (Jvm.Cond.code ({ cls := "SpaceBasis$Proof", name := "reckonsOut", desc := "([I)Z" } : Jvm.MethodName) prog_7_method_3_code (4 : Nat) (Option.some Jvm.ClassFile.FieldType.boolean)) ∈ vwWS := List.mem_of_getElem? (i := 568) rfl
set_option maxRecDepth 100000 in
theorem kw_569 : (Jvm.Cond.methodLink "SpaceBasis$Proof" (31 : Nat) ({ cls := "java/util/Arrays", name := "fill", desc := "([II)V" } : Jvm.MethodName)) ∈ vwWS := List.mem_of_getElem? (i := 569) rfl
set_option maxRecDepth 100000 in
theorem kw_570 : (Jvm.Cond.methodLink "SpaceBasis$Proof" (45 : Nat) ({ cls := "SpaceBasis$Space", name := "addRow", desc := "([III)V" } : Jvm.MethodName)) ∈ vwWS := List.mem_of_getElem? (i := 570) rfl
set_option maxRecDepth 100000 in
theorem kw_571 : (Jvm.Cond.methodLink "SpaceBasis$Proof" (49 : Nat) ({ cls := "SpaceBasis$Proof", name := "isLine", desc := "([I)Z" } : Jvm.MethodName)) ∈ vwWS := List.mem_of_getElem? (i := 571) rfl
set_option maxRecDepth 100000 in
theorem kw_572 : (Jvm.Cond.instanceMethod ({ cls := "SpaceBasis$Proof", name := "isLine", desc := "([I)Z" } : Jvm.MethodName)) ∈ vwWS := List.mem_of_getElem? (i := 572) rfl
set_option maxRecDepth 100000 in
theorem kw_573 : (Jvm.Cond.code ({ cls := "SpaceBasis$Proof", name := "isLine", desc := "([I)Z" } : Jvm.MethodName) prog_7_method_4_code (3 : Nat) (Option.some Jvm.ClassFile.FieldType.boolean)) ∈ vwWS := List.mem_of_getElem? (i := 573) rfl
set_option maxRecDepth 100000 in
theorem kw_574 : (Jvm.Cond.methodLink "SpaceBasis$Proof" (53 : Nat) ({ cls := "SpaceBasis$Proof", name := "reckonsRows", desc := "(I)Z" } : Jvm.MethodName)) ∈ vwWS := List.mem_of_getElem? (i := 574) rfl
set_option maxRecDepth 100000 in
theorem kw_575 : (Jvm.Cond.instanceMethod ({ cls := "SpaceBasis$Proof", name := "reckonsRows", desc := "(I)Z" } : Jvm.MethodName)) ∈ vwWS := List.mem_of_getElem? (i := 575) rfl
set_option maxRecDepth 100000 in
theorem kw_576 : (Jvm.Cond.code ({ cls := "SpaceBasis$Proof", name := "reckonsRows", desc := "(I)Z" } : Jvm.MethodName) prog_7_method_5_code (3 : Nat) (Option.some Jvm.ClassFile.FieldType.boolean)) ∈ vwWS := List.mem_of_getElem? (i := 576) rfl
set_option maxRecDepth 100000 in
theorem kw_577 : (Jvm.Cond.methodLink "SpaceBasis$Proof" (57 : Nat) ({ cls := "SpaceBasis$Proof", name := "reckonsRow", desc := "(I)Z" } : Jvm.MethodName)) ∈ vwWS := List.mem_of_getElem? (i := 577) rfl
set_option maxRecDepth 100000 in
theorem kw_578 : (Jvm.Cond.instanceMethod ({ cls := "SpaceBasis$Proof", name := "reckonsRow", desc := "(I)Z" } : Jvm.MethodName)) ∈ vwWS := List.mem_of_getElem? (i := 578) rfl
set_option maxRecDepth 100000 in
theorem kw_579 : (Jvm.Cond.code ({ cls := "SpaceBasis$Proof", name := "reckonsRow", desc := "(I)Z" } : Jvm.MethodName) prog_7_method_6_code (4 : Nat) (Option.some Jvm.ClassFile.FieldType.boolean)) ∈ vwWS := List.mem_of_getElem? (i := 579) rfl
set_option maxRecDepth 100000 in
theorem kw_580 : (Jvm.Cond.methodLink "SpaceBasis$Proof" (60 : Nat) ({ cls := "SpaceBasis$Proof", name := "writeSource", desc := "(I)Z" } : Jvm.MethodName)) ∈ vwWS := List.mem_of_getElem? (i := 580) rfl
set_option maxRecDepth 100000 in
theorem kw_581 : (Jvm.Cond.instanceMethod ({ cls := "SpaceBasis$Proof", name := "writeSource", desc := "(I)Z" } : Jvm.MethodName)) ∈ vwWS := List.mem_of_getElem? (i := 581) rfl
set_option maxRecDepth 100000 in
theorem kw_582 : (Jvm.Cond.code ({ cls := "SpaceBasis$Proof", name := "writeSource", desc := "(I)Z" } : Jvm.MethodName) prog_7_method_7_code (5 : Nat) (Option.some Jvm.ClassFile.FieldType.boolean)) ∈ vwWS := List.mem_of_getElem? (i := 582) rfl
set_option maxRecDepth 100000 in
theorem kw_583 : (Jvm.Cond.methodLink "SpaceBasis$Proof" (103 : Nat) ({ cls := "java/lang/System", name := "arraycopy", desc := "(Ljava/lang/Object;ILjava/lang/Object;II)V" } : Jvm.MethodName)) ∈ vwWS := List.mem_of_getElem? (i := 583) rfl
set_option maxRecDepth 100000 in
theorem kw_584 : (Jvm.Cond.methodLink "SpaceBasis$Proof" (109 : Nat) ({ cls := "SpaceBasis$Space", name := "writeProduct", desc := "(II[I)I" } : Jvm.MethodName)) ∈ vwWS := List.mem_of_getElem? (i := 584) rfl
set_option maxRecDepth 100000 in
theorem kw_585 : (Jvm.Cond.methodLink "SpaceBasis$Proof" (75 : Nat) ({ cls := "SpaceBasis$Modulus", name := "product", desc := "(II)I" } : Jvm.MethodName)) ∈ vwWS := List.mem_of_getElem? (i := 585) rfl
set_option maxRecDepth 100000 in
theorem kw_586 : (Jvm.Cond.methodLink "SpaceBasis$Proof" (81 : Nat) ({ cls := "SpaceBasis$Origins", name := "numberOf", desc := "(II)I" } : Jvm.MethodName)) ∈ vwWS := List.mem_of_getElem? (i := 586) rfl
set_option maxRecDepth 100000 in
theorem kw_587 : (Jvm.Cond.instanceMethod ({ cls := "SpaceBasis$Origins", name := "numberOf", desc := "(II)I" } : Jvm.MethodName)) ∈ vwWS := List.mem_of_getElem? (i := 587) rfl
set_option maxRecDepth 100000 in
theorem kw_588 : (Jvm.Cond.selects "SpaceBasis$Origins" ({ cls := "SpaceBasis$Origins", name := "numberOf", desc := "(II)I" } : Jvm.MethodName) ({ cls := "SpaceBasis$Origins", name := "numberOf", desc := "(II)I" } : Jvm.MethodName)) ∈ vwWS := List.mem_of_getElem? (i := 588) rfl
set_option maxRecDepth 100000 in
theorem kw_589 : (Jvm.Cond.code ({ cls := "SpaceBasis$Origins", name := "numberOf", desc := "(II)I" } : Jvm.MethodName) prog_6_method_2_code (3 : Nat) (Option.some Jvm.ClassFile.FieldType.int)) ∈ vwWS := List.mem_of_getElem? (i := 589) rfl
set_option maxRecDepth 100000 in
theorem kw_590 : (Jvm.Cond.methodLink "SpaceBasis$Proof" (84 : Nat) ({ cls := "SpaceBasis$Space", name := "coefficientOf", desc := "(II)I" } : Jvm.MethodName)) ∈ vwWS := List.mem_of_getElem? (i := 590) rfl
set_option maxRecDepth 100000 in
theorem kw_591 : (Jvm.Cond.instanceMethod ({ cls := "SpaceBasis$Space", name := "coefficientOf", desc := "(II)I" } : Jvm.MethodName)) ∈ vwWS := List.mem_of_getElem? (i := 591) rfl
set_option maxRecDepth 100000 in
theorem kw_592 : (Jvm.Cond.selects "SpaceBasis$Space" ({ cls := "SpaceBasis$Space", name := "coefficientOf", desc := "(II)I" } : Jvm.MethodName) ({ cls := "SpaceBasis$Space", name := "coefficientOf", desc := "(II)I" } : Jvm.MethodName)) ∈ vwWS := List.mem_of_getElem? (i := 592) rfl
set_option maxRecDepth 100000 in
theorem kw_593 : (Jvm.Cond.code ({ cls := "SpaceBasis$Space", name := "coefficientOf", desc := "(II)I" } : Jvm.MethodName) prog_8_method_10_code (3 : Nat) (Option.some Jvm.ClassFile.FieldType.int)) ∈ vwWS := List.mem_of_getElem? (i := 593) rfl
set_option maxRecDepth 100000 in
theorem kw_594 : (Jvm.Cond.classLink "SpaceBasisLaw" (34 : Nat) "SpaceBasisModel") ∈ vwWS := List.mem_of_getElem? (i := 594) rfl
set_option maxRecDepth 100000 in
theorem kw_595 : (Jvm.Cond.instantiable "SpaceBasisModel" (18 : Nat)) ∈ vwWS := List.mem_of_getElem? (i := 595) rfl
set_option maxRecDepth 100000 in
theorem kw_596 : (Jvm.Cond.methodLink "SpaceBasisLaw" (36 : Nat) ({ cls := "SpaceBasisModel", name := "<init>", desc := "()V" } : Jvm.MethodName)) ∈ vwWS := List.mem_of_getElem? (i := 596) rfl
set_option maxRecDepth 100000 in
theorem kw_597 : (Jvm.Cond.instanceMethod ({ cls := "SpaceBasisModel", name := "<init>", desc := "()V" } : Jvm.MethodName)) ∈ vwWS := List.mem_of_getElem? (i := 597) rfl
set_option maxRecDepth 100000 in
theorem kw_598 : (Jvm.Cond.code ({ cls := "SpaceBasisModel", name := "<init>", desc := "()V" } : Jvm.MethodName) prog_10_method_1_code (1 : Nat) (Option.none : Option Jvm.ClassFile.FieldType)) ∈ vwWS := List.mem_of_getElem? (i := 598) rfl
set_option maxRecDepth 100000 in
theorem kw_599 : (Jvm.Cond.methodLink "SpaceBasisModel" (1 : Nat) ({ cls := "java/lang/Object", name := "<init>", desc := "()V" } : Jvm.MethodName)) ∈ vwWS := List.mem_of_getElem? (i := 599) rfl
set_option maxRecDepth 100000 in
theorem kw_600 : (Jvm.Cond.methodLink "SpaceBasisModel" (67 : Nat) ({ cls := "SpaceBasisModel", name := "fresh", desc := "(III)V" } : Jvm.MethodName)) ∈ vwWS := List.mem_of_getElem? (i := 600) rfl
set_option maxRecDepth 100000 in
theorem kw_601 : (Jvm.Cond.instanceMethod ({ cls := "SpaceBasisModel", name := "fresh", desc := "(III)V" } : Jvm.MethodName)) ∈ vwWS := List.mem_of_getElem? (i := 601) rfl
set_option maxRecDepth 100000 in
theorem kw_602 : (Jvm.Cond.code ({ cls := "SpaceBasisModel", name := "fresh", desc := "(III)V" } : Jvm.MethodName) prog_10_method_6_code (9 : Nat) (Option.none : Option Jvm.ClassFile.FieldType)) ∈ vwWS := List.mem_of_getElem? (i := 602) rfl
set_option maxRecDepth 100000 in
theorem kw_603 : (Jvm.Cond.methodLink "SpaceBasisModel" (79 : Nat) ({ cls := "SpaceBasisModel", name := "highest", desc := "(I)I" } : Jvm.MethodName)) ∈ vwWS := List.mem_of_getElem? (i := 603) rfl
set_option maxRecDepth 100000 in
theorem kw_604 : (Jvm.Cond.static ({ cls := "SpaceBasisModel", name := "highest", desc := "(I)I" } : Jvm.MethodName)) ∈ vwWS := List.mem_of_getElem? (i := 604) rfl
set_option maxRecDepth 100000 in
theorem kw_605 : (Jvm.Cond.code ({ cls := "SpaceBasisModel", name := "highest", desc := "(I)I" } : Jvm.MethodName) prog_10_method_2_code (1 : Nat) (Option.some Jvm.ClassFile.FieldType.int)) ∈ vwWS := List.mem_of_getElem? (i := 605) rfl
set_option maxRecDepth 100000 in
theorem kw_606 : (Jvm.Cond.methodLink "SpaceBasisModel" (82 : Nat) ({ cls := "SpaceBasisModel", name := "put", desc := "(I)V" } : Jvm.MethodName)) ∈ vwWS := List.mem_of_getElem? (i := 606) rfl
set_option maxRecDepth 100000 in
theorem kw_607 : (Jvm.Cond.instanceMethod ({ cls := "SpaceBasisModel", name := "put", desc := "(I)V" } : Jvm.MethodName)) ∈ vwWS := List.mem_of_getElem? (i := 607) rfl
set_option maxRecDepth 100000 in
theorem kw_608 : (Jvm.Cond.code ({ cls := "SpaceBasisModel", name := "put", desc := "(I)V" } : Jvm.MethodName) prog_10_method_7_code (3 : Nat) (Option.none : Option Jvm.ClassFile.FieldType)) ∈ vwWS := List.mem_of_getElem? (i := 608) rfl
set_option maxRecDepth 100000 in
theorem kw_609 : (Jvm.Cond.methodLink "SpaceBasisModel" (86 : Nat) ({ cls := "SpaceBasisModel", name := "greater", desc := "(II)Z" } : Jvm.MethodName)) ∈ vwWS := List.mem_of_getElem? (i := 609) rfl
set_option maxRecDepth 100000 in
theorem kw_610 : (Jvm.Cond.instanceMethod ({ cls := "SpaceBasisModel", name := "greater", desc := "(II)Z" } : Jvm.MethodName)) ∈ vwWS := List.mem_of_getElem? (i := 610) rfl
set_option maxRecDepth 100000 in
theorem kw_611 : (Jvm.Cond.code ({ cls := "SpaceBasisModel", name := "greater", desc := "(II)Z" } : Jvm.MethodName) prog_10_method_5_code (5 : Nat) (Option.some Jvm.ClassFile.FieldType.boolean)) ∈ vwWS := List.mem_of_getElem? (i := 611) rfl
set_option maxRecDepth 100000 in
theorem kw_612 : (Jvm.Cond.methodLink "SpaceBasisModel" (75 : Nat) ({ cls := "SpaceBasisModel", name := "degreeOf", desc := "(I)I" } : Jvm.MethodName)) ∈ vwWS := List.mem_of_getElem? (i := 612) rfl
set_option maxRecDepth 100000 in
theorem kw_613 : (Jvm.Cond.static ({ cls := "SpaceBasisModel", name := "degreeOf", desc := "(I)I" } : Jvm.MethodName)) ∈ vwWS := List.mem_of_getElem? (i := 613) rfl
set_option maxRecDepth 100000 in
theorem kw_614 : (Jvm.Cond.code ({ cls := "SpaceBasisModel", name := "degreeOf", desc := "(I)I" } : Jvm.MethodName) prog_10_method_4_code (1 : Nat) (Option.some Jvm.ClassFile.FieldType.int)) ∈ vwWS := List.mem_of_getElem? (i := 614) rfl
set_option maxRecDepth 100000 in
theorem kw_615 : (Jvm.Cond.methodLink "SpaceBasisModel" (71 : Nat) ({ cls := "SpaceBasisModel", name := "exponent", desc := "(II)I" } : Jvm.MethodName)) ∈ vwWS := List.mem_of_getElem? (i := 615) rfl
set_option maxRecDepth 100000 in
theorem kw_616 : (Jvm.Cond.static ({ cls := "SpaceBasisModel", name := "exponent", desc := "(II)I" } : Jvm.MethodName)) ∈ vwWS := List.mem_of_getElem? (i := 616) rfl
set_option maxRecDepth 100000 in
theorem kw_617 : (Jvm.Cond.code ({ cls := "SpaceBasisModel", name := "exponent", desc := "(II)I" } : Jvm.MethodName) prog_10_method_3_code (2 : Nat) (Option.some Jvm.ClassFile.FieldType.int)) ∈ vwWS := List.mem_of_getElem? (i := 617) rfl
set_option maxRecDepth 100000 in
theorem kw_618 : (Jvm.Cond.fieldLink "SpaceBasisModel" (7 : Nat) "SpaceBasisModel" "thrownCode" "I") ∈ vwWS := List.mem_of_getElem? (i := 618) rfl
set_option maxRecDepth 100000 in
theorem kw_619 : (Jvm.Cond.fieldLink "SpaceBasisModel" (13 : Nat) "SpaceBasisModel" "p" "I") ∈ vwWS := List.mem_of_getElem? (i := 619) rfl
set_option maxRecDepth 100000 in
theorem kw_620 : (Jvm.Cond.fieldLink "SpaceBasisModel" (16 : Nat) "SpaceBasisModel" "n" "I") ∈ vwWS := List.mem_of_getElem? (i := 620) rfl
set_option maxRecDepth 100000 in
theorem kw_621 : (Jvm.Cond.fieldLink "SpaceBasisModel" (19 : Nat) "SpaceBasisModel" "order" "I") ∈ vwWS := List.mem_of_getElem? (i := 621) rfl
set_option maxRecDepth 100000 in
theorem kw_622 : (Jvm.Cond.fieldLink "SpaceBasisModel" (22 : Nat) "SpaceBasisModel" "monomials" "I") ∈ vwWS := List.mem_of_getElem? (i := 622) rfl
set_option maxRecDepth 100000 in
theorem kw_623 : (Jvm.Cond.fieldLink "SpaceBasisModel" (25 : Nat) "SpaceBasisModel" "mono" "[I") ∈ vwWS := List.mem_of_getElem? (i := 623) rfl
set_option maxRecDepth 100000 in
theorem kw_624 : (Jvm.Cond.fieldLink "SpaceBasisModel" (29 : Nat) "SpaceBasisModel" "degree" "[I") ∈ vwWS := List.mem_of_getElem? (i := 624) rfl
set_option maxRecDepth 100000 in
theorem kw_625 : (Jvm.Cond.fieldLink "SpaceBasisModel" (32 : Nat) "SpaceBasisModel" "generators" "I") ∈ vwWS := List.mem_of_getElem? (i := 625) rfl
set_option maxRecDepth 100000 in
theorem kw_626 : (Jvm.Cond.fieldLink "SpaceBasisModel" (35 : Nat) "SpaceBasisModel" "generator" "[I") ∈ vwWS := List.mem_of_getElem? (i := 626) rfl
set_option maxRecDepth 100000 in
theorem kw_627 : (Jvm.Cond.fieldLink "SpaceBasisModel" (38 : Nat) "SpaceBasisModel" "hand" "[I") ∈ vwWS := List.mem_of_getElem? (i := 627) rfl
set_option maxRecDepth 100000 in
theorem kw_628 : (Jvm.Cond.fieldLink "SpaceBasisModel" (41 : Nat) "SpaceBasisModel" "found" "Z") ∈ vwWS := List.mem_of_getElem? (i := 628) rfl
set_option maxRecDepth 100000 in
theorem kw_629 : (Jvm.Cond.fieldLink "SpaceBasisModel" (45 : Nat) "SpaceBasisModel" "upTo" "I") ∈ vwWS := List.mem_of_getElem? (i := 629) rfl
set_option maxRecDepth 100000 in
theorem kw_630 : (Jvm.Cond.fieldLink "SpaceBasisModel" (48 : Nat) "SpaceBasisModel" "has" "[Z") ∈ vwWS := List.mem_of_getElem? (i := 630) rfl
set_option maxRecDepth 100000 in
theorem kw_631 : (Jvm.Cond.fieldLink "SpaceBasisModel" (52 : Nat) "SpaceBasisModel" "row" "[I") ∈ vwWS := List.mem_of_getElem? (i := 631) rfl
set_option maxRecDepth 100000 in
theorem kw_632 : (Jvm.Cond.fieldLink "SpaceBasisModel" (55 : Nat) "SpaceBasisModel" "work" "[I") ∈ vwWS := List.mem_of_getElem? (i := 632) rfl
set_option maxRecDepth 100000 in
theorem kw_633 : (Jvm.Cond.fieldLink "SpaceBasisModel" (58 : Nat) "SpaceBasisModel" "basis" "[I") ∈ vwWS := List.mem_of_getElem? (i := 633) rfl
set_option maxRecDepth 100000 in
theorem kw_634 : (Jvm.Cond.fieldLink "SpaceBasisModel" (61 : Nat) "SpaceBasisModel" "members" "I") ∈ vwWS := List.mem_of_getElem? (i := 634) rfl
set_option maxRecDepth 100000 in
theorem kw_635 : (Jvm.Cond.fieldLink "SpaceBasisModel" (64 : Nat) "SpaceBasisModel" "provedNow" "I") ∈ vwWS := List.mem_of_getElem? (i := 635) rfl
set_option maxRecDepth 100000 in
theorem kw_636 : (Jvm.Cond.lays "SpaceBasisModel" "SpaceBasisModel" "thrownCode" "I") ∈ vwWS := List.mem_of_getElem? (i := 636) rfl
set_option maxRecDepth 100000 in
theorem kw_637 : (Jvm.Cond.soleField "SpaceBasisModel" "thrownCode") ∈ vwWS := List.mem_of_getElem? (i := 637) rfl
set_option maxRecDepth 100000 in
theorem kw_638 : (Jvm.Cond.lays "SpaceBasisModel" "SpaceBasisModel" "p" "I") ∈ vwWS := List.mem_of_getElem? (i := 638) rfl
set_option maxRecDepth 100000 in
theorem kw_639 : (Jvm.Cond.soleField "SpaceBasisModel" "p") ∈ vwWS := List.mem_of_getElem? (i := 639) rfl
set_option maxRecDepth 100000 in
theorem kw_640 : (Jvm.Cond.lays "SpaceBasisModel" "SpaceBasisModel" "n" "I") ∈ vwWS := List.mem_of_getElem? (i := 640) rfl
set_option maxRecDepth 100000 in
theorem kw_641 : (Jvm.Cond.soleField "SpaceBasisModel" "n") ∈ vwWS := List.mem_of_getElem? (i := 641) rfl
set_option maxRecDepth 100000 in
theorem kw_642 : (Jvm.Cond.lays "SpaceBasisModel" "SpaceBasisModel" "order" "I") ∈ vwWS := List.mem_of_getElem? (i := 642) rfl
set_option maxRecDepth 100000 in
theorem kw_643 : (Jvm.Cond.soleField "SpaceBasisModel" "order") ∈ vwWS := List.mem_of_getElem? (i := 643) rfl
set_option maxRecDepth 100000 in
theorem kw_644 : (Jvm.Cond.lays "SpaceBasisModel" "SpaceBasisModel" "monomials" "I") ∈ vwWS := List.mem_of_getElem? (i := 644) rfl
set_option maxRecDepth 100000 in
theorem kw_645 : (Jvm.Cond.soleField "SpaceBasisModel" "monomials") ∈ vwWS := List.mem_of_getElem? (i := 645) rfl
set_option maxRecDepth 100000 in
theorem kw_646 : (Jvm.Cond.laysFinal "SpaceBasisModel" "SpaceBasisModel" "mono" "[I") ∈ vwWS := List.mem_of_getElem? (i := 646) rfl
set_option maxRecDepth 100000 in
theorem kw_647 : (Jvm.Cond.soleField "SpaceBasisModel" "mono") ∈ vwWS := List.mem_of_getElem? (i := 647) rfl
set_option maxRecDepth 100000 in
theorem kw_648 : (Jvm.Cond.laysFinal "SpaceBasisModel" "SpaceBasisModel" "degree" "[I") ∈ vwWS := List.mem_of_getElem? (i := 648) rfl
set_option maxRecDepth 100000 in
theorem kw_649 : (Jvm.Cond.soleField "SpaceBasisModel" "degree") ∈ vwWS := List.mem_of_getElem? (i := 649) rfl
set_option maxRecDepth 100000 in
theorem kw_650 : (Jvm.Cond.lays "SpaceBasisModel" "SpaceBasisModel" "generators" "I") ∈ vwWS := List.mem_of_getElem? (i := 650) rfl
set_option maxRecDepth 100000 in
theorem kw_651 : (Jvm.Cond.soleField "SpaceBasisModel" "generators") ∈ vwWS := List.mem_of_getElem? (i := 651) rfl
set_option maxRecDepth 100000 in
theorem kw_652 : (Jvm.Cond.laysFinal "SpaceBasisModel" "SpaceBasisModel" "generator" "[I") ∈ vwWS := List.mem_of_getElem? (i := 652) rfl
set_option maxRecDepth 100000 in
theorem kw_653 : (Jvm.Cond.soleField "SpaceBasisModel" "generator") ∈ vwWS := List.mem_of_getElem? (i := 653) rfl
set_option maxRecDepth 100000 in
theorem kw_654 : (Jvm.Cond.laysFinal "SpaceBasisModel" "SpaceBasisModel" "hand" "[I") ∈ vwWS := List.mem_of_getElem? (i := 654) rfl
set_option maxRecDepth 100000 in
theorem kw_655 : (Jvm.Cond.soleField "SpaceBasisModel" "hand") ∈ vwWS := List.mem_of_getElem? (i := 655) rfl
set_option maxRecDepth 100000 in
theorem kw_656 : (Jvm.Cond.lays "SpaceBasisModel" "SpaceBasisModel" "found" "Z") ∈ vwWS := List.mem_of_getElem? (i := 656) rfl
set_option maxRecDepth 100000 in
theorem kw_657 : (Jvm.Cond.soleField "SpaceBasisModel" "found") ∈ vwWS := List.mem_of_getElem? (i := 657) rfl
set_option maxRecDepth 100000 in
theorem kw_658 : (Jvm.Cond.lays "SpaceBasisModel" "SpaceBasisModel" "upTo" "I") ∈ vwWS := List.mem_of_getElem? (i := 658) rfl
set_option maxRecDepth 100000 in
theorem kw_659 : (Jvm.Cond.soleField "SpaceBasisModel" "upTo") ∈ vwWS := List.mem_of_getElem? (i := 659) rfl
set_option maxRecDepth 100000 in
theorem kw_660 : (Jvm.Cond.laysFinal "SpaceBasisModel" "SpaceBasisModel" "has" "[Z") ∈ vwWS := List.mem_of_getElem? (i := 660) rfl
set_option maxRecDepth 100000 in
theorem kw_661 : (Jvm.Cond.soleField "SpaceBasisModel" "has") ∈ vwWS := List.mem_of_getElem? (i := 661) rfl
set_option maxRecDepth 100000 in
theorem kw_662 : (Jvm.Cond.laysFinal "SpaceBasisModel" "SpaceBasisModel" "row" "[I") ∈ vwWS := List.mem_of_getElem? (i := 662) rfl
set_option maxRecDepth 100000 in
theorem kw_663 : (Jvm.Cond.soleField "SpaceBasisModel" "row") ∈ vwWS := List.mem_of_getElem? (i := 663) rfl
set_option maxRecDepth 100000 in
theorem kw_664 : (Jvm.Cond.laysFinal "SpaceBasisModel" "SpaceBasisModel" "work" "[I") ∈ vwWS := List.mem_of_getElem? (i := 664) rfl
set_option maxRecDepth 100000 in
theorem kw_665 : (Jvm.Cond.soleField "SpaceBasisModel" "work") ∈ vwWS := List.mem_of_getElem? (i := 665) rfl
set_option maxRecDepth 100000 in
theorem kw_666 : (Jvm.Cond.laysFinal "SpaceBasisModel" "SpaceBasisModel" "basis" "[I") ∈ vwWS := List.mem_of_getElem? (i := 666) rfl
set_option maxRecDepth 100000 in
theorem kw_667 : (Jvm.Cond.soleField "SpaceBasisModel" "basis") ∈ vwWS := List.mem_of_getElem? (i := 667) rfl
set_option maxRecDepth 100000 in
theorem kw_668 : (Jvm.Cond.lays "SpaceBasisModel" "SpaceBasisModel" "members" "I") ∈ vwWS := List.mem_of_getElem? (i := 668) rfl
set_option maxRecDepth 100000 in
theorem kw_669 : (Jvm.Cond.soleField "SpaceBasisModel" "members") ∈ vwWS := List.mem_of_getElem? (i := 669) rfl
set_option maxRecDepth 100000 in
theorem kw_670 : (Jvm.Cond.lays "SpaceBasisModel" "SpaceBasisModel" "provedNow" "I") ∈ vwWS := List.mem_of_getElem? (i := 670) rfl
set_option maxRecDepth 100000 in
theorem kw_671 : (Jvm.Cond.soleField "SpaceBasisModel" "provedNow") ∈ vwWS := List.mem_of_getElem? (i := 671) rfl
set_option maxRecDepth 100000 in
theorem kw_672 : (Jvm.Cond.superclass "SpaceBasisModel" "java/lang/Object") ∈ vwWS := List.mem_of_getElem? (i := 672) rfl
set_option maxRecDepth 100000 in
theorem kw_673 : (Jvm.Cond.arrayClass Jvm.ClassFile.FieldType.boolean) ∈ vwWS := List.mem_of_getElem? (i := 673) rfl
set_option maxRecDepth 100000 in
theorem kw_674 : (Jvm.Cond.methodLink "SpaceBasisLaw" (43 : Nat) ({ cls := "SpaceBasisModel", name := "thrown", desc := "()I" } : Jvm.MethodName)) ∈ vwWS := List.mem_of_getElem? (i := 674) rfl
set_option maxRecDepth 100000 in
theorem kw_675 : (Jvm.Cond.instanceMethod ({ cls := "SpaceBasisModel", name := "thrown", desc := "()I" } : Jvm.MethodName)) ∈ vwWS := List.mem_of_getElem? (i := 675) rfl
set_option maxRecDepth 100000 in
theorem kw_676 : (Jvm.Cond.selects "SpaceBasisModel" ({ cls := "SpaceBasisModel", name := "thrown", desc := "()I" } : Jvm.MethodName) ({ cls := "SpaceBasisModel", name := "thrown", desc := "()I" } : Jvm.MethodName)) ∈ vwWS := List.mem_of_getElem? (i := 676) rfl
set_option maxRecDepth 100000 in
theorem kw_677 : (Jvm.Cond.code ({ cls := "SpaceBasisModel", name := "thrown", desc := "()I" } : Jvm.MethodName) prog_10_method_21_code (1 : Nat) (Option.some Jvm.ClassFile.FieldType.int)) ∈ vwWS := List.mem_of_getElem? (i := 677) rfl
set_option maxRecDepth 100000 in
theorem kw_678 : (Jvm.Cond.methodLink "SpaceBasisLaw" (42 : Nat) ({ cls := "SpaceBasisModel", name := "field", desc := "(III)V" } : Jvm.MethodName)) ∈ vwWS := List.mem_of_getElem? (i := 678) rfl
set_option maxRecDepth 100000 in
theorem kw_679 : (Jvm.Cond.instanceMethod ({ cls := "SpaceBasisModel", name := "field", desc := "(III)V" } : Jvm.MethodName)) ∈ vwWS := List.mem_of_getElem? (i := 679) rfl
set_option maxRecDepth 100000 in
theorem kw_680 : (Jvm.Cond.selects "SpaceBasisModel" ({ cls := "SpaceBasisModel", name := "field", desc := "(III)V" } : Jvm.MethodName) ({ cls := "SpaceBasisModel", name := "field", desc := "(III)V" } : Jvm.MethodName)) ∈ vwWS := List.mem_of_getElem? (i := 680) rfl
set_option maxRecDepth 100000 in
theorem kw_681 : (Jvm.Cond.code ({ cls := "SpaceBasisModel", name := "field", desc := "(III)V" } : Jvm.MethodName) prog_10_method_22_code (4 : Nat) (Option.none : Option Jvm.ClassFile.FieldType)) ∈ vwWS := List.mem_of_getElem? (i := 681) rfl
set_option maxRecDepth 100000 in
theorem kw_682 : (Jvm.Cond.methodLink "SpaceBasisModel" (117 : Nat) ({ cls := "SpaceBasisModel", name := "prime", desc := "(I)Z" } : Jvm.MethodName)) ∈ vwWS := List.mem_of_getElem? (i := 682) rfl
set_option maxRecDepth 100000 in
theorem kw_683 : (Jvm.Cond.static ({ cls := "SpaceBasisModel", name := "prime", desc := "(I)Z" } : Jvm.MethodName)) ∈ vwWS := List.mem_of_getElem? (i := 683) rfl
set_option maxRecDepth 100000 in
theorem kw_684 : (Jvm.Cond.code ({ cls := "SpaceBasisModel", name := "prime", desc := "(I)Z" } : Jvm.MethodName) prog_10_method_20_code (2 : Nat) (Option.some Jvm.ClassFile.FieldType.boolean)) ∈ vwWS := List.mem_of_getElem? (i := 684) rfl
set_option maxRecDepth 100000 in
theorem kw_685 : (Jvm.Cond.methodLink "SpaceBasisLaw" (49 : Nat) ({ cls := "SpaceBasisModel", name := "coefficient", desc := "(II)V" } : Jvm.MethodName)) ∈ vwWS := List.mem_of_getElem? (i := 685) rfl
set_option maxRecDepth 100000 in
theorem kw_686 : (Jvm.Cond.instanceMethod ({ cls := "SpaceBasisModel", name := "coefficient", desc := "(II)V" } : Jvm.MethodName)) ∈ vwWS := List.mem_of_getElem? (i := 686) rfl
set_option maxRecDepth 100000 in
theorem kw_687 : (Jvm.Cond.selects "SpaceBasisModel" ({ cls := "SpaceBasisModel", name := "coefficient", desc := "(II)V" } : Jvm.MethodName) ({ cls := "SpaceBasisModel", name := "coefficient", desc := "(II)V" } : Jvm.MethodName)) ∈ vwWS := List.mem_of_getElem? (i := 687) rfl
set_option maxRecDepth 100000 in
theorem kw_688 : (Jvm.Cond.code ({ cls := "SpaceBasisModel", name := "coefficient", desc := "(II)V" } : Jvm.MethodName) prog_10_method_23_code (4 : Nat) (Option.none : Option Jvm.ClassFile.FieldType)) ∈ vwWS := List.mem_of_getElem? (i := 688) rfl
set_option maxRecDepth 100000 in
theorem kw_689 : (Jvm.Cond.methodLink "SpaceBasisModel" (100 : Nat) ({ cls := "SpaceBasisModel", name := "placeOf", desc := "(I)I" } : Jvm.MethodName)) ∈ vwWS := List.mem_of_getElem? (i := 689) rfl
set_option maxRecDepth 100000 in
theorem kw_690 : (Jvm.Cond.instanceMethod ({ cls := "SpaceBasisModel", name := "placeOf", desc := "(I)I" } : Jvm.MethodName)) ∈ vwWS := List.mem_of_getElem? (i := 690) rfl
set_option maxRecDepth 100000 in
theorem kw_691 : (Jvm.Cond.code ({ cls := "SpaceBasisModel", name := "placeOf", desc := "(I)I" } : Jvm.MethodName) prog_10_method_8_code (3 : Nat) (Option.some Jvm.ClassFile.FieldType.int)) ∈ vwWS := List.mem_of_getElem? (i := 691) rfl
set_option maxRecDepth 100000 in
theorem kw_692 : (Jvm.Cond.methodLink "SpaceBasisLaw" (53 : Nat) ({ cls := "SpaceBasisModel", name := "hand", desc := "(I)I" } : Jvm.MethodName)) ∈ vwWS := List.mem_of_getElem? (i := 692) rfl
set_option maxRecDepth 100000 in
theorem kw_693 : (Jvm.Cond.instanceMethod ({ cls := "SpaceBasisModel", name := "hand", desc := "(I)I" } : Jvm.MethodName)) ∈ vwWS := List.mem_of_getElem? (i := 693) rfl
set_option maxRecDepth 100000 in
theorem kw_694 : (Jvm.Cond.selects "SpaceBasisModel" ({ cls := "SpaceBasisModel", name := "hand", desc := "(I)I" } : Jvm.MethodName) ({ cls := "SpaceBasisModel", name := "hand", desc := "(I)I" } : Jvm.MethodName)) ∈ vwWS := List.mem_of_getElem? (i := 694) rfl
set_option maxRecDepth 100000 in
theorem kw_695 : (Jvm.Cond.code ({ cls := "SpaceBasisModel", name := "hand", desc := "(I)I" } : Jvm.MethodName) prog_10_method_24_code (3 : Nat) (Option.some Jvm.ClassFile.FieldType.int)) ∈ vwWS := List.mem_of_getElem? (i := 695) rfl
set_option maxRecDepth 100000 in
theorem kw_696 : (Jvm.Cond.methodLink "SpaceBasisLaw" (57 : Nat) ({ cls := "SpaceBasisModel", name := "join", desc := "()I" } : Jvm.MethodName)) ∈ vwWS := List.mem_of_getElem? (i := 696) rfl
set_option maxRecDepth 100000 in
theorem kw_697 : (Jvm.Cond.instanceMethod ({ cls := "SpaceBasisModel", name := "join", desc := "()I" } : Jvm.MethodName)) ∈ vwWS := List.mem_of_getElem? (i := 697) rfl
set_option maxRecDepth 100000 in
theorem kw_698 : (Jvm.Cond.selects "SpaceBasisModel" ({ cls := "SpaceBasisModel", name := "join", desc := "()I" } : Jvm.MethodName) ({ cls := "SpaceBasisModel", name := "join", desc := "()I" } : Jvm.MethodName)) ∈ vwWS := List.mem_of_getElem? (i := 698) rfl
set_option maxRecDepth 100000 in
theorem kw_699 : (Jvm.Cond.code ({ cls := "SpaceBasisModel", name := "join", desc := "()I" } : Jvm.MethodName) prog_10_method_25_code (3 : Nat) (Option.some Jvm.ClassFile.FieldType.int)) ∈ vwWS := List.mem_of_getElem? (i := 699) rfl
set_option maxRecDepth 100000 in
theorem kw_700 : (Jvm.Cond.methodLink "SpaceBasisLaw" (61 : Nat) ({ cls := "SpaceBasisModel", name := "clear", desc := "()V" } : Jvm.MethodName)) ∈ vwWS := List.mem_of_getElem? (i := 700) rfl
set_option maxRecDepth 100000 in
theorem kw_701 : (Jvm.Cond.instanceMethod ({ cls := "SpaceBasisModel", name := "clear", desc := "()V" } : Jvm.MethodName)) ∈ vwWS := List.mem_of_getElem? (i := 701) rfl
set_option maxRecDepth 100000 in
theorem kw_702 : (Jvm.Cond.selects "SpaceBasisModel" ({ cls := "SpaceBasisModel", name := "clear", desc := "()V" } : Jvm.MethodName) ({ cls := "SpaceBasisModel", name := "clear", desc := "()V" } : Jvm.MethodName)) ∈ vwWS := List.mem_of_getElem? (i := 702) rfl
set_option maxRecDepth 100000 in
theorem kw_703 : (Jvm.Cond.code ({ cls := "SpaceBasisModel", name := "clear", desc := "()V" } : Jvm.MethodName) prog_10_method_26_code (2 : Nat) (Option.none : Option Jvm.ClassFile.FieldType)) ∈ vwWS := List.mem_of_getElem? (i := 703) rfl
set_option maxRecDepth 100000 in
theorem kw_704 : (Jvm.Cond.methodLink "SpaceBasisLaw" (65 : Nat) ({ cls := "SpaceBasisModel", name := "basis", desc := "(I)I" } : Jvm.MethodName)) ∈ vwWS := List.mem_of_getElem? (i := 704) rfl
set_option maxRecDepth 100000 in
theorem kw_705 : (Jvm.Cond.instanceMethod ({ cls := "SpaceBasisModel", name := "basis", desc := "(I)I" } : Jvm.MethodName)) ∈ vwWS := List.mem_of_getElem? (i := 705) rfl
set_option maxRecDepth 100000 in
theorem kw_706 : (Jvm.Cond.selects "SpaceBasisModel" ({ cls := "SpaceBasisModel", name := "basis", desc := "(I)I" } : Jvm.MethodName) ({ cls := "SpaceBasisModel", name := "basis", desc := "(I)I" } : Jvm.MethodName)) ∈ vwWS := List.mem_of_getElem? (i := 706) rfl
set_option maxRecDepth 100000 in
theorem kw_707 : (Jvm.Cond.code ({ cls := "SpaceBasisModel", name := "basis", desc := "(I)I" } : Jvm.MethodName) prog_10_method_27_code (5 : Nat) (Option.some Jvm.ClassFile.FieldType.int)) ∈ vwWS := List.mem_of_getElem? (i := 707) rfl
set_option maxRecDepth 100000 in
theorem kw_708 : (Jvm.Cond.methodLink "SpaceBasisModel" (121 : Nat) ({ cls := "SpaceBasisModel", name := "findSpace", desc := "(I)V" } : Jvm.MethodName)) ∈ vwWS := List.mem_of_getElem? (i := 708) rfl
set_option maxRecDepth 100000 in
theorem kw_709 : (Jvm.Cond.instanceMethod ({ cls := "SpaceBasisModel", name := "findSpace", desc := "(I)V" } : Jvm.MethodName)) ∈ vwWS := List.mem_of_getElem? (i := 709) rfl
set_option maxRecDepth 100000 in
theorem kw_710 : (Jvm.Cond.code ({ cls := "SpaceBasisModel", name := "findSpace", desc := "(I)V" } : Jvm.MethodName) prog_10_method_15_code (5 : Nat) (Option.none : Option Jvm.ClassFile.FieldType)) ∈ vwWS := List.mem_of_getElem? (i := 710) rfl
set_option maxRecDepth 100000 in
theorem kw_711 : (Jvm.Cond.methodLink "SpaceBasisModel" (103 : Nat) ({ cls := "SpaceBasisModel", name := "degreeOfGenerator", desc := "(I)I" } : Jvm.MethodName)) ∈ vwWS := List.mem_of_getElem? (i := 711) rfl
set_option maxRecDepth 100000 in
theorem kw_712 : (Jvm.Cond.instanceMethod ({ cls := "SpaceBasisModel", name := "degreeOfGenerator", desc := "(I)I" } : Jvm.MethodName)) ∈ vwWS := List.mem_of_getElem? (i := 712) rfl
set_option maxRecDepth 100000 in
theorem kw_713 : (Jvm.Cond.code ({ cls := "SpaceBasisModel", name := "degreeOfGenerator", desc := "(I)I" } : Jvm.MethodName) prog_10_method_14_code (4 : Nat) (Option.some Jvm.ClassFile.FieldType.int)) ∈ vwWS := List.mem_of_getElem? (i := 713) rfl
set_option maxRecDepth 100000 in
theorem kw_714 : (Jvm.Cond.methodLink "SpaceBasisModel" (106 : Nat) ({ cls := "SpaceBasisModel", name := "comes", desc := "()Z" } : Jvm.MethodName)) ∈ vwWS := List.mem_of_getElem? (i := 714) rfl
set_option maxRecDepth 100000 in
theorem kw_715 : (Jvm.Cond.instanceMethod ({ cls := "SpaceBasisModel", name := "comes", desc := "()Z" } : Jvm.MethodName)) ∈ vwWS := List.mem_of_getElem? (i := 715) rfl
set_option maxRecDepth 100000 in
theorem kw_716 : (Jvm.Cond.code ({ cls := "SpaceBasisModel", name := "comes", desc := "()Z" } : Jvm.MethodName) prog_10_method_12_code (5 : Nat) (Option.some Jvm.ClassFile.FieldType.boolean)) ∈ vwWS := List.mem_of_getElem? (i := 716) rfl
set_option maxRecDepth 100000 in
theorem kw_717 : (Jvm.Cond.methodLink "SpaceBasisModel" (93 : Nat) ({ cls := "SpaceBasisModel", name := "reduce", desc := "()I" } : Jvm.MethodName)) ∈ vwWS := List.mem_of_getElem? (i := 717) rfl
set_option maxRecDepth 100000 in
theorem kw_718 : (Jvm.Cond.instanceMethod ({ cls := "SpaceBasisModel", name := "reduce", desc := "()I" } : Jvm.MethodName)) ∈ vwWS := List.mem_of_getElem? (i := 718) rfl
set_option maxRecDepth 100000 in
theorem kw_719 : (Jvm.Cond.code ({ cls := "SpaceBasisModel", name := "reduce", desc := "()I" } : Jvm.MethodName) prog_10_method_10_code (3 : Nat) (Option.some Jvm.ClassFile.FieldType.int)) ∈ vwWS := List.mem_of_getElem? (i := 719) rfl
set_option maxRecDepth 100000 in
theorem kw_720 : (Jvm.Cond.methodLink "SpaceBasisModel" (90 : Nat) ({ cls := "SpaceBasisModel", name := "takeRow", desc := "(I)V" } : Jvm.MethodName)) ∈ vwWS := List.mem_of_getElem? (i := 720) rfl
set_option maxRecDepth 100000 in
theorem kw_721 : (Jvm.Cond.instanceMethod ({ cls := "SpaceBasisModel", name := "takeRow", desc := "(I)V" } : Jvm.MethodName)) ∈ vwWS := List.mem_of_getElem? (i := 721) rfl
set_option maxRecDepth 100000 in
theorem kw_722 : (Jvm.Cond.code ({ cls := "SpaceBasisModel", name := "takeRow", desc := "(I)V" } : Jvm.MethodName) prog_10_method_11_code (5 : Nat) (Option.none : Option Jvm.ClassFile.FieldType)) ∈ vwWS := List.mem_of_getElem? (i := 722) rfl
set_option maxRecDepth 100000 in
theorem kw_723 : (Jvm.Cond.methodLink "SpaceBasisModel" (97 : Nat) ({ cls := "SpaceBasisModel", name := "inverse", desc := "(I)I" } : Jvm.MethodName)) ∈ vwWS := List.mem_of_getElem? (i := 723) rfl
set_option maxRecDepth 100000 in
theorem kw_724 : (Jvm.Cond.instanceMethod ({ cls := "SpaceBasisModel", name := "inverse", desc := "(I)I" } : Jvm.MethodName)) ∈ vwWS := List.mem_of_getElem? (i := 724) rfl
set_option maxRecDepth 100000 in
theorem kw_725 : (Jvm.Cond.code ({ cls := "SpaceBasisModel", name := "inverse", desc := "(I)I" } : Jvm.MethodName) prog_10_method_9_code (7 : Nat) (Option.some Jvm.ClassFile.FieldType.int)) ∈ vwWS := List.mem_of_getElem? (i := 725) rfl
set_option maxRecDepth 100000 in
theorem kw_726 : (Jvm.Cond.methodLink "SpaceBasisModel" (110 : Nat) ({ cls := "SpaceBasisModel", name := "multiplied", desc := "(II)V" } : Jvm.MethodName)) ∈ vwWS := List.mem_of_getElem? (i := 726) rfl
set_option maxRecDepth 100000 in
theorem kw_727 : (Jvm.Cond.instanceMethod ({ cls := "SpaceBasisModel", name := "multiplied", desc := "(II)V" } : Jvm.MethodName)) ∈ vwWS := List.mem_of_getElem? (i := 727) rfl
set_option maxRecDepth 100000 in
theorem kw_728 : (Jvm.Cond.code ({ cls := "SpaceBasisModel", name := "multiplied", desc := "(II)V" } : Jvm.MethodName) prog_10_method_13_code (4 : Nat) (Option.none : Option Jvm.ClassFile.FieldType)) ∈ vwWS := List.mem_of_getElem? (i := 728) rfl
set_option maxRecDepth 100000 in
theorem kw_729 : (Jvm.Cond.methodLink "SpaceBasisModel" (114 : Nat) ({ cls := "SpaceBasisModel", name := "clean", desc := "(I)V" } : Jvm.MethodName)) ∈ vwWS := List.mem_of_getElem? (i := 729) rfl
set_option maxRecDepth 100000 in
theorem kw_730 : (Jvm.Cond.instanceMethod ({ cls := "SpaceBasisModel", name := "clean", desc := "(I)V" } : Jvm.MethodName)) ∈ vwWS := List.mem_of_getElem? (i := 730) rfl
set_option maxRecDepth 100000 in
theorem kw_731 : (Jvm.Cond.code ({ cls := "SpaceBasisModel", name := "clean", desc := "(I)V" } : Jvm.MethodName) prog_10_method_16_code (3 : Nat) (Option.none : Option Jvm.ClassFile.FieldType)) ∈ vwWS := List.mem_of_getElem? (i := 731) rfl
set_option maxRecDepth 100000 in
theorem kw_732 : (Jvm.Cond.methodLink "SpaceBasisModel" (124 : Nat) ({ cls := "SpaceBasisModel", name := "divides", desc := "(II)Z" } : Jvm.MethodName)) ∈ vwWS := List.mem_of_getElem? (i := 732) rfl
set_option maxRecDepth 100000 in
theorem kw_733 : (Jvm.Cond.static ({ cls := "SpaceBasisModel", name := "divides", desc := "(II)Z" } : Jvm.MethodName)) ∈ vwWS := List.mem_of_getElem? (i := 733) rfl
set_option maxRecDepth 100000 in
theorem kw_734 : (Jvm.Cond.code ({ cls := "SpaceBasisModel", name := "divides", desc := "(II)Z" } : Jvm.MethodName) prog_10_method_17_code (3 : Nat) (Option.some Jvm.ClassFile.FieldType.boolean)) ∈ vwWS := List.mem_of_getElem? (i := 734) rfl
set_option maxRecDepth 100000 in
theorem kw_735 : (Jvm.Cond.methodLink "SpaceBasisLaw" (69 : Nat) ({ cls := "SpaceBasisModel", name := "lead", desc := "(I)I" } : Jvm.MethodName)) ∈ vwWS := List.mem_of_getElem? (i := 735) rfl
set_option maxRecDepth 100000 in
theorem kw_736 : (Jvm.Cond.instanceMethod ({ cls := "SpaceBasisModel", name := "lead", desc := "(I)I" } : Jvm.MethodName)) ∈ vwWS := List.mem_of_getElem? (i := 736) rfl
set_option maxRecDepth 100000 in
theorem kw_737 : (Jvm.Cond.selects "SpaceBasisModel" ({ cls := "SpaceBasisModel", name := "lead", desc := "(I)I" } : Jvm.MethodName) ({ cls := "SpaceBasisModel", name := "lead", desc := "(I)I" } : Jvm.MethodName)) ∈ vwWS := List.mem_of_getElem? (i := 737) rfl
set_option maxRecDepth 100000 in
theorem kw_738 : (Jvm.Cond.code ({ cls := "SpaceBasisModel", name := "lead", desc := "(I)I" } : Jvm.MethodName) prog_10_method_28_code (2 : Nat) (Option.some Jvm.ClassFile.FieldType.int)) ∈ vwWS := List.mem_of_getElem? (i := 738) rfl
set_option maxRecDepth 100000 in
theorem kw_739 : (Jvm.Cond.methodLink "SpaceBasisLaw" (74 : Nat) ({ cls := "SpaceBasisModel", name := "member", desc := "(II)I" } : Jvm.MethodName)) ∈ vwWS := List.mem_of_getElem? (i := 739) rfl
set_option maxRecDepth 100000 in
theorem kw_740 : (Jvm.Cond.instanceMethod ({ cls := "SpaceBasisModel", name := "member", desc := "(II)I" } : Jvm.MethodName)) ∈ vwWS := List.mem_of_getElem? (i := 740) rfl
set_option maxRecDepth 100000 in
theorem kw_741 : (Jvm.Cond.selects "SpaceBasisModel" ({ cls := "SpaceBasisModel", name := "member", desc := "(II)I" } : Jvm.MethodName) ({ cls := "SpaceBasisModel", name := "member", desc := "(II)I" } : Jvm.MethodName)) ∈ vwWS := List.mem_of_getElem? (i := 741) rfl
set_option maxRecDepth 100000 in
theorem kw_742 : (Jvm.Cond.code ({ cls := "SpaceBasisModel", name := "member", desc := "(II)I" } : Jvm.MethodName) prog_10_method_29_code (4 : Nat) (Option.some Jvm.ClassFile.FieldType.int)) ∈ vwWS := List.mem_of_getElem? (i := 742) rfl
set_option maxRecDepth 100000 in
theorem kw_743 : (Jvm.Cond.methodLink "SpaceBasisLaw" (78 : Nat) ({ cls := "SpaceBasisModel", name := "ideal", desc := "(I)I" } : Jvm.MethodName)) ∈ vwWS := List.mem_of_getElem? (i := 743) rfl
set_option maxRecDepth 100000 in
theorem kw_744 : (Jvm.Cond.instanceMethod ({ cls := "SpaceBasisModel", name := "ideal", desc := "(I)I" } : Jvm.MethodName)) ∈ vwWS := List.mem_of_getElem? (i := 744) rfl
set_option maxRecDepth 100000 in
theorem kw_745 : (Jvm.Cond.selects "SpaceBasisModel" ({ cls := "SpaceBasisModel", name := "ideal", desc := "(I)I" } : Jvm.MethodName) ({ cls := "SpaceBasisModel", name := "ideal", desc := "(I)I" } : Jvm.MethodName)) ∈ vwWS := List.mem_of_getElem? (i := 745) rfl
set_option maxRecDepth 100000 in
theorem kw_746 : (Jvm.Cond.code ({ cls := "SpaceBasisModel", name := "ideal", desc := "(I)I" } : Jvm.MethodName) prog_10_method_30_code (2 : Nat) (Option.some Jvm.ClassFile.FieldType.int)) ∈ vwWS := List.mem_of_getElem? (i := 746) rfl
set_option maxRecDepth 100000 in
theorem kw_747 : (Jvm.Cond.methodLink "SpaceBasisModel" (127 : Nat) ({ cls := "SpaceBasisModel", name := "complete", desc := "()Z" } : Jvm.MethodName)) ∈ vwWS := List.mem_of_getElem? (i := 747) rfl
set_option maxRecDepth 100000 in
theorem kw_748 : (Jvm.Cond.instanceMethod ({ cls := "SpaceBasisModel", name := "complete", desc := "()Z" } : Jvm.MethodName)) ∈ vwWS := List.mem_of_getElem? (i := 748) rfl
set_option maxRecDepth 100000 in
theorem kw_749 : (Jvm.Cond.code ({ cls := "SpaceBasisModel", name := "complete", desc := "()Z" } : Jvm.MethodName) prog_10_method_18_code (8 : Nat) (Option.some Jvm.ClassFile.FieldType.boolean)) ∈ vwWS := List.mem_of_getElem? (i := 749) rfl
set_option maxRecDepth 100000 in
theorem kw_750 : (Jvm.Cond.methodLink "SpaceBasisModel" (130 : Nat) ({ cls := "SpaceBasisModel", name := "dimension", desc := "()I" } : Jvm.MethodName)) ∈ vwWS := List.mem_of_getElem? (i := 750) rfl
set_option maxRecDepth 100000 in
theorem kw_751 : (Jvm.Cond.instanceMethod ({ cls := "SpaceBasisModel", name := "dimension", desc := "()I" } : Jvm.MethodName)) ∈ vwWS := List.mem_of_getElem? (i := 751) rfl
set_option maxRecDepth 100000 in
theorem kw_752 : (Jvm.Cond.code ({ cls := "SpaceBasisModel", name := "dimension", desc := "()I" } : Jvm.MethodName) prog_10_method_19_code (8 : Nat) (Option.some Jvm.ClassFile.FieldType.int)) ∈ vwWS := List.mem_of_getElem? (i := 752) rfl
set_option maxRecDepth 100000 in
theorem kw_753 : (Jvm.Cond.methodLink "SpaceBasisLaw" (82 : Nat) ({ cls := "SpaceBasisModel", name := "standard", desc := "(I)I" } : Jvm.MethodName)) ∈ vwWS := List.mem_of_getElem? (i := 753) rfl
set_option maxRecDepth 100000 in
theorem kw_754 : (Jvm.Cond.instanceMethod ({ cls := "SpaceBasisModel", name := "standard", desc := "(I)I" } : Jvm.MethodName)) ∈ vwWS := List.mem_of_getElem? (i := 754) rfl
set_option maxRecDepth 100000 in
theorem kw_755 : (Jvm.Cond.selects "SpaceBasisModel" ({ cls := "SpaceBasisModel", name := "standard", desc := "(I)I" } : Jvm.MethodName) ({ cls := "SpaceBasisModel", name := "standard", desc := "(I)I" } : Jvm.MethodName)) ∈ vwWS := List.mem_of_getElem? (i := 755) rfl
set_option maxRecDepth 100000 in
theorem kw_756 : (Jvm.Cond.code ({ cls := "SpaceBasisModel", name := "standard", desc := "(I)I" } : Jvm.MethodName) prog_10_method_31_code (4 : Nat) (Option.some Jvm.ClassFile.FieldType.int)) ∈ vwWS := List.mem_of_getElem? (i := 756) rfl
set_option maxRecDepth 100000 in
theorem kw_757 : (Jvm.Cond.methodLink "SpaceBasisLaw" (85 : Nat) ({ cls := "SpaceBasisModel", name := "remainder", desc := "()Z" } : Jvm.MethodName)) ∈ vwWS := List.mem_of_getElem? (i := 757) rfl
set_option maxRecDepth 100000 in
theorem kw_758 : (Jvm.Cond.instanceMethod ({ cls := "SpaceBasisModel", name := "remainder", desc := "()Z" } : Jvm.MethodName)) ∈ vwWS := List.mem_of_getElem? (i := 758) rfl
set_option maxRecDepth 100000 in
theorem kw_759 : (Jvm.Cond.selects "SpaceBasisModel" ({ cls := "SpaceBasisModel", name := "remainder", desc := "()Z" } : Jvm.MethodName) ({ cls := "SpaceBasisModel", name := "remainder", desc := "()Z" } : Jvm.MethodName)) ∈ vwWS := List.mem_of_getElem? (i := 759) rfl
set_option maxRecDepth 100000 in
theorem kw_760 : (Jvm.Cond.code ({ cls := "SpaceBasisModel", name := "remainder", desc := "()Z" } : Jvm.MethodName) prog_10_method_32_code (3 : Nat) (Option.some Jvm.ClassFile.FieldType.boolean)) ∈ vwWS := List.mem_of_getElem? (i := 760) rfl
set_option maxRecDepth 100000 in
theorem kw_761 : (Jvm.Cond.methodLink "SpaceBasisLaw" (89 : Nat) ({ cls := "SpaceBasisModel", name := "proved", desc := "()I" } : Jvm.MethodName)) ∈ vwWS := List.mem_of_getElem? (i := 761) rfl
set_option maxRecDepth 100000 in
theorem kw_762 : (Jvm.Cond.instanceMethod ({ cls := "SpaceBasisModel", name := "proved", desc := "()I" } : Jvm.MethodName)) ∈ vwWS := List.mem_of_getElem? (i := 762) rfl
set_option maxRecDepth 100000 in
theorem kw_763 : (Jvm.Cond.selects "SpaceBasisModel" ({ cls := "SpaceBasisModel", name := "proved", desc := "()I" } : Jvm.MethodName) ({ cls := "SpaceBasisModel", name := "proved", desc := "()I" } : Jvm.MethodName)) ∈ vwWS := List.mem_of_getElem? (i := 763) rfl
set_option maxRecDepth 100000 in
theorem kw_764 : (Jvm.Cond.code ({ cls := "SpaceBasisModel", name := "proved", desc := "()I" } : Jvm.MethodName) prog_10_method_33_code (1 : Nat) (Option.some Jvm.ClassFile.FieldType.int)) ∈ vwWS := List.mem_of_getElem? (i := 764) rfl
set_option maxRecDepth 100000 in
theorem kw_765 : (Jvm.Cond.arrayClass Jvm.ClassFile.FieldType.long) ∈ vwWS := List.mem_of_getElem? (i := 765) rfl
set_option maxRecDepth 100000 in
theorem kw_766 : (Jvm.Cond.sameMethod "java/lang/Throwable" "java/lang/Throwable" "fillInStackTrace" "(I)Ljava/lang/Throwable;") ∈ vwWS := List.mem_of_getElem? (i := 766) rfl
/-! the links to private members of nest mates: they are no words, but facts of the start -/
def vwNW : List Cond := [(Jvm.Cond.methodLinkNest "SpaceBasis" (11 : Nat) ({ cls := "SpaceBasis$Modulus", name := "<init>", desc := "()V" } : Jvm.MethodName) "SpaceBasis"), (Jvm.Cond.fieldLinkNest "SpaceBasis$Space" (139 : Nat) "SpaceBasis$Modulus" "prime" "I" "SpaceBasis"), (Jvm.Cond.fieldLinkNest "SpaceBasis" (191 : Nat) "SpaceBasis$Modulus" "prime" "I" "SpaceBasis"), (Jvm.Cond.methodLinkNest "SpaceBasis" (18 : Nat) ({ cls := "SpaceBasis$Monomials", name := "<init>", desc := "()V" } : Jvm.MethodName) "SpaceBasis"), (Jvm.Cond.fieldLinkNest "SpaceBasis" (154 : Nat) "SpaceBasis$Monomials" "codes" "[I" "SpaceBasis"), (Jvm.Cond.fieldLinkNest "SpaceBasis$Space" (87 : Nat) "SpaceBasis$Monomials" "degrees" "[I" "SpaceBasis"), (Jvm.Cond.fieldLinkNest "SpaceBasis$Members" (95 : Nat) "SpaceBasis$Monomials" "degrees" "[I" "SpaceBasis"), (Jvm.Cond.fieldLinkNest "SpaceBasis$Space" (52 : Nat) "SpaceBasis$Monomials" "firstOfDegree" "[I" "SpaceBasis"), (Jvm.Cond.fieldLinkNest "SpaceBasis$Members" (57 : Nat) "SpaceBasis$Monomials" "variables" "I" "SpaceBasis"), (Jvm.Cond.fieldLinkNest "SpaceBasis$Space" (90 : Nat) "SpaceBasis$Monomials" "variables" "I" "SpaceBasis"), (Jvm.Cond.fieldLinkNest "SpaceBasis" (124 : Nat) "SpaceBasis$Monomials" "highest" "I" "SpaceBasis"), (Jvm.Cond.fieldLinkNest "SpaceBasis" (96 : Nat) "SpaceBasis$Monomials" "count" "I" "SpaceBasis"), (Jvm.Cond.methodLinkNest "SpaceBasis" (25 : Nat) ({ cls := "SpaceBasis$Generators", name := "<init>", desc := "()V" } : Jvm.MethodName) "SpaceBasis"), (Jvm.Cond.fieldLinkNest "SpaceBasis$Space" (69 : Nat) "SpaceBasis$Generators" "polynomials" "[[I" "SpaceBasis"), (Jvm.Cond.fieldLinkNest "SpaceBasis$Proof" (99 : Nat) "SpaceBasis$Generators" "polynomials" "[[I" "SpaceBasis"), (Jvm.Cond.fieldLinkNest "SpaceBasis$Space" (66 : Nat) "SpaceBasis$Generators" "tops" "[I" "SpaceBasis"), (Jvm.Cond.fieldLinkNest "SpaceBasis$Proof" (96 : Nat) "SpaceBasis$Generators" "tops" "[I" "SpaceBasis"), (Jvm.Cond.fieldLinkNest "SpaceBasis$Space" (63 : Nat) "SpaceBasis$Generators" "count" "I" "SpaceBasis"), (Jvm.Cond.fieldLinkNest "SpaceBasis" (105 : Nat) "SpaceBasis$Generators" "count" "I" "SpaceBasis"), (Jvm.Cond.fieldLinkNest "SpaceBasis$Proof" (93 : Nat) "SpaceBasis$Generators" "count" "I" "SpaceBasis"), (Jvm.Cond.methodLinkNest "SpaceBasis$Space" (11 : Nat) ({ cls := "SpaceBasis$Origins", name := "<init>", desc := "()V" } : Jvm.MethodName) "SpaceBasis"), (Jvm.Cond.fieldLinkNest "SpaceBasis$Space" (117 : Nat) "SpaceBasis$Origins" "sources" "[I" "SpaceBasis"), (Jvm.Cond.fieldLinkNest "SpaceBasis$Proof" (87 : Nat) "SpaceBasis$Origins" "sources" "[I" "SpaceBasis"), (Jvm.Cond.fieldLinkNest "SpaceBasis$Space" (120 : Nat) "SpaceBasis$Origins" "variables" "[I" "SpaceBasis"), (Jvm.Cond.fieldLinkNest "SpaceBasis$Proof" (90 : Nat) "SpaceBasis$Origins" "variables" "[I" "SpaceBasis"), (Jvm.Cond.fieldLinkNest "SpaceBasis$Space" (122 : Nat) "SpaceBasis$Origins" "factors" "[I" "SpaceBasis"), (Jvm.Cond.fieldLinkNest "SpaceBasis$Proof" (70 : Nat) "SpaceBasis$Origins" "factors" "[I" "SpaceBasis"), (Jvm.Cond.fieldLinkNest "SpaceBasis$Proof" (66 : Nat) "SpaceBasis$Space" "origins" "LSpaceBasis$Origins;" "SpaceBasis"), (Jvm.Cond.fieldLinkNest "SpaceBasis$Members" (72 : Nat) "SpaceBasis$Space" "rowOfLead" "[I" "SpaceBasis"), (Jvm.Cond.fieldLinkNest "SpaceBasis$Proof" (42 : Nat) "SpaceBasis$Space" "taken" "[I" "SpaceBasis"), (Jvm.Cond.fieldLinkNest "SpaceBasis$Members" (98 : Nat) "SpaceBasis$Space" "degree" "I" "SpaceBasis"), (Jvm.Cond.fieldLinkNest "SpaceBasis" (129 : Nat) "SpaceBasis$Space" "degree" "I" "SpaceBasis"), (Jvm.Cond.fieldLinkNest "SpaceBasis$Members" (33 : Nat) "SpaceBasis$Space" "size" "I" "SpaceBasis"), (Jvm.Cond.fieldLinkNest "SpaceBasis$Proof" (63 : Nat) "SpaceBasis$Space" "size" "I" "SpaceBasis"), (Jvm.Cond.fieldLinkNest "SpaceBasis" (140 : Nat) "SpaceBasis$Space" "size" "I" "SpaceBasis"), (Jvm.Cond.fieldLinkNest "SpaceBasis$Proof" (37 : Nat) "SpaceBasis$Space" "count" "I" "SpaceBasis"), (Jvm.Cond.fieldLinkNest "SpaceBasis" (157 : Nat) "SpaceBasis$Members" "leads" "[I" "SpaceBasis"), (Jvm.Cond.fieldLinkNest "SpaceBasis" (150 : Nat) "SpaceBasis$Members" "count" "I" "SpaceBasis"), (Jvm.Cond.fieldLinkNest "SpaceBasis" (164 : Nat) "SpaceBasis$Members" "complete" "Z" "SpaceBasis"), (Jvm.Cond.fieldLinkNest "SpaceBasis$Monomials" (31 : Nat) "SpaceBasis" "HIGHEST_OF_VARIABLES" "[I" "SpaceBasis"), (Jvm.Cond.methodLinkNest "SpaceBasis$Members" (82 : Nat) ({ cls := "SpaceBasis", name := "startOfLine", desc := "(I)I" } : Jvm.MethodName) "SpaceBasis"), (Jvm.Cond.methodLinkNest "SpaceBasis$Space" (110 : Nat) ({ cls := "SpaceBasis", name := "startOfLine", desc := "(I)I" } : Jvm.MethodName) "SpaceBasis"), (Jvm.Cond.methodLinkNest "SpaceBasis$Space" (100 : Nat) ({ cls := "SpaceBasis", name := "topOf", desc := "([II)I" } : Jvm.MethodName) "SpaceBasis"), (Jvm.Cond.methodLinkNest "SpaceBasis$Origins" (24 : Nat) ({ cls := "SpaceBasis", name := "startOfLine", desc := "(I)I" } : Jvm.MethodName) "SpaceBasis")]
set_option maxRecDepth 100000 in
theorem vwNW_in : ∀ w ∈ vwNW, w ∈ lw_tbl := fun w h => by
  have e : vwNW = [60, 65, 66, 72, 77, 79, 80, 82, 85, 86, 89, 91, 112, 119, 120, 122, 123, 125, 126, 127, 143, 148, 149, 151, 152, 154, 155, 169, 173, 175, 178, 179, 181, 182, 183, 185, 219, 222, 224, 270, 358, 565, 566, 580].filterMap (fun i => lw_tbl[i]?) := rfl
  rw [e] at h
  obtain ⟨i, -, hi⟩ := List.mem_filterMap.mp h
  exact List.mem_of_getElem? hi
def vw_nest : Cond → Bool
  | .fieldLinkNest .. => true
  | .methodLinkNest .. => true
  | _ => false
theorem vwNW_nest : vwNW.all vw_nest = true := by decide +kernel
theorem vw_nest_on : ∀ w : Cond, vw_nest w = true → w.onTables = true := fun w h => by
  unfold vw_nest at h
  split at h
  · rfl
  · rfl
  · cases h
theorem vw_nest_warm {s U : State} (hW : s.WarmedH U.vm) : ∀ w : Cond, vw_nest w = true → va_Nw w s → va_Nw w U := fun w h hz => by
  unfold vw_nest at h
  split at h
  · exact va_Nw.warmF hW hz
  · exact va_Nw.warmM hW hz
  · cases h
def vwN (U : State) : Prop := ∀ w ∈ vwNW, va_Nw w U
theorem vwN.warm {s U : State} (hW : s.WarmedH U.vm) (h : vwN s) : vwN U := fun w hw => vw_nest_warm hW w (List.all_eq_true.mp vwNW_nest w hw) (h w hw)
theorem vwN.same {s U : State} (e : s.vm = U.vm) (h : vwN s) : vwN U := fun w hw => va_Nw.same (vw_nest_on w (List.all_eq_true.mp vwNW_nest w hw)) e (h w hw)
theorem kn_0 : (Jvm.Cond.methodLinkNest "SpaceBasis" (11 : Nat) ({ cls := "SpaceBasis$Modulus", name := "<init>", desc := "()V" } : Jvm.MethodName) "SpaceBasis") ∈ vwNW := List.mem_of_getElem? (i := 0) rfl
theorem kn_1 : (Jvm.Cond.fieldLinkNest "SpaceBasis$Space" (139 : Nat) "SpaceBasis$Modulus" "prime" "I" "SpaceBasis") ∈ vwNW := List.mem_of_getElem? (i := 1) rfl
theorem kn_2 : (Jvm.Cond.fieldLinkNest "SpaceBasis" (191 : Nat) "SpaceBasis$Modulus" "prime" "I" "SpaceBasis") ∈ vwNW := List.mem_of_getElem? (i := 2) rfl
theorem kn_3 : (Jvm.Cond.methodLinkNest "SpaceBasis" (18 : Nat) ({ cls := "SpaceBasis$Monomials", name := "<init>", desc := "()V" } : Jvm.MethodName) "SpaceBasis") ∈ vwNW := List.mem_of_getElem? (i := 3) rfl
theorem kn_4 : (Jvm.Cond.fieldLinkNest "SpaceBasis" (154 : Nat) "SpaceBasis$Monomials" "codes" "[I" "SpaceBasis") ∈ vwNW := List.mem_of_getElem? (i := 4) rfl
theorem kn_5 : (Jvm.Cond.fieldLinkNest "SpaceBasis$Space" (87 : Nat) "SpaceBasis$Monomials" "degrees" "[I" "SpaceBasis") ∈ vwNW := List.mem_of_getElem? (i := 5) rfl
theorem kn_6 : (Jvm.Cond.fieldLinkNest "SpaceBasis$Members" (95 : Nat) "SpaceBasis$Monomials" "degrees" "[I" "SpaceBasis") ∈ vwNW := List.mem_of_getElem? (i := 6) rfl
theorem kn_7 : (Jvm.Cond.fieldLinkNest "SpaceBasis$Space" (52 : Nat) "SpaceBasis$Monomials" "firstOfDegree" "[I" "SpaceBasis") ∈ vwNW := List.mem_of_getElem? (i := 7) rfl
theorem kn_8 : (Jvm.Cond.fieldLinkNest "SpaceBasis$Members" (57 : Nat) "SpaceBasis$Monomials" "variables" "I" "SpaceBasis") ∈ vwNW := List.mem_of_getElem? (i := 8) rfl
theorem kn_9 : (Jvm.Cond.fieldLinkNest "SpaceBasis$Space" (90 : Nat) "SpaceBasis$Monomials" "variables" "I" "SpaceBasis") ∈ vwNW := List.mem_of_getElem? (i := 9) rfl
theorem kn_10 : (Jvm.Cond.fieldLinkNest "SpaceBasis" (124 : Nat) "SpaceBasis$Monomials" "highest" "I" "SpaceBasis") ∈ vwNW := List.mem_of_getElem? (i := 10) rfl
theorem kn_11 : (Jvm.Cond.fieldLinkNest "SpaceBasis" (96 : Nat) "SpaceBasis$Monomials" "count" "I" "SpaceBasis") ∈ vwNW := List.mem_of_getElem? (i := 11) rfl
theorem kn_12 : (Jvm.Cond.methodLinkNest "SpaceBasis" (25 : Nat) ({ cls := "SpaceBasis$Generators", name := "<init>", desc := "()V" } : Jvm.MethodName) "SpaceBasis") ∈ vwNW := List.mem_of_getElem? (i := 12) rfl
theorem kn_13 : (Jvm.Cond.fieldLinkNest "SpaceBasis$Space" (69 : Nat) "SpaceBasis$Generators" "polynomials" "[[I" "SpaceBasis") ∈ vwNW := List.mem_of_getElem? (i := 13) rfl
theorem kn_14 : (Jvm.Cond.fieldLinkNest "SpaceBasis$Proof" (99 : Nat) "SpaceBasis$Generators" "polynomials" "[[I" "SpaceBasis") ∈ vwNW := List.mem_of_getElem? (i := 14) rfl
theorem kn_15 : (Jvm.Cond.fieldLinkNest "SpaceBasis$Space" (66 : Nat) "SpaceBasis$Generators" "tops" "[I" "SpaceBasis") ∈ vwNW := List.mem_of_getElem? (i := 15) rfl
theorem kn_16 : (Jvm.Cond.fieldLinkNest "SpaceBasis$Proof" (96 : Nat) "SpaceBasis$Generators" "tops" "[I" "SpaceBasis") ∈ vwNW := List.mem_of_getElem? (i := 16) rfl
theorem kn_17 : (Jvm.Cond.fieldLinkNest "SpaceBasis$Space" (63 : Nat) "SpaceBasis$Generators" "count" "I" "SpaceBasis") ∈ vwNW := List.mem_of_getElem? (i := 17) rfl
theorem kn_18 : (Jvm.Cond.fieldLinkNest "SpaceBasis" (105 : Nat) "SpaceBasis$Generators" "count" "I" "SpaceBasis") ∈ vwNW := List.mem_of_getElem? (i := 18) rfl
theorem kn_19 : (Jvm.Cond.fieldLinkNest "SpaceBasis$Proof" (93 : Nat) "SpaceBasis$Generators" "count" "I" "SpaceBasis") ∈ vwNW := List.mem_of_getElem? (i := 19) rfl
theorem kn_20 : (Jvm.Cond.methodLinkNest "SpaceBasis$Space" (11 : Nat) ({ cls := "SpaceBasis$Origins", name := "<init>", desc := "()V" } : Jvm.MethodName) "SpaceBasis") ∈ vwNW := List.mem_of_getElem? (i := 20) rfl
theorem kn_21 : (Jvm.Cond.fieldLinkNest "SpaceBasis$Space" (117 : Nat) "SpaceBasis$Origins" "sources" "[I" "SpaceBasis") ∈ vwNW := List.mem_of_getElem? (i := 21) rfl
theorem kn_22 : (Jvm.Cond.fieldLinkNest "SpaceBasis$Proof" (87 : Nat) "SpaceBasis$Origins" "sources" "[I" "SpaceBasis") ∈ vwNW := List.mem_of_getElem? (i := 22) rfl
theorem kn_23 : (Jvm.Cond.fieldLinkNest "SpaceBasis$Space" (120 : Nat) "SpaceBasis$Origins" "variables" "[I" "SpaceBasis") ∈ vwNW := List.mem_of_getElem? (i := 23) rfl
theorem kn_24 : (Jvm.Cond.fieldLinkNest "SpaceBasis$Proof" (90 : Nat) "SpaceBasis$Origins" "variables" "[I" "SpaceBasis") ∈ vwNW := List.mem_of_getElem? (i := 24) rfl
theorem kn_25 : (Jvm.Cond.fieldLinkNest "SpaceBasis$Space" (122 : Nat) "SpaceBasis$Origins" "factors" "[I" "SpaceBasis") ∈ vwNW := List.mem_of_getElem? (i := 25) rfl
theorem kn_26 : (Jvm.Cond.fieldLinkNest "SpaceBasis$Proof" (70 : Nat) "SpaceBasis$Origins" "factors" "[I" "SpaceBasis") ∈ vwNW := List.mem_of_getElem? (i := 26) rfl
theorem kn_27 : (Jvm.Cond.fieldLinkNest "SpaceBasis$Proof" (66 : Nat) "SpaceBasis$Space" "origins" "LSpaceBasis$Origins;" "SpaceBasis") ∈ vwNW := List.mem_of_getElem? (i := 27) rfl
theorem kn_28 : (Jvm.Cond.fieldLinkNest "SpaceBasis$Members" (72 : Nat) "SpaceBasis$Space" "rowOfLead" "[I" "SpaceBasis") ∈ vwNW := List.mem_of_getElem? (i := 28) rfl
theorem kn_29 : (Jvm.Cond.fieldLinkNest "SpaceBasis$Proof" (42 : Nat) "SpaceBasis$Space" "taken" "[I" "SpaceBasis") ∈ vwNW := List.mem_of_getElem? (i := 29) rfl
theorem kn_30 : (Jvm.Cond.fieldLinkNest "SpaceBasis$Members" (98 : Nat) "SpaceBasis$Space" "degree" "I" "SpaceBasis") ∈ vwNW := List.mem_of_getElem? (i := 30) rfl
theorem kn_31 : (Jvm.Cond.fieldLinkNest "SpaceBasis" (129 : Nat) "SpaceBasis$Space" "degree" "I" "SpaceBasis") ∈ vwNW := List.mem_of_getElem? (i := 31) rfl
theorem kn_32 : (Jvm.Cond.fieldLinkNest "SpaceBasis$Members" (33 : Nat) "SpaceBasis$Space" "size" "I" "SpaceBasis") ∈ vwNW := List.mem_of_getElem? (i := 32) rfl
theorem kn_33 : (Jvm.Cond.fieldLinkNest "SpaceBasis$Proof" (63 : Nat) "SpaceBasis$Space" "size" "I" "SpaceBasis") ∈ vwNW := List.mem_of_getElem? (i := 33) rfl
theorem kn_34 : (Jvm.Cond.fieldLinkNest "SpaceBasis" (140 : Nat) "SpaceBasis$Space" "size" "I" "SpaceBasis") ∈ vwNW := List.mem_of_getElem? (i := 34) rfl
theorem kn_35 : (Jvm.Cond.fieldLinkNest "SpaceBasis$Proof" (37 : Nat) "SpaceBasis$Space" "count" "I" "SpaceBasis") ∈ vwNW := List.mem_of_getElem? (i := 35) rfl
theorem kn_36 : (Jvm.Cond.fieldLinkNest "SpaceBasis" (157 : Nat) "SpaceBasis$Members" "leads" "[I" "SpaceBasis") ∈ vwNW := List.mem_of_getElem? (i := 36) rfl
theorem kn_37 : (Jvm.Cond.fieldLinkNest "SpaceBasis" (150 : Nat) "SpaceBasis$Members" "count" "I" "SpaceBasis") ∈ vwNW := List.mem_of_getElem? (i := 37) rfl
theorem kn_38 : (Jvm.Cond.fieldLinkNest "SpaceBasis" (164 : Nat) "SpaceBasis$Members" "complete" "Z" "SpaceBasis") ∈ vwNW := List.mem_of_getElem? (i := 38) rfl
theorem kn_39 : (Jvm.Cond.fieldLinkNest "SpaceBasis$Monomials" (31 : Nat) "SpaceBasis" "HIGHEST_OF_VARIABLES" "[I" "SpaceBasis") ∈ vwNW := List.mem_of_getElem? (i := 39) rfl
theorem kn_40 : (Jvm.Cond.methodLinkNest "SpaceBasis$Members" (82 : Nat) ({ cls := "SpaceBasis", name := "startOfLine", desc := "(I)I" } : Jvm.MethodName) "SpaceBasis") ∈ vwNW := List.mem_of_getElem? (i := 40) rfl
theorem kn_41 : (Jvm.Cond.methodLinkNest "SpaceBasis$Space" (110 : Nat) ({ cls := "SpaceBasis", name := "startOfLine", desc := "(I)I" } : Jvm.MethodName) "SpaceBasis") ∈ vwNW := List.mem_of_getElem? (i := 41) rfl
theorem kn_42 : (Jvm.Cond.methodLinkNest "SpaceBasis$Space" (100 : Nat) ({ cls := "SpaceBasis", name := "topOf", desc := "([II)I" } : Jvm.MethodName) "SpaceBasis") ∈ vwNW := List.mem_of_getElem? (i := 42) rfl
theorem kn_43 : (Jvm.Cond.methodLinkNest "SpaceBasis$Origins" (24 : Nat) ({ cls := "SpaceBasis", name := "startOfLine", desc := "(I)I" } : Jvm.MethodName) "SpaceBasis") ∈ vwNW := List.mem_of_getElem? (i := 43) rfl
def R_x : String := "SpaceBasis"
def F_x : u_T := fun k => match k with
  | 0 => ("SpaceBasis", "modulus", "LSpaceBasis$Modulus;", true)
  | 1 => ("SpaceBasis", "monomials", "LSpaceBasis$Monomials;", true)
  | 2 => ("SpaceBasis", "generators", "LSpaceBasis$Generators;", true)
  | 3 => ("SpaceBasis", "space", "LSpaceBasis$Space;", true)
  | 4 => ("SpaceBasis", "members", "LSpaceBasis$Members;", true)
  | 5 => ("SpaceBasis", "proof", "LSpaceBasis$Proof;", true)
  | 6 => ("SpaceBasis", "inHand", "[I", true)
  | 7 => ("SpaceBasis", "asked", "[I", true)
  | _ => ("SpaceBasis", "provedCount", "I", false)
def t_x : Nat → FieldType := fun k => match k with
  | 0 => .object "SpaceBasis$Modulus"
  | 1 => .object "SpaceBasis$Monomials"
  | 2 => .object "SpaceBasis$Generators"
  | 3 => .object "SpaceBasis$Space"
  | 4 => .object "SpaceBasis$Members"
  | 5 => .object "SpaceBasis$Proof"
  | 6 => .array (.int)
  | 7 => .array (.int)
  | _ => .int
theorem n_x : ∀ a, a < 9 → ∀ b, b < 9 → a ≠ b → (F_x a).2.1 ≠ (F_x b).2.1 := by decide +kernel
theorem t_x_ok : ∀ k, k < 9 → parseFieldDescriptor (F_x k).2.2.1 = some (t_x k) := by decide +kernel
set_option maxRecDepth 100000 in
theorem in_x : ∀ w ∈ u_ws R_x F_x 9, w ∈ vwWS := fun w h => (goodIn_r (u_ws R_x F_x 9) [267, 269, 271, 273, 275, 277, 279, 281, 283] rfl (by decide +kernel) w h).1
def R_mo : String := "SpaceBasis$Modulus"
def F_mo : u_T := fun k => match k with
  | _ => ("SpaceBasis$Modulus", "prime", "I", false)
def t_mo : Nat → FieldType := fun k => match k with
  | _ => .int
theorem n_mo : ∀ a, a < 1 → ∀ b, b < 1 → a ≠ b → (F_mo a).2.1 ≠ (F_mo b).2.1 := by decide +kernel
theorem t_mo_ok : ∀ k, k < 1 → parseFieldDescriptor (F_mo k).2.2.1 = some (t_mo k) := by decide +kernel
set_option maxRecDepth 100000 in
theorem in_mo : ∀ w ∈ u_ws R_mo F_mo 1, w ∈ vwWS := fun w h => (goodIn_r (u_ws R_mo F_mo 1) [64] rfl (by decide +kernel) w h).1
def R_mn : String := "SpaceBasis$Monomials"
def F_mn : u_T := fun k => match k with
  | 0 => ("SpaceBasis$Monomials", "codes", "[I", true)
  | 1 => ("SpaceBasis$Monomials", "degrees", "[I", true)
  | 2 => ("SpaceBasis$Monomials", "firstOfDegree", "[I", true)
  | 3 => ("SpaceBasis$Monomials", "products", "[I", true)
  | 4 => ("SpaceBasis$Monomials", "variables", "I", false)
  | 5 => ("SpaceBasis$Monomials", "order", "I", false)
  | 6 => ("SpaceBasis$Monomials", "highest", "I", false)
  | _ => ("SpaceBasis$Monomials", "count", "I", false)
def t_mn : Nat → FieldType := fun k => match k with
  | 0 => .array (.int)
  | 1 => .array (.int)
  | 2 => .array (.int)
  | 3 => .array (.int)
  | 4 => .int
  | 5 => .int
  | 6 => .int
  | _ => .int
theorem n_mn : ∀ a, a < 8 → ∀ b, b < 8 → a ≠ b → (F_mn a).2.1 ≠ (F_mn b).2.1 := by decide +kernel
theorem t_mn_ok : ∀ k, k < 8 → parseFieldDescriptor (F_mn k).2.2.1 = some (t_mn k) := by decide +kernel
set_option maxRecDepth 100000 in
theorem in_mn : ∀ w ∈ u_ws R_mn F_mn 8, w ∈ vwWS := fun w h => (goodIn_r (u_ws R_mn F_mn 8) [80, 82, 84, 86, 88, 90, 92, 94] rfl (by decide +kernel) w h).1
def R_ge : String := "SpaceBasis$Generators"
def F_ge : u_T := fun k => match k with
  | 0 => ("SpaceBasis$Generators", "polynomials", "[[I", true)
  | 1 => ("SpaceBasis$Generators", "tops", "[I", true)
  | _ => ("SpaceBasis$Generators", "count", "I", false)
def t_ge : Nat → FieldType := fun k => match k with
  | 0 => .array (.array (.int))
  | 1 => .array (.int)
  | _ => .int
theorem n_ge : ∀ a, a < 3 → ∀ b, b < 3 → a ≠ b → (F_ge a).2.1 ≠ (F_ge b).2.1 := by decide +kernel
theorem t_ge_ok : ∀ k, k < 3 → parseFieldDescriptor (F_ge k).2.2.1 = some (t_ge k) := by decide +kernel
set_option maxRecDepth 100000 in
theorem in_ge : ∀ w ∈ u_ws R_ge F_ge 3, w ∈ vwWS := fun w h => (goodIn_r (u_ws R_ge F_ge 3) [107, 109, 111] rfl (by decide +kernel) w h).1
def R_sp : String := "SpaceBasis$Space"
def F_sp : u_T := fun k => match k with
  | 0 => ("SpaceBasis$Space", "modulus", "LSpaceBasis$Modulus;", true)
  | 1 => ("SpaceBasis$Space", "monomials", "LSpaceBasis$Monomials;", true)
  | 2 => ("SpaceBasis$Space", "origins", "LSpaceBasis$Origins;", true)
  | 3 => ("SpaceBasis$Space", "coefficients", "[I", true)
  | 4 => ("SpaceBasis$Space", "leads", "[I", true)
  | 5 => ("SpaceBasis$Space", "rowOfLead", "[I", true)
  | 6 => ("SpaceBasis$Space", "taken", "[I", true)
  | 7 => ("SpaceBasis$Space", "work", "[I", true)
  | 8 => ("SpaceBasis$Space", "degree", "I", false)
  | 9 => ("SpaceBasis$Space", "size", "I", false)
  | _ => ("SpaceBasis$Space", "count", "I", false)
def t_sp : Nat → FieldType := fun k => match k with
  | 0 => .object "SpaceBasis$Modulus"
  | 1 => .object "SpaceBasis$Monomials"
  | 2 => .object "SpaceBasis$Origins"
  | 3 => .array (.int)
  | 4 => .array (.int)
  | 5 => .array (.int)
  | 6 => .array (.int)
  | 7 => .array (.int)
  | 8 => .int
  | 9 => .int
  | _ => .int
theorem n_sp : ∀ a, a < 11 → ∀ b, b < 11 → a ≠ b → (F_sp a).2.1 ≠ (F_sp b).2.1 := by decide +kernel
theorem t_sp_ok : ∀ k, k < 11 → parseFieldDescriptor (F_sp k).2.2.1 = some (t_sp k) := by decide +kernel
set_option maxRecDepth 100000 in
theorem in_sp : ∀ w ∈ u_ws R_sp F_sp 11, w ∈ vwWS := fun w h => (goodIn_r (u_ws R_sp F_sp 11) [149, 151, 153, 155, 157, 159, 161, 163, 165, 167, 169] rfl (by decide +kernel) w h).1
def R_og : String := "SpaceBasis$Origins"
def F_og : u_T := fun k => match k with
  | 0 => ("SpaceBasis$Origins", "sources", "[I", true)
  | 1 => ("SpaceBasis$Origins", "variables", "[I", true)
  | 2 => ("SpaceBasis$Origins", "factors", "[I", true)
  | _ => ("SpaceBasis$Origins", "numbers", "[I", true)
def t_og : Nat → FieldType := fun k => match k with
  | 0 => .array (.int)
  | 1 => .array (.int)
  | 2 => .array (.int)
  | _ => .array (.int)
theorem n_og : ∀ a, a < 4 → ∀ b, b < 4 → a ≠ b → (F_og a).2.1 ≠ (F_og b).2.1 := by decide +kernel
theorem t_og_ok : ∀ k, k < 4 → parseFieldDescriptor (F_og k).2.2.1 = some (t_og k) := by decide +kernel
set_option maxRecDepth 100000 in
theorem in_og : ∀ w ∈ u_ws R_og F_og 4, w ∈ vwWS := fun w h => (goodIn_r (u_ws R_og F_og 4) [129, 131, 133, 135] rfl (by decide +kernel) w h).1
def R_me : String := "SpaceBasis$Members"
def F_me : u_T := fun k => match k with
  | 0 => ("SpaceBasis$Members", "monomials", "LSpaceBasis$Monomials;", true)
  | 1 => ("SpaceBasis$Members", "space", "LSpaceBasis$Space;", true)
  | 2 => ("SpaceBasis$Members", "coefficients", "[I", true)
  | 3 => ("SpaceBasis$Members", "leads", "[I", true)
  | 4 => ("SpaceBasis$Members", "work", "[I", true)
  | 5 => ("SpaceBasis$Members", "count", "I", false)
  | _ => ("SpaceBasis$Members", "complete", "Z", false)
def t_me : Nat → FieldType := fun k => match k with
  | 0 => .object "SpaceBasis$Monomials"
  | 1 => .object "SpaceBasis$Space"
  | 2 => .array (.int)
  | 3 => .array (.int)
  | 4 => .array (.int)
  | 5 => .int
  | _ => .boolean
theorem n_me : ∀ a, a < 7 → ∀ b, b < 7 → a ≠ b → (F_me a).2.1 ≠ (F_me b).2.1 := by decide +kernel
theorem t_me_ok : ∀ k, k < 7 → parseFieldDescriptor (F_me k).2.2.1 = some (t_me k) := by decide +kernel
set_option maxRecDepth 100000 in
theorem in_me : ∀ w ∈ u_ws R_me F_me 7, w ∈ vwWS := fun w h => (goodIn_r (u_ws R_me F_me 7) [185, 187, 189, 191, 193, 195, 197] rfl (by decide +kernel) w h).1
def R_pr : String := "SpaceBasis$Proof"
def F_pr : u_T := fun k => match k with
  | 0 => ("SpaceBasis$Proof", "modulus", "LSpaceBasis$Modulus;", true)
  | 1 => ("SpaceBasis$Proof", "generators", "LSpaceBasis$Generators;", true)
  | 2 => ("SpaceBasis$Proof", "space", "LSpaceBasis$Space;", true)
  | 3 => ("SpaceBasis$Proof", "line", "[I", true)
  | _ => ("SpaceBasis$Proof", "reckoned", "I", false)
def t_pr : Nat → FieldType := fun k => match k with
  | 0 => .object "SpaceBasis$Modulus"
  | 1 => .object "SpaceBasis$Generators"
  | 2 => .object "SpaceBasis$Space"
  | 3 => .array (.int)
  | _ => .int
theorem n_pr : ∀ a, a < 5 → ∀ b, b < 5 → a ≠ b → (F_pr a).2.1 ≠ (F_pr b).2.1 := by decide +kernel
theorem t_pr_ok : ∀ k, k < 5 → parseFieldDescriptor (F_pr k).2.2.1 = some (t_pr k) := by decide +kernel
set_option maxRecDepth 100000 in
theorem in_pr : ∀ w ∈ u_ws R_pr F_pr 5, w ∈ vwWS := fun w h => (goodIn_r (u_ws R_pr F_pr 5) [211, 213, 215, 217, 219] rfl (by decide +kernel) w h).1
def R_md : String := "SpaceBasisModel"
def F_md : u_T := fun k => match k with
  | 0 => ("SpaceBasisModel", "thrownCode", "I", false)
  | 1 => ("SpaceBasisModel", "p", "I", false)
  | 2 => ("SpaceBasisModel", "n", "I", false)
  | 3 => ("SpaceBasisModel", "order", "I", false)
  | 4 => ("SpaceBasisModel", "monomials", "I", false)
  | 5 => ("SpaceBasisModel", "mono", "[I", true)
  | 6 => ("SpaceBasisModel", "degree", "[I", true)
  | 7 => ("SpaceBasisModel", "generators", "I", false)
  | 8 => ("SpaceBasisModel", "generator", "[I", true)
  | 9 => ("SpaceBasisModel", "hand", "[I", true)
  | 10 => ("SpaceBasisModel", "found", "Z", false)
  | 11 => ("SpaceBasisModel", "upTo", "I", false)
  | 12 => ("SpaceBasisModel", "has", "[Z", true)
  | 13 => ("SpaceBasisModel", "row", "[I", true)
  | 14 => ("SpaceBasisModel", "work", "[I", true)
  | 15 => ("SpaceBasisModel", "basis", "[I", true)
  | 16 => ("SpaceBasisModel", "members", "I", false)
  | _ => ("SpaceBasisModel", "provedNow", "I", false)
def t_md : Nat → FieldType := fun k => match k with
  | 0 => .int
  | 1 => .int
  | 2 => .int
  | 3 => .int
  | 4 => .int
  | 5 => .array (.int)
  | 6 => .array (.int)
  | 7 => .int
  | 8 => .array (.int)
  | 9 => .array (.int)
  | 10 => .boolean
  | 11 => .int
  | 12 => .array (.boolean)
  | 13 => .array (.int)
  | 14 => .array (.int)
  | 15 => .array (.int)
  | 16 => .int
  | _ => .int
theorem n_md : ∀ a, a < 18 → ∀ b, b < 18 → a ≠ b → (F_md a).2.1 ≠ (F_md b).2.1 := by decide +kernel
theorem t_md_ok : ∀ k, k < 18 → parseFieldDescriptor (F_md k).2.2.1 = some (t_md k) := by decide +kernel
set_option maxRecDepth 100000 in
theorem in_md : ∀ w ∈ u_ws R_md F_md 18, w ∈ vwWS := fun w h => (goodIn_r (u_ws R_md F_md 18) [636, 638, 640, 642, 644, 646, 648, 650, 652, 654, 656, 658, 660, 662, 664, 666, 668, 670] rfl (by decide +kernel) w h).1
abbrev vwCl : List vw_C := [(R_x, F_x, 9), (R_mo, F_mo, 1), (R_mn, F_mn, 8), (R_ge, F_ge, 3), (R_sp, F_sp, 11), (R_og, F_og, 4), (R_me, F_me, 7), (R_pr, F_pr, 5), (R_md, F_md, 18)]
abbrev vwT (cs : Nat → ClassId) : List (ClassId × FieldType) := [(cs 0, .int), (cs 1, .array .int), (cs 2, .boolean), (cs 3, .long)]
abbrev vwK (dC : Nat → ClassId) (dI : Nat → Nat → Nat) (cs : Nat → ClassId) (U : State) : Prop := va_K (dC, dI) vwCl (vwT cs) U ∧ vwN U
theorem vwK.warm {dC : Nat → ClassId} {dI : Nat → Nat → Nat} {cs : Nat → ClassId} {s U : State} (hW : s.WarmedH U.vm) (h : vwK dC dI cs s) : vwK dC dI cs U := ⟨va_K.moved hW.alike h.1, vwN.warm hW h.2⟩
theorem vwK.call {dC : Nat → ClassId} {dI : Nat → Nat → Nat} {cs : Nat → ClassId} {U : State} {g : JFrame} {mk : MethodId} {a : Array Value} (h : vwK dC dI cs U) : vwK dC dI cs (U.calling g mk a) := ⟨va_K.moved (u := U) (U := U.calling g mk a) (Vm.Alike.refl U.vm) h.1, vwN.same (s := U) (U := U.calling g mk a) rfl h.2⟩
end
section
abbrev b_Ar_fill : ByteArray := prog_20_method_103_code
def y_Ar_fill : MethodName := ⟨"java/util/Arrays", "fill", "([II)V"⟩
def w_Ar_fill : List Cond := Cond.code y_Ar_fill b_Ar_fill 4 none :: vwWS
theorem d_Ar_fill_0 : decode b_Ar_fill 0 = .ok (.iconst 0, 1) := by decide +kernel
theorem d_Ar_fill_1 : decode b_Ar_fill 1 = .ok (.istore_n 2, 1) := by decide +kernel
theorem d_Ar_fill_2 : decode b_Ar_fill 2 = .ok (.aload_n 0, 1) := by decide +kernel
theorem d_Ar_fill_3 : decode b_Ar_fill 3 = .ok (.arraylength, 1) := by decide +kernel
theorem d_Ar_fill_4 : decode b_Ar_fill 4 = .ok (.istore_n 3, 1) := by decide +kernel
theorem d_Ar_fill_5 : decode b_Ar_fill 5 = .ok (.iload_n 2, 1) := by decide +kernel
theorem d_Ar_fill_6 : decode b_Ar_fill 6 = .ok (.iload_n 3, 1) := by decide +kernel
theorem d_Ar_fill_7 : decode b_Ar_fill 7 = .ok (.if_icmp .ge 13, 3) := by decide +kernel
theorem d_Ar_fill_10 : decode b_Ar_fill 10 = .ok (.aload_n 0, 1) := by decide +kernel
theorem d_Ar_fill_11 : decode b_Ar_fill 11 = .ok (.iload_n 2, 1) := by decide +kernel
theorem d_Ar_fill_12 : decode b_Ar_fill 12 = .ok (.iload_n 1, 1) := by decide +kernel
theorem d_Ar_fill_13 : decode b_Ar_fill 13 = .ok (.iastore, 1) := by decide +kernel
theorem d_Ar_fill_14 : decode b_Ar_fill 14 = .ok (.iinc 2 1, 3) := by decide +kernel
theorem d_Ar_fill_17 : decode b_Ar_fill 17 = .ok (.goto (-12), 3) := by decide +kernel
theorem d_Ar_fill_20 : decode b_Ar_fill 20 = .ok (.return_, 1) := by decide +kernel
/-- java/util/Arrays.fill([II)V -/
def vc_Ar_fill (nA0 : Nat) (A0 : Nat → Int32) (p1 : Int32) (Q : (Nat → Int32) → Prop) : Prop :=
  ∀ x3_1 : Int32, x3_1 = (Int32.ofNat nA0) → ∃ (I5_4 : Int32 → (Nat → Int32) → Prop) (mu5_5 : Int32 → (Nat → Int32) → Nat), I5_4 0 A0 ∧ ∀ (x2_2 : Int32) (A0_3 : Nat → Int32), I5_4 x2_2 A0_3 → ((((x3_1 ≤ x2_2) → (Q A0_3)) ∧ ((¬ (x3_1 ≤ x2_2)) → (vp_in x2_2 nA0 ∧ ∀ A0_8 : Nat → Int32, A0_8 = upd A0_3 x2_2.toNatClampNeg p1 → ∀ x2_9 : Int32, x2_9 = x2_2 + 1 → (I5_4 x2_9 A0_8 ∧ mu5_5 x2_9 A0_8 < mu5_5 x2_2 A0_3)))))
abbrev at_Ar_fill (dC : Nat → ClassId) (dI : Nat → Nat → Nat) (cs : Nat → ClassId) (A : Nat → Prop) (ad : Nat → Nat) (aA0 : Nat) (nA0 : Nat) (u : (Nat → Int32)) (t : State) : Prop := match u with
  | A0 => va_P (dC, dI) vwCl [(aA0, .inl (cs 0, nA0, .inl A0))] t.heap ∧ va_D A [(aA0, .inl (cs 0, nA0, .inl A0))]
set_option maxHeartbeats 4000000 in
set_option maxRecDepth 100000 in
theorem c_Ar_fill (l : Launch) (dC : Nat → ClassId) (dI : Nat → Nat → Nat) (cs : Nat → ClassId) (ad : Nat → Nat) (aA0 : Nat) (sz : Nat) (nA0 : Nat) (A0 : Nat → Int32) (p1 : Int32) (Q : (Nat → Int32) → Prop) (hv : vc_Ar_fill nA0 A0 p1 Q) : Met l y_Ar_fill w_Ar_fill ({ frames := 0, cells := 0, slots := 0, locals := 0 }) (va_Pc [.ref aA0, .int p1] (fun U => U.heap.size = sz ∧ va_P (dC, dI) vwCl [(aA0, .inl (cs 0, nA0, .inl A0))] U.heap ∧ vwK dC dI cs U ∧ va_D (fun _ => True) [(aA0, .inl (cs 0, nA0, .inl A0))])) (va_Qv (fun (u : (Nat → Int32)) => Q u) (at_Ar_fill dC dI cs (va_A [(aA0, .inl (cs 0, nA0, .inl A0))] sz) ad aA0 nA0) (va_A [(aA0, .inl (cs 0, nA0, .inl A0))] sz)) 0 0 (va_A [(aA0, .inl (cs 0, nA0, .inl A0))] sz) := by
  unfold vc_Ar_fill at hv
  refine va_MetF (cc := b_Ar_fill) (maxL := 4) (ret := none) (by decide +kernel) rfl ?_
  intro p e s m args below meth c s₁ B hml hpc
  obtain ⟨rfl, hsz, hP, ⟨hK, hN⟩, hD0⟩ := hpc
  have hx := B.exec
  have hb := B.bytes
  have hr := B.returns
  have hts : ∀ w ∈ vwWS, w.before _ s = true := fun w h => atoms_spec (ws := w_Ar_fill) B.pre w (List.mem_cons_of_mem _ h)
  have hown : s.vm.findClass "java/util/Arrays" = some m.cls := findClass_of_methodNamed B.named
  have hlocks := B.notSynchronized
  subst hsz
  have hD := hD0.self (sz := s.heap.size)
  generalize hAe : va_A [(aA0, .inl (cs 0, nA0, .inl A0))] s.heap.size = A at hD ⊢
  have hA : ∀ q : Nat, s.heap.size ≤ q → A q := fun q h => by rw [← hAe]; exact Or.inr h
  have hS : va_S A s.heap s.heap [] := va_S.rf
  have hl := lv_entry ([.ref aA0, .int p1]) (n := 4) (Nat.le_of_ble_eq_true rfl)
  rw [lg_entry_eq]
  generalize (lg_sl ([.ref aA0, .int p1]) ++ List.replicate (4 - (lg_sl ([.ref aA0, .int p1])).length) Slot.unset).toArray = ls at hl ⊢
  have hl : lv_has ls 4 [(0, .ref aA0), (1, .int p1)] := hl
  refine lv_iconst (v := 0) hx hb d_Ar_fill_0 (by decide) ?_
  refine lv_istore_n (lv' := [(2, .int 0), (0, .ref aA0), (1, .int p1)]) hx hb d_Ar_fill_1 rfl hl (by decide) rfl (fun ls hl => ?_)
  refine lv_aload_n hx hb d_Ar_fill_2 rfl (lv_at hl 1 rfl) ?_
  refine va_alen hx hb hK hP 0 0 rfl rfl (v := (Int32.ofNat nA0)) rfl d_Ar_fill_3 ?_
  refine lv_topi (fun x3_1 ex3_1 => ?_)
  have hv := hv x3_1 ex3_1
  refine lv_istore_n (lv' := [(3, .int x3_1), (2, .int 0), (0, .ref aA0), (1, .int p1)]) hx hb d_Ar_fill_4 rfl hl (by decide) rfl (fun ls hl => ?_)
  obtain ⟨I5_4, mu5_5, hi0, hv⟩ := hv
  have hP := hP.sub (ws' := [(aA0, .inl (cs 0, nA0, .inl A0))]) [0] rfl
  have hD := hD.sub (ws' := [(aA0, .inl (cs 0, nA0, .inl A0))]) [0] (by decide) rfl
  have hl := lv_sub (l' := [(0, .ref aA0), (1, .int p1), (2, .int 0), (3, .int x3_1)]) hl [2, 3, 1, 0] rfl
  have loop5 : ∀ (nn : Nat) (x2_2 : Int32) (A0_3 : Nat → Int32), mu5_5 x2_2 A0_3 < nn → I5_4 x2_2 A0_3 → ∀ (H : Heap) (locs : List Loc) (ls : Array Slot), va_P (dC, dI) vwCl [(aA0, .inl (cs 0, nA0, .inl A0_3))] H → va_D A [(aA0, .inl (cs 0, nA0, .inl A0_3))] → va_S A s.heap H locs → lv_has ls 4 [(0, .ref aA0), (1, .int p1), (2, .int x2_2), (3, .int x3_1)] → W p l e (headSpec w_Ar_fill { frames := 0, cells := 0, slots := 0, locals := 0 }).room s m ([.ref aA0, .int p1] : List Value).toArray below meth c H locs 0 0 (MQ below (va_Qv (fun (u : (Nat → Int32)) => Q u) (at_Ar_fill dC dI cs A ad aA0 nA0) A) ([.ref aA0, .int p1] : List Value).toArray s 0 0 A) (F0 m 5 ls []) := by
    intro nn
    induction nn with
    | zero => intro x2_2 A0_3 hlt; exact absurd hlt (Nat.not_lt_zero _)
    | succ nn ih5 =>
      intro x2_2 A0_3 hlt5 hI H locs ls hP hD hS hl
      have hv := hv x2_2 A0_3 hI
      refine lv_iload_n hx hb d_Ar_fill_5 rfl (lv_at hl 2 rfl) ?_
      refine lv_iload_n hx hb d_Ar_fill_6 rfl (lv_at hl 3 rfl) ?_
      refine lv_icmp_ge (tgt := 20) hx hb d_Ar_fill_7 (by decide) (fun c_6 => ?_) (fun c_6 => ?_)
      · have hv := hv.1 c_6
        have hP9 := hP.sub (ws' := [(aA0, .inl (cs 0, nA0, .inl A0_3))]) [0] rfl
        have hD9 := hD.sub (ws' := [(aA0, .inl (cs 0, nA0, .inl A0_3))]) [0] (by decide) rfl
        exact W.vret hx hb hr (fun t ht hW => ⟨⟨A0_3, rfl, hv, by rw [ht]; exact hP9, hD9⟩, hS.F ht⟩) hS.2.2 d_Ar_fill_20
      · have hv := hv.2 c_6
        refine lv_aload_n hx hb d_Ar_fill_10 rfl (lv_at hl 0 rfl) ?_
        refine lv_iload_n hx hb d_Ar_fill_11 rfl (lv_at hl 2 rfl) ?_
        refine lv_iload_n hx hb d_Ar_fill_12 rfl (lv_at hl 1 rfl) ?_
        obtain ⟨hi_7, hv⟩ := hv
        refine va_iast hx hb hK hP hD hS 0 0 rfl rfl hi_7 d_Ar_fill_13 (fun H locs hP hD hS => ?_)
        have hP : va_P (dC, dI) vwCl [(aA0, .inl (cs 0, nA0, .inl (upd A0_3 x2_2.toNatClampNeg p1)))] H := hP
        have hD : va_D A [(aA0, .inl (cs 0, nA0, .inl (upd A0_3 x2_2.toNatClampNeg p1)))] := hD
        generalize eA0_8 : upd A0_3 x2_2.toNatClampNeg p1 = A0_8 at hP hD
        have hv := hv A0_8 eA0_8.symm
        obtain ⟨x2_9, ex2_9⟩ : ∃ y : Int32, y = x2_2 + 1 := ⟨_, rfl⟩
        have hv := hv x2_9 ex2_9
        refine lv_iinc (v := x2_9) (lv' := [(2, .int x2_9), (0, .ref aA0), (1, .int p1), (3, .int x3_1)]) hx hb d_Ar_fill_14 hl (k := 2) rfl (by rw [ex2_9]; rfl) (by decide) rfl (fun ls hl => ?_)
        refine lv_goto (tgt := 5) hx hb d_Ar_fill_17 (by decide) ?_
        exact ih5 x2_9 A0_8 (Nat.lt_of_lt_of_le hv.2 (Nat.le_of_lt_succ hlt5)) hv.1 _ _ _ (hP.sub [0] rfl) (hD.sub [0] (by decide) rfl) hS (lv_sub hl [1, 2, 0, 3] rfl)
  exact loop5 _ 0 A0 (Nat.lt_succ_self _) hi0 _ _ _ hP hD hS hl
abbrev b_Ma_floorMod : ByteArray := prog_15_method_50_code
def y_Ma_floorMod : MethodName := ⟨"java/lang/Math", "floorMod", "(II)I"⟩
def w_Ma_floorMod : List Cond := Cond.code y_Ma_floorMod b_Ma_floorMod 3 (some .int) :: vwWS
theorem d_Ma_floorMod_0 : decode b_Ma_floorMod 0 = .ok (.iload_n 0, 1) := by decide +kernel
theorem d_Ma_floorMod_1 : decode b_Ma_floorMod 1 = .ok (.iload_n 1, 1) := by decide +kernel
theorem d_Ma_floorMod_2 : decode b_Ma_floorMod 2 = .ok (.irem, 1) := by decide +kernel
theorem d_Ma_floorMod_3 : decode b_Ma_floorMod 3 = .ok (.istore_n 2, 1) := by decide +kernel
theorem d_Ma_floorMod_4 : decode b_Ma_floorMod 4 = .ok (.iload_n 0, 1) := by decide +kernel
theorem d_Ma_floorMod_5 : decode b_Ma_floorMod 5 = .ok (.iload_n 1, 1) := by decide +kernel
theorem d_Ma_floorMod_6 : decode b_Ma_floorMod 6 = .ok (.ixor, 1) := by decide +kernel
theorem d_Ma_floorMod_7 : decode b_Ma_floorMod 7 = .ok (.ifCond .ge 11, 3) := by decide +kernel
theorem d_Ma_floorMod_10 : decode b_Ma_floorMod 10 = .ok (.iload_n 2, 1) := by decide +kernel
theorem d_Ma_floorMod_11 : decode b_Ma_floorMod 11 = .ok (.ifCond .eq 7, 3) := by decide +kernel
theorem d_Ma_floorMod_14 : decode b_Ma_floorMod 14 = .ok (.iload_n 2, 1) := by decide +kernel
theorem d_Ma_floorMod_15 : decode b_Ma_floorMod 15 = .ok (.iload_n 1, 1) := by decide +kernel
theorem d_Ma_floorMod_16 : decode b_Ma_floorMod 16 = .ok (.iadd, 1) := by decide +kernel
theorem d_Ma_floorMod_17 : decode b_Ma_floorMod 17 = .ok (.ireturn, 1) := by decide +kernel
theorem d_Ma_floorMod_18 : decode b_Ma_floorMod 18 = .ok (.iload_n 2, 1) := by decide +kernel
theorem d_Ma_floorMod_19 : decode b_Ma_floorMod 19 = .ok (.ireturn, 1) := by decide +kernel
/-- java/lang/Math.floorMod(II)I -/
def vc_Ma_floorMod (p0 : Int32) (p1 : Int32) (Q : Int32 → Prop) : Prop :=
  (¬ (p1 : Int32) = 0) ∧ ∀ x2_2 : Int32, x2_2 = (p0 - p0 / p1 * p1) → (((0 ≤ (p0 ^^^ p1)) → (Q x2_2)) ∧ ((¬ (0 ≤ (p0 ^^^ p1))) → ((((x2_2 = 0) → (Q x2_2)) ∧ ((¬ (x2_2 = 0)) → (Q (x2_2 + p1)))))))
abbrev at_Ma_floorMod (dC : Nat → ClassId) (dI : Nat → Nat → Nat) (cs : Nat → ClassId) (A : Nat → Prop) (ad : Nat → Nat)  (u : Unit) (t : State) : Prop := match u with
  | _ => va_P (dC, dI) vwCl [] t.heap ∧ va_D A []
set_option maxHeartbeats 4000000 in
set_option maxRecDepth 100000 in
theorem c_Ma_floorMod (l : Launch) (dC : Nat → ClassId) (dI : Nat → Nat → Nat) (cs : Nat → ClassId) (ad : Nat → Nat)  (sz : Nat) (p0 : Int32) (p1 : Int32) (Q : Int32 → Prop) (hv : vc_Ma_floorMod p0 p1 Q) : Met l y_Ma_floorMod w_Ma_floorMod ({ frames := 0, cells := 0, slots := 0, locals := 0 }) (va_Pc [.int p0, .int p1] (fun U => U.heap.size = sz ∧ va_P (dC, dI) vwCl [] U.heap ∧ vwK dC dI cs U ∧ va_D (fun _ => True) [])) (va_Qi (fun (r : Int32) (u : Unit) => Q r) (at_Ma_floorMod dC dI cs (va_A [] sz) ad ) (va_A [] sz)) 0 0 (va_A [] sz) := by
  unfold vc_Ma_floorMod at hv
  refine va_MetF (cc := b_Ma_floorMod) (maxL := 3) (ret := (some .int)) (by decide +kernel) rfl ?_
  intro p e s m args below meth c s₁ B hml hpc
  obtain ⟨rfl, hsz, hP, ⟨hK, hN⟩, hD0⟩ := hpc
  have hx := B.exec
  have hb := B.bytes
  have hr := B.returns
  have hts : ∀ w ∈ vwWS, w.before _ s = true := fun w h => atoms_spec (ws := w_Ma_floorMod) B.pre w (List.mem_cons_of_mem _ h)
  have hown : s.vm.findClass "java/lang/Math" = some m.cls := findClass_of_methodNamed B.named
  have hlocks := B.notSynchronized
  subst hsz
  have hD := hD0.self (sz := s.heap.size)
  generalize hAe : va_A [] s.heap.size = A at hD ⊢
  have hA : ∀ q : Nat, s.heap.size ≤ q → A q := fun q h => by rw [← hAe]; exact Or.inr h
  have hS : va_S A s.heap s.heap [] := va_S.rf
  have hl := lv_entry ([.int p0, .int p1]) (n := 3) (Nat.le_of_ble_eq_true rfl)
  rw [lg_entry_eq]
  generalize (lg_sl ([.int p0, .int p1]) ++ List.replicate (3 - (lg_sl ([.int p0, .int p1])).length) Slot.unset).toArray = ls at hl ⊢
  have hl : lv_has ls 3 [(0, .int p0), (1, .int p1)] := hl
  refine lv_iload_n hx hb d_Ma_floorMod_0 rfl (lv_at hl 0 rfl) ?_
  refine lv_iload_n hx hb d_Ma_floorMod_1 rfl (lv_at hl 1 rfl) ?_
  obtain ⟨hz_1, hv⟩ := hv
  refine lv_irem hx hb d_Ma_floorMod_2 hz_1 ?_
  refine lv_topi (fun x2_2 ex2_2 => ?_)
  have hv := hv x2_2 ex2_2
  refine lv_istore_n (lv' := [(2, .int x2_2), (0, .int p0), (1, .int p1)]) hx hb d_Ma_floorMod_3 rfl hl (by decide) rfl (fun ls hl => ?_)
  refine lv_iload_n hx hb d_Ma_floorMod_4 rfl (lv_at hl 1 rfl) ?_
  refine lv_iload_n hx hb d_Ma_floorMod_5 rfl (lv_at hl 2 rfl) ?_
  refine lv_ixor hx hb d_Ma_floorMod_6 ?_
  refine lv_if_ge (tgt := 18) hx hb d_Ma_floorMod_7 (by decide) (fun c_3 => ?_) (fun c_3 => ?_)
  · have hv := hv.1 c_3
    refine lv_iload_n hx hb d_Ma_floorMod_18 rfl (lv_at hl 0 rfl) ?_
    have hP9 := hP.sub (ws' := []) [] rfl
    have hD9 := hD.sub (ws' := []) [] (by decide) rfl
    exact W.iret (v := x2_2) hx hb hr (fun t ht hW => ⟨⟨x2_2, (), rfl, hv, by rw [ht]; exact hP9, hD9⟩, hS.F ht⟩) hS.2.2 d_Ma_floorMod_19
  · have hv := hv.2 c_3
    refine lv_iload_n hx hb d_Ma_floorMod_10 rfl (lv_at hl 0 rfl) ?_
    refine lv_if_eq (tgt := 18) hx hb d_Ma_floorMod_11 (by decide) (fun c_4 => ?_) (fun c_4 => ?_)
    · have hv := hv.1 c_4
      refine lv_iload_n hx hb d_Ma_floorMod_18 rfl (lv_at hl 0 rfl) ?_
      have hP9 := hP.sub (ws' := []) [] rfl
      have hD9 := hD.sub (ws' := []) [] (by decide) rfl
      exact W.iret (v := x2_2) hx hb hr (fun t ht hW => ⟨⟨x2_2, (), rfl, hv, by rw [ht]; exact hP9, hD9⟩, hS.F ht⟩) hS.2.2 d_Ma_floorMod_19
    · have hv := hv.2 c_4
      refine lv_iload_n hx hb d_Ma_floorMod_14 rfl (lv_at hl 0 rfl) ?_
      refine lv_iload_n hx hb d_Ma_floorMod_15 rfl (lv_at hl 2 rfl) ?_
      refine lv_iadd hx hb d_Ma_floorMod_16 ?_
      have hP9 := hP.sub (ws' := []) [] rfl
      have hD9 := hD.sub (ws' := []) [] (by decide) rfl
      exact W.iret (v := (x2_2 + p1)) hx hb hr (fun t ht hW => ⟨⟨(x2_2 + p1), (), rfl, hv, by rw [ht]; exact hP9, hD9⟩, hS.F ht⟩) hS.2.2 d_Ma_floorMod_17
abbrev b_In_bitCount : ByteArray := prog_14_method_49_code
def y_In_bitCount : MethodName := ⟨"java/lang/Integer", "bitCount", "(I)I"⟩
def w_In_bitCount : List Cond := Cond.code y_In_bitCount b_In_bitCount 1 (some .int) :: vwWS
theorem d_In_bitCount_0 : decode b_In_bitCount 0 = .ok (.iload_n 0, 1) := by decide +kernel
theorem d_In_bitCount_1 : decode b_In_bitCount 1 = .ok (.iload_n 0, 1) := by decide +kernel
theorem d_In_bitCount_2 : decode b_In_bitCount 2 = .ok (.iconst 1, 1) := by decide +kernel
theorem d_In_bitCount_3 : decode b_In_bitCount 3 = .ok (.iushr, 1) := by decide +kernel
theorem d_In_bitCount_4 : decode b_In_bitCount 4 = .ok (.ldc_w 265, 3) := by decide +kernel
theorem d_In_bitCount_7 : decode b_In_bitCount 7 = .ok (.iand, 1) := by decide +kernel
theorem d_In_bitCount_8 : decode b_In_bitCount 8 = .ok (.isub, 1) := by decide +kernel
theorem d_In_bitCount_9 : decode b_In_bitCount 9 = .ok (.istore_n 0, 1) := by decide +kernel
theorem d_In_bitCount_10 : decode b_In_bitCount 10 = .ok (.iload_n 0, 1) := by decide +kernel
theorem d_In_bitCount_11 : decode b_In_bitCount 11 = .ok (.ldc_w 266, 3) := by decide +kernel
theorem d_In_bitCount_14 : decode b_In_bitCount 14 = .ok (.iand, 1) := by decide +kernel
theorem d_In_bitCount_15 : decode b_In_bitCount 15 = .ok (.iload_n 0, 1) := by decide +kernel
theorem d_In_bitCount_16 : decode b_In_bitCount 16 = .ok (.iconst 2, 1) := by decide +kernel
theorem d_In_bitCount_17 : decode b_In_bitCount 17 = .ok (.iushr, 1) := by decide +kernel
theorem d_In_bitCount_18 : decode b_In_bitCount 18 = .ok (.ldc_w 266, 3) := by decide +kernel
theorem d_In_bitCount_21 : decode b_In_bitCount 21 = .ok (.iand, 1) := by decide +kernel
theorem d_In_bitCount_22 : decode b_In_bitCount 22 = .ok (.iadd, 1) := by decide +kernel
theorem d_In_bitCount_23 : decode b_In_bitCount 23 = .ok (.istore_n 0, 1) := by decide +kernel
theorem d_In_bitCount_24 : decode b_In_bitCount 24 = .ok (.iload_n 0, 1) := by decide +kernel
theorem d_In_bitCount_25 : decode b_In_bitCount 25 = .ok (.iload_n 0, 1) := by decide +kernel
theorem d_In_bitCount_26 : decode b_In_bitCount 26 = .ok (.iconst 4, 1) := by decide +kernel
theorem d_In_bitCount_27 : decode b_In_bitCount 27 = .ok (.iushr, 1) := by decide +kernel
theorem d_In_bitCount_28 : decode b_In_bitCount 28 = .ok (.iadd, 1) := by decide +kernel
theorem d_In_bitCount_29 : decode b_In_bitCount 29 = .ok (.ldc_w 267, 3) := by decide +kernel
theorem d_In_bitCount_32 : decode b_In_bitCount 32 = .ok (.iand, 1) := by decide +kernel
theorem d_In_bitCount_33 : decode b_In_bitCount 33 = .ok (.istore_n 0, 1) := by decide +kernel
theorem d_In_bitCount_34 : decode b_In_bitCount 34 = .ok (.iload_n 0, 1) := by decide +kernel
theorem d_In_bitCount_35 : decode b_In_bitCount 35 = .ok (.iload_n 0, 1) := by decide +kernel
theorem d_In_bitCount_36 : decode b_In_bitCount 36 = .ok (.bipush 8, 2) := by decide +kernel
theorem d_In_bitCount_38 : decode b_In_bitCount 38 = .ok (.iushr, 1) := by decide +kernel
theorem d_In_bitCount_39 : decode b_In_bitCount 39 = .ok (.iadd, 1) := by decide +kernel
theorem d_In_bitCount_40 : decode b_In_bitCount 40 = .ok (.istore_n 0, 1) := by decide +kernel
theorem d_In_bitCount_41 : decode b_In_bitCount 41 = .ok (.iload_n 0, 1) := by decide +kernel
theorem d_In_bitCount_42 : decode b_In_bitCount 42 = .ok (.iload_n 0, 1) := by decide +kernel
theorem d_In_bitCount_43 : decode b_In_bitCount 43 = .ok (.bipush 16, 2) := by decide +kernel
theorem d_In_bitCount_45 : decode b_In_bitCount 45 = .ok (.iushr, 1) := by decide +kernel
theorem d_In_bitCount_46 : decode b_In_bitCount 46 = .ok (.iadd, 1) := by decide +kernel
theorem d_In_bitCount_47 : decode b_In_bitCount 47 = .ok (.istore_n 0, 1) := by decide +kernel
theorem d_In_bitCount_48 : decode b_In_bitCount 48 = .ok (.iload_n 0, 1) := by decide +kernel
theorem d_In_bitCount_49 : decode b_In_bitCount 49 = .ok (.bipush 63, 2) := by decide +kernel
theorem d_In_bitCount_51 : decode b_In_bitCount 51 = .ok (.iand, 1) := by decide +kernel
theorem d_In_bitCount_52 : decode b_In_bitCount 52 = .ok (.ireturn, 1) := by decide +kernel
/-- java/lang/Integer.bitCount(I)I -/
def vc_In_bitCount (p0 : Int32) (Q : Int32 → Prop) : Prop :=
  ∀ x0_1 : Int32, x0_1 = (p0 - (((p0 : Int32).toUInt32 >>> ((1 : Int32).toUInt32 &&& Int32.toUInt32 31)).toInt32 &&& 1431655765)) → ∀ x0_2 : Int32, x0_2 = ((x0_1 &&& 858993459) + (((x0_1 : Int32).toUInt32 >>> ((2 : Int32).toUInt32 &&& Int32.toUInt32 31)).toInt32 &&& 858993459)) → ∀ x0_3 : Int32, x0_3 = ((x0_2 + ((x0_2 : Int32).toUInt32 >>> ((4 : Int32).toUInt32 &&& Int32.toUInt32 31)).toInt32) &&& 252645135) → ∀ x0_4 : Int32, x0_4 = (x0_3 + ((x0_3 : Int32).toUInt32 >>> ((8 : Int32).toUInt32 &&& Int32.toUInt32 31)).toInt32) → ∀ x0_5 : Int32, x0_5 = (x0_4 + ((x0_4 : Int32).toUInt32 >>> ((16 : Int32).toUInt32 &&& Int32.toUInt32 31)).toInt32) → Q (x0_5 &&& 63)
abbrev at_In_bitCount (dC : Nat → ClassId) (dI : Nat → Nat → Nat) (cs : Nat → ClassId) (A : Nat → Prop) (ad : Nat → Nat)  (u : Unit) (t : State) : Prop := match u with
  | _ => va_P (dC, dI) vwCl [] t.heap ∧ va_D A []
set_option maxHeartbeats 4000000 in
set_option maxRecDepth 100000 in
theorem c_In_bitCount (l : Launch) (dC : Nat → ClassId) (dI : Nat → Nat → Nat) (cs : Nat → ClassId) (ad : Nat → Nat)  (sz : Nat) (p0 : Int32) (Q : Int32 → Prop) (hv : vc_In_bitCount p0 Q) : Met l y_In_bitCount w_In_bitCount ({ frames := 0, cells := 0, slots := 0, locals := 0 }) (va_Pc [.int p0] (fun U => U.heap.size = sz ∧ va_P (dC, dI) vwCl [] U.heap ∧ vwK dC dI cs U ∧ va_D (fun _ => True) [])) (va_Qi (fun (r : Int32) (u : Unit) => Q r) (at_In_bitCount dC dI cs (va_A [] sz) ad ) (va_A [] sz)) 0 0 (va_A [] sz) := by
  unfold vc_In_bitCount at hv
  refine va_MetF (cc := b_In_bitCount) (maxL := 1) (ret := (some .int)) (by decide +kernel) rfl ?_
  intro p e s m args below meth c s₁ B hml hpc
  obtain ⟨rfl, hsz, hP, ⟨hK, hN⟩, hD0⟩ := hpc
  have hx := B.exec
  have hb := B.bytes
  have hr := B.returns
  have hts : ∀ w ∈ vwWS, w.before _ s = true := fun w h => atoms_spec (ws := w_In_bitCount) B.pre w (List.mem_cons_of_mem _ h)
  have hown : s.vm.findClass "java/lang/Integer" = some m.cls := findClass_of_methodNamed B.named
  have hlocks := B.notSynchronized
  subst hsz
  have hD := hD0.self (sz := s.heap.size)
  generalize hAe : va_A [] s.heap.size = A at hD ⊢
  have hA : ∀ q : Nat, s.heap.size ≤ q → A q := fun q h => by rw [← hAe]; exact Or.inr h
  have hS : va_S A s.heap s.heap [] := va_S.rf
  have hl := lv_entry ([.int p0]) (n := 1) (Nat.le_of_ble_eq_true rfl)
  rw [lg_entry_eq]
  generalize (lg_sl ([.int p0]) ++ List.replicate (1 - (lg_sl ([.int p0])).length) Slot.unset).toArray = ls at hl ⊢
  have hl : lv_has ls 1 [(0, .int p0)] := hl
  refine lv_iload_n hx hb d_In_bitCount_0 rfl (lv_at hl 0 rfl) ?_
  refine lv_iload_n hx hb d_In_bitCount_1 rfl (lv_at hl 0 rfl) ?_
  refine lv_iconst (v := 1) hx hb d_In_bitCount_2 (by decide) ?_
  refine lv_iushr (v := ((p0 : Int32).toUInt32 >>> ((1 : Int32).toUInt32 &&& Int32.toUInt32 31)).toInt32) hx hb d_In_bitCount_3 rfl ?_
  refine lv_ldcw (v := 1431655765) hx hb hown (hts _ kw_330) d_In_bitCount_4 ?_
  refine lv_iand hx hb d_In_bitCount_7 ?_
  refine lv_isub hx hb d_In_bitCount_8 ?_
  refine lv_topi (fun x0_1 ex0_1 => ?_)
  have hv := hv x0_1 ex0_1
  refine lv_istore_n (lv' := [(0, .int x0_1)]) hx hb d_In_bitCount_9 rfl hl (by decide) rfl (fun ls hl => ?_)
  refine lv_iload_n hx hb d_In_bitCount_10 rfl (lv_at hl 0 rfl) ?_
  refine lv_ldcw (v := 858993459) hx hb hown (hts _ kw_331) d_In_bitCount_11 ?_
  refine lv_iand hx hb d_In_bitCount_14 ?_
  refine lv_iload_n hx hb d_In_bitCount_15 rfl (lv_at hl 0 rfl) ?_
  refine lv_iconst (v := 2) hx hb d_In_bitCount_16 (by decide) ?_
  refine lv_iushr (v := ((x0_1 : Int32).toUInt32 >>> ((2 : Int32).toUInt32 &&& Int32.toUInt32 31)).toInt32) hx hb d_In_bitCount_17 rfl ?_
  refine lv_ldcw (v := 858993459) hx hb hown (hts _ kw_331) d_In_bitCount_18 ?_
  refine lv_iand hx hb d_In_bitCount_21 ?_
  refine lv_iadd hx hb d_In_bitCount_22 ?_
  refine lv_topi (fun x0_2 ex0_2 => ?_)
  have hv := hv x0_2 ex0_2
  refine lv_istore_n (lv' := [(0, .int x0_2)]) hx hb d_In_bitCount_23 rfl hl (by decide) rfl (fun ls hl => ?_)
  refine lv_iload_n hx hb d_In_bitCount_24 rfl (lv_at hl 0 rfl) ?_
  refine lv_iload_n hx hb d_In_bitCount_25 rfl (lv_at hl 0 rfl) ?_
  refine lv_iconst (v := 4) hx hb d_In_bitCount_26 (by decide) ?_
  refine lv_iushr (v := ((x0_2 : Int32).toUInt32 >>> ((4 : Int32).toUInt32 &&& Int32.toUInt32 31)).toInt32) hx hb d_In_bitCount_27 rfl ?_
  refine lv_iadd hx hb d_In_bitCount_28 ?_
  refine lv_ldcw (v := 252645135) hx hb hown (hts _ kw_332) d_In_bitCount_29 ?_
  refine lv_iand hx hb d_In_bitCount_32 ?_
  refine lv_topi (fun x0_3 ex0_3 => ?_)
  have hv := hv x0_3 ex0_3
  refine lv_istore_n (lv' := [(0, .int x0_3)]) hx hb d_In_bitCount_33 rfl hl (by decide) rfl (fun ls hl => ?_)
  refine lv_iload_n hx hb d_In_bitCount_34 rfl (lv_at hl 0 rfl) ?_
  refine lv_iload_n hx hb d_In_bitCount_35 rfl (lv_at hl 0 rfl) ?_
  refine lv_bipush (v := 8) hx hb d_In_bitCount_36 (by decide) ?_
  refine lv_iushr (v := ((x0_3 : Int32).toUInt32 >>> ((8 : Int32).toUInt32 &&& Int32.toUInt32 31)).toInt32) hx hb d_In_bitCount_38 rfl ?_
  refine lv_iadd hx hb d_In_bitCount_39 ?_
  refine lv_topi (fun x0_4 ex0_4 => ?_)
  have hv := hv x0_4 ex0_4
  refine lv_istore_n (lv' := [(0, .int x0_4)]) hx hb d_In_bitCount_40 rfl hl (by decide) rfl (fun ls hl => ?_)
  refine lv_iload_n hx hb d_In_bitCount_41 rfl (lv_at hl 0 rfl) ?_
  refine lv_iload_n hx hb d_In_bitCount_42 rfl (lv_at hl 0 rfl) ?_
  refine lv_bipush (v := 16) hx hb d_In_bitCount_43 (by decide) ?_
  refine lv_iushr (v := ((x0_4 : Int32).toUInt32 >>> ((16 : Int32).toUInt32 &&& Int32.toUInt32 31)).toInt32) hx hb d_In_bitCount_45 rfl ?_
  refine lv_iadd hx hb d_In_bitCount_46 ?_
  refine lv_topi (fun x0_5 ex0_5 => ?_)
  have hv := hv x0_5 ex0_5
  refine lv_istore_n (lv' := [(0, .int x0_5)]) hx hb d_In_bitCount_47 rfl hl (by decide) rfl (fun ls hl => ?_)
  refine lv_iload_n hx hb d_In_bitCount_48 rfl (lv_at hl 0 rfl) ?_
  refine lv_bipush (v := 63) hx hb d_In_bitCount_49 (by decide) ?_
  refine lv_iand hx hb d_In_bitCount_51 ?_
  have hP9 := hP.sub (ws' := []) [] rfl
  have hD9 := hD.sub (ws' := []) [] (by decide) rfl
  exact W.iret (v := (x0_5 &&& 63)) hx hb hr (fun t ht hW => ⟨⟨(x0_5 &&& 63), (), rfl, hv, by rw [ht]; exact hP9, hD9⟩, hS.F ht⟩) hS.2.2 d_In_bitCount_52
end
section
abbrev b_x_topOf : ByteArray := prog_1_method_18_code
def y_x_topOf : MethodName := ⟨"SpaceBasis", "topOf", "([II)I"⟩
def w_x_topOf : List Cond := Cond.code y_x_topOf b_x_topOf 3 (some .int) :: vwWS
theorem d_x_topOf_0 : decode b_x_topOf 0 = .ok (.iload_n 1, 1) := by decide +kernel
theorem d_x_topOf_1 : decode b_x_topOf 1 = .ok (.aload_n 0, 1) := by decide +kernel
theorem d_x_topOf_2 : decode b_x_topOf 2 = .ok (.arraylength, 1) := by decide +kernel
theorem d_x_topOf_3 : decode b_x_topOf 3 = .ok (.iconst 1, 1) := by decide +kernel
theorem d_x_topOf_4 : decode b_x_topOf 4 = .ok (.isub, 1) := by decide +kernel
theorem d_x_topOf_5 : decode b_x_topOf 5 = .ok (.invokestatic 203, 3) := by decide +kernel
theorem d_x_topOf_8 : decode b_x_topOf 8 = .ok (.istore_n 2, 1) := by decide +kernel
theorem d_x_topOf_9 : decode b_x_topOf 9 = .ok (.iload_n 2, 1) := by decide +kernel
theorem d_x_topOf_10 : decode b_x_topOf 10 = .ok (.ifCond .lt 17, 3) := by decide +kernel
theorem d_x_topOf_13 : decode b_x_topOf 13 = .ok (.aload_n 0, 1) := by decide +kernel
theorem d_x_topOf_14 : decode b_x_topOf 14 = .ok (.iload_n 2, 1) := by decide +kernel
theorem d_x_topOf_15 : decode b_x_topOf 15 = .ok (.iaload, 1) := by decide +kernel
theorem d_x_topOf_16 : decode b_x_topOf 16 = .ok (.ifCond .eq 5, 3) := by decide +kernel
theorem d_x_topOf_19 : decode b_x_topOf 19 = .ok (.iload_n 2, 1) := by decide +kernel
theorem d_x_topOf_20 : decode b_x_topOf 20 = .ok (.ireturn, 1) := by decide +kernel
theorem d_x_topOf_21 : decode b_x_topOf 21 = .ok (.iinc 2 (-1), 3) := by decide +kernel
theorem d_x_topOf_24 : decode b_x_topOf 24 = .ok (.goto (-15), 3) := by decide +kernel
theorem d_x_topOf_27 : decode b_x_topOf 27 = .ok (.iconst (-1), 1) := by decide +kernel
theorem d_x_topOf_28 : decode b_x_topOf 28 = .ok (.ireturn, 1) := by decide +kernel
/-- SpaceBasis.topOf([II)I -/
def vc_x_topOf (nA0 : Nat) (A0 : Nat → Int32) (p1 : Int32) (Q : Int32 → Prop) : Prop :=
  ∀ x2_1 : Int32, x2_1 = (if ((Int32.ofNat nA0) - 1) < p1 then ((Int32.ofNat nA0) - 1) else p1) → ∃ (I9_3 : Int32 → Prop) (mu9_4 : Int32 → Nat), I9_3 x2_1 ∧ ∀ (x2_2 : Int32), I9_3 x2_2 → ((((x2_2 < 0) → (Q (-1))) ∧ ((¬ (x2_2 < 0)) → (vp_in x2_2 nA0 ∧ ((((A0 x2_2.toNatClampNeg) = 0) → (∀ x2_8 : Int32, x2_8 = x2_2 + (-1) → (I9_3 x2_8 ∧ mu9_4 x2_8 < mu9_4 x2_2))) ∧ ((¬ ((A0 x2_2.toNatClampNeg) = 0)) → (Q x2_2)))))))
abbrev at_x_topOf (dC : Nat → ClassId) (dI : Nat → Nat → Nat) (cs : Nat → ClassId) (A : Nat → Prop) (ad : Nat → Nat) (aA0 : Nat) (nA0 : Nat) (A0 : Nat → Int32) (u : Unit) (t : State) : Prop := match u with
  | _ => va_P (dC, dI) vwCl [(aA0, .inl (cs 0, nA0, .inl A0))] t.heap ∧ va_D A [(aA0, .inl (cs 0, nA0, .inl A0))]
set_option maxHeartbeats 4000000 in
set_option maxRecDepth 100000 in
theorem c_x_topOf (l : Launch) (dC : Nat → ClassId) (dI : Nat → Nat → Nat) (cs : Nat → ClassId) (ad : Nat → Nat) (aA0 : Nat) (sz : Nat) (nA0 : Nat) (A0 : Nat → Int32) (p1 : Int32) (Q : Int32 → Prop) (hv : vc_x_topOf nA0 A0 p1 Q) : Met l y_x_topOf w_x_topOf ({ frames := 1, cells := 0, slots := 0, locals := 32 }) (va_Pc [.ref aA0, .int p1] (fun U => U.heap.size = sz ∧ va_P (dC, dI) vwCl [(aA0, .inl (cs 0, nA0, .inl A0))] U.heap ∧ vwK dC dI cs U ∧ va_D (fun _ => True) [(aA0, .inl (cs 0, nA0, .inl A0))])) (va_Qi (fun (r : Int32) (u : Unit) => Q r) (at_x_topOf dC dI cs (va_A [(aA0, .inl (cs 0, nA0, .inl A0))] sz) ad aA0 nA0 A0) (va_A [(aA0, .inl (cs 0, nA0, .inl A0))] sz)) 0 0 (va_A [(aA0, .inl (cs 0, nA0, .inl A0))] sz) := by
  unfold vc_x_topOf at hv
  refine Met.ofW (cc := b_x_topOf) (maxL := 3) (ret := (some .int)) (by decide) rfl ?_
  intro p e s m args below meth c s₁ B hml hpc
  obtain ⟨rfl, hsz, hP, ⟨hK, hN⟩, hD0⟩ := hpc
  have hx := B.exec
  have hb := B.bytes
  have hr := B.returns
  have hts : ∀ w ∈ vwWS, w.before _ s = true := fun w h => atoms_spec (ws := w_x_topOf) B.pre w (List.mem_cons_of_mem _ h)
  have hown : s.vm.findClass "SpaceBasis" = some m.cls := findClass_of_methodNamed B.named
  have hlocks := B.notSynchronized
  subst hsz
  have hD := hD0.self (sz := s.heap.size)
  generalize hAe : va_A [(aA0, .inl (cs 0, nA0, .inl A0))] s.heap.size = A at hD ⊢
  have hA : ∀ q : Nat, s.heap.size ≤ q → A q := fun q h => by rw [← hAe]; exact Or.inr h
  have hS : va_S A s.heap s.heap [] := va_S.rf
  have hl := lv_entry ([.ref aA0, .int p1]) (n := 3) (Nat.le_of_ble_eq_true rfl)
  rw [lg_entry_eq]
  generalize (lg_sl ([.ref aA0, .int p1]) ++ List.replicate (3 - (lg_sl ([.ref aA0, .int p1])).length) Slot.unset).toArray = ls at hl ⊢
  have hl : lv_has ls 3 [(0, .ref aA0), (1, .int p1)] := hl
  refine lv_iload_n hx hb d_x_topOf_0 rfl (lv_at hl 1 rfl) ?_
  refine lv_aload_n hx hb d_x_topOf_1 rfl (lv_at hl 0 rfl) ?_
  refine va_alen hx hb hK hP 0 0 rfl rfl (v := (Int32.ofNat nA0)) rfl d_x_topOf_2 ?_
  refine lv_iconst (v := 1) hx hb d_x_topOf_3 (by decide) ?_
  refine lv_isub hx hb d_x_topOf_4 ?_
  refine va_mmin hx hb (by rw [hml]; exact hl.1.symm) hown (hts _ kw_444) (hts _ kw_445) (hts _ kw_46) (hts _ kw_446) (Nat.le_of_ble_eq_true rfl) (Nat.le_of_ble_eq_true rfl) (Nat.zero_le _) (Nat.zero_le _) d_x_topOf_5 ?_
  refine lv_topi (fun x2_1 ex2_1 => ?_)
  have hv := hv x2_1 ex2_1
  refine lv_istore_n (lv' := [(2, .int x2_1), (0, .ref aA0), (1, .int p1)]) hx hb d_x_topOf_8 rfl hl (by decide) rfl (fun ls hl => ?_)
  obtain ⟨I9_3, mu9_4, hi0, hv⟩ := hv
  have hP := hP.sub (ws' := [(aA0, .inl (cs 0, nA0, .inl A0))]) [0] rfl
  have hD := hD.sub (ws' := [(aA0, .inl (cs 0, nA0, .inl A0))]) [0] (by decide) rfl
  have hl := lv_sub (l' := [(0, .ref aA0), (1, .int p1), (2, .int x2_1)]) hl [1, 2, 0] rfl
  have loop9 : ∀ (nn : Nat) (x2_2 : Int32), mu9_4 x2_2 < nn → I9_3 x2_2 → ∀ (H : Heap) (locs : List Loc) (ls : Array Slot), va_P (dC, dI) vwCl [(aA0, .inl (cs 0, nA0, .inl A0))] H → va_D A [(aA0, .inl (cs 0, nA0, .inl A0))] → va_S A s.heap H locs → lv_has ls 3 [(0, .ref aA0), (1, .int p1), (2, .int x2_2)] → W p l e (headSpec w_x_topOf { frames := 1, cells := 0, slots := 0, locals := 32 }).room s m ([.ref aA0, .int p1] : List Value).toArray below meth c H locs 0 0 (MQ below (va_Qi (fun (r : Int32) (u : Unit) => Q r) (at_x_topOf dC dI cs A ad aA0 nA0 A0) A) ([.ref aA0, .int p1] : List Value).toArray s 0 0 A) (F0 m 9 ls []) := by
    intro nn
    induction nn with
    | zero => intro x2_2 hlt; exact absurd hlt (Nat.not_lt_zero _)
    | succ nn ih9 =>
      intro x2_2 hlt9 hI H locs ls hP hD hS hl
      have hv := hv x2_2 hI
      refine lv_iload_n hx hb d_x_topOf_9 rfl (lv_at hl 2 rfl) ?_
      refine lv_if_lt (tgt := 27) hx hb d_x_topOf_10 (by decide) (fun c_5 => ?_) (fun c_5 => ?_)
      · have hv := hv.1 c_5
        refine lv_iconst (v := (-1)) hx hb d_x_topOf_27 (by decide) ?_
        have hP9 := hP.sub (ws' := [(aA0, .inl (cs 0, nA0, .inl A0))]) [0] rfl
        have hD9 := hD.sub (ws' := [(aA0, .inl (cs 0, nA0, .inl A0))]) [0] (by decide) rfl
        exact W.iret (v := (-1)) hx hb hr (fun t ht hW => ⟨⟨(-1), (), rfl, hv, by rw [ht]; exact hP9, hD9⟩, hS.F ht⟩) hS.2.2 d_x_topOf_28
      · have hv := hv.2 c_5
        refine lv_aload_n hx hb d_x_topOf_13 rfl (lv_at hl 0 rfl) ?_
        refine lv_iload_n hx hb d_x_topOf_14 rfl (lv_at hl 2 rfl) ?_
        obtain ⟨hi_6, hv⟩ := hv
        refine va_iald hx hb hK hP 0 0 rfl rfl hi_6 d_x_topOf_15 ?_
        refine lv_if_eq (tgt := 21) hx hb d_x_topOf_16 (by decide) (fun c_7 => ?_) (fun c_7 => ?_)
        · have hv := hv.1 c_7
          obtain ⟨x2_8, ex2_8⟩ : ∃ y : Int32, y = x2_2 + (-1) := ⟨_, rfl⟩
          have hv := hv x2_8 ex2_8
          refine lv_iinc (v := x2_8) (lv' := [(2, .int x2_8), (0, .ref aA0), (1, .int p1)]) hx hb d_x_topOf_21 hl (k := 2) rfl (by rw [ex2_8]; rfl) (by decide) rfl (fun ls hl => ?_)
          refine lv_goto (tgt := 9) hx hb d_x_topOf_24 (by decide) ?_
          exact ih9 x2_8 (Nat.lt_of_lt_of_le hv.2 (Nat.le_of_lt_succ hlt9)) hv.1 _ _ _ (hP.sub [0] rfl) (hD.sub [0] (by decide) rfl) hS (lv_sub hl [1, 2, 0] rfl)
        · have hv := hv.2 c_7
          refine lv_iload_n hx hb d_x_topOf_19 rfl (lv_at hl 2 rfl) ?_
          have hP9 := hP.sub (ws' := [(aA0, .inl (cs 0, nA0, .inl A0))]) [0] rfl
          have hD9 := hD.sub (ws' := [(aA0, .inl (cs 0, nA0, .inl A0))]) [0] (by decide) rfl
          exact W.iret (v := x2_2) hx hb hr (fun t ht hW => ⟨⟨x2_2, (), rfl, hv, by rw [ht]; exact hP9, hD9⟩, hS.F ht⟩) hS.2.2 d_x_topOf_20
  exact loop9 _ x2_1 (Nat.lt_succ_self _) hi0 _ _ _ hP hD hS hl
abbrev b_x_startOfLine : ByteArray := prog_1_method_19_code
def y_x_startOfLine : MethodName := ⟨"SpaceBasis", "startOfLine", "(I)I"⟩
def w_x_startOfLine : List Cond := Cond.code y_x_startOfLine b_x_startOfLine 1 (some .int) :: vwWS
theorem d_x_startOfLine_0 : decode b_x_startOfLine 0 = .ok (.iload_n 0, 1) := by decide +kernel
theorem d_x_startOfLine_1 : decode b_x_startOfLine 1 = .ok (.iload_n 0, 1) := by decide +kernel
theorem d_x_startOfLine_2 : decode b_x_startOfLine 2 = .ok (.iconst 1, 1) := by decide +kernel
theorem d_x_startOfLine_3 : decode b_x_startOfLine 3 = .ok (.iadd, 1) := by decide +kernel
theorem d_x_startOfLine_4 : decode b_x_startOfLine 4 = .ok (.imul, 1) := by decide +kernel
theorem d_x_startOfLine_5 : decode b_x_startOfLine 5 = .ok (.iconst 2, 1) := by decide +kernel
theorem d_x_startOfLine_6 : decode b_x_startOfLine 6 = .ok (.idiv, 1) := by decide +kernel
theorem d_x_startOfLine_7 : decode b_x_startOfLine 7 = .ok (.ireturn, 1) := by decide +kernel
/-- SpaceBasis.startOfLine(I)I -/
def vc_x_startOfLine (p0 : Int32) (Q : Int32 → Prop) : Prop :=
  (¬ (2 : Int32) = 0) ∧ Q ((p0 * (p0 + 1)) / 2)
abbrev at_x_startOfLine (dC : Nat → ClassId) (dI : Nat → Nat → Nat) (cs : Nat → ClassId) (A : Nat → Prop) (ad : Nat → Nat)  (u : Unit) (t : State) : Prop := match u with
  | _ => va_P (dC, dI) vwCl [] t.heap ∧ va_D A []
set_option maxHeartbeats 4000000 in
set_option maxRecDepth 100000 in
theorem c_x_startOfLine (l : Launch) (dC : Nat → ClassId) (dI : Nat → Nat → Nat) (cs : Nat → ClassId) (ad : Nat → Nat)  (sz : Nat) (p0 : Int32) (Q : Int32 → Prop) (hv : vc_x_startOfLine p0 Q) : Met l y_x_startOfLine w_x_startOfLine ({ frames := 0, cells := 0, slots := 0, locals := 0 }) (va_Pc [.int p0] (fun U => U.heap.size = sz ∧ va_P (dC, dI) vwCl [] U.heap ∧ vwK dC dI cs U ∧ va_D (fun _ => True) [])) (va_Qi (fun (r : Int32) (u : Unit) => Q r) (at_x_startOfLine dC dI cs (va_A [] sz) ad ) (va_A [] sz)) 0 0 (va_A [] sz) := by
  unfold vc_x_startOfLine at hv
  refine Met.ofW (cc := b_x_startOfLine) (maxL := 1) (ret := (some .int)) (by decide) rfl ?_
  intro p e s m args below meth c s₁ B hml hpc
  obtain ⟨rfl, hsz, hP, ⟨hK, hN⟩, hD0⟩ := hpc
  have hx := B.exec
  have hb := B.bytes
  have hr := B.returns
  have hts : ∀ w ∈ vwWS, w.before _ s = true := fun w h => atoms_spec (ws := w_x_startOfLine) B.pre w (List.mem_cons_of_mem _ h)
  have hown : s.vm.findClass "SpaceBasis" = some m.cls := findClass_of_methodNamed B.named
  have hlocks := B.notSynchronized
  subst hsz
  have hD := hD0.self (sz := s.heap.size)
  generalize hAe : va_A [] s.heap.size = A at hD ⊢
  have hA : ∀ q : Nat, s.heap.size ≤ q → A q := fun q h => by rw [← hAe]; exact Or.inr h
  have hS : va_S A s.heap s.heap [] := va_S.rf
  have hl := lv_entry ([.int p0]) (n := 1) (Nat.le_of_ble_eq_true rfl)
  rw [lg_entry_eq]
  generalize (lg_sl ([.int p0]) ++ List.replicate (1 - (lg_sl ([.int p0])).length) Slot.unset).toArray = ls at hl ⊢
  have hl : lv_has ls 1 [(0, .int p0)] := hl
  refine lv_iload_n hx hb d_x_startOfLine_0 rfl (lv_at hl 0 rfl) ?_
  refine lv_iload_n hx hb d_x_startOfLine_1 rfl (lv_at hl 0 rfl) ?_
  refine lv_iconst (v := 1) hx hb d_x_startOfLine_2 (by decide) ?_
  refine lv_iadd hx hb d_x_startOfLine_3 ?_
  refine lv_imul hx hb d_x_startOfLine_4 ?_
  refine lv_iconst (v := 2) hx hb d_x_startOfLine_5 (by decide) ?_
  obtain ⟨hz_1, hv⟩ := hv
  refine lv_idiv hx hb d_x_startOfLine_6 hz_1 ?_
  have hP9 := hP.sub (ws' := []) [] rfl
  have hD9 := hD.sub (ws' := []) [] (by decide) rfl
  exact W.iret (v := ((p0 * (p0 + 1)) / 2)) hx hb hr (fun t ht hW => ⟨⟨((p0 * (p0 + 1)) / 2), (), rfl, hv, by rw [ht]; exact hP9, hD9⟩, hS.F ht⟩) hS.2.2 d_x_startOfLine_7
abbrev b_mo_isPrime : ByteArray := prog_4_method_2_code
def y_mo_isPrime : MethodName := ⟨"SpaceBasis$Modulus", "isPrime", "(I)Z"⟩
def w_mo_isPrime : List Cond := Cond.code y_mo_isPrime b_mo_isPrime 2 (some .boolean) :: vwWS
theorem d_mo_isPrime_0 : decode b_mo_isPrime 0 = .ok (.iload_n 0, 1) := by decide +kernel
theorem d_mo_isPrime_1 : decode b_mo_isPrime 1 = .ok (.iconst 2, 1) := by decide +kernel
theorem d_mo_isPrime_2 : decode b_mo_isPrime 2 = .ok (.if_icmp .lt 10, 3) := by decide +kernel
theorem d_mo_isPrime_5 : decode b_mo_isPrime 5 = .ok (.iload_n 0, 1) := by decide +kernel
theorem d_mo_isPrime_6 : decode b_mo_isPrime 6 = .ok (.sipush 32003, 3) := by decide +kernel
theorem d_mo_isPrime_9 : decode b_mo_isPrime 9 = .ok (.if_icmp .le 5, 3) := by decide +kernel
theorem d_mo_isPrime_12 : decode b_mo_isPrime 12 = .ok (.iconst 0, 1) := by decide +kernel
theorem d_mo_isPrime_13 : decode b_mo_isPrime 13 = .ok (.ireturn, 1) := by decide +kernel
theorem d_mo_isPrime_14 : decode b_mo_isPrime 14 = .ok (.iconst 2, 1) := by decide +kernel
theorem d_mo_isPrime_15 : decode b_mo_isPrime 15 = .ok (.istore_n 1, 1) := by decide +kernel
theorem d_mo_isPrime_16 : decode b_mo_isPrime 16 = .ok (.iload_n 1, 1) := by decide +kernel
theorem d_mo_isPrime_17 : decode b_mo_isPrime 17 = .ok (.iload_n 1, 1) := by decide +kernel
theorem d_mo_isPrime_18 : decode b_mo_isPrime 18 = .ok (.imul, 1) := by decide +kernel
theorem d_mo_isPrime_19 : decode b_mo_isPrime 19 = .ok (.iload_n 0, 1) := by decide +kernel
theorem d_mo_isPrime_20 : decode b_mo_isPrime 20 = .ok (.if_icmp .gt 17, 3) := by decide +kernel
theorem d_mo_isPrime_23 : decode b_mo_isPrime 23 = .ok (.iload_n 0, 1) := by decide +kernel
theorem d_mo_isPrime_24 : decode b_mo_isPrime 24 = .ok (.iload_n 1, 1) := by decide +kernel
theorem d_mo_isPrime_25 : decode b_mo_isPrime 25 = .ok (.irem, 1) := by decide +kernel
theorem d_mo_isPrime_26 : decode b_mo_isPrime 26 = .ok (.ifCond .ne 5, 3) := by decide +kernel
theorem d_mo_isPrime_29 : decode b_mo_isPrime 29 = .ok (.iconst 0, 1) := by decide +kernel
theorem d_mo_isPrime_30 : decode b_mo_isPrime 30 = .ok (.ireturn, 1) := by decide +kernel
theorem d_mo_isPrime_31 : decode b_mo_isPrime 31 = .ok (.iinc 1 1, 3) := by decide +kernel
theorem d_mo_isPrime_34 : decode b_mo_isPrime 34 = .ok (.goto (-18), 3) := by decide +kernel
theorem d_mo_isPrime_37 : decode b_mo_isPrime 37 = .ok (.iconst 1, 1) := by decide +kernel
theorem d_mo_isPrime_38 : decode b_mo_isPrime 38 = .ok (.ireturn, 1) := by decide +kernel
/-- SpaceBasis$Modulus.isPrime(I)Z -/
def vc_mo_isPrime (p0 : Int32) (Q : Int32 → Prop) : Prop :=
  (((p0 < 2) → (Q 0)) ∧ ((¬ (p0 < 2)) → ((((p0 ≤ 32003) → (∃ (I16_4 : Int32 → Prop) (mu16_5 : Int32 → Nat), I16_4 2 ∧ ∀ (x1_3 : Int32), I16_4 x1_3 → ((((p0 < (x1_3 * x1_3)) → (Q 1)) ∧ ((¬ (p0 < (x1_3 * x1_3))) → ((¬ (x1_3 : Int32) = 0) ∧ (((¬ ((p0 - p0 / x1_3 * x1_3) = 0)) → (∀ x1_9 : Int32, x1_9 = x1_3 + 1 → (I16_4 x1_9 ∧ mu16_5 x1_9 < mu16_5 x1_3))) ∧ (((p0 - p0 / x1_3 * x1_3) = 0) → (Q 0))))))))) ∧ ((¬ (p0 ≤ 32003)) → (Q 0))))))
abbrev at_mo_isPrime (dC : Nat → ClassId) (dI : Nat → Nat → Nat) (cs : Nat → ClassId) (A : Nat → Prop) (ad : Nat → Nat)  (u : Unit) (t : State) : Prop := match u with
  | _ => va_P (dC, dI) vwCl [] t.heap ∧ va_D A []
set_option maxHeartbeats 4000000 in
set_option maxRecDepth 100000 in
theorem c_mo_isPrime (l : Launch) (dC : Nat → ClassId) (dI : Nat → Nat → Nat) (cs : Nat → ClassId) (ad : Nat → Nat)  (sz : Nat) (p0 : Int32) (Q : Int32 → Prop) (hv : vc_mo_isPrime p0 Q) : Met l y_mo_isPrime w_mo_isPrime ({ frames := 0, cells := 0, slots := 0, locals := 0 }) (va_Pc [.int p0] (fun U => U.heap.size = sz ∧ va_P (dC, dI) vwCl [] U.heap ∧ vwK dC dI cs U ∧ va_D (fun _ => True) [])) (va_Qi (fun (r : Int32) (u : Unit) => Q r) (at_mo_isPrime dC dI cs (va_A [] sz) ad ) (va_A [] sz)) 0 0 (va_A [] sz) := by
  unfold vc_mo_isPrime at hv
  refine Met.ofW (cc := b_mo_isPrime) (maxL := 2) (ret := (some .boolean)) (by decide) rfl ?_
  intro p e s m args below meth c s₁ B hml hpc
  obtain ⟨rfl, hsz, hP, ⟨hK, hN⟩, hD0⟩ := hpc
  have hx := B.exec
  have hb := B.bytes
  have hr := B.returns
  have hts : ∀ w ∈ vwWS, w.before _ s = true := fun w h => atoms_spec (ws := w_mo_isPrime) B.pre w (List.mem_cons_of_mem _ h)
  have hown : s.vm.findClass "SpaceBasis$Modulus" = some m.cls := findClass_of_methodNamed B.named
  have hlocks := B.notSynchronized
  subst hsz
  have hD := hD0.self (sz := s.heap.size)
  generalize hAe : va_A [] s.heap.size = A at hD ⊢
  have hA : ∀ q : Nat, s.heap.size ≤ q → A q := fun q h => by rw [← hAe]; exact Or.inr h
  have hS : va_S A s.heap s.heap [] := va_S.rf
  have hl := lv_entry ([.int p0]) (n := 2) (Nat.le_of_ble_eq_true rfl)
  rw [lg_entry_eq]
  generalize (lg_sl ([.int p0]) ++ List.replicate (2 - (lg_sl ([.int p0])).length) Slot.unset).toArray = ls at hl ⊢
  have hl : lv_has ls 2 [(0, .int p0)] := hl
  refine lv_iload_n hx hb d_mo_isPrime_0 rfl (lv_at hl 0 rfl) ?_
  refine lv_iconst (v := 2) hx hb d_mo_isPrime_1 (by decide) ?_
  refine lv_icmp_lt (tgt := 12) hx hb d_mo_isPrime_2 (by decide) (fun c_1 => ?_) (fun c_1 => ?_)
  · have hv := hv.1 c_1
    refine lv_iconst (v := 0) hx hb d_mo_isPrime_12 (by decide) ?_
    have hP9 := hP.sub (ws' := []) [] rfl
    have hD9 := hD.sub (ws' := []) [] (by decide) rfl
    exact W.zret (v := 0) hx hb hr rfl (fun t ht hW => ⟨⟨0, (), rfl, hv, by rw [ht]; exact hP9, hD9⟩, hS.F ht⟩) hS.2.2 d_mo_isPrime_13
  · have hv := hv.2 c_1
    refine lv_iload_n hx hb d_mo_isPrime_5 rfl (lv_at hl 0 rfl) ?_
    refine lv_sipush (v := 32003) hx hb d_mo_isPrime_6 (by decide) ?_
    refine lv_icmp_le (tgt := 14) hx hb d_mo_isPrime_9 (by decide) (fun c_2 => ?_) (fun c_2 => ?_)
    · have hv := hv.1 c_2
      refine lv_iconst (v := 2) hx hb d_mo_isPrime_14 (by decide) ?_
      refine lv_istore_n (lv' := [(1, .int 2), (0, .int p0)]) hx hb d_mo_isPrime_15 rfl hl (by decide) rfl (fun ls hl => ?_)
      obtain ⟨I16_4, mu16_5, hi0, hv⟩ := hv
      have hP := hP.sub (ws' := []) [] rfl
      have hD := hD.sub (ws' := []) [] (by decide) rfl
      have hl := lv_sub (l' := [(0, .int p0), (1, .int 2)]) hl [1, 0] rfl
      have loop16 : ∀ (nn : Nat) (x1_3 : Int32), mu16_5 x1_3 < nn → I16_4 x1_3 → ∀ (H : Heap) (locs : List Loc) (ls : Array Slot), va_P (dC, dI) vwCl [] H → va_D A [] → va_S A s.heap H locs → lv_has ls 2 [(0, .int p0), (1, .int x1_3)] → W p l e (headSpec w_mo_isPrime { frames := 0, cells := 0, slots := 0, locals := 0 }).room s m ([.int p0] : List Value).toArray below meth c H locs 0 0 (MQ below (va_Qi (fun (r : Int32) (u : Unit) => Q r) (at_mo_isPrime dC dI cs A ad ) A) ([.int p0] : List Value).toArray s 0 0 A) (F0 m 16 ls []) := by
        intro nn
        induction nn with
        | zero => intro x1_3 hlt; exact absurd hlt (Nat.not_lt_zero _)
        | succ nn ih16 =>
          intro x1_3 hlt16 hI H locs ls hP hD hS hl
          have hv := hv x1_3 hI
          refine lv_iload_n hx hb d_mo_isPrime_16 rfl (lv_at hl 1 rfl) ?_
          refine lv_iload_n hx hb d_mo_isPrime_17 rfl (lv_at hl 1 rfl) ?_
          refine lv_imul hx hb d_mo_isPrime_18 ?_
          refine lv_iload_n hx hb d_mo_isPrime_19 rfl (lv_at hl 0 rfl) ?_
          refine lv_icmp_gt (tgt := 37) hx hb d_mo_isPrime_20 (by decide) (fun c_6 => ?_) (fun c_6 => ?_)
          · have hv := hv.1 c_6
            refine lv_iconst (v := 1) hx hb d_mo_isPrime_37 (by decide) ?_
            have hP9 := hP.sub (ws' := []) [] rfl
            have hD9 := hD.sub (ws' := []) [] (by decide) rfl
            exact W.zret (v := 1) hx hb hr rfl (fun t ht hW => ⟨⟨1, (), rfl, hv, by rw [ht]; exact hP9, hD9⟩, hS.F ht⟩) hS.2.2 d_mo_isPrime_38
          · have hv := hv.2 c_6
            refine lv_iload_n hx hb d_mo_isPrime_23 rfl (lv_at hl 0 rfl) ?_
            refine lv_iload_n hx hb d_mo_isPrime_24 rfl (lv_at hl 1 rfl) ?_
            obtain ⟨hz_7, hv⟩ := hv
            refine lv_irem hx hb d_mo_isPrime_25 hz_7 ?_
            refine lv_if_ne (tgt := 31) hx hb d_mo_isPrime_26 (by decide) (fun c_8 => ?_) (fun c_8 => ?_)
            · have hv := hv.1 c_8
              obtain ⟨x1_9, ex1_9⟩ : ∃ y : Int32, y = x1_3 + 1 := ⟨_, rfl⟩
              have hv := hv x1_9 ex1_9
              refine lv_iinc (v := x1_9) (lv' := [(1, .int x1_9), (0, .int p0)]) hx hb d_mo_isPrime_31 hl (k := 1) rfl (by rw [ex1_9]; rfl) (by decide) rfl (fun ls hl => ?_)
              refine lv_goto (tgt := 16) hx hb d_mo_isPrime_34 (by decide) ?_
              exact ih16 x1_9 (Nat.lt_of_lt_of_le hv.2 (Nat.le_of_lt_succ hlt16)) hv.1 _ _ _ (hP.sub [] rfl) (hD.sub [] (by decide) rfl) hS (lv_sub hl [1, 0] rfl)
            · have hv := hv.2 c_8
              refine lv_iconst (v := 0) hx hb d_mo_isPrime_29 (by decide) ?_
              have hP9 := hP.sub (ws' := []) [] rfl
              have hD9 := hD.sub (ws' := []) [] (by decide) rfl
              exact W.zret (v := 0) hx hb hr rfl (fun t ht hW => ⟨⟨0, (), rfl, hv, by rw [ht]; exact hP9, hD9⟩, hS.F ht⟩) hS.2.2 d_mo_isPrime_30
      exact loop16 _ 2 (Nat.lt_succ_self _) hi0 _ _ _ hP hD hS hl
    · have hv := hv.2 c_2
      refine lv_iconst (v := 0) hx hb d_mo_isPrime_12 (by decide) ?_
      have hP9 := hP.sub (ws' := []) [] rfl
      have hD9 := hD.sub (ws' := []) [] (by decide) rfl
      exact W.zret (v := 0) hx hb hr rfl (fun t ht hW => ⟨⟨0, (), rfl, hv, by rw [ht]; exact hP9, hD9⟩, hS.F ht⟩) hS.2.2 d_mo_isPrime_13
abbrev b_mo_within : ByteArray := prog_4_method_3_code
def y_mo_within : MethodName := ⟨"SpaceBasis$Modulus", "within", "(I)I"⟩
def w_mo_within : List Cond := Cond.code y_mo_within b_mo_within 2 (some .int) :: vwWS
theorem d_mo_within_0 : decode b_mo_within 0 = .ok (.iload_n 1, 1) := by decide +kernel
theorem d_mo_within_1 : decode b_mo_within 1 = .ok (.aload_n 0, 1) := by decide +kernel
theorem d_mo_within_2 : decode b_mo_within 2 = .ok (.getfield 9, 3) := by decide +kernel
theorem d_mo_within_5 : decode b_mo_within 5 = .ok (.invokestatic 15, 3) := by decide +kernel
theorem d_mo_within_8 : decode b_mo_within 8 = .ok (.ireturn, 1) := by decide +kernel
/-- SpaceBasis$Modulus.within(I)I -/
def vc_mo_within (mo_prime : Int32) (p0 : Int32) (Q : Int32 → Prop) : Prop :=
  vc_Ma_floorMod p0 mo_prime (fun (r_1 : Int32) => Q r_1)
abbrev at_mo_within (dC : Nat → ClassId) (dI : Nat → Nat → Nat) (cs : Nat → ClassId) (A : Nat → Prop) (ad : Nat → Nat) (mo_prime : Int32) (u : Unit) (t : State) : Prop := match u with
  | _ => va_P (dC, dI) vwCl [((ad 3), .inr (1, [.int mo_prime]))] t.heap ∧ va_D A [((ad 3), .inr (1, [.int mo_prime]))]
set_option maxHeartbeats 4000000 in
set_option maxRecDepth 100000 in
theorem c_mo_within (l : Launch) (dC : Nat → ClassId) (dI : Nat → Nat → Nat) (cs : Nat → ClassId) (ad : Nat → Nat)  (sz : Nat) (mo_prime : Int32) (p0 : Int32) (Q : Int32 → Prop) (hv : vc_mo_within mo_prime p0 Q) : Met l y_mo_within w_mo_within ({ frames := 1, cells := 0, slots := 0, locals := 22 }) (va_Pc [.ref (ad 3), .int p0] (fun U => U.heap.size = sz ∧ va_P (dC, dI) vwCl [((ad 3), .inr (1, [.int mo_prime]))] U.heap ∧ vwK dC dI cs U ∧ va_D (fun _ => True) [((ad 3), .inr (1, [.int mo_prime]))])) (va_Qi (fun (r : Int32) (u : Unit) => Q r) (at_mo_within dC dI cs (va_A [((ad 3), .inr (1, [.int mo_prime]))] sz) ad mo_prime) (va_A [((ad 3), .inr (1, [.int mo_prime]))] sz)) 0 0 (va_A [((ad 3), .inr (1, [.int mo_prime]))] sz) := by
  unfold vc_mo_within at hv
  refine Met.ofW (cc := b_mo_within) (maxL := 2) (ret := (some .int)) (by decide) rfl ?_
  intro p e s m args below meth c s₁ B hml hpc
  obtain ⟨rfl, hsz, hP, ⟨hK, hN⟩, hD0⟩ := hpc
  have hx := B.exec
  have hb := B.bytes
  have hr := B.returns
  have hts : ∀ w ∈ vwWS, w.before _ s = true := fun w h => atoms_spec (ws := w_mo_within) B.pre w (List.mem_cons_of_mem _ h)
  have hown : s.vm.findClass "SpaceBasis$Modulus" = some m.cls := findClass_of_methodNamed B.named
  have hlocks := B.notSynchronized
  subst hsz
  have hD := hD0.self (sz := s.heap.size)
  generalize hAe : va_A [((ad 3), .inr (1, [.int mo_prime]))] s.heap.size = A at hD ⊢
  have hA : ∀ q : Nat, s.heap.size ≤ q → A q := fun q h => by rw [← hAe]; exact Or.inr h
  have hS : va_S A s.heap s.heap [] := va_S.rf
  have hl := lv_entry ([.ref (ad 3), .int p0]) (n := 2) (Nat.le_of_ble_eq_true rfl)
  rw [lg_entry_eq]
  generalize (lg_sl ([.ref (ad 3), .int p0]) ++ List.replicate (2 - (lg_sl ([.ref (ad 3), .int p0])).length) Slot.unset).toArray = ls at hl ⊢
  have hl : lv_has ls 2 [(0, .ref (ad 3)), (1, .int p0)] := hl
  refine lv_iload_n hx hb d_mo_within_0 rfl (lv_at hl 1 rfl) ?_
  refine lv_aload_n hx hb d_mo_within_1 rfl (lv_at hl 0 rfl) ?_
  refine va_get (D := (dC, dI)) (ci := 1) (v := .int mo_prime) (C := R_mo) (T := F_mo) (N := 1) hx hb hts in_mo hown hK hP 0 rfl rfl 0 (by decide) (hts _ kw_63) (fun _ h9 => h9) rfl d_mo_within_2 ?_
  have hPc := hP.sub (ws' := []) [] rfl
  have hDc := hD.sub (ws' := []) [] (by decide) rfl
  have hFc := va_free (wc := []) hD hS hA [] rfl
  refine va_calli (va_runS (As := [.int p0, .int mo_prime]) (rest := []) ⟨hx, hb, hml, hown, hts⟩ (c_Ma_floorMod l dC dI cs ad  s.heap.size p0 mo_prime _ hv) (va_cwS 2 hts (gd_S kw_430 kw_431 kw_46 kw_432) rfl rfl rfl (by decide +kernel) ⟨Nat.le_of_ble_eq_true rfl, Nat.le_of_ble_eq_true rfl⟩) ⟨fun a U g mk q => by obtain ⟨q0, q1, qP, qK, qD⟩ := q; exact ⟨q0, q1, qP, qK.call, qD⟩, fun U hU hW => ⟨rfl, by rw [hU], by rw [hU]; exact hPc, vwK.warm hW ⟨hK, hN⟩, hDc.weaken (fun _ _ _ _ => trivial)⟩⟩ rfl rfl hl.1 rfl (lv_room (Nat.le_of_ble_eq_true rfl)) d_mo_within_5 ⟨Nat.zero_le _, Nat.zero_le _⟩) hS (fun q _ h => hFc q h) hFc (fun r_1 _u t H1 locs1 ht hvm hw hB hz1 hk1 hS => ?_)
  obtain ⟨hP1, hD1⟩ := hB
  rw [ht] at hP1
  obtain ⟨hP, hD⟩ := va_join (wr := [((ad 3), .inr (1, [.int mo_prime]))]) (w1 := []) hP hD [] [0] rfl rfl (by decide) (by decide) hk1 hFc hP1 hD1
  generalize H1 = H at hP hS ⊢
  generalize locs1 = locs at hS ⊢
  have hP : va_P (dC, dI) vwCl [((ad 3), .inr (1, [.int mo_prime]))] H := hP
  have hD : va_D A [((ad 3), .inr (1, [.int mo_prime]))] := hD
  have hv := hw
  try dsimp only at hv
  have hP9 := hP.sub (ws' := [((ad 3), .inr (1, [.int mo_prime]))]) [0] rfl
  have hD9 := hD.sub (ws' := [((ad 3), .inr (1, [.int mo_prime]))]) [0] (by decide) rfl
  exact W.iret (v := r_1) hx hb hr (fun t ht hW => ⟨⟨r_1, (), rfl, hv, by rw [ht]; exact hP9, hD9⟩, hS.F ht⟩) hS.2.2 d_mo_within_8
abbrev b_mo_opposite : ByteArray := prog_4_method_4_code
def y_mo_opposite : MethodName := ⟨"SpaceBasis$Modulus", "opposite", "(I)I"⟩
def w_mo_opposite : List Cond := Cond.code y_mo_opposite b_mo_opposite 2 (some .int) :: vwWS
theorem d_mo_opposite_0 : decode b_mo_opposite 0 = .ok (.iload_n 1, 1) := by decide +kernel
theorem d_mo_opposite_1 : decode b_mo_opposite 1 = .ok (.ifCond .ne 7, 3) := by decide +kernel
theorem d_mo_opposite_4 : decode b_mo_opposite 4 = .ok (.iconst 0, 1) := by decide +kernel
theorem d_mo_opposite_5 : decode b_mo_opposite 5 = .ok (.goto 9, 3) := by decide +kernel
theorem d_mo_opposite_8 : decode b_mo_opposite 8 = .ok (.aload_n 0, 1) := by decide +kernel
theorem d_mo_opposite_9 : decode b_mo_opposite 9 = .ok (.getfield 9, 3) := by decide +kernel
theorem d_mo_opposite_12 : decode b_mo_opposite 12 = .ok (.iload_n 1, 1) := by decide +kernel
theorem d_mo_opposite_13 : decode b_mo_opposite 13 = .ok (.isub, 1) := by decide +kernel
theorem d_mo_opposite_14 : decode b_mo_opposite 14 = .ok (.ireturn, 1) := by decide +kernel
/-- SpaceBasis$Modulus.opposite(I)I -/
def vc_mo_opposite (mo_prime : Int32) (p0 : Int32) (Q : Int32 → Prop) : Prop :=
  (((¬ (p0 = 0)) → (Q (mo_prime - p0))) ∧ ((p0 = 0) → (Q 0)))
abbrev at_mo_opposite (dC : Nat → ClassId) (dI : Nat → Nat → Nat) (cs : Nat → ClassId) (A : Nat → Prop) (ad : Nat → Nat) (mo_prime : Int32) (u : Unit) (t : State) : Prop := match u with
  | _ => va_P (dC, dI) vwCl [((ad 3), .inr (1, [.int mo_prime]))] t.heap ∧ va_D A [((ad 3), .inr (1, [.int mo_prime]))]
set_option maxHeartbeats 4000000 in
set_option maxRecDepth 100000 in
theorem c_mo_opposite (l : Launch) (dC : Nat → ClassId) (dI : Nat → Nat → Nat) (cs : Nat → ClassId) (ad : Nat → Nat)  (sz : Nat) (mo_prime : Int32) (p0 : Int32) (Q : Int32 → Prop) (hv : vc_mo_opposite mo_prime p0 Q) : Met l y_mo_opposite w_mo_opposite ({ frames := 0, cells := 0, slots := 0, locals := 0 }) (va_Pc [.ref (ad 3), .int p0] (fun U => U.heap.size = sz ∧ va_P (dC, dI) vwCl [((ad 3), .inr (1, [.int mo_prime]))] U.heap ∧ vwK dC dI cs U ∧ va_D (fun _ => True) [((ad 3), .inr (1, [.int mo_prime]))])) (va_Qi (fun (r : Int32) (u : Unit) => Q r) (at_mo_opposite dC dI cs (va_A [((ad 3), .inr (1, [.int mo_prime]))] sz) ad mo_prime) (va_A [((ad 3), .inr (1, [.int mo_prime]))] sz)) 0 0 (va_A [((ad 3), .inr (1, [.int mo_prime]))] sz) := by
  unfold vc_mo_opposite at hv
  refine Met.ofW (cc := b_mo_opposite) (maxL := 2) (ret := (some .int)) (by decide) rfl ?_
  intro p e s m args below meth c s₁ B hml hpc
  obtain ⟨rfl, hsz, hP, ⟨hK, hN⟩, hD0⟩ := hpc
  have hx := B.exec
  have hb := B.bytes
  have hr := B.returns
  have hts : ∀ w ∈ vwWS, w.before _ s = true := fun w h => atoms_spec (ws := w_mo_opposite) B.pre w (List.mem_cons_of_mem _ h)
  have hown : s.vm.findClass "SpaceBasis$Modulus" = some m.cls := findClass_of_methodNamed B.named
  have hlocks := B.notSynchronized
  subst hsz
  have hD := hD0.self (sz := s.heap.size)
  generalize hAe : va_A [((ad 3), .inr (1, [.int mo_prime]))] s.heap.size = A at hD ⊢
  have hA : ∀ q : Nat, s.heap.size ≤ q → A q := fun q h => by rw [← hAe]; exact Or.inr h
  have hS : va_S A s.heap s.heap [] := va_S.rf
  have hl := lv_entry ([.ref (ad 3), .int p0]) (n := 2) (Nat.le_of_ble_eq_true rfl)
  rw [lg_entry_eq]
  generalize (lg_sl ([.ref (ad 3), .int p0]) ++ List.replicate (2 - (lg_sl ([.ref (ad 3), .int p0])).length) Slot.unset).toArray = ls at hl ⊢
  have hl : lv_has ls 2 [(0, .ref (ad 3)), (1, .int p0)] := hl
  refine lv_iload_n hx hb d_mo_opposite_0 rfl (lv_at hl 1 rfl) ?_
  refine lv_if_ne (tgt := 8) hx hb d_mo_opposite_1 (by decide) (fun c_1 => ?_) (fun c_1 => ?_)
  · have hv := hv.1 c_1
    refine lv_aload_n hx hb d_mo_opposite_8 rfl (lv_at hl 0 rfl) ?_
    refine va_get (D := (dC, dI)) (ci := 1) (v := .int mo_prime) (C := R_mo) (T := F_mo) (N := 1) hx hb hts in_mo hown hK hP 0 rfl rfl 0 (by decide) (hts _ kw_63) (fun _ h9 => h9) rfl d_mo_opposite_9 ?_
    refine lv_iload_n hx hb d_mo_opposite_12 rfl (lv_at hl 1 rfl) ?_
    refine lv_isub hx hb d_mo_opposite_13 ?_
    have hP9 := hP.sub (ws' := [((ad 3), .inr (1, [.int mo_prime]))]) [0] rfl
    have hD9 := hD.sub (ws' := [((ad 3), .inr (1, [.int mo_prime]))]) [0] (by decide) rfl
    exact W.iret (v := (mo_prime - p0)) hx hb hr (fun t ht hW => ⟨⟨(mo_prime - p0), (), rfl, hv, by rw [ht]; exact hP9, hD9⟩, hS.F ht⟩) hS.2.2 d_mo_opposite_14
  · have hv := hv.2 c_1
    refine lv_iconst (v := 0) hx hb d_mo_opposite_4 (by decide) ?_
    refine lv_goto (tgt := 14) hx hb d_mo_opposite_5 (by decide) ?_
    have hP9 := hP.sub (ws' := [((ad 3), .inr (1, [.int mo_prime]))]) [0] rfl
    have hD9 := hD.sub (ws' := [((ad 3), .inr (1, [.int mo_prime]))]) [0] (by decide) rfl
    exact W.iret (v := 0) hx hb hr (fun t ht hW => ⟨⟨0, (), rfl, hv, by rw [ht]; exact hP9, hD9⟩, hS.F ht⟩) hS.2.2 d_mo_opposite_14
abbrev b_mo_product : ByteArray := prog_4_method_5_code
def y_mo_product : MethodName := ⟨"SpaceBasis$Modulus", "product", "(II)I"⟩
def w_mo_product : List Cond := Cond.code y_mo_product b_mo_product 3 (some .int) :: vwWS
theorem d_mo_product_0 : decode b_mo_product 0 = .ok (.iload_n 1, 1) := by decide +kernel
theorem d_mo_product_1 : decode b_mo_product 1 = .ok (.iload_n 2, 1) := by decide +kernel
theorem d_mo_product_2 : decode b_mo_product 2 = .ok (.imul, 1) := by decide +kernel
theorem d_mo_product_3 : decode b_mo_product 3 = .ok (.aload_n 0, 1) := by decide +kernel
theorem d_mo_product_4 : decode b_mo_product 4 = .ok (.getfield 9, 3) := by decide +kernel
theorem d_mo_product_7 : decode b_mo_product 7 = .ok (.irem, 1) := by decide +kernel
theorem d_mo_product_8 : decode b_mo_product 8 = .ok (.ireturn, 1) := by decide +kernel
/-- SpaceBasis$Modulus.product(II)I -/
def vc_mo_product (mo_prime : Int32) (p0 : Int32) (p1 : Int32) (Q : Int32 → Prop) : Prop :=
  (¬ (mo_prime : Int32) = 0) ∧ Q ((p0 * p1) - (p0 * p1) / mo_prime * mo_prime)
abbrev at_mo_product (dC : Nat → ClassId) (dI : Nat → Nat → Nat) (cs : Nat → ClassId) (A : Nat → Prop) (ad : Nat → Nat) (mo_prime : Int32) (u : Unit) (t : State) : Prop := match u with
  | _ => va_P (dC, dI) vwCl [((ad 3), .inr (1, [.int mo_prime]))] t.heap ∧ va_D A [((ad 3), .inr (1, [.int mo_prime]))]
set_option maxHeartbeats 4000000 in
set_option maxRecDepth 100000 in
theorem c_mo_product (l : Launch) (dC : Nat → ClassId) (dI : Nat → Nat → Nat) (cs : Nat → ClassId) (ad : Nat → Nat)  (sz : Nat) (mo_prime : Int32) (p0 : Int32) (p1 : Int32) (Q : Int32 → Prop) (hv : vc_mo_product mo_prime p0 p1 Q) : Met l y_mo_product w_mo_product ({ frames := 0, cells := 0, slots := 0, locals := 0 }) (va_Pc [.ref (ad 3), .int p0, .int p1] (fun U => U.heap.size = sz ∧ va_P (dC, dI) vwCl [((ad 3), .inr (1, [.int mo_prime]))] U.heap ∧ vwK dC dI cs U ∧ va_D (fun _ => True) [((ad 3), .inr (1, [.int mo_prime]))])) (va_Qi (fun (r : Int32) (u : Unit) => Q r) (at_mo_product dC dI cs (va_A [((ad 3), .inr (1, [.int mo_prime]))] sz) ad mo_prime) (va_A [((ad 3), .inr (1, [.int mo_prime]))] sz)) 0 0 (va_A [((ad 3), .inr (1, [.int mo_prime]))] sz) := by
  unfold vc_mo_product at hv
  refine Met.ofW (cc := b_mo_product) (maxL := 3) (ret := (some .int)) (by decide) rfl ?_
  intro p e s m args below meth c s₁ B hml hpc
  obtain ⟨rfl, hsz, hP, ⟨hK, hN⟩, hD0⟩ := hpc
  have hx := B.exec
  have hb := B.bytes
  have hr := B.returns
  have hts : ∀ w ∈ vwWS, w.before _ s = true := fun w h => atoms_spec (ws := w_mo_product) B.pre w (List.mem_cons_of_mem _ h)
  have hown : s.vm.findClass "SpaceBasis$Modulus" = some m.cls := findClass_of_methodNamed B.named
  have hlocks := B.notSynchronized
  subst hsz
  have hD := hD0.self (sz := s.heap.size)
  generalize hAe : va_A [((ad 3), .inr (1, [.int mo_prime]))] s.heap.size = A at hD ⊢
  have hA : ∀ q : Nat, s.heap.size ≤ q → A q := fun q h => by rw [← hAe]; exact Or.inr h
  have hS : va_S A s.heap s.heap [] := va_S.rf
  have hl := lv_entry ([.ref (ad 3), .int p0, .int p1]) (n := 3) (Nat.le_of_ble_eq_true rfl)
  rw [lg_entry_eq]
  generalize (lg_sl ([.ref (ad 3), .int p0, .int p1]) ++ List.replicate (3 - (lg_sl ([.ref (ad 3), .int p0, .int p1])).length) Slot.unset).toArray = ls at hl ⊢
  have hl : lv_has ls 3 [(0, .ref (ad 3)), (1, .int p0), (2, .int p1)] := hl
  refine lv_iload_n hx hb d_mo_product_0 rfl (lv_at hl 1 rfl) ?_
  refine lv_iload_n hx hb d_mo_product_1 rfl (lv_at hl 2 rfl) ?_
  refine lv_imul hx hb d_mo_product_2 ?_
  refine lv_aload_n hx hb d_mo_product_3 rfl (lv_at hl 0 rfl) ?_
  refine va_get (D := (dC, dI)) (ci := 1) (v := .int mo_prime) (C := R_mo) (T := F_mo) (N := 1) hx hb hts in_mo hown hK hP 0 rfl rfl 0 (by decide) (hts _ kw_63) (fun _ h9 => h9) rfl d_mo_product_4 ?_
  obtain ⟨hz_1, hv⟩ := hv
  refine lv_irem hx hb d_mo_product_7 hz_1 ?_
  have hP9 := hP.sub (ws' := [((ad 3), .inr (1, [.int mo_prime]))]) [0] rfl
  have hD9 := hD.sub (ws' := [((ad 3), .inr (1, [.int mo_prime]))]) [0] (by decide) rfl
  exact W.iret (v := ((p0 * p1) - (p0 * p1) / mo_prime * mo_prime)) hx hb hr (fun t ht hW => ⟨⟨((p0 * p1) - (p0 * p1) / mo_prime * mo_prime), (), rfl, hv, by rw [ht]; exact hP9, hD9⟩, hS.F ht⟩) hS.2.2 d_mo_product_8
abbrev b_mo_inverse : ByteArray := prog_4_method_6_code
def y_mo_inverse : MethodName := ⟨"SpaceBasis$Modulus", "inverse", "(I)I"⟩
def w_mo_inverse : List Cond := Cond.code y_mo_inverse b_mo_inverse 5 (some .int) :: vwWS
theorem d_mo_inverse_0 : decode b_mo_inverse 0 = .ok (.iconst 1, 1) := by decide +kernel
theorem d_mo_inverse_1 : decode b_mo_inverse 1 = .ok (.istore_n 2, 1) := by decide +kernel
theorem d_mo_inverse_2 : decode b_mo_inverse 2 = .ok (.iload_n 1, 1) := by decide +kernel
theorem d_mo_inverse_3 : decode b_mo_inverse 3 = .ok (.istore_n 3, 1) := by decide +kernel
theorem d_mo_inverse_4 : decode b_mo_inverse 4 = .ok (.aload_n 0, 1) := by decide +kernel
theorem d_mo_inverse_5 : decode b_mo_inverse 5 = .ok (.getfield 9, 3) := by decide +kernel
theorem d_mo_inverse_8 : decode b_mo_inverse 8 = .ok (.iconst 2, 1) := by decide +kernel
theorem d_mo_inverse_9 : decode b_mo_inverse 9 = .ok (.isub, 1) := by decide +kernel
theorem d_mo_inverse_10 : decode b_mo_inverse 10 = .ok (.istore 4, 2) := by decide +kernel
theorem d_mo_inverse_12 : decode b_mo_inverse 12 = .ok (.iload 4, 2) := by decide +kernel
theorem d_mo_inverse_14 : decode b_mo_inverse 14 = .ok (.ifCond .le 34, 3) := by decide +kernel
theorem d_mo_inverse_17 : decode b_mo_inverse 17 = .ok (.iload 4, 2) := by decide +kernel
theorem d_mo_inverse_19 : decode b_mo_inverse 19 = .ok (.iconst 1, 1) := by decide +kernel
theorem d_mo_inverse_20 : decode b_mo_inverse 20 = .ok (.iand, 1) := by decide +kernel
theorem d_mo_inverse_21 : decode b_mo_inverse 21 = .ok (.iconst 1, 1) := by decide +kernel
theorem d_mo_inverse_22 : decode b_mo_inverse 22 = .ok (.if_icmp .ne 10, 3) := by decide +kernel
theorem d_mo_inverse_25 : decode b_mo_inverse 25 = .ok (.aload_n 0, 1) := by decide +kernel
theorem d_mo_inverse_26 : decode b_mo_inverse 26 = .ok (.iload_n 2, 1) := by decide +kernel
theorem d_mo_inverse_27 : decode b_mo_inverse 27 = .ok (.iload_n 3, 1) := by decide +kernel
theorem d_mo_inverse_28 : decode b_mo_inverse 28 = .ok (.invokevirtual 21, 3) := by decide +kernel
theorem d_mo_inverse_31 : decode b_mo_inverse 31 = .ok (.istore_n 2, 1) := by decide +kernel
theorem d_mo_inverse_32 : decode b_mo_inverse 32 = .ok (.aload_n 0, 1) := by decide +kernel
theorem d_mo_inverse_33 : decode b_mo_inverse 33 = .ok (.iload_n 3, 1) := by decide +kernel
theorem d_mo_inverse_34 : decode b_mo_inverse 34 = .ok (.iload_n 3, 1) := by decide +kernel
theorem d_mo_inverse_35 : decode b_mo_inverse 35 = .ok (.invokevirtual 21, 3) := by decide +kernel
theorem d_mo_inverse_38 : decode b_mo_inverse 38 = .ok (.istore_n 3, 1) := by decide +kernel
theorem d_mo_inverse_39 : decode b_mo_inverse 39 = .ok (.iload 4, 2) := by decide +kernel
theorem d_mo_inverse_41 : decode b_mo_inverse 41 = .ok (.iconst 1, 1) := by decide +kernel
theorem d_mo_inverse_42 : decode b_mo_inverse 42 = .ok (.ishr, 1) := by decide +kernel
theorem d_mo_inverse_43 : decode b_mo_inverse 43 = .ok (.istore 4, 2) := by decide +kernel
theorem d_mo_inverse_45 : decode b_mo_inverse 45 = .ok (.goto (-33), 3) := by decide +kernel
theorem d_mo_inverse_48 : decode b_mo_inverse 48 = .ok (.iload_n 2, 1) := by decide +kernel
theorem d_mo_inverse_49 : decode b_mo_inverse 49 = .ok (.ireturn, 1) := by decide +kernel
/-- SpaceBasis$Modulus.inverse(I)I -/
def vc_mo_inverse (mo_prime : Int32) (p0 : Int32) (Q : Int32 → Prop) : Prop :=
  ∀ x4_1 : Int32, x4_1 = (mo_prime - 2) → ∃ (I12_5 : Int32 → Int32 → Int32 → Prop) (mu12_6 : Int32 → Int32 → Int32 → Nat), I12_5 1 p0 x4_1 ∧ ∀ (x2_2 : Int32) (x3_3 : Int32) (x4_4 : Int32), I12_5 x2_2 x3_3 x4_4 → ((((x4_4 ≤ 0) → (Q x2_2)) ∧ ((¬ (x4_4 ≤ 0)) → ((((¬ ((x4_4 &&& 1) = 1)) → (vc_mo_product mo_prime x3_3 x3_3 (fun (r_9 : Int32) => ∀ x4_10 : Int32, x4_10 = (x4_4 >>> (1 &&& 31)) → (I12_5 x2_2 r_9 x4_10 ∧ mu12_6 x2_2 r_9 x4_10 < mu12_6 x2_2 x3_3 x4_4)))) ∧ (((x4_4 &&& 1) = 1) → (vc_mo_product mo_prime x2_2 x3_3 (fun (r_11 : Int32) => vc_mo_product mo_prime x3_3 x3_3 (fun (r_12 : Int32) => ∀ x4_13 : Int32, x4_13 = (x4_4 >>> (1 &&& 31)) → (I12_5 r_11 r_12 x4_13 ∧ mu12_6 r_11 r_12 x4_13 < mu12_6 x2_2 x3_3 x4_4))))))))))
abbrev at_mo_inverse (dC : Nat → ClassId) (dI : Nat → Nat → Nat) (cs : Nat → ClassId) (A : Nat → Prop) (ad : Nat → Nat) (mo_prime : Int32) (u : Unit) (t : State) : Prop := match u with
  | _ => va_P (dC, dI) vwCl [((ad 3), .inr (1, [.int mo_prime]))] t.heap ∧ va_D A [((ad 3), .inr (1, [.int mo_prime]))]
set_option maxHeartbeats 4000000 in
set_option maxRecDepth 100000 in
theorem c_mo_inverse (l : Launch) (dC : Nat → ClassId) (dI : Nat → Nat → Nat) (cs : Nat → ClassId) (ad : Nat → Nat)  (sz : Nat) (mo_prime : Int32) (p0 : Int32) (Q : Int32 → Prop) (hv : vc_mo_inverse mo_prime p0 Q) : Met l y_mo_inverse w_mo_inverse ({ frames := 1, cells := 0, slots := 0, locals := 22 }) (va_Pc [.ref (ad 3), .int p0] (fun U => U.heap.size = sz ∧ va_P (dC, dI) vwCl [((ad 3), .inr (1, [.int mo_prime]))] U.heap ∧ vwK dC dI cs U ∧ va_D (fun _ => True) [((ad 3), .inr (1, [.int mo_prime]))])) (va_Qi (fun (r : Int32) (u : Unit) => Q r) (at_mo_inverse dC dI cs (va_A [((ad 3), .inr (1, [.int mo_prime]))] sz) ad mo_prime) (va_A [((ad 3), .inr (1, [.int mo_prime]))] sz)) 0 0 (va_A [((ad 3), .inr (1, [.int mo_prime]))] sz) := by
  unfold vc_mo_inverse at hv
  refine Met.ofW (cc := b_mo_inverse) (maxL := 5) (ret := (some .int)) (by decide) rfl ?_
  intro p e s m args below meth c s₁ B hml hpc
  obtain ⟨rfl, hsz, hP, ⟨hK, hN⟩, hD0⟩ := hpc
  have hx := B.exec
  have hb := B.bytes
  have hr := B.returns
  have hts : ∀ w ∈ vwWS, w.before _ s = true := fun w h => atoms_spec (ws := w_mo_inverse) B.pre w (List.mem_cons_of_mem _ h)
  have hown : s.vm.findClass "SpaceBasis$Modulus" = some m.cls := findClass_of_methodNamed B.named
  have hlocks := B.notSynchronized
  subst hsz
  have hD := hD0.self (sz := s.heap.size)
  generalize hAe : va_A [((ad 3), .inr (1, [.int mo_prime]))] s.heap.size = A at hD ⊢
  have hA : ∀ q : Nat, s.heap.size ≤ q → A q := fun q h => by rw [← hAe]; exact Or.inr h
  have hS : va_S A s.heap s.heap [] := va_S.rf
  have hl := lv_entry ([.ref (ad 3), .int p0]) (n := 5) (Nat.le_of_ble_eq_true rfl)
  rw [lg_entry_eq]
  generalize (lg_sl ([.ref (ad 3), .int p0]) ++ List.replicate (5 - (lg_sl ([.ref (ad 3), .int p0])).length) Slot.unset).toArray = ls at hl ⊢
  have hl : lv_has ls 5 [(0, .ref (ad 3)), (1, .int p0)] := hl
  refine lv_iconst (v := 1) hx hb d_mo_inverse_0 (by decide) ?_
  refine lv_istore_n (lv' := [(2, .int 1), (0, .ref (ad 3)), (1, .int p0)]) hx hb d_mo_inverse_1 rfl hl (by decide) rfl (fun ls hl => ?_)
  refine lv_iload_n hx hb d_mo_inverse_2 rfl (lv_at hl 2 rfl) ?_
  refine lv_istore_n (lv' := [(3, .int p0), (2, .int 1), (0, .ref (ad 3)), (1, .int p0)]) hx hb d_mo_inverse_3 rfl hl (by decide) rfl (fun ls hl => ?_)
  refine lv_aload_n hx hb d_mo_inverse_4 rfl (lv_at hl 2 rfl) ?_
  refine va_get (D := (dC, dI)) (ci := 1) (v := .int mo_prime) (C := R_mo) (T := F_mo) (N := 1) hx hb hts in_mo hown hK hP 0 rfl rfl 0 (by decide) (hts _ kw_63) (fun _ h9 => h9) rfl d_mo_inverse_5 ?_
  refine lv_iconst (v := 2) hx hb d_mo_inverse_8 (by decide) ?_
  refine lv_isub hx hb d_mo_inverse_9 ?_
  refine lv_topi (fun x4_1 ex4_1 => ?_)
  have hv := hv x4_1 ex4_1
  refine lv_istore (lv' := [(4, .int x4_1), (3, .int p0), (2, .int 1), (0, .ref (ad 3)), (1, .int p0)]) hx hb d_mo_inverse_10 hl (by decide) rfl (fun ls hl => ?_)
  obtain ⟨I12_5, mu12_6, hi0, hv⟩ := hv
  have hP := hP.sub (ws' := [((ad 3), .inr (1, [.int mo_prime]))]) [0] rfl
  have hD := hD.sub (ws' := [((ad 3), .inr (1, [.int mo_prime]))]) [0] (by decide) rfl
  have hl := lv_sub (l' := [(0, .ref (ad 3)), (1, .int p0), (2, .int 1), (3, .int p0), (4, .int x4_1)]) hl [3, 4, 2, 1, 0] rfl
  have loop12 : ∀ (nn : Nat) (x2_2 : Int32) (x3_3 : Int32) (x4_4 : Int32), mu12_6 x2_2 x3_3 x4_4 < nn → I12_5 x2_2 x3_3 x4_4 → ∀ (H : Heap) (locs : List Loc) (ls : Array Slot), va_P (dC, dI) vwCl [((ad 3), .inr (1, [.int mo_prime]))] H → va_D A [((ad 3), .inr (1, [.int mo_prime]))] → va_S A s.heap H locs → lv_has ls 5 [(0, .ref (ad 3)), (1, .int p0), (2, .int x2_2), (3, .int x3_3), (4, .int x4_4)] → W p l e (headSpec w_mo_inverse { frames := 1, cells := 0, slots := 0, locals := 22 }).room s m ([.ref (ad 3), .int p0] : List Value).toArray below meth c H locs 0 0 (MQ below (va_Qi (fun (r : Int32) (u : Unit) => Q r) (at_mo_inverse dC dI cs A ad mo_prime) A) ([.ref (ad 3), .int p0] : List Value).toArray s 0 0 A) (F0 m 12 ls []) := by
    intro nn
    induction nn with
    | zero => intro x2_2 x3_3 x4_4 hlt; exact absurd hlt (Nat.not_lt_zero _)
    | succ nn ih12 =>
      intro x2_2 x3_3 x4_4 hlt12 hI H locs ls hP hD hS hl
      have hv := hv x2_2 x3_3 x4_4 hI
      refine lv_iload hx hb d_mo_inverse_12 (lv_at hl 4 rfl) ?_
      refine lv_if_le (tgt := 48) hx hb d_mo_inverse_14 (by decide) (fun c_7 => ?_) (fun c_7 => ?_)
      · have hv := hv.1 c_7
        refine lv_iload_n hx hb d_mo_inverse_48 rfl (lv_at hl 2 rfl) ?_
        have hP9 := hP.sub (ws' := [((ad 3), .inr (1, [.int mo_prime]))]) [0] rfl
        have hD9 := hD.sub (ws' := [((ad 3), .inr (1, [.int mo_prime]))]) [0] (by decide) rfl
        exact W.iret (v := x2_2) hx hb hr (fun t ht hW => ⟨⟨x2_2, (), rfl, hv, by rw [ht]; exact hP9, hD9⟩, hS.F ht⟩) hS.2.2 d_mo_inverse_49
      · have hv := hv.2 c_7
        refine lv_iload hx hb d_mo_inverse_17 (lv_at hl 4 rfl) ?_
        refine lv_iconst (v := 1) hx hb d_mo_inverse_19 (by decide) ?_
        refine lv_iand hx hb d_mo_inverse_20 ?_
        refine lv_iconst (v := 1) hx hb d_mo_inverse_21 (by decide) ?_
        refine lv_icmp_ne (tgt := 32) hx hb d_mo_inverse_22 (by decide) (fun c_8 => ?_) (fun c_8 => ?_)
        · have hv := hv.1 c_8
          refine lv_aload_n hx hb d_mo_inverse_32 rfl (lv_at hl 0 rfl) ?_
          refine lv_iload_n hx hb d_mo_inverse_33 rfl (lv_at hl 3 rfl) ?_
          refine lv_iload_n hx hb d_mo_inverse_34 rfl (lv_at hl 3 rfl) ?_
          have hPc := hP.sub (ws' := [((ad 3), .inr (1, [.int mo_prime]))]) [0] rfl
          have hDc := hD.sub (ws' := [((ad 3), .inr (1, [.int mo_prime]))]) [0] (by decide) rfl
          have hFc := va_free (wc := [((ad 3), .inr (1, [.int mo_prime]))]) hD hS hA [0] rfl
          refine va_calli (va_runV (As := [.int x3_3, .int x3_3]) (rest := []) ⟨hx, hb, hml, hown, hts⟩ (c_mo_product l dC dI cs ad  H.size mo_prime x3_3 x3_3 _ hv) (cwV 2 hts (gd_V kw_500 kw_501 kw_502 kw_33 kw_503) rfl rfl rfl (by decide +kernel) ⟨Nat.le_of_ble_eq_true rfl, Nat.le_of_ble_eq_true rfl⟩) ⟨fun a U g mk q => by obtain ⟨q0, q1, qP, qK, qD⟩ := q; exact ⟨q0, q1, qP, qK.call, qD⟩, va_recv hK hPc (ci := 1) (q0 := 0) rfl rfl, fun U hU hW => ⟨rfl, by rw [hU], by rw [hU]; exact hPc, vwK.warm hW ⟨hK, hN⟩, hDc.weaken (fun _ _ _ _ => trivial)⟩⟩ rfl rfl hl.1 rfl (lv_room (Nat.le_of_ble_eq_true rfl)) d_mo_inverse_35 ⟨Nat.zero_le _, Nat.zero_le _⟩) hS (fun q _ h => hFc q h) hFc (fun r_9 _u t H1 locs1 ht hvm hw hB hz1 hk1 hS => ?_)
          obtain ⟨hP1, hD1⟩ := hB
          rw [ht] at hP1
          obtain ⟨hP, hD⟩ := va_join (wr := []) (w1 := [((ad 3), .inr (1, [.int mo_prime]))]) hP hD [0] [] rfl rfl (by decide) (by decide) hk1 hFc hP1 hD1
          generalize H1 = H at hP hS ⊢
          generalize locs1 = locs at hS ⊢
          have hP : va_P (dC, dI) vwCl [((ad 3), .inr (1, [.int mo_prime]))] H := hP
          have hD : va_D A [((ad 3), .inr (1, [.int mo_prime]))] := hD
          have hv := hw
          try dsimp only at hv
          refine lv_istore_n (lv' := [(3, .int r_9), (0, .ref (ad 3)), (1, .int p0), (2, .int x2_2), (4, .int x4_4)]) hx hb d_mo_inverse_38 rfl hl (by decide) rfl (fun ls hl => ?_)
          refine lv_iload hx hb d_mo_inverse_39 (lv_at hl 4 rfl) ?_
          refine lv_iconst (v := 1) hx hb d_mo_inverse_41 (by decide) ?_
          refine lv_ishr hx hb d_mo_inverse_42 ?_
          refine lv_topi (fun x4_10 ex4_10 => ?_)
          have hv := hv x4_10 ex4_10
          refine lv_istore (lv' := [(4, .int x4_10), (3, .int r_9), (0, .ref (ad 3)), (1, .int p0), (2, .int x2_2)]) hx hb d_mo_inverse_43 hl (by decide) rfl (fun ls hl => ?_)
          refine lv_goto (tgt := 12) hx hb d_mo_inverse_45 (by decide) ?_
          exact ih12 x2_2 r_9 x4_10 (Nat.lt_of_lt_of_le hv.2 (Nat.le_of_lt_succ hlt12)) hv.1 _ _ _ (hP.sub [0] rfl) (hD.sub [0] (by decide) rfl) hS (lv_sub hl [2, 3, 4, 1, 0] rfl)
        · have hv := hv.2 c_8
          refine lv_aload_n hx hb d_mo_inverse_25 rfl (lv_at hl 0 rfl) ?_
          refine lv_iload_n hx hb d_mo_inverse_26 rfl (lv_at hl 2 rfl) ?_
          refine lv_iload_n hx hb d_mo_inverse_27 rfl (lv_at hl 3 rfl) ?_
          have hPc := hP.sub (ws' := [((ad 3), .inr (1, [.int mo_prime]))]) [0] rfl
          have hDc := hD.sub (ws' := [((ad 3), .inr (1, [.int mo_prime]))]) [0] (by decide) rfl
          have hFc := va_free (wc := [((ad 3), .inr (1, [.int mo_prime]))]) hD hS hA [0] rfl
          refine va_calli (va_runV (As := [.int x2_2, .int x3_3]) (rest := []) ⟨hx, hb, hml, hown, hts⟩ (c_mo_product l dC dI cs ad  H.size mo_prime x2_2 x3_3 _ hv) (cwV 2 hts (gd_V kw_500 kw_501 kw_502 kw_33 kw_503) rfl rfl rfl (by decide +kernel) ⟨Nat.le_of_ble_eq_true rfl, Nat.le_of_ble_eq_true rfl⟩) ⟨fun a U g mk q => by obtain ⟨q0, q1, qP, qK, qD⟩ := q; exact ⟨q0, q1, qP, qK.call, qD⟩, va_recv hK hPc (ci := 1) (q0 := 0) rfl rfl, fun U hU hW => ⟨rfl, by rw [hU], by rw [hU]; exact hPc, vwK.warm hW ⟨hK, hN⟩, hDc.weaken (fun _ _ _ _ => trivial)⟩⟩ rfl rfl hl.1 rfl (lv_room (Nat.le_of_ble_eq_true rfl)) d_mo_inverse_28 ⟨Nat.zero_le _, Nat.zero_le _⟩) hS (fun q _ h => hFc q h) hFc (fun r_11 _u t H1 locs1 ht hvm hw hB hz1 hk1 hS => ?_)
          obtain ⟨hP1, hD1⟩ := hB
          rw [ht] at hP1
          obtain ⟨hP, hD⟩ := va_join (wr := []) (w1 := [((ad 3), .inr (1, [.int mo_prime]))]) hP hD [0] [] rfl rfl (by decide) (by decide) hk1 hFc hP1 hD1
          generalize H1 = H at hP hS ⊢
          generalize locs1 = locs at hS ⊢
          have hP : va_P (dC, dI) vwCl [((ad 3), .inr (1, [.int mo_prime]))] H := hP
          have hD : va_D A [((ad 3), .inr (1, [.int mo_prime]))] := hD
          have hv := hw
          try dsimp only at hv
          refine lv_istore_n (lv' := [(2, .int r_11), (0, .ref (ad 3)), (1, .int p0), (3, .int x3_3), (4, .int x4_4)]) hx hb d_mo_inverse_31 rfl hl (by decide) rfl (fun ls hl => ?_)
          refine lv_aload_n hx hb d_mo_inverse_32 rfl (lv_at hl 1 rfl) ?_
          refine lv_iload_n hx hb d_mo_inverse_33 rfl (lv_at hl 3 rfl) ?_
          refine lv_iload_n hx hb d_mo_inverse_34 rfl (lv_at hl 3 rfl) ?_
          have hPc := hP.sub (ws' := [((ad 3), .inr (1, [.int mo_prime]))]) [0] rfl
          have hDc := hD.sub (ws' := [((ad 3), .inr (1, [.int mo_prime]))]) [0] (by decide) rfl
          have hFc := va_free (wc := [((ad 3), .inr (1, [.int mo_prime]))]) hD hS hA [0] rfl
          refine va_calli (va_runV (As := [.int x3_3, .int x3_3]) (rest := []) ⟨hx, hb, hml, hown, hts⟩ (c_mo_product l dC dI cs ad  H.size mo_prime x3_3 x3_3 _ hv) (cwV 2 hts (gd_V kw_500 kw_501 kw_502 kw_33 kw_503) rfl rfl rfl (by decide +kernel) ⟨Nat.le_of_ble_eq_true rfl, Nat.le_of_ble_eq_true rfl⟩) ⟨fun a U g mk q => by obtain ⟨q0, q1, qP, qK, qD⟩ := q; exact ⟨q0, q1, qP, qK.call, qD⟩, va_recv hK hPc (ci := 1) (q0 := 0) rfl rfl, fun U hU hW => ⟨rfl, by rw [hU], by rw [hU]; exact hPc, vwK.warm hW ⟨hK, hN⟩, hDc.weaken (fun _ _ _ _ => trivial)⟩⟩ rfl rfl hl.1 rfl (lv_room (Nat.le_of_ble_eq_true rfl)) d_mo_inverse_35 ⟨Nat.zero_le _, Nat.zero_le _⟩) hS (fun q _ h => hFc q h) hFc (fun r_12 _u t H1 locs1 ht hvm hw hB hz1 hk1 hS => ?_)
          obtain ⟨hP1, hD1⟩ := hB
          rw [ht] at hP1
          obtain ⟨hP, hD⟩ := va_join (wr := []) (w1 := [((ad 3), .inr (1, [.int mo_prime]))]) hP hD [0] [] rfl rfl (by decide) (by decide) hk1 hFc hP1 hD1
          generalize H1 = H at hP hS ⊢
          generalize locs1 = locs at hS ⊢
          have hP : va_P (dC, dI) vwCl [((ad 3), .inr (1, [.int mo_prime]))] H := hP
          have hD : va_D A [((ad 3), .inr (1, [.int mo_prime]))] := hD
          have hv := hw
          try dsimp only at hv
          refine lv_istore_n (lv' := [(3, .int r_12), (2, .int r_11), (0, .ref (ad 3)), (1, .int p0), (4, .int x4_4)]) hx hb d_mo_inverse_38 rfl hl (by decide) rfl (fun ls hl => ?_)
          refine lv_iload hx hb d_mo_inverse_39 (lv_at hl 4 rfl) ?_
          refine lv_iconst (v := 1) hx hb d_mo_inverse_41 (by decide) ?_
          refine lv_ishr hx hb d_mo_inverse_42 ?_
          refine lv_topi (fun x4_13 ex4_13 => ?_)
          have hv := hv x4_13 ex4_13
          refine lv_istore (lv' := [(4, .int x4_13), (3, .int r_12), (2, .int r_11), (0, .ref (ad 3)), (1, .int p0)]) hx hb d_mo_inverse_43 hl (by decide) rfl (fun ls hl => ?_)
          refine lv_goto (tgt := 12) hx hb d_mo_inverse_45 (by decide) ?_
          exact ih12 r_11 r_12 x4_13 (Nat.lt_of_lt_of_le hv.2 (Nat.le_of_lt_succ hlt12)) hv.1 _ _ _ (hP.sub [0] rfl) (hD.sub [0] (by decide) rfl) hS (lv_sub hl [3, 4, 2, 1, 0] rfl)
  exact loop12 _ 1 p0 x4_1 (Nat.lt_succ_self _) hi0 _ _ _ hP hD hS hl
end
