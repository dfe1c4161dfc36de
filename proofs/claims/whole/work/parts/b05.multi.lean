/-! rows of four arrays of sixty longs: the machine makes them at once -/
def mRow (a i : Nat) : Nat → Value := fun j => if j < i then .ref (a + 1 + j) else .null
def mS (s : State) (cA comp : ClassId) : Nat → State
  | 0 => s.pushCell (arrV cA 4 (mRow s.heap.size 0))
  | i + 1 => ((mS s cA comp i).pushCell (arrV comp 60 (fun _ => .long 0))).setCell s.heap.size (arrV cA 4 (mRow s.heap.size (i + 1)))
theorem mRow_up (a i : Nat) : updV (mRow a i) i (.ref (a + 1 + i)) = mRow a (i + 1) := by
  funext j
  unfold updV mRow
  by_cases e : j = i
  · rw [if_pos e, if_pos (by omega), e]
  · rw [if_neg e]
    by_cases l : j < i
    · rw [if_pos l, if_pos (by omega)]
    · rw [if_neg l, if_neg (by omega)]
theorem mS_ok (s : State) (cA comp : ClassId) : ∀ i, (mS s cA comp i).heap.size = s.heap.size + 1 + i ∧ (mS s cA comp i).heap[s.heap.size]? = some (arrV cA 4 (mRow s.heap.size i)) ∧ (mS s cA comp i).vm = s.vm ∧ (mS s cA comp i).slotsUsed = s.slotsUsed + 4 + i * 60 ∧ (∀ q, q < s.heap.size → (mS s cA comp i).heap[q]? = s.heap[q]?) ∧ ∀ j, j < i → (mS s cA comp i).heap[s.heap.size + 1 + j]? = some (arrV comp 60 (fun _ => .long 0)) := by
  intro i
  induction i with
  | zero => exact ⟨by simp [mS], by simp [mS], rfl, by simp [mS, arrV], fun q hq => State.heap_pushCell_of_lt _ _ hq, fun j hj => absurd hj (Nat.not_lt_zero _)⟩
  | succ i ih =>
    obtain ⟨a1, a2, a3, a4, a5, a6⟩ := ih
    have lt0 : s.heap.size < (mS s cA comp i).heap.size := by omega
    have b2 : ((mS s cA comp i).pushCell (arrV comp 60 (fun _ => .long 0))).heap[s.heap.size]? = some (arrV cA 4 (mRow s.heap.size i)) := by rw [State.heap_pushCell_of_lt (h := lt0)]; exact a2
    refine ⟨?_, State.heap_setCell_self b2, by simp [mS, a3], ?_, fun q hq => ?_, fun j hj => ?_⟩
    · simp [mS, State.setCell, a1]; omega
    · simp [mS, a4, arrV]; omega
    · show (((mS s cA comp i).pushCell (arrV comp 60 (fun _ => .long 0))).setCell s.heap.size _).heap[q]? = _
      have lt1 : q < (mS s cA comp i).heap.size := by omega
      rw [State.heap_setCell_other (show s.heap.size ≠ q by omega), State.heap_pushCell_of_lt (h := lt1)]
      exact a5 q hq
    · show (((mS s cA comp i).pushCell (arrV comp 60 (fun _ => .long 0))).setCell s.heap.size _).heap[s.heap.size + 1 + j]? = _
      rw [State.heap_setCell_other (show s.heap.size ≠ s.heap.size + 1 + j by omega)]
      by_cases e : j = i
      · subst e
        rw [← a1]
        exact State.heap_pushCell_size _ _
      · have lt1 : s.heap.size + 1 + j < (mS s cA comp i).heap.size := by omega
        rw [State.heap_pushCell_of_lt (h := lt1)]
        exact a6 j (by omega)
theorem mS_top (s : State) (f : JFrame) (cA comp : ClassId) : ∀ i, mS (s.setTop f) cA comp i = (mS s cA comp i).setTop f := by
  intro i
  induction i with
  | zero => rfl
  | succ i ih => simp only [mS, ih, State.heap_setTop, State.pushCell_setTop, State.setCell_setTop]
theorem mS_stand {p : Program} {l : Launch} {e : Env} {R : Room} {s : State} {m : MethodId} {args : Array Value} {below : List Frame} {meth : Method} {c : Code} {T : State} {locs : List Loc} {cells slots : Nat} (X : Stand p l e R s m args below meth c T locs cells slots) (cA comp : ClassId) : ∀ i, Stand p l e R s m args below meth c (mS T cA comp i) (locs ++ (List.range i).map (fun j => (⟨T.heap.size, j⟩ : Loc))) (cells + 1 + i) (slots + 4 + i * 60) := by
  intro i
  induction i with
  | zero =>
    have h := X.pushed (arrV cA 4 (mRow T.heap.size 0))
    rw [arrV_size] at h
    simpa [mS] using h
  | succ i ih =>
    obtain ⟨a1, a2, -⟩ := mS_ok T cA comp i
    have lt0 : T.heap.size < (mS T cA comp i).heap.size := by omega
    have b2 : ((mS T cA comp i).pushCell (arrV comp 60 (fun _ => .long 0))).heap[T.heap.size]? = some (arrV cA 4 (mRow T.heap.size i)) := by rw [State.heap_pushCell_of_lt (h := lt0)]; exact a2
    have h := (ih.pushed (arrV comp 60 (fun _ => .long 0))).stored b2 i (.ref (T.heap.size + 1 + i))
    rw [arrV_size, arrV_store, mRow_up] at h
    have e1 : (locs ++ (List.range (i + 1)).map (fun j => (⟨T.heap.size, j⟩ : Loc))) = (locs ++ (List.range i).map (fun j => (⟨T.heap.size, j⟩ : Loc))) ++ [⟨T.heap.size, i⟩] := by simp [List.range_succ, List.append_assoc]
    rw [e1, show slots + 4 + (i + 1) * 60 = slots + 4 + i * 60 + 60 by omega]
    exact h
section MN
variable {E : CtlPost} {e : Env} {d : Bool} {acts : List Action} {s : State}
theorem mm_na {c comp : ClassId} {k : Class} {type : FieldType} {len : Nat} {init : Value} (hk : s.vm.classes[c]? = some k) (hkind : k.kind = .array comp type) (hl : ¬ len > e.platform.arrayLengthLimit) (hh : ¬ len * componentBytes type > e.platform.maxHeapBytes) (hfit : fits type init = true) (hdef : init.isDefault = true) {Q : Addr → Pre} (h1 : s.heap.size < e.platform.maxCells) (h2 : s.slotsUsed + len ≤ e.platform.maxSlots) (hq : Q s.heap.size d acts (s.pushCell (arrV c len (fun _ => init)))) : wp (Jvm.newArray c len init) Q E e d acts s := by
  have f : ∀ i v, (Array.replicate len init)[i]? = some v → s.fitsSlot c .none i v = true := fun i v hv => by
    rw [Array.getElem?_replicate] at hv
    split at hv
    · cases hv; simp [State.fitsSlot, State.slotType?, hk, hkind, hfit]
    · cases hv
  have ac : allocActs (Array.replicate len init) s.heap.size acts = acts := by
    unfold allocActs
    rw [if_pos (by rw [Array.all_replicate]; split <;> simp [hdef])]
  rw [← arrV_new] at hq
  simp only [Jvm.newArray, Jvm.arrayFits, wp_bind', W.ask, W.ite, hl, if_false, wp_pure', W.theClass, hk, hkind, hh, W.alloc, W.stop, Option.some.injEq, exists_eq_left', Array.size_replicate, ac]
  rw [if_neg (by omega)]
  exact ⟨h1, h2, f, hq⟩
theorem mm_make {cA comp cc : ClassId} {k kc : Class} (hk : s.vm.classes[cA]? = some k) (hkind : k.kind = .array comp (.array .long)) (hkc : s.vm.classes[comp]? = some kc) (hkindc : kc.kind = .array cc .long)
    (hl1 : ¬ 4 > e.platform.arrayLengthLimit) (hh1 : ¬ 16 > e.platform.maxHeapBytes) (hl2 : ¬ 60 > e.platform.arrayLengthLimit) (hh2 : ¬ 480 > e.platform.maxHeapBytes) (hc : s.heap.size + 5 ≤ e.platform.maxCells) (hs : s.slotsUsed + 244 ≤ e.platform.maxSlots)
    {Q : Addr → Pre} (hq : ∀ d' acts', Q s.heap.size d' acts' (mS s cA comp 4)) : wp (Op.multianewarray.make cA [4, 60]) Q E e d acts s := by
  rw [Op.multianewarray.make]
  simp only [wp_bind', W.ite, show ¬ ((4 : Int32) < 0) by decide, if_false, wp_pure', W.theClass, hk, hkind, Option.some.injEq, exists_eq_left']
  refine mm_na (len := 4) hk hkind hl1 (by show ¬ 4 * 4 > _; omega) rfl rfl (by omega) (by omega) ?_
  have e0 : s.pushCell (arrV cA 4 (fun _ => .null)) = mS s cA comp 0 := rfl
  rw [e0]
  rw [if_neg (show ¬ (((4 : Int32) == 0) = true) by decide), wp_bind', Std.Legacy.Range.forIn_eq_forIn_range']
  show wp (forIn (List.range' 0 4 1) PUnit.unit _) _ E e d acts _
  refine wp_forIn_inv (fun rest s' => ∃ i, i ≤ 4 ∧ rest = List.range' i (4 - i) ∧ s' = mS s cA comp i) _ _ ⟨0, Nat.zero_le _, rfl, rfl⟩ ?_ ?_
  · rintro x rest s' d' acts' Q' ⟨i, hi, hl, rfl⟩ hnext
    have lt : i < 4 := by
      rcases Nat.lt_or_ge i 4 with h | h
      · exact h
      · rw [show 4 - i = 0 from by omega] at hl; cases hl
    rw [show 4 - i = (4 - (i + 1)) + 1 from by omega, List.range'_succ] at hl
    obtain ⟨ex, er⟩ := List.cons.inj hl
    subst ex
    obtain ⟨a1, a2, a3, a4, a5, a6⟩ := mS_ok s cA comp x
    simp only [wp_bind']
    rw [Op.multianewarray.make]
    simp only [wp_bind', W.ite, show ¬ ((60 : Int32) < 0) by decide, if_false, wp_pure', W.theClass, a3, hkc, hkindc, Option.some.injEq, exists_eq_left']
    refine mm_na (len := 60) (by rw [a3]; exact hkc) hkindc hl2 (by show ¬ 60 * 8 > _; omega) rfl rfl (by omega) (by omega) ?_
    have lt0 : s.heap.size < (mS s cA comp x).heap.size := by omega
    simp only [wp_bind', W.writeLoc, wp_pure']
    refine ⟨arrV cA 4 (mRow s.heap.size x), by rw [State.heap_pushCell_of_lt (h := lt0)]; exact a2, by show VmData.none ≠ .unknown; simp, by rw [arrV_size]; exact lt, ?_, hnext _ _ _ ⟨x + 1, lt, er, ?_⟩⟩
    · simp [State.fitsSlot, State.slotType?, arrV, a3, hk, hkind, fits]
    · rw [arrV_store, a1, mRow_up]; rfl
  · rintro s' d' acts' ⟨i, hi, hl, rfl⟩
    have e4 : i = 4 := by
      rcases Nat.lt_or_ge i 4 with h | h
      · rw [show 4 - i = (4 - (i + 1)) + 1 from by omega, List.range'_succ] at hl; cases hl
      · omega
    subst e4
    simp only [wp_pure']
    exact hq _ _
end MN
section MW
variable {p : Program} {l : Launch} {e : Env} {R : Room} {s : State} {m : MethodId} {args : Array Value} {below : List Frame} {meth : Method} {c : Code} {H : Heap} {locs : List Loc} {cells slots : Nat} {Q : State → Prop}
theorem over_spec {t : FieldType} (h : (Cond.arrayOver (.array t)).before args s = true) : ∃ comp cA k, s.vm.findClass (FieldType.array t).toString = some comp ∧ s.vm.classes[cA]? = some k ∧ k.kind = .array comp (.array t) ∧ s.vm.findClass ("[" ++ (FieldType.array t).toString) = some cA := by
  simp only [Cond.before, Cond.holds, Cond.value, beq_iff_eq] at h
  cases hc : s.vm.findClass (FieldType.array t).toString with
  | none => simp [hc] at h
  | some comp =>
    simp only [hc, Option.bind_some, Option.bind_eq_some_iff, Option.map_eq_some_iff] at h
    obtain ⟨cA, hi, k, hk, hb⟩ := h
    obtain ⟨hlt, hp, -⟩ := Array.findIdx?_eq_some_iff_getElem.mp hi
    have hkk : s.vm.classes[cA] = k := (Array.getElem?_eq_some_iff.mp hk).2
    rw [hkk] at hp
    cases hkind : k.kind with
    | array component ty =>
      rw [hkind] at hb hp
      simp at hb hp
      exact ⟨comp, cA, k, rfl, hk, by rw [hkind, hp, hb.1], hb.2⟩
    | _ => rw [hkind] at hb; simp at hb
theorem W_multi {cc : ByteArray} (hexec : p.tables.exec = Jvm.exec) (hb : c.code = cc) {own : String} {index pc : Nat} {ls : Array Slot} {rest : List Value} (hown : s.vm.findClass own = some m.cls) (hclink : (Cond.classLink own index "[[J").before args s = true) (hover : AOJ s) (harr : (Cond.arrayClass .long).before args s = true)
    (hdg : decode cc pc = .ok (.multianewarray index 2, 4)) (hcells : cells + 5 ≤ R.cells) (hslots : slots + 244 ≤ R.slots)
    (kk : ∀ (cA comp : ClassId) (H1 : Heap), s.vm.findClass "[[J" = some cA → s.vm.findClass "[J" = some comp → H1.size = H.size + 5 → (∀ q, q < H.size → H1[q]? = H[q]?) → H1[H.size]? = some (arrV cA 4 (mRow H.size 4)) → (∀ j, j < 4 → H1[H.size + 1 + j]? = some (arrV comp 60 (fun _ => .long 0))) →
      W p l e R s m args below meth c H1 (locs ++ (List.range 4).map (fun j => (⟨H.size, j⟩ : Loc))) (cells + 5) (slots + 244) Q (F0 m (pc + 4) ls (.ref H.size :: rest))) : W p l e R s m args below meth c H locs cells slots Q (F0 m pc ls (.int 60 :: .int 4 :: rest)) := by
  intro T hT X
  subst hT; subst hb
  have hpl : e.platform.magicAccessors = ({} : Platform).magicAccessors := by rw [X.admits.platform]
  obtain ⟨comp, cA, kA, hcomp, hkA, hkindA, hnameA⟩ := hover
  obtain ⟨comp2, kC, cc2, hcomp2, hkC, hkindC⟩ := Cond.arrayClass_spec harr
  cases Option.some.inj (hcomp2.symm.trans hcomp)
  obtain ⟨c0, hfc0, hcl⟩ := Cond.classLink_spec hown hclink e.platform hpl
  cases Option.some.inj (hfc0.symm.trans hnameA)
  obtain ⟨hg1, hw1, -⟩ := State.classEntry (e := e) X.warmed hcl
  generalize T.vm.noted m.cls index (.cls cA) = vm1 at hg1 hw1
  obtain ⟨kA1, hkA1, heA⟩ := hw1.alike.2.2 _ _ hkA
  obtain ⟨kC1, hkC1, heC⟩ := hw1.alike.2.2 _ _ hkC
  have X1 := X.noted hw1
  have XF := mS_stand X1 cA comp 4
  obtain ⟨r1, r2⟩ := X.roomAbove hcells hslots
  obtain ⟨b1, b2, b3, b4, b5, b6⟩ := mS_ok (T.setVm vm1) cA comp 4
  obtain ⟨t, st, qt⟩ := kk cA comp (mS (T.setVm vm1) cA comp 4).heap hnameA hcomp b1 b5 b2 b6 (mS (T.setVm vm1) cA comp 4) rfl XF
  refine ⟨t, ?_, qt⟩
  have l1 : ¬ 4 > e.platform.arrayLengthLimit := by rw [Launch.admits_arrayLengthLimit X.admits]; omega
  have l2 : ¬ 16 > e.platform.maxHeapBytes := by rw [Launch.admits_maxHeapBytes X.admits]; omega
  have l3 : ¬ 60 > e.platform.arrayLengthLimit := by rw [Launch.admits_arrayLengthLimit X.admits]; omega
  have l4 : ¬ 480 > e.platform.maxHeapBytes := by rw [Launch.admits_maxHeapBytes X.admits]; omega
  jvm_step X.here [hexec, hdg]
  simp only [Op.multianewarray.sem, wp_bind', W.resolveClassAt_links (State.method?_setTop (F0 m pc ls (.int 60 :: .int 4 :: rest)) X.here.top) hg1]
  rw [W.popN, if_neg (by decide)]
  refine ⟨F0 m pc ls (.int 60 :: .int 4 :: rest), State.topJava?_setTop' (s := T.setVm vm1) _ X.here.top, [.int 4, .int 60], rest, rfl, rfl, ?_⟩
  simp only [List.mapM_cons, List.mapM_nil, wp_bind', wp_pure']
  refine mm_make (k := kA1) (kc := kC1) (comp := comp) (cc := cc2) hkA1 (by rw [heA]; exact hkindA) hkC1 (by rw [heC]; exact hkindC) l1 l2 l3 l4 (by show T.heap.size + 5 ≤ _; omega) (by show T.slotsUsed + 244 ≤ _; omega) (fun d2 acts2 => ?_)
  have eS : ((T.setTop (F0 m pc ls (.int 60 :: .int 4 :: rest))).setVm vm1).setTop { (F0 m pc ls (.int 60 :: .int 4 :: rest)) with stack := rest } = (T.setVm vm1).setTop { (F0 m pc ls (.int 60 :: .int 4 :: rest)) with stack := rest } := by
    show ((T.setVm vm1).setTop _).setTop _ = _
    rw [State.setTop_setTop]
  rw [eS, mS_top]
  simp only [wp_bind', W.mark, W.pushRef, State.topJava?_setTop' _ XF.here.top, Option.some.injEq, exists_eq_left', State.setTop_setTop, State.heap_setTop]
  intro acts
  simp [jvm, XF.here.top]
  exact st
end MW
