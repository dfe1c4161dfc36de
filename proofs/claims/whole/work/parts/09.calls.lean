/-! copies, calls, returns -/
theorem ok_mcpy {h : Mem} (hR : Rg h) {a b p q n : Nat} (ho : ∀ j k x, okv (skd a j) x → okv (skd b k) x) : Rg (mcpy h a p b q n) := by
  intro i k
  unfold mcpy
  split
  · rename_i c
    rw [c.1]
    exact ho _ _ _ (hR a _)
  · exact hR i k
theorem cpy_i {h : Mem} {a b p q n : Nat} : va_cpy (fun j => Int32.ofInt (h a j)) (fun j => Int32.ofInt (h b j)) p q n = fun j => Int32.ofInt (mcpy h a p b q n b j) := by
  funext j
  unfold va_cpy mcpy
  by_cases e : q ≤ j ∧ j < q + n
  · rw [if_pos e, if_pos ⟨rfl, e⟩]
  · rw [if_neg e, if_neg (fun z => e z.2)]
theorem cpy_l {h : Mem} {a b p q n : Nat} : va_cpy (fun j => Int64.ofInt (h a j)) (fun j => Int64.ofInt (h b j)) p q n = fun j => Int64.ofInt (mcpy h a p b q n b j) := by
  funext j
  unfold va_cpy mcpy
  by_cases e : q ≤ j ∧ j < q + n
  · rw [if_pos e, if_pos ⟨rfl, e⟩]
  · rw [if_neg e, if_neg (fun z => e z.2)]
theorem mcpy_i {h : Mem} {a b p q n i : Nat} (j : Nat) (e : i ≠ b) : mcpy h a p b q n i j = h i j := by
  unfold mcpy
  rw [if_neg (fun z => e z.1)]
theorem cp_n {x : Int} (hx : 0 ≤ x) (hr : InR x) : ¬ Int32.ofInt x < 0 ∧ (Int32.ofInt x).toNatClampNeg = x.toNat := by
  refine ⟨fun q => ?_, ?_⟩
  · have h1 := (i32_lt hr z0).mp q
    omega
  · show (Int32.ofInt x).toInt.toNat = x.toNat
    rw [i32_ti hr]
theorem sum_wd {α : Nat → Nat} (st : List Vl) : ((stE α st).map fun v => v.category).sum = (st.map wdV).sum := by
  unfold stE
  rw [List.map_map]
  congr 1
  apply List.map_congr_left
  intro v _
  exact cat_enc v
def ArrW (own : String) (idx : Nat) : Prop := Cond.methodLink own idx arraycopyName ∈ lw_g
theorem arr_nat : Cond.native arraycopyName ∈ lw_g := by decide +kernel
theorem arr_sta : Cond.static arraycopyName ∈ lw_g := by decide +kernel
theorem arr_ini : Cond.initialized "java/lang/System" ∈ lw_g := by decide +kernel
/-- a call's Qc -/
def Qg (D : va_G) (α : Nat → Nat) (τ : Nat → ClassId) (Q : PostV) (A : Nat → Prop) : Array Value → State → Outcome → State → Prop := fun _ st oc t =>
  (∃ (rv : Option Vl) (h1 : Mem), oc = .returned (rv.map (enc α)) ∧ Q rv h1 ∧ (∀ v, rv = some v → okV v) ∧ Rg h1 ∧ va_P D vwCl (wd α τ h1) t.heap ∧ va_D A (wd α τ h1)) ∧ va_F A st t
def rmD (d : Nat × Nat) : Room := { frames := d.1, cells := 0, slots := 0, locals := d.2 }
def Pg (D : va_G) (α : Nat → Nat) (τ : Nat → ClassId) (sz : Nat) (as : List Vl) (h : Mem) : Array Value → State → Prop :=
  va_Pc (stE α as) (fun U => U.heap.size = sz ∧ va_P D vwCl (wd α τ h) U.heap ∧ va_K D vwCl (tyl τ) U ∧ va_D (fun _ => True) (wd α τ h) ∧ Rg h ∧ (∀ v ∈ as, okV v) ∧ Xf sc0 α (va_A (wd α τ h) sz) U)
def Ct (y : MethodName) (b : ByteArray) (nL : Nat) (ret : Option FieldType) (d : Nat × Nat) (as : List Vl) (h : Mem) (Q : PostV) : Prop :=
  ∀ (l : Launch) (D : va_G) (α : Nat → Nat) (τ : Nat → ClassId) (sz : Nat), Met l y (Cond.code y b nL ret :: lw_g) (rmD d) (Pg D α τ sz as h) (Qg D α τ Q (va_A (wd α τ h) sz)) 0 0 (va_A (wd α τ h) sz)
def la : Nat → List Vl → LoS
  | _, [] => []
  | i, v :: vs => (i, v) :: la (if wdV v = 2 then i + 2 else i + 1) vs
theorem la_eq {α : Nat → Nat} : ∀ (as : List Vl) (i : Nat), lv_args i (stE α as) = lsE α (la i as) := by
  intro as
  induction as with
  | nil => intro i; rfl
  | cons v vs ih =>
    intro i
    show (i, enc α v) :: lv_args (if (enc α v).category = 2 then i + 2 else i + 1) (stE α vs) = (i, enc α v) :: lsE α (la (if wdV v = 2 then i + 2 else i + 1) vs)
    rw [cat_enc, ih]
theorem la_ok : ∀ (as : List Vl) (i : Nat), (∀ v ∈ as, okV v) → ∀ q ∈ la i as, okV q.2 := by
  intro as
  induction as with
  | nil => intro i _ q hq; cases hq
  | cons v vs ih =>
    intro i h q hq
    rcases List.mem_cons.mp hq with rfl | hq
    · exact h v List.mem_cons_self
    · exact ih _ (fun u hu => h u (List.mem_cons_of_mem _ hu)) q hq
theorem sl_len {α : Nat → Nat} (as : List Vl) : (lg_sl (stE α as)).length = (as.map wdV).sum := by
  induction as with
  | nil => rfl
  | cons v vs ih =>
    have e : lg_sl (stE α (v :: vs)) = (if (enc α v).category = 2 then [.val (enc α v), .second] else [.val (enc α v)]) ++ lg_sl (stE α vs) := rfl
    rw [e, List.length_append, ih, cat_enc, List.map_cons, List.sum_cons]
    have h1 : wdV v = 1 ∨ wdV v = 2 := by unfold wdV; split <;> simp
    rcases h1 with h1 | h1 <;> rw [h1] <;> rfl
theorem wd_A {α : Nat → Nat} {τ : Nat → ClassId} {h h1 : Mem} {sz : Nat} : va_A (wd α τ h) sz = va_A (wd α τ h1) sz := by
  have key : ∀ g g1 : Mem, ∀ q, va_A (wd α τ g) sz q → va_A (wd α τ g1) sz q := by
    intro g g1 q hq
    rcases hq with ⟨k, e, hk⟩ | hq
    · have hk2 : k < nOb := by
        rcases Nat.lt_or_ge k nOb with z | z
        · exact z
        · rw [List.getElem?_eq_none (by rw [wd_len]; exact z)] at hk
          cases hk
      rw [wd_get hk2] at hk
      cases hk
      exact Or.inl ⟨k, _, wd_get hk2⟩
    · exact Or.inr hq
  funext q
  exact propext ⟨key h h1 q, key h1 h q⟩
theorem Ct.of {y : MethodName} {b : ByteArray} {nL : Nat} {ret : Option FieldType} {d : Nat × Nat} {as : List Vl} {h : Mem} {Q : PostV} (hy : plainName y.cls = true) (hn : (as.map wdV).sum ≤ nL) (k : AW (b, nL, y.cls, ret, d, sc0) 0 (la 0 as) [] h Q) : Ct y b nL ret d as h Q := by
  intro l D α τ sz
  refine Met.ofW (cc := b) (maxL := nL) (ret := ret) hy rfl ?_
  intro p e s m args below meth c s₁ B hml hv
  obtain ⟨rfl, hsz, hP, hK, hD0, hR, hok, hX⟩ := hv
  subst hsz
  have hts := atoms_spec (ws := Cond.code y b nL ret :: lw_g) B.pre
  have hl := lv_entry (stE α as) (n := nL) (by rw [sl_len]; exact hn)
  rw [lg_entry_eq]
  generalize (lg_sl (stE α as) ++ List.replicate (nL - (lg_sl (stE α as)).length) Slot.unset).toArray = L at hl ⊢
  rw [la_eq] at hl
  refine k p l e (headSpec (Cond.code y b nL ret :: lw_g) (rmD d)).room s m _ below meth c s.heap [] 0 0 _ D α τ (va_A (wd α τ h) s.heap.size) ?_ ?_ ?_ (Nat.zero_le _) (Nat.zero_le _) (fun v hv => by cases hv) (la_ok as 0 hok) L hl
  · exact ⟨B.exec, B.bytes, hml, findClass_of_methodNamed B.named, fun w hw => hts w (List.mem_cons_of_mem _ hw), hK, Nat.le_refl _, Nat.le_refl _, B.returns, B.notSynchronized, fun q hq => Or.inr hq, hX⟩
  · exact ⟨hP, hD0.self, va_S.rf, hR⟩
  · intro rv h1 H1 locs1 hC hok1 hret hQ pc L hd
    have hq : ∀ t : State, t.heap = H1 → Qg D α τ Q (va_A (wd α τ h) s.heap.size) (stE α as).toArray s (.returned (rv.map (enc α))) t := fun t ht =>
      ⟨⟨rv, h1, rfl, hQ, hok1, hC.2.2.2, by rw [ht]; exact hC.1, hC.2.1⟩, hC.2.2.1.F ht⟩
    have hf := hC.2.2.1.2.2
    have hlk := B.notSynchronized
    match rv, hret with
    | none, hret =>
      exact W.vret B.exec B.bytes (B.returns.trans hret) (fun t ht _ => hq t ht) hf hd
    | some (0, x), hret =>
      have hx : InR x := hok1 _ rfl
      rcases hret with r | ⟨r, z⟩ | ⟨r, z⟩ | ⟨r, z⟩
      · exact W.zret (ty := .int) B.exec B.bytes (B.returns.trans r) rfl (fun t ht _ => hq t ht) hf hd
      · exact W.zret (ty := .boolean) B.exec B.bytes (B.returns.trans r) (by rcases z with rfl | rfl <;> rfl) (fun t ht _ => hq t ht) hf hd
      · refine W.zret (ty := .char) B.exec B.bytes (B.returns.trans r) ?_ (fun t ht _ => hq t ht) hf hd
        obtain ⟨n, rfl⟩ : ∃ n : Nat, x = n := ⟨x.toNat, by omega⟩
        rw [show Int32.ofInt (n : Int) = nI n from Int32.ofInt_eq_ofNat]
        exact (pk_charN (by omega)).1
      · refine W.zret (ty := .byte) B.exec B.bytes (B.returns.trans r) ?_ (fun t ht _ => hq t ht) hf hd
        show Value.int _ = Value.int _
        congr 1
        apply Int32.toInt_inj.mp
        show (vp_nar .byte (Int32.ofInt x)).toInt = _
        rw [vp_nar_byte, i32_ti hx]
        simp
        unfold InB at z
        exact Int.bmod_eq_of_le (by have : (Int8.size : Int) = 256 := rfl; omega) (by have : (Int8.size : Int) = 256 := rfl; omega)
    | some (1, x), hret =>
      exact W.lret B.exec B.bytes (B.returns.trans hret) (fun t ht _ => hq t ht) hf hd
theorem goodAll : lw_g.all goodWord = true := List.all_eq_true.mpr (fun w hw => (List.mem_filter.mp hw).2)
theorem goodSub {ws : List Cond} (h : ∀ w ∈ ws, w ∈ lw_g) : GoodIn lw_g ws := fun w hw => ⟨h w hw, good_of_word (List.all_eq_true.mp goodAll w (h w hw))⟩
/-- a callee's facts: an instance method -/
def CY (y : MethodName) (b : ByteArray) (nL : Nat) (ret : Option FieldType) (n : Nat) : Prop :=
  Cond.instanceMethod y ∈ lw_g ∧ Cond.selects y.cls y y ∈ lw_g ∧ Cond.initialized y.cls ∈ lw_g ∧ Cond.code y b nL ret ∈ lw_g ∧ y.cls ≠ "java/lang/invoke/MethodHandle" ∧ y.cls ≠ "java/lang/invoke/VarHandle" ∧ (parseMethodDescriptor y.desc).map (fun d => d.parameters.length) = some n
/-- a static method -/
def CYs (y : MethodName) (b : ByteArray) (nL : Nat) (ret : Option FieldType) (n : Nat) : Prop :=
  Cond.static y ∈ lw_g ∧ Cond.initialized y.cls ∈ lw_g ∧ Cond.code y b nL ret ∈ lw_g ∧ y.cls ≠ "java/lang/invoke/MethodHandle" ∧ y.cls ≠ "java/lang/invoke/VarHandle" ∧ (parseMethodDescriptor y.desc).map (fun d => d.parameters.length) = some n
def Rcv (C : String) (a : Nat) : Prop := (∃ (ci : Nat) (T : u_T) (N : Nat), lay a = (0, ci) ∧ vwCl[ci]? = some (C, T, N)) ∨ (C = "java/lang/String" ∧ (a = 182 ∨ a = 183))
theorem Xf.next {sc : Nat × (Nat → Int)} {α : Nat → Nat} {A B : Nat → Prop} {s U : State} (h : Xf sc α A s) (hW : s.WarmedH U.vm) (hk : ∀ q, q < s.heap.size → ¬ A q → U.heap[q]? = s.heap[q]?) (hAB : ∀ q, B q → A q) : Xf sc0 α B U := by
  obtain ⟨h1, h2, h3, h4, h5, -⟩ := h
  refine ⟨((h1.moved hW.alike).kept hk).narrow hAB, ((h2.moved hW.alike).kept hk).narrow hAB, ?_, h4.warm hW, h5.warm hW, fun q => absurd q (Nat.lt_irrefl 0)⟩
  rcases h3 with h3 | h3
  · exact Or.inl (((h3.moved hW.alike).kept hk).narrow hAB)
  · exact Or.inr (((h3.moved hW.alike).kept hk).narrow hAB)
theorem Xf.call {α : Nat → Nat} {A : Nat → Prop} {U : State} {g : JFrame} {mk : MethodId} {a : Array Value} (h : Xf sc0 α A U) : Xf sc0 α A (U.calling g mk a) := by
  obtain ⟨h1, h2, h3, h4, h5, -⟩ := h
  refine ⟨vk_S.moved (u := U) (U := U.calling g mk a) (Vm.Alike.refl U.vm) h1, va_Z.moved (u := U) (U := U.calling g mk a) (Vm.Alike.refl U.vm) h2, ?_, vk_R.same (u := U) (U := U.calling g mk a) rfl h4, vk_R.same (u := U) (U := U.calling g mk a) rfl h5, fun q => absurd q (Nat.lt_irrefl 0)⟩
  rcases h3 with h3 | h3
  · exact Or.inl (va_Z.moved (u := U) (U := U.calling g mk a) (Vm.Alike.refl U.vm) h3)
  · exact Or.inr (va_Z.moved (u := U) (U := U.calling g mk a) (Vm.Alike.refl U.vm) h3)
theorem Pg.blind {D : va_G} {α : Nat → Nat} {τ : Nat → ClassId} {sz : Nat} {as : List Vl} {h : Mem} : FrameBlind (Pg D α τ sz as h) := by
  intro a U g mk q
  obtain ⟨q0, q1, qP, qK, qD, qR, qo, qX⟩ := q
  exact ⟨q0, q1, qP, va_K.moved (u := U) (U := U.calling g mk a) (Vm.Alike.refl U.vm) qK, qD, qR, qo, qX.call⟩
theorem A_sub {s : State} {D : va_G} {α : Nat → Nat} {τ : Nat → ClassId} {A : Nat → Prop} {H : Heap} {locs : List Loc} {h : Mem} (hA : ∀ q, s.heap.size ≤ q → A q) (hC : Cx s D α τ A H locs h) : ∀ q, va_A (wd α τ h) H.size q → A q := by
  intro q hq
  rcases hq with ⟨k, e, hk⟩ | hq
  · exact hC.2.1.2 k (q, e) hk
  · exact hA q (Nat.le_trans hC.2.2.1.1 hq)
theorem call_go {p : Program} {l : Launch} {e : Env} {R : Room} {s : State} {m : MethodId} {args : Array Value} {below : List Frame} {meth : Method} {c : Code} {H : Heap} {locs : List Loc} {cells slots : Nat} {Z : State → Prop} {D : va_G} {α : Nat → Nat} {τ : Nat → ClassId} {A : Nat → Prop} {h : Mem} {Q1 : PostV} {pc : Nat} {L : Array Slot} {st0 rest : List Value} {a : Array Value}
    (hr : va_Run p l e R s m args below meth c H locs cells slots 0 0 (F0 m pc L st0) rest (Qg D α τ Q1 (va_A (wd α τ h) H.size) a) (va_A (wd α τ h) H.size)) (hA : ∀ q, s.heap.size ≤ q → A q) (hC : Cx s D α τ A H locs h)
    (kk : ∀ (rv : Option Vl) (h1 : Mem) (H1 : Heap) (locs1 : List Loc), Q1 rv h1 → (∀ v, rv = some v → okV v) → Cx s D α τ A H1 locs1 h1 → W p l e R s m args below meth c H1 locs1 cells slots Z (F0 m (pc + 3) L (stE α rv.toList ++ rest))) : W p l e R s m args below meth c H locs cells slots Z (F0 m pc L st0) := by
  intro T hT X
  obtain ⟨v, st₀, t, T', L', h0, X', hL, e1, e2, ⟨⟨rv, h1, hv, hq, hok, hR, hP1, hD1⟩, hz, hk⟩, stp⟩ := hr T hT X
  have hs := A_sub hA hC
  have hv2 : v = rv.map (enc α) := by
    injection hv
  subst hv2
  rw [h0] at hz hk
  have e3 : (rv.map (enc α)).toList = stE α rv.toList := by cases rv <;> rfl
  rw [e3] at stp
  obtain ⟨t2, a1, b1⟩ := kk rv h1 T'.heap (locs ++ L') hq hok ⟨by rw [e1]; exact hP1, hD1.weaken (fun k q _ hq => hs _ hq), ⟨Nat.le_trans hC.2.2.1.1 (by rw [e1]; exact hz), fun q g1 g2 => by rw [e1, hk q (Nat.lt_of_lt_of_le g1 hC.2.2.1.1) (fun z => g2 (hs q z))]; exact hC.2.2.1.2.1 q g1 g2, fun q hq => by
      rcases List.mem_append.mp hq with g | g
      · exact hC.2.2.1.2.2 q g
      · exact hs _ (hL q g)⟩, hR⟩ T' rfl X'
  exact ⟨t2, stp t2 a1, b1⟩
theorem args_split {as st st0 : List Vl} {v : Vl} (hst : as.reverse ++ v :: st = st0) (hs : ∀ u ∈ st0, okV u) : (∀ u ∈ v :: as, okV u) ∧ ∀ u ∈ st, okV u := by
  subst hst
  refine ⟨fun u hu => hs u ?_, fun u hu => hs u ?_⟩
  · rcases List.mem_cons.mp hu with rfl | hu
    · exact List.mem_append_right _ List.mem_cons_self
    · exact List.mem_append_left _ (List.mem_reverse.mpr hu)
  · exact List.mem_append_right _ (List.mem_cons_of_mem _ hu)
section AWC
variable {M : Hd} {pc : Nat} {ls : LoS} {h : Mem} {Q : PostV}
theorem aw_callV {y : MethodName} {b : ByteArray} {nL idx : Nat} {d' : Nat × Nat} {ret : Option FieldType} {as st st0 : List Vl} {a : Nat} {Q1 : PostV} (f : Ct y b nL ret d' (vr a :: as) h Q1) (hd : decode M.1 pc = .ok (.invokevirtual idx, 3)) (hst : as.reverse ++ vr a :: st = st0) (hrc : Rcv y.cls a) (hy : CY y b nL ret as.length) (hlk : Cond.methodLink M.2.2.1 idx y ∈ lw_g) (hdd : d'.1 + 1 ≤ M.2.2.2.2.1.1) (hnl : 8 + (nL + 11) + d'.2 ≤ M.2.2.2.2.1.2) (hs8 : (st.map wdV).sum ≤ 8)
    (kk : ∀ rv h1, Q1 rv h1 → AW M (pc + 3) ls (rv.toList ++ st) h1 Q) : AW M pc ls st0 h Q := by
  intro p l e R s m args below meth c H locs cells slots Z D α τ A hF hC hE h1 h2 hs hl L hL
  obtain ⟨as1, as2⟩ := args_split hst hs
  subst hst
  obtain ⟨y1, y2, y3, y4, y5, y6, y7⟩ := hy
  have hA := hF.2.2.2.2.2.2.2.2.2.2.1
  have hts := hF.2.2.2.2.1
  have hfr := hF.2.2.2.2.2.2.1
  have hlo := hF.2.2.2.2.2.2.2.1
  have hw : ∀ w ∈ wsV M.2.2.1 idx y.cls y (Cond.code y b nL ret :: lw_g), w ∈ lw_g := by
    intro w hw
    simp only [wsV, List.cons_append, List.nil_append, List.mem_cons] at hw
    rcases hw with rfl | rfl | rfl | rfl | rfl | hw
    · exact hlk
    · exact y1
    · exact y2
    · exact y3
    · exact y4
    · exact hw
  have cw : CallW R s args M.2.2.1 y.cls idx y b nL ret (Cond.code y b nL ret :: lw_g) (rmD d') 0 0 as.length := cwV as.length hts (goodSub hw) rfl rfl rfl ⟨rfl, y5, y6, y7⟩ ⟨Nat.le_trans hdd hfr, Nat.le_trans hnl hlo⟩
  have hrcv : ∃ cell : Cell, H[α a]? = some cell ∧ cell.vm.isStatics = false ∧ s.vm.findClass y.cls = some cell.cls := by
    rcases hrc with ⟨ci, T, N, r1, r2⟩ | ⟨r1, r2⟩
    · exact va_recv (q := (y.cls, T, N)) (q0 := a) hF.2.2.2.2.2.1 hC.1 r2 (by rw [wd_get (lay_lt r1 (by omega)), ent_ob r1])
    · rw [r1]
      rcases r2 with rfl | rfl
      · exact vk_recv (i := 0) hF.2.2.2.2.2.2.2.2.2.2.2.1 (by omega) hC.2.2.1
      · exact vk_recv (i := 1) hF.2.2.2.2.2.2.2.2.2.2.2.1 (by omega) hC.2.2.1
  have hp : PreV s H y.cls (α a) (Pg D α τ H.size (vr a :: as) h) (stE α as) := ⟨Pg.blind, hrcv, fun U hU hW => ⟨rfl, by rw [hU], by rw [hU]; exact hC.1, hF.2.2.2.2.2.1.moved hW.alike, hC.2.1.weaken (fun _ _ _ _ => trivial), hC.2.2.2, as1, hF.2.2.2.2.2.2.2.2.2.2.2.next hW (fun q g1 g2 => by rw [hU]; exact hC.2.2.1.2.1 q g1 g2) (A_sub hA hC)⟩⟩
  refine call_go (va_runV (As := stE α as) (rest := stE α st) (b := α a) ⟨hF.1, hF.2.1, hF.2.2.1, hF.2.2.2.1, hts⟩ (f l D α τ H.size) cw hp rfl (by simp) hL.1 (by simp [stE, List.map_append, List.map_reverse]; rfl) (lv_room (by rw [sum_wd]; exact hs8)) hd ⟨by omega, by omega⟩) hA hC (fun rv u H1 locs1 q1 q2 q3 => ?_)
  have := kk rv u q1 p l e R s m args below meth c H1 locs1 cells slots Z D α τ A hF q3 hE h1 h2 (by
    cases rv with
    | none => exact as2
    | some v => exact ok_c (q2 v rfl) as2) hl L hL
  simpa [stE] using this
theorem aw_callS {y : MethodName} {b : ByteArray} {nL idx : Nat} {d' : Nat × Nat} {ret : Option FieldType} {as st st0 : List Vl} {Q1 : PostV} (f : Ct y b nL ret d' as h Q1) (hd : decode M.1 pc = .ok (.invokestatic idx, 3)) (hst : as.reverse ++ st = st0) (hy : CYs y b nL ret as.length) (hlk : Cond.methodLink M.2.2.1 idx y ∈ lw_g) (hdd : d'.1 + 1 ≤ M.2.2.2.2.1.1) (hnl : 8 + (nL + 11) + d'.2 ≤ M.2.2.2.2.1.2) (hs8 : (st.map wdV).sum ≤ 8)
    (kk : ∀ rv h1, Q1 rv h1 → AW M (pc + 3) ls (rv.toList ++ st) h1 Q) : AW M pc ls st0 h Q := by
  intro p l e R s m args below meth c H locs cells slots Z D α τ A hF hC hE h1 h2 hs hl L hL
  subst hst
  have as1 : ∀ u ∈ as, okV u := fun u hu => hs u (List.mem_append_left _ (List.mem_reverse.mpr hu))
  have as2 : ∀ u ∈ st, okV u := fun u hu => hs u (List.mem_append_right _ hu)
  obtain ⟨y1, y3, y4, y5, y6, y7⟩ := hy
  have hA := hF.2.2.2.2.2.2.2.2.2.2.1
  have hts := hF.2.2.2.2.1
  have hfr := hF.2.2.2.2.2.2.1
  have hlo := hF.2.2.2.2.2.2.2.1
  have hw : ∀ w ∈ va_wsS M.2.2.1 idx y (Cond.code y b nL ret :: lw_g), w ∈ lw_g := by
    intro w hw
    simp only [va_wsS, List.cons_append, List.nil_append, List.mem_cons] at hw
    rcases hw with rfl | rfl | rfl | rfl | hw
    · exact hlk
    · exact y1
    · exact y3
    · exact y4
    · exact hw
  have cw := va_cwS (R := R) (s := s) (args := args) (own := M.2.2.1) (index := idx) (y := y) (bytes := b) (maxL := nL) (ret := ret) (rm := rmD d') as.length hts (goodSub hw) rfl rfl rfl ⟨y5, y6, y7⟩ ⟨Nat.le_trans hdd hfr, Nat.le_trans hnl hlo⟩
  have hp : PreS s H (Pg D α τ H.size as h) (stE α as) := ⟨Pg.blind, fun U hU hW => ⟨rfl, by rw [hU], by rw [hU]; exact hC.1, hF.2.2.2.2.2.1.moved hW.alike, hC.2.1.weaken (fun _ _ _ _ => trivial), hC.2.2.2, as1, hF.2.2.2.2.2.2.2.2.2.2.2.next hW (fun q g1 g2 => by rw [hU]; exact hC.2.2.1.2.1 q g1 g2) (A_sub hA hC)⟩⟩
  refine call_go (va_runS (As := stE α as) (rest := stE α st) ⟨hF.1, hF.2.1, hF.2.2.1, hF.2.2.2.1, hts⟩ (f l D α τ H.size) cw hp rfl (by simp) hL.1 (by simp [stE, List.map_append, List.map_reverse]) (lv_room (by rw [sum_wd]; exact hs8)) hd ⟨by omega, by omega⟩) hA hC (fun rv u H1 locs1 q1 q2 q3 => ?_)
  have := kk rv u q1 p l e R s m args below meth c H1 locs1 cells slots Z D α τ A hF q3 hE h1 h2 (by
    cases rv with
    | none => exact as2
    | some v => exact ok_c (q2 v rfl) as2) hl L hL
  simpa [stE] using this
theorem aw_ireti {x : Int} (hd : decode M.1 pc = .ok (.ireturn, 1)) (hr : M.2.2.2.1 = some .int) (hq : Q (some (0, x)) h) : AW M pc ls [(0, x)] h Q := by
  intro p l e R s m args below meth c H locs cells slots Z D α τ A hF hC hE h1 h2 hs hl L hL
  exact hE (some (0, x)) h H locs hC (fun v hv => by cases hv; exact ok_h hs) (Or.inl hr) hq pc L hd
theorem aw_iretz {x : Int} (hd : decode M.1 pc = .ok (.ireturn, 1)) (hr : M.2.2.2.1 = some .boolean) (hz : InZ x) (hq : Q (some (0, x)) h) : AW M pc ls [(0, x)] h Q := by
  intro p l e R s m args below meth c H locs cells slots Z D α τ A hF hC hE h1 h2 hs hl L hL
  exact hE (some (0, x)) h H locs hC (fun v hv => by cases hv; exact ok_h hs) (Or.inr (Or.inl ⟨hr, hz⟩)) hq pc L hd
theorem aw_iretc {x : Int} (hd : decode M.1 pc = .ok (.ireturn, 1)) (hr : M.2.2.2.1 = some .char) (hz : 0 ≤ x ∧ x < 65536) (hq : Q (some (0, x)) h) : AW M pc ls [(0, x)] h Q := by
  intro p l e R s m args below meth c H locs cells slots Z D α τ A hF hC hE h1 h2 hs hl L hL
  exact hE (some (0, x)) h H locs hC (fun v hv => by cases hv; exact ok_h hs) (Or.inr (Or.inr (Or.inl ⟨hr, hz⟩))) hq pc L hd
theorem aw_iretb {x : Int} (hd : decode M.1 pc = .ok (.ireturn, 1)) (hr : M.2.2.2.1 = some .byte) (hz : InB x) (hq : Q (some (0, x)) h) : AW M pc ls [(0, x)] h Q := by
  intro p l e R s m args below meth c H locs cells slots Z D α τ A hF hC hE h1 h2 hs hl L hL
  exact hE (some (0, x)) h H locs hC (fun v hv => by cases hv; exact ok_h hs) (Or.inr (Or.inr (Or.inr ⟨hr, hz⟩))) hq pc L hd
theorem aw_lret {x : Int} (hd : decode M.1 pc = .ok (.lreturn, 1)) (hr : M.2.2.2.1 = some .long) (hq : Q (some (1, x)) h) : AW M pc ls [(1, x)] h Q := by
  intro p l e R s m args below meth c H locs cells slots Z D α τ A hF hC hE h1 h2 hs hl L hL
  exact hE (some (1, x)) h H locs hC (fun v hv => by cases hv; exact ok_h hs) hr hq pc L hd
theorem aw_ret (hd : decode M.1 pc = .ok (.return_, 1)) (hr : M.2.2.2.1 = none) (hq : Q none h) : AW M pc ls [] h Q := by
  intro p l e R s m args below meth c H locs cells slots Z D α τ A hF hC hE h1 h2 hs hl L hL
  exact hE none h H locs hC (fun v hv => by cases hv) hr hq pc L hd
end AWC
