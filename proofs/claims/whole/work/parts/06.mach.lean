/-! what a method's run is, over the memory: AW (from a program counter on), Ct (a whole call) -/
def lw_g : List Cond := lw_tbl.filter goodWord
theorem mg {w : Cond} (i : Nat) (hi : lw_tbl[i]? = some w) (hg : goodWord w = true) : w ∈ lw_g := List.mem_filter.mpr ⟨List.mem_of_getElem? hi, hg⟩
abbrev LoS : Type := List (Nat × Vl)
abbrev PostV : Type := Option Vl → Mem → Prop
def okV (v : Vl) : Prop := match v with
  | (0, x) => InR x
  | (1, x) => InL x
  | _ => True
abbrev lsE (α : Nat → Nat) (ls : LoS) : List (Nat × Value) := ls.map (fun q => (q.1, enc α q.2))
abbrev stE (α : Nat → Nat) (st : List Vl) : List Value := st.map (enc α)
def wdV (v : Vl) : Nat := if v.1 = 1 then 2 else 1
def strC (t : String) : List Int32 := t.toList.map (fun c => Int32.ofNat c.toNat)
def kwX : String := "long load odds stream up down both thing weighs grips minds lies mill at hour throw fetch any when runs ground loop end stop "
def kwM : String := " long load odds stream thing mill up down both weighs grips minds lies at hour throw fetch any when loop end stop runs ground "
def strB : List (List Int32) := [strC kwX, strC kwM]
def strL : List Nat := [kwX.length, kwM.length]
/-- what lies outside of the objects: the two texts, two statics, the script -/
def Xf (sc : Nat × (Nat → Int)) (α : Nat → Nat) (A : Nat → Prop) (s : State) : Prop :=
  vk_S 2 strL strB (fun i => α (182 + i)) (fun i => α (184 + i)) A s s.heap ∧ va_Z "java/lang/String" "COMPACT_STRINGS" "Z" (.int 1) A s s.heap ∧
  (va_Z "jdk/internal/util/Preconditions" "SIOOBE_FORMATTER" "Ljava/util/function/BiFunction;" .null A s s.heap ∨ va_Z "jdk/internal/util/Preconditions" "SIOOBE_FORMATTER" "Ljava/util/function/BiFunction;" (.ref (α 186)) A s s.heap) ∧
  vk_R RX8 48 kwX (α 182) s ∧ vk_R RX12 184 kwM (α 183) s ∧
  (0 < sc.1 → va_X (α 181) sc.1 (fun j => Int32.ofInt (sc.2 j)) s s.heap ∧ α 181 < s.heap.size ∧ ¬ A (α 181) ∧ sc.1 < 4096 ∧ ∀ j, InR (sc.2 j))
abbrev Hd : Type := ByteArray × Nat × String × Option FieldType × (Nat × Nat) × (Nat × (Nat → Int))
def sc0 : Nat × (Nat → Int) := (0, fun _ => 0)
def Fx (M : Hd) (p : Program) (R : Room) (s : State) (m : MethodId) (args : Array Value) (meth : Method) (c : Code) (D : va_G) (α : Nat → Nat) (τ : Nat → ClassId) (A : Nat → Prop) : Prop :=
  p.tables.exec = Jvm.exec ∧ c.code = M.1 ∧ c.maxLocals = M.2.1 ∧ s.vm.findClass M.2.2.1 = some m.cls ∧ (∀ w ∈ lw_g, w.before args s = true) ∧ va_K D vwCl (tyl τ) s ∧
  M.2.2.2.2.1.1 ≤ R.frames ∧ M.2.2.2.2.1.2 ≤ R.locals ∧ meth.sig.returnType = M.2.2.2.1 ∧ meth.locks = false ∧ (∀ q, s.heap.size ≤ q → A q) ∧ Xf M.2.2.2.2.2 α A s
def Cx (s : State) (D : va_G) (α : Nat → Nat) (τ : Nat → ClassId) (A : Nat → Prop) (H : Heap) (locs : List Loc) (h : Mem) : Prop :=
  va_P D vwCl (wd α τ h) H ∧ va_D A (wd α τ h) ∧ va_S A s.heap H locs ∧ Rg h
def retI (rv : Option Vl) : Instr := match rv with
  | some (0, _) => .ireturn
  | some (1, _) => .lreturn
  | some _ => .areturn
  | none => .return_
def retOK (ret : Option FieldType) (rv : Option Vl) : Prop := match rv with
  | some (0, x) => ret = some .int ∨ ((ret = some .boolean) ∧ InZ x) ∨ (ret = some .char ∧ 0 ≤ x ∧ x < 65536) ∨ (ret = some .byte ∧ InB x)
  | some (1, _) => ret = some .long
  | some _ => False
  | none => ret = none
def Ends (M : Hd) (p : Program) (l : Launch) (e : Env) (R : Room) (s : State) (m : MethodId) (args : Array Value) (below : List Frame) (meth : Method) (c : Code) (cells slots : Nat) (Z : State → Prop) (D : va_G) (α : Nat → Nat) (τ : Nat → ClassId) (A : Nat → Prop) (Q : PostV) : Prop :=
  ∀ (rv : Option Vl) (h1 : Mem) (H1 : Heap) (locs1 : List Loc), Cx s D α τ A H1 locs1 h1 → (∀ v, rv = some v → okV v) → retOK M.2.2.2.1 rv → Q rv h1 → ∀ (pc : Nat) (L : Array Slot), decode M.1 pc = .ok (retI rv, 1) →
    W p l e R s m args below meth c H1 locs1 cells slots Z (F0 m pc L (stE α rv.toList))
def AW (M : Hd) (pc : Nat) (ls : LoS) (st : List Vl) (h : Mem) (Q : PostV) : Prop :=
  ∀ (p : Program) (l : Launch) (e : Env) (R : Room) (s : State) (m : MethodId) (args : Array Value) (below : List Frame) (meth : Method) (c : Code) (H : Heap) (locs : List Loc) (cells slots : Nat) (Z : State → Prop) (D : va_G) (α : Nat → Nat) (τ : Nat → ClassId) (A : Nat → Prop),
    Fx M p R s m args meth c D α τ A → Cx s D α τ A H locs h → Ends M p l e R s m args below meth c cells slots Z D α τ A Q → cells ≤ R.cells → slots ≤ R.slots → (∀ v ∈ st, okV v) → (∀ q ∈ ls, okV q.2) → ∀ L : Array Slot, lv_has L M.2.1 (lsE α ls) →
    W p l e R s m args below meth c H locs cells slots Z (F0 m pc L (stE α st))
theorem AW.mono {M : Hd} {pc : Nat} {ls : LoS} {st : List Vl} {h : Mem} {Q Q' : PostV} (k : AW M pc ls st h Q) (hq : ∀ r u, Q r u → Q' r u) : AW M pc ls st h Q' := by
  intro p l e R s m args below meth c H locs cells slots Z D α τ A hF hC hE h1 h2 hs hl L hL
  exact k p l e R s m args below meth c H locs cells slots Z D α τ A hF hC (fun rv h1 H1 locs1 a b b2 q => hE rv h1 H1 locs1 a b b2 (hq _ _ q)) h1 h2 hs hl L hL
theorem ls_at {α : Nat → Nat} {L : Array Slot} {n : Nat} {ls : LoS} (hL : lv_has L n (lsE α ls)) {j i : Nat} {v : Vl} (hj : ls[j]? = some (i, v)) : L[i]? = some (.val (enc α v)) := lv_at hL j (by rw [List.getElem?_map, hj]; rfl)
theorem ls_ok {ls : LoS} (hl : ∀ q ∈ ls, okV q.2) {j i : Nat} {v : Vl} (hj : ls[j]? = some (i, v)) : okV v := hl (i, v) (List.mem_of_getElem? hj)
theorem ok_c {v : Vl} {st : List Vl} (hv : okV v) (hs : ∀ v ∈ st, okV v) : ∀ u ∈ v :: st, okV u := by
  intro u hu
  rcases List.mem_cons.mp hu with rfl | hu
  · exact hv
  · exact hs u hu
theorem ok_t {v : Vl} {st : List Vl} (hs : ∀ u ∈ v :: st, okV u) : ∀ u ∈ st, okV u := fun u hu => hs u (List.mem_cons_of_mem _ hu)
theorem ok_h {v : Vl} {st : List Vl} (hs : ∀ u ∈ v :: st, okV u) : okV v := hs v List.mem_cons_self
theorem cat_enc {α : Nat → Nat} (v : Vl) : (enc α v).category = wdV v := by
  obtain ⟨t, x⟩ := v
  rcases t with _ | _ | t
  · rfl
  · rfl
  · have hw : wdV (t + 1 + 1, x) = 1 := by simp [wdV]
    rw [hw]
    cases x <;> rfl
theorem flt1 {α : Nat → Nat} (ls : LoS) (i : Nat) : (lsE α ls).filter (fun q => !(q.1 == i) && !(q.1 + 1 == i && q.2.category == 2)) = lsE α (ls.filter (fun q => !(q.1 == i) && !(q.1 + 1 == i && wdV q.2 == 2))) := by
  unfold lsE
  rw [List.filter_map]
  congr 1
  apply List.filter_congr
  intro q _
  simp only [Function.comp, cat_enc]
theorem flt2 {α : Nat → Nat} (ls : LoS) (i : Nat) : (lsE α ls).filter (fun q => !(q.1 == i) && (!(q.1 == i + 1) && !(q.1 + 1 == i && q.2.category == 2))) = lsE α (ls.filter (fun q => !(q.1 == i) && (!(q.1 == i + 1) && !(q.1 + 1 == i && wdV q.2 == 2)))) := by
  unfold lsE
  rw [List.filter_map]
  congr 1
  apply List.filter_congr
  intro q _
  simp only [Function.comp, cat_enc]
section AWR
variable {M : Hd} {pc : Nat} {ls : LoS} {st : List Vl} {h : Mem} {Q : PostV}
theorem aw_iconst {n : Int} (hd : decode M.1 pc = .ok (.iconst n, 1)) (hr : InR n) (kk : AW M (pc + 1) ls ((0, n) :: st) h Q) : AW M pc ls st h Q := by
  intro p l e R s m args below meth c H locs cells slots Z D α τ A hF hC hE h1 h2 hs hl L hL
  exact lv_iconst hF.1 hF.2.1 hd rfl (kk p l e R s m args below meth c H locs cells slots Z D α τ A hF hC hE h1 h2 (ok_c hr hs) hl L hL)
theorem aw_bipush {n : Int} (hd : decode M.1 pc = .ok (.bipush n, 2)) (hr : (Int8.ofInt n).toInt32 = Int32.ofInt n ∧ InR n) (kk : AW M (pc + 2) ls ((0, n) :: st) h Q) : AW M pc ls st h Q := by
  intro p l e R s m args below meth c H locs cells slots Z D α τ A hF hC hE h1 h2 hs hl L hL
  exact lv_bipush hF.1 hF.2.1 hd hr.1 (kk p l e R s m args below meth c H locs cells slots Z D α τ A hF hC hE h1 h2 (ok_c hr.2 hs) hl L hL)
theorem aw_sipush {n : Int} (hd : decode M.1 pc = .ok (.sipush n, 3)) (hr : (Int16.ofInt n).toInt32 = Int32.ofInt n ∧ InR n) (kk : AW M (pc + 3) ls ((0, n) :: st) h Q) : AW M pc ls st h Q := by
  intro p l e R s m args below meth c H locs cells slots Z D α τ A hF hC hE h1 h2 hs hl L hL
  exact lv_sipush hF.1 hF.2.1 hd hr.1 (kk p l e R s m args below meth c H locs cells slots Z D α τ A hF hC hE h1 h2 (ok_c hr.2 hs) hl L hL)
theorem aw_lconst {n : Fin 2} {v : Int} (hd : decode M.1 pc = .ok (.lconst n, 1)) (hv : Int64.ofNat (n : Nat) = Int64.ofInt v ∧ InL v) (kk : AW M (pc + 1) ls ((1, v) :: st) h Q) : AW M pc ls st h Q := by
  intro p l e R s m args below meth c H locs cells slots Z D α τ A hF hC hE h1 h2 hs hl L hL
  exact lv_lconst hF.1 hF.2.1 hd hv.1 (kk p l e R s m args below meth c H locs cells slots Z D α τ A hF hC hE h1 h2 (ok_c hv.2 hs) hl L hL)
theorem aw_ldc {k : Nat} {v : Int} (hd : decode M.1 pc = .ok (.ldc k, 2)) (hw : Cond.constant M.2.2.1 k (Int32.ofInt v) ∈ lw_g) (hv : InR v) (kk : AW M (pc + 2) ls ((0, v) :: st) h Q) : AW M pc ls st h Q := by
  intro p l e R s m args below meth c H locs cells slots Z D α τ A hF hC hE h1 h2 hs hl L hL
  exact lv_ldc hF.1 hF.2.1 hF.2.2.2.1 (hF.2.2.2.2.1 _ hw) hd (kk p l e R s m args below meth c H locs cells slots Z D α τ A hF hC hE h1 h2 (ok_c hv hs) hl L hL)
theorem aw_ldcw {k : Nat} {v : Int} (hd : decode M.1 pc = .ok (.ldc_w k, 3)) (hw : Cond.constant M.2.2.1 k (Int32.ofInt v) ∈ lw_g) (hv : InR v) (kk : AW M (pc + 3) ls ((0, v) :: st) h Q) : AW M pc ls st h Q := by
  intro p l e R s m args below meth c H locs cells slots Z D α τ A hF hC hE h1 h2 hs hl L hL
  exact lv_ldcw hF.1 hF.2.1 hF.2.2.2.1 (hF.2.2.2.2.1 _ hw) hd (kk p l e R s m args below meth c H locs cells slots Z D α τ A hF hC hE h1 h2 (ok_c hv hs) hl L hL)
theorem aw_ldc2 {k : Nat} {v : Int} (hd : decode M.1 pc = .ok (.ldc2_w k, 3)) (hw : Cond.constantLong M.2.2.1 k (Int64.ofInt v) ∈ lw_g) (hv : InL v) (kk : AW M (pc + 3) ls ((1, v) :: st) h Q) : AW M pc ls st h Q := by
  intro p l e R s m args below meth c H locs cells slots Z D α τ A hF hC hE h1 h2 hs hl L hL
  exact lv_ldc2 hF.1 hF.2.1 hF.2.2.2.1 (hF.2.2.2.2.1 _ hw) hd (kk p l e R s m args below meth c H locs cells slots Z D α τ A hF hC hE h1 h2 (ok_c hv hs) hl L hL)
theorem aw_iload_n {k : Fin 4} {i j : Nat} {x : Int} (hd : decode M.1 pc = .ok (.iload_n k, 1)) (hi : (k : Nat) = i) (hj : ls[j]? = some (i, (0, x))) (kk : AW M (pc + 1) ls ((0, x) :: st) h Q) : AW M pc ls st h Q := by
  intro p l e R s m args below meth c H locs cells slots Z D α τ A hF hC hE h1 h2 hs hl L hL
  exact lv_iload_n hF.1 hF.2.1 hd hi (ls_at hL hj) (kk p l e R s m args below meth c H locs cells slots Z D α τ A hF hC hE h1 h2 (ok_c (ls_ok hl hj) hs) hl L hL)
theorem aw_iload {i j : Nat} {x : Int} (hd : decode M.1 pc = .ok (.iload i, 2)) (hj : ls[j]? = some (i, (0, x))) (kk : AW M (pc + 2) ls ((0, x) :: st) h Q) : AW M pc ls st h Q := by
  intro p l e R s m args below meth c H locs cells slots Z D α τ A hF hC hE h1 h2 hs hl L hL
  exact lv_iload hF.1 hF.2.1 hd (ls_at hL hj) (kk p l e R s m args below meth c H locs cells slots Z D α τ A hF hC hE h1 h2 (ok_c (ls_ok hl hj) hs) hl L hL)
theorem aw_lload_n {k : Fin 4} {i j : Nat} {x : Int} (hd : decode M.1 pc = .ok (.lload_n k, 1)) (hi : (k : Nat) = i) (hj : ls[j]? = some (i, (1, x))) (kk : AW M (pc + 1) ls ((1, x) :: st) h Q) : AW M pc ls st h Q := by
  intro p l e R s m args below meth c H locs cells slots Z D α τ A hF hC hE h1 h2 hs hl L hL
  exact lv_lload_n hF.1 hF.2.1 hd hi (ls_at hL hj) (kk p l e R s m args below meth c H locs cells slots Z D α τ A hF hC hE h1 h2 (ok_c (ls_ok hl hj) hs) hl L hL)
theorem aw_lload {i j : Nat} {x : Int} (hd : decode M.1 pc = .ok (.lload i, 2)) (hj : ls[j]? = some (i, (1, x))) (kk : AW M (pc + 2) ls ((1, x) :: st) h Q) : AW M pc ls st h Q := by
  intro p l e R s m args below meth c H locs cells slots Z D α τ A hF hC hE h1 h2 hs hl L hL
  exact lv_lload hF.1 hF.2.1 hd (ls_at hL hj) (kk p l e R s m args below meth c H locs cells slots Z D α τ A hF hC hE h1 h2 (ok_c (ls_ok hl hj) hs) hl L hL)
theorem aw_aload_n {k : Fin 4} {i j a : Nat} (hd : decode M.1 pc = .ok (.aload_n k, 1)) (hi : (k : Nat) = i) (hj : ls[j]? = some (i, vr a)) (kk : AW M (pc + 1) ls (vr a :: st) h Q) : AW M pc ls st h Q := by
  intro p l e R s m args below meth c H locs cells slots Z D α τ A hF hC hE h1 h2 hs hl L hL
  exact lv_aload_n hF.1 hF.2.1 hd hi (ls_at hL hj) (kk p l e R s m args below meth c H locs cells slots Z D α τ A hF hC hE h1 h2 (ok_c (ls_ok hl hj) hs) hl L hL)
theorem aw_aload {i j a : Nat} (hd : decode M.1 pc = .ok (.aload i, 2)) (hj : ls[j]? = some (i, vr a)) (kk : AW M (pc + 2) ls (vr a :: st) h Q) : AW M pc ls st h Q := by
  intro p l e R s m args below meth c H locs cells slots Z D α τ A hF hC hE h1 h2 hs hl L hL
  exact lv_aload hF.1 hF.2.1 hd (ls_at hL hj) (kk p l e R s m args below meth c H locs cells slots Z D α τ A hF hC hE h1 h2 (ok_c (ls_ok hl hj) hs) hl L hL)
theorem ok_st {i : Nat} {v : Vl} {ls : LoS} {f : Nat × Vl → Bool} (hv : okV v) (hl : ∀ q ∈ ls, okV q.2) : ∀ q ∈ (i, v) :: ls.filter f, okV q.2 := by
  intro q hq
  rcases List.mem_cons.mp hq with rfl | hq
  · exact hv
  · exact hl q (List.mem_filter.mp hq).1
theorem aw_istore_n {k : Fin 4} {i : Nat} {x : Int} {ls' : LoS} (hd : decode M.1 pc = .ok (.istore_n k, 1)) (hi : (k : Nat) = i) (hn : i < M.2.1) (hl' : (i, ((0, x) : Vl)) :: ls.filter (fun q => !(q.1 == i) && !(q.1 + 1 == i && wdV q.2 == 2)) = ls') (kk : AW M (pc + 1) ls' st h Q) : AW M pc ls ((0, x) :: st) h Q := by
  subst hl'
  intro p l e R s m args below meth c H locs cells slots Z D α τ A hF hC hE h1 h2 hs hl L hL
  exact lv_istore_n hF.1 hF.2.1 hd hi hL hn (by rw [flt1]; rfl) (fun L' hL' => kk p l e R s m args below meth c H locs cells slots Z D α τ A hF hC hE h1 h2 (ok_t hs) (ok_st (ok_h hs) hl) L' hL')
theorem aw_istore {i : Nat} {x : Int} {ls' : LoS} (hd : decode M.1 pc = .ok (.istore i, 2)) (hn : i < M.2.1) (hl' : (i, ((0, x) : Vl)) :: ls.filter (fun q => !(q.1 == i) && !(q.1 + 1 == i && wdV q.2 == 2)) = ls') (kk : AW M (pc + 2) ls' st h Q) : AW M pc ls ((0, x) :: st) h Q := by
  subst hl'
  intro p l e R s m args below meth c H locs cells slots Z D α τ A hF hC hE h1 h2 hs hl L hL
  exact lv_istore hF.1 hF.2.1 hd hL hn (by rw [flt1]; rfl) (fun L' hL' => kk p l e R s m args below meth c H locs cells slots Z D α τ A hF hC hE h1 h2 (ok_t hs) (ok_st (ok_h hs) hl) L' hL')
theorem aw_lstore_n {k : Fin 4} {i : Nat} {x : Int} {ls' : LoS} (hd : decode M.1 pc = .ok (.lstore_n k, 1)) (hi : (k : Nat) = i) (hn : i + 1 < M.2.1) (hl' : (i, ((1, x) : Vl)) :: ls.filter (fun q => !(q.1 == i) && (!(q.1 == i + 1) && !(q.1 + 1 == i && wdV q.2 == 2))) = ls') (kk : AW M (pc + 1) ls' st h Q) : AW M pc ls ((1, x) :: st) h Q := by
  subst hl'
  intro p l e R s m args below meth c H locs cells slots Z D α τ A hF hC hE h1 h2 hs hl L hL
  exact lv_lstore_n hF.1 hF.2.1 hd hi hL hn (by rw [flt2]; rfl) (fun L' hL' => kk p l e R s m args below meth c H locs cells slots Z D α τ A hF hC hE h1 h2 (ok_t hs) (ok_st (ok_h hs) hl) L' hL')
theorem aw_lstore {i : Nat} {x : Int} {ls' : LoS} (hd : decode M.1 pc = .ok (.lstore i, 2)) (hn : i + 1 < M.2.1) (hl' : (i, ((1, x) : Vl)) :: ls.filter (fun q => !(q.1 == i) && (!(q.1 == i + 1) && !(q.1 + 1 == i && wdV q.2 == 2))) = ls') (kk : AW M (pc + 2) ls' st h Q) : AW M pc ls ((1, x) :: st) h Q := by
  subst hl'
  intro p l e R s m args below meth c H locs cells slots Z D α τ A hF hC hE h1 h2 hs hl L hL
  exact lv_lstore hF.1 hF.2.1 hd hL hn (by rw [flt2]; rfl) (fun L' hL' => kk p l e R s m args below meth c H locs cells slots Z D α τ A hF hC hE h1 h2 (ok_t hs) (ok_st (ok_h hs) hl) L' hL')
theorem aw_astore_n {k : Fin 4} {i a : Nat} {ls' : LoS} (hd : decode M.1 pc = .ok (.astore_n k, 1)) (hi : (k : Nat) = i) (hn : i < M.2.1) (hl' : (i, vr a) :: ls.filter (fun q => !(q.1 == i) && !(q.1 + 1 == i && wdV q.2 == 2)) = ls') (kk : AW M (pc + 1) ls' st h Q) : AW M pc ls (vr a :: st) h Q := by
  subst hl'
  intro p l e R s m args below meth c H locs cells slots Z D α τ A hF hC hE h1 h2 hs hl L hL
  exact lv_astore_n hF.1 hF.2.1 hd hi hL hn (by rw [flt1]; rfl) (fun L' hL' => kk p l e R s m args below meth c H locs cells slots Z D α τ A hF hC hE h1 h2 (ok_t hs) (ok_st (ok_h hs) hl) L' hL')
theorem i32_add (a b : Int) : Int32.ofInt a + Int32.ofInt b = Int32.ofInt (a + b) := (Int32.ofInt_add a b).symm
theorem aw_iinc {i j : Nat} {n x r : Int} {ls' : LoS} (hd : decode M.1 pc = .ok (.iinc i n, 3)) (hj : ls[j]? = some (i, (0, x))) (he : x + n = r) (hr : InR r) (hn : i < M.2.1) (hl' : (i, ((0, r) : Vl)) :: ls.filter (fun q => !(q.1 == i) && !(q.1 + 1 == i && wdV q.2 == 2)) = ls') (kk : AW M (pc + 3) ls' st h Q) : AW M pc ls st h Q := by
  subst hl'
  intro p l e R s m args below meth c H locs cells slots Z D α τ A hF hC hE h1 h2 hs hl L hL
  exact lv_iinc hF.1 hF.2.1 hd hL (k := j) (x := Int32.ofInt x) (by rw [List.getElem?_map, hj]; rfl) ((i32_add x n).trans (by rw [he])) hn (by rw [flt1]; rfl) (fun L' hL' => kk p l e R s m args below meth c H locs cells slots Z D α τ A hF hC hE h1 h2 hs (ok_st hr hl) L' hL')
end AWR
