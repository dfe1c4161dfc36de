/-! objects that come to be: the judgement BW is AW with a list of the objects that are there and with what may still come: cells, slots -/
abbrev BM : Type := List Nat × Mem × Nat × Nat
abbrev PostB : Type := Option Vl → BM → Prop
def fvalB (α : Nat → Nat) (h : Mem) (i c k : Nat) : Value := match fk c k with
  | (0, _) => .int (Int32.ofInt (h i k))
  | (1, _) => .long (Int64.ofInt (h i k))
  | (2, _) => .int (Int32.ofInt (h i k))
  | (3, _) => enc α (2, h i k)
  | (_, q) => if h i k = 1 then .ref (α (i + q)) else .null
def entB (α : Nat → Nat) (τ : Nat → ClassId) (h : Mem) (i : Nat) : va_E := match lay i with
  | (0, c) => .inr (c, (List.range (nfl c)).map (fun k => fvalB α h i c k))
  | (1, n) => .inl (τ 0, n, .inl (fun j => Int32.ofInt (h i j)))
  | (2, n) => .inl (τ 1, n, .inr (.inl (fun j => Int64.ofInt (h i j))))
  | (3, n) => .inl (τ 2, n, .inl (fun j => Int32.ofInt (h i j)))
  | (4, n) => .inl (τ 3, n, .inl (fun j => Int32.ofInt (h i j)))
  | (5, n) => .inl (τ 4, n, .inr (.inr (.inr (.inr (fun j => if h i j = 1 then some (α (i + 1 + 15 * j)) else none)))))
  | (6, n) => .inl (τ 5, n, .inr (.inr (.inr (.inr (fun j => if h i j = 1 then some (α (i + 1 + 6 * j)) else none)))))
  | (_, n) => .inl (τ 6, n, .inr (.inr (.inr (.inr (fun j => if h i j = 1 then some (α (i + 1 + 1 * j)) else none)))))
def wdS (α : Nat → Nat) (τ : Nat → ClassId) (S : List Nat) (h : Mem) : va_W := S.map (fun i => (α i, entB α τ h i))
/-- the object that a cell names (its own, where it names none) -/
def tgF (h : Mem) (i c k : Nat) : Nat := match fk c k with
  | (0, _) => i
  | (1, _) => i
  | (2, _) => i
  | (3, _) => if h i k < 0 then i else (h i k).toNat
  | (_, q) => if h i k = 1 then i + q else i
def tg (h : Mem) (i k : Nat) : Nat := match lay i with
  | (0, c) => tgF h i c k
  | (1, _) => i
  | (2, _) => i
  | (3, _) => i
  | (4, _) => i
  | (5, _) => if h i k = 1 then i + 1 + 15 * k else i
  | (6, _) => if h i k = 1 then i + 1 + 6 * k else i
  | (_, _) => if h i k = 1 then i + 1 + 1 * k else i
def Cls (S : List Nat) (h : Mem) : Prop := ∀ i ∈ S, ∀ k, tg h i k ∈ S
def okB (S : List Nat) (v : Vl) : Prop := match v with
  | (0, x) => InR x
  | (1, x) => InL x
  | (_, .ofNat a) => a ∈ S ∨ 181 ≤ a
  | _ => True
def BCx (s : State) (D : va_G) (α : Nat → Nat) (τ : Nat → ClassId) (A : Nat → Prop) (H : Heap) (locs : List Loc) (b : BM) : Prop :=
  va_P D vwCl (wdS α τ b.1 b.2.1) H ∧ va_D A (wdS α τ b.1 b.2.1) ∧ va_S A s.heap H locs ∧ Rg b.2.1 ∧ (∀ i ∈ b.1, i < nOb) ∧ Cls b.1 b.2.1
def BEnds (M : Hd) (p : Program) (l : Launch) (e : Env) (R : Room) (s : State) (m : MethodId) (args : Array Value) (below : List Frame) (meth : Method) (c : Code) (cells slots : Nat) (Z : State → Prop) (D : va_G) (α : Nat → Nat) (τ : Nat → ClassId) (A : Nat → Prop) (b : BM) (Q : PostB) : Prop :=
  ∀ (β : Nat → Nat) (rv : Option Vl) (b1 : BM) (H1 : Heap) (locs1 : List Loc) (k1 n1 : Nat), (∀ i, i ∈ b.1 ∨ 181 ≤ i → β i = α i) → (∀ i ∈ b.1, i ∈ b1.1) → k1 + b1.2.2.1 ≤ cells + b.2.2.1 → n1 + b1.2.2.2 ≤ slots + b.2.2.2 → BCx s D β τ A H1 locs1 b1 → (∀ v, rv = some v → okB b1.1 v) → retOK M.2.2.2.1 rv → Q rv b1 → ∀ (pc : Nat) (L : Array Slot), decode M.1 pc = .ok (retI rv, 1) →
    W p l e R s m args below meth c H1 locs1 k1 n1 Z (F0 m pc L (stE β rv.toList))
/-- the links to the parts' own constructors -/
def nestL : List (String × Nat × MethodName × String) := [(RX11, 18, yX10_init, RX11), (RX4, 11, yX9_init, RX11), (RX4, 20, yX7_init, RX11), (RX11, 39, yX1_init, RX11), (RX11, 49, yX5_init, RX11), (RX11, 56, yX2_init, RX11), (RX2, 11, yX1_init, RX11), (RX11, 63, yX0_init, RX11), (RX11, 70, yX3_init, RX11), (RX11, 77, yX6_init, RX11)]
/-- rows of rows of longs -/
def AOJ (U : State) : Prop := ∃ (comp cA : ClassId) (k : Class), U.vm.findClass "[J" = some comp ∧ U.vm.classes[cA]? = some k ∧ k.kind = .array comp (.array .long) ∧ U.vm.findClass "[[J" = some cA
theorem AOJ.moved {u U : State} (hvm : u.vm.Alike U.vm) (h : AOJ u) : AOJ U := by
  obtain ⟨comp, cA, k, h1, h2, h3, h4⟩ := h
  obtain ⟨k', hk', he⟩ := hvm.2.2 _ _ h2
  exact ⟨comp, cA, k', by rw [hvm.findClass]; exact h1, hk', by rw [he]; exact h3, by rw [hvm.findClass]; exact h4⟩
def NW (U : State) : Prop := (∀ q ∈ nestL, va_Nw (.methodLinkNest q.1 q.2.1 q.2.2.1 q.2.2.2) U) ∧ AOJ U ∧ va_AO RX4 U ∧ va_AO RX1 U
theorem NW.warm {s U : State} (h : NW s) (hW : s.WarmedH U.vm) : NW U := ⟨fun q hq => va_Nw.warmM hW (h.1 q hq), h.2.1.moved hW.alike, h.2.2.1.moved hW.alike, h.2.2.2.moved hW.alike⟩
theorem NW.call {U : State} {g : JFrame} {mk : MethodId} {a : Array Value} (h : NW U) : NW (U.calling g mk a) := ⟨fun q hq => va_Nw.same (u := U) (U := U.calling g mk a) rfl rfl (h.1 q hq), AOJ.moved (u := U) (U := U.calling g mk a) (Vm.Alike.refl U.vm) h.2.1, va_AO.moved (u := U) (U := U.calling g mk a) (Vm.Alike.refl U.vm) h.2.2.1, va_AO.moved (u := U) (U := U.calling g mk a) (Vm.Alike.refl U.vm) h.2.2.2⟩
def BW (M : Hd) (pc : Nat) (ls : LoS) (st : List Vl) (h : BM) (Q : PostB) : Prop :=
  ∀ (p : Program) (l : Launch) (e : Env) (R : Room) (s : State) (m : MethodId) (args : Array Value) (below : List Frame) (meth : Method) (c : Code) (H : Heap) (locs : List Loc) (cells slots : Nat) (Z : State → Prop) (D : va_G) (α : Nat → Nat) (τ : Nat → ClassId) (A : Nat → Prop),
    Fx M p R s m args meth c D α τ A → ((M.2.2.2.2.2.2 0 = 1 → meth.name = "<init>") ∧ NW s) → BCx s D α τ A H locs h → BEnds M p l e R s m args below meth c cells slots Z D α τ A h Q → cells + h.2.2.1 ≤ R.cells → slots + h.2.2.2 ≤ R.slots → (∀ v ∈ st, okB h.1 v) → (∀ q ∈ ls, okB h.1 q.2) → ∀ L : Array Slot, lv_has L M.2.1 (lsE α ls) →
    W p l e R s m args below meth c H locs cells slots Z (F0 m pc L (stE α st))
theorem bls_ok {S : List Nat} {ls : LoS} (hl : ∀ q ∈ ls, okB S q.2) {j i : Nat} {v : Vl} (hj : ls[j]? = some (i, v)) : okB S v := hl (i, v) (List.mem_of_getElem? hj)
theorem bok_c {S : List Nat} {v : Vl} {st : List Vl} (hv : okB S v) (hs : ∀ v ∈ st, okB S v) : ∀ u ∈ v :: st, okB S u := by
  intro u hu
  rcases List.mem_cons.mp hu with rfl | hu
  · exact hv
  · exact hs u hu
theorem bok_t {S : List Nat} {v : Vl} {st : List Vl} (hs : ∀ u ∈ v :: st, okB S u) : ∀ u ∈ st, okB S u := fun u hu => hs u (List.mem_cons_of_mem _ hu)
theorem bok_h {S : List Nat} {v : Vl} {st : List Vl} (hs : ∀ u ∈ v :: st, okB S u) : okB S v := hs v List.mem_cons_self
theorem bok_big {S : List Nat} {a : Nat} (h : 181 ≤ a) : okB S (vr a) := Or.inr h
theorem bok_st {S : List Nat} {i : Nat} {v : Vl} {ls : LoS} {f : Nat × Vl → Bool} (hv : okB S v) (hl : ∀ q ∈ ls, okB S q.2) : ∀ q ∈ (i, v) :: ls.filter f, okB S q.2 := by
  intro q hq
  rcases List.mem_cons.mp hq with rfl | hq
  · exact hv
  · exact hl q (List.mem_filter.mp hq).1
section BWR
variable {M : Hd} {pc : Nat} {ls : LoS} {st : List Vl} {h : BM} {Q : PostB}
theorem bw_iconst {n : Int} (hd : decode M.1 pc = .ok (.iconst n, 1)) (hr : InR n) (kk : BW M (pc + 1) ls ((0, n) :: st) h Q) : BW M pc ls st h Q := by
  intro p l e R s m args below meth c H locs cells slots Z D α τ A hF hN hC hE h1 h2 hs hl L hL
  exact lv_iconst hF.1 hF.2.1 hd rfl (kk p l e R s m args below meth c H locs cells slots Z D α τ A hF hN hC hE h1 h2 (bok_c hr hs) hl L hL)
theorem bw_bipush {n : Int} (hd : decode M.1 pc = .ok (.bipush n, 2)) (hr : (Int8.ofInt n).toInt32 = Int32.ofInt n ∧ InR n) (kk : BW M (pc + 2) ls ((0, n) :: st) h Q) : BW M pc ls st h Q := by
  intro p l e R s m args below meth c H locs cells slots Z D α τ A hF hN hC hE h1 h2 hs hl L hL
  exact lv_bipush hF.1 hF.2.1 hd hr.1 (kk p l e R s m args below meth c H locs cells slots Z D α τ A hF hN hC hE h1 h2 (bok_c hr.2 hs) hl L hL)
theorem bw_sipush {n : Int} (hd : decode M.1 pc = .ok (.sipush n, 3)) (hr : (Int16.ofInt n).toInt32 = Int32.ofInt n ∧ InR n) (kk : BW M (pc + 3) ls ((0, n) :: st) h Q) : BW M pc ls st h Q := by
  intro p l e R s m args below meth c H locs cells slots Z D α τ A hF hN hC hE h1 h2 hs hl L hL
  exact lv_sipush hF.1 hF.2.1 hd hr.1 (kk p l e R s m args below meth c H locs cells slots Z D α τ A hF hN hC hE h1 h2 (bok_c hr.2 hs) hl L hL)
theorem bw_lconst {n : Fin 2} {v : Int} (hd : decode M.1 pc = .ok (.lconst n, 1)) (hv : Int64.ofNat (n : Nat) = Int64.ofInt v ∧ InL v) (kk : BW M (pc + 1) ls ((1, v) :: st) h Q) : BW M pc ls st h Q := by
  intro p l e R s m args below meth c H locs cells slots Z D α τ A hF hN hC hE h1 h2 hs hl L hL
  exact lv_lconst hF.1 hF.2.1 hd hv.1 (kk p l e R s m args below meth c H locs cells slots Z D α τ A hF hN hC hE h1 h2 (bok_c hv.2 hs) hl L hL)
theorem bw_iload_n {k : Fin 4} {i j : Nat} {x : Int} (hd : decode M.1 pc = .ok (.iload_n k, 1)) (hi : (k : Nat) = i) (hj : ls[j]? = some (i, (0, x))) (kk : BW M (pc + 1) ls ((0, x) :: st) h Q) : BW M pc ls st h Q := by
  intro p l e R s m args below meth c H locs cells slots Z D α τ A hF hN hC hE h1 h2 hs hl L hL
  exact lv_iload_n hF.1 hF.2.1 hd hi (ls_at hL hj) (kk p l e R s m args below meth c H locs cells slots Z D α τ A hF hN hC hE h1 h2 (bok_c (bls_ok hl hj) hs) hl L hL)
theorem bw_iload {i j : Nat} {x : Int} (hd : decode M.1 pc = .ok (.iload i, 2)) (hj : ls[j]? = some (i, (0, x))) (kk : BW M (pc + 2) ls ((0, x) :: st) h Q) : BW M pc ls st h Q := by
  intro p l e R s m args below meth c H locs cells slots Z D α τ A hF hN hC hE h1 h2 hs hl L hL
  exact lv_iload hF.1 hF.2.1 hd (ls_at hL hj) (kk p l e R s m args below meth c H locs cells slots Z D α τ A hF hN hC hE h1 h2 (bok_c (bls_ok hl hj) hs) hl L hL)
theorem bw_lload_n {k : Fin 4} {i j : Nat} {x : Int} (hd : decode M.1 pc = .ok (.lload_n k, 1)) (hi : (k : Nat) = i) (hj : ls[j]? = some (i, (1, x))) (kk : BW M (pc + 1) ls ((1, x) :: st) h Q) : BW M pc ls st h Q := by
  intro p l e R s m args below meth c H locs cells slots Z D α τ A hF hN hC hE h1 h2 hs hl L hL
  exact lv_lload_n hF.1 hF.2.1 hd hi (ls_at hL hj) (kk p l e R s m args below meth c H locs cells slots Z D α τ A hF hN hC hE h1 h2 (bok_c (bls_ok hl hj) hs) hl L hL)
theorem bw_aload_n {k : Fin 4} {i j a : Nat} (hd : decode M.1 pc = .ok (.aload_n k, 1)) (hi : (k : Nat) = i) (hj : ls[j]? = some (i, vr a)) (kk : BW M (pc + 1) ls (vr a :: st) h Q) : BW M pc ls st h Q := by
  intro p l e R s m args below meth c H locs cells slots Z D α τ A hF hN hC hE h1 h2 hs hl L hL
  exact lv_aload_n hF.1 hF.2.1 hd hi (ls_at hL hj) (kk p l e R s m args below meth c H locs cells slots Z D α τ A hF hN hC hE h1 h2 (bok_c (bls_ok hl hj) hs) hl L hL)
theorem bw_aload {i j a : Nat} (hd : decode M.1 pc = .ok (.aload i, 2)) (hj : ls[j]? = some (i, vr a)) (kk : BW M (pc + 2) ls (vr a :: st) h Q) : BW M pc ls st h Q := by
  intro p l e R s m args below meth c H locs cells slots Z D α τ A hF hN hC hE h1 h2 hs hl L hL
  exact lv_aload hF.1 hF.2.1 hd (ls_at hL hj) (kk p l e R s m args below meth c H locs cells slots Z D α τ A hF hN hC hE h1 h2 (bok_c (bls_ok hl hj) hs) hl L hL)
theorem bw_istore_n {k : Fin 4} {i : Nat} {x : Int} {ls' : LoS} (hd : decode M.1 pc = .ok (.istore_n k, 1)) (hi : (k : Nat) = i) (hn : i < M.2.1) (hl' : (i, ((0, x) : Vl)) :: ls.filter (fun q => !(q.1 == i) && !(q.1 + 1 == i && wdV q.2 == 2)) = ls') (kk : BW M (pc + 1) ls' st h Q) : BW M pc ls ((0, x) :: st) h Q := by
  subst hl'
  intro p l e R s m args below meth c H locs cells slots Z D α τ A hF hN hC hE h1 h2 hs hl L hL
  exact lv_istore_n hF.1 hF.2.1 hd hi hL hn (by rw [flt1]; rfl) (fun L' hL' => kk p l e R s m args below meth c H locs cells slots Z D α τ A hF hN hC hE h1 h2 (bok_t hs) (bok_st (bok_h hs) hl) L' hL')
theorem bw_istore {i : Nat} {x : Int} {ls' : LoS} (hd : decode M.1 pc = .ok (.istore i, 2)) (hn : i < M.2.1) (hl' : (i, ((0, x) : Vl)) :: ls.filter (fun q => !(q.1 == i) && !(q.1 + 1 == i && wdV q.2 == 2)) = ls') (kk : BW M (pc + 2) ls' st h Q) : BW M pc ls ((0, x) :: st) h Q := by
  subst hl'
  intro p l e R s m args below meth c H locs cells slots Z D α τ A hF hN hC hE h1 h2 hs hl L hL
  exact lv_istore hF.1 hF.2.1 hd hL hn (by rw [flt1]; rfl) (fun L' hL' => kk p l e R s m args below meth c H locs cells slots Z D α τ A hF hN hC hE h1 h2 (bok_t hs) (bok_st (bok_h hs) hl) L' hL')
theorem bw_lstore_n {k : Fin 4} {i : Nat} {x : Int} {ls' : LoS} (hd : decode M.1 pc = .ok (.lstore_n k, 1)) (hi : (k : Nat) = i) (hn : i + 1 < M.2.1) (hl' : (i, ((1, x) : Vl)) :: ls.filter (fun q => !(q.1 == i) && (!(q.1 == i + 1) && !(q.1 + 1 == i && wdV q.2 == 2))) = ls') (kk : BW M (pc + 1) ls' st h Q) : BW M pc ls ((1, x) :: st) h Q := by
  subst hl'
  intro p l e R s m args below meth c H locs cells slots Z D α τ A hF hN hC hE h1 h2 hs hl L hL
  exact lv_lstore_n hF.1 hF.2.1 hd hi hL hn (by rw [flt2]; rfl) (fun L' hL' => kk p l e R s m args below meth c H locs cells slots Z D α τ A hF hN hC hE h1 h2 (bok_t hs) (bok_st (bok_h hs) hl) L' hL')
theorem bw_iinc {i j : Nat} {n x r : Int} {ls' : LoS} (hd : decode M.1 pc = .ok (.iinc i n, 3)) (hj : ls[j]? = some (i, (0, x))) (he : x + n = r) (hr : InR r) (hn : i < M.2.1) (hl' : (i, ((0, r) : Vl)) :: ls.filter (fun q => !(q.1 == i) && !(q.1 + 1 == i && wdV q.2 == 2)) = ls') (kk : BW M (pc + 3) ls' st h Q) : BW M pc ls st h Q := by
  subst hl'
  intro p l e R s m args below meth c H locs cells slots Z D α τ A hF hN hC hE h1 h2 hs hl L hL
  exact lv_iinc hF.1 hF.2.1 hd hL (k := j) (x := Int32.ofInt x) (by rw [List.getElem?_map, hj]; rfl) ((i32_add x n).trans (by rw [he])) hn (by rw [flt1]; rfl) (fun L' hL' => kk p l e R s m args below meth c H locs cells slots Z D α τ A hF hN hC hE h1 h2 hs (bok_st hr hl) L' hL')
theorem bw_iadd {a b : Int} (hd : decode M.1 pc = .ok (.iadd, 1)) {r : Int} (he : a + b = r) (hr : InR r) (kk : BW M (pc + 1) ls ((0, r) :: st) h Q) : BW M pc ls ((0, b) :: (0, a) :: st) h Q := by
  intro p l e R s m args below meth c H locs cells slots Z D α τ A hF hN hC hE h1 h2 hs hl L hL
  have hb := bok_h hs
  have ha := bok_h (bok_t hs)
  refine lv_iadd hF.1 hF.2.1 hd ?_
  rw [← Int32.ofInt_add, he]
  exact kk p l e R s m args below meth c H locs cells slots Z D α τ A hF hN hC hE h1 h2 (bok_c (hr) (bok_t (bok_t hs))) hl L hL
theorem bw_isub {a b : Int} (hd : decode M.1 pc = .ok (.isub, 1)) {r : Int} (he : a - b = r) (hr : InR r) (kk : BW M (pc + 1) ls ((0, r) :: st) h Q) : BW M pc ls ((0, b) :: (0, a) :: st) h Q := by
  intro p l e R s m args below meth c H locs cells slots Z D α τ A hF hN hC hE h1 h2 hs hl L hL
  have hb := bok_h hs
  have ha := bok_h (bok_t hs)
  refine lv_isub hF.1 hF.2.1 hd ?_
  rw [← Int32.ofInt_sub, he]
  exact kk p l e R s m args below meth c H locs cells slots Z D α τ A hF hN hC hE h1 h2 (bok_c (hr) (bok_t (bok_t hs))) hl L hL
theorem bw_iand {a b : Int} (hd : decode M.1 pc = .ok (.iand, 1))  (kk : BW M (pc + 1) ls ((0, iand a b) :: st) h Q) : BW M pc ls ((0, b) :: (0, a) :: st) h Q := by
  intro p l e R s m args below meth c H locs cells slots Z D α τ A hF hN hC hE h1 h2 hs hl L hL
  have hb := bok_h hs
  have ha := bok_h (bok_t hs)
  refine lv_iand hF.1 hF.2.1 hd ?_
  rw [show Int32.ofInt a &&& Int32.ofInt b = Int32.ofInt (iand a b) from (Int32.ofInt_toInt _).symm]
  exact kk p l e R s m args below meth c H locs cells slots Z D α τ A hF hN hC hE h1 h2 (bok_c (ir32 _) (bok_t (bok_t hs))) hl L hL
theorem bw_ishr {a b : Int} (hd : decode M.1 pc = .ok (.ishr, 1))  (kk : BW M (pc + 1) ls ((0, ishr a b) :: st) h Q) : BW M pc ls ((0, b) :: (0, a) :: st) h Q := by
  intro p l e R s m args below meth c H locs cells slots Z D α τ A hF hN hC hE h1 h2 hs hl L hL
  have hb := bok_h hs
  have ha := bok_h (bok_t hs)
  refine lv_ishr hF.1 hF.2.1 hd ?_
  rw [show Int32.ofInt a >>> (Int32.ofInt b &&& 31) = Int32.ofInt (ishr a b) from (Int32.ofInt_toInt _).symm]
  exact kk p l e R s m args below meth c H locs cells slots Z D α τ A hF hN hC hE h1 h2 (bok_c (ir32 _) (bok_t (bok_t hs))) hl L hL
theorem bw_lor {a b : Int} (hd : decode M.1 pc = .ok (.lor, 1))  (kk : BW M (pc + 1) ls ((1, llor a b) :: st) h Q) : BW M pc ls ((1, b) :: (1, a) :: st) h Q := by
  intro p l e R s m args below meth c H locs cells slots Z D α τ A hF hN hC hE h1 h2 hs hl L hL
  have hb := bok_h hs
  have ha := bok_h (bok_t hs)
  refine lv_lor hF.1 hF.2.1 hd ?_
  rw [show Int64.ofInt a ||| Int64.ofInt b = Int64.ofInt (llor a b) from (Int64.ofInt_toInt _).symm]
  exact kk p l e R s m args below meth c H locs cells slots Z D α τ A hF hN hC hE h1 h2 (bok_c (ir64 _) (bok_t (bok_t hs))) hl L hL
theorem bw_lshl {a b : Int} (hd : decode M.1 pc = .ok (.lshl, 1)) (kk : BW M (pc + 1) ls ((1, lshl a b) :: st) h Q) : BW M pc ls ((0, b) :: (1, a) :: st) h Q := by
  intro p l e R s m args below meth c H locs cells slots Z D α τ A hF hN hC hE h1 h2 hs hl L hL
  exact lv_lshl hF.1 hF.2.1 hd (Int64.ofInt_toInt _).symm (kk p l e R s m args below meth c H locs cells slots Z D α τ A hF hN hC hE h1 h2 (bok_c (ir64 _) (bok_t (bok_t hs))) hl L hL)
theorem bw_i2l {a : Int} (hd : decode M.1 pc = .ok (.i2l, 1)) (kk : BW M (pc + 1) ls ((1, a) :: st) h Q) : BW M pc ls ((0, a) :: st) h Q := by
  intro p l e R s m args below meth c H locs cells slots Z D α τ A hF hN hC hE h1 h2 hs hl L hL
  have ha : InR a := bok_h hs
  exact lv_i2l hF.1 hF.2.1 hd (e_i2l ha) (kk p l e R s m args below meth c H locs cells slots Z D α τ A hF hN hC hE h1 h2 (bok_c (show InL a by unfold InR at ha; unfold InL; omega) (bok_t hs)) hl L hL)
theorem bw_i2c {a : Int} (hd : decode M.1 pc = .ok (.i2c, 1)) (kk : BW M (pc + 1) ls ((0, i2c a) :: st) h Q) : BW M pc ls ((0, a) :: st) h Q := by
  intro p l e R s m args below meth c H locs cells slots Z D α τ A hF hN hC hE h1 h2 hs hl L hL
  exact lv_i2c hF.1 hF.2.1 hd (Int32.ofInt_toInt _).symm (kk p l e R s m args below meth c H locs cells slots Z D α τ A hF hN hC hE h1 h2 (bok_c (ir32 _) (bok_t hs)) hl L hL)
theorem bw_dup {v : Vl} (hd : decode M.1 pc = .ok (.dup, 1)) (hv : wdV v = 1) (kk : BW M (pc + 1) ls (v :: v :: st) h Q) : BW M pc ls (v :: st) h Q := by
  intro p l e R s m args below meth c H locs cells slots Z D α τ A hF hN hC hE h1 h2 hs hl L hL
  exact lv_dup hF.1 hF.2.1 hd ((cat_enc v).trans hv) (kk p l e R s m args below meth c H locs cells slots Z D α τ A hF hN hC hE h1 h2 (bok_c (bok_h hs) hs) hl L hL)
theorem bw_goto {off : Int} {tgt : Nat} (hd : decode M.1 pc = .ok (.goto off, 3)) (ht : (pc : Int) + off = (tgt : Int)) (kk : BW M tgt ls st h Q) : BW M pc ls st h Q := by
  intro p l e R s m args below meth c H locs cells slots Z D α τ A hF hN hC hE h1 h2 hs hl L hL
  exact lv_goto hF.1 hF.2.1 hd ht (kk p l e R s m args below meth c H locs cells slots Z D α τ A hF hN hC hE h1 h2 hs hl L hL)
theorem bw_if_eq {x off : Int} {tgt : Nat} (hd : decode M.1 pc = .ok (.ifCond .eq off, 3)) (ht : (pc : Int) + off = (tgt : Int)) (kt : x = 0 → BW M tgt ls st h Q) (kf : ¬ (x = 0) → BW M (pc + 3) ls st h Q) : BW M pc ls ((0, x) :: st) h Q := by
  intro p l e R s m args below meth c H locs cells slots Z D α τ A hF hN hC hE h1 h2 hs hl L hL
  have hx : InR x := bok_h hs
  have ee := i32_eq hx z0
  exact lv_if_eq hF.1 hF.2.1 hd ht (fun q => kt (ee.mp q) p l e R s m args below meth c H locs cells slots Z D α τ A hF hN hC hE h1 h2 (bok_t hs) hl L hL) (fun q => kf (fun z => q (ee.mpr z)) p l e R s m args below meth c H locs cells slots Z D α τ A hF hN hC hE h1 h2 (bok_t hs) hl L hL)
theorem bw_if_ne {x off : Int} {tgt : Nat} (hd : decode M.1 pc = .ok (.ifCond .ne off, 3)) (ht : (pc : Int) + off = (tgt : Int)) (kt : ¬ x = 0 → BW M tgt ls st h Q) (kf : x = 0 → BW M (pc + 3) ls st h Q) : BW M pc ls ((0, x) :: st) h Q := by
  intro p l e R s m args below meth c H locs cells slots Z D α τ A hF hN hC hE h1 h2 hs hl L hL
  have hx : InR x := bok_h hs
  have ee := i32_eq hx z0
  exact lv_if_ne hF.1 hF.2.1 hd ht (fun q => kt (fun z => q (ee.mpr z)) p l e R s m args below meth c H locs cells slots Z D α τ A hF hN hC hE h1 h2 (bok_t hs) hl L hL) (fun q => kf (ee.mp q) p l e R s m args below meth c H locs cells slots Z D α τ A hF hN hC hE h1 h2 (bok_t hs) hl L hL)
theorem bw_if_lt {x off : Int} {tgt : Nat} (hd : decode M.1 pc = .ok (.ifCond .lt off, 3)) (ht : (pc : Int) + off = (tgt : Int)) (kt : x < 0 → BW M tgt ls st h Q) (kf : ¬ (x < 0) → BW M (pc + 3) ls st h Q) : BW M pc ls ((0, x) :: st) h Q := by
  intro p l e R s m args below meth c H locs cells slots Z D α τ A hF hN hC hE h1 h2 hs hl L hL
  have hx : InR x := bok_h hs
  have ee := i32_lt hx z0
  exact lv_if_lt hF.1 hF.2.1 hd ht (fun q => kt (ee.mp q) p l e R s m args below meth c H locs cells slots Z D α τ A hF hN hC hE h1 h2 (bok_t hs) hl L hL) (fun q => kf (fun z => q (ee.mpr z)) p l e R s m args below meth c H locs cells slots Z D α τ A hF hN hC hE h1 h2 (bok_t hs) hl L hL)
theorem bw_if_ge {x off : Int} {tgt : Nat} (hd : decode M.1 pc = .ok (.ifCond .ge off, 3)) (ht : (pc : Int) + off = (tgt : Int)) (kt : 0 ≤ x → BW M tgt ls st h Q) (kf : ¬ (0 ≤ x) → BW M (pc + 3) ls st h Q) : BW M pc ls ((0, x) :: st) h Q := by
  intro p l e R s m args below meth c H locs cells slots Z D α τ A hF hN hC hE h1 h2 hs hl L hL
  have hx : InR x := bok_h hs
  have ee := i32_le z0 hx
  exact lv_if_ge hF.1 hF.2.1 hd ht (fun q => kt (ee.mp q) p l e R s m args below meth c H locs cells slots Z D α τ A hF hN hC hE h1 h2 (bok_t hs) hl L hL) (fun q => kf (fun z => q (ee.mpr z)) p l e R s m args below meth c H locs cells slots Z D α τ A hF hN hC hE h1 h2 (bok_t hs) hl L hL)
theorem bw_icmp_ge {x y off : Int} {tgt : Nat} (hd : decode M.1 pc = .ok (.if_icmp .ge off, 3)) (ht : (pc : Int) + off = (tgt : Int)) (kt : y ≤ x → BW M tgt ls st h Q) (kf : ¬ (y ≤ x) → BW M (pc + 3) ls st h Q) : BW M pc ls ((0, y) :: (0, x) :: st) h Q := by
  intro p l e R s m args below meth c H locs cells slots Z D α τ A hF hN hC hE h1 h2 hs hl L hL
  have hy : InR y := bok_h hs
  have hx : InR x := bok_h (bok_t hs)
  have ee := i32_le hy hx
  exact lv_icmp_ge hF.1 hF.2.1 hd ht (fun q => kt (ee.mp q) p l e R s m args below meth c H locs cells slots Z D α τ A hF hN hC hE h1 h2 (bok_t (bok_t hs)) hl L hL) (fun q => kf (fun z => q (ee.mpr z)) p l e R s m args below meth c H locs cells slots Z D α τ A hF hN hC hE h1 h2 (bok_t (bok_t hs)) hl L hL)
theorem bw_icmp_gt {x y off : Int} {tgt : Nat} (hd : decode M.1 pc = .ok (.if_icmp .gt off, 3)) (ht : (pc : Int) + off = (tgt : Int)) (kt : y < x → BW M tgt ls st h Q) (kf : ¬ (y < x) → BW M (pc + 3) ls st h Q) : BW M pc ls ((0, y) :: (0, x) :: st) h Q := by
  intro p l e R s m args below meth c H locs cells slots Z D α τ A hF hN hC hE h1 h2 hs hl L hL
  have hy : InR y := bok_h hs
  have hx : InR x := bok_h (bok_t hs)
  have ee := i32_lt hy hx
  exact lv_icmp_gt hF.1 hF.2.1 hd ht (fun q => kt (ee.mp q) p l e R s m args below meth c H locs cells slots Z D α τ A hF hN hC hE h1 h2 (bok_t (bok_t hs)) hl L hL) (fun q => kf (fun z => q (ee.mpr z)) p l e R s m args below meth c H locs cells slots Z D α τ A hF hN hC hE h1 h2 (bok_t (bok_t hs)) hl L hL)
theorem bw_icmp_lt {x y off : Int} {tgt : Nat} (hd : decode M.1 pc = .ok (.if_icmp .lt off, 3)) (ht : (pc : Int) + off = (tgt : Int)) (kt : x < y → BW M tgt ls st h Q) (kf : ¬ (x < y) → BW M (pc + 3) ls st h Q) : BW M pc ls ((0, y) :: (0, x) :: st) h Q := by
  intro p l e R s m args below meth c H locs cells slots Z D α τ A hF hN hC hE h1 h2 hs hl L hL
  have hy : InR y := bok_h hs
  have hx : InR x := bok_h (bok_t hs)
  have ee := i32_lt hx hy
  exact lv_icmp_lt hF.1 hF.2.1 hd ht (fun q => kt (ee.mp q) p l e R s m args below meth c H locs cells slots Z D α τ A hF hN hC hE h1 h2 (bok_t (bok_t hs)) hl L hL) (fun q => kf (fun z => q (ee.mpr z)) p l e R s m args below meth c H locs cells slots Z D α τ A hF hN hC hE h1 h2 (bok_t (bok_t hs)) hl L hL)
theorem bw_icmp_ne {x y off : Int} {tgt : Nat} (hd : decode M.1 pc = .ok (.if_icmp .ne off, 3)) (ht : (pc : Int) + off = (tgt : Int)) (kt : ¬ x = y → BW M tgt ls st h Q) (kf : x = y → BW M (pc + 3) ls st h Q) : BW M pc ls ((0, y) :: (0, x) :: st) h Q := by
  intro p l e R s m args below meth c H locs cells slots Z D α τ A hF hN hC hE h1 h2 hs hl L hL
  have hy : InR y := bok_h hs
  have hx : InR x := bok_h (bok_t hs)
  have ee := i32_eq hx hy
  exact lv_icmp_ne hF.1 hF.2.1 hd ht (fun q => kt (fun z => q (ee.mpr z)) p l e R s m args below meth c H locs cells slots Z D α τ A hF hN hC hE h1 h2 (bok_t (bok_t hs)) hl L hL) (fun q => kf (ee.mp q) p l e R s m args below meth c H locs cells slots Z D α τ A hF hN hC hE h1 h2 (bok_t (bok_t hs)) hl L hL)
theorem bw_scoder {i idx : Nat} (hi : i < 2) (hd : decode M.1 pc = .ok (.getfield idx, 3)) (hlk : Cond.fieldLink M.2.2.1 idx "java/lang/String" "coder" "B" ∈ lw_g) (kk : BW M (pc + 3) ls ((0, 0) :: st) h Q) : BW M pc ls (vr (182 + i) :: st) h Q := by
  intro p l e R s m args below meth c H locs cells slots Z D α τ A hF hN hC hE h1 h2 hs hl L hL
  exact vk_getf hF.1 hF.2.1 (hF.2.2.2.2.2.2.2.2.2.2.2.1.1 i hi).2.1 hC.2.2.1 hF.2.2.2.1 (hF.2.2.2.2.1 _ hlk) (fun x hx => hx) hd (kk p l e R s m args below meth c H locs cells slots Z D α τ A hF hN hC hE h1 h2 (bok_c z0 (bok_t hs)) hl L hL)
theorem bw_svalue {i idx : Nat} (hi : i < 2) (hd : decode M.1 pc = .ok (.getfield idx, 3)) (hlk : Cond.fieldLink M.2.2.1 idx "java/lang/String" "value" "[B" ∈ lw_g) (kk : BW M (pc + 3) ls (vr (184 + i) :: st) h Q) : BW M pc ls (vr (182 + i) :: st) h Q := by
  intro p l e R s m args below meth c H locs cells slots Z D α τ A hF hN hC hE h1 h2 hs hl L hL
  exact vk_getf hF.1 hF.2.1 (hF.2.2.2.2.2.2.2.2.2.2.2.1.1 i hi).2.2.1 hC.2.2.1 hF.2.2.2.1 (hF.2.2.2.2.1 _ hlk) (fun x hx => hx) hd (kk p l e R s m args below meth c H locs cells slots Z D α τ A hF hN hC hE h1 h2 (bok_c (bok_big (by omega)) (bok_t hs)) hl L hL)
theorem bw_slen {i : Nat} (hi : i < 2) (hd : decode M.1 pc = .ok (.arraylength, 1)) (kk : BW M (pc + 1) ls ((0, ((strL.getD i 0 : Nat) : Int)) :: st) h Q) : BW M pc ls (vr (184 + i) :: st) h Q := by
  intro p l e R s m args below meth c H locs cells slots Z D α τ A hF hN hC hE h1 h2 hs hl L hL
  have hb : strL.getD i 0 < 200 := by
    have : ∀ i, i < 2 → strL.getD i 0 < 200 := by decide +kernel
    exact this i hi
  exact va_tlen hF.1 hF.2.1 (hF.2.2.2.2.2.2.2.2.2.2.2.1.1 i hi).2.2.2 hC.2.2.1 (Int32.ofInt_eq_ofNat.symm) hd (kk p l e R s m args below meth c H locs cells slots Z D α τ A hF hN hC hE h1 h2 (bok_c (show InR _ from ⟨by omega, by omega⟩) (bok_t hs)) hl L hL)
theorem bw_sbyte {i : Nat} {j : Int} (hi : i < 2) (hd : decode M.1 pc = .ok (.baload, 1)) (hj : 0 ≤ j ∧ j < ((strL.getD i 0 : Nat) : Int)) (kk : BW M (pc + 1) ls ((0, ((strB.getD i []).getD j.toNat 0).toInt) :: st) h Q) : BW M pc ls ((0, j) :: vr (184 + i) :: st) h Q := by
  intro p l e R s m args below meth c H locs cells slots Z D α τ A hF hN hC hE h1 h2 hs hl L hL
  have hb : strL.getD i 0 < 200 := by
    have : ∀ i, i < 2 → strL.getD i 0 < 200 := by decide +kernel
    exact this i hi
  obtain ⟨g1, g2⟩ := i32_in hj (by omega)
  refine va_tb hF.1 hF.2.1 (hF.2.2.2.2.2.2.2.2.2.2.2.1.1 i hi).2.2.2 hC.2.2.1 g1 (v := .int (Int32.ofInt ((strB.getD i []).getD j.toNat 0).toInt)) (by rw [g2, Int32.ofInt_toInt]) hd ?_
  exact kk p l e R s m args below meth c H locs cells slots Z D α τ A hF hN hC hE h1 h2 (bok_c (ir32 _) (bok_t (bok_t hs))) hl L hL
theorem bw_compact {idx : Nat} (hd : decode M.1 pc = .ok (.getstatic idx, 3)) (hlk : Cond.fieldLink M.2.2.1 idx "java/lang/String" "COMPACT_STRINGS" "Z" ∈ lw_g) (kk : BW M (pc + 3) ls ((0, 1) :: st) h Q) : BW M pc ls st h Q := by
  intro p l e R s m args below meth c H locs cells slots Z D α τ A hF hN hC hE h1 h2 hs hl L hL
  exact va_gets hF.1 hF.2.1 hF.2.2.2.2.2.2.2.2.2.2.2.2.1 hC.2.2.1 hF.2.2.2.1 (hF.2.2.2.2.1 _ hlk) (fun x hx => hx) hd (kk p l e R s m args below meth c H locs cells slots Z D α τ A hF hN hC hE h1 h2 (bok_c (show InR 1 from ⟨by decide, by decide⟩) hs) hl L hL)
theorem bw_sioobe {idx : Nat} (hd : decode M.1 pc = .ok (.getstatic idx, 3)) (hlk : Cond.fieldLink M.2.2.1 idx "jdk/internal/util/Preconditions" "SIOOBE_FORMATTER" "Ljava/util/function/BiFunction;" ∈ lw_g) (kk : ∀ z : Int, BW M (pc + 3) ls ((2, z) :: st) h Q) : BW M pc ls st h Q := by
  intro p l e R s m args below meth c H locs cells slots Z D α τ A hF hN hC hE h1 h2 hs hl L hL
  rcases hF.2.2.2.2.2.2.2.2.2.2.2.2.2.1 with g | g
  · exact va_gets hF.1 hF.2.1 g hC.2.2.1 hF.2.2.2.1 (hF.2.2.2.2.1 _ hlk) (fun x hx => hx) hd (kk (Int.negSucc 0) p l e R s m args below meth c H locs cells slots Z D α τ A hF hN hC hE h1 h2 (bok_c trivial hs) hl L hL)
  · exact va_gets hF.1 hF.2.1 g hC.2.2.1 hF.2.2.2.1 (hF.2.2.2.2.1 _ hlk) (fun x hx => hx) hd (kk 186 p l e R s m args below meth c H locs cells slots Z D α τ A hF hN hC hE h1 h2 (bok_c (Or.inr (by decide)) hs) hl L hL)
theorem bw_aloadz_n {k : Fin 4} {i j : Nat} {x : Int} {st : List Vl} (hd : decode M.1 pc = .ok (.aload_n k, 1)) (hi : (k : Nat) = i) (hj : ls[j]? = some (i, (2, x))) (kk : BW M (pc + 1) ls ((2, x) :: st) h Q) : BW M pc ls st h Q := by
  intro p l e R s m args below meth c H locs cells slots Z D α τ A hF hN hC hE h1 h2 hs hl L hL
  have kk2 := kk p l e R s m args below meth c H locs cells slots Z D α τ A hF hN hC hE h1 h2 (bok_c (bls_ok hl hj) hs) hl L hL
  cases x with
  | ofNat a => exact lv_aload_n hF.1 hF.2.1 hd hi (ls_at hL hj) kk2
  | negSucc a => exact lv_aload_nN hF.1 hF.2.1 hd hi (ls_at hL hj) kk2
theorem bw_ireti {x : Int} (hd : decode M.1 pc = .ok (.ireturn, 1)) (hr : M.2.2.2.1 = some .int) (hq : Q (some (0, x)) h) : BW M pc ls [(0, x)] h Q := by
  intro p l e R s m args below meth c H locs cells slots Z D α τ A hF hN hC hE h1 h2 hs hl L hL
  exact hE α (some (0, x)) h H locs cells slots (fun _ _ => rfl) (fun _ q => q) (Nat.le_refl _) (Nat.le_refl _) hC (fun v hv => by cases hv; exact bok_h hs) (Or.inl hr) hq pc L hd
theorem bw_iretz {x : Int} (hd : decode M.1 pc = .ok (.ireturn, 1)) (hr : M.2.2.2.1 = some .boolean) (hz : InZ x) (hq : Q (some (0, x)) h) : BW M pc ls [(0, x)] h Q := by
  intro p l e R s m args below meth c H locs cells slots Z D α τ A hF hN hC hE h1 h2 hs hl L hL
  exact hE α (some (0, x)) h H locs cells slots (fun _ _ => rfl) (fun _ q => q) (Nat.le_refl _) (Nat.le_refl _) hC (fun v hv => by cases hv; exact bok_h hs) (Or.inr (Or.inl ⟨hr, hz⟩)) hq pc L hd
theorem bw_iretc {x : Int} (hd : decode M.1 pc = .ok (.ireturn, 1)) (hr : M.2.2.2.1 = some .char) (hz : 0 ≤ x ∧ x < 65536) (hq : Q (some (0, x)) h) : BW M pc ls [(0, x)] h Q := by
  intro p l e R s m args below meth c H locs cells slots Z D α τ A hF hN hC hE h1 h2 hs hl L hL
  exact hE α (some (0, x)) h H locs cells slots (fun _ _ => rfl) (fun _ q => q) (Nat.le_refl _) (Nat.le_refl _) hC (fun v hv => by cases hv; exact bok_h hs) (Or.inr (Or.inr (Or.inl ⟨hr, hz⟩))) hq pc L hd
theorem bw_iretb {x : Int} (hd : decode M.1 pc = .ok (.ireturn, 1)) (hr : M.2.2.2.1 = some .byte) (hz : InB x) (hq : Q (some (0, x)) h) : BW M pc ls [(0, x)] h Q := by
  intro p l e R s m args below meth c H locs cells slots Z D α τ A hF hN hC hE h1 h2 hs hl L hL
  exact hE α (some (0, x)) h H locs cells slots (fun _ _ => rfl) (fun _ q => q) (Nat.le_refl _) (Nat.le_refl _) hC (fun v hv => by cases hv; exact bok_h hs) (Or.inr (Or.inr (Or.inr ⟨hr, hz⟩))) hq pc L hd
theorem bw_lret {x : Int} (hd : decode M.1 pc = .ok (.lreturn, 1)) (hr : M.2.2.2.1 = some .long) (hq : Q (some (1, x)) h) : BW M pc ls [(1, x)] h Q := by
  intro p l e R s m args below meth c H locs cells slots Z D α τ A hF hN hC hE h1 h2 hs hl L hL
  exact hE α (some (1, x)) h H locs cells slots (fun _ _ => rfl) (fun _ q => q) (Nat.le_refl _) (Nat.le_refl _) hC (fun v hv => by cases hv; exact bok_h hs) hr hq pc L hd
theorem bw_ret (hd : decode M.1 pc = .ok (.return_, 1)) (hr : M.2.2.2.1 = none) (hq : Q none h) : BW M pc ls [] h Q := by
  intro p l e R s m args below meth c H locs cells slots Z D α τ A hF hN hC hE h1 h2 hs hl L hL
  exact hE α none h H locs cells slots (fun _ _ => rfl) (fun _ q => q) (Nat.le_refl _) (Nat.le_refl _) hC (fun v hv => by cases hv) hr hq pc L hd
theorem bw_ldcX (hown : M.2.2.1 = RX8) (hd : decode M.1 pc = .ok (.ldc 48, 2)) (kk : BW M (pc + 2) ls (vr 182 :: st) h Q) : BW M pc ls st h Q := by
  intro p l e R s m args below meth c H locs cells slots Z D α τ A hF hN hC hE h1 h2 hs hl L hL
  exact va_ldcS hF.1 hF.2.1 (own := RX8) (by rw [← hown]; exact hF.2.2.2.1) hF.2.2.2.2.2.2.2.2.2.2.2.2.2.2.1 hd (kk p l e R s m args below meth c H locs cells slots Z D α τ A hF hN hC hE h1 h2 (bok_c (bok_big (by omega)) hs) hl L hL)
end BWR
