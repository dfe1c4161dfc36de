/-! the law from its entry: two constructors, then the loop -/
theorem ml_L_9 : Cond.methodLink RL 9 yX11_init ∈ lw_g := mg1 23 rfl rfl
theorem cyi_X11_init : CYi yX11_init cX11_init 2 0 := ⟨mg1 24 rfl rfl, mg1 1 rfl rfl, mg1 25 rfl rfl, rfl, nc_RX11.1, nc_RX11.2, pd_v0⟩
theorem dv_11 : ∀ j, j < 18 → defaultValue (tyX11 j) = dvl (fk 11 j).1 := fun j hj => by
  rcases (show j = 0 ∨ j = 1 ∨ j = 2 ∨ j = 3 ∨ j = 4 ∨ j = 5 ∨ j = 6 ∨ j = 7 ∨ j = 8 ∨ j = 9 ∨ j = 10 ∨ j = 11 ∨ j = 12 ∨ j = 13 ∨ j = 14 ∨ j = 15 ∨ j = 16 ∨ j = 17 by omega) with rfl | rfl | rfl | rfl | rfl | rfl | rfl | rfl | rfl | rfl | rfl | rfl | rfl | rfl | rfl | rfl | rfl | rfl <;> rfl
theorem ml_L_12 : Cond.methodLink RL 12 yX12_init ∈ lw_g := mg6 149 rfl rfl
theorem cyi_X12_init : CYi yX12_init cX12_init 1 0 := ⟨mg6 150 rfl rfl, mg1 17 rfl rfl, mg6 151 rfl rfl, rfl, nc_RX12.1, nc_RX12.2, pd_v0⟩
theorem dv_12 : ∀ j, j < 44 → defaultValue (tyX12 j) = dvl (fk 12 j).1 := fun j hj => by
  rcases (show j = 0 ∨ j = 1 ∨ j = 2 ∨ j = 3 ∨ j = 4 ∨ j = 5 ∨ j = 6 ∨ j = 7 ∨ j = 8 ∨ j = 9 ∨ j = 10 ∨ j = 11 ∨ j = 12 ∨ j = 13 ∨ j = 14 ∨ j = 15 ∨ j = 16 ∨ j = 17 ∨ j = 18 ∨ j = 19 ∨ j = 20 ∨ j = 21 ∨ j = 22 ∨ j = 23 ∨ j = 24 ∨ j = 25 ∨ j = 26 ∨ j = 27 ∨ j = 28 ∨ j = 29 ∨ j = 30 ∨ j = 31 ∨ j = 32 ∨ j = 33 ∨ j = 34 ∨ j = 35 ∨ j = 36 ∨ j = 37 ∨ j = 38 ∨ j = 39 ∨ j = 40 ∨ j = 41 ∨ j = 42 ∨ j = 43 by omega) with rfl | rfl | rfl | rfl | rfl | rfl | rfl | rfl | rfl | rfl | rfl | rfl | rfl | rfl | rfl | rfl | rfl | rfl | rfl | rfl | rfl | rfl | rfl | rfl | rfl | rfl | rfl | rfl | rfl | rfl | rfl | rfl | rfl | rfl | rfl | rfl | rfl | rfl | rfl | rfl | rfl | rfl | rfl | rfl <;> rfl
theorem xi_of {u : Mem} (f : u 0 0 = 0 ∧ u 0 1 = 0 ∧ u 0 2 = 1 ∧ u 0 12 = 0 ∧ u 0 16 = 0 ∧ u 2 0 = -1 ∧ u 2 1 = -1 ∧ u 2 2 = -1 ∧ u 2 3 = -1 ∧ u 12 0 = 8 ∧ u 12 1 = 10 ∧ u 12 2 = 4 ∧ u 12 3 = 0 ∧ u 12 4 = 1 ∧ u 12 5 = 0 ∧ u 12 6 = 0 ∧ u 13 0 = 0 ∧ u 22 0 = 0 ∧ u 27 0 = 0 ∧ u 27 1 = 0 ∧ u 27 2 = 0 ∧ u 9 1 = 0 ∧ u 9 9 = -1 ∧ u 9 10 = -1 ∧ ∀ i, i < 24 → u 11 i = ((KW i : Nat) : Int)) : XI u := by
  obtain ⟨a0, a1, a2, a3, a4, t0, t1, t2, t3, g0', g1, g2, g3, g4, g5, g6, g7, g8, d0, d1, d2, x1, x2, x3, kw⟩ := f
  refine ⟨a0, a1, a2, a3, a4, fun i hi => ?_, ⟨⟨⟨g0', g1, g2, g3, g4, g6⟩, ⟨g7, fun t ht => absurd ht (by show ¬ (t < 0); omega)⟩, ⟨g8, fun t ht => absurd ht (by show ¬ (t < 0); omega)⟩⟩, g5⟩, ⟨d0, d1, d2⟩, ⟨x1, x2, x3⟩, kw⟩
  rcases (show i = 0 ∨ i = 1 ∨ i = 2 ∨ i = 3 by omega) with rfl | rfl | rfl | rfl
  · exact t0
  · exact t1
  · exact t2
  · exact t3
theorem mi_of {u : Mem} (f : u 161 2 = 0 ∧ u 161 3 = 0 ∧ u 161 4 = 1 ∧ u 161 10 = 0 ∧ u 161 16 = -1 ∧ u 161 17 = -1 ∧ u 161 42 = 0 ∧ u 161 43 = 0 ∧ u 165 0 = -1 ∧ u 165 1 = -1 ∧ u 165 2 = -1 ∧ u 165 3 = -1 ∧ u 162 0 = 0 ∧ u 162 1 = 0 ∧ u 162 2 = 8 ∧ u 162 3 = 10 ∧ u 162 4 = 4 ∧ u 162 5 = 0 ∧ u 162 6 = 0 ∧ u 162 7 = 1 ∧ u 162 8 = 0 ∧ u 162 9 = -1) : MI u := by
  obtain ⟨a0, a1, a2, a3, a4, a5, a6, a7, t0, t1, t2, t3, m0, m1, m2, m3, m4, m5, m6, m7, m8, m9⟩ := f
  refine ⟨a0, a1, a2, a3, a4, a5, a6, a7, fun i hi => ?_, m0, m1, m2, m3, m4, m5, m6, m7, m8, m9⟩
  rcases (show i = 0 ∨ i = 1 ∨ i = 2 ∨ i = 3 by omega) with rfl | rfl | rfl | rfl
  · exact t0
  · exact t1
  · exact t2
  · exact t3
/-- a constructor called where the machine's state is in view -/
theorem W_ctor {y : MethodName} {bt : ByteArray} {nL idx : Nat} {d' : Nat × Nat} {a mc ms : Nat} {Q1 : PostB} {own : String} {cc : ByteArray} {mL : Nat} {p : Program} {l : Launch} {e : Env} {R : Room} {s : State} {m : MethodId} {args : Array Value} {below : List Frame} {meth : Method} {c : Code} {H : Heap} {locs : List Loc} {cells slots : Nat} {Z : State → Prop} {D : va_G} {α : Nat → Nat} {τ : Nat → ClassId} {A : Nat → Prop} {sc : Nat × (Nat → Int)} {b : BM} {pc : Nat} {L : Array Slot} {rest : List Value}
    (hx : p.tables.exec = Jvm.exec) (hb : c.code = cc) (hml : c.maxLocals = mL) (hown : s.vm.findClass own = some m.cls) (hts : ∀ w ∈ lw_g, w.before args s = true) (hK : va_K D vwCl (tyl τ) s) (hA : ∀ q, s.heap.size ≤ q → A q) (hXf : Xf sc α A s) (hnw : NW s) (hC : BCx s D α τ A H locs b) (ha : a ∈ b.1)
    (f : BCt y bt nL none d' [vr a] (b.1, b.2.1, mc, ms) Q1) (hd : decode cc pc = .ok (.invokespecial idx, 3)) (hy : CYi y bt nL 0) (hlk : Cond.methodLink own idx y ∈ lw_g) (hdd : d'.1 + 1 ≤ R.frames) (hnl : 8 + (nL + 11) + d'.2 ≤ R.locals) (hL : L.size = mL) (hs8 : (rest.map fun v => v.category).sum ≤ 8) (hc : cells + mc ≤ R.cells) (hsl : slots + ms ≤ R.slots)
    (kk : ∀ (β : Nat → Nat) (b1 : BM) (H1 : Heap) (locs1 : List Loc) (rv : Option Vl), Q1 rv b1 → (∀ i, i ∈ b.1 ∨ 181 ≤ i → β i = α i) → (∀ i ∈ b.1, i ∈ b1.1) → BCx s D β τ A H1 locs1 b1 → W p l e R s m args below meth c H1 locs1 (cells + mc) (slots + ms) Z (F0 m (pc + 3) L (stE β rv.toList ++ rest))) :
    W p l e R s m args below meth c H locs cells slots Z (F0 m pc L (.ref (α a) :: rest)) := by
  obtain ⟨y1, y3, y4, yn, y5, y6, y7⟩ := hy
  have hw : ∀ w ∈ Cond.code y bt nL none :: lw_g, w ∈ lw_g := fun w hw => by
    rcases List.mem_cons.mp hw with rfl | hw
    · exact y4
    · exact hw
  have cw := cwI (R := R) (s := s) (args := args) (own := own) (index := idx) (y := y) (bytes := bt) (maxL := nL) (rm := rmB d' mc ms) (mc := mc) (ms := ms) 0 hts (goodSub hw) rfl rfl rfl (hts _ y3) (hts _ hlk) (hts _ y1) yn ⟨y5, y6, y7⟩ ⟨hdd, hnl⟩
  have hp : PreS s H (Pgb D α τ H.size [vr a] (b.1, b.2.1, mc, ms)) (.ref (α a) :: []) := ⟨Pgb.blind, fun U hU hW => ⟨rfl, by rw [hU], by rw [hU]; exact hC.1, hK.moved hW.alike, hC.2.1.weaken (fun _ _ _ _ => trivial), hC.2.2.2, fun v hv => by rw [List.mem_singleton.mp hv]; exact Or.inl ha, hXf.next hW (fun q g1 g2 => by rw [hU]; exact hC.2.2.1.2.1 q g1 g2) (bA_sub hA hC), hnw.warm hW⟩⟩
  exact bcall_go (mc := mc) (ms := ms) (b0 := (b.1, b.2.1, mc, ms)) ⟨rfl, rfl⟩ (va_runI (mc := mc) (ms := ms) (As := []) (rest := rest) (b := α a) ⟨hx, hb, hml, hown, hts⟩ (f l D α τ H.size) cw hp rfl rfl hL rfl (by have e0 : (F0 m pc L (.ref (α a) :: rest)).monitorRoom = 0 := rfl; omega) hd ⟨hc, hsl⟩) hA hC (fun β rv b1 H1 locs1 q1 g1 g2 _ q3 => kk β b1 H1 locs1 rv q1 g1 g2 q3)
def h00 : Mem := fun i j => dfl i j
/-! THE CLAIM OUT OF ONE WALK OF THE LAW'S BODY. Your part is whole_start (and what it stands on); all else here is the same for every law, but numbers. -/
def R_law : String := "ForgetStreamLaw"
def lw_P (b : Addr) (xs : List Int32) (args : Array Value) (s : State) : Prop := args = #[.ref b] ∧ s.IntsAt b xs ∧ xs.length ≤ 3072 ∧ (Jvm.Cond.and given_1 narrow_1).before args s = true
def lw_Q (_ : Array Value) (s : State) (o : Outcome) (t : State) : Prop := o = .returned (some (.int 1)) ∧ Framed s o t [] 600000 7302250
def lw_Z (below : List Frame) (a : Array Value) (s : State) : State → Prop := fun t => ∃ o, t.status = .running ∧ Ended t below o ∧ lw_Q a s o t
/-- the law's own end, with 1 on the stack, nothing written that was there before, its room as the claim has it -/
theorem lw_ret {p : Program} {l : Launch} {e : Env} {s : State} {m : MethodId} {below : List Frame} {meth : Method} {c : Code} {b : Nat} (hx : p.tables.exec = Jvm.exec) (hb : c.code = code) (hr : meth.sig.returnType = ret) (hlocks : meth.locks = false) {pc : Nat} {H : Heap} {ls : Array Slot} (hdg : decode code pc = .ok (.ireturn, 1)) : W p l e room_1 s m #[Value.ref b] below meth c H [] 600000 7302250 (lw_Z below #[Value.ref b] s) (F0 m pc ls [.int 1]) := by
  intro T hT X
  obtain ⟨fs, hret, hrun, hended, hW, hframe⟩ := X.leave (v := some (.int 1)) (hlocks := hlocks) (fun h => by rw [hr] at h; cases h)
  have hmeth' : T.vm.method? m = some meth := X.method'
  refine ⟨T.setFrames fs, ?_, .returned (some (.int 1)), hrun, hended, rfl, ⟨_, rfl⟩, hW, hframe⟩
  jvm_step X.here [X.here.top, hx, hb, hdg, hmeth', hr, ret, narrow_b1]
  (try refine ⟨rfl, ?_⟩); (try refine ⟨rfl, ?_⟩)
  first | (intro acts; rw [hret _ acts rfl rfl rfl]) | rw [hret _ _ rfl rfl rfl]
  exact Steps.refl _
/-- what holds at the law's entry: the machine, the code, the tables' words (any of lw_tbl by 'hts w (by decide +kernel)'), the script of L ints xs at the cell b, what the Statement gives of the start (any of its parts by flat_of_before) -/
def lw_At (p : Program) (s : State) (m : MethodId) (meth : Method) (c : Code) (b L : Nat) (xs : Nat → Int32) : Prop :=
  p.tables.exec = Jvm.exec ∧ c.code = code ∧ meth.sig.returnType = ret ∧ c.maxLocals = 4 ∧ s.vm.findClass R_law = some m.cls ∧ (∀ w ∈ lw_tbl, w.before #[Value.ref b] s = true) ∧ va_X b L xs s s.heap ∧ b < s.heap.size ∧ meth.locks = false ∧ (Jvm.Cond.and given_1 narrow_1).before #[Value.ref b] s = true

set_option maxHeartbeats 4000000 in
set_option maxRecDepth 100000 in
theorem whole_start {p : Program} {e : Env} {s : State} {m : MethodId} {below : List Frame} {meth : Method} {c : Code} (l : Launch) (hflags : l.flags = flags0) {b L : Nat} {xs : Nat → Int32} (hL : L ≤ 3072) (C0 : lw_At p s m meth c b L xs) : W p l e room_1 s m #[Value.ref b] below meth c s.heap [] 0 0 (lw_Z below #[Value.ref b] s) (entryFrame m ([Value.ref b] : List Value).toArray 4) := by

  obtain ⟨hx, hb, hr, hml, hown, hts, hX, hbl, hlocks, hgv⟩ := C0
  have hg := hts_g hts
  obtain ⟨D, τ, hK⟩ := K_ex hts
  obtain ⟨α, hα, hXf⟩ := X_ex hts hgv hX hbl hL
  have hnw := NW.top hts
  obtain ⟨A, hAd⟩ : ∃ A : Nat → Prop, A = fun q => s.heap.size ≤ q := ⟨_, rfl⟩
  rw [← hAd] at hXf
  have hA : ∀ q, s.heap.size ≤ q → A q := by rw [hAd]; exact fun q h => h
  have hown : s.vm.findClass RL = some m.cls := hown
  have hl := lv_entry ([.ref b]) (n := 4) (Nat.le_of_ble_eq_true rfl)
  rw [lg_entry_eq]
  generalize (lg_sl ([.ref b]) ++ List.replicate (4 - (lg_sl ([.ref b])).length) Slot.unset).toArray = ls at hl ⊢
  have hl : lv_has ls 4 [(0, .ref b)] := hl
  have P0 : va_P D vwCl ([] : va_W) s.heap := fun k q h => by cases h
  have D0 : va_D A ([] : va_W) := ⟨fun i j p q h => (by cases h), fun k q h => (by cases h)⟩
  have hfs : ∀ (ci N : Nat) (ty : Nat → FieldType), nfl ci = N → (∀ j, j < N → defaultValue (ty j) = dvl (fk ci j).1) → ∀ j, j < N → defaultValue (ty j) = vp_V ((List.range (nfl ci)).map (fun k => dvl (fk ci k).1)) j := fun ci N ty e dvv j hj => by
    rw [dvv j hj]
    unfold vp_V
    rw [List.getD_eq_getElem?_getD, List.getElem?_map, List.getElem?_range (by omega)]
    rfl
  have enN : ∀ (ci n0 q : Nat) (g : Mem) (a1 : Nat → Nat), lay n0 = (0, ci) → entB (upa a1 n0 q) τ (mz g n0) n0 = .inr (ci, (List.range (nfl ci)).map (fun k => dvl (fk ci k).1)) := fun ci n0 q g a1 hl0 => by
    rw [entB_ob hl0]
    have : (fun k => fvalB (upa a1 n0 q) (mz g n0) n0 ci k) = fun k => dvl (fk ci k).1 := funext (fun k => fvalB_mz hl0)
    rw [this]
  have rg0 : Rg h00 := fun i k => dfl_ok _
  refine va_new (ci := 11) (fs := (List.range (nfl 11)).map (fun k => dvl (fk 11 k).1)) (C := RX11) (T := TX11) (N := 18) (own := RL) hx hb hg clk_11.2.1 tyX11 clk_11.2.2.1 hown (hts (Cond.classLink RL 7 RX11) (mt1 21 rfl)) (hts (Cond.instantiable RX11 18) (mt1 22 rfl)) (hts (Cond.initialized RX11) (mt1 1 rfl)) hK P0 D0 va_S.rf hA clk_11.1 (hfs 11 18 tyX11 clk_11.2.2.2.2 dv_11) (Nat.le_of_ble_eq_true rfl) (Nat.le_of_ble_eq_true rfl) dL_law_0 (fun q0 H1 p1 p2 p3 => ?_)
  have cl0 : Cls ([] : List Nat) h00 := fun i hi => by cases hi
  have w1 := wdS_new (α := α) (τ := τ) (S := []) (h := h00) (n := 0) (q := q0) cl0 (by simp) (enN 11 0 q0 h00 α rfl)
  have w1 : ([] : va_W) ++ [(q0, .inr (11, (List.range (nfl 11)).map (fun k => dvl (fk 11 k).1)))] = wdS (upa α 0 q0) τ [0] (mz h00 0) := w1
  rw [w1] at p1 p2
  have C1 : BCx s D (upa α 0 q0) τ A H1 [] ([0], mz h00 0, 0, 0) := ⟨p1, p2, p3, rg0.mz, fun i hi => by rw [List.mem_singleton.mp hi]; exact (by decide : 0 < nOb), Cls.mz (S := []) cl0 (by simp)⟩
  refine lv_dup hx hb dL_law_3 rfl ?_
  have e0 : upa α 0 q0 0 = q0 := upa_at
  have X1 : Xf (L, fun j => (xs j).toInt) (upa α 0 q0) A s := hXf.al (fun i hi => upa_o (by omega))
  have f1 := bc_X11_init (S0 := [0]) (h0 := mz h00 0) (fun i i1 i2 z => by have := List.mem_singleton.mp z; omega)
  have k1 := W_ctor (cells := 0 + 1) (slots := 0 + 18) (Z := lw_Z below #[Value.ref b] s) (rest := [.ref q0]) (L := ls) (pc := 4) hx hb hml hown hg hK hA X1 hnw C1 (List.mem_singleton.mpr rfl) f1 dL_law_4 cyi_X11_init ml_L_9 (Nat.le_of_ble_eq_true rfl) (Nat.le_of_ble_eq_true rfl) hl.1 (Nat.le_of_ble_eq_true rfl) (Nat.le_of_ble_eq_true rfl) (Nat.le_of_ble_eq_true rfl) (l := l) (e := e) (below := below) (meth := meth) (R := room_1)
  rw [e0] at k1
  refine k1 (fun β1 b1 H2 locs2 rv q1 g1 g2 C2 => ?_)
  obtain ⟨S1, h1, y1, y2⟩ := b1
  obtain ⟨rfl, m1, fr1, fl1', xf⟩ := q1
  have m1 : ∀ i, i ∈ S1 ↔ i ∈ [0] ∨ (0 < i ∧ i < 0 + 161) := m1
  have fl1' : ∀ i, 0 ≤ i → i < 0 + 161 → FlagOK h1 i := fl1'
  have in1 : ∀ i, i ∈ S1 ↔ i < 161 := fun i => by rw [m1, List.mem_singleton]; omega
  have b10 : β1 0 = q0 := (g1 0 (Or.inl (List.mem_singleton.mpr rfl))).trans e0
  have big1 : ∀ i, 181 ≤ i → β1 i = α i := fun i hi => (g1 i (Or.inr hi)).trans (upa_o (by omega))
  show W p l e room_1 s m #[Value.ref b] below meth c H2 locs2 _ _ (lw_Z below #[Value.ref b] s) (F0 m 7 ls [.ref q0])
  refine lv_astore_n hx hb (i := 1) (nL := 4) (lv' := [(1, .ref q0), (0, .ref b)]) dL_law_7 rfl hl (by decide) rfl (fun ls1 hl1 => ?_)
  refine va_new (ci := 12) (fs := (List.range (nfl 12)).map (fun k => dvl (fk 12 k).1)) (C := RX12) (T := TX12) (N := 44) (own := RL) hx hb hg clk_12.2.1 tyX12 clk_12.2.2.1 hown (hts (Cond.classLink RL 10 RX12) (mt6 147 rfl)) (hts (Cond.instantiable RX12 44) (mt6 148 rfl)) (hts (Cond.initialized RX12) (mt1 17 rfl)) hK C2.1 C2.2.1 C2.2.2.1 hA clk_12.1 (hfs 12 44 tyX12 clk_12.2.2.2.2 dv_12) (Nat.le_of_ble_eq_true rfl) (Nat.le_of_ble_eq_true rfl) dL_law_8 (fun q6 H3 p1 p2 p3 => ?_)
  have n161 : 161 ∉ S1 := fun z => by have := (in1 161).mp z; omega
  have w2 := wdS_new (α := β1) (τ := τ) (S := S1) (h := h1) (n := 161) (q := q6) C2.2.2.2.2.2 n161 (enN 12 161 q6 h1 β1 rfl)
  have p1 : va_P D vwCl (wdS β1 τ S1 h1 ++ [(q6, .inr (12, (List.range (nfl 12)).map (fun k => dvl (fk 12 k).1)))]) H3 := p1
  have p2 : va_D A (wdS β1 τ S1 h1 ++ [(q6, .inr (12, (List.range (nfl 12)).map (fun k => dvl (fk 12 k).1)))]) := p2
  rw [w2] at p1 p2
  have C3 : BCx s D (upa β1 161 q6) τ A H3 locs2 (S1 ++ [161], mz h1 161, 0, 0) := ⟨p1, p2, p3, Rg.mz (h := h1) C2.2.2.2.1, fun i hi => by
    rcases List.mem_append.mp hi with z | z
    · exact C2.2.2.2.2.1 i z
    · rw [List.mem_singleton.mp z]; exact (by decide : 161 < nOb), Cls.mz (S := S1) (h := h1) C2.2.2.2.2.2 n161⟩
  refine lv_dup hx hb dL_law_11 rfl ?_
  have e6 : upa β1 161 q6 161 = q6 := upa_at
  have X3 : Xf (L, fun j => (xs j).toInt) (upa β1 161 q6) A s := hXf.al (fun i hi => (upa_o (by omega)).trans (big1 i hi))
  have f2 := bc_X12_init (S0 := S1 ++ [161]) (h0 := mz h1 161) (fun i i1 i2 z => by
    rcases List.mem_append.mp z with z | z
    · have := (in1 i).mp z; omega
    · have := List.mem_singleton.mp z; omega) (fun i hi => by
    by_cases c : i = 161
    · rw [c]; exact List.mem_append_right _ (List.mem_singleton.mpr rfl)
    · exact List.mem_append_left _ ((in1 i).mpr (by omega))) (fun i hi => (fl1' i (by omega) (by omega)).fr (fun k => mz_o (by omega))) (fun k => mz_at)
  have k2 := W_ctor (cells := 0 + 1 + 160 + 1) (slots := 0 + 18 + 4009 + 44) (Z := lw_Z below #[Value.ref b] s) (rest := [.ref q6]) (L := ls1) (pc := 12) hx hb hml hown hg hK hA X3 hnw C3 (List.mem_append_right _ (List.mem_singleton.mpr rfl)) f2 dL_law_12 cyi_X12_init ml_L_12 (Nat.le_of_ble_eq_true rfl) (Nat.le_of_ble_eq_true rfl) hl1.1 (Nat.le_of_ble_eq_true rfl) (Nat.le_of_ble_eq_true rfl) (Nat.le_of_ble_eq_true rfl) (l := l) (e := e) (below := below) (meth := meth) (R := room_1)
  rw [e6] at k2
  refine k2 (fun β3 b3 H4 locs4 rv q3 g3 g4 C4 => ?_)
  obtain ⟨S4, h4, y3, y4⟩ := b3
  obtain ⟨rfl, m4, fr4, fl4, xm⟩ := q3
  have m4 : ∀ i, i ∈ S4 ↔ i ∈ S1 ++ [161] ∨ (161 < i ∧ i < 161 + 20) := m4
  have fr4 : ∀ i, ¬ (161 ≤ i ∧ i < 161 + 20) → ∀ k, h4 i k = mz h1 161 i k := fr4
  have fl4 : ∀ i, 161 ≤ i → i < 161 + 20 → FlagOK h4 i := fl4
  have low : ∀ i, i < 161 → ∀ k, h4 i k = h1 i k := fun i hi k => (fr4 i (by omega) k).trans (mz_o (by omega))
  have b30 : β3 0 = q0 := by
    rw [g3 0 (Or.inl (List.mem_append_left _ ((in1 0).mpr (by omega)))), upa_o (by omega)]; exact b10
  have b36 : β3 161 = q6 := by rw [g3 161 (Or.inl (List.mem_append_right _ (List.mem_singleton.mpr rfl)))]; exact e6
  have big3 : ∀ i, 181 ≤ i → β3 i = α i := fun i hi => (g3 i (Or.inr hi)).trans ((upa_o (by omega)).trans (big1 i hi))
  show W p l e room_1 s m #[Value.ref b] below meth c H4 locs4 _ _ (lw_Z below #[Value.ref b] s) (F0 m 15 ls1 [.ref q6])
  refine lv_astore_n hx hb (i := 2) (nL := 4) (lv' := [(2, .ref q6), (1, .ref q0), (0, .ref b)]) dL_law_15 rfl hl1 (by decide) rfl (fun ls2 hl2 => ?_)
  have iv : Iv h4 := by
    refine iv_ini (xi_of ?_) (mi_of xm)
    obtain ⟨a0, a1, a2, a3, a4, t0, t1, t2, t3, c0, c1, c2, c3, c4, c5, c6, c7, c8, d0, d1, d2, x1, x2, x3, kw⟩ := xf
    have t : ∀ (i k : Nat) (v : Int), i < 161 → h1 i k = v → h4 i k = v := fun i k v hi hv => (low i hi k).trans hv
    exact ⟨t 0 0 _ (by omega) a0, t 0 1 _ (by omega) a1, t 0 2 _ (by omega) a2, t 0 12 _ (by omega) a3, t 0 16 _ (by omega) a4, t 2 0 _ (by omega) t0, t 2 1 _ (by omega) t1, t 2 2 _ (by omega) t2, t 2 3 _ (by omega) t3, t 12 0 _ (by omega) c0, t 12 1 _ (by omega) c1, t 12 2 _ (by omega) c2, t 12 3 _ (by omega) c3, t 12 4 _ (by omega) c4, t 12 5 _ (by omega) c5, t 12 6 _ (by omega) c6, t 13 0 _ (by omega) c7, t 22 0 _ (by omega) c8, t 27 0 _ (by omega) d0, t 27 1 _ (by omega) d1, t 27 2 _ (by omega) d2, t 9 1 _ (by omega) x1, t 9 9 _ (by omega) x2, t 9 10 _ (by omega) x3, fun i hi => t 11 i _ (by omega) (kw i hi)⟩
  have ful : ∀ i, i < nOb → i ∈ S4 := fun i hi => by
    have hi : i < 181 := hi
    rw [m4]
    by_cases c : i < 161
    · exact Or.inl (List.mem_append_left _ ((in1 i).mpr c))
    · by_cases c2 : i = 161
      · rw [c2]; exact Or.inl (List.mem_append_right _ (List.mem_singleton.mpr rfl))
      · exact Or.inr (by omega)
  have flg : ∀ i, i < nOb → FlagOK h4 i := fun i hi => by
    have hi : i < 181 := hi
    by_cases c : i < 161
    · exact (fl1' i (by omega) (by omega)).fr (fun k => low i c k)
    · exact fl4 i (by omega) (by omega)
  have Cf := full_of C4 ful flg
  have hsz : ∀ {locs : List Loc} {H : Heap}, va_S A s.heap H locs → ∀ q ∈ locs, s.heap.size ≤ q.base := fun hS q hq => by
    have := hS.2.2 q hq
    rw [hAd] at this
    exact this
  by_cases L0 : L = 0
  · subst L0
    refine lv_iconst hx hb dL_law_16 rfl ?_
    refine lv_istore_n hx hb (i := 3) (nL := 4) (lv' := [(3, .int 0), (2, .ref q6), (1, .ref q0), (0, .ref b)]) dL_law_17 rfl hl2 (by decide) rfl (fun ls3 hl3 => ?_)
    refine lv_iload_n hx hb dL_law_18 rfl (lv_at hl3 0 rfl) ?_
    refine lv_aload_n hx hb dL_law_19 rfl (lv_at hl3 3 rfl) ?_
    refine va_slen hx hb hX hbl (fun z => by rw [hAd] at z; have z : s.heap.size ≤ b := z; omega) C4.2.2.1 dL_law_20 ?_
    refine lv_bipush hx hb dL_law_21 rfl ?_
    refine lv_isub hx hb dL_law_23 ?_
    refine lv_icmp_gt hx hb dL_law_24 (tgt := 1922) rfl (fun _ => ?_) (fun z => absurd (by decide) z)
    refine lv_iconst hx hb dL_law_1922 rfl ?_
    refine va_forget (hsz C4.2.2.1) (W.widen (k := 600000) (n := 7302250) (Nat.le_of_ble_eq_true rfl) (Nat.le_of_ble_eq_true rfl) ?_)
    exact lw_ret hx hb hr hlocks dL_law_1923
  · have pos : 0 < L := by omega
    obtain ⟨sc, hsc⟩ : ∃ sc : Nat × (Nat → Int), sc = (L, fun j => (xs j).toInt) := ⟨_, rfl⟩
    have s1 : sc.1 = L := by rw [hsc]
    have aw : AW (M_L_law sc) 16 [(2, vr 161), (1, vr 0), (0, vr 181)] [] h4 (qi (fun r _ => r = 1)) := by
      refine aw_iconst (M := M_L_law sc) (pc := 16) dL_law_16 ⟨by decide, by decide⟩ ?_
      refine aw_istore_n (ls' := [(3, (0, 0)), (2, vr 161), (1, vr 0), (0, vr 181)]) (M := M_L_law sc) (pc := 17) dL_law_17 rfl (Nat.le_of_ble_eq_true rfl) rfl ?_
      refine aw_ls [3, 2, 1, 0] rfl ?_
      exact law_loop (by rw [s1]; exact pos) (by rw [s1]; exact hL) (fun j => by rw [hsc]; exact ir32 _) L 0 h4 0 rfl (by rw [s1]; omega) iv
    have hF : Fx (M_L_law sc) p room_1 s m #[Value.ref b] meth c D β3 τ A := ⟨hx, hb, hml, hown, hg, hK, Nat.le_of_ble_eq_true rfl, Nat.le_of_ble_eq_true rfl, hr, hlocks, hA, by
      show Xf sc β3 A s
      rw [hsc]; exact hXf.al big3⟩
    refine aw p l e room_1 s m #[Value.ref b] below meth c H4 locs4 _ _ (lw_Z below #[Value.ref b] s) D β3 τ A hF Cf (fun rv u H5 locs5 hC5 hok hret hq pc Lr hd => ?_) (Nat.le_of_ble_eq_true rfl) (Nat.le_of_ble_eq_true rfl) (fun v hv => by cases hv) (fun q hq => ?_) ls2 ?_
    · obtain ⟨x, rfl, hx1⟩ := hq
      have hx1 : x = 1 := hx1
      subst hx1
      refine va_forget (hsz hC5.2.2.1) (W.widen (k := 600000) (n := 7302250) (Nat.le_of_ble_eq_true rfl) (Nat.le_of_ble_eq_true rfl) ?_)
      exact lw_ret hx hb hr hlocks hd
    · have : okV q.2 := by
        simp only [List.mem_cons, List.not_mem_nil, or_false] at hq
        rcases hq with rfl | rfl | rfl <;> exact trivial
      exact this
    · have e3 : lsE β3 [(2, vr 161), (1, vr 0), (0, vr 181)] = [(2, .ref q6), (1, .ref q0), (0, .ref b)] := by
        show [(2, Value.ref (β3 161)), (1, Value.ref (β3 0)), (0, Value.ref (β3 181))] = _
        rw [b36, b30, big3 181 (by omega), hα]
      rw [e3]
      exact hl2
