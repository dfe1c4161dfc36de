/-! the reference's constructor: its last step, plain(0), runs when all objects are there -/
def PLN (h u : Mem) : Prop := (u 162 0 = 0 ∧ u 162 1 = 0 ∧ u 162 2 = 8 ∧ u 162 3 = 10 ∧ u 162 4 = 4 ∧ u 162 5 = 0 ∧ u 162 6 = 0 ∧ u 162 7 = 1 ∧ u 162 8 = 0 ∧ u 162 9 = -1) ∧ ∀ i k, ¬ (i = 162 ∧ k < 448) → u i k = h i k
theorem q_plain0 {h : Mem} {Q : Mem → Prop} (hQ : ∀ u, (u 162 0 = 0 ∧ u 162 1 = 0 ∧ u 162 2 = 8 ∧ u 162 3 = 10 ∧ u 162 4 = 4 ∧ u 162 5 = 0 ∧ u 162 6 = 0 ∧ u 162 7 = 1 ∧ u 162 8 = 0 ∧ u 162 9 = -1) → (∀ i k, ¬ (i = 162 ∧ k < 448) → u i k = h i k) → Q u) : F_X12_plain h 0 Q := by
  unfold F_X12_plain
  have key : ∀ (m i : Nat) (z : Int) (u : Mem), i + m = 448 → z = (i : Int) → (∀ k, k < i → u 162 k = 0) → (∀ j k, ¬ (j = 162 ∧ k < 448) → u j k = h j k) → L_X12_plain_2 u 0 z Q := by
    intro m
    induction m with
    | zero =>
      intro i z u hi hz row f
      subst hz
      obtain rfl : i = 448 := by omega
      refine l_X12_plain_2 ?_
      unfold B_X12_plain_2
      refine ⟨fun _ => ⟨⟨by omega, by omega⟩, ⟨by omega, by omega⟩, fun h3 e3 => ⟨⟨by omega, by omega⟩, ⟨by omega, by omega⟩, fun h6 e6 => ⟨⟨by omega, by omega⟩, ⟨by omega, by omega⟩, fun h9 e9 => ⟨⟨by omega, by omega⟩, ⟨by omega, by omega⟩, fun h12 e12 => ⟨⟨by omega, by omega⟩, ⟨by omega, by omega⟩, fun h15 e15 => ?_⟩⟩⟩⟩⟩, fun z => absurd (by omega) z⟩
      have e3 : h3 = mset u 162 2 8 := e3
      have e6 : h6 = mset h3 162 3 10 := e6
      have e9 : h9 = mset h6 162 4 4 := e9
      have e12 : h12 = mset h9 162 7 1 := e12
      have e15 : h15 = mset h12 162 9 (-1) := e15
      have c : ∀ k, k < 448 → k ≠ 2 → k ≠ 3 → k ≠ 4 → k ≠ 7 → k ≠ 9 → h15 162 k = 0 := fun k k1 n1 n2 n3 n4 n5 => by
        rw [e15, mset_k n5, e12, mset_k n4, e9, mset_k n3, e6, mset_k n2, e3, mset_k n1]
        exact row k k1
      refine hQ h15 ⟨c 0 (by omega) (by omega) (by omega) (by omega) (by omega) (by omega), c 1 (by omega) (by omega) (by omega) (by omega) (by omega) (by omega), ?_, ?_, ?_, c 5 (by omega) (by omega) (by omega) (by omega) (by omega) (by omega), c 6 (by omega) (by omega) (by omega) (by omega) (by omega) (by omega), ?_, c 8 (by omega) (by omega) (by omega) (by omega) (by omega) (by omega), ?_⟩ (fun j k p => ?_)
      · rw [e15, mset_k (by omega), e12, mset_k (by omega), e9, mset_k (by omega), e6, mset_k (by omega), e3, mset_at]
      · rw [e15, mset_k (by omega), e12, mset_k (by omega), e9, mset_k (by omega), e6, mset_at]
      · rw [e15, mset_k (by omega), e12, mset_k (by omega), e9, mset_at]
      · rw [e15, mset_k (by omega), e12, mset_at]
      · rw [e15, mset_at]
      · rw [e15, mset_o (by omega), e12, mset_o (by omega), e9, mset_o (by omega), e6, mset_o (by omega), e3, mset_o (by omega)]
        exact f j k p
    | succ m ih =>
      intro i z u hi hz row f
      subst hz
      refine l_X12_plain_2 ?_
      unfold B_X12_plain_2
      refine ⟨fun z => absurd z (by omega), fun _ => ⟨⟨by omega, by omega⟩, ⟨by omega, by omega⟩, fun h18 e18 => ⟨⟨by omega, by omega⟩, ih (i + 1) _ h18 (by omega) (by omega) (fun k hk => ?_) (fun j k p => ?_)⟩⟩⟩
      · rw [e18, show (0 + (i : Int)).toNat = i by omega]
        by_cases c : k = i
        · subst c; rw [mset_at]
        · rw [mset_k c]; exact row k (by omega)
      · rw [e18, show (0 + (i : Int)).toNat = i by omega, mset_o (by omega)]; exact f j k p
  exact key 448 0 0 h (by omega) rfl (fun k hk => absurd hk (by omega)) (fun _ _ _ => rfl)
/-- the world is whole -/
theorem va_P_iff {D : va_G} {cl : List vw_C} {ws : va_W} {H : Heap} : va_P D cl ws H ↔ ∀ q ∈ ws, va_at D cl q H := ⟨fun h q hq => by obtain ⟨k, hk⟩ := List.getElem?_of_mem hq; exact h k q hk, fun h k q hk => h q (List.mem_of_getElem? hk)⟩
theorem fvalB_full {α : Nat → Nat} {h : Mem} {i c k : Nat} (hf : 4 ≤ (fk c k).1 → h i k = 1) : fvalB α h i c k = fval α h i c k := by
  unfold fvalB fval
  generalize fk c k = q at hf
  obtain ⟨t, y⟩ := q
  match t with
  | 0 => rfl
  | 1 => rfl
  | 2 => rfl
  | 3 => rfl
  | t + 4 =>
    show (if h i k = 1 then Value.ref (α (i + y)) else .null) = Value.ref (α (i + y))
    rw [if_pos (hf (show 4 ≤ t + 4 by omega))]
theorem at_full {D : va_G} {α : Nat → Nat} {τ : Nat → ClassId} {h : Mem} {i : Nat} {H : Heap} (fl : FlagOK h i) (a : Nat) : va_at D vwCl (a, entB α τ h i) H ↔ va_at D vwCl (a, ent α τ h i) H := by
  cases hl : lay i with
  | mk t n =>
    have arr : ∀ (b : Nat → Nat) (cA : ClassId), (5 ≤ t) → vp_cell cA (n, .inr (.inr (.inr (.inr (fun j => if h i j = 1 then some (α (b j)) else none))))) = vp_cell cA (n, .inr (.inr (.inr (.inr (fun j => some (α (b j))))))) := fun b cA h5 => by
      rw [vp_cell_q, vp_cell_q]
      unfold arrV
      congr 1
      apply Array.ext
      · simp
      · intro j h1 h2
        have hj : j < n := by simpa using h1
        simp only [Array.getElem_ofFn]
        rw [if_pos (fl.2 t n hl h5 j hj)]
    match t with
    | 0 =>
      have e : entB α τ h i = ent α τ h i := by
        rw [entB_ob hl, ent_ob hl]
        have : ∀ k ∈ List.range (nfl n), fvalB α h i n k = fval α h i n k := fun k hk => fvalB_full (fl.1 n hl k (List.mem_range.mp hk))
        rw [List.map_congr_left this]
      rw [e]
    | 1 => rw [entB_i hl, ent_i hl]
    | 2 => rw [entB_l hl, ent_l hl]
    | 3 => rw [entB_b hl, ent_b hl]
    | 4 => rw [entB_z hl, ent_z hl]
    | 5 =>
      rw [entB_5 hl, ent_5 hl]
      show H[a]? = some (vp_cell _ _) ↔ H[a]? = some (vp_cell _ _)
      rw [arr (fun j => i + 1 + 15 * j) _ (by omega)]
    | 6 =>
      rw [entB_6 hl, ent_6 hl]
      show H[a]? = some (vp_cell _ _) ↔ H[a]? = some (vp_cell _ _)
      rw [arr (fun j => i + 1 + 6 * j) _ (by omega)]
    | u + 7 =>
      have e1 : entB α τ h i = .inl (τ 6, n, .inr (.inr (.inr (.inr (fun j => if h i j = 1 then some (α (i + 1 + 1 * j)) else none))))) := by unfold entB; rw [hl]; rfl
      have e2 : ent α τ h i = .inl (τ 6, n, .inr (.inr (.inr (.inr (fun j => some (α (i + 1 + 1 * j))))))) := by unfold ent; rw [hl]; rfl
      rw [e1, e2]
      show H[a]? = some (vp_cell _ _) ↔ H[a]? = some (vp_cell _ _)
      rw [arr (fun j => i + 1 + 1 * j) _ (by omega)]
theorem full_of {s : State} {D : va_G} {α : Nat → Nat} {τ : Nat → ClassId} {A : Nat → Prop} {H : Heap} {locs : List Loc} {b : BM} (hC : BCx s D α τ A H locs b) (ful : ∀ i, i < nOb → i ∈ b.1) (flg : ∀ i, i < nOb → FlagOK b.2.1 i) : Cx s D α τ A H locs b.2.1 := by
  have at_ : ∀ i, i < nOb → va_at D vwCl (α i, entB α τ b.2.1 i) H := fun i hi => by
    obtain ⟨k, -, hk⟩ := wdS_mem (α := α) (τ := τ) (h := b.2.1) (ful i hi)
    exact hC.1 k _ hk
  have wk : ∀ (k : Nat) (q : Nat × va_E), (wd α τ b.2.1)[k]? = some q → k < nOb ∧ q = (α k, ent α τ b.2.1 k) := fun k q hk => by
    have lt : k < nOb := by
      rcases Nat.lt_or_ge k nOb with z | z
      · exact z
      · rw [List.getElem?_eq_none (by rw [wd_len]; exact z)] at hk; cases hk
    rw [wd_get lt] at hk
    exact ⟨lt, (Option.some.inj hk).symm⟩
  refine ⟨fun k q hk => ?_, ⟨fun i j p q hp hq e => ?_, fun k q hk => ?_⟩, hC.2.2.1, hC.2.2.2.1⟩
  · obtain ⟨lt, rfl⟩ := wk k q hk
    exact (at_full (flg k lt) _).mp (at_ k lt)
  · obtain ⟨l1, rfl⟩ := wk i p hp
    obtain ⟨l2, rfl⟩ := wk j q hq
    obtain ⟨k1, g1, w1⟩ := wdS_mem (α := α) (τ := τ) (h := b.2.1) (ful i l1)
    obtain ⟨k2, g2, w2⟩ := wdS_mem (α := α) (τ := τ) (h := b.2.1) (ful j l2)
    have := hC.2.1.1 k1 k2 _ _ w1 w2 e
    subst this
    exact Option.some.inj (g1.symm.trans g2)
  · obtain ⟨lt, rfl⟩ := wk k q hk
    obtain ⟨k1, -, w1⟩ := wdS_mem (α := α) (τ := τ) (h := b.2.1) (ful k lt)
    have z := hC.2.1.2 k1 _ w1
    exact z
theorem full_back {s : State} {D : va_G} {α : Nat → Nat} {τ : Nat → ClassId} {A : Nat → Prop} {H H1 : Heap} {locs locs1 : List Loc} {b : BM} {u : Mem} (hC : BCx s D α τ A H locs b) (flg : ∀ i, i < nOb → FlagOK u i) (cl : Cls b.1 u) (hX : Cx s D α τ A H1 locs1 u) : BCx s D α τ A H1 locs1 (b.1, u, b.2.2) := by
  refine ⟨fun k q hk => ?_, ⟨fun i j p q hp hq e => ?_, fun k q hk => ?_⟩, hX.2.2.1, hX.2.2.2, hC.2.2.2.2.1, cl⟩
  · obtain ⟨i, hi, rfl⟩ := wdS_at hk
    have lt := hC.2.2.2.2.1 i (List.mem_of_getElem? hi)
    exact (at_full (flg i lt) _).mpr (hX.1 i _ (wd_get lt))
  · obtain ⟨x, hx, rfl⟩ := wdS_at hp
    obtain ⟨y, hy, rfl⟩ := wdS_at hq
    have p1 : (wdS α τ b.1 b.2.1)[i]? = some (α x, entB α τ b.2.1 x) := by
      unfold wdS
      rw [List.getElem?_map, show b.1[i]? = some x from hx]
      rfl
    have p2 : (wdS α τ b.1 b.2.1)[j]? = some (α y, entB α τ b.2.1 y) := by
      unfold wdS
      rw [List.getElem?_map, show b.1[j]? = some y from hy]
      rfl
    exact hC.2.1.1 i j _ _ p1 p2 (show α x = α y from e)
  · obtain ⟨i, hi, rfl⟩ := wdS_at hk
    have lt := hC.2.2.2.2.1 i (List.mem_of_getElem? hi)
    have z := hX.2.1.2 i _ (wd_get lt)
    exact z
section BWA
variable {M : Hd} {pc : Nat} {ls : LoS} {h : BM} {Q : PostB}
/-- a call of a method of the whole world -/
theorem bw_callA {y : MethodName} {b : ByteArray} {nL idx : Nat} {d' : Nat × Nat} {as st st0 : List Vl} {a : Nat} {Q1 : PostV} (f : Ct y b nL none d' (vr a :: as) h.2.1 Q1) (hd : decode M.1 pc = .ok (.invokevirtual idx, 3)) (hst : as.reverse ++ vr a :: st = st0) (hrc : Rcv y.cls a) (hy : CY y b nL none as.length) (hlk : Cond.methodLink M.2.2.1 idx y ∈ lw_g) (hdd : d'.1 + 1 ≤ M.2.2.2.2.1.1) (hnl : 8 + (nL + 11) + d'.2 ≤ M.2.2.2.2.1.2) (hs8 : (st.map wdV).sum ≤ 8)
    (ful : ∀ i, i < nOb → i ∈ h.1) (flg : ∀ i, i < nOb → FlagOK h.2.1 i) (hq : ∀ rv u, Q1 rv u → (∀ i, i < nOb → FlagOK u i) ∧ (Cls h.1 h.2.1 → Cls h.1 u)) (kk : ∀ rv u, Q1 rv u → rv = none → BW M (pc + 3) ls st (h.1, u, h.2.2) Q) (hnone : ∀ rv u, Q1 rv u → rv = none) : BW M pc ls st0 h Q := by
  intro p l e R s m args below meth c H locs cells slots Z D α τ A hF hN hC hE h1 h2 hs hl L hL
  obtain ⟨bs1, bs2⟩ := bargs_split hst hs
  have as1 : ∀ u ∈ vr a :: as, okV u := fun u hu => by
    have q := bs1 u hu
    obtain ⟨t, x⟩ := u
    match t with
    | 0 => exact q
    | 1 => exact q
    | t + 2 => exact trivial
  subst hst
  have hC' := full_of hC ful flg
  obtain ⟨y1, y2, y3, y4, y5, y6, y7⟩ := hy
  have hA := hF.2.2.2.2.2.2.2.2.2.2.1
  have hts := hF.2.2.2.2.1
  have hfr := hF.2.2.2.2.2.2.1
  have hlo := hF.2.2.2.2.2.2.2.1
  have hw : ∀ w ∈ wsV M.2.2.1 idx y.cls y (Cond.code y b nL none :: lw_g), w ∈ lw_g := by
    intro w hw
    simp only [wsV, List.cons_append, List.nil_append, List.mem_cons] at hw
    rcases hw with rfl | rfl | rfl | rfl | rfl | hw
    · exact hlk
    · exact y1
    · exact y2
    · exact y3
    · exact y4
    · exact hw
  have cw : CallW R s args M.2.2.1 y.cls idx y b nL none (Cond.code y b nL none :: lw_g) (rmD d') 0 0 as.length := cwV as.length hts (goodSub hw) rfl rfl rfl ⟨rfl, y5, y6, y7⟩ ⟨Nat.le_trans hdd hfr, Nat.le_trans hnl hlo⟩
  have hrcv : ∃ cell : Cell, H[α a]? = some cell ∧ cell.vm.isStatics = false ∧ s.vm.findClass y.cls = some cell.cls := by
    rcases hrc with ⟨ci, T, N, r1, r2⟩ | ⟨r1, r2⟩
    · exact va_recv (q := (y.cls, T, N)) (q0 := a) hF.2.2.2.2.2.1 hC'.1 r2 (by rw [wd_get (lay_lt r1 (by omega)), ent_ob r1])
    · rw [r1]
      rcases r2 with rfl | rfl
      · exact vk_recv (i := 0) hF.2.2.2.2.2.2.2.2.2.2.2.1 (by omega) hC.2.2.1
      · exact vk_recv (i := 1) hF.2.2.2.2.2.2.2.2.2.2.2.1 (by omega) hC.2.2.1
  have hp : PreV s H y.cls (α a) (Pg D α τ H.size (vr a :: as) h.2.1) (stE α as) := ⟨Pg.blind, hrcv, fun U hU hW => ⟨rfl, by rw [hU], by rw [hU]; exact hC'.1, hF.2.2.2.2.2.1.moved hW.alike, hC'.2.1.weaken (fun _ _ _ _ => trivial), hC'.2.2.2, as1, hF.2.2.2.2.2.2.2.2.2.2.2.next hW (fun q g1 g2 => by rw [hU]; exact hC'.2.2.1.2.1 q g1 g2) (A_sub hA hC')⟩⟩
  refine call_go (va_runV (As := stE α as) (rest := stE α st) (b := α a) ⟨hF.1, hF.2.1, hF.2.2.1, hF.2.2.2.1, hts⟩ (f l D α τ H.size) cw hp rfl (by simp) hL.1 (by simp [stE, List.map_append, List.map_reverse]; rfl) (lv_room (by rw [sum_wd]; exact hs8)) hd ⟨by omega, by omega⟩) hA hC' (fun rv u H1 locs1 q1 q2 q3 => ?_)
  have nn := hnone rv u q1
  subst nn
  obtain ⟨f2, c2⟩ := hq none u q1
  exact kk none u q1 rfl p l e R s m args below meth c H1 locs1 cells slots Z D α τ A hF hN (full_back hC f2 (c2 hC.2.2.2.2.2) q3) hE h1 h2 bs2 hl L hL
end BWA
theorem ml_X12_1 : Cond.methodLink RX12 1 Lib.objectInit ∈ lw_g := mg6 152 rfl rfl
abbrev M_X12_init : Hd := (cX12_init, 1, RX12, none, (2, 67), sc1)
set_option maxRecDepth 100000 in
set_option maxHeartbeats 4000000 in
theorem bc_X12_init {S0 : List Nat} {h0 : Mem} (fr : ∀ i, 161 < i → i < 161 + 20 → i ∉ S0) (hS0 : ∀ i, i < 162 → i ∈ S0) (hx0 : ∀ i, i < 161 → FlagOK h0 i) (hz : ∀ k, h0 161 k = dfl 161 k) : BCt yX12_init cX12_init 1 none (2, 67) [vr 161] (S0, h0, 19, 11821) (CP 161 20 S0 h0 (fun u => u 161 2 = 0 ∧ u 161 3 = 0 ∧ u 161 4 = 1 ∧ u 161 10 = 0 ∧ u 161 16 = (-1) ∧ u 161 17 = (-1) ∧ u 161 42 = 0 ∧ u 161 43 = 0 ∧ u 165 0 = (-1) ∧ u 165 1 = (-1) ∧ u 165 2 = (-1) ∧ u 165 3 = (-1) ∧ u 162 0 = 0 ∧ u 162 1 = 0 ∧ u 162 2 = 8 ∧ u 162 3 = 10 ∧ u 162 4 = 4 ∧ u 162 5 = 0 ∧ u 162 6 = 0 ∧ u 162 7 = 1 ∧ u 162 8 = 0 ∧ u 162 9 = (-1))) := by
  refine BCt.of (Or.inr ⟨rfl, rfl⟩) np_RX12 (Nat.le_of_ble_eq_true rfl) ?_
  show BW M_X12_init 0 [(0, vr 161)] [] (S0, h0, 19, 11821) _
  refine bw_aload_n (j := 0) (M := M_X12_init) (pc := 0) dX12_init_0 rfl rfl ?_
  refine bw_objInit (st := []) (M := M_X12_init) (pc := 1) dX12_init_1 ml_X12_1 ⟨Nat.le_of_ble_eq_true rfl, Nat.le_of_ble_eq_true rfl⟩ (by decide) ?_
  refine bw_aload_n (j := 0) (M := M_X12_init) (pc := 4) dX12_init_4 rfl rfl ?_
  refine bw_sipush (M := M_X12_init) (pc := 5) dX12_init_5 ⟨rfl, ⟨by decide, by decide⟩⟩ ?_
  refine bw_newi (n := 3008) (n0 := 162) (M := M_X12_init) (pc := 8) dX12_init_8 ac_int rfl rfl (fr _ (by omega) (by omega)) ⟨Nat.le_of_ble_eq_true rfl, Nat.le_of_ble_eq_true rfl⟩ (Nat.le_of_ble_eq_true rfl) ?_
  show BW M_X12_init 10 [(0, vr 161)] [vr 162, vr 161] (S0 ++ [162], mz h0 162, 18, 8813) _
  generalize eh1 : mz h0 162 = h1
  generalize eS1 : S0 ++ [162] = S1
  have m1 : ∀ i, i ∈ S1 ↔ i ∈ S0 ∨ i = 162 := fun i => by rw [← eS1, List.mem_append, List.mem_singleton]
  refine bw_putF (a := 161) (b := 162) (q := 1) (M := M_X12_init) (pc := 10) clk_12 rfl dX12_init_10 rfl (k := 0) (by decide) fl_X12_7 rfl rfl (fun a => rfl) (fun a => rfl) rfl rfl ?_
  show BW M_X12_init 13 [(0, vr 161)] [] (S1, mset h1 161 0 1, 18, 8813) _
  generalize eh2 : mset h1 161 0 1 = h2
  refine bw_aload_n (j := 0) (M := M_X12_init) (pc := 13) dX12_init_13 rfl rfl ?_
  refine bw_bipush (M := M_X12_init) (pc := 14) dX12_init_14 ⟨rfl, ⟨by decide, by decide⟩⟩ ?_
  refine bw_newl (n := 72) (n0 := 163) (M := M_X12_init) (pc := 16) dX12_init_16 ac_long rfl rfl (fun z => by rw [m1] at z; rcases z with z | z <;> first | exact fr _ (by omega) (by omega) z | omega) ⟨Nat.le_of_ble_eq_true rfl, Nat.le_of_ble_eq_true rfl⟩ (Nat.le_of_ble_eq_true rfl) ?_
  show BW M_X12_init 18 [(0, vr 161)] [vr 163, vr 161] (S1 ++ [163], mz h2 163, 17, 8741) _
  generalize eh3 : mz h2 163 = h3
  generalize eS2 : S1 ++ [163] = S2
  have m2 : ∀ i, i ∈ S2 ↔ i ∈ S1 ∨ i = 163 := fun i => by rw [← eS2, List.mem_append, List.mem_singleton]
  refine bw_putF (a := 161) (b := 163) (q := 2) (M := M_X12_init) (pc := 18) clk_12 rfl dX12_init_18 rfl (k := 1) (by decide) fl_X12_13 rfl rfl (fun a => rfl) (fun a => rfl) rfl rfl ?_
  show BW M_X12_init 21 [(0, vr 161)] [] (S2, mset h3 161 1 1, 17, 8741) _
  generalize eh4 : mset h3 161 1 1 = h4
  refine bw_aload_n (j := 0) (M := M_X12_init) (pc := 21) dX12_init_21 rfl rfl ?_
  refine bw_lconst (v := 1) (M := M_X12_init) (pc := 22) dX12_init_22 ⟨rfl, ⟨by decide, by decide⟩⟩ ?_
  refine bw_putl (a := 161) (x := 1) clk_12 (M := M_X12_init) (pc := 23) dX12_init_23 rfl (k := 4) (by decide) fl_X12_17 rfl rfl rfl ?_
  show BW M_X12_init 26 [(0, vr 161)] [] (S2, mset h4 161 4 1, 17, 8741) _
  generalize eh5 : mset h4 161 4 1 = h5
  refine bw_aload_n (j := 0) (M := M_X12_init) (pc := 26) dX12_init_26 rfl rfl ?_
  refine bw_iconst (M := M_X12_init) (pc := 27) dX12_init_27 ⟨by decide, by decide⟩ ?_
  refine bw_newi (n := 4) (n0 := 164) (M := M_X12_init) (pc := 28) dX12_init_28 ac_int rfl rfl (fun z => by rw [m2, m1] at z; rcases z with (z | z) | z <;> first | exact fr _ (by omega) (by omega) z | omega) ⟨Nat.le_of_ble_eq_true rfl, Nat.le_of_ble_eq_true rfl⟩ (Nat.le_of_ble_eq_true rfl) ?_
  show BW M_X12_init 30 [(0, vr 161)] [vr 164, vr 161] (S2 ++ [164], mz h5 164, 16, 8737) _
  generalize eh6 : mz h5 164 = h6
  generalize eS3 : S2 ++ [164] = S3
  have m3 : ∀ i, i ∈ S3 ↔ i ∈ S2 ∨ i = 164 := fun i => by rw [← eS3, List.mem_append, List.mem_singleton]
  refine bw_putF (a := 161) (b := 164) (q := 3) (M := M_X12_init) (pc := 30) clk_12 rfl dX12_init_30 rfl (k := 5) (by decide) fl_X12_21 rfl rfl (fun a => rfl) (fun a => rfl) rfl rfl ?_
  show BW M_X12_init 33 [(0, vr 161)] [] (S3, mset h6 161 5 1, 16, 8737) _
  generalize eh7 : mset h6 161 5 1 = h7
  refine bw_aload_n (j := 0) (M := M_X12_init) (pc := 33) dX12_init_33 rfl rfl ?_
  refine bw_iconst (M := M_X12_init) (pc := 34) dX12_init_34 ⟨by decide, by decide⟩ ?_
  refine bw_newi (n := 4) (n0 := 165) (M := M_X12_init) (pc := 35) dX12_init_35 ac_int rfl rfl (fun z => by rw [m3, m2, m1] at z; rcases z with ((z | z) | z) | z <;> first | exact fr _ (by omega) (by omega) z | omega) ⟨Nat.le_of_ble_eq_true rfl, Nat.le_of_ble_eq_true rfl⟩ (Nat.le_of_ble_eq_true rfl) ?_
  show BW M_X12_init 37 [(0, vr 161)] [vr 165, vr 161] (S3 ++ [165], mz h7 165, 15, 8733) _
  generalize eh8 : mz h7 165 = h8
  generalize eS4 : S3 ++ [165] = S4
  have m4 : ∀ i, i ∈ S4 ↔ i ∈ S3 ∨ i = 165 := fun i => by rw [← eS4, List.mem_append, List.mem_singleton]
  refine bw_dup (M := M_X12_init) (pc := 37) dX12_init_37 rfl ?_
  refine bw_iconst (M := M_X12_init) (pc := 38) dX12_init_38 ⟨by decide, by decide⟩ ?_
  refine bw_iconst (M := M_X12_init) (pc := 39) dX12_init_39 ⟨by decide, by decide⟩ ?_
  refine bw_iast (b := 165) (n := 4) (k := 0) (M := M_X12_init) (pc := 40) dX12_init_40 rfl ⟨by decide, by decide⟩ rfl ?_
  show BW M_X12_init 41 [(0, vr 161)] [vr 165, vr 161] (S4, mset h8 165 0 (-1), 15, 8733) _
  generalize eh9 : mset h8 165 0 (-1) = h9
  refine bw_dup (M := M_X12_init) (pc := 41) dX12_init_41 rfl ?_
  refine bw_iconst (M := M_X12_init) (pc := 42) dX12_init_42 ⟨by decide, by decide⟩ ?_
  refine bw_iconst (M := M_X12_init) (pc := 43) dX12_init_43 ⟨by decide, by decide⟩ ?_
  refine bw_iast (b := 165) (n := 4) (k := 1) (M := M_X12_init) (pc := 44) dX12_init_44 rfl ⟨by decide, by decide⟩ rfl ?_
  show BW M_X12_init 45 [(0, vr 161)] [vr 165, vr 161] (S4, mset h9 165 1 (-1), 15, 8733) _
  generalize eh10 : mset h9 165 1 (-1) = h10
  refine bw_dup (M := M_X12_init) (pc := 45) dX12_init_45 rfl ?_
  refine bw_iconst (M := M_X12_init) (pc := 46) dX12_init_46 ⟨by decide, by decide⟩ ?_
  refine bw_iconst (M := M_X12_init) (pc := 47) dX12_init_47 ⟨by decide, by decide⟩ ?_
  refine bw_iast (b := 165) (n := 4) (k := 2) (M := M_X12_init) (pc := 48) dX12_init_48 rfl ⟨by decide, by decide⟩ rfl ?_
  show BW M_X12_init 49 [(0, vr 161)] [vr 165, vr 161] (S4, mset h10 165 2 (-1), 15, 8733) _
  generalize eh11 : mset h10 165 2 (-1) = h11
  refine bw_dup (M := M_X12_init) (pc := 49) dX12_init_49 rfl ?_
  refine bw_iconst (M := M_X12_init) (pc := 50) dX12_init_50 ⟨by decide, by decide⟩ ?_
  refine bw_iconst (M := M_X12_init) (pc := 51) dX12_init_51 ⟨by decide, by decide⟩ ?_
  refine bw_iast (b := 165) (n := 4) (k := 3) (M := M_X12_init) (pc := 52) dX12_init_52 rfl ⟨by decide, by decide⟩ rfl ?_
  show BW M_X12_init 53 [(0, vr 161)] [vr 165, vr 161] (S4, mset h11 165 3 (-1), 15, 8733) _
  generalize eh12 : mset h11 165 3 (-1) = h12
  refine bw_putF (a := 161) (b := 165) (q := 4) (M := M_X12_init) (pc := 53) clk_12 rfl dX12_init_53 rfl (k := 6) (by decide) fl_X12_24 rfl rfl (fun a => rfl) (fun a => rfl) rfl rfl ?_
  show BW M_X12_init 56 [(0, vr 161)] [] (S4, mset h12 161 6 1, 15, 8733) _
  generalize eh13 : mset h12 161 6 1 = h13
  refine bw_aload_n (j := 0) (M := M_X12_init) (pc := 56) dX12_init_56 rfl rfl ?_
  refine bw_sipush (M := M_X12_init) (pc := 57) dX12_init_57 ⟨rfl, ⟨by decide, by decide⟩⟩ ?_
  refine bw_newl (n := 240) (n0 := 166) (M := M_X12_init) (pc := 60) dX12_init_60 ac_long rfl rfl (fun z => by rw [m4, m3, m2, m1] at z; rcases z with (((z | z) | z) | z) | z <;> first | exact fr _ (by omega) (by omega) z | omega) ⟨Nat.le_of_ble_eq_true rfl, Nat.le_of_ble_eq_true rfl⟩ (Nat.le_of_ble_eq_true rfl) ?_
  show BW M_X12_init 62 [(0, vr 161)] [vr 166, vr 161] (S4 ++ [166], mz h13 166, 14, 8493) _
  generalize eh14 : mz h13 166 = h14
  generalize eS5 : S4 ++ [166] = S5
  have m5 : ∀ i, i ∈ S5 ↔ i ∈ S4 ∨ i = 166 := fun i => by rw [← eS5, List.mem_append, List.mem_singleton]
  refine bw_putF (a := 161) (b := 166) (q := 5) (M := M_X12_init) (pc := 62) clk_12 rfl dX12_init_62 rfl (k := 7) (by decide) fl_X12_27 rfl rfl (fun a => rfl) (fun a => rfl) rfl rfl ?_
  show BW M_X12_init 65 [(0, vr 161)] [] (S5, mset h14 161 7 1, 14, 8493) _
  generalize eh15 : mset h14 161 7 1 = h15
  refine bw_aload_n (j := 0) (M := M_X12_init) (pc := 65) dX12_init_65 rfl rfl ?_
  refine bw_sipush (M := M_X12_init) (pc := 66) dX12_init_66 ⟨rfl, ⟨by decide, by decide⟩⟩ ?_
  refine bw_newb (n := 900) (n0 := 167) (M := M_X12_init) (pc := 69) dX12_init_69 ac_byte rfl rfl (fun z => by rw [m5, m4, m3, m2, m1] at z; rcases z with ((((z | z) | z) | z) | z) | z <;> first | exact fr _ (by omega) (by omega) z | omega) ⟨Nat.le_of_ble_eq_true rfl, Nat.le_of_ble_eq_true rfl⟩ (Nat.le_of_ble_eq_true rfl) ?_
  show BW M_X12_init 71 [(0, vr 161)] [vr 167, vr 161] (S5 ++ [167], mz h15 167, 13, 7593) _
  generalize eh16 : mz h15 167 = h16
  generalize eS6 : S5 ++ [167] = S6
  have m6 : ∀ i, i ∈ S6 ↔ i ∈ S5 ∨ i = 167 := fun i => by rw [← eS6, List.mem_append, List.mem_singleton]
  refine bw_putF (a := 161) (b := 167) (q := 6) (M := M_X12_init) (pc := 71) clk_12 rfl dX12_init_71 rfl (k := 8) (by decide) fl_X12_30 rfl rfl (fun a => rfl) (fun a => rfl) rfl rfl ?_
  show BW M_X12_init 74 [(0, vr 161)] [] (S6, mset h16 161 8 1, 13, 7593) _
  generalize eh17 : mset h16 161 8 1 = h17
  refine bw_aload_n (j := 0) (M := M_X12_init) (pc := 74) dX12_init_74 rfl rfl ?_
  refine bw_sipush (M := M_X12_init) (pc := 75) dX12_init_75 ⟨rfl, ⟨by decide, by decide⟩⟩ ?_
  refine bw_newb (n := 900) (n0 := 168) (M := M_X12_init) (pc := 78) dX12_init_78 ac_byte rfl rfl (fun z => by rw [m6, m5, m4, m3, m2, m1] at z; rcases z with (((((z | z) | z) | z) | z) | z) | z <;> first | exact fr _ (by omega) (by omega) z | omega) ⟨Nat.le_of_ble_eq_true rfl, Nat.le_of_ble_eq_true rfl⟩ (Nat.le_of_ble_eq_true rfl) ?_
  show BW M_X12_init 80 [(0, vr 161)] [vr 168, vr 161] (S6 ++ [168], mz h17 168, 12, 6693) _
  generalize eh18 : mz h17 168 = h18
  generalize eS7 : S6 ++ [168] = S7
  have m7 : ∀ i, i ∈ S7 ↔ i ∈ S6 ∨ i = 168 := fun i => by rw [← eS7, List.mem_append, List.mem_singleton]
  refine bw_putF (a := 161) (b := 168) (q := 7) (M := M_X12_init) (pc := 80) clk_12 rfl dX12_init_80 rfl (k := 9) (by decide) fl_X12_34 rfl rfl (fun a => rfl) (fun a => rfl) rfl rfl ?_
  show BW M_X12_init 83 [(0, vr 161)] [] (S7, mset h18 161 9 1, 12, 6693) _
  generalize eh19 : mset h18 161 9 1 = h19
  refine bw_aload_n (j := 0) (M := M_X12_init) (pc := 83) dX12_init_83 rfl rfl ?_
  refine bw_iconst (M := M_X12_init) (pc := 84) dX12_init_84 ⟨by decide, by decide⟩ ?_
  refine bw_puti (a := 161) (x := (-1)) clk_12 (M := M_X12_init) (pc := 85) dX12_init_85 rfl (k := 16) (by decide) fl_X12_37 rfl rfl rfl ?_
  show BW M_X12_init 88 [(0, vr 161)] [] (S7, mset h19 161 16 (-1), 12, 6693) _
  generalize eh20 : mset h19 161 16 (-1) = h20
  refine bw_aload_n (j := 0) (M := M_X12_init) (pc := 88) dX12_init_88 rfl rfl ?_
  refine bw_iconst (M := M_X12_init) (pc := 89) dX12_init_89 ⟨by decide, by decide⟩ ?_
  refine bw_puti (a := 161) (x := (-1)) clk_12 (M := M_X12_init) (pc := 90) dX12_init_90 rfl (k := 17) (by decide) fl_X12_41 rfl rfl rfl ?_
  show BW M_X12_init 93 [(0, vr 161)] [] (S7, mset h20 161 17 (-1), 12, 6693) _
  generalize eh21 : mset h20 161 17 (-1) = h21
  refine bw_aload_n (j := 0) (M := M_X12_init) (pc := 93) dX12_init_93 rfl rfl ?_
  refine bw_iconst (M := M_X12_init) (pc := 94) dX12_init_94 ⟨by decide, by decide⟩ ?_
  refine bw_newi (n := 3) (n0 := 169) (M := M_X12_init) (pc := 95) dX12_init_95 ac_int rfl rfl (fun z => by rw [m7, m6, m5, m4, m3, m2, m1] at z; rcases z with ((((((z | z) | z) | z) | z) | z) | z) | z <;> first | exact fr _ (by omega) (by omega) z | omega) ⟨Nat.le_of_ble_eq_true rfl, Nat.le_of_ble_eq_true rfl⟩ (Nat.le_of_ble_eq_true rfl) ?_
  show BW M_X12_init 97 [(0, vr 161)] [vr 169, vr 161] (S7 ++ [169], mz h21 169, 11, 6690) _
  generalize eh22 : mz h21 169 = h22
  generalize eS8 : S7 ++ [169] = S8
  have m8 : ∀ i, i ∈ S8 ↔ i ∈ S7 ∨ i = 169 := fun i => by rw [← eS8, List.mem_append, List.mem_singleton]
  refine bw_putF (a := 161) (b := 169) (q := 8) (M := M_X12_init) (pc := 97) clk_12 rfl dX12_init_97 rfl (k := 21) (by decide) fl_X12_44 rfl rfl (fun a => rfl) (fun a => rfl) rfl rfl ?_
  show BW M_X12_init 100 [(0, vr 161)] [] (S8, mset h22 161 21 1, 11, 6690) _
  generalize eh23 : mset h22 161 21 1 = h23
  refine bw_aload_n (j := 0) (M := M_X12_init) (pc := 100) dX12_init_100 rfl rfl ?_
  refine bw_sipush (M := M_X12_init) (pc := 101) dX12_init_101 ⟨rfl, ⟨by decide, by decide⟩⟩ ?_
  refine bw_newi (n := 5025) (n0 := 170) (M := M_X12_init) (pc := 104) dX12_init_104 ac_int rfl rfl (fun z => by rw [m8, m7, m6, m5, m4, m3, m2, m1] at z; rcases z with (((((((z | z) | z) | z) | z) | z) | z) | z) | z <;> first | exact fr _ (by omega) (by omega) z | omega) ⟨Nat.le_of_ble_eq_true rfl, Nat.le_of_ble_eq_true rfl⟩ (Nat.le_of_ble_eq_true rfl) ?_
  show BW M_X12_init 106 [(0, vr 161)] [vr 170, vr 161] (S8 ++ [170], mz h23 170, 10, 1665) _
  generalize eh24 : mz h23 170 = h24
  generalize eS9 : S8 ++ [170] = S9
  have m9 : ∀ i, i ∈ S9 ↔ i ∈ S8 ∨ i = 170 := fun i => by rw [← eS9, List.mem_append, List.mem_singleton]
  refine bw_putF (a := 161) (b := 170) (q := 9) (M := M_X12_init) (pc := 106) clk_12 rfl dX12_init_106 rfl (k := 24) (by decide) fl_X12_47 rfl rfl (fun a => rfl) (fun a => rfl) rfl rfl ?_
  show BW M_X12_init 109 [(0, vr 161)] [] (S9, mset h24 161 24 1, 10, 1665) _
  generalize eh25 : mset h24 161 24 1 = h25
  refine bw_aload_n (j := 0) (M := M_X12_init) (pc := 109) dX12_init_109 rfl rfl ?_
  refine bw_iconst (M := M_X12_init) (pc := 110) dX12_init_110 ⟨by decide, by decide⟩ ?_
  refine bw_newi (n := 3) (n0 := 171) (M := M_X12_init) (pc := 111) dX12_init_111 ac_int rfl rfl (fun z => by rw [m9, m8, m7, m6, m5, m4, m3, m2, m1] at z; rcases z with ((((((((z | z) | z) | z) | z) | z) | z) | z) | z) | z <;> first | exact fr _ (by omega) (by omega) z | omega) ⟨Nat.le_of_ble_eq_true rfl, Nat.le_of_ble_eq_true rfl⟩ (Nat.le_of_ble_eq_true rfl) ?_
  show BW M_X12_init 113 [(0, vr 161)] [vr 171, vr 161] (S9 ++ [171], mz h25 171, 9, 1662) _
  generalize eh26 : mz h25 171 = h26
  generalize eS10 : S9 ++ [171] = S10
  have m10 : ∀ i, i ∈ S10 ↔ i ∈ S9 ∨ i = 171 := fun i => by rw [← eS10, List.mem_append, List.mem_singleton]
  refine bw_putF (a := 161) (b := 171) (q := 10) (M := M_X12_init) (pc := 113) clk_12 rfl dX12_init_113 rfl (k := 27) (by decide) fl_X12_50 rfl rfl (fun a => rfl) (fun a => rfl) rfl rfl ?_
  show BW M_X12_init 116 [(0, vr 161)] [] (S10, mset h26 161 27 1, 9, 1662) _
  generalize eh27 : mset h26 161 27 1 = h27
  refine bw_aload_n (j := 0) (M := M_X12_init) (pc := 116) dX12_init_116 rfl rfl ?_
  refine bw_bipush (M := M_X12_init) (pc := 117) dX12_init_117 ⟨rfl, ⟨by decide, by decide⟩⟩ ?_
  refine bw_newz (n := 25) (n0 := 172) (M := M_X12_init) (pc := 119) dX12_init_119 ac_boolean rfl rfl (fun z => by rw [m10, m9, m8, m7, m6, m5, m4, m3, m2, m1] at z; rcases z with (((((((((z | z) | z) | z) | z) | z) | z) | z) | z) | z) | z <;> first | exact fr _ (by omega) (by omega) z | omega) ⟨Nat.le_of_ble_eq_true rfl, Nat.le_of_ble_eq_true rfl⟩ (Nat.le_of_ble_eq_true rfl) ?_
  show BW M_X12_init 121 [(0, vr 161)] [vr 172, vr 161] (S10 ++ [172], mz h27 172, 8, 1637) _
  generalize eh28 : mz h27 172 = h28
  generalize eS11 : S10 ++ [172] = S11
  have m11 : ∀ i, i ∈ S11 ↔ i ∈ S10 ∨ i = 172 := fun i => by rw [← eS11, List.mem_append, List.mem_singleton]
  refine bw_putF (a := 161) (b := 172) (q := 11) (M := M_X12_init) (pc := 121) clk_12 rfl dX12_init_121 rfl (k := 28) (by decide) fl_X12_53 rfl rfl (fun a => rfl) (fun a => rfl) rfl rfl ?_
  show BW M_X12_init 124 [(0, vr 161)] [] (S11, mset h28 161 28 1, 8, 1637) _
  generalize eh29 : mset h28 161 28 1 = h29
  refine bw_aload_n (j := 0) (M := M_X12_init) (pc := 124) dX12_init_124 rfl rfl ?_
  refine bw_sipush (M := M_X12_init) (pc := 125) dX12_init_125 ⟨rfl, ⟨by decide, by decide⟩⟩ ?_
  refine bw_newz (n := 1525) (n0 := 173) (M := M_X12_init) (pc := 128) dX12_init_128 ac_boolean rfl rfl (fun z => by rw [m11, m10, m9, m8, m7, m6, m5, m4, m3, m2, m1] at z; rcases z with ((((((((((z | z) | z) | z) | z) | z) | z) | z) | z) | z) | z) | z <;> first | exact fr _ (by omega) (by omega) z | omega) ⟨Nat.le_of_ble_eq_true rfl, Nat.le_of_ble_eq_true rfl⟩ (Nat.le_of_ble_eq_true rfl) ?_
  show BW M_X12_init 130 [(0, vr 161)] [vr 173, vr 161] (S11 ++ [173], mz h29 173, 7, 112) _
  generalize eh30 : mz h29 173 = h30
  generalize eS12 : S11 ++ [173] = S12
  have m12 : ∀ i, i ∈ S12 ↔ i ∈ S11 ∨ i = 173 := fun i => by rw [← eS12, List.mem_append, List.mem_singleton]
  refine bw_putF (a := 161) (b := 173) (q := 12) (M := M_X12_init) (pc := 130) clk_12 rfl dX12_init_130 rfl (k := 29) (by decide) fl_X12_57 rfl rfl (fun a => rfl) (fun a => rfl) rfl rfl ?_
  show BW M_X12_init 133 [(0, vr 161)] [] (S12, mset h30 161 29 1, 7, 112) _
  generalize eh31 : mset h30 161 29 1 = h31
  refine bw_aload_n (j := 0) (M := M_X12_init) (pc := 133) dX12_init_133 rfl rfl ?_
  refine bw_iconst (M := M_X12_init) (pc := 134) dX12_init_134 ⟨by decide, by decide⟩ ?_
  refine bw_newi (n := 3) (n0 := 174) (M := M_X12_init) (pc := 135) dX12_init_135 ac_int rfl rfl (fun z => by rw [m12, m11, m10, m9, m8, m7, m6, m5, m4, m3, m2, m1] at z; rcases z with (((((((((((z | z) | z) | z) | z) | z) | z) | z) | z) | z) | z) | z) | z <;> first | exact fr _ (by omega) (by omega) z | omega) ⟨Nat.le_of_ble_eq_true rfl, Nat.le_of_ble_eq_true rfl⟩ (Nat.le_of_ble_eq_true rfl) ?_
  show BW M_X12_init 137 [(0, vr 161)] [vr 174, vr 161] (S12 ++ [174], mz h31 174, 6, 109) _
  generalize eh32 : mz h31 174 = h32
  generalize eS13 : S12 ++ [174] = S13
  have m13 : ∀ i, i ∈ S13 ↔ i ∈ S12 ∨ i = 174 := fun i => by rw [← eS13, List.mem_append, List.mem_singleton]
  refine bw_putF (a := 161) (b := 174) (q := 13) (M := M_X12_init) (pc := 137) clk_12 rfl dX12_init_137 rfl (k := 33) (by decide) fl_X12_60 rfl rfl (fun a => rfl) (fun a => rfl) rfl rfl ?_
  show BW M_X12_init 140 [(0, vr 161)] [] (S13, mset h32 161 33 1, 6, 109) _
  generalize eh33 : mset h32 161 33 1 = h33
  refine bw_aload_n (j := 0) (M := M_X12_init) (pc := 140) dX12_init_140 rfl rfl ?_
  refine bw_iconst (M := M_X12_init) (pc := 141) dX12_init_141 ⟨by decide, by decide⟩ ?_
  refine bw_newi (n := 3) (n0 := 175) (M := M_X12_init) (pc := 142) dX12_init_142 ac_int rfl rfl (fun z => by rw [m13, m12, m11, m10, m9, m8, m7, m6, m5, m4, m3, m2, m1] at z; rcases z with ((((((((((((z | z) | z) | z) | z) | z) | z) | z) | z) | z) | z) | z) | z) | z <;> first | exact fr _ (by omega) (by omega) z | omega) ⟨Nat.le_of_ble_eq_true rfl, Nat.le_of_ble_eq_true rfl⟩ (Nat.le_of_ble_eq_true rfl) ?_
  show BW M_X12_init 144 [(0, vr 161)] [vr 175, vr 161] (S13 ++ [175], mz h33 175, 5, 106) _
  generalize eh34 : mz h33 175 = h34
  generalize eS14 : S13 ++ [175] = S14
  have m14 : ∀ i, i ∈ S14 ↔ i ∈ S13 ∨ i = 175 := fun i => by rw [← eS14, List.mem_append, List.mem_singleton]
  refine bw_putF (a := 161) (b := 175) (q := 14) (M := M_X12_init) (pc := 144) clk_12 rfl dX12_init_144 rfl (k := 34) (by decide) fl_X12_63 rfl rfl (fun a => rfl) (fun a => rfl) rfl rfl ?_
  show BW M_X12_init 147 [(0, vr 161)] [] (S14, mset h34 161 34 1, 5, 106) _
  generalize eh35 : mset h34 161 34 1 = h35
  refine bw_aload_n (j := 0) (M := M_X12_init) (pc := 147) dX12_init_147 rfl rfl ?_
  refine bw_iconst (M := M_X12_init) (pc := 148) dX12_init_148 ⟨by decide, by decide⟩ ?_
  refine bw_newi (n := 3) (n0 := 176) (M := M_X12_init) (pc := 149) dX12_init_149 ac_int rfl rfl (fun z => by rw [m14, m13, m12, m11, m10, m9, m8, m7, m6, m5, m4, m3, m2, m1] at z; rcases z with (((((((((((((z | z) | z) | z) | z) | z) | z) | z) | z) | z) | z) | z) | z) | z) | z <;> first | exact fr _ (by omega) (by omega) z | omega) ⟨Nat.le_of_ble_eq_true rfl, Nat.le_of_ble_eq_true rfl⟩ (Nat.le_of_ble_eq_true rfl) ?_
  show BW M_X12_init 151 [(0, vr 161)] [vr 176, vr 161] (S14 ++ [176], mz h35 176, 4, 103) _
  generalize eh36 : mz h35 176 = h36
  generalize eS15 : S14 ++ [176] = S15
  have m15 : ∀ i, i ∈ S15 ↔ i ∈ S14 ∨ i = 176 := fun i => by rw [← eS15, List.mem_append, List.mem_singleton]
  refine bw_putF (a := 161) (b := 176) (q := 15) (M := M_X12_init) (pc := 151) clk_12 rfl dX12_init_151 rfl (k := 35) (by decide) fl_X12_66 rfl rfl (fun a => rfl) (fun a => rfl) rfl rfl ?_
  show BW M_X12_init 154 [(0, vr 161)] [] (S15, mset h36 161 35 1, 4, 103) _
  generalize eh37 : mset h36 161 35 1 = h37
  refine bw_aload_n (j := 0) (M := M_X12_init) (pc := 154) dX12_init_154 rfl rfl ?_
  refine bw_bipush (M := M_X12_init) (pc := 155) dX12_init_155 ⟨rfl, ⟨by decide, by decide⟩⟩ ?_
  refine bw_newl (n := 13) (n0 := 177) (M := M_X12_init) (pc := 157) dX12_init_157 ac_long rfl rfl (fun z => by rw [m15, m14, m13, m12, m11, m10, m9, m8, m7, m6, m5, m4, m3, m2, m1] at z; rcases z with ((((((((((((((z | z) | z) | z) | z) | z) | z) | z) | z) | z) | z) | z) | z) | z) | z) | z <;> first | exact fr _ (by omega) (by omega) z | omega) ⟨Nat.le_of_ble_eq_true rfl, Nat.le_of_ble_eq_true rfl⟩ (Nat.le_of_ble_eq_true rfl) ?_
  show BW M_X12_init 159 [(0, vr 161)] [vr 177, vr 161] (S15 ++ [177], mz h37 177, 3, 90) _
  generalize eh38 : mz h37 177 = h38
  generalize eS16 : S15 ++ [177] = S16
  have m16 : ∀ i, i ∈ S16 ↔ i ∈ S15 ∨ i = 177 := fun i => by rw [← eS16, List.mem_append, List.mem_singleton]
  refine bw_putF (a := 161) (b := 177) (q := 16) (M := M_X12_init) (pc := 159) clk_12 rfl dX12_init_159 rfl (k := 36) (by decide) fl_X12_69 rfl rfl (fun a => rfl) (fun a => rfl) rfl rfl ?_
  show BW M_X12_init 162 [(0, vr 161)] [] (S16, mset h38 161 36 1, 3, 90) _
  generalize eh39 : mset h38 161 36 1 = h39
  refine bw_aload_n (j := 0) (M := M_X12_init) (pc := 162) dX12_init_162 rfl rfl ?_
  refine bw_bipush (M := M_X12_init) (pc := 163) dX12_init_163 ⟨rfl, ⟨by decide, by decide⟩⟩ ?_
  refine bw_newi (n := 80) (n0 := 178) (M := M_X12_init) (pc := 165) dX12_init_165 ac_int rfl rfl (fun z => by rw [m16, m15, m14, m13, m12, m11, m10, m9, m8, m7, m6, m5, m4, m3, m2, m1] at z; rcases z with (((((((((((((((z | z) | z) | z) | z) | z) | z) | z) | z) | z) | z) | z) | z) | z) | z) | z) | z <;> first | exact fr _ (by omega) (by omega) z | omega) ⟨Nat.le_of_ble_eq_true rfl, Nat.le_of_ble_eq_true rfl⟩ (Nat.le_of_ble_eq_true rfl) ?_
  show BW M_X12_init 167 [(0, vr 161)] [vr 178, vr 161] (S16 ++ [178], mz h39 178, 2, 10) _
  generalize eh40 : mz h39 178 = h40
  generalize eS17 : S16 ++ [178] = S17
  have m17 : ∀ i, i ∈ S17 ↔ i ∈ S16 ∨ i = 178 := fun i => by rw [← eS17, List.mem_append, List.mem_singleton]
  refine bw_putF (a := 161) (b := 178) (q := 17) (M := M_X12_init) (pc := 167) clk_12 rfl dX12_init_167 rfl (k := 39) (by decide) fl_X12_72 rfl rfl (fun a => rfl) (fun a => rfl) rfl rfl ?_
  show BW M_X12_init 170 [(0, vr 161)] [] (S17, mset h40 161 39 1, 2, 10) _
  generalize eh41 : mset h40 161 39 1 = h41
  refine bw_aload_n (j := 0) (M := M_X12_init) (pc := 170) dX12_init_170 rfl rfl ?_
  refine bw_iconst (M := M_X12_init) (pc := 171) dX12_init_171 ⟨by decide, by decide⟩ ?_
  refine bw_newi (n := 5) (n0 := 179) (M := M_X12_init) (pc := 172) dX12_init_172 ac_int rfl rfl (fun z => by rw [m17, m16, m15, m14, m13, m12, m11, m10, m9, m8, m7, m6, m5, m4, m3, m2, m1] at z; rcases z with ((((((((((((((((z | z) | z) | z) | z) | z) | z) | z) | z) | z) | z) | z) | z) | z) | z) | z) | z) | z <;> first | exact fr _ (by omega) (by omega) z | omega) ⟨Nat.le_of_ble_eq_true rfl, Nat.le_of_ble_eq_true rfl⟩ (Nat.le_of_ble_eq_true rfl) ?_
  show BW M_X12_init 174 [(0, vr 161)] [vr 179, vr 161] (S17 ++ [179], mz h41 179, 1, 5) _
  generalize eh42 : mz h41 179 = h42
  generalize eS18 : S17 ++ [179] = S18
  have m18 : ∀ i, i ∈ S18 ↔ i ∈ S17 ∨ i = 179 := fun i => by rw [← eS18, List.mem_append, List.mem_singleton]
  refine bw_putF (a := 161) (b := 179) (q := 18) (M := M_X12_init) (pc := 174) clk_12 rfl dX12_init_174 rfl (k := 40) (by decide) fl_X12_75 rfl rfl (fun a => rfl) (fun a => rfl) rfl rfl ?_
  show BW M_X12_init 177 [(0, vr 161)] [] (S18, mset h42 161 40 1, 1, 5) _
  generalize eh43 : mset h42 161 40 1 = h43
  refine bw_aload_n (j := 0) (M := M_X12_init) (pc := 177) dX12_init_177 rfl rfl ?_
  refine bw_iconst (M := M_X12_init) (pc := 178) dX12_init_178 ⟨by decide, by decide⟩ ?_
  refine bw_newi (n := 5) (n0 := 180) (M := M_X12_init) (pc := 179) dX12_init_179 ac_int rfl rfl (fun z => by rw [m18, m17, m16, m15, m14, m13, m12, m11, m10, m9, m8, m7, m6, m5, m4, m3, m2, m1] at z; rcases z with (((((((((((((((((z | z) | z) | z) | z) | z) | z) | z) | z) | z) | z) | z) | z) | z) | z) | z) | z) | z) | z <;> first | exact fr _ (by omega) (by omega) z | omega) ⟨Nat.le_of_ble_eq_true rfl, Nat.le_of_ble_eq_true rfl⟩ (Nat.le_of_ble_eq_true rfl) ?_
  show BW M_X12_init 181 [(0, vr 161)] [vr 180, vr 161] (S18 ++ [180], mz h43 180, 0, 0) _
  generalize eh44 : mz h43 180 = h44
  generalize eS19 : S18 ++ [180] = S19
  have m19 : ∀ i, i ∈ S19 ↔ i ∈ S18 ∨ i = 180 := fun i => by rw [← eS19, List.mem_append, List.mem_singleton]
  refine bw_putF (a := 161) (b := 180) (q := 19) (M := M_X12_init) (pc := 181) clk_12 rfl dX12_init_181 rfl (k := 41) (by decide) fl_X12_78 rfl rfl (fun a => rfl) (fun a => rfl) rfl rfl ?_
  show BW M_X12_init 184 [(0, vr 161)] [] (S19, mset h44 161 41 1, 0, 0) _
  generalize eh45 : mset h44 161 41 1 = h45
  refine bw_aload_n (j := 0) (M := M_X12_init) (pc := 184) dX12_init_184 rfl rfl ?_
  refine bw_iconst (M := M_X12_init) (pc := 185) dX12_init_185 ⟨by decide, by decide⟩ ?_
  have ful : ∀ i, i < nOb → i ∈ S19 := fun i hi => by
    have hi : i < 181 := hi
    rw [m19, m18, m17, m16, m15, m14, m13, m12, m11, m10, m9, m8, m7, m6, m5, m4, m3, m2, m1]
    rcases Nat.lt_or_ge i 162 with z | z
    · simp [hS0 i z]
    · by_cases y : i ∈ S0
      · simp [y]
      · simp only [y, false_or]; omega
  have flg : ∀ i, i < nOb → FlagOK h45 i := fun i hi => by
    have hi : i < 181 := hi
    rcases Nat.lt_or_ge i 161 with z | i1
    · exact (hx0 i z).fr (fun k => by rw [← eh45, mset_o (by omega), ← eh44, mz_o (by omega), ← eh43, mset_o (by omega), ← eh42, mz_o (by omega), ← eh41, mset_o (by omega), ← eh40, mz_o (by omega), ← eh39, mset_o (by omega), ← eh38, mz_o (by omega), ← eh37, mset_o (by omega), ← eh36, mz_o (by omega), ← eh35, mset_o (by omega), ← eh34, mz_o (by omega), ← eh33, mset_o (by omega), ← eh32, mz_o (by omega), ← eh31, mset_o (by omega), ← eh30, mz_o (by omega), ← eh29, mset_o (by omega), ← eh28, mz_o (by omega), ← eh27, mset_o (by omega), ← eh26, mz_o (by omega), ← eh25, mset_o (by omega), ← eh24, mz_o (by omega), ← eh23, mset_o (by omega), ← eh22, mz_o (by omega), ← eh21, mset_o (by omega), ← eh20, mset_o (by omega), ← eh19, mset_o (by omega), ← eh18, mz_o (by omega), ← eh17, mset_o (by omega), ← eh16, mz_o (by omega), ← eh15, mset_o (by omega), ← eh14, mz_o (by omega), ← eh13, mset_o (by omega), ← eh12, mset_o (by omega), ← eh11, mset_o (by omega), ← eh10, mset_o (by omega), ← eh9, mset_o (by omega), ← eh8, mz_o (by omega), ← eh7, mset_o (by omega), ← eh6, mz_o (by omega), ← eh5, mset_o (by omega), ← eh4, mset_o (by omega), ← eh3, mz_o (by omega), ← eh2, mset_o (by omega), ← eh1, mz_o (by omega)])
    rcases (show i = 161 ∨ i = 162 ∨ i = 163 ∨ i = 164 ∨ i = 165 ∨ i = 166 ∨ i = 167 ∨ i = 168 ∨ i = 169 ∨ i = 170 ∨ i = 171 ∨ i = 172 ∨ i = 173 ∨ i = 174 ∨ i = 175 ∨ i = 176 ∨ i = 177 ∨ i = 178 ∨ i = 179 ∨ i = 180 by omega) with y | y | y | y | y | y | y | y | y | y | y | y | y | y | y | y | y | y | y | y
    · rw [y]
      refine flag_ob rfl (fun k hk h4 => ?_)
      have hk : k < 44 := hk
      rcases (show k = 0 ∨ k = 1 ∨ k = 2 ∨ k = 3 ∨ k = 4 ∨ k = 5 ∨ k = 6 ∨ k = 7 ∨ k = 8 ∨ k = 9 ∨ k = 10 ∨ k = 11 ∨ k = 12 ∨ k = 13 ∨ k = 14 ∨ k = 15 ∨ k = 16 ∨ k = 17 ∨ k = 18 ∨ k = 19 ∨ k = 20 ∨ k = 21 ∨ k = 22 ∨ k = 23 ∨ k = 24 ∨ k = 25 ∨ k = 26 ∨ k = 27 ∨ k = 28 ∨ k = 29 ∨ k = 30 ∨ k = 31 ∨ k = 32 ∨ k = 33 ∨ k = 34 ∨ k = 35 ∨ k = 36 ∨ k = 37 ∨ k = 38 ∨ k = 39 ∨ k = 40 ∨ k = 41 ∨ k = 42 ∨ k = 43 by omega) with rfl | rfl | rfl | rfl | rfl | rfl | rfl | rfl | rfl | rfl | rfl | rfl | rfl | rfl | rfl | rfl | rfl | rfl | rfl | rfl | rfl | rfl | rfl | rfl | rfl | rfl | rfl | rfl | rfl | rfl | rfl | rfl | rfl | rfl | rfl | rfl | rfl | rfl | rfl | rfl | rfl | rfl | rfl | rfl
      · exact (show h45 161 0 = 1 from by rw [← eh45, mset_o (by omega), ← eh44, mz_o (by omega), ← eh43, mset_o (by omega), ← eh42, mz_o (by omega), ← eh41, mset_o (by omega), ← eh40, mz_o (by omega), ← eh39, mset_o (by omega), ← eh38, mz_o (by omega), ← eh37, mset_o (by omega), ← eh36, mz_o (by omega), ← eh35, mset_o (by omega), ← eh34, mz_o (by omega), ← eh33, mset_o (by omega), ← eh32, mz_o (by omega), ← eh31, mset_o (by omega), ← eh30, mz_o (by omega), ← eh29, mset_o (by omega), ← eh28, mz_o (by omega), ← eh27, mset_o (by omega), ← eh26, mz_o (by omega), ← eh25, mset_o (by omega), ← eh24, mz_o (by omega), ← eh23, mset_o (by omega), ← eh22, mz_o (by omega), ← eh21, mset_o (by omega), ← eh20, mset_o (by omega), ← eh19, mset_o (by omega), ← eh18, mz_o (by omega), ← eh17, mset_o (by omega), ← eh16, mz_o (by omega), ← eh15, mset_o (by omega), ← eh14, mz_o (by omega), ← eh13, mset_o (by omega), ← eh12, mset_o (by omega), ← eh11, mset_o (by omega), ← eh10, mset_o (by omega), ← eh9, mset_o (by omega), ← eh8, mz_o (by omega), ← eh7, mset_o (by omega), ← eh6, mz_o (by omega), ← eh5, mset_o (by omega), ← eh4, mset_o (by omega), ← eh3, mz_o (by omega), ← eh2, mset_at])
      · exact (show h45 161 1 = 1 from by rw [← eh45, mset_o (by omega), ← eh44, mz_o (by omega), ← eh43, mset_o (by omega), ← eh42, mz_o (by omega), ← eh41, mset_o (by omega), ← eh40, mz_o (by omega), ← eh39, mset_o (by omega), ← eh38, mz_o (by omega), ← eh37, mset_o (by omega), ← eh36, mz_o (by omega), ← eh35, mset_o (by omega), ← eh34, mz_o (by omega), ← eh33, mset_o (by omega), ← eh32, mz_o (by omega), ← eh31, mset_o (by omega), ← eh30, mz_o (by omega), ← eh29, mset_o (by omega), ← eh28, mz_o (by omega), ← eh27, mset_o (by omega), ← eh26, mz_o (by omega), ← eh25, mset_o (by omega), ← eh24, mz_o (by omega), ← eh23, mset_o (by omega), ← eh22, mz_o (by omega), ← eh21, mset_o (by omega), ← eh20, mset_o (by omega), ← eh19, mset_o (by omega), ← eh18, mz_o (by omega), ← eh17, mset_o (by omega), ← eh16, mz_o (by omega), ← eh15, mset_o (by omega), ← eh14, mz_o (by omega), ← eh13, mset_o (by omega), ← eh12, mset_o (by omega), ← eh11, mset_o (by omega), ← eh10, mset_o (by omega), ← eh9, mset_o (by omega), ← eh8, mz_o (by omega), ← eh7, mset_o (by omega), ← eh6, mz_o (by omega), ← eh5, mset_o (by omega), ← eh4, mset_at])
      · exact absurd h4 (by decide)
      · exact absurd h4 (by decide)
      · exact absurd h4 (by decide)
      · exact (show h45 161 5 = 1 from by rw [← eh45, mset_o (by omega), ← eh44, mz_o (by omega), ← eh43, mset_o (by omega), ← eh42, mz_o (by omega), ← eh41, mset_o (by omega), ← eh40, mz_o (by omega), ← eh39, mset_o (by omega), ← eh38, mz_o (by omega), ← eh37, mset_o (by omega), ← eh36, mz_o (by omega), ← eh35, mset_o (by omega), ← eh34, mz_o (by omega), ← eh33, mset_o (by omega), ← eh32, mz_o (by omega), ← eh31, mset_o (by omega), ← eh30, mz_o (by omega), ← eh29, mset_o (by omega), ← eh28, mz_o (by omega), ← eh27, mset_o (by omega), ← eh26, mz_o (by omega), ← eh25, mset_o (by omega), ← eh24, mz_o (by omega), ← eh23, mset_o (by omega), ← eh22, mz_o (by omega), ← eh21, mset_o (by omega), ← eh20, mset_o (by omega), ← eh19, mset_o (by omega), ← eh18, mz_o (by omega), ← eh17, mset_o (by omega), ← eh16, mz_o (by omega), ← eh15, mset_o (by omega), ← eh14, mz_o (by omega), ← eh13, mset_o (by omega), ← eh12, mset_o (by omega), ← eh11, mset_o (by omega), ← eh10, mset_o (by omega), ← eh9, mset_o (by omega), ← eh8, mz_o (by omega), ← eh7, mset_at])
      · exact (show h45 161 6 = 1 from by rw [← eh45, mset_o (by omega), ← eh44, mz_o (by omega), ← eh43, mset_o (by omega), ← eh42, mz_o (by omega), ← eh41, mset_o (by omega), ← eh40, mz_o (by omega), ← eh39, mset_o (by omega), ← eh38, mz_o (by omega), ← eh37, mset_o (by omega), ← eh36, mz_o (by omega), ← eh35, mset_o (by omega), ← eh34, mz_o (by omega), ← eh33, mset_o (by omega), ← eh32, mz_o (by omega), ← eh31, mset_o (by omega), ← eh30, mz_o (by omega), ← eh29, mset_o (by omega), ← eh28, mz_o (by omega), ← eh27, mset_o (by omega), ← eh26, mz_o (by omega), ← eh25, mset_o (by omega), ← eh24, mz_o (by omega), ← eh23, mset_o (by omega), ← eh22, mz_o (by omega), ← eh21, mset_o (by omega), ← eh20, mset_o (by omega), ← eh19, mset_o (by omega), ← eh18, mz_o (by omega), ← eh17, mset_o (by omega), ← eh16, mz_o (by omega), ← eh15, mset_o (by omega), ← eh14, mz_o (by omega), ← eh13, mset_at])
      · exact (show h45 161 7 = 1 from by rw [← eh45, mset_o (by omega), ← eh44, mz_o (by omega), ← eh43, mset_o (by omega), ← eh42, mz_o (by omega), ← eh41, mset_o (by omega), ← eh40, mz_o (by omega), ← eh39, mset_o (by omega), ← eh38, mz_o (by omega), ← eh37, mset_o (by omega), ← eh36, mz_o (by omega), ← eh35, mset_o (by omega), ← eh34, mz_o (by omega), ← eh33, mset_o (by omega), ← eh32, mz_o (by omega), ← eh31, mset_o (by omega), ← eh30, mz_o (by omega), ← eh29, mset_o (by omega), ← eh28, mz_o (by omega), ← eh27, mset_o (by omega), ← eh26, mz_o (by omega), ← eh25, mset_o (by omega), ← eh24, mz_o (by omega), ← eh23, mset_o (by omega), ← eh22, mz_o (by omega), ← eh21, mset_o (by omega), ← eh20, mset_o (by omega), ← eh19, mset_o (by omega), ← eh18, mz_o (by omega), ← eh17, mset_o (by omega), ← eh16, mz_o (by omega), ← eh15, mset_at])
      · exact (show h45 161 8 = 1 from by rw [← eh45, mset_o (by omega), ← eh44, mz_o (by omega), ← eh43, mset_o (by omega), ← eh42, mz_o (by omega), ← eh41, mset_o (by omega), ← eh40, mz_o (by omega), ← eh39, mset_o (by omega), ← eh38, mz_o (by omega), ← eh37, mset_o (by omega), ← eh36, mz_o (by omega), ← eh35, mset_o (by omega), ← eh34, mz_o (by omega), ← eh33, mset_o (by omega), ← eh32, mz_o (by omega), ← eh31, mset_o (by omega), ← eh30, mz_o (by omega), ← eh29, mset_o (by omega), ← eh28, mz_o (by omega), ← eh27, mset_o (by omega), ← eh26, mz_o (by omega), ← eh25, mset_o (by omega), ← eh24, mz_o (by omega), ← eh23, mset_o (by omega), ← eh22, mz_o (by omega), ← eh21, mset_o (by omega), ← eh20, mset_o (by omega), ← eh19, mset_o (by omega), ← eh18, mz_o (by omega), ← eh17, mset_at])
      · exact (show h45 161 9 = 1 from by rw [← eh45, mset_o (by omega), ← eh44, mz_o (by omega), ← eh43, mset_o (by omega), ← eh42, mz_o (by omega), ← eh41, mset_o (by omega), ← eh40, mz_o (by omega), ← eh39, mset_o (by omega), ← eh38, mz_o (by omega), ← eh37, mset_o (by omega), ← eh36, mz_o (by omega), ← eh35, mset_o (by omega), ← eh34, mz_o (by omega), ← eh33, mset_o (by omega), ← eh32, mz_o (by omega), ← eh31, mset_o (by omega), ← eh30, mz_o (by omega), ← eh29, mset_o (by omega), ← eh28, mz_o (by omega), ← eh27, mset_o (by omega), ← eh26, mz_o (by omega), ← eh25, mset_o (by omega), ← eh24, mz_o (by omega), ← eh23, mset_o (by omega), ← eh22, mz_o (by omega), ← eh21, mset_o (by omega), ← eh20, mset_o (by omega), ← eh19, mset_at])
      · exact absurd h4 (by decide)
      · exact absurd h4 (by decide)
      · exact absurd h4 (by decide)
      · exact absurd h4 (by decide)
      · exact absurd h4 (by decide)
      · exact absurd h4 (by decide)
      · exact absurd h4 (by decide)
      · exact absurd h4 (by decide)
      · exact absurd h4 (by decide)
      · exact absurd h4 (by decide)
      · exact absurd h4 (by decide)
      · exact (show h45 161 21 = 1 from by rw [← eh45, mset_o (by omega), ← eh44, mz_o (by omega), ← eh43, mset_o (by omega), ← eh42, mz_o (by omega), ← eh41, mset_o (by omega), ← eh40, mz_o (by omega), ← eh39, mset_o (by omega), ← eh38, mz_o (by omega), ← eh37, mset_o (by omega), ← eh36, mz_o (by omega), ← eh35, mset_o (by omega), ← eh34, mz_o (by omega), ← eh33, mset_o (by omega), ← eh32, mz_o (by omega), ← eh31, mset_o (by omega), ← eh30, mz_o (by omega), ← eh29, mset_o (by omega), ← eh28, mz_o (by omega), ← eh27, mset_o (by omega), ← eh26, mz_o (by omega), ← eh25, mset_o (by omega), ← eh24, mz_o (by omega), ← eh23, mset_at])
      · exact absurd h4 (by decide)
      · exact absurd h4 (by decide)
      · exact (show h45 161 24 = 1 from by rw [← eh45, mset_o (by omega), ← eh44, mz_o (by omega), ← eh43, mset_o (by omega), ← eh42, mz_o (by omega), ← eh41, mset_o (by omega), ← eh40, mz_o (by omega), ← eh39, mset_o (by omega), ← eh38, mz_o (by omega), ← eh37, mset_o (by omega), ← eh36, mz_o (by omega), ← eh35, mset_o (by omega), ← eh34, mz_o (by omega), ← eh33, mset_o (by omega), ← eh32, mz_o (by omega), ← eh31, mset_o (by omega), ← eh30, mz_o (by omega), ← eh29, mset_o (by omega), ← eh28, mz_o (by omega), ← eh27, mset_o (by omega), ← eh26, mz_o (by omega), ← eh25, mset_at])
      · exact absurd h4 (by decide)
      · exact absurd h4 (by decide)
      · exact (show h45 161 27 = 1 from by rw [← eh45, mset_o (by omega), ← eh44, mz_o (by omega), ← eh43, mset_o (by omega), ← eh42, mz_o (by omega), ← eh41, mset_o (by omega), ← eh40, mz_o (by omega), ← eh39, mset_o (by omega), ← eh38, mz_o (by omega), ← eh37, mset_o (by omega), ← eh36, mz_o (by omega), ← eh35, mset_o (by omega), ← eh34, mz_o (by omega), ← eh33, mset_o (by omega), ← eh32, mz_o (by omega), ← eh31, mset_o (by omega), ← eh30, mz_o (by omega), ← eh29, mset_o (by omega), ← eh28, mz_o (by omega), ← eh27, mset_at])
      · exact (show h45 161 28 = 1 from by rw [← eh45, mset_o (by omega), ← eh44, mz_o (by omega), ← eh43, mset_o (by omega), ← eh42, mz_o (by omega), ← eh41, mset_o (by omega), ← eh40, mz_o (by omega), ← eh39, mset_o (by omega), ← eh38, mz_o (by omega), ← eh37, mset_o (by omega), ← eh36, mz_o (by omega), ← eh35, mset_o (by omega), ← eh34, mz_o (by omega), ← eh33, mset_o (by omega), ← eh32, mz_o (by omega), ← eh31, mset_o (by omega), ← eh30, mz_o (by omega), ← eh29, mset_at])
      · exact (show h45 161 29 = 1 from by rw [← eh45, mset_o (by omega), ← eh44, mz_o (by omega), ← eh43, mset_o (by omega), ← eh42, mz_o (by omega), ← eh41, mset_o (by omega), ← eh40, mz_o (by omega), ← eh39, mset_o (by omega), ← eh38, mz_o (by omega), ← eh37, mset_o (by omega), ← eh36, mz_o (by omega), ← eh35, mset_o (by omega), ← eh34, mz_o (by omega), ← eh33, mset_o (by omega), ← eh32, mz_o (by omega), ← eh31, mset_at])
      · exact absurd h4 (by decide)
      · exact absurd h4 (by decide)
      · exact absurd h4 (by decide)
      · exact (show h45 161 33 = 1 from by rw [← eh45, mset_o (by omega), ← eh44, mz_o (by omega), ← eh43, mset_o (by omega), ← eh42, mz_o (by omega), ← eh41, mset_o (by omega), ← eh40, mz_o (by omega), ← eh39, mset_o (by omega), ← eh38, mz_o (by omega), ← eh37, mset_o (by omega), ← eh36, mz_o (by omega), ← eh35, mset_o (by omega), ← eh34, mz_o (by omega), ← eh33, mset_at])
      · exact (show h45 161 34 = 1 from by rw [← eh45, mset_o (by omega), ← eh44, mz_o (by omega), ← eh43, mset_o (by omega), ← eh42, mz_o (by omega), ← eh41, mset_o (by omega), ← eh40, mz_o (by omega), ← eh39, mset_o (by omega), ← eh38, mz_o (by omega), ← eh37, mset_o (by omega), ← eh36, mz_o (by omega), ← eh35, mset_at])
      · exact (show h45 161 35 = 1 from by rw [← eh45, mset_o (by omega), ← eh44, mz_o (by omega), ← eh43, mset_o (by omega), ← eh42, mz_o (by omega), ← eh41, mset_o (by omega), ← eh40, mz_o (by omega), ← eh39, mset_o (by omega), ← eh38, mz_o (by omega), ← eh37, mset_at])
      · exact (show h45 161 36 = 1 from by rw [← eh45, mset_o (by omega), ← eh44, mz_o (by omega), ← eh43, mset_o (by omega), ← eh42, mz_o (by omega), ← eh41, mset_o (by omega), ← eh40, mz_o (by omega), ← eh39, mset_at])
      · exact absurd h4 (by decide)
      · exact absurd h4 (by decide)
      · exact (show h45 161 39 = 1 from by rw [← eh45, mset_o (by omega), ← eh44, mz_o (by omega), ← eh43, mset_o (by omega), ← eh42, mz_o (by omega), ← eh41, mset_at])
      · exact (show h45 161 40 = 1 from by rw [← eh45, mset_o (by omega), ← eh44, mz_o (by omega), ← eh43, mset_at])
      · exact (show h45 161 41 = 1 from by rw [← eh45, mset_at])
      · exact absurd h4 (by decide)
      · exact absurd h4 (by decide)
    · rw [y]; exact flag_arr rfl (by omega)
    · rw [y]; exact flag_arr rfl (by omega)
    · rw [y]; exact flag_arr rfl (by omega)
    · rw [y]; exact flag_arr rfl (by omega)
    · rw [y]; exact flag_arr rfl (by omega)
    · rw [y]; exact flag_arr rfl (by omega)
    · rw [y]; exact flag_arr rfl (by omega)
    · rw [y]; exact flag_arr rfl (by omega)
    · rw [y]; exact flag_arr rfl (by omega)
    · rw [y]; exact flag_arr rfl (by omega)
    · rw [y]; exact flag_arr rfl (by omega)
    · rw [y]; exact flag_arr rfl (by omega)
    · rw [y]; exact flag_arr rfl (by omega)
    · rw [y]; exact flag_arr rfl (by omega)
    · rw [y]; exact flag_arr rfl (by omega)
    · rw [y]; exact flag_arr rfl (by omega)
    · rw [y]; exact flag_arr rfl (by omega)
    · rw [y]; exact flag_arr rfl (by omega)
    · rw [y]; exact flag_arr rfl (by omega)
  refine bw_callA (as := [(0, 0)]) (st := []) (M := M_X12_init) (pc := 186) (f_X12_plain (Q := fun u => PLN h45 u) (q_plain0 (fun u a b => ⟨a, b⟩))) dX12_init_186 rfl (Or.inl ⟨_, _, _, rfl, rfl⟩) cy_X12_plain ml_X12_81 (by decide) (by decide) (Nat.le_of_ble_eq_true rfl) ful flg (fun rv u q => ⟨fun i hi => ?_, fun cl i hi k => ?_⟩) (fun rv u q _ => ?_) (fun rv u q => q.1)
  · obtain ⟨-, -, pf⟩ := q
    by_cases c : i = 162
    · rw [c]; exact flag_arr (t := 1) (n := 3008) rfl (by omega)
    · exact (flg i hi).fr (fun k => pf i k (by omega))
  · obtain ⟨-, -, pf⟩ := q
    by_cases c : i = 162
    · rw [c, tg_arr (t := 1) (n := 3008) rfl (by omega)]; rw [c] at hi; exact hi
    · rw [tg_o (pf i k (by omega))]; exact cl i hi k
  obtain ⟨-, pq46, f46⟩ := q
  obtain ⟨h46, eq46⟩ : ∃ y, y = u := ⟨_, rfl⟩
  subst eq46
  have f46 : ∀ i k, ¬ (i = 162 ∧ k < 448) → h46 i k = h45 i k := f46
  obtain ⟨pp46_0, pp46_1, pp46_2, pp46_3, pp46_4, pp46_5, pp46_6, pp46_7, pp46_8, pp46_9⟩ := pq46
  show BW M_X12_init 189 [(0, vr 161)] [] (S19, h46, 0, 0) _
  refine bw_ret (M := M_X12_init) (pc := 189) dX12_init_189 rfl ?_
  refine ⟨rfl, fun i => ?_, fun i hi k => ?_, fun i i1 i2 => ?_, ?_⟩
  · show i ∈ S19 ↔ i ∈ S0 ∨ (161 < i ∧ i < 161 + 20)
    rw [m19, m18, m17, m16, m15, m14, m13, m12, m11, m10, m9, m8, m7, m6, m5, m4, m3, m2, m1]
    by_cases z : i ∈ S0
    · simp [z]
    · simp only [z, false_or]; omega
  · show h46 i k = h0 i k
    rw [f46 i k (by omega), ← eh45, mset_o (by omega), ← eh44, mz_o (by omega), ← eh43, mset_o (by omega), ← eh42, mz_o (by omega), ← eh41, mset_o (by omega), ← eh40, mz_o (by omega), ← eh39, mset_o (by omega), ← eh38, mz_o (by omega), ← eh37, mset_o (by omega), ← eh36, mz_o (by omega), ← eh35, mset_o (by omega), ← eh34, mz_o (by omega), ← eh33, mset_o (by omega), ← eh32, mz_o (by omega), ← eh31, mset_o (by omega), ← eh30, mz_o (by omega), ← eh29, mset_o (by omega), ← eh28, mz_o (by omega), ← eh27, mset_o (by omega), ← eh26, mz_o (by omega), ← eh25, mset_o (by omega), ← eh24, mz_o (by omega), ← eh23, mset_o (by omega), ← eh22, mz_o (by omega), ← eh21, mset_o (by omega), ← eh20, mset_o (by omega), ← eh19, mset_o (by omega), ← eh18, mz_o (by omega), ← eh17, mset_o (by omega), ← eh16, mz_o (by omega), ← eh15, mset_o (by omega), ← eh14, mz_o (by omega), ← eh13, mset_o (by omega), ← eh12, mset_o (by omega), ← eh11, mset_o (by omega), ← eh10, mset_o (by omega), ← eh9, mset_o (by omega), ← eh8, mz_o (by omega), ← eh7, mset_o (by omega), ← eh6, mz_o (by omega), ← eh5, mset_o (by omega), ← eh4, mset_o (by omega), ← eh3, mz_o (by omega), ← eh2, mset_o (by omega), ← eh1, mz_o (by omega)]
  · show FlagOK h46 i
    rcases (show i = 161 ∨ i = 162 ∨ i = 163 ∨ i = 164 ∨ i = 165 ∨ i = 166 ∨ i = 167 ∨ i = 168 ∨ i = 169 ∨ i = 170 ∨ i = 171 ∨ i = 172 ∨ i = 173 ∨ i = 174 ∨ i = 175 ∨ i = 176 ∨ i = 177 ∨ i = 178 ∨ i = 179 ∨ i = 180 by omega) with y | y | y | y | y | y | y | y | y | y | y | y | y | y | y | y | y | y | y | y
    · rw [y]
      refine flag_ob rfl (fun k hk h4 => ?_)
      have hk : k < 44 := hk
      rcases (show k = 0 ∨ k = 1 ∨ k = 2 ∨ k = 3 ∨ k = 4 ∨ k = 5 ∨ k = 6 ∨ k = 7 ∨ k = 8 ∨ k = 9 ∨ k = 10 ∨ k = 11 ∨ k = 12 ∨ k = 13 ∨ k = 14 ∨ k = 15 ∨ k = 16 ∨ k = 17 ∨ k = 18 ∨ k = 19 ∨ k = 20 ∨ k = 21 ∨ k = 22 ∨ k = 23 ∨ k = 24 ∨ k = 25 ∨ k = 26 ∨ k = 27 ∨ k = 28 ∨ k = 29 ∨ k = 30 ∨ k = 31 ∨ k = 32 ∨ k = 33 ∨ k = 34 ∨ k = 35 ∨ k = 36 ∨ k = 37 ∨ k = 38 ∨ k = 39 ∨ k = 40 ∨ k = 41 ∨ k = 42 ∨ k = 43 by omega) with rfl | rfl | rfl | rfl | rfl | rfl | rfl | rfl | rfl | rfl | rfl | rfl | rfl | rfl | rfl | rfl | rfl | rfl | rfl | rfl | rfl | rfl | rfl | rfl | rfl | rfl | rfl | rfl | rfl | rfl | rfl | rfl | rfl | rfl | rfl | rfl | rfl | rfl | rfl | rfl | rfl | rfl | rfl | rfl
      · exact (show h46 161 0 = 1 from by rw [f46 161 0 (by omega), ← eh45, mset_o (by omega), ← eh44, mz_o (by omega), ← eh43, mset_o (by omega), ← eh42, mz_o (by omega), ← eh41, mset_o (by omega), ← eh40, mz_o (by omega), ← eh39, mset_o (by omega), ← eh38, mz_o (by omega), ← eh37, mset_o (by omega), ← eh36, mz_o (by omega), ← eh35, mset_o (by omega), ← eh34, mz_o (by omega), ← eh33, mset_o (by omega), ← eh32, mz_o (by omega), ← eh31, mset_o (by omega), ← eh30, mz_o (by omega), ← eh29, mset_o (by omega), ← eh28, mz_o (by omega), ← eh27, mset_o (by omega), ← eh26, mz_o (by omega), ← eh25, mset_o (by omega), ← eh24, mz_o (by omega), ← eh23, mset_o (by omega), ← eh22, mz_o (by omega), ← eh21, mset_o (by omega), ← eh20, mset_o (by omega), ← eh19, mset_o (by omega), ← eh18, mz_o (by omega), ← eh17, mset_o (by omega), ← eh16, mz_o (by omega), ← eh15, mset_o (by omega), ← eh14, mz_o (by omega), ← eh13, mset_o (by omega), ← eh12, mset_o (by omega), ← eh11, mset_o (by omega), ← eh10, mset_o (by omega), ← eh9, mset_o (by omega), ← eh8, mz_o (by omega), ← eh7, mset_o (by omega), ← eh6, mz_o (by omega), ← eh5, mset_o (by omega), ← eh4, mset_o (by omega), ← eh3, mz_o (by omega), ← eh2, mset_at])
      · exact (show h46 161 1 = 1 from by rw [f46 161 1 (by omega), ← eh45, mset_o (by omega), ← eh44, mz_o (by omega), ← eh43, mset_o (by omega), ← eh42, mz_o (by omega), ← eh41, mset_o (by omega), ← eh40, mz_o (by omega), ← eh39, mset_o (by omega), ← eh38, mz_o (by omega), ← eh37, mset_o (by omega), ← eh36, mz_o (by omega), ← eh35, mset_o (by omega), ← eh34, mz_o (by omega), ← eh33, mset_o (by omega), ← eh32, mz_o (by omega), ← eh31, mset_o (by omega), ← eh30, mz_o (by omega), ← eh29, mset_o (by omega), ← eh28, mz_o (by omega), ← eh27, mset_o (by omega), ← eh26, mz_o (by omega), ← eh25, mset_o (by omega), ← eh24, mz_o (by omega), ← eh23, mset_o (by omega), ← eh22, mz_o (by omega), ← eh21, mset_o (by omega), ← eh20, mset_o (by omega), ← eh19, mset_o (by omega), ← eh18, mz_o (by omega), ← eh17, mset_o (by omega), ← eh16, mz_o (by omega), ← eh15, mset_o (by omega), ← eh14, mz_o (by omega), ← eh13, mset_o (by omega), ← eh12, mset_o (by omega), ← eh11, mset_o (by omega), ← eh10, mset_o (by omega), ← eh9, mset_o (by omega), ← eh8, mz_o (by omega), ← eh7, mset_o (by omega), ← eh6, mz_o (by omega), ← eh5, mset_o (by omega), ← eh4, mset_at])
      · exact absurd h4 (by decide)
      · exact absurd h4 (by decide)
      · exact absurd h4 (by decide)
      · exact (show h46 161 5 = 1 from by rw [f46 161 5 (by omega), ← eh45, mset_o (by omega), ← eh44, mz_o (by omega), ← eh43, mset_o (by omega), ← eh42, mz_o (by omega), ← eh41, mset_o (by omega), ← eh40, mz_o (by omega), ← eh39, mset_o (by omega), ← eh38, mz_o (by omega), ← eh37, mset_o (by omega), ← eh36, mz_o (by omega), ← eh35, mset_o (by omega), ← eh34, mz_o (by omega), ← eh33, mset_o (by omega), ← eh32, mz_o (by omega), ← eh31, mset_o (by omega), ← eh30, mz_o (by omega), ← eh29, mset_o (by omega), ← eh28, mz_o (by omega), ← eh27, mset_o (by omega), ← eh26, mz_o (by omega), ← eh25, mset_o (by omega), ← eh24, mz_o (by omega), ← eh23, mset_o (by omega), ← eh22, mz_o (by omega), ← eh21, mset_o (by omega), ← eh20, mset_o (by omega), ← eh19, mset_o (by omega), ← eh18, mz_o (by omega), ← eh17, mset_o (by omega), ← eh16, mz_o (by omega), ← eh15, mset_o (by omega), ← eh14, mz_o (by omega), ← eh13, mset_o (by omega), ← eh12, mset_o (by omega), ← eh11, mset_o (by omega), ← eh10, mset_o (by omega), ← eh9, mset_o (by omega), ← eh8, mz_o (by omega), ← eh7, mset_at])
      · exact (show h46 161 6 = 1 from by rw [f46 161 6 (by omega), ← eh45, mset_o (by omega), ← eh44, mz_o (by omega), ← eh43, mset_o (by omega), ← eh42, mz_o (by omega), ← eh41, mset_o (by omega), ← eh40, mz_o (by omega), ← eh39, mset_o (by omega), ← eh38, mz_o (by omega), ← eh37, mset_o (by omega), ← eh36, mz_o (by omega), ← eh35, mset_o (by omega), ← eh34, mz_o (by omega), ← eh33, mset_o (by omega), ← eh32, mz_o (by omega), ← eh31, mset_o (by omega), ← eh30, mz_o (by omega), ← eh29, mset_o (by omega), ← eh28, mz_o (by omega), ← eh27, mset_o (by omega), ← eh26, mz_o (by omega), ← eh25, mset_o (by omega), ← eh24, mz_o (by omega), ← eh23, mset_o (by omega), ← eh22, mz_o (by omega), ← eh21, mset_o (by omega), ← eh20, mset_o (by omega), ← eh19, mset_o (by omega), ← eh18, mz_o (by omega), ← eh17, mset_o (by omega), ← eh16, mz_o (by omega), ← eh15, mset_o (by omega), ← eh14, mz_o (by omega), ← eh13, mset_at])
      · exact (show h46 161 7 = 1 from by rw [f46 161 7 (by omega), ← eh45, mset_o (by omega), ← eh44, mz_o (by omega), ← eh43, mset_o (by omega), ← eh42, mz_o (by omega), ← eh41, mset_o (by omega), ← eh40, mz_o (by omega), ← eh39, mset_o (by omega), ← eh38, mz_o (by omega), ← eh37, mset_o (by omega), ← eh36, mz_o (by omega), ← eh35, mset_o (by omega), ← eh34, mz_o (by omega), ← eh33, mset_o (by omega), ← eh32, mz_o (by omega), ← eh31, mset_o (by omega), ← eh30, mz_o (by omega), ← eh29, mset_o (by omega), ← eh28, mz_o (by omega), ← eh27, mset_o (by omega), ← eh26, mz_o (by omega), ← eh25, mset_o (by omega), ← eh24, mz_o (by omega), ← eh23, mset_o (by omega), ← eh22, mz_o (by omega), ← eh21, mset_o (by omega), ← eh20, mset_o (by omega), ← eh19, mset_o (by omega), ← eh18, mz_o (by omega), ← eh17, mset_o (by omega), ← eh16, mz_o (by omega), ← eh15, mset_at])
      · exact (show h46 161 8 = 1 from by rw [f46 161 8 (by omega), ← eh45, mset_o (by omega), ← eh44, mz_o (by omega), ← eh43, mset_o (by omega), ← eh42, mz_o (by omega), ← eh41, mset_o (by omega), ← eh40, mz_o (by omega), ← eh39, mset_o (by omega), ← eh38, mz_o (by omega), ← eh37, mset_o (by omega), ← eh36, mz_o (by omega), ← eh35, mset_o (by omega), ← eh34, mz_o (by omega), ← eh33, mset_o (by omega), ← eh32, mz_o (by omega), ← eh31, mset_o (by omega), ← eh30, mz_o (by omega), ← eh29, mset_o (by omega), ← eh28, mz_o (by omega), ← eh27, mset_o (by omega), ← eh26, mz_o (by omega), ← eh25, mset_o (by omega), ← eh24, mz_o (by omega), ← eh23, mset_o (by omega), ← eh22, mz_o (by omega), ← eh21, mset_o (by omega), ← eh20, mset_o (by omega), ← eh19, mset_o (by omega), ← eh18, mz_o (by omega), ← eh17, mset_at])
      · exact (show h46 161 9 = 1 from by rw [f46 161 9 (by omega), ← eh45, mset_o (by omega), ← eh44, mz_o (by omega), ← eh43, mset_o (by omega), ← eh42, mz_o (by omega), ← eh41, mset_o (by omega), ← eh40, mz_o (by omega), ← eh39, mset_o (by omega), ← eh38, mz_o (by omega), ← eh37, mset_o (by omega), ← eh36, mz_o (by omega), ← eh35, mset_o (by omega), ← eh34, mz_o (by omega), ← eh33, mset_o (by omega), ← eh32, mz_o (by omega), ← eh31, mset_o (by omega), ← eh30, mz_o (by omega), ← eh29, mset_o (by omega), ← eh28, mz_o (by omega), ← eh27, mset_o (by omega), ← eh26, mz_o (by omega), ← eh25, mset_o (by omega), ← eh24, mz_o (by omega), ← eh23, mset_o (by omega), ← eh22, mz_o (by omega), ← eh21, mset_o (by omega), ← eh20, mset_o (by omega), ← eh19, mset_at])
      · exact absurd h4 (by decide)
      · exact absurd h4 (by decide)
      · exact absurd h4 (by decide)
      · exact absurd h4 (by decide)
      · exact absurd h4 (by decide)
      · exact absurd h4 (by decide)
      · exact absurd h4 (by decide)
      · exact absurd h4 (by decide)
      · exact absurd h4 (by decide)
      · exact absurd h4 (by decide)
      · exact absurd h4 (by decide)
      · exact (show h46 161 21 = 1 from by rw [f46 161 21 (by omega), ← eh45, mset_o (by omega), ← eh44, mz_o (by omega), ← eh43, mset_o (by omega), ← eh42, mz_o (by omega), ← eh41, mset_o (by omega), ← eh40, mz_o (by omega), ← eh39, mset_o (by omega), ← eh38, mz_o (by omega), ← eh37, mset_o (by omega), ← eh36, mz_o (by omega), ← eh35, mset_o (by omega), ← eh34, mz_o (by omega), ← eh33, mset_o (by omega), ← eh32, mz_o (by omega), ← eh31, mset_o (by omega), ← eh30, mz_o (by omega), ← eh29, mset_o (by omega), ← eh28, mz_o (by omega), ← eh27, mset_o (by omega), ← eh26, mz_o (by omega), ← eh25, mset_o (by omega), ← eh24, mz_o (by omega), ← eh23, mset_at])
      · exact absurd h4 (by decide)
      · exact absurd h4 (by decide)
      · exact (show h46 161 24 = 1 from by rw [f46 161 24 (by omega), ← eh45, mset_o (by omega), ← eh44, mz_o (by omega), ← eh43, mset_o (by omega), ← eh42, mz_o (by omega), ← eh41, mset_o (by omega), ← eh40, mz_o (by omega), ← eh39, mset_o (by omega), ← eh38, mz_o (by omega), ← eh37, mset_o (by omega), ← eh36, mz_o (by omega), ← eh35, mset_o (by omega), ← eh34, mz_o (by omega), ← eh33, mset_o (by omega), ← eh32, mz_o (by omega), ← eh31, mset_o (by omega), ← eh30, mz_o (by omega), ← eh29, mset_o (by omega), ← eh28, mz_o (by omega), ← eh27, mset_o (by omega), ← eh26, mz_o (by omega), ← eh25, mset_at])
      · exact absurd h4 (by decide)
      · exact absurd h4 (by decide)
      · exact (show h46 161 27 = 1 from by rw [f46 161 27 (by omega), ← eh45, mset_o (by omega), ← eh44, mz_o (by omega), ← eh43, mset_o (by omega), ← eh42, mz_o (by omega), ← eh41, mset_o (by omega), ← eh40, mz_o (by omega), ← eh39, mset_o (by omega), ← eh38, mz_o (by omega), ← eh37, mset_o (by omega), ← eh36, mz_o (by omega), ← eh35, mset_o (by omega), ← eh34, mz_o (by omega), ← eh33, mset_o (by omega), ← eh32, mz_o (by omega), ← eh31, mset_o (by omega), ← eh30, mz_o (by omega), ← eh29, mset_o (by omega), ← eh28, mz_o (by omega), ← eh27, mset_at])
      · exact (show h46 161 28 = 1 from by rw [f46 161 28 (by omega), ← eh45, mset_o (by omega), ← eh44, mz_o (by omega), ← eh43, mset_o (by omega), ← eh42, mz_o (by omega), ← eh41, mset_o (by omega), ← eh40, mz_o (by omega), ← eh39, mset_o (by omega), ← eh38, mz_o (by omega), ← eh37, mset_o (by omega), ← eh36, mz_o (by omega), ← eh35, mset_o (by omega), ← eh34, mz_o (by omega), ← eh33, mset_o (by omega), ← eh32, mz_o (by omega), ← eh31, mset_o (by omega), ← eh30, mz_o (by omega), ← eh29, mset_at])
      · exact (show h46 161 29 = 1 from by rw [f46 161 29 (by omega), ← eh45, mset_o (by omega), ← eh44, mz_o (by omega), ← eh43, mset_o (by omega), ← eh42, mz_o (by omega), ← eh41, mset_o (by omega), ← eh40, mz_o (by omega), ← eh39, mset_o (by omega), ← eh38, mz_o (by omega), ← eh37, mset_o (by omega), ← eh36, mz_o (by omega), ← eh35, mset_o (by omega), ← eh34, mz_o (by omega), ← eh33, mset_o (by omega), ← eh32, mz_o (by omega), ← eh31, mset_at])
      · exact absurd h4 (by decide)
      · exact absurd h4 (by decide)
      · exact absurd h4 (by decide)
      · exact (show h46 161 33 = 1 from by rw [f46 161 33 (by omega), ← eh45, mset_o (by omega), ← eh44, mz_o (by omega), ← eh43, mset_o (by omega), ← eh42, mz_o (by omega), ← eh41, mset_o (by omega), ← eh40, mz_o (by omega), ← eh39, mset_o (by omega), ← eh38, mz_o (by omega), ← eh37, mset_o (by omega), ← eh36, mz_o (by omega), ← eh35, mset_o (by omega), ← eh34, mz_o (by omega), ← eh33, mset_at])
      · exact (show h46 161 34 = 1 from by rw [f46 161 34 (by omega), ← eh45, mset_o (by omega), ← eh44, mz_o (by omega), ← eh43, mset_o (by omega), ← eh42, mz_o (by omega), ← eh41, mset_o (by omega), ← eh40, mz_o (by omega), ← eh39, mset_o (by omega), ← eh38, mz_o (by omega), ← eh37, mset_o (by omega), ← eh36, mz_o (by omega), ← eh35, mset_at])
      · exact (show h46 161 35 = 1 from by rw [f46 161 35 (by omega), ← eh45, mset_o (by omega), ← eh44, mz_o (by omega), ← eh43, mset_o (by omega), ← eh42, mz_o (by omega), ← eh41, mset_o (by omega), ← eh40, mz_o (by omega), ← eh39, mset_o (by omega), ← eh38, mz_o (by omega), ← eh37, mset_at])
      · exact (show h46 161 36 = 1 from by rw [f46 161 36 (by omega), ← eh45, mset_o (by omega), ← eh44, mz_o (by omega), ← eh43, mset_o (by omega), ← eh42, mz_o (by omega), ← eh41, mset_o (by omega), ← eh40, mz_o (by omega), ← eh39, mset_at])
      · exact absurd h4 (by decide)
      · exact absurd h4 (by decide)
      · exact (show h46 161 39 = 1 from by rw [f46 161 39 (by omega), ← eh45, mset_o (by omega), ← eh44, mz_o (by omega), ← eh43, mset_o (by omega), ← eh42, mz_o (by omega), ← eh41, mset_at])
      · exact (show h46 161 40 = 1 from by rw [f46 161 40 (by omega), ← eh45, mset_o (by omega), ← eh44, mz_o (by omega), ← eh43, mset_at])
      · exact (show h46 161 41 = 1 from by rw [f46 161 41 (by omega), ← eh45, mset_at])
      · exact absurd h4 (by decide)
      · exact absurd h4 (by decide)
    · rw [y]; exact flag_arr rfl (by omega)
    · rw [y]; exact flag_arr rfl (by omega)
    · rw [y]; exact flag_arr rfl (by omega)
    · rw [y]; exact flag_arr rfl (by omega)
    · rw [y]; exact flag_arr rfl (by omega)
    · rw [y]; exact flag_arr rfl (by omega)
    · rw [y]; exact flag_arr rfl (by omega)
    · rw [y]; exact flag_arr rfl (by omega)
    · rw [y]; exact flag_arr rfl (by omega)
    · rw [y]; exact flag_arr rfl (by omega)
    · rw [y]; exact flag_arr rfl (by omega)
    · rw [y]; exact flag_arr rfl (by omega)
    · rw [y]; exact flag_arr rfl (by omega)
    · rw [y]; exact flag_arr rfl (by omega)
    · rw [y]; exact flag_arr rfl (by omega)
    · rw [y]; exact flag_arr rfl (by omega)
    · rw [y]; exact flag_arr rfl (by omega)
    · rw [y]; exact flag_arr rfl (by omega)
    · rw [y]; exact flag_arr rfl (by omega)
  · exact ⟨(show h46 161 2 = 0 from by rw [f46 161 2 (by omega), ← eh45, mset_o (by omega), ← eh44, mz_o (by omega), ← eh43, mset_o (by omega), ← eh42, mz_o (by omega), ← eh41, mset_o (by omega), ← eh40, mz_o (by omega), ← eh39, mset_o (by omega), ← eh38, mz_o (by omega), ← eh37, mset_o (by omega), ← eh36, mz_o (by omega), ← eh35, mset_o (by omega), ← eh34, mz_o (by omega), ← eh33, mset_o (by omega), ← eh32, mz_o (by omega), ← eh31, mset_o (by omega), ← eh30, mz_o (by omega), ← eh29, mset_o (by omega), ← eh28, mz_o (by omega), ← eh27, mset_o (by omega), ← eh26, mz_o (by omega), ← eh25, mset_o (by omega), ← eh24, mz_o (by omega), ← eh23, mset_o (by omega), ← eh22, mz_o (by omega), ← eh21, mset_o (by omega), ← eh20, mset_o (by omega), ← eh19, mset_o (by omega), ← eh18, mz_o (by omega), ← eh17, mset_o (by omega), ← eh16, mz_o (by omega), ← eh15, mset_o (by omega), ← eh14, mz_o (by omega), ← eh13, mset_o (by omega), ← eh12, mset_o (by omega), ← eh11, mset_o (by omega), ← eh10, mset_o (by omega), ← eh9, mset_o (by omega), ← eh8, mz_o (by omega), ← eh7, mset_o (by omega), ← eh6, mz_o (by omega), ← eh5, mset_o (by omega), ← eh4, mset_o (by omega), ← eh3, mz_o (by omega), ← eh2, mset_o (by omega), ← eh1, mz_o (by omega)]; exact (hz 2).trans rfl), (show h46 161 3 = 0 from by rw [f46 161 3 (by omega), ← eh45, mset_o (by omega), ← eh44, mz_o (by omega), ← eh43, mset_o (by omega), ← eh42, mz_o (by omega), ← eh41, mset_o (by omega), ← eh40, mz_o (by omega), ← eh39, mset_o (by omega), ← eh38, mz_o (by omega), ← eh37, mset_o (by omega), ← eh36, mz_o (by omega), ← eh35, mset_o (by omega), ← eh34, mz_o (by omega), ← eh33, mset_o (by omega), ← eh32, mz_o (by omega), ← eh31, mset_o (by omega), ← eh30, mz_o (by omega), ← eh29, mset_o (by omega), ← eh28, mz_o (by omega), ← eh27, mset_o (by omega), ← eh26, mz_o (by omega), ← eh25, mset_o (by omega), ← eh24, mz_o (by omega), ← eh23, mset_o (by omega), ← eh22, mz_o (by omega), ← eh21, mset_o (by omega), ← eh20, mset_o (by omega), ← eh19, mset_o (by omega), ← eh18, mz_o (by omega), ← eh17, mset_o (by omega), ← eh16, mz_o (by omega), ← eh15, mset_o (by omega), ← eh14, mz_o (by omega), ← eh13, mset_o (by omega), ← eh12, mset_o (by omega), ← eh11, mset_o (by omega), ← eh10, mset_o (by omega), ← eh9, mset_o (by omega), ← eh8, mz_o (by omega), ← eh7, mset_o (by omega), ← eh6, mz_o (by omega), ← eh5, mset_o (by omega), ← eh4, mset_o (by omega), ← eh3, mz_o (by omega), ← eh2, mset_o (by omega), ← eh1, mz_o (by omega)]; exact (hz 3).trans rfl), (show h46 161 4 = 1 from by rw [f46 161 4 (by omega), ← eh45, mset_o (by omega), ← eh44, mz_o (by omega), ← eh43, mset_o (by omega), ← eh42, mz_o (by omega), ← eh41, mset_o (by omega), ← eh40, mz_o (by omega), ← eh39, mset_o (by omega), ← eh38, mz_o (by omega), ← eh37, mset_o (by omega), ← eh36, mz_o (by omega), ← eh35, mset_o (by omega), ← eh34, mz_o (by omega), ← eh33, mset_o (by omega), ← eh32, mz_o (by omega), ← eh31, mset_o (by omega), ← eh30, mz_o (by omega), ← eh29, mset_o (by omega), ← eh28, mz_o (by omega), ← eh27, mset_o (by omega), ← eh26, mz_o (by omega), ← eh25, mset_o (by omega), ← eh24, mz_o (by omega), ← eh23, mset_o (by omega), ← eh22, mz_o (by omega), ← eh21, mset_o (by omega), ← eh20, mset_o (by omega), ← eh19, mset_o (by omega), ← eh18, mz_o (by omega), ← eh17, mset_o (by omega), ← eh16, mz_o (by omega), ← eh15, mset_o (by omega), ← eh14, mz_o (by omega), ← eh13, mset_o (by omega), ← eh12, mset_o (by omega), ← eh11, mset_o (by omega), ← eh10, mset_o (by omega), ← eh9, mset_o (by omega), ← eh8, mz_o (by omega), ← eh7, mset_o (by omega), ← eh6, mz_o (by omega), ← eh5, mset_at]), (show h46 161 10 = 0 from by rw [f46 161 10 (by omega), ← eh45, mset_o (by omega), ← eh44, mz_o (by omega), ← eh43, mset_o (by omega), ← eh42, mz_o (by omega), ← eh41, mset_o (by omega), ← eh40, mz_o (by omega), ← eh39, mset_o (by omega), ← eh38, mz_o (by omega), ← eh37, mset_o (by omega), ← eh36, mz_o (by omega), ← eh35, mset_o (by omega), ← eh34, mz_o (by omega), ← eh33, mset_o (by omega), ← eh32, mz_o (by omega), ← eh31, mset_o (by omega), ← eh30, mz_o (by omega), ← eh29, mset_o (by omega), ← eh28, mz_o (by omega), ← eh27, mset_o (by omega), ← eh26, mz_o (by omega), ← eh25, mset_o (by omega), ← eh24, mz_o (by omega), ← eh23, mset_o (by omega), ← eh22, mz_o (by omega), ← eh21, mset_o (by omega), ← eh20, mset_o (by omega), ← eh19, mset_o (by omega), ← eh18, mz_o (by omega), ← eh17, mset_o (by omega), ← eh16, mz_o (by omega), ← eh15, mset_o (by omega), ← eh14, mz_o (by omega), ← eh13, mset_o (by omega), ← eh12, mset_o (by omega), ← eh11, mset_o (by omega), ← eh10, mset_o (by omega), ← eh9, mset_o (by omega), ← eh8, mz_o (by omega), ← eh7, mset_o (by omega), ← eh6, mz_o (by omega), ← eh5, mset_o (by omega), ← eh4, mset_o (by omega), ← eh3, mz_o (by omega), ← eh2, mset_o (by omega), ← eh1, mz_o (by omega)]; exact (hz 10).trans rfl), (show h46 161 16 = (-1) from by rw [f46 161 16 (by omega), ← eh45, mset_o (by omega), ← eh44, mz_o (by omega), ← eh43, mset_o (by omega), ← eh42, mz_o (by omega), ← eh41, mset_o (by omega), ← eh40, mz_o (by omega), ← eh39, mset_o (by omega), ← eh38, mz_o (by omega), ← eh37, mset_o (by omega), ← eh36, mz_o (by omega), ← eh35, mset_o (by omega), ← eh34, mz_o (by omega), ← eh33, mset_o (by omega), ← eh32, mz_o (by omega), ← eh31, mset_o (by omega), ← eh30, mz_o (by omega), ← eh29, mset_o (by omega), ← eh28, mz_o (by omega), ← eh27, mset_o (by omega), ← eh26, mz_o (by omega), ← eh25, mset_o (by omega), ← eh24, mz_o (by omega), ← eh23, mset_o (by omega), ← eh22, mz_o (by omega), ← eh21, mset_o (by omega), ← eh20, mset_at]), (show h46 161 17 = (-1) from by rw [f46 161 17 (by omega), ← eh45, mset_o (by omega), ← eh44, mz_o (by omega), ← eh43, mset_o (by omega), ← eh42, mz_o (by omega), ← eh41, mset_o (by omega), ← eh40, mz_o (by omega), ← eh39, mset_o (by omega), ← eh38, mz_o (by omega), ← eh37, mset_o (by omega), ← eh36, mz_o (by omega), ← eh35, mset_o (by omega), ← eh34, mz_o (by omega), ← eh33, mset_o (by omega), ← eh32, mz_o (by omega), ← eh31, mset_o (by omega), ← eh30, mz_o (by omega), ← eh29, mset_o (by omega), ← eh28, mz_o (by omega), ← eh27, mset_o (by omega), ← eh26, mz_o (by omega), ← eh25, mset_o (by omega), ← eh24, mz_o (by omega), ← eh23, mset_o (by omega), ← eh22, mz_o (by omega), ← eh21, mset_at]), (show h46 161 42 = 0 from by rw [f46 161 42 (by omega), ← eh45, mset_o (by omega), ← eh44, mz_o (by omega), ← eh43, mset_o (by omega), ← eh42, mz_o (by omega), ← eh41, mset_o (by omega), ← eh40, mz_o (by omega), ← eh39, mset_o (by omega), ← eh38, mz_o (by omega), ← eh37, mset_o (by omega), ← eh36, mz_o (by omega), ← eh35, mset_o (by omega), ← eh34, mz_o (by omega), ← eh33, mset_o (by omega), ← eh32, mz_o (by omega), ← eh31, mset_o (by omega), ← eh30, mz_o (by omega), ← eh29, mset_o (by omega), ← eh28, mz_o (by omega), ← eh27, mset_o (by omega), ← eh26, mz_o (by omega), ← eh25, mset_o (by omega), ← eh24, mz_o (by omega), ← eh23, mset_o (by omega), ← eh22, mz_o (by omega), ← eh21, mset_o (by omega), ← eh20, mset_o (by omega), ← eh19, mset_o (by omega), ← eh18, mz_o (by omega), ← eh17, mset_o (by omega), ← eh16, mz_o (by omega), ← eh15, mset_o (by omega), ← eh14, mz_o (by omega), ← eh13, mset_o (by omega), ← eh12, mset_o (by omega), ← eh11, mset_o (by omega), ← eh10, mset_o (by omega), ← eh9, mset_o (by omega), ← eh8, mz_o (by omega), ← eh7, mset_o (by omega), ← eh6, mz_o (by omega), ← eh5, mset_o (by omega), ← eh4, mset_o (by omega), ← eh3, mz_o (by omega), ← eh2, mset_o (by omega), ← eh1, mz_o (by omega)]; exact (hz 42).trans rfl), (show h46 161 43 = 0 from by rw [f46 161 43 (by omega), ← eh45, mset_o (by omega), ← eh44, mz_o (by omega), ← eh43, mset_o (by omega), ← eh42, mz_o (by omega), ← eh41, mset_o (by omega), ← eh40, mz_o (by omega), ← eh39, mset_o (by omega), ← eh38, mz_o (by omega), ← eh37, mset_o (by omega), ← eh36, mz_o (by omega), ← eh35, mset_o (by omega), ← eh34, mz_o (by omega), ← eh33, mset_o (by omega), ← eh32, mz_o (by omega), ← eh31, mset_o (by omega), ← eh30, mz_o (by omega), ← eh29, mset_o (by omega), ← eh28, mz_o (by omega), ← eh27, mset_o (by omega), ← eh26, mz_o (by omega), ← eh25, mset_o (by omega), ← eh24, mz_o (by omega), ← eh23, mset_o (by omega), ← eh22, mz_o (by omega), ← eh21, mset_o (by omega), ← eh20, mset_o (by omega), ← eh19, mset_o (by omega), ← eh18, mz_o (by omega), ← eh17, mset_o (by omega), ← eh16, mz_o (by omega), ← eh15, mset_o (by omega), ← eh14, mz_o (by omega), ← eh13, mset_o (by omega), ← eh12, mset_o (by omega), ← eh11, mset_o (by omega), ← eh10, mset_o (by omega), ← eh9, mset_o (by omega), ← eh8, mz_o (by omega), ← eh7, mset_o (by omega), ← eh6, mz_o (by omega), ← eh5, mset_o (by omega), ← eh4, mset_o (by omega), ← eh3, mz_o (by omega), ← eh2, mset_o (by omega), ← eh1, mz_o (by omega)]; exact (hz 43).trans rfl), (show h46 165 0 = (-1) from by rw [f46 165 0 (by omega), ← eh45, mset_o (by omega), ← eh44, mz_o (by omega), ← eh43, mset_o (by omega), ← eh42, mz_o (by omega), ← eh41, mset_o (by omega), ← eh40, mz_o (by omega), ← eh39, mset_o (by omega), ← eh38, mz_o (by omega), ← eh37, mset_o (by omega), ← eh36, mz_o (by omega), ← eh35, mset_o (by omega), ← eh34, mz_o (by omega), ← eh33, mset_o (by omega), ← eh32, mz_o (by omega), ← eh31, mset_o (by omega), ← eh30, mz_o (by omega), ← eh29, mset_o (by omega), ← eh28, mz_o (by omega), ← eh27, mset_o (by omega), ← eh26, mz_o (by omega), ← eh25, mset_o (by omega), ← eh24, mz_o (by omega), ← eh23, mset_o (by omega), ← eh22, mz_o (by omega), ← eh21, mset_o (by omega), ← eh20, mset_o (by omega), ← eh19, mset_o (by omega), ← eh18, mz_o (by omega), ← eh17, mset_o (by omega), ← eh16, mz_o (by omega), ← eh15, mset_o (by omega), ← eh14, mz_o (by omega), ← eh13, mset_o (by omega), ← eh12, mset_o (by omega), ← eh11, mset_o (by omega), ← eh10, mset_o (by omega), ← eh9, mset_at]), (show h46 165 1 = (-1) from by rw [f46 165 1 (by omega), ← eh45, mset_o (by omega), ← eh44, mz_o (by omega), ← eh43, mset_o (by omega), ← eh42, mz_o (by omega), ← eh41, mset_o (by omega), ← eh40, mz_o (by omega), ← eh39, mset_o (by omega), ← eh38, mz_o (by omega), ← eh37, mset_o (by omega), ← eh36, mz_o (by omega), ← eh35, mset_o (by omega), ← eh34, mz_o (by omega), ← eh33, mset_o (by omega), ← eh32, mz_o (by omega), ← eh31, mset_o (by omega), ← eh30, mz_o (by omega), ← eh29, mset_o (by omega), ← eh28, mz_o (by omega), ← eh27, mset_o (by omega), ← eh26, mz_o (by omega), ← eh25, mset_o (by omega), ← eh24, mz_o (by omega), ← eh23, mset_o (by omega), ← eh22, mz_o (by omega), ← eh21, mset_o (by omega), ← eh20, mset_o (by omega), ← eh19, mset_o (by omega), ← eh18, mz_o (by omega), ← eh17, mset_o (by omega), ← eh16, mz_o (by omega), ← eh15, mset_o (by omega), ← eh14, mz_o (by omega), ← eh13, mset_o (by omega), ← eh12, mset_o (by omega), ← eh11, mset_o (by omega), ← eh10, mset_at]), (show h46 165 2 = (-1) from by rw [f46 165 2 (by omega), ← eh45, mset_o (by omega), ← eh44, mz_o (by omega), ← eh43, mset_o (by omega), ← eh42, mz_o (by omega), ← eh41, mset_o (by omega), ← eh40, mz_o (by omega), ← eh39, mset_o (by omega), ← eh38, mz_o (by omega), ← eh37, mset_o (by omega), ← eh36, mz_o (by omega), ← eh35, mset_o (by omega), ← eh34, mz_o (by omega), ← eh33, mset_o (by omega), ← eh32, mz_o (by omega), ← eh31, mset_o (by omega), ← eh30, mz_o (by omega), ← eh29, mset_o (by omega), ← eh28, mz_o (by omega), ← eh27, mset_o (by omega), ← eh26, mz_o (by omega), ← eh25, mset_o (by omega), ← eh24, mz_o (by omega), ← eh23, mset_o (by omega), ← eh22, mz_o (by omega), ← eh21, mset_o (by omega), ← eh20, mset_o (by omega), ← eh19, mset_o (by omega), ← eh18, mz_o (by omega), ← eh17, mset_o (by omega), ← eh16, mz_o (by omega), ← eh15, mset_o (by omega), ← eh14, mz_o (by omega), ← eh13, mset_o (by omega), ← eh12, mset_o (by omega), ← eh11, mset_at]), (show h46 165 3 = (-1) from by rw [f46 165 3 (by omega), ← eh45, mset_o (by omega), ← eh44, mz_o (by omega), ← eh43, mset_o (by omega), ← eh42, mz_o (by omega), ← eh41, mset_o (by omega), ← eh40, mz_o (by omega), ← eh39, mset_o (by omega), ← eh38, mz_o (by omega), ← eh37, mset_o (by omega), ← eh36, mz_o (by omega), ← eh35, mset_o (by omega), ← eh34, mz_o (by omega), ← eh33, mset_o (by omega), ← eh32, mz_o (by omega), ← eh31, mset_o (by omega), ← eh30, mz_o (by omega), ← eh29, mset_o (by omega), ← eh28, mz_o (by omega), ← eh27, mset_o (by omega), ← eh26, mz_o (by omega), ← eh25, mset_o (by omega), ← eh24, mz_o (by omega), ← eh23, mset_o (by omega), ← eh22, mz_o (by omega), ← eh21, mset_o (by omega), ← eh20, mset_o (by omega), ← eh19, mset_o (by omega), ← eh18, mz_o (by omega), ← eh17, mset_o (by omega), ← eh16, mz_o (by omega), ← eh15, mset_o (by omega), ← eh14, mz_o (by omega), ← eh13, mset_o (by omega), ← eh12, mset_at]), (show h46 162 0 = 0 from pp46_0), (show h46 162 1 = 0 from pp46_1), (show h46 162 2 = 8 from pp46_2), (show h46 162 3 = 10 from pp46_3), (show h46 162 4 = 4 from pp46_4), (show h46 162 5 = 0 from pp46_5), (show h46 162 6 = 0 from pp46_6), (show h46 162 7 = 1 from pp46_7), (show h46 162 8 = 0 from pp46_8), (show h46 162 9 = (-1) from pp46_9)⟩
