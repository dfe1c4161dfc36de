/-! BW: arrays of references -/
section BWQ
variable {M : Hd} {pc : Nat} {ls : LoS} {st : List Vl} {h : BM} {Q : PostB}
theorem bw_newq {idt ix n n0 idx : Nat} {C : String} {x : Int} (hd : decode M.1 pc = .ok (.anewarray idx, 3)) (hcl : Cond.classLink M.2.2.1 idx C ∈ lw_g) (hov : ∀ u : State, NW u → va_AO C u) (hl0 : lay n0 = (idt, n)) (h9 : idt < 9) (hx : x = (n : Int)) (hnew : n0 ∉ h.1) (hb : 1 ≤ h.2.2.1 ∧ n ≤ h.2.2.2) (hby : n ≤ 1000) (htl : ∀ τ : Nat → ClassId, (tyl τ)[ix]? = some (τ ix, .object C))
    (hen : ∀ (β : Nat → Nat) (τ : Nat → ClassId) (g : Mem), (∀ k, g n0 k = 0) → entB β τ g n0 = .inl (τ ix, n, .inr (.inr (.inr (.inr (fun _ => none)))))) (hz : ∀ k, dfl n0 k = 0) (kk : BW M (pc + 3) ls (vr n0 :: st) (h.1 ++ [n0], mz h.2.1 n0, h.2.2.1 - 1, h.2.2.2 - n) Q) : BW M pc ls ((0, x) :: st) h Q := by
  intro p l e R s m args below meth c H locs cells slots Z D α τ A hF hN hC hE h1 h2 hs hl L hL
  have hn := lay_small hl0
  subst hx
  have hcp := cp_n (x := (n : Int)) (by omega) ⟨by omega, by omega⟩
  refine va_newq (N' := n) (C := C) hF.1 hF.2.1 hF.2.2.2.1 (hF.2.2.2.2.1 _ hcl) (hov s hN.2) hF.2.2.2.2.2.1 hC.1 hC.2.1 hC.2.2.1 hF.2.2.2.2.2.2.2.2.2.2.1 hcp.1 (by rw [hcp.2, Int.toNat_natCast]) (by omega) (by omega) (by omega) hd (fun q cA H1 pK p1 p2 p3 => ?_)
  have eA : cA = τ ix := by
    obtain ⟨_, _, _, _, _, r1⟩ := (pK.2 (tyl τ).length (cA, .object C) (by rw [List.getElem?_append_right (Nat.le_refl _), Nat.sub_self]; rfl)).2
    obtain ⟨_, _, _, _, _, r2⟩ := (hF.2.2.2.2.2.1.2 ix (τ ix, .object C) (htl τ)).2
    exact Option.some.inj (r1.symm.trans r2)
  subst eA
  exact bw_more hF hN hC hE h1 h2 (bok_t hs) hl hL (lay_lt hl0 h9) hnew hb (hen _ _ _ (fun k => by rw [mz_at]; exact hz k)) kk p1 p2 p3
theorem bw_new5 {n n0 idx : Nat} {x : Int} (hd : decode M.1 pc = .ok (.anewarray idx, 3)) (hcl : Cond.classLink M.2.2.1 idx RX4 ∈ lw_g) (hl0 : lay n0 = (5, n)) (hx : x = (n : Int)) (hnew : n0 ∉ h.1) (hb : 1 ≤ h.2.2.1 ∧ n ≤ h.2.2.2) (hby : n ≤ 1000) (kk : BW M (pc + 3) ls (vr n0 :: st) (h.1 ++ [n0], mz h.2.1 n0, h.2.2.1 - 1, h.2.2.2 - n) Q) : BW M pc ls ((0, x) :: st) h Q :=
  bw_newq (ix := 4) hd hcl (fun u g => g.2.2.1) hl0 (by omega) hx hnew hb hby (fun τ => rfl) (fun β τ g hg => by rw [entB_5 hl0, show (fun j => if g n0 j = 1 then some (β (n0 + 1 + 15 * j)) else none) = fun _ => none from funext (fun j => by rw [hg, if_neg (by decide)])]) (dfl_arr hl0 (by omega)) kk
theorem bw_new6 {n n0 idx : Nat} {x : Int} (hd : decode M.1 pc = .ok (.anewarray idx, 3)) (hcl : Cond.classLink M.2.2.1 idx RX1 ∈ lw_g) (hl0 : lay n0 = (6, n)) (hx : x = (n : Int)) (hnew : n0 ∉ h.1) (hb : 1 ≤ h.2.2.1 ∧ n ≤ h.2.2.2) (hby : n ≤ 1000) (kk : BW M (pc + 3) ls (vr n0 :: st) (h.1 ++ [n0], mz h.2.1 n0, h.2.2.1 - 1, h.2.2.2 - n) Q) : BW M pc ls ((0, x) :: st) h Q :=
  bw_newq (ix := 5) hd hcl (fun u g => g.2.2.2) hl0 (by omega) hx hnew hb hby (fun τ => rfl) (fun β τ g hg => by rw [entB_6 hl0, show (fun j => if g n0 j = 1 then some (β (n0 + 1 + 6 * j)) else none) = fun _ => none from funext (fun j => by rw [hg, if_neg (by decide)])]) (dfl_arr hl0 (by omega)) kk
theorem bw_aast {idt ix b n k v ci N mul : Nat} {i : Int} {C : String} {T : u_T} (hd : decode M.1 pc = .ok (.aastore, 1)) (hb : lay b = (idt, n)) (h9 : idt < 9) (hi : 0 ≤ i ∧ i < (n : Int)) (hk : i.toNat = k) (hv : b + 1 + mul * k = v) (hlv : lay v = (0, ci)) (hcl : vwCl[ci]? = some (C, T, N)) (htl : ∀ τ : Nat → ClassId, (tyl τ)[ix]? = some (τ ix, .object C))
    (hen : ∀ (β : Nat → Nat) (τ : Nat → ClassId) (g : Mem), entB β τ g b = .inl (τ ix, n, .inr (.inr (.inr (.inr (fun j => if g b j = 1 then some (β (b + 1 + mul * j)) else none)))))) (htg : ∀ g : Mem, g b k = 1 → tg g b k = v) (hsk : skd b k = 9) (kk : BW M (pc + 1) ls st (h.1, mset h.2.1 b k 1, h.2.2) Q) : BW M pc ls (vr v :: (0, i) :: vr b :: st) h Q := by
  intro p l e R s m args below meth c H locs cells slots Z D α τ A hF hN hC hE h1 h2 hs hl L hL
  subst hk
  obtain ⟨g1, g2⟩ := i32_in hi (lay_small hb)
  have haS := bin_S (bok_h (bok_t (bok_t hs))) hb h9
  have hvS := bin_S (bok_h hs) hlv (by omega)
  obtain ⟨q0, hq, hw⟩ := wdS_mem (α := α) (τ := τ) (h := h.2.1) haS
  obtain ⟨q1, hq1, hw1⟩ := wdS_mem (α := α) (τ := τ) (h := h.2.1) hvS
  refine va_astq hF.1 hF.2.1 hF.2.2.2.2.2.1 hC.1 hC.2.1 hC.2.2.1 q0 ix q1 ci (cA := τ ix) (r := (C, T, N)) (by rw [hw, hen]) (htl τ) (by rw [hw1, entB_ob hlv]) hcl g1 hd (fun H1 locs1 p1 p2 p3 => ?_)
  have ef : va_up (fun j => if h.2.1 b j = 1 then some (α (b + 1 + mul * j)) else none) (Int32.ofInt i).toNatClampNeg (some (α v)) = fun j => if mset h.2.1 b i.toNat 1 b j = 1 then some (α (b + 1 + mul * j)) else none := by
    rw [g2]
    funext j
    unfold va_up
    by_cases z : j = i.toNat
    · rw [if_pos z, z, if_pos mset_at, hv]
    · rw [if_neg z, mset_k z]
  rw [ef, wdS_set hC.2.1 hq (hen _ _ _) (fun i j hij => mset_i j hij)] at p1 p2
  exact kk p l e R s m args below meth c H1 locs1 cells slots Z D α τ A hF hN ⟨p1, p2, p3, hC.2.2.2.1.set (by rw [hsk]; trivial), hC.2.2.2.2.1, hC.2.2.2.2.2.at (by rw [htg _ mset_at]; exact hvS)⟩ hE h1 h2 (bok_t (bok_t (bok_t hs))) hl L hL
theorem bw_aast5 {b n k v N : Nat} {i : Int} {T : u_T} (hd : decode M.1 pc = .ok (.aastore, 1)) (hb : lay b = (5, n)) (hi : 0 ≤ i ∧ i < (n : Int)) (hk : i.toNat = k) (hv : b + 1 + 15 * k = v) (hlv : lay v = (0, 4)) (hcl : vwCl[4]? = some (RX4, T, N)) (kk : BW M (pc + 1) ls st (h.1, mset h.2.1 b k 1, h.2.2) Q) : BW M pc ls (vr v :: (0, i) :: vr b :: st) h Q :=
  bw_aast (ix := 4) hd hb (by omega) hi hk hv hlv hcl (fun τ => rfl) (fun β τ g => entB_5 hb) (fun g hg => by unfold tg; rw [hb]; show (if g b k = 1 then b + 1 + 15 * k else b) = v; rw [if_pos hg, hv]) (by unfold skd; rw [hb]; rfl) kk
theorem bw_aast6 {b n k v N : Nat} {i : Int} {T : u_T} (hd : decode M.1 pc = .ok (.aastore, 1)) (hb : lay b = (6, n)) (hi : 0 ≤ i ∧ i < (n : Int)) (hk : i.toNat = k) (hv : b + 1 + 6 * k = v) (hlv : lay v = (0, 1)) (hcl : vwCl[1]? = some (RX1, T, N)) (kk : BW M (pc + 1) ls st (h.1, mset h.2.1 b k 1, h.2.2) Q) : BW M pc ls (vr v :: (0, i) :: vr b :: st) h Q :=
  bw_aast (ix := 5) hd hb (by omega) hi hk hv hlv hcl (fun τ => rfl) (fun β τ g => entB_6 hb) (fun g hg => by unfold tg; rw [hb]; show (if g b k = 1 then b + 1 + 6 * k else b) = v; rw [if_pos hg, hv]) (by unfold skd; rw [hb]; rfl) kk
/-- the memory when the four rows are there -/
def mq (h : Mem) (n : Nat) : Mem := fun i j => if i = n then (if j < 4 then 1 else 0) else if n < i ∧ i < n + 5 then 0 else h i j
theorem mq_o {h : Mem} {n i j : Nat} (e : ¬ (n ≤ i ∧ i < n + 5)) : mq h n i j = h i j := by unfold mq; rw [if_neg (by omega), if_neg (by omega)]
theorem mq_0 {h : Mem} {n j : Nat} : mq h n n j = if j < 4 then 1 else 0 := by unfold mq; rw [if_pos rfl]
theorem mq_r {h : Mem} {n i j : Nat} (e : n < i ∧ i < n + 5) : mq h n i j = 0 := by unfold mq; rw [if_neg (by omega), if_pos e]
theorem bw_multi {n0 idx : Nat} (hd : decode M.1 pc = .ok (.multianewarray idx 2, 4)) (hcl : Cond.classLink M.2.2.1 idx "[[J" ∈ lw_g) (harr : Cond.arrayClass .long ∈ lw_g) (hl0 : lay n0 = (7, 4)) (hl1 : ∀ j, j < 4 → lay (n0 + 1 + j) = (2, 60)) (hnew : ∀ j, j < 5 → n0 + j ∉ h.1) (hb : 5 ≤ h.2.2.1 ∧ 244 ≤ h.2.2.2)
    (kk : BW M (pc + 4) ls (vr n0 :: st) (h.1 ++ [n0, n0 + 1, n0 + 2, n0 + 3, n0 + 4], mq h.2.1 n0, h.2.2.1 - 5, h.2.2.2 - 244) Q) : BW M pc ls ((0, 60) :: (0, 4) :: st) h Q := by
  intro p l e R s m args below meth c H locs cells slots Z D α τ A hF hN hC hE h1 h2 hs hl L hL
  have hA := hF.2.2.2.2.2.2.2.2.2.2.1
  have hst := bok_t (bok_t hs)
  refine W_multi hF.1 hF.2.1 hF.2.2.2.1 (hF.2.2.2.2.1 _ hcl) hN.2.2.1 (hF.2.2.2.2.1 _ harr) hd (by omega) (by omega) (fun cA comp H1 f1 f2 z1 o1 t1 t2 => ?_)
  have e6 : cA = τ 6 := Option.some.inj (f1.symm.trans (hF.2.2.2.2.2.1.2 6 (τ 6, .array .long) rfl).2)
  have e1 : comp = τ 1 := Option.some.inj (f2.symm.trans (hF.2.2.2.2.2.1.2 1 (τ 1, .long) rfl).2)
  subst e6 e1
  obtain ⟨β, hβ⟩ : ∃ β : Nat → Nat, β = fun i => if n0 ≤ i ∧ i < n0 + 5 then H.size + (i - n0) else α i := ⟨_, rfl⟩
  have hn5 : n0 + 5 ≤ nOb := by
    have := lay_lt (hl1 3 (by omega)) (by omega)
    omega
  have inN : ∀ i, i ∈ [n0, n0 + 1, n0 + 2, n0 + 3, n0 + 4] ↔ n0 ≤ i ∧ i < n0 + 5 := fun i => by simp; omega
  have notS : ∀ i ∈ h.1, ¬ (n0 ≤ i ∧ i < n0 + 5) := fun i hi z => hnew (i - n0) (by omega) (by rw [show n0 + (i - n0) = i by omega]; exact hi)
  have big : ∀ i, i ∈ h.1 ∨ 181 ≤ i → β i = α i := fun i hi => by
    rw [hβ]
    refine if_neg (fun z => ?_)
    rcases hi with y | y
    · exact notS i y z
    · have : n0 + 5 ≤ 181 := hn5
      omega
  have bN : ∀ j, j < 5 → β (n0 + j) = H.size + j := fun j hj => by
    rw [hβ]
    show (if n0 ≤ n0 + j ∧ n0 + j < n0 + 5 then H.size + (n0 + j - n0) else α (n0 + j)) = _
    rw [if_pos (by omega)]
    omega
  have sub : ∀ i ∈ h.1, i ∈ h.1 ++ [n0, n0 + 1, n0 + 2, n0 + 3, n0 + 4] := fun i hi => List.mem_append_left _ hi
  -- the old ones
  have wOld : wdS β τ h.1 (mq h.2.1 n0) = wdS α τ h.1 h.2.1 := by
    unfold wdS
    refine List.map_congr_left (fun i hi => ?_)
    have ea : entB β τ h.2.1 i = entB α τ h.2.1 i := entB_al (fun k => big _ (Or.inl (hC.2.2.2.2.2 i hi k)))
    rw [big i (Or.inl hi), entB_other (h := h.2.1) (fun k => mq_o (notS i hi)), ea]
  have P1 : va_P D vwCl (wdS β τ h.1 (mq h.2.1 n0)) H1 := by
    rw [wOld]
    exact hC.1.kept (fun k q hk => o1 q.1 (hC.1 k q hk).lt)
  have at0 : va_at D vwCl (β n0, entB β τ (mq h.2.1 n0) n0) H1 := by
    rw [entB_7 hl0]
    show H1[β n0]? = some (vp_cell _ _)
    rw [vp_cell_q, show β n0 = H.size from bN 0 (by omega), t1]
    congr 2
    funext j
    unfold mRow
    rw [mq_0]
    by_cases c : j < 4
    · rw [if_pos c, if_pos c, if_pos rfl, show n0 + 1 + 1 * j = n0 + (1 + j) by omega, bN (1 + j) (by omega)]
      exact congrArg Value.ref (show (H.size + 1 + j : Nat) = H.size + (1 + j) from Nat.add_assoc _ _ _)
    · rw [if_neg c, if_neg c, if_neg (by decide)]; rfl
  have atR : ∀ j, j < 4 → va_at D vwCl (β (n0 + 1 + j), entB β τ (mq h.2.1 n0) (n0 + 1 + j)) H1 := fun j hj => by
    rw [entB_l (hl1 j hj)]
    show H1[β (n0 + 1 + j)]? = some (vp_cell _ _)
    rw [vp_cell_l, show n0 + 1 + j = n0 + (1 + j) by omega, bN (1 + j) (by omega), show H.size + (1 + j) = H.size + 1 + j by omega, t2 j hj]
    congr 2
    funext k
    rw [mq_r (by omega)]
    rfl
  have mem5 : ∀ i, n0 ≤ i ∧ i < n0 + 5 → va_at D vwCl (β i, entB β τ (mq h.2.1 n0) i) H1 := fun i hi => by
    by_cases c : i = n0
    · rw [c]; exact at0
    · have := atR (i - n0 - 1) (by omega)
      rw [show n0 + 1 + (i - n0 - 1) = i by omega] at this
      exact this
  have P2 : va_P D vwCl (wdS β τ (h.1 ++ [n0, n0 + 1, n0 + 2, n0 + 3, n0 + 4]) (mq h.2.1 n0)) H1 := fun k q hk => by
    obtain ⟨i, hi, rfl⟩ := wdS_at hk
    rcases List.mem_append.mp (List.mem_of_getElem? hi) with y | y
    · obtain ⟨k2, -, hk2⟩ := wdS_mem (α := β) (τ := τ) (h := mq h.2.1 n0) y
      exact P1 k2 _ hk2
    · exact mem5 i ((inN i).mp y)
  have nd : (h.1 ++ [n0, n0 + 1, n0 + 2, n0 + 3, n0 + 4])[0]? = (h.1 ++ [n0, n0 + 1, n0 + 2, n0 + 3, n0 + 4])[0]? := rfl
  have oldlt : ∀ i ∈ h.1, α i < H.size := fun i hi => by
    obtain ⟨k2, -, hk2⟩ := wdS_mem (α := α) (τ := τ) (h := h.2.1) hi
    exact (hC.1 k2 _ hk2).lt
  have idx : ∀ k i : Nat, (h.1 ++ [n0, n0 + 1, n0 + 2, n0 + 3, n0 + 4])[k]? = some i → (k < h.1.length ∧ h.1[k]? = some i) ∨ (h.1.length ≤ k ∧ i = n0 + (k - h.1.length) ∧ k < h.1.length + 5) := fun k i hk => by
    by_cases lt : k < h.1.length
    · rw [List.getElem?_append_left lt] at hk; exact Or.inl ⟨lt, hk⟩
    · rw [List.getElem?_append_right (by omega)] at hk
      have l5 : k - h.1.length < 5 := (List.getElem?_eq_some_iff.mp hk).1
      refine Or.inr ⟨by omega, ?_, by omega⟩
      generalize k - h.1.length = j at hk l5
      have : j = 0 ∨ j = 1 ∨ j = 2 ∨ j = 3 ∨ j = 4 := by omega
      rcases this with rfl | rfl | rfl | rfl | rfl <;> cases hk <;> rfl
  have D2 : va_D A (wdS β τ (h.1 ++ [n0, n0 + 1, n0 + 2, n0 + 3, n0 + 4]) (mq h.2.1 n0)) := by
    refine ⟨fun a b x y ha hb2 hxy => ?_, fun k q hk => ?_⟩
    · obtain ⟨i, hi, rfl⟩ := wdS_at ha
      obtain ⟨j, hj, rfl⟩ := wdS_at hb2
      have hxy : β i = β j := hxy
      rcases idx a i hi with ⟨l1, g1⟩ | ⟨l1, g1, g1'⟩ <;> rcases idx b j hj with ⟨l2, g2⟩ | ⟨l2, g2, g2'⟩
      · rw [big i (Or.inl (List.mem_of_getElem? g1)), big j (Or.inl (List.mem_of_getElem? g2))] at hxy
        exact hC.2.1.1 a b _ _ (by unfold wdS; rw [List.getElem?_map, g1]; rfl) (by unfold wdS; rw [List.getElem?_map, g2]; rfl) hxy
      · have := oldlt i (List.mem_of_getElem? g1)
        rw [big i (Or.inl (List.mem_of_getElem? g1)), g2, bN _ (by omega)] at hxy
        omega
      · have := oldlt j (List.mem_of_getElem? g2)
        rw [big j (Or.inl (List.mem_of_getElem? g2)), g1, bN _ (by omega)] at hxy
        omega
      · rw [g1, g2, bN _ (by omega), bN _ (by omega)] at hxy
        omega
    · obtain ⟨i, hi, rfl⟩ := wdS_at hk
      show A (β i)
      rcases idx k i hi with ⟨l1, g1⟩ | ⟨l1, g1, g1'⟩
      · rw [big i (Or.inl (List.mem_of_getElem? g1))]
        obtain ⟨k2, -, hk2⟩ := wdS_mem (α := α) (τ := τ) (h := h.2.1) (List.mem_of_getElem? g1)
        exact hC.2.1.2 k2 _ hk2
      · rw [g1, bN _ (by omega)]
        exact hA _ (by have := hC.2.2.1.1; omega)
  have S2 : va_S A s.heap H1 (locs ++ (List.range 4).map (fun j => (⟨H.size, j⟩ : Loc))) := by
    have q1 := hC.2.2.1
    refine ⟨by have := q1.1; omega, fun q g1 g2 => (o1 q (Nat.lt_of_lt_of_le g1 q1.1)).trans (q1.2.1 q g1 g2), fun l2 hl2 => ?_⟩
    rcases List.mem_append.mp hl2 with y | y
    · exact q1.2.2 l2 y
    · obtain ⟨j, -, rfl⟩ := List.mem_map.mp y
      exact hA _ q1.1
  have C2 : BCx s D β τ A H1 (locs ++ (List.range 4).map (fun j => (⟨H.size, j⟩ : Loc))) (h.1 ++ [n0, n0 + 1, n0 + 2, n0 + 3, n0 + 4], mq h.2.1 n0, 0, 0) := by
    refine ⟨P2, D2, S2, fun i k => ?_, fun i hi => ?_, fun i hi k => ?_⟩
    · show okv (skd i k) (mq h.2.1 n0 i k)
      by_cases c : n0 ≤ i ∧ i < n0 + 5
      · by_cases c0 : i = n0
        · have : skd i k = 9 := by unfold skd; rw [c0, hl0]; rfl
          rw [this]; trivial
        · have : skd i k = 1 := by
            have h2 := hl1 (i - n0 - 1) (by omega)
            rw [show n0 + 1 + (i - n0 - 1) = i by omega] at h2
            unfold skd; rw [h2]; rfl
          rw [this, mq_r (by omega)]
          exact ⟨by decide, by decide⟩
      · rw [mq_o c]; exact hC.2.2.2.1 i k
    · rcases List.mem_append.mp hi with y | y
      · exact hC.2.2.2.2.1 i y
      · have := (inN i).mp y
        omega
    · show tg (mq h.2.1 n0) i k ∈ h.1 ++ [n0, n0 + 1, n0 + 2, n0 + 3, n0 + 4]
      rcases List.mem_append.mp hi with y | y
      · rw [tg_o (mq_o (notS i y))]; exact sub _ (hC.2.2.2.2.2 i y k)
      · have r := (inN i).mp y
        by_cases c0 : i = n0
        · subst c0
          have et : tg (mq h.2.1 i) i k = if mq h.2.1 i i k = 1 then i + 1 + 1 * k else i := by unfold tg; rw [hl0]; rfl
          rw [et, mq_0]
          by_cases c : k < 4
          · rw [if_pos c, if_pos rfl]; exact List.mem_append_right _ ((inN _).mpr (by omega))
          · rw [if_neg c, if_neg (by decide)]; exact List.mem_append_right _ ((inN _).mpr (by omega))
        · have h2 := hl1 (i - n0 - 1) (by omega)
          rw [show n0 + 1 + (i - n0 - 1) = i by omega] at h2
          rw [tg_arr h2 (by omega)]
          exact hi
  have in0 : n0 ∈ h.1 ++ [n0, n0 + 1, n0 + 2, n0 + 3, n0 + 4] := List.mem_append_right _ List.mem_cons_self
  have ok3 : ∀ v ∈ vr n0 :: st, okB (h.1 ++ [n0, n0 + 1, n0 + 2, n0 + 3, n0 + 4]) v := bok_c (show n0 ∈ _ ∨ 181 ≤ n0 from Or.inl in0) (okB_sub hst sub)
  have k2 := bw_grow hF hN hE h1 h2 hl hL big sub C2 hb ok3 kk
  have e2 : stE β (vr n0 :: st) = .ref H.size :: stE α st := by
    show Value.ref (β n0) :: stE β st = _
    rw [show β n0 = H.size from bN 0 (by omega), stE_al hst big]
  rw [e2] at k2
  exact k2
end BWQ
