/-! till something is so
-/
def addN (r : Int) : Int := if r = -1 then -1 else r + 1
def tHome (t : Nat) : Nat → Gs → Int
  | 0, g => if g 4 t = 3 then 0 else -1
  | m + 1, g => if g 4 t = 3 then 0 else addN (tHome t m (pass g))
def tTurn : Nat → Gs → Int
  | 0, _ => -1
  | m + 1, g => if tn g = 1 then 0 else addN (tTurn m (pass g))
theorem addN_in {r : Int} {m : Nat} (h : r = -1 ∨ (0 ≤ r ∧ r ≤ m)) : addN r = -1 ∨ (0 ≤ addN r ∧ addN r ≤ (m : Int) + 1) := by
  unfold addN
  split <;> omega
theorem tHome_in (t : Nat) : ∀ (m : Nat) (g : Gs), tHome t m g = -1 ∨ (0 ≤ tHome t m g ∧ tHome t m g ≤ m) := by
  intro m
  induction m with
  | zero => intro g; unfold tHome; split <;> omega
  | succ m ih =>
    intro g
    unfold tHome
    split
    · omega
    · have := addN_in (ih (pass g)); omega
theorem tTurn_in : ∀ (m : Nat) (g : Gs), tTurn m g = -1 ∨ (0 ≤ tTurn m g ∧ tTurn m g < m) := by
  intro m
  induction m with
  | zero => intro g; unfold tTurn; omega
  | succ m ih =>
    intro g
    unfold tTurn
    split
    · omega
    · have := ih (pass g)
      unfold addN
      split <;> omega
def plusN (i r : Int) : Int := if r = -1 then -1 else i + r
theorem plusN_addN (i r : Int) (h : -1 ≤ r) : plusN (i + 1) r = plusN i (addN r) := by
  unfold plusN addN
  by_cases c : r = -1
  · rw [if_pos c, if_pos c, if_pos rfl]
  · rw [if_neg c, if_neg c, if_neg (by omega)]; omega
theorem s_tillHome {h : Mem} {o t k : Nat} {x y : Int} {g : Gs} {B : Int} {Q : Int → Mem → Prop} (hx : x = (t : Int)) (hy : y = (k : Int)) (hl : lay o = (0, 4)) (hR : RC h o g) (hW : WF B g) (hB : B + k ≤ 800000) (ht : t < gn g) (hQ : ∀ u, Fr o (o + 15) h u → Q (tHome t k g) u) : F_X4_hoursTillHome h o x y Q := by
  subst hx hy
  have ws0 := hW.1
  unfold WFs at ws0
  generalize hRe : tHome t k g = R at hQ
  obtain ⟨n8, nc⟩ := gn8 hW
  have key : ∀ (m i : Nat) (z : Int) (u : Mem) (g1 : Gs) (B1 : Int), z = (i : Int) → i + m = k → RC u o g1 → WF B1 g1 → B1 + m ≤ 800000 → gn g1 = gn g → plusN i (tHome t m g1) = R → Fr o (o + 15) h u → L_X4_hoursTillHome_2 u o (t : Int) (k : Int) z Q := by
    intro m
    induction m with
    | zero =>
      intro i z u g1 B1 hz hi r w hb hg hp f
      subst hz
      have e := (r.1.2.1.2 t (by omega)).2.2.2.2.1
      refine l_X4_hoursTillHome_2 hl ?_
      unfold B_X4_hoursTillHome_2
      rw [Int.toNat_natCast, e]
      have fin : ∀ v, Fr o (o + 15) h v → Q (R) v := hQ
      refine ⟨fun c => absurd c (by omega), fun c => ⟨⟨by omega, by omega⟩, fun c2 => s_passHour hl r w (by omega) (fun v rv fv => ⟨⟨by omega, by omega⟩, ?_⟩), fun c2 => ?_⟩⟩
      · refine l_X4_hoursTillHome_2 hl ?_
        unfold B_X4_hoursTillHome_2
        refine ⟨fun _ => ?_, fun c3 => absurd (by omega) c3⟩
        unfold tHome at hp
        rw [if_neg c2] at hp
        have : R = -1 := by rw [← hp]; rfl
        have q := hQ v (f.tr fv)
        rw [this] at q
        exact q
      · unfold tHome at hp
        rw [if_pos c2] at hp
        have : R = (i : Int) := by rw [← hp]; unfold plusN; rw [if_neg (by decide)]; omega
        have q := hQ u f
        rw [this] at q
        exact q
    | succ m ih =>
      intro i z u g1 B1 hz hi r w hb hg hp f
      subst hz
      have e := (r.1.2.1.2 t (by omega)).2.2.2.2.1
      have ti := tHome_in t m (pass g1)
      refine l_X4_hoursTillHome_2 hl ?_
      unfold B_X4_hoursTillHome_2
      rw [Int.toNat_natCast, e]
      unfold tHome at hp
      refine ⟨fun c => absurd c (by omega), fun c => ⟨⟨by omega, by omega⟩, fun c2 => s_passHour hl r w (by omega) (fun v rv fv => ⟨⟨by omega, by omega⟩, ?_⟩), fun c2 => ?_⟩⟩
      · rw [if_neg c2] at hp
        exact ih (i + 1) ((i : Int) + 1) v (pass g1) (B1 + 1) (by omega) (by omega) rv w.pass (by omega) (by rw [gn_pass, hg]) (by rw [← hp]; exact plusN_addN i _ (by omega)) (f.tr fv)
      · rw [if_pos c2] at hp
        have : R = (i : Int) := by rw [← hp]; unfold plusN; rw [if_neg (by decide)]; omega
        have q := hQ u f
        rw [this] at q
        exact q
  have := tHome_in t k g
  rw [hRe] at this
  exact key k 0 0 h g B rfl (by omega) hR hW hB rfl (by rw [hRe]; unfold plusN; split <;> omega) Fr.rf
theorem q_homeOf {h : Mem} {t : Nat} {x : Int} {g : Gs} {B : Int} {Q : Int → Mem → Prop} (hx : x = (t : Int)) (hR : RXh h g) (hW : WF B g) (hB : B ≤ 700000) (ht : t < gn g) (hQ : ∀ u, FMh h u → Q (tHome t 400 g) u) : F_X12_homeOf h x Q := by
  subst hx
  have ws0 := hW.1
  unfold WFs at ws0
  generalize hRe : tHome t 400 g = R at hQ
  obtain ⟨n8, nc⟩ := gn8 hW
  have key : ∀ (m i : Nat) (z : Int) (u : Mem) (g1 : Gs) (B1 : Int), z = (i : Int) → i + m = 400 → RXh u g1 → WF B1 g1 → B1 + m ≤ 800000 → gn g1 = gn g → plusN i (tHome t m g1) = R → FMh h u → L_X12_homeOf_2 u (t : Int) z Q := by
    intro m
    induction m with
    | zero =>
      intro i z u g1 B1 hz hi r w hb hg hp f
      subst hz
      have e : u 162 (12 + 7 * t + 3) = g1 4 t := r.1.2.1 t 3 (by omega) (by omega) (fun q => absurd q (by omega))
      refine l_X12_homeOf_2 ?_
      unfold B_X12_homeOf_2 J_X12_homeOf_30
      refine ⟨fun _ => q_thingOf (k := 3) rfl rfl (by omega) (by omega) ?_, fun c => absurd (by omega) c⟩
      rw [e]
      unfold tHome at hp
      refine ⟨fun c2 => ?_, fun c2 => ?_⟩
      · rw [if_neg c2] at hp
        have : R = -1 := by rw [← hp]; rfl
        have q := hQ u f
        rw [this] at q
        exact q
      · rw [if_pos c2] at hp
        have : R = (i : Int) := by rw [← hp]; unfold plusN; rw [if_neg (by decide)]; omega
        have q := hQ u f
        rw [this] at q
        exact q
    | succ m ih =>
      intro i z u g1 B1 hz hi r w hb hg hp f
      subst hz
      have e : u 162 (12 + 7 * t + 3) = g1 4 t := r.1.2.1 t 3 (by omega) (by omega) (fun q => absurd q (by omega))
      have ti := tHome_in t m (pass g1)
      refine l_X12_homeOf_2 ?_
      unfold B_X12_homeOf_2 J_X12_homeOf_30
      unfold tHome at hp
      refine ⟨fun c => absurd c (by omega), fun c => q_thingOf (k := 3) rfl rfl (by omega) (by omega) ?_⟩
      rw [e]
      refine ⟨fun c2 => q_thingOf (k := 3) rfl rfl (by omega) (by omega) ?_, fun c2 => q_hour r w (by omega) (fun v rv fv => ⟨⟨by omega, by omega⟩, ?_⟩)⟩
      · rw [e]
        rw [if_pos c2] at hp
        have : R = (i : Int) := by rw [← hp]; unfold plusN; rw [if_neg (by decide)]; omega
        have q := hQ u f
        rw [this] at q
        exact ⟨fun c3 => absurd c2 c3, fun _ => q⟩
      · rw [if_neg c2] at hp
        exact ih (i + 1) ((i : Int) + 1) v (pass g1) (B1 + 1) (by omega) (by omega) rv w.pass (by omega) (by rw [gn_pass, hg]) (by rw [← hp]; exact plusN_addN i _ (by omega)) (f.tr fv)
  have := tHome_in t 400 g
  rw [hRe] at this
  exact key 400 0 0 h g B rfl (by omega) hR hW (by omega) rfl (by rw [hRe]; unfold plusN; split <;> omega) FMh.rf
theorem tn_01 (g : Gs) : tn g = 0 ∨ tn g = 1 := by unfold tn; split <;> simp
theorem s_tillTurn {h : Mem} {o k : Nat} {y : Int} {g : Gs} {B : Int} {Q : Int → Mem → Prop} (hy : y = (k : Int)) (hl : lay o = (0, 4)) (hR : RC h o g) (hW : WF B g) (hB : B + k ≤ 800000) (hQ : ∀ u, Fr o (o + 15) h u → Q (tTurn k g) u) : F_X4_hoursTillTurn h o y Q := by
  subst hy
  have ws0 := hW.1
  unfold WFs at ws0
  generalize hRe : tTurn k g = R at hQ
  have key : ∀ (m i : Nat) (z : Int) (u : Mem) (g1 : Gs) (B1 : Int), z = (i : Int) → i + m = k → RC u o g1 → WF B1 g1 → B1 + m ≤ 800000 → plusN i (tTurn m g1) = R → Fr o (o + 15) h u → L_X4_hoursTillTurn_2 u o (k : Int) z Q := by
    intro m
    induction m with
    | zero =>
      intro i z u g1 B1 hz hi r w hb hp f
      subst hz
      refine l_X4_hoursTillTurn_2 hl ?_
      unfold B_X4_hoursTillTurn_2
      refine ⟨fun _ => ?_, fun c => absurd (by omega) c⟩
      have : R = -1 := by rw [← hp]; rfl
      have q := hQ u f
      rw [this] at q
      exact q
    | succ m ih =>
      intro i z u g1 B1 hz hi r w hb hp f
      subst hz
      have ti := tTurn_in m (pass g1)
      refine l_X4_hoursTillTurn_2 hl ?_
      unfold B_X4_hoursTillTurn_2
      unfold tTurn at hp
      have t01 := tn_01 g1
      refine ⟨fun c => absurd c (by omega), fun c => s_passHour hl r w (by omega) (fun v rv fv => ⟨fun c2 => ⟨⟨by omega, by omega⟩, ?_⟩, fun c2 => ?_⟩)⟩
      · rw [if_neg (by omega)] at hp
        exact ih (i + 1) ((i : Int) + 1) v (pass g1) (B1 + 1) (by omega) (by omega) rv w.pass (by omega) (by rw [← hp]; exact plusN_addN i _ (by omega)) (f.tr fv)
      · rw [if_pos (by omega)] at hp
        have : R = (i : Int) := by rw [← hp]; unfold plusN; rw [if_neg (by decide)]; omega
        have q := hQ v (f.tr fv)
        rw [this] at q
        exact q
  have := tTurn_in k g
  rw [hRe] at this
  exact key k 0 0 h g B rfl (by omega) hR hW hB (by rw [hRe]; unfold plusN; split <;> omega) Fr.rf
theorem q_nextTurn {h : Mem} {k : Nat} {y : Int} {g : Gs} {B : Int} {Q : Int → Mem → Prop} (hy : y = (k : Int)) (hR : RXh h g) (hW : WF B g) (hB : B + k ≤ 800000) (hQ : ∀ u, FMh h u → Q (tTurn k g) u) : F_X12_nextTurn h y Q := by
  subst hy
  have ws0 := hW.1
  unfold WFs at ws0
  generalize hRe : tTurn k g = R at hQ
  have key : ∀ (m i : Nat) (z : Int) (u : Mem) (g1 : Gs) (B1 : Int), z = (i : Int) → i + m = k → RXh u g1 → WF B1 g1 → B1 + m ≤ 800000 → plusN i (tTurn m g1) = R → FMh h u → L_X12_nextTurn_2 u (k : Int) z Q := by
    intro m
    induction m with
    | zero =>
      intro i z u g1 B1 hz hi r w hb hp f
      subst hz
      refine l_X12_nextTurn_2 ?_
      unfold B_X12_nextTurn_2
      refine ⟨fun _ => ?_, fun c => absurd (by omega) c⟩
      have : R = -1 := by rw [← hp]; rfl
      have q := hQ u f
      rw [this] at q
      exact q
    | succ m ih =>
      intro i z u g1 B1 hz hi r w hb hp f
      subst hz
      have ti := tTurn_in m (pass g1)
      refine l_X12_nextTurn_2 ?_
      unfold B_X12_nextTurn_2
      unfold tTurn at hp
      have t01 := tn_01 g1
      refine ⟨fun c => absurd c (by omega), fun c => q_hour r w (by omega) (fun v rv fv => ⟨fun c2 => ⟨⟨by omega, by omega⟩, ?_⟩, fun c2 => ?_⟩)⟩
      · rw [if_neg (by omega)] at hp
        exact ih (i + 1) ((i : Int) + 1) v (pass g1) (B1 + 1) (by omega) (by omega) rv w.pass (by omega) (by rw [← hp]; exact plusN_addN i _ (by omega)) (f.tr fv)
      · rw [if_pos (by omega)] at hp
        have : R = (i : Int) := by rw [← hp]; unfold plusN; rw [if_neg (by decide)]; omega
        have q := hQ v (f.tr fv)
        rw [this] at q
        exact q
  have := tTurn_in k g
  rw [hRe] at this
  exact key k 0 0 h g B rfl (by omega) hR hW hB (by rw [hRe]; unfold plusN; split <;> omega) FMh.rf
/-! what the reference keeps and restores -/
def FK (to : Nat) (h u : Mem) : Prop := ∀ i k, ¬ (i = 162 ∧ to ≤ k ∧ k < to + 80) → u i k = h i k
theorem q_keeps {h : Mem} {to : Nat} {x : Int} {Q : Mem → Prop} (hx : x = (to : Int)) (hto : 80 ≤ to ∧ to + 80 ≤ 3008) (hQ : ∀ u, (∀ k, k < 80 → u 162 (to + k) = h 162 k) → FK to h u → Q u) : F_X12_keeps h x Q := by
  subst hx
  have key : ∀ (m i : Nat) (z : Int) (u : Mem), z = (i : Int) → i + m = 80 → (∀ k, k < i → u 162 (to + k) = h 162 k) → FK to h u → L_X12_keeps_2 u (to : Int) z Q := by
    intro m
    induction m with
    | zero =>
      intro i z u hz hi hk f
      subst hz
      refine l_X12_keeps_2 ?_
      unfold B_X12_keeps_2
      exact ⟨fun _ => hQ u (fun k q => hk k (by omega)) f, fun c => absurd (by omega) c⟩
    | succ m ih =>
      intro i z u hz hi hk f
      subst hz
      refine l_X12_keeps_2 ?_
      unfold B_X12_keeps_2
      refine ⟨fun c => absurd c (by omega), fun c => ⟨⟨by omega, by omega⟩, ⟨by omega, by omega⟩, ⟨by omega, by omega⟩, fun v hv => ⟨⟨by omega, by omega⟩, ?_⟩⟩⟩
      rw [Int.toNat_natCast, show ((to : Int) + (i : Int)).toNat = to + i by omega, f 162 i (by omega)] at hv
      refine ih (i + 1) ((i : Int) + 1) v (by omega) (by omega) (fun k q => ?_) (fun a b q => ?_)
      · by_cases c2 : k = i
        · subst c2; rw [hv, mset_at]
        · rw [hv, mset_k (by omega)]; exact hk k (by omega)
      · rw [hv]
        have : mset u 162 (to + i) (h 162 i) a b = u a b := by unfold mset; rw [if_neg (by omega)]
        rw [this]
        exact f a b q
  exact key 80 0 0 h rfl (by omega) (fun k q => absurd q (Nat.not_lt_zero k)) (fun _ _ _ => rfl)
theorem q_restores {h : Mem} {fr : Nat} {x : Int} {Q : Mem → Prop} (hx : x = (fr : Int)) (hto : 80 ≤ fr ∧ fr + 80 ≤ 3008) (h9 : h 162 (fr + 9) = h 162 9) (hQ : ∀ u, (∀ k, k < 80 → u 162 k = h 162 (fr + k)) → FMh h u → Q u) : F_X12_restores h x Q := by
  subst hx
  have key : ∀ (m i : Nat) (z : Int) (u : Mem), z = (i : Int) → i + m = 80 → (∀ k, k < i → u 162 k = h 162 (fr + k)) → (∀ a b, (a ≠ 162 ∨ 80 ≤ b) → u a b = h a b) → L_X12_restores_2 u (fr : Int) z Q := by
    intro m
    induction m with
    | zero =>
      intro i z u hz hi hk f
      subst hz
      refine l_X12_restores_2 ?_
      unfold B_X12_restores_2
      refine ⟨fun _ => hQ u (fun k q => hk k (by omega)) (fun a b q => ?_), fun c => absurd (by omega) c⟩
      by_cases c : a = 162 ∧ b = 9
      · obtain ⟨rfl, rfl⟩ := c
        rw [hk 9 (by omega)]; exact h9
      · exact f a b (by omega)
    | succ m ih =>
      intro i z u hz hi hk f
      subst hz
      refine l_X12_restores_2 ?_
      unfold B_X12_restores_2
      refine ⟨fun c => absurd c (by omega), fun c => ⟨⟨by omega, by omega⟩, ⟨by omega, by omega⟩, ⟨by omega, by omega⟩, fun v hv => ⟨⟨by omega, by omega⟩, ?_⟩⟩⟩
      rw [Int.toNat_natCast, show ((fr : Int) + (i : Int)).toNat = fr + i by omega, f 162 (fr + i) (by omega)] at hv
      refine ih (i + 1) ((i : Int) + 1) v (by omega) (by omega) (fun k q => ?_) (fun a b q => ?_)
      · by_cases c2 : k = i
        · subst c2; rw [hv, mset_at]
        · rw [hv, mset_k (by omega)]; exact hk k (by omega)
      · rw [hv]
        have : mset u 162 i (h 162 (fr + i)) a b = u a b := by unfold mset; rw [if_neg (by omega)]
        rw [this]
        exact f a b q
  exact key 80 0 0 h rfl (by omega) (fun k q => absurd q (Nat.not_lt_zero k)) (fun _ _ _ => rfl)
theorem RXh.fr {h u : Mem} {g : Gs} (r : RXh h g) (n8 : gn g ≤ 8) (n4 : gm g ≤ 4) (f : ∀ k, k < 80 → u 162 k = h 162 k) : RXh u g := by
  obtain ⟨⟨a, b, c⟩, d⟩ := r
  refine ⟨⟨fun i hi h5 => by rw [f i (by omega)]; exact a i hi h5, fun t k ht hk hv => by rw [f _ (by omega)]; exact b t k ht hk hv, fun m k hm hk => by rw [f _ (by omega)]; exact c m k hm hk⟩, by rw [f 5 (by omega)]; exact d⟩
