/-! the reference's side -/
def MS (h : Mem) (B : Nat → Int) (n s : Nat) : Prop := MT h B n s ∧ (h 161 18 = 0 ∧ h 161 17 = -1)
def ME (u : Mem) (e : Int × Nat) : Prop := u 161 18 = e.1 ∧ u 161 17 = (e.2 : Int) ∧ 0 < e.1
def FTf (h u : Mem) : Prop := ∀ i k, ¬ (i = 161 ∧ 12 ≤ k ∧ k ≤ 18 ∧ k ≠ 16) → u i k = h i k
theorem FTf.rf {h : Mem} : FTf h h := fun _ _ _ => rfl
theorem FTf.tr {h h1 h2 : Mem} (a : FTf h h1) (b : FTf h1 h2) : FTf h h2 := fun i k p => (b i k p).trans (a i k p)
theorem FTf.of {h u : Mem} (a : FT h u) : FTf h u := fun i k p => a i k (by omega)
theorem MS.fr {h u : Mem} {B : Nat → Int} {n s : Nat} (x : MS h B n s) (f : ∀ i k, (i = 161 ∧ 11 ≤ k ∧ k ≤ 18 ∧ k ≠ 16) ∨ i = 168 → u i k = h i k) : MS u B n s := ⟨x.1.fr (fun i k q => f i k (by omega)), by rw [f 161 18 (by omega)]; exact x.2.1, by rw [f 161 17 (by omega)]; exact x.2.2⟩
theorem kt_one {t : Int} : kt t = 1 ↔ t = 4 := by
  unfold kt
  by_cases a : t = 0
  · rw [if_pos a]; omega
  · rw [if_neg a]
    by_cases b : t = 4
    · rw [if_pos b]; omega
    · rw [if_neg b]; omega
theorem kt_of {t m : Int} (hm : 2 ≤ m ∧ m ≤ 4) (ht : 0 ≤ t ∧ t ≤ 4) : kt t = m ↔ t = m - 1 := by
  unfold kt
  by_cases a : t = 0
  · rw [if_pos a]; omega
  · rw [if_neg a]
    by_cases b : t = 4
    · rw [if_pos b]; omega
    · rw [if_neg b]; omega
theorem kt_z {t : Int} (ht : 0 ≤ t) : kt t = 0 ↔ t = 0 := by
  unfold kt
  by_cases a : t = 0
  · rw [if_pos a]; omega
  · rw [if_neg a]
    by_cases b : t = 4
    · rw [if_pos b]; omega
    · rw [if_neg b]; omega
theorem tke_in {B : Nat → Int} {n s : Nat} : 0 ≤ tke B n s ∧ tke B n s ≤ 4 := by
  unfold tke
  split
  · omega
  · split
    · omega
    · split
      · split <;> omega
      · split <;> omega
theorem wk_is {B : Nat → Int} {n s k : Nat} (hk : k < 24) : wk B n s = kj k ↔ tke B n s = 1 ∧ tke_v B n s = k := by
  obtain ⟨k1, k2, k3⟩ := jk_kj k hk
  unfold wk
  by_cases c : tke B n s = 1
  · rw [if_pos c]
    have kv := kwv_in c
    refine ⟨fun q => ⟨c, ?_⟩, fun q => by rw [q.2]⟩
    by_cases d : tke_v B n s = -1
    · rw [d] at q
      have : kj (-1) = -1 := rfl
      omega
    · obtain ⟨m, hm⟩ : ∃ m : Nat, tke_v B n s = m := ⟨(tke_v B n s).toNat, by omega⟩
      rw [hm] at q
      obtain ⟨m1, m2, m3⟩ := jk_kj m (by omega)
      rw [q, k3] at m3
      omega
  · rw [if_neg c]
    exact ⟨fun q => by omega, fun q => absurd q.1 c⟩
theorem wk_none {B : Nat → Int} {n s : Nat} (c : tke B n s = 1) : wk B n s = -1 ↔ tke_v B n s = -1 := by
  have kv := kwv_in c
  unfold wk
  rw [if_pos c]
  by_cases d : tke_v B n s = -1
  · rw [d]; exact ⟨fun _ => rfl, fun _ => rfl⟩
  · obtain ⟨m, hm⟩ : ∃ m : Nat, tke_v B n s = m := ⟨(tke_v B n s).toNat, by omega⟩
    rw [hm]
    obtain ⟨m1, m2, m3⟩ := jk_kj m (by omega)
    omega
theorem n8_sm {B : Nat → Int} {s : Nat} : ∀ k, (∀ i, i < k → Pl (B (s + i)) = true) → 2 * n8 B s k < 2 ^ (8 * k) := by
  intro k
  induction k with
  | zero => intro _; exact Nat.zero_lt_one
  | succ k ih =>
    intro h
    have i := ih (fun i hi => h i (by omega))
    have l := Pl_iff.mp (h k (by omega))
    have e : 2 ^ (8 * (k + 1)) = 2 ^ 8 * 2 ^ (8 * k) := by rw [← Nat.pow_add]; congr 1; omega
    rw [e]
    unfold n8
    generalize n8 B s k = X at i ⊢
    generalize 2 ^ (8 * k) = P at i ⊢
    omega
/-- the first of these many that is x -/
def nf (f : Nat → Int) (x : Int) : Nat → Nat → Int
  | 0, _ => -1
  | m + 1, i => if f i = x then (i : Int) else nf f x m (i + 1)
theorem nf_in {f : Nat → Int} {x : Int} : ∀ m i, nf f x m i = -1 ∨ ((i : Int) ≤ nf f x m i ∧ nf f x m i < i + m ∧ f (nf f x m i).toNat = x) := by
  intro m
  induction m with
  | zero => intro i; exact Or.inl rfl
  | succ m ih =>
    intro i
    unfold nf
    by_cases c : f i = x
    · rw [if_pos c]; exact Or.inr ⟨by omega, by omega, by rw [Int.toNat_natCast]; exact c⟩
    · rw [if_neg c]
      rcases ih (i + 1) with a | ⟨a1, a2, a3⟩
      · exact Or.inl a
      · exact Or.inr ⟨by omega, by omega, a3⟩
theorem pNm_ok {B : Nat → Int} {n s s' : Nat} (h : pNm B n s = .ok s') : s' = s ∧ tke B n s = 1 ∧ tke_v B n s = -1 ∧ tlt B n s ≠ 0 := by
  unfold pNm at h
  by_cases c : tke B n s = 1 ∧ tke_v B n s = -1 ∧ tlt B n s ≠ 0
  · rw [if_pos c] at h; cases h; exact ⟨rfl, c⟩
  · rw [if_neg c] at h; cases h
section MO
variable {h : Mem} {B : Nat → Int} {n s : Nat}
theorem mx_fails {w : Int} {Q : Int → Mem → Prop} (x : MS h B n s) (hw : 0 < w) (hQ : ∀ u e, (flt B n s w : Er) = .error e → FTf h u → ME u e → Q 0 u) : F_X12_fails h w Q := by
  obtain ⟨⟨x0, x1, x2, x3, x4⟩, y5⟩ := x
  unfold F_X12_fails
  refine ⟨fun q => absurd y5.1 q, fun _ => ⟨fun q h1 e1 h2 e2 => ?_, fun q h1 e1 h2 e2 => ?_⟩⟩
  · subst e2 e1
    have k4 : ¬ (tke B n s = 4) := fun z => q (x2.trans (kt_one.mpr z))
    refine hQ _ (w, s) (by unfold flt; rw [if_neg k4]) (fun i k p => by rw [mset_o (by omega), mset_o (by omega)]) ⟨?_, ?_, hw⟩
    · rw [mset_k (by omega), mset_at]
    · rw [mset_at, mset_k (by omega)]; exact x3
  · subst e2 e1
    have k4 : tke B n s = 4 := kt_one.mp (x2.symm.trans q)
    refine hQ _ (1, s) (by unfold flt; rw [if_pos k4]) (fun i k p => by rw [mset_o (by omega), mset_o (by omega)]) ⟨?_, ?_, show (0 : Int) < 1 by decide⟩
    · rw [mset_k (by omega), mset_at]
    · rw [mset_at, mset_k (by omega)]; exact x3
theorem mx_failsZ {w : Int} {Q : Int → Mem → Prop} (x : MS h B n s) (hw : 0 < w) (hQ : ∀ u e, (flt B n s w : Er) = .error e → FTf h u → ME u e → Q 0 u) : F_X12_fails h w (fun r1 h1 => (InZ r1 ∧ Q r1 h1)) := mx_fails x hw (fun u e a b c => ⟨by unfold InZ; omega, hQ u e a b c⟩)
theorem mee_tee (k : tke B n s ≠ 4) : mee B n s = tee B n s := by
  unfold tke at k
  unfold mee tee
  by_cases c : n ≤ s
  · rw [if_pos c, if_pos c]
  · rw [if_neg c] at k ⊢
    rw [if_neg c]
    by_cases d : Pl (B s) = true
    · rw [if_pos d, if_pos d]
    · rw [if_neg d] at k ⊢
      rw [if_neg d]
      by_cases e : Pd (B s) = true
      · rw [if_pos e, if_pos e]
      · rw [if_neg e] at k ⊢
        rw [if_neg e]
        by_cases f : Ps (B s) = true
        · rw [if_pos f]
        · rw [if_neg f] at k; exact absurd rfl k
theorem mx_ahead {Q : Mem → Prop} (x : MS h B n s) (k : tke B n s ≠ 4) (hQ : ∀ u, FTf h u → MS u B n (nx B n s) → Q u) : F_X12_ahead h Q := by
  obtain ⟨⟨x0, x1, x2, x3, x4, x6⟩, y5⟩ := x
  rw [mee_tee k] at x4
  refine q_ahead x0 (tee_in x1).2.1 x4 (fun u f t => hQ u (FTf.of f) ⟨t, ?_, ?_⟩)
  · rw [f 161 18 (by omega)]; exact y5.1
  · rw [f 161 17 (by omega)]; exact y5.2
theorem mx_wantWord {k : Nat} {a : Int} {Q : Int → Mem → Prop} (x : MS h B n s) (hk : k < 24) (ha : a = kj k) (hok : ∀ s' u, pKw B n k s = .ok s' → FTf h u → MS u B n s' → Q 1 u) (hno : ∀ e u, pKw B n k s = .error e → FTf h u → ME u e → Q 0 u) : F_X12_wantWord h a Q := by
  subst ha
  unfold F_X12_wantWord
  refine q_inWords x.1 ⟨fun q => ?_, fun q => ?_⟩
  · have c := (wk_is hk).mp q
    refine mx_ahead x (by omega) (fun u f t => hok _ u (by unfold pKw; rw [if_pos c]) f t)
  · have c : ¬ (tke B n s = 1 ∧ tke_v B n s = (k : Int)) := fun z => q ((wk_is hk).mpr z)
    refine mx_failsZ x (by decide) (fun u e ee f t => hno e u ?_ f t)
    unfold pKw; rw [if_neg c]; exact ee
theorem mx_isThere {k : Nat} {a : Int} {Q : Int → Mem → Prop} (x : MS h B n s) (hk : k < 24) (ha : a = kj k) (hok : ∀ u, tke B n s = 1 ∧ tke_v B n s = (k : Int) → FTf h u → MS u B n (nx B n s) → Q 1 u) (hno : ¬ (tke B n s = 1 ∧ tke_v B n s = (k : Int)) → Q 0 h) : F_X12_isThere h a Q := by
  subst ha
  unfold F_X12_isThere
  refine q_inWords x.1 ⟨fun q => ?_, fun q => ?_⟩
  · have c := (wk_is hk).mp q
    exact mx_ahead x (by omega) (fun u f t => hok u c f t)
  · exact hno (fun z => q ((wk_is hk).mpr z))
theorem mx_isSign {a : Int} {Q : Int → Mem → Prop} (x : MS h B n s) (hok : tke B n s = 3 ∧ tke_v B n s = a → Q 1 h) (hno : ¬ (tke B n s = 3 ∧ tke_v B n s = a) → Q 0 h) : F_X12_isSign h a Q := by
  obtain ⟨⟨x0, x1, x2, x3, x4, x6⟩, y5⟩ := x
  have k3 := (kt_of (m := 4) (by omega) (tke_in (B := B) (n := n) (s := s)))
  unfold F_X12_isSign
  rw [x2]
  refine ⟨fun q => hno (fun z => q (k3.mpr (by omega))), fun q => ?_⟩
  have c : tke B n s = 3 := by have := k3.mp q; omega
  rw [x6 (Or.inr c)]
  exact ⟨fun q2 => hno (fun z => q2 z.2), fun q2 => hok ⟨c, q2⟩⟩
theorem mx_wantSign {a : Int} {Q : Int → Mem → Prop} (x : MS h B n s) (hok : ∀ s' u, pSg B n a s = .ok s' → FTf h u → MS u B n s' → Q 1 u) (hno : ∀ e u, pSg B n a s = .error e → FTf h u → ME u e → Q 0 u) : F_X12_wantSign h a Q := by
  unfold F_X12_wantSign
  refine mx_isSign x (fun c => ⟨fun _ => ?_, fun q => absurd q (by decide)⟩) (fun c => ⟨fun q => absurd rfl q, fun _ => ?_⟩)
  · exact mx_ahead x (by omega) (fun u f t => hok _ u (by unfold pSg; rw [if_pos c]) f t)
  · refine mx_failsZ x (by decide) (fun u e ee f t => hno e u ?_ f t)
    unfold pSg; rw [if_neg c]; exact ee
theorem mx_number {a lo hi : Int} {Q : Int → Mem → Prop} (x : MS h B n s) (ha : 0 ≤ a ∧ a < 3008) (hok : ∀ s' u, pNo B n lo hi s = .ok s' → FTf (mset h 162 a.toNat (tke_v B n s)) u → MS u B n s' → Q 1 u) (hno : ∀ e u, pNo B n lo hi s = .error e → FTf h u → ME u e → Q 0 u) : F_X12_number h a lo hi Q := by
  have x' := x
  obtain ⟨⟨x0, x1, x2, x3, x4, x6⟩, y5⟩ := x'
  have k2 := (kt_of (m := 3) (by omega) (tke_in (B := B) (n := n) (s := s)))
  unfold F_X12_number
  rw [x2]
  refine ⟨fun q => ?_, fun q => ?_⟩
  · have c : tke B n s = 2 := by have := k2.mp q; omega
    rw [x6 (Or.inl c)]
    have bad : ¬ (lo ≤ tke_v B n s ∧ tke_v B n s ≤ hi) → F_X12_fails h 4 (fun r2 h1 => (InZ r2 ∧ Q r2 h1)) := fun z => by
      refine mx_failsZ x (by decide) (fun u e ee f t => hno e u ?_ f t)
      unfold pNo; rw [if_pos c, if_neg z]; exact ee
    refine ⟨fun z => bad (by omega), fun z => ⟨fun z2 => ⟨ha, fun h4 e4 => ?_⟩, fun z2 => bad (by omega)⟩⟩
    subst e4
    have y : MS (mset h 162 a.toNat (tke_v B n s)) B n s := x.fr (fun i k q => mset_o (by omega))
    exact mx_ahead y (by omega) (fun u f t => hok _ u (by unfold pNo; rw [if_pos c, if_pos ⟨by omega, z2⟩]) f t)
  · have c : ¬ (tke B n s = 2) := fun z => q (k2.mpr (by omega))
    refine mx_failsZ x (by decide) (fun u e ee f t => hno e u ?_ f t)
    unfold pNo; rw [if_neg c]; exact ee
theorem mx_isName {Q : Int → Mem → Prop} (x : MS h B n s) (hok : pNm B n s = .ok s → Q 1 h) (hno : ∀ e, pNm B n s = .error e → (flt B n s 2 : Er) = .error e → Q 0 h) : F_X12_isName h Q := by
  have x' := x
  obtain ⟨⟨x0, x1, x2, x3, x4, x6⟩, y5⟩ := x'
  have n9 := x0.1
  have k1 := (kt_of (m := 2) (by omega) (tke_in (B := B) (n := n) (s := s)))
  have bad : ¬ (tke B n s = 1 ∧ tke_v B n s = -1 ∧ tlt B n s ≠ 0) → Q 0 h := fun z => by
    have e : pNm B n s = flt B n s 2 := by unfold pNm; rw [if_neg z]
    cases ee : (flt B n s 2 : Er) with
    | ok t => unfold flt at ee; cases ee
    | error e2 => exact hno e2 (e.trans ee) ee
  unfold F_X12_isName
  rw [x2]
  refine ⟨fun q => bad (fun z => q (k1.mpr (by omega))), fun q => ?_⟩
  have c : tke B n s = 1 := by have := k1.mp q; omega
  obtain ⟨t1, t2, t3, _⟩ := tke_one c
  obtain ⟨r1, r2, r3, r4⟩ := rn_in (P := Pl) (B := B) (n := n) (p := s) (by omega)
  have rg := rn_go (P := Pl) (B := B) t1 t2
  have r5 := (rn_in (P := Pl) (B := B) (n := n) (p := s + 1) (by omega)).1
  rw [x4, x3, t3]
  have et : tlt B n s = if rn Pl B n s - s ≤ 8 then ((x5 B s (rn Pl B n s - s) : Nat) : Int) else 0 := by
    unfold tlt; rw [if_neg (by omega), if_pos t2]
  refine ⟨⟨by omega, by omega⟩, fun q8 => bad (fun z => z.2.2 (by rw [et, if_neg (by omega)])), fun q8 => ?_⟩
  refine q_inWords x.1 ⟨fun z => bad (fun y => z ((wk_none c).mpr y.2.1)), fun z => hok ?_⟩
  have nz : tlt B n s ≠ 0 := by
    rw [et, if_pos (by omega)]
    obtain ⟨k, hk⟩ : ∃ k, rn Pl B n s - s = k + 1 := ⟨rn Pl B n s - s - 1, by omega⟩
    rw [hk]
    have l := Pl_iff.mp (r3 (s + k) (by omega) (by omega))
    show ((2 ^ 5 * x5 B s k + (B (s + k) - 96).toNat : Nat) : Int) ≠ 0
    omega
  unfold pNm
  rw [if_pos ⟨c, (wk_none c).mp z, nz⟩]
theorem mx_nameHere {s' : Nat} {Q : Int → Mem → Prop} (x : MS h B n s) (hp : pNm B n s = .ok s') (hQ : nmR (tlt B n s) → Q (c8 (tlt B n s)) h) : F_X12_nameHere h Q := by
  obtain ⟨⟨x0, x1, x2, x3, x4, x6⟩, y5⟩ := x
  have n9 := x0.1
  obtain ⟨_, c, c2, c3⟩ := pNm_ok hp
  obtain ⟨t1, t2, t3, _⟩ := tke_one c
  obtain ⟨r1, r2, r3, r4⟩ := rn_in (P := Pl) (B := B) (n := n) (p := s) (by omega)
  have et : tlt B n s = if rn Pl B n s - s ≤ 8 then ((x5 B s (rn Pl B n s - s) : Nat) : Int) else 0 := by
    unfold tlt; rw [if_neg (by omega), if_pos t2]
  by_cases k8 : rn Pl B n s - s ≤ 8
  · rw [if_pos k8] at et
    obtain ⟨nm, e8⟩ := x5_nm (B := B) (s := s) k8 (fun i hi => r3 (s + i) (by omega) (by omega))
    rw [et] at hQ
    have q := hQ nm
    rw [e8] at q
    rw [t3] at x4
    unfold F_X12_nameHere
    rw [x3]
    have key : ∀ (m i : Nat) (v z : Int), i + m = rn Pl B n s → s ≤ i → z = (i : Int) → v = ((n8 B s (i - s) : Nat) : Int) → L_X12_nameHere_7 h v z Q := by
      intro m
      induction m with
      | zero =>
        intro i v z hi hsi hz hv
        subst hz hv
        refine l_X12_nameHere_7 ?_
        unfold B_X12_nameHere_7
        rw [x4]
        refine ⟨fun _ => ?_, fun y => absurd (by omega) y⟩
        rw [show i = rn Pl B n s by omega]; exact q
      | succ m ih =>
        intro i v z hi hsi hz hv
        subst hz hv
        refine l_X12_nameHere_7 ?_
        unfold B_X12_nameHere_7
        rw [x4]
        refine ⟨fun y => absurd y (by omega), fun _ => ?_⟩
        have li := Pl_iff.mp (r3 i hsi (by omega))
        refine q_byteAt x0 rfl (fun y => absurd y (by omega)) (fun _ => ?_)
        rw [ub_self (by omega)]
        intro y ey
        refine ⟨⟨by omega, by omega⟩, ih (i + 1) _ _ (by omega) (by omega) (by omega) ?_⟩
        have sm := n8_sm (B := B) (s := s) (i - s) (fun j hj => r3 (s + j) (by omega) (by omega))
        have pp : 2 ^ (8 * (i - s)) ≤ 2 ^ 56 := Nat.pow_le_pow_right (by decide) (by omega)
        have ne : n8 B s (i + 1 - s) = 2 ^ 8 * n8 B s (i - s) + (B i).toNat := by
          rw [show i + 1 - s = (i - s) + 1 by omega]
          show 2 ^ 8 * n8 B s (i - s) + (B (s + (i - s))).toNat = _
          rw [show s + (i - s) = i by omega]
        rw [ey, ne, show B i = (((B i).toNat : Nat) : Int) by omega]
        generalize n8 B s (i - s) = X at sm
        generalize 2 ^ (8 * (i - s)) = PP at sm pp
        have e1 : lshl (X : Int) 8 = ((2 ^ 8 * X : Nat) : Int) := l_shl (k := 8) (by omega) (by omega)
        rw [e1, l_or (k := 8) (by omega) (by omega), Int.toNat_natCast]
    exact key (rn Pl B n s - s) s 0 _ (by omega) (Nat.le_refl _) rfl (by rw [Nat.sub_self]; rfl)
  · rw [if_neg k8] at et; exact absurd et c3
theorem mx_findHere {s' base many : Nat} {a b : Int} {f : Nat → Int} {Q : Int → Mem → Prop} (x : MS h B n s) (hp : pNm B n s = .ok s') (ha : a = base) (hb : b = many) (hm : base + many ≤ 72) (hn : ∀ t, t < many → h 163 (base + t) = c8 (f t) ∧ nmR (f t)) (hQ : Q (nf f (tlt B n s) many 0) h) : F_X12_findHere h a b Q := by
  subst ha hb
  unfold F_X12_findHere
  have key : ∀ (m i : Nat) (z : Int), i + m = many → z = (i : Int) → nf f (tlt B n s) m i = nf f (tlt B n s) many 0 → L_X12_findHere_2 h (base : Int) (many : Int) z Q := by
    intro m
    induction m with
    | zero =>
      intro i z hi hz e
      subst hz
      refine l_X12_findHere_2 ?_
      unfold B_X12_findHere_2
      refine ⟨fun _ => ?_, fun y => absurd (by omega) y⟩
      rw [← e] at hQ; exact hQ
    | succ m ih =>
      intro i z hi hz e
      subst hz
      obtain ⟨e1, e2⟩ := hn i (by omega)
      refine l_X12_findHere_2 ?_
      unfold B_X12_findHere_2
      refine ⟨fun y => absurd y (by omega), fun _ => ⟨⟨by omega, by omega⟩, ⟨by omega, by omega⟩, ?_⟩⟩
      rw [show ((base : Int) + (i : Int)).toNat = base + i by omega]
      refine mx_nameHere x hp (fun nm => ?_)
      rw [e1]
      have es : nf f (tlt B n s) (m + 1) i = if f i = tlt B n s then (i : Int) else nf f (tlt B n s) m (i + 1) := rfl
      refine ⟨fun y => ⟨⟨by omega, by omega⟩, ih (i + 1) _ (by omega) (by omega) ?_⟩, fun y => ?_⟩
      · rw [← e, es, if_neg (fun z => y ((c8_inj e2 nm).mpr z))]
      · rw [← e, es, if_pos ((c8_inj e2 nm).mp y)] at hQ; exact hQ
  exact key many 0 0 (by omega) rfl rfl
end MO
