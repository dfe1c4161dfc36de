/-! trying out again and again -/
def SameF (g g' : Gs) : Prop := (∀ i, i ≤ 4 → g' 0 i = g 0 i) ∧ ∀ f t, ((1 ≤ f ∧ f ≤ 3) ∨ f = 8 ∨ f = 9 ∨ f = 11 ∨ f = 12) → g' f t = g f t
theorem SameF.rf {g : Gs} : SameF g g := ⟨fun _ _ => rfl, fun _ _ _ => rfl⟩
theorem SameF.tr {g g1 g2 : Gs} (a : SameF g g1) (b : SameF g1 g2) : SameF g g2 := ⟨fun i hi => (b.1 i hi).trans (a.1 i hi), fun f t h => (b.2 f t h).trans (a.2 f t h)⟩
theorem SameF.pas {g g1 : Gs} (s : SameF g g1) : SameF g (pass g1) := by
  have e : ∀ f t, ((f ≠ 0 ∧ f ≠ 10 ∧ (f ≤ 3 ∨ 8 ≤ f)) ∨ (f = 0 ∧ t ≤ 4)) → pass g1 f t = g1 f t := fun f t h => by
    unfold pass growG takeG
    rw [upTo_lo (by omega), upTo_lo (by omega), moveG_n (by omega)]
    exact sset_n (by omega)
  exact ⟨fun i hi => (e 0 i (by omega)).trans (s.1 i hi), fun f t h => (e f t (by omega)).trans (s.2 f t h)⟩
theorem SameF.ts {g g1 : Gs} {t : Nat} {a b c : Int} (s : SameF g g1) : SameF g (tset g1 t a b c) :=
  ⟨fun i hi => (tset_n (by omega)).trans (s.1 i hi), fun f i h => (tset_n (by omega)).trans (s.2 f i h)⟩
theorem s_tillHome2 {h : Mem} {o t k : Nat} {x y : Int} {g : Gs} {B : Int} {Q : Int → Mem → Prop} (hx : x = (t : Int)) (hy : y = (k : Int)) (hl : lay o = (0, 4)) (hR : RC h o g) (hW : WF B g) (hB : B + k ≤ 800000) (ht : t < gn g) (hQ : ∀ u g', RC u o g' → SameF g g' → Fr o (o + 15) h u → Q (tHome t k g) u) : F_X4_hoursTillHome h o x y Q := by
  subst hx hy
  have ws0 := hW.1
  unfold WFs at ws0
  generalize hRe : tHome t k g = R at hQ
  obtain ⟨n8, nc⟩ := gn8 hW
  have key : ∀ (m i : Nat) (z : Int) (u : Mem) (g1 : Gs) (B1 : Int), z = (i : Int) → i + m = k → RC u o g1 → SameF g g1 → WF B1 g1 → B1 + m ≤ 800000 → gn g1 = gn g → plusN i (tHome t m g1) = R → Fr o (o + 15) h u → L_X4_hoursTillHome_2 u o (t : Int) (k : Int) z Q := by
    intro m
    induction m with
    | zero =>
      intro i z u g1 B1 hz hi r sf w hb hg hp f
      subst hz
      have e := (r.1.2.1.2 t (by omega)).2.2.2.2.1
      refine l_X4_hoursTillHome_2 hl ?_
      unfold B_X4_hoursTillHome_2
      rw [Int.toNat_natCast, e]
      refine ⟨fun c => absurd c (by omega), fun c => ⟨⟨by omega, by omega⟩, fun c2 => s_passHour hl r w (by omega) (fun v rv fv => ⟨⟨by omega, by omega⟩, ?_⟩), fun c2 => ?_⟩⟩
      · refine l_X4_hoursTillHome_2 hl ?_
        unfold B_X4_hoursTillHome_2
        refine ⟨fun _ => ?_, fun c3 => absurd (by omega) c3⟩
        unfold tHome at hp
        rw [if_neg c2] at hp
        have : R = -1 := by rw [← hp]; rfl
        have q := hQ v _ rv sf.pas (f.tr fv)
        rw [this] at q
        exact q
      · unfold tHome at hp
        rw [if_pos c2] at hp
        have : R = (i : Int) := by rw [← hp]; unfold plusN; rw [if_neg (by decide)]; omega
        have q := hQ u _ r sf f
        rw [this] at q
        exact q
    | succ m ih =>
      intro i z u g1 B1 hz hi r sf w hb hg hp f
      subst hz
      have e := (r.1.2.1.2 t (by omega)).2.2.2.2.1
      have ti := tHome_in t m (pass g1)
      refine l_X4_hoursTillHome_2 hl ?_
      unfold B_X4_hoursTillHome_2
      rw [Int.toNat_natCast, e]
      unfold tHome at hp
      refine ⟨fun c => absurd c (by omega), fun c => ⟨⟨by omega, by omega⟩, fun c2 => s_passHour hl r w (by omega) (fun v rv fv => ⟨⟨by omega, by omega⟩, ?_⟩), fun c2 => ?_⟩⟩
      · rw [if_neg c2] at hp
        exact ih (i + 1) ((i : Int) + 1) v (pass g1) (B1 + 1) (by omega) (by omega) rv sf.pas w.pass (by omega) (by rw [gn_pass, hg]) (by rw [← hp]; exact plusN_addN i _ (by omega)) (f.tr fv)
      · rw [if_pos c2] at hp
        have : R = (i : Int) := by rw [← hp]; unfold plusN; rw [if_neg (by decide)]; omega
        have q := hQ u _ r sf f
        rw [this] at q
        exact q
  have := tHome_in t k g
  rw [hRe] at this
  exact key k 0 0 h g B rfl (by omega) hR SameF.rf hW hB rfl (by rw [hRe]; unfold plusN; split <;> omega) Fr.rf
theorem s_tillTurn2 {h : Mem} {o k : Nat} {y : Int} {g : Gs} {B : Int} {Q : Int → Mem → Prop} (hy : y = (k : Int)) (hl : lay o = (0, 4)) (hR : RC h o g) (hW : WF B g) (hB : B + k ≤ 800000) (hQ : ∀ u g', RC u o g' → SameF g g' → Fr o (o + 15) h u → Q (tTurn k g) u) : F_X4_hoursTillTurn h o y Q := by
  subst hy
  have ws0 := hW.1
  unfold WFs at ws0
  generalize hRe : tTurn k g = R at hQ
  have key : ∀ (m i : Nat) (z : Int) (u : Mem) (g1 : Gs) (B1 : Int), z = (i : Int) → i + m = k → RC u o g1 → SameF g g1 → WF B1 g1 → B1 + m ≤ 800000 → plusN i (tTurn m g1) = R → Fr o (o + 15) h u → L_X4_hoursTillTurn_2 u o (k : Int) z Q := by
    intro m
    induction m with
    | zero =>
      intro i z u g1 B1 hz hi r sf w hb hp f
      subst hz
      refine l_X4_hoursTillTurn_2 hl ?_
      unfold B_X4_hoursTillTurn_2
      refine ⟨fun _ => ?_, fun c => absurd (by omega) c⟩
      have : R = -1 := by rw [← hp]; rfl
      have q := hQ u _ r sf f
      rw [this] at q
      exact q
    | succ m ih =>
      intro i z u g1 B1 hz hi r sf w hb hp f
      subst hz
      have ti := tTurn_in m (pass g1)
      refine l_X4_hoursTillTurn_2 hl ?_
      unfold B_X4_hoursTillTurn_2
      unfold tTurn at hp
      have t01 := tn_01 g1
      refine ⟨fun c => absurd c (by omega), fun c => s_passHour hl r w (by omega) (fun v rv fv => ⟨fun c2 => ⟨⟨by omega, by omega⟩, ?_⟩, fun c2 => ?_⟩)⟩
      · rw [if_neg (by omega)] at hp
        exact ih (i + 1) ((i : Int) + 1) v (pass g1) (B1 + 1) (by omega) (by omega) rv sf.pas w.pass (by omega) (by rw [← hp]; exact plusN_addN i _ (by omega)) (f.tr fv)
      · rw [if_pos (by omega)] at hp
        have : R = (i : Int) := by rw [← hp]; unfold plusN; rw [if_neg (by decide)]; omega
        have q := hQ v _ rv sf.pas (f.tr fv)
        rw [this] at q
        exact q
  have := tTurn_in k g
  rw [hRe] at this
  exact key k 0 0 h g B rfl (by omega) hR SameF.rf hW hB (by rw [hRe]; unfold plusN; split <;> omega) Fr.rf
theorem s_goBack {h : Mem} {g g' : Gs} {Q : Mem → Prop} (s : SameF g g') (ru : RC h 146 g') (r12 : RC h 12 g) (nm : gn g ≤ 8 ∧ gm g ≤ 4) (hQ : ∀ v, RC v 146 g → Fr 146 161 h v → Q v) : F_X4_goBackTo h 146 12 Q := by
  obtain ⟨⟨⟨a0, a1, a2, -, -, -⟩, aT, aM⟩, -⟩ := ru
  obtain ⟨⟨⟨-, -, -, b3, b4, b6⟩, bT, bM⟩, b5⟩ := r12
  have n1 : gn g' = gn g := by unfold gn; rw [s.1 0 (by omega)]
  have n2 : gm g' = gm g := by unfold gm; rw [s.1 1 (by omega)]
  unfold F_X4_goBackTo F_X7_copyGroundFrom
  intro h1 e1 h2 e2 h3 e3 h4 e4
  have hp : ∀ k, ∀ u, Fr 146 147 h u → u 12 k = h 12 k := fun k u f => f 12 (by omega) k
  have f1 : Fr 146 147 h h1 := by rw [e1]; exact Fr.rf.st (by omega) (by omega)
  have f2 : Fr 146 147 h h2 := by rw [e2]; exact f1.st (by omega) (by omega)
  have f3 : Fr 146 147 h h3 := by rw [e3]; exact f2.st (by omega) (by omega)
  have f4 : Fr 146 147 h h4 := by rw [e4]; exact f3.st (by omega) (by omega)
  rw [hp _ _ f1] at e2
  rw [hp _ _ f2] at e3
  rw [hp _ _ f3] at e4
  have c : h4 146 0 = g 0 2 ∧ h4 146 1 = g 0 3 ∧ h4 146 2 = g 0 4 ∧ h4 146 3 = g 0 6 ∧ h4 146 4 = g 0 7 ∧ h4 146 6 = g 0 8 ∧ h4 146 5 = g 0 5 := by
    rw [e4, e3, e2, e1, b3, b4, b5, b6, ← s.1 2 (by omega), ← s.1 3 (by omega), ← s.1 4 (by omega), ← a0, ← a1, ← a2]
    refine ⟨?_, ?_, ?_, ?_, ?_, ?_, ?_⟩ <;> simp [mset]
  obtain ⟨c0, c1, c2, c3, c4, c6, c5⟩ := c
  refine s_copyPlaces (T := 147) (S := 13) (by omega) (fun u hu fu => ?_)
  intro v ev0
  have ev : v = mcpy u 26 0 160 0 4 := ev0
  have fv : Fr 160 161 u v := by rw [ev]; exact Fr.rf.cp (by omega) (by omega)
  have old : ∀ i, (i < 146 ∨ i = 147 ∨ i = 148 ∨ i = 149 ∨ i = 150 ∨ i = 151 ∨ i = 156 ∨ i = 157 ∨ i = 158 ∨ i = 159) → ∀ k, v i k = h i k := fun i hi k => by
    rw [fv i (by omega), fu i (by omega), f4 i (by omega)]
  have o2 : ∀ k, v 146 k = h4 146 k := fun k => by rw [fv 146 (by omega), fu 146 (by omega)]
  refine hQ v ⟨⟨⟨(o2 0).trans c0, (o2 1).trans c1, (o2 2).trans c2, (o2 3).trans c3, (o2 4).trans c4, (o2 6).trans c6⟩, ⟨?_, fun t ht => ?_⟩, ?_, fun t ht => ?_⟩, (o2 5).trans c5⟩ ?_
  · rw [old 147 (by omega), ← s.1 0 (by omega)]; exact aT.1
  · obtain ⟨p1, p2, p3, p4, -, -, -, -⟩ := aT.2 t (by omega)
    obtain ⟨-, -, -, -, q5, q6, q7, q8⟩ := bT.2 t ht
    obtain ⟨k5, k6, k7, k8⟩ := hu t (by omega)
    refine ⟨?_, ?_, ?_, ?_, ?_, ?_, ?_, ?_⟩
    · rw [old 148 (by omega), ← s.2 11 t (by omega)]; exact p1
    · rw [old 149 (by omega), ← s.2 1 t (by omega)]; exact p2
    · rw [old 150 (by omega), ← s.2 2 t (by omega)]; exact p3
    · rw [old 151 (by omega), ← s.2 3 t (by omega)]; exact p4
    · rw [fv 152 (by omega)]; exact k5.trans ((f4 18 (by omega) t).trans q5)
    · rw [fv 153 (by omega)]; exact k6.trans ((f4 19 (by omega) t).trans q6)
    · rw [fv 154 (by omega)]; exact k7.trans ((f4 20 (by omega) t).trans q7)
    · rw [fv 155 (by omega)]; exact k8.trans ((f4 21 (by omega) t).trans q8)
  · rw [old 156 (by omega), ← s.1 1 (by omega)]; exact aM.1
  · obtain ⟨p1, p2, p3, -⟩ := aM.2 t (by omega)
    obtain ⟨-, -, -, q4⟩ := bM.2 t ht
    refine ⟨?_, ?_, ?_, ?_⟩
    · rw [old 157 (by omega), ← s.2 12 t (by omega)]; exact p1
    · rw [old 158 (by omega), ← s.2 8 t (by omega)]; exact p2
    · rw [old 159 (by omega), ← s.2 9 t (by omega)]; exact p3
    · show v 160 t = g 10 t
      rw [ev, mcpy_at (by omega), fu 26 (by omega), f4 26 (by omega)]; exact q4
  · exact ((f4.wd (by omega) (by omega)).tr (fu.wd (by omega) (by omega))).tr (fv.wd (by omega) (by omega))
/-- the reference's glen is kept aside -/
def KP (h0 v : Mem) : Prop := (∀ k, k < 80 → v 162 (2688 + k) = h0 162 k) ∧ (∀ k, v 163 k = h0 163 k) ∧ UM h0 v
theorem KP.fm {h0 v u : Mem} (a : KP h0 v) (f : FMh v u) : KP h0 u := ⟨fun k hk => by rw [f 162 _ (by omega)]; exact a.1 k hk, fun k => by rw [f 163 k (by omega)]; exact a.2.1 k, a.2.2.tr (UM.fm f)⟩
theorem KP.st {h0 v : Mem} {k : Nat} {x : Int} (a : KP h0 v) (hk : (25 ≤ k ∧ k ≤ 26) ∨ (30 ≤ k ∧ k ≤ 32) ∨ (37 ≤ k ∧ k ≤ 38)) : KP h0 (mset v 161 k x) :=
  ⟨fun j hj => by rw [mset_i _ (by omega)]; exact a.1 j hj, fun j => by rw [mset_i _ (by omega)]; exact a.2.1 j, a.2.2.tr (fun i j q1 q2 q3 q4 => by unfold mset; rw [if_neg (by omega)])⟩
theorem m_keep2 {h : Mem} {g : Gs} {Q : Mem → Prop} (w : WF 9999 g) (r : RXh h g) (hQ : ∀ u, RXh u g → KP h u → Q u) : F_X12_keeps h 2688 Q :=
  q_keeps (to := 2688) rfl (by omega) (fun u ku fu => hQ u (r.fr w.nm.1 w.nm.2 (fun k hk => fu 162 k (by omega))) ⟨ku, fun k => fu 163 k (by omega), UM.fk fu (by omega)⟩)
theorem m_rest {h v : Mem} {g : Gs} {Q : Mem → Prop} (w : WF 9999 g) (r : RXh h g) (a : KP h v) (hQ : ∀ z, RXh z g → KP h z → (∀ i k, i ≠ 162 → z i k = v i k) → Q z) : F_X12_restores v 2688 Q :=
  q_restores (fr := 2688) rfl (by omega) (by rw [a.1 9 (by omega), a.2.2 162 9 (by omega) (by omega) (by omega) (by omega)]) (fun z kz fz => hQ z (r.fr w.nm.1 w.nm.2 (fun k hk => by rw [kz k hk]; exact a.1 k hk)) (a.fm fz) (fun i k hi => fz i k (by omega)))
theorem q_tosses {h : Mem} {g : Gs} {t : Nat} {x b : Int} {Q : Int → Mem → Prop} (rx : RXh h g) (hx : x = (t : Int)) (ht : t < gn g) (n8 : gn g ≤ 8) (n4 : gm g ≤ 4) (d : g 4 t = 0 ∨ g 4 t = 3) (hQ : ∀ u, RXh u (tset g t 1 b 0) → FMh h u → Q 1 u) : F_X12_tosses h x b Q := by
  subst hx
  unfold F_X12_tosses
  refine q_isFree rx.1 rfl ht n8 (fun _ => ⟨fun _ => ?_, fun q => absurd q (by decide)⟩) (fun q => absurd d q)
  refine q_thingRow rfl (by omega) ⟨⟨by omega, by omega⟩, ⟨by omega, by omega⟩, fun h2 e2 => q_thingRow rfl (by omega) ⟨⟨by omega, by omega⟩, ⟨by omega, by omega⟩, fun h3 e3 => q_thingRow rfl (by omega) ⟨⟨by omega, by omega⟩, ⟨by omega, by omega⟩, fun h4 e4 => ?_⟩⟩⟩
  have z3 : (12 + 7 * (t : Int) + 3).toNat = 12 + 7 * t + 3 := by omega
  have z4 : (12 + 7 * (t : Int) + 4).toNat = 12 + 7 * t + 4 := by omega
  have z5 : (12 + 7 * (t : Int) + 5).toNat = 12 + 7 * t + 5 := by omega
  rw [z3] at e2
  rw [z4] at e3
  rw [z5] at e4
  have fm : FMh h h4 := by rw [e4, e3, e2]; exact ((FMh.rf.st (by omega)).st (by omega)).st (by omega)
  refine hQ h4 ⟨RXp.ts ht n8 rx.1 (fun _ => ?_) ?_ ?_ (fun k k3 k4 k5 _ => ?_) n4, ?_⟩ fm
  · rw [e4, mset_k (by omega), e3, mset_at]
  · rw [e4, mset_k (by omega), e3, mset_k (by omega), e2, mset_at]
  · rw [e4, mset_at]
  · rw [e4, mset_k k5, e3, mset_k k4, e2, mset_k k3]
  · rw [e4, mset_k (by omega), e3, mset_k (by omega), e2, mset_k (by omega), tset_n (Or.inl (by omega))]
    exact rx.2
