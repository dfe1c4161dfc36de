/-! x reads things and mills -/
theorem newT_z {g : Gs} {nm a b c : Int} : newT g nm a b c 0 0 = g 0 0 + 1 := by unfold newT; rw [if_pos ⟨rfl, rfl⟩]
theorem newM_z {g : Gs} {nm a b : Int} : newM g nm a b 0 1 = g 0 1 + 1 := by unfold newM; rw [if_pos ⟨rfl, rfl⟩]
theorem newT_u {g : Gs} {nm a b c : Int} {f i : Nat} (h : (f = 0 ∧ i ≠ 0) ∨ (f ≠ 0 ∧ i ≠ gn g) ∨ (8 ≤ f ∧ f ≠ 11)) : newT g nm a b c f i = g f i := newT_o (by omega) (by omega)
theorem newM_u {g : Gs} {nm a b : Int} {f i : Nat} (h : (f = 0 ∧ i ≠ 1) ∨ (f ≠ 0 ∧ i ≠ gm g) ∨ (1 ≤ f ∧ f ≤ 7) ∨ f = 11) : newM g nm a b f i = g f i := newM_o (by omega) (by omega)
theorem s_newThing {h : Mem} {g : Gs} {B : Int} {nm a b c : Int} {Q : Int → Mem → Prop} (r : RC h 146 g) (w : WF B g) (hn : g 0 0 < 8) (hQ : ∀ u, RC u 146 (newT g nm a b c) → Fr 147 156 h u → Q (g 0 0) u) : F_X9_addThing h 147 nm a b c Q := by
  obtain ⟨n8, nc⟩ := gn8 w
  obtain ⟨⟨⟨a1, a2, a3, a4, a5, a6⟩, rt, rm⟩, r5⟩ := r
  have E : h 147 0 = (gn g : Int) := by rw [nc]; exact rt.1
  have w1 := w.1
  unfold WFs at w1
  unfold F_X9_addThing
  refine ⟨fun _ => ⟨⟨by omega, by omega⟩, fun h2 e2 => ?_⟩, fun q => absurd q (by omega)⟩
  rw [E, Int.toNat_natCast] at e2
  have E2 : h2 147 0 = (gn g : Int) := by rw [e2, mset_i _ (by omega)]; exact E
  refine ⟨⟨by omega, by omega⟩, fun h4 e4 => ?_⟩
  rw [E2, Int.toNat_natCast] at e4
  have E4 : h4 147 0 = (gn g : Int) := by rw [e4, mset_i _ (by omega)]; exact E2
  refine ⟨⟨by omega, by omega⟩, fun h6 e6 => ?_⟩
  rw [E4, Int.toNat_natCast] at e6
  have E6 : h6 147 0 = (gn g : Int) := by rw [e6, mset_i _ (by omega)]; exact E4
  refine ⟨⟨by omega, by omega⟩, fun h8 e8 => ?_⟩
  rw [E6, Int.toNat_natCast] at e8
  have E8 : h8 147 0 = (gn g : Int) := by rw [e8, mset_i _ (by omega)]; exact E6
  refine ⟨⟨by omega, by omega⟩, fun h10 e10 => ?_⟩
  rw [E8, Int.toNat_natCast] at e10
  have E10 : h10 147 0 = (gn g : Int) := by rw [e10, mset_i _ (by omega)]; exact E8
  refine ⟨⟨by omega, by omega⟩, fun hA eA hB eB hC eC => ?_⟩
  rw [E10, Int.toNat_natCast] at eA eB eC
  have EC : hC 147 0 = (gn g : Int) := by rw [eC, mset_i _ (by omega), eB, mset_i _ (by omega), eA, mset_i _ (by omega)]; exact E10
  refine ⟨⟨by omega, by omega⟩, fun h14 e14 => ?_⟩
  rw [EC] at e14
  have E14 : h14 147 0 = (gn g : Int) + 1 := by rw [e14]; exact mset_at
  have fr : Fr 147 156 h h14 := by
    rw [e14, eC, eB, eA, e10, e8, e6, e4, e2]
    exact ((((((((Fr.rf.st (by omega) (by omega)).st (by omega) (by omega)).st (by omega) (by omega)).st (by omega) (by omega)).st (by omega) (by omega)).st (by omega) (by omega)).st (by omega) (by omega)).st (by omega) (by omega)).st (by omega) (by omega)
  have pv : ∀ i, i ≠ gn g → ∀ j, j ≠ 147 → h14 j i = h j i := fun i hi j hj => by
    rw [e14, mset_i _ hj, eC, eB, eA, e10, e8, e6, e4, e2]
    simp [mset, hi]
  refine ⟨⟨by omega, by omega⟩, ?_⟩
  have ev : h14 147 0 - 1 = g 0 0 := by omega
  rw [ev]
  refine hQ h14 ⟨⟨⟨?_, ?_, ?_, ?_, ?_, ?_⟩, ⟨?_, fun t ht => ?_⟩, ?_, fun m hm => ?_⟩, ?_⟩ fr
  · rw [fr 146 (by omega), newT_u (by omega)]; exact a1
  · rw [fr 146 (by omega), newT_u (by omega)]; exact a2
  · rw [fr 146 (by omega), newT_u (by omega)]; exact a3
  · rw [fr 146 (by omega), newT_u (by omega)]; exact a4
  · rw [fr 146 (by omega), newT_u (by omega)]; exact a5
  · rw [fr 146 (by omega), newT_u (by omega)]; exact a6
  · rw [newT_z, ← nc]; exact E14
  · rw [gn_newT (by omega)] at ht
    by_cases d : t = gn g
    · subst d
      rw [newT_n (f := 11) (by omega), newT_n (f := 1) (by omega), newT_n (f := 2) (by omega), newT_n (f := 3) (by omega), newT_n (f := 4) (by omega), newT_n (f := 5) (by omega), newT_n (f := 6) (by omega), newT_n (f := 7) (by omega)]
      rw [e14, eC, eB, eA, e10, e8, e6, e4, e2]
      simp [mset]
    · obtain ⟨b1, b2, b3, b4, b5, b6, b7, b8⟩ := rt.2 t (by omega)
      rw [newT_u (f := 1) (by omega), newT_u (f := 2) (by omega), newT_u (f := 3) (by omega), newT_u (f := 4) (by omega), newT_u (f := 5) (by omega), newT_u (f := 6) (by omega), newT_u (f := 7) (by omega), newT_u (f := 11) (by omega)]
      rw [pv t d _ (by omega), pv t d _ (by omega), pv t d _ (by omega), pv t d _ (by omega), pv t d _ (by omega), pv t d _ (by omega), pv t d _ (by omega), pv t d _ (by omega)]
      exact ⟨b1, b2, b3, b4, b5, b6, b7, b8⟩
  · rw [fr 156 (by omega), newT_u (by omega)]; exact rm.1
  · rw [gm_newT] at hm
    obtain ⟨b1, b2, b3, b4⟩ := rm.2 m hm
    refine ⟨?_, ?_, ?_, ?_⟩
    · rw [fr 157 (by omega), newT_u (by omega)]; exact b1
    · rw [fr 158 (by omega), newT_u (by omega)]; exact b2
    · rw [fr 159 (by omega), newT_u (by omega)]; exact b3
    · rw [fr 160 (by omega), newT_u (by omega)]; exact b4
  · rw [fr 146 (by omega), newT_u (by omega)]; exact r5
theorem s_newMill {h : Mem} {g : Gs} {B : Int} {nm a b : Int} {Q : Int → Mem → Prop} (r : RC h 146 g) (w : WF B g) (hn : g 0 1 < 4) (hQ : ∀ u, RC u 146 (newM g nm a b) → Fr 156 161 h u → Q (g 0 1) u) : F_X7_addMill h 156 nm a b Q := by
  obtain ⟨n4, nc⟩ := gm4 w
  obtain ⟨⟨⟨a1, a2, a3, a4, a5, a6⟩, rt, rm⟩, r5⟩ := r
  have E : h 156 0 = (gm g : Int) := by rw [nc]; exact rm.1
  have w1 := w.1
  unfold WFs at w1
  unfold F_X7_addMill
  refine ⟨fun _ => ⟨⟨by omega, by omega⟩, fun h2 e2 => ?_⟩, fun q => absurd q (by omega)⟩
  rw [E, Int.toNat_natCast] at e2
  have E2 : h2 156 0 = (gm g : Int) := by rw [e2, mset_i _ (by omega)]; exact E
  refine ⟨⟨by omega, by omega⟩, fun h4 e4 => ?_⟩
  rw [E2, Int.toNat_natCast] at e4
  have E4 : h4 156 0 = (gm g : Int) := by rw [e4, mset_i _ (by omega)]; exact E2
  refine ⟨⟨by omega, by omega⟩, fun h6 e6 => ?_⟩
  rw [E4, Int.toNat_natCast] at e6
  have E6 : h6 156 0 = (gm g : Int) := by rw [e6, mset_i _ (by omega)]; exact E4
  refine ⟨⟨by omega, by omega⟩, fun h8 e8 => ?_⟩
  rw [E6, Int.toNat_natCast] at e8
  have E8 : h8 156 0 = (gm g : Int) := by rw [e8, mset_i _ (by omega)]; exact E6
  refine ⟨⟨by omega, by omega⟩, fun h14 e14 => ?_⟩
  rw [E8] at e14
  have E14 : h14 156 0 = (gm g : Int) + 1 := by rw [e14]; exact mset_at
  have fr : Fr 156 161 h h14 := by
    rw [e14, e8, e6, e4, e2]
    exact ((((Fr.rf.st (by omega) (by omega)).st (by omega) (by omega)).st (by omega) (by omega)).st (by omega) (by omega)).st (by omega) (by omega)
  have pv : ∀ i, i ≠ gm g → ∀ j, j ≠ 156 → h14 j i = h j i := fun i hi j hj => by
    rw [e14, mset_i _ hj, e8, e6, e4, e2]
    simp [mset, hi]
  refine ⟨⟨by omega, by omega⟩, ?_⟩
  have ev : h14 156 0 - 1 = g 0 1 := by omega
  rw [ev]
  refine hQ h14 ⟨⟨⟨?_, ?_, ?_, ?_, ?_, ?_⟩, ?_, ⟨?_, fun t ht => ?_⟩⟩, ?_⟩ fr
  · rw [fr 146 (by omega), newM_u (by omega)]; exact a1
  · rw [fr 146 (by omega), newM_u (by omega)]; exact a2
  · rw [fr 146 (by omega), newM_u (by omega)]; exact a3
  · rw [fr 146 (by omega), newM_u (by omega)]; exact a4
  · rw [fr 146 (by omega), newM_u (by omega)]; exact a5
  · rw [fr 146 (by omega), newM_u (by omega)]; exact a6
  · exact (rt.fr fr (by omega)).cg2 (newM_u (by omega)) (fun f t _ _ _ => newM_u (by omega))
  · rw [newM_z, ← nc]; exact E14
  · rw [gm_newM (by omega)] at ht
    by_cases d : t = gm g
    · subst d
      rw [newM_n (f := 12) (by omega), newM_n (f := 8) (by omega), newM_n (f := 9) (by omega), newM_n (f := 10) (by omega)]
      rw [e14, e8, e6, e4, e2]
      simp [mset]
    · obtain ⟨b1, b2, b3, b4⟩ := rm.2 t (by omega)
      rw [newM_u (f := 8) (by omega), newM_u (f := 9) (by omega), newM_u (f := 10) (by omega), newM_u (f := 12) (by omega)]
      rw [pv t d _ (by omega), pv t d _ (by omega), pv t d _ (by omega), pv t d _ (by omega)]
      exact ⟨b1, b2, b3, b4⟩
  · rw [fr 146 (by omega), newM_u (by omega)]; exact r5
theorem lay_147 : lay (146 + 1) = (0, 9) := by decide +kernel
theorem lay_156 : lay (146 + 10) = (0, 7) := by decide +kernel
theorem s_numT {h : Mem} {o k : Nat} {f : Nat → Int} {x : Int} {Q : Int → Mem → Prop} (ly : lay o = (0, 9)) (hk : k ≤ 8) (h0 : h o 0 = (k : Int)) (hf : ∀ t, t < k → h (o + 1) t = f t) (hQ : Q (nf f x k 0) h) : F_X9_numberOf h o x Q := by
  unfold F_X9_numberOf
  have key : ∀ (m i : Nat) (z : Int), i + m = k → z = (i : Int) → nf f x m i = nf f x k 0 → L_X9_numberOf_2 h o x z Q := by
    intro m
    induction m with
    | zero =>
      intro i z hi hz e
      subst hz
      refine l_X9_numberOf_2 ly ?_
      unfold B_X9_numberOf_2
      rw [h0]
      refine ⟨fun _ => ?_, fun y => absurd (by omega) y⟩
      rw [← e] at hQ; exact hQ
    | succ m ih =>
      intro i z hi hz e
      subst hz
      refine l_X9_numberOf_2 ly ?_
      unfold B_X9_numberOf_2
      rw [h0, Int.toNat_natCast, hf i (by omega)]
      have es : nf f x (m + 1) i = if f i = x then (i : Int) else nf f x m (i + 1) := rfl
      refine ⟨fun y => absurd y (by omega), fun _ => ⟨⟨by omega, by omega⟩, fun y => ⟨⟨by omega, by omega⟩, ih (i + 1) _ (by omega) (by omega) ?_⟩, fun y => ?_⟩⟩
      · rw [← e, es, if_neg y]
      · rw [← e, es, if_pos y] at hQ; exact hQ
  exact key k 0 0 (by omega) rfl rfl
theorem s_numM {h : Mem} {o k : Nat} {f : Nat → Int} {x : Int} {Q : Int → Mem → Prop} (ly : lay o = (0, 7)) (hk : k ≤ 4) (h0 : h o 0 = (k : Int)) (hf : ∀ t, t < k → h (o + 1) t = f t) (hQ : Q (nf f x k 0) h) : F_X7_numberOf h o x Q := by
  unfold F_X7_numberOf
  have key : ∀ (m i : Nat) (z : Int), i + m = k → z = (i : Int) → nf f x m i = nf f x k 0 → L_X7_numberOf_2 h o x z Q := by
    intro m
    induction m with
    | zero =>
      intro i z hi hz e
      subst hz
      refine l_X7_numberOf_2 ly ?_
      unfold B_X7_numberOf_2
      rw [h0]
      refine ⟨fun _ => ?_, fun y => absurd (by omega) y⟩
      rw [← e] at hQ; exact hQ
    | succ m ih =>
      intro i z hi hz e
      subst hz
      refine l_X7_numberOf_2 ly ?_
      unfold B_X7_numberOf_2
      rw [h0, Int.toNat_natCast, hf i (by omega)]
      have es : nf f x (m + 1) i = if f i = x then (i : Int) else nf f x m (i + 1) := rfl
      refine ⟨fun y => absurd y (by omega), fun _ => ⟨⟨by omega, by omega⟩, fun y => ⟨⟨by omega, by omega⟩, ih (i + 1) _ (by omega) (by omega) ?_⟩, fun y => ?_⟩⟩
      · rw [← e, es, if_neg y]
      · rw [← e, es, if_pos y] at hQ; exact hQ
  exact key k 0 0 (by omega) rfl rfl
theorem X33.f9 {h u : Mem} {T : Nat} (x : X33 h T) (f : F9f h u) : X33 u T := ⟨by rw [f 33 0 (by omega)]; exact x.1, by rw [f 33 1 (by omega)]; exact x.2.1, by rw [f 33 2 (by omega)]; exact x.2.2⟩
theorem RC.f9 {h u : Mem} {g : Gs} (r : RC h 146 g) (f : F9f h u) : RC u 146 g := rc_same r (fun i k q1 q2 => f i k (by omega))
section XN
variable {h : Mem} {B : Nat → Int} {n : Nat} {c : Er} {g : Gs} {T : Nat}
theorem s_takeNewName {Q : Int → Mem → Prop} (x : XS h B n c) (x3 : X33 h T) (r : RC h 146 g) (w : WF 0 g) (hQ : ∀ r u, F9f h u → XS u B n (bnd c (pNew B n g)) → (∀ s, c = .ok s → ∀ s', pNew B n g s = .ok s' → r = tlt B n s) → Q r u) : F_X5_takeNewName h Q := by
  have n8 := gn8 w
  have n4 := gm4 w
  unfold F_X5_takeNewName
  refine ⟨x3.1, sx_nameHere x (fun r3 h2 f2 x2 r3i v3 => ?_)⟩
  have y3 := x3.f9 f2
  have r2 := r.f9 f2
  have et : h2 (146 + 1) 0 = (gn g : Int) := by rw [n8.2]; exact r2.1.2.1.1
  have em : h2 (146 + 10) 0 = (gm g : Int) := by rw [n4.2]; exact r2.1.2.2.1
  have val : ∀ s, c = .ok s → ∀ s', pNew B n g s = .ok s' → r3 = tlt B n s := fun s hs s' hs' => by
    obtain ⟨a, ha, _⟩ := bnd_ok hs'
    exact v3 s hs a ha
  have bad : ¬ (nf (g 11) r3 (gn g) 0 = -1 ∧ nf (g 12) r3 (gm g) 0 = -1) → F_X8_fail h2 3 (fun h8 => h8 33 0 = (9 : Int) ∧ (F_X8_advance h8 (fun h11 => Q r3 h11))) := fun nb => by
    refine sx_fail x2 (w := 3) (by decide) (fun u fu xu => ⟨(y3.f9 fu).1, sx_advance xu (fun v fv xv => hQ r3 v ((f2.tr fu).tr fv) ?_ val)⟩)
    cases c with
    | error e => exact xv
    | ok s =>
      show XS v B n (pNew B n g s)
      have xv' : XS v B n (bnd (bnd (pNm B n s) (fun s => flt B n s 3)) (fun s => .ok (nx B n s))) := xv
      unfold pNew
      cases d : pNm B n s with
      | error e => rw [d] at xv'; exact xv'
      | ok s' =>
        rw [d] at xv'
        obtain ⟨rfl, -⟩ := pNm_ok d
        have e3 := v3 _ rfl _ d
        rw [e3] at nb
        show XS v B n (if _ then _ else _)
        rw [if_neg nb]; exact xv'
  have good : nf (g 11) r3 (gn g) 0 = -1 ∧ nf (g 12) r3 (gm g) 0 = -1 → F_X8_advance h2 (fun h17 => Q r3 h17) := fun nb => by
    refine sx_advance x2 (fun v fv xv => hQ r3 v (f2.tr fv) ?_ val)
    cases c with
    | error e => exact xv
    | ok s =>
      show XS v B n (pNew B n g s)
      have xv' : XS v B n (bnd (pNm B n s) (fun s => .ok (nx B n s))) := xv
      unfold pNew
      cases d : pNm B n s with
      | error e => rw [d] at xv'; exact xv'
      | ok s' =>
        rw [d] at xv'
        obtain ⟨rfl, -⟩ := pNm_ok d
        have e3 := v3 _ rfl _ d
        rw [e3] at nb
        show XS v B n (if _ then _ else _)
        rw [if_pos nb]; exact xv'
  refine ⟨146, y3.2.1, lay_33, s_numT lay_147 n8.1 et (fun t ht => (r2.1.2.1.2 t ht).1) ⟨fun q => ⟨y3.1, bad (fun z => q z.1)⟩, fun q => ⟨146, y3.2.1, lay_33, s_numM lay_156 n4.1 em (fun t ht => (r2.1.2.2.2 t ht).1) ⟨fun q2 => ⟨y3.1, good ⟨q, q2⟩⟩, fun q2 => ⟨y3.1, bad (fun z => q2 z.2)⟩⟩⟩⟩⟩
theorem s_takeKind {Q : Int → Mem → Prop} (x : XS h B n c) (x3 : X33 h T) (hQ : ∀ r u, F9f h u → XS u B n (bnd c (pKd B n)) → (0 ≤ r ∧ r ≤ 2) → (∀ s, c = .ok s → ∀ s', pKd B n s = .ok s' → r = xk B n s - 4) → Q r u) : F_X5_takeKind h Q := by
  have j32 : ∀ (u : Mem) (c' : Er) (v1 : Int), F9f h u → XS u B n c' → (bnd c' (fun s => .ok (nx B n s)) : Er) = bnd c (pKd B n) → (∀ s, c = .ok s → ∀ s', pKd B n s = .ok s' → v1 = xk B n s) → J_X5_takeKind_32 u v1 Q := fun u c' v1 f xu ec hv => by
    unfold J_X5_takeKind_32
    refine ⟨(x3.f9 f).1, sx_advance xu (fun v fv xv => ⟨fun q => ⟨fun q2 => hQ _ v (f.tr fv) (by rw [← ec]; exact xv) ⟨by omega, by omega⟩ (fun s hs s' hs' => ?_), fun q2 => hQ _ v (f.tr fv) (by rw [← ec]; exact xv) ⟨by omega, by omega⟩ (fun s hs s' hs' => ?_)⟩, fun q => hQ _ v (f.tr fv) (by rw [← ec]; exact xv) ⟨by omega, by omega⟩ (fun s hs s' hs' => ?_)⟩)⟩
    · have a := hv s hs s' hs'
      have b := (pKd_ok hs').2.2
      omega
    · have a := hv s hs s' hs'
      omega
    · have a := hv s hs s' hs'
      omega
  unfold F_X5_takeKind
  refine ⟨x3.1, sx_keyword x (fun r3 hr => ?_)⟩
  have ok : 4 ≤ r3 ∧ r3 ≤ 6 → J_X5_takeKind_32 h r3 Q := fun hk => by
    refine j32 h c r3 F9f.rf x ?_ (fun s hs _ _ => hr s hs)
    cases c with
    | error e => rfl
    | ok s =>
      show _ = pKd B n s
      unfold pKd
      rw [if_pos (by rw [← hr s rfl]; exact hk)]; rfl
  refine ⟨fun q => ok (by omega), fun q => ⟨fun q2 => ok (by omega), fun q2 => ⟨fun q3 => ok (by omega), fun q3 => ⟨x3.1, sx_fail x (w := 2) (by decide) (fun u fu xu => j32 u _ r3 fu xu ?_ (fun s hs _ _ => hr s hs))⟩⟩⟩⟩
  cases c with
  | error e => rfl
  | ok s =>
    show _ = pKd B n s
    unfold pKd
    have := hr s rfl
    rw [if_neg (by omega)]; rfl
end XN
