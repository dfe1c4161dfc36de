/-! make, build -/
def addT (g : Gs) (a b c : Int) : Gs := fun f i => if f = 0 ∧ i = 0 then g 0 0 + 1 else if i = gn g ∧ ((1 ≤ f ∧ f ≤ 7) ∨ f = 11) then (if f = 1 then a else if f = 2 then b else if f = 3 then c else 0) else g f i
theorem addT_n {g : Gs} {a b c : Int} {f i : Nat} (h : (f = 0 ∧ i ≠ 0) ∨ (f ≠ 0 ∧ i ≠ gn g) ∨ (8 ≤ f ∧ f ≠ 11)) : addT g a b c f i = g f i := by
  unfold addT
  rw [if_neg (by omega), if_neg (by omega)]
theorem addT_0 {g : Gs} {a b c : Int} : addT g a b c 0 0 = g 0 0 + 1 := by simp [addT]
theorem addT_1 {g : Gs} {a b c : Int} : addT g a b c 1 (gn g) = a := by simp [addT]
theorem addT_2 {g : Gs} {a b c : Int} : addT g a b c 2 (gn g) = b := by simp [addT]
theorem addT_3 {g : Gs} {a b c : Int} : addT g a b c 3 (gn g) = c := by simp [addT]
theorem addT_x {g : Gs} {a b c : Int} {f : Nat} (h : f = 4 ∨ f = 5 ∨ f = 6 ∨ f = 7 ∨ f = 11) : addT g a b c f (gn g) = 0 := by
  unfold addT
  rw [if_neg (by omega), if_pos (by omega), if_neg (by omega), if_neg (by omega), if_neg (by omega)]
theorem gn_addT {g : Gs} {a b c : Int} (h : 0 ≤ g 0 0) : gn (addT g a b c) = gn g + 1 := by
  show (addT g a b c 0 0).toNat = _
  rw [addT_0]; unfold gn; omega
theorem gm_addT {g : Gs} {a b c : Int} : gm (addT g a b c) = gm g := by
  unfold gm; rw [addT_n (by omega)]
theorem WF.adT {B : Int} {g : Gs} {a b c : Int} (w : WF B g) (hn : g 0 0 < 8) (ha : 0 ≤ a ∧ a ≤ 9) (hb : 1 ≤ b ∧ b ≤ 24) (hc : 1 ≤ c ∧ c ≤ 24) : WF B (addT g a b c) := by
  have ws := w.1
  unfold WFs at ws
  have e0 : ∀ i, i ≠ 0 → addT g a b c 0 i = g 0 i := fun i hi => addT_n (Or.inl ⟨rfl, hi⟩)
  refine ⟨?_, fun t ht => ?_, fun m hm => ?_⟩
  · unfold WFs
    rw [addT_0, e0 1 (by omega), e0 2 (by omega), e0 3 (by omega), e0 4 (by omega), e0 5 (by omega), e0 6 (by omega), e0 7 (by omega), e0 8 (by omega)]
    omega
  · rw [gn_addT (by omega)] at ht
    unfold WFt
    rw [e0 2 (by omega), e0 5 (by omega)]
    by_cases d : t = gn g
    · subst d
      rw [addT_1, addT_2, addT_3, addT_x (Or.inl rfl), addT_x (f := 5) (by omega), addT_x (f := 6) (by omega), addT_x (f := 7) (by omega)]
      omega
    · have := w.2.1 t (by omega)
      unfold WFt at this
      rw [addT_n (f := 1) (by omega), addT_n (f := 2) (by omega), addT_n (f := 3) (by omega), addT_n (f := 4) (by omega), addT_n (f := 5) (by omega), addT_n (f := 6) (by omega), addT_n (f := 7) (by omega)]
      exact this
  · rw [gm_addT] at hm
    have := w.2.2 m hm
    unfold WFm at this ⊢
    rw [e0 2 (by omega), e0 5 (by omega), addT_n (f := 8) (by omega), addT_n (f := 9) (by omega), addT_n (f := 10) (by omega)]
    exact this
theorem s_addThing {h : Mem} {g : Gs} {B : Int} {a b c : Int} {Q : Int → Mem → Prop} (r : RC h 12 g) (w : WF B g) (hn : g 0 0 < 8) (hQ : ∀ u, RC u 12 (addT g a b c) → Fr 13 22 h u → Q (g 0 0) u) : F_X9_addThing h 13 0 a b c Q := by
  obtain ⟨n8, nc⟩ := gn8 w
  obtain ⟨⟨⟨a1, a2, a3, a4, a5, a6⟩, rt, rm⟩, r5⟩ := r
  have E : h 13 0 = (gn g : Int) := by rw [nc]; exact rt.1
  have w1 := w.1
  unfold WFs at w1
  unfold F_X9_addThing
  refine ⟨fun _ => ⟨⟨by omega, by omega⟩, fun h2 e2 => ?_⟩, fun q => absurd q (by omega)⟩
  rw [E, Int.toNat_natCast] at e2
  have E2 : h2 13 0 = (gn g : Int) := by rw [e2, mset_i _ (by omega)]; exact E
  refine ⟨⟨by omega, by omega⟩, fun h4 e4 => ?_⟩
  rw [E2, Int.toNat_natCast] at e4
  have E4 : h4 13 0 = (gn g : Int) := by rw [e4, mset_i _ (by omega)]; exact E2
  refine ⟨⟨by omega, by omega⟩, fun h6 e6 => ?_⟩
  rw [E4, Int.toNat_natCast] at e6
  have E6 : h6 13 0 = (gn g : Int) := by rw [e6, mset_i _ (by omega)]; exact E4
  refine ⟨⟨by omega, by omega⟩, fun h8 e8 => ?_⟩
  rw [E6, Int.toNat_natCast] at e8
  have E8 : h8 13 0 = (gn g : Int) := by rw [e8, mset_i _ (by omega)]; exact E6
  refine ⟨⟨by omega, by omega⟩, fun h10 e10 => ?_⟩
  rw [E8, Int.toNat_natCast] at e10
  have E10 : h10 13 0 = (gn g : Int) := by rw [e10, mset_i _ (by omega)]; exact E8
  refine ⟨⟨by omega, by omega⟩, fun hA eA hB eB hC eC => ?_⟩
  rw [E10, Int.toNat_natCast] at eA eB eC
  have EC : hC 13 0 = (gn g : Int) := by rw [eC, mset_i _ (by omega), eB, mset_i _ (by omega), eA, mset_i _ (by omega)]; exact E10
  refine ⟨⟨by omega, by omega⟩, fun h14 e14 => ?_⟩
  rw [EC] at e14
  have E14 : h14 13 0 = (gn g : Int) + 1 := by rw [e14]; exact mset_at
  have fr : Fr 13 22 h h14 := by
    rw [e14, eC, eB, eA, e10, e8, e6, e4, e2]
    exact ((((((((Fr.rf.st (by omega) (by omega)).st (by omega) (by omega)).st (by omega) (by omega)).st (by omega) (by omega)).st (by omega) (by omega)).st (by omega) (by omega)).st (by omega) (by omega)).st (by omega) (by omega)).st (by omega) (by omega)
  have pv : ∀ i, i ≠ gn g → ∀ j, j ≠ 13 → h14 j i = h j i := fun i hi j hj => by
    rw [e14, mset_i _ hj, eC, eB, eA, e10, e8, e6, e4, e2]
    simp [mset, hi]
  refine ⟨⟨by omega, by omega⟩, ?_⟩
  have ev : h14 13 0 - 1 = g 0 0 := by omega
  rw [ev]
  refine hQ h14 ⟨⟨⟨?_, ?_, ?_, ?_, ?_, ?_⟩, ⟨?_, fun t ht => ?_⟩, ?_, fun m hm => ?_⟩, ?_⟩ fr
  · rw [fr 12 (by omega), addT_n (by omega)]; exact a1
  · rw [fr 12 (by omega), addT_n (by omega)]; exact a2
  · rw [fr 12 (by omega), addT_n (by omega)]; exact a3
  · rw [fr 12 (by omega), addT_n (by omega)]; exact a4
  · rw [fr 12 (by omega), addT_n (by omega)]; exact a5
  · rw [fr 12 (by omega), addT_n (by omega)]; exact a6
  · rw [addT_0, ← nc]; exact E14
  · rw [gn_addT (by omega)] at ht
    by_cases d : t = gn g
    · subst d
      rw [addT_1, addT_2, addT_3, addT_x (f := 11) (by omega), addT_x (f := 4) (by omega), addT_x (f := 5) (by omega), addT_x (f := 6) (by omega), addT_x (f := 7) (by omega)]
      rw [e14, eC, eB, eA, e10, e8, e6, e4, e2]
      simp [mset]
    · obtain ⟨b1, b2, b3, b4, b5, b6, b7, b8⟩ := rt.2 t (by omega)
      rw [addT_n (f := 1) (by omega), addT_n (f := 2) (by omega), addT_n (f := 3) (by omega), addT_n (f := 4) (by omega), addT_n (f := 5) (by omega), addT_n (f := 6) (by omega), addT_n (f := 7) (by omega), addT_n (f := 11) (by omega)]
      rw [pv t d _ (by omega), pv t d _ (by omega), pv t d _ (by omega), pv t d _ (by omega), pv t d _ (by omega), pv t d _ (by omega), pv t d _ (by omega), pv t d _ (by omega)]
      exact ⟨b1, b2, b3, b4, b5, b6, b7, b8⟩
  · rw [fr 22 (by omega), addT_n (by omega)]; exact rm.1
  · rw [gm_addT] at hm
    obtain ⟨b1, b2, b3, b4⟩ := rm.2 m hm
    refine ⟨?_, ?_, ?_, ?_⟩
    · rw [fr 23 (by omega), addT_n (by omega)]; exact b1
    · rw [fr 24 (by omega), addT_n (by omega)]; exact b2
    · rw [fr 25 (by omega), addT_n (by omega)]; exact b3
    · rw [fr 26 (by omega), addT_n (by omega)]; exact b4
  · rw [fr 12 (by omega), addT_n (by omega)]; exact r5
theorem q_makeLoop {n : Nat} {a b c : Int} {Q : Int → Mem → Prop} (hn : n < 8) : ∀ (m i : Nat) (x : Int), x = (i : Int) → i + m = 7 → ∀ h : Mem,
    (∀ u : Mem, (∀ j k, ¬ (j = 162 ∧ 12 + 7 * n + i ≤ k ∧ k < 12 + 7 * n + 7) → u j k = h j k) → (∀ k, i ≤ k → k < 7 → u 162 (12 + 7 * n + k) = 0) → L_X12_make_76 u a b c (n : Int) 7 Q) → L_X12_make_76 h a b c (n : Int) x Q := by
  intro m
  induction m with
  | zero =>
    intro i x hx hi h hQ
    subst hx
    obtain rfl : i = 7 := by omega
    exact hQ h (fun _ _ _ => rfl) (fun k h1 h2 => absurd h1 (by omega))
  | succ m ih =>
    intro i x hx hi h hQ
    subst hx
    refine l_X12_make_76 ?_
    unfold B_X12_make_76
    refine ⟨fun q => absurd q (by omega), fun _ => q_thingRow rfl hn ⟨⟨by omega, by omega⟩, ⟨by omega, by omega⟩, fun h2 e2 => ⟨⟨by omega, by omega⟩, ih (i + 1) ((i : Int) + 1) (by omega) (by omega) h2 (fun u f z => hQ u (fun j k q => ?_) (fun k k1 k2 => ?_))⟩⟩⟩
    · have zz : (12 + 7 * (n : Int) + (i : Int)).toNat = 12 + 7 * n + i := by omega
      rw [zz] at e2
      rw [f j k (by omega), e2]
      unfold mset
      rw [if_neg (by omega)]
    · by_cases d : k = i
      · have zz : (12 + 7 * (n : Int) + (i : Int)).toNat = 12 + 7 * n + i := by omega
        rw [zz] at e2
        subst d
        rw [f 162 _ (by omega), e2, mset_at]
      · exact z k (by omega) k2
theorem c8_0 : c8 0 = 0 := rfl
theorem k_make {h : Mem} {g : Gs} {a b c : Int} (s : G2 h g) {Q : Int → Int → Mem → Prop} (hQ : ∀ r u1 u g', G2 u g' → Mo g g' → UX h u1 → UM u1 u → Q r r u) : F_X11_make h a b c (fun r1 h1 => F_X12_make h1 a b c (fun r2 h2 => Q r1 r2 h2)) := by
  have w := s.1
  have w1 := w.1
  unfold WFs at w1
  obtain ⟨n8, nc⟩ := gn8 w
  have e0 : h 13 0 = g 0 0 := s.2.1.1.2.1.1
  by_cases d : (0 ≤ a ∧ a ≤ 9) ∧ (1 ≤ b ∧ b ≤ 24) ∧ 1 ≤ c ∧ c ≤ 24
  · obtain ⟨d1, d2, d3⟩ := d
    by_cases n : g 0 0 < 8
    · have w' : WF 9999 (addT g a b c) := w.adT n d1 d2 d3
      have mo : Mo g (addT g a b c) := ⟨by rw [addT_0]; omega, by rw [addT_n (by omega)]; omega, addT_n (by omega)⟩
      refine Kp.mk (FX := F_X11_make h a b c) (FM := fun h1 => F_X12_make h1 a b c) (g' := addT g a b c) (st := 0) (r := g 0 0) s w' (fun Q hQ => ?_) (fun h1 rx rn Q hQ => ?_) hQ
      · unfold F_X11_make
        exact x_outside (fun q => absurd d1 q) (fun _ => ⟨fun q => absurd rfl q, fun _ => x_outside (fun q => absurd d2 q) (fun _ => ⟨fun q => absurd rfl q, fun _ => x_outside (fun q => absurd d3 q) (fun _ => ⟨fun _ => ⟨fun _ => s_addThing s.2.1 w n (fun u ru fu => x_given (UX.fr (fu.wd (l2 := 12) (h2 := 27) (by omega) (by omega)) (by omega)) ru hQ), fun q => absurd (by omega) q⟩, fun q => absurd rfl q⟩)⟩)⟩)
      · have em : h1 162 0 = (gn g : Int) := by rw [nc]; exact rx.1.1 0 (by omega) (by omega)
        unfold F_X12_make
        refine m_isFrom (fun q => absurd d1 q) (fun _ => ⟨fun q => absurd q (by decide), fun _ => m_isFrom (fun q => absurd d2 q) (fun _ => ⟨fun q => absurd q (by decide), fun _ => m_isFrom (fun q => absurd d3 q) (fun _ => ⟨fun _ => ⟨fun _ => ⟨⟨by omega, by omega⟩, fun h2 e2 => ?_⟩, fun q => absurd q (by omega)⟩, fun q => absurd q (by decide)⟩)⟩)⟩)
        rw [em] at e2
        rw [em]
        refine q_makeLoop (by omega) 7 0 0 rfl rfl h2 (fun u f z => ?_)
        refine l_X12_make_76 ?_
        unfold B_X12_make_76
        refine ⟨fun _ => q_thingRow rfl (by omega) ⟨⟨by omega, by omega⟩, fun v1 ev1 => q_thingRow rfl (by omega) ⟨⟨by omega, by omega⟩, ⟨by omega, by omega⟩, fun v2 ev2 => q_thingRow rfl (by omega) ⟨⟨by omega, by omega⟩, ⟨by omega, by omega⟩, fun v3 ev3 => ⟨⟨by omega, by omega⟩, fun v4 ev4 => ?_⟩⟩⟩⟩, fun q => absurd (by decide) q⟩
        have z0 : (12 + 7 * (gn g : Int)).toNat = 12 + 7 * gn g := by omega
        have z1 : (12 + 7 * (gn g : Int) + 1).toNat = 12 + 7 * gn g + 1 := by omega
        have z2 : (12 + 7 * (gn g : Int) + 2).toNat = 12 + 7 * gn g + 2 := by omega
        rw [z0] at ev1
        rw [z1] at ev2
        rw [z2] at ev3
        rw [Int.toNat_natCast] at ev4
        have old : ∀ k, k ≠ 0 → ¬ (12 + 7 * gn g ≤ k ∧ k < 12 + 7 * gn g + 7) → v4 162 k = h1 162 k := fun k k0 kn => by
          rw [ev4, mset_i _ (by omega), ev3, mset_k (by omega), ev2, mset_k (by omega), ev1, mset_k (by omega), f 162 k (by omega), e2, mset_k k0]
        have far : ∀ j k, j ≠ 162 → (j ≠ 163 ∨ k ≠ gn g) → v4 j k = h1 j k := fun j k j2 j3 => by
          rw [ev4]
          have : mset v3 163 (gn g) 0 j k = v3 j k := by unfold mset; rw [if_neg (by omega)]
          rw [this, ev3, mset_i _ j2, ev2, mset_i _ j2, ev1, mset_i _ j2, f j k (by omega), e2, mset_i _ j2]
        have at0 : v4 162 0 = (gn g : Int) + 1 := by
          rw [ev4, mset_i _ (by omega), ev3, mset_k (by omega), ev2, mset_k (by omega), ev1, mset_k (by omega), f 162 0 (by omega), e2, mset_at]
        rw [nc]
        have um : UM h1 v4 := fun i k q1 q2 q3 q4 => by
          by_cases c1 : i = 162
          · subst c1; exact old k (by omega) (by omega)
          · exact far i k c1 (by omega)
        refine m_gives um w'.nm ⟨⟨fun i hi h5 => ?_, fun t k ht hk hv => ?_, fun m k hm hk => ?_⟩, ?_⟩ ⟨fun t ht => ?_, fun t ht => ?_⟩ hQ
        · by_cases c0 : i = 0
          · subst c0; rw [addT_0, at0, nc]
          · rw [old i c0 (by omega), addT_n (by omega)]; exact rx.1.1 i hi h5
        · rw [gn_addT (by omega)] at ht
          by_cases ct : t = gn g
          · subst ct
            have kk : k = 0 ∨ k = 1 ∨ k = 2 ∨ 3 ≤ k := by omega
            rcases kk with rfl | rfl | rfl | k3
            · show _ = addT g a b c 1 (gn g)
              rw [addT_1, ev4, mset_i _ (by omega), ev3, mset_k (by omega), ev2, mset_k (by omega), ev1]; exact mset_at
            · show _ = addT g a b c 2 (gn g)
              rw [addT_2, ev4, mset_i _ (by omega), ev3, mset_k (by omega), ev2]; exact mset_at
            · show _ = addT g a b c 3 (gn g)
              rw [addT_3, ev4, mset_i _ (by omega), ev3]; exact mset_at
            · rw [addT_x (by omega), ev4, mset_i _ (by omega), ev3, mset_k (by omega), ev2, mset_k (by omega), ev1, mset_k (by omega)]
              exact z k (by omega) hk
          · rw [old _ (by omega) (by omega), addT_n (by omega)]
            refine rx.1.2.1 t k (by omega) hk (fun q => ?_)
            have hv2 : addT g a b c 4 t = 1 := hv q
            rw [addT_n (by omega)] at hv2
            exact hv2
        · rw [gm_addT] at hm
          have := w.nm.2
          rw [old _ (by omega) (by omega), addT_n (by omega)]
          exact rx.1.2.2 m k hm hk
        · rw [old 5 (by omega) (by omega), addT_n (by omega)]; exact rx.2
        · rw [gn_addT (by omega)] at ht
          by_cases ct : t = gn g
          · subst ct
            rw [addT_x (by omega), ev4, mset_at]; exact c8_0.symm
          · rw [far 163 t (by omega) (by omega), addT_n (by omega)]
            exact rn.1 t (by omega)
        · rw [gm_addT] at ht
          rw [far 163 _ (by omega) (by omega), addT_n (by omega)]
          exact rn.2 t ht
    · refine Kp.mk (FX := F_X11_make h a b c) (FM := fun h1 => F_X12_make h1 a b c) (g' := g) (st := 4) (r := -1) s w (fun Q hQ => ?_) (fun h1 rx rn Q hQ => ?_) hQ
      · unfold F_X11_make
        exact x_outside (fun q => absurd d1 q) (fun _ => ⟨fun q => absurd rfl q, fun _ => x_outside (fun q => absurd d2 q) (fun _ => ⟨fun q => absurd rfl q, fun _ => x_outside (fun q => absurd d3 q) (fun _ => ⟨fun _ => ⟨fun q => absurd q (by omega), fun _ => x_refused UX.rf s.2.1 hQ⟩, fun q => absurd rfl q⟩)⟩)⟩)
      · have em : h1 162 0 = g 0 0 := rx.1.1 0 (by omega) (by omega)
        unfold F_X12_make
        exact m_isFrom (fun q => absurd d1 q) (fun _ => ⟨fun q => absurd q (by decide), fun _ => m_isFrom (fun q => absurd d2 q) (fun _ => ⟨fun q => absurd q (by decide), fun _ => m_isFrom (fun q => absurd d3 q) (fun _ => ⟨fun _ => ⟨fun q => absurd (by omega) q, fun _ => m_refuse UM.rf w.nm rx rn hQ⟩, fun q => absurd q (by decide)⟩)⟩)⟩)
  · refine Kp.mk (FX := F_X11_make h a b c) (FM := fun h1 => F_X12_make h1 a b c) (g' := g) (st := 1) (r := -1) s w (fun Q hQ => ?_) (fun h1 rx rn Q hQ => ?_) hQ
    · have no : F_X11_refused h 1 Q := x_refused UX.rf s.2.1 hQ
      exact x_outside (fun q => ⟨fun _ => no, fun q => absurd q (by decide)⟩) (fun d1 => ⟨fun q => absurd rfl q, fun _ => x_outside (fun q => ⟨fun _ => no, fun q => absurd q (by decide)⟩) (fun d2 => ⟨fun q => absurd rfl q, fun _ => x_outside (fun q => ⟨fun q => absurd q (by decide), fun _ => no⟩) (fun d3 => absurd ⟨d1, d2, d3⟩ d)⟩)⟩)
    · have no : F_X12_refuse h1 1 Q := m_refuse UM.rf w.nm rx rn hQ
      exact m_isFrom (fun q => ⟨fun _ => no, fun q => absurd rfl q⟩) (fun d1 => ⟨fun q => absurd q (by decide), fun _ => m_isFrom (fun q => ⟨fun _ => no, fun q => absurd rfl q⟩) (fun d2 => ⟨fun q => absurd q (by decide), fun _ => m_isFrom (fun q => ⟨fun q => absurd rfl q, fun _ => no⟩) (fun d3 => absurd ⟨d1, d2, d3⟩ d)⟩)⟩)
