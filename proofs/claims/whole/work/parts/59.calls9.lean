/-! build -/
def addM (g : Gs) (a b : Int) : Gs := fun f i => if f = 0 ∧ i = 1 then g 0 1 + 1 else if i = gm g ∧ ((8 ≤ f ∧ f ≤ 10) ∨ f = 12) then (if f = 8 then a else if f = 9 then b else 0) else g f i
theorem addM_n {g : Gs} {a b : Int} {f i : Nat} (h : (f = 0 ∧ i ≠ 1) ∨ (f ≠ 0 ∧ i ≠ gm g) ∨ (1 ≤ f ∧ f ≤ 7) ∨ f = 11) : addM g a b f i = g f i := by
  unfold addM
  rw [if_neg (by omega), if_neg (by omega)]
theorem addM_0 {g : Gs} {a b : Int} : addM g a b 0 1 = g 0 1 + 1 := by simp [addM]
theorem addM_8 {g : Gs} {a b : Int} : addM g a b 8 (gm g) = a := by simp [addM]
theorem addM_9 {g : Gs} {a b : Int} : addM g a b 9 (gm g) = b := by simp [addM]
theorem addM_x {g : Gs} {a b : Int} {f : Nat} (h : f = 10 ∨ f = 12) : addM g a b f (gm g) = 0 := by
  unfold addM
  rw [if_neg (by omega), if_pos (by omega), if_neg (by omega), if_neg (by omega)]
theorem gm_addM {g : Gs} {a b : Int} (h : 0 ≤ g 0 1) : gm (addM g a b) = gm g + 1 := by
  show (addM g a b 0 1).toNat = _
  rw [addM_0]; unfold gm; omega
theorem gn_addM {g : Gs} {a b : Int} : gn (addM g a b) = gn g := by
  unfold gn; rw [addM_n (by omega)]
theorem WF.adM {B : Int} {g : Gs} {a b : Int} (w : WF B g) (hn : g 0 1 < 4) (ha : 0 ≤ a ∧ a < g 0 2) (hb : 0 ≤ b ∧ b ≤ 2) : WF B (addM g a b) := by
  have ws := w.1
  unfold WFs at ws
  have e0 : ∀ i, i ≠ 1 → addM g a b 0 i = g 0 i := fun i hi => addM_n (Or.inl ⟨rfl, hi⟩)
  refine ⟨?_, fun t ht => ?_, fun m hm => ?_⟩
  · unfold WFs
    rw [addM_0, e0 0 (by omega), e0 2 (by omega), e0 3 (by omega), e0 4 (by omega), e0 5 (by omega), e0 6 (by omega), e0 7 (by omega), e0 8 (by omega)]
    omega
  · rw [gn_addM] at ht
    have := w.2.1 t ht
    unfold WFt at this ⊢
    rw [e0 2 (by omega), e0 5 (by omega), addM_n (f := 1) (by omega), addM_n (f := 2) (by omega), addM_n (f := 3) (by omega), addM_n (f := 4) (by omega), addM_n (f := 5) (by omega), addM_n (f := 6) (by omega), addM_n (f := 7) (by omega)]
    exact this
  · rw [gm_addM (by omega)] at hm
    unfold WFm
    rw [e0 2 (by omega), e0 5 (by omega)]
    by_cases d : m = gm g
    · subst d
      rw [addM_8, addM_9, addM_x (Or.inl rfl)]
      omega
    · have := w.2.2 m (by omega)
      unfold WFm at this
      rw [addM_n (f := 8) (by omega), addM_n (f := 9) (by omega), addM_n (f := 10) (by omega)]
      exact this
theorem s_addMill {h : Mem} {g : Gs} {B : Int} {a b : Int} {Q : Int → Mem → Prop} (r : RC h 12 g) (w : WF B g) (hn : g 0 1 < 4) (hQ : ∀ u, RC u 12 (addM g a b) → Fr 22 27 h u → Q (g 0 1) u) : F_X7_addMill h 22 0 a b Q := by
  obtain ⟨n4, nc⟩ := gm4 w
  obtain ⟨⟨⟨a1, a2, a3, a4, a5, a6⟩, rt, rm⟩, r5⟩ := r
  have E : h 22 0 = (gm g : Int) := by rw [nc]; exact rm.1
  have w1 := w.1
  unfold WFs at w1
  unfold F_X7_addMill
  refine ⟨fun _ => ⟨⟨by omega, by omega⟩, fun h2 e2 => ?_⟩, fun q => absurd q (by omega)⟩
  rw [E, Int.toNat_natCast] at e2
  have E2 : h2 22 0 = (gm g : Int) := by rw [e2, mset_i _ (by omega)]; exact E
  refine ⟨⟨by omega, by omega⟩, fun h4 e4 => ?_⟩
  rw [E2, Int.toNat_natCast] at e4
  have E4 : h4 22 0 = (gm g : Int) := by rw [e4, mset_i _ (by omega)]; exact E2
  refine ⟨⟨by omega, by omega⟩, fun h6 e6 => ?_⟩
  rw [E4, Int.toNat_natCast] at e6
  have E6 : h6 22 0 = (gm g : Int) := by rw [e6, mset_i _ (by omega)]; exact E4
  refine ⟨⟨by omega, by omega⟩, fun h8 e8 => ?_⟩
  rw [E6, Int.toNat_natCast] at e8
  have E8 : h8 22 0 = (gm g : Int) := by rw [e8, mset_i _ (by omega)]; exact E6
  refine ⟨⟨by omega, by omega⟩, fun h14 e14 => ?_⟩
  rw [E8] at e14
  have E14 : h14 22 0 = (gm g : Int) + 1 := by rw [e14]; exact mset_at
  have fr : Fr 22 27 h h14 := by
    rw [e14, e8, e6, e4, e2]
    exact ((((Fr.rf.st (by omega) (by omega)).st (by omega) (by omega)).st (by omega) (by omega)).st (by omega) (by omega)).st (by omega) (by omega)
  have pv : ∀ i, i ≠ gm g → ∀ j, j ≠ 22 → h14 j i = h j i := fun i hi j hj => by
    rw [e14, mset_i _ hj, e8, e6, e4, e2]
    simp [mset, hi]
  refine ⟨⟨by omega, by omega⟩, ?_⟩
  have ev : h14 22 0 - 1 = g 0 1 := by omega
  rw [ev]
  refine hQ h14 ⟨⟨⟨?_, ?_, ?_, ?_, ?_, ?_⟩, ?_, ⟨?_, fun t ht => ?_⟩⟩, ?_⟩ fr
  · rw [fr 12 (by omega), addM_n (by omega)]; exact a1
  · rw [fr 12 (by omega), addM_n (by omega)]; exact a2
  · rw [fr 12 (by omega), addM_n (by omega)]; exact a3
  · rw [fr 12 (by omega), addM_n (by omega)]; exact a4
  · rw [fr 12 (by omega), addM_n (by omega)]; exact a5
  · rw [fr 12 (by omega), addM_n (by omega)]; exact a6
  · exact (rt.fr fr (by omega)).cg2 (addM_n (by omega)) (fun f t _ _ _ => addM_n (by omega))
  · rw [addM_0, ← nc]; exact E14
  · rw [gm_addM (by omega)] at ht
    by_cases d : t = gm g
    · subst d
      rw [addM_8, addM_9, addM_x (f := 12) (by omega), addM_x (f := 10) (by omega)]
      rw [e14, e8, e6, e4, e2]
      simp [mset]
    · obtain ⟨b1, b2, b3, b4⟩ := rm.2 t (by omega)
      rw [addM_n (f := 8) (by omega), addM_n (f := 9) (by omega), addM_n (f := 10) (by omega), addM_n (f := 12) (by omega)]
      rw [pv t d _ (by omega), pv t d _ (by omega), pv t d _ (by omega), pv t d _ (by omega)]
      exact ⟨b1, b2, b3, b4⟩
  · rw [fr 12 (by omega), addM_n (by omega)]; exact r5
theorem k_build {h : Mem} {g : Gs} {a b : Int} (s : G2 h g) {Q : Int → Int → Mem → Prop} (hQ : ∀ r u1 u g', G2 u g' → Mo g g' → UX h u1 → UM u1 u → Q r r u) : F_X11_build h a b (fun r1 h1 => F_X12_build h1 a b (fun r2 h2 => Q r1 r2 h2)) := by
  have w := s.1
  have w1 := w.1
  unfold WFs at w1
  obtain ⟨n4, nc⟩ := gm4 w
  have n8 := w.nm.1
  have e0 : h 22 0 = g 0 1 := s.2.1.1.2.2.1
  by_cases d : (0 ≤ a ∧ a < g 0 2) ∧ 0 ≤ b ∧ b ≤ 2
  · obtain ⟨d1, d2⟩ := d
    by_cases n : g 0 1 < 4
    · have w' : WF 9999 (addM g a b) := w.adM n d1 d2
      have mo : Mo g (addM g a b) := ⟨by rw [addM_n (by omega)]; omega, by rw [addM_0]; omega, addM_n (by omega)⟩
      refine Kp.mk (FX := F_X11_build h a b) (FM := fun h1 => F_X12_build h1 a b) (g' := addM g a b) (st := 0) (r := g 0 1) s w' (fun Q hQ => ?_) (fun h1 rx rn Q hQ => ?_) hQ
      · unfold F_X11_build
        exact x_isCell s.2.1 (fun q => absurd d1 q) (fun _ => ⟨fun q => absurd q (by decide), fun _ => x_outside (fun q => absurd d2 q) (fun _ => ⟨fun _ => ⟨fun _ => s_addMill s.2.1 w n (fun u ru fu => x_given (UX.fr (fu.wd (l2 := 12) (h2 := 27) (by omega) (by omega)) (by omega)) ru hQ), fun q => absurd (by omega) q⟩, fun q => absurd rfl q⟩)⟩)
      · have em : h1 162 1 = (gm g : Int) := by rw [nc]; exact rx.1.1 1 (by omega) (by omega)
        unfold F_X12_build
        refine m_isCell rx (fun q => absurd d1 q) (fun _ => ⟨fun q => absurd q (by decide), fun _ => m_isFrom (fun q => absurd d2 q) (fun _ => ⟨fun _ => ⟨fun _ => ⟨⟨by omega, by omega⟩, fun h2 e2 => ?_⟩, fun q => absurd q (by omega)⟩, fun q => absurd q (by decide)⟩)⟩)
        rw [em] at e2
        rw [em]
        refine q_millRow rfl (by omega) ⟨⟨by omega, by omega⟩, fun v1 ev1 => q_millRow rfl (by omega) ⟨⟨by omega, by omega⟩, ⟨by omega, by omega⟩, fun v2 ev2 => q_millRow rfl (by omega) ⟨⟨by omega, by omega⟩, ⟨by omega, by omega⟩, fun v3 ev3 => ⟨⟨by omega, by omega⟩, ⟨by omega, by omega⟩, fun v4 ev4 => ?_⟩⟩⟩⟩
        have z0 : (68 + 3 * (gm g : Int)).toNat = 68 + 3 * gm g := by omega
        have z1 : (68 + 3 * (gm g : Int) + 1).toNat = 68 + 3 * gm g + 1 := by omega
        have z2 : (68 + 3 * (gm g : Int) + 2).toNat = 68 + 3 * gm g + 2 := by omega
        have z3 : (8 + (gm g : Int)).toNat = 8 + gm g := by omega
        rw [z0] at ev1
        rw [z1] at ev2
        rw [z2] at ev3
        rw [z3] at ev4
        have old : ∀ k, k ≠ 1 → ¬ (68 + 3 * gm g ≤ k ∧ k < 68 + 3 * gm g + 3) → v4 162 k = h1 162 k := fun k k0 kn => by
          rw [ev4, mset_i _ (by omega), ev3, mset_k (by omega), ev2, mset_k (by omega), ev1, mset_k (by omega), e2, mset_k k0]
        have far : ∀ j k, j ≠ 162 → (j ≠ 163 ∨ k ≠ 8 + gm g) → v4 j k = h1 j k := fun j k j2 j3 => by
          rw [ev4]
          have : mset v3 163 (8 + gm g) 0 j k = v3 j k := by unfold mset; rw [if_neg (by omega)]
          rw [this, ev3, mset_i _ j2, ev2, mset_i _ j2, ev1, mset_i _ j2, e2, mset_i _ j2]
        have at0 : v4 162 1 = (gm g : Int) + 1 := by
          rw [ev4, mset_i _ (by omega), ev3, mset_k (by omega), ev2, mset_k (by omega), ev1, mset_k (by omega), e2, mset_at]
        rw [nc]
        have um : UM h1 v4 := fun i k q1 q2 q3 q4 => by
          by_cases c1 : i = 162
          · subst c1; exact old k (by omega) (by omega)
          · exact far i k c1 (by omega)
        refine m_gives um w'.nm ⟨⟨fun i hi h5 => ?_, fun t k ht hk hv => ?_, fun m k hm hk => ?_⟩, ?_⟩ ⟨fun t ht => ?_, fun t ht => ?_⟩ hQ
        · by_cases c0 : i = 1
          · subst c0; rw [addM_0, at0, nc]
          · rw [old i c0 (by omega), addM_n (by omega)]; exact rx.1.1 i hi h5
        · rw [gn_addM] at ht
          rw [old _ (by omega) (by omega), addM_n (by omega)]
          refine rx.1.2.1 t k (by omega) hk (fun q => ?_)
          have hv2 : addM g a b 4 t = 1 := hv q
          rw [addM_n (by omega)] at hv2
          exact hv2
        · rw [gm_addM (by omega)] at hm
          by_cases ct : m = gm g
          · subst ct
            have kk : k = 0 ∨ k = 1 ∨ k = 2 := by omega
            rcases kk with rfl | rfl | rfl
            · show _ = addM g a b 8 (gm g)
              rw [addM_8, ev4, mset_i _ (by omega), ev3, mset_k (by omega), ev2, mset_k (by omega), ev1]; exact mset_at
            · show _ = addM g a b 9 (gm g)
              rw [addM_9, ev4, mset_i _ (by omega), ev3, mset_k (by omega), ev2]; exact mset_at
            · show _ = addM g a b 10 (gm g)
              rw [addM_x (Or.inl rfl), ev4, mset_i _ (by omega), ev3]; exact mset_at
          · rw [old _ (by omega) (by omega), addM_n (by omega)]
            exact rx.1.2.2 m k (by omega) hk
        · rw [old 5 (by omega) (by omega), addM_n (by omega)]; exact rx.2
        · rw [gn_addM] at ht
          rw [far 163 t (by omega) (by omega), addM_n (by omega)]
          exact rn.1 t ht
        · rw [gm_addM (by omega)] at ht
          by_cases ct : t = gm g
          · subst ct
            rw [addM_x (by omega), ev4, mset_at]; exact c8_0.symm
          · rw [far 163 _ (by omega) (by omega), addM_n (by omega)]
            exact rn.2 t (by omega)
    · refine Kp.mk (FX := F_X11_build h a b) (FM := fun h1 => F_X12_build h1 a b) (g' := g) (st := 4) (r := -1) s w (fun Q hQ => ?_) (fun h1 rx rn Q hQ => ?_) hQ
      · unfold F_X11_build
        exact x_isCell s.2.1 (fun q => absurd d1 q) (fun _ => ⟨fun q => absurd q (by decide), fun _ => x_outside (fun q => absurd d2 q) (fun _ => ⟨fun _ => ⟨fun q => absurd q (by omega), fun _ => x_refused UX.rf s.2.1 hQ⟩, fun q => absurd rfl q⟩)⟩)
      · have em : h1 162 1 = g 0 1 := rx.1.1 1 (by omega) (by omega)
        unfold F_X12_build
        exact m_isCell rx (fun q => absurd d1 q) (fun _ => ⟨fun q => absurd q (by decide), fun _ => m_isFrom (fun q => absurd d2 q) (fun _ => ⟨fun _ => ⟨fun q => absurd (by omega) q, fun _ => m_refuse UM.rf w.nm rx rn hQ⟩, fun q => absurd q (by decide)⟩)⟩)
  · refine Kp.mk (FX := F_X11_build h a b) (FM := fun h1 => F_X12_build h1 a b) (g' := g) (st := 1) (r := -1) s w (fun Q hQ => ?_) (fun h1 rx rn Q hQ => ?_) hQ
    · have no : F_X11_refused h 1 Q := x_refused UX.rf s.2.1 hQ
      exact x_isCell s.2.1 (fun q => ⟨fun _ => no, fun q => absurd rfl q⟩) (fun d1 => ⟨fun q => absurd q (by decide), fun _ => x_outside (fun q => ⟨fun q => absurd q (by decide), fun _ => no⟩) (fun d2 => absurd ⟨d1, d2⟩ d)⟩)
    · have no : F_X12_refuse h1 1 Q := m_refuse UM.rf w.nm rx rn hQ
      exact m_isCell rx (fun q => ⟨fun _ => no, fun q => absurd rfl q⟩) (fun d1 => ⟨fun q => absurd q (by decide), fun _ => m_isFrom (fun q => ⟨fun q => absurd rfl q, fun _ => no⟩) (fun d2 => absurd ⟨d1, d2⟩ d)⟩)
