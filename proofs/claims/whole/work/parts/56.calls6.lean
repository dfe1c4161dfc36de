/-! mill, rule, told -/
theorem k_mill {h : Mem} {g : Gs} {a b : Int} (s : G2 h g) {Q : Int → Int → Mem → Prop} (hQ : ∀ r u1 u g', G2 u g' → Mo g g' → UX h u1 → UM u1 u → Q r r u) : F_X11_mill h a b (fun r1 h1 => F_X12_mill h1 a b (fun r2 h2 => Q r1 r2 h2)) := by
  have w := s.1
  obtain ⟨n4, nc⟩ := gm4 w
  by_cases c : (0 ≤ a ∧ a < g 0 1) ∧ 0 ≤ b ∧ b ≤ 2
  · obtain ⟨t, rfl⟩ : ∃ k : Nat, a = k := ⟨a.toNat, by omega⟩
    obtain ⟨k, rfl⟩ : ∃ k : Nat, b = k := ⟨b.toNat, by omega⟩
    have ht : t < gm g := by omega
    obtain ⟨_, f1, f2, f3⟩ := s.2.1.1.2.2.2 t ht
    refine Kp.mk (FX := F_X11_mill h t k) (FM := fun h1 => F_X12_mill h1 t k) (g' := g) (st := 0) (r := g (8 + k) t) s w (fun Q hQ => ?_) (fun h1 rx rn Q hQ => ?_) hQ
    · unfold F_X11_mill
      refine x_isMill s.2.1 (fun q => absurd c.1 q) (fun _ => ⟨fun _ => ⟨fun d => ⟨⟨by omega, by omega⟩, ?_⟩, fun d => ⟨⟨by omega, by omega⟩, ?_⟩, fun d => ⟨⟨by omega, by omega⟩, ?_⟩, fun d => absurd d (by omega)⟩, fun q => absurd q (by decide)⟩)
      · have : k = 0 := by omega
        subst this
        rw [Int.toNat_natCast, show h 24 t = g 8 t from f1]
        exact x_given UX.rf s.2.1 hQ
      · have : k = 1 := by omega
        subst this
        rw [Int.toNat_natCast, show h 25 t = g 9 t from f2]
        exact x_given UX.rf s.2.1 hQ
      · have : k = 2 := by omega
        subst this
        rw [Int.toNat_natCast, show h 26 t = g 10 t from f3]
        exact x_given UX.rf s.2.1 hQ
    · unfold F_X12_mill
      refine m_isMill rx (fun q => absurd c.1 q) (fun _ => ⟨fun q => absurd q (by decide), fun _ => ⟨fun q => absurd q (by omega), fun _ => ⟨fun _ => q_millOf (k := k) rfl rfl (by omega) (by omega) ?_, fun q => absurd c.2.2 q⟩⟩⟩)
      rw [rx.1.2.2 t k ht (by omega)]
      exact m_gives UM.rf w.nm rx rn hQ
  · refine Kp.mk (FX := F_X11_mill h a b) (FM := fun h1 => F_X12_mill h1 a b) (g' := g) (st := 1) (r := -1) s w (fun Q hQ => ?_) (fun h1 rx rn Q hQ => ?_) hQ
    · exact x_isMill s.2.1 (fun _ => ⟨fun q => absurd rfl q, fun _ => x_refused UX.rf s.2.1 hQ⟩) (fun q => ⟨fun _ => ⟨fun d => absurd ⟨q, by omega, by omega⟩ c, fun d => absurd ⟨q, by omega, by omega⟩ c, fun d => absurd ⟨q, by omega, by omega⟩ c, fun _ => x_refused UX.rf s.2.1 hQ⟩, fun q => absurd q (by decide)⟩)
    · exact m_isMill rx (fun _ => ⟨fun _ => m_refuse UM.rf w.nm rx rn hQ, fun q => absurd rfl q⟩) (fun q => ⟨fun q => absurd q (by decide), fun _ => ⟨fun _ => m_refuse UM.rf w.nm rx rn hQ, fun d => ⟨fun d2 => absurd ⟨q, by omega, d2⟩ c, fun _ => m_refuse UM.rf w.nm rx rn hQ⟩⟩⟩)
theorem RC.rule {h : Mem} {g : Gs} {i : Nat} {v : Int} (r : RC h 12 g) (hi : i = 3 ∨ i = 4) : RC (mset h 12 (i - 2) v) 12 (sset g i v) := by
  obtain ⟨⟨⟨a1, a2, a3, a4, a5, a6⟩, rt, rm⟩, r5⟩ := r
  have f : Fr 12 13 h (mset h 12 (i - 2) v) := Fr.rf.st (by omega) (by omega)
  refine ⟨⟨⟨?_, ?_, ?_, ?_, ?_, ?_⟩, ?_, ?_⟩, ?_⟩
  · rw [mset_k (by omega), sset_n (by omega)]; exact a1
  · rcases hi with rfl | rfl
    · exact mset_at.trans sset_e.symm
    · rw [mset_k (by omega), sset_n (by omega)]; exact a2
  · rcases hi with rfl | rfl
    · rw [mset_k (by omega), sset_n (by omega)]; exact a3
    · exact mset_at.trans sset_e.symm
  · rw [mset_k (by omega), sset_n (by omega)]; exact a4
  · rw [mset_k (by omega), sset_n (by omega)]; exact a5
  · rw [mset_k (by omega), sset_n (by omega)]; exact a6
  · exact (rt.fr f (by omega)).cg (sset_n (by omega)) (fun _ _ _ _ => sset_n (by omega))
  · exact (rm.fr f (by omega)).cg (sset_n (by omega)) (fun _ _ _ _ => sset_n (by omega))
  · rw [mset_k (by omega), sset_n (by omega)]; exact r5
theorem RXh.rule {h : Mem} {g : Gs} {i : Nat} {v : Int} (r : RXh h g) (hi : i = 3 ∨ i = 4) : RXh (mset h 162 i v) (sset g i v) := by
  have e : (fun t => sset g i v 4 t = 1) = (fun t => g 4 t = 1) := by funext t; rw [sset_n (Or.inl (by omega))]
  refine ⟨?_, ?_⟩
  · unfold RX
    rw [e]
    exact RXp.sets r.1 (by omega)
  · rw [mset_k (by omega), sset_n (by omega)]; exact r.2
theorem WF.rule {B : Int} {g : Gs} {i : Nat} {v : Int} (w : WF B g) (hi : (i = 3 ∧ 1 ≤ v ∧ v ≤ 40) ∨ (i = 4 ∧ 0 ≤ v ∧ v ≤ 16)) : WF B (sset g i v) := by
  have e : ∀ j, j ≠ i → sset g i v 0 j = g 0 j := fun j hj => sset_n (Or.inr hj)
  have e2 : ∀ f t, f ≠ 0 → sset g i v f t = g f t := fun j t hj => sset_n (Or.inl hj)
  have ei : sset g i v 0 i = v := sset_e
  refine ⟨?_, fun t ht => ?_, fun m hm => ?_⟩
  · have := w.1
    unfold WFs at this ⊢
    rcases hi with ⟨rfl, q⟩ | ⟨rfl, q⟩
    · rw [ei, e 0 (by omega), e 1 (by omega), e 2 (by omega), e 4 (by omega), e 5 (by omega), e 6 (by omega), e 7 (by omega), e 8 (by omega)]
      omega
    · rw [ei, e 0 (by omega), e 1 (by omega), e 2 (by omega), e 3 (by omega), e 5 (by omega), e 6 (by omega), e 7 (by omega), e 8 (by omega)]
      omega
  · rw [gn_sset (by omega)] at ht
    have := w.2.1 t ht
    unfold WFt at this ⊢
    rw [e 2 (by omega), e 5 (by omega), e2 1 t (by omega), e2 2 t (by omega), e2 3 t (by omega), e2 4 t (by omega), e2 5 t (by omega), e2 6 t (by omega), e2 7 t (by omega)]
    exact this
  · rw [gm_sset (by omega)] at hm
    have := w.2.2 m hm
    unfold WFm at this ⊢
    rw [e 2 (by omega), e 5 (by omega), e2 8 m (by omega), e2 9 m (by omega), e2 10 m (by omega)]
    exact this
theorem k_rule {h : Mem} {g : Gs} {a b : Int} (s : G2 h g) {Q : Int → Int → Mem → Prop} (hQ : ∀ r u1 u g', G2 u g' → Mo g g' → UX h u1 → UM u1 u → Q r r u) : F_X11_rule h a b (fun r1 h1 => F_X12_rule h1 a b (fun r2 h2 => Q r1 r2 h2)) := by
  have w := s.1
  have xs : ∀ {h : Mem} {g : Gs} {i : Nat} {v : Int} {Q : Int → Mem → Prop}, RC h 12 g → (i = 3 ∨ i = 4) → (∀ u, RC u 12 (sset g i v) → u 0 0 = 0 → UX h u → Q 1 u) → ∀ h3 : Mem, h3 = mset h 12 (i - 2) v → F_X11_accept h3 (fun r u => InZ r ∧ Q r u) := fun {h g i v Q} r hi hQ h3 e3 => by
    subst e3
    exact x_yes (UX.fr (Fr.rf.st (lo := 12) (hi := 27) (by omega) (by omega)) (by omega)) (r.rule hi) hQ
  have ms : ∀ {h : Mem} {g : Gs} {i : Nat} {v : Int} {Q : Int → Mem → Prop}, RXh h g → RN h g → gn g ≤ 8 ∧ gm g ≤ 4 → (i = 3 ∨ i = 4) → (∀ u, RXh u (sset g i v) → RN u (sset g i v) → u 161 2 = 0 → UM h u → Q 1 u) → ∀ h3 : Mem, h3 = mset h 162 i v → F_X12_is h3 0 (fun r u => InZ r ∧ Q r u) := fun {h g i v Q} r rn nm hi hQ h3 e3 => by
    subst e3
    exact m_yes (UM.fm (FMh.rf.st (by omega))) (by rw [gn_sset (by omega), gm_sset (by omega)]; exact nm) (r.rule hi) ((rn.fr (fun k => mset_i k (by omega))).cg (gn_sset (by omega)) (gm_sset (by omega)) (fun t => sset_n (by omega)) (fun t => sset_n (by omega))) hQ
  by_cases c3 : a = 3 ∧ 1 ≤ b ∧ b ≤ 40
  · obtain ⟨rfl, c⟩ := c3
    have mo : Mo g (sset g 3 b) := Mo.eq (fun i _ => sset_n (by omega))
    refine Kp.mk (FX := F_X11_rule h 3 b) (FM := fun h1 => F_X12_rule h1 3 b) (g' := sset g 3 b) (st := 0) (r := 1) s (w.rule (Or.inl ⟨rfl, c⟩)) (fun Q hQ => ?_) (fun h1 rx rn Q hQ => ?_) hQ
    · unfold F_X11_rule
      exact ⟨fun q => absurd rfl q, fun _ => x_outside (fun q => absurd c q) (fun _ => ⟨fun q => absurd rfl q, fun _ => xs (i := 3) s.2.1 (Or.inl rfl) hQ⟩)⟩
    · unfold F_X12_rule
      exact ⟨fun q => absurd q (by decide), fun _ => ⟨fun q => absurd q (by decide), fun _ => ⟨fun q => absurd rfl q, fun _ => ⟨fun q => absurd rfl q, fun _ => m_isFrom (fun q => absurd c q) (fun _ => ⟨fun _ => ⟨⟨by decide, by decide⟩, ms (i := 3) rx rn w.nm (Or.inl rfl) hQ⟩, fun q => absurd q (by decide)⟩)⟩⟩⟩⟩
  by_cases c4 : a = 4 ∧ 0 ≤ b ∧ b ≤ 16
  · obtain ⟨rfl, c⟩ := c4
    have mo : Mo g (sset g 4 b) := Mo.eq (fun i _ => sset_n (by omega))
    refine Kp.mk (FX := F_X11_rule h 4 b) (FM := fun h1 => F_X12_rule h1 4 b) (g' := sset g 4 b) (st := 0) (r := 1) s (w.rule (Or.inr ⟨rfl, c⟩)) (fun Q hQ => ?_) (fun h1 rx rn Q hQ => ?_) hQ
    · unfold F_X11_rule J_X11_rule_28
      exact ⟨fun _ => ⟨fun q => absurd rfl q, fun _ => x_outside (fun q => absurd c q) (fun _ => ⟨fun q => absurd rfl q, fun _ => xs (i := 4) s.2.1 (Or.inr rfl) hQ⟩)⟩, fun q => absurd q (by decide)⟩
    · unfold F_X12_rule
      exact ⟨fun q => absurd q (by decide), fun _ => ⟨fun q => absurd q (by decide), fun _ => ⟨fun _ => ⟨fun _ => m_isFrom (fun q => absurd c q) (fun _ => ⟨fun _ => ⟨⟨by decide, by decide⟩, ms (i := 4) rx rn w.nm (Or.inr rfl) hQ⟩, fun q => absurd q (by decide)⟩), fun q => absurd q (by decide)⟩, fun q => absurd q (by decide)⟩⟩⟩
  · refine Kp.mk (FX := F_X11_rule h a b) (FM := fun h1 => F_X12_rule h1 a b) (g' := g) (st := 1) (r := 0) s w (fun Q hQ => ?_) (fun h1 rx rn Q hQ => ?_) hQ
    · have j : J_X11_rule_28 h a b Q := ⟨fun _ => x_no UX.rf s.2.1 hQ, fun d => x_outside (fun q => ⟨fun _ => x_no UX.rf s.2.1 hQ, fun q => absurd q (by decide)⟩) (fun q => absurd ⟨d, q⟩ c4)⟩
      exact ⟨fun _ => j, fun d => x_outside (fun q => ⟨fun _ => j, fun q => absurd q (by decide)⟩) (fun q => absurd ⟨d, q⟩ c3)⟩
    · have no : F_X12_is h1 1 (fun r u => InZ r ∧ Q r u) := m_no (by decide) UM.rf w.nm rx rn hQ
      exact ⟨fun _ => no, fun d1 => ⟨fun _ => no, fun d2 => ⟨fun d3 => ⟨fun _ => m_isFrom (fun q => ⟨fun q => absurd rfl q, fun _ => no⟩) (fun q => absurd ⟨by omega, q⟩ c4), fun q => absurd q d3⟩, fun d3 => ⟨fun q => absurd d3 q, fun _ => m_isFrom (fun q => ⟨fun q => absurd rfl q, fun _ => no⟩) (fun q => absurd ⟨d3, q⟩ c3)⟩⟩⟩⟩
