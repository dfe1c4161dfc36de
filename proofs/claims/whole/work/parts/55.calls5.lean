/-! more calls that set or tell one thing -/
theorem k_fetch {h : Mem} {g : Gs} {a : Int} (s : G2 h g) {Q : Int → Int → Mem → Prop} (hQ : ∀ r u1 u g', G2 u g' → Mo g g' → UX h u1 → UM u1 u → Q r r u) : F_X11_fetch h a (fun r1 h1 => F_X12_fetch h1 a (fun r2 h2 => Q r1 r2 h2)) := by
  have w := s.1
  have rT := s.2.1.1.2.1
  obtain ⟨n8, nc⟩ := gn8 w
  by_cases c : 0 ≤ a ∧ a < g 0 0
  · obtain ⟨t, rfl⟩ : ∃ k : Nat, a = k := ⟨a.toNat, by omega⟩
    have ht : t < gn g := by omega
    by_cases d : g 4 t = 1
    · have w' : WF 9999 (tset g t 0 0 0) := w.th (Or.inl rfl) (by have := w.1; unfold WFs at this; omega) (fun _ => rfl)
      have mo : Mo g (tset g t 0 0 0) := Mo.eq (fun i _ => tset_n (by omega))
      refine Kp.mk (FX := F_X11_fetch h t) (FM := fun h1 => F_X12_fetch h1 t) (g' := tset g t 0 0 0) (st := 0) (r := g 5 t) s w' (fun Q hQ => ?_) (fun h1 rx rn Q hQ => ?_) hQ
      · unfold F_X11_fetch
        refine x_isThing s.2.1 (fun q => absurd c q) (fun _ => ⟨fun _ => s_isLying (o := 13) rT rfl ht n8 (fun _ => ⟨fun _ => ⟨⟨by omega, by omega⟩, fun x7 e7 => s_place (o := 13) rfl (by omega) rT (fun u ru fu => ?_)⟩, fun q => absurd q (by decide)⟩) (fun q => absurd d q), fun q => absurd q (by decide)⟩)
        have e5 : h 19 t = g 5 t := rT.at ht (k := 5) (by omega)
        have : x7 = g 5 t := by rw [e7, Int.toNat_natCast]; exact e5
        rw [this]
        exact x_given (UX.fr fu (by omega)) (s.2.1.ts ru fu) hQ
      · have e : h1 162 (12 + 7 * t + 3) = g 4 t := rx.1.2.1 t 3 ht (by omega) (fun q => absurd q (by omega))
        have e5 : h1 162 (12 + 7 * t + 4) = g 5 t := rx.1.2.1 t 4 ht (by omega) (fun _ => d)
        unfold F_X12_fetch F_X12_fetches
        refine m_isThing rx (fun q => absurd c q) (fun _ => ⟨fun _ => q_thingOf (k := 3) rfl rfl (by omega) (by omega) ?_, fun q => absurd q (by decide)⟩)
        rw [e]
        refine ⟨fun _ => q_thingRow rfl (by omega) ⟨⟨by omega, by omega⟩, ⟨by omega, by omega⟩, fun h2 e2 => q_thingRow rfl (by omega) ⟨⟨by omega, by omega⟩, ⟨by omega, by omega⟩, fun h3 e3 => ⟨fun q => absurd q (by decide), fun _ => q_thingOf (k := 4) rfl rfl (by omega) (by omega) ?_⟩⟩⟩, fun q => absurd d q⟩
        have z3 : (12 + 7 * (t : Int) + 3).toNat = 12 + 7 * t + 3 := by omega
        have z5 : (12 + 7 * (t : Int) + 5).toNat = 12 + 7 * t + 5 := by omega
        rw [z3] at e2
        rw [z5] at e3
        have fm : FMh h1 h3 := by rw [e3, e2]; exact (FMh.rf.st (by omega)).st (by omega)
        have ev : h3 162 (12 + 7 * t + 4) = g 5 t := by rw [e3, mset_k (by omega), e2, mset_k (by omega)]; exact e5
        rw [ev]
        refine m_gives (UM.fm fm) w'.nm ⟨RXp.ts ht n8 rx.1 (fun q => absurd q (by decide)) ?_ ?_ (fun k k3 k4 k5 _ => ?_) w.nm.2, ?_⟩ ((rn.fr (fun k => fm 163 k (by omega))).cg gn_tset gm_tset (fun t => tset_n (Or.inl (by omega))) (fun t => tset_n (Or.inl (by omega)))) hQ
        · rw [e3, mset_k (by omega), e2, mset_at]
        · rw [e3, mset_at]
        · rw [e3, mset_k k5, e2, mset_k k3]
        · rw [e3, mset_k (by omega), e2, mset_k (by omega), tset_n (Or.inl (by omega))]
          exact rx.2
    · refine Kp.mk (FX := F_X11_fetch h t) (FM := fun h1 => F_X12_fetch h1 t) (g' := g) (st := 7) (r := -1) s w (fun Q hQ => ?_) (fun h1 rx rn Q hQ => ?_) hQ
      · unfold F_X11_fetch
        exact x_isThing s.2.1 (fun q => absurd c q) (fun _ => ⟨fun _ => s_isLying (o := 13) rT rfl ht n8 (fun q => absurd q d) (fun _ => ⟨fun q => absurd rfl q, fun _ => x_refused UX.rf s.2.1 hQ⟩), fun q => absurd q (by decide)⟩)
      · have e : h1 162 (12 + 7 * t + 3) = g 4 t := rx.1.2.1 t 3 ht (by omega) (fun q => absurd q (by omega))
        unfold F_X12_fetch F_X12_fetches
        refine m_isThing rx (fun q => absurd c q) (fun _ => ⟨fun _ => q_thingOf (k := 3) rfl rfl (by omega) (by omega) ?_, fun q => absurd q (by decide)⟩)
        rw [e]
        exact ⟨fun q => absurd q d, fun _ => ⟨fun _ => m_refuse UM.rf w.nm rx rn hQ, fun q => absurd rfl q⟩⟩
  · refine Kp.mk (FX := F_X11_fetch h a) (FM := fun h1 => F_X12_fetch h1 a) (g' := g) (st := 1) (r := -1) s w (fun Q hQ => ?_) (fun h1 rx rn Q hQ => ?_) hQ
    · exact x_isThing s.2.1 (fun _ => ⟨fun q => absurd rfl q, fun _ => x_refused UX.rf s.2.1 hQ⟩) (fun q => absurd q c)
    · exact m_isThing rx (fun _ => ⟨fun q => absurd rfl q, fun _ => m_refuse UM.rf w.nm rx rn hQ⟩) (fun q => absurd q c)
theorem RXh.gs {h : Mem} {g : Gs} {t k : Nat} {v : Int} (r : RXh h g) (ht : t < 8) (hk : k = 1 ∨ k = 2) : RXh (mset h 162 (12 + 7 * t + k) v) (gset g (k + 1) t v) := by
  refine ⟨RXp.set (V := fun i => g 4 i = 1) r.1 ht (by omega) (fun i q => Or.inl ?_), ?_⟩
  · have q2 : gset g (k + 1) t v 4 i = 1 := q
    rw [gset_n (by omega)] at q2
    exact q2
  · rw [mset_k (by omega), gset_n (by omega)]; exact r.2
theorem gm_gset {g : Gs} {k t : Nat} {v : Int} (h : 1 ≤ k) : gm (gset g k t v) = gm g := by unfold gm; rw [gset_n (by omega)]
theorem WF.gs {B : Int} {g : Gs} {t k : Nat} {v : Int} (w : WF B g) (hk : k = 2 ∨ k = 3) (hv : 1 ≤ v ∧ v ≤ 24) : WF B (gset g k t v) := by
  have e : ∀ f i, f ≠ k → gset g k t v f i = g f i := fun f i hf => gset_n (Or.inl hf)
  refine ⟨?_, fun i hi => ?_, fun m hm => ?_⟩
  · have := w.1
    unfold WFs at this ⊢
    rw [e 0 0 (by omega), e 0 1 (by omega), e 0 2 (by omega), e 0 3 (by omega), e 0 4 (by omega), e 0 5 (by omega), e 0 6 (by omega), e 0 7 (by omega), e 0 8 (by omega)]
    exact this
  · rw [gn_gset (by omega)] at hi
    have := w.2.1 i hi
    have h2 : gset g k t v 2 i = g 2 i ∨ gset g k t v 2 i = v := by unfold gset; split <;> simp
    have h3 : gset g k t v 3 i = g 3 i ∨ gset g k t v 3 i = v := by unfold gset; split <;> simp
    unfold WFt at this ⊢
    rw [e 0 2 (by omega), e 0 5 (by omega), e 1 i (by omega), e 4 i (by omega), e 5 i (by omega), e 6 i (by omega), e 7 i (by omega)]
    omega
  · rw [gm_gset (by omega)] at hm
    have := w.2.2 m hm
    unfold WFm at this ⊢
    rw [e 0 2 (by omega), e 0 5 (by omega), e 8 m (by omega), e 9 m (by omega), e 10 m (by omega)]
    exact this
theorem RC.gs {h : Mem} {g : Gs} {t k : Nat} {v : Int} (r : RC h 12 g) (hk : k = 2 ∨ k = 3) : RC (mset h (13 + k + 1) t v) 12 (gset g k t v) :=
  r.th (r.1.2.1.set (by omega)) (Fr.rf.st (by omega) (by omega)) (fun i => gset_n (by omega)) (fun f m _ _ => gset_n (by omega))
theorem k_grip {h : Mem} {g : Gs} {a b : Int} (s : G2 h g) {Q : Int → Int → Mem → Prop} (hQ : ∀ r u1 u g', G2 u g' → Mo g g' → UX h u1 → UM u1 u → Q r r u) : F_X11_grip h a b (fun r1 h1 => F_X12_grip h1 a b (fun r2 h2 => Q r1 r2 h2)) := by
  have w := s.1
  obtain ⟨n8, nc⟩ := gn8 w
  by_cases c : (0 ≤ a ∧ a < g 0 0) ∧ 1 ≤ b ∧ b ≤ 24
  · obtain ⟨t, rfl⟩ : ∃ k : Nat, a = k := ⟨a.toNat, by omega⟩
    have ht : t < gn g := by omega
    have w' : WF 9999 (gset g 2 t b) := w.gs (Or.inl rfl) c.2
    have mo : Mo g (gset g 2 t b) := Mo.eq (fun i _ => gset_n (by omega))
    refine Kp.mk (FX := F_X11_grip h t b) (FM := fun h1 => F_X12_grip h1 t b) (g' := gset g 2 t b) (st := 0) (r := 1) s w' (fun Q hQ => ?_) (fun h1 rx rn Q hQ => ?_) hQ
    · unfold F_X11_grip
      refine x_isThing s.2.1 (fun q => absurd c.1 q) (fun _ => ⟨fun q => absurd q (by decide), fun _ => x_outside (fun q => absurd c.2 q) (fun _ => ⟨fun _ => ⟨⟨by omega, by omega⟩, fun h2 e2 => ?_⟩, fun q => absurd rfl q⟩)⟩)
      rw [Int.toNat_natCast] at e2
      subst e2
      exact x_yes (UX.fr (Fr.rf.st (lo := 12) (hi := 27) (by omega) (by omega)) (by omega)) (s.2.1.gs (k := 2) (Or.inl rfl)) hQ
    · unfold F_X12_grip
      refine m_isThing rx (fun q => absurd c.1 q) (fun _ => ⟨fun q => absurd q (by decide), fun _ => m_isFrom (fun q => absurd c.2 q) (fun _ => ⟨fun _ => q_thingRow rfl (by omega) ⟨⟨by omega, by omega⟩, ⟨by omega, by omega⟩, fun h2 e2 => ?_⟩, fun q => absurd q (by decide)⟩)⟩)
      have z : (12 + 7 * (t : Int) + 1).toNat = 12 + 7 * t + 1 := by omega
      rw [z] at e2
      subst e2
      exact m_yes (UM.fm (FMh.rf.st (by omega))) w'.nm (rx.gs (by omega) (Or.inl rfl)) ((rn.fr (fun k => mset_i k (by omega))).cg (gn_gset (by omega)) (gm_gset (by omega)) (fun t => gset_n (by omega)) (fun t => gset_n (by omega))) hQ
  · refine Kp.mk (FX := F_X11_grip h a b) (FM := fun h1 => F_X12_grip h1 a b) (g' := g) (st := 1) (r := 0) s w (fun Q hQ => ?_) (fun h1 rx rn Q hQ => ?_) hQ
    · exact x_isThing s.2.1 (fun _ => ⟨fun _ => x_no UX.rf s.2.1 hQ, fun q => absurd rfl q⟩) (fun q => ⟨fun q => absurd q (by decide), fun _ => x_outside (fun _ => ⟨fun q => absurd q (by decide), fun _ => x_no UX.rf s.2.1 hQ⟩) (fun q2 => absurd ⟨q, q2⟩ c)⟩)
    · exact m_isThing rx (fun _ => ⟨fun _ => m_no (by decide) UM.rf w.nm rx rn hQ, fun q => absurd rfl q⟩) (fun q => ⟨fun q => absurd q (by decide), fun _ => m_isFrom (fun _ => ⟨fun q => absurd rfl q, fun _ => m_no (by decide) UM.rf w.nm rx rn hQ⟩) (fun q2 => absurd ⟨q, q2⟩ c)⟩)
theorem k_mind {h : Mem} {g : Gs} {a b : Int} (s : G2 h g) {Q : Int → Int → Mem → Prop} (hQ : ∀ r u1 u g', G2 u g' → Mo g g' → UX h u1 → UM u1 u → Q r r u) : F_X11_mind h a b (fun r1 h1 => F_X12_mind h1 a b (fun r2 h2 => Q r1 r2 h2)) := by
  have w := s.1
  obtain ⟨n8, nc⟩ := gn8 w
  by_cases c : (0 ≤ a ∧ a < g 0 0) ∧ 1 ≤ b ∧ b ≤ 24
  · obtain ⟨t, rfl⟩ : ∃ k : Nat, a = k := ⟨a.toNat, by omega⟩
    have ht : t < gn g := by omega
    have w' : WF 9999 (gset g 3 t b) := w.gs (Or.inr rfl) c.2
    have mo : Mo g (gset g 3 t b) := Mo.eq (fun i _ => gset_n (by omega))
    refine Kp.mk (FX := F_X11_mind h t b) (FM := fun h1 => F_X12_mind h1 t b) (g' := gset g 3 t b) (st := 0) (r := 1) s w' (fun Q hQ => ?_) (fun h1 rx rn Q hQ => ?_) hQ
    · unfold F_X11_mind
      refine x_isThing s.2.1 (fun q => absurd c.1 q) (fun _ => ⟨fun q => absurd q (by decide), fun _ => x_outside (fun q => absurd c.2 q) (fun _ => ⟨fun _ => ⟨⟨by omega, by omega⟩, fun h2 e2 => ?_⟩, fun q => absurd rfl q⟩)⟩)
      rw [Int.toNat_natCast] at e2
      subst e2
      exact x_yes (UX.fr (Fr.rf.st (lo := 12) (hi := 27) (by omega) (by omega)) (by omega)) (s.2.1.gs (k := 3) (Or.inr rfl)) hQ
    · unfold F_X12_mind
      refine m_isThing rx (fun q => absurd c.1 q) (fun _ => ⟨fun q => absurd q (by decide), fun _ => m_isFrom (fun q => absurd c.2 q) (fun _ => ⟨fun _ => q_thingRow rfl (by omega) ⟨⟨by omega, by omega⟩, ⟨by omega, by omega⟩, fun h2 e2 => ?_⟩, fun q => absurd q (by decide)⟩)⟩)
      have z : (12 + 7 * (t : Int) + 2).toNat = 12 + 7 * t + 2 := by omega
      rw [z] at e2
      subst e2
      exact m_yes (UM.fm (FMh.rf.st (by omega))) w'.nm (rx.gs (by omega) (Or.inr rfl)) ((rn.fr (fun k => mset_i k (by omega))).cg (gn_gset (by omega)) (gm_gset (by omega)) (fun t => gset_n (by omega)) (fun t => gset_n (by omega))) hQ
  · refine Kp.mk (FX := F_X11_mind h a b) (FM := fun h1 => F_X12_mind h1 a b) (g' := g) (st := 1) (r := 0) s w (fun Q hQ => ?_) (fun h1 rx rn Q hQ => ?_) hQ
    · exact x_isThing s.2.1 (fun _ => ⟨fun _ => x_no UX.rf s.2.1 hQ, fun q => absurd rfl q⟩) (fun q => ⟨fun q => absurd q (by decide), fun _ => x_outside (fun _ => ⟨fun q => absurd q (by decide), fun _ => x_no UX.rf s.2.1 hQ⟩) (fun q2 => absurd ⟨q, q2⟩ c)⟩)
    · exact m_isThing rx (fun _ => ⟨fun _ => m_no (by decide) UM.rf w.nm rx rn hQ, fun q => absurd rfl q⟩) (fun q => ⟨fun q => absurd q (by decide), fun _ => m_isFrom (fun _ => ⟨fun q => absurd rfl q, fun _ => m_no (by decide) UM.rf w.nm rx rn hQ⟩) (fun q2 => absurd ⟨q, q2⟩ c)⟩)
theorem k_cellOf {h : Mem} {g : Gs} {a : Int} (s : G2 h g) {Q : Int → Int → Mem → Prop} (hQ : ∀ r u1 u g', G2 u g' → Mo g g' → UX h u1 → UM u1 u → Q r r u) : F_X11_cellOf h a (fun r1 h1 => F_X12_cellOf h1 a (fun r2 h2 => Q r1 r2 h2)) := by
  have w := s.1
  have rT := s.2.1.1.2.1
  obtain ⟨n8, nc⟩ := gn8 w
  by_cases c : 0 ≤ a ∧ a < g 0 0
  · obtain ⟨t, rfl⟩ : ∃ k : Nat, a = k := ⟨a.toNat, by omega⟩
    have ht : t < gn g := by omega
    have e5 : h 19 t = g 5 t := rT.at ht (k := 5) (by omega)
    have wt := w.2.1 t ht
    unfold WFt at wt
    by_cases d : g 4 t = 0 ∨ g 4 t = 3
    · refine Kp.mk (FX := F_X11_cellOf h t) (FM := fun h1 => F_X12_cellOf h1 t) (g' := g) (st := 6) (r := -1) s w (fun Q hQ => ?_) (fun h1 rx rn Q hQ => ?_) hQ
      · unfold F_X11_cellOf
        exact x_isThing s.2.1 (fun q => absurd c q) (fun _ => ⟨fun _ => s_isFree (o := 13) rT rfl ht n8 (fun _ => ⟨fun q => absurd q (by decide), fun _ => x_refused UX.rf s.2.1 hQ⟩) (fun q => absurd d q), fun q => absurd q (by decide)⟩)
      · have e : h1 162 (12 + 7 * t + 3) = g 4 t := rx.1.2.1 t 3 ht (by omega) (fun q => absurd q (by omega))
        unfold F_X12_cellOf
        refine m_isThing rx (fun q => absurd c q) (fun _ => ⟨fun _ => q_thingOf (k := 3) rfl rfl (by omega) (by omega) ?_, fun q => absurd q (by decide)⟩)
        rw [e]
        exact ⟨fun _ => ⟨fun _ => m_refuse UM.rf w.nm rx rn hQ, fun q => absurd q (by omega)⟩, fun q => absurd q (by omega)⟩
    · by_cases d1 : g 4 t = 1
      · refine Kp.mk (FX := F_X11_cellOf h t) (FM := fun h1 => F_X12_cellOf h1 t) (g' := g) (st := 0) (r := g 5 t) s w (fun Q hQ => ?_) (fun h1 rx rn Q hQ => ?_) hQ
        · unfold F_X11_cellOf
          refine x_isThing s.2.1 (fun q => absurd c q) (fun _ => ⟨fun _ => s_isFree (o := 13) rT rfl ht n8 (fun q => absurd q d) (fun _ => ⟨fun _ => s_isLying (o := 13) rT rfl ht n8 (fun _ => ⟨fun q => absurd q (by decide), fun _ => ⟨⟨by omega, by omega⟩, ?_⟩⟩) (fun q => absurd d1 q), fun q => absurd rfl q⟩), fun q => absurd q (by decide)⟩)
          rw [Int.toNat_natCast, e5]
          exact x_given UX.rf s.2.1 hQ
        · have e : h1 162 (12 + 7 * t + 3) = g 4 t := rx.1.2.1 t 3 ht (by omega) (fun q => absurd q (by omega))
          have e4 : h1 162 (12 + 7 * t + 4) = g 5 t := rx.1.2.1 t 4 ht (by omega) (fun _ => d1)
          unfold F_X12_cellOf
          refine m_isThing rx (fun q => absurd c q) (fun _ => ⟨fun _ => q_thingOf (k := 3) rfl rfl (by omega) (by omega) ?_, fun q => absurd q (by decide)⟩)
          rw [e]
          refine ⟨fun _ => ⟨fun q => absurd d1 q, fun _ => q_thingOf (k := 4) rfl rfl (by omega) (by omega) ?_⟩, fun q => absurd q (by omega)⟩
          rw [e4]
          exact m_gives UM.rf w.nm rx rn hQ
      · refine Kp.mk (FX := F_X11_cellOf h t) (FM := fun h1 => F_X12_cellOf h1 t) (g' := g) (st := 0) (r := g 0 6) s w (fun Q hQ => ?_) (fun h1 rx rn Q hQ => ?_) hQ
        · have e6 : h 12 3 = g 0 6 := s.2.1.1.1.2.2.2.1
          unfold F_X11_cellOf
          refine x_isThing s.2.1 (fun q => absurd c q) (fun _ => ⟨fun _ => s_isFree (o := 13) rT rfl ht n8 (fun q => absurd q d) (fun _ => ⟨fun _ => s_isLying (o := 13) rT rfl ht n8 (fun q => absurd q d1) (fun _ => ⟨fun _ => ?_, fun q => absurd rfl q⟩), fun q => absurd rfl q⟩), fun q => absurd q (by decide)⟩)
          rw [e6]
          exact x_given UX.rf s.2.1 hQ
        · have e : h1 162 (12 + 7 * t + 3) = g 4 t := rx.1.2.1 t 3 ht (by omega) (fun q => absurd q (by omega))
          have e6 : h1 162 6 = g 0 6 := rx.1.1 6 (by omega) (by omega)
          unfold F_X12_cellOf
          refine m_isThing rx (fun q => absurd c q) (fun _ => ⟨fun _ => q_thingOf (k := 3) rfl rfl (by omega) (by omega) ?_, fun q => absurd q (by decide)⟩)
          rw [e, e6]
          exact ⟨fun q => absurd (by omega) q, fun _ => m_gives UM.rf w.nm rx rn hQ⟩
  · refine Kp.mk (FX := F_X11_cellOf h a) (FM := fun h1 => F_X12_cellOf h1 a) (g' := g) (st := 1) (r := -1) s w (fun Q hQ => ?_) (fun h1 rx rn Q hQ => ?_) hQ
    · exact x_isThing s.2.1 (fun _ => ⟨fun q => absurd rfl q, fun _ => x_refused UX.rf s.2.1 hQ⟩) (fun q => absurd q c)
    · exact m_isThing rx (fun _ => ⟨fun q => absurd rfl q, fun _ => m_refuse UM.rf w.nm rx rn hQ⟩) (fun q => absurd q c)
