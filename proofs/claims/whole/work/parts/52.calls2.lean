/-! calls that try something out -/
theorem x_try {h : Mem} {g : Gs} {Q : Mem → Prop} (w : WF 9999 g) (r : RC h 12 g) (hQ : ∀ u, RC u 146 g → RC u 12 g → UX h u → Q u) : F_X4_copyFrom h 146 12 Q :=
  s_copyG (by omega) r w.nm.1 w.nm.2 (fun u ru fu => hQ u ru (r.fr fu (by omega)) (UX.fr fu (by omega)))
theorem m_keep {h : Mem} {g : Gs} {Q : Mem → Prop} (w : WF 9999 g) (r : RXh h g) (rn : RN h g) (hQ : ∀ u, RXh u g → (∀ v, FMh u v → ∀ P : Mem → Prop, (∀ z, RXh z g → RN z g → UM h z → P z) → F_X12_restores v 2688 P) → Q u) : F_X12_keeps h 2688 Q := by
  refine q_keeps (to := 2688) rfl (by omega) (fun u ku fu => hQ u (r.fr w.nm.1 w.nm.2 (fun k hk => fu 162 k (by omega))) (fun v fv P hP => ?_))
  refine q_restores (fr := 2688) rfl (by omega) (by rw [fv 162 (2688 + 9) (by omega), ku 9 (by omega), fv 162 9 (by omega), fu 162 9 (by omega)]) (fun z kz fz => hP z (r.fr w.nm.1 w.nm.2 (fun k hk => ?_)) ⟨fun t ht => ?_, fun t ht => ?_⟩ ?_)
  · rw [kz k hk, fv 162 (2688 + k) (by omega), ku k hk]
  · rw [fz 163 t (by omega), fv 163 t (by omega), fu 163 t (by omega)]; exact rn.1 t ht
  · rw [fz 163 (8 + t) (by omega), fv 163 (8 + t) (by omega), fu 163 (8 + t) (by omega)]; exact rn.2 t ht
  · exact ((UM.fk fu (by omega)).tr (UM.fm fv)).tr (UM.fm fz)
theorem m_isSpan {a : Int} {h : Mem} {Q : Int → Mem → Prop} (h1 : ¬ (0 ≤ a ∧ a ≤ 400) → Q 0 h) (h2 : 0 ≤ a ∧ a ≤ 400 → Q 1 h) : F_X12_isSpan h a Q := by
  unfold F_X12_isSpan
  exact m_isFrom (fun c => ⟨Or.inl rfl, h1 c⟩) (fun c => ⟨Or.inr rfl, h2 c⟩)
theorem k_atIn {h : Mem} {g : Gs} {a : Int} (s : G2 h g) {Q : Int → Int → Mem → Prop} (hQ : ∀ r u1 u g', G2 u g' → Mo g g' → UX h u1 → UM u1 u → Q r r u) : F_X11_atIn h a (fun r1 h1 => F_X12_atIn h1 a (fun r2 h2 => Q r1 r2 h2)) := by
  have w := s.1
  by_cases c : 0 ≤ a ∧ a ≤ 400
  · obtain ⟨k, rfl⟩ : ∃ k : Nat, a = k := ⟨a.toNat, by omega⟩
    refine Kp.mk (FX := F_X11_atIn h k) (FM := fun h1 => F_X12_atIn h1 k) (g' := g) (st := 0) (r := passN k g 0 6) s w (fun Q hQ => ?_) (fun h1 rx rn Q hQ => ?_) hQ
    · unfold F_X11_atIn
      refine x_outside (fun q => absurd c q) (fun _ => ⟨fun _ => x_try w s.2.1 (fun u ru r12 fu => s_passHours (o := 146) rfl rfl ru w (by omega) (fun v rv fv => ?_)), fun q => absurd rfl q⟩)
      have e : v 146 3 = passN k g 0 6 := rv.1.1.2.2.2.1
      rw [e]
      exact x_given (fu.tr (UX.fr fv (by omega))) (r12.fr fv (by omega)) hQ
    · unfold F_X12_atIn
      refine m_isSpan (fun q => absurd c q) (fun _ => ⟨fun _ => m_keep w rx rn (fun u ru back => q_hoursGo rfl ru w (by omega) (by omega) (fun v rv fv => back v fv _ (fun z rz nz fz => ?_))), fun q => absurd q (by decide)⟩)
      rw [rv.1.1 6 (by omega) (by omega)]
      exact m_gives fz w.nm rz nz hQ
  · refine Kp.mk (FX := F_X11_atIn h a) (FM := fun h1 => F_X12_atIn h1 a) (g' := g) (st := 1) (r := -1) s w (fun Q hQ => ?_) (fun h1 rx rn Q hQ => ?_) hQ
    · exact x_outside (fun _ => ⟨fun q => absurd q (by decide), fun _ => x_refused UX.rf s.2.1 hQ⟩) (fun q => absurd q c)
    · exact m_isSpan (fun _ => ⟨fun q => absurd rfl q, fun _ => m_refuse UM.rf w.nm rx rn hQ⟩) (fun q => absurd q c)
theorem k_turnsIn {h : Mem} {g : Gs} {a : Int} (s : G2 h g) {Q : Int → Int → Mem → Prop} (hQ : ∀ r u1 u g', G2 u g' → Mo g g' → UX h u1 → UM u1 u → Q r r u) : F_X11_turnsIn h a (fun r1 h1 => F_X12_turnsIn h1 a (fun r2 h2 => Q r1 r2 h2)) := by
  have w := s.1
  by_cases c : 0 ≤ a ∧ a ≤ 400
  · obtain ⟨k, rfl⟩ : ∃ k : Nat, a = k := ⟨a.toNat, by omega⟩
    refine Kp.mk (FX := F_X11_turnsIn h k) (FM := fun h1 => F_X12_turnsIn h1 k) (g' := g) (st := 0) (r := turnsN k g) s w (fun Q hQ => ?_) (fun h1 rx rn Q hQ => ?_) hQ
    · unfold F_X11_turnsIn
      refine x_outside (fun q => absurd c q) (fun _ => ⟨fun _ => x_try w s.2.1 (fun u ru r12 fu => s_passHours (o := 146) rfl rfl ru w (by omega) (fun v rv fv => ?_)), fun q => absurd rfl q⟩)
      exact x_given (fu.tr (UX.fr fv (by omega))) (r12.fr fv (by omega)) hQ
    · unfold F_X12_turnsIn
      exact m_isSpan (fun q => absurd c q) (fun _ => ⟨fun _ => m_keep w rx rn (fun u ru back => q_hoursGo rfl ru w (by omega) (by omega) (fun v rv fv => back v fv _ (fun z rz nz fz => m_gives fz w.nm rz nz hQ))), fun q => absurd q (by decide)⟩)
  · refine Kp.mk (FX := F_X11_turnsIn h a) (FM := fun h1 => F_X12_turnsIn h1 a) (g' := g) (st := 1) (r := -1) s w (fun Q hQ => ?_) (fun h1 rx rn Q hQ => ?_) hQ
    · exact x_outside (fun _ => ⟨fun q => absurd q (by decide), fun _ => x_refused UX.rf s.2.1 hQ⟩) (fun q => absurd q c)
    · exact m_isSpan (fun _ => ⟨fun q => absurd rfl q, fun _ => m_refuse UM.rf w.nm rx rn hQ⟩) (fun q => absurd q c)
theorem k_turnIn {h : Mem} {g : Gs} (s : G2 h g) {Q : Int → Int → Mem → Prop} (hQ : ∀ r u1 u g', G2 u g' → Mo g g' → UX h u1 → UM u1 u → Q r r u) : F_X11_turnIn h (fun r1 h1 => F_X12_turnIn h1 (fun r2 h2 => Q r1 r2 h2)) := by
  have w := s.1
  refine Kp.mk (FX := F_X11_turnIn h) (FM := F_X12_turnIn) (g' := g) (st := if tTurn 400 g = -1 then 6 else 0) (r := tTurn 400 g) s w (fun Q hQ => ?_) (fun h1 rx rn Q hQ => ?_) hQ
  · exact x_try w s.2.1 (fun u ru r12 fu => s_tillTurn (o := 146) (k := 400) rfl rfl ru w (by omega) (fun v fv => x_orNone (fu.tr (UX.fr fv (by omega))) (r12.fr fv (by omega)) hQ))
  · exact m_keep w rx rn (fun u ru back => q_nextTurn (k := 400) rfl ru w (by omega) (fun v fv => back v fv _ (fun z rz nz fz => m_orNone fz w.nm rz nz hQ)))
theorem k_homeIn {h : Mem} {g : Gs} {a : Int} (s : G2 h g) {Q : Int → Int → Mem → Prop} (hQ : ∀ r u1 u g', G2 u g' → Mo g g' → UX h u1 → UM u1 u → Q r r u) : F_X11_homeIn h a (fun r1 h1 => F_X12_homeIn h1 a (fun r2 h2 => Q r1 r2 h2)) := by
  have w := s.1
  obtain ⟨n8, nc⟩ := gn8 w
  by_cases c : 0 ≤ a ∧ a < g 0 0
  · obtain ⟨t, rfl⟩ : ∃ k : Nat, a = k := ⟨a.toNat, by omega⟩
    have ht : t < gn g := by omega
    refine Kp.mk (FX := F_X11_homeIn h t) (FM := fun h1 => F_X12_homeIn h1 t) (g' := g) (st := if tHome t 400 g = -1 then 6 else 0) (r := tHome t 400 g) s w (fun Q hQ => ?_) (fun h1 rx rn Q hQ => ?_) hQ
    · exact x_isThing s.2.1 (fun q => absurd c q) (fun _ => ⟨fun _ => x_try w s.2.1 (fun u ru r12 fu => s_tillHome (o := 146) (k := 400) rfl rfl rfl ru w (by omega) ht (fun v fv => x_orNone (fu.tr (UX.fr fv (by omega))) (r12.fr fv (by omega)) hQ)), fun q => absurd q (by decide)⟩)
    · exact m_isThing rx (fun q => absurd c q) (fun _ => ⟨fun _ => m_keep w rx rn (fun u ru back => q_homeOf rfl ru w (by omega) ht (fun v fv => back v fv _ (fun z rz nz fz => m_orNone fz w.nm rz nz hQ))), fun q => absurd q (by decide)⟩)
  · refine Kp.mk (FX := F_X11_homeIn h a) (FM := fun h1 => F_X12_homeIn h1 a) (g' := g) (st := 1) (r := -1) s w (fun Q hQ => ?_) (fun h1 rx rn Q hQ => ?_) hQ
    · exact x_isThing s.2.1 (fun _ => ⟨fun q => absurd rfl q, fun _ => x_refused UX.rf s.2.1 hQ⟩) (fun q => absurd q c)
    · exact m_isThing rx (fun _ => ⟨fun q => absurd rfl q, fun _ => m_refuse UM.rf w.nm rx rn hQ⟩) (fun q => absurd q c)
/-- x's set of the things that are so -/
theorem s_setThatIs {h : Mem} {o k : Nat} {x : Int} {g : Gs} {B : Int} {Q : Int → Mem → Prop} (hx : x = (k : Int)) (hl : lay o = (0, 9)) (hR : RT h o g) (hW : WF B g) (hQ : Q (setOf (fun t => g 4 t = (k : Int)) (fun _ => inferInstance) (gn g)) h) : F_X9_setThatIs h o x Q := by
  subst hx
  obtain ⟨n8, nc⟩ := gn8 hW
  have key : ∀ (m i : Nat) (x : Int), x = (i : Int) → i + m = gn g → L_X9_setThatIs_4 h o (k : Int) (setOf (fun t => g 4 t = (k : Int)) (fun _ => inferInstance) i) x Q := by
    intro m
    induction m with
    | zero =>
      intro i x hx hi
      subst hx
      refine l_X9_setThatIs_4 hl ?_
      unfold B_X9_setThatIs_4
      rw [hR.1]
      have : i = gn g := by omega
      subst this
      exact ⟨fun _ => hQ, fun c => absurd (by omega) c⟩
    | succ m ih =>
      intro i x hx hi
      subst hx
      have ihn := ih (i + 1) ((i : Int) + 1) (by omega) (by omega)
      have ir : InR ((i : Int) + 1) := ⟨by omega, by omega⟩
      refine l_X9_setThatIs_4 hl ?_
      unfold B_X9_setThatIs_4
      rw [hR.1, Int.toNat_natCast, (hR.2 i (by omega)).2.2.2.2.1]
      refine ⟨fun c => absurd c (by omega), fun c => ⟨⟨by omega, by omega⟩, fun c2 => ⟨ir, ?_⟩, fun c2 y hy => ⟨ir, ?_⟩⟩⟩
      · rw [(set_no (fun t => g 4 t = (k : Int)) (fun _ => inferInstance) (by omega) c2).2]
        exact ihn
      · rw [hy, set_yes (fun t => g 4 t = (k : Int)) (fun _ => inferInstance) (by omega) c2]
        exact ihn
  exact key (gn g) 0 0 rfl (by omega)
theorem k_carriedIn {h : Mem} {g : Gs} {a : Int} (s : G2 h g) {Q : Int → Int → Mem → Prop} (hQ : ∀ r u1 u g', G2 u g' → Mo g g' → UX h u1 → UM u1 u → Q r r u) : F_X11_carriedIn h a (fun r1 h1 => F_X12_carriedIn h1 a (fun r2 h2 => Q r1 r2 h2)) := by
  have w := s.1
  by_cases c : 0 ≤ a ∧ a ≤ 400
  · obtain ⟨k, rfl⟩ : ∃ k : Nat, a = k := ⟨a.toNat, by omega⟩
    have wk := WF.passN k w
    refine Kp.mk (FX := F_X11_carriedIn h k) (FM := fun h1 => F_X12_carriedIn h1 k) (g' := g) (st := 0) (r := setOf (fun t => passN k g 4 t = ((2 : Nat) : Int)) (fun _ => inferInstance) (gn (passN k g))) s w (fun Q hQ => ?_) (fun h1 rx rn Q hQ => ?_) hQ
    · unfold F_X11_carriedIn
      exact x_outside (fun q => absurd c q) (fun _ => ⟨fun _ => x_try w s.2.1 (fun u ru r12 fu => s_passHours (o := 146) rfl rfl ru w (by omega) (fun v rv fv => s_setThatIs (k := 2) rfl (ly_gt (o := 146) rfl) rv.1.2.1 wk (x_given (fu.tr (UX.fr fv (by omega))) (r12.fr fv (by omega)) hQ))), fun q => absurd rfl q⟩)
    · unfold F_X12_carriedIn
      exact m_isSpan (fun q => absurd c q) (fun _ => ⟨fun _ => m_keep w rx rn (fun u ru back => q_hoursGo rfl ru w (by omega) (by omega) (fun v rv fv => q_things (k := 2) (by omega) rv.1 wk (back v fv _ (fun z rz nz fz => m_gives fz w.nm rz nz hQ)))), fun q => absurd q (by decide)⟩)
  · refine Kp.mk (FX := F_X11_carriedIn h a) (FM := fun h1 => F_X12_carriedIn h1 a) (g' := g) (st := 1) (r := -1) s w (fun Q hQ => ?_) (fun h1 rx rn Q hQ => ?_) hQ
    · exact x_outside (fun _ => ⟨fun q => absurd q (by decide), fun _ => x_refused UX.rf s.2.1 hQ⟩) (fun q => absurd q c)
    · exact m_isSpan (fun _ => ⟨fun q => absurd rfl q, fun _ => m_refuse UM.rf w.nm rx rn hQ⟩) (fun q => absurd q c)
theorem gm_passN : ∀ (k : Nat) (g : Gs), gm (passN k g) = gm g := by
  intro k
  induction k with
  | zero => intro g; rfl
  | succ k ih => intro g; show gm (passN k (pass g)) = gm g; rw [ih, gm_pass]
theorem gn_passN : ∀ (k : Nat) (g : Gs), gn (passN k g) = gn g := by
  intro k
  induction k with
  | zero => intro g; rfl
  | succ k ih => intro g; show gn (passN k (pass g)) = gn g; rw [ih, gn_pass]
theorem k_groundIn {h : Mem} {g : Gs} {a b : Int} (s : G2 h g) {Q : Int → Int → Mem → Prop} (hQ : ∀ r u1 u g', G2 u g' → Mo g g' → UX h u1 → UM u1 u → Q r r u) : F_X11_groundIn h a b (fun r1 h1 => F_X12_groundIn h1 a b (fun r2 h2 => Q r1 r2 h2)) := by
  have w := s.1
  obtain ⟨n4, nc⟩ := gm4 w
  by_cases c : (0 ≤ a ∧ a < g 0 1) ∧ 0 ≤ b ∧ b ≤ 400
  · obtain ⟨t, rfl⟩ : ∃ k : Nat, a = k := ⟨a.toNat, by omega⟩
    obtain ⟨k, rfl⟩ : ∃ k : Nat, b = k := ⟨b.toNat, by omega⟩
    have ht : t < gm g := by omega
    have wk := WF.passN k w
    have w1 := w.2.2 t ht
    have w2 := wk.2.2 t (by rw [gm_passN]; exact ht)
    have ws1 := w.1
    have ws2 := wk.1
    unfold WFm at w1 w2
    unfold WFs at ws1 ws2
    refine Kp.mk (FX := F_X11_groundIn h t k) (FM := fun h1 => F_X12_groundIn h1 t k) (g' := g) (st := 0) (r := passN k g 10 t - g 10 t) s w (fun Q hQ => ?_) (fun h1 rx rn Q hQ => ?_) hQ
    · unfold F_X11_groundIn
      refine x_isMill s.2.1 (fun q => absurd c.1 q) (fun _ => ⟨fun q => absurd q (by decide), fun _ => x_outside (fun q => absurd c.2 q) (fun _ => ⟨fun _ => x_try w s.2.1 (fun u ru r12 fu => s_passHours (o := 146) rfl rfl ru w (by omega) (fun v rv fv => ?_)), fun q => absurd rfl q⟩)⟩)
      have e1 : v 160 t = passN k g 10 t := (rv.1.2.2.2 t (by rw [gm_passN]; exact ht)).2.2.2
      have e2 : v 26 t = g 10 t := by rw [fv 26 (by omega)]; exact (r12.1.2.2.2 t ht).2.2.2
      rw [Int.toNat_natCast, e1, e2]
      exact ⟨⟨by omega, by omega⟩, ⟨by omega, by omega⟩, x_given (fu.tr (UX.fr fv (by omega))) (r12.fr fv (by omega)) hQ⟩
    · unfold F_X12_groundIn
      refine m_isMill rx (fun q => absurd c.1 q) (fun _ => ⟨fun q => absurd q (by decide), fun _ => m_isSpan (fun q => absurd c.2 q) (fun _ => ⟨fun _ => m_keep w rx rn (fun u ru back => q_millOf (k := 2) rfl rfl (by omega) (by omega) (q_hoursGo rfl ru w (by omega) (by omega) (fun v rv fv => q_millOf (k := 2) rfl rfl (by omega) (by omega) ?_))), fun q => absurd q (by decide)⟩)⟩)
      have e1 : v 162 (68 + 3 * t + 2) = passN k g 10 t := rv.1.2.2 t 2 (by rw [gm_passN]; exact ht) (by omega)
      have e2 : u 162 (68 + 3 * t + 2) = g 10 t := ru.1.2.2 t 2 ht (by omega)
      rw [e1, e2]
      exact ⟨⟨by omega, by omega⟩, back v fv _ (fun z rz nz fz => m_gives fz w.nm rz nz hQ)⟩
  · refine Kp.mk (FX := F_X11_groundIn h a b) (FM := fun h1 => F_X12_groundIn h1 a b) (g' := g) (st := 1) (r := -1) s w (fun Q hQ => ?_) (fun h1 rx rn Q hQ => ?_) hQ
    · exact x_isMill s.2.1 (fun _ => ⟨fun _ => x_refused UX.rf s.2.1 hQ, fun q => absurd rfl q⟩) (fun q => ⟨fun q => absurd q (by decide), fun _ => x_outside (fun _ => ⟨fun q => absurd q (by decide), fun _ => x_refused UX.rf s.2.1 hQ⟩) (fun q2 => absurd ⟨q, q2⟩ c)⟩)
    · exact m_isMill rx (fun _ => ⟨fun _ => m_refuse UM.rf w.nm rx rn hQ, fun q => absurd rfl q⟩) (fun q => ⟨fun q => absurd q (by decide), fun _ => m_isSpan (fun _ => ⟨fun q => absurd rfl q, fun _ => m_refuse UM.rf w.nm rx rn hQ⟩) (fun q2 => absurd ⟨q, q2⟩ c)⟩)
