/-! ride, waits -/
def rideA (g : Gs) (a : Int) (i : Nat) (s : Int × Int) : Int × Int := if s.1 = -1 ∧ g 0 6 = a then ((i : Int), s.2) else s
def rideB (g : Gs) (b : Int) (i : Nat) (s : Int × Int) : Int × Int := if s.1 ≠ -1 ∧ g 0 6 = b then (s.1, (i : Int)) else s
def rideF (a b : Int) : Nat → Nat → Gs → Int × Int → Int × Int
  | 0, _, _, s => s
  | m + 1, i, g, s => if s.2 ≠ -1 then s else rideF a b m (i + 1) (pass g) (rideB g b i (rideA g a i s))
theorem s_sail {h : Mem} {g0 g : Gs} {B a b : Int} {Q : Mem → Prop} (ru : RC h 146 g) (w : WF B g) (hB : B ≤ 700000) (r12 : RC h 12 g0) (hQ : ∀ u, RC u 12 g0 → UX h u → u 42 0 = (rideF a b 401 0 g (-1, -1)).2 → u 42 3 = (rideF a b 401 0 g (-1, -1)).1 → Q u) : F_X0_sail h 146 a b Q := by
  unfold F_X0_sail
  generalize hRe : rideF a b 401 0 g (-1, -1) = R at hQ
  have key : ∀ (m i : Nat) (z : Int) (u : Mem) (g1 : Gs) (B1 : Int) (s : Int × Int), z = (i : Int) → i + m = 401 → RC u 146 g1 → WF B1 g1 → B1 + m ≤ 800000 → RC u 12 g0 → UX h u → u 42 0 = s.2 → u 42 3 = s.1 → rideF a b m i g1 s = R → L_X0_sail_13 u 146 a b z Q := by
    intro m
    induction m with
    | zero =>
      intro i z u g1 B1 s hz hi r w1 hb r2 f p0 p3 hp
      subst hz
      refine l_X0_sail_13 rfl ?_
      unfold B_X0_sail_13
      have hp2 : s = R := hp
      subst hp2
      exact ⟨fun _ => hQ u r2 f p0 p3, fun c => absurd (by omega) c⟩
    | succ m ih =>
      intro i z u g1 B1 s hz hi r w1 hb r2 f p0 p3 hp
      subst hz
      refine l_X0_sail_13 rfl ?_
      unfold B_X0_sail_13
      have e : u 146 3 = g1 0 6 := r.1.1.2.2.2.1
      unfold rideF at hp
      have nxt : ∀ (u1 : Mem) (s1 : Int × Int), RC u1 146 g1 → RC u1 12 g0 → UX h u1 → u1 42 0 = s1.2 → u1 42 3 = s1.1 → rideF a b m (i + 1) (pass g1) s1 = R → F_X4_passHour u1 146 (fun r5 h4 => (InR ((i : Int) + 1) ∧ L_X0_sail_13 h4 146 a b ((i : Int) + 1) Q)) := fun u1 s1 c1 c2 c3 c4 c5 c6 =>
        s_passHour rfl c1 w1 (by omega) (fun v rv fv => ⟨⟨by omega, by omega⟩, ih (i + 1) _ v (pass g1) (B1 + 1) s1 (by omega) (by omega) rv w1.pass (by omega) (c2.fr fv (by omega)) (c3.tr (UX.fr fv (by omega))) ((fv 42 (by omega) 0).trans c4) ((fv 42 (by omega) 3).trans c5) c6⟩)
      have jn : ∀ (u1 : Mem) (s1 : Int × Int), RC u1 146 g1 → RC u1 12 g0 → UX h u1 → u1 42 0 = s1.2 → u1 42 3 = s1.1 → rideF a b m (i + 1) (pass g1) (rideB g1 b i s1) = R → J_X0_sail_51 u1 146 a b (i : Int) Q := by
        intro u1 s1 c1 c2 c3 c4 c5 c6
        unfold J_X0_sail_51
        have e1 : u1 146 3 = g1 0 6 := c1.1.1.2.2.2.1
        unfold rideB at c6
        refine ⟨fun d => ?_, fun d => ⟨fun d2 => ?_, fun d2 h10 e10 => ?_⟩⟩
        · rw [if_neg (by omega)] at c6
          exact nxt u1 s1 c1 c2 c3 c4 c5 c6
        · rw [if_neg (by omega)] at c6
          exact nxt u1 s1 c1 c2 c3 c4 c5 c6
        · rw [if_pos ⟨by omega, by omega⟩] at c6
          subst e10
          exact nxt _ (s1.1, (i : Int)) (c1.st42 (Or.inr rfl)) (c2.st42 (Or.inl rfl)) c3.st42 mset_at ((mset_k (by omega)).trans c5) c6
      refine ⟨fun c => absurd c (by omega), fun _ => ⟨fun c => ?_, fun c => ?_⟩⟩
      · rw [if_pos (by omega)] at hp
        subst hp
        exact hQ u r2 f p0 p3
      · rw [if_neg (by omega)] at hp
        unfold rideA at hp
        refine ⟨fun d => ?_, fun d => ⟨fun d2 => ?_, fun d2 h3 e3 => ?_⟩⟩
        · rw [if_neg (by omega)] at hp
          exact jn u s r r2 f p0 p3 hp
        · rw [if_neg (by omega)] at hp
          exact jn u s r r2 f p0 p3 hp
        · rw [if_pos ⟨by omega, by omega⟩] at hp
          subst e3
          exact jn _ ((i : Int), s.2) (r.st42 (Or.inr rfl)) (r2.st42 (Or.inl rfl)) f.st42 ((mset_k (by omega)).trans p0) mset_at hp
  intro h1 e1 h2 e2
  subst e2 e1
  exact key 401 0 0 _ g B (-1, -1) rfl rfl ((ru.st42 (Or.inr rfl)).st42 (Or.inr rfl)) w (by omega) ((r12.st42 (Or.inl rfl)).st42 (Or.inl rfl)) UX.rf.st42.st42 ((mset_k (by omega)).trans mset_at) mset_at hRe
theorem RXh.st1 {h : Mem} {g : Gs} {k : Nat} {y : Int} (r : RXh h g) (nm : gn g ≤ 8 ∧ gm g ≤ 4) : RXh (mset h 161 k y) g := r.fr nm.1 nm.2 (fun k _ => mset_i k (by omega))
theorem nm_pass {g : Gs} (nm : gn g ≤ 8 ∧ gm g ≤ 4) : gn (pass g) ≤ 8 ∧ gm (pass g) ≤ 4 := by rw [gn_pass, gm_pass]; exact nm
theorem q_laysRide {h : Mem} {g : Gs} {a b : Int} {Q : Mem → Prop} (w : WF 9999 g) (rx : RXh h g) (hQ : ∀ u, RXh u g → KP h u → u 161 32 = (rideF a b 401 0 g (-1, -1)).2 → u 161 31 = (rideF a b 401 0 g (-1, -1)).1 → Q u) : F_X12_laysRide h a b Q := by
  unfold F_X12_laysRide
  generalize hRe : rideF a b 401 0 g (-1, -1) = R at hQ
  have key : ∀ (m i : Nat) (z : Int) (v : Mem) (g1 : Gs) (B1 : Int) (s : Int × Int), z = (i : Int) → i + m = 401 → RXh v g1 → WF B1 g1 → B1 + m ≤ 800000 → KP h v → v 161 32 = s.2 → v 161 31 = s.1 → rideF a b m i g1 s = R → L_X12_laysRide_19 v a b z Q := by
    intro m
    induction m with
    | zero =>
      intro i z v g1 B1 s hz hi r w1 hb kv p0 p3 hp
      subst hz
      refine l_X12_laysRide_19 ?_
      unfold B_X12_laysRide_19
      have hp2 : s = R := hp
      subst hp2
      exact ⟨fun _ => m_rest w rx kv (fun z rz kz fz => hQ z rz kz ((fz 161 32 (by omega)).trans p0) ((fz 161 31 (by omega)).trans p3)), fun c => absurd (by omega) c⟩
    | succ m ih =>
      intro i z v g1 B1 s hz hi r w1 hb kv p0 p3 hp
      subst hz
      refine l_X12_laysRide_19 ?_
      unfold B_X12_laysRide_19
      have e : v 162 6 = g1 0 6 := r.1.1 6 (by omega) (by omega)
      unfold rideF at hp
      have nxt : ∀ (u1 : Mem) (s1 : Int × Int), RXh u1 g1 → KP h u1 → u1 161 32 = s1.2 → u1 161 31 = s1.1 → rideF a b m (i + 1) (pass g1) s1 = R → F_X12_hourGoes u1 (fun r5 h4 => (InR ((i : Int) + 1) ∧ L_X12_laysRide_19 h4 a b ((i : Int) + 1) Q)) := fun u1 s1 c1 c2 c4 c5 c6 =>
        q_hour c1 w1 (by omega) (fun v rv fv => ⟨⟨by omega, by omega⟩, ih (i + 1) _ v (pass g1) (B1 + 1) s1 (by omega) (by omega) rv w1.pass (by omega) (c2.fm fv) ((fv 161 32 (by omega)).trans c4) ((fv 161 31 (by omega)).trans c5) c6⟩)
      have jn : ∀ (u1 : Mem) (s1 : Int × Int), RXh u1 g1 → KP h u1 → u1 161 32 = s1.2 → u1 161 31 = s1.1 → rideF a b m (i + 1) (pass g1) (rideB g1 b i s1) = R → J_X12_laysRide_58 u1 a b (i : Int) Q := by
        intro u1 s1 c1 c2 c4 c5 c6
        unfold J_X12_laysRide_58
        have e1 : u1 162 6 = g1 0 6 := c1.1.1 6 (by omega) (by omega)
        unfold rideB at c6
        refine ⟨fun d => ?_, fun d => ⟨fun d2 => ?_, fun d2 h10 e10 => ?_⟩⟩
        · rw [if_neg (by omega)] at c6
          exact nxt u1 s1 c1 c2 c4 c5 c6
        · rw [if_neg (by omega)] at c6
          exact nxt u1 s1 c1 c2 c4 c5 c6
        · rw [if_pos ⟨by omega, by omega⟩] at c6
          subst e10
          exact nxt _ (s1.1, (i : Int)) (c1.st1 w1.nm) (c2.st (by omega)) mset_at ((mset_k (by omega)).trans c5) c6
      refine ⟨fun c => absurd c (by omega), fun _ => ⟨fun c => ?_, fun c => ?_⟩⟩
      · rw [if_pos (by omega)] at hp
        subst hp
        exact m_rest w rx kv (fun z rz kz fz => hQ z rz kz ((fz 161 32 (by omega)).trans p0) ((fz 161 31 (by omega)).trans p3))
      · rw [if_neg (by omega)] at hp
        unfold rideA at hp
        refine ⟨fun d => ?_, fun d => ⟨fun d2 => ?_, fun d2 h3 e3 => ?_⟩⟩
        · rw [if_neg (by omega)] at hp
          exact jn v s r kv p0 p3 hp
        · rw [if_neg (by omega)] at hp
          exact jn v s r kv p0 p3 hp
        · rw [if_pos ⟨by omega, by omega⟩] at hp
          subst e3
          exact jn _ ((i : Int), s.2) (r.st1 w1.nm) (kv.st (by omega)) ((mset_k (by omega)).trans p0) mset_at hp
  refine m_keep2 w rx (fun u ru ku h3 e3 h4 e4 => ?_)
  subst e4 e3
  exact key 401 0 0 _ g 9999 (-1, -1) rfl rfl ((ru.st1 w.nm).st1 w.nm) w (by omega) ((ku.st (by omega)).st (by omega)) mset_at ((mset_k (by omega)).trans mset_at) hRe
theorem k_rideG {h : Mem} {g : Gs} {a b : Int} (s : G2 h g) {FX : (Int → Mem → Prop) → Prop} {FM : Mem → (Int → Mem → Prop) → Prop} (pick : Int × Int → Int)
    (X : ∀ Q : Int → Mem → Prop, F_X11_isCell h a (fun r2 h1 => ((r2 = 0 → (F_X11_refused h1 1 (fun r4 h3 => Q r4 h3))) ∧ (¬ (r2 = 0) → (F_X11_isCell h1 b (fun r6 h5 => ((¬ (r6 = 0) → (F_X4_copyFrom h5 146 12 (fun h7 => (F_X0_sail h7 146 a b (fun h9 => ((¬ ((h9 42 0) = (-1)) → (F_X11_given h9 (pick (h9 42 3, h9 42 0)) (fun r12 h11 => Q r12 h11))) ∧ ((h9 42 0) = (-1) → (F_X11_refused h9 6 (fun r14 h13 => Q r14 h13))))))))) ∧ (r6 = 0 → (F_X11_refused h5 1 (fun r16 h15 => Q r16 h15))))))))) → FX Q)
    (M : ∀ h1 (Q : Int → Mem → Prop), F_X12_isCell h1 a (fun r2 h1 => ((r2 = 0 → (F_X12_refuse h1 1 (fun r4 h3 => Q r4 h3))) ∧ (¬ (r2 = 0) → (F_X12_isCell h1 b (fun r6 h5 => ((¬ (r6 = 0) → (F_X12_laysRide h5 a b (fun h7 => ((¬ ((h7 161 32) = (-1)) → (F_X12_gives h7 (pick (h7 161 31, h7 161 32)) (fun r10 h9 => Q r10 h9))) ∧ ((h7 161 32) = (-1) → (F_X12_refuse h7 6 (fun r12 h11 => Q r12 h11))))))) ∧ (r6 = 0 → (F_X12_refuse h5 1 (fun r14 h13 => Q r14 h13))))))))) → FM h1 Q)
    {Q : Int → Int → Mem → Prop} (hQ : ∀ r u1 u g', G2 u g' → Mo g g' → UX h u1 → UM u1 u → Q r r u) : FX (fun r1 h1 => FM h1 (fun r2 h2 => Q r1 r2 h2)) := by
  have w := s.1
  by_cases c : (0 ≤ a ∧ a < g 0 2) ∧ 0 ≤ b ∧ b < g 0 2
  · by_cases d : (rideF a b 401 0 g (-1, -1)).2 = -1
    · refine Kp.mk (FX := FX) (FM := FM) (g' := g) (st := 6) (r := -1) s w (fun Q hQ => X Q ?_) (fun h1 rx rn Q hQ => M h1 Q ?_) hQ
      · refine x_isCell s.2.1 (fun q => absurd c.1 q) (fun _ => ⟨fun q => absurd q (by decide), fun _ => x_isCell s.2.1 (fun q => absurd c.2 q) (fun _ => ⟨fun _ => x_try w s.2.1 (fun u ru r12 fu => s_sail ru w (by omega) r12 (fun v r2 fv p0 p3 => ?_)), fun q => absurd q (by decide)⟩)⟩)
        rw [p0]
        exact ⟨fun q => absurd d q, fun _ => x_refused (fu.tr fv) r2 hQ⟩
      · refine m_isCell rx (fun q => absurd c.1 q) (fun _ => ⟨fun q => absurd q (by decide), fun _ => m_isCell rx (fun q => absurd c.2 q) (fun _ => ⟨fun _ => q_laysRide w rx (fun u ru ku p0 p3 => ?_), fun q => absurd q (by decide)⟩)⟩)
        rw [p0]
        exact ⟨fun q => absurd d q, fun _ => m_refuse ku.2.2 w.nm ru (rn.fr ku.2.1) hQ⟩
    · refine Kp.mk (FX := FX) (FM := FM) (g' := g) (st := 0) (r := pick (rideF a b 401 0 g (-1, -1))) s w (fun Q hQ => X Q ?_) (fun h1 rx rn Q hQ => M h1 Q ?_) hQ
      · refine x_isCell s.2.1 (fun q => absurd c.1 q) (fun _ => ⟨fun q => absurd q (by decide), fun _ => x_isCell s.2.1 (fun q => absurd c.2 q) (fun _ => ⟨fun _ => x_try w s.2.1 (fun u ru r12 fu => s_sail ru w (by omega) r12 (fun v r2 fv p0 p3 => ?_)), fun q => absurd q (by decide)⟩)⟩)
        rw [p0, p3]
        exact ⟨fun _ => x_given (fu.tr fv) r2 hQ, fun q => absurd q d⟩
      · refine m_isCell rx (fun q => absurd c.1 q) (fun _ => ⟨fun q => absurd q (by decide), fun _ => m_isCell rx (fun q => absurd c.2 q) (fun _ => ⟨fun _ => q_laysRide w rx (fun u ru ku p0 p3 => ?_), fun q => absurd q (by decide)⟩)⟩)
        rw [p0, p3]
        exact ⟨fun _ => m_gives ku.2.2 w.nm ru (rn.fr ku.2.1) hQ, fun q => absurd q d⟩
  · refine Kp.mk (FX := FX) (FM := FM) (g' := g) (st := 1) (r := -1) s w (fun Q hQ => X Q ?_) (fun h1 rx rn Q hQ => M h1 Q ?_) hQ
    · have no : F_X11_refused h 1 Q := x_refused UX.rf s.2.1 hQ
      exact x_isCell s.2.1 (fun _ => ⟨fun _ => no, fun q => absurd rfl q⟩) (fun d1 => ⟨fun q => absurd q (by decide), fun _ => x_isCell s.2.1 (fun _ => ⟨fun q => absurd rfl q, fun _ => no⟩) (fun d2 => absurd ⟨d1, d2⟩ c)⟩)
    · have no : F_X12_refuse h1 1 Q := m_refuse UM.rf w.nm rx rn hQ
      exact m_isCell rx (fun _ => ⟨fun _ => no, fun q => absurd rfl q⟩) (fun d1 => ⟨fun q => absurd q (by decide), fun _ => m_isCell rx (fun _ => ⟨fun q => absurd rfl q, fun _ => no⟩) (fun d2 => absurd ⟨d1, d2⟩ c)⟩)
theorem k_ride {h : Mem} {g : Gs} {a b : Int} (s : G2 h g) {Q : Int → Int → Mem → Prop} (hQ : ∀ r u1 u g', G2 u g' → Mo g g' → UX h u1 → UM u1 u → Q r r u) : F_X11_ride h a b (fun r1 h1 => F_X12_ride h1 a b (fun r2 h2 => Q r1 r2 h2)) :=
  k_rideG (a := a) (b := b) (FX := F_X11_ride h a b) (FM := fun h1 => F_X12_ride h1 a b) s (fun p => p.2) (fun _ z => by unfold F_X11_ride F_X11_givenOrNone; exact z) (fun _ _ z => by unfold F_X12_ride F_X12_orNone; exact z) hQ
theorem k_waits {h : Mem} {g : Gs} {a b : Int} (s : G2 h g) {Q : Int → Int → Mem → Prop} (hQ : ∀ r u1 u g', G2 u g' → Mo g g' → UX h u1 → UM u1 u → Q r r u) : F_X11_waits h a b (fun r1 h1 => F_X12_waits h1 a b (fun r2 h2 => Q r1 r2 h2)) :=
  k_rideG (a := a) (b := b) (FX := F_X11_waits h a b) (FM := fun h1 => F_X12_waits h1 a b) s (fun p => p.1) (fun _ z => z) (fun _ _ z => z) hQ
