def FXd (h u : Mem) : Prop := ∀ i k, ¬ (i = 0 ∧ k = 0) → ¬ (i = 9 ∧ 1 ≤ k ∧ k ≤ 10) → ¬ (27 ≤ i ∧ i < 42) → u i k = h i k
/-- days, side by side -/
theorem k_days {h : Mem} {g : Gs} {d : Dy} {a : Int} (s : G2 h g) (t : TE h) (fe : FE h) (kw : KWE h) (dr : DR h d) (wd : WFD d (g 0 0) (g 0 1) (g 0 2)) {Q : Int → Int → Mem → Prop} (hQ : ∀ r u1 u d', G2 u g → DR u d' → WFD d' (g 0 0) (g 0 1) (g 0 2) → TE u → FE u → FXd h u1 → FMd u1 u → Q r r u) : F_X11_days h a (fun r1 h1 => F_X12_days h1 a (fun r2 h2 => Q r1 r2 h2)) := by
  obtain ⟨w, rc, rx, rn', est⟩ := s
  obtain ⟨q, q9, t1, t2, t3⟩ := t
  have n8 := gn8 w
  have n4 := gm4 w
  have ws := w.1
  unfold WFs at ws
  have wl : 2 ≤ g 0 2 ∧ g 0 2 ≤ 16 := by omega
  have d60 : dn d ≤ 60 := by have := wd.2.2.2.2.1; unfold dn; omega
  have keepM : ∀ u : Mem, (∀ k, k < 448 → u 162 k = h 162 k) → RDm u 0 d := fun u f2 => by
    refine ⟨?_, fun k hk => ?_⟩
    · rw [f2 (0 + 9) (by omega)]; exact dr.2.1
    · rw [f2 _ (by omega), f2 _ (by omega), f2 _ (by omega), f2 _ (by omega), f2 _ (by omega)]
      exact dr.2.2 k hk
  by_cases c : 0 ≤ a ∧ a ≤ imin (q : Int) 300
  · obtain ⟨n, rfl⟩ : ∃ n : Nat, a = n := ⟨a.toNat, by omega⟩
    have cm : n ≤ q ∧ n ≤ 300 := by
      have := c.2
      unfold imin at this
      split at this <;> omega
    have eqB : ∀ u1 : Mem, FXd h u1 → ∀ k, u1 167 k = (fun k => h 167 k) k := fun u1 f k => f 167 k (by omega) (by omega) (by omega)
    have rx1 : ∀ u1 : Mem, FXd h u1 → RXh u1 g := fun u1 fx => rx.fr n8.1 n4.1 (fun k hk => fx 162 k (by omega) (by omega) (by omega))
    have rn1 : ∀ u1 : Mem, FXd h u1 → RN u1 g := fun u1 fx => ⟨fun t ht => by rw [fx 163 t (by omega) (by omega) (by omega)]; exact rn'.1 t ht, fun t ht => by rw [fx 163 _ (by omega) (by omega) (by omega)]; exact rn'.2 t ht⟩
    have g2 : ∀ u1 u : Mem, FXd h u1 → FMd u1 u → u1 0 0 = u 161 2 → G2 u g := fun u1 u fx fm e => by
      have gm : ∀ k, k < 80 → k ≠ 9 → u 162 k = h 162 k := fun k hk k9 => by rw [fm 162 k (by omega) (by omega) (by omega) (by omega)]; exact fx 162 k (by omega) (by omega) (by omega)
      obtain ⟨⟨a1, a2, a3⟩, a4⟩ := rx
      refine ⟨w, rc_same rc (fun i k p1 p2 => by rw [fm i k (by omega) (by omega) (by omega) (by omega)]; exact fx i k (by omega) (by omega) (by omega)), ⟨⟨fun i h1 h2 => by rw [gm i (by omega) (by omega)]; exact a1 i h1 h2, fun t k h1 h2 h3 => by rw [gm _ (by omega) (by omega)]; exact a2 t k h1 h2 h3, fun m k h1 h2 => by rw [gm _ (by omega) (by omega)]; exact a3 m k h1 h2⟩, by rw [gm 5 (by omega) (by omega)]; exact a4⟩, ?_, ?_⟩
      · have r1 := rn1 u1 fx
        exact ⟨fun t ht => by rw [fm 163 t (by omega) (by omega) (by omega) (by omega)]; exact r1.1 t ht, fun t ht => by rw [fm 163 _ (by omega) (by omega) (by omega) (by omega)]; exact r1.2 t ht⟩
      · rw [fm 0 0 (by omega) (by omega) (by omega) (by omega)]; exact e
    refine x_days (B := fun k => h 167 k) q9 t1 rfl cm.1 cm.2 (fun k hk => t3 k (by omega)) kw rc wl n8 n4 dr.1 (fun u1 d' hp rd1 y0 y9 yA y91 fx => ?_) (fun u1 e hp rd1 y0 y9 yA y91 fx => ?_)
    · refine m_days (B := fun k => h 167 k) q9 (by rw [fx 161 10 (by omega) (by omega) (by omega)]; exact t2) rfl cm.1 cm.2 (eqB u1 fx) n8 n4 wl (rx1 u1 fx) (rn1 u1 fx) (fun u d2 hp2 rdm z2 z16 z17 z10 fm => ?_) (fun u e hp2 => ?_)
      · have ed : d2 = d' := by rw [hp] at hp2; cases hp2; rfl
        subst ed
        have up : ∀ i k, i < 161 → u i k = u1 i k := fun i k hi => fm i k (by omega) (by omega) (by omega) (by omega)
        refine hQ _ u1 u d2 (g2 u1 u fx fm (by rw [y0, z2])) ⟨rd1.fr (fun i i1 i2 k => up i k (by omega)), rdm⟩ (wfd_days n8.2 n4.2 hp).1 ⟨0, by omega, ?_, z10, fun k hk => absurd hk (by omega)⟩ ⟨?_, ?_⟩ fx fm
        · rw [up 9 1 (by omega)]; exact y91
        · rw [up 9 9 (by omega), y9, z16]
        · rw [up 9 10 (by omega), yA, z17]
      · rw [hp] at hp2; cases hp2
    · refine m_days (B := fun k => h 167 k) q9 (by rw [fx 161 10 (by omega) (by omega) (by omega)]; exact t2) rfl cm.1 cm.2 (eqB u1 fx) n8 n4 wl (rx1 u1 fx) (rn1 u1 fx) (fun u d2 hp2 => ?_) (fun u e2 hp2 zk z2 z16 z17 z10 fm => ?_)
      · rw [hp] at hp2; cases hp2
      · have ee : e2 = e := by rw [hp] at hp2; cases hp2; rfl
        subst ee
        have up : ∀ i k, i < 161 → u i k = u1 i k := fun i k hi => fm i k (by omega) (by omega) (by omega) (by omega)
        refine hQ _ u1 u d (g2 u1 u fx fm (by rw [y0, z2])) ⟨rd1.fr (fun i i1 i2 k => up i k (by omega)), keepM u (fun k hk => by rw [zk k hk]; exact fx 162 k (by omega) (by omega) (by omega))⟩ wd ⟨0, by omega, ?_, z10, fun k hk => absurd hk (by omega)⟩ ⟨?_, ?_⟩ fx fm
        · rw [up 9 1 (by omega)]; exact y91
        · rw [up 9 9 (by omega), y9, z16]
        · rw [up 9 10 (by omega), yA, z17]
  · have back : F_X11_refused h 1 (fun r14 h13 => F_X12_days h13 a (fun r2 h2 => Q r14 r2 h2)) := by
      unfold F_X11_refused
      intro u1 e1
      have r2 : F_X12_refuse u1 1 (fun r7 h6 => Q (-1) r7 h6) := by
        unfold F_X12_refuse
        intro u e
        have f : ∀ i k, ¬ (i = 0 ∧ k = 0) → ¬ (i = 161 ∧ k = 2) → u i k = h i k := fun i k p1 p2 => by rw [e, mset_o p2, e1, mset_o p1]
        refine hQ _ u1 u d ⟨w, rc_same rc (fun i k p1 p2 => f i k (by omega) (by omega)), rx.fr n8.1 n4.1 (fun k hk => f 162 k (by omega) (by omega)), ⟨fun t ht => by rw [f 163 t (by omega) (by omega)]; exact rn'.1 t ht, fun t ht => by rw [f 163 _ (by omega) (by omega)]; exact rn'.2 t ht⟩, ?_⟩ ⟨dr.1.fr (fun i i1 i2 k => f i k (by omega) (by omega)), keepM u (fun k hk => f 162 k (by omega) (by omega))⟩ wd ⟨q, q9, by rw [f 9 1 (by omega) (by omega)]; exact t1, by rw [f 161 10 (by omega) (by omega)]; exact t2, fun k hk => by rw [f 10 k (by omega) (by omega), f 167 k (by omega) (by omega)]; exact t3 k hk⟩ ⟨?_, ?_⟩ (fun i k p1 p2 p3 => by rw [e1, mset_o p1]) (fun i k p1 p2 p3 p4 => by rw [e, mset_o (by omega)])
        · rw [e, mset_at, mset_i _ (by omega), e1, mset_at]
        · rw [f 9 9 (by omega) (by omega), f 161 16 (by omega) (by omega)]; exact fe.1
        · rw [f 9 10 (by omega) (by omega), f 161 17 (by omega) (by omega)]; exact fe.2
      have e10 : u1 161 10 = (q : Int) := by rw [e1, mset_i _ (by omega)]; exact t2
      have im : imin (q : Int) 300 = q ∨ imin (q : Int) 300 = 300 := by unfold imin; split <;> omega
      have im2 : (q : Int) < a ∨ 300 < a → True := fun _ => trivial
      unfold F_X12_days F_X12_begins
      rw [e10]
      refine ⟨fun _ => ⟨fun z => absurd rfl z, fun _ => r2⟩, fun _ => ⟨fun _ => ⟨fun z => absurd rfl z, fun _ => r2⟩, fun z => ⟨fun z3 => absurd ⟨by omega, ?_⟩ c, fun _ => ⟨fun z => absurd rfl z, fun _ => r2⟩⟩⟩⟩
      rcases im with y | y
      · rw [y]; omega
      · rw [y]; exact z3
    unfold F_X11_days F_X11_outside
    rw [t1]
    exact ⟨fun _ => ⟨fun z => absurd z (by decide), fun _ => back⟩, fun _ => ⟨fun z => absurd ⟨by omega, z⟩ c, fun _ => ⟨fun z => absurd z (by decide), fun _ => back⟩⟩⟩
