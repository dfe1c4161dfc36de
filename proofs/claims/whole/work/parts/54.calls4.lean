/-! calls that set one thing -/
theorem RC.th {h u : Mem} {g g' : Gs} (r : RC h 12 g) (t : RT u 13 g') (f : Fr 14 22 h u) (e0 : ∀ i, g' 0 i = g 0 i) (em : ∀ k m, 8 ≤ k → k ≠ 11 → g' k m = g k m) : RC u 12 g' := by
  obtain ⟨⟨⟨a1, a2, a3, a4, a5, a6⟩, rt, rm⟩, r5⟩ := r
  have n2 : gm g' = gm g := by unfold gm; rw [e0]
  refine ⟨⟨⟨?_, ?_, ?_, ?_, ?_, ?_⟩, t, ?_, fun m hm => ?_⟩, ?_⟩
  · rw [f 12 (by omega), e0]; exact a1
  · rw [f 12 (by omega), e0]; exact a2
  · rw [f 12 (by omega), e0]; exact a3
  · rw [f 12 (by omega), e0]; exact a4
  · rw [f 12 (by omega), e0]; exact a5
  · rw [f 12 (by omega), e0]; exact a6
  · rw [f 22 (by omega), e0]; exact rm.1
  · rw [n2] at hm
    obtain ⟨b1, b2, b3, b4⟩ := rm.2 m hm
    refine ⟨?_, ?_, ?_, ?_⟩
    · rw [f 23 (by omega), em 12 m (by omega) (by omega)]; exact b1
    · rw [f 24 (by omega), em 8 m (by omega) (by omega)]; exact b2
    · rw [f 25 (by omega), em 9 m (by omega) (by omega)]; exact b3
    · rw [f 26 (by omega), em 10 m (by omega) (by omega)]; exact b4
  · rw [f 12 (by omega), e0]; exact r5
theorem RC.ts {h u : Mem} {g : Gs} {t : Nat} {a b c : Int} (r : RC h 12 g) (rt : RT u 13 (tset g t a b c)) (f : Fr 18 21 h u) : RC u 12 (tset g t a b c) :=
  r.th rt (f.wd (by omega) (by omega)) (fun i => tset_n (Or.inl (by omega))) (fun k m _ _ => tset_n (Or.inl (by omega)))
theorem UM.gl {h u : Mem} (f : FMh h u) : UM h u := UM.fm f
theorem FMh.st {h h' : Mem} {k : Nat} {v : Int} (a : FMh h h') (hk : k < 80 ∧ k ≠ 9) : FMh h (mset h' 162 k v) := fun i j q => by
  have : mset h' 162 k v i j = h' i j := by unfold mset; rw [if_neg (by omega)]
  rw [this]
  exact a i j q
theorem RXp.ts {h u : Mem} {g : Gs} {t : Nat} {a b : Int} (ht : t < gn g) (hn : gn g ≤ 8) (r : RX h g) (d : a = 1 → u 162 (12 + 7 * t + 4) = b) (e3 : u 162 (12 + 7 * t + 3) = a) (e5 : u 162 (12 + 7 * t + 5) = 0) (e : ∀ k, k ≠ 12 + 7 * t + 3 → k ≠ 12 + 7 * t + 4 → k ≠ 12 + 7 * t + 5 → k < 80 → u 162 k = h 162 k) (hm : gm g ≤ 4) : RX u (tset g t a b 0) := by
  refine ⟨fun i hi h5 => ?_, fun t' k ht' hk hv => ?_, fun m k hm' hk => ?_⟩
  · rw [e i (by omega) (by omega) (by omega) (by omega), tset_n (Or.inl (by omega))]; exact r.1 i hi h5
  · rw [gn_tset] at ht'
    by_cases c : t' = t
    · subst c
      by_cases c3 : k = 3
      · subst c3; rw [e3, tset_4]
      by_cases c4 : k = 4
      · subst c4
        have this : tset g t' a b 0 4 t' = 1 := hv rfl
        rw [tset_4] at this
        rw [d this, tset_5]
      by_cases c5 : k = 5
      · subst c5; rw [e5, tset_6]
      rw [e _ (by omega) (by omega) (by omega) (by omega), tset_n (Or.inl (by omega))]
      exact r.2.1 t' k ht' hk (fun q => absurd q c4)
    · rw [e _ (by omega) (by omega) (by omega) (by omega), tset_n (Or.inr c)]
      refine r.2.1 t' k ht' hk (fun q => ?_)
      have this : tset g t a b 0 4 t' = 1 := hv q
      rw [tset_n (Or.inr c)] at this
      exact this
  · rw [gm_tset] at hm'
    rw [e _ (by omega) (by omega) (by omega) (by omega), tset_n (Or.inl (by omega))]
    exact r.2.2 m k hm' hk
theorem q_isFree {h : Mem} {g : Gs} {V : Nat → Prop} {t : Nat} {x : Int} {Q : Int → Mem → Prop} (hR : RXp h g V) (hx : x = (t : Int)) (ht : t < gn g) (hn : gn g ≤ 8) (h1 : (g 4 t = 0 ∨ g 4 t = 3) → Q 1 h) (h2 : ¬ (g 4 t = 0 ∨ g 4 t = 3) → Q 0 h) : F_X12_isFree h x Q := by
  have e : h 162 (12 + 7 * t + 3) = g 4 t := hR.2.1 t 3 ht (by omega) (fun q => absurd q (by omega))
  unfold F_X12_isFree
  refine q_thingOf (k := 3) hx rfl (by omega) (by omega) ?_
  rw [e]
  refine ⟨fun c => h1 (Or.inl c), fun c => q_thingOf (k := 3) hx rfl (by omega) (by omega) ?_⟩
  rw [e]
  exact ⟨fun c2 => h2 (by omega), fun c2 => h1 (Or.inr c2)⟩
theorem s_isFree {h : Mem} {g : Gs} {o t : Nat} {x : Int} {Q : Int → Mem → Prop} (hR : RT h o g) (hx : x = (t : Int)) (ht : t < gn g) (hn : gn g ≤ 8) (h1 : (g 4 t = 0 ∨ g 4 t = 3) → Q 1 h) (h2 : ¬ (g 4 t = 0 ∨ g 4 t = 3) → Q 0 h) : F_X9_isFree h o x Q := by
  subst hx
  have e : h (o + 5) t = g 4 t := hR.at ht (k := 4) (by omega)
  unfold F_X9_isFree
  rw [Int.toNat_natCast, e]
  exact ⟨⟨by omega, by omega⟩, fun c => h1 (Or.inl c), fun c => ⟨fun c2 => h2 (by omega), fun c2 => h1 (Or.inr c2)⟩⟩
theorem s_isLying {h : Mem} {g : Gs} {o t : Nat} {x : Int} {Q : Int → Mem → Prop} (hR : RT h o g) (hx : x = (t : Int)) (ht : t < gn g) (hn : gn g ≤ 8) (h1 : g 4 t = 1 → Q 1 h) (h2 : g 4 t ≠ 1 → Q 0 h) : F_X9_isLying h o x Q := by
  subst hx
  have e : h (o + 5) t = g 4 t := hR.at ht (k := 4) (by omega)
  unfold F_X9_isLying
  rw [Int.toNat_natCast, e]
  exact ⟨⟨by omega, by omega⟩, h2, h1⟩
theorem k_toss {h : Mem} {g : Gs} {a b : Int} (s : G2 h g) {Q : Int → Int → Mem → Prop} (hQ : ∀ r u1 u g', G2 u g' → Mo g g' → UX h u1 → UM u1 u → Q r r u) : F_X11_toss h a b (fun r1 h1 => F_X12_toss h1 a b (fun r2 h2 => Q r1 r2 h2)) := by
  have w := s.1
  obtain ⟨n8, nc⟩ := gn8 w
  by_cases c : (0 ≤ a ∧ a < g 0 0) ∧ 0 ≤ b ∧ b < g 0 2
  · obtain ⟨t, rfl⟩ : ∃ k : Nat, a = k := ⟨a.toNat, by omega⟩
    have ht : t < gn g := by omega
    by_cases d : g 4 t = 0 ∨ g 4 t = 3
    · have w' : WF 9999 (tset g t 1 b 0) := w.th (Or.inr (Or.inl rfl)) c.2 (fun q => absurd rfl q)
      have mo : Mo g (tset g t 1 b 0) := Mo.eq (fun i _ => tset_n (by omega))
      refine Kp.mk (FX := F_X11_toss h t b) (FM := fun h1 => F_X12_toss h1 t b) (g' := tset g t 1 b 0) (st := 0) (r := 1) s w' (fun Q hQ => ?_) (fun h1 rx rn Q hQ => ?_) hQ
      · unfold F_X11_toss
        exact x_isThing s.2.1 (fun q => absurd c.1 q) (fun _ => ⟨fun q => absurd q (by decide), fun _ => x_isCell s.2.1 (fun q => absurd c.2 q) (fun _ => ⟨fun _ => s_isFree (o := 13) s.2.1.1.2.1 rfl ht n8 (fun _ => ⟨fun _ => s_place (o := 13) rfl (by omega) s.2.1.1.2.1 (fun u ru fu => x_yes (UX.fr fu (by omega)) (s.2.1.ts ru fu) hQ), fun q => absurd q (by decide)⟩) (fun q => absurd d q), fun q => absurd q (by decide)⟩)⟩)
      · unfold F_X12_toss F_X12_tosses
        refine m_isThing rx (fun q => absurd c.1 q) (fun _ => ⟨fun q => absurd q (by decide), fun _ => m_isCell rx (fun q => absurd c.2 q) (fun _ => ⟨fun _ => q_isFree rx.1 rfl ht n8 (fun _ => ⟨fun _ => ?_, fun q => absurd q (by decide)⟩) (fun q => absurd d q), fun q => absurd q (by decide)⟩)⟩)
        refine q_thingRow rfl (by omega) ⟨⟨by omega, by omega⟩, ⟨by omega, by omega⟩, fun h2 e2 => q_thingRow rfl (by omega) ⟨⟨by omega, by omega⟩, ⟨by omega, by omega⟩, fun h3 e3 => q_thingRow rfl (by omega) ⟨⟨by omega, by omega⟩, ⟨by omega, by omega⟩, fun h4 e4 => ⟨fun q => absurd q (by decide), fun _ => ?_⟩⟩⟩⟩
        have z3 : (12 + 7 * (t : Int) + 3).toNat = 12 + 7 * t + 3 := by omega
        have z4 : (12 + 7 * (t : Int) + 4).toNat = 12 + 7 * t + 4 := by omega
        have z5 : (12 + 7 * (t : Int) + 5).toNat = 12 + 7 * t + 5 := by omega
        rw [z3] at e2
        rw [z4] at e3
        rw [z5] at e4
        have fm : FMh h1 h4 := by rw [e4, e3, e2]; exact ((FMh.rf.st (by omega)).st (by omega)).st (by omega)
        refine m_yes (UM.fm fm) w'.nm ⟨RXp.ts ht n8 rx.1 (fun _ => ?_) ?_ ?_ (fun k k3 k4 k5 _ => ?_) w.nm.2, ?_⟩ ((rn.fr (fun k => fm 163 k (by omega))).cg gn_tset gm_tset (fun t => tset_n (Or.inl (by omega))) (fun t => tset_n (Or.inl (by omega)))) hQ
        · rw [e4, mset_k (by omega), e3, mset_at]
        · rw [e4, mset_k (by omega), e3, mset_k (by omega), e2, mset_at]
        · rw [e4, mset_at]
        · rw [e4, mset_k k5, e3, mset_k k4, e2, mset_k k3]
        · rw [e4, mset_k (by omega), e3, mset_k (by omega), e2, mset_k (by omega), tset_n (Or.inl (by omega))]
          exact rx.2
    · refine Kp.mk (FX := F_X11_toss h t b) (FM := fun h1 => F_X12_toss h1 t b) (g' := g) (st := 7) (r := 0) s w (fun Q hQ => ?_) (fun h1 rx rn Q hQ => ?_) hQ
      · unfold F_X11_toss
        exact x_isThing s.2.1 (fun q => absurd c.1 q) (fun _ => ⟨fun q => absurd q (by decide), fun _ => x_isCell s.2.1 (fun q => absurd c.2 q) (fun _ => ⟨fun _ => s_isFree (o := 13) s.2.1.1.2.1 rfl ht n8 (fun q => absurd q d) (fun _ => ⟨fun q => absurd rfl q, fun _ => x_no UX.rf s.2.1 hQ⟩), fun q => absurd q (by decide)⟩)⟩)
      · unfold F_X12_toss F_X12_tosses
        exact m_isThing rx (fun q => absurd c.1 q) (fun _ => ⟨fun q => absurd q (by decide), fun _ => m_isCell rx (fun q => absurd c.2 q) (fun _ => ⟨fun _ => q_isFree rx.1 rfl ht n8 (fun q => absurd q d) (fun _ => ⟨fun q => absurd rfl q, fun _ => ⟨fun _ => m_no (by decide) UM.rf w.nm rx rn hQ, fun q => absurd rfl q⟩⟩), fun q => absurd q (by decide)⟩)⟩)
  · refine Kp.mk (FX := F_X11_toss h a b) (FM := fun h1 => F_X12_toss h1 a b) (g' := g) (st := 1) (r := 0) s w (fun Q hQ => ?_) (fun h1 rx rn Q hQ => ?_) hQ
    · exact x_isThing s.2.1 (fun _ => ⟨fun _ => x_no UX.rf s.2.1 hQ, fun q => absurd rfl q⟩) (fun q => ⟨fun q => absurd q (by decide), fun _ => x_isCell s.2.1 (fun _ => ⟨fun q => absurd rfl q, fun _ => x_no UX.rf s.2.1 hQ⟩) (fun q2 => absurd ⟨q, q2⟩ c)⟩)
    · exact m_isThing rx (fun _ => ⟨fun _ => m_no (by decide) UM.rf w.nm rx rn hQ, fun q => absurd rfl q⟩) (fun q => ⟨fun q => absurd q (by decide), fun _ => m_isCell rx (fun _ => ⟨fun q => absurd rfl q, fun _ => m_no (by decide) UM.rf w.nm rx rn hQ⟩) (fun q2 => absurd ⟨q, q2⟩ c)⟩)
