/-! aim -/
theorem RC.tso {h u : Mem} {o : Nat} {g : Gs} {t : Nat} {a b c : Int} (r : RC h o g) (rt : RT u (o + 1) (tset g t a b c)) (f : Fr (o + 6) (o + 9) h u) : RC u o (tset g t a b c) := by
  obtain ⟨⟨⟨a1, a2, a3, a4, a5, a6⟩, rT, rm⟩, r5⟩ := r
  have e0 : ∀ i, tset g t a b c 0 i = g 0 i := fun i => tset_n (by omega)
  refine ⟨⟨⟨?_, ?_, ?_, ?_, ?_, ?_⟩, rt, ?_⟩, ?_⟩
  · rw [f o (by omega), e0]; exact a1
  · rw [f o (by omega), e0]; exact a2
  · rw [f o (by omega), e0]; exact a3
  · rw [f o (by omega), e0]; exact a4
  · rw [f o (by omega), e0]; exact a5
  · rw [f o (by omega), e0]; exact a6
  · exact (rm.fr f (by omega)).cg (e0 1) (fun k m _ _ => tset_n (by omega))
  · rw [f o (by omega), e0]; exact r5
theorem s_try {h : Mem} {g g' : Gs} {t : Nat} {x : Int} {i : Nat} {Q : Mem → Prop} (hx : x = (t : Int)) (ht : t < gn g) (nm : gn g ≤ 8 ∧ gm g ≤ 4) (s : SameF g g') (ru : RC h 146 g') (r12 : RC h 12 g) (hQ : ∀ u, RC u 146 (tset g t 1 (i : Int) 0) → RC u 12 g → Fr 146 161 h u → Q u) : F_X4_goBackTo h 146 12 (fun h3 => F_X9_throwInto h3 (146 + 1) x (i : Int) Q) :=
  s_goBack s ru r12 nm (fun v rv fv => s_place (o := 147) hx (by omega) rv.1.2.1 (fun u ru fu => hQ u (rv.tso ru fu) ((r12.fr fv (by omega)).fr fu (by omega)) (fv.tr (fu.wd (by omega) (by omega)))))
def aimF (g : Gs) (t d : Nat) : Nat → Nat → Int
  | 0, _ => -1
  | m + 1, i => if tTurn (d + 1) (tset g t 1 (i : Int) 0) = (d : Int) then (i : Int) else aimF g t d m (i + 1)
theorem s_cellToTurn {h : Mem} {g : Gs} {t d : Nat} {x y : Int} {Q : Int → Mem → Prop} (hx : x = (t : Int)) (hy : y = (d : Int)) (hd : d ≤ 60) (w : WF 9999 g) (ht : t < gn g) (r12 : RC h 12 g) (hQ : ∀ u, RC u 12 g → UX h u → Q (aimF g t d (g 0 2).toNat 0) u) : F_X0_cellToTurnIn h 12 146 x y Q := by
  subst hx hy
  have w1 := w.1
  unfold WFs at w1
  unfold F_X0_cellToTurnIn
  generalize hRe : aimF g t d (g 0 2).toNat 0 = R at hQ
  have key : ∀ (m i : Nat) (z : Int) (u : Mem) (g' : Gs), z = (i : Int) → (i : Int) + m = g 0 2 → RC u 146 g' → SameF g g' → RC u 12 g → UX h u → aimF g t d m i = R → L_X0_cellToTurnIn_8 u 12 146 (t : Int) (d : Int) z Q := by
    intro m
    induction m with
    | zero =>
      intro i z u g' hz hi ru sf r f hp
      subst hz
      refine l_X0_cellToTurnIn_8 rfl rfl ?_
      unfold B_X0_cellToTurnIn_8
      have e : u 12 0 = g 0 2 := r.1.1.1
      have q := hQ u r f
      rw [← hp] at q
      exact ⟨fun _ => q, fun c => absurd (by omega) c⟩
    | succ m ih =>
      intro i z u g' hz hi ru sf r f hp
      subst hz
      refine l_X0_cellToTurnIn_8 rfl rfl ?_
      unfold B_X0_cellToTurnIn_8
      have e : u 12 0 = g 0 2 := r.1.1.1
      have wt : WF 9999 (tset g t 1 (i : Int) 0) := w.th (Or.inr (Or.inl rfl)) ⟨by omega, by omega⟩ (fun q => absurd rfl q)
      refine ⟨fun c => absurd c (by omega), fun _ => s_try rfl ht w.nm sf ru r (fun v rv r2 fv => ⟨⟨by omega, by omega⟩, s_tillTurn2 (o := 146) (k := d + 1) (by omega) rfl rv wt (by omega) (fun v2 g2 rv2 sf2 fv2 => ⟨fun c => ⟨⟨by omega, by omega⟩, ?_⟩, fun c => ?_⟩)⟩)⟩
      · unfold aimF at hp
        rw [if_neg c] at hp
        exact ih (i + 1) _ v2 g2 (by omega) (by omega) rv2 ((SameF.rf.ts).tr sf2) (r2.fr fv2 (by omega)) ((f.tr (UX.fr fv (by omega))).tr (UX.fr fv2 (by omega))) hp
      · unfold aimF at hp
        rw [if_pos c] at hp
        have q := hQ v2 (r2.fr fv2 (by omega)) ((f.tr (UX.fr fv (by omega))).tr (UX.fr fv2 (by omega)))
        rw [← hp] at q
        exact q
  exact x_try w r12 (fun u ru r fu => key (g 0 2).toNat 0 0 u g rfl (by omega) ru SameF.rf r fu hRe)
theorem k_aim {h : Mem} {g : Gs} {a b : Int} (s : G2 h g) {Q : Int → Int → Mem → Prop} (hQ : ∀ r u1 u g', G2 u g' → Mo g g' → UX h u1 → UM u1 u → Q r r u) : F_X11_aim h a b (fun r1 h1 => F_X12_aim h1 a b (fun r2 h2 => Q r1 r2 h2)) := by
  have w := s.1
  have w1 := w.1
  unfold WFs at w1
  have rT := s.2.1.1.2.1
  obtain ⟨n8, nc⟩ := gn8 w
  by_cases c : (0 ≤ a ∧ a < g 0 0) ∧ 0 ≤ b ∧ b ≤ 60
  · obtain ⟨t, rfl⟩ : ∃ k : Nat, a = k := ⟨a.toNat, by omega⟩
    obtain ⟨d, rfl⟩ : ∃ k : Nat, b = k := ⟨b.toNat, by omega⟩
    have ht : t < gn g := by omega
    by_cases fr : g 4 t = 0 ∨ g 4 t = 3
    · refine Kp.mk (FX := F_X11_aim h t d) (FM := fun h1 => F_X12_aim h1 t d) (g' := g) (st := if aimF g t d (g 0 2).toNat 0 = -1 then 6 else 0) (r := aimF g t d (g 0 2).toNat 0) s w (fun Q hQ => ?_) (fun h1 rx rn Q hQ => ?_) hQ
      · unfold F_X11_aim
        exact x_isThing s.2.1 (fun q => absurd c.1 q) (fun _ => ⟨fun q => absurd q (by decide), fun _ => x_outside (fun q => absurd c.2 q) (fun _ => ⟨fun _ => s_isFree (o := 13) rT rfl ht n8 (fun _ => ⟨fun _ => s_cellToTurn rfl rfl (by omega) w ht s.2.1 (fun u ru fu => x_orNone fu ru hQ), fun q => absurd q (by decide)⟩) (fun q => absurd fr q), fun q => absurd rfl q⟩)⟩)
      · unfold F_X12_aim
        refine m_isThing rx (fun q => absurd c.1 q) (fun _ => ⟨fun q => absurd q (by decide), fun _ => m_isFrom (fun q => absurd c.2 q) (fun _ => ⟨fun _ => q_isFree rx.1 rfl ht n8 (fun _ => ⟨fun _ => m_keep2 w rx (fun u ru ku => ?_), fun q => absurd q (by decide)⟩) (fun q => absurd fr q), fun q => absurd q (by decide)⟩)⟩)
        have fin : ∀ z, RXh z g → KP h1 z → F_X12_orNone z (aimF g t d (g 0 2).toNat 0) Q := fun z rz kz => m_orNone kz.2.2 w.nm rz (rn.fr kz.2.1) hQ
        generalize hRe : aimF g t d (g 0 2).toNat 0 = R at fin
        have key : ∀ (m i : Nat) (z : Int) (v : Mem), z = (i : Int) → (i : Int) + m = g 0 2 → RXh v g → KP h1 v → aimF g t d m i = R → L_X12_aim_53 v (t : Int) (d : Int) (-1) z Q := by
          intro m
          induction m with
          | zero =>
            intro i z v hz hi r kv hp
            subst hz
            refine l_X12_aim_53 ?_
            unfold B_X12_aim_53
            have e : v 162 2 = g 0 2 := r.1.1 2 (by omega) (by omega)
            have q := fin v r kv
            rw [← hp] at q
            exact ⟨fun _ => q, fun c => absurd (by omega) c⟩
          | succ m ih =>
            intro i z v hz hi r kv hp
            subst hz
            refine l_X12_aim_53 ?_
            unfold B_X12_aim_53
            have e : v 162 2 = g 0 2 := r.1.1 2 (by omega) (by omega)
            have wt : WF 9999 (tset g t 1 (i : Int) 0) := w.th (Or.inr (Or.inl rfl)) ⟨by omega, by omega⟩ (fun q => absurd rfl q)
            refine ⟨fun c => absurd c (by omega), fun _ => ⟨fun q => absurd rfl q, fun _ => q_tosses r rfl ht n8 w.nm.2 fr (fun v2 r2 f2 => ⟨⟨by omega, by omega⟩, q_nextTurn (k := d + 1) (by omega) r2 wt (by omega) (fun v3 f3 => ⟨fun c => m_rest w rx ((kv.fm f2).fm f3) (fun v4 r4 k4 _ => ⟨⟨by omega, by omega⟩, ?_⟩), fun c => m_rest w rx ((kv.fm f2).fm f3) (fun v4 r4 k4 _ => ⟨⟨by omega, by omega⟩, ?_⟩)⟩)⟩)⟩⟩
            · unfold aimF at hp
              rw [if_neg c] at hp
              exact ih (i + 1) _ v4 (by omega) (by omega) r4 k4 hp
            · unfold aimF at hp
              rw [if_pos c] at hp
              refine l_X12_aim_53 ?_
              unfold B_X12_aim_53
              have q := fin v4 r4 k4
              rw [← hp] at q
              exact ⟨fun _ => q, fun _ => ⟨fun _ => q, fun z => absurd z (by omega)⟩⟩
        exact key (g 0 2).toNat 0 0 u rfl (by omega) ru ku hRe
    · refine Kp.mk (FX := F_X11_aim h t d) (FM := fun h1 => F_X12_aim h1 t d) (g' := g) (st := 7) (r := -1) s w (fun Q hQ => ?_) (fun h1 rx rn Q hQ => ?_) hQ
      · unfold F_X11_aim
        exact x_isThing s.2.1 (fun q => absurd c.1 q) (fun _ => ⟨fun q => absurd q (by decide), fun _ => x_outside (fun q => absurd c.2 q) (fun _ => ⟨fun _ => s_isFree (o := 13) rT rfl ht n8 (fun q => absurd q fr) (fun _ => ⟨fun q => absurd rfl q, fun _ => x_refused UX.rf s.2.1 hQ⟩), fun q => absurd rfl q⟩)⟩)
      · unfold F_X12_aim
        exact m_isThing rx (fun q => absurd c.1 q) (fun _ => ⟨fun q => absurd q (by decide), fun _ => m_isFrom (fun q => absurd c.2 q) (fun _ => ⟨fun _ => q_isFree rx.1 rfl ht n8 (fun q => absurd q fr) (fun _ => ⟨fun q => absurd rfl q, fun _ => m_refuse UM.rf w.nm rx rn hQ⟩), fun q => absurd q (by decide)⟩)⟩)
  · refine Kp.mk (FX := F_X11_aim h a b) (FM := fun h1 => F_X12_aim h1 a b) (g' := g) (st := 1) (r := -1) s w (fun Q hQ => ?_) (fun h1 rx rn Q hQ => ?_) hQ
    · have no : F_X11_refused h 1 Q := x_refused UX.rf s.2.1 hQ
      exact x_isThing s.2.1 (fun q => ⟨fun _ => no, fun q => absurd rfl q⟩) (fun d1 => ⟨fun q => absurd q (by decide), fun _ => x_outside (fun q => ⟨fun q => absurd q (by decide), fun _ => no⟩) (fun d2 => absurd ⟨d1, d2⟩ c)⟩)
    · have no : F_X12_refuse h1 1 Q := m_refuse UM.rf w.nm rx rn hQ
      exact m_isThing rx (fun q => ⟨fun _ => no, fun q => absurd rfl q⟩) (fun d1 => ⟨fun q => absurd q (by decide), fun _ => m_isFrom (fun q => ⟨fun q => absurd rfl q, fun _ => no⟩) (fun d2 => absurd ⟨d1, d2⟩ c)⟩)
