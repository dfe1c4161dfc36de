/-! drive, driveCell: the two calls -/
def dvOk (g : Gs) (a b c d : Int) : Prop := (0 ≤ a ∧ a < g 0 1) ∧ (0 ≤ b ∧ b < g 0 0) ∧ (0 ≤ c ∧ c < g 0 0) ∧ b ≠ c ∧ (0 ≤ d ∧ d ≤ 48)
def frG (g : Gs) (t : Nat) : Prop := g 4 t = 0 ∨ g 4 t = 3
def dvR (g : Gs) (a b c d : Int) : Int × Int × Int := dvO g b.toNat c.toNat a.toNat d.toNat (g 0 2).toNat 0 (-1, -1, -1)
theorem s_whyDriven {h : Mem} {g : Gs} {a b c d : Int} {P : Int → Mem → Prop} (w : WF 9999 g) (r12 : RC h 12 g) (h1 : ¬ dvOk g a b c d → P 1 h) (h7 : dvOk g a b c d → ¬ (frG g b.toNat ∧ frG g c.toNat) → P 7 h) (h0 : dvOk g a b c d → (frG g b.toNat ∧ frG g c.toNat) → ∀ v, RC v 12 g → UX h v → smD (v 42 0) (v 42 1) (v 42 2) (dvR g a b c d) → P 0 v) : F_X11_whyNotDriven h a b c d P := by
  have rT := r12.1.2.1
  obtain ⟨n8, nc⟩ := gn8 w
  obtain ⟨m4, mc⟩ := gm4 w
  unfold F_X11_whyNotDriven
  refine x_isMill r12 (fun q => ⟨fun _ => h1 (fun z => q z.1), fun z => absurd rfl z⟩) (fun q1 => ⟨fun z => absurd z (by decide), fun _ => x_isThing r12 (fun q => ⟨fun _ => h1 (fun z => q z.2.1), fun z => absurd rfl z⟩) (fun q2 => ⟨fun z => absurd z (by decide), fun _ => x_isThing r12 (fun q => ⟨fun _ => h1 (fun z => q z.2.2.1), fun z => absurd rfl z⟩) (fun q3 => ⟨fun z => absurd z (by decide), fun _ => ⟨fun q => h1 (fun z => z.2.2.2.1 q), fun q4 => x_outside (fun q => ⟨fun z => absurd z (by decide), fun _ => h1 (fun z => q z.2.2.2.2)⟩) (fun q5 => ⟨fun _ => ?_, fun z => absurd rfl z⟩)⟩⟩)⟩)⟩)
  have ok : dvOk g a b c d := ⟨q1, q2, q3, q4, q5⟩
  obtain ⟨m, rfl⟩ : ∃ k : Nat, a = k := ⟨a.toNat, by omega⟩
  obtain ⟨t, rfl⟩ : ∃ k : Nat, b = k := ⟨b.toNat, by omega⟩
  obtain ⟨u, rfl⟩ : ∃ k : Nat, c = k := ⟨c.toNat, by omega⟩
  obtain ⟨n, rfl⟩ : ∃ k : Nat, d = k := ⟨d.toNat, by omega⟩
  have h7' := h7 ok
  have h0' := h0 ok
  unfold dvR at h0'
  rw [Int.toNat_natCast, Int.toNat_natCast] at h7'
  rw [Int.toNat_natCast, Int.toNat_natCast, Int.toNat_natCast, Int.toNat_natCast] at h0'
  refine s_isFree (o := 13) rT rfl (by omega) n8 (fun f1 => ⟨fun z => absurd z (by decide), fun _ => s_isFree (o := 13) rT rfl (by omega) n8 (fun f2 => ⟨fun _ => ?_, fun z => absurd z (by decide)⟩) (fun f2 => ⟨fun z => absurd rfl z, fun _ => h7' (fun z => f2 z.2)⟩)⟩) (fun f1 => ⟨fun _ => h7' (fun z => f1 z.1), fun z => absurd rfl z⟩)
  exact s_findDrive w (by omega) (by omega) (by omega) (by omega) r12 (fun v rv fv sm => h0' ⟨f1, f2⟩ v rv fv sm)
theorem q_wrongDrive {h : Mem} {g : Gs} {a b c d : Int} {P : Int → Mem → Prop} (w : WF 9999 g) (rx : RXh h g) (h1 : ¬ dvOk g a b c d → P 1 h) (h7 : dvOk g a b c d → ¬ (frG g b.toNat ∧ frG g c.toNat) → P 7 h) (h0 : dvOk g a b c d → (frG g b.toNat ∧ frG g c.toNat) → P 0 h) : F_X12_wrongDrive h a b c d P := by
  obtain ⟨n8, nc⟩ := gn8 w
  obtain ⟨m4, mc⟩ := gm4 w
  unfold F_X12_wrongDrive
  refine m_isMill rx (fun q => ⟨fun _ => h1 (fun z => q z.1), fun z => absurd rfl z⟩) (fun q1 => ⟨fun z => absurd z (by decide), fun _ => m_isThing rx (fun q => ⟨fun _ => h1 (fun z => q z.2.1), fun z => absurd rfl z⟩) (fun q2 => ⟨fun z => absurd z (by decide), fun _ => m_isThing rx (fun q => ⟨fun _ => h1 (fun z => q z.2.2.1), fun z => absurd rfl z⟩) (fun q3 => ⟨fun z => absurd z (by decide), fun _ => ⟨fun q => h1 (fun z => z.2.2.2.1 q), fun q4 => m_isFrom (fun q => ⟨fun z => absurd rfl z, fun _ => h1 (fun z => q z.2.2.2.2)⟩) (fun q5 => ⟨fun _ => ?_, fun z => absurd z (by decide)⟩)⟩⟩)⟩)⟩)
  have ok : dvOk g a b c d := ⟨q1, q2, q3, q4, q5⟩
  obtain ⟨t, rfl⟩ : ∃ k : Nat, b = k := ⟨b.toNat, by omega⟩
  obtain ⟨u, rfl⟩ : ∃ k : Nat, c = k := ⟨c.toNat, by omega⟩
  have h7' := h7 ok
  have h0' := h0 ok
  rw [Int.toNat_natCast, Int.toNat_natCast] at h7' h0'
  exact q_isFree rx.1 rfl (by omega) n8 (fun f1 => ⟨fun z => absurd z (by decide), fun _ => q_isFree rx.1 rfl (by omega) n8 (fun f2 => ⟨fun z => absurd z (by decide), fun _ => h0' ⟨f1, f2⟩⟩) (fun f2 => ⟨fun _ => h7' (fun z => f2 z.2), fun z => absurd rfl z⟩)⟩) (fun f1 => ⟨fun _ => h7' (fun z => f1 z.1), fun z => absurd rfl z⟩)
theorem k_driveG {h : Mem} {g : Gs} {a b c d : Int} (s : G2 h g) {FX : (Int → Mem → Prop) → Prop} {FM : Mem → (Int → Mem → Prop) → Prop} (pick : Int → Int → Int → Int)
    (X : ∀ Q : Int → Mem → Prop, F_X11_whyNotDriven h a b c d (fun r u => (¬ (r = 0) → F_X11_refused u r Q) ∧ (r = 0 → F_X11_given u (pick (u 42 0) (u 42 1) (u 42 2)) Q)) → FX Q)
    (M : ∀ h1 (Q : Int → Mem → Prop), F_X12_wrongDrive h1 a b c d (fun r u => (r ≤ 0 → F_X12_laysDrive u a b c d (fun h3 => F_X12_gives h3 (pick (h3 171 2) (h3 171 0) (h3 171 1)) Q)) ∧ (¬ (r ≤ 0) → F_X12_refuse u r Q)) → FM h1 Q)
    {Q : Int → Int → Mem → Prop} (hQ : ∀ r u1 u g', G2 u g' → Mo g g' → UX h u1 → UM u1 u → Q r r u) : FX (fun r1 h1 => FM h1 (fun r2 h2 => Q r1 r2 h2)) := by
  have w := s.1
  have w1 := w.1
  unfold WFs at w1
  obtain ⟨n8, nc⟩ := gn8 w
  obtain ⟨m4, mc⟩ := gm4 w
  by_cases ok : dvOk g a b c d
  · by_cases fr : frG g b.toNat ∧ frG g c.toNat
    · have R0 : (dvR g a b c d).1 ≠ -1 := by
        have := dvR_0 (t := b.toNat) (u := c.toNat) (m := a.toNat) (n := d.toNat) w
        unfold dvR
        omega
      refine Kp.mk (FX := FX) (FM := FM) (g' := g) (st := 0) (r := pick (dvR g a b c d).1 (dvR g a b c d).2.1 (dvR g a b c d).2.2) s w (fun Q hQ => X Q ?_) (fun h1 rx rn Q hQ => M h1 Q ?_) hQ
      · refine s_whyDriven w s.2.1 (fun z => absurd ok z) (fun _ z => absurd fr z) (fun _ _ v rv fv sm => ⟨fun z => absurd rfl z, fun _ => ?_⟩)
        rw [sm.1, (sm.2 R0).1, (sm.2 R0).2]
        exact x_given fv rv hQ
      · refine q_wrongDrive w rx (fun z => absurd ok z) (fun _ z => absurd fr z) (fun _ _ => ⟨fun _ => ?_, fun z => absurd (by omega) z⟩)
        unfold dvOk at ok
        have go : F_X12_laysDrive h1 ((a.toNat : Nat) : Int) ((b.toNat : Nat) : Int) ((c.toNat : Nat) : Int) ((d.toNat : Nat) : Int) (fun h3 => F_X12_gives h3 (pick (h3 171 2) (h3 171 0) (h3 171 1)) Q) :=
          q_laysDrive w (by omega) (by omega) (by omega) (by omega) (by omega) fr.1 fr.2 rx (fun v rv kv sm => by
            have sm2 : smD (v 171 2) (v 171 0) (v 171 1) (dvR g a b c d) := sm
            rw [sm2.1, (sm2.2 R0).1, (sm2.2 R0).2]
            exact m_gives kv.2.2 w.nm rv (rn.fr kv.2.1) hQ)
        rw [Int.toNat_of_nonneg (by omega), Int.toNat_of_nonneg (by omega), Int.toNat_of_nonneg (by omega), Int.toNat_of_nonneg (by omega)] at go
        exact go
    · refine Kp.mk (FX := FX) (FM := FM) (g' := g) (st := 7) (r := -1) s w (fun Q hQ => X Q ?_) (fun h1 rx rn Q hQ => M h1 Q ?_) hQ
      · exact s_whyDriven w s.2.1 (fun z => absurd ok z) (fun _ _ => ⟨fun _ => x_refused UX.rf s.2.1 hQ, fun z => absurd z (by decide)⟩) (fun _ z => absurd z fr)
      · exact q_wrongDrive w rx (fun z => absurd ok z) (fun _ _ => ⟨fun z => absurd z (by decide), fun _ => m_refuse UM.rf w.nm rx rn hQ⟩) (fun _ z => absurd z fr)
  · refine Kp.mk (FX := FX) (FM := FM) (g' := g) (st := 1) (r := -1) s w (fun Q hQ => X Q ?_) (fun h1 rx rn Q hQ => M h1 Q ?_) hQ
    · exact s_whyDriven w s.2.1 (fun _ => ⟨fun _ => x_refused UX.rf s.2.1 hQ, fun z => absurd z (by decide)⟩) (fun z => absurd z ok) (fun z => absurd z ok)
    · exact q_wrongDrive w rx (fun _ => ⟨fun z => absurd z (by decide), fun _ => m_refuse UM.rf w.nm rx rn hQ⟩) (fun z => absurd z ok) (fun z => absurd z ok)
theorem k_drive {h : Mem} {g : Gs} {a b c d : Int} (s : G2 h g) {Q : Int → Int → Mem → Prop} (hQ : ∀ r u1 u g', G2 u g' → Mo g g' → UX h u1 → UM u1 u → Q r r u) : F_X11_drive h a b c d (fun r1 h1 => F_X12_drive h1 a b c d (fun r2 h2 => Q r1 r2 h2)) :=
  k_driveG (FX := F_X11_drive h a b c d) (FM := fun h1 => F_X12_drive h1 a b c d) s (fun p _ _ => p) (fun _ z => z) (fun _ _ z => z) hQ
theorem k_no1 {h : Mem} {g : Gs} (s : G2 h g) {FX : (Int → Mem → Prop) → Prop} {FM : Mem → (Int → Mem → Prop) → Prop} (X : ∀ Q : Int → Mem → Prop, F_X11_refused h 1 Q → FX Q) (M : ∀ h1 (Q : Int → Mem → Prop), F_X12_refuse h1 1 Q → FM h1 Q)
    {Q : Int → Int → Mem → Prop} (hQ : ∀ r u1 u g', G2 u g' → Mo g g' → UX h u1 → UM u1 u → Q r r u) : FX (fun r1 h1 => FM h1 (fun r2 h2 => Q r1 r2 h2)) :=
  Kp.mk (FX := FX) (FM := FM) (g' := g) (st := 1) (r := -1) s s.1 (fun Q hQ => X Q (x_refused UX.rf s.2.1 hQ)) (fun h1 rx rn Q hQ => M h1 Q (m_refuse UM.rf s.1.nm rx rn hQ)) hQ
theorem k_driveCell {h : Mem} {g : Gs} {a b c d e : Int} (s : G2 h g) {Q : Int → Int → Mem → Prop} (hQ : ∀ r u1 u g', G2 u g' → Mo g g' → UX h u1 → UM u1 u → Q r r u) : F_X11_driveCell h a b c d e (fun r1 h1 => F_X12_driveCell h1 a b c d e (fun r2 h2 => Q r1 r2 h2)) := by
  by_cases ce : 0 ≤ e ∧ e ≤ 1
  · refine k_driveG (a := a) (b := b) (c := c) (d := d) (FX := F_X11_driveCell h a b c d e) (FM := fun h1 => F_X12_driveCell h1 a b c d e) s (fun _ p q => if e = 0 then p else q) (fun Q z => ?_) (fun h1 Q z => ?_) hQ
    · unfold F_X11_driveCell
      refine x_outside (fun q => absurd ce q) (fun _ => ⟨fun _ => ?_, fun q => absurd rfl q⟩)
      have e1 : (fun (r : Int) (u : Mem) => (r = 0 → ((¬ (e = 0) → F_X11_given u (u 42 2) (fun r6 h5 => Q r6 h5)) ∧ (e = 0 → F_X11_given u (u 42 1) (fun r8 h7 => Q r8 h7)))) ∧ (¬ (r = 0) → F_X11_refused u r (fun r10 h9 => Q r10 h9))) = (fun (r : Int) (u : Mem) => (¬ (r = 0) → F_X11_refused u r Q) ∧ (r = 0 → F_X11_given u (if e = 0 then u 42 1 else u 42 2) Q)) := by
        funext r u
        by_cases c0 : e = 0
        · rw [if_pos c0]
          exact propext ⟨fun y => ⟨y.2, fun k => (y.1 k).2 c0⟩, fun y => ⟨fun k => ⟨fun k2 => absurd c0 k2, fun _ => y.2 k⟩, y.1⟩⟩
        · rw [if_neg c0]
          exact propext ⟨fun y => ⟨y.2, fun k => (y.1 k).1 c0⟩, fun y => ⟨fun k => ⟨fun _ => y.2 k, fun k2 => absurd k2 c0⟩, y.1⟩⟩
      rw [e1]
      exact z
    · unfold F_X12_driveCell
      refine ⟨fun q => absurd ce.1 (by omega), fun _ => ⟨fun _ => ?_, fun q => absurd ce.2 q⟩⟩
      have e1 : (fun (r : Int) (u : Mem) => (r ≤ 0 → F_X12_laysDrive u a b c d (fun h3 => (0 ≤ e ∧ e < 3) ∧ F_X12_gives h3 (h3 171 e.toNat) (fun r8 h7 => Q r8 h7))) ∧ (¬ (r ≤ 0) → F_X12_refuse u r (fun r10 h9 => Q r10 h9))) = (fun (r : Int) (u : Mem) => (r ≤ 0 → F_X12_laysDrive u a b c d (fun h3 => F_X12_gives h3 (if e = 0 then h3 171 0 else h3 171 1) Q)) ∧ (¬ (r ≤ 0) → F_X12_refuse u r Q)) := by
        funext r u
        have e2 : (fun (h3 : Mem) => (0 ≤ e ∧ e < 3) ∧ F_X12_gives h3 (h3 171 e.toNat) (fun r8 h7 => Q r8 h7)) = (fun (h3 : Mem) => F_X12_gives h3 (if e = 0 then h3 171 0 else h3 171 1) Q) := by
          funext h3
          have e3 : h3 171 e.toNat = if e = 0 then h3 171 0 else h3 171 1 := by
            by_cases c0 : e = 0
            · subst c0; rw [if_pos rfl]; rfl
            · have c1 : e = 1 := by omega
              subst c1; rw [if_neg c0]; rfl
          rw [← e3]
          exact propext ⟨fun y => y.2, fun y => ⟨by omega, y⟩⟩
        rw [e2]
      rw [e1]
      exact z
  · refine k_no1 (FX := F_X11_driveCell h a b c d e) (FM := fun h1 => F_X12_driveCell h1 a b c d e) s (fun Q z => ?_) (fun h1 Q z => ?_) hQ
    · unfold F_X11_driveCell
      exact x_outside (fun _ => ⟨fun q => absurd q (by decide), fun _ => z⟩) (fun q => absurd q ce)
    · unfold F_X12_driveCell
      exact ⟨fun _ => z, fun q1 => ⟨fun q2 => absurd ⟨by omega, q2⟩ ce, fun _ => z⟩⟩
