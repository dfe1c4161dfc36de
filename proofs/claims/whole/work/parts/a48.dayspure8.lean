theorem wfd_of {g : Gs} {d : Dy} (n8 : (gn g : Int) = g 0 0) (n4 : (gm g : Int) = g 0 1) (p : DN d) (v : DV d) (w : DE0 g d) (z0 : d 0 0 = 1) (z3 : d 0 3 = 0) : WFD d (g 0 0) (g 0 1) (g 0 2) := by
  obtain ⟨p1, p2, p3, p4, p5, p6, p7⟩ := p
  obtain ⟨v1, v2, v3, v4, v5, v6, v7⟩ := v
  have no : ∀ k, ¬ onS d k := fun k ⟨i, hi, _⟩ => by unfold dd at hi; omega
  refine ⟨Or.inr z0, p1, p2, p3, by omega, fun q => by omega, fun k hk => ?_, fun o p ho hp oo op hop hlt => v6 o p ho hp oo op (no o) (no p) hop hlt⟩
  have tail : (isOp d k → ∃ e : Nat, d 5 k = (e : Int) ∧ k < e ∧ e < dn d ∧ d 1 e = 10 ∧ d 5 e = (k : Int)) ∧ (d 1 k = 10 → ∃ q : Nat, d 5 k = (q : Int) ∧ q < k ∧ isOp d q ∧ d 5 q = (k : Int)) ∧ (k + 1 < dn d → isOp d k → d 1 (k + 1) = 10 → d 5 (k + 1) = (k : Int)) :=
    ⟨fun q => v3 k hk q (no k), fun q => by obtain ⟨x, x1, x2, x3, x4, _⟩ := v4 k hk q; exact ⟨x, x1, x2, x3, x4⟩, fun q1 q2 q3 => v5 k q1 q2 q3⟩
  unfold WFe
  rcases w k hk with c | ⟨a, c⟩
  · exact ⟨by omega, by omega, fun q => by omega, fun q => by omega, fun q => by omega, fun q => by omega, fun q => by omega, fun q => by omega, fun q => by omega, tail⟩
  · unfold EnOk at c
    dsimp only at c
    exact ⟨by omega, by omega, fun q => by omega, fun q => by omega, fun q => by omega, fun q => by omega, fun q => by omega, fun q => by omega, fun q => by omega, tail⟩
