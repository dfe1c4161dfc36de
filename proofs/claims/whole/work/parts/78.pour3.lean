/-! pour: the call -/
theorem x_pour {h : Mem} {g : Gs} {a p b q n : Int} (s : G2 h g) (t : TR h) (ip : InR p) (iq : InR q) (inn : InR n) {Q : Int → Int → Mem → Prop} (hQ : ∀ r u1 u, G2 u g → TR u → TX h u1 → TM u1 u → Q r r u)
    (ok : ((0 ≤ a ∧ a < 4) ∧ (0 ≤ b ∧ b < 4) ∧ 0 ≤ p ∧ 0 ≤ q ∧ 0 ≤ n) → h 2 a.toNat ≠ -1 → h 2 b.toNat ≠ -1 → h 2 a.toNat = h 2 b.toNat → p + n ≤ h 3 a.toNat → q + n ≤ h 3 b.toNat → ∀ h1 : Mem, h1 = mset (mcpy h (5 + a.toNat) p.toNat (5 + b.toNat) q.toNat n.toNat) 0 0 0 → F_X12_pour h1 a p b q n (fun r2 h2 => Q 1 r2 h2)) : F_X11_pour h a p b q n (fun r1 h1 => F_X12_pour h1 a p b q n (fun r2 h2 => Q r1 r2 h2)) := by
  have one : ¬ ((0 ≤ a ∧ a < 4) ∧ (0 ≤ b ∧ b < 4) ∧ 0 ≤ p ∧ 0 ≤ q ∧ 0 ≤ n) → F_X11_refuse h 1 (fun r u => InZ r ∧ F_X12_pour u a p b q n (fun r2 h2 => Q r r2 h2)) := fun c h1 e1 =>
    ⟨Or.inl rfl, m_pourNo s t ip iq inn hQ 1 h1 (by decide) e1 (fun _ => c) (fun z => absurd rfl z) (fun z => absurd z (by decide)) (fun z => absurd rfl z) (fun z => absurd z (by decide)) (fun z => absurd rfl z)⟩
  unfold F_X11_pour F_X10_isTray F_X10_isMissing
  refine ⟨fun a1 => ⟨fun _ => one (by omega), fun z => absurd rfl z⟩, fun a1 => ⟨fun a2 => ⟨fun _ => one (by omega), fun z => absurd rfl z⟩, fun a2 => ⟨fun z => absurd z (by decide), fun _ => ⟨fun b1 => ⟨fun _ => one (by omega), fun z => absurd rfl z⟩, fun b1 => ⟨fun b2 => ⟨fun _ => one (by omega), fun z => absurd rfl z⟩, fun b2 => ⟨fun z => absurd z (by decide), fun _ => ⟨fun p1 => one (by omega), fun p1 => ⟨fun q1 => one (by omega), fun q1 => ⟨fun n1 => ?_, fun n1 => one (by omega)⟩⟩⟩⟩⟩⟩⟩⟩⟩
  have va : (0 ≤ a ∧ a < 4) ∧ (0 ≤ b ∧ b < 4) ∧ 0 ≤ p ∧ 0 ≤ q ∧ 0 ≤ n := by omega
  have ta := t a.toNat (by omega)
  have tb := t b.toNat (by omega)
  have two : (h 2 a.toNat = -1 ∨ h 2 b.toNat = -1) → F_X11_refuse h 2 (fun r u => InZ r ∧ F_X12_pour u a p b q n (fun r2 h2 => Q r r2 h2)) := fun c h1 e1 =>
    ⟨Or.inl rfl, m_pourNo s t ip iq inn hQ 2 h1 (by decide) e1 (fun z => absurd z (by decide)) (fun _ => va) (fun _ => by omega) (fun _ z => absurd rfl z) (fun z => absurd z (by decide)) (fun _ z => absurd rfl z)⟩
  refine ⟨va.1, fun m1 => ⟨fun z => absurd rfl z, fun _ => ⟨va.2.1, fun m2 => ⟨fun _ => ⟨va.1, va.2.1, fun k => ⟨⟨by omega, by omega⟩, fun l1 => ?_, fun l1 => ⟨⟨by omega, by omega⟩, fun l2 => ⟨⟨by omega, by omega, by omega, by omega, by omega⟩, fun h29 e29 h30 e30 => ⟨Or.inr rfl, ok va m1 m2 k (by omega) l2 h30 ?_⟩⟩, fun l2 => ?_⟩⟩, fun k h1 e1 => ?_⟩, fun z => absurd rfl z⟩, fun m2 => ⟨fun z => absurd z (by decide), fun _ => two (Or.inr m2)⟩⟩⟩, fun m1 => ⟨fun _ => two (Or.inl m1), fun z => absurd z (by decide)⟩⟩
  · exact fun h1 e1 => ⟨Or.inl rfl, m_pourNo s t ip iq inn hQ 3 h1 (by decide) e1 (fun z => absurd z (by decide)) (fun _ => va) (fun z => absurd z (by decide)) (fun _ _ => by omega) (fun z => absurd z (by decide)) (fun _ _ _ => by omega)⟩
  · rw [e30, e29]
    have z1 : 4 + 1 + 1 * a.toNat = 5 + a.toNat := by omega
    have z2 : 4 + 1 + 1 * b.toNat = 5 + b.toNat := by omega
    rw [z1, z2]
  · exact fun h1 e1 => ⟨Or.inl rfl, m_pourNo s t ip iq inn hQ 3 h1 (by decide) e1 (fun z => absurd z (by decide)) (fun _ => va) (fun z => absurd z (by decide)) (fun _ _ => by omega) (fun z => absurd z (by decide)) (fun _ _ _ => by omega)⟩
  · exact ⟨Or.inl rfl, m_pourNo s t ip iq inn hQ 8 h1 (by decide) e1 (fun z => absurd z (by decide)) (fun _ => va) (fun z => absurd z (by decide)) (fun _ _ => by omega) (fun _ => by omega) (fun _ _ z => absurd rfl z)⟩
