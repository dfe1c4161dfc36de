/-! pour: when the reference refuses -/
theorem m_pourNo {h : Mem} {g : Gs} {a p b q n : Int} (s : G2 h g) (t : TR h) (ip : InR p) (iq : InR q) (inn : InR n) {Q : Int → Int → Mem → Prop} (hQ : ∀ r u1 u, G2 u g → TR u → TX h u1 → TM u1 u → Q r r u) : ∀ (st : Int) (h1 : Mem), st ≠ 0 → h1 = mset h 0 0 st →
      (st = 1 → ¬ ((0 ≤ a ∧ a < 4) ∧ (0 ≤ b ∧ b < 4) ∧ 0 ≤ p ∧ 0 ≤ q ∧ 0 ≤ n)) → (st ≠ 1 → ((0 ≤ a ∧ a < 4) ∧ (0 ≤ b ∧ b < 4) ∧ 0 ≤ p ∧ 0 ≤ q ∧ 0 ≤ n)) →
      (st = 2 → h 165 a.toNat = -1 ∨ h 165 b.toNat = -1) → (st ≠ 1 → st ≠ 2 → h 165 a.toNat ≠ -1 ∧ h 165 b.toNat ≠ -1) →
      (st = 8 → h 164 a.toNat ≠ h 164 b.toNat) → (st ≠ 1 → st ≠ 2 → st ≠ 8 → h 164 a.toNat = h 164 b.toNat ∧ (h 165 a.toNat < p + n ∨ h 165 b.toNat < q + n) ∧ st = 3) → F_X12_pour h1 a p b q n (fun r2 h2 => Q 0 r2 h2) := by
  have rf : ∀ (st : Int) (h1 : Mem), st ≠ 0 → h1 = mset h 0 0 st → F_X12_is h1 st (fun r2 h2 => InZ r2 ∧ Q 0 r2 h2) := fun st h1 h0 e1 h2 e2 => by
    have tx : TX h h1 := fun x y y1 y2 => by rw [e1]; unfold mset; rw [if_neg y1]
    have tm : TM h1 h2 := fun x y y1 y2 => by rw [e2]; unfold mset; rw [if_neg y1]
    exact ⟨fun _ => ⟨Or.inl rfl, hQ 0 h1 h2 (s.tr tx tm (by rw [e2, mset_at, mset_i _ (by omega), e1, mset_at])) (by rw [e2, e1]; exact t.ss) tx tm⟩, fun z => absurd z h0⟩
  intro st h1 h0 e1 c1 c1' c2 c2' c8 c3
  have no := rf st h1 h0 e1
  have f : ∀ o j, o ≠ 0 → h1 o j = h o j := fun o j ho => by rw [e1, mset_i _ ho]
  by_cases d1 : st = 1
  · subst d1
    have c := c1 rfl
    unfold F_X12_pour F_X12_isTray
    refine ⟨fun _ => ⟨fun _ => no, fun z => absurd rfl z⟩, fun a1 => ⟨fun _ => ⟨fun _ => no, fun z => absurd rfl z⟩, fun a2 => ⟨fun z => absurd z (by decide), fun _ => ⟨fun _ => ⟨fun _ => no, fun z => absurd rfl z⟩, fun b1 => ⟨fun _ => ⟨fun _ => no, fun z => absurd rfl z⟩, fun b2 => ⟨fun z => absurd z (by decide), fun _ => ⟨fun _ => no, fun p1 => ⟨fun _ => no, fun p2 => ⟨fun p3 => absurd ⟨⟨by omega, by omega⟩, ⟨by omega, by omega⟩, by omega, by omega, p3⟩ c, fun _ => no⟩⟩⟩⟩⟩⟩⟩⟩⟩
  · obtain ⟨⟨x1, x2⟩, ⟨x3, x4⟩, x5, x6, x7⟩ := c1' d1
    have ta := t a.toNat (by omega)
    have tb := t b.toNat (by omega)
    unfold F_X12_pour F_X12_isTray
    refine ⟨fun z => absurd z (by omega), fun _ => ⟨fun z => absurd z (by omega), fun _ => ⟨fun z => absurd z (by decide), fun _ => ⟨fun z => absurd z (by omega), fun _ => ⟨fun z => absurd z (by omega), fun _ => ⟨fun z => absurd z (by decide), fun _ => ⟨fun z => absurd z (by omega), fun _ => ⟨fun z => absurd z (by omega), fun _ => ⟨fun _ => ⟨⟨x1, x2⟩, ?_⟩, fun z => absurd x7 z⟩⟩⟩⟩⟩⟩⟩⟩⟩
    rw [f 165 _ (by omega), f 165 _ (by omega), f 164 _ (by omega), f 164 _ (by omega)]
    by_cases d2 : st = 2
    · subst d2
      have c := c2 rfl
      exact ⟨fun _ => no, fun m => ⟨⟨x3, x4⟩, fun m2 => absurd c (by omega), fun _ => no⟩⟩
    · obtain ⟨m1, m2⟩ := c2' d1 d2
      refine ⟨fun z => absurd z m1, fun _ => ⟨⟨x3, x4⟩, fun _ => ?_, fun z => absurd z m2⟩⟩
      by_cases d8 : st = 8
      · subst d8
        exact ⟨fun z => absurd z (c8 rfl), fun _ => no⟩
      · obtain ⟨k1, k2, rfl⟩ := c3 d1 d2 d8
        refine ⟨fun _ => ⟨⟨by omega, by omega⟩, fun _ => no, fun k3 => ⟨⟨by omega, by omega⟩, fun k4 => absurd k2 (by omega), fun _ => no⟩⟩, fun z => absurd k1 z⟩
