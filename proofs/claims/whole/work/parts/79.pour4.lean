/-! pour: both sides -/
theorem k_pour {h : Mem} {g : Gs} {a p b q n : Int} (s : G2 h g) (t : TR h) (ip : InR p) (iq : InR q) (inn : InR n) {Q : Int → Int → Mem → Prop} (hQ : ∀ r u1 u, G2 u g → TR u → TX h u1 → TM u1 u → Q r r u) : F_X11_pour h a p b q n (fun r1 h1 => F_X12_pour h1 a p b q n (fun r2 h2 => Q r1 r2 h2)) := by
  refine x_pour s t ip iq inn hQ (fun va m1 m2 k l1 l2 h1 e1 => ?_)
  obtain ⟨⟨x1, x2⟩, ⟨x3, x4⟩, x5, x6, x7⟩ := va
  obtain ⟨A, rfl⟩ : ∃ k : Nat, a = k := ⟨a.toNat, by omega⟩
  obtain ⟨B, rfl⟩ : ∃ k : Nat, b = k := ⟨b.toNat, by omega⟩
  obtain ⟨P, rfl⟩ : ∃ k : Nat, p = k := ⟨p.toNat, by omega⟩
  obtain ⟨R, rfl⟩ : ∃ k : Nat, q = k := ⟨q.toNat, by omega⟩
  obtain ⟨N, rfl⟩ : ∃ k : Nat, n = k := ⟨n.toNat, by omega⟩
  simp only [Int.toNat_natCast] at m1 m2 k l1 l2 e1
  have ta := t A (by omega)
  have tb := t B (by omega)
  have f : ∀ o j, o ≠ 0 → o ≠ 5 + B → h1 o j = h o j := fun o j ho hb => by rw [e1, mset_i _ ho, mcpy_i j hb]
  have tx : TX h h1 := fun x y y1 y2 => by
    have : mset (mcpy h (5 + A) P (5 + B) R N) 0 0 0 x y = mcpy h (5 + A) P (5 + B) R N x y := by unfold mset; rw [if_neg y1]
    rw [e1, this, mcpy_i y (by omega)]
  unfold F_X12_pour F_X12_isTray
  refine ⟨fun z => absurd z (by omega), fun _ => ⟨fun z => absurd z (by omega), fun _ => ⟨fun z => absurd z (by decide), fun _ => ⟨fun z => absurd z (by omega), fun _ => ⟨fun z => absurd z (by omega), fun _ => ⟨fun z => absurd z (by decide), fun _ => ⟨fun z => absurd z (by omega), fun _ => ⟨fun z => absurd z (by omega), fun _ => ⟨fun _ => ⟨⟨by omega, by omega⟩, ?_⟩, fun z => absurd x7 z⟩⟩⟩⟩⟩⟩⟩⟩⟩
  simp only [Int.toNat_natCast]
  rw [f 165 _ (by omega) (by omega), f 165 _ (by omega) (by omega), f 164 _ (by omega) (by omega), f 164 _ (by omega) (by omega)]
  refine ⟨fun z => absurd z (by omega), fun _ => ⟨⟨by omega, by omega⟩, fun _ => ⟨fun _ => ⟨⟨by omega, by omega⟩, fun z => absurd z (by omega), fun _ => ⟨⟨by omega, by omega⟩, fun _ => ?_, fun z => absurd (by omega) z⟩⟩, fun z => absurd (by omega) z⟩, fun z => absurd z (by omega)⟩⟩
  refine q_pour (h := h1) (a := A) (p := P) (b := B) (q := R) (n := N) (by omega) (by omega) (by omega) (by omega) (fun v vz vf => ?_)
  have tm : TM h1 (mset v 161 2 0) := fun x y y1 y2 => by
    have : mset v 161 2 0 x y = v x y := by unfold mset; rw [if_neg y1]
    rw [this]; exact vf x y (by omega)
  refine hQ _ _ _ (s.tr tx tm (by rw [mset_at, mset_i _ (by omega), vf 0 0 (by omega), e1, mset_at])) (fun i hi => ?_) tx tm
  have f1 : ∀ o j, o ≠ 0 → o ≠ 161 → o ≠ 166 → o ≠ 5 + B → mset v 161 2 0 o j = h o j := fun o j o1 o2 o3 o4 => by
    rw [mset_i _ o2, vf o j (by omega)]; exact f o j o1 o4
  rw [f1 2 i (by omega) (by omega) (by omega) (by omega), f1 3 i (by omega) (by omega) (by omega) (by omega), f1 164 i (by omega) (by omega) (by omega) (by omega), f1 165 i (by omega) (by omega) (by omega) (by omega)]
  rcases t i hi with z | ⟨z1, z2, z3, z4, z5, z6, z⟩
  · exact Or.inl z
  · refine Or.inr ⟨z1, z2, z3, z4, z5, z6, fun j hj => ?_⟩
    rw [mset_i (i := 166) _ (show 166 ≠ 161 by omega), mset_i (i := 5 + i) _ (show 5 + i ≠ 161 by omega), vf (5 + i) j (by omega)]
    by_cases ck : i = B ∧ R ≤ j ∧ j < R + N
    · obtain ⟨rfl, c1, c2⟩ := ck
      have l : h1 (5 + i) j = h (5 + A) (P + (j - R)) := by
        rw [e1, mset_i _ (by omega)]
        unfold mcpy
        rw [if_pos ⟨rfl, c1, c2⟩]
      have r := vz (j - R) (by omega)
      have e3 : 60 * i + R + (j - R) = 60 * i + j := by omega
      rw [e3, f 166 _ (by omega) (by omega)] at r
      rw [l, r]
      rcases ta with ⟨y, _⟩ | ⟨_, _, _, _, _, _, y⟩
      · exact absurd y m1
      · have := y (P + (j - R)) (by omega)
        rw [this, show 60 * A + (P + (j - R)) = 60 * A + P + (j - R) by omega]
    · have l : h1 (5 + i) j = h (5 + i) j := by
        rw [e1, mset_i _ (by omega)]
        unfold mcpy
        rw [if_neg (by omega)]
      have : 60 * i + j < 60 * i + 60 := by omega
      rw [l, vf 166 _ (by omega), f 166 _ (by omega) (by omega)]
      exact z j hj
