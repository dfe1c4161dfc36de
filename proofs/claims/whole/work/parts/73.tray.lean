/-! tray -/
theorem s_lay {h : Mem} {a c : Nat} {b : Int} {Q : Mem → Prop} (ha : a < 4) (hc : c ≤ 60) (hQ : ∀ u, u 2 a = b → u 3 a = (c : Int) → (∀ j, j < c → u (5 + a) j = 0) → (∀ i k, ¬ ((i = 2 ∨ i = 3) ∧ k = a) → i ≠ 5 + a → u i k = h i k) → Q u) : F_X10_lay h (a : Int) b (c : Int) Q := by
  have key : ∀ (m j : Nat) (x : Int) (u : Mem), x = (j : Int) → j + m = c → u 2 a = b → u 3 a = (c : Int) → (∀ k, k < j → u (5 + a) k = 0) → (∀ i k, ¬ ((i = 2 ∨ i = 3) ∧ k = a) → i ≠ 5 + a → u i k = h i k) → L_X10_lay_17 u (a : Int) (c : Int) x Q := by
    intro m
    induction m with
    | zero =>
      intro j x u hx hj e2 e3 ez ef
      subst hx
      refine l_X10_lay_17 ?_
      unfold B_X10_lay_17
      obtain rfl : j = c := by omega
      exact ⟨fun _ => hQ u e2 e3 ez ef, fun q => absurd (by omega) q⟩
    | succ m ih =>
      intro j x u hx hj e2 e3 ez ef
      subst hx
      refine l_X10_lay_17 ?_
      unfold B_X10_lay_17
      refine ⟨fun q => absurd q (by omega), fun _ => ⟨⟨by omega, by omega⟩, ⟨by omega, by omega⟩, fun h6 e6 => ⟨⟨by omega, by omega⟩, ?_⟩⟩⟩
      have ea : 4 + 1 + 1 * (a : Int).toNat = 5 + a := by omega
      rw [ea, Int.toNat_natCast] at e6
      refine ih (j + 1) _ h6 (by omega) (by omega) ?_ ?_ (fun k hk => ?_) (fun i k q1 q2 => ?_)
      · rw [e6, mset_i _ (by omega)]; exact e2
      · rw [e6, mset_i _ (by omega)]; exact e3
      · rw [e6]
        by_cases d : k = j
        · subst d; exact mset_at
        · rw [mset_k d]; exact ez k (by omega)
      · rw [e6, mset_i _ q2]; exact ef i k q1 q2
  unfold F_X10_lay
  refine ⟨⟨by omega, by omega⟩, fun h2 e2 h3 e3 => ?_⟩
  rw [Int.toNat_natCast] at e2 e3
  refine key c 0 0 h3 rfl (by omega) ?_ ?_ (fun k hk => absurd hk (Nat.not_lt_zero k)) (fun i k q1 q2 => ?_)
  · rw [e3, mset_i _ (by omega), e2, mset_at]
  · rw [e3, mset_at]
  · rw [e3, e2]; unfold mset; rw [if_neg (by omega), if_neg (by omega)]
theorem q_lay {h : Mem} {a c : Nat} {Q : Int → Mem → Prop} (ha : a < 4) (hc : c ≤ 60) (hQ : ∀ u, (∀ j, j < c → u 166 (60 * a + j) = 0) → (∀ i k, ¬ (i = 166 ∧ 60 * a ≤ k ∧ k < 60 * a + c) → u i k = h i k) → Q 1 (mset u 161 2 0)) : L_X12_tray_49 h (a : Int) (c : Int) 0 Q := by
  have key : ∀ (m j : Nat) (x : Int) (u : Mem), x = (j : Int) → j + m = c → (∀ k, k < j → u 166 (60 * a + k) = 0) → (∀ i k, ¬ (i = 166 ∧ 60 * a ≤ k ∧ k < 60 * a + c) → u i k = h i k) → L_X12_tray_49 u (a : Int) (c : Int) x Q := by
    intro m
    induction m with
    | zero =>
      intro j x u hx hj ez ef
      subst hx
      refine l_X12_tray_49 ?_
      unfold B_X12_tray_49 F_X12_is
      obtain rfl : j = c := by omega
      refine ⟨fun _ h1 e1 => ⟨fun q => absurd rfl q, fun _ => ⟨Or.inr rfl, ?_⟩⟩, fun q => absurd (by omega) q⟩
      rw [e1]
      exact hQ u ez ef
    | succ m ih =>
      intro j x u hx hj ez ef
      subst hx
      refine l_X12_tray_49 ?_
      unfold B_X12_tray_49
      refine ⟨fun q => absurd q (by omega), fun _ => ⟨⟨by omega, by omega⟩, ⟨by omega, by omega⟩, ⟨by omega, by omega⟩, fun h6 e6 => ⟨⟨by omega, by omega⟩, ?_⟩⟩⟩
      have ea : (60 * (a : Int) + (j : Int)).toNat = 60 * a + j := by omega
      rw [ea] at e6
      refine ih (j + 1) _ h6 (by omega) (by omega) (fun k hk => ?_) (fun i k q1 => ?_)
      · rw [e6]
        by_cases d : k = j
        · subst d; exact mset_at
        · rw [mset_k (by omega)]; exact ez k (by omega)
      · rw [e6]
        have : mset u 166 (60 * a + j) 0 i k = u i k := by unfold mset; rw [if_neg (by omega)]
        rw [this]; exact ef i k q1
  exact key c 0 0 h rfl (by omega) (fun k hk => absurd hk (Nat.not_lt_zero k)) (fun _ _ _ => rfl)
theorem k_tray {h : Mem} {a b c : Int} (t : TR h) {Q : Int → Int → Mem → Prop} (hQ : ∀ r u1 u, TR u → u 0 0 = u 161 2 → TX h u1 → TM u1 u → Q r r u) : F_X11_tray h a b c (fun r1 h1 => F_X12_tray h1 a b c (fun r2 h2 => Q r1 r2 h2)) := by
  by_cases d : (0 ≤ a ∧ a ≤ 3) ∧ (0 ≤ b ∧ b ≤ 3) ∧ 0 ≤ c ∧ c ≤ 60
  · obtain ⟨da, db, dc⟩ := d
    obtain ⟨i, rfl⟩ : ∃ k : Nat, a = k := ⟨a.toNat, by omega⟩
    obtain ⟨n, rfl⟩ : ∃ k : Nat, c = k := ⟨c.toNat, by omega⟩
    unfold F_X11_tray
    refine x_outside (fun q => absurd da q) (fun _ => ⟨fun q => absurd rfl q, fun _ => x_outside (fun q => absurd db q) (fun _ => ⟨fun q => absurd rfl q, fun _ => x_outside (fun q => absurd dc q) (fun _ => ⟨fun _ => s_lay (by omega) (by omega) (fun u e2 e3 ez ef h1 e1 => ⟨Or.inr rfl, ?_⟩), fun q => absurd rfl q⟩)⟩)⟩)
    unfold F_X12_tray F_X12_isTray
    refine ⟨fun q => absurd q (by omega), fun _ => ⟨fun q => absurd q (by omega), fun _ => ⟨fun q => absurd q (by decide), fun _ => ⟨fun q => absurd q (by omega), fun _ => ⟨fun q => absurd q (by omega), fun _ => ⟨fun q => absurd q (by omega), fun _ => ⟨fun _ => ⟨⟨by omega, by omega⟩, fun h12 e12 h13 e13 => ?_⟩, fun q => absurd dc.2 q⟩⟩⟩⟩⟩⟩⟩
    rw [Int.toNat_natCast] at e12 e13
    refine q_lay (by omega) (by omega) (fun v vz vf => hQ 1 h1 _ (fun k hk => ?_) ?_ (fun x y y1 y2 => ?_) (fun x y y1 y2 => ?_))
    · have f1 : ∀ o : Nat, o ≠ 166 → o ≠ 161 → o ≠ 164 → o ≠ 165 → o ≠ 0 → ∀ j, mset v 161 2 0 o j = u o j := fun o o1 o2 o3 o4 o5 j => by
        rw [mset_i _ o2, vf o j (fun q => o1 q.1), e13, mset_i _ o4, e12, mset_i _ o3, e1, mset_i _ o5]
      have f2 : ∀ j, mset v 161 2 0 166 j = v 166 j := fun j => mset_i j (by omega)
      by_cases ck : k = i
      · subst ck
        have a4 : mset v 161 2 0 164 k = b := by rw [mset_i _ (by omega), vf 164 k (by omega), e13, mset_i _ (by omega), e12, mset_at]
        have a5 : mset v 161 2 0 165 k = (n : Int) := by rw [mset_i _ (by omega), vf 165 k (by omega), e13, mset_at]
        rw [f1 2 (by omega) (by omega) (by omega) (by omega) (by omega), f1 3 (by omega) (by omega) (by omega) (by omega) (by omega), a4, a5, e2, e3]
        refine Or.inr ⟨db.1, db.2, rfl, dc.1, dc.2, rfl, fun j hj => ?_⟩
        rw [f1 (5 + k) (by omega) (by omega) (by omega) (by omega) (by omega), f2, ez j (by omega), vz j (by omega)]
      · have a4 : mset v 161 2 0 164 k = h 164 k := by rw [mset_i _ (by omega), vf 164 k (by omega), e13, mset_i _ (by omega), e12, mset_k ck, e1, mset_i _ (by omega)]; exact ef 164 k (by omega) (by omega)
        have a5 : mset v 161 2 0 165 k = h 165 k := by rw [mset_i _ (by omega), vf 165 k (by omega), e13, mset_k ck, e12, mset_i _ (by omega), e1, mset_i _ (by omega)]; exact ef 165 k (by omega) (by omega)
        rw [f1 2 (by omega) (by omega) (by omega) (by omega) (by omega), f1 3 (by omega) (by omega) (by omega) (by omega) (by omega), a4, a5, ef 2 k (by omega) (by omega), ef 3 k (by omega) (by omega)]
        rcases t k hk with z | ⟨z1, z2, z3, z4, z5, z6, z⟩
        · exact Or.inl z
        · refine Or.inr ⟨z1, z2, z3, z4, z5, z6, fun j hj => ?_⟩
          rw [f1 (5 + k) (by omega) (by omega) (by omega) (by omega) (by omega), f2, ef (5 + k) j (by omega) (by omega), vf 166 _ (by omega), e13, mset_i _ (by omega), e12, mset_i _ (by omega), e1, mset_i _ (by omega), ef 166 _ (by omega) (by omega)]
          exact z j hj
    · rw [mset_at, mset_i _ (by omega), vf 0 0 (by omega), e13, mset_i _ (by omega), e12, mset_i _ (by omega), e1, mset_at]
    · have : mset u 0 0 0 x y = u x y := by unfold mset; rw [if_neg y1]
      rw [e1, this]; exact ef x y (by omega) (by omega)
    · have : mset v 161 2 0 x y = v x y := by unfold mset; rw [if_neg y1]
      rw [this, vf x y (by omega), e13, mset_i _ (by omega), e12, mset_i _ (by omega)]
  · have fin : ∀ h1 : Mem, h1 = mset h 0 0 1 → F_X12_is h1 1 (fun r2 h2 => InZ r2 ∧ Q 0 r2 h2) := fun h1 e1 h2 e2 => ⟨fun _ => ⟨Or.inl rfl, hQ 0 h1 h2 (by rw [e2, e1]; exact t.ss) (by rw [e2, mset_at, mset_i _ (by omega), e1, mset_at]) (fun x y y1 y2 => by rw [e1]; unfold mset; rw [if_neg y1]) (fun x y y1 y2 => by rw [e2]; unfold mset; rw [if_neg y1])⟩, fun z => absurd z (by decide)⟩
    have mm : ∀ h1 : Mem, h1 = mset h 0 0 1 → F_X12_tray h1 a b c (fun r2 h2 => Q 0 r2 h2) := fun h1 e1 => by
      have no := fin h1 e1
      unfold F_X12_tray F_X12_isTray
      exact ⟨fun _ => ⟨fun _ => no, fun q => absurd rfl q⟩, fun p1 => ⟨fun _ => ⟨fun _ => no, fun q => absurd rfl q⟩, fun p2 => ⟨fun q => absurd q (by decide), fun _ => ⟨fun _ => no, fun p3 => ⟨fun _ => no, fun p4 => ⟨fun _ => no, fun p5 => ⟨fun p6 => absurd ⟨⟨by omega, by omega⟩, ⟨by omega, by omega⟩, by omega, p6⟩ d, fun _ => no⟩⟩⟩⟩⟩⟩⟩
    have xx : F_X11_refuse h 1 (fun r u => InZ r ∧ F_X12_tray u a b c (fun r2 h2 => Q r r2 h2)) := fun h1 e1 => ⟨Or.inl rfl, mm h1 e1⟩
    unfold F_X11_tray
    exact x_outside (fun _ => ⟨fun _ => xx, fun q => absurd q (by decide)⟩) (fun d1 => ⟨fun q => absurd rfl q, fun _ => x_outside (fun _ => ⟨fun _ => xx, fun q => absurd q (by decide)⟩) (fun d2 => ⟨fun q => absurd rfl q, fun _ => x_outside (fun _ => ⟨fun q => absurd q (by decide), fun _ => xx⟩) (fun d3 => absurd ⟨d1, d2, d3⟩ d)⟩)⟩)
