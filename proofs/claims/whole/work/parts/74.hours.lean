/-! copyHours -/
theorem RC.eq {h u : Mem} {g : Gs} (r : RC h 12 g) (f : ∀ i, 12 ≤ i → i < 27 → ∀ k, u i k = h i k) : RC u 12 g := by
  have q : Fr 0 12 h (fun i k => if 12 ≤ i ∧ i < 27 then u i k else h i k) := fun i hi k => by
    by_cases c : 12 ≤ i ∧ i < 27
    · show (if 12 ≤ i ∧ i < 27 then u i k else h i k) = h i k
      rw [if_pos c]; exact f i c.1 c.2 k
    · show (if 12 ≤ i ∧ i < 27 then u i k else h i k) = h i k
      rw [if_neg c]
  have r2 := r.fr q (by omega)
  obtain ⟨⟨r0, r1, r3⟩, r5⟩ := r2
  exact ⟨⟨r0, r1, r3⟩, r5⟩
theorem G2.tr {h u1 u : Mem} {g : Gs} (s : G2 h g) (a : TX h u1) (b : TM u1 u) (e : u 0 0 = u 161 2) : G2 u g := by
  obtain ⟨w, rc, rx, rn, -⟩ := s
  have f : ∀ i k, ¬ (i = 0 ∧ k = 0) → ¬ (2 ≤ i ∧ i < 9) → ¬ (i = 161 ∧ k = 2) → ¬ (164 ≤ i ∧ i < 167) → u i k = h i k := fun i k q1 q2 q3 q4 => (b i k q3 q4).trans (a i k q1 q2)
  exact ⟨w, rc.eq (fun i h1 h2 k => f i k (by omega) (by omega) (by omega) (by omega)), rx.fr w.nm.1 w.nm.2 (fun k _ => f 162 k (by omega) (by omega) (by omega) (by omega)), rn.fr (fun k => f 163 k (by omega) (by omega) (by omega) (by omega)), e⟩
theorem s_ch {h : Mem} {g : Gs} {a : Nat} {Q : Int → Mem → Prop} (ha : a < 4) (n8 : gn g ≤ 8) (rT : RT h 13 g) (hQ : ∀ u, (∀ j, j < gn g → u (5 + a) j = cutI (h 2 a) (g 6 j)) → (∀ i k, ¬ (i = 5 + a ∧ k < gn g) → u i k = h i k) → Q (gn g : Int) (mset u 0 0 0)) : L_X11_copyHours_31 h (a : Int) (gn g : Int) 0 Q := by
  have key : ∀ (m j : Nat) (x : Int) (u : Mem), x = (j : Int) → j + m = gn g → (∀ k, k < j → u (5 + a) k = cutI (h 2 a) (g 6 k)) → (∀ i k, ¬ (i = 5 + a ∧ k < gn g) → u i k = h i k) → L_X11_copyHours_31 u (a : Int) (gn g : Int) x Q := by
    intro m
    induction m with
    | zero =>
      intro j x u hx hj ez ef
      subst hx
      refine l_X11_copyHours_31 ?_
      unfold B_X11_copyHours_31 F_X11_given
      refine ⟨fun _ h1 e1 => ?_, fun q => absurd (by omega) q⟩
      rw [e1]
      exact hQ u (fun k hk => ez k (by omega)) ef
    | succ m ih =>
      intro j x u hx hj ez ef
      subst hx
      refine l_X11_copyHours_31 ?_
      unfold B_X11_copyHours_31 F_X10_put
      refine ⟨fun q => absurd q (by omega), fun _ => ⟨⟨by omega, by omega⟩, ⟨by omega, by omega⟩, s_cut ⟨⟨by omega, by omega⟩, fun h6 e6 => ⟨⟨by omega, by omega⟩, ?_⟩⟩⟩⟩
      have ea : 4 + 1 + 1 * (a : Int).toNat = 5 + a := by omega
      have e20 : u 20 j = g 6 j := (ef 20 j (by omega)).trans (rT.at (by omega) (k := 6) (by omega))
      rw [ea, Int.toNat_natCast, Int.toNat_natCast, ef 2 a (by omega), e20] at e6
      refine ih (j + 1) _ h6 (by omega) (by omega) (fun k hk => ?_) (fun i k q1 => ?_)
      · rw [e6]
        by_cases d : k = j
        · subst d; exact mset_at
        · rw [mset_k d]; exact ez k (by omega)
      · rw [e6]
        have : mset u (5 + a) j (cutI (h 2 a) (g 6 j)) i k = u i k := by unfold mset; rw [if_neg (by omega)]
        rw [this]; exact ef i k q1
  exact key (gn g) 0 0 h rfl (by omega) (fun k hk => absurd hk (Nat.not_lt_zero k)) (fun _ _ _ => rfl)
theorem q_ch {h : Mem} {g : Gs} {a : Nat} {Q : Int → Mem → Prop} (ha : a < 4) (n8 : gn g ≤ 8) (nc : (gn g : Int) = g 0 0) (r : RX h g) (hQ : ∀ u, (∀ j, j < gn g → u 166 (60 * a + j) = cutI (h 164 a) (g 6 j)) → (∀ i k, ¬ (i = 166 ∧ 60 * a ≤ k ∧ k < 60 * a + gn g) → u i k = h i k) → Q (gn g : Int) (mset u 161 2 0)) : L_X12_copyHours_52 h (a : Int) 0 Q := by
  have key : ∀ (m j : Nat) (x : Int) (u : Mem), x = (j : Int) → j + m = gn g → (∀ k, k < j → u 166 (60 * a + k) = cutI (h 164 a) (g 6 k)) → (∀ i k, ¬ (i = 166 ∧ 60 * a ≤ k ∧ k < 60 * a + gn g) → u i k = h i k) → L_X12_copyHours_52 u (a : Int) x Q := by
    intro m
    induction m with
    | zero =>
      intro j x u hx hj ez ef
      subst hx
      refine l_X12_copyHours_52 ?_
      unfold B_X12_copyHours_52 F_X12_gives
      have e0 : u 162 0 = (gn g : Int) := by rw [ef 162 0 (by omega), nc]; exact r.1 0 (by omega) (by omega)
      rw [e0]
      refine ⟨fun _ h1 e1 => ?_, fun q => absurd (by omega) q⟩
      rw [e1]
      exact hQ u (fun k hk => ez k (by omega)) ef
    | succ m ih =>
      intro j x u hx hj ez ef
      subst hx
      refine l_X12_copyHours_52 ?_
      unfold B_X12_copyHours_52
      have e0 : u 162 0 = (gn g : Int) := by rw [ef 162 0 (by omega), nc]; exact r.1 0 (by omega) (by omega)
      have e6 : u 162 (12 + 7 * j + 5) = g 6 j := (ef 162 _ (by omega)).trans (r.2.1 j 5 (by omega) (by omega) (fun q => absurd q (by omega)))
      rw [e0]
      refine ⟨fun q => absurd q (by omega), fun _ => ⟨⟨by omega, by omega⟩, ⟨by omega, by omega⟩, q_thingOf (k := 5) rfl rfl (by omega) (by omega) ⟨⟨by omega, by omega⟩, q_cut ⟨⟨by omega, by omega⟩, fun h6 e7 => ⟨⟨by omega, by omega⟩, ?_⟩⟩⟩⟩⟩
      have ea : (60 * (a : Int) + (j : Int)).toNat = 60 * a + j := by omega
      rw [ea, Int.toNat_natCast, e6, ef 164 a (by omega)] at e7
      refine ih (j + 1) _ h6 (by omega) (by omega) (fun k hk => ?_) (fun i k q1 => ?_)
      · rw [e7]
        by_cases d : k = j
        · subst d; exact mset_at
        · rw [mset_k (by omega)]; exact ez k (by omega)
      · rw [e7]
        have : mset u 166 (60 * a + j) (cutI (h 164 a) (g 6 j)) i k = u i k := by unfold mset; rw [if_neg (by omega)]
        rw [this]; exact ef i k q1
  exact key (gn g) 0 0 h rfl (by omega) (fun k hk => absurd hk (Nat.not_lt_zero k)) (fun _ _ _ => rfl)
