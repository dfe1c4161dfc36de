/-! pour: the reference's loop -/
theorem q_pour {h : Mem} {a p b q n : Nat} {Q : Int → Mem → Prop} (ha : a < 4) (hb : b < 4) (hp : p + n ≤ 60) (hq : q + n ≤ 60) (hQ : ∀ u, (∀ k, k < n → u 166 (60 * b + q + k) = h 166 (60 * a + p + k)) → (∀ i k, ¬ (i = 166 ∧ 60 * b + q ≤ k ∧ k < 60 * b + q + n) → u i k = h i k) → Q 1 (mset u 161 2 0)) : L_X12_pour_118 h (a : Int) (p : Int) (b : Int) (q : Int) (n : Int) 0 Q := by
  by_cases c : q ≤ p
  · have key : ∀ (m j : Nat) (x : Int) (u : Mem), x = (j : Int) → j + m = n → (∀ k, k < j → u 166 (60 * b + q + k) = h 166 (60 * a + p + k)) → (∀ i k, ¬ (i = 166 ∧ 60 * b + q ≤ k ∧ k < 60 * b + q + j) → u i k = h i k) → L_X12_pour_118 u (a : Int) (p : Int) (b : Int) (q : Int) (n : Int) x Q := by
      intro m
      induction m with
      | zero =>
        intro j x u hx hj ez ef
        subst hx
        refine l_X12_pour_118 ?_
        unfold B_X12_pour_118 F_X12_is
        obtain rfl : j = n := by omega
        refine ⟨fun _ h1 e1 => ⟨fun z => absurd rfl z, fun _ => ⟨Or.inr rfl, ?_⟩⟩, fun z => absurd (by omega) z⟩
        rw [e1]
        exact hQ u ez ef
      | succ m ih =>
        intro j x u hx hj ez ef
        subst hx
        refine l_X12_pour_118 ?_
        unfold B_X12_pour_118
        refine ⟨fun z => absurd z (by omega), fun _ => ⟨fun _ => ⟨⟨by omega, by omega⟩, ⟨by omega, by omega⟩, ⟨by omega, by omega⟩, ⟨by omega, by omega⟩, ⟨by omega, by omega⟩, ⟨by omega, by omega⟩, ⟨by omega, by omega⟩, ⟨by omega, by omega⟩, fun h6 e6 => ⟨⟨by omega, by omega⟩, ?_⟩⟩, fun z => absurd (by omega) z⟩⟩
        have z1 : (60 * (b : Int) + (q : Int) + (j : Int)).toNat = 60 * b + q + j := by omega
        have z2 : (60 * (a : Int) + (p : Int) + (j : Int)).toNat = 60 * a + p + j := by omega
        have rd : u 166 (60 * a + p + j) = h 166 (60 * a + p + j) := ef 166 _ (by omega)
        rw [z1, z2, rd] at e6
        refine ih (j + 1) _ h6 (by omega) (by omega) (fun k hk => ?_) (fun i k q1 => ?_)
        · rw [e6]
          by_cases d : k = j
          · subst d; exact mset_at
          · rw [mset_k (by omega)]; exact ez k (by omega)
        · rw [e6]
          have : ∀ v, mset u 166 (60 * b + q + j) v i k = u i k := fun v => by unfold mset; rw [if_neg (by omega)]
          rw [this]; exact ef i k (by omega)
    exact key n 0 0 h rfl (by omega) (fun k hk => absurd hk (Nat.not_lt_zero k)) (fun _ _ _ => rfl)
  · have key : ∀ (m j : Nat) (x : Int) (u : Mem), x = (j : Int) → j + m = n → (∀ k, n - j ≤ k → k < n → u 166 (60 * b + q + k) = h 166 (60 * a + p + k)) → (∀ i k, ¬ (i = 166 ∧ 60 * b + q + (n - j) ≤ k ∧ k < 60 * b + q + n) → u i k = h i k) → L_X12_pour_118 u (a : Int) (p : Int) (b : Int) (q : Int) (n : Int) x Q := by
      intro m
      induction m with
      | zero =>
        intro j x u hx hj ez ef
        subst hx
        refine l_X12_pour_118 ?_
        unfold B_X12_pour_118 F_X12_is
        obtain rfl : j = n := by omega
        refine ⟨fun _ h1 e1 => ⟨fun z => absurd rfl z, fun _ => ⟨Or.inr rfl, ?_⟩⟩, fun z => absurd (by omega) z⟩
        rw [e1]
        exact hQ u (fun k hk => ez k (by omega) hk) (fun i k q1 => ef i k (by omega))
      | succ m ih =>
        intro j x u hx hj ez ef
        subst hx
        refine l_X12_pour_118 ?_
        unfold B_X12_pour_118
        refine ⟨fun z => absurd z (by omega), fun _ => ⟨fun z => absurd z (by omega), fun _ => ⟨⟨by omega, by omega⟩, ⟨by omega, by omega⟩, ⟨by omega, by omega⟩, ⟨by omega, by omega⟩, ⟨by omega, by omega⟩, ⟨by omega, by omega⟩, ⟨by omega, by omega⟩, ⟨by omega, by omega⟩, ⟨by omega, by omega⟩, ⟨by omega, by omega⟩, fun h6 e6 => ⟨⟨by omega, by omega⟩, ?_⟩⟩⟩⟩
        have z1 : (60 * (b : Int) + (q : Int) + ((n : Int) - 1 - (j : Int))).toNat = 60 * b + q + (n - 1 - j) := by omega
        have z2 : (60 * (a : Int) + (p : Int) + ((n : Int) - 1 - (j : Int))).toNat = 60 * a + p + (n - 1 - j) := by omega
        have rd : u 166 (60 * a + p + (n - 1 - j)) = h 166 (60 * a + p + (n - 1 - j)) := ef 166 _ (by omega)
        rw [z1, z2, rd] at e6
        refine ih (j + 1) _ h6 (by omega) (by omega) (fun k hk hk2 => ?_) (fun i k q1 => ?_)
        · rw [e6]
          by_cases d : k = n - 1 - j
          · subst d; exact mset_at
          · rw [mset_k (by omega)]; exact ez k (by omega) hk2
        · rw [e6]
          have : ∀ v, mset u 166 (60 * b + q + (n - 1 - j)) v i k = u i k := fun v => by unfold mset; rw [if_neg (by omega)]
          rw [this]; exact ef i k (by omega)
    exact key n 0 0 h rfl (by omega) (fun k h1 hk => absurd hk (by omega)) (fun _ _ _ => rfl)
