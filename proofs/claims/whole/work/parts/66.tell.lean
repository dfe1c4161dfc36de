/-! fractions -/
theorem gcd_step (p q : Nat) : Nat.gcd q (p % q) = Nat.gcd p q := by rw [Nat.gcd_comm, ← Nat.gcd_rec, Nat.gcd_comm]
theorem mod_half {q r : Nat} (h0 : 0 < r) (h : r ≤ q) : 2 * (q % r) < q := by
  have a := Nat.mod_lt q h0
  have b : q % r = (q - r) % r := Nat.mod_eq_sub_mod h
  have c := Nat.mod_le (q - r) r
  omega
theorem inl_nat {n m : Nat} (h : n ≤ m) (hm : m < 9223372036854775808) : InL (n : Int) := ⟨by omega, by omega⟩
theorem s_cd {h : Mem} {a b : Nat} {Q : Int → Mem → Prop} (ha : a < 2 ^ 63) (hQ : Q ((Nat.gcd a b : Nat) : Int) h) : F_X11_commonDivisor h (a : Int) (b : Int) Q := by
  generalize hG : Nat.gcd a b = G at hQ
  have hd : ∀ (p q n : Nat) (z : Int), z = (n : Int) → n < 200 → Nat.gcd p q = G → (q ≠ 0 → L_X11_commonDivisor_9 h (q : Int) ((p % q : Nat) : Int) ((n : Int) + 1) Q) → L_X11_commonDivisor_9 h (p : Int) (q : Int) z Q := by
    intro p q n z hz hn hg hL
    subst hz
    refine l_X11_commonDivisor_9 ?_
    unfold B_X11_commonDivisor_9
    refine ⟨fun c => absurd c (by omega), fun _ => ⟨fun c => ?_, fun c => ⟨c, fun x2 e2 => ⟨⟨by omega, by omega⟩, ?_⟩⟩⟩⟩
    · obtain rfl : q = 0 := by omega
      rw [Nat.gcd_zero_right] at hg
      rw [hg]
      exact hQ
    · rw [e2]
      exact hL (by omega)
  have key : ∀ (k p q n : Nat) (z : Int), z = (n : Int) → q < 2 ^ k → n + 2 * k + 1 ≤ 200 → Nat.gcd p q = G → L_X11_commonDivisor_9 h (p : Int) (q : Int) z Q := by
    intro k
    induction k with
    | zero =>
      intro p q n z hz hq hn hg
      exact hd p q n z hz (by omega) hg (fun c => absurd (by omega) c)
    | succ k ih =>
      intro p q n z hz hq hn hg
      have e2 : 2 ^ (k + 1) = 2 ^ k * 2 := Nat.pow_succ 2 k
      refine hd p q n z hz (by omega) hg (fun c => hd q (p % q) (n + 1) _ (by omega) (by omega) ((gcd_step p q).trans hg) (fun c2 => ?_))
      have m1 := Nat.mod_lt p (show 0 < q by omega)
      have m2 := mod_half (q := q) (r := p % q) (by omega) (by omega)
      exact ih (p % q) (q % (p % q)) (n + 2) _ (by omega) (by omega) (by omega) ((gcd_step q (p % q)).trans ((gcd_step p q).trans hg))
  exact key 63 b a 0 0 rfl ha (by omega) (by rw [Nat.gcd_comm]; exact hG)
theorem s_tell {h : Mem} {a b : Nat} {Q : Int → Mem → Prop} (ha : a < 9223372036854775808) (hb : 0 < b ∧ b < 9223372036854775808) (hQ : ∀ u, u 0 1 = ((a / Nat.gcd a b : Nat) : Int) → u 0 2 = ((b / Nat.gcd a b : Nat) : Int) → u 0 0 = 0 → (∀ i k, ¬ (i = 0 ∧ k ≤ 2) → u i k = h i k) → Q 1 u) : F_X11_tellFraction h (a : Int) (b : Int) Q := by
  have g0 : 0 < Nat.gcd a b := Nat.gcd_pos_of_pos_right a hb.1
  have la := Nat.div_le_self a (Nat.gcd a b)
  have lb := Nat.div_le_self b (Nat.gcd a b)
  unfold F_X11_tellFraction
  refine s_cd ha ⟨fun c => absurd c (by omega), fun _ => ⟨by omega, ?_, fun h7 e7 => ⟨?_, fun h9 e9 h10 e10 => ⟨Or.inr rfl, hQ h10 ?_ ?_ ?_ (fun i k hk => ?_)⟩⟩⟩⟩
  · show InL ((a / Nat.gcd a b : Nat) : Int)
    exact inl_nat la ha
  · show InL ((b / Nat.gcd a b : Nat) : Int)
    exact inl_nat lb hb.2
  · rw [e10, mset_k (by omega), e9, mset_k (by omega), e7, mset_at]; rfl
  · rw [e10, mset_k (by omega), e9, mset_at]; rfl
  · rw [e10, mset_at]
  · rw [e10, e9, e7]
    unfold mset
    rw [if_neg (by omega), if_neg (by omega), if_neg (by omega)]
theorem q_tell {h : Mem} {a b : Nat} {Q : Int → Mem → Prop} (ha : a < 9223372036854775808) (hb : 0 < b ∧ b < 9223372036854775808) (hQ : ∀ u, u 161 3 = ((a / Nat.gcd a b : Nat) : Int) → u 161 4 = ((b / Nat.gcd a b : Nat) : Int) → u 161 2 = 0 → (∀ i k, ¬ (i = 161 ∧ 2 ≤ k ∧ k ≤ 4) → u i k = h i k) → Q 1 u) : F_X12_tellsBy h (a : Int) (b : Int) Q := by
  have g0 : 0 < Nat.gcd a b := Nat.gcd_pos_of_pos_right a hb.1
  have la := Nat.div_le_self a (Nat.gcd a b)
  have lb := Nat.div_le_self b (Nat.gcd a b)
  generalize hG : Nat.gcd a b = G at *
  have key : ∀ (n q p : Nat), q ≤ n → Nat.gcd p q = G → L_X12_tellsBy_6 h (a : Int) (b : Int) (p : Int) (q : Int) Q := by
    intro n
    induction n with
    | zero =>
      intro q p hq hg
      obtain rfl : q = 0 := by omega
      rw [Nat.gcd_zero_right] at hg
      subst hg
      refine l_X12_tellsBy_6 ?_
      unfold B_X12_tellsBy_6
      refine ⟨fun _ => ⟨by omega, ?_, fun h7 e7 => ⟨?_, fun h9 e9 h10 e10 => ⟨fun c => absurd rfl c, fun _ => ⟨Or.inr rfl, hQ h10 ?_ ?_ ?_ (fun i k hk => ?_)⟩⟩⟩⟩, fun c => absurd rfl c⟩
      · show InL ((a / p : Nat) : Int)
        exact inl_nat la ha
      · show InL ((b / p : Nat) : Int)
        exact inl_nat lb hb.2
      · rw [e10, mset_k (by omega), e9, mset_k (by omega), e7, mset_at]; rfl
      · rw [e10, mset_k (by omega), e9, mset_at]; rfl
      · rw [e10, mset_at]
      · rw [e10, e9, e7]
        unfold mset
        rw [if_neg (by omega), if_neg (by omega), if_neg (by omega)]
    | succ n ih =>
      intro q p hq hg
      by_cases c : q = 0
      · exact ih q p (by omega) hg
      · have m1 := Nat.mod_lt p (show 0 < q by omega)
        refine l_X12_tellsBy_6 ?_
        unfold B_X12_tellsBy_6
        refine ⟨fun z => absurd (by omega) c, fun _ => ⟨by omega, fun x9 e9 => ?_⟩⟩
        rw [e9]
        exact ih (p % q) q (by omega) ((gcd_step p q).trans hg)
  exact key b b a (by omega) hG
