/-! rain -/
def pas : Nat → Nat → Nat
  | _, 0 => 1
  | 0, _ + 1 => 0
  | h + 1, i + 1 => pas h (i + 1) + pas h i
def chN (n : Nat) : Nat → Nat
  | 0 => 1
  | j + 1 => chN n j * (n - j) / (j + 1)
theorem chN_pas : ∀ n, n < 13 → ∀ j, j < 14 → (j ≤ n → chN n j = pas n j) ∧ chN n j ≤ 924 := by decide +kernel
theorem pas_out : ∀ h i, h < i → pas h i = 0 := by
  intro h
  induction h with
  | zero =>
    intro i hi
    obtain ⟨k, rfl⟩ : ∃ k, i = k + 1 := ⟨i - 1, by omega⟩
    rfl
  | succ h ih =>
    intro i hi
    obtain ⟨k, rfl⟩ : ∃ k, i = k + 1 := ⟨i - 1, by omega⟩
    show pas h (k + 1) + pas h k = 0
    rw [ih (k + 1) (by omega), ih k (by omega)]
def rnT (o n i : Nat) : Nat := pas n i * o ^ i * (16 - o) ^ (n - i)
theorem rnT_out {o n i : Nat} (h : n < i) : rnT o n i = 0 := by
  unfold rnT
  rw [pas_out n i h, Nat.zero_mul, Nat.zero_mul]
theorem rnT_0 {o n : Nat} : rnT o (n + 1) 0 = rnT o n 0 * (16 - o) := by
  have e : ∀ k, pas k 0 = 1 := fun k => by cases k <;> rfl
  unfold rnT
  rw [e, e, Nat.pow_zero, Nat.sub_zero, Nat.sub_zero, Nat.pow_succ, Nat.one_mul, Nat.one_mul]
theorem rnT_s {o n i : Nat} : rnT o (n + 1) (i + 1) = rnT o n (i + 1) * (16 - o) + rnT o n i * o := by
  by_cases c : i + 1 ≤ n
  · unfold rnT
    have e1 : n + 1 - (i + 1) = (n - (i + 1)) + 1 := by omega
    have e2 : n - i = (n - (i + 1)) + 1 := by omega
    have e3 : pas (n + 1) (i + 1) = pas n (i + 1) + pas n i := rfl
    rw [e1, e2, e3, Nat.pow_succ, Nat.pow_succ, Nat.add_mul, Nat.add_mul]
    generalize pas n (i + 1) = A
    generalize pas n i = B
    generalize o ^ i = P
    generalize (16 - o) ^ (n - (i + 1)) = R
    generalize 16 - o = q
    have x1 : A * (P * o) * (R * q) = A * (P * o) * R * q := by ac_rfl
    have x2 : B * (P * o) * (R * q) = B * P * (R * q) * o := by ac_rfl
    rw [x1, x2]
  · rw [rnT_out (show n < i + 1 by omega), Nat.zero_mul, Nat.zero_add]
    by_cases c2 : n < i
    · rw [rnT_out (show n + 1 < i + 1 by omega), rnT_out c2, Nat.zero_mul]
    · have : i = n := by omega
      subst this
      have e3 : pas (i + 1) (i + 1) = pas i (i + 1) + pas i i := rfl
      unfold rnT
      rw [e3, pas_out i (i + 1) (by omega), Nat.zero_add, Nat.sub_self, Nat.sub_self, Nat.pow_zero, Nat.mul_one, Nat.mul_one, Nat.pow_succ]
      ac_rfl
theorem pw_le {o n : Nat} (ho : o ≤ 16) (hn : n ≤ 12) : o ^ n ≤ 281474976710656 := by
  have h1 : o ^ n ≤ 16 ^ n := Nat.pow_le_pow_left ho n
  have h2 : 16 ^ n ≤ 16 ^ 12 := Nat.pow_le_pow_right (by decide) hn
  have h3 : (16 : Nat) ^ 12 = 281474976710656 := by decide
  omega
theorem pw2_le {o n j : Nat} (ho : o ≤ 16) (hn : n ≤ 12) (hj : j ≤ n) : o ^ j * (16 - o) ^ (n - j) ≤ 281474976710656 := by
  have h1 : o ^ j ≤ 16 ^ j := Nat.pow_le_pow_left ho j
  have h2 : (16 - o) ^ (n - j) ≤ 16 ^ (n - j) := Nat.pow_le_pow_left (by omega) _
  have h3 := Nat.mul_le_mul h1 h2
  rw [← Nat.pow_add, show j + (n - j) = n by omega] at h3
  have h4 := pw_le (Nat.le_refl 16) hn
  omega
theorem rnT_le {o n i : Nat} (ho : o ≤ 16) (hn : n ≤ 12) : rnT o n i ≤ 260082878480646144 := by
  by_cases c : i ≤ n
  · have h1 := (chN_pas n (by omega) i (by omega))
    have h2 := pw2_le ho hn c
    unfold rnT
    rw [← h1.1 c, Nat.mul_assoc]
    have h3 := Nat.mul_le_mul h1.2 h2
    omega
  · rw [rnT_out (by omega)]; omega
/-- what of the first m stands at k or behind -/
def rnS (o n k : Nat) : Nat → Nat
  | 0 => 0
  | m + 1 => if k ≤ m then rnS o n k m + rnT o n m else rnS o n k m
theorem rnS_le {o n k : Nat} (ho : o ≤ 16) (hn : n ≤ 12) : ∀ m, rnS o n k m ≤ 260082878480646144 * m := by
  intro m
  induction m with
  | zero => exact Nat.le_refl _
  | succ m ih =>
    have := rnT_le (i := m) ho hn
    unfold rnS
    split <;> omega
theorem rnS_out {o n k : Nat} : ∀ d m, n < m → rnS o n k (m + d) = rnS o n k m := by
  intro d
  induction d with
  | zero => intro m _; rfl
  | succ d ih =>
    intro m h
    show (if k ≤ m + d then rnS o n k (m + d) + rnT o n (m + d) else rnS o n k (m + d)) = rnS o n k m
    rw [rnT_out (show n < m + d by omega), Nat.add_zero, ite_self]
    exact ih m h
theorem rnS_lo {o n k : Nat} : ∀ m, m ≤ k → rnS o n k m = 0 := by
  intro m
  induction m with
  | zero => intro _; rfl
  | succ m ih =>
    intro h
    unfold rnS
    rw [if_neg (by omega)]
    exact ih (by omega)
theorem s_power {h : Mem} {b t : Nat} {x y : Int} {Q : Int → Mem → Prop} (hx : x = (b : Int)) (hy : y = (t : Int)) (hb : b ≤ 16) (ht : t ≤ 12) (hQ : Q ((b ^ t : Nat) : Int) h) : F_X11_power h x y Q := by
  subst hx hy
  unfold F_X11_power
  have key : ∀ (d i : Nat) (z v : Int), z = (i : Int) → v = ((b ^ i : Nat) : Int) → i + d = t → L_X11_power_5 h (b : Int) (t : Int) v z Q := by
    intro d
    induction d with
    | zero =>
      intro i z v hz hv hi
      subst hz hv
      obtain rfl : i = t := by omega
      refine l_X11_power_5 ?_
      unfold B_X11_power_5
      exact ⟨fun _ => hQ, fun c => absurd (by omega) c⟩
    | succ d ih =>
      intro i z v hz hv hi
      subst hz hv
      refine l_X11_power_5 ?_
      unfold B_X11_power_5
      have e : ((b ^ i : Nat) : Int) * (b : Int) = ((b ^ (i + 1) : Nat) : Int) := by rw [Nat.pow_succ, Int.natCast_mul]
      have p := pw_le hb (show i + 1 ≤ 12 by omega)
      rw [e]
      exact ⟨fun c => absurd c (by omega), fun _ => ⟨⟨by omega, by omega⟩, ⟨by omega, by omega⟩, ih (i + 1) _ _ (by omega) rfl (by omega)⟩⟩
  exact key t 0 0 1 rfl rfl (by omega)
theorem s_wetWays {h : Mem} {n k o : Nat} {z : Int} {Q : Int → Mem → Prop} (hz : z = (o : Int)) (hn : n ≤ 12) (hk : k ≤ 12) (ho : o ≤ 16) (hQ : Q ((rnS o n k 13 : Nat) : Int) h) : F_X11_wetWays h (n : Int) (k : Int) z Q := by
  subst hz
  unfold F_X11_wetWays
  have key : ∀ (d j : Nat) (z v c : Int), z = (j : Int) → v = ((rnS o n k j : Nat) : Int) → c = ((chN n j : Nat) : Int) → j + d = n + 1 → L_X11_wetWays_8 h (n : Int) (k : Int) (o : Int) v c z Q := by
    intro d
    induction d with
    | zero =>
      intro j z v c hz hv hc hi
      subst hz hv hc
      obtain rfl : j = n + 1 := by omega
      refine l_X11_wetWays_8 ?_
      unfold B_X11_wetWays_8
      have e := rnS_out (o := o) (n := n) (k := k) (12 - n) (n + 1) (by omega)
      rw [show n + 1 + (12 - n) = 13 by omega] at e
      rw [e] at hQ
      exact ⟨fun _ => hQ, fun c => absurd (by omega) c⟩
    | succ d ih =>
      intro j z v c hz hv hc hi
      subst hz hv hc
      refine l_X11_wetWays_8 ?_
      unfold B_X11_wetWays_8
      have cp := chN_pas n (by omega) j (by omega)
      have e1 : (n : Int) - (j : Int) = ((n - j : Nat) : Int) := by omega
      have m1 : chN n j * (n - j) ≤ 924 * 12 := Nat.mul_le_mul cp.2 (by omega)
      have jump : ∀ v : Int, v = ((rnS o n k (j + 1) : Nat) : Int) → J_X11_wetWays_46 h (n : Int) (k : Int) (o : Int) v ((chN n j : Nat) : Int) (j : Int) Q := fun v hv => by
        unfold J_X11_wetWays_46
        have e2 : ((chN n j : Nat) : Int) * ((n - j : Nat) : Int) = ((chN n j * (n - j) : Nat) : Int) := by rw [Int.natCast_mul]
        have e3 : (j : Int) + 1 = ((j + 1 : Nat) : Int) := by omega
        have dv : chN n j * (n - j) / (j + 1) ≤ 924 * 12 := Nat.le_trans (Nat.div_le_self _ _) m1
        rw [e1, e2, e3, ← Int.ofNat_tdiv]
        generalize hd : chN n j * (n - j) / (j + 1) = D at dv
        generalize chN n j * (n - j) = E at m1
        refine ⟨⟨by omega, by omega⟩, ⟨by omega, by omega⟩, ⟨by omega, by omega⟩, by omega, ⟨by omega, by omega⟩, fun x16 e16 => ih (j + 1) _ v x16 (by omega) hv ?_ (by omega)⟩
        rw [e16, ← hd]
        rfl
      refine ⟨fun c => absurd c (by omega), fun _ => ⟨fun c => jump _ ?_, fun c => s_power rfl rfl ho (by omega) ?_⟩⟩
      · show ((rnS o n k j : Nat) : Int) = (((if k ≤ j then rnS o n k j + rnT o n j else rnS o n k j) : Nat) : Int)
        rw [if_neg (by omega)]
      · have e4 : (16 : Int) - (o : Int) = ((16 - o : Nat) : Int) := by omega
        have p1 := pw_le ho (show j ≤ 12 by omega)
        have p2 : chN n j * o ^ j ≤ 924 * 281474976710656 := Nat.mul_le_mul cp.2 p1
        have e5 : ((chN n j : Nat) : Int) * ((o ^ j : Nat) : Int) = ((chN n j * o ^ j : Nat) : Int) := by rw [Int.natCast_mul]
        rw [e4, e1, e5]
        refine ⟨⟨by omega, by omega⟩, ⟨by omega, by omega⟩, ⟨by omega, by omega⟩, s_power rfl rfl (by omega) (by omega) ?_⟩
        have e6 : ((chN n j * o ^ j : Nat) : Int) * (((16 - o) ^ (n - j) : Nat) : Int) = ((rnT o n j : Nat) : Int) := by
          unfold rnT
          rw [← cp.1 (by omega)]
          exact (Int.natCast_mul _ _).symm
        have t1 := rnT_le (i := j) ho hn
        have t2 := rnS_le (k := k) ho hn j
        rw [e6]
        refine ⟨⟨by omega, by omega⟩, ⟨by omega, by omega⟩, fun x10 e10 => jump x10 ?_⟩
        rw [e10]
        show _ = (((if k ≤ j then rnS o n k j + rnT o n j else rnS o n k j) : Nat) : Int)
        rw [if_pos (by omega)]
        omega
  exact key (n + 1) 0 0 0 1 rfl rfl rfl (by omega)
