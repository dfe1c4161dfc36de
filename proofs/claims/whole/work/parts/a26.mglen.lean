/-! the reference reads a glen -/
def RW (h : Mem) (g : Gs) : Prop := (∀ i, i ≤ 8 → h 162 (1792 + i) = g 0 i) ∧ (∀ t k, t < gn g → k < 7 → h 162 (1804 + 7 * t + k) = g (k + 1) t) ∧ (∀ m k, m < gm g → k < 3 → h 162 (1860 + 3 * m + k) = g (8 + k) m) ∧ (∀ t, t < gn g → h 163 (48 + t) = c8 (g 11 t)) ∧ (∀ m, m < gm g → h 163 (56 + m) = c8 (g 12 m)) ∧ (∀ k, 1804 + 7 * gn g ≤ k → k < 1860 → h 162 k = 0) ∧ (∀ k, 1860 + 3 * gm g ≤ k → k < 1872 → h 162 k = 0) ∧ h 162 1801 = -1
def FNf (h u : Mem) : Prop := ∀ i k, ¬ (i = 161 ∧ 12 ≤ k ∧ k ≤ 20 ∧ k ≠ 16 ∧ k ≠ 19) → ¬ (i = 162 ∧ 1792 ≤ k ∧ k < 2240) → ¬ (i = 163 ∧ 48 ≤ k ∧ k < 60) → u i k = h i k
theorem FNf.rf {h : Mem} : FNf h h := fun _ _ _ _ _ => rfl
theorem FNf.tr {h h1 h2 : Mem} (a : FNf h h1) (b : FNf h1 h2) : FNf h h2 := fun i k p q r => (b i k p q r).trans (a i k p q r)
theorem FNf.of {h u : Mem} (a : FTf h u) : FNf h u := fun i k p _ _ => a i k (by omega)
theorem FNf.st {h u : Mem} {i k : Nat} {v : Int} (a : FNf h u) (hi : (i = 161 ∧ 12 ≤ k ∧ k ≤ 20 ∧ k ≠ 16 ∧ k ≠ 19) ∨ (i = 162 ∧ 1792 ≤ k ∧ k < 2240) ∨ (i = 163 ∧ 48 ≤ k ∧ k < 60)) : FNf h (mset u i k v) := fun j l p q r => (mset_o (by omega)).trans (a j l p q r)
theorem RW.same {h u : Mem} {g : Gs} (w : gn g ≤ 8 ∧ gm g ≤ 4) (r : RW h g) (f : ∀ i k, (i = 162 ∧ 1792 ≤ k ∧ k < 1872) ∨ (i = 163 ∧ 48 ≤ k ∧ k < 60) → u i k = h i k) : RW u g := by
  obtain ⟨a, b, c, d, e, z1, z2, z3⟩ := r
  refine ⟨fun i hi => ?_, fun t k ht hk => ?_, fun m k hm hk => ?_, fun t ht => ?_, fun m hm => ?_, fun k k1 k2 => ?_, fun k k1 k2 => ?_, ?_⟩
  · rw [f 162 _ (by omega)]; exact a i hi
  · rw [f 162 _ (by omega)]; exact b t k ht hk
  · rw [f 162 _ (by omega)]; exact c m k hm hk
  · rw [f 163 _ (by omega)]; exact d t ht
  · rw [f 163 _ (by omega)]; exact e m hm
  · rw [f 162 _ (by omega)]; exact z1 k k1 k2
  · rw [f 162 _ (by omega)]; exact z2 k k1 k2
  · rw [f 162 _ (by omega)]; exact z3
theorem RW.setS {h : Mem} {g : Gs} {i : Nat} {v x : Int} (w : gn g ≤ 8 ∧ gm g ≤ 4) (r : RW h g) (hi : i = 2 ∨ i = 3 ∨ i = 4 ∨ i = 6 ∨ i = 7) (hx : x = ((1792 + i : Nat) : Int)) : RW (mset h 162 x.toNat v) (sset g i v) := by
  subst hx
  rw [Int.toNat_natCast]
  obtain ⟨a, b, c, d, e, z1, z2, z3⟩ := r
  obtain ⟨n1, n2, n3, n4⟩ := ks_names (g := g) (i := i) (v := v) (by omega)
  refine ⟨fun j hj => ?_, fun t k ht hk => ?_, fun m k hm hk => ?_, fun t ht => ?_, fun m hm => ?_, fun k k1 k2 => ?_, fun k k1 k2 => ?_, ?_⟩
  · by_cases q : j = i
    · subst q; rw [mset_at]; unfold sset; rw [if_pos ⟨rfl, rfl⟩]
    · rw [mset_k (by omega)]; unfold sset; rw [if_neg (by omega)]; exact a j hj
  · rw [n1] at ht; rw [mset_k (by omega), n3 _ _ (by omega)]; exact b t k ht hk
  · rw [n2] at hm; rw [mset_k (by omega), n3 _ _ (by omega)]; exact c m k hm hk
  · rw [n1] at ht; rw [mset_i _ (by omega), n3 _ _ (by omega)]; exact d t ht
  · rw [n2] at hm; rw [mset_i _ (by omega), n3 _ _ (by omega)]; exact e m hm
  · rw [n1] at k1; rw [mset_k (by omega)]; exact z1 k k1 k2
  · rw [n2] at k1; rw [mset_k (by omega)]; exact z2 k k1 k2
  · rw [mset_k (by omega)]; exact z3
theorem RW.newT {h u : Mem} {g g' : Gs} (r : RW h g) (n8 : gn g < 8) (g00 : (gn g : Int) = g 0 0) (e0 : g' 0 0 = g 0 0 + 1) (es : ∀ i, i ≠ 0 → g' 0 i = g 0 i) (et : ∀ f t, t ≠ gn g → f ≠ 0 → g' f t = g f t) (em : ∀ f t, 8 ≤ f → f ≠ 11 → g' f t = g f t) (z6 : g' 6 (gn g) = 0) (z7 : g' 7 (gn g) = 0)
    (u0 : u 162 1792 = g 0 0 + 1) (uk : ∀ k, k < 5 → u 162 (1804 + 7 * gn g + k) = g' (k + 1) (gn g)) (un : u 163 (48 + gn g) = c8 (g' 11 (gn g)))
    (fr : ∀ i k, (i = 162 ∧ 1792 < k ∧ k < 1872 ∧ ¬ (1804 + 7 * gn g ≤ k ∧ k < 1804 + 7 * gn g + 5)) ∨ (i = 163 ∧ 48 ≤ k ∧ k < 60 ∧ k ≠ 48 + gn g) → u i k = h i k) (m4 : gm g ≤ 4) : RW u g' := by
  obtain ⟨a, b, c, d, e, z1, z2, z3⟩ := r
  have n1 : gn g' = gn g + 1 := by unfold gn; rw [e0]; unfold gn at g00; omega
  have n2 : gm g' = gm g := by unfold gm; rw [es 1 (by omega)]
  refine ⟨fun j hj => ?_, fun t k ht hk => ?_, fun m k hm hk => ?_, fun t ht => ?_, fun m hm => ?_, fun k k1 k2 => ?_, fun k k1 k2 => ?_, ?_⟩
  · by_cases q : j = 0
    · subst q; rw [u0, e0]
    · rw [fr 162 _ (by omega), es j q]; exact a j hj
  · by_cases q : t = gn g
    · subst q
      by_cases k5 : k < 5
      · exact uk k k5
      · rw [fr 162 _ (by omega), z1 _ (by omega) (by omega)]
        by_cases k6 : k = 5
        · subst k6; exact z6.symm
        · obtain rfl : k = 6 := by omega
          exact z7.symm
    · rw [fr 162 _ (by omega), et _ _ q (by omega)]; exact b t k (by omega) hk
  · rw [n2] at hm; rw [fr 162 _ (by omega), em _ _ (by omega) (by omega)]; exact c m k hm hk
  · by_cases q : t = gn g
    · subst q; exact un
    · rw [fr 163 _ (by omega), et _ _ q (by omega)]; exact d t (by omega)
  · rw [n2] at hm; rw [fr 163 _ (by omega), em _ _ (by omega) (by omega)]; exact e m hm
  · rw [n1] at k1; rw [fr 162 _ (by omega)]; exact z1 k (by omega) k2
  · rw [n2] at k1; rw [fr 162 _ (by omega)]; exact z2 k k1 k2
  · rw [fr 162 _ (by omega)]; exact z3
theorem RW.newM {h u : Mem} {g g' : Gs} (r : RW h g) (n4 : gm g < 4) (g01 : (gm g : Int) = g 0 1) (e0 : g' 0 1 = g 0 1 + 1) (es : ∀ i, i ≠ 1 → g' 0 i = g 0 i) (et : ∀ f t, t ≠ gm g → f ≠ 0 → g' f t = g f t) (em : ∀ f t, f ≠ 0 → f < 8 ∨ f = 11 → g' f t = g f t) (z6 : g' 10 (gm g) = 0)
    (u0 : u 162 1793 = g 0 1 + 1) (uk : ∀ k, k < 2 → u 162 (1860 + 3 * gm g + k) = g' (8 + k) (gm g)) (un : u 163 (56 + gm g) = c8 (g' 12 (gm g)))
    (fr : ∀ i k, (i = 162 ∧ 1792 ≤ k ∧ k ≠ 1793 ∧ k < 1872 ∧ ¬ (1860 + 3 * gm g ≤ k ∧ k < 1860 + 3 * gm g + 2)) ∨ (i = 163 ∧ 48 ≤ k ∧ k < 60 ∧ k ≠ 56 + gm g) → u i k = h i k) (n8 : gn g ≤ 8) : RW u g' := by
  obtain ⟨a, b, c, d, e, z1, z2, z3⟩ := r
  have n1 : gm g' = gm g + 1 := by unfold gm; rw [e0]; unfold gm at g01; omega
  have n2 : gn g' = gn g := by unfold gn; rw [es 0 (by omega)]
  refine ⟨fun j hj => ?_, fun t k ht hk => ?_, fun m k hm hk => ?_, fun t ht => ?_, fun m hm => ?_, fun k k1 k2 => ?_, fun k k1 k2 => ?_, ?_⟩
  · by_cases q : j = 1
    · subst q; rw [u0, e0]
    · rw [fr 162 _ (by omega), es j q]; exact a j hj
  · rw [n2] at ht; rw [fr 162 _ (by omega), em _ _ (by omega) (by omega)]; exact b t k ht hk
  · by_cases q : m = gm g
    · subst q
      by_cases k2 : k < 2
      · exact uk k k2
      · obtain rfl : k = 2 := by omega
        rw [fr 162 _ (by omega), z2 _ (by omega) (by omega)]; exact z6.symm
    · rw [fr 162 _ (by omega), et _ _ q (by omega)]; exact c m k (by omega) hk
  · rw [n2] at ht; rw [fr 163 _ (by omega), em _ _ (by omega) (by omega)]; exact d t ht
  · by_cases q : m = gm g
    · subst q; exact un
    · rw [fr 163 _ (by omega), et _ _ q (by omega)]; exact e m (by omega)
  · rw [n2] at k1; rw [fr 162 _ (by omega)]; exact z1 k k1 k2
  · rw [n1] at k1; rw [fr 162 _ (by omega)]; exact z2 k (by omega) k2
  · rw [fr 162 _ (by omega)]; exact z3
def rT (T a b : Nat) : Nat := (if T.testBit 0 = false ∧ (T.testBit 3 = true ∨ a = 1 ∨ b = 1) then T + 1 else T) + 16 * a + 32 * b
def rB (T a b : Nat) : Bool := T.testBit 0 || T.testBit 3 || decide (a = 1) || decide (b = 1)
theorem told_m0 : ∀ T : Nat, T < 16 → ∀ a : Nat, a < 2 → ∀ b : Nat, b < 2 → (iand (ishr ((rT T a b : Nat) : Int) 0) 1 = 1 ↔ rB T a b = true) := by decide +kernel
theorem told_mk : ∀ T : Nat, T < 16 → ∀ a : Nat, a < 2 → ∀ b : Nat, b < 2 → ∀ k : Nat, k < 3 → (iand (ishr ((rT T a b : Nat) : Int) ((k + 1 : Nat) : Int)) 1 = 1 ↔ T.testBit (k + 1) = true) := by decide +kernel
theorem told_ms : ∀ T : Nat, T < 16 → ∀ a : Nat, a < 2 → ∀ b : Nat, b < 2 → ∀ k : Nat, k < 3 → ior ((rT T a b : Nat) : Int) (ior (ishl 1 (k : Int)) 0) = ((rT (sT T k) a b : Nat) : Int) := by decide +kernel
theorem told_m3 : ∀ T : Nat, T < 16 → ∀ a : Nat, a < 2 → ∀ b : Nat, b < 2 → ior ((rT T a b : Nat) : Int) (ior (ishl 1 3) 1) = ((rT (sT T 3) a b : Nat) : Int) := by decide +kernel
theorem told_m4 : ∀ T : Nat, T < 16 → ∀ a : Nat, a < 2 → ∀ b : Nat, b < 2 → ior ((rT T a b : Nat) : Int) (ior (ishl 1 4) 1) = ((rT T 1 b : Nat) : Int) := by decide +kernel
theorem told_m5 : ∀ T : Nat, T < 16 → ∀ a : Nat, a < 2 → ∀ b : Nat, b < 2 → ior ((rT T a b : Nat) : Int) (ior (ishl 1 5) 1) = ((rT T a 1 : Nat) : Int) := by decide +kernel
theorem kj_kind : ∀ i : Nat, i < 24 → (6 ≤ kj i ∧ kj i ≤ 8 ↔ 4 ≤ i ∧ i ≤ 6) ∧ (4 ≤ i → i ≤ 6 → kj i - 6 = (i : Int) - 4) := by decide +kernel
theorem kj_part : ∀ i : Nat, i < 24 → (kj i ≤ 5 ↔ i ≤ 3 ∨ i = 7 ∨ i = 12) ∧ (i ≤ 3 → kj i = i) := by decide +kernel
