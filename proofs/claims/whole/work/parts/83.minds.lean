/-! minded, mindedAt, ask: x -/
theorem passN_s : ∀ (j : Nat) (g : Gs), passN (j + 1) g = pass (passN j g) := by
  intro j
  induction j with
  | zero => intro g; rfl
  | succ j ih => intro g; exact ih (pass g)
def trn (g : Gs) (t m : Nat) (j : Nat) : Int := tn (passN j (gset g 3 t (m : Int)))
def tb (g : Gs) (t m : Nat) : Nat → Nat
  | 0 => 0
  | j + 1 => if trn g t m j = 1 then 2 ^ j * 1 + tb g t m j else tb g t m j
theorem tb_lt {g : Gs} {t m : Nat} : ∀ j, tb g t m j < 2 ^ j := by
  intro j
  induction j with
  | zero => exact Nat.zero_lt_one
  | succ j ih =>
    rw [Nat.pow_succ]
    unfold tb
    split <;> omega
theorem tb_bit {g : Gs} {t m : Nat} : ∀ j i, i < j → ((tb g t m j).testBit i = true ↔ trn g t m i = 1) := by
  intro j
  induction j with
  | zero => intro i hi; omega
  | succ j ih =>
    intro i hi
    unfold tb
    have lt := tb_lt (g := g) (t := t) (m := m) j
    by_cases c : trn g t m j = 1
    · rw [if_pos c, Nat.mul_one]
      by_cases e : i = j
      · subst e
        rw [Nat.testBit_two_pow_add_eq, Nat.testBit_lt_two_pow lt]
        exact ⟨fun _ => c, fun _ => rfl⟩
      · rw [Nat.testBit_two_pow_add_gt (by omega)]
        exact ih i (by omega)
    · rw [if_neg c]
      by_cases e : i = j
      · subst e
        rw [Nat.testBit_lt_two_pow lt]
        exact ⟨fun z => absurd z (by decide), fun z => absurd z c⟩
      · exact ih i (by omega)
/-- whether what was seen (S: hours and signs by twos) fits with the mind m, the first k -/
def ft (g : Gs) (t m : Nat) (S : Nat → Int) : Nat → Int
  | 0 => 1
  | k + 1 => if ft g t m S k = 1 ∧ trn g t m (S (2 * k)).toNat = S (2 * k + 1) then 1 else 0
theorem ft_01 {g : Gs} {t m : Nat} {S : Nat → Int} (k : Nat) : ft g t m S k = 0 ∨ ft g t m S k = 1 := by
  cases k with
  | zero => exact Or.inr rfl
  | succ k => unfold ft; split <;> simp
theorem ft_0 {g : Gs} {t m : Nat} {S : Nat → Int} : ∀ (d k : Nat), ft g t m S k = 0 → ft g t m S (k + d) = 0 := by
  intro d
  induction d with
  | zero => intro k h; exact h
  | succ d ih =>
    intro k h
    have q := ih k h
    show ft g t m S (k + d + 1) = 0
    unfold ft
    rw [if_neg (by omega)]
def okSeen (S : Nat → Int) (n : Nat) : Prop := ∀ i, i < n → 0 ≤ S (2 * i) ∧ S (2 * i) ≤ 60 ∧ 0 ≤ S (2 * i + 1) ∧ S (2 * i + 1) ≤ 1
theorem s_fits {h : Mem} {g : Gs} {t m o n : Nat} {Q : Int → Mem → Prop} (ho : lay o = (2, 60)) (hn : n ≤ 20) (ok : okSeen (fun k => h o k) n) (hQ : Q (ft g t m (fun k => h o k) n) h) : F_X0_fitsAll h ((tb g t m 61 : Nat) : Int) o (n : Int) Q := by
  unfold F_X0_fitsAll
  have lt := tb_lt (g := g) (t := t) (m := m) 61
  have key : ∀ (d i : Nat) (z : Int), z = (i : Int) → i + d = n → ft g t m (fun k => h o k) i = 1 → L_X0_fitsAll_3 h ((tb g t m 61 : Nat) : Int) o (n : Int) z Q := by
    intro d
    induction d with
    | zero =>
      intro i z hz hi f1
      subst hz
      obtain rfl : i = n := by omega
      refine l_X0_fitsAll_3 ho ?_
      unfold B_X0_fitsAll_3
      rw [f1] at hQ
      exact ⟨fun _ => hQ, fun c => absurd (by omega) c⟩
    | succ d ih =>
      intro i z hz hi f1
      subst hz
      refine l_X0_fitsAll_3 ho ?_
      unfold B_X0_fitsAll_3
      have oki := ok i (by omega)
      have o1 : 0 ≤ h o (2 * i) ∧ h o (2 * i) ≤ 60 ∧ 0 ≤ h o (2 * i + 1) ∧ h o (2 * i + 1) ≤ 1 := oki
      have e1 : (2 * (i : Int)).toNat = 2 * i := by omega
      have e2 : (2 * (i : Int) + 1).toNat = 2 * i + 1 := by omega
      obtain ⟨k, hk⟩ : ∃ k : Nat, h o (2 * i) = (k : Int) := ⟨(h o (2 * i)).toNat, by omega⟩
      rw [e1, e2, l2i_s (by omega), hk, l_bit (by omega) (by omega)]
      have tbit := tb_bit (g := g) (t := t) (m := m) 61 k (by omega)
      have fs : ft g t m (fun k => h o k) (i + 1) = if ft g t m (fun k => h o k) i = 1 ∧ trn g t m (h o (2 * i)).toNat = h o (2 * i + 1) then 1 else 0 := rfl
      have t01 : trn g t m k = 0 ∨ trn g t m k = 1 := tn_01 _
      rw [f1, hk, Int.toNat_natCast] at fs
      have ev : (if (tb g t m 61).testBit k = true then (1 : Int) else 0) = trn g t m k := by
        by_cases c : trn g t m k = 1
        · rw [if_pos (tbit.mpr c), c]
        · rw [if_neg (fun q => c (tbit.mp q))]; omega
      rw [ev]
      refine ⟨fun c => absurd c (by omega), fun _ => ⟨⟨by omega, by omega⟩, ⟨by omega, by omega⟩, ⟨by omega, by omega⟩, ⟨by omega, by omega⟩, fun c => ⟨⟨by omega, by omega⟩, ?_⟩, fun c => ?_⟩⟩
      · exact ih (i + 1) _ (by omega) (by omega) (by rw [fs, if_pos ⟨rfl, c⟩])
      · rw [if_neg (fun q => c q.2)] at fs
        have f0 := ft_0 d (i + 1) fs
        rw [show i + 1 + d = n by omega] at f0
        rw [f0] at hQ
        exact hQ
  exact key n 0 0 rfl (by omega) rfl
theorem s_goBack3 {h : Mem} {g g1 g' : Gs} {Q : Mem → Prop} (s : SameF g1 g') (ru : RC h 146 g') (r12 : RC h 12 g) (d0 : ∀ i, g1 0 i = g 0 i) (dt : ∀ k t, 4 ≤ k → k ≤ 10 → g1 k t = g k t) (nm : gn g ≤ 8 ∧ gm g ≤ 4) (hQ : ∀ v, RC v 146 g1 → Fr 146 161 h v → Q v) : F_X4_goBackTo h 146 12 Q := by
  obtain ⟨⟨⟨a0, a1, a2, -, -, -⟩, aT, aM⟩, -⟩ := ru
  obtain ⟨⟨⟨-, -, -, b3, b4, b6⟩, bT, bM⟩, b5⟩ := r12
  have m1 : gn g1 = gn g := by unfold gn; rw [d0]
  have m2 : gm g1 = gm g := by unfold gm; rw [d0]
  have n1 : gn g' = gn g := by unfold gn; rw [s.1 0 (by omega), d0]
  have n2 : gm g' = gm g := by unfold gm; rw [s.1 1 (by omega), d0]
  unfold F_X4_goBackTo F_X7_copyGroundFrom
  intro h1 e1 h2 e2 h3 e3 h4 e4
  have hp : ∀ k, ∀ u, Fr 146 147 h u → u 12 k = h 12 k := fun k u f => f 12 (by omega) k
  have f1 : Fr 146 147 h h1 := by rw [e1]; exact Fr.rf.st (by omega) (by omega)
  have f2 : Fr 146 147 h h2 := by rw [e2]; exact f1.st (by omega) (by omega)
  have f3 : Fr 146 147 h h3 := by rw [e3]; exact f2.st (by omega) (by omega)
  have f4 : Fr 146 147 h h4 := by rw [e4]; exact f3.st (by omega) (by omega)
  rw [hp _ _ f1] at e2
  rw [hp _ _ f2] at e3
  rw [hp _ _ f3] at e4
  have c : h4 146 0 = g1 0 2 ∧ h4 146 1 = g1 0 3 ∧ h4 146 2 = g1 0 4 ∧ h4 146 3 = g1 0 6 ∧ h4 146 4 = g1 0 7 ∧ h4 146 6 = g1 0 8 ∧ h4 146 5 = g1 0 5 := by
    rw [e4, e3, e2, e1, b3, b4, b5, b6, d0 6, d0 7, d0 8, d0 5, ← s.1 2 (by omega), ← s.1 3 (by omega), ← s.1 4 (by omega), ← a0, ← a1, ← a2]
    refine ⟨?_, ?_, ?_, ?_, ?_, ?_, ?_⟩ <;> simp [mset]
  obtain ⟨c0, c1, c2, c3, c4, c6, c5⟩ := c
  refine s_copyPlaces (T := 147) (S := 13) (by omega) (fun u hu fu => ?_)
  intro v ev0
  have ev : v = mcpy u 26 0 160 0 4 := ev0
  have fv : Fr 160 161 u v := by rw [ev]; exact Fr.rf.cp (by omega) (by omega)
  have old : ∀ i, (i < 146 ∨ i = 147 ∨ i = 148 ∨ i = 149 ∨ i = 150 ∨ i = 151 ∨ i = 156 ∨ i = 157 ∨ i = 158 ∨ i = 159) → ∀ k, v i k = h i k := fun i hi k => by
    rw [fv i (by omega), fu i (by omega), f4 i (by omega)]
  have o2 : ∀ k, v 146 k = h4 146 k := fun k => by rw [fv 146 (by omega), fu 146 (by omega)]
  refine hQ v ⟨⟨⟨(o2 0).trans c0, (o2 1).trans c1, (o2 2).trans c2, (o2 3).trans c3, (o2 4).trans c4, (o2 6).trans c6⟩, ⟨?_, fun t ht => ?_⟩, ?_, fun t ht => ?_⟩, (o2 5).trans c5⟩ ?_
  · rw [old 147 (by omega), ← s.1 0 (by omega)]; exact aT.1
  · obtain ⟨p1, p2, p3, p4, -, -, -, -⟩ := aT.2 t (by omega)
    obtain ⟨-, -, -, -, q5, q6, q7, q8⟩ := bT.2 t (by omega)
    obtain ⟨k5, k6, k7, k8⟩ := hu t (by omega)
    refine ⟨?_, ?_, ?_, ?_, ?_, ?_, ?_, ?_⟩
    · rw [old 148 (by omega), ← s.2 11 t (by omega)]; exact p1
    · rw [old 149 (by omega), ← s.2 1 t (by omega)]; exact p2
    · rw [old 150 (by omega), ← s.2 2 t (by omega)]; exact p3
    · rw [old 151 (by omega), ← s.2 3 t (by omega)]; exact p4
    · rw [fv 152 (by omega), dt 4 t (by omega) (by omega)]; exact k5.trans ((f4 18 (by omega) t).trans q5)
    · rw [fv 153 (by omega), dt 5 t (by omega) (by omega)]; exact k6.trans ((f4 19 (by omega) t).trans q6)
    · rw [fv 154 (by omega), dt 6 t (by omega) (by omega)]; exact k7.trans ((f4 20 (by omega) t).trans q7)
    · rw [fv 155 (by omega), dt 7 t (by omega) (by omega)]; exact k8.trans ((f4 21 (by omega) t).trans q8)
  · rw [old 156 (by omega), ← s.1 1 (by omega)]; exact aM.1
  · obtain ⟨p1, p2, p3, -⟩ := aM.2 t (by omega)
    obtain ⟨-, -, -, q4⟩ := bM.2 t (by omega)
    refine ⟨?_, ?_, ?_, ?_⟩
    · rw [old 157 (by omega), ← s.2 12 t (by omega)]; exact p1
    · rw [old 158 (by omega), ← s.2 8 t (by omega)]; exact p2
    · rw [old 159 (by omega), ← s.2 9 t (by omega)]; exact p3
    · show v 160 t = g1 10 t
      rw [ev, mcpy_at (by omega), fu 26 (by omega), f4 26 (by omega), dt 10 t (by omega) (by omega)]; exact q4
  · exact ((f4.wd (by omega) (by omega)).tr (fu.wd (by omega) (by omega))).tr (fv.wd (by omega) (by omega))
