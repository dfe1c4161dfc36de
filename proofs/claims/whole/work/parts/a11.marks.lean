/-! marks -/
/-- the reference's glen behind the place b -/
def Sb (g : Gs) (b : Nat) (v : Mem) : Prop := ∀ z : Mem, (∀ k, k < 80 → z 162 k = v 162 (b + k)) → RXh z g
theorem Sb.fr {g : Gs} {b : Nat} {v u : Mem} (s : Sb g b v) (f : ∀ k, b ≤ k → k < b + 80 → u 162 k = v 162 k) : Sb g b u := fun z hz => s z (fun k hk => by rw [hz k hk, f _ (by omega) (by omega)])
def RNb (h : Mem) (b : Nat) (g : Gs) : Prop := (∀ t, t < gn g → h 163 (b + t) = c8 (g 11 t)) ∧ ∀ m, m < gm g → h 163 (b + (8 + m)) = c8 (g 12 m)
def MkI (h : Mem) (i : Nat) (g : Gs) (d : Dy) : Prop := WF 9999 g ∧ RC h (81 + 15 * i) g ∧ RD h (127 + 6 * i) d ∧ WFD d (g 0 0) (g 0 1) (g 0 2) ∧ Sb g (448 * (i + 1)) h ∧ RDm h (448 * (i + 1)) d ∧ RNb h (12 * (i + 1)) g
def MK (h : Mem) (m : Nat) (mg : Nat → Gs) (md : Nat → Dy) : Prop := m ≤ 3 ∧ h 0 12 = (m : Int) ∧ h 161 43 = (m : Int) ∧ ∀ i, i < m → MkI h i (mg i) (md i)
theorem MkI.fr {h u : Mem} {i : Nat} {g : Gs} {d : Dy} (a : MkI h i g d) (hi : i < 3) (f1 : ∀ j, 81 + 15 * i ≤ j → j < 96 + 15 * i → ∀ k, u j k = h j k) (f2 : ∀ j, 127 + 6 * i ≤ j → j < 133 + 6 * i → ∀ k, u j k = h j k) (f3 : ∀ k, 448 * (i + 1) ≤ k → k < 448 * (i + 2) → u 162 k = h 162 k) (f4 : ∀ k, 12 * (i + 1) ≤ k → k < 12 * (i + 2) → u 163 k = h 163 k) : MkI u i g d := by
  obtain ⟨w, rc, rd, wd, sb, rm, rn⟩ := a
  have d60 : dn d ≤ 60 := by have := wd.2.2.2.2.1; unfold dn; omega
  have nm := w.nm
  refine ⟨w, ?_, rd.fr (fun j j1 j2 k => f2 j j1 (by omega) k), wd, sb.fr (fun k k1 k2 => f3 k k1 (by omega)), rm.fr d60 (fun k hk => f3 k (by omega) (by omega)), fun t ht => by rw [f4 _ (by omega) (by omega)]; exact rn.1 t ht, fun t ht => by rw [f4 _ (by omega) (by omega)]; exact rn.2 t ht⟩
  have q : Fr (96 + 15 * i) 10000 h (fun j k => if j < 96 + 15 * i ∧ 81 + 15 * i ≤ j then u j k else h j k) := fun j hj k => by
    by_cases c : j < 96 + 15 * i ∧ 81 + 15 * i ≤ j
    · show (if j < 96 + 15 * i ∧ 81 + 15 * i ≤ j then u j k else h j k) = h j k
      rw [if_pos c]; exact f1 j c.2 c.1 k
    · show (if j < 96 + 15 * i ∧ 81 + 15 * i ≤ j then u j k else h j k) = h j k
      rw [if_neg c]
  have e : ∀ j k, 81 + 15 * i ≤ j → j < 96 + 15 * i → (fun (j k : Nat) => if j < 96 + 15 * i ∧ 81 + 15 * i ≤ j then u j k else h j k) j k = u j k := fun j k j1 j2 => if_pos ⟨j2, j1⟩
  obtain ⟨⟨⟨a1, a2, a3, a4, a5, a6⟩, ⟨t0, tr⟩, m0, mr⟩, a7⟩ := rc
  refine ⟨⟨⟨?_, ?_, ?_, ?_, ?_, ?_⟩, ⟨?_, fun t ht => ?_⟩, ?_, fun t ht => ?_⟩, ?_⟩
  · rw [f1 _ (by omega) (by omega)]; exact a1
  · rw [f1 _ (by omega) (by omega)]; exact a2
  · rw [f1 _ (by omega) (by omega)]; exact a3
  · rw [f1 _ (by omega) (by omega)]; exact a4
  · rw [f1 _ (by omega) (by omega)]; exact a5
  · rw [f1 _ (by omega) (by omega)]; exact a6
  · rw [f1 _ (by omega) (by omega)]; exact t0
  · rw [f1 _ (by omega) (by omega), f1 _ (by omega) (by omega), f1 _ (by omega) (by omega), f1 _ (by omega) (by omega), f1 _ (by omega) (by omega), f1 _ (by omega) (by omega), f1 _ (by omega) (by omega), f1 _ (by omega) (by omega)]; exact tr t ht
  · rw [f1 _ (by omega) (by omega)]; exact m0
  · rw [f1 _ (by omega) (by omega), f1 _ (by omega) (by omega), f1 _ (by omega) (by omega), f1 _ (by omega) (by omega)]; exact mr t ht
  · rw [f1 _ (by omega) (by omega)]; exact a7
theorem s_copyD {h : Mem} {o p : Nat} {d : Dy} {a b c : Int} {Q : Mem → Prop} (hd : o + 6 ≤ p ∨ p + 6 ≤ o) (rd : RD h p d) (wd : WFD d a b c) (hQ : ∀ u, RD u o d → Fr o (o + 6) h u → Q u) : F_X1_copyFrom h o p Q := by
  have d60 : (dn d : Int) ≤ 60 ∧ (dn d : Int) = d 0 2 := by
    have q1 := wd.2.2.2.1
    have q2 := wd.2.2.2.2.1
    unfold dn
    omega
  obtain ⟨r0, r1, r2, rr⟩ := rd
  unfold F_X1_copyFrom
  refine ⟨by rw [r0]; exact wd.1, fun h2 e2 h3 e3 h4 e4 => ?_⟩
  have c4 : h4 o 2 = ((dn d : Nat) : Int) := by rw [e4, mset_at, e3, mset_i _ (by omega), e2, mset_i _ (by omega), r2]; omega
  have f4 : Fr o (o + 1) h h4 := by rw [e4, e3, e2]; exact ((Fr.rf.st (by omega) (by omega)).st (by omega) (by omega)).st (by omega) (by omega)
  have s4 : h4 o 0 = d 0 0 ∧ h4 o 1 = d 0 1 := by
    rw [e4, mset_k (by omega), mset_k (by omega), e3, mset_k (by omega), mset_at, e2, mset_at, mset_i _ (by omega)]
    exact ⟨r0, r1⟩
  have bd : ∀ x : Int, x = ((dn d : Nat) : Int) → ((0 : Int) ≤ 0 ∧ (0 : Int) ≤ 0 ∧ (0 : Int) ≤ x ∧ 0 + x ≤ 60 ∧ 0 + x ≤ 60) := fun x hx => by omega
  refine ⟨bd _ c4, fun h5 e5 => ?_⟩
  rw [c4, Int.toNat_natCast] at e5
  have c5 : h5 o 2 = ((dn d : Nat) : Int) := by rw [e5, mcpy_i _ (by omega)]; exact c4
  refine ⟨bd _ c5, fun h7 e7 => ?_⟩
  rw [c5, Int.toNat_natCast] at e7
  have c7 : h7 o 2 = ((dn d : Nat) : Int) := by rw [e7, mcpy_i _ (by omega)]; exact c5
  refine ⟨bd _ c7, fun h9 e9 => ?_⟩
  rw [c7, Int.toNat_natCast] at e9
  have c9 : h9 o 2 = ((dn d : Nat) : Int) := by rw [e9, mcpy_i _ (by omega)]; exact c7
  refine ⟨bd _ c9, fun h11 e11 => ?_⟩
  rw [c9, Int.toNat_natCast] at e11
  have c11 : h11 o 2 = ((dn d : Nat) : Int) := by rw [e11, mcpy_i _ (by omega)]; exact c9
  refine ⟨bd _ c11, fun h13 e13 => ?_⟩
  rw [c11, Int.toNat_natCast] at e13
  refine hQ h13 ⟨?_, ?_, ?_, fun k hk => ⟨?_, ?_, ?_, ?_, ?_⟩⟩ ?_
  · rw [e13, mcpy_i _ (by omega), e11, mcpy_i _ (by omega), e9, mcpy_i _ (by omega), e7, mcpy_i _ (by omega), e5, mcpy_i _ (by omega)]; exact s4.1
  · rw [e13, mcpy_i _ (by omega), e11, mcpy_i _ (by omega), e9, mcpy_i _ (by omega), e7, mcpy_i _ (by omega), e5, mcpy_i _ (by omega)]; exact s4.2
  · rw [e13, mcpy_i _ (by omega), c11]; exact d60.2
  · rw [e13, mcpy_i _ (by omega), e11, mcpy_i _ (by omega), e9, mcpy_i _ (by omega), e7, mcpy_i _ (by omega), e5, mcpy_at hk, f4 (p + 1) (by omega)]; exact (rr k hk).1
  · rw [e13, mcpy_i _ (by omega), e11, mcpy_i _ (by omega), e9, mcpy_i _ (by omega), e7, mcpy_at hk, e5, mcpy_i _ (by omega), f4 (p + 2) (by omega)]; exact (rr k hk).2.1
  · rw [e13, mcpy_i _ (by omega), e11, mcpy_i _ (by omega), e9, mcpy_at hk, e7, mcpy_i _ (by omega), e5, mcpy_i _ (by omega), f4 (p + 3) (by omega)]; exact (rr k hk).2.2.1
  · rw [e13, mcpy_i _ (by omega), e11, mcpy_at hk, e9, mcpy_i _ (by omega), e7, mcpy_i _ (by omega), e5, mcpy_i _ (by omega), f4 (p + 4) (by omega)]; exact (rr k hk).2.2.2.1
  · rw [e13, mcpy_at hk, e11, mcpy_i _ (by omega), e9, mcpy_i _ (by omega), e7, mcpy_i _ (by omega), e5, mcpy_i _ (by omega), f4 (p + 5) (by omega)]; exact (rr k hk).2.2.2.2
  · rw [e13, e11, e9, e7, e5]
    exact (((((f4.wd (by omega) (by omega)).cp (by omega) (by omega)).cp (by omega) (by omega)).cp (by omega) (by omega)).cp (by omega) (by omega)).cp (by omega) (by omega)
theorem q_copies {h : Mem} {a b : Nat} {x y : Int} {Q : Mem → Prop} (hx : x = (a : Int)) (hy : y = (b : Int)) (ha : a ≤ 3) (hb : b ≤ 3) (hab : a ≠ b) (hQ : ∀ u, (∀ k, k < 448 → u 162 (448 * b + k) = h 162 (448 * a + k)) → (∀ k, k < 12 → u 163 (12 * b + k) = h 163 (12 * a + k)) → (∀ i k, ¬ (i = 162 ∧ 448 * b ≤ k ∧ k < 448 * b + 448) → ¬ (i = 163 ∧ 12 * b ≤ k ∧ k < 12 * b + 12) → u i k = h i k) → Q u) : F_X12_copies h x y Q := by
  subst hx hy
  unfold F_X12_copies
  have names : ∀ (m i : Nat) (z : Int) (u : Mem), z = (i : Int) → i + m = 12 → (∀ k, k < 448 → u 162 (448 * b + k) = h 162 (448 * a + k)) → (∀ k, k < i → u 163 (12 * b + k) = h 163 (12 * a + k)) → (∀ i k, ¬ (i = 162 ∧ 448 * b ≤ k ∧ k < 448 * b + 448) → ¬ (i = 163 ∧ 12 * b ≤ k ∧ k < 12 * b + 12) → u i k = h i k) → L_X12_copies_41 u (a : Int) (b : Int) z Q := by
    intro m
    induction m with
    | zero =>
      intro i z u hz hi g1 g2 f
      subst hz
      obtain rfl : i = 12 := by omega
      refine l_X12_copies_41 ?_
      unfold B_X12_copies_41
      exact ⟨fun _ => hQ u g1 g2 f, fun q => absurd (by omega) q⟩
    | succ m ih =>
      intro i z u hz hi g1 g2 f
      subst hz
      refine l_X12_copies_41 ?_
      unfold B_X12_copies_41
      have n1 : (12 * (b : Int) + (i : Int)).toNat = 12 * b + i := by omega
      have n2 : (12 * (a : Int) + (i : Int)).toNat = 12 * a + i := by omega
      rw [n1, n2]
      refine ⟨fun q => absurd q (by omega), fun _ => ⟨⟨by omega, by omega⟩, ⟨by omega, by omega⟩, ⟨by omega, by omega⟩, ⟨by omega, by omega⟩, ⟨by omega, by omega⟩, ⟨by omega, by omega⟩, fun h17 e17 => ⟨⟨by omega, by omega⟩, ?_⟩⟩⟩
      subst e17
      refine ih (i + 1) _ _ (by omega) (by omega) (fun k hk => (mset_i _ (by omega)).trans (g1 k hk)) (fun k hk => ?_) (fun j k q1 q2 => ?_)
      · by_cases ck : k = i
        · subst ck; rw [mset_at]; exact f 163 _ (by omega) (by omega)
        · rw [mset_k (by omega)]; exact g2 k (by omega)
      · have : mset u 163 (12 * b + i) (u 163 (12 * a + i)) j k = u j k := by unfold mset; rw [if_neg (by omega)]
        rw [this]
        exact f j k q1 q2
  have cells : ∀ (m i : Nat) (z : Int) (u : Mem), z = (i : Int) → i + m = 448 → (∀ k, k < i → u 162 (448 * b + k) = h 162 (448 * a + k)) → (∀ i k, ¬ (i = 162 ∧ 448 * b ≤ k ∧ k < 448 * b + 448) → u i k = h i k) → L_X12_copies_2 u (a : Int) (b : Int) z Q := by
    intro m
    induction m with
    | zero =>
      intro i z u hz hi g1 f
      subst hz
      obtain rfl : i = 448 := by omega
      refine l_X12_copies_2 ?_
      unfold B_X12_copies_2
      exact ⟨fun _ => names 12 0 0 u rfl (by omega) g1 (fun k hk => absurd hk (by omega)) (fun i k q1 _ => f i k q1), fun q => absurd (by omega) q⟩
    | succ m ih =>
      intro i z u hz hi g1 f
      subst hz
      refine l_X12_copies_2 ?_
      unfold B_X12_copies_2
      have n1 : (448 * (b : Int) + (i : Int)).toNat = 448 * b + i := by omega
      have n2 : (448 * (a : Int) + (i : Int)).toNat = 448 * a + i := by omega
      rw [n1, n2]
      refine ⟨fun q => absurd q (by omega), fun _ => ⟨⟨by omega, by omega⟩, ⟨by omega, by omega⟩, ⟨by omega, by omega⟩, ⟨by omega, by omega⟩, ⟨by omega, by omega⟩, ⟨by omega, by omega⟩, fun h8 e8 => ⟨⟨by omega, by omega⟩, ?_⟩⟩⟩
      subst e8
      refine ih (i + 1) _ _ (by omega) (by omega) (fun k hk => ?_) (fun j k q1 => ?_)
      · by_cases ck : k = i
        · subst ck; rw [mset_at]; exact f 162 _ (by omega)
        · rw [mset_k (by omega)]; exact g1 k (by omega)
      · have : mset u 162 (448 * b + i) (u 162 (448 * a + i)) j k = u j k := by unfold mset; rw [if_neg (by omega)]
        rw [this]
        exact f j k q1
  exact cells 448 0 0 h rfl (by omega) (fun k hk => absurd hk (by omega)) (fun _ _ _ => rfl)
