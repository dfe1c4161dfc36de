theorem rg10 {v : Mem} (g : Rg v) (q : Nat) : InB (v 10 q) := g 10 q
theorem rg167 {v : Mem} (g : Rg v) (q : Nat) : InB (v 167 q) := g 167 q
theorem i2b_ok : ∀ k : Nat, k < 256 → i2b ((k : Int) - 128) = (k : Int) - 128 := by decide +kernel
theorem i2b_s {c : Int} (h : InB c) : i2b c = c := by
  have q := i2b_ok (c + 128).toNat (by omega)
  rw [show (((c + 128).toNat : Nat) : Int) - 128 = c by omega] at q
  exact q
def FBf (h u : Mem) : Prop := ∀ i k, ¬ (i = 161 ∧ 10 ≤ k ∧ k ≤ 19 ∧ k ≠ 16) → ¬ (i = 168) → u i k = h i k
/-- the text is the reference's, too -/
theorem q_begins {h : Mem} {n q : Nat} {a b : Int} {most : Nat} {Q : Int → Mem → Prop} (ha : a = (n : Int)) (hb : b = (most : Int)) (hm : most ≤ 900) (hq : h 161 10 = (q : Int)) (hnq : n ≤ q) (hnm : n ≤ most) (hQ : ∀ u, FBf h u → u 161 10 = 0 → MS u (fun k => h 167 k) n (rn Pb (fun k => h 167 k) n 0) → Q 1 u) : F_X12_begins h a b Q := by
  subst ha hb
  unfold F_X12_begins
  refine ⟨fun z => absurd z (by omega), fun _ => ⟨fun z => absurd z (by omega), fun _ => ⟨fun _ h1 e1 => ?_, fun z => absurd (by omega) z⟩⟩⟩
  have key : ∀ (m i : Nat) (z : Int) (u : Mem), i + m = n → z = (i : Int) → (∀ k, k < i → u 168 k = h 167 k) → (∀ k, k < i → InB (h 167 k)) → u 161 11 = (n : Int) → (∀ j k, ¬ (j = 161 ∧ k = 11) → j ≠ 168 → u j k = h j k) → L_X12_begins_26 u (n : Int) z Q := by
    intro m
    induction m with
    | zero =>
      intro i z u hi hz row inb u11 f
      subst hz
      obtain rfl : i = n := by omega
      refine l_X12_begins_26 ?_
      unfold B_X12_begins_26
      refine ⟨fun _ h2 e2 h3 e3 h4 e4 h5 e5 h6 e6 => ?_, fun z => absurd (by omega) z⟩
      have c : ∀ j k, j ≠ 161 → h6 j k = u j k := fun j k hj => by rw [e6, mset_i _ hj, e5, mset_i _ hj, e4, mset_i _ hj, e3, mset_i _ hj, e2, mset_i _ hj]
      have c11 : h6 161 11 = (i : Int) := by rw [e6, mset_k (by omega), e5, mset_k (by omega), e4, mset_k (by omega), e3, mset_k (by omega), e2, mset_k (by omega)]; exact u11
      have c14 : h6 161 14 = ((0 : Nat) : Int) := by rw [e6, mset_k (by omega), e5, mset_at]; rfl
      have c18 : h6 161 18 = 0 := by rw [e6, mset_k (by omega), e5, mset_k (by omega), e4, mset_k (by omega), e3, mset_at]
      have c17 : h6 161 17 = -1 := by rw [e6, mset_k (by omega), e5, mset_k (by omega), e4, mset_at]
      have c10 : h6 161 10 = 0 := by rw [e6, mset_k (by omega), e5, mset_k (by omega), e4, mset_k (by omega), e3, mset_k (by omega), e2, mset_at]
      have mb : MB h6 (fun k => h 167 k) i := ⟨by omega, c11, fun k hk => by rw [c 168 k (by omega)]; exact row k hk, fun k hk => inb k hk⟩
      refine q_ahead mb (Nat.zero_le _) c14 (fun v fv mt => hQ v ?_ ?_ ⟨mt, ?_, ?_⟩)
      · intro j k p1 p2
        rw [fv j k (by omega)]
        by_cases e : j = 161
        · subst e
          rw [e6, mset_k (by omega), e5, mset_k (by omega), e4, mset_k (by omega), e3, mset_k (by omega), e2, mset_k (by omega)]
          exact f 161 k (by omega) (by omega)
        · rw [c j k e]; exact f j k (by omega) p2
      · rw [fv 161 10 (by omega)]; exact c10
      · rw [fv 161 18 (by omega)]; exact c18
      · rw [fv 161 17 (by omega)]; exact c17
    | succ m ih =>
      intro i z u hi hz row inb u11 f
      subst hz
      refine aw_rg (fun rg => ?_)
      have ib : InB (h 167 i) := by rw [← f 167 i (by omega) (by omega)]; exact rg167 rg i
      refine l_X12_begins_26 ?_
      unfold B_X12_begins_26
      rw [Int.toNat_natCast, f 167 i (by omega) (by omega), i2b_s ib]
      refine ⟨fun z => absurd z (by omega), fun _ => ⟨⟨by omega, by omega⟩, fun h11 e11 => ⟨⟨by omega, by omega⟩, ih (i + 1) _ h11 (by omega) (by omega) (fun k hk => ?_) (fun k hk => ?_) ?_ (fun j k p1 p2 => ?_)⟩⟩⟩
      · rw [e11]
        by_cases c : k = i
        · subst c; rw [mset_at]
        · rw [mset_k c]; exact row k (by omega)
      · by_cases c : k = i
        · subst c; exact ib
        · exact inb k (by omega)
      · rw [e11, mset_i _ (by omega)]; exact u11
      · rw [e11, mset_i _ p2]; exact f j k p1 p2
  refine key n 0 0 h1 (by omega) rfl (fun k hk => absurd hk (by omega)) (fun k hk => absurd hk (by omega)) (by rw [e1, mset_at]) (fun j k p1 p2 => by rw [e1, mset_o p1])
theorem q_plain {h : Mem} {Q : Mem → Prop} (hQ : ∀ u, RW u g0 → (∀ i k, ¬ (i = 162 ∧ 1792 ≤ k ∧ k < 2240) → u i k = h i k) → Q u) : F_X12_plain h 1792 Q := by
  unfold F_X12_plain
  have key : ∀ (m i : Nat) (z : Int) (u : Mem), i + m = 448 → z = (i : Int) → (∀ k, k < i → u 162 (1792 + k) = 0) → (∀ j k, ¬ (j = 162 ∧ 1792 ≤ k ∧ k < 2240) → u j k = h j k) → L_X12_plain_2 u 1792 z Q := by
    intro m
    induction m with
    | zero =>
      intro i z u hi hz row f
      subst hz
      obtain rfl : i = 448 := by omega
      refine l_X12_plain_2 ?_
      unfold B_X12_plain_2
      refine ⟨fun _ => ⟨⟨by omega, by omega⟩, ⟨by omega, by omega⟩, fun h3 e3 => ⟨⟨by omega, by omega⟩, ⟨by omega, by omega⟩, fun h6 e6 => ⟨⟨by omega, by omega⟩, ⟨by omega, by omega⟩, fun h9 e9 => ⟨⟨by omega, by omega⟩, ⟨by omega, by omega⟩, fun h12 e12 => ⟨⟨by omega, by omega⟩, ⟨by omega, by omega⟩, fun h15 e15 => ?_⟩⟩⟩⟩⟩, fun z => absurd (by omega) z⟩
      have c : ∀ k, 1792 ≤ k → k < 2240 → k ≠ 1794 → k ≠ 1795 → k ≠ 1796 → k ≠ 1799 → k ≠ 1801 → h15 162 k = 0 := fun k k1 k2 n1 n2 n3 n4 n5 => by
        rw [e15, mset_k (by omega), e12, mset_k (by omega), e9, mset_k (by omega), e6, mset_k (by omega), e3, mset_k (by omega)]
        have := row (k - 1792) (by omega)
        rw [show 1792 + (k - 1792) = k by omega] at this
        exact this
      have d4 : h15 162 1794 = 8 := by rw [e15, mset_k (by decide), e12, mset_k (by decide), e9, mset_k (by decide), e6, mset_k (by decide), e3]; exact mset_at
      have d5 : h15 162 1795 = 10 := by rw [e15, mset_k (by decide), e12, mset_k (by decide), e9, mset_k (by decide), e6]; exact mset_at
      have d6 : h15 162 1796 = 4 := by rw [e15, mset_k (by decide), e12, mset_k (by decide), e9]; exact mset_at
      have d9 : h15 162 1799 = 1 := by rw [e15, mset_k (by decide), e12]; exact mset_at
      have dB : h15 162 1801 = -1 := by rw [e15]; exact mset_at
      refine hQ h15 ⟨fun i hi => ?_, fun t k ht => absurd ht (by show ¬ (t < 0); omega), fun m k hm => absurd hm (by show ¬ (m < 0); omega), fun t ht => absurd ht (by show ¬ (t < 0); omega), fun m hm => absurd hm (by show ¬ (m < 0); omega), fun k k1 k2 => ?_, fun k k1 k2 => ?_, dB⟩ (fun j k p => ?_)
      · have h9 : i = 0 ∨ i = 1 ∨ i = 2 ∨ i = 3 ∨ i = 4 ∨ i = 5 ∨ i = 6 ∨ i = 7 ∨ i = 8 := by omega
        rcases h9 with rfl | rfl | rfl | rfl | rfl | rfl | rfl | rfl | rfl
        · exact c 1792 (by decide) (by decide) (by decide) (by decide) (by decide) (by decide) (by decide)
        · exact c 1793 (by decide) (by decide) (by decide) (by decide) (by decide) (by decide) (by decide)
        · exact d4
        · exact d5
        · exact d6
        · exact c 1797 (by decide) (by decide) (by decide) (by decide) (by decide) (by decide) (by decide)
        · exact c 1798 (by decide) (by decide) (by decide) (by decide) (by decide) (by decide) (by decide)
        · exact d9
        · exact c 1800 (by decide) (by decide) (by decide) (by decide) (by decide) (by decide) (by decide)
      · have k1' : 1804 + 7 * 0 ≤ k := k1
        exact c k (by omega) (by omega) (by omega) (by omega) (by omega) (by omega) (by omega)
      · have k1' : 1860 + 3 * 0 ≤ k := k1
        exact c k (by omega) (by omega) (by omega) (by omega) (by omega) (by omega) (by omega)
      · rw [e15, mset_o (by omega), e12, mset_o (by omega), e9, mset_o (by omega), e6, mset_o (by omega), e3, mset_o (by omega)]
        exact f j k p
    | succ m ih =>
      intro i z u hi hz row f
      subst hz
      refine l_X12_plain_2 ?_
      unfold B_X12_plain_2
      refine ⟨fun z => absurd z (by omega), fun _ => ⟨⟨by omega, by omega⟩, ⟨by omega, by omega⟩, fun h18 e18 => ⟨⟨by omega, by omega⟩, ih (i + 1) _ h18 (by omega) (by omega) (fun k hk => ?_) (fun j k p => ?_)⟩⟩⟩
      · rw [e18, show (1792 + (i : Int)).toNat = 1792 + i by omega]
        by_cases c : k = i
        · subst c; rw [mset_at]
        · rw [mset_k (by omega)]; exact row k (by omega)
      · rw [e18, mset_o (by omega)]; exact f j k p
  exact key 448 0 0 h (by omega) rfl (fun k hk => absurd hk (by omega)) (fun _ _ _ => rfl)
theorem q_glenLoop {B : Nat → Int} {n : Nat} {Q : Int → Mem → Prop} {h0 : Mem} : ∀ (k s : Nat) (h : Mem) (g : Gs) (T : Nat), n ≤ s + k → FNf h0 h → MS h B n s → RW h g → TO h T g → GPp B n g T s → (∀ u g', pGlen B n k g T s = .ok g' → FNf h0 u → (u 161 18 = 0 ∧ u 161 17 = -1) → RW u g' → J_X12_glen_50 u Q) → (∀ u e, pGlen B n k g T s = .error e → FNf h0 u → ME u e → J_X12_glen_50 u Q) → L_X12_glen_31 h 1 Q := by
  intro k
  induction k with
  | zero =>
    intro s h g T hk f x r t p hok hno
    have t0 : tke B n s = 0 := by unfold tke; rw [if_pos (by omega)]
    refine l_X12_glen_31 ?_
    unfold B_X12_glen_31
    refine ⟨fun z => absurd z (by decide), fun _ => ⟨fun _ => hok h g rfl f x.2 r, fun z => absurd ?_ z⟩⟩
    rw [x.1.2.2.1]
    exact (kt_z (by omega)).mpr t0
  | succ k ih =>
    intro s h g T hk f x r t p hok hno
    refine l_X12_glen_31 ?_
    unfold B_X12_glen_31
    refine ⟨fun z => absurd z (by decide), fun _ => ⟨fun z => ?_, fun z => ?_⟩⟩
    · rw [x.1.2.2.1] at z
      have t0 := (kt_z tke_in.1).mp z
      exact hok h g (by unfold pGlen; rw [if_pos t0]) f x.2 r
    · rw [x.1.2.2.1] at z
      have t0 : tke B n s ≠ 0 := fun q => z ((kt_z (by omega)).mpr q)
      have e : pGlen B n (k + 1) g T s = bnd (semi B n (pPart B n g T s)) (fun q => pGlen B n k q.2 (toldN B n T s) q.1) := by
        conv => lhs; unfold pGlen
        rw [if_neg t0]
        unfold semi
        cases pPart B n g T s with
        | error e => rfl
        | ok q3 =>
          show bnd (pSg B n 59 q3.1) _ = bnd (bnd (pSg B n 59 q3.1) _) _
          cases pSg B n 59 q3.1 with
          | error e => rfl
          | ok s3 => rfl
      refine q_glenPart x r t p (fun s' g' u e2 fu m r2 t2 => ?_) (fun e2 u he fu m => ?_)
      · rw [e, e2, bnd_y] at hok hno
        have gp : GPp B n g' (toldN B n T s) s' ∧ s < s' := by
          unfold semi at e2
          obtain ⟨⟨s1, g1⟩, h1, e2⟩ := bnd_ok e2
          obtain ⟨s2, h2, e2⟩ := bnd_ok e2
          obtain ⟨p1, l1⟩ := gp_part p h1
          obtain ⟨e3, k2⟩ := pSg_ok h2
          have a2 := nx_w p1.2.1 (Or.inr (Or.inr k2))
          obtain ⟨w, sn, rr⟩ := p1
          cases e2
          exact ⟨⟨w, by rw [e3]; exact a2.2, rr⟩, by have l1' : s < s1 := l1; have a2' : s1 < nx B n s1 := a2.1; rw [e3]; exact Nat.lt_trans l1' a2'⟩
        exact ih s' u g' (toldN B n T s) (by omega) (f.tr fu) m r2 t2 gp.1 hok hno
      · rw [e, he, bnd_n] at hno
        refine l_X12_glen_31 ?_
        unfold B_X12_glen_31
        exact ⟨fun _ => hno u e2 rfl (f.tr fu) m, fun z => absurd rfl z⟩
