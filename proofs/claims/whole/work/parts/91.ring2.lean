/-! ring: x -/
theorem s_ringOf {h : Mem} {g : Gs} {i0 : Nat} {r : Int} {Q : Int → Mem → Prop} (w : WF 9999 g) (rE : ringE g i0 r) (ru : RC h 146 g) (r12 : RC h 12 g) (hQ : ∀ u, RC u 12 g → UX h u → Q r u) : F_X0_ringOf h 146 Q := by
  have e : ∀ a b, gn (passN a g) = gn (passN b g) := fun a b => by rw [gn_passN, gn_passN]
  obtain ⟨nd, hit⟩ := rE
  have i01 : i0 ≤ 201 := by rcases hit with z | z <;> omega
  have pics : ∀ a b : Nat, (((few (passN a g) : Nat) : Int) = ((few (passN b g) : Nat) : Int) ∧ ((pcN (passN a g) 4 4 : Nat) : Int) = ((pcN (passN b g) 4 4 : Nat) : Int)) ↔ simG (passN a g) (passN b g) := fun a b => by
    rw [sim_pic (w.passN a) (w.passN b) (e a b)]
    omega
  unfold F_X0_ringOf
  have inner : ∀ (i : Nat), i ≤ 200 → ∀ (j : Nat) (z : Int) (v : Mem), z = (j : Int) - 1 → j ≤ i → RC v 146 (passN i g) → RC v 12 g → UX h v → (∀ k, k ≤ i → v 43 k = ((few (passN k g) : Nat) : Int) ∧ v 44 k = ((pcN (passN k g) 4 4 : Nat) : Int)) →
      ((∀ k, k < j → ¬ simG (passN k g) (passN i g)) → ∀ v2, RC v2 146 (passN (i + 1) g) → RC v2 12 g → UX h v2 → (∀ k, k ≤ i → v2 43 k = ((few (passN k g) : Nat) : Int) ∧ v2 44 k = ((pcN (passN k g) 4 4 : Nat) : Int)) → L_X0_ringOf_2 v2 146 ((i : Int) + 1) Q) →
      (∀ k, k < j → simG (passN k g) (passN i g) → (∀ k2, k < k2 → k2 < j → ¬ simG (passN k2 g) (passN i g)) → r = (i : Int) - (k : Int)) → L_X0_ringOf_57 v 146 (i : Int) z Q := by
    intro i hi j
    induction j with
    | zero =>
      intro z v hz hj rv r2 f row K1 K2
      subst hz
      refine l_X0_ringOf_57 rfl ?_
      unfold B_X0_ringOf_57
      refine ⟨fun _ => s_passHour (o := 146) rfl rv (w.passN i) (by omega) (fun u ru fu => ⟨⟨by omega, by omega⟩, ?_⟩), fun c => absurd (by omega) c⟩
      rw [← passN_s] at ru
      exact K1 (fun k hk => absurd hk (by omega)) u ru (r2.fr fu (by omega)) (f.tr (UX.fr fu (by omega))) (fun k hk => by
        rw [fu 43 (by omega), fu 44 (by omega)]; exact row k hk)
    | succ j ih =>
      intro z v hz hj rv r2 f row K1 K2
      subst hz
      refine l_X0_ringOf_57 rfl ?_
      unfold B_X0_ringOf_57
      have en : (((j + 1 : Nat) : Int) - 1).toNat = j := by omega
      rw [en, Int.toNat_natCast, (row j (by omega)).1, (row j (by omega)).2, (row i (by omega)).1, (row i (by omega)).2]
      have p := pics j i
      have next : ¬ simG (passN j g) (passN i g) → InR (((j + 1 : Nat) : Int) - 1 + (-1)) ∧ L_X0_ringOf_57 v 146 (i : Int) (((j + 1 : Nat) : Int) - 1 + (-1)) Q := fun no => ⟨⟨by omega, by omega⟩, ih _ v (by omega) (by omega) rv r2 f row (fun a => K1 (fun k hk => by
          by_cases c : k = j
          · subst c; exact no
          · exact a k (by omega))) (fun k hk s n => K2 k (by omega) s (fun k2 h1 h2 => by
          by_cases c : k2 = j
          · subst c; exact no
          · exact n k2 h1 (by omega)))⟩
      refine ⟨fun c => absurd c (by omega), fun _ => ⟨⟨by omega, by omega⟩, ⟨by omega, by omega⟩, fun c => next (fun s => c (p.mpr s).1), fun c => ⟨fun c2 => next (fun s => c2 (p.mpr s).2), fun c2 => ⟨⟨by omega, by omega⟩, ?_⟩⟩⟩⟩
      have er := K2 j (by omega) (p.mp ⟨c, c2⟩) (fun k2 h1 h2 => absurd h2 (by omega))
      have e2 : (i : Int) - (((j + 1 : Nat) : Int) - 1) = r := by rw [er]; omega
      rw [e2]
      exact hQ v r2 f
  have key : ∀ (d i : Nat) (z : Int) (v : Mem), z = (i : Int) → i + d = i0 → RC v 146 (passN i g) → RC v 12 g → UX h v → (∀ k, k < i → v 43 k = ((few (passN k g) : Nat) : Int) ∧ v 44 k = ((pcN (passN k g) 4 4 : Nat) : Int)) → L_X0_ringOf_2 v 146 z Q := by
    intro d
    -- one hour's pictures
    have pict : ∀ (i : Nat) (v : Mem), i ≤ 200 → RC v 146 (passN i g) → RC v 12 g → UX h v → (∀ k, k < i → v 43 k = ((few (passN k g) : Nat) : Int) ∧ v 44 k = ((pcN (passN k g) 4 4 : Nat) : Int)) →
        (∀ u, RC u 146 (passN i g) → RC u 12 g → UX h u → (∀ k, k ≤ i → u 43 k = ((few (passN k g) : Nat) : Int) ∧ u 44 k = ((pcN (passN k g) 4 4 : Nat) : Int)) → L_X0_ringOf_57 u 146 (i : Int) ((i : Int) - 1) Q) → L_X0_ringOf_2 v 146 (i : Int) Q := by
      intro i v hi rv r2 f row K
      refine l_X0_ringOf_2 rfl ?_
      unfold B_X0_ringOf_2
      have wi := w.passN i
      have ws := wi.1
      unfold WFs at ws
      have pl := pcN_lt (f := 0) wi 4
      refine ⟨fun c => absurd c (by omega), fun _ => s_picture (f := 0) rfl (Or.inl rfl) (ll_4_7 rfl) rv.1.2.1 wi ⟨⟨by omega, by omega⟩, fun h4 e4 => ?_⟩⟩
      have a3 : v 146 3 = (((passN i g 0 6).toNat : Nat) : Int) := by rw [rv.1.1.2.2.2.1]; omega
      have a4 : v 146 4 = (((passN i g 0 7).toNat : Nat) : Int) := by rw [rv.1.1.2.2.2.2.1]; omega
      have e5 : lshl ((pcN (passN i g) 0 4 : Nat) : Int) 4 = ((2 ^ 4 * pcN (passN i g) 0 4 : Nat) : Int) := l_shl (k := 4) (by omega) (by omega)
      have e6 : lshl ((2 ^ 4 * pcN (passN i g) 0 4 + (passN i g 0 6).toNat : Nat) : Int) 1 = ((2 ^ 1 * (2 ^ 4 * pcN (passN i g) 0 4 + (passN i g 0 6).toNat) : Nat) : Int) := l_shl (k := 1) (by omega) (by omega)
      rw [Int.toNat_natCast, a3, a4, e5, l_or (k := 4) (by omega) (by omega), e6, l_or (k := 1) (by omega) (by omega)] at e4
      have e7 : h4 = mset v 43 i ((few (passN i g) : Nat) : Int) := e4
      have rv4 : RC h4 146 (passN i g) := by rw [e7]; exact rv.sto (by omega)
      refine s_picture (f := 4) rfl (Or.inr rfl) (ll_4_7 rfl) rv4.1.2.1 wi (fun h7 e8 => ⟨⟨by omega, by omega⟩, ?_⟩)
      rw [Int.toNat_natCast] at e8
      refine K h7 (by rw [e8]; exact rv4.sto (by omega)) (by rw [e8, e7]; exact (r2.sto (by omega)).sto (by omega)) (by rw [e8, e7]; exact (f.sto (by omega)).sto (by omega)) (fun k hk => ?_)
      rw [e8]
      by_cases c : k = i
      · subst c
        rw [mset_i _ (by omega), mset_at, e7, mset_at]
        exact ⟨rfl, rfl⟩
      · rw [mset_i _ (by omega), mset_k c, e7, mset_k c, mset_i _ (by omega)]
        exact row k (by omega)
    induction d with
    | zero =>
      intro i z v hz hi rv r2 f row
      subst hz
      obtain rfl : i = i0 := by omega
      rcases hit with ⟨h1, h2⟩ | ⟨h1, j0, h2, h3, h4⟩
      · refine l_X0_ringOf_2 rfl ?_
        unfold B_X0_ringOf_2
        have q := hQ v r2 f
        rw [h2] at q
        exact ⟨fun _ => q, fun c => absurd (by omega) c⟩
      · refine pict i v h1 rv r2 f row (fun u ru ru2 fu row2 => inner i h1 i _ u rfl (by omega) ru ru2 fu row2 (fun a => absurd h3 (a j0 h2)) (fun k hk s _ => ?_))
        rw [ringE_one nd hk h2 h3 s]
        exact h4
    | succ d ih =>
      intro i z v hz hi rv r2 f row
      subst hz
      refine pict i v (by omega) rv r2 f row (fun u ru ru2 fu row2 => inner i (by omega) i _ u rfl (by omega) ru ru2 fu row2 (fun _ v2 a b c e2 => ih (i + 1) _ v2 (by omega) (by omega) a b c (fun k hk => e2 k (by omega))) (fun k hk s _ => ?_))
      exact absurd s (nd k i hk (by omega))
  exact key i0 0 0 h rfl (by omega) ru r12 UX.rf (fun k hk => absurd hk (by omega))
