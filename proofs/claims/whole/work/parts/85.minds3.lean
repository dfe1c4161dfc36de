/-! minded, mindedAt, ask: what is counted; x -/
def cm (F : Nat → Int) : Nat → Int
  | 0 => 0
  | k + 1 => if F (k + 1) = 0 then cm F k else cm F k + 1
def lm (F : Nat → Int) : Nat → Nat → Int
  | 0, _ => -1
  | d + 1, m => if F m = 0 then lm F d (m + 1) else (m : Int)
def gmn (F : Nat → Int) : Nat → Int
  | 0 => -1
  | k + 1 => if F (k + 1) = 0 then gmn F k else ((k + 1 : Nat) : Int)
def ct (F : Nat → Int) (T : Nat → Nat → Int) (j : Nat) : Nat → Int
  | 0 => 0
  | k + 1 => if F (k + 1) = 0 then ct F T j k else if T (k + 1) j = 1 then ct F T j k + 1 else ct F T j k
def askS (F : Nat → Int) (T : Nat → Nat → Int) (j : Nat) (s : Int × Int) : Int × Int := if imax (ct F T j 24) (cm F 24 - ct F T j 24) < s.1 then (imax (ct F T j 24) (cm F 24 - ct F T j 24), (j : Int)) else s
def askF (F : Nat → Int) (T : Nat → Nat → Int) : Nat → Nat → Int × Int → Int × Int
  | 0, _, s => s
  | d + 1, j, s => askF F T d (j + 1) (askS F T j s)
theorem cm_in {F : Nat → Int} : ∀ k, 0 ≤ cm F k ∧ cm F k ≤ k := by
  intro k
  induction k with
  | zero => exact ⟨Int.le_refl _, Int.le_refl _⟩
  | succ k ih => unfold cm; split <;> omega
theorem ct_in {F : Nat → Int} {T : Nat → Nat → Int} {j : Nat} : ∀ k, 0 ≤ ct F T j k ∧ ct F T j k ≤ cm F k := by
  intro k
  induction k with
  | zero => exact ⟨Int.le_refl _, Int.le_refl _⟩
  | succ k ih =>
    unfold ct cm
    by_cases c : F (k + 1) = 0
    · rw [if_pos c, if_pos c]; exact ih
    · rw [if_neg c, if_neg c]; split <;> omega
theorem lm_no {F : Nat → Int} : ∀ d m, lm F d m = -1 → ∀ i, m ≤ i → i < m + d → F i = 0 := by
  intro d
  induction d with
  | zero => intro m _ i h1 h2; omega
  | succ d ih =>
    intro m h i h1 h2
    unfold lm at h
    by_cases c : F m = 0
    · rw [if_pos c] at h
      by_cases e : i = m
      · subst e; exact c
      · exact ih (m + 1) h i (by omega) (by omega)
    · rw [if_neg c] at h; omega
theorem gmn_no {F : Nat → Int} : ∀ k, gmn F k = -1 → ∀ i, 1 ≤ i → i ≤ k → F i = 0 := by
  intro k
  induction k with
  | zero => intro _ i h1 h2; omega
  | succ k ih =>
    intro h i h1 h2
    unfold gmn at h
    by_cases c : F (k + 1) = 0
    · rw [if_pos c] at h
      by_cases e : i = k + 1
      · subst e; exact c
      · exact ih h i h1 (by omega)
    · rw [if_neg c] at h; omega
theorem cm_no {F : Nat → Int} : ∀ k, (∀ i, 1 ≤ i → i ≤ k → F i = 0) → cm F k = 0 := by
  intro k
  induction k with
  | zero => intro _; rfl
  | succ k ih =>
    intro h
    unfold cm
    rw [if_pos (h (k + 1) (by omega) (by omega))]
    exact ih (fun i h1 h2 => h i h1 (by omega))
theorem cm_yes {F : Nat → Int} : ∀ k, cm F k = 0 → ∀ i, 1 ≤ i → i ≤ k → F i = 0 := by
  intro k
  induction k with
  | zero => intro _ i h1 h2; omega
  | succ k ih =>
    intro h i h1 h2
    have ci := cm_in (F := F) k
    unfold cm at h
    by_cases c : F (k + 1) = 0
    · rw [if_pos c] at h
      by_cases e : i = k + 1
      · subst e; exact c
      · exact ih h i h1 (by omega)
    · rw [if_neg c] at h; omega
theorem lm_all {F : Nat → Int} : ∀ d m, (∀ i, m ≤ i → i < m + d → F i = 0) → lm F d m = -1 := by
  intro d
  induction d with
  | zero => intro m _; rfl
  | succ d ih =>
    intro m h
    unfold lm
    rw [if_pos (h m (by omega) (by omega))]
    exact ih (m + 1) (fun i h1 h2 => h i (by omega) (by omega))
theorem gmn_all {F : Nat → Int} : ∀ k, (∀ i, 1 ≤ i → i ≤ k → F i = 0) → gmn F k = -1 := by
  intro k
  induction k with
  | zero => intro _; rfl
  | succ k ih =>
    intro h
    unfold gmn
    rw [if_pos (h (k + 1) (by omega) (by omega))]
    exact ih (fun i h1 h2 => h i h1 (by omega))
theorem askF_ge {F : Nat → Int} {T : Nat → Nat → Int} : ∀ d j s, 0 ≤ s.2 → 0 ≤ (askF F T d j s).2 := by
  intro d
  induction d with
  | zero => intro j s h; exact h
  | succ d ih =>
    intro j s h
    refine ih (j + 1) _ ?_
    unfold askS
    split
    · show (0 : Int) ≤ (j : Int); omega
    · exact h
theorem imax_in {a b : Int} : a ≤ imax a b ∧ b ≤ imax a b ∧ (imax a b = a ∨ imax a b = b) := by
  unfold imax; split <;> omega
theorem ask_0 {F : Nat → Int} {T : Nat → Nat → Int} : 0 ≤ (askF F T 61 0 (cm F 24 + 1, -1)).2 := by
  have c1 := ct_in (F := F) (T := T) (j := 0) 24
  have c2 := imax_in (a := ct F T 0 24) (b := cm F 24 - ct F T 0 24)
  show 0 ≤ (askF F T 60 1 (askS F T 0 (cm F 24 + 1, -1))).2
  refine askF_ge 60 1 _ ?_
  have e : askS F T 0 (cm F 24 + 1, -1) = (imax (ct F T 0 24) (cm F 24 - ct F T 0 24), ((0 : Nat) : Int)) := by
    unfold askS
    rw [if_pos (by show imax (ct F T 0 24) (cm F 24 - ct F T 0 24) < cm F 24 + 1; omega)]
  rw [e]
  exact Int.le_refl _
section XM
variable {h : Mem} {g : Gs} {t n : Nat} {S : Nat → Int} {Q : Int → Mem → Prop}
theorem s_countMinds (row : mdRow g t S n 25 h) (hQ : Q (cm (fun i => ft g t i S n) 24) h) : F_X0_countMinds h Q := by
  unfold F_X0_countMinds
  have key : ∀ (d k : Nat) (z : Int), z = (k : Int) + 1 → k + d = 24 → L_X0_countMinds_4 h (cm (fun i => ft g t i S n) k) z Q := by
    intro d
    induction d with
    | zero =>
      intro k z hz hi
      subst hz
      obtain rfl : k = 24 := by omega
      refine l_X0_countMinds_4 ?_
      unfold B_X0_countMinds_4
      exact ⟨fun _ => hQ, fun c => absurd (by omega) c⟩
    | succ d ih =>
      intro k z hz hi
      subst hz
      refine l_X0_countMinds_4 ?_
      unfold B_X0_countMinds_4
      have ci := cm_in (F := fun i => ft g t i S n) k
      have cs : cm (fun i => ft g t i S n) (k + 1) = if ft g t (k + 1) S n = 0 then cm (fun i => ft g t i S n) k else cm (fun i => ft g t i S n) k + 1 := rfl
      have e : ((k : Int) + 1).toNat = k + 1 := by omega
      rw [e, (row (k + 1) (by omega) (by omega)).2]
      have go := ih (k + 1) ((k : Int) + 1 + 1) (by omega) (by omega)
      refine ⟨fun c => absurd c (by omega), fun _ => ⟨⟨by omega, by omega⟩, fun c => ⟨⟨by omega, by omega⟩, ⟨by omega, by omega⟩, ?_⟩, fun c => ⟨⟨by omega, by omega⟩, ⟨by omega, by omega⟩, ?_⟩⟩⟩
      · rw [cs, if_pos c] at go; exact go
      · rw [cs, if_neg c] at go; exact go
  exact key 24 0 1 rfl (by omega)
theorem s_leastMind (row : mdRow g t S n 25 h) (hQ : Q (lm (fun i => ft g t i S n) 24 1) h) : F_X0_leastMind h Q := by
  unfold F_X0_leastMind
  have key : ∀ (d m : Nat) (z : Int), z = (m : Int) → m + d = 25 → 1 ≤ m → Q (lm (fun i => ft g t i S n) d m) h → L_X0_leastMind_2 h z Q := by
    intro d
    induction d with
    | zero =>
      intro m z hz hi h1 q
      subst hz
      refine l_X0_leastMind_2 ?_
      unfold B_X0_leastMind_2
      exact ⟨fun _ => q, fun c => absurd (by omega) c⟩
    | succ d ih =>
      intro m z hz hi h1 q
      subst hz
      refine l_X0_leastMind_2 ?_
      unfold B_X0_leastMind_2
      unfold lm at q
      rw [Int.toNat_natCast, (row m (by omega) (by omega)).2]
      refine ⟨fun c => absurd c (by omega), fun _ => ⟨⟨by omega, by omega⟩, fun c => ⟨⟨by omega, by omega⟩, ?_⟩, fun c => ?_⟩⟩
      · rw [if_pos c] at q; exact ih (m + 1) _ (by omega) (by omega) (by omega) q
      · rw [if_neg c] at q; exact q
  exact key 24 1 1 rfl (by omega) (by omega) hQ
theorem s_greatestMind (row : mdRow g t S n 25 h) (hQ : Q (gmn (fun i => ft g t i S n) 24) h) : F_X0_greatestMind h Q := by
  unfold F_X0_greatestMind
  have key : ∀ (m : Nat) (z : Int), z = (m : Int) → m ≤ 24 → Q (gmn (fun i => ft g t i S n) m) h → L_X0_greatestMind_3 h z Q := by
    intro m
    induction m with
    | zero =>
      intro z hz h1 q
      subst hz
      refine l_X0_greatestMind_3 ?_
      unfold B_X0_greatestMind_3
      exact ⟨fun _ => q, fun c => absurd (by omega) c⟩
    | succ m ih =>
      intro z hz h1 q
      subst hz
      refine l_X0_greatestMind_3 ?_
      unfold B_X0_greatestMind_3
      unfold gmn at q
      rw [Int.toNat_natCast, (row (m + 1) (by omega) (by omega)).2]
      refine ⟨fun c => absurd c (by omega), fun _ => ⟨⟨by omega, by omega⟩, fun c => ⟨⟨by omega, by omega⟩, ?_⟩, fun c => ?_⟩⟩
      · rw [if_pos c] at q; exact ih _ (by omega) (by omega) q
      · rw [if_neg c] at q; exact q
  exact key 24 24 rfl (by omega) hQ
theorem s_countTurning {j : Nat} {x : Int} (hx : x = (j : Int)) (hj : j ≤ 60) (row : mdRow g t S n 25 h) (hQ : Q (ct (fun i => ft g t i S n) (trn g t) j 24) h) : F_X0_countTurning h x Q := by
  subst hx
  unfold F_X0_countTurning
  have key : ∀ (d k : Nat) (z : Int), z = (k : Int) + 1 → k + d = 24 → L_X0_countTurning_4 h (j : Int) (ct (fun i => ft g t i S n) (trn g t) j k) z Q := by
    intro d
    induction d with
    | zero =>
      intro k z hz hi
      subst hz
      obtain rfl : k = 24 := by omega
      refine l_X0_countTurning_4 ?_
      unfold B_X0_countTurning_4
      exact ⟨fun _ => hQ, fun c => absurd (by omega) c⟩
    | succ d ih =>
      intro k z hz hi
      subst hz
      refine l_X0_countTurning_4 ?_
      unfold B_X0_countTurning_4
      have ci := cm_in (F := fun i => ft g t i S n) k
      have cj := ct_in (F := fun i => ft g t i S n) (T := trn g t) (j := j) k
      have cs : ct (fun i => ft g t i S n) (trn g t) j (k + 1) = if ft g t (k + 1) S n = 0 then ct (fun i => ft g t i S n) (trn g t) j k else if trn g t (k + 1) j = 1 then ct (fun i => ft g t i S n) (trn g t) j k + 1 else ct (fun i => ft g t i S n) (trn g t) j k := rfl
      have e : ((k : Int) + 1).toNat = k + 1 := by omega
      have lt := tb_lt (g := g) (t := t) (m := k + 1) 61
      have tbit := tb_bit (g := g) (t := t) (m := k + 1) 61 j (by omega)
      rw [e, (row (k + 1) (by omega) (by omega)).2, (row (k + 1) (by omega) (by omega)).1, l_bit (by omega) (by omega)]
      have go := ih (k + 1) ((k : Int) + 1 + 1) (by omega) (by omega)
      refine ⟨fun c => absurd c (by omega), fun _ => ⟨⟨by omega, by omega⟩, fun c => ⟨⟨by omega, by omega⟩, ?_⟩, fun c => ⟨fun c2 => ⟨⟨by omega, by omega⟩, ?_⟩, fun c2 => ⟨⟨by omega, by omega⟩, ⟨by omega, by omega⟩, ?_⟩⟩⟩⟩
      · rw [cs, if_pos c] at go; exact go
      · rw [cs, if_neg c, if_neg (fun q => c2 (if_pos (tbit.mpr q)))] at go; exact go
      · have c3 : trn g t (k + 1) j = 1 := by
          apply tbit.mp
          by_cases c4 : (tb g t (k + 1) 61).testBit j = true
          · exact c4
          · rw [if_neg c4] at c2; exact absurd c2 (by decide)
        rw [cs, if_neg c, if_pos c3] at go; exact go
  exact key 24 0 1 rfl (by omega)
theorem s_bestQuestion (row : mdRow g t S n 25 h) (h1 : cm (fun i => ft g t i S n) 24 < 2 → Q (-1) h) (h2 : 2 ≤ cm (fun i => ft g t i S n) 24 → Q (askF (fun i => ft g t i S n) (trn g t) 61 0 (cm (fun i => ft g t i S n) 24 + 1, -1)).2 h) : F_X0_bestQuestion h Q := by
  unfold F_X0_bestQuestion
  have cI := cm_in (F := fun i => ft g t i S n) 24
  have key : ∀ (d j : Nat) (z : Int) (s : Int × Int), z = (j : Int) → j + d = 61 → Q (askF (fun i => ft g t i S n) (trn g t) d j s).2 h → L_X0_bestQuestion_21 h (cm (fun i => ft g t i S n) 24) s.1 s.2 z Q := by
    intro d
    induction d with
    | zero =>
      intro j z s hz hi q
      subst hz
      refine l_X0_bestQuestion_21 ?_
      unfold B_X0_bestQuestion_21
      exact ⟨fun _ => q, fun c => absurd (by omega) c⟩
    | succ d ih =>
      intro j z s hz hi q
      subst hz
      refine l_X0_bestQuestion_21 ?_
      unfold B_X0_bestQuestion_21
      have c1 := ct_in (F := fun i => ft g t i S n) (T := trn g t) (j := j) 24
      have q2 : Q (askF (fun i => ft g t i S n) (trn g t) d (j + 1) (askS (fun i => ft g t i S n) (trn g t) j s)).2 h := q
      have go := ih (j + 1) ((j : Int) + 1) _ (by omega) (by omega) q2
      refine ⟨fun c => absurd c (by omega), fun _ => s_countTurning rfl (by omega) row ⟨⟨by omega, by omega⟩, fun x7 e7 => ⟨fun c => ⟨⟨by omega, by omega⟩, ?_⟩, fun c => ⟨⟨by omega, by omega⟩, ?_⟩⟩⟩⟩
      · have e : askS (fun i => ft g t i S n) (trn g t) j s = s := by unfold askS; rw [if_neg (by omega)]
        rw [e] at go; exact go
      · have e : askS (fun i => ft g t i S n) (trn g t) j s = (x7, (j : Int)) := by unfold askS; rw [if_pos (by omega), e7]
        rw [e] at go; exact go
  exact s_countMinds row ⟨fun c => ⟨⟨by omega, by omega⟩, key 61 0 0 (cm (fun i => ft g t i S n) 24 + 1, -1) rfl (by omega) (h2 c)⟩, fun c => h1 (by omega)⟩
end XM
