/-! sets of things as numbers -/
def setOf (P : Nat → Prop) (d : ∀ t, Decidable (P t)) : Nat → Int
  | 0 => 0
  | k + 1 => if P k then setOf P d k + (2 : Int) ^ k else setOf P d k
theorem bit_or : ∀ k, k < 8 → ∀ s, s < 2 ^ k → ior ((s : Nat) : Int) (ishl 1 ((k : Nat) : Int)) = (s : Int) + (2 : Int) ^ k := by decide +kernel
theorem bit_or0 : ∀ s, s < 256 → ior ((s : Nat) : Int) 0 = (s : Int) := by decide +kernel
theorem bit_in : ∀ k, k < 8 → ∀ s, s < 256 → iand (ishr ((s : Nat) : Int) ((k : Nat) : Int)) 1 = ((s / 2 ^ k % 2 : Nat) : Int) := by decide +kernel
theorem bit_add : ∀ k, k < 8 → ∀ t, t < 8 → ∀ s, s < 2 ^ k → (s + 2 ^ k) / 2 ^ t % 2 = if t = k then 1 else s / 2 ^ t % 2 := by decide +kernel
theorem bit_out : ∀ k, k < 8 → ∀ s, s < 2 ^ k → s / 2 ^ k % 2 = 0 := by decide +kernel
theorem set_ok (P : Nat → Prop) (d : ∀ t, Decidable (P t)) : ∀ k, k ≤ 8 → ∃ s : Nat, setOf P d k = (s : Int) ∧ s < 2 ^ k ∧ (∀ t, t < k → (P t → s / 2 ^ t % 2 = 1) ∧ (¬ P t → s / 2 ^ t % 2 = 0)) ∧ ∀ t, k ≤ t → t < 8 → s / 2 ^ t % 2 = 0 := by
  intro k
  induction k with
  | zero => intro _; exact ⟨0, rfl, by decide, fun t h => absurd h (Nat.not_lt_zero t), fun t _ _ => by rw [Nat.zero_div]⟩
  | succ k ih =>
    intro hk
    obtain ⟨s, e, hs, hb, ho⟩ := ih (by omega)
    have h2 : 2 ^ (k + 1) = 2 ^ k * 2 := Nat.pow_succ 2 k
    by_cases c : P k
    · refine ⟨s + 2 ^ k, ?_, by omega, fun t ht => ?_, fun t ht h8 => ?_⟩
      · unfold setOf
        rw [if_pos c, e, Int.natCast_add, Int.natCast_pow]
        rfl
      · rw [bit_add k (by omega) t (by omega) s hs]
        by_cases z : t = k
        · subst z; rw [if_pos rfl]; exact ⟨fun _ => rfl, fun q => absurd c q⟩
        · rw [if_neg z]; exact hb t (by omega)
      · rw [bit_add k (by omega) t (by omega) s hs, if_neg (by omega)]
        exact ho t (by omega) h8
    · refine ⟨s, ?_, by omega, fun t ht => ?_, fun t ht h8 => ho t (by omega) h8⟩
      · unfold setOf
        rw [if_neg c, e]
      · by_cases z : t = k
        · subst z; exact ⟨fun q => absurd q c, fun _ => bit_out t (by omega) s hs⟩
        · exact hb t (by omega)
/-- one thing more, as both programs make it -/
theorem set_yes (P : Nat → Prop) (d : ∀ t, Decidable (P t)) {k : Nat} (hk : k < 8) (c : P k) : ior (setOf P d k) (ishl 1 (k : Int)) = setOf P d (k + 1) := by
  obtain ⟨s, e, hs, -⟩ := set_ok P d k (by omega)
  show _ = if P k then setOf P d k + (2 : Int) ^ k else setOf P d k
  rw [if_pos c, e]
  exact bit_or k hk s hs
theorem set_no (P : Nat → Prop) (d : ∀ t, Decidable (P t)) {k : Nat} (hk : k < 8) (c : ¬ P k) : ior (setOf P d k) 0 = setOf P d (k + 1) ∧ setOf P d k = setOf P d (k + 1) := by
  obtain ⟨s, e, hs, -⟩ := set_ok P d k (by omega)
  have e2 : setOf P d (k + 1) = setOf P d k := by
    show (if P k then setOf P d k + (2 : Int) ^ k else setOf P d k) = _
    rw [if_neg c]
  rw [e2]
  refine ⟨?_, rfl⟩
  rw [e]
  have h8 : 2 ^ k ≤ 256 := Nat.pow_le_pow_right (by omega) (show k ≤ 8 by omega)
  exact bit_or0 s (by omega)
theorem set_is (P : Nat → Prop) (d : ∀ t, Decidable (P t)) {n t : Nat} (hn : n ≤ 8) (ht : t < n) : (iand (ishr (setOf P d n) (t : Int)) 1 = 1 ↔ P t) := by
  obtain ⟨s, e, hs, hb, -⟩ := set_ok P d n hn
  have h8 : 2 ^ n ≤ 256 := Nat.pow_le_pow_right (by omega) (show n ≤ 8 by omega)
  rw [e, bit_in t (by omega) s (by omega)]
  constructor
  · intro q
    rcases d t with z | z
    · have := (hb t ht).2 z; rw [this] at q; exact absurd q (by decide)
    · exact z
  · intro q
    rw [(hb t ht).1 q]
    rfl
/-- what those of the first k weigh that are in P -/
def wsum (g : Gs) (P : Nat → Prop) (d : ∀ t, Decidable (P t)) : Nat → Int
  | 0 => 0
  | k + 1 => if P k then wsum g P d k + g 1 k else wsum g P d k
theorem wsum_in {B : Int} {g : Gs} (w : WF B g) (P : Nat → Prop) (d : ∀ t, Decidable (P t)) : ∀ k, k ≤ gn g → 0 ≤ wsum g P d k ∧ wsum g P d k ≤ 9 * k := by
  intro k
  induction k with
  | zero => intro _; exact ⟨Int.le_refl 0, Int.le_refl 0⟩
  | succ k ih =>
    intro hk
    have wt := w.2.1 k (by omega)
    unfold WFt at wt
    have := ih (by omega)
    unfold wsum
    split <;> omega
theorem cw_ws {g : Gs} : ∀ k, cw g k = wsum g (fun t => g 4 t = 2) (fun _ => inferInstance) k := by
  intro k
  induction k with
  | zero => rfl
  | succ k ih => unfold cw wsum; rw [ih]
def bitP (S : Int) (t : Nat) : Prop := iand (ishr S (t : Int)) 1 = 1
def bitD (S : Int) (t : Nat) : Decidable (bitP S t) := Int.instDecidableEq _ _
theorem wsum_cg {g : Gs} {P P' : Nat → Prop} {d : ∀ t, Decidable (P t)} {d' : ∀ t, Decidable (P' t)} : ∀ k, (∀ t, t < k → (P t ↔ P' t)) → wsum g P d k = wsum g P' d' k := by
  intro k
  induction k with
  | zero => intro _; rfl
  | succ k ih =>
    intro h
    unfold wsum
    rw [ih (fun t ht => h t (by omega))]
    by_cases c : P k
    · rw [if_pos c, if_pos ((h k (by omega)).mp c)]
    · rw [if_neg c, if_neg (fun z => c ((h k (by omega)).mpr z))]
theorem q_weightOf {h : Mem} {g : Gs} {B : Int} {V : Nat → Prop} {S : Int} {Q : Int → Mem → Prop} (hR : RXp h g V) (hW : WF B g) (hQ : Q (wsum g (bitP S) (bitD S) (gn g)) h) : F_X12_weightOf h S Q := by
  obtain ⟨n8, nc⟩ := gn8 hW
  have key : ∀ (m i : Nat) (x : Int), x = (i : Int) → i + m = gn g → L_X12_weightOf_4 h S (wsum g (bitP S) (bitD S) i) x Q := by
    intro m
    induction m with
    | zero =>
      intro i x hx hi
      subst hx
      refine l_X12_weightOf_4 ?_
      unfold B_X12_weightOf_4
      rw [hR.1 0 (by omega) (by omega)]
      have : i = gn g := by omega
      subst this
      exact ⟨fun _ => hQ, fun c => absurd (by omega) c⟩
    | succ m ih =>
      intro i x hx hi
      subst hx
      have ihn := ih (i + 1) ((i : Int) + 1) (by omega) (by omega)
      have wt := hW.2.1 i (by omega)
      have wi := wsum_in hW (bitP S) (bitD S) i (by omega)
      unfold WFt at wt
      have ir : InR ((i : Int) + 1) := ⟨by omega, by omega⟩
      refine l_X12_weightOf_4 ?_
      unfold B_X12_weightOf_4
      rw [hR.1 0 (by omega) (by omega)]
      refine ⟨fun c => absurd c (by omega), fun c => ?_⟩
      unfold F_X12_isIn
      refine ⟨fun c1 => ⟨fun _ => ⟨⟨by omega, by omega⟩, ir, ?_⟩, fun z => absurd rfl z⟩, fun c1 => ⟨fun z => absurd z (by decide), fun _ => ?_⟩⟩
      · unfold wsum at ihn
        rw [if_neg (show ¬ bitP S i from c1)] at ihn
        exact ihn
      · refine q_thingOf (k := 0) rfl rfl (by omega) (by omega) ?_
        rw [hR.2.1 i 0 (by omega) (by omega) (fun q => absurd q (by omega))]
        unfold wsum at ihn
        rw [if_pos (show bitP S i from c1)] at ihn
        exact ⟨⟨by show -2147483648 ≤ _ + g 1 i; omega, by show _ + g 1 i ≤ 2147483647; omega⟩, ir, ihn⟩
  exact key (gn g) 0 0 rfl (by omega)
theorem q_things {h : Mem} {g : Gs} {B : Int} {V : Nat → Prop} {k : Nat} {Q : Int → Mem → Prop} (hk : k ≤ 3) (hR : RXp h g V) (hW : WF B g) (hQ : Q (setOf (fun t => g 4 t = (k : Int)) (fun _ => inferInstance) (gn g)) h) : F_X12_thingsThat h (k : Int) Q := by
  obtain ⟨n8, nc⟩ := gn8 hW
  have key : ∀ (m i : Nat) (x : Int), x = (i : Int) → i + m = gn g → L_X12_thingsThat_4 h (k : Int) (setOf (fun t => g 4 t = (k : Int)) (fun _ => inferInstance) i) x Q := by
    intro m
    induction m with
    | zero =>
      intro i x hx hi
      subst hx
      refine l_X12_thingsThat_4 ?_
      unfold B_X12_thingsThat_4
      rw [hR.1 0 (by omega) (by omega)]
      have : i = gn g := by omega
      subst this
      exact ⟨fun _ => hQ, fun c => absurd (by omega) c⟩
    | succ m ih =>
      intro i x hx hi
      subst hx
      have ihn := ih (i + 1) ((i : Int) + 1) (by omega) (by omega)
      have ir : InR ((i : Int) + 1) := ⟨by omega, by omega⟩
      refine l_X12_thingsThat_4 ?_
      unfold B_X12_thingsThat_4
      rw [hR.1 0 (by omega) (by omega)]
      refine ⟨fun c => absurd c (by omega), fun c => ⟨fun c1 => q_thingOf (k := 3) rfl rfl (by omega) (by omega) ?_, fun c1 => absurd c1 (by omega)⟩⟩
      rw [hR.2.1 i 3 (by omega) (by omega) (fun q => absurd q (by omega))]
      refine ⟨fun c2 => ⟨ir, ?_⟩, fun c2 y hy => ⟨ir, ?_⟩⟩
      · rw [(set_no (fun t => g 4 t = (k : Int)) (fun _ => inferInstance) (by omega) c2).1]
        exact ihn
      · rw [hy, set_yes (fun t => g 4 t = (k : Int)) (fun _ => inferInstance) (by omega) c2]
        exact ihn
  exact key (gn g) 0 0 rfl (by omega)
/-- what all that is carried weighs -/
theorem q_carried {h : Mem} {g : Gs} {B : Int} {V : Nat → Prop} {Q : Int → Mem → Prop} (hR : RXp h g V) (hW : WF B g) (hQ : Q (cw g (gn g)) h) : F_X12_thingsThat h 2 (fun r u => F_X12_weightOf u r Q) := by
  obtain ⟨n8, nc⟩ := gn8 hW
  refine q_things (k := 2) (by omega) hR hW (q_weightOf hR hW ?_)
  rw [cw_ws] at hQ
  have e := wsum_cg (g := g) (P := bitP (setOf (fun t => g 4 t = ((2 : Nat) : Int)) (fun _ => inferInstance) (gn g))) (d := bitD _) (P' := fun t => g 4 t = 2) (d' := fun _ => inferInstance) (gn g) (fun t ht => set_is (fun t => g 4 t = ((2 : Nat) : Int)) (fun _ => inferInstance) n8 ht)
  rw [e]
  exact hQ
