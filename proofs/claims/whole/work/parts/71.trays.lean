/-! trays -/
def TR (h : Mem) : Prop := ∀ i, i < 4 → (h 2 i = -1 ∧ h 165 i = -1) ∨ (0 ≤ h 2 i ∧ h 2 i ≤ 3 ∧ h 164 i = h 2 i ∧ 0 ≤ h 3 i ∧ h 3 i ≤ 60 ∧ h 165 i = h 3 i ∧ ∀ j : Nat, (j : Int) < h 3 i → h (5 + i) j = h 166 (60 * i + j))
def TX (h u : Mem) : Prop := ∀ i k, ¬ (i = 0 ∧ k = 0) → ¬ (2 ≤ i ∧ i < 9) → u i k = h i k
def TM (h u : Mem) : Prop := ∀ i k, ¬ (i = 161 ∧ k = 2) → ¬ (164 ≤ i ∧ i < 167) → u i k = h i k
/-- why a place of a tray is none: the status it gives -/
def whyT (h : Mem) (a b : Int) : Int := if a < 0 ∨ 4 ≤ a then 1 else if h 2 a.toNat = -1 then 2 else if b < 0 ∨ h 3 a.toNat ≤ b then 3 else 0
theorem s_whyT {h : Mem} {a b : Int} {Q : Int → Mem → Prop} (hQ : Q (whyT h a b) h) : F_X11_whyNoPlace h a b Q := by
  unfold F_X11_whyNoPlace F_X10_isTray F_X10_isMissing
  unfold whyT at hQ
  have one : a < 0 ∨ 4 ≤ a → Q 1 h := fun c => by rw [if_pos c] at hQ; exact hQ
  refine ⟨fun c => ⟨fun z => absurd rfl z, fun _ => one (Or.inl c)⟩, fun c => ⟨fun c2 => ⟨fun z => absurd rfl z, fun _ => one (Or.inr c2)⟩, fun c2 => ⟨fun _ => ⟨⟨by omega, by omega⟩, ?_, ?_⟩, fun z => absurd z (by decide)⟩⟩⟩
  · intro m
    rw [if_neg (by omega), if_neg m] at hQ
    refine ⟨fun _ => ⟨fun d => ?_, fun d => ⟨⟨by omega, by omega⟩, fun d2 => ?_, fun d2 => ?_⟩⟩, fun z => absurd rfl z⟩
    · rw [if_pos (Or.inl d)] at hQ; exact hQ
    · rw [if_neg (by omega)] at hQ; exact hQ
    · rw [if_pos (by omega)] at hQ; exact hQ
  · intro m
    rw [if_neg (by omega), if_pos m] at hQ
    exact ⟨fun z => absurd z (by decide), fun _ => hQ⟩
theorem q_whyT {h h0 : Mem} {a b : Int} {Q : Int → Mem → Prop} (t : TR h0) (e1 : ∀ k, h 165 k = h0 165 k) (hQ : Q (whyT h0 a b) h) : F_X12_wrongPlace h a b Q := by
  unfold F_X12_wrongPlace F_X12_isTray
  unfold whyT at hQ
  have one : a < 0 ∨ 4 ≤ a → Q 1 h := fun c => by rw [if_pos c] at hQ; exact hQ
  refine ⟨fun c => ⟨fun z => absurd rfl z, fun _ => one (Or.inl c)⟩, fun c => ⟨fun c2 => ⟨fun z => absurd rfl z, fun _ => one (Or.inr c2)⟩, fun c2 => ⟨fun _ => ⟨⟨by omega, by omega⟩, ?_, ?_⟩, fun z => absurd z (by decide)⟩⟩⟩
  · intro m
    rw [e1] at m
    have ti := t a.toNat (by omega)
    rw [if_neg (by omega), if_neg (by omega)] at hQ
    rw [e1]
    refine ⟨fun d => ?_, fun d => ⟨fun d2 => ?_, fun d2 => ?_⟩⟩
    · rw [if_pos (Or.inl d)] at hQ; exact hQ
    · rw [if_neg (by omega)] at hQ; exact hQ
    · rw [if_pos (by omega)] at hQ; exact hQ
  · intro m
    rw [e1] at m
    have ti := t a.toNat (by omega)
    rw [if_neg (by omega), if_pos (by omega)] at hQ
    exact hQ
theorem whyT_in {h : Mem} {a b : Int} : 0 ≤ whyT h a b ∧ (whyT h a b = 0 → 0 ≤ a ∧ a < 4 ∧ h 2 a.toNat ≠ -1 ∧ 0 ≤ b ∧ b < h 3 a.toNat) := by
  unfold whyT
  by_cases c : a < 0 ∨ 4 ≤ a
  · rw [if_pos c]; omega
  · rw [if_neg c]
    by_cases c2 : h 2 a.toNat = -1
    · rw [if_pos c2]; omega
    · rw [if_neg c2]
      by_cases c3 : b < 0 ∨ h 3 a.toNat ≤ b
      · rw [if_pos c3]; omega
      · rw [if_neg c3]; omega
theorem k_read {h : Mem} {a b : Int} (t : TR h) {Q : Int → Int → Mem → Prop} (hQ : ∀ r, Q r r (mset (mset h 0 0 (whyT h a b)) 161 2 (whyT h a b))) : F_X11_read h a b (fun r1 h1 => F_X12_read h1 a b (fun r2 h2 => Q r1 r2 h2)) := by
  unfold F_X11_read
  obtain ⟨w0, w1⟩ := whyT_in (h := h) (a := a) (b := b)
  refine s_whyT (fun h3 e3 => ?_)
  have back : ∀ v : Int, (whyT h a b = 0 → v = h 166 (60 * a.toNat + b.toNat)) → (whyT h a b ≠ 0 → v = -1) → F_X12_read h3 a b (fun r2 h2 => Q v r2 h2) := by
    intro v v0 v1
    unfold F_X12_read
    refine q_whyT t (fun k => by rw [e3, mset_i _ (by omega)]) (fun h4 e4 => ?_)
    have e2 : h4 161 2 = whyT h a b := by rw [e4, mset_at]
    have fin := hQ v
    rw [← e3, ← e4] at fin
    rw [e2]
    refine ⟨fun c => ?_, fun c => ?_⟩
    · obtain ⟨q1, q2, q3, q4, q5⟩ := w1 (by omega)
      have ti := t a.toNat (by omega)
      refine ⟨⟨by omega, by omega⟩, ⟨by omega, by omega⟩, ⟨by omega, by omega⟩, ?_⟩
      have ez : (60 * a + b).toNat = 60 * a.toNat + b.toNat := by omega
      rw [ez, e4, mset_i _ (by omega), e3, mset_i _ (by omega), ← v0 (by omega), ← e3, ← e4]
      exact fin
    · have := v1 (by omega)
      rw [this] at fin ⊢
      exact fin
  refine ⟨fun c => back _ (fun z => absurd z c) (fun _ => rfl), fun c => ?_⟩
  obtain ⟨q1, q2, q3, q4, q5⟩ := w1 c
  have ti := t a.toNat (by omega)
  refine ⟨⟨by omega, by omega⟩, ⟨by omega, by omega⟩, back _ (fun _ => ?_) (fun z => absurd c z)⟩
  have ez : 4 + 1 + 1 * a.toNat = 5 + a.toNat := by omega
  rw [ez, e3, mset_i _ (by omega)]
  rcases ti with ⟨z, _⟩ | ⟨_, _, _, _, _, _, z⟩
  · exact absurd z q3
  · exact z b.toNat (by omega)
