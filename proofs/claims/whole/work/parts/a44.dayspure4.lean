/-- what an entry may say, partners aside -/
def EnOk (g : Gs) (k : Int) (e : En) : Prop := (k = 14 ∧ e.1 = 0 ∧ 1 ≤ e.2.1 ∧ e.2.1 ≤ 24 ∧ e.2.2.1 = 0 ∧ e.2.2.2 = 0) ∨ (k = 15 ∧ e.1 = 1 ∧ 0 ≤ e.2.1 ∧ e.2.1 < gn g ∧ 0 ≤ e.2.2.1 ∧ e.2.2.1 < g 0 2 ∧ e.2.2.2 = 0) ∨ (k = 16 ∧ e.1 = 2 ∧ 0 ≤ e.2.1 ∧ e.2.1 < gn g ∧ e.2.2.1 = 0 ∧ e.2.2.2 = 0) ∨ (k = 17 ∧ e.1 = 3 ∧ e.2.1 = 0 ∧ e.2.2.1 = 0 ∧ e.2.2.2 = 0) ∨ (k = 18 ∧ ((e.1 = 4 ∧ 0 ≤ e.2.1 ∧ e.2.1 < gn g ∧ e.2.2.1 = 0 ∧ e.2.2.2 = 0) ∨ (e.1 = 5 ∧ (e.2.1 = 0 ∨ e.2.1 = 1) ∧ e.2.2.1 = 0 ∧ e.2.2.2 = 0) ∨ (e.1 = 6 ∧ e.2.1 = -1 ∧ 0 ≤ e.2.2.1 ∧ e.2.2.1 ≤ 15) ∨ (e.1 = 7 ∧ 0 ≤ e.2.1 ∧ e.2.1 < gm g ∧ 0 ≤ e.2.2.1 ∧ e.2.2.1 ≤ 9999))) ∨ (k = 21 ∧ e.1 = 8 ∧ 1 ≤ e.2.1 ∧ e.2.1 ≤ 99 ∧ e.2.2.1 = 0 ∧ e.2.2.2 = 0) ∨ (k = 23 ∧ e.1 = 9 ∧ e.2.1 = 0 ∧ e.2.2.1 = 0 ∧ e.2.2.2 = 0)
theorem thg_in {B : Nat → Int} {n s s' : Nat} {g : Gs} (h : pThg B n g s = .ok s') : 0 ≤ vThg B n g s ∧ vThg B n g s < gn g := by
  unfold pThg at h
  obtain ⟨a, ha, h⟩ := bnd_ok h
  by_cases c : nf (g 11) (tlt B n s) (gn g) 0 = -1
  · rw [if_pos c] at h; cases h
  · unfold vThg
    rcases nf_in (f := g 11) (x := tlt B n s) (gn g) 0 with q | ⟨q1, q2, -⟩
    · exact absurd q c
    · exact ⟨by omega, by omega⟩
theorem mil_in {B : Nat → Int} {n s s' : Nat} {g : Gs} (h : pMil B n g s = .ok s') : 0 ≤ vMil B n g s ∧ vMil B n g s < gm g := by
  unfold pMil at h
  obtain ⟨a, ha, h⟩ := bnd_ok h
  by_cases c : nf (g 12) (tlt B n s) (gm g) 0 = -1
  · rw [if_pos c] at h; cases h
  · unfold vMil
    rcases nf_in (f := g 12) (x := tlt B n s) (gm g) 0 with q | ⟨q1, q2, -⟩
    · exact absurd q c
    · exact ⟨by omega, by omega⟩
theorem rest_in {B : Nat → Int} {n s s' : Nat} {g : Gs} {k : Int} {e : En} (hk : stp k = true) (h : pRest B n g k s = .ok (s', e)) : EnOk g k e := by
  have kk := stp_is.mp hk
  unfold pRest at h
  unfold EnOk
  by_cases c14 : k = 14
  · rw [if_pos c14] at h
    obtain ⟨s1, h1, h⟩ := bnd_ok h
    obtain ⟨_, _, b⟩ := pNo_ok h1
    cases h
    exact Or.inl ⟨c14, rfl, b.1, b.2, rfl, rfl⟩
  rw [if_neg c14] at h
  by_cases c15 : k = 15
  · rw [if_pos c15] at h
    obtain ⟨s1, h1, h⟩ := bnd_ok h
    obtain ⟨s2, h2, h⟩ := bnd_ok h
    obtain ⟨_, _, b⟩ := pNo_ok h2
    have t := thg_in h1
    cases h
    exact Or.inr (Or.inl ⟨c15, rfl, t.1, t.2, b.1, by show tke_v B n s1 < g 0 2; omega, rfl⟩)
  rw [if_neg c15] at h
  by_cases c16 : k = 16
  · rw [if_pos c16] at h
    obtain ⟨s1, h1, h⟩ := bnd_ok h
    have t := thg_in h1
    cases h
    exact Or.inr (Or.inr (Or.inl ⟨c16, rfl, t.1, t.2, rfl, rfl⟩))
  rw [if_neg c16] at h
  by_cases c17 : k = 17
  · rw [if_pos c17] at h
    cases h
    exact Or.inr (Or.inr (Or.inr (Or.inl ⟨c17, rfl, rfl, rfl, rfl⟩)))
  rw [if_neg c17] at h
  by_cases c18 : k = 18
  · rw [if_pos c18] at h
    refine Or.inr (Or.inr (Or.inr (Or.inr (Or.inl ⟨c18, ?_⟩))))
    unfold pTest at h
    obtain ⟨s1, h1, h⟩ := bnd_ok h
    by_cases d11 : xk B n s = 11
    · rw [if_pos d11] at h
      obtain ⟨s2, h2, h⟩ := bnd_ok h
      have t := thg_in h2
      cases h
      exact Or.inl ⟨rfl, t.1, t.2, rfl, rfl⟩
    rw [if_neg d11] at h
    by_cases d19 : xk B n s = 19
    · rw [if_pos d19] at h
      obtain ⟨s2, h2, h⟩ := bnd_ok h
      cases h
      refine Or.inr (Or.inl ⟨rfl, ?_, rfl, rfl⟩)
      show (if xk B n s1 = 4 then (0 : Int) else 1) = 0 ∨ (if xk B n s1 = 4 then (0 : Int) else 1) = 1
      split <;> simp
    rw [if_neg d19] at h
    by_cases d20 : xk B n s = 20
    · rw [if_pos d20] at h
      obtain ⟨s2, h2, h⟩ := bnd_ok h
      obtain ⟨s3, h3, h⟩ := bnd_ok h
      obtain ⟨s4, h4, h⟩ := bnd_ok h
      obtain ⟨_, _, b⟩ := pNo_ok h4
      have t := mil_in h2
      cases h
      exact Or.inr (Or.inr (Or.inr ⟨rfl, t.1, t.2, b.1, b.2⟩))
    · rw [if_neg d20] at h
      obtain ⟨s2, h2, h⟩ := bnd_ok h
      obtain ⟨s3, h3, h⟩ := bnd_ok h
      obtain ⟨_, _, b⟩ := pNo_ok h3
      cases h
      exact Or.inr (Or.inr (Or.inl ⟨rfl, rfl, b.1, b.2⟩))
  rw [if_neg c18] at h
  by_cases c21 : k = 21
  · rw [if_pos c21] at h
    obtain ⟨s1, h1, h⟩ := bnd_ok h
    obtain ⟨_, _, b⟩ := pNo_ok h1
    cases h
    exact Or.inr (Or.inr (Or.inr (Or.inr (Or.inr (Or.inl ⟨c21, rfl, b.1, b.2, rfl, rfl⟩)))))
  · rw [if_neg c21] at h
    cases h
    exact Or.inr (Or.inr (Or.inr (Or.inr (Or.inr (Or.inr ⟨by omega, rfl, rfl, rfl, rfl⟩)))))
