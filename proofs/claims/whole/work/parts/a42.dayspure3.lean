theorem one_00 {d : Dy} {k : Int} {e : En} : oneE d k e 0 0 = d 0 0 := by
  unfold oneE
  by_cases c : opn k = true ∧ d 0 3 < 3
  · rw [if_pos c, psh_o (by omega) (by omega), stpE_o (by omega), addE_o (by omega) (by omega)]
  · rw [if_neg c, stpE_o (by omega), addE_o (by omega) (by omega)]
theorem cls_00 {d : Dy} : clsE d 0 0 = d 0 0 := by
  unfold clsE
  rw [pairE_o (by omega), addE_o (by omega) (by omega), popE_o (by omega)]
theorem dp_step {B : Nat → Int} {n : Nat} {g : Gs} {d d' : Dy} {s s' : Nat} (p : DN d) (h : pStep B n g d s = .ok (s', d')) : DN d' ∧ d' 0 0 = d 0 0 := by
  unfold pStep at h
  by_cases c : xk B n s = 22 ∧ 0 < d 0 3
  · rw [if_pos c] at h
    cases h
    exact ⟨dn_cls p (by omega), cls_00⟩
  · rw [if_neg c] at h
    obtain ⟨s1, h1, h⟩ := bnd_ok h
    obtain ⟨q, h2, h⟩ := bnd_ok h
    cases h
    exact ⟨dn_one p (pLook_ok h1).2.1, one_00⟩
theorem dp_days {B : Nat → Int} {n : Nat} {g : Gs} : ∀ (k : Nat) (d : Dy) (s : Nat) (d' : Dy), DN d → pDays B n g k d s = .ok d' → DN d' ∧ d' 0 0 = d 0 0 ∧ d' 0 3 = 0 := by
  have fin : ∀ (d : Dy) (s : Nat) (d' : Dy), DN d → endD B n d s = .ok d' → DN d' ∧ d' 0 0 = d 0 0 ∧ d' 0 3 = 0 := fun d s d' p h => by
    unfold endD at h
    by_cases c : 0 < d 0 3
    · rw [if_pos c] at h; cases h
    · rw [if_neg c] at h; cases h
      have p4 := p.2.2.2.1
      exact ⟨p, rfl, by omega⟩
  intro k
  induction k with
  | zero => intro d s d' p h; exact fin d s d' p h
  | succ k ih =>
    intro d s d' p h
    unfold pDays at h
    by_cases c : tke B n s = 0
    · rw [if_pos c] at h; exact fin d s d' p h
    · rw [if_neg c] at h
      obtain ⟨⟨s1, d1⟩, h1, h⟩ := bnd_ok h
      obtain ⟨s2, h2, h⟩ := bnd_ok h
      obtain ⟨p1, z1⟩ := dp_step p h1
      obtain ⟨q1, q2, q3⟩ := ih d1 s2 d' p1 h
      exact ⟨q1, q2.trans z1, q3⟩
