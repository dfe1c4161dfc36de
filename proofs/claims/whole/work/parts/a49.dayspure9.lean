theorem dv_step {B : Nat → Int} {n : Nat} {g : Gs} {d d' : Dy} {s s' : Nat} (p : DN d) (v : DV d) (w : DE0 g d) (h : pStep B n g d s = .ok (s', d')) : DV d' ∧ DE0 g d' := by
  unfold pStep at h
  by_cases c : xk B n s = 22 ∧ 0 < d 0 3
  · rw [if_pos c] at h
    cases h
    exact ⟨dv_cls v p.2.2.1 (by omega), de_cls w p.2.2.1⟩
  · rw [if_neg c] at h
    obtain ⟨s1, h1, h⟩ := bnd_ok h
    obtain ⟨q, h2, h⟩ := bnd_ok h
    have kk : stp (xk B n s) = true ∧ (opn (xk B n s) = true → d 0 3 < 3) := by
      unfold pLook at h1
      by_cases c1 : stp (xk B n s) = false
      · rw [if_pos c1] at h1; cases h1
      · rw [if_neg c1] at h1
        by_cases c2 : 30 ≤ d 0 1
        · rw [if_pos c2] at h1; cases h1
        · rw [if_neg c2] at h1
          by_cases c3 : opn (xk B n s) = true ∧ 3 ≤ d 0 3
          · rw [if_pos c3] at h1; cases h1
          · exact ⟨by simpa using c1, fun z => by
              by_cases y : 3 ≤ d 0 3
              · exact absurd ⟨z, y⟩ c3
              · omega⟩
    have en := rest_in (e := q.2) (s' := q.1) kk.1 h2
    have eo := en_op en
    cases h
    exact ⟨dv_one v p kk.2 eo.1 eo.2.1, de_one w p.2.2.1 en⟩
theorem dv_days {B : Nat → Int} {n : Nat} {g : Gs} : ∀ (k : Nat) (d : Dy) (s : Nat) (d' : Dy), DN d → DV d → DE0 g d → pDays B n g k d s = .ok d' → DV d' ∧ DE0 g d' := by
  have fin : ∀ (d : Dy) (s : Nat) (d' : Dy), DV d → DE0 g d → endD B n d s = .ok d' → DV d' ∧ DE0 g d' := fun d s d' v w h => by
    unfold endD at h
    by_cases c : 0 < d 0 3
    · rw [if_pos c] at h; cases h
    · rw [if_neg c] at h; cases h; exact ⟨v, w⟩
  intro k
  induction k with
  | zero => intro d s d' p v w h; exact fin d s d' v w h
  | succ k ih =>
    intro d s d' p v w h
    unfold pDays at h
    by_cases c : tke B n s = 0
    · rw [if_pos c] at h; exact fin d s d' v w h
    · rw [if_neg c] at h
      obtain ⟨⟨s1, d1⟩, h1, h⟩ := bnd_ok h
      obtain ⟨s2, h2, h⟩ := bnd_ok h
      obtain ⟨p1, z1⟩ := dp_step p h1
      obtain ⟨v1, w1⟩ := dv_step p v w h1
      exact ih d1 s2 d' p1 v1 w1 h
theorem dv_dS : DV dS := ⟨fun i hi => absurd hi (by show ¬ (i < 0); omega), fun i j _ h => absurd h (by show ¬ (j < 0); omega), fun k hk => absurd hk (by show ¬ (k < 0); omega), fun k hk => absurd hk (by show ¬ (k < 0); omega), fun k hk => absurd hk (by show ¬ (k + 1 < 0); omega), fun o p ho => absurd ho (by show ¬ (o < 0); omega), fun o q ho => absurd ho (by show ¬ (o < 0); omega)⟩
theorem wfd_days {B : Nat → Int} {n s k : Nat} {g : Gs} {d' : Dy} (n8 : (gn g : Int) = g 0 0) (n4 : (gm g : Int) = g 0 1) (h : pDays B n g k dS s = .ok d') : WFD d' (g 0 0) (g 0 1) (g 0 2) ∧ DN d' ∧ d' 0 0 = 1 ∧ d' 0 3 = 0 := by
  obtain ⟨a1, a2, a3⟩ := dp_days k dS s d' dn_dS h
  obtain ⟨b1, b2⟩ := dv_days (g := g) k dS s d' dn_dS dv_dS (fun k hk => absurd hk (by show ¬ (k < 0); omega)) h
  exact ⟨wfd_of n8 n4 a1 b1 b2 a2 a3, a1, a2, a3⟩
