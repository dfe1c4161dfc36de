section XD2
variable {h : Mem} {B : Nat → Int} {n : Nat} {c : Er} {g : Gs} {d : Dy}
theorem s_readRest {k : Int} {Q : Int → Mem → Prop} (x : XS h B n c) (x3 : X34 h) (rc : RC h 12 g) (wl : 2 ≤ g 0 2 ∧ g 0 2 ≤ 16) (n8 : gn g ≤ 8 ∧ (gn g : Int) = g 0 0) (n4 : gm g ≤ 4 ∧ (gm g : Int) = g 0 1) (r : RDr h d) (p : 0 ≤ d 0 2 ∧ d 0 2 ≤ 60) (hQ : ∀ r u, XE h u B n d r (bnd c (pRest B n g k)) → Q r u) : F_X2_readRest h k Q := by
  have plain : ∀ a1 : Int, (∀ s, pRest B n g k s = .ok (s, a1, 0, 0, 0)) → F_X1_addEntry h 35 a1 0 0 0 (fun r2 h2 => Q r2 h2) := fun a1 hp => by
    refine s_ent r p F9f.rf (q := bnd c (pRest B n g k)) ?_ ?_ hQ
    · cases c with
      | error e => exact x
      | ok s => rw [bnd_y, hp]; exact x
    · intro s' e he
      obtain ⟨s, hs, ho⟩ := bnd_ok he
      rw [hp] at ho
      cases ho; rfl
  have num : ∀ (lo hi a1 : Int), lo ≤ hi → (∀ s, pRest B n g k s = bnd (pNo B n lo hi s) fun s1 => .ok (s1, a1, tke_v B n s, 0, 0)) → h 34 1 = (9 : Int) ∧ (F_X8_takeNumberOf h lo hi (fun r3 h2 => F_X1_addEntry h2 35 a1 r3 0 0 (fun r5 h4 => Q r5 h4))) := fun lo hi a1 hl hp => by
    refine ⟨x3.1, sx_takeNumberOf x hl (fun r3 u f xu _ vu => s_ent r p f (q := bnd c (pRest B n g k)) ?_ ?_ hQ)⟩
    · cases c with
      | error e => exact xu
      | ok s =>
        have xu' : XS u B n (pNo B n lo hi s) := xu
        rw [bnd_y, hp]
        cases h1 : pNo B n lo hi s with
        | error e => rw [h1] at xu'; exact xu'
        | ok s1 => rw [h1] at xu'; exact xu'
    · intro s' e he
      obtain ⟨s, hs, ho⟩ := bnd_ok he
      rw [hp] at ho
      obtain ⟨s1, h1, ho⟩ := bnd_ok ho
      have a := vu s hs s1 h1
      cases ho
      rw [a]
  unfold F_X2_readRest
  refine ⟨fun q => num 1 24 0 (by omega) (fun s => ?_), fun q => ?_, fun q => ?_, fun q => plain 3 (fun s => ?_), fun q => ?_, fun q => plain 9 (fun s => ?_), fun q => plain 9 (fun s => ?_), fun q => num 1 99 8 (by omega) (fun s => ?_), fun q => plain 9 (fun s => ?_)⟩
  · unfold pRest; rw [if_pos q]
  · refine s_takeThing x x3 rc n8 (fun r7 u f xu vu => ⟨(x3.f9 f).1, 12, (x3.f9 f).2, lay_12, ?_⟩)
    have e0 : u 12 0 = g 0 2 := (rc.f9o f).1.1.1
    rw [e0]
    refine ⟨⟨by omega, by omega⟩, sx_takeNumberOf xu (by omega) (fun r12 y fy xy _ vy => s_ent r p (f.tr fy) (q := bnd c (pRest B n g k)) ?_ ?_ hQ)⟩
    · cases c with
      | error e => exact xy
      | ok s =>
        have xy' : XS y B n (bnd (pThg B n g s) (pNo B n 0 (g 0 2 - 1))) := xy
        rw [bnd_y]
        unfold pRest
        rw [if_neg (by omega), if_pos q]
        cases h1 : pThg B n g s with
        | error e => rw [h1] at xy'; exact xy'
        | ok s1 =>
          rw [h1] at xy'
          have xy2 : XS y B n (pNo B n 0 (g 0 2 - 1) s1) := xy'
          show XS y B n (pos4 (bnd (pNo B n 0 (g 0 2 - 1) s1) _))
          cases h2 : pNo B n 0 (g 0 2 - 1) s1 with
          | error e => rw [h2] at xy2; exact xy2
          | ok s2 => rw [h2] at xy2; exact xy2
    · intro s' e he
      obtain ⟨s, hs, ho⟩ := bnd_ok he
      unfold pRest at ho
      rw [if_neg (by omega), if_pos q] at ho
      obtain ⟨s1, h1, ho⟩ := bnd_ok ho
      obtain ⟨s2, h2, ho⟩ := bnd_ok ho
      have a1 := vu s hs s1 h1
      have a2 := vy s1 (by rw [hs, bnd_y]; exact h1) s2 h2
      cases ho
      rw [a1, a2]
  · refine s_takeThing x x3 rc n8 (fun r7 u f xu vu => s_ent r p f (q := bnd c (pRest B n g k)) ?_ ?_ hQ)
    · cases c with
      | error e => exact xu
      | ok s =>
        have xy' : XS u B n (pThg B n g s) := xu
        rw [bnd_y]
        unfold pRest
        rw [if_neg (by omega), if_neg (by omega), if_pos q]
        cases h1 : pThg B n g s with
        | error e => rw [h1] at xy'; exact xy'
        | ok s1 => rw [h1] at xy'; exact xy'
    · intro s' e he
      obtain ⟨s, hs, ho⟩ := bnd_ok he
      unfold pRest at ho
      rw [if_neg (by omega), if_neg (by omega), if_pos q] at ho
      obtain ⟨s1, h1, ho⟩ := bnd_ok ho
      have a1 := vu s hs s1 h1
      cases ho
      rw [a1]
  · unfold pRest; rw [if_neg (by omega), if_neg (by omega), if_neg (by omega), if_pos q]
  · have ep : pRest B n g k = pTest B n g := funext (fun s => by unfold pRest; rw [if_neg (by omega), if_neg (by omega), if_neg (by omega), if_neg (by omega), if_pos q])
    rw [ep] at hQ
    exact s_readTest x x3 rc n8 n4 r p hQ
  · unfold pRest; rw [if_neg (by omega), if_neg (by omega), if_neg (by omega), if_neg (by omega), if_neg (by omega), if_neg (by omega)]
  · unfold pRest; rw [if_neg (by omega), if_neg (by omega), if_neg (by omega), if_neg (by omega), if_neg (by omega), if_neg (by omega)]
  · unfold pRest; rw [if_neg (by omega), if_neg (by omega), if_neg (by omega), if_neg (by omega), if_neg (by omega), if_pos q]
  · unfold pRest; rw [if_neg (by omega), if_neg (by omega), if_neg (by omega), if_neg (by omega), if_neg (by omega), if_neg (by omega)]
theorem opn_is {k : Int} : opn k = true ↔ k = 18 ∨ k = 21 := by
  unfold opn
  rw [Bool.or_eq_true]
  exact ⟨fun q => q.elim (fun a => Or.inl (of_decide_eq_true a)) (fun a => Or.inr (of_decide_eq_true a)), fun q => q.elim (fun a => Or.inl (decide_eq_true a)) (fun a => Or.inr (decide_eq_true a))⟩
theorem stp_is {k : Int} : stp k = true ↔ (14 ≤ k ∧ k ≤ 18) ∨ k = 21 ∨ k = 23 := by
  unfold stp
  rw [Bool.or_eq_true, Bool.or_eq_true]
  refine ⟨fun q => ?_, fun q => ?_⟩
  · rcases q with (a | a) | a
    · exact Or.inl (of_decide_eq_true a)
    · exact Or.inr (Or.inl (of_decide_eq_true a))
    · exact Or.inr (Or.inr (of_decide_eq_true a))
  · rcases q with a | a | a
    · exact Or.inl (Or.inl (decide_eq_true a))
    · exact Or.inl (Or.inr (decide_eq_true a))
    · exact Or.inr (decide_eq_true a)
theorem s_opens {k : Int} {Q : Int → Mem → Prop} (h1 : opn k = true → Q 1 h) (h0 : ¬ (opn k = true) → Q 0 h) : F_X2_opens h k Q := by
  unfold F_X2_opens
  exact ⟨fun q => h1 (opn_is.mpr (Or.inl q)), fun q => ⟨fun q2 => h0 (fun z => by have := opn_is.mp z; omega), fun q2 => h1 (opn_is.mpr (Or.inr q2))⟩⟩
theorem s_isStep {k : Int} {Q : Int → Mem → Prop} (h1 : stp k = true → Q 1 h) (h0 : ¬ (stp k = true) → Q 0 h) : F_X2_isStep h k Q := by
  have y : (14 ≤ k ∧ k ≤ 18) ∨ k = 21 ∨ k = 23 → Q 1 h := fun q => h1 (stp_is.mpr q)
  have z : ¬ ((14 ≤ k ∧ k ≤ 18) ∨ k = 21 ∨ k = 23) → Q 0 h := fun q => h0 (fun w => q (stp_is.mp w))
  unfold F_X2_isStep
  exact ⟨fun q => y (by omega), fun q => y (by omega), fun q => y (by omega), fun q => y (by omega), fun q => y (by omega), fun q => z (by omega), fun q => z (by omega), fun q => y (by omega), fun q => z (by omega), fun q => y (by omega), fun q => z (by omega)⟩
/-- as x looks at a step's word, and goes on -/
theorem s_lookAtStep {s : Nat} {Q : Mem → Prop} (x : XS h B n (.ok s)) (x3 : X34 h) (r : RDr h d) (hQ : ∀ u, F9f h u → (∃ c', XS u B n c' ∧ (bnd c' (fun s => .ok (nx B n s)) : Er) = pLook B n d s) → Q u) : F_X2_lookAtStep h (xk B n s) Q := by
  unfold F_X2_lookAtStep
  have e1 := r.2.1
  have e4 := r.2.2.2.1
  refine s_isStep (fun c1 => ⟨fun _ => ⟨fun q => ?_, fun q => ⟨x3.1, ?_⟩⟩, fun z => absurd z (by decide)⟩) (fun c1 => ⟨fun z => absurd rfl z, fun _ => ⟨x3.1, ?_⟩⟩)
  · refine s_opens (fun c2 => ⟨fun z => absurd z (by decide), fun _ => ⟨fun q2 => hQ h F9f.rf ⟨.ok s, x, ?_⟩, fun q2 => ⟨x3.1, ?_⟩⟩⟩) (fun c2 => ⟨fun _ => hQ h F9f.rf ⟨.ok s, x, ?_⟩, fun z => absurd rfl z⟩)
    · unfold pLook
      rw [if_neg (by rw [c1]; decide), if_neg (by omega), if_neg (by omega)]; rfl
    · refine sx_fail x (w := 7) (by decide) (fun u fu xu => hQ u fu ⟨_, xu, ?_⟩)
      unfold pLook
      rw [if_neg (by rw [c1]; decide), if_neg (by omega), if_pos ⟨c2, by omega⟩]; rfl
    · unfold pLook
      rw [if_neg (by rw [c1]; decide), if_neg (by omega), if_neg (fun z => c2 z.1)]; rfl
  · refine sx_fail x (w := 6) (by decide) (fun u fu xu => hQ u fu ⟨_, xu, ?_⟩)
    unfold pLook
    rw [if_neg (by rw [c1]; decide), if_pos (by omega)]; rfl
  · refine sx_fail x (w := 2) (by decide) (fun u fu xu => hQ u fu ⟨_, xu, ?_⟩)
    unfold pLook
    rw [if_pos (by simpa using c1)]; rfl
end XD2
