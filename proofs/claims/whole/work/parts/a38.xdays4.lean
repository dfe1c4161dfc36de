section XD4
variable {h u : Mem} {d : Dy}
theorem s_addStep {k r : Int} {Q : Mem → Prop} (e1 : u 35 1 = d 0 1) (e4 : u 34 4 = d 0 3) (p1 : 0 ≤ d 0 1 ∧ d 0 1 ≤ 30) (p3 : 0 ≤ d 0 3) (hQ : ∀ v, (∀ e, RDr u (addE d e) → r = d 0 2 → RDr v (oneE d k e)) → (∀ i j, ¬ (i = 35 ∧ j = 1) → i ≠ 41 → ¬ (i = 34 ∧ j = 4) → v i j = u i j) → Q v) : F_X2_addStep u k r Q := by
  unfold F_X2_addStep
  rw [e1]
  refine ⟨⟨by omega, by omega⟩, fun h2 e2 => ?_⟩
  have d4 : h2 34 4 = d 0 3 := by rw [e2, mset_i _ (by omega)]; exact e4
  have base : ∀ e, RDr u (addE d e) → RDr h2 (stpE (addE d e)) := fun e re => by
    have := re.stp
    rw [addE_o (f := 0) (k := 1) (by omega) (by omega)] at this
    rw [e2]; exact this
  have f2 : ∀ i j, ¬ (i = 35 ∧ j = 1) → h2 i j = u i j := fun i j q => by rw [e2, mset_o q]
  refine s_opens (fun c => ⟨fun z => absurd z (by decide), fun _ => ⟨fun q => hQ h2 (fun e re _ => ?_) (fun i j q1 _ _ => f2 i j q1), fun q => ?_⟩⟩) (fun c => ⟨fun _ => hQ h2 (fun e re _ => ?_) (fun i j q1 _ _ => f2 i j q1), fun z => absurd rfl z⟩)
  · unfold oneE
    rw [if_neg (by omega)]; exact base e re
  · rw [d4] at q ⊢
    refine ⟨⟨by omega, by omega⟩, fun h6 e6 => ?_⟩
    have d6 : h6 34 4 = d 0 3 := by rw [e6, mset_i _ (by omega)]; exact d4
    rw [d6]
    refine ⟨⟨by omega, by omega⟩, fun v ev => hQ v (fun e re hr => ?_) (fun i j q1 q2 q3 => ?_)⟩
    · unfold oneE
      rw [if_pos ⟨c, by omega⟩, ev, e6, hr]
      have b := base e re
      have s3 : stpE (addE d e) 0 3 = d 0 3 := by rw [stpE_o (by omega), addE_o (by omega) (by omega)]
      have t := rdr_psh (x := d 0 2) b (by omega)
      rw [s3, dd_same s3] at t
      exact t
    · rw [ev, mset_o q3, e6, mset_i _ q2]; exact f2 i j q1
  · unfold oneE
    rw [if_neg (fun z => c z.1)]; exact base e re
/-! the numbers stay in bounds -/
theorem dn_one {d : Dy} {k : Int} {e : En} (p : DN d) (q : d 0 1 < 30) : DN (oneE d k e) := by
  obtain ⟨p1, p2, p3, p4, p5, p6, p7⟩ := p
  have a2 : addE d e 0 2 = d 0 2 + 1 := by unfold addE; rw [if_pos ⟨rfl, rfl⟩]
  have b1 : stpE (addE d e) 0 1 = d 0 1 + 1 := by unfold stpE; rw [if_pos ⟨rfl, rfl⟩, addE_o (by omega) (by omega)]
  have b2 : stpE (addE d e) 0 2 = d 0 2 + 1 := by rw [stpE_o (by omega)]; exact a2
  have b3 : stpE (addE d e) 0 3 = d 0 3 := by rw [stpE_o (by omega), addE_o (by omega) (by omega)]
  have b6 : ∀ i, stpE (addE d e) 6 i = d 6 i := fun i => by rw [stpE_o (by omega), addE_o (by omega) (by omega)]
  unfold oneE
  by_cases c : opn k = true ∧ d 0 3 < 3
  · rw [if_pos c]
    have c1 : psh (stpE (addE d e)) (d 0 2) 0 1 = d 0 1 + 1 := by rw [psh_o (by omega) (by omega)]; exact b1
    have c2 : psh (stpE (addE d e)) (d 0 2) 0 2 = d 0 2 + 1 := by rw [psh_o (by omega) (by omega)]; exact b2
    have c3 : psh (stpE (addE d e)) (d 0 2) 0 3 = d 0 3 + 1 := by unfold psh; rw [if_pos ⟨rfl, rfl⟩, b3]
    refine ⟨by omega, by omega, by omega, by omega, by omega, by omega, fun i hi => ?_⟩
    by_cases z : i = dd d
    · subst z
      have : psh (stpE (addE d e)) (d 0 2) 6 (dd d) = d 0 2 := by unfold psh; rw [if_neg (by omega), if_pos ⟨rfl, (dd_same b3).symm⟩]
      omega
    · have hi2 : i < dd d := by unfold dd at hi z ⊢; rw [c3] at hi; omega
      have := p7 i hi2
      rw [psh_o (by omega) (by rw [dd_same b3]; omega), b6]; omega
  · rw [if_neg c]
    refine ⟨by omega, by omega, by omega, by omega, by omega, by omega, fun i hi => ?_⟩
    rw [dd_same b3] at hi
    have := p7 i hi
    rw [b6]; omega
theorem dn_cls {d : Dy} (p : DN d) (q : 1 ≤ d 0 3) : DN (clsE d) := by
  obtain ⟨p1, p2, p3, p4, p5, p6, p7⟩ := p
  have c1 : clsE d 0 1 = d 0 1 := by unfold clsE; rw [pairE_o (by omega), addE_o (by omega) (by omega), popE_o (by omega)]
  have c2 : clsE d 0 2 = d 0 2 + 1 := by
    unfold clsE; rw [pairE_o (by omega)]
    unfold addE; rw [if_pos ⟨rfl, rfl⟩, popE_o (by omega)]
  have c3 : clsE d 0 3 = d 0 3 - 1 := by
    unfold clsE; rw [pairE_o (by omega), addE_o (by omega) (by omega)]
    unfold popE; rw [if_pos ⟨rfl, rfl⟩]
  refine ⟨by omega, by omega, by omega, by omega, by omega, by omega, fun i hi => ?_⟩
  have hi2 : i < dd d := by unfold dd at hi ⊢; rw [c3] at hi; omega
  have e6 : clsE d 6 i = d 6 i := by unfold clsE; rw [pairE_o (by omega), addE_o (by omega) (by omega), popE_o (by omega)]
  have := p7 i hi2
  rw [e6]; omega
end XD4
