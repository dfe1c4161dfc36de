/-! an hour keeps what holds of a glen -/
theorem sset_n {g : Gs} {i f t : Nat} {v : Int} (h : f ≠ 0 ∨ t ≠ i) : sset g i v f t = g f t := by
  unfold sset
  rw [if_neg (by omega)]
theorem sset_e {g : Gs} {i : Nat} {v : Int} : sset g i v 0 i = v := by
  unfold sset
  rw [if_pos ⟨rfl, rfl⟩]
theorem grindTo_n {g : Gs} {k f m : Nat} {a w : Int} (h : f ≠ 10) : grindTo k a w g f m = g f m := by
  unfold grindTo
  rw [if_neg (fun z => h z.1)]
theorem grindTo_10 {g : Gs} {k m : Nat} {a w : Int} : grindTo k a w g 10 m = g 10 m ∨ grindTo k a w g 10 m = g 10 m + 1 := by
  unfold grindTo
  split
  · exact Or.inr rfl
  · exact Or.inl rfl
theorem goalC_in {B : Int} {g : Gs} (w : WF B g) : 0 ≤ goalC g ∧ goalC g < g 0 2 := by
  have ws := w.1
  unfold WFs at ws
  unfold goalC gT
  rcases lr_ok w (gn g) (Nat.le_refl _) with ⟨e, -⟩ | ⟨t, h1, e, -⟩
  · rw [e, if_pos rfl]; omega
  · rw [e, if_neg (by show ¬ ((t : Int) = -1); omega), show (((t : Int), g 6 t).1).toNat = t from Int.toNat_natCast t]
    have wt := w.2.1 t h1
    unfold WFt at wt
    omega
/-- in an hour: the hour has been counted already -/
def WF1 (B : Int) (g : Gs) : Prop := WF B g ∧ g 0 8 + 1 ≤ g 0 5 ∧ (∀ t, t < gn g → g 7 t + 1 ≤ g 0 5) ∧ ∀ m, m < gm g → g 10 m + 1 ≤ g 0 5
theorem gn_sset {g : Gs} {i : Nat} {v : Int} (h : i ≠ 0) : gn (sset g i v) = gn g := by
  unfold gn
  rw [sset_n (by omega)]
theorem gm_sset {g : Gs} {i : Nat} {v : Int} (h : i ≠ 1) : gm (sset g i v) = gm g := by
  unfold gm
  rw [sset_n (by omega)]
theorem WF.hour {B : Int} {g : Gs} (w : WF B g) : WF1 (B + 1) (hourG g) := by
  obtain ⟨ws, wt, wm⟩ := w
  unfold hourG
  have e5 : sset g 5 (g 0 5 + 1) 0 5 = g 0 5 + 1 := sset_e
  unfold WFs at ws
  refine ⟨⟨?_, fun t ht => ?_, fun m hm => ?_⟩, ?_, fun t ht => ?_, fun m hm => ?_⟩
  · unfold WFs
    rw [e5, sset_n (by omega), sset_n (by omega), sset_n (by omega), sset_n (by omega), sset_n (by omega), sset_n (by omega), sset_n (by omega), sset_n (by omega)]
    omega
  · rw [gn_sset (by omega)] at ht
    have w := wt t ht
    unfold WFt at w ⊢
    rw [e5, sset_n (by omega), sset_n (by omega), sset_n (by omega), sset_n (by omega), sset_n (by omega), sset_n (by omega), sset_n (by omega), sset_n (by omega)]
    omega
  · rw [gm_sset (by omega)] at hm
    have w := wm m hm
    unfold WFm at w ⊢
    rw [e5, sset_n (by omega), sset_n (by omega), sset_n (by omega), sset_n (by omega)]
    omega
  · rw [e5, sset_n (by omega)]; omega
  · rw [gn_sset (by omega)] at ht
    have w := wt t ht
    unfold WFt at w
    rw [e5, sset_n (by omega)]; omega
  · rw [gm_sset (by omega)] at hm
    have w := wm m hm
    unfold WFm at w
    rw [e5, sset_n (by omega)]; omega
/-- what the stream's part of an hour leaves alone -/
theorem moveG_n {g : Gs} {f t : Nat} (h : (f ≠ 0 ∧ f ≠ 10) ∨ (f = 0 ∧ t ≠ 6 ∧ t ≠ 7 ∧ t ≠ 8)) : moveG g f t = g f t := by
  unfold moveG
  split
  · rw [sset_n (by omega), sset_n (by omega)]
  · split
    · rw [grindTo_n (by omega), sset_n (by omega)]
    · rfl
theorem gn_move {g : Gs} : gn (moveG g) = gn g := by
  unfold gn
  rw [moveG_n (by omega)]
theorem gm_move {g : Gs} : gm (moveG g) = gm g := by
  unfold gm
  rw [moveG_n (by omega)]
theorem move_10 {g : Gs} {m : Nat} : moveG g 10 m = g 10 m ∨ moveG g 10 m = g 10 m + 1 := by
  unfold moveG
  split
  · rw [sset_n (by omega), sset_n (by omega)]; exact Or.inl rfl
  · split
    · have := grindTo_10 (g := sset g 6 (nextC g)) (k := gm g) (m := m) (a := nextC g) (w := g 0 7)
      rw [sset_n (by omega)] at this
      exact this
    · exact Or.inl rfl
theorem move_s {B : Int} {g : Gs} (w : WF B g) : 0 ≤ moveG g 0 6 ∧ moveG g 0 6 < g 0 2 ∧ (moveG g 0 7 = 0 ∨ moveG g 0 7 = 1) ∧ (moveG g 0 8 = g 0 8 ∨ moveG g 0 8 = g 0 8 + 1) := by
  have ws := w.1
  have gc := goalC_in w
  unfold WFs at ws
  unfold moveG
  by_cases c : tn g = 1
  · rw [if_pos c, sset_n (by omega), sset_n (by omega), sset_n (i := 8) (by omega), sset_e, sset_e]
    have : wantD g = 0 ∨ wantD g = 1 := by unfold wantD; split <;> simp
    omega
  · rw [if_neg c]
    by_cases c2 : goalC g ≠ g 0 6
    · rw [if_pos c2, grindTo_n (by omega), sset_e, grindTo_n (by omega), sset_n (by omega), grindTo_n (by omega), sset_n (by omega)]
      have hw : g 0 7 = wantD g := by
        unfold tn at c
        by_cases z : g 0 7 = wantD g
        · exact z
        · rw [if_pos ⟨c2, z⟩] at c; exact absurd rfl c
      unfold wantD at hw
      unfold nextC
      split at hw
      · rw [if_pos hw]; omega
      · rw [if_neg (by omega)]; omega
    · rw [if_neg c2]; omega
theorem WF1.move {B : Int} {g : Gs} (w : WF1 B g) : WF B (moveG g) ∧ ∀ t, t < gn (moveG g) → moveG g 7 t + 1 ≤ moveG g 0 5 := by
  obtain ⟨w0, w1, w2, w3⟩ := w
  have ms := move_s w0
  obtain ⟨ws, wt, wm⟩ := w0
  unfold WFs at ws
  refine ⟨⟨?_, fun t ht => ?_, fun m hm => ?_⟩, fun t ht => ?_⟩
  · unfold WFs
    rw [moveG_n (t := 0) (by omega), moveG_n (t := 1) (by omega), moveG_n (t := 2) (by omega), moveG_n (t := 3) (by omega), moveG_n (t := 4) (by omega), moveG_n (t := 5) (by omega)]
    omega
  · rw [gn_move] at ht
    have w := wt t ht
    unfold WFt at w ⊢
    rw [moveG_n (f := 1) (by omega), moveG_n (f := 2) (by omega), moveG_n (f := 3) (by omega), moveG_n (f := 4) (by omega), moveG_n (f := 5) (by omega), moveG_n (f := 6) (by omega), moveG_n (f := 7) (by omega), moveG_n (t := 2) (by omega), moveG_n (t := 5) (by omega)]
    exact w
  · rw [gm_move] at hm
    have w := wm m hm
    have w3 := w3 m hm
    have := move_10 (g := g) (m := m)
    unfold WFm at w ⊢
    rw [moveG_n (f := 8) (by omega), moveG_n (f := 9) (by omega), moveG_n (t := 2) (by omega), moveG_n (t := 5) (by omega)]
    omega
  · rw [gn_move] at ht
    have := w2 t ht
    rw [moveG_n (f := 7) (by omega), moveG_n (t := 5) (by omega)]
    exact this
theorem upTo_f0 {k : Nat} {F : Nat → Nat → Int} {g : Gs} {f t : Nat} (hf : f ≤ 3 ∨ 8 ≤ f) : upTo k F g f t = g f t := upTo_lo hf
theorem gm_upTo {k : Nat} {F : Nat → Nat → Int} {g : Gs} : gm (upTo k F g) = gm g := by simp [gm, upTo]
/-- a change of things alone -/
theorem WF.things {B : Int} {g : Gs} {F : Nat → Nat → Int} (w : WF B g) (h : ∀ t, t < gn g → WFt (upTo (gn g) F g) t) : WF B (upTo (gn g) F g) := by
  obtain ⟨ws, wt, wm⟩ := w
  refine ⟨?_, fun t ht => h t (by rw [gn_upTo] at ht; exact ht), fun m hm => ?_⟩
  · unfold WFs at ws ⊢
    simp only [upTo0]
    exact ws
  · rw [gm_upTo] at hm
    have := wm m hm
    unfold WFm at this ⊢
    rw [upTo_lo (f := 8) (by omega), upTo_lo (f := 9) (by omega), upTo_lo (f := 10) (by omega), upTo0, upTo0]
    exact this
theorem WF.take {B : Int} {g : Gs} (w : WF B g) : WF B (takeG g) := by
  refine w.things (fun t ht => ?_)
  have wt := w.2.1 t ht
  have ws := w.1
  unfold WFs at ws
  unfold WFt at wt ⊢
  rw [upTo_lo (f := 1) (by omega), upTo_lo (f := 2) (by omega), upTo_lo (f := 3) (by omega), upTo_in (f := 4) (by omega) (by omega) ht, upTo_in (f := 5) (by omega) (by omega) ht, upTo_in (f := 6) (by omega) (by omega) ht, upTo_in (f := 7) (by omega) (by omega) ht, upTo0, upTo0]
  unfold takeF
  by_cases c : g 4 t = 1 ∧ g 5 t = g 0 6 ∧ g 3 t ≤ g 6 t ∧ g 1 t ≤ fl g (g 0 6) (g 0 3 - cw g (gn g)) t
  · simp only [if_pos c]
    simp
    omega
  · simp only [if_neg c]
    exact wt
theorem take_7 {g : Gs} {t : Nat} : takeG g 7 t = g 7 t := by
  unfold takeG upTo takeF
  split
  · split
    · simp
    · rfl
  · rfl
theorem WF.grow {B : Int} {g : Gs} (w : WF B g) (hh : ∀ t, t < gn g → g 7 t + 1 ≤ g 0 5) : WF B (growG g) := by
  refine w.things (fun t ht => ?_)
  have wt := w.2.1 t ht
  have h7 := hh t ht
  have ws := w.1
  unfold WFs at ws
  unfold WFt at wt ⊢
  rw [upTo_lo (f := 1) (by omega), upTo_lo (f := 2) (by omega), upTo_lo (f := 3) (by omega), upTo_in (f := 4) (by omega) (by omega) ht, upTo_in (f := 5) (by omega) (by omega) ht, upTo_in (f := 6) (by omega) (by omega) ht, upTo_in (f := 7) (by omega) (by omega) ht, upTo0, upTo0]
  unfold growF
  by_cases c1 : g 4 t = 1
  · simp only [if_pos c1]
    simp
    split <;> omega
  · simp only [if_neg c1]
    by_cases c2 : g 4 t = 2
    · simp only [if_pos c2]
      by_cases c3 : (if g 0 6 = g 0 2 - 1 then (1 : Int) else 0) ≠ 0
      · simp only [if_pos c3]
        simp
        omega
      · simp only [if_neg c3]
        by_cases c4 : g 6 t + 1 < g 2 t
        · simp only [if_pos c4]
          simp
          omega
        · simp only [if_neg c4]
          simp
          omega
    · simp only [if_neg c2]
      exact wt
theorem WF.pass {B : Int} {g : Gs} (w : WF B g) : WF (B + 1) (pass g) := by
  obtain ⟨a, b⟩ := w.hour.move
  refine a.take.grow (fun t ht => ?_)
  rw [take_7]
  have e : takeG (moveG (hourG g)) 0 5 = moveG (hourG g) 0 5 := upTo0
  rw [e]
  exact b t (by unfold takeG at ht; rw [gn_upTo] at ht; exact ht)
theorem gn_pass {g : Gs} : gn (pass g) = gn g := by
  unfold pass growG takeG hourG
  rw [gn_upTo, gn_upTo, gn_move, gn_sset (by omega)]
