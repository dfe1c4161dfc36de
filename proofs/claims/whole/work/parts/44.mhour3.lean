/-! what the reference takes up; how long things last -/
/-- cw when one thing's place among the first k comes to be 2 -/
theorem cw_up {g g' : Gs} {t : Nat} (h4 : ∀ i, i ≠ t → g' 4 i = g 4 i) (h1 : ∀ i, g' 1 i = g 1 i) (a : g 4 t = 1) (b : g' 4 t = 2) : ∀ k, cw g' k = if t < k then cw g k + g 1 t else cw g k := by
  intro k
  induction k with
  | zero => rw [if_neg (by omega)]; rfl
  | succ k ih =>
    have e1 : cw g' (k + 1) = if g' 4 k = 2 then cw g' k + g' 1 k else cw g' k := rfl
    have e2 : cw g (k + 1) = if g 4 k = 2 then cw g k + g 1 k else cw g k := rfl
    rw [e1, e2, ih, h1]
    by_cases c : k = t
    · subst c
      have n1 : ¬ k < k := Nat.lt_irrefl k
      have n2 : k < k + 1 := Nat.lt_succ_self k
      have n3 : ¬ (g 4 k = 2) := by omega
      simp only [if_neg n1, if_pos n2, if_neg n3, if_pos b]
    · rw [h4 k c]
      by_cases c2 : t < k
      · have c3 : t < k + 1 := by omega
        by_cases c4 : g 4 k = 2
        · simp only [if_pos c2, if_pos c3, if_pos c4]; omega
        · simp only [if_pos c2, if_pos c3, if_neg c4]
      · have c3 : ¬ t < k + 1 := by omega
        simp only [if_neg c2, if_neg c3]
theorem cw_cg {g g' : Gs} : ∀ k, (∀ i, i < k → g' 4 i = g 4 i ∧ g' 1 i = g 1 i) → cw g' k = cw g k := by
  intro k
  induction k with
  | zero => intro _; rfl
  | succ k ih =>
    intro h
    unfold cw
    rw [ih (fun i hi => h i (by omega)), (h k (by omega)).1, (h k (by omega)).2]
/-- what load is left is the load less what is carried by then -/
theorem fl_cw {g : Gs} {at_ : Int} (ld : Int) : ∀ t, t ≤ gn g → ld - cw (upTo t (takeF g at_ (ld - cw g (gn g))) g) (gn g) = fl g at_ (ld - cw g (gn g)) t := by
  intro t
  induction t with
  | zero =>
    intro _
    unfold fl
    rw [cw_cg (g := g) (g' := upTo 0 _ g) (gn g) (fun i _ => ⟨upTo_ge (by omega), upTo_ge (by omega)⟩)]
  | succ t ih =>
    intro ht
    have ih := ih (by omega)
    unfold fl
    by_cases c : g 4 t = 1 ∧ g 5 t = at_ ∧ g 3 t ≤ g 6 t ∧ g 1 t ≤ fl g at_ (ld - cw g (gn g)) t
    · rw [if_pos c, ← ih]
      have := cw_up (g := upTo t (takeF g at_ (ld - cw g (gn g))) g) (g' := upTo (t + 1) (takeF g at_ (ld - cw g (gn g))) g) (t := t) (fun i hi => upTo_s (Or.inl hi)) (fun i => by rw [upTo_lo (by omega), upTo_lo (by omega)]) (by rw [upTo_ge (by omega)]; exact c.1) (by rw [upTo_k (by omega) (by omega)]; unfold takeF; rw [if_pos c, if_pos rfl]) (gn g)
      rw [this, if_pos (by omega), upTo_lo (by omega)]
      omega
    · rw [if_neg c, ← ih]
      rw [cw_cg (g := upTo t (takeF g at_ (ld - cw g (gn g))) g) (gn g) (fun i _ => ⟨?_, by rw [upTo_lo (by omega), upTo_lo (by omega)]⟩)]
      by_cases e : i = t
      · subst e
        rw [upTo_k (by omega) (by omega), upTo_ge (by omega)]
        unfold takeF
        rw [if_neg c]
      · exact upTo_s (Or.inl e)
/-- half taken up is well formed still -/
theorem WF.takeTo {B : Int} {g : Gs} {at_ fr : Int} (w : WF B g) (k : Nat) : WF B (upTo k (takeF g at_ fr) g) := by
  obtain ⟨ws, wt, wm⟩ := w
  refine ⟨?_, fun t ht => ?_, fun m hm => ?_⟩
  · unfold WFs at ws ⊢
    simp only [upTo0]
    exact ws
  · rw [gn_upTo] at ht
    have wt := wt t ht
    unfold WFs at ws
    unfold WFt at wt ⊢
    rw [upTo_lo (f := 1) (by omega), upTo_lo (f := 2) (by omega), upTo_lo (f := 3) (by omega), upTo0, upTo0]
    by_cases c0 : t < k
    · rw [upTo_in (f := 4) (by omega) (by omega) c0, upTo_in (f := 5) (by omega) (by omega) c0, upTo_in (f := 6) (by omega) (by omega) c0, upTo_in (f := 7) (by omega) (by omega) c0]
      unfold takeF
      by_cases c : g 4 t = 1 ∧ g 5 t = at_ ∧ g 3 t ≤ g 6 t ∧ g 1 t ≤ fl g at_ fr t
      · simp only [if_pos c]
        simp
        omega
      · simp only [if_neg c]
        exact wt
    · rw [upTo_ge (f := 4) (by omega), upTo_ge (f := 5) (by omega), upTo_ge (f := 6) (by omega), upTo_ge (f := 7) (by omega)]
      exact wt
  · rw [gm_upTo] at hm
    have := wm m hm
    unfold WFm at this ⊢
    rw [upTo_lo (f := 8) (by omega), upTo_lo (f := 9) (by omega), upTo_lo (f := 10) (by omega), upTo0, upTo0]
    exact this
theorem q_takesUp {h : Mem} {g : Gs} {B : Int} {Q : Mem → Prop} (hR : RX h g) (hW : WF B g) (hQ : ∀ u, RX u (takeG g) → FM h u → Q u) : F_X12_takesUp h Q := by
  obtain ⟨n8, nc⟩ := gn8 hW
  have ws := hW.1
  unfold WFs at ws
  have key : ∀ (m i : Nat) (x : Int) (u : Mem), x = (i : Int) → i + m = gn g → RX u (upTo i (takeF g (g 0 6) (g 0 3 - cw g (gn g))) g) → FM h u → L_X12_takesUp_2 u x Q := by
    intro m
    induction m with
    | zero =>
      intro i x u hx hi hr hf
      subst hx
      refine l_X12_takesUp_2 ?_
      unfold B_X12_takesUp_2
      rw [hr.1 0 (by omega) (by omega), upTo0]
      have : i = gn g := by omega
      subst this
      exact ⟨fun _ => hQ u hr hf, fun c => absurd (by omega) c⟩
    | succ m ih =>
      intro i x u hx hi hr hf
      subst hx
      have hi2 : i < gn (upTo i (takeF g (g 0 6) (g 0 3 - cw g (gn g))) g) := by rw [gn_upTo]; omega
      have wT := hW.takeTo (at_ := g 0 6) (fr := g 0 3 - cw g (gn g)) i
      have wt := hW.2.1 i (by omega)
      unfold WFt at wt
      have fle := fl_cw (g := g) (at_ := g 0 6) (g 0 3) i (by omega)
      have cin := cw_in wT (gn g) (by rw [gn_upTo]; omega)
      have ir : InR ((i : Int) + 1) := ⟨by omega, by omega⟩
      have no : ¬ (g 4 i = 1 ∧ g 5 i = g 0 6 ∧ g 3 i ≤ g 6 i ∧ g 1 i ≤ fl g (g 0 6) (g 0 3 - cw g (gn g)) i) → L_X12_takesUp_2 u ((i : Int) + 1) Q := by
        intro c
        have same : ∀ f t, upTo (i + 1) (takeF g (g 0 6) (g 0 3 - cw g (gn g))) g f t = upTo i (takeF g (g 0 6) (g 0 3 - cw g (gn g))) g f t := by
          intro f t
          by_cases z : t ≠ i ∨ f ≤ 3 ∨ 8 ≤ f
          · exact upTo_s z
          · have ez : t = i := by omega
            subst ez
            rw [upTo_k (by omega) (by omega), upTo_ge (by omega)]
            unfold takeF
            rw [if_neg c]
        exact ih (i + 1) ((i : Int) + 1) u (by omega) (by omega) (hr.cg (fun j _ _ => same 0 j) (fun f t _ _ _ _ => same f t) (fun f m _ _ _ => same f m) (fun t _ q => by rw [same] at q; exact q)) hf
      have e6 : u 162 6 = g 0 6 := by rw [hr.1 6 (by omega) (by omega), upTo0]
      have e3 : u 162 3 = g 0 3 := by rw [hr.1 3 (by omega) (by omega), upTo0]
      have s4 : upTo i (takeF g (g 0 6) (g 0 3 - cw g (gn g))) g 4 i = g 4 i := upTo_ge (by omega)
      have s5 : upTo i (takeF g (g 0 6) (g 0 3 - cw g (gn g))) g 5 i = g 5 i := upTo_ge (by omega)
      have s6 : upTo i (takeF g (g 0 6) (g 0 3 - cw g (gn g))) g 6 i = g 6 i := upTo_ge (by omega)
      have s3 : upTo i (takeF g (g 0 6) (g 0 3 - cw g (gn g))) g 3 i = g 3 i := upTo_ge (by omega)
      have s1 : upTo i (takeF g (g 0 6) (g 0 3 - cw g (gn g))) g 1 i = g 1 i := upTo_ge (by omega)
      refine l_X12_takesUp_2 ?_
      unfold B_X12_takesUp_2
      rw [hr.1 0 (by omega) (by omega), upTo0]
      refine ⟨fun c => absurd c (by omega), fun c => q_isRem hr wT rfl hi2 ?_⟩
      rw [s4, s3, s6]
      refine ⟨fun c1 => ⟨ir, no (fun z => by rw [if_pos ⟨z.1, z.2.2.1⟩] at c1; omega)⟩, fun c1 => ?_⟩
      have yr : g 4 i = 1 ∧ g 3 i ≤ g 6 i := by
        by_cases z : g 4 i = 1 ∧ g 3 i ≤ g 6 i
        · exact z
        · rw [if_neg z] at c1; exact absurd rfl c1
      refine q_thingOf (k := 4) rfl rfl (by omega) (by omega) ?_
      rw [hr.2.1 i 4 hi2 (by omega) (fun _ => by show upTo i _ g 4 i = 1; rw [s4]; exact yr.1), e6]
      refine ⟨fun c2 => ?_, fun c2 => ⟨ir, no (fun z => c2 (by show upTo i _ g 5 i = _; rw [s5]; exact z.2.1))⟩⟩
      have c2' : g 5 i = g 0 6 := by rw [← s5]; exact c2
      refine q_carried hr wT ?_
      rw [gn_upTo]
      refine q_thingOf (k := 0) rfl rfl (by omega) (by omega) ?_
      rw [hr.2.1 i 0 hi2 (by omega) (fun q => absurd q (by omega)), e3]
      have s1' : upTo i (takeF g (g 0 6) (g 0 3 - cw g (gn g))) g (0 + 1) i = g 1 i := s1
      rw [s1']
      refine ⟨⟨by omega, by omega⟩, fun c3 => ?_, fun c3 => ⟨ir, no (fun z => by omega)⟩⟩
      have cc : g 4 i = 1 ∧ g 5 i = g 0 6 ∧ g 3 i ≤ g 6 i ∧ g 1 i ≤ fl g (g 0 6) (g 0 3 - cw g (gn g)) i := ⟨yr.1, c2', yr.2, by omega⟩
      refine q_thingRow rfl (by omega) ⟨⟨by omega, by omega⟩, ⟨by omega, by omega⟩, fun v1 hv1 => ?_⟩
      rw [show (12 + 7 * (i : Int) + 3).toNat = 12 + 7 * i + 3 by omega] at hv1
      refine q_thingRow rfl (by omega) ⟨⟨by omega, by omega⟩, ⟨by omega, by omega⟩, fun v2 hv2 => ⟨ir, ?_⟩⟩
      rw [show (12 + 7 * (i : Int) + 5).toNat = 12 + 7 * i + 5 by omega] at hv2
      have r1 := RXp.set (V' := fun t => upTo i (takeF g (g 0 6) (g 0 3 - cw g (gn g))) g 4 t = 1) (t := i) (k := 3) (v := 2) hr (by omega) (by omega) (fun _ q => Or.inl q)
      rw [← hv1] at r1
      have r2 := RXp.set (V' := fun t => upTo i (takeF g (g 0 6) (g 0 3 - cw g (gn g))) g 4 t = 1) (t := i) (k := 5) (v := 0) r1 (by omega) (by omega) (fun _ q => Or.inl q)
      rw [← hv2] at r2
      refine ih (i + 1) ((i : Int) + 1) v2 (by omega) (by omega) (r2.cg (fun j _ _ => ?_) (fun f t _ h1 h7 hv => ?_) (fun f m _ h8 _ => ?_) (fun t _ q => ?_)) (by rw [hv2, hv1]; exact (hf.st (by omega)).st (by omega))
      · rw [gset_n (by omega), gset_n (by omega), upTo0, upTo0]
      · by_cases z : t = i
        · subst z
          by_cases f4 : f = 4
          · subst f4
            rw [upTo_k (by omega) (by omega), gset_n (by omega), gset_e]
            unfold takeF
            rw [if_pos cc, if_pos rfl]
          · by_cases f6 : f = 6
            · subst f6
              rw [upTo_k (by omega) (by omega), gset_e]
              unfold takeF
              rw [if_pos cc, if_neg (by omega), if_neg (by omega)]
            · by_cases f5 : f = 5
              · have hv := hv f5
                have hv : upTo (t + 1) (takeF g (g 0 6) (g 0 3 - cw g (gn g))) g 4 t = 1 := hv
                rw [upTo_k (by omega) (by omega)] at hv
                unfold takeF at hv
                rw [if_pos cc, if_pos rfl] at hv
                exact absurd hv (by decide)
              · rw [gset_n (by omega), gset_n (by omega)]
                by_cases f7 : f = 7
                · subst f7
                  rw [upTo_k (by omega) (by omega), upTo_ge (by omega)]
                  unfold takeF
                  rw [if_pos cc, if_neg (by omega), if_pos rfl]
                · rw [upTo_lo (by omega), upTo_lo (by omega)]
        · rw [gset_n (by omega), gset_n (by omega), upTo_s (Or.inl z)]
      · rw [gset_n (by omega), gset_n (by omega), upTo_lo (by omega), upTo_lo (by omega)]
      · by_cases z : t = i
        · subst z
          show upTo t _ g 4 t = 1
          rw [s4]; exact yr.1
        · have q : upTo (i + 1) (takeF g (g 0 6) (g 0 3 - cw g (gn g))) g 4 t = 1 := q
          rw [upTo_s (Or.inl z)] at q
          exact q
  exact key (gn g) 0 0 h rfl (by omega) (hR.cg (fun j _ _ => upTo0) (fun f t _ _ _ _ => upTo_ge (by omega)) (fun f m _ _ _ => upTo_ge (by omega)) (fun t _ q => by rw [upTo_ge (by omega)] at q; exact q)) FM.rf
