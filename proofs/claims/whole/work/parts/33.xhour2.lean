/-! x's hour, on -/
theorem fset_cases {f : Nat} (h1 : 4 ≤ f) (h2 : f ≤ 7) : f = 4 ∨ f = 5 ∨ f = 6 ∨ f = 7 := by omega
def gset (g : Gs) (k t : Nat) (v : Int) : Gs := fun f i => if f = k ∧ i = t then v else g f i
theorem gset_n {g : Gs} {k t f i : Nat} {v : Int} (h : f ≠ k ∨ i ≠ t) : gset g k t v f i = g f i := by
  unfold gset
  rw [if_neg (by omega)]
theorem gset_e {g : Gs} {k t : Nat} {v : Int} : gset g k t v k t = v := by
  unfold gset
  rw [if_pos ⟨rfl, rfl⟩]
theorem gn_gset {g : Gs} {k t : Nat} {v : Int} (h : 1 ≤ k) : gn (gset g k t v) = gn g := by
  unfold gn
  rw [gset_n (by omega)]
/-- a cell of a thing's numbers is written -/
theorem RT.set {h : Mem} {o t k : Nat} {g : Gs} {v : Int} (hR : RT h o g) (hk : k = 1 ∨ k = 2 ∨ k = 3 ∨ k = 4 ∨ k = 5 ∨ k = 6 ∨ k = 7) : RT (mset h (o + k + 1) t v) o (gset g k t v) := by
  refine ⟨?_, fun i hi => ?_⟩
  · rw [mset_i _ (by omega), hR.1, gset_n (by omega)]
  · rw [gn_gset (by omega)] at hi
    obtain ⟨e1, e2, e3, e4, e5, e6, e7, e8⟩ := hR.2 i hi
    have st : ∀ j, 1 ≤ j → j ≤ 7 → h (o + j + 1) i = g j i → mset h (o + k + 1) t v (o + j + 1) i = gset g k t v j i := by
      intro j h1 h2 e
      by_cases c : j = k ∧ i = t
      · obtain ⟨rfl, rfl⟩ := c
        rw [gset_e]; exact mset_at
      · rw [gset_n (by omega), ← e]
        unfold mset
        rw [if_neg (by omega)]
    exact ⟨by rw [mset_i _ (by omega), e1, gset_n (by omega)], st 1 (by omega) (by omega) e2, st 2 (by omega) (by omega) e3, st 3 (by omega) (by omega) e4, st 4 (by omega) (by omega) e5, st 5 (by omega) (by omega) e6, st 6 (by omega) (by omega) e7, st 7 (by omega) (by omega) e8⟩
theorem s_growOlder {h : Mem} {o : Nat} {g : Gs} {B at_ sea : Int} {Q : Mem → Prop} (hl : lay o = (0, 9)) (hR : RT h o g) (hW : WF B g) (hB : B ≤ 1000000) (hQ : ∀ u, RT u o (upTo (gn g) (growF g at_ sea) g) → Fr (o + 5) (o + 9) h u → Q u) : F_X9_growOlder h o at_ sea Q := by
  obtain ⟨n8, nc⟩ := gn8 hW
  have key : ∀ (m i : Nat) (x : Int) (u : Mem), x = (i : Int) → i + m = gn g → RT u o (upTo i (growF g at_ sea) g) → Fr (o + 5) (o + 9) h u → L_X9_growOlder_2 u o at_ sea x Q := by
    intro m
    induction m with
    | zero =>
      intro i x u hx hi hr hf
      subst hx
      refine l_X9_growOlder_2 hl ?_
      unfold B_X9_growOlder_2
      rw [hr.1, upTo0]
      have : i = gn g := by omega
      subst this
      exact ⟨fun _ => hQ u hr hf, fun c => absurd (by omega) c⟩
    | succ m ih =>
      intro i x u hx hi hr hf
      subst hx
      have ihn : ∀ u (g' : Gs), RT u o g' → g' 0 0 = g 0 0 → (∀ f t, t < gn g → 1 ≤ f → g' f t = (if t = i ∧ 4 ≤ f ∧ f ≤ 7 then growF g at_ sea f i else upTo i (growF g at_ sea) g f t)) → Fr (o + 5) (o + 9) h u → L_X9_growOlder_2 u o at_ sea ((i : Int) + 1) Q := by
        intro u g' r e0 e f
        refine ih (i + 1) ((i : Int) + 1) u (by omega) (by omega) (r.cg (by rw [upTo0, e0]) (fun f t ht hf => ?_)) f
        have ht' : t < gn g := by unfold gn at ht ⊢; rw [← e0]; exact ht
        rw [e f t ht' hf]
        by_cases z : t = i ∧ 4 ≤ f ∧ f ≤ 7
        · rw [if_pos z, z.1, upTo_k z.2.1 z.2.2]
        · rw [if_neg z, upTo_s (by omega)]
      obtain ⟨-, e2, e3, e4, e5, e6, e7, e8⟩ := hr.2 i (by rw [gn_upTo]; omega)
      rw [upTo_lo (by omega)] at e3
      rw [upTo_ge (by omega)] at e5 e6 e7 e8
      have ws := hW.1
      have wt := hW.2.1 i (by omega)
      unfold WFt at wt
      unfold WFs at ws
      have ir : InR ((i : Int) + 1) := ⟨by omega, by omega⟩
      have j82 : ¬ g 4 i = 1 → ¬ (g 4 i = 2 ∧ sea ≠ 0) → J_X9_growOlder_82 u o at_ sea (i : Int) Q := by
        intro n1 n2
        unfold J_X9_growOlder_82
        rw [Int.toNat_natCast, e5, e7]
        refine ⟨⟨by omega, by omega⟩, fun c1 => ⟨ir, ?_⟩, fun c1 => ⟨⟨by omega, by omega⟩, fun v hv => ?_⟩⟩
        · refine ihn u _ hr upTo0 (fun f t ht hf => ?_) hf
          split
          · rename_i z
            rw [z.1, upTo_ge (by omega)]
            unfold growF
            rw [if_neg n1, if_neg c1]
          · rfl
        · have s0 : ¬ (sea ≠ 0) := fun z => n2 ⟨c1, z⟩
          have hv' : v = mset u (o + 6 + 1) i (g 6 i + 1) := hv
          have r1 := hr.set (k := 6) (t := i) (v := g 6 i + 1) (by omega)
          rw [← hv'] at r1
          have f1 : Fr (o + 5) (o + 9) h v := by rw [hv']; exact hf.st (by omega) (by omega)
          have a7 : v (o + 7) i = g 6 i + 1 := by rw [hv']; exact mset_at
          have a3 : v (o + 3) i = g 2 i := by rw [hv', mset_i _ (by omega), e3]
          rw [a7, a3]
          refine ⟨fun c2 => ⟨ir, ?_⟩, fun c2 => ?_⟩
          · refine ihn v _ r1 (by rw [gset_n (by omega), upTo0]) (fun f t ht hf => ?_) f1
            by_cases z : t = i ∧ 4 ≤ f ∧ f ≤ 7
            · obtain ⟨rfl, z1, z2⟩ := z
              rw [if_pos ⟨rfl, z1, z2⟩]
              unfold growF
              rw [if_neg n1, if_pos c1, if_neg s0, if_pos c2]
              by_cases f6 : f = 6
              · subst f6; rw [gset_e, if_pos rfl]
              · rw [gset_n (by omega), if_neg f6, upTo_ge (by omega)]
            · rw [if_neg z, gset_n (by omega)]
          · refine s_place rfl (by omega) r1 (fun w r2 f2 => ⟨ir, ?_⟩)
            refine ihn w _ r2 (by simp [tset, gset, upTo]) (fun f t ht hf => ?_) (f1.tr (f2.wd (by omega) (by omega)))
            by_cases z : t = i ∧ 4 ≤ f ∧ f ≤ 7
            · obtain ⟨rfl, z1, z2⟩ := z
              rw [if_pos ⟨rfl, z1, z2⟩]
              unfold growF
              rw [if_neg n1, if_pos c1, if_neg s0, if_neg c2]
              unfold tset
              rcases fset_cases z1 z2 with rfl | rfl | rfl | rfl
              · simp
              · simp
              · simp
              · simp [gset, upTo]
            · rw [if_neg z]
              unfold tset
              rw [if_neg (by omega), if_neg (by omega), if_neg (by omega), gset_n (by omega)]
      refine l_X9_growOlder_2 hl ?_
      unfold B_X9_growOlder_2
      rw [hr.1, upTo0, Int.toNat_natCast, e5, e7]
      refine ⟨fun c => absurd c (by omega), fun c => ⟨⟨by omega, by omega⟩, fun c1 => ⟨fun c2 => j82 c1 (fun z => c2 z.1), fun c2 => ⟨fun c3 => j82 c1 (fun z => z.2 c3), fun c3 => ?_⟩⟩, fun c1 => ⟨fun c2 => ⟨⟨by omega, by omega⟩, fun v hv => ⟨ir, ?_⟩⟩, fun c2 => ⟨⟨by omega, by omega⟩, fun v hv => ⟨ir, ?_⟩⟩⟩⟩⟩
      · refine s_place rfl (by omega) hr (fun w r2 f2 => ?_)
        have a8 : w (o + 8) i = g 7 i := by rw [f2 (o + 8) (by omega), e8]
        rw [a8]
        refine ⟨⟨by omega, by omega⟩, fun v hv => ⟨ir, ?_⟩⟩
        have hv' : v = mset w (o + 7 + 1) i (g 7 i + 1) := hv
        have r1 := r2.set (k := 7) (t := i) (v := g 7 i + 1) (by omega)
        rw [← hv'] at r1
        have f1 : Fr (o + 5) (o + 9) h v := by rw [hv']; exact (hf.tr (f2.wd (by omega) (by omega))).st (by omega) (by omega)
        refine ihn v _ r1 (by simp [tset, gset, upTo]) (fun f t ht hf => ?_) f1
        by_cases z : t = i ∧ 4 ≤ f ∧ f ≤ 7
        · obtain ⟨rfl, z1, z2⟩ := z
          rw [if_pos ⟨rfl, z1, z2⟩]
          unfold growF
          rw [if_neg c1, if_pos c2, if_pos c3]
          unfold tset
          rcases fset_cases z1 z2 with rfl | rfl | rfl | rfl
          · rw [gset_n (by omega)]; simp
          · rw [gset_n (by omega)]; simp
          · rw [gset_n (by omega)]; simp
          · rw [gset_e]; simp
        · rw [if_neg z]
          rw [gset_n (by omega)]
          unfold tset
          rw [if_neg (by omega), if_neg (by omega), if_neg (by omega)]
      · have hv' : v = mset u (o + 6 + 1) i (g 6 i) := hv
        have r1 := hr.set (k := 6) (t := i) (v := g 6 i) (by omega)
        rw [← hv'] at r1
        refine ihn v _ r1 (by rw [gset_n (by omega), upTo0]) (fun f t ht hf => ?_) (by rw [hv']; exact hf.st (by omega) (by omega))
        by_cases z : t = i ∧ 4 ≤ f ∧ f ≤ 7
        · obtain ⟨rfl, z1, z2⟩ := z
          rw [if_pos ⟨rfl, z1, z2⟩]
          unfold growF
          rw [if_pos c1]
          by_cases f6 : f = 6
          · subst f6; rw [gset_e, if_pos rfl, if_pos c2]
          · rw [gset_n (by omega), if_neg f6, upTo_ge (by omega)]
        · rw [if_neg z, gset_n (by omega)]
      · have hv' : v = mset u (o + 6 + 1) i (g 6 i + 1) := hv
        have r1 := hr.set (k := 6) (t := i) (v := g 6 i + 1) (by omega)
        rw [← hv'] at r1
        refine ihn v _ r1 (by rw [gset_n (by omega), upTo0]) (fun f t ht hf => ?_) (by rw [hv']; exact hf.st (by omega) (by omega))
        by_cases z : t = i ∧ 4 ≤ f ∧ f ≤ 7
        · obtain ⟨rfl, z1, z2⟩ := z
          rw [if_pos ⟨rfl, z1, z2⟩]
          unfold growF
          rw [if_pos c1]
          by_cases f6 : f = 6
          · subst f6; rw [gset_e, if_pos rfl, if_neg c2]
          · rw [gset_n (by omega), if_neg f6, upTo_ge (by omega)]
        · rw [if_neg z, gset_n (by omega)]
  exact key (gn g) 0 0 h rfl (by omega) (hR.cg (by rw [upTo0]) (fun f t ht hf => upTo_ge (by omega))) Fr.rf
