/-! the reference's hour, on -/
theorem q_millsLoop {h : Mem} {g : Gs} {B way : Int} {V : Nat → Prop} {Q : Mem → Prop} (hR : RXp h g V) (hW : WF B g) (hB : B ≤ 1000000) (hQ : ∀ u, RXp u (grindTo (gm g) (g 0 6) way g) V → FM h u → Q u) : L_X12_goes_82 h way 0 Q := by
  obtain ⟨n4, nc⟩ := gm4 hW
  obtain ⟨n8, ncc⟩ := gn8 hW
  have key : ∀ (m i : Nat) (x : Int) (u : Mem), x = (i : Int) → i + m = gm g → RXp u (grindTo i (g 0 6) way g) V → FM h u → L_X12_goes_82 u way x Q := by
    intro m
    induction m with
    | zero =>
      intro i x u hx hi hr hf
      subst hx
      refine l_X12_goes_82 ?_
      unfold B_X12_goes_82
      rw [hr.1 1 (by omega) (by omega), grindTo_n (by omega)]
      have : i = gm g := by omega
      subst this
      exact ⟨fun _ => hQ u hr hf, fun c => absurd (by omega) c⟩
    | succ m ih =>
      intro i x u hx hi hr hf
      subst hx
      have hi2 : i < gm (grindTo i (g 0 6) way g) := by unfold gm; rw [grindTo_n (by omega)]; unfold gm at hi; omega
      have e0 := hr.2.2 i 0 hi2 (by omega)
      have e1 := hr.2.2 i 1 hi2 (by omega)
      have e2 := hr.2.2 i 2 hi2 (by omega)
      rw [grindTo_n (by omega)] at e0 e1
      rw [grindTo_ge (by omega)] at e2
      have e2 : u 162 (68 + 3 * i + 2) = g 10 i := e2
      have ws := hW.1
      have wm := hW.2.2 i (by omega)
      unfold WFm at wm
      unfold WFs at ws
      have ir : InR ((i : Int) + 1) := ⟨by omega, by omega⟩
      have no : ¬ (g 8 i = g 0 6 ∧ (g 9 i = 2 ∨ g 9 i = way)) → L_X12_goes_82 u way ((i : Int) + 1) Q := fun c =>
        ih (i + 1) ((i : Int) + 1) u (by omega) (by omega) (hr.cg (fun j _ _ => by rw [grindTo_n (by omega), grindTo_n (by omega)]) (fun f t _ _ _ _ => by rw [grindTo_n (by omega), grindTo_n (by omega)]) (fun f m _ _ _ => grindTo_s (Or.inr (Or.inr c))) (fun _ _ q => q)) hf
      have yes : (g 8 i = g 0 6 ∧ (g 9 i = 2 ∨ g 9 i = way)) → J_X12_goes_128 u way (i : Int) Q := by
        intro c
        unfold J_X12_goes_128
        refine q_millRow rfl (by omega) ?_
        rw [show (68 + 3 * (i : Int) + 2).toNat = 68 + 3 * i + 2 by omega, e2]
        refine ⟨⟨by omega, by omega⟩, ⟨by omega, by omega⟩, ⟨by omega, by omega⟩, fun v hv => ⟨ir, ?_⟩⟩
        have r1 := hr.setm (t := i) (k := 2) (v := g 10 i + 1) (by unfold gn; rw [grindTo_n (by omega)]; unfold gn at n8; exact n8) (by omega)
        have hv' : v = mset u 162 (68 + 3 * i + 2) (g 10 i + 1) := hv
        rw [← hv'] at r1
        refine ih (i + 1) ((i : Int) + 1) v (by omega) (by omega) (r1.cg (fun j _ _ => ?_) (fun f t _ _ _ _ => ?_) (fun f m _ _ _ => ?_) (fun _ _ q => q)) (by rw [hv']; exact hf.st (by omega))
        · rw [gset_n (by omega), grindTo_n (by omega), grindTo_n (by omega)]
        · rw [gset_n (by omega), grindTo_n (by omega), grindTo_n (by omega)]
        · by_cases z : f = 10 ∧ m = i
          · obtain ⟨rfl, rfl⟩ := z
            rw [gset_e, grindTo_k c]
          · rw [gset_n (by omega), grindTo_s (by omega)]
      have e6 : u 162 6 = g 0 6 := by rw [hr.1 6 (by omega) (by omega), grindTo_n (by omega)]
      refine l_X12_goes_82 ?_
      unfold B_X12_goes_82
      rw [hr.1 1 (by omega) (by omega), grindTo_n (by omega)]
      refine ⟨fun c => absurd c (by omega), fun c => q_millOf (k := 1) rfl rfl (by omega) (by omega) (q_millOf (k := 0) rfl rfl (by omega) (by omega) ?_)⟩
      rw [e0, e1, e6]
      exact ⟨fun c1 => ⟨ir, no (fun z => c1 z.1)⟩, fun c1 => ⟨fun c2 => yes ⟨c1, Or.inr c2⟩, fun c2 => ⟨fun c3 => ⟨ir, no (fun z => by rcases z.2 with q | q; exact c3 q; exact c2 q)⟩, fun c3 => yes ⟨c1, Or.inl c3⟩⟩⟩⟩
  exact key (gm g) 0 0 h rfl (by omega) (hR.cg (fun j _ _ => grindTo_n (by omega)) (fun f t _ _ _ _ => grindTo_n (by omega)) (fun f m _ _ _ => grindTo_ge (by omega)) (fun _ _ q => q)) FM.rf
/-- the stream's part: g has its hour counted already or not, as is -/
theorem q_goes {h : Mem} {g : Gs} {B : Int} {Q : Mem → Prop} (hR : RX h g) (hW : WF B g) (hB : B ≤ 900000) (hQ : ∀ u, RX u (moveG g) → FM h u → Q u) : F_X12_goes h Q := by
  have ws := hW.1
  have gc := goalC_in hW
  unfold WFs at ws
  have e6 := hR.1 6 (by omega) (by omega)
  have e7 := hR.1 7 (by omega) (by omega)
  have e8 := hR.1 8 (by omega) (by omega)
  have vv : ∀ t, moveG g 4 t = 1 → g 4 t = 1 := fun t q => by rw [moveG_n (by omega)] at q; exact q
  have turn : ∀ w : Int, goalC g ≠ g 0 6 → wantD g = w → ¬ (w = g 0 7) → ∀ u1, u1 = mset h 162 7 w → InR (u1 162 8 + 1) ∧ ∀ u2, u2 = mset u1 162 8 (u1 162 8 + 1) → Q u2 := by
    intro w hc hw hne u1 hu1
    have a8 : u1 162 8 = g 0 8 := by rw [hu1, mset_k (by omega), e8]
    rw [a8]
    refine ⟨⟨by omega, by omega⟩, fun u2 hu2 => hQ u2 ?_ (by rw [hu2, hu1]; exact (FM.rf.st (by omega)).st (by omega))⟩
    have mv : moveG g = sset (sset g 7 w) 8 (g 0 8 + 1) := by
      unfold moveG
      rw [if_pos (by unfold tn; rw [if_pos ⟨hc, by rw [hw]; exact fun z => hne z.symm⟩]), hw]
    have r1 := RXp.sets (i := 7) (v := w) hR (by omega)
    rw [← hu1] at r1
    have r2 := RXp.sets (i := 8) (v := g 0 8 + 1) r1 (by omega)
    rw [← hu2] at r2
    rw [mv]
    exact r2.cg (fun _ _ _ => rfl) (fun _ _ _ _ _ _ => rfl) (fun _ _ _ _ _ => rfl) (fun t _ q => by rw [sset_n (by omega), sset_n (by omega)] at q; exact q)
  have go : ∀ w : Int, goalC g ≠ g 0 6 → wantD g = w → w = g 0 7 → ∀ a : Int, a = nextC g → ∀ u1, u1 = mset h 162 6 a → L_X12_goes_82 u1 w 0 Q := by
    intro w hc hw he a ha u1 hu1
    have r1 := RXp.sets (i := 6) (v := a) hR (by omega)
    rw [← hu1] at r1
    have nt : ¬ tn g = 1 := by unfold tn; rw [if_neg (by rintro ⟨-, z⟩; exact z (by rw [hw, he]))]; omega
    have mv : moveG g = grindTo (gm g) a w (sset g 6 a) := by
      unfold moveG
      rw [if_neg nt, if_pos hc, ← ha, he]
    have ms := move_s hW
    rw [mv, grindTo_n (by omega), sset_e] at ms
    have wv : WF B (sset g 6 a) := by
      obtain ⟨w3, w4, w5⟩ := hW
      unfold WFs at w3
      refine ⟨?_, fun t ht => ?_, fun m hm => ?_⟩
      · unfold WFs
        rw [sset_n (t := 0) (by omega), sset_n (t := 1) (by omega), sset_n (t := 2) (by omega), sset_n (t := 3) (by omega), sset_n (t := 4) (by omega), sset_n (t := 5) (by omega), sset_n (t := 7) (by omega), sset_n (t := 8) (by omega), sset_e]
        omega
      · rw [gn_sset (by omega)] at ht
        have := w4 t ht
        unfold WFt at this ⊢
        rw [sset_n (f := 1) (by omega), sset_n (f := 2) (by omega), sset_n (f := 3) (by omega), sset_n (f := 4) (by omega), sset_n (f := 5) (by omega), sset_n (f := 6) (by omega), sset_n (f := 7) (by omega), sset_n (t := 2) (by omega), sset_n (t := 5) (by omega)]
        exact this
      · rw [gm_sset (by omega)] at hm
        have := w5 m hm
        unfold WFm at this ⊢
        rw [sset_n (f := 8) (by omega), sset_n (f := 9) (by omega), sset_n (f := 10) (by omega), sset_n (t := 2) (by omega), sset_n (t := 5) (by omega)]
        exact this
    refine q_millsLoop r1 wv (by omega) (fun u ru fu => hQ u ?_ (FM.tr (by rw [hu1]; exact FM.rf.st (by omega)) fu))
    rw [sset_e, gm_sset (by omega)] at ru
    rw [mv]
    exact ru.cg (fun _ _ _ => rfl) (fun _ _ _ _ _ _ => rfl) (fun _ _ _ _ _ => rfl) (fun t _ q => by rw [grindTo_n (by omega), sset_n (by omega)] at q; exact q)
  unfold F_X12_goes
  refine q_goal hR hW ?_
  rw [e6, e7]
  refine ⟨fun c => ⟨fun c2 => ?_, fun c2 => ?_⟩, fun c => ?_⟩
  · have wd : wantD g = 0 := by unfold wantD; rw [if_neg (by omega)]
    refine ⟨fun c3 => ⟨⟨by omega, by omega⟩, fun u1 hu1 => go 0 c wd c3 _ (by unfold nextC; rw [if_neg (by omega)]) u1 hu1⟩, fun c3 u1 hu1 => turn 0 c wd c3 u1 hu1⟩
  · have wd : wantD g = 1 := by unfold wantD; rw [if_pos (by omega)]
    refine ⟨fun c3 => ⟨⟨by omega, by omega⟩, fun u1 hu1 => go 1 c wd c3 _ (by unfold nextC; rw [if_pos c3.symm]) u1 hu1⟩, fun c3 u1 hu1 => turn 1 c wd c3 u1 hu1⟩
  · have mv : moveG g = g := by
      unfold moveG
      rw [if_neg (by unfold tn; rw [if_neg (fun z => z.1 c)]; omega), if_neg (fun z => z c)]
    exact hQ h (by rw [mv]; exact hR) FM.rf
