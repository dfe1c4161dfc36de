/-! the reference's hour: the rows of things that are none stay (printed by wip/gen/rowhour.py out of parts 43 to 45) -/
def FR (h u : Mem) : Prop := ∀ k, (k = 0 ∨ (12 ≤ k ∧ k < 68 ∧ 12 + 7 * (h 162 0).toNat ≤ k)) → u 162 k = h 162 k
theorem FR.rf {h : Mem} : FR h h := fun _ _ => rfl
theorem FR.tr {h h1 h2 : Mem} (a : FR h h1) (b : FR h1 h2) : FR h h2 := fun k q => by
  have e0 : h1 162 0 = h 162 0 := a 0 (Or.inl rfl)
  exact (b k (by rw [e0]; exact q)).trans (a k q)
def FN (h h' : Mem) : Prop := FM h h' ∧ FR h h'
theorem FN.rf {h : Mem} : FN h h := ⟨FM.rf, FR.rf⟩
theorem FN.tr {h h1 h2 : Mem} (a : FN h h1) (b : FN h1 h2) : FN h h2 := ⟨a.1.tr b.1, a.2.tr b.2⟩
theorem FN.st {h h' : Mem} {k : Nat} {v : Int} (a : FN h h') (hk : k < 80 ∧ k ≠ 5 ∧ k ≠ 9) (hn : k ≠ 0 ∧ (k < 12 ∨ 68 ≤ k ∨ k < 12 + 7 * (h 162 0).toNat)) : FN h (mset h' 162 k v) := ⟨a.1.st hk, fun j q => by
  rw [mset_k (by omega)]
  exact a.2 j q⟩
theorem RXp.cnt {h : Mem} {g : Gs} {V : Nat → Prop} (r : RXp h g V) : (h 162 0).toNat = gn g := by unfold gn; rw [r.1 0 (by omega) (by omega)]
theorem q_millsLoopR {h : Mem} {g : Gs} {B way : Int} {V : Nat → Prop} {Q : Mem → Prop} (hR : RXp h g V) (hW : WF B g) (hB : B ≤ 1000000) (hQ : ∀ u, RXp u (grindTo (gm g) (g 0 6) way g) V → FN h u → Q u) : L_X12_goes_82 h way 0 Q := by
  obtain ⟨n4, nc⟩ := gm4 hW
  obtain ⟨n8, ncc⟩ := gn8 hW
  have key : ∀ (m i : Nat) (x : Int) (u : Mem), x = (i : Int) → i + m = gm g → RXp u (grindTo i (g 0 6) way g) V → FN h u → L_X12_goes_82 u way x Q := by
    intro m
    induction m with
    | zero =>
      intro i x u hx hi hr hf
      subst hx
      refine l_X12_goes_82 ?_
      unfold B_X12_goes_82
      rw [hr.1 1 (by omega) (by omega), grindTo_n (by omega)]
      have : i = gm g := by omega
      subst this
      exact ⟨fun _ => hQ u hr hf, fun c => absurd (by omega) c⟩
    | succ m ih =>
      intro i x u hx hi hr hf
      subst hx
      have hi2 : i < gm (grindTo i (g 0 6) way g) := by unfold gm; rw [grindTo_n (by omega)]; unfold gm at hi; omega
      have e0 := hr.2.2 i 0 hi2 (by omega)
      have e1 := hr.2.2 i 1 hi2 (by omega)
      have e2 := hr.2.2 i 2 hi2 (by omega)
      rw [grindTo_n (by omega)] at e0 e1
      rw [grindTo_ge (by omega)] at e2
      have e2 : u 162 (68 + 3 * i + 2) = g 10 i := e2
      have ws := hW.1
      have wm := hW.2.2 i (by omega)
      unfold WFm at wm
      unfold WFs at ws
      have ir : InR ((i : Int) + 1) := ⟨by omega, by omega⟩
      have no : ¬ (g 8 i = g 0 6 ∧ (g 9 i = 2 ∨ g 9 i = way)) → L_X12_goes_82 u way ((i : Int) + 1) Q := fun c =>
        ih (i + 1) ((i : Int) + 1) u (by omega) (by omega) (hr.cg (fun j _ _ => by rw [grindTo_n (by omega), grindTo_n (by omega)]) (fun f t _ _ _ _ => by rw [grindTo_n (by omega), grindTo_n (by omega)]) (fun f m _ _ _ => grindTo_s (Or.inr (Or.inr c))) (fun _ _ q => q)) hf
      have yes : (g 8 i = g 0 6 ∧ (g 9 i = 2 ∨ g 9 i = way)) → J_X12_goes_128 u way (i : Int) Q := by
        intro c
        unfold J_X12_goes_128
        refine q_millRow rfl (by omega) ?_
        rw [show (68 + 3 * (i : Int) + 2).toNat = 68 + 3 * i + 2 by omega, e2]
        refine ⟨⟨by omega, by omega⟩, ⟨by omega, by omega⟩, ⟨by omega, by omega⟩, fun v hv => ⟨ir, ?_⟩⟩
        have r1 := hr.setm (t := i) (k := 2) (v := g 10 i + 1) (by unfold gn; rw [grindTo_n (by omega)]; unfold gn at n8; exact n8) (by omega)
        have hv' : v = mset u 162 (68 + 3 * i + 2) (g 10 i + 1) := hv
        rw [← hv'] at r1
        refine ih (i + 1) ((i : Int) + 1) v (by omega) (by omega) (r1.cg (fun j _ _ => ?_) (fun f t _ _ _ _ => ?_) (fun f m _ _ _ => ?_) (fun _ _ q => q)) (by rw [hv']; exact hf.st (by omega) (by omega))
        · rw [gset_n (by omega), grindTo_n (by omega), grindTo_n (by omega)]
        · rw [gset_n (by omega), grindTo_n (by omega), grindTo_n (by omega)]
        · by_cases z : f = 10 ∧ m = i
          · obtain ⟨rfl, rfl⟩ := z
            rw [gset_e, grindTo_k c]
          · rw [gset_n (by omega), grindTo_s (by omega)]
      have e6 : u 162 6 = g 0 6 := by rw [hr.1 6 (by omega) (by omega), grindTo_n (by omega)]
      refine l_X12_goes_82 ?_
      unfold B_X12_goes_82
      rw [hr.1 1 (by omega) (by omega), grindTo_n (by omega)]
      refine ⟨fun c => absurd c (by omega), fun c => q_millOf (k := 1) rfl rfl (by omega) (by omega) (q_millOf (k := 0) rfl rfl (by omega) (by omega) ?_)⟩
      rw [e0, e1, e6]
      exact ⟨fun c1 => ⟨ir, no (fun z => c1 z.1)⟩, fun c1 => ⟨fun c2 => yes ⟨c1, Or.inr c2⟩, fun c2 => ⟨fun c3 => ⟨ir, no (fun z => by rcases z.2 with q | q; exact c3 q; exact c2 q)⟩, fun c3 => yes ⟨c1, Or.inl c3⟩⟩⟩⟩
  exact key (gm g) 0 0 h rfl (by omega) (hR.cg (fun j _ _ => grindTo_n (by omega)) (fun f t _ _ _ _ => grindTo_n (by omega)) (fun f m _ _ _ => grindTo_ge (by omega)) (fun _ _ q => q)) FN.rf
theorem q_goesR {h : Mem} {g : Gs} {B : Int} {Q : Mem → Prop} (hR : RX h g) (hW : WF B g) (hB : B ≤ 900000) (hQ : ∀ u, RX u (moveG g) → FN h u → Q u) : F_X12_goes h Q := by
  have ws := hW.1
  have gc := goalC_in hW
  unfold WFs at ws
  have e6 := hR.1 6 (by omega) (by omega)
  have e7 := hR.1 7 (by omega) (by omega)
  have e8 := hR.1 8 (by omega) (by omega)
  have vv : ∀ t, moveG g 4 t = 1 → g 4 t = 1 := fun t q => by rw [moveG_n (by omega)] at q; exact q
  have turn : ∀ w : Int, goalC g ≠ g 0 6 → wantD g = w → ¬ (w = g 0 7) → ∀ u1, u1 = mset h 162 7 w → InR (u1 162 8 + 1) ∧ ∀ u2, u2 = mset u1 162 8 (u1 162 8 + 1) → Q u2 := by
    intro w hc hw hne u1 hu1
    have a8 : u1 162 8 = g 0 8 := by rw [hu1, mset_k (by omega), e8]
    rw [a8]
    refine ⟨⟨by omega, by omega⟩, fun u2 hu2 => hQ u2 ?_ (by rw [hu2, hu1]; exact (FN.rf.st (by omega) (by omega)).st (by omega) (by omega))⟩
    have mv : moveG g = sset (sset g 7 w) 8 (g 0 8 + 1) := by
      unfold moveG
      rw [if_pos (by unfold tn; rw [if_pos ⟨hc, by rw [hw]; exact fun z => hne z.symm⟩]), hw]
    have r1 := RXp.sets (i := 7) (v := w) hR (by omega)
    rw [← hu1] at r1
    have r2 := RXp.sets (i := 8) (v := g 0 8 + 1) r1 (by omega)
    rw [← hu2] at r2
    rw [mv]
    exact r2.cg (fun _ _ _ => rfl) (fun _ _ _ _ _ _ => rfl) (fun _ _ _ _ _ => rfl) (fun t _ q => by rw [sset_n (by omega), sset_n (by omega)] at q; exact q)
  have go : ∀ w : Int, goalC g ≠ g 0 6 → wantD g = w → w = g 0 7 → ∀ a : Int, a = nextC g → ∀ u1, u1 = mset h 162 6 a → L_X12_goes_82 u1 w 0 Q := by
    intro w hc hw he a ha u1 hu1
    have r1 := RXp.sets (i := 6) (v := a) hR (by omega)
    rw [← hu1] at r1
    have nt : ¬ tn g = 1 := by unfold tn; rw [if_neg (by rintro ⟨-, z⟩; exact z (by rw [hw, he]))]; omega
    have mv : moveG g = grindTo (gm g) a w (sset g 6 a) := by
      unfold moveG
      rw [if_neg nt, if_pos hc, ← ha, he]
    have ms := move_s hW
    rw [mv, grindTo_n (by omega), sset_e] at ms
    have wv : WF B (sset g 6 a) := by
      obtain ⟨w3, w4, w5⟩ := hW
      unfold WFs at w3
      refine ⟨?_, fun t ht => ?_, fun m hm => ?_⟩
      · unfold WFs
        rw [sset_n (t := 0) (by omega), sset_n (t := 1) (by omega), sset_n (t := 2) (by omega), sset_n (t := 3) (by omega), sset_n (t := 4) (by omega), sset_n (t := 5) (by omega), sset_n (t := 7) (by omega), sset_n (t := 8) (by omega), sset_e]
        omega
      · rw [gn_sset (by omega)] at ht
        have := w4 t ht
        unfold WFt at this ⊢
        rw [sset_n (f := 1) (by omega), sset_n (f := 2) (by omega), sset_n (f := 3) (by omega), sset_n (f := 4) (by omega), sset_n (f := 5) (by omega), sset_n (f := 6) (by omega), sset_n (f := 7) (by omega), sset_n (t := 2) (by omega), sset_n (t := 5) (by omega)]
        exact this
      · rw [gm_sset (by omega)] at hm
        have := w5 m hm
        unfold WFm at this ⊢
        rw [sset_n (f := 8) (by omega), sset_n (f := 9) (by omega), sset_n (f := 10) (by omega), sset_n (t := 2) (by omega), sset_n (t := 5) (by omega)]
        exact this
    refine q_millsLoopR r1 wv (by omega) (fun u ru fu => hQ u ?_ (FN.tr (by rw [hu1]; exact FN.rf.st (by omega) (by omega)) fu))
    rw [sset_e, gm_sset (by omega)] at ru
    rw [mv]
    exact ru.cg (fun _ _ _ => rfl) (fun _ _ _ _ _ _ => rfl) (fun _ _ _ _ _ => rfl) (fun t _ q => by rw [grindTo_n (by omega), sset_n (by omega)] at q; exact q)
  unfold F_X12_goes
  refine q_goal hR hW ?_
  rw [e6, e7]
  refine ⟨fun c => ⟨fun c2 => ?_, fun c2 => ?_⟩, fun c => ?_⟩
  · have wd : wantD g = 0 := by unfold wantD; rw [if_neg (by omega)]
    refine ⟨fun c3 => ⟨⟨by omega, by omega⟩, fun u1 hu1 => go 0 c wd c3 _ (by unfold nextC; rw [if_neg (by omega)]) u1 hu1⟩, fun c3 u1 hu1 => turn 0 c wd c3 u1 hu1⟩
  · have wd : wantD g = 1 := by unfold wantD; rw [if_pos (by omega)]
    refine ⟨fun c3 => ⟨⟨by omega, by omega⟩, fun u1 hu1 => go 1 c wd c3 _ (by unfold nextC; rw [if_pos c3.symm]) u1 hu1⟩, fun c3 u1 hu1 => turn 1 c wd c3 u1 hu1⟩
  · have mv : moveG g = g := by
      unfold moveG
      rw [if_neg (by unfold tn; rw [if_neg (fun z => z.1 c)]; omega), if_neg (fun z => z c)]
    exact hQ h (by rw [mv]; exact hR) FN.rf
theorem q_takesUpR {h : Mem} {g : Gs} {B : Int} {Q : Mem → Prop} (hR : RX h g) (hW : WF B g) (hQ : ∀ u, RX u (takeG g) → FN h u → Q u) : F_X12_takesUp h Q := by
  have cnt := hR.cnt
  obtain ⟨n8, nc⟩ := gn8 hW
  have ws := hW.1
  unfold WFs at ws
  have key : ∀ (m i : Nat) (x : Int) (u : Mem), x = (i : Int) → i + m = gn g → RX u (upTo i (takeF g (g 0 6) (g 0 3 - cw g (gn g))) g) → FN h u → L_X12_takesUp_2 u x Q := by
    intro m
    induction m with
    | zero =>
      intro i x u hx hi hr hf
      subst hx
      refine l_X12_takesUp_2 ?_
      unfold B_X12_takesUp_2
      rw [hr.1 0 (by omega) (by omega), upTo0]
      have : i = gn g := by omega
      subst this
      exact ⟨fun _ => hQ u hr hf, fun c => absurd (by omega) c⟩
    | succ m ih =>
      intro i x u hx hi hr hf
      subst hx
      have hi2 : i < gn (upTo i (takeF g (g 0 6) (g 0 3 - cw g (gn g))) g) := by rw [gn_upTo]; omega
      have wT := hW.takeTo (at_ := g 0 6) (fr := g 0 3 - cw g (gn g)) i
      have wt := hW.2.1 i (by omega)
      unfold WFt at wt
      have fle := fl_cw (g := g) (at_ := g 0 6) (g 0 3) i (by omega)
      have cin := cw_in wT (gn g) (by rw [gn_upTo]; omega)
      have ir : InR ((i : Int) + 1) := ⟨by omega, by omega⟩
      have no : ¬ (g 4 i = 1 ∧ g 5 i = g 0 6 ∧ g 3 i ≤ g 6 i ∧ g 1 i ≤ fl g (g 0 6) (g 0 3 - cw g (gn g)) i) → L_X12_takesUp_2 u ((i : Int) + 1) Q := by
        intro c
        have same : ∀ f t, upTo (i + 1) (takeF g (g 0 6) (g 0 3 - cw g (gn g))) g f t = upTo i (takeF g (g 0 6) (g 0 3 - cw g (gn g))) g f t := by
          intro f t
          by_cases z : t ≠ i ∨ f ≤ 3 ∨ 8 ≤ f
          · exact upTo_s z
          · have ez : t = i := by omega
            subst ez
            rw [upTo_k (by omega) (by omega), upTo_ge (by omega)]
            unfold takeF
            rw [if_neg c]
        exact ih (i + 1) ((i : Int) + 1) u (by omega) (by omega) (hr.cg (fun j _ _ => same 0 j) (fun f t _ _ _ _ => same f t) (fun f m _ _ _ => same f m) (fun t _ q => by rw [same] at q; exact q)) hf
      have e6 : u 162 6 = g 0 6 := by rw [hr.1 6 (by omega) (by omega), upTo0]
      have e3 : u 162 3 = g 0 3 := by rw [hr.1 3 (by omega) (by omega), upTo0]
      have s4 : upTo i (takeF g (g 0 6) (g 0 3 - cw g (gn g))) g 4 i = g 4 i := upTo_ge (by omega)
      have s5 : upTo i (takeF g (g 0 6) (g 0 3 - cw g (gn g))) g 5 i = g 5 i := upTo_ge (by omega)
      have s6 : upTo i (takeF g (g 0 6) (g 0 3 - cw g (gn g))) g 6 i = g 6 i := upTo_ge (by omega)
      have s3 : upTo i (takeF g (g 0 6) (g 0 3 - cw g (gn g))) g 3 i = g 3 i := upTo_ge (by omega)
      have s1 : upTo i (takeF g (g 0 6) (g 0 3 - cw g (gn g))) g 1 i = g 1 i := upTo_ge (by omega)
      refine l_X12_takesUp_2 ?_
      unfold B_X12_takesUp_2
      rw [hr.1 0 (by omega) (by omega), upTo0]
      refine ⟨fun c => absurd c (by omega), fun c => q_isRem hr wT rfl hi2 ?_⟩
      rw [s4, s3, s6]
      refine ⟨fun c1 => ⟨ir, no (fun z => by rw [if_pos ⟨z.1, z.2.2.1⟩] at c1; omega)⟩, fun c1 => ?_⟩
      have yr : g 4 i = 1 ∧ g 3 i ≤ g 6 i := by
        by_cases z : g 4 i = 1 ∧ g 3 i ≤ g 6 i
        · exact z
        · rw [if_neg z] at c1; exact absurd rfl c1
      refine q_thingOf (k := 4) rfl rfl (by omega) (by omega) ?_
      rw [hr.2.1 i 4 hi2 (by omega) (fun _ => by show upTo i _ g 4 i = 1; rw [s4]; exact yr.1), e6]
      refine ⟨fun c2 => ?_, fun c2 => ⟨ir, no (fun z => c2 (by show upTo i _ g 5 i = _; rw [s5]; exact z.2.1))⟩⟩
      have c2' : g 5 i = g 0 6 := by rw [← s5]; exact c2
      refine q_carried hr wT ?_
      rw [gn_upTo]
      refine q_thingOf (k := 0) rfl rfl (by omega) (by omega) ?_
      rw [hr.2.1 i 0 hi2 (by omega) (fun q => absurd q (by omega)), e3]
      have s1' : upTo i (takeF g (g 0 6) (g 0 3 - cw g (gn g))) g (0 + 1) i = g 1 i := s1
      rw [s1']
      refine ⟨⟨by omega, by omega⟩, fun c3 => ?_, fun c3 => ⟨ir, no (fun z => by omega)⟩⟩
      have cc : g 4 i = 1 ∧ g 5 i = g 0 6 ∧ g 3 i ≤ g 6 i ∧ g 1 i ≤ fl g (g 0 6) (g 0 3 - cw g (gn g)) i := ⟨yr.1, c2', yr.2, by omega⟩
      refine q_thingRow rfl (by omega) ⟨⟨by omega, by omega⟩, ⟨by omega, by omega⟩, fun v1 hv1 => ?_⟩
      rw [show (12 + 7 * (i : Int) + 3).toNat = 12 + 7 * i + 3 by omega] at hv1
      refine q_thingRow rfl (by omega) ⟨⟨by omega, by omega⟩, ⟨by omega, by omega⟩, fun v2 hv2 => ⟨ir, ?_⟩⟩
      rw [show (12 + 7 * (i : Int) + 5).toNat = 12 + 7 * i + 5 by omega] at hv2
      have r1 := RXp.set (V' := fun t => upTo i (takeF g (g 0 6) (g 0 3 - cw g (gn g))) g 4 t = 1) (t := i) (k := 3) (v := 2) hr (by omega) (by omega) (fun _ q => Or.inl q)
      rw [← hv1] at r1
      have r2 := RXp.set (V' := fun t => upTo i (takeF g (g 0 6) (g 0 3 - cw g (gn g))) g 4 t = 1) (t := i) (k := 5) (v := 0) r1 (by omega) (by omega) (fun _ q => Or.inl q)
      rw [← hv2] at r2
      refine ih (i + 1) ((i : Int) + 1) v2 (by omega) (by omega) (r2.cg (fun j _ _ => ?_) (fun f t _ h1 h7 hv => ?_) (fun f m _ h8 _ => ?_) (fun t _ q => ?_)) (by rw [hv2, hv1]; exact (hf.st (by omega) (by omega)).st (by omega) (by omega))
      · rw [gset_n (by omega), gset_n (by omega), upTo0, upTo0]
      · by_cases z : t = i
        · subst z
          by_cases f4 : f = 4
          · subst f4
            rw [upTo_k (by omega) (by omega), gset_n (by omega), gset_e]
            unfold takeF
            rw [if_pos cc, if_pos rfl]
          · by_cases f6 : f = 6
            · subst f6
              rw [upTo_k (by omega) (by omega), gset_e]
              unfold takeF
              rw [if_pos cc, if_neg (by omega), if_neg (by omega)]
            · by_cases f5 : f = 5
              · have hv := hv f5
                have hv : upTo (t + 1) (takeF g (g 0 6) (g 0 3 - cw g (gn g))) g 4 t = 1 := hv
                rw [upTo_k (by omega) (by omega)] at hv
                unfold takeF at hv
                rw [if_pos cc, if_pos rfl] at hv
                exact absurd hv (by decide)
              · rw [gset_n (by omega), gset_n (by omega)]
                by_cases f7 : f = 7
                · subst f7
                  rw [upTo_k (by omega) (by omega), upTo_ge (by omega)]
                  unfold takeF
                  rw [if_pos cc, if_neg (by omega), if_pos rfl]
                · rw [upTo_lo (by omega), upTo_lo (by omega)]
        · rw [gset_n (by omega), gset_n (by omega), upTo_s (Or.inl z)]
      · rw [gset_n (by omega), gset_n (by omega), upTo_lo (by omega), upTo_lo (by omega)]
      · by_cases z : t = i
        · subst z
          show upTo t _ g 4 t = 1
          rw [s4]; exact yr.1
        · have q : upTo (i + 1) (takeF g (g 0 6) (g 0 3 - cw g (gn g))) g 4 t = 1 := q
          rw [upTo_s (Or.inl z)] at q
          exact q
  exact key (gn g) 0 0 h rfl (by omega) (hR.cg (fun j _ _ => upTo0) (fun f t _ _ _ _ => upTo_ge (by omega)) (fun f m _ _ _ => upTo_ge (by omega)) (fun t _ q => by rw [upTo_ge (by omega)] at q; exact q)) FN.rf
theorem q_lastR {h : Mem} {g : Gs} {V : Nat → Prop} {i : Nat} {x : Int} {Q : Mem → Prop} (hx : x = (i : Int)) (hn : i < 8) (hi : i < gn g) (hR : RXp h g V) (hg : 0 ≤ g 6 i ∧ g 6 i ≤ 99)
    (h1 : g 4 i = 1 → ∀ u, RXp u (gset g 6 i (if 99 ≤ g 6 i then g 6 i else g 6 i + 1)) V → FN h u → Q u)
    (h2 : g 4 i = 2 → g 6 i + 1 < g 2 i → ∀ u, RXp u (gset g 6 i (g 6 i + 1)) V → FN h u → Q u)
    (h3 : g 4 i = 2 → ¬ g 6 i + 1 < g 2 i → ∀ u, RXp u (gset (gset (gset (gset g 6 i (g 6 i + 1)) 4 i 1) 5 i (g 0 6)) 6 i 0) (fun t => V t ∨ t = i) → FN h u → Q u)
    (h4 : g 4 i ≠ 1 → g 4 i ≠ 2 → Q h) : F_X12_lasts h x Q := by
  have cnt := hR.cnt
  have e3 := hR.2.1 i 3 hi (by omega) (fun q => absurd q (by omega))
  have e5 := hR.2.1 i 5 hi (by omega) (fun q => absurd q (by omega))
  have e1 := hR.2.1 i 1 hi (by omega) (fun q => absurd q (by omega))
  have e3 : h 162 (12 + 7 * i + 3) = g 4 i := e3
  have e5 : h 162 (12 + 7 * i + 5) = g 6 i := e5
  have e1 : h 162 (12 + 7 * i + 1) = g 2 i := e1
  have n3 : (12 + 7 * (i : Int) + 3).toNat = 12 + 7 * i + 3 := by omega
  have n5 : (12 + 7 * (i : Int) + 5).toNat = 12 + 7 * i + 5 := by omega
  have n1 : (12 + 7 * (i : Int) + 1).toNat = 12 + 7 * i + 1 := by omega
  have n4 : (12 + 7 * (i : Int) + 4).toNat = 12 + 7 * i + 4 := by omega
  unfold F_X12_lasts
  refine q_thingRow hx hn ?_
  rw [n3, n5, n1, n4, e3, e5]
  refine ⟨⟨by omega, by omega⟩, ⟨by omega, by omega⟩, fun c1 => ⟨fun c2 => h4 c1 c2, fun c2 => ⟨⟨by omega, by omega⟩, ⟨by omega, by omega⟩, ⟨by omega, by omega⟩, fun v1 hv1 => ⟨⟨by omega, by omega⟩, ⟨by omega, by omega⟩, ?_⟩⟩⟩, fun c1 => ⟨⟨by omega, by omega⟩, ⟨by omega, by omega⟩, ⟨by omega, by omega⟩, fun v1 hv1 => ?_⟩⟩
  · have r1 := hR.set (V' := V) (t := i) (k := 5) (v := g 6 i + 1) (by omega) (by omega) (fun _ q => Or.inl q)
    rw [← hv1] at r1
    have a5 : v1 162 (12 + 7 * i + 5) = g 6 i + 1 := by rw [hv1, mset_at]
    have a1 : v1 162 (12 + 7 * i + 1) = g 2 i := by rw [hv1, mset_k (by omega), e1]
    rw [a5, a1]
    refine ⟨fun c3 v2 hv2 => ⟨⟨by omega, by omega⟩, ⟨by omega, by omega⟩, fun v3 hv3 v4 hv4 => ?_⟩, fun c3 => h2 c2 (by omega) v1 r1 (by rw [hv1]; exact FN.rf.st (by omega) (by omega))⟩
    have a6 : v2 162 6 = g 0 6 := by rw [hv2, mset_k (by omega), hv1, mset_k (by omega)]; exact hR.1 6 (by omega) (by omega)
    rw [a6] at hv3
    have r2 := r1.set (V' := V) (t := i) (k := 3) (v := 1) (by omega) (by omega) (fun _ q => Or.inl q)
    rw [← hv2] at r2
    have r3 := r2.set (V' := fun t => V t ∨ t = i) (t := i) (k := 4) (v := g 0 6) (by omega) (by omega) (fun t q => by rcases q with q | q; exact Or.inl q; exact Or.inr ⟨q, rfl⟩)
    rw [← hv3] at r3
    have r4 := r3.set (V' := fun t => V t ∨ t = i) (t := i) (k := 5) (v := 0) (by omega) (by omega) (fun _ q => Or.inl q)
    rw [← hv4] at r4
    refine h3 c2 (by omega) v4 r4 ?_
    rw [hv4, hv3, hv2, hv1]
    exact (((FN.rf.st (by omega) (by omega)).st (by omega) (by omega)).st (by omega) (by omega)).st (by omega) (by omega)
  · have r1 := hR.set (V' := V) (t := i) (k := 5) (v := imin 99 (g 6 i + 1)) (by omega) (by omega) (fun _ q => Or.inl q)
    rw [← hv1] at r1
    refine h1 c1 v1 ?_ (by rw [hv1]; exact FN.rf.st (by omega) (by omega))
    have e : imin 99 (g 6 i + 1) = if 99 ≤ g 6 i then g 6 i else g 6 i + 1 := by
      unfold imin
      by_cases c : g 6 i + 1 < 99
      · rw [if_pos c, if_neg (by omega)]
      · by_cases c2 : 99 ≤ g 6 i
        · rw [if_neg c, if_pos c2]; omega
        · rw [if_neg c, if_neg c2]; omega
    rw [← e]
    exact r1
theorem q_comesHomeR {h : Mem} {g : Gs} {B : Int} {V : Nat → Prop} {i : Nat} {x : Int} {Q : Mem → Prop} (hx : x = (i : Int)) (hn : i < 8) (hi : i < gn g) (hR : RXp h g V) (hg : 0 ≤ g 7 i ∧ g 7 i ≤ 1000000)
    (hQ : ∀ u, RXp u (gset (gset (gset g 4 i 3) 6 i 0) 7 i (g 7 i + 1)) V → FN h u → Q u) : F_X12_comesHome h x Q := by
  have cnt := hR.cnt
  have e6 : h 162 (12 + 7 * i + 6) = g 7 i := hR.2.1 i 6 hi (by omega) (fun q => absurd q (by omega))
  have n3 : (12 + 7 * (i : Int) + 3).toNat = 12 + 7 * i + 3 := by omega
  have n5 : (12 + 7 * (i : Int) + 5).toNat = 12 + 7 * i + 5 := by omega
  have n6 : (12 + 7 * (i : Int) + 6).toNat = 12 + 7 * i + 6 := by omega
  unfold F_X12_comesHome
  refine q_thingRow hx hn ⟨⟨by omega, by omega⟩, ⟨by omega, by omega⟩, fun v1 hv1 => q_thingRow hx hn ⟨⟨by omega, by omega⟩, ⟨by omega, by omega⟩, fun v2 hv2 => q_thingRow hx hn ⟨⟨by omega, by omega⟩, ⟨by omega, by omega⟩, ?_⟩⟩⟩
  rw [n3] at hv1
  rw [n5] at hv2
  rw [n6]
  have a6 : v2 162 (12 + 7 * i + 6) = g 7 i := by rw [hv2, mset_k (by omega), hv1, mset_k (by omega), e6]
  rw [a6]
  refine ⟨⟨by omega, by omega⟩, fun v3 hv3 => ?_⟩
  have r1 := hR.set (V' := V) (t := i) (k := 3) (v := 3) (by omega) (by omega) (fun _ q => Or.inl q)
  rw [← hv1] at r1
  have r2 := r1.set (V' := V) (t := i) (k := 5) (v := 0) (by omega) (by omega) (fun _ q => Or.inl q)
  rw [← hv2] at r2
  have r3 := r2.set (V' := V) (t := i) (k := 6) (v := g 7 i + 1) (by omega) (by omega) (fun _ q => Or.inl q)
  rw [← hv3] at r3
  refine hQ v3 r3 ?_
  rw [hv3, hv2, hv1]
  exact ((FN.rf.st (by omega) (by omega)).st (by omega) (by omega)).st (by omega) (by omega)
theorem q_hourR {h : Mem} {g : Gs} {B : Int} {Q : Int → Mem → Prop} (hR : RXh h g) (hW : WF B g) (hB : B ≤ 800000) (hQ : ∀ u, RXh u (pass g) → FMh h u → FR h u → Q (tn g) u) : F_X12_hourGoes h Q := by
  have w1 := hW.hour
  obtain ⟨w2, h7⟩ := w1.move
  have w3 := w2.take
  have h73 : ∀ t, t < gn (takeG (moveG (hourG g))) → takeG (moveG (hourG g)) 7 t + 1 ≤ takeG (moveG (hourG g)) 0 5 := by
    intro t ht
    rw [take_7]
    have e : takeG (moveG (hourG g)) 0 5 = moveG (hourG g) 0 5 := upTo0
    rw [e]
    exact h7 t (by unfold takeG at ht; rw [gn_upTo] at ht; exact ht)
  have e8 : h 162 8 = g 0 8 := hR.1.1 8 (by omega) (by omega)
  have r0 : RX h (hourG g) := hR.1.cg (fun i _ h5 => hour_n (by omega)) (fun f t _ _ _ _ => hour_n (by omega)) (fun f m _ _ _ => hour_n (by omega)) (fun t _ q => by rw [hour_n (by omega)] at q; exact q)
  unfold F_X12_hourGoes
  refine q_goesR r0 w1.1 (by omega) (fun u1 r1 f1 => q_takesUpR r1 w2 (fun u2 r2 f2 => ?_))
  rw [e8]
  have e5p : takeG (moveG (hourG g)) 0 5 = g 0 5 + 1 := by
    have a : takeG (moveG (hourG g)) 0 5 = moveG (hourG g) 0 5 := upTo0
    have b : hourG g 0 5 = g 0 5 + 1 := sset_e
    rw [a, moveG_n (by omega), b]
  have e8p : takeG (moveG (hourG g)) 0 8 = if tn g = 1 then g 0 8 + 1 else g 0 8 := by
    have a : takeG (moveG (hourG g)) 0 8 = moveG (hourG g) 0 8 := upTo0
    rw [a, move_8, tn_hour, hour_n (by omega)]
  have pe : pass g = growG (takeG (moveG (hourG g))) := rfl
  generalize hg2 : takeG (moveG (hourG g)) = g2 at w3 h73 r2 e5p e8p pe
  obtain ⟨n8, nc⟩ := gn8 w3
  have ws := w3.1
  unfold WFs at ws
  have key : ∀ (m i : Nat) (x : Int) (u : Mem), x = (i : Int) → i + m = gn g2 → RX u (upTo i (growF g2 (g2 0 6) (if g2 0 6 = g2 0 2 - 1 then 1 else 0)) g2) → FN h u → L_X12_hourGoes_18 u (g 0 8) x Q := by
    intro m
    induction m with
    | zero =>
      intro i x u hx hi hr hf
      subst hx
      have : i = gn g2 := by omega
      subst this
      have u5 : u 162 5 = g 0 5 := by rw [hf.1 162 5 (by omega)]; exact hR.2
      have u8 : u 162 8 = g2 0 8 := by rw [hr.1 8 (by omega) (by omega), upTo0]
      have fin : ∀ v, v = mset u 162 5 (g 0 5 + 1) → RXh v (pass g) ∧ FMh h v ∧ FR h v := by
        intro v hv
        refine ⟨⟨?_, by rw [hv, mset_at, pe]; unfold growG; rw [upTo0, e5p]⟩, fun i k q => ?_, fun k q => by rw [hv, mset_k (by omega)]; exact hf.2 k q⟩
        · rw [pe]
          refine ⟨fun j hj h5 => by rw [hv, mset_k (by omega)]; exact hr.1 j hj h5, fun t k ht hk hv2 => ?_, fun m k hm hk => by rw [hv, mset_k (by omega)]; exact hr.2.2 m k hm hk⟩
          rw [hv, mset_k (by omega)]
          exact hr.2.1 t k ht hk hv2
        · rw [hv]
          have : mset u 162 5 (g 0 5 + 1) i k = u i k := by unfold mset; rw [if_neg (by omega)]
          rw [this]
          exact hf.1 i k (by omega)
      refine l_X12_hourGoes_18 ?_
      unfold B_X12_hourGoes_18
      rw [hr.1 0 (by omega) (by omega), upTo0, u5]
      refine ⟨fun _ => ⟨⟨by omega, by omega⟩, fun v hv => ?_⟩, fun c => absurd (by omega) c⟩
      obtain ⟨a, b⟩ := fin v hv
      have v8 : v 162 8 = g2 0 8 := by rw [hv, mset_k (by omega), u8]
      rw [v8, e8p]
      have q := hQ v a b.1 b.2
      unfold tn at q ⊢
      refine ⟨fun c => ?_, fun c => ?_⟩
      · by_cases z : goalC g ≠ g 0 6 ∧ g 0 7 ≠ wantD g
        · rw [if_pos z, if_pos rfl] at c; omega
        · rw [if_neg z] at q; exact q
      · by_cases z : goalC g ≠ g 0 6 ∧ g 0 7 ≠ wantD g
        · rw [if_pos z] at q; exact q
        · rw [if_neg z, if_neg (by omega)] at c; omega
    | succ m ih =>
      intro i x u hx hi hr hf
      subst hx
      have ir : InR ((i : Int) + 1) := ⟨by omega, by omega⟩
      have wt := w3.2.1 i (by omega)
      have h7i := h73 i (by omega)
      unfold WFt at wt
      generalize hsea : (if g2 0 6 = g2 0 2 - 1 then (1 : Int) else 0) = sea at hr ih
      have hi2 : i < gn (upTo i (growF g2 (g2 0 6) sea) g2) := by rw [gn_upTo]; omega
      have s1 : upTo i (growF g2 (g2 0 6) sea) g2 1 i = g2 1 i := upTo_ge (by omega)
      have s2 : upTo i (growF g2 (g2 0 6) sea) g2 2 i = g2 2 i := upTo_ge (by omega)
      have s4 : upTo i (growF g2 (g2 0 6) sea) g2 4 i = g2 4 i := upTo_ge (by omega)
      have s6 : upTo i (growF g2 (g2 0 6) sea) g2 6 i = g2 6 i := upTo_ge (by omega)
      have s7 : upTo i (growF g2 (g2 0 6) sea) g2 7 i = g2 7 i := upTo_ge (by omega)
      have s0 : upTo i (growF g2 (g2 0 6) sea) g2 0 6 = g2 0 6 := upTo0
      -- one more thing is done
      have step : ∀ (v : Mem) (g' : Gs) (V' : Nat → Prop), RXp v g' V' → (∀ j, g' 0 j = g2 0 j) → (∀ f t, 8 ≤ f → g' f t = g2 f t) → (∀ f t, t ≠ i → 1 ≤ f → g' f t = upTo i (growF g2 (g2 0 6) sea) g2 f t) → (∀ f, 1 ≤ f → f ≤ 7 → (f = 5 → growF g2 (g2 0 6) sea 4 i = 1) → (if f ≤ 3 then g2 f i else growF g2 (g2 0 6) sea f i) = g' f i) → (∀ t, t ≠ i → upTo i (growF g2 (g2 0 6) sea) g2 4 t = 1 → V' t) → (growF g2 (g2 0 6) sea 4 i = 1 → V' i) → FN h v → L_X12_hourGoes_18 v (g 0 8) ((i : Int) + 1) Q := by
        intro v g' V' r e0 e8 et ei hV hVi fv
        refine ih (i + 1) ((i : Int) + 1) v (by omega) (by omega) (r.cg (fun j _ _ => by rw [upTo0, e0]) (fun f t _ hf1 hf7 h5 => ?_) (fun f m _ h8 _ => by rw [upTo_lo (by omega), e8 f m h8]) (fun t _ q => ?_)) fv
        · by_cases z : t = i
          · subst z
            by_cases z3 : f ≤ 3
            · rw [upTo_lo (by omega), ← ei f hf1 hf7 (fun q => by omega), if_pos z3]
            · rw [upTo_k (by omega) (by omega), ← ei f hf1 hf7 (fun q => by have := h5 q; rw [upTo_k (by omega) (by omega)] at this; exact this), if_neg z3]
          · rw [upTo_s (Or.inl z), et f t z hf1]
        · by_cases z : t = i
          · subst z
            rw [upTo_k (by omega) (by omega)] at q
            exact hVi q
          · rw [upTo_s (Or.inl z)] at q
            exact hV t z q
      have lst : (g2 4 i = 2 → sea = 0) → F_X12_lasts u (i : Int) (fun v => InR ((i : Int) + 1) ∧ L_X12_hourGoes_18 v (g 0 8) ((i : Int) + 1) Q) := by
        intro hs
        refine q_lastR (i := i) rfl (by omega) hi2 hr (by rw [s6]; omega) ?_ ?_ ?_ ?_
        · intro c v rv fv
          rw [s4] at c
          rw [s6] at rv
          refine ⟨ir, step v _ _ rv (fun j => by rw [gset_n (by omega), upTo0]) (fun f t h8 => by rw [gset_n (by omega), upTo_lo (by omega)]) (fun f t ht _ => gset_n (by omega)) (fun f h1 h7 _ => ?_) (fun t _ q => q) (fun _ => by show upTo i _ g2 4 i = 1; rw [s4]; exact c) (hf.tr fv)⟩
          by_cases z3 : f ≤ 3
          · rw [if_pos z3, gset_n (by omega), upTo_ge (by omega)]
          · rw [if_neg z3]
            unfold growF
            rw [if_pos c]
            by_cases f6 : f = 6
            · subst f6; rw [if_pos rfl, gset_e]
            · rw [if_neg f6, gset_n (by omega), upTo_ge (by omega)]
        · intro c c2 v rv fv
          rw [s4] at c
          rw [s6, s2] at c2
          rw [s6] at rv
          have sz := hs c
          refine ⟨ir, step v _ _ rv (fun j => by rw [gset_n (by omega), upTo0]) (fun f t h8 => by rw [gset_n (by omega), upTo_lo (by omega)]) (fun f t ht _ => gset_n (by omega)) (fun f h1 h7 h5 => ?_) (fun t _ q => q) (fun q => ?_) (hf.tr fv)⟩
          · by_cases z3 : f ≤ 3
            · rw [if_pos z3, gset_n (by omega), upTo_ge (by omega)]
            · rw [if_neg z3]
              unfold growF
              rw [if_neg (by omega), if_pos c, if_neg (by omega), if_pos c2]
              by_cases f6 : f = 6
              · subst f6; rw [if_pos rfl, gset_e]
              · rw [if_neg f6, gset_n (by omega), upTo_ge (by omega)]
          · unfold growF at q
            rw [if_neg (by omega), if_pos c, if_neg (by omega), if_pos c2, if_neg (by omega)] at q
            omega
        · intro c c2 v rv fv
          rw [s4] at c
          rw [s6, s2] at c2
          rw [s0] at rv
          have sz := hs c
          refine ⟨ir, step v _ _ rv (fun j => by rw [gset_n (by omega), gset_n (by omega), gset_n (by omega), gset_n (by omega), upTo0]) (fun f t h8 => by rw [gset_n (by omega), gset_n (by omega), gset_n (by omega), gset_n (by omega), upTo_lo (by omega)]) (fun f t ht _ => by rw [gset_n (by omega), gset_n (by omega), gset_n (by omega), gset_n (by omega)]) (fun f h1 h7 _ => ?_) (fun t _ q => Or.inl q) (fun _ => Or.inr rfl) (hf.tr fv)⟩
          by_cases z3 : f ≤ 3
          · rw [if_pos z3, gset_n (by omega), gset_n (by omega), gset_n (by omega), gset_n (by omega), upTo_ge (by omega)]
          · rw [if_neg z3]
            unfold growF
            rw [if_neg (by omega), if_pos c, if_neg (by omega), if_neg c2]
            by_cases f6 : f = 6
            · subst f6; rw [if_neg (by omega), if_neg (by omega), if_pos rfl, gset_e]
            · by_cases f5 : f = 5
              · subst f5; rw [if_neg (by omega), if_pos rfl, gset_n (by omega), gset_e]
              · by_cases f4 : f = 4
                · subst f4; rw [if_pos rfl, gset_n (by omega), gset_n (by omega), gset_e]
                · rw [if_neg f4, if_neg f5, if_neg f6, gset_n (by omega), gset_n (by omega), gset_n (by omega), gset_n (by omega), upTo_ge (by omega)]
        · intro c1 c2
          rw [s4] at c1 c2
          refine ⟨ir, step u _ _ hr (fun j => upTo0) (fun f t h8 => upTo_lo (by omega)) (fun f t _ _ => rfl) (fun f h1 h7 _ => ?_) (fun t _ q => q) (fun q => ?_) hf⟩
          · by_cases z3 : f ≤ 3
            · rw [if_pos z3, upTo_ge (by omega)]
            · rw [if_neg z3]
              unfold growF
              rw [if_neg c1, if_neg c2, upTo_ge (by omega)]
          · unfold growF at q
            rw [if_neg c1, if_neg c2] at q
            exact absurd q c1
      refine l_X12_hourGoes_18 ?_
      unfold B_X12_hourGoes_18
      rw [hr.1 0 (by omega) (by omega), upTo0]
      refine ⟨fun c => absurd c (by omega), fun c => q_sea2 hr (by rw [upTo0]; omega) ?_⟩
      rw [hr.1 6 (by omega) (by omega), upTo0, upTo0]
      refine ⟨fun c1 => lst (fun _ => by rw [← hsea, if_neg c1]), fun c1 => q_thingOf (k := 3) rfl rfl (by omega) (by omega) ?_⟩
      rw [hr.2.1 i 3 hi2 (by omega) (fun q => absurd q (by omega))]
      have s4' : upTo i (growF g2 (g2 0 6) sea) g2 (3 + 1) i = g2 4 i := s4
      rw [s4']
      refine ⟨fun c2 => lst (fun z => absurd z c2), fun c2 => ?_⟩
      have se : sea = 1 := by rw [← hsea, if_pos c1]
      refine q_comesHomeR (i := i) (B := B) rfl (by omega) hi2 hr (by rw [s7]; omega) (fun v rv fv => ?_)
      rw [s7] at rv
      have hi3 : i < gn (gset (gset (gset (upTo i (growF g2 (g2 0 6) sea) g2) 4 i 3) 6 i 0) 7 i (g2 7 i + 1)) := by
        rw [gn_gset (by omega), gn_gset (by omega), gn_gset (by omega)]; exact hi2
      have t4 : gset (gset (gset (upTo i (growF g2 (g2 0 6) sea) g2) 4 i 3) 6 i 0) 7 i (g2 7 i + 1) 4 i = 3 := by
        rw [gset_n (by omega), gset_n (by omega), gset_e]
      have t6 : gset (gset (gset (upTo i (growF g2 (g2 0 6) sea) g2) 4 i 3) 6 i 0) 7 i (g2 7 i + 1) 6 i = 0 := by
        rw [gset_n (by omega), gset_e]
      refine q_lastR (i := i) rfl (by omega) hi3 rv (by rw [t6]; omega) (fun z => by rw [t4] at z; omega) (fun z => by rw [t4] at z; omega) (fun z => by rw [t4] at z; omega) (fun _ _ => ⟨ir, ?_⟩)
      refine step v _ _ rv (fun j => by rw [gset_n (by omega), gset_n (by omega), gset_n (by omega), upTo0]) (fun f t h8 => by rw [gset_n (by omega), gset_n (by omega), gset_n (by omega), upTo_lo (by omega)]) (fun f t ht _ => by rw [gset_n (by omega), gset_n (by omega), gset_n (by omega)]) (fun f h1 h7 h5 => ?_) (fun t _ q => q) (fun q => ?_) (hf.tr fv)
      · by_cases z3 : f ≤ 3
        · rw [if_pos z3, gset_n (by omega), gset_n (by omega), gset_n (by omega), upTo_ge (by omega)]
        · rw [if_neg z3]
          by_cases f5 : f = 5
          · have := h5 f5
            unfold growF at this
            rw [if_neg (by omega), if_pos c2, if_pos (by omega), if_pos rfl] at this
            omega
          · have gv : growF g2 (g2 0 6) sea f i = if f = 4 then 3 else if f = 7 then g2 7 i + 1 else 0 := by
              unfold growF
              rw [if_neg (by omega), if_pos c2, if_pos (by omega)]
            rw [gv]
            by_cases f4 : f = 4
            · subst f4; rw [if_pos rfl, t4]
            · by_cases f7 : f = 7
              · subst f7; rw [if_neg (by omega), if_pos rfl, gset_e]
              · have f6 : f = 6 := by omega
                subst f6
                rw [if_neg (by omega), if_neg (by omega), t6]
      · unfold growF at q
        rw [if_neg (by omega), if_pos c2, if_pos (by omega), if_pos rfl] at q
        omega
  exact key (gn g2) 0 0 u2 rfl (by omega) (r2.cg (fun j _ _ => upTo0) (fun f t _ _ _ _ => upTo_ge (by omega)) (fun f m _ _ _ => upTo_ge (by omega)) (fun t _ q => by rw [upTo_ge (by omega)] at q; exact q)) (f1.tr f2)
