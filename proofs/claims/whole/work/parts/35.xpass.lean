/-! x's mills, goal, hour -/
theorem RM.set {h : Mem} {o t k : Nat} {g : Gs} {v : Int} (hR : RM h o g) (hk : k = 8 ∨ k = 9 ∨ k = 10) : RM (mset h (o + (k - 6)) t v) o (gset g k t v) := by
  refine ⟨?_, fun i hi => ?_⟩
  · rw [mset_i _ (by omega), hR.1, gset_n (by omega)]
  · have hi' : i < gm g := by
      unfold gm at hi ⊢
      rw [gset_n (by omega)] at hi
      exact hi
    obtain ⟨e1, e2, e3, e4⟩ := hR.2 i hi'
    have st : ∀ j, 8 ≤ j → j ≤ 10 → h (o + (j - 6)) i = g j i → mset h (o + (k - 6)) t v (o + (j - 6)) i = gset g k t v j i := by
      intro j h1 h2 e
      by_cases c : j = k ∧ i = t
      · obtain ⟨rfl, rfl⟩ := c
        rw [gset_e]; exact mset_at
      · rw [gset_n (by omega), ← e]
        unfold mset
        rw [if_neg (by omega)]
    exact ⟨by rw [mset_i _ (by omega), e1, gset_n (by omega)], st 8 (by omega) (by omega) e2, st 9 (by omega) (by omega) e3, st 10 (by omega) (by omega) e4⟩
theorem RM.cg {h : Mem} {T : Nat} {g g' : Gs} (r : RM h T g) (e0 : g' 0 1 = g 0 1) (e : ∀ f m, m < gm g → 8 ≤ f → g' f m = g f m) : RM h T g' := by
  refine ⟨by rw [e0]; exact r.1, fun t ht => ?_⟩
  have ht' : t < gm g := by unfold gm at ht ⊢; rw [← e0]; exact ht
  rw [e 12 t ht' (by omega), e 8 t ht' (by omega), e 9 t ht' (by omega), e 10 t ht' (by omega)]
  exact r.2 t ht'
theorem grindTo_s {g : Gs} {k f m : Nat} {a w : Int} (h : m ≠ k ∨ f ≠ 10 ∨ ¬ (g 8 k = a ∧ (g 9 k = 2 ∨ g 9 k = w))) : grindTo (k + 1) a w g f m = grindTo k a w g f m := by
  unfold grindTo
  by_cases c : f = 10 ∧ m < k ∧ g 8 m = a ∧ (g 9 m = 2 ∨ g 9 m = w)
  · rw [if_pos c, if_pos ⟨c.1, by omega, c.2.2⟩]
  · rw [if_neg c, if_neg]
    rintro ⟨c1, c2, c3, c4⟩
    by_cases e : m = k
    · subst e
      rcases h with h | h | h
      · exact h rfl
      · exact h c1
      · exact h ⟨c3, c4⟩
    · exact c ⟨c1, by omega, c3, c4⟩
theorem grindTo_k {g : Gs} {k : Nat} {a w : Int} (h : g 8 k = a ∧ (g 9 k = 2 ∨ g 9 k = w)) : grindTo (k + 1) a w g 10 k = g 10 k + 1 := by
  unfold grindTo
  rw [if_pos ⟨rfl, by omega, h.1, h.2⟩]
theorem grindTo_ge {g : Gs} {k f m : Nat} {a w : Int} (h : k ≤ m) : grindTo k a w g f m = g f m := by
  unfold grindTo
  rw [if_neg (by omega)]
theorem s_grindAt {h : Mem} {o : Nat} {g : Gs} {B at_ way : Int} {Q : Mem → Prop} (hl : lay o = (0, 7)) (hR : RM h o g) (hW : WF B g) (hB : B ≤ 1000000) (hQ : ∀ u, RM u o (grindTo (gm g) at_ way g) → Fr (o + 4) (o + 5) h u → Q u) : F_X7_grindAt h o at_ way Q := by
  obtain ⟨n4, nc⟩ := gm4 hW
  have key : ∀ (m i : Nat) (x : Int) (u : Mem), x = (i : Int) → i + m = gm g → RM u o (grindTo i at_ way g) → Fr (o + 4) (o + 5) h u → L_X7_grindAt_2 u o at_ way x Q := by
    intro m
    induction m with
    | zero =>
      intro i x u hx hi hr hf
      subst hx
      refine l_X7_grindAt_2 hl ?_
      unfold B_X7_grindAt_2
      rw [hr.1, grindTo_n (by omega)]
      have : i = gm g := by omega
      subst this
      exact ⟨fun _ => hQ u hr hf, fun c => absurd (by omega) c⟩
    | succ m ih =>
      intro i x u hx hi hr hf
      subst hx
      have hi2 : i < gm (grindTo i at_ way g) := by unfold gm; rw [grindTo_n (by omega)]; unfold gm at hi; omega
      obtain ⟨-, e2, e3, e4⟩ := hr.2 i hi2
      rw [grindTo_n (by omega)] at e2 e3
      rw [grindTo_ge (by omega)] at e4
      have ws := hW.1
      have wm := hW.2.2 i (by omega)
      unfold WFm at wm
      unfold WFs at ws
      have ir : InR ((i : Int) + 1) := ⟨by omega, by omega⟩
      have no : ¬ (g 8 i = at_ ∧ (g 9 i = 2 ∨ g 9 i = way)) → L_X7_grindAt_2 u o at_ way ((i : Int) + 1) Q := fun c =>
        ih (i + 1) ((i : Int) + 1) u (by omega) (by omega) (hr.cg (by rw [grindTo_n (by omega), grindTo_n (by omega)]) (fun f m hm hf => grindTo_s (Or.inr (Or.inr c)))) hf
      have yes : (g 8 i = at_ ∧ (g 9 i = 2 ∨ g 9 i = way)) → J_X7_grindAt_40 u o at_ way (i : Int) Q := by
        intro c
        unfold J_X7_grindAt_40
        rw [Int.toNat_natCast, e4]
        refine ⟨⟨by omega, by omega⟩, ⟨by omega, by omega⟩, fun v hv => ⟨ir, ?_⟩⟩
        have r1 := hr.set (k := 10) (t := i) (v := g 10 i + 1) (by omega)
        have hv' : v = mset u (o + (10 - 6)) i (g 10 i + 1) := hv
        rw [← hv'] at r1
        refine ih (i + 1) ((i : Int) + 1) v (by omega) (by omega) (r1.cg (by rw [gset_n (by omega), grindTo_n (by omega), grindTo_n (by omega)]) (fun f m hm hf => ?_)) (by rw [hv']; exact hf.st (by omega) (by omega))
        by_cases z : f = 10 ∧ m = i
        · obtain ⟨rfl, rfl⟩ := z
          rw [gset_e, grindTo_k c]
        · rw [gset_n (by omega), grindTo_s (by omega)]
      refine l_X7_grindAt_2 hl ?_
      unfold B_X7_grindAt_2
      rw [hr.1, grindTo_n (by omega), Int.toNat_natCast, e2, e3]
      exact ⟨fun c => absurd c (by omega), fun c => ⟨⟨by omega, by omega⟩, fun c1 => ⟨ir, no (fun z => c1 z.1)⟩, fun c1 => ⟨fun c2 => yes ⟨c1, Or.inl c2⟩, fun c2 => ⟨fun c3 => ⟨ir, no (fun z => by omega)⟩, fun c3 => yes ⟨c1, Or.inr c3⟩⟩⟩⟩⟩
  exact key (gm g) 0 0 h rfl (by omega) (hR.cg (grindTo_n (by omega)) (fun f m hm hf => grindTo_ge (by omega))) Fr.rf
theorem ly_gt {o : Nat} (h : lay o = (0, 4)) : lay (o + 1) = (0, 9) := ll_4_7 h
theorem ly_gm {o : Nat} (h : lay o = (0, 4)) : lay (o + 10) = (0, 7) := ll_4_8 h
theorem gT_cases {B : Int} {g : Gs} (w : WF B g) : (gT g = -1 ∧ ∀ t, t < gn g → ¬ (g 4 t = 1 ∧ g 3 t ≤ g 6 t)) ∨ ∃ t, t < gn g ∧ gT g = (t : Int) ∧ g 4 t = 1 := by
  unfold gT
  rcases lr_ok w (gn g) (Nat.le_refl _) with ⟨e, h⟩ | ⟨t, h1, e, h2⟩
  · rw [e]; exact Or.inl ⟨rfl, h⟩
  · rw [e]; exact Or.inr ⟨t, h1, rfl, h2.1⟩
theorem s_goalCell {h : Mem} {o : Nat} {g : Gs} {B : Int} {Q : Int → Mem → Prop} (hR : RS h o g) (hW : WF B g) (hQ : Q (goalC g) h) : F_X4_goalCell h o (gT g) Q := by
  have ws := hW.1
  unfold WFs at ws
  obtain ⟨n8, nc⟩ := gn8 hW
  unfold F_X4_goalCell
  unfold goalC at hQ
  rcases gT_cases hW with ⟨e, -⟩ | ⟨t, ht, e, -⟩
  · rw [e] at hQ ⊢
    rw [if_pos rfl] at hQ
    rw [hR.1.1]
    exact ⟨fun c => absurd rfl c, fun _ => ⟨⟨by omega, by omega⟩, hQ⟩⟩
  · rw [e] at hQ ⊢
    rw [if_neg (by omega)] at hQ
    refine ⟨fun c => ⟨⟨by omega, by omega⟩, ?_⟩, fun c => absurd c (by omega)⟩
    rw [Int.toNat_natCast] at hQ ⊢
    rw [(hR.2.1.2 t ht).2.2.2.2.2.1]
    exact hQ
/-- an hour of x's glen -/
theorem s_passHour {h : Mem} {o : Nat} {g : Gs} {B : Int} {Q : Int → Mem → Prop} (hl : lay o = (0, 4)) (hR : RC h o g) (hW : WF B g) (hB : B ≤ 900000) (hQ : ∀ u, RC u o (pass g) → Fr o (o + 15) h u → Q (tn g) u) : F_X4_passHour h o Q := by
  have hW1 := hW.hour
  have hW2 := hW1.move
  have ws := hW.1
  have gc := goalC_in hW
  have ms := move_s hW
  have e5 : hourG g 0 5 = g 0 5 + 1 := sset_e
  have hn : ∀ f t, (f ≠ 0 ∨ t ≠ 5) → hourG g f t = g f t := fun f t q => sset_n q
  have lrh : ∀ k, lr (hourG g) k = lr g k := by
    intro k
    induction k with
    | zero => rfl
    | succ k ih => unfold lr; rw [hn 4 k (by omega), hn 3 k (by omega), hn 6 k (by omega), ih]
  have gnh : gn (hourG g) = gn g := gn_sset (by omega)
  have gmh : gm (hourG g) = gm g := gm_sset (by omega)
  have gTh : gT (hourG g) = gT g := by unfold gT; rw [lrh, gnh]
  have gCh : goalC (hourG g) = goalC g := by
    unfold goalC
    rw [gTh, hn 0 2 (by omega), hn 5 _ (by omega)]
  have wDh : wantD (hourG g) = wantD g := by unfold wantD; rw [gCh, hn 0 6 (by omega)]
  have tnh : tn (hourG g) = tn g := by unfold tn; rw [gCh, wDh, hn 0 6 (by omega), hn 0 7 (by omega)]
  have nCh : nextC (hourG g) = nextC g := by unfold nextC; rw [hn 0 6 (by omega), hn 0 7 (by omega)]
  obtain ⟨⟨⟨r0, r1, r2, r3, r4, r6⟩, rT, rM⟩, r5⟩ := hR
  have hS : RS h o g := ⟨⟨r0, r1, r2, r3, r4, r6⟩, rT, rM⟩
  unfold WFs at ws
  -- behind the stream's part
  have j147 : ∀ (u : Mem) (g2 : Gs), RS u o g2 → u o 5 = g 0 5 → WF (B + 1) g2 → growG g2 = pass g → g2 0 5 = g 0 5 + 1 → Fr o (o + 15) h u → J_X4_passHour_147 u o (tn g) Q := by
    intro u g2 s u5 w2 eg e25 fu
    have ws2 := w2.1
    unfold WFs at ws2
    have iz : InZ (tn g) := by
      unfold tn
      split
      · exact Or.inr rfl
      · exact Or.inl rfl
    have fin : ∀ (sea : Int) (v : Mem), sea = (if g2 0 6 = g2 0 2 - 1 then 1 else 0) → RT v (o + 1) (upTo (gn g2) (growF g2 (g2 0 6) sea) g2) → Fr (o + 1 + 5) (o + 1 + 9) u v → InR (v o 5 + 1) ∧ ∀ z : Mem, z = mset v o 5 (v o 5 + 1) → InZ (tn g) ∧ Q (tn g) z := by
      intro sea v hs rt fv
      have v5 : v o 5 = g 0 5 := by rw [fv o (by omega), u5]
      rw [v5]
      refine ⟨⟨by omega, by omega⟩, fun z hz => ⟨iz, hQ z ?_ ?_⟩⟩
      · rw [← eg]
        have fz : Fr o (o + 1) v z := by rw [hz]; exact Fr.rf.st (by omega) (by omega)
        have hg : growG g2 = upTo (gn g2) (growF g2 (g2 0 6) sea) g2 := by rw [hs]; rfl
        rw [hg]
        refine ⟨⟨?_, rt.fr fz (by omega), ((s.2.2.fr fv (by omega)).fr fz (by omega)).cg upTo0 (fun f m hm hf => upTo_lo (by omega))⟩, ?_⟩
        · rw [upTo0, upTo0, upTo0, upTo0, upTo0, upTo0, hz, mset_k (by omega), mset_k (by omega), mset_k (by omega), mset_k (by omega), mset_k (by omega), mset_k (by omega), fv o (by omega), fv o (by omega), fv o (by omega), fv o (by omega), fv o (by omega), fv o (by omega)]
          exact s.1
        · rw [hz, mset_at, upTo0, e25]
      · rw [hz]
        exact (fu.tr (fv.wd (by omega) (by omega))).st (by omega) (by omega)
    unfold J_X4_passHour_147
    rw [s.1.1, s.1.2.2.2.1]
    refine ⟨⟨by omega, by omega⟩, fun c => ?_, fun c => ?_⟩
    · exact s_growOlder (ly_gt hl) s.2.1 w2 (by omega) (fun v rt fv => fin 0 v (by rw [if_neg c]) rt fv)
    · exact s_growOlder (ly_gt hl) s.2.1 w2 (by omega) (fun v rt fv => fin 1 v (by rw [if_pos c]) rt fv)
  have j119 : ∀ (u : Mem), RS u o (moveG (hourG g)) → u o 5 = g 0 5 → Fr o (o + 15) h u → J_X4_passHour_119 u o (gT g) (tn g) Q := by
    intro u s u5 fu
    have w2 := hW2.1
    have e25 : moveG (hourG g) 0 5 = g 0 5 + 1 := by rw [moveG_n (by omega), e5]
    have ws2 := w2.1
    unfold WFs at ws2
    obtain ⟨n8, nc⟩ := gn8 w2
    unfold J_X4_passHour_119
    refine ⟨fun c => ?_, fun c => ?_⟩
    · -- nothing is remembered: nothing is taken up
      refine j147 u (takeG (moveG (hourG g))) ?_ u5 w2.take rfl (by rw [← e25]; exact upTo0) fu
      have nt : ∀ t, t < gn (moveG (hourG g)) → ¬ (moveG (hourG g) 4 t = 1 ∧ moveG (hourG g) 3 t ≤ moveG (hourG g) 6 t) := by
        intro t ht
        rw [gn_move, gnh] at ht
        rw [moveG_n (f := 4) (by omega), moveG_n (f := 3) (by omega), moveG_n (f := 6) (by omega), hn 4 t (by omega), hn 3 t (by omega), hn 6 t (by omega)]
        rcases gT_cases hW with ⟨-, q⟩ | ⟨t', -, q, -⟩
        · exact q t ht
        · rw [q] at c; exact absurd c (by omega)
      refine ⟨?_, s.2.1.cg upTo0 (fun f t ht hf => ?_), s.2.2.cg upTo0 (fun f m hm hf => upTo_lo (by omega))⟩
      · unfold takeG
        rw [upTo0, upTo0, upTo0, upTo0, upTo0, upTo0]
        exact s.1
      · unfold takeG upTo
        split
        · unfold takeF
          rw [if_neg (fun z => nt t ht ⟨z.1, z.2.2.1⟩)]
        · rfl
    · refine s_cw (ly_gt hl) s.2.1 w2 ?_
      have cwi := cw_in w2 (gn (moveG (hourG g))) (Nat.le_refl _)
      rw [s.1.2.1, s.1.2.2.2.1]
      refine ⟨⟨by omega, by omega⟩, s_takeUp (ly_gt hl) s.2.1 w2 ⟨by omega, by omega⟩ (fun v rt fv => ?_)⟩
      refine j147 v (takeG (moveG (hourG g))) ⟨?_, rt, (s.2.2.fr fv (by omega)).cg upTo0 (fun f m hm hf => upTo_lo (by omega))⟩ (by rw [fv o (by omega), u5]) w2.take rfl (by rw [← e25]; exact upTo0) (fu.tr (fv.wd (by omega) (by omega)))
      unfold takeG
      rw [upTo0, upTo0, upTo0, upTo0, upTo0, upTo0, fv o (by omega), fv o (by omega), fv o (by omega), fv o (by omega), fv o (by omega), fv o (by omega)]
      exact s.1
  have things : ∀ (u : Mem) (lo hi : Nat), Fr lo hi h u → (o + 10 ≤ lo ∨ hi ≤ o + 1) → RT u (o + 1) (moveG (hourG g)) := fun u lo hi f q =>
    (rT.fr f (by omega)).cg2 (by rw [moveG_n (by omega), hn 0 0 (by omega)]) (fun f t ht hf h7 => by rw [moveG_n (by omega), hn f t (by omega)])
  have turn : ∀ (w : Int), tn g = 1 → wantD g = w → ∀ u1 : Mem, u1 = mset h o 4 w → InR (u1 o 6 + 1) ∧ ∀ u2 : Mem, u2 = mset u1 o 6 (u1 o 6 + 1) → J_X4_passHour_119 u2 o (gT g) 1 Q := by
    intro w ht hw u1 hu1
    have a6 : u1 o 6 = g 0 8 := by rw [hu1, mset_k (by omega), r6]
    rw [a6]
    refine ⟨⟨by omega, by omega⟩, fun u2 hu2 => ?_⟩
    have f2 : Fr o (o + 1) h u2 := by rw [hu2, hu1]; exact (Fr.rf.st (by omega) (by omega)).st (by omega) (by omega)
    rw [← ht]
    have mv : moveG (hourG g) = sset (sset (hourG g) 7 w) 8 (g 0 8 + 1) := by
      unfold moveG
      rw [tnh, if_pos ht, wDh, hw, hn 0 8 (by omega)]
    refine j119 u2 ⟨?_, things u2 o (o + 1) f2 (by omega), (rM.fr f2 (by omega)).cg (by rw [moveG_n (by omega), hn 0 1 (by omega)]) (fun f m hm hf => by rw [mv, sset_n (by omega), sset_n (by omega), hn f m (by omega)])⟩ ?_ (f2.wd (by omega) (by omega))
    · rw [mv, hu2, hu1]
      refine ⟨?_, ?_, ?_, ?_, ?_, ?_⟩
      · rw [mset_k (by omega), mset_k (by omega), sset_n (by omega), sset_n (by omega), hn 0 2 (by omega), r0]
      · rw [mset_k (by omega), mset_k (by omega), sset_n (by omega), sset_n (by omega), hn 0 3 (by omega), r1]
      · rw [mset_k (by omega), mset_k (by omega), sset_n (by omega), sset_n (by omega), hn 0 4 (by omega), r2]
      · rw [mset_k (by omega), mset_k (by omega), sset_n (by omega), sset_n (by omega), hn 0 6 (by omega), r3]
      · rw [mset_k (by omega), mset_at, sset_n (by omega), sset_e]
      · rw [mset_at, sset_e]
    · rw [hu2, hu1, mset_k (by omega), mset_k (by omega), r5]
  have j48 : ∀ w : Int, tn g = 0 → J_X4_passHour_48 h o (gT g) (goalC g) w Q := by
    intro w ht
    unfold J_X4_passHour_48
    rw [r3, r4]
    have nt : ¬ tn (hourG g) = 1 := by rw [tnh, ht]; omega
    have go : ∀ (a : Int) (u0 : Mem), goalC g ≠ g 0 6 → a = nextC g → u0 = mset h o 3 a → F_X7_grindAt u0 (o + 10) (u0 o 3) (u0 o 4) (fun v => J_X4_passHour_119 v o (gT g) 0 Q) := by
      intro a u0 hc ha hu0
      have f0 : Fr o (o + 1) h u0 := by rw [hu0]; exact Fr.rf.st (by omega) (by omega)
      have a3 : u0 o 3 = a := by rw [hu0, mset_at]
      have a4 : u0 o 4 = g 0 7 := by rw [hu0, mset_k (by omega), r4]
      rw [a3, a4]
      have mv : moveG (hourG g) = grindTo (gm (sset (hourG g) 6 a)) a (g 0 7) (sset (hourG g) 6 a) := by
        unfold moveG
        rw [if_neg nt, gCh, hn 0 6 (by omega), if_pos hc, nCh, ← ha, hn 0 7 (by omega), gm_sset (by omega)]
      have wv : WF (B + 1) (sset (hourG g) 6 a) := by
        have w2 := hW2.1
        have e6 : moveG (hourG g) 0 6 = a := by rw [mv, grindTo_n (by omega), sset_e]
        have e7 : 0 ≤ a ∧ a < g 0 2 := by
          have := move_s hW1.1
          rw [e6, hn 0 2 (by omega)] at this
          exact ⟨this.1, this.2.1⟩
        obtain ⟨w3, w4, w5⟩ := hW1.1
        unfold WFs at w3
        refine ⟨?_, fun t ht => ?_, fun m hm => ?_⟩
        · unfold WFs
          rw [sset_n (t := 0) (by omega), sset_n (t := 1) (by omega), sset_n (t := 2) (by omega), sset_n (t := 3) (by omega), sset_n (t := 4) (by omega), sset_n (t := 5) (by omega), sset_n (t := 7) (by omega), sset_n (t := 8) (by omega), sset_e]
          rw [hn 0 2 (by omega)] at w3 ⊢
          omega
        · rw [gn_sset (by omega)] at ht
          have := w4 t ht
          unfold WFt at this ⊢
          rw [sset_n (f := 1) (by omega), sset_n (f := 2) (by omega), sset_n (f := 3) (by omega), sset_n (f := 4) (by omega), sset_n (f := 5) (by omega), sset_n (f := 6) (by omega), sset_n (f := 7) (by omega), sset_n (t := 2) (by omega), sset_n (t := 5) (by omega)]
          exact this
        · rw [gm_sset (by omega)] at hm
          have := w5 m hm
          unfold WFm at this ⊢
          rw [sset_n (f := 8) (by omega), sset_n (f := 9) (by omega), sset_n (f := 10) (by omega), sset_n (t := 2) (by omega), sset_n (t := 5) (by omega)]
          exact this
      refine s_grindAt (ly_gm hl) (((rM.fr f0 (by omega)) : RM u0 (o + 10) g).cg (by rw [sset_n (by omega), hn 0 1 (by omega)]) (fun f m hm hf => by rw [sset_n (by omega), hn f m (by omega)])) wv (by omega) (fun v rv fv => ?_)
      rw [← ht]
      have fh : Fr o (o + 1 + 0) h u0 := f0
      refine j119 v ⟨?_, (things u0 o (o + 1) f0 (by omega)).fr fv (by omega), by rw [mv]; exact rv⟩ ?_ ((f0.wd (by omega) (by omega)).tr (fv.wd (by omega) (by omega)))
      · rw [fv o (by omega), fv o (by omega), fv o (by omega), fv o (by omega), fv o (by omega), fv o (by omega), a3, a4]
        rw [mv, grindTo_n (by omega), grindTo_n (by omega), grindTo_n (by omega), grindTo_n (by omega), grindTo_n (by omega), grindTo_n (by omega), sset_e, sset_n (t := 2) (by omega), sset_n (t := 3) (by omega), sset_n (t := 4) (by omega), sset_n (t := 7) (by omega), sset_n (t := 8) (by omega), hn 0 2 (by omega), hn 0 3 (by omega), hn 0 4 (by omega), hn 0 7 (by omega), hn 0 8 (by omega), hu0, mset_k (by omega), mset_k (by omega), mset_k (by omega), mset_k (by omega)]
        exact ⟨r0, r1, r2, rfl, rfl, r6⟩
      · rw [fv o (by omega), hu0, mset_k (by omega), r5]
    refine ⟨fun c => ?_, fun c => ⟨fun c2 => ⟨⟨by omega, by omega⟩, fun u0 hu0 => ?_⟩, fun c2 => ⟨⟨by omega, by omega⟩, fun u0 hu0 => ?_⟩⟩⟩
    · rw [← ht]
      have mv : moveG (hourG g) = hourG g := by
        unfold moveG
        rw [if_neg nt, gCh, hn 0 6 (by omega), if_neg (fun z => z c)]
      refine j119 h ⟨?_, things h 0 0 Fr.rf (by omega), rM.cg (by rw [mv, hn 0 1 (by omega)]) (fun f m hm hf => by rw [mv, hn f m (by omega)])⟩ r5 Fr.rf
      rw [mv, hn 0 2 (by omega), hn 0 3 (by omega), hn 0 4 (by omega), hn 0 6 (by omega), hn 0 7 (by omega), hn 0 8 (by omega)]
      exact ⟨r0, r1, r2, r3, r4, r6⟩
    · exact go _ u0 c (by unfold nextC; rw [if_neg c2]) hu0
    · exact go _ u0 c (by unfold nextC; rw [if_pos c2]) hu0
  unfold F_X4_passHour
  refine s_lr (ly_gt hl) rT hW (s_goalCell hS hW ?_)
  rw [r3, r4]
  have tn0 : goalC g = g 0 6 ∨ g 0 7 = wantD g → tn g = 0 := by
    intro z
    unfold tn
    rw [if_neg (by rintro ⟨a, b⟩; rcases z with z | z; exact a z; exact b z)]
  have tn1 : goalC g ≠ g 0 6 → g 0 7 ≠ wantD g → tn g = 1 := fun a b => by unfold tn; rw [if_pos ⟨a, b⟩]
  refine ⟨fun c => ?_, fun c => ?_⟩
  · have wd : wantD g = 0 := by unfold wantD; rw [if_neg (by omega)]
    exact ⟨fun c2 => j48 0 (tn0 (Or.inl c2)), fun c2 => ⟨fun c3 => j48 0 (tn0 (Or.inr (by rw [wd, c3]))), fun c3 => turn 0 (tn1 c2 (by rw [wd]; exact c3)) wd⟩⟩
  · have wd : wantD g = 1 := by unfold wantD; rw [if_pos (by omega)]
    exact ⟨fun c2 => j48 1 (tn0 (Or.inl c2)), fun c2 => ⟨fun c3 => j48 1 (tn0 (Or.inr (by rw [wd, c3]))), fun c3 => turn 1 (tn1 c2 (by rw [wd]; exact c3)) wd⟩⟩
