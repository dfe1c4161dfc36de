/-! the reference's hour -/
/-- one thing lasts an hour, away from the sea (or not carried) -/
theorem q_last {h : Mem} {g : Gs} {V : Nat → Prop} {i : Nat} {x : Int} {Q : Mem → Prop} (hx : x = (i : Int)) (hn : i < 8) (hi : i < gn g) (hR : RXp h g V) (hg : 0 ≤ g 6 i ∧ g 6 i ≤ 99)
    (h1 : g 4 i = 1 → ∀ u, RXp u (gset g 6 i (if 99 ≤ g 6 i then g 6 i else g 6 i + 1)) V → FM h u → Q u)
    (h2 : g 4 i = 2 → g 6 i + 1 < g 2 i → ∀ u, RXp u (gset g 6 i (g 6 i + 1)) V → FM h u → Q u)
    (h3 : g 4 i = 2 → ¬ g 6 i + 1 < g 2 i → ∀ u, RXp u (gset (gset (gset (gset g 6 i (g 6 i + 1)) 4 i 1) 5 i (g 0 6)) 6 i 0) (fun t => V t ∨ t = i) → FM h u → Q u)
    (h4 : g 4 i ≠ 1 → g 4 i ≠ 2 → Q h) : F_X12_lasts h x Q := by
  have e3 := hR.2.1 i 3 hi (by omega) (fun q => absurd q (by omega))
  have e5 := hR.2.1 i 5 hi (by omega) (fun q => absurd q (by omega))
  have e1 := hR.2.1 i 1 hi (by omega) (fun q => absurd q (by omega))
  have e3 : h 162 (12 + 7 * i + 3) = g 4 i := e3
  have e5 : h 162 (12 + 7 * i + 5) = g 6 i := e5
  have e1 : h 162 (12 + 7 * i + 1) = g 2 i := e1
  have n3 : (12 + 7 * (i : Int) + 3).toNat = 12 + 7 * i + 3 := by omega
  have n5 : (12 + 7 * (i : Int) + 5).toNat = 12 + 7 * i + 5 := by omega
  have n1 : (12 + 7 * (i : Int) + 1).toNat = 12 + 7 * i + 1 := by omega
  have n4 : (12 + 7 * (i : Int) + 4).toNat = 12 + 7 * i + 4 := by omega
  unfold F_X12_lasts
  refine q_thingRow hx hn ?_
  rw [n3, n5, n1, n4, e3, e5]
  refine ⟨⟨by omega, by omega⟩, ⟨by omega, by omega⟩, fun c1 => ⟨fun c2 => h4 c1 c2, fun c2 => ⟨⟨by omega, by omega⟩, ⟨by omega, by omega⟩, ⟨by omega, by omega⟩, fun v1 hv1 => ⟨⟨by omega, by omega⟩, ⟨by omega, by omega⟩, ?_⟩⟩⟩, fun c1 => ⟨⟨by omega, by omega⟩, ⟨by omega, by omega⟩, ⟨by omega, by omega⟩, fun v1 hv1 => ?_⟩⟩
  · have r1 := hR.set (V' := V) (t := i) (k := 5) (v := g 6 i + 1) (by omega) (by omega) (fun _ q => Or.inl q)
    rw [← hv1] at r1
    have a5 : v1 162 (12 + 7 * i + 5) = g 6 i + 1 := by rw [hv1, mset_at]
    have a1 : v1 162 (12 + 7 * i + 1) = g 2 i := by rw [hv1, mset_k (by omega), e1]
    rw [a5, a1]
    refine ⟨fun c3 v2 hv2 => ⟨⟨by omega, by omega⟩, ⟨by omega, by omega⟩, fun v3 hv3 v4 hv4 => ?_⟩, fun c3 => h2 c2 (by omega) v1 r1 (by rw [hv1]; exact FM.rf.st (by omega))⟩
    have a6 : v2 162 6 = g 0 6 := by rw [hv2, mset_k (by omega), hv1, mset_k (by omega)]; exact hR.1 6 (by omega) (by omega)
    rw [a6] at hv3
    have r2 := r1.set (V' := V) (t := i) (k := 3) (v := 1) (by omega) (by omega) (fun _ q => Or.inl q)
    rw [← hv2] at r2
    have r3 := r2.set (V' := fun t => V t ∨ t = i) (t := i) (k := 4) (v := g 0 6) (by omega) (by omega) (fun t q => by rcases q with q | q; exact Or.inl q; exact Or.inr ⟨q, rfl⟩)
    rw [← hv3] at r3
    have r4 := r3.set (V' := fun t => V t ∨ t = i) (t := i) (k := 5) (v := 0) (by omega) (by omega) (fun _ q => Or.inl q)
    rw [← hv4] at r4
    refine h3 c2 (by omega) v4 r4 ?_
    rw [hv4, hv3, hv2, hv1]
    exact (((FM.rf.st (by omega)).st (by omega)).st (by omega)).st (by omega)
  · have r1 := hR.set (V' := V) (t := i) (k := 5) (v := imin 99 (g 6 i + 1)) (by omega) (by omega) (fun _ q => Or.inl q)
    rw [← hv1] at r1
    refine h1 c1 v1 ?_ (by rw [hv1]; exact FM.rf.st (by omega))
    have e : imin 99 (g 6 i + 1) = if 99 ≤ g 6 i then g 6 i else g 6 i + 1 := by
      unfold imin
      by_cases c : g 6 i + 1 < 99
      · rw [if_pos c, if_neg (by omega)]
      · by_cases c2 : 99 ≤ g 6 i
        · rw [if_neg c, if_pos c2]; omega
        · rw [if_neg c, if_neg c2]; omega
    rw [← e]
    exact r1
theorem q_sea2 {h : Mem} {g : Gs} {V : Nat → Prop} {Q : Int → Mem → Prop} (hR : RXp h g V) (hW : 2 ≤ g 0 2 ∧ g 0 2 ≤ 16) (hQ : Q (g 0 2 - 1) h) : F_X12_sea h Q := by
  unfold F_X12_sea
  rw [hR.1 2 (by omega) (by omega)]
  exact ⟨⟨by omega, by omega⟩, hQ⟩
theorem q_comesHome {h : Mem} {g : Gs} {B : Int} {V : Nat → Prop} {i : Nat} {x : Int} {Q : Mem → Prop} (hx : x = (i : Int)) (hn : i < 8) (hi : i < gn g) (hR : RXp h g V) (hg : 0 ≤ g 7 i ∧ g 7 i ≤ 1000000)
    (hQ : ∀ u, RXp u (gset (gset (gset g 4 i 3) 6 i 0) 7 i (g 7 i + 1)) V → FM h u → Q u) : F_X12_comesHome h x Q := by
  have e6 : h 162 (12 + 7 * i + 6) = g 7 i := hR.2.1 i 6 hi (by omega) (fun q => absurd q (by omega))
  have n3 : (12 + 7 * (i : Int) + 3).toNat = 12 + 7 * i + 3 := by omega
  have n5 : (12 + 7 * (i : Int) + 5).toNat = 12 + 7 * i + 5 := by omega
  have n6 : (12 + 7 * (i : Int) + 6).toNat = 12 + 7 * i + 6 := by omega
  unfold F_X12_comesHome
  refine q_thingRow hx hn ⟨⟨by omega, by omega⟩, ⟨by omega, by omega⟩, fun v1 hv1 => q_thingRow hx hn ⟨⟨by omega, by omega⟩, ⟨by omega, by omega⟩, fun v2 hv2 => q_thingRow hx hn ⟨⟨by omega, by omega⟩, ⟨by omega, by omega⟩, ?_⟩⟩⟩
  rw [n3] at hv1
  rw [n5] at hv2
  rw [n6]
  have a6 : v2 162 (12 + 7 * i + 6) = g 7 i := by rw [hv2, mset_k (by omega), hv1, mset_k (by omega), e6]
  rw [a6]
  refine ⟨⟨by omega, by omega⟩, fun v3 hv3 => ?_⟩
  have r1 := hR.set (V' := V) (t := i) (k := 3) (v := 3) (by omega) (by omega) (fun _ q => Or.inl q)
  rw [← hv1] at r1
  have r2 := r1.set (V' := V) (t := i) (k := 5) (v := 0) (by omega) (by omega) (fun _ q => Or.inl q)
  rw [← hv2] at r2
  have r3 := r2.set (V' := V) (t := i) (k := 6) (v := g 7 i + 1) (by omega) (by omega) (fun _ q => Or.inl q)
  rw [← hv3] at r3
  refine hQ v3 r3 ?_
  rw [hv3, hv2, hv1]
  exact ((FM.rf.st (by omega)).st (by omega)).st (by omega)
theorem gm_pass {g : Gs} : gm (pass g) = gm g := by
  unfold pass growG takeG hourG
  rw [gm_upTo, gm_upTo, gm_move, gm_sset (by omega)]
theorem hour_n {g : Gs} {f t : Nat} (h : f ≠ 0 ∨ t ≠ 5) : hourG g f t = g f t := sset_n h
theorem tn_hour {g : Gs} : tn (hourG g) = tn g := by
  have lrh : ∀ k, lr (hourG g) k = lr g k := by
    intro k
    induction k with
    | zero => rfl
    | succ k ih => unfold lr; rw [hour_n (by omega), hour_n (by omega), hour_n (by omega), ih]
  have gnh : gn (hourG g) = gn g := gn_sset (by omega)
  have gTh : gT (hourG g) = gT g := by unfold gT; rw [lrh, gnh]
  have gCh : goalC (hourG g) = goalC g := by unfold goalC; rw [gTh, hour_n (by omega), hour_n (by omega)]
  have wDh : wantD (hourG g) = wantD g := by unfold wantD; rw [gCh, hour_n (by omega)]
  unfold tn
  rw [gCh, wDh, hour_n (by omega), hour_n (by omega)]
theorem move_8 {g : Gs} : moveG g 0 8 = if tn g = 1 then g 0 8 + 1 else g 0 8 := by
  unfold moveG
  by_cases c : tn g = 1
  · rw [if_pos c, if_pos c, sset_e]
  · rw [if_neg c, if_neg c]
    split
    · rw [grindTo_n (by omega), sset_n (by omega)]
    · rfl
/-- an hour of the reference's glen -/
theorem q_hour {h : Mem} {g : Gs} {B : Int} {Q : Int → Mem → Prop} (hR : RXh h g) (hW : WF B g) (hB : B ≤ 800000) (hQ : ∀ u, RXh u (pass g) → FMh h u → Q (tn g) u) : F_X12_hourGoes h Q := by
  have w1 := hW.hour
  obtain ⟨w2, h7⟩ := w1.move
  have w3 := w2.take
  have h73 : ∀ t, t < gn (takeG (moveG (hourG g))) → takeG (moveG (hourG g)) 7 t + 1 ≤ takeG (moveG (hourG g)) 0 5 := by
    intro t ht
    rw [take_7]
    have e : takeG (moveG (hourG g)) 0 5 = moveG (hourG g) 0 5 := upTo0
    rw [e]
    exact h7 t (by unfold takeG at ht; rw [gn_upTo] at ht; exact ht)
  have e8 : h 162 8 = g 0 8 := hR.1.1 8 (by omega) (by omega)
  have r0 : RX h (hourG g) := hR.1.cg (fun i _ h5 => hour_n (by omega)) (fun f t _ _ _ _ => hour_n (by omega)) (fun f m _ _ _ => hour_n (by omega)) (fun t _ q => by rw [hour_n (by omega)] at q; exact q)
  unfold F_X12_hourGoes
  refine q_goes r0 w1.1 (by omega) (fun u1 r1 f1 => q_takesUp r1 w2 (fun u2 r2 f2 => ?_))
  rw [e8]
  have e5p : takeG (moveG (hourG g)) 0 5 = g 0 5 + 1 := by
    have a : takeG (moveG (hourG g)) 0 5 = moveG (hourG g) 0 5 := upTo0
    have b : hourG g 0 5 = g 0 5 + 1 := sset_e
    rw [a, moveG_n (by omega), b]
  have e8p : takeG (moveG (hourG g)) 0 8 = if tn g = 1 then g 0 8 + 1 else g 0 8 := by
    have a : takeG (moveG (hourG g)) 0 8 = moveG (hourG g) 0 8 := upTo0
    rw [a, move_8, tn_hour, hour_n (by omega)]
  have pe : pass g = growG (takeG (moveG (hourG g))) := rfl
  generalize hg2 : takeG (moveG (hourG g)) = g2 at w3 h73 r2 e5p e8p pe
  obtain ⟨n8, nc⟩ := gn8 w3
  have ws := w3.1
  unfold WFs at ws
  have key : ∀ (m i : Nat) (x : Int) (u : Mem), x = (i : Int) → i + m = gn g2 → RX u (upTo i (growF g2 (g2 0 6) (if g2 0 6 = g2 0 2 - 1 then 1 else 0)) g2) → FM h u → L_X12_hourGoes_18 u (g 0 8) x Q := by
    intro m
    induction m with
    | zero =>
      intro i x u hx hi hr hf
      subst hx
      have : i = gn g2 := by omega
      subst this
      have u5 : u 162 5 = g 0 5 := by rw [hf 162 5 (by omega)]; exact hR.2
      have u8 : u 162 8 = g2 0 8 := by rw [hr.1 8 (by omega) (by omega), upTo0]
      have fin : ∀ v, v = mset u 162 5 (g 0 5 + 1) → RXh v (pass g) ∧ FMh h v := by
        intro v hv
        refine ⟨⟨?_, by rw [hv, mset_at, pe]; unfold growG; rw [upTo0, e5p]⟩, fun i k q => ?_⟩
        · rw [pe]
          refine ⟨fun j hj h5 => by rw [hv, mset_k (by omega)]; exact hr.1 j hj h5, fun t k ht hk hv2 => ?_, fun m k hm hk => by rw [hv, mset_k (by omega)]; exact hr.2.2 m k hm hk⟩
          rw [hv, mset_k (by omega)]
          exact hr.2.1 t k ht hk hv2
        · rw [hv]
          have : mset u 162 5 (g 0 5 + 1) i k = u i k := by unfold mset; rw [if_neg (by omega)]
          rw [this]
          exact hf i k (by omega)
      refine l_X12_hourGoes_18 ?_
      unfold B_X12_hourGoes_18
      rw [hr.1 0 (by omega) (by omega), upTo0, u5]
      refine ⟨fun _ => ⟨⟨by omega, by omega⟩, fun v hv => ?_⟩, fun c => absurd (by omega) c⟩
      obtain ⟨a, b⟩ := fin v hv
      have v8 : v 162 8 = g2 0 8 := by rw [hv, mset_k (by omega), u8]
      rw [v8, e8p]
      have q := hQ v a b
      unfold tn at q ⊢
      refine ⟨fun c => ?_, fun c => ?_⟩
      · by_cases z : goalC g ≠ g 0 6 ∧ g 0 7 ≠ wantD g
        · rw [if_pos z, if_pos rfl] at c; omega
        · rw [if_neg z] at q; exact q
      · by_cases z : goalC g ≠ g 0 6 ∧ g 0 7 ≠ wantD g
        · rw [if_pos z] at q; exact q
        · rw [if_neg z, if_neg (by omega)] at c; omega
    | succ m ih =>
      intro i x u hx hi hr hf
      subst hx
      have ir : InR ((i : Int) + 1) := ⟨by omega, by omega⟩
      have wt := w3.2.1 i (by omega)
      have h7i := h73 i (by omega)
      unfold WFt at wt
      generalize hsea : (if g2 0 6 = g2 0 2 - 1 then (1 : Int) else 0) = sea at hr ih
      have hi2 : i < gn (upTo i (growF g2 (g2 0 6) sea) g2) := by rw [gn_upTo]; omega
      have s1 : upTo i (growF g2 (g2 0 6) sea) g2 1 i = g2 1 i := upTo_ge (by omega)
      have s2 : upTo i (growF g2 (g2 0 6) sea) g2 2 i = g2 2 i := upTo_ge (by omega)
      have s4 : upTo i (growF g2 (g2 0 6) sea) g2 4 i = g2 4 i := upTo_ge (by omega)
      have s6 : upTo i (growF g2 (g2 0 6) sea) g2 6 i = g2 6 i := upTo_ge (by omega)
      have s7 : upTo i (growF g2 (g2 0 6) sea) g2 7 i = g2 7 i := upTo_ge (by omega)
      have s0 : upTo i (growF g2 (g2 0 6) sea) g2 0 6 = g2 0 6 := upTo0
      -- one more thing is done
      have step : ∀ (v : Mem) (g' : Gs) (V' : Nat → Prop), RXp v g' V' → (∀ j, g' 0 j = g2 0 j) → (∀ f t, 8 ≤ f → g' f t = g2 f t) → (∀ f t, t ≠ i → 1 ≤ f → g' f t = upTo i (growF g2 (g2 0 6) sea) g2 f t) → (∀ f, 1 ≤ f → f ≤ 7 → (f = 5 → growF g2 (g2 0 6) sea 4 i = 1) → (if f ≤ 3 then g2 f i else growF g2 (g2 0 6) sea f i) = g' f i) → (∀ t, t ≠ i → upTo i (growF g2 (g2 0 6) sea) g2 4 t = 1 → V' t) → (growF g2 (g2 0 6) sea 4 i = 1 → V' i) → FM h v → L_X12_hourGoes_18 v (g 0 8) ((i : Int) + 1) Q := by
        intro v g' V' r e0 e8 et ei hV hVi fv
        refine ih (i + 1) ((i : Int) + 1) v (by omega) (by omega) (r.cg (fun j _ _ => by rw [upTo0, e0]) (fun f t _ hf1 hf7 h5 => ?_) (fun f m _ h8 _ => by rw [upTo_lo (by omega), e8 f m h8]) (fun t _ q => ?_)) fv
        · by_cases z : t = i
          · subst z
            by_cases z3 : f ≤ 3
            · rw [upTo_lo (by omega), ← ei f hf1 hf7 (fun q => by omega), if_pos z3]
            · rw [upTo_k (by omega) (by omega), ← ei f hf1 hf7 (fun q => by have := h5 q; rw [upTo_k (by omega) (by omega)] at this; exact this), if_neg z3]
          · rw [upTo_s (Or.inl z), et f t z hf1]
        · by_cases z : t = i
          · subst z
            rw [upTo_k (by omega) (by omega)] at q
            exact hVi q
          · rw [upTo_s (Or.inl z)] at q
            exact hV t z q
      have lst : (g2 4 i = 2 → sea = 0) → F_X12_lasts u (i : Int) (fun v => InR ((i : Int) + 1) ∧ L_X12_hourGoes_18 v (g 0 8) ((i : Int) + 1) Q) := by
        intro hs
        refine q_last (i := i) rfl (by omega) hi2 hr (by rw [s6]; omega) ?_ ?_ ?_ ?_
        · intro c v rv fv
          rw [s4] at c
          rw [s6] at rv
          refine ⟨ir, step v _ _ rv (fun j => by rw [gset_n (by omega), upTo0]) (fun f t h8 => by rw [gset_n (by omega), upTo_lo (by omega)]) (fun f t ht _ => gset_n (by omega)) (fun f h1 h7 _ => ?_) (fun t _ q => q) (fun _ => by show upTo i _ g2 4 i = 1; rw [s4]; exact c) (hf.tr fv)⟩
          by_cases z3 : f ≤ 3
          · rw [if_pos z3, gset_n (by omega), upTo_ge (by omega)]
          · rw [if_neg z3]
            unfold growF
            rw [if_pos c]
            by_cases f6 : f = 6
            · subst f6; rw [if_pos rfl, gset_e]
            · rw [if_neg f6, gset_n (by omega), upTo_ge (by omega)]
        · intro c c2 v rv fv
          rw [s4] at c
          rw [s6, s2] at c2
          rw [s6] at rv
          have sz := hs c
          refine ⟨ir, step v _ _ rv (fun j => by rw [gset_n (by omega), upTo0]) (fun f t h8 => by rw [gset_n (by omega), upTo_lo (by omega)]) (fun f t ht _ => gset_n (by omega)) (fun f h1 h7 h5 => ?_) (fun t _ q => q) (fun q => ?_) (hf.tr fv)⟩
          · by_cases z3 : f ≤ 3
            · rw [if_pos z3, gset_n (by omega), upTo_ge (by omega)]
            · rw [if_neg z3]
              unfold growF
              rw [if_neg (by omega), if_pos c, if_neg (by omega), if_pos c2]
              by_cases f6 : f = 6
              · subst f6; rw [if_pos rfl, gset_e]
              · rw [if_neg f6, gset_n (by omega), upTo_ge (by omega)]
          · unfold growF at q
            rw [if_neg (by omega), if_pos c, if_neg (by omega), if_pos c2, if_neg (by omega)] at q
            omega
        · intro c c2 v rv fv
          rw [s4] at c
          rw [s6, s2] at c2
          rw [s0] at rv
          have sz := hs c
          refine ⟨ir, step v _ _ rv (fun j => by rw [gset_n (by omega), gset_n (by omega), gset_n (by omega), gset_n (by omega), upTo0]) (fun f t h8 => by rw [gset_n (by omega), gset_n (by omega), gset_n (by omega), gset_n (by omega), upTo_lo (by omega)]) (fun f t ht _ => by rw [gset_n (by omega), gset_n (by omega), gset_n (by omega), gset_n (by omega)]) (fun f h1 h7 _ => ?_) (fun t _ q => Or.inl q) (fun _ => Or.inr rfl) (hf.tr fv)⟩
          by_cases z3 : f ≤ 3
          · rw [if_pos z3, gset_n (by omega), gset_n (by omega), gset_n (by omega), gset_n (by omega), upTo_ge (by omega)]
          · rw [if_neg z3]
            unfold growF
            rw [if_neg (by omega), if_pos c, if_neg (by omega), if_neg c2]
            by_cases f6 : f = 6
            · subst f6; rw [if_neg (by omega), if_neg (by omega), if_pos rfl, gset_e]
            · by_cases f5 : f = 5
              · subst f5; rw [if_neg (by omega), if_pos rfl, gset_n (by omega), gset_e]
              · by_cases f4 : f = 4
                · subst f4; rw [if_pos rfl, gset_n (by omega), gset_n (by omega), gset_e]
                · rw [if_neg f4, if_neg f5, if_neg f6, gset_n (by omega), gset_n (by omega), gset_n (by omega), gset_n (by omega), upTo_ge (by omega)]
        · intro c1 c2
          rw [s4] at c1 c2
          refine ⟨ir, step u _ _ hr (fun j => upTo0) (fun f t h8 => upTo_lo (by omega)) (fun f t _ _ => rfl) (fun f h1 h7 _ => ?_) (fun t _ q => q) (fun q => ?_) hf⟩
          · by_cases z3 : f ≤ 3
            · rw [if_pos z3, upTo_ge (by omega)]
            · rw [if_neg z3]
              unfold growF
              rw [if_neg c1, if_neg c2, upTo_ge (by omega)]
          · unfold growF at q
            rw [if_neg c1, if_neg c2] at q
            exact absurd q c1
      refine l_X12_hourGoes_18 ?_
      unfold B_X12_hourGoes_18
      rw [hr.1 0 (by omega) (by omega), upTo0]
      refine ⟨fun c => absurd c (by omega), fun c => q_sea2 hr (by rw [upTo0]; omega) ?_⟩
      rw [hr.1 6 (by omega) (by omega), upTo0, upTo0]
      refine ⟨fun c1 => lst (fun _ => by rw [← hsea, if_neg c1]), fun c1 => q_thingOf (k := 3) rfl rfl (by omega) (by omega) ?_⟩
      rw [hr.2.1 i 3 hi2 (by omega) (fun q => absurd q (by omega))]
      have s4' : upTo i (growF g2 (g2 0 6) sea) g2 (3 + 1) i = g2 4 i := s4
      rw [s4']
      refine ⟨fun c2 => lst (fun z => absurd z c2), fun c2 => ?_⟩
      have se : sea = 1 := by rw [← hsea, if_pos c1]
      refine q_comesHome (i := i) (B := B) rfl (by omega) hi2 hr (by rw [s7]; omega) (fun v rv fv => ?_)
      rw [s7] at rv
      have hi3 : i < gn (gset (gset (gset (upTo i (growF g2 (g2 0 6) sea) g2) 4 i 3) 6 i 0) 7 i (g2 7 i + 1)) := by
        rw [gn_gset (by omega), gn_gset (by omega), gn_gset (by omega)]; exact hi2
      have t4 : gset (gset (gset (upTo i (growF g2 (g2 0 6) sea) g2) 4 i 3) 6 i 0) 7 i (g2 7 i + 1) 4 i = 3 := by
        rw [gset_n (by omega), gset_n (by omega), gset_e]
      have t6 : gset (gset (gset (upTo i (growF g2 (g2 0 6) sea) g2) 4 i 3) 6 i 0) 7 i (g2 7 i + 1) 6 i = 0 := by
        rw [gset_n (by omega), gset_e]
      refine q_last (i := i) rfl (by omega) hi3 rv (by rw [t6]; omega) (fun z => by rw [t4] at z; omega) (fun z => by rw [t4] at z; omega) (fun z => by rw [t4] at z; omega) (fun _ _ => ⟨ir, ?_⟩)
      refine step v _ _ rv (fun j => by rw [gset_n (by omega), gset_n (by omega), gset_n (by omega), upTo0]) (fun f t h8 => by rw [gset_n (by omega), gset_n (by omega), gset_n (by omega), upTo_lo (by omega)]) (fun f t ht _ => by rw [gset_n (by omega), gset_n (by omega), gset_n (by omega)]) (fun f h1 h7 h5 => ?_) (fun t _ q => q) (fun q => ?_) (hf.tr fv)
      · by_cases z3 : f ≤ 3
        · rw [if_pos z3, gset_n (by omega), gset_n (by omega), gset_n (by omega), upTo_ge (by omega)]
        · rw [if_neg z3]
          by_cases f5 : f = 5
          · have := h5 f5
            unfold growF at this
            rw [if_neg (by omega), if_pos c2, if_pos (by omega), if_pos rfl] at this
            omega
          · have gv : growF g2 (g2 0 6) sea f i = if f = 4 then 3 else if f = 7 then g2 7 i + 1 else 0 := by
              unfold growF
              rw [if_neg (by omega), if_pos c2, if_pos (by omega)]
            rw [gv]
            by_cases f4 : f = 4
            · subst f4; rw [if_pos rfl, t4]
            · by_cases f7 : f = 7
              · subst f7; rw [if_neg (by omega), if_pos rfl, gset_e]
              · have f6 : f = 6 := by omega
                subst f6
                rw [if_neg (by omega), if_neg (by omega), t6]
      · unfold growF at q
        rw [if_neg (by omega), if_pos c2, if_pos (by omega), if_pos rfl] at q
        omega
  exact key (gn g2) 0 0 u2 rfl (by omega) (r2.cg (fun j _ _ => upTo0) (fun f t _ _ _ _ => upTo_ge (by omega)) (fun f m _ _ _ => upTo_ge (by omega)) (fun t _ q => by rw [upTo_ge (by omega)] at q; exact q)) (f1.tr f2)
