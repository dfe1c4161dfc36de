/-! live: the reference's walk -/
theorem aw_rg {M : Hd} {pc : Nat} {ls : LoS} {st : List Vl} {h : Mem} {Q : PostV} (k : Rg h → AW M pc ls st h Q) : AW M pc ls st h Q := by
  intro p l e R s m args below meth c H locs cells slots Z D α τ A hF hC
  exact k hC.2.2.2 p l e R s m args below meth c H locs cells slots Z D α τ A hF hC
theorem rg178 {v : Mem} (g : Rg v) (q : Nat) : InR (v 178 q) := g 178 q
theorem ZM.set178 {h : Mem} {g0 : Gs} {v : Mem} {g : Gs} {st ms lf : Int} {lt q : Nat} {x : Int} (z : ZM h g0 v g st ms lf lt) (w : WF 9999 g) : ZM h g0 (mset v 178 q x) g st ms lf lt := z.fr w (fun i k hi => mset_i k hi)
theorem q_lv {h : Mem} {g0 : Gs} {d : Dy} {a b c : Int} {Q : Mem → Prop} (w0 : WF 9999 g0) (wd : WFD d a b c) (rdh : RDm h 0 d) (d1 : d 0 0 = 1) :
    ∀ (f k : Nat) (z : Int) (v : Mem) (g : Gs) (R : Nat → Int) (st ms : Int) (lt : Nat), z = (k : Int) → k ≤ dn d → WF 9999 g → stG3 a b c g → ZM h g0 v g st ms 0 lt → lt < 65536 → 0 ≤ st ∧ st ≤ 300 → 0 ≤ ms ∧ ms ≤ st → okR d k R → (∀ q, encl d q k → v 178 q = R q - 1) → lvM d k R st < f →
      (∀ u lt', WF 9999 (lv d f k g R st ms lt).1 → ZM h g0 u (lv d f k g R st ms lt).1 (lv d f k g R st ms lt).2.1 (lv d f k g R st ms lt).2.2.1 (lv d f k g R st ms lt).2.2.2 lt' → Q u) → ((k < dn d → d 1 k ≠ 10) → L_X12_lives_32 v z Q) ∧ L_X12_behindEnds_2 v z (fun r u => L_X12_lives_32 u r Q) := by
  have d60 : (dn d : Int) ≤ 60 ∧ (dn d : Int) = d 0 2 := by
    have q1 := wd.2.2.2.1
    have q2 := wd.2.2.2.2.1
    unfold dn
    omega
  intro f
  induction f with
  | zero => intro k z v g R st ms lt _ _ _ _ _ _ _ _ _ _ hM; omega
  | succ f ih =>
    intro k z v g R st ms lt hz hk w sg zm hl hst hms ok e178 hM hQ
    subst hz
    have rd : RDm v 0 d := rdh.lm (by omega) zm.2.2.2.2.2.2.2.2
    have e9 : v 162 9 = d 0 2 := by
      have q := rd.1
      rw [Nat.zero_add, if_neg (by omega)] at q
      exact q
    have A : (k < dn d → d 1 k ≠ 10) → L_X12_lives_32 v (k : Int) Q := by
      intro hk10
      refine l_X12_lives_32 ?_
      unfold B_X12_lives_32
      rw [e9, zm.2.2.1]
      refine ⟨fun cc => ?_, fun cc => ⟨fun s300 => ?_, fun s300 h34 e34 => ?_⟩⟩
      · have e := lv_over (d := d) (f := f + 1) (k := k) (g := g) (R := R) (st := st) (ms := ms) (lt := lt) (by omega)
        rw [e] at hQ
        exact hQ v lt w zm
      · have hk2 : k < dn d := by omega
        have h10 := hk10 hk2
        have we := wd.2.2.2.2.2.2.1 k hk2
        have ka := kc_all ⟨we.1, we.2.1⟩
        refine ⟨⟨by omega, by omega⟩, ⟨by omega, by omega⟩, ⟨by omega, by omega⟩, fun h10' e10 => ⟨⟨by omega, by omega⟩, ?_⟩⟩
        have z10 : ZM h g0 h10' g (st + 1) ms 0 lt := by
          obtain ⟨z0, z1, z2, z3, z4, z5, z6, z7, z8⟩ := zm
          rw [e10]
          refine ⟨z0.sto w.nm (by omega), ?_, mset_at, ?_, ?_, ?_, ?_, ?_, z8.st (by omega)⟩
          · rw [mset_k (by omega)]; exact z1
          · rw [mset_i _ (by omega)]; exact z3
          · rw [mset_i _ (by omega)]; exact z4
          · rw [mset_i _ (by omega)]; exact z5
          · rw [mset_i _ (by omega)]; exact z6
          · rw [mset_i _ (by omega)]; exact z7
        have o178 : ∀ q, h10' 178 q = v 178 q := fun q => by rw [e10]; exact mset_i q (by omega)
        have rd10 : RDm h10' 0 d := rdh.lm (by omega) z10.2.2.2.2.2.2.2.2
        have i0 : (80 + 6 * (k : Int)).toNat = 80 + 6 * k := by omega
        have i1 : (80 + 6 * (k : Int) + 1).toNat = 80 + 6 * k + 1 := by omega
        have i4 : (80 + 6 * (k : Int) + 4).toNat = 80 + 6 * k + 4 := by omega
        rw [i0, (rd10.at hk2).1]
        refine ⟨fun n21 => ?_, fun y21 => ?_⟩
        · have h9 : d 1 k ≠ 9 := by omega
          have go := lv_go (f := f) (g := g) (R := R) (ms := ms) (lt := lt) hk2 h10 s300 h9
          -- behind the step: from the new glen on
          have jump : ∀ (u : Mem) (ms2 : Int), ms2 = ms + (1 - (lvA d k g lt).2.1) → 0 ≤ ms2 ∧ ms2 ≤ st + 1 → WF 9999 (lvA d k g lt).1 → stG3 a b c (lvA d k g lt).1 → ZM h g0 u (lvA d k g lt).1 (st + 1) ms2 0 (lvA d k g lt).2.2 → (lvA d k g lt).2.2 < 65536 → (∀ q, encl d q (k + 1) → u 178 q = (if d 1 k = 8 then rset R k (d 2 k) else R) q - 1) → J_X12_lives_140 u (k : Int) (80 + 6 * (k : Int)) Q := by
            intro u ms2 hms2 hms3 w2 sg2 z2 hl2 u178
            have rdu : RDm u 0 d := rdh.lm (by omega) z2.2.2.2.2.2.2.2.2
            obtain ⟨r0, r1, r2, r4, r5⟩ := rdu.at hk2
            have stp := lv_step wd hk2 h10 ok (st := st) (by omega)
            unfold J_X12_lives_140
            rw [i0, r0, i4]
            rw [← hms2] at go
            refine ⟨⟨by omega, by omega⟩, fun lo => ⟨⟨by omega, by omega⟩, ?_⟩, fun hi => ?_⟩
            · rw [lvN_else (by omega)] at go
              rw [go] at hQ
              exact (ih (k + 1) _ u _ _ (st + 1) ms2 _ (by omega) (by omega) w2 sg2 z2 hl2 (by omega) hms3 stp.1 u178 (by omega) hQ).2
            · have h47 : 4 ≤ d 1 k ∧ d 1 k ≤ 7 := by omega
              rw [if_neg (by omega)] at stp u178
              refine q_holdsM w2 wd sg2 hk2 h47 rdu z2.1 (fun yes => ⟨fun _ => ⟨⟨by omega, by omega⟩, ?_⟩, fun q => absurd q (by decide)⟩) (fun no => ⟨fun q => absurd rfl q, fun _ => ⟨⟨by omega, by omega⟩, ⟨by omega, by omega⟩, ?_⟩⟩)
              · rw [lvN_yes yes, if_neg (by omega)] at go
                rw [go] at hQ
                exact (ih (k + 1) _ u _ _ (st + 1) ms2 _ (by omega) (by omega) w2 sg2 z2 hl2 (by omega) hms3 stp.1 u178 (by omega) hQ).2
              · have op : isOp d k := ⟨h47.1, by omega⟩
                obtain ⟨e, x1, x2, x3, x4, x5⟩ := we.2.2.2.2.2.2.2.2.2.1 op
                rw [lvN_no h47 no, x1, Int.toNat_natCast, if_neg (by omega)] at go
                rw [go] at hQ
                have y4 : u 162 (80 + 6 * k + 4) = (e : Int) := (r4 ⟨by omega, by omega⟩).trans x1
                have sk := lv_skip (st := st) wd hk2 op x1 h10 ok (by omega)
                rw [y4]
                refine ⟨⟨by omega, by omega⟩, (ih (e + 1) _ u _ R (st + 1) ms2 _ (by omega) (by omega) w2 sg2 z2 hl2 (by omega) hms3 sk.1 (fun q hq => ?_) (by omega) hQ).2⟩
                have ek := encl_skip wd hk2 op x1 hq
                exact u178 q ⟨by have := ek.1; omega, by have := hq.2.1; omega, ek.2.2⟩
          -- the loop's number
          have loop : ∀ (u : Mem) (ms2 : Int), ms2 = ms + (1 - (lvA d k g lt).2.1) → 0 ≤ ms2 ∧ ms2 ≤ st + 1 → WF 9999 (lvA d k g lt).1 → stG3 a b c (lvA d k g lt).1 → ZM h g0 u (lvA d k g lt).1 (st + 1) ms2 0 (lvA d k g lt).2.2 → (lvA d k g lt).2.2 < 65536 → (∀ q, u 178 q = v 178 q) → ((¬ ((u 162 (80 + 6 * k)) = 19) → J_X12_lives_140 u (k : Int) (80 + 6 * (k : Int)) Q) ∧ ((u 162 (80 + 6 * k)) = 19 → (InR ((80 + 6 * (k : Int)) + 1) ∧ ((0 ≤ ((80 + 6 * (k : Int)) + 1) ∧ ((80 + 6 * (k : Int)) + 1) < 3008) ∧ (InR ((u 162 (80 + 6 * k + 1)) - 1) ∧ ((0 ≤ (k : Int) ∧ (k : Int) < 80) ∧ (∀ h24 : Mem, h24 = mset u 178 ((k : Int)).toNat ((u 162 (80 + 6 * k + 1)) - 1) → J_X12_lives_140 h24 (k : Int) (80 + 6 * (k : Int)) Q))))))) := by
            intro u ms2 hms2 hms3 w2 sg2 z2 hl2 u178
            have rdu : RDm u 0 d := rdh.lm (by omega) z2.2.2.2.2.2.2.2.2
            obtain ⟨r0, r1, r2, r4, r5⟩ := rdu.at hk2
            rw [r0]
            refine ⟨fun n19 => jump u ms2 hms2 hms3 w2 sg2 z2 hl2 (fun q hq => ?_), fun y19 => ?_⟩
            · rw [if_neg (by omega)]
              rcases encl_next h10 wd hk2 hq with y | y
              · subst y; exact absurd hq.2.2 (by omega)
              · rw [u178]; exact e178 q y
            · have k8 : d 1 k = 8 := by omega
              have rg := we.2.2.2.2.2.2.2.2.1 k8
              rw [r1 (by omega)]
              refine ⟨⟨by omega, by omega⟩, ⟨by omega, by omega⟩, ⟨by omega, by omega⟩, ⟨by omega, by omega⟩, fun h24 e24 => ?_⟩
              rw [Int.toNat_natCast] at e24
              subst e24
              refine jump _ ms2 hms2 hms3 w2 sg2 (z2.set178 w2) hl2 (fun q hq => ?_)
              rw [if_pos k8]
              by_cases y : q = k
              · subst y; rw [mset_at, rset_e]
              · rw [mset_k y, rset_n y, u178]
                rcases encl_next h10 wd hk2 hq with y2 | y2
                · exact absurd y2 y
                · exact e178 q y2
          refine q_does w0 w wd sg hk2 rd10 hl z10 (fun u zu wu su u178 hlu ok01 => ?_)
          have zms : ∀ x : Int, ZM h g0 (mset u 179 0 x) (lvA d k g lt).1 (st + 1) x 0 (lvA d k g lt).2.2 := fun x => by
            obtain ⟨z0, z1, z2, z3, z4, z5, z6, z7, z8⟩ := zu
            refine ⟨z0.sto wu.nm (by omega), ?_, ?_, mset_at, ?_, ?_, ?_, ?_, z8.st (by omega)⟩
            · rw [mset_i _ (by omega)]; exact z1
            · rw [mset_i _ (by omega)]; exact z2
            · rw [mset_k (by omega)]; exact z4
            · rw [mset_k (by omega)]; exact z5
            · rw [mset_k (by omega)]; exact z6
            · rw [mset_k (by omega)]; exact z7
          rw [z10.2.2.2.1]
          refine ⟨fun c0 => ⟨⟨by omega, by omega⟩, fun h17 e17 => ?_⟩, fun c0 => ⟨⟨by omega, by omega⟩, fun h26 e26 => ?_⟩⟩
          · subst e17
            rw [i1]
            exact loop _ (ms + 1) (by omega) (by omega) wu su (zms _) hlu (fun q => (mset_i q (by omega)).trans ((u178 q).trans (o178 q)))
          · subst e26
            rw [i1]
            exact loop _ ms (by omega) (by omega) wu su (zms _) hlu (fun q => (mset_i q (by omega)).trans ((u178 q).trans (o178 q)))
        · have e := lv_stop (f := f) (g := g) (R := R) (ms := ms) (lt := lt) hk2 s300 (show d 1 k = 9 by omega)
          rw [e] at hQ
          exact hQ h10' lt w z10
      · have e := lv_300 (f := f) (g := g) (R := R) (ms := ms) (lt := lt) (show k < dn d by omega) (hk10 (by omega)) s300
        rw [e] at hQ
        refine hQ h34 lt w ?_
        obtain ⟨z0, z1, z2, z3, z4, z5, z6, z7, z8⟩ := zm
        rw [e34]
        refine ⟨z0.sto w.nm (by omega), ?_, ?_, ?_, ?_, ?_, ?_, mset_at, z8.st (by omega)⟩
        · rw [mset_i _ (by omega)]; exact z1
        · rw [mset_i _ (by omega)]; exact z2
        · rw [mset_k (by omega)]; exact z3
        · rw [mset_k (by omega)]; exact z4
        · rw [mset_k (by omega)]; exact z5
        · rw [mset_k (by omega)]; exact z6
    refine ⟨A, ?_⟩
    refine aw_rg (fun rg => ?_)
    refine l_X12_behindEnds_2 ?_
    unfold B_X12_behindEnds_2
    rw [e9]
    refine ⟨fun cc => A (fun y => absurd y (by omega)), fun cc => ?_⟩
    have hk2 : k < dn d := by omega
    have we := wd.2.2.2.2.2.2.1 k hk2
    have ka := kc_all ⟨we.1, we.2.1⟩
    have i0 : (80 + 6 * (k : Int)).toNat = 80 + 6 * k := by omega
    have i4 : (80 + 6 * (k : Int) + 4).toNat = 80 + 6 * k + 4 := by omega
    obtain ⟨r0, r1, r2, r4, r5⟩ := rd.at hk2
    rw [i0, i4, r0]
    refine ⟨⟨by omega, by omega⟩, ⟨by omega, by omega⟩, ⟨by omega, by omega⟩, fun n20 => A (fun _ => by omega), fun y20 => ⟨⟨by omega, by omega⟩, ⟨by omega, by omega⟩, fun x9 e9' => ?_⟩⟩
    have h10 : d 1 k = 10 := by omega
    obtain ⟨q, x1, x2, x3, x4⟩ := we.2.2.2.2.2.2.2.2.2.2.1 h10
    rw [r4 ⟨by omega, by omega⟩, x1] at e9'
    subst e9'
    have wq := wd.2.2.2.2.2.2.1 q (by omega)
    have kq := kc_all ⟨wq.1, wq.2.1⟩
    have j0 : (80 + 6 * (q : Int)).toNat = 80 + 6 * q := by omega
    have rq := (rd.at (show q < dn d by omega)).1
    rw [j0, rq]
    have e := lv_endE (f := f) (g := g) (R := R) (st := st) (ms := ms) (lt := lt) hk2 h10 x1
    have past : ∀ R' : Nat → Int, (∀ o, o ≠ q → R' o = R o) → lv d (f + 1) k g R st ms lt = lv d f (k + 1) g R' st ms lt → J_X12_behindEnds_75 v (k : Int) (q : Int) (fun r u => L_X12_lives_32 u r Q) := fun R' hR el => by
      have st2 := lv_end (st := st) wd hk2 h10 x1 ok (R' := R') hR
      have rq2 := rg178 rg q
      unfold J_X12_behindEnds_75
      rw [Int.toNat_natCast]
      refine ⟨⟨by omega, by omega⟩, ⟨by omega, by omega⟩, fun h23 e23 => ⟨⟨by omega, by omega⟩, ?_⟩⟩
      have eh : ∀ p, h23 178 p = v 178 p := fun p => by
        rw [e23]
        by_cases y : p = q
        · subst y; rw [mset_at]; omega
        · rw [mset_k y]
      refine (ih (k + 1) _ h23 g R' st ms lt (by omega) (by omega) w sg (by rw [e23]; exact zm.set178 w) hl hst hms st2.1 (fun p hp => ?_) (by omega) (by rw [← el]; exact hQ)).2
      obtain ⟨y1, y2⟩ := encl_end wd hk2 h10 x1 hp
      rw [eh, hR p y2]
      exact e178 p y1
    refine ⟨⟨by omega, by omega⟩, ⟨by omega, by omega⟩, ⟨by omega, by omega⟩, fun n19 => ?_, fun y19 => ⟨⟨by omega, by omega⟩, ?_⟩⟩
    · rw [if_neg (by omega)] at e
      exact past R (fun _ _ => rfl) e
    · have q8 : d 1 q = 8 := by omega
      have here := encl_here wd hk2 h10 x1 q8
      have rr := ok q here
      have eq := e178 q here
      rw [if_pos q8] at e
      rw [Int.toNat_natCast, eq]
      refine ⟨fun lo => ?_, fun hi => ⟨⟨by omega, by omega⟩, fun h18 e18 => ⟨⟨by omega, by omega⟩, ?_⟩⟩⟩
      · rw [if_neg (by omega)] at e
        exact past _ (fun o ho => rset_n ho) e
      · rw [if_pos (by omega)] at e
        have st2 := lv_again (st := st) wd hk2 h10 x1 q8 ok (by omega)
        subst e18
        refine (ih (q + 1) _ _ g _ st ms lt (by omega) (by omega) w sg (zm.set178 w) hl hst hms st2.1 (fun p hp => ?_) (by omega) (by rw [← e]; exact hQ)).2
        by_cases y : p = q
        · subst y; rw [mset_at, rset_e]
        · rw [mset_k y, rset_n y]
          rcases encl_again wd hk2 h10 x1 hp with y2 | y2
          · exact absurd y2 y
          · exact e178 p y2.1
