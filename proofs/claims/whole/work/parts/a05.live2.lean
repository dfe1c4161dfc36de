/-! live: x's walk -/
theorem lv_go {d : Dy} {f k : Nat} {g : Gs} {R : Nat → Int} {st ms : Int} {lt : Nat} (h1 : k < dn d) (h10 : d 1 k ≠ 10) (hst : st ≠ 300) (h9 : d 1 k ≠ 9) : lv d (f + 1) k g R st ms lt = lv d f (lvN d k (lvA d k g lt).1) (lvA d k g lt).1 (if d 1 k = 8 then rset R k (d 2 k) else R) (st + 1) (ms + (1 - (lvA d k g lt).2.1)) (lvA d k g lt).2.2 := by
  show (if dn d ≤ k then (g, st, ms, 0) else if d 1 k = 10 then _ else if st = 300 then (g, st, ms, 1) else if d 1 k = 9 then (g, st + 1, ms, 0) else _) = _
  rw [if_neg (by omega), if_neg h10, if_neg hst, if_neg h9]
theorem lv_stop {d : Dy} {f k : Nat} {g : Gs} {R : Nat → Int} {st ms : Int} {lt : Nat} (h1 : k < dn d) (hst : st ≠ 300) (h9 : d 1 k = 9) : lv d (f + 1) k g R st ms lt = (g, st + 1, ms, 0) := by
  show (if dn d ≤ k then (g, st, ms, 0) else if d 1 k = 10 then _ else if st = 300 then (g, st, ms, 1) else if d 1 k = 9 then (g, st + 1, ms, 0) else _) = _
  rw [if_neg (by omega), if_neg (by omega), if_neg hst, if_pos h9]
theorem lv_300 {d : Dy} {f k : Nat} {g : Gs} {R : Nat → Int} {st ms : Int} {lt : Nat} (h1 : k < dn d) (h10 : d 1 k ≠ 10) (hst : st = 300) : lv d (f + 1) k g R st ms lt = (g, st, ms, 1) := by
  show (if dn d ≤ k then (g, st, ms, 0) else if d 1 k = 10 then _ else if st = 300 then (g, st, ms, 1) else if d 1 k = 9 then (g, st + 1, ms, 0) else _) = _
  rw [if_neg (by omega), if_neg h10, if_pos hst]
theorem lv_over {d : Dy} {f k : Nat} {g : Gs} {R : Nat → Int} {st ms : Int} {lt : Nat} (h1 : dn d ≤ k) : lv d f k g R st ms lt = (g, st, ms, 0) := by
  cases f with
  | zero => rfl
  | succ f =>
    show (if dn d ≤ k then (g, st, ms, 0) else if d 1 k = 10 then _ else if st = 300 then (g, st, ms, 1) else if d 1 k = 9 then (g, st + 1, ms, 0) else _) = _
    rw [if_pos h1]
theorem lv_endE {d : Dy} {f k q : Nat} {g : Gs} {R : Nat → Int} {st ms : Int} {lt : Nat} (h1 : k < dn d) (h10 : d 1 k = 10) (hq : d 5 k = (q : Int)) : lv d (f + 1) k g R st ms lt = (if d 1 q = 8 then (if 1 < R q then lv d f (q + 1) g (rset R q (R q - 1)) st ms lt else lv d f (k + 1) g (rset R q (R q - 1)) st ms lt) else lv d f (k + 1) g R st ms lt) := by
  show (if dn d ≤ k then (g, st, ms, 0) else if d 1 k = 10 then (if d 1 (d 5 k).toNat = 8 then (if 1 < R (d 5 k).toNat then lv d f ((d 5 k).toNat + 1) g (rset R (d 5 k).toNat (R (d 5 k).toNat - 1)) st ms lt else lv d f (k + 1) g (rset R (d 5 k).toNat (R (d 5 k).toNat - 1)) st ms lt) else lv d f (k + 1) g R st ms lt) else if st = 300 then (g, st, ms, 1) else if d 1 k = 9 then (g, st + 1, ms, 0) else _) = _
  rw [if_neg (by omega), if_pos h10, hq, Int.toNat_natCast]
def stG3 (a b c : Int) (g : Gs) : Prop := a ≤ g 0 0 ∧ b ≤ g 0 1 ∧ g 0 2 = c
theorem stG3.mo {a b c : Int} {g g' : Gs} (s : stG3 a b c g) (m : Mo g g') : stG3 a b c g' := ⟨Int.le_trans s.1 m.1, Int.le_trans s.2.1 m.2.1, m.2.2.trans s.2.2⟩
theorem s_behindEnd {v : Mem} {d : Dy} {a b c : Int} {k q o : Nat} {R : Nat → Int} {st ms lf : Int} {lt : Nat} {Q : Int → Mem → Prop} (wd : WFD d a b c) (hk : k < dn d) (h10 : d 1 k = 10) (hq : d 5 k = (q : Int)) (rd : RD v 27 d) (l : LW v o st ms lf lt) (ok : okR d k R) (e79 : ∀ q, encl d q k → v 79 q = R q)
    (h1 : d 1 q = 8 → 1 < R q → Q ((q + 1 : Nat) : Int) (mset v 79 q (R q - 1))) (h2 : d 1 q = 8 → ¬ 1 < R q → Q ((k + 1 : Nat) : Int) (mset v 79 q (R q - 1))) (h3 : d 1 q ≠ 8 → Q ((k + 1 : Nat) : Int) v) : F_X6_behindEnd v (k : Int) Q := by
  have k60 : k < 60 := (qk_end wd hk h10).2
  have we := wd.2.2.2.2.2.2.1 k hk
  obtain ⟨q', x1, x2, x3, x4⟩ := we.2.2.2.2.2.2.2.2.2.2.1 h10
  have ee : q' = q := by omega
  subst ee
  have k5 : v (27 + 5) k = d 5 k := (rd.2.2.2 k hk).2.2.2.2
  have k1 : v (27 + 1) q' = d 1 q' := (rd.2.2.2 q' (by omega)).1
  unfold F_X6_behindEnd
  rw [Int.toNat_natCast]
  refine ⟨27, l.2.2.2.2.2, rfl, ⟨by omega, by omega⟩, fun x4 e4 => ?_⟩
  have ex : x4 = (q' : Int) := by rw [e4, k5, hq]
  subst ex
  refine ⟨27, l.2.2.2.2.2, rfl, ⟨by omega, by omega⟩, ?_⟩
  rw [Int.toNat_natCast, k1]
  have s1 : (k : Int) + 1 = ((k + 1 : Nat) : Int) := by omega
  have s2 : (q' : Int) + 1 = ((q' + 1 : Nat) : Int) := by omega
  rw [s1, s2]
  refine ⟨fun c8 => ?_, fun c8 => ⟨⟨by omega, by omega⟩, h3 c8⟩⟩
  have here := encl_here wd hk h10 hq c8
  have r := ok q' here
  rw [e79 q' here]
  refine ⟨⟨by omega, by omega⟩, fun h10' e10 => ?_⟩
  subst e10
  rw [mset_at]
  exact ⟨fun y => ⟨⟨by omega, by omega⟩, h2 c8 (by omega)⟩, fun y => ⟨⟨by omega, by omega⟩, h1 c8 (by omega)⟩⟩
theorem s_lv {h : Mem} {o : Nat} {d : Dy} {a b c : Int} {Q : Mem → Prop} (wd : WFD d a b c) (rdh : RD h 27 d) (ho : okO o) :
    ∀ (f k : Nat) (z i : Int) (v : Mem) (g : Gs) (R : Nat → Int) (st ms : Int) (lt : Nat), z = (k : Int) → 0 ≤ i → i + f ≤ 1000000 → k ≤ dn d → WF 9999 g → stG3 a b c g → RC v o g → LX o h v → LW v o st ms 0 lt → lt < 65536 → 0 ≤ st ∧ st ≤ 300 → 0 ≤ ms ∧ ms ≤ st → okR d k R → (∀ q, encl d q k → v 79 q = R q) → lvM d k R st < f →
      (∀ u lt', RC u o (lv d f k g R st ms lt).1 → WF 9999 (lv d f k g R st ms lt).1 → LX o h u → LW u o (lv d f k g R st ms lt).2.1 (lv d f k g R st ms lt).2.2.1 (lv d f k g R st ms lt).2.2.2 lt' → Q u) → L_X6_liveThrough_36 v z i Q := by
  have d60 : (dn d : Int) ≤ 60 ∧ (dn d : Int) = d 0 2 := by
    have q1 := wd.2.2.2.1
    have q2 := wd.2.2.2.2.1
    unfold dn
    omega
  intro f
  induction f with
  | zero => intro k z i v g R st ms lt _ _ _ _ _ _ _ _ _ _ _ _ _ _ hM; omega
  | succ f ih =>
    intro k z i v g R st ms lt hz hi hf hk w sg r fx l hl hst hms ok e79 hM hQ
    subst hz
    have rd : RD v 27 d := rdh.fr (fun i h1 h2 k => fx i k (by unfold okO at ho; omega) (by omega) (by omega))
    have ws := w.1
    unfold WFs at ws
    obtain ⟨l0, l1, l2, l3, l4, l5⟩ := id l
    refine l_X6_liveThrough_36 ?_
    unfold B_X6_liveThrough_36
    refine ⟨fun c => absurd c (by omega), fun _ => ⟨fun c => absurd c (by omega), fun _ => ⟨27, l5, rfl, ?_⟩⟩⟩
    rw [rd.2.2.1]
    refine ⟨fun cc => ?_, fun cc => ⟨27, l5, rfl, ⟨by omega, by omega⟩, ?_⟩⟩
    · have e := lv_over (d := d) (f := f + 1) (k := k) (g := g) (R := R) (st := st) (ms := ms) (lt := lt) (by omega)
      rw [e] at hQ
      exact hQ v lt r w fx l
    · have hk2 : k < dn d := by omega
      have k1 : v (27 + 1) k = d 1 k := (rd.2.2.2 k hk2).1
      have k2 : v (27 + 2) k = d 2 k := (rd.2.2.2 k hk2).2.1
      have k3 : v (27 + 3) k = d 3 k := (rd.2.2.2 k hk2).2.2.1
      have k5 : v (27 + 5) k = d 5 k := (rd.2.2.2 k hk2).2.2.2.2
      have we := wd.2.2.2.2.2.2.1 k hk2
      have wb : 0 ≤ d 1 k ∧ d 1 k ≤ 10 := ⟨we.1, we.2.1⟩
      rw [Int.toNat_natCast, k1]
      refine ⟨fun h10 => ?_, fun h10 => ?_⟩
      · -- a step
        have next : ∀ (k2 : Nat) (z2 : Int) (u : Mem) (g2 : Gs) (R2 : Nat → Int) (ms2 : Int) (lt2 : Nat), z2 = (k2 : Int) → k2 ≤ dn d → WF 9999 g2 → stG3 a b c g2 → RC u o g2 → LX o h u → LW u o (st + 1) ms2 0 lt2 → lt2 < 65536 → 0 ≤ ms2 ∧ ms2 ≤ st + 1 → st < 300 → (okR d k2 R2 ∧ lvM d k2 R2 (st + 1) < lvM d k R st) → (∀ q, encl d q k2 → u 79 q = R2 q) → lv d (f + 1) k g R st ms lt = lv d f k2 g2 R2 (st + 1) ms2 lt2 → InR (i + 1) ∧ L_X6_liveThrough_36 u z2 (i + 1) Q := by
          intro k2 z2 u g2 R2 ms2 lt2 hz2 hk2' w2 sg2 r2 fx2 lw2 hl2 hm2 s300 okM e792 hlv
          refine ⟨⟨by omega, by omega⟩, ih k2 z2 (i + 1) u g2 R2 (st + 1) ms2 lt2 hz2 (by omega) (by omega) hk2' w2 sg2 r2 fx2 lw2 hl2 (by omega) hm2 okM.1 e792 (by omega) ?_⟩
          rw [← hlv]
          exact hQ
        unfold F_X6_behindStep
        rw [l0]
        refine ⟨fun s300 => ⟨⟨by omega, by omega⟩, fun h2 e2 => ?_⟩, fun s300 h55 e55 => ?_⟩
        · have r2 : RC h2 o g := by rw [e2]; exact r.sto (by unfold okO at ho; omega)
          have f2 : LX o h h2 := by rw [e2]; exact fx.st (Or.inl rfl)
          have w2 : LW h2 o (st + 1) ms 0 lt := by
            rw [e2]
            refine ⟨mset_at, ?_, ?_, ?_, ?_, ?_⟩
            · rw [mset_k (by omega)]; exact l1
            · rw [mset_k (by omega)]; exact l2
            · rw [mset_k (by omega)]; exact l3
            · rw [mset_k (by omega)]; exact l4
            · rw [mset_k (by omega)]; exact l5
          have o2 : ∀ i k, i ≠ 78 → h2 i k = v i k := fun i k hi => by rw [e2]; exact mset_i k hi
          have rd2 : RD h2 27 d := rdh.fr (fun i h1 h2 k => f2 i k (by unfold okO at ho; omega) (by omega) (by omega))
          have y1 : h2 (27 + 1) k = d 1 k := (o2 _ _ (by omega)).trans k1
          have y2 : h2 (27 + 2) k = d 2 k := (o2 _ _ (by omega)).trans k2
          have y3 : h2 (27 + 3) k = d 3 k := (o2 _ _ (by omega)).trans k3
          have e792 : ∀ q, encl d q k → h2 79 q = R q := fun q hq => (o2 79 q (by omega)).trans (e79 q hq)
          have s1 : (k : Int) + 1 = ((k + 1 : Nat) : Int) := by omega
          have z5 : h2 78 5 = 27 := w2.2.2.2.2.2
          refine ⟨27, z5, rfl, ⟨by omega, by omega⟩, fun x6 e6 => ⟨27, z5, rfl, ?_⟩⟩
          rw [Int.toNat_natCast, y2] at e6
          subst e6
          rw [Int.toNat_natCast, y1]
          have stp := lv_step wd hk2 h10 ok (st := st) (by omega)
          have sn := fun (h8 : d 1 k ≠ 8) => (by have q := stp; rw [if_neg h8] at q; exact q : okR d (k + 1) R ∧ lvM d (k + 1) R (st + 1) < lvM d k R st)
          have en : ∀ u : Mem, (∀ k, u 79 k = h2 79 k) → d 1 k ≠ 8 → ∀ q, encl d q (k + 1) → u 79 q = R q := fun u hu h8 q hq => by
            rcases encl_next h10 wd hk2 hq with y | y
            · subst y; exact absurd hq.2.2 h8
            · rw [hu]; exact e792 q y
          have go := fun (h9 : d 1 k ≠ 9) => lv_go (f := f) (g := g) (R := R) (ms := ms) (lt := lt) hk2 h10 (show st ≠ 300 by omega) h9
          -- a test
          have tst : 4 ≤ d 1 k ∧ d 1 k ≤ 7 → F_X6_holds h2 (k : Int) (fun r24 h23 => ((r24 = 0 → (∃ r25 : Nat, h23 78 5 = (r25 : Int) ∧ lay r25 = (0, 1) ∧ (InR ((h23 (r25 + 5) k) + 1) ∧ (InR (i + 1) ∧ L_X6_liveThrough_36 h23 ((h23 (r25 + 5) k) + 1) (i + 1) Q)))) ∧ (¬ (r24 = 0) → (InR ((k : Int) + 1) ∧ (InR (i + 1) ∧ L_X6_liveThrough_36 h23 ((k : Int) + 1) (i + 1) Q))))) := fun h47 => by
            have act : lvA d k g lt = (g, 1, lt) := by unfold lvA; rw [if_neg (by omega), if_neg (by omega), if_neg (by omega), if_neg (by omega)]
            have g9 := go (by omega)
            rw [act, if_neg (by omega)] at g9
            have m0 : ms + (1 - (1 : Int)) = ms := by omega
            have g9' : lv d (f + 1) k g R st ms lt = lv d f (lvN d k g) g R (st + 1) (ms + (1 - (1 : Int))) lt := g9
            rw [m0] at g9'
            refine s_holds w wd sg.1 sg.2.1 hk2 h47 rd2 r2 ho w2 (fun yes => ⟨fun y => absurd y (by decide), fun _ => ⟨⟨by omega, by omega⟩, ?_⟩⟩) (fun no => ⟨fun _ => ⟨27, z5, rfl, ?_⟩, fun y => absurd rfl y⟩)
            · rw [lvN_yes yes] at g9'
              exact next (k + 1) _ h2 g R ms lt (by omega) (by omega) w sg r2 f2 w2 hl (by omega) s300 (sn (by omega)) (en h2 (fun _ => rfl) (by omega)) g9'
            · rw [lvN_no h47 no] at g9'
              have op : isOp d k := ⟨h47.1, by omega⟩
              obtain ⟨e, x1, x2, x3, x4, x5⟩ := we.2.2.2.2.2.2.2.2.2.1 op
              have y5 : h2 (27 + 5) k = (e : Int) := ((o2 _ _ (by omega)).trans k5).trans x1
              rw [x1, Int.toNat_natCast] at g9'
              rw [y5]
              exact ⟨⟨by omega, by omega⟩, next (e + 1) _ h2 g R ms lt (by omega) (by omega) w sg r2 f2 w2 hl (by omega) s300 (lv_skip wd hk2 op x1 h10 ok (by omega)) (fun q hq => e792 q (encl_skip wd hk2 op x1 hq)) g9'⟩
          refine ⟨fun c0 => ?_, fun c0 => ?_, fun c0 => ?_, fun c0 => ?_, fun c0 => tst (by omega), fun c0 => tst (by omega), fun c0 => tst (by omega), fun c0 => tst (by omega), fun c0 h47 e47 => ?_, fun c0 => ?_, fun c0 => absurd c0 (by omega)⟩
          · -- hour
            have rg := we.2.2.1 c0
            have g9 := go (by omega)
            rw [lvN_else (by omega), if_neg (by omega)] at g9
            have xn : d 2 k = (((d 2 k).toNat : Nat) : Int) := by omega
            refine s_letPass (n := (d 2 k).toNat) w xn (by omega) r2 f2 ho w2 (by omega) (fun c1 u ru fu lu u79 => ⟨⟨by omega, by omega⟩, ?_⟩) (fun c1 u ru fu lu u79 => ⟨⟨by omega, by omega⟩, ?_⟩)
            · have act : lvA d k g lt = (passN (d 2 k).toNat g, 1, lt) := by unfold lvA; rw [if_pos c0, if_pos (by omega)]
              rw [act] at g9
              have w0 : WF (g 0 5) g := w.wd (by omega)
              have wk := WF.passN (d 2 k).toNat w0
              have w' : WF 9999 (passN (d 2 k).toNat g) := wk.wd (by have := wk.1; unfold WFs at this; omega)
              refine next (k + 1) _ u _ R (ms + (1 - 1)) lt (by omega) (by omega) w' (sg.mo (Mo.pN _ _)) ru fu ?_ hl (by omega) s300 (sn (by omega)) (en u u79 (by omega)) g9
              rw [show ms + (1 - (1 : Int)) = ms by omega]
              exact lu
            · have act : lvA d k g lt = (g, 0, lt) := by unfold lvA; rw [if_pos c0, if_neg (by omega)]
              rw [act] at g9
              refine next (k + 1) _ u _ R (ms + (1 - 0)) lt (by omega) (by omega) w sg ru fu ?_ hl (by omega) s300 (sn (by omega)) (en u u79 (by omega)) g9
              rw [show ms + (1 - (0 : Int)) = ms + 1 by omega]
              exact lu
          · -- throw
            have rg := we.2.2.2.1 c0
            have g9 := go (by omega)
            rw [lvN_else (by omega), if_neg (by omega)] at g9
            refine ⟨27, z5, rfl, ?_⟩
            rw [y3]
            have xn : d 2 k = (((d 2 k).toNat : Nat) : Int) := by omega
            have xc : d 3 k = (((d 3 k).toNat : Nat) : Int) := by omega
            have sg' := sg
            unfold stG3 at sg'
            obtain ⟨n8, nc⟩ := gn8 w
            refine s_throwThing (t := (d 2 k).toNat) (c := (d 3 k).toNat) w xn xc (by omega) r2 f2 ho w2 (by omega) (fun c1 u ru fu lu u79 => ⟨⟨by omega, by omega⟩, ?_⟩) (fun c1 u ru fu lu u79 => ⟨⟨by omega, by omega⟩, ?_⟩)
            · have act : lvA d k g lt = (tset g (d 2 k).toNat 1 (d 3 k) 0, 1, lt) := by unfold lvA; rw [if_neg (by omega), if_pos c0, if_pos c1]
              rw [act] at g9
              rw [← xc] at ru
              have w' : WF 9999 (tset g (d 2 k).toNat 1 (d 3 k) 0) := w.th (Or.inr (Or.inl rfl)) ⟨by omega, by omega⟩ (fun q => absurd rfl q)
              refine next (k + 1) _ u _ R (ms + (1 - 1)) lt (by omega) (by omega) w' (sg.mo (Mo.eq (fun i _ => tset_n (by omega)))) ru fu ?_ hl (by omega) s300 (sn (by omega)) (en u u79 (by omega)) g9
              rw [show ms + (1 - (1 : Int)) = ms by omega]
              exact lu
            · have act : lvA d k g lt = (g, 0, lt) := by unfold lvA; rw [if_neg (by omega), if_pos c0, if_neg c1]
              rw [act] at g9
              refine next (k + 1) _ u _ R (ms + (1 - 0)) lt (by omega) (by omega) w sg ru fu ?_ hl (by omega) s300 (sn (by omega)) (en u u79 (by omega)) g9
              rw [show ms + (1 - (0 : Int)) = ms + 1 by omega]
              exact lu
          · -- fetch
            have rg := we.2.2.2.2.1 (Or.inl c0)
            have g9 := go (by omega)
            rw [lvN_else (by omega), if_neg (by omega)] at g9
            have xn : d 2 k = (((d 2 k).toNat : Nat) : Int) := by omega
            have sg' := sg
            unfold stG3 at sg'
            obtain ⟨n8, nc⟩ := gn8 w
            refine s_fetchThing (t := (d 2 k).toNat) w xn (by omega) r2 f2 ho w2 (by omega) (fun c1 u ru fu lu u79 => ⟨⟨by omega, by omega⟩, ?_⟩) (fun c1 u ru fu lu u79 => ⟨⟨by omega, by omega⟩, ?_⟩)
            · have act : lvA d k g lt = (tset g (d 2 k).toNat 0 0 0, 1, lt) := by unfold lvA; rw [if_neg (by omega), if_neg (by omega), if_pos c0, if_pos c1]
              rw [act] at g9
              have w' : WF 9999 (tset g (d 2 k).toNat 0 0 0) := w.th (Or.inl rfl) ⟨by omega, by omega⟩ (fun _ => rfl)
              refine next (k + 1) _ u _ R (ms + (1 - 1)) lt (by omega) (by omega) w' (sg.mo (Mo.eq (fun i _ => tset_n (by omega)))) ru fu ?_ hl (by omega) s300 (sn (by omega)) (en u u79 (by omega)) g9
              rw [show ms + (1 - (1 : Int)) = ms by omega]
              exact lu
            · have act : lvA d k g lt = (g, 0, lt) := by unfold lvA; rw [if_neg (by omega), if_neg (by omega), if_pos c0, if_neg c1]
              rw [act] at g9
              refine next (k + 1) _ u _ R (ms + (1 - 0)) lt (by omega) (by omega) w sg ru fu ?_ hl (by omega) s300 (sn (by omega)) (en u u79 (by omega)) g9
              rw [show ms + (1 - (0 : Int)) = ms + 1 by omega]
              exact lu
          · -- any
            have g9 := go (by omega)
            rw [lvN_else (by omega), if_neg (by omega)] at g9
            obtain ⟨n8, nc⟩ := gn8 w
            unfold F_X6_throwAny
            refine ⟨o, w2.2.2.2.2.1, ho.l.1, ?_⟩
            rw [r2.1.2.1.1]
            refine ⟨fun c1 => ⟨o, w2.2.2.2.2.1, ho.l.1, ?_⟩, fun c1 => s_miss r2 f2 ho w2 (by omega) (fun u ru fu lu u79 => ⟨⟨by omega, by omega⟩, ?_⟩)⟩
            · have gp : 0 < gn g := by omega
              rw [r2.1.2.1.1]
              refine s_draw (n := gn g) (by omega) gp hl r2 f2 ho w2 (fun u3 r3 f3 w3 u379 => ⟨o, w3.2.2.2.2.1, ho.l.1, ?_⟩)
              rw [r3.1.1.1]
              refine s_draw (n := (g 0 2).toNat) (by omega) (by omega) drL_lt r3 f3 ho w3 (fun u4 r4 f4 w4 u479 => ?_)
              have ti := Nat.mod_lt (drL lt / 8) gp
              have ci := Nat.mod_lt (drL (drL lt) / 8) (show 0 < (g 0 2).toNat by omega)
              refine s_throwThing w rfl rfl ti r4 f4 ho w4 (by omega) (fun c2 u ru fu lu u79 => ⟨⟨by omega, by omega⟩, ?_⟩) (fun c2 u ru fu lu u79 => ⟨⟨by omega, by omega⟩, ?_⟩)
              · have act : lvA d k g lt = (tset g (drL lt / 8 % gn g) 1 ((drL (drL lt) / 8 % (g 0 2).toNat : Nat) : Int) 0, 1, drL (drL lt)) := by unfold lvA; rw [if_neg (by omega), if_neg (by omega), if_neg (by omega), if_pos c0, if_neg (by omega), if_pos c2]
                rw [act] at g9
                generalize hC : drL (drL lt) / 8 % (g 0 2).toNat = C at ci ru g9
                generalize hT : drL lt / 8 % gn g = T at ti ru g9
                have w' : WF 9999 (tset g T 1 (C : Int) 0) := w.th (Or.inr (Or.inl rfl)) ⟨by omega, by omega⟩ (fun q => absurd rfl q)
                refine next (k + 1) _ u _ R (ms + (1 - 1)) (drL (drL lt)) (by omega) (by omega) w' (sg.mo (Mo.eq (fun i _ => tset_n (by omega)))) ru fu ?_ drL_lt (by omega) s300 (sn (by omega)) (en u (fun k => (u79 k).trans ((u479 k).trans (u379 k))) (by omega)) g9
                rw [show ms + (1 - (1 : Int)) = ms by omega]
                exact lu
              · have act : lvA d k g lt = (g, 0, drL (drL lt)) := by unfold lvA; rw [if_neg (by omega), if_neg (by omega), if_neg (by omega), if_pos c0, if_neg (by omega), if_neg c2]
                rw [act] at g9
                refine next (k + 1) _ u _ R (ms + (1 - 0)) (drL (drL lt)) (by omega) (by omega) w sg ru fu ?_ drL_lt (by omega) s300 (sn (by omega)) (en u (fun k => (u79 k).trans ((u479 k).trans (u379 k))) (by omega)) g9
                rw [show ms + (1 - (0 : Int)) = ms + 1 by omega]
                exact lu
            · have act : lvA d k g lt = (g, 0, lt) := by unfold lvA; rw [if_neg (by omega), if_neg (by omega), if_neg (by omega), if_pos c0, if_pos (by omega)]
              rw [act] at g9
              refine next (k + 1) _ u _ R (ms + (1 - 0)) lt (by omega) (by omega) w sg ru fu ?_ hl (by omega) s300 (sn (by omega)) (en u u79 (by omega)) g9
              rw [show ms + (1 - (0 : Int)) = ms + 1 by omega]
              exact lu
          · -- loop
            have g9 := go (by omega)
            have act : lvA d k g lt = (g, 1, lt) := by unfold lvA; rw [if_neg (by omega), if_neg (by omega), if_neg (by omega), if_neg (by omega)]
            rw [lvN_else (by omega), act, if_pos c0] at g9
            rw [if_pos c0] at stp
            subst e47
            refine ⟨⟨by omega, by omega⟩, next (k + 1) _ _ g (rset R k (d 2 k)) (ms + (1 - 1)) lt (by omega) (by omega) w sg (r2.sto (by unfold okO at ho; omega)) (f2.st (Or.inr rfl)) ?_ hl (by omega) s300 stp (fun q hq => ?_) g9⟩
            · rw [show ms + (1 - (1 : Int)) = ms by omega]
              exact w2.fr (fun k => mset_i k (by omega))
            · by_cases y : q = k
              · subst y
                rw [mset_at, rset_e]
              · rw [mset_k y, rset_n y]
                rcases encl_next h10 wd hk2 hq with y2 | y2
                · exact absurd y2 y
                · exact e792 q y2
          · -- stop
            have e9 := lv_stop (f := f) (g := g) (R := R) (ms := ms) (lt := lt) hk2 (show st ≠ 300 by omega) c0
            rw [e9] at hQ
            refine ⟨⟨by omega, by omega⟩, l_X6_liveThrough_36 ?_⟩
            unfold B_X6_liveThrough_36
            have q := hQ h2 lt r2 w f2 w2
            exact ⟨fun _ => q, fun _ => ⟨fun _ => q, fun y => absurd (by decide) y⟩⟩
        · have e9 := lv_300 (f := f) (g := g) (R := R) (ms := ms) (lt := lt) hk2 h10 (show st = 300 by omega)
          rw [e9] at hQ
          subst e55
          refine ⟨⟨by omega, by omega⟩, l_X6_liveThrough_36 ?_⟩
          unfold B_X6_liveThrough_36
          have q := hQ (mset v 78 2 1) lt (r.sto (by unfold okO at ho; omega)) w (fx.st (Or.inl rfl)) (by
            refine ⟨?_, ?_, mset_at, ?_, ?_, ?_⟩
            · rw [mset_k (by omega)]; exact l0
            · rw [mset_k (by omega)]; exact l1
            · rw [mset_k (by omega)]; exact l3
            · rw [mset_k (by omega)]; exact l4
            · rw [mset_k (by omega)]; exact l5)
          exact ⟨fun _ => q, fun _ => ⟨fun _ => q, fun y => absurd (by decide) y⟩⟩
      · -- an end
        obtain ⟨q, x1, x2, x3, x4⟩ := we.2.2.2.2.2.2.2.2.2.2.1 h10
        have e := lv_endE (f := f) (g := g) (R := R) (st := st) (ms := ms) (lt := lt) hk2 h10 x1
        refine s_behindEnd wd hk2 h10 x1 rd l ok e79 (fun c8 c1 => ?_) (fun c8 c1 => ?_) (fun c8 => ?_)
        · rw [if_pos c8, if_pos c1] at e
          have st2 := lv_again (st := st) wd hk2 h10 x1 c8 ok c1
          refine ⟨⟨by omega, by omega⟩, ih (q + 1) _ (i + 1) _ g _ st ms lt rfl (by omega) (by omega) (by omega) w sg (r.sto (by unfold okO at ho; omega)) (fx.st (Or.inr rfl)) (l.fr (fun k => mset_i k (by omega))) hl hst hms st2.1 (fun p hp => ?_) (by omega) (by rw [← e]; exact hQ)⟩
          by_cases y : p = q
          · subst y; rw [mset_at, rset_e]
          · rw [mset_k y, rset_n y]
            rcases encl_again wd hk2 h10 x1 hp with y2 | y2
            · exact absurd y2 y
            · exact e79 p y2.1
        · rw [if_pos c8, if_neg c1] at e
          have st2 := lv_end (st := st) wd hk2 h10 x1 ok (R' := rset R q (R q - 1)) (fun o ho => rset_n ho)
          refine ⟨⟨by omega, by omega⟩, ih (k + 1) _ (i + 1) _ g _ st ms lt rfl (by omega) (by omega) (by omega) w sg (r.sto (by unfold okO at ho; omega)) (fx.st (Or.inr rfl)) (l.fr (fun k => mset_i k (by omega))) hl hst hms st2.1 (fun p hp => ?_) (by omega) (by rw [← e]; exact hQ)⟩
          obtain ⟨y1, y2⟩ := encl_end wd hk2 h10 x1 hp
          rw [mset_k y2, rset_n y2]
          exact e79 p y1
        · rw [if_neg c8] at e
          have st2 := lv_end (st := st) wd hk2 h10 x1 ok (R' := R) (fun o ho => rfl)
          exact ⟨⟨by omega, by omega⟩, ih (k + 1) _ (i + 1) _ g _ st ms lt rfl (by omega) (by omega) (by omega) w sg r fx l hl hst hms st2.1 (fun p hp => e79 p (encl_end wd hk2 h10 x1 hp).1) (by omega) (by rw [← e]; exact hQ)⟩
