def bz (k : Nat) : Nat := if 0 < k then 1 else 0
theorem bz_lt {k : Nat} : bz k < 2 := by unfold bz; split <;> omega
theorem bz_one {k : Nat} : bz k = 1 ↔ 0 < k := by unfold bz; split <;> omega
def TO (h : Mem) (T : Nat) (g : Gs) : Prop := h 161 20 = ((rT T (bz (gn g)) (bz (gm g)) : Nat) : Int)
theorem rB_long {T : Nat} {g : Gs} : rB T (bz (gn g)) (bz (gm g)) = longB g T := by
  unfold rB longB
  rw [show decide (bz (gn g) = 1) = decide (0 < gn g) from decide_eq_decide.mpr bz_one, show decide (bz (gm g) = 1) = decide (0 < gm g) from decide_eq_decide.mpr bz_one]
theorem wk_xk {B : Nat → Int} {n s : Nat} : (xk B n s = -1 ∧ wk B n s = -1) ∨ ∃ i : Nat, i < 24 ∧ xk B n s = i ∧ wk B n s = kj i ∧ tke B n s = 1 ∧ tke_v B n s = i := by
  unfold xk wk
  by_cases c : tke B n s = 1
  · rw [if_pos c, if_pos c]
    have kv := kwv_in c
    by_cases d : tke_v B n s = -1
    · left; rw [d]; exact ⟨rfl, rfl⟩
    · right
      exact ⟨(tke_v B n s).toNat, by omega, by omega, by rw [show (((tke_v B n s).toNat : Nat) : Int) = tke_v B n s by omega], c, by omega⟩
  · rw [if_neg c, if_neg c]; exact Or.inl ⟨rfl, rfl⟩
section MG3
variable {h : Mem} {B : Nat → Int} {n s : Nat} {g : Gs} {T : Nat}
theorem q_semi {s1 T' : Nat} {g1 : Gs} {u : Mem} {Q : Int → Mem → Prop} (p : Except (Int × Nat) (Nat × Gs)) (E : p = .ok (s1, g1)) (w : gn g1 ≤ 8 ∧ gm g1 ≤ 4) (f : FNf h u) (m : MS u B n s1) (r : RW u g1) (t : TO u T' g1)
    (hok : ∀ s' g' u, semi B n p = .ok (s', g') → FNf h u → MS u B n s' → RW u g' → TO u T' g' → Q 1 u) (hno : ∀ e u, semi B n p = .error e → FNf h u → ME u e → Q 0 u) : J_X12_glenPart_175 u 1 Q := by
  have E2 : semi B n p = bnd (pSg B n 59 s1) (fun s' => .ok (s', g1)) := by unfold semi; rw [E, bnd_y]
  unfold J_X12_glenPart_175
  refine ⟨fun z => absurd z (by decide), fun _ => ?_⟩
  refine mx_wantSign m (fun s' v e fv mv => ⟨fun z => absurd z (by decide), fun _ => ?_⟩) (fun e v he fv mv => ⟨fun _ => hno e v (by rw [E2, he, bnd_n]) (f.tr (FNf.of fv)) mv, fun z => absurd rfl z⟩)
  refine hok s' g1 v (by rw [E2, e, bnd_y]) (f.tr (FNf.of fv)) mv (r.same w (fun i k q => fv i k (by omega))) ?_
  unfold TO
  rw [fv 161 20 (by omega)]; exact t
theorem q_semiN {u : Mem} {e : Int × Nat} {T' : Nat} {Q : Int → Mem → Prop} (p : Except (Int × Nat) (Nat × Gs)) (E : p = .error e) (f : FNf h u) (m : ME u e) (hno : ∀ e u, semi B n p = .error e → FNf h u → ME u e → Q 0 u) : J_X12_glenPart_175 u 0 Q := by
  unfold J_X12_glenPart_175
  exact ⟨fun _ => hno e u (by unfold semi; rw [E, bnd_n]) f m, fun z => absurd rfl z⟩
theorem q_glenPart {Q : Int → Mem → Prop} (x : MS h B n s) (r : RW h g) (t : TO h T g) (p : GPp B n g T s)
    (hok : ∀ s' g' u, semi B n (pPart B n g T s) = .ok (s', g') → FNf h u → MS u B n s' → RW u g' → TO u (toldN B n T s) g' → Q 1 u) (hno : ∀ e u, semi B n (pPart B n g T s) = .error e → FNf h u → ME u e → Q 0 u) : F_X12_glenPart h Q := by
  have n84 : gn g ≤ 8 ∧ gm g ≤ 4 := ⟨(gn8 p.1).1, (gm4 p.1).1⟩
  have t16 := p.2.2.1
  have wsn : ∀ s' g', pPart B n g T s = .ok (s', g') → gn g' ≤ 8 ∧ gm g' ≤ 4 := fun s' g' e => by
    have := (gp_part p e).1.1
    exact ⟨(gn8 this).1, (gm4 this).1⟩
  have bad : ∀ w : Int, 0 < w → pPart B n g T s = flt B n s w → F_X12_fails h w (fun r4 h3 => (InZ r4 ∧ Q r4 h3)) := fun w hw ep => by
    refine mx_failsZ x hw (fun v e ee fv mv => hno e v ?_ (FNf.of fv) mv)
    have e2 : (flt B n s w : Except (Int × Nat) (Nat × Gs)) = .error e := by
      unfold flt at ee ⊢
      cases ee; rfl
    unfold semi
    rw [ep, e2, bnd_n]
  unfold F_X12_glenPart
  refine q_inWords x.1 ?_
  rcases wk_xk (B := B) (n := n) (s := s) with ⟨c1, c2⟩ | ⟨i, i24, c1, c2, c3, c4⟩
  · rw [c2]
    refine ⟨fun _ => bad 2 (by decide) ?_, fun z => absurd (by decide) z⟩
    unfold pPart
    rw [c1, if_neg (by decide), if_neg (by decide), if_neg (by decide), if_neg (by decide), if_neg (by decide), if_neg (by decide)]
  · have kp := kj_part i i24
    have k0 := (jk_kj i i24).1
    rw [c2]
    refine ⟨fun z => absurd z (by omega), fun _ => ⟨fun k5 => ?_, fun k5 => bad 2 (by decide) ?_⟩⟩
    · have ii := kp.1.mp k5
      have toldS : ∀ k : Nat, k < 4 → i = k → toldN B n T s = sT T k := fun k hk e => by
        unfold toldN
        rw [c1, if_pos (by omega), Int.toNat_natCast, e]
      have told7 : 7 ≤ i → toldN B n T s = T := fun q => by
        unfold toldN
        rw [c1, if_neg (by omega)]
      -- scalars
      have scal : ∀ (k j : Nat) (b : Bool) (lo hi : Int), k < 3 → i = k → j = k + 2 → pPart B n g T s = pScal B n g b j lo hi s → (iand (ishr (h 161 20) (k : Int)) 1 = 1 ↔ b = true) → (∀ (v : Mem) (Q2 : Int → Mem → Prop), F_X12_number v (1794 + (k : Int)) lo hi (fun r16 h15 => J_X12_glenPart_175 h15 r16 Q2) → J_X12_glenPart_77 v (k : Int) Q2) → (((3 : Int) < (k : Int) → J_X12_glenPart_45 h (k : Int) Q) ∧ (¬ ((3 : Int) < (k : Int)) → ((¬ (iand (ishr (h 161 20) (k : Int)) 1 = 1) → J_X12_glenPart_45 h (k : Int) Q) ∧ (iand (ishr (h 161 20) (k : Int)) 1 = 1 → F_X12_fails h 5 (fun r6 h5 => (InZ r6 ∧ Q r6 h5)))))) := fun k j b lo hi hk ik jk2 ep tb j77 => by
        refine ⟨fun z => absurd z (by omega), fun _ => ⟨fun q => ?_, fun q => bad 5 (by decide) ?_⟩⟩
        · have bf : b = false := by
            cases b with
            | false => rfl
            | true => exact absurd (tb.mpr rfl) q
          unfold J_X12_glenPart_45
          refine ⟨fun _ h9 e9 => ⟨fun z => absurd z (by omega), fun _ => ?_⟩, fun z => absurd (by omega) z⟩
          have x9 : MS h9 B n s := by rw [e9]; exact x.fr (fun i k q => mset_o (by omega))
          refine mx_ahead x9 (by omega) (fun v fv mv => j77 v Q ?_)
          have FV : FNf h v := by
            refine FNf.tr ?_ (FNf.of fv)
            rw [e9]; exact FNf.rf.st (by omega)
          have EP : pPart B n g T s = bnd (pNo B n lo hi (nx B n s)) (fun s2 => .ok (s2, sset g j (tke_v B n (nx B n s)))) := by
            rw [ep, bf]
            rfl
          have rv : RW v g := r.same n84 (fun i k q => by rw [fv i k (by omega), e9, mset_o (by omega)])
          refine mx_num (aN := 1794 + k) mv (by omega) (by omega) (fun s2 w e2 fw mw => ?_) (fun e w e2 fw mw => q_semiN (h := h) (T' := 0) _ (by rw [EP, e2, bnd_n]) (FV.tr (FNf.of fw)) mw hno)
          have E3 : pPart B n g T s = .ok (s2, sset g j (tke_v B n (nx B n s))) := by rw [EP, e2, bnd_y]
          have w84 := wsn _ _ E3
          have en := ks_names (g := g) (i := j) (v := tke_v B n (nx B n s)) (by omega)
          refine q_semi (h := h) (T' := toldN B n T s) _ E3 w84 (((FV.st (i := 162) (k := 1794 + k) (v := tke_v B n (nx B n s)) (by omega))).tr (FNf.of fw)) mw ?_ ?_ hok hno
          · have r2 := RW.setS (i := j) (v := tke_v B n (nx B n s)) (x := ((1792 + j : Nat) : Int)) n84 rv (by omega) rfl
            rw [Int.toNat_natCast] at r2
            refine r2.same w84 (fun a b q => ?_)
            rw [fw a b (by omega), show 1794 + k = 1792 + j by omega]
          · unfold TO
            rw [fw 161 20 (by omega), mset_i _ (by omega), fv 161 20 (by omega), e9, mset_at, t, told_ms T t16 _ bz_lt _ bz_lt k hk, toldS k (by omega) ik, en.1, en.2.1]
        · rw [ep]
          unfold pScal pOn
          rw [if_pos (tb.mp q)]
          rfl
      rcases ii with i3 | i7 | i12
      · have kji := kp.2 i3
        rw [kji]
        have hi4 : i = 0 ∨ i = 1 ∨ i = 2 ∨ i = 3 := by omega
        rcases hi4 with rfl | rfl | rfl | rfl
        · refine scal 0 2 (longB g T) 2 16 (by omega) rfl rfl ?_ ?_ (fun v Q2 q => ?_)
          · unfold pPart; rw [if_pos (by rw [c1]; rfl)]
          · rw [t]
            have := told_m0 T t16 _ (bz_lt (k := gn g)) _ (bz_lt (k := gm g))
            rw [rB_long] at this
            exact this
          · unfold J_X12_glenPart_77
            exact ⟨fun _ => q, fun z => absurd z (by decide), fun z => absurd z (by decide), fun z => absurd z (by decide), fun z => absurd z (by decide), fun z => absurd z (by decide)⟩
        · refine scal 1 3 (T.testBit 1) 1 40 (by omega) rfl rfl ?_ ?_ (fun v Q2 q => ?_)
          · unfold pPart; rw [if_neg (by rw [c1]; decide), if_pos (by rw [c1]; rfl)]
          · rw [t]; exact told_mk T t16 _ bz_lt _ bz_lt 0 (by omega)
          · unfold J_X12_glenPart_77
            exact ⟨fun z => absurd z (by decide), fun _ => q, fun z => absurd z (by decide), fun z => absurd z (by decide), fun z => absurd z (by decide), fun z => absurd z (by decide)⟩
        · refine scal 2 4 (T.testBit 2) 0 16 (by omega) rfl rfl ?_ ?_ (fun v Q2 q => ?_)
          · unfold pPart; rw [if_neg (by rw [c1]; decide), if_neg (by rw [c1]; decide), if_pos (by rw [c1]; rfl)]
          · rw [t]; exact told_mk T t16 _ bz_lt _ bz_lt 1 (by omega)
          · unfold J_X12_glenPart_77
            exact ⟨fun z => absurd z (by decide), fun z => absurd z (by decide), fun _ => q, fun z => absurd z (by decide), fun z => absurd z (by decide), fun z => absurd z (by decide)⟩
        · have ep : pPart B n g T s = pStream B n g (T.testBit 3) s := by unfold pPart; rw [if_neg (by rw [c1]; decide), if_neg (by rw [c1]; decide), if_neg (by rw [c1]; decide), if_pos (by rw [c1]; rfl)]
          have tb : iand (ishr (h 161 20) ((3 : Nat) : Int)) 1 = 1 ↔ T.testBit 3 = true := by rw [t]; exact told_mk T t16 _ bz_lt _ bz_lt 2 (by omega)
          refine ⟨fun z => absurd z (by decide), fun _ => ⟨fun q => ?_, fun q => bad 5 (by decide) ?_⟩⟩
          · have bf : T.testBit 3 = false := by
              cases d : T.testBit 3 with
              | false => rfl
              | true => exact absurd (tb.mpr d) q
            unfold J_X12_glenPart_45
            refine ⟨fun z => absurd z (by decide), fun _ h12 e12 => ⟨fun z => absurd z (by decide), fun _ => ?_⟩⟩
            have x9 : MS h12 B n s := by rw [e12]; exact x.fr (fun i k q => mset_o (by omega))
            refine mx_ahead x9 (by omega) (fun v fv mv => ?_)
            have FV : FNf h v := by
              refine FNf.tr ?_ (FNf.of fv)
              rw [e12]; exact FNf.rf.st (by omega)
            have rv : RW v g := r.same n84 (fun i k q => by rw [fv i k (by omega), e12, mset_o (by omega)])
            have tv : v 161 20 = ((rT (sT T 3) (bz (gn g)) (bz (gm g)) : Nat) : Int) := by
              rw [fv 161 20 (by omega), e12, mset_at, t]
              exact told_m3 T t16 _ bz_lt _ bz_lt
            unfold J_X12_glenPart_77
            refine ⟨fun z => absurd z (by decide), fun z => absurd z (by decide), fun z => absurd z (by decide), fun _ => ?_, fun z => absurd z (by decide), fun z => absurd z (by decide)⟩
            refine q_aStream (b := T.testBit 3) (s := s) mv rv p.1 (by unfold pOn; rw [bf]; rfl) (fun s' g' u e f m r2 t2 => ?_) (fun e u e2 f m => q_semiN (h := h) (T' := 0) _ (by rw [ep, e2]) (FV.tr f) m hno)
            have E3 : pPart B n g T s = .ok (s', g') := by rw [ep, e]
            have nn : gn g' = gn g ∧ gm g' = gm g := by
              unfold pStream at e
              obtain ⟨s1, h1, e⟩ := bnd_ok e
              obtain ⟨s2, h2, e⟩ := bnd_ok e
              have a1 := ks_names (g := g) (i := 6) (v := tke_v B n s1) (by omega)
              have a2 := ks_names (g := sset g 6 (tke_v B n s1)) (i := 7) (v := 0) (by omega)
              by_cases cc : tke B n s2 = 1 ∧ tke_v B n s2 = 4
              · rw [if_pos cc] at e; cases e
                exact ⟨a2.1.trans a1.1, a2.2.1.trans a1.2.1⟩
              · rw [if_neg cc] at e; cases e
                exact ⟨a1.1, a1.2.1⟩
            refine q_semi (h := h) (T' := toldN B n T s) _ E3 (wsn _ _ E3) (FV.tr f) m r2 ?_ hok hno
            unfold TO
            rw [t2, tv, nn.1, nn.2, toldS 3 (by omega) rfl]
          · rw [ep]
            unfold pStream pOn
            rw [if_pos (tb.mp q)]
            rfl
      · subst i7
        have ep : pPart B n g T s = pThing B n g s := by unfold pPart; rw [if_neg (by rw [c1]; decide), if_neg (by rw [c1]; decide), if_neg (by rw [c1]; decide), if_neg (by rw [c1]; decide), if_pos (by rw [c1]; rfl)]
        have e4 : kj ((7 : Nat) : Int) = 4 := by decide
        rw [e4]
        refine ⟨fun _ => ?_, fun z => absurd (by decide) z⟩
        unfold J_X12_glenPart_45
        refine ⟨fun z => absurd z (by decide), fun _ h12 e12 => ⟨fun _ => ?_, fun z => absurd (by decide) z⟩⟩
        have x9 : MS h12 B n s := by rw [e12]; exact x.fr (fun i k q => mset_o (by omega))
        have r9 : RW h12 g := r.same n84 (fun i k q => by rw [e12, mset_o (by omega)])
        have F12 : FNf h h12 := by rw [e12]; exact FNf.rf.st (by omega)
        have tv : h12 161 20 = ((rT T 1 (bz (gm g)) : Nat) : Int) := by
          rw [e12, mset_at, t]
          exact told_m4 T t16 _ bz_lt _ bz_lt
        unfold J_X12_glenPart_77
        refine ⟨fun z => absurd z (by decide), fun z => absurd z (by decide), fun z => absurd z (by decide), fun z => absurd z (by decide), fun _ => ?_, fun z => absurd z (by decide)⟩
        refine q_aThing x9 r9 p ⟨c3, c4⟩ (fun s' g' u e f m r2 t2 => ?_) (fun e u e2 f m => q_semiN (h := h) (T' := 0) _ (by rw [ep, e2]) (F12.tr f) m hno)
        have E3 : pPart B n g T s = .ok (s', g') := by rw [ep, e]
        have nn : 0 < gn g' ∧ gm g' = gm g := by
          have w1 := p.1.1
          unfold WFs at w1
          rcases thing_split B n g s with ⟨e9, e1, e2⟩ | ⟨s1, s2, s3, s4, s5, s6, s7, s8, q1, q2, q3, q4, q5, q6, q7, q8, q9, qA, qB⟩
          · rw [e2] at e; cases e
          · rw [qB] at e
            have a1 := gn_newT (g := g) (a := tlt B n s1) (b := tke_v B n s3) (c := tke_v B n s5) (d := tke_v B n s7) w1.1
            have a2 := gm_newT (g := g) (a := tlt B n s1) (b := tke_v B n s3) (c := tke_v B n s5) (d := tke_v B n s7)
            by_cases cc : tke B n s8 = 1 ∧ tke_v B n s8 = 11
            · rw [if_pos cc] at e
              obtain ⟨s9, h9, e⟩ := bnd_ok e
              cases e
              refine ⟨by rw [gn_tset, a1]; omega, ?_⟩
              rw [← a2]; unfold gm; rw [tset_o (by omega)]
            · rw [if_neg cc] at e
              cases e
              exact ⟨by rw [a1]; omega, a2⟩
        refine q_semi (h := h) (T' := toldN B n T s) _ E3 (wsn _ _ E3) (F12.tr f) m r2 ?_ hok hno
        unfold TO
        rw [t2, tv, nn.2, told7 (by omega), bz_one.mpr nn.1]
      · subst i12
        have ep : pPart B n g T s = pMill B n g s := by unfold pPart; rw [if_neg (by rw [c1]; decide), if_neg (by rw [c1]; decide), if_neg (by rw [c1]; decide), if_neg (by rw [c1]; decide), if_neg (by rw [c1]; decide), if_pos (by rw [c1]; rfl)]
        have e4 : kj ((12 : Nat) : Int) = 5 := by decide
        rw [e4]
        refine ⟨fun _ => ?_, fun z => absurd (by decide) z⟩
        unfold J_X12_glenPart_45
        refine ⟨fun z => absurd z (by decide), fun _ h12 e12 => ⟨fun _ => ?_, fun z => absurd (by decide) z⟩⟩
        have x9 : MS h12 B n s := by rw [e12]; exact x.fr (fun i k q => mset_o (by omega))
        have r9 : RW h12 g := r.same n84 (fun i k q => by rw [e12, mset_o (by omega)])
        have F12 : FNf h h12 := by rw [e12]; exact FNf.rf.st (by omega)
        have tv : h12 161 20 = ((rT T (bz (gn g)) 1 : Nat) : Int) := by
          rw [e12, mset_at, t]
          exact told_m5 T t16 _ bz_lt _ bz_lt
        unfold J_X12_glenPart_77
        refine ⟨fun z => absurd z (by decide), fun z => absurd z (by decide), fun z => absurd z (by decide), fun z => absurd z (by decide), fun z => absurd z (by decide), fun _ => ?_⟩
        refine q_aMill x9 r9 p ⟨c3, c4⟩ (fun s' g' u e f m r2 t2 => ?_) (fun e u e2 f m => q_semiN (h := h) (T' := 0) _ (by rw [ep, e2]) (F12.tr f) m hno)
        have E3 : pPart B n g T s = .ok (s', g') := by rw [ep, e]
        have nn : gn g' = gn g ∧ 0 < gm g' := by
          have w1 := p.1.1
          unfold WFs at w1
          rcases mill_split B n g s with ⟨e9, e1, e2⟩ | ⟨s1, s2, s3, s4, s5, q1, q2, q3, q4, q5, q6, q7, q8, q9⟩
          · rw [e2] at e; cases e
          · rw [q9] at e
            cases e
            exact ⟨gn_newM, by rw [gm_newM w1.2.2.1]; omega⟩
        refine q_semi (h := h) (T' := toldN B n T s) _ E3 (wsn _ _ E3) (F12.tr f) m r2 ?_ hok hno
        unfold TO
        rw [t2, tv, nn.1, told7 (by omega), bz_one.mpr nn.2]
    · have nn := mt kp.1.mpr k5
      unfold pPart
      rw [c1, if_neg (by omega), if_neg (by omega), if_neg (by omega), if_neg (by omega), if_neg (by omega), if_neg (by omega)]
end MG3
