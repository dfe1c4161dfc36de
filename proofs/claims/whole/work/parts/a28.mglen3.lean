section MG2
variable {h : Mem} {B : Nat → Int} {n s : Nat} {g : Gs} {T : Nat}
theorem q_aThing {Q : Int → Mem → Prop} (x : MS h B n s) (r : RW h g) (p : GPp B n g T s) (kw : tke B n s = 1 ∧ tke_v B n s = 7)
    (hok : ∀ s' g' u, pThing B n g s = .ok (s', g') → FNf h u → MS u B n s' → RW u g' → u 161 20 = h 161 20 → Q 1 u) (hno : ∀ e u, pThing B n g s = .error e → FNf h u → ME u e → Q 0 u) : F_X12_aThing h Q := by
  obtain ⟨w, sn, t16, z6, nt, nm⟩ := p
  have n8 := gn8 w
  have n4 := gm4 w
  have ws := w.1
  unfold WFs at ws
  have c0 : h 162 1792 = (gn g : Int) := by rw [n8.2]; exact r.1 0 (by omega)
  have E : pThing B n g s = pThing B n g s := rfl
  conv at E => rhs; unfold pThing
  unfold F_X12_aThing F_X12_thingRow
  rw [c0]
  refine ⟨⟨by omega, by omega⟩, ⟨by omega, by omega⟩, ⟨by omega, by omega⟩, ?_⟩
  refine q_newOne (kx := 7) (aN := 1792) (cnt := gn g) (most := 8) (b3 := 0) x r w nt nm kw rfl (by omega) c0 n8.1 rfl rfl (by omega) (fun s1 s2 u1 lt (h1 : pKw B n 7 s = .ok s1) h2 f1 m1 => ⟨fun z => absurd z (by decide), fun _ => ?_⟩) (fun e u he f m => ⟨fun _ => hno e u ?_ (FNf.of f) m, fun z => absurd rfl z⟩)
  · have ef : pFul B n (decide (8 ≤ gn g)) s = .ok s := by unfold pFul; rw [show decide (8 ≤ gn g) = false from decide_eq_false (by omega)]; rfl
    rw [ef, bnd_y, h1, bnd_y, h2, bnd_y] at E
    have C1 := ft_ch (H := h) (fun i l _ => rfl) f1
    have k1 : u1 161 20 = h 161 20 := by rw [f1 161 20 (by omega), mset_i _ (by omega)]
    have F1 : FNf h u1 := (FNf.rf.st (by omega)).tr (FNf.of f1)
    refine mx_wantWord (k := 8) m1 (by omega) rfl (fun s3 u3 (h3 : pKw B n 8 s2 = .ok s3) f3 m3 => ⟨fun z => absurd z (by decide), fun _ => ?_⟩) (fun e u (he : pKw B n 8 s2 = .error e) f m => ⟨fun _ => hno e u (by rw [E, he, bnd_n]) (F1.tr (FNf.of f)) m, fun z => absurd rfl z⟩)
    rw [h3, bnd_y] at E
    have C3 := ft_id C1 f3
    have k3 := (f3 161 20 (by omega)).trans k1
    have F3 := F1.tr (FNf.of f3)
    refine mx_num (aN := 1804 + 7 * gn g) m3 (by omega) (by omega) (fun s4 u4 h4 f4 m4 => ⟨fun _ => ?_, fun z => absurd z (by decide)⟩) (fun e u he f m => ⟨fun z => absurd rfl z, fun _ => hno e u (by rw [E, he, bnd_n]) (F3.tr (FNf.of f)) m⟩)
    rw [h4, bnd_y] at E
    have C4 := ft_ch C3 f4
    have k4 : u4 161 20 = h 161 20 := by rw [f4 161 20 (by omega), mset_i _ (by omega)]; exact k3
    have F4 : FNf h u4 := (F3.st (by omega)).tr (FNf.of f4)
    refine mx_wantWord (k := 9) m4 (by omega) rfl (fun s5 u5 (h5 : pKw B n 9 s4 = .ok s5) f5 m5 => ⟨fun z => absurd z (by decide), fun _ => ⟨⟨by omega, by omega⟩, ?_⟩⟩) (fun e u (he : pKw B n 9 s4 = .error e) f m => ⟨fun _ => hno e u (by rw [E, he, bnd_n]) (F4.tr (FNf.of f)) m, fun z => absurd rfl z⟩)
    rw [h5, bnd_y] at E
    have C5 := ft_id C4 f5
    have k5 := (f5 161 20 (by omega)).trans k4
    have F5 := F4.tr (FNf.of f5)
    refine mx_num (aN := 1804 + 7 * gn g + 1) m5 (by omega) (by omega) (fun s6 u6 h6 f6 m6 => ⟨fun z => absurd z (by decide), fun _ => ?_⟩) (fun e u he f m => ⟨fun _ => hno e u (by rw [E, he, bnd_n]) (F5.tr (FNf.of f)) m, fun z => absurd rfl z⟩)
    rw [h6, bnd_y] at E
    have C6 := ft_ch C5 f6
    have k6 : u6 161 20 = h 161 20 := by rw [f6 161 20 (by omega), mset_i _ (by omega)]; exact k5
    have F6 : FNf h u6 := (F5.st (by omega)).tr (FNf.of f6)
    refine mx_wantWord (k := 10) m6 (by omega) rfl (fun s7 u7 (h7 : pKw B n 10 s6 = .ok s7) f7 m7 => ⟨fun z => absurd z (by decide), fun _ => ⟨⟨by omega, by omega⟩, ?_⟩⟩) (fun e u (he : pKw B n 10 s6 = .error e) f m => ⟨fun _ => hno e u (by rw [E, he, bnd_n]) (F6.tr (FNf.of f)) m, fun z => absurd rfl z⟩)
    rw [h7, bnd_y] at E
    have C7 := ft_id C6 f7
    have k7 := (f7 161 20 (by omega)).trans k6
    have F7 := F6.tr (FNf.of f7)
    refine mx_num (aN := 1804 + 7 * gn g + 2) m7 (by omega) (by omega) (fun s8 u8 h8 f8 m8 => ⟨fun _ => ?_, fun z => absurd z (by decide)⟩) (fun e u he f m => ⟨fun z => absurd rfl z, fun _ => hno e u (by rw [E, he, bnd_n]) (F7.tr (FNf.of f)) m⟩)
    rw [h8, bnd_y] at E
    have C8 := ft_ch C7 f8
    have k8 : u8 161 20 = h 161 20 := by rw [f8 161 20 (by omega), mset_i _ (by omega)]; exact k7
    have F8 : FNf h u8 := (F7.st (by omega)).tr (FNf.of f8)
    refine mx_isThere (k := 11) m8 (by omega) rfl (fun u9 c f9 m9 => ⟨fun z => absurd z (by decide), fun _ => ⟨⟨by omega, by omega⟩, ?_⟩⟩) (fun c => ⟨fun _ => ?_, fun z => absurd rfl z⟩)
    · have c' : tke B n s8 = 1 ∧ tke_v B n s8 = 11 := c
      rw [if_pos c'] at E
      have C9 := ft_id C8 f9
      have k9 := (f9 161 20 (by omega)).trans k8
      have F9 := F8.tr (FNf.of f9)
      have cz : u9 162 1794 = g 0 2 := by
        rw [C9 _ _ (by omega), mset_k (by omega), mset_k (by omega), mset_k (by omega), mset_i _ (by omega)]; exact r.1 2 (by omega)
      refine mx_newCell (aN := 1804 + 7 * gn g + 4) m9 (by omega) (by omega) cz (by omega) (fun sA uA hA fA mA => ⟨fun _ => ⟨⟨by omega, by omega⟩, ⟨by omega, by omega⟩, fun h28 e28 => ?_⟩, fun z => absurd z (by decide)⟩) (fun e u he f m => ⟨fun z => absurd rfl z, fun _ => hno e u (by rw [E, he, bnd_n]) (F9.tr (FNf.of f)) m⟩)
      rw [hA, bnd_y] at E
      have CA := ft_ch C9 fA
      have kA : uA 161 20 = h 161 20 := by rw [fA 161 20 (by omega), mset_i _ (by omega)]; exact k9
      have FA : FNf h uA := (F9.st (by omega)).tr (FNf.of fA)
      rw [show (1792 + (12 + 7 * (gn g : Int)) + 3).toNat = 1804 + 7 * gn g + 3 by omega] at e28
      have cnt : h28 162 1792 = (gn g : Int) := by
        rw [e28, mset_k (by omega), CA _ _ (by omega), mset_k (by omega), mset_k (by omega), mset_k (by omega), mset_k (by omega), mset_i _ (by omega)]; exact c0
      unfold J_X12_aThing_131
      rw [cnt]
      refine ⟨⟨by omega, by omega⟩, fun v ev => ?_⟩
      have CV : ∀ i l, i ≠ 161 → v i l = mset (mset (mset (mset (mset (mset (mset h 163 (48 + 0 + gn g) (c8 (tlt B n s1))) 162 (1804 + 7 * gn g) (tke_v B n s3)) 162 (1804 + 7 * gn g + 1) (tke_v B n s5)) 162 (1804 + 7 * gn g + 2) (tke_v B n s7)) 162 (1804 + 7 * gn g + 4) (tke_v B n (nx B n s8))) 162 (1804 + 7 * gn g + 3) 1) 162 1792 ((gn g : Int) + 1) i l := by
        refine ft_ch (u := v) (h := h28) (ft_ch (u := h28) (h := uA) CA (by rw [e28]; exact FTf.rf)) (by rw [ev]; exact FTf.rf)
      have ks : ∀ f t, ¬ (f = 0 ∧ t = 0) → ¬ (t = gn g ∧ ((1 ≤ f ∧ f ≤ 7) ∨ f = 11)) → tset (newT g (tlt B n s1) (tke_v B n s3) (tke_v B n s5) (tke_v B n s7)) (gn g) 1 (tke_v B n (nx B n s8)) 0 f t = g f t := fun f t q1 q2 => by
        rw [tset_o (by omega), newT_o q1 q2]
      refine hok _ _ v E ?_ ?_ ?_ ?_
      · rw [ev, e28]; exact (FA.st (by omega)).st (by omega)
      · rw [ev, e28]; exact mA.fr (fun i k q => by rw [mset_o (by omega), mset_o (by omega)])
      · refine RW.newT r lt n8.2 ?_ (fun i hi => ks 0 i (by omega) (by omega)) (fun f t q1 q2 => ks f t (by omega) (by omega)) (fun f t q1 q2 => ks f t (by omega) (by omega)) ?_ ?_ ?_ (fun k hk => ?_) ?_ (fun i k q => ?_) n4.1
        · rw [tset_o (by omega), newT_z]
        · unfold tset; rw [if_neg (by omega), if_neg (by omega), if_pos ⟨rfl, rfl⟩]
        · rw [tset_o (by omega), newT_n (by omega)]; simp
        · rw [CV _ _ (by omega), mset_at, n8.2]
        · rw [CV _ _ (by omega), mset_k (by omega)]
          have hk5 : k = 0 ∨ k = 1 ∨ k = 2 ∨ k = 3 ∨ k = 4 := by omega
          rcases hk5 with rfl | rfl | rfl | rfl | rfl
          · rw [mset_k (by omega), mset_k (by omega), mset_k (by omega), mset_k (by omega), tset_o (by omega), newT_n (by omega)]
            exact mset_at
          · rw [mset_k (by omega), mset_k (by omega), mset_k (by omega), mset_at, tset_o (by omega), newT_n (by omega)]; simp
          · rw [mset_k (by omega), mset_k (by omega), mset_at, tset_o (by omega), newT_n (by omega)]; simp
          · rw [mset_at]; unfold tset; rw [if_pos ⟨rfl, rfl⟩]
          · rw [mset_k (by omega), mset_at]; unfold tset; rw [if_neg (by omega), if_pos ⟨rfl, rfl⟩]
        · rw [CV _ _ (by omega), mset_i _ (by omega), mset_i _ (by omega), mset_i _ (by omega), mset_i _ (by omega), mset_i _ (by omega), mset_i _ (by omega), tset_o (by omega), newT_n (by omega), if_pos rfl]
          have : 48 + 0 + gn g = 48 + gn g := by omega
          rw [this]; exact mset_at
        · rw [CV _ _ (by omega), mset_o (by omega), mset_o (by omega), mset_o (by omega), mset_o (by omega), mset_o (by omega), mset_o (by omega), mset_o (by omega)]
      · rw [ev, mset_i _ (by omega), e28, mset_i _ (by omega)]; exact kA
    · have c' : ¬ (tke B n s8 = 1 ∧ tke_v B n s8 = 11) := c
      rw [if_neg c'] at E
      have cnt : u8 162 1792 = (gn g : Int) := by
        rw [C8 _ _ (by omega), mset_k (by omega), mset_k (by omega), mset_k (by omega), mset_i _ (by omega)]; exact c0
      unfold J_X12_aThing_131
      rw [cnt]
      refine ⟨⟨by omega, by omega⟩, fun v ev => ?_⟩
      have CV : ∀ i l, i ≠ 161 → v i l = mset (mset (mset (mset (mset h 163 (48 + 0 + gn g) (c8 (tlt B n s1))) 162 (1804 + 7 * gn g) (tke_v B n s3)) 162 (1804 + 7 * gn g + 1) (tke_v B n s5)) 162 (1804 + 7 * gn g + 2) (tke_v B n s7)) 162 1792 ((gn g : Int) + 1) i l := ft_ch (u := v) (h := u8) C8 (by rw [ev]; exact FTf.rf)
      refine hok _ _ v E ?_ ?_ ?_ ?_
      · rw [ev]; exact F8.st (by omega)
      · rw [ev]; exact m8.fr (fun i k q => mset_o (by omega))
      · refine RW.newT r lt n8.2 newT_z (fun i hi => newT_o (by omega) (by omega)) (fun f t q1 q2 => newT_o (by omega) (by omega)) (fun f t q1 q2 => newT_o (by omega) (by omega)) ?_ ?_ ?_ (fun k hk => ?_) ?_ (fun i k q => ?_) n4.1
        · rw [newT_n (by omega)]; simp
        · rw [newT_n (by omega)]; simp
        · rw [CV _ _ (by omega), mset_at, n8.2]
        · rw [CV _ _ (by omega), mset_k (by omega), newT_n (by omega)]
          have hk5 : k = 0 ∨ k = 1 ∨ k = 2 ∨ k = 3 ∨ k = 4 := by omega
          rcases hk5 with rfl | rfl | rfl | rfl | rfl
          · rw [mset_k (by omega), mset_k (by omega)]
            exact mset_at
          · rw [mset_k (by omega), mset_at]; simp
          · rw [mset_at]; simp
          · rw [mset_k (by omega), mset_k (by omega), mset_k (by omega), mset_i _ (by omega), r.2.2.2.2.2.1 _ (by omega) (by omega)]; simp
          · rw [mset_k (by omega), mset_k (by omega), mset_k (by omega), mset_i _ (by omega), r.2.2.2.2.2.1 _ (by omega) (by omega)]; simp
        · rw [CV _ _ (by omega), mset_i _ (by omega), mset_i _ (by omega), mset_i _ (by omega), mset_i _ (by omega), newT_n (by omega), if_pos rfl]
          have : 48 + 0 + gn g = 48 + gn g := by omega
          rw [this]; exact mset_at
        · rw [CV _ _ (by omega), mset_o (by omega), mset_o (by omega), mset_o (by omega), mset_o (by omega), mset_o (by omega)]
      · rw [ev, mset_i _ (by omega)]; exact k8
  · rw [E]
    cases d0 : pFul B n (decide (8 ≤ gn g)) s with
    | error e2 => rw [d0, bnd_n] at he; rw [bnd_n]; cases he; rfl
    | ok a =>
      rw [d0, bnd_y] at he
      rw [bnd_y]
      have he : bnd (pKw B n 7 a) (pNew B n g) = .error e := he
      cases d1 : pKw B n 7 a with
      | error e2 => rw [d1, bnd_n] at he; rw [bnd_n]; cases he; rfl
      | ok s1 => rw [d1, bnd_y] at he; rw [bnd_y, he, bnd_n]
theorem q_aMill {Q : Int → Mem → Prop} (x : MS h B n s) (r : RW h g) (p : GPp B n g T s) (kw : tke B n s = 1 ∧ tke_v B n s = 12)
    (hok : ∀ s' g' u, pMill B n g s = .ok (s', g') → FNf h u → MS u B n s' → RW u g' → u 161 20 = h 161 20 → Q 1 u) (hno : ∀ e u, pMill B n g s = .error e → FNf h u → ME u e → Q 0 u) : F_X12_aMill h Q := by
  obtain ⟨w, sn, t16, z6, nt, nm⟩ := p
  have n8 := gn8 w
  have n4 := gm4 w
  have ws := w.1
  unfold WFs at ws
  have c0 : h 162 1793 = (gm g : Int) := by rw [n4.2]; exact r.1 1 (by omega)
  have E : pMill B n g s = pMill B n g s := rfl
  conv at E => rhs; unfold pMill
  unfold F_X12_aMill F_X12_millRow
  rw [c0]
  refine ⟨⟨by omega, by omega⟩, ⟨by omega, by omega⟩, ⟨by omega, by omega⟩, ?_⟩
  refine q_newOne (kx := 12) (aN := 1793) (cnt := gm g) (most := 4) (b3 := 8) x r w nt nm kw rfl (by omega) c0 n4.1 rfl rfl (by omega) (fun s1 s2 u1 lt (h1 : pKw B n 12 s = .ok s1) h2 f1 m1 => ⟨fun z => absurd z (by decide), fun _ => ?_⟩) (fun e u he f m => ⟨fun _ => hno e u ?_ (FNf.of f) m, fun z => absurd rfl z⟩)
  · have ef : pFul B n (decide (4 ≤ gm g)) s = .ok s := by unfold pFul; rw [show decide (4 ≤ gm g) = false from decide_eq_false (by omega)]; rfl
    rw [ef, bnd_y, h1, bnd_y, h2, bnd_y] at E
    have C1 := ft_ch (H := h) (fun i l _ => rfl) f1
    have k1 : u1 161 20 = h 161 20 := by rw [f1 161 20 (by omega), mset_i _ (by omega)]
    have F1 : FNf h u1 := (FNf.rf.st (by omega)).tr (FNf.of f1)
    refine mx_wantWord (k := 13) m1 (by omega) rfl (fun s3 u3 (h3 : pKw B n 13 s2 = .ok s3) f3 m3 => ⟨fun z => absurd z (by decide), fun _ => ?_⟩) (fun e u (he : pKw B n 13 s2 = .error e) f m => ⟨fun _ => hno e u (by rw [E, he, bnd_n]) (F1.tr (FNf.of f)) m, fun z => absurd rfl z⟩)
    rw [h3, bnd_y] at E
    have C3 := ft_id C1 f3
    have k3 := (f3 161 20 (by omega)).trans k1
    have F3 := F1.tr (FNf.of f3)
    have cz : u3 162 1794 = g 0 2 := by
      rw [C3 _ _ (by omega), mset_i _ (by omega)]; exact r.1 2 (by omega)
    refine mx_newCell (aN := 1860 + 3 * gm g) m3 (by omega) (by omega) cz (by omega) (fun s4 u4 h4 f4 m4 => ⟨fun _ => ?_, fun z => absurd z (by decide)⟩) (fun e u he f m => ⟨fun z => absurd rfl z, fun _ => hno e u (by rw [E, he, bnd_n]) (F3.tr (FNf.of f)) m⟩)
    rw [h4, bnd_y] at E
    have C4 := ft_ch C3 f4
    have k4 : u4 161 20 = h 161 20 := by rw [f4 161 20 (by omega), mset_i _ (by omega)]; exact k3
    have F4 : FNf h u4 := (F3.st (by omega)).tr (FNf.of f4)
    have bad : ¬ (4 ≤ xk B n s4 ∧ xk B n s4 ≤ 6) → F_X12_fails u4 2 (fun r14 h13 => (InZ r14 ∧ Q r14 h13)) := fun c => by
      refine mx_failsZ m4 (by decide) (fun v e ee fv mv => hno e v ?_ (F4.tr (FNf.of fv)) mv)
      have ep : pKd B n s4 = .error e := by unfold pKd; rw [if_neg c]; exact ee
      rw [E, ep, bnd_n]
    have kk : (6 ≤ wk B n s4 ∧ wk B n s4 ≤ 8 ↔ 4 ≤ xk B n s4 ∧ xk B n s4 ≤ 6) ∧ (4 ≤ xk B n s4 → xk B n s4 ≤ 6 → wk B n s4 - 6 = xk B n s4 - 4) := by
      unfold wk xk
      by_cases c : tke B n s4 = 1
      · rw [if_pos c, if_pos c]
        have kv := kwv_in c
        by_cases d : tke_v B n s4 = -1
        · rw [d]
          have : kj (-1) = -1 := rfl
          rw [this]
          exact ⟨by omega, by omega⟩
        · obtain ⟨m, hm⟩ : ∃ m : Nat, tke_v B n s4 = m := ⟨(tke_v B n s4).toNat, by omega⟩
          rw [hm]
          have := kj_kind m (by omega)
          exact ⟨by omega, fun q1 q2 => this.2 (by omega) (by omega)⟩
      · rw [if_neg c, if_neg c]
        exact ⟨by omega, by omega⟩
    refine q_inWords m4.1 ⟨fun q => bad (by omega), fun q => ⟨fun q2 => ?_, fun q2 => bad (by omega)⟩⟩
    have kd := kk.1.mp ⟨by omega, q2⟩
    have kv := kk.2 kd.1 kd.2
    have k1 : tke B n s4 = 1 := (xk_kw (by omega)).1
    have ep : pKd B n s4 = .ok (nx B n s4) := by unfold pKd; rw [if_pos kd]
    rw [ep, bnd_y] at E
    refine ⟨⟨by omega, by omega⟩, ⟨by omega, by omega⟩, ⟨by omega, by omega⟩, fun h18 e18 => ?_⟩
    rw [kv, show (1792 + (68 + 3 * (gm g : Int)) + 1).toNat = 1860 + 3 * gm g + 1 by omega] at e18
    have m18 : MS h18 B n s4 := by rw [e18]; exact m4.fr (fun i k q => mset_o (by omega))
    refine mx_ahead m18 (by omega) (fun h19 f19 m19 => ?_)
    rw [e18] at f19
    have C19 := ft_ch C4 f19
    have k19 : h19 161 20 = h 161 20 := by rw [f19 161 20 (by omega), mset_i _ (by omega)]; exact k4
    have F19 : FNf h h19 := (F4.st (by omega)).tr (FNf.of f19)
    have cnt : h19 162 1793 = (gm g : Int) := by
      rw [C19 _ _ (by omega), mset_k (by omega), mset_k (by omega), mset_i _ (by omega)]; exact c0
    rw [cnt]
    refine ⟨⟨by omega, by omega⟩, fun v ev => ?_⟩
    have CV : ∀ i l, i ≠ 161 → v i l = mset (mset (mset (mset h 163 (48 + 8 + gm g) (c8 (tlt B n s1))) 162 (1860 + 3 * gm g) (tke_v B n s3)) 162 (1860 + 3 * gm g + 1) (xk B n s4 - 4)) 162 1793 ((gm g : Int) + 1) i l := ft_ch (u := v) (h := h19) C19 (by rw [ev]; exact FTf.rf)
    refine hok _ _ v E ?_ ?_ ?_ ?_
    · rw [ev]; exact F19.st (by omega)
    · rw [ev]; exact m19.fr (fun i k q => mset_o (by omega))
    · refine RW.newM r lt n4.2 newM_z (fun i hi => newM_o (by omega) (by omega)) (fun f t q1 q2 => newM_o (by omega) (by omega)) (fun f t q1 q2 => newM_o (by omega) (by omega)) ?_ ?_ (fun k hk => ?_) ?_ (fun i k q => ?_) n8.1
      · rw [newM_n (by omega)]; simp
      · rw [CV _ _ (by omega), mset_at, n4.2]
      · rw [CV _ _ (by omega), mset_k (by omega), newM_n (by omega)]
        have hk5 : k = 0 ∨ k = 1 := by omega
        rcases hk5 with rfl | rfl
        · rw [mset_k (by omega)]
          exact mset_at
        · rw [mset_at]; simp
      · rw [CV _ _ (by omega), mset_i _ (by omega), mset_i _ (by omega), mset_i _ (by omega), newM_n (by omega), if_pos rfl]
        have : 48 + 8 + gm g = 56 + gm g := by omega
        rw [this]; exact mset_at
      · rw [CV _ _ (by omega), mset_o (by omega), mset_o (by omega), mset_o (by omega), mset_o (by omega)]
    · rw [ev, mset_i _ (by omega)]; exact k19
  · rw [E]
    cases d0 : pFul B n (decide (4 ≤ gm g)) s with
    | error e2 => rw [d0, bnd_n] at he; rw [bnd_n]; cases he; rfl
    | ok a =>
      rw [d0, bnd_y] at he
      rw [bnd_y]
      have he : bnd (pKw B n 12 a) (pNew B n g) = .error e := he
      cases d1 : pKw B n 12 a with
      | error e2 => rw [d1, bnd_n] at he; rw [bnd_n]; cases he; rfl
      | ok s1 => rw [d1, bnd_y] at he; rw [bnd_y, he, bnd_n]
end MG2
