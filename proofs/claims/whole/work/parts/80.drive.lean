/-! drive, driveCell -/
theorem pass_10 {g : Gs} {m : Nat} : pass g 10 m = g 10 m ∨ pass g 10 m = g 10 m + 1 := by
  have q := move_10 (g := hourG g) (m := m)
  rw [hour_n (by omega)] at q
  unfold pass growG takeG
  rw [upTo_lo (by omega), upTo_lo (by omega)]
  exact q
theorem passN_10 {m : Nat} : ∀ (k : Nat) (g : Gs), g 10 m ≤ passN k g 10 m := by
  intro k
  induction k with
  | zero => intro g; exact Int.le_refl _
  | succ k ih =>
    intro g
    have q1 := ih (pass g)
    have q2 := pass_10 (g := g) (m := m)
    show g 10 m ≤ passN k (pass g) 10 m
    omega
def dvG (g : Gs) (t u x y : Nat) : Gs := tset (tset g t 1 (x : Int) 0) u 1 (y : Int) 0
def dvV (g : Gs) (t u m n x y : Nat) : Int := passN n (dvG g t u x y) 10 m - g 10 m
def dvS (g : Gs) (t u m n x y : Nat) (s : Int × Int × Int) : Int × Int × Int := if s.1 < dvV g t u m n x y then (dvV g t u m n x y, (x : Int), (y : Int)) else s
def dvI (g : Gs) (t u m n x : Nat) : Nat → Nat → Int × Int × Int → Int × Int × Int
  | 0, _, s => s
  | k + 1, y, s => dvI g t u m n x k (y + 1) (dvS g t u m n x y s)
def dvO (g : Gs) (t u m n : Nat) : Nat → Nat → Int × Int × Int → Int × Int × Int
  | 0, _, s => s
  | k + 1, x, s => dvO g t u m n k (x + 1) (dvI g t u m n x (g 0 2).toNat 0 s)
theorem dvG_10 {g : Gs} {t u x y m : Nat} : dvG g t u x y 10 m = g 10 m := by unfold dvG; rw [tset_n (by omega), tset_n (by omega)]
theorem dvV_0 {g : Gs} {t u m n x y : Nat} : 0 ≤ dvV g t u m n x y := by
  have q := passN_10 (m := m) n (dvG g t u x y)
  rw [dvG_10] at q
  unfold dvV
  omega
theorem WF.dv {g : Gs} {t u x y : Nat} (w : WF 9999 g) (hx : (x : Int) < g 0 2) (hy : (y : Int) < g 0 2) : WF 9999 (dvG g t u x y) := by
  have w1 : WF 9999 (tset g t 1 (x : Int) 0) := w.th (Or.inr (Or.inl rfl)) ⟨by omega, by omega⟩ (fun q => absurd rfl q)
  exact w1.th (Or.inr (Or.inl rfl)) ⟨by omega, by rw [tset_n (by omega)]; omega⟩ (fun q => absurd rfl q)
theorem dvV_in {g : Gs} {t u m n x y : Nat} (w : WF 9999 g) (hm : m < gm g) (hn : n ≤ 48) (hx : (x : Int) < g 0 2) (hy : (y : Int) < g 0 2) : dvV g t u m n x y ≤ 20000 := by
  have w1 := (w.dv (t := t) (u := u) hx hy).passN n
  have e1 : gm (passN n (dvG g t u x y)) = gm g := by rw [gm_passN]; unfold dvG; rw [gm_tset, gm_tset]
  have a := w1.2.2 m (by rw [e1]; exact hm)
  have b := w.2.2 m hm
  have c := w1.1
  unfold WFm at a b
  unfold WFs at c
  unfold dvV
  omega
theorem dvS_le {g : Gs} {t u m n x y : Nat} {s : Int × Int × Int} : s.1 ≤ (dvS g t u m n x y s).1 ∧ 0 ≤ (dvS g t u m n x y s).1 := by
  have q := dvV_0 (g := g) (t := t) (u := u) (m := m) (n := n) (x := x) (y := y)
  unfold dvS
  split
  · refine ⟨?_, ?_⟩
    · show s.1 ≤ dvV g t u m n x y; omega
    · exact q
  · refine ⟨Int.le_refl _, by omega⟩
theorem dvI_le {g : Gs} {t u m n x : Nat} : ∀ (k y : Nat) (s : Int × Int × Int), s.1 ≤ (dvI g t u m n x k y s).1 := by
  intro k
  induction k with
  | zero => intro y s; exact Int.le_refl _
  | succ k ih =>
    intro y s
    have q1 := ih (y + 1) (dvS g t u m n x y s)
    have q2 := (dvS_le (g := g) (t := t) (u := u) (m := m) (n := n) (x := x) (y := y) (s := s)).1
    show s.1 ≤ (dvI g t u m n x k (y + 1) (dvS g t u m n x y s)).1
    omega
theorem dvO_le {g : Gs} {t u m n : Nat} : ∀ (k x : Nat) (s : Int × Int × Int), s.1 ≤ (dvO g t u m n k x s).1 := by
  intro k
  induction k with
  | zero => intro y s; exact Int.le_refl _
  | succ k ih =>
    intro x s
    have q1 := ih (x + 1) (dvI g t u m n x (g 0 2).toNat 0 s)
    have q2 := dvI_le (g := g) (t := t) (u := u) (m := m) (n := n) (x := x) (g 0 2).toNat 0 s
    show s.1 ≤ (dvO g t u m n k (x + 1) (dvI g t u m n x (g 0 2).toNat 0 s)).1
    omega
theorem dvR_0 {g : Gs} {t u m n : Nat} (w : WF 9999 g) : 0 ≤ (dvO g t u m n (g 0 2).toNat 0 (-1, -1, -1)).1 := by
  have w1 := w.1
  unfold WFs at w1
  obtain ⟨k, hk⟩ : ∃ k, (g 0 2).toNat = k + 1 := ⟨(g 0 2).toNat - 1, by omega⟩
  have q1 := dvO_le (g := g) (t := t) (u := u) (m := m) (n := n) k 1 (dvI g t u m n 0 (g 0 2).toNat 0 (-1, -1, -1))
  have q2 := dvI_le (g := g) (t := t) (u := u) (m := m) (n := n) (x := 0) k 1 (dvS g t u m n 0 0 (-1, -1, -1))
  have q3 := (dvS_le (g := g) (t := t) (u := u) (m := m) (n := n) (x := 0) (y := 0) (s := (-1, -1, -1))).2
  have e1 : dvI g t u m n 0 (g 0 2).toNat 0 (-1, -1, -1) = dvI g t u m n 0 k 1 (dvS g t u m n 0 0 (-1, -1, -1)) := by rw [hk]; rfl
  have e2 : dvO g t u m n (g 0 2).toNat 0 (-1, -1, -1) = dvO g t u m n k 1 (dvI g t u m n 0 (g 0 2).toNat 0 (-1, -1, -1)) := by
    rw [hk]
    show dvO g t u m n k (0 + 1) (dvI g t u m n 0 (g 0 2).toNat 0 (-1, -1, -1)) = _
    rw [hk]
  rw [e2]
  rw [e1] at q1 ⊢
  omega
theorem s_try2 {h : Mem} {g g' : Gs} {t u : Nat} {x y : Int} {i j : Nat} {Q : Mem → Prop} (hx : x = (t : Int)) (hy : y = (u : Int)) (ht : t < gn g) (hu : u < gn g) (nm : gn g ≤ 8 ∧ gm g ≤ 4) (s : SameF g g') (ru : RC h 146 g') (r12 : RC h 12 g) (hQ : ∀ v, RC v 146 (dvG g t u i j) → RC v 12 g → Fr 146 161 h v → Q v) : F_X4_goBackTo h 146 12 (fun h3 => F_X9_throwInto h3 (146 + 1) x (i : Int) (fun h4 => F_X9_throwInto h4 (146 + 1) y (j : Int) Q)) :=
  s_try hx ht nm s ru r12 (fun v rv r2 fv => s_place (o := 147) hy (by omega) rv.1.2.1 (fun z rz fz => hQ z (rv.tso rz fz) (r2.fr fz (by omega)) (fv.tr (fz.wd (by omega) (by omega)))))
def smD (a b c : Int) (s : Int × Int × Int) : Prop := a = s.1 ∧ (s.1 ≠ -1 → b = s.2.1 ∧ c = s.2.2)
theorem s_findDrive {h : Mem} {g : Gs} {m t u n : Nat} {Q : Mem → Prop} (w : WF 9999 g) (hm : m < gm g) (ht : t < gn g) (hu : u < gn g) (hn : n ≤ 48) (r12 : RC h 12 g) (hQ : ∀ v, RC v 12 g → UX h v → smD (v 42 0) (v 42 1) (v 42 2) (dvO g t u m n (g 0 2).toNat 0 (-1, -1, -1)) → Q v) : F_X0_findDrive h 12 146 (m : Int) (t : Int) (u : Int) (n : Int) Q := by
  have w1 := w.1
  unfold WFs at w1
  have hm4 : m < 4 := by have := w.nm.2; omega
  unfold F_X0_findDrive
  generalize hRe : dvO g t u m n (g 0 2).toNat 0 (-1, -1, -1) = R at hQ
  have inner : ∀ (x : Nat), (x : Int) < g 0 2 → ∀ (k y : Nat) (z : Int) (v : Mem) (g' : Gs) (s : Int × Int × Int), z = (y : Int) → (y : Int) + k = g 0 2 → RC v 146 g' → SameF g g' → RC v 12 g → UX h v → smD (v 42 0) (v 42 1) (v 42 2) s → (∀ v2 g2, RC v2 146 g2 → SameF g g2 → RC v2 12 g → UX h v2 → smD (v2 42 0) (v2 42 1) (v2 42 2) (dvI g t u m n x k y s) → L_X0_findDrive_13 v2 12 146 (m : Int) (t : Int) (u : Int) (n : Int) ((x : Int) + 1) Q) → L_X0_findDrive_25 v 12 146 (m : Int) (t : Int) (u : Int) (n : Int) (x : Int) z Q := by
    intro x hx k
    induction k with
    | zero =>
      intro y z v g' s hz hi ru sf r f sm K
      subst hz
      refine l_X0_findDrive_25 rfl rfl ?_
      unfold B_X0_findDrive_25
      have e : v 12 0 = g 0 2 := r.1.1.1
      exact ⟨fun _ => ⟨⟨by omega, by omega⟩, K v g' ru sf r f sm⟩, fun c => absurd (by omega) c⟩
    | succ k ih =>
      intro y z v g' s hz hi ru sf r f sm K
      subst hz
      refine l_X0_findDrive_25 rfl rfl ?_
      unfold B_X0_findDrive_25
      have e : v 12 0 = g 0 2 := r.1.1.1
      have wt : WF 9999 (dvG g t u x y) := w.dv (by omega) (by omega)
      have vi := dvV_in (t := t) (u := u) (n := n) (x := x) (y := y) w hm hn (by omega) (by omega)
      have v0 := dvV_0 (g := g) (t := t) (u := u) (m := m) (n := n) (x := x) (y := y)
      have em : gm (passN n (dvG g t u x y)) = gm g := by rw [gm_passN]; unfold dvG; rw [gm_tset, gm_tset]
      refine ⟨fun c => absurd c (by omega), fun _ => s_try2 rfl rfl ht hu w.nm sf ru r (fun v1 r1 r2 f1 => s_passHours (o := 146) (k := n) rfl rfl r1 wt (by omega) (fun v2 rp fp => ?_))⟩
      have r3 : RC v2 12 g := r2.fr fp (by omega)
      have sf3 : SameF g (passN n (dvG g t u x y)) := by
        have q : ∀ (k : Nat) (g1 : Gs), SameF g g1 → SameF g (passN k g1) := by
          intro k
          induction k with
          | zero => intro g1 q; exact q
          | succ k ih => intro g1 q; exact ih (pass g1) q.pas
        exact q n _ ((SameF.rf.ts).ts)
      have f3 : UX h v2 := (f.tr (UX.fr f1 (by omega))).tr (UX.fr fp (by omega))
      have o42 : ∀ k, v2 42 k = v 42 k := fun k => (fp 42 (by omega) k).trans (f1 42 (by omega) k)
      have eA : v2 (146 + 10 + 4) m = passN n (dvG g t u x y) 10 m := (rp.1.2.2.2 m (by omega)).2.2.2
      have eB : v2 (12 + 10 + 4) m = g 10 m := (r3.1.2.2.2 m hm).2.2.2
      have sm2 : smD (v2 42 0) (v2 42 1) (v2 42 2) s := by rw [o42, o42, o42]; exact sm
      rw [Int.toNat_natCast, eA, eB]
      have eV : passN n (dvG g t u x y) 10 m - g 10 m = dvV g t u m n x y := rfl
      rw [eV]
      refine ⟨⟨by omega, by omega⟩, ⟨by omega, by omega⟩, fun x17 e17 => ?_⟩
      subst e17
      rw [sm2.1]
      refine ⟨fun c => ⟨⟨by omega, by omega⟩, ?_⟩, fun c h19 e19 h20 e20 h21 e21 => ⟨⟨by omega, by omega⟩, ?_⟩⟩
      · refine ih (y + 1) _ v2 _ s (by omega) (by omega) rp sf3 r3 f3 sm2 ?_
        have e2 : dvS g t u m n x y s = s := by unfold dvS; rw [if_neg (by omega)]
        have K2 := K
        unfold dvI at K2
        rw [e2] at K2
        exact K2
      · subst e21 e20 e19
        refine ih (y + 1) _ _ _ (dvV g t u m n x y, (x : Int), (y : Int)) (by omega) (by omega) (((rp.st42 (Or.inr rfl)).st42 (Or.inr rfl)).st42 (Or.inr rfl)) sf3 (((r3.st42 (Or.inl rfl)).st42 (Or.inl rfl)).st42 (Or.inl rfl)) f3.st42.st42.st42 ⟨?_, fun _ => ⟨?_, mset_at⟩⟩ ?_
        · rw [mset_k (by omega), mset_k (by omega), mset_at]
        · rw [mset_k (by omega), mset_at]
        · have e2 : dvS g t u m n x y s = (dvV g t u m n x y, (x : Int), (y : Int)) := by unfold dvS; rw [if_pos (by omega)]
          have K2 := K
          unfold dvI at K2
          rw [e2] at K2
          exact K2
  have outer : ∀ (k x : Nat) (z : Int) (v : Mem) (g' : Gs) (s : Int × Int × Int), z = (x : Int) → (x : Int) + k = g 0 2 → RC v 146 g' → SameF g g' → RC v 12 g → UX h v → smD (v 42 0) (v 42 1) (v 42 2) s → dvO g t u m n k x s = R → L_X0_findDrive_13 v 12 146 (m : Int) (t : Int) (u : Int) (n : Int) z Q := by
    intro k
    induction k with
    | zero =>
      intro x z v g' s hz hi ru sf r f sm hp
      subst hz
      refine l_X0_findDrive_13 rfl rfl ?_
      unfold B_X0_findDrive_13
      have e : v 12 0 = g 0 2 := r.1.1.1
      have hp2 : s = R := hp
      subst hp2
      exact ⟨fun _ => hQ v r f sm, fun c => absurd (by omega) c⟩
    | succ k ih =>
      intro x z v g' s hz hi ru sf r f sm hp
      subst hz
      refine l_X0_findDrive_13 rfl rfl ?_
      unfold B_X0_findDrive_13
      have e : v 12 0 = g 0 2 := r.1.1.1
      have hp2 : dvO g t u m n k (x + 1) (dvI g t u m n x (g 0 2).toNat 0 s) = R := hp
      exact ⟨fun c => absurd c (by omega), fun _ => inner x (by omega) (g 0 2).toNat 0 0 v g' s rfl (by omega) ru sf r f sm (fun v2 g2 a b c d e2 => ih (x + 1) _ v2 g2 _ (by omega) (by omega) a b c d e2 hp2)⟩
  intro h1 e1
  subst e1
  have r3 : RC (mset h 42 0 (-1)) 12 g := r12.st42 (Or.inl rfl)
  exact s_copyG (by omega) r3 w.nm.1 w.nm.2 (fun v rv fv => outer (g 0 2).toNat 0 0 v g (-1, -1, -1) rfl (by omega) rv SameF.rf (r3.fr fv (by omega)) (UX.rf.st42.tr (UX.fr fv (by omega))) ⟨(fv 42 (by omega) 0).trans mset_at, fun q => absurd rfl q⟩ hRe)
theorem KP.sto {h0 v : Mem} {o k : Nat} {x : Int} (a : KP h0 v) (ho : 170 ≤ o ∧ o < 180) : KP h0 (mset v o k x) :=
  ⟨fun j hj => by rw [mset_i _ (by omega)]; exact a.1 j hj, fun j => by rw [mset_i _ (by omega)]; exact a.2.1 j, a.2.2.tr (fun i j q1 q2 q3 q4 => mset_i j (by omega))⟩
theorem RXh.sto {h : Mem} {g : Gs} {o k : Nat} {y : Int} (r : RXh h g) (nm : gn g ≤ 8 ∧ gm g ≤ 4) (ho : o ≠ 162) : RXh (mset h o k y) g := r.fr nm.1 nm.2 (fun k _ => mset_i k (by omega))
theorem q_laysDrive {h : Mem} {g : Gs} {m t u n : Nat} {Q : Mem → Prop} (w : WF 9999 g) (hm : m < gm g) (ht : t < gn g) (hu : u < gn g) (htu : t ≠ u) (hn : n ≤ 48) (fr : g 4 t = 0 ∨ g 4 t = 3) (fr2 : g 4 u = 0 ∨ g 4 u = 3) (rx : RXh h g) (hQ : ∀ v, RXh v g → KP h v → smD (v 171 2) (v 171 0) (v 171 1) (dvO g t u m n (g 0 2).toNat 0 (-1, -1, -1)) → Q v) : F_X12_laysDrive h (m : Int) (t : Int) (u : Int) (n : Int) Q := by
  have w1 := w.1
  unfold WFs at w1
  have hm4 : m < 4 := by have := w.nm.2; omega
  unfold F_X12_laysDrive
  generalize hRe : dvO g t u m n (g 0 2).toNat 0 (-1, -1, -1) = R at hQ
  have inner : ∀ (x : Nat), (x : Int) < g 0 2 → ∀ (k y : Nat) (z : Int) (v : Mem) (s : Int × Int × Int), z = (y : Int) → (y : Int) + k = g 0 2 → RXh v g → KP h v → smD (v 171 2) (v 171 0) (v 171 1) s → (∀ v2, RXh v2 g → KP h v2 → smD (v2 171 2) (v2 171 0) (v2 171 1) (dvI g t u m n x k y s) → L_X12_laysDrive_25 v2 (m : Int) (t : Int) (u : Int) (n : Int) (g 10 m) ((x : Int) + 1) Q) → L_X12_laysDrive_39 v (m : Int) (t : Int) (u : Int) (n : Int) (g 10 m) (x : Int) z Q := by
    intro x hx k
    induction k with
    | zero =>
      intro y z v s hz hi r kv sm K
      subst hz
      refine l_X12_laysDrive_39 ?_
      unfold B_X12_laysDrive_39
      have e : v 162 2 = g 0 2 := r.1.1 2 (by omega) (by omega)
      exact ⟨fun _ => ⟨⟨by omega, by omega⟩, K v r kv sm⟩, fun c => absurd (by omega) c⟩
    | succ k ih =>
      intro y z v s hz hi r kv sm K
      subst hz
      refine l_X12_laysDrive_39 ?_
      unfold B_X12_laysDrive_39
      have e : v 162 2 = g 0 2 := r.1.1 2 (by omega) (by omega)
      have wt : WF 9999 (dvG g t u x y) := w.dv (by omega) (by omega)
      have vi := dvV_in (t := t) (u := u) (n := n) (x := x) (y := y) w hm hn (by omega) (by omega)
      have v0 := dvV_0 (g := g) (t := t) (u := u) (m := m) (n := n) (x := x) (y := y)
      have em : gm (passN n (dvG g t u x y)) = gm g := by rw [gm_passN]; unfold dvG; rw [gm_tset, gm_tset]
      refine ⟨fun c => absurd c (by omega), fun _ => q_tosses r rfl ht w.nm.1 w.nm.2 fr (fun v1 r1 f1 => q_tosses r1 rfl (by rw [gn_tset]; exact hu) (by rw [gn_tset]; exact w.nm.1) (by rw [gm_tset]; exact w.nm.2) (by rw [tset_n (Or.inr (Ne.symm htu))]; exact fr2) (fun v2 r2 f2 => q_hoursGo (k := n) (B := 9999) rfl r2 wt (by omega) (by omega) (fun v3 r3 f3 => q_millOf (t := m) (k := 2) rfl rfl hm4 (by omega) ?_)))⟩
      have eA : v3 162 (68 + 3 * m + 2) = passN n (dvG g t u x y) 10 m := r3.1.2.2 m 2 (by rw [gm_passN, gm_tset, gm_tset]; exact hm) (by omega)
      rw [eA]
      have eV : passN n (dvG g t u x y) 10 m - g 10 m = dvV g t u m n x y := rfl
      rw [eV]
      refine ⟨⟨by omega, by omega⟩, m_rest w rx (((kv.fm f1).fm f2).fm f3) (fun v4 r4 k4 f4 => ?_)⟩
      have o171 : ∀ k, v4 171 k = v 171 k := fun k => (f4 171 k (by omega)).trans ((f3 171 k (by omega)).trans ((f2 171 k (by omega)).trans (f1 171 k (by omega))))
      have sm2 : smD (v4 171 2) (v4 171 0) (v4 171 1) s := by rw [o171, o171, o171]; exact sm
      rw [sm2.1]
      refine ⟨fun c h19 e19 h20 e20 h21 e21 => ⟨⟨by omega, by omega⟩, ?_⟩, fun c => ⟨⟨by omega, by omega⟩, ?_⟩⟩
      · subst e21 e20 e19
        refine ih (y + 1) _ _ (dvV g t u m n x y, (x : Int), (y : Int)) (by omega) (by omega) (((r4.sto w.nm (by omega)).sto w.nm (by omega)).sto w.nm (by omega)) (((k4.sto (by omega)).sto (by omega)).sto (by omega)) ⟨mset_at, fun _ => ⟨?_, ?_⟩⟩ ?_
        · rw [mset_k (by omega), mset_k (by omega), mset_at]
        · rw [mset_k (by omega), mset_at]
        · have e2 : dvS g t u m n x y s = (dvV g t u m n x y, (x : Int), (y : Int)) := by unfold dvS; rw [if_pos (by omega)]
          have K2 := K
          unfold dvI at K2
          rw [e2] at K2
          exact K2
      · refine ih (y + 1) _ v4 s (by omega) (by omega) r4 k4 sm2 ?_
        have e2 : dvS g t u m n x y s = s := by unfold dvS; rw [if_neg (by omega)]
        have K2 := K
        unfold dvI at K2
        rw [e2] at K2
        exact K2
  have outer : ∀ (k x : Nat) (z : Int) (v : Mem) (s : Int × Int × Int), z = (x : Int) → (x : Int) + k = g 0 2 → RXh v g → KP h v → smD (v 171 2) (v 171 0) (v 171 1) s → dvO g t u m n k x s = R → L_X12_laysDrive_25 v (m : Int) (t : Int) (u : Int) (n : Int) (g 10 m) z Q := by
    intro k
    induction k with
    | zero =>
      intro x z v s hz hi r kv sm hp
      subst hz
      refine l_X12_laysDrive_25 ?_
      unfold B_X12_laysDrive_25
      have e : v 162 2 = g 0 2 := r.1.1 2 (by omega) (by omega)
      have hp2 : s = R := hp
      subst hp2
      exact ⟨fun _ => hQ v r kv sm, fun c => absurd (by omega) c⟩
    | succ k ih =>
      intro x z v s hz hi r kv sm hp
      subst hz
      refine l_X12_laysDrive_25 ?_
      unfold B_X12_laysDrive_25
      have e : v 162 2 = g 0 2 := r.1.1 2 (by omega) (by omega)
      have hp2 : dvO g t u m n k (x + 1) (dvI g t u m n x (g 0 2).toNat 0 s) = R := hp
      exact ⟨fun c => absurd c (by omega), fun _ => inner x (by omega) (g 0 2).toNat 0 0 v s rfl (by omega) r kv sm (fun v2 a b c => ih (x + 1) _ v2 _ (by omega) (by omega) a b c hp2)⟩
  refine m_keep2 w rx (fun v rv kv h3 e3 => ?_)
  subst e3
  have r3 : RXh (mset v 171 2 (-1)) g := rv.sto w.nm (by omega)
  refine q_millOf (t := m) (k := 2) rfl rfl hm4 (by omega) ?_
  rw [show (mset v 171 2 (-1)) 162 (68 + 3 * m + 2) = g 10 m from r3.1.2.2 m 2 hm (by omega)]
  exact outer (g 0 2).toNat 0 0 _ (-1, -1, -1) rfl (by omega) r3 (kv.sto (by omega)) ⟨mset_at, fun q => absurd rfl q⟩ hRe
