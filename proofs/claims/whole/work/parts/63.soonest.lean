/-! soonest, soonestIn -/
theorem tHome_lim (t : Nat) : ∀ (k K : Nat) (g : Gs), k ≤ K → tHome t k g = if tHome t K g = -1 ∨ (k : Int) < tHome t K g then -1 else tHome t K g := by
  intro k
  induction k with
  | zero =>
    intro K g _
    by_cases c : g 4 t = 3
    · have e : tHome t K g = 0 := by cases K <;> (unfold tHome; rw [if_pos c])
      rw [e]
      unfold tHome
      rw [if_pos c, if_neg (by omega)]
    · have e : tHome t K g = -1 ∨ 1 ≤ tHome t K g := by
        cases K with
        | zero => unfold tHome; rw [if_neg c]; exact Or.inl rfl
        | succ K =>
          have := tHome_in t K (pass g)
          unfold tHome
          rw [if_neg c]
          unfold addN
          split <;> omega
      have e0 : tHome t 0 g = -1 := by unfold tHome; rw [if_neg c]
      rw [e0, if_pos (by omega)]
  | succ k ih =>
    intro K g hk
    obtain ⟨K, rfl⟩ : ∃ j, K = j + 1 := ⟨K - 1, by omega⟩
    have i := ih K (pass g) (by omega)
    have n := tHome_in t K (pass g)
    by_cases c : g 4 t = 3
    · have e1 : tHome t (k + 1) g = 0 := by unfold tHome; rw [if_pos c]
      have e2 : tHome t (K + 1) g = 0 := by unfold tHome; rw [if_pos c]
      rw [e1, e2, if_neg (by omega)]
    · have e1 : tHome t (k + 1) g = addN (tHome t k (pass g)) := by
        show (if g 4 t = 3 then 0 else addN (tHome t k (pass g))) = _
        rw [if_neg c]
      have e2 : tHome t (K + 1) g = addN (tHome t K (pass g)) := by
        show (if g 4 t = 3 then 0 else addN (tHome t K (pass g))) = _
        rw [if_neg c]
      rw [e1, e2, i]
      generalize tHome t K (pass g) = T at n ⊢
      unfold addN
      by_cases c1 : T = -1
      · rw [if_pos c1, if_pos (Or.inl c1), if_pos rfl, if_pos (Or.inl rfl)]
      · by_cases c2 : (k : Int) < T
        · rw [if_pos (Or.inr c2), if_pos rfl, if_neg c1, if_pos (by omega)]
        · rw [if_neg (by omega), if_neg c1, if_neg (by omega), if_neg (by omega)]
theorem tHome_pos {t k : Nat} {g : Gs} (c : g 4 t = 1) : tHome t k g = -1 ∨ (1 ≤ tHome t k g ∧ tHome t k g ≤ k) := by
  cases k with
  | zero => unfold tHome; rw [if_neg (by omega)]; exact Or.inl rfl
  | succ k =>
    have := tHome_in t k (pass g)
    unfold tHome
    rw [if_neg (by omega)]
    unfold addN
    split <;> omega
def stepS (g : Gs) (t i : Nat) (s : Int × Int) : Int × Int := if tHome t 400 (tset g t 1 (i : Int) 0) ≠ -1 ∧ (s.1 = -1 ∨ tHome t 400 (tset g t 1 (i : Int) 0) < s.1) then (tHome t 400 (tset g t 1 (i : Int) 0), (i : Int)) else s
def soonF (g : Gs) (t : Nat) : Nat → Nat → Int × Int → Int × Int
  | 0, _, s => s
  | m + 1, i, s => soonF g t m (i + 1) (stepS g t i s)
def okS (s : Int × Int) : Prop := (s.1 = -1 ∧ s.2 = -1) ∨ (1 ≤ s.1 ∧ s.1 ≤ 400 ∧ 0 ≤ s.2)
theorem stepS_in {g : Gs} {t i : Nat} {s : Int × Int} (h : okS s) : okS (stepS g t i s) := by
  have p := tHome_pos (t := t) (k := 400) (g := tset g t 1 (i : Int) 0) tset_4
  unfold stepS
  split
  · rename_i c
    refine Or.inr ⟨?_, ?_, ?_⟩
    · show 1 ≤ tHome t 400 (tset g t 1 (i : Int) 0); omega
    · show tHome t 400 (tset g t 1 (i : Int) 0) ≤ 400; omega
    · show (0 : Int) ≤ (i : Int); omega
  · exact h
theorem stepS_x {g : Gs} {t i k : Nat} {s : Int × Int} (h : okS s) (hk : (s.1 = -1 ∧ k = 400) ∨ (s.1 = (k : Int) + 1)) :
    (tHome t k (tset g t 1 (i : Int) 0) = -1 → stepS g t i s = s) ∧ (tHome t k (tset g t 1 (i : Int) 0) ≠ -1 → stepS g t i s = (tHome t k (tset g t 1 (i : Int) 0), (i : Int))) := by
  have p := tHome_pos (t := t) (k := 400) (g := tset g t 1 (i : Int) 0) tset_4
  unfold okS at h
  have l := tHome_lim t k 400 (tset g t 1 (i : Int) 0) (by omega)
  unfold stepS
  rw [l]
  generalize tHome t 400 (tset g t 1 (i : Int) 0) = T at p ⊢
  by_cases c : T = -1 ∨ (k : Int) < T
  · rw [if_pos c]
    refine ⟨fun _ => if_neg (by omega), fun q => absurd rfl q⟩
  · rw [if_neg c]
    exact ⟨fun q => absurd (Or.inl q) c, fun q => if_pos (by omega)⟩
theorem UX.st42 {h u : Mem} {k : Nat} {v : Int} (f : UX h u) : UX h (mset u 42 k v) := f.tr (UX.fr (Fr.rf.st (lo := 42) (hi := 43) (by omega) (by omega)) (by omega))
theorem RC.st42 {h : Mem} {o k : Nat} {g : Gs} {v : Int} (r : RC h o g) (ho : o = 12 ∨ o = 146) : RC (mset h 42 k v) o g := r.fr (lo := 42) (hi := 43) (Fr.rf.st (by omega) (by omega)) (by omega)
theorem s_findSoonest {h : Mem} {g : Gs} {t : Nat} {x : Int} {Q : Mem → Prop} (hx : x = (t : Int)) (w : WF 9999 g) (ht : t < gn g) (r12 : RC h 12 g) (hQ : ∀ u, RC u 12 g → UX h u → u 42 0 = (soonF g t (g 0 2).toNat 0 (-1, -1)).1 → u 42 1 = (soonF g t (g 0 2).toNat 0 (-1, -1)).2 → Q u) : F_X0_findSoonest h 12 146 x Q := by
  subst hx
  have w1 := w.1
  unfold WFs at w1
  unfold F_X0_findSoonest
  generalize hRe : soonF g t (g 0 2).toNat 0 (-1, -1) = R at hQ
  have key : ∀ (m i : Nat) (z : Int) (u : Mem) (g' : Gs) (s : Int × Int), z = (i : Int) → (i : Int) + m = g 0 2 → RC u 146 g' → SameF g g' → RC u 12 g → UX h u → u 42 0 = s.1 → u 42 1 = s.2 → okS s → soonF g t m i s = R → L_X0_findSoonest_18 u 12 146 (t : Int) z Q := by
    intro m
    induction m with
    | zero =>
      intro i z u g' s hz hi ru sf r f p1 p2 ok hp
      subst hz
      refine l_X0_findSoonest_18 rfl rfl ?_
      unfold B_X0_findSoonest_18
      have e : u 12 0 = g 0 2 := r.1.1.1
      have hp2 : s = R := hp
      subst hp2
      exact ⟨fun _ => hQ u r f p1 p2, fun c => absurd (by omega) c⟩
    | succ m ih =>
      intro i z u g' s hz hi ru sf r f p1 p2 ok hp
      subst hz
      refine l_X0_findSoonest_18 rfl rfl ?_
      unfold B_X0_findSoonest_18
      have e : u 12 0 = g 0 2 := r.1.1.1
      have hp2 : soonF g t m (i + 1) (stepS g t i s) = R := hp
      have ok2 : okS (stepS g t i s) := stepS_in ok
      have wt : WF 9999 (tset g t 1 (i : Int) 0) := w.th (Or.inr (Or.inl rfl)) ⟨by omega, by omega⟩ (fun q => absurd rfl q)
      refine ⟨fun c => absurd c (by omega), fun _ => s_try rfl ht w.nm sf ru r (fun v rv r2 fv => ?_)⟩
      have q1 : v 42 0 = s.1 := (fv 42 (by omega) 0).trans p1
      have q2 : v 42 1 = s.2 := (fv 42 (by omega) 1).trans p2
      have go : ∀ k : Nat, ((s.1 = -1 ∧ k = 400) ∨ (s.1 = (k : Int) + 1)) → ∀ (v2 : Mem) (g2 : Gs), RC v2 146 g2 → SameF (tset g t 1 (i : Int) 0) g2 → Fr 146 161 v v2 →
          ((tHome t k (tset g t 1 (i : Int) 0) = -1 → InR ((i : Int) + 1) ∧ L_X0_findSoonest_18 v2 12 146 (t : Int) ((i : Int) + 1) Q) ∧ (¬ tHome t k (tset g t 1 (i : Int) 0) = -1 → ∀ h13 : Mem, h13 = mset v2 42 0 (tHome t k (tset g t 1 (i : Int) 0)) → ∀ h14 : Mem, h14 = mset h13 42 1 (i : Int) → InR ((i : Int) + 1) ∧ L_X0_findSoonest_18 h14 12 146 (t : Int) ((i : Int) + 1) Q)) := by
        intro k hk v2 g2 rv2 sf2 fv2
        obtain ⟨st1, st2⟩ := stepS_x (g := g) (t := t) (i := i) ok hk
        have fx : UX h v2 := (f.tr (UX.fr fv (by omega))).tr (UX.fr fv2 (by omega))
        have r3 : RC v2 12 g := r2.fr fv2 (by omega)
        refine ⟨fun c => ⟨⟨by omega, by omega⟩, ?_⟩, fun c h13 e13 h14 e14 => ⟨⟨by omega, by omega⟩, ?_⟩⟩
        · rw [st1 c] at hp2
          exact ih (i + 1) _ v2 g2 s (by omega) (by omega) rv2 ((SameF.rf.ts).tr sf2) r3 fx ((fv2 42 (by omega) 0).trans q1) ((fv2 42 (by omega) 1).trans q2) ok hp2
        · rw [st2 c] at hp2 ok2
          subst e14 e13
          exact ih (i + 1) _ _ g2 _ (by omega) (by omega) ((rv2.st42 (Or.inr rfl)).st42 (Or.inr rfl)) ((SameF.rf.ts).tr sf2) ((r3.st42 (Or.inl rfl)).st42 (Or.inl rfl)) fx.st42.st42 ((mset_k (by omega)).trans mset_at) mset_at ok2 hp2
      refine ⟨fun c => ⟨⟨?_, ?_⟩, ?_⟩, fun c => ?_⟩
      · unfold okS at ok; omega
      · unfold okS at ok; omega
      · have hk : s.1 = ((s.1.toNat - 1 : Nat) : Int) + 1 := by unfold okS at ok; omega
        exact s_tillHome2 (o := 146) (k := s.1.toNat - 1) rfl (by omega) rfl rv wt (by unfold okS at ok; omega) (by rw [gn_tset]; exact ht) (fun v2 g2 rv2 sf2 fv2 => go _ (Or.inr hk) v2 g2 rv2 sf2 fv2)
      · exact s_tillHome2 (o := 146) (k := 400) rfl rfl rfl rv wt (by omega) (by rw [gn_tset]; exact ht) (fun v2 g2 rv2 sf2 fv2 => go _ (Or.inl ⟨by omega, rfl⟩) v2 g2 rv2 sf2 fv2)
  intro h1 e1 h2 e2
  subst e2 e1
  have r3 : RC (mset (mset h 42 0 (-1)) 42 1 (-1)) 12 g := (r12.st42 (Or.inl rfl)).st42 (Or.inl rfl)
  exact s_copyG (by omega) r3 w.nm.1 w.nm.2 (fun u ru fu => key (g 0 2).toNat 0 0 u g (-1, -1) rfl (by omega) ru SameF.rf (r3.fr fu (by omega)) ((UX.rf.st42.st42).tr (UX.fr fu (by omega))) ((fu 42 (by omega) 0).trans ((mset_k (by omega)).trans mset_at)) ((fu 42 (by omega) 1).trans mset_at) (Or.inl ⟨rfl, rfl⟩) hRe)
theorem q_laysSoonest {h : Mem} {g : Gs} {t : Nat} {x : Int} {Q : Mem → Prop} (hx : x = (t : Int)) (w : WF 9999 g) (ht : t < gn g) (fr : g 4 t = 0 ∨ g 4 t = 3) (rx : RXh h g) (hQ : ∀ u, RXh u g → KP h u → okS (soonF g t (g 0 2).toNat 0 (-1, -1)) → u 161 26 = (soonF g t (g 0 2).toNat 0 (-1, -1)).2 → ((soonF g t (g 0 2).toNat 0 (-1, -1)).1 ≠ -1 → u 161 25 = (soonF g t (g 0 2).toNat 0 (-1, -1)).1) → Q u) : F_X12_laysSoonest h x Q := by
  subst hx
  have w1 := w.1
  unfold WFs at w1
  unfold F_X12_laysSoonest
  generalize hRe : soonF g t (g 0 2).toNat 0 (-1, -1) = R at hQ
  have RXs : ∀ {v : Mem} {k : Nat} {y : Int}, RXh v g → RXh (mset v 161 k y) g := fun {v k y} r => r.fr w.nm.1 w.nm.2 (fun k _ => mset_i k (by omega))
  have key : ∀ (m i : Nat) (z : Int) (v : Mem) (s : Int × Int), z = (i : Int) → (i : Int) + m = g 0 2 → RXh v g → KP h v → v 161 25 = (if s.1 = -1 then 1000000 else s.1) → v 161 26 = s.2 → okS s → soonF g t m i s = R → L_X12_laysSoonest_21 v (t : Int) z Q := by
    intro m
    induction m with
    | zero =>
      intro i z v s hz hi r kv p1 p2 ok hp
      subst hz
      refine l_X12_laysSoonest_21 ?_
      unfold B_X12_laysSoonest_21
      have e : v 162 2 = g 0 2 := r.1.1 2 (by omega) (by omega)
      have hp2 : s = R := hp
      subst hp2
      exact ⟨fun _ => hQ v r kv ok p2 (fun c => by rw [p1, if_neg c]), fun c => absurd (by omega) c⟩
    | succ m ih =>
      intro i z v s hz hi r kv p1 p2 ok hp
      subst hz
      refine l_X12_laysSoonest_21 ?_
      unfold B_X12_laysSoonest_21
      have e : v 162 2 = g 0 2 := r.1.1 2 (by omega) (by omega)
      have hp2 : soonF g t m (i + 1) (stepS g t i s) = R := hp
      have ok2 : okS (stepS g t i s) := stepS_in ok
      have wt : WF 9999 (tset g t 1 (i : Int) 0) := w.th (Or.inr (Or.inl rfl)) ⟨by omega, by omega⟩ (fun q => absurd rfl q)
      have hin := tHome_in t 400 (tset g t 1 (i : Int) 0)
      refine ⟨fun c => absurd c (by omega), fun _ => q_tosses r rfl ht w.nm.1 w.nm.2 fr (fun v2 r2 f2 => q_homeOf rfl r2 wt (by omega) (by rw [gn_tset]; exact ht) (fun v3 f3 => m_rest w rx ((kv.fm f2).fm f3) (fun v4 r4 k4 f4 => ?_)))⟩
      have z1 : v4 161 25 = (if s.1 = -1 then 1000000 else s.1) := by rw [f4 161 25 (by omega), f3 161 25 (by omega), f2 161 25 (by omega)]; exact p1
      have z2 : v4 161 26 = s.2 := by rw [f4 161 26 (by omega), f3 161 26 (by omega), f2 161 26 (by omega)]; exact p2
      rw [z1]
      refine ⟨fun c => ⟨⟨by omega, by omega⟩, ?_⟩, fun c => ⟨fun c2 h13 e13 h14 e14 => ⟨⟨by omega, by omega⟩, ?_⟩, fun c2 => ⟨⟨by omega, by omega⟩, ?_⟩⟩⟩
      · have e2 : stepS g t i s = s := by unfold stepS; rw [if_neg (fun q => q.1 c)]
        rw [e2] at hp2
        exact ih (i + 1) _ v4 s (by omega) (by omega) r4 k4 z1 z2 ok hp2
      · have e2 : stepS g t i s = (tHome t 400 (tset g t 1 (i : Int) 0), (i : Int)) := by
          unfold stepS
          refine if_pos ⟨c, ?_⟩
          by_cases d : s.1 = -1
          · exact Or.inl d
          · rw [if_neg d] at c2; exact Or.inr c2
        rw [e2] at hp2 ok2
        subst e14 e13
        refine ih (i + 1) _ _ _ (by omega) (by omega) (RXs (RXs r4)) ((k4.st (by omega)).st (by omega)) ?_ mset_at ok2 hp2
        rw [mset_k (by omega), mset_at]
        exact (if_neg c).symm
      · have e2 : stepS g t i s = s := by
          unfold stepS
          refine if_neg (fun q => ?_)
          by_cases d : s.1 = -1
          · rw [if_pos d] at c2; omega
          · rw [if_neg d] at c2
            rcases q.2 with z | z
            · exact d z
            · exact c2 z
        rw [e2] at hp2
        exact ih (i + 1) _ v4 s (by omega) (by omega) r4 k4 z1 z2 ok hp2
  refine m_keep2 w rx (fun u ru ku h3 e3 h4 e4 => ?_)
  subst e4 e3
  exact key (g 0 2).toNat 0 0 _ (-1, -1) rfl (by omega) (RXs (RXs ru)) ((ku.st (by omega)).st (by omega)) ((mset_k (by omega)).trans mset_at) mset_at (Or.inl ⟨rfl, rfl⟩) hRe
theorem soonF_ok {g : Gs} {t : Nat} : ∀ (m i : Nat) (s : Int × Int), okS s → okS (soonF g t m i s) := by
  intro m
  induction m with
  | zero => intro i s h; exact h
  | succ m ih => intro i s h; exact ih (i + 1) _ (stepS_in h)
theorem k_soonG {h : Mem} {g : Gs} {a : Int} (s : G2 h g) {FX : (Int → Mem → Prop) → Prop} {FM : Mem → (Int → Mem → Prop) → Prop} (pick : Int × Int → Int) (hpk : ∀ s, s.1 = -1 → s.2 = -1 → pick s = -1)
    (X : ∀ Q : Int → Mem → Prop, F_X11_whyNotSoonest h a (fun r u => (¬ (r = 0) → F_X11_refused u r (fun r2 u2 => Q r2 u2)) ∧ (r = 0 → F_X11_given u (pick (u 42 0, u 42 1)) (fun r2 u2 => Q r2 u2))) → FX Q)
    (M : ∀ h1 (Q : Int → Mem → Prop), F_X12_isThing h1 a (fun r2 h1 => ((¬ (r2 = 0) → (F_X12_isFree h1 a (fun r4 h3 => ((¬ (r4 = 0) → (F_X12_laysSoonest h3 a (fun h5 => ((¬ ((h5 161 26) = (-1)) → (F_X12_gives h5 (pick (h5 161 25, h5 161 26)) Q)) ∧ ((h5 161 26) = (-1) → (F_X12_refuse h5 6 Q)))))) ∧ (r4 = 0 → (F_X12_refuse h3 7 Q)))))) ∧ (r2 = 0 → (F_X12_refuse h1 1 Q)))) → FM h1 Q)
    {Q : Int → Int → Mem → Prop} (hQ : ∀ r u1 u g', G2 u g' → Mo g g' → UX h u1 → UM u1 u → Q r r u) : FX (fun r1 h1 => FM h1 (fun r2 h2 => Q r1 r2 h2)) := by
  have w := s.1
  have w1 := w.1
  unfold WFs at w1
  have rT := s.2.1.1.2.1
  obtain ⟨n8, nc⟩ := gn8 w
  by_cases c : 0 ≤ a ∧ a < g 0 0
  · obtain ⟨t, rfl⟩ : ∃ k : Nat, a = k := ⟨a.toNat, by omega⟩
    have ht : t < gn g := by omega
    by_cases fr : g 4 t = 0 ∨ g 4 t = 3
    · have okR := soonF_ok (g := g) (t := t) (g 0 2).toNat 0 (-1, -1) (Or.inl ⟨rfl, rfl⟩)
      refine Kp.mk (FX := FX) (FM := FM) (g' := g) (st := if (soonF g t (g 0 2).toNat 0 (-1, -1)).1 = -1 then 6 else 0) (r := pick (soonF g t (g 0 2).toNat 0 (-1, -1))) s w (fun Q hQ => X Q ?_) (fun h1 rx rn Q hQ => M h1 Q ?_) hQ
      · unfold F_X11_whyNotSoonest
        refine x_isThing s.2.1 (fun q => absurd c q) (fun _ => ⟨fun _ => s_isFree (o := 13) rT rfl ht n8 (fun _ => ⟨fun _ => s_findSoonest rfl w ht s.2.1 (fun u ru fu p1 p2 => ?_), fun q => absurd q (by decide)⟩) (fun q => absurd fr q), fun q => absurd q (by decide)⟩)
        generalize soonF g t (g 0 2).toNat 0 (-1, -1) = R at *
        rw [p1]
        refine ⟨fun d => ⟨fun q => absurd rfl q, fun _ => ?_⟩, fun d => ⟨fun _ => ?_, fun q => absurd q (by decide)⟩⟩
        · show F_X11_given u (pick (u 42 0, u 42 1)) (fun r2 u2 => Q r2 u2)
          rw [p1, p2]
          rw [if_neg d] at hQ
          exact x_given fu ru hQ
        · have e2 : R.2 = -1 := by unfold okS at okR; omega
          rw [if_pos d, hpk R d e2] at hQ
          exact x_refused fu ru hQ
      · refine m_isThing rx (fun q => absurd c q) (fun _ => ⟨fun _ => q_isFree rx.1 rfl ht n8 (fun _ => ⟨fun _ => q_laysSoonest rfl w ht fr rx (fun u ru ku _ p2 p1 => ?_), fun q => absurd q (by decide)⟩) (fun q => absurd fr q), fun q => absurd q (by decide)⟩)
        generalize soonF g t (g 0 2).toNat 0 (-1, -1) = R at *
        rw [p2]
        refine ⟨fun d => ?_, fun d => ?_⟩
        · have d1 : R.1 ≠ -1 := by unfold okS at okR; omega
          rw [p1 d1]
          rw [if_neg d1] at hQ
          exact m_gives ku.2.2 w.nm ru (rn.fr ku.2.1) hQ
        · have d1 : R.1 = -1 := by unfold okS at okR; omega
          rw [if_pos d1, hpk R d1 d] at hQ
          exact m_refuse ku.2.2 w.nm ru (rn.fr ku.2.1) hQ
    · refine Kp.mk (FX := FX) (FM := FM) (g' := g) (st := 7) (r := -1) s w (fun Q hQ => X Q ?_) (fun h1 rx rn Q hQ => M h1 Q ?_) hQ
      · unfold F_X11_whyNotSoonest
        exact x_isThing s.2.1 (fun q => absurd c q) (fun _ => ⟨fun _ => s_isFree (o := 13) rT rfl ht n8 (fun q => absurd q fr) (fun _ => ⟨fun q => absurd rfl q, fun _ => ⟨fun _ => x_refused UX.rf s.2.1 hQ, fun q => absurd q (by decide)⟩⟩), fun q => absurd q (by decide)⟩)
      · exact m_isThing rx (fun q => absurd c q) (fun _ => ⟨fun _ => q_isFree rx.1 rfl ht n8 (fun q => absurd q fr) (fun _ => ⟨fun q => absurd rfl q, fun _ => m_refuse UM.rf w.nm rx rn hQ⟩), fun q => absurd q (by decide)⟩)
  · refine Kp.mk (FX := FX) (FM := FM) (g' := g) (st := 1) (r := -1) s w (fun Q hQ => X Q ?_) (fun h1 rx rn Q hQ => M h1 Q ?_) hQ
    · unfold F_X11_whyNotSoonest
      exact x_isThing s.2.1 (fun _ => ⟨fun q => absurd rfl q, fun _ => ⟨fun _ => x_refused UX.rf s.2.1 hQ, fun q => absurd q (by decide)⟩⟩) (fun q => absurd q c)
    · exact m_isThing rx (fun _ => ⟨fun q => absurd rfl q, fun _ => m_refuse UM.rf w.nm rx rn hQ⟩) (fun q => absurd q c)
