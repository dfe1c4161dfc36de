/-! minded: the reference tries all minds -/
def mmRow (g : Gs) (t : Nat) (S : Nat → Int) (n m : Nat) (v : Mem) : Prop := ∀ i, 1 ≤ i → i < m → v 172 i = ft g t i S n ∧ ∀ j, j < 61 → v 173 (61 * i + j) = trn g t i j
theorem mmRow.fr {g : Gs} {t : Nat} {S : Nat → Int} {n m : Nat} {v u : Mem} (a : mmRow g t S n m v) (e1 : ∀ i, i < m → u 172 i = v 172 i) (e2 : ∀ i, i < 61 * m → u 173 i = v 173 i) : mmRow g t S n m u := fun i h1 h2 => by
  refine ⟨by rw [e1 i h2]; exact (a i h1 h2).1, fun j hj => ?_⟩
  rw [e2 _ (by omega)]
  exact (a i h1 h2).2 j hj
theorem q_laysMinds {h : Mem} {g : Gs} {t a n : Nat} {S : Nat → Int} {Q : Mem → Prop} (w : WF 9999 g) (ht : t < gn g) (ha : a < 4) (hn : n ≤ 20) (hS : ∀ k, k < 2 * n → h 166 (60 * a + k) = S k) (ok : okSeen S n) (rx : RXh h g) (hQ : ∀ v, RXh v g → KP h v → mmRow g t S n 25 v → v 161 30 = cm (fun i => ft g t i S n) 24 → Q v) : F_X12_laysMinds h (t : Int) (a : Int) (n : Int) Q := by
  have w1 := w.1
  unfold WFs at w1
  have t8 : t < 8 := by have := w.nm.1; omega
  unfold F_X12_laysMinds
  have fits : ∀ (m : Nat), 1 ≤ m → m ≤ 24 → ∀ (d k : Nat) (z : Int) (u : Mem), z = (k : Int) → k + d = n → RXh u g → KP h u → mmRow g t S n m u → (∀ j, j < 61 → u 173 (61 * m + j) = trn g t m j) → u 161 30 = cm (fun i => ft g t i S n) (m - 1) →
      (∀ v, RXh v g → KP h v → mmRow g t S n (m + 1) v → v 161 30 = cm (fun i => ft g t i S n) m → L_X12_laysMinds_15 v (t : Int) (a : Int) (n : Int) ((m : Int) + 1) Q) → L_X12_laysMinds_81 u (t : Int) (a : Int) (n : Int) (m : Int) (ft g t m S k) z Q := by
    intro m m1 m2 d
    induction d with
    | zero =>
      intro k z u hz hi r kv row cur ec K
      subst hz
      obtain rfl : k = n := by omega
      refine l_X12_laysMinds_81 ?_
      unfold B_X12_laysMinds_81
      have ci := cm_in (F := fun i => ft g t i S k) (m - 1)
      have cs : cm (fun i => ft g t i S k) m = if ft g t m S k = 0 then cm (fun i => ft g t i S k) (m - 1) else cm (fun i => ft g t i S k) (m - 1) + 1 := by
        obtain ⟨p, rfl⟩ : ∃ p, m = p + 1 := ⟨m - 1, by omega⟩
        rfl
      refine ⟨fun _ => ⟨⟨by omega, by omega⟩, ft_01 k, fun h21 e21 => ?_⟩, fun c => absurd (by omega) c⟩
      rw [Int.toNat_natCast] at e21
      have o161 : h21 161 30 = cm (fun i => ft g t i S k) (m - 1) := by rw [e21, mset_i _ (by omega)]; exact ec
      have r21 : RXh h21 g := by rw [e21]; exact r.sto w.nm (by omega)
      have k21 : KP h h21 := by rw [e21]; exact kv.sto (by omega)
      have row21 : ∀ y, mmRow g t S k (m + 1) (mset h21 161 30 y) := fun y i i1 i2 => by
        rw [mset_i _ (by omega), e21]
        by_cases c : i = m
        · subst c
          rw [mset_at]
          refine ⟨rfl, fun j hj => ?_⟩
          rw [mset_i _ (by omega), mset_i _ (by omega)]
          exact cur j hj
        · rw [mset_k c]
          refine ⟨(row i i1 (by omega)).1, fun j hj => ?_⟩
          rw [mset_i _ (by omega), mset_i _ (by omega)]
          exact (row i i1 (by omega)).2 j hj
      rw [o161]
      refine ⟨fun c => ⟨⟨by omega, by omega⟩, fun h23 e23 => ⟨⟨by omega, by omega⟩, ?_⟩⟩, fun c => ⟨⟨by omega, by omega⟩, fun h23 e23 => ⟨⟨by omega, by omega⟩, ?_⟩⟩⟩
      · subst e23
        exact K _ (r21.sto w.nm (by omega)) (k21.st (by omega)) (row21 _) (by rw [mset_at, cs, if_pos c])
      · subst e23
        exact K _ (r21.sto w.nm (by omega)) (k21.st (by omega)) (row21 _) (by rw [mset_at, cs, if_neg c])
    | succ d ih =>
      intro k z u hz hi r kv row cur ec K
      subst hz
      refine l_X12_laysMinds_81 ?_
      unfold B_X12_laysMinds_81
      have o1 := ok k (by omega)
      have e1 : ((60 * (a : Int)) + (2 * (k : Int))).toNat = 60 * a + 2 * k := by omega
      have e2 : ((60 * (a : Int)) + (2 * (k : Int)) + 1).toNat = 60 * a + (2 * k + 1) := by omega
      have f1 : u 166 (60 * a + 2 * k) = S (2 * k) := by rw [kv.2.2 166 _ (by omega) (by omega) (by omega) (by omega)]; exact hS _ (by omega)
      have f2 : u 166 (60 * a + (2 * k + 1)) = S (2 * k + 1) := by rw [kv.2.2 166 _ (by omega) (by omega) (by omega) (by omega)]; exact hS _ (by omega)
      have fs : ft g t m S (k + 1) = if ft g t m S k = 1 ∧ trn g t m (S (2 * k)).toNat = S (2 * k + 1) then 1 else 0 := rfl
      have go := ih (k + 1) ((k : Int) + 1) u (by omega) (by omega) r kv row cur ec K
      rw [fs] at go
      have f01 := ft_01 (g := g) (t := t) (m := m) (S := S) k
      have t01 : trn g t m (S (2 * k)).toNat = 0 ∨ trn g t m (S (2 * k)).toNat = 1 := tn_01 _
      have e3 : (61 * (m : Int) + S (2 * k)).toNat = 61 * m + (S (2 * k)).toNat := by omega
      rw [e1, f1, e2, f2]
      refine ⟨fun c => absurd c (by omega), fun _ => ⟨⟨by omega, by omega⟩, ⟨by omega, by omega⟩, ⟨by omega, by omega⟩, ⟨by omega, by omega⟩, fun x33 e33 => ?_⟩⟩
      rw [l2i_s (by omega)] at e33
      subst e33
      rw [e3, cur _ (by omega)]
      refine ⟨fun c => ⟨⟨by omega, by omega⟩, ?_⟩, fun c => ⟨⟨by omega, by omega⟩, ⟨by omega, by omega⟩, ⟨by omega, by omega⟩, ⟨by omega, by omega⟩, ⟨by omega, by omega⟩, fun c2 => ⟨fun c3 => ⟨⟨by omega, by omega⟩, ?_⟩, fun c3 => ⟨⟨by omega, by omega⟩, ?_⟩⟩, fun c2 => ⟨fun c3 => ⟨⟨by omega, by omega⟩, ?_⟩, fun c3 => ⟨⟨by omega, by omega⟩, ?_⟩⟩⟩⟩
      · rw [if_neg (by omega)] at go; exact go
      · rw [if_neg (by omega)] at go; exact go
      · rw [if_pos (by omega)] at go; exact go
      · rw [if_neg (by omega)] at go; exact go
      · rw [if_pos (by omega)] at go; exact go
  have hours : ∀ (m : Nat), 1 ≤ m → m ≤ 24 → ∀ (d j : Nat) (z : Int) (u : Mem), z = (j : Int) → j + d = 61 → RXh u (passN j (gset g 3 t (m : Int))) → KP h u → mmRow g t S n m u → (∀ i, i < j → u 173 (61 * m + i) = trn g t m i) → u 161 30 = cm (fun i => ft g t i S n) (m - 1) →
      (∀ v, RXh v g → KP h v → mmRow g t S n (m + 1) v → v 161 30 = cm (fun i => ft g t i S n) m → L_X12_laysMinds_15 v (t : Int) (a : Int) (n : Int) ((m : Int) + 1) Q) → L_X12_laysMinds_38 u (t : Int) (a : Int) (n : Int) (m : Int) z Q := by
    intro m m1 m2 d
    induction d with
    | zero =>
      intro j z u hz hi r kv row cur ec K
      subst hz
      obtain rfl : j = 61 := by omega
      refine l_X12_laysMinds_38 ?_
      unfold B_X12_laysMinds_38
      refine ⟨fun _ => m_rest w rx kv (fun v rv kv2 fv => fits m m1 m2 n 0 0 v rfl (by omega) rv kv2 (row.fr (fun i _ => fv 172 i (by omega)) (fun i _ => fv 173 i (by omega))) (fun j hj => by rw [fv 173 _ (by omega)]; exact cur j hj) (by rw [fv 161 30 (by omega)]; exact ec) K), fun c => absurd (by omega) c⟩
    | succ d ih =>
      intro j z u hz hi r kv row cur ec K
      subst hz
      refine l_X12_laysMinds_38 ?_
      unfold B_X12_laysMinds_38
      have wG : WF (9999 + j) (passN j (gset g 3 t (m : Int))) := (w.gs (Or.inr rfl) (by omega)).passN j
      have e3 : (61 * (m : Int) + (j : Int)).toNat = 61 * m + j := by omega
      rw [e3]
      refine ⟨fun c => absurd c (by omega), fun _ => ⟨⟨by omega, by omega⟩, ⟨by omega, by omega⟩, q_hour r wG (by omega) (fun v rv fv => ⟨⟨by omega, by omega⟩, tn_01 _, fun h17 e17 => ⟨⟨by omega, by omega⟩, ?_⟩⟩)⟩⟩
      subst e17
      rw [← passN_s] at rv
      have nmG : gn (passN (j + 1) (gset g 3 t (m : Int))) ≤ 8 ∧ gm (passN (j + 1) (gset g 3 t (m : Int))) ≤ 4 := by rw [gn_passN, gm_passN, gn_gset (by omega), gm_gset (by omega)]; exact w.nm
      refine ih (j + 1) _ _ (by omega) (by omega) (rv.sto nmG (by omega)) ((kv.fm fv).sto (by omega)) (row.fr (fun i _ => ?_) (fun i hi => ?_)) (fun i hi => ?_) ?_ K
      · rw [mset_i _ (by omega)]; exact fv 172 i (by omega)
      · rw [mset_k (by omega)]; exact fv 173 i (by omega)
      · by_cases c : i = j
        · subst c; rw [mset_at]; rfl
        · rw [mset_k (by omega), fv 173 _ (by omega)]; exact cur i (by omega)
      · rw [mset_i _ (by omega), fv 161 30 (by omega)]; exact ec
  have outer : ∀ (d m : Nat) (z : Int) (v : Mem), z = (m : Int) → m + d = 25 → 1 ≤ m → RXh v g → KP h v → mmRow g t S n m v → v 161 30 = cm (fun i => ft g t i S n) (m - 1) → L_X12_laysMinds_15 v (t : Int) (a : Int) (n : Int) z Q := by
    intro d
    induction d with
    | zero =>
      intro m z v hz hi m1 r kv row ec
      subst hz
      obtain rfl : m = 25 := by omega
      refine l_X12_laysMinds_15 ?_
      unfold B_X12_laysMinds_15
      exact ⟨fun _ => hQ v r kv row ec, fun c => absurd (by omega) c⟩
    | succ d ih =>
      intro m z v hz hi m1 r kv row ec
      subst hz
      refine l_X12_laysMinds_15 ?_
      unfold B_X12_laysMinds_15
      refine ⟨fun c => absurd c (by omega), fun _ => q_thingRow rfl t8 ⟨⟨by omega, by omega⟩, ⟨by omega, by omega⟩, fun h8 e8 => ?_⟩⟩
      have e3 : (12 + 7 * (t : Int) + 2).toNat = 12 + 7 * t + 2 := by omega
      rw [e3] at e8
      subst e8
      have fm : FMh v (mset v 162 (12 + 7 * t + 2) (m : Int)) := FMh.rf.st (by omega)
      refine hours m m1 (by omega) 61 0 0 _ rfl (by omega) (r.gs t8 (Or.inr rfl)) (kv.fm fm) (row.fr (fun i _ => mset_i i (by omega)) (fun i _ => mset_i i (by omega))) (fun i hi => absurd hi (by omega)) ((mset_i 30 (by omega)).trans ec) (fun v2 a1 a2 a3 a4 => ih (m + 1) _ v2 (by omega) (by omega) (by omega) a1 a2 a3 a4)
  refine m_keep2 w rx (fun u ru ku h3 e3 => ?_)
  subst e3
  exact outer 24 1 1 _ rfl (by omega) (by omega) (ru.sto w.nm (by omega)) (ku.st (by omega)) (fun i h1 h2 => absurd h1 (by omega)) mset_at
section MM
variable {h : Mem} {g : Gs} {t n : Nat} {S : Nat → Int} {Q : Int → Mem → Prop}
theorem q_leastMind (row : mmRow g t S n 25 h) (no : lm (fun i => ft g t i S n) 24 1 ≠ -1) (hQ : F_X12_gives h (lm (fun i => ft g t i S n) 24 1) Q) : L_X12_mindedAt_70 h 0 1 Q := by
  have key : ∀ (d m : Nat) (z : Int), z = (m : Int) → m + d = 25 → 1 ≤ m → lm (fun i => ft g t i S n) d m ≠ -1 → F_X12_gives h (lm (fun i => ft g t i S n) d m) Q → L_X12_mindedAt_70 h 0 z Q := by
    intro d
    induction d with
    | zero => intro m z hz hi h1 q; exact absurd rfl q
    | succ d ih =>
      intro m z hz hi h1 no q
      subst hz
      refine l_X12_mindedAt_70 ?_
      unfold B_X12_mindedAt_70
      unfold lm at q no
      rw [Int.toNat_natCast, (row m (by omega) (by omega)).1]
      refine ⟨⟨by omega, by omega⟩, fun c => ?_, fun c => ⟨fun c2 => absurd rfl c2, fun _ => ⟨⟨by omega, by omega⟩, ?_⟩⟩⟩
      · rw [if_neg c] at q; exact q
      · rw [if_pos c] at q no; exact ih (m + 1) _ (by omega) (by omega) (by omega) no q
  exact key 24 1 1 rfl (by omega) (by omega) no hQ
theorem q_greatestMind (row : mmRow g t S n 25 h) (no : gmn (fun i => ft g t i S n) 24 ≠ -1) (hQ : F_X12_gives h (gmn (fun i => ft g t i S n) 24) Q) : L_X12_mindedAt_70 h 1 24 Q := by
  have key : ∀ (m : Nat) (z : Int), z = (m : Int) → m ≤ 24 → gmn (fun i => ft g t i S n) m ≠ -1 → F_X12_gives h (gmn (fun i => ft g t i S n) m) Q → L_X12_mindedAt_70 h 1 z Q := by
    intro m
    induction m with
    | zero => intro z hz h1 q; exact absurd rfl q
    | succ m ih =>
      intro z hz h1 no q
      subst hz
      refine l_X12_mindedAt_70 ?_
      unfold B_X12_mindedAt_70
      unfold gmn at q no
      rw [Int.toNat_natCast, (row (m + 1) (by omega) (by omega)).1]
      refine ⟨⟨by omega, by omega⟩, fun c => ?_, fun c => ⟨fun _ => ⟨⟨by omega, by omega⟩, ?_⟩, fun c2 => absurd c2 (by decide)⟩⟩
      · rw [if_neg c] at q; exact q
      · rw [if_pos c] at q no; exact ih _ (by omega) (by omega) no q
  exact key 24 24 rfl (by omega) no hQ
theorem q_ask (row : mmRow g t S n 25 h) (e30 : h 161 30 = cm (fun i => ft g t i S n) 24) (hQ : F_X12_gives h (askF (fun i => ft g t i S n) (trn g t) 61 0 (cm (fun i => ft g t i S n) 24 + 1, -1)).2 Q) : L_X12_ask_54 h (-1) 1000000 0 Q := by
  have cI := cm_in (F := fun i => ft g t i S n) 24
  have inner : ∀ (j : Nat), j ≤ 60 → ∀ (v5 v6 : Int), (imax (ct (fun i => ft g t i S n) (trn g t) j 24) (cm (fun i => ft g t i S n) 24 - ct (fun i => ft g t i S n) (trn g t) j 24) < v6 → L_X12_ask_54 h (j : Int) (imax (ct (fun i => ft g t i S n) (trn g t) j 24) (cm (fun i => ft g t i S n) 24 - ct (fun i => ft g t i S n) (trn g t) j 24)) ((j : Int) + 1) Q) → (¬ imax (ct (fun i => ft g t i S n) (trn g t) j 24) (cm (fun i => ft g t i S n) 24 - ct (fun i => ft g t i S n) (trn g t) j 24) < v6 → L_X12_ask_54 h v5 v6 ((j : Int) + 1) Q) → ∀ (d k : Nat) (z : Int), z = (k : Int) + 1 → k + d = 24 → L_X12_ask_67 h v5 v6 (j : Int) (ct (fun i => ft g t i S n) (trn g t) j k) z Q := by
    intro j hj v5 v6 K1 K2 d
    induction d with
    | zero =>
      intro k z hz hi
      subst hz
      obtain rfl : k = 24 := by omega
      refine l_X12_ask_67 ?_
      unfold B_X12_ask_67
      have cj := ct_in (F := fun i => ft g t i S n) (T := trn g t) (j := j) 24
      rw [e30]
      refine ⟨fun _ => ⟨⟨by omega, by omega⟩, fun x12 e12 => ?_⟩, fun c => absurd (by omega) c⟩
      subst e12
      exact ⟨fun c => ⟨⟨by omega, by omega⟩, K1 c⟩, fun c => ⟨⟨by omega, by omega⟩, K2 c⟩⟩
    | succ d ih =>
      intro k z hz hi
      subst hz
      refine l_X12_ask_67 ?_
      unfold B_X12_ask_67
      have ci := cm_in (F := fun i => ft g t i S n) k
      have cj := ct_in (F := fun i => ft g t i S n) (T := trn g t) (j := j) k
      have cs : ct (fun i => ft g t i S n) (trn g t) j (k + 1) = if ft g t (k + 1) S n = 0 then ct (fun i => ft g t i S n) (trn g t) j k else if trn g t (k + 1) j = 1 then ct (fun i => ft g t i S n) (trn g t) j k + 1 else ct (fun i => ft g t i S n) (trn g t) j k := rfl
      have e : ((k : Int) + 1).toNat = k + 1 := by omega
      have e3 : (61 * ((k : Int) + 1) + (j : Int)).toNat = 61 * (k + 1) + j := by omega
      have t01 : trn g t (k + 1) j = 0 ∨ trn g t (k + 1) j = 1 := tn_01 _
      rw [e, e3, (row (k + 1) (by omega) (by omega)).1, (row (k + 1) (by omega) (by omega)).2 j (by omega)]
      have go := ih (k + 1) ((k : Int) + 1 + 1) (by omega) (by omega)
      refine ⟨fun c => absurd c (by omega), fun _ => ⟨⟨by omega, by omega⟩, fun c => ⟨⟨by omega, by omega⟩, ⟨by omega, by omega⟩, ?_⟩, fun c => ⟨⟨by omega, by omega⟩, ⟨by omega, by omega⟩, ⟨by omega, by omega⟩, fun c2 => ⟨⟨by omega, by omega⟩, ⟨by omega, by omega⟩, ?_⟩, fun c2 => ⟨⟨by omega, by omega⟩, ⟨by omega, by omega⟩, ?_⟩⟩⟩⟩
      · rw [cs, if_pos c] at go; exact go
      · rw [cs, if_neg c, if_neg (by omega)] at go; exact go
      · rw [cs, if_neg c, if_pos (by omega)] at go; exact go
  have key : ∀ (d j : Nat) (z v6 : Int) (s : Int × Int), z = (j : Int) → j + d = 61 → (v6 = s.1 ∨ (v6 = 1000000 ∧ s.1 = cm (fun i => ft g t i S n) 24 + 1)) → F_X12_gives h (askF (fun i => ft g t i S n) (trn g t) d j s).2 Q → L_X12_ask_54 h s.2 v6 z Q := by
    intro d
    induction d with
    | zero =>
      intro j z v6 s hz hi _ q
      subst hz
      refine l_X12_ask_54 ?_
      unfold B_X12_ask_54
      exact ⟨fun _ => q, fun c => absurd (by omega) c⟩
    | succ d ih =>
      intro j z v6 s hz hi hv q
      subst hz
      refine l_X12_ask_54 ?_
      unfold B_X12_ask_54
      have c1 := ct_in (F := fun i => ft g t i S n) (T := trn g t) (j := j) 24
      have c2 := imax_in (a := ct (fun i => ft g t i S n) (trn g t) j 24) (b := cm (fun i => ft g t i S n) 24 - ct (fun i => ft g t i S n) (trn g t) j 24)
      have q2 : F_X12_gives h (askF (fun i => ft g t i S n) (trn g t) d (j + 1) (askS (fun i => ft g t i S n) (trn g t) j s)).2 Q := q
      refine ⟨fun c => absurd c (by omega), fun _ => inner j (by omega) s.2 v6 (fun c => ?_) (fun c => ?_) 24 0 1 rfl (by omega)⟩
      · have e : askS (fun i => ft g t i S n) (trn g t) j s = (imax (ct (fun i => ft g t i S n) (trn g t) j 24) (cm (fun i => ft g t i S n) 24 - ct (fun i => ft g t i S n) (trn g t) j 24), (j : Int)) := by unfold askS; rw [if_pos (by omega)]
        rw [e] at q2
        exact ih (j + 1) _ _ _ (by omega) (by omega) (Or.inl rfl) q2
      · have e : askS (fun i => ft g t i S n) (trn g t) j s = s := by unfold askS; rw [if_neg (by omega)]
        rw [e] at q2
        exact ih (j + 1) _ v6 s (by omega) (by omega) hv q2
  exact key 61 0 0 1000000 (cm (fun i => ft g t i S n) 24 + 1, -1) rfl (by omega) (Or.inr ⟨rfl, rfl⟩) hQ
end MM
