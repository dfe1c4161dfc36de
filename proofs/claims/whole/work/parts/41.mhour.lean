/-! the reference's glen: the row 162, places 0 .. 79 -/
def RXp (h : Mem) (g : Gs) (V : Nat → Prop) : Prop := (∀ i, i ≤ 8 → i ≠ 5 → h 162 i = g 0 i) ∧ (∀ t k, t < gn g → k < 7 → (k = 4 → V t) → h 162 (12 + 7 * t + k) = g (k + 1) t) ∧ ∀ m k, m < gm g → k < 3 → h 162 (68 + 3 * m + k) = g (8 + k) m
def RX (h : Mem) (g : Gs) : Prop := RXp h g (fun t => g 4 t = 1)
def RXh (h : Mem) (g : Gs) : Prop := RX h g ∧ h 162 5 = g 0 5
/-- only the glen's own places have changed -/
def FM (h h' : Mem) : Prop := ∀ i k, (i ≠ 162 ∨ 80 ≤ k ∨ k = 5 ∨ k = 9) → h' i k = h i k
def FMh (h h' : Mem) : Prop := ∀ i k, (i ≠ 162 ∨ 80 ≤ k ∨ k = 9) → h' i k = h i k
theorem FMh.rf {h : Mem} : FMh h h := fun _ _ _ => rfl
theorem FMh.tr {h h1 h2 : Mem} (a : FMh h h1) (b : FMh h1 h2) : FMh h h2 := fun i k q => (b i k q).trans (a i k q)
theorem FM.rf {h : Mem} : FM h h := fun _ _ _ => rfl
theorem FM.tr {h h1 h2 : Mem} (a : FM h h1) (b : FM h1 h2) : FM h h2 := fun i k q => (b i k q).trans (a i k q)
theorem FM.st {h h' : Mem} {k : Nat} {v : Int} (a : FM h h') (hk : k < 80 ∧ k ≠ 5 ∧ k ≠ 9) : FM h (mset h' 162 k v) := fun i j q => by
  have : mset h' 162 k v i j = h' i j := by unfold mset; rw [if_neg (by omega)]
  rw [this]
  exact a i j q
theorem RXp.cg {h : Mem} {g g' : Gs} {V V' : Nat → Prop} (r : RXp h g V) (e0 : ∀ i, i ≤ 8 → i ≠ 5 → g' 0 i = g 0 i) (et : ∀ f t, t < gn g → 1 ≤ f → f ≤ 7 → (f = 5 → V' t) → g' f t = g f t) (em : ∀ f m, m < gm g → 8 ≤ f → f ≤ 10 → g' f m = g f m) (hV : ∀ t, t < gn g → V' t → V t) : RXp h g' V' := by
  have n1 : gn g' = gn g := by unfold gn; rw [e0 0 (by omega) (by omega)]
  have n2 : gm g' = gm g := by unfold gm; rw [e0 1 (by omega) (by omega)]
  refine ⟨fun i hi h5 => by rw [e0 i hi h5]; exact r.1 i hi h5, fun t k ht hk hv => ?_, fun m k hm hk => ?_⟩
  · rw [n1] at ht
    rw [et (k + 1) t ht (by omega) (by omega) (fun q => hv (by omega))]
    exact r.2.1 t k ht hk (fun q => hV t ht (hv q))
  · rw [n2] at hm
    rw [em (8 + k) m hm (by omega) (by omega)]
    exact r.2.2 m k hm hk
theorem RXp.set {h : Mem} {g : Gs} {V V' : Nat → Prop} {t k : Nat} {v : Int} (r : RXp h g V) (ht : t < 8) (hk : k < 7) (hV : ∀ i, V' i → V i ∨ (i = t ∧ k = 4)) : RXp (mset h 162 (12 + 7 * t + k) v) (gset g (k + 1) t v) V' := by
  have n1 : gn (gset g (k + 1) t v) = gn g := gn_gset (by omega)
  have n2 : gm (gset g (k + 1) t v) = gm g := by unfold gm; rw [gset_n (by omega)]
  refine ⟨fun i hi h5 => ?_, fun t' k' ht' hk' hv => ?_, fun m k' hm hk' => ?_⟩
  · rw [mset_k (by omega), gset_n (by omega)]; exact r.1 i hi h5
  · rw [n1] at ht'
    by_cases c : t' = t ∧ k' = k
    · obtain ⟨rfl, rfl⟩ := c
      rw [mset_at, gset_e]
    · rw [mset_k (by omega), gset_n (by omega)]
      exact r.2.1 t' k' ht' hk' (fun q => by
        rcases hV t' (hv q) with z | z
        · exact z
        · exact absurd ⟨z.1, by omega⟩ c)
  · rw [n2] at hm
    rw [mset_k (by omega), gset_n (by omega)]; exact r.2.2 m k' hm hk'
theorem RXp.sets {h : Mem} {g : Gs} {V : Nat → Prop} {i : Nat} {v : Int} (r : RXp h g V) (hi : 2 ≤ i ∧ i ≤ 8) : RXp (mset h 162 i v) (sset g i v) V := by
  have n1 : gn (sset g i v) = gn g := gn_sset (by omega)
  have n2 : gm (sset g i v) = gm g := gm_sset (by omega)
  refine ⟨fun j hj h5 => ?_, fun t' k' ht' hk' hv => ?_, fun m k' hm hk' => ?_⟩
  · by_cases c : j = i
    · subst c; rw [mset_at, sset_e]
    · rw [mset_k c, sset_n (by omega)]; exact r.1 j hj h5
  · rw [n1] at ht'
    rw [mset_k (by omega), sset_n (by omega)]; exact r.2.1 t' k' ht' hk' hv
  · rw [n2] at hm
    rw [mset_k (by omega), sset_n (by omega)]; exact r.2.2 m k' hm hk'
theorem RXp.setm {h : Mem} {g : Gs} {V : Nat → Prop} {t k : Nat} {v : Int} (r : RXp h g V) (hW : gn g ≤ 8) (hk : k < 3) : RXp (mset h 162 (68 + 3 * t + k) v) (gset g (8 + k) t v) V := by
  have n1 : gn (gset g (8 + k) t v) = gn g := gn_gset (by omega)
  have n2 : gm (gset g (8 + k) t v) = gm g := by unfold gm; rw [gset_n (by omega)]
  refine ⟨fun j hj h5 => ?_, fun t' k' ht' hk' hv => ?_, fun m k' hm hk' => ?_⟩
  · rw [mset_k (by omega), gset_n (by omega)]; exact r.1 j hj h5
  · rw [n1] at ht'
    rw [mset_k (by omega), gset_n (by omega)]; exact r.2.1 t' k' ht' hk' hv
  · rw [n2] at hm
    by_cases c : m = t ∧ k' = k
    · obtain ⟨rfl, rfl⟩ := c
      rw [mset_at, gset_e]
    · rw [mset_k (by omega), gset_n (by omega)]; exact r.2.2 m k' hm hk'
theorem q_thingRow {h : Mem} {t : Nat} {x : Int} {Q : Int → Mem → Prop} (hx : x = (t : Int)) (ht : t < 8) (hQ : Q (12 + 7 * (t : Int)) h) : F_X12_thingRow h x Q := by
  subst hx
  exact ⟨⟨by omega, by omega⟩, ⟨by omega, by omega⟩, hQ⟩
theorem q_millRow {h : Mem} {t : Nat} {x : Int} {Q : Int → Mem → Prop} (hx : x = (t : Int)) (ht : t < 4) (hQ : Q (68 + 3 * (t : Int)) h) : F_X12_millRow h x Q := by
  subst hx
  exact ⟨⟨by omega, by omega⟩, ⟨by omega, by omega⟩, hQ⟩
theorem q_thingOf {h : Mem} {t k : Nat} {x y : Int} {Q : Int → Mem → Prop} (hx : x = (t : Int)) (hy : y = (k : Int)) (ht : t < 8) (hk : k < 7) (hQ : Q (h 162 (12 + 7 * t + k)) h) : F_X12_thingOf h x y Q := by
  subst hy
  unfold F_X12_thingOf
  refine q_thingRow hx ht ⟨⟨by omega, by omega⟩, ⟨by omega, by omega⟩, ?_⟩
  rw [show (12 + 7 * (t : Int) + (k : Int)).toNat = 12 + 7 * t + k by omega]
  exact hQ
theorem q_millOf {h : Mem} {t k : Nat} {x y : Int} {Q : Int → Mem → Prop} (hx : x = (t : Int)) (hy : y = (k : Int)) (ht : t < 4) (hk : k < 3) (hQ : Q (h 162 (68 + 3 * t + k)) h) : F_X12_millOf h x y Q := by
  subst hy
  unfold F_X12_millOf
  refine q_millRow hx ht ⟨⟨by omega, by omega⟩, ⟨by omega, by omega⟩, ?_⟩
  rw [show (68 + 3 * (t : Int) + (k : Int)).toNat = 68 + 3 * t + k by omega]
  exact hQ
theorem q_sea {h : Mem} {g : Gs} {B : Int} {V : Nat → Prop} {Q : Int → Mem → Prop} (hR : RXp h g V) (hW : WF B g) (hQ : Q (g 0 2 - 1) h) : F_X12_sea h Q := by
  have ws := hW.1
  unfold WFs at ws
  unfold F_X12_sea
  rw [hR.1 2 (by omega) (by omega)]
  exact ⟨⟨by omega, by omega⟩, hQ⟩
theorem q_isRem {h : Mem} {g : Gs} {B : Int} {V : Nat → Prop} {t : Nat} {x : Int} {Q : Int → Mem → Prop} (hR : RXp h g V) (hW : WF B g) (hx : x = (t : Int)) (ht : t < gn g) (hQ : Q (if g 4 t = 1 ∧ g 3 t ≤ g 6 t then 1 else 0) h) : F_X12_isRemembered h x Q := by
  obtain ⟨n8, nc⟩ := gn8 hW
  unfold F_X12_isRemembered
  refine q_thingOf (k := 3) hx rfl (by omega) (by omega) ?_
  rw [hR.2.1 t 3 ht (by omega) (fun q => absurd q (by omega))]
  refine ⟨fun c => ?_, fun c => ?_⟩
  · rw [if_neg (fun z => c z.1)] at hQ; exact hQ
  · refine q_thingOf (k := 5) hx rfl (by omega) (by omega) (q_thingOf (k := 2) hx rfl (by omega) (by omega) ?_)
    rw [hR.2.1 t 5 ht (by omega) (fun q => absurd q (by omega)), hR.2.1 t 2 ht (by omega) (fun q => absurd q (by omega))]
    refine ⟨fun c2 => ?_, fun c2 => ?_⟩
    · have c2' : g 6 t < g 3 t := c2
      rw [if_neg (fun z => by omega)] at hQ; exact hQ
    · have c2' : ¬ g 6 t < g 3 t := c2
      rw [if_pos ⟨c, by omega⟩] at hQ; exact hQ
theorem q_minded {h : Mem} {g : Gs} {B : Int} {V : Nat → Prop} {Q : Int → Mem → Prop} (hR : RXp h g V) (hW : WF B g) (hQ : Q (gT g) h) : F_X12_mindedMost h Q := by
  obtain ⟨n8, nc⟩ := gn8 hW
  have key : ∀ (m i : Nat) (x : Int), x = (i : Int) → i + m = gn g → L_X12_mindedMost_4 h (lr g i).1 x Q := by
    intro m
    induction m with
    | zero =>
      intro i x hx hi
      subst hx
      refine l_X12_mindedMost_4 ?_
      unfold B_X12_mindedMost_4
      rw [hR.1 0 (by omega) (by omega)]
      have : i = gn g := by omega
      subst this
      exact ⟨fun _ => hQ, fun c => absurd (by omega) c⟩
    | succ m ih =>
      intro i x hx hi
      subst hx
      have ihn := ih (i + 1) ((i : Int) + 1) (by omega) (by omega)
      have wt := hW.2.1 i (by omega)
      unfold WFt at wt
      have ir : InR ((i : Int) + 1) := ⟨by omega, by omega⟩
      refine l_X12_mindedMost_4 ?_
      unfold B_X12_mindedMost_4
      rw [hR.1 0 (by omega) (by omega)]
      refine ⟨fun c => absurd c (by omega), fun c => q_isRem hR hW rfl (by omega) ⟨fun c1 => ⟨ir, ?_⟩, fun c1 => ?_⟩⟩
      · have nr : ¬ (g 4 i = 1 ∧ g 3 i ≤ g 6 i) := fun z => by rw [if_pos z] at c1; omega
        unfold lr at ihn
        rw [if_neg (fun z => nr ⟨z.1, z.2.1⟩)] at ihn
        exact ihn
      · have yr : g 4 i = 1 ∧ g 3 i ≤ g 6 i := by
          by_cases z : g 4 i = 1 ∧ g 3 i ≤ g 6 i
          · exact z
          · rw [if_neg z] at c1; exact absurd rfl c1
        rcases lr_ok hW i (by omega) with ⟨e, -⟩ | ⟨t, h1, e, h2, h3, h4⟩
        · refine ⟨fun _ => ⟨ir, ?_⟩, fun c2 => absurd (by rw [e]) c2⟩
          unfold lr at ihn
          rw [if_pos ⟨yr.1, yr.2, by rw [e]; show (0 : Int) < _; omega⟩] at ihn
          exact ihn
        · refine ⟨fun c2 => absurd c2 (by rw [e]; show ¬ ((t : Int) = -1); omega), fun c2 => ?_⟩
          refine q_thingOf (k := 5) rfl rfl (by omega) (by omega) (q_thingOf (t := t) (k := 5) (by rw [e]) rfl (by omega) (by omega) ?_)
          rw [hR.2.1 i 5 (by omega) (by omega) (fun q => absurd q (by omega)), hR.2.1 t 5 (by omega) (by omega) (fun q => absurd q (by omega))]
          refine ⟨fun c3 => ⟨ir, ?_⟩, fun c3 => ⟨ir, ?_⟩⟩
          · have c3' : g 6 i ≤ g 6 t := c3
            unfold lr at ihn
            rw [if_neg (fun z => by rw [e] at z; have := z.2.2; have : g 6 t < g 6 i := this; omega)] at ihn
            exact ihn
          · have c3' : ¬ g 6 i ≤ g 6 t := c3
            unfold lr at ihn
            rw [if_pos ⟨yr.1, yr.2, by rw [e]; show g 6 t < g 6 i; omega⟩] at ihn
            exact ihn
  exact key (gn g) 0 0 rfl (by omega)
theorem q_goal {h : Mem} {g : Gs} {B : Int} {Q : Int → Mem → Prop} (hR : RX h g) (hW : WF B g) (hQ : Q (goalC g) h) : F_X12_goalNow h Q := by
  obtain ⟨n8, nc⟩ := gn8 hW
  unfold F_X12_goalNow
  refine q_minded hR hW ?_
  unfold goalC at hQ
  rcases gT_cases hW with ⟨e, -⟩ | ⟨t, ht, e, h4⟩
  · rw [e] at hQ ⊢
    rw [if_pos rfl] at hQ
    exact ⟨fun c => absurd rfl c, fun _ => q_sea hR hW hQ⟩
  · rw [e] at hQ ⊢
    rw [if_neg (by omega), Int.toNat_natCast] at hQ
    refine ⟨fun c => q_thingOf (k := 4) rfl rfl (by omega) (by omega) ?_, fun c => absurd c (by omega)⟩
    rw [hR.2.1 t 4 ht (by omega) (fun _ => h4)]
    exact hQ
