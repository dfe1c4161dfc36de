/-! live: the reference's small methods -/
def kc (x : Int) : Int := if x = 0 then 14 else if x = 1 then 15 else if x = 2 then 16 else if x = 3 then 17 else if x = 4 then 1812 else if x = 5 then 1822 else if x = 6 then 1813 else if x = 7 then 1823 else if x = 8 then 19 else if x = 9 then 21 else 20
/-- the reference's days behind the place b -/
def RDm (h : Mem) (b : Nat) (d : Dy) : Prop := h 162 (b + 9) = (if d 0 0 = 0 then -1 else d 0 2) ∧ ∀ k, k < dn d → h 162 (b + (80 + 6 * k)) = kc (d 1 k) ∧ (d 1 k ≠ 6 → h 162 (b + (80 + 6 * k + 1)) = d 2 k) ∧ h 162 (b + (80 + 6 * k + 2)) = d 3 k ∧ ((4 ≤ d 1 k ∧ d 1 k ≠ 9) → h 162 (b + (80 + 6 * k + 4)) = d 5 k) ∧ h 162 (b + (80 + 6 * k + 5)) = d 4 k
def hsN (g : Gs) : Nat → Int
  | 0 => 0
  | k + 1 => hsN g k + g 7 k
def hs (g : Gs) : Int := hsN g (gn g)
theorem hsN_in {g : Gs} (w : WF 9999 g) : ∀ k, k ≤ gn g → 0 ≤ hsN g k ∧ hsN g k ≤ 9999 * k := by
  intro k
  induction k with
  | zero => intro _; exact ⟨Int.le_refl _, by simp [hsN]⟩
  | succ k ih =>
    intro hk
    have i := ih (by omega)
    have wt := w.2.1 k (by omega)
    have ws := w.1
    unfold WFt at wt
    unfold WFs at ws
    unfold hsN
    omega
theorem hs_in {g : Gs} (w : WF 9999 g) : 0 ≤ hs g ∧ hs g ≤ 79992 := by
  have i := hsN_in w (gn g) (Nat.le_refl _)
  have n8 := w.nm.1
  unfold hs
  omega
theorem hs_ts {g : Gs} {t : Nat} {a b c : Int} : hs (tset g t a b c) = hs g := by
  have e : ∀ k, hsN (tset g t a b c) k = hsN g k := by
    intro k
    induction k with
    | zero => rfl
    | succ k ih =>
      unfold hsN
      rw [ih, tset_n (by omega)]
  unfold hs
  rw [gn_tset, e]
theorem pass_5 {g : Gs} : pass g 0 5 = g 0 5 + 1 := by
  unfold pass growG takeG
  rw [upTo_lo (by omega), upTo_lo (by omega), moveG_n (by omega)]
  exact sset_e
theorem passN_5 : ∀ (k : Nat) (g : Gs), passN k g 0 5 = g 0 5 + k := by
  intro k
  induction k with
  | zero => intro g; show g 0 5 = g 0 5 + ((0 : Nat) : Int); omega
  | succ k ih =>
    intro g
    show passN k (pass g) 0 5 = g 0 5 + ((k + 1 : Nat) : Int)
    rw [ih, pass_5]
    omega
theorem s_homes {h : Mem} {o : Nat} {g : Gs} {Q : Int → Mem → Prop} (w : WF 9999 g) (hl : lay o = (0, 9)) (r : RT h o g) (hQ : Q (hs g) h) : F_X9_homesInAll h o Q := by
  obtain ⟨n8, nc⟩ := gn8 w
  unfold F_X9_homesInAll
  have key : ∀ (m i : Nat) (z : Int), z = (i : Int) → i + m = gn g → L_X9_homesInAll_4 h o (hsN g i) z Q := by
    intro m
    induction m with
    | zero =>
      intro i z hz hi
      subst hz
      refine l_X9_homesInAll_4 hl ?_
      unfold B_X9_homesInAll_4
      rw [r.1]
      have e : i = gn g := by omega
      subst e
      exact ⟨fun _ => hQ, fun c => absurd (by omega) c⟩
    | succ m ih =>
      intro i z hz hi
      subst hz
      refine l_X9_homesInAll_4 hl ?_
      unfold B_X9_homesInAll_4
      have i0 := hsN_in w i (by omega)
      have i1 := hsN_in w (i + 1) (by omega)
      have e7 := (r.2 i (by omega)).2.2.2.2.2.2.2
      rw [r.1, Int.toNat_natCast, e7]
      have es : hsN g i + g 7 i = hsN g (i + 1) := rfl
      rw [es]
      refine ⟨fun c => absurd c (by omega), fun _ => ⟨⟨by omega, by omega⟩, ⟨by omega, by omega⟩, fun x4 e4 => ⟨⟨by omega, by omega⟩, ?_⟩⟩⟩
      subst e4
      exact ih (i + 1) _ (by omega) (by omega)
  exact key (gn g) 0 0 rfl (by omega)
theorem q_homes {h : Mem} {g : Gs} {Q : Int → Mem → Prop} (w : WF 9999 g) (r : RXh h g) (hQ : Q (hs g) h) : F_X12_allHomes h Q := by
  obtain ⟨n8, nc⟩ := gn8 w
  unfold F_X12_allHomes
  have key : ∀ (m i : Nat) (z : Int), z = (i : Int) → i + m = gn g → L_X12_allHomes_4 h (hsN g i) z Q := by
    intro m
    induction m with
    | zero =>
      intro i z hz hi
      subst hz
      refine l_X12_allHomes_4 ?_
      unfold B_X12_allHomes_4
      rw [r.1.1 0 (by omega) (by omega)]
      have e : i = gn g := by omega
      subst e
      exact ⟨fun _ => hQ, fun c => absurd (by omega) c⟩
    | succ m ih =>
      intro i z hz hi
      subst hz
      refine l_X12_allHomes_4 ?_
      unfold B_X12_allHomes_4
      have i0 := hsN_in w i (by omega)
      have i1 := hsN_in w (i + 1) (by omega)
      have e7 : h 162 (12 + 7 * i + 6) = g 7 i := r.1.2.1 i 6 (by omega) (by omega) (fun q => absurd q (by omega))
      rw [r.1.1 0 (by omega) (by omega)]
      refine ⟨fun c => absurd c (by omega), fun _ => q_thingOf (t := i) (k := 6) rfl rfl (by omega) (by omega) ?_⟩
      rw [e7]
      have es : hsN g i + g 7 i = hsN g (i + 1) := rfl
      rw [es]
      exact ⟨⟨by omega, by omega⟩, ⟨by omega, by omega⟩, ih (i + 1) _ (by omega) (by omega)⟩
  exact key (gn g) 0 0 rfl (by omega)
theorem q_fetches1 {h : Mem} {g : Gs} {t : Nat} {x : Int} {Q : Int → Mem → Prop} (rx : RXh h g) (hx : x = (t : Int)) (ht : t < gn g) (n8 : gn g ≤ 8) (n4 : gm g ≤ 4) (d : g 4 t = 1) (hQ : ∀ u, RXh u (tset g t 0 0 0) → FMh h u → Q 1 u) : F_X12_fetches h x Q := by
  subst hx
  unfold F_X12_fetches
  refine q_thingOf (t := t) (k := 3) rfl rfl (by omega) (by omega) ?_
  have e4 : h 162 (12 + 7 * t + 3) = g 4 t := rx.1.2.1 t 3 ht (by omega) (fun q => absurd q (by omega))
  rw [e4]
  refine ⟨fun _ => q_thingRow rfl (by omega) ⟨⟨by omega, by omega⟩, ⟨by omega, by omega⟩, fun h2 e2 => q_thingRow rfl (by omega) ⟨⟨by omega, by omega⟩, ⟨by omega, by omega⟩, fun h3 e3 => ?_⟩⟩, fun q => absurd d q⟩
  have z3 : (12 + 7 * (t : Int) + 3).toNat = 12 + 7 * t + 3 := by omega
  have z5 : (12 + 7 * (t : Int) + 5).toNat = 12 + 7 * t + 5 := by omega
  rw [z3] at e2
  rw [z5] at e3
  have fm : FMh h h3 := by rw [e3, e2]; exact (FMh.rf.st (by omega)).st (by omega)
  refine hQ h3 ⟨RXp.ts ht n8 rx.1 (fun q => absurd q (by decide)) ?_ ?_ (fun k k3 k4 k5 _ => ?_) n4, ?_⟩ fm
  · rw [e3, mset_k (by omega), e2, mset_at]
  · rw [e3, mset_at]
  · rw [e3, mset_k k5, e2, mset_k k3]
  · rw [e3, mset_k (by omega), e2, mset_k (by omega), tset_n (Or.inl (by omega))]
    exact rx.2
theorem q_fetches0 {h : Mem} {g : Gs} {t : Nat} {x : Int} {Q : Int → Mem → Prop} (rx : RXh h g) (hx : x = (t : Int)) (ht : t < gn g) (n8 : gn g ≤ 8) (d : ¬ g 4 t = 1) (hQ : Q 0 h) : F_X12_fetches h x Q := by
  subst hx
  unfold F_X12_fetches
  refine q_thingOf (t := t) (k := 3) rfl rfl (by omega) (by omega) ?_
  have e4 : h 162 (12 + 7 * t + 3) = g 4 t := rx.1.2.1 t 3 ht (by omega) (fun q => absurd q (by omega))
  rw [e4]
  exact ⟨fun q => absurd q d, fun _ => hQ⟩
/-- what living may change in the reference -/
def LMf (h u : Mem) : Prop := ∀ i k, ¬ (i = 161 ∧ (k = 37 ∨ k = 38)) → ¬ (i = 162 ∧ k < 80 ∧ k ≠ 9) → i ≠ 178 → i ≠ 179 → u i k = h i k
theorem LMf.rf {h : Mem} : LMf h h := fun _ _ _ _ _ _ => rfl
theorem LMf.tr {h h1 h2 : Mem} (a : LMf h h1) (b : LMf h1 h2) : LMf h h2 := fun i k p q r s => (b i k p q r s).trans (a i k p q r s)
theorem LMf.fm {h v u : Mem} (a : LMf h v) (f : FMh v u) : LMf h u := fun i k p q r s => (f i k (by omega)).trans (a i k p q r s)
theorem LMf.st {h u : Mem} {a k : Nat} {v : Int} (f : LMf h u) (ha : (a = 161 ∧ (k = 37 ∨ k = 38)) ∨ a = 178 ∨ a = 179) : LMf h (mset u a k v) := fun i j p q r s => by
  have e : mset u a k v i j = u i j := by unfold mset; rw [if_neg (by omega)]
  rw [e]
  exact f i j p q r s
theorem LMf.um {h u : Mem} (f : LMf h u) : UM h u := fun i k p q r s => f i k (by omega) (by omega) (by omega) (by omega)
def ZM (h : Mem) (g0 : Gs) (v : Mem) (g : Gs) (st ms lf : Int) (lt : Nat) : Prop := RXh v g ∧ v 161 37 = (lt : Int) ∧ v 161 38 = st ∧ v 179 0 = ms ∧ v 179 1 = g 0 5 - g0 0 5 ∧ v 179 2 = g 0 8 - g0 0 8 ∧ v 179 3 = hs g - hs g0 ∧ v 179 4 = lf ∧ LMf h v
theorem ZM.fr {h : Mem} {g0 : Gs} {v u : Mem} {g : Gs} {st ms lf : Int} {lt : Nat} (z : ZM h g0 v g st ms lf lt) (w : WF 9999 g) (f : ∀ i k, i ≠ 178 → u i k = v i k) : ZM h g0 u g st ms lf lt := by
  obtain ⟨z0, z1, z2, z3, z4, z5, z6, z7, z8⟩ := z
  refine ⟨z0.fr w.nm.1 w.nm.2 (fun k _ => f 162 k (by omega)), (f _ _ (by omega)).trans z1, (f _ _ (by omega)).trans z2, (f _ _ (by omega)).trans z3, (f _ _ (by omega)).trans z4, (f _ _ (by omega)).trans z5, (f _ _ (by omega)).trans z6, (f _ _ (by omega)).trans z7, z8.tr (fun i k _ _ r _ => f i k r)⟩
/-- a change of the glen that passes no hour -/
theorem ZM.ts {h : Mem} {g0 : Gs} {v u : Mem} {g : Gs} {st ms lf : Int} {lt t : Nat} {a b : Int} (z : ZM h g0 v g st ms lf lt) (r : RXh u (tset g t a b 0)) (f : FMh v u) : ZM h g0 u (tset g t a b 0) st ms lf lt := by
  obtain ⟨z0, z1, z2, z3, z4, z5, z6, z7, z8⟩ := z
  refine ⟨r, (f _ _ (by omega)).trans z1, (f _ _ (by omega)).trans z2, (f _ _ (by omega)).trans z3, ?_, ?_, ?_, (f _ _ (by omega)).trans z7, z8.fm f⟩
  · rw [f _ _ (by omega), tset_n (by omega)]; exact z4
  · rw [f _ _ (by omega), tset_n (by omega)]; exact z5
  · rw [f _ _ (by omega), hs_ts]; exact z6
theorem q_hoursBy {h : Mem} {g0 : Gs} {v : Mem} {g : Gs} {st ms lf : Int} {lt n : Nat} {x : Int} {Q : Int → Mem → Prop} (w0 : WF 9999 g0) (w : WF 9999 g) (hx : x = (n : Int)) (hn : n ≤ 24) (z : ZM h g0 v g st ms lf lt)
    (h1 : g 0 5 + (n : Int) ≤ 9999 → ∀ u, ZM h g0 u (passN n g) st ms lf lt → (∀ k, u 178 k = v 178 k) → Q 1 u) (h0 : ¬ g 0 5 + (n : Int) ≤ 9999 → Q 0 v) : F_X12_hoursBy v x Q := by
  subst hx
  obtain ⟨z0, z1, z2, z3, z4, z5, z6, z7, z8⟩ := z
  have ws := w.1
  have ws0 := w0.1
  unfold WFs at ws ws0
  have ho := hs_in w
  have ho0 := hs_in w0
  unfold F_X12_hoursBy
  rw [z0.2]
  refine ⟨⟨by omega, by omega⟩, fun c => q_homes w z0 (q_hoursGo (k := n) (B := 9999) rfl z0 w (by omega) (by omega) (fun v2 r2 f2 => ?_)), fun c => h0 c⟩
  have w0' : WF (g 0 5) g := w.wd (by omega)
  have wk := WF.passN n w0'
  have w' : WF 9999 (passN n g) := wk.wd (by have := wk.1; unfold WFs at this; omega)
  have hn2 := hs_in w'
  have ws2 := w'.1
  unfold WFs at ws2
  have p8 := passN_8 n g
  have p5 := passN_5 n g
  rw [z5]
  refine ⟨⟨by omega, by omega⟩, fun h9 e9 => ?_⟩
  have a1 : h9 179 1 = g 0 5 - g0 0 5 := by rw [e9, mset_k (by omega), f2 179 1 (by omega)]; exact z4
  rw [a1]
  refine ⟨⟨by omega, by omega⟩, fun h12 e12 => ?_⟩
  have r12 : RXh h12 (passN n g) := by rw [e12, e9]; exact (r2.sto w'.nm (by omega)).sto w'.nm (by omega)
  have a3 : h12 179 3 = hs g - hs g0 := by rw [e12, mset_k (by omega), e9, mset_k (by omega), f2 179 3 (by omega)]; exact z6
  refine q_homes w' r12 ?_
  rw [a3]
  refine ⟨⟨by omega, by omega⟩, ⟨by omega, by omega⟩, fun h18 e18 => h1 c h18 ⟨?_, ?_, ?_, ?_, ?_, ?_, ?_, ?_, ?_⟩ (fun k => ?_)⟩
  · rw [e18]; exact r12.sto w'.nm (by omega)
  · rw [e18, mset_i _ (by omega), e12, mset_i _ (by omega), e9, mset_i _ (by omega), f2 161 37 (by omega)]; exact z1
  · rw [e18, mset_i _ (by omega), e12, mset_i _ (by omega), e9, mset_i _ (by omega), f2 161 38 (by omega)]; exact z2
  · rw [e18, mset_k (by omega), e12, mset_k (by omega), e9, mset_k (by omega), f2 179 0 (by omega)]; exact z3
  · rw [e18, mset_k (by omega), e12, mset_at]; omega
  · rw [e18, mset_k (by omega), e12, mset_k (by omega), e9, mset_at]; omega
  · rw [e18, mset_at]; omega
  · rw [e18, mset_k (by omega), e12, mset_k (by omega), e9, mset_k (by omega), f2 179 4 (by omega)]; exact z7
  · rw [e18, e12, e9]
    exact (((z8.fm f2).st (by omega)).st (by omega)).st (by omega)
  · rw [e18, mset_i _ (by omega), e12, mset_i _ (by omega), e9, mset_i _ (by omega), f2 178 k (by omega)]
theorem q_draw {h : Mem} {g0 : Gs} {v : Mem} {g : Gs} {st ms lf : Int} {lt n : Nat} {x : Int} {Q : Int → Mem → Prop} (w : WF 9999 g) (hx : x = (n : Int)) (hn : 0 < n) (hl : lt < 65536) (z : ZM h g0 v g st ms lf lt) (hQ : ∀ u, ZM h g0 u g st ms lf (drL lt) → (∀ k, u 178 k = v 178 k) → Q ((drL lt / 8 % n : Nat) : Int) u) : F_X12_draw v x Q := by
  subst hx
  obtain ⟨z0, z1, z2, z3, z4, z5, z6, z7, z8⟩ := z
  unfold F_X12_draw
  have e1 : (lt : Int) * 3169 + 11393 = ((lt * 3169 + 11393 : Nat) : Int) := by omega
  rw [z1, e1]
  refine ⟨⟨by omega, by omega⟩, ⟨by omega, by omega⟩, fun h3 e3 => ?_⟩
  have e2 : (((lt * 3169 + 11393 : Nat) : Int) : Int).tmod 65536 = ((drL lt : Nat) : Int) := (Int.ofNat_tmod _ 65536).symm
  rw [e2] at e3
  have e4 : h3 161 37 = ((drL lt : Nat) : Int) := by rw [e3, mset_at]
  have e5 : (((drL lt : Nat) : Int) : Int).tdiv 8 = ((drL lt / 8 : Nat) : Int) := (Int.ofNat_tdiv _ 8).symm
  have lt2 := drL_lt (lt := lt)
  rw [e4, e5, ← Int.ofNat_tmod]
  refine ⟨⟨by omega, by omega⟩, by omega, ?_⟩
  subst e3
  refine hQ _ ⟨z0.sto w.nm (by omega), mset_at, ?_, ?_, ?_, ?_, ?_, ?_, z8.st (by omega)⟩ (fun k => mset_i k (by omega))
  · rw [mset_k (by omega)]; exact z2
  · rw [mset_i _ (by omega)]; exact z3
  · rw [mset_i _ (by omega)]; exact z4
  · rw [mset_i _ (by omega)]; exact z5
  · rw [mset_i _ (by omega)]; exact z6
  · rw [mset_i _ (by omega)]; exact z7
