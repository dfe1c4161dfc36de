/-! live: x goes through the days -/
def RD (h : Mem) (o : Nat) (d : Dy) : Prop := h o 0 = d 0 0 ∧ h o 1 = d 0 1 ∧ h o 2 = d 0 2 ∧ ∀ k, k < dn d → h (o + 1) k = d 1 k ∧ h (o + 2) k = d 2 k ∧ h (o + 3) k = d 3 k ∧ h (o + 4) k = d 4 k ∧ h (o + 5) k = d 5 k
theorem RD.fr {h u : Mem} {o : Nat} {d : Dy} (r : RD h o d) (f : ∀ i, o ≤ i → i < o + 6 → ∀ k, u i k = h i k) : RD u o d := by
  obtain ⟨a, b, c, e⟩ := r
  refine ⟨by rw [f o (by omega) (by omega)]; exact a, by rw [f o (by omega) (by omega)]; exact b, by rw [f o (by omega) (by omega)]; exact c, fun k hk => ?_⟩
  rw [f (o + 1) (by omega) (by omega), f (o + 2) (by omega) (by omega), f (o + 3) (by omega) (by omega), f (o + 4) (by omega) (by omega), f (o + 5) (by omega) (by omega)]
  exact e k hk
/-- what living at the glen o may change -/
def LX (o : Nat) (h u : Mem) : Prop := ∀ i k, ¬ (o ≤ i ∧ i < o + 15) → i ≠ 78 → i ≠ 79 → u i k = h i k
theorem LX.rf {o : Nat} {h : Mem} : LX o h h := fun _ _ _ _ _ => rfl
theorem LX.tr {o : Nat} {h h1 h2 : Mem} (a : LX o h h1) (b : LX o h1 h2) : LX o h h2 := fun i k p q r => (b i k p q r).trans (a i k p q r)
theorem LX.fr {o : Nat} {h u : Mem} (f : Fr o (o + 15) h u) : LX o h u := fun i k p _ _ => f i (by omega) k
theorem LX.st {o : Nat} {h u : Mem} {a k : Nat} {v : Int} (f : LX o h u) (ha : a = 78 ∨ a = 79) : LX o h (mset u a k v) := fun i j p q r => (mset_i j (by omega)).trans (f i j p q r)
/-- the walker's own numbers -/
def LW (v : Mem) (o : Nat) (st ms lf : Int) (lt : Nat) : Prop := v 78 0 = st ∧ v 78 1 = ms ∧ v 78 2 = lf ∧ v 78 3 = (lt : Int) ∧ v 78 4 = (o : Int) ∧ v 78 5 = 27
theorem LW.fr {v u : Mem} {o : Nat} {st ms lf : Int} {lt : Nat} (l : LW v o st ms lf lt) (f : ∀ k, u 78 k = v 78 k) : LW u o st ms lf lt := by
  unfold LW
  rw [f, f, f, f, f, f]
  exact l
def okO (o : Nat) : Prop := o = 12 ∨ o = 146
section LX1
variable {h v : Mem} {o : Nat} {g : Gs} {st ms lf : Int} {lt : Nat}
theorem okO.l (h : okO o) : lay o = (0, 4) ∧ lay (o + 1) = (0, 9) := by rcases h with rfl | rfl <;> exact ⟨rfl, rfl⟩
theorem s_miss {Q : Mem → Prop} (r : RC v o g) (f : LX o h v) (ho : okO o) (l : LW v o st ms lf lt) (hm : 0 ≤ ms ∧ ms ≤ 1000) (hQ : ∀ u, RC u o g → LX o h u → LW u o st (ms + 1) lf lt → (∀ k, u 79 k = v 79 k) → Q u) : InR (v 78 1 + 1) ∧ ∀ h3 : Mem, h3 = mset v 78 1 (v 78 1 + 1) → Q h3 := by
  rw [l.2.1]
  refine ⟨⟨by omega, by omega⟩, fun h3 e3 => ?_⟩
  subst e3
  refine hQ _ (r.sto (by unfold okO at ho; omega)) (f.st (Or.inl rfl)) ?_ (fun k => mset_i k (by omega))
  obtain ⟨l0, l1, l2, l3, l4, l5⟩ := l
  refine ⟨?_, mset_at, ?_, ?_, ?_, ?_⟩
  · rw [mset_k (by omega)]; exact l0
  · rw [mset_k (by omega)]; exact l2
  · rw [mset_k (by omega)]; exact l3
  · rw [mset_k (by omega)]; exact l4
  · rw [mset_k (by omega)]; exact l5
/-- a change of the glen alone -/
theorem s_glen {u : Mem} {g' : Gs} (f : LX o h v) (ho : okO o) (l : LW v o st ms lf lt) (ru : RC u o g') (fu : Fr o (o + 15) v u) : LX o h u ∧ LW u o st ms lf lt ∧ ∀ k, u 79 k = v 79 k := by
  refine ⟨f.tr (LX.fr fu), l.fr (fun k => fu 78 (by unfold okO at ho; omega) k), fun k => fu 79 (by unfold okO at ho; omega) k⟩
theorem s_letPass {n : Nat} {x : Int} {Q : Mem → Prop} (w : WF 9999 g) (hx : x = (n : Int)) (hn : n ≤ 24) (r : RC v o g) (f : LX o h v) (ho : okO o) (l : LW v o st ms lf lt) (hm : 0 ≤ ms ∧ ms ≤ 1000)
    (h1 : g 0 5 + (n : Int) ≤ 9999 → ∀ u, RC u o (passN n g) → LX o h u → LW u o st ms lf lt → (∀ k, u 79 k = v 79 k) → Q u) (h0 : ¬ g 0 5 + (n : Int) ≤ 9999 → ∀ u, RC u o g → LX o h u → LW u o st (ms + 1) lf lt → (∀ k, u 79 k = v 79 k) → Q u) : F_X6_letPass v x Q := by
  subst hx
  have ws := w.1
  unfold WFs at ws
  unfold F_X6_letPass
  refine ⟨o, l.2.2.2.2.1, ho.l.1, ?_⟩
  rw [r.2]
  refine ⟨⟨by omega, by omega⟩, fun c => ⟨o, l.2.2.2.2.1, ho.l.1, s_passHours rfl ho.l.1 r w (by omega) (fun u ru fu => ?_)⟩, fun c => s_miss r f ho l hm (h0 c)⟩
  obtain ⟨a1, a2, a3⟩ := s_glen f ho l ru fu
  exact h1 c u ru a1 a2 a3
theorem s_throwThing {t c : Nat} {x y : Int} {Q : Mem → Prop} (w : WF 9999 g) (hx : x = (t : Int)) (hy : y = (c : Int)) (ht : t < gn g) (r : RC v o g) (f : LX o h v) (ho : okO o) (l : LW v o st ms lf lt) (hm : 0 ≤ ms ∧ ms ≤ 1000)
    (h1 : (g 4 t = 0 ∨ g 4 t = 3) → ∀ u, RC u o (tset g t 1 (c : Int) 0) → LX o h u → LW u o st ms lf lt → (∀ k, u 79 k = v 79 k) → Q u) (h0 : ¬ (g 4 t = 0 ∨ g 4 t = 3) → ∀ u, RC u o g → LX o h u → LW u o st (ms + 1) lf lt → (∀ k, u 79 k = v 79 k) → Q u) : F_X6_throwThing v x y Q := by
  subst hx hy
  obtain ⟨n8, nc⟩ := gn8 w
  unfold F_X6_throwThing
  refine ⟨o, l.2.2.2.2.1, ho.l.1, ?_⟩
  rw [r.1.2.1.1]
  refine ⟨fun c => absurd c (by omega), fun _ => ⟨o, l.2.2.2.2.1, ho.l.1, s_isFree (o := o + 1) r.1.2.1 rfl ht n8 (fun fr => ⟨fun _ => ⟨o, l.2.2.2.2.1, ho.l.1, s_place (o := o + 1) rfl (by omega) r.1.2.1 (fun u ru fu => ?_)⟩, fun z => absurd z (by decide)⟩) (fun fr => ⟨fun z => absurd rfl z, fun _ => s_miss r f ho l hm (h0 fr)⟩)⟩⟩
  have r2 : RC u o (tset g t 1 (c : Int) 0) := r.tso ru fu
  obtain ⟨a1, a2, a3⟩ := s_glen f ho l r2 (fu.wd (by omega) (by omega))
  exact h1 fr u r2 a1 a2 a3
theorem s_fetchThing {t : Nat} {x : Int} {Q : Mem → Prop} (w : WF 9999 g) (hx : x = (t : Int)) (ht : t < gn g) (r : RC v o g) (f : LX o h v) (ho : okO o) (l : LW v o st ms lf lt) (hm : 0 ≤ ms ∧ ms ≤ 1000)
    (h1 : g 4 t = 1 → ∀ u, RC u o (tset g t 0 0 0) → LX o h u → LW u o st ms lf lt → (∀ k, u 79 k = v 79 k) → Q u) (h0 : ¬ g 4 t = 1 → ∀ u, RC u o g → LX o h u → LW u o st (ms + 1) lf lt → (∀ k, u 79 k = v 79 k) → Q u) : F_X6_fetchThing v x Q := by
  subst hx
  obtain ⟨n8, nc⟩ := gn8 w
  unfold F_X6_fetchThing
  refine ⟨o, l.2.2.2.2.1, ho.l.1, ?_⟩
  rw [r.1.2.1.1]
  refine ⟨fun c => absurd c (by omega), fun _ => ⟨o, l.2.2.2.2.1, ho.l.1, s_isLying (o := o + 1) r.1.2.1 rfl ht n8 (fun fr => ⟨fun _ => ⟨o, l.2.2.2.2.1, ho.l.1, s_place (o := o + 1) rfl (by omega) r.1.2.1 (fun u ru fu => ?_)⟩, fun z => absurd z (by decide)⟩) (fun fr => ⟨fun z => absurd rfl z, fun _ => s_miss r f ho l hm (h0 fr)⟩)⟩⟩
  have r2 : RC u o (tset g t 0 0 0) := r.tso ru fu
  obtain ⟨a1, a2, a3⟩ := s_glen f ho l r2 (fu.wd (by omega) (by omega))
  exact h1 fr u r2 a1 a2 a3
theorem drL_lt {lt : Nat} : drL lt < 65536 := Nat.mod_lt _ (by decide)
theorem s_draw {n : Nat} {x : Int} {Q : Int → Mem → Prop} (hx : x = (n : Int)) (hn : 0 < n) (hl : lt < 65536) (r : RC v o g) (f : LX o h v) (ho : okO o) (l : LW v o st ms lf lt) (hQ : ∀ u, RC u o g → LX o h u → LW u o st ms lf (drL lt) → (∀ k, u 79 k = v 79 k) → Q ((drL lt / 8 % n : Nat) : Int) u) : F_X6_draw v x Q := by
  subst hx
  obtain ⟨l0, l1, l2, l3, l4, l5⟩ := l
  unfold F_X6_draw
  have e1 : (lt : Int) * 3169 + 11393 = ((lt * 3169 + 11393 : Nat) : Int) := by omega
  rw [l3, e1]
  refine ⟨⟨by omega, by omega⟩, ⟨by omega, by omega⟩, fun h3 e3 => ?_⟩
  have e2 : (((lt * 3169 + 11393 : Nat) : Int) : Int).tmod 65536 = ((drL lt : Nat) : Int) := (Int.ofNat_tmod _ 65536).symm
  rw [e2] at e3
  have e4 : h3 78 3 = ((drL lt : Nat) : Int) := by rw [e3, mset_at]
  have e5 : (((drL lt : Nat) : Int) : Int).tdiv 8 = ((drL lt / 8 : Nat) : Int) := (Int.ofNat_tdiv _ 8).symm
  have lt2 := drL_lt (lt := lt)
  rw [e4, e5, ← Int.ofNat_tmod]
  refine ⟨fun c => absurd c (by omega), fun _ => ⟨⟨by omega, by omega⟩, by omega, ?_⟩⟩
  subst e3
  refine hQ _ (r.sto (by unfold okO at ho; omega)) (f.st (Or.inl rfl)) ?_ (fun k => mset_i k (by omega))
  refine ⟨?_, ?_, ?_, mset_at, ?_, ?_⟩
  · rw [mset_k (by omega)]; exact l0
  · rw [mset_k (by omega)]; exact l1
  · rw [mset_k (by omega)]; exact l2
  · rw [mset_k (by omega)]; exact l4
  · rw [mset_k (by omega)]; exact l5
theorem s_compares {a s m : Int} {Q : Int → Mem → Prop} (h1 : cmpP a s m → Q 1 v) (h0 : ¬ cmpP a s m → Q 0 v) : F_X6_compares v a s m Q := by
  unfold F_X6_compares
  unfold cmpP at h1 h0
  refine ⟨fun c => ⟨fun c2 => ⟨fun c3 => h0 ?_, fun c3 => h1 ?_⟩, fun c2 => ⟨fun c3 => h0 ?_, fun c3 => h1 ?_⟩⟩, fun c => ⟨fun c3 => h0 ?_, fun c3 => h1 ?_⟩⟩
  · rw [if_neg c, if_neg c2]; exact c3
  · rw [if_neg c, if_neg c2]; exact c3
  · rw [if_neg c, if_pos c2]; omega
  · rw [if_neg c, if_pos c2]; omega
  · rw [if_pos c]; omega
  · rw [if_pos c]; omega
theorem s_holds {d : Dy} {k : Nat} {a1 b1 c1 : Int} {Q : Int → Mem → Prop} (w : WF 9999 g) (wd : WFD d a1 b1 c1) (ea : a1 ≤ g 0 0) (eb : b1 ≤ g 0 1) (hk : k < dn d) (h47 : 4 ≤ d 1 k ∧ d 1 k ≤ 7) (rd : RD v 27 d) (r : RC v o g) (ho : okO o) (l : LW v o st ms lf lt) (h1 : lvT d k g → Q 1 v) (h0 : ¬ lvT d k g → Q 0 v) : F_X6_holds v (k : Int) Q := by
  obtain ⟨n8, nc⟩ := gn8 w
  obtain ⟨m4, mc⟩ := gm4 w
  have we := wd.2.2.2.2.2.2.1 k hk
  have k60 : k < 60 := by have := wd.2.2.2.2.1; unfold dn at hk; omega
  obtain ⟨e1, e2, e3, e4, e5⟩ := rd.2.2.2 k hk
  obtain ⟨l0, l1, l2, l3, l4, l5⟩ := l
  unfold lvT at h1 h0
  unfold F_X6_holds
  rw [Int.toNat_natCast]
  refine ⟨27, l5, rfl, ⟨by omega, by omega⟩, fun x4 e4' => ⟨27, l5, rfl, ?_⟩⟩
  have ex : x4 = d 2 k := e4'.trans e2
  subst ex
  have k1 : v (27 + 1) k = d 1 k := e1
  rw [k1]
  refine ⟨fun c => ?_, fun c => ?_, fun c => ?_, fun c => ?_⟩
  · rw [if_pos c] at h1 h0
    have rg := we.2.2.2.2.1 (Or.inr c)
    refine ⟨o, l4, ho.l.1, ?_⟩
    rw [r.1.2.1.1]
    refine ⟨fun z => absurd z (by omega), fun _ => ⟨o, l4, ho.l.1, s_isLying (o := o + 1) (t := (d 2 k).toNat) r.1.2.1 (by omega) (by omega) n8 (fun fr => ⟨fun z => absurd z (by decide), fun _ => h1 fr⟩) (fun fr => ⟨fun _ => h0 fr, fun z => absurd rfl z⟩)⟩⟩
  · rw [if_neg (by omega), if_pos c] at h1 h0
    refine ⟨o, l4, ho.l.1, ?_⟩
    rw [r.1.1.2.2.2.2.1]
    exact ⟨h0, h1⟩
  · rw [if_neg (by omega), if_neg (by omega), if_pos c] at h1 h0
    refine ⟨o, l4, ho.l.1, 27, l5, rfl, 27, l5, rfl, ?_⟩
    have k3 : v (27 + 3) k = d 3 k := e3
    have k4 : v (27 + 4) k = d 4 k := e4
    rw [r.1.1.2.2.2.1, k3, k4]
    exact s_compares (fun z => ⟨Or.inr rfl, h1 z⟩) (fun z => ⟨Or.inl rfl, h0 z⟩)
  · rw [if_neg (by omega), if_neg (by omega), if_neg (by omega)] at h1 h0
    have rg := we.2.2.2.2.2.2.2.1 (by omega)
    refine ⟨o, l4, ho.l.1, ?_⟩
    rw [r.1.2.2.1]
    refine ⟨fun z => absurd z (by omega), fun _ => ⟨o, l4, ho.l.1, ⟨by omega, by omega⟩, 27, l5, rfl, 27, l5, rfl, ?_⟩⟩
    have k3 : v (27 + 3) k = d 3 k := e3
    have k4 : v (27 + 4) k = d 4 k := e4
    have km : v (o + 10 + 4) (d 2 k).toNat = g 10 (d 2 k).toNat := (r.1.2.2.2 _ (by omega)).2.2.2
    rw [k3, k4, km]
    exact s_compares (fun z => ⟨fun y => absurd y (by decide), fun _ => h1 z⟩) (fun z => ⟨fun _ => h0 z, fun y => absurd rfl y⟩)
end LX1
