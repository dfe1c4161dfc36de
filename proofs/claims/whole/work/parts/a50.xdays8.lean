/-- what x makes of the text of days -/
theorem x_days {h : Mem} {g : Gs} {d : Dy} {B : Nat → Int} {a : Int} {n q : Nat} (hq : q ≤ 900) (h91 : h 9 1 = (q : Int)) (ha : a = (n : Int)) (hnq : n ≤ q) (hn3 : n ≤ 300) (hB : ∀ k, k < n → h 10 k = B k) (kw : KWE h) (rc : RC h 12 g) (wl : 2 ≤ g 0 2 ∧ g 0 2 ≤ 16) (n8 : gn g ≤ 8 ∧ (gn g : Int) = g 0 0) (n4 : gm g ≤ 4 ∧ (gm g : Int) = g 0 1) (rd : RD h 27 d) {Q : Int → Mem → Prop}
    (hok : ∀ u d', pDays B n g 300 dS (rn Pb B n 0) = .ok d' → RD u 27 d' → u 0 0 = 0 → u 9 9 = 0 → u 9 10 = -1 → u 9 1 = 0 → (∀ i k, ¬ (i = 0 ∧ k = 0) → ¬ (i = 9 ∧ 1 ≤ k ∧ k ≤ 10) → ¬ (27 ≤ i ∧ i < 42) → u i k = h i k) → Q (d' 0 1) u)
    (hno : ∀ u e, pDays B n g 300 dS (rn Pb B n 0) = .error e → RD u 27 d → u 0 0 = 9 → u 9 9 = e.1 → u 9 10 = (e.2 : Int) → u 9 1 = 0 → (∀ i k, ¬ (i = 0 ∧ k = 0) → ¬ (i = 9 ∧ 1 ≤ k ∧ k ≤ 10) → ¬ (27 ≤ i ∧ i < 42) → u i k = h i k) → Q (-1) u) : F_X11_days h a Q := by
  subst ha
  unfold F_X11_days F_X11_outside
  rw [h91]
  have im : (n : Int) ≤ imin (q : Int) 300 := by unfold imin; split <;> omega
  refine ⟨fun z => absurd z (by omega), fun _ => ⟨fun _ => ⟨fun _ => ?_, fun z => absurd rfl z⟩, fun z => absurd im z⟩⟩
  unfold F_X8_open
  intro h1 e1 h2 e2 h3 e3 h4 e4 h5 e5
  have f5 : ∀ i k, ¬ (i = 9 ∧ 1 ≤ k ∧ k ≤ 10) → h5 i k = h i k := fun i k p => by rw [e5, mset_o (by omega), e4, mset_o (by omega), e3, mset_o (by omega), e2, mset_o (by omega), e1, mset_o (by omega)]
  have c3 : h5 9 3 = (n : Int) := by
    rw [e5, mset_k (by decide), e4, mset_k (by decide), e3, mset_k (by decide), e2, mset_k (by decide), e1, mset_at]
    unfold imax imin
    split <;> split <;> omega
  have c1 : h5 9 1 = 0 := by rw [e5, mset_k (by decide), e4, mset_k (by decide), e3, mset_k (by decide), e2, mset_at]
  have c4 : h5 9 4 = ((0 : Nat) : Int) := by rw [e5, mset_k (by decide), e4, mset_k (by decide), e3, mset_at]; rfl
  have c9 : h5 9 9 = 0 := by rw [e5, mset_k (by decide), e4, mset_at]
  have cA : h5 9 10 = -1 := by rw [e5, mset_at]
  have xb : XB h5 B n := ⟨by omega, c3, fun i hi => by rw [f5 10 i (by omega)]; exact hB i hi, fun i hi => by rw [f5 11 i (by omega)]; exact kw i hi⟩
  refine s_advance xb (Nat.zero_le _) c4 (fun h6 f6 x6 => ?_)
  have xs : XS h6 B n (.ok (rn Pb B n 0)) := ⟨x6, by rw [f6 9 9 (by omega)]; exact c9, by rw [f6 9 10 (by omega)]; exact cA⟩
  have rc6 : RC h6 12 g := rc_same rc (fun i k p1 p2 => by rw [f6 i k (by omega), f5 i k (by omega)])
  refine s_readFor rc6 wl n8 n4 xs (fun v xr => ?_)
  obtain ⟨y1, y2, fg⟩ := xr
  have F : ∀ i k, ¬ (i = 9 ∧ 1 ≤ k ∧ k ≤ 10) → ¬ (34 ≤ i ∧ i < 42) → v i k = h i k := fun i k p1 p2 => by rw [fg i k (by omega) p2, f6 i k (by omega), f5 i k p1]
  have v91 : v 9 1 = 0 := by rw [fg 9 1 (by omega) (by omega), f6 9 1 (by omega)]; exact c1
  cases hp : pDays B n g 300 dS (rn Pb B n 0) with
  | error e =>
    obtain ⟨z1, z2, z3⟩ := y2 e hp
    refine ⟨fun z => absurd (z1.symm.trans z) z2, fun _ => ?_⟩
    unfold F_X11_refused
    intro u eu
    refine hno u e hp (rd.fr (fun i i1 i2 k => ?_)) ?_ ?_ ?_ ?_ (fun i k p1 p2 p3 => ?_)
    · rw [eu, mset_i _ (by omega)]; exact F i k (by omega) (by omega)
    · rw [eu, mset_at]
    · rw [eu, mset_i _ (by omega)]; exact z1
    · rw [eu, mset_i _ (by omega)]; exact z3
    · rw [eu, mset_i _ (by omega)]; exact v91
    · rw [eu, mset_o p1]; exact F i k p2 (by omega)
  | ok d' =>
    obtain ⟨⟨z1, z2⟩, r1⟩ := y1 d' hp
    obtain ⟨wd, _, d00, _⟩ := wfd_days n8.2 n4.2 hp
    refine ⟨fun _ => ?_, fun z => absurd z1 z⟩
    have rd35 : RD v 35 d' := ⟨by rw [d00]; exact r1.1, r1.2.1, r1.2.2.1, r1.2.2.2.2.1⟩
    refine s_copyD (by omega) rd35 wd (fun u7 r7 f7 => ?_)
    unfold F_X11_given
    intro u eu
    have ans : u7 27 1 = d' 0 1 := r7.2.1
    rw [ans]
    refine hok u d' hp (r7.fr (fun i i1 i2 k => by rw [eu, mset_i _ (by omega)])) ?_ ?_ ?_ ?_ (fun i k p1 p2 p3 => ?_)
    · rw [eu, mset_at]
    · rw [eu, mset_i _ (by omega), f7 9 (by omega)]; exact z1
    · rw [eu, mset_i _ (by omega), f7 9 (by omega)]; exact z2
    · rw [eu, mset_i _ (by omega), f7 9 (by omega)]; exact v91
    · rw [eu, mset_o p1, f7 i (by omega)]; exact F i k p2 (by omega)
