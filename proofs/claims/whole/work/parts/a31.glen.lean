/-! a glen told -/
theorem wf_up {g : Gs} (w : WF 0 g) : WF 9999 g := by
  obtain ⟨ws, wt, wm⟩ := w
  refine ⟨?_, wt, wm⟩
  unfold WFs at *
  omega
def KWE (h : Mem) : Prop := ∀ i, i < 24 → h 11 i = ((KW i : Nat) : Int)
def FXg (h u : Mem) : Prop := ∀ i k, ¬ (i = 0 ∧ k = 0) → ¬ (i = 9 ∧ 1 ≤ k ∧ k ≤ 10) → ¬ (12 ≤ i ∧ i < 28) → i ≠ 33 → ¬ (146 ≤ i ∧ i < 161) → u i k = h i k
def FMg (h u : Mem) : Prop := ∀ i k, ¬ (i = 161 ∧ (k = 2 ∨ (10 ≤ k ∧ k ≤ 20))) → ¬ (i = 162 ∧ (k < 448 ∨ (1792 ≤ k ∧ k < 2240))) → ¬ (i = 163 ∧ (k < 12 ∨ (48 ≤ k ∧ k < 60))) → i ≠ 168 → u i k = h i k
def dNo : Dy := fun _ _ => 0
theorem wfd_no {a b c : Int} : WFD dNo a b c := ⟨Or.inl rfl, Int.le_refl _, by decide, Int.le_refl _, by decide, fun _ => rfl, fun k hk => absurd hk (by show ¬ (k < 0); omega), fun o p ho => absurd ho (by show ¬ (o < 0); omega)⟩
/-- what x makes of the text -/
theorem x_glen {h : Mem} {g : Gs} {B : Nat → Int} {a : Int} {n q : Nat} (hq : q ≤ 900) (h91 : h 9 1 = (q : Int)) (ha : a = (n : Int)) (hnq : n ≤ q) (hB : ∀ k, k < n → h 10 k = B k) (kw : KWE h) (rc : RC h 12 g) {Q : Int → Mem → Prop}
    (hok : ∀ u g', pGlen B n 900 g0 0 (rn Pb B n 0) = .ok g' → WF 0 g' → RC u 12 g' → u 27 0 = 0 → u 27 1 = 0 → u 27 2 = 0 → u 0 0 = 0 → u 9 9 = 0 → u 9 10 = -1 → u 9 1 = 0 → FXg h u → Q (g' 0 0) u)
    (hno : ∀ u e, pGlen B n 900 g0 0 (rn Pb B n 0) = .error e → RC u 12 g → (∀ i, 27 ≤ i → i < 33 → ∀ k, u i k = h i k) → u 0 0 = 9 → u 9 9 = e.1 → u 9 10 = (e.2 : Int) → u 9 1 = 0 → FXg h u → Q (-1) u) : F_X11_glen h a Q := by
  subst ha
  unfold F_X11_glen F_X11_outside
  rw [h91]
  refine ⟨fun z => absurd z (by omega), fun _ => ⟨fun _ => ⟨fun _ => ?_, fun z => absurd rfl z⟩, fun z => absurd (by omega) z⟩⟩
  unfold F_X8_open
  intro h1 e1 h2 e2 h3 e3 h4 e4 h5 e5
  have f5 : ∀ i k, ¬ (i = 9 ∧ 1 ≤ k ∧ k ≤ 10) → h5 i k = h i k := fun i k p => by rw [e5, mset_o (by omega), e4, mset_o (by omega), e3, mset_o (by omega), e2, mset_o (by omega), e1, mset_o (by omega)]
  have c3 : h5 9 3 = (n : Int) := by
    rw [e5, mset_k (by decide), e4, mset_k (by decide), e3, mset_k (by decide), e2, mset_k (by decide), e1, mset_at]
    unfold imax imin
    split <;> split <;> omega
  have c1 : h5 9 1 = 0 := by rw [e5, mset_k (by decide), e4, mset_k (by decide), e3, mset_k (by decide), e2, mset_at]
  have c4 : h5 9 4 = ((0 : Nat) : Int) := by rw [e5, mset_k (by decide), e4, mset_k (by decide), e3, mset_at]; rfl
  have c9 : h5 9 9 = 0 := by rw [e5, mset_k (by decide), e4, mset_at]
  have cA : h5 9 10 = -1 := by rw [e5, mset_at]
  have xb : XB h5 B n := ⟨by omega, c3, fun i hi => by rw [f5 10 i (by omega)]; exact hB i hi, fun i hi => by rw [f5 11 i (by omega)]; exact kw i hi⟩
  refine s_advance xb (Nat.zero_le _) c4 (fun h6 f6 x6 => ?_)
  have xs : XS h6 B n (.ok (rn Pb B n 0)) := ⟨x6, by rw [f6 9 9 (by omega)]; exact c9, by rw [f6 9 10 (by omega)]; exact cA⟩
  refine s_readInto xs (fun v xr => ?_)
  obtain ⟨y1, y2, fg⟩ := xr
  have F : ∀ i k, ¬ (i = 9 ∧ 1 ≤ k ∧ k ≤ 10) → i ≠ 33 → ¬ (146 ≤ i ∧ i < 161) → v i k = h i k := fun i k p1 p2 p3 => by rw [fg i k (by omega) p2 p3, f6 i k (by omega), f5 i k p1]
  have v91 : v 9 1 = 0 := by rw [fg 9 1 (by omega) (by omega) (by omega), f6 9 1 (by omega)]; exact c1
  have rcv : RC v 12 g := rc_same rc (fun i k p1 p2 => F i k (by omega) (by omega) (by omega))
  cases hp : pGlen B n 900 g0 0 (rn Pb B n 0) with
  | error e =>
    obtain ⟨z1, z2, z3⟩ := y2 e hp
    refine ⟨fun z => absurd (z1.symm.trans z) z2, fun _ => ?_⟩
    unfold F_X11_refused
    intro u eu
    refine hno u e hp ?_ (fun i i1 i2 k => ?_) ?_ ?_ ?_ ?_ (fun i k p1 p2 p3 p4 p5 => ?_)
    · exact rc_same rcv (fun i k p1 p2 => by rw [eu, mset_i _ (by omega)])
    · rw [eu, mset_i _ (by omega)]; exact F i k (by omega) (by omega) (by omega)
    · rw [eu, mset_at]
    · rw [eu, mset_i _ (by omega)]; exact z1
    · rw [eu, mset_i _ (by omega)]; exact z3
    · rw [eu, mset_i _ (by omega)]; exact v91
    · rw [eu, mset_o p1]; exact F i k p2 p4 p5
  | ok g' =>
    obtain ⟨⟨z1, z2⟩, r1⟩ := y1 g' hp
    have w' := (gp_glen 900 g0 0 _ g' (gp_g0 xs.1.2.1) hp).1
    refine ⟨fun _ => ?_, fun z => absurd z1 z⟩
    refine s_copyG (by omega) r1 (gn8 w').1 (gm4 w').1 (fun u7 r7 f7 => ?_)
    unfold F_X1_clear
    intro h8 e8 h9 e9 hA eA
    unfold F_X11_given
    intro u eu
    have fA : ∀ i k, i ≠ 27 → hA i k = u7 i k := fun i k p => by rw [eA, mset_i _ p, e9, mset_i _ p, e8, mset_i _ p]
    have rA : RC u 12 g' := rc_same r7 (fun i k p1 p2 => by rw [eu, mset_i _ (by omega), fA i k (by omega)])
    have cn : hA 13 0 = g' 0 0 := by rw [fA 13 0 (by omega)]; exact r7.1.2.1.1
    rw [cn]
    refine hok u g' hp w' rA ?_ ?_ ?_ ?_ ?_ ?_ ?_ (fun i k p1 p2 p3 p4 p5 => ?_)
    · rw [eu, mset_i _ (by omega), eA, mset_k (by decide), e9, mset_k (by decide), e8, mset_at]
    · rw [eu, mset_i _ (by omega), eA, mset_k (by decide), e9, mset_at]
    · rw [eu, mset_i _ (by omega), eA, mset_at]
    · rw [eu, mset_at]
    · rw [eu, mset_i _ (by omega), fA 9 9 (by omega), f7 9 (by omega)]; exact z1
    · rw [eu, mset_i _ (by omega), fA 9 10 (by omega), f7 9 (by omega)]; exact z2
    · rw [eu, mset_i _ (by omega), fA 9 1 (by omega), f7 9 (by omega)]; exact v91
    · rw [eu, mset_o p1, fA i k (by omega), f7 i (by omega)]; exact F i k p2 p4 p5
/-- and the reference -/
theorem q_cpGlen {h : Mem} {Q : Int → Mem → Prop} (hQ : ∀ u, (∀ k, k < 448 → u 162 k = h 162 (1792 + k)) → (∀ k, k < 12 → u 163 k = h 163 (48 + k)) → (∀ i k, ¬ (i = 162 ∧ k < 448) → ¬ (i = 163 ∧ k < 12) → u i k = h i k) → F_X12_taken u (u 162 0) Q) : L_X12_glen_59 h 0 Q := by
  have k90 : ∀ (m i : Nat) (z : Int) (u : Mem), i + m = 12 → z = (i : Int) → (∀ k, k < 448 → u 162 k = h 162 (1792 + k)) → (∀ k, k < i → u 163 k = h 163 (48 + k)) → (∀ i k, ¬ (i = 162 ∧ k < 448) → ¬ (i = 163 ∧ k < 12) → u i k = h i k) → L_X12_glen_90 u z Q := by
    intro m
    induction m with
    | zero =>
      intro i z u hi hz r1 r2 f
      subst hz
      obtain rfl : i = 12 := by omega
      refine l_X12_glen_90 ?_
      unfold B_X12_glen_90
      exact ⟨fun _ => hQ u r1 r2 f, fun z => absurd (by omega) z⟩
    | succ m ih =>
      intro i z u hi hz r1 r2 f
      subst hz
      refine l_X12_glen_90 ?_
      unfold B_X12_glen_90
      rw [show (48 + (i : Int)).toNat = 48 + i by omega, Int.toNat_natCast]
      refine ⟨fun z => absurd z (by omega), fun _ => ⟨⟨by omega, by omega⟩, ⟨by omega, by omega⟩, ⟨by omega, by omega⟩, fun h26 e26 => ⟨⟨by omega, by omega⟩, ih (i + 1) _ h26 (by omega) (by omega) (fun k hk => ?_) (fun k hk => ?_) (fun a k p1 p2 => ?_)⟩⟩⟩
      · rw [e26, mset_i _ (by omega)]; exact r1 k hk
      · rw [e26]
        by_cases c : k = i
        · subst c; rw [mset_at]; exact f 163 _ (by omega) (by omega)
        · rw [mset_k c]; exact r2 k (by omega)
      · rw [e26, mset_o (by omega)]; exact f a k p1 p2
  have k59 : ∀ (m i : Nat) (z : Int) (u : Mem), i + m = 448 → z = (i : Int) → (∀ k, k < i → u 162 k = h 162 (1792 + k)) → (∀ a k, ¬ (a = 162 ∧ k < 448) → u a k = h a k) → L_X12_glen_59 u z Q := by
    intro m
    induction m with
    | zero =>
      intro i z u hi hz r1 f
      subst hz
      obtain rfl : i = 448 := by omega
      refine l_X12_glen_59 ?_
      unfold B_X12_glen_59
      exact ⟨fun _ => k90 12 0 0 u (by omega) rfl r1 (fun k hk => absurd hk (by omega)) (fun a k p1 _ => f a k p1), fun z => absurd (by omega) z⟩
    | succ m ih =>
      intro i z u hi hz r1 f
      subst hz
      refine l_X12_glen_59 ?_
      unfold B_X12_glen_59
      rw [show (1792 + (i : Int)).toNat = 1792 + i by omega, Int.toNat_natCast]
      refine ⟨fun z => absurd z (by omega), fun _ => ⟨⟨by omega, by omega⟩, ⟨by omega, by omega⟩, ⟨by omega, by omega⟩, fun h17 e17 => ⟨⟨by omega, by omega⟩, ih (i + 1) _ h17 (by omega) (by omega) (fun k hk => ?_) (fun a k p1 => ?_)⟩⟩⟩
      · rw [e17]
        by_cases c : k = i
        · subst c; rw [mset_at]; exact f 162 _ (by omega)
        · rw [mset_k c]; exact r1 k (by omega)
      · rw [e17, mset_o (by omega)]; exact f a k p1
  exact k59 448 0 0 h (by omega) rfl (fun k hk => absurd hk (by omega)) (fun _ _ _ => rfl)
theorem m_glen {h : Mem} {g : Gs} {B : Nat → Int} {a : Int} {n q : Nat} (hq : q ≤ 900) (h10 : h 161 10 = (q : Int)) (ha : a = (n : Int)) (hnq : n ≤ q) (hB : ∀ k, h 167 k = B k) (w : gn g ≤ 8 ∧ gm g ≤ 4) (rx : RXh h g) (rn' : RN h g) {Q : Int → Mem → Prop}
    (hok : ∀ u g', pGlen B n 900 g0 0 (rn Pb B n 0) = .ok g' → RXh u g' → RN u g' → u 162 9 = -1 → u 161 2 = 0 → u 161 16 = 0 → u 161 17 = -1 → u 161 10 = 0 → FMg h u → Q (g' 0 0) u)
    (hno : ∀ u e, pGlen B n 900 g0 0 (rn Pb B n 0) = .error e → RXh u g → RN u g → (∀ k, k < 448 → u 162 k = h 162 k) → u 161 2 = 9 → u 161 16 = e.1 → u 161 17 = (e.2 : Int) → u 161 10 = 0 → FMg h u → Q (-1) u) : F_X12_glen h a Q := by
  have eB : (fun k => h 167 k) = B := funext hB
  unfold F_X12_glen
  refine q_begins (most := 900) ha rfl (by omega) h10 hnq (by omega) (fun h1 f1 e10 m1 => ⟨fun _ => ?_, fun z => absurd z (by decide)⟩)
  rw [eB] at m1
  refine q_plain (fun h3 r3 f3 h5 e5 => ?_)
  have r5 : RW h5 g0 := by rw [e5]; exact r3.same ⟨Nat.zero_le _, Nat.zero_le _⟩ (fun i k p => mset_o (by omega))
  have m5 : MS h5 B n (rn Pb B n 0) := by rw [e5]; exact m1.fr (fun i k p => by rw [mset_o (by omega), f3 i k (by omega)])
  have t5 : TO h5 0 g0 := by unfold TO; rw [e5, mset_at]; rfl
  have F5 : ∀ i k, ¬ (i = 161 ∧ 10 ≤ k ∧ k ≤ 20 ∧ k ≠ 16) → ¬ (i = 162 ∧ 1792 ≤ k ∧ k < 2240) → i ≠ 168 → h5 i k = h i k := fun i k p1 p2 p3 => by rw [e5, mset_o (by omega), f3 i k p2, f1 i k (by omega) p3]
  have e510 : h5 161 10 = 0 := by rw [e5, mset_k (by decide), f3 161 10 (by omega)]; exact e10
  have n9 : n ≤ 900 := by omega
  refine q_glenLoop (h0 := h5) 900 _ h5 g0 0 (by omega) FNf.rf m5 r5 t5 (gp_g0 m5.1.2.1) (fun u g' hp fu e18 ru => ?_) (fun u e hp fu me => ?_)
  · obtain ⟨w', nm1, nm2⟩ := gp_glen 900 g0 0 _ g' (gp_g0 m5.1.2.1) hp
    have n8 := gn8 w'
    have n4 := gm4 w'
    unfold J_X12_glen_50
    refine ⟨fun z => absurd e18.1 z, fun _ => q_cpGlen (fun v v1 v2 fv => ?_)⟩
    unfold F_X12_taken
    intro x ex
    have x18 : x 161 18 = 0 := by rw [ex, mset_k (by decide), fv 161 18 (by omega) (by omega)]; exact e18.1
    rw [x18]
    refine ⟨fun _ => ?_, fun z => absurd (Int.le_refl 0) z⟩
    unfold F_X12_gives
    intro y ey
    have cell : ∀ k, k < 448 → y 162 k = u 162 (1792 + k) := fun k hk => by rw [ey, mset_i _ (by omega), ex, mset_i _ (by omega)]; exact v1 k hk
    have name : ∀ k, k < 12 → y 163 k = u 163 (48 + k) := fun k hk => by rw [ey, mset_i _ (by omega), ex, mset_i _ (by omega)]; exact v2 k hk
    obtain ⟨q1, q2, q3, q4, q5, q6, q7, q8⟩ := ru
    have ans : v 162 0 = g' 0 0 := by rw [v1 0 (by omega)]; exact q1 0 (by omega)
    rw [ans]
    refine hok y g' hp ⟨⟨fun i hi _ => ?_, fun t k ht hk _ => ?_, fun m k hm hk => ?_⟩, ?_⟩ ⟨fun t ht => ?_, fun m hm => ?_⟩ ?_ ?_ ?_ ?_ ?_ (fun i k p1 p2 p3 p4 => ?_)
    · rw [cell i (by omega)]; exact q1 i hi
    · rw [cell _ (by omega), show 1792 + (12 + 7 * t + k) = 1804 + 7 * t + k by omega]; exact q2 t k ht hk
    · rw [cell _ (by omega), show 1792 + (68 + 3 * m + k) = 1860 + 3 * m + k by omega]; exact q3 m k hm hk
    · rw [cell 5 (by omega)]; exact q1 5 (by omega)
    · rw [name t (by omega)]; exact q4 t ht
    · rw [name _ (by omega), show 48 + (8 + m) = 56 + m by omega]; exact q5 m hm
    · rw [cell 9 (by omega)]; exact q8
    · rw [ey, mset_at]
    · rw [ey, mset_k (by decide), ex, mset_at, fv 161 18 (by omega) (by omega)]; exact e18.1
    · rw [ey, mset_k (by decide), ex, mset_k (by decide), fv 161 17 (by omega) (by omega)]; exact e18.2
    · rw [ey, mset_k (by decide), ex, mset_k (by decide), fv 161 10 (by omega) (by omega), fu 161 10 (by omega) (by omega) (by omega)]; exact e510
    · rw [ey, mset_o (by omega), ex, mset_o (by omega), fv i k (by omega) (by omega), fu i k (by omega) (by omega) (by omega)]
      exact F5 i k (by omega) (by omega) p4
  · unfold J_X12_glen_50
    obtain ⟨z1, z2, z3⟩ := me
    refine ⟨fun _ => ?_, fun z => absurd z (by omega)⟩
    unfold F_X12_taken
    intro x ex
    have x18 : x 161 18 = e.1 := by rw [ex, mset_k (by decide)]; exact z1
    rw [x18]
    refine ⟨fun z => absurd z (by omega), fun _ => ?_⟩
    unfold F_X12_refuse
    intro y ey
    have same : ∀ i k, ¬ (i = 161 ∧ (k = 2 ∨ (10 ≤ k ∧ k ≤ 20))) → ¬ (i = 162 ∧ 1792 ≤ k ∧ k < 2240) → ¬ (i = 163 ∧ 48 ≤ k ∧ k < 60) → i ≠ 168 → y i k = h i k := fun i k p1 p2 p3 p4 => by
      rw [ey, mset_o (by omega), ex, mset_o (by omega), fu i k (by omega) (by omega) (by omega)]
      exact F5 i k (by omega) (by omega) p4
    refine hno y e hp ?_ ⟨fun t ht => ?_, fun m hm => ?_⟩ (fun k hk => same 162 k (by omega) (by omega) (by omega) (by omega)) ?_ ?_ ?_ ?_ (fun i k p1 p2 p3 p4 => same i k p1 (by omega) (by omega) p4)
    · exact rx.fr w.1 w.2 (fun k hk => same 162 k (by omega) (by omega) (by omega) (by omega))
    · rw [same 163 t (by omega) (by omega) (by omega) (by omega)]; exact rn'.1 t ht
    · rw [same 163 (8 + m) (by omega) (by omega) (by omega) (by omega)]; exact rn'.2 m hm
    · rw [ey, mset_at]
    · rw [ey, mset_k (by decide), ex, mset_at]; exact z1
    · rw [ey, mset_k (by decide), ex, mset_k (by decide)]; exact z2
    · rw [ey, mset_k (by decide), ex, mset_k (by decide), fu 161 10 (by omega) (by omega) (by omega)]; exact e510
