/-! feed, fault, the three that only tell -/
def TE (h : Mem) : Prop := ∃ n : Nat, n ≤ 900 ∧ h 9 1 = (n : Int) ∧ h 161 10 = (n : Int) ∧ ∀ k, k < n → h 10 k = h 167 k
def FE (h : Mem) : Prop := h 9 9 = h 161 16 ∧ h 9 10 = h 161 17
def bt4 (v : Int) (i : Nat) : Int := i2b (i2b (ishr v (24 - 8 * (i : Int))))
def FXt (h u : Mem) : Prop := ∀ i k, ¬ (i = 9 ∧ k = 1) → i ≠ 10 → u i k = h i k
def FMt (h u : Mem) : Prop := ∀ i k, ¬ (i = 161 ∧ k = 10) → i ≠ 167 → u i k = h i k
theorem FXt.tr {h h1 h2 : Mem} (a : FXt h h1) (b : FXt h1 h2) : FXt h h2 := fun i k p q => (b i k p q).trans (a i k p q)
theorem FMt.tr {h h1 h2 : Mem} (a : FMt h h1) (b : FMt h1 h2) : FMt h h2 := fun i k p q => (b i k p q).trans (a i k p q)
theorem s_append {h : Mem} {W : Nat → Int} {q : Nat} {v : Int} {Q : Mem → Prop} (e : h 9 1 = (q : Int)) (hq : q + 4 ≤ 900) (row : ∀ k, k < q → h 10 k = W k) (new : ∀ i, i < 4 → W (q + i) = bt4 v i) (hQ : ∀ u, u 9 1 = ((q + 4 : Nat) : Int) → (∀ k, k < q + 4 → u 10 k = W k) → FXt h u → Q u) : F_X8_append h v Q := by
  unfold F_X8_append
  have key : ∀ (m i : Nat) (z : Int) (u : Mem), z = 24 - 8 * (i : Int) → i + m = 4 → u 9 1 = ((q + i : Nat) : Int) → (∀ k, k < q + i → u 10 k = W k) → FXt h u → L_X8_append_3 u v z Q := by
    intro m
    induction m with
    | zero =>
      intro i z u hz hi e1 r f
      subst hz
      obtain rfl : i = 4 := by omega
      refine l_X8_append_3 ?_
      unfold B_X8_append_3
      exact ⟨fun _ => hQ u e1 r f, fun c => absurd (by omega) c⟩
    | succ m ih =>
      intro i z u hz hi e1 r f
      subst hz
      refine l_X8_append_3 ?_
      unfold B_X8_append_3
      rw [e1, Int.toNat_natCast]
      refine ⟨fun c => absurd c (by omega), fun _ => ⟨fun c => absurd c (by omega), fun _ => ⟨⟨by omega, by omega⟩, fun h2 e2 => ?_⟩⟩⟩
      have e3 : h2 9 1 = ((q + i : Nat) : Int) := by rw [e2, mset_i _ (by omega)]; exact e1
      rw [e3]
      refine ⟨⟨by omega, by omega⟩, fun h4 e4 => ⟨⟨by omega, by omega⟩, ih (i + 1) _ h4 (by omega) (by omega) ?_ (fun k hk => ?_) (fun a b p1 p2 => ?_)⟩⟩
      · rw [e4, mset_at]; omega
      · rw [e4, mset_i _ (by omega), e2]
        by_cases c : k = q + i
        · subst c; rw [mset_at, new i (by omega)]; rfl
        · rw [mset_k c]; exact r k (by omega)
      · have y : mset h2 9 1 (((q + i : Nat) : Int) + 1) a b = h2 a b := by unfold mset; rw [if_neg p1]
        rw [e4, y, e2, mset_i _ p2]
        exact f a b p1 p2
  exact key 4 0 24 h rfl (by omega) e row (fun _ _ _ _ => rfl)
theorem q_four {h : Mem} {W : Nat → Int} {q : Nat} {v : Int} {Q : Mem → Prop} (e : h 161 10 = (q : Int)) (hq : q + 4 ≤ 900) (row : ∀ k, k < q → h 167 k = W k) (new : ∀ i, i < 4 → W (q + i) = bt4 v i) (hQ : ∀ u, u 161 10 = ((q + 4 : Nat) : Int) → (∀ k, k < q + 4 → u 167 k = W k) → FMt h u → Q u) : F_X12_four h v Q := by
  unfold F_X12_four
  have key : ∀ (m i : Nat) (z : Int) (u : Mem), z = 24 - 8 * (i : Int) → i + m = 4 → u 161 10 = ((q + i : Nat) : Int) → (∀ k, k < q + i → u 167 k = W k) → FMt h u → L_X12_four_3 u v z Q := by
    intro m
    induction m with
    | zero =>
      intro i z u hz hi e1 r f
      subst hz
      obtain rfl : i = 4 := by omega
      refine l_X12_four_3 ?_
      unfold B_X12_four_3
      exact ⟨fun _ => hQ u e1 r f, fun c => absurd (by omega) c⟩
    | succ m ih =>
      intro i z u hz hi e1 r f
      subst hz
      refine l_X12_four_3 ?_
      unfold B_X12_four_3
      rw [e1, Int.toNat_natCast]
      refine ⟨fun c => absurd c (by omega), fun _ => ⟨⟨by omega, by omega⟩, fun h2 e2 => ?_⟩⟩
      have e3 : h2 161 10 = ((q + i : Nat) : Int) := by rw [e2, mset_i _ (by omega)]; exact e1
      rw [e3]
      refine ⟨⟨by omega, by omega⟩, fun h4 e4 => ⟨⟨by omega, by omega⟩, ih (i + 1) _ h4 (by omega) (by omega) ?_ (fun k hk => ?_) (fun a b p1 p2 => ?_)⟩⟩
      · rw [e4, mset_at]; omega
      · rw [e4, mset_i _ (by omega), e2]
        by_cases c : k = q + i
        · subst c; rw [mset_at, new i (by omega)]; rfl
        · rw [mset_k c]; exact r k (by omega)
      · have y : mset h2 161 10 (((q + i : Nat) : Int) + 1) a b = h2 a b := by unfold mset; rw [if_neg p1]
        rw [e4, y, e2, mset_i _ p2]
        exact f a b p1 p2
  exact key 4 0 24 h rfl (by omega) e row (fun _ _ _ _ => rfl)
def fedW (p : Nat) (W : Nat → Int) (a b c d e : Int) (k : Nat) : Int := if k < p then W k else bt4 (if k < p + 4 then a else if k < p + 8 then b else if k < p + 12 then c else if k < p + 16 then d else e) ((k - p) % 4)
theorem k_feed {h : Mem} {a b c d e : Int} (t : TE h) {Q : Int → Int → Mem → Prop} (hQ : ∀ r u1 u, TE u → FXt h u1 → FMt u1 u → Q r r u) : F_X11_feed h a b c d e (fun r1 h1 => F_X12_feed h1 a b c d e (fun r2 h2 => Q r1 r2 h2)) := by
  obtain ⟨n, n9, t1, t2, t3⟩ := t
  unfold F_X11_feed F_X8_hasRoomFor
  rw [t1]
  by_cases c20 : n + 20 ≤ 900
  · refine ⟨⟨by omega, by omega⟩, fun q => absurd q (by omega), fun _ => ⟨fun _ => ?_, fun q => absurd q (by decide)⟩⟩
    have w0 : ∀ i, i < 4 → fedW n (fun k => h 10 k) a b c d e (n + i) = bt4 a i := fun i hi => by
      unfold fedW
      rw [if_neg (by omega), if_pos (by omega), show (n + i - n) % 4 = i by omega]
    have w1 : ∀ i, i < 4 → fedW n (fun k => h 10 k) a b c d e (n + 4 + i) = bt4 b i := fun i hi => by
      unfold fedW
      rw [if_neg (by omega), if_neg (by omega), if_pos (by omega), show (n + 4 + i - n) % 4 = i by omega]
    have w2 : ∀ i, i < 4 → fedW n (fun k => h 10 k) a b c d e (n + 4 + 4 + i) = bt4 c i := fun i hi => by
      unfold fedW
      rw [if_neg (by omega), if_neg (by omega), if_neg (by omega), if_pos (by omega), show (n + 4 + 4 + i - n) % 4 = i by omega]
    have w3 : ∀ i, i < 4 → fedW n (fun k => h 10 k) a b c d e (n + 4 + 4 + 4 + i) = bt4 d i := fun i hi => by
      unfold fedW
      rw [if_neg (by omega), if_neg (by omega), if_neg (by omega), if_neg (by omega), if_pos (by omega), show (n + 4 + 4 + 4 + i - n) % 4 = i by omega]
    have w4 : ∀ i, i < 4 → fedW n (fun k => h 10 k) a b c d e (n + 4 + 4 + 4 + 4 + i) = bt4 e i := fun i hi => by
      unfold fedW
      rw [if_neg (by omega), if_neg (by omega), if_neg (by omega), if_neg (by omega), if_neg (by omega), show (n + 4 + 4 + 4 + 4 + i - n) % 4 = i by omega]
    have lo : ∀ k, k < n → fedW n (fun k => h 10 k) a b c d e k = h 10 k := fun k hk => by
      unfold fedW
      rw [if_pos hk]
    refine s_append (W := fedW n (fun k => h 10 k) a b c d e) t1 (by omega) (fun k hk => (lo k hk).symm) w0 (fun x1 e1 r1 f1 => s_append e1 (by omega) r1 w1 (fun x2 e2 r2 f2 => s_append e2 (by omega) r2 w2 (fun x3 e3 r3 f3 => s_append e3 (by omega) r3 w3 (fun x4 e4 r4 f4 => s_append e4 (by omega) r4 w4 (fun x5 e5 r5 f5 => ?_)))))
    have fx : FXt h x5 := (((f1.tr f2).tr f3).tr f4).tr f5
    rw [e5]
    show F_X12_feed x5 a b c d e (fun r2 h2 => Q ((n + 4 + 4 + 4 + 4 + 4 : Nat) : Int) r2 h2)
    unfold F_X12_feed
    have y0 : x5 161 10 = (n : Int) := (fx 161 10 (by omega) (by omega)).trans t2
    rw [y0]
    refine ⟨⟨by omega, by omega⟩, fun _ => ?_, fun q => absurd (by omega) q⟩
    refine q_four (W := fedW n (fun k => h 10 k) a b c d e) y0 (by omega) (fun k hk => by rw [fx 167 k (by omega) (by omega), ← t3 k hk, lo k hk]) w0 (fun z1 e1' r1' f1' => q_four e1' (by omega) r1' w1 (fun z2 e2' r2' f2' => q_four e2' (by omega) r2' w2 (fun z3 e3' r3' f3' => q_four e3' (by omega) r3' w3 (fun z4 e4' r4' f4' => q_four e4' (by omega) r4' w4 (fun z5 e5' r5' f5' => ?_)))))
    have fm : FMt x5 z5 := (((f1'.tr f2').tr f3').tr f4').tr f5'
    rw [e5']
    exact hQ _ x5 z5 ⟨n + 4 + 4 + 4 + 4 + 4, by omega, by rw [fm 9 1 (by omega) (by omega)]; exact e5, e5', fun k hk => by rw [fm 10 k (by omega) (by omega), r5 k hk, r5' k hk]⟩ fx fm
  · refine ⟨⟨by omega, by omega⟩, fun _ => ⟨fun q => absurd rfl q, fun _ => ?_⟩, fun q => absurd (by omega) q⟩
    show F_X12_feed h a b c d e (fun r2 h2 => Q (-1) r2 h2)
    unfold F_X12_feed
    rw [t2]
    exact ⟨⟨by omega, by omega⟩, fun q => absurd q (by omega), fun _ => hQ (-1) h h ⟨n, n9, t1, t2, t3⟩ (fun _ _ _ _ => rfl) (fun _ _ _ _ => rfl)⟩
theorem k_fault {h : Mem} {a : Int} (f : FE h) {Q : Int → Int → Mem → Prop} (hQ : ∀ r, Q r r h) : F_X11_fault h a (fun r1 h1 => F_X12_fault h1 a (fun r2 h2 => Q r1 r2 h2)) := by
  have back : ∀ r : Int, r = (if a = 0 then h 161 16 else if a = 1 then h 161 17 else -1) → F_X12_fault h a (fun r2 h2 => Q r r2 h2) := fun r hr => by
    subst hr
    unfold F_X12_fault
    refine ⟨fun c => ⟨fun c1 => ?_, fun c1 => ?_⟩, fun c => ?_⟩
    · rw [if_neg c, if_neg c1]; exact hQ _
    · rw [if_neg c, if_pos c1]; exact hQ _
    · rw [if_pos c]; exact hQ _
  exact ⟨fun c => ⟨fun c1 => back _ (by rw [if_neg c, if_neg c1]), fun c1 => back _ (by rw [if_neg c, if_pos c1]; exact f.2)⟩, fun c => back _ (by rw [if_pos c]; exact f.1)⟩
theorem k_status {h : Mem} {g : Gs} (s : G2 h g) {Q : Int → Int → Mem → Prop} (hQ : ∀ r, Q r r h) : F_X11_status h (fun r1 h1 => F_X12_status h1 (fun r2 h2 => Q r1 r2 h2)) := by
  show Q (h 0 0) (h 161 2) h
  rw [s.2.2.2.2]
  exact hQ _
theorem k_top {h : Mem} (f : FrE h) {Q : Int → Int → Mem → Prop} (hQ : ∀ r, Q r r h) : F_X11_top h (fun r1 h1 => F_X12_top h1 (fun r2 h2 => Q r1 r2 h2)) := by
  show Q (h 0 1) (h 161 3) h
  rw [f.1]
  exact hQ _
theorem k_bottom {h : Mem} (f : FrE h) {Q : Int → Int → Mem → Prop} (hQ : ∀ r, Q r r h) : F_X11_bottom h (fun r1 h1 => F_X12_bottom h1 (fun r2 h2 => Q r1 r2 h2)) := by
  show Q (h 0 2) (h 161 4) h
  rw [f.2]
  exact hQ _
