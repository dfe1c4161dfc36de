/-! ring: the reference -/
def stq (v : Mem) (k : Nat) : Int := if k = 0 then 2 * v 162 6 + v 162 7 else if k % 3 = 1 then v 162 (12 + 7 * (k / 3) + 3) else if k % 3 = 2 then (if v 162 (12 + 7 * (k / 3) + 3) = 1 then v 162 (12 + 7 * (k / 3) + 4) else -1) else v 162 (12 + 7 * (k / 3 - 1) + 5)
theorem stq_0 {v : Mem} : stq v 0 = 2 * v 162 6 + v 162 7 := rfl
theorem stq_1 {v : Mem} {t : Nat} : stq v (1 + 3 * t) = v 162 (12 + 7 * t + 3) := by
  unfold stq
  rw [if_neg (by omega), if_pos (by omega), show (1 + 3 * t) / 3 = t by omega]
theorem stq_2 {v : Mem} {t : Nat} : stq v (2 + 3 * t) = if v 162 (12 + 7 * t + 3) = 1 then v 162 (12 + 7 * t + 4) else -1 := by
  unfold stq
  rw [if_neg (by omega), if_neg (by omega), if_pos (by omega), show (2 + 3 * t) / 3 = t by omega]
theorem stq_3 {v : Mem} {t : Nat} : stq v (3 + 3 * t) = v 162 (12 + 7 * t + 5) := by
  unfold stq
  rw [if_neg (by omega), if_neg (by omega), if_neg (by omega), show (3 + 3 * t) / 3 - 1 = t by omega]
theorem q_stands {h : Mem} {i : Nat} {Q : Mem → Prop} (hi : i ≤ 200) (ha : 0 ≤ h 162 6 ∧ h 162 6 < 16) (hw : 0 ≤ h 162 7 ∧ h 162 7 ≤ 1) (hQ : ∀ u, (∀ k, k < 25 → u 170 (25 * i + k) = stq h k) → (∀ o k, ¬ (o = 170 ∧ 25 * i ≤ k ∧ k < 25 * i + 25) → u o k = h o k) → Q u) : F_X12_stands h (i : Int) Q := by
  unfold F_X12_stands
  have key : ∀ (d t : Nat) (z : Int) (v : Mem), z = (t : Int) → t + d = 8 → (∀ k, k < 1 + 3 * t → v 170 (25 * i + k) = stq h k) → (∀ o k, ¬ (o = 170 ∧ 25 * i ≤ k ∧ k < 25 * i + 25) → v o k = h o k) → L_X12_stands_30 v (25 * (i : Int)) z Q := by
    intro d
    induction d with
    | zero =>
      intro t z v hz ht row f
      subst hz
      obtain rfl : t = 8 := by omega
      refine l_X12_stands_30 ?_
      unfold B_X12_stands_30
      exact ⟨fun _ => hQ v (fun k hk => row k (by omega)) f, fun c => absurd (by omega) c⟩
    | succ d ih =>
      intro t z v hz ht row f
      subst hz
      refine l_X12_stands_30 ?_
      unfold B_X12_stands_30
      have n1 : (25 * (i : Int) + 1 + 3 * (t : Int)).toNat = 25 * i + (1 + 3 * t) := by omega
      have n2 : (25 * (i : Int) + 2 + 3 * (t : Int)).toNat = 25 * i + (2 + 3 * t) := by omega
      have n3 : (25 * (i : Int) + 3 + 3 * (t : Int)).toNat = 25 * i + (3 + 3 * t) := by omega
      rw [n1, n2, n3]
      have s1 := stq_1 (v := h) (t := t)
      have s2 := stq_2 (v := h) (t := t)
      have s3 := stq_3 (v := h) (t := t)
      have e3 : v 162 (12 + 7 * t + 3) = h 162 (12 + 7 * t + 3) := f 162 _ (by omega)
      have fin : ∀ (h2 h3 h4 : Mem), h2 = mset v 170 (25 * i + (1 + 3 * t)) (h 162 (12 + 7 * t + 3)) → h3 = mset h2 170 (25 * i + (2 + 3 * t)) (if h 162 (12 + 7 * t + 3) = 1 then h 162 (12 + 7 * t + 4) else -1) → h4 = mset h3 170 (25 * i + (3 + 3 * t)) (h 162 (12 + 7 * t + 5)) → L_X12_stands_30 h4 (25 * (i : Int)) ((t : Int) + 1) Q := fun h2 h3 h4 e2 e3 e4 => by
        subst e4 e3 e2
        refine ih (t + 1) _ _ (by omega) (by omega) (fun k hk => ?_) (fun o k ho => ?_)
        · by_cases c3 : k = 3 + 3 * t
          · subst c3; rw [mset_at, s3]
          · by_cases c2 : k = 2 + 3 * t
            · subst c2; rw [mset_k (by omega), mset_at, s2]
            · by_cases c1 : k = 1 + 3 * t
              · subst c1; rw [mset_k (by omega), mset_k (by omega), mset_at, s1]
              · rw [mset_k (by omega), mset_k (by omega), mset_k (by omega)]
                exact row k (by omega)
        · have g3 : ∀ (w : Mem) (a : Nat) (x : Int), 25 * i ≤ a ∧ a < 25 * i + 25 → mset w 170 a x o k = w o k := fun w a x ha => by unfold mset; rw [if_neg (by omega)]
          rw [g3 _ _ _ (by omega), g3 _ _ _ (by omega), g3 _ _ _ (by omega)]
          exact f o k ho
      refine ⟨fun c => absurd c (by omega), fun _ => q_thingOf (t := t) (k := 3) rfl rfl (by omega) (by omega) ?_⟩
      rw [e3]
      refine ⟨⟨by omega, by omega⟩, ⟨by omega, by omega⟩, ⟨by omega, by omega⟩, ⟨by omega, by omega⟩, fun h14 e14 => ⟨⟨by omega, by omega⟩, ⟨by omega, by omega⟩, fun c => ⟨⟨by omega, by omega⟩, fun h18 e18 => ⟨⟨by omega, by omega⟩, ⟨by omega, by omega⟩, q_thingOf (t := t) (k := 5) rfl rfl (by omega) (by omega) ⟨⟨by omega, by omega⟩, fun h24 e24 => ⟨⟨by omega, by omega⟩, ?_⟩⟩⟩⟩, fun c => q_thingOf (t := t) (k := 4) rfl rfl (by omega) (by omega) ⟨⟨by omega, by omega⟩, fun h29 e29 => ⟨⟨by omega, by omega⟩, ⟨by omega, by omega⟩, q_thingOf (t := t) (k := 5) rfl rfl (by omega) (by omega) ⟨⟨by omega, by omega⟩, fun h35 e35 => ⟨⟨by omega, by omega⟩, ?_⟩⟩⟩⟩⟩⟩
      · have e5 : h18 162 (12 + 7 * t + 5) = h 162 (12 + 7 * t + 5) := by rw [e18, mset_i _ (by omega), e14, mset_i _ (by omega)]; exact f 162 _ (by omega)
        rw [e5] at e24
        exact fin h14 h18 h24 e14 (by rw [if_neg c]; exact e18) e24
      · have e4 : h14 162 (12 + 7 * t + 4) = h 162 (12 + 7 * t + 4) := by rw [e14, mset_i _ (by omega)]; exact f 162 _ (by omega)
        have e5 : h29 162 (12 + 7 * t + 5) = h 162 (12 + 7 * t + 5) := by rw [e29, mset_i _ (by omega), e14, mset_i _ (by omega)]; exact f 162 _ (by omega)
        rw [e4] at e29
        rw [e5] at e35
        exact fin h14 h29 h35 e14 (by rw [if_pos c]; exact e29) e35
  refine ⟨⟨by omega, by omega⟩, ⟨by omega, by omega⟩, ⟨by omega, by omega⟩, ⟨by omega, by omega⟩, fun h7 e7 => ?_⟩
  have n0 : (25 * (i : Int)).toNat = 25 * i + 0 := by omega
  rw [n0] at e7
  subst e7
  refine key 8 0 0 _ rfl (by omega) (fun k hk => ?_) (fun o k ho => by unfold mset; rw [if_neg (by omega)])
  obtain rfl : k = 0 := by omega
  rw [mset_at, stq_0]
theorem q_areAlike {h : Mem} {a b : Nat} {E F : Nat → Int} {Q : Int → Mem → Prop} (ha : a ≤ 200) (hb : b ≤ 200) (eA : ∀ k, k < 25 → h 170 (25 * a + k) = E k) (eB : ∀ k, k < 25 → h 170 (25 * b + k) = F k) (h1 : (∀ k, k < 25 → E k = F k) → Q 1 h) (h0 : ¬ (∀ k, k < 25 → E k = F k) → Q 0 h) : F_X12_areAlike h (a : Int) (b : Int) Q := by
  unfold F_X12_areAlike
  have key : ∀ (d k : Nat) (z : Int), z = (k : Int) → k + d = 25 → (∀ j, j < k → E j = F j) → L_X12_areAlike_2 h (a : Int) (b : Int) z Q := by
    intro d
    induction d with
    | zero =>
      intro k z hz hk row
      subst hz
      obtain rfl : k = 25 := by omega
      refine l_X12_areAlike_2 ?_
      unfold B_X12_areAlike_2
      exact ⟨fun _ => h1 row, fun c => absurd (by omega) c⟩
    | succ d ih =>
      intro k z hz hk row
      subst hz
      refine l_X12_areAlike_2 ?_
      unfold B_X12_areAlike_2
      have n1 : (25 * (a : Int) + (k : Int)).toNat = 25 * a + k := by omega
      have n2 : (25 * (b : Int) + (k : Int)).toNat = 25 * b + k := by omega
      rw [n1, n2, eA k (by omega), eB k (by omega)]
      refine ⟨fun c => absurd c (by omega), fun _ => ⟨⟨by omega, by omega⟩, ⟨by omega, by omega⟩, ⟨by omega, by omega⟩, ⟨by omega, by omega⟩, ⟨by omega, by omega⟩, ⟨by omega, by omega⟩, fun c => ⟨⟨by omega, by omega⟩, ih (k + 1) _ (by omega) (by omega) (fun j hj => ?_)⟩, fun c => h0 (fun q => c (q k (by omega)))⟩⟩
      by_cases cj : j = k
      · subst cj; exact c
      · exact row j (by omega)
  exact key 25 0 0 rfl (by omega) (fun j hj => absurd hj (by omega))
/-- the reference's rows of a glen, those of things that are none as at first -/
def stG (h : Mem) (g : Gs) (k : Nat) : Int := if k = 0 then 2 * g 0 6 + g 0 7 else if gn g ≤ (k - 1) / 3 then stq h k else if k % 3 = 1 then g 4 (k / 3) else if k % 3 = 2 then (if g 4 (k / 3) = 1 then g 5 (k / 3) else -1) else g 6 (k / 3 - 1)
theorem stG_ok {h v : Mem} {g : Gs} (n8 : gn g ≤ 8) (r : RX v g) (f : ∀ k, 12 ≤ k → k < 68 → 12 + 7 * gn g ≤ k → v 162 k = h 162 k) : ∀ k, k < 25 → stq v k = stG h g k := by
  intro k hk
  have cs0 : k = 0 ∨ ∃ t, t < 8 ∧ (k = 1 + 3 * t ∨ k = 2 + 3 * t ∨ k = 3 + 3 * t) := by
    by_cases c : k = 0
    · exact Or.inl c
    · refine Or.inr ⟨(k - 1) / 3, by omega, by omega⟩
  rcases cs0 with rfl | ⟨t, ht, hk2⟩
  · unfold stG
    rw [stq_0, if_pos rfl, r.1 6 (by omega) (by omega), r.1 7 (by omega) (by omega)]
  · have d : (k - 1) / 3 = t := by omega
    unfold stG
    rw [if_neg (by omega), d]
    by_cases c : gn g ≤ t
    · rw [if_pos c]
      rcases hk2 with rfl | rfl | rfl
      · rw [stq_1, stq_1, f _ (by omega) (by omega) (by omega)]
      · rw [stq_2, stq_2, f _ (by omega) (by omega) (by omega), f _ (by omega) (by omega) (by omega)]
      · rw [stq_3, stq_3, f _ (by omega) (by omega) (by omega)]
    · rw [if_neg c]
      have e4 : v 162 (12 + 7 * t + 3) = g 4 t := r.2.1 t 3 (by omega) (by omega) (fun q => absurd q (by omega))
      have e6 : v 162 (12 + 7 * t + 5) = g 6 t := r.2.1 t 5 (by omega) (by omega) (fun q => absurd q (by omega))
      rcases hk2 with rfl | rfl | rfl
      · rw [stq_1, if_pos (by omega), show (1 + 3 * t) / 3 = t by omega]; exact e4
      · rw [if_neg (by omega), if_pos (by omega), show (2 + 3 * t) / 3 = t by omega, stq_2, e4]
        by_cases l : g 4 t = 1
        · rw [if_pos l, if_pos l]; exact r.2.1 t 4 (by omega) (by omega) (fun _ => l)
        · rw [if_neg l, if_neg l]
      · rw [stq_3, if_neg (by omega), if_neg (by omega), show (3 + 3 * t) / 3 - 1 = t by omega]; exact e6
theorem stG_1 {h : Mem} {g : Gs} {t : Nat} (ht : t < gn g) : stG h g (1 + 3 * t) = g 4 t := by
  unfold stG
  rw [if_neg (by omega), if_neg (by omega), if_pos (by omega), show (1 + 3 * t) / 3 = t by omega]
theorem stG_2 {h : Mem} {g : Gs} {t : Nat} (ht : t < gn g) : stG h g (2 + 3 * t) = if g 4 t = 1 then g 5 t else -1 := by
  unfold stG
  rw [if_neg (by omega), if_neg (by omega), if_neg (by omega), if_pos (by omega), show (2 + 3 * t) / 3 = t by omega]
theorem stG_3 {h : Mem} {g : Gs} {t : Nat} (ht : t < gn g) : stG h g (3 + 3 * t) = g 6 t := by
  unfold stG
  rw [if_neg (by omega), if_neg (by omega), if_neg (by omega), if_neg (by omega), show (3 + 3 * t) / 3 - 1 = t by omega]
theorem stG_sim {h : Mem} {a b : Gs} {B B' : Int} (w : WF B a) (w' : WF B' b) (e : gn a = gn b) : (∀ k, k < 25 → stG h a k = stG h b k) ↔ simG a b := by
  obtain ⟨n8, nc⟩ := gn8 w
  have ws := w.1
  have ws' := w'.1
  unfold WFs at ws ws'
  refine ⟨fun q => ?_, fun s k hk => ?_⟩
  · have q0 := q 0 (by omega)
    unfold stG at q0
    rw [if_pos rfl, if_pos rfl] at q0
    refine ⟨by omega, by omega, fun t ht => ?_⟩
    have q1 := q (1 + 3 * t) (by omega)
    have q2 := q (2 + 3 * t) (by omega)
    have q3 := q (3 + 3 * t) (by omega)
    rw [stG_1 ht, stG_1 (e ▸ ht)] at q1
    rw [stG_2 ht, stG_2 (e ▸ ht)] at q2
    rw [stG_3 ht, stG_3 (e ▸ ht)] at q3
    refine ⟨q1, ?_, q3⟩
    have wt := w.2.1 t ht
    have wt' := w'.2.1 t (e ▸ ht)
    unfold WFt at wt wt'
    by_cases l : a 4 t = 1
    · rw [if_pos l, if_pos (by omega)] at q2; exact q2
    · rw [wt.2.2.2.2.2.2.2.2.2.2.1 l, wt'.2.2.2.2.2.2.2.2.2.2.1 (by omega)]
  · unfold stG
    by_cases c0 : k = 0
    · rw [if_pos c0, if_pos c0, s.1, s.2.1]
    · rw [if_neg c0, if_neg c0, ← e]
      by_cases c1 : gn a ≤ (k - 1) / 3
      · rw [if_pos c1, if_pos c1]
      · rw [if_neg c1, if_neg c1]
        by_cases c2 : k % 3 = 1
        · rw [if_pos c2, if_pos c2]; exact (s.2.2 (k / 3) (by omega)).1
        · rw [if_neg c2, if_neg c2]
          by_cases c3 : k % 3 = 2
          · have st := s.2.2 (k / 3) (by omega)
            rw [if_pos c3, if_pos c3, st.1, st.2.1]
          · rw [if_neg c3, if_neg c3]; exact (s.2.2 (k / 3 - 1) (by omega)).2.2
