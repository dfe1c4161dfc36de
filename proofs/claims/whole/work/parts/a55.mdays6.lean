/-! days read by the reference -/
section MD6
variable {B : Nat → Int} {n : Nat} {g : Gs}
theorem rg163 {v : Mem} (g : Rg v) (q : Nat) : InL (v 163 q) := g 163 q
theorem c8_nm {x : Int} (h : InL (c8 x)) : nmR x := by
  unfold nmR
  by_cases c : 0 ≤ x ∧ x < 1099511627776
  · exact c
  · unfold c8 at h
    rw [if_neg c] at h
    exact absurd h.2 (by decide)
theorem adv1 {s : Nat} (hs : s ≤ n) (k : tke B n s = 1 ∨ tke B n s = 2 ∨ tke B n s = 3) : s ≤ nx B n s ∧ nx B n s ≤ n := ⟨Nat.le_of_lt (nx_w hs k).1, (nx_w hs k).2⟩
theorem no_adv {s s' : Nat} {lo hi : Int} (hs : s ≤ n) (h : pNo B n lo hi s = .ok s') : s ≤ s' ∧ s' ≤ n := by
  obtain ⟨rfl, k, _⟩ := pNo_ok h
  exact adv1 hs (Or.inr (Or.inl k))
theorem thg_adv {s s' : Nat} (hs : s ≤ n) (h : pThg B n g s = .ok s') : s ≤ s' ∧ s' ≤ n := by
  unfold pThg at h
  obtain ⟨a, ha, h⟩ := bnd_ok h
  have k := (pNm_ok ha).2.1
  split at h
  · cases h
  · cases h; exact adv1 hs (Or.inl k)
theorem mil_adv {s s' : Nat} (hs : s ≤ n) (h : pMil B n g s = .ok s') : s ≤ s' ∧ s' ≤ n := by
  unfold pMil at h
  obtain ⟨a, ha, h⟩ := bnd_ok h
  have k := (pNm_ok ha).2.1
  split at h
  · cases h
  · cases h; exact adv1 hs (Or.inl k)
theorem way_adv {s s' : Nat} (hs : s ≤ n) (h : pWay B n s = .ok s') : s ≤ s' ∧ s' ≤ n := by
  unfold pWay at h
  split at h
  · rename_i c
    have k := (xk_kw (B := B) (n := n) (s := s) (by omega)).1
    cases h; exact adv1 hs (Or.inl k)
  · cases h
theorem cmp_adv {s s' : Nat} (hs : s ≤ n) (h : pCmp B n s = .ok s') : s ≤ s' ∧ s' ≤ n := by
  unfold pCmp at h
  split at h
  · rename_i c
    cases h; exact adv1 hs (Or.inr (Or.inr c.1))
  · cases h
theorem tst_adv {s s' : Nat} (hs : s ≤ n) (h : pTst B n s = .ok s') : s ≤ s' ∧ s' ≤ n := by
  unfold pTst at h
  split at h
  · rename_i c
    have k := (xk_kw (B := B) (n := n) (s := s) (by omega)).1
    cases h; exact adv1 hs (Or.inl k)
  · cases h
theorem test_adv {s s' : Nat} {e : En} (hs : s ≤ n) (h : pTest B n g s = .ok (s', e)) : s ≤ s' ∧ s' ≤ n := by
  unfold pTest at h
  obtain ⟨s1, h1, h⟩ := bnd_ok h
  have a1 := tst_adv hs h1
  split at h
  · obtain ⟨s2, h2, h⟩ := bnd_ok h
    have a2 := thg_adv a1.2 h2
    cases h; omega
  · split at h
    · obtain ⟨s2, h2, h⟩ := bnd_ok h
      have a2 := way_adv a1.2 h2
      cases h; omega
    · split at h
      · obtain ⟨s2, h2, h⟩ := bnd_ok h
        obtain ⟨s3, h3, h⟩ := bnd_ok h
        obtain ⟨s4, h4, h⟩ := bnd_ok h
        have a2 := mil_adv a1.2 h2
        have a3 := cmp_adv a2.2 h3
        have a4 := no_adv a3.2 h4
        cases h; omega
      · obtain ⟨s2, h2, h⟩ := bnd_ok h
        obtain ⟨s3, h3, h⟩ := bnd_ok h
        have a2 := cmp_adv a1.2 h2
        have a3 := no_adv a2.2 h3
        cases h; omega
theorem rest_adv {s s' : Nat} {k : Int} {e : En} (hs : s ≤ n) (h : pRest B n g k s = .ok (s', e)) : s ≤ s' ∧ s' ≤ n := by
  unfold pRest at h
  split at h
  · obtain ⟨s1, h1, h⟩ := bnd_ok h
    have a1 := no_adv hs h1
    cases h; exact a1
  · split at h
    · obtain ⟨s1, h1, h⟩ := bnd_ok h
      obtain ⟨s2, h2, h⟩ := bnd_ok h
      have a1 := thg_adv hs h1
      have a2 := no_adv a1.2 h2
      cases h; omega
    · split at h
      · obtain ⟨s1, h1, h⟩ := bnd_ok h
        have a1 := thg_adv hs h1
        cases h; exact a1
      · split at h
        · cases h; omega
        · split at h
          · exact test_adv hs h
          · split at h
            · obtain ⟨s1, h1, h⟩ := bnd_ok h
              have a1 := no_adv hs h1
              cases h; exact a1
            · cases h; omega
theorem step_adv {s s' : Nat} {d d' : Dy} (hs : s ≤ n) (h : pStep B n g d s = .ok (s', d')) : s < s' ∧ s' ≤ n := by
  unfold pStep at h
  split at h
  · rename_i c
    have k := (xk_kw (B := B) (n := n) (s := s) (by omega)).1
    have := nx_w hs (Or.inl k)
    cases h; exact this
  · obtain ⟨s1, h1, h⟩ := bnd_ok h
    obtain ⟨q, h2, h⟩ := bnd_ok h
    obtain ⟨e1, _, k⟩ := pLook_ok h1
    have a1 := nx_w hs (Or.inl k)
    have a2 := rest_adv (e := q.2) (s' := q.1) (by rw [e1]; exact a1.2) h2
    cases h; omega
theorem flt_any {α β : Type} {s : Nat} {w : Int} {e : Int × Nat} (h : (flt B n s w : Except (Int × Nat) α) = .error e) : (flt B n s w : Except (Int × Nat) β) = .error e := by
  unfold flt at h ⊢
  injection h with h
  rw [h]
theorem q_daysEnd {h0 h : Mem} {d : Dy} {s : Nat} {Q : Int → Mem → Prop} (f : FDs h0 h) (x : MS h B n s) (rd : RDw h d) (hok : ∀ u d', endD B n d s = .ok d' → FDs h0 u → (u 161 18 = 0 ∧ u 161 17 = -1) → RDw u d' → J_X12_days_77 u Q) (hno : ∀ u e, endD B n d s = .error e → FDs h0 u → ME u e → J_X12_days_77 u Q) : J_X12_days_57 h Q := by
  have e22 := rd.1
  unfold J_X12_days_57
  refine ⟨fun z => absurd x.2.1 z, fun _ => ⟨fun le => hok h d (by unfold endD; rw [if_neg (by omega)]) f x.2 rd, fun gt => mx_fails x (by decide) (fun u e ee fu m => hno u e (by unfold endD; rw [if_pos (by omega)]; exact flt_any ee) (f.tr (FDs.of fu)) m)⟩⟩
theorem q_daysLoop {Q : Int → Mem → Prop} {h0 : Mem} : ∀ (k s : Nat) (h : Mem) (d : Dy), n ≤ s + k → FDs h0 h → MS h B n s → GMr h g → RDw h d → DN d → DV d → DE0 g d → (∀ u d', pDays B n g k d s = .ok d' → FDs h0 u → (u 161 18 = 0 ∧ u 161 17 = -1) → RDw u d' → J_X12_days_77 u Q) → (∀ u e, pDays B n g k d s = .error e → FDs h0 u → ME u e → J_X12_days_77 u Q) → L_X12_days_38 h 1 Q := by
  intro k
  induction k with
  | zero =>
    intro s h d hk f x gm rd p v w hok hno
    have t0 : tke B n s = 0 := by unfold tke; rw [if_pos (by omega)]
    refine l_X12_days_38 ?_
    unfold B_X12_days_38
    refine ⟨fun z => absurd z (by decide), fun _ => ⟨fun _ => q_daysEnd f x rd hok hno, fun z => absurd ?_ z⟩⟩
    rw [x.1.2.2.1]
    exact (kt_z (by omega)).mpr t0
  | succ k ih =>
    intro s h d hk f x gm rd p v w hok hno
    refine l_X12_days_38 ?_
    unfold B_X12_days_38
    refine ⟨fun z => absurd z (by decide), fun _ => ⟨fun z => ?_, fun z => ?_⟩⟩
    · rw [x.1.2.2.1] at z
      have t0 := (kt_z tke_in.1).mp z
      have E : pDays B n g (k + 1) d s = endD B n d s := by
        conv => lhs; unfold pDays
        rw [if_pos t0]
      rw [E] at hok hno
      exact q_daysEnd f x rd hok hno
    · rw [x.1.2.2.1] at z
      have t0 : tke B n s ≠ 0 := fun q => z ((kt_z (by omega)).mpr q)
      have E : pDays B n g (k + 1) d s = bnd (pStep B n g d s) (fun q => bnd (pSg B n 59 q.1) fun s' => pDays B n g k q.2 s') := by
        conv => lhs; unfold pDays
        rw [if_neg t0]
      rw [E] at hok hno
      refine q_dayStep x gm rd p v (fun s1 d' s2 u q1 q2 fu m r => ?_) (fun e u q fu m => ?_)
      · rw [q1, bnd_y] at hok hno
        have hok : ∀ u d2, bnd (pSg B n 59 s1) (fun s' => pDays B n g k d' s') = .ok d2 → FDs h0 u → (u 161 18 = 0 ∧ u 161 17 = -1) → RDw u d2 → J_X12_days_77 u Q := hok
        have hno : ∀ u e, bnd (pSg B n 59 s1) (fun s' => pDays B n g k d' s') = .error e → FDs h0 u → ME u e → J_X12_days_77 u Q := hno
        rw [q2, bnd_y] at hok hno
        have a1 := step_adv x.1.2.1 q1
        obtain ⟨a2, a3⟩ := pSg_ok q2
        have a4 := nx_w a1.2 (Or.inr (Or.inr a3))
        rw [← a2] at a4
        obtain ⟨v1, w1⟩ := dv_step p v w q1
        exact ih s2 u d' (by omega) (f.tr fu) m (gm.ds fu) r (dp_step p q1).1 v1 w1 hok hno
      · refine l_X12_days_38 ?_
        unfold B_X12_days_38
        refine ⟨fun _ => ?_, fun z => absurd rfl z⟩
        have z : u 161 18 ≠ 0 := fun y => by have := m.1; have := m.2.2; omega
        unfold J_X12_days_57
        refine ⟨fun _ => hno u e ?_ (f.tr fu) m, fun y => absurd y z⟩
        rcases q with q1 | ⟨s1, d', q1, q2⟩
        · rw [q1, bnd_n]
        · rw [q1, bnd_y]; show bnd (pSg B n 59 s1) _ = _; rw [q2, bnd_n]
def FMd (h u : Mem) : Prop := ∀ i k, ¬ (i = 161 ∧ (k = 2 ∨ (10 ≤ k ∧ k ≤ 23))) → ¬ (i = 162 ∧ (k = 9 ∨ (80 ≤ k ∧ k < 440) ∨ (1792 ≤ k ∧ k < 2240))) → i ≠ 168 → i ≠ 169 → u i k = h i k
theorem q_cpDays {h : Mem} {Q : Int → Mem → Prop} (hQ : ∀ u, (∀ k, 80 ≤ k → k < 440 → u 162 k = h 162 (1792 + k)) → (∀ i k, ¬ (i = 162 ∧ 80 ≤ k ∧ k < 440) → u i k = h i k) → F_X12_taken u (u 161 23) Q) : L_X12_days_102 h 80 Q := by
  have key : ∀ (m i : Nat) (z : Int) (u : Mem), i + m = 440 → 80 ≤ i → z = (i : Int) → (∀ k, 80 ≤ k → k < i → u 162 k = h 162 (1792 + k)) → (∀ a k, ¬ (a = 162 ∧ 80 ≤ k ∧ k < 440) → u a k = h a k) → L_X12_days_102 u z Q := by
    intro m
    induction m with
    | zero =>
      intro i z u hi hi8 hz r1 f
      subst hz
      obtain rfl : i = 440 := by omega
      refine l_X12_days_102 ?_
      unfold B_X12_days_102
      exact ⟨fun _ => hQ u r1 f, fun z => absurd (by omega) z⟩
    | succ m ih =>
      intro i z u hi hi8 hz r1 f
      subst hz
      refine l_X12_days_102 ?_
      unfold B_X12_days_102
      rw [show (1792 + (i : Int)).toNat = 1792 + i by omega, Int.toNat_natCast]
      refine ⟨fun z => absurd z (by omega), fun _ => ⟨⟨by omega, by omega⟩, ⟨by omega, by omega⟩, ⟨by omega, by omega⟩, fun h22 e22 => ⟨⟨by omega, by omega⟩, ih (i + 1) _ h22 (by omega) (by omega) (by omega) (fun k k1 k2 => ?_) (fun a k p1 => ?_)⟩⟩⟩
      · rw [e22]
        by_cases c : k = i
        · subst c; rw [mset_at]; exact f 162 _ (by omega)
        · rw [mset_k c]; exact r1 k k1 (by omega)
      · rw [e22, mset_o (by omega)]; exact f a k p1
  exact key 360 80 80 h (by omega) (by omega) rfl (fun k k1 k2 => absurd k2 (by omega)) (fun _ _ _ => rfl)
theorem dv_dS' : DE0 g dS := fun k hk => absurd hk (by show ¬ (k < 0); omega)
theorem m_days {h : Mem} {a : Int} {q : Nat} (hq : q ≤ 900) (h10 : h 161 10 = (q : Int)) (ha : a = (n : Int)) (hnq : n ≤ q) (hn3 : n ≤ 300) (hB : ∀ k, h 167 k = B k) (n8 : gn g ≤ 8 ∧ (gn g : Int) = g 0 0) (n4 : gm g ≤ 4 ∧ (gm g : Int) = g 0 1) (wl : 2 ≤ g 0 2 ∧ g 0 2 ≤ 16) (rx : RXh h g) (rn' : RN h g) {Q : Int → Mem → Prop}
    (hok : ∀ u d', pDays B n g 300 dS (rn Pb B n 0) = .ok d' → RDm u 0 d' → u 161 2 = 0 → u 161 16 = 0 → u 161 17 = -1 → u 161 10 = 0 → FMd h u → Q (d' 0 1) u)
    (hno : ∀ u e, pDays B n g 300 dS (rn Pb B n 0) = .error e → (∀ k, k < 448 → u 162 k = h 162 k) → u 161 2 = 9 → u 161 16 = e.1 → u 161 17 = (e.2 : Int) → u 161 10 = 0 → FMd h u → Q (-1) u) : F_X12_days h a Q := by
  have eB : (fun k => h 167 k) = B := funext hB
  unfold F_X12_days
  refine q_begins (most := 300) ha rfl (by omega) h10 hnq hn3 (fun h1 f1 e10 m1 => ⟨fun _ h3 e3 h4 e4 h5 e5 => ?_, fun z => absurd z (by decide)⟩)
  rw [eB] at m1
  have F5 : ∀ i k, ¬ (i = 161 ∧ 10 ≤ k ∧ k ≤ 23 ∧ k ≠ 16) → ¬ (i = 162 ∧ k = 1801) → i ≠ 168 → h5 i k = h i k := fun i k p1 p2 p3 => by rw [e5, mset_o (by omega), e4, mset_o (by omega), e3, mset_o p2, f1 i k (by omega) p3]
  have m5 : MS h5 B n (rn Pb B n 0) := m1.fr (fun i k p => by rw [e5, mset_o (by omega), e4, mset_o (by omega), e3, mset_o (by omega)])
  have c22 : h5 161 22 = 0 := by rw [e5, mset_k (by decide), e4, mset_at]
  have c23 : h5 161 23 = 0 := by rw [e5, mset_at]
  have c01 : h5 162 1801 = 0 := by rw [e5, mset_i _ (by omega), e4, mset_i _ (by omega), e3, mset_at]
  have c10 : h5 161 10 = 0 := by rw [e5, mset_k (by decide), e4, mset_k (by decide), e3, mset_i _ (by omega)]; exact e10
  have rd5 : RDw h5 dS := ⟨c22, c23, c01, fun i hi => absurd hi (by show ¬ (i < 0); omega), fun k hk => absurd hk (by show ¬ (k < 0); omega)⟩
  refine aw_rg (fun rg => ?_)
  have i163 : ∀ k, h5 163 k = h 163 k := fun k => F5 163 k (by omega) (by omega) (by omega)
  have gm5 : GMr h5 g := by
    refine ⟨?_, ?_, ?_, fun t ht => ?_, fun m hm => ?_, n8.1, n4.1, wl.1, wl.2⟩
    · rw [F5 162 0 (by omega) (by omega) (by omega), n8.2]; exact rx.1.1 0 (by omega) (by omega)
    · rw [F5 162 1 (by omega) (by omega) (by omega), n4.2]; exact rx.1.1 1 (by omega) (by omega)
    · rw [F5 162 2 (by omega) (by omega) (by omega)]; exact rx.1.1 2 (by omega) (by omega)
    · have e : h5 163 (0 + t) = c8 (g 11 t) := by rw [i163, Nat.zero_add]; exact rn'.1 t ht
      exact ⟨e, c8_nm (by rw [← e]; exact rg163 rg _)⟩
    · have e : h5 163 (8 + m) = c8 (g 12 m) := by rw [i163]; exact rn'.2 m hm
      exact ⟨e, c8_nm (by rw [← e]; exact rg163 rg _)⟩
  refine q_daysLoop (h0 := h5) 300 _ h5 dS (by omega) FDs.rf m5 gm5 rd5 dn_dS dv_dS dv_dS' (fun u d' hp fu e18 ru => ?_) (fun u e hp fu me => ?_)
  · obtain ⟨wd, pd, d00, d03⟩ := wfd_days n8.2 n4.2 hp
    obtain ⟨r22, r23, r01, _, rr⟩ := ru
    have n60 : dn d' ≤ 60 := by have := wd.2.2.2.2.1; unfold dn; omega
    unfold J_X12_days_77
    refine ⟨fun z => absurd e18.1 z, fun _ h15 e15 => q_cpDays (fun v v2 fv => ?_)⟩
    have v1 : ∀ i k, ¬ (i = 162 ∧ k = 9) → ¬ (i = 162 ∧ 80 ≤ k ∧ k < 440) → v i k = u i k := fun i k p1 p2 => by rw [fv i k p2, e15, mset_o p1]
    have v9 : v 162 9 = d' 0 2 := by rw [fv 162 9 (by omega), e15, mset_at, r01]
    have row : ∀ k, 80 ≤ k → k < 440 → v 162 k = u 162 (1792 + k) := fun k k1 k2 => by rw [v2 k k1 k2, e15, mset_k (by omega)]
    have v23 : v 161 23 = d' 0 1 := by rw [v1 161 23 (by omega) (by omega)]; exact r23
    rw [v23]
    unfold F_X12_taken
    intro x ex
    have x18 : x 161 18 = 0 := by rw [ex, mset_k (by omega), v1 161 18 (by omega) (by omega)]; exact e18.1
    rw [x18]
    refine ⟨fun _ => ?_, fun z => absurd (Int.le_refl 0) z⟩
    unfold F_X12_gives
    intro y ey
    have c162 : ∀ k, y 162 k = v 162 k := fun k => by rw [ey, mset_i _ (by omega), ex, mset_i _ (by omega)]
    refine hok y d' hp ⟨?_, fun k hk => ?_⟩ ?_ ?_ ?_ ?_ (fun i k p1 p2 p3 p4 => ?_)
    · rw [d00, if_neg (by decide)]
      show y 162 (0 + 9) = _
      rw [c162]; exact v9
    · obtain ⟨⟨w1, w2, w3, w4⟩, w5⟩ := rr k hk
      refine ⟨?_, fun q => ?_, ?_, fun q => ?_, ?_⟩
      · rw [c162, row _ (by omega) (by omega), show 1792 + (0 + (80 + 6 * k)) = 1872 + 6 * k by omega]; exact w1
      · rw [c162, row _ (by omega) (by omega), show 1792 + (0 + (80 + 6 * k + 1)) = 1872 + 6 * k + 1 by omega]; exact w2 q
      · rw [c162, row _ (by omega) (by omega), show 1792 + (0 + (80 + 6 * k + 2)) = 1872 + 6 * k + 2 by omega]; exact w3
      · rw [c162, row _ (by omega) (by omega), show 1792 + (0 + (80 + 6 * k + 4)) = 1872 + 6 * k + 4 by omega]
        refine w5 q.1 q.2 (fun ⟨i, hi, _⟩ => ?_)
        unfold dd at hi; omega
      · rw [c162, row _ (by omega) (by omega), show 1792 + (0 + (80 + 6 * k + 5)) = 1872 + 6 * k + 5 by omega]; exact w4
    · rw [ey, mset_at]
    · rw [ey, mset_k (by decide), ex, mset_at, v1 161 18 (by omega) (by omega)]; exact e18.1
    · rw [ey, mset_k (by decide), ex, mset_k (by decide), v1 161 17 (by omega) (by omega)]; exact e18.2
    · rw [ey, mset_k (by decide), ex, mset_k (by decide), v1 161 10 (by omega) (by omega), fu 161 10 (by omega) (by omega) (by omega)]; exact c10
    · rw [ey, mset_o (by omega), ex, mset_o (by omega), v1 i k (by omega) (by omega), fu i k (by omega) (by omega) p4]
      exact F5 i k (by omega) (by omega) p3
  · obtain ⟨z1, z2, z3⟩ := me
    unfold J_X12_days_77
    refine ⟨fun _ => ?_, fun z => absurd z (by omega)⟩
    unfold F_X12_taken
    intro x ex
    have x18 : x 161 18 = e.1 := by rw [ex, mset_k (by decide)]; exact z1
    rw [x18]
    refine ⟨fun z => absurd z (by omega), fun _ => ?_⟩
    unfold F_X12_refuse
    intro y ey
    have same : ∀ i k, ¬ (i = 161 ∧ (k = 2 ∨ (10 ≤ k ∧ k ≤ 23))) → ¬ (i = 162 ∧ 1792 ≤ k ∧ k < 2240) → i ≠ 168 → i ≠ 169 → y i k = h i k := fun i k p1 p2 p3 p4 => by
      rw [ey, mset_o (by omega), ex, mset_o (by omega), fu i k (by omega) p2 p4]
      exact F5 i k (by omega) (by omega) p3
    refine hno y e hp (fun k hk => same 162 k (by omega) (by omega) (by omega) (by omega)) ?_ ?_ ?_ ?_ (fun i k p1 p2 p3 p4 => same i k p1 (by omega) p3 p4)
    · rw [ey, mset_at]
    · rw [ey, mset_k (by decide), ex, mset_at]; exact z1
    · rw [ey, mset_k (by decide), ex, mset_k (by decide)]; exact z2
    · rw [ey, mset_k (by decide), ex, mset_k (by decide), fu 161 10 (by omega) (by omega) (by omega)]; exact c10
end MD6
