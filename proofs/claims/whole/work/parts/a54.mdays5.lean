section MD5
variable {h : Mem} {B : Nat → Int} {n s : Nat} {g : Gs} {d : Dy}
def FDs (h u : Mem) : Prop := ∀ i k, ¬ (i = 161 ∧ 12 ≤ k ∧ k ≤ 23 ∧ k ≠ 16) → ¬ (i = 162 ∧ 1792 ≤ k ∧ k < 2240) → i ≠ 169 → u i k = h i k
theorem FDs.rf : FDs h h := fun _ _ _ _ _ => rfl
theorem FDs.of {u : Mem} (f : FTf h u) : FDs h u := fun i k p _ _ => f i k (by omega)
theorem FDs.tr {h1 h2 : Mem} (a : FDs h h1) (b : FDs h1 h2) : FDs h h2 := fun i k p q r => (b i k p q r).trans (a i k p q r)
theorem GMr.ds {u : Mem} (r : GMr h g) (f : FDs h u) : GMr u g := r.fr (fun i k p => f i k (by omega) (by omega) (by omega))
/-- behind an order -/
def K147 (v1 v2 v3 v4 : Int) (Q : Int → Mem → Prop) (r37 : Int) (h36 : Mem) : Prop :=
  ((¬ (r37 = 0) → ((v4 = 0 → J_X12_dayStep_222 h36 v1 v2 v3 Q) ∧ (¬ (v4 = 0) → ((0 ≤ (h36 161 22) ∧ (h36 161 22) < 3) ∧ (∀ h39 : Mem, h39 = mset h36 169 (h36 161 22).toNat v2 → (InR ((h39 161 22) + 1) ∧ (∀ h41 : Mem, h41 = mset h39 161 22 ((h39 161 22) + 1) → J_X12_dayStep_222 h41 v1 v2 v3 Q))))))) ∧ (r37 = 0 → Q 0 h36))
theorem q_l147 {rN : Nat} {v1 v2 v3 v4 : Int} {Q : Int → Mem → Prop} (hv : v3 = (rN : Int)) (h1 : 1872 ≤ rN) (h2 : rN + 6 ≤ 3008) (hc : 0 ≤ h 162 1801 ∧ h 162 1801 ≤ 60)
    (hQ : ∀ u, (∀ i k, ¬ (i = 162 ∧ rN < k ∧ k < rN + 6) → ¬ (i = 162 ∧ k = 1801) → u i k = h i k) → (∀ k, rN < k → k < rN + 6 → u 162 k = 0) → u 162 1801 = h 162 1801 + 1 → F_X12_ahead u (fun h34 => F_X12_dayOrder h34 v1 v3 (K147 v1 v2 v3 v4 Q))) : L_X12_dayStep_147 h v1 v2 v3 v4 1 Q := by
  subst hv
  have key : ∀ (m i : Nat) (z : Int) (u : Mem), i + m = 6 → 1 ≤ i → z = (i : Int) → (∀ j k, ¬ (j = 162 ∧ rN < k ∧ k < rN + 6) → u j k = h j k) → (∀ k, rN < k → k < rN + i → u 162 k = 0) → L_X12_dayStep_147 u v1 v2 (rN : Int) v4 z Q := by
    intro m
    induction m with
    | zero =>
      intro i z u hi hi1 hz f r
      subst hz
      obtain rfl : i = 6 := by omega
      refine l_X12_dayStep_147 ?_
      unfold B_X12_dayStep_147
      have c : u 162 1801 = h 162 1801 := f 162 1801 (by omega)
      refine ⟨fun _ => ⟨⟨by omega, by omega⟩, fun h33 e33 => ?_⟩, fun z => absurd (by omega) z⟩
      exact hQ h33 (fun j k p1 p2 => by rw [e33, mset_o p2]; exact f j k p1) (fun k k1 k2 => by rw [e33, mset_k (by omega)]; exact r k k1 k2) (by rw [e33, mset_at, c])
    | succ m ih =>
      intro i z u hi hi1 hz f r
      subst hz
      refine l_X12_dayStep_147 ?_
      unfold B_X12_dayStep_147
      refine ⟨fun z => absurd z (by omega), fun _ => ⟨⟨by omega, by omega⟩, ⟨by omega, by omega⟩, fun h44 e44 => ⟨⟨by omega, by omega⟩, ?_⟩⟩⟩
      rw [show ((rN : Int) + (i : Int)).toNat = rN + i by omega] at e44
      refine ih (i + 1) _ h44 (by omega) (by omega) (by omega) (fun j k p => by rw [e44, mset_o (by omega)]; exact f j k p) (fun k k1 k2 => ?_)
      rw [e44]
      by_cases c : k = rN + i
      · rw [c, mset_at]
      · rw [mset_k c]; exact r k k1 (by omega)
  exact key 5 1 1 h (by omega) (by omega) rfl (fun _ _ _ => rfl) (fun k k1 k2 => absurd k2 (by omega))
theorem q_ord {k a1 v2 v3 v4 : Int} {Q : Int → Mem → Prop} (x : MS h B n s) (t : tke B n s ≠ 4) (gm : GMr h g) (rd : RDw h d) (p : DN d) (hk : (a1 = k ∧ 14 ≤ k ∧ k ≤ 18) ∨ (a1 = 19 ∧ k = 21) ∨ (a1 = 21 ∧ k = 23)) (h4 : v4 = if opn k = true then 1 else 0) (hop : opn k = true → d 0 3 < 3) (l30 : d 0 1 < 30) (hv2 : v2 = d 0 2) (hv3 : v3 = ((1872 + 6 * dn d : Nat) : Int))
    (hok : ∀ s1 e s2 u, pRest B n g k (nx B n s) = .ok (s1, e) → pSg B n 59 s1 = .ok s2 → FDs h u → MS u B n s2 → RDw u (oneE d k e) → Q 1 u)
    (hno : ∀ e u, ((pRest B n g k (nx B n s) = .error e) ∨ ∃ s1 e1, pRest B n g k (nx B n s) = .ok (s1, e1) ∧ pSg B n 59 s1 = .error e) → FDs h u → ME u e → Q 0 u) : J_X12_dayStep_117 h a1 v2 v3 v4 Q := by
  subst hv3 hv2
  have hst : stp k = true := stp_is.mpr (by omega)
  have rd' := rd
  obtain ⟨e22, e23, e01, e9, _⟩ := rd'
  have p' := p
  obtain ⟨p1, p2, p3, p4, p5, p6, p7⟩ := p'
  have nd : (dn d : Int) = d 0 2 := by unfold dn; omega
  have fin : ∀ (v : Mem) (s1 : Nat) (e : En), pRest B n g k (nx B n s) = .ok (s1, e) → FDs h v → MS v B n s1 → RDw v (oneE d k e) → J_X12_dayStep_222 v a1 (d 0 2) ((1872 + 6 * dn d : Nat) : Int) Q := fun v s1 e q3 fv mv rv => by
    unfold J_X12_dayStep_222
    refine ⟨fun _ => mx_wantSign mv (fun s2 u q4 f4 m4 => ⟨by unfold InZ; omega, hok s1 e s2 u q3 q4 (fv.tr (FDs.of f4)) m4 (rv.fr (f4 161 22 (by omega)) (f4 161 23 (by omega)) (f4 162 1801 (by omega)) (fun i => f4 169 i (by omega)) (fun j _ _ => f4 162 j (by omega)))⟩) (fun e4 u q4 f4 m4 => ⟨by unfold InZ; omega, hno e4 u (Or.inr ⟨s1, e, q3, q4⟩) (fv.tr (FDs.of f4)) m4⟩), fun z => absurd z (by omega)⟩
  unfold J_X12_dayStep_117
  refine ⟨fun _ => ⟨⟨by omega, by omega⟩, fun h24 e24 => ⟨⟨by omega, by omega⟩, fun h26 e26 => ?_⟩⟩, fun z => absurd z (by omega)⟩
  rw [Int.toNat_natCast] at e26
  have F26 : ∀ i j, ¬ (i = 161 ∧ j = 23) → ¬ (i = 162 ∧ j = 1872 + 6 * dn d) → h26 i j = h i j := fun i j q1 q2 => by rw [e26, mset_o q2, e24, mset_o q1]
  have c26 : h26 161 23 = d 0 1 + 1 := by rw [e26, mset_i _ (by omega), e24, mset_at, e23]
  have r26 : h26 162 (1872 + 6 * dn d) = a1 := by rw [e26, mset_at]
  have k26 : h26 162 1801 = d 0 2 := by rw [F26 _ _ (by omega) (by omega)]; exact e01
  refine q_l147 rfl (by omega) (by omega) (by rw [k26]; omega) (fun u1 f1 z1 c1 => ?_)
  have m1 : MS u1 B n s := x.fr (fun i j q => by rw [f1 i j (by omega) (by omega), F26 i j (by omega) (by omega)])
  refine mx_ahead m1 t (fun u2 f2 m2 => ?_)
  have gm2 : GMr u2 g := gm.fr (fun i j q => by rw [f2 i j (by omega), f1 i j (by omega) (by omega), F26 i j (by omega) (by omega)])
  have zz : ∀ j, 1872 + 6 * dn d < j → j < 1872 + 6 * dn d + 6 → u2 162 j = 0 := fun j j1 j2 => by rw [f2 162 j (by omega)]; exact z1 j j1 j2
  refine q_dayOrder (rN := 1872 + 6 * dn d) (k := k) m2 gm2 rfl (by omega) (by omega) hk ?_ (zz _ (by omega) (by omega)) (zz _ (by omega) (by omega)) (zz _ (by omega) (by omega)) (fun s1 e u3 q3 f3 m3 w3 => ?_) (fun e u3 q3 f3 m3 => ⟨fun z => absurd rfl z, fun _ => hno e u3 (Or.inl q3) (fun i j w1 w2 w3 => ?_) m3⟩)
  · rw [f2 162 _ (by omega), f1 162 _ (by omega) (by omega)]; exact r26
  · have F3 : FDs h u3 := fun i j w1 w2 w3 => by rw [f3 i j (by omega) (by omega), f2 i j (by omega), f1 i j (by omega) (by omega), F26 i j (by omega) (by omega)]
    have E22 : u3 161 22 = d 0 3 := by rw [f3 161 22 (by omega) (by omega), f2 161 22 (by omega), f1 161 22 (by omega) (by omega), F26 161 22 (by omega) (by omega)]; exact e22
    have E23 : u3 161 23 = d 0 1 + 1 := by rw [f3 161 23 (by omega) (by omega), f2 161 23 (by omega), f1 161 23 (by omega) (by omega)]; exact c26
    have E01 : u3 162 1801 = d 0 2 + 1 := by rw [f3 162 1801 (by omega) (by omega), f2 162 1801 (by omega), c1, k26]
    have E9 : ∀ i, u3 169 i = h 169 i := fun i => by rw [f3 169 i (by omega) (by omega), f2 169 i (by omega), f1 169 i (by omega) (by omega), F26 169 i (by omega) (by omega)]
    have Er : ∀ j, 1872 ≤ j → j < 1872 + 6 * dn d → u3 162 j = h 162 j := fun j j1 j2 => by rw [f3 162 j (by omega) (by omega), f2 162 j (by omega), f1 162 j (by omega) (by omega), F26 162 j (by omega) (by omega)]
    obtain ⟨n1, n2, n3, n4⟩ := en_op (rest_in (e := e) (s' := s1) hst q3)
    refine ⟨fun _ => ⟨fun y => ?_, fun y => ?_⟩, fun z => absurd z (by decide)⟩
    · have no : ¬ (opn k = true) := fun z => by rw [if_pos z] at h4; omega
      exact fin u3 s1 e q3 F3 m3 (rdw_one rd p hop n1 n2 n4 (by rw [one_3 hop, if_neg no]; exact E22) E23 E01 (fun i _ => E9 i) Er (fun z => absurd z no) w3)
    · have yo : opn k = true := by
        by_cases c : opn k = true
        · exact c
        · rw [if_neg c] at h4; exact absurd h4 y
      have lt := hop yo
      have dk : (u3 161 22).toNat = dd d := by rw [E22]; rfl
      refine ⟨⟨by omega, by omega⟩, fun h39 e39 => ?_⟩
      rw [dk] at e39
      have c39 : h39 161 22 = d 0 3 := by rw [e39, mset_i _ (by omega)]; exact E22
      refine ⟨⟨by omega, by omega⟩, fun h41 e41 => ?_⟩
      have f41 : ∀ i j, ¬ (i = 161 ∧ j = 22) → ¬ (i = 169 ∧ j = dd d) → h41 i j = u3 i j := fun i j w1 w2 => by rw [e41, mset_o w1, e39, mset_o w2]
      refine fin h41 s1 e q3 (fun i j w1 w2 w3 => by rw [f41 i j (by omega) (by omega)]; exact F3 i j w1 w2 w3) (m3.fr (fun i j q => f41 i j (by omega) (by omega))) (rdw_one rd p hop n1 n2 n4 ?_ ?_ ?_ (fun i hi => ?_) (fun j j1 j2 => ?_) (fun _ => ?_) (w3.fr (fun j j1 j2 => f41 162 j (by omega) (by omega))))
      · rw [one_3 hop, if_pos yo, e41, mset_at, c39]
      · rw [f41 161 23 (by omega) (by omega)]; exact E23
      · rw [f41 162 1801 (by omega) (by omega)]; exact E01
      · rw [f41 169 i (by omega) (by omega)]; exact E9 i
      · rw [f41 162 j (by omega) (by omega)]; exact Er j j1 j2
      · rw [e41, mset_i _ (by omega), e39, mset_at]
  · rw [f3 i j (by omega) (by omega), f2 i j (by omega), f1 i j (by omega) (by omega), F26 i j (by omega) (by omega)]
theorem q_ends {v2 v3 : Int} {Q : Int → Mem → Prop} (x : MS h B n s) (t : tke B n s ≠ 4) (rd : RDw h d) (p : DN d) (dv : DV d) (q : 0 < d 0 3) (hv2 : v2 = d 0 2) (hv3 : v3 = ((1872 + 6 * dn d : Nat) : Int))
    (hok : ∀ s2 u, pSg B n 59 (nx B n s) = .ok s2 → FDs h u → MS u B n s2 → RDw u (clsE d) → Q 1 u) (hno : ∀ e u, pSg B n 59 (nx B n s) = .error e → FDs h u → ME u e → Q 0 u) : J_X12_dayStep_117 h 20 v2 v3 0 Q := by
  subst hv3 hv2
  have rd' := rd
  obtain ⟨e22, e23, e01, e9, _⟩ := rd'
  have p' := p
  obtain ⟨p1, p2, p3, p4, p5, p6, p7⟩ := p'
  have nd : (dn d : Int) = d 0 2 := by unfold dn; omega
  have dn3 : (dd d : Int) = d 0 3 := by unfold dd; omega
  obtain ⟨o, ho, ol, _⟩ := dv.1 (dd d - 1) (by omega)
  unfold J_X12_dayStep_117
  refine ⟨fun z => absurd rfl z, fun _ => ⟨⟨by omega, by omega⟩, fun h28 e28 => ⟨⟨by omega, by omega⟩, fun h30 e30 => ?_⟩⟩⟩
  rw [Int.toNat_natCast] at e30
  have F30 : ∀ i j, ¬ (i = 162 ∧ j = 1872 + 6 * dn d) → h30 i j = h i j := fun i j q2 => by
    rw [e30, mset_o q2, e28]
    by_cases c : i = 161 ∧ j = 23
    · rw [c.1, c.2, mset_at]
    · rw [mset_o c]
  have r30 : h30 162 (1872 + 6 * dn d) = 20 := by rw [e30, mset_at]
  have k30 : h30 162 1801 = d 0 2 := by rw [F30 _ _ (by omega)]; exact e01
  refine q_l147 rfl (by omega) (by omega) (by rw [k30]; omega) (fun u1 f1 z1 c1 => ?_)
  have m1 : MS u1 B n s := x.fr (fun i j q => by rw [f1 i j (by omega) (by omega), F30 i j (by omega)])
  refine mx_ahead m1 t (fun u2 f2 m2 => ?_)
  have F2 : ∀ i j, ¬ (i = 161 ∧ 12 ≤ j ∧ j ≤ 18 ∧ j ≠ 16) → ¬ (i = 162 ∧ 1872 + 6 * dn d ≤ j ∧ j < 1872 + 6 * dn d + 6) → ¬ (i = 162 ∧ j = 1801) → u2 i j = h i j := fun i j w1 w2 w3 => by rw [f2 i j w1, f1 i j (by omega) w3, F30 i j (by omega)]
  have zz : ∀ j, 1872 + 6 * dn d < j → j < 1872 + 6 * dn d + 6 → u2 162 j = 0 := fun j j1 j2 => by rw [f2 162 j (by omega)]; exact z1 j j1 j2
  have r2 : u2 162 (1872 + 6 * dn d) = 20 := by rw [f2 162 _ (by omega), f1 162 _ (by omega) (by omega)]; exact r30
  have E22 : u2 161 22 = d 0 3 := by rw [F2 161 22 (by omega) (by omega) (by omega)]; exact e22
  have E01 : u2 162 1801 = d 0 2 + 1 := by rw [f2 162 1801 (by omega), c1, k30]
  unfold F_X12_dayOrder
  refine ⟨fun z => absurd z (by decide), fun z => absurd z (by decide), fun z => absurd z (by decide), fun z => absurd z (by decide), fun z => absurd z (by decide), fun z => absurd z (by decide), fun _ => ⟨fun _ => ⟨fun _ => ?_, fun z => absurd rfl z⟩, fun z => absurd z (by decide)⟩⟩
  unfold J_X12_dayStep_222
  refine ⟨fun z => absurd rfl z, fun _ => ⟨⟨by omega, by omega⟩, fun h49 e49 => ?_⟩⟩
  have c49 : h49 161 22 = ((dd d - 1 : Nat) : Int) := by rw [e49, mset_at, E22]; omega
  have o49 : h49 169 (dd d - 1) = (o : Int) := by rw [e49, mset_i _ (by omega), F2 169 _ (by omega) (by omega) (by omega), e9 _ (by omega)]; exact ho
  rw [c49, Int.toNat_natCast, o49]
  refine ⟨⟨by omega, by omega⟩, ⟨by omega, by omega⟩, ⟨by omega, by omega⟩, fun h54 e54 => ?_⟩
  rw [show (((1872 + 6 * dn d : Nat) : Int) + 4).toNat = 1872 + 6 * dn d + 4 by omega] at e54
  have c54 : h54 161 22 = ((dd d - 1 : Nat) : Int) := by rw [e54, mset_i _ (by omega)]; exact c49
  have o54 : h54 169 (dd d - 1) = (o : Int) := by rw [e54, mset_i _ (by omega)]; exact o49
  rw [c54, Int.toNat_natCast, o54]
  refine ⟨⟨by omega, by omega⟩, ⟨by omega, by omega⟩, ⟨by omega, by omega⟩, ⟨by omega, by omega⟩, ⟨by omega, by omega⟩, fun h61 e61 => ?_⟩
  rw [show (1872 + 6 * (o : Int) + 4).toNat = 1872 + 6 * o + 4 by omega] at e61
  have f61 : ∀ i j, ¬ (i = 161 ∧ j = 22) → ¬ (i = 162 ∧ j = 1872 + 6 * dn d + 4) → ¬ (i = 162 ∧ j = 1872 + 6 * o + 4) → h61 i j = u2 i j := fun i j w1 w2 w3 => by rw [e61, mset_o w3, e54, mset_o w2, e49, mset_o w1]
  have m61 : MS h61 B n (nx B n s) := m2.fr (fun i j q => f61 i j (by omega) (by omega) (by omega))
  have F61 : FDs h h61 := fun i j w1 w2 w3 => by rw [f61 i j (by omega) (by omega) (by omega), F2 i j (by omega) (by omega) (by omega)]
  have rd61 : RDw h61 (clsE d) := by
    refine rdw_cls rd p dv (by omega) ho ol ?_ ?_ ?_ (fun i => ?_) (fun j j1 j2 j3 => ?_) ?_ ⟨?_, fun _ => ?_, ?_, ?_⟩ ?_
    · rw [e61, mset_i _ (by omega), c54]; omega
    · rw [f61 161 23 (by omega) (by omega) (by omega), F2 161 23 (by omega) (by omega) (by omega)]; exact e23
    · rw [f61 162 1801 (by omega) (by omega) (by omega)]; exact E01
    · rw [f61 169 i (by omega) (by omega) (by omega), F2 169 i (by omega) (by omega) (by omega)]
    · rw [f61 162 j (by omega) (by omega) (by omega), F2 162 j (by omega) (by omega) (by omega)]
    · rw [e61, mset_at]
    · rw [f61 162 _ (by omega) (by omega) (by omega), r2]; rfl
    · rw [f61 162 _ (by omega) (by omega) (by omega)]; exact zz _ (by omega) (by omega)
    · rw [f61 162 _ (by omega) (by omega) (by omega)]; exact zz _ (by omega) (by omega)
    · rw [f61 162 _ (by omega) (by omega) (by omega)]; exact zz _ (by omega) (by omega)
    · rw [e61, mset_k (by omega), e54, mset_at]
  exact mx_wantSign m61 (fun s2 u q4 f4 m4 => ⟨by unfold InZ; omega, hok s2 u q4 (F61.tr (FDs.of f4)) m4 (rd61.fr (f4 161 22 (by omega)) (f4 161 23 (by omega)) (f4 162 1801 (by omega)) (fun i => f4 169 i (by omega)) (fun j _ _ => f4 162 j (by omega)))⟩) (fun e4 u q4 f4 m4 => ⟨by unfold InZ; omega, hno e4 u q4 (F61.tr (FDs.of f4)) m4⟩)
theorem q_dayStep {Q : Int → Mem → Prop} (x : MS h B n s) (gm : GMr h g) (rd : RDw h d) (p : DN d) (dv : DV d)
    (hok : ∀ s1 d' s2 u, pStep B n g d s = .ok (s1, d') → pSg B n 59 s1 = .ok s2 → FDs h u → MS u B n s2 → RDw u d' → Q 1 u)
    (hno : ∀ e u, (pStep B n g d s = .error e ∨ ∃ s1 d', pStep B n g d s = .ok (s1, d') ∧ pSg B n 59 s1 = .error e) → FDs h u → ME u e → Q 0 u) : F_X12_dayStep h Q := by
  have rd' := rd
  obtain ⟨e22, e23, e01, e9, _⟩ := rd'
  have p' := p
  obtain ⟨p1, p2, p3, p4, p5, p6, p7⟩ := p'
  have nd : (dn d : Int) = d 0 2 := by unfold dn; omega
  have w14 : wk B n s = 14 ↔ xk B n s = 14 := wkx (k := 14) (by omega) rfl
  have w15 : wk B n s = 15 ↔ xk B n s = 15 := wkx (k := 15) (by omega) rfl
  have w16 : wk B n s = 16 ↔ xk B n s = 16 := wkx (k := 16) (by omega) rfl
  have w17 : wk B n s = 17 ↔ xk B n s = 17 := wkx (k := 17) (by omega) rfl
  have w18 : wk B n s = 18 ↔ xk B n s = 18 := wkx (k := 18) (by omega) rfl
  have w19 : wk B n s = 19 ↔ xk B n s = 21 := wkx (k := 21) (by omega) rfl
  have w20 : wk B n s = 20 ↔ xk B n s = 22 := wkx (k := 22) (by omega) rfl
  have w21 : wk B n s = 21 ↔ xk B n s = 23 := wkx (k := 23) (by omega) rfl
  have oi := opn_is (k := xk B n s)
  have si := stp_is (k := xk B n s)
  have E : pStep B n g d s = pStep B n g d s := rfl
  conv at E => rhs; unfold pStep
  have fl : ∀ w : Int, 0 < w → ¬ (xk B n s = 22 ∧ 0 < d 0 3) → pLook B n d s = flt B n s w → F_X12_fails h w (fun r8 h7 => InZ r8 ∧ Q r8 h7) := fun w hw c ew => by
    refine mx_failsZ x hw (fun u e ee f m => hno e u (Or.inl ?_) (FDs.of f) m)
    have e2 : pLook B n d s = .error e := ew.trans ee
    rw [E, if_neg c, e2, bnd_n]
  have bad : ¬ (xk B n s = 22 ∧ 0 < d 0 3) → ¬ (stp (xk B n s) = true) → F_X12_fails h 2 (fun r8 h7 => InZ r8 ∧ Q r8 h7) := fun c ns => fl 2 (by decide) c (by unfold pLook; rw [if_pos (by simpa using ns)])
  unfold F_X12_dayStep
  refine q_inWords x.1 ⟨⟨by omega, by omega⟩, ⟨by omega, by omega⟩, fun x6 e6 => ?_⟩
  have hx6 : x6 = ((1872 + 6 * dn d : Nat) : Int) := by omega
  have j75 : ∀ v4 : Int, ((wk B n s = xk B n s ∧ 14 ≤ xk B n s ∧ xk B n s ≤ 18) ∨ (wk B n s = 19 ∧ xk B n s = 21) ∨ (wk B n s = 21 ∧ xk B n s = 23)) → v4 = (if opn (xk B n s) = true then 1 else 0) → J_X12_dayStep_75 h (wk B n s) (h 162 1801) x6 v4 Q := fun v4 hk h4 => by
    have st : stp (xk B n s) = true := si.mpr (by omega)
    have c : ¬ (xk B n s = 22 ∧ 0 < d 0 3) := by omega
    have t1 : tke B n s = 1 := (xk_kw (by omega)).1
    have ns : ¬ (stp (xk B n s) = false) := by rw [st]; decide
    unfold J_X12_dayStep_75
    refine ⟨fun z => absurd z (by omega), fun _ => ⟨fun z => ?_, fun z => fl 6 (by decide) c ?_⟩⟩
    · have l30 : d 0 1 < 30 := by omega
      have ord : (opn (xk B n s) = true → d 0 3 < 3) → J_X12_dayStep_117 h (wk B n s) (h 162 1801) x6 v4 Q := fun hop => by
        have lk : pLook B n d s = .ok (nx B n s) := by
          unfold pLook
          rw [if_neg ns, if_neg (show ¬ (30 ≤ d 0 1) by omega), if_neg (fun z => by have := hop z.1; omega)]
        rw [if_neg c, lk, bnd_y] at E
        refine q_ord x (by omega) gm rd p hk h4 hop l30 e01 hx6 (fun s1 e s2 u q1 q2 f m r => hok s1 _ s2 u ?_ q2 f m r) (fun e u q f m => hno e u ?_ f m)
        · rw [E, q1, bnd_y]
        · rcases q with q1 | ⟨s1, e1, q1, q2⟩
          · left; rw [E, q1, bnd_n]
          · right; exact ⟨s1, _, by rw [E, q1, bnd_y], q2⟩
      unfold J_X12_dayStep_97
      refine ⟨fun y => ord (fun z2 => by rw [if_pos z2] at h4; omega), fun y => ⟨fun z2 => ord (fun _ => by omega), fun z2 => fl 7 (by decide) c ?_⟩⟩
      unfold pLook
      have yo : opn (xk B n s) = true := by
        by_cases q : opn (xk B n s) = true
        · exact q
        · rw [if_neg q] at h4; exact absurd h4 y
      rw [if_neg ns, if_neg (show ¬ (30 ≤ d 0 1) by omega), if_pos ⟨yo, by omega⟩]
    · unfold pLook
      rw [if_neg ns, if_pos (by omega)]
  have j37 : (wk B n s = 18 ∨ wk B n s = 19) → J_X12_dayStep_37 h (wk B n s) (h 162 1801) x6 Q := fun q => by
    unfold J_X12_dayStep_37
    exact ⟨fun z => absurd z (by omega), fun _ => ⟨fun z => absurd z (by omega), fun _ => ⟨fun _ => j75 1 (by omega) (by rw [if_pos (oi.mpr (by omega))]), fun z => absurd z (by omega)⟩⟩⟩
  refine ⟨fun q => j37 (Or.inl q), fun q18 => ⟨fun q19 => ⟨fun z => bad (by omega) (fun y => by have := si.mp y; omega), fun z1 => ⟨fun z => bad (by omega) (fun y => by have := si.mp y; omega), fun z2 => ⟨fun q20 => ?_, fun q20 => ⟨fun z => ?_, fun z => bad (by omega) (fun y => by have := si.mp y; omega)⟩⟩⟩⟩, fun q => j37 (Or.inr q)⟩⟩
  · exact j75 0 (by omega) (by rw [if_neg (fun y => by have := oi.mp y; omega)])
  · have q22 := w20.mp q20
    have c : xk B n s = 22 ∧ 0 < d 0 3 := ⟨q22, by omega⟩
    have t1 : tke B n s = 1 := (xk_kw (by omega)).1
    rw [if_pos c] at E
    have l22 : d 0 2 ≤ 60 := by omega
    rw [q20]
    unfold J_X12_dayStep_75
    refine ⟨fun _ => ?_, fun z => absurd rfl z⟩
    unfold J_X12_dayStep_97
    refine ⟨fun _ => ?_, fun z => absurd rfl z⟩
    exact q_ends x (by omega) rd p dv c.2 e01 hx6 (fun s2 u q f m r => hok _ _ s2 u E q f m r) (fun e u q f m => hno e u (Or.inr ⟨_, _, E, q⟩) f m)
end MD5
