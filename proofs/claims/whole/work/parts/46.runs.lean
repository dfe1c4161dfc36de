/-! copies of a glen; many hours -/
theorem mcpy_at {h : Mem} {a b n j : Nat} (hj : j < n) : mcpy h a 0 b 0 n b j = h a j := by
  unfold mcpy
  rw [if_pos ⟨rfl, by omega, by omega⟩, Nat.zero_add, Nat.sub_zero]
theorem Fr.cp {lo hi a b p q n : Nat} {h h' : Mem} (f : Fr lo hi h h') (h1 : lo ≤ b) (h2 : b < hi) : Fr lo hi h (mcpy h' a p b q n) := fun i hi' j => (mcpy_i j (by omega)).trans (f i hi' j)
theorem s_copyPlaces {h : Mem} {T S : Nat} {Q : Mem → Prop} (hd : T + 9 ≤ S ∨ S + 9 ≤ T) (hQ : ∀ u, (∀ t, t < 8 → u (T + 5) t = h (S + 5) t ∧ u (T + 6) t = h (S + 6) t ∧ u (T + 7) t = h (S + 7) t ∧ u (T + 8) t = h (S + 8) t) → Fr (T + 5) (T + 9) h u → Q u) : F_X9_copyPlacesFrom h T S Q := by
  unfold F_X9_copyPlacesFrom
  intro h1 e1 h2 e2 h3 e3 h4 e4
  refine hQ h4 (fun t ht => ?_) ?_
  · refine ⟨?_, ?_, ?_, ?_⟩
    · rw [e4, mcpy_i _ (by omega), e3, mcpy_i _ (by omega), e2, mcpy_i _ (by omega), e1, mcpy_at ht]
    · rw [e4, mcpy_i _ (by omega), e3, mcpy_i _ (by omega), e2, mcpy_at ht, e1, mcpy_i _ (by omega)]
    · rw [e4, mcpy_i _ (by omega), e3, mcpy_at ht, e2, mcpy_i _ (by omega), e1, mcpy_i _ (by omega)]
    · rw [e4, mcpy_at ht, e3, mcpy_i _ (by omega), e2, mcpy_i _ (by omega), e1, mcpy_i _ (by omega)]
  · rw [e4, e3, e2, e1]
    exact (((Fr.rf.cp (by omega) (by omega)).cp (by omega) (by omega)).cp (by omega) (by omega)).cp (by omega) (by omega)
theorem s_copyT {h : Mem} {T S : Nat} {g : Gs} {Q : Mem → Prop} (hd : T + 9 ≤ S ∨ S + 9 ≤ T) (hR : RT h S g) (n8 : gn g ≤ 8) (hQ : ∀ u, RT u T g → Fr T (T + 9) h u → Q u) : F_X9_copyFrom h T S Q := by
  unfold F_X9_copyFrom
  intro h1 e1 h2 e2 h3 e3 h4 e4 h5 e5
  refine s_copyPlaces hd (fun u hu fu => hQ u ⟨?_, fun t ht => ?_⟩ ?_)
  · rw [fu T (by omega), e5, mcpy_i _ (by omega), e4, mcpy_i _ (by omega), e3, mcpy_i _ (by omega), e2, mcpy_i _ (by omega), e1, mset_at]
    exact hR.1
  · obtain ⟨a1, a2, a3, a4, a5, a6, a7, a8⟩ := hR.2 t ht
    have ht8 : t < 8 := by omega
    obtain ⟨b5, b6, b7, b8⟩ := hu t ht8
    refine ⟨?_, ?_, ?_, ?_, ?_, ?_, ?_, ?_⟩
    · rw [fu (T + 1) (by omega), e5, mcpy_i _ (by omega), e4, mcpy_i _ (by omega), e3, mcpy_i _ (by omega), e2, mcpy_at ht8, e1, mset_i _ (by omega), a1]
    · rw [fu (T + 2) (by omega), e5, mcpy_i _ (by omega), e4, mcpy_i _ (by omega), e3, mcpy_at ht8, e2, mcpy_i _ (by omega), e1, mset_i _ (by omega), a2]
    · rw [fu (T + 3) (by omega), e5, mcpy_i _ (by omega), e4, mcpy_at ht8, e3, mcpy_i _ (by omega), e2, mcpy_i _ (by omega), e1, mset_i _ (by omega), a3]
    · rw [fu (T + 4) (by omega), e5, mcpy_at ht8, e4, mcpy_i _ (by omega), e3, mcpy_i _ (by omega), e2, mcpy_i _ (by omega), e1, mset_i _ (by omega), a4]
    · rw [b5, e5, mcpy_i _ (by omega), e4, mcpy_i _ (by omega), e3, mcpy_i _ (by omega), e2, mcpy_i _ (by omega), e1, mset_i _ (by omega), a5]
    · rw [b6, e5, mcpy_i _ (by omega), e4, mcpy_i _ (by omega), e3, mcpy_i _ (by omega), e2, mcpy_i _ (by omega), e1, mset_i _ (by omega), a6]
    · rw [b7, e5, mcpy_i _ (by omega), e4, mcpy_i _ (by omega), e3, mcpy_i _ (by omega), e2, mcpy_i _ (by omega), e1, mset_i _ (by omega), a7]
    · rw [b8, e5, mcpy_i _ (by omega), e4, mcpy_i _ (by omega), e3, mcpy_i _ (by omega), e2, mcpy_i _ (by omega), e1, mset_i _ (by omega), a8]
  · refine Fr.tr ?_ (fu.wd (by omega) (by omega))
    rw [e5, e4, e3, e2, e1]
    exact ((((Fr.rf.st (by omega) (by omega)).cp (by omega) (by omega)).cp (by omega) (by omega)).cp (by omega) (by omega)).cp (by omega) (by omega)
theorem s_copyM {h : Mem} {T S : Nat} {g : Gs} {Q : Mem → Prop} (hd : T + 5 ≤ S ∨ S + 5 ≤ T) (hR : RM h S g) (n4 : gm g ≤ 4) (hQ : ∀ u, RM u T g → Fr T (T + 5) h u → Q u) : F_X7_copyFrom h T S Q := by
  unfold F_X7_copyFrom F_X7_copyGroundFrom
  intro h1 e1 h2 e2 h3 e3 h4 e4 h5 e5
  refine hQ h5 ⟨?_, fun t ht => ?_⟩ ?_
  · rw [e5, mcpy_i _ (by omega), e4, mcpy_i _ (by omega), e3, mcpy_i _ (by omega), e2, mcpy_i _ (by omega), e1, mset_at]
    exact hR.1
  · obtain ⟨a1, a2, a3, a4⟩ := hR.2 t ht
    have ht4 : t < 4 := by omega
    refine ⟨?_, ?_, ?_, ?_⟩
    · rw [e5, mcpy_i _ (by omega), e4, mcpy_i _ (by omega), e3, mcpy_i _ (by omega), e2, mcpy_at ht4, e1, mset_i _ (by omega), a1]
    · rw [e5, mcpy_i _ (by omega), e4, mcpy_i _ (by omega), e3, mcpy_at ht4, e2, mcpy_i _ (by omega), e1, mset_i _ (by omega), a2]
    · rw [e5, mcpy_i _ (by omega), e4, mcpy_at ht4, e3, mcpy_i _ (by omega), e2, mcpy_i _ (by omega), e1, mset_i _ (by omega), a3]
    · rw [e5, mcpy_at ht4, e4, mcpy_i _ (by omega), e3, mcpy_i _ (by omega), e2, mcpy_i _ (by omega), e1, mset_i _ (by omega), a4]
  · rw [e5, e4, e3, e2, e1]
    exact ((((Fr.rf.st (by omega) (by omega)).cp (by omega) (by omega)).cp (by omega) (by omega)).cp (by omega) (by omega)).cp (by omega) (by omega)
theorem s_copyG {h : Mem} {o p : Nat} {g : Gs} {Q : Mem → Prop} (hd : o + 15 ≤ p ∨ p + 15 ≤ o) (hR : RC h p g) (n8 : gn g ≤ 8) (n4 : gm g ≤ 4) (hQ : ∀ u, RC u o g → Fr o (o + 15) h u → Q u) : F_X4_copyFrom h o p Q := by
  obtain ⟨⟨⟨r0, r1, r2, r3, r4, r6⟩, rT, rM⟩, r5⟩ := hR
  unfold F_X4_copyFrom
  intro h1 e1 h2 e2 h3 e3 h4 e4 h5 e5 h6 e6 h7 e7
  have f7 : Fr o (o + 1) h h7 := by
    rw [e7, e6, e5, e4, e3, e2, e1]
    exact ((((((Fr.rf.st (by omega) (by omega)).st (by omega) (by omega)).st (by omega) (by omega)).st (by omega) (by omega)).st (by omega) (by omega)).st (by omega) (by omega)).st (by omega) (by omega)
  have c : h7 o 0 = g 0 2 ∧ h7 o 1 = g 0 3 ∧ h7 o 2 = g 0 4 ∧ h7 o 3 = g 0 6 ∧ h7 o 4 = g 0 7 ∧ h7 o 6 = g 0 8 ∧ h7 o 5 = g 0 5 := by
    have hp : ∀ k, ∀ u, Fr o (o + 1) h u → u p k = h p k := fun k u f => f p (by omega) k
    have f1 : Fr o (o + 1) h h1 := by rw [e1]; exact Fr.rf.st (by omega) (by omega)
    have f2 : Fr o (o + 1) h h2 := by rw [e2]; exact f1.st (by omega) (by omega)
    have f3 : Fr o (o + 1) h h3 := by rw [e3]; exact f2.st (by omega) (by omega)
    have f4 : Fr o (o + 1) h h4 := by rw [e4]; exact f3.st (by omega) (by omega)
    have f5 : Fr o (o + 1) h h5 := by rw [e5]; exact f4.st (by omega) (by omega)
    have f6 : Fr o (o + 1) h h6 := by rw [e6]; exact f5.st (by omega) (by omega)
    rw [hp _ _ f1] at e2
    rw [hp _ _ f2] at e3
    rw [hp _ _ f3] at e4
    rw [hp _ _ f4] at e5
    rw [hp _ _ f5] at e6
    rw [hp _ _ f6] at e7
    rw [e7, e6, e5, e4, e3, e2, e1, r0, r1, r2, r3, r4, r5, r6]
    refine ⟨?_, ?_, ?_, ?_, ?_, ?_, ?_⟩ <;> simp [mset]
  obtain ⟨c0, c1, c2, c3, c4, c6, c5⟩ := c
  refine s_copyT (by omega) (rT.fr f7 (by omega)) n8 (fun u ru fu => s_copyM (by omega) ((rM.fr f7 (by omega)).fr fu (by omega)) n4 (fun v rv fv => hQ v ⟨⟨?_, ru.fr fv (by omega), rv⟩, ?_⟩ ?_))
  · rw [fv o (by omega), fu o (by omega), fv o (by omega), fu o (by omega), fv o (by omega), fu o (by omega), fv o (by omega), fu o (by omega), fv o (by omega), fu o (by omega), fv o (by omega), fu o (by omega)]
    exact ⟨c0, c1, c2, c3, c4, c6⟩
  · rw [fv o (by omega), fu o (by omega)]; exact c5
  · exact ((f7.wd (by omega) (by omega)).tr (fu.wd (by omega) (by omega))).tr (fv.wd (by omega) (by omega))
/-- how many turns there are in k hours -/
def turnsN : Nat → Gs → Int
  | 0, _ => 0
  | k + 1, g => tn g + turnsN k (pass g)
theorem turns_in : ∀ (k : Nat) (g : Gs), 0 ≤ turnsN k g ∧ turnsN k g ≤ k := by
  intro k
  induction k with
  | zero => intro g; exact ⟨Int.le_refl _, Int.le_refl _⟩
  | succ k ih =>
    intro g
    have := ih (pass g)
    have t : tn g = 0 ∨ tn g = 1 := by unfold tn; split <;> simp
    unfold turnsN
    omega
theorem pass_8 {g : Gs} : pass g 0 8 = g 0 8 + tn g := by
  have a : pass g 0 8 = moveG (hourG g) 0 8 := by unfold pass growG takeG; rw [upTo0, upTo0]
  rw [a, move_8, tn_hour, hour_n (by omega)]
  unfold tn
  split
  · rw [if_pos rfl]
  · rw [if_neg (by omega)]; omega
theorem passN_8 : ∀ (k : Nat) (g : Gs), passN k g 0 8 = g 0 8 + turnsN k g := by
  intro k
  induction k with
  | zero => intro g; exact (Int.add_zero _).symm
  | succ k ih =>
    intro g
    show passN k (pass g) 0 8 = g 0 8 + (tn g + turnsN k (pass g))
    rw [ih, pass_8]
    omega
theorem WF.passN {B : Int} : ∀ (k : Nat) {g : Gs}, WF B g → WF (B + k) (passN k g) := by
  intro k
  induction k generalizing B with
  | zero => intro g w; exact (Int.add_zero B).symm ▸ w
  | succ k ih =>
    intro g w
    have := ih w.pass
    have e : B + 1 + (k : Int) = B + ((k + 1 : Nat) : Int) := by omega
    rw [e] at this
    exact this
theorem s_passHours {h : Mem} {o k : Nat} {x : Int} {g : Gs} {B : Int} {Q : Int → Mem → Prop} (hx : x = (k : Int)) (hl : lay o = (0, 4)) (hR : RC h o g) (hW : WF B g) (hB : B + k ≤ 800000) (hQ : ∀ u, RC u o (passN k g) → Fr o (o + 15) h u → Q (turnsN k g) u) : F_X4_passHours h o x Q := by
  subst hx
  have ws0 := hW.1
  unfold WFs at ws0
  have key : ∀ (m i : Nat) (y : Int) (u : Mem) (g1 : Gs) (B1 : Int), y = (i : Int) → i + m = k → RC u o g1 → WF B1 g1 → B1 + m ≤ 800000 → passN m g1 = passN k g → Fr o (o + 15) h u → L_X4_passHours_7 u o (k : Int) (g 0 8) y Q := by
    intro m
    induction m with
    | zero =>
      intro i y u g1 B1 hy hi r w hb hp f
      subst hy
      refine l_X4_passHours_7 hl ?_
      unfold B_X4_passHours_7
      have e8 : u o 6 = g 0 8 + turnsN k g := by rw [r.1.1.2.2.2.2.2, ← passN_8, ← hp]; rfl
      have ti := turns_in k g
      have ws := hW.1
      unfold WFs at ws
      rw [e8]
      refine ⟨fun _ => ⟨⟨by omega, by omega⟩, ?_⟩, fun c => absurd (by omega) c⟩
      rw [show g 0 8 + turnsN k g - g 0 8 = turnsN k g by omega]
      refine hQ u ?_ f
      rw [← hp]
      exact r
    | succ m ih =>
      intro i y u g1 B1 hy hi r w hb hp f
      subst hy
      refine l_X4_passHours_7 hl ?_
      unfold B_X4_passHours_7
      refine ⟨fun c => absurd c (by omega), fun c => s_passHour hl r w (by omega) (fun v rv fv => ⟨⟨by omega, by omega⟩, ?_⟩)⟩
      exact ih (i + 1) ((i : Int) + 1) v (pass g1) (B1 + 1) (by omega) (by omega) rv w.pass (by omega) hp (f.tr fv)
  unfold F_X4_passHours
  rw [hR.1.1.2.2.2.2.2]
  exact key k 0 0 h g B rfl (by omega) hR hW hB rfl Fr.rf
theorem q_hoursGo {h : Mem} {k : Nat} {x : Int} {g : Gs} {B : Int} {Q : Int → Mem → Prop} (hx : x = (k : Int)) (hR : RXh h g) (hW : WF B g) (hB : B + k ≤ 800000) (hB0 : 0 ≤ B) (hQ : ∀ u, RXh u (passN k g) → FMh h u → Q (turnsN k g) u) : F_X12_hoursGo h x Q := by
  subst hx
  have key : ∀ (m i : Nat) (y z : Int) (u : Mem) (g1 : Gs) (B1 : Int), y = (i : Int) → i + m = k → RXh u g1 → WF B1 g1 → B1 + m ≤ 800000 → passN m g1 = passN k g → z + turnsN m g1 = turnsN k g → 0 ≤ z → z ≤ i → FMh h u → L_X12_hoursGo_4 u (k : Int) z y Q := by
    intro m
    induction m with
    | zero =>
      intro i y z u g1 B1 hy hi r w hb hp hz z0 z1 f
      subst hy
      refine l_X12_hoursGo_4 ?_
      unfold B_X12_hoursGo_4
      refine ⟨fun _ => ?_, fun c => absurd (by omega) c⟩
      have : z = turnsN k g := by rw [← hz]; exact (Int.add_zero z).symm
      rw [this]
      refine hQ u ?_ f
      rw [← hp]
      exact r
    | succ m ih =>
      intro i y z u g1 B1 hy hi r w hb hp hz z0 z1 f
      subst hy
      refine l_X12_hoursGo_4 ?_
      unfold B_X12_hoursGo_4
      have e : turnsN (m + 1) g1 = tn g1 + turnsN m (pass g1) := rfl
      refine ⟨fun c => absurd c (by omega), fun c => q_hour r w (by omega) (fun v rv fv => ⟨fun c2 => ⟨⟨by omega, by omega⟩, ⟨by omega, by omega⟩, ?_⟩, fun c2 => ⟨⟨by omega, by omega⟩, ⟨by omega, by omega⟩, ?_⟩⟩)⟩
      · exact ih (i + 1) ((i : Int) + 1) z v (pass g1) (B1 + 1) (by omega) (by omega) rv w.pass (by omega) hp (by omega) (by omega) (by omega) (f.tr fv)
      · have t1 : tn g1 = 1 := by
          unfold tn at c2 ⊢
          split
          · rfl
          · rename_i q; rw [if_neg q] at c2; exact absurd rfl c2
        exact ih (i + 1) ((i : Int) + 1) (z + 1) v (pass g1) (B1 + 1) (by omega) (by omega) rv w.pass (by omega) hp (by omega) (by omega) (by omega) (f.tr fv)
  have ws := hW.1
  unfold WFs at ws
  exact key k 0 0 0 h g B rfl (by omega) hR hW hB rfl (Int.zero_add _) (by omega) (by omega) FMh.rf
