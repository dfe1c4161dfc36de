/-! game: x's turns -/
theorem s_goBackG {h : Mem} {o p : Nat} {g g' : Gs} {Q : Mem → Prop} (hd : o + 15 ≤ p ∨ p + 15 ≤ o) (s : SameF g g') (ru : RC h o g') (r12 : RC h p g) (nm : gn g ≤ 8 ∧ gm g ≤ 4) (hQ : ∀ v, RC v o g → Fr o (o + 15) h v → Q v) : F_X4_goBackTo h o p Q := by
  obtain ⟨⟨⟨a0, a1, a2, -, -, -⟩, aT, aM⟩, -⟩ := ru
  obtain ⟨⟨⟨-, -, -, b3, b4, b6⟩, bT, bM⟩, b5⟩ := r12
  have n1 : gn g' = gn g := by unfold gn; rw [s.1 0 (by omega)]
  have n2 : gm g' = gm g := by unfold gm; rw [s.1 1 (by omega)]
  unfold F_X4_goBackTo F_X7_copyGroundFrom
  intro h1 e1 h2 e2 h3 e3 h4 e4
  have hp : ∀ k, ∀ u, Fr o (o + 1) h u → u p k = h p k := fun k u f => f p (by omega) k
  have f1 : Fr o (o + 1) h h1 := by rw [e1]; exact Fr.rf.st (by omega) (by omega)
  have f2 : Fr o (o + 1) h h2 := by rw [e2]; exact f1.st (by omega) (by omega)
  have f3 : Fr o (o + 1) h h3 := by rw [e3]; exact f2.st (by omega) (by omega)
  have f4 : Fr o (o + 1) h h4 := by rw [e4]; exact f3.st (by omega) (by omega)
  rw [hp _ _ f1] at e2
  rw [hp _ _ f2] at e3
  rw [hp _ _ f3] at e4
  have c : h4 o 0 = g 0 2 ∧ h4 o 1 = g 0 3 ∧ h4 o 2 = g 0 4 ∧ h4 o 3 = g 0 6 ∧ h4 o 4 = g 0 7 ∧ h4 o 6 = g 0 8 ∧ h4 o 5 = g 0 5 := by
    rw [e4, e3, e2, e1, b3, b4, b5, b6, ← s.1 2 (by omega), ← s.1 3 (by omega), ← s.1 4 (by omega), ← a0, ← a1, ← a2]
    refine ⟨?_, ?_, ?_, ?_, ?_, ?_, ?_⟩ <;> simp [mset]
  obtain ⟨c0, c1, c2, c3, c4, c6, c5⟩ := c
  refine s_copyPlaces (T := o + 1) (S := p + 1) (by omega) (fun u hu fu => ?_)
  intro v ev0
  have ev : v = mcpy u (p + 10 + 4) 0 (o + 10 + 4) 0 4 := ev0
  have fv : Fr (o + 14) (o + 15) u v := by rw [ev]; exact Fr.rf.cp (by omega) (by omega)
  have old : ∀ i, (i < o ∨ o + 15 ≤ i ∨ (o < i ∧ i < o + 6) ∨ (o + 10 ≤ i ∧ i < o + 14)) → ∀ k, v i k = h i k := fun i hi k => by
    rw [fv i (by omega), fu i (by omega), f4 i (by omega)]
  have o2 : ∀ k, v o k = h4 o k := fun k => by rw [fv o (by omega), fu o (by omega)]
  refine hQ v ⟨⟨⟨(o2 0).trans c0, (o2 1).trans c1, (o2 2).trans c2, (o2 3).trans c3, (o2 4).trans c4, (o2 6).trans c6⟩, ⟨?_, fun t ht => ?_⟩, ?_, fun t ht => ?_⟩, (o2 5).trans c5⟩ ?_
  · rw [old (o + 1) (by omega), ← s.1 0 (by omega)]; exact aT.1
  · obtain ⟨p1, p2, p3, p4, -, -, -, -⟩ := aT.2 t (by omega)
    obtain ⟨-, -, -, -, q5, q6, q7, q8⟩ := bT.2 t ht
    obtain ⟨k5, k6, k7, k8⟩ := hu t (by omega)
    refine ⟨?_, ?_, ?_, ?_, ?_, ?_, ?_, ?_⟩
    · rw [old (o + 1 + 1) (by omega), ← s.2 11 t (by omega)]; exact p1
    · rw [old (o + 1 + 2) (by omega), ← s.2 1 t (by omega)]; exact p2
    · rw [old (o + 1 + 3) (by omega), ← s.2 2 t (by omega)]; exact p3
    · rw [old (o + 1 + 4) (by omega), ← s.2 3 t (by omega)]; exact p4
    · rw [fv (o + 1 + 5) (by omega)]; exact k5.trans ((f4 (p + 1 + 5) (by omega) t).trans q5)
    · rw [fv (o + 1 + 6) (by omega)]; exact k6.trans ((f4 (p + 1 + 6) (by omega) t).trans q6)
    · rw [fv (o + 1 + 7) (by omega)]; exact k7.trans ((f4 (p + 1 + 7) (by omega) t).trans q7)
    · rw [fv (o + 1 + 8) (by omega)]; exact k8.trans ((f4 (p + 1 + 8) (by omega) t).trans q8)
  · rw [old (o + 10) (by omega), ← s.1 1 (by omega)]; exact aM.1
  · obtain ⟨p1, p2, p3, -⟩ := aM.2 t (by omega)
    obtain ⟨-, -, -, q4⟩ := bM.2 t ht
    refine ⟨?_, ?_, ?_, ?_⟩
    · rw [old (o + 10 + 1) (by omega), ← s.2 12 t (by omega)]; exact p1
    · rw [old (o + 10 + 2) (by omega), ← s.2 8 t (by omega)]; exact p2
    · rw [old (o + 10 + 3) (by omega), ← s.2 9 t (by omega)]; exact p3
    · rw [ev, mcpy_at (by omega), fu (p + 10 + 4) (by omega), f4 (p + 10 + 4) (by omega)]; exact q4
  · exact ((f4.wd (by omega) (by omega)).tr (fu.wd (by omega) (by omega))).tr (fv.wd (by omega) (by omega))
theorem SameF.two {g a b : Gs} (x : SameF g a) (y : SameF g b) : SameF a b := ⟨fun i hi => by rw [y.1 i hi, x.1 i hi], fun f t h => by rw [y.2 f t h, x.2 f t h]⟩
/-- the first k hours behind a throw (thing w / L into cell w % L; none at the end) -/
def gmv (g : Gs) (w : Nat) : Gs := if w < gn g * (g 0 2).toNat then tset g (w / (g 0 2).toNat) 1 ((w % (g 0 2).toNat : Nat) : Int) 0 else g
def gaf (g : Gs) (w : Nat) : Gs := passN 6 (gmv g w)
theorem gmv_same {g : Gs} {w : Nat} : SameF g (gmv g w) := by
  unfold gmv
  split
  · exact SameF.rf.ts
  · exact SameF.rf
theorem gaf_same {g : Gs} {w : Nat} : SameF g (gaf g w) := SameF.pN 6 _ gmv_same
theorem WF.mvd {B : Int} {g : Gs} {w : Nat} (h : WF B g) : WF B (gmv g w) := by
  unfold gmv
  split
  · have ws := h.1
    unfold WFs at ws
    have m := Nat.mod_lt w (show 0 < (g 0 2).toNat by omega)
    exact h.th (Or.inr (Or.inl rfl)) ⟨by omega, by omega⟩ (fun q => absurd rfl q)
  · exact h
theorem WF.afd {B : Int} {g : Gs} {w : Nat} (h : WF B g) : WF (B + 6) (gaf g w) := (WF.mvd h).passN 6
theorem s_turnHours {h : Mem} {q : Nat} {g : Gs} {B : Int} {Q : Mem → Prop} (hl : lay q = (0, 4)) (hR : RC h q g) (hW : WF B g) (hB : B ≤ 20000) (hQ : ∀ u, RC u q (passN 6 g) → Fr q (q + 15) h u → Q u) : L_X3_takeTurn_22 h q 0 Q := by
  have key : ∀ (d i : Nat) (z : Int) (v : Mem), z = (i : Int) → i + d = 6 → RC v q (passN i g) → Fr q (q + 15) h v → L_X3_takeTurn_22 v q z Q := by
    intro d
    induction d with
    | zero =>
      intro i z v hz hi r f
      subst hz
      obtain rfl : i = 6 := by omega
      refine l_X3_takeTurn_22 hl ?_
      unfold B_X3_takeTurn_22
      exact ⟨fun _ => hQ v r f, fun c => absurd (by omega) c⟩
    | succ d ih =>
      intro i z v hz hi r f
      subst hz
      refine l_X3_takeTurn_22 hl ?_
      unfold B_X3_takeTurn_22
      refine ⟨fun c => absurd c (by omega), fun _ => s_passHour hl r (hW.passN i) (by omega) (fun u ru fu => ⟨⟨by omega, by omega⟩, ?_⟩)⟩
      rw [← passN_s] at ru
      exact ih (i + 1) _ u (by omega) (by omega) ru (f.tr fu)
  exact key 6 0 0 h rfl (by omega) hR Fr.rf
theorem s_takeTurn {h : Mem} {p q w : Nat} {g g' : Gs} {B x y : Int} {Q : Mem → Prop} (hd : q + 15 ≤ p ∨ p + 15 ≤ q) (hl : lay q = (0, 4)) (hW : WF B g) (hB : B ≤ 20000) (s : SameF g g') (ru : RC h q g') (rp : RC h p g) (hw : (w < gn g * (g 0 2).toNat ∧ x = ((w / (g 0 2).toNat : Nat) : Int) ∧ y = ((w % (g 0 2).toNat : Nat) : Int)) ∨ (gn g * (g 0 2).toNat ≤ w ∧ x = -1)) (hQ : ∀ u, RC u q (gaf g w) → Fr q (q + 15) h u → Q u) : F_X3_takeTurn h p q x y Q := by
  have nm := hW.nm
  unfold F_X3_takeTurn
  have hz : ∀ n : Nat, ((n : Nat) : Int) ≠ -1 := fun n => by omega
  refine s_goBackG hd s ru rp nm (fun v rv fv => ⟨fun c => ?_, fun c => ?_⟩)
  · have e : gaf g w = passN 6 g := by
      have nw : ¬ w < gn g * (g 0 2).toNat := by
        rcases hw with ⟨h1, h2, h3⟩ | ⟨h1, h2⟩
        · exact absurd (h2.symm.trans c) (hz _)
        · omega
      unfold gaf gmv
      rw [if_neg nw]
    rw [e] at hQ
    exact s_turnHours hl rv hW hB (fun u ru fu => hQ u ru (fv.tr fu))
  · rcases hw with ⟨h1, h2, h3⟩ | ⟨h1, h2⟩
    · have ht : w / (g 0 2).toNat < gn g := Nat.div_lt_of_lt_mul (by rw [Nat.mul_comm]; exact h1)
      have e : gmv g w = tset g (w / (g 0 2).toNat) 1 ((w % (g 0 2).toNat : Nat) : Int) 0 := by
        unfold gmv
        rw [if_pos h1]
      refine s_place (o := q + 1) h2 (by omega) rv.1.2.1 (fun u ru fu => ?_)
      rw [h3, ← e] at ru
      have ru2 : RC u q (gmv g w) := by
        rw [e] at ru ⊢
        exact rv.tso ru fu
      exact s_turnHours hl ru2 (WF.mvd hW) hB (fun z rz fz => hQ z rz ((fv.tr (fu.wd (by omega) (by omega))).tr fz))
    · exact absurd h2 c
/-- the game's own numbers -/
def GO (h : Mem) (a b : Nat) (T : Int) : Prop := h 47 3 = 12 ∧ h 47 4 = (a : Int) ∧ h 47 5 = (b : Int) ∧ h 47 6 = T
def ld (a b : Nat) (g0 g1 : Gs) : Int := (g1 10 a - g1 10 b) - (g0 10 a - g0 10 b)
theorem s_leadIn {h : Mem} {q a b : Nat} {T : Int} {g g1 : Gs} {B : Int} {Q : Int → Mem → Prop} (go : GO h a b T) (w : WF 9999 g) (w1 : WF B g1) (hB : B ≤ 20000) (e : gm g1 = gm g) (r12 : RC h 12 g) (rq : RC h q g1) (ha : a < gm g) (hb : b < gm g) (hQ : Q (ld a b g g1) h) : F_X3_leadIn h q Q := by
  obtain ⟨g3, g4, g5, g6⟩ := go
  have m4 := w.nm.2
  unfold F_X3_leadIn
  have ea : h (q + 10 + 4) a = g1 10 a := (rq.1.2.2.2 a (by omega)).2.2.2
  have eb : h (q + 10 + 4) b = g1 10 b := (rq.1.2.2.2 b (by omega)).2.2.2
  have fa : h (12 + 10 + 4) a = g 10 a := (r12.1.2.2.2 a (by omega)).2.2.2
  have fb : h (12 + 10 + 4) b = g 10 b := (r12.1.2.2.2 b (by omega)).2.2.2
  have wa := w.2.2 a ha
  have wb := w.2.2 b hb
  have va := w1.2.2 a (by omega)
  have vb := w1.2.2 b (by omega)
  have ws := w.1
  have vs := w1.1
  unfold WFm at wa wb va vb
  unfold WFs at ws vs
  have en : (h 47 4).toNat = a := by omega
  have em : (h 47 5).toNat = b := by omega
  rw [en, em]
  refine ⟨⟨by omega, by omega⟩, 12, g3, rfl, ?_⟩
  rw [ea, fa]
  refine ⟨⟨by omega, by omega⟩, fun x6 e6 => ⟨⟨by omega, by omega⟩, 12, g3, rfl, ?_⟩⟩
  rw [eb, fb]
  refine ⟨⟨by omega, by omega⟩, fun x12 e12 => ⟨⟨by omega, by omega⟩, ?_⟩⟩
  have e7 : x6 - x12 = ld a b g g1 := by unfold ld; omega
  rw [e7]
  exact hQ
