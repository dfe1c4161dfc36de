/-! x reads what stands behind a step's word -/
def pos4 (p : Except (Int × Nat) (Nat × En)) : Er := bnd p (fun q => .ok q.1)
def F35 (h u : Mem) : Prop := ∀ i k, ¬ (i = 9 ∧ 4 ≤ k ∧ k ≤ 10) → ¬ (i = 35 ∧ k = 2) → ¬ (36 ≤ i ∧ i < 41) → u i k = h i k
theorem F35.of {h u : Mem} (f : F9f h u) : F35 h u := fun i k p _ _ => f i k p
theorem F35.tr {h h1 h2 : Mem} (a : F35 h h1) (b : F35 h1 h2) : F35 h h2 := fun i k p q r => (b i k p q r).trans (a i k p q r)
theorem s_addAny {h : Mem} {d : Dy} {a1 a2 a3 a4 : Int} {Q : Int → Mem → Prop} (r : RDr h d) (p : 0 ≤ d 0 2 ∧ d 0 2 ≤ 60) (hQ : ∀ r u, (d 0 2 < 60 → RDr u (addE d (a1, a2, a3, a4)) ∧ r = d 0 2) → (∀ i k, ¬ (i = 35 ∧ k = 2) → ¬ (36 ≤ i ∧ i < 41) → u i k = h i k) → Q r u) : F_X1_addEntry h 35 a1 a2 a3 a4 Q := by
  by_cases c : d 0 2 < 60
  · exact s_addEntry r ⟨p.1, c⟩ (fun u ru fu => hQ _ u (fun _ => ⟨ru, rfl⟩) fu)
  · unfold F_X1_addEntry
    have e2 := r.2.2.1
    refine ⟨fun q => absurd q (by omega), fun _ => hQ 59 h (fun q => absurd q c) (fun _ _ _ _ => rfl)⟩
/-- what readRest has done: q the pure outcome behind c -/
def XE (h u : Mem) (B : Nat → Int) (n : Nat) (d : Dy) (r : Int) (q : Except (Int × Nat) (Nat × En)) : Prop := XS u B n (pos4 q) ∧ (d 0 2 < 60 → ∀ s' e, q = .ok (s', e) → RDr u (addE d e) ∧ r = d 0 2) ∧ F35 h u
section XD
variable {h : Mem} {B : Nat → Int} {n : Nat} {c : Er} {g : Gs} {d : Dy}
/-- an entry is added behind what was read; E: if all was well, it says this -/
theorem s_ent {u : Mem} {a1 a2 a3 a4 : Int} {q : Except (Int × Nat) (Nat × En)} {Q : Int → Mem → Prop} (r : RDr h d) (p : 0 ≤ d 0 2 ∧ d 0 2 ≤ 60) (f : F9f h u) (x : XS u B n (pos4 q)) (E : ∀ s' e, q = .ok (s', e) → e = (a1, a2, a3, a4)) (hQ : ∀ r u, XE h u B n d r q → Q r u) : F_X1_addEntry u 35 a1 a2 a3 a4 (fun r2 h2 => Q r2 h2) := by
  refine s_addAny (r.f9 f) p (fun r2 v hv fv => hQ r2 v ⟨x.fr (fun i k q => fv i k (by omega) (by omega)), fun c s' e he => ?_, fun i k p1 p2 p3 => (fv i k p2 p3).trans (f i k p1)⟩)
  rw [E s' e he]
  exact hv c
theorem s_readTest {Q : Int → Mem → Prop} (x : XS h B n c) (x3 : X34 h) (rc : RC h 12 g) (n8 : gn g ≤ 8 ∧ (gn g : Int) = g 0 0) (n4 : gm g ≤ 4 ∧ (gm g : Int) = g 0 1) (r : RDr h d) (p : 0 ≤ d 0 2 ∧ d 0 2 ≤ 60) (hQ : ∀ r u, XE h u B n d r (bnd c (pTest B n g)) → Q r u) : F_X2_readTest h Q := by
  have j23 : ∀ (u : Mem) (c' : Er) (v1 : Int), F9f h u → XS u B n c' → (bnd c' (fun s => .ok (nx B n s)) : Er) = bnd c (pTst B n) → (∀ s, c = .ok s → v1 = xk B n s) → J_X2_readTest_23 u v1 Q := fun u c' v1 f xu ec hv => by
    unfold J_X2_readTest_23
    refine ⟨(x3.f9 f).1, sx_advance xu (fun v fv xv => ?_)⟩
    rw [ec] at xv
    have F := f.tr fv
    have z3 := x3.f9 F
    have rv := rc.f9o F
    have cmp : ∀ (w : Mem) (cw : Er) (m : Int), F9f h w → XS w B n cw → True := fun _ _ _ _ _ => trivial
    refine ⟨fun q1 => ⟨fun q2 => ⟨fun q3 => ?_, fun q3 => ?_⟩, fun q2 => ?_⟩, fun q1 => ?_⟩
    · refine s_takeCompares xv z3 (fun r13 w fw xw vw => ⟨fun _ => ⟨(z3.f9 fw).1, ?_⟩, fun z => absurd z q3⟩)
      refine sx_takeNumberOf xw (by omega) (fun r16 y fy xy _ vy => s_ent r p ((F.tr fw).tr fy) (q := bnd c (pTest B n g)) ?_ ?_ hQ)
      · cases c with
        | error e => exact xy
        | ok s =>
          have e1 := hv s rfl
          subst e1
          have xy' : XS y B n (bnd (bnd (pTst B n s) (pCmp B n)) (pNo B n 0 15)) := xy
          show XS y B n (pos4 (pTest B n g s))
          unfold pTest
          cases h1 : pTst B n s with
          | error e => rw [h1] at xy'; exact xy'
          | ok s1 =>
            rw [h1] at xy'
            rw [bnd_y, if_neg q1, if_neg q2, if_neg q3]
            have xy2 : XS y B n (bnd (pCmp B n s1) (pNo B n 0 15)) := xy'
            cases h2 : pCmp B n s1 with
            | error e => rw [h2] at xy2; exact xy2
            | ok s2 =>
              rw [h2] at xy2
              have xy3 : XS y B n (pNo B n 0 15 s2) := xy2
              show XS y B n (pos4 (bnd (pNo B n 0 15 s2) _))
              cases h3 : pNo B n 0 15 s2 with
              | error e => rw [h3] at xy3; exact xy3
              | ok s3 => rw [h3] at xy3; exact xy3
      · intro s' e he
        obtain ⟨s, hs, ho⟩ := bnd_ok he
        clear he
        have he := ho
        have e1 := hv s hs
        subst e1
        subst hs
        unfold pTest at he
        obtain ⟨s1, h1, he⟩ := bnd_ok he
        rw [if_neg q1, if_neg q2, if_neg q3] at he
        obtain ⟨s2, h2, he⟩ := bnd_ok he
        obtain ⟨s3, h3, he⟩ := bnd_ok he
        have a1 := vw s1 h1 s2 h2
        have a2 := vy s2 (by show bnd (pTst B n s) (pCmp B n) = .ok s2; rw [h1, bnd_y]; exact h2) s3 h3
        cases he
        rw [a1, a2]
    · refine s_takeMill xv z3 rv n4 (fun r25 w0 f0 x0 v0 => ?_)
      have z0 := z3.f9 f0
      refine s_takeCompares x0 z0 (fun r27 w fw xw vw => ⟨fun z => absurd q3 z, fun _ => ⟨(z0.f9 fw).1, ?_⟩⟩)
      refine sx_takeNumberOf xw (by omega) (fun r35 y fy xy _ vy => s_ent r p (((F.tr f0).tr fw).tr fy) (q := bnd c (pTest B n g)) ?_ ?_ hQ)
      · cases c with
        | error e => exact xy
        | ok s =>
          have e1 := hv s rfl
          subst e1
          have xy' : XS y B n (bnd (bnd (bnd (pTst B n s) (pMil B n g)) (pCmp B n)) (pNo B n 0 9999)) := xy
          show XS y B n (pos4 (pTest B n g s))
          unfold pTest
          cases h1 : pTst B n s with
          | error e => rw [h1] at xy'; exact xy'
          | ok s1 =>
            rw [h1] at xy'
            rw [bnd_y, if_neg q1, if_neg q2, if_pos q3]
            have xy1 : XS y B n (bnd (bnd (pMil B n g s1) (pCmp B n)) (pNo B n 0 9999)) := xy'
            cases h0 : pMil B n g s1 with
            | error e => rw [h0] at xy1; exact xy1
            | ok s0 =>
              rw [h0] at xy1
              have xy2 : XS y B n (bnd (pCmp B n s0) (pNo B n 0 9999)) := xy1
              show XS y B n (pos4 (bnd (pCmp B n s0) _))
              cases h2 : pCmp B n s0 with
              | error e => rw [h2] at xy2; exact xy2
              | ok s2 =>
                rw [h2] at xy2
                have xy3 : XS y B n (pNo B n 0 9999 s2) := xy2
                show XS y B n (pos4 (bnd (pNo B n 0 9999 s2) _))
                cases h3 : pNo B n 0 9999 s2 with
                | error e => rw [h3] at xy3; exact xy3
                | ok s3 => rw [h3] at xy3; exact xy3
      · intro s' e he
        obtain ⟨s, hs, ho⟩ := bnd_ok he
        clear he
        have he := ho
        have e1 := hv s hs
        subst e1
        subst hs
        unfold pTest at he
        obtain ⟨s1, h1, he⟩ := bnd_ok he
        rw [if_neg q1, if_neg q2, if_pos q3] at he
        obtain ⟨s0, h0, he⟩ := bnd_ok he
        obtain ⟨s2, h2, he⟩ := bnd_ok he
        obtain ⟨s3, h3, he⟩ := bnd_ok he
        have c1 : bnd (pTst B n s) (pMil B n g) = .ok s0 := by rw [h1, bnd_y]; exact h0
        have a0 := v0 s1 h1 s0 h0
        have a1 := vw s0 c1 s2 h2
        have a2 := vy s2 (by show bnd (bnd (pTst B n s) (pMil B n g)) (pCmp B n) = .ok s2; rw [c1, bnd_y]; exact h2) s3 h3
        cases he
        rw [a0, a1, a2]
    · refine s_takeWay xv z3 (fun r39 w fw xw vw => s_ent r p (F.tr fw) (q := bnd c (pTest B n g)) ?_ ?_ hQ)
      · cases c with
        | error e => exact xw
        | ok s =>
          have e1 := hv s rfl
          subst e1
          have xy' : XS w B n (bnd (pTst B n s) (pWay B n)) := xw
          show XS w B n (pos4 (pTest B n g s))
          unfold pTest
          cases h1 : pTst B n s with
          | error e => rw [h1] at xy'; exact xy'
          | ok s1 =>
            rw [h1] at xy'
            rw [bnd_y, if_neg q1, if_pos q2]
            have xy2 : XS w B n (pWay B n s1) := xy'
            cases h2 : pWay B n s1 with
            | error e => rw [h2] at xy2; exact xy2
            | ok s2 => rw [h2] at xy2; exact xy2
      · intro s' e he
        obtain ⟨s, hs, ho⟩ := bnd_ok he
        clear he
        have he := ho
        have e1 := hv s hs
        subst e1
        subst hs
        unfold pTest at he
        obtain ⟨s1, h1, he⟩ := bnd_ok he
        rw [if_neg q1, if_pos q2] at he
        obtain ⟨s2, h2, he⟩ := bnd_ok he
        have a1 := vw s1 h1 s2 h2
        cases he
        rw [a1]
    · refine s_takeThing xv z3 rv n8 (fun r43 w fw xw vw => s_ent r p (F.tr fw) (q := bnd c (pTest B n g)) ?_ ?_ hQ)
      · cases c with
        | error e => exact xw
        | ok s =>
          have e1 := hv s rfl
          subst e1
          have xy' : XS w B n (bnd (pTst B n s) (pThg B n g)) := xw
          show XS w B n (pos4 (pTest B n g s))
          unfold pTest
          cases h1 : pTst B n s with
          | error e => rw [h1] at xy'; exact xy'
          | ok s1 =>
            rw [h1] at xy'
            rw [bnd_y, if_pos q1]
            have xy2 : XS w B n (pThg B n g s1) := xy'
            cases h2 : pThg B n g s1 with
            | error e => rw [h2] at xy2; exact xy2
            | ok s2 => rw [h2] at xy2; exact xy2
      · intro s' e he
        obtain ⟨s, hs, ho⟩ := bnd_ok he
        clear he
        have he := ho
        have e1 := hv s hs
        subst e1
        subst hs
        unfold pTest at he
        obtain ⟨s1, h1, he⟩ := bnd_ok he
        rw [if_pos q1] at he
        obtain ⟨s2, h2, he⟩ := bnd_ok he
        have a1 := vw s1 h1 s2 h2
        cases he
        rw [a1]
  unfold F_X2_readTest F_X2_isTest
  refine ⟨x3.1, sx_keyword x (fun r3 hr => ?_)⟩
  have good : r3 = 11 ∨ r3 = 19 ∨ r3 = 13 ∨ r3 = 20 → J_X2_readTest_23 h r3 Q := fun hk => by
    refine j23 h c r3 F9f.rf x ?_ hr
    cases c with
    | error e => rfl
    | ok s =>
      show _ = pTst B n s
      unfold pTst
      rw [if_pos (by rw [← hr s rfl]; exact hk)]; rfl
  have bad : ¬ (r3 = 11 ∨ r3 = 19 ∨ r3 = 13 ∨ r3 = 20) → h 34 1 = (9 : Int) ∧ (F_X8_fail h 2 (fun h7 => J_X2_readTest_23 h7 r3 Q)) := fun nk => by
    refine ⟨x3.1, sx_fail x (w := 2) (by decide) (fun u fu xu => j23 u _ r3 fu xu ?_ hr)⟩
    cases c with
    | error e => rfl
    | ok s =>
      show _ = pTst B n s
      unfold pTst
      rw [if_neg (by rw [← hr s rfl]; exact nk)]; rfl
  refine ⟨fun q => ⟨fun _ => good (by omega), fun z => absurd z (by decide)⟩, fun q => ⟨fun q2 => ⟨fun _ => good (by omega), fun z => absurd z (by decide)⟩, fun q2 => ⟨fun q3 => ⟨fun _ => good (by omega), fun z => absurd z (by decide)⟩, fun q3 => ⟨fun q4 => ⟨fun z => absurd rfl z, fun _ => bad (by omega)⟩, fun q4 => ⟨fun _ => good (by omega), fun z => absurd z (by decide)⟩⟩⟩⟩⟩
end XD
