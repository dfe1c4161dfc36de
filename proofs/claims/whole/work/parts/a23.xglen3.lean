section TH
variable (B : Nat → Int) (n : Nat) (g : Gs) (s : Nat)
def th1 : Er := bnd (pFul B n (decide (8 ≤ gn g)) s) (pKw B n 7)
def th2 : Er := bnd (th1 B n g s) (pNew B n g)
def th3 : Er := bnd (th2 B n g s) (pKw B n 8)
def th4 : Er := bnd (th3 B n g s) (pNo B n 0 9)
def th5 : Er := bnd (th4 B n g s) (pKw B n 9)
def th6 : Er := bnd (th5 B n g s) (pNo B n 1 24)
def th7 : Er := bnd (th6 B n g s) (pKw B n 10)
def th8 : Er := bnd (th7 B n g s) (pNo B n 1 24)
def mi1 : Er := bnd (pFul B n (decide (4 ≤ gm g)) s) (pKw B n 12)
def mi2 : Er := bnd (mi1 B n g s) (pNew B n g)
def mi3 : Er := bnd (mi2 B n g s) (pKw B n 13)
def mi4 : Er := bnd (mi3 B n g s) (pNo B n 0 (g 0 2 - 1))
def mi5 : Er := bnd (mi4 B n g s) (pKd B n)
end TH
theorem bnd_y {α β : Type} {a : α} {f : α → Except (Int × Nat) β} : bnd (.ok a) f = f a := rfl
theorem bnd_n {α β : Type} {e : Int × Nat} {f : α → Except (Int × Nat) β} : bnd (.error e) f = .error e := rfl
theorem thing_split (B : Nat → Int) (n : Nat) (g : Gs) (s : Nat) : (∃ e, th8 B n g s = .error e ∧ pThing B n g s = .error e) ∨ (∃ s1 s2 s3 s4 s5 s6 s7 s8, th1 B n g s = .ok s1 ∧ pNew B n g s1 = .ok s2 ∧ th3 B n g s = .ok s3 ∧ pNo B n 0 9 s3 = .ok s4 ∧ th5 B n g s = .ok s5 ∧ pNo B n 1 24 s5 = .ok s6 ∧ th7 B n g s = .ok s7 ∧ pNo B n 1 24 s7 = .ok s8 ∧ th8 B n g s = .ok s8 ∧ gn g < 8 ∧ pThing B n g s = (if tke B n s8 = 1 ∧ tke_v B n s8 = 11 then bnd (pNo B n 0 (g 0 2 - 1) (nx B n s8)) fun s9 => .ok (s9, tset (newT g (tlt B n s1) (tke_v B n s3) (tke_v B n s5) (tke_v B n s7)) (gn g) 1 (tke_v B n (nx B n s8)) 0)
    else .ok (s8, newT g (tlt B n s1) (tke_v B n s3) (tke_v B n s5) (tke_v B n s7)))) := by
  unfold th8 th7 th6 th5 th4 th3 th2 th1 pThing
  cases h0 : pFul B n (decide (8 ≤ gn g)) s with
  | error e => exact Or.inl ⟨e, rfl, rfl⟩
  | ok a =>
    have g8 : gn g < 8 := by have := of_decide_eq_false (pFul_ok h0).2; omega
    simp only [bnd_y]
    cases h1 : pKw B n 7 a with
    | error e => exact Or.inl ⟨e, rfl, rfl⟩
    | ok s1 =>
      simp only [bnd_y]
      cases h2 : pNew B n g s1 with
      | error e => exact Or.inl ⟨e, rfl, rfl⟩
      | ok s2 =>
        simp only [bnd_y]
        cases h3 : pKw B n 8 s2 with
        | error e => exact Or.inl ⟨e, rfl, rfl⟩
        | ok s3 =>
          simp only [bnd_y]
          cases h4 : pNo B n 0 9 s3 with
          | error e => exact Or.inl ⟨e, rfl, rfl⟩
          | ok s4 =>
            simp only [bnd_y]
            cases h5 : pKw B n 9 s4 with
            | error e => exact Or.inl ⟨e, rfl, rfl⟩
            | ok s5 =>
              simp only [bnd_y]
              cases h6 : pNo B n 1 24 s5 with
              | error e => exact Or.inl ⟨e, rfl, rfl⟩
              | ok s6 =>
                simp only [bnd_y]
                cases h7 : pKw B n 10 s6 with
                | error e => exact Or.inl ⟨e, rfl, rfl⟩
                | ok s7 =>
                  simp only [bnd_y]
                  cases h8 : pNo B n 1 24 s7 with
                  | error e => exact Or.inl ⟨e, rfl, rfl⟩
                  | ok s8 => exact Or.inr ⟨s1, s2, s3, s4, s5, s6, s7, s8, rfl, h2, rfl, h4, rfl, h6, rfl, h8, rfl, g8, rfl⟩
theorem mill_split (B : Nat → Int) (n : Nat) (g : Gs) (s : Nat) : (∃ e, mi5 B n g s = .error e ∧ pMill B n g s = .error e) ∨ (∃ s1 s2 s3 s4 s5, mi1 B n g s = .ok s1 ∧ pNew B n g s1 = .ok s2 ∧ mi3 B n g s = .ok s3 ∧ pNo B n 0 (g 0 2 - 1) s3 = .ok s4 ∧ mi4 B n g s = .ok s4 ∧ pKd B n s4 = .ok s5 ∧ mi5 B n g s = .ok s5 ∧ gm g < 4 ∧ pMill B n g s = .ok (s5, newM g (tlt B n s1) (tke_v B n s3) (xk B n s4 - 4))) := by
  unfold mi5 mi4 mi3 mi2 mi1 pMill
  cases h0 : pFul B n (decide (4 ≤ gm g)) s with
  | error e => exact Or.inl ⟨e, rfl, rfl⟩
  | ok a =>
    have g4 : gm g < 4 := by have := of_decide_eq_false (pFul_ok h0).2; omega
    simp only [bnd_y]
    cases h1 : pKw B n 12 a with
    | error e => exact Or.inl ⟨e, rfl, rfl⟩
    | ok s1 =>
      simp only [bnd_y]
      cases h2 : pNew B n g s1 with
      | error e => exact Or.inl ⟨e, rfl, rfl⟩
      | ok s2 =>
        simp only [bnd_y]
        cases h3 : pKw B n 13 s2 with
        | error e => exact Or.inl ⟨e, rfl, rfl⟩
        | ok s3 =>
          simp only [bnd_y]
          cases h4 : pNo B n 0 (g 0 2 - 1) s3 with
          | error e => exact Or.inl ⟨e, rfl, rfl⟩
          | ok s4 =>
            simp only [bnd_y]
            cases h5 : pKd B n s4 with
            | error e => exact Or.inl ⟨e, rfl, rfl⟩
            | ok s5 => exact Or.inr ⟨s1, s2, s3, s4, s5, rfl, h2, rfl, h4, rfl, h5, rfl, g4, rfl⟩
section XT2
variable {h : Mem} {B : Nat → Int} {n : Nat} {c : Er} {g : Gs} {T : Nat}
theorem X33.fr {h u : Mem} {T lo hi : Nat} (x : X33 h T) (f : Fr lo hi h u) (e : 33 < lo) : X33 u T := ⟨by rw [f 33 (by omega)]; exact x.1, by rw [f 33 (by omega)]; exact x.2.1, by rw [f 33 (by omega)]; exact x.2.2⟩
theorem s_readMill {s : Nat} {Q : Mem → Prop} (x : XS h B n (.ok s)) (x3 : X33 h T) (r : RC h 146 g) (w : WF 0 g) (hQ : ∀ u, XP h u B n T (pMill B n g s) → Q u) : F_X5_readMill h Q := by
  have n4 := gm4 w
  have ws := w.1
  unfold WFs at ws
  have j23 : ∀ (h0 : Mem), F9f h h0 → XS h0 B n (pFul B n (decide (4 ≤ gm g)) s) → J_X5_readMill_23 h0 Q := fun h0 f0 x0 => by
    unfold J_X5_readMill_23
    refine ⟨(x3.f9 f0).1, sx_takeKeyword x0 (fun h6 f6 x6 => ?_)⟩
    have f6 := f0.tr f6
    refine s_takeNewName (g := g) (T := T) (show XS h6 B n (mi1 B n g s) from x6) (x3.f9 f6) (r.f9 f6) w (fun r9 h8 f8 x8 v9 => ⟨?_, ?_⟩)
    · exact (x3.f9 (f6.tr f8)).1
    have f8 := f6.tr f8
    refine sx_takeKeyword (show XS h8 B n (mi2 B n g s) from x8) (fun h11 f11 x11 => ?_)
    have f11 := f8.tr f11
    have y3 := x3.f9 f11
    have e0 : h11 146 0 = g 0 2 := (r.f9 f11).1.1.1
    refine ⟨y3.1, 146, y3.2.1, lay_33, by rw [e0]; exact ⟨by omega, by omega⟩, ?_⟩
    rw [e0]
    refine sx_takeNumberOf (show XS h11 B n (mi3 B n g s) from x11) (by omega) (fun r17 h16 f16 x16 r17i v17 => ?_)
    have f16 := f11.tr f16
    refine ⟨146, (x3.f9 f16).2.1, lay_33, ?_⟩
    refine s_takeKind (show XS h16 B n (mi4 B n g s) from x16) (x3.f9 f16) (fun r20 h19 f19 x19 r20i v20 => ?_)
    have f19 := f16.tr f19
    have x19 : XS h19 B n (mi5 B n g s) := x19
    have r19 := r.f9 f19
    have y19 := x3.f9 f19
    by_cases g4 : gm g < 4
    · refine s_newMill (B := 0) r19 w (by omega) (fun u ru fu => hQ u ⟨?_, fun s' g' hp => ?_, y19.fr fu (by omega), (FGf.of f19).fr fu (by omega)⟩)
      · have xu : XS u B n (mi5 B n g s) := x19.fr (fun i k p => fu i (by omega) k)
        rcases mill_split B n g s with ⟨e, e1, e2⟩ | ⟨s1, s2, s3, s4, s5, q1, q2, q3, q4, q5, q6, q7, q8, q9⟩
        · rw [e1] at xu; rw [e2]; exact xu
        · rw [q7] at xu; rw [q9]; exact xu
      · rcases mill_split B n g s with ⟨e, e1, e2⟩ | ⟨s1, s2, s3, s4, s5, q1, q2, q3, q4, q5, q6, q7, q8, q9⟩
        · rw [e2] at hp; cases hp
        · rw [q9] at hp
          cases hp
          rw [← v9 s1 q1 s2 q2, ← v17 s3 q3 s4 q4, ← v20 s4 q5 _ q6]
          exact ru
    · have e5 : ∃ e, mi5 B n g s = .error e ∧ pMill B n g s = .error e := by
        rcases mill_split B n g s with a | ⟨s1, s2, s3, s4, s5, q1, q2, q3, q4, q5, q6, q7, q8, q9⟩
        · exact a
        · exact absurd q8 g4
      obtain ⟨e, e1, e2⟩ := e5
      have em : h19 (146 + 10) 0 = g 0 1 := r19.1.2.2.1
      unfold F_X7_addMill
      refine ⟨fun q => absurd q (by omega), fun _ => hQ h19 ⟨?_, fun s' g' hp => ?_, y19, FGf.of f19⟩⟩
      · rw [e1] at x19; rw [e2]; exact x19
      · rw [e2] at hp; cases hp
  have em : h (146 + 10) 0 = g 0 1 := r.1.2.2.1
  unfold F_X5_readMill
  refine ⟨146, x3.2.1, lay_33, fun q => j23 h F9f.rf ?_, fun q => ⟨x3.1, sx_fail x (w := 6) (by decide) (fun h3 f3 x3 => j23 h3 f3 ?_)⟩⟩
  · unfold pFul
    rw [show decide (4 ≤ gm g) = false from decide_eq_false (by omega)]; exact x
  · unfold pFul
    rw [show decide (4 ≤ gm g) = true from decide_eq_true (by omega)]; exact x3
theorem s_readThing {s : Nat} {Q : Mem → Prop} (x : XS h B n (.ok s)) (x3 : X33 h T) (r : RC h 146 g) (w : WF 0 g) (hQ : ∀ u, XP h u B n T (pThing B n g s) → Q u) : F_X5_readThing h Q := by
  have n8 := gn8 w
  have ws := w.1
  unfold WFs at ws
  have j24 : ∀ (h0 : Mem), F9f h h0 → XS h0 B n (pFul B n (decide (8 ≤ gn g)) s) → J_X5_readThing_24 h0 Q := fun h0 f0 x0 => by
    unfold J_X5_readThing_24
    refine ⟨(x3.f9 f0).1, sx_takeKeyword x0 (fun h6 f6 x6 => ?_)⟩
    have f6 := f0.tr f6
    refine s_takeNewName (g := g) (T := T) (show XS h6 B n (th1 B n g s) from x6) (x3.f9 f6) (r.f9 f6) w (fun r9 h8 f8 x8 v9 => ⟨(x3.f9 (f6.tr f8)).1, ?_⟩)
    have f8 := f6.tr f8
    refine sx_takeKeyword (show XS h8 B n (th2 B n g s) from x8) (fun h11 f11 x11 => ⟨(x3.f9 (f8.tr f11)).1, ?_⟩)
    have f11 := f8.tr f11
    refine sx_takeNumberOf (show XS h11 B n (th3 B n g s) from x11) (by omega) (fun r15 h14 f14 x14 r15i v15 => ⟨(x3.f9 (f11.tr f14)).1, ?_⟩)
    have f14 := f11.tr f14
    refine sx_takeKeyword (show XS h14 B n (th4 B n g s) from x14) (fun h17 f17 x17 => ⟨(x3.f9 (f14.tr f17)).1, ?_⟩)
    have f17 := f14.tr f17
    refine sx_takeNumberOf (show XS h17 B n (th5 B n g s) from x17) (by omega) (fun r21 h20 f20 x20 r21i v21 => ⟨(x3.f9 (f17.tr f20)).1, ?_⟩)
    have f20 := f17.tr f20
    refine sx_takeKeyword (show XS h20 B n (th6 B n g s) from x20) (fun h23 f23 x23 => ⟨(x3.f9 (f20.tr f23)).1, ?_⟩)
    have f23 := f20.tr f23
    refine sx_takeNumberOf (show XS h23 B n (th7 B n g s) from x23) (by omega) (fun r27 h26 f26 x26 r27i v27 => ?_)
    have f26 := f23.tr f26
    have x26 : XS h26 B n (th8 B n g s) := x26
    have r26 := r.f9 f26
    have y26 := x3.f9 f26
    refine ⟨146, y26.2.1, lay_33, ?_⟩
    by_cases g8 : gn g < 8
    · refine s_newThing (B := 0) r26 w (by omega) (fun h29 ru fu => ?_)
      have x29 : XS h29 B n (th8 B n g s) := x26.fr (fun i k p => fu i (by omega) k)
      have y29 := y26.fr fu (by omega)
      have fg : FGf h h29 := (FGf.of f26).fr fu (by omega)
      have e0 : h29 146 0 = g 0 2 := by have := ru.1.1.1; rw [newT_u (by omega)] at this; exact this
      refine ⟨y29.1, sx_isWord x29 (fun r33 a1 a2 => ⟨fun q => hQ h29 ⟨?_, fun s' g' hp => ?_, y29, fg⟩, fun q => ⟨fun q2 => absurd q2 (by omega), fun _ => ⟨y29.1, ?_⟩⟩⟩)⟩
      · rcases thing_split B n g s with ⟨e, e1, e2⟩ | ⟨s1, s2, s3, s4, s5, s6, s7, s8, q1, q2, q3, q4, q5, q6, q7, q8, q9, qA, qB⟩
        · rw [e1] at x29; rw [e2]; exact x29
        · have c2 : ¬ (tke B n s8 = 1 ∧ tke_v B n s8 = 11) := fun z => by rw [a1 s8 q9, if_pos z] at q; exact absurd q (by decide)
          rw [q9] at x29; rw [qB, if_neg c2]; exact x29
      · rcases thing_split B n g s with ⟨e, e1, e2⟩ | ⟨s1, s2, s3, s4, s5, s6, s7, s8, q1, q2, q3, q4, q5, q6, q7, q8, q9, qA, qB⟩
        · rw [e2] at hp; cases hp
        · have c2 : ¬ (tke B n s8 = 1 ∧ tke_v B n s8 = 11) := fun z => by rw [a1 s8 q9, if_pos z] at q; exact absurd q (by decide)
          rw [qB, if_neg c2] at hp
          cases hp
          rw [← v9 s1 q1 s2 q2, ← v15 s3 q3 s4 q4, ← v21 s5 q5 s6 q6, ← v27 s7 q7 _ q8]
          exact ru
      · rcases thing_split B n g s with ⟨e, e1, e2⟩ | ⟨s1, s2, s3, s4, s5, s6, s7, s8, q1, q2, q3, q4, q5, q6, q7, q8, q9, qA, qB⟩
        · exact absurd (a2 e e1) q
        · have c2 : tke B n s8 = 1 ∧ tke_v B n s8 = 11 := by
            by_cases z : tke B n s8 = 1 ∧ tke_v B n s8 = 11
            · exact z
            · exact absurd ((a1 s8 q9).trans (if_neg z)) q
          rw [if_pos c2] at qB
          rw [q9] at x29
          refine sx_advance x29 (fun h35 f35 x35 => ?_)
          have y35 := y29.f9 f35
          have x35 : XS h35 B n (.ok (nx B n s8)) := x35
          have e35 : h35 146 0 = g 0 2 := by rw [f35 146 0 (by omega)]; exact e0
          refine ⟨146, y35.2.1, lay_33, y35.1, 146, y35.2.1, lay_33, by rw [e35]; exact ⟨by omega, by omega⟩, ?_⟩
          rw [e35]
          refine sx_takeNumberOf x35 (by omega) (fun r42 h41 f41 x41 r42i v42 => ?_)
          have r41 : RC h41 146 (newT g r9 r15 r21 r27) := ru.f9 (f35.tr f41)
          have y41 := y35.f9 f41
          unfold F_X9_throwInto
          refine s_place (t := gn g) n8.2.symm (by omega) r41.1.2.1 (fun u ru2 fu2 => hQ u ⟨?_, fun s' g' hp => ?_, y41.fr fu2 (by omega), ((fg.tr (FGf.of (f35.tr f41)))).fr fu2 (by omega)⟩)
          · have xu : XS u B n (pNo B n 0 (g 0 2 - 1) (nx B n s8)) := XS.fr (c := pNo B n 0 (g 0 2 - 1) (nx B n s8)) x41 (fun i k p => fu2 i (by omega) k)
            rw [qB]
            unfold pos2
            cases d : pNo B n 0 (g 0 2 - 1) (nx B n s8) with
            | error e => rw [d] at xu; exact xu
            | ok s9 => rw [d] at xu; exact xu
          · rw [qB] at hp
            obtain ⟨s9, h9, hp⟩ := bnd_ok hp
            cases hp
            rw [← v9 s1 q1 s2 q2, ← v15 s3 q3 s4 q4, ← v21 s5 q5 s6 q6, ← v27 s7 q7 _ q8, ← v42 _ rfl _ h9]
            obtain ⟨⟨sc, rt, rm⟩, r5⟩ := r41
            have gmt : ∀ a b c : Int, gm (tset (newT g r9 r15 r21 r27) (gn g) a b c) = gm (newT g r9 r15 r21 r27) := fun a b c => by unfold gm; rw [tset_o (by omega)]
            refine ⟨⟨?_, ru2, ?_, fun m hm => ?_⟩, ?_⟩
            · rw [fu2 146 (by omega), fu2 146 (by omega), fu2 146 (by omega), fu2 146 (by omega), fu2 146 (by omega), fu2 146 (by omega), tset_o (by omega), tset_o (by omega), tset_o (by omega), tset_o (by omega), tset_o (by omega), tset_o (by omega)]
              exact sc
            · rw [fu2 (146 + 10) (by omega), tset_o (by omega)]; exact rm.1
            · rw [gmt] at hm
              rw [fu2 (146 + 10 + 1) (by omega), fu2 (146 + 10 + 2) (by omega), fu2 (146 + 10 + 3) (by omega), fu2 (146 + 10 + 4) (by omega), tset_o (by omega), tset_o (by omega), tset_o (by omega), tset_o (by omega)]
              exact rm.2 m hm
            · rw [fu2 146 (by omega), tset_o (by omega)]; exact r5
    · have e5 : ∃ e, th8 B n g s = .error e ∧ pThing B n g s = .error e := by
        rcases thing_split B n g s with a | ⟨s1, s2, s3, s4, s5, s6, s7, s8, q1, q2, q3, q4, q5, q6, q7, q8, q9, qA, qB⟩
        · exact a
        · exact absurd qA g8
      obtain ⟨e, e1, e2⟩ := e5
      have em : h26 (146 + 1) 0 = g 0 0 := r26.1.2.1.1
      have done : XP h h26 B n T (pThing B n g s) := by
        refine ⟨?_, fun s' g' hp => ?_, y26, FGf.of f26⟩
        · rw [e1] at x26; rw [e2]; exact x26
        · rw [e2] at hp; cases hp
      unfold F_X9_addThing
      refine ⟨fun q => absurd q (by omega), fun _ => ⟨y26.1, sx_isWord x26 (fun r33 a1 a2 => ⟨fun _ => hQ h26 done, fun _ => ⟨fun _ => hQ h26 done, fun q => absurd rfl q⟩⟩)⟩⟩
  have em : h (146 + 1) 0 = g 0 0 := r.1.2.1.1
  unfold F_X5_readThing
  refine ⟨146, x3.2.1, lay_33, fun q => j24 h F9f.rf ?_, fun q => ⟨x3.1, sx_fail x (w := 6) (by decide) (fun h3 f3 x3 => j24 h3 f3 ?_)⟩⟩
  · unfold pFul
    rw [show decide (8 ≤ gn g) = false from decide_eq_false (by omega)]; exact x
  · unfold pFul
    rw [show decide (8 ≤ gn g) = true from decide_eq_true (by omega)]; exact x3
end XT2
