/-! game: what is thrown in too late to come to mind is as good as nothing -/
def EU (u : Nat) (a b : Gs) : Prop := ∀ f t, ¬ (t = u ∧ (f = 4 ∨ f = 5 ∨ f = 6)) → a f t = b f t
def AB (u : Nat) (a b : Gs) : Prop := EU u a b ∧ u < gn a ∧ a 4 u = 1 ∧ a 6 u < a 3 u ∧ (b 4 u = 0 ∨ b 4 u = 3)
theorem EU.n {u : Nat} {a b : Gs} (e : EU u a b) : gn a = gn b ∧ gm a = gm b := by
  unfold gn gm
  rw [e 0 0 (by omega), e 0 1 (by omega)]
  exact ⟨rfl, rfl⟩
theorem AB.lrE {u : Nat} {a b : Gs} (s : AB u a b) : ∀ k, lr a k = lr b k := by
  obtain ⟨e, hu, a4, a6, b4⟩ := s
  intro k
  induction k with
  | zero => rfl
  | succ k ih =>
    unfold lr
    rw [ih]
    by_cases c : k = u
    · subst c
      rw [if_neg (by omega), if_neg (by omega)]
    · rw [e 4 k (by omega), e 3 k (by omega), e 6 k (by omega)]
theorem AB.cwE {u : Nat} {a b : Gs} (s : AB u a b) : ∀ k, cw a k = cw b k := by
  obtain ⟨e, hu, a4, a6, b4⟩ := s
  intro k
  induction k with
  | zero => rfl
  | succ k ih =>
    unfold cw
    rw [ih]
    by_cases c : k = u
    · subst c
      rw [if_neg (by omega), if_neg (by omega)]
    · rw [e 4 k (by omega), e 1 k (by omega)]
theorem AB.flE {u : Nat} {a b : Gs} {x y : Int} (s : AB u a b) : ∀ k, fl a x y k = fl b x y k := by
  obtain ⟨e, hu, a4, a6, b4⟩ := s
  intro k
  induction k with
  | zero => rfl
  | succ k ih =>
    unfold fl
    rw [ih]
    by_cases c : k = u
    · subst c
      rw [if_neg (by omega), if_neg (by omega)]
    · rw [e 4 k (by omega), e 5 k (by omega), e 3 k (by omega), e 6 k (by omega), e 1 k (by omega)]
theorem AB.goal {B : Int} {u : Nat} {a b : Gs} (w : WF B b) (s : AB u a b) : gT a = gT b ∧ goalC a = goalC b := by
  have e1 : gT a = gT b := by unfold gT; rw [s.1.n.1, s.lrE]
  refine ⟨e1, ?_⟩
  obtain ⟨e, hu, a4, a6, b4⟩ := s
  unfold goalC
  rw [e1, e 0 2 (by omega)]
  rcases gT_cases w with ⟨h, -⟩ | ⟨t, ht, h1, h2⟩
  · rw [if_pos h, if_pos h]
  · have tu : t ≠ u := fun z => by subst z; omega
    rw [if_neg (by omega), if_neg (by omega), h1, Int.toNat_natCast, e 5 t (by omega)]
theorem EU.ss {u : Nat} {a b : Gs} {i : Nat} {v : Int} (e : EU u a b) : EU u (sset a i v) (sset b i v) := fun f t h => by
  by_cases c : f = 0 ∧ t = i
  · obtain ⟨rfl, rfl⟩ := c; rw [sset_e, sset_e]
  · rw [sset_n (by omega), sset_n (by omega)]; exact e f t h
theorem EU.gr {u k : Nat} {a b : Gs} {x y : Int} (e : EU u a b) : EU u (grindTo k x y a) (grindTo k x y b) := fun f t h => by
  unfold grindTo
  rw [e 8 t (by omega), e 9 t (by omega), e 10 t (by omega), e f t h]
theorem AB.hour {u : Nat} {a b : Gs} (s : AB u a b) : AB u (hourG a) (hourG b) := by
  obtain ⟨e, hu, a4, a6, b4⟩ := s
  have e5 : a 0 5 = b 0 5 := e 0 5 (by omega)
  refine ⟨by unfold hourG; rw [e5]; exact e.ss, by unfold hourG; rw [gn_sset (by omega)]; exact hu, ?_, ?_, ?_⟩
  · rw [hour_n (by omega)]; exact a4
  · rw [hour_n (by omega), hour_n (by omega)]; exact a6
  · rw [hour_n (by omega)]; exact b4
theorem AB.move {B : Int} {u : Nat} {a b : Gs} (w : WF B b) (s : AB u a b) : AB u (moveG a) (moveG b) := by
  obtain ⟨g1, g2⟩ := s.goal w
  obtain ⟨e, hu, a4, a6, b4⟩ := s
  obtain ⟨n1, n2⟩ := e.n
  have e6 : a 0 6 = b 0 6 := e 0 6 (by omega)
  have e7 : a 0 7 = b 0 7 := e 0 7 (by omega)
  have e8 : a 0 8 = b 0 8 := e 0 8 (by omega)
  have wd : wantD a = wantD b := by unfold wantD; rw [e6, g2]
  have tn1 : tn a = tn b := by unfold tn; rw [g2, e6, e7, wd]
  have nx : nextC a = nextC b := by unfold nextC; rw [e6, e7]
  refine ⟨?_, by rw [gn_move]; exact hu, ?_, ?_, ?_⟩
  · unfold moveG
    rw [tn1, wd, e8, g2, e6, n2, nx, e7]
    by_cases c1 : tn b = 1
    · rw [if_pos c1, if_pos c1]; exact e.ss.ss
    · rw [if_neg c1, if_neg c1]
      by_cases c2 : goalC b ≠ b 0 6
      · rw [if_pos c2, if_pos c2]; exact e.ss.gr
      · rw [if_neg c2, if_neg c2]; exact e
  · rw [moveG_n (by omega)]; exact a4
  · rw [moveG_n (by omega), moveG_n (by omega)]; exact a6
  · rw [moveG_n (by omega)]; exact b4
theorem AB.take {u : Nat} {a b : Gs} (s : AB u a b) : AB u (takeG a) (takeG b) := by
  have cwe := s.cwE
  have fle : ∀ x y k, fl a x y k = fl b x y k := fun x y k => s.flE k
  obtain ⟨e, hu, a4, a6, b4⟩ := s
  obtain ⟨n1, n2⟩ := e.n
  have e6 : a 0 6 = b 0 6 := e 0 6 (by omega)
  have e3 : a 0 3 = b 0 3 := e 0 3 (by omega)
  have ta : ∀ f, takeF a (a 0 6) (a 0 3 - cw a (gn a)) f u = a f u := fun f => by
    unfold takeF
    rw [if_neg (by omega)]
  have tb : ∀ f, takeF b (b 0 6) (b 0 3 - cw b (gn b)) f u = b f u := fun f => by
    unfold takeF
    rw [if_neg (by omega)]
  have va : ∀ f, takeG a f u = a f u := fun f => by
    unfold takeG
    by_cases c : 4 ≤ f ∧ f ≤ 7
    · rw [upTo_in c.1 c.2 hu]; exact ta f
    · rw [upTo_lo (by omega)]
  have vb : ∀ f, takeG b f u = b f u := fun f => by
    unfold takeG
    by_cases c : 4 ≤ f ∧ f ≤ 7
    · rw [upTo_in c.1 c.2 (by omega)]; exact tb f
    · rw [upTo_lo (by omega)]
  refine ⟨fun f t h => ?_, by unfold takeG; rw [gn_upTo]; exact hu, by rw [va]; exact a4, by rw [va, va]; exact a6, by rw [vb]; exact b4⟩
  by_cases ct : t = u
  · subst ct
    rw [va, vb]
    exact e f t h
  · unfold takeG upTo
    by_cases c : 4 ≤ f ∧ f ≤ 7 ∧ t < gn b
    · rw [n1, if_pos c, if_pos c]
      unfold takeF
      rw [e6, e3, cwe, fle, e 4 t (by omega), e 5 t (by omega), e 3 t (by omega), e 6 t (by omega), e 1 t (by omega), e 7 t (by omega), e f t (by omega)]
    · rw [n1, if_neg c, if_neg c]
      exact e f t h
theorem AB.grow {u : Nat} {a b : Gs} (s : AB u a b) : EU u (growG a) (growG b) ∧ growG a 4 u = 1 ∧ growG a 6 u ≤ a 6 u + 1 ∧ growG a 3 u = a 3 u ∧ (growG b 4 u = 0 ∨ growG b 4 u = 3) := by
  obtain ⟨e, hu, a4, a6, b4⟩ := s
  obtain ⟨n1, n2⟩ := e.n
  have e6 : a 0 6 = b 0 6 := e 0 6 (by omega)
  have e2 : a 0 2 = b 0 2 := e 0 2 (by omega)
  have ga : ∀ f, growF a (a 0 6) (if a 0 6 = a 0 2 - 1 then 1 else 0) f u = if f = 6 then (if 99 ≤ a 6 u then a 6 u else a 6 u + 1) else a f u := fun f => by
    unfold growF
    rw [if_pos a4]
  have gb : ∀ f, growF b (b 0 6) (if b 0 6 = b 0 2 - 1 then 1 else 0) f u = b f u := fun f => by
    unfold growF
    rw [if_neg (by omega), if_neg (by omega)]
  refine ⟨fun f t h => ?_, ?_, ?_, ?_, ?_⟩
  · unfold growG upTo
    by_cases c : 4 ≤ f ∧ f ≤ 7 ∧ t < gn b
    · rw [n1, if_pos c, if_pos c]
      by_cases ct : t = u
      · subst ct
        rw [ga, gb, if_neg (by omega)]
        exact e f t h
      · unfold growF
        rw [e6, e2, e 4 t (by omega), e 6 t (by omega), e 2 t (by omega), e 7 t (by omega), e f t (by omega)]
    · rw [n1, if_neg c, if_neg c]
      exact e f t h
  · unfold growG
    rw [upTo_in (by omega) (by omega) hu, ga, if_neg (by omega)]
    exact a4
  · unfold growG
    rw [upTo_in (by omega) (by omega) hu, ga, if_pos rfl]
    split <;> omega
  · unfold growG
    rw [upTo_lo (by omega)]
  · unfold growG
    rw [upTo_in (by omega) (by omega) (by omega), gb]
    exact b4
theorem AB.passA {B : Int} {u : Nat} {a b : Gs} (w : WF B b) (s : AB u a b) : EU u (pass a) (pass b) ∧ pass a 4 u = 1 ∧ pass a 6 u ≤ a 6 u + 1 ∧ pass a 3 u = a 3 u ∧ (pass b 4 u = 0 ∨ pass b 4 u = 3) := by
  have s1 := s.hour
  have s2 := s1.move w.hour.1
  have s3 := s2.take
  have q := s3.grow
  have hu := s.2.1
  have v6 : takeG (moveG (hourG a)) 6 u = a 6 u := by
    have x : takeF (moveG (hourG a)) (moveG (hourG a) 0 6) (moveG (hourG a) 0 3 - cw (moveG (hourG a)) (gn (moveG (hourG a)))) 6 u = moveG (hourG a) 6 u := by
      unfold takeF
      rw [if_neg (by have := s2.2.2.2.1; omega)]
    unfold takeG
    rw [upTo_in (by omega) (by omega) s2.2.1, x, moveG_n (by omega), hour_n (by omega)]
  have v3 : takeG (moveG (hourG a)) 3 u = a 3 u := by
    unfold takeG
    rw [upTo_lo (by omega), moveG_n (by omega), hour_n (by omega)]
  rw [v6, v3] at q
  exact q
theorem AB.passNA {u : Nat} : ∀ (k : Nat) (a b : Gs) (B : Int), WF B b → EU u a b → u < gn a → a 4 u = 1 → (b 4 u = 0 ∨ b 4 u = 3) → a 6 u + k ≤ a 3 u → EU u (passN k a) (passN k b) := by
  intro k
  induction k with
  | zero => intro a b B w e h1 h2 h3 h4; exact e
  | succ k ih =>
    intro a b B w e h1 h2 h3 h4
    obtain ⟨q1, q2, q3, q4, q5⟩ := AB.passA w (u := u) (a := a) ⟨e, h1, h2, by omega, h3⟩
    exact ih (pass a) (pass b) (B + 1) w.pass q1 (by rw [gn_pass]; exact h1) q2 q5 (by omega)
theorem late_none {B : Int} {g : Gs} {u c m : Nat} (w : WF B g) (hu : u < gn g) (fr : g 4 u = 0 ∨ g 4 u = 3) (hm : 6 ≤ g 3 u) : passN 6 (tset g u 1 (c : Int) 0) 10 m = passN 6 g 10 m := by
  have e : EU u (tset g u 1 (c : Int) 0) g := fun f t h => tset_n (by omega)
  exact AB.passNA 6 _ g B w e (by rw [gn_tset]; exact hu) tset_4 fr (by rw [tset_6, tset_n (by omega)]; omega) 10 m (by omega)
