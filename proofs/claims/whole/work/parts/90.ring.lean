/-! ring: what is compared -/
def simG (a b : Gs) : Prop := a 0 6 = b 0 6 ∧ a 0 7 = b 0 7 ∧ ∀ t, t < gn a → a 4 t = b 4 t ∧ a 5 t = b 5 t ∧ a 6 t = b 6 t
def noDup (g : Gs) (n : Nat) : Prop := ∀ j k, j < k → k < n → ¬ simG (passN j g) (passN k g)
theorem simG.sym {a b : Gs} (e : gn a = gn b) (s : simG a b) : simG b a := ⟨s.1.symm, s.2.1.symm, fun t ht => by
  obtain ⟨x, y, z⟩ := s.2.2 t (by omega)
  exact ⟨x.symm, y.symm, z.symm⟩⟩
theorem simG.tr {a b c : Gs} (e : gn a = gn b) (s : simG a b) (s2 : simG b c) : simG a c := ⟨s.1.trans s2.1, s.2.1.trans s2.2.1, fun t ht => by
  obtain ⟨x, y, z⟩ := s.2.2 t ht
  obtain ⟨x2, y2, z2⟩ := s2.2.2 t (by omega)
  exact ⟨x.trans x2, y.trans y2, z.trans z2⟩⟩
theorem ring_end (g : Gs) : ∀ n, noDup g n ∨ ∃ i j, j < i ∧ i < n ∧ noDup g i ∧ simG (passN j g) (passN i g) := by
  intro n
  induction n with
  | zero => exact Or.inl (fun j k h1 h2 => absurd h2 (by omega))
  | succ n ih =>
    rcases ih with h | ⟨i, j, h1, h2, h3⟩
    · rcases Classical.em (∃ j, j < n ∧ simG (passN j g) (passN n g)) with ⟨j, h4, h5⟩ | h4
      · exact Or.inr ⟨n, j, h4, by omega, h, h5⟩
      · refine Or.inl (fun j k h1 h2 s => ?_)
        by_cases c : k = n
        · subst c; exact h4 ⟨j, h1, s⟩
        · exact h j k h1 (by omega) s
    · exact Or.inr ⟨i, j, h1, by omega, h3⟩
/-- where the search ends: hour i0 (201: nowhere) with r -/
def ringE (g : Gs) (i0 : Nat) (r : Int) : Prop := noDup g i0 ∧ ((i0 = 201 ∧ r = -1) ∨ (i0 ≤ 200 ∧ ∃ j0, j0 < i0 ∧ simG (passN j0 g) (passN i0 g) ∧ r = (i0 : Int) - (j0 : Int)))
theorem ringE_ex (g : Gs) : ∃ i0 r, ringE g i0 r := by
  rcases ring_end g 201 with h | ⟨i, j, h1, h2, h3, h4⟩
  · exact ⟨201, -1, h, Or.inl ⟨rfl, rfl⟩⟩
  · exact ⟨i, _, h3, Or.inr ⟨by omega, j, h1, h4, rfl⟩⟩
theorem ringE_one {g : Gs} {i0 j0 j : Nat} (nd : noDup g i0) (hj : j < i0) (h0 : j0 < i0) (s0 : simG (passN j0 g) (passN i0 g)) (s : simG (passN j g) (passN i0 g)) : j = j0 := by
  have e : ∀ a b, gn (passN a g) = gn (passN b g) := fun a b => by rw [gn_passN, gn_passN]
  rcases Nat.lt_trichotomy j j0 with c | c | c
  · exact absurd (s.tr (e _ _) (s0.sym (e _ _))) (nd j j0 c h0)
  · exact c
  · exact absurd (s0.tr (e _ _) (s.sym (e _ _))) (nd j0 j c hj)
def dig (g : Gs) (t : Nat) : Nat := 2 ^ 11 * (g 4 t).toNat + (2 ^ 7 * (g 5 t).toNat + (g 6 t).toNat)
def pcN (g : Gs) (f : Nat) : Nat → Nat
  | 0 => 0
  | k + 1 => if f + k < gn g then 2 ^ 13 * pcN g f k + dig g (f + k) else pcN g f k
theorem dig_lt {B : Int} {g : Gs} {t : Nat} (w : WF B g) (ht : t < gn g) : dig g t < 2 ^ 13 ∧ (g 5 t).toNat < 16 ∧ (g 6 t).toNat < 128 ∧ (g 4 t).toNat < 4 := by
  have wt := w.2.1 t ht
  have ws := w.1
  unfold WFt at wt
  unfold WFs at ws
  unfold dig
  omega
theorem pcN_lt {B : Int} {g : Gs} {f : Nat} (w : WF B g) : ∀ k, pcN g f k < 2 ^ (13 * k) := by
  intro k
  induction k with
  | zero => exact Nat.zero_lt_one
  | succ k ih =>
    have e : 2 ^ (13 * (k + 1)) = 2 ^ 13 * 2 ^ (13 * k) := by rw [← Nat.pow_add]; congr 1; omega
    rw [e]
    unfold pcN
    split
    · rename_i c
      have d := (dig_lt w c).1
      generalize pcN g f k = A at ih ⊢
      generalize 2 ^ (13 * k) = P at ih ⊢
      generalize dig g (f + k) = D at d ⊢
      omega
    · generalize pcN g f k = A at ih ⊢
      generalize 2 ^ (13 * k) = P at ih ⊢
      omega
theorem pcN_eq {B B' : Int} {a b : Gs} {f : Nat} (w : WF B a) (w' : WF B' b) (e : gn a = gn b) : ∀ k, pcN a f k = pcN b f k ↔ ∀ t, f ≤ t → t < f + k → t < gn a → dig a t = dig b t := by
  intro k
  induction k with
  | zero => exact ⟨fun _ t h1 h2 => absurd h2 (by omega), fun _ => rfl⟩
  | succ k ih =>
    unfold pcN
    rw [← e]
    by_cases c : f + k < gn a
    · rw [if_pos c, if_pos c]
      have d1 := (dig_lt w c).1
      have d2 := (dig_lt w' (e ▸ c)).1
      refine ⟨fun h => ?_, fun h => ?_⟩
      · have h1 : dig a (f + k) = dig b (f + k) ∧ pcN a f k = pcN b f k := by omega
        intro t t1 t2 t3
        by_cases z : t = f + k
        · subst z; exact h1.1
        · exact (ih.mp h1.2) t t1 (by omega) t3
      · rw [ih.mpr (fun t t1 t2 t3 => h t t1 (by omega) t3), h (f + k) (by omega) (by omega) c]
    · rw [if_neg c, if_neg c]
      refine ⟨fun h t t1 t2 t3 => ih.mp h t t1 (by omega) t3, fun h => ih.mpr (fun t t1 t2 t3 => h t t1 (by omega) t3)⟩
def few (g : Gs) : Nat := 2 ^ 1 * (2 ^ 4 * pcN g 0 4 + (g 0 6).toNat) + (g 0 7).toNat
theorem sim_pic {B B' : Int} {a b : Gs} (w : WF B a) (w' : WF B' b) (e : gn a = gn b) : simG a b ↔ few a = few b ∧ pcN a 4 4 = pcN b 4 4 := by
  obtain ⟨n8, nc⟩ := gn8 w
  have ws := w.1
  have ws' := w'.1
  unfold WFs at ws ws'
  have p1 := pcN_eq (f := 0) w w' e 4
  have p2 := pcN_eq (f := 4) w w' e 4
  refine ⟨fun s => ⟨?_, p2.mpr (fun t t1 t2 t3 => ?_)⟩, fun h => ?_⟩
  · unfold few
    rw [s.1, s.2.1, p1.mpr (fun t t1 t2 t3 => ?_)]
    unfold dig
    rw [(s.2.2 t t3).1, (s.2.2 t t3).2.1, (s.2.2 t t3).2.2]
  · unfold dig
    rw [(s.2.2 t t3).1, (s.2.2 t t3).2.1, (s.2.2 t t3).2.2]
  · obtain ⟨h1, h2⟩ := h
    unfold few at h1
    have h3 : (a 0 6).toNat = (b 0 6).toNat ∧ (a 0 7).toNat = (b 0 7).toNat ∧ pcN a 0 4 = pcN b 0 4 := by omega
    refine ⟨by omega, by omega, fun t ht => ?_⟩
    have ed : dig a t = dig b t := by
      by_cases c : t < 4
      · exact p1.mp h3.2.2 t (by omega) (by omega) ht
      · exact p2.mp h2 t (by omega) (by omega) ht
    have da := dig_lt w ht
    have db := dig_lt w' (e ▸ ht)
    have wt := w.2.1 t ht
    have wt' := w'.2.1 t (e ▸ ht)
    unfold WFt at wt wt'
    unfold dig at ed
    omega
theorem ishl_11 : ∀ s, s < 4 → ishl ((s : Nat) : Int) 11 = ((2 ^ 11 * s : Nat) : Int) := by decide +kernel
theorem ishl_7 : ∀ s, s < 16 → ishl ((s : Nat) : Int) 7 = ((2 ^ 7 * s : Nat) : Int) := by decide +kernel
theorem l_or3 {P A B C : Nat} (hP : 2 ^ 13 * P < 2 ^ 62) (hA : A < 4) (hB : B < 16) (hC : C < 128) : llor (llor (llor (lshl (P : Int) 13) ((2 ^ 11 * A : Nat) : Int)) ((2 ^ 7 * B : Nat) : Int)) (C : Int) = ((2 ^ 13 * P + (2 ^ 11 * A + (2 ^ 7 * B + C)) : Nat) : Int) := by
  have e1 : lshl (P : Int) 13 = ((2 ^ 13 * P : Nat) : Int) := l_shl (a := P) (k := 13) (by omega) (by omega)
  rw [e1, l_or (a := P) (k := 13) (by omega) (by omega)]
  rw [show 2 ^ 13 * P + 2 ^ 11 * A = 2 ^ 11 * (4 * P + A) by omega, l_or (a := 4 * P + A) (k := 11) (by omega) (by omega)]
  rw [show 2 ^ 11 * (4 * P + A) + 2 ^ 7 * B = 2 ^ 7 * (64 * P + 16 * A + B) by omega, l_or (a := 64 * P + 16 * A + B) (k := 7) (by omega) (by omega)]
  congr 1
  omega
theorem s_picture {h : Mem} {o : Nat} {g : Gs} {B : Int} {f : Nat} {x : Int} {Q : Int → Mem → Prop} (hx : x = (f : Int)) (hf : f = 0 ∨ f = 4) (hl : lay o = (0, 9)) (hR : RT h o g) (hW : WF B g) (hQ : Q ((pcN g f 4 : Nat) : Int) h) : F_X9_pictureFrom h o x Q := by
  subst hx
  obtain ⟨n8, nc⟩ := gn8 hW
  unfold F_X9_pictureFrom
  have past : ∀ k d, k + d = 4 → gn g ≤ f + k → pcN g f k = pcN g f 4 := by
    intro k d
    induction d generalizing k with
    | zero => intro e _; have : k = 4 := by omega
              rw [this]
    | succ d ih =>
      intro e c
      rw [← ih (k + 1) (by omega) (by omega)]
      show pcN g f k = if f + k < gn g then 2 ^ 13 * pcN g f k + dig g (f + k) else pcN g f k
      rw [if_neg (by omega)]
  have key : ∀ (d k : Nat) (z : Int), z = (f : Int) + (k : Int) → k + d = 4 → L_X9_pictureFrom_5 h o (f : Int) ((pcN g f k : Nat) : Int) z Q := by
    intro d
    induction d with
    | zero =>
      intro k z hz hi
      subst hz
      obtain rfl : k = 4 := by omega
      refine l_X9_pictureFrom_5 hl ?_
      unfold B_X9_pictureFrom_5
      exact ⟨⟨by omega, by omega⟩, fun _ => hQ, fun c => absurd (by omega) c⟩
    | succ d ih =>
      intro k z hz hi
      subst hz
      refine l_X9_pictureFrom_5 hl ?_
      unfold B_X9_pictureFrom_5
      rw [hR.1]
      refine ⟨⟨by omega, by omega⟩, fun c => absurd c (by omega), fun _ => ⟨fun c => ?_, fun c => ⟨⟨by omega, by omega⟩, fun x6 e6 => ⟨⟨by omega, by omega⟩, ?_⟩⟩⟩⟩
      · rw [past k (d + 1) hi (by omega)]
        exact hQ
      · have ht : f + k < gn g := by omega
        have en : ((f : Int) + (k : Int)).toNat = f + k := by omega
        obtain ⟨-, -, -, -, e4, e5, e6', -⟩ := hR.2 (f + k) ht
        have wt := hW.2.1 (f + k) ht
        unfold WFt at wt
        have dl := dig_lt hW ht
        have pl := pcN_lt (f := f) hW k
        have pw : 2 ^ (13 * k) ≤ 2 ^ 39 := Nat.pow_le_pow_right (by decide) (by omega)
        have c4 : g 4 (f + k) = (((g 4 (f + k)).toNat : Nat) : Int) := by omega
        have c5 : g 5 (f + k) = (((g 5 (f + k)).toNat : Nat) : Int) := by omega
        have c6 : g 6 (f + k) = (((g 6 (f + k)).toNat : Nat) : Int) := by omega
        rw [en, e4, e5, e6', c4, c5, c6, ishl_11 _ dl.2.2.2, ishl_7 _ dl.2.1, l_or3 (by omega) dl.2.2.2 dl.2.1 dl.2.2.1] at e6
        have es : pcN g f (k + 1) = 2 ^ 13 * pcN g f k + dig g (f + k) := by
          show (if f + k < gn g then 2 ^ 13 * pcN g f k + dig g (f + k) else pcN g f k) = _
          rw [if_pos ht]
        have e7 : x6 = ((pcN g f (k + 1) : Nat) : Int) := by rw [es]; exact e6
        rw [e7]
        exact ih (k + 1) _ (by omega) (by omega)
  exact key 4 0 (f : Int) (by omega) (by omega)
