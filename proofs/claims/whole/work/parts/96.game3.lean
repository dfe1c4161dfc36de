/-! game: the search, pure; x's replies -/
def gW (g : Gs) : Nat := gn g * (g 0 2).toNat
def gokB (g : Gs) (w : Nat) : Bool := decide (w < gW g → (g 4 (w / (g 0 2).toNat) = 0 ∨ g 4 (w / (g 0 2).toNat) = 3))
def fS (l : Nat) (v : Nat → Int) (o : Nat → Bool) (w : Nat) (s : Int × Int) : Int × Int := if o w = true ∧ (s.2 = -1 ∨ (l = 0 ∧ s.1 < v w) ∨ (l ≠ 0 ∧ v w < s.1)) then (v w, (w : Int)) else s
def fG (l : Nat) (v : Nat → Int) (o : Nat → Bool) : Nat → Nat → Int × Int → Int × Int
  | 0, _, s => s
  | k + 1, w, s => fG l v o k (w + 1) (fS l v o w s)
theorem fS_no {l : Nat} {v : Nat → Int} {o : Nat → Bool} {w : Nat} {s : Int × Int} (h : o w = false) : fS l v o w s = s := by
  unfold fS
  rw [if_neg (fun q => by rw [h] at q; exact absurd q.1 (by decide))]
theorem fG_skip {l : Nat} {v : Nat → Int} {o : Nat → Bool} : ∀ (k w : Nat) (s : Int × Int), (∀ x, w ≤ x → x < w + k → o x = false) → fG l v o k w s = s := by
  intro k
  induction k with
  | zero => intro w s _; rfl
  | succ k ih =>
    intro w s h
    show fG l v o k (w + 1) (fS l v o w s) = s
    rw [fS_no (h w (by omega) (by omega))]
    exact ih (w + 1) s (fun x h1 h2 => h x (by omega) (by omega))
theorem fG_app {l : Nat} {v : Nat → Int} {o : Nat → Bool} : ∀ (k j w : Nat) (s : Int × Int), fG l v o (k + j) w s = fG l v o j (w + k) (fG l v o k w s) := by
  intro k
  induction k with
  | zero => intro j w s; rw [Nat.zero_add, Nat.add_zero]; rfl
  | succ k ih =>
    intro j w s
    rw [show k + 1 + j = (k + j) + 1 by omega]
    show fG l v o (k + j) (w + 1) (fS l v o w s) = fG l v o j (w + (k + 1)) (fG l v o k (w + 1) (fS l v o w s))
    rw [ih, show w + 1 + k = w + (k + 1) by omega]
theorem fG_is {l : Nat} {v : Nat → Int} {o : Nat → Bool} : ∀ (k w : Nat) (s : Int × Int), (fG l v o k w s = s ∨ ∃ x, w ≤ x ∧ x < w + k ∧ o x = true ∧ fG l v o k w s = (v x, (x : Int))) ∧ (s.2 ≠ -1 → (fG l v o k w s).2 ≠ -1) ∧ ∀ x, w ≤ x → x < w + k → o x = true → (fG l v o k w s).2 ≠ -1 := by
  intro k
  induction k with
  | zero => intro w s; exact ⟨Or.inl rfl, fun h => h, fun x h1 h2 => absurd h2 (by omega)⟩
  | succ k ih =>
    intro w s
    obtain ⟨i1, i2, i3⟩ := ih (w + 1) (fS l v o w s)
    have e : fG l v o (k + 1) w s = fG l v o k (w + 1) (fS l v o w s) := rfl
    rw [e]
    have st : (fS l v o w s = s ∧ (o w = true → s.2 ≠ -1)) ∨ (o w = true ∧ fS l v o w s = (v w, (w : Int))) := by
      by_cases c : o w = true ∧ (s.2 = -1 ∨ (l = 0 ∧ s.1 < v w) ∨ (l ≠ 0 ∧ v w < s.1))
      · refine Or.inr ⟨c.1, ?_⟩
        unfold fS
        rw [if_pos c]
      · refine Or.inl ⟨?_, fun h h2 => c ⟨h, Or.inl h2⟩⟩
        unfold fS
        rw [if_neg c]
    rcases st with ⟨st, so⟩ | ⟨so, st⟩
    · rw [st] at i1 i2 i3 ⊢
      refine ⟨?_, i2, fun x h1 h2 h3 => ?_⟩
      · rcases i1 with h | ⟨x, h1, h2, h3⟩
        · exact Or.inl h
        · exact Or.inr ⟨x, by omega, by omega, h3⟩
      · by_cases c : x = w
        · subst c; exact i2 (so h3)
        · exact i3 x (by omega) (by omega) h3
    · rw [st] at i1 i2 i3 ⊢
      have n0 : (v w, (w : Int)).2 ≠ -1 := by show (w : Int) ≠ -1; omega
      refine ⟨?_, fun _ => i2 n0, fun x h1 h2 h3 => i2 n0⟩
      rcases i1 with h | ⟨x, h1, h2, h3⟩
      · exact Or.inr ⟨w, by omega, by omega, so, h⟩
      · exact Or.inr ⟨x, by omega, by omega, h3⟩
theorem fG_min {v : Nat → Int} {o : Nat → Bool} : ∀ (k w : Nat) (s : Int × Int), (s.2 ≠ -1 → (fG 1 v o k w s).1 ≤ s.1) ∧ ∀ x, w ≤ x → x < w + k → o x = true → (fG 1 v o k w s).1 ≤ v x := by
  intro k
  induction k with
  | zero => intro w s; exact ⟨fun _ => Int.le_refl _, fun x h1 h2 => absurd h2 (by omega)⟩
  | succ k ih =>
    intro w s
    obtain ⟨i1, i2⟩ := ih (w + 1) (fS 1 v o w s)
    have e : fG 1 v o (k + 1) w s = fG 1 v o k (w + 1) (fS 1 v o w s) := rfl
    rw [e]
    by_cases c : o w = true ∧ (s.2 = -1 ∨ ((1 : Nat) = 0 ∧ s.1 < v w) ∨ ((1 : Nat) ≠ 0 ∧ v w < s.1))
    · have st : fS 1 v o w s = (v w, (w : Int)) := by unfold fS; rw [if_pos c]
      rw [st] at i1 i2 ⊢
      have j1 : (fG 1 v o k (w + 1) (v w, (w : Int))).1 ≤ v w := i1 (by show (w : Int) ≠ -1; omega)
      refine ⟨fun h => ?_, fun x h1 h2 h3 => ?_⟩
      · have := c.2; omega
      · by_cases cx : x = w
        · subst cx; exact j1
        · exact i2 x (by omega) (by omega) h3
    · have st : fS 1 v o w s = s := by unfold fS; rw [if_neg c]
      rw [st] at i1 i2 ⊢
      refine ⟨i1, fun x h1 h2 h3 => ?_⟩
      by_cases cx : x = w
      · subst cx
        have q : s.2 ≠ -1 ∧ s.1 ≤ v x := by
          refine ⟨fun z => c ⟨h3, Or.inl z⟩, ?_⟩
          rcases Int.lt_or_le (v x) s.1 with z | z
          · exact absurd ⟨h3, Or.inr (Or.inr ⟨by omega, z⟩)⟩ c
          · exact z
        have := i1 q.1
        omega
      · exact i2 x (by omega) (by omega) h3
def val2 (g g1 : Gs) (a b : Nat) (x : Nat) : Int := ld a b g (gaf g1 x)
def R2 (g g1 : Gs) (a b : Nat) : Int := (fG 1 (val2 g g1 a b) (gokB g1) (gW g1 + 1) 0 (0, -1)).1
theorem gok_end {g : Gs} {x : Nat} (h : gW g ≤ x) : gokB g x = true := by
  unfold gokB
  exact decide_eq_true (fun q => absurd q (by omega))
theorem R2_is (g g1 : Gs) (a b : Nat) : (∃ x, x ≤ gW g1 ∧ gokB g1 x = true ∧ R2 g g1 a b = val2 g g1 a b x) ∧ ∀ x, x ≤ gW g1 → gokB g1 x = true → R2 g g1 a b ≤ val2 g g1 a b x := by
  obtain ⟨h1, h2, h3⟩ := fG_is (l := 1) (v := val2 g g1 a b) (o := gokB g1) (gW g1 + 1) 0 (0, -1)
  have h4 := h3 (gW g1) (by omega) (by omega) (gok_end (Nat.le_refl _))
  refine ⟨?_, fun x hx hx2 => (fG_min (v := val2 g g1 a b) (o := gokB g1) (gW g1 + 1) 0 (0, -1)).2 x (by omega) (by omega) hx2⟩
  rcases h1 with h1 | ⟨x, x1, x2, x3, x4⟩
  · rw [h1] at h4
    exact absurd rfl h4
  · refine ⟨x, by omega, x3, ?_⟩
    unfold R2
    rw [x4]
theorem gpos {g : Gs} {t c : Nat} (hL : 0 < (g 0 2).toNat) (hc : c < (g 0 2).toNat) (ht : t < gn g) : (c + t * (g 0 2).toNat) / (g 0 2).toNat = t ∧ (c + t * (g 0 2).toNat) % (g 0 2).toNat = c ∧ c + t * (g 0 2).toNat < gW g ∧ (t + 1) * (g 0 2).toNat = t * (g 0 2).toNat + (g 0 2).toNat ∧ (t + 1) * (g 0 2).toNat ≤ gW g := by
  have e1 : (t + 1) * (g 0 2).toNat = t * (g 0 2).toNat + (g 0 2).toNat := Nat.succ_mul _ _
  have e2 : (t + 1) * (g 0 2).toNat ≤ gW g := Nat.mul_le_mul_right _ ht
  refine ⟨?_, ?_, by omega, e1, e2⟩
  · rw [Nat.add_mul_div_right _ _ hL, Nat.div_eq_of_lt hc, Nat.zero_add]
  · rw [Nat.add_mul_mod_self_right, Nat.mod_eq_of_lt hc]
theorem gok_in {g : Gs} {t c : Nat} (hL : 0 < (g 0 2).toNat) (hc : c < (g 0 2).toNat) (ht : t < gn g) : gokB g (c + t * (g 0 2).toNat) = true ↔ (g 4 t = 0 ∨ g 4 t = 3) := by
  obtain ⟨p1, p2, p3, p4, p5⟩ := gpos hL hc ht
  unfold gokB
  rw [decide_eq_true_iff, p1]
  exact ⟨fun h => h p3, fun h _ => h⟩
theorem val2_late {B : Int} {g g1 : Gs} {a b t c : Nat} (w1 : WF B g1) (hL : 0 < (g1 0 2).toNat) (hc : c < (g1 0 2).toNat) (ht : t < gn g1) (fr : g1 4 t = 0 ∨ g1 4 t = 3) (hm : 6 ≤ g1 3 t) : val2 g g1 a b (c + t * (g1 0 2).toNat) = val2 g g1 a b (gW g1) := by
  obtain ⟨p1, p2, p3, p4, p5⟩ := gpos hL hc ht
  have e1 : gmv g1 (c + t * (g1 0 2).toNat) = tset g1 t 1 (c : Int) 0 := by
    unfold gmv
    rw [if_pos (show c + t * (g1 0 2).toNat < gn g1 * (g1 0 2).toNat from p3), p1, p2]
  have e2 : gmv g1 (gW g1) = g1 := by
    unfold gmv
    rw [if_neg (by show ¬ gW g1 < gW g1; omega)]
  unfold val2 ld gaf
  rw [e1, e2, late_none w1 ht fr hm, late_none w1 ht fr hm]
theorem GO.fr {h u : Mem} {a b : Nat} {T : Int} (g : GO h a b T) (f : ∀ k, 3 ≤ k → u 47 k = h 47 k) : GO u a b T := by
  unfold GO
  rw [f 3 (by omega), f 4 (by omega), f 5 (by omega), f 6 (by omega)]
  exact g
theorem val2_in {B : Int} {g g1 : Gs} {a b x : Nat} (w : WF 9999 g) (w1 : WF B g1) (hB : B ≤ 20000) (e : gm g1 = gm g) (ha : a < gm g) (hb : b < gm g) : -50000 ≤ val2 g g1 a b x ∧ val2 g g1 a b x ≤ 50000 := by
  have w2 := WF.afd (w := x) w1
  have e2 : gm (gaf g1 x) = gm g := by
    have s := gaf_same (g := g1) (w := x)
    have q : gm (gaf g1 x) = gm g1 := by unfold gm; rw [s.1 1 (by omega)]
    rw [q, e]
  have wa := w.2.2 a ha
  have wb := w.2.2 b hb
  have va := w2.2.2 a (by omega)
  have vb := w2.2.2 b (by omega)
  have ws := w.1
  have vs := w2.1
  unfold WFm at wa wb va vb
  unfold WFs at ws vs
  unfold val2 ld
  omega
theorem s_worstReply {h : Mem} {g g1 g2 : Gs} {a b : Nat} {T : Int} {Q : Int → Mem → Prop} (w : WF 9999 g) (w1 : WF 10010 g1) (sm : SameF g g1) (ha : a < gm g) (hb : b < gm g) (go : GO h a b T) (r12 : RC h 12 g) (r48 : RC h 48 g1) (r63 : RC h 63 g2) (s63 : SameF g1 g2)
    (hQ : ∀ r u g3, RC u 63 g3 → SameF g1 g3 → Fr 63 78 h u → (h 47 0 < R2 g g1 a b → r = R2 g g1 a b) → (R2 g g1 a b ≤ h 47 0 → r ≤ h 47 0) → Q r u) : F_X3_worstReply h Q := by
  obtain ⟨n8, nc⟩ := gn8 w
  have ws := w.1
  unfold WFs at ws
  have e1 : gn g1 = gn g := by unfold gn; rw [sm.1 0 (by omega)]
  have em : gm g1 = gm g := by unfold gm; rw [sm.1 1 (by omega)]
  have eL : (g1 0 2) = g 0 2 := sm.1 2 (by omega)
  have hL : 0 < (g1 0 2).toNat := by omega
  obtain ⟨⟨x0, x1, x2, x3⟩, mn⟩ := R2_is g g1 a b
  have vin : ∀ x, -50000 ≤ val2 g g1 a b x ∧ val2 g g1 a b x ≤ 50000 := fun x => val2_in w w1 (by omega) em ha hb
  -- what holds of the worst so far, all moves ahead of m looked at
  have I : ∀ (v : Int) (m : Nat), (R2 g g1 a b ≤ v ∧ v ≤ val2 g g1 a b (gW g1) ∧ ∀ x, x < m → gokB g1 x = true → v ≤ val2 g g1 a b x ∨ v ≤ h 47 0) ↔ (R2 g g1 a b ≤ v ∧ v ≤ val2 g g1 a b (gW g1) ∧ ∀ x, x < m → gokB g1 x = true → v ≤ val2 g g1 a b x ∨ v ≤ h 47 0) := fun _ _ => Iff.rfl
  have fin : ∀ (v : Int) (u : Mem) (g3 : Gs), RC u 63 g3 → SameF g1 g3 → Fr 63 78 h u → R2 g g1 a b ≤ v → v ≤ val2 g g1 a b (gW g1) → (∀ x, x < gW g1 → gokB g1 x = true → v ≤ val2 g g1 a b x ∨ v ≤ h 47 0) → Q v u := fun v u g3 ru su fu h1 h2 h3 => by
    have z : v ≤ R2 g g1 a b ∨ v ≤ h 47 0 := by
      by_cases c : x0 = gW g1
      · subst c; exact Or.inl (by omega)
      · have := h3 x0 (by omega) x2
        omega
    exact hQ v u g3 ru su fu (fun _ => by omega) (fun _ => by omega)
  have inner : ∀ (t : Nat), t < gn g → (g1 4 t = 0 ∨ g1 4 t = 3) → ∀ (d c : Nat) (z v : Int) (u : Mem) (g3 : Gs), z = (c : Int) → (c : Int) + d = g 0 2 → RC u 63 g3 → SameF g1 g3 → Fr 63 78 h u → R2 g g1 a b ≤ v → v ≤ val2 g g1 a b (gW g1) → (∀ x, x < c + t * (g1 0 2).toNat → gokB g1 x = true → v ≤ val2 g g1 a b x ∨ v ≤ h 47 0) →
      (∀ v u g3, RC u 63 g3 → SameF g1 g3 → Fr 63 78 h u → R2 g g1 a b ≤ v → v ≤ val2 g g1 a b (gW g1) → (∀ x, x < (t + 1) * (g1 0 2).toNat → gokB g1 x = true → v ≤ val2 g g1 a b x ∨ v ≤ h 47 0) → L_X3_worstReply_24 u v ((t : Int) + 1) Q) → L_X3_worstReply_65 u v (t : Int) z Q := by
    intro t ht fr d
    induction d with
    | zero =>
      intro c z v u g3 hz hi ru su fu h1 h2 h3 K
      subst hz
      refine l_X3_worstReply_65 ?_
      unfold B_X3_worstReply_65
      have e0 : u 12 0 = g 0 2 := (fu 12 (by omega) 0).trans r12.1.1.1
      have es : (t + 1) * (g1 0 2).toNat = t * (g1 0 2).toNat + (g1 0 2).toNat := Nat.succ_mul _ _
      exact ⟨12, (fu 47 (by omega) 3).trans go.1, rfl, fun _ => ⟨⟨by omega, by omega⟩, K v u g3 ru su fu h1 h2 (fun x hx => h3 x (by omega))⟩, fun q => absurd (by omega) q⟩
    | succ d ih =>
      intro c z v u g3 hz hi ru su fu h1 h2 h3 K
      subst hz
      refine l_X3_worstReply_65 ?_
      unfold B_X3_worstReply_65
      have e0 : u 12 0 = g 0 2 := (fu 12 (by omega) 0).trans r12.1.1.1
      have e47 : u 47 0 = h 47 0 := fu 47 (by omega) 0
      obtain ⟨p1, p2, p3, p4, p5⟩ := gpos (g := g1) (t := t) (c := c) hL (by omega) (by omega)
      rw [e47]
      refine ⟨12, (fu 47 (by omega) 3).trans go.1, rfl, fun q => absurd q (by omega), fun _ => ⟨fun cb => ⟨⟨by omega, by omega⟩, K v u g3 ru su fu h1 h2 (fun x hx ho => Or.inr cb)⟩, fun cb => ?_⟩⟩
      refine s_takeTurn (p := 48) (q := 63) (w := c + t * (g1 0 2).toNat) (by omega) rfl w1 (by omega) su ru (r48.fr fu (by omega)) (Or.inl ⟨p3, by rw [p1], by rw [p2]⟩) (fun v1 rv fv => ?_)
      have fv' : Fr 63 78 h v1 := fu.tr fv
      have w2 := WF.afd (w := c + t * (g1 0 2).toNat) w1
      have e2 : gm (gaf g1 (c + t * (g1 0 2).toNat)) = gm g := by
        have s := gaf_same (g := g1) (w := c + t * (g1 0 2).toNat)
        have q : gm (gaf g1 (c + t * (g1 0 2).toNat)) = gm g1 := by unfold gm; rw [s.1 1 (by omega)]
        rw [q, em]
      refine s_leadIn (go.fr (fun k _ => fv' 47 (by omega) k)) w w2 (by omega) e2 (r12.fr fv' (by omega)) rv ha hb ⟨⟨by omega, by omega⟩, ?_⟩
      have vx := vin (c + t * (g1 0 2).toNat)
      have ev : ld a b g (gaf g1 (c + t * (g1 0 2).toNat)) = val2 g g1 a b (c + t * (g1 0 2).toNat) := rfl
      rw [ev]
      have im : (imin v (val2 g g1 a b (c + t * (g1 0 2).toNat)) = v ∧ v ≤ val2 g g1 a b (c + t * (g1 0 2).toNat)) ∨ (imin v (val2 g g1 a b (c + t * (g1 0 2).toNat)) = val2 g g1 a b (c + t * (g1 0 2).toNat) ∧ val2 g g1 a b (c + t * (g1 0 2).toNat) ≤ v) := by
        unfold imin; split <;> omega
      have okx : gokB g1 (c + t * (g1 0 2).toNat) = true := (gok_in hL (by omega) (by omega)).mpr fr
      have mx := mn _ (by omega) okx
      refine ih (c + 1) _ _ v1 _ (by omega) (by omega) rv (gaf_same) fv' (by omega) (by omega) (fun x hx ho => ?_) K
      by_cases cx : x = c + t * (g1 0 2).toNat
      · subst cx; exact Or.inl (by omega)
      · have := h3 x (by omega) ho
        omega
  have outer : ∀ (d t : Nat) (z v : Int) (u : Mem) (g3 : Gs), z = (t : Int) → t + d = gn g → RC u 63 g3 → SameF g1 g3 → Fr 63 78 h u → R2 g g1 a b ≤ v → v ≤ val2 g g1 a b (gW g1) → (∀ x, x < t * (g1 0 2).toNat → gokB g1 x = true → v ≤ val2 g g1 a b x ∨ v ≤ h 47 0) → L_X3_worstReply_24 u v z Q := by
    intro d
    induction d with
    | zero =>
      intro t z v u g3 hz hi ru su fu h1 h2 h3
      subst hz
      refine l_X3_worstReply_24 ?_
      unfold B_X3_worstReply_24
      have e0 : u (12 + 1) 0 = g 0 0 := (fu 13 (by omega) 0).trans r12.1.2.1.1
      have et : t = gn g1 := by omega
      subst et
      exact ⟨12, (fu 47 (by omega) 3).trans go.1, rfl, fun _ => fin v u g3 ru su fu h1 h2 h3, fun q => absurd (by omega) q⟩
    | succ d ih =>
      intro t z v u g3 hz hi ru su fu h1 h2 h3
      subst hz
      refine l_X3_worstReply_24 ?_
      unfold B_X3_worstReply_24
      have e0 : u (12 + 1) 0 = g 0 0 := (fu 13 (by omega) 0).trans r12.1.2.1.1
      have es : (t + 1) * (g1 0 2).toNat = t * (g1 0 2).toNat + (g1 0 2).toNat := Nat.succ_mul _ _
      have split : ∀ x, x < (t + 1) * (g1 0 2).toNat → ¬ x < t * (g1 0 2).toNat → ∃ c, c < (g1 0 2).toNat ∧ x = c + t * (g1 0 2).toNat := fun x hx hn => ⟨x - t * (g1 0 2).toNat, by omega, by omega⟩
      have r48u : RC u 48 g1 := r48.fr fu (by omega)
      have e3 : u (12 + 1 + 4) t = g1 3 t := by
        rw [sm.2 3 t (by omega)]
        exact (fu 17 (by omega) t).trans (r12.1.2.1.2 t (by omega)).2.2.2.1
      refine ⟨12, (fu 47 (by omega) 3).trans go.1, rfl, fun q => absurd q (by omega), fun _ => s_isFree (o := 49) r48u.1.2.1 rfl (by omega) (by omega) (fun fr => ⟨fun q => absurd q (by decide), fun _ => ?_⟩) (fun fr => ⟨fun _ => ⟨⟨by omega, by omega⟩, ih (t + 1) _ v u g3 (by omega) (by omega) ru su fu h1 h2 (fun x hx ho => ?_)⟩, fun q => absurd rfl q⟩)⟩
      · unfold F_X3_comesToMindTooLate
        rw [Int.toNat_natCast]
        refine ⟨12, (fu 47 (by omega) 3).trans go.1, rfl, ⟨by omega, by omega⟩, ?_⟩
        rw [e3]
        refine ⟨fun cm => ⟨fun _ => inner t (by omega) fr (g 0 2).toNat 0 0 v u g3 rfl (by omega) ru su fu h1 h2 (fun x hx => h3 x (by omega)) (fun v2 u2 g4 a1 a2 a3 a4 a5 a6 => ih (t + 1) _ v2 u2 g4 (by omega) (by omega) a1 a2 a3 a4 a5 a6), fun q => absurd rfl q⟩, fun cm => ⟨fun q => absurd q (by decide), fun _ => ⟨⟨by omega, by omega⟩, ih (t + 1) _ v u g3 (by omega) (by omega) ru su fu h1 h2 (fun x hx ho => ?_)⟩⟩⟩
        by_cases cx : x < t * (g1 0 2).toNat
        · exact h3 x cx ho
        · obtain ⟨c, hc, rfl⟩ := split x hx cx
          rw [val2_late w1 hL hc (by omega) fr (by omega)]
          exact Or.inl h2
      · by_cases cx : x < t * (g1 0 2).toNat
        · exact h3 x cx ho
        · obtain ⟨c, hc, rfl⟩ := split x hx cx
          exact absurd ((gok_in hL hc (by omega)).mp ho) fr
  unfold F_X3_worstReply
  refine s_takeTurn (p := 48) (q := 63) (w := gW g1) (by omega) rfl w1 (by omega) s63 r63 r48 (Or.inr ⟨Nat.le_refl _, rfl⟩) (fun v1 rv fv => ?_)
  have w2 := WF.afd (w := gW g1) w1
  have e2 : gm (gaf g1 (gW g1)) = gm g := by
    have s := gaf_same (g := g1) (w := gW g1)
    have q : gm (gaf g1 (gW g1)) = gm g1 := by unfold gm; rw [s.1 1 (by omega)]
    rw [q, em]
  refine s_leadIn (go.fr (fun k _ => fv 47 (by omega) k)) w w2 (by omega) e2 (r12.fr fv (by omega)) rv ha hb ?_
  exact outer (gn g) 0 0 _ v1 _ rfl (by omega) rv gaf_same fv (mn _ (Nat.le_refl _) (gok_end (Nat.le_refl _))) (Int.le_refl _) (fun x hx => absurd hx (by omega))
