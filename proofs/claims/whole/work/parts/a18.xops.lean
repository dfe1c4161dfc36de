/-! the parser, pure: where the next token begins, or which fault and where -/
abbrev Er : Type := Except (Int × Nat) Nat
def bnd {α β : Type} (c : Except (Int × Nat) α) (f : α → Except (Int × Nat) β) : Except (Int × Nat) β := match c with
  | .ok a => f a
  | .error e => .error e
def flt {α : Type} (B : Nat → Int) (n s : Nat) (w : Int) : Except (Int × Nat) α := .error (if tke B n s = 4 then 1 else w, s)
def nx (B : Nat → Int) (n s : Nat) : Nat := rn Pb B n (tee B n s)
def pKw (B : Nat → Int) (n : Nat) (k : Int) (s : Nat) : Er := if tke B n s = 1 ∧ tke_v B n s = k then .ok (nx B n s) else flt B n s 2
def pSg (B : Nat → Int) (n : Nat) (c : Int) (s : Nat) : Er := if tke B n s = 3 ∧ tke_v B n s = c then .ok (nx B n s) else flt B n s 2
def pNo (B : Nat → Int) (n : Nat) (lo hi : Int) (s : Nat) : Er := if tke B n s = 2 then (if lo ≤ tke_v B n s ∧ tke_v B n s ≤ hi then .ok (nx B n s) else flt B n s 4) else flt B n s 2
def pNm (B : Nat → Int) (n s : Nat) : Er := if tke B n s = 1 ∧ tke_v B n s = -1 ∧ tlt B n s ≠ 0 then .ok s else flt B n s 2
theorem tee_in {B : Nat → Int} {n s : Nat} (h : s ≤ n) : s ≤ tee B n s ∧ tee B n s ≤ n ∧ (tke B n s ≠ 0 → tke B n s ≠ 4 → s < tee B n s) := by
  unfold tee tke
  by_cases c : n ≤ s
  · rw [if_pos c, if_pos c]; exact ⟨Nat.le_refl _, h, fun q => absurd rfl q⟩
  · rw [if_neg c, if_neg c]
    by_cases d : Pl (B s) = true
    · rw [if_pos d, if_pos d, rn_go (by omega) d]
      have := rn_in (P := Pl) (B := B) (n := n) (p := s + 1) (by omega)
      exact ⟨by omega, by omega, fun _ _ => by omega⟩
    · rw [if_neg d, if_neg d]
      by_cases e : Pd (B s) = true
      · rw [if_pos e, if_pos e, rn_go (by omega) e]
        have := rn_in (P := Pd) (B := B) (n := n) (p := s + 1) (by omega)
        exact ⟨by omega, by omega, fun _ _ => by omega⟩
      · rw [if_neg e, if_neg e]
        by_cases f : Ps (B s) = true
        · rw [if_pos f, if_pos f]; exact ⟨by omega, by omega, fun _ _ => by omega⟩
        · rw [if_neg f, if_neg f]; exact ⟨by omega, by omega, fun _ q => absurd rfl q⟩
theorem nx_in {B : Nat → Int} {n s : Nat} (h : s ≤ n) : s ≤ nx B n s ∧ nx B n s ≤ n ∧ (tke B n s ≠ 0 → tke B n s ≠ 4 → s < nx B n s) := by
  obtain ⟨a, b, c⟩ := tee_in (B := B) h
  obtain ⟨d, e, _⟩ := rn_in (P := Pb) (B := B) (n := n) (p := tee B n s) b
  unfold nx
  exact ⟨by omega, e, fun p q => by have := c p q; omega⟩
theorem tlt_in {B : Nat → Int} {n s : Nat} (h : s ≤ n) : 0 ≤ tlt B n s ∧ tlt B n s < 1099511627776 := by
  unfold tlt
  by_cases c : n ≤ s
  · rw [if_pos c]; exact ⟨by omega, by omega⟩
  · rw [if_neg c]
    by_cases d : Pl (B s) = true
    · rw [if_pos d]
      obtain ⟨r1, r2, r3, r4⟩ := rn_in (P := Pl) (B := B) (n := n) (p := s) (by omega)
      by_cases e : rn Pl B n s - s ≤ 8
      · rw [if_pos e]
        exact (x5_nm e (fun i hi => r3 (s + i) (by omega) (by omega))).1
      · rw [if_neg e]; exact ⟨by omega, by omega⟩
    · rw [if_neg d]; exact ⟨by omega, by omega⟩
theorem kwv_in {B : Nat → Int} {n s : Nat} (h : tke B n s = 1) : -1 ≤ tke_v B n s ∧ tke_v B n s < 24 := by
  obtain ⟨t1, t2, _, _⟩ := tke_one h
  unfold tke_v
  rw [if_neg (by omega), if_pos t2]
  split
  · have := kwF_in (w := x5 B s (rn Pl B n s - s)) 24; omega
  · omega
theorem nov_in {B : Nat → Int} {n s : Nat} (h : tke B n s = 2) : 0 ≤ tke_v B n s ∧ tke_v B n s ≤ 9999 := by
  unfold tke at h
  by_cases c : n ≤ s
  · rw [if_pos c] at h; exact absurd h (by decide)
  · rw [if_neg c] at h
    by_cases d : Pl (B s) = true
    · rw [if_pos d] at h; exact absurd h (by decide)
    · rw [if_neg d] at h
      by_cases e : Pd (B s) = true
      · rw [if_pos e] at h
        unfold tke_v
        rw [if_neg c, if_neg d, if_pos e]
        obtain ⟨r1, r2, r3, r4⟩ := rn_in (P := Pd) (B := B) (n := n) (p := s) (by omega)
        have l := nv_lt (B := B) (s := s) (min (rn Pd B n s - s) 4) (fun i hi => r3 (s + i) (by omega) (by omega))
        have p : 10 ^ (min (rn Pd B n s - s) 4) ≤ 10 ^ 4 := Nat.pow_le_pow_right (by decide) (by omega)
        generalize 10 ^ (min (rn Pd B n s - s) 4) = PP at l p
        omega
      · rw [if_neg e] at h
        by_cases f : Ps (B s) = true
        · rw [if_pos f] at h; exact absurd h (by decide)
        · rw [if_neg f] at h; exact absurd h (by decide)
/-! x's side, going on harmlessly behind a fault -/
def XS (h : Mem) (B : Nat → Int) (n : Nat) : Er → Prop
  | .ok s => XT h B n s ∧ (h 9 9 = 0 ∧ h 9 10 = -1)
  | .error e => (∃ s, XT h B n s) ∧ h 9 9 = e.1 ∧ e.1 ≠ 0 ∧ h 9 10 = (e.2 : Int)
def F9f (h u : Mem) : Prop := ∀ i k, ¬ (i = 9 ∧ 4 ≤ k ∧ k ≤ 10) → u i k = h i k
theorem F9f.rf {h : Mem} : F9f h h := fun _ _ _ => rfl
theorem F9f.tr {h h1 h2 : Mem} (a : F9f h h1) (b : F9f h1 h2) : F9f h h2 := fun i k p => (b i k p).trans (a i k p)
theorem F9f.of {h u : Mem} (a : F9 h u) : F9f h u := fun i k p => a i k (by omega)
theorem XS.fr {h u : Mem} {B : Nat → Int} {n : Nat} {c : Er} (x : XS h B n c) (f : ∀ i k, (i = 9 ∧ 3 ≤ k ∧ k ≤ 10) ∨ i = 10 ∨ i = 11 → u i k = h i k) : XS u B n c := by
  cases c with
  | ok s =>
    obtain ⟨a, b⟩ := x
    exact ⟨a.fr (fun i k q => f i k (by omega)), by rw [f 9 9 (by omega)]; exact b.1, by rw [f 9 10 (by omega)]; exact b.2⟩
  | error e =>
    obtain ⟨⟨s, a⟩, b, b2, b3⟩ := x
    exact ⟨⟨s, a.fr (fun i k q => f i k (by omega))⟩, by rw [f 9 9 (by omega)]; exact b, b2, by rw [f 9 10 (by omega)]; exact b3⟩
section XO
variable {h : Mem} {B : Nat → Int} {n : Nat} {c : Er}
theorem XS.tx (x : XS h B n c) : ∃ s, XT h B n s := by
  cases c with
  | ok s => exact ⟨s, x.1⟩
  | error e => exact x.1
theorem XS.le {s : Nat} (x : XS h B n (.ok s)) : s ≤ n := x.1.2.1
theorem sx_advance {Q : Mem → Prop} (x : XS h B n c) (hQ : ∀ u, F9f h u → XS u B n (bnd c (fun s => .ok (nx B n s))) → Q u) : F_X8_advance h Q := by
  cases c with
  | ok s =>
    obtain ⟨⟨x0, x1, x2, x3⟩, b⟩ := x
    refine s_advance x0 (tee_in x1).2.1 x2 (fun u f t => hQ u (F9f.of f) ⟨t, ?_, ?_⟩)
    · rw [f 9 9 (by omega)]; exact b.1
    · rw [f 9 10 (by omega)]; exact b.2
  | error e =>
    obtain ⟨⟨s, x0, x1, x2, x3⟩, b, b2, b3⟩ := x
    refine s_advance x0 (tee_in x1).2.1 x2 (fun u f t => hQ u (F9f.of f) ⟨⟨_, t⟩, ?_, b2, ?_⟩)
    · rw [f 9 9 (by omega)]; exact b
    · rw [f 9 10 (by omega)]; exact b3
theorem sx_fail {w : Int} {Q : Mem → Prop} (x : XS h B n c) (hw : w ≠ 0) (hQ : ∀ u, F9f h u → XS u B n (bnd c (fun s => flt B n s w)) → Q u) : F_X8_fail h w Q := by
  unfold F_X8_fail
  cases c with
  | ok s =>
    obtain ⟨t, b⟩ := x
    obtain ⟨x0, x1, x2, x3, x4, x5⟩ := t
    refine ⟨fun q => absurd b.1 q, fun _ => ⟨fun q h1 e1 h2 e2 => ?_, fun q h1 e1 h2 e2 => ?_⟩⟩
    · subst e2 e1
      refine hQ _ (fun i k p => by rw [mset_o (by omega), mset_o (by omega)]) ⟨⟨s, XT.fr ⟨x0, x1, x2, x3, x4, x5⟩ (fun i k p => by rw [mset_o (by omega), mset_o (by omega)])⟩, ?_, ?_, ?_⟩
      · rw [mset_k (by omega), mset_at]; show w = if tke B n s = 4 then 1 else w; rw [if_neg (by rw [← x3]; exact q)]
      · show (if tke B n s = 4 then 1 else w) ≠ 0; rw [if_neg (by rw [← x3]; exact q)]; exact hw
      · rw [mset_at, mset_k (by omega)]; exact x4
    · subst e2 e1
      refine hQ _ (fun i k p => by rw [mset_o (by omega), mset_o (by omega)]) ⟨⟨s, XT.fr ⟨x0, x1, x2, x3, x4, x5⟩ (fun i k p => by rw [mset_o (by omega), mset_o (by omega)])⟩, ?_, ?_, ?_⟩
      · rw [mset_k (by omega), mset_at]; show (1 : Int) = if tke B n s = 4 then 1 else w; rw [if_pos (by rw [← x3]; exact q)]
      · show (if tke B n s = 4 then 1 else w) ≠ 0; rw [if_pos (by rw [← x3]; exact q)]; decide
      · rw [mset_at, mset_k (by omega)]; exact x4
  | error e =>
    obtain ⟨a, b, b2, b3⟩ := x
    exact ⟨fun _ => hQ h F9f.rf ⟨a, b, b2, b3⟩, fun q => absurd (b.symm.trans q) b2⟩
theorem sx_isGoingOn {Q : Int → Mem → Prop} (x : XS h B n c) (hQ : ∀ r : Int, (∀ s, c = .ok s → r = if tke B n s = 0 then 0 else 1) → (∀ e, c = .error e → r = 0) → Q r h) : F_X8_isGoingOn h Q := by
  unfold F_X8_isGoingOn
  cases c with
  | ok s =>
    obtain ⟨⟨x0, x1, x2, x3, x4⟩, b⟩ := x
    refine ⟨fun q => absurd b.1 q, fun _ => ⟨fun q => ?_, fun q => ?_⟩⟩
    · exact hQ 0 (fun t ht => by cases ht; rw [if_pos (x3.symm.trans q)]) (fun e he => by cases he)
    · exact hQ 1 (fun t ht => by cases ht; rw [if_neg (fun z => q (x3.trans z))]) (fun e he => by cases he)
  | error e =>
    obtain ⟨a, b, b2, b3⟩ := x
    exact ⟨fun _ => hQ 0 (fun t ht => by cases ht) (fun e he => rfl), fun q => absurd (b.symm.trans q) b2⟩
theorem sx_isWord {k : Int} {Q : Int → Mem → Prop} (x : XS h B n c) (hQ : ∀ r : Int, (∀ s, c = .ok s → r = if tke B n s = 1 ∧ tke_v B n s = k then 1 else 0) → (∀ e, c = .error e → r = 0) → Q r h) : F_X8_isWord h k Q := by
  unfold F_X8_isWord
  cases c with
  | ok s =>
    obtain ⟨⟨x0, x1, x2, x3, x4, x5, x6⟩, b⟩ := x
    refine ⟨fun q => absurd b.1 q, fun _ => ⟨fun q => ?_, fun q => ⟨fun q2 => ?_, fun q2 => ?_⟩⟩⟩
    · exact hQ 0 (fun t ht => by cases ht; rw [if_neg (fun z => q (x3.trans z.1))]) (fun e he => rfl)
    · exact hQ 0 (fun t ht => by cases ht; rw [if_neg (fun z => q2 (x5.trans z.2))]) (fun e he => rfl)
    · exact hQ 1 (fun t ht => by cases ht; rw [if_pos ⟨x3.symm.trans q, x5.symm.trans q2⟩]) (fun e he => by cases he)
  | error e =>
    obtain ⟨a, b, b2, b3⟩ := x
    exact ⟨fun _ => hQ 0 (fun t ht => by cases ht) (fun e he => rfl), fun q => absurd (b.symm.trans q) b2⟩
/-- which word of x's stands there, -1 for none -/
def xk (B : Nat → Int) (n s : Nat) : Int := if tke B n s = 1 then tke_v B n s else -1
theorem sx_keyword {Q : Int → Mem → Prop} (x : XS h B n c) (hQ : ∀ r : Int, (∀ s, c = .ok s → r = xk B n s) → Q r h) : F_X8_keyword h Q := by
  have aux : ∀ s, XT h B n s → ¬ (h 9 5 = 1) → -1 = xk B n s := fun s t q => by unfold xk; rw [if_neg (fun z => q (t.2.2.2.1.trans z))]
  have aux2 : ∀ s, XT h B n s → h 9 5 = 1 → h 9 7 = xk B n s := fun s t q => by unfold xk; rw [if_pos (t.2.2.2.1.symm.trans q)]; exact t.2.2.2.2.2.1
  unfold F_X8_keyword
  exact ⟨fun q => hQ _ (fun s hs => by subst hs; exact aux s x.1 q), fun q => hQ _ (fun s hs => by subst hs; exact aux2 s x.1 q)⟩
theorem sx_takeKeyword {k : Int} {Q : Mem → Prop} (x : XS h B n c) (hQ : ∀ u, F9f h u → XS u B n (bnd c (pKw B n k)) → Q u) : F_X8_takeKeyword h k Q := by
  unfold F_X8_takeKeyword
  refine sx_isWord x (fun r h1 h2 => ⟨fun q => ?_, fun q => ?_⟩)
  · refine sx_fail x (w := 2) (by decide) (fun u f y => hQ u f ?_)
    cases c with
    | ok s =>
      have e : pKw B n k s = flt B n s 2 := by
        unfold pKw
        rw [if_neg (fun z => by rw [h1 s rfl, if_pos z] at q; exact absurd q (by decide))]
      show XS u B n (pKw B n k s)
      rw [e]; exact y
    | error e => exact y
  · refine sx_advance x (fun u f y => hQ u f ?_)
    cases c with
    | ok s =>
      have e : pKw B n k s = .ok (nx B n s) := by
        unfold pKw
        by_cases z : tke B n s = 1 ∧ tke_v B n s = k
        · rw [if_pos z]
        · exact absurd ((h1 s rfl).trans (if_neg z)) q
      show XS u B n (pKw B n k s)
      rw [e]; exact y
    | error e => exact absurd (h2 e rfl) q
theorem sx_takeSemicolon {Q : Mem → Prop} (x : XS h B n c) (hQ : ∀ u, F9f h u → XS u B n (bnd c (pSg B n 59)) → Q u) : F_X8_takeSemicolon h Q := by
  unfold F_X8_takeSemicolon
  have bad : (∀ s, c = .ok s → ¬ (tke B n s = 3 ∧ tke_v B n s = 59)) → F_X8_fail h 2 (fun h1 => Q h1) := fun q => by
    refine sx_fail x (w := 2) (by decide) (fun u f y => hQ u f ?_)
    cases c with
    | ok s =>
      show XS u B n (pSg B n 59 s)
      unfold pSg
      rw [if_neg (q s rfl)]; exact y
    | error e => exact y
  refine ⟨fun q => bad (fun s hs z => ?_), fun q => ⟨fun q2 => bad (fun s hs z => ?_), fun q2 => ⟨fun q3 => bad (fun s hs z => ?_), fun q3 => ?_⟩⟩⟩
  · subst hs; exact q (x.1.2.2.2.1.trans z.1)
  · subst hs; exact q2 (x.1.2.2.2.2.2.1.trans z.2)
  · subst hs; exact q3 x.2.1
  · refine sx_advance x (fun u f y => hQ u f ?_)
    cases c with
    | ok s =>
      show XS u B n (pSg B n 59 s)
      unfold pSg
      rw [if_pos ⟨x.1.2.2.2.1.symm.trans q, x.1.2.2.2.2.2.1.symm.trans q2⟩]; exact y
    | error e => exact absurd (x.2.1.symm.trans q3) x.2.2.1
theorem sx_takeNumberOf {lo hi : Int} {Q : Int → Mem → Prop} (x : XS h B n c) (hl : lo ≤ hi) (hQ : ∀ r u, F9f h u → XS u B n (bnd c (pNo B n lo hi)) → lo ≤ r ∧ r ≤ hi → (∀ s, c = .ok s → ∀ s', pNo B n lo hi s = .ok s' → r = tke_v B n s) → Q r u) : F_X8_takeNumberOf h lo hi Q := by
  unfold F_X8_takeNumberOf
  cases c with
  | ok s =>
    obtain ⟨⟨x0, x1, x2, x3, x4, x5, x6⟩, b⟩ := x
    have x : XS h B n (.ok s) := ⟨⟨x0, x1, x2, x3, x4, x5, x6⟩, b⟩
    refine ⟨fun q => absurd b.1 q, fun _ => ⟨fun q => ?_, fun q => ?_⟩⟩
    · have k2 : tke B n s = 2 := x3.symm.trans q
      have bad : ¬ (lo ≤ tke_v B n s ∧ tke_v B n s ≤ hi) → F_X8_fail h 4 (fun h3 => Q lo h3) := fun z => by
        have e : pNo B n lo hi s = flt B n s 4 := by unfold pNo; rw [if_pos k2, if_neg z]
        refine sx_fail x (w := 4) (by decide) (fun u f y => hQ lo u f ?_ ⟨Int.le_refl _, hl⟩ (fun t ht s' hs => ?_))
        · show XS u B n (pNo B n lo hi s); rw [e]; exact y
        · cases ht; rw [e] at hs; cases hs
      rw [x5]
      refine ⟨fun z => bad (by omega), fun z => ⟨fun z2 => ?_, fun z2 => bad (by omega)⟩⟩
      have e : pNo B n lo hi s = .ok (nx B n s) := by unfold pNo; rw [if_pos k2, if_pos ⟨by omega, z2⟩]
      refine sx_advance x (fun u f y => hQ _ u f ?_ ⟨by omega, z2⟩ (fun t ht s' hs => ?_))
      · show XS u B n (pNo B n lo hi s); rw [e]; exact y
      · cases ht; rfl
    · have e : pNo B n lo hi s = flt B n s 2 := by unfold pNo; rw [if_neg (fun z => q (x3.trans z))]
      refine sx_fail x (w := 2) (by decide) (fun u f y => hQ lo u f ?_ ⟨Int.le_refl _, hl⟩ (fun t ht s' hs => ?_))
      · show XS u B n (pNo B n lo hi s); rw [e]; exact y
      · cases ht; rw [e] at hs; cases hs
  | error e =>
    refine ⟨fun _ => ?_, fun q => absurd (x.2.1.symm.trans q) x.2.2.1⟩
    exact sx_fail x (w := 2) (by decide) (fun u f y => hQ lo u f y ⟨Int.le_refl _, hl⟩ (fun t ht => by cases ht))
theorem sx_nameHere {Q : Int → Mem → Prop} (x : XS h B n c) (hQ : ∀ r u, F9f h u → XS u B n (bnd c (pNm B n)) → 0 ≤ r ∧ r < 1099511627776 → (∀ s, c = .ok s → ∀ s', pNm B n s = .ok s' → r = tlt B n s) → Q r u) : F_X8_nameHere h Q := by
  unfold F_X8_nameHere
  have bad : (∀ s, c = .ok s → ¬ (tke B n s = 1 ∧ tke_v B n s = -1 ∧ tlt B n s ≠ 0)) → F_X8_fail h 2 (fun h1 => Q 0 h1) := fun q => by
    refine sx_fail x (w := 2) (by decide) (fun u f y => hQ 0 u f ?_ ⟨by omega, by omega⟩ (fun s hs s' hs' => ?_))
    · cases c with
      | ok s =>
        show XS u B n (pNm B n s)
        unfold pNm
        rw [if_neg (q s rfl)]; exact y
      | error e => exact y
    · unfold pNm at hs'
      rw [if_neg (q s hs)] at hs'; cases hs'
  refine ⟨fun q => bad (fun s hs z => ?_), fun q => ⟨fun q2 => bad (fun s hs z => ?_), fun q2 => ⟨fun q3 => bad (fun s hs z => ?_), fun q3 => ⟨fun q4 => ?_, fun q4 => bad (fun s hs z => ?_)⟩⟩⟩⟩
  · subst hs; exact q x.2.1
  · subst hs; exact q2 (x.1.2.2.2.1.trans z.1)
  · subst hs; exact q3 (x.1.2.2.2.2.2.1.trans z.2.1)
  · cases c with
    | ok s =>
      have e8 := x.1.2.2.2.2.2.2
      have e : pNm B n s = .ok s := by
        unfold pNm
        rw [if_pos ⟨x.1.2.2.2.1.symm.trans q2, x.1.2.2.2.2.2.1.symm.trans q3, by rw [← e8]; exact q4⟩]
      have tl := tlt_in (B := B) (s := s) (n := n) x.1.2.1
      refine hQ _ h F9f.rf ?_ (by rw [e8]; exact tl) (fun t ht s' hs => by cases ht; exact e8)
      show XS h B n (pNm B n s)
      rw [e]; exact x
    | error e => exact absurd (x.2.1.symm.trans q) x.2.2.1
  · subst hs; exact z.2.2 (x.1.2.2.2.2.2.2.symm.trans q4)
end XO
