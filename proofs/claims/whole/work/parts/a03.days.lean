/-! the days: d 0: 0 there, 1 steps, 2 entries; of entry k: d 1 kind, d 2 which, d 3 much, d 4 sign, d 5 partner; what they come to, pure -/
abbrev Dy : Type := Nat → Nat → Int
def dn (d : Dy) : Nat := (d 0 2).toNat
def isOp (d : Dy) (k : Nat) : Prop := 4 ≤ d 1 k ∧ d 1 k ≤ 8
def WFe (d : Dy) (nT nM L : Int) (k : Nat) : Prop := 0 ≤ d 1 k ∧ d 1 k ≤ 10 ∧ (d 1 k = 0 → 1 ≤ d 2 k ∧ d 2 k ≤ 24) ∧ (d 1 k = 1 → 0 ≤ d 2 k ∧ d 2 k < nT ∧ 0 ≤ d 3 k ∧ d 3 k < L) ∧ (d 1 k = 2 ∨ d 1 k = 4 → 0 ≤ d 2 k ∧ d 2 k < nT) ∧ (d 1 k = 5 → d 2 k = 0 ∨ d 2 k = 1) ∧ (d 1 k = 6 → 0 ≤ d 3 k ∧ d 3 k ≤ 15) ∧ (d 1 k = 7 → 0 ≤ d 2 k ∧ d 2 k < nM ∧ 0 ≤ d 3 k ∧ d 3 k ≤ 9999) ∧ (d 1 k = 8 → 1 ≤ d 2 k ∧ d 2 k ≤ 99)
  ∧ (isOp d k → ∃ e : Nat, d 5 k = (e : Int) ∧ k < e ∧ e < dn d ∧ d 1 e = 10 ∧ d 5 e = (k : Int)) ∧ (d 1 k = 10 → ∃ q : Nat, d 5 k = (q : Int) ∧ q < k ∧ isOp d q ∧ d 5 q = (k : Int)) ∧ (k + 1 < dn d → isOp d k → d 1 (k + 1) = 10 → d 5 (k + 1) = (k : Int))
def WFD (d : Dy) (nT nM L : Int) : Prop := (d 0 0 = 0 ∨ d 0 0 = 1) ∧ 0 ≤ d 0 1 ∧ d 0 1 ≤ 30 ∧ 0 ≤ d 0 2 ∧ d 0 2 ≤ 60 ∧ (d 0 0 = 0 → d 0 2 = 0) ∧ (∀ k, k < dn d → WFe d nT nM L k) ∧ ∀ o p, o < dn d → p < dn d → isOp d o → isOp d p → o < p → (p : Int) < d 5 o → d 5 p < d 5 o
theorem WFD.mono {d : Dy} {a b c a' b' : Int} (w : WFD d a b c) (ha : a ≤ a') (hb : b ≤ b') : WFD d a' b' c := by
  obtain ⟨w1, w2, w3, w4, w5, w6, w7, w8⟩ := w
  refine ⟨w1, w2, w3, w4, w5, w6, fun k hk => ?_, w8⟩
  obtain ⟨e1, e2, e3, e4, e5, e6, e7, e8, e9, e10, e11, e12⟩ := w7 k hk
  exact ⟨e1, e2, e3, fun h => by have := e4 h; omega, fun h => by have := e5 h; omega, e6, e7, fun h => by have := e8 h; omega, e9, e10, e11, e12⟩
def rset (R : Nat → Int) (q : Nat) (v : Int) : Nat → Int := fun i => if i = q then v else R i
theorem rset_e {R : Nat → Int} {q : Nat} {v : Int} : rset R q v q = v := by unfold rset; rw [if_pos rfl]
theorem rset_n {R : Nat → Int} {q i : Nat} {v : Int} (h : i ≠ q) : rset R q v i = R i := by unfold rset; rw [if_neg h]
def drL (lt : Nat) : Nat := (lt * 3169 + 11393) % 65536
def lvA (d : Dy) (k : Nat) (g : Gs) (lt : Nat) : Gs × Int × Nat :=
  if d 1 k = 0 then (if g 0 5 + d 2 k ≤ 9999 then (passN (d 2 k).toNat g, 1, lt) else (g, 0, lt))
  else if d 1 k = 1 then (if g 4 (d 2 k).toNat = 0 ∨ g 4 (d 2 k).toNat = 3 then (tset g (d 2 k).toNat 1 (d 3 k) 0, 1, lt) else (g, 0, lt))
  else if d 1 k = 2 then (if g 4 (d 2 k).toNat = 1 then (tset g (d 2 k).toNat 0 0 0, 1, lt) else (g, 0, lt))
  else if d 1 k = 3 then (if gn g = 0 then (g, 0, lt) else if g 4 (drL lt / 8 % gn g) = 0 ∨ g 4 (drL lt / 8 % gn g) = 3 then (tset g (drL lt / 8 % gn g) 1 ((drL (drL lt) / 8 % (g 0 2).toNat : Nat) : Int) 0, 1, drL (drL lt)) else (g, 0, drL (drL lt)))
  else (g, 1, lt)
def cmpP (a s m : Int) : Prop := if s = 60 then a < m else if s = 62 then m < a else a = m
def lvT (d : Dy) (k : Nat) (g : Gs) : Prop := if d 1 k = 4 then g 4 (d 2 k).toNat = 1 else if d 1 k = 5 then g 0 7 = d 2 k else if d 1 k = 6 then cmpP (g 0 6) (d 4 k) (d 3 k) else cmpP (g 10 (d 2 k).toNat) (d 4 k) (d 3 k)
def lvTd (d : Dy) (k : Nat) (g : Gs) : Decidable (lvT d k g) := by unfold lvT cmpP; exact inferInstance
def lvN (d : Dy) (k : Nat) (g : Gs) : Nat := if 4 ≤ d 1 k ∧ d 1 k ≤ 7 then (match lvTd d k g with | isTrue _ => k + 1 | isFalse _ => (d 5 k).toNat + 1) else k + 1
theorem lvN_yes {d : Dy} {k : Nat} {g : Gs} (h : lvT d k g) : lvN d k g = k + 1 := by
  unfold lvN
  split
  · cases lvTd d k g with
    | isTrue _ => rfl
    | isFalse q => exact absurd h q
  · rfl
theorem lvN_no {d : Dy} {k : Nat} {g : Gs} (hk : 4 ≤ d 1 k ∧ d 1 k ≤ 7) (h : ¬ lvT d k g) : lvN d k g = (d 5 k).toNat + 1 := by
  unfold lvN
  rw [if_pos hk]
  cases lvTd d k g with
  | isTrue q => exact absurd q h
  | isFalse _ => rfl
theorem lvN_else {d : Dy} {k : Nat} {g : Gs} (hk : ¬ (4 ≤ d 1 k ∧ d 1 k ≤ 7)) : lvN d k g = k + 1 := by
  unfold lvN
  rw [if_neg hk]
/-- the days lived from entry k on: the glen, steps, missed, left -/
def lv (d : Dy) : Nat → Nat → Gs → (Nat → Int) → Int → Int → Nat → Gs × Int × Int × Int
  | 0, _, g, _, st, ms, _ => (g, st, ms, 0)
  | f + 1, k, g, R, st, ms, lt =>
    if dn d ≤ k then (g, st, ms, 0)
    else if d 1 k = 10 then
      (if d 1 (d 5 k).toNat = 8 then (if 1 < R (d 5 k).toNat then lv d f ((d 5 k).toNat + 1) g (rset R (d 5 k).toNat (R (d 5 k).toNat - 1)) st ms lt else lv d f (k + 1) g (rset R (d 5 k).toNat (R (d 5 k).toNat - 1)) st ms lt)
       else lv d f (k + 1) g R st ms lt)
    else if st = 300 then (g, st, ms, 1)
    else if d 1 k = 9 then (g, st + 1, ms, 0)
    else lv d f (lvN d k (lvA d k g lt).1) (lvA d k g lt).1 (if d 1 k = 8 then rset R k (d 2 k) else R) (st + 1) (ms + (1 - (lvA d k g lt).2.1)) (lvA d k g lt).2.2
/-! structure: the loops that stand around a place -/
def encl (d : Dy) (o k : Nat) : Prop := o < k ∧ (k : Int) ≤ d 5 o ∧ d 1 o = 8
def enclB (d : Dy) (o k : Nat) : Bool := decide (o < k ∧ (k : Int) ≤ d 5 o ∧ d 1 o = 8)
theorem enclB_iff {d : Dy} {o k : Nat} : enclB d o k = true ↔ encl d o k := by unfold enclB encl; exact decide_eq_true_iff
section EN
variable {d : Dy} {a b c : Int} {k o q : Nat}
theorem op8 (h : d 1 k = 8) : isOp d k := ⟨by omega, by omega⟩
theorem encl_next (hk : d 1 k ≠ 10) (w : WFD d a b c) (hd : k < dn d) (h : encl d o (k + 1)) : o = k ∨ encl d o k := by
  unfold encl at h ⊢
  by_cases z : o = k
  · exact Or.inl z
  · exact Or.inr ⟨by omega, by omega, h.2.2⟩
theorem encl_skip (w : WFD d a b c) (hd : k < dn d) (ho : isOp d k) {e : Nat} (he : d 5 k = (e : Int)) (h : encl d o (e + 1)) : encl d o k := by
  obtain ⟨-, -, -, -, -, -, we, nest⟩ := w
  obtain ⟨e', x1, x2, x3, x4, x5⟩ := (we k hd).2.2.2.2.2.2.2.2.2.1 ho
  have ee : e' = e := by omega
  subst ee
  unfold encl at h ⊢
  have ne : o ≠ e' := fun z => by subst z; omega
  by_cases lt : o < k
  · exact ⟨lt, by omega, h.2.2⟩
  · by_cases eq : o = k
    · subst eq; omega
    · have n := nest k o hd (by omega) ho (op8 h.2.2) (by omega) (by omega)
      omega
theorem encl_end (w : WFD d a b c) (hd : k < dn d) (h10 : d 1 k = 10) (hq : d 5 k = (q : Int)) (h : encl d o (k + 1)) : encl d o k ∧ o ≠ q := by
  obtain ⟨-, -, -, -, -, -, we, nest⟩ := w
  obtain ⟨q', x1, x2, x3, x4⟩ := (we k hd).2.2.2.2.2.2.2.2.2.2.1 h10
  have ee : q' = q := by omega
  subst ee
  unfold encl at h ⊢
  have ne : o ≠ k := fun z => by subst z; omega
  exact ⟨⟨by omega, by omega, h.2.2⟩, fun z => by subst z; omega⟩
theorem encl_here (w : WFD d a b c) (hd : k < dn d) (h10 : d 1 k = 10) (hq : d 5 k = (q : Int)) (h8 : d 1 q = 8) : encl d q k := by
  obtain ⟨-, -, -, -, -, -, we, nest⟩ := w
  obtain ⟨q', x1, x2, x3, x4⟩ := (we k hd).2.2.2.2.2.2.2.2.2.2.1 h10
  have ee : q' = q := by omega
  subst ee
  exact ⟨x2, by omega, h8⟩
theorem encl_again (w : WFD d a b c) (hd : k < dn d) (h10 : d 1 k = 10) (hq : d 5 k = (q : Int)) (h : encl d o (q + 1)) : o = q ∨ (encl d o k ∧ o ≠ q) := by
  obtain ⟨-, -, -, -, -, -, we, nest⟩ := w
  obtain ⟨q', x1, x2, x3, x4⟩ := (we k hd).2.2.2.2.2.2.2.2.2.2.1 h10
  have ee : q' = q := by omega
  subst ee
  unfold encl at h ⊢
  by_cases eq : o = q'
  · exact Or.inl eq
  · have n := nest o q' (by omega) (by omega) (op8 h.2.2) x3 (by omega) (by omega)
    exact Or.inr ⟨⟨by omega, by omega, h.2.2⟩, eq⟩
theorem end_adj (w : WFD d a b c) (hd : k < dn d) (h10 : d 1 k = 10) (hq : d 5 k = (q : Int)) : q + 1 = k ∨ d 1 (q + 1) ≠ 10 := by
  obtain ⟨-, -, -, -, -, -, we, nest⟩ := w
  obtain ⟨q', x1, x2, x3, x4⟩ := (we k hd).2.2.2.2.2.2.2.2.2.2.1 h10
  have ee : q' = q := by omega
  subst ee
  by_cases z : d 1 (q' + 1) = 10
  · have y := (we q' (by omega)).2.2.2.2.2.2.2.2.2.2.2 (by omega) x3 z
    obtain ⟨q2, y1, y2, y3, y4⟩ := (we (q' + 1) (by omega)).2.2.2.2.2.2.2.2.2.2.1 z
    have e2 : q2 = q' := by omega
    subst e2
    exact Or.inl (by omega)
  · exact Or.inr z
end EN
/-! the measure -/
def eS (d : Dy) (k : Nat) (R : Nat → Int) : Nat → Nat
  | 0 => 0
  | n + 1 => if enclB d n k = true then eS d k R n + (R n).toNat else eS d k R n
theorem eS_up {d : Dy} {k k' p : Nat} {R R' : Nat → Int} (h : ∀ o, o ≠ p → encl d o k' → encl d o k ∧ R' o ≤ R o) (hp : (R' p).toNat ≤ 99) : ∀ n, (n ≤ p → eS d k' R' n ≤ eS d k R n) ∧ eS d k' R' n ≤ eS d k R n + 99 := by
  intro n
  induction n with
  | zero => exact ⟨fun _ => Nat.le_refl _, Nat.zero_le _⟩
  | succ n ih =>
    unfold eS
    by_cases c : n = p
    · subst c
      refine ⟨fun z => absurd z (by omega), ?_⟩
      have := ih.1 (Nat.le_refl _)
      split <;> split <;> omega
    · by_cases e : enclB d n k' = true
      · have q := h n c (enclB_iff.mp e)
        rw [if_pos e, if_pos (enclB_iff.mpr q.1)]
        exact ⟨fun z => by have := ih.1 (by omega); omega, by omega⟩
      · rw [if_neg e]
        split
        · exact ⟨fun z => by have := ih.1 (by omega); omega, by omega⟩
        · exact ⟨fun z => ih.1 (by omega), ih.2⟩
theorem eS_le {d : Dy} {k k' : Nat} {R R' : Nat → Int} (h : ∀ o, encl d o k' → encl d o k ∧ R' o ≤ R o) : ∀ n, eS d k' R' n ≤ eS d k R n := by
  intro n
  induction n with
  | zero => exact Nat.le_refl _
  | succ n ih =>
    unfold eS
    by_cases e : enclB d n k' = true
    · have q := h n (enclB_iff.mp e)
      rw [if_pos e, if_pos (enclB_iff.mpr q.1)]
      omega
    · rw [if_neg e]
      split <;> omega
theorem eS_lt {d : Dy} {k k' q : Nat} {R R' : Nat → Int} (h : ∀ o, encl d o k' → encl d o k ∧ R' o ≤ R o) (hq : encl d q k) (hR : R' q + 1 ≤ R q) (h1 : 1 ≤ R q) : ∀ n, eS d k' R' n ≤ eS d k R n ∧ (q < n → eS d k' R' n + 1 ≤ eS d k R n) := by
  intro n
  induction n with
  | zero => exact ⟨Nat.le_refl _, fun z => absurd z (by omega)⟩
  | succ n ih =>
    unfold eS
    by_cases c : n = q
    · subst c
      rw [if_pos (enclB_iff.mpr hq)]
      have i1 := ih.1
      have j : (R' n).toNat + 1 ≤ (R n).toNat := by omega
      split <;> exact ⟨by omega, fun _ => by omega⟩
    · by_cases e : enclB d n k' = true
      · have y := h n (enclB_iff.mp e)
        rw [if_pos e, if_pos (enclB_iff.mpr y.1)]
        exact ⟨by omega, fun z => by have := ih.2 (by omega); omega⟩
      · rw [if_neg e]
        split
        · exact ⟨by omega, fun z => by have := ih.2 (by omega); omega⟩
        · exact ⟨ih.1, fun z => ih.2 (by omega)⟩
def qk (d : Dy) (k : Nat) : Nat := if k < dn d ∧ d 1 k = 10 then 61 - k else 0
def lvM (d : Dy) (k : Nat) (R : Nat → Int) (st : Int) : Nat := (300 - st).toNat * 200 + eS d k R 60 + qk d k
/-- what is known of the loops around -/
def okR (d : Dy) (k : Nat) (R : Nat → Int) : Prop := ∀ o, encl d o k → 1 ≤ R o ∧ R o ≤ 99
section LM
variable {d : Dy} {a b c : Int} {k q : Nat} {R : Nat → Int} {st : Int}
theorem qk_le : qk d k ≤ 61 := by unfold qk; split <;> omega
theorem lv_step (w : WFD d a b c) (hd : k < dn d) (h10 : d 1 k ≠ 10) (ok : okR d k R) (h0 : 0 ≤ st ∧ st < 300) : okR d (k + 1) (if d 1 k = 8 then rset R k (d 2 k) else R) ∧ lvM d (k + 1) (if d 1 k = 8 then rset R k (d 2 k) else R) (st + 1) < lvM d k R st := by
  have we := w.2.2.2.2.2.2.1 k hd
  have nx : ∀ o, encl d o (k + 1) → o = k ∨ encl d o k := fun o => encl_next h10 w hd
  have key : ∀ R' : Nat → Int, (∀ o, o ≠ k → R' o = R o) → (d 1 k = 8 → 1 ≤ R' k ∧ R' k ≤ 99) → (R' k).toNat ≤ 99 ∨ d 1 k ≠ 8 → okR d (k + 1) R' ∧ lvM d (k + 1) R' (st + 1) < lvM d k R st := by
    intro R' h1 h2 h3
    refine ⟨fun o ho => ?_, ?_⟩
    · rcases nx o ho with z | z
      · subst z; exact h2 ho.2.2
      · by_cases e : o = k
        · subst e; exact h2 ho.2.2
        · rw [h1 o e]; exact ok o z
    · have qb := qk_le (d := d) (k := k + 1)
      have q0 : qk d k = 0 := by unfold qk; rw [if_neg (fun z => h10 z.2)]
      have es : eS d (k + 1) R' 60 ≤ eS d k R 60 + 99 := by
        by_cases e8 : d 1 k = 8
        · exact (eS_up (p := k) (fun o ho he => ⟨by rcases nx o he with z | z; exact absurd z ho; exact z, by rw [h1 o ho]; exact Int.le_refl _⟩) (by have := h2 e8; omega) 60).2
        · have := eS_le (d := d) (k := k) (k' := k + 1) (R := R) (R' := R') (fun o he => by
            have ne : o ≠ k := fun z => by subst z; exact e8 he.2.2
            refine ⟨by rcases nx o he with z | z; exact absurd z ne; exact z, by rw [h1 o ne]; exact Int.le_refl _⟩) 60
          omega
      have e3 : (300 - st).toNat = (300 - (st + 1)).toNat + 1 := by omega
      unfold lvM
      rw [e3]
      omega
  by_cases e8 : d 1 k = 8
  · rw [if_pos e8]
    have r := we.2.2.2.2.2.2.2.2.1 e8
    exact key _ (fun o ho => rset_n ho) (fun _ => by rw [rset_e]; exact r) (Or.inl (by rw [rset_e]; omega))
  · rw [if_neg e8]
    exact key R (fun _ _ => rfl) (fun z => absurd z e8) (Or.inr e8)
theorem lv_skip (w : WFD d a b c) (hd : k < dn d) (ho : isOp d k) {e : Nat} (he : d 5 k = (e : Int)) (h10 : d 1 k ≠ 10) (ok : okR d k R) (h0 : 0 ≤ st ∧ st < 300) : okR d (e + 1) R ∧ lvM d (e + 1) R (st + 1) < lvM d k R st := by
  refine ⟨fun o h => ok o (encl_skip w hd ho he h), ?_⟩
  have qb := qk_le (d := d) (k := e + 1)
  have es := eS_le (d := d) (k := k) (k' := e + 1) (R := R) (R' := R) (fun o h => ⟨encl_skip w hd ho he h, Int.le_refl _⟩) 60
  have e3 : (300 - st).toNat = (300 - (st + 1)).toNat + 1 := by omega
  unfold lvM
  rw [e3]
  omega
theorem qk_end (w : WFD d a b c) (hd : k < dn d) (h10 : d 1 k = 10) : qk d (k + 1) < qk d k ∧ k < 60 := by
  have k60 : k < 60 := by
    have := w.2.2.2.2.1
    unfold dn at hd
    omega
  have e : qk d k = 61 - k := by unfold qk; rw [if_pos ⟨hd, h10⟩]
  rw [e]
  unfold qk
  split <;> omega
theorem lv_end (w : WFD d a b c) (hd : k < dn d) (h10 : d 1 k = 10) (hq : d 5 k = (q : Int)) (ok : okR d k R) {R' : Nat → Int} (hR : ∀ o, o ≠ q → R' o = R o) : okR d (k + 1) R' ∧ lvM d (k + 1) R' st < lvM d k R st := by
  have qe := (qk_end w hd h10).1
  have es := eS_le (d := d) (k := k) (k' := k + 1) (R := R) (R' := R') (fun o h => by
    obtain ⟨e1, e2⟩ := encl_end w hd h10 hq h
    exact ⟨e1, by rw [hR o e2]; exact Int.le_refl _⟩) 60
  refine ⟨fun o h => ?_, ?_⟩
  · obtain ⟨e1, e2⟩ := encl_end w hd h10 hq h
    rw [hR o e2]
    exact ok o e1
  · unfold lvM
    omega
theorem lv_again (w : WFD d a b c) (hd : k < dn d) (h10 : d 1 k = 10) (hq : d 5 k = (q : Int)) (h8 : d 1 q = 8) (ok : okR d k R) (h1 : 1 < R q) : okR d (q + 1) (rset R q (R q - 1)) ∧ lvM d (q + 1) (rset R q (R q - 1)) st < lvM d k R st := by
  have here := encl_here w hd h10 hq h8
  have k60 := (qk_end w hd h10).2
  have up : ∀ o, encl d o (q + 1) → encl d o k ∧ rset R q (R q - 1) o ≤ R o := fun o h => by
    rcases encl_again w hd h10 hq h with z | ⟨z, z2⟩
    · subst z; exact ⟨here, by rw [rset_e]; omega⟩
    · exact ⟨z, by rw [rset_n z2]; exact Int.le_refl _⟩
  have es := (eS_lt (d := d) (k := k) (k' := q + 1) (R := R) up here (by rw [rset_e]; omega) (by omega) 60).2 (by have := here.1; omega)
  have qe : qk d (q + 1) ≤ qk d k := by
    rcases end_adj w hd h10 hq with z | z
    · rw [z]; exact Nat.le_refl _
    · unfold qk
      rw [if_neg (fun y => z y.2)]
      exact Nat.zero_le _
  refine ⟨fun o h => ?_, ?_⟩
  · rcases encl_again w hd h10 hq h with z | ⟨z, z2⟩
    · subst z
      have := ok o here
      rw [rset_e]
      omega
    · rw [rset_n z2]; exact ok o z
  · unfold lvM
    omega
end LM
