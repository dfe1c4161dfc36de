/-! a glen read, pure -/
def sT (T k : Nat) : Nat := if T.testBit k = true then T else T + 2 ^ k
def pOn (B : Nat → Int) (n : Nat) (b : Bool) (s : Nat) : Er := if b = true then flt B n s 5 else .ok (nx B n s)
def pNew (B : Nat → Int) (n : Nat) (g : Gs) (s : Nat) : Er := bnd (pNm B n s) (fun _ => if nf (g 11) (tlt B n s) (gn g) 0 = -1 ∧ nf (g 12) (tlt B n s) (gm g) 0 = -1 then .ok (nx B n s) else flt B n s 3)
def pKd (B : Nat → Int) (n s : Nat) : Er := if 4 ≤ xk B n s ∧ xk B n s ≤ 6 then .ok (nx B n s) else flt B n s 2
def pFul (B : Nat → Int) (n : Nat) (b : Bool) (s : Nat) : Er := if b = true then flt B n s 6 else .ok s
def newT (g : Gs) (nm w gr mi : Int) : Gs := fun f t => if f = 0 ∧ t = 0 then g 0 0 + 1 else if t = gn g ∧ ((1 ≤ f ∧ f ≤ 7) ∨ f = 11) then (if f = 11 then nm else if f = 1 then w else if f = 2 then gr else if f = 3 then mi else 0) else g f t
def newM (g : Gs) (nm c kd : Int) : Gs := fun f m => if f = 0 ∧ m = 1 then g 0 1 + 1 else if m = gm g ∧ ((8 ≤ f ∧ f ≤ 10) ∨ f = 12) then (if f = 12 then nm else if f = 8 then c else if f = 9 then kd else 0) else g f m
def pThing (B : Nat → Int) (n : Nat) (g : Gs) (s0 : Nat) : Except (Int × Nat) (Nat × Gs) :=
  bnd (pFul B n (decide (8 ≤ gn g)) s0) fun a => bnd (pKw B n 7 a) fun s1 => bnd (pNew B n g s1) fun s2 => bnd (pKw B n 8 s2) fun s3 => bnd (pNo B n 0 9 s3) fun s4 => bnd (pKw B n 9 s4) fun s5 => bnd (pNo B n 1 24 s5) fun s6 => bnd (pKw B n 10 s6) fun s7 => bnd (pNo B n 1 24 s7) fun s8 =>
    if tke B n s8 = 1 ∧ tke_v B n s8 = 11 then bnd (pNo B n 0 (g 0 2 - 1) (nx B n s8)) fun s9 => .ok (s9, tset (newT g (tlt B n s1) (tke_v B n s3) (tke_v B n s5) (tke_v B n s7)) (gn g) 1 (tke_v B n (nx B n s8)) 0)
    else .ok (s8, newT g (tlt B n s1) (tke_v B n s3) (tke_v B n s5) (tke_v B n s7))
def pMill (B : Nat → Int) (n : Nat) (g : Gs) (s0 : Nat) : Except (Int × Nat) (Nat × Gs) :=
  bnd (pFul B n (decide (4 ≤ gm g)) s0) fun a => bnd (pKw B n 12 a) fun s1 => bnd (pNew B n g s1) fun s2 => bnd (pKw B n 13 s2) fun s3 => bnd (pNo B n 0 (g 0 2 - 1) s3) fun s4 => bnd (pKd B n s4) fun s5 => .ok (s5, newM g (tlt B n s1) (tke_v B n s3) (xk B n s4 - 4))
def pStream (B : Nat → Int) (n : Nat) (g : Gs) (b : Bool) (s0 : Nat) : Except (Int × Nat) (Nat × Gs) :=
  bnd (pOn B n b s0) fun s1 => bnd (pNo B n 0 (g 0 2 - 1) s1) fun s2 =>
    if tke B n s2 = 1 ∧ tke_v B n s2 = 4 then .ok (nx B n s2, sset (sset g 6 (tke_v B n s1)) 7 0) else .ok (s2, sset g 6 (tke_v B n s1))
def pScal (B : Nat → Int) (n : Nat) (g : Gs) (b : Bool) (i : Nat) (lo hi : Int) (s0 : Nat) : Except (Int × Nat) (Nat × Gs) :=
  bnd (pOn B n b s0) fun s1 => bnd (pNo B n lo hi s1) fun s2 => .ok (s2, sset g i (tke_v B n s1))
def longB (g : Gs) (T : Nat) : Bool := T.testBit 0 || T.testBit 3 || decide (0 < gn g) || decide (0 < gm g)
def pPart (B : Nat → Int) (n : Nat) (g : Gs) (T s0 : Nat) : Except (Int × Nat) (Nat × Gs) :=
  if xk B n s0 = 0 then pScal B n g (longB g T) 2 2 16 s0
  else if xk B n s0 = 1 then pScal B n g (T.testBit 1) 3 1 40 s0
  else if xk B n s0 = 2 then pScal B n g (T.testBit 2) 4 0 16 s0
  else if xk B n s0 = 3 then pStream B n g (T.testBit 3) s0
  else if xk B n s0 = 7 then pThing B n g s0
  else if xk B n s0 = 12 then pMill B n g s0
  else flt B n s0 2
def toldN (B : Nat → Int) (n T s0 : Nat) : Nat := if 0 ≤ xk B n s0 ∧ xk B n s0 ≤ 3 then sT T (xk B n s0).toNat else T
def pGlen (B : Nat → Int) (n : Nat) : Nat → Gs → Nat → Nat → Except (Int × Nat) Gs
  | 0, g, _, _ => .ok g
  | k + 1, g, T, s => if tke B n s = 0 then .ok g else bnd (pPart B n g T s) fun q => bnd (pSg B n 59 q.1) fun s' => pGlen B n k q.2 (toldN B n T s) s'
/-- the glen that nothing was told of -/
def g0 : Gs := fun f t => if f = 0 then (if t = 2 then 8 else if t = 3 then 10 else if t = 4 then 4 else if t = 7 then 1 else 0) else 0
theorem bnd_ok {α β : Type} {c : Except (Int × Nat) α} {f : α → Except (Int × Nat) β} {b : β} (h : bnd c f = .ok b) : ∃ a, c = .ok a ∧ f a = .ok b := by
  cases c with
  | ok a => exact ⟨a, rfl, h⟩
  | error e => cases h
theorem pKw_ok {B : Nat → Int} {n s s' : Nat} {k : Int} (h : pKw B n k s = .ok s') : s' = nx B n s ∧ tke B n s = 1 := by
  unfold pKw at h
  by_cases c : tke B n s = 1 ∧ tke_v B n s = k
  · rw [if_pos c] at h; cases h; exact ⟨rfl, c.1⟩
  · rw [if_neg c] at h; cases h
theorem pSg_ok {B : Nat → Int} {n s s' : Nat} {k : Int} (h : pSg B n k s = .ok s') : s' = nx B n s ∧ tke B n s = 3 := by
  unfold pSg at h
  by_cases c : tke B n s = 3 ∧ tke_v B n s = k
  · rw [if_pos c] at h; cases h; exact ⟨rfl, c.1⟩
  · rw [if_neg c] at h; cases h
theorem pNo_ok {B : Nat → Int} {n s s' : Nat} {lo hi : Int} (h : pNo B n lo hi s = .ok s') : s' = nx B n s ∧ tke B n s = 2 ∧ lo ≤ tke_v B n s ∧ tke_v B n s ≤ hi := by
  unfold pNo at h
  by_cases c : tke B n s = 2
  · rw [if_pos c] at h
    by_cases d : lo ≤ tke_v B n s ∧ tke_v B n s ≤ hi
    · rw [if_pos d] at h; cases h; exact ⟨rfl, c, d⟩
    · rw [if_neg d] at h; cases h
  · rw [if_neg c] at h; cases h
theorem pOn_ok {B : Nat → Int} {n s s' : Nat} {b : Bool} (h : pOn B n b s = .ok s') : s' = nx B n s ∧ b = false := by
  unfold pOn at h
  by_cases c : b = true
  · rw [if_pos c] at h; cases h
  · rw [if_neg c] at h; cases h; exact ⟨rfl, by simpa using c⟩
theorem pFul_ok {B : Nat → Int} {n s s' : Nat} {b : Bool} (h : pFul B n b s = .ok s') : s' = s ∧ b = false := by
  unfold pFul at h
  by_cases c : b = true
  · rw [if_pos c] at h; cases h
  · rw [if_neg c] at h; cases h; exact ⟨rfl, by simpa using c⟩
theorem pNew_ok {B : Nat → Int} {n s s' : Nat} {g : Gs} (h : pNew B n g s = .ok s') : s' = nx B n s ∧ tke B n s = 1 ∧ tlt B n s ≠ 0 := by
  obtain ⟨a, ha, h2⟩ := bnd_ok h
  obtain ⟨_, p1, _, p3⟩ := pNm_ok ha
  by_cases c : nf (g 11) (tlt B n s) (gn g) 0 = -1 ∧ nf (g 12) (tlt B n s) (gm g) 0 = -1
  · rw [if_pos c] at h2; cases h2; exact ⟨rfl, p1, p3⟩
  · rw [if_neg c] at h2; cases h2
theorem pKd_ok {B : Nat → Int} {n s s' : Nat} (h : pKd B n s = .ok s') : s' = nx B n s ∧ tke B n s = 1 ∧ 4 ≤ xk B n s ∧ xk B n s ≤ 6 := by
  unfold pKd at h
  by_cases c : 4 ≤ xk B n s ∧ xk B n s ≤ 6
  · rw [if_pos c] at h; cases h
    refine ⟨rfl, ?_, c⟩
    unfold xk at c
    by_cases d : tke B n s = 1
    · exact d
    · rw [if_neg d] at c; omega
  · rw [if_neg c] at h; cases h
/-- what a glen keeps while it is read -/
def GPp (B : Nat → Int) (n : Nat) (g : Gs) (T s : Nat) : Prop := WF 0 g ∧ s ≤ n ∧ T < 16 ∧ (T.testBit 3 = false → g 0 6 = 0) ∧ (∀ t, t < gn g → nmR (g 11 t)) ∧ ∀ m, m < gm g → nmR (g 12 m)
theorem gn_newT {g : Gs} {a b c d : Int} (h : 0 ≤ g 0 0) : gn (newT g a b c d) = gn g + 1 := by
  have e : newT g a b c d 0 0 = g 0 0 + 1 := by unfold newT; rw [if_pos ⟨rfl, rfl⟩]
  unfold gn
  rw [e]; omega
theorem gm_newM {g : Gs} {a b c : Int} (h : 0 ≤ g 0 1) : gm (newM g a b c) = gm g + 1 := by
  have e : newM g a b c 0 1 = g 0 1 + 1 := by unfold newM; rw [if_pos ⟨rfl, rfl⟩]
  unfold gm
  rw [e]; omega
theorem newT_o {g : Gs} {a b c d : Int} {f t : Nat} (h1 : ¬ (f = 0 ∧ t = 0)) (h2 : ¬ (t = gn g ∧ ((1 ≤ f ∧ f ≤ 7) ∨ f = 11))) : newT g a b c d f t = g f t := by unfold newT; rw [if_neg h1, if_neg h2]
theorem newM_o {g : Gs} {a b c : Int} {f t : Nat} (h1 : ¬ (f = 0 ∧ t = 1)) (h2 : ¬ (t = gm g ∧ ((8 ≤ f ∧ f ≤ 10) ∨ f = 12))) : newM g a b c f t = g f t := by unfold newM; rw [if_neg h1, if_neg h2]
theorem newT_n {g : Gs} {a b c d : Int} {f : Nat} (h : (1 ≤ f ∧ f ≤ 7) ∨ f = 11) : newT g a b c d f (gn g) = (if f = 11 then a else if f = 1 then b else if f = 2 then c else if f = 3 then d else 0) := by
  unfold newT; rw [if_neg (by omega), if_pos ⟨rfl, h⟩]
theorem newM_n {g : Gs} {a b c : Int} {f : Nat} (h : (8 ≤ f ∧ f ≤ 10) ∨ f = 12) : newM g a b c f (gm g) = (if f = 12 then a else if f = 8 then b else if f = 9 then c else 0) := by
  unfold newM; rw [if_neg (by omega), if_pos ⟨rfl, h⟩]
theorem newT_s {g : Gs} {a b c d : Int} {t : Nat} (h : t ≠ 0) : newT g a b c d 0 t = g 0 t := newT_o (by omega) (by omega)
theorem newM_s {g : Gs} {a b c : Int} {t : Nat} (h : t ≠ 1) : newM g a b c 0 t = g 0 t := newM_o (by omega) (by omega)
theorem gm_newT {g : Gs} {a b c d : Int} : gm (newT g a b c d) = gm g := by unfold gm; rw [newT_s (by omega)]
theorem gn_newM {g : Gs} {a b c : Int} : gn (newM g a b c) = gn g := by unfold gn; rw [newM_s (by omega)]
theorem wf_newT {g : Gs} {a b c d : Int} (w : WF 0 g) (h8 : gn g < 8) (hb : 0 ≤ b ∧ b ≤ 9) (hc : 1 ≤ c ∧ c ≤ 24) (hd : 1 ≤ d ∧ d ≤ 24) : WF 0 (newT g a b c d) := by
  have n8 := (gn8 w).2
  obtain ⟨ws, wt, wm⟩ := w
  have e0 : newT g a b c d 0 0 = g 0 0 + 1 := by unfold newT; rw [if_pos ⟨rfl, rfl⟩]
  have n1 := gn_newT (a := a) (b := b) (c := c) (d := d) ws.1
  unfold WFs at ws
  refine ⟨?_, fun t ht => ?_, fun m hm => ?_⟩
  · unfold WFs
    rw [e0, newT_s (by decide), newT_s (by decide), newT_s (by decide), newT_s (by decide), newT_s (by decide), newT_s (by decide), newT_s (by decide), newT_s (by decide)]
    omega
  · rw [n1] at ht
    unfold WFt
    rw [newT_s (by decide), newT_s (by decide)]
    by_cases e : t = gn g
    · subst e
      rw [newT_n (by omega), newT_n (by omega), newT_n (by omega), newT_n (by omega), newT_n (by omega), newT_n (by omega), newT_n (by omega)]
      simp
      omega
    · have w1 := wt t (by omega)
      unfold WFt at w1
      rw [newT_o (by omega) (by omega), newT_o (by omega) (by omega), newT_o (by omega) (by omega), newT_o (by omega) (by omega), newT_o (by omega) (by omega), newT_o (by omega) (by omega), newT_o (by omega) (by omega)]
      exact w1
  · rw [gm_newT] at hm
    have w1 := wm m hm
    unfold WFm at w1 ⊢
    rw [newT_s (by decide), newT_s (by decide), newT_o (by omega) (by omega), newT_o (by omega) (by omega), newT_o (by omega) (by omega)]
    exact w1
theorem wf_newM {g : Gs} {a b c : Int} (w : WF 0 g) (h4 : gm g < 4) (hb : 0 ≤ b ∧ b < g 0 2) (hc : 0 ≤ c ∧ c ≤ 2) : WF 0 (newM g a b c) := by
  have n4 := (gm4 w).2
  obtain ⟨ws, wt, wm⟩ := w
  have e0 : newM g a b c 0 1 = g 0 1 + 1 := by unfold newM; rw [if_pos ⟨rfl, rfl⟩]
  unfold WFs at ws
  have n1 := gm_newM (a := a) (b := b) (c := c) ws.2.2.1
  refine ⟨?_, fun t ht => ?_, fun m hm => ?_⟩
  · unfold WFs
    rw [e0, newM_s (by decide), newM_s (by decide), newM_s (by decide), newM_s (by decide), newM_s (by decide), newM_s (by decide), newM_s (by decide), newM_s (by decide)]
    omega
  · rw [gn_newM] at ht
    have w1 := wt t ht
    unfold WFt at w1 ⊢
    rw [newM_s (by decide), newM_s (by decide), newM_o (by omega) (by omega), newM_o (by omega) (by omega), newM_o (by omega) (by omega), newM_o (by omega) (by omega), newM_o (by omega) (by omega), newM_o (by omega) (by omega), newM_o (by omega) (by omega)]
    exact w1
  · rw [n1] at hm
    unfold WFm
    rw [newM_s (by decide), newM_s (by decide)]
    by_cases e : m = gm g
    · subst e
      rw [newM_n (by omega), newM_n (by omega), newM_n (by omega)]
      simp
      omega
    · have w1 := wm m (by omega)
      unfold WFm at w1
      rw [newM_o (by omega) (by omega), newM_o (by omega) (by omega), newM_o (by omega) (by omega)]
      exact w1
theorem tset_o {g : Gs} {t : Nat} {a b c : Int} {f i : Nat} (h : ¬ (i = t ∧ 4 ≤ f ∧ f ≤ 6)) : tset g t a b c f i = g f i := by
  unfold tset; rw [if_neg (by omega), if_neg (by omega), if_neg (by omega)]
theorem wf_lie {g : Gs} {t : Nat} {c : Int} (w : WF 0 g) (hc : 0 ≤ c ∧ c < g 0 2) : WF 0 (tset g t 1 c 0) := by
  obtain ⟨ws, wt, wm⟩ := w
  have gmt : gm (tset g t 1 c 0) = gm g := by unfold gm; rw [tset_o (by omega)]
  have es : ∀ k, tset g t 1 c 0 0 k = g 0 k := fun k => tset_o (by omega)
  refine ⟨?_, fun i hi => ?_, fun m hm => ?_⟩
  · unfold WFs at *
    simp only [es]; exact ws
  · rw [gn_tset] at hi
    have w1 := wt i hi
    unfold WFt at *
    by_cases e : i = t
    · subst e
      have e4 : tset g i 1 c 0 4 i = 1 := by unfold tset; rw [if_pos ⟨rfl, rfl⟩]
      have e5 : tset g i 1 c 0 5 i = c := by unfold tset; rw [if_neg (by omega), if_pos ⟨rfl, rfl⟩]
      have e6 : tset g i 1 c 0 6 i = 0 := by unfold tset; rw [if_neg (by omega), if_neg (by omega), if_pos ⟨rfl, rfl⟩]
      rw [e4, e5, e6, es, es, tset_o (f := 1) (by omega), tset_o (f := 2) (by omega), tset_o (f := 3) (by omega), tset_o (f := 7) (by omega)]
      omega
    · rw [es, es, tset_o (f := 1) (by omega), tset_o (f := 2) (by omega), tset_o (f := 3) (by omega), tset_o (f := 7) (by omega), tset_o (f := 4) (by omega), tset_o (f := 5) (by omega), tset_o (f := 6) (by omega)]
      exact w1
  · rw [gmt] at hm
    have w1 := wm m hm
    unfold WFm at *
    rw [es, es, tset_o (by omega), tset_o (by omega), tset_o (by omega)]
    exact w1
theorem wf_sset {g : Gs} {i : Nat} {v : Int} (w : WF 0 g) (h : (i = 3 ∧ 1 ≤ v ∧ v ≤ 40) ∨ (i = 4 ∧ 0 ≤ v ∧ v ≤ 16) ∨ (i = 6 ∧ 0 ≤ v ∧ v < g 0 2) ∨ (i = 7 ∧ v = 0) ∨ (i = 2 ∧ 2 ≤ v ∧ v ≤ 16 ∧ gn g = 0 ∧ gm g = 0 ∧ g 0 6 = 0)) : WF 0 (sset g i v) := by
  have n8 := (gn8 w).2
  have n4 := (gm4 w).2
  obtain ⟨ws, wt, wm⟩ := w
  have a0 : i ≠ 0 := by omega
  have a1 : i ≠ 1 := by omega
  have e0 : gn (sset g i v) = gn g := by unfold gn sset; rw [if_neg (by omega)]
  have e1 : gm (sset g i v) = gm g := by unfold gm sset; rw [if_neg (by omega)]
  have es : ∀ k, sset g i v 0 k = if k = i then v else g 0 k := fun k => by unfold sset; by_cases c : k = i <;> simp [c]
  have eo : ∀ f k, f ≠ 0 → sset g i v f k = g f k := fun f k hf => by unfold sset; rw [if_neg (by omega)]
  refine ⟨?_, fun t ht => ?_, fun m hm => ?_⟩
  · unfold WFs at *
    simp only [es]
    rcases h with ⟨rfl, h⟩ | ⟨rfl, h⟩ | ⟨rfl, h⟩ | ⟨rfl, h⟩ | ⟨rfl, h⟩ <;> simp <;> omega
  · rw [e0] at ht
    have w1 := wt t ht
    unfold WFt at *
    simp only [es, eo _ _ (show (1 : Nat) ≠ 0 by decide), eo _ _ (show (2 : Nat) ≠ 0 by decide), eo _ _ (show (3 : Nat) ≠ 0 by decide), eo _ _ (show (4 : Nat) ≠ 0 by decide), eo _ _ (show (5 : Nat) ≠ 0 by decide), eo _ _ (show (6 : Nat) ≠ 0 by decide), eo _ _ (show (7 : Nat) ≠ 0 by decide)]
    rcases h with ⟨rfl, h⟩ | ⟨rfl, h⟩ | ⟨rfl, h⟩ | ⟨rfl, h⟩ | ⟨rfl, h⟩ <;> simp <;> omega
  · rw [e1] at hm
    have w1 := wm m hm
    unfold WFm at *
    simp only [es, eo _ _ (show (8 : Nat) ≠ 0 by decide), eo _ _ (show (9 : Nat) ≠ 0 by decide), eo _ _ (show (10 : Nat) ≠ 0 by decide)]
    rcases h with ⟨rfl, h⟩ | ⟨rfl, h⟩ | ⟨rfl, h⟩ | ⟨rfl, h⟩ | ⟨rfl, h⟩ <;> simp <;> omega
