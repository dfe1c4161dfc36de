/-! days read, pure: as Dy, with row 6 the open entries and d 0 3 how many -/
def pThg (B : Nat → Int) (n : Nat) (g : Gs) (s : Nat) : Er := bnd (pNm B n s) (fun _ => if nf (g 11) (tlt B n s) (gn g) 0 = -1 then flt B n s 3 else .ok (nx B n s))
def pMil (B : Nat → Int) (n : Nat) (g : Gs) (s : Nat) : Er := bnd (pNm B n s) (fun _ => if nf (g 12) (tlt B n s) (gm g) 0 = -1 then flt B n s 3 else .ok (nx B n s))
def vThg (B : Nat → Int) (n : Nat) (g : Gs) (s : Nat) : Int := nf (g 11) (tlt B n s) (gn g) 0
def vMil (B : Nat → Int) (n : Nat) (g : Gs) (s : Nat) : Int := nf (g 12) (tlt B n s) (gm g) 0
def pWay (B : Nat → Int) (n s : Nat) : Er := if xk B n s = 4 ∨ xk B n s = 5 then .ok (nx B n s) else flt B n s 2
def pCmp (B : Nat → Int) (n s : Nat) : Er := if tke B n s = 3 ∧ tke_v B n s ≠ 59 then .ok (nx B n s) else flt B n s 2
def pTst (B : Nat → Int) (n s : Nat) : Er := if xk B n s = 11 ∨ xk B n s = 19 ∨ xk B n s = 13 ∨ xk B n s = 20 then .ok (nx B n s) else flt B n s 2
section DO
variable {h : Mem} {B : Nat → Int} {n : Nat} {c : Er} {g : Gs}
/-- where the reader of days has the text and the glen -/
def X34 (h : Mem) : Prop := h 34 1 = 9 ∧ h 34 2 = ((12 : Nat) : Int)
theorem X34.f9 {u : Mem} (x : X34 h) (f : F9f h u) : X34 u := ⟨by rw [f 34 1 (by omega)]; exact x.1, by rw [f 34 2 (by omega)]; exact x.2⟩
theorem lay_12 : lay 12 = (0, 4) := by decide +kernel
theorem lay_13 : lay (12 + 1) = (0, 9) := by decide +kernel
theorem lay_22 : lay (12 + 10) = (0, 7) := by decide +kernel
theorem RC.f9o {u : Mem} (r : RC h 12 g) (f : F9f h u) : RC u 12 g := rc_same r (fun i k q1 q2 => f i k (by omega))
theorem s_takeThing {Q : Int → Mem → Prop} (x : XS h B n c) (x3 : X34 h) (r : RC h 12 g) (n8 : gn g ≤ 8 ∧ (gn g : Int) = g 0 0) (hQ : ∀ r u, F9f h u → XS u B n (bnd c (pThg B n g)) → (∀ s, c = .ok s → ∀ s', pThg B n g s = .ok s' → r = vThg B n g s) → Q r u) : F_X2_takeThing h Q := by
  unfold F_X2_takeThing
  refine ⟨12, x3.2, lay_12, x3.1, sx_nameHere x (fun r4 h3 f3 y3 _ v4 => ?_)⟩
  have z3 := x3.f9 f3
  have r3 := r.f9o f3
  have et : h3 (12 + 1) 0 = (gn g : Int) := by rw [n8.2]; exact r3.1.2.1.1
  have val : ∀ s, c = .ok s → ∀ s', pThg B n g s = .ok s' → nf (g 11) r4 (gn g) 0 = vThg B n g s := fun s hs s' hs' => by
    obtain ⟨a, ha, _⟩ := bnd_ok hs'
    rw [v4 s hs a ha]; rfl
  refine s_numT lay_13 n8.1 et (fun t ht => (r3.1.2.1.2 t ht).1) ⟨fun q => ⟨z3.1, sx_advance y3 (fun v fv xv => hQ _ v (f3.tr fv) ?_ val)⟩, fun q => ⟨z3.1, sx_fail y3 (w := 3) (by decide) (fun u fu xu => ⟨(z3.f9 fu).1, sx_advance xu (fun v fv xv => hQ _ v ((f3.tr fu).tr fv) ?_ val)⟩)⟩⟩
  · cases c with
    | error e => exact xv
    | ok s =>
      show XS v B n (pThg B n g s)
      have xv' : XS v B n (bnd (pNm B n s) (fun s => .ok (nx B n s))) := xv
      unfold pThg
      cases d : pNm B n s with
      | error e => rw [d] at xv'; exact xv'
      | ok s' =>
        rw [d] at xv'
        obtain ⟨rfl, -⟩ := pNm_ok d
        rw [v4 _ rfl _ d] at q
        show XS v B n (if _ then _ else _)
        rw [if_neg q]; exact xv'
  · cases c with
    | error e => exact xv
    | ok s =>
      show XS v B n (pThg B n g s)
      have xv' : XS v B n (bnd (bnd (pNm B n s) (fun s => flt B n s 3)) (fun s => .ok (nx B n s))) := xv
      unfold pThg
      cases d : pNm B n s with
      | error e => rw [d] at xv'; exact xv'
      | ok s' =>
        rw [d] at xv'
        obtain ⟨rfl, -⟩ := pNm_ok d
        rw [v4 _ rfl _ d] at q
        show XS v B n (if _ then _ else _)
        rw [if_pos q]; exact xv'
theorem s_takeMill {Q : Int → Mem → Prop} (x : XS h B n c) (x3 : X34 h) (r : RC h 12 g) (n4 : gm g ≤ 4 ∧ (gm g : Int) = g 0 1) (hQ : ∀ r u, F9f h u → XS u B n (bnd c (pMil B n g)) → (∀ s, c = .ok s → ∀ s', pMil B n g s = .ok s' → r = vMil B n g s) → Q r u) : F_X2_takeMill h Q := by
  unfold F_X2_takeMill
  refine ⟨12, x3.2, lay_12, x3.1, sx_nameHere x (fun r4 h3 f3 y3 _ v4 => ?_)⟩
  have z3 := x3.f9 f3
  have r3 := r.f9o f3
  have et : h3 (12 + 10) 0 = (gm g : Int) := by rw [n4.2]; exact r3.1.2.2.1
  have val : ∀ s, c = .ok s → ∀ s', pMil B n g s = .ok s' → nf (g 12) r4 (gm g) 0 = vMil B n g s := fun s hs s' hs' => by
    obtain ⟨a, ha, _⟩ := bnd_ok hs'
    rw [v4 s hs a ha]; rfl
  refine s_numM lay_22 n4.1 et (fun t ht => (r3.1.2.2.2 t ht).1) ⟨fun q => ⟨z3.1, sx_advance y3 (fun v fv xv => hQ _ v (f3.tr fv) ?_ val)⟩, fun q => ⟨z3.1, sx_fail y3 (w := 3) (by decide) (fun u fu xu => ⟨(z3.f9 fu).1, sx_advance xu (fun v fv xv => hQ _ v ((f3.tr fu).tr fv) ?_ val)⟩)⟩⟩
  · cases c with
    | error e => exact xv
    | ok s =>
      show XS v B n (pMil B n g s)
      have xv' : XS v B n (bnd (pNm B n s) (fun s => .ok (nx B n s))) := xv
      unfold pMil
      cases d : pNm B n s with
      | error e => rw [d] at xv'; exact xv'
      | ok s' =>
        rw [d] at xv'
        obtain ⟨rfl, -⟩ := pNm_ok d
        rw [v4 _ rfl _ d] at q
        show XS v B n (if _ then _ else _)
        rw [if_neg q]; exact xv'
  · cases c with
    | error e => exact xv
    | ok s =>
      show XS v B n (pMil B n g s)
      have xv' : XS v B n (bnd (bnd (pNm B n s) (fun s => flt B n s 3)) (fun s => .ok (nx B n s))) := xv
      unfold pMil
      cases d : pNm B n s with
      | error e => rw [d] at xv'; exact xv'
      | ok s' =>
        rw [d] at xv'
        obtain ⟨rfl, -⟩ := pNm_ok d
        rw [v4 _ rfl _ d] at q
        show XS v B n (if _ then _ else _)
        rw [if_pos q]; exact xv'
theorem s_takeWay {Q : Int → Mem → Prop} (x : XS h B n c) (x3 : X34 h) (hQ : ∀ r u, F9f h u → XS u B n (bnd c (pWay B n)) → (∀ s, c = .ok s → ∀ s', pWay B n s = .ok s' → r = if xk B n s = 4 then 0 else 1) → Q r u) : F_X2_takeWay h Q := by
  have j26 : ∀ (u : Mem) (c' : Er) (v1 : Int), F9f h u → XS u B n c' → (bnd c' (fun s => .ok (nx B n s)) : Er) = bnd c (pWay B n) → (∀ s, c = .ok s → v1 = xk B n s) → J_X2_takeWay_26 u v1 Q := fun u c' v1 f xu ec hv => by
    unfold J_X2_takeWay_26
    refine ⟨(x3.f9 f).1, sx_advance xu (fun v fv xv => ⟨fun q => hQ _ v (f.tr fv) (by rw [← ec]; exact xv) (fun s hs s' hs' => ?_), fun q => hQ _ v (f.tr fv) (by rw [← ec]; exact xv) (fun s hs s' hs' => ?_)⟩)⟩
    · rw [← hv s hs, if_neg q]
    · rw [← hv s hs, if_pos q]
  unfold F_X2_takeWay
  refine ⟨x3.1, sx_keyword x (fun r3 hr => ?_)⟩
  have ok : r3 = 4 ∨ r3 = 5 → J_X2_takeWay_26 h r3 Q := fun hk => by
    refine j26 h c r3 F9f.rf x ?_ hr
    cases c with
    | error e => rfl
    | ok s =>
      show _ = pWay B n s
      unfold pWay
      rw [if_pos (by rw [← hr s rfl]; exact hk)]; rfl
  refine ⟨fun q => ok (Or.inl q), fun q => ⟨fun q2 => ok (Or.inr q2), fun q2 => ⟨x3.1, sx_fail x (w := 2) (by decide) (fun u fu xu => j26 u _ r3 fu xu ?_ hr)⟩⟩⟩
  cases c with
  | error e => rfl
  | ok s =>
    show _ = pWay B n s
    unfold pWay
    have := hr s rfl
    rw [if_neg (by omega)]; rfl
theorem s_takeCompares {Q : Int → Mem → Prop} (x : XS h B n c) (x3 : X34 h) (hQ : ∀ r u, F9f h u → XS u B n (bnd c (pCmp B n)) → (∀ s, c = .ok s → ∀ s', pCmp B n s = .ok s' → r = tke_v B n s) → Q r u) : F_X2_takeCompares h Q := by
  have val : ∀ s, c = .ok s → ∀ s', pCmp B n s = .ok s' → h 9 7 = tke_v B n s := fun s hs s' _ => by
    subst hs; exact x.1.2.2.2.2.2.1
  have bad : (∀ s, c = .ok s → ¬ (tke B n s = 3 ∧ tke_v B n s ≠ 59)) → h 34 1 = (9 : Int) ∧ (F_X8_fail h 2 (fun h4 => h4 34 1 = (9 : Int) ∧ (F_X8_advance h4 (fun h7 => Q (h 9 7) h7)))) := fun nb => by
    refine ⟨x3.1, sx_fail x (w := 2) (by decide) (fun u fu xu => ⟨(x3.f9 fu).1, sx_advance xu (fun v fv xv => hQ _ v (fu.tr fv) ?_ val)⟩)⟩
    cases c with
    | error e => exact xv
    | ok s =>
      show XS v B n (pCmp B n s)
      unfold pCmp
      rw [if_neg (nb s rfl)]; exact xv
  unfold F_X2_takeCompares
  refine ⟨x3.1, x3.1, fun q => bad (fun s hs z => ?_), fun q => ⟨fun q2 => ⟨x3.1, sx_advance x (fun v fv xv => hQ _ v fv ?_ val)⟩, fun q2 => bad (fun s hs z => ?_)⟩⟩
  · subst hs; exact q (x.1.2.2.2.1.trans z.1)
  · cases c with
    | error e => exact xv
    | ok s =>
      show XS v B n (pCmp B n s)
      unfold pCmp
      rw [if_pos ⟨x.1.2.2.2.1.symm.trans q, fun z => q2 (x.1.2.2.2.2.2.1.trans z)⟩]; exact xv
  · subst hs; exact z.2 (x.1.2.2.2.2.2.1.symm.trans q2)
end DO
