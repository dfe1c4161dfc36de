/-- what a step says: its kind, which, much, sign -/
abbrev En : Type := Int × Int × Int × Int
def dd (d : Dy) : Nat := (d 0 3).toNat
def addE (d : Dy) (e : En) : Dy := fun f k => if f = 0 ∧ k = 2 then d 0 2 + 1 else if k = dn d ∧ 1 ≤ f ∧ f ≤ 5 then (if f = 1 then e.1 else if f = 2 then e.2.1 else if f = 3 then e.2.2.1 else if f = 4 then e.2.2.2 else d 0 2) else d f k
def stpE (d : Dy) : Dy := fun f k => if f = 0 ∧ k = 1 then d 0 1 + 1 else d f k
def psh (d : Dy) (e : Int) : Dy := fun f k => if f = 0 ∧ k = 3 then d 0 3 + 1 else if f = 6 ∧ k = dd d then e else d f k
def popE (d : Dy) : Dy := fun f k => if f = 0 ∧ k = 3 then d 0 3 - 1 else d f k
def pairE (d : Dy) (o e : Int) : Dy := fun f k => if f = 5 ∧ k = e.toNat then o else if f = 5 ∧ k = o.toNat then e else d f k
def opn (k : Int) : Bool := decide (k = 18) || decide (k = 21)
def stp (k : Int) : Bool := decide (14 ≤ k ∧ k ≤ 18) || decide (k = 21) || decide (k = 23)
/-- an end closes the latest -/
def clsE (d : Dy) : Dy := pairE (addE (popE d) (10, 0, 0, 0)) (d 6 (dd d - 1)) (d 0 2)
def oneE (d : Dy) (k : Int) (e : En) : Dy := if opn k = true ∧ d 0 3 < 3 then psh (stpE (addE d e)) (d 0 2) else stpE (addE d e)
def pTest (B : Nat → Int) (n : Nat) (g : Gs) (s : Nat) : Except (Int × Nat) (Nat × En) :=
  bnd (pTst B n s) fun s1 =>
    if xk B n s = 11 then bnd (pThg B n g s1) fun s2 => .ok (s2, 4, vThg B n g s1, 0, 0)
    else if xk B n s = 19 then bnd (pWay B n s1) fun s2 => .ok (s2, 5, (if xk B n s1 = 4 then 0 else 1), 0, 0)
    else if xk B n s = 20 then bnd (pMil B n g s1) fun s2 => bnd (pCmp B n s2) fun s3 => bnd (pNo B n 0 9999 s3) fun s4 => .ok (s4, 7, vMil B n g s1, tke_v B n s3, tke_v B n s2)
    else bnd (pCmp B n s1) fun s2 => bnd (pNo B n 0 15 s2) fun s3 => .ok (s3, 6, -1, tke_v B n s2, tke_v B n s1)
def pRest (B : Nat → Int) (n : Nat) (g : Gs) (k : Int) (s : Nat) : Except (Int × Nat) (Nat × En) :=
  if k = 14 then bnd (pNo B n 1 24 s) fun s1 => .ok (s1, 0, tke_v B n s, 0, 0)
  else if k = 15 then bnd (pThg B n g s) fun s1 => bnd (pNo B n 0 (g 0 2 - 1) s1) fun s2 => .ok (s2, 1, vThg B n g s, tke_v B n s1, 0)
  else if k = 16 then bnd (pThg B n g s) fun s1 => .ok (s1, 2, vThg B n g s, 0, 0)
  else if k = 17 then .ok (s, 3, 0, 0, 0)
  else if k = 18 then pTest B n g s
  else if k = 21 then bnd (pNo B n 1 99 s) fun s1 => .ok (s1, 8, tke_v B n s, 0, 0)
  else .ok (s, 9, 0, 0, 0)
def pLook (B : Nat → Int) (n : Nat) (d : Dy) (s : Nat) : Er := if stp (xk B n s) = false then flt B n s 2 else if 30 ≤ d 0 1 then flt B n s 6 else if opn (xk B n s) = true ∧ 3 ≤ d 0 3 then flt B n s 7 else .ok (nx B n s)
def pStep (B : Nat → Int) (n : Nat) (g : Gs) (d : Dy) (s : Nat) : Except (Int × Nat) (Nat × Dy) :=
  if xk B n s = 22 ∧ 0 < d 0 3 then .ok (nx B n s, clsE d)
  else bnd (pLook B n d s) fun s1 => bnd (pRest B n g (xk B n s) s1) fun q => .ok (q.1, oneE d (xk B n s) q.2)
def endD (B : Nat → Int) (n : Nat) (d : Dy) (s : Nat) : Except (Int × Nat) Dy := if 0 < d 0 3 then flt B n s 2 else .ok d
def pDays (B : Nat → Int) (n : Nat) (g : Gs) : Nat → Dy → Nat → Except (Int × Nat) Dy
  | 0, d, s => endD B n d s
  | k + 1, d, s => if tke B n s = 0 then endD B n d s else bnd (pStep B n g d s) fun q => bnd (pSg B n 59 q.1) fun s' => pDays B n g k q.2 s'
/-- x's days while they are read -/
def RDr (h : Mem) (d : Dy) : Prop := h 35 0 = 1 ∧ h 35 1 = d 0 1 ∧ h 35 2 = d 0 2 ∧ h 34 4 = d 0 3 ∧ (∀ k, k < dn d → h 36 k = d 1 k ∧ h 37 k = d 2 k ∧ h 38 k = d 3 k ∧ h 39 k = d 4 k ∧ h 40 k = d 5 k) ∧ ∀ i, i < dd d → h 41 i = d 6 i
/-- the numbers of days while they are read -/
def DN (d : Dy) : Prop := 0 ≤ d 0 1 ∧ d 0 1 ≤ 30 ∧ 0 ≤ d 0 2 ∧ 0 ≤ d 0 3 ∧ d 0 3 ≤ 3 ∧ d 0 2 + d 0 3 ≤ 2 * d 0 1 ∧ ∀ i, i < dd d → 0 ≤ d 6 i ∧ d 6 i < d 0 2
theorem RDr.f9 {h u : Mem} {d : Dy} (r : RDr h d) (f : F9f h u) : RDr u d := by
  obtain ⟨a, b, c, e, r1, r2⟩ := r
  refine ⟨by rw [f 35 0 (by omega)]; exact a, by rw [f 35 1 (by omega)]; exact b, by rw [f 35 2 (by omega)]; exact c, by rw [f 34 4 (by omega)]; exact e, fun k hk => ?_, fun i hi => ?_⟩
  · rw [f 36 k (by omega), f 37 k (by omega), f 38 k (by omega), f 39 k (by omega), f 40 k (by omega)]; exact r1 k hk
  · rw [f 41 i (by omega)]; exact r2 i hi
theorem dn_addE {d : Dy} {e : En} (h : 0 ≤ d 0 2) : dn (addE d e) = dn d + 1 := by
  have e0 : addE d e 0 2 = d 0 2 + 1 := by unfold addE; rw [if_pos ⟨rfl, rfl⟩]
  unfold dn; rw [e0]; omega
theorem addE_o {d : Dy} {e : En} {f k : Nat} (h1 : ¬ (f = 0 ∧ k = 2)) (h2 : ¬ (k = dn d ∧ 1 ≤ f ∧ f ≤ 5)) : addE d e f k = d f k := by unfold addE; rw [if_neg h1, if_neg h2]
theorem s_addEntry {h : Mem} {d : Dy} {a1 a2 a3 a4 : Int} {Q : Int → Mem → Prop} (r : RDr h d) (p : 0 ≤ d 0 2 ∧ d 0 2 < 60) (hQ : ∀ u, RDr u (addE d (a1, a2, a3, a4)) → (∀ i k, ¬ (i = 35 ∧ k = 2) → ¬ (36 ≤ i ∧ i < 41) → u i k = h i k) → Q (d 0 2) u) : F_X1_addEntry h 35 a1 a2 a3 a4 Q := by
  obtain ⟨c0, c1, c2, c3, r1, r2⟩ := r
  have E : h 35 2 = (dn d : Int) := by rw [c2]; unfold dn; omega
  have dlt : (dn d : Int) = d 0 2 := by unfold dn; omega
  unfold F_X1_addEntry
  rw [E, Int.toNat_natCast]
  refine ⟨fun _ => ⟨⟨by omega, by omega⟩, fun h2 e2 => ?_⟩, fun q => absurd (by omega) q⟩
  have E2 : h2 35 2 = (dn d : Int) := by rw [e2, mset_i _ (by omega)]; exact E
  rw [E2, Int.toNat_natCast]
  refine ⟨⟨by omega, by omega⟩, fun h4 e4 => ?_⟩
  have E4 : h4 35 2 = (dn d : Int) := by rw [e4, mset_i _ (by omega)]; exact E2
  rw [E4, Int.toNat_natCast]
  refine ⟨⟨by omega, by omega⟩, fun h6 e6 => ?_⟩
  have E6 : h6 35 2 = (dn d : Int) := by rw [e6, mset_i _ (by omega)]; exact E4
  rw [E6, Int.toNat_natCast]
  refine ⟨⟨by omega, by omega⟩, fun h8 e8 => ?_⟩
  have E8 : h8 35 2 = (dn d : Int) := by rw [e8, mset_i _ (by omega)]; exact E6
  rw [E8, Int.toNat_natCast]
  refine ⟨⟨by omega, by omega⟩, fun hA eA => ?_⟩
  have EA : hA 35 2 = (dn d : Int) := by rw [eA, mset_i _ (by omega)]; exact E8
  rw [EA]
  refine ⟨⟨by omega, by omega⟩, fun u eu => ?_⟩
  have EU : u 35 2 = (dn d : Int) + 1 := by rw [eu, mset_at]
  rw [EU]
  refine ⟨⟨by omega, by omega⟩, ?_⟩
  rw [show (dn d : Int) + 1 - 1 = d 0 2 by omega]
  have fr : ∀ i k, ¬ (i = 35 ∧ k = 2) → ¬ (36 ≤ i ∧ i < 41) → u i k = h i k := fun i k h2 hi => by rw [eu, mset_o (by omega), eA, mset_i _ (by omega), e8, mset_i _ (by omega), e6, mset_i _ (by omega), e4, mset_i _ (by omega), e2, mset_i _ (by omega)]
  have s0 : u 35 0 = h 35 0 := by rw [eu, mset_k (by omega), eA, mset_i _ (by omega), e8, mset_i _ (by omega), e6, mset_i _ (by omega), e4, mset_i _ (by omega), e2, mset_i _ (by omega)]
  have s1 : u 35 1 = h 35 1 := by rw [eu, mset_k (by omega), eA, mset_i _ (by omega), e8, mset_i _ (by omega), e6, mset_i _ (by omega), e4, mset_i _ (by omega), e2, mset_i _ (by omega)]
  have k3 : addE d (a1, a2, a3, a4) 0 3 = d 0 3 := addE_o (by omega) (by omega)
  refine hQ u ⟨by rw [s0]; exact c0, by rw [s1, addE_o (by omega) (by omega)]; exact c1, ?_, by rw [fr 34 4 (by omega) (by omega), k3]; exact c3, fun k hk => ?_, fun i hi => ?_⟩ fr
  · rw [EU]; unfold addE; rw [if_pos ⟨rfl, rfl⟩]; omega
  · rw [dn_addE p.1] at hk
    by_cases c : k = dn d
    · subst c
      unfold addE
      rw [eu, eA, e8, e6, e4, e2]
      simp [mset]
      omega
    · have q := r1 k (by omega)
      rw [addE_o (by omega) (by omega), addE_o (by omega) (by omega), addE_o (by omega) (by omega), addE_o (by omega) (by omega), addE_o (by omega) (by omega)]
      rw [eu, eA, e8, e6, e4, e2]
      simp [mset, c]
      exact q
  · have e3 : dd (addE d (a1, a2, a3, a4)) = dd d := by unfold dd; rw [k3]
    rw [e3] at hi
    rw [fr 41 i (by omega) (by omega), addE_o (by omega) (by omega)]; exact r2 i hi
