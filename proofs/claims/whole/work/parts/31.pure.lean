/-! the pure glen: g 0: 0 things, 1 mills, 2 long, 3 load, 4 odds, 5 hour, 6 cell of the stream, 7 runs down, 8 turns; of thing t: g 1 weight, 2 grip, 3 mind, 4 where, 5 cell (0 but when it lies), 6 hours, 7 homes, 11 name; of mill m: g 8 cell, 9 kind, 10 ground, 12 name -/
abbrev Gs : Type := Nat → Nat → Int
def gn (g : Gs) : Nat := (g 0 0).toNat
def gm (g : Gs) : Nat := (g 0 1).toNat
def WFt (g : Gs) (t : Nat) : Prop := 0 ≤ g 1 t ∧ g 1 t ≤ 9 ∧ 1 ≤ g 2 t ∧ g 2 t ≤ 24 ∧ 1 ≤ g 3 t ∧ g 3 t ≤ 24 ∧ 0 ≤ g 4 t ∧ g 4 t ≤ 3 ∧ 0 ≤ g 5 t ∧ g 5 t < g 0 2 ∧ (g 4 t ≠ 1 → g 5 t = 0) ∧ 0 ≤ g 6 t ∧ g 6 t ≤ 99 ∧ (g 4 t = 0 ∨ g 4 t = 3 → g 6 t = 0) ∧ (g 4 t = 2 → g 6 t ≤ 23) ∧ 0 ≤ g 7 t ∧ g 7 t ≤ g 0 5
def WFm (g : Gs) (m : Nat) : Prop := 0 ≤ g 8 m ∧ g 8 m < g 0 2 ∧ 0 ≤ g 9 m ∧ g 9 m ≤ 2 ∧ 0 ≤ g 10 m ∧ g 10 m ≤ g 0 5
def WFs (B : Int) (g : Gs) : Prop := 0 ≤ g 0 0 ∧ g 0 0 ≤ 8 ∧ 0 ≤ g 0 1 ∧ g 0 1 ≤ 4 ∧ 2 ≤ g 0 2 ∧ g 0 2 ≤ 16 ∧ 1 ≤ g 0 3 ∧ g 0 3 ≤ 40 ∧ 0 ≤ g 0 4 ∧ g 0 4 ≤ 16 ∧ 0 ≤ g 0 5 ∧ g 0 5 ≤ B ∧ 0 ≤ g 0 6 ∧ g 0 6 < g 0 2 ∧ (g 0 7 = 0 ∨ g 0 7 = 1) ∧ 0 ≤ g 0 8 ∧ g 0 8 ≤ g 0 5
def WF (B : Int) (g : Gs) : Prop := WFs B g ∧ (∀ t, t < gn g → WFt g t) ∧ ∀ m, m < gm g → WFm g m
/-- the longest remembered of the first k things, and for how long it has lain -/
def lr (g : Gs) : Nat → Int × Int
  | 0 => (-1, 0)
  | k + 1 => if g 4 k = 1 ∧ g 3 k ≤ g 6 k ∧ (lr g k).2 < g 6 k then ((k : Int), g 6 k) else lr g k
def gT (g : Gs) : Int := (lr g (gn g)).1
def goalC (g : Gs) : Int := if gT g = -1 then g 0 2 - 1 else g 5 (gT g).toNat
/-- what all carried of the first k weigh -/
def cw (g : Gs) : Nat → Int
  | 0 => 0
  | k + 1 => if g 4 k = 2 then cw g k + g 1 k else cw g k
/-- of those that are taken up: what load is left ahead of thing t -/
def fl (g : Gs) (at_ fr : Int) : Nat → Int
  | 0 => fr
  | t + 1 => if g 4 t = 1 ∧ g 5 t = at_ ∧ g 3 t ≤ g 6 t ∧ g 1 t ≤ fl g at_ fr t then fl g at_ fr t - g 1 t else fl g at_ fr t
def upTo (k : Nat) (F : Nat → Nat → Int) (g : Gs) : Gs := fun f t => if 4 ≤ f ∧ f ≤ 7 ∧ t < k then F f t else g f t
def takeF (g : Gs) (at_ fr : Int) (f t : Nat) : Int := if g 4 t = 1 ∧ g 5 t = at_ ∧ g 3 t ≤ g 6 t ∧ g 1 t ≤ fl g at_ fr t then (if f = 4 then 2 else if f = 7 then g 7 t else 0) else g f t
def growF (g : Gs) (at_ sea : Int) (f t : Nat) : Int :=
  if g 4 t = 1 then (if f = 6 then (if 99 ≤ g 6 t then g 6 t else g 6 t + 1) else g f t)
  else if g 4 t = 2 then
    (if sea ≠ 0 then (if f = 4 then 3 else if f = 7 then g 7 t + 1 else 0)
     else if g 6 t + 1 < g 2 t then (if f = 6 then g 6 t + 1 else g f t)
     else (if f = 4 then 1 else if f = 5 then at_ else if f = 6 then 0 else g f t))
  else g f t
def grindTo (k : Nat) (at_ way : Int) (g : Gs) : Gs := fun f m => if f = 10 ∧ m < k ∧ g 8 m = at_ ∧ (g 9 m = 2 ∨ g 9 m = way) then g 10 m + 1 else g f m
def sset (g : Gs) (i : Nat) (v : Int) : Gs := fun f t => if f = 0 ∧ t = i then v else g f t
def wantD (g : Gs) : Int := if g 0 6 < goalC g then 1 else 0
def tn (g : Gs) : Int := if goalC g ≠ g 0 6 ∧ g 0 7 ≠ wantD g then 1 else 0
def nextC (g : Gs) : Int := g 0 6 + (if g 0 7 = 1 then 1 else -1)
/-- the stream's own part of an hour -/
def moveG (g : Gs) : Gs :=
  if tn g = 1 then sset (sset g 7 (wantD g)) 8 (g 0 8 + 1)
  else if goalC g ≠ g 0 6 then
    grindTo (gm g) (nextC g) (g 0 7) (sset g 6 (nextC g))
  else g
def takeG (g : Gs) : Gs := upTo (gn g) (takeF g (g 0 6) (g 0 3 - cw g (gn g))) g
def growG (g : Gs) : Gs := upTo (gn g) (growF g (g 0 6) (if g 0 6 = g 0 2 - 1 then 1 else 0)) g
def hourG (g : Gs) : Gs := sset g 5 (g 0 5 + 1)
def pass (g : Gs) : Gs := growG (takeG (moveG (hourG g)))
def passN : Nat → Gs → Gs
  | 0, g => g
  | k + 1, g => passN k (pass g)
/-- x's glen at object o, its things at o + 1, mills at o + 10 -/
def RT (h : Mem) (T : Nat) (g : Gs) : Prop := h T 0 = g 0 0 ∧ ∀ t, t < gn g → h (T + 1) t = g 11 t ∧ h (T + 2) t = g 1 t ∧ h (T + 3) t = g 2 t ∧ h (T + 4) t = g 3 t ∧ h (T + 5) t = g 4 t ∧ h (T + 6) t = g 5 t ∧ h (T + 7) t = g 6 t ∧ h (T + 8) t = g 7 t
def RM (h : Mem) (T : Nat) (g : Gs) : Prop := h T 0 = g 0 1 ∧ ∀ m, m < gm g → h (T + 1) m = g 12 m ∧ h (T + 2) m = g 8 m ∧ h (T + 3) m = g 9 m ∧ h (T + 4) m = g 10 m
def RS (h : Mem) (o : Nat) (g : Gs) : Prop := (h o 0 = g 0 2 ∧ h o 1 = g 0 3 ∧ h o 2 = g 0 4 ∧ h o 3 = g 0 6 ∧ h o 4 = g 0 7 ∧ h o 6 = g 0 8) ∧ RT h (o + 1) g ∧ RM h (o + 10) g
def RC (h : Mem) (o : Nat) (g : Gs) : Prop := RS h o g ∧ h o 5 = g 0 5
/-- nothing outside of the objects lo .. hi - 1 has changed -/
def Fr (lo hi : Nat) (h h' : Mem) : Prop := ∀ i, (i < lo ∨ hi ≤ i) → ∀ k, h' i k = h i k
theorem Fr.rf {lo hi : Nat} {h : Mem} : Fr lo hi h h := fun _ _ _ => rfl
theorem Fr.tr {lo hi : Nat} {h h1 h2 : Mem} (a : Fr lo hi h h1) (b : Fr lo hi h1 h2) : Fr lo hi h h2 := fun i hi k => (b i hi k).trans (a i hi k)
theorem Fr.wd {lo hi l2 h2 : Nat} {h h' : Mem} (a : Fr lo hi h h') (e1 : l2 ≤ lo) (e2 : hi ≤ h2) : Fr l2 h2 h h' := fun i hi k => a i (by omega) k
theorem Fr.st {lo hi a k : Nat} {h h' : Mem} {v : Int} (f : Fr lo hi h h') (h1 : lo ≤ a) (h2 : a < hi) : Fr lo hi h (mset h' a k v) := fun i hi j => (mset_i j (by omega)).trans (f i hi j)
theorem ms_same {h : Mem} {a k : Nat} {v : Int} : mset h a k v a k = v := mset_at
theorem RT.fr {h h' : Mem} {T : Nat} {g : Gs} {lo hi : Nat} (r : RT h T g) (f : Fr lo hi h h') (e : T + 9 ≤ lo ∨ hi ≤ T) : RT h' T g := by
  refine ⟨by rw [f T (by omega)]; exact r.1, fun t ht => ?_⟩
  rw [f (T + 1) (by omega), f (T + 2) (by omega), f (T + 3) (by omega), f (T + 4) (by omega), f (T + 5) (by omega), f (T + 6) (by omega), f (T + 7) (by omega), f (T + 8) (by omega)]
  exact r.2 t ht
theorem RM.fr {h h' : Mem} {T : Nat} {g : Gs} {lo hi : Nat} (r : RM h T g) (f : Fr lo hi h h') (e : T + 5 ≤ lo ∨ hi ≤ T) : RM h' T g := by
  refine ⟨by rw [f T (by omega)]; exact r.1, fun t ht => ?_⟩
  rw [f (T + 1) (by omega), f (T + 2) (by omega), f (T + 3) (by omega), f (T + 4) (by omega)]
  exact r.2 t ht
theorem RS.fr {h h' : Mem} {o : Nat} {g : Gs} {lo hi : Nat} (r : RS h o g) (f : Fr lo hi h h') (e : o + 15 ≤ lo ∨ hi ≤ o) : RS h' o g := by
  obtain ⟨r1, r2, r3⟩ := r
  refine ⟨?_, r2.fr f (by omega), r3.fr f (by omega)⟩
  rw [f o (by omega), f o (by omega), f o (by omega), f o (by omega), f o (by omega), f o (by omega)]
  exact r1
theorem RC.fr {h h' : Mem} {o : Nat} {g : Gs} {lo hi : Nat} (r : RC h o g) (f : Fr lo hi h h') (e : o + 15 ≤ lo ∨ hi ≤ o) : RC h' o g := ⟨r.1.fr f e, by rw [f o (by omega)]; exact r.2⟩
