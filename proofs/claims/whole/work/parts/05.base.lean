/-! values, memory, layout -/
abbrev Vl : Type := Nat × Int
abbrev Mem : Type := Nat → Nat → Int
abbrev InR (x : Int) : Prop := -2147483648 ≤ x ∧ x ≤ 2147483647
abbrev InL (x : Int) : Prop := -9223372036854775808 ≤ x ∧ x ≤ 9223372036854775807
abbrev InB (x : Int) : Prop := -128 ≤ x ∧ x ≤ 127
abbrev InZ (x : Int) : Prop := x = 0 ∨ x = 1
def enc (α : Nat → Nat) : Vl → Value
  | (0, x) => .int (Int32.ofInt x)
  | (1, x) => .long (Int64.ofInt x)
  | (_, .ofNat a) => .ref (α a)
  | (_, .negSucc _) => .null
abbrev vi (x : Int) : Vl := (0, x)
abbrev vl (x : Int) : Vl := (1, x)
abbrev vr (a : Nat) : Vl := (2, Int.ofNat a)
def mset (h : Mem) (a k : Nat) (v : Int) : Mem := fun i j => if i = a ∧ j = k then v else h i j
def mcpy (h : Mem) (a p b q n : Nat) : Mem := fun i j => if i = b ∧ q ≤ j ∧ j < q + n then h a (p + (j - q)) else h i j
def nOb : Nat := 181
def layT : List (Nat × Nat) := [(0, 11), (0, 10), (1, 4), (1, 4), (7, 4), (2, 60), (2, 60), (2, 60), (2, 60), (0, 8), (3, 900), (2, 24), (0, 4), (0, 9), (2, 8), (1, 8), (1, 8), (1, 8), (1, 8), (1, 8), (1, 8), (1, 8), (0, 7), (2, 4), (1, 4), (1, 4), (1, 4), (0, 1), (1, 60), (1, 60), (1, 60), (1, 60), (1, 60), (0, 5), (0, 2), (0, 1), (1, 60), (1, 60), (1, 60), (1, 60), (1, 60), (1, 3), (0, 0), (2, 201), (2, 201), (2, 25), (4, 25), (0, 3), (0, 4), (0, 9), (2, 8), (1, 8), (1, 8), (1, 8), (1, 8), (1, 8), (1, 8), (1, 8), (0, 7), (2, 4), (1, 4), (1, 4), (1, 4), (0, 4), (0, 9), (2, 8), (1, 8), (1, 8), (1, 8), (1, 8), (1, 8), (1, 8), (1, 8), (0, 7), (2, 4), (1, 4), (1, 4), (1, 4), (0, 6), (1, 60), (5, 3), (0, 4), (0, 9), (2, 8), (1, 8), (1, 8), (1, 8), (1, 8), (1, 8), (1, 8), (1, 8), (0, 7), (2, 4), (1, 4), (1, 4), (1, 4), (0, 4), (0, 9), (2, 8), (1, 8), (1, 8), (1, 8), (1, 8), (1, 8), (1, 8), (1, 8), (0, 7), (2, 4), (1, 4), (1, 4), (1, 4), (0, 4), (0, 9), (2, 8), (1, 8), (1, 8), (1, 8), (1, 8), (1, 8), (1, 8), (1, 8), (0, 7), (2, 4), (1, 4), (1, 4), (1, 4), (6, 3), (0, 1), (1, 60), (1, 60), (1, 60), (1, 60), (1, 60), (0, 1), (1, 60), (1, 60), (1, 60), (1, 60), (1, 60), (0, 1), (1, 60), (1, 60), (1, 60), (1, 60), (1, 60), (1, 5), (0, 4), (0, 9), (2, 8), (1, 8), (1, 8), (1, 8), (1, 8), (1, 8), (1, 8), (1, 8), (0, 7), (2, 4), (1, 4), (1, 4), (1, 4), (0, 12), (1, 3008), (2, 72), (1, 4), (1, 4), (2, 240), (3, 900), (3, 900), (1, 3), (1, 5025), (1, 3), (4, 25), (4, 1525), (1, 3), (1, 3), (1, 3), (2, 13), (1, 80), (1, 5), (1, 5)]
def lay (i : Nat) : Nat × Nat := layT.getD i (99, 0)
def fkT : List (List (Nat × Nat)) := [[(0, 0), (0, 0), (0, 0), (0, 0), (4, 1), (4, 2), (4, 3), (4, 4)], [(2, 0), (0, 0), (0, 0), (4, 1), (4, 2), (4, 3), (4, 4), (4, 5)], [(4, 1), (3, 0), (3, 0), (4, 7), (0, 0)], [(0, 0), (0, 0), (0, 0), (3, 0), (0, 0), (0, 0), (0, 0), (4, 1), (4, 16)], [(0, 0), (0, 0), (0, 0), (0, 0), (0, 0), (0, 0), (0, 0), (4, 1), (4, 10)], [(3, 0), (3, 0), (0, 0)], [(0, 0), (0, 0), (0, 0), (0, 0), (3, 0), (3, 0), (4, 1)], [(0, 0), (4, 1), (4, 2), (4, 3), (4, 4)], [(4, 1), (0, 0), (4, 2), (0, 0), (0, 0), (0, 0), (0, 0), (0, 0), (1, 0), (0, 0), (0, 0)], [(0, 0), (4, 1), (4, 2), (4, 3), (4, 4), (4, 5), (4, 6), (4, 7), (4, 8)], [(4, 1), (4, 2), (4, 3)], [(0, 0), (1, 0), (1, 0), (4, 1), (4, 9), (4, 12), (4, 27), (4, 33), (4, 34), (4, 42), (4, 47), (4, 78), (0, 0), (4, 80), (4, 126), (4, 145), (2, 0), (4, 146)], [(4, 1), (4, 2), (0, 0), (1, 0), (1, 0), (4, 3), (4, 4), (4, 5), (4, 6), (4, 7), (0, 0), (0, 0), (0, 0), (0, 0), (0, 0), (0, 0), (0, 0), (0, 0), (0, 0), (0, 0), (0, 0), (4, 8), (0, 0), (0, 0), (4, 9), (0, 0), (0, 0), (4, 10), (4, 11), (4, 12), (0, 0), (0, 0), (0, 0), (4, 13), (4, 14), (4, 15), (4, 16), (0, 0), (0, 0), (4, 17), (4, 18), (4, 19), (2, 0), (0, 0)]]
def fk (c k : Nat) : Nat × Nat := (fkT.getD c []).getD k (9, 0)
def nfl (c : Nat) : Nat := (fkT.getD c []).length
def fval (α : Nat → Nat) (h : Mem) (i c k : Nat) : Value := match fk c k with
  | (0, _) => .int (Int32.ofInt (h i k))
  | (1, _) => .long (Int64.ofInt (h i k))
  | (2, _) => .int (Int32.ofInt (h i k))
  | (3, _) => enc α (2, h i k)
  | (_, q) => .ref (α (i + q))
def ent (α : Nat → Nat) (τ : Nat → ClassId) (h : Mem) (i : Nat) : va_E := match lay i with
  | (0, c) => .inr (c, (List.range (nfl c)).map (fun k => fval α h i c k))
  | (1, n) => .inl (τ 0, n, .inl (fun j => Int32.ofInt (h i j)))
  | (2, n) => .inl (τ 1, n, .inr (.inl (fun j => Int64.ofInt (h i j))))
  | (3, n) => .inl (τ 2, n, .inl (fun j => Int32.ofInt (h i j)))
  | (4, n) => .inl (τ 3, n, .inl (fun j => Int32.ofInt (h i j)))
  | (5, n) => .inl (τ 4, n, .inr (.inr (.inr (.inr (fun j => some (α (i + 1 + 15 * j)))))))
  | (6, n) => .inl (τ 5, n, .inr (.inr (.inr (.inr (fun j => some (α (i + 1 + 6 * j)))))))
  | (_, n) => .inl (τ 6, n, .inr (.inr (.inr (.inr (fun j => some (α (i + 1 + 1 * j)))))))
def tyl (τ : Nat → ClassId) : List (ClassId × FieldType) := [(τ 0, .int), (τ 1, .long), (τ 2, .byte), (τ 3, .boolean), (τ 4, .object RX4), (τ 5, .object RX1), (τ 6, .array .long)]
def wd (α : Nat → Nat) (τ : Nat → ClassId) (h : Mem) : va_W := (List.range nOb).map (fun i => (α i, ent α τ h i))
def skd (i k : Nat) : Nat := match lay i with
  | (0, c) => (fk c k).1
  | (1, _) => 0
  | (2, _) => 1
  | (3, _) => 5
  | (4, _) => 2
  | _ => 9
def okv (t : Nat) (x : Int) : Prop := match t with
  | 0 => InR x
  | 1 => InL x
  | 2 => InZ x
  | 3 => -1 ≤ x ∧ x < 181
  | 5 => InB x
  | _ => True
def Rg (h : Mem) : Prop := ∀ i k : Nat, okv (skd i k) (h i k)
theorem lay_lt {i k n : Nat} (h : lay i = (k, n)) (hk : k < 9) : i < nOb := by
  rcases Nat.lt_or_ge i nOb with h1 | h1
  · exact h1
  · have h2 : lay i = (99, 0) := by
      unfold lay
      rw [List.getD_eq_getElem?_getD, List.getElem?_eq_none (by exact h1)]
      rfl
    rw [h] at h2
    have h3 : k = 99 := congrArg Prod.fst h2
    omega
theorem lay_small {i k n : Nat} (h : lay i = (k, n)) : n < 2147483648 := by
  have h1 : ∀ x ∈ layT, x.2 < 2147483648 := by decide +kernel
  rcases Nat.lt_or_ge i layT.length with h2 | h2
  · have h3 : lay i ∈ layT := by
      unfold lay
      rw [List.getD_eq_getElem?_getD, List.getElem?_eq_getElem h2]
      exact List.getElem_mem h2
    rw [h] at h3
    exact h1 _ h3
  · have h3 : lay i = (99, 0) := by
      unfold lay
      rw [List.getD_eq_getElem?_getD, List.getElem?_eq_none h2]
      rfl
    rw [h] at h3
    have h4 : n = 0 := congrArg Prod.snd h3
    omega
theorem wd_get {α : Nat → Nat} {τ : Nat → ClassId} {h : Mem} {i : Nat} (hi : i < nOb) : (wd α τ h)[i]? = some (α i, ent α τ h i) := by
  unfold wd
  rw [List.getElem?_map, List.getElem?_range hi]
  rfl
theorem wd_len {α : Nat → Nat} {τ : Nat → ClassId} {h : Mem} : (wd α τ h).length = nOb := by
  unfold wd
  rw [List.length_map, List.length_range]
theorem ent_other {α : Nat → Nat} {τ : Nat → ClassId} {h h1 : Mem} {i : Nat} (e : ∀ k, h1 i k = h i k) : ent α τ h1 i = ent α τ h i := by
  unfold ent fval
  simp only [e]
theorem wd_set {α : Nat → Nat} {τ : Nat → ClassId} {h h1 : Mem} {a : Nat} {E : va_E} (ha : a < nOb) (hE : ent α τ h1 a = E) (ho : ∀ i k, i ≠ a → h1 i k = h i k) : (wd α τ h).set a (α a, E) = wd α τ h1 := by
  apply List.ext_getElem?
  intro j
  rcases Nat.lt_or_ge j nOb with hj | hj
  · by_cases e : j = a
    · subst e
      rw [List.getElem?_set_self (by rw [wd_len]; exact ha), wd_get hj, hE]
    · rw [List.getElem?_set_ne (fun q => e q.symm), wd_get hj, wd_get hj, ent_other (fun k => ho j k e)]
  · rw [List.getElem?_eq_none (by rw [List.length_set, wd_len]; exact hj), List.getElem?_eq_none (by rw [wd_len]; exact hj)]
theorem mset_at {h : Mem} {a k : Nat} {v : Int} : mset h a k v a k = v := by simp [mset]
theorem mset_k {h : Mem} {a k j : Nat} {v : Int} (e : j ≠ k) : mset h a k v a j = h a j := by simp [mset, e]
theorem mset_i {h : Mem} {a k i : Nat} {v : Int} (j : Nat) (e : i ≠ a) : mset h a k v i j = h i j := by simp [mset, e]
theorem Rg.set {h : Mem} (g : Rg h) {a k : Nat} {v : Int} (hv : okv (skd a k) v) : Rg (mset h a k v) := by
  intro i j
  by_cases e : i = a ∧ j = k
  · obtain ⟨rfl, rfl⟩ := e
    rw [mset_at]
    exact hv
  · have : mset h a k v i j = h i j := by simp [mset, e]
    rw [this]
    exact g i j
theorem i32_lt {a b : Int} (ha : InR a) (hb : InR b) : Int32.ofInt a < Int32.ofInt b ↔ a < b := by
  rw [Int32.lt_iff_toInt_lt, Int32.toInt_ofInt_of_le (by omega) (by omega), Int32.toInt_ofInt_of_le (by omega) (by omega)]
theorem i32_le {a b : Int} (ha : InR a) (hb : InR b) : Int32.ofInt a ≤ Int32.ofInt b ↔ a ≤ b := by
  rw [Int32.le_iff_toInt_le, Int32.toInt_ofInt_of_le (by omega) (by omega), Int32.toInt_ofInt_of_le (by omega) (by omega)]
theorem i32_eq {a b : Int} (ha : InR a) (hb : InR b) : Int32.ofInt a = Int32.ofInt b ↔ a = b := by
  rw [← Int32.toInt_inj, Int32.toInt_ofInt_of_le (by omega) (by omega), Int32.toInt_ofInt_of_le (by omega) (by omega)]
theorem i32_ti {a : Int} (ha : InR a) : (Int32.ofInt a).toInt = a := Int32.toInt_ofInt_of_le (by omega) (by omega)
theorem i64_ti {a : Int} (ha : InL a) : (Int64.ofInt a).toInt = a := Int64.toInt_ofInt_of_le (by omega) (by omega)
theorem i32_in {a : Int} {n : Nat} (h : 0 ≤ a ∧ a < (n : Int)) (hn : n < 2147483648) : vp_in (Int32.ofInt a) n ∧ (Int32.ofInt a).toNatClampNeg = a.toNat := by
  have h1 : (Int32.ofInt a).toInt = a := i32_ti (by omega)
  refine ⟨vp_in_iff.mpr (by rw [h1]; exact h), ?_⟩
  show (Int32.ofInt a).toInt.toNat = a.toNat
  rw [h1]

