/-! the reference's tokens -/
def chT : List Nat := [32, 108, 111, 110, 103, 32, 108, 111, 97, 100, 32, 111, 100, 100, 115, 32, 115, 116, 114, 101, 97, 109, 32, 116, 104, 105, 110, 103, 32, 109, 105, 108, 108, 32, 117, 112, 32, 100, 111, 119, 110, 32, 98, 111, 116, 104, 32, 119, 101, 105, 103, 104, 115, 32, 103, 114, 105, 112, 115, 32, 109, 105, 110, 100, 115, 32, 108, 105, 101, 115, 32, 97, 116, 32, 104, 111, 117, 114, 32, 116, 104, 114, 111, 119, 32, 102, 101, 116, 99, 104, 32, 97, 110, 121, 32, 119, 104, 101, 110, 32, 108, 111, 111, 112, 32, 101, 110, 100, 32, 115, 116, 111, 112, 32, 114, 117, 110, 115, 32, 103, 114, 111, 117, 110, 100, 32]
def CH (p : Nat) : Int := ((chT.getD p 0 : Nat) : Int)
def waT : List Nat := [1, 6, 11, 16, 23, 29, 34, 37, 42, 47, 54, 60, 66, 71, 74, 79, 85, 91, 95, 100, 105, 109, 114, 119, 126]
def wbT : List Nat := [5, 10, 15, 22, 28, 33, 36, 41, 46, 53, 59, 65, 70, 73, 78, 84, 90, 94, 99, 104, 108, 113, 118, 125]
def jkT : List Nat := [0, 1, 2, 3, 7, 12, 4, 5, 6, 8, 9, 10, 11, 13, 14, 15, 16, 17, 18, 21, 22, 23, 19, 20]
def kjT : List Nat := [0, 1, 2, 3, 6, 7, 8, 4, 9, 10, 11, 12, 5, 13, 14, 15, 16, 17, 18, 22, 23, 19, 20, 21]
def wa (j : Nat) : Nat := waT.getD j 0
def wb (j : Nat) : Nat := wbT.getD j 0
def jk (j : Nat) : Nat := jkT.getD j 0
/-- x's number of a word that is no name, as the reference has it -/
def kj (x : Int) : Int := if x < 0 then -1 else ((kjT.getD x.toNat 0 : Nat) : Int)
theorem ch_ok : ∀ p, p < 126 → i2c (iand (((strB.getD 1 []).getD p 0).toInt) 255) = CH p := by decide +kernel
theorem ch_len : strL.getD 1 0 = 126 := by decide +kernel
theorem wa_0 : wa 0 = 1 ∧ wa 24 = 126 := by decide +kernel
theorem word_ok : ∀ j, j < 24 → wa j < wb j ∧ wb j < 126 ∧ wa (j + 1) = wb j + 1 ∧ wb j - wa j ≤ 8 ∧ CH (wb j) = 32 ∧ jk j < 24 ∧ kj (jk j) = (j : Int) ∧ (∀ i, i < 8 → i < wb j - wa j → Pl (CH (wa j + i)) = true) ∧ x5 CH (wa j) (wb j - wa j) = KW (jk j) := by decide +kernel
theorem KW_inj : ∀ i, i < 24 → ∀ j, j < 24 → KW i = KW j → i = j := by decide +kernel
theorem jk_kj : ∀ i : Nat, i < 24 → 0 ≤ kj i ∧ kj i < 24 ∧ jk (kj i).toNat = i := by decide +kernel
theorem kwF_is {w : Nat} : ∀ m, m ≤ 24 → (∀ i : Nat, kwF w m = (i : Int) → i < m ∧ KW i = w) ∧ (kwF w m = -1 → ∀ i, i < m → KW i ≠ w) := by
  intro m
  induction m with
  | zero => intro _; exact ⟨fun i h => absurd h (by show (-1 : Int) ≠ (i : Int); omega), fun _ i h => absurd h (by omega)⟩
  | succ m ih =>
    intro hm
    obtain ⟨i1, i2⟩ := ih (by omega)
    have kin := kwF_in (w := w) m
    unfold kwF
    by_cases c : KW m = w
    · rw [if_pos c]
      exact ⟨fun i h => by have : i = m := by omega
                           subst this; exact ⟨by omega, c⟩, fun h => absurd h (by omega)⟩
    · rw [if_neg c]
      refine ⟨fun i h => ⟨by have := (i1 i h).1; omega, (i1 i h).2⟩, fun h i hi => ?_⟩
      by_cases e : i = m
      · subst e; exact c
      · exact i2 h i (by omega)
theorem x5_inj {B C : Nat → Int} {s t : Nat} : ∀ k l, (∀ i, i < k → Pl (B (s + i)) = true) → (∀ i, i < l → Pl (C (t + i)) = true) → (x5 B s k = x5 C t l ↔ (k = l ∧ ∀ i, i < k → B (s + i) = C (t + i))) := by
  intro k
  induction k with
  | zero =>
    intro l hB hC
    cases l with
    | zero => exact ⟨fun _ => ⟨rfl, fun i h => absurd h (by omega)⟩, fun _ => rfl⟩
    | succ l =>
      have c := Pl_iff.mp (hC l (by omega))
      refine ⟨fun h => ?_, fun h => absurd h.1 (by omega)⟩
      have h2 : (0 : Nat) = 2 ^ 5 * x5 C t l + (C (t + l) - 96).toNat := h
      omega
  | succ k ih =>
    intro l hB hC
    have b := Pl_iff.mp (hB k (by omega))
    cases l with
    | zero =>
      refine ⟨fun h => ?_, fun h => absurd h.1 (by omega)⟩
      have h2 : 2 ^ 5 * x5 B s k + (B (s + k) - 96).toNat = 0 := h
      omega
    | succ l =>
      have c := Pl_iff.mp (hC l (by omega))
      have i := ih l (fun i hi => hB i (by omega)) (fun i hi => hC i (by omega))
      refine ⟨fun h => ?_, fun h => ?_⟩
      · have h2 : 2 ^ 5 * x5 B s k + (B (s + k) - 96).toNat = 2 ^ 5 * x5 C t l + (C (t + l) - 96).toNat := h
        have h3 : x5 B s k = x5 C t l := by omega
        obtain ⟨e, f⟩ := i.mp h3
        subst e
        refine ⟨rfl, fun i hi => ?_⟩
        by_cases e : i = k
        · subst e; omega
        · exact f i (by omega)
      · have e : k = l := by omega
        subst e
        have h3 := i.mpr ⟨rfl, fun i hi => h.2 i (by omega)⟩
        show 2 ^ 5 * x5 B s k + (B (s + k) - 96).toNat = 2 ^ 5 * x5 C t k + (C (t + k) - 96).toNat
        rw [h3, h.2 k (by omega)]
/-- a word's letters by 256 -/
def n8 (B : Nat → Int) (s : Nat) : Nat → Nat
  | 0 => 0
  | k + 1 => 2 ^ 8 * n8 B s k + (B (s + k)).toNat
theorem c8F_x5 {B : Nat → Int} {s : Nat} : ∀ k f, k ≤ f → (∀ i, i < k → Pl (B (s + i)) = true) → c8F f (x5 B s k) = n8 B s k := by
  intro k
  induction k with
  | zero =>
    intro f _ _
    cases f with
    | zero => rfl
    | succ f => rfl
  | succ k ih =>
    intro f hf h
    obtain ⟨f, rfl⟩ : ∃ g, f = g + 1 := ⟨f - 1, by omega⟩
    have b := Pl_iff.mp (h k (by omega))
    have i := ih f (by omega) (fun i hi => h i (by omega))
    show (if 2 ^ 5 * x5 B s k + (B (s + k) - 96).toNat = 0 then 0 else c8F f ((2 ^ 5 * x5 B s k + (B (s + k) - 96).toNat) / 32) * 256 + ((2 ^ 5 * x5 B s k + (B (s + k) - 96).toNat) % 32 + 96)) = 2 ^ 8 * n8 B s k + (B (s + k)).toNat
    rw [if_neg (by omega), show (2 ^ 5 * x5 B s k + (B (s + k) - 96).toNat) / 32 = x5 B s k by omega, i]
    omega
theorem c8F_inj : ∀ f a b, a < 32 ^ f → b < 32 ^ f → c8F f a = c8F f b → a = b := by
  intro f
  induction f with
  | zero => intro a b ha hb _; omega
  | succ f ih =>
    intro a b ha hb h
    have h2 : (if a = 0 then 0 else c8F f (a / 32) * 256 + (a % 32 + 96)) = (if b = 0 then 0 else c8F f (b / 32) * 256 + (b % 32 + 96)) := h
    rw [Nat.pow_succ] at ha hb
    by_cases c : a = 0
    · rw [if_pos c] at h2
      by_cases d : b = 0
      · omega
      · rw [if_neg d] at h2; omega
    · rw [if_neg c] at h2
      by_cases d : b = 0
      · rw [if_pos d] at h2; omega
      · rw [if_neg d] at h2
        have e := ih (a / 32) (b / 32) (by omega) (by omega) (by omega)
        omega
def nmR (x : Int) : Prop := 0 ≤ x ∧ x < 1099511627776
theorem c8_inj {x y : Int} (hx : nmR x) (hy : nmR y) : c8 x = c8 y ↔ x = y := by
  refine ⟨fun h => ?_, fun h => by rw [h]⟩
  unfold nmR at hx hy
  unfold c8 at h
  rw [if_pos hx, if_pos hy] at h
  have p : (32 : Nat) ^ 8 = 1099511627776 := by decide
  have := c8F_inj 8 x.toNat y.toNat (by omega) (by omega) (by omega)
  omega
theorem x5_nm {B : Nat → Int} {s k : Nat} (hk : k ≤ 8) (h : ∀ i, i < k → Pl (B (s + i)) = true) : nmR ((x5 B s k : Nat) : Int) ∧ c8 ((x5 B s k : Nat) : Int) = ((n8 B s k : Nat) : Int) := by
  have l := x5_lt k h
  have p : 2 ^ (5 * k) ≤ 2 ^ 40 := Nat.pow_le_pow_right (by decide) (by omega)
  have r : nmR ((x5 B s k : Nat) : Int) := ⟨by omega, by omega⟩
  refine ⟨r, ?_⟩
  unfold c8
  rw [if_pos (show 0 ≤ ((x5 B s k : Nat) : Int) ∧ ((x5 B s k : Nat) : Int) < 1099511627776 from r), Int.toNat_natCast, c8F_x5 k 8 hk h]
theorem n8_lt {B : Nat → Int} {s : Nat} : ∀ k, (∀ i, i < k → Pl (B (s + i)) = true) → n8 B s k < 2 ^ (8 * k) := by
  intro k
  induction k with
  | zero => intro _; exact Nat.zero_lt_one
  | succ k ih =>
    intro h
    have i := ih (fun i hi => h i (by omega))
    have l := Pl_iff.mp (h k (by omega))
    have e : 2 ^ (8 * (k + 1)) = 2 ^ 8 * 2 ^ (8 * k) := by rw [← Nat.pow_add]; congr 1; omega
    rw [e]
    unfold n8
    generalize n8 B s k = X at i ⊢
    generalize 2 ^ (8 * k) = P at i ⊢
    omega
def kt (x : Int) : Int := if x = 0 then 0 else if x = 4 then 1 else x + 1
def mee (B : Nat → Int) (n s : Nat) : Nat := if n ≤ s then s else if Pl (B s) = true then rn Pl B n s else if Pd (B s) = true then rn Pd B n s else s + 1
def ubF (c : Int) : Int := if c < 0 then c + 256 else c
theorem ub_ok : ∀ k : Nat, k < 256 → iand ((k : Int) - 128) 255 = ubF ((k : Int) - 128) := by decide +kernel
theorem ub_in {c : Int} (h : InB c) : iand c 255 = ubF c := by
  have q := ub_ok (c + 128).toNat (by omega)
  rw [show (((c + 128).toNat : Nat) : Int) - 128 = c by omega] at q
  exact q
def MB (h : Mem) (B : Nat → Int) (n : Nat) : Prop := n ≤ 900 ∧ h 161 11 = (n : Int) ∧ (∀ i, i < n → h 168 i = B i) ∧ ∀ i, i < n → InB (B i)
def MT (h : Mem) (B : Nat → Int) (n s : Nat) : Prop := MB h B n ∧ s ≤ n ∧ h 161 12 = kt (tke B n s) ∧ h 161 13 = (s : Int) ∧ h 161 14 = ((mee B n s : Nat) : Int) ∧ (tke B n s = 2 ∨ tke B n s = 3 → h 161 15 = tke_v B n s)
def FT (h u : Mem) : Prop := ∀ i k, ¬ (i = 161 ∧ 12 ≤ k ∧ k ≤ 15) → u i k = h i k
theorem FT.rf {h : Mem} : FT h h := fun _ _ _ => rfl
theorem FT.tr {h h1 h2 : Mem} (a : FT h h1) (b : FT h1 h2) : FT h h2 := fun i k p => (b i k p).trans (a i k p)
theorem FT.st {h u : Mem} {k : Nat} {v : Int} (f : FT h u) (hk : 12 ≤ k ∧ k ≤ 15) : FT h (mset u 161 k v) := fun i j p => (mset_o (by omega)).trans (f i j p)
theorem MB.fr {h u : Mem} {B : Nat → Int} {n : Nat} (x : MB h B n) (f : ∀ i k, (i = 161 ∧ k = 11) ∨ i = 168 → u i k = h i k) : MB u B n := ⟨x.1, by rw [f 161 11 (by omega)]; exact x.2.1, fun i hi => by rw [f 168 i (by omega)]; exact x.2.2.1 i hi, x.2.2.2⟩
theorem MT.fr {h u : Mem} {B : Nat → Int} {n s : Nat} (x : MT h B n s) (f : ∀ i k, (i = 161 ∧ 11 ≤ k ∧ k ≤ 15) ∨ i = 168 → u i k = h i k) : MT u B n s := by
  obtain ⟨x0, x1, x2, x3, x4, x5⟩ := x
  refine ⟨x0.fr (fun i k q => f i k (by omega)), x1, ?_, ?_, ?_, fun q => ?_⟩
  · rw [f 161 12 (by omega)]; exact x2
  · rw [f 161 13 (by omega)]; exact x3
  · rw [f 161 14 (by omega)]; exact x4
  · rw [f 161 15 (by omega)]; exact x5 q
theorem q_byteAt {h : Mem} {B : Nat → Int} {n k : Nat} {x : Int} {Q : Int → Mem → Prop} (mb : MB h B n) (hx : x = (k : Int)) (h1 : n ≤ k → Q (-1) h) (h0 : k < n → Q (ubF (B k)) h) : F_X12_byteAt h x Q := by
  subst hx
  have n9 := mb.1
  unfold F_X12_byteAt
  rw [mb.2.1]
  refine ⟨fun c => h1 (by omega), fun c => ⟨⟨by omega, by omega⟩, ?_⟩⟩
  rw [Int.toNat_natCast, mb.2.2.1 k (by omega), ub_in (mb.2.2.2 k (by omega))]
  exact h0 (by omega)
