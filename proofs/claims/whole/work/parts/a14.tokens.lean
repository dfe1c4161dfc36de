/-! tokens, pure: B the bytes, n how many; as x numbers the kinds: 0 end, 1 word, 2 number, 3 sign, 4 bad -/
def Pl (c : Int) : Bool := decide (97 ≤ c ∧ c ≤ 122)
def Pd (c : Int) : Bool := decide (48 ≤ c ∧ c ≤ 57)
def Pb (c : Int) : Bool := decide (c = 10 ∨ c = 32)
def Ps (c : Int) : Bool := decide (c = 59 ∨ c = 60 ∨ c = 61 ∨ c = 62)
theorem Pl_iff {c : Int} : Pl c = true ↔ 97 ≤ c ∧ c ≤ 122 := decide_eq_true_iff
theorem Pd_iff {c : Int} : Pd c = true ↔ 48 ≤ c ∧ c ≤ 57 := decide_eq_true_iff
theorem Pb_iff {c : Int} : Pb c = true ↔ c = 10 ∨ c = 32 := decide_eq_true_iff
theorem Ps_iff {c : Int} : Ps c = true ↔ c = 59 ∨ c = 60 ∨ c = 61 ∨ c = 62 := decide_eq_true_iff
def runP (P : Int → Bool) (B : Nat → Int) (n : Nat) : Nat → Nat → Nat
  | 0, p => p
  | f + 1, p => if p < n ∧ P (B p) = true then runP P B n f (p + 1) else p
def rn (P : Int → Bool) (B : Nat → Int) (n p : Nat) : Nat := runP P B n (n - p) p
theorem rn_go {P : Int → Bool} {B : Nat → Int} {n p : Nat} (h : p < n) (hP : P (B p) = true) : rn P B n p = rn P B n (p + 1) := by
  unfold rn
  rw [show n - p = (n - (p + 1)) + 1 by omega]
  show (if p < n ∧ P (B p) = true then runP P B n (n - (p + 1)) (p + 1) else p) = _
  rw [if_pos ⟨h, hP⟩]
theorem rn_stop {P : Int → Bool} {B : Nat → Int} {n p : Nat} (h : ¬ (p < n ∧ P (B p) = true)) : rn P B n p = p := by
  unfold rn
  cases n - p with
  | zero => rfl
  | succ f =>
    show (if p < n ∧ P (B p) = true then runP P B n f (p + 1) else p) = p
    rw [if_neg h]
theorem rn_is {P : Int → Bool} {B : Nat → Int} {n : Nat} : ∀ (m p : Nat), p + m = n → p ≤ rn P B n p ∧ rn P B n p ≤ n ∧ (∀ i, p ≤ i → i < rn P B n p → P (B i) = true) ∧ ¬ (rn P B n p < n ∧ P (B (rn P B n p)) = true) := by
  intro m
  induction m with
  | zero =>
    intro p hp
    have e : rn P B n p = p := rn_stop (by omega)
    rw [e]
    exact ⟨Nat.le_refl _, by omega, fun i h1 h2 => absurd h2 (by omega), by omega⟩
  | succ m ih =>
    intro p hp
    by_cases c : P (B p) = true
    · rw [rn_go (by omega) c]
      obtain ⟨i1, i2, i3, i4⟩ := ih (p + 1) (by omega)
      refine ⟨by omega, i2, fun i h1 h2 => ?_, i4⟩
      by_cases e : i = p
      · subst e; exact c
      · exact i3 i (by omega) h2
    · have e : rn P B n p = p := rn_stop (fun q => c q.2)
      rw [e]
      exact ⟨Nat.le_refl _, by omega, fun i h1 h2 => absurd h2 (by omega), fun q => c q.2⟩
theorem rn_in {P : Int → Bool} {B : Nat → Int} {n p : Nat} (h : p ≤ n) : p ≤ rn P B n p ∧ rn P B n p ≤ n ∧ (∀ i, p ≤ i → i < rn P B n p → P (B i) = true) ∧ ¬ (rn P B n p < n ∧ P (B (rn P B n p)) = true) := rn_is (n - p) p (by omega)
/-- letters from s on as a number by 32, digits by 10 -/
def x5 (B : Nat → Int) (s : Nat) : Nat → Nat
  | 0 => 0
  | k + 1 => 2 ^ 5 * x5 B s k + (B (s + k) - 96).toNat
def nv (B : Nat → Int) (s : Nat) : Nat → Nat
  | 0 => 0
  | k + 1 => 10 * nv B s k + (B (s + k) - 48).toNat
def kwT : List Nat := [409031, 408612, 495763, 659100717, 688, 147182, 81544, 21243335, 777297171, 7939603, 13940883, 402611, 435596, 52, 278194, 21252599, 6475880, 1497, 762030, 611795, 254268868, 409072, 5572, 643568]
def KW (i : Nat) : Nat := kwT.getD i 0
def kwF (w : Nat) : Nat → Int
  | 0 => -1
  | i + 1 => if KW i = w then (i : Int) else kwF w i
theorem kwF_in {w : Nat} : ∀ i, -1 ≤ kwF w i ∧ kwF w i < i := by
  intro i
  induction i with
  | zero => exact ⟨Int.le_refl _, by show (-1 : Int) < ((0 : Nat) : Int); omega⟩
  | succ i ih => unfold kwF; split <;> omega
def tke (B : Nat → Int) (n s : Nat) : Int := if n ≤ s then 0 else if Pl (B s) = true then 1 else if Pd (B s) = true then (if rn Pd B n s - s ≤ 4 then 2 else 4) else if Ps (B s) = true then 3 else 4
def tee (B : Nat → Int) (n s : Nat) : Nat := if n ≤ s then s else if Pl (B s) = true then rn Pl B n s else if Pd (B s) = true then rn Pd B n s else if Ps (B s) = true then s + 1 else s
def tke_v (B : Nat → Int) (n s : Nat) : Int := if n ≤ s then -1 else if Pl (B s) = true then (if rn Pl B n s - s ≤ 8 then kwF (x5 B s (rn Pl B n s - s)) 24 else -1) else if Pd (B s) = true then ((nv B s (min (rn Pd B n s - s) 4) : Nat) : Int) else if Ps (B s) = true then B s else -1
def tlt (B : Nat → Int) (n s : Nat) : Int := if n ≤ s then 0 else if Pl (B s) = true then (if rn Pl B n s - s ≤ 8 then ((x5 B s (rn Pl B n s - s) : Nat) : Int) else 0) else 0
theorem x5_lt {B : Nat → Int} {s : Nat} : ∀ k, (∀ i, i < k → Pl (B (s + i)) = true) → x5 B s k < 2 ^ (5 * k) := by
  intro k
  induction k with
  | zero => intro _; exact Nat.zero_lt_one
  | succ k ih =>
    intro h
    have i := ih (fun i hi => h i (by omega))
    have l := Pl_iff.mp (h k (by omega))
    have e : 2 ^ (5 * (k + 1)) = 2 ^ 5 * 2 ^ (5 * k) := by rw [← Nat.pow_add]; congr 1; omega
    rw [e]
    unfold x5
    generalize x5 B s k = X at i ⊢
    generalize 2 ^ (5 * k) = P at i ⊢
    omega
theorem nv_lt {B : Nat → Int} {s : Nat} : ∀ k, (∀ i, i < k → Pd (B (s + i)) = true) → nv B s k < 10 ^ k := by
  intro k
  induction k with
  | zero => intro _; exact Nat.zero_lt_one
  | succ k ih =>
    intro h
    have i := ih (fun i hi => h i (by omega))
    have l := Pd_iff.mp (h k (by omega))
    rw [Nat.pow_succ]
    unfold nv
    omega
/-! x's tokens -/
def F9 (h u : Mem) : Prop := ∀ i k, ¬ (i = 9 ∧ 4 ≤ k ∧ k ≤ 8) → u i k = h i k
theorem F9.rf {h : Mem} : F9 h h := fun _ _ _ => rfl
theorem F9.tr {h h1 h2 : Mem} (a : F9 h h1) (b : F9 h1 h2) : F9 h h2 := fun i k p => (b i k p).trans (a i k p)
theorem F9.st {h u : Mem} {k : Nat} {v : Int} (f : F9 h u) (hk : 4 ≤ k ∧ k ≤ 8) : F9 h (mset u 9 k v) := fun i j p => (mset_o (by omega)).trans (f i j p)
/-- the text as x holds it, and the token that it looks at -/
def XB (h : Mem) (B : Nat → Int) (n : Nat) : Prop := n ≤ 900 ∧ h 9 3 = (n : Int) ∧ (∀ i, i < n → h 10 i = B i) ∧ ∀ i, i < 24 → h 11 i = ((KW i : Nat) : Int)
def XT (h : Mem) (B : Nat → Int) (n s : Nat) : Prop := XB h B n ∧ s ≤ n ∧ h 9 4 = ((tee B n s : Nat) : Int) ∧ h 9 5 = tke B n s ∧ h 9 6 = (s : Int) ∧ h 9 7 = tke_v B n s ∧ h 9 8 = tlt B n s
theorem XB.fr {h u : Mem} {B : Nat → Int} {n : Nat} (x : XB h B n) (f : ∀ i k, (i = 9 ∧ k = 3) ∨ i = 10 ∨ i = 11 → u i k = h i k) : XB u B n := ⟨x.1, by rw [f 9 3 (by omega)]; exact x.2.1, fun i hi => by rw [f 10 i (by omega)]; exact x.2.2.1 i hi, fun i hi => by rw [f 11 i (by omega)]; exact x.2.2.2 i hi⟩
theorem XT.fr {h u : Mem} {B : Nat → Int} {n s : Nat} (x : XT h B n s) (f : ∀ i k, (i = 9 ∧ 3 ≤ k ∧ k ≤ 8) ∨ i = 10 ∨ i = 11 → u i k = h i k) : XT u B n s := by
  obtain ⟨x0, x1, x2, x3, x4, x5, x6⟩ := x
  refine ⟨x0.fr (fun i k q => f i k (by omega)), x1, ?_, ?_, ?_, ?_, ?_⟩
  · rw [f 9 4 (by omega)]; exact x2
  · rw [f 9 5 (by omega)]; exact x3
  · rw [f 9 6 (by omega)]; exact x4
  · rw [f 9 7 (by omega)]; exact x5
  · rw [f 9 8 (by omega)]; exact x6
section XP
variable {h : Mem} {B : Nat → Int} {n : Nat}
theorem s_takeNumber {s : Nat} {Q : Mem → Prop} (xb : XB h B n) (hs : s < n) (hd : Pd (B s) = true) (e4 : h 9 4 = (s : Int)) (e6 : h 9 6 = (s : Int)) (hQ : ∀ u, F9 h u → u 9 4 = ((rn Pd B n s : Nat) : Int) → u 9 5 = (if rn Pd B n s - s ≤ 4 then 2 else 4) → u 9 6 = (s : Int) → u 9 7 = ((nv B s (min (rn Pd B n s - s) 4) : Nat) : Int) → u 9 8 = h 9 8 → Q u) : F_X8_takeNumber h Q := by
  obtain ⟨r1, r2, r3, r4⟩ := rn_in (P := Pd) (B := B) (n := n) (p := s) (by omega)
  unfold F_X8_takeNumber
  have key : ∀ (m i : Nat) (u : Mem), i + m = rn Pd B n s → s ≤ i → F9 h u → u 9 4 = (i : Int) → u 9 6 = (s : Int) → u 9 8 = h 9 8 → L_X8_takeNumber_2 u ((nv B s (min (i - s) 4) : Nat) : Int) Q := by
    intro m
    induction m with
    | zero =>
      intro i u hi hsi f u4 u6 u8
      have ei : i = rn Pd B n s := by omega
      have xu := xb.fr (u := u) (fun i k q => f i k (by omega))
      have fin : J_X8_takeNumber_72 u ((nv B s (min (i - s) 4) : Nat) : Int) Q := by
        unfold J_X8_takeNumber_72
        rw [u4, u6]
        refine ⟨⟨by have := xb.1; omega, by have := xb.1; omega⟩, fun c h17 e17 h18 e18 => ?_, fun c h19 e19 h20 e20 => ?_⟩
        · subst e18 e17
          refine hQ _ ((f.st (by omega)).st (by omega)) ?_ ?_ ?_ ?_ ?_
          · rw [mset_k (by omega), mset_k (by omega), u4, ei]
          · rw [mset_k (by omega), mset_at, if_pos (by omega)]
          · rw [mset_k (by omega), mset_k (by omega)]; exact u6
          · rw [mset_at, ei]
          · rw [mset_k (by omega), mset_k (by omega)]; exact u8
        · subst e20 e19
          refine hQ _ ((f.st (by omega)).st (by omega)) ?_ ?_ ?_ ?_ ?_
          · rw [mset_k (by omega), mset_k (by omega), u4, ei]
          · rw [mset_k (by omega), mset_at, if_neg (by omega)]
          · rw [mset_k (by omega), mset_k (by omega)]; exact u6
          · rw [mset_at, ei]
          · rw [mset_k (by omega), mset_k (by omega)]; exact u8
      refine l_X8_takeNumber_2 ?_
      unfold B_X8_takeNumber_2
      rw [xu.2.1, u4]
      refine ⟨fun _ => fin, fun c => ⟨⟨by omega, by have := xb.1; omega⟩, ?_⟩⟩
      rw [Int.toNat_natCast, xu.2.2.1 i (by omega)]
      have nd : ¬ (48 ≤ B i ∧ B i ≤ 57) := fun q => r4 ⟨by omega, by rw [← ei]; exact Pd_iff.mpr q⟩
      unfold F_X8_isDigit
      exact ⟨fun _ => ⟨fun _ => fin, fun z => absurd rfl z⟩, fun c1 => ⟨fun _ => ⟨fun _ => fin, fun z => absurd rfl z⟩, fun c2 => absurd ⟨by omega, by omega⟩ nd⟩⟩
    | succ m ih =>
      intro i u hi hsi f u4 u6 u8
      have xu := xb.fr (u := u) (fun i k q => f i k (by omega))
      have di := Pd_iff.mp (r3 i hsi (by omega))
      have n9 := xb.1
      refine l_X8_takeNumber_2 ?_
      unfold B_X8_takeNumber_2
      rw [xu.2.1, u4]
      refine ⟨fun c => absurd c (by omega), fun _ => ⟨⟨by omega, by omega⟩, ?_⟩⟩
      rw [Int.toNat_natCast, xu.2.2.1 i (by omega)]
      unfold F_X8_isDigit
      refine ⟨fun c => absurd c (by omega), fun _ => ⟨fun c => absurd c (by omega), fun _ => ⟨fun z => absurd z (by decide), fun _ => ?_⟩⟩⟩
      rw [u4, u6, Int.toNat_natCast, xu.2.2.1 i (by omega)]
      refine ⟨⟨by omega, by omega⟩, fun c4 => ⟨⟨by omega, by omega⟩, fun h7 e7 => ?_⟩, fun c4 => ?_⟩
      · have em : min (i - s) 4 = min (i + 1 - s) 4 := by omega
        rw [em]
        subst e7
        exact ih (i + 1) _ (by omega) (by omega) (f.st (by omega)) (by rw [mset_at]; omega) (by rw [mset_k (by omega)]; exact u6) (by rw [mset_k (by omega)]; exact u8)
      · have e1 : min (i - s) 4 = i - s := by omega
        have e2 : min (i + 1 - s) 4 = (i - s) + 1 := by omega
        have nl := nv_lt (B := B) (s := s) (i - s) (fun j hj => r3 (s + j) (by omega) (by omega))
        have p10 : 10 ^ (i - s) ≤ 10 ^ 3 := Nat.pow_le_pow_right (by decide) (by omega)
        have nx : nv B s (min (i + 1 - s) 4) = 10 * nv B s (i - s) + (B i - 48).toNat := by
          rw [e2]
          show 10 * nv B s (i - s) + (B (s + (i - s)) - 48).toNat = _
          rw [show s + (i - s) = i by omega]
        rw [e1]
        generalize 10 ^ (i - s) = PP at nl p10
        refine ⟨⟨by omega, by omega⟩, ⟨by omega, by omega⟩, ⟨by omega, by omega⟩, ⟨by omega, by omega⟩, fun x13 e13 => ⟨⟨by omega, by omega⟩, fun h15 e15 => ?_⟩⟩
        have ex : x13 = ((nv B s (min (i + 1 - s) 4) : Nat) : Int) := by rw [e13, nx]; omega
        rw [ex]
        subst e15
        exact ih (i + 1) _ (by omega) (by omega) (f.st (by omega)) (by rw [mset_at]; omega) (by rw [mset_k (by omega)]; exact u6) (by rw [mset_k (by omega)]; exact u8)
  have k0 := key (rn Pd B n s - s) s h (by omega) (Nat.le_refl _) F9.rf e4 e6 rfl
  rw [Nat.sub_self] at k0
  exact k0
theorem s_kwLoop {w : Nat} {k8 : Int} {Q : Mem → Prop} (xb : XB h B n) (e7 : h 9 7 = -1) (hQ : ∀ u, (∀ i k, ¬ (i = 9 ∧ k = 7) → u i k = h i k) → u 9 7 = kwF w 24 → Q u) (hk : k8 = (w : Int)) : L_X8_takeWord_82 h k8 0 Q := by
  subst hk
  have key : ∀ (m i : Nat) (z : Int) (u : Mem), z = (i : Int) → i + m = 24 → (∀ i k, ¬ (i = 9 ∧ k = 7) → u i k = h i k) → u 9 7 = kwF w i → L_X8_takeWord_82 u (w : Int) z Q := by
    intro m
    induction m with
    | zero =>
      intro i z u hz hi f u7
      subst hz
      obtain rfl : i = 24 := by omega
      refine l_X8_takeWord_82 ?_
      unfold B_X8_takeWord_82
      exact ⟨fun _ => hQ u f u7, fun q => absurd (by omega) q⟩
    | succ m ih =>
      intro i z u hz hi f u7
      subst hz
      refine l_X8_takeWord_82 ?_
      unfold B_X8_takeWord_82
      have e11 : u 11 i = ((KW i : Nat) : Int) := (f 11 i (by omega)).trans (xb.2.2.2 i (by omega))
      have es : kwF w (i + 1) = if KW i = w then (i : Int) else kwF w i := rfl
      rw [Int.toNat_natCast, e11]
      refine ⟨fun q => absurd q (by omega), fun _ => ⟨⟨by omega, by omega⟩, fun c => ⟨⟨by omega, by omega⟩, ih (i + 1) _ u (by omega) (by omega) f ?_⟩, fun c h17 e17 => ⟨⟨by omega, by omega⟩, ?_⟩⟩⟩
      · rw [es, if_neg (by omega)]; exact u7
      · subst e17
        refine ih (i + 1) _ _ (by omega) (by omega) (fun a b q => (mset_o q).trans (f a b q)) ?_
        rw [mset_at, es, if_pos (by omega)]
  exact key 24 0 0 h rfl (by omega) (fun _ _ _ => rfl) e7
theorem s_takeWord {s : Nat} {Q : Mem → Prop} (xb : XB h B n) (hs : s < n) (hd : Pl (B s) = true) (e4 : h 9 4 = (s : Int)) (e6 : h 9 6 = (s : Int)) (e7 : h 9 7 = -1) (e8 : h 9 8 = 0) (hQ : ∀ u, F9 h u → u 9 4 = ((rn Pl B n s : Nat) : Int) → u 9 5 = 1 → u 9 6 = (s : Int) → u 9 7 = (if rn Pl B n s - s ≤ 8 then kwF (x5 B s (rn Pl B n s - s)) 24 else -1) → u 9 8 = (if rn Pl B n s - s ≤ 8 then ((x5 B s (rn Pl B n s - s) : Nat) : Int) else 0) → Q u) : F_X8_takeWord h Q := by
  obtain ⟨r1, r2, r3, r4⟩ := rn_in (P := Pl) (B := B) (n := n) (p := s) (by omega)
  have n9 := xb.1
  unfold F_X8_takeWord
  intro h1 e1
  have f1 : F9 h h1 := by rw [e1]; exact F9.rf.st (by omega)
  have key : ∀ (m i : Nat) (v : Int) (u : Mem), i + m = rn Pl B n s → s ≤ i → (i - s ≤ 8 → v = ((x5 B s (i - s) : Nat) : Int)) → F9 h u → u 9 4 = (i : Int) → u 9 5 = 1 → u 9 6 = (s : Int) → u 9 7 = -1 → u 9 8 = 0 → L_X8_takeWord_7 u v Q := by
    intro m
    induction m with
    | zero =>
      intro i v u hi hsi hv f u4 u5 u6 u7 u8
      have ei : i = rn Pl B n s := by omega
      have xu := xb.fr (u := u) (fun i k q => f i k (by omega))
      have fin : J_X8_takeWord_60 u v Q := by
        unfold J_X8_takeWord_60
        rw [u4, u6]
        refine ⟨⟨by omega, by omega⟩, fun c h13 e13 => ?_, fun c => ?_⟩
        · have ev := hv (by omega)
          subst e13
          refine s_kwLoop (w := x5 B s (i - s)) (xu.fr (fun i k q => mset_o (by omega))) ((mset_k (by omega)).trans u7) (fun x fx x7 => ?_) ev
          refine hQ x (fun a b q => (fx a b (by omega)).trans ((mset_o (by omega)).trans (f a b q))) ?_ ?_ ?_ ?_ ?_
          · rw [fx 9 4 (by omega), mset_k (by omega), u4, ei]
          · rw [fx 9 5 (by omega), mset_k (by omega)]; exact u5
          · rw [fx 9 6 (by omega), mset_k (by omega)]; exact u6
          · rw [x7, if_pos (by omega), ei]
          · rw [fx 9 8 (by omega), mset_at, if_pos (by omega), ev, ei]
        · refine hQ u f (by rw [u4, ei]) u5 u6 ?_ ?_
          · rw [if_neg (by omega)]; exact u7
          · rw [if_neg (by omega)]; exact u8
      refine l_X8_takeWord_7 ?_
      unfold B_X8_takeWord_7
      rw [xu.2.1, u4]
      refine ⟨fun _ => fin, fun c => ⟨⟨by omega, by omega⟩, ?_⟩⟩
      rw [Int.toNat_natCast, xu.2.2.1 i (by omega)]
      have nd : ¬ (97 ≤ B i ∧ B i ≤ 122) := fun q => r4 ⟨by omega, by rw [← ei]; exact Pl_iff.mpr q⟩
      unfold F_X8_isLetter
      exact ⟨fun _ => ⟨fun _ => fin, fun z => absurd rfl z⟩, fun c1 => ⟨fun _ => ⟨fun _ => fin, fun z => absurd rfl z⟩, fun c2 => absurd ⟨by omega, by omega⟩ nd⟩⟩
    | succ m ih =>
      intro i v u hi hsi hv f u4 u5 u6 u7 u8
      have xu := xb.fr (u := u) (fun i k q => f i k (by omega))
      have di := Pl_iff.mp (r3 i hsi (by omega))
      refine l_X8_takeWord_7 ?_
      unfold B_X8_takeWord_7
      rw [xu.2.1, u4]
      refine ⟨fun c => absurd c (by omega), fun _ => ⟨⟨by omega, by omega⟩, ?_⟩⟩
      rw [Int.toNat_natCast, xu.2.2.1 i (by omega)]
      unfold F_X8_isLetter
      refine ⟨fun c => absurd c (by omega), fun _ => ⟨fun c => absurd c (by omega), fun _ => ⟨fun z => absurd z (by decide), fun _ => ?_⟩⟩⟩
      unfold F_X8_withLetter
      rw [u4, Int.toNat_natCast, xu.2.2.1 i (by omega)]
      refine ⟨⟨by omega, by omega⟩, ⟨by omega, by omega⟩, ⟨by omega, by omega⟩, ⟨by omega, by omega⟩, fun h11 e11 => ?_⟩
      subst e11
      refine ih (i + 1) _ _ (by omega) (by omega) (fun c8 => ?_) (f.st (by omega)) (by rw [mset_at]; omega) (by rw [mset_k (by omega)]; exact u5) (by rw [mset_k (by omega)]; exact u6) (by rw [mset_k (by omega)]; exact u7) (by rw [mset_k (by omega)]; exact u8)
      have xl := x5_lt (B := B) (s := s) (i - s) (fun j hj => r3 (s + j) (by omega) (by omega))
      have p5 : 2 ^ (5 * (i - s)) ≤ 2 ^ 35 := Nat.pow_le_pow_right (by decide) (by omega)
      have xe : x5 B s (i + 1 - s) = 2 ^ 5 * x5 B s (i - s) + (B i - 96).toNat := by
        rw [show i + 1 - s = (i - s) + 1 by omega]
        show 2 ^ 5 * x5 B s (i - s) + (B (s + (i - s)) - 96).toNat = _
        rw [show s + (i - s) = i by omega]
      have e3 : B i - 97 + 1 = (((B i - 96).toNat : Nat) : Int) := by omega
      rw [hv (by omega), xe, e3]
      generalize x5 B s (i - s) = X at xl
      generalize 2 ^ (5 * (i - s)) = PP at xl p5
      have e1 : lshl (X : Int) 5 = ((2 ^ 5 * X : Nat) : Int) := l_shl (k := 5) (by omega) (by omega)
      rw [e1, l_or (k := 5) (by omega) (by omega)]
  refine key (rn Pl B n s - s) s 0 h1 (by omega) (Nat.le_refl _) (fun _ => by rw [Nat.sub_self]; rfl) f1 ?_ ?_ ?_ ?_ ?_
  · rw [e1, mset_k (by omega)]; exact e4
  · rw [e1, mset_at]
  · rw [e1, mset_k (by omega)]; exact e6
  · rw [e1, mset_k (by omega)]; exact e7
  · rw [e1, mset_k (by omega)]; exact e8
theorem s_advance {p : Nat} {Q : Mem → Prop} (xb : XB h B n) (hp : p ≤ n) (e4 : h 9 4 = (p : Int)) (hQ : ∀ u, F9 h u → XT u B n (rn Pb B n p) → Q u) : F_X8_advance h Q := by
  obtain ⟨r1, r2, r3, r4⟩ := rn_in (P := Pb) (B := B) (n := n) (p := p) hp
  have n9 := xb.1
  unfold F_X8_advance
  have tok : ∀ (s : Nat) (u : Mem), s = rn Pb B n p → F9 h u → u 9 4 = (s : Int) → J_X8_advance_52 u Q := by
    intro s u hs f u4
    rw [← hs] at r2 r4
    unfold J_X8_advance_52
    intro h8 e8 h9 e9 h10 e10
    rw [u4] at e8
    have f10 : F9 h h10 := by rw [e10, e9, e8]; exact ((f.st (by omega)).st (by omega)).st (by omega)
    have x10 := xb.fr (u := h10) (fun i k q => f10 i k (by omega))
    have a4 : h10 9 4 = (s : Int) := by rw [e10, mset_k (by omega), e9, mset_k (by omega), e8, mset_k (by omega)]; exact u4
    have a6 : h10 9 6 = (s : Int) := by rw [e10, mset_k (by omega), e9, mset_k (by omega), e8, mset_at]
    have a7 : h10 9 7 = -1 := by rw [e10, mset_k (by omega), e9, mset_at]
    have a8 : h10 9 8 = 0 := by rw [e10, mset_at]
    have fin : ∀ x : Mem, F9 h10 x → x 9 4 = ((tee B n s : Nat) : Int) → x 9 5 = tke B n s → x 9 6 = (s : Int) → x 9 7 = tke_v B n s → x 9 8 = tlt B n s → Q x := fun x fx y4 y5 y6 y7 y8 => by
      refine hQ x (f10.tr fx) ?_
      rw [← hs]
      exact ⟨x10.fr (fun i k q => fx i k (by omega)), by omega, y4, y5, y6, y7, y8⟩
    rw [x10.2.1, a4]
    refine ⟨fun c => ⟨fun c2 => absurd c2 (by omega), fun _ h20 e20 => ?_⟩, fun c => ⟨⟨by omega, by omega⟩, fun x23 e23 => ⟨fun _ => ?_, fun c2 => absurd (by omega) c2⟩⟩⟩
    · have c' : n ≤ s := by omega
      subst e20
      refine fin _ (F9.rf.st (by omega)) ?_ ?_ ?_ ?_ ?_
      · rw [mset_k (by omega), a4]; unfold tee; rw [if_pos c']
      · rw [mset_at]; unfold tke; rw [if_pos c']
      · rw [mset_k (by omega)]; exact a6
      · rw [mset_k (by omega), a7]; unfold tke_v; rw [if_pos c']
      · rw [mset_k (by omega), a8]; unfold tlt; rw [if_pos c']
    · have c' : ¬ n ≤ s := by omega
      rw [Int.toNat_natCast, x10.2.2.1 s (by omega)] at e23
      subst e23
      have word : 97 ≤ B s ∧ B s ≤ 122 → F_X8_takeWord h10 (fun h31 => Q h31) := fun q => by
        have hl := Pl_iff.mpr q
        refine s_takeWord x10 (by omega) hl a4 a6 a7 a8 (fun x fx y4 y5 y6 y7 y8 => fin x fx ?_ ?_ y6 ?_ ?_)
        · rw [y4]; unfold tee; rw [if_neg c', if_pos hl]
        · rw [y5]; unfold tke; rw [if_neg c', if_pos hl]
        · rw [y7]; unfold tke_v; rw [if_neg c', if_pos hl]
        · rw [y8]; unfold tlt; rw [if_neg c', if_pos hl]
      have rest : ¬ (97 ≤ B s ∧ B s ≤ 122) → F_X8_isDigit h10 (B s) (fun r27 h26 => ((r27 = 0 → ((B s = 59 → J_X8_advance_166 h26 (B s) Q) ∧ (¬ (B s = 59) → ((B s = 60 → J_X8_advance_166 h26 (B s) Q) ∧ (¬ (B s = 60) → ((B s = 62 → J_X8_advance_166 h26 (B s) Q) ∧ (¬ (B s = 62) → ((¬ (B s = 61) → (∀ h28 : Mem, h28 = mset h26 9 5 4 → Q h28)) ∧ (B s = 61 → J_X8_advance_166 h26 (B s) Q))))))))) ∧ (¬ (r27 = 0) → (F_X8_takeNumber h26 (fun h29 => Q h29))))) := fun q => by
        have nl : ¬ Pl (B s) = true := fun z => q (Pl_iff.mp z)
        have sgn : (B s = 59 ∨ B s = 60 ∨ B s = 61 ∨ B s = 62) → J_X8_advance_166 h10 (B s) Q := fun hs2 => by
          have hS := Ps_iff.mpr hs2
          have nd : ¬ Pd (B s) = true := fun z => by have := Pd_iff.mp z; omega
          unfold J_X8_advance_166
          intro h34 e34 h35 e35
          have b4 : h35 9 4 = (s : Int) := by rw [e35, mset_k (by omega), e34, mset_k (by omega)]; exact a4
          rw [b4]
          refine ⟨⟨by omega, by omega⟩, fun h37 e37 => ?_⟩
          subst e37 e35 e34
          refine fin _ (((F9.rf.st (by omega)).st (by omega)).st (by omega)) ?_ ?_ ?_ ?_ ?_
          · rw [mset_at]; unfold tee; rw [if_neg c', if_neg nl, if_neg nd, if_pos hS]; omega
          · rw [mset_k (by omega), mset_k (by omega), mset_at]; unfold tke; rw [if_neg c', if_neg nl, if_neg nd, if_pos hS]
          · rw [mset_k (by omega), mset_k (by omega), mset_k (by omega)]; exact a6
          · rw [mset_k (by omega), mset_at]; unfold tke_v; rw [if_neg c', if_neg nl, if_neg nd, if_pos hS]
          · rw [mset_k (by omega), mset_k (by omega), mset_k (by omega), a8]; unfold tlt; rw [if_neg c', if_neg nl]
        have nodig : ¬ (48 ≤ B s ∧ B s ≤ 57) → ((B s = 59 → J_X8_advance_166 h10 (B s) Q) ∧ (¬ (B s = 59) → ((B s = 60 → J_X8_advance_166 h10 (B s) Q) ∧ (¬ (B s = 60) → ((B s = 62 → J_X8_advance_166 h10 (B s) Q) ∧ (¬ (B s = 62) → ((¬ (B s = 61) → (∀ h28 : Mem, h28 = mset h10 9 5 4 → Q h28)) ∧ (B s = 61 → J_X8_advance_166 h10 (B s) Q)))))))) := fun nd0 => by
          have nd : ¬ Pd (B s) = true := fun z => nd0 (Pd_iff.mp z)
          refine ⟨fun y => sgn (by omega), fun y1 => ⟨fun y => sgn (by omega), fun y2 => ⟨fun y => sgn (by omega), fun y3 => ⟨fun y4 h28 e28 => ?_, fun y => sgn (by omega)⟩⟩⟩⟩
          have nS : ¬ Ps (B s) = true := fun z => by have := Ps_iff.mp z; omega
          subst e28
          refine fin _ (F9.rf.st (by omega)) ?_ ?_ ?_ ?_ ?_
          · rw [mset_k (by omega), a4]; unfold tee; rw [if_neg c', if_neg nl, if_neg nd, if_neg nS]
          · rw [mset_at]; unfold tke; rw [if_neg c', if_neg nl, if_neg nd, if_neg nS]
          · rw [mset_k (by omega)]; exact a6
          · rw [mset_k (by omega), a7]; unfold tke_v; rw [if_neg c', if_neg nl, if_neg nd, if_neg nS]
          · rw [mset_k (by omega), a8]; unfold tlt; rw [if_neg c', if_neg nl]
        unfold F_X8_isDigit
        refine ⟨fun d1 => ⟨fun _ => nodig (by omega), fun z => absurd rfl z⟩, fun d1 => ⟨fun d2 => ⟨fun _ => nodig (by omega), fun z => absurd rfl z⟩, fun d2 => ⟨fun z => absurd z (by decide), fun _ => ?_⟩⟩⟩
        have hd := Pd_iff.mpr (show 48 ≤ B s ∧ B s ≤ 57 by omega)
        refine s_takeNumber x10 (by omega) hd a4 a6 (fun x fx y4 y5 y6 y7 y8 => fin x fx ?_ ?_ y6 ?_ ?_)
        · rw [y4]; unfold tee; rw [if_neg c', if_neg nl, if_pos hd]
        · rw [y5]; unfold tke; rw [if_neg c', if_neg nl, if_pos hd]
        · rw [y7]; unfold tke_v; rw [if_neg c', if_neg nl, if_pos hd]
        · rw [y8, a8]; unfold tlt; rw [if_neg c', if_neg nl]
      unfold F_X8_isLetter
      exact ⟨fun d1 => ⟨fun _ => rest (by omega), fun z => absurd rfl z⟩, fun d1 => ⟨fun d2 => ⟨fun _ => rest (by omega), fun z => absurd rfl z⟩, fun d2 => ⟨fun z => absurd z (by decide), fun _ => word (by omega)⟩⟩⟩
  have key : ∀ (m i : Nat) (u : Mem), i + m = rn Pb B n p → p ≤ i → F9 h u → u 9 4 = (i : Int) → L_X8_advance_0 u Q := by
    intro m
    induction m with
    | zero =>
      intro i u hi hpi f u4
      have ei : i = rn Pb B n p := by omega
      have xu := xb.fr (u := u) (fun i k q => f i k (by omega))
      refine l_X8_advance_0 ?_
      unfold B_X8_advance_0
      rw [xu.2.1, u4]
      refine ⟨fun _ => tok i u ei f u4, fun c => ⟨⟨by omega, by omega⟩, ?_⟩⟩
      rw [Int.toNat_natCast, xu.2.2.1 i (by omega)]
      have nb : ¬ (B i = 10 ∨ B i = 32) := fun q => r4 ⟨by omega, by rw [← ei]; exact Pb_iff.mpr q⟩
      exact ⟨fun q => absurd (Or.inl q) nb, fun _ => ⟨fun _ => tok i u ei f u4, fun q => absurd (Or.inr q) nb⟩⟩
    | succ m ih =>
      intro i u hi hpi f u4
      have xu := xb.fr (u := u) (fun i k q => f i k (by omega))
      have bi := Pb_iff.mp (r3 i hpi (by omega))
      refine l_X8_advance_0 ?_
      unfold B_X8_advance_0
      rw [xu.2.1, u4]
      refine ⟨fun c => absurd c (by omega), fun _ => ⟨⟨by omega, by omega⟩, ?_⟩⟩
      rw [Int.toNat_natCast, xu.2.2.1 i (by omega)]
      have go : ∀ h4 : Mem, h4 = mset u 9 4 ((i : Int) + 1) → L_X8_advance_0 h4 Q := fun h4 e => by
        subst e
        exact ih (i + 1) _ (by omega) (by omega) (f.st (by omega)) (by rw [mset_at]; omega)
      exact ⟨fun _ => ⟨⟨by omega, by omega⟩, go⟩, fun q => ⟨fun q2 => absurd bi (by omega), fun _ => ⟨⟨by omega, by omega⟩, go⟩⟩⟩
  exact key (rn Pb B n p - p) p h (by omega) (Nat.le_refl _) F9.rf e4
end XP
