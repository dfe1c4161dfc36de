/-! minded: x tries all minds -/
theorem gset2 {g : Gs} {k t : Nat} {a b : Int} : gset (gset g k t a) k t b = gset g k t b := by
  funext f i
  by_cases c : f = k ∧ i = t
  · obtain ⟨rfl, rfl⟩ := c; rw [gset_e, gset_e]
  · rw [gset_n (by omega), gset_n (by omega), gset_n (by omega)]
theorem gset_self {g : Gs} {k t : Nat} : gset g k t (g k t) = g := by
  funext f i
  by_cases c : f = k ∧ i = t
  · obtain ⟨rfl, rfl⟩ := c; rw [gset_e]
  · rw [gset_n (by omega)]
theorem RC.mind {h : Mem} {g : Gs} {t : Nat} {x v : Int} (r : RC h 146 (gset g 3 t x)) : RC (mset h (146 + 1 + 4) t v) 146 (gset g 3 t v) := by
  have q : RT (mset h (147 + 3 + 1) t v) 147 (gset (gset g 3 t x) 3 t v) := r.1.2.1.set (by omega)
  rw [gset2] at q
  have f : Fr 151 152 h (mset h (146 + 1 + 4) t v) := Fr.rf.st (by omega) (by omega)
  have e0 : ∀ i, gset g 3 t x 0 i = gset g 3 t v 0 i := fun i => by rw [gset_n (by omega), gset_n (by omega)]
  obtain ⟨⟨⟨a1, a2, a3, a4, a5, a6⟩, rT, rm⟩, r5⟩ := r
  refine ⟨⟨⟨?_, ?_, ?_, ?_, ?_, ?_⟩, q, ?_⟩, ?_⟩
  · rw [f 146 (by omega), ← e0]; exact a1
  · rw [f 146 (by omega), ← e0]; exact a2
  · rw [f 146 (by omega), ← e0]; exact a3
  · rw [f 146 (by omega), ← e0]; exact a4
  · rw [f 146 (by omega), ← e0]; exact a5
  · rw [f 146 (by omega), ← e0]; exact a6
  · exact (rm.fr f (by omega)).cg (e0 1).symm (fun k m _ _ => by rw [gset_n (by omega), gset_n (by omega)])
  · rw [f 146 (by omega), ← e0]; exact r5
theorem UX.sto {h u : Mem} {o k : Nat} {v : Int} (f : UX h u) (ho : 42 ≤ o ∧ o < 80) : UX h (mset u o k v) := f.tr (UX.fr (Fr.rf.st (lo := 42) (hi := 80) (by omega) (by omega)) (by omega))
theorem RC.sto {h : Mem} {o p k : Nat} {g : Gs} {v : Int} (r : RC h o g) (ho : p < o ∨ o + 15 ≤ p) : RC (mset h p k v) o g := r.fr (lo := p) (hi := p + 1) (Fr.rf.st (by omega) (by omega)) (by omega)
def mdRow (g : Gs) (t : Nat) (S : Nat → Int) (n m : Nat) (v : Mem) : Prop := ∀ i, 1 ≤ i → i < m → v 45 i = ((tb g t i 61 : Nat) : Int) ∧ v 46 i = ft g t i S n
theorem mdRow.fr {g : Gs} {t : Nat} {S : Nat → Int} {n m : Nat} {v u : Mem} (a : mdRow g t S n m v) (e : ∀ i, i < m → u 45 i = v 45 i ∧ u 46 i = v 46 i) : mdRow g t S n m u := fun i h1 h2 => by
  rw [(e i h2).1, (e i h2).2]
  exact a i h1 h2
theorem SameF.pN {g : Gs} : ∀ (k : Nat) (g1 : Gs), SameF g g1 → SameF g (passN k g1) := by
  intro k
  induction k with
  | zero => intro g1 q; exact q
  | succ k ih => intro g1 q; exact ih (pass g1) q.pas
theorem l_shl1 {k : Nat} (hk : k < 62) : lshl 1 (k : Int) = ((2 ^ k * 1 : Nat) : Int) := by
  have p : 2 ^ k < 2 ^ 62 := Nat.pow_lt_pow_right (by decide) hk
  exact l_shl (a := 1) (by omega) (by omega)
theorem s_findMinds {h : Mem} {g : Gs} {t n o : Nat} {Q : Mem → Prop} (w : WF 9999 g) (ht : t < gn g) (hn : n ≤ 20) (ho : lay o = (2, 60)) (ho2 : 5 ≤ o ∧ o < 9) (ok : okSeen (fun k => h o k) n) (r12 : RC h 12 g) (hQ : ∀ v, RC v 12 g → UX h v → mdRow g t (fun k => h o k) n 25 v → Q v) : F_X0_findMinds h 12 146 (t : Int) o (n : Int) Q := by
  have w1 := w.1
  unfold WFs at w1
  have t8 : t < 8 := by have := w.nm.1; omega
  unfold F_X0_findMinds
  generalize hS : (fun k => h o k) = S at hQ ok
  have inner : ∀ (m : Nat), 1 ≤ m → m ≤ 24 → ∀ (d j : Nat) (z : Int) (u : Mem), z = (j : Int) → j + d = 61 → RC u 146 (passN j (gset g 3 t (m : Int))) → RC u 12 g → UX h u → mdRow g t S n m u → u 45 m = ((tb g t m j : Nat) : Int) →
      (∀ u', RC u' 146 (passN 61 (gset g 3 t (m : Int))) → RC u' 12 g → UX h u' → mdRow g t S n (m + 1) u' → L_X0_findMinds_8 u' 12 146 (t : Int) o (n : Int) ((m : Int) + 1) Q) → L_X0_findMinds_42 u 12 146 (t : Int) o (n : Int) (m : Int) z Q := by
    intro m m1 m2 d
    induction d with
    | zero =>
      intro j z u hz hi ru r2 f row e45 K
      subst hz
      obtain rfl : j = 61 := by omega
      refine l_X0_findMinds_42 rfl rfl ho ?_
      unfold B_X0_findMinds_42
      have eS : (fun k => u o k) = S := by rw [← hS]; exact funext (fun k => f o k (by omega) (by omega) (by omega) (by omega))
      rw [Int.toNat_natCast, e45]
      refine ⟨fun _ => ⟨⟨by omega, by omega⟩, s_fits ho hn (by rw [eS]; exact ok) ?_⟩, fun c => absurd (by omega) c⟩
      rw [eS]
      refine ⟨ft_01 n, fun h14 e14 => ⟨⟨by omega, by omega⟩, ?_⟩⟩
      subst e14
      refine K _ (ru.sto (by omega)) (r2.sto (by omega)) (f.sto (by omega)) (fun i i1 i2 => ?_)
      by_cases c : i = m
      · subst c
        rw [mset_i _ (by omega), mset_at]
        exact ⟨e45, rfl⟩
      · rw [mset_i _ (by omega), mset_k c]
        exact row i i1 (by omega)
    | succ d ih =>
      intro j z u hz hi ru r2 f row e45 K
      subst hz
      refine l_X0_findMinds_42 rfl rfl ho ?_
      unfold B_X0_findMinds_42
      have wG : WF (9999 + j) (passN j (gset g 3 t (m : Int))) := (w.gs (Or.inr rfl) (by omega)).passN j
      refine ⟨fun c => absurd c (by omega), fun _ => s_passHour (o := 146) rfl ru wG (by omega) (fun v rv fv => ?_)⟩
      rw [← passN_s] at rv
      have fx : UX h v := f.tr (UX.fr fv (by omega))
      have r3 : RC v 12 g := r2.fr fv (by omega)
      have row2 : mdRow g t S n m v := row.fr (fun i _ => ⟨fv 45 (by omega) i, fv 46 (by omega) i⟩)
      have e45v : v 45 m = ((tb g t m j : Nat) : Int) := (fv 45 (by omega) m).trans e45
      have lt := tb_lt (g := g) (t := t) (m := m) j
      have p : 2 ^ j < 2 ^ 61 := Nat.pow_lt_pow_right (by decide) (by omega)
      have ts : tb g t m (j + 1) = if trn g t m j = 1 then 2 ^ j * 1 + tb g t m j else tb g t m j := rfl
      have et : tn (passN j (gset g 3 t (m : Int))) = trn g t m j := rfl
      rw [et, Int.toNat_natCast, e45v]
      refine ⟨fun c => ⟨⟨by omega, by omega⟩, ?_⟩, fun c => ⟨⟨by omega, by omega⟩, fun h21 e21 => ⟨⟨by omega, by omega⟩, ?_⟩⟩⟩
      · rw [if_neg (by omega)] at ts
        exact ih (j + 1) _ v (by omega) (by omega) rv r3 fx row2 (by rw [ts]; exact e45v) K
      · have c1 : trn g t m j = 1 := by
          have t01 : trn g t m j = 0 ∨ trn g t m j = 1 := tn_01 _
          omega
        rw [if_pos c1] at ts
        rw [l_shl1 (by omega), l_or2 lt (by omega), ← ts] at e21
        subst e21
        refine ih (j + 1) _ _ (by omega) (by omega) (rv.sto (by omega)) (r3.sto (by omega)) (fx.sto (by omega)) (row2.fr (fun i hi => ?_)) mset_at K
        rw [mset_k (by omega), mset_i _ (by omega)]
        exact ⟨rfl, rfl⟩
  have outer : ∀ (d m : Nat) (z : Int) (v : Mem) (g' : Gs) (x : Int), z = (m : Int) → m + d = 25 → 1 ≤ m → RC v 146 g' → SameF (gset g 3 t x) g' → RC v 12 g → UX h v → mdRow g t S n m v → L_X0_findMinds_8 v 12 146 (t : Int) o (n : Int) z Q := by
    intro d
    induction d with
    | zero =>
      intro m z v g' x hz hi m1 ru sf r f row
      subst hz
      obtain rfl : m = 25 := by omega
      refine l_X0_findMinds_8 rfl rfl ho ?_
      unfold B_X0_findMinds_8
      exact ⟨fun _ => hQ v r f row, fun c => absurd (by omega) c⟩
    | succ d ih =>
      intro m z v g' x hz hi m1 ru sf r f row
      subst hz
      refine l_X0_findMinds_8 rfl rfl ho ?_
      unfold B_X0_findMinds_8
      refine ⟨fun c => absurd c (by omega), fun _ => s_goBack3 sf ru r (fun i => gset_n (by omega)) (fun k i h1 h2 => gset_n (by omega)) w.nm (fun v1 rv1 fv1 => ⟨⟨by omega, by omega⟩, fun h6 e6 => ⟨⟨by omega, by omega⟩, fun h8 e8 => ?_⟩⟩)⟩
      rw [Int.toNat_natCast] at e6 e8
      subst e8 e6
      have q1 : RC (mset v1 (146 + 1 + 4) t (m : Int)) 146 (gset g 3 t (m : Int)) := rv1.mind
      have q2 : RC (mset v1 (146 + 1 + 4) t (m : Int)) 12 g := (r.fr fv1 (by omega)).sto (by omega)
      have q3 : UX h (mset v1 (146 + 1 + 4) t (m : Int)) := (f.tr (UX.fr fv1 (by omega))).tr (UX.fr (Fr.rf.st (lo := 146) (hi := 161) (by omega) (by omega)) (by omega))
      refine inner m m1 (by omega) 61 0 0 _ rfl (by omega) (q1.sto (by omega)) (q2.sto (by omega)) (q3.sto (by omega)) (row.fr (fun i hi => ?_)) mset_at (fun u' a b c e => ih (m + 1) _ u' _ (m : Int) (by omega) (by omega) (by omega) a (SameF.pN 61 _ SameF.rf) b c e)
      rw [mset_k (by omega), mset_i _ (by omega), mset_i _ (by omega), mset_i _ (by omega), fv1 45 (by omega), fv1 46 (by omega)]
      exact ⟨rfl, rfl⟩
  exact x_try w r12 (fun u ru r fu => outer 24 1 1 u g (g 3 t) rfl (by omega) (by omega) ru (by rw [gset_self]; exact SameF.rf) r fu (fun i h1 h2 => absurd h1 (by omega)))
