section XD3
variable {h u : Mem} {d : Dy}
theorem dn_same {d d' : Dy} (e : d' 0 2 = d 0 2) : dn d' = dn d := by unfold dn; rw [e]
theorem dd_same {d d' : Dy} (e : d' 0 3 = d 0 3) : dd d' = dd d := by unfold dd; rw [e]
theorem stpE_o {f k : Nat} (e : ¬ (f = 0 ∧ k = 1)) : stpE d f k = d f k := by unfold stpE; rw [if_neg e]
theorem popE_o {f k : Nat} (e : ¬ (f = 0 ∧ k = 3)) : popE d f k = d f k := by unfold popE; rw [if_neg e]
theorem psh_o {x : Int} {f k : Nat} (e : ¬ (f = 0 ∧ k = 3)) (e2 : ¬ (f = 6 ∧ k = dd d)) : psh d x f k = d f k := by unfold psh; rw [if_neg e, if_neg e2]
theorem pairE_o {o e : Int} {f k : Nat} (q : f ≠ 5) : pairE d o e f k = d f k := by unfold pairE; rw [if_neg (by omega), if_neg (by omega)]
theorem RDr.stp (r : RDr u d) : RDr (mset u 35 1 (d 0 1 + 1)) (stpE d) := by
  obtain ⟨c0, c1, c2, c3, r1, r2⟩ := r
  have e2 : stpE d 0 2 = d 0 2 := stpE_o (by omega)
  have e3 : stpE d 0 3 = d 0 3 := stpE_o (by omega)
  refine ⟨by rw [mset_k (by omega)]; exact c0, ?_, by rw [mset_k (by omega), e2]; exact c2, by rw [mset_i _ (by omega), e3]; exact c3, fun k hk => ?_, fun i hi => ?_⟩
  · rw [mset_at]; unfold stpE; rw [if_pos ⟨rfl, rfl⟩]
  · rw [dn_same e2] at hk
    rw [mset_i _ (by omega), mset_i _ (by omega), mset_i _ (by omega), mset_i _ (by omega), mset_i _ (by omega), stpE_o (by omega), stpE_o (by omega), stpE_o (by omega), stpE_o (by omega), stpE_o (by omega)]
    exact r1 k hk
  · rw [dd_same e3] at hi
    rw [mset_i _ (by omega), stpE_o (by omega)]; exact r2 i hi
theorem RDr.pop (r : RDr u d) (p : 1 ≤ d 0 3) : RDr (mset u 34 4 (d 0 3 - 1)) (popE d) := by
  obtain ⟨c0, c1, c2, c3, r1, r2⟩ := r
  have e2 : popE d 0 2 = d 0 2 := popE_o (by omega)
  have e3 : popE d 0 3 = d 0 3 - 1 := by unfold popE; rw [if_pos ⟨rfl, rfl⟩]
  refine ⟨by rw [mset_i _ (by omega)]; exact c0, by rw [mset_i _ (by omega), popE_o (by omega)]; exact c1, by rw [mset_i _ (by omega), e2]; exact c2, by rw [mset_at, e3], fun k hk => ?_, fun i hi => ?_⟩
  · rw [dn_same e2] at hk
    rw [mset_i _ (by omega), mset_i _ (by omega), mset_i _ (by omega), mset_i _ (by omega), mset_i _ (by omega), popE_o (by omega), popE_o (by omega), popE_o (by omega), popE_o (by omega), popE_o (by omega)]
    exact r1 k hk
  · have hi2 : i < dd d := by unfold dd at hi ⊢; rw [e3] at hi; omega
    rw [mset_i _ (by omega), popE_o (by omega)]; exact r2 i hi2
theorem rdr_psh {x : Int} (r : RDr u d) (p : 0 ≤ d 0 3) : RDr (mset (mset u 41 (dd d) x) 34 4 (d 0 3 + 1)) (psh d x) := by
  obtain ⟨c0, c1, c2, c3, r1, r2⟩ := r
  have e2 : psh d x 0 2 = d 0 2 := psh_o (by omega) (by omega)
  have e3 : psh d x 0 3 = d 0 3 + 1 := by unfold psh; rw [if_pos ⟨rfl, rfl⟩]
  refine ⟨by rw [mset_i _ (by omega), mset_i _ (by omega)]; exact c0, by rw [mset_i _ (by omega), mset_i _ (by omega), psh_o (by omega) (by omega)]; exact c1, by rw [mset_i _ (by omega), mset_i _ (by omega), e2]; exact c2, by rw [mset_at, e3], fun k hk => ?_, fun i hi => ?_⟩
  · rw [dn_same e2] at hk
    have q := r1 k hk
    rw [mset_i _ (by omega), mset_i _ (by omega), mset_i _ (by omega), mset_i _ (by omega), mset_i _ (by omega), mset_i _ (by omega), mset_i _ (by omega), mset_i _ (by omega), mset_i _ (by omega), mset_i _ (by omega), psh_o (by omega) (by omega), psh_o (by omega) (by omega), psh_o (by omega) (by omega), psh_o (by omega) (by omega), psh_o (by omega) (by omega)]
    exact q
  · rw [mset_i _ (by omega)]
    by_cases c : i = dd d
    · subst c
      rw [mset_at]; unfold psh; rw [if_neg (by omega), if_pos ⟨rfl, rfl⟩]
    · have hi2 : i < dd d := by unfold dd at hi c ⊢; rw [e3] at hi; omega
      rw [mset_k c, psh_o (by omega) (by omega)]; exact r2 i hi2
theorem rdr_pair {o e : Int} (r : RDr u d) : RDr (mset (mset u 40 o.toNat e) 40 e.toNat o) (pairE d o e) := by
  obtain ⟨c0, c1, c2, c3, r1, r2⟩ := r
  have e2 : pairE d o e 0 2 = d 0 2 := pairE_o (by omega)
  have e3 : pairE d o e 0 3 = d 0 3 := pairE_o (by omega)
  refine ⟨by rw [mset_i _ (by omega), mset_i _ (by omega)]; exact c0, by rw [mset_i _ (by omega), mset_i _ (by omega), pairE_o (by omega)]; exact c1, by rw [mset_i _ (by omega), mset_i _ (by omega), e2]; exact c2, by rw [mset_i _ (by omega), mset_i _ (by omega), e3]; exact c3, fun k hk => ?_, fun i hi => ?_⟩
  · rw [dn_same e2] at hk
    obtain ⟨q1, q2, q3, q4, q5⟩ := r1 k hk
    refine ⟨by rw [mset_i _ (by omega), mset_i _ (by omega), pairE_o (by omega)]; exact q1, by rw [mset_i _ (by omega), mset_i _ (by omega), pairE_o (by omega)]; exact q2, by rw [mset_i _ (by omega), mset_i _ (by omega), pairE_o (by omega)]; exact q3, by rw [mset_i _ (by omega), mset_i _ (by omega), pairE_o (by omega)]; exact q4, ?_⟩
    by_cases a : k = e.toNat
    · subst a
      rw [mset_at]; unfold pairE; rw [if_pos ⟨rfl, rfl⟩]
    · rw [mset_k a]
      by_cases b : k = o.toNat
      · subst b
        rw [mset_at]; unfold pairE; rw [if_neg (by omega), if_pos ⟨rfl, rfl⟩]
      · rw [mset_k b]; unfold pairE; rw [if_neg (by omega), if_neg (by omega)]; exact q5
  · rw [dd_same e3] at hi
    rw [mset_i _ (by omega), mset_i _ (by omega), pairE_o (by omega)]; exact r2 i hi
def FDf (h u : Mem) : Prop := ∀ i k, ¬ (i = 9 ∧ 4 ≤ k ∧ k ≤ 10) → ¬ (34 ≤ i ∧ i < 42) → u i k = h i k
theorem FDf.rf : FDf h h := fun _ _ _ _ => rfl
theorem FDf.tr {h h1 h2 : Mem} (a : FDf h h1) (b : FDf h1 h2) : FDf h h2 := fun i k p q => (b i k p q).trans (a i k p q)
theorem FDf.of (f : F9f h u) : FDf h u := fun i k p _ => f i k p
theorem FDf.o35 (f : F35 h u) : FDf h u := fun i k p q => f i k p (by omega) (by omega)
theorem s_closeLatest {Q : Mem → Prop} (r : RDr h d) (p : DN d) (q : 1 ≤ d 0 3) (hQ : ∀ u, RDr u (clsE d) → (∀ i k, ¬ (i = 34 ∧ k = 4) → ¬ (35 ≤ i ∧ i < 41) → u i k = h i k) → Q u) : F_X2_closeLatest h Q := by
  obtain ⟨p1, p2, p3, p4, p5, p6, p7⟩ := p
  have e3 := r.2.2.2.1
  have top := p7 (dd d - 1) (by unfold dd; omega)
  unfold F_X2_closeLatest
  rw [e3]
  refine ⟨⟨by omega, by omega⟩, fun h2 e2 => ?_⟩
  have d4 : h2 34 4 = d 0 3 - 1 := by rw [e2, mset_at]
  rw [d4]
  refine ⟨⟨by omega, by omega⟩, ?_⟩
  have r2 : RDr h2 (popE d) := by rw [e2]; exact r.pop q
  have c2 : popE d 0 2 = d 0 2 := popE_o (by omega)
  refine s_addEntry r2 (by rw [c2]; omega) (fun u ru fu => ?_)
  have t41 : h2 41 (d 0 3 - 1).toNat = d 6 (dd d - 1) := by
    rw [e2, mset_i _ (by omega)]
    have := r.2.2.2.2.2 (dd d - 1) (by unfold dd; omega)
    rw [show (d 0 3 - 1).toNat = dd d - 1 by unfold dd; omega]; exact this
  rw [t41, c2]
  unfold F_X1_pair
  refine ⟨⟨by omega, by omega⟩, fun h3 e3 => ⟨⟨by omega, by omega⟩, fun v ev => hQ v ?_ (fun i k q1 q2 => ?_)⟩⟩
  · rw [ev, e3]
    exact rdr_pair ru
  · rw [ev, mset_i _ (by omega), e3, mset_i _ (by omega), fu i k (by omega) (by omega), e2, mset_o q1]
end XD3
