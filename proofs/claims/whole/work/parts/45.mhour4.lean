/-! the reference's hour -/
theorem q_lasts {h : Mem} {g : Gs} {B : Int} {V V' : Nat → Prop} {i : Nat} {x : Int} {g' : Gs} {Q : Mem → Prop} (hR : RXp h g V) (hn : i < 8) (hi : i < gn g) (hg : 0 ≤ g 6 i ∧ g 6 i ≤ 99) (hV : ∀ t, t ≠ i → V' t → V t) (hV2 : g 4 i ≠ 2 → V' i → V i)
    (hx : x = (i : Int)) (hV3 : V' i → g 4 i = 2 → ¬ g 6 i + 1 < g 2 i)
    (hQ : ∀ u, RXp u (upTo (i + 1) (growF g (g 0 6) 0) (fun f t => if t < i then g f t else g f t)) V' → FM h u → Q u) : True := trivial
/-- one thing lasts an hour, away from the sea (or not carried) -/
theorem q_last {h : Mem} {g : Gs} {V : Nat → Prop} {i : Nat} {x : Int} {Q : Mem → Prop} (hx : x = (i : Int)) (hn : i < 8) (hi : i < gn g) (hR : RXp h g V) (hg : 0 ≤ g 6 i ∧ g 6 i ≤ 99)
    (h1 : g 4 i = 1 → ∀ u, RXp u (gset g 6 i (if 99 ≤ g 6 i then g 6 i else g 6 i + 1)) V → FM h u → Q u)
    (h2 : g 4 i = 2 → g 6 i + 1 < g 2 i → ∀ u, RXp u (gset g 6 i (g 6 i + 1)) V → FM h u → Q u)
    (h3 : g 4 i = 2 → ¬ g 6 i + 1 < g 2 i → ∀ u, RXp u (gset (gset (gset (gset g 6 i (g 6 i + 1)) 4 i 1) 5 i (g 0 6)) 6 i 0) (fun t => V t ∨ t = i) → FM h u → Q u)
    (h4 : g 4 i ≠ 1 → g 4 i ≠ 2 → Q h) : F_X12_lasts h x Q := by
  have e3 := hR.2.1 i 3 hi (by omega) (fun q => absurd q (by omega))
  have e5 := hR.2.1 i 5 hi (by omega) (fun q => absurd q (by omega))
  have e1 := hR.2.1 i 1 hi (by omega) (fun q => absurd q (by omega))
  have e3 : h 162 (12 + 7 * i + 3) = g 4 i := e3
  have e5 : h 162 (12 + 7 * i + 5) = g 6 i := e5
  have e1 : h 162 (12 + 7 * i + 1) = g 2 i := e1
  have n3 : (12 + 7 * (i : Int) + 3).toNat = 12 + 7 * i + 3 := by omega
  have n5 : (12 + 7 * (i : Int) + 5).toNat = 12 + 7 * i + 5 := by omega
  have n1 : (12 + 7 * (i : Int) + 1).toNat = 12 + 7 * i + 1 := by omega
  have n4 : (12 + 7 * (i : Int) + 4).toNat = 12 + 7 * i + 4 := by omega
  unfold F_X12_lasts
  refine q_thingRow hx hn ?_
  rw [n3, n5, n1, n4, e3, e5]
  refine ⟨⟨by omega, by omega⟩, ⟨by omega, by omega⟩, fun c1 => ⟨fun c2 => h4 c1 c2, fun c2 => ⟨⟨by omega, by omega⟩, ⟨by omega, by omega⟩, ⟨by omega, by omega⟩, fun v1 hv1 => ⟨⟨by omega, by omega⟩, ⟨by omega, by omega⟩, ?_⟩⟩⟩, fun c1 => ⟨⟨by omega, by omega⟩, ⟨by omega, by omega⟩, ⟨by omega, by omega⟩, fun v1 hv1 => ?_⟩⟩
  · have r1 := hR.set (V' := V) (t := i) (k := 5) (v := g 6 i + 1) (by omega) (by omega) (fun _ q => Or.inl q)
    rw [← hv1] at r1
    have a5 : v1 162 (12 + 7 * i + 5) = g 6 i + 1 := by rw [hv1, mset_at]
    have a1 : v1 162 (12 + 7 * i + 1) = g 2 i := by rw [hv1, mset_k (by omega), e1]
    rw [a5, a1]
    refine ⟨fun c3 v2 hv2 => ⟨⟨by omega, by omega⟩, ⟨by omega, by omega⟩, fun v3 hv3 v4 hv4 => ?_⟩, fun c3 => h2 c2 (by omega) v1 r1 (by rw [hv1]; exact FM.rf.st (by omega))⟩
    have a6 : v2 162 6 = g 0 6 := by rw [hv2, mset_k (by omega), hv1, mset_k (by omega)]; exact hR.1 6 (by omega)
    rw [a6] at hv3
    have r2 := r1.set (V' := V) (t := i) (k := 3) (v := 1) (by omega) (by omega) (fun _ q => Or.inl q)
    rw [← hv2] at r2
    have r3 := r2.set (V' := fun t => V t ∨ t = i) (t := i) (k := 4) (v := g 0 6) (by omega) (by omega) (fun t q => by rcases q with q | q; exact Or.inl q; exact Or.inr ⟨q, rfl⟩)
    rw [← hv3] at r3
    have r4 := r3.set (V' := fun t => V t ∨ t = i) (t := i) (k := 5) (v := 0) (by omega) (by omega) (fun _ q => Or.inl q)
    rw [← hv4] at r4
    refine h3 c2 (by omega) v4 r4 ?_
    rw [hv4, hv3, hv2, hv1]
    exact (((FM.rf.st (by omega)).st (by omega)).st (by omega)).st (by omega)
  · have r1 := hR.set (V' := V) (t := i) (k := 5) (v := imin 99 (g 6 i + 1)) (by omega) (by omega) (fun _ q => Or.inl q)
    rw [← hv1] at r1
    refine h1 c1 v1 ?_ (by rw [hv1]; exact FM.rf.st (by omega))
    have e : imin 99 (g 6 i + 1) = if 99 ≤ g 6 i then g 6 i else g 6 i + 1 := by
      unfold imin
      by_cases c : g 6 i + 1 < 99
      · rw [if_pos c, if_neg (by omega)]
      · by_cases c2 : 99 ≤ g 6 i
        · rw [if_neg c, if_pos c2]; omega
        · rw [if_neg c, if_neg c2]; omega
    rw [← e]
    exact r1
