def dS : Dy := fun f k => if f = 0 ∧ k = 0 then 1 else 0
theorem dn_dS : DN dS := ⟨by decide, by decide, by decide, by decide, by decide, by decide, fun i hi => absurd hi (by show ¬ (i < 0); omega)⟩
theorem s_readFor {h : Mem} {B : Nat → Int} {n s : Nat} {g : Gs} {Q : Mem → Prop} (rc : RC h 12 g) (wl : 2 ≤ g 0 2 ∧ g 0 2 ≤ 16) (n8 : gn g ≤ 8 ∧ (gn g : Int) = g 0 0) (n4 : gm g ≤ 4 ∧ (gm g : Int) = g 0 1) (x : XS h B n (.ok s)) (hQ : ∀ u, XDR h u (pDays B n g 300 dS s) → Q u) : F_X2_readFor h 12 Q := by
  unfold F_X2_readFor F_X1_clear
  intro h1 e1 h2 e2 h3 e3 c1 d1 c2 d2 c3 d3 h6 e6
  have f : ∀ i k, ¬ (34 ≤ i ∧ i < 42) → h6 i k = h i k := fun i k q => by
    rw [e6, mset_i _ (by omega), d3, mset_i _ (by omega), d2, mset_i _ (by omega), d1, mset_i _ (by omega), e3, mset_i _ (by omega), e2, mset_i _ (by omega), e1, mset_i _ (by omega)]
  have z1 : h6 34 1 = 9 := by
    rw [e6, mset_i _ (by omega), d3, mset_i _ (by omega), d2, mset_i _ (by omega), d1, mset_i _ (by omega), e3, mset_k (by omega), e2, mset_k (by omega), e1, mset_at]; rfl
  have z2 : h6 34 2 = ((12 : Nat) : Int) := by
    rw [e6, mset_i _ (by omega), d3, mset_i _ (by omega), d2, mset_i _ (by omega), d1, mset_i _ (by omega), e3, mset_k (by omega), e2, mset_at]
  have z4 : h6 34 4 = 0 := by
    rw [e6, mset_i _ (by omega), d3, mset_i _ (by omega), d2, mset_i _ (by omega), d1, mset_i _ (by omega), e3, mset_at]
  have y0 : h6 35 0 = 1 := by rw [e6, mset_at]
  have y1 : h6 35 1 = 0 := by rw [e6, mset_k (by omega), d3, mset_k (by omega), d2, mset_at]
  have y2 : h6 35 2 = 0 := by rw [e6, mset_k (by omega), d3, mset_at]
  refine s_dayLoop (h0 := h) rc wl n8 n4 300 0 0 h6 (.ok (s, dS)) rfl rfl ⟨?_, fun s' d' hp => ?_, ⟨z1, z2⟩, fun i k _ q => f i k q⟩ (fun s' d' hp => ?_) hQ
  · exact XS.fr (c := .ok s) x (fun i k q => f i k (by omega))
  · cases hp
    exact ⟨y0, y1, y2, z4, fun k hk => absurd hk (by show ¬ (k < 0); omega), fun k hk => absurd hk (by show ¬ (k < 0); omega)⟩
  · cases hp; exact dn_dS
