/-! the reference's orders of days -/
theorem kj_le : ∀ i : Nat, i < 24 → kj (i : Int) ≤ 23 := by decide +kernel
section MD2
variable {h : Mem} {B : Nat → Int} {n s : Nat} {g : Gs}
theorem wkx {k : Nat} {a : Int} (hk : k < 24) (ha : kj (k : Int) = a) : wk B n s = a ↔ xk B n s = (k : Int) := by
  subst ha
  rw [wk_is hk]
  unfold xk
  by_cases c : tke B n s = 1
  · rw [if_pos c]; exact ⟨fun q => q.2, fun q => ⟨c, q⟩⟩
  · rw [if_neg c]; exact ⟨fun q => absurd q.1 c, fun q => by omega⟩
theorem wk_le : wk B n s ≤ 23 := by
  rcases wk_xk (B := B) (n := n) (s := s) with ⟨_, q⟩ | ⟨i, hi, _, q, _⟩
  · omega
  · rw [q]; exact kj_le i hi
theorem tke_sg (c : tke B n s = 3) : tke_v B n s = 59 ∨ tke_v B n s = 60 ∨ tke_v B n s = 61 ∨ tke_v B n s = 62 := by
  unfold tke at c
  unfold tke_v
  by_cases c1 : n ≤ s
  · rw [if_pos c1] at c; omega
  · rw [if_neg c1] at c ⊢
    by_cases c2 : Pl (B s) = true
    · rw [if_pos c2] at c; omega
    · rw [if_neg c2] at c ⊢
      by_cases c3 : Pd (B s) = true
      · rw [if_pos c3] at c; split at c <;> omega
      · rw [if_neg c3] at c ⊢
        by_cases c4 : Ps (B s) = true
        · rw [if_pos c4]; exact Ps_iff.mp c4
        · rw [if_neg c4] at c; omega
/-- what the reference's orders ask of the glen told -/
def GMr (h : Mem) (g : Gs) : Prop := h 162 0 = (gn g : Int) ∧ h 162 1 = (gm g : Int) ∧ h 162 2 = g 0 2 ∧ (∀ t, t < gn g → h 163 (0 + t) = c8 (g 11 t) ∧ nmR (g 11 t)) ∧ (∀ m, m < gm g → h 163 (8 + m) = c8 (g 12 m) ∧ nmR (g 12 m)) ∧ gn g ≤ 8 ∧ gm g ≤ 4 ∧ 2 ≤ g 0 2 ∧ g 0 2 ≤ 16
theorem GMr.fr {u : Mem} (r : GMr h g) (f : ∀ i k, (i = 162 ∧ k < 3) ∨ (i = 163 ∧ k < 12) → u i k = h i k) : GMr u g := by
  obtain ⟨a, b, c, d, e, p, q, z⟩ := r
  exact ⟨by rw [f 162 0 (by omega)]; exact a, by rw [f 162 1 (by omega)]; exact b, by rw [f 162 2 (by omega)]; exact c, fun t ht => by rw [f 163 _ (by omega)]; exact d t ht, fun t ht => by rw [f 163 _ (by omega)]; exact e t ht, p, q, z⟩
def FRr (rN : Nat) (h u : Mem) : Prop := ∀ i k, ¬ (i = 161 ∧ 12 ≤ k ∧ k ≤ 18 ∧ k ≠ 16) → ¬ (i = 162 ∧ rN ≤ k ∧ k < rN + 6) → u i k = h i k
theorem FRr.of {u : Mem} {rN : Nat} (f : FTf h u) : FRr rN h u := fun i k p _ => f i k p
theorem FRr.tr {rN : Nat} {h1 h2 : Mem} (a : FRr rN h h1) (b : FRr rN h1 h2) : FRr rN h h2 := fun i k p q => (b i k p q).trans (a i k p q)
theorem FRr.st {rN : Nat} {u : Mem} {k : Nat} {v : Int} (a : FRr rN h u) (hk : rN ≤ k ∧ k < rN + 6) : FRr rN h (mset u 162 k v) := fun j l p q => (mset_o (by omega)).trans (a j l p q)
theorem GMr.rr {u : Mem} {rN : Nat} (r : GMr h g) (hr : 1872 ≤ rN) (f : FRr rN h u) : GMr u g := r.fr (fun i k p => f i k (by omega) (by omega))
/-- the row says this -/
def EW (u : Mem) (rN : Nat) (e : En) : Prop := u 162 rN = kc e.1 ∧ (e.1 ≠ 6 → u 162 (rN + 1) = e.2.1) ∧ u 162 (rN + 2) = e.2.2.1 ∧ u 162 (rN + 5) = e.2.2.2
theorem q_thg {aN : Nat} {a : Int} {Q : Int → Mem → Prop} (x : MS h B n s) (gm : GMr h g) (ha : a = (aN : Int)) (hN : aN < 3008) (hok : ∀ s' u, pThg B n g s = .ok s' → FTf (mset h 162 aN (vThg B n g s)) u → MS u B n s' → Q 1 u)
    (hno : ∀ e u, pThg B n g s = .error e → (∀ i k, ¬ (i = 161 ∧ 12 ≤ k ∧ k ≤ 18 ∧ k ≠ 16) → ¬ (i = 162 ∧ k = aN) → u i k = h i k) → ME u e → Q 0 u) : F_X12_thingTo h a Q := by
  obtain ⟨g1, g2, g3, g4, g5, g6, g7, g8⟩ := gm
  unfold F_X12_thingTo
  exact q_oldOne (base := 0) (many := gn g) (f := g 11) x rfl g1 ha hN (by omega) g4 (fun s' u p f m => ⟨by unfold InZ; omega, hok s' u p f m⟩) (fun e u p f m => ⟨by unfold InZ; omega, hno e u p f m⟩)
theorem q_t135 {rN : Nat} {hi v2 a : Int} {Q : Int → Mem → Prop} (x : MS h B n s) (ha : a = (rN : Int)) (hN : rN + 6 ≤ 3008) (hv : (v2 = 13 ∧ hi = 15) ∨ (v2 ≠ 13 ∧ hi = 9999))
    (hok : ∀ s2 s3 u, pCmp B n s = .ok s2 → pNo B n 0 hi s2 = .ok s3 → (∀ i l, i ≠ 161 → u i l = mset (mset h 162 (rN + 5) (tke_v B n s)) 162 (rN + 2) (tke_v B n s2) i l) → FRr rN h u → MS u B n s3 → Q 1 u)
    (hno : ∀ e u, bnd (pCmp B n s) (pNo B n 0 hi) = .error e → FRr rN h u → ME u e → Q 0 u) : J_X12_test_135 h a v2 Q := by
  subst ha
  have ok : tke B n s = 3 → tke_v B n s ≠ 59 → J_X12_test_168 h (rN : Int) v2 Q := fun c c2 => by
    have pc : pCmp B n s = .ok (nx B n s) := by unfold pCmp; rw [if_pos ⟨c, c2⟩]
    rw [pc, bnd_y] at hno
    unfold J_X12_test_168
    refine ⟨⟨by omega, by omega⟩, ⟨by omega, by omega⟩, fun h37 e37 => ?_⟩
    rw [show ((rN : Int) + 5).toNat = rN + 5 by omega, x.1.2.2.2.2.2 (Or.inr c)] at e37
    have m37 : MS h37 B n s := by rw [e37]; exact x.fr (fun i k q => mset_o (by omega))
    have F37 : FRr rN h h37 := by rw [e37]; exact (FRr.of FTf.rf).st (by omega)
    have C37 : ∀ i l, i ≠ 161 → h37 i l = mset h 162 (rN + 5) (tke_v B n s) i l := fun i l _ => by rw [e37]
    refine mx_ahead m37 (by omega) (fun u f m => ⟨⟨by omega, by omega⟩, ?_⟩)
    have C := ft_id C37 f
    have F := F37.tr (FRr.of f)
    have nu : F_X12_number u ((rN : Int) + 2) 0 hi (fun r42 h41 => InZ r42 ∧ Q r42 h41) := by
      refine mx_num (aN := rN + 2) m (by omega) (by omega) (fun s3 v p fv mv => ⟨by unfold InZ; omega, hok _ s3 v pc p (ft_ch C fv) ((F.st (by omega)).tr (FRr.of fv)) mv⟩) (fun e v p fv mv => ⟨by unfold InZ; omega, hno e v p (F.tr (FRr.of fv)) mv⟩)
    rcases hv with ⟨v13, rfl⟩ | ⟨v13, rfl⟩
    · exact ⟨fun z => absurd v13 z, fun _ => nu⟩
    · exact ⟨fun _ => nu, fun z => absurd z v13⟩
  unfold J_X12_test_135
  refine mx_isSign x (fun c => ⟨fun _ => ok c.1 (by omega), fun z => absurd z (by decide)⟩) (fun c1 => ⟨fun z => absurd rfl z, fun _ => ?_⟩)
  refine mx_isSign x (fun c => ⟨fun _ => ok c.1 (by omega), fun z => absurd z (by decide)⟩) (fun c2 => ⟨fun z => absurd rfl z, fun _ => ?_⟩)
  refine mx_isSign x (fun c => ⟨fun _ => ok c.1 (by omega), fun z => absurd z (by decide)⟩) (fun c3 => ⟨fun z => absurd rfl z, fun _ => ?_⟩)
  refine mx_failsZ x (by decide) (fun u e ee f m => hno e u ?_ (FRr.of f) m)
  have pc : pCmp B n s = .error e := by
    unfold pCmp
    rw [if_neg (fun z => ?_)]
    · exact ee
    · have := tke_sg z.1
      have z1 := z.1
      have z2 := z.2
      rcases this with q | q | q | q
      · exact z2 q
      · exact c1 ⟨z1, q⟩
      · exact c3 ⟨z1, q⟩
      · exact c2 ⟨z1, q⟩
  rw [pc, bnd_n]
end MD2
