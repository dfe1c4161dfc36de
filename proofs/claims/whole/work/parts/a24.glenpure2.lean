/-! what a part keeps, pure -/
theorem told_b : ∀ T : Nat, T < 16 → ∀ k : Nat, k < 4 → sT T k < 16 ∧ (k ≠ 3 → (sT T k).testBit 3 = T.testBit 3) ∧ (sT T k).testBit k = true := by decide +kernel
section GK
variable {B : Nat → Int} {n : Nat} {g g' : Gs} {T s s' : Nat}
theorem nx_w (h : s ≤ n) (k : tke B n s = 1 ∨ tke B n s = 2 ∨ tke B n s = 3) : s < nx B n s ∧ nx B n s ≤ n := by
  obtain ⟨a, b, c⟩ := nx_in (B := B) h
  exact ⟨c (by omega) (by omega), b⟩
theorem ks_names {i : Nat} {v : Int} (hi : i ≠ 0 ∧ i ≠ 1) : gn (sset g i v) = gn g ∧ gm (sset g i v) = gm g ∧ (∀ f k, f ≠ 0 → sset g i v f k = g f k) ∧ (i ≠ 6 → sset g i v 0 6 = g 0 6) := by
  refine ⟨?_, ?_, fun f k hf => ?_, fun h6 => ?_⟩
  · unfold gn sset; rw [if_neg (by omega)]
  · unfold gm sset; rw [if_neg (by omega)]
  · unfold sset; rw [if_neg (by omega)]
  · unfold sset; rw [if_neg (by omega)]
theorem gp_scal {b : Bool} {i : Nat} {lo hi : Int} {T' : Nat} (p : GPp B n g T s) (hT : T' < 16 ∧ T'.testBit 3 = T.testBit 3) (kw : tke B n s = 1) (hi6 : i = 2 ∨ i = 3 ∨ i = 4) (wf : b = false → ∀ v, lo ≤ v ∧ v ≤ hi → WF 0 (sset g i v)) (h : pScal B n g b i lo hi s = .ok (s', g')) : GPp B n g' T' s' ∧ s < s' := by
  obtain ⟨w, sn, t16, z6, nt, nm⟩ := p
  unfold pScal at h
  obtain ⟨s1, h1, h⟩ := bnd_ok h
  obtain ⟨s2, h2, h⟩ := bnd_ok h
  cases h
  obtain ⟨e1, eb⟩ := pOn_ok h1
  obtain ⟨e2, k2, b2⟩ := pNo_ok h2
  have a1 := nx_w sn (Or.inl kw)
  rw [← e1] at a1
  have a2 := nx_w a1.2 (Or.inr (Or.inl k2))
  rw [← e2] at a2
  obtain ⟨c1, c2, c3, c4⟩ := ks_names (g := g) (v := tke_v B n s1) (show i ≠ 0 ∧ i ≠ 1 by omega)
  refine ⟨⟨wf eb _ b2, a2.2, hT.1, fun q => ?_, fun t ht => ?_, fun m hm => ?_⟩, by omega⟩
  · rw [c4 (by omega)]; exact z6 (by rw [← hT.2]; exact q)
  · rw [c1] at ht; rw [c3 _ _ (by decide)]; exact nt t ht
  · rw [c2] at hm; rw [c3 _ _ (by decide)]; exact nm m hm
theorem gp_stream {b : Bool} {T' : Nat} (p : GPp B n g T s) (hT : T' < 16 ∧ T'.testBit 3 = true) (kw : tke B n s = 1) (h : pStream B n g b s = .ok (s', g')) : GPp B n g' T' s' ∧ s < s' := by
  obtain ⟨w, sn, t16, z6, nt, nm⟩ := p
  unfold pStream at h
  obtain ⟨s1, h1, h⟩ := bnd_ok h
  obtain ⟨s2, h2, h⟩ := bnd_ok h
  obtain ⟨e1, eb⟩ := pOn_ok h1
  obtain ⟨e2, k2, b2⟩ := pNo_ok h2
  have a1 := nx_w sn (Or.inl kw)
  rw [← e1] at a1
  have a2 := nx_w a1.2 (Or.inr (Or.inl k2))
  rw [← e2] at a2
  obtain ⟨c1, c2, c3, -⟩ := ks_names (g := g) (i := 6) (v := tke_v B n s1) (by omega)
  have w6 : WF 0 (sset g 6 (tke_v B n s1)) := wf_sset w (by omega)
  by_cases u : tke B n s2 = 1 ∧ tke_v B n s2 = 4
  · rw [if_pos u] at h
    cases h
    have a3 := nx_w a2.2 (Or.inl u.1)
    obtain ⟨d1, d2, d3, -⟩ := ks_names (g := sset g 6 (tke_v B n s1)) (i := 7) (v := 0) (by omega)
    refine ⟨⟨wf_sset w6 (by omega), a3.2, hT.1, fun q => ?_, fun t ht => ?_, fun m hm => ?_⟩, by omega⟩
    · rw [hT.2] at q; exact absurd q (by decide)
    · rw [d1, c1] at ht; rw [d3 _ _ (by decide), c3 _ _ (by decide)]; exact nt t ht
    · rw [d2, c2] at hm; rw [d3 _ _ (by decide), c3 _ _ (by decide)]; exact nm m hm
  · rw [if_neg u] at h
    cases h
    refine ⟨⟨w6, a2.2, hT.1, fun q => ?_, fun t ht => ?_, fun m hm => ?_⟩, by omega⟩
    · rw [hT.2] at q; exact absurd q (by decide)
    · rw [c1] at ht; rw [c3 _ _ (by decide)]; exact nt t ht
    · rw [c2] at hm; rw [c3 _ _ (by decide)]; exact nm m hm
theorem gp_thing (p : GPp B n g T s) (h : pThing B n g s = .ok (s', g')) : GPp B n g' T s' ∧ s < s' := by
  obtain ⟨w, sn, t16, z6, nt, nm⟩ := p
  have w1 := w.1
  unfold WFs at w1
  unfold pThing at h
  obtain ⟨s0, h0, h⟩ := bnd_ok h
  obtain ⟨s1, h1, h⟩ := bnd_ok h
  obtain ⟨s2, h2, h⟩ := bnd_ok h
  obtain ⟨s3, h3, h⟩ := bnd_ok h
  obtain ⟨s4, h4, h⟩ := bnd_ok h
  obtain ⟨s5, h5, h⟩ := bnd_ok h
  obtain ⟨s6, h6, h⟩ := bnd_ok h
  obtain ⟨s7, h7, h⟩ := bnd_ok h
  obtain ⟨s8, h8, h⟩ := bnd_ok h
  obtain ⟨e0, g8⟩ := pFul_ok h0
  have g8 := of_decide_eq_false g8
  obtain ⟨e1, k1⟩ := pKw_ok h1
  obtain ⟨e2, k2, k2'⟩ := pNew_ok h2
  obtain ⟨e3, k3⟩ := pKw_ok h3
  obtain ⟨e4, k4, b4⟩ := pNo_ok h4
  obtain ⟨e5, k5⟩ := pKw_ok h5
  obtain ⟨e6, k6, b6⟩ := pNo_ok h6
  obtain ⟨e7, k7⟩ := pKw_ok h7
  obtain ⟨e8, k8, b8⟩ := pNo_ok h8
  rw [e0] at e1 k1
  have a1 := nx_w sn (Or.inl k1)
  rw [← e1] at a1
  have a2 := nx_w a1.2 (Or.inl k2)
  rw [← e2] at a2
  have a3 := nx_w a2.2 (Or.inl k3)
  rw [← e3] at a3
  have a4 := nx_w a3.2 (Or.inr (Or.inl k4))
  rw [← e4] at a4
  have a5 := nx_w a4.2 (Or.inl k5)
  rw [← e5] at a5
  have a6 := nx_w a5.2 (Or.inr (Or.inl k6))
  rw [← e6] at a6
  have a7 := nx_w a6.2 (Or.inl k7)
  rw [← e7] at a7
  have a8 := nx_w a7.2 (Or.inr (Or.inl k8))
  rw [← e8] at a8
  have wn : WF 0 (newT g (tlt B n s1) (tke_v B n s3) (tke_v B n s5) (tke_v B n s7)) := wf_newT w (by omega) b4 b6 b8
  have n1 := gn_newT (g := g) (a := tlt B n s1) (b := tke_v B n s3) (c := tke_v B n s5) (d := tke_v B n s7) w1.1
  have n2 := gm_newT (g := g) (a := tlt B n s1) (b := tke_v B n s3) (c := tke_v B n s5) (d := tke_v B n s7)
  have l2 : newT g (tlt B n s1) (tke_v B n s3) (tke_v B n s5) (tke_v B n s7) 0 2 = g 0 2 := newT_s (by decide)
  have l6 : newT g (tlt B n s1) (tke_v B n s3) (tke_v B n s5) (tke_v B n s7) 0 6 = g 0 6 := newT_s (by decide)
  have nt' : ∀ t, t < gn g + 1 → nmR (newT g (tlt B n s1) (tke_v B n s3) (tke_v B n s5) (tke_v B n s7) 11 t) := fun t ht => by
    by_cases d : t = gn g
    · subst d
      rw [newT_n (by omega), if_pos rfl]
      exact tlt_in a1.2
    · rw [newT_o (by omega) (by omega)]; exact nt t (by omega)
  have nm' : ∀ m, m < gm g → nmR (newT g (tlt B n s1) (tke_v B n s3) (tke_v B n s5) (tke_v B n s7) 12 m) := fun m hm => by
    rw [newT_o (by omega) (by omega)]; exact nm m hm
  generalize newT g (tlt B n s1) (tke_v B n s3) (tke_v B n s5) (tke_v B n s7) = gg at *
  by_cases u : tke B n s8 = 1 ∧ tke_v B n s8 = 11
  · rw [if_pos u] at h
    obtain ⟨s9, h9, h⟩ := bnd_ok h
    cases h
    have a9 := nx_w a8.2 (Or.inl u.1)
    obtain ⟨eA, kA, bA⟩ := pNo_ok h9
    have aA := nx_w a9.2 (Or.inr (Or.inl kA))
    rw [← eA] at aA
    refine ⟨⟨wf_lie wn (by omega), aA.2, t16, fun q => ?_, fun t ht => ?_, fun m hm => ?_⟩, by omega⟩
    · rw [tset_o (by omega), l6]; exact z6 q
    · rw [gn_tset, n1] at ht; rw [tset_o (by omega)]; exact nt' t ht
    · rw [tset_o (by omega)]
      have : gm (tset gg (gn g) 1 (tke_v B n (nx B n s8)) 0) = gm gg := by unfold gm; rw [tset_o (by omega)]
      rw [this, n2] at hm
      exact nm' m hm
  · rw [if_neg u] at h
    cases h
    refine ⟨⟨wn, a8.2, t16, fun q => ?_, fun t ht => ?_, fun m hm => ?_⟩, by omega⟩
    · rw [l6]; exact z6 q
    · rw [n1] at ht; exact nt' t ht
    · rw [n2] at hm; exact nm' m hm
theorem gp_mill (p : GPp B n g T s) (h : pMill B n g s = .ok (s', g')) : GPp B n g' T s' ∧ s < s' := by
  obtain ⟨w, sn, t16, z6, nt, nm⟩ := p
  have w1 := w.1
  unfold WFs at w1
  unfold pMill at h
  obtain ⟨s0, h0, h⟩ := bnd_ok h
  obtain ⟨s1, h1, h⟩ := bnd_ok h
  obtain ⟨s2, h2, h⟩ := bnd_ok h
  obtain ⟨s3, h3, h⟩ := bnd_ok h
  obtain ⟨s4, h4, h⟩ := bnd_ok h
  obtain ⟨s5, h5, h⟩ := bnd_ok h
  cases h
  obtain ⟨e0, g8⟩ := pFul_ok h0
  have g8 := of_decide_eq_false g8
  obtain ⟨e1, k1⟩ := pKw_ok h1
  obtain ⟨e2, k2, k2'⟩ := pNew_ok h2
  obtain ⟨e3, k3⟩ := pKw_ok h3
  obtain ⟨e4, k4, b4⟩ := pNo_ok h4
  obtain ⟨e5, k5, b5⟩ := pKd_ok h5
  rw [e0] at e1 k1
  have a1 := nx_w sn (Or.inl k1)
  rw [← e1] at a1
  have a2 := nx_w a1.2 (Or.inl k2)
  rw [← e2] at a2
  have a3 := nx_w a2.2 (Or.inl k3)
  rw [← e3] at a3
  have a4 := nx_w a3.2 (Or.inr (Or.inl k4))
  rw [← e4] at a4
  have a5 := nx_w a4.2 (Or.inl k5)
  rw [← e5] at a5
  have wn : WF 0 (newM g (tlt B n s1) (tke_v B n s3) (xk B n s4 - 4)) := wf_newM w (by omega) (by omega) (by omega)
  refine ⟨⟨wn, a5.2, t16, fun q => ?_, fun t ht => ?_, fun m hm => ?_⟩, by omega⟩
  · rw [newM_s (by decide)]; exact z6 q
  · rw [gn_newM] at ht; rw [newM_o (by omega) (by omega)]; exact nt t ht
  · rw [gm_newM w1.2.2.1] at hm
    by_cases d : m = gm g
    · subst d
      rw [newM_n (by omega), if_pos rfl]
      exact tlt_in a1.2
    · rw [newM_o (by omega) (by omega)]; exact nm m (by omega)
theorem xk_kw (h : xk B n s ≠ -1) : tke B n s = 1 ∧ tke_v B n s = xk B n s := by
  unfold xk at *
  by_cases c : tke B n s = 1
  · rw [if_pos c]; exact ⟨c, rfl⟩
  · rw [if_neg c] at h; exact absurd rfl h
theorem longB_no (h : longB g T = false) : T.testBit 0 = false ∧ T.testBit 3 = false ∧ gn g = 0 ∧ gm g = 0 := by
  unfold longB at h
  cases a : T.testBit 0 with
  | true => rw [a] at h; simp at h
  | false =>
    cases b : T.testBit 3 with
    | true => rw [a, b] at h; simp at h
    | false =>
      rw [a, b] at h
      simp only [Bool.false_or, Bool.or_eq_false_iff] at h
      have h1 := of_decide_eq_false h.1
      have h2 := of_decide_eq_false h.2
      exact ⟨rfl, rfl, by omega, by omega⟩
theorem gp_part (p : GPp B n g T s) (h : pPart B n g T s = .ok (s', g')) : GPp B n g' (toldN B n T s) s' ∧ s < s' := by
  have w := p.1
  have t16 := p.2.2.1
  unfold pPart at h
  unfold toldN
  by_cases c0 : xk B n s = 0
  · rw [if_pos c0] at h
    rw [if_pos (by omega), c0]
    obtain ⟨q1, q2, q3⟩ := told_b T t16 0 (by omega)
    refine gp_scal p ⟨q1, q2 (by omega)⟩ (xk_kw (by omega)).1 (by omega) (fun lb v hv => ?_) h
    obtain ⟨l0, l3, l1, l2⟩ := longB_no lb
    exact wf_sset w (Or.inr (Or.inr (Or.inr (Or.inr ⟨rfl, hv.1, hv.2, l1, l2, p.2.2.2.1 l3⟩))))
  rw [if_neg c0] at h
  by_cases c1 : xk B n s = 1
  · rw [if_pos c1] at h
    rw [if_pos (by omega), c1]
    obtain ⟨q1, q2, q3⟩ := told_b T t16 1 (by omega)
    exact gp_scal p ⟨q1, q2 (by omega)⟩ (xk_kw (by omega)).1 (by omega) (fun lb v hv => wf_sset w (by omega)) h
  rw [if_neg c1] at h
  by_cases c2 : xk B n s = 2
  · rw [if_pos c2] at h
    rw [if_pos (by omega), c2]
    obtain ⟨q1, q2, q3⟩ := told_b T t16 2 (by omega)
    exact gp_scal p ⟨q1, q2 (by omega)⟩ (xk_kw (by omega)).1 (by omega) (fun lb v hv => wf_sset w (by omega)) h
  rw [if_neg c2] at h
  by_cases c3 : xk B n s = 3
  · rw [if_pos c3] at h
    rw [if_pos (by omega), c3]
    obtain ⟨q1, q2, q3⟩ := told_b T t16 3 (by omega)
    exact gp_stream p ⟨q1, q3⟩ (xk_kw (by omega)).1 h
  rw [if_neg c3] at h
  by_cases c7 : xk B n s = 7
  · rw [if_pos c7] at h
    rw [if_neg (by omega)]
    exact gp_thing p h
  rw [if_neg c7] at h
  by_cases c12 : xk B n s = 12
  · rw [if_pos c12] at h
    rw [if_neg (by omega)]
    exact gp_mill p h
  rw [if_neg c12] at h
  cases h
end GK
theorem wf_g0 : WF 0 g0 := by
  refine ⟨?_, fun t ht => absurd ht (by show ¬ (t < 0); omega), fun m hm => absurd hm (by show ¬ (m < 0); omega)⟩
  unfold WFs
  decide
theorem gp_glen {B : Nat → Int} {n : Nat} : ∀ (k : Nat) (g : Gs) (T s : Nat) (g' : Gs), GPp B n g T s → pGlen B n k g T s = .ok g' → WF 0 g' ∧ (∀ t, t < gn g' → nmR (g' 11 t)) ∧ ∀ m, m < gm g' → nmR (g' 12 m) := by
  intro k
  induction k with
  | zero => intro g T s g' p h; cases h; exact ⟨p.1, p.2.2.2.2.1, p.2.2.2.2.2⟩
  | succ k ih =>
    intro g T s g' p h
    unfold pGlen at h
    by_cases c : tke B n s = 0
    · rw [if_pos c] at h; cases h; exact ⟨p.1, p.2.2.2.2.1, p.2.2.2.2.2⟩
    · rw [if_neg c] at h
      obtain ⟨⟨s1, g1⟩, h1, h⟩ := bnd_ok h
      obtain ⟨s2, h2, h⟩ := bnd_ok h
      obtain ⟨p1, l1⟩ := gp_part p h1
      obtain ⟨e2, k2⟩ := pSg_ok h2
      have a2 := nx_w p1.2.1 (Or.inr (Or.inr k2))
      obtain ⟨w, sn, r⟩ := p1
      exact ih g1 _ s2 g' ⟨w, by rw [e2]; exact a2.2, r⟩ h
