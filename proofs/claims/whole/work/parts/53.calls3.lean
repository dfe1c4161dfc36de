/-! the small calls -/
theorem RN.cg {h : Mem} {g g' : Gs} (r : RN h g) (e1 : gn g' = gn g) (e2 : gm g' = gm g) (e3 : ∀ t, g' 11 t = g 11 t) (e4 : ∀ m, g' 12 m = g 12 m) : RN h g' :=
  ⟨fun t ht => by rw [e3]; exact r.1 t (by omega), fun t ht => by rw [e4]; exact r.2 t (by omega)⟩
theorem RN.fr {h u : Mem} {g : Gs} (r : RN h g) (f : ∀ k, u 163 k = h 163 k) : RN u g := ⟨fun t ht => by rw [f]; exact r.1 t ht, fun t ht => by rw [f]; exact r.2 t ht⟩
theorem pass_nm {g : Gs} {f t : Nat} (hf : f = 11 ∨ f = 12) : pass g f t = g f t := by
  unfold pass growG takeG
  rw [upTo_lo (by omega), upTo_lo (by omega), moveG_n (by omega)]
  exact sset_n (by omega)
theorem passN_nm : ∀ (k : Nat) (g : Gs) {f t : Nat}, (f = 11 ∨ f = 12) → passN k g f t = g f t := by
  intro k
  induction k with
  | zero => intro g f t _; rfl
  | succ k ih => intro g f t hf; show passN k (pass g) f t = g f t; rw [ih _ hf, pass_nm hf]
theorem WF.wd {B B' : Int} {g : Gs} (w : WF B g) (h : g 0 5 ≤ B') : WF B' g := by
  refine ⟨?_, w.2.1, w.2.2⟩
  have := w.1
  unfold WFs at this ⊢
  omega
section ZS
variable {h0 h : Mem} {g : Gs} {Q : Int → Mem → Prop}
theorem x_no {v : Int} (f : UX h0 h) (r : RC h 12 g) (hQ : ∀ u, RC u 12 g → u 0 0 = v → UX h0 u → Q 0 u) : F_X11_refuse h v (fun r u => InZ r ∧ Q r u) := x_refuse f r (fun u a b c => ⟨Or.inl rfl, hQ u a b c⟩)
theorem x_yes (f : UX h0 h) (r : RC h 12 g) (hQ : ∀ u, RC u 12 g → u 0 0 = 0 → UX h0 u → Q 1 u) : F_X11_accept h (fun r u => InZ r ∧ Q r u) := x_accept f r (fun u a b c => ⟨Or.inr rfl, hQ u a b c⟩)
theorem m_no {v : Int} {h0 : Mem} (hv : v ≠ 0) (f : UM h0 h) (hg : gn g ≤ 8 ∧ gm g ≤ 4) (r : RXh h g) (rn : RN h g) (hQ : ∀ u, RXh u g → RN u g → u 161 2 = v → UM h0 u → Q 0 u) : F_X12_is h v (fun r u => InZ r ∧ Q r u) := m_is f hg r rn (fun u a b c d => by rw [if_neg hv]; exact ⟨Or.inl rfl, hQ u a b c d⟩)
theorem m_yes {h0 : Mem} (f : UM h0 h) (hg : gn g ≤ 8 ∧ gm g ≤ 4) (r : RXh h g) (rn : RN h g) (hQ : ∀ u, RXh u g → RN u g → u 161 2 = 0 → UM h0 u → Q 1 u) : F_X12_is h 0 (fun r u => InZ r ∧ Q r u) := m_is f hg r rn (fun u a b c d => by rw [if_pos rfl]; exact ⟨Or.inr rfl, hQ u a b c d⟩)
end ZS
theorem Mo.pN : ∀ (k : Nat) (g : Gs), Mo g (passN k g) := by
  intro k
  induction k with
  | zero => intro g; exact Mo.rf
  | succ k ih =>
    intro g
    obtain ⟨a, b, c⟩ := ih (pass g)
    have e : ∀ i, i ≤ 2 → pass g 0 i = g 0 i := fun i hi => by
      unfold pass growG takeG
      rw [upTo_lo (by omega), upTo_lo (by omega), moveG_n (by omega)]
      exact sset_n (by omega)
    rw [e 0 (by omega)] at a
    rw [e 1 (by omega)] at b
    rw [e 2 (by omega)] at c
    exact ⟨a, b, c⟩
theorem k_hour {h : Mem} {g : Gs} {a : Int} (s : G2 h g) {Q : Int → Int → Mem → Prop} (hQ : ∀ r u1 u g', G2 u g' → Mo g g' → UX h u1 → UM u1 u → Q r r u) : F_X11_hour h a (fun r1 h1 => F_X12_hour h1 a (fun r2 h2 => Q r1 r2 h2)) := by
  have w := s.1
  have b0 := w.1
  unfold WFs at b0
  have e1 : h 12 5 = g 0 5 := s.2.1.2
  by_cases c : 1 ≤ a ∧ a ≤ 168
  · obtain ⟨k, rfl⟩ : ∃ k : Nat, a = k := ⟨a.toNat, by omega⟩
    by_cases d : g 0 5 + (k : Int) ≤ 9999
    · have w0 : WF (g 0 5) g := w.wd (by omega)
      have wk := WF.passN k w0
      have w' : WF 9999 (passN k g) := wk.wd (by have := wk.1; unfold WFs at this; omega)
      have mo : Mo g (passN k g) := Mo.pN k g
      refine Kp.mk (FX := F_X11_hour h k) (FM := fun h1 => F_X12_hour h1 k) (g' := passN k g) (st := 0) (r := turnsN k g) s w' (fun Q hQ => ?_) (fun h1 rx rn Q hQ => ?_) hQ
      · unfold F_X11_hour
        exact x_outside (fun q => absurd c q) (fun _ => ⟨fun _ => ⟨⟨by omega, by omega⟩, fun _ => s_passHours (o := 12) rfl rfl s.2.1 w (by omega) (fun v rv fv => x_given (UX.fr fv (by omega)) rv hQ), fun q => absurd q (by omega)⟩, fun q => absurd rfl q⟩)
      · have e2 : h1 162 5 = g 0 5 := rx.2
        unfold F_X12_hour
        exact m_isFrom (fun q => absurd c q) (fun _ => ⟨fun _ => ⟨⟨by omega, by omega⟩, fun _ => q_hoursGo rfl rx w (by omega) (by omega) (fun v rv fv => m_gives (UM.fm fv) w'.nm rv ((rn.fr (fun k => fv 163 k (by omega))).cg (gn_passN _ _) (gm_passN _ _) (fun t => passN_nm _ _ (Or.inl rfl)) (fun t => passN_nm _ _ (Or.inr rfl))) hQ), fun q => absurd q (by omega)⟩, fun q => absurd q (by decide)⟩)
    · refine Kp.mk (FX := F_X11_hour h k) (FM := fun h1 => F_X12_hour h1 k) (g' := g) (st := 4) (r := -1) s w (fun Q hQ => ?_) (fun h1 rx rn Q hQ => ?_) hQ
      · unfold F_X11_hour
        exact x_outside (fun q => absurd c q) (fun _ => ⟨fun _ => ⟨⟨by omega, by omega⟩, fun q => absurd q (by omega), fun _ => x_refused UX.rf s.2.1 hQ⟩, fun q => absurd rfl q⟩)
      · have e2 : h1 162 5 = g 0 5 := rx.2
        unfold F_X12_hour
        exact m_isFrom (fun q => absurd c q) (fun _ => ⟨fun _ => ⟨⟨by omega, by omega⟩, fun q => absurd q (by omega), fun _ => m_refuse UM.rf w.nm rx rn hQ⟩, fun q => absurd q (by decide)⟩)
  · refine Kp.mk (FX := F_X11_hour h a) (FM := fun h1 => F_X12_hour h1 a) (g' := g) (st := 1) (r := -1) s w (fun Q hQ => ?_) (fun h1 rx rn Q hQ => ?_) hQ
    · exact x_outside (fun _ => ⟨fun q => absurd q (by decide), fun _ => x_refused UX.rf s.2.1 hQ⟩) (fun q => absurd q c)
    · exact m_isFrom (fun _ => ⟨fun q => absurd rfl q, fun _ => m_refuse UM.rf w.nm rx rn hQ⟩) (fun q => absurd q c)
theorem tset_n {g : Gs} {t f i : Nat} {a b c : Int} (h : (f ≠ 4 ∧ f ≠ 5 ∧ f ≠ 6) ∨ i ≠ t) : tset g t a b c f i = g f i := by
  unfold tset
  rw [if_neg (by omega), if_neg (by omega), if_neg (by omega)]
theorem tset_4 {g : Gs} {t : Nat} {a b c : Int} : tset g t a b c 4 t = a := by simp [tset]
theorem tset_5 {g : Gs} {t : Nat} {a b c : Int} : tset g t a b c 5 t = b := by simp [tset]
theorem tset_6 {g : Gs} {t : Nat} {a b c : Int} : tset g t a b c 6 t = c := by simp [tset]
theorem gm_tset {g : Gs} {t : Nat} {a b c : Int} : gm (tset g t a b c) = gm g := by simp [gm, tset]
theorem WF.th {B : Int} {g : Gs} {t : Nat} {a b : Int} (w : WF B g) (ha : a = 0 ∨ a = 1 ∨ a = 3) (hb : 0 ≤ b ∧ b < g 0 2) (hab : a ≠ 1 → b = 0) : WF B (tset g t a b 0) := by
  have e0 : ∀ i, tset g t a b 0 0 i = g 0 i := fun i => tset_n (Or.inl (by omega))
  refine ⟨?_, fun i hi => ?_, fun m hm => ?_⟩
  · have := w.1
    unfold WFs at this ⊢
    simp only [e0]
    exact this
  · rw [gn_tset] at hi
    have := w.2.1 i hi
    unfold WFt at this ⊢
    rw [e0, e0, tset_n (f := 1) (Or.inl (by omega)), tset_n (f := 2) (Or.inl (by omega)), tset_n (f := 3) (Or.inl (by omega)), tset_n (f := 7) (Or.inl (by omega))]
    by_cases c : i = t
    · subst c
      rw [tset_4, tset_5, tset_6]
      omega
    · rw [tset_n (Or.inr c), tset_n (Or.inr c), tset_n (Or.inr c)]
      exact this
  · rw [gm_tset] at hm
    have := w.2.2 m hm
    unfold WFm at this ⊢
    rw [e0, e0, tset_n (f := 8) (Or.inl (by omega)), tset_n (f := 9) (Or.inl (by omega)), tset_n (f := 10) (Or.inl (by omega))]
    exact this
