/-! calls that tell a fraction: share -/
def FrE (h : Mem) : Prop := h 0 1 = h 161 3 ∧ h 0 2 = h 161 4
def UXf (h u : Mem) : Prop := ∀ i k, ¬ (i = 0 ∧ k ≤ 2) → ¬ (12 ≤ i ∧ i < 27) → ¬ (42 ≤ i ∧ i < 80) → ¬ (146 ≤ i ∧ i < 161) → u i k = h i k
def UMf (h u : Mem) : Prop := ∀ i k, ¬ (i = 161 ∧ ((2 ≤ k ∧ k ≤ 4) ∨ (25 ≤ k ∧ k ≤ 26) ∨ (30 ≤ k ∧ k ≤ 32) ∨ (37 ≤ k ∧ k ≤ 38))) → ¬ (i = 162 ∧ ((k < 80 ∧ k ≠ 9) ∨ 2240 ≤ k)) → ¬ (i = 163 ∧ k < 12) → ¬ (170 ≤ i ∧ i < 180) → u i k = h i k
theorem UX.f {h u : Mem} (a : UX h u) : UXf h u := fun i k q1 q2 q3 q4 => a i k (by omega) q2 q3 q4
theorem UM.f {h u : Mem} (a : UM h u) : UMf h u := fun i k q1 q2 q3 q4 => a i k (by omega) q2 q3 q4
theorem RC.umf {h u : Mem} {g : Gs} (r : RC h 12 g) (f : UMf h u) : RC u 12 g := by
  have q : Fr 161 10000 h (fun i k => if i < 161 then u i k else h i k) := fun i hi k => by
    by_cases c : i < 161
    · show (if i < 161 then u i k else h i k) = h i k
      rw [if_pos c]; exact f i k (by omega) (by omega) (by omega) (by omega)
    · show (if i < 161 then u i k else h i k) = h i k
      rw [if_neg c]
  have r2 := r.fr q (by omega)
  obtain ⟨⟨r0, r1, r3⟩, r5⟩ := r2
  exact ⟨⟨r0, r1, r3⟩, r5⟩
theorem Kf.mk {FX : (Int → Mem → Prop) → Prop} {FM : Mem → (Int → Mem → Prop) → Prop} {h : Mem} {g : Gs} {st r p q : Int} (s : G2 h g)
    (X : ∀ Q : Int → Mem → Prop, (∀ u, RC u 12 g → u 0 0 = st → u 0 1 = p → u 0 2 = q → UXf h u → Q r u) → FX Q)
    (M : ∀ h1, RXh h1 g → RN h1 g → h1 161 3 = h 161 3 → h1 161 4 = h 161 4 → ∀ Q : Int → Mem → Prop, (∀ u, RXh u g → RN u g → u 161 2 = st → u 161 3 = p → u 161 4 = q → UMf h1 u → Q r u) → FM h1 Q)
    {Q : Int → Int → Mem → Prop} (hQ : ∀ r u1 u g', G2 u g' → Mo g g' → FrE u → UXf h u1 → UMf u1 u → Q r r u) : FX (fun r1 h1 => FM h1 (fun r2 h2 => Q r1 r2 h2)) := by
  obtain ⟨w, rc, rx, rn, e⟩ := s
  refine X _ (fun u1 rc1 e1 ep eq f1 => M u1 (rx.fr w.nm.1 w.nm.2 (fun k _ => f1 162 k (by omega) (by omega) (by omega) (by omega))) (rn.fr (fun k => f1 163 k (by omega) (by omega) (by omega) (by omega))) (f1 161 3 (by omega) (by omega) (by omega) (by omega)) (f1 161 4 (by omega) (by omega) (by omega) (by omega)) _ (fun u rx2 rn2 e2 mp mq f2 => hQ r u1 u g ⟨w, rc1.umf f2, rx2, rn2, ?_⟩ Mo.rf ⟨?_, ?_⟩ f1 f2))
  · rw [e2, f2 0 0 (by omega) (by omega) (by omega) (by omega), e1]
  · rw [mp, f2 0 1 (by omega) (by omega) (by omega) (by omega), ep]
  · rw [mq, f2 0 2 (by omega) (by omega) (by omega) (by omega), eq]
def gsum (g : Gs) : Nat → Int
  | 0 => 0
  | k + 1 => gsum g k + g 10 k
theorem gsum_in {g : Gs} (w : WF 9999 g) : ∀ k, k ≤ gm g → 0 ≤ gsum g k ∧ gsum g k ≤ 9999 * k := by
  intro k
  induction k with
  | zero => intro _; exact ⟨Int.le_refl 0, by simp [gsum]⟩
  | succ k ih =>
    intro hk
    have := ih (by omega)
    have wm := w.2.2 k (by omega)
    have ws := w.1
    unfold WFm at wm
    unfold WFs at ws
    unfold gsum
    omega
theorem gsum_ge {g : Gs} (w : WF 9999 g) (t : Nat) : ∀ k, k ≤ gm g → t < k → g 10 t ≤ gsum g k := by
  intro k
  induction k with
  | zero => intro _ h; exact absurd h (Nat.not_lt_zero t)
  | succ k ih =>
    intro hk ht
    have wm := w.2.2 k (by omega)
    unfold WFm at wm
    have i0 := gsum_in w k (by omega)
    unfold gsum
    by_cases c : t = k
    · subst c; omega
    · have := ih (by omega) (by omega); omega
theorem s_ground {h : Mem} {g : Gs} {Q : Int → Mem → Prop} (w : WF 9999 g) (r : RM h 22 g) (hQ : Q (gsum g (gm g)) h) : F_X7_groundInAll h 22 Q := by
  obtain ⟨n4, nc⟩ := gm4 w
  have key : ∀ (m i : Nat) (x : Int), x = (i : Int) → i + m = gm g → L_X7_groundInAll_4 h 22 (gsum g i) x Q := by
    intro m
    induction m with
    | zero =>
      intro i x hx hi
      subst hx
      refine l_X7_groundInAll_4 rfl ?_
      unfold B_X7_groundInAll_4
      rw [r.1]
      have : i = gm g := by omega
      subst this
      exact ⟨fun _ => hQ, fun c => absurd (by omega) c⟩
    | succ m ih =>
      intro i x hx hi
      subst hx
      have e : h (22 + 4) i = g 10 i := (r.2 i (by omega)).2.2.2
      have i0 := gsum_in w i (by omega)
      have i1 := gsum_in w (i + 1) (by omega)
      have e1 : gsum g (i + 1) = gsum g i + g 10 i := rfl
      refine l_X7_groundInAll_4 rfl ?_
      unfold B_X7_groundInAll_4
      rw [r.1, Int.toNat_natCast, e]
      refine ⟨fun c => absurd c (by omega), fun c => ⟨⟨by omega, by omega⟩, ⟨by omega, by omega⟩, fun x4 e4 => ⟨⟨by omega, by omega⟩, ?_⟩⟩⟩
      rw [e4, ← e1]
      exact ih (i + 1) _ (by omega) (by omega)
  exact key (gm g) 0 0 rfl (by omega)
theorem q_ground {h : Mem} {g : Gs} {a : Int} {Q : Int → Mem → Prop} (w : WF 9999 g) (r : RX h g) (hQ : (¬ (gsum g (gm g) = 0) → (F_X12_millOf h a 2 (fun r7 h6 => (F_X12_tellsBy h6 r7 (gsum g (gm g)) (fun r9 h8 => (InZ r9 ∧ Q r9 h8)))))) ∧ (gsum g (gm g) = 0 → (F_X12_is h 6 (fun r11 h10 => (InZ r11 ∧ Q r11 h10))))) : L_X12_share_18 h a 0 0 Q := by
  obtain ⟨n4, nc⟩ := gm4 w
  have key : ∀ (m i : Nat) (x : Int), x = (i : Int) → i + m = gm g → L_X12_share_18 h a (gsum g i) x Q := by
    intro m
    induction m with
    | zero =>
      intro i x hx hi
      subst hx
      refine l_X12_share_18 ?_
      unfold B_X12_share_18
      rw [r.1 1 (by omega) (by omega)]
      have : i = gm g := by omega
      subst this
      exact ⟨fun _ => hQ, fun c => absurd (by omega) c⟩
    | succ m ih =>
      intro i x hx hi
      subst hx
      have i0 := gsum_in w i (by omega)
      have i1 := gsum_in w (i + 1) (by omega)
      have e1 : gsum g (i + 1) = gsum g i + g 10 i := rfl
      refine l_X12_share_18 ?_
      unfold B_X12_share_18
      rw [r.1 1 (by omega) (by omega)]
      refine ⟨fun c => absurd c (by omega), fun c => q_millOf (k := 2) rfl rfl (by omega) (by omega) ?_⟩
      rw [r.2.2 i 2 (by omega) (by omega)]
      refine ⟨⟨?_, ?_⟩, ⟨by omega, by omega⟩, ?_⟩
      · show -2147483648 ≤ gsum g i + g 10 i; omega
      · show gsum g i + g 10 i ≤ 2147483647; omega
      · exact ih (i + 1) _ (by omega) (by omega)
  exact key (gm g) 0 0 rfl (by omega)
theorem k_share {h : Mem} {g : Gs} {a : Int} (s : G2 h g) (fe : FrE h) {Q : Int → Int → Mem → Prop} (hQ : ∀ r u1 u g', G2 u g' → Mo g g' → FrE u → UXf h u1 → UMf u1 u → Q r r u) : F_X11_share h a (fun r1 h1 => F_X12_share h1 a (fun r2 h2 => Q r1 r2 h2)) := by
  have w := s.1
  obtain ⟨n4, nc⟩ := gm4 w
  have i0 := gsum_in w (gm g) (Nat.le_refl _)
  have keepX : ∀ {st : Int} {Q : Int → Mem → Prop}, (∀ u, RC u 12 g → u 0 0 = st → u 0 1 = h 0 1 → u 0 2 = h 0 2 → UXf h u → Q 0 u) → F_X11_refuse h st (fun r u => InZ r ∧ Q r u) := fun {st Q} hQ => x_no UX.rf s.2.1 (fun u a b f => hQ u a b (f 0 1 (by omega) (by omega) (by omega) (by omega)) (f 0 2 (by omega) (by omega) (by omega) (by omega)) f.f)
  have keepM : ∀ {h1 : Mem} {st : Int} {Q : Int → Mem → Prop}, st ≠ 0 → RXh h1 g → RN h1 g → h1 161 3 = h 161 3 → h1 161 4 = h 161 4 → (∀ u, RXh u g → RN u g → u 161 2 = st → u 161 3 = h 0 1 → u 161 4 = h 0 2 → UMf h1 u → Q 0 u) → F_X12_is h1 st (fun r u => InZ r ∧ Q r u) := fun {h1 st Q} h0 rx rn e3 e4 hQ => m_no h0 UM.rf w.nm rx rn (fun u a b c f => hQ u a b c (by rw [f 161 3 (by omega) (by omega) (by omega) (by omega), e3, fe.1]) (by rw [f 161 4 (by omega) (by omega) (by omega) (by omega), e4, fe.2]) f.f)
  by_cases c : 0 ≤ a ∧ a < g 0 1
  · obtain ⟨t, rfl⟩ : ∃ k : Nat, a = k := ⟨a.toNat, by omega⟩
    have ht : t < gm g := by omega
    have ge := gsum_ge w t (gm g) (Nat.le_refl _) ht
    have wm := w.2.2 t ht
    unfold WFm at wm
    by_cases z : gsum g (gm g) = 0
    · refine Kf.mk (FX := F_X11_share h t) (FM := fun h1 => F_X12_share h1 t) (st := 6) (r := 0) (p := h 0 1) (q := h 0 2) s (fun Q hQ => ?_) (fun h1 rx rn e3 e4 Q hQ => ?_) hQ
      · unfold F_X11_share
        exact x_isMill s.2.1 (fun q => absurd c q) (fun _ => ⟨fun _ => s_ground w s.2.1.1.2.2 ⟨fun q => absurd z q, fun _ => keepX hQ⟩, fun q => absurd q (by decide)⟩)
      · unfold F_X12_share
        exact m_isMill rx (fun q => absurd c q) (fun _ => ⟨fun _ => q_ground w rx.1 ⟨fun q => absurd z q, fun _ => keepM (by decide) rx rn e3 e4 hQ⟩, fun q => absurd q (by decide)⟩)
    · obtain ⟨A, hA⟩ : ∃ k : Nat, g 10 t = k := ⟨(g 10 t).toNat, by omega⟩
      obtain ⟨S, hS⟩ : ∃ k : Nat, gsum g (gm g) = k := ⟨(gsum g (gm g)).toNat, by omega⟩
      refine Kf.mk (FX := F_X11_share h t) (FM := fun h1 => F_X12_share h1 t) (st := 0) (r := 1) (p := ((A / Nat.gcd A S : Nat) : Int)) (q := ((S / Nat.gcd A S : Nat) : Int)) s (fun Q hQ => ?_) (fun h1 rx rn e3 e4 Q hQ => ?_) hQ
      · have e : h 26 t = g 10 t := (s.2.1.1.2.2.2 t ht).2.2.2
        unfold F_X11_share
        refine x_isMill s.2.1 (fun q => absurd c q) (fun _ => ⟨fun _ => s_ground w s.2.1.1.2.2 ⟨fun _ => ⟨⟨by omega, by omega⟩, ?_⟩, fun q => absurd q z⟩, fun q => absurd q (by decide)⟩)
        rw [Int.toNat_natCast, e, hA, hS]
        refine s_tell (by omega) (by omega) (fun u p1 p2 p0 f => ⟨Or.inr rfl, hQ u (s.2.1.fr (lo := 0) (hi := 1) (fun i hi k => f i k (by omega)) (by omega)) p0 p1 p2 (fun i k q1 _ _ _ => f i k q1)⟩)
      · unfold F_X12_share
        refine m_isMill rx (fun q => absurd c q) (fun _ => ⟨fun _ => q_ground w rx.1 ⟨fun _ => q_millOf (k := 2) rfl rfl (by omega) (by omega) ?_, fun q => absurd q z⟩, fun q => absurd q (by decide)⟩)
        rw [rx.1.2.2 t 2 ht (by omega), hA, hS]
        refine q_tell (by omega) (by omega) (fun u p1 p2 p0 f => ⟨Or.inr rfl, hQ u (rx.fr w.nm.1 w.nm.2 (fun k _ => f 162 k (by omega))) (rn.fr (fun k => f 163 k (by omega))) p0 p1 p2 (fun i k q1 _ _ _ => f i k (by omega))⟩)
  · refine Kf.mk (FX := F_X11_share h a) (FM := fun h1 => F_X12_share h1 a) (st := 1) (r := 0) (p := h 0 1) (q := h 0 2) s (fun Q hQ => ?_) (fun h1 rx rn e3 e4 Q hQ => ?_) hQ
    · exact x_isMill s.2.1 (fun _ => ⟨fun q => absurd rfl q, fun _ => keepX hQ⟩) (fun q => absurd q c)
    · exact m_isMill rx (fun _ => ⟨fun q => absurd rfl q, fun _ => keepM (by decide) rx rn e3 e4 hQ⟩) (fun q => absurd q c)
