/-! rain: the reference; the call -/
def F177 (h u : Mem) : Prop := ∀ i k, i ≠ 177 → u i k = h i k
theorem F177.st {h v : Mem} {k : Nat} {x : Int} (f : F177 h v) : F177 h (mset v 177 k x) := fun i j hi => (mset_i j hi).trans (f i j hi)
theorem q_rainHour {h : Mem} {n k o c : Nat} {p3 : Int} {Q : Int → Mem → Prop} (ho : o ≤ 16) (hc : c + 1 ≤ 12) (e4 : h 162 4 = (o : Int)) (hp : p3 = ((16 ^ c : Nat) : Int)) (row : ∀ i, i < 13 → h 177 i = ((rnT o c i : Nat) : Int)) (hQ : ∀ u, (∀ i, i < 13 → u 177 i = ((rnT o (c + 1) i : Nat) : Int)) → F177 h u → L_X12_rain_68 u (n : Int) (k : Int) ((16 ^ (c + 1) : Nat) : Int) ((c : Int) + 1) Q) : L_X12_rain_78 h (n : Int) (k : Int) p3 (c : Int) 12 Q := by
  subst hp
  have key : ∀ (m : Nat) (z : Int) (v : Mem), z = (m : Int) - 1 → m ≤ 13 → (∀ i, i < 13 → v 177 i = if m ≤ i then ((rnT o (c + 1) i : Nat) : Int) else ((rnT o c i : Nat) : Int)) → F177 h v → L_X12_rain_78 v (n : Int) (k : Int) ((16 ^ c : Nat) : Int) (c : Int) z Q := by
    intro m
    induction m with
    | zero =>
      intro z v hz hm rv f
      subst hz
      refine l_X12_rain_78 ?_
      unfold B_X12_rain_78
      have e : ((16 ^ c : Nat) : Int) * 16 = ((16 ^ (c + 1) : Nat) : Int) := by rw [Nat.pow_succ, Int.natCast_mul]; rfl
      have p := pw_le (Nat.le_refl 16) hc
      rw [e]
      exact ⟨fun _ => ⟨inl_nat p (by decide), ⟨by omega, by omega⟩, hQ v (fun i hi => by rw [rv i hi, if_pos (by omega)]) f⟩, fun q => absurd (by omega) q⟩
    | succ m ih =>
      intro z v hz hm rv f
      subst hz
      refine l_X12_rain_78 ?_
      unfold B_X12_rain_78
      have en : (((m + 1 : Nat) : Int) - 1).toNat = m := by omega
      have e5 : v 162 4 = (o : Int) := (f 162 4 (by omega)).trans e4
      have e6 : (16 : Int) - (o : Int) = ((16 - o : Nat) : Int) := by omega
      have em : v 177 m = ((rnT o c m : Nat) : Int) := by rw [rv m (by omega), if_neg (by omega)]
      have t1 := rnT_le (n := c + 1) (i := m) ho hc
      have e7 : ((rnT o c m : Nat) : Int) * ((16 - o : Nat) : Int) = ((rnT o c m * (16 - o) : Nat) : Int) := (Int.natCast_mul _ _).symm
      rw [en, em, e5, e6, e7]
      have next : ∀ (y : Int), y = ((rnT o (c + 1) m : Nat) : Int) → L_X12_rain_78 (mset v 177 m y) (n : Int) (k : Int) ((16 ^ c : Nat) : Int) (c : Int) (((m + 1 : Nat) : Int) - 1 + (-1)) Q := fun y hy => by
        refine ih _ _ (by omega) (by omega) (fun i hi => ?_) f.st
        by_cases ci : i = m
        · subst ci
          rw [mset_at, if_pos (by omega), hy]
        · rw [mset_k ci, rv i hi]
          by_cases cm : m + 1 ≤ i
          · rw [if_pos cm, if_pos (by omega)]
          · rw [if_neg cm, if_neg (by omega)]
      by_cases c0 : m = 0
      · subst c0
        have e8 := rnT_0 (o := o) (n := c)
        rw [← e8]
        refine ⟨fun q => absurd q (by omega), fun _ => ⟨⟨by omega, by omega⟩, ⟨by omega, by omega⟩, ⟨by omega, by omega⟩, fun q => absurd (by omega) q, fun _ h37 e37 => ⟨⟨by omega, by omega⟩, ?_⟩⟩⟩
        subst e37
        exact next _ rfl
      · obtain ⟨i, rfl⟩ : ∃ i, m = i + 1 := ⟨m - 1, by omega⟩
        have en2 : (((i + 1 + 1 : Nat) : Int) - 1 - 1).toNat = i := by omega
        have em2 : v 177 i = ((rnT o c i : Nat) : Int) := by rw [rv i (by omega), if_neg (by omega)]
        have e9 : ((rnT o c i : Nat) : Int) * (o : Int) = ((rnT o c i * o : Nat) : Int) := (Int.natCast_mul _ _).symm
        have e8 := rnT_s (o := o) (n := c) (i := i)
        rw [en2, em2, e9]
        have e10 : ((rnT o c (i + 1) * (16 - o) : Nat) : Int) + ((rnT o c i * o : Nat) : Int) = ((rnT o (c + 1) (i + 1) : Nat) : Int) := by rw [e8]; omega
        rw [e10]
        have b1 : rnT o c (i + 1) * (16 - o) ≤ rnT o (c + 1) (i + 1) := by rw [e8]; exact Nat.le_add_right _ _
        have b2 : rnT o c i * o ≤ rnT o (c + 1) (i + 1) := by rw [e8]; exact Nat.le_add_left _ _
        generalize rnT o c (i + 1) * (16 - o) = X1 at b1
        generalize rnT o c i * o = X2 at b2
        refine ⟨fun q => absurd q (by omega), fun _ => ⟨⟨by omega, by omega⟩, ⟨by omega, by omega⟩, ⟨by omega, by omega⟩, fun _ => ⟨⟨by omega, by omega⟩, ⟨by omega, by omega⟩, ⟨by omega, by omega⟩, ⟨by omega, by omega⟩, fun h35 e35 => ⟨⟨by omega, by omega⟩, ?_⟩⟩, fun q => absurd q (by omega)⟩⟩
        subst e35
        exact next _ rfl
  exact key 13 12 h rfl (by omega) (fun i hi => by rw [row i hi, if_neg (by omega)]) (fun _ _ _ => rfl)
theorem q_rainAll {h : Mem} {n k o : Nat} {Q : Int → Mem → Prop} (ho : o ≤ 16) (hn : n ≤ 12) (hk : k ≤ 12) (e4 : h 162 4 = (o : Int)) (hQ : ∀ u, F177 h u → F_X12_tellsBy u ((rnS o n k 13 : Nat) : Int) ((16 ^ n : Nat) : Int) (fun r16 h15 => InZ r16 ∧ Q r16 h15)) : L_X12_rain_35 h (n : Int) (k : Int) 1 0 Q := by
  have sum : ∀ (d i : Nat) (z v5 : Int) (u : Mem), z = (i : Int) → v5 = ((rnS o n k i : Nat) : Int) → i + d = 13 → k ≤ i → (∀ i, i < 13 → u 177 i = ((rnT o n i : Nat) : Int)) → F177 h u → L_X12_rain_159 u ((16 ^ n : Nat) : Int) v5 z Q := by
    intro d
    induction d with
    | zero =>
      intro i z v5 u hz hv hi hki row f
      subst hz hv
      obtain rfl : i = 13 := by omega
      refine l_X12_rain_159 ?_
      unfold B_X12_rain_159
      exact ⟨fun _ => hQ u f, fun q => absurd (by omega) q⟩
    | succ d ih =>
      intro i z v5 u hz hv hi hki row f
      subst hz hv
      refine l_X12_rain_159 ?_
      unfold B_X12_rain_159
      have t1 := rnT_le (i := i) ho hn
      have t2 := rnS_le (k := k) ho hn i
      rw [Int.toNat_natCast, row i (by omega)]
      refine ⟨fun q => absurd q (by omega), fun _ => ⟨⟨by omega, by omega⟩, ⟨by omega, by omega⟩, fun x20 e20 => ⟨⟨by omega, by omega⟩, ih (i + 1) _ x20 u (by omega) ?_ (by omega) (by omega) row f⟩⟩⟩
      rw [e20]
      show _ = (((if k ≤ i then rnS o n k i + rnT o n i else rnS o n k i) : Nat) : Int)
      rw [if_pos hki]
      omega
  have hours : ∀ (d c : Nat) (z v3 : Int) (u : Mem), z = (c : Int) → v3 = ((16 ^ c : Nat) : Int) → c + d = n → (∀ i, i < 13 → u 177 i = ((rnT o c i : Nat) : Int)) → F177 h u → L_X12_rain_68 u (n : Int) (k : Int) v3 z Q := by
    intro d
    induction d with
    | zero =>
      intro c z v3 u hz hv hi row f
      subst hz hv
      obtain rfl : c = n := by omega
      refine l_X12_rain_68 ?_
      unfold B_X12_rain_68
      exact ⟨fun _ => sum (13 - k) k _ 0 u rfl (by rw [rnS_lo k (Nat.le_refl _)]; rfl) (by omega) (Nat.le_refl _) row f, fun q => absurd (by omega) q⟩
    | succ d ih =>
      intro c z v3 u hz hv hi row f
      subst hz hv
      refine l_X12_rain_68 ?_
      unfold B_X12_rain_68
      exact ⟨fun q => absurd q (by omega), fun _ => q_rainHour ho (by omega) ((f 162 4 (by omega)).trans e4) rfl row (fun v rv fv => ih (c + 1) _ _ v (by omega) rfl (by omega) rv (fun i j hi => (fv i j hi).trans (f i j hi)))⟩
  have init : ∀ (d j : Nat) (z : Int) (u : Mem), z = (j : Int) → j + d = 13 → (∀ i, i < j → u 177 i = ((rnT o 0 i : Nat) : Int)) → F177 h u → L_X12_rain_35 u (n : Int) (k : Int) 1 z Q := by
    intro d
    induction d with
    | zero =>
      intro j z u hz hi row f
      subst hz
      obtain rfl : j = 13 := by omega
      refine l_X12_rain_35 ?_
      unfold B_X12_rain_35
      exact ⟨fun _ => hours n 0 0 1 u rfl rfl (by omega) row f, fun q => absurd (by omega) q⟩
    | succ d ih =>
      intro j z u hz hi row f
      subst hz
      refine l_X12_rain_35 ?_
      unfold B_X12_rain_35
      rw [Int.toNat_natCast]
      refine ⟨fun q => absurd q (by omega), fun _ => ⟨fun c => ⟨⟨by omega, by omega⟩, fun h10 e10 => ⟨⟨by omega, by omega⟩, ?_⟩⟩, fun c => ⟨⟨by omega, by omega⟩, fun h13 e13 => ⟨⟨by omega, by omega⟩, ?_⟩⟩⟩⟩
      · subst e10
        refine ih (j + 1) _ _ (by omega) (by omega) (fun i hi2 => ?_) f.st
        by_cases ci : i = j
        · subst ci
          rw [mset_at, rnT_out (by omega)]; rfl
        · rw [mset_k ci]; exact row i (by omega)
      · subst e13
        refine ih (j + 1) _ _ (by omega) (by omega) (fun i hi2 => ?_) f.st
        have cj : j = 0 := by omega
        subst cj
        have ci : i = 0 := by omega
        subst ci
        rw [mset_at]
        have e : rnT o 0 0 = 1 := by
          unfold rnT
          rw [Nat.pow_zero, Nat.pow_zero]
          rfl
        rw [e]; rfl
  exact init 13 0 0 h rfl (by omega) (fun i hi => absurd hi (by omega)) (fun _ _ _ => rfl)
theorem k_rain {h : Mem} {g : Gs} {a b : Int} (s : G2 h g) (fe : FrE h) {Q : Int → Int → Mem → Prop} (hQ : ∀ r u1 u g', G2 u g' → Mo g g' → FrE u → UXf h u1 → UMf u1 u → Q r r u) : F_X11_rain h a b (fun r1 h1 => F_X12_rain h1 a b (fun r2 h2 => Q r1 r2 h2)) := by
  have w := s.1
  have ws := w.1
  unfold WFs at ws
  have keepX : ∀ {st : Int} {Q : Int → Mem → Prop}, (∀ u, RC u 12 g → u 0 0 = st → u 0 1 = h 0 1 → u 0 2 = h 0 2 → UXf h u → Q 0 u) → F_X11_refuse h st (fun r u => InZ r ∧ Q r u) := fun {st Q} hQ => x_no UX.rf s.2.1 (fun u a b f => hQ u a b (f 0 1 (by omega) (by omega) (by omega) (by omega)) (f 0 2 (by omega) (by omega) (by omega) (by omega)) f.f)
  have keepM : ∀ {h1 : Mem} {st : Int} {Q : Int → Mem → Prop}, st ≠ 0 → RXh h1 g → RN h1 g → h1 161 3 = h 161 3 → h1 161 4 = h 161 4 → (∀ u, RXh u g → RN u g → u 161 2 = st → u 161 3 = h 0 1 → u 161 4 = h 0 2 → UMf h1 u → Q 0 u) → F_X12_is h1 st (fun r u => InZ r ∧ Q r u) := fun {h1 st Q} h0 rx rn e3 e4 hQ => m_no h0 UM.rf w.nm rx rn (fun u a b c f => hQ u a b c (by rw [f 161 3 (by omega) (by omega) (by omega) (by omega), e3, fe.1]) (by rw [f 161 4 (by omega) (by omega) (by omega) (by omega), e4, fe.2]) f.f)
  by_cases c : (0 ≤ a ∧ a ≤ 12) ∧ 0 ≤ b ∧ b ≤ 12
  · obtain ⟨n, rfl⟩ : ∃ k : Nat, a = k := ⟨a.toNat, by omega⟩
    obtain ⟨k, rfl⟩ : ∃ k : Nat, b = k := ⟨b.toNat, by omega⟩
    obtain ⟨o, hO⟩ : ∃ k : Nat, g 0 4 = k := ⟨(g 0 4).toNat, by omega⟩
    have t2 := rnS_le (o := o) (n := n) (k := k) (by omega) (by omega) 13
    have p1 := pw_le (Nat.le_refl 16) (show n ≤ 12 by omega)
    have p0 : 0 < 16 ^ n := Nat.pow_pos (by decide)
    refine Kf.mk (FX := F_X11_rain h n k) (FM := fun h1 => F_X12_rain h1 n k) (st := 0) (r := 1) (p := ((rnS o n k 13 / Nat.gcd (rnS o n k 13) (16 ^ n) : Nat) : Int)) (q := ((16 ^ n / Nat.gcd (rnS o n k 13) (16 ^ n) : Nat) : Int)) s (fun Q hQ => ?_) (fun h1 rx rn e3 e4 Q hQ => ?_) hQ
    · have e : h 12 2 = (o : Int) := s.2.1.1.1.2.2.1.trans hO
      unfold F_X11_rain
      refine x_outside (fun q => absurd c.1 q) (fun _ => ⟨fun q => absurd rfl q, fun _ => x_outside (fun q => absurd c.2 q) (fun _ => ⟨fun _ => s_wetWays e (by omega) (by omega) (by omega) (s_power (b := 16) (t := n) rfl rfl (by omega) (by omega) ?_), fun q => absurd rfl q⟩)⟩)
      exact s_tell (by omega) (by omega) (fun u p1 p2 p0 f => ⟨Or.inr rfl, hQ u (s.2.1.fr (lo := 0) (hi := 1) (fun i hi k => f i k (by omega)) (by omega)) p0 p1 p2 (fun i k q1 _ _ _ => f i k q1)⟩)
    · unfold F_X12_rain
      refine m_isFrom (fun q => absurd c.1 q) (fun _ => ⟨fun q => absurd q (by decide), fun _ => m_isFrom (fun q => absurd c.2 q) (fun _ => ⟨fun _ => q_rainAll (o := o) (by omega) (by omega) (by omega) ((rx.1.1 4 (by omega) (by omega)).trans hO) (fun v fv => ?_), fun q => absurd q (by decide)⟩)⟩)
      exact q_tell (by omega) (by omega) (fun u p1 p2 p0 f => ⟨Or.inr rfl, hQ u (rx.fr w.nm.1 w.nm.2 (fun k _ => (f 162 k (by omega)).trans (fv 162 k (by omega)))) (rn.fr (fun k => (f 163 k (by omega)).trans (fv 163 k (by omega)))) p0 p1 p2 (fun i k q1 q2 q3 q4 => (f i k (by omega)).trans (fv i k (by omega)))⟩)
  · refine Kf.mk (FX := F_X11_rain h a b) (FM := fun h1 => F_X12_rain h1 a b) (st := 1) (r := 0) (p := h 0 1) (q := h 0 2) s (fun Q hQ => ?_) (fun h1 rx rn e3 e4 Q hQ => ?_) hQ
    · unfold F_X11_rain
      exact x_outside (fun _ => ⟨fun _ => keepX hQ, fun q => absurd q (by decide)⟩) (fun q1 => ⟨fun q => absurd rfl q, fun _ => x_outside (fun _ => ⟨fun q => absurd q (by decide), fun _ => keepX hQ⟩) (fun q2 => absurd ⟨q1, q2⟩ c)⟩)
    · unfold F_X12_rain
      exact m_isFrom (fun _ => ⟨fun _ => keepM (by decide) rx rn e3 e4 hQ, fun q => absurd rfl q⟩) (fun q1 => ⟨fun q => absurd q (by decide), fun _ => m_isFrom (fun _ => ⟨fun q => absurd rfl q, fun _ => keepM (by decide) rx rn e3 e4 hQ⟩) (fun q2 => absurd ⟨q1, q2⟩ c)⟩)
