/-! quietIn -/
theorem ior_zero {a b : Int} (ha : 0 ≤ a ∧ a < 256) (hb : 0 ≤ b ∧ b < 256) : ior a b = 0 ↔ a = 0 ∧ b = 0 := by
  constructor
  · intro q
    have q1 : (Int32.ofInt a ||| Int32.ofInt b) = 0 := Int32.toInt_inj.1 (q.trans Int32.toInt_zero.symm)
    have q2 : (Int32.ofInt a).toBitVec ||| (Int32.ofInt b).toBitVec = 0#32 := by rw [← Int32.toBitVec_or, q1]; rfl
    obtain ⟨z1, z2⟩ := BitVec.or_eq_zero_iff.1 q2
    have e1 : (Int32.ofInt a).toInt = 0 := by show (Int32.ofInt a).toBitVec.toInt = 0; rw [z1]; rfl
    have e2 : (Int32.ofInt b).toInt = 0 := by show (Int32.ofInt b).toBitVec.toInt = 0; rw [z2]; rfl
    rw [i32_ti ⟨by omega, by omega⟩] at e1 e2
    exact ⟨e1, e2⟩
  · intro q
    rw [q.1, q.2]
    rfl
theorem set_none (P : Nat → Prop) (d : ∀ t, Decidable (P t)) : ∀ n, (∀ t, t < n → ¬ P t) → setOf P d n = 0 := by
  intro n
  induction n with
  | zero => intro _; rfl
  | succ n ih =>
    intro h
    show (if P n then setOf P d n + (2 : Int) ^ n else setOf P d n) = 0
    rw [if_neg (h n (by omega))]
    exact ih (fun t ht => h t (by omega))
theorem set_some (P : Nat → Prop) (d : ∀ t, Decidable (P t)) {n : Nat} (hn : n ≤ 8) (h : setOf P d n = 0) : ∀ t, t < n → ¬ P t := by
  intro t ht p
  obtain ⟨s, e, hs, hb, -⟩ := set_ok P d n hn
  have : s = 0 := by omega
  have q := (hb t ht).1 p
  rw [this, Nat.zero_div] at q
  exact absurd q (by decide)
theorem set_rg (P : Nat → Prop) (d : ∀ t, Decidable (P t)) {n : Nat} (hn : n ≤ 8) : 0 ≤ setOf P d n ∧ setOf P d n < 256 := by
  obtain ⟨s, e, hs, hb, -⟩ := set_ok P d n hn
  have h8 : 2 ^ n ≤ 256 := Nat.pow_le_pow_right (by omega) (show n ≤ 8 by omega)
  omega
def nfree (g : Gs) (t : Nat) : Prop := ¬ (g 4 t = 0 ∨ g 4 t = 3)
def nfreeD (g : Gs) : ∀ t, Decidable (nfree g t) := fun t => by unfold nfree; exact inferInstance
def quietS (g : Gs) : Int := setOf (nfree g) (nfreeD g) (gn g)
theorem quiet_or {B : Int} {g : Gs} (w : WF B g) : ior (setOf (fun t => g 4 t = ((1 : Nat) : Int)) (fun _ => inferInstance) (gn g)) (setOf (fun t => g 4 t = ((2 : Nat) : Int)) (fun _ => inferInstance) (gn g)) = 0 ↔ quietS g = 0 := by
  have n8 := (gn8 w).1
  rw [ior_zero (set_rg _ _ n8) (set_rg _ _ n8)]
  constructor
  · intro q
    refine set_none _ _ _ (fun t ht c => ?_)
    have q1 : ¬ g 4 t = ((1 : Nat) : Int) := set_some _ _ n8 q.1 t ht
    have q2 : ¬ g 4 t = ((2 : Nat) : Int) := set_some _ _ n8 q.2 t ht
    have wt := w.2.1 t ht
    unfold WFt at wt
    unfold nfree at c
    omega
  · intro q
    have a := set_some (nfree g) (nfreeD g) n8 q
    refine ⟨set_none _ _ _ (fun t ht c => ?_), set_none _ _ _ (fun t ht c => ?_)⟩
    · exact a t ht (fun z => by omega)
    · exact a t ht (fun z => by omega)
def tQuiet : Nat → Gs → Int
  | 0, g => if quietS g = 0 then 0 else -1
  | m + 1, g => if quietS g = 0 then 0 else addN (tQuiet m (pass g))
theorem tQuiet_in : ∀ (m : Nat) (g : Gs), tQuiet m g = -1 ∨ (0 ≤ tQuiet m g ∧ tQuiet m g ≤ m) := by
  intro m
  induction m with
  | zero => intro g; unfold tQuiet; split <;> omega
  | succ m ih =>
    intro g
    unfold tQuiet
    split
    · omega
    · have := addN_in (ih (pass g)); omega
theorem s_areQuiet {h : Mem} {o : Nat} {g : Gs} {B : Int} {Q : Int → Mem → Prop} (hl : lay o = (0, 9)) (hR : RT h o g) (hW : WF B g) (h1 : quietS g = 0 → Q 1 h) (h2 : quietS g ≠ 0 → Q 0 h) : F_X9_areQuiet h o Q := by
  obtain ⟨n8, nc⟩ := gn8 hW
  have key : ∀ (m i : Nat) (x : Int), x = (i : Int) → i + m = gn g → (∀ t, t < i → ¬ nfree g t) → L_X9_areQuiet_2 h o x Q := by
    intro m
    induction m with
    | zero =>
      intro i x hx hi hf
      subst hx
      refine l_X9_areQuiet_2 hl ?_
      unfold B_X9_areQuiet_2
      rw [hR.1]
      have : i = gn g := by omega
      subst this
      exact ⟨fun _ => h1 (set_none _ _ _ hf), fun c => absurd (by omega) c⟩
    | succ m ih =>
      intro i x hx hi hf
      subst hx
      have ir : InR ((i : Int) + 1) := ⟨by omega, by omega⟩
      refine l_X9_areQuiet_2 hl ?_
      unfold B_X9_areQuiet_2
      rw [hR.1]
      refine ⟨fun c => absurd c (by omega), fun c => s_isFree hR rfl (by omega) n8 (fun c2 => ⟨fun _ => ⟨ir, ih (i + 1) _ (by omega) (by omega) (fun t ht z => ?_)⟩, fun q => absurd q (by decide)⟩) (fun c2 => ⟨fun q => absurd rfl q, fun _ => h2 (fun z => ?_)⟩)⟩
      · by_cases e : t = i
        · subst e; exact z c2
        · exact hf t (by omega) z
      · exact set_some (nfree g) (nfreeD g) n8 z i (by omega) c2
  exact key (gn g) 0 0 rfl (by omega) (fun t ht => absurd ht (Nat.not_lt_zero t))
theorem s_tillQuiet {h : Mem} {o k : Nat} {y : Int} {g : Gs} {B : Int} {Q : Int → Mem → Prop} (hy : y = (k : Int)) (hl : lay o = (0, 4)) (hl2 : lay (o + 1) = (0, 9)) (hR : RC h o g) (hW : WF B g) (hB : B + k ≤ 800000) (hQ : ∀ u, Fr o (o + 15) h u → Q (tQuiet k g) u) : F_X4_hoursTillQuiet h o y Q := by
  subst hy
  have ws0 := hW.1
  unfold WFs at ws0
  generalize hRe : tQuiet k g = R at hQ
  have key : ∀ (m i : Nat) (z : Int) (u : Mem) (g1 : Gs) (B1 : Int), z = (i : Int) → i + m = k → RC u o g1 → WF B1 g1 → B1 + m ≤ 800000 → plusN i (tQuiet m g1) = R → Fr o (o + 15) h u → L_X4_hoursTillQuiet_2 u o (k : Int) z Q := by
    intro m
    induction m with
    | zero =>
      intro i z u g1 B1 hz hi r w hb hp f
      subst hz
      refine l_X4_hoursTillQuiet_2 hl ?_
      unfold B_X4_hoursTillQuiet_2
      refine ⟨fun c => absurd c (by omega), fun c => s_areQuiet hl2 r.1.2.1 w (fun c2 => ⟨fun q => absurd q (by decide), fun _ => ?_⟩) (fun c2 => ⟨fun _ => s_passHour hl r w (by omega) (fun v rv fv => ⟨⟨by omega, by omega⟩, ?_⟩), fun q => absurd rfl q⟩)⟩
      · unfold tQuiet at hp
        rw [if_pos c2] at hp
        have : R = (i : Int) := by rw [← hp]; unfold plusN; rw [if_neg (by decide)]; omega
        have q := hQ u f
        rw [this] at q
        exact q
      · refine l_X4_hoursTillQuiet_2 hl ?_
        unfold B_X4_hoursTillQuiet_2
        refine ⟨fun _ => ?_, fun c3 => absurd (by omega) c3⟩
        unfold tQuiet at hp
        rw [if_neg c2] at hp
        have : R = -1 := by rw [← hp]; rfl
        have q := hQ v (f.tr fv)
        rw [this] at q
        exact q
    | succ m ih =>
      intro i z u g1 B1 hz hi r w hb hp f
      subst hz
      have ti := tQuiet_in m (pass g1)
      refine l_X4_hoursTillQuiet_2 hl ?_
      unfold B_X4_hoursTillQuiet_2
      unfold tQuiet at hp
      refine ⟨fun c => absurd c (by omega), fun c => s_areQuiet hl2 r.1.2.1 w (fun c2 => ⟨fun q => absurd q (by decide), fun _ => ?_⟩) (fun c2 => ⟨fun _ => s_passHour hl r w (by omega) (fun v rv fv => ⟨⟨by omega, by omega⟩, ?_⟩), fun q => absurd rfl q⟩)⟩
      · rw [if_pos c2] at hp
        have : R = (i : Int) := by rw [← hp]; unfold plusN; rw [if_neg (by decide)]; omega
        have q := hQ u f
        rw [this] at q
        exact q
      · rw [if_neg c2] at hp
        exact ih (i + 1) ((i : Int) + 1) v (pass g1) (B1 + 1) (by omega) (by omega) rv w.pass (by omega) (by rw [← hp]; exact plusN_addN i _ (by omega)) (f.tr fv)
  have := tQuiet_in k g
  rw [hRe] at this
  exact key k 0 0 h g B rfl (by omega) hR hW hB (by rw [hRe]; unfold plusN; split <;> omega) Fr.rf
theorem k_quietIn {h : Mem} {g : Gs} (s : G2 h g) {Q : Int → Int → Mem → Prop} (hQ : ∀ r u1 u g', G2 u g' → Mo g g' → UX h u1 → UM u1 u → Q r r u) : F_X11_quietIn h (fun r1 h1 => F_X12_quietIn h1 (fun r2 h2 => Q r1 r2 h2)) := by
  have w := s.1
  refine Kp.mk (FX := F_X11_quietIn h) (FM := F_X12_quietIn) (g' := g) (st := if tQuiet 400 g = -1 then 6 else 0) (r := tQuiet 400 g) s w (fun Q hQ => ?_) (fun h1 rx rn Q hQ => ?_) hQ
  · exact x_try w s.2.1 (fun u ru r12 fu => s_tillQuiet (o := 146) (k := 400) rfl rfl (ly_gt (o := 146) rfl) ru w (by omega) (fun v fv => x_orNone (fu.tr (UX.fr fv (by omega))) (r12.fr fv (by omega)) hQ))
  · refine m_keep w rx rn (fun u ru back => ?_)
    generalize hRe : tQuiet 400 g = R at hQ
    have key : ∀ (m i : Nat) (z : Int) (v : Mem) (g1 : Gs) (B1 : Int), z = (i : Int) → i + m = 400 → RXh v g1 → WF B1 g1 → B1 + m ≤ 800000 → plusN i (tQuiet m g1) = R → FMh u v → L_X12_quietIn_9 v z Q := by
      intro m
      induction m with
      | zero =>
        intro i z v g1 B1 hz hi r w1 hb hp f
        subst hz
        refine l_X12_quietIn_9 ?_
        unfold B_X12_quietIn_9 J_X12_quietIn_41
        refine ⟨fun _ => q_things (k := 1) (by omega) r.1 w1 (q_things (k := 2) (by omega) r.1 w1 ?_), fun c => absurd (by omega) c⟩
        rw [quiet_or w1]
        unfold tQuiet at hp
        refine ⟨fun c => back v f _ (fun z rz nz fz => m_refuse fz w.nm rz nz (fun u2 a b c2 d => ?_)), fun c => back v f _ (fun z rz nz fz => m_gives fz w.nm rz nz (fun u2 a b c2 d => ?_))⟩
        · rw [if_neg c] at hp
          have e : R = -1 := by rw [← hp]; rfl
          rw [e] at hQ
          exact hQ u2 a b c2 d
        · rw [if_pos c] at hp
          have e : R = (i : Int) := by rw [← hp]; unfold plusN; rw [if_neg (by decide)]; omega
          rw [e, if_neg (by omega)] at hQ
          exact hQ u2 a b c2 d
      | succ m ih =>
        intro i z v g1 B1 hz hi r w1 hb hp f
        subst hz
        have ti := tQuiet_in m (pass g1)
        refine l_X12_quietIn_9 ?_
        unfold B_X12_quietIn_9 J_X12_quietIn_41
        unfold tQuiet at hp
        refine ⟨fun c => absurd c (by omega), fun _ => q_things (k := 1) (by omega) r.1 w1 (q_things (k := 2) (by omega) r.1 w1 ?_)⟩
        rw [quiet_or w1]
        refine ⟨fun c => q_things (k := 1) (by omega) r.1 w1 (q_things (k := 2) (by omega) r.1 w1 ?_), fun c => q_hour r w1 (by omega) (fun v2 rv fv => ⟨⟨by omega, by omega⟩, ?_⟩)⟩
        · rw [quiet_or w1]
          refine ⟨fun c2 => absurd c c2, fun _ => back v f _ (fun z rz nz fz => m_gives fz w.nm rz nz (fun u2 a b c2 d => ?_))⟩
          rw [if_pos c] at hp
          have e : R = (i : Int) := by rw [← hp]; unfold plusN; rw [if_neg (by decide)]; omega
          rw [e, if_neg (by omega)] at hQ
          exact hQ u2 a b c2 d
        · rw [if_neg c] at hp
          exact ih (i + 1) ((i : Int) + 1) v2 (pass g1) (B1 + 1) (by omega) (by omega) rv w1.pass (by omega) (by rw [← hp]; exact plusN_addN i _ (by omega)) (f.tr fv)
    have := tQuiet_in 400 g
    rw [hRe] at this
    exact key 400 0 0 u g 9999 rfl (by omega) ru w (by omega) (by rw [hRe]; unfold plusN; split <;> omega) FMh.rf
