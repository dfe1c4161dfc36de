/-! heaviest -/
theorem pc_le : ∀ s, s < 256 → pc s ≤ 8 := by decide +kernel
def b1 (x : Int) : Int := x - iand (iushr x 1) 1431655765
def b2 (x : Int) : Int := iand x 858993459 + iand (iushr x 2) 858993459
def b3 (x : Int) : Int := iand (x + iushr x 4) 252645135
def b4 (x : Int) : Int := x + iushr x 8
def b5 (x : Int) : Int := x + iushr x 16
theorem bc_ok : ∀ s, s < 256 → InR (b1 ((s : Nat) : Int)) ∧ InR (b2 (b1 ((s : Nat) : Int))) ∧ InR (b2 (b1 ((s : Nat) : Int)) + iushr (b2 (b1 ((s : Nat) : Int))) 4) ∧ InR (b4 (b3 (b2 (b1 ((s : Nat) : Int))))) ∧ InR (b5 (b4 (b3 (b2 (b1 ((s : Nat) : Int)))))) ∧ iand (b5 (b4 (b3 (b2 (b1 ((s : Nat) : Int)))))) 63 = ((pc s : Nat) : Int) := by decide +kernel
theorem s_bits {h : Mem} {s : Nat} {Q : Int → Mem → Prop} (hs : s < 256) (hQ : Q ((pc s : Nat) : Int) h) : F_J6_bitCount_0f7a4 h (s : Int) Q := by
  obtain ⟨a1, a2, a3, a4, a5, a6⟩ := bc_ok s hs
  unfold F_J6_bitCount_0f7a4
  refine ⟨a1, fun x2 e2 => ?_⟩
  obtain rfl : x2 = b1 (s : Int) := e2
  refine ⟨a2, fun x4 e4 => ?_⟩
  obtain rfl : x4 = b2 (b1 (s : Int)) := e4
  refine ⟨a3, fun x6 e6 => ?_⟩
  obtain rfl : x6 = b3 (b2 (b1 (s : Int))) := e6
  refine ⟨a4, fun x8 e8 => ?_⟩
  obtain rfl : x8 = b4 (b3 (b2 (b1 (s : Int)))) := e8
  refine ⟨a5, fun x10 e10 => ?_⟩
  obtain rfl : x10 = b5 (b4 (b3 (b2 (b1 (s : Int))))) := e10
  rw [a6]
  exact hQ
theorem q_bits {h : Mem} {s : Nat} {Q : Int → Mem → Prop} (hs : s < 256) (hQ : Q ((pc s : Nat) : Int) h) : F_X12_bits h (s : Int) Q := by
  have h8 := pc_le s hs
  generalize hP : pc s = P at *
  have key : ∀ (n s c : Nat) (x : Int), x = (c : Int) → s ≤ n → s < 256 → c + pc s = P → L_X12_bits_4 h x (s : Int) Q := by
    intro n
    induction n with
    | zero =>
      intro s c x hx hn hs hc
      subst hx
      obtain rfl : s = 0 := by omega
      have p0 : pc 0 = 0 := rfl
      refine l_X12_bits_4 ?_
      unfold B_X12_bits_4
      obtain rfl : c = P := by omega
      exact ⟨fun _ => hQ, fun z => absurd rfl z⟩
    | succ n ih =>
      intro s c x hx hn hs hc
      by_cases z : s = 0
      · exact ih s c x hx (by omega) hs hc
      · subst hx
        obtain ⟨q1, q2, q3⟩ := bits_step s hs z
        refine l_X12_bits_4 ?_
        unfold B_X12_bits_4
        refine ⟨fun y => absurd (by omega) z, fun _ => ⟨⟨by omega, by omega⟩, ⟨by omega, by omega⟩, fun x3 e3 => ?_⟩⟩
        rw [e3, q1]
        exact ih (s &&& (s - 1)) (c + 1) _ (by omega) (by omega) (by omega) (by omega)
  exact key s s 0 0 rfl (Nat.le_refl s) hs (by omega)
def wt (g : Gs) (s : Nat) : Int := wsum g (bitP (s : Int)) (bitD (s : Int)) (gn g)
theorem s_weightOf {h : Mem} {o s : Nat} {g : Gs} {B : Int} {Q : Int → Mem → Prop} (hl : lay o = (0, 9)) (hR : RT h o g) (hW : WF B g) (hQ : Q (wt g s) h) : F_X9_weightOf h o (s : Int) Q := by
  obtain ⟨n8, nc⟩ := gn8 hW
  have key : ∀ (m i : Nat) (x : Int), x = (i : Int) → i + m = gn g → L_X9_weightOf_4 h o (s : Int) (wsum g (bitP (s : Int)) (bitD (s : Int)) i) x Q := by
    intro m
    induction m with
    | zero =>
      intro i x hx hi
      subst hx
      refine l_X9_weightOf_4 hl ?_
      unfold B_X9_weightOf_4
      rw [hR.1]
      have : i = gn g := by omega
      subst this
      exact ⟨fun _ => hQ, fun c => absurd (by omega) c⟩
    | succ m ih =>
      intro i x hx hi
      subst hx
      have ihn := ih (i + 1) ((i : Int) + 1) (by omega) (by omega)
      have ir : InR ((i : Int) + 1) := ⟨by omega, by omega⟩
      have w0 := wsum_in hW (bitP (s : Int)) (bitD (s : Int)) i (by omega)
      have wt := hW.2.1 i (by omega)
      unfold WFt at wt
      have e1 : h (o + 2) i = g 1 i := (hR.2 i (by omega)).2.1
      refine l_X9_weightOf_4 hl ?_
      unfold B_X9_weightOf_4
      rw [hR.1, Int.toNat_natCast, e1]
      refine ⟨fun c => absurd c (by omega), fun c => ⟨fun c2 => ⟨ir, ?_⟩, fun c2 => ⟨⟨by omega, by omega⟩, ⟨by omega, by omega⟩, fun x5 e5 => ⟨ir, ?_⟩⟩⟩⟩
      · have e : wsum g (bitP (s : Int)) (bitD (s : Int)) (i + 1) = wsum g (bitP (s : Int)) (bitD (s : Int)) i := if_neg c2
        rw [e] at ihn
        exact ihn
      · have e : wsum g (bitP (s : Int)) (bitD (s : Int)) (i + 1) = wsum g (bitP (s : Int)) (bitD (s : Int)) i + g 1 i := if_pos c2
        rw [e] at ihn
        rw [e5]
        exact ihn
  exact key (gn g) 0 0 rfl (by omega)
def sub (s l : Nat) : Prop := iand (s : Int) (ixor (l : Int) (-1)) = 0
def hvS (g : Gs) (room : Int) (l s b : Nat) : Nat := if iand (s : Int) (ixor (l : Int) (-1)) = 0 ∧ wt g s ≤ room ∧ (wt g b < wt g s ∨ (wt g b = wt g s ∧ pc s < pc b)) then s else b
def hvF (g : Gs) (room : Int) (l : Nat) : Nat → Nat → Nat → Nat
  | 0, _, b => b
  | m + 1, i, b => hvF g room l m (i + 1) (hvS g room l i b)
theorem hv_past {g : Gs} {room : Int} {l : Nat} (hl : l < 256) : ∀ (m i b : Nat), l < i → i + m ≤ 256 → hvF g room l m i b = b := by
  intro m
  induction m with
  | zero => intro i b _ _; rfl
  | succ m ih =>
    intro i b h1 h2
    have e : hvS g room l i b = b := by
      unfold hvS
      refine if_neg (fun q => ?_)
      have := sub_le i (by omega) l hl q.1
      omega
    show hvF g room l m (i + 1) (hvS g room l i b) = b
    rw [e]
    exact ih (i + 1) b (by omega) (by omega)
theorem s_heavy {h : Mem} {g : Gs} {room : Int} {l n : Nat} {Q : Int → Mem → Prop} (w : WF 9999 g) (rT : RT h 13 g) (hl : l < 2 ^ n) (hn : n ≤ 8) (hQ : Q ((hvF g room l (2 ^ n - 1) 1 0 : Nat) : Int) h) : L_X4_heaviestSet_30 h 12 (l : Int) room 0 0 1 Q := by
  have h8 : 2 ^ n ≤ 256 := Nat.pow_le_pow_right (by omega) (show n ≤ 8 by omega)
  have win : ∀ s, 0 ≤ wt g s ∧ wt g s ≤ 72 := fun s => by
    have := wsum_in w (bitP (s : Int)) (bitD (s : Int)) (gn g) (Nat.le_refl _)
    have := (gn8 w).1
    unfold wt
    omega
  generalize hRe : hvF g room l (2 ^ n - 1) 1 0 = R at hQ
  have key : ∀ (m i b : Nat) (x v : Int), x = (i : Int) → v = wt g b → i + m = 2 ^ n → b < 256 → hvF g room l m i b = R → L_X4_heaviestSet_30 h 12 (l : Int) room (b : Int) v x Q := by
    intro m
    induction m with
    | zero =>
      intro i b x v hx hv hi hb hp
      subst hx hv
      refine l_X4_heaviestSet_30 rfl ?_
      unfold B_X4_heaviestSet_30
      obtain rfl : b = R := hp
      exact ⟨fun _ => hQ, fun c => absurd (by omega) c⟩
    | succ m ih =>
      intro i b x v hx hv hi hb hp
      subst hx hv
      refine l_X4_heaviestSet_30 rfl ?_
      unfold B_X4_heaviestSet_30
      have hp2 : hvF g room l m (i + 1) (hvS g room l i b) = R := hp
      have ir : InR ((i : Int) + 1) := ⟨by omega, by omega⟩
      have stay : hvS g room l i b = b → InR ((i : Int) + 1) ∧ L_X4_heaviestSet_30 h 12 (l : Int) room (b : Int) (wt g b) ((i : Int) + 1) Q := fun e => ⟨ir, ih (i + 1) b _ _ (by omega) rfl (by omega) hb (by rw [e] at hp2; exact hp2)⟩
      have take : hvS g room l i b = i → InR ((i : Int) + 1) ∧ L_X4_heaviestSet_30 h 12 (l : Int) room (i : Int) (wt g i) ((i : Int) + 1) Q := fun e => ⟨ir, ih (i + 1) i _ _ (by omega) rfl (by omega) (by omega) (by rw [e] at hp2; exact hp2)⟩
      refine ⟨fun c => ?_, fun c => ⟨fun c2 => s_weightOf (o := 13) rfl rT w ?_, fun c2 => stay (if_neg (fun q => c2 q.1))⟩⟩
      · have e := hv_past (g := g) (room := room) (l := l) (by omega) (m + 1) i b (by omega) (by omega)
        rw [e] at hp
        rw [← hp] at hQ
        exact hQ
      · have j85 : (wt g b < wt g i ∨ (wt g b = wt g i ∧ pc i < pc b)) → J_X4_heaviestSet_85 h 12 (l : Int) room (b : Int) (wt g b) (i : Int) (wt g i) Q := fun d => by
          unfold J_X4_heaviestSet_85
          exact ⟨fun d2 => stay (if_neg (fun q => by have := q.2.1; omega)), fun d2 => take (if_pos ⟨c2, by omega, d⟩)⟩
        have j89 : ¬ (wt g b < wt g i ∨ (wt g b = wt g i ∧ pc i < pc b)) → J_X4_heaviestSet_89 h 12 (l : Int) room (b : Int) (wt g b) (i : Int) (wt g i) Q := fun d => by
          unfold J_X4_heaviestSet_89
          exact ⟨fun _ => stay (if_neg (fun q => d q.2.2)), fun _ => stay (if_neg (fun q => d q.2.2))⟩
        refine ⟨fun d => j85 (Or.inl d), fun d => ⟨fun d2 => j89 (by omega), fun d2 => s_bits (by omega) (s_bits hb ⟨fun d3 => j89 (by omega), fun d3 => j85 (by omega)⟩)⟩⟩
  have w0 : wt g 0 = 0 := by
    have : ∀ k, k ≤ 8 → wsum g (bitP ((0 : Nat) : Int)) (bitD ((0 : Nat) : Int)) k = 0 := by
      intro k
      induction k with
      | zero => intro _; rfl
      | succ k ih =>
        intro hk
        have nb : ¬ bitP ((0 : Nat) : Int) k := fun q => by
          have e := bit_in k (by omega) 0 (by omega)
          have q2 : iand (ishr ((0 : Nat) : Int) (k : Int)) 1 = 1 := q
          rw [e, Nat.zero_div] at q2
          exact absurd q2 (by decide)
        have e : wsum g (bitP ((0 : Nat) : Int)) (bitD ((0 : Nat) : Int)) (k + 1) = wsum g (bitP ((0 : Nat) : Int)) (bitD ((0 : Nat) : Int)) k := if_neg nb
        rw [e]
        exact ih (by omega)
    exact this (gn g) (gn8 w).1
  have p1 : 0 < 2 ^ n := Nat.two_pow_pos n
  exact key (2 ^ n - 1) 1 0 1 0 rfl w0.symm (by omega) (by omega) hRe
