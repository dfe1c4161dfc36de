/-! heaviest: the reference's side, the call -/
theorem q_heavy {h : Mem} {g : Gs} {room : Int} {l n : Nat} {Q : Int → Mem → Prop} (w : WF 9999 g) (r : RX h g) (hl : setOf (fun t => g 4 t = ((1 : Nat) : Int)) (fun _ => inferInstance) (gn g) = (l : Int)) (hn : n = gn g) (hQ : Q ((hvF g room l (2 ^ n - 1) 1 0 : Nat) : Int) h) : L_X12_heaviestOf_21 h room 0 1 Q := by
  subst hn
  obtain ⟨n8, nc⟩ := gn8 w
  have h8 : 2 ^ gn g ≤ 256 := Nat.pow_le_pow_right (by omega) (show gn g ≤ 8 by omega)
  have win : ∀ s, 0 ≤ wt g s ∧ wt g s ≤ 72 := fun s => by
    have := wsum_in w (bitP (s : Int)) (bitD (s : Int)) (gn g) (Nat.le_refl _)
    unfold wt
    omega
  generalize hRe : hvF g room l (2 ^ gn g - 1) 1 0 = R at hQ
  have e0 : h 162 0 = (gn g : Int) := by rw [nc]; exact r.1 0 (by omega) (by omega)
  have key : ∀ (m i b : Nat) (x : Int), x = (i : Int) → i + m = 2 ^ gn g → b < 256 → hvF g room l m i b = R → L_X12_heaviestOf_21 h room (b : Int) x Q := by
    intro m
    induction m with
    | zero =>
      intro i b x hx hi hb hp
      subst hx
      refine l_X12_heaviestOf_21 ?_
      unfold B_X12_heaviestOf_21
      rw [e0, ishl_1 (gn g) n8]
      obtain rfl : b = R := hp
      exact ⟨fun _ => hQ, fun c => absurd (by omega) c⟩
    | succ m ih =>
      intro i b x hx hi hb hp
      subst hx
      refine l_X12_heaviestOf_21 ?_
      unfold B_X12_heaviestOf_21
      rw [e0, ishl_1 (gn g) n8]
      have hp2 : hvF g room l m (i + 1) (hvS g room l i b) = R := hp
      have ir : InR ((i : Int) + 1) := ⟨by omega, by omega⟩
      have stay : hvS g room l i b = b → InR ((i : Int) + 1) ∧ L_X12_heaviestOf_21 h room (b : Int) ((i : Int) + 1) Q := fun e => ⟨ir, ih (i + 1) b _ (by omega) (by omega) hb (by rw [e] at hp2; exact hp2)⟩
      have take : hvS g room l i b = i → InR ((i : Int) + 1) ∧ L_X12_heaviestOf_21 h room (i : Int) ((i : Int) + 1) Q := fun e => ⟨ir, ih (i + 1) i _ (by omega) (by omega) (by omega) (by rw [e] at hp2; exact hp2)⟩
      refine ⟨fun c => absurd c (by omega), fun _ => q_things (k := 1) (by omega) r w ?_⟩
      rw [hl]
      have wi := win i
      have wb := win b
      refine ⟨fun c => stay (if_neg (fun q => c q.1)), fun c => q_weightOf r w ⟨fun c2 => q_weightOf r w (q_weightOf r w ?_), fun c2 => stay (if_neg (fun q => c2 q.2.1))⟩⟩
      show InR (wt g i - wt g b) ∧ ((0 < wt g i - wt g b → _) ∧ (¬ (0 < wt g i - wt g b) → _))
      have c3 : wt g i ≤ room := c2
      refine ⟨⟨by omega, by omega⟩, fun d => take (if_pos ⟨c, c3, by omega⟩), fun d => ⟨fun d2 => stay (if_neg (fun q => ?_)), fun d2 => q_bits (by omega) (q_bits hb ⟨fun d3 => stay (if_neg (fun q => ?_)), fun d3 => take (if_pos ⟨c, c3, by have d4 : wt g i - wt g b = 0 := d2; omega⟩)⟩)⟩⟩
      · have d4 : ¬ (wt g i - wt g b = 0) := d2
        have := q.2.2
        omega
      · have d4 : wt g i - wt g b = 0 := d2
        have := q.2.2
        omega
  have p1 : 0 < 2 ^ gn g := Nat.two_pow_pos (gn g)
  exact key (2 ^ gn g - 1) 1 0 1 rfl (by omega) (by omega) hRe
theorem k_heaviest {h : Mem} {g : Gs} (s : G2 h g) {Q : Int → Int → Mem → Prop} (hQ : ∀ r u1 u g', G2 u g' → Mo g g' → UX h u1 → UM u1 u → Q r r u) : F_X11_heaviest h (fun r1 h1 => F_X12_heaviest h1 (fun r2 h2 => Q r1 r2 h2)) := by
  have w := s.1
  have rT := s.2.1.1.2.1
  obtain ⟨n8, nc⟩ := gn8 w
  obtain ⟨l, hl, hlt, -⟩ := set_ok (fun t => g 4 t = ((1 : Nat) : Int)) (fun _ => inferInstance) (gn g) n8
  have cwi := cw_in w (gn g) (Nat.le_refl _)
  have ws := w.1
  unfold WFs at ws
  refine Kp.mk (FX := F_X11_heaviest h) (FM := F_X12_heaviest) (g' := g) (st := 0) (r := ((hvF g (g 0 3 - cw g (gn g)) l (2 ^ gn g - 1) 1 0 : Nat) : Int)) s w (fun Q hQ => ?_) (fun h1 rx rn Q hQ => ?_) hQ
  · have e1 : h 12 1 = g 0 3 := s.2.1.1.1.2.1
    unfold F_X11_heaviest F_X4_heaviestSet
    refine s_setThatIs (k := 1) rfl (ly_gt (o := 12) rfl) rT w (s_cw (ly_gt (o := 12) rfl) rT w ?_)
    rw [hl, e1]
    exact ⟨⟨by omega, by omega⟩, s_heavy w rT hlt n8 (x_given UX.rf s.2.1 hQ)⟩
  · have e1 : h1 162 3 = g 0 3 := rx.1.1 3 (by omega) (by omega)
    unfold F_X12_heaviest F_X12_heaviestOf
    refine q_carried rx.1 w ?_
    rw [e1]
    exact ⟨⟨by omega, by omega⟩, q_heavy w rx.1 hl rfl (m_gives UM.rf w.nm rx rn hQ)⟩
