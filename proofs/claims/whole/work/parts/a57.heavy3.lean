theorem k_heaviestWeight {h : Mem} {g : Gs} (s : G2 h g) {Q : Int → Int → Mem → Prop} (hQ : ∀ r u1 u g', G2 u g' → Mo g g' → UX h u1 → UM u1 u → Q r r u) : F_X11_heaviestWeight h (fun r1 h1 => F_X12_heaviestWeight h1 (fun r2 h2 => Q r1 r2 h2)) := by
  have w := s.1
  have rT := s.2.1.1.2.1
  obtain ⟨n8, nc⟩ := gn8 w
  obtain ⟨l, hl, hlt, -⟩ := set_ok (fun t => g 4 t = ((1 : Nat) : Int)) (fun _ => inferInstance) (gn g) n8
  have cwi := cw_in w (gn g) (Nat.le_refl _)
  have ws := w.1
  unfold WFs at ws
  refine Kp.mk (FX := F_X11_heaviestWeight h) (FM := F_X12_heaviestWeight) (g' := g) (st := 0) (r := wt g (hvF g (g 0 3 - cw g (gn g)) l (2 ^ gn g - 1) 1 0)) s w (fun Q hQ => ?_) (fun h1 rx rn Q hQ => ?_) hQ
  · have e1 : h 12 1 = g 0 3 := s.2.1.1.1.2.1
    unfold F_X11_heaviestWeight F_X4_heaviestSet
    refine s_setThatIs (k := 1) rfl (ly_gt (o := 12) rfl) rT w (s_cw (ly_gt (o := 12) rfl) rT w ?_)
    rw [hl, e1]
    exact ⟨⟨by omega, by omega⟩, s_heavy w rT hlt n8 (s_weightOf (ly_gt (o := 12) rfl) rT w (x_given UX.rf s.2.1 hQ))⟩
  · have e1 : h1 162 3 = g 0 3 := rx.1.1 3 (by omega) (by omega)
    unfold F_X12_heaviestWeight F_X12_heaviestOf
    refine q_carried rx.1 w ?_
    rw [e1]
    exact ⟨⟨by omega, by omega⟩, q_heavy w rx.1 hl rfl (q_weightOf rx.1 w (m_gives UM.rf w.nm rx rn hQ))⟩
