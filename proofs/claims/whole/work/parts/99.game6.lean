/-! game, moveOf: the calls -/
def gmOk (g : Gs) (a b : Int) : Prop := (0 ≤ a ∧ a < g 0 1) ∧ (0 ≤ b ∧ b < g 0 1) ∧ a ≠ b
theorem m_areTwo {h : Mem} {g : Gs} {a b : Int} {P : Int → Mem → Prop} (rx : RXh h g) (h0 : ¬ gmOk g a b → P 0 h) (h1 : gmOk g a b → P 1 h) : F_X12_areTwo h a b P := by
  unfold F_X12_areTwo
  exact m_isMill rx (fun q => ⟨fun _ => h0 (fun z => q z.1), fun z => absurd rfl z⟩) (fun q1 => ⟨fun z => absurd z (by decide), fun _ => m_isMill rx (fun q => ⟨fun _ => h0 (fun z => q z.2.1), fun z => absurd rfl z⟩) (fun q2 => ⟨fun z => absurd z (by decide), fun _ => ⟨fun q => h0 (fun z => z.2.2 q), fun q3 => h1 ⟨q1, q2, q3⟩⟩⟩)⟩)
theorem k_game {h : Mem} {g : Gs} {a b c : Int} (s : G2 h g) {Q : Int → Int → Mem → Prop} (hQ : ∀ r u1 u g', G2 u g' → Mo g g' → UX h u1 → UM u1 u → Q r r u) : F_X11_game h a b c (fun r1 h1 => F_X12_game h1 a b c (fun r2 h2 => Q r1 r2 h2)) := by
  have w := s.1
  obtain ⟨m4, mc⟩ := gm4 w
  by_cases ok : gmOk g a b ∧ 0 ≤ c ∧ c ≤ 2
  · obtain ⟨ok, oc⟩ := ok
    have ok' := ok
    unfold gmOk at ok'
    obtain ⟨i, rfl⟩ : ∃ k : Nat, a = k := ⟨a.toNat, by omega⟩
    obtain ⟨j, rfl⟩ : ∃ k : Nat, b = k := ⟨b.toNat, by omega⟩
    refine Kp.mk (FX := F_X11_game h i j c) (FM := fun h1 => F_X12_game h1 i j c) (g' := g) (st := 0) (r := if c = 0 then 0 else (fG 0 (gV g i j c) (gokB g) (gW g + 1) 0 (0, -1)).1) s w (fun Q hQ => ?_) (fun h1 rx rn Q hQ => ?_) hQ
    · unfold F_X11_game
      refine x_isMill s.2.1 (fun q => absurd ok.1 q) (fun _ => ⟨fun q => absurd q (by decide), fun _ => x_isMill s.2.1 (fun q => absurd ok.2.1 q) (fun _ => ⟨fun q => absurd q (by decide), fun _ => ⟨fun q => absurd q ok.2.2, fun _ => x_outside (fun q => absurd oc q) (fun _ => ⟨fun _ => s_play w (by omega) (by omega) (by omega) s.2.1 (fun u ru fu u0 u1 => ?_), fun q => absurd rfl q⟩)⟩⟩)⟩)
      by_cases c0 : c = 0
      · rw [if_pos c0] at hQ
        rw [u0 c0]
        exact x_given fu ru hQ
      · rw [if_neg c0] at hQ
        have last := (fG_is (l := 0) (v := gV g i j c) (o := gokB g) (gW g + 1) 0 (0, -1)).2.2 (gW g) (by omega) (by omega) (gok_end (Nat.le_refl _))
        rcases u1 c0 with z | ⟨x, z1, z2, z3, z4⟩
        · exact absurd z.1 last
        · rw [z3]
          exact x_given fu ru hQ
    · unfold F_X12_game
      refine m_areTwo rx (fun q => absurd ok q) (fun _ => ⟨fun q => absurd q (by decide), fun _ => m_isFrom (fun q => absurd oc q) (fun _ => ⟨fun _ => q_playing w (by omega) (by omega) (by omega) rx (fun c0 => ?_) (fun c0 u ru ku _ => ?_), fun q => absurd q (by decide)⟩)⟩)
      · rw [if_pos c0] at hQ
        exact m_gives UM.rf w.nm rx rn hQ
      · rw [if_neg c0] at hQ
        exact m_gives ku.2.2 w.nm ru (rn.fr ku.2.1) hQ
  · refine Kp.mk (FX := F_X11_game h a b c) (FM := fun h1 => F_X12_game h1 a b c) (g' := g) (st := 1) (r := -1) s w (fun Q hQ => ?_) (fun h1 rx rn Q hQ => ?_) hQ
    · have no : F_X11_refused h 1 Q := x_refused UX.rf s.2.1 hQ
      unfold F_X11_game
      exact x_isMill s.2.1 (fun _ => ⟨fun _ => no, fun z => absurd rfl z⟩) (fun q1 => ⟨fun z => absurd z (by decide), fun _ => x_isMill s.2.1 (fun _ => ⟨fun _ => no, fun z => absurd rfl z⟩) (fun q2 => ⟨fun z => absurd z (by decide), fun _ => ⟨fun _ => no, fun q3 => x_outside (fun _ => ⟨fun z => absurd z (by decide), fun _ => no⟩) (fun q4 => absurd ⟨⟨q1, q2, q3⟩, q4⟩ ok)⟩⟩)⟩)
    · have no : F_X12_refuse h1 1 Q := m_refuse UM.rf w.nm rx rn hQ
      unfold F_X12_game
      exact m_areTwo rx (fun _ => ⟨fun _ => no, fun z => absurd rfl z⟩) (fun q1 => ⟨fun z => absurd z (by decide), fun _ => m_isFrom (fun _ => ⟨fun z => absurd rfl z, fun _ => no⟩) (fun q2 => absurd ⟨q1, q2⟩ ok)⟩)
theorem k_moveOf {h : Mem} {g : Gs} {a b c d : Int} (s : G2 h g) {Q : Int → Int → Mem → Prop} (hQ : ∀ r u1 u g', G2 u g' → Mo g g' → UX h u1 → UM u1 u → Q r r u) : F_X11_moveOf h a b c d (fun r1 h1 => F_X12_moveOf h1 a b c d (fun r2 h2 => Q r1 r2 h2)) := by
  have w := s.1
  obtain ⟨m4, mc⟩ := gm4 w
  obtain ⟨n8, nc⟩ := gn8 w
  have ws := w.1
  unfold WFs at ws
  by_cases ok : gmOk g a b ∧ (1 ≤ c ∧ c ≤ 2) ∧ 0 ≤ d ∧ d ≤ 1
  · obtain ⟨ok, oc, od⟩ := ok
    have ok' := ok
    unfold gmOk at ok'
    obtain ⟨i, rfl⟩ : ∃ k : Nat, a = k := ⟨a.toNat, by omega⟩
    obtain ⟨j, rfl⟩ : ∃ k : Nat, b = k := ⟨b.toNat, by omega⟩
    have last := (fG_is (l := 0) (v := gV g i j c) (o := gokB g) (gW g + 1) 0 (0, -1))
    have W128 : gW g ≤ 128 := by
      have q := Nat.mul_le_mul n8 (show (g 0 2).toNat ≤ 16 by omega)
      show gn g * (g 0 2).toNat ≤ 128
      omega
    have eW : (gn g : Int) * g 0 2 = ((gW g : Nat) : Int) := by
      show (gn g : Int) * g 0 2 = ((gn g * (g 0 2).toNat : Nat) : Int)
      rw [Int.natCast_mul, Int.toNat_of_nonneg (by omega)]
    obtain ⟨x, hx, eS⟩ : ∃ x : Nat, x ≤ gW g ∧ (fG 0 (gV g i j c) (gokB g) (gW g + 1) 0 (0, -1)).2 = (x : Int) := by
      have n0 := last.2.2 (gW g) (by omega) (by omega) (gok_end (Nat.le_refl _))
      rcases last.1 with z | ⟨x, x1, x2, x3, x4⟩
      · rw [z] at n0; exact absurd rfl n0
      · exact ⟨x, by omega, by rw [x4]⟩
    have hz : ∀ n : Nat, ((n : Nat) : Int) ≠ -1 := fun n => by omega
    refine Kp.mk (FX := F_X11_moveOf h i j c d) (FM := fun h1 => F_X12_moveOf h1 i j c d) (g' := g) (st := if x = gW g then 6 else 0) (r := if x = gW g then -1 else if d = 0 then ((x / (g 0 2).toNat : Nat) : Int) else ((x % (g 0 2).toNat : Nat) : Int)) s w (fun Q hQ => ?_) (fun h1 rx rn Q hQ => ?_) hQ
    · unfold F_X11_moveOf
      refine x_isMill s.2.1 (fun q => absurd ok.1 q) (fun _ => ⟨fun q => absurd q (by decide), fun _ => x_isMill s.2.1 (fun q => absurd ok.2.1 q) (fun _ => ⟨fun q => absurd q (by decide), fun _ => ⟨fun q => absurd q ok.2.2, fun _ => x_outside (fun q => absurd oc q) (fun _ => ⟨fun q => absurd rfl q, fun _ => x_outside (fun q => absurd od q) (fun _ => ⟨fun _ => s_play w (by omega) (by omega) (by omega) s.2.1 (fun u ru fu u0 u1 => ?_), fun q => absurd rfl q⟩)⟩)⟩⟩)⟩)
      have u2 := u1 (by omega)
      unfold cR at u2
      rw [eS] at u2
      rcases u2 with z | ⟨y, y1, y2, y3, y4⟩
      · exact absurd z.1 (hz _)
      · have exy : y = x := by omega
        subst exy
        rcases y4 with ⟨l1, l2, l3⟩ | ⟨l1, l2, l3⟩
        · rw [if_neg (by omega), if_neg (by omega)] at hQ
          rw [l2, l3]
          refine ⟨fun c0 => ?_, fun c0 => ?_⟩
          · rw [if_neg c0] at hQ
            exact x_orNone fu ru (fun v a b e => hQ v a (by rw [b, if_neg (hz _)]) e)
          · rw [if_pos c0] at hQ
            exact x_orNone fu ru (fun v a b e => hQ v a (by rw [b, if_neg (hz _)]) e)
        · rw [if_pos l1, if_pos l1] at hQ
          rw [l2, l3]
          exact ⟨fun _ => x_orNone fu ru hQ, fun _ => x_orNone fu ru hQ⟩
    · unfold F_X12_moveOf
      refine m_areTwo rx (fun q => absurd ok q) (fun _ => ⟨fun q => absurd q (by decide), fun _ => m_isFrom (fun q => absurd oc q) (fun _ => ⟨fun q => absurd q (by decide), fun _ => m_isFrom (fun q => absurd od q) (fun _ => ⟨fun _ => q_playing w (by omega) (by omega) (by omega) rx (fun c0 => absurd c0 (by omega)) (fun c0 u ru ku e176 => ?_), fun q => absurd q (by decide)⟩)⟩)⟩)
      have e2 : u 162 2 = (((g 0 2).toNat : Nat) : Int) := by rw [ru.1.1 2 (by omega) (by omega)]; omega
      have e1 : u 162 0 * u 162 2 = ((gW g : Nat) : Int) := by rw [ru.1.1 0 (by omega) (by omega), ru.1.1 2 (by omega) (by omega), ← nc]; exact eW
      have gv : ∀ v : Int, (∀ u, RXh u g → RN u g → u 161 2 = 0 → UM h1 u → Q v u) → F_X12_gives u v Q := fun v hv => m_gives ku.2.2 w.nm ru (rn.fr ku.2.1) hv
      rw [e1, e176, eS, e2, ← Int.ofNat_tdiv, ← Int.ofNat_tmod]
      refine ⟨⟨by omega, by omega⟩, fun n0 => ?_, fun n0 => ?_⟩
      · rw [if_neg (by omega), if_neg (by omega)] at hQ
        have hL : 0 < (g 0 2).toNat := by omega
        have hlt : x / (g 0 2).toNat < gn g := Nat.div_lt_of_lt_mul (by rw [Nat.mul_comm]; show x < gW g; omega)
        have hi : ∀ n : Nat, n < 100 → InR (n : Int) := fun n hn => ⟨by omega, by omega⟩
        refine ⟨fun c0 => ⟨by omega, ?_⟩, fun c0 => ⟨by omega, hi _ (by omega), ?_⟩⟩
        · rw [if_neg c0] at hQ
          exact gv _ hQ
        · rw [if_pos c0] at hQ
          exact gv _ hQ
      · have n1 : x = gW g := by omega
        rw [if_pos n1, if_pos n1] at hQ
        exact m_refuse ku.2.2 w.nm ru (rn.fr ku.2.1) hQ
  · refine Kp.mk (FX := F_X11_moveOf h a b c d) (FM := fun h1 => F_X12_moveOf h1 a b c d) (g' := g) (st := 1) (r := -1) s w (fun Q hQ => ?_) (fun h1 rx rn Q hQ => ?_) hQ
    · have no : F_X11_refused h 1 Q := x_refused UX.rf s.2.1 hQ
      unfold F_X11_moveOf
      exact x_isMill s.2.1 (fun _ => ⟨fun _ => no, fun z => absurd rfl z⟩) (fun q1 => ⟨fun z => absurd z (by decide), fun _ => x_isMill s.2.1 (fun _ => ⟨fun _ => no, fun z => absurd rfl z⟩) (fun q2 => ⟨fun z => absurd z (by decide), fun _ => ⟨fun _ => no, fun q3 => x_outside (fun _ => ⟨fun _ => no, fun z => absurd z (by decide)⟩) (fun q4 => ⟨fun z => absurd rfl z, fun _ => x_outside (fun _ => ⟨fun z => absurd z (by decide), fun _ => no⟩) (fun q5 => absurd ⟨⟨q1, q2, q3⟩, q4, q5⟩ ok)⟩)⟩⟩)⟩)
    · have no : F_X12_refuse h1 1 Q := m_refuse UM.rf w.nm rx rn hQ
      unfold F_X12_moveOf
      exact m_areTwo rx (fun _ => ⟨fun _ => no, fun z => absurd rfl z⟩) (fun q1 => ⟨fun z => absurd z (by decide), fun _ => m_isFrom (fun _ => ⟨fun _ => no, fun z => absurd rfl z⟩) (fun q2 => ⟨fun z => absurd z (by decide), fun _ => m_isFrom (fun _ => ⟨fun z => absurd rfl z, fun _ => no⟩) (fun q3 => absurd ⟨q1, q2, q3⟩ ok)⟩)⟩)
