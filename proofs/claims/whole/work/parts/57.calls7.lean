/-! told -/
def rem (g : Gs) (t : Nat) : Prop := g 4 t = 1 ∧ g 3 t ≤ g 6 t
def remD (g : Gs) : ∀ t, Decidable (rem g t) := fun t => by unfold rem; exact inferInstance
theorem s_isRem {h : Mem} {g : Gs} {o t : Nat} {x : Int} {Q : Int → Mem → Prop} (hR : RT h o g) (hx : x = (t : Int)) (ht : t < gn g) (hn : gn g ≤ 8) (h1 : rem g t → Q 1 h) (h2 : ¬ rem g t → Q 0 h) : F_X9_isRemembered h o x Q := by
  subst hx
  have e4 : h (o + 5) t = g 4 t := hR.at ht (k := 4) (by omega)
  have e6 : h (o + 7) t = g 6 t := hR.at ht (k := 6) (by omega)
  have e3 : h (o + 4) t = g 3 t := hR.at ht (k := 3) (by omega)
  unfold F_X9_isRemembered
  rw [Int.toNat_natCast, e4, e6, e3]
  exact ⟨⟨by omega, by omega⟩, fun c => h2 (fun q => c q.1), fun c => ⟨fun c2 => h2 (fun q => by have := q.2; omega), fun c2 => h1 ⟨c, by omega⟩⟩⟩
theorem s_setRem {h : Mem} {o : Nat} {g : Gs} {B : Int} {Q : Int → Mem → Prop} (hl : lay o = (0, 9)) (hR : RT h o g) (hW : WF B g) (hQ : Q (setOf (rem g) (remD g) (gn g)) h) : F_X9_setRemembered h o Q := by
  obtain ⟨n8, nc⟩ := gn8 hW
  have key : ∀ (m i : Nat) (x : Int), x = (i : Int) → i + m = gn g → L_X9_setRemembered_4 h o (setOf (rem g) (remD g) i) x Q := by
    intro m
    induction m with
    | zero =>
      intro i x hx hi
      subst hx
      refine l_X9_setRemembered_4 hl ?_
      unfold B_X9_setRemembered_4
      rw [hR.1]
      have : i = gn g := by omega
      subst this
      exact ⟨fun _ => hQ, fun c => absurd (by omega) c⟩
    | succ m ih =>
      intro i x hx hi
      subst hx
      have ihn := ih (i + 1) ((i : Int) + 1) (by omega) (by omega)
      have ir : InR ((i : Int) + 1) := ⟨by omega, by omega⟩
      refine l_X9_setRemembered_4 hl ?_
      unfold B_X9_setRemembered_4
      rw [hR.1]
      refine ⟨fun c => absurd c (by omega), fun c => s_isRem hR rfl (by omega) n8 (fun c2 => ⟨fun q => absurd q (by decide), fun _ y hy => ⟨ir, ?_⟩⟩) (fun c2 => ⟨fun _ => ⟨ir, ?_⟩, fun q => absurd rfl q⟩)⟩
      · rw [hy, set_yes (rem g) (remD g) (by omega) c2]
        exact ihn
      · rw [(set_no (rem g) (remD g) (by omega) c2).2]
        exact ihn
  exact key (gn g) 0 0 rfl (by omega)
theorem q_things4 {h : Mem} {g : Gs} {B : Int} {V : Nat → Prop} {Q : Int → Mem → Prop} (hR : RXp h g V) (hW : WF B g) (hQ : Q (setOf (rem g) (remD g) (gn g)) h) : F_X12_thingsThat h 4 Q := by
  obtain ⟨n8, nc⟩ := gn8 hW
  have key : ∀ (m i : Nat) (x : Int), x = (i : Int) → i + m = gn g → L_X12_thingsThat_4 h 4 (setOf (rem g) (remD g) i) x Q := by
    intro m
    induction m with
    | zero =>
      intro i x hx hi
      subst hx
      refine l_X12_thingsThat_4 ?_
      unfold B_X12_thingsThat_4
      rw [hR.1 0 (by omega) (by omega)]
      have : i = gn g := by omega
      subst this
      exact ⟨fun _ => hQ, fun c => absurd (by omega) c⟩
    | succ m ih =>
      intro i x hx hi
      subst hx
      have ihn := ih (i + 1) ((i : Int) + 1) (by omega) (by omega)
      have ir : InR ((i : Int) + 1) := ⟨by omega, by omega⟩
      refine l_X12_thingsThat_4 ?_
      unfold B_X12_thingsThat_4
      rw [hR.1 0 (by omega) (by omega)]
      refine ⟨fun c => absurd c (by omega), fun c => ⟨fun c1 => absurd rfl c1, fun _ => q_isRem hR hW rfl (by omega) ?_⟩⟩
      by_cases d : g 4 i = 1 ∧ g 3 i ≤ g 6 i
      · rw [if_pos d]
        refine ⟨fun q => absurd q (by decide), fun _ y hy => ⟨ir, ?_⟩⟩
        rw [hy, set_yes (rem g) (remD g) (by omega) d]
        exact ihn
      · rw [if_neg d]
        refine ⟨fun _ => ⟨ir, ?_⟩, fun q => absurd rfl q⟩
        rw [(set_no (rem g) (remD g) (by omega) d).1]
        exact ihn
  exact key (gn g) 0 0 rfl (by omega)
def toldG (g : Gs) (a : Nat) : Int :=
  if a ≤ 8 then g 0 a else if a ≤ 12 then setOf (fun t => g 4 t = ((a - 9 : Nat) : Int)) (fun _ => inferInstance) (gn g) else if a = 13 then setOf (rem g) (remD g) (gn g) else cw g (gn g)
theorem k_told {h : Mem} {g : Gs} {a : Int} (s : G2 h g) {Q : Int → Int → Mem → Prop} (hQ : ∀ r u1 u g', G2 u g' → Mo g g' → UX h u1 → UM u1 u → Q r r u) : F_X11_told h a (fun r1 h1 => F_X12_told h1 a (fun r2 h2 => Q r1 r2 h2)) := by
  have w := s.1
  have rT := s.2.1.1.2.1
  by_cases c : 0 ≤ a ∧ a ≤ 14
  · obtain ⟨k, rfl⟩ : ∃ k : Nat, a = k := ⟨a.toNat, by omega⟩
    have hk : k ≤ 14 := by omega
    refine Kp.mk (FX := F_X11_told h k) (FM := fun h1 => F_X12_told h1 k) (g' := g) (st := 0) (r := toldG g k) s w (fun Q hQ => ?_) (fun h1 rx rn Q hQ => ?_) hQ
    · obtain ⟨⟨⟨a1, a2, a3, a4, a5, a6⟩, rt, rm⟩, r5⟩ := s.2.1
      have G : ∀ v, toldG g k = v → F_X11_given h v Q := fun v e => by rw [← e]; exact x_given UX.rf s.2.1 hQ
      have S : ∀ (j : Nat) (x : Int), x = j → toldG g k = setOf (fun t => g 4 t = (j : Int)) (fun _ => inferInstance) (gn g) → F_X9_setThatIs h 13 x (fun r u => F_X11_given u r Q) := fun j x ex e => s_setThatIs (k := j) ex (ly_gt (o := 12) rfl) rT w (G _ e)
      unfold F_X11_told
      refine ⟨fun d => ?_, fun d => ?_, fun d => ?_, fun d => ?_, fun d => ?_, fun d => ?_, fun d => ?_, fun d => ?_, fun d => ?_, fun d => ?_, fun d => ?_, fun d => ?_, fun d => ?_, fun d => ?_, fun d => ?_, fun d => absurd d (by omega)⟩
      · obtain rfl : k = 0 := by omega
        exact G _ rT.1.symm
      · obtain rfl : k = 1 := by omega
        exact G _ rm.1.symm
      · obtain rfl : k = 2 := by omega
        exact G _ a1.symm
      · obtain rfl : k = 3 := by omega
        exact G _ a2.symm
      · obtain rfl : k = 4 := by omega
        exact G _ a3.symm
      · obtain rfl : k = 5 := by omega
        exact G _ r5.symm
      · obtain rfl : k = 6 := by omega
        exact G _ a4.symm
      · obtain rfl : k = 7 := by omega
        exact G _ a5.symm
      · obtain rfl : k = 8 := by omega
        exact G _ a6.symm
      · obtain rfl : k = 9 := by omega
        exact S 0 0 rfl rfl
      · obtain rfl : k = 10 := by omega
        exact S 1 1 rfl rfl
      · obtain rfl : k = 11 := by omega
        exact S 2 2 rfl rfl
      · obtain rfl : k = 12 := by omega
        exact S 3 3 rfl rfl
      · obtain rfl : k = 13 := by omega
        exact s_setRem (ly_gt (o := 12) rfl) rT w (G _ rfl)
      · obtain rfl : k = 14 := by omega
        exact s_cw (ly_gt (o := 12) rfl) rT w (G _ rfl)
    · have G : ∀ v, toldG g k = v → F_X12_gives h1 v Q := fun v e => by rw [← e]; exact m_gives UM.rf w.nm rx rn hQ
      unfold F_X12_told
      refine ⟨fun q => absurd q (by omega), fun _ => ⟨fun _ => ⟨fun d => ⟨fun d2 => ⟨⟨by omega, by omega⟩, ?_⟩, fun d2 => ?_⟩, fun d => ⟨⟨by omega, by omega⟩, ?_⟩⟩, fun q => absurd c.2 q⟩⟩
      · by_cases e : k = 13
        · subst e
          exact q_things4 rx.1 w (G _ rfl)
        · have e2 : (k : Int) - 9 = ((k - 9 : Nat) : Int) := by omega
          rw [e2]
          refine q_things (by omega) rx.1 w (G _ ?_)
          unfold toldG
          rw [if_neg (by omega), if_pos (by omega)]
      · obtain rfl : k = 14 := by omega
        exact q_carried rx.1 w (G _ rfl)
      · rw [Int.toNat_natCast]
        refine G _ ?_
        unfold toldG
        rw [if_pos (by omega)]
        by_cases e : k = 5
        · subst e; exact rx.2.symm
        · exact (rx.1.1 k (by omega) e).symm
  · refine Kp.mk (FX := F_X11_told h a) (FM := fun h1 => F_X12_told h1 a) (g' := g) (st := 1) (r := -1) s w (fun Q hQ => ?_) (fun h1 rx rn Q hQ => ?_) hQ
    · exact ⟨fun d => absurd ⟨by omega, by omega⟩ c, fun d => absurd ⟨by omega, by omega⟩ c, fun d => absurd ⟨by omega, by omega⟩ c, fun d => absurd ⟨by omega, by omega⟩ c, fun d => absurd ⟨by omega, by omega⟩ c, fun d => absurd ⟨by omega, by omega⟩ c, fun d => absurd ⟨by omega, by omega⟩ c, fun d => absurd ⟨by omega, by omega⟩ c, fun d => absurd ⟨by omega, by omega⟩ c, fun d => absurd ⟨by omega, by omega⟩ c, fun d => absurd ⟨by omega, by omega⟩ c, fun d => absurd ⟨by omega, by omega⟩ c, fun d => absurd ⟨by omega, by omega⟩ c, fun d => absurd ⟨by omega, by omega⟩ c, fun d => absurd ⟨by omega, by omega⟩ c, fun _ => x_refused UX.rf s.2.1 hQ⟩
    · exact ⟨fun _ => m_refuse UM.rf w.nm rx rn hQ, fun d => ⟨fun d2 => absurd ⟨by omega, d2⟩ c, fun _ => m_refuse UM.rf w.nm rx rn hQ⟩⟩
