/-! live: the reference does a step, holds a test -/
theorem kc_all {x : Int} (h : 0 ≤ x ∧ x ≤ 10) : (x = 0 ∧ kc x = 14) ∨ (x = 1 ∧ kc x = 15) ∨ (x = 2 ∧ kc x = 16) ∨ (x = 3 ∧ kc x = 17) ∨ (x = 4 ∧ kc x = 1812) ∨ (x = 5 ∧ kc x = 1822) ∨ (x = 6 ∧ kc x = 1813) ∨ (x = 7 ∧ kc x = 1823) ∨ (x = 8 ∧ kc x = 19) ∨ (x = 9 ∧ kc x = 21) ∨ (x = 10 ∧ kc x = 20) := by
  have c : x = 0 ∨ x = 1 ∨ x = 2 ∨ x = 3 ∨ x = 4 ∨ x = 5 ∨ x = 6 ∨ x = 7 ∨ x = 8 ∨ x = 9 ∨ x = 10 := by omega
  rcases c with rfl | rfl | rfl | rfl | rfl | rfl | rfl | rfl | rfl | rfl | rfl <;> decide
theorem RDm.fr {h v : Mem} {b : Nat} {d : Dy} (r : RDm h b d) (hd : dn d ≤ 60) (f : ∀ k, (k = b + 9 ∨ (b + 80 ≤ k ∧ k < b + 440)) → v 162 k = h 162 k) : RDm v b d := by
  obtain ⟨r0, r1⟩ := r
  refine ⟨by rw [f _ (Or.inl rfl)]; exact r0, fun k hk => ?_⟩
  rw [f _ (Or.inr (by omega)), f _ (Or.inr (by omega)), f _ (Or.inr (by omega)), f _ (Or.inr (by omega)), f _ (Or.inr (by omega))]
  exact r1 k hk
theorem RDm.lm {h v : Mem} {d : Dy} (r : RDm h 0 d) (hd : dn d ≤ 60) (f : LMf h v) : RDm v 0 d := r.fr hd (fun k hk => f 162 k (by omega) (by omega) (by omega) (by omega))
theorem RDm.at {v : Mem} {d : Dy} {k : Nat} (r : RDm v 0 d) (hk : k < dn d) : v 162 (80 + 6 * k) = kc (d 1 k) ∧ (d 1 k ≠ 6 → v 162 (80 + 6 * k + 1) = d 2 k) ∧ v 162 (80 + 6 * k + 2) = d 3 k ∧ ((4 ≤ d 1 k ∧ d 1 k ≠ 9) → v 162 (80 + 6 * k + 4) = d 5 k) ∧ v 162 (80 + 6 * k + 5) = d 4 k := by
  have q := r.2 k hk
  rw [Nat.zero_add, Nat.zero_add, Nat.zero_add, Nat.zero_add, Nat.zero_add] at q
  exact q
section LM1
variable {h v : Mem} {g0 g : Gs} {st ms lf : Int} {lt : Nat} {d : Dy} {a b c : Int} {k : Nat}
theorem q_does {P : Int → Mem → Prop} (w0 : WF 9999 g0) (w : WF 9999 g) (wd : WFD d a b c) (sg : stG3 a b c g) (hk : k < dn d) (rd : RDm v 0 d) (hl : lt < 65536) (z : ZM h g0 v g st ms lf lt) (hQ : ∀ u, ZM h g0 u (lvA d k g lt).1 st ms lf (lvA d k g lt).2.2 → WF 9999 (lvA d k g lt).1 → stG3 a b c (lvA d k g lt).1 → (∀ k, u 178 k = v 178 k) → (lvA d k g lt).2.2 < 65536 → (((lvA d k g lt).2.1 = 0 ∨ (lvA d k g lt).2.1 = 1)) → P (lvA d k g lt).2.1 u) : F_X12_does v (80 + 6 * (k : Int)) P := by
  obtain ⟨n8, nc⟩ := gn8 w
  have m4 := w.nm.2
  have ws := w.1
  unfold WFs at ws
  have we := wd.2.2.2.2.2.2.1 k hk
  have d60 : dn d ≤ 60 := by have := wd.2.2.2.2.1; unfold dn; omega
  have ka := kc_all ⟨we.1, we.2.1⟩
  obtain ⟨r0, r1, r2, r4, r5⟩ := rd.at hk
  have sg' := sg
  unfold stG3 at sg'
  have i0 : (80 + 6 * (k : Int)).toNat = 80 + 6 * k := by omega
  have i1 : (80 + 6 * (k : Int) + 1).toNat = 80 + 6 * k + 1 := by omega
  have i2 : (80 + 6 * (k : Int) + 2).toNat = 80 + 6 * k + 2 := by omega
  unfold F_X12_does
  rw [i0, i1, i2, r0, r2]
  refine ⟨⟨by omega, by omega⟩, ⟨by omega, by omega⟩, fun x4 e4 => ⟨⟨by omega, by omega⟩, fun c0 => ?_, fun c0 => ?_, fun c0 => ?_, fun c0 => ?_, fun c0 => ?_⟩⟩
  · have k0 : d 1 k = 0 := by omega
    have rg := we.2.2.1 k0
    rw [r1 (by omega)] at e4
    subst e4
    have xn : d 2 k = (((d 2 k).toNat : Nat) : Int) := by omega
    refine q_hoursBy (n := (d 2 k).toNat) w0 w xn (by omega) z (fun c1 u zu u178 => ?_) (fun c1 => ?_)
    · have act : lvA d k g lt = (passN (d 2 k).toNat g, 1, lt) := by unfold lvA; rw [if_pos k0, if_pos (by omega)]
      rw [act] at hQ
      have w0' : WF (g 0 5) g := w.wd (by omega)
      have wk := WF.passN (d 2 k).toNat w0'
      have w' : WF 9999 (passN (d 2 k).toNat g) := wk.wd (by have := wk.1; unfold WFs at this; omega)
      exact ⟨Or.inr rfl, hQ u zu w' (sg.mo (Mo.pN _ _)) u178 hl (Or.inr rfl)⟩
    · have act : lvA d k g lt = (g, 0, lt) := by unfold lvA; rw [if_pos k0, if_neg (by omega)]
      rw [act] at hQ
      exact ⟨Or.inl rfl, hQ v z w sg (fun _ => rfl) hl (Or.inl rfl)⟩
  · have k0 : d 1 k = 1 := by omega
    have rg := we.2.2.2.1 k0
    rw [r1 (by omega)] at e4
    subst e4
    have xn : d 2 k = (((d 2 k).toNat : Nat) : Int) := by omega
    refine ⟨⟨by omega, by omega⟩, ⟨by omega, by omega⟩, ?_⟩
    by_cases c1 : g 4 (d 2 k).toNat = 0 ∨ g 4 (d 2 k).toNat = 3
    · have act : lvA d k g lt = (tset g (d 2 k).toNat 1 (d 3 k) 0, 1, lt) := by unfold lvA; rw [if_neg (by omega), if_pos k0, if_pos c1]
      rw [act] at hQ
      have w' : WF 9999 (tset g (d 2 k).toNat 1 (d 3 k) 0) := w.th (Or.inr (Or.inl rfl)) ⟨by omega, by omega⟩ (fun q => absurd rfl q)
      exact q_tosses z.1 xn (by omega) n8 m4 c1 (fun u ru fu => ⟨Or.inr rfl, hQ u (z.ts ru fu) w' (sg.mo (Mo.eq (fun i _ => tset_n (by omega)))) (fun k => fu 178 k (by omega)) hl (Or.inr rfl)⟩)
    · have act : lvA d k g lt = (g, 0, lt) := by unfold lvA; rw [if_neg (by omega), if_pos k0, if_neg c1]
      rw [act] at hQ
      exact q_tossesNo z.1 xn (by omega) n8 c1 ⟨Or.inl rfl, hQ v z w sg (fun _ => rfl) hl (Or.inl rfl)⟩
  · have k0 : d 1 k = 2 := by omega
    have rg := we.2.2.2.2.1 (Or.inl k0)
    rw [r1 (by omega)] at e4
    subst e4
    have xn : d 2 k = (((d 2 k).toNat : Nat) : Int) := by omega
    by_cases c1 : g 4 (d 2 k).toNat = 1
    · have act : lvA d k g lt = (tset g (d 2 k).toNat 0 0 0, 1, lt) := by unfold lvA; rw [if_neg (by omega), if_neg (by omega), if_pos k0, if_pos c1]
      rw [act] at hQ
      have w' : WF 9999 (tset g (d 2 k).toNat 0 0 0) := w.th (Or.inl rfl) ⟨by omega, by omega⟩ (fun _ => rfl)
      exact q_fetches1 z.1 xn (by omega) n8 m4 c1 (fun u ru fu => ⟨Or.inr rfl, hQ u (z.ts ru fu) w' (sg.mo (Mo.eq (fun i _ => tset_n (by omega)))) (fun k => fu 178 k (by omega)) hl (Or.inr rfl)⟩)
    · have act : lvA d k g lt = (g, 0, lt) := by unfold lvA; rw [if_neg (by omega), if_neg (by omega), if_pos k0, if_neg c1]
      rw [act] at hQ
      exact q_fetches0 z.1 xn (by omega) n8 c1 ⟨Or.inl rfl, hQ v z w sg (fun _ => rfl) hl (Or.inl rfl)⟩
  · have k0 : d 1 k = 3 := by omega
    unfold F_X12_throwsAny
    rw [z.1.1.1 0 (by omega) (by omega)]
    refine ⟨fun c1 => ?_, fun c1 => ?_⟩
    · have gp : 0 < gn g := by omega
      refine q_draw (n := gn g) w (by omega) gp hl z (fun u3 z3 u3178 => ?_)
      rw [z3.1.1.1 2 (by omega) (by omega)]
      refine q_draw (n := (g 0 2).toNat) w (by omega) (by omega) drL_lt z3 (fun u4 z4 u4178 => ?_)
      have ti := Nat.mod_lt (drL lt / 8) gp
      have ci := Nat.mod_lt (drL (drL lt) / 8) (show 0 < (g 0 2).toNat by omega)
      by_cases c2 : g 4 (drL lt / 8 % gn g) = 0 ∨ g 4 (drL lt / 8 % gn g) = 3
      · have act : lvA d k g lt = (tset g (drL lt / 8 % gn g) 1 ((drL (drL lt) / 8 % (g 0 2).toNat : Nat) : Int) 0, 1, drL (drL lt)) := by unfold lvA; rw [if_neg (by omega), if_neg (by omega), if_neg (by omega), if_pos k0, if_neg (by omega), if_pos c2]
        rw [act] at hQ
        generalize hC : drL (drL lt) / 8 % (g 0 2).toNat = C at ci hQ
        generalize hT : drL lt / 8 % gn g = T at ti c2 hQ
        have w' : WF 9999 (tset g T 1 (C : Int) 0) := w.th (Or.inr (Or.inl rfl)) ⟨by omega, by omega⟩ (fun q => absurd rfl q)
        exact q_tosses z4.1 rfl ti n8 m4 c2 (fun u ru fu => ⟨Or.inr rfl, Or.inr rfl, hQ u (z4.ts ru fu) w' (sg.mo (Mo.eq (fun i _ => tset_n (by omega)))) (fun k => (fu 178 k (by omega)).trans ((u4178 k).trans (u3178 k))) drL_lt (Or.inr rfl)⟩)
      · have act : lvA d k g lt = (g, 0, drL (drL lt)) := by unfold lvA; rw [if_neg (by omega), if_neg (by omega), if_neg (by omega), if_pos k0, if_neg (by omega), if_neg c2]
        rw [act] at hQ
        exact q_tossesNo z4.1 rfl ti n8 c2 ⟨Or.inl rfl, Or.inl rfl, hQ u4 z4 w sg (fun k => (u4178 k).trans (u3178 k)) drL_lt (Or.inl rfl)⟩
    · have act : lvA d k g lt = (g, 0, lt) := by unfold lvA; rw [if_neg (by omega), if_neg (by omega), if_neg (by omega), if_pos k0, if_pos (by omega)]
      rw [act] at hQ
      exact ⟨Or.inl rfl, hQ v z w sg (fun _ => rfl) hl (Or.inl rfl)⟩
  · have act : lvA d k g lt = (g, 1, lt) := by unfold lvA; rw [if_neg (by omega), if_neg (by omega), if_neg (by omega), if_neg (by omega)]
    rw [act] at hQ
    exact hQ v z w sg (fun _ => rfl) hl (Or.inr rfl)
theorem q_holdsM {Q : Int → Mem → Prop} (w : WF 9999 g) (wd : WFD d a b c) (sg : stG3 a b c g) (hk : k < dn d) (h47 : 4 ≤ d 1 k ∧ d 1 k ≤ 7) (rd : RDm v 0 d) (r : RXh v g) (h1 : lvT d k g → Q 1 v) (h0 : ¬ lvT d k g → Q 0 v) : F_X12_holds v (80 + 6 * (k : Int)) Q := by
  obtain ⟨n8, nc⟩ := gn8 w
  obtain ⟨m4, mc⟩ := gm4 w
  have we := wd.2.2.2.2.2.2.1 k hk
  have d60 : dn d ≤ 60 := by have := wd.2.2.2.2.1; unfold dn; omega
  have ka := kc_all ⟨we.1, we.2.1⟩
  obtain ⟨r0, r1, r2, r4, r5⟩ := rd.at hk
  have sg' := sg
  unfold stG3 at sg'
  have i0 : (80 + 6 * (k : Int)).toNat = 80 + 6 * k := by omega
  have i1 : (80 + 6 * (k : Int) + 1).toNat = 80 + 6 * k + 1 := by omega
  have i2 : (80 + 6 * (k : Int) + 2).toNat = 80 + 6 * k + 2 := by omega
  have i5 : (80 + 6 * (k : Int) + 5).toNat = 80 + 6 * k + 5 := by omega
  unfold lvT at h1 h0
  unfold F_X12_holds
  rw [i0, i1, i2, i5, r0, r5, r2]
  have fin : ∀ (x : Int), (cmpP x (d 4 k) (d 3 k) → Q 1 v) → (¬ cmpP x (d 4 k) (d 3 k) → Q 0 v) → ((¬ (d 4 k = 60) → ((¬ (d 4 k = 62) → (InR ((80 + 6 * (k : Int)) + 2) ∧ ((0 ≤ ((80 + 6 * (k : Int)) + 2) ∧ ((80 + 6 * (k : Int)) + 2) < 3008) ∧ ((¬ (x = d 3 k) → Q 0 v) ∧ (x = d 3 k → Q 1 v))))) ∧ (d 4 k = 62 → (InR ((80 + 6 * (k : Int)) + 2) ∧ ((0 ≤ ((80 + 6 * (k : Int)) + 2) ∧ ((80 + 6 * (k : Int)) + 2) < 3008) ∧ ((x ≤ d 3 k → Q 0 v) ∧ (¬ (x ≤ d 3 k) → Q 1 v))))))) ∧ (d 4 k = 60 → (InR ((80 + 6 * (k : Int)) + 2) ∧ ((0 ≤ ((80 + 6 * (k : Int)) + 2) ∧ ((80 + 6 * (k : Int)) + 2) < 3008) ∧ ((d 3 k ≤ x → Q 0 v) ∧ (¬ (d 3 k ≤ x) → Q 1 v)))))) := by
    intro x q1 q0
    unfold cmpP at q1 q0
    refine ⟨fun c1 => ⟨fun c2 => ⟨⟨by omega, by omega⟩, ⟨by omega, by omega⟩, fun c3 => q0 ?_, fun c3 => q1 ?_⟩, fun c2 => ⟨⟨by omega, by omega⟩, ⟨by omega, by omega⟩, fun c3 => q0 ?_, fun c3 => q1 ?_⟩⟩, fun c1 => ⟨⟨by omega, by omega⟩, ⟨by omega, by omega⟩, fun c3 => q0 ?_, fun c3 => q1 ?_⟩⟩
    · rw [if_neg c1, if_neg c2]; exact c3
    · rw [if_neg c1, if_neg c2]; exact c3
    · rw [if_neg c1, if_pos c2]; omega
    · rw [if_neg c1, if_pos c2]; omega
    · rw [if_pos c1]; omega
    · rw [if_pos c1]; omega
  refine ⟨⟨by omega, by omega⟩, ⟨by omega, by omega⟩, fun x4 e4 => ⟨⟨by omega, by omega⟩, ⟨by omega, by omega⟩, fun x8 e8 => ?_⟩⟩
  subst e4
  refine ⟨fun n12 => ⟨fun n22 => ⟨fun n13 => ?_, fun y13 => ?_⟩, fun y22 => ?_⟩, fun y12 => ?_⟩
  · have k0 : d 1 k = 7 := by omega
    rw [if_neg (by omega), if_neg (by omega), if_neg (by omega)] at h1 h0
    have rg := we.2.2.2.2.2.2.2.1 k0
    rw [r1 (by omega)] at e8
    subst e8
    refine q_millOf (t := (d 2 k).toNat) (k := 2) (by omega) rfl (by omega) (by omega) ?_
    have km : v 162 (68 + 3 * (d 2 k).toNat + 2) = g 10 (d 2 k).toNat := r.1.2.2 _ 2 (by omega) (by omega)
    rw [km, r5, r2]
    exact ⟨⟨by omega, by omega⟩, ⟨by omega, by omega⟩, fin _ h1 h0⟩
  · have k0 : d 1 k = 6 := by omega
    rw [if_neg (by omega), if_neg (by omega), if_pos k0] at h1 h0
    rw [r.1.1 6 (by omega) (by omega)]
    exact ⟨⟨by omega, by omega⟩, ⟨by omega, by omega⟩, fin _ h1 h0⟩
  · have k0 : d 1 k = 5 := by omega
    rw [if_neg (by omega), if_pos k0] at h1 h0
    rw [r1 (by omega)] at e8
    subst e8
    rw [r.1.1 7 (by omega) (by omega)]
    exact ⟨h0, h1⟩
  · have k0 : d 1 k = 4 := by omega
    rw [if_pos k0] at h1 h0
    have rg := we.2.2.2.2.1 (Or.inr k0)
    rw [r1 (by omega)] at e8
    subst e8
    refine q_thingOf (t := (d 2 k).toNat) (k := 3) (by omega) rfl (by omega) (by omega) ?_
    have km : v 162 (12 + 7 * (d 2 k).toNat + 3) = g 4 (d 2 k).toNat := r.1.2.1 _ 3 (by omega) (by omega) (fun q => absurd q (by omega))
    rw [km]
    exact ⟨h0, h1⟩
end LM1
