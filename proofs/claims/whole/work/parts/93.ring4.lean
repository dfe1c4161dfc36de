/-! ring: the reference's search; the call -/
theorem q_ringing {h h0 : Mem} {g : Gs} {i0 : Nat} {r : Int} {Q : Int → Mem → Prop} (w : WF 9999 g) (rE : ringE g i0 r) (rx : RXh h g) (kp : KP h0 h) (hQ : ∀ u, KP h0 u → Q r u) : F_X12_ringing h Q := by
  have e : ∀ a b, gn (passN a g) = gn (passN b g) := fun a b => by rw [gn_passN, gn_passN]
  obtain ⟨nd, hit⟩ := rE
  have i01 : i0 ≤ 201 := by rcases hit with z | z <;> omega
  have i00 : 1 ≤ i0 := by
    rcases hit with z | ⟨_, j0, z, _⟩ <;> omega
  have n8 := w.nm.1
  -- a hour's row is written
  have stand : ∀ (i : Nat) (v : Mem) (P : Mem → Prop), i ≤ 200 → RXh v (passN i g) → KP h0 v → (∀ k, 12 ≤ k → k < 68 → 12 + 7 * gn g ≤ k → v 162 k = h 162 k) → (∀ j, j < i → ∀ k, k < 25 → v 170 (25 * j + k) = stG h (passN j g) k) →
      (∀ u, RXh u (passN i g) → KP h0 u → (∀ k, 12 ≤ k → k < 68 → 12 + 7 * gn g ≤ k → u 162 k = h 162 k) → (∀ j, j ≤ i → ∀ k, k < 25 → u 170 (25 * j + k) = stG h (passN j g) k) → P u) → F_X12_stands v (i : Int) P := by
    intro i v P hi rv kv fr row K
    have wi := w.passN i
    have ws := wi.1
    unfold WFs at ws
    have e6 := rv.1.1 6 (by omega) (by omega)
    have e7 := rv.1.1 7 (by omega) (by omega)
    refine q_stands hi (by omega) (by omega) (fun u eu fu => K u (rv.fr wi.nm.1 wi.nm.2 (fun k _ => fu 162 k (by omega))) ⟨fun k hk => by rw [fu 162 _ (by omega)]; exact kv.1 k hk, fun k => by rw [fu 163 k (by omega)]; exact kv.2.1 k, kv.2.2.tr (fun o k q1 q2 q3 q4 => fu o k (by omega))⟩ (fun k k1 k2 k3 => by rw [fu 162 k (by omega)]; exact fr k k1 k2 k3) (fun j hj k hk => ?_))
    by_cases c : j = i
    · subst c
      rw [eu k hk]
      exact stG_ok (by rw [gn_passN]; exact n8) rv.1 (fun k k1 k2 k3 => fr k k1 k2 (by rw [gn_passN] at k3; exact k3)) k hk
    · rw [fu 170 _ (by omega)]
      exact row j (by omega) k hk
  have sims : ∀ a b : Nat, (∀ k, k < 25 → stG h (passN a g) k = stG h (passN b g) k) ↔ simG (passN a g) (passN b g) := fun a b => stG_sim (w.passN a) (w.passN b) (e a b)
  have inner : ∀ (i : Nat), 1 ≤ i → i ≤ 200 → ∀ (d k : Nat) (z : Int) (v : Mem), z = (k : Int) → k + d = i → KP h0 v → (∀ j, j ≤ i → ∀ k, k < 25 → v 170 (25 * j + k) = stG h (passN j g) k) →
      ((∀ j, k ≤ j → j < i → ¬ simG (passN j g) (passN i g)) → L_X12_ringing_7 v ((i : Int) + 1) Q) → (∀ j, k ≤ j → j < i → simG (passN j g) (passN i g) → (∀ j2, k ≤ j2 → j2 < j → ¬ simG (passN j2 g) (passN i g)) → r = (i : Int) - (j : Int)) → L_X12_ringing_26 v (i : Int) z Q := by
    intro i h1 hi d
    induction d with
    | zero =>
      intro k z v hz hk kv row K1 K2
      subst hz
      refine l_X12_ringing_26 ?_
      unfold B_X12_ringing_26
      exact ⟨fun _ => ⟨⟨by omega, by omega⟩, K1 (fun j j1 j2 => absurd j2 (by omega))⟩, fun c => absurd (by omega) c⟩
    | succ d ih =>
      intro k z v hz hk kv row K1 K2
      subst hz
      refine l_X12_ringing_26 ?_
      unfold B_X12_ringing_26
      refine ⟨fun c => absurd c (by omega), fun _ => q_areAlike (by omega) (by omega) (row k (by omega)) (row i (by omega)) (fun s => ⟨fun z => absurd z (by decide), fun _ => ⟨⟨by omega, by omega⟩, ?_⟩⟩) (fun s => ⟨fun _ => ⟨⟨by omega, by omega⟩, ?_⟩, fun z => absurd rfl z⟩)⟩
      · have er := K2 k (by omega) (by omega) ((sims k i).mp s) (fun j2 a b => absurd b (by omega))
        rw [← er]
        exact hQ v kv
      · have no : ¬ simG (passN k g) (passN i g) := fun z => s ((sims k i).mpr z)
        refine ih (k + 1) _ v (by omega) (by omega) kv row (fun a => K1 (fun j j1 j2 => ?_)) (fun j j1 j2 s2 n => K2 j (by omega) j2 s2 (fun j3 a b => ?_))
        · by_cases c : j = k
          · subst c; exact no
          · exact a j (by omega) j2
        · by_cases c : j3 = k
          · subst c; exact no
          · exact n j3 (by omega) b
  have key : ∀ (d i : Nat) (z : Int) (v : Mem), z = (i : Int) + 1 → i + 1 + d = i0 → RXh v (passN i g) → KP h0 v → (∀ k, 12 ≤ k → k < 68 → 12 + 7 * gn g ≤ k → v 162 k = h 162 k) → (∀ j, j ≤ i → ∀ k, k < 25 → v 170 (25 * j + k) = stG h (passN j g) k) → L_X12_ringing_7 v z Q := by
    have hour : ∀ (i : Nat) (v : Mem), i + 1 ≤ 200 → RXh v (passN i g) → KP h0 v → (∀ k, 12 ≤ k → k < 68 → 12 + 7 * gn g ≤ k → v 162 k = h 162 k) → (∀ j, j ≤ i → ∀ k, k < 25 → v 170 (25 * j + k) = stG h (passN j g) k) →
        (∀ u, RXh u (passN (i + 1) g) → KP h0 u → (∀ k, 12 ≤ k → k < 68 → 12 + 7 * gn g ≤ k → u 162 k = h 162 k) → (∀ j, j ≤ i + 1 → ∀ k, k < 25 → u 170 (25 * j + k) = stG h (passN j g) k) → L_X12_ringing_26 u ((i + 1 : Nat) : Int) 0 Q) → L_X12_ringing_7 v ((i + 1 : Nat) : Int) Q := by
      intro i v hi rv kv fr row K
      refine l_X12_ringing_7 ?_
      unfold B_X12_ringing_7
      refine ⟨fun c => absurd c (by omega), fun _ => q_hourR rv (w.passN i) (by omega) (fun u ru fu fr2 => ?_)⟩
      rw [← passN_s] at ru
      have cnt : (v 162 0).toNat = gn g := by rw [rv.1.cnt, gn_passN]
      exact stand (i + 1) u _ hi ru (kv.fm fu) (fun k k1 k2 k3 => (fr2 k (Or.inr ⟨k1, k2, by omega⟩)).trans (fr k k1 k2 k3)) (fun j hj k hk => by rw [fu 170 _ (by omega)]; exact row j (by omega) k hk) K
    intro d
    induction d with
    | zero =>
      intro i z v hz hi rv kv fr row
      subst hz
      obtain rfl : i0 = i + 1 := by omega
      rcases hit with ⟨h1, h2⟩ | ⟨h1, j0, h2, h3, h4⟩
      · refine l_X12_ringing_7 ?_
        unfold B_X12_ringing_7
        have q := hQ v kv
        rw [h2] at q
        exact ⟨fun _ => q, fun c => absurd (by omega) c⟩
      · exact hour i v h1 rv kv fr row (fun u ru ku fu row2 => inner (i + 1) (by omega) h1 (i + 1) 0 _ u rfl (by omega) ku row2 (fun a => absurd h3 (a j0 (by omega) h2)) (fun j _ hj s _ => by
          rw [ringE_one nd hj h2 h3 s]
          exact h4))
    | succ d ih =>
      intro i z v hz hi rv kv fr row
      subst hz
      exact hour i v (by omega) rv kv fr row (fun u ru ku fu row2 => inner (i + 1) (by omega) (by omega) (i + 1) 0 _ u rfl (by omega) ku row2 (fun _ => ih (i + 1) _ u rfl (by omega) ru ku fu row2) (fun j _ hj s _ => absurd s (nd j (i + 1) hj (by omega))))
  unfold F_X12_ringing
  exact stand 0 h _ (by omega) rx kp (fun k _ _ _ => rfl) (fun j hj => absurd hj (by omega)) (fun u ru ku fu row => key (i0 - 1) 0 1 u rfl (by omega) ru ku fu row)
theorem k_ring {h : Mem} {g : Gs} (s : G2 h g) {Q : Int → Int → Mem → Prop} (hQ : ∀ r u1 u g', G2 u g' → Mo g g' → UX h u1 → UM u1 u → Q r r u) : F_X11_ring h (fun r1 h1 => F_X12_ring h1 (fun r2 h2 => Q r1 r2 h2)) := by
  have w := s.1
  obtain ⟨i0, r, rE⟩ := ringE_ex g
  refine Kp.mk (FX := F_X11_ring h) (FM := F_X12_ring) (g' := g) (st := if r = -1 then 6 else 0) (r := r) s w (fun Q hQ => ?_) (fun h1 rx rn Q hQ => ?_) hQ
  · unfold F_X11_ring
    exact x_try w s.2.1 (fun u ru r2 fu => s_ringOf w rE ru r2 (fun v rv fv => x_orNone (fu.tr fv) rv hQ))
  · unfold F_X12_ring
    exact m_keep2 w rx (fun u ru ku => q_ringing w rE ru ku (fun v kv => m_rest w rx kv (fun z rz kz _ => m_orNone kz.2.2 w.nm rz (rn.fr kz.2.1) hQ)))
