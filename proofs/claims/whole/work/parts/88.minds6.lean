/-! minded, mindedAt, ask: the two sides -/
theorem x_swap {A B : Prop} (z : A ∧ B) : B ∧ A := ⟨z.2, z.1⟩
theorem k_minded {h : Mem} {g : Gs} {a b c : Int} (s : G2 h g) (tr : TR h) {Q : Int → Int → Mem → Prop} (hQ : ∀ r u1 u g', G2 u g' → Mo g g' → UX h u1 → UM u1 u → Q r r u) : F_X11_minded h a b c (fun r1 h1 => F_X12_minded h1 a b c (fun r2 h2 => Q r1 r2 h2)) :=
  k_mindG (a := a) (b := b) (c := c) (FX := F_X11_minded h a b c) (FM := fun h1 => F_X12_minded h1 a b c) s tr (fun u Q => F_X0_countMinds u (fun r6 h5 => F_X11_given h5 r6 Q)) (fun u Q => F_X12_gives u (u 161 30) Q) (st := 0)
    (fun _ z => z) (fun _ _ z => z)
    (fun u Q row ru fu hQ => s_countMinds row (x_given fu ru hQ))
    (fun h1 u Q row ru rn fu e30 hQ => by
      show F_X12_gives u (u 161 30) Q
      rw [e30]
      exact m_gives fu s.1.nm ru rn hQ) hQ
theorem k_mindedAt {h : Mem} {g : Gs} {a b c d : Int} (s : G2 h g) (tr : TR h) {Q : Int → Int → Mem → Prop} (hQ : ∀ r u1 u g', G2 u g' → Mo g g' → UX h u1 → UM u1 u → Q r r u) : F_X11_mindedAt h a b c d (fun r1 h1 => F_X12_mindedAt h1 a b c d (fun r2 h2 => Q r1 r2 h2)) := by
  by_cases cd : 0 ≤ d ∧ d ≤ 1
  · have XX : ∀ Q : Int → Mem → Prop, F_X11_whyNotMinded h a b c (fun r u => (¬ (r = 0) → F_X11_refused u r Q) ∧ (r = 0 → ((¬ (d = 0) → (F_X0_greatestMind u (fun r6 h5 => (F_X11_givenOrNone h5 r6 Q)))) ∧ (d = 0 → (F_X0_leastMind u (fun r10 h9 => (F_X11_givenOrNone h9 r10 Q))))))) → F_X11_mindedAt h a b c d Q := fun Q z => by
      unfold F_X11_mindedAt
      refine x_outside (fun q => absurd cd q) (fun _ => ⟨fun _ => ?_, fun q => absurd rfl q⟩)
      have e1 : (fun (r : Int) (u : Mem) => (r = 0 → ((¬ (d = 0) → (F_X0_greatestMind u (fun r6 h5 => (F_X11_givenOrNone h5 r6 (fun r8 h7 => Q r8 h7))))) ∧ (d = 0 → (F_X0_leastMind u (fun r10 h9 => (F_X11_givenOrNone h9 r10 (fun r12 h11 => Q r12 h11))))))) ∧ (¬ (r = 0) → F_X11_refused u r (fun r14 h13 => Q r14 h13))) = (fun (r : Int) (u : Mem) => (¬ (r = 0) → F_X11_refused u r Q) ∧ (r = 0 → ((¬ (d = 0) → (F_X0_greatestMind u (fun r6 h5 => (F_X11_givenOrNone h5 r6 Q)))) ∧ (d = 0 → (F_X0_leastMind u (fun r10 h9 => (F_X11_givenOrNone h9 r10 Q))))))) := by
        funext r u
        exact propext ⟨x_swap, x_swap⟩
      rw [e1]
      exact z
    have MM : ∀ h1 (Q : Int → Mem → Prop), F_X12_wrongMinded h1 a b c (fun r u => (r ≤ 0 → F_X12_laysMinds u a b c (fun h3 => (¬ ((h3 161 30) = 0) → ((¬ (d = 0) → L_X12_mindedAt_70 h3 d 24 Q) ∧ (d = 0 → L_X12_mindedAt_70 h3 d 1 Q))) ∧ ((h3 161 30) = 0 → (F_X12_refuse h3 6 Q)))) ∧ (¬ (r ≤ 0) → F_X12_refuse u r Q)) → F_X12_mindedAt h1 a b c d Q := fun h1 Q z => by
      unfold F_X12_mindedAt
      exact ⟨fun q => absurd cd.1 (by omega), fun _ => ⟨fun _ => z, fun q => absurd cd.2 q⟩⟩
    have cI := cm_in (F := fun i => ft g a.toNat i (fun k => h (5 + b.toNat) k) c.toNat) 24
    have cy := cm_yes (F := fun i => ft g a.toNat i (fun k => h (5 + b.toNat) k) c.toNat) 24
    have cn := cm_no (F := fun i => ft g a.toNat i (fun k => h (5 + b.toNat) k) c.toNat) 24
    by_cases d0 : d = 0
    · subst d0
      refine k_mindG (a := a) (b := b) (c := c) (FX := F_X11_mindedAt h a b c 0) (FM := fun h1 => F_X12_mindedAt h1 a b c 0) s tr _ _ (st := if lm (fun i => ft g a.toNat i (fun k => h (5 + b.toNat) k) c.toNat) 24 1 = -1 then 6 else 0) (r := lm (fun i => ft g a.toNat i (fun k => h (5 + b.toNat) k) c.toNat) 24 1) XX MM (fun u Q row ru fu hQ => ⟨fun q => absurd rfl q, fun _ => s_leastMind row (x_orNone fu ru hQ)⟩) (fun h1 u Q row ru rn fu e30 hQ => ?_) hQ
      refine ⟨fun c1 => ⟨fun q => absurd rfl q, fun _ => ?_⟩, fun c1 => ?_⟩
      · have no : lm (fun i => ft g a.toNat i (fun k => h (5 + b.toNat) k) c.toNat) 24 1 ≠ -1 := fun z => c1 (by
          rw [e30]
          exact cn (fun i h1 h2 => lm_no 24 1 z i h1 (by omega)))
        rw [if_neg no] at hQ
        exact q_leastMind row no (m_gives fu s.1.nm ru rn hQ)
      · rw [e30] at c1
        have yes := lm_all 24 1 (fun i h1 h2 => cy c1 i h1 (by omega))
        rw [if_pos yes, yes] at hQ
        exact m_refuse fu s.1.nm ru rn hQ
    · obtain rfl : d = 1 := by omega
      refine k_mindG (a := a) (b := b) (c := c) (FX := F_X11_mindedAt h a b c 1) (FM := fun h1 => F_X12_mindedAt h1 a b c 1) s tr _ _ (st := if gmn (fun i => ft g a.toNat i (fun k => h (5 + b.toNat) k) c.toNat) 24 = -1 then 6 else 0) (r := gmn (fun i => ft g a.toNat i (fun k => h (5 + b.toNat) k) c.toNat) 24) XX MM (fun u Q row ru fu hQ => ⟨fun _ => s_greatestMind row (x_orNone fu ru hQ), fun q => absurd q d0⟩) (fun h1 u Q row ru rn fu e30 hQ => ?_) hQ
      refine ⟨fun c1 => ⟨fun _ => ?_, fun q => absurd q d0⟩, fun c1 => ?_⟩
      · have no : gmn (fun i => ft g a.toNat i (fun k => h (5 + b.toNat) k) c.toNat) 24 ≠ -1 := fun z => c1 (by
          rw [e30]
          exact cn (fun i h1 h2 => gmn_no 24 z i h1 h2))
        rw [if_neg no] at hQ
        exact q_greatestMind row no (m_gives fu s.1.nm ru rn hQ)
      · rw [e30] at c1
        have yes := gmn_all 24 (fun i h1 h2 => cy c1 i h1 h2)
        rw [if_pos yes, yes] at hQ
        exact m_refuse fu s.1.nm ru rn hQ
  · refine k_no1 (FX := F_X11_mindedAt h a b c d) (FM := fun h1 => F_X12_mindedAt h1 a b c d) s (fun Q z => ?_) (fun h1 Q z => ?_) hQ
    · unfold F_X11_mindedAt
      exact x_outside (fun _ => ⟨fun q => absurd q (by decide), fun _ => z⟩) (fun q => absurd q cd)
    · unfold F_X12_mindedAt
      exact ⟨fun _ => z, fun q1 => ⟨fun q2 => absurd ⟨by omega, q2⟩ cd, fun _ => z⟩⟩
theorem k_ask {h : Mem} {g : Gs} {a b c : Int} (s : G2 h g) (tr : TR h) {Q : Int → Int → Mem → Prop} (hQ : ∀ r u1 u g', G2 u g' → Mo g g' → UX h u1 → UM u1 u → Q r r u) : F_X11_ask h a b c (fun r1 h1 => F_X12_ask h1 a b c (fun r2 h2 => Q r1 r2 h2)) := by
  have cI := cm_in (F := fun i => ft g a.toNat i (fun k => h (5 + b.toNat) k) c.toNat) 24
  have a0 := ask_0 (F := fun i => ft g a.toNat i (fun k => h (5 + b.toNat) k) c.toNat) (T := trn g a.toNat)
  refine k_mindG (a := a) (b := b) (c := c) (FX := F_X11_ask h a b c) (FM := fun h1 => F_X12_ask h1 a b c) s tr (fun u Q => F_X0_bestQuestion u (fun r4 h3 => F_X11_givenOrNone h3 r4 Q)) (fun h3 Q => (2 ≤ (h3 161 30) → L_X12_ask_54 h3 (-1) 1000000 0 Q) ∧ (¬ (2 ≤ (h3 161 30)) → (F_X12_refuse h3 6 Q)))
    (st := if cm (fun i => ft g a.toNat i (fun k => h (5 + b.toNat) k) c.toNat) 24 < 2 then 6 else 0) (r := if cm (fun i => ft g a.toNat i (fun k => h (5 + b.toNat) k) c.toNat) 24 < 2 then -1 else (askF (fun i => ft g a.toNat i (fun k => h (5 + b.toNat) k) c.toNat) (trn g a.toNat) 61 0 (cm (fun i => ft g a.toNat i (fun k => h (5 + b.toNat) k) c.toNat) 24 + 1, -1)).2)
    (fun Q z => ?_) (fun _ _ z => z) (fun u Q row ru fu hQ => s_bestQuestion row (fun c1 => ?_) (fun c1 => ?_)) (fun h1 u Q row ru rn fu e30 hQ => ?_) hQ
  · unfold F_X11_ask
    have e1 : (fun (r : Int) (u : Mem) => (r = 0 → (F_X0_bestQuestion u (fun r4 h3 => (F_X11_givenOrNone h3 r4 (fun r6 h5 => Q r6 h5))))) ∧ (¬ (r = 0) → (F_X11_refused u r (fun r8 h7 => Q r8 h7)))) = (fun (r : Int) (u : Mem) => (¬ (r = 0) → F_X11_refused u r Q) ∧ (r = 0 → (F_X0_bestQuestion u (fun r4 h3 => F_X11_givenOrNone h3 r4 Q)))) := by
      funext r u
      exact propext ⟨x_swap, x_swap⟩
    rw [e1]
    exact z
  · rw [if_pos c1, if_pos c1] at hQ
    exact x_orNone fu ru (fun v a b c => hQ v a b c)
  · rw [if_neg (by omega), if_neg (by omega)] at hQ
    refine x_orNone fu ru (fun v a b c => hQ v a ?_ c)
    rw [b, if_neg (by omega)]
  · show (2 ≤ (u 161 30) → L_X12_ask_54 u (-1) 1000000 0 Q) ∧ (¬ (2 ≤ (u 161 30)) → (F_X12_refuse u 6 Q))
    refine ⟨fun c1 => ?_, fun c1 => ?_⟩
    · rw [e30] at c1
      rw [if_neg (by omega), if_neg (by omega)] at hQ
      exact q_ask row e30 (m_gives fu s.1.nm ru rn hQ)
    · rw [e30] at c1
      rw [if_pos (by omega), if_pos (by omega)] at hQ
      exact m_refuse fu s.1.nm ru rn hQ
