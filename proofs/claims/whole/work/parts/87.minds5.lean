/-! minded, mindedAt, ask: the calls -/
theorem lay_tray : ∀ k, k < 4 → lay (5 + k) = (2, 60) := by decide
theorem s_canBeSeen {h : Mem} {o n : Nat} {Q : Int → Mem → Prop} (ho : lay o = (2, 60)) (hn : n ≤ 20) (h1 : okSeen (fun k => h o k) n → Q 1 h) (h0 : ¬ okSeen (fun k => h o k) n → Q 0 h) : F_X0_canBeSeen h o (n : Int) Q := by
  unfold F_X0_canBeSeen
  have key : ∀ (d i : Nat) (z : Int), z = (i : Int) → i + d = n → okSeen (fun k => h o k) i → L_X0_canBeSeen_2 h o (n : Int) z Q := by
    intro d
    induction d with
    | zero =>
      intro i z hz hi ok
      subst hz
      obtain rfl : i = n := by omega
      refine l_X0_canBeSeen_2 ho ?_
      unfold B_X0_canBeSeen_2
      exact ⟨fun _ => h1 ok, fun c => absurd (by omega) c⟩
    | succ d ih =>
      intro i z hz hi ok
      subst hz
      refine l_X0_canBeSeen_2 ho ?_
      unfold B_X0_canBeSeen_2
      have e1 : (2 * (i : Int)).toNat = 2 * i := by omega
      have e2 : (2 * (i : Int) + 1).toNat = 2 * i + 1 := by omega
      have no : ¬ (0 ≤ h o (2 * i) ∧ h o (2 * i) ≤ 60 ∧ 0 ≤ h o (2 * i + 1) ∧ h o (2 * i + 1) ≤ 1) → Q 0 h := fun c => h0 (fun q => c (q i (by omega)))
      refine ⟨fun c => absurd c (by omega), fun _ => ⟨⟨by omega, by omega⟩, ⟨by omega, by omega⟩, fun x4 e4 => ⟨⟨by omega, by omega⟩, ⟨by omega, by omega⟩, fun x8 e8 => ?_⟩⟩⟩
      rw [e1] at e4
      rw [e2] at e8
      subst e4 e8
      refine ⟨fun c => no (by omega), fun c1 => ⟨fun c => no (by omega), fun c2 => ⟨fun c => no (by omega), fun c3 => ⟨fun c4 => ⟨⟨by omega, by omega⟩, ih (i + 1) _ (by omega) (by omega) (fun j hj => ?_)⟩, fun c => no (by omega)⟩⟩⟩⟩
      by_cases cj : j = i
      · subst cj
        have q : 0 ≤ h o (2 * j) ∧ h o (2 * j) ≤ 60 ∧ 0 ≤ h o (2 * j + 1) ∧ h o (2 * j + 1) ≤ 1 := ⟨by omega, by omega, by omega, by omega⟩
        exact q
      · exact ok j (by omega)
  exact key n 0 0 rfl (by omega) (fun j hj => absurd hj (by omega))
def md1 (g : Gs) (a b c : Int) : Prop := (0 ≤ a ∧ a < g 0 0) ∧ (0 ≤ c ∧ c ≤ 20) ∧ (0 ≤ b ∧ b < 4)
theorem s_whyMinded {h : Mem} {g : Gs} {a b c : Int} {P : Int → Mem → Prop} (w : WF 9999 g) (r12 : RC h 12 g) (h1 : ¬ md1 g a b c → P 1 h) (h2 : md1 g a b c → h 2 b.toNat = -1 → P 2 h) (h3 : md1 g a b c → h 2 b.toNat ≠ -1 → ¬ (2 * c ≤ h 3 b.toNat) → P 3 h) (h5 : md1 g a b c → h 2 b.toNat ≠ -1 → 2 * c ≤ h 3 b.toNat → ¬ okSeen (fun k => h (5 + b.toNat) k) c.toNat → P 5 h) (h0 : md1 g a b c → h 2 b.toNat ≠ -1 → 2 * c ≤ h 3 b.toNat → okSeen (fun k => h (5 + b.toNat) k) c.toNat → ∀ v, RC v 12 g → UX h v → mdRow g a.toNat (fun k => h (5 + b.toNat) k) c.toNat 25 v → P 0 v) : F_X11_whyNotMinded h a b c P := by
  obtain ⟨n8, nc⟩ := gn8 w
  unfold F_X11_whyNotMinded F_X11_whyTooFew F_X10_isTray F_X10_isMissing
  refine x_isThing r12 (fun q => ⟨fun _ => h1 (fun z => q z.1), fun z => absurd rfl z⟩) (fun q1 => ⟨fun z => absurd z (by decide), fun _ => x_outside (fun q => ⟨fun z => absurd z (by decide), fun _ => h1 (fun z => q z.2.1)⟩) (fun q2 => ⟨fun _ => ⟨⟨by omega, by omega⟩, ?_⟩, fun z => absurd rfl z⟩)⟩)
  refine ⟨fun b1 => ⟨fun z => absurd rfl z, fun _ => ⟨fun z => absurd z (by decide), fun _ => h1 (fun z => by unfold md1 at z; omega)⟩⟩, fun b1 => ⟨fun b2 => ⟨fun z => absurd rfl z, fun _ => ⟨fun z => absurd z (by decide), fun _ => h1 (fun z => by unfold md1 at z; omega)⟩⟩, fun b2 => ⟨fun _ => ?_, fun z => absurd z (by decide)⟩⟩⟩
  have ok : md1 g a b c := ⟨q1, q2, by omega, by omega⟩
  obtain ⟨t, rfl⟩ : ∃ k : Nat, a = k := ⟨a.toNat, by omega⟩
  obtain ⟨i, rfl⟩ : ∃ k : Nat, b = k := ⟨b.toNat, by omega⟩
  obtain ⟨n, rfl⟩ : ∃ k : Nat, c = k := ⟨c.toNat, by omega⟩
  have h2' := h2 ok
  have h3' := h3 ok
  have h5' := h5 ok
  have h0' := h0 ok
  rw [Int.toNat_natCast] at h2' h3'
  rw [Int.toNat_natCast, Int.toNat_natCast] at h5'
  rw [Int.toNat_natCast, Int.toNat_natCast, Int.toNat_natCast] at h0'
  have e4 : 4 + 1 + 1 * i = 5 + i := by omega
  rw [Int.toNat_natCast, e4]
  refine ⟨⟨by omega, by omega⟩, fun m => ⟨fun _ => ⟨⟨by omega, by omega⟩, fun d => ⟨fun _ => ⟨⟨by omega, by omega⟩, s_canBeSeen (lay_tray i (by omega)) (by omega) (fun s1 => ⟨fun _ => ?_, fun z => absurd z (by decide)⟩) (fun s1 => ⟨fun z => absurd rfl z, fun _ => h5' m d s1⟩)⟩, fun z => absurd rfl z⟩, fun d => ⟨fun z => absurd z (by decide), fun _ => h3' m d⟩⟩, fun z => absurd rfl z⟩, fun m => ⟨fun z => absurd z (by decide), fun _ => ⟨fun z => absurd z (by decide), fun _ => h2' m⟩⟩⟩
  exact s_findMinds w (by omega) (by omega) (lay_tray i (by omega)) (by omega) s1 r12 (fun v rv fv row => h0' m d s1 v rv fv row)
theorem q_wrongMinded {h : Mem} {g : Gs} {a b c m l : Int} {S : Nat → Int} {P : Int → Mem → Prop} (w : WF 9999 g) (rx : RXh h g) (em : md1 g a b c → (h 165 b.toNat = -1 ↔ m = -1)) (el : md1 g a b c → m ≠ -1 → h 165 b.toNat = l ∧ l ≤ 60) (eS : md1 g a b c → m ≠ -1 → ∀ k : Nat, (k : Int) < l → h 166 (60 * b.toNat + k) = S k) (h1 : ¬ md1 g a b c → P 1 h) (h2 : md1 g a b c → m = -1 → P 2 h) (h3 : md1 g a b c → m ≠ -1 → ¬ (2 * c ≤ l) → P 3 h) (h5 : md1 g a b c → m ≠ -1 → 2 * c ≤ l → ¬ okSeen S c.toNat → P 5 h) (h0 : md1 g a b c → m ≠ -1 → 2 * c ≤ l → okSeen S c.toNat → P 0 h) : F_X12_wrongMinded h a b c P := by
  obtain ⟨n8, nc⟩ := gn8 w
  unfold F_X12_wrongMinded F_X12_isTray
  refine m_isThing rx (fun q => ⟨fun _ => h1 (fun z => q z.1), fun z => absurd rfl z⟩) (fun q1 => ⟨fun z => absurd z (by decide), fun _ => ?_⟩)
  refine ⟨fun b1 => ⟨fun _ => h1 (fun z => by unfold md1 at z; omega), fun z => absurd rfl z⟩, fun b1 => ⟨fun b2 => ⟨fun _ => h1 (fun z => by unfold md1 at z; omega), fun z => absurd rfl z⟩, fun b2 => ⟨fun z => absurd z (by decide), fun _ => m_isFrom (fun q => ⟨fun z => absurd rfl z, fun _ => h1 (fun z => q z.2.1)⟩) (fun q2 => ⟨fun _ => ?_, fun z => absurd z (by decide)⟩)⟩⟩⟩
  have okm : md1 g a b c := ⟨q1, q2, by omega, by omega⟩
  obtain ⟨i, rfl⟩ : ∃ k : Nat, b = k := ⟨b.toNat, by omega⟩
  obtain ⟨n, rfl⟩ : ∃ k : Nat, c = k := ⟨c.toNat, by omega⟩
  have em' := em okm
  have el' := el okm
  have eS' := eS okm
  have h5' := h5 okm
  have h0' := h0 okm
  rw [Int.toNat_natCast] at em' el' eS' h5' h0'
  rw [Int.toNat_natCast]
  refine ⟨⟨by omega, by omega⟩, fun c3 => ⟨⟨by omega, by omega⟩, fun c4 => ?_, fun c4 => h3 okm (fun z => c3 (em'.mpr z)) ?_⟩, fun c3 => h2 okm (em'.mp c3)⟩
  · have m0 : m ≠ -1 := fun z => c3 (em'.mpr z)
    have ll := el' m0
    have SS := eS' m0
    have key : ∀ (d k : Nat) (z : Int), z = (k : Int) → k + d = n → okSeen S k → L_X12_wrongMinded_58 h (i : Int) (n : Int) z P := by
      intro d
      induction d with
      | zero =>
        intro k z hz hi ok
        subst hz
        obtain rfl : k = n := by omega
        refine l_X12_wrongMinded_58 ?_
        unfold B_X12_wrongMinded_58
        exact ⟨fun _ => h0' m0 (by omega) ok, fun c => absurd (by omega) c⟩
      | succ d ih =>
        intro k z hz hi ok
        subst hz
        refine l_X12_wrongMinded_58 ?_
        unfold B_X12_wrongMinded_58
        have e1 : (60 * (i : Int) + 2 * (k : Int)).toNat = 60 * i + 2 * k := by omega
        have e2 : (60 * (i : Int) + 2 * (k : Int) + 1).toNat = 60 * i + (2 * k + 1) := by omega
        have no : ¬ (0 ≤ S (2 * k) ∧ S (2 * k) ≤ 60 ∧ 0 ≤ S (2 * k + 1) ∧ S (2 * k + 1) ≤ 1) → P 5 h := fun c => h5' m0 (by omega) (fun q => c (q k (by omega)))
        refine ⟨fun c => absurd c (by omega), fun _ => ⟨⟨by omega, by omega⟩, ⟨by omega, by omega⟩, ⟨by omega, by omega⟩, fun x14 e14 => ?_⟩⟩
        subst e14
        rw [e1, e2, SS (2 * k) (by omega)]
        refine ⟨⟨by omega, by omega⟩, m_isFrom (fun q => ⟨fun _ => no (by omega), fun z => absurd rfl z⟩) (fun q3 => ⟨fun z => absurd z (by decide), fun _ => ⟨⟨by omega, by omega⟩, ⟨by omega, by omega⟩, ?_⟩⟩)⟩
        rw [SS (2 * k + 1) (by omega)]
        refine m_isFrom (fun q => ⟨fun z => absurd rfl z, fun _ => no (by omega)⟩) (fun q4 => ⟨fun _ => ⟨⟨by omega, by omega⟩, ih (k + 1) _ (by omega) (by omega) (fun j hj => ?_)⟩, fun z => absurd z (by decide)⟩)
        by_cases cj : j = k
        · subst cj
          exact ⟨by omega, by omega, by omega, by omega⟩
        · exact ok j (by omega)
    exact key n 0 0 rfl (by omega) (fun j hj => absurd hj (by omega))
  · have ll := el' (fun z => c3 (em'.mpr z))
    omega
theorem Kp.mk3 {FX : (Int → Mem → Prop) → Prop} {FM : Mem → (Int → Mem → Prop) → Prop} {h : Mem} {g g' : Gs} {st r : Int} (s : G2 h g) (w' : WF 9999 g')
    (X : ∀ Q : Int → Mem → Prop, (∀ u, RC u 12 g' → u 0 0 = st → UX h u → Q r u) → FX Q)
    (M : ∀ h1, UX h h1 → RXh h1 g → RN h1 g → ∀ Q : Int → Mem → Prop, (∀ u, RXh u g' → RN u g' → u 161 2 = st → UM h1 u → Q r u) → FM h1 Q)
    {Q : Int → Int → Mem → Prop} (hQ : ∀ r u1 u g', G2 u g' → Mo g g' → UX h u1 → UM u1 u → Q r r u) (mo : Mo g g' := by first | exact Mo.rf | assumption) : FX (fun r1 h1 => FM h1 (fun r2 h2 => Q r1 r2 h2)) := by
  obtain ⟨w, rc, rx, rn, e⟩ := s
  refine X _ (fun u1 rc1 e1 f1 => M u1 f1 (rx.ux w f1) (rn.ux f1) _ (fun u rx2 rn2 e2 f2 => hQ r u1 u g' ⟨w', rc1.um f2, rx2, rn2, ?_⟩ mo f1 f2))
  rw [e2, f2 0 0 (by omega) (by omega) (by omega) (by omega), e1]
theorem k_mindG {h : Mem} {g : Gs} {a b c : Int} (s : G2 h g) (tr : TR h) {FX : (Int → Mem → Prop) → Prop} {FM : Mem → (Int → Mem → Prop) → Prop} (XK MK : Mem → (Int → Mem → Prop) → Prop) {st r : Int}
    (X : ∀ Q : Int → Mem → Prop, F_X11_whyNotMinded h a b c (fun r u => (¬ (r = 0) → F_X11_refused u r Q) ∧ (r = 0 → XK u Q)) → FX Q)
    (M : ∀ h1 (Q : Int → Mem → Prop), F_X12_wrongMinded h1 a b c (fun r u => (r ≤ 0 → F_X12_laysMinds u a b c (fun h3 => MK h3 Q)) ∧ (¬ (r ≤ 0) → F_X12_refuse u r Q)) → FM h1 Q)
    (XG : ∀ u (Q : Int → Mem → Prop), mdRow g a.toNat (fun k => h (5 + b.toNat) k) c.toNat 25 u → RC u 12 g → UX h u → (∀ v, RC v 12 g → v 0 0 = st → UX h v → Q r v) → XK u Q)
    (MG : ∀ h1 u (Q : Int → Mem → Prop), mmRow g a.toNat (fun k => h (5 + b.toNat) k) c.toNat 25 u → RXh u g → RN u g → UM h1 u → u 161 30 = cm (fun i => ft g a.toNat i (fun k => h (5 + b.toNat) k) c.toNat) 24 → (∀ v, RXh v g → RN v g → v 161 2 = st → UM h1 v → Q r v) → MK u Q)
    {Q : Int → Int → Mem → Prop} (hQ : ∀ r u1 u g', G2 u g' → Mo g g' → UX h u1 → UM u1 u → Q r r u) : FX (fun r1 h1 => FM h1 (fun r2 h2 => Q r1 r2 h2)) := by
  have w := s.1
  have w1 := w.1
  unfold WFs at w1
  obtain ⟨n8, nc⟩ := gn8 w
  have em : ∀ h1, UX h h1 → md1 g a b c → (h1 165 b.toNat = -1 ↔ h 2 b.toNat = -1) := fun h1 f ok => by
    rw [f 165 _ (by omega) (by omega) (by omega) (by omega)]
    unfold md1 at ok
    have ti := tr b.toNat (by omega)
    omega
  have el : ∀ h1, UX h h1 → md1 g a b c → h 2 b.toNat ≠ -1 → h1 165 b.toNat = h 3 b.toNat ∧ h 3 b.toNat ≤ 60 := fun h1 f ok m => by
    rw [f 165 _ (by omega) (by omega) (by omega) (by omega)]
    unfold md1 at ok
    have ti := tr b.toNat (by omega)
    omega
  have eS : ∀ h1, UX h h1 → md1 g a b c → h 2 b.toNat ≠ -1 → ∀ k : Nat, (k : Int) < h 3 b.toNat → h1 166 (60 * b.toNat + k) = (fun k => h (5 + b.toNat) k) k := fun h1 f ok m k hk => by
    rw [f 166 _ (by omega) (by omega) (by omega) (by omega)]
    unfold md1 at ok
    rcases tr b.toNat (by omega) with z | ⟨_, _, _, _, _, _, z⟩
    · exact absurd z.1 m
    · exact (z k hk).symm
  by_cases ok : md1 g a b c
  · by_cases m : h 2 b.toNat = -1
    · refine Kp.mk3 (FX := FX) (FM := FM) (g' := g) (st := 2) (r := -1) s w (fun Q hQ => X Q ?_) (fun h1 f1 rx rn Q hQ => M h1 Q ?_) hQ
      · exact s_whyMinded w s.2.1 (fun z => absurd ok z) (fun _ _ => ⟨fun _ => x_refused UX.rf s.2.1 hQ, fun z => absurd z (by decide)⟩) (fun _ z => absurd m z) (fun _ z => absurd m z) (fun _ z => absurd m z)
      · exact q_wrongMinded w rx (em h1 f1) (el h1 f1) (eS h1 f1) (fun z => absurd ok z) (fun _ _ => ⟨fun z => absurd z (by decide), fun _ => m_refuse UM.rf w.nm rx rn hQ⟩) (fun _ z => absurd m z) (fun _ z => absurd m z) (fun _ z => absurd m z)
    · by_cases l : 2 * c ≤ h 3 b.toNat
      · by_cases sn : okSeen (fun k => h (5 + b.toNat) k) c.toNat
        · refine Kp.mk3 (FX := FX) (FM := FM) (g' := g) (st := st) (r := r) s w (fun Q hQ => X Q ?_) (fun h1 f1 rx rn Q hQ => M h1 Q ?_) hQ
          · exact s_whyMinded w s.2.1 (fun z => absurd ok z) (fun _ z => absurd z m) (fun _ _ z => absurd l z) (fun _ _ _ z => absurd sn z) (fun _ _ _ _ v rv fv row => ⟨fun z => absurd rfl z, fun _ => XG v Q row rv fv hQ⟩)
          · refine q_wrongMinded w rx (em h1 f1) (el h1 f1) (eS h1 f1) (fun z => absurd ok z) (fun _ z => absurd z m) (fun _ _ z => absurd l z) (fun _ _ _ z => absurd sn z) (fun _ _ _ _ => ⟨fun _ => ?_, fun z => absurd (by omega) z⟩)
            have eS' := eS h1 f1 ok m
            unfold md1 at ok
            have go : F_X12_laysMinds h1 ((a.toNat : Nat) : Int) ((b.toNat : Nat) : Int) ((c.toNat : Nat) : Int) (fun h3 => MK h3 Q) :=
              q_laysMinds w (by omega) (by omega) (by omega) (fun k hk => eS' k (by omega)) sn rx (fun v rv kv row e30 => MG h1 v Q row rv (rn.fr kv.2.1) kv.2.2 e30 hQ)
            rw [Int.toNat_of_nonneg (by omega), Int.toNat_of_nonneg (by omega), Int.toNat_of_nonneg (by omega)] at go
            exact go
        · refine Kp.mk3 (FX := FX) (FM := FM) (g' := g) (st := 5) (r := -1) s w (fun Q hQ => X Q ?_) (fun h1 f1 rx rn Q hQ => M h1 Q ?_) hQ
          · exact s_whyMinded w s.2.1 (fun z => absurd ok z) (fun _ z => absurd z m) (fun _ _ z => absurd l z) (fun _ _ _ _ => ⟨fun _ => x_refused UX.rf s.2.1 hQ, fun z => absurd z (by decide)⟩) (fun _ _ _ z => absurd z sn)
          · exact q_wrongMinded w rx (em h1 f1) (el h1 f1) (eS h1 f1) (fun z => absurd ok z) (fun _ z => absurd z m) (fun _ _ z => absurd l z) (fun _ _ _ _ => ⟨fun z => absurd z (by decide), fun _ => m_refuse UM.rf w.nm rx rn hQ⟩) (fun _ _ _ z => absurd z sn)
      · refine Kp.mk3 (FX := FX) (FM := FM) (g' := g) (st := 3) (r := -1) s w (fun Q hQ => X Q ?_) (fun h1 f1 rx rn Q hQ => M h1 Q ?_) hQ
        · exact s_whyMinded w s.2.1 (fun z => absurd ok z) (fun _ z => absurd z m) (fun _ _ _ => ⟨fun _ => x_refused UX.rf s.2.1 hQ, fun z => absurd z (by decide)⟩) (fun _ _ z => absurd z l) (fun _ _ z => absurd z l)
        · exact q_wrongMinded w rx (em h1 f1) (el h1 f1) (eS h1 f1) (fun z => absurd ok z) (fun _ z => absurd z m) (fun _ _ _ => ⟨fun z => absurd z (by decide), fun _ => m_refuse UM.rf w.nm rx rn hQ⟩) (fun _ _ z => absurd z l) (fun _ _ z => absurd z l)
  · refine Kp.mk3 (FX := FX) (FM := FM) (g' := g) (st := 1) (r := -1) s w (fun Q hQ => X Q ?_) (fun h1 f1 rx rn Q hQ => M h1 Q ?_) hQ
    · exact s_whyMinded w s.2.1 (fun _ => ⟨fun _ => x_refused UX.rf s.2.1 hQ, fun z => absurd z (by decide)⟩) (fun z => absurd z ok) (fun z => absurd z ok) (fun z => absurd z ok) (fun z => absurd z ok)
    · exact q_wrongMinded w rx (em h1 f1) (el h1 f1) (eS h1 f1) (fun _ => ⟨fun z => absurd z (by decide), fun _ => m_refuse UM.rf w.nm rx rn hQ⟩) (fun z => absurd z ok) (fun z => absurd z ok) (fun z => absurd z ok) (fun z => absurd z ok)
