/-! copyHours: the call -/
theorem k_copyHours {h : Mem} {g : Gs} {a : Int} (s : G2 h g) (t : TR h) {Q : Int → Int → Mem → Prop} (hQ : ∀ r u1 u, G2 u g → TR u → TX h u1 → TM u1 u → Q r r u) : F_X11_copyHours h a (fun r1 h1 => F_X12_copyHours h1 a (fun r2 h2 => Q r1 r2 h2)) := by
  have w := s.1
  have rT := s.2.1.1.2.1
  have rx := s.2.2.1
  obtain ⟨n8, nc⟩ := gn8 w
  have en : h 13 0 = (gn g : Int) := by rw [nc]; exact rT.1
  have em : h 162 0 = (gn g : Int) := by rw [nc]; exact rx.1.1 0 (by omega) (by omega)
  have rf : ∀ (st : Int) (h1 : Mem), h1 = mset h 0 0 st → F_X12_refuse h1 st (fun r2 h2 => Q (-1) r2 h2) := fun st h1 e1 h2 e2 => by
    have tx : TX h h1 := fun x y y1 y2 => by rw [e1]; unfold mset; rw [if_neg y1]
    have tm : TM h1 h2 := fun x y y1 y2 => by rw [e2]; unfold mset; rw [if_neg y1]
    exact hQ (-1) h1 h2 (s.tr tx tm (by rw [e2, mset_at, mset_i _ (by omega), e1, mset_at])) (by rw [e2, e1]; exact t.ss) tx tm
  unfold F_X11_copyHours F_X11_whyTooFew F_X10_isTray F_X10_isMissing
  rw [en]
  have one : a < 0 ∨ 4 ≤ a → F_X11_refused h 1 (fun r1 h1 => F_X12_copyHours h1 a (fun r2 h2 => Q r1 r2 h2)) := fun c h1 e1 => by
    unfold F_X12_copyHours F_X12_isTray
    refine ⟨fun _ => ⟨fun q => absurd rfl q, fun _ => rf 1 h1 e1⟩, fun c1 => ⟨fun _ => ⟨fun q => absurd rfl q, fun _ => rf 1 h1 e1⟩, fun c2 => absurd c (by omega)⟩⟩
  refine ⟨fun c => ⟨fun q => absurd rfl q, fun _ => ⟨fun q => absurd q (by decide), fun _ => one (Or.inl c)⟩⟩, fun c => ⟨fun c2 => ⟨fun q => absurd rfl q, fun _ => ⟨fun q => absurd q (by decide), fun _ => one (Or.inr c2)⟩⟩, fun c2 => ⟨fun _ => ?_, fun q => absurd q (by decide)⟩⟩⟩
  obtain ⟨i, rfl⟩ : ∃ k : Nat, a = k := ⟨a.toNat, by omega⟩
  have ti := t i (by omega)
  have two : ∀ (st : Int) (h1 : Mem), h1 = mset h 0 0 st → ((h 165 i = -1 ∧ st = 2) ∨ (h 165 i ≠ -1 ∧ h 165 i < (gn g : Int) ∧ st = 3)) → F_X12_copyHours h1 (i : Int) (fun r2 h2 => Q (-1) r2 h2) := fun st h1 e1 hc => by
    have e165 : h1 165 i = h 165 i := by rw [e1, mset_i _ (by omega)]
    have e162 : h1 162 0 = (gn g : Int) := by rw [e1, mset_i _ (by omega)]; exact em
    unfold F_X12_copyHours F_X12_isTray
    refine ⟨fun q => absurd q c, fun _ => ⟨fun q => absurd q c2, fun _ => ⟨fun _ => ⟨⟨by omega, by omega⟩, ?_⟩, fun q => absurd q (by decide)⟩⟩⟩
    rw [Int.toNat_natCast, e165, e162]
    have r := rf st h1 e1
    rcases hc with ⟨d, rfl⟩ | ⟨d1, d2, rfl⟩
    · exact ⟨fun q => absurd d q, fun _ => r⟩
    · exact ⟨fun _ => ⟨fun q => absurd q (by omega), fun _ => r⟩, fun q => absurd q d1⟩
  rw [Int.toNat_natCast]
  refine ⟨⟨by omega, by omega⟩, fun m => ⟨fun _ => ⟨⟨by omega, by omega⟩, fun d => ⟨fun _ => ?_, fun q => absurd rfl q⟩, fun d => ⟨fun q => absurd q (by decide), fun _ h1 e1 => two 3 h1 e1 (Or.inr ⟨by omega, by omega, rfl⟩)⟩⟩, fun q => absurd rfl q⟩, fun m => ⟨fun q => absurd q (by decide), fun _ => ⟨fun q => absurd q (by decide), fun _ h1 e1 => two 2 h1 e1 (Or.inl ⟨by omega, rfl⟩)⟩⟩⟩
  refine s_ch (by omega) n8 rT (fun u uz uf => ?_)
  have d164 : h 164 i = h 2 i := by
    rcases ti with ⟨y, _⟩ | ⟨_, _, y, _⟩
    · exact absurd y m
    · exact y
  have e0 : ∀ o k, o ≠ 0 → ¬ (o = 5 + i ∧ k < gn g) → mset u 0 0 0 o k = h o k := fun o k o1 o2 => by rw [mset_i _ o1]; exact uf o k o2
  have tx : TX h (mset u 0 0 0) := fun x y y1 y2 => by
    have : mset u 0 0 0 x y = u x y := by unfold mset; rw [if_neg y1]
    rw [this]; exact uf x y (by omega)
  unfold F_X12_copyHours F_X12_isTray
  refine ⟨fun q => absurd q c, fun _ => ⟨fun q => absurd q c2, fun _ => ⟨fun _ => ⟨⟨by omega, by omega⟩, ?_⟩, fun q => absurd q (by decide)⟩⟩⟩
  rw [Int.toNat_natCast, e0 165 i (by omega) (by omega), e0 162 0 (by omega) (by omega), em]
  refine ⟨fun _ => ⟨fun _ => ?_, fun q => absurd (by omega) q⟩, fun q => absurd q (by omega)⟩
  have rx2 : RXh (mset u 0 0 0) g := rx.fr w.nm.1 w.nm.2 (fun k _ => e0 162 k (by omega) (by omega))
  refine q_ch (by omega) n8 nc rx2.1 (fun v vz vf => ?_)
  have tm : TM (mset u 0 0 0) (mset v 161 2 0) := fun x y y1 y2 => by
    have : mset v 161 2 0 x y = v x y := by unfold mset; rw [if_neg y1]
    rw [this]; exact vf x y (by omega)
  refine hQ _ _ _ (s.tr tx tm (by rw [mset_at, mset_i _ (by omega), vf 0 0 (by omega), mset_at])) (fun k hk => ?_) tx tm
  have f1 : ∀ o j, o ≠ 0 → o ≠ 161 → o ≠ 166 → ¬ (o = 5 + i ∧ j < gn g) → mset v 161 2 0 o j = h o j := fun o j o1 o2 o3 o4 => by
    rw [mset_i _ o2, vf o j (by omega)]; exact e0 o j o1 o4
  rw [f1 2 k (by omega) (by omega) (by omega) (by omega), f1 3 k (by omega) (by omega) (by omega) (by omega), f1 164 k (by omega) (by omega) (by omega) (by omega), f1 165 k (by omega) (by omega) (by omega) (by omega)]
  rcases t k hk with z | ⟨z1, z2, z3, z4, z5, z6, z⟩
  · exact Or.inl z
  · refine Or.inr ⟨z1, z2, z3, z4, z5, z6, fun j hj => ?_⟩
    by_cases ck : k = i ∧ j < gn g
    · obtain ⟨rfl, ck⟩ := ck
      rw [mset_i _ (by omega), vf _ j (by omega), mset_i _ (by omega), uz j ck, mset_i _ (show 166 ≠ 161 by omega), vz j ck, e0 164 k (by omega) (by omega), d164]
    · rw [f1 (5 + k) j (by omega) (by omega) (by omega) (by omega), mset_i _ (show 166 ≠ 161 by omega), vf 166 _ (by omega), e0 166 _ (by omega) (by omega)]
      exact z j hj
