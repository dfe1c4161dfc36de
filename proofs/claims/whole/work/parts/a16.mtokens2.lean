section MP
variable {h : Mem} {B : Nat → Int} {n : Nat}
theorem ub_pl {c : Int} (hc : InB c) : (97 ≤ ubF c ∧ ubF c ≤ 122) ↔ Pl c = true := by
  unfold InB at hc
  rw [Pl_iff]; unfold ubF; split <;> omega
theorem ub_pd {c : Int} (hc : InB c) : (48 ≤ ubF c ∧ ubF c ≤ 57) ↔ Pd c = true := by
  unfold InB at hc
  rw [Pd_iff]; unfold ubF; split <;> omega
theorem ub_pb {c : Int} (hc : InB c) : (ubF c = 10 ∨ ubF c = 32) ↔ Pb c = true := by
  unfold InB at hc
  rw [Pb_iff]; unfold ubF; split <;> omega
theorem ub_ps {c : Int} (hc : InB c) : (ubF c = 59 ∨ ubF c = 60 ∨ ubF c = 61 ∨ ubF c = 62) ↔ Ps c = true := by
  unfold InB at hc
  rw [Ps_iff]; unfold ubF; split <;> omega
theorem ub_pos {c : Int} (hc : InB c) : 0 ≤ ubF c ∧ ubF c ≤ 255 := by
  unfold InB at hc
  unfold ubF; split <;> omega
theorem ub_self {c : Int} (hp : 0 ≤ c) : ubF c = c := by unfold ubF; rw [if_neg (by omega)]
theorem q_takeWord {s : Nat} {Q : Mem → Prop} (mb : MB h B n) (hs : s < n) (hd : Pl (B s) = true) (e13 : h 161 13 = (s : Int)) (e14 : h 161 14 = (s : Int)) (hQ : ∀ u, FT h u → u 161 12 = 2 → u 161 13 = (s : Int) → u 161 14 = ((rn Pl B n s : Nat) : Int) → Q u) : L_X12_ahead_81 h Q := by
  obtain ⟨r1, r2, r3, r4⟩ := rn_in (P := Pl) (B := B) (n := n) (p := s) (by omega)
  have n9 := mb.1
  have key : ∀ (m i : Nat) (u : Mem), i + m = rn Pl B n s → s ≤ i → FT h u → u 161 13 = (s : Int) → u 161 14 = (i : Int) → L_X12_ahead_81 u Q := by
    intro m
    induction m with
    | zero =>
      intro i u hi hsi f u13 u14
      have ei : i = rn Pl B n s := by omega
      have mu := mb.fr (u := u) (fun i k q => f i k (by omega))
      have fin : ∀ h45 : Mem, h45 = mset u 161 12 2 → Q h45 := fun x ex => by
        subst ex
        refine hQ _ (f.st (by omega)) (mset_at ..) ?_ ?_
        · rw [mset_k (by omega)]; exact u13
        · rw [mset_k (by omega), u14, ei]
      refine l_X12_ahead_81 ?_
      unfold B_X12_ahead_81
      refine q_byteAt mu u14 (fun c => ?_) (fun c => ?_)
      · unfold F_X12_isSmall
        exact ⟨fun _ => ⟨fun _ => fin, fun z => absurd rfl z⟩, fun q => absurd (by omega) q⟩
      · have nl : ¬ (97 ≤ ubF (B i) ∧ ubF (B i) ≤ 122) := fun q => r4 ⟨by omega, by rw [← ei]; exact (ub_pl (mb.2.2.2 i c)).mp q⟩
        unfold F_X12_isSmall
        exact ⟨fun _ => ⟨fun _ => fin, fun z => absurd rfl z⟩, fun c1 => ⟨fun _ => ⟨fun _ => fin, fun z => absurd rfl z⟩, fun c2 => absurd ⟨by omega, by omega⟩ nl⟩⟩
    | succ m ih =>
      intro i u hi hsi f u13 u14
      have mu := mb.fr (u := u) (fun i k q => f i k (by omega))
      have di := (ub_pl (mb.2.2.2 i (by omega))).mpr (r3 i hsi (by omega))
      refine l_X12_ahead_81 ?_
      unfold B_X12_ahead_81
      refine q_byteAt mu u14 (fun c => absurd c (by omega)) (fun c => ?_)
      unfold F_X12_isSmall
      refine ⟨fun c => absurd c (by omega), fun _ => ⟨fun c => absurd c (by omega), fun _ => ⟨fun z => absurd z (by decide), fun _ => ?_⟩⟩⟩
      rw [u14]
      refine ⟨⟨by omega, by omega⟩, fun x ex => ?_⟩
      subst ex
      exact ih (i + 1) _ (by omega) (by omega) (f.st (by omega)) (by rw [mset_k (by omega)]; exact u13) (by rw [mset_at]; omega)
  exact key (rn Pl B n s - s) s h (by omega) (Nat.le_refl _) FT.rf e13 e14
theorem q_takeNumber {s : Nat} {Q : Mem → Prop} (mb : MB h B n) (hs : s < n) (hd : Pd (B s) = true) (e13 : h 161 13 = (s : Int)) (e14 : h 161 14 = (s : Int)) (e15 : h 161 15 = 0) (hQ : ∀ u, FT h u → u 161 12 = (if rn Pd B n s - s ≤ 4 then 3 else 1) → u 161 13 = (s : Int) → u 161 14 = ((rn Pd B n s : Nat) : Int) → (rn Pd B n s - s ≤ 4 → u 161 15 = ((nv B s (rn Pd B n s - s) : Nat) : Int)) → Q u) : L_X12_ahead_128 h Q := by
  obtain ⟨r1, r2, r3, r4⟩ := rn_in (P := Pd) (B := B) (n := n) (p := s) (by omega)
  have n9 := mb.1
  have key : ∀ (m i : Nat) (u : Mem), i + m = rn Pd B n s → s ≤ i → FT h u → u 161 13 = (s : Int) → u 161 14 = (i : Int) → 0 ≤ u 161 15 → u 161 15 ≤ 100000 → (i - s ≤ 4 → u 161 15 = ((nv B s (i - s) : Nat) : Int)) → L_X12_ahead_128 u Q := by
    intro m
    induction m with
    | zero =>
      intro i u hi hsi f u13 u14 u0 u1 uv
      have ei : i = rn Pd B n s := by omega
      have mu := mb.fr (u := u) (fun i k q => f i k (by omega))
      have fin : InR ((u 161 14) - (u 161 13)) ∧ ((((u 161 14) - (u 161 13)) ≤ 4 → (∀ h31 : Mem, h31 = mset u 161 12 3 → Q h31)) ∧ (¬ (((u 161 14) - (u 161 13)) ≤ 4) → (∀ h32 : Mem, h32 = mset u 161 12 1 → Q h32))) := by
        rw [u13, u14]
        refine ⟨⟨by omega, by omega⟩, fun c x ex => ?_, fun c x ex => ?_⟩
        · subst ex
          refine hQ _ (f.st (by omega)) ?_ ?_ ?_ ?_
          · rw [mset_at, if_pos (by omega)]
          · rw [mset_k (by omega)]; exact u13
          · rw [mset_k (by omega), u14, ei]
          · intro q; rw [mset_k (by omega), ← ei]; exact uv (by omega)
        · subst ex
          refine hQ _ (f.st (by omega)) ?_ ?_ ?_ ?_
          · rw [mset_at, if_neg (by omega)]
          · rw [mset_k (by omega)]; exact u13
          · rw [mset_k (by omega), u14, ei]
          · intro q; rw [mset_k (by omega), ← ei]; exact uv (by omega)
      refine l_X12_ahead_128 ?_
      unfold B_X12_ahead_128
      refine q_byteAt mu u14 (fun c => ?_) (fun c => ?_)
      · unfold F_X12_isDigit
        exact ⟨fun _ => ⟨fun _ => fin, fun z => absurd rfl z⟩, fun q => absurd (by omega) q⟩
      · have nl : ¬ (48 ≤ ubF (B i) ∧ ubF (B i) ≤ 57) := fun q => r4 ⟨by omega, by rw [← ei]; exact (ub_pd (mb.2.2.2 i c)).mp q⟩
        unfold F_X12_isDigit
        exact ⟨fun _ => ⟨fun _ => fin, fun z => absurd rfl z⟩, fun c1 => ⟨fun _ => ⟨fun _ => fin, fun z => absurd rfl z⟩, fun c2 => absurd ⟨by omega, by omega⟩ nl⟩⟩
    | succ m ih =>
      intro i u hi hsi f u13 u14 u0 u1 uv
      have mu := mb.fr (u := u) (fun i k q => f i k (by omega))
      have di := r3 i hsi (by omega)
      have di2 := Pd_iff.mp di
      have es : ubF (B i) = B i := ub_self (by omega)
      refine l_X12_ahead_128 ?_
      unfold B_X12_ahead_128
      refine q_byteAt mu u14 (fun c => absurd c (by omega)) (fun c => ?_)
      rw [es]
      unfold F_X12_isDigit
      refine ⟨fun c => absurd c (by omega), fun _ => ⟨fun c => absurd c (by omega), fun _ => ⟨fun z => absurd z (by decide), fun _ => ⟨⟨by omega, by omega⟩, ?_⟩⟩⟩⟩
      refine q_byteAt mu u14 (fun c => absurd c (by omega)) (fun c => ?_)
      rw [es]
      refine ⟨⟨by omega, by omega⟩, ⟨by omega, by omega⟩, fun h38 e38 => ?_⟩
      have a14 : h38 161 14 = (i : Int) := by rw [e38, mset_k (by omega)]; exact u14
      rw [a14]
      refine ⟨⟨by omega, by omega⟩, fun x ex => ?_⟩
      subst ex e38
      have q0 : 0 ≤ imin 100000 (10 * u 161 15 + B i - 48) ∧ imin 100000 (10 * u 161 15 + B i - 48) ≤ 100000 := by unfold imin; split <;> omega
      refine ih (i + 1) _ (by omega) (by omega) ((f.st (by omega)).st (by omega)) ?_ ?_ ?_ ?_ ?_
      · rw [mset_k (by omega), mset_k (by omega)]; exact u13
      · rw [mset_at]; omega
      · rw [mset_k (by omega), mset_at]; exact q0.1
      · rw [mset_k (by omega), mset_at]; exact q0.2
      · intro q
        rw [mset_k (by omega), mset_at]
        have nl := nv_lt (B := B) (s := s) (i - s) (fun j hj => r3 (s + j) (by omega) (by omega))
        have p10 : 10 ^ (i - s) ≤ 10 ^ 3 := Nat.pow_le_pow_right (by decide) (by omega)
        have nx : nv B s (i + 1 - s) = 10 * nv B s (i - s) + (B i - 48).toNat := by
          rw [show i + 1 - s = (i - s) + 1 by omega]
          show 10 * nv B s (i - s) + (B (s + (i - s)) - 48).toNat = _
          rw [show s + (i - s) = i by omega]
        have vv := uv (by omega)
        rw [nx, vv]
        generalize 10 ^ (i - s) = PP at nl p10
        unfold imin
        rw [if_pos (by omega)]
        omega
  exact key (rn Pd B n s - s) s h (by omega) (Nat.le_refl _) FT.rf e13 e14 (by omega) (by omega) (fun _ => by rw [Nat.sub_self, e15]; rfl)
theorem q_ahead {p : Nat} {Q : Mem → Prop} (mb : MB h B n) (hp : p ≤ n) (e14 : h 161 14 = (p : Int)) (hQ : ∀ u, FT h u → MT u B n (rn Pb B n p) → Q u) : F_X12_ahead h Q := by
  obtain ⟨r1, r2, r3, r4⟩ := rn_in (P := Pb) (B := B) (n := n) (p := p) hp
  have n9 := mb.1
  unfold F_X12_ahead
  have key : ∀ (m i : Nat) (u : Mem), i + m = rn Pb B n p → p ≤ i → FT h u → u 161 14 = (i : Int) → L_X12_ahead_0 u Q := by
    intro m
    induction m with
    | zero =>
      intro i u hi hpi f u14
      have ei : i = rn Pb B n p := by omega
      rw [← ei] at hQ r4
      have mu := mb.fr (u := u) (fun i k q => f i k (by omega))
      refine l_X12_ahead_0 ?_
      unfold B_X12_ahead_0
      by_cases c : n ≤ i
      · refine q_byteAt mu u14 (fun _ => ?_) (fun q => absurd q (by omega))
        refine ⟨fun z => absurd z (by decide), fun _ => ?_⟩
        refine q_byteAt mu u14 (fun _ => ?_) (fun q => absurd q (by omega))
        refine ⟨fun _ h7 e7 => ?_, fun z => absurd z (by decide)⟩
        have a14 : h7 161 14 = (i : Int) := by rw [e7, mset_k (by omega)]; exact u14
        have m7 := mu.fr (u := h7) (fun a b q => by rw [e7]; exact mset_o (by omega))
        refine q_byteAt m7 a14 (fun _ h10 e10 => ?_) (fun q => absurd q (by omega))
        refine ⟨fun z => absurd rfl z, fun _ x ex => ?_⟩
        subst ex e10 e7
        refine hQ _ (((f.st (by omega)).st (by omega)).st (by omega)) ⟨mu.fr (fun a b q => by rw [mset_o (by omega), mset_o (by omega), mset_o (by omega)]), by omega, ?_, ?_, ?_, ?_⟩
        · rw [mset_at]; unfold tke; rw [if_pos c]; rfl
        · rw [mset_k (by omega), mset_k (by omega), mset_at]; exact u14
        · rw [mset_k (by omega), mset_k (by omega), mset_k (by omega), u14]; unfold mee; rw [if_pos c]
        · intro q; unfold tke at q; rw [if_pos c] at q; exact absurd q (by omega)
      · have c' : i < n := by omega
        have bb := mb.2.2.2 i c'
        have nb : ¬ (ubF (B i) = 10 ∨ ubF (B i) = 32) := fun q => r4 ⟨c', (ub_pb bb).mp q⟩
        have bp := ub_pos bb
        refine q_byteAt mu u14 (fun q => absurd q c) (fun _ => ?_)
        refine ⟨fun z => absurd (Or.inr z) nb, fun _ => ?_⟩
        refine q_byteAt mu u14 (fun q => absurd q c) (fun _ => ?_)
        refine ⟨fun _ h7 e7 => ?_, fun z => absurd (Or.inl z) nb⟩
        have a14 : h7 161 14 = (i : Int) := by rw [e7, mset_k (by omega)]; exact u14
        have m7 := mu.fr (u := h7) (fun a b q => by rw [e7]; exact mset_o (by omega))
        refine q_byteAt m7 a14 (fun q => absurd q c) (fun _ h10 e10 => ?_)
        have f10 : FT h h10 := by rw [e10, e7]; exact (f.st (by omega)).st (by omega)
        have m10 := m7.fr (u := h10) (fun a b q => by rw [e10]; exact mset_o (by omega))
        have b13 : h10 161 13 = (i : Int) := by rw [e10, mset_k (by omega), e7, mset_at]; exact u14
        have b14 : h10 161 14 = (i : Int) := by rw [e10, mset_k (by omega)]; exact a14
        have b15 : h10 161 15 = ubF (B i) := by rw [e10, mset_at]
        refine ⟨fun _ => ?_, fun z => absurd z (by omega)⟩
        have word : (97 ≤ ubF (B i) ∧ ubF (B i) ≤ 122) → L_X12_ahead_81 h10 Q := fun q => by
          have hl := (ub_pl bb).mp q
          refine q_takeWord m10 c' hl b13 b14 (fun x fx y12 y13 y14 => hQ x (f10.tr fx) ⟨m10.fr (fun a b q => fx a b (by omega)), by omega, ?_, y13, ?_, ?_⟩)
          · rw [y12]; unfold tke; rw [if_neg c, if_pos hl]; rfl
          · rw [y14]; unfold mee; rw [if_neg c, if_pos hl]
          · intro q; unfold tke at q; rw [if_neg c, if_pos hl] at q; exact absurd q (by omega)
        have rest : ¬ (97 ≤ ubF (B i) ∧ ubF (B i) ≤ 122) → (F_X12_isDigit h10 (ubF (B i)) (fun r14 h13 => ((r14 = 0 → (InR ((h13 161 14) + 1) ∧ (∀ h16 : Mem, h16 = mset h13 161 14 ((h13 161 14) + 1) → ((ubF (B i) = 59 → (∀ h17 : Mem, h17 = mset h16 161 12 4 → Q h17)) ∧ (¬ (ubF (B i) = 59) → ((ubF (B i) = 60 → (∀ h18 : Mem, h18 = mset h16 161 12 4 → Q h18)) ∧ (¬ (ubF (B i) = 60) → ((ubF (B i) = 62 → (∀ h19 : Mem, h19 = mset h16 161 12 4 → Q h19)) ∧ (¬ (ubF (B i) = 62) → ((¬ (ubF (B i) = 61) → (∀ h20 : Mem, h20 = mset h16 161 12 1 → Q h20)) ∧ (ubF (B i) = 61 → (∀ h21 : Mem, h21 = mset h16 161 12 4 → Q h21)))))))))))) ∧ (¬ (r14 = 0) → (∀ h22 : Mem, h22 = mset h13 161 15 0 → L_X12_ahead_128 h22 Q))))) := fun q => by
          have nl : ¬ Pl (B i) = true := fun z => q ((ub_pl bb).mpr z)
          have nodig : ¬ (48 ≤ ubF (B i) ∧ ubF (B i) ≤ 57) → (InR ((h10 161 14) + 1) ∧ (∀ h16 : Mem, h16 = mset h10 161 14 ((h10 161 14) + 1) → ((ubF (B i) = 59 → (∀ h17 : Mem, h17 = mset h16 161 12 4 → Q h17)) ∧ (¬ (ubF (B i) = 59) → ((ubF (B i) = 60 → (∀ h18 : Mem, h18 = mset h16 161 12 4 → Q h18)) ∧ (¬ (ubF (B i) = 60) → ((ubF (B i) = 62 → (∀ h19 : Mem, h19 = mset h16 161 12 4 → Q h19)) ∧ (¬ (ubF (B i) = 62) → ((¬ (ubF (B i) = 61) → (∀ h20 : Mem, h20 = mset h16 161 12 1 → Q h20)) ∧ (ubF (B i) = 61 → (∀ h21 : Mem, h21 = mset h16 161 12 4 → Q h21))))))))))) := fun nd0 => by
            have nd : ¬ Pd (B i) = true := fun z => nd0 ((ub_pd bb).mpr z)
            rw [b14]
            refine ⟨⟨by omega, by omega⟩, fun h16 e16 => ?_⟩
            have f16 : FT h h16 := by rw [e16]; exact f10.st (by omega)
            have m16 := m10.fr (u := h16) (fun a b q => by rw [e16]; exact mset_o (by omega))
            have c13 : h16 161 13 = (i : Int) := by rw [e16, mset_k (by omega)]; exact b13
            have c14 : h16 161 14 = (i : Int) + 1 := by rw [e16, mset_at]
            have c15 : h16 161 15 = ubF (B i) := by rw [e16, mset_k (by omega)]; exact b15
            have me : mee B n i = i + 1 := by unfold mee; rw [if_neg c, if_neg nl, if_neg nd]
            have sgn : (ubF (B i) = 59 ∨ ubF (B i) = 60 ∨ ubF (B i) = 61 ∨ ubF (B i) = 62) → ∀ x : Mem, x = mset h16 161 12 4 → Q x := fun hs2 x ex => by
              have hS := (ub_ps bb).mp hs2
              have b0 := Ps_iff.mp hS
              subst ex
              refine hQ _ (f16.st (by omega)) ⟨m16.fr (fun a b q => mset_o (by omega)), by omega, ?_, ?_, ?_, ?_⟩
              · rw [mset_at]; unfold tke; rw [if_neg c, if_neg nl, if_neg nd, if_pos hS]; rfl
              · rw [mset_k (by omega)]; exact c13
              · rw [mset_k (by omega), c14, me]; omega
              · intro _; rw [mset_k (by omega), c15]; unfold tke_v; rw [if_neg c, if_neg nl, if_neg nd, if_pos hS]; exact ub_self (by omega)
            refine ⟨fun y => sgn (by omega), fun y1 => ⟨fun y => sgn (by omega), fun y2 => ⟨fun y => sgn (by omega), fun y3 => ⟨fun y4 x ex => ?_, fun y => sgn (by omega)⟩⟩⟩⟩
            have nS : ¬ Ps (B i) = true := fun z => by have := (ub_ps bb).mpr z; omega
            subst ex
            refine hQ _ (f16.st (by omega)) ⟨m16.fr (fun a b q => mset_o (by omega)), by omega, ?_, ?_, ?_, ?_⟩
            · rw [mset_at]; unfold tke; rw [if_neg c, if_neg nl, if_neg nd, if_neg nS]; rfl
            · rw [mset_k (by omega)]; exact c13
            · rw [mset_k (by omega), c14, me]; omega
            · intro q; unfold tke at q; rw [if_neg c, if_neg nl, if_neg nd, if_neg nS] at q; exact absurd q (by omega)
          unfold F_X12_isDigit
          refine ⟨fun d1 => ⟨fun _ => nodig (by omega), fun z => absurd rfl z⟩, fun d1 => ⟨fun d2 => ⟨fun _ => nodig (by omega), fun z => absurd rfl z⟩, fun d2 => ⟨fun z => absurd z (by decide), fun _ h22 e22 => ?_⟩⟩⟩
          have hd := (ub_pd bb).mp ⟨by omega, by omega⟩
          have f22 : FT h h22 := by rw [e22]; exact f10.st (by omega)
          have m22 := m10.fr (u := h22) (fun a b q => by rw [e22]; exact mset_o (by omega))
          refine q_takeNumber m22 c' hd (by rw [e22, mset_k (by omega)]; exact b13) (by rw [e22, mset_k (by omega)]; exact b14) (by rw [e22, mset_at]) (fun x fx y12 y13 y14 y15 => hQ x (f22.tr fx) ⟨m22.fr (fun a b q => fx a b (by omega)), by omega, ?_, y13, ?_, ?_⟩)
          · rw [y12]; unfold tke; rw [if_neg c, if_neg nl, if_pos hd]; split <;> rfl
          · rw [y14]; unfold mee; rw [if_neg c, if_neg nl, if_pos hd]
          · intro q
            unfold tke at q; rw [if_neg c, if_neg nl, if_pos hd] at q
            have k4 : rn Pd B n i - i ≤ 4 := by
              by_cases k4 : rn Pd B n i - i ≤ 4
              · exact k4
              · rw [if_neg k4] at q; exact absurd q (by omega)
            rw [y15 k4]; unfold tke_v; rw [if_neg c, if_neg nl, if_pos hd, show min (rn Pd B n i - i) 4 = rn Pd B n i - i by omega]
        unfold F_X12_isSmall
        exact ⟨fun d1 => ⟨fun _ => rest (by omega), fun z => absurd rfl z⟩, fun d1 => ⟨fun d2 => ⟨fun _ => rest (by omega), fun z => absurd rfl z⟩, fun d2 => ⟨fun z => absurd z (by decide), fun _ => word ⟨by omega, by omega⟩⟩⟩⟩
    | succ m ih =>
      intro i u hi hpi f u14
      have mu := mb.fr (u := u) (fun i k q => f i k (by omega))
      have bi := (ub_pb (mb.2.2.2 i (by omega))).mpr (r3 i hpi (by omega))
      refine l_X12_ahead_0 ?_
      unfold B_X12_ahead_0
      have go : ∀ h4 : Mem, h4 = mset u 161 14 ((u 161 14) + 1) → L_X12_ahead_0 h4 Q := fun h4 e => by
        subst e
        exact ih (i + 1) _ (by omega) (by omega) (f.st (by omega)) (by rw [mset_at, u14]; omega)
      refine q_byteAt mu u14 (fun q => absurd q (by omega)) (fun _ => ?_)
      refine ⟨fun _ => ⟨⟨by omega, by omega⟩, go⟩, fun z => ?_⟩
      refine q_byteAt mu u14 (fun q => absurd q (by omega)) (fun _ => ?_)
      exact ⟨fun z2 => absurd bi (by omega), fun _ => ⟨⟨by omega, by omega⟩, go⟩⟩
  exact key (rn Pb B n p - p) p h (by omega) (Nat.le_refl _) FT.rf e14
end MP
