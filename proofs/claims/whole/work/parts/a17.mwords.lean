theorem ch_in : ∀ p, p < 126 → 0 ≤ CH p ∧ CH p < 65536 := by decide +kernel
theorem isr_126 : ishr ((126 : Nat) : Int) 0 = 126 := by decide +kernel
theorem q_chAt {h : Mem} {p : Nat} {x : Int} {Q : Int → Mem → Prop} (hx : x = (p : Int)) (hp : p < 126) (hQ : Q (CH p) h) : F_J0_charAt_5068e h x Q := by
  subst hx
  have ci := ch_in p hp
  have cl : ((strL.getD 1 0 : Nat) : Int) = 126 := by rw [ch_len]; rfl
  unfold F_J0_charAt_5068e F_J0_isLatin1_aae02
  refine ⟨fun z => absurd z (by decide), fun _ => ?_⟩
  unfold F_J1_charAt_3b067 F_J0_checkIndex_df160
  intro z1
  unfold F_J3_checkIndex_8e157
  rw [cl]
  refine ⟨fun c => absurd c (by omega), fun _ => ⟨fun _ => ⟨⟨by omega, by omega⟩, ?_⟩, fun c => absurd (by omega) c⟩⟩
  rw [Int.toNat_natCast, ch_ok p hp]
  exact ⟨⟨by omega, by omega⟩, ⟨by omega, by omega⟩, hQ⟩
theorem q_len {h : Mem} {Q : Int → Mem → Prop} (hQ : Q 126 h) : F_J0_length_8abf5 h Q := by
  unfold F_J0_length_8abf5 F_J0_coder_7d493
  refine ⟨⟨by omega, by omega⟩, ?_⟩
  show Q (ishr ((strL.getD 1 0 : Nat) : Int) 0) h
  rw [ch_len, isr_126]; exact hQ
def wk (B : Nat → Int) (n s : Nat) : Int := if tke B n s = 1 then kj (tke_v B n s) else -1
theorem tke_one {B : Nat → Int} {n s : Nat} (h : tke B n s = 1) : s < n ∧ Pl (B s) = true ∧ mee B n s = rn Pl B n s ∧ tee B n s = rn Pl B n s := by
  unfold tke at h
  by_cases c : n ≤ s
  · rw [if_pos c] at h; exact absurd h (by decide)
  · rw [if_neg c] at h
    by_cases d : Pl (B s) = true
    · refine ⟨by omega, d, ?_, ?_⟩
      · unfold mee; rw [if_neg c, if_pos d]
      · unfold tee; rw [if_neg c, if_pos d]
    · rw [if_neg d] at h
      by_cases e : Pd (B s) = true
      · rw [if_pos e] at h
        by_cases f : rn Pd B n s - s ≤ 4
        · rw [if_pos f] at h; exact absurd h (by decide)
        · rw [if_neg f] at h; exact absurd h (by decide)
      · rw [if_neg e] at h
        by_cases f : Ps (B s) = true
        · rw [if_pos f] at h; exact absurd h (by decide)
        · rw [if_neg f] at h; exact absurd h (by decide)
theorem kw_hit {w j : Nat} (hj : j < 24) (h : KW (jk j) = w) : kj (kwF w 24) = (j : Int) := by
  obtain ⟨w1, w2, w3, w4, w5, w6, w7, w8, w9⟩ := word_ok j hj
  obtain ⟨a, b⟩ := kwF_is (w := w) 24 (Nat.le_refl _)
  obtain ⟨c1, c2⟩ := kwF_in (w := w) 24
  by_cases d : kwF w 24 = -1
  · exact absurd h (b d (jk j) w6)
  · obtain ⟨e1, e2⟩ := a (kwF w 24).toNat (by omega)
    have e3 : (kwF w 24).toNat = jk j := KW_inj _ e1 _ w6 (e2.trans h.symm)
    rw [show kwF w 24 = ((jk j : Nat) : Int) by omega]; exact w7
theorem kw_miss {w : Nat} (h : ∀ j, j < 24 → KW (jk j) ≠ w) : kwF w 24 = -1 := by
  obtain ⟨a, b⟩ := kwF_is (w := w) 24 (Nat.le_refl _)
  obtain ⟨c1, c2⟩ := kwF_in (w := w) 24
  by_cases d : kwF w 24 = -1
  · exact d
  · obtain ⟨e1, e2⟩ := a (kwF w 24).toNat (by omega)
    obtain ⟨f1, f2, f3⟩ := jk_kj _ e1
    exact absurd (f3.symm ▸ e2) (h (kj ((kwF w 24).toNat : Int)).toNat (by omega))
section MW
variable {h : Mem} {B : Nat → Int} {n s : Nat}
theorem wa_lt {j : Nat} (hj : j ≤ 24) : wa j ≤ 126 ∧ (j < 24 → wa j < 126) := by
  by_cases c : j = 24
  · subst c; rw [wa_0.2]; exact ⟨by omega, fun q => absurd q (by omega)⟩
  · have := word_ok j (by omega); exact ⟨by omega, fun _ => by omega⟩
theorem q_inWords {Q : Int → Mem → Prop} (mt : MT h B n s) (hQ : Q (wk B n s) h) : F_X12_inWords h Q := by
  obtain ⟨mb, hs, e12, e13, e14, e15⟩ := mt
  have n9 := mb.1
  unfold F_X12_inWords
  unfold wk at hQ
  by_cases k1 : tke B n s = 1
  · rw [if_pos k1] at hQ
    obtain ⟨t1, t2, t3, _⟩ := tke_one k1
    obtain ⟨r1, r2, r3, r4⟩ := rn_in (P := Pl) (B := B) (n := n) (p := s) (by omega)
    rw [t3] at e14
    have ev : tke_v B n s = if rn Pl B n s - s ≤ 8 then kwF (x5 B s (rn Pl B n s - s)) 24 else -1 := by
      unfold tke_v; rw [if_neg (by omega), if_pos t2]
    rw [ev] at hQ
    generalize rn Pl B n s = e at *
    refine ⟨fun _ => ?_, fun z => absurd (by rw [e12, k1]; rfl) z⟩
    have letters : ∀ i, i < e - s → Pl (B (s + i)) = true := fun i hi => r3 (s + i) (by omega) (by omega)
    have miss : ∀ m j : Nat, j + m = 24 → (∀ i, i < j → ¬ (e - s ≤ 8 ∧ x5 B s (e - s) = KW (jk i))) → ∀ z w : Int, z = (j : Int) → w = ((wa j : Nat) : Int) → L_X12_inWords_14 h z w Q := by
      intro m
      induction m with
      | zero =>
        intro j hj no z w hz hw
        subst hz hw
        obtain rfl : j = 24 := by omega
        refine l_X12_inWords_14 ?_
        unfold B_X12_inWords_14
        refine q_len ⟨fun _ => ?_, fun c => absurd (by rw [wa_0.2]; decide) c⟩
        by_cases c8 : e - s ≤ 8
        · rw [if_pos c8, kw_miss (fun j hj q => no j hj ⟨c8, q.symm⟩)] at hQ; exact hQ
        · rw [if_neg c8] at hQ; exact hQ
      | succ m ih =>
        intro j hj no z w hz hw
        subst hz hw
        obtain ⟨w1, w2, w3, w4, w5, w6, w7, w8, w9⟩ := word_ok j (by omega)
        refine l_X12_inWords_14 ?_
        unfold B_X12_inWords_14
        refine q_len ⟨fun c => absurd c (by omega), fun _ => ?_⟩
        have j115 : ∀ v5 : Int, (v5 ≠ 0 ↔ (wb j - wa j = e - s ∧ ∀ i, i < wb j - wa j → CH (wa j + i) = B (s + i))) → J_X12_inWords_115 h (j : Int) ((wb j : Nat) : Int) v5 Q := by
          intro v5 h5
          have xi := x5_inj (B := CH) (C := B) (s := wa j) (t := s) (wb j - wa j) (e - s) (fun i hi => w8 i (by omega) hi) letters
          unfold J_X12_inWords_115
          refine ⟨fun c => ?_, fun c => ?_⟩
          · refine ⟨⟨by omega, by omega⟩, ⟨by omega, by omega⟩, ih (j + 1) (by omega) (fun i hi => ?_) _ _ (by omega) (by omega)⟩
            by_cases ij : i = j
            · subst ij
              rintro ⟨q1, q2⟩
              exact absurd c (h5.mpr (xi.mp (by rw [w9, q2])))
            · exact no i (by omega)
          · have q := h5.mp c
            have q2 := xi.mpr q
            rw [if_pos (by omega), kw_hit (by omega) (w9.symm.trans q2)] at hQ
            exact hQ
        have l68 : ∀ (k i : Nat) (v5 z : Int), i + k = wb j → wa j ≤ i → z = (i : Int) → (v5 ≠ 0 ↔ (wb j - wa j = e - s ∧ ∀ a, a < i - wa j → CH (wa j + a) = B (s + a))) → L_X12_inWords_68 h (j : Int) ((wa j : Nat) : Int) ((wb j : Nat) : Int) v5 z Q := by
          intro k
          induction k with
          | zero =>
            intro i v5 z hi hai hz h5
            subst hz
            have ei : i = wb j := by omega
            refine l_X12_inWords_68 ?_
            unfold B_X12_inWords_68
            refine ⟨fun _ => j115 v5 (by rw [ei] at h5; exact h5), fun c => absurd (by omega) c⟩
          | succ k ik =>
            intro i v5 z hi hai hz h5
            subst hz
            refine l_X12_inWords_68 ?_
            unfold B_X12_inWords_68
            refine ⟨fun c => absurd c (by omega), fun _ => ⟨fun c => j115 v5 ?_, fun c => ?_⟩⟩
            · refine ⟨fun q => absurd c q, fun q => h5.mpr ⟨q.1, fun a ha => q.2 a (by omega)⟩⟩
            · obtain ⟨g1, g2⟩ := h5.mp c
              refine q_chAt rfl (by omega) ?_
              have ex : h 161 13 + (i : Int) - ((wa j : Nat) : Int) = ((s + (i - wa j) : Nat) : Int) := by rw [e13]; omega
              refine ⟨by rw [e13]; exact ⟨by omega, by omega⟩, by rw [ex]; exact ⟨by omega, by omega⟩, ?_⟩
              have le := Pl_iff.mp (letters (i - wa j) (by omega))
              refine q_byteAt mb ex (fun q => absurd q (by omega)) (fun _ => ?_)
              rw [ub_self (by omega)]
              refine ⟨fun c2 => ⟨⟨by omega, by omega⟩, ik (i + 1) 0 _ (by omega) (by omega) (by omega) ⟨fun q => absurd rfl q, fun q => absurd ?_ c2⟩⟩, fun c2 => ⟨⟨by omega, by omega⟩, ik (i + 1) 1 _ (by omega) (by omega) (by omega) ⟨fun _ => ⟨g1, fun a ha => ?_⟩, fun _ => by decide⟩⟩⟩
              · have := q.2 (i - wa j) (by omega)
                rw [show wa j + (i - wa j) = i by omega] at this; exact this
              · by_cases ea : a = i - wa j
                · subst ea; rw [show wa j + (i - wa j) = i by omega]; exact c2
                · exact g2 a (by omega)
        have l25 : ∀ (k i : Nat) (z : Int), i + k = wb j → wa j ≤ i → z = (i : Int) → L_X12_inWords_25 h (j : Int) ((wa j : Nat) : Int) z Q := by
          intro k
          induction k with
          | zero =>
            intro i z hi hai hz
            subst hz
            obtain rfl : i = wb j := by omega
            refine l_X12_inWords_25 ?_
            unfold B_X12_inWords_25
            refine q_chAt rfl (by omega) ?_
            rw [w5]
            refine ⟨fun _ => ⟨⟨by omega, by omega⟩, by rw [e13, e14]; exact ⟨by omega, by omega⟩, fun c => ?_, fun c => ?_⟩, fun c => absurd rfl c⟩
            · rw [e13, e14] at c
              exact l68 (wb j - wa j) (wa j) 0 _ (by omega) (Nat.le_refl _) rfl ⟨fun q => absurd rfl q, fun q => absurd (by omega) c⟩
            · rw [e13, e14] at c
              exact l68 (wb j - wa j) (wa j) 1 _ (by omega) (Nat.le_refl _) rfl ⟨fun _ => ⟨by omega, fun a ha => absurd ha (by omega)⟩, fun _ => by decide⟩
          | succ k ik =>
            intro i z hi hai hz
            subst hz
            have cl := Pl_iff.mp (w8 (i - wa j) (by omega) (by omega))
            rw [show wa j + (i - wa j) = i by omega] at cl
            refine l_X12_inWords_25 ?_
            unfold B_X12_inWords_25
            refine q_chAt rfl (by omega) ?_
            exact ⟨fun c => absurd c (by omega), fun _ => ⟨⟨by omega, by omega⟩, ik (i + 1) _ (by omega) (by omega) (by omega)⟩⟩
        exact l25 (wb j - wa j) (wa j) _ (by omega) (Nat.le_refl _) rfl
    exact miss 24 0 rfl (fun i hi => absurd hi (by omega)) 0 1 rfl (by rw [wa_0.1]; rfl)
  · rw [if_neg k1] at hQ
    refine ⟨fun c => absurd ?_ k1, fun _ => hQ⟩
    rw [e12] at c
    unfold kt at c
    revert c
    generalize tke B n s = t
    intro c
    split at c
    · exact absurd c (by decide)
    · split at c
      · exact absurd c (by decide)
      · omega
end MW
