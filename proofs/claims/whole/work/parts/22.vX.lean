abbrev M_X0_countMinds : Hd := (cX0_countMinds, 3, RX0, (some .int), (1, 45), sc0)
def L_X0_countMinds_4 (h : Mem) (v1 : Int) (v2 : Int) (Q : Int → Mem → Prop) : Prop := AW M_X0_countMinds 4 [(0, vr 42), (1, (0, v1)), (2, (0, v2))] [] h (qi Q)
def B_X0_countMinds_4 (h : Mem) (v1 : Int) (v2 : Int) (Q : Int → Mem → Prop) : Prop :=
  ((24 < v2 → Q v1 h) ∧ (¬ (24 < v2) → ((0 ≤ v2 ∧ v2 < 25) ∧ (((h 46 (v2).toNat) = 0 → (InR v1 ∧ (InR (v2 + 1) ∧ L_X0_countMinds_4 h v1 (v2 + 1) Q))) ∧ (¬ ((h 46 (v2).toNat) = 0) → (InR (v1 + 1) ∧ (InR (v2 + 1) ∧ L_X0_countMinds_4 h (v1 + 1) (v2 + 1) Q)))))))
set_option maxRecDepth 100000 in
set_option maxHeartbeats 4000000 in
theorem l_X0_countMinds_4 {h : Mem} {v1 : Int} {v2 : Int} {Q : Int → Mem → Prop}  (hF : B_X0_countMinds_4 h v1 v2 Q) : L_X0_countMinds_4 h v1 v2 Q := by
  unfold B_X0_countMinds_4 at hF
  show AW M_X0_countMinds 4 [(0, vr 42), (1, (0, v1)), (2, (0, v2))] [] h (qi Q)
  refine aw_iload_n (j := 2) (M := M_X0_countMinds) (pc := 4) dX0_countMinds_4 rfl rfl ?_
  refine aw_bipush (M := M_X0_countMinds) (pc := 5) dX0_countMinds_5 ⟨rfl, ⟨by decide, by decide⟩⟩ ?_
  refine aw_icmp_gt (tgt := 33) (M := M_X0_countMinds) (pc := 7) dX0_countMinds_7 rfl (fun hc => ?_) (fun hc => ?_)
  · have hF := hF.1 hc
    refine aw_iload_n (j := 1) (M := M_X0_countMinds) (pc := 33) dX0_countMinds_33 rfl rfl ?_
    exact aw_ireti (M := M_X0_countMinds) (pc := 34) dX0_countMinds_34 rfl ⟨_, rfl, hF⟩
  · have hF := hF.2 hc
    refine aw_iload_n (j := 1) (M := M_X0_countMinds) (pc := 10) dX0_countMinds_10 rfl rfl ?_
    refine aw_aload_n (j := 0) (M := M_X0_countMinds) (pc := 11) dX0_countMinds_11 rfl rfl ?_
    refine gf_X0_21 (M := M_X0_countMinds) (pc := 12) rfl dX0_countMinds_12 rfl (r := 46) rfl ?_
    refine aw_iload_n (j := 2) (M := M_X0_countMinds) (pc := 15) dX0_countMinds_15 rfl rfl ?_
    obtain ⟨o2, hF⟩ := hF
    refine aw_zald (k := (v2).toNat) (M := M_X0_countMinds) (pc := 16) dX0_countMinds_16 rfl o2 rfl ?_
    refine aw_if_eq (tgt := 24) (M := M_X0_countMinds) (pc := 17) dX0_countMinds_17 rfl (fun hc => ?_) (fun hc => ?_)
    · have hF := hF.1 hc
      refine aw_iconst (M := M_X0_countMinds) (pc := 24) dX0_countMinds_24 ⟨by decide, by decide⟩ ?_
      obtain ⟨o3, hF⟩ := hF
      refine aw_iadd (r := v1) (M := M_X0_countMinds) (pc := 25) dX0_countMinds_25 (Int.add_zero _) o3 ?_
      refine aw_istore_n (ls' := [(1, (0, v1)), (0, vr 42), (2, (0, v2))]) (M := M_X0_countMinds) (pc := 26) dX0_countMinds_26 rfl (by decide) rfl ?_
      obtain ⟨o4, hF⟩ := hF
      refine aw_iinc (j := 2) (x := v2) (r := v2 + 1) (ls' := [(2, (0, v2 + 1)), (1, (0, v1)), (0, vr 42)]) (M := M_X0_countMinds) (pc := 27) dX0_countMinds_27 rfl rfl o4 (by decide) rfl ?_
      refine aw_goto (tgt := 4) (M := M_X0_countMinds) (pc := 30) dX0_countMinds_30 rfl ?_
      exact aw_ls [2, 1, 0] rfl hF
    · have hF := hF.2 hc
      refine aw_iconst (M := M_X0_countMinds) (pc := 20) dX0_countMinds_20 ⟨by decide, by decide⟩ ?_
      refine aw_goto (tgt := 25) (M := M_X0_countMinds) (pc := 21) dX0_countMinds_21 rfl ?_
      obtain ⟨o5, hF⟩ := hF
      refine aw_iadd (M := M_X0_countMinds) (pc := 25) dX0_countMinds_25 rfl o5 ?_
      refine aw_istore_n (ls' := [(1, (0, v1 + 1)), (0, vr 42), (2, (0, v2))]) (M := M_X0_countMinds) (pc := 26) dX0_countMinds_26 rfl (by decide) rfl ?_
      obtain ⟨o6, hF⟩ := hF
      refine aw_iinc (j := 2) (x := v2) (r := v2 + 1) (ls' := [(2, (0, v2 + 1)), (1, (0, v1 + 1)), (0, vr 42)]) (M := M_X0_countMinds) (pc := 27) dX0_countMinds_27 rfl rfl o6 (by decide) rfl ?_
      refine aw_goto (tgt := 4) (M := M_X0_countMinds) (pc := 30) dX0_countMinds_30 rfl ?_
      exact aw_ls [2, 1, 0] rfl hF
def F_X0_countMinds (h : Mem)  (Q : Int → Mem → Prop) : Prop :=
  L_X0_countMinds_4 h 0 1 Q
set_option maxRecDepth 100000 in
set_option maxHeartbeats 4000000 in
theorem f_X0_countMinds {h : Mem}  {Q : Int → Mem → Prop}  (hF : F_X0_countMinds h  Q) : Ct yX0_countMinds cX0_countMinds 3 (some .int) (1, 45) [vr 42] h (qi Q) := by
  refine Ct.of np_RX0 (Nat.le_of_ble_eq_true rfl) ?_
  unfold F_X0_countMinds at hF
  show AW M_X0_countMinds 0 [(0, vr 42)] [] h (qi Q)
  refine aw_iconst (M := M_X0_countMinds) (pc := 0) dX0_countMinds_0 ⟨by decide, by decide⟩ ?_
  refine aw_istore_n (ls' := [(1, (0, 0)), (0, vr 42)]) (M := M_X0_countMinds) (pc := 1) dX0_countMinds_1 rfl (by decide) rfl ?_
  refine aw_iconst (M := M_X0_countMinds) (pc := 2) dX0_countMinds_2 ⟨by decide, by decide⟩ ?_
  refine aw_istore_n (ls' := [(2, (0, 1)), (1, (0, 0)), (0, vr 42)]) (M := M_X0_countMinds) (pc := 3) dX0_countMinds_3 rfl (by decide) rfl ?_
  exact aw_ls [2, 1, 0] rfl hF
abbrev M_X0_countTurning : Hd := (cX0_countTurning, 4, RX0, (some .int), (1, 45), sc0)
def L_X0_countTurning_4 (h : Mem) (v1 : Int) (v2 : Int) (v3 : Int) (Q : Int → Mem → Prop) : Prop := AW M_X0_countTurning 4 [(0, vr 42), (1, (0, v1)), (2, (0, v2)), (3, (0, v3))] [] h (qi Q)
def B_X0_countTurning_4 (h : Mem) (v1 : Int) (v2 : Int) (v3 : Int) (Q : Int → Mem → Prop) : Prop :=
  ((24 < v3 → Q v2 h) ∧ (¬ (24 < v3) → ((0 ≤ v3 ∧ v3 < 25) ∧ (((h 46 (v3).toNat) = 0 → (InR (v3 + 1) ∧ L_X0_countTurning_4 h v1 v2 (v3 + 1) Q)) ∧ (¬ ((h 46 (v3).toNat) = 0) → ((¬ ((land (lshr (h 45 (v3).toNat) v1) 1) = 1) → (InR (v3 + 1) ∧ L_X0_countTurning_4 h v1 v2 (v3 + 1) Q)) ∧ ((land (lshr (h 45 (v3).toNat) v1) 1) = 1 → (InR (v2 + 1) ∧ (InR (v3 + 1) ∧ L_X0_countTurning_4 h v1 (v2 + 1) (v3 + 1) Q)))))))))
set_option maxRecDepth 100000 in
set_option maxHeartbeats 4000000 in
theorem l_X0_countTurning_4 {h : Mem} {v1 : Int} {v2 : Int} {v3 : Int} {Q : Int → Mem → Prop}  (hF : B_X0_countTurning_4 h v1 v2 v3 Q) : L_X0_countTurning_4 h v1 v2 v3 Q := by
  unfold B_X0_countTurning_4 at hF
  show AW M_X0_countTurning 4 [(0, vr 42), (1, (0, v1)), (2, (0, v2)), (3, (0, v3))] [] h (qi Q)
  refine aw_iload_n (j := 3) (M := M_X0_countTurning) (pc := 4) dX0_countTurning_4 rfl rfl ?_
  refine aw_bipush (M := M_X0_countTurning) (pc := 5) dX0_countTurning_5 ⟨rfl, ⟨by decide, by decide⟩⟩ ?_
  refine aw_icmp_gt (tgt := 43) (M := M_X0_countTurning) (pc := 7) dX0_countTurning_7 rfl (fun hc => ?_) (fun hc => ?_)
  · have hF := hF.1 hc
    refine aw_iload_n (j := 2) (M := M_X0_countTurning) (pc := 43) dX0_countTurning_43 rfl rfl ?_
    exact aw_ireti (M := M_X0_countTurning) (pc := 44) dX0_countTurning_44 rfl ⟨_, rfl, hF⟩
  · have hF := hF.2 hc
    refine aw_aload_n (j := 0) (M := M_X0_countTurning) (pc := 10) dX0_countTurning_10 rfl rfl ?_
    refine gf_X0_21 (M := M_X0_countTurning) (pc := 11) rfl dX0_countTurning_11 rfl (r := 46) rfl ?_
    refine aw_iload_n (j := 3) (M := M_X0_countTurning) (pc := 14) dX0_countTurning_14 rfl rfl ?_
    obtain ⟨o2, hF⟩ := hF
    refine aw_zald (k := (v3).toNat) (M := M_X0_countTurning) (pc := 15) dX0_countTurning_15 rfl o2 rfl ?_
    refine aw_if_eq (tgt := 37) (M := M_X0_countTurning) (pc := 16) dX0_countTurning_16 rfl (fun hc => ?_) (fun hc => ?_)
    · have hF := hF.1 hc
      obtain ⟨o3, hF⟩ := hF
      refine aw_iinc (j := 3) (x := v3) (r := v3 + 1) (ls' := [(3, (0, v3 + 1)), (0, vr 42), (1, (0, v1)), (2, (0, v2))]) (M := M_X0_countTurning) (pc := 37) dX0_countTurning_37 rfl rfl o3 (by decide) rfl ?_
      refine aw_goto (tgt := 4) (M := M_X0_countTurning) (pc := 40) dX0_countTurning_40 rfl ?_
      exact aw_ls [1, 2, 3, 0] rfl hF
    · have hF := hF.2 hc
      refine aw_aload_n (j := 0) (M := M_X0_countTurning) (pc := 19) dX0_countTurning_19 rfl rfl ?_
      refine gf_X0_18 (M := M_X0_countTurning) (pc := 20) rfl dX0_countTurning_20 rfl (r := 45) rfl ?_
      refine aw_iload_n (j := 3) (M := M_X0_countTurning) (pc := 23) dX0_countTurning_23 rfl rfl ?_
      refine aw_lald (k := (v3).toNat) (M := M_X0_countTurning) (pc := 24) dX0_countTurning_24 rfl o2 rfl ?_
      refine aw_iload_n (j := 1) (M := M_X0_countTurning) (pc := 25) dX0_countTurning_25 rfl rfl ?_
      refine aw_lshr (M := M_X0_countTurning) (pc := 26) dX0_countTurning_26 ?_
      refine aw_lconst (v := 1) (M := M_X0_countTurning) (pc := 27) dX0_countTurning_27 ⟨rfl, ⟨by decide, by decide⟩⟩ ?_
      refine aw_land (M := M_X0_countTurning) (pc := 28) dX0_countTurning_28 ?_
      refine aw_lconst (v := 1) (M := M_X0_countTurning) (pc := 29) dX0_countTurning_29 ⟨rfl, ⟨by decide, by decide⟩⟩ ?_
      refine aw_lcmp (M := M_X0_countTurning) (pc := 30) dX0_countTurning_30 ?_
      refine aw_if_ne (tgt := 37) (M := M_X0_countTurning) (pc := 31) dX0_countTurning_31 rfl (fun hc => ?_) (fun hc => ?_)
      · have hF := hF.1 (fun z => hc (lc_eq.mpr z))
        obtain ⟨o5, hF⟩ := hF
        refine aw_iinc (j := 3) (x := v3) (r := v3 + 1) (ls' := [(3, (0, v3 + 1)), (0, vr 42), (1, (0, v1)), (2, (0, v2))]) (M := M_X0_countTurning) (pc := 37) dX0_countTurning_37 rfl rfl o5 (by decide) rfl ?_
        refine aw_goto (tgt := 4) (M := M_X0_countTurning) (pc := 40) dX0_countTurning_40 rfl ?_
        exact aw_ls [1, 2, 3, 0] rfl hF
      · have hF := hF.2 (lc_eq.mp hc)
        obtain ⟨o6, hF⟩ := hF
        refine aw_iinc (j := 2) (x := v2) (r := v2 + 1) (ls' := [(2, (0, v2 + 1)), (0, vr 42), (1, (0, v1)), (3, (0, v3))]) (M := M_X0_countTurning) (pc := 34) dX0_countTurning_34 rfl rfl o6 (by decide) rfl ?_
        obtain ⟨o7, hF⟩ := hF
        refine aw_iinc (j := 3) (x := v3) (r := v3 + 1) (ls' := [(3, (0, v3 + 1)), (2, (0, v2 + 1)), (0, vr 42), (1, (0, v1))]) (M := M_X0_countTurning) (pc := 37) dX0_countTurning_37 rfl rfl o7 (by decide) rfl ?_
        refine aw_goto (tgt := 4) (M := M_X0_countTurning) (pc := 40) dX0_countTurning_40 rfl ?_
        exact aw_ls [2, 3, 1, 0] rfl hF
def F_X0_countTurning (h : Mem) (a1 : Int) (Q : Int → Mem → Prop) : Prop :=
  L_X0_countTurning_4 h a1 0 1 Q
set_option maxRecDepth 100000 in
set_option maxHeartbeats 4000000 in
theorem f_X0_countTurning {h : Mem} {a1 : Int} {Q : Int → Mem → Prop}  (hF : F_X0_countTurning h a1 Q) : Ct yX0_countTurning cX0_countTurning 4 (some .int) (1, 45) [vr 42, (0, a1)] h (qi Q) := by
  refine Ct.of np_RX0 (Nat.le_of_ble_eq_true rfl) ?_
  unfold F_X0_countTurning at hF
  show AW M_X0_countTurning 0 [(0, vr 42), (1, (0, a1))] [] h (qi Q)
  refine aw_iconst (M := M_X0_countTurning) (pc := 0) dX0_countTurning_0 ⟨by decide, by decide⟩ ?_
  refine aw_istore_n (ls' := [(2, (0, 0)), (0, vr 42), (1, (0, a1))]) (M := M_X0_countTurning) (pc := 1) dX0_countTurning_1 rfl (by decide) rfl ?_
  refine aw_iconst (M := M_X0_countTurning) (pc := 2) dX0_countTurning_2 ⟨by decide, by decide⟩ ?_
  refine aw_istore_n (ls' := [(3, (0, 1)), (2, (0, 0)), (0, vr 42), (1, (0, a1))]) (M := M_X0_countTurning) (pc := 3) dX0_countTurning_3 rfl (by decide) rfl ?_
  exact aw_ls [2, 3, 1, 0] rfl hF
abbrev M_X0_bestQuestion : Hd := (cX0_bestQuestion, 7, RX0, (some .int), (2, 68), sc0)
def L_X0_bestQuestion_21 (h : Mem) (v1 : Int) (v2 : Int) (v3 : Int) (v4 : Int) (Q : Int → Mem → Prop) : Prop := AW M_X0_bestQuestion 21 [(0, vr 42), (1, (0, v1)), (2, (0, v2)), (3, (0, v3)), (4, (0, v4))] [] h (qi Q)
def B_X0_bestQuestion_21 (h : Mem) (v1 : Int) (v2 : Int) (v3 : Int) (v4 : Int) (Q : Int → Mem → Prop) : Prop :=
  ((60 < v4 → Q v3 h) ∧ (¬ (60 < v4) → (F_X0_countTurning h v4 (fun r5 h4 => (InR (v1 - r5) ∧ (∀ x7 : Int, x7 = imax r5 (v1 - r5) → ((v2 ≤ x7 → (InR (v4 + 1) ∧ L_X0_bestQuestion_21 h4 v1 v2 v3 (v4 + 1) Q)) ∧ (¬ (v2 ≤ x7) → (InR (v4 + 1) ∧ L_X0_bestQuestion_21 h4 v1 x7 v4 (v4 + 1) Q)))))))))
set_option maxRecDepth 100000 in
set_option maxHeartbeats 4000000 in
theorem l_X0_bestQuestion_21 {h : Mem} {v1 : Int} {v2 : Int} {v3 : Int} {v4 : Int} {Q : Int → Mem → Prop}  (hF : B_X0_bestQuestion_21 h v1 v2 v3 v4 Q) : L_X0_bestQuestion_21 h v1 v2 v3 v4 Q := by
  unfold B_X0_bestQuestion_21 at hF
  show AW M_X0_bestQuestion 21 [(0, vr 42), (1, (0, v1)), (2, (0, v2)), (3, (0, v3)), (4, (0, v4))] [] h (qi Q)
  refine aw_iload (j := 4) (M := M_X0_bestQuestion) (pc := 21) dX0_bestQuestion_21  rfl ?_
  refine aw_bipush (M := M_X0_bestQuestion) (pc := 23) dX0_bestQuestion_23 ⟨rfl, ⟨by decide, by decide⟩⟩ ?_
  refine aw_icmp_gt (tgt := 65) (M := M_X0_bestQuestion) (pc := 25) dX0_bestQuestion_25 rfl (fun hc => ?_) (fun hc => ?_)
  · have hF := hF.1 hc
    refine aw_iload_n (j := 3) (M := M_X0_bestQuestion) (pc := 65) dX0_bestQuestion_65 rfl rfl ?_
    exact aw_ireti (M := M_X0_bestQuestion) (pc := 66) dX0_bestQuestion_66 rfl ⟨_, rfl, hF⟩
  · have hF := hF.2 hc
    refine aw_aload_n (j := 0) (M := M_X0_bestQuestion) (pc := 28) dX0_bestQuestion_28 rfl rfl ?_
    refine aw_iload (j := 4) (M := M_X0_bestQuestion) (pc := 29) dX0_bestQuestion_29  rfl ?_
    refine aw_cvi (as := [(0, v4)]) (st := []) (M := M_X0_bestQuestion) (pc := 31) (f_X0_countTurning  hF) dX0_bestQuestion_31 rfl (Or.inl ⟨_, _, _, rfl, rfl⟩) cy_X0_countTurning ml_X0_105 (by decide) (by decide) (Nat.le_of_ble_eq_true rfl) (fun r5 h4 hF => ?_)
    refine aw_istore (ls' := [(5, (0, r5)), (0, vr 42), (1, (0, v1)), (2, (0, v2)), (3, (0, v3)), (4, (0, v4))]) (M := M_X0_bestQuestion) (pc := 34) dX0_bestQuestion_34  (by decide) rfl ?_
    refine aw_iload (j := 0) (M := M_X0_bestQuestion) (pc := 36) dX0_bestQuestion_36  rfl ?_
    refine aw_iload_n (j := 2) (M := M_X0_bestQuestion) (pc := 38) dX0_bestQuestion_38 rfl rfl ?_
    refine aw_iload (j := 0) (M := M_X0_bestQuestion) (pc := 39) dX0_bestQuestion_39  rfl ?_
    obtain ⟨o6, hF⟩ := hF
    refine aw_isub (M := M_X0_bestQuestion) (pc := 41) dX0_bestQuestion_41 rfl o6 ?_
    refine aw_mmax (M := M_X0_bestQuestion) (pc := 42) ml_X0_108 dX0_bestQuestion_42 (by decide) (Nat.le_of_ble_eq_true rfl) ?_
    obtain ⟨x7, ex7⟩ : ∃ y : Int, y = imax r5 (v1 - r5) := ⟨_, rfl⟩
    have hF := hF x7 ex7
    rw [← ex7]
    refine aw_istore (ls' := [(6, (0, x7)), (5, (0, r5)), (0, vr 42), (1, (0, v1)), (2, (0, v2)), (3, (0, v3)), (4, (0, v4))]) (M := M_X0_bestQuestion) (pc := 45) dX0_bestQuestion_45  (by decide) rfl ?_
    refine aw_iload (j := 0) (M := M_X0_bestQuestion) (pc := 47) dX0_bestQuestion_47  rfl ?_
    refine aw_iload_n (j := 4) (M := M_X0_bestQuestion) (pc := 49) dX0_bestQuestion_49 rfl rfl ?_
    refine aw_icmp_ge (tgt := 59) (M := M_X0_bestQuestion) (pc := 50) dX0_bestQuestion_50 rfl (fun hc => ?_) (fun hc => ?_)
    · have hF := hF.1 hc
      obtain ⟨o8, hF⟩ := hF
      refine aw_iinc (j := 6) (x := v4) (r := v4 + 1) (ls' := [(4, (0, v4 + 1)), (6, (0, x7)), (5, (0, r5)), (0, vr 42), (1, (0, v1)), (2, (0, v2)), (3, (0, v3))]) (M := M_X0_bestQuestion) (pc := 59) dX0_bestQuestion_59 rfl rfl o8 (by decide) rfl ?_
      refine aw_goto (tgt := 21) (M := M_X0_bestQuestion) (pc := 62) dX0_bestQuestion_62 rfl ?_
      exact aw_ls [3, 4, 5, 6, 0] rfl hF
    · have hF := hF.2 hc
      refine aw_iload (j := 0) (M := M_X0_bestQuestion) (pc := 53) dX0_bestQuestion_53  rfl ?_
      refine aw_istore_n (ls' := [(2, (0, x7)), (6, (0, x7)), (5, (0, r5)), (0, vr 42), (1, (0, v1)), (3, (0, v3)), (4, (0, v4))]) (M := M_X0_bestQuestion) (pc := 55) dX0_bestQuestion_55 rfl (by decide) rfl ?_
      refine aw_iload (j := 6) (M := M_X0_bestQuestion) (pc := 56) dX0_bestQuestion_56  rfl ?_
      refine aw_istore_n (ls' := [(3, (0, v4)), (2, (0, x7)), (6, (0, x7)), (5, (0, r5)), (0, vr 42), (1, (0, v1)), (4, (0, v4))]) (M := M_X0_bestQuestion) (pc := 58) dX0_bestQuestion_58 rfl (by decide) rfl ?_
      obtain ⟨o9, hF⟩ := hF
      refine aw_iinc (j := 6) (x := v4) (r := v4 + 1) (ls' := [(4, (0, v4 + 1)), (3, (0, v4)), (2, (0, x7)), (6, (0, x7)), (5, (0, r5)), (0, vr 42), (1, (0, v1))]) (M := M_X0_bestQuestion) (pc := 59) dX0_bestQuestion_59 rfl rfl o9 (by decide) rfl ?_
      refine aw_goto (tgt := 21) (M := M_X0_bestQuestion) (pc := 62) dX0_bestQuestion_62 rfl ?_
      exact aw_ls [5, 6, 2, 1, 0] rfl hF
def F_X0_bestQuestion (h : Mem)  (Q : Int → Mem → Prop) : Prop :=
  (F_X0_countMinds h  (fun r2 h1 => ((2 ≤ r2 → (InR (r2 + 1) ∧ L_X0_bestQuestion_21 h1 r2 (r2 + 1) (-1) 0 Q)) ∧ (¬ (2 ≤ r2) → Q (-1) h1))))
set_option maxRecDepth 100000 in
set_option maxHeartbeats 4000000 in
theorem f_X0_bestQuestion {h : Mem}  {Q : Int → Mem → Prop}  (hF : F_X0_bestQuestion h  Q) : Ct yX0_bestQuestion cX0_bestQuestion 7 (some .int) (2, 68) [vr 42] h (qi Q) := by
  refine Ct.of np_RX0 (Nat.le_of_ble_eq_true rfl) ?_
  unfold F_X0_bestQuestion at hF
  show AW M_X0_bestQuestion 0 [(0, vr 42)] [] h (qi Q)
  refine aw_aload_n (j := 0) (M := M_X0_bestQuestion) (pc := 0) dX0_bestQuestion_0 rfl rfl ?_
  refine aw_cvi (as := []) (st := []) (M := M_X0_bestQuestion) (pc := 1) (f_X0_countMinds  hF) dX0_bestQuestion_1 rfl (Or.inl ⟨_, _, _, rfl, rfl⟩) cy_X0_countMinds ml_X0_101 (by decide) (by decide) (Nat.le_of_ble_eq_true rfl) (fun r2 h1 hF => ?_)
  refine aw_istore_n (ls' := [(1, (0, r2)), (0, vr 42)]) (M := M_X0_bestQuestion) (pc := 4) dX0_bestQuestion_4 rfl (by decide) rfl ?_
  refine aw_iload_n (j := 0) (M := M_X0_bestQuestion) (pc := 5) dX0_bestQuestion_5 rfl rfl ?_
  refine aw_iconst (M := M_X0_bestQuestion) (pc := 6) dX0_bestQuestion_6 ⟨by decide, by decide⟩ ?_
  refine aw_icmp_ge (tgt := 12) (M := M_X0_bestQuestion) (pc := 7) dX0_bestQuestion_7 rfl (fun hc => ?_) (fun hc => ?_)
  · have hF := hF.1 hc
    refine aw_iload_n (j := 0) (M := M_X0_bestQuestion) (pc := 12) dX0_bestQuestion_12 rfl rfl ?_
    refine aw_iconst (M := M_X0_bestQuestion) (pc := 13) dX0_bestQuestion_13 ⟨by decide, by decide⟩ ?_
    obtain ⟨o3, hF⟩ := hF
    refine aw_iadd (M := M_X0_bestQuestion) (pc := 14) dX0_bestQuestion_14 rfl o3 ?_
    refine aw_istore_n (ls' := [(2, (0, r2 + 1)), (1, (0, r2)), (0, vr 42)]) (M := M_X0_bestQuestion) (pc := 15) dX0_bestQuestion_15 rfl (by decide) rfl ?_
    refine aw_iconst (M := M_X0_bestQuestion) (pc := 16) dX0_bestQuestion_16 ⟨by decide, by decide⟩ ?_
    refine aw_istore_n (ls' := [(3, (0, (-1))), (2, (0, r2 + 1)), (1, (0, r2)), (0, vr 42)]) (M := M_X0_bestQuestion) (pc := 17) dX0_bestQuestion_17 rfl (by decide) rfl ?_
    refine aw_iconst (M := M_X0_bestQuestion) (pc := 18) dX0_bestQuestion_18 ⟨by decide, by decide⟩ ?_
    refine aw_istore (ls' := [(4, (0, 0)), (3, (0, (-1))), (2, (0, r2 + 1)), (1, (0, r2)), (0, vr 42)]) (M := M_X0_bestQuestion) (pc := 19) dX0_bestQuestion_19  (by decide) rfl ?_
    exact aw_ls [4, 3, 2, 1, 0] rfl hF
  · have hF := hF.2 hc
    refine aw_iconst (M := M_X0_bestQuestion) (pc := 10) dX0_bestQuestion_10 ⟨by decide, by decide⟩ ?_
    exact aw_ireti (M := M_X0_bestQuestion) (pc := 11) dX0_bestQuestion_11 rfl ⟨_, rfl, hF⟩
abbrev M_X0_canBeSeen : Hd := (cX0_canBeSeen, 7, RX0, (some .boolean), (1, 45), sc0)
def L_X0_canBeSeen_2 (h : Mem) (v0 : Nat) (v1 : Int) (v2 : Int) (Q : Int → Mem → Prop) : Prop := AW M_X0_canBeSeen 2 [(0, vr v0), (1, (0, v1)), (2, (0, v2))] [] h (qi Q)
def B_X0_canBeSeen_2 (h : Mem) (v0 : Nat) (v1 : Int) (v2 : Int) (Q : Int → Mem → Prop) : Prop :=
  ((v1 ≤ v2 → Q 1 h) ∧ (¬ (v1 ≤ v2) → (InR (2 * v2) ∧ ((0 ≤ (2 * v2) ∧ (2 * v2) < 60) ∧ (∀ x4 : Int, x4 = h v0 (2 * v2).toNat → (InR ((2 * v2) + 1) ∧ ((0 ≤ ((2 * v2) + 1) ∧ ((2 * v2) + 1) < 60) ∧ (∀ x8 : Int, x8 = h v0 ((2 * v2) + 1).toNat → ((x4 < 0 → Q 0 h) ∧ (¬ (x4 < 0) → ((60 < x4 → Q 0 h) ∧ (¬ (60 < x4) → ((x8 < 0 → Q 0 h) ∧ (¬ (x8 < 0) → ((x8 ≤ 1 → (InR (v2 + 1) ∧ L_X0_canBeSeen_2 h v0 v1 (v2 + 1) Q)) ∧ (¬ (x8 ≤ 1) → Q 0 h))))))))))))))))
set_option maxRecDepth 100000 in
set_option maxHeartbeats 4000000 in
theorem l_X0_canBeSeen_2 {h : Mem} {v0 : Nat} {v1 : Int} {v2 : Int} {Q : Int → Mem → Prop} (hv0 : lay v0 = (2, 60)) (hF : B_X0_canBeSeen_2 h v0 v1 v2 Q) : L_X0_canBeSeen_2 h v0 v1 v2 Q := by
  unfold B_X0_canBeSeen_2 at hF
  show AW M_X0_canBeSeen 2 [(0, vr v0), (1, (0, v1)), (2, (0, v2))] [] h (qi Q)
  refine aw_iload_n (j := 2) (M := M_X0_canBeSeen) (pc := 2) dX0_canBeSeen_2 rfl rfl ?_
  refine aw_iload_n (j := 1) (M := M_X0_canBeSeen) (pc := 3) dX0_canBeSeen_3 rfl rfl ?_
  refine aw_icmp_ge (tgt := 58) (M := M_X0_canBeSeen) (pc := 4) dX0_canBeSeen_4 rfl (fun hc => ?_) (fun hc => ?_)
  · have hF := hF.1 hc
    refine aw_iconst (M := M_X0_canBeSeen) (pc := 58) dX0_canBeSeen_58 ⟨by decide, by decide⟩ ?_
    exact aw_iretz (M := M_X0_canBeSeen) (pc := 59) dX0_canBeSeen_59 rfl (Or.inr rfl) ⟨_, rfl, hF⟩
  · have hF := hF.2 hc
    refine aw_aload_n (j := 0) (M := M_X0_canBeSeen) (pc := 7) dX0_canBeSeen_7 rfl rfl ?_
    refine aw_iconst (M := M_X0_canBeSeen) (pc := 8) dX0_canBeSeen_8 ⟨by decide, by decide⟩ ?_
    refine aw_iload_n (j := 2) (M := M_X0_canBeSeen) (pc := 9) dX0_canBeSeen_9 rfl rfl ?_
    obtain ⟨o1, hF⟩ := hF
    refine aw_imul (M := M_X0_canBeSeen) (pc := 10) dX0_canBeSeen_10 rfl o1 ?_
    obtain ⟨o3, hF⟩ := hF
    refine aw_lald (k := (2 * v2).toNat) (M := M_X0_canBeSeen) (pc := 11) dX0_canBeSeen_11 hv0 o3 rfl ?_
    obtain ⟨x4, ex4⟩ : ∃ y : Int, y = h v0 (2 * v2).toNat := ⟨_, rfl⟩
    have hF := hF x4 ex4
    rw [← ex4]
    refine aw_lstore_n (ls' := [(3, (1, x4)), (0, vr v0), (1, (0, v1)), (2, (0, v2))]) (M := M_X0_canBeSeen) (pc := 12) dX0_canBeSeen_12 rfl (by decide) rfl ?_
    refine aw_aload_n (j := 1) (M := M_X0_canBeSeen) (pc := 13) dX0_canBeSeen_13 rfl rfl ?_
    refine aw_iconst (M := M_X0_canBeSeen) (pc := 14) dX0_canBeSeen_14 ⟨by decide, by decide⟩ ?_
    refine aw_iload_n (j := 3) (M := M_X0_canBeSeen) (pc := 15) dX0_canBeSeen_15 rfl rfl ?_
    refine aw_imul (M := M_X0_canBeSeen) (pc := 16) dX0_canBeSeen_16 rfl o1 ?_
    refine aw_iconst (M := M_X0_canBeSeen) (pc := 17) dX0_canBeSeen_17 ⟨by decide, by decide⟩ ?_
    obtain ⟨o5, hF⟩ := hF
    refine aw_iadd (M := M_X0_canBeSeen) (pc := 18) dX0_canBeSeen_18 rfl o5 ?_
    obtain ⟨o7, hF⟩ := hF
    refine aw_lald (k := ((2 * v2) + 1).toNat) (M := M_X0_canBeSeen) (pc := 19) dX0_canBeSeen_19 hv0 o7 rfl ?_
    obtain ⟨x8, ex8⟩ : ∃ y : Int, y = h v0 ((2 * v2) + 1).toNat := ⟨_, rfl⟩
    have hF := hF x8 ex8
    rw [← ex8]
    refine aw_lstore (ls' := [(5, (1, x8)), (3, (1, x4)), (0, vr v0), (1, (0, v1)), (2, (0, v2))]) (M := M_X0_canBeSeen) (pc := 20) dX0_canBeSeen_20  (by decide) rfl ?_
    refine aw_lload_n (j := 1) (M := M_X0_canBeSeen) (pc := 22) dX0_canBeSeen_22 rfl rfl ?_
    refine aw_lconst (v := 0) (M := M_X0_canBeSeen) (pc := 23) dX0_canBeSeen_23 ⟨rfl, ⟨by decide, by decide⟩⟩ ?_
    refine aw_lcmp (M := M_X0_canBeSeen) (pc := 24) dX0_canBeSeen_24 ?_
    refine aw_if_lt (tgt := 50) (M := M_X0_canBeSeen) (pc := 25) dX0_canBeSeen_25 rfl (fun hc => ?_) (fun hc => ?_)
    · have hF := hF.1 (lc_lt.mp hc)
      refine aw_iconst (M := M_X0_canBeSeen) (pc := 50) dX0_canBeSeen_50 ⟨by decide, by decide⟩ ?_
      exact aw_iretz (M := M_X0_canBeSeen) (pc := 51) dX0_canBeSeen_51 rfl (Or.inl rfl) ⟨_, rfl, hF⟩
    · have hF := hF.2 (fun z => hc (lc_lt.mpr z))
      refine aw_lload_n (j := 1) (M := M_X0_canBeSeen) (pc := 28) dX0_canBeSeen_28 rfl rfl ?_
      refine aw_ldc2 (v := 60) (M := M_X0_canBeSeen) (pc := 29) dX0_canBeSeen_29 kl_X0_92 ⟨by decide, by decide⟩ ?_
      refine aw_lcmp (M := M_X0_canBeSeen) (pc := 32) dX0_canBeSeen_32 ?_
      refine aw_if_gt (tgt := 50) (M := M_X0_canBeSeen) (pc := 33) dX0_canBeSeen_33 rfl (fun hc => ?_) (fun hc => ?_)
      · have hF := hF.1 (lc_gt.mp hc)
        refine aw_iconst (M := M_X0_canBeSeen) (pc := 50) dX0_canBeSeen_50 ⟨by decide, by decide⟩ ?_
        exact aw_iretz (M := M_X0_canBeSeen) (pc := 51) dX0_canBeSeen_51 rfl (Or.inl rfl) ⟨_, rfl, hF⟩
      · have hF := hF.2 (fun z => hc (lc_gt.mpr z))
        refine aw_lload (j := 0) (M := M_X0_canBeSeen) (pc := 36) dX0_canBeSeen_36  rfl ?_
        refine aw_lconst (v := 0) (M := M_X0_canBeSeen) (pc := 38) dX0_canBeSeen_38 ⟨rfl, ⟨by decide, by decide⟩⟩ ?_
        refine aw_lcmp (M := M_X0_canBeSeen) (pc := 39) dX0_canBeSeen_39 ?_
        refine aw_if_lt (tgt := 50) (M := M_X0_canBeSeen) (pc := 40) dX0_canBeSeen_40 rfl (fun hc => ?_) (fun hc => ?_)
        · have hF := hF.1 (lc_lt.mp hc)
          refine aw_iconst (M := M_X0_canBeSeen) (pc := 50) dX0_canBeSeen_50 ⟨by decide, by decide⟩ ?_
          exact aw_iretz (M := M_X0_canBeSeen) (pc := 51) dX0_canBeSeen_51 rfl (Or.inl rfl) ⟨_, rfl, hF⟩
        · have hF := hF.2 (fun z => hc (lc_lt.mpr z))
          refine aw_lload (j := 0) (M := M_X0_canBeSeen) (pc := 43) dX0_canBeSeen_43  rfl ?_
          refine aw_lconst (v := 1) (M := M_X0_canBeSeen) (pc := 45) dX0_canBeSeen_45 ⟨rfl, ⟨by decide, by decide⟩⟩ ?_
          refine aw_lcmp (M := M_X0_canBeSeen) (pc := 46) dX0_canBeSeen_46 ?_
          refine aw_if_le (tgt := 52) (M := M_X0_canBeSeen) (pc := 47) dX0_canBeSeen_47 rfl (fun hc => ?_) (fun hc => ?_)
          · have hF := hF.1 (lc_le.mp hc)
            obtain ⟨o9, hF⟩ := hF
            refine aw_iinc (j := 4) (x := v2) (r := v2 + 1) (ls' := [(2, (0, v2 + 1)), (5, (1, x8)), (3, (1, x4)), (0, vr v0), (1, (0, v1))]) (M := M_X0_canBeSeen) (pc := 52) dX0_canBeSeen_52 rfl rfl o9 (by decide) rfl ?_
            refine aw_goto (tgt := 2) (M := M_X0_canBeSeen) (pc := 55) dX0_canBeSeen_55 rfl ?_
            exact aw_ls [3, 4, 0] rfl hF
          · have hF := hF.2 (fun z => hc (lc_le.mpr z))
            refine aw_iconst (M := M_X0_canBeSeen) (pc := 50) dX0_canBeSeen_50 ⟨by decide, by decide⟩ ?_
            exact aw_iretz (M := M_X0_canBeSeen) (pc := 51) dX0_canBeSeen_51 rfl (Or.inl rfl) ⟨_, rfl, hF⟩
def F_X0_canBeSeen (h : Mem) (a1 : Nat) (a2 : Int) (Q : Int → Mem → Prop) : Prop :=
  L_X0_canBeSeen_2 h a1 a2 0 Q
set_option maxRecDepth 100000 in
set_option maxHeartbeats 4000000 in
theorem f_X0_canBeSeen {h : Mem} {a1 : Nat} {a2 : Int} {Q : Int → Mem → Prop} (ha1 : lay a1 = (2, 60)) (hF : F_X0_canBeSeen h a1 a2 Q) : Ct yX0_canBeSeen cX0_canBeSeen 7 (some .boolean) (1, 45) [vr a1, (0, a2)] h (qi Q) := by
  refine Ct.of np_RX0 (Nat.le_of_ble_eq_true rfl) ?_
  unfold F_X0_canBeSeen at hF
  show AW M_X0_canBeSeen 0 [(0, vr a1), (1, (0, a2))] [] h (qi Q)
  refine aw_iconst (M := M_X0_canBeSeen) (pc := 0) dX0_canBeSeen_0 ⟨by decide, by decide⟩ ?_
  refine aw_istore_n (ls' := [(2, (0, 0)), (0, vr a1), (1, (0, a2))]) (M := M_X0_canBeSeen) (pc := 1) dX0_canBeSeen_1 rfl (by decide) rfl ?_
  exact aw_ls [1, 2, 0] rfl hF
abbrev M_X7_copyGroundFrom : Hd := (cX7_copyGroundFrom, 2, RX7, none, (1, 45), sc0)
def F_X7_copyGroundFrom (h : Mem) (o : Nat) (a1 : Nat) (Q : Mem → Prop) : Prop :=
  (∀ h1 : Mem, h1 = mcpy h (a1 + 4) 0 (o + 4) 0 4 → Q h1)
set_option maxRecDepth 100000 in
set_option maxHeartbeats 4000000 in
theorem f_X7_copyGroundFrom {h : Mem} {o : Nat} {a1 : Nat} {Q : Mem → Prop} (ho : lay o = (0, 7)) (ha1 : lay a1 = (0, 7)) (hF : F_X7_copyGroundFrom h o a1 Q) : Ct yX7_copyGroundFrom cX7_copyGroundFrom 2 none (1, 45) [vr o, vr a1] h (qv Q) := by
  refine Ct.of np_RX7 (Nat.le_of_ble_eq_true rfl) ?_
  unfold F_X7_copyGroundFrom at hF
  show AW M_X7_copyGroundFrom 0 [(0, vr o), (1, vr a1)] [] h (qv Q)
  refine aw_aload_n (j := 1) (M := M_X7_copyGroundFrom) (pc := 0) dX7_copyGroundFrom_0 rfl rfl ?_
  refine gf_X7_26 (M := M_X7_copyGroundFrom) (pc := 1) rfl dX7_copyGroundFrom_1 ha1 (r := a1 + 4) rfl ?_
  refine aw_iconst (M := M_X7_copyGroundFrom) (pc := 4) dX7_copyGroundFrom_4 ⟨by decide, by decide⟩ ?_
  refine aw_aload_n (j := 0) (M := M_X7_copyGroundFrom) (pc := 5) dX7_copyGroundFrom_5 rfl rfl ?_
  refine gf_X7_26 (M := M_X7_copyGroundFrom) (pc := 6) rfl dX7_copyGroundFrom_6 ho (r := o + 4) rfl ?_
  refine aw_iconst (M := M_X7_copyGroundFrom) (pc := 9) dX7_copyGroundFrom_9 ⟨by decide, by decide⟩ ?_
  refine aw_iconst (M := M_X7_copyGroundFrom) (pc := 10) dX7_copyGroundFrom_10 ⟨by decide, by decide⟩ ?_
  refine aw_copyi (M := M_X7_copyGroundFrom) (pc := 11) dX7_copyGroundFrom_11 ml_X7_29 (ll_7_4 ha1) (ll_7_4 ho) (by decide) (by decide) (Nat.le_of_ble_eq_true rfl) (k1 := 0) (k2 := 0) (k3 := 4) ⟨rfl, rfl, rfl⟩ ?_
  obtain ⟨h1, eh1⟩ : ∃ y : Mem, y = mcpy h (a1 + 4) 0 (o + 4) 0 4 := ⟨_, rfl⟩
  have hF := hF h1 eh1
  rw [← eh1]
  exact aw_ret (M := M_X7_copyGroundFrom) (pc := 14) dX7_copyGroundFrom_14 rfl ⟨rfl, hF⟩
abbrev M_X7_copyFrom : Hd := (cX7_copyFrom, 2, RX7, none, (2, 66), sc0)
def F_X7_copyFrom (h : Mem) (o : Nat) (a1 : Nat) (Q : Mem → Prop) : Prop :=
  (∀ h1 : Mem, h1 = mset h o 0 (h a1 0) → (∀ h2 : Mem, h2 = mcpy h1 (a1 + 1) 0 (o + 1) 0 4 → (∀ h3 : Mem, h3 = mcpy h2 (a1 + 2) 0 (o + 2) 0 4 → (∀ h4 : Mem, h4 = mcpy h3 (a1 + 3) 0 (o + 3) 0 4 → (F_X7_copyGroundFrom h4 o a1 (fun h5 => Q h5))))))
set_option maxRecDepth 100000 in
set_option maxHeartbeats 4000000 in
theorem f_X7_copyFrom {h : Mem} {o : Nat} {a1 : Nat} {Q : Mem → Prop} (ho : lay o = (0, 7)) (ha1 : lay a1 = (0, 7)) (hF : F_X7_copyFrom h o a1 Q) : Ct yX7_copyFrom cX7_copyFrom 2 none (2, 66) [vr o, vr a1] h (qv Q) := by
  refine Ct.of np_RX7 (Nat.le_of_ble_eq_true rfl) ?_
  unfold F_X7_copyFrom at hF
  show AW M_X7_copyFrom 0 [(0, vr o), (1, vr a1)] [] h (qv Q)
  refine aw_aload_n (j := 0) (M := M_X7_copyFrom) (pc := 0) dX7_copyFrom_0 rfl rfl ?_
  refine aw_aload_n (j := 1) (M := M_X7_copyFrom) (pc := 1) dX7_copyFrom_1 rfl rfl ?_
  refine gf_X7_9 (M := M_X7_copyFrom) (pc := 2) rfl dX7_copyFrom_2 ha1 ?_
  refine pf_X7_9 (M := M_X7_copyFrom) (pc := 5) rfl dX7_copyFrom_5 ho ?_
  obtain ⟨h1, eh1⟩ : ∃ y : Mem, y = mset h o 0 (h a1 0) := ⟨_, rfl⟩
  have hF := hF h1 eh1
  rw [← eh1]
  refine aw_aload_n (j := 1) (M := M_X7_copyFrom) (pc := 8) dX7_copyFrom_8 rfl rfl ?_
  refine gf_X7_15 (M := M_X7_copyFrom) (pc := 9) rfl dX7_copyFrom_9 ha1 (r := a1 + 1) rfl ?_
  refine aw_iconst (M := M_X7_copyFrom) (pc := 12) dX7_copyFrom_12 ⟨by decide, by decide⟩ ?_
  refine aw_aload_n (j := 0) (M := M_X7_copyFrom) (pc := 13) dX7_copyFrom_13 rfl rfl ?_
  refine gf_X7_15 (M := M_X7_copyFrom) (pc := 14) rfl dX7_copyFrom_14 ho (r := o + 1) rfl ?_
  refine aw_iconst (M := M_X7_copyFrom) (pc := 17) dX7_copyFrom_17 ⟨by decide, by decide⟩ ?_
  refine aw_iconst (M := M_X7_copyFrom) (pc := 18) dX7_copyFrom_18 ⟨by decide, by decide⟩ ?_
  refine aw_copyl (M := M_X7_copyFrom) (pc := 19) dX7_copyFrom_19 ml_X7_29 (ll_7_1 ha1) (ll_7_1 ho) (by decide) (by decide) (Nat.le_of_ble_eq_true rfl) (k1 := 0) (k2 := 0) (k3 := 4) ⟨rfl, rfl, rfl⟩ ?_
  obtain ⟨h2, eh2⟩ : ∃ y : Mem, y = mcpy h1 (a1 + 1) 0 (o + 1) 0 4 := ⟨_, rfl⟩
  have hF := hF h2 eh2
  rw [← eh2]
  refine aw_aload_n (j := 1) (M := M_X7_copyFrom) (pc := 22) dX7_copyFrom_22 rfl rfl ?_
  refine gf_X7_19 (M := M_X7_copyFrom) (pc := 23) rfl dX7_copyFrom_23 ha1 (r := a1 + 2) rfl ?_
  refine aw_iconst (M := M_X7_copyFrom) (pc := 26) dX7_copyFrom_26 ⟨by decide, by decide⟩ ?_
  refine aw_aload_n (j := 0) (M := M_X7_copyFrom) (pc := 27) dX7_copyFrom_27 rfl rfl ?_
  refine gf_X7_19 (M := M_X7_copyFrom) (pc := 28) rfl dX7_copyFrom_28 ho (r := o + 2) rfl ?_
  refine aw_iconst (M := M_X7_copyFrom) (pc := 31) dX7_copyFrom_31 ⟨by decide, by decide⟩ ?_
  refine aw_iconst (M := M_X7_copyFrom) (pc := 32) dX7_copyFrom_32 ⟨by decide, by decide⟩ ?_
  refine aw_copyi (M := M_X7_copyFrom) (pc := 33) dX7_copyFrom_33 ml_X7_29 (ll_7_2 ha1) (ll_7_2 ho) (by decide) (by decide) (Nat.le_of_ble_eq_true rfl) (k1 := 0) (k2 := 0) (k3 := 4) ⟨rfl, rfl, rfl⟩ ?_
  obtain ⟨h3, eh3⟩ : ∃ y : Mem, y = mcpy h2 (a1 + 2) 0 (o + 2) 0 4 := ⟨_, rfl⟩
  have hF := hF h3 eh3
  rw [← eh3]
  refine aw_aload_n (j := 1) (M := M_X7_copyFrom) (pc := 36) dX7_copyFrom_36 rfl rfl ?_
  refine gf_X7_23 (M := M_X7_copyFrom) (pc := 37) rfl dX7_copyFrom_37 ha1 (r := a1 + 3) rfl ?_
  refine aw_iconst (M := M_X7_copyFrom) (pc := 40) dX7_copyFrom_40 ⟨by decide, by decide⟩ ?_
  refine aw_aload_n (j := 0) (M := M_X7_copyFrom) (pc := 41) dX7_copyFrom_41 rfl rfl ?_
  refine gf_X7_23 (M := M_X7_copyFrom) (pc := 42) rfl dX7_copyFrom_42 ho (r := o + 3) rfl ?_
  refine aw_iconst (M := M_X7_copyFrom) (pc := 45) dX7_copyFrom_45 ⟨by decide, by decide⟩ ?_
  refine aw_iconst (M := M_X7_copyFrom) (pc := 46) dX7_copyFrom_46 ⟨by decide, by decide⟩ ?_
  refine aw_copyi (M := M_X7_copyFrom) (pc := 47) dX7_copyFrom_47 ml_X7_29 (ll_7_3 ha1) (ll_7_3 ho) (by decide) (by decide) (Nat.le_of_ble_eq_true rfl) (k1 := 0) (k2 := 0) (k3 := 4) ⟨rfl, rfl, rfl⟩ ?_
  obtain ⟨h4, eh4⟩ : ∃ y : Mem, y = mcpy h3 (a1 + 3) 0 (o + 3) 0 4 := ⟨_, rfl⟩
  have hF := hF h4 eh4
  rw [← eh4]
  refine aw_aload_n (j := 0) (M := M_X7_copyFrom) (pc := 50) dX7_copyFrom_50 rfl rfl ?_
  refine aw_aload_n (j := 1) (M := M_X7_copyFrom) (pc := 51) dX7_copyFrom_51 rfl rfl ?_
  refine aw_cvv (as := [vr a1]) (st := []) (M := M_X7_copyFrom) (pc := 52) (f_X7_copyGroundFrom ho ha1 hF) dX7_copyFrom_52 rfl (Or.inl ⟨_, _, _, ho, rfl⟩) cy_X7_copyGroundFrom ml_X7_35 (by decide) (by decide) (Nat.le_of_ble_eq_true rfl) (fun h5 hF => ?_)
  exact aw_ret (M := M_X7_copyFrom) (pc := 55) dX7_copyFrom_55 rfl ⟨rfl, hF⟩
abbrev M_X9_copyPlacesFrom : Hd := (cX9_copyPlacesFrom, 2, RX9, none, (1, 45), sc0)
def F_X9_copyPlacesFrom (h : Mem) (o : Nat) (a1 : Nat) (Q : Mem → Prop) : Prop :=
  (∀ h1 : Mem, h1 = mcpy h (a1 + 5) 0 (o + 5) 0 8 → (∀ h2 : Mem, h2 = mcpy h1 (a1 + 6) 0 (o + 6) 0 8 → (∀ h3 : Mem, h3 = mcpy h2 (a1 + 7) 0 (o + 7) 0 8 → (∀ h4 : Mem, h4 = mcpy h3 (a1 + 8) 0 (o + 8) 0 8 → Q h4))))
set_option maxRecDepth 100000 in
set_option maxHeartbeats 4000000 in
theorem f_X9_copyPlacesFrom {h : Mem} {o : Nat} {a1 : Nat} {Q : Mem → Prop} (ho : lay o = (0, 9)) (ha1 : lay a1 = (0, 9)) (hF : F_X9_copyPlacesFrom h o a1 Q) : Ct yX9_copyPlacesFrom cX9_copyPlacesFrom 2 none (1, 45) [vr o, vr a1] h (qv Q) := by
  refine Ct.of np_RX9 (Nat.le_of_ble_eq_true rfl) ?_
  unfold F_X9_copyPlacesFrom at hF
  show AW M_X9_copyPlacesFrom 0 [(0, vr o), (1, vr a1)] [] h (qv Q)
  refine aw_aload_n (j := 1) (M := M_X9_copyPlacesFrom) (pc := 0) dX9_copyPlacesFrom_0 rfl rfl ?_
  refine gf_X9_29 (M := M_X9_copyPlacesFrom) (pc := 1) rfl dX9_copyPlacesFrom_1 ha1 (r := a1 + 5) rfl ?_
  refine aw_iconst (M := M_X9_copyPlacesFrom) (pc := 4) dX9_copyPlacesFrom_4 ⟨by decide, by decide⟩ ?_
  refine aw_aload_n (j := 0) (M := M_X9_copyPlacesFrom) (pc := 5) dX9_copyPlacesFrom_5 rfl rfl ?_
  refine gf_X9_29 (M := M_X9_copyPlacesFrom) (pc := 6) rfl dX9_copyPlacesFrom_6 ho (r := o + 5) rfl ?_
  refine aw_iconst (M := M_X9_copyPlacesFrom) (pc := 9) dX9_copyPlacesFrom_9 ⟨by decide, by decide⟩ ?_
  refine aw_bipush (M := M_X9_copyPlacesFrom) (pc := 10) dX9_copyPlacesFrom_10 ⟨rfl, ⟨by decide, by decide⟩⟩ ?_
  refine aw_copyi (M := M_X9_copyPlacesFrom) (pc := 12) dX9_copyPlacesFrom_12 ml_X9_41 (ll_9_5 ha1) (ll_9_5 ho) (by decide) (by decide) (Nat.le_of_ble_eq_true rfl) (k1 := 0) (k2 := 0) (k3 := 8) ⟨rfl, rfl, rfl⟩ ?_
  obtain ⟨h1, eh1⟩ : ∃ y : Mem, y = mcpy h (a1 + 5) 0 (o + 5) 0 8 := ⟨_, rfl⟩
  have hF := hF h1 eh1
  rw [← eh1]
  refine aw_aload_n (j := 1) (M := M_X9_copyPlacesFrom) (pc := 15) dX9_copyPlacesFrom_15 rfl rfl ?_
  refine gf_X9_32 (M := M_X9_copyPlacesFrom) (pc := 16) rfl dX9_copyPlacesFrom_16 ha1 (r := a1 + 6) rfl ?_
  refine aw_iconst (M := M_X9_copyPlacesFrom) (pc := 19) dX9_copyPlacesFrom_19 ⟨by decide, by decide⟩ ?_
  refine aw_aload_n (j := 0) (M := M_X9_copyPlacesFrom) (pc := 20) dX9_copyPlacesFrom_20 rfl rfl ?_
  refine gf_X9_32 (M := M_X9_copyPlacesFrom) (pc := 21) rfl dX9_copyPlacesFrom_21 ho (r := o + 6) rfl ?_
  refine aw_iconst (M := M_X9_copyPlacesFrom) (pc := 24) dX9_copyPlacesFrom_24 ⟨by decide, by decide⟩ ?_
  refine aw_bipush (M := M_X9_copyPlacesFrom) (pc := 25) dX9_copyPlacesFrom_25 ⟨rfl, ⟨by decide, by decide⟩⟩ ?_
  refine aw_copyi (M := M_X9_copyPlacesFrom) (pc := 27) dX9_copyPlacesFrom_27 ml_X9_41 (ll_9_6 ha1) (ll_9_6 ho) (by decide) (by decide) (Nat.le_of_ble_eq_true rfl) (k1 := 0) (k2 := 0) (k3 := 8) ⟨rfl, rfl, rfl⟩ ?_
  obtain ⟨h2, eh2⟩ : ∃ y : Mem, y = mcpy h1 (a1 + 6) 0 (o + 6) 0 8 := ⟨_, rfl⟩
  have hF := hF h2 eh2
  rw [← eh2]
  refine aw_aload_n (j := 1) (M := M_X9_copyPlacesFrom) (pc := 30) dX9_copyPlacesFrom_30 rfl rfl ?_
  refine gf_X9_35 (M := M_X9_copyPlacesFrom) (pc := 31) rfl dX9_copyPlacesFrom_31 ha1 (r := a1 + 7) rfl ?_
  refine aw_iconst (M := M_X9_copyPlacesFrom) (pc := 34) dX9_copyPlacesFrom_34 ⟨by decide, by decide⟩ ?_
  refine aw_aload_n (j := 0) (M := M_X9_copyPlacesFrom) (pc := 35) dX9_copyPlacesFrom_35 rfl rfl ?_
  refine gf_X9_35 (M := M_X9_copyPlacesFrom) (pc := 36) rfl dX9_copyPlacesFrom_36 ho (r := o + 7) rfl ?_
  refine aw_iconst (M := M_X9_copyPlacesFrom) (pc := 39) dX9_copyPlacesFrom_39 ⟨by decide, by decide⟩ ?_
  refine aw_bipush (M := M_X9_copyPlacesFrom) (pc := 40) dX9_copyPlacesFrom_40 ⟨rfl, ⟨by decide, by decide⟩⟩ ?_
  refine aw_copyi (M := M_X9_copyPlacesFrom) (pc := 42) dX9_copyPlacesFrom_42 ml_X9_41 (ll_9_7 ha1) (ll_9_7 ho) (by decide) (by decide) (Nat.le_of_ble_eq_true rfl) (k1 := 0) (k2 := 0) (k3 := 8) ⟨rfl, rfl, rfl⟩ ?_
  obtain ⟨h3, eh3⟩ : ∃ y : Mem, y = mcpy h2 (a1 + 7) 0 (o + 7) 0 8 := ⟨_, rfl⟩
  have hF := hF h3 eh3
  rw [← eh3]
  refine aw_aload_n (j := 1) (M := M_X9_copyPlacesFrom) (pc := 45) dX9_copyPlacesFrom_45 rfl rfl ?_
  refine gf_X9_38 (M := M_X9_copyPlacesFrom) (pc := 46) rfl dX9_copyPlacesFrom_46 ha1 (r := a1 + 8) rfl ?_
  refine aw_iconst (M := M_X9_copyPlacesFrom) (pc := 49) dX9_copyPlacesFrom_49 ⟨by decide, by decide⟩ ?_
  refine aw_aload_n (j := 0) (M := M_X9_copyPlacesFrom) (pc := 50) dX9_copyPlacesFrom_50 rfl rfl ?_
  refine gf_X9_38 (M := M_X9_copyPlacesFrom) (pc := 51) rfl dX9_copyPlacesFrom_51 ho (r := o + 8) rfl ?_
  refine aw_iconst (M := M_X9_copyPlacesFrom) (pc := 54) dX9_copyPlacesFrom_54 ⟨by decide, by decide⟩ ?_
  refine aw_bipush (M := M_X9_copyPlacesFrom) (pc := 55) dX9_copyPlacesFrom_55 ⟨rfl, ⟨by decide, by decide⟩⟩ ?_
  refine aw_copyi (M := M_X9_copyPlacesFrom) (pc := 57) dX9_copyPlacesFrom_57 ml_X9_41 (ll_9_8 ha1) (ll_9_8 ho) (by decide) (by decide) (Nat.le_of_ble_eq_true rfl) (k1 := 0) (k2 := 0) (k3 := 8) ⟨rfl, rfl, rfl⟩ ?_
  obtain ⟨h4, eh4⟩ : ∃ y : Mem, y = mcpy h3 (a1 + 8) 0 (o + 8) 0 8 := ⟨_, rfl⟩
  have hF := hF h4 eh4
  rw [← eh4]
  exact aw_ret (M := M_X9_copyPlacesFrom) (pc := 60) dX9_copyPlacesFrom_60 rfl ⟨rfl, hF⟩
abbrev M_X9_copyFrom : Hd := (cX9_copyFrom, 2, RX9, none, (2, 66), sc0)
def F_X9_copyFrom (h : Mem) (o : Nat) (a1 : Nat) (Q : Mem → Prop) : Prop :=
  (∀ h1 : Mem, h1 = mset h o 0 (h a1 0) → (∀ h2 : Mem, h2 = mcpy h1 (a1 + 1) 0 (o + 1) 0 8 → (∀ h3 : Mem, h3 = mcpy h2 (a1 + 2) 0 (o + 2) 0 8 → (∀ h4 : Mem, h4 = mcpy h3 (a1 + 3) 0 (o + 3) 0 8 → (∀ h5 : Mem, h5 = mcpy h4 (a1 + 4) 0 (o + 4) 0 8 → (F_X9_copyPlacesFrom h5 o a1 (fun h6 => Q h6)))))))
set_option maxRecDepth 100000 in
set_option maxHeartbeats 4000000 in
theorem f_X9_copyFrom {h : Mem} {o : Nat} {a1 : Nat} {Q : Mem → Prop} (ho : lay o = (0, 9)) (ha1 : lay a1 = (0, 9)) (hF : F_X9_copyFrom h o a1 Q) : Ct yX9_copyFrom cX9_copyFrom 2 none (2, 66) [vr o, vr a1] h (qv Q) := by
  refine Ct.of np_RX9 (Nat.le_of_ble_eq_true rfl) ?_
  unfold F_X9_copyFrom at hF
  show AW M_X9_copyFrom 0 [(0, vr o), (1, vr a1)] [] h (qv Q)
  refine aw_aload_n (j := 0) (M := M_X9_copyFrom) (pc := 0) dX9_copyFrom_0 rfl rfl ?_
  refine aw_aload_n (j := 1) (M := M_X9_copyFrom) (pc := 1) dX9_copyFrom_1 rfl rfl ?_
  refine gf_X9_9 (M := M_X9_copyFrom) (pc := 2) rfl dX9_copyFrom_2 ha1 ?_
  refine pf_X9_9 (M := M_X9_copyFrom) (pc := 5) rfl dX9_copyFrom_5 ho ?_
  obtain ⟨h1, eh1⟩ : ∃ y : Mem, y = mset h o 0 (h a1 0) := ⟨_, rfl⟩
  have hF := hF h1 eh1
  rw [← eh1]
  refine aw_aload_n (j := 1) (M := M_X9_copyFrom) (pc := 8) dX9_copyFrom_8 rfl rfl ?_
  refine gf_X9_15 (M := M_X9_copyFrom) (pc := 9) rfl dX9_copyFrom_9 ha1 (r := a1 + 1) rfl ?_
  refine aw_iconst (M := M_X9_copyFrom) (pc := 12) dX9_copyFrom_12 ⟨by decide, by decide⟩ ?_
  refine aw_aload_n (j := 0) (M := M_X9_copyFrom) (pc := 13) dX9_copyFrom_13 rfl rfl ?_
  refine gf_X9_15 (M := M_X9_copyFrom) (pc := 14) rfl dX9_copyFrom_14 ho (r := o + 1) rfl ?_
  refine aw_iconst (M := M_X9_copyFrom) (pc := 17) dX9_copyFrom_17 ⟨by decide, by decide⟩ ?_
  refine aw_bipush (M := M_X9_copyFrom) (pc := 18) dX9_copyFrom_18 ⟨rfl, ⟨by decide, by decide⟩⟩ ?_
  refine aw_copyl (M := M_X9_copyFrom) (pc := 20) dX9_copyFrom_20 ml_X9_41 (ll_9_1 ha1) (ll_9_1 ho) (by decide) (by decide) (Nat.le_of_ble_eq_true rfl) (k1 := 0) (k2 := 0) (k3 := 8) ⟨rfl, rfl, rfl⟩ ?_
  obtain ⟨h2, eh2⟩ : ∃ y : Mem, y = mcpy h1 (a1 + 1) 0 (o + 1) 0 8 := ⟨_, rfl⟩
  have hF := hF h2 eh2
  rw [← eh2]
  refine aw_aload_n (j := 1) (M := M_X9_copyFrom) (pc := 23) dX9_copyFrom_23 rfl rfl ?_
  refine gf_X9_19 (M := M_X9_copyFrom) (pc := 24) rfl dX9_copyFrom_24 ha1 (r := a1 + 2) rfl ?_
  refine aw_iconst (M := M_X9_copyFrom) (pc := 27) dX9_copyFrom_27 ⟨by decide, by decide⟩ ?_
  refine aw_aload_n (j := 0) (M := M_X9_copyFrom) (pc := 28) dX9_copyFrom_28 rfl rfl ?_
  refine gf_X9_19 (M := M_X9_copyFrom) (pc := 29) rfl dX9_copyFrom_29 ho (r := o + 2) rfl ?_
  refine aw_iconst (M := M_X9_copyFrom) (pc := 32) dX9_copyFrom_32 ⟨by decide, by decide⟩ ?_
  refine aw_bipush (M := M_X9_copyFrom) (pc := 33) dX9_copyFrom_33 ⟨rfl, ⟨by decide, by decide⟩⟩ ?_
  refine aw_copyi (M := M_X9_copyFrom) (pc := 35) dX9_copyFrom_35 ml_X9_41 (ll_9_2 ha1) (ll_9_2 ho) (by decide) (by decide) (Nat.le_of_ble_eq_true rfl) (k1 := 0) (k2 := 0) (k3 := 8) ⟨rfl, rfl, rfl⟩ ?_
  obtain ⟨h3, eh3⟩ : ∃ y : Mem, y = mcpy h2 (a1 + 2) 0 (o + 2) 0 8 := ⟨_, rfl⟩
  have hF := hF h3 eh3
  rw [← eh3]
  refine aw_aload_n (j := 1) (M := M_X9_copyFrom) (pc := 38) dX9_copyFrom_38 rfl rfl ?_
  refine gf_X9_23 (M := M_X9_copyFrom) (pc := 39) rfl dX9_copyFrom_39 ha1 (r := a1 + 3) rfl ?_
  refine aw_iconst (M := M_X9_copyFrom) (pc := 42) dX9_copyFrom_42 ⟨by decide, by decide⟩ ?_
  refine aw_aload_n (j := 0) (M := M_X9_copyFrom) (pc := 43) dX9_copyFrom_43 rfl rfl ?_
  refine gf_X9_23 (M := M_X9_copyFrom) (pc := 44) rfl dX9_copyFrom_44 ho (r := o + 3) rfl ?_
  refine aw_iconst (M := M_X9_copyFrom) (pc := 47) dX9_copyFrom_47 ⟨by decide, by decide⟩ ?_
  refine aw_bipush (M := M_X9_copyFrom) (pc := 48) dX9_copyFrom_48 ⟨rfl, ⟨by decide, by decide⟩⟩ ?_
  refine aw_copyi (M := M_X9_copyFrom) (pc := 50) dX9_copyFrom_50 ml_X9_41 (ll_9_3 ha1) (ll_9_3 ho) (by decide) (by decide) (Nat.le_of_ble_eq_true rfl) (k1 := 0) (k2 := 0) (k3 := 8) ⟨rfl, rfl, rfl⟩ ?_
  obtain ⟨h4, eh4⟩ : ∃ y : Mem, y = mcpy h3 (a1 + 3) 0 (o + 3) 0 8 := ⟨_, rfl⟩
  have hF := hF h4 eh4
  rw [← eh4]
  refine aw_aload_n (j := 1) (M := M_X9_copyFrom) (pc := 53) dX9_copyFrom_53 rfl rfl ?_
  refine gf_X9_26 (M := M_X9_copyFrom) (pc := 54) rfl dX9_copyFrom_54 ha1 (r := a1 + 4) rfl ?_
  refine aw_iconst (M := M_X9_copyFrom) (pc := 57) dX9_copyFrom_57 ⟨by decide, by decide⟩ ?_
  refine aw_aload_n (j := 0) (M := M_X9_copyFrom) (pc := 58) dX9_copyFrom_58 rfl rfl ?_
  refine gf_X9_26 (M := M_X9_copyFrom) (pc := 59) rfl dX9_copyFrom_59 ho (r := o + 4) rfl ?_
  refine aw_iconst (M := M_X9_copyFrom) (pc := 62) dX9_copyFrom_62 ⟨by decide, by decide⟩ ?_
  refine aw_bipush (M := M_X9_copyFrom) (pc := 63) dX9_copyFrom_63 ⟨rfl, ⟨by decide, by decide⟩⟩ ?_
  refine aw_copyi (M := M_X9_copyFrom) (pc := 65) dX9_copyFrom_65 ml_X9_41 (ll_9_4 ha1) (ll_9_4 ho) (by decide) (by decide) (Nat.le_of_ble_eq_true rfl) (k1 := 0) (k2 := 0) (k3 := 8) ⟨rfl, rfl, rfl⟩ ?_
  obtain ⟨h5, eh5⟩ : ∃ y : Mem, y = mcpy h4 (a1 + 4) 0 (o + 4) 0 8 := ⟨_, rfl⟩
  have hF := hF h5 eh5
  rw [← eh5]
  refine aw_aload_n (j := 0) (M := M_X9_copyFrom) (pc := 68) dX9_copyFrom_68 rfl rfl ?_
  refine aw_aload_n (j := 1) (M := M_X9_copyFrom) (pc := 69) dX9_copyFrom_69 rfl rfl ?_
  refine aw_cvv (as := [vr a1]) (st := []) (M := M_X9_copyFrom) (pc := 70) (f_X9_copyPlacesFrom ho ha1 hF) dX9_copyFrom_70 rfl (Or.inl ⟨_, _, _, ho, rfl⟩) cy_X9_copyPlacesFrom ml_X9_47 (by decide) (by decide) (Nat.le_of_ble_eq_true rfl) (fun h6 hF => ?_)
  exact aw_ret (M := M_X9_copyFrom) (pc := 73) dX9_copyFrom_73 rfl ⟨rfl, hF⟩
abbrev M_X4_copyFrom : Hd := (cX4_copyFrom, 2, RX4, none, (3, 87), sc0)
def F_X4_copyFrom (h : Mem) (o : Nat) (a1 : Nat) (Q : Mem → Prop) : Prop :=
  (∀ h1 : Mem, h1 = mset h o 0 (h a1 0) → (∀ h2 : Mem, h2 = mset h1 o 1 (h1 a1 1) → (∀ h3 : Mem, h3 = mset h2 o 2 (h2 a1 2) → (∀ h4 : Mem, h4 = mset h3 o 3 (h3 a1 3) → (∀ h5 : Mem, h5 = mset h4 o 4 (h4 a1 4) → (∀ h6 : Mem, h6 = mset h5 o 5 (h5 a1 5) → (∀ h7 : Mem, h7 = mset h6 o 6 (h6 a1 6) → (F_X9_copyFrom h7 (o + 1) (a1 + 1) (fun h8 => (F_X7_copyFrom h8 (o + 10) (a1 + 10) (fun h10 => Q h10)))))))))))
set_option maxRecDepth 100000 in
set_option maxHeartbeats 4000000 in
theorem f_X4_copyFrom {h : Mem} {o : Nat} {a1 : Nat} {Q : Mem → Prop} (ho : lay o = (0, 4)) (ha1 : lay a1 = (0, 4)) (hF : F_X4_copyFrom h o a1 Q) : Ct yX4_copyFrom cX4_copyFrom 2 none (3, 87) [vr o, vr a1] h (qv Q) := by
  refine Ct.of np_RX4 (Nat.le_of_ble_eq_true rfl) ?_
  unfold F_X4_copyFrom at hF
  show AW M_X4_copyFrom 0 [(0, vr o), (1, vr a1)] [] h (qv Q)
  refine aw_aload_n (j := 0) (M := M_X4_copyFrom) (pc := 0) dX4_copyFrom_0 rfl rfl ?_
  refine aw_aload_n (j := 1) (M := M_X4_copyFrom) (pc := 1) dX4_copyFrom_1 rfl rfl ?_
  refine gf_X4_28 (M := M_X4_copyFrom) (pc := 2) rfl dX4_copyFrom_2 ha1 ?_
  refine pf_X4_28 (M := M_X4_copyFrom) (pc := 5) rfl dX4_copyFrom_5 ho ?_
  obtain ⟨h1, eh1⟩ : ∃ y : Mem, y = mset h o 0 (h a1 0) := ⟨_, rfl⟩
  have hF := hF h1 eh1
  rw [← eh1]
  refine aw_aload_n (j := 0) (M := M_X4_copyFrom) (pc := 8) dX4_copyFrom_8 rfl rfl ?_
  refine aw_aload_n (j := 1) (M := M_X4_copyFrom) (pc := 9) dX4_copyFrom_9 rfl rfl ?_
  refine gf_X4_32 (M := M_X4_copyFrom) (pc := 10) rfl dX4_copyFrom_10 ha1 ?_
  refine pf_X4_32 (M := M_X4_copyFrom) (pc := 13) rfl dX4_copyFrom_13 ho ?_
  obtain ⟨h2, eh2⟩ : ∃ y : Mem, y = mset h1 o 1 (h1 a1 1) := ⟨_, rfl⟩
  have hF := hF h2 eh2
  rw [← eh2]
  refine aw_aload_n (j := 0) (M := M_X4_copyFrom) (pc := 16) dX4_copyFrom_16 rfl rfl ?_
  refine aw_aload_n (j := 1) (M := M_X4_copyFrom) (pc := 17) dX4_copyFrom_17 rfl rfl ?_
  refine gf_X4_35 (M := M_X4_copyFrom) (pc := 18) rfl dX4_copyFrom_18 ha1 ?_
  refine pf_X4_35 (M := M_X4_copyFrom) (pc := 21) rfl dX4_copyFrom_21 ho ?_
  obtain ⟨h3, eh3⟩ : ∃ y : Mem, y = mset h2 o 2 (h2 a1 2) := ⟨_, rfl⟩
  have hF := hF h3 eh3
  rw [← eh3]
  refine aw_aload_n (j := 0) (M := M_X4_copyFrom) (pc := 24) dX4_copyFrom_24 rfl rfl ?_
  refine aw_aload_n (j := 1) (M := M_X4_copyFrom) (pc := 25) dX4_copyFrom_25 rfl rfl ?_
  refine gf_X4_38 (M := M_X4_copyFrom) (pc := 26) rfl dX4_copyFrom_26 ha1 ?_
  refine pf_X4_38 (M := M_X4_copyFrom) (pc := 29) rfl dX4_copyFrom_29 ho ?_
  obtain ⟨h4, eh4⟩ : ∃ y : Mem, y = mset h3 o 3 (h3 a1 3) := ⟨_, rfl⟩
  have hF := hF h4 eh4
  rw [← eh4]
  refine aw_aload_n (j := 0) (M := M_X4_copyFrom) (pc := 32) dX4_copyFrom_32 rfl rfl ?_
  refine aw_aload_n (j := 1) (M := M_X4_copyFrom) (pc := 33) dX4_copyFrom_33 rfl rfl ?_
  refine gf_X4_41 (M := M_X4_copyFrom) (pc := 34) rfl dX4_copyFrom_34 ha1 ?_
  refine pf_X4_41 (M := M_X4_copyFrom) (pc := 37) rfl dX4_copyFrom_37 ho ?_
  obtain ⟨h5, eh5⟩ : ∃ y : Mem, y = mset h4 o 4 (h4 a1 4) := ⟨_, rfl⟩
  have hF := hF h5 eh5
  rw [← eh5]
  refine aw_aload_n (j := 0) (M := M_X4_copyFrom) (pc := 40) dX4_copyFrom_40 rfl rfl ?_
  refine aw_aload_n (j := 1) (M := M_X4_copyFrom) (pc := 41) dX4_copyFrom_41 rfl rfl ?_
  refine gf_X4_44 (M := M_X4_copyFrom) (pc := 42) rfl dX4_copyFrom_42 ha1 ?_
  refine pf_X4_44 (M := M_X4_copyFrom) (pc := 45) rfl dX4_copyFrom_45 ho ?_
  obtain ⟨h6, eh6⟩ : ∃ y : Mem, y = mset h5 o 5 (h5 a1 5) := ⟨_, rfl⟩
  have hF := hF h6 eh6
  rw [← eh6]
  refine aw_aload_n (j := 0) (M := M_X4_copyFrom) (pc := 48) dX4_copyFrom_48 rfl rfl ?_
  refine aw_aload_n (j := 1) (M := M_X4_copyFrom) (pc := 49) dX4_copyFrom_49 rfl rfl ?_
  refine gf_X4_47 (M := M_X4_copyFrom) (pc := 50) rfl dX4_copyFrom_50 ha1 ?_
  refine pf_X4_47 (M := M_X4_copyFrom) (pc := 53) rfl dX4_copyFrom_53 ho ?_
  obtain ⟨h7, eh7⟩ : ∃ y : Mem, y = mset h6 o 6 (h6 a1 6) := ⟨_, rfl⟩
  have hF := hF h7 eh7
  rw [← eh7]
  refine aw_aload_n (j := 0) (M := M_X4_copyFrom) (pc := 56) dX4_copyFrom_56 rfl rfl ?_
  refine gf_X4_12 (M := M_X4_copyFrom) (pc := 57) rfl dX4_copyFrom_57 ho (r := o + 1) rfl ?_
  refine aw_aload_n (j := 1) (M := M_X4_copyFrom) (pc := 60) dX4_copyFrom_60 rfl rfl ?_
  refine gf_X4_12 (M := M_X4_copyFrom) (pc := 61) rfl dX4_copyFrom_61 ha1 (r := a1 + 1) rfl ?_
  refine aw_cvv (as := [vr (a1 + 1)]) (st := []) (M := M_X4_copyFrom) (pc := 64) (f_X9_copyFrom (ll_4_7 ho) (ll_4_7 ha1) hF) dX4_copyFrom_64 rfl (Or.inl ⟨_, _, _, (ll_4_7 ho), rfl⟩) cy_X9_copyFrom ml_X4_54 (by decide) (by decide) (Nat.le_of_ble_eq_true rfl) (fun h8 hF => ?_)
  refine aw_aload_n (j := 0) (M := M_X4_copyFrom) (pc := 67) dX4_copyFrom_67 rfl rfl ?_
  refine gf_X4_21 (M := M_X4_copyFrom) (pc := 68) rfl dX4_copyFrom_68 ho (r := o + 10) rfl ?_
  refine aw_aload_n (j := 1) (M := M_X4_copyFrom) (pc := 71) dX4_copyFrom_71 rfl rfl ?_
  refine gf_X4_21 (M := M_X4_copyFrom) (pc := 72) rfl dX4_copyFrom_72 ha1 (r := a1 + 10) rfl ?_
  refine aw_cvv (as := [vr (a1 + 10)]) (st := []) (M := M_X4_copyFrom) (pc := 75) (f_X7_copyFrom (ll_4_8 ho) (ll_4_8 ha1) hF) dX4_copyFrom_75 rfl (Or.inl ⟨_, _, _, (ll_4_8 ho), rfl⟩) cy_X7_copyFrom ml_X4_58 (by decide) (by decide) (Nat.le_of_ble_eq_true rfl) (fun h10 hF => ?_)
  exact aw_ret (M := M_X4_copyFrom) (pc := 78) dX4_copyFrom_78 rfl ⟨rfl, hF⟩
abbrev M_X4_goBackTo : Hd := (cX4_goBackTo, 2, RX4, none, (2, 66), sc0)
def F_X4_goBackTo (h : Mem) (o : Nat) (a1 : Nat) (Q : Mem → Prop) : Prop :=
  (∀ h1 : Mem, h1 = mset h o 3 (h a1 3) → (∀ h2 : Mem, h2 = mset h1 o 4 (h1 a1 4) → (∀ h3 : Mem, h3 = mset h2 o 5 (h2 a1 5) → (∀ h4 : Mem, h4 = mset h3 o 6 (h3 a1 6) → (F_X9_copyPlacesFrom h4 (o + 1) (a1 + 1) (fun h5 => (F_X7_copyGroundFrom h5 (o + 10) (a1 + 10) (fun h7 => Q h7))))))))
set_option maxRecDepth 100000 in
set_option maxHeartbeats 4000000 in
theorem f_X4_goBackTo {h : Mem} {o : Nat} {a1 : Nat} {Q : Mem → Prop} (ho : lay o = (0, 4)) (ha1 : lay a1 = (0, 4)) (hF : F_X4_goBackTo h o a1 Q) : Ct yX4_goBackTo cX4_goBackTo 2 none (2, 66) [vr o, vr a1] h (qv Q) := by
  refine Ct.of np_RX4 (Nat.le_of_ble_eq_true rfl) ?_
  unfold F_X4_goBackTo at hF
  show AW M_X4_goBackTo 0 [(0, vr o), (1, vr a1)] [] h (qv Q)
  refine aw_aload_n (j := 0) (M := M_X4_goBackTo) (pc := 0) dX4_goBackTo_0 rfl rfl ?_
  refine aw_aload_n (j := 1) (M := M_X4_goBackTo) (pc := 1) dX4_goBackTo_1 rfl rfl ?_
  refine gf_X4_38 (M := M_X4_goBackTo) (pc := 2) rfl dX4_goBackTo_2 ha1 ?_
  refine pf_X4_38 (M := M_X4_goBackTo) (pc := 5) rfl dX4_goBackTo_5 ho ?_
  obtain ⟨h1, eh1⟩ : ∃ y : Mem, y = mset h o 3 (h a1 3) := ⟨_, rfl⟩
  have hF := hF h1 eh1
  rw [← eh1]
  refine aw_aload_n (j := 0) (M := M_X4_goBackTo) (pc := 8) dX4_goBackTo_8 rfl rfl ?_
  refine aw_aload_n (j := 1) (M := M_X4_goBackTo) (pc := 9) dX4_goBackTo_9 rfl rfl ?_
  refine gf_X4_41 (M := M_X4_goBackTo) (pc := 10) rfl dX4_goBackTo_10 ha1 ?_
  refine pf_X4_41 (M := M_X4_goBackTo) (pc := 13) rfl dX4_goBackTo_13 ho ?_
  obtain ⟨h2, eh2⟩ : ∃ y : Mem, y = mset h1 o 4 (h1 a1 4) := ⟨_, rfl⟩
  have hF := hF h2 eh2
  rw [← eh2]
  refine aw_aload_n (j := 0) (M := M_X4_goBackTo) (pc := 16) dX4_goBackTo_16 rfl rfl ?_
  refine aw_aload_n (j := 1) (M := M_X4_goBackTo) (pc := 17) dX4_goBackTo_17 rfl rfl ?_
  refine gf_X4_44 (M := M_X4_goBackTo) (pc := 18) rfl dX4_goBackTo_18 ha1 ?_
  refine pf_X4_44 (M := M_X4_goBackTo) (pc := 21) rfl dX4_goBackTo_21 ho ?_
  obtain ⟨h3, eh3⟩ : ∃ y : Mem, y = mset h2 o 5 (h2 a1 5) := ⟨_, rfl⟩
  have hF := hF h3 eh3
  rw [← eh3]
  refine aw_aload_n (j := 0) (M := M_X4_goBackTo) (pc := 24) dX4_goBackTo_24 rfl rfl ?_
  refine aw_aload_n (j := 1) (M := M_X4_goBackTo) (pc := 25) dX4_goBackTo_25 rfl rfl ?_
  refine gf_X4_47 (M := M_X4_goBackTo) (pc := 26) rfl dX4_goBackTo_26 ha1 ?_
  refine pf_X4_47 (M := M_X4_goBackTo) (pc := 29) rfl dX4_goBackTo_29 ho ?_
  obtain ⟨h4, eh4⟩ : ∃ y : Mem, y = mset h3 o 6 (h3 a1 6) := ⟨_, rfl⟩
  have hF := hF h4 eh4
  rw [← eh4]
  refine aw_aload_n (j := 0) (M := M_X4_goBackTo) (pc := 32) dX4_goBackTo_32 rfl rfl ?_
  refine gf_X4_12 (M := M_X4_goBackTo) (pc := 33) rfl dX4_goBackTo_33 ho (r := o + 1) rfl ?_
  refine aw_aload_n (j := 1) (M := M_X4_goBackTo) (pc := 36) dX4_goBackTo_36 rfl rfl ?_
  refine gf_X4_12 (M := M_X4_goBackTo) (pc := 37) rfl dX4_goBackTo_37 ha1 (r := a1 + 1) rfl ?_
  refine aw_cvv (as := [vr (a1 + 1)]) (st := []) (M := M_X4_goBackTo) (pc := 40) (f_X9_copyPlacesFrom (ll_4_7 ho) (ll_4_7 ha1) hF) dX4_goBackTo_40 rfl (Or.inl ⟨_, _, _, (ll_4_7 ho), rfl⟩) cy_X9_copyPlacesFrom ml_X4_61 (by decide) (by decide) (Nat.le_of_ble_eq_true rfl) (fun h5 hF => ?_)
  refine aw_aload_n (j := 0) (M := M_X4_goBackTo) (pc := 43) dX4_goBackTo_43 rfl rfl ?_
  refine gf_X4_21 (M := M_X4_goBackTo) (pc := 44) rfl dX4_goBackTo_44 ho (r := o + 10) rfl ?_
  refine aw_aload_n (j := 1) (M := M_X4_goBackTo) (pc := 47) dX4_goBackTo_47 rfl rfl ?_
  refine gf_X4_21 (M := M_X4_goBackTo) (pc := 48) rfl dX4_goBackTo_48 ha1 (r := a1 + 10) rfl ?_
  refine aw_cvv (as := [vr (a1 + 10)]) (st := []) (M := M_X4_goBackTo) (pc := 51) (f_X7_copyGroundFrom (ll_4_8 ho) (ll_4_8 ha1) hF) dX4_goBackTo_51 rfl (Or.inl ⟨_, _, _, (ll_4_8 ho), rfl⟩) cy_X7_copyGroundFrom ml_X4_64 (by decide) (by decide) (Nat.le_of_ble_eq_true rfl) (fun h7 hF => ?_)
  exact aw_ret (M := M_X4_goBackTo) (pc := 54) dX4_goBackTo_54 rfl ⟨rfl, hF⟩
abbrev M_X4_goalCell : Hd := (cX4_goalCell, 2, RX4, (some .int), (1, 45), sc0)
def F_X4_goalCell (h : Mem) (o : Nat) (a1 : Int) (Q : Int → Mem → Prop) : Prop :=
  ((¬ (a1 = (-1)) → ((0 ≤ a1 ∧ a1 < 8) ∧ Q (h ((o + 1) + 6) (a1).toNat) h)) ∧ (a1 = (-1) → (InR ((h o 0) - 1) ∧ Q ((h o 0) - 1) h)))
set_option maxRecDepth 100000 in
set_option maxHeartbeats 4000000 in
theorem f_X4_goalCell {h : Mem} {o : Nat} {a1 : Int} {Q : Int → Mem → Prop} (ho : lay o = (0, 4)) (hF : F_X4_goalCell h o a1 Q) : Ct yX4_goalCell cX4_goalCell 2 (some .int) (1, 45) [vr o, (0, a1)] h (qi Q) := by
  refine Ct.of np_RX4 (Nat.le_of_ble_eq_true rfl) ?_
  unfold F_X4_goalCell at hF
  show AW M_X4_goalCell 0 [(0, vr o), (1, (0, a1))] [] h (qi Q)
  refine aw_iload_n (j := 1) (M := M_X4_goalCell) (pc := 0) dX4_goalCell_0 rfl rfl ?_
  refine aw_iconst (M := M_X4_goalCell) (pc := 1) dX4_goalCell_1 ⟨by decide, by decide⟩ ?_
  refine aw_icmp_ne (tgt := 14) (M := M_X4_goalCell) (pc := 2) dX4_goalCell_2 rfl (fun hc => ?_) (fun hc => ?_)
  · have hF := hF.1 hc
    refine aw_aload_n (j := 0) (M := M_X4_goalCell) (pc := 14) dX4_goalCell_14 rfl rfl ?_
    refine gf_X4_12 (M := M_X4_goalCell) (pc := 15) rfl dX4_goalCell_15 ho (r := o + 1) rfl ?_
    refine gf_X4_67 (M := M_X4_goalCell) (pc := 18) rfl dX4_goalCell_18 (ll_4_7 ho) (r := (o + 1) + 6) rfl ?_
    refine aw_iload_n (j := 1) (M := M_X4_goalCell) (pc := 21) dX4_goalCell_21 rfl rfl ?_
    obtain ⟨o2, hF⟩ := hF
    refine aw_iald (k := (a1).toNat) (M := M_X4_goalCell) (pc := 22) dX4_goalCell_22 (ll_9_6 (ll_4_7 ho)) o2 rfl ?_
    exact aw_ireti (M := M_X4_goalCell) (pc := 23) dX4_goalCell_23 rfl ⟨_, rfl, hF⟩
  · have hF := hF.2 hc
    refine aw_aload_n (j := 0) (M := M_X4_goalCell) (pc := 5) dX4_goalCell_5 rfl rfl ?_
    refine gf_X4_28 (M := M_X4_goalCell) (pc := 6) rfl dX4_goalCell_6 ho ?_
    refine aw_iconst (M := M_X4_goalCell) (pc := 9) dX4_goalCell_9 ⟨by decide, by decide⟩ ?_
    obtain ⟨o3, hF⟩ := hF
    refine aw_isub (M := M_X4_goalCell) (pc := 10) dX4_goalCell_10 rfl o3 ?_
    refine aw_goto (tgt := 23) (M := M_X4_goalCell) (pc := 11) dX4_goalCell_11 rfl ?_
    exact aw_ireti (M := M_X4_goalCell) (pc := 23) dX4_goalCell_23 rfl ⟨_, rfl, hF⟩
abbrev M_X7_grindAt : Hd := (cX7_grindAt, 4, RX7, none, (1, 45), sc0)
def L_X7_grindAt_2 (h : Mem) (v0 : Nat) (v1 : Int) (v2 : Int) (v3 : Int) (Q : Mem → Prop) : Prop := AW M_X7_grindAt 2 [(0, vr v0), (1, (0, v1)), (2, (0, v2)), (3, (0, v3))] [] h (qv Q)
def J_X7_grindAt_40 (h : Mem) (v0 : Nat) (v1 : Int) (v2 : Int) (v3 : Int) (Q : Mem → Prop) : Prop :=
  ((0 ≤ v3 ∧ v3 < 4) ∧ (InR ((h (v0 + 4) (v3).toNat) + 1) ∧ (∀ h10 : Mem, h10 = mset h (v0 + 4) (v3).toNat ((h (v0 + 4) (v3).toNat) + 1) → (InR (v3 + 1) ∧ L_X7_grindAt_2 h10 v0 v1 v2 (v3 + 1) Q))))
set_option maxRecDepth 100000 in
set_option maxHeartbeats 4000000 in
theorem j_X7_grindAt_40 {h : Mem} {v0 : Nat} {v1 : Int} {v2 : Int} {v3 : Int} {Q : Mem → Prop} (hv0 : lay v0 = (0, 7)) (hF : J_X7_grindAt_40 h v0 v1 v2 v3 Q) : AW M_X7_grindAt 40 [(0, vr v0), (1, (0, v1)), (2, (0, v2)), (3, (0, v3))] [] h (qv Q) := by
  unfold J_X7_grindAt_40 at hF
  refine aw_aload_n (j := 0) (M := M_X7_grindAt) (pc := 40) dX7_grindAt_40 rfl rfl ?_
  refine gf_X7_26 (M := M_X7_grindAt) (pc := 41) rfl dX7_grindAt_41 hv0 (r := v0 + 4) rfl ?_
  refine aw_iload_n (j := 3) (M := M_X7_grindAt) (pc := 44) dX7_grindAt_44 rfl rfl ?_
  refine aw_dup2 (M := M_X7_grindAt) (pc := 45) dX7_grindAt_45 rfl rfl ?_
  obtain ⟨o8, hF⟩ := hF
  refine aw_iald (k := (v3).toNat) (M := M_X7_grindAt) (pc := 46) dX7_grindAt_46 (ll_7_4 hv0) o8 rfl ?_
  refine aw_iconst (M := M_X7_grindAt) (pc := 47) dX7_grindAt_47 ⟨by decide, by decide⟩ ?_
  obtain ⟨o9, hF⟩ := hF
  refine aw_iadd (M := M_X7_grindAt) (pc := 48) dX7_grindAt_48 rfl o9 ?_
  refine aw_iast (k := (v3).toNat) (M := M_X7_grindAt) (pc := 49) dX7_grindAt_49 (ll_7_4 hv0) o8 rfl ?_
  obtain ⟨h10, eh10⟩ : ∃ y : Mem, y = mset h (v0 + 4) (v3).toNat ((h (v0 + 4) (v3).toNat) + 1) := ⟨_, rfl⟩
  have hF := hF h10 eh10
  rw [← eh10]
  obtain ⟨o11, hF⟩ := hF
  refine aw_iinc (j := 3) (x := v3) (r := v3 + 1) (ls' := [(3, (0, v3 + 1)), (0, vr v0), (1, (0, v1)), (2, (0, v2))]) (M := M_X7_grindAt) (pc := 50) dX7_grindAt_50 rfl rfl o11 (by decide) rfl ?_
  refine aw_goto (tgt := 2) (M := M_X7_grindAt) (pc := 53) dX7_grindAt_53 rfl ?_
  exact aw_ls [1, 2, 3, 0] rfl hF
def B_X7_grindAt_2 (h : Mem) (v0 : Nat) (v1 : Int) (v2 : Int) (v3 : Int) (Q : Mem → Prop) : Prop :=
  (((h v0 0) ≤ v3 → Q h) ∧ (¬ ((h v0 0) ≤ v3) → ((0 ≤ v3 ∧ v3 < 4) ∧ ((¬ ((h (v0 + 2) (v3).toNat) = v1) → (InR (v3 + 1) ∧ L_X7_grindAt_2 h v0 v1 v2 (v3 + 1) Q)) ∧ ((h (v0 + 2) (v3).toNat) = v1 → (((h (v0 + 3) (v3).toNat) = 2 → J_X7_grindAt_40 h v0 v1 v2 v3 Q) ∧ (¬ ((h (v0 + 3) (v3).toNat) = 2) → ((¬ ((h (v0 + 3) (v3).toNat) = v2) → (InR (v3 + 1) ∧ L_X7_grindAt_2 h v0 v1 v2 (v3 + 1) Q)) ∧ ((h (v0 + 3) (v3).toNat) = v2 → J_X7_grindAt_40 h v0 v1 v2 v3 Q)))))))))
set_option maxRecDepth 100000 in
set_option maxHeartbeats 4000000 in
theorem l_X7_grindAt_2 {h : Mem} {v0 : Nat} {v1 : Int} {v2 : Int} {v3 : Int} {Q : Mem → Prop} (hv0 : lay v0 = (0, 7)) (hF : B_X7_grindAt_2 h v0 v1 v2 v3 Q) : L_X7_grindAt_2 h v0 v1 v2 v3 Q := by
  unfold B_X7_grindAt_2 at hF
  show AW M_X7_grindAt 2 [(0, vr v0), (1, (0, v1)), (2, (0, v2)), (3, (0, v3))] [] h (qv Q)
  refine aw_iload_n (j := 3) (M := M_X7_grindAt) (pc := 2) dX7_grindAt_2 rfl rfl ?_
  refine aw_aload_n (j := 0) (M := M_X7_grindAt) (pc := 3) dX7_grindAt_3 rfl rfl ?_
  refine gf_X7_9 (M := M_X7_grindAt) (pc := 4) rfl dX7_grindAt_4 hv0 ?_
  refine aw_icmp_ge (tgt := 56) (M := M_X7_grindAt) (pc := 7) dX7_grindAt_7 rfl (fun hc => ?_) (fun hc => ?_)
  · have hF := hF.1 hc
    exact aw_ret (M := M_X7_grindAt) (pc := 56) dX7_grindAt_56 rfl ⟨rfl, hF⟩
  · have hF := hF.2 hc
    refine aw_aload_n (j := 0) (M := M_X7_grindAt) (pc := 10) dX7_grindAt_10 rfl rfl ?_
    refine gf_X7_19 (M := M_X7_grindAt) (pc := 11) rfl dX7_grindAt_11 hv0 (r := v0 + 2) rfl ?_
    refine aw_iload_n (j := 3) (M := M_X7_grindAt) (pc := 14) dX7_grindAt_14 rfl rfl ?_
    obtain ⟨o2, hF⟩ := hF
    refine aw_iald (k := (v3).toNat) (M := M_X7_grindAt) (pc := 15) dX7_grindAt_15 (ll_7_2 hv0) o2 rfl ?_
    refine aw_iload_n (j := 1) (M := M_X7_grindAt) (pc := 16) dX7_grindAt_16 rfl rfl ?_
    refine aw_icmp_ne (tgt := 50) (M := M_X7_grindAt) (pc := 17) dX7_grindAt_17 rfl (fun hc => ?_) (fun hc => ?_)
    · have hF := hF.1 hc
      obtain ⟨o3, hF⟩ := hF
      refine aw_iinc (j := 3) (x := v3) (r := v3 + 1) (ls' := [(3, (0, v3 + 1)), (0, vr v0), (1, (0, v1)), (2, (0, v2))]) (M := M_X7_grindAt) (pc := 50) dX7_grindAt_50 rfl rfl o3 (by decide) rfl ?_
      refine aw_goto (tgt := 2) (M := M_X7_grindAt) (pc := 53) dX7_grindAt_53 rfl ?_
      exact aw_ls [1, 2, 3, 0] rfl hF
    · have hF := hF.2 hc
      refine aw_aload_n (j := 0) (M := M_X7_grindAt) (pc := 20) dX7_grindAt_20 rfl rfl ?_
      refine gf_X7_23 (M := M_X7_grindAt) (pc := 21) rfl dX7_grindAt_21 hv0 (r := v0 + 3) rfl ?_
      refine aw_iload_n (j := 3) (M := M_X7_grindAt) (pc := 24) dX7_grindAt_24 rfl rfl ?_
      refine aw_iald (k := (v3).toNat) (M := M_X7_grindAt) (pc := 25) dX7_grindAt_25 (ll_7_3 hv0) o2 rfl ?_
      refine aw_iconst (M := M_X7_grindAt) (pc := 26) dX7_grindAt_26 ⟨by decide, by decide⟩ ?_
      refine aw_icmp_eq (tgt := 40) (M := M_X7_grindAt) (pc := 27) dX7_grindAt_27 rfl (fun hc => ?_) (fun hc => ?_)
      · have hF := hF.1 hc
        exact aw_ls [0, 1, 2, 3] rfl (j_X7_grindAt_40 hv0 hF)
      · have hF := hF.2 hc
        refine aw_aload_n (j := 0) (M := M_X7_grindAt) (pc := 30) dX7_grindAt_30 rfl rfl ?_
        refine gf_X7_23 (M := M_X7_grindAt) (pc := 31) rfl dX7_grindAt_31 hv0 (r := v0 + 3) rfl ?_
        refine aw_iload_n (j := 3) (M := M_X7_grindAt) (pc := 34) dX7_grindAt_34 rfl rfl ?_
        refine aw_iald (k := (v3).toNat) (M := M_X7_grindAt) (pc := 35) dX7_grindAt_35 (ll_7_3 hv0) o2 rfl ?_
        refine aw_iload_n (j := 2) (M := M_X7_grindAt) (pc := 36) dX7_grindAt_36 rfl rfl ?_
        refine aw_icmp_ne (tgt := 50) (M := M_X7_grindAt) (pc := 37) dX7_grindAt_37 rfl (fun hc => ?_) (fun hc => ?_)
        · have hF := hF.1 hc
          obtain ⟨o6, hF⟩ := hF
          refine aw_iinc (j := 3) (x := v3) (r := v3 + 1) (ls' := [(3, (0, v3 + 1)), (0, vr v0), (1, (0, v1)), (2, (0, v2))]) (M := M_X7_grindAt) (pc := 50) dX7_grindAt_50 rfl rfl o6 (by decide) rfl ?_
          refine aw_goto (tgt := 2) (M := M_X7_grindAt) (pc := 53) dX7_grindAt_53 rfl ?_
          exact aw_ls [1, 2, 3, 0] rfl hF
        · have hF := hF.2 hc
          exact aw_ls [0, 1, 2, 3] rfl (j_X7_grindAt_40 hv0 hF)
def F_X7_grindAt (h : Mem) (o : Nat) (a1 : Int) (a2 : Int) (Q : Mem → Prop) : Prop :=
  L_X7_grindAt_2 h o a1 a2 0 Q
set_option maxRecDepth 100000 in
set_option maxHeartbeats 4000000 in
theorem f_X7_grindAt {h : Mem} {o : Nat} {a1 : Int} {a2 : Int} {Q : Mem → Prop} (ho : lay o = (0, 7)) (hF : F_X7_grindAt h o a1 a2 Q) : Ct yX7_grindAt cX7_grindAt 4 none (1, 45) [vr o, (0, a1), (0, a2)] h (qv Q) := by
  refine Ct.of np_RX7 (Nat.le_of_ble_eq_true rfl) ?_
  unfold F_X7_grindAt at hF
  show AW M_X7_grindAt 0 [(0, vr o), (1, (0, a1)), (2, (0, a2))] [] h (qv Q)
  refine aw_iconst (M := M_X7_grindAt) (pc := 0) dX7_grindAt_0 ⟨by decide, by decide⟩ ?_
  refine aw_istore_n (ls' := [(3, (0, 0)), (0, vr o), (1, (0, a1)), (2, (0, a2))]) (M := M_X7_grindAt) (pc := 1) dX7_grindAt_1 rfl (by decide) rfl ?_
  exact aw_ls [1, 2, 3, 0] rfl hF
abbrev M_X9_carriedWeight : Hd := (cX9_carriedWeight, 3, RX9, (some .int), (1, 45), sc0)
def L_X9_carriedWeight_4 (h : Mem) (v0 : Nat) (v1 : Int) (v2 : Int) (Q : Int → Mem → Prop) : Prop := AW M_X9_carriedWeight 4 [(0, vr v0), (1, (0, v1)), (2, (0, v2))] [] h (qi Q)
def B_X9_carriedWeight_4 (h : Mem) (v0 : Nat) (v1 : Int) (v2 : Int) (Q : Int → Mem → Prop) : Prop :=
  (((h v0 0) ≤ v2 → Q v1 h) ∧ (¬ ((h v0 0) ≤ v2) → ((0 ≤ v2 ∧ v2 < 8) ∧ ((¬ ((h (v0 + 5) (v2).toNat) = 2) → (InR (v2 + 1) ∧ L_X9_carriedWeight_4 h v0 v1 (v2 + 1) Q)) ∧ ((h (v0 + 5) (v2).toNat) = 2 → (InR (v1 + (h (v0 + 2) (v2).toNat)) ∧ (∀ x6 : Int, x6 = v1 + (h (v0 + 2) (v2).toNat) → (InR (v2 + 1) ∧ L_X9_carriedWeight_4 h v0 x6 (v2 + 1) Q))))))))
set_option maxRecDepth 100000 in
set_option maxHeartbeats 4000000 in
theorem l_X9_carriedWeight_4 {h : Mem} {v0 : Nat} {v1 : Int} {v2 : Int} {Q : Int → Mem → Prop} (hv0 : lay v0 = (0, 9)) (hF : B_X9_carriedWeight_4 h v0 v1 v2 Q) : L_X9_carriedWeight_4 h v0 v1 v2 Q := by
  unfold B_X9_carriedWeight_4 at hF
  show AW M_X9_carriedWeight 4 [(0, vr v0), (1, (0, v1)), (2, (0, v2))] [] h (qi Q)
  refine aw_iload_n (j := 2) (M := M_X9_carriedWeight) (pc := 4) dX9_carriedWeight_4 rfl rfl ?_
  refine aw_aload_n (j := 0) (M := M_X9_carriedWeight) (pc := 5) dX9_carriedWeight_5 rfl rfl ?_
  refine gf_X9_9 (M := M_X9_carriedWeight) (pc := 6) rfl dX9_carriedWeight_6 hv0 ?_
  refine aw_icmp_ge (tgt := 37) (M := M_X9_carriedWeight) (pc := 9) dX9_carriedWeight_9 rfl (fun hc => ?_) (fun hc => ?_)
  · have hF := hF.1 hc
    refine aw_iload_n (j := 1) (M := M_X9_carriedWeight) (pc := 37) dX9_carriedWeight_37 rfl rfl ?_
    exact aw_ireti (M := M_X9_carriedWeight) (pc := 38) dX9_carriedWeight_38 rfl ⟨_, rfl, hF⟩
  · have hF := hF.2 hc
    refine aw_aload_n (j := 0) (M := M_X9_carriedWeight) (pc := 12) dX9_carriedWeight_12 rfl rfl ?_
    refine gf_X9_29 (M := M_X9_carriedWeight) (pc := 13) rfl dX9_carriedWeight_13 hv0 (r := v0 + 5) rfl ?_
    refine aw_iload_n (j := 2) (M := M_X9_carriedWeight) (pc := 16) dX9_carriedWeight_16 rfl rfl ?_
    obtain ⟨o2, hF⟩ := hF
    refine aw_iald (k := (v2).toNat) (M := M_X9_carriedWeight) (pc := 17) dX9_carriedWeight_17 (ll_9_5 hv0) o2 rfl ?_
    refine aw_iconst (M := M_X9_carriedWeight) (pc := 18) dX9_carriedWeight_18 ⟨by decide, by decide⟩ ?_
    refine aw_icmp_ne (tgt := 31) (M := M_X9_carriedWeight) (pc := 19) dX9_carriedWeight_19 rfl (fun hc => ?_) (fun hc => ?_)
    · have hF := hF.1 hc
      obtain ⟨o3, hF⟩ := hF
      refine aw_iinc (j := 2) (x := v2) (r := v2 + 1) (ls' := [(2, (0, v2 + 1)), (0, vr v0), (1, (0, v1))]) (M := M_X9_carriedWeight) (pc := 31) dX9_carriedWeight_31 rfl rfl o3 (by decide) rfl ?_
      refine aw_goto (tgt := 4) (M := M_X9_carriedWeight) (pc := 34) dX9_carriedWeight_34 rfl ?_
      exact aw_ls [1, 2, 0] rfl hF
    · have hF := hF.2 hc
      refine aw_iload_n (j := 1) (M := M_X9_carriedWeight) (pc := 22) dX9_carriedWeight_22 rfl rfl ?_
      refine aw_aload_n (j := 0) (M := M_X9_carriedWeight) (pc := 23) dX9_carriedWeight_23 rfl rfl ?_
      refine gf_X9_19 (M := M_X9_carriedWeight) (pc := 24) rfl dX9_carriedWeight_24 hv0 (r := v0 + 2) rfl ?_
      refine aw_iload_n (j := 2) (M := M_X9_carriedWeight) (pc := 27) dX9_carriedWeight_27 rfl rfl ?_
      refine aw_iald (k := (v2).toNat) (M := M_X9_carriedWeight) (pc := 28) dX9_carriedWeight_28 (ll_9_2 hv0) o2 rfl ?_
      obtain ⟨o5, hF⟩ := hF
      refine aw_iadd (M := M_X9_carriedWeight) (pc := 29) dX9_carriedWeight_29 rfl o5 ?_
      obtain ⟨x6, ex6⟩ : ∃ y : Int, y = v1 + (h (v0 + 2) (v2).toNat) := ⟨_, rfl⟩
      have hF := hF x6 ex6
      rw [← ex6]
      refine aw_istore_n (ls' := [(1, (0, x6)), (0, vr v0), (2, (0, v2))]) (M := M_X9_carriedWeight) (pc := 30) dX9_carriedWeight_30 rfl (by decide) rfl ?_
      obtain ⟨o7, hF⟩ := hF
      refine aw_iinc (j := 2) (x := v2) (r := v2 + 1) (ls' := [(2, (0, v2 + 1)), (1, (0, x6)), (0, vr v0)]) (M := M_X9_carriedWeight) (pc := 31) dX9_carriedWeight_31 rfl rfl o7 (by decide) rfl ?_
      refine aw_goto (tgt := 4) (M := M_X9_carriedWeight) (pc := 34) dX9_carriedWeight_34 rfl ?_
      exact aw_ls [2, 1, 0] rfl hF
def F_X9_carriedWeight (h : Mem) (o : Nat) (Q : Int → Mem → Prop) : Prop :=
  L_X9_carriedWeight_4 h o 0 0 Q
set_option maxRecDepth 100000 in
set_option maxHeartbeats 4000000 in
theorem f_X9_carriedWeight {h : Mem} {o : Nat} {Q : Int → Mem → Prop} (ho : lay o = (0, 9)) (hF : F_X9_carriedWeight h o Q) : Ct yX9_carriedWeight cX9_carriedWeight 3 (some .int) (1, 45) [vr o] h (qi Q) := by
  refine Ct.of np_RX9 (Nat.le_of_ble_eq_true rfl) ?_
  unfold F_X9_carriedWeight at hF
  show AW M_X9_carriedWeight 0 [(0, vr o)] [] h (qi Q)
  refine aw_iconst (M := M_X9_carriedWeight) (pc := 0) dX9_carriedWeight_0 ⟨by decide, by decide⟩ ?_
  refine aw_istore_n (ls' := [(1, (0, 0)), (0, vr o)]) (M := M_X9_carriedWeight) (pc := 1) dX9_carriedWeight_1 rfl (by decide) rfl ?_
  refine aw_iconst (M := M_X9_carriedWeight) (pc := 2) dX9_carriedWeight_2 ⟨by decide, by decide⟩ ?_
  refine aw_istore_n (ls' := [(2, (0, 0)), (1, (0, 0)), (0, vr o)]) (M := M_X9_carriedWeight) (pc := 3) dX9_carriedWeight_3 rfl (by decide) rfl ?_
  exact aw_ls [2, 1, 0] rfl hF
abbrev M_X9_place : Hd := (cX9_place, 4, RX9, none, (1, 45), sc0)
def F_X9_place (h : Mem) (o : Nat) (a1 : Int) (a2 : Int) (a3 : Int) (Q : Mem → Prop) : Prop :=
  ((0 ≤ a1 ∧ a1 < 8) ∧ (∀ h2 : Mem, h2 = mset h (o + 5) (a1).toNat a2 → (∀ h3 : Mem, h3 = mset h2 (o + 6) (a1).toNat a3 → (∀ h4 : Mem, h4 = mset h3 (o + 7) (a1).toNat 0 → Q h4))))
set_option maxRecDepth 100000 in
set_option maxHeartbeats 4000000 in
theorem f_X9_place {h : Mem} {o : Nat} {a1 : Int} {a2 : Int} {a3 : Int} {Q : Mem → Prop} (ho : lay o = (0, 9)) (hF : F_X9_place h o a1 a2 a3 Q) : Ct yX9_place cX9_place 4 none (1, 45) [vr o, (0, a1), (0, a2), (0, a3)] h (qv Q) := by
  refine Ct.of np_RX9 (Nat.le_of_ble_eq_true rfl) ?_
  unfold F_X9_place at hF
  show AW M_X9_place 0 [(0, vr o), (1, (0, a1)), (2, (0, a2)), (3, (0, a3))] [] h (qv Q)
  refine aw_aload_n (j := 0) (M := M_X9_place) (pc := 0) dX9_place_0 rfl rfl ?_
  refine gf_X9_29 (M := M_X9_place) (pc := 1) rfl dX9_place_1 ho (r := o + 5) rfl ?_
  refine aw_iload_n (j := 1) (M := M_X9_place) (pc := 4) dX9_place_4 rfl rfl ?_
  refine aw_iload_n (j := 2) (M := M_X9_place) (pc := 5) dX9_place_5 rfl rfl ?_
  obtain ⟨o1, hF⟩ := hF
  refine aw_iast (k := (a1).toNat) (M := M_X9_place) (pc := 6) dX9_place_6 (ll_9_5 ho) o1 rfl ?_
  obtain ⟨h2, eh2⟩ : ∃ y : Mem, y = mset h (o + 5) (a1).toNat a2 := ⟨_, rfl⟩
  have hF := hF h2 eh2
  rw [← eh2]
  refine aw_aload_n (j := 0) (M := M_X9_place) (pc := 7) dX9_place_7 rfl rfl ?_
  refine gf_X9_32 (M := M_X9_place) (pc := 8) rfl dX9_place_8 ho (r := o + 6) rfl ?_
  refine aw_iload_n (j := 1) (M := M_X9_place) (pc := 11) dX9_place_11 rfl rfl ?_
  refine aw_iload_n (j := 3) (M := M_X9_place) (pc := 12) dX9_place_12 rfl rfl ?_
  refine aw_iast (k := (a1).toNat) (M := M_X9_place) (pc := 13) dX9_place_13 (ll_9_6 ho) o1 rfl ?_
  obtain ⟨h3, eh3⟩ : ∃ y : Mem, y = mset h2 (o + 6) (a1).toNat a3 := ⟨_, rfl⟩
  have hF := hF h3 eh3
  rw [← eh3]
  refine aw_aload_n (j := 0) (M := M_X9_place) (pc := 14) dX9_place_14 rfl rfl ?_
  refine gf_X9_35 (M := M_X9_place) (pc := 15) rfl dX9_place_15 ho (r := o + 7) rfl ?_
  refine aw_iload_n (j := 1) (M := M_X9_place) (pc := 18) dX9_place_18 rfl rfl ?_
  refine aw_iconst (M := M_X9_place) (pc := 19) dX9_place_19 ⟨by decide, by decide⟩ ?_
  refine aw_iast (k := (a1).toNat) (M := M_X9_place) (pc := 20) dX9_place_20 (ll_9_7 ho) o1 rfl ?_
  obtain ⟨h4, eh4⟩ : ∃ y : Mem, y = mset h3 (o + 7) (a1).toNat 0 := ⟨_, rfl⟩
  have hF := hF h4 eh4
  rw [← eh4]
  exact aw_ret (M := M_X9_place) (pc := 21) dX9_place_21 rfl ⟨rfl, hF⟩
abbrev M_X9_growOlder : Hd := (cX9_growOlder, 4, RX9, none, (2, 68), sc0)
def L_X9_growOlder_2 (h : Mem) (v0 : Nat) (v1 : Int) (v2 : Int) (v3 : Int) (Q : Mem → Prop) : Prop := AW M_X9_growOlder 2 [(0, vr v0), (1, (0, v1)), (2, (0, v2)), (3, (0, v3))] [] h (qv Q)
def J_X9_growOlder_82 (h : Mem) (v0 : Nat) (v1 : Int) (v2 : Int) (v3 : Int) (Q : Mem → Prop) : Prop :=
  ((0 ≤ v3 ∧ v3 < 8) ∧ ((¬ ((h (v0 + 5) (v3).toNat) = 2) → (InR (v3 + 1) ∧ L_X9_growOlder_2 h v0 v1 v2 (v3 + 1) Q)) ∧ ((h (v0 + 5) (v3).toNat) = 2 → (InR ((h (v0 + 7) (v3).toNat) + 1) ∧ (∀ h23 : Mem, h23 = mset h (v0 + 7) (v3).toNat ((h (v0 + 7) (v3).toNat) + 1) → (((h23 (v0 + 7) (v3).toNat) < (h23 (v0 + 3) (v3).toNat) → (InR (v3 + 1) ∧ L_X9_growOlder_2 h23 v0 v1 v2 (v3 + 1) Q)) ∧ (¬ ((h23 (v0 + 7) (v3).toNat) < (h23 (v0 + 3) (v3).toNat)) → (F_X9_place h23 v0 v3 1 v1 (fun h27 => (InR (v3 + 1) ∧ L_X9_growOlder_2 h27 v0 v1 v2 (v3 + 1) Q))))))))))
set_option maxRecDepth 100000 in
set_option maxHeartbeats 4000000 in
theorem j_X9_growOlder_82 {h : Mem} {v0 : Nat} {v1 : Int} {v2 : Int} {v3 : Int} {Q : Mem → Prop} (hv0 : lay v0 = (0, 9)) (hF : J_X9_growOlder_82 h v0 v1 v2 v3 Q) : AW M_X9_growOlder 82 [(0, vr v0), (1, (0, v1)), (2, (0, v2)), (3, (0, v3))] [] h (qv Q) := by
  unfold J_X9_growOlder_82 at hF
  refine aw_aload_n (j := 0) (M := M_X9_growOlder) (pc := 82) dX9_growOlder_82 rfl rfl ?_
  refine gf_X9_29 (M := M_X9_growOlder) (pc := 83) rfl dX9_growOlder_83 hv0 (r := v0 + 5) rfl ?_
  refine aw_iload_n (j := 3) (M := M_X9_growOlder) (pc := 86) dX9_growOlder_86 rfl rfl ?_
  obtain ⟨o19, hF⟩ := hF
  refine aw_iald (k := (v3).toNat) (M := M_X9_growOlder) (pc := 87) dX9_growOlder_87 (ll_9_5 hv0) o19 rfl ?_
  refine aw_iconst (M := M_X9_growOlder) (pc := 88) dX9_growOlder_88 ⟨by decide, by decide⟩ ?_
  refine aw_icmp_ne (tgt := 124) (M := M_X9_growOlder) (pc := 89) dX9_growOlder_89 rfl (fun hc => ?_) (fun hc => ?_)
  · have hF := hF.1 hc
    obtain ⟨o20, hF⟩ := hF
    refine aw_iinc (j := 3) (x := v3) (r := v3 + 1) (ls' := [(3, (0, v3 + 1)), (0, vr v0), (1, (0, v1)), (2, (0, v2))]) (M := M_X9_growOlder) (pc := 124) dX9_growOlder_124 rfl rfl o20 (by decide) rfl ?_
    refine aw_goto (tgt := 2) (M := M_X9_growOlder) (pc := 127) dX9_growOlder_127 rfl ?_
    exact aw_ls [1, 2, 3, 0] rfl hF
  · have hF := hF.2 hc
    refine aw_aload_n (j := 0) (M := M_X9_growOlder) (pc := 92) dX9_growOlder_92 rfl rfl ?_
    refine gf_X9_35 (M := M_X9_growOlder) (pc := 93) rfl dX9_growOlder_93 hv0 (r := v0 + 7) rfl ?_
    refine aw_iload_n (j := 3) (M := M_X9_growOlder) (pc := 96) dX9_growOlder_96 rfl rfl ?_
    refine aw_dup2 (M := M_X9_growOlder) (pc := 97) dX9_growOlder_97 rfl rfl ?_
    refine aw_iald (k := (v3).toNat) (M := M_X9_growOlder) (pc := 98) dX9_growOlder_98 (ll_9_7 hv0) o19 rfl ?_
    refine aw_iconst (M := M_X9_growOlder) (pc := 99) dX9_growOlder_99 ⟨by decide, by decide⟩ ?_
    obtain ⟨o22, hF⟩ := hF
    refine aw_iadd (M := M_X9_growOlder) (pc := 100) dX9_growOlder_100 rfl o22 ?_
    refine aw_iast (k := (v3).toNat) (M := M_X9_growOlder) (pc := 101) dX9_growOlder_101 (ll_9_7 hv0) o19 rfl ?_
    obtain ⟨h23, eh23⟩ : ∃ y : Mem, y = mset h (v0 + 7) (v3).toNat ((h (v0 + 7) (v3).toNat) + 1) := ⟨_, rfl⟩
    have hF := hF h23 eh23
    rw [← eh23]
    refine aw_aload_n (j := 0) (M := M_X9_growOlder) (pc := 102) dX9_growOlder_102 rfl rfl ?_
    refine gf_X9_35 (M := M_X9_growOlder) (pc := 103) rfl dX9_growOlder_103 hv0 (r := v0 + 7) rfl ?_
    refine aw_iload_n (j := 3) (M := M_X9_growOlder) (pc := 106) dX9_growOlder_106 rfl rfl ?_
    refine aw_iald (k := (v3).toNat) (M := M_X9_growOlder) (pc := 107) dX9_growOlder_107 (ll_9_7 hv0) o19 rfl ?_
    refine aw_aload_n (j := 0) (M := M_X9_growOlder) (pc := 108) dX9_growOlder_108 rfl rfl ?_
    refine gf_X9_23 (M := M_X9_growOlder) (pc := 109) rfl dX9_growOlder_109 hv0 (r := v0 + 3) rfl ?_
    refine aw_iload_n (j := 3) (M := M_X9_growOlder) (pc := 112) dX9_growOlder_112 rfl rfl ?_
    refine aw_iald (k := (v3).toNat) (M := M_X9_growOlder) (pc := 113) dX9_growOlder_113 (ll_9_3 hv0) o19 rfl ?_
    refine aw_icmp_lt (tgt := 124) (M := M_X9_growOlder) (pc := 114) dX9_growOlder_114 rfl (fun hc => ?_) (fun hc => ?_)
    · have hF := hF.1 hc
      obtain ⟨o26, hF⟩ := hF
      refine aw_iinc (j := 3) (x := v3) (r := v3 + 1) (ls' := [(3, (0, v3 + 1)), (0, vr v0), (1, (0, v1)), (2, (0, v2))]) (M := M_X9_growOlder) (pc := 124) dX9_growOlder_124 rfl rfl o26 (by decide) rfl ?_
      refine aw_goto (tgt := 2) (M := M_X9_growOlder) (pc := 127) dX9_growOlder_127 rfl ?_
      exact aw_ls [1, 2, 3, 0] rfl hF
    · have hF := hF.2 hc
      refine aw_aload_n (j := 0) (M := M_X9_growOlder) (pc := 117) dX9_growOlder_117 rfl rfl ?_
      refine aw_iload_n (j := 3) (M := M_X9_growOlder) (pc := 118) dX9_growOlder_118 rfl rfl ?_
      refine aw_iconst (M := M_X9_growOlder) (pc := 119) dX9_growOlder_119 ⟨by decide, by decide⟩ ?_
      refine aw_iload_n (j := 1) (M := M_X9_growOlder) (pc := 120) dX9_growOlder_120 rfl rfl ?_
      refine aw_cvv (as := [(0, v3), (0, 1), (0, v1)]) (st := []) (M := M_X9_growOlder) (pc := 121) (f_X9_place hv0 hF) dX9_growOlder_121 rfl (Or.inl ⟨_, _, _, hv0, rfl⟩) cy_X9_place ml_X9_55 (by decide) (by decide) (Nat.le_of_ble_eq_true rfl) (fun h27 hF => ?_)
      obtain ⟨o29, hF⟩ := hF
      refine aw_iinc (j := 3) (x := v3) (r := v3 + 1) (ls' := [(3, (0, v3 + 1)), (0, vr v0), (1, (0, v1)), (2, (0, v2))]) (M := M_X9_growOlder) (pc := 124) dX9_growOlder_124 rfl rfl o29 (by decide) rfl ?_
      refine aw_goto (tgt := 2) (M := M_X9_growOlder) (pc := 127) dX9_growOlder_127 rfl ?_
      exact aw_ls [1, 2, 3, 0] rfl hF
def B_X9_growOlder_2 (h : Mem) (v0 : Nat) (v1 : Int) (v2 : Int) (v3 : Int) (Q : Mem → Prop) : Prop :=
  (((h v0 0) ≤ v3 → Q h) ∧ (¬ ((h v0 0) ≤ v3) → ((0 ≤ v3 ∧ v3 < 8) ∧ ((¬ ((h (v0 + 5) (v3).toNat) = 1) → ((¬ ((h (v0 + 5) (v3).toNat) = 2) → J_X9_growOlder_82 h v0 v1 v2 v3 Q) ∧ ((h (v0 + 5) (v3).toNat) = 2 → ((v2 = 0 → J_X9_growOlder_82 h v0 v1 v2 v3 Q) ∧ (¬ (v2 = 0) → (F_X9_place h v0 v3 3 0 (fun h4 => (InR ((h4 (v0 + 8) (v3).toNat) + 1) ∧ (∀ h8 : Mem, h8 = mset h4 (v0 + 8) (v3).toNat ((h4 (v0 + 8) (v3).toNat) + 1) → (InR (v3 + 1) ∧ L_X9_growOlder_2 h8 v0 v1 v2 (v3 + 1) Q)))))))))) ∧ ((h (v0 + 5) (v3).toNat) = 1 → ((99 ≤ (h (v0 + 7) (v3).toNat) → (InR (h (v0 + 7) (v3).toNat) ∧ (∀ h13 : Mem, h13 = mset h (v0 + 7) (v3).toNat (h (v0 + 7) (v3).toNat) → (InR (v3 + 1) ∧ L_X9_growOlder_2 h13 v0 v1 v2 (v3 + 1) Q)))) ∧ (¬ (99 ≤ (h (v0 + 7) (v3).toNat)) → (InR ((h (v0 + 7) (v3).toNat) + 1) ∧ (∀ h16 : Mem, h16 = mset h (v0 + 7) (v3).toNat ((h (v0 + 7) (v3).toNat) + 1) → (InR (v3 + 1) ∧ L_X9_growOlder_2 h16 v0 v1 v2 (v3 + 1) Q))))))))))
set_option maxRecDepth 100000 in
set_option maxHeartbeats 4000000 in
theorem l_X9_growOlder_2 {h : Mem} {v0 : Nat} {v1 : Int} {v2 : Int} {v3 : Int} {Q : Mem → Prop} (hv0 : lay v0 = (0, 9)) (hF : B_X9_growOlder_2 h v0 v1 v2 v3 Q) : L_X9_growOlder_2 h v0 v1 v2 v3 Q := by
  unfold B_X9_growOlder_2 at hF
  show AW M_X9_growOlder 2 [(0, vr v0), (1, (0, v1)), (2, (0, v2)), (3, (0, v3))] [] h (qv Q)
  refine aw_iload_n (j := 3) (M := M_X9_growOlder) (pc := 2) dX9_growOlder_2 rfl rfl ?_
  refine aw_aload_n (j := 0) (M := M_X9_growOlder) (pc := 3) dX9_growOlder_3 rfl rfl ?_
  refine gf_X9_9 (M := M_X9_growOlder) (pc := 4) rfl dX9_growOlder_4 hv0 ?_
  refine aw_icmp_ge (tgt := 130) (M := M_X9_growOlder) (pc := 7) dX9_growOlder_7 rfl (fun hc => ?_) (fun hc => ?_)
  · have hF := hF.1 hc
    exact aw_ret (M := M_X9_growOlder) (pc := 130) dX9_growOlder_130 rfl ⟨rfl, hF⟩
  · have hF := hF.2 hc
    refine aw_aload_n (j := 0) (M := M_X9_growOlder) (pc := 10) dX9_growOlder_10 rfl rfl ?_
    refine gf_X9_29 (M := M_X9_growOlder) (pc := 11) rfl dX9_growOlder_11 hv0 (r := v0 + 5) rfl ?_
    refine aw_iload_n (j := 3) (M := M_X9_growOlder) (pc := 14) dX9_growOlder_14 rfl rfl ?_
    obtain ⟨o2, hF⟩ := hF
    refine aw_iald (k := (v3).toNat) (M := M_X9_growOlder) (pc := 15) dX9_growOlder_15 (ll_9_5 hv0) o2 rfl ?_
    refine aw_iconst (M := M_X9_growOlder) (pc := 16) dX9_growOlder_16 ⟨by decide, by decide⟩ ?_
    refine aw_icmp_ne (tgt := 48) (M := M_X9_growOlder) (pc := 17) dX9_growOlder_17 rfl (fun hc => ?_) (fun hc => ?_)
    · have hF := hF.1 hc
      refine aw_aload_n (j := 0) (M := M_X9_growOlder) (pc := 48) dX9_growOlder_48 rfl rfl ?_
      refine gf_X9_29 (M := M_X9_growOlder) (pc := 49) rfl dX9_growOlder_49 hv0 (r := v0 + 5) rfl ?_
      refine aw_iload_n (j := 3) (M := M_X9_growOlder) (pc := 52) dX9_growOlder_52 rfl rfl ?_
      refine aw_iald (k := (v3).toNat) (M := M_X9_growOlder) (pc := 53) dX9_growOlder_53 (ll_9_5 hv0) o2 rfl ?_
      refine aw_iconst (M := M_X9_growOlder) (pc := 54) dX9_growOlder_54 ⟨by decide, by decide⟩ ?_
      refine aw_icmp_ne (tgt := 82) (M := M_X9_growOlder) (pc := 55) dX9_growOlder_55 rfl (fun hc => ?_) (fun hc => ?_)
      · have hF := hF.1 hc
        exact aw_ls [0, 1, 2, 3] rfl (j_X9_growOlder_82 hv0 hF)
      · have hF := hF.2 hc
        refine aw_iload_n (j := 2) (M := M_X9_growOlder) (pc := 58) dX9_growOlder_58 rfl rfl ?_
        refine aw_if_eq (tgt := 82) (M := M_X9_growOlder) (pc := 59) dX9_growOlder_59 rfl (fun hc => ?_) (fun hc => ?_)
        · have hF := hF.1 hc
          exact aw_ls [0, 1, 2, 3] rfl (j_X9_growOlder_82 hv0 hF)
        · have hF := hF.2 hc
          refine aw_aload_n (j := 0) (M := M_X9_growOlder) (pc := 62) dX9_growOlder_62 rfl rfl ?_
          refine aw_iload_n (j := 3) (M := M_X9_growOlder) (pc := 63) dX9_growOlder_63 rfl rfl ?_
          refine aw_iconst (M := M_X9_growOlder) (pc := 64) dX9_growOlder_64 ⟨by decide, by decide⟩ ?_
          refine aw_iconst (M := M_X9_growOlder) (pc := 65) dX9_growOlder_65 ⟨by decide, by decide⟩ ?_
          refine aw_cvv (as := [(0, v3), (0, 3), (0, 0)]) (st := []) (M := M_X9_growOlder) (pc := 66) (f_X9_place hv0 hF) dX9_growOlder_66 rfl (Or.inl ⟨_, _, _, hv0, rfl⟩) cy_X9_place ml_X9_55 (by decide) (by decide) (Nat.le_of_ble_eq_true rfl) (fun h4 hF => ?_)
          refine aw_aload_n (j := 0) (M := M_X9_growOlder) (pc := 69) dX9_growOlder_69 rfl rfl ?_
          refine gf_X9_38 (M := M_X9_growOlder) (pc := 70) rfl dX9_growOlder_70 hv0 (r := v0 + 8) rfl ?_
          refine aw_iload_n (j := 3) (M := M_X9_growOlder) (pc := 73) dX9_growOlder_73 rfl rfl ?_
          refine aw_dup2 (M := M_X9_growOlder) (pc := 74) dX9_growOlder_74 rfl rfl ?_
          refine aw_iald (k := (v3).toNat) (M := M_X9_growOlder) (pc := 75) dX9_growOlder_75 (ll_9_8 hv0) o2 rfl ?_
          refine aw_iconst (M := M_X9_growOlder) (pc := 76) dX9_growOlder_76 ⟨by decide, by decide⟩ ?_
          obtain ⟨o7, hF⟩ := hF
          refine aw_iadd (M := M_X9_growOlder) (pc := 77) dX9_growOlder_77 rfl o7 ?_
          refine aw_iast (k := (v3).toNat) (M := M_X9_growOlder) (pc := 78) dX9_growOlder_78 (ll_9_8 hv0) o2 rfl ?_
          obtain ⟨h8, eh8⟩ : ∃ y : Mem, y = mset h4 (v0 + 8) (v3).toNat ((h4 (v0 + 8) (v3).toNat) + 1) := ⟨_, rfl⟩
          have hF := hF h8 eh8
          rw [← eh8]
          refine aw_goto (tgt := 124) (M := M_X9_growOlder) (pc := 79) dX9_growOlder_79 rfl ?_
          obtain ⟨o9, hF⟩ := hF
          refine aw_iinc (j := 3) (x := v3) (r := v3 + 1) (ls' := [(3, (0, v3 + 1)), (0, vr v0), (1, (0, v1)), (2, (0, v2))]) (M := M_X9_growOlder) (pc := 124) dX9_growOlder_124 rfl rfl o9 (by decide) rfl ?_
          refine aw_goto (tgt := 2) (M := M_X9_growOlder) (pc := 127) dX9_growOlder_127 rfl ?_
          exact aw_ls [1, 2, 3, 0] rfl hF
    · have hF := hF.2 hc
      refine aw_aload_n (j := 0) (M := M_X9_growOlder) (pc := 20) dX9_growOlder_20 rfl rfl ?_
      refine gf_X9_35 (M := M_X9_growOlder) (pc := 21) rfl dX9_growOlder_21 hv0 (r := v0 + 7) rfl ?_
      refine aw_iload_n (j := 3) (M := M_X9_growOlder) (pc := 24) dX9_growOlder_24 rfl rfl ?_
      refine aw_dup2 (M := M_X9_growOlder) (pc := 25) dX9_growOlder_25 rfl rfl ?_
      refine aw_iald (k := (v3).toNat) (M := M_X9_growOlder) (pc := 26) dX9_growOlder_26 (ll_9_7 hv0) o2 rfl ?_
      refine aw_aload_n (j := 0) (M := M_X9_growOlder) (pc := 27) dX9_growOlder_27 rfl rfl ?_
      refine gf_X9_35 (M := M_X9_growOlder) (pc := 28) rfl dX9_growOlder_28 hv0 (r := v0 + 7) rfl ?_
      refine aw_iload_n (j := 3) (M := M_X9_growOlder) (pc := 31) dX9_growOlder_31 rfl rfl ?_
      refine aw_iald (k := (v3).toNat) (M := M_X9_growOlder) (pc := 32) dX9_growOlder_32 (ll_9_7 hv0) o2 rfl ?_
      refine aw_bipush (M := M_X9_growOlder) (pc := 33) dX9_growOlder_33 ⟨rfl, ⟨by decide, by decide⟩⟩ ?_
      refine aw_icmp_ge (tgt := 42) (M := M_X9_growOlder) (pc := 35) dX9_growOlder_35 rfl (fun hc => ?_) (fun hc => ?_)
      · have hF := hF.1 hc
        refine aw_iconst (M := M_X9_growOlder) (pc := 42) dX9_growOlder_42 ⟨by decide, by decide⟩ ?_
        obtain ⟨o12, hF⟩ := hF
        refine aw_iadd (r := h (v0 + 7) (v3).toNat) (M := M_X9_growOlder) (pc := 43) dX9_growOlder_43 (Int.add_zero _) o12 ?_
        refine aw_iast (k := (v3).toNat) (M := M_X9_growOlder) (pc := 44) dX9_growOlder_44 (ll_9_7 hv0) o2 rfl ?_
        obtain ⟨h13, eh13⟩ : ∃ y : Mem, y = mset h (v0 + 7) (v3).toNat (h (v0 + 7) (v3).toNat) := ⟨_, rfl⟩
        have hF := hF h13 eh13
        rw [← eh13]
        refine aw_goto (tgt := 124) (M := M_X9_growOlder) (pc := 45) dX9_growOlder_45 rfl ?_
        obtain ⟨o14, hF⟩ := hF
        refine aw_iinc (j := 3) (x := v3) (r := v3 + 1) (ls' := [(3, (0, v3 + 1)), (0, vr v0), (1, (0, v1)), (2, (0, v2))]) (M := M_X9_growOlder) (pc := 124) dX9_growOlder_124 rfl rfl o14 (by decide) rfl ?_
        refine aw_goto (tgt := 2) (M := M_X9_growOlder) (pc := 127) dX9_growOlder_127 rfl ?_
        exact aw_ls [1, 2, 3, 0] rfl hF
      · have hF := hF.2 hc
        refine aw_iconst (M := M_X9_growOlder) (pc := 38) dX9_growOlder_38 ⟨by decide, by decide⟩ ?_
        refine aw_goto (tgt := 43) (M := M_X9_growOlder) (pc := 39) dX9_growOlder_39 rfl ?_
        obtain ⟨o15, hF⟩ := hF
        refine aw_iadd (M := M_X9_growOlder) (pc := 43) dX9_growOlder_43 rfl o15 ?_
        refine aw_iast (k := (v3).toNat) (M := M_X9_growOlder) (pc := 44) dX9_growOlder_44 (ll_9_7 hv0) o2 rfl ?_
        obtain ⟨h16, eh16⟩ : ∃ y : Mem, y = mset h (v0 + 7) (v3).toNat ((h (v0 + 7) (v3).toNat) + 1) := ⟨_, rfl⟩
        have hF := hF h16 eh16
        rw [← eh16]
        refine aw_goto (tgt := 124) (M := M_X9_growOlder) (pc := 45) dX9_growOlder_45 rfl ?_
        obtain ⟨o17, hF⟩ := hF
        refine aw_iinc (j := 3) (x := v3) (r := v3 + 1) (ls' := [(3, (0, v3 + 1)), (0, vr v0), (1, (0, v1)), (2, (0, v2))]) (M := M_X9_growOlder) (pc := 124) dX9_growOlder_124 rfl rfl o17 (by decide) rfl ?_
        refine aw_goto (tgt := 2) (M := M_X9_growOlder) (pc := 127) dX9_growOlder_127 rfl ?_
        exact aw_ls [1, 2, 3, 0] rfl hF
def F_X9_growOlder (h : Mem) (o : Nat) (a1 : Int) (a2 : Int) (Q : Mem → Prop) : Prop :=
  L_X9_growOlder_2 h o a1 a2 0 Q
set_option maxRecDepth 100000 in
set_option maxHeartbeats 4000000 in
theorem f_X9_growOlder {h : Mem} {o : Nat} {a1 : Int} {a2 : Int} {Q : Mem → Prop} (ho : lay o = (0, 9)) (hF : F_X9_growOlder h o a1 a2 Q) : Ct yX9_growOlder cX9_growOlder 4 none (2, 68) [vr o, (0, a1), (0, a2)] h (qv Q) := by
  refine Ct.of np_RX9 (Nat.le_of_ble_eq_true rfl) ?_
  unfold F_X9_growOlder at hF
  show AW M_X9_growOlder 0 [(0, vr o), (1, (0, a1)), (2, (0, a2))] [] h (qv Q)
  refine aw_iconst (M := M_X9_growOlder) (pc := 0) dX9_growOlder_0 ⟨by decide, by decide⟩ ?_
  refine aw_istore_n (ls' := [(3, (0, 0)), (0, vr o), (1, (0, a1)), (2, (0, a2))]) (M := M_X9_growOlder) (pc := 1) dX9_growOlder_1 rfl (by decide) rfl ?_
  exact aw_ls [1, 2, 3, 0] rfl hF
abbrev M_X9_longestRemembered : Hd := (cX9_longestRemembered, 4, RX9, (some .int), (1, 45), sc0)
def L_X9_longestRemembered_6 (h : Mem) (v0 : Nat) (v1 : Int) (v2 : Int) (v3 : Int) (Q : Int → Mem → Prop) : Prop := AW M_X9_longestRemembered 6 [(0, vr v0), (1, (0, v1)), (2, (0, v2)), (3, (0, v3))] [] h (qi Q)
def B_X9_longestRemembered_6 (h : Mem) (v0 : Nat) (v1 : Int) (v2 : Int) (v3 : Int) (Q : Int → Mem → Prop) : Prop :=
  (((h v0 0) ≤ v3 → Q v1 h) ∧ (¬ ((h v0 0) ≤ v3) → ((0 ≤ v3 ∧ v3 < 8) ∧ ((¬ ((h (v0 + 5) (v3).toNat) = 1) → (InR (v3 + 1) ∧ L_X9_longestRemembered_6 h v0 v1 v2 (v3 + 1) Q)) ∧ ((h (v0 + 5) (v3).toNat) = 1 → (((h (v0 + 7) (v3).toNat) < (h (v0 + 4) (v3).toNat) → (InR (v3 + 1) ∧ L_X9_longestRemembered_6 h v0 v1 v2 (v3 + 1) Q)) ∧ (¬ ((h (v0 + 7) (v3).toNat) < (h (v0 + 4) (v3).toNat)) → (((h (v0 + 7) (v3).toNat) ≤ v2 → (InR (v3 + 1) ∧ L_X9_longestRemembered_6 h v0 v1 v2 (v3 + 1) Q)) ∧ (¬ ((h (v0 + 7) (v3).toNat) ≤ v2) → (∀ x10 : Int, x10 = h (v0 + 7) (v3).toNat → (InR (v3 + 1) ∧ L_X9_longestRemembered_6 h v0 v3 x10 (v3 + 1) Q)))))))))))
set_option maxRecDepth 100000 in
set_option maxHeartbeats 4000000 in
theorem l_X9_longestRemembered_6 {h : Mem} {v0 : Nat} {v1 : Int} {v2 : Int} {v3 : Int} {Q : Int → Mem → Prop} (hv0 : lay v0 = (0, 9)) (hF : B_X9_longestRemembered_6 h v0 v1 v2 v3 Q) : L_X9_longestRemembered_6 h v0 v1 v2 v3 Q := by
  unfold B_X9_longestRemembered_6 at hF
  show AW M_X9_longestRemembered 6 [(0, vr v0), (1, (0, v1)), (2, (0, v2)), (3, (0, v3))] [] h (qi Q)
  refine aw_iload_n (j := 3) (M := M_X9_longestRemembered) (pc := 6) dX9_longestRemembered_6 rfl rfl ?_
  refine aw_aload_n (j := 0) (M := M_X9_longestRemembered) (pc := 7) dX9_longestRemembered_7 rfl rfl ?_
  refine gf_X9_9 (M := M_X9_longestRemembered) (pc := 8) rfl dX9_longestRemembered_8 hv0 ?_
  refine aw_icmp_ge (tgt := 64) (M := M_X9_longestRemembered) (pc := 11) dX9_longestRemembered_11 rfl (fun hc => ?_) (fun hc => ?_)
  · have hF := hF.1 hc
    refine aw_iload_n (j := 1) (M := M_X9_longestRemembered) (pc := 64) dX9_longestRemembered_64 rfl rfl ?_
    exact aw_ireti (M := M_X9_longestRemembered) (pc := 65) dX9_longestRemembered_65 rfl ⟨_, rfl, hF⟩
  · have hF := hF.2 hc
    refine aw_aload_n (j := 0) (M := M_X9_longestRemembered) (pc := 14) dX9_longestRemembered_14 rfl rfl ?_
    refine gf_X9_29 (M := M_X9_longestRemembered) (pc := 15) rfl dX9_longestRemembered_15 hv0 (r := v0 + 5) rfl ?_
    refine aw_iload_n (j := 3) (M := M_X9_longestRemembered) (pc := 18) dX9_longestRemembered_18 rfl rfl ?_
    obtain ⟨o2, hF⟩ := hF
    refine aw_iald (k := (v3).toNat) (M := M_X9_longestRemembered) (pc := 19) dX9_longestRemembered_19 (ll_9_5 hv0) o2 rfl ?_
    refine aw_iconst (M := M_X9_longestRemembered) (pc := 20) dX9_longestRemembered_20 ⟨by decide, by decide⟩ ?_
    refine aw_icmp_ne (tgt := 58) (M := M_X9_longestRemembered) (pc := 21) dX9_longestRemembered_21 rfl (fun hc => ?_) (fun hc => ?_)
    · have hF := hF.1 hc
      obtain ⟨o3, hF⟩ := hF
      refine aw_iinc (j := 3) (x := v3) (r := v3 + 1) (ls' := [(3, (0, v3 + 1)), (0, vr v0), (1, (0, v1)), (2, (0, v2))]) (M := M_X9_longestRemembered) (pc := 58) dX9_longestRemembered_58 rfl rfl o3 (by decide) rfl ?_
      refine aw_goto (tgt := 6) (M := M_X9_longestRemembered) (pc := 61) dX9_longestRemembered_61 rfl ?_
      exact aw_ls [1, 2, 3, 0] rfl hF
    · have hF := hF.2 hc
      refine aw_aload_n (j := 0) (M := M_X9_longestRemembered) (pc := 24) dX9_longestRemembered_24 rfl rfl ?_
      refine gf_X9_35 (M := M_X9_longestRemembered) (pc := 25) rfl dX9_longestRemembered_25 hv0 (r := v0 + 7) rfl ?_
      refine aw_iload_n (j := 3) (M := M_X9_longestRemembered) (pc := 28) dX9_longestRemembered_28 rfl rfl ?_
      refine aw_iald (k := (v3).toNat) (M := M_X9_longestRemembered) (pc := 29) dX9_longestRemembered_29 (ll_9_7 hv0) o2 rfl ?_
      refine aw_aload_n (j := 0) (M := M_X9_longestRemembered) (pc := 30) dX9_longestRemembered_30 rfl rfl ?_
      refine gf_X9_26 (M := M_X9_longestRemembered) (pc := 31) rfl dX9_longestRemembered_31 hv0 (r := v0 + 4) rfl ?_
      refine aw_iload_n (j := 3) (M := M_X9_longestRemembered) (pc := 34) dX9_longestRemembered_34 rfl rfl ?_
      refine aw_iald (k := (v3).toNat) (M := M_X9_longestRemembered) (pc := 35) dX9_longestRemembered_35 (ll_9_4 hv0) o2 rfl ?_
      refine aw_icmp_lt (tgt := 58) (M := M_X9_longestRemembered) (pc := 36) dX9_longestRemembered_36 rfl (fun hc => ?_) (fun hc => ?_)
      · have hF := hF.1 hc
        obtain ⟨o6, hF⟩ := hF
        refine aw_iinc (j := 3) (x := v3) (r := v3 + 1) (ls' := [(3, (0, v3 + 1)), (0, vr v0), (1, (0, v1)), (2, (0, v2))]) (M := M_X9_longestRemembered) (pc := 58) dX9_longestRemembered_58 rfl rfl o6 (by decide) rfl ?_
        refine aw_goto (tgt := 6) (M := M_X9_longestRemembered) (pc := 61) dX9_longestRemembered_61 rfl ?_
        exact aw_ls [1, 2, 3, 0] rfl hF
      · have hF := hF.2 hc
        refine aw_aload_n (j := 0) (M := M_X9_longestRemembered) (pc := 39) dX9_longestRemembered_39 rfl rfl ?_
        refine gf_X9_35 (M := M_X9_longestRemembered) (pc := 40) rfl dX9_longestRemembered_40 hv0 (r := v0 + 7) rfl ?_
        refine aw_iload_n (j := 3) (M := M_X9_longestRemembered) (pc := 43) dX9_longestRemembered_43 rfl rfl ?_
        refine aw_iald (k := (v3).toNat) (M := M_X9_longestRemembered) (pc := 44) dX9_longestRemembered_44 (ll_9_7 hv0) o2 rfl ?_
        refine aw_iload_n (j := 2) (M := M_X9_longestRemembered) (pc := 45) dX9_longestRemembered_45 rfl rfl ?_
        refine aw_icmp_le (tgt := 58) (M := M_X9_longestRemembered) (pc := 46) dX9_longestRemembered_46 rfl (fun hc => ?_) (fun hc => ?_)
        · have hF := hF.1 hc
          obtain ⟨o8, hF⟩ := hF
          refine aw_iinc (j := 3) (x := v3) (r := v3 + 1) (ls' := [(3, (0, v3 + 1)), (0, vr v0), (1, (0, v1)), (2, (0, v2))]) (M := M_X9_longestRemembered) (pc := 58) dX9_longestRemembered_58 rfl rfl o8 (by decide) rfl ?_
          refine aw_goto (tgt := 6) (M := M_X9_longestRemembered) (pc := 61) dX9_longestRemembered_61 rfl ?_
          exact aw_ls [1, 2, 3, 0] rfl hF
        · have hF := hF.2 hc
          refine aw_iload_n (j := 3) (M := M_X9_longestRemembered) (pc := 49) dX9_longestRemembered_49 rfl rfl ?_
          refine aw_istore_n (ls' := [(1, (0, v3)), (0, vr v0), (2, (0, v2)), (3, (0, v3))]) (M := M_X9_longestRemembered) (pc := 50) dX9_longestRemembered_50 rfl (by decide) rfl ?_
          refine aw_aload_n (j := 1) (M := M_X9_longestRemembered) (pc := 51) dX9_longestRemembered_51 rfl rfl ?_
          refine gf_X9_35 (M := M_X9_longestRemembered) (pc := 52) rfl dX9_longestRemembered_52 hv0 (r := v0 + 7) rfl ?_
          refine aw_iload_n (j := 3) (M := M_X9_longestRemembered) (pc := 55) dX9_longestRemembered_55 rfl rfl ?_
          refine aw_iald (k := (v3).toNat) (M := M_X9_longestRemembered) (pc := 56) dX9_longestRemembered_56 (ll_9_7 hv0) o2 rfl ?_
          obtain ⟨x10, ex10⟩ : ∃ y : Int, y = h (v0 + 7) (v3).toNat := ⟨_, rfl⟩
          have hF := hF x10 ex10
          rw [← ex10]
          refine aw_istore_n (ls' := [(2, (0, x10)), (1, (0, v3)), (0, vr v0), (3, (0, v3))]) (M := M_X9_longestRemembered) (pc := 57) dX9_longestRemembered_57 rfl (by decide) rfl ?_
          obtain ⟨o11, hF⟩ := hF
          refine aw_iinc (j := 3) (x := v3) (r := v3 + 1) (ls' := [(3, (0, v3 + 1)), (2, (0, x10)), (1, (0, v3)), (0, vr v0)]) (M := M_X9_longestRemembered) (pc := 58) dX9_longestRemembered_58 rfl rfl o11 (by decide) rfl ?_
          refine aw_goto (tgt := 6) (M := M_X9_longestRemembered) (pc := 61) dX9_longestRemembered_61 rfl ?_
          exact aw_ls [3, 2, 1, 0] rfl hF
def F_X9_longestRemembered (h : Mem) (o : Nat) (Q : Int → Mem → Prop) : Prop :=
  L_X9_longestRemembered_6 h o (-1) 0 0 Q
set_option maxRecDepth 100000 in
set_option maxHeartbeats 4000000 in
theorem f_X9_longestRemembered {h : Mem} {o : Nat} {Q : Int → Mem → Prop} (ho : lay o = (0, 9)) (hF : F_X9_longestRemembered h o Q) : Ct yX9_longestRemembered cX9_longestRemembered 4 (some .int) (1, 45) [vr o] h (qi Q) := by
  refine Ct.of np_RX9 (Nat.le_of_ble_eq_true rfl) ?_
  unfold F_X9_longestRemembered at hF
  show AW M_X9_longestRemembered 0 [(0, vr o)] [] h (qi Q)
  refine aw_iconst (M := M_X9_longestRemembered) (pc := 0) dX9_longestRemembered_0 ⟨by decide, by decide⟩ ?_
  refine aw_istore_n (ls' := [(1, (0, (-1))), (0, vr o)]) (M := M_X9_longestRemembered) (pc := 1) dX9_longestRemembered_1 rfl (by decide) rfl ?_
  refine aw_iconst (M := M_X9_longestRemembered) (pc := 2) dX9_longestRemembered_2 ⟨by decide, by decide⟩ ?_
  refine aw_istore_n (ls' := [(2, (0, 0)), (1, (0, (-1))), (0, vr o)]) (M := M_X9_longestRemembered) (pc := 3) dX9_longestRemembered_3 rfl (by decide) rfl ?_
  refine aw_iconst (M := M_X9_longestRemembered) (pc := 4) dX9_longestRemembered_4 ⟨by decide, by decide⟩ ?_
  refine aw_istore_n (ls' := [(3, (0, 0)), (2, (0, 0)), (1, (0, (-1))), (0, vr o)]) (M := M_X9_longestRemembered) (pc := 5) dX9_longestRemembered_5 rfl (by decide) rfl ?_
  exact aw_ls [3, 2, 1, 0] rfl hF
abbrev M_X9_takeUp : Hd := (cX9_takeUp, 5, RX9, none, (2, 68), sc0)
def L_X9_takeUp_5 (h : Mem) (v0 : Nat) (v1 : Int) (v3 : Int) (v4 : Int) (Q : Mem → Prop) : Prop := AW M_X9_takeUp 5 [(0, vr v0), (1, (0, v1)), (3, (0, v3)), (4, (0, v4))] [] h (qv Q)
def B_X9_takeUp_5 (h : Mem) (v0 : Nat) (v1 : Int) (v3 : Int) (v4 : Int) (Q : Mem → Prop) : Prop :=
  (((h v0 0) ≤ v4 → Q h) ∧ (¬ ((h v0 0) ≤ v4) → ((0 ≤ v4 ∧ v4 < 8) ∧ ((¬ ((h (v0 + 5) (v4).toNat) = 1) → (InR (v4 + 1) ∧ L_X9_takeUp_5 h v0 v1 v3 (v4 + 1) Q)) ∧ ((h (v0 + 5) (v4).toNat) = 1 → ((¬ ((h (v0 + 6) (v4).toNat) = v1) → (InR (v4 + 1) ∧ L_X9_takeUp_5 h v0 v1 v3 (v4 + 1) Q)) ∧ ((h (v0 + 6) (v4).toNat) = v1 → (((h (v0 + 7) (v4).toNat) < (h (v0 + 4) (v4).toNat) → (InR (v4 + 1) ∧ L_X9_takeUp_5 h v0 v1 v3 (v4 + 1) Q)) ∧ (¬ ((h (v0 + 7) (v4).toNat) < (h (v0 + 4) (v4).toNat)) → ((v3 < (h (v0 + 2) (v4).toNat) → (InR (v4 + 1) ∧ L_X9_takeUp_5 h v0 v1 v3 (v4 + 1) Q)) ∧ (¬ (v3 < (h (v0 + 2) (v4).toNat)) → (InR (v3 - (h (v0 + 2) (v4).toNat)) ∧ (∀ x13 : Int, x13 = v3 - (h (v0 + 2) (v4).toNat) → (F_X9_place h v0 v4 2 0 (fun h14 => (InR (v4 + 1) ∧ L_X9_takeUp_5 h14 v0 v1 x13 (v4 + 1) Q))))))))))))))))
set_option maxRecDepth 100000 in
set_option maxHeartbeats 4000000 in
theorem l_X9_takeUp_5 {h : Mem} {v0 : Nat} {v1 : Int} {v3 : Int} {v4 : Int} {Q : Mem → Prop} (hv0 : lay v0 = (0, 9)) (hF : B_X9_takeUp_5 h v0 v1 v3 v4 Q) : L_X9_takeUp_5 h v0 v1 v3 v4 Q := by
  unfold B_X9_takeUp_5 at hF
  show AW M_X9_takeUp 5 [(0, vr v0), (1, (0, v1)), (3, (0, v3)), (4, (0, v4))] [] h (qv Q)
  refine aw_iload (j := 3) (M := M_X9_takeUp) (pc := 5) dX9_takeUp_5  rfl ?_
  refine aw_aload_n (j := 0) (M := M_X9_takeUp) (pc := 7) dX9_takeUp_7 rfl rfl ?_
  refine gf_X9_9 (M := M_X9_takeUp) (pc := 8) rfl dX9_takeUp_8 hv0 ?_
  refine aw_icmp_ge (tgt := 88) (M := M_X9_takeUp) (pc := 11) dX9_takeUp_11 rfl (fun hc => ?_) (fun hc => ?_)
  · have hF := hF.1 hc
    exact aw_ret (M := M_X9_takeUp) (pc := 88) dX9_takeUp_88 rfl ⟨rfl, hF⟩
  · have hF := hF.2 hc
    refine aw_aload_n (j := 0) (M := M_X9_takeUp) (pc := 14) dX9_takeUp_14 rfl rfl ?_
    refine gf_X9_29 (M := M_X9_takeUp) (pc := 15) rfl dX9_takeUp_15 hv0 (r := v0 + 5) rfl ?_
    refine aw_iload (j := 3) (M := M_X9_takeUp) (pc := 18) dX9_takeUp_18  rfl ?_
    obtain ⟨o2, hF⟩ := hF
    refine aw_iald (k := (v4).toNat) (M := M_X9_takeUp) (pc := 20) dX9_takeUp_20 (ll_9_5 hv0) o2 rfl ?_
    refine aw_iconst (M := M_X9_takeUp) (pc := 21) dX9_takeUp_21 ⟨by decide, by decide⟩ ?_
    refine aw_icmp_ne (tgt := 82) (M := M_X9_takeUp) (pc := 22) dX9_takeUp_22 rfl (fun hc => ?_) (fun hc => ?_)
    · have hF := hF.1 hc
      obtain ⟨o3, hF⟩ := hF
      refine aw_iinc (j := 3) (x := v4) (r := v4 + 1) (ls' := [(4, (0, v4 + 1)), (0, vr v0), (1, (0, v1)), (3, (0, v3))]) (M := M_X9_takeUp) (pc := 82) dX9_takeUp_82 rfl rfl o3 (by decide) rfl ?_
      refine aw_goto (tgt := 5) (M := M_X9_takeUp) (pc := 85) dX9_takeUp_85 rfl ?_
      exact aw_ls [1, 2, 3, 0] rfl hF
    · have hF := hF.2 hc
      refine aw_aload_n (j := 0) (M := M_X9_takeUp) (pc := 25) dX9_takeUp_25 rfl rfl ?_
      refine gf_X9_32 (M := M_X9_takeUp) (pc := 26) rfl dX9_takeUp_26 hv0 (r := v0 + 6) rfl ?_
      refine aw_iload (j := 3) (M := M_X9_takeUp) (pc := 29) dX9_takeUp_29  rfl ?_
      refine aw_iald (k := (v4).toNat) (M := M_X9_takeUp) (pc := 31) dX9_takeUp_31 (ll_9_6 hv0) o2 rfl ?_
      refine aw_iload_n (j := 1) (M := M_X9_takeUp) (pc := 32) dX9_takeUp_32 rfl rfl ?_
      refine aw_icmp_ne (tgt := 82) (M := M_X9_takeUp) (pc := 33) dX9_takeUp_33 rfl (fun hc => ?_) (fun hc => ?_)
      · have hF := hF.1 hc
        obtain ⟨o5, hF⟩ := hF
        refine aw_iinc (j := 3) (x := v4) (r := v4 + 1) (ls' := [(4, (0, v4 + 1)), (0, vr v0), (1, (0, v1)), (3, (0, v3))]) (M := M_X9_takeUp) (pc := 82) dX9_takeUp_82 rfl rfl o5 (by decide) rfl ?_
        refine aw_goto (tgt := 5) (M := M_X9_takeUp) (pc := 85) dX9_takeUp_85 rfl ?_
        exact aw_ls [1, 2, 3, 0] rfl hF
      · have hF := hF.2 hc
        refine aw_aload_n (j := 0) (M := M_X9_takeUp) (pc := 36) dX9_takeUp_36 rfl rfl ?_
        refine gf_X9_35 (M := M_X9_takeUp) (pc := 37) rfl dX9_takeUp_37 hv0 (r := v0 + 7) rfl ?_
        refine aw_iload (j := 3) (M := M_X9_takeUp) (pc := 40) dX9_takeUp_40  rfl ?_
        refine aw_iald (k := (v4).toNat) (M := M_X9_takeUp) (pc := 42) dX9_takeUp_42 (ll_9_7 hv0) o2 rfl ?_
        refine aw_aload_n (j := 0) (M := M_X9_takeUp) (pc := 43) dX9_takeUp_43 rfl rfl ?_
        refine gf_X9_26 (M := M_X9_takeUp) (pc := 44) rfl dX9_takeUp_44 hv0 (r := v0 + 4) rfl ?_
        refine aw_iload (j := 3) (M := M_X9_takeUp) (pc := 47) dX9_takeUp_47  rfl ?_
        refine aw_iald (k := (v4).toNat) (M := M_X9_takeUp) (pc := 49) dX9_takeUp_49 (ll_9_4 hv0) o2 rfl ?_
        refine aw_icmp_lt (tgt := 82) (M := M_X9_takeUp) (pc := 50) dX9_takeUp_50 rfl (fun hc => ?_) (fun hc => ?_)
        · have hF := hF.1 hc
          obtain ⟨o8, hF⟩ := hF
          refine aw_iinc (j := 3) (x := v4) (r := v4 + 1) (ls' := [(4, (0, v4 + 1)), (0, vr v0), (1, (0, v1)), (3, (0, v3))]) (M := M_X9_takeUp) (pc := 82) dX9_takeUp_82 rfl rfl o8 (by decide) rfl ?_
          refine aw_goto (tgt := 5) (M := M_X9_takeUp) (pc := 85) dX9_takeUp_85 rfl ?_
          exact aw_ls [1, 2, 3, 0] rfl hF
        · have hF := hF.2 hc
          refine aw_aload_n (j := 0) (M := M_X9_takeUp) (pc := 53) dX9_takeUp_53 rfl rfl ?_
          refine gf_X9_19 (M := M_X9_takeUp) (pc := 54) rfl dX9_takeUp_54 hv0 (r := v0 + 2) rfl ?_
          refine aw_iload (j := 3) (M := M_X9_takeUp) (pc := 57) dX9_takeUp_57  rfl ?_
          refine aw_iald (k := (v4).toNat) (M := M_X9_takeUp) (pc := 59) dX9_takeUp_59 (ll_9_2 hv0) o2 rfl ?_
          refine aw_iload_n (j := 2) (M := M_X9_takeUp) (pc := 60) dX9_takeUp_60 rfl rfl ?_
          refine aw_icmp_gt (tgt := 82) (M := M_X9_takeUp) (pc := 61) dX9_takeUp_61 rfl (fun hc => ?_) (fun hc => ?_)
          · have hF := hF.1 hc
            obtain ⟨o10, hF⟩ := hF
            refine aw_iinc (j := 3) (x := v4) (r := v4 + 1) (ls' := [(4, (0, v4 + 1)), (0, vr v0), (1, (0, v1)), (3, (0, v3))]) (M := M_X9_takeUp) (pc := 82) dX9_takeUp_82 rfl rfl o10 (by decide) rfl ?_
            refine aw_goto (tgt := 5) (M := M_X9_takeUp) (pc := 85) dX9_takeUp_85 rfl ?_
            exact aw_ls [1, 2, 3, 0] rfl hF
          · have hF := hF.2 hc
            refine aw_iload_n (j := 2) (M := M_X9_takeUp) (pc := 64) dX9_takeUp_64 rfl rfl ?_
            refine aw_aload_n (j := 0) (M := M_X9_takeUp) (pc := 65) dX9_takeUp_65 rfl rfl ?_
            refine gf_X9_19 (M := M_X9_takeUp) (pc := 66) rfl dX9_takeUp_66 hv0 (r := v0 + 2) rfl ?_
            refine aw_iload (j := 3) (M := M_X9_takeUp) (pc := 69) dX9_takeUp_69  rfl ?_
            refine aw_iald (k := (v4).toNat) (M := M_X9_takeUp) (pc := 71) dX9_takeUp_71 (ll_9_2 hv0) o2 rfl ?_
            obtain ⟨o12, hF⟩ := hF
            refine aw_isub (M := M_X9_takeUp) (pc := 72) dX9_takeUp_72 rfl o12 ?_
            obtain ⟨x13, ex13⟩ : ∃ y : Int, y = v3 - (h (v0 + 2) (v4).toNat) := ⟨_, rfl⟩
            have hF := hF x13 ex13
            rw [← ex13]
            refine aw_istore_n (ls' := [(3, (0, x13)), (0, vr v0), (1, (0, v1)), (4, (0, v4))]) (M := M_X9_takeUp) (pc := 73) dX9_takeUp_73 rfl (by decide) rfl ?_
            refine aw_aload_n (j := 1) (M := M_X9_takeUp) (pc := 74) dX9_takeUp_74 rfl rfl ?_
            refine aw_iload (j := 3) (M := M_X9_takeUp) (pc := 75) dX9_takeUp_75  rfl ?_
            refine aw_iconst (M := M_X9_takeUp) (pc := 77) dX9_takeUp_77 ⟨by decide, by decide⟩ ?_
            refine aw_iconst (M := M_X9_takeUp) (pc := 78) dX9_takeUp_78 ⟨by decide, by decide⟩ ?_
            refine aw_cvv (as := [(0, v4), (0, 2), (0, 0)]) (st := []) (M := M_X9_takeUp) (pc := 79) (f_X9_place hv0 hF) dX9_takeUp_79 rfl (Or.inl ⟨_, _, _, hv0, rfl⟩) cy_X9_place ml_X9_55 (by decide) (by decide) (Nat.le_of_ble_eq_true rfl) (fun h14 hF => ?_)
            obtain ⟨o16, hF⟩ := hF
            refine aw_iinc (j := 3) (x := v4) (r := v4 + 1) (ls' := [(4, (0, v4 + 1)), (3, (0, x13)), (0, vr v0), (1, (0, v1))]) (M := M_X9_takeUp) (pc := 82) dX9_takeUp_82 rfl rfl o16 (by decide) rfl ?_
            refine aw_goto (tgt := 5) (M := M_X9_takeUp) (pc := 85) dX9_takeUp_85 rfl ?_
            exact aw_ls [2, 3, 1, 0] rfl hF
def F_X9_takeUp (h : Mem) (o : Nat) (a1 : Int) (a2 : Int) (Q : Mem → Prop) : Prop :=
  L_X9_takeUp_5 h o a1 a2 0 Q
set_option maxRecDepth 100000 in
set_option maxHeartbeats 4000000 in
theorem f_X9_takeUp {h : Mem} {o : Nat} {a1 : Int} {a2 : Int} {Q : Mem → Prop} (ho : lay o = (0, 9)) (hF : F_X9_takeUp h o a1 a2 Q) : Ct yX9_takeUp cX9_takeUp 5 none (2, 68) [vr o, (0, a1), (0, a2)] h (qv Q) := by
  refine Ct.of np_RX9 (Nat.le_of_ble_eq_true rfl) ?_
  unfold F_X9_takeUp at hF
  show AW M_X9_takeUp 0 [(0, vr o), (1, (0, a1)), (2, (0, a2))] [] h (qv Q)
  refine aw_iload_n (j := 2) (M := M_X9_takeUp) (pc := 0) dX9_takeUp_0 rfl rfl ?_
  refine aw_istore_n (ls' := [(3, (0, a2)), (0, vr o), (1, (0, a1)), (2, (0, a2))]) (M := M_X9_takeUp) (pc := 1) dX9_takeUp_1 rfl (by decide) rfl ?_
  refine aw_iconst (M := M_X9_takeUp) (pc := 2) dX9_takeUp_2 ⟨by decide, by decide⟩ ?_
  refine aw_istore (ls' := [(4, (0, 0)), (3, (0, a2)), (0, vr o), (1, (0, a1)), (2, (0, a2))]) (M := M_X9_takeUp) (pc := 3) dX9_takeUp_3  (by decide) rfl ?_
  exact aw_ls [2, 3, 1, 0] rfl hF
abbrev M_X4_passHour : Hd := (cX4_passHour, 5, RX4, (some .boolean), (3, 92), sc0)
def J_X4_passHour_147 (h : Mem) (v0 : Nat) (v4 : Int) (Q : Int → Mem → Prop) : Prop :=
  (InR ((h v0 0) - 1) ∧ ((¬ ((h v0 3) = ((h v0 0) - 1)) → (F_X9_growOlder h (v0 + 1) (h v0 3) 0 (fun h25 => (InR ((h25 v0 5) + 1) ∧ (∀ h28 : Mem, h28 = mset h25 v0 5 ((h25 v0 5) + 1) → (InZ v4 ∧ Q v4 h28)))))) ∧ ((h v0 3) = ((h v0 0) - 1) → (F_X9_growOlder h (v0 + 1) (h v0 3) 1 (fun h29 => (InR ((h29 v0 5) + 1) ∧ (∀ h32 : Mem, h32 = mset h29 v0 5 ((h29 v0 5) + 1) → (InZ v4 ∧ Q v4 h32))))))))
set_option maxRecDepth 100000 in
set_option maxHeartbeats 4000000 in
theorem j_X4_passHour_147 {h : Mem} {v0 : Nat} {v4 : Int} {Q : Int → Mem → Prop} (hv0 : lay v0 = (0, 4)) (hF : J_X4_passHour_147 h v0 v4 Q) : AW M_X4_passHour 147 [(0, vr v0), (4, (0, v4))] [] h (qi Q) := by
  unfold J_X4_passHour_147 at hF
  refine aw_aload_n (j := 0) (M := M_X4_passHour) (pc := 147) dX4_passHour_147 rfl rfl ?_
  refine gf_X4_12 (M := M_X4_passHour) (pc := 148) rfl dX4_passHour_148 hv0 (r := v0 + 1) rfl ?_
  refine aw_aload_n (j := 0) (M := M_X4_passHour) (pc := 151) dX4_passHour_151 rfl rfl ?_
  refine gf_X4_38 (M := M_X4_passHour) (pc := 152) rfl dX4_passHour_152 hv0 ?_
  refine aw_aload_n (j := 0) (M := M_X4_passHour) (pc := 155) dX4_passHour_155 rfl rfl ?_
  refine gf_X4_38 (M := M_X4_passHour) (pc := 156) rfl dX4_passHour_156 hv0 ?_
  refine aw_aload_n (j := 0) (M := M_X4_passHour) (pc := 159) dX4_passHour_159 rfl rfl ?_
  refine gf_X4_28 (M := M_X4_passHour) (pc := 160) rfl dX4_passHour_160 hv0 ?_
  refine aw_iconst (M := M_X4_passHour) (pc := 163) dX4_passHour_163 ⟨by decide, by decide⟩ ?_
  obtain ⟨o24, hF⟩ := hF
  refine aw_isub (M := M_X4_passHour) (pc := 164) dX4_passHour_164 rfl o24 ?_
  refine aw_icmp_ne (tgt := 172) (M := M_X4_passHour) (pc := 165) dX4_passHour_165 rfl (fun hc => ?_) (fun hc => ?_)
  · have hF := hF.1 hc
    refine aw_iconst (M := M_X4_passHour) (pc := 172) dX4_passHour_172 ⟨by decide, by decide⟩ ?_
    refine aw_cvv (as := [(0, h v0 3), (0, 0)]) (st := []) (M := M_X4_passHour) (pc := 173) (f_X9_growOlder (ll_4_7 hv0) hF) dX4_passHour_173 rfl (Or.inl ⟨_, _, _, (ll_4_7 hv0), rfl⟩) cy_X9_growOlder ml_X4_89 (by decide) (by decide) (Nat.le_of_ble_eq_true rfl) (fun h25 hF => ?_)
    refine aw_aload_n (j := 0) (M := M_X4_passHour) (pc := 176) dX4_passHour_176 rfl rfl ?_
    refine aw_dup (M := M_X4_passHour) (pc := 177) dX4_passHour_177 rfl ?_
    refine gf_X4_44 (M := M_X4_passHour) (pc := 178) rfl dX4_passHour_178 hv0 ?_
    refine aw_iconst (M := M_X4_passHour) (pc := 181) dX4_passHour_181 ⟨by decide, by decide⟩ ?_
    obtain ⟨o27, hF⟩ := hF
    refine aw_iadd (M := M_X4_passHour) (pc := 182) dX4_passHour_182 rfl o27 ?_
    refine pf_X4_44 (M := M_X4_passHour) (pc := 183) rfl dX4_passHour_183 hv0 ?_
    obtain ⟨h28, eh28⟩ : ∃ y : Mem, y = mset h25 v0 5 ((h25 v0 5) + 1) := ⟨_, rfl⟩
    have hF := hF h28 eh28
    rw [← eh28]
    refine aw_iload (j := 1) (M := M_X4_passHour) (pc := 186) dX4_passHour_186  rfl ?_
    exact aw_iretz (M := M_X4_passHour) (pc := 188) dX4_passHour_188 rfl hF.1 ⟨_, rfl, hF.2⟩
  · have hF := hF.2 hc
    refine aw_iconst (M := M_X4_passHour) (pc := 168) dX4_passHour_168 ⟨by decide, by decide⟩ ?_
    refine aw_goto (tgt := 173) (M := M_X4_passHour) (pc := 169) dX4_passHour_169 rfl ?_
    refine aw_cvv (as := [(0, h v0 3), (0, 1)]) (st := []) (M := M_X4_passHour) (pc := 173) (f_X9_growOlder (ll_4_7 hv0) hF) dX4_passHour_173 rfl (Or.inl ⟨_, _, _, (ll_4_7 hv0), rfl⟩) cy_X9_growOlder ml_X4_89 (by decide) (by decide) (Nat.le_of_ble_eq_true rfl) (fun h29 hF => ?_)
    refine aw_aload_n (j := 0) (M := M_X4_passHour) (pc := 176) dX4_passHour_176 rfl rfl ?_
    refine aw_dup (M := M_X4_passHour) (pc := 177) dX4_passHour_177 rfl ?_
    refine gf_X4_44 (M := M_X4_passHour) (pc := 178) rfl dX4_passHour_178 hv0 ?_
    refine aw_iconst (M := M_X4_passHour) (pc := 181) dX4_passHour_181 ⟨by decide, by decide⟩ ?_
    obtain ⟨o31, hF⟩ := hF
    refine aw_iadd (M := M_X4_passHour) (pc := 182) dX4_passHour_182 rfl o31 ?_
    refine pf_X4_44 (M := M_X4_passHour) (pc := 183) rfl dX4_passHour_183 hv0 ?_
    obtain ⟨h32, eh32⟩ : ∃ y : Mem, y = mset h29 v0 5 ((h29 v0 5) + 1) := ⟨_, rfl⟩
    have hF := hF h32 eh32
    rw [← eh32]
    refine aw_iload (j := 1) (M := M_X4_passHour) (pc := 186) dX4_passHour_186  rfl ?_
    exact aw_iretz (M := M_X4_passHour) (pc := 188) dX4_passHour_188 rfl hF.1 ⟨_, rfl, hF.2⟩
def J_X4_passHour_119 (h : Mem) (v0 : Nat) (v1 : Int) (v4 : Int) (Q : Int → Mem → Prop) : Prop :=
  ((v1 = (-1) → J_X4_passHour_147 h v0 v4 Q) ∧ (¬ (v1 = (-1)) → (F_X9_carriedWeight h (v0 + 1) (fun r20 h19 => (InR ((h v0 1) - r20) ∧ (F_X9_takeUp h19 (v0 + 1) (h v0 3) ((h v0 1) - r20) (fun h22 => J_X4_passHour_147 h22 v0 v4 Q)))))))
set_option maxRecDepth 100000 in
set_option maxHeartbeats 4000000 in
theorem j_X4_passHour_119 {h : Mem} {v0 : Nat} {v1 : Int} {v4 : Int} {Q : Int → Mem → Prop} (hv0 : lay v0 = (0, 4)) (hF : J_X4_passHour_119 h v0 v1 v4 Q) : AW M_X4_passHour 119 [(0, vr v0), (1, (0, v1)), (4, (0, v4))] [] h (qi Q) := by
  unfold J_X4_passHour_119 at hF
  refine aw_iload_n (j := 1) (M := M_X4_passHour) (pc := 119) dX4_passHour_119 rfl rfl ?_
  refine aw_iconst (M := M_X4_passHour) (pc := 120) dX4_passHour_120 ⟨by decide, by decide⟩ ?_
  refine aw_icmp_eq (tgt := 147) (M := M_X4_passHour) (pc := 121) dX4_passHour_121 rfl (fun hc => ?_) (fun hc => ?_)
  · have hF := hF.1 hc
    exact aw_ls [0, 2] rfl (j_X4_passHour_147 hv0 hF)
  · have hF := hF.2 hc
    refine aw_aload_n (j := 0) (M := M_X4_passHour) (pc := 124) dX4_passHour_124 rfl rfl ?_
    refine gf_X4_12 (M := M_X4_passHour) (pc := 125) rfl dX4_passHour_125 hv0 (r := v0 + 1) rfl ?_
    refine aw_aload_n (j := 0) (M := M_X4_passHour) (pc := 128) dX4_passHour_128 rfl rfl ?_
    refine gf_X4_38 (M := M_X4_passHour) (pc := 129) rfl dX4_passHour_129 hv0 ?_
    refine aw_aload_n (j := 0) (M := M_X4_passHour) (pc := 132) dX4_passHour_132 rfl rfl ?_
    refine gf_X4_32 (M := M_X4_passHour) (pc := 133) rfl dX4_passHour_133 hv0 ?_
    refine aw_aload_n (j := 0) (M := M_X4_passHour) (pc := 136) dX4_passHour_136 rfl rfl ?_
    refine gf_X4_12 (M := M_X4_passHour) (pc := 137) rfl dX4_passHour_137 hv0 (r := v0 + 1) rfl ?_
    refine aw_cvi (as := []) (st := [(0, h v0 1), (0, h v0 3), vr (v0 + 1)]) (M := M_X4_passHour) (pc := 140) (f_X9_carriedWeight (ll_4_7 hv0) hF) dX4_passHour_140 rfl (Or.inl ⟨_, _, _, (ll_4_7 hv0), rfl⟩) cy_X9_carriedWeight ml_X4_83 (by decide) (by decide) (Nat.le_of_ble_eq_true rfl) (fun r20 h19 hF => ?_)
    obtain ⟨o21, hF⟩ := hF
    refine aw_isub (M := M_X4_passHour) (pc := 143) dX4_passHour_143 rfl o21 ?_
    refine aw_cvv (as := [(0, h v0 3), (0, (h v0 1) - r20)]) (st := []) (M := M_X4_passHour) (pc := 144) (f_X9_takeUp (ll_4_7 hv0) hF) dX4_passHour_144 rfl (Or.inl ⟨_, _, _, (ll_4_7 hv0), rfl⟩) cy_X9_takeUp ml_X4_86 (by decide) (by decide) (Nat.le_of_ble_eq_true rfl) (fun h22 hF => ?_)
    exact aw_ls [0, 2] rfl (j_X4_passHour_147 hv0 hF)
def J_X4_passHour_48 (h : Mem) (v0 : Nat) (v1 : Int) (v2 : Int) (v3 : Int) (Q : Int → Mem → Prop) : Prop :=
  ((v2 = (h v0 3) → J_X4_passHour_119 h v0 v1 0 Q) ∧ (¬ (v2 = (h v0 3)) → ((¬ ((h v0 4) = 1) → (InR ((h v0 3) + (-1)) ∧ (∀ h12 : Mem, h12 = mset h v0 3 ((h v0 3) + (-1)) → (F_X7_grindAt h12 (v0 + 10) (h12 v0 3) (h12 v0 4) (fun h13 => J_X4_passHour_119 h13 v0 v1 0 Q))))) ∧ ((h v0 4) = 1 → (InR ((h v0 3) + 1) ∧ (∀ h16 : Mem, h16 = mset h v0 3 ((h v0 3) + 1) → (F_X7_grindAt h16 (v0 + 10) (h16 v0 3) (h16 v0 4) (fun h17 => J_X4_passHour_119 h17 v0 v1 0 Q))))))))
set_option maxRecDepth 100000 in
set_option maxHeartbeats 4000000 in
theorem j_X4_passHour_48 {h : Mem} {v0 : Nat} {v1 : Int} {v2 : Int} {v3 : Int} {Q : Int → Mem → Prop} (hv0 : lay v0 = (0, 4)) (hF : J_X4_passHour_48 h v0 v1 v2 v3 Q) : AW M_X4_passHour 48 [(0, vr v0), (1, (0, v1)), (2, (0, v2)), (3, (0, v3))] [] h (qi Q) := by
  unfold J_X4_passHour_48 at hF
  refine aw_iconst (M := M_X4_passHour) (pc := 48) dX4_passHour_48 ⟨by decide, by decide⟩ ?_
  refine aw_istore (ls' := [(4, (0, 0)), (0, vr v0), (1, (0, v1)), (2, (0, v2)), (3, (0, v3))]) (M := M_X4_passHour) (pc := 49) dX4_passHour_49  (by decide) rfl ?_
  refine aw_iload (j := 0) (M := M_X4_passHour) (pc := 51) dX4_passHour_51  rfl ?_
  refine aw_if_eq (tgt := 74) (M := M_X4_passHour) (pc := 53) dX4_passHour_53 rfl (fun hc => ?_) (fun hc => absurd hc (by decide))
  refine aw_iload_n (j := 3) (M := M_X4_passHour) (pc := 74) dX4_passHour_74 rfl rfl ?_
  refine aw_aload_n (j := 1) (M := M_X4_passHour) (pc := 75) dX4_passHour_75 rfl rfl ?_
  refine gf_X4_38 (M := M_X4_passHour) (pc := 76) rfl dX4_passHour_76 hv0 ?_
  refine aw_icmp_eq (tgt := 119) (M := M_X4_passHour) (pc := 79) dX4_passHour_79 rfl (fun hc => ?_) (fun hc => ?_)
  · have hF := hF.1 hc
    exact aw_ls [1, 2, 0] rfl (j_X4_passHour_119 hv0 hF)
  · have hF := hF.2 hc
    refine aw_aload_n (j := 1) (M := M_X4_passHour) (pc := 82) dX4_passHour_82 rfl rfl ?_
    refine aw_dup (M := M_X4_passHour) (pc := 83) dX4_passHour_83 rfl ?_
    refine gf_X4_38 (M := M_X4_passHour) (pc := 84) rfl dX4_passHour_84 hv0 ?_
    refine aw_aload_n (j := 1) (M := M_X4_passHour) (pc := 87) dX4_passHour_87 rfl rfl ?_
    refine gf_X4_41 (M := M_X4_passHour) (pc := 88) rfl dX4_passHour_88 hv0 ?_
    refine aw_iconst (M := M_X4_passHour) (pc := 91) dX4_passHour_91 ⟨by decide, by decide⟩ ?_
    refine aw_icmp_ne (tgt := 99) (M := M_X4_passHour) (pc := 92) dX4_passHour_92 rfl (fun hc => ?_) (fun hc => ?_)
    · have hF := hF.1 hc
      refine aw_iconst (M := M_X4_passHour) (pc := 99) dX4_passHour_99 ⟨by decide, by decide⟩ ?_
      obtain ⟨o11, hF⟩ := hF
      refine aw_iadd (M := M_X4_passHour) (pc := 100) dX4_passHour_100 rfl o11 ?_
      refine pf_X4_38 (M := M_X4_passHour) (pc := 101) rfl dX4_passHour_101 hv0 ?_
      obtain ⟨h12, eh12⟩ : ∃ y : Mem, y = mset h v0 3 ((h v0 3) + (-1)) := ⟨_, rfl⟩
      have hF := hF h12 eh12
      rw [← eh12]
      refine aw_aload_n (j := 1) (M := M_X4_passHour) (pc := 104) dX4_passHour_104 rfl rfl ?_
      refine gf_X4_21 (M := M_X4_passHour) (pc := 105) rfl dX4_passHour_105 hv0 (r := v0 + 10) rfl ?_
      refine aw_aload_n (j := 1) (M := M_X4_passHour) (pc := 108) dX4_passHour_108 rfl rfl ?_
      refine gf_X4_38 (M := M_X4_passHour) (pc := 109) rfl dX4_passHour_109 hv0 ?_
      refine aw_aload_n (j := 1) (M := M_X4_passHour) (pc := 112) dX4_passHour_112 rfl rfl ?_
      refine gf_X4_41 (M := M_X4_passHour) (pc := 113) rfl dX4_passHour_113 hv0 ?_
      refine aw_cvv (as := [(0, h12 v0 3), (0, h12 v0 4)]) (st := []) (M := M_X4_passHour) (pc := 116) (f_X7_grindAt (ll_4_8 hv0) hF) dX4_passHour_116 rfl (Or.inl ⟨_, _, _, (ll_4_8 hv0), rfl⟩) cy_X7_grindAt ml_X4_79 (by decide) (by decide) (Nat.le_of_ble_eq_true rfl) (fun h13 hF => ?_)
      exact aw_ls [1, 2, 0] rfl (j_X4_passHour_119 hv0 hF)
    · have hF := hF.2 hc
      refine aw_iconst (M := M_X4_passHour) (pc := 95) dX4_passHour_95 ⟨by decide, by decide⟩ ?_
      refine aw_goto (tgt := 100) (M := M_X4_passHour) (pc := 96) dX4_passHour_96 rfl ?_
      obtain ⟨o15, hF⟩ := hF
      refine aw_iadd (M := M_X4_passHour) (pc := 100) dX4_passHour_100 rfl o15 ?_
      refine pf_X4_38 (M := M_X4_passHour) (pc := 101) rfl dX4_passHour_101 hv0 ?_
      obtain ⟨h16, eh16⟩ : ∃ y : Mem, y = mset h v0 3 ((h v0 3) + 1) := ⟨_, rfl⟩
      have hF := hF h16 eh16
      rw [← eh16]
      refine aw_aload_n (j := 1) (M := M_X4_passHour) (pc := 104) dX4_passHour_104 rfl rfl ?_
      refine gf_X4_21 (M := M_X4_passHour) (pc := 105) rfl dX4_passHour_105 hv0 (r := v0 + 10) rfl ?_
      refine aw_aload_n (j := 1) (M := M_X4_passHour) (pc := 108) dX4_passHour_108 rfl rfl ?_
      refine gf_X4_38 (M := M_X4_passHour) (pc := 109) rfl dX4_passHour_109 hv0 ?_
      refine aw_aload_n (j := 1) (M := M_X4_passHour) (pc := 112) dX4_passHour_112 rfl rfl ?_
      refine gf_X4_41 (M := M_X4_passHour) (pc := 113) rfl dX4_passHour_113 hv0 ?_
      refine aw_cvv (as := [(0, h16 v0 3), (0, h16 v0 4)]) (st := []) (M := M_X4_passHour) (pc := 116) (f_X7_grindAt (ll_4_8 hv0) hF) dX4_passHour_116 rfl (Or.inl ⟨_, _, _, (ll_4_8 hv0), rfl⟩) cy_X7_grindAt ml_X4_79 (by decide) (by decide) (Nat.le_of_ble_eq_true rfl) (fun h17 hF => ?_)
      exact aw_ls [1, 2, 0] rfl (j_X4_passHour_119 hv0 hF)
def F_X4_passHour (h : Mem) (o : Nat) (Q : Int → Mem → Prop) : Prop :=
  (F_X9_longestRemembered h (o + 1) (fun r2 h1 => (F_X4_goalCell h1 o r2 (fun r4 h3 => ((r4 ≤ (h3 o 3) → ((r4 = (h3 o 3) → J_X4_passHour_48 h3 o r2 r4 0 Q) ∧ (¬ (r4 = (h3 o 3)) → (((h3 o 4) = 0 → J_X4_passHour_48 h3 o r2 r4 0 Q) ∧ (¬ ((h3 o 4) = 0) → (∀ h5 : Mem, h5 = mset h3 o 4 0 → (InR ((h5 o 6) + 1) ∧ (∀ h7 : Mem, h7 = mset h5 o 6 ((h5 o 6) + 1) → J_X4_passHour_119 h7 o r2 1 Q)))))))) ∧ (¬ (r4 ≤ (h3 o 3)) → ((r4 = (h3 o 3) → J_X4_passHour_48 h3 o r2 r4 1 Q) ∧ (¬ (r4 = (h3 o 3)) → (((h3 o 4) = 1 → J_X4_passHour_48 h3 o r2 r4 1 Q) ∧ (¬ ((h3 o 4) = 1) → (∀ h8 : Mem, h8 = mset h3 o 4 1 → (InR ((h8 o 6) + 1) ∧ (∀ h10 : Mem, h10 = mset h8 o 6 ((h8 o 6) + 1) → J_X4_passHour_119 h10 o r2 1 Q)))))))))))))
set_option maxRecDepth 100000 in
set_option maxHeartbeats 4000000 in
theorem f_X4_passHour {h : Mem} {o : Nat} {Q : Int → Mem → Prop} (ho : lay o = (0, 4)) (hF : F_X4_passHour h o Q) : Ct yX4_passHour cX4_passHour 5 (some .boolean) (3, 92) [vr o] h (qi Q) := by
  refine Ct.of np_RX4 (Nat.le_of_ble_eq_true rfl) ?_
  unfold F_X4_passHour at hF
  show AW M_X4_passHour 0 [(0, vr o)] [] h (qi Q)
  refine aw_aload_n (j := 0) (M := M_X4_passHour) (pc := 0) dX4_passHour_0 rfl rfl ?_
  refine gf_X4_12 (M := M_X4_passHour) (pc := 1) rfl dX4_passHour_1 ho (r := o + 1) rfl ?_
  refine aw_cvi (as := []) (st := []) (M := M_X4_passHour) (pc := 4) (f_X9_longestRemembered (ll_4_7 ho) hF) dX4_passHour_4 rfl (Or.inl ⟨_, _, _, (ll_4_7 ho), rfl⟩) cy_X9_longestRemembered ml_X4_71 (by decide) (by decide) (Nat.le_of_ble_eq_true rfl) (fun r2 h1 hF => ?_)
  refine aw_istore_n (ls' := [(1, (0, r2)), (0, vr o)]) (M := M_X4_passHour) (pc := 7) dX4_passHour_7 rfl (by decide) rfl ?_
  refine aw_aload_n (j := 1) (M := M_X4_passHour) (pc := 8) dX4_passHour_8 rfl rfl ?_
  refine aw_iload_n (j := 0) (M := M_X4_passHour) (pc := 9) dX4_passHour_9 rfl rfl ?_
  refine aw_cvi (as := [(0, r2)]) (st := []) (M := M_X4_passHour) (pc := 10) (f_X4_goalCell ho hF) dX4_passHour_10 rfl (Or.inl ⟨_, _, _, ho, rfl⟩) cy_X4_goalCell ml_X4_75 (by decide) (by decide) (Nat.le_of_ble_eq_true rfl) (fun r4 h3 hF => ?_)
  refine aw_istore_n (ls' := [(2, (0, r4)), (1, (0, r2)), (0, vr o)]) (M := M_X4_passHour) (pc := 13) dX4_passHour_13 rfl (by decide) rfl ?_
  refine aw_iload_n (j := 0) (M := M_X4_passHour) (pc := 14) dX4_passHour_14 rfl rfl ?_
  refine aw_aload_n (j := 2) (M := M_X4_passHour) (pc := 15) dX4_passHour_15 rfl rfl ?_
  refine gf_X4_38 (M := M_X4_passHour) (pc := 16) rfl dX4_passHour_16 ho ?_
  refine aw_icmp_le (tgt := 26) (M := M_X4_passHour) (pc := 19) dX4_passHour_19 rfl (fun hc => ?_) (fun hc => ?_)
  · have hF := hF.1 hc
    refine aw_iconst (M := M_X4_passHour) (pc := 26) dX4_passHour_26 ⟨by decide, by decide⟩ ?_
    refine aw_istore_n (ls' := [(3, (0, 0)), (2, (0, r4)), (1, (0, r2)), (0, vr o)]) (M := M_X4_passHour) (pc := 27) dX4_passHour_27 rfl (by decide) rfl ?_
    refine aw_iload_n (j := 1) (M := M_X4_passHour) (pc := 28) dX4_passHour_28 rfl rfl ?_
    refine aw_aload_n (j := 3) (M := M_X4_passHour) (pc := 29) dX4_passHour_29 rfl rfl ?_
    refine gf_X4_38 (M := M_X4_passHour) (pc := 30) rfl dX4_passHour_30 ho ?_
    refine aw_icmp_eq (tgt := 48) (M := M_X4_passHour) (pc := 33) dX4_passHour_33 rfl (fun hc => ?_) (fun hc => ?_)
    · have hF := hF.1 hc
      exact aw_ls [3, 2, 1, 0] rfl (j_X4_passHour_48 ho hF)
    · have hF := hF.2 hc
      refine aw_aload_n (j := 3) (M := M_X4_passHour) (pc := 36) dX4_passHour_36 rfl rfl ?_
      refine gf_X4_41 (M := M_X4_passHour) (pc := 37) rfl dX4_passHour_37 ho ?_
      refine aw_iload_n (j := 0) (M := M_X4_passHour) (pc := 40) dX4_passHour_40 rfl rfl ?_
      refine aw_icmp_eq (tgt := 48) (M := M_X4_passHour) (pc := 41) dX4_passHour_41 rfl (fun hc => ?_) (fun hc => ?_)
      · have hF := hF.1 hc
        exact aw_ls [3, 2, 1, 0] rfl (j_X4_passHour_48 ho hF)
      · have hF := hF.2 hc
        refine aw_iconst (M := M_X4_passHour) (pc := 44) dX4_passHour_44 ⟨by decide, by decide⟩ ?_
        refine aw_goto (tgt := 49) (M := M_X4_passHour) (pc := 45) dX4_passHour_45 rfl ?_
        refine aw_istore (ls' := [(4, (0, 1)), (3, (0, 0)), (2, (0, r4)), (1, (0, r2)), (0, vr o)]) (M := M_X4_passHour) (pc := 49) dX4_passHour_49  (by decide) rfl ?_
        refine aw_iload (j := 0) (M := M_X4_passHour) (pc := 51) dX4_passHour_51  rfl ?_
        refine aw_if_eq (tgt := 74) (M := M_X4_passHour) (pc := 53) dX4_passHour_53 rfl (fun hc => absurd hc (by decide)) (fun hc => ?_)
        refine aw_aload_n (j := 4) (M := M_X4_passHour) (pc := 56) dX4_passHour_56 rfl rfl ?_
        refine aw_iload_n (j := 1) (M := M_X4_passHour) (pc := 57) dX4_passHour_57 rfl rfl ?_
        refine pf_X4_41 (M := M_X4_passHour) (pc := 58) rfl dX4_passHour_58 ho ?_
        obtain ⟨h5, eh5⟩ : ∃ y : Mem, y = mset h3 o 4 0 := ⟨_, rfl⟩
        have hF := hF h5 eh5
        rw [← eh5]
        refine aw_aload_n (j := 4) (M := M_X4_passHour) (pc := 61) dX4_passHour_61 rfl rfl ?_
        refine aw_dup (M := M_X4_passHour) (pc := 62) dX4_passHour_62 rfl ?_
        refine gf_X4_47 (M := M_X4_passHour) (pc := 63) rfl dX4_passHour_63 ho ?_
        refine aw_iconst (M := M_X4_passHour) (pc := 66) dX4_passHour_66 ⟨by decide, by decide⟩ ?_
        obtain ⟨o6, hF⟩ := hF
        refine aw_iadd (M := M_X4_passHour) (pc := 67) dX4_passHour_67 rfl o6 ?_
        refine pf_X4_47 (M := M_X4_passHour) (pc := 68) rfl dX4_passHour_68 ho ?_
        obtain ⟨h7, eh7⟩ : ∃ y : Mem, y = mset h5 o 6 ((h5 o 6) + 1) := ⟨_, rfl⟩
        have hF := hF h7 eh7
        rw [← eh7]
        refine aw_goto (tgt := 119) (M := M_X4_passHour) (pc := 71) dX4_passHour_71 rfl ?_
        exact aw_ls [4, 3, 0] rfl (j_X4_passHour_119 ho hF)
  · have hF := hF.2 hc
    refine aw_iconst (M := M_X4_passHour) (pc := 22) dX4_passHour_22 ⟨by decide, by decide⟩ ?_
    refine aw_goto (tgt := 27) (M := M_X4_passHour) (pc := 23) dX4_passHour_23 rfl ?_
    refine aw_istore_n (ls' := [(3, (0, 1)), (2, (0, r4)), (1, (0, r2)), (0, vr o)]) (M := M_X4_passHour) (pc := 27) dX4_passHour_27 rfl (by decide) rfl ?_
    refine aw_iload_n (j := 1) (M := M_X4_passHour) (pc := 28) dX4_passHour_28 rfl rfl ?_
    refine aw_aload_n (j := 3) (M := M_X4_passHour) (pc := 29) dX4_passHour_29 rfl rfl ?_
    refine gf_X4_38 (M := M_X4_passHour) (pc := 30) rfl dX4_passHour_30 ho ?_
    refine aw_icmp_eq (tgt := 48) (M := M_X4_passHour) (pc := 33) dX4_passHour_33 rfl (fun hc => ?_) (fun hc => ?_)
    · have hF := hF.1 hc
      exact aw_ls [3, 2, 1, 0] rfl (j_X4_passHour_48 ho hF)
    · have hF := hF.2 hc
      refine aw_aload_n (j := 3) (M := M_X4_passHour) (pc := 36) dX4_passHour_36 rfl rfl ?_
      refine gf_X4_41 (M := M_X4_passHour) (pc := 37) rfl dX4_passHour_37 ho ?_
      refine aw_iload_n (j := 0) (M := M_X4_passHour) (pc := 40) dX4_passHour_40 rfl rfl ?_
      refine aw_icmp_eq (tgt := 48) (M := M_X4_passHour) (pc := 41) dX4_passHour_41 rfl (fun hc => ?_) (fun hc => ?_)
      · have hF := hF.1 hc
        exact aw_ls [3, 2, 1, 0] rfl (j_X4_passHour_48 ho hF)
      · have hF := hF.2 hc
        refine aw_iconst (M := M_X4_passHour) (pc := 44) dX4_passHour_44 ⟨by decide, by decide⟩ ?_
        refine aw_goto (tgt := 49) (M := M_X4_passHour) (pc := 45) dX4_passHour_45 rfl ?_
        refine aw_istore (ls' := [(4, (0, 1)), (3, (0, 1)), (2, (0, r4)), (1, (0, r2)), (0, vr o)]) (M := M_X4_passHour) (pc := 49) dX4_passHour_49  (by decide) rfl ?_
        refine aw_iload (j := 0) (M := M_X4_passHour) (pc := 51) dX4_passHour_51  rfl ?_
        refine aw_if_eq (tgt := 74) (M := M_X4_passHour) (pc := 53) dX4_passHour_53 rfl (fun hc => absurd hc (by decide)) (fun hc => ?_)
        refine aw_aload_n (j := 4) (M := M_X4_passHour) (pc := 56) dX4_passHour_56 rfl rfl ?_
        refine aw_iload_n (j := 1) (M := M_X4_passHour) (pc := 57) dX4_passHour_57 rfl rfl ?_
        refine pf_X4_41 (M := M_X4_passHour) (pc := 58) rfl dX4_passHour_58 ho ?_
        obtain ⟨h8, eh8⟩ : ∃ y : Mem, y = mset h3 o 4 1 := ⟨_, rfl⟩
        have hF := hF h8 eh8
        rw [← eh8]
        refine aw_aload_n (j := 4) (M := M_X4_passHour) (pc := 61) dX4_passHour_61 rfl rfl ?_
        refine aw_dup (M := M_X4_passHour) (pc := 62) dX4_passHour_62 rfl ?_
        refine gf_X4_47 (M := M_X4_passHour) (pc := 63) rfl dX4_passHour_63 ho ?_
        refine aw_iconst (M := M_X4_passHour) (pc := 66) dX4_passHour_66 ⟨by decide, by decide⟩ ?_
        obtain ⟨o9, hF⟩ := hF
        refine aw_iadd (M := M_X4_passHour) (pc := 67) dX4_passHour_67 rfl o9 ?_
        refine pf_X4_47 (M := M_X4_passHour) (pc := 68) rfl dX4_passHour_68 ho ?_
        obtain ⟨h10, eh10⟩ : ∃ y : Mem, y = mset h8 o 6 ((h8 o 6) + 1) := ⟨_, rfl⟩
        have hF := hF h10 eh10
        rw [← eh10]
        refine aw_goto (tgt := 119) (M := M_X4_passHour) (pc := 71) dX4_passHour_71 rfl ?_
        exact aw_ls [4, 3, 0] rfl (j_X4_passHour_119 ho hF)
abbrev M_X4_hoursTillTurn : Hd := (cX4_hoursTillTurn, 3, RX4, (some .int), (4, 116), sc0)
def L_X4_hoursTillTurn_2 (h : Mem) (v0 : Nat) (v1 : Int) (v2 : Int) (Q : Int → Mem → Prop) : Prop := AW M_X4_hoursTillTurn 2 [(0, vr v0), (1, (0, v1)), (2, (0, v2))] [] h (qi Q)
def B_X4_hoursTillTurn_2 (h : Mem) (v0 : Nat) (v1 : Int) (v2 : Int) (Q : Int → Mem → Prop) : Prop :=
  ((v1 ≤ v2 → Q (-1) h) ∧ (¬ (v1 ≤ v2) → (F_X4_passHour h v0 (fun r2 h1 => ((r2 = 0 → (InR (v2 + 1) ∧ L_X4_hoursTillTurn_2 h1 v0 v1 (v2 + 1) Q)) ∧ (¬ (r2 = 0) → Q v2 h1))))))
set_option maxRecDepth 100000 in
set_option maxHeartbeats 4000000 in
theorem l_X4_hoursTillTurn_2 {h : Mem} {v0 : Nat} {v1 : Int} {v2 : Int} {Q : Int → Mem → Prop} (hv0 : lay v0 = (0, 4)) (hF : B_X4_hoursTillTurn_2 h v0 v1 v2 Q) : L_X4_hoursTillTurn_2 h v0 v1 v2 Q := by
  unfold B_X4_hoursTillTurn_2 at hF
  show AW M_X4_hoursTillTurn 2 [(0, vr v0), (1, (0, v1)), (2, (0, v2))] [] h (qi Q)
  refine aw_iload_n (j := 2) (M := M_X4_hoursTillTurn) (pc := 2) dX4_hoursTillTurn_2 rfl rfl ?_
  refine aw_iload_n (j := 1) (M := M_X4_hoursTillTurn) (pc := 3) dX4_hoursTillTurn_3 rfl rfl ?_
  refine aw_icmp_ge (tgt := 22) (M := M_X4_hoursTillTurn) (pc := 4) dX4_hoursTillTurn_4 rfl (fun hc => ?_) (fun hc => ?_)
  · have hF := hF.1 hc
    refine aw_iconst (M := M_X4_hoursTillTurn) (pc := 22) dX4_hoursTillTurn_22 ⟨by decide, by decide⟩ ?_
    exact aw_ireti (M := M_X4_hoursTillTurn) (pc := 23) dX4_hoursTillTurn_23 rfl ⟨_, rfl, hF⟩
  · have hF := hF.2 hc
    refine aw_aload_n (j := 0) (M := M_X4_hoursTillTurn) (pc := 7) dX4_hoursTillTurn_7 rfl rfl ?_
    refine aw_cvi (as := []) (st := []) (M := M_X4_hoursTillTurn) (pc := 8) (f_X4_passHour hv0 hF) dX4_hoursTillTurn_8 rfl (Or.inl ⟨_, _, _, hv0, rfl⟩) cy_X4_passHour ml_X4_93 (by decide) (by decide) (Nat.le_of_ble_eq_true rfl) (fun r2 h1 hF => ?_)
    refine aw_if_eq (tgt := 16) (M := M_X4_hoursTillTurn) (pc := 11) dX4_hoursTillTurn_11 rfl (fun hc => ?_) (fun hc => ?_)
    · have hF := hF.1 hc
      obtain ⟨o3, hF⟩ := hF
      refine aw_iinc (j := 2) (x := v2) (r := v2 + 1) (ls' := [(2, (0, v2 + 1)), (0, vr v0), (1, (0, v1))]) (M := M_X4_hoursTillTurn) (pc := 16) dX4_hoursTillTurn_16 rfl rfl o3 (by decide) rfl ?_
      refine aw_goto (tgt := 2) (M := M_X4_hoursTillTurn) (pc := 19) dX4_hoursTillTurn_19 rfl ?_
      exact aw_ls [1, 2, 0] rfl hF
    · have hF := hF.2 hc
      refine aw_iload_n (j := 2) (M := M_X4_hoursTillTurn) (pc := 14) dX4_hoursTillTurn_14 rfl rfl ?_
      exact aw_ireti (M := M_X4_hoursTillTurn) (pc := 15) dX4_hoursTillTurn_15 rfl ⟨_, rfl, hF⟩
def F_X4_hoursTillTurn (h : Mem) (o : Nat) (a1 : Int) (Q : Int → Mem → Prop) : Prop :=
  L_X4_hoursTillTurn_2 h o a1 0 Q
set_option maxRecDepth 100000 in
set_option maxHeartbeats 4000000 in
theorem f_X4_hoursTillTurn {h : Mem} {o : Nat} {a1 : Int} {Q : Int → Mem → Prop} (ho : lay o = (0, 4)) (hF : F_X4_hoursTillTurn h o a1 Q) : Ct yX4_hoursTillTurn cX4_hoursTillTurn 3 (some .int) (4, 116) [vr o, (0, a1)] h (qi Q) := by
  refine Ct.of np_RX4 (Nat.le_of_ble_eq_true rfl) ?_
  unfold F_X4_hoursTillTurn at hF
  show AW M_X4_hoursTillTurn 0 [(0, vr o), (1, (0, a1))] [] h (qi Q)
  refine aw_iconst (M := M_X4_hoursTillTurn) (pc := 0) dX4_hoursTillTurn_0 ⟨by decide, by decide⟩ ?_
  refine aw_istore_n (ls' := [(2, (0, 0)), (0, vr o), (1, (0, a1))]) (M := M_X4_hoursTillTurn) (pc := 1) dX4_hoursTillTurn_1 rfl (by decide) rfl ?_
  exact aw_ls [1, 2, 0] rfl hF
abbrev M_X9_throwInto : Hd := (cX9_throwInto, 3, RX9, none, (2, 68), sc0)
def F_X9_throwInto (h : Mem) (o : Nat) (a1 : Int) (a2 : Int) (Q : Mem → Prop) : Prop :=
  (F_X9_place h o a1 1 a2 (fun h1 => Q h1))
set_option maxRecDepth 100000 in
set_option maxHeartbeats 4000000 in
theorem f_X9_throwInto {h : Mem} {o : Nat} {a1 : Int} {a2 : Int} {Q : Mem → Prop} (ho : lay o = (0, 9)) (hF : F_X9_throwInto h o a1 a2 Q) : Ct yX9_throwInto cX9_throwInto 3 none (2, 68) [vr o, (0, a1), (0, a2)] h (qv Q) := by
  refine Ct.of np_RX9 (Nat.le_of_ble_eq_true rfl) ?_
  unfold F_X9_throwInto at hF
  show AW M_X9_throwInto 0 [(0, vr o), (1, (0, a1)), (2, (0, a2))] [] h (qv Q)
  refine aw_aload_n (j := 0) (M := M_X9_throwInto) (pc := 0) dX9_throwInto_0 rfl rfl ?_
  refine aw_iload_n (j := 1) (M := M_X9_throwInto) (pc := 1) dX9_throwInto_1 rfl rfl ?_
  refine aw_iconst (M := M_X9_throwInto) (pc := 2) dX9_throwInto_2 ⟨by decide, by decide⟩ ?_
  refine aw_iload_n (j := 2) (M := M_X9_throwInto) (pc := 3) dX9_throwInto_3 rfl rfl ?_
  refine aw_cvv (as := [(0, a1), (0, 1), (0, a2)]) (st := []) (M := M_X9_throwInto) (pc := 4) (f_X9_place ho hF) dX9_throwInto_4 rfl (Or.inl ⟨_, _, _, ho, rfl⟩) cy_X9_place ml_X9_55 (by decide) (by decide) (Nat.le_of_ble_eq_true rfl) (fun h1 hF => ?_)
  exact aw_ret (M := M_X9_throwInto) (pc := 7) dX9_throwInto_7 rfl ⟨rfl, hF⟩
abbrev M_X0_cellToTurnIn : Hd := (cX0_cellToTurnIn, 6, RX0, (some .int), (5, 138), sc0)
def L_X0_cellToTurnIn_8 (h : Mem) (v1 : Nat) (v2 : Nat) (v3 : Int) (v4 : Int) (v5 : Int) (Q : Int → Mem → Prop) : Prop := AW M_X0_cellToTurnIn 8 [(1, vr v1), (2, vr v2), (3, (0, v3)), (4, (0, v4)), (5, (0, v5))] [] h (qi Q)
def B_X0_cellToTurnIn_8 (h : Mem) (v1 : Nat) (v2 : Nat) (v3 : Int) (v4 : Int) (v5 : Int) (Q : Int → Mem → Prop) : Prop :=
  (((h v1 0) ≤ v5 → Q (-1) h) ∧ (¬ ((h v1 0) ≤ v5) → (F_X4_goBackTo h v2 v1 (fun h3 => (F_X9_throwInto h3 (v2 + 1) v3 v5 (fun h5 => (InR (v4 + 1) ∧ (F_X4_hoursTillTurn h5 v2 (v4 + 1) (fun r9 h8 => ((¬ (r9 = v4) → (InR (v5 + 1) ∧ L_X0_cellToTurnIn_8 h8 v1 v2 v3 v4 (v5 + 1) Q)) ∧ (r9 = v4 → Q v5 h8)))))))))))
set_option maxRecDepth 100000 in
set_option maxHeartbeats 4000000 in
theorem l_X0_cellToTurnIn_8 {h : Mem} {v1 : Nat} {v2 : Nat} {v3 : Int} {v4 : Int} {v5 : Int} {Q : Int → Mem → Prop} (hv1 : lay v1 = (0, 4)) (hv2 : lay v2 = (0, 4)) (hF : B_X0_cellToTurnIn_8 h v1 v2 v3 v4 v5 Q) : L_X0_cellToTurnIn_8 h v1 v2 v3 v4 v5 Q := by
  unfold B_X0_cellToTurnIn_8 at hF
  show AW M_X0_cellToTurnIn 8 [(1, vr v1), (2, vr v2), (3, (0, v3)), (4, (0, v4)), (5, (0, v5))] [] h (qi Q)
  refine aw_iload (j := 4) (M := M_X0_cellToTurnIn) (pc := 8) dX0_cellToTurnIn_8  rfl ?_
  refine aw_aload_n (j := 0) (M := M_X0_cellToTurnIn) (pc := 10) dX0_cellToTurnIn_10 rfl rfl ?_
  refine gf_X0_52 (M := M_X0_cellToTurnIn) (pc := 11) rfl dX0_cellToTurnIn_11 hv1 ?_
  refine aw_icmp_ge (tgt := 54) (M := M_X0_cellToTurnIn) (pc := 14) dX0_cellToTurnIn_14 rfl (fun hc => ?_) (fun hc => ?_)
  · have hF := hF.1 hc
    refine aw_iconst (M := M_X0_cellToTurnIn) (pc := 54) dX0_cellToTurnIn_54 ⟨by decide, by decide⟩ ?_
    exact aw_ireti (M := M_X0_cellToTurnIn) (pc := 55) dX0_cellToTurnIn_55 rfl ⟨_, rfl, hF⟩
  · have hF := hF.2 hc
    refine aw_aload_n (j := 1) (M := M_X0_cellToTurnIn) (pc := 17) dX0_cellToTurnIn_17 rfl rfl ?_
    refine aw_aload_n (j := 0) (M := M_X0_cellToTurnIn) (pc := 18) dX0_cellToTurnIn_18 rfl rfl ?_
    refine aw_cvv (as := [vr v1]) (st := []) (M := M_X0_cellToTurnIn) (pc := 19) (f_X4_goBackTo hv2 hv1 hF) dX0_cellToTurnIn_19 rfl (Or.inl ⟨_, _, _, hv2, rfl⟩) cy_X4_goBackTo ml_X0_55 (by decide) (by decide) (Nat.le_of_ble_eq_true rfl) (fun h3 hF => ?_)
    refine aw_aload_n (j := 1) (M := M_X0_cellToTurnIn) (pc := 22) dX0_cellToTurnIn_22 rfl rfl ?_
    refine gf_X0_25 (M := M_X0_cellToTurnIn) (pc := 23) rfl dX0_cellToTurnIn_23 hv2 (r := v2 + 1) rfl ?_
    refine aw_iload_n (j := 2) (M := M_X0_cellToTurnIn) (pc := 26) dX0_cellToTurnIn_26 rfl rfl ?_
    refine aw_iload (j := 4) (M := M_X0_cellToTurnIn) (pc := 27) dX0_cellToTurnIn_27  rfl ?_
    refine aw_cvv (as := [(0, v3), (0, v5)]) (st := []) (M := M_X0_cellToTurnIn) (pc := 29) (f_X9_throwInto (ll_4_7 hv2) hF) dX0_cellToTurnIn_29 rfl (Or.inl ⟨_, _, _, (ll_4_7 hv2), rfl⟩) cy_X9_throwInto ml_X0_58 (by decide) (by decide) (Nat.le_of_ble_eq_true rfl) (fun h5 hF => ?_)
    refine aw_aload_n (j := 1) (M := M_X0_cellToTurnIn) (pc := 32) dX0_cellToTurnIn_32 rfl rfl ?_
    refine aw_iload (j := 3) (M := M_X0_cellToTurnIn) (pc := 33) dX0_cellToTurnIn_33  rfl ?_
    refine aw_iconst (M := M_X0_cellToTurnIn) (pc := 35) dX0_cellToTurnIn_35 ⟨by decide, by decide⟩ ?_
    obtain ⟨o7, hF⟩ := hF
    refine aw_iadd (M := M_X0_cellToTurnIn) (pc := 36) dX0_cellToTurnIn_36 rfl o7 ?_
    refine aw_cvi (as := [(0, v4 + 1)]) (st := []) (M := M_X0_cellToTurnIn) (pc := 37) (f_X4_hoursTillTurn hv2 hF) dX0_cellToTurnIn_37 rfl (Or.inl ⟨_, _, _, hv2, rfl⟩) cy_X4_hoursTillTurn ml_X0_62 (by decide) (by decide) (Nat.le_of_ble_eq_true rfl) (fun r9 h8 hF => ?_)
    refine aw_iload (j := 3) (M := M_X0_cellToTurnIn) (pc := 40) dX0_cellToTurnIn_40  rfl ?_
    refine aw_icmp_ne (tgt := 48) (M := M_X0_cellToTurnIn) (pc := 42) dX0_cellToTurnIn_42 rfl (fun hc => ?_) (fun hc => ?_)
    · have hF := hF.1 hc
      obtain ⟨o10, hF⟩ := hF
      refine aw_iinc (j := 4) (x := v5) (r := v5 + 1) (ls' := [(5, (0, v5 + 1)), (1, vr v1), (2, vr v2), (3, (0, v3)), (4, (0, v4))]) (M := M_X0_cellToTurnIn) (pc := 48) dX0_cellToTurnIn_48 rfl rfl o10 (by decide) rfl ?_
      refine aw_goto (tgt := 8) (M := M_X0_cellToTurnIn) (pc := 51) dX0_cellToTurnIn_51 rfl ?_
      exact aw_ls [1, 2, 3, 4, 0] rfl hF
    · have hF := hF.2 hc
      refine aw_iload (j := 4) (M := M_X0_cellToTurnIn) (pc := 45) dX0_cellToTurnIn_45  rfl ?_
      exact aw_ireti (M := M_X0_cellToTurnIn) (pc := 47) dX0_cellToTurnIn_47 rfl ⟨_, rfl, hF⟩
def F_X0_cellToTurnIn (h : Mem) (a1 : Nat) (a2 : Nat) (a3 : Int) (a4 : Int) (Q : Int → Mem → Prop) : Prop :=
  (F_X4_copyFrom h a2 a1 (fun h1 => L_X0_cellToTurnIn_8 h1 a1 a2 a3 a4 0 Q))
set_option maxRecDepth 100000 in
set_option maxHeartbeats 4000000 in
theorem f_X0_cellToTurnIn {h : Mem} {a1 : Nat} {a2 : Nat} {a3 : Int} {a4 : Int} {Q : Int → Mem → Prop} (ha1 : lay a1 = (0, 4)) (ha2 : lay a2 = (0, 4)) (hF : F_X0_cellToTurnIn h a1 a2 a3 a4 Q) : Ct yX0_cellToTurnIn cX0_cellToTurnIn 6 (some .int) (5, 138) [vr 42, vr a1, vr a2, (0, a3), (0, a4)] h (qi Q) := by
  refine Ct.of np_RX0 (Nat.le_of_ble_eq_true rfl) ?_
  unfold F_X0_cellToTurnIn at hF
  show AW M_X0_cellToTurnIn 0 [(0, vr 42), (1, vr a1), (2, vr a2), (3, (0, a3)), (4, (0, a4))] [] h (qi Q)
  refine aw_aload_n (j := 2) (M := M_X0_cellToTurnIn) (pc := 0) dX0_cellToTurnIn_0 rfl rfl ?_
  refine aw_aload_n (j := 1) (M := M_X0_cellToTurnIn) (pc := 1) dX0_cellToTurnIn_1 rfl rfl ?_
  refine aw_cvv (as := [vr a1]) (st := []) (M := M_X0_cellToTurnIn) (pc := 2) (f_X4_copyFrom ha2 ha1 hF) dX0_cellToTurnIn_2 rfl (Or.inl ⟨_, _, _, ha2, rfl⟩) cy_X4_copyFrom ml_X0_48 (by decide) (by decide) (Nat.le_of_ble_eq_true rfl) (fun h1 hF => ?_)
  refine aw_iconst (M := M_X0_cellToTurnIn) (pc := 5) dX0_cellToTurnIn_5 ⟨by decide, by decide⟩ ?_
  refine aw_istore (ls' := [(5, (0, 0)), (0, vr 42), (1, vr a1), (2, vr a2), (3, (0, a3)), (4, (0, a4))]) (M := M_X0_cellToTurnIn) (pc := 6) dX0_cellToTurnIn_6  (by decide) rfl ?_
  exact aw_ls [2, 3, 4, 5, 0] rfl hF
abbrev M_X4_passHours : Hd := (cX4_passHours, 4, RX4, (some .int), (4, 116), sc0)
def L_X4_passHours_7 (h : Mem) (v0 : Nat) (v1 : Int) (v2 : Int) (v3 : Int) (Q : Int → Mem → Prop) : Prop := AW M_X4_passHours 7 [(0, vr v0), (1, (0, v1)), (2, (0, v2)), (3, (0, v3))] [] h (qi Q)
def B_X4_passHours_7 (h : Mem) (v0 : Nat) (v1 : Int) (v2 : Int) (v3 : Int) (Q : Int → Mem → Prop) : Prop :=
  ((v1 ≤ v3 → (InR ((h v0 6) - v2) ∧ Q ((h v0 6) - v2) h)) ∧ (¬ (v1 ≤ v3) → (F_X4_passHour h v0 (fun r3 h2 => (InR (v3 + 1) ∧ L_X4_passHours_7 h2 v0 v1 v2 (v3 + 1) Q)))))
set_option maxRecDepth 100000 in
set_option maxHeartbeats 4000000 in
theorem l_X4_passHours_7 {h : Mem} {v0 : Nat} {v1 : Int} {v2 : Int} {v3 : Int} {Q : Int → Mem → Prop} (hv0 : lay v0 = (0, 4)) (hF : B_X4_passHours_7 h v0 v1 v2 v3 Q) : L_X4_passHours_7 h v0 v1 v2 v3 Q := by
  unfold B_X4_passHours_7 at hF
  show AW M_X4_passHours 7 [(0, vr v0), (1, (0, v1)), (2, (0, v2)), (3, (0, v3))] [] h (qi Q)
  refine aw_iload_n (j := 3) (M := M_X4_passHours) (pc := 7) dX4_passHours_7 rfl rfl ?_
  refine aw_iload_n (j := 1) (M := M_X4_passHours) (pc := 8) dX4_passHours_8 rfl rfl ?_
  refine aw_icmp_ge (tgt := 23) (M := M_X4_passHours) (pc := 9) dX4_passHours_9 rfl (fun hc => ?_) (fun hc => ?_)
  · have hF := hF.1 hc
    refine aw_aload_n (j := 0) (M := M_X4_passHours) (pc := 23) dX4_passHours_23 rfl rfl ?_
    refine gf_X4_47 (M := M_X4_passHours) (pc := 24) rfl dX4_passHours_24 hv0 ?_
    refine aw_iload_n (j := 2) (M := M_X4_passHours) (pc := 27) dX4_passHours_27 rfl rfl ?_
    obtain ⟨o1, hF⟩ := hF
    refine aw_isub (M := M_X4_passHours) (pc := 28) dX4_passHours_28 rfl o1 ?_
    exact aw_ireti (M := M_X4_passHours) (pc := 29) dX4_passHours_29 rfl ⟨_, rfl, hF⟩
  · have hF := hF.2 hc
    refine aw_aload_n (j := 0) (M := M_X4_passHours) (pc := 12) dX4_passHours_12 rfl rfl ?_
    refine aw_cvi (as := []) (st := []) (M := M_X4_passHours) (pc := 13) (f_X4_passHour hv0 hF) dX4_passHours_13 rfl (Or.inl ⟨_, _, _, hv0, rfl⟩) cy_X4_passHour ml_X4_93 (by decide) (by decide) (Nat.le_of_ble_eq_true rfl) (fun r3 h2 hF => ?_)
    refine aw_pop (M := M_X4_passHours) (pc := 16) dX4_passHours_16 rfl ?_
    obtain ⟨o4, hF⟩ := hF
    refine aw_iinc (j := 3) (x := v3) (r := v3 + 1) (ls' := [(3, (0, v3 + 1)), (0, vr v0), (1, (0, v1)), (2, (0, v2))]) (M := M_X4_passHours) (pc := 17) dX4_passHours_17 rfl rfl o4 (by decide) rfl ?_
    refine aw_goto (tgt := 7) (M := M_X4_passHours) (pc := 20) dX4_passHours_20 rfl ?_
    exact aw_ls [1, 2, 3, 0] rfl hF
def F_X4_passHours (h : Mem) (o : Nat) (a1 : Int) (Q : Int → Mem → Prop) : Prop :=
  L_X4_passHours_7 h o a1 (h o 6) 0 Q
set_option maxRecDepth 100000 in
set_option maxHeartbeats 4000000 in
theorem f_X4_passHours {h : Mem} {o : Nat} {a1 : Int} {Q : Int → Mem → Prop} (ho : lay o = (0, 4)) (hF : F_X4_passHours h o a1 Q) : Ct yX4_passHours cX4_passHours 4 (some .int) (4, 116) [vr o, (0, a1)] h (qi Q) := by
  refine Ct.of np_RX4 (Nat.le_of_ble_eq_true rfl) ?_
  unfold F_X4_passHours at hF
  show AW M_X4_passHours 0 [(0, vr o), (1, (0, a1))] [] h (qi Q)
  refine aw_aload_n (j := 0) (M := M_X4_passHours) (pc := 0) dX4_passHours_0 rfl rfl ?_
  refine gf_X4_47 (M := M_X4_passHours) (pc := 1) rfl dX4_passHours_1 ho ?_
  refine aw_istore_n (ls' := [(2, (0, h o 6)), (0, vr o), (1, (0, a1))]) (M := M_X4_passHours) (pc := 4) dX4_passHours_4 rfl (by decide) rfl ?_
  refine aw_iconst (M := M_X4_passHours) (pc := 5) dX4_passHours_5 ⟨by decide, by decide⟩ ?_
  refine aw_istore_n (ls' := [(3, (0, 0)), (2, (0, h o 6)), (0, vr o), (1, (0, a1))]) (M := M_X4_passHours) (pc := 6) dX4_passHours_6 rfl (by decide) rfl ?_
  exact aw_ls [2, 3, 1, 0] rfl hF
abbrev M_X0_findDrive : Hd := (cX0_findDrive, 10, RX0, none, (5, 139), sc0)
def L_X0_findDrive_13 (h : Mem) (v1 : Nat) (v2 : Nat) (v3 : Int) (v4 : Int) (v5 : Int) (v6 : Int) (v7 : Int) (Q : Mem → Prop) : Prop := AW M_X0_findDrive 13 [(0, vr 42), (1, vr v1), (2, vr v2), (3, (0, v3)), (4, (0, v4)), (5, (0, v5)), (6, (0, v6)), (7, (0, v7))] [] h (qv Q)
def L_X0_findDrive_25 (h : Mem) (v1 : Nat) (v2 : Nat) (v3 : Int) (v4 : Int) (v5 : Int) (v6 : Int) (v7 : Int) (v8 : Int) (Q : Mem → Prop) : Prop := AW M_X0_findDrive 25 [(0, vr 42), (1, vr v1), (2, vr v2), (3, (0, v3)), (4, (0, v4)), (5, (0, v5)), (6, (0, v6)), (7, (0, v7)), (8, (0, v8))] [] h (qv Q)
def B_X0_findDrive_13 (h : Mem) (v1 : Nat) (v2 : Nat) (v3 : Int) (v4 : Int) (v5 : Int) (v6 : Int) (v7 : Int) (Q : Mem → Prop) : Prop :=
  (((h v1 0) ≤ v7 → Q h) ∧ (¬ ((h v1 0) ≤ v7) → L_X0_findDrive_25 h v1 v2 v3 v4 v5 v6 v7 0 Q))
set_option maxRecDepth 100000 in
set_option maxHeartbeats 4000000 in
theorem l_X0_findDrive_13 {h : Mem} {v1 : Nat} {v2 : Nat} {v3 : Int} {v4 : Int} {v5 : Int} {v6 : Int} {v7 : Int} {Q : Mem → Prop} (hv1 : lay v1 = (0, 4)) (hv2 : lay v2 = (0, 4)) (hF : B_X0_findDrive_13 h v1 v2 v3 v4 v5 v6 v7 Q) : L_X0_findDrive_13 h v1 v2 v3 v4 v5 v6 v7 Q := by
  unfold B_X0_findDrive_13 at hF
  show AW M_X0_findDrive 13 [(0, vr 42), (1, vr v1), (2, vr v2), (3, (0, v3)), (4, (0, v4)), (5, (0, v5)), (6, (0, v6)), (7, (0, v7))] [] h (qv Q)
  refine aw_iload (j := 7) (M := M_X0_findDrive) (pc := 13) dX0_findDrive_13  rfl ?_
  refine aw_aload_n (j := 1) (M := M_X0_findDrive) (pc := 15) dX0_findDrive_15 rfl rfl ?_
  refine gf_X0_52 (M := M_X0_findDrive) (pc := 16) rfl dX0_findDrive_16 hv1 ?_
  refine aw_icmp_ge (tgt := 128) (M := M_X0_findDrive) (pc := 19) dX0_findDrive_19 rfl (fun hc => ?_) (fun hc => ?_)
  · have hF := hF.1 hc
    exact aw_ret (M := M_X0_findDrive) (pc := 128) dX0_findDrive_128 rfl ⟨rfl, hF⟩
  · have hF := hF.2 hc
    refine aw_iconst (M := M_X0_findDrive) (pc := 22) dX0_findDrive_22 ⟨by decide, by decide⟩ ?_
    refine aw_istore (ls' := [(8, (0, 0)), (0, vr 42), (1, vr v1), (2, vr v2), (3, (0, v3)), (4, (0, v4)), (5, (0, v5)), (6, (0, v6)), (7, (0, v7))]) (M := M_X0_findDrive) (pc := 23) dX0_findDrive_23  (by decide) rfl ?_
    exact aw_ls [1, 2, 3, 4, 5, 6, 7, 8, 0] rfl hF
def B_X0_findDrive_25 (h : Mem) (v1 : Nat) (v2 : Nat) (v3 : Int) (v4 : Int) (v5 : Int) (v6 : Int) (v7 : Int) (v8 : Int) (Q : Mem → Prop) : Prop :=
  (((h v1 0) ≤ v8 → (InR (v7 + 1) ∧ L_X0_findDrive_13 h v1 v2 v3 v4 v5 v6 (v7 + 1) Q)) ∧ (¬ ((h v1 0) ≤ v8) → (F_X4_goBackTo h v2 v1 (fun h5 => (F_X9_throwInto h5 (v2 + 1) v4 v7 (fun h7 => (F_X9_throwInto h7 (v2 + 1) v5 v8 (fun h9 => (F_X4_passHours h9 v2 v6 (fun r12 h11 => ((0 ≤ v3 ∧ v3 < 4) ∧ (InR ((h11 ((v2 + 10) + 4) (v3).toNat) - (h11 ((v1 + 10) + 4) (v3).toNat)) ∧ (∀ x17 : Int, x17 = (h11 ((v2 + 10) + 4) (v3).toNat) - (h11 ((v1 + 10) + 4) (v3).toNat) → ((x17 ≤ (h11 42 0) → (InR (v8 + 1) ∧ L_X0_findDrive_25 h11 v1 v2 v3 v4 v5 v6 v7 (v8 + 1) Q)) ∧ (¬ (x17 ≤ (h11 42 0)) → (∀ h19 : Mem, h19 = mset h11 42 0 x17 → (∀ h20 : Mem, h20 = mset h19 42 1 v7 → (∀ h21 : Mem, h21 = mset h20 42 2 v8 → (InR (v8 + 1) ∧ L_X0_findDrive_25 h21 v1 v2 v3 v4 v5 v6 v7 (v8 + 1) Q)))))))))))))))))))
set_option maxRecDepth 100000 in
set_option maxHeartbeats 4000000 in
theorem l_X0_findDrive_25 {h : Mem} {v1 : Nat} {v2 : Nat} {v3 : Int} {v4 : Int} {v5 : Int} {v6 : Int} {v7 : Int} {v8 : Int} {Q : Mem → Prop} (hv1 : lay v1 = (0, 4)) (hv2 : lay v2 = (0, 4)) (hF : B_X0_findDrive_25 h v1 v2 v3 v4 v5 v6 v7 v8 Q) : L_X0_findDrive_25 h v1 v2 v3 v4 v5 v6 v7 v8 Q := by
  unfold B_X0_findDrive_25 at hF
  show AW M_X0_findDrive 25 [(0, vr 42), (1, vr v1), (2, vr v2), (3, (0, v3)), (4, (0, v4)), (5, (0, v5)), (6, (0, v6)), (7, (0, v7)), (8, (0, v8))] [] h (qv Q)
  refine aw_iload (j := 8) (M := M_X0_findDrive) (pc := 25) dX0_findDrive_25  rfl ?_
  refine aw_aload_n (j := 1) (M := M_X0_findDrive) (pc := 27) dX0_findDrive_27 rfl rfl ?_
  refine gf_X0_52 (M := M_X0_findDrive) (pc := 28) rfl dX0_findDrive_28 hv1 ?_
  refine aw_icmp_ge (tgt := 122) (M := M_X0_findDrive) (pc := 31) dX0_findDrive_31 rfl (fun hc => ?_) (fun hc => ?_)
  · have hF := hF.1 hc
    obtain ⟨o4, hF⟩ := hF
    refine aw_iinc (j := 7) (x := v7) (r := v7 + 1) (ls' := [(7, (0, v7 + 1)), (0, vr 42), (1, vr v1), (2, vr v2), (3, (0, v3)), (4, (0, v4)), (5, (0, v5)), (6, (0, v6)), (8, (0, v8))]) (M := M_X0_findDrive) (pc := 122) dX0_findDrive_122 rfl rfl o4 (by decide) rfl ?_
    refine aw_goto (tgt := 13) (M := M_X0_findDrive) (pc := 125) dX0_findDrive_125 rfl ?_
    exact aw_ls [1, 2, 3, 4, 5, 6, 7, 0] rfl hF
  · have hF := hF.2 hc
    refine aw_aload_n (j := 2) (M := M_X0_findDrive) (pc := 34) dX0_findDrive_34 rfl rfl ?_
    refine aw_aload_n (j := 1) (M := M_X0_findDrive) (pc := 35) dX0_findDrive_35 rfl rfl ?_
    refine aw_cvv (as := [vr v1]) (st := []) (M := M_X0_findDrive) (pc := 36) (f_X4_goBackTo hv2 hv1 hF) dX0_findDrive_36 rfl (Or.inl ⟨_, _, _, hv2, rfl⟩) cy_X4_goBackTo ml_X0_55 (by decide) (by decide) (Nat.le_of_ble_eq_true rfl) (fun h5 hF => ?_)
    refine aw_aload_n (j := 2) (M := M_X0_findDrive) (pc := 39) dX0_findDrive_39 rfl rfl ?_
    refine gf_X0_25 (M := M_X0_findDrive) (pc := 40) rfl dX0_findDrive_40 hv2 (r := v2 + 1) rfl ?_
    refine aw_iload (j := 4) (M := M_X0_findDrive) (pc := 43) dX0_findDrive_43  rfl ?_
    refine aw_iload (j := 7) (M := M_X0_findDrive) (pc := 45) dX0_findDrive_45  rfl ?_
    refine aw_cvv (as := [(0, v4), (0, v7)]) (st := []) (M := M_X0_findDrive) (pc := 47) (f_X9_throwInto (ll_4_7 hv2) hF) dX0_findDrive_47 rfl (Or.inl ⟨_, _, _, (ll_4_7 hv2), rfl⟩) cy_X9_throwInto ml_X0_58 (by decide) (by decide) (Nat.le_of_ble_eq_true rfl) (fun h7 hF => ?_)
    refine aw_aload_n (j := 2) (M := M_X0_findDrive) (pc := 50) dX0_findDrive_50 rfl rfl ?_
    refine gf_X0_25 (M := M_X0_findDrive) (pc := 51) rfl dX0_findDrive_51 hv2 (r := v2 + 1) rfl ?_
    refine aw_iload (j := 5) (M := M_X0_findDrive) (pc := 54) dX0_findDrive_54  rfl ?_
    refine aw_iload (j := 8) (M := M_X0_findDrive) (pc := 56) dX0_findDrive_56  rfl ?_
    refine aw_cvv (as := [(0, v5), (0, v8)]) (st := []) (M := M_X0_findDrive) (pc := 58) (f_X9_throwInto (ll_4_7 hv2) hF) dX0_findDrive_58 rfl (Or.inl ⟨_, _, _, (ll_4_7 hv2), rfl⟩) cy_X9_throwInto ml_X0_58 (by decide) (by decide) (Nat.le_of_ble_eq_true rfl) (fun h9 hF => ?_)
    refine aw_aload_n (j := 2) (M := M_X0_findDrive) (pc := 61) dX0_findDrive_61 rfl rfl ?_
    refine aw_iload (j := 6) (M := M_X0_findDrive) (pc := 62) dX0_findDrive_62  rfl ?_
    refine aw_cvi (as := [(0, v6)]) (st := []) (M := M_X0_findDrive) (pc := 64) (f_X4_passHours hv2 hF) dX0_findDrive_64 rfl (Or.inl ⟨_, _, _, hv2, rfl⟩) cy_X4_passHours ml_X0_76 (by decide) (by decide) (Nat.le_of_ble_eq_true rfl) (fun r12 h11 hF => ?_)
    refine aw_pop (M := M_X0_findDrive) (pc := 67) dX0_findDrive_67 rfl ?_
    refine aw_aload_n (j := 2) (M := M_X0_findDrive) (pc := 68) dX0_findDrive_68 rfl rfl ?_
    refine gf_X0_79 (M := M_X0_findDrive) (pc := 69) rfl dX0_findDrive_69 hv2 (r := v2 + 10) rfl ?_
    refine gf_X0_83 (M := M_X0_findDrive) (pc := 72) rfl dX0_findDrive_72 (ll_4_8 hv2) (r := (v2 + 10) + 4) rfl ?_
    refine aw_iload_n (j := 3) (M := M_X0_findDrive) (pc := 75) dX0_findDrive_75 rfl rfl ?_
    obtain ⟨o14, hF⟩ := hF
    refine aw_iald (k := (v3).toNat) (M := M_X0_findDrive) (pc := 76) dX0_findDrive_76 (ll_7_4 (ll_4_8 hv2)) o14 rfl ?_
    refine aw_aload_n (j := 1) (M := M_X0_findDrive) (pc := 77) dX0_findDrive_77 rfl rfl ?_
    refine gf_X0_79 (M := M_X0_findDrive) (pc := 78) rfl dX0_findDrive_78 hv1 (r := v1 + 10) rfl ?_
    refine gf_X0_83 (M := M_X0_findDrive) (pc := 81) rfl dX0_findDrive_81 (ll_4_8 hv1) (r := (v1 + 10) + 4) rfl ?_
    refine aw_iload_n (j := 3) (M := M_X0_findDrive) (pc := 84) dX0_findDrive_84 rfl rfl ?_
    refine aw_iald (k := (v3).toNat) (M := M_X0_findDrive) (pc := 85) dX0_findDrive_85 (ll_7_4 (ll_4_8 hv1)) o14 rfl ?_
    obtain ⟨o16, hF⟩ := hF
    refine aw_isub (M := M_X0_findDrive) (pc := 86) dX0_findDrive_86 rfl o16 ?_
    obtain ⟨x17, ex17⟩ : ∃ y : Int, y = (h11 ((v2 + 10) + 4) (v3).toNat) - (h11 ((v1 + 10) + 4) (v3).toNat) := ⟨_, rfl⟩
    have hF := hF x17 ex17
    rw [← ex17]
    refine aw_istore (ls' := [(9, (0, x17)), (0, vr 42), (1, vr v1), (2, vr v2), (3, (0, v3)), (4, (0, v4)), (5, (0, v5)), (6, (0, v6)), (7, (0, v7)), (8, (0, v8))]) (M := M_X0_findDrive) (pc := 87) dX0_findDrive_87  (by decide) rfl ?_
    refine aw_iload (j := 0) (M := M_X0_findDrive) (pc := 89) dX0_findDrive_89  rfl ?_
    refine aw_aload_n (j := 1) (M := M_X0_findDrive) (pc := 91) dX0_findDrive_91 rfl rfl ?_
    refine gf_X0_66 (M := M_X0_findDrive) (pc := 92) rfl dX0_findDrive_92 rfl ?_
    refine aw_icmp_le (tgt := 116) (M := M_X0_findDrive) (pc := 95) dX0_findDrive_95 rfl (fun hc => ?_) (fun hc => ?_)
    · have hF := hF.1 hc
      obtain ⟨o18, hF⟩ := hF
      refine aw_iinc (j := 9) (x := v8) (r := v8 + 1) (ls' := [(8, (0, v8 + 1)), (9, (0, x17)), (0, vr 42), (1, vr v1), (2, vr v2), (3, (0, v3)), (4, (0, v4)), (5, (0, v5)), (6, (0, v6)), (7, (0, v7))]) (M := M_X0_findDrive) (pc := 116) dX0_findDrive_116 rfl rfl o18 (by decide) rfl ?_
      refine aw_goto (tgt := 25) (M := M_X0_findDrive) (pc := 119) dX0_findDrive_119 rfl ?_
      exact aw_ls [2, 3, 4, 5, 6, 7, 8, 9, 0] rfl hF
    · have hF := hF.2 hc
      refine aw_aload_n (j := 1) (M := M_X0_findDrive) (pc := 98) dX0_findDrive_98 rfl rfl ?_
      refine aw_iload (j := 0) (M := M_X0_findDrive) (pc := 99) dX0_findDrive_99  rfl ?_
      refine pf_X0_66 (M := M_X0_findDrive) (pc := 101) rfl dX0_findDrive_101 rfl ?_
      obtain ⟨h19, eh19⟩ : ∃ y : Mem, y = mset h11 42 0 x17 := ⟨_, rfl⟩
      have hF := hF h19 eh19
      rw [← eh19]
      refine aw_aload_n (j := 1) (M := M_X0_findDrive) (pc := 104) dX0_findDrive_104 rfl rfl ?_
      refine aw_iload (j := 8) (M := M_X0_findDrive) (pc := 105) dX0_findDrive_105  rfl ?_
      refine pf_X0_69 (M := M_X0_findDrive) (pc := 107) rfl dX0_findDrive_107 rfl ?_
      obtain ⟨h20, eh20⟩ : ∃ y : Mem, y = mset h19 42 1 v7 := ⟨_, rfl⟩
      have hF := hF h20 eh20
      rw [← eh20]
      refine aw_aload_n (j := 1) (M := M_X0_findDrive) (pc := 110) dX0_findDrive_110 rfl rfl ?_
      refine aw_iload (j := 9) (M := M_X0_findDrive) (pc := 111) dX0_findDrive_111  rfl ?_
      refine pf_X0_89 (M := M_X0_findDrive) (pc := 113) rfl dX0_findDrive_113 rfl ?_
      obtain ⟨h21, eh21⟩ : ∃ y : Mem, y = mset h20 42 2 v8 := ⟨_, rfl⟩
      have hF := hF h21 eh21
      rw [← eh21]
      obtain ⟨o22, hF⟩ := hF
      refine aw_iinc (j := 9) (x := v8) (r := v8 + 1) (ls' := [(8, (0, v8 + 1)), (9, (0, x17)), (0, vr 42), (1, vr v1), (2, vr v2), (3, (0, v3)), (4, (0, v4)), (5, (0, v5)), (6, (0, v6)), (7, (0, v7))]) (M := M_X0_findDrive) (pc := 116) dX0_findDrive_116 rfl rfl o22 (by decide) rfl ?_
      refine aw_goto (tgt := 25) (M := M_X0_findDrive) (pc := 119) dX0_findDrive_119 rfl ?_
      exact aw_ls [2, 3, 4, 5, 6, 7, 8, 9, 0] rfl hF
def F_X0_findDrive (h : Mem) (a1 : Nat) (a2 : Nat) (a3 : Int) (a4 : Int) (a5 : Int) (a6 : Int) (Q : Mem → Prop) : Prop :=
  (∀ h1 : Mem, h1 = mset h 42 0 (-1) → (F_X4_copyFrom h1 a2 a1 (fun h2 => L_X0_findDrive_13 h2 a1 a2 a3 a4 a5 a6 0 Q)))
set_option maxRecDepth 100000 in
set_option maxHeartbeats 4000000 in
theorem f_X0_findDrive {h : Mem} {a1 : Nat} {a2 : Nat} {a3 : Int} {a4 : Int} {a5 : Int} {a6 : Int} {Q : Mem → Prop} (ha1 : lay a1 = (0, 4)) (ha2 : lay a2 = (0, 4)) (hF : F_X0_findDrive h a1 a2 a3 a4 a5 a6 Q) : Ct yX0_findDrive cX0_findDrive 10 none (5, 139) [vr 42, vr a1, vr a2, (0, a3), (0, a4), (0, a5), (0, a6)] h (qv Q) := by
  refine Ct.of np_RX0 (Nat.le_of_ble_eq_true rfl) ?_
  unfold F_X0_findDrive at hF
  show AW M_X0_findDrive 0 [(0, vr 42), (1, vr a1), (2, vr a2), (3, (0, a3)), (4, (0, a4)), (5, (0, a5)), (6, (0, a6))] [] h (qv Q)
  refine aw_aload_n (j := 0) (M := M_X0_findDrive) (pc := 0) dX0_findDrive_0 rfl rfl ?_
  refine aw_iconst (M := M_X0_findDrive) (pc := 1) dX0_findDrive_1 ⟨by decide, by decide⟩ ?_
  refine pf_X0_66 (M := M_X0_findDrive) (pc := 2) rfl dX0_findDrive_2 rfl ?_
  obtain ⟨h1, eh1⟩ : ∃ y : Mem, y = mset h 42 0 (-1) := ⟨_, rfl⟩
  have hF := hF h1 eh1
  rw [← eh1]
  refine aw_aload_n (j := 2) (M := M_X0_findDrive) (pc := 5) dX0_findDrive_5 rfl rfl ?_
  refine aw_aload_n (j := 1) (M := M_X0_findDrive) (pc := 6) dX0_findDrive_6 rfl rfl ?_
  refine aw_cvv (as := [vr a1]) (st := []) (M := M_X0_findDrive) (pc := 7) (f_X4_copyFrom ha2 ha1 hF) dX0_findDrive_7 rfl (Or.inl ⟨_, _, _, ha2, rfl⟩) cy_X4_copyFrom ml_X0_48 (by decide) (by decide) (Nat.le_of_ble_eq_true rfl) (fun h2 hF => ?_)
  refine aw_iconst (M := M_X0_findDrive) (pc := 10) dX0_findDrive_10 ⟨by decide, by decide⟩ ?_
  refine aw_istore (ls' := [(7, (0, 0)), (0, vr 42), (1, vr a1), (2, vr a2), (3, (0, a3)), (4, (0, a4)), (5, (0, a5)), (6, (0, a6))]) (M := M_X0_findDrive) (pc := 11) dX0_findDrive_11  (by decide) rfl ?_
  exact aw_ls [1, 2, 3, 4, 5, 6, 7, 0] rfl hF
abbrev M_X0_fitsAll : Hd := (cX0_fitsAll, 5, RX0, (some .boolean), (1, 45), sc0)
def L_X0_fitsAll_3 (h : Mem) (v0 : Int) (v2 : Nat) (v3 : Int) (v4 : Int) (Q : Int → Mem → Prop) : Prop := AW M_X0_fitsAll 3 [(0, (1, v0)), (2, vr v2), (3, (0, v3)), (4, (0, v4))] [] h (qi Q)
def B_X0_fitsAll_3 (h : Mem) (v0 : Int) (v2 : Nat) (v3 : Int) (v4 : Int) (Q : Int → Mem → Prop) : Prop :=
  ((v3 ≤ v4 → Q 1 h) ∧ (¬ (v3 ≤ v4) → (InR (2 * v4) ∧ ((0 ≤ (2 * v4) ∧ (2 * v4) < 60) ∧ (InR ((2 * v4) + 1) ∧ ((0 ≤ ((2 * v4) + 1) ∧ ((2 * v4) + 1) < 60) ∧ (((land (lshr v0 (l2i (h v2 (2 * v4).toNat))) 1) = (h v2 ((2 * v4) + 1).toNat) → (InR (v4 + 1) ∧ L_X0_fitsAll_3 h v0 v2 v3 (v4 + 1) Q)) ∧ (¬ ((land (lshr v0 (l2i (h v2 (2 * v4).toNat))) 1) = (h v2 ((2 * v4) + 1).toNat)) → Q 0 h))))))))
set_option maxRecDepth 100000 in
set_option maxHeartbeats 4000000 in
theorem l_X0_fitsAll_3 {h : Mem} {v0 : Int} {v2 : Nat} {v3 : Int} {v4 : Int} {Q : Int → Mem → Prop} (hv2 : lay v2 = (2, 60)) (hF : B_X0_fitsAll_3 h v0 v2 v3 v4 Q) : L_X0_fitsAll_3 h v0 v2 v3 v4 Q := by
  unfold B_X0_fitsAll_3 at hF
  show AW M_X0_fitsAll 3 [(0, (1, v0)), (2, vr v2), (3, (0, v3)), (4, (0, v4))] [] h (qi Q)
  refine aw_iload (j := 3) (M := M_X0_fitsAll) (pc := 3) dX0_fitsAll_3  rfl ?_
  refine aw_iload_n (j := 2) (M := M_X0_fitsAll) (pc := 5) dX0_fitsAll_5 rfl rfl ?_
  refine aw_icmp_ge (tgt := 40) (M := M_X0_fitsAll) (pc := 6) dX0_fitsAll_6 rfl (fun hc => ?_) (fun hc => ?_)
  · have hF := hF.1 hc
    refine aw_iconst (M := M_X0_fitsAll) (pc := 40) dX0_fitsAll_40 ⟨by decide, by decide⟩ ?_
    exact aw_iretz (M := M_X0_fitsAll) (pc := 41) dX0_fitsAll_41 rfl (Or.inr rfl) ⟨_, rfl, hF⟩
  · have hF := hF.2 hc
    refine aw_lload_n (j := 0) (M := M_X0_fitsAll) (pc := 9) dX0_fitsAll_9 rfl rfl ?_
    refine aw_aload_n (j := 1) (M := M_X0_fitsAll) (pc := 10) dX0_fitsAll_10 rfl rfl ?_
    refine aw_iconst (M := M_X0_fitsAll) (pc := 11) dX0_fitsAll_11 ⟨by decide, by decide⟩ ?_
    refine aw_iload (j := 3) (M := M_X0_fitsAll) (pc := 12) dX0_fitsAll_12  rfl ?_
    obtain ⟨o1, hF⟩ := hF
    refine aw_imul (M := M_X0_fitsAll) (pc := 14) dX0_fitsAll_14 rfl o1 ?_
    obtain ⟨o3, hF⟩ := hF
    refine aw_lald (k := (2 * v4).toNat) (M := M_X0_fitsAll) (pc := 15) dX0_fitsAll_15 hv2 o3 rfl ?_
    refine aw_l2i (M := M_X0_fitsAll) (pc := 16) dX0_fitsAll_16 ?_
    refine aw_lshr (M := M_X0_fitsAll) (pc := 17) dX0_fitsAll_17 ?_
    refine aw_lconst (v := 1) (M := M_X0_fitsAll) (pc := 18) dX0_fitsAll_18 ⟨rfl, ⟨by decide, by decide⟩⟩ ?_
    refine aw_land (M := M_X0_fitsAll) (pc := 19) dX0_fitsAll_19 ?_
    refine aw_aload_n (j := 1) (M := M_X0_fitsAll) (pc := 20) dX0_fitsAll_20 rfl rfl ?_
    refine aw_iconst (M := M_X0_fitsAll) (pc := 21) dX0_fitsAll_21 ⟨by decide, by decide⟩ ?_
    refine aw_iload (j := 3) (M := M_X0_fitsAll) (pc := 22) dX0_fitsAll_22  rfl ?_
    refine aw_imul (M := M_X0_fitsAll) (pc := 24) dX0_fitsAll_24 rfl o1 ?_
    refine aw_iconst (M := M_X0_fitsAll) (pc := 25) dX0_fitsAll_25 ⟨by decide, by decide⟩ ?_
    obtain ⟨o4, hF⟩ := hF
    refine aw_iadd (M := M_X0_fitsAll) (pc := 26) dX0_fitsAll_26 rfl o4 ?_
    obtain ⟨o6, hF⟩ := hF
    refine aw_lald (k := ((2 * v4) + 1).toNat) (M := M_X0_fitsAll) (pc := 27) dX0_fitsAll_27 hv2 o6 rfl ?_
    refine aw_lcmp (M := M_X0_fitsAll) (pc := 28) dX0_fitsAll_28 ?_
    refine aw_if_eq (tgt := 34) (M := M_X0_fitsAll) (pc := 29) dX0_fitsAll_29 rfl (fun hc => ?_) (fun hc => ?_)
    · have hF := hF.1 (lc_eq.mp hc)
      obtain ⟨o7, hF⟩ := hF
      refine aw_iinc (j := 3) (x := v4) (r := v4 + 1) (ls' := [(4, (0, v4 + 1)), (0, (1, v0)), (2, vr v2), (3, (0, v3))]) (M := M_X0_fitsAll) (pc := 34) dX0_fitsAll_34 rfl rfl o7 (by decide) rfl ?_
      refine aw_goto (tgt := 3) (M := M_X0_fitsAll) (pc := 37) dX0_fitsAll_37 rfl ?_
      exact aw_ls [1, 2, 3, 0] rfl hF
    · have hF := hF.2 (fun z => hc (lc_eq.mpr z))
      refine aw_iconst (M := M_X0_fitsAll) (pc := 32) dX0_fitsAll_32 ⟨by decide, by decide⟩ ?_
      exact aw_iretz (M := M_X0_fitsAll) (pc := 33) dX0_fitsAll_33 rfl (Or.inl rfl) ⟨_, rfl, hF⟩
def F_X0_fitsAll (h : Mem) (a1 : Int) (a2 : Nat) (a3 : Int) (Q : Int → Mem → Prop) : Prop :=
  L_X0_fitsAll_3 h a1 a2 a3 0 Q
set_option maxRecDepth 100000 in
set_option maxHeartbeats 4000000 in
theorem f_X0_fitsAll {h : Mem} {a1 : Int} {a2 : Nat} {a3 : Int} {Q : Int → Mem → Prop} (ha2 : lay a2 = (2, 60)) (hF : F_X0_fitsAll h a1 a2 a3 Q) : Ct yX0_fitsAll cX0_fitsAll 5 (some .boolean) (1, 45) [(1, a1), vr a2, (0, a3)] h (qi Q) := by
  refine Ct.of np_RX0 (Nat.le_of_ble_eq_true rfl) ?_
  unfold F_X0_fitsAll at hF
  show AW M_X0_fitsAll 0 [(0, (1, a1)), (2, vr a2), (3, (0, a3))] [] h (qi Q)
  refine aw_iconst (M := M_X0_fitsAll) (pc := 0) dX0_fitsAll_0 ⟨by decide, by decide⟩ ?_
  refine aw_istore (ls' := [(4, (0, 0)), (0, (1, a1)), (2, vr a2), (3, (0, a3))]) (M := M_X0_fitsAll) (pc := 1) dX0_fitsAll_1  (by decide) rfl ?_
  exact aw_ls [1, 2, 3, 0] rfl hF
abbrev M_X0_findMinds : Hd := (cX0_findMinds, 8, RX0, none, (4, 116), sc0)
def L_X0_findMinds_8 (h : Mem) (v1 : Nat) (v2 : Nat) (v3 : Int) (v4 : Nat) (v5 : Int) (v6 : Int) (Q : Mem → Prop) : Prop := AW M_X0_findMinds 8 [(0, vr 42), (1, vr v1), (2, vr v2), (3, (0, v3)), (4, vr v4), (5, (0, v5)), (6, (0, v6))] [] h (qv Q)
def L_X0_findMinds_42 (h : Mem) (v1 : Nat) (v2 : Nat) (v3 : Int) (v4 : Nat) (v5 : Int) (v6 : Int) (v7 : Int) (Q : Mem → Prop) : Prop := AW M_X0_findMinds 42 [(0, vr 42), (1, vr v1), (2, vr v2), (3, (0, v3)), (4, vr v4), (5, (0, v5)), (6, (0, v6)), (7, (0, v7))] [] h (qv Q)
def B_X0_findMinds_8 (h : Mem) (v1 : Nat) (v2 : Nat) (v3 : Int) (v4 : Nat) (v5 : Int) (v6 : Int) (Q : Mem → Prop) : Prop :=
  ((24 < v6 → Q h) ∧ (¬ (24 < v6) → (F_X4_goBackTo h v2 v1 (fun h3 => ((0 ≤ v3 ∧ v3 < 8) ∧ (∀ h6 : Mem, h6 = mset h3 ((v2 + 1) + 4) (v3).toNat v6 → ((0 ≤ v6 ∧ v6 < 25) ∧ (∀ h8 : Mem, h8 = mset h6 45 (v6).toNat 0 → L_X0_findMinds_42 h8 v1 v2 v3 v4 v5 v6 0 Q))))))))
set_option maxRecDepth 100000 in
set_option maxHeartbeats 4000000 in
theorem l_X0_findMinds_8 {h : Mem} {v1 : Nat} {v2 : Nat} {v3 : Int} {v4 : Nat} {v5 : Int} {v6 : Int} {Q : Mem → Prop} (hv1 : lay v1 = (0, 4)) (hv2 : lay v2 = (0, 4)) (hv4 : lay v4 = (2, 60)) (hF : B_X0_findMinds_8 h v1 v2 v3 v4 v5 v6 Q) : L_X0_findMinds_8 h v1 v2 v3 v4 v5 v6 Q := by
  unfold B_X0_findMinds_8 at hF
  show AW M_X0_findMinds 8 [(0, vr 42), (1, vr v1), (2, vr v2), (3, (0, v3)), (4, vr v4), (5, (0, v5)), (6, (0, v6))] [] h (qv Q)
  refine aw_iload (j := 6) (M := M_X0_findMinds) (pc := 8) dX0_findMinds_8  rfl ?_
  refine aw_bipush (M := M_X0_findMinds) (pc := 10) dX0_findMinds_10 ⟨rfl, ⟨by decide, by decide⟩⟩ ?_
  refine aw_icmp_gt (tgt := 103) (M := M_X0_findMinds) (pc := 12) dX0_findMinds_12 rfl (fun hc => ?_) (fun hc => ?_)
  · have hF := hF.1 hc
    exact aw_ret (M := M_X0_findMinds) (pc := 103) dX0_findMinds_103 rfl ⟨rfl, hF⟩
  · have hF := hF.2 hc
    refine aw_aload_n (j := 2) (M := M_X0_findMinds) (pc := 15) dX0_findMinds_15 rfl rfl ?_
    refine aw_aload_n (j := 1) (M := M_X0_findMinds) (pc := 16) dX0_findMinds_16 rfl rfl ?_
    refine aw_cvv (as := [vr v1]) (st := []) (M := M_X0_findMinds) (pc := 17) (f_X4_goBackTo hv2 hv1 hF) dX0_findMinds_17 rfl (Or.inl ⟨_, _, _, hv2, rfl⟩) cy_X4_goBackTo ml_X0_55 (by decide) (by decide) (Nat.le_of_ble_eq_true rfl) (fun h3 hF => ?_)
    refine aw_aload_n (j := 2) (M := M_X0_findMinds) (pc := 20) dX0_findMinds_20 rfl rfl ?_
    refine gf_X0_25 (M := M_X0_findMinds) (pc := 21) rfl dX0_findMinds_21 hv2 (r := v2 + 1) rfl ?_
    refine gf_X0_94 (M := M_X0_findMinds) (pc := 24) rfl dX0_findMinds_24 (ll_4_7 hv2) (r := (v2 + 1) + 4) rfl ?_
    refine aw_iload_n (j := 3) (M := M_X0_findMinds) (pc := 27) dX0_findMinds_27 rfl rfl ?_
    refine aw_iload (j := 6) (M := M_X0_findMinds) (pc := 28) dX0_findMinds_28  rfl ?_
    obtain ⟨o5, hF⟩ := hF
    refine aw_iast (k := (v3).toNat) (M := M_X0_findMinds) (pc := 30) dX0_findMinds_30 (ll_9_4 (ll_4_7 hv2)) o5 rfl ?_
    obtain ⟨h6, eh6⟩ : ∃ y : Mem, y = mset h3 ((v2 + 1) + 4) (v3).toNat v6 := ⟨_, rfl⟩
    have hF := hF h6 eh6
    rw [← eh6]
    refine aw_aload_n (j := 0) (M := M_X0_findMinds) (pc := 31) dX0_findMinds_31 rfl rfl ?_
    refine gf_X0_18 (M := M_X0_findMinds) (pc := 32) rfl dX0_findMinds_32 rfl (r := 45) rfl ?_
    refine aw_iload (j := 6) (M := M_X0_findMinds) (pc := 35) dX0_findMinds_35  rfl ?_
    refine aw_lconst (v := 0) (M := M_X0_findMinds) (pc := 37) dX0_findMinds_37 ⟨rfl, ⟨by decide, by decide⟩⟩ ?_
    obtain ⟨o7, hF⟩ := hF
    refine aw_last (k := (v6).toNat) (M := M_X0_findMinds) (pc := 38) dX0_findMinds_38 rfl o7 rfl ?_
    obtain ⟨h8, eh8⟩ : ∃ y : Mem, y = mset h6 45 (v6).toNat 0 := ⟨_, rfl⟩
    have hF := hF h8 eh8
    rw [← eh8]
    refine aw_iconst (M := M_X0_findMinds) (pc := 39) dX0_findMinds_39 ⟨by decide, by decide⟩ ?_
    refine aw_istore (ls' := [(7, (0, 0)), (0, vr 42), (1, vr v1), (2, vr v2), (3, (0, v3)), (4, vr v4), (5, (0, v5)), (6, (0, v6))]) (M := M_X0_findMinds) (pc := 40) dX0_findMinds_40  (by decide) rfl ?_
    exact aw_ls [1, 2, 3, 4, 5, 6, 7, 0] rfl hF
def B_X0_findMinds_42 (h : Mem) (v1 : Nat) (v2 : Nat) (v3 : Int) (v4 : Nat) (v5 : Int) (v6 : Int) (v7 : Int) (Q : Mem → Prop) : Prop :=
  ((60 < v7 → ((0 ≤ v6 ∧ v6 < 25) ∧ (F_X0_fitsAll h (h 45 (v6).toNat) v4 v5 (fun r12 h11 => (InZ r12 ∧ (∀ h14 : Mem, h14 = mset h11 46 (v6).toNat r12 → (InR (v6 + 1) ∧ L_X0_findMinds_8 h14 v1 v2 v3 v4 v5 (v6 + 1) Q))))))) ∧ (¬ (60 < v7) → (F_X4_passHour h v2 (fun r17 h16 => ((r17 = 0 → (InR (v7 + 1) ∧ L_X0_findMinds_42 h16 v1 v2 v3 v4 v5 v6 (v7 + 1) Q)) ∧ (¬ (r17 = 0) → ((0 ≤ v6 ∧ v6 < 25) ∧ (∀ h21 : Mem, h21 = mset h16 45 (v6).toNat (llor (h16 45 (v6).toNat) (lshl 1 v7)) → (InR (v7 + 1) ∧ L_X0_findMinds_42 h21 v1 v2 v3 v4 v5 v6 (v7 + 1) Q)))))))))
set_option maxRecDepth 100000 in
set_option maxHeartbeats 4000000 in
theorem l_X0_findMinds_42 {h : Mem} {v1 : Nat} {v2 : Nat} {v3 : Int} {v4 : Nat} {v5 : Int} {v6 : Int} {v7 : Int} {Q : Mem → Prop} (hv1 : lay v1 = (0, 4)) (hv2 : lay v2 = (0, 4)) (hv4 : lay v4 = (2, 60)) (hF : B_X0_findMinds_42 h v1 v2 v3 v4 v5 v6 v7 Q) : L_X0_findMinds_42 h v1 v2 v3 v4 v5 v6 v7 Q := by
  unfold B_X0_findMinds_42 at hF
  show AW M_X0_findMinds 42 [(0, vr 42), (1, vr v1), (2, vr v2), (3, (0, v3)), (4, vr v4), (5, (0, v5)), (6, (0, v6)), (7, (0, v7))] [] h (qv Q)
  refine aw_iload (j := 7) (M := M_X0_findMinds) (pc := 42) dX0_findMinds_42  rfl ?_
  refine aw_bipush (M := M_X0_findMinds) (pc := 44) dX0_findMinds_44 ⟨rfl, ⟨by decide, by decide⟩⟩ ?_
  refine aw_icmp_gt (tgt := 76) (M := M_X0_findMinds) (pc := 46) dX0_findMinds_46 rfl (fun hc => ?_) (fun hc => ?_)
  · have hF := hF.1 hc
    refine aw_aload_n (j := 0) (M := M_X0_findMinds) (pc := 76) dX0_findMinds_76 rfl rfl ?_
    refine gf_X0_21 (M := M_X0_findMinds) (pc := 77) rfl dX0_findMinds_77 rfl (r := 46) rfl ?_
    refine aw_iload (j := 6) (M := M_X0_findMinds) (pc := 80) dX0_findMinds_80  rfl ?_
    refine aw_aload_n (j := 0) (M := M_X0_findMinds) (pc := 82) dX0_findMinds_82 rfl rfl ?_
    refine gf_X0_18 (M := M_X0_findMinds) (pc := 83) rfl dX0_findMinds_83 rfl (r := 45) rfl ?_
    refine aw_iload (j := 6) (M := M_X0_findMinds) (pc := 86) dX0_findMinds_86  rfl ?_
    obtain ⟨o10, hF⟩ := hF
    refine aw_lald (k := (v6).toNat) (M := M_X0_findMinds) (pc := 88) dX0_findMinds_88 rfl o10 rfl ?_
    refine aw_aload (j := 4) (M := M_X0_findMinds) (pc := 89) dX0_findMinds_89  rfl ?_
    refine aw_iload (j := 5) (M := M_X0_findMinds) (pc := 91) dX0_findMinds_91  rfl ?_
    refine aw_csi (as := [(1, h 45 (v6).toNat), vr v4, (0, v5)]) (st := [(0, v6), vr 46]) (M := M_X0_findMinds) (pc := 93) (f_X0_fitsAll hv4 hF) dX0_findMinds_93 rfl cy_X0_fitsAll ml_X0_97 (by decide) (by decide) (Nat.le_of_ble_eq_true rfl) (fun r12 h11 hF => ?_)
    obtain ⟨o13, hF⟩ := hF
    refine aw_zast (k := (v6).toNat) (M := M_X0_findMinds) (pc := 96) dX0_findMinds_96 rfl o10 rfl o13 ?_
    obtain ⟨h14, eh14⟩ : ∃ y : Mem, y = mset h11 46 (v6).toNat r12 := ⟨_, rfl⟩
    have hF := hF h14 eh14
    rw [← eh14]
    obtain ⟨o15, hF⟩ := hF
    refine aw_iinc (j := 6) (x := v6) (r := v6 + 1) (ls' := [(6, (0, v6 + 1)), (0, vr 42), (1, vr v1), (2, vr v2), (3, (0, v3)), (4, vr v4), (5, (0, v5)), (7, (0, v7))]) (M := M_X0_findMinds) (pc := 97) dX0_findMinds_97 rfl rfl o15 (by decide) rfl ?_
    refine aw_goto (tgt := 8) (M := M_X0_findMinds) (pc := 100) dX0_findMinds_100 rfl ?_
    exact aw_ls [1, 2, 3, 4, 5, 6, 0] rfl hF
  · have hF := hF.2 hc
    refine aw_aload_n (j := 2) (M := M_X0_findMinds) (pc := 49) dX0_findMinds_49 rfl rfl ?_
    refine aw_cvi (as := []) (st := []) (M := M_X0_findMinds) (pc := 50) (f_X4_passHour hv2 hF) dX0_findMinds_50 rfl (Or.inl ⟨_, _, _, hv2, rfl⟩) cy_X4_passHour ml_X0_44 (by decide) (by decide) (Nat.le_of_ble_eq_true rfl) (fun r17 h16 hF => ?_)
    refine aw_if_eq (tgt := 70) (M := M_X0_findMinds) (pc := 53) dX0_findMinds_53 rfl (fun hc => ?_) (fun hc => ?_)
    · have hF := hF.1 hc
      obtain ⟨o18, hF⟩ := hF
      refine aw_iinc (j := 7) (x := v7) (r := v7 + 1) (ls' := [(7, (0, v7 + 1)), (0, vr 42), (1, vr v1), (2, vr v2), (3, (0, v3)), (4, vr v4), (5, (0, v5)), (6, (0, v6))]) (M := M_X0_findMinds) (pc := 70) dX0_findMinds_70 rfl rfl o18 (by decide) rfl ?_
      refine aw_goto (tgt := 42) (M := M_X0_findMinds) (pc := 73) dX0_findMinds_73 rfl ?_
      exact aw_ls [1, 2, 3, 4, 5, 6, 7, 0] rfl hF
    · have hF := hF.2 hc
      refine aw_aload_n (j := 0) (M := M_X0_findMinds) (pc := 56) dX0_findMinds_56 rfl rfl ?_
      refine gf_X0_18 (M := M_X0_findMinds) (pc := 57) rfl dX0_findMinds_57 rfl (r := 45) rfl ?_
      refine aw_iload (j := 6) (M := M_X0_findMinds) (pc := 60) dX0_findMinds_60  rfl ?_
      refine aw_dup2 (M := M_X0_findMinds) (pc := 62) dX0_findMinds_62 rfl rfl ?_
      obtain ⟨o20, hF⟩ := hF
      refine aw_lald (k := (v6).toNat) (M := M_X0_findMinds) (pc := 63) dX0_findMinds_63 rfl o20 rfl ?_
      refine aw_lconst (v := 1) (M := M_X0_findMinds) (pc := 64) dX0_findMinds_64 ⟨rfl, ⟨by decide, by decide⟩⟩ ?_
      refine aw_iload (j := 7) (M := M_X0_findMinds) (pc := 65) dX0_findMinds_65  rfl ?_
      refine aw_lshl (M := M_X0_findMinds) (pc := 67) dX0_findMinds_67 ?_
      refine aw_lor (M := M_X0_findMinds) (pc := 68) dX0_findMinds_68 ?_
      refine aw_last (k := (v6).toNat) (M := M_X0_findMinds) (pc := 69) dX0_findMinds_69 rfl o20 rfl ?_
      obtain ⟨h21, eh21⟩ : ∃ y : Mem, y = mset h16 45 (v6).toNat (llor (h16 45 (v6).toNat) (lshl 1 v7)) := ⟨_, rfl⟩
      have hF := hF h21 eh21
      rw [← eh21]
      obtain ⟨o22, hF⟩ := hF
      refine aw_iinc (j := 7) (x := v7) (r := v7 + 1) (ls' := [(7, (0, v7 + 1)), (0, vr 42), (1, vr v1), (2, vr v2), (3, (0, v3)), (4, vr v4), (5, (0, v5)), (6, (0, v6))]) (M := M_X0_findMinds) (pc := 70) dX0_findMinds_70 rfl rfl o22 (by decide) rfl ?_
      refine aw_goto (tgt := 42) (M := M_X0_findMinds) (pc := 73) dX0_findMinds_73 rfl ?_
      exact aw_ls [1, 2, 3, 4, 5, 6, 7, 0] rfl hF
def F_X0_findMinds (h : Mem) (a1 : Nat) (a2 : Nat) (a3 : Int) (a4 : Nat) (a5 : Int) (Q : Mem → Prop) : Prop :=
  (F_X4_copyFrom h a2 a1 (fun h1 => L_X0_findMinds_8 h1 a1 a2 a3 a4 a5 1 Q))
set_option maxRecDepth 100000 in
set_option maxHeartbeats 4000000 in
theorem f_X0_findMinds {h : Mem} {a1 : Nat} {a2 : Nat} {a3 : Int} {a4 : Nat} {a5 : Int} {Q : Mem → Prop} (ha1 : lay a1 = (0, 4)) (ha2 : lay a2 = (0, 4)) (ha4 : lay a4 = (2, 60)) (hF : F_X0_findMinds h a1 a2 a3 a4 a5 Q) : Ct yX0_findMinds cX0_findMinds 8 none (4, 116) [vr 42, vr a1, vr a2, (0, a3), vr a4, (0, a5)] h (qv Q) := by
  refine Ct.of np_RX0 (Nat.le_of_ble_eq_true rfl) ?_
  unfold F_X0_findMinds at hF
  show AW M_X0_findMinds 0 [(0, vr 42), (1, vr a1), (2, vr a2), (3, (0, a3)), (4, vr a4), (5, (0, a5))] [] h (qv Q)
  refine aw_aload_n (j := 2) (M := M_X0_findMinds) (pc := 0) dX0_findMinds_0 rfl rfl ?_
  refine aw_aload_n (j := 1) (M := M_X0_findMinds) (pc := 1) dX0_findMinds_1 rfl rfl ?_
  refine aw_cvv (as := [vr a1]) (st := []) (M := M_X0_findMinds) (pc := 2) (f_X4_copyFrom ha2 ha1 hF) dX0_findMinds_2 rfl (Or.inl ⟨_, _, _, ha2, rfl⟩) cy_X4_copyFrom ml_X0_48 (by decide) (by decide) (Nat.le_of_ble_eq_true rfl) (fun h1 hF => ?_)
  refine aw_iconst (M := M_X0_findMinds) (pc := 5) dX0_findMinds_5 ⟨by decide, by decide⟩ ?_
  refine aw_istore (ls' := [(6, (0, 1)), (0, vr 42), (1, vr a1), (2, vr a2), (3, (0, a3)), (4, vr a4), (5, (0, a5))]) (M := M_X0_findMinds) (pc := 6) dX0_findMinds_6  (by decide) rfl ?_
  exact aw_ls [1, 2, 3, 4, 5, 6, 0] rfl hF
abbrev M_X4_hoursTillHome : Hd := (cX4_hoursTillHome, 4, RX4, (some .int), (4, 116), sc0)
def L_X4_hoursTillHome_2 (h : Mem) (v0 : Nat) (v1 : Int) (v2 : Int) (v3 : Int) (Q : Int → Mem → Prop) : Prop := AW M_X4_hoursTillHome 2 [(0, vr v0), (1, (0, v1)), (2, (0, v2)), (3, (0, v3))] [] h (qi Q)
def B_X4_hoursTillHome_2 (h : Mem) (v0 : Nat) (v1 : Int) (v2 : Int) (v3 : Int) (Q : Int → Mem → Prop) : Prop :=
  ((v2 < v3 → Q (-1) h) ∧ (¬ (v2 < v3) → ((0 ≤ v1 ∧ v1 < 8) ∧ ((¬ ((h ((v0 + 1) + 5) (v1).toNat) = 3) → (F_X4_passHour h v0 (fun r4 h3 => (InR (v3 + 1) ∧ L_X4_hoursTillHome_2 h3 v0 v1 v2 (v3 + 1) Q)))) ∧ ((h ((v0 + 1) + 5) (v1).toNat) = 3 → Q v3 h)))))
set_option maxRecDepth 100000 in
set_option maxHeartbeats 4000000 in
theorem l_X4_hoursTillHome_2 {h : Mem} {v0 : Nat} {v1 : Int} {v2 : Int} {v3 : Int} {Q : Int → Mem → Prop} (hv0 : lay v0 = (0, 4)) (hF : B_X4_hoursTillHome_2 h v0 v1 v2 v3 Q) : L_X4_hoursTillHome_2 h v0 v1 v2 v3 Q := by
  unfold B_X4_hoursTillHome_2 at hF
  show AW M_X4_hoursTillHome 2 [(0, vr v0), (1, (0, v1)), (2, (0, v2)), (3, (0, v3))] [] h (qi Q)
  refine aw_iload_n (j := 3) (M := M_X4_hoursTillHome) (pc := 2) dX4_hoursTillHome_2 rfl rfl ?_
  refine aw_iload_n (j := 2) (M := M_X4_hoursTillHome) (pc := 3) dX4_hoursTillHome_3 rfl rfl ?_
  refine aw_icmp_gt (tgt := 33) (M := M_X4_hoursTillHome) (pc := 4) dX4_hoursTillHome_4 rfl (fun hc => ?_) (fun hc => ?_)
  · have hF := hF.1 hc
    refine aw_iconst (M := M_X4_hoursTillHome) (pc := 33) dX4_hoursTillHome_33 ⟨by decide, by decide⟩ ?_
    exact aw_ireti (M := M_X4_hoursTillHome) (pc := 34) dX4_hoursTillHome_34 rfl ⟨_, rfl, hF⟩
  · have hF := hF.2 hc
    refine aw_aload_n (j := 0) (M := M_X4_hoursTillHome) (pc := 7) dX4_hoursTillHome_7 rfl rfl ?_
    refine gf_X4_12 (M := M_X4_hoursTillHome) (pc := 8) rfl dX4_hoursTillHome_8 hv0 (r := v0 + 1) rfl ?_
    refine gf_X4_97 (M := M_X4_hoursTillHome) (pc := 11) rfl dX4_hoursTillHome_11 (ll_4_7 hv0) (r := (v0 + 1) + 5) rfl ?_
    refine aw_iload_n (j := 1) (M := M_X4_hoursTillHome) (pc := 14) dX4_hoursTillHome_14 rfl rfl ?_
    obtain ⟨o2, hF⟩ := hF
    refine aw_iald (k := (v1).toNat) (M := M_X4_hoursTillHome) (pc := 15) dX4_hoursTillHome_15 (ll_9_5 (ll_4_7 hv0)) o2 rfl ?_
    refine aw_iconst (M := M_X4_hoursTillHome) (pc := 16) dX4_hoursTillHome_16 ⟨by decide, by decide⟩ ?_
    refine aw_icmp_ne (tgt := 22) (M := M_X4_hoursTillHome) (pc := 17) dX4_hoursTillHome_17 rfl (fun hc => ?_) (fun hc => ?_)
    · have hF := hF.1 hc
      refine aw_aload_n (j := 0) (M := M_X4_hoursTillHome) (pc := 22) dX4_hoursTillHome_22 rfl rfl ?_
      refine aw_cvi (as := []) (st := []) (M := M_X4_hoursTillHome) (pc := 23) (f_X4_passHour hv0 hF) dX4_hoursTillHome_23 rfl (Or.inl ⟨_, _, _, hv0, rfl⟩) cy_X4_passHour ml_X4_93 (by decide) (by decide) (Nat.le_of_ble_eq_true rfl) (fun r4 h3 hF => ?_)
      refine aw_pop (M := M_X4_hoursTillHome) (pc := 26) dX4_hoursTillHome_26 rfl ?_
      obtain ⟨o5, hF⟩ := hF
      refine aw_iinc (j := 3) (x := v3) (r := v3 + 1) (ls' := [(3, (0, v3 + 1)), (0, vr v0), (1, (0, v1)), (2, (0, v2))]) (M := M_X4_hoursTillHome) (pc := 27) dX4_hoursTillHome_27 rfl rfl o5 (by decide) rfl ?_
      refine aw_goto (tgt := 2) (M := M_X4_hoursTillHome) (pc := 30) dX4_hoursTillHome_30 rfl ?_
      exact aw_ls [1, 2, 3, 0] rfl hF
    · have hF := hF.2 hc
      refine aw_iload_n (j := 3) (M := M_X4_hoursTillHome) (pc := 20) dX4_hoursTillHome_20 rfl rfl ?_
      exact aw_ireti (M := M_X4_hoursTillHome) (pc := 21) dX4_hoursTillHome_21 rfl ⟨_, rfl, hF⟩
def F_X4_hoursTillHome (h : Mem) (o : Nat) (a1 : Int) (a2 : Int) (Q : Int → Mem → Prop) : Prop :=
  L_X4_hoursTillHome_2 h o a1 a2 0 Q
set_option maxRecDepth 100000 in
set_option maxHeartbeats 4000000 in
theorem f_X4_hoursTillHome {h : Mem} {o : Nat} {a1 : Int} {a2 : Int} {Q : Int → Mem → Prop} (ho : lay o = (0, 4)) (hF : F_X4_hoursTillHome h o a1 a2 Q) : Ct yX4_hoursTillHome cX4_hoursTillHome 4 (some .int) (4, 116) [vr o, (0, a1), (0, a2)] h (qi Q) := by
  refine Ct.of np_RX4 (Nat.le_of_ble_eq_true rfl) ?_
  unfold F_X4_hoursTillHome at hF
  show AW M_X4_hoursTillHome 0 [(0, vr o), (1, (0, a1)), (2, (0, a2))] [] h (qi Q)
  refine aw_iconst (M := M_X4_hoursTillHome) (pc := 0) dX4_hoursTillHome_0 ⟨by decide, by decide⟩ ?_
  refine aw_istore_n (ls' := [(3, (0, 0)), (0, vr o), (1, (0, a1)), (2, (0, a2))]) (M := M_X4_hoursTillHome) (pc := 1) dX4_hoursTillHome_1 rfl (by decide) rfl ?_
  exact aw_ls [1, 2, 3, 0] rfl hF
abbrev M_X0_findSoonest : Hd := (cX0_findSoonest, 6, RX0, none, (5, 139), sc0)
def L_X0_findSoonest_18 (h : Mem) (v1 : Nat) (v2 : Nat) (v3 : Int) (v4 : Int) (Q : Mem → Prop) : Prop := AW M_X0_findSoonest 18 [(0, vr 42), (1, vr v1), (2, vr v2), (3, (0, v3)), (4, (0, v4))] [] h (qv Q)
def B_X0_findSoonest_18 (h : Mem) (v1 : Nat) (v2 : Nat) (v3 : Int) (v4 : Int) (Q : Mem → Prop) : Prop :=
  (((h v1 0) ≤ v4 → Q h) ∧ (¬ ((h v1 0) ≤ v4) → (F_X4_goBackTo h v2 v1 (fun h5 => (F_X9_throwInto h5 (v2 + 1) v3 v4 (fun h7 => ((¬ ((h7 42 0) = (-1)) → (InR ((h7 42 0) - 1) ∧ (F_X4_hoursTillHome h7 v2 v3 ((h7 42 0) - 1) (fun r11 h10 => ((r11 = (-1) → (InR (v4 + 1) ∧ L_X0_findSoonest_18 h10 v1 v2 v3 (v4 + 1) Q)) ∧ (¬ (r11 = (-1)) → (∀ h13 : Mem, h13 = mset h10 42 0 r11 → (∀ h14 : Mem, h14 = mset h13 42 1 v4 → (InR (v4 + 1) ∧ L_X0_findSoonest_18 h14 v1 v2 v3 (v4 + 1) Q))))))))) ∧ ((h7 42 0) = (-1) → (F_X4_hoursTillHome h7 v2 v3 400 (fun r17 h16 => ((r17 = (-1) → (InR (v4 + 1) ∧ L_X0_findSoonest_18 h16 v1 v2 v3 (v4 + 1) Q)) ∧ (¬ (r17 = (-1)) → (∀ h19 : Mem, h19 = mset h16 42 0 r17 → (∀ h20 : Mem, h20 = mset h19 42 1 v4 → (InR (v4 + 1) ∧ L_X0_findSoonest_18 h20 v1 v2 v3 (v4 + 1) Q)))))))))))))))
set_option maxRecDepth 100000 in
set_option maxHeartbeats 4000000 in
theorem l_X0_findSoonest_18 {h : Mem} {v1 : Nat} {v2 : Nat} {v3 : Int} {v4 : Int} {Q : Mem → Prop} (hv1 : lay v1 = (0, 4)) (hv2 : lay v2 = (0, 4)) (hF : B_X0_findSoonest_18 h v1 v2 v3 v4 Q) : L_X0_findSoonest_18 h v1 v2 v3 v4 Q := by
  unfold B_X0_findSoonest_18 at hF
  show AW M_X0_findSoonest 18 [(0, vr 42), (1, vr v1), (2, vr v2), (3, (0, v3)), (4, (0, v4))] [] h (qv Q)
  refine aw_iload (j := 4) (M := M_X0_findSoonest) (pc := 18) dX0_findSoonest_18  rfl ?_
  refine aw_aload_n (j := 1) (M := M_X0_findSoonest) (pc := 20) dX0_findSoonest_20 rfl rfl ?_
  refine gf_X0_52 (M := M_X0_findSoonest) (pc := 21) rfl dX0_findSoonest_21 hv1 ?_
  refine aw_icmp_ge (tgt := 93) (M := M_X0_findSoonest) (pc := 24) dX0_findSoonest_24 rfl (fun hc => ?_) (fun hc => ?_)
  · have hF := hF.1 hc
    exact aw_ret (M := M_X0_findSoonest) (pc := 93) dX0_findSoonest_93 rfl ⟨rfl, hF⟩
  · have hF := hF.2 hc
    refine aw_aload_n (j := 2) (M := M_X0_findSoonest) (pc := 27) dX0_findSoonest_27 rfl rfl ?_
    refine aw_aload_n (j := 1) (M := M_X0_findSoonest) (pc := 28) dX0_findSoonest_28 rfl rfl ?_
    refine aw_cvv (as := [vr v1]) (st := []) (M := M_X0_findSoonest) (pc := 29) (f_X4_goBackTo hv2 hv1 hF) dX0_findSoonest_29 rfl (Or.inl ⟨_, _, _, hv2, rfl⟩) cy_X4_goBackTo ml_X0_55 (by decide) (by decide) (Nat.le_of_ble_eq_true rfl) (fun h5 hF => ?_)
    refine aw_aload_n (j := 2) (M := M_X0_findSoonest) (pc := 32) dX0_findSoonest_32 rfl rfl ?_
    refine gf_X0_25 (M := M_X0_findSoonest) (pc := 33) rfl dX0_findSoonest_33 hv2 (r := v2 + 1) rfl ?_
    refine aw_iload_n (j := 3) (M := M_X0_findSoonest) (pc := 36) dX0_findSoonest_36 rfl rfl ?_
    refine aw_iload (j := 4) (M := M_X0_findSoonest) (pc := 37) dX0_findSoonest_37  rfl ?_
    refine aw_cvv (as := [(0, v3), (0, v4)]) (st := []) (M := M_X0_findSoonest) (pc := 39) (f_X9_throwInto (ll_4_7 hv2) hF) dX0_findSoonest_39 rfl (Or.inl ⟨_, _, _, (ll_4_7 hv2), rfl⟩) cy_X9_throwInto ml_X0_58 (by decide) (by decide) (Nat.le_of_ble_eq_true rfl) (fun h7 hF => ?_)
    refine aw_aload_n (j := 2) (M := M_X0_findSoonest) (pc := 42) dX0_findSoonest_42 rfl rfl ?_
    refine aw_iload_n (j := 3) (M := M_X0_findSoonest) (pc := 43) dX0_findSoonest_43 rfl rfl ?_
    refine aw_aload_n (j := 0) (M := M_X0_findSoonest) (pc := 44) dX0_findSoonest_44 rfl rfl ?_
    refine gf_X0_66 (M := M_X0_findSoonest) (pc := 45) rfl dX0_findSoonest_45 rfl ?_
    refine aw_iconst (M := M_X0_findSoonest) (pc := 48) dX0_findSoonest_48 ⟨by decide, by decide⟩ ?_
    refine aw_icmp_ne (tgt := 58) (M := M_X0_findSoonest) (pc := 49) dX0_findSoonest_49 rfl (fun hc => ?_) (fun hc => ?_)
    · have hF := hF.1 hc
      refine aw_aload_n (j := 0) (M := M_X0_findSoonest) (pc := 58) dX0_findSoonest_58 rfl rfl ?_
      refine gf_X0_66 (M := M_X0_findSoonest) (pc := 59) rfl dX0_findSoonest_59 rfl ?_
      refine aw_iconst (M := M_X0_findSoonest) (pc := 62) dX0_findSoonest_62 ⟨by decide, by decide⟩ ?_
      obtain ⟨o9, hF⟩ := hF
      refine aw_isub (M := M_X0_findSoonest) (pc := 63) dX0_findSoonest_63 rfl o9 ?_
      refine aw_cvi (as := [(0, v3), (0, (h7 42 0) - 1)]) (st := []) (M := M_X0_findSoonest) (pc := 64) (f_X4_hoursTillHome hv2 hF) dX0_findSoonest_64 rfl (Or.inl ⟨_, _, _, hv2, rfl⟩) cy_X4_hoursTillHome ml_X0_72 (by decide) (by decide) (Nat.le_of_ble_eq_true rfl) (fun r11 h10 hF => ?_)
      refine aw_istore (ls' := [(5, (0, r11)), (0, vr 42), (1, vr v1), (2, vr v2), (3, (0, v3)), (4, (0, v4))]) (M := M_X0_findSoonest) (pc := 67) dX0_findSoonest_67  (by decide) rfl ?_
      refine aw_iload (j := 0) (M := M_X0_findSoonest) (pc := 69) dX0_findSoonest_69  rfl ?_
      refine aw_iconst (M := M_X0_findSoonest) (pc := 71) dX0_findSoonest_71 ⟨by decide, by decide⟩ ?_
      refine aw_icmp_eq (tgt := 87) (M := M_X0_findSoonest) (pc := 72) dX0_findSoonest_72 rfl (fun hc => ?_) (fun hc => ?_)
      · have hF := hF.1 hc
        obtain ⟨o12, hF⟩ := hF
        refine aw_iinc (j := 5) (x := v4) (r := v4 + 1) (ls' := [(4, (0, v4 + 1)), (5, (0, r11)), (0, vr 42), (1, vr v1), (2, vr v2), (3, (0, v3))]) (M := M_X0_findSoonest) (pc := 87) dX0_findSoonest_87 rfl rfl o12 (by decide) rfl ?_
        refine aw_goto (tgt := 18) (M := M_X0_findSoonest) (pc := 90) dX0_findSoonest_90 rfl ?_
        exact aw_ls [2, 3, 4, 5, 0] rfl hF
      · have hF := hF.2 hc
        refine aw_aload_n (j := 1) (M := M_X0_findSoonest) (pc := 75) dX0_findSoonest_75 rfl rfl ?_
        refine aw_iload (j := 0) (M := M_X0_findSoonest) (pc := 76) dX0_findSoonest_76  rfl ?_
        refine pf_X0_66 (M := M_X0_findSoonest) (pc := 78) rfl dX0_findSoonest_78 rfl ?_
        obtain ⟨h13, eh13⟩ : ∃ y : Mem, y = mset h10 42 0 r11 := ⟨_, rfl⟩
        have hF := hF h13 eh13
        rw [← eh13]
        refine aw_aload_n (j := 1) (M := M_X0_findSoonest) (pc := 81) dX0_findSoonest_81 rfl rfl ?_
        refine aw_iload (j := 5) (M := M_X0_findSoonest) (pc := 82) dX0_findSoonest_82  rfl ?_
        refine pf_X0_69 (M := M_X0_findSoonest) (pc := 84) rfl dX0_findSoonest_84 rfl ?_
        obtain ⟨h14, eh14⟩ : ∃ y : Mem, y = mset h13 42 1 v4 := ⟨_, rfl⟩
        have hF := hF h14 eh14
        rw [← eh14]
        obtain ⟨o15, hF⟩ := hF
        refine aw_iinc (j := 5) (x := v4) (r := v4 + 1) (ls' := [(4, (0, v4 + 1)), (5, (0, r11)), (0, vr 42), (1, vr v1), (2, vr v2), (3, (0, v3))]) (M := M_X0_findSoonest) (pc := 87) dX0_findSoonest_87 rfl rfl o15 (by decide) rfl ?_
        refine aw_goto (tgt := 18) (M := M_X0_findSoonest) (pc := 90) dX0_findSoonest_90 rfl ?_
        exact aw_ls [2, 3, 4, 5, 0] rfl hF
    · have hF := hF.2 hc
      refine aw_sipush (M := M_X0_findSoonest) (pc := 52) dX0_findSoonest_52 ⟨rfl, ⟨by decide, by decide⟩⟩ ?_
      refine aw_goto (tgt := 64) (M := M_X0_findSoonest) (pc := 55) dX0_findSoonest_55 rfl ?_
      refine aw_cvi (as := [(0, v3), (0, 400)]) (st := []) (M := M_X0_findSoonest) (pc := 64) (f_X4_hoursTillHome hv2 hF) dX0_findSoonest_64 rfl (Or.inl ⟨_, _, _, hv2, rfl⟩) cy_X4_hoursTillHome ml_X0_72 (by decide) (by decide) (Nat.le_of_ble_eq_true rfl) (fun r17 h16 hF => ?_)
      refine aw_istore (ls' := [(5, (0, r17)), (0, vr 42), (1, vr v1), (2, vr v2), (3, (0, v3)), (4, (0, v4))]) (M := M_X0_findSoonest) (pc := 67) dX0_findSoonest_67  (by decide) rfl ?_
      refine aw_iload (j := 0) (M := M_X0_findSoonest) (pc := 69) dX0_findSoonest_69  rfl ?_
      refine aw_iconst (M := M_X0_findSoonest) (pc := 71) dX0_findSoonest_71 ⟨by decide, by decide⟩ ?_
      refine aw_icmp_eq (tgt := 87) (M := M_X0_findSoonest) (pc := 72) dX0_findSoonest_72 rfl (fun hc => ?_) (fun hc => ?_)
      · have hF := hF.1 hc
        obtain ⟨o18, hF⟩ := hF
        refine aw_iinc (j := 5) (x := v4) (r := v4 + 1) (ls' := [(4, (0, v4 + 1)), (5, (0, r17)), (0, vr 42), (1, vr v1), (2, vr v2), (3, (0, v3))]) (M := M_X0_findSoonest) (pc := 87) dX0_findSoonest_87 rfl rfl o18 (by decide) rfl ?_
        refine aw_goto (tgt := 18) (M := M_X0_findSoonest) (pc := 90) dX0_findSoonest_90 rfl ?_
        exact aw_ls [2, 3, 4, 5, 0] rfl hF
      · have hF := hF.2 hc
        refine aw_aload_n (j := 1) (M := M_X0_findSoonest) (pc := 75) dX0_findSoonest_75 rfl rfl ?_
        refine aw_iload (j := 0) (M := M_X0_findSoonest) (pc := 76) dX0_findSoonest_76  rfl ?_
        refine pf_X0_66 (M := M_X0_findSoonest) (pc := 78) rfl dX0_findSoonest_78 rfl ?_
        obtain ⟨h19, eh19⟩ : ∃ y : Mem, y = mset h16 42 0 r17 := ⟨_, rfl⟩
        have hF := hF h19 eh19
        rw [← eh19]
        refine aw_aload_n (j := 1) (M := M_X0_findSoonest) (pc := 81) dX0_findSoonest_81 rfl rfl ?_
        refine aw_iload (j := 5) (M := M_X0_findSoonest) (pc := 82) dX0_findSoonest_82  rfl ?_
        refine pf_X0_69 (M := M_X0_findSoonest) (pc := 84) rfl dX0_findSoonest_84 rfl ?_
        obtain ⟨h20, eh20⟩ : ∃ y : Mem, y = mset h19 42 1 v4 := ⟨_, rfl⟩
        have hF := hF h20 eh20
        rw [← eh20]
        obtain ⟨o21, hF⟩ := hF
        refine aw_iinc (j := 5) (x := v4) (r := v4 + 1) (ls' := [(4, (0, v4 + 1)), (5, (0, r17)), (0, vr 42), (1, vr v1), (2, vr v2), (3, (0, v3))]) (M := M_X0_findSoonest) (pc := 87) dX0_findSoonest_87 rfl rfl o21 (by decide) rfl ?_
        refine aw_goto (tgt := 18) (M := M_X0_findSoonest) (pc := 90) dX0_findSoonest_90 rfl ?_
        exact aw_ls [2, 3, 4, 5, 0] rfl hF
def F_X0_findSoonest (h : Mem) (a1 : Nat) (a2 : Nat) (a3 : Int) (Q : Mem → Prop) : Prop :=
  (∀ h1 : Mem, h1 = mset h 42 0 (-1) → (∀ h2 : Mem, h2 = mset h1 42 1 (-1) → (F_X4_copyFrom h2 a2 a1 (fun h3 => L_X0_findSoonest_18 h3 a1 a2 a3 0 Q))))
set_option maxRecDepth 100000 in
set_option maxHeartbeats 4000000 in
theorem f_X0_findSoonest {h : Mem} {a1 : Nat} {a2 : Nat} {a3 : Int} {Q : Mem → Prop} (ha1 : lay a1 = (0, 4)) (ha2 : lay a2 = (0, 4)) (hF : F_X0_findSoonest h a1 a2 a3 Q) : Ct yX0_findSoonest cX0_findSoonest 6 none (5, 139) [vr 42, vr a1, vr a2, (0, a3)] h (qv Q) := by
  refine Ct.of np_RX0 (Nat.le_of_ble_eq_true rfl) ?_
  unfold F_X0_findSoonest at hF
  show AW M_X0_findSoonest 0 [(0, vr 42), (1, vr a1), (2, vr a2), (3, (0, a3))] [] h (qv Q)
  refine aw_aload_n (j := 0) (M := M_X0_findSoonest) (pc := 0) dX0_findSoonest_0 rfl rfl ?_
  refine aw_iconst (M := M_X0_findSoonest) (pc := 1) dX0_findSoonest_1 ⟨by decide, by decide⟩ ?_
  refine pf_X0_66 (M := M_X0_findSoonest) (pc := 2) rfl dX0_findSoonest_2 rfl ?_
  obtain ⟨h1, eh1⟩ : ∃ y : Mem, y = mset h 42 0 (-1) := ⟨_, rfl⟩
  have hF := hF h1 eh1
  rw [← eh1]
  refine aw_aload_n (j := 0) (M := M_X0_findSoonest) (pc := 5) dX0_findSoonest_5 rfl rfl ?_
  refine aw_iconst (M := M_X0_findSoonest) (pc := 6) dX0_findSoonest_6 ⟨by decide, by decide⟩ ?_
  refine pf_X0_69 (M := M_X0_findSoonest) (pc := 7) rfl dX0_findSoonest_7 rfl ?_
  obtain ⟨h2, eh2⟩ : ∃ y : Mem, y = mset h1 42 1 (-1) := ⟨_, rfl⟩
  have hF := hF h2 eh2
  rw [← eh2]
  refine aw_aload_n (j := 2) (M := M_X0_findSoonest) (pc := 10) dX0_findSoonest_10 rfl rfl ?_
  refine aw_aload_n (j := 1) (M := M_X0_findSoonest) (pc := 11) dX0_findSoonest_11 rfl rfl ?_
  refine aw_cvv (as := [vr a1]) (st := []) (M := M_X0_findSoonest) (pc := 12) (f_X4_copyFrom ha2 ha1 hF) dX0_findSoonest_12 rfl (Or.inl ⟨_, _, _, ha2, rfl⟩) cy_X4_copyFrom ml_X0_48 (by decide) (by decide) (Nat.le_of_ble_eq_true rfl) (fun h3 hF => ?_)
  refine aw_iconst (M := M_X0_findSoonest) (pc := 15) dX0_findSoonest_15 ⟨by decide, by decide⟩ ?_
  refine aw_istore (ls' := [(4, (0, 0)), (0, vr 42), (1, vr a1), (2, vr a2), (3, (0, a3))]) (M := M_X0_findSoonest) (pc := 16) dX0_findSoonest_16  (by decide) rfl ?_
  exact aw_ls [1, 2, 3, 4, 0] rfl hF
abbrev M_X0_greatestMind : Hd := (cX0_greatestMind, 2, RX0, (some .int), (1, 45), sc0)
def L_X0_greatestMind_3 (h : Mem) (v1 : Int) (Q : Int → Mem → Prop) : Prop := AW M_X0_greatestMind 3 [(0, vr 42), (1, (0, v1))] [] h (qi Q)
def B_X0_greatestMind_3 (h : Mem) (v1 : Int) (Q : Int → Mem → Prop) : Prop :=
  ((v1 < 1 → Q (-1) h) ∧ (¬ (v1 < 1) → ((0 ≤ v1 ∧ v1 < 25) ∧ (((h 46 (v1).toNat) = 0 → (InR (v1 + (-1)) ∧ L_X0_greatestMind_3 h (v1 + (-1)) Q)) ∧ (¬ ((h 46 (v1).toNat) = 0) → Q v1 h)))))
set_option maxRecDepth 100000 in
set_option maxHeartbeats 4000000 in
theorem l_X0_greatestMind_3 {h : Mem} {v1 : Int} {Q : Int → Mem → Prop}  (hF : B_X0_greatestMind_3 h v1 Q) : L_X0_greatestMind_3 h v1 Q := by
  unfold B_X0_greatestMind_3 at hF
  show AW M_X0_greatestMind 3 [(0, vr 42), (1, (0, v1))] [] h (qi Q)
  refine aw_iload_n (j := 1) (M := M_X0_greatestMind) (pc := 3) dX0_greatestMind_3 rfl rfl ?_
  refine aw_iconst (M := M_X0_greatestMind) (pc := 4) dX0_greatestMind_4 ⟨by decide, by decide⟩ ?_
  refine aw_icmp_lt (tgt := 25) (M := M_X0_greatestMind) (pc := 5) dX0_greatestMind_5 rfl (fun hc => ?_) (fun hc => ?_)
  · have hF := hF.1 hc
    refine aw_iconst (M := M_X0_greatestMind) (pc := 25) dX0_greatestMind_25 ⟨by decide, by decide⟩ ?_
    exact aw_ireti (M := M_X0_greatestMind) (pc := 26) dX0_greatestMind_26 rfl ⟨_, rfl, hF⟩
  · have hF := hF.2 hc
    refine aw_aload_n (j := 0) (M := M_X0_greatestMind) (pc := 8) dX0_greatestMind_8 rfl rfl ?_
    refine gf_X0_21 (M := M_X0_greatestMind) (pc := 9) rfl dX0_greatestMind_9 rfl (r := 46) rfl ?_
    refine aw_iload_n (j := 1) (M := M_X0_greatestMind) (pc := 12) dX0_greatestMind_12 rfl rfl ?_
    obtain ⟨o2, hF⟩ := hF
    refine aw_zald (k := (v1).toNat) (M := M_X0_greatestMind) (pc := 13) dX0_greatestMind_13 rfl o2 rfl ?_
    refine aw_if_eq (tgt := 19) (M := M_X0_greatestMind) (pc := 14) dX0_greatestMind_14 rfl (fun hc => ?_) (fun hc => ?_)
    · have hF := hF.1 hc
      obtain ⟨o3, hF⟩ := hF
      refine aw_iinc (j := 1) (x := v1) (r := v1 + (-1)) (ls' := [(1, (0, v1 + (-1))), (0, vr 42)]) (M := M_X0_greatestMind) (pc := 19) dX0_greatestMind_19 rfl rfl o3 (by decide) rfl ?_
      refine aw_goto (tgt := 3) (M := M_X0_greatestMind) (pc := 22) dX0_greatestMind_22 rfl ?_
      exact aw_ls [1, 0] rfl hF
    · have hF := hF.2 hc
      refine aw_iload_n (j := 1) (M := M_X0_greatestMind) (pc := 17) dX0_greatestMind_17 rfl rfl ?_
      exact aw_ireti (M := M_X0_greatestMind) (pc := 18) dX0_greatestMind_18 rfl ⟨_, rfl, hF⟩
def F_X0_greatestMind (h : Mem)  (Q : Int → Mem → Prop) : Prop :=
  L_X0_greatestMind_3 h 24 Q
set_option maxRecDepth 100000 in
set_option maxHeartbeats 4000000 in
theorem f_X0_greatestMind {h : Mem}  {Q : Int → Mem → Prop}  (hF : F_X0_greatestMind h  Q) : Ct yX0_greatestMind cX0_greatestMind 2 (some .int) (1, 45) [vr 42] h (qi Q) := by
  refine Ct.of np_RX0 (Nat.le_of_ble_eq_true rfl) ?_
  unfold F_X0_greatestMind at hF
  show AW M_X0_greatestMind 0 [(0, vr 42)] [] h (qi Q)
  refine aw_bipush (M := M_X0_greatestMind) (pc := 0) dX0_greatestMind_0 ⟨rfl, ⟨by decide, by decide⟩⟩ ?_
  refine aw_istore_n (ls' := [(1, (0, 24)), (0, vr 42)]) (M := M_X0_greatestMind) (pc := 2) dX0_greatestMind_2 rfl (by decide) rfl ?_
  exact aw_ls [1, 0] rfl hF
abbrev M_X0_leastMind : Hd := (cX0_leastMind, 2, RX0, (some .int), (1, 45), sc0)
def L_X0_leastMind_2 (h : Mem) (v1 : Int) (Q : Int → Mem → Prop) : Prop := AW M_X0_leastMind 2 [(0, vr 42), (1, (0, v1))] [] h (qi Q)
def B_X0_leastMind_2 (h : Mem) (v1 : Int) (Q : Int → Mem → Prop) : Prop :=
  ((24 < v1 → Q (-1) h) ∧ (¬ (24 < v1) → ((0 ≤ v1 ∧ v1 < 25) ∧ (((h 46 (v1).toNat) = 0 → (InR (v1 + 1) ∧ L_X0_leastMind_2 h (v1 + 1) Q)) ∧ (¬ ((h 46 (v1).toNat) = 0) → Q v1 h)))))
set_option maxRecDepth 100000 in
set_option maxHeartbeats 4000000 in
theorem l_X0_leastMind_2 {h : Mem} {v1 : Int} {Q : Int → Mem → Prop}  (hF : B_X0_leastMind_2 h v1 Q) : L_X0_leastMind_2 h v1 Q := by
  unfold B_X0_leastMind_2 at hF
  show AW M_X0_leastMind 2 [(0, vr 42), (1, (0, v1))] [] h (qi Q)
  refine aw_iload_n (j := 1) (M := M_X0_leastMind) (pc := 2) dX0_leastMind_2 rfl rfl ?_
  refine aw_bipush (M := M_X0_leastMind) (pc := 3) dX0_leastMind_3 ⟨rfl, ⟨by decide, by decide⟩⟩ ?_
  refine aw_icmp_gt (tgt := 25) (M := M_X0_leastMind) (pc := 5) dX0_leastMind_5 rfl (fun hc => ?_) (fun hc => ?_)
  · have hF := hF.1 hc
    refine aw_iconst (M := M_X0_leastMind) (pc := 25) dX0_leastMind_25 ⟨by decide, by decide⟩ ?_
    exact aw_ireti (M := M_X0_leastMind) (pc := 26) dX0_leastMind_26 rfl ⟨_, rfl, hF⟩
  · have hF := hF.2 hc
    refine aw_aload_n (j := 0) (M := M_X0_leastMind) (pc := 8) dX0_leastMind_8 rfl rfl ?_
    refine gf_X0_21 (M := M_X0_leastMind) (pc := 9) rfl dX0_leastMind_9 rfl (r := 46) rfl ?_
    refine aw_iload_n (j := 1) (M := M_X0_leastMind) (pc := 12) dX0_leastMind_12 rfl rfl ?_
    obtain ⟨o2, hF⟩ := hF
    refine aw_zald (k := (v1).toNat) (M := M_X0_leastMind) (pc := 13) dX0_leastMind_13 rfl o2 rfl ?_
    refine aw_if_eq (tgt := 19) (M := M_X0_leastMind) (pc := 14) dX0_leastMind_14 rfl (fun hc => ?_) (fun hc => ?_)
    · have hF := hF.1 hc
      obtain ⟨o3, hF⟩ := hF
      refine aw_iinc (j := 1) (x := v1) (r := v1 + 1) (ls' := [(1, (0, v1 + 1)), (0, vr 42)]) (M := M_X0_leastMind) (pc := 19) dX0_leastMind_19 rfl rfl o3 (by decide) rfl ?_
      refine aw_goto (tgt := 2) (M := M_X0_leastMind) (pc := 22) dX0_leastMind_22 rfl ?_
      exact aw_ls [1, 0] rfl hF
    · have hF := hF.2 hc
      refine aw_iload_n (j := 1) (M := M_X0_leastMind) (pc := 17) dX0_leastMind_17 rfl rfl ?_
      exact aw_ireti (M := M_X0_leastMind) (pc := 18) dX0_leastMind_18 rfl ⟨_, rfl, hF⟩
def F_X0_leastMind (h : Mem)  (Q : Int → Mem → Prop) : Prop :=
  L_X0_leastMind_2 h 1 Q
set_option maxRecDepth 100000 in
set_option maxHeartbeats 4000000 in
theorem f_X0_leastMind {h : Mem}  {Q : Int → Mem → Prop}  (hF : F_X0_leastMind h  Q) : Ct yX0_leastMind cX0_leastMind 2 (some .int) (1, 45) [vr 42] h (qi Q) := by
  refine Ct.of np_RX0 (Nat.le_of_ble_eq_true rfl) ?_
  unfold F_X0_leastMind at hF
  show AW M_X0_leastMind 0 [(0, vr 42)] [] h (qi Q)
  refine aw_iconst (M := M_X0_leastMind) (pc := 0) dX0_leastMind_0 ⟨by decide, by decide⟩ ?_
  refine aw_istore_n (ls' := [(1, (0, 1)), (0, vr 42)]) (M := M_X0_leastMind) (pc := 1) dX0_leastMind_1 rfl (by decide) rfl ?_
  exact aw_ls [1, 0] rfl hF
abbrev M_X9_pictureFrom : Hd := (cX9_pictureFrom, 5, RX9, (some .long), (1, 45), sc0)
def L_X9_pictureFrom_5 (h : Mem) (v0 : Nat) (v1 : Int) (v2 : Int) (v4 : Int) (Q : Int → Mem → Prop) : Prop := AW M_X9_pictureFrom 5 [(0, vr v0), (1, (0, v1)), (2, (1, v2)), (4, (0, v4))] [] h (ql Q)
def B_X9_pictureFrom_5 (h : Mem) (v0 : Nat) (v1 : Int) (v2 : Int) (v4 : Int) (Q : Int → Mem → Prop) : Prop :=
  (InR (v1 + 4) ∧ (((v1 + 4) ≤ v4 → Q v2 h) ∧ (¬ ((v1 + 4) ≤ v4) → (((h v0 0) ≤ v4 → Q v2 h) ∧ (¬ ((h v0 0) ≤ v4) → ((0 ≤ v4 ∧ v4 < 8) ∧ (∀ x6 : Int, x6 = llor (llor (llor (lshl v2 13) (ishl (h (v0 + 5) (v4).toNat) 11)) (ishl (h (v0 + 6) (v4).toNat) 7)) (h (v0 + 7) (v4).toNat) → (InR (v4 + 1) ∧ L_X9_pictureFrom_5 h v0 v1 x6 (v4 + 1) Q))))))))
set_option maxRecDepth 100000 in
set_option maxHeartbeats 4000000 in
theorem l_X9_pictureFrom_5 {h : Mem} {v0 : Nat} {v1 : Int} {v2 : Int} {v4 : Int} {Q : Int → Mem → Prop} (hv0 : lay v0 = (0, 9)) (hF : B_X9_pictureFrom_5 h v0 v1 v2 v4 Q) : L_X9_pictureFrom_5 h v0 v1 v2 v4 Q := by
  unfold B_X9_pictureFrom_5 at hF
  show AW M_X9_pictureFrom 5 [(0, vr v0), (1, (0, v1)), (2, (1, v2)), (4, (0, v4))] [] h (ql Q)
  refine aw_iload (j := 3) (M := M_X9_pictureFrom) (pc := 5) dX9_pictureFrom_5  rfl ?_
  refine aw_iload_n (j := 1) (M := M_X9_pictureFrom) (pc := 7) dX9_pictureFrom_7 rfl rfl ?_
  refine aw_iconst (M := M_X9_pictureFrom) (pc := 8) dX9_pictureFrom_8 ⟨by decide, by decide⟩ ?_
  obtain ⟨o1, hF⟩ := hF
  refine aw_iadd (M := M_X9_pictureFrom) (pc := 9) dX9_pictureFrom_9 rfl o1 ?_
  refine aw_icmp_ge (tgt := 66) (M := M_X9_pictureFrom) (pc := 10) dX9_pictureFrom_10 rfl (fun hc => ?_) (fun hc => ?_)
  · have hF := hF.1 hc
    refine aw_lload_n (j := 2) (M := M_X9_pictureFrom) (pc := 66) dX9_pictureFrom_66 rfl rfl ?_
    exact aw_lret (M := M_X9_pictureFrom) (pc := 67) dX9_pictureFrom_67 rfl ⟨_, rfl, hF⟩
  · have hF := hF.2 hc
    refine aw_iload (j := 3) (M := M_X9_pictureFrom) (pc := 13) dX9_pictureFrom_13  rfl ?_
    refine aw_aload_n (j := 0) (M := M_X9_pictureFrom) (pc := 15) dX9_pictureFrom_15 rfl rfl ?_
    refine gf_X9_9 (M := M_X9_pictureFrom) (pc := 16) rfl dX9_pictureFrom_16 hv0 ?_
    refine aw_icmp_ge (tgt := 66) (M := M_X9_pictureFrom) (pc := 19) dX9_pictureFrom_19 rfl (fun hc => ?_) (fun hc => ?_)
    · have hF := hF.1 hc
      refine aw_lload_n (j := 2) (M := M_X9_pictureFrom) (pc := 66) dX9_pictureFrom_66 rfl rfl ?_
      exact aw_lret (M := M_X9_pictureFrom) (pc := 67) dX9_pictureFrom_67 rfl ⟨_, rfl, hF⟩
    · have hF := hF.2 hc
      refine aw_lload_n (j := 2) (M := M_X9_pictureFrom) (pc := 22) dX9_pictureFrom_22 rfl rfl ?_
      refine aw_bipush (M := M_X9_pictureFrom) (pc := 23) dX9_pictureFrom_23 ⟨rfl, ⟨by decide, by decide⟩⟩ ?_
      refine aw_lshl (M := M_X9_pictureFrom) (pc := 25) dX9_pictureFrom_25 ?_
      refine aw_aload_n (j := 0) (M := M_X9_pictureFrom) (pc := 26) dX9_pictureFrom_26 rfl rfl ?_
      refine gf_X9_29 (M := M_X9_pictureFrom) (pc := 27) rfl dX9_pictureFrom_27 hv0 (r := v0 + 5) rfl ?_
      refine aw_iload (j := 3) (M := M_X9_pictureFrom) (pc := 30) dX9_pictureFrom_30  rfl ?_
      obtain ⟨o3, hF⟩ := hF
      refine aw_iald (k := (v4).toNat) (M := M_X9_pictureFrom) (pc := 32) dX9_pictureFrom_32 (ll_9_5 hv0) o3 rfl ?_
      refine aw_bipush (M := M_X9_pictureFrom) (pc := 33) dX9_pictureFrom_33 ⟨rfl, ⟨by decide, by decide⟩⟩ ?_
      refine aw_ishl (M := M_X9_pictureFrom) (pc := 35) dX9_pictureFrom_35 ?_
      refine aw_i2l (M := M_X9_pictureFrom) (pc := 36) dX9_pictureFrom_36 ?_
      refine aw_lor (M := M_X9_pictureFrom) (pc := 37) dX9_pictureFrom_37 ?_
      refine aw_aload_n (j := 0) (M := M_X9_pictureFrom) (pc := 38) dX9_pictureFrom_38 rfl rfl ?_
      refine gf_X9_32 (M := M_X9_pictureFrom) (pc := 39) rfl dX9_pictureFrom_39 hv0 (r := v0 + 6) rfl ?_
      refine aw_iload (j := 3) (M := M_X9_pictureFrom) (pc := 42) dX9_pictureFrom_42  rfl ?_
      refine aw_iald (k := (v4).toNat) (M := M_X9_pictureFrom) (pc := 44) dX9_pictureFrom_44 (ll_9_6 hv0) o3 rfl ?_
      refine aw_bipush (M := M_X9_pictureFrom) (pc := 45) dX9_pictureFrom_45 ⟨rfl, ⟨by decide, by decide⟩⟩ ?_
      refine aw_ishl (M := M_X9_pictureFrom) (pc := 47) dX9_pictureFrom_47 ?_
      refine aw_i2l (M := M_X9_pictureFrom) (pc := 48) dX9_pictureFrom_48 ?_
      refine aw_lor (M := M_X9_pictureFrom) (pc := 49) dX9_pictureFrom_49 ?_
      refine aw_aload_n (j := 0) (M := M_X9_pictureFrom) (pc := 50) dX9_pictureFrom_50 rfl rfl ?_
      refine gf_X9_35 (M := M_X9_pictureFrom) (pc := 51) rfl dX9_pictureFrom_51 hv0 (r := v0 + 7) rfl ?_
      refine aw_iload (j := 3) (M := M_X9_pictureFrom) (pc := 54) dX9_pictureFrom_54  rfl ?_
      refine aw_iald (k := (v4).toNat) (M := M_X9_pictureFrom) (pc := 56) dX9_pictureFrom_56 (ll_9_7 hv0) o3 rfl ?_
      refine aw_i2l (M := M_X9_pictureFrom) (pc := 57) dX9_pictureFrom_57 ?_
      refine aw_lor (M := M_X9_pictureFrom) (pc := 58) dX9_pictureFrom_58 ?_
      obtain ⟨x6, ex6⟩ : ∃ y : Int, y = llor (llor (llor (lshl v2 13) (ishl (h (v0 + 5) (v4).toNat) 11)) (ishl (h (v0 + 6) (v4).toNat) 7)) (h (v0 + 7) (v4).toNat) := ⟨_, rfl⟩
      have hF := hF x6 ex6
      rw [← ex6]
      refine aw_lstore_n (ls' := [(2, (1, x6)), (0, vr v0), (1, (0, v1)), (4, (0, v4))]) (M := M_X9_pictureFrom) (pc := 59) dX9_pictureFrom_59 rfl (by decide) rfl ?_
      obtain ⟨o7, hF⟩ := hF
      refine aw_iinc (j := 3) (x := v4) (r := v4 + 1) (ls' := [(4, (0, v4 + 1)), (2, (1, x6)), (0, vr v0), (1, (0, v1))]) (M := M_X9_pictureFrom) (pc := 60) dX9_pictureFrom_60 rfl rfl o7 (by decide) rfl ?_
      refine aw_goto (tgt := 5) (M := M_X9_pictureFrom) (pc := 63) dX9_pictureFrom_63 rfl ?_
      exact aw_ls [2, 3, 1, 0] rfl hF
def F_X9_pictureFrom (h : Mem) (o : Nat) (a1 : Int) (Q : Int → Mem → Prop) : Prop :=
  L_X9_pictureFrom_5 h o a1 0 a1 Q
set_option maxRecDepth 100000 in
set_option maxHeartbeats 4000000 in
theorem f_X9_pictureFrom {h : Mem} {o : Nat} {a1 : Int} {Q : Int → Mem → Prop} (ho : lay o = (0, 9)) (hF : F_X9_pictureFrom h o a1 Q) : Ct yX9_pictureFrom cX9_pictureFrom 5 (some .long) (1, 45) [vr o, (0, a1)] h (ql Q) := by
  refine Ct.of np_RX9 (Nat.le_of_ble_eq_true rfl) ?_
  unfold F_X9_pictureFrom at hF
  show AW M_X9_pictureFrom 0 [(0, vr o), (1, (0, a1))] [] h (ql Q)
  refine aw_lconst (v := 0) (M := M_X9_pictureFrom) (pc := 0) dX9_pictureFrom_0 ⟨rfl, ⟨by decide, by decide⟩⟩ ?_
  refine aw_lstore_n (ls' := [(2, (1, 0)), (0, vr o), (1, (0, a1))]) (M := M_X9_pictureFrom) (pc := 1) dX9_pictureFrom_1 rfl (by decide) rfl ?_
  refine aw_iload_n (j := 2) (M := M_X9_pictureFrom) (pc := 2) dX9_pictureFrom_2 rfl rfl ?_
  refine aw_istore (ls' := [(4, (0, a1)), (2, (1, 0)), (0, vr o), (1, (0, a1))]) (M := M_X9_pictureFrom) (pc := 3) dX9_pictureFrom_3  (by decide) rfl ?_
  exact aw_ls [2, 3, 1, 0] rfl hF
abbrev M_X0_ringOf : Hd := (cX0_ringOf, 4, RX0, (some .int), (4, 116), sc0)
def L_X0_ringOf_2 (h : Mem) (v1 : Nat) (v2 : Int) (Q : Int → Mem → Prop) : Prop := AW M_X0_ringOf 2 [(0, vr 42), (1, vr v1), (2, (0, v2))] [] h (qi Q)
def L_X0_ringOf_57 (h : Mem) (v1 : Nat) (v2 : Int) (v3 : Int) (Q : Int → Mem → Prop) : Prop := AW M_X0_ringOf 57 [(0, vr 42), (1, vr v1), (2, (0, v2)), (3, (0, v3))] [] h (qi Q)
def B_X0_ringOf_2 (h : Mem) (v1 : Nat) (v2 : Int) (Q : Int → Mem → Prop) : Prop :=
  ((200 < v2 → Q (-1) h) ∧ (¬ (200 < v2) → (F_X9_pictureFrom h (v1 + 1) 0 (fun r2 h1 => ((0 ≤ v2 ∧ v2 < 201) ∧ (∀ h4 : Mem, h4 = mset h1 43 (v2).toNat (llor (lshl (llor (lshl r2 4) (h1 v1 3)) 1) (h1 v1 4)) → (F_X9_pictureFrom h4 (v1 + 1) 4 (fun r6 h5 => (∀ h7 : Mem, h7 = mset h5 44 (v2).toNat r6 → (InR (v2 - 1) ∧ L_X0_ringOf_57 h7 v1 v2 (v2 - 1) Q))))))))))
set_option maxRecDepth 100000 in
set_option maxHeartbeats 4000000 in
theorem l_X0_ringOf_2 {h : Mem} {v1 : Nat} {v2 : Int} {Q : Int → Mem → Prop} (hv1 : lay v1 = (0, 4)) (hF : B_X0_ringOf_2 h v1 v2 Q) : L_X0_ringOf_2 h v1 v2 Q := by
  unfold B_X0_ringOf_2 at hF
  show AW M_X0_ringOf 2 [(0, vr 42), (1, vr v1), (2, (0, v2))] [] h (qi Q)
  refine aw_iload_n (j := 2) (M := M_X0_ringOf) (pc := 2) dX0_ringOf_2 rfl rfl ?_
  refine aw_sipush (M := M_X0_ringOf) (pc := 3) dX0_ringOf_3 ⟨rfl, ⟨by decide, by decide⟩⟩ ?_
  refine aw_icmp_gt (tgt := 114) (M := M_X0_ringOf) (pc := 6) dX0_ringOf_6 rfl (fun hc => ?_) (fun hc => ?_)
  · have hF := hF.1 hc
    refine aw_iconst (M := M_X0_ringOf) (pc := 114) dX0_ringOf_114 ⟨by decide, by decide⟩ ?_
    exact aw_ireti (M := M_X0_ringOf) (pc := 115) dX0_ringOf_115 rfl ⟨_, rfl, hF⟩
  · have hF := hF.2 hc
    refine aw_aload_n (j := 0) (M := M_X0_ringOf) (pc := 9) dX0_ringOf_9 rfl rfl ?_
    refine gf_X0_11 (M := M_X0_ringOf) (pc := 10) rfl dX0_ringOf_10 rfl (r := 43) rfl ?_
    refine aw_iload_n (j := 2) (M := M_X0_ringOf) (pc := 13) dX0_ringOf_13 rfl rfl ?_
    refine aw_aload_n (j := 1) (M := M_X0_ringOf) (pc := 14) dX0_ringOf_14 rfl rfl ?_
    refine gf_X0_25 (M := M_X0_ringOf) (pc := 15) rfl dX0_ringOf_15 hv1 (r := v1 + 1) rfl ?_
    refine aw_iconst (M := M_X0_ringOf) (pc := 18) dX0_ringOf_18 ⟨by decide, by decide⟩ ?_
    refine aw_cvl (as := [(0, 0)]) (st := [(0, v2), vr 43]) (M := M_X0_ringOf) (pc := 19) (f_X9_pictureFrom (ll_4_7 hv1) hF) dX0_ringOf_19 rfl (Or.inl ⟨_, _, _, (ll_4_7 hv1), rfl⟩) cy_X9_pictureFrom ml_X0_31 (by decide) (by decide) (Nat.le_of_ble_eq_true rfl) (fun r2 h1 hF => ?_)
    refine aw_iconst (M := M_X0_ringOf) (pc := 22) dX0_ringOf_22 ⟨by decide, by decide⟩ ?_
    refine aw_lshl (M := M_X0_ringOf) (pc := 23) dX0_ringOf_23 ?_
    refine aw_aload_n (j := 1) (M := M_X0_ringOf) (pc := 24) dX0_ringOf_24 rfl rfl ?_
    refine gf_X0_37 (M := M_X0_ringOf) (pc := 25) rfl dX0_ringOf_25 hv1 ?_
    refine aw_i2l (M := M_X0_ringOf) (pc := 28) dX0_ringOf_28 ?_
    refine aw_lor (M := M_X0_ringOf) (pc := 29) dX0_ringOf_29 ?_
    refine aw_iconst (M := M_X0_ringOf) (pc := 30) dX0_ringOf_30 ⟨by decide, by decide⟩ ?_
    refine aw_lshl (M := M_X0_ringOf) (pc := 31) dX0_ringOf_31 ?_
    refine aw_aload_n (j := 1) (M := M_X0_ringOf) (pc := 32) dX0_ringOf_32 rfl rfl ?_
    refine gf_X0_41 (M := M_X0_ringOf) (pc := 33) rfl dX0_ringOf_33 hv1 ?_
    refine aw_i2l (M := M_X0_ringOf) (pc := 36) dX0_ringOf_36 ?_
    refine aw_lor (M := M_X0_ringOf) (pc := 37) dX0_ringOf_37 ?_
    obtain ⟨o3, hF⟩ := hF
    refine aw_last (k := (v2).toNat) (M := M_X0_ringOf) (pc := 38) dX0_ringOf_38 rfl o3 rfl ?_
    obtain ⟨h4, eh4⟩ : ∃ y : Mem, y = mset h1 43 (v2).toNat (llor (lshl (llor (lshl r2 4) (h1 v1 3)) 1) (h1 v1 4)) := ⟨_, rfl⟩
    have hF := hF h4 eh4
    rw [← eh4]
    refine aw_aload_n (j := 0) (M := M_X0_ringOf) (pc := 39) dX0_ringOf_39 rfl rfl ?_
    refine gf_X0_15 (M := M_X0_ringOf) (pc := 40) rfl dX0_ringOf_40 rfl (r := 44) rfl ?_
    refine aw_iload_n (j := 2) (M := M_X0_ringOf) (pc := 43) dX0_ringOf_43 rfl rfl ?_
    refine aw_aload_n (j := 1) (M := M_X0_ringOf) (pc := 44) dX0_ringOf_44 rfl rfl ?_
    refine gf_X0_25 (M := M_X0_ringOf) (pc := 45) rfl dX0_ringOf_45 hv1 (r := v1 + 1) rfl ?_
    refine aw_iconst (M := M_X0_ringOf) (pc := 48) dX0_ringOf_48 ⟨by decide, by decide⟩ ?_
    refine aw_cvl (as := [(0, 4)]) (st := [(0, v2), vr 44]) (M := M_X0_ringOf) (pc := 49) (f_X9_pictureFrom (ll_4_7 hv1) hF) dX0_ringOf_49 rfl (Or.inl ⟨_, _, _, (ll_4_7 hv1), rfl⟩) cy_X9_pictureFrom ml_X0_31 (by decide) (by decide) (Nat.le_of_ble_eq_true rfl) (fun r6 h5 hF => ?_)
    refine aw_last (k := (v2).toNat) (M := M_X0_ringOf) (pc := 52) dX0_ringOf_52 rfl o3 rfl ?_
    obtain ⟨h7, eh7⟩ : ∃ y : Mem, y = mset h5 44 (v2).toNat r6 := ⟨_, rfl⟩
    have hF := hF h7 eh7
    rw [← eh7]
    refine aw_iload_n (j := 2) (M := M_X0_ringOf) (pc := 53) dX0_ringOf_53 rfl rfl ?_
    refine aw_iconst (M := M_X0_ringOf) (pc := 54) dX0_ringOf_54 ⟨by decide, by decide⟩ ?_
    obtain ⟨o8, hF⟩ := hF
    refine aw_isub (M := M_X0_ringOf) (pc := 55) dX0_ringOf_55 rfl o8 ?_
    refine aw_istore_n (ls' := [(3, (0, v2 - 1)), (0, vr 42), (1, vr v1), (2, (0, v2))]) (M := M_X0_ringOf) (pc := 56) dX0_ringOf_56 rfl (by decide) rfl ?_
    exact aw_ls [1, 2, 3, 0] rfl hF
def B_X0_ringOf_57 (h : Mem) (v1 : Nat) (v2 : Int) (v3 : Int) (Q : Int → Mem → Prop) : Prop :=
  ((v3 < 0 → (F_X4_passHour h v1 (fun r10 h9 => (InR (v2 + 1) ∧ L_X0_ringOf_2 h9 v1 (v2 + 1) Q)))) ∧ (¬ (v3 < 0) → ((0 ≤ v3 ∧ v3 < 201) ∧ ((0 ≤ v2 ∧ v2 < 201) ∧ ((¬ ((h 43 (v3).toNat) = (h 43 (v2).toNat)) → (InR (v3 + (-1)) ∧ L_X0_ringOf_57 h v1 v2 (v3 + (-1)) Q)) ∧ ((h 43 (v3).toNat) = (h 43 (v2).toNat) → ((¬ ((h 44 (v3).toNat) = (h 44 (v2).toNat)) → (InR (v3 + (-1)) ∧ L_X0_ringOf_57 h v1 v2 (v3 + (-1)) Q)) ∧ ((h 44 (v3).toNat) = (h 44 (v2).toNat) → (InR (v2 - v3) ∧ Q (v2 - v3) h)))))))))
set_option maxRecDepth 100000 in
set_option maxHeartbeats 4000000 in
theorem l_X0_ringOf_57 {h : Mem} {v1 : Nat} {v2 : Int} {v3 : Int} {Q : Int → Mem → Prop} (hv1 : lay v1 = (0, 4)) (hF : B_X0_ringOf_57 h v1 v2 v3 Q) : L_X0_ringOf_57 h v1 v2 v3 Q := by
  unfold B_X0_ringOf_57 at hF
  show AW M_X0_ringOf 57 [(0, vr 42), (1, vr v1), (2, (0, v2)), (3, (0, v3))] [] h (qi Q)
  refine aw_iload_n (j := 3) (M := M_X0_ringOf) (pc := 57) dX0_ringOf_57 rfl rfl ?_
  refine aw_if_lt (tgt := 103) (M := M_X0_ringOf) (pc := 58) dX0_ringOf_58 rfl (fun hc => ?_) (fun hc => ?_)
  · have hF := hF.1 hc
    refine aw_aload_n (j := 1) (M := M_X0_ringOf) (pc := 103) dX0_ringOf_103 rfl rfl ?_
    refine aw_cvi (as := []) (st := []) (M := M_X0_ringOf) (pc := 104) (f_X4_passHour hv1 hF) dX0_ringOf_104 rfl (Or.inl ⟨_, _, _, hv1, rfl⟩) cy_X4_passHour ml_X0_44 (by decide) (by decide) (Nat.le_of_ble_eq_true rfl) (fun r10 h9 hF => ?_)
    refine aw_pop (M := M_X0_ringOf) (pc := 107) dX0_ringOf_107 rfl ?_
    obtain ⟨o11, hF⟩ := hF
    refine aw_iinc (j := 2) (x := v2) (r := v2 + 1) (ls' := [(2, (0, v2 + 1)), (0, vr 42), (1, vr v1), (3, (0, v3))]) (M := M_X0_ringOf) (pc := 108) dX0_ringOf_108 rfl rfl o11 (by decide) rfl ?_
    refine aw_goto (tgt := 2) (M := M_X0_ringOf) (pc := 111) dX0_ringOf_111 rfl ?_
    exact aw_ls [1, 2, 0] rfl hF
  · have hF := hF.2 hc
    refine aw_aload_n (j := 0) (M := M_X0_ringOf) (pc := 61) dX0_ringOf_61 rfl rfl ?_
    refine gf_X0_11 (M := M_X0_ringOf) (pc := 62) rfl dX0_ringOf_62 rfl (r := 43) rfl ?_
    refine aw_iload_n (j := 3) (M := M_X0_ringOf) (pc := 65) dX0_ringOf_65 rfl rfl ?_
    obtain ⟨o13, hF⟩ := hF
    refine aw_lald (k := (v3).toNat) (M := M_X0_ringOf) (pc := 66) dX0_ringOf_66 rfl o13 rfl ?_
    refine aw_aload_n (j := 0) (M := M_X0_ringOf) (pc := 67) dX0_ringOf_67 rfl rfl ?_
    refine gf_X0_11 (M := M_X0_ringOf) (pc := 68) rfl dX0_ringOf_68 rfl (r := 43) rfl ?_
    refine aw_iload_n (j := 2) (M := M_X0_ringOf) (pc := 71) dX0_ringOf_71 rfl rfl ?_
    obtain ⟨o15, hF⟩ := hF
    refine aw_lald (k := (v2).toNat) (M := M_X0_ringOf) (pc := 72) dX0_ringOf_72 rfl o15 rfl ?_
    refine aw_lcmp (M := M_X0_ringOf) (pc := 73) dX0_ringOf_73 ?_
    refine aw_if_ne (tgt := 97) (M := M_X0_ringOf) (pc := 74) dX0_ringOf_74 rfl (fun hc => ?_) (fun hc => ?_)
    · have hF := hF.1 (fun z => hc (lc_eq.mpr z))
      obtain ⟨o16, hF⟩ := hF
      refine aw_iinc (j := 3) (x := v3) (r := v3 + (-1)) (ls' := [(3, (0, v3 + (-1))), (0, vr 42), (1, vr v1), (2, (0, v2))]) (M := M_X0_ringOf) (pc := 97) dX0_ringOf_97 rfl rfl o16 (by decide) rfl ?_
      refine aw_goto (tgt := 57) (M := M_X0_ringOf) (pc := 100) dX0_ringOf_100 rfl ?_
      exact aw_ls [1, 2, 3, 0] rfl hF
    · have hF := hF.2 (lc_eq.mp hc)
      refine aw_aload_n (j := 0) (M := M_X0_ringOf) (pc := 77) dX0_ringOf_77 rfl rfl ?_
      refine gf_X0_15 (M := M_X0_ringOf) (pc := 78) rfl dX0_ringOf_78 rfl (r := 44) rfl ?_
      refine aw_iload_n (j := 3) (M := M_X0_ringOf) (pc := 81) dX0_ringOf_81 rfl rfl ?_
      refine aw_lald (k := (v3).toNat) (M := M_X0_ringOf) (pc := 82) dX0_ringOf_82 rfl o13 rfl ?_
      refine aw_aload_n (j := 0) (M := M_X0_ringOf) (pc := 83) dX0_ringOf_83 rfl rfl ?_
      refine gf_X0_15 (M := M_X0_ringOf) (pc := 84) rfl dX0_ringOf_84 rfl (r := 44) rfl ?_
      refine aw_iload_n (j := 2) (M := M_X0_ringOf) (pc := 87) dX0_ringOf_87 rfl rfl ?_
      refine aw_lald (k := (v2).toNat) (M := M_X0_ringOf) (pc := 88) dX0_ringOf_88 rfl o15 rfl ?_
      refine aw_lcmp (M := M_X0_ringOf) (pc := 89) dX0_ringOf_89 ?_
      refine aw_if_ne (tgt := 97) (M := M_X0_ringOf) (pc := 90) dX0_ringOf_90 rfl (fun hc => ?_) (fun hc => ?_)
      · have hF := hF.1 (fun z => hc (lc_eq.mpr z))
        obtain ⟨o19, hF⟩ := hF
        refine aw_iinc (j := 3) (x := v3) (r := v3 + (-1)) (ls' := [(3, (0, v3 + (-1))), (0, vr 42), (1, vr v1), (2, (0, v2))]) (M := M_X0_ringOf) (pc := 97) dX0_ringOf_97 rfl rfl o19 (by decide) rfl ?_
        refine aw_goto (tgt := 57) (M := M_X0_ringOf) (pc := 100) dX0_ringOf_100 rfl ?_
        exact aw_ls [1, 2, 3, 0] rfl hF
      · have hF := hF.2 (lc_eq.mp hc)
        refine aw_iload_n (j := 2) (M := M_X0_ringOf) (pc := 93) dX0_ringOf_93 rfl rfl ?_
        refine aw_iload_n (j := 3) (M := M_X0_ringOf) (pc := 94) dX0_ringOf_94 rfl rfl ?_
        obtain ⟨o20, hF⟩ := hF
        refine aw_isub (M := M_X0_ringOf) (pc := 95) dX0_ringOf_95 rfl o20 ?_
        exact aw_ireti (M := M_X0_ringOf) (pc := 96) dX0_ringOf_96 rfl ⟨_, rfl, hF⟩
def F_X0_ringOf (h : Mem) (a1 : Nat) (Q : Int → Mem → Prop) : Prop :=
  L_X0_ringOf_2 h a1 0 Q
set_option maxRecDepth 100000 in
set_option maxHeartbeats 4000000 in
theorem f_X0_ringOf {h : Mem} {a1 : Nat} {Q : Int → Mem → Prop} (ha1 : lay a1 = (0, 4)) (hF : F_X0_ringOf h a1 Q) : Ct yX0_ringOf cX0_ringOf 4 (some .int) (4, 116) [vr 42, vr a1] h (qi Q) := by
  refine Ct.of np_RX0 (Nat.le_of_ble_eq_true rfl) ?_
  unfold F_X0_ringOf at hF
  show AW M_X0_ringOf 0 [(0, vr 42), (1, vr a1)] [] h (qi Q)
  refine aw_iconst (M := M_X0_ringOf) (pc := 0) dX0_ringOf_0 ⟨by decide, by decide⟩ ?_
  refine aw_istore_n (ls' := [(2, (0, 0)), (0, vr 42), (1, vr a1)]) (M := M_X0_ringOf) (pc := 1) dX0_ringOf_1 rfl (by decide) rfl ?_
  exact aw_ls [1, 2, 0] rfl hF
abbrev M_X0_sail : Hd := (cX0_sail, 5, RX0, none, (4, 116), sc0)
def L_X0_sail_13 (h : Mem) (v1 : Nat) (v2 : Int) (v3 : Int) (v4 : Int) (Q : Mem → Prop) : Prop := AW M_X0_sail 13 [(0, vr 42), (1, vr v1), (2, (0, v2)), (3, (0, v3)), (4, (0, v4))] [] h (qv Q)
def J_X0_sail_51 (h : Mem) (v1 : Nat) (v2 : Int) (v3 : Int) (v4 : Int) (Q : Mem → Prop) : Prop :=
  (((h 42 3) = (-1) → (F_X4_passHour h v1 (fun r5 h4 => (InR (v4 + 1) ∧ L_X0_sail_13 h4 v1 v2 v3 (v4 + 1) Q)))) ∧ (¬ ((h 42 3) = (-1)) → ((¬ ((h v1 3) = v3) → (F_X4_passHour h v1 (fun r8 h7 => (InR (v4 + 1) ∧ L_X0_sail_13 h7 v1 v2 v3 (v4 + 1) Q)))) ∧ ((h v1 3) = v3 → (∀ h10 : Mem, h10 = mset h 42 0 v4 → (F_X4_passHour h10 v1 (fun r12 h11 => (InR (v4 + 1) ∧ L_X0_sail_13 h11 v1 v2 v3 (v4 + 1) Q))))))))
set_option maxRecDepth 100000 in
set_option maxHeartbeats 4000000 in
theorem j_X0_sail_51 {h : Mem} {v1 : Nat} {v2 : Int} {v3 : Int} {v4 : Int} {Q : Mem → Prop} (hv1 : lay v1 = (0, 4)) (hF : J_X0_sail_51 h v1 v2 v3 v4 Q) : AW M_X0_sail 51 [(0, vr 42), (1, vr v1), (2, (0, v2)), (3, (0, v3)), (4, (0, v4))] [] h (qv Q) := by
  unfold J_X0_sail_51 at hF
  refine aw_aload_n (j := 0) (M := M_X0_sail) (pc := 51) dX0_sail_51 rfl rfl ?_
  refine gf_X0_113 (M := M_X0_sail) (pc := 52) rfl dX0_sail_52 rfl ?_
  refine aw_iconst (M := M_X0_sail) (pc := 55) dX0_sail_55 ⟨by decide, by decide⟩ ?_
  refine aw_icmp_eq (tgt := 73) (M := M_X0_sail) (pc := 56) dX0_sail_56 rfl (fun hc => ?_) (fun hc => ?_)
  · have hF := hF.1 hc
    refine aw_aload_n (j := 1) (M := M_X0_sail) (pc := 73) dX0_sail_73 rfl rfl ?_
    refine aw_cvi (as := []) (st := []) (M := M_X0_sail) (pc := 74) (f_X4_passHour hv1 hF) dX0_sail_74 rfl (Or.inl ⟨_, _, _, hv1, rfl⟩) cy_X4_passHour ml_X0_44 (by decide) (by decide) (Nat.le_of_ble_eq_true rfl) (fun r5 h4 hF => ?_)
    refine aw_pop (M := M_X0_sail) (pc := 77) dX0_sail_77 rfl ?_
    obtain ⟨o6, hF⟩ := hF
    refine aw_iinc (j := 4) (x := v4) (r := v4 + 1) (ls' := [(4, (0, v4 + 1)), (0, vr 42), (1, vr v1), (2, (0, v2)), (3, (0, v3))]) (M := M_X0_sail) (pc := 78) dX0_sail_78 rfl rfl o6 (by decide) rfl ?_
    refine aw_goto (tgt := 13) (M := M_X0_sail) (pc := 81) dX0_sail_81 rfl ?_
    exact aw_ls [1, 2, 3, 4, 0] rfl hF
  · have hF := hF.2 hc
    refine aw_aload_n (j := 1) (M := M_X0_sail) (pc := 59) dX0_sail_59 rfl rfl ?_
    refine gf_X0_37 (M := M_X0_sail) (pc := 60) rfl dX0_sail_60 hv1 ?_
    refine aw_iload_n (j := 3) (M := M_X0_sail) (pc := 63) dX0_sail_63 rfl rfl ?_
    refine aw_icmp_ne (tgt := 73) (M := M_X0_sail) (pc := 64) dX0_sail_64 rfl (fun hc => ?_) (fun hc => ?_)
    · have hF := hF.1 hc
      refine aw_aload_n (j := 1) (M := M_X0_sail) (pc := 73) dX0_sail_73 rfl rfl ?_
      refine aw_cvi (as := []) (st := []) (M := M_X0_sail) (pc := 74) (f_X4_passHour hv1 hF) dX0_sail_74 rfl (Or.inl ⟨_, _, _, hv1, rfl⟩) cy_X4_passHour ml_X0_44 (by decide) (by decide) (Nat.le_of_ble_eq_true rfl) (fun r8 h7 hF => ?_)
      refine aw_pop (M := M_X0_sail) (pc := 77) dX0_sail_77 rfl ?_
      obtain ⟨o9, hF⟩ := hF
      refine aw_iinc (j := 4) (x := v4) (r := v4 + 1) (ls' := [(4, (0, v4 + 1)), (0, vr 42), (1, vr v1), (2, (0, v2)), (3, (0, v3))]) (M := M_X0_sail) (pc := 78) dX0_sail_78 rfl rfl o9 (by decide) rfl ?_
      refine aw_goto (tgt := 13) (M := M_X0_sail) (pc := 81) dX0_sail_81 rfl ?_
      exact aw_ls [1, 2, 3, 4, 0] rfl hF
    · have hF := hF.2 hc
      refine aw_aload_n (j := 0) (M := M_X0_sail) (pc := 67) dX0_sail_67 rfl rfl ?_
      refine aw_iload (j := 4) (M := M_X0_sail) (pc := 68) dX0_sail_68  rfl ?_
      refine pf_X0_66 (M := M_X0_sail) (pc := 70) rfl dX0_sail_70 rfl ?_
      obtain ⟨h10, eh10⟩ : ∃ y : Mem, y = mset h 42 0 v4 := ⟨_, rfl⟩
      have hF := hF h10 eh10
      rw [← eh10]
      refine aw_aload_n (j := 1) (M := M_X0_sail) (pc := 73) dX0_sail_73 rfl rfl ?_
      refine aw_cvi (as := []) (st := []) (M := M_X0_sail) (pc := 74) (f_X4_passHour hv1 hF) dX0_sail_74 rfl (Or.inl ⟨_, _, _, hv1, rfl⟩) cy_X4_passHour ml_X0_44 (by decide) (by decide) (Nat.le_of_ble_eq_true rfl) (fun r12 h11 hF => ?_)
      refine aw_pop (M := M_X0_sail) (pc := 77) dX0_sail_77 rfl ?_
      obtain ⟨o13, hF⟩ := hF
      refine aw_iinc (j := 4) (x := v4) (r := v4 + 1) (ls' := [(4, (0, v4 + 1)), (0, vr 42), (1, vr v1), (2, (0, v2)), (3, (0, v3))]) (M := M_X0_sail) (pc := 78) dX0_sail_78 rfl rfl o13 (by decide) rfl ?_
      refine aw_goto (tgt := 13) (M := M_X0_sail) (pc := 81) dX0_sail_81 rfl ?_
      exact aw_ls [1, 2, 3, 4, 0] rfl hF
def B_X0_sail_13 (h : Mem) (v1 : Nat) (v2 : Int) (v3 : Int) (v4 : Int) (Q : Mem → Prop) : Prop :=
  ((400 < v4 → Q h) ∧ (¬ (400 < v4) → ((¬ ((h 42 0) = (-1)) → Q h) ∧ ((h 42 0) = (-1) → ((¬ ((h 42 3) = (-1)) → J_X0_sail_51 h v1 v2 v3 v4 Q) ∧ ((h 42 3) = (-1) → ((¬ ((h v1 3) = v2) → J_X0_sail_51 h v1 v2 v3 v4 Q) ∧ ((h v1 3) = v2 → (∀ h3 : Mem, h3 = mset h 42 3 v4 → J_X0_sail_51 h3 v1 v2 v3 v4 Q)))))))))
set_option maxRecDepth 100000 in
set_option maxHeartbeats 4000000 in
theorem l_X0_sail_13 {h : Mem} {v1 : Nat} {v2 : Int} {v3 : Int} {v4 : Int} {Q : Mem → Prop} (hv1 : lay v1 = (0, 4)) (hF : B_X0_sail_13 h v1 v2 v3 v4 Q) : L_X0_sail_13 h v1 v2 v3 v4 Q := by
  unfold B_X0_sail_13 at hF
  show AW M_X0_sail 13 [(0, vr 42), (1, vr v1), (2, (0, v2)), (3, (0, v3)), (4, (0, v4))] [] h (qv Q)
  refine aw_iload (j := 4) (M := M_X0_sail) (pc := 13) dX0_sail_13  rfl ?_
  refine aw_sipush (M := M_X0_sail) (pc := 15) dX0_sail_15 ⟨rfl, ⟨by decide, by decide⟩⟩ ?_
  refine aw_icmp_gt (tgt := 84) (M := M_X0_sail) (pc := 18) dX0_sail_18 rfl (fun hc => ?_) (fun hc => ?_)
  · have hF := hF.1 hc
    exact aw_ret (M := M_X0_sail) (pc := 84) dX0_sail_84 rfl ⟨rfl, hF⟩
  · have hF := hF.2 hc
    refine aw_aload_n (j := 0) (M := M_X0_sail) (pc := 21) dX0_sail_21 rfl rfl ?_
    refine gf_X0_66 (M := M_X0_sail) (pc := 22) rfl dX0_sail_22 rfl ?_
    refine aw_iconst (M := M_X0_sail) (pc := 25) dX0_sail_25 ⟨by decide, by decide⟩ ?_
    refine aw_icmp_ne (tgt := 84) (M := M_X0_sail) (pc := 26) dX0_sail_26 rfl (fun hc => ?_) (fun hc => ?_)
    · have hF := hF.1 hc
      exact aw_ret (M := M_X0_sail) (pc := 84) dX0_sail_84 rfl ⟨rfl, hF⟩
    · have hF := hF.2 hc
      refine aw_aload_n (j := 0) (M := M_X0_sail) (pc := 29) dX0_sail_29 rfl rfl ?_
      refine gf_X0_113 (M := M_X0_sail) (pc := 30) rfl dX0_sail_30 rfl ?_
      refine aw_iconst (M := M_X0_sail) (pc := 33) dX0_sail_33 ⟨by decide, by decide⟩ ?_
      refine aw_icmp_ne (tgt := 51) (M := M_X0_sail) (pc := 34) dX0_sail_34 rfl (fun hc => ?_) (fun hc => ?_)
      · have hF := hF.1 hc
        exact aw_ls [0, 1, 2, 3, 4] rfl (j_X0_sail_51 hv1 hF)
      · have hF := hF.2 hc
        refine aw_aload_n (j := 1) (M := M_X0_sail) (pc := 37) dX0_sail_37 rfl rfl ?_
        refine gf_X0_37 (M := M_X0_sail) (pc := 38) rfl dX0_sail_38 hv1 ?_
        refine aw_iload_n (j := 2) (M := M_X0_sail) (pc := 41) dX0_sail_41 rfl rfl ?_
        refine aw_icmp_ne (tgt := 51) (M := M_X0_sail) (pc := 42) dX0_sail_42 rfl (fun hc => ?_) (fun hc => ?_)
        · have hF := hF.1 hc
          exact aw_ls [0, 1, 2, 3, 4] rfl (j_X0_sail_51 hv1 hF)
        · have hF := hF.2 hc
          refine aw_aload_n (j := 0) (M := M_X0_sail) (pc := 45) dX0_sail_45 rfl rfl ?_
          refine aw_iload (j := 4) (M := M_X0_sail) (pc := 46) dX0_sail_46  rfl ?_
          refine pf_X0_113 (M := M_X0_sail) (pc := 48) rfl dX0_sail_48 rfl ?_
          obtain ⟨h3, eh3⟩ : ∃ y : Mem, y = mset h 42 3 v4 := ⟨_, rfl⟩
          have hF := hF h3 eh3
          rw [← eh3]
          exact aw_ls [0, 1, 2, 3, 4] rfl (j_X0_sail_51 hv1 hF)
def F_X0_sail (h : Mem) (a1 : Nat) (a2 : Int) (a3 : Int) (Q : Mem → Prop) : Prop :=
  (∀ h1 : Mem, h1 = mset h 42 0 (-1) → (∀ h2 : Mem, h2 = mset h1 42 3 (-1) → L_X0_sail_13 h2 a1 a2 a3 0 Q))
set_option maxRecDepth 100000 in
set_option maxHeartbeats 4000000 in
theorem f_X0_sail {h : Mem} {a1 : Nat} {a2 : Int} {a3 : Int} {Q : Mem → Prop} (ha1 : lay a1 = (0, 4)) (hF : F_X0_sail h a1 a2 a3 Q) : Ct yX0_sail cX0_sail 5 none (4, 116) [vr 42, vr a1, (0, a2), (0, a3)] h (qv Q) := by
  refine Ct.of np_RX0 (Nat.le_of_ble_eq_true rfl) ?_
  unfold F_X0_sail at hF
  show AW M_X0_sail 0 [(0, vr 42), (1, vr a1), (2, (0, a2)), (3, (0, a3))] [] h (qv Q)
  refine aw_aload_n (j := 0) (M := M_X0_sail) (pc := 0) dX0_sail_0 rfl rfl ?_
  refine aw_iconst (M := M_X0_sail) (pc := 1) dX0_sail_1 ⟨by decide, by decide⟩ ?_
  refine pf_X0_66 (M := M_X0_sail) (pc := 2) rfl dX0_sail_2 rfl ?_
  obtain ⟨h1, eh1⟩ : ∃ y : Mem, y = mset h 42 0 (-1) := ⟨_, rfl⟩
  have hF := hF h1 eh1
  rw [← eh1]
  refine aw_aload_n (j := 0) (M := M_X0_sail) (pc := 5) dX0_sail_5 rfl rfl ?_
  refine aw_iconst (M := M_X0_sail) (pc := 6) dX0_sail_6 ⟨by decide, by decide⟩ ?_
  refine pf_X0_113 (M := M_X0_sail) (pc := 7) rfl dX0_sail_7 rfl ?_
  obtain ⟨h2, eh2⟩ : ∃ y : Mem, y = mset h1 42 3 (-1) := ⟨_, rfl⟩
  have hF := hF h2 eh2
  rw [← eh2]
  refine aw_iconst (M := M_X0_sail) (pc := 10) dX0_sail_10 ⟨by decide, by decide⟩ ?_
  refine aw_istore (ls' := [(4, (0, 0)), (0, vr 42), (1, vr a1), (2, (0, a2)), (3, (0, a3))]) (M := M_X0_sail) (pc := 11) dX0_sail_11  (by decide) rfl ?_
  exact aw_ls [1, 2, 3, 4, 0] rfl hF
abbrev M_X1_addEntry : Hd := (cX1_addEntry, 5, RX1, (some .int), (1, 45), sc0)
def F_X1_addEntry (h : Mem) (o : Nat) (a1 : Int) (a2 : Int) (a3 : Int) (a4 : Int) (Q : Int → Mem → Prop) : Prop :=
  (((h o 2) < 60 → ((0 ≤ (h o 2) ∧ (h o 2) < 60) ∧ (∀ h2 : Mem, h2 = mset h (o + 1) (h o 2).toNat a1 → ((0 ≤ (h2 o 2) ∧ (h2 o 2) < 60) ∧ (∀ h4 : Mem, h4 = mset h2 (o + 2) (h2 o 2).toNat a2 → ((0 ≤ (h4 o 2) ∧ (h4 o 2) < 60) ∧ (∀ h6 : Mem, h6 = mset h4 (o + 3) (h4 o 2).toNat a3 → ((0 ≤ (h6 o 2) ∧ (h6 o 2) < 60) ∧ (∀ h8 : Mem, h8 = mset h6 (o + 4) (h6 o 2).toNat a4 → ((0 ≤ (h8 o 2) ∧ (h8 o 2) < 60) ∧ (∀ h10 : Mem, h10 = mset h8 (o + 5) (h8 o 2).toNat (h8 o 2) → (InR ((h10 o 2) + 1) ∧ (∀ h12 : Mem, h12 = mset h10 o 2 ((h10 o 2) + 1) → (InR ((h12 o 2) - 1) ∧ Q ((h12 o 2) - 1) h12)))))))))))))) ∧ (¬ ((h o 2) < 60) → Q 59 h))
set_option maxRecDepth 100000 in
set_option maxHeartbeats 4000000 in
theorem f_X1_addEntry {h : Mem} {o : Nat} {a1 : Int} {a2 : Int} {a3 : Int} {a4 : Int} {Q : Int → Mem → Prop} (ho : lay o = (0, 1)) (hF : F_X1_addEntry h o a1 a2 a3 a4 Q) : Ct yX1_addEntry cX1_addEntry 5 (some .int) (1, 45) [vr o, (0, a1), (0, a2), (0, a3), (0, a4)] h (qi Q) := by
  refine Ct.of np_RX1 (Nat.le_of_ble_eq_true rfl) ?_
  unfold F_X1_addEntry at hF
  show AW M_X1_addEntry 0 [(0, vr o), (1, (0, a1)), (2, (0, a2)), (3, (0, a3)), (4, (0, a4))] [] h (qi Q)
  refine aw_aload_n (j := 0) (M := M_X1_addEntry) (pc := 0) dX1_addEntry_0 rfl rfl ?_
  refine gf_X1_17 (M := M_X1_addEntry) (pc := 1) rfl dX1_addEntry_1 ho ?_
  refine aw_bipush (M := M_X1_addEntry) (pc := 4) dX1_addEntry_4 ⟨rfl, ⟨by decide, by decide⟩⟩ ?_
  refine aw_icmp_lt (tgt := 12) (M := M_X1_addEntry) (pc := 6) dX1_addEntry_6 rfl (fun hc => ?_) (fun hc => ?_)
  · have hF := hF.1 hc
    refine aw_aload_n (j := 0) (M := M_X1_addEntry) (pc := 12) dX1_addEntry_12 rfl rfl ?_
    refine gf_X1_20 (M := M_X1_addEntry) (pc := 13) rfl dX1_addEntry_13 ho (r := o + 1) rfl ?_
    refine aw_aload_n (j := 0) (M := M_X1_addEntry) (pc := 16) dX1_addEntry_16 rfl rfl ?_
    refine gf_X1_17 (M := M_X1_addEntry) (pc := 17) rfl dX1_addEntry_17 ho ?_
    refine aw_iload_n (j := 1) (M := M_X1_addEntry) (pc := 20) dX1_addEntry_20 rfl rfl ?_
    obtain ⟨o1, hF⟩ := hF
    refine aw_iast (k := (h o 2).toNat) (M := M_X1_addEntry) (pc := 21) dX1_addEntry_21 (ll_1_3 ho) o1 rfl ?_
    obtain ⟨h2, eh2⟩ : ∃ y : Mem, y = mset h (o + 1) (h o 2).toNat a1 := ⟨_, rfl⟩
    have hF := hF h2 eh2
    rw [← eh2]
    refine aw_aload_n (j := 0) (M := M_X1_addEntry) (pc := 22) dX1_addEntry_22 rfl rfl ?_
    refine gf_X1_24 (M := M_X1_addEntry) (pc := 23) rfl dX1_addEntry_23 ho (r := o + 2) rfl ?_
    refine aw_aload_n (j := 0) (M := M_X1_addEntry) (pc := 26) dX1_addEntry_26 rfl rfl ?_
    refine gf_X1_17 (M := M_X1_addEntry) (pc := 27) rfl dX1_addEntry_27 ho ?_
    refine aw_iload_n (j := 2) (M := M_X1_addEntry) (pc := 30) dX1_addEntry_30 rfl rfl ?_
    obtain ⟨o3, hF⟩ := hF
    refine aw_iast (k := (h2 o 2).toNat) (M := M_X1_addEntry) (pc := 31) dX1_addEntry_31 (ll_1_4 ho) o3 rfl ?_
    obtain ⟨h4, eh4⟩ : ∃ y : Mem, y = mset h2 (o + 2) (h2 o 2).toNat a2 := ⟨_, rfl⟩
    have hF := hF h4 eh4
    rw [← eh4]
    refine aw_aload_n (j := 0) (M := M_X1_addEntry) (pc := 32) dX1_addEntry_32 rfl rfl ?_
    refine gf_X1_27 (M := M_X1_addEntry) (pc := 33) rfl dX1_addEntry_33 ho (r := o + 3) rfl ?_
    refine aw_aload_n (j := 0) (M := M_X1_addEntry) (pc := 36) dX1_addEntry_36 rfl rfl ?_
    refine gf_X1_17 (M := M_X1_addEntry) (pc := 37) rfl dX1_addEntry_37 ho ?_
    refine aw_iload_n (j := 3) (M := M_X1_addEntry) (pc := 40) dX1_addEntry_40 rfl rfl ?_
    obtain ⟨o5, hF⟩ := hF
    refine aw_iast (k := (h4 o 2).toNat) (M := M_X1_addEntry) (pc := 41) dX1_addEntry_41 (ll_1_5 ho) o5 rfl ?_
    obtain ⟨h6, eh6⟩ : ∃ y : Mem, y = mset h4 (o + 3) (h4 o 2).toNat a3 := ⟨_, rfl⟩
    have hF := hF h6 eh6
    rw [← eh6]
    refine aw_aload_n (j := 0) (M := M_X1_addEntry) (pc := 42) dX1_addEntry_42 rfl rfl ?_
    refine gf_X1_30 (M := M_X1_addEntry) (pc := 43) rfl dX1_addEntry_43 ho (r := o + 4) rfl ?_
    refine aw_aload_n (j := 0) (M := M_X1_addEntry) (pc := 46) dX1_addEntry_46 rfl rfl ?_
    refine gf_X1_17 (M := M_X1_addEntry) (pc := 47) rfl dX1_addEntry_47 ho ?_
    refine aw_iload (j := 4) (M := M_X1_addEntry) (pc := 50) dX1_addEntry_50  rfl ?_
    obtain ⟨o7, hF⟩ := hF
    refine aw_iast (k := (h6 o 2).toNat) (M := M_X1_addEntry) (pc := 52) dX1_addEntry_52 (ll_1_6 ho) o7 rfl ?_
    obtain ⟨h8, eh8⟩ : ∃ y : Mem, y = mset h6 (o + 4) (h6 o 2).toNat a4 := ⟨_, rfl⟩
    have hF := hF h8 eh8
    rw [← eh8]
    refine aw_aload_n (j := 0) (M := M_X1_addEntry) (pc := 53) dX1_addEntry_53 rfl rfl ?_
    refine gf_X1_33 (M := M_X1_addEntry) (pc := 54) rfl dX1_addEntry_54 ho (r := o + 5) rfl ?_
    refine aw_aload_n (j := 0) (M := M_X1_addEntry) (pc := 57) dX1_addEntry_57 rfl rfl ?_
    refine gf_X1_17 (M := M_X1_addEntry) (pc := 58) rfl dX1_addEntry_58 ho ?_
    refine aw_aload_n (j := 0) (M := M_X1_addEntry) (pc := 61) dX1_addEntry_61 rfl rfl ?_
    refine gf_X1_17 (M := M_X1_addEntry) (pc := 62) rfl dX1_addEntry_62 ho ?_
    obtain ⟨o9, hF⟩ := hF
    refine aw_iast (k := (h8 o 2).toNat) (M := M_X1_addEntry) (pc := 65) dX1_addEntry_65 (ll_1_7 ho) o9 rfl ?_
    obtain ⟨h10, eh10⟩ : ∃ y : Mem, y = mset h8 (o + 5) (h8 o 2).toNat (h8 o 2) := ⟨_, rfl⟩
    have hF := hF h10 eh10
    rw [← eh10]
    refine aw_aload_n (j := 0) (M := M_X1_addEntry) (pc := 66) dX1_addEntry_66 rfl rfl ?_
    refine aw_dup (M := M_X1_addEntry) (pc := 67) dX1_addEntry_67 rfl ?_
    refine gf_X1_17 (M := M_X1_addEntry) (pc := 68) rfl dX1_addEntry_68 ho ?_
    refine aw_iconst (M := M_X1_addEntry) (pc := 71) dX1_addEntry_71 ⟨by decide, by decide⟩ ?_
    obtain ⟨o11, hF⟩ := hF
    refine aw_iadd (M := M_X1_addEntry) (pc := 72) dX1_addEntry_72 rfl o11 ?_
    refine pf_X1_17 (M := M_X1_addEntry) (pc := 73) rfl dX1_addEntry_73 ho ?_
    obtain ⟨h12, eh12⟩ : ∃ y : Mem, y = mset h10 o 2 ((h10 o 2) + 1) := ⟨_, rfl⟩
    have hF := hF h12 eh12
    rw [← eh12]
    refine aw_aload_n (j := 0) (M := M_X1_addEntry) (pc := 76) dX1_addEntry_76 rfl rfl ?_
    refine gf_X1_17 (M := M_X1_addEntry) (pc := 77) rfl dX1_addEntry_77 ho ?_
    refine aw_iconst (M := M_X1_addEntry) (pc := 80) dX1_addEntry_80 ⟨by decide, by decide⟩ ?_
    obtain ⟨o13, hF⟩ := hF
    refine aw_isub (M := M_X1_addEntry) (pc := 81) dX1_addEntry_81 rfl o13 ?_
    exact aw_ireti (M := M_X1_addEntry) (pc := 82) dX1_addEntry_82 rfl ⟨_, rfl, hF⟩
  · have hF := hF.2 hc
    refine aw_bipush (M := M_X1_addEntry) (pc := 9) dX1_addEntry_9 ⟨rfl, ⟨by decide, by decide⟩⟩ ?_
    exact aw_ireti (M := M_X1_addEntry) (pc := 11) dX1_addEntry_11 rfl ⟨_, rfl, hF⟩
abbrev M_X1_clear : Hd := (cX1_clear, 1, RX1, none, (1, 45), sc0)
def F_X1_clear (h : Mem) (o : Nat) (Q : Mem → Prop) : Prop :=
  (∀ h1 : Mem, h1 = mset h o 0 0 → (∀ h2 : Mem, h2 = mset h1 o 1 0 → (∀ h3 : Mem, h3 = mset h2 o 2 0 → Q h3)))
set_option maxRecDepth 100000 in
set_option maxHeartbeats 4000000 in
theorem f_X1_clear {h : Mem} {o : Nat} {Q : Mem → Prop} (ho : lay o = (0, 1)) (hF : F_X1_clear h o Q) : Ct yX1_clear cX1_clear 1 none (1, 45) [vr o] h (qv Q) := by
  refine Ct.of np_RX1 (Nat.le_of_ble_eq_true rfl) ?_
  unfold F_X1_clear at hF
  show AW M_X1_clear 0 [(0, vr o)] [] h (qv Q)
  refine aw_aload_n (j := 0) (M := M_X1_clear) (pc := 0) dX1_clear_0 rfl rfl ?_
  refine aw_iconst (M := M_X1_clear) (pc := 1) dX1_clear_1 ⟨by decide, by decide⟩ ?_
  refine pf_X1_7 (M := M_X1_clear) (pc := 2) rfl dX1_clear_2 ho (Or.inl rfl) ?_
  obtain ⟨h1, eh1⟩ : ∃ y : Mem, y = mset h o 0 0 := ⟨_, rfl⟩
  have hF := hF h1 eh1
  rw [← eh1]
  refine aw_aload_n (j := 0) (M := M_X1_clear) (pc := 5) dX1_clear_5 rfl rfl ?_
  refine aw_iconst (M := M_X1_clear) (pc := 6) dX1_clear_6 ⟨by decide, by decide⟩ ?_
  refine pf_X1_13 (M := M_X1_clear) (pc := 7) rfl dX1_clear_7 ho ?_
  obtain ⟨h2, eh2⟩ : ∃ y : Mem, y = mset h1 o 1 0 := ⟨_, rfl⟩
  have hF := hF h2 eh2
  rw [← eh2]
  refine aw_aload_n (j := 0) (M := M_X1_clear) (pc := 10) dX1_clear_10 rfl rfl ?_
  refine aw_iconst (M := M_X1_clear) (pc := 11) dX1_clear_11 ⟨by decide, by decide⟩ ?_
  refine pf_X1_17 (M := M_X1_clear) (pc := 12) rfl dX1_clear_12 ho ?_
  obtain ⟨h3, eh3⟩ : ∃ y : Mem, y = mset h2 o 2 0 := ⟨_, rfl⟩
  have hF := hF h3 eh3
  rw [← eh3]
  exact aw_ret (M := M_X1_clear) (pc := 15) dX1_clear_15 rfl ⟨rfl, hF⟩
abbrev M_X1_copyFrom : Hd := (cX1_copyFrom, 2, RX1, none, (1, 45), sc0)
def F_X1_copyFrom (h : Mem) (o : Nat) (a1 : Nat) (Q : Mem → Prop) : Prop :=
  (InZ (h a1 0) ∧ (∀ h2 : Mem, h2 = mset h o 0 (h a1 0) → (∀ h3 : Mem, h3 = mset h2 o 1 (h2 a1 1) → (∀ h4 : Mem, h4 = mset h3 o 2 (h3 a1 2) → (((0 : Int) ≤ 0 ∧ (0 : Int) ≤ 0 ∧ (0 : Int) ≤ (h4 o 2) ∧ 0 + (h4 o 2) ≤ 60 ∧ 0 + (h4 o 2) ≤ 60) ∧ (∀ h5 : Mem, h5 = mcpy h4 (a1 + 1) 0 (o + 1) 0 (h4 o 2).toNat → (((0 : Int) ≤ 0 ∧ (0 : Int) ≤ 0 ∧ (0 : Int) ≤ (h5 o 2) ∧ 0 + (h5 o 2) ≤ 60 ∧ 0 + (h5 o 2) ≤ 60) ∧ (∀ h7 : Mem, h7 = mcpy h5 (a1 + 2) 0 (o + 2) 0 (h5 o 2).toNat → (((0 : Int) ≤ 0 ∧ (0 : Int) ≤ 0 ∧ (0 : Int) ≤ (h7 o 2) ∧ 0 + (h7 o 2) ≤ 60 ∧ 0 + (h7 o 2) ≤ 60) ∧ (∀ h9 : Mem, h9 = mcpy h7 (a1 + 3) 0 (o + 3) 0 (h7 o 2).toNat → (((0 : Int) ≤ 0 ∧ (0 : Int) ≤ 0 ∧ (0 : Int) ≤ (h9 o 2) ∧ 0 + (h9 o 2) ≤ 60 ∧ 0 + (h9 o 2) ≤ 60) ∧ (∀ h11 : Mem, h11 = mcpy h9 (a1 + 4) 0 (o + 4) 0 (h9 o 2).toNat → (((0 : Int) ≤ 0 ∧ (0 : Int) ≤ 0 ∧ (0 : Int) ≤ (h11 o 2) ∧ 0 + (h11 o 2) ≤ 60 ∧ 0 + (h11 o 2) ≤ 60) ∧ (∀ h13 : Mem, h13 = mcpy h11 (a1 + 5) 0 (o + 5) 0 (h11 o 2).toNat → Q h13))))))))))))))
set_option maxRecDepth 100000 in
set_option maxHeartbeats 4000000 in
theorem f_X1_copyFrom {h : Mem} {o : Nat} {a1 : Nat} {Q : Mem → Prop} (ho : lay o = (0, 1)) (ha1 : lay a1 = (0, 1)) (hF : F_X1_copyFrom h o a1 Q) : Ct yX1_copyFrom cX1_copyFrom 2 none (1, 45) [vr o, vr a1] h (qv Q) := by
  refine Ct.of np_RX1 (Nat.le_of_ble_eq_true rfl) ?_
  unfold F_X1_copyFrom at hF
  show AW M_X1_copyFrom 0 [(0, vr o), (1, vr a1)] [] h (qv Q)
  refine aw_aload_n (j := 0) (M := M_X1_copyFrom) (pc := 0) dX1_copyFrom_0 rfl rfl ?_
  refine aw_aload_n (j := 1) (M := M_X1_copyFrom) (pc := 1) dX1_copyFrom_1 rfl rfl ?_
  refine gf_X1_7 (M := M_X1_copyFrom) (pc := 2) rfl dX1_copyFrom_2 ha1 ?_
  obtain ⟨o1, hF⟩ := hF
  refine pf_X1_7 (M := M_X1_copyFrom) (pc := 5) rfl dX1_copyFrom_5 ho o1 ?_
  obtain ⟨h2, eh2⟩ : ∃ y : Mem, y = mset h o 0 (h a1 0) := ⟨_, rfl⟩
  have hF := hF h2 eh2
  rw [← eh2]
  refine aw_aload_n (j := 0) (M := M_X1_copyFrom) (pc := 8) dX1_copyFrom_8 rfl rfl ?_
  refine aw_aload_n (j := 1) (M := M_X1_copyFrom) (pc := 9) dX1_copyFrom_9 rfl rfl ?_
  refine gf_X1_13 (M := M_X1_copyFrom) (pc := 10) rfl dX1_copyFrom_10 ha1 ?_
  refine pf_X1_13 (M := M_X1_copyFrom) (pc := 13) rfl dX1_copyFrom_13 ho ?_
  obtain ⟨h3, eh3⟩ : ∃ y : Mem, y = mset h2 o 1 (h2 a1 1) := ⟨_, rfl⟩
  have hF := hF h3 eh3
  rw [← eh3]
  refine aw_aload_n (j := 0) (M := M_X1_copyFrom) (pc := 16) dX1_copyFrom_16 rfl rfl ?_
  refine aw_aload_n (j := 1) (M := M_X1_copyFrom) (pc := 17) dX1_copyFrom_17 rfl rfl ?_
  refine gf_X1_17 (M := M_X1_copyFrom) (pc := 18) rfl dX1_copyFrom_18 ha1 ?_
  refine pf_X1_17 (M := M_X1_copyFrom) (pc := 21) rfl dX1_copyFrom_21 ho ?_
  obtain ⟨h4, eh4⟩ : ∃ y : Mem, y = mset h3 o 2 (h3 a1 2) := ⟨_, rfl⟩
  have hF := hF h4 eh4
  rw [← eh4]
  refine aw_aload_n (j := 1) (M := M_X1_copyFrom) (pc := 24) dX1_copyFrom_24 rfl rfl ?_
  refine gf_X1_20 (M := M_X1_copyFrom) (pc := 25) rfl dX1_copyFrom_25 ha1 (r := a1 + 1) rfl ?_
  refine aw_iconst (M := M_X1_copyFrom) (pc := 28) dX1_copyFrom_28 ⟨by decide, by decide⟩ ?_
  refine aw_aload_n (j := 0) (M := M_X1_copyFrom) (pc := 29) dX1_copyFrom_29 rfl rfl ?_
  refine gf_X1_20 (M := M_X1_copyFrom) (pc := 30) rfl dX1_copyFrom_30 ho (r := o + 1) rfl ?_
  refine aw_iconst (M := M_X1_copyFrom) (pc := 33) dX1_copyFrom_33 ⟨by decide, by decide⟩ ?_
  refine aw_aload_n (j := 0) (M := M_X1_copyFrom) (pc := 34) dX1_copyFrom_34 rfl rfl ?_
  refine gf_X1_17 (M := M_X1_copyFrom) (pc := 35) rfl dX1_copyFrom_35 ho ?_
  obtain ⟨o6, hF⟩ := hF
  refine aw_copyi (M := M_X1_copyFrom) (pc := 38) dX1_copyFrom_38 ml_X1_36 (ll_1_3 ha1) (ll_1_3 ho) o6 (by decide) (Nat.le_of_ble_eq_true rfl) (k1 := 0) (k2 := 0) (k3 := (h4 o 2).toNat) ⟨rfl, rfl, rfl⟩ ?_
  obtain ⟨h5, eh5⟩ : ∃ y : Mem, y = mcpy h4 (a1 + 1) 0 (o + 1) 0 (h4 o 2).toNat := ⟨_, rfl⟩
  have hF := hF h5 eh5
  rw [← eh5]
  refine aw_aload_n (j := 1) (M := M_X1_copyFrom) (pc := 41) dX1_copyFrom_41 rfl rfl ?_
  refine gf_X1_24 (M := M_X1_copyFrom) (pc := 42) rfl dX1_copyFrom_42 ha1 (r := a1 + 2) rfl ?_
  refine aw_iconst (M := M_X1_copyFrom) (pc := 45) dX1_copyFrom_45 ⟨by decide, by decide⟩ ?_
  refine aw_aload_n (j := 0) (M := M_X1_copyFrom) (pc := 46) dX1_copyFrom_46 rfl rfl ?_
  refine gf_X1_24 (M := M_X1_copyFrom) (pc := 47) rfl dX1_copyFrom_47 ho (r := o + 2) rfl ?_
  refine aw_iconst (M := M_X1_copyFrom) (pc := 50) dX1_copyFrom_50 ⟨by decide, by decide⟩ ?_
  refine aw_aload_n (j := 0) (M := M_X1_copyFrom) (pc := 51) dX1_copyFrom_51 rfl rfl ?_
  refine gf_X1_17 (M := M_X1_copyFrom) (pc := 52) rfl dX1_copyFrom_52 ho ?_
  obtain ⟨o8, hF⟩ := hF
  refine aw_copyi (M := M_X1_copyFrom) (pc := 55) dX1_copyFrom_55 ml_X1_36 (ll_1_4 ha1) (ll_1_4 ho) o8 (by decide) (Nat.le_of_ble_eq_true rfl) (k1 := 0) (k2 := 0) (k3 := (h5 o 2).toNat) ⟨rfl, rfl, rfl⟩ ?_
  obtain ⟨h7, eh7⟩ : ∃ y : Mem, y = mcpy h5 (a1 + 2) 0 (o + 2) 0 (h5 o 2).toNat := ⟨_, rfl⟩
  have hF := hF h7 eh7
  rw [← eh7]
  refine aw_aload_n (j := 1) (M := M_X1_copyFrom) (pc := 58) dX1_copyFrom_58 rfl rfl ?_
  refine gf_X1_27 (M := M_X1_copyFrom) (pc := 59) rfl dX1_copyFrom_59 ha1 (r := a1 + 3) rfl ?_
  refine aw_iconst (M := M_X1_copyFrom) (pc := 62) dX1_copyFrom_62 ⟨by decide, by decide⟩ ?_
  refine aw_aload_n (j := 0) (M := M_X1_copyFrom) (pc := 63) dX1_copyFrom_63 rfl rfl ?_
  refine gf_X1_27 (M := M_X1_copyFrom) (pc := 64) rfl dX1_copyFrom_64 ho (r := o + 3) rfl ?_
  refine aw_iconst (M := M_X1_copyFrom) (pc := 67) dX1_copyFrom_67 ⟨by decide, by decide⟩ ?_
  refine aw_aload_n (j := 0) (M := M_X1_copyFrom) (pc := 68) dX1_copyFrom_68 rfl rfl ?_
  refine gf_X1_17 (M := M_X1_copyFrom) (pc := 69) rfl dX1_copyFrom_69 ho ?_
  obtain ⟨o10, hF⟩ := hF
  refine aw_copyi (M := M_X1_copyFrom) (pc := 72) dX1_copyFrom_72 ml_X1_36 (ll_1_5 ha1) (ll_1_5 ho) o10 (by decide) (Nat.le_of_ble_eq_true rfl) (k1 := 0) (k2 := 0) (k3 := (h7 o 2).toNat) ⟨rfl, rfl, rfl⟩ ?_
  obtain ⟨h9, eh9⟩ : ∃ y : Mem, y = mcpy h7 (a1 + 3) 0 (o + 3) 0 (h7 o 2).toNat := ⟨_, rfl⟩
  have hF := hF h9 eh9
  rw [← eh9]
  refine aw_aload_n (j := 1) (M := M_X1_copyFrom) (pc := 75) dX1_copyFrom_75 rfl rfl ?_
  refine gf_X1_30 (M := M_X1_copyFrom) (pc := 76) rfl dX1_copyFrom_76 ha1 (r := a1 + 4) rfl ?_
  refine aw_iconst (M := M_X1_copyFrom) (pc := 79) dX1_copyFrom_79 ⟨by decide, by decide⟩ ?_
  refine aw_aload_n (j := 0) (M := M_X1_copyFrom) (pc := 80) dX1_copyFrom_80 rfl rfl ?_
  refine gf_X1_30 (M := M_X1_copyFrom) (pc := 81) rfl dX1_copyFrom_81 ho (r := o + 4) rfl ?_
  refine aw_iconst (M := M_X1_copyFrom) (pc := 84) dX1_copyFrom_84 ⟨by decide, by decide⟩ ?_
  refine aw_aload_n (j := 0) (M := M_X1_copyFrom) (pc := 85) dX1_copyFrom_85 rfl rfl ?_
  refine gf_X1_17 (M := M_X1_copyFrom) (pc := 86) rfl dX1_copyFrom_86 ho ?_
  obtain ⟨o12, hF⟩ := hF
  refine aw_copyi (M := M_X1_copyFrom) (pc := 89) dX1_copyFrom_89 ml_X1_36 (ll_1_6 ha1) (ll_1_6 ho) o12 (by decide) (Nat.le_of_ble_eq_true rfl) (k1 := 0) (k2 := 0) (k3 := (h9 o 2).toNat) ⟨rfl, rfl, rfl⟩ ?_
  obtain ⟨h11, eh11⟩ : ∃ y : Mem, y = mcpy h9 (a1 + 4) 0 (o + 4) 0 (h9 o 2).toNat := ⟨_, rfl⟩
  have hF := hF h11 eh11
  rw [← eh11]
  refine aw_aload_n (j := 1) (M := M_X1_copyFrom) (pc := 92) dX1_copyFrom_92 rfl rfl ?_
  refine gf_X1_33 (M := M_X1_copyFrom) (pc := 93) rfl dX1_copyFrom_93 ha1 (r := a1 + 5) rfl ?_
  refine aw_iconst (M := M_X1_copyFrom) (pc := 96) dX1_copyFrom_96 ⟨by decide, by decide⟩ ?_
  refine aw_aload_n (j := 0) (M := M_X1_copyFrom) (pc := 97) dX1_copyFrom_97 rfl rfl ?_
  refine gf_X1_33 (M := M_X1_copyFrom) (pc := 98) rfl dX1_copyFrom_98 ho (r := o + 5) rfl ?_
  refine aw_iconst (M := M_X1_copyFrom) (pc := 101) dX1_copyFrom_101 ⟨by decide, by decide⟩ ?_
  refine aw_aload_n (j := 0) (M := M_X1_copyFrom) (pc := 102) dX1_copyFrom_102 rfl rfl ?_
  refine gf_X1_17 (M := M_X1_copyFrom) (pc := 103) rfl dX1_copyFrom_103 ho ?_
  obtain ⟨o14, hF⟩ := hF
  refine aw_copyi (M := M_X1_copyFrom) (pc := 106) dX1_copyFrom_106 ml_X1_36 (ll_1_7 ha1) (ll_1_7 ho) o14 (by decide) (Nat.le_of_ble_eq_true rfl) (k1 := 0) (k2 := 0) (k3 := (h11 o 2).toNat) ⟨rfl, rfl, rfl⟩ ?_
  obtain ⟨h13, eh13⟩ : ∃ y : Mem, y = mcpy h11 (a1 + 5) 0 (o + 5) 0 (h11 o 2).toNat := ⟨_, rfl⟩
  have hF := hF h13 eh13
  rw [← eh13]
  exact aw_ret (M := M_X1_copyFrom) (pc := 109) dX1_copyFrom_109 rfl ⟨rfl, hF⟩
abbrev M_X1_drawsLots : Hd := (cX1_drawsLots, 2, RX1, (some .boolean), (1, 45), sc0)
def L_X1_drawsLots_2 (h : Mem) (v0 : Nat) (v1 : Int) (Q : Int → Mem → Prop) : Prop := AW M_X1_drawsLots 2 [(0, vr v0), (1, (0, v1))] [] h (qi Q)
def B_X1_drawsLots_2 (h : Mem) (v0 : Nat) (v1 : Int) (Q : Int → Mem → Prop) : Prop :=
  (((h v0 2) ≤ v1 → Q 0 h) ∧ (¬ ((h v0 2) ≤ v1) → ((0 ≤ v1 ∧ v1 < 60) ∧ ((¬ ((h (v0 + 1) (v1).toNat) = 3) → (InR (v1 + 1) ∧ L_X1_drawsLots_2 h v0 (v1 + 1) Q)) ∧ ((h (v0 + 1) (v1).toNat) = 3 → Q 1 h)))))
set_option maxRecDepth 100000 in
set_option maxHeartbeats 4000000 in
theorem l_X1_drawsLots_2 {h : Mem} {v0 : Nat} {v1 : Int} {Q : Int → Mem → Prop} (hv0 : lay v0 = (0, 1)) (hF : B_X1_drawsLots_2 h v0 v1 Q) : L_X1_drawsLots_2 h v0 v1 Q := by
  unfold B_X1_drawsLots_2 at hF
  show AW M_X1_drawsLots 2 [(0, vr v0), (1, (0, v1))] [] h (qi Q)
  refine aw_iload_n (j := 1) (M := M_X1_drawsLots) (pc := 2) dX1_drawsLots_2 rfl rfl ?_
  refine aw_aload_n (j := 0) (M := M_X1_drawsLots) (pc := 3) dX1_drawsLots_3 rfl rfl ?_
  refine gf_X1_17 (M := M_X1_drawsLots) (pc := 4) rfl dX1_drawsLots_4 hv0 ?_
  refine aw_icmp_ge (tgt := 28) (M := M_X1_drawsLots) (pc := 7) dX1_drawsLots_7 rfl (fun hc => ?_) (fun hc => ?_)
  · have hF := hF.1 hc
    refine aw_iconst (M := M_X1_drawsLots) (pc := 28) dX1_drawsLots_28 ⟨by decide, by decide⟩ ?_
    exact aw_iretz (M := M_X1_drawsLots) (pc := 29) dX1_drawsLots_29 rfl (Or.inl rfl) ⟨_, rfl, hF⟩
  · have hF := hF.2 hc
    refine aw_aload_n (j := 0) (M := M_X1_drawsLots) (pc := 10) dX1_drawsLots_10 rfl rfl ?_
    refine gf_X1_20 (M := M_X1_drawsLots) (pc := 11) rfl dX1_drawsLots_11 hv0 (r := v0 + 1) rfl ?_
    refine aw_iload_n (j := 1) (M := M_X1_drawsLots) (pc := 14) dX1_drawsLots_14 rfl rfl ?_
    obtain ⟨o2, hF⟩ := hF
    refine aw_iald (k := (v1).toNat) (M := M_X1_drawsLots) (pc := 15) dX1_drawsLots_15 (ll_1_3 hv0) o2 rfl ?_
    refine aw_iconst (M := M_X1_drawsLots) (pc := 16) dX1_drawsLots_16 ⟨by decide, by decide⟩ ?_
    refine aw_icmp_ne (tgt := 22) (M := M_X1_drawsLots) (pc := 17) dX1_drawsLots_17 rfl (fun hc => ?_) (fun hc => ?_)
    · have hF := hF.1 hc
      obtain ⟨o3, hF⟩ := hF
      refine aw_iinc (j := 1) (x := v1) (r := v1 + 1) (ls' := [(1, (0, v1 + 1)), (0, vr v0)]) (M := M_X1_drawsLots) (pc := 22) dX1_drawsLots_22 rfl rfl o3 (by decide) rfl ?_
      refine aw_goto (tgt := 2) (M := M_X1_drawsLots) (pc := 25) dX1_drawsLots_25 rfl ?_
      exact aw_ls [1, 0] rfl hF
    · have hF := hF.2 hc
      refine aw_iconst (M := M_X1_drawsLots) (pc := 20) dX1_drawsLots_20 ⟨by decide, by decide⟩ ?_
      exact aw_iretz (M := M_X1_drawsLots) (pc := 21) dX1_drawsLots_21 rfl (Or.inr rfl) ⟨_, rfl, hF⟩
def F_X1_drawsLots (h : Mem) (o : Nat) (Q : Int → Mem → Prop) : Prop :=
  L_X1_drawsLots_2 h o 0 Q
set_option maxRecDepth 100000 in
set_option maxHeartbeats 4000000 in
theorem f_X1_drawsLots {h : Mem} {o : Nat} {Q : Int → Mem → Prop} (ho : lay o = (0, 1)) (hF : F_X1_drawsLots h o Q) : Ct yX1_drawsLots cX1_drawsLots 2 (some .boolean) (1, 45) [vr o] h (qi Q) := by
  refine Ct.of np_RX1 (Nat.le_of_ble_eq_true rfl) ?_
  unfold F_X1_drawsLots at hF
  show AW M_X1_drawsLots 0 [(0, vr o)] [] h (qi Q)
  refine aw_iconst (M := M_X1_drawsLots) (pc := 0) dX1_drawsLots_0 ⟨by decide, by decide⟩ ?_
  refine aw_istore_n (ls' := [(1, (0, 0)), (0, vr o)]) (M := M_X1_drawsLots) (pc := 1) dX1_drawsLots_1 rfl (by decide) rfl ?_
  exact aw_ls [1, 0] rfl hF
abbrev M_X1_pair : Hd := (cX1_pair, 3, RX1, none, (1, 45), sc0)
def F_X1_pair (h : Mem) (o : Nat) (a1 : Int) (a2 : Int) (Q : Mem → Prop) : Prop :=
  ((0 ≤ a1 ∧ a1 < 60) ∧ (∀ h2 : Mem, h2 = mset h (o + 5) (a1).toNat a2 → ((0 ≤ a2 ∧ a2 < 60) ∧ (∀ h4 : Mem, h4 = mset h2 (o + 5) (a2).toNat a1 → Q h4))))
set_option maxRecDepth 100000 in
set_option maxHeartbeats 4000000 in
theorem f_X1_pair {h : Mem} {o : Nat} {a1 : Int} {a2 : Int} {Q : Mem → Prop} (ho : lay o = (0, 1)) (hF : F_X1_pair h o a1 a2 Q) : Ct yX1_pair cX1_pair 3 none (1, 45) [vr o, (0, a1), (0, a2)] h (qv Q) := by
  refine Ct.of np_RX1 (Nat.le_of_ble_eq_true rfl) ?_
  unfold F_X1_pair at hF
  show AW M_X1_pair 0 [(0, vr o), (1, (0, a1)), (2, (0, a2))] [] h (qv Q)
  refine aw_aload_n (j := 0) (M := M_X1_pair) (pc := 0) dX1_pair_0 rfl rfl ?_
  refine gf_X1_33 (M := M_X1_pair) (pc := 1) rfl dX1_pair_1 ho (r := o + 5) rfl ?_
  refine aw_iload_n (j := 1) (M := M_X1_pair) (pc := 4) dX1_pair_4 rfl rfl ?_
  refine aw_iload_n (j := 2) (M := M_X1_pair) (pc := 5) dX1_pair_5 rfl rfl ?_
  obtain ⟨o1, hF⟩ := hF
  refine aw_iast (k := (a1).toNat) (M := M_X1_pair) (pc := 6) dX1_pair_6 (ll_1_7 ho) o1 rfl ?_
  obtain ⟨h2, eh2⟩ : ∃ y : Mem, y = mset h (o + 5) (a1).toNat a2 := ⟨_, rfl⟩
  have hF := hF h2 eh2
  rw [← eh2]
  refine aw_aload_n (j := 0) (M := M_X1_pair) (pc := 7) dX1_pair_7 rfl rfl ?_
  refine gf_X1_33 (M := M_X1_pair) (pc := 8) rfl dX1_pair_8 ho (r := o + 5) rfl ?_
  refine aw_iload_n (j := 2) (M := M_X1_pair) (pc := 11) dX1_pair_11 rfl rfl ?_
  refine aw_iload_n (j := 1) (M := M_X1_pair) (pc := 12) dX1_pair_12 rfl rfl ?_
  obtain ⟨o3, hF⟩ := hF
  refine aw_iast (k := (a2).toNat) (M := M_X1_pair) (pc := 13) dX1_pair_13 (ll_1_7 ho) o3 rfl ?_
  obtain ⟨h4, eh4⟩ : ∃ y : Mem, y = mset h2 (o + 5) (a2).toNat a1 := ⟨_, rfl⟩
  have hF := hF h4 eh4
  rw [← eh4]
  exact aw_ret (M := M_X1_pair) (pc := 14) dX1_pair_14 rfl ⟨rfl, hF⟩
abbrev M_X2_opens : Hd := (cX2_opens, 1, RX2, (some .boolean), (1, 45), sc0)
def F_X2_opens (h : Mem) (a1 : Int) (Q : Int → Mem → Prop) : Prop :=
  ((a1 = 18 → Q 1 h) ∧ (¬ (a1 = 18) → ((¬ (a1 = 21) → Q 0 h) ∧ (a1 = 21 → Q 1 h))))
set_option maxRecDepth 100000 in
set_option maxHeartbeats 4000000 in
theorem f_X2_opens {h : Mem} {a1 : Int} {Q : Int → Mem → Prop}  (hF : F_X2_opens h a1 Q) : Ct yX2_opens cX2_opens 1 (some .boolean) (1, 45) [(0, a1)] h (qi Q) := by
  refine Ct.of np_RX2 (Nat.le_of_ble_eq_true rfl) ?_
  unfold F_X2_opens at hF
  show AW M_X2_opens 0 [(0, (0, a1))] [] h (qi Q)
  refine aw_iload_n (j := 0) (M := M_X2_opens) (pc := 0) dX2_opens_0 rfl rfl ?_
  refine aw_bipush (M := M_X2_opens) (pc := 1) dX2_opens_1 ⟨rfl, ⟨by decide, by decide⟩⟩ ?_
  refine aw_icmp_eq (tgt := 12) (M := M_X2_opens) (pc := 3) dX2_opens_3 rfl (fun hc => ?_) (fun hc => ?_)
  · have hF := hF.1 hc
    refine aw_iconst (M := M_X2_opens) (pc := 12) dX2_opens_12 ⟨by decide, by decide⟩ ?_
    refine aw_goto (tgt := 17) (M := M_X2_opens) (pc := 13) dX2_opens_13 rfl ?_
    exact aw_iretz (M := M_X2_opens) (pc := 17) dX2_opens_17 rfl (Or.inr rfl) ⟨_, rfl, hF⟩
  · have hF := hF.2 hc
    refine aw_iload_n (j := 0) (M := M_X2_opens) (pc := 6) dX2_opens_6 rfl rfl ?_
    refine aw_bipush (M := M_X2_opens) (pc := 7) dX2_opens_7 ⟨rfl, ⟨by decide, by decide⟩⟩ ?_
    refine aw_icmp_ne (tgt := 16) (M := M_X2_opens) (pc := 9) dX2_opens_9 rfl (fun hc => ?_) (fun hc => ?_)
    · have hF := hF.1 hc
      refine aw_iconst (M := M_X2_opens) (pc := 16) dX2_opens_16 ⟨by decide, by decide⟩ ?_
      exact aw_iretz (M := M_X2_opens) (pc := 17) dX2_opens_17 rfl (Or.inl rfl) ⟨_, rfl, hF⟩
    · have hF := hF.2 hc
      refine aw_iconst (M := M_X2_opens) (pc := 12) dX2_opens_12 ⟨by decide, by decide⟩ ?_
      refine aw_goto (tgt := 17) (M := M_X2_opens) (pc := 13) dX2_opens_13 rfl ?_
      exact aw_iretz (M := M_X2_opens) (pc := 17) dX2_opens_17 rfl (Or.inr rfl) ⟨_, rfl, hF⟩
abbrev M_X2_addStep : Hd := (cX2_addStep, 3, RX2, none, (2, 65), sc0)
def F_X2_addStep (h : Mem) (a1 : Int) (a2 : Int) (Q : Mem → Prop) : Prop :=
  (InR ((h 35 1) + 1) ∧ (∀ h2 : Mem, h2 = mset h 35 1 ((h 35 1) + 1) → (F_X2_opens h2 a1 (fun r4 h3 => ((r4 = 0 → Q h3) ∧ (¬ (r4 = 0) → ((3 ≤ (h3 34 4) → Q h3) ∧ (¬ (3 ≤ (h3 34 4)) → ((0 ≤ (h3 34 4) ∧ (h3 34 4) < 3) ∧ (∀ h6 : Mem, h6 = mset h3 41 (h3 34 4).toNat a2 → (InR ((h6 34 4) + 1) ∧ (∀ h8 : Mem, h8 = mset h6 34 4 ((h6 34 4) + 1) → Q h8))))))))))))
set_option maxRecDepth 100000 in
set_option maxHeartbeats 4000000 in
theorem f_X2_addStep {h : Mem} {a1 : Int} {a2 : Int} {Q : Mem → Prop}  (hF : F_X2_addStep h a1 a2 Q) : Ct yX2_addStep cX2_addStep 3 none (2, 65) [vr 34, (0, a1), (0, a2)] h (qv Q) := by
  refine Ct.of np_RX2 (Nat.le_of_ble_eq_true rfl) ?_
  unfold F_X2_addStep at hF
  show AW M_X2_addStep 0 [(0, vr 34), (1, (0, a1)), (2, (0, a2))] [] h (qv Q)
  refine aw_aload_n (j := 0) (M := M_X2_addStep) (pc := 0) dX2_addStep_0 rfl rfl ?_
  refine gf_X2_12 (M := M_X2_addStep) (pc := 1) rfl dX2_addStep_1 rfl (r := 35) rfl ?_
  refine aw_dup (M := M_X2_addStep) (pc := 4) dX2_addStep_4 rfl ?_
  refine gf_X2_86 (M := M_X2_addStep) (pc := 5) rfl dX2_addStep_5 rfl ?_
  refine aw_iconst (M := M_X2_addStep) (pc := 8) dX2_addStep_8 ⟨by decide, by decide⟩ ?_
  obtain ⟨o1, hF⟩ := hF
  refine aw_iadd (M := M_X2_addStep) (pc := 9) dX2_addStep_9 rfl o1 ?_
  refine pf_X2_86 (M := M_X2_addStep) (pc := 10) rfl dX2_addStep_10 rfl ?_
  obtain ⟨h2, eh2⟩ : ∃ y : Mem, y = mset h 35 1 ((h 35 1) + 1) := ⟨_, rfl⟩
  have hF := hF h2 eh2
  rw [← eh2]
  refine aw_iload_n (j := 1) (M := M_X2_addStep) (pc := 13) dX2_addStep_13 rfl rfl ?_
  refine aw_csi (as := [(0, a1)]) (st := []) (M := M_X2_addStep) (pc := 14) (f_X2_opens  hF) dX2_addStep_14 rfl cy_X2_opens ml_X2_89 (by decide) (by decide) (Nat.le_of_ble_eq_true rfl) (fun r4 h3 hF => ?_)
  refine aw_if_eq (tgt := 48) (M := M_X2_addStep) (pc := 17) dX2_addStep_17 rfl (fun hc => ?_) (fun hc => ?_)
  · have hF := hF.1 hc
    exact aw_ret (M := M_X2_addStep) (pc := 48) dX2_addStep_48 rfl ⟨rfl, hF⟩
  · have hF := hF.2 hc
    refine aw_aload_n (j := 0) (M := M_X2_addStep) (pc := 20) dX2_addStep_20 rfl rfl ?_
    refine gf_X2_30 (M := M_X2_addStep) (pc := 21) rfl dX2_addStep_21 rfl ?_
    refine aw_iconst (M := M_X2_addStep) (pc := 24) dX2_addStep_24 ⟨by decide, by decide⟩ ?_
    refine aw_icmp_ge (tgt := 48) (M := M_X2_addStep) (pc := 25) dX2_addStep_25 rfl (fun hc => ?_) (fun hc => ?_)
    · have hF := hF.1 hc
      exact aw_ret (M := M_X2_addStep) (pc := 48) dX2_addStep_48 rfl ⟨rfl, hF⟩
    · have hF := hF.2 hc
      refine aw_aload_n (j := 0) (M := M_X2_addStep) (pc := 28) dX2_addStep_28 rfl rfl ?_
      refine gf_X2_18 (M := M_X2_addStep) (pc := 29) rfl dX2_addStep_29 rfl (r := 41) rfl ?_
      refine aw_aload_n (j := 0) (M := M_X2_addStep) (pc := 32) dX2_addStep_32 rfl rfl ?_
      refine gf_X2_30 (M := M_X2_addStep) (pc := 33) rfl dX2_addStep_33 rfl ?_
      refine aw_iload_n (j := 2) (M := M_X2_addStep) (pc := 36) dX2_addStep_36 rfl rfl ?_
      obtain ⟨o5, hF⟩ := hF
      refine aw_iast (k := (h3 34 4).toNat) (M := M_X2_addStep) (pc := 37) dX2_addStep_37 rfl o5 rfl ?_
      obtain ⟨h6, eh6⟩ : ∃ y : Mem, y = mset h3 41 (h3 34 4).toNat a2 := ⟨_, rfl⟩
      have hF := hF h6 eh6
      rw [← eh6]
      refine aw_aload_n (j := 0) (M := M_X2_addStep) (pc := 38) dX2_addStep_38 rfl rfl ?_
      refine aw_dup (M := M_X2_addStep) (pc := 39) dX2_addStep_39 rfl ?_
      refine gf_X2_30 (M := M_X2_addStep) (pc := 40) rfl dX2_addStep_40 rfl ?_
      refine aw_iconst (M := M_X2_addStep) (pc := 43) dX2_addStep_43 ⟨by decide, by decide⟩ ?_
      obtain ⟨o7, hF⟩ := hF
      refine aw_iadd (M := M_X2_addStep) (pc := 44) dX2_addStep_44 rfl o7 ?_
      refine pf_X2_30 (M := M_X2_addStep) (pc := 45) rfl dX2_addStep_45 rfl ?_
      obtain ⟨h8, eh8⟩ : ∃ y : Mem, y = mset h6 34 4 ((h6 34 4) + 1) := ⟨_, rfl⟩
      have hF := hF h8 eh8
      rw [← eh8]
      exact aw_ret (M := M_X2_addStep) (pc := 48) dX2_addStep_48 rfl ⟨rfl, hF⟩
abbrev M_X2_closeLatest : Hd := (cX2_closeLatest, 1, RX2, none, (2, 69), sc0)
def F_X2_closeLatest (h : Mem)  (Q : Mem → Prop) : Prop :=
  (InR ((h 34 4) - 1) ∧ (∀ h2 : Mem, h2 = mset h 34 4 ((h 34 4) - 1) → ((0 ≤ (h2 34 4) ∧ (h2 34 4) < 3) ∧ (F_X1_addEntry h2 35 10 0 0 0 (fun r6 h5 => (F_X1_pair h5 35 (h2 41 (h2 34 4).toNat) r6 (fun h7 => Q h7)))))))
set_option maxRecDepth 100000 in
set_option maxHeartbeats 4000000 in
theorem f_X2_closeLatest {h : Mem}  {Q : Mem → Prop}  (hF : F_X2_closeLatest h  Q) : Ct yX2_closeLatest cX2_closeLatest 1 none (2, 69) [vr 34] h (qv Q) := by
  refine Ct.of np_RX2 (Nat.le_of_ble_eq_true rfl) ?_
  unfold F_X2_closeLatest at hF
  show AW M_X2_closeLatest 0 [(0, vr 34)] [] h (qv Q)
  refine aw_aload_n (j := 0) (M := M_X2_closeLatest) (pc := 0) dX2_closeLatest_0 rfl rfl ?_
  refine aw_dup (M := M_X2_closeLatest) (pc := 1) dX2_closeLatest_1 rfl ?_
  refine gf_X2_30 (M := M_X2_closeLatest) (pc := 2) rfl dX2_closeLatest_2 rfl ?_
  refine aw_iconst (M := M_X2_closeLatest) (pc := 5) dX2_closeLatest_5 ⟨by decide, by decide⟩ ?_
  obtain ⟨o1, hF⟩ := hF
  refine aw_isub (M := M_X2_closeLatest) (pc := 6) dX2_closeLatest_6 rfl o1 ?_
  refine pf_X2_30 (M := M_X2_closeLatest) (pc := 7) rfl dX2_closeLatest_7 rfl ?_
  obtain ⟨h2, eh2⟩ : ∃ y : Mem, y = mset h 34 4 ((h 34 4) - 1) := ⟨_, rfl⟩
  have hF := hF h2 eh2
  rw [← eh2]
  refine aw_aload_n (j := 0) (M := M_X2_closeLatest) (pc := 10) dX2_closeLatest_10 rfl rfl ?_
  refine gf_X2_12 (M := M_X2_closeLatest) (pc := 11) rfl dX2_closeLatest_11 rfl (r := 35) rfl ?_
  refine aw_aload_n (j := 0) (M := M_X2_closeLatest) (pc := 14) dX2_closeLatest_14 rfl rfl ?_
  refine gf_X2_18 (M := M_X2_closeLatest) (pc := 15) rfl dX2_closeLatest_15 rfl (r := 41) rfl ?_
  refine aw_aload_n (j := 0) (M := M_X2_closeLatest) (pc := 18) dX2_closeLatest_18 rfl rfl ?_
  refine gf_X2_30 (M := M_X2_closeLatest) (pc := 19) rfl dX2_closeLatest_19 rfl ?_
  obtain ⟨o4, hF⟩ := hF
  refine aw_iald (k := (h2 34 4).toNat) (M := M_X2_closeLatest) (pc := 22) dX2_closeLatest_22 rfl o4 rfl ?_
  refine aw_aload_n (j := 0) (M := M_X2_closeLatest) (pc := 23) dX2_closeLatest_23 rfl rfl ?_
  refine gf_X2_12 (M := M_X2_closeLatest) (pc := 24) rfl dX2_closeLatest_24 rfl (r := 35) rfl ?_
  refine aw_bipush (M := M_X2_closeLatest) (pc := 27) dX2_closeLatest_27 ⟨rfl, ⟨by decide, by decide⟩⟩ ?_
  refine aw_iconst (M := M_X2_closeLatest) (pc := 29) dX2_closeLatest_29 ⟨by decide, by decide⟩ ?_
  refine aw_iconst (M := M_X2_closeLatest) (pc := 30) dX2_closeLatest_30 ⟨by decide, by decide⟩ ?_
  refine aw_iconst (M := M_X2_closeLatest) (pc := 31) dX2_closeLatest_31 ⟨by decide, by decide⟩ ?_
  refine aw_cvi (as := [(0, 10), (0, 0), (0, 0), (0, 0)]) (st := [(0, h2 41 (h2 34 4).toNat), vr 35]) (M := M_X2_closeLatest) (pc := 32) (f_X1_addEntry rfl hF) dX2_closeLatest_32 rfl (Or.inl ⟨_, _, _, rfl, rfl⟩) cy_X1_addEntry ml_X2_75 (by decide) (by decide) (Nat.le_of_ble_eq_true rfl) (fun r6 h5 hF => ?_)
  refine aw_cvv (as := [(0, h2 41 (h2 34 4).toNat), (0, r6)]) (st := []) (M := M_X2_closeLatest) (pc := 35) (f_X1_pair rfl hF) dX2_closeLatest_35 rfl (Or.inl ⟨_, _, _, rfl, rfl⟩) cy_X1_pair ml_X2_79 (by decide) (by decide) (Nat.le_of_ble_eq_true rfl) (fun h7 hF => ?_)
  exact aw_ret (M := M_X2_closeLatest) (pc := 38) dX2_closeLatest_38 rfl ⟨rfl, hF⟩
theorem so_X2_isStep_1 {x : Int} (h0 : ¬ x = 14) (h1 : ¬ x = 15) (h2 : ¬ x = 16) (h3 : ¬ x = 17) (h4 : ¬ x = 18) (h5 : ¬ x = 19) (h6 : ¬ x = 20) (h7 : ¬ x = 21) (h8 : ¬ x = 22) (h9 : ¬ x = 23) : x < 14 ∨ 23 < x := by omega
abbrev M_X2_isStep : Hd := (cX2_isStep, 1, RX2, (some .boolean), (1, 45), sc0)
def F_X2_isStep (h : Mem) (a1 : Int) (Q : Int → Mem → Prop) : Prop :=
  ((a1 = 14 → Q 1 h) ∧ ((a1 = 15 → Q 1 h) ∧ ((a1 = 16 → Q 1 h) ∧ ((a1 = 17 → Q 1 h) ∧ ((a1 = 18 → Q 1 h) ∧ ((a1 = 19 → Q 0 h) ∧ ((a1 = 20 → Q 0 h) ∧ ((a1 = 21 → Q 1 h) ∧ ((a1 = 22 → Q 0 h) ∧ ((a1 = 23 → Q 1 h) ∧ ((a1 < 14 ∨ 23 < a1) → Q 0 h)))))))))))
set_option maxRecDepth 100000 in
set_option maxHeartbeats 4000000 in
theorem f_X2_isStep {h : Mem} {a1 : Int} {Q : Int → Mem → Prop}  (hF : F_X2_isStep h a1 Q) : Ct yX2_isStep cX2_isStep 1 (some .boolean) (1, 45) [(0, a1)] h (qi Q) := by
  refine Ct.of np_RX2 (Nat.le_of_ble_eq_true rfl) ?_
  unfold F_X2_isStep at hF
  show AW M_X2_isStep 0 [(0, (0, a1))] [] h (qi Q)
  refine aw_iload_n (j := 0) (M := M_X2_isStep) (pc := 0) dX2_isStep_0 rfl rfl ?_
  by_cases hc : a1 = 14
  · have hF := hF.1 hc
    refine aw_tableIn (tgt := 56) (M := M_X2_isStep) (pc := 1) dX2_isStep_1 (by rw [hc]; decide) (by rw [hc]; decide) (off := 55) (by rw [hc]; rfl) rfl ?_
    refine aw_iconst (M := M_X2_isStep) (pc := 56) dX2_isStep_56 ⟨by decide, by decide⟩ ?_
    exact aw_iretz (M := M_X2_isStep) (pc := 57) dX2_isStep_57 rfl (Or.inr rfl) ⟨_, rfl, hF⟩
  have hF := hF.2
  have hc0 := hc
  by_cases hc : a1 = 15
  · have hF := hF.1 hc
    refine aw_tableIn (tgt := 56) (M := M_X2_isStep) (pc := 1) dX2_isStep_1 (by rw [hc]; decide) (by rw [hc]; decide) (off := 55) (by rw [hc]; rfl) rfl ?_
    refine aw_iconst (M := M_X2_isStep) (pc := 56) dX2_isStep_56 ⟨by decide, by decide⟩ ?_
    exact aw_iretz (M := M_X2_isStep) (pc := 57) dX2_isStep_57 rfl (Or.inr rfl) ⟨_, rfl, hF⟩
  have hF := hF.2
  have hc1 := hc
  by_cases hc : a1 = 16
  · have hF := hF.1 hc
    refine aw_tableIn (tgt := 56) (M := M_X2_isStep) (pc := 1) dX2_isStep_1 (by rw [hc]; decide) (by rw [hc]; decide) (off := 55) (by rw [hc]; rfl) rfl ?_
    refine aw_iconst (M := M_X2_isStep) (pc := 56) dX2_isStep_56 ⟨by decide, by decide⟩ ?_
    exact aw_iretz (M := M_X2_isStep) (pc := 57) dX2_isStep_57 rfl (Or.inr rfl) ⟨_, rfl, hF⟩
  have hF := hF.2
  have hc2 := hc
  by_cases hc : a1 = 17
  · have hF := hF.1 hc
    refine aw_tableIn (tgt := 56) (M := M_X2_isStep) (pc := 1) dX2_isStep_1 (by rw [hc]; decide) (by rw [hc]; decide) (off := 55) (by rw [hc]; rfl) rfl ?_
    refine aw_iconst (M := M_X2_isStep) (pc := 56) dX2_isStep_56 ⟨by decide, by decide⟩ ?_
    exact aw_iretz (M := M_X2_isStep) (pc := 57) dX2_isStep_57 rfl (Or.inr rfl) ⟨_, rfl, hF⟩
  have hF := hF.2
  have hc3 := hc
  by_cases hc : a1 = 18
  · have hF := hF.1 hc
    refine aw_tableIn (tgt := 56) (M := M_X2_isStep) (pc := 1) dX2_isStep_1 (by rw [hc]; decide) (by rw [hc]; decide) (off := 55) (by rw [hc]; rfl) rfl ?_
    refine aw_iconst (M := M_X2_isStep) (pc := 56) dX2_isStep_56 ⟨by decide, by decide⟩ ?_
    exact aw_iretz (M := M_X2_isStep) (pc := 57) dX2_isStep_57 rfl (Or.inr rfl) ⟨_, rfl, hF⟩
  have hF := hF.2
  have hc4 := hc
  by_cases hc : a1 = 19
  · have hF := hF.1 hc
    refine aw_tableIn (tgt := 58) (M := M_X2_isStep) (pc := 1) dX2_isStep_1 (by rw [hc]; decide) (by rw [hc]; decide) (off := 57) (by rw [hc]; rfl) rfl ?_
    refine aw_iconst (M := M_X2_isStep) (pc := 58) dX2_isStep_58 ⟨by decide, by decide⟩ ?_
    exact aw_iretz (M := M_X2_isStep) (pc := 59) dX2_isStep_59 rfl (Or.inl rfl) ⟨_, rfl, hF⟩
  have hF := hF.2
  have hc5 := hc
  by_cases hc : a1 = 20
  · have hF := hF.1 hc
    refine aw_tableIn (tgt := 58) (M := M_X2_isStep) (pc := 1) dX2_isStep_1 (by rw [hc]; decide) (by rw [hc]; decide) (off := 57) (by rw [hc]; rfl) rfl ?_
    refine aw_iconst (M := M_X2_isStep) (pc := 58) dX2_isStep_58 ⟨by decide, by decide⟩ ?_
    exact aw_iretz (M := M_X2_isStep) (pc := 59) dX2_isStep_59 rfl (Or.inl rfl) ⟨_, rfl, hF⟩
  have hF := hF.2
  have hc6 := hc
  by_cases hc : a1 = 21
  · have hF := hF.1 hc
    refine aw_tableIn (tgt := 56) (M := M_X2_isStep) (pc := 1) dX2_isStep_1 (by rw [hc]; decide) (by rw [hc]; decide) (off := 55) (by rw [hc]; rfl) rfl ?_
    refine aw_iconst (M := M_X2_isStep) (pc := 56) dX2_isStep_56 ⟨by decide, by decide⟩ ?_
    exact aw_iretz (M := M_X2_isStep) (pc := 57) dX2_isStep_57 rfl (Or.inr rfl) ⟨_, rfl, hF⟩
  have hF := hF.2
  have hc7 := hc
  by_cases hc : a1 = 22
  · have hF := hF.1 hc
    refine aw_tableIn (tgt := 58) (M := M_X2_isStep) (pc := 1) dX2_isStep_1 (by rw [hc]; decide) (by rw [hc]; decide) (off := 57) (by rw [hc]; rfl) rfl ?_
    refine aw_iconst (M := M_X2_isStep) (pc := 58) dX2_isStep_58 ⟨by decide, by decide⟩ ?_
    exact aw_iretz (M := M_X2_isStep) (pc := 59) dX2_isStep_59 rfl (Or.inl rfl) ⟨_, rfl, hF⟩
  have hF := hF.2
  have hc8 := hc
  by_cases hc : a1 = 23
  · have hF := hF.1 hc
    refine aw_tableIn (tgt := 56) (M := M_X2_isStep) (pc := 1) dX2_isStep_1 (by rw [hc]; decide) (by rw [hc]; decide) (off := 55) (by rw [hc]; rfl) rfl ?_
    refine aw_iconst (M := M_X2_isStep) (pc := 56) dX2_isStep_56 ⟨by decide, by decide⟩ ?_
    exact aw_iretz (M := M_X2_isStep) (pc := 57) dX2_isStep_57 rfl (Or.inr rfl) ⟨_, rfl, hF⟩
  have hF := hF.2
  have hc9 := hc
  have hc : a1 < 14 ∨ 23 < a1 := so_X2_isStep_1 hc0 hc1 hc2 hc3 hc4 hc5 hc6 hc7 hc8 hc9
  have hF := hF hc
  refine aw_tableOut (tgt := 58) (M := M_X2_isStep) (pc := 1) dX2_isStep_1 hc rfl ?_
  refine aw_iconst (M := M_X2_isStep) (pc := 58) dX2_isStep_58 ⟨by decide, by decide⟩ ?_
  exact aw_iretz (M := M_X2_isStep) (pc := 59) dX2_isStep_59 rfl (Or.inl rfl) ⟨_, rfl, hF⟩
abbrev M_X2_isTest : Hd := (cX2_isTest, 1, RX2, (some .boolean), (1, 45), sc0)
def F_X2_isTest (h : Mem) (a1 : Int) (Q : Int → Mem → Prop) : Prop :=
  ((a1 = 11 → Q 1 h) ∧ (¬ (a1 = 11) → ((a1 = 19 → Q 1 h) ∧ (¬ (a1 = 19) → ((a1 = 13 → Q 1 h) ∧ (¬ (a1 = 13) → ((¬ (a1 = 20) → Q 0 h) ∧ (a1 = 20 → Q 1 h))))))))
set_option maxRecDepth 100000 in
set_option maxHeartbeats 4000000 in
theorem f_X2_isTest {h : Mem} {a1 : Int} {Q : Int → Mem → Prop}  (hF : F_X2_isTest h a1 Q) : Ct yX2_isTest cX2_isTest 1 (some .boolean) (1, 45) [(0, a1)] h (qi Q) := by
  refine Ct.of np_RX2 (Nat.le_of_ble_eq_true rfl) ?_
  unfold F_X2_isTest at hF
  show AW M_X2_isTest 0 [(0, (0, a1))] [] h (qi Q)
  refine aw_iload_n (j := 0) (M := M_X2_isTest) (pc := 0) dX2_isTest_0 rfl rfl ?_
  refine aw_bipush (M := M_X2_isTest) (pc := 1) dX2_isTest_1 ⟨rfl, ⟨by decide, by decide⟩⟩ ?_
  refine aw_icmp_eq (tgt := 24) (M := M_X2_isTest) (pc := 3) dX2_isTest_3 rfl (fun hc => ?_) (fun hc => ?_)
  · have hF := hF.1 hc
    refine aw_iconst (M := M_X2_isTest) (pc := 24) dX2_isTest_24 ⟨by decide, by decide⟩ ?_
    refine aw_goto (tgt := 29) (M := M_X2_isTest) (pc := 25) dX2_isTest_25 rfl ?_
    exact aw_iretz (M := M_X2_isTest) (pc := 29) dX2_isTest_29 rfl (Or.inr rfl) ⟨_, rfl, hF⟩
  · have hF := hF.2 hc
    refine aw_iload_n (j := 0) (M := M_X2_isTest) (pc := 6) dX2_isTest_6 rfl rfl ?_
    refine aw_bipush (M := M_X2_isTest) (pc := 7) dX2_isTest_7 ⟨rfl, ⟨by decide, by decide⟩⟩ ?_
    refine aw_icmp_eq (tgt := 24) (M := M_X2_isTest) (pc := 9) dX2_isTest_9 rfl (fun hc => ?_) (fun hc => ?_)
    · have hF := hF.1 hc
      refine aw_iconst (M := M_X2_isTest) (pc := 24) dX2_isTest_24 ⟨by decide, by decide⟩ ?_
      refine aw_goto (tgt := 29) (M := M_X2_isTest) (pc := 25) dX2_isTest_25 rfl ?_
      exact aw_iretz (M := M_X2_isTest) (pc := 29) dX2_isTest_29 rfl (Or.inr rfl) ⟨_, rfl, hF⟩
    · have hF := hF.2 hc
      refine aw_iload_n (j := 0) (M := M_X2_isTest) (pc := 12) dX2_isTest_12 rfl rfl ?_
      refine aw_bipush (M := M_X2_isTest) (pc := 13) dX2_isTest_13 ⟨rfl, ⟨by decide, by decide⟩⟩ ?_
      refine aw_icmp_eq (tgt := 24) (M := M_X2_isTest) (pc := 15) dX2_isTest_15 rfl (fun hc => ?_) (fun hc => ?_)
      · have hF := hF.1 hc
        refine aw_iconst (M := M_X2_isTest) (pc := 24) dX2_isTest_24 ⟨by decide, by decide⟩ ?_
        refine aw_goto (tgt := 29) (M := M_X2_isTest) (pc := 25) dX2_isTest_25 rfl ?_
        exact aw_iretz (M := M_X2_isTest) (pc := 29) dX2_isTest_29 rfl (Or.inr rfl) ⟨_, rfl, hF⟩
      · have hF := hF.2 hc
        refine aw_iload_n (j := 0) (M := M_X2_isTest) (pc := 18) dX2_isTest_18 rfl rfl ?_
        refine aw_bipush (M := M_X2_isTest) (pc := 19) dX2_isTest_19 ⟨rfl, ⟨by decide, by decide⟩⟩ ?_
        refine aw_icmp_ne (tgt := 28) (M := M_X2_isTest) (pc := 21) dX2_isTest_21 rfl (fun hc => ?_) (fun hc => ?_)
        · have hF := hF.1 hc
          refine aw_iconst (M := M_X2_isTest) (pc := 28) dX2_isTest_28 ⟨by decide, by decide⟩ ?_
          exact aw_iretz (M := M_X2_isTest) (pc := 29) dX2_isTest_29 rfl (Or.inl rfl) ⟨_, rfl, hF⟩
        · have hF := hF.2 hc
          refine aw_iconst (M := M_X2_isTest) (pc := 24) dX2_isTest_24 ⟨by decide, by decide⟩ ?_
          refine aw_goto (tgt := 29) (M := M_X2_isTest) (pc := 25) dX2_isTest_25 rfl ?_
          exact aw_iretz (M := M_X2_isTest) (pc := 29) dX2_isTest_29 rfl (Or.inr rfl) ⟨_, rfl, hF⟩
abbrev M_X8_fail : Hd := (cX8_fail, 2, RX8, none, (1, 45), sc0)
def F_X8_fail (h : Mem) (a1 : Int) (Q : Mem → Prop) : Prop :=
  ((¬ ((h 9 9) = 0) → Q h) ∧ ((h 9 9) = 0 → ((¬ ((h 9 5) = 4) → (∀ h1 : Mem, h1 = mset h 9 9 a1 → (∀ h2 : Mem, h2 = mset h1 9 10 (h1 9 6) → Q h2))) ∧ ((h 9 5) = 4 → (∀ h3 : Mem, h3 = mset h 9 9 1 → (∀ h4 : Mem, h4 = mset h3 9 10 (h3 9 6) → Q h4))))))
set_option maxRecDepth 100000 in
set_option maxHeartbeats 4000000 in
theorem f_X8_fail {h : Mem} {a1 : Int} {Q : Mem → Prop}  (hF : F_X8_fail h a1 Q) : Ct yX8_fail cX8_fail 2 none (1, 45) [vr 9, (0, a1)] h (qv Q) := by
  refine Ct.of np_RX8 (Nat.le_of_ble_eq_true rfl) ?_
  unfold F_X8_fail at hF
  show AW M_X8_fail 0 [(0, vr 9), (1, (0, a1))] [] h (qv Q)
  refine aw_aload_n (j := 0) (M := M_X8_fail) (pc := 0) dX8_fail_0 rfl rfl ?_
  refine gf_X8_42 (M := M_X8_fail) (pc := 1) rfl dX8_fail_1 rfl ?_
  refine aw_if_ne (tgt := 32) (M := M_X8_fail) (pc := 4) dX8_fail_4 rfl (fun hc => ?_) (fun hc => ?_)
  · have hF := hF.1 hc
    exact aw_ret (M := M_X8_fail) (pc := 32) dX8_fail_32 rfl ⟨rfl, hF⟩
  · have hF := hF.2 hc
    refine aw_aload_n (j := 0) (M := M_X8_fail) (pc := 7) dX8_fail_7 rfl rfl ?_
    refine aw_aload_n (j := 0) (M := M_X8_fail) (pc := 8) dX8_fail_8 rfl rfl ?_
    refine gf_X8_29 (M := M_X8_fail) (pc := 9) rfl dX8_fail_9 rfl ?_
    refine aw_iconst (M := M_X8_fail) (pc := 12) dX8_fail_12 ⟨by decide, by decide⟩ ?_
    refine aw_icmp_ne (tgt := 20) (M := M_X8_fail) (pc := 13) dX8_fail_13 rfl (fun hc => ?_) (fun hc => ?_)
    · have hF := hF.1 hc
      refine aw_iload_n (j := 1) (M := M_X8_fail) (pc := 20) dX8_fail_20 rfl rfl ?_
      refine pf_X8_42 (M := M_X8_fail) (pc := 21) rfl dX8_fail_21 rfl ?_
      obtain ⟨h1, eh1⟩ : ∃ y : Mem, y = mset h 9 9 a1 := ⟨_, rfl⟩
      have hF := hF h1 eh1
      rw [← eh1]
      refine aw_aload_n (j := 0) (M := M_X8_fail) (pc := 24) dX8_fail_24 rfl rfl ?_
      refine aw_aload_n (j := 0) (M := M_X8_fail) (pc := 25) dX8_fail_25 rfl rfl ?_
      refine gf_X8_32 (M := M_X8_fail) (pc := 26) rfl dX8_fail_26 rfl ?_
      refine pf_X8_45 (M := M_X8_fail) (pc := 29) rfl dX8_fail_29 rfl ?_
      obtain ⟨h2, eh2⟩ : ∃ y : Mem, y = mset h1 9 10 (h1 9 6) := ⟨_, rfl⟩
      have hF := hF h2 eh2
      rw [← eh2]
      exact aw_ret (M := M_X8_fail) (pc := 32) dX8_fail_32 rfl ⟨rfl, hF⟩
    · have hF := hF.2 hc
      refine aw_iconst (M := M_X8_fail) (pc := 16) dX8_fail_16 ⟨by decide, by decide⟩ ?_
      refine aw_goto (tgt := 21) (M := M_X8_fail) (pc := 17) dX8_fail_17 rfl ?_
      refine pf_X8_42 (M := M_X8_fail) (pc := 21) rfl dX8_fail_21 rfl ?_
      obtain ⟨h3, eh3⟩ : ∃ y : Mem, y = mset h 9 9 1 := ⟨_, rfl⟩
      have hF := hF h3 eh3
      rw [← eh3]
      refine aw_aload_n (j := 0) (M := M_X8_fail) (pc := 24) dX8_fail_24 rfl rfl ?_
      refine aw_aload_n (j := 0) (M := M_X8_fail) (pc := 25) dX8_fail_25 rfl rfl ?_
      refine gf_X8_32 (M := M_X8_fail) (pc := 26) rfl dX8_fail_26 rfl ?_
      refine pf_X8_45 (M := M_X8_fail) (pc := 29) rfl dX8_fail_29 rfl ?_
      obtain ⟨h4, eh4⟩ : ∃ y : Mem, y = mset h3 9 10 (h3 9 6) := ⟨_, rfl⟩
      have hF := hF h4 eh4
      rw [← eh4]
      exact aw_ret (M := M_X8_fail) (pc := 32) dX8_fail_32 rfl ⟨rfl, hF⟩
abbrev M_X2_lookAtStep : Hd := (cX2_lookAtStep, 2, RX2, none, (2, 66), sc0)
def F_X2_lookAtStep (h : Mem) (a1 : Int) (Q : Mem → Prop) : Prop :=
  (F_X2_isStep h a1 (fun r2 h1 => ((¬ (r2 = 0) → (((h1 35 1) < 30 → (F_X2_opens h1 a1 (fun r4 h3 => ((r4 = 0 → Q h3) ∧ (¬ (r4 = 0) → (((h3 34 4) < 3 → Q h3) ∧ (¬ ((h3 34 4) < 3) → (h3 34 1 = (9 : Int) ∧ (F_X8_fail h3 7 (fun h6 => Q h6)))))))))) ∧ (¬ ((h1 35 1) < 30) → (h1 34 1 = (9 : Int) ∧ (F_X8_fail h1 6 (fun h9 => Q h9)))))) ∧ (r2 = 0 → (h1 34 1 = (9 : Int) ∧ (F_X8_fail h1 2 (fun h12 => Q h12)))))))
set_option maxRecDepth 100000 in
set_option maxHeartbeats 4000000 in
theorem f_X2_lookAtStep {h : Mem} {a1 : Int} {Q : Mem → Prop}  (hF : F_X2_lookAtStep h a1 Q) : Ct yX2_lookAtStep cX2_lookAtStep 2 none (2, 66) [vr 34, (0, a1)] h (qv Q) := by
  refine Ct.of np_RX2 (Nat.le_of_ble_eq_true rfl) ?_
  unfold F_X2_lookAtStep at hF
  show AW M_X2_lookAtStep 0 [(0, vr 34), (1, (0, a1))] [] h (qv Q)
  refine aw_iload_n (j := 1) (M := M_X2_lookAtStep) (pc := 0) dX2_lookAtStep_0 rfl rfl ?_
  refine aw_csi (as := [(0, a1)]) (st := []) (M := M_X2_lookAtStep) (pc := 1) (f_X2_isStep  hF) dX2_lookAtStep_1 rfl cy_X2_isStep ml_X2_82 (by decide) (by decide) (Nat.le_of_ble_eq_true rfl) (fun r2 h1 hF => ?_)
  refine aw_if_ne (tgt := 18) (M := M_X2_lookAtStep) (pc := 4) dX2_lookAtStep_4 rfl (fun hc => ?_) (fun hc => ?_)
  · have hF := hF.1 hc
    refine aw_aload_n (j := 0) (M := M_X2_lookAtStep) (pc := 18) dX2_lookAtStep_18 rfl rfl ?_
    refine gf_X2_12 (M := M_X2_lookAtStep) (pc := 19) rfl dX2_lookAtStep_19 rfl (r := 35) rfl ?_
    refine gf_X2_86 (M := M_X2_lookAtStep) (pc := 22) rfl dX2_lookAtStep_22 rfl ?_
    refine aw_bipush (M := M_X2_lookAtStep) (pc := 25) dX2_lookAtStep_25 ⟨rfl, ⟨by decide, by decide⟩⟩ ?_
    refine aw_icmp_lt (tgt := 42) (M := M_X2_lookAtStep) (pc := 27) dX2_lookAtStep_27 rfl (fun hc => ?_) (fun hc => ?_)
    · have hF := hF.1 hc
      refine aw_iload_n (j := 1) (M := M_X2_lookAtStep) (pc := 42) dX2_lookAtStep_42 rfl rfl ?_
      refine aw_csi (as := [(0, a1)]) (st := []) (M := M_X2_lookAtStep) (pc := 43) (f_X2_opens  hF) dX2_lookAtStep_43 rfl cy_X2_opens ml_X2_89 (by decide) (by decide) (Nat.le_of_ble_eq_true rfl) (fun r4 h3 hF => ?_)
      refine aw_if_eq (tgt := 66) (M := M_X2_lookAtStep) (pc := 46) dX2_lookAtStep_46 rfl (fun hc => ?_) (fun hc => ?_)
      · have hF := hF.1 hc
        exact aw_ret (M := M_X2_lookAtStep) (pc := 66) dX2_lookAtStep_66 rfl ⟨rfl, hF⟩
      · have hF := hF.2 hc
        refine aw_aload_n (j := 0) (M := M_X2_lookAtStep) (pc := 49) dX2_lookAtStep_49 rfl rfl ?_
        refine gf_X2_30 (M := M_X2_lookAtStep) (pc := 50) rfl dX2_lookAtStep_50 rfl ?_
        refine aw_iconst (M := M_X2_lookAtStep) (pc := 53) dX2_lookAtStep_53 ⟨by decide, by decide⟩ ?_
        refine aw_icmp_lt (tgt := 66) (M := M_X2_lookAtStep) (pc := 54) dX2_lookAtStep_54 rfl (fun hc => ?_) (fun hc => ?_)
        · have hF := hF.1 hc
          exact aw_ret (M := M_X2_lookAtStep) (pc := 66) dX2_lookAtStep_66 rfl ⟨rfl, hF⟩
        · have hF := hF.2 hc
          refine aw_aload_n (j := 0) (M := M_X2_lookAtStep) (pc := 57) dX2_lookAtStep_57 rfl rfl ?_
          obtain ⟨o5, hF⟩ := hF
          refine gf_X2_22 (M := M_X2_lookAtStep) (pc := 58) rfl dX2_lookAtStep_58 rfl ?_
          refine aw_ref (a := 9) o5 ?_
          refine aw_bipush (M := M_X2_lookAtStep) (pc := 61) dX2_lookAtStep_61 ⟨rfl, ⟨by decide, by decide⟩⟩ ?_
          refine aw_cvv (as := [(0, 7)]) (st := []) (M := M_X2_lookAtStep) (pc := 63) (f_X8_fail  hF) dX2_lookAtStep_63 rfl (Or.inl ⟨_, _, _, rfl, rfl⟩) cy_X8_fail ml_X2_72 (by decide) (by decide) (Nat.le_of_ble_eq_true rfl) (fun h6 hF => ?_)
          exact aw_ret (M := M_X2_lookAtStep) (pc := 66) dX2_lookAtStep_66 rfl ⟨rfl, hF⟩
    · have hF := hF.2 hc
      refine aw_aload_n (j := 0) (M := M_X2_lookAtStep) (pc := 30) dX2_lookAtStep_30 rfl rfl ?_
      obtain ⟨o8, hF⟩ := hF
      refine gf_X2_22 (M := M_X2_lookAtStep) (pc := 31) rfl dX2_lookAtStep_31 rfl ?_
      refine aw_ref (a := 9) o8 ?_
      refine aw_bipush (M := M_X2_lookAtStep) (pc := 34) dX2_lookAtStep_34 ⟨rfl, ⟨by decide, by decide⟩⟩ ?_
      refine aw_cvv (as := [(0, 6)]) (st := []) (M := M_X2_lookAtStep) (pc := 36) (f_X8_fail  hF) dX2_lookAtStep_36 rfl (Or.inl ⟨_, _, _, rfl, rfl⟩) cy_X8_fail ml_X2_72 (by decide) (by decide) (Nat.le_of_ble_eq_true rfl) (fun h9 hF => ?_)
      refine aw_goto (tgt := 66) (M := M_X2_lookAtStep) (pc := 39) dX2_lookAtStep_39 rfl ?_
      exact aw_ret (M := M_X2_lookAtStep) (pc := 66) dX2_lookAtStep_66 rfl ⟨rfl, hF⟩
  · have hF := hF.2 hc
    refine aw_aload_n (j := 0) (M := M_X2_lookAtStep) (pc := 7) dX2_lookAtStep_7 rfl rfl ?_
    obtain ⟨o11, hF⟩ := hF
    refine gf_X2_22 (M := M_X2_lookAtStep) (pc := 8) rfl dX2_lookAtStep_8 rfl ?_
    refine aw_ref (a := 9) o11 ?_
    refine aw_iconst (M := M_X2_lookAtStep) (pc := 11) dX2_lookAtStep_11 ⟨by decide, by decide⟩ ?_
    refine aw_cvv (as := [(0, 2)]) (st := []) (M := M_X2_lookAtStep) (pc := 12) (f_X8_fail  hF) dX2_lookAtStep_12 rfl (Or.inl ⟨_, _, _, rfl, rfl⟩) cy_X8_fail ml_X2_72 (by decide) (by decide) (Nat.le_of_ble_eq_true rfl) (fun h12 hF => ?_)
    refine aw_goto (tgt := 66) (M := M_X2_lookAtStep) (pc := 15) dX2_lookAtStep_15 rfl ?_
    exact aw_ret (M := M_X2_lookAtStep) (pc := 66) dX2_lookAtStep_66 rfl ⟨rfl, hF⟩
abbrev M_X8_isDigit : Hd := (cX8_isDigit, 1, RX8, (some .boolean), (1, 45), sc0)
def F_X8_isDigit (h : Mem) (a1 : Int) (Q : Int → Mem → Prop) : Prop :=
  ((a1 < 48 → Q 0 h) ∧ (¬ (a1 < 48) → ((57 < a1 → Q 0 h) ∧ (¬ (57 < a1) → Q 1 h))))
set_option maxRecDepth 100000 in
set_option maxHeartbeats 4000000 in
theorem f_X8_isDigit {h : Mem} {a1 : Int} {Q : Int → Mem → Prop}  (hF : F_X8_isDigit h a1 Q) : Ct yX8_isDigit cX8_isDigit 1 (some .boolean) (1, 45) [(0, a1)] h (qi Q) := by
  refine Ct.of np_RX8 (Nat.le_of_ble_eq_true rfl) ?_
  unfold F_X8_isDigit at hF
  show AW M_X8_isDigit 0 [(0, (0, a1))] [] h (qi Q)
  refine aw_iload_n (j := 0) (M := M_X8_isDigit) (pc := 0) dX8_isDigit_0 rfl rfl ?_
  refine aw_bipush (M := M_X8_isDigit) (pc := 1) dX8_isDigit_1 ⟨rfl, ⟨by decide, by decide⟩⟩ ?_
  refine aw_icmp_lt (tgt := 16) (M := M_X8_isDigit) (pc := 3) dX8_isDigit_3 rfl (fun hc => ?_) (fun hc => ?_)
  · have hF := hF.1 hc
    refine aw_iconst (M := M_X8_isDigit) (pc := 16) dX8_isDigit_16 ⟨by decide, by decide⟩ ?_
    exact aw_iretz (M := M_X8_isDigit) (pc := 17) dX8_isDigit_17 rfl (Or.inl rfl) ⟨_, rfl, hF⟩
  · have hF := hF.2 hc
    refine aw_iload_n (j := 0) (M := M_X8_isDigit) (pc := 6) dX8_isDigit_6 rfl rfl ?_
    refine aw_bipush (M := M_X8_isDigit) (pc := 7) dX8_isDigit_7 ⟨rfl, ⟨by decide, by decide⟩⟩ ?_
    refine aw_icmp_gt (tgt := 16) (M := M_X8_isDigit) (pc := 9) dX8_isDigit_9 rfl (fun hc => ?_) (fun hc => ?_)
    · have hF := hF.1 hc
      refine aw_iconst (M := M_X8_isDigit) (pc := 16) dX8_isDigit_16 ⟨by decide, by decide⟩ ?_
      exact aw_iretz (M := M_X8_isDigit) (pc := 17) dX8_isDigit_17 rfl (Or.inl rfl) ⟨_, rfl, hF⟩
    · have hF := hF.2 hc
      refine aw_iconst (M := M_X8_isDigit) (pc := 12) dX8_isDigit_12 ⟨by decide, by decide⟩ ?_
      refine aw_goto (tgt := 17) (M := M_X8_isDigit) (pc := 13) dX8_isDigit_13 rfl ?_
      exact aw_iretz (M := M_X8_isDigit) (pc := 17) dX8_isDigit_17 rfl (Or.inr rfl) ⟨_, rfl, hF⟩
abbrev M_X8_isLetter : Hd := (cX8_isLetter, 1, RX8, (some .boolean), (1, 45), sc0)
def F_X8_isLetter (h : Mem) (a1 : Int) (Q : Int → Mem → Prop) : Prop :=
  ((a1 < 97 → Q 0 h) ∧ (¬ (a1 < 97) → ((122 < a1 → Q 0 h) ∧ (¬ (122 < a1) → Q 1 h))))
set_option maxRecDepth 100000 in
set_option maxHeartbeats 4000000 in
theorem f_X8_isLetter {h : Mem} {a1 : Int} {Q : Int → Mem → Prop}  (hF : F_X8_isLetter h a1 Q) : Ct yX8_isLetter cX8_isLetter 1 (some .boolean) (1, 45) [(0, a1)] h (qi Q) := by
  refine Ct.of np_RX8 (Nat.le_of_ble_eq_true rfl) ?_
  unfold F_X8_isLetter at hF
  show AW M_X8_isLetter 0 [(0, (0, a1))] [] h (qi Q)
  refine aw_iload_n (j := 0) (M := M_X8_isLetter) (pc := 0) dX8_isLetter_0 rfl rfl ?_
  refine aw_bipush (M := M_X8_isLetter) (pc := 1) dX8_isLetter_1 ⟨rfl, ⟨by decide, by decide⟩⟩ ?_
  refine aw_icmp_lt (tgt := 16) (M := M_X8_isLetter) (pc := 3) dX8_isLetter_3 rfl (fun hc => ?_) (fun hc => ?_)
  · have hF := hF.1 hc
    refine aw_iconst (M := M_X8_isLetter) (pc := 16) dX8_isLetter_16 ⟨by decide, by decide⟩ ?_
    exact aw_iretz (M := M_X8_isLetter) (pc := 17) dX8_isLetter_17 rfl (Or.inl rfl) ⟨_, rfl, hF⟩
  · have hF := hF.2 hc
    refine aw_iload_n (j := 0) (M := M_X8_isLetter) (pc := 6) dX8_isLetter_6 rfl rfl ?_
    refine aw_bipush (M := M_X8_isLetter) (pc := 7) dX8_isLetter_7 ⟨rfl, ⟨by decide, by decide⟩⟩ ?_
    refine aw_icmp_gt (tgt := 16) (M := M_X8_isLetter) (pc := 9) dX8_isLetter_9 rfl (fun hc => ?_) (fun hc => ?_)
    · have hF := hF.1 hc
      refine aw_iconst (M := M_X8_isLetter) (pc := 16) dX8_isLetter_16 ⟨by decide, by decide⟩ ?_
      exact aw_iretz (M := M_X8_isLetter) (pc := 17) dX8_isLetter_17 rfl (Or.inl rfl) ⟨_, rfl, hF⟩
    · have hF := hF.2 hc
      refine aw_iconst (M := M_X8_isLetter) (pc := 12) dX8_isLetter_12 ⟨by decide, by decide⟩ ?_
      refine aw_goto (tgt := 17) (M := M_X8_isLetter) (pc := 13) dX8_isLetter_13 rfl ?_
      exact aw_iretz (M := M_X8_isLetter) (pc := 17) dX8_isLetter_17 rfl (Or.inr rfl) ⟨_, rfl, hF⟩
abbrev M_X8_takeNumber : Hd := (cX8_takeNumber, 2, RX8, none, (2, 65), sc0)
def L_X8_takeNumber_2 (h : Mem) (v1 : Int) (Q : Mem → Prop) : Prop := AW M_X8_takeNumber 2 [(0, vr 9), (1, (0, v1))] [] h (qv Q)
def J_X8_takeNumber_72 (h : Mem) (v1 : Int) (Q : Mem → Prop) : Prop :=
  (InR ((h 9 4) - (h 9 6)) ∧ ((((h 9 4) - (h 9 6)) ≤ 4 → (∀ h17 : Mem, h17 = mset h 9 5 2 → (∀ h18 : Mem, h18 = mset h17 9 7 v1 → Q h18))) ∧ (¬ (((h 9 4) - (h 9 6)) ≤ 4) → (∀ h19 : Mem, h19 = mset h 9 5 4 → (∀ h20 : Mem, h20 = mset h19 9 7 v1 → Q h20)))))
set_option maxRecDepth 100000 in
set_option maxHeartbeats 4000000 in
theorem j_X8_takeNumber_72 {h : Mem} {v1 : Int} {Q : Mem → Prop}  (hF : J_X8_takeNumber_72 h v1 Q) : AW M_X8_takeNumber 72 [(0, vr 9), (1, (0, v1))] [] h (qv Q) := by
  unfold J_X8_takeNumber_72 at hF
  refine aw_aload_n (j := 0) (M := M_X8_takeNumber) (pc := 72) dX8_takeNumber_72 rfl rfl ?_
  refine aw_aload_n (j := 0) (M := M_X8_takeNumber) (pc := 73) dX8_takeNumber_73 rfl rfl ?_
  refine gf_X8_26 (M := M_X8_takeNumber) (pc := 74) rfl dX8_takeNumber_74 rfl ?_
  refine aw_aload_n (j := 0) (M := M_X8_takeNumber) (pc := 77) dX8_takeNumber_77 rfl rfl ?_
  refine gf_X8_32 (M := M_X8_takeNumber) (pc := 78) rfl dX8_takeNumber_78 rfl ?_
  obtain ⟨o16, hF⟩ := hF
  refine aw_isub (M := M_X8_takeNumber) (pc := 81) dX8_takeNumber_81 rfl o16 ?_
  refine aw_iconst (M := M_X8_takeNumber) (pc := 82) dX8_takeNumber_82 ⟨by decide, by decide⟩ ?_
  refine aw_icmp_le (tgt := 90) (M := M_X8_takeNumber) (pc := 83) dX8_takeNumber_83 rfl (fun hc => ?_) (fun hc => ?_)
  · have hF := hF.1 hc
    refine aw_iconst (M := M_X8_takeNumber) (pc := 90) dX8_takeNumber_90 ⟨by decide, by decide⟩ ?_
    refine pf_X8_29 (M := M_X8_takeNumber) (pc := 91) rfl dX8_takeNumber_91 rfl ?_
    obtain ⟨h17, eh17⟩ : ∃ y : Mem, y = mset h 9 5 2 := ⟨_, rfl⟩
    have hF := hF h17 eh17
    rw [← eh17]
    refine aw_aload_n (j := 0) (M := M_X8_takeNumber) (pc := 94) dX8_takeNumber_94 rfl rfl ?_
    refine aw_iload_n (j := 1) (M := M_X8_takeNumber) (pc := 95) dX8_takeNumber_95 rfl rfl ?_
    refine pf_X8_35 (M := M_X8_takeNumber) (pc := 96) rfl dX8_takeNumber_96 rfl ?_
    obtain ⟨h18, eh18⟩ : ∃ y : Mem, y = mset h17 9 7 v1 := ⟨_, rfl⟩
    have hF := hF h18 eh18
    rw [← eh18]
    exact aw_ret (M := M_X8_takeNumber) (pc := 99) dX8_takeNumber_99 rfl ⟨rfl, hF⟩
  · have hF := hF.2 hc
    refine aw_iconst (M := M_X8_takeNumber) (pc := 86) dX8_takeNumber_86 ⟨by decide, by decide⟩ ?_
    refine aw_goto (tgt := 91) (M := M_X8_takeNumber) (pc := 87) dX8_takeNumber_87 rfl ?_
    refine pf_X8_29 (M := M_X8_takeNumber) (pc := 91) rfl dX8_takeNumber_91 rfl ?_
    obtain ⟨h19, eh19⟩ : ∃ y : Mem, y = mset h 9 5 4 := ⟨_, rfl⟩
    have hF := hF h19 eh19
    rw [← eh19]
    refine aw_aload_n (j := 0) (M := M_X8_takeNumber) (pc := 94) dX8_takeNumber_94 rfl rfl ?_
    refine aw_iload_n (j := 1) (M := M_X8_takeNumber) (pc := 95) dX8_takeNumber_95 rfl rfl ?_
    refine pf_X8_35 (M := M_X8_takeNumber) (pc := 96) rfl dX8_takeNumber_96 rfl ?_
    obtain ⟨h20, eh20⟩ : ∃ y : Mem, y = mset h19 9 7 v1 := ⟨_, rfl⟩
    have hF := hF h20 eh20
    rw [← eh20]
    exact aw_ret (M := M_X8_takeNumber) (pc := 99) dX8_takeNumber_99 rfl ⟨rfl, hF⟩
def B_X8_takeNumber_2 (h : Mem) (v1 : Int) (Q : Mem → Prop) : Prop :=
  (((h 9 3) ≤ (h 9 4) → J_X8_takeNumber_72 h v1 Q) ∧ (¬ ((h 9 3) ≤ (h 9 4)) → ((0 ≤ (h 9 4) ∧ (h 9 4) < 900) ∧ (F_X8_isDigit h (h 10 (h 9 4).toNat) (fun r4 h3 => ((r4 = 0 → J_X8_takeNumber_72 h3 v1 Q) ∧ (¬ (r4 = 0) → (InR ((h3 9 4) - (h3 9 6)) ∧ ((4 ≤ ((h3 9 4) - (h3 9 6)) → (InR ((h3 9 4) + 1) ∧ (∀ h7 : Mem, h7 = mset h3 9 4 ((h3 9 4) + 1) → L_X8_takeNumber_2 h7 v1 Q))) ∧ (¬ (4 ≤ ((h3 9 4) - (h3 9 6))) → (InR (v1 * 10) ∧ ((0 ≤ (h3 9 4) ∧ (h3 9 4) < 900) ∧ (InR ((v1 * 10) + (h3 10 (h3 9 4).toNat)) ∧ (InR (((v1 * 10) + (h3 10 (h3 9 4).toNat)) - 48) ∧ (∀ x13 : Int, x13 = ((v1 * 10) + (h3 10 (h3 9 4).toNat)) - 48 → (InR ((h3 9 4) + 1) ∧ (∀ h15 : Mem, h15 = mset h3 9 4 ((h3 9 4) + 1) → L_X8_takeNumber_2 h15 x13 Q)))))))))))))))))
set_option maxRecDepth 100000 in
set_option maxHeartbeats 4000000 in
theorem l_X8_takeNumber_2 {h : Mem} {v1 : Int} {Q : Mem → Prop}  (hF : B_X8_takeNumber_2 h v1 Q) : L_X8_takeNumber_2 h v1 Q := by
  unfold B_X8_takeNumber_2 at hF
  show AW M_X8_takeNumber 2 [(0, vr 9), (1, (0, v1))] [] h (qv Q)
  refine aw_aload_n (j := 0) (M := M_X8_takeNumber) (pc := 2) dX8_takeNumber_2 rfl rfl ?_
  refine gf_X8_26 (M := M_X8_takeNumber) (pc := 3) rfl dX8_takeNumber_3 rfl ?_
  refine aw_aload_n (j := 0) (M := M_X8_takeNumber) (pc := 6) dX8_takeNumber_6 rfl rfl ?_
  refine gf_X8_23 (M := M_X8_takeNumber) (pc := 7) rfl dX8_takeNumber_7 rfl ?_
  refine aw_icmp_ge (tgt := 72) (M := M_X8_takeNumber) (pc := 10) dX8_takeNumber_10 rfl (fun hc => ?_) (fun hc => ?_)
  · have hF := hF.1 hc
    exact aw_ls [0, 1] rfl (j_X8_takeNumber_72  hF)
  · have hF := hF.2 hc
    refine aw_aload_n (j := 0) (M := M_X8_takeNumber) (pc := 13) dX8_takeNumber_13 rfl rfl ?_
    refine gf_X8_11 (M := M_X8_takeNumber) (pc := 14) rfl dX8_takeNumber_14 rfl (r := 10) rfl ?_
    refine aw_aload_n (j := 0) (M := M_X8_takeNumber) (pc := 17) dX8_takeNumber_17 rfl rfl ?_
    refine gf_X8_26 (M := M_X8_takeNumber) (pc := 18) rfl dX8_takeNumber_18 rfl ?_
    obtain ⟨o2, hF⟩ := hF
    refine aw_bald (k := (h 9 4).toNat) (M := M_X8_takeNumber) (pc := 21) dX8_takeNumber_21 rfl o2 rfl ?_
    refine aw_csi (as := [(0, h 10 (h 9 4).toNat)]) (st := []) (M := M_X8_takeNumber) (pc := 22) (f_X8_isDigit  hF) dX8_takeNumber_22 rfl cy_X8_isDigit ml_X8_82 (by decide) (by decide) (Nat.le_of_ble_eq_true rfl) (fun r4 h3 hF => ?_)
    refine aw_if_eq (tgt := 72) (M := M_X8_takeNumber) (pc := 25) dX8_takeNumber_25 rfl (fun hc => ?_) (fun hc => ?_)
    · have hF := hF.1 hc
      exact aw_ls [0, 1] rfl (j_X8_takeNumber_72  hF)
    · have hF := hF.2 hc
      refine aw_aload_n (j := 0) (M := M_X8_takeNumber) (pc := 28) dX8_takeNumber_28 rfl rfl ?_
      refine gf_X8_26 (M := M_X8_takeNumber) (pc := 29) rfl dX8_takeNumber_29 rfl ?_
      refine aw_aload_n (j := 0) (M := M_X8_takeNumber) (pc := 32) dX8_takeNumber_32 rfl rfl ?_
      refine gf_X8_32 (M := M_X8_takeNumber) (pc := 33) rfl dX8_takeNumber_33 rfl ?_
      obtain ⟨o5, hF⟩ := hF
      refine aw_isub (M := M_X8_takeNumber) (pc := 36) dX8_takeNumber_36 rfl o5 ?_
      refine aw_iconst (M := M_X8_takeNumber) (pc := 37) dX8_takeNumber_37 ⟨by decide, by decide⟩ ?_
      refine aw_icmp_ge (tgt := 59) (M := M_X8_takeNumber) (pc := 38) dX8_takeNumber_38 rfl (fun hc => ?_) (fun hc => ?_)
      · have hF := hF.1 hc
        refine aw_aload_n (j := 0) (M := M_X8_takeNumber) (pc := 59) dX8_takeNumber_59 rfl rfl ?_
        refine aw_dup (M := M_X8_takeNumber) (pc := 60) dX8_takeNumber_60 rfl ?_
        refine gf_X8_26 (M := M_X8_takeNumber) (pc := 61) rfl dX8_takeNumber_61 rfl ?_
        refine aw_iconst (M := M_X8_takeNumber) (pc := 64) dX8_takeNumber_64 ⟨by decide, by decide⟩ ?_
        obtain ⟨o6, hF⟩ := hF
        refine aw_iadd (M := M_X8_takeNumber) (pc := 65) dX8_takeNumber_65 rfl o6 ?_
        refine pf_X8_26 (M := M_X8_takeNumber) (pc := 66) rfl dX8_takeNumber_66 rfl ?_
        obtain ⟨h7, eh7⟩ : ∃ y : Mem, y = mset h3 9 4 ((h3 9 4) + 1) := ⟨_, rfl⟩
        have hF := hF h7 eh7
        rw [← eh7]
        refine aw_goto (tgt := 2) (M := M_X8_takeNumber) (pc := 69) dX8_takeNumber_69 rfl ?_
        exact aw_ls [0, 1] rfl hF
      · have hF := hF.2 hc
        refine aw_iload_n (j := 1) (M := M_X8_takeNumber) (pc := 41) dX8_takeNumber_41 rfl rfl ?_
        refine aw_bipush (M := M_X8_takeNumber) (pc := 42) dX8_takeNumber_42 ⟨rfl, ⟨by decide, by decide⟩⟩ ?_
        obtain ⟨o8, hF⟩ := hF
        refine aw_imul (M := M_X8_takeNumber) (pc := 44) dX8_takeNumber_44 rfl o8 ?_
        refine aw_aload_n (j := 0) (M := M_X8_takeNumber) (pc := 45) dX8_takeNumber_45 rfl rfl ?_
        refine gf_X8_11 (M := M_X8_takeNumber) (pc := 46) rfl dX8_takeNumber_46 rfl (r := 10) rfl ?_
        refine aw_aload_n (j := 0) (M := M_X8_takeNumber) (pc := 49) dX8_takeNumber_49 rfl rfl ?_
        refine gf_X8_26 (M := M_X8_takeNumber) (pc := 50) rfl dX8_takeNumber_50 rfl ?_
        obtain ⟨o10, hF⟩ := hF
        refine aw_bald (k := (h3 9 4).toNat) (M := M_X8_takeNumber) (pc := 53) dX8_takeNumber_53 rfl o10 rfl ?_
        obtain ⟨o11, hF⟩ := hF
        refine aw_iadd (M := M_X8_takeNumber) (pc := 54) dX8_takeNumber_54 rfl o11 ?_
        refine aw_bipush (M := M_X8_takeNumber) (pc := 55) dX8_takeNumber_55 ⟨rfl, ⟨by decide, by decide⟩⟩ ?_
        obtain ⟨o12, hF⟩ := hF
        refine aw_isub (M := M_X8_takeNumber) (pc := 57) dX8_takeNumber_57 rfl o12 ?_
        obtain ⟨x13, ex13⟩ : ∃ y : Int, y = ((v1 * 10) + (h3 10 (h3 9 4).toNat)) - 48 := ⟨_, rfl⟩
        have hF := hF x13 ex13
        rw [← ex13]
        refine aw_istore_n (ls' := [(1, (0, x13)), (0, vr 9)]) (M := M_X8_takeNumber) (pc := 58) dX8_takeNumber_58 rfl (by decide) rfl ?_
        refine aw_aload_n (j := 1) (M := M_X8_takeNumber) (pc := 59) dX8_takeNumber_59 rfl rfl ?_
        refine aw_dup (M := M_X8_takeNumber) (pc := 60) dX8_takeNumber_60 rfl ?_
        refine gf_X8_26 (M := M_X8_takeNumber) (pc := 61) rfl dX8_takeNumber_61 rfl ?_
        refine aw_iconst (M := M_X8_takeNumber) (pc := 64) dX8_takeNumber_64 ⟨by decide, by decide⟩ ?_
        obtain ⟨o14, hF⟩ := hF
        refine aw_iadd (M := M_X8_takeNumber) (pc := 65) dX8_takeNumber_65 rfl o14 ?_
        refine pf_X8_26 (M := M_X8_takeNumber) (pc := 66) rfl dX8_takeNumber_66 rfl ?_
        obtain ⟨h15, eh15⟩ : ∃ y : Mem, y = mset h3 9 4 ((h3 9 4) + 1) := ⟨_, rfl⟩
        have hF := hF h15 eh15
        rw [← eh15]
        refine aw_goto (tgt := 2) (M := M_X8_takeNumber) (pc := 69) dX8_takeNumber_69 rfl ?_
        exact aw_ls [1, 0] rfl hF
def F_X8_takeNumber (h : Mem)  (Q : Mem → Prop) : Prop :=
  L_X8_takeNumber_2 h 0 Q
set_option maxRecDepth 100000 in
set_option maxHeartbeats 4000000 in
theorem f_X8_takeNumber {h : Mem}  {Q : Mem → Prop}  (hF : F_X8_takeNumber h  Q) : Ct yX8_takeNumber cX8_takeNumber 2 none (2, 65) [vr 9] h (qv Q) := by
  refine Ct.of np_RX8 (Nat.le_of_ble_eq_true rfl) ?_
  unfold F_X8_takeNumber at hF
  show AW M_X8_takeNumber 0 [(0, vr 9)] [] h (qv Q)
  refine aw_iconst (M := M_X8_takeNumber) (pc := 0) dX8_takeNumber_0 ⟨by decide, by decide⟩ ?_
  refine aw_istore_n (ls' := [(1, (0, 0)), (0, vr 9)]) (M := M_X8_takeNumber) (pc := 1) dX8_takeNumber_1 rfl (by decide) rfl ?_
  exact aw_ls [1, 0] rfl hF
abbrev M_X8_withLetter : Hd := (cX8_withLetter, 3, RX8, (some .long), (1, 45), sc0)
def F_X8_withLetter (h : Mem) (a1 : Int) (a2 : Int) (Q : Int → Mem → Prop) : Prop :=
  (InR (a2 - 97) ∧ (InR ((a2 - 97) + 1) ∧ Q (llor (lshl a1 5) ((a2 - 97) + 1)) h))
set_option maxRecDepth 100000 in
set_option maxHeartbeats 4000000 in
theorem f_X8_withLetter {h : Mem} {a1 : Int} {a2 : Int} {Q : Int → Mem → Prop}  (hF : F_X8_withLetter h a1 a2 Q) : Ct yX8_withLetter cX8_withLetter 3 (some .long) (1, 45) [(1, a1), (0, a2)] h (ql Q) := by
  refine Ct.of np_RX8 (Nat.le_of_ble_eq_true rfl) ?_
  unfold F_X8_withLetter at hF
  show AW M_X8_withLetter 0 [(0, (1, a1)), (2, (0, a2))] [] h (ql Q)
  refine aw_lload_n (j := 0) (M := M_X8_withLetter) (pc := 0) dX8_withLetter_0 rfl rfl ?_
  refine aw_iconst (M := M_X8_withLetter) (pc := 1) dX8_withLetter_1 ⟨by decide, by decide⟩ ?_
  refine aw_lshl (M := M_X8_withLetter) (pc := 2) dX8_withLetter_2 ?_
  refine aw_iload_n (j := 1) (M := M_X8_withLetter) (pc := 3) dX8_withLetter_3 rfl rfl ?_
  refine aw_bipush (M := M_X8_withLetter) (pc := 4) dX8_withLetter_4 ⟨rfl, ⟨by decide, by decide⟩⟩ ?_
  obtain ⟨o1, hF⟩ := hF
  refine aw_isub (M := M_X8_withLetter) (pc := 6) dX8_withLetter_6 rfl o1 ?_
  refine aw_iconst (M := M_X8_withLetter) (pc := 7) dX8_withLetter_7 ⟨by decide, by decide⟩ ?_
  obtain ⟨o2, hF⟩ := hF
  refine aw_iadd (M := M_X8_withLetter) (pc := 8) dX8_withLetter_8 rfl o2 ?_
  refine aw_i2l (M := M_X8_withLetter) (pc := 9) dX8_withLetter_9 ?_
  refine aw_lor (M := M_X8_withLetter) (pc := 10) dX8_withLetter_10 ?_
  exact aw_lret (M := M_X8_withLetter) (pc := 11) dX8_withLetter_11 rfl ⟨_, rfl, hF⟩
abbrev M_X8_takeWord : Hd := (cX8_takeWord, 4, RX8, none, (2, 67), sc0)
def L_X8_takeWord_7 (h : Mem) (v1 : Int) (Q : Mem → Prop) : Prop := AW M_X8_takeWord 7 [(0, vr 9), (1, (1, v1))] [] h (qv Q)
def L_X8_takeWord_82 (h : Mem) (v1 : Int) (v3 : Int) (Q : Mem → Prop) : Prop := AW M_X8_takeWord 82 [(0, vr 9), (1, (1, v1)), (3, (0, v3))] [] h (qv Q)
def J_X8_takeWord_60 (h : Mem) (v1 : Int) (Q : Mem → Prop) : Prop :=
  (InR ((h 9 4) - (h 9 6)) ∧ ((((h 9 4) - (h 9 6)) ≤ 8 → (∀ h13 : Mem, h13 = mset h 9 8 v1 → L_X8_takeWord_82 h13 v1 0 Q)) ∧ (¬ (((h 9 4) - (h 9 6)) ≤ 8) → Q h)))
set_option maxRecDepth 100000 in
set_option maxHeartbeats 4000000 in
theorem j_X8_takeWord_60 {h : Mem} {v1 : Int} {Q : Mem → Prop}  (hF : J_X8_takeWord_60 h v1 Q) : AW M_X8_takeWord 60 [(0, vr 9), (1, (1, v1))] [] h (qv Q) := by
  unfold J_X8_takeWord_60 at hF
  refine aw_aload_n (j := 0) (M := M_X8_takeWord) (pc := 60) dX8_takeWord_60 rfl rfl ?_
  refine gf_X8_26 (M := M_X8_takeWord) (pc := 61) rfl dX8_takeWord_61 rfl ?_
  refine aw_aload_n (j := 0) (M := M_X8_takeWord) (pc := 64) dX8_takeWord_64 rfl rfl ?_
  refine gf_X8_32 (M := M_X8_takeWord) (pc := 65) rfl dX8_takeWord_65 rfl ?_
  obtain ⟨o12, hF⟩ := hF
  refine aw_isub (M := M_X8_takeWord) (pc := 68) dX8_takeWord_68 rfl o12 ?_
  refine aw_bipush (M := M_X8_takeWord) (pc := 69) dX8_takeWord_69 ⟨rfl, ⟨by decide, by decide⟩⟩ ?_
  refine aw_icmp_le (tgt := 75) (M := M_X8_takeWord) (pc := 71) dX8_takeWord_71 rfl (fun hc => ?_) (fun hc => ?_)
  · have hF := hF.1 hc
    refine aw_aload_n (j := 0) (M := M_X8_takeWord) (pc := 75) dX8_takeWord_75 rfl rfl ?_
    refine aw_lload_n (j := 1) (M := M_X8_takeWord) (pc := 76) dX8_takeWord_76 rfl rfl ?_
    refine pf_X8_38 (M := M_X8_takeWord) (pc := 77) rfl dX8_takeWord_77 rfl ?_
    obtain ⟨h13, eh13⟩ : ∃ y : Mem, y = mset h 9 8 v1 := ⟨_, rfl⟩
    have hF := hF h13 eh13
    rw [← eh13]
    refine aw_iconst (M := M_X8_takeWord) (pc := 80) dX8_takeWord_80 ⟨by decide, by decide⟩ ?_
    refine aw_istore_n (ls' := [(3, (0, 0)), (0, vr 9), (1, (1, v1))]) (M := M_X8_takeWord) (pc := 81) dX8_takeWord_81 rfl (by decide) rfl ?_
    exact aw_ls [1, 2, 0] rfl hF
  · have hF := hF.2 hc
    exact aw_ret (M := M_X8_takeWord) (pc := 74) dX8_takeWord_74 rfl ⟨rfl, hF⟩
def B_X8_takeWord_7 (h : Mem) (v1 : Int) (Q : Mem → Prop) : Prop :=
  (((h 9 3) ≤ (h 9 4) → J_X8_takeWord_60 h v1 Q) ∧ (¬ ((h 9 3) ≤ (h 9 4)) → ((0 ≤ (h 9 4) ∧ (h 9 4) < 900) ∧ (F_X8_isLetter h (h 10 (h 9 4).toNat) (fun r5 h4 => ((r5 = 0 → J_X8_takeWord_60 h4 v1 Q) ∧ (¬ (r5 = 0) → ((0 ≤ (h4 9 4) ∧ (h4 9 4) < 900) ∧ (F_X8_withLetter h4 v1 (h4 10 (h4 9 4).toNat) (fun r9 h8 => (InR ((h8 9 4) + 1) ∧ (∀ h11 : Mem, h11 = mset h8 9 4 ((h8 9 4) + 1) → L_X8_takeWord_7 h11 r9 Q))))))))))))
set_option maxRecDepth 100000 in
set_option maxHeartbeats 4000000 in
theorem l_X8_takeWord_7 {h : Mem} {v1 : Int} {Q : Mem → Prop}  (hF : B_X8_takeWord_7 h v1 Q) : L_X8_takeWord_7 h v1 Q := by
  unfold B_X8_takeWord_7 at hF
  show AW M_X8_takeWord 7 [(0, vr 9), (1, (1, v1))] [] h (qv Q)
  refine aw_aload_n (j := 0) (M := M_X8_takeWord) (pc := 7) dX8_takeWord_7 rfl rfl ?_
  refine gf_X8_26 (M := M_X8_takeWord) (pc := 8) rfl dX8_takeWord_8 rfl ?_
  refine aw_aload_n (j := 0) (M := M_X8_takeWord) (pc := 11) dX8_takeWord_11 rfl rfl ?_
  refine gf_X8_23 (M := M_X8_takeWord) (pc := 12) rfl dX8_takeWord_12 rfl ?_
  refine aw_icmp_ge (tgt := 60) (M := M_X8_takeWord) (pc := 15) dX8_takeWord_15 rfl (fun hc => ?_) (fun hc => ?_)
  · have hF := hF.1 hc
    exact aw_ls [0, 1] rfl (j_X8_takeWord_60  hF)
  · have hF := hF.2 hc
    refine aw_aload_n (j := 0) (M := M_X8_takeWord) (pc := 18) dX8_takeWord_18 rfl rfl ?_
    refine gf_X8_11 (M := M_X8_takeWord) (pc := 19) rfl dX8_takeWord_19 rfl (r := 10) rfl ?_
    refine aw_aload_n (j := 0) (M := M_X8_takeWord) (pc := 22) dX8_takeWord_22 rfl rfl ?_
    refine gf_X8_26 (M := M_X8_takeWord) (pc := 23) rfl dX8_takeWord_23 rfl ?_
    obtain ⟨o3, hF⟩ := hF
    refine aw_bald (k := (h 9 4).toNat) (M := M_X8_takeWord) (pc := 26) dX8_takeWord_26 rfl o3 rfl ?_
    refine aw_csi (as := [(0, h 10 (h 9 4).toNat)]) (st := []) (M := M_X8_takeWord) (pc := 27) (f_X8_isLetter  hF) dX8_takeWord_27 rfl cy_X8_isLetter ml_X8_75 (by decide) (by decide) (Nat.le_of_ble_eq_true rfl) (fun r5 h4 hF => ?_)
    refine aw_if_eq (tgt := 60) (M := M_X8_takeWord) (pc := 30) dX8_takeWord_30 rfl (fun hc => ?_) (fun hc => ?_)
    · have hF := hF.1 hc
      exact aw_ls [0, 1] rfl (j_X8_takeWord_60  hF)
    · have hF := hF.2 hc
      refine aw_lload_n (j := 1) (M := M_X8_takeWord) (pc := 33) dX8_takeWord_33 rfl rfl ?_
      refine aw_aload_n (j := 0) (M := M_X8_takeWord) (pc := 34) dX8_takeWord_34 rfl rfl ?_
      refine gf_X8_11 (M := M_X8_takeWord) (pc := 35) rfl dX8_takeWord_35 rfl (r := 10) rfl ?_
      refine aw_aload_n (j := 0) (M := M_X8_takeWord) (pc := 38) dX8_takeWord_38 rfl rfl ?_
      refine gf_X8_26 (M := M_X8_takeWord) (pc := 39) rfl dX8_takeWord_39 rfl ?_
      obtain ⟨o7, hF⟩ := hF
      refine aw_bald (k := (h4 9 4).toNat) (M := M_X8_takeWord) (pc := 42) dX8_takeWord_42 rfl o7 rfl ?_
      refine aw_csl (as := [(1, v1), (0, h4 10 (h4 9 4).toNat)]) (st := []) (M := M_X8_takeWord) (pc := 43) (f_X8_withLetter  hF) dX8_takeWord_43 rfl cy_X8_withLetter ml_X8_59 (by decide) (by decide) (Nat.le_of_ble_eq_true rfl) (fun r9 h8 hF => ?_)
      refine aw_lstore_n (ls' := [(1, (1, r9)), (0, vr 9)]) (M := M_X8_takeWord) (pc := 46) dX8_takeWord_46 rfl (by decide) rfl ?_
      refine aw_aload_n (j := 1) (M := M_X8_takeWord) (pc := 47) dX8_takeWord_47 rfl rfl ?_
      refine aw_dup (M := M_X8_takeWord) (pc := 48) dX8_takeWord_48 rfl ?_
      refine gf_X8_26 (M := M_X8_takeWord) (pc := 49) rfl dX8_takeWord_49 rfl ?_
      refine aw_iconst (M := M_X8_takeWord) (pc := 52) dX8_takeWord_52 ⟨by decide, by decide⟩ ?_
      obtain ⟨o10, hF⟩ := hF
      refine aw_iadd (M := M_X8_takeWord) (pc := 53) dX8_takeWord_53 rfl o10 ?_
      refine pf_X8_26 (M := M_X8_takeWord) (pc := 54) rfl dX8_takeWord_54 rfl ?_
      obtain ⟨h11, eh11⟩ : ∃ y : Mem, y = mset h8 9 4 ((h8 9 4) + 1) := ⟨_, rfl⟩
      have hF := hF h11 eh11
      rw [← eh11]
      refine aw_goto (tgt := 7) (M := M_X8_takeWord) (pc := 57) dX8_takeWord_57 rfl ?_
      exact aw_ls [1, 0] rfl hF
def B_X8_takeWord_82 (h : Mem) (v1 : Int) (v3 : Int) (Q : Mem → Prop) : Prop :=
  ((24 ≤ v3 → Q h) ∧ (¬ (24 ≤ v3) → ((0 ≤ v3 ∧ v3 < 24) ∧ ((¬ ((h 11 (v3).toNat) = v1) → (InR (v3 + 1) ∧ L_X8_takeWord_82 h v1 (v3 + 1) Q)) ∧ ((h 11 (v3).toNat) = v1 → (∀ h17 : Mem, h17 = mset h 9 7 v3 → (InR (v3 + 1) ∧ L_X8_takeWord_82 h17 v1 (v3 + 1) Q)))))))
set_option maxRecDepth 100000 in
set_option maxHeartbeats 4000000 in
theorem l_X8_takeWord_82 {h : Mem} {v1 : Int} {v3 : Int} {Q : Mem → Prop}  (hF : B_X8_takeWord_82 h v1 v3 Q) : L_X8_takeWord_82 h v1 v3 Q := by
  unfold B_X8_takeWord_82 at hF
  show AW M_X8_takeWord 82 [(0, vr 9), (1, (1, v1)), (3, (0, v3))] [] h (qv Q)
  refine aw_iload_n (j := 2) (M := M_X8_takeWord) (pc := 82) dX8_takeWord_82 rfl rfl ?_
  refine aw_bipush (M := M_X8_takeWord) (pc := 83) dX8_takeWord_83 ⟨rfl, ⟨by decide, by decide⟩⟩ ?_
  refine aw_icmp_ge (tgt := 110) (M := M_X8_takeWord) (pc := 85) dX8_takeWord_85 rfl (fun hc => ?_) (fun hc => ?_)
  · have hF := hF.1 hc
    exact aw_ret (M := M_X8_takeWord) (pc := 110) dX8_takeWord_110 rfl ⟨rfl, hF⟩
  · have hF := hF.2 hc
    refine aw_aload_n (j := 0) (M := M_X8_takeWord) (pc := 88) dX8_takeWord_88 rfl rfl ?_
    refine gf_X8_19 (M := M_X8_takeWord) (pc := 89) rfl dX8_takeWord_89 rfl (r := 11) rfl ?_
    refine aw_iload_n (j := 2) (M := M_X8_takeWord) (pc := 92) dX8_takeWord_92 rfl rfl ?_
    obtain ⟨o15, hF⟩ := hF
    refine aw_lald (k := (v3).toNat) (M := M_X8_takeWord) (pc := 93) dX8_takeWord_93 rfl o15 rfl ?_
    refine aw_lload_n (j := 1) (M := M_X8_takeWord) (pc := 94) dX8_takeWord_94 rfl rfl ?_
    refine aw_lcmp (M := M_X8_takeWord) (pc := 95) dX8_takeWord_95 ?_
    refine aw_if_ne (tgt := 104) (M := M_X8_takeWord) (pc := 96) dX8_takeWord_96 rfl (fun hc => ?_) (fun hc => ?_)
    · have hF := hF.1 (fun z => hc (lc_eq.mpr z))
      obtain ⟨o16, hF⟩ := hF
      refine aw_iinc (j := 2) (x := v3) (r := v3 + 1) (ls' := [(3, (0, v3 + 1)), (0, vr 9), (1, (1, v1))]) (M := M_X8_takeWord) (pc := 104) dX8_takeWord_104 rfl rfl o16 (by decide) rfl ?_
      refine aw_goto (tgt := 82) (M := M_X8_takeWord) (pc := 107) dX8_takeWord_107 rfl ?_
      exact aw_ls [1, 2, 0] rfl hF
    · have hF := hF.2 (lc_eq.mp hc)
      refine aw_aload_n (j := 0) (M := M_X8_takeWord) (pc := 99) dX8_takeWord_99 rfl rfl ?_
      refine aw_iload_n (j := 2) (M := M_X8_takeWord) (pc := 100) dX8_takeWord_100 rfl rfl ?_
      refine pf_X8_35 (M := M_X8_takeWord) (pc := 101) rfl dX8_takeWord_101 rfl ?_
      obtain ⟨h17, eh17⟩ : ∃ y : Mem, y = mset h 9 7 v3 := ⟨_, rfl⟩
      have hF := hF h17 eh17
      rw [← eh17]
      obtain ⟨o18, hF⟩ := hF
      refine aw_iinc (j := 2) (x := v3) (r := v3 + 1) (ls' := [(3, (0, v3 + 1)), (0, vr 9), (1, (1, v1))]) (M := M_X8_takeWord) (pc := 104) dX8_takeWord_104 rfl rfl o18 (by decide) rfl ?_
      refine aw_goto (tgt := 82) (M := M_X8_takeWord) (pc := 107) dX8_takeWord_107 rfl ?_
      exact aw_ls [1, 2, 0] rfl hF
def F_X8_takeWord (h : Mem)  (Q : Mem → Prop) : Prop :=
  (∀ h1 : Mem, h1 = mset h 9 5 1 → L_X8_takeWord_7 h1 0 Q)
set_option maxRecDepth 100000 in
set_option maxHeartbeats 4000000 in
theorem f_X8_takeWord {h : Mem}  {Q : Mem → Prop}  (hF : F_X8_takeWord h  Q) : Ct yX8_takeWord cX8_takeWord 4 none (2, 67) [vr 9] h (qv Q) := by
  refine Ct.of np_RX8 (Nat.le_of_ble_eq_true rfl) ?_
  unfold F_X8_takeWord at hF
  show AW M_X8_takeWord 0 [(0, vr 9)] [] h (qv Q)
  refine aw_aload_n (j := 0) (M := M_X8_takeWord) (pc := 0) dX8_takeWord_0 rfl rfl ?_
  refine aw_iconst (M := M_X8_takeWord) (pc := 1) dX8_takeWord_1 ⟨by decide, by decide⟩ ?_
  refine pf_X8_29 (M := M_X8_takeWord) (pc := 2) rfl dX8_takeWord_2 rfl ?_
  obtain ⟨h1, eh1⟩ : ∃ y : Mem, y = mset h 9 5 1 := ⟨_, rfl⟩
  have hF := hF h1 eh1
  rw [← eh1]
  refine aw_lconst (v := 0) (M := M_X8_takeWord) (pc := 5) dX8_takeWord_5 ⟨rfl, ⟨by decide, by decide⟩⟩ ?_
  refine aw_lstore_n (ls' := [(1, (1, 0)), (0, vr 9)]) (M := M_X8_takeWord) (pc := 6) dX8_takeWord_6 rfl (by decide) rfl ?_
  exact aw_ls [1, 0] rfl hF
abbrev M_X8_advance : Hd := (cX8_advance, 2, RX8, none, (3, 90), sc0)
def L_X8_advance_0 (h : Mem)  (Q : Mem → Prop) : Prop := AW M_X8_advance 0 [(0, vr 9)] [] h (qv Q)
def J_X8_advance_166 (h : Mem) (v1 : Int) (Q : Mem → Prop) : Prop :=
  (∀ h34 : Mem, h34 = mset h 9 5 3 → (∀ h35 : Mem, h35 = mset h34 9 7 v1 → (InR ((h35 9 4) + 1) ∧ (∀ h37 : Mem, h37 = mset h35 9 4 ((h35 9 4) + 1) → Q h37))))
set_option maxRecDepth 100000 in
set_option maxHeartbeats 4000000 in
theorem j_X8_advance_166 {h : Mem} {v1 : Int} {Q : Mem → Prop}  (hF : J_X8_advance_166 h v1 Q) : AW M_X8_advance 166 [(0, vr 9), (1, (0, v1))] [] h (qv Q) := by
  unfold J_X8_advance_166 at hF
  refine aw_aload_n (j := 0) (M := M_X8_advance) (pc := 166) dX8_advance_166 rfl rfl ?_
  refine aw_iconst (M := M_X8_advance) (pc := 167) dX8_advance_167 ⟨by decide, by decide⟩ ?_
  refine pf_X8_29 (M := M_X8_advance) (pc := 168) rfl dX8_advance_168 rfl ?_
  obtain ⟨h34, eh34⟩ : ∃ y : Mem, y = mset h 9 5 3 := ⟨_, rfl⟩
  have hF := hF h34 eh34
  rw [← eh34]
  refine aw_aload_n (j := 0) (M := M_X8_advance) (pc := 171) dX8_advance_171 rfl rfl ?_
  refine aw_iload_n (j := 1) (M := M_X8_advance) (pc := 172) dX8_advance_172 rfl rfl ?_
  refine pf_X8_35 (M := M_X8_advance) (pc := 173) rfl dX8_advance_173 rfl ?_
  obtain ⟨h35, eh35⟩ : ∃ y : Mem, y = mset h34 9 7 v1 := ⟨_, rfl⟩
  have hF := hF h35 eh35
  rw [← eh35]
  refine aw_aload_n (j := 0) (M := M_X8_advance) (pc := 176) dX8_advance_176 rfl rfl ?_
  refine aw_dup (M := M_X8_advance) (pc := 177) dX8_advance_177 rfl ?_
  refine gf_X8_26 (M := M_X8_advance) (pc := 178) rfl dX8_advance_178 rfl ?_
  refine aw_iconst (M := M_X8_advance) (pc := 181) dX8_advance_181 ⟨by decide, by decide⟩ ?_
  obtain ⟨o36, hF⟩ := hF
  refine aw_iadd (M := M_X8_advance) (pc := 182) dX8_advance_182 rfl o36 ?_
  refine pf_X8_26 (M := M_X8_advance) (pc := 183) rfl dX8_advance_183 rfl ?_
  obtain ⟨h37, eh37⟩ : ∃ y : Mem, y = mset h35 9 4 ((h35 9 4) + 1) := ⟨_, rfl⟩
  have hF := hF h37 eh37
  rw [← eh37]
  refine aw_goto (tgt := 194) (M := M_X8_advance) (pc := 186) dX8_advance_186 rfl ?_
  exact aw_ret (M := M_X8_advance) (pc := 194) dX8_advance_194 rfl ⟨rfl, hF⟩
def J_X8_advance_52 (h : Mem)  (Q : Mem → Prop) : Prop :=
  (∀ h8 : Mem, h8 = mset h 9 6 (h 9 4) → (∀ h9 : Mem, h9 = mset h8 9 7 (-1) → (∀ h10 : Mem, h10 = mset h9 9 8 0 → (((h10 9 3) ≤ (h10 9 4) → (((h10 9 4) < (h10 9 3) → (F_X8_isLetter h10 (-1) (fun r12 h11 => ((r12 = 0 → (F_X8_isDigit h11 (-1) (fun r14 h13 => ((r14 = 0 → (∀ h15 : Mem, h15 = mset h13 9 5 4 → Q h15)) ∧ (¬ (r14 = 0) → (F_X8_takeNumber h13  (fun h16 => Q h16))))))) ∧ (¬ (r12 = 0) → (F_X8_takeWord h11  (fun h18 => Q h18))))))) ∧ (¬ ((h10 9 4) < (h10 9 3)) → (∀ h20 : Mem, h20 = mset h10 9 5 0 → Q h20)))) ∧ (¬ ((h10 9 3) ≤ (h10 9 4)) → ((0 ≤ (h10 9 4) ∧ (h10 9 4) < 900) ∧ (∀ x23 : Int, x23 = h10 10 (h10 9 4).toNat → (((h10 9 4) < (h10 9 3) → (F_X8_isLetter h10 x23 (fun r25 h24 => ((r25 = 0 → (F_X8_isDigit h24 x23 (fun r27 h26 => ((r27 = 0 → ((x23 = 59 → J_X8_advance_166 h26 x23 Q) ∧ (¬ (x23 = 59) → ((x23 = 60 → J_X8_advance_166 h26 x23 Q) ∧ (¬ (x23 = 60) → ((x23 = 62 → J_X8_advance_166 h26 x23 Q) ∧ (¬ (x23 = 62) → ((¬ (x23 = 61) → (∀ h28 : Mem, h28 = mset h26 9 5 4 → Q h28)) ∧ (x23 = 61 → J_X8_advance_166 h26 x23 Q))))))))) ∧ (¬ (r27 = 0) → (F_X8_takeNumber h26  (fun h29 => Q h29))))))) ∧ (¬ (r25 = 0) → (F_X8_takeWord h24  (fun h31 => Q h31))))))) ∧ (¬ ((h10 9 4) < (h10 9 3)) → (∀ h33 : Mem, h33 = mset h10 9 5 0 → Q h33))))))))))
set_option maxRecDepth 100000 in
set_option maxHeartbeats 4000000 in
theorem j_X8_advance_52 {h : Mem}  {Q : Mem → Prop}  (hF : J_X8_advance_52 h  Q) : AW M_X8_advance 52 [(0, vr 9)] [] h (qv Q) := by
  unfold J_X8_advance_52 at hF
  refine aw_aload_n (j := 0) (M := M_X8_advance) (pc := 52) dX8_advance_52 rfl rfl ?_
  refine aw_aload_n (j := 0) (M := M_X8_advance) (pc := 53) dX8_advance_53 rfl rfl ?_
  refine gf_X8_26 (M := M_X8_advance) (pc := 54) rfl dX8_advance_54 rfl ?_
  refine pf_X8_32 (M := M_X8_advance) (pc := 57) rfl dX8_advance_57 rfl ?_
  obtain ⟨h8, eh8⟩ : ∃ y : Mem, y = mset h 9 6 (h 9 4) := ⟨_, rfl⟩
  have hF := hF h8 eh8
  rw [← eh8]
  refine aw_aload_n (j := 0) (M := M_X8_advance) (pc := 60) dX8_advance_60 rfl rfl ?_
  refine aw_iconst (M := M_X8_advance) (pc := 61) dX8_advance_61 ⟨by decide, by decide⟩ ?_
  refine pf_X8_35 (M := M_X8_advance) (pc := 62) rfl dX8_advance_62 rfl ?_
  obtain ⟨h9, eh9⟩ : ∃ y : Mem, y = mset h8 9 7 (-1) := ⟨_, rfl⟩
  have hF := hF h9 eh9
  rw [← eh9]
  refine aw_aload_n (j := 0) (M := M_X8_advance) (pc := 65) dX8_advance_65 rfl rfl ?_
  refine aw_lconst (v := 0) (M := M_X8_advance) (pc := 66) dX8_advance_66 ⟨rfl, ⟨by decide, by decide⟩⟩ ?_
  refine pf_X8_38 (M := M_X8_advance) (pc := 67) rfl dX8_advance_67 rfl ?_
  obtain ⟨h10, eh10⟩ : ∃ y : Mem, y = mset h9 9 8 0 := ⟨_, rfl⟩
  have hF := hF h10 eh10
  rw [← eh10]
  refine aw_aload_n (j := 0) (M := M_X8_advance) (pc := 70) dX8_advance_70 rfl rfl ?_
  refine gf_X8_26 (M := M_X8_advance) (pc := 71) rfl dX8_advance_71 rfl ?_
  refine aw_aload_n (j := 0) (M := M_X8_advance) (pc := 74) dX8_advance_74 rfl rfl ?_
  refine gf_X8_23 (M := M_X8_advance) (pc := 75) rfl dX8_advance_75 rfl ?_
  refine aw_icmp_ge (tgt := 93) (M := M_X8_advance) (pc := 78) dX8_advance_78 rfl (fun hc => ?_) (fun hc => ?_)
  · have hF := hF.1 hc
    refine aw_iconst (M := M_X8_advance) (pc := 93) dX8_advance_93 ⟨by decide, by decide⟩ ?_
    refine aw_istore_n (ls' := [(1, (0, (-1))), (0, vr 9)]) (M := M_X8_advance) (pc := 94) dX8_advance_94 rfl (by decide) rfl ?_
    refine aw_aload_n (j := 1) (M := M_X8_advance) (pc := 95) dX8_advance_95 rfl rfl ?_
    refine gf_X8_26 (M := M_X8_advance) (pc := 96) rfl dX8_advance_96 rfl ?_
    refine aw_aload_n (j := 1) (M := M_X8_advance) (pc := 99) dX8_advance_99 rfl rfl ?_
    refine gf_X8_23 (M := M_X8_advance) (pc := 100) rfl dX8_advance_100 rfl ?_
    refine aw_icmp_lt (tgt := 114) (M := M_X8_advance) (pc := 103) dX8_advance_103 rfl (fun hc => ?_) (fun hc => ?_)
    · have hF := hF.1 hc
      refine aw_iload_n (j := 0) (M := M_X8_advance) (pc := 114) dX8_advance_114 rfl rfl ?_
      refine aw_csi (as := [(0, (-1))]) (st := []) (M := M_X8_advance) (pc := 115) (f_X8_isLetter  hF) dX8_advance_115 rfl cy_X8_isLetter ml_X8_75 (by decide) (by decide) (Nat.le_of_ble_eq_true rfl) (fun r12 h11 hF => ?_)
      refine aw_if_eq (tgt := 128) (M := M_X8_advance) (pc := 118) dX8_advance_118 rfl (fun hc => ?_) (fun hc => ?_)
      · have hF := hF.1 hc
        refine aw_iload_n (j := 0) (M := M_X8_advance) (pc := 128) dX8_advance_128 rfl rfl ?_
        refine aw_csi (as := [(0, (-1))]) (st := []) (M := M_X8_advance) (pc := 129) (f_X8_isDigit  hF) dX8_advance_129 rfl cy_X8_isDigit ml_X8_82 (by decide) (by decide) (Nat.le_of_ble_eq_true rfl) (fun r14 h13 hF => ?_)
        refine aw_if_eq (tgt := 142) (M := M_X8_advance) (pc := 132) dX8_advance_132 rfl (fun hc => ?_) (fun hc => ?_)
        · have hF := hF.1 hc
          refine aw_iload_n (j := 0) (M := M_X8_advance) (pc := 142) dX8_advance_142 rfl rfl ?_
          refine aw_bipush (M := M_X8_advance) (pc := 143) dX8_advance_143 ⟨rfl, ⟨by decide, by decide⟩⟩ ?_
          refine aw_icmp_eq (tgt := 166) (M := M_X8_advance) (pc := 145) dX8_advance_145 rfl (fun hc => absurd hc (by decide)) (fun hc => ?_)
          refine aw_iload_n (j := 0) (M := M_X8_advance) (pc := 148) dX8_advance_148 rfl rfl ?_
          refine aw_bipush (M := M_X8_advance) (pc := 149) dX8_advance_149 ⟨rfl, ⟨by decide, by decide⟩⟩ ?_
          refine aw_icmp_eq (tgt := 166) (M := M_X8_advance) (pc := 151) dX8_advance_151 rfl (fun hc => absurd hc (by decide)) (fun hc => ?_)
          refine aw_iload_n (j := 0) (M := M_X8_advance) (pc := 154) dX8_advance_154 rfl rfl ?_
          refine aw_bipush (M := M_X8_advance) (pc := 155) dX8_advance_155 ⟨rfl, ⟨by decide, by decide⟩⟩ ?_
          refine aw_icmp_eq (tgt := 166) (M := M_X8_advance) (pc := 157) dX8_advance_157 rfl (fun hc => absurd hc (by decide)) (fun hc => ?_)
          refine aw_iload_n (j := 0) (M := M_X8_advance) (pc := 160) dX8_advance_160 rfl rfl ?_
          refine aw_bipush (M := M_X8_advance) (pc := 161) dX8_advance_161 ⟨rfl, ⟨by decide, by decide⟩⟩ ?_
          refine aw_icmp_ne (tgt := 189) (M := M_X8_advance) (pc := 163) dX8_advance_163 rfl (fun hc => ?_) (fun hc => absurd hc (by decide))
          refine aw_aload_n (j := 1) (M := M_X8_advance) (pc := 189) dX8_advance_189 rfl rfl ?_
          refine aw_iconst (M := M_X8_advance) (pc := 190) dX8_advance_190 ⟨by decide, by decide⟩ ?_
          refine pf_X8_29 (M := M_X8_advance) (pc := 191) rfl dX8_advance_191 rfl ?_
          obtain ⟨h15, eh15⟩ : ∃ y : Mem, y = mset h13 9 5 4 := ⟨_, rfl⟩
          have hF := hF h15 eh15
          rw [← eh15]
          exact aw_ret (M := M_X8_advance) (pc := 194) dX8_advance_194 rfl ⟨rfl, hF⟩
        · have hF := hF.2 hc
          refine aw_aload_n (j := 1) (M := M_X8_advance) (pc := 135) dX8_advance_135 rfl rfl ?_
          refine aw_cvv (as := []) (st := []) (M := M_X8_advance) (pc := 136) (f_X8_takeNumber  hF) dX8_advance_136 rfl (Or.inl ⟨_, _, _, rfl, rfl⟩) cy_X8_takeNumber ml_X8_85 (by decide) (by decide) (Nat.le_of_ble_eq_true rfl) (fun h16 hF => ?_)
          refine aw_goto (tgt := 194) (M := M_X8_advance) (pc := 139) dX8_advance_139 rfl ?_
          exact aw_ret (M := M_X8_advance) (pc := 194) dX8_advance_194 rfl ⟨rfl, hF⟩
      · have hF := hF.2 hc
        refine aw_aload_n (j := 1) (M := M_X8_advance) (pc := 121) dX8_advance_121 rfl rfl ?_
        refine aw_cvv (as := []) (st := []) (M := M_X8_advance) (pc := 122) (f_X8_takeWord  hF) dX8_advance_122 rfl (Or.inl ⟨_, _, _, rfl, rfl⟩) cy_X8_takeWord ml_X8_79 (by decide) (by decide) (Nat.le_of_ble_eq_true rfl) (fun h18 hF => ?_)
        refine aw_goto (tgt := 194) (M := M_X8_advance) (pc := 125) dX8_advance_125 rfl ?_
        exact aw_ret (M := M_X8_advance) (pc := 194) dX8_advance_194 rfl ⟨rfl, hF⟩
    · have hF := hF.2 hc
      refine aw_aload_n (j := 1) (M := M_X8_advance) (pc := 106) dX8_advance_106 rfl rfl ?_
      refine aw_iconst (M := M_X8_advance) (pc := 107) dX8_advance_107 ⟨by decide, by decide⟩ ?_
      refine pf_X8_29 (M := M_X8_advance) (pc := 108) rfl dX8_advance_108 rfl ?_
      obtain ⟨h20, eh20⟩ : ∃ y : Mem, y = mset h10 9 5 0 := ⟨_, rfl⟩
      have hF := hF h20 eh20
      rw [← eh20]
      refine aw_goto (tgt := 194) (M := M_X8_advance) (pc := 111) dX8_advance_111 rfl ?_
      exact aw_ret (M := M_X8_advance) (pc := 194) dX8_advance_194 rfl ⟨rfl, hF⟩
  · have hF := hF.2 hc
    refine aw_aload_n (j := 0) (M := M_X8_advance) (pc := 81) dX8_advance_81 rfl rfl ?_
    refine gf_X8_11 (M := M_X8_advance) (pc := 82) rfl dX8_advance_82 rfl (r := 10) rfl ?_
    refine aw_aload_n (j := 0) (M := M_X8_advance) (pc := 85) dX8_advance_85 rfl rfl ?_
    refine gf_X8_26 (M := M_X8_advance) (pc := 86) rfl dX8_advance_86 rfl ?_
    obtain ⟨o22, hF⟩ := hF
    refine aw_bald (k := (h10 9 4).toNat) (M := M_X8_advance) (pc := 89) dX8_advance_89 rfl o22 rfl ?_
    refine aw_goto (tgt := 94) (M := M_X8_advance) (pc := 90) dX8_advance_90 rfl ?_
    obtain ⟨x23, ex23⟩ : ∃ y : Int, y = h10 10 (h10 9 4).toNat := ⟨_, rfl⟩
    have hF := hF x23 ex23
    rw [← ex23]
    refine aw_istore_n (ls' := [(1, (0, x23)), (0, vr 9)]) (M := M_X8_advance) (pc := 94) dX8_advance_94 rfl (by decide) rfl ?_
    refine aw_aload_n (j := 1) (M := M_X8_advance) (pc := 95) dX8_advance_95 rfl rfl ?_
    refine gf_X8_26 (M := M_X8_advance) (pc := 96) rfl dX8_advance_96 rfl ?_
    refine aw_aload_n (j := 1) (M := M_X8_advance) (pc := 99) dX8_advance_99 rfl rfl ?_
    refine gf_X8_23 (M := M_X8_advance) (pc := 100) rfl dX8_advance_100 rfl ?_
    refine aw_icmp_lt (tgt := 114) (M := M_X8_advance) (pc := 103) dX8_advance_103 rfl (fun hc => ?_) (fun hc => ?_)
    · have hF := hF.1 hc
      refine aw_iload_n (j := 0) (M := M_X8_advance) (pc := 114) dX8_advance_114 rfl rfl ?_
      refine aw_csi (as := [(0, x23)]) (st := []) (M := M_X8_advance) (pc := 115) (f_X8_isLetter  hF) dX8_advance_115 rfl cy_X8_isLetter ml_X8_75 (by decide) (by decide) (Nat.le_of_ble_eq_true rfl) (fun r25 h24 hF => ?_)
      refine aw_if_eq (tgt := 128) (M := M_X8_advance) (pc := 118) dX8_advance_118 rfl (fun hc => ?_) (fun hc => ?_)
      · have hF := hF.1 hc
        refine aw_iload_n (j := 0) (M := M_X8_advance) (pc := 128) dX8_advance_128 rfl rfl ?_
        refine aw_csi (as := [(0, x23)]) (st := []) (M := M_X8_advance) (pc := 129) (f_X8_isDigit  hF) dX8_advance_129 rfl cy_X8_isDigit ml_X8_82 (by decide) (by decide) (Nat.le_of_ble_eq_true rfl) (fun r27 h26 hF => ?_)
        refine aw_if_eq (tgt := 142) (M := M_X8_advance) (pc := 132) dX8_advance_132 rfl (fun hc => ?_) (fun hc => ?_)
        · have hF := hF.1 hc
          refine aw_iload_n (j := 0) (M := M_X8_advance) (pc := 142) dX8_advance_142 rfl rfl ?_
          refine aw_bipush (M := M_X8_advance) (pc := 143) dX8_advance_143 ⟨rfl, ⟨by decide, by decide⟩⟩ ?_
          refine aw_icmp_eq (tgt := 166) (M := M_X8_advance) (pc := 145) dX8_advance_145 rfl (fun hc => ?_) (fun hc => ?_)
          · have hF := hF.1 hc
            exact aw_ls [1, 0] rfl (j_X8_advance_166  hF)
          · have hF := hF.2 hc
            refine aw_iload_n (j := 0) (M := M_X8_advance) (pc := 148) dX8_advance_148 rfl rfl ?_
            refine aw_bipush (M := M_X8_advance) (pc := 149) dX8_advance_149 ⟨rfl, ⟨by decide, by decide⟩⟩ ?_
            refine aw_icmp_eq (tgt := 166) (M := M_X8_advance) (pc := 151) dX8_advance_151 rfl (fun hc => ?_) (fun hc => ?_)
            · have hF := hF.1 hc
              exact aw_ls [1, 0] rfl (j_X8_advance_166  hF)
            · have hF := hF.2 hc
              refine aw_iload_n (j := 0) (M := M_X8_advance) (pc := 154) dX8_advance_154 rfl rfl ?_
              refine aw_bipush (M := M_X8_advance) (pc := 155) dX8_advance_155 ⟨rfl, ⟨by decide, by decide⟩⟩ ?_
              refine aw_icmp_eq (tgt := 166) (M := M_X8_advance) (pc := 157) dX8_advance_157 rfl (fun hc => ?_) (fun hc => ?_)
              · have hF := hF.1 hc
                exact aw_ls [1, 0] rfl (j_X8_advance_166  hF)
              · have hF := hF.2 hc
                refine aw_iload_n (j := 0) (M := M_X8_advance) (pc := 160) dX8_advance_160 rfl rfl ?_
                refine aw_bipush (M := M_X8_advance) (pc := 161) dX8_advance_161 ⟨rfl, ⟨by decide, by decide⟩⟩ ?_
                refine aw_icmp_ne (tgt := 189) (M := M_X8_advance) (pc := 163) dX8_advance_163 rfl (fun hc => ?_) (fun hc => ?_)
                · have hF := hF.1 hc
                  refine aw_aload_n (j := 1) (M := M_X8_advance) (pc := 189) dX8_advance_189 rfl rfl ?_
                  refine aw_iconst (M := M_X8_advance) (pc := 190) dX8_advance_190 ⟨by decide, by decide⟩ ?_
                  refine pf_X8_29 (M := M_X8_advance) (pc := 191) rfl dX8_advance_191 rfl ?_
                  obtain ⟨h28, eh28⟩ : ∃ y : Mem, y = mset h26 9 5 4 := ⟨_, rfl⟩
                  have hF := hF h28 eh28
                  rw [← eh28]
                  exact aw_ret (M := M_X8_advance) (pc := 194) dX8_advance_194 rfl ⟨rfl, hF⟩
                · have hF := hF.2 hc
                  exact aw_ls [1, 0] rfl (j_X8_advance_166  hF)
        · have hF := hF.2 hc
          refine aw_aload_n (j := 1) (M := M_X8_advance) (pc := 135) dX8_advance_135 rfl rfl ?_
          refine aw_cvv (as := []) (st := []) (M := M_X8_advance) (pc := 136) (f_X8_takeNumber  hF) dX8_advance_136 rfl (Or.inl ⟨_, _, _, rfl, rfl⟩) cy_X8_takeNumber ml_X8_85 (by decide) (by decide) (Nat.le_of_ble_eq_true rfl) (fun h29 hF => ?_)
          refine aw_goto (tgt := 194) (M := M_X8_advance) (pc := 139) dX8_advance_139 rfl ?_
          exact aw_ret (M := M_X8_advance) (pc := 194) dX8_advance_194 rfl ⟨rfl, hF⟩
      · have hF := hF.2 hc
        refine aw_aload_n (j := 1) (M := M_X8_advance) (pc := 121) dX8_advance_121 rfl rfl ?_
        refine aw_cvv (as := []) (st := []) (M := M_X8_advance) (pc := 122) (f_X8_takeWord  hF) dX8_advance_122 rfl (Or.inl ⟨_, _, _, rfl, rfl⟩) cy_X8_takeWord ml_X8_79 (by decide) (by decide) (Nat.le_of_ble_eq_true rfl) (fun h31 hF => ?_)
        refine aw_goto (tgt := 194) (M := M_X8_advance) (pc := 125) dX8_advance_125 rfl ?_
        exact aw_ret (M := M_X8_advance) (pc := 194) dX8_advance_194 rfl ⟨rfl, hF⟩
    · have hF := hF.2 hc
      refine aw_aload_n (j := 1) (M := M_X8_advance) (pc := 106) dX8_advance_106 rfl rfl ?_
      refine aw_iconst (M := M_X8_advance) (pc := 107) dX8_advance_107 ⟨by decide, by decide⟩ ?_
      refine pf_X8_29 (M := M_X8_advance) (pc := 108) rfl dX8_advance_108 rfl ?_
      obtain ⟨h33, eh33⟩ : ∃ y : Mem, y = mset h10 9 5 0 := ⟨_, rfl⟩
      have hF := hF h33 eh33
      rw [← eh33]
      refine aw_goto (tgt := 194) (M := M_X8_advance) (pc := 111) dX8_advance_111 rfl ?_
      exact aw_ret (M := M_X8_advance) (pc := 194) dX8_advance_194 rfl ⟨rfl, hF⟩
def B_X8_advance_0 (h : Mem)  (Q : Mem → Prop) : Prop :=
  (((h 9 3) ≤ (h 9 4) → J_X8_advance_52 h  Q) ∧ (¬ ((h 9 3) ≤ (h 9 4)) → ((0 ≤ (h 9 4) ∧ (h 9 4) < 900) ∧ (((h 10 (h 9 4).toNat) = 10 → (InR ((h 9 4) + 1) ∧ (∀ h4 : Mem, h4 = mset h 9 4 ((h 9 4) + 1) → L_X8_advance_0 h4  Q))) ∧ (¬ ((h 10 (h 9 4).toNat) = 10) → ((¬ ((h 10 (h 9 4).toNat) = 32) → J_X8_advance_52 h  Q) ∧ ((h 10 (h 9 4).toNat) = 32 → (InR ((h 9 4) + 1) ∧ (∀ h7 : Mem, h7 = mset h 9 4 ((h 9 4) + 1) → L_X8_advance_0 h7  Q)))))))))
set_option maxRecDepth 100000 in
set_option maxHeartbeats 4000000 in
theorem l_X8_advance_0 {h : Mem}  {Q : Mem → Prop}  (hF : B_X8_advance_0 h  Q) : L_X8_advance_0 h  Q := by
  unfold B_X8_advance_0 at hF
  show AW M_X8_advance 0 [(0, vr 9)] [] h (qv Q)
  refine aw_aload_n (j := 0) (M := M_X8_advance) (pc := 0) dX8_advance_0 rfl rfl ?_
  refine gf_X8_26 (M := M_X8_advance) (pc := 1) rfl dX8_advance_1 rfl ?_
  refine aw_aload_n (j := 0) (M := M_X8_advance) (pc := 4) dX8_advance_4 rfl rfl ?_
  refine gf_X8_23 (M := M_X8_advance) (pc := 5) rfl dX8_advance_5 rfl ?_
  refine aw_icmp_ge (tgt := 52) (M := M_X8_advance) (pc := 8) dX8_advance_8 rfl (fun hc => ?_) (fun hc => ?_)
  · have hF := hF.1 hc
    exact aw_ls [0] rfl (j_X8_advance_52  hF)
  · have hF := hF.2 hc
    refine aw_aload_n (j := 0) (M := M_X8_advance) (pc := 11) dX8_advance_11 rfl rfl ?_
    refine gf_X8_11 (M := M_X8_advance) (pc := 12) rfl dX8_advance_12 rfl (r := 10) rfl ?_
    refine aw_aload_n (j := 0) (M := M_X8_advance) (pc := 15) dX8_advance_15 rfl rfl ?_
    refine gf_X8_26 (M := M_X8_advance) (pc := 16) rfl dX8_advance_16 rfl ?_
    obtain ⟨o2, hF⟩ := hF
    refine aw_bald (k := (h 9 4).toNat) (M := M_X8_advance) (pc := 19) dX8_advance_19 rfl o2 rfl ?_
    refine aw_bipush (M := M_X8_advance) (pc := 20) dX8_advance_20 ⟨rfl, ⟨by decide, by decide⟩⟩ ?_
    refine aw_icmp_eq (tgt := 39) (M := M_X8_advance) (pc := 22) dX8_advance_22 rfl (fun hc => ?_) (fun hc => ?_)
    · have hF := hF.1 hc
      refine aw_aload_n (j := 0) (M := M_X8_advance) (pc := 39) dX8_advance_39 rfl rfl ?_
      refine aw_dup (M := M_X8_advance) (pc := 40) dX8_advance_40 rfl ?_
      refine gf_X8_26 (M := M_X8_advance) (pc := 41) rfl dX8_advance_41 rfl ?_
      refine aw_iconst (M := M_X8_advance) (pc := 44) dX8_advance_44 ⟨by decide, by decide⟩ ?_
      obtain ⟨o3, hF⟩ := hF
      refine aw_iadd (M := M_X8_advance) (pc := 45) dX8_advance_45 rfl o3 ?_
      refine pf_X8_26 (M := M_X8_advance) (pc := 46) rfl dX8_advance_46 rfl ?_
      obtain ⟨h4, eh4⟩ : ∃ y : Mem, y = mset h 9 4 ((h 9 4) + 1) := ⟨_, rfl⟩
      have hF := hF h4 eh4
      rw [← eh4]
      refine aw_goto (tgt := 0) (M := M_X8_advance) (pc := 49) dX8_advance_49 rfl ?_
      exact aw_ls [0] rfl hF
    · have hF := hF.2 hc
      refine aw_aload_n (j := 0) (M := M_X8_advance) (pc := 25) dX8_advance_25 rfl rfl ?_
      refine gf_X8_11 (M := M_X8_advance) (pc := 26) rfl dX8_advance_26 rfl (r := 10) rfl ?_
      refine aw_aload_n (j := 0) (M := M_X8_advance) (pc := 29) dX8_advance_29 rfl rfl ?_
      refine gf_X8_26 (M := M_X8_advance) (pc := 30) rfl dX8_advance_30 rfl ?_
      refine aw_bald (k := (h 9 4).toNat) (M := M_X8_advance) (pc := 33) dX8_advance_33 rfl o2 rfl ?_
      refine aw_bipush (M := M_X8_advance) (pc := 34) dX8_advance_34 ⟨rfl, ⟨by decide, by decide⟩⟩ ?_
      refine aw_icmp_ne (tgt := 52) (M := M_X8_advance) (pc := 36) dX8_advance_36 rfl (fun hc => ?_) (fun hc => ?_)
      · have hF := hF.1 hc
        exact aw_ls [0] rfl (j_X8_advance_52  hF)
      · have hF := hF.2 hc
        refine aw_aload_n (j := 0) (M := M_X8_advance) (pc := 39) dX8_advance_39 rfl rfl ?_
        refine aw_dup (M := M_X8_advance) (pc := 40) dX8_advance_40 rfl ?_
        refine gf_X8_26 (M := M_X8_advance) (pc := 41) rfl dX8_advance_41 rfl ?_
        refine aw_iconst (M := M_X8_advance) (pc := 44) dX8_advance_44 ⟨by decide, by decide⟩ ?_
        obtain ⟨o6, hF⟩ := hF
        refine aw_iadd (M := M_X8_advance) (pc := 45) dX8_advance_45 rfl o6 ?_
        refine pf_X8_26 (M := M_X8_advance) (pc := 46) rfl dX8_advance_46 rfl ?_
        obtain ⟨h7, eh7⟩ : ∃ y : Mem, y = mset h 9 4 ((h 9 4) + 1) := ⟨_, rfl⟩
        have hF := hF h7 eh7
        rw [← eh7]
        refine aw_goto (tgt := 0) (M := M_X8_advance) (pc := 49) dX8_advance_49 rfl ?_
        exact aw_ls [0] rfl hF
def F_X8_advance (h : Mem)  (Q : Mem → Prop) : Prop :=
  L_X8_advance_0 h  Q
set_option maxRecDepth 100000 in
set_option maxHeartbeats 4000000 in
theorem f_X8_advance {h : Mem}  {Q : Mem → Prop}  (hF : F_X8_advance h  Q) : Ct yX8_advance cX8_advance 2 none (3, 90) [vr 9] h (qv Q) := by
  refine Ct.of np_RX8 (Nat.le_of_ble_eq_true rfl) ?_
  unfold F_X8_advance at hF
  show AW M_X8_advance 0 [(0, vr 9)] [] h (qv Q)
  exact aw_ls [0] rfl hF
abbrev M_X2_takeCompares : Hd := (cX2_takeCompares, 2, RX2, (some .int), (4, 111), sc0)
def F_X2_takeCompares (h : Mem)  (Q : Int → Mem → Prop) : Prop :=
  (h 34 1 = (9 : Int) ∧ (h 34 1 = (9 : Int) ∧ ((¬ ((h 9 5) = 3) → (h 34 1 = (9 : Int) ∧ (F_X8_fail h 2 (fun h4 => (h4 34 1 = (9 : Int) ∧ (F_X8_advance h4  (fun h7 => Q (h 9 7) h7))))))) ∧ ((h 9 5) = 3 → ((¬ ((h 9 7) = 59) → (h 34 1 = (9 : Int) ∧ (F_X8_advance h  (fun h10 => Q (h 9 7) h10)))) ∧ ((h 9 7) = 59 → (h 34 1 = (9 : Int) ∧ (F_X8_fail h 2 (fun h13 => (h13 34 1 = (9 : Int) ∧ (F_X8_advance h13  (fun h16 => Q (h 9 7) h16))))))))))))
set_option maxRecDepth 100000 in
set_option maxHeartbeats 4000000 in
theorem f_X2_takeCompares {h : Mem}  {Q : Int → Mem → Prop}  (hF : F_X2_takeCompares h  Q) : Ct yX2_takeCompares cX2_takeCompares 2 (some .int) (4, 111) [vr 34] h (qi Q) := by
  refine Ct.of np_RX2 (Nat.le_of_ble_eq_true rfl) ?_
  unfold F_X2_takeCompares at hF
  show AW M_X2_takeCompares 0 [(0, vr 34)] [] h (qi Q)
  refine aw_aload_n (j := 0) (M := M_X2_takeCompares) (pc := 0) dX2_takeCompares_0 rfl rfl ?_
  obtain ⟨o1, hF⟩ := hF
  refine gf_X2_22 (M := M_X2_takeCompares) (pc := 1) rfl dX2_takeCompares_1 rfl ?_
  refine aw_ref (a := 9) o1 ?_
  refine gf_X2_140 (M := M_X2_takeCompares) (pc := 4) rfl dX2_takeCompares_4 rfl ?_
  refine aw_istore_n (ls' := [(1, (0, h 9 7)), (0, vr 34)]) (M := M_X2_takeCompares) (pc := 7) dX2_takeCompares_7 rfl (by decide) rfl ?_
  refine aw_aload_n (j := 1) (M := M_X2_takeCompares) (pc := 8) dX2_takeCompares_8 rfl rfl ?_
  obtain ⟨o2, hF⟩ := hF
  refine gf_X2_22 (M := M_X2_takeCompares) (pc := 9) rfl dX2_takeCompares_9 rfl ?_
  refine aw_ref (a := 9) o2 ?_
  refine gf_X2_143 (M := M_X2_takeCompares) (pc := 12) rfl dX2_takeCompares_12 rfl ?_
  refine aw_iconst (M := M_X2_takeCompares) (pc := 15) dX2_takeCompares_15 ⟨by decide, by decide⟩ ?_
  refine aw_icmp_ne (tgt := 25) (M := M_X2_takeCompares) (pc := 16) dX2_takeCompares_16 rfl (fun hc => ?_) (fun hc => ?_)
  · have hF := hF.1 hc
    refine aw_aload_n (j := 1) (M := M_X2_takeCompares) (pc := 25) dX2_takeCompares_25 rfl rfl ?_
    obtain ⟨o3, hF⟩ := hF
    refine gf_X2_22 (M := M_X2_takeCompares) (pc := 26) rfl dX2_takeCompares_26 rfl ?_
    refine aw_ref (a := 9) o3 ?_
    refine aw_iconst (M := M_X2_takeCompares) (pc := 29) dX2_takeCompares_29 ⟨by decide, by decide⟩ ?_
    refine aw_cvv (as := [(0, 2)]) (st := []) (M := M_X2_takeCompares) (pc := 30) (f_X8_fail  hF) dX2_takeCompares_30 rfl (Or.inl ⟨_, _, _, rfl, rfl⟩) cy_X8_fail ml_X2_72 (by decide) (by decide) (Nat.le_of_ble_eq_true rfl) (fun h4 hF => ?_)
    refine aw_aload_n (j := 1) (M := M_X2_takeCompares) (pc := 33) dX2_takeCompares_33 rfl rfl ?_
    obtain ⟨o6, hF⟩ := hF
    refine gf_X2_22 (M := M_X2_takeCompares) (pc := 34) rfl dX2_takeCompares_34 rfl ?_
    refine aw_ref (a := 9) o6 ?_
    refine aw_cvv (as := []) (st := []) (M := M_X2_takeCompares) (pc := 37) (f_X8_advance  hF) dX2_takeCompares_37 rfl (Or.inl ⟨_, _, _, rfl, rfl⟩) cy_X8_advance ml_X2_51 (by decide) (by decide) (Nat.le_of_ble_eq_true rfl) (fun h7 hF => ?_)
    refine aw_iload_n (j := 0) (M := M_X2_takeCompares) (pc := 40) dX2_takeCompares_40 rfl rfl ?_
    exact aw_ireti (M := M_X2_takeCompares) (pc := 41) dX2_takeCompares_41 rfl ⟨_, rfl, hF⟩
  · have hF := hF.2 hc
    refine aw_iload_n (j := 0) (M := M_X2_takeCompares) (pc := 19) dX2_takeCompares_19 rfl rfl ?_
    refine aw_bipush (M := M_X2_takeCompares) (pc := 20) dX2_takeCompares_20 ⟨rfl, ⟨by decide, by decide⟩⟩ ?_
    refine aw_icmp_ne (tgt := 33) (M := M_X2_takeCompares) (pc := 22) dX2_takeCompares_22 rfl (fun hc => ?_) (fun hc => ?_)
    · have hF := hF.1 hc
      refine aw_aload_n (j := 1) (M := M_X2_takeCompares) (pc := 33) dX2_takeCompares_33 rfl rfl ?_
      obtain ⟨o9, hF⟩ := hF
      refine gf_X2_22 (M := M_X2_takeCompares) (pc := 34) rfl dX2_takeCompares_34 rfl ?_
      refine aw_ref (a := 9) o9 ?_
      refine aw_cvv (as := []) (st := []) (M := M_X2_takeCompares) (pc := 37) (f_X8_advance  hF) dX2_takeCompares_37 rfl (Or.inl ⟨_, _, _, rfl, rfl⟩) cy_X8_advance ml_X2_51 (by decide) (by decide) (Nat.le_of_ble_eq_true rfl) (fun h10 hF => ?_)
      refine aw_iload_n (j := 0) (M := M_X2_takeCompares) (pc := 40) dX2_takeCompares_40 rfl rfl ?_
      exact aw_ireti (M := M_X2_takeCompares) (pc := 41) dX2_takeCompares_41 rfl ⟨_, rfl, hF⟩
    · have hF := hF.2 hc
      refine aw_aload_n (j := 1) (M := M_X2_takeCompares) (pc := 25) dX2_takeCompares_25 rfl rfl ?_
      obtain ⟨o12, hF⟩ := hF
      refine gf_X2_22 (M := M_X2_takeCompares) (pc := 26) rfl dX2_takeCompares_26 rfl ?_
      refine aw_ref (a := 9) o12 ?_
      refine aw_iconst (M := M_X2_takeCompares) (pc := 29) dX2_takeCompares_29 ⟨by decide, by decide⟩ ?_
      refine aw_cvv (as := [(0, 2)]) (st := []) (M := M_X2_takeCompares) (pc := 30) (f_X8_fail  hF) dX2_takeCompares_30 rfl (Or.inl ⟨_, _, _, rfl, rfl⟩) cy_X8_fail ml_X2_72 (by decide) (by decide) (Nat.le_of_ble_eq_true rfl) (fun h13 hF => ?_)
      refine aw_aload_n (j := 1) (M := M_X2_takeCompares) (pc := 33) dX2_takeCompares_33 rfl rfl ?_
      obtain ⟨o15, hF⟩ := hF
      refine gf_X2_22 (M := M_X2_takeCompares) (pc := 34) rfl dX2_takeCompares_34 rfl ?_
      refine aw_ref (a := 9) o15 ?_
      refine aw_cvv (as := []) (st := []) (M := M_X2_takeCompares) (pc := 37) (f_X8_advance  hF) dX2_takeCompares_37 rfl (Or.inl ⟨_, _, _, rfl, rfl⟩) cy_X8_advance ml_X2_51 (by decide) (by decide) (Nat.le_of_ble_eq_true rfl) (fun h16 hF => ?_)
      refine aw_iload_n (j := 0) (M := M_X2_takeCompares) (pc := 40) dX2_takeCompares_40 rfl rfl ?_
      exact aw_ireti (M := M_X2_takeCompares) (pc := 41) dX2_takeCompares_41 rfl ⟨_, rfl, hF⟩
abbrev M_X7_numberOf : Hd := (cX7_numberOf, 4, RX7, (some .int), (1, 45), sc0)
def L_X7_numberOf_2 (h : Mem) (v0 : Nat) (v1 : Int) (v3 : Int) (Q : Int → Mem → Prop) : Prop := AW M_X7_numberOf 2 [(0, vr v0), (1, (1, v1)), (3, (0, v3))] [] h (qi Q)
def B_X7_numberOf_2 (h : Mem) (v0 : Nat) (v1 : Int) (v3 : Int) (Q : Int → Mem → Prop) : Prop :=
  (((h v0 0) ≤ v3 → Q (-1) h) ∧ (¬ ((h v0 0) ≤ v3) → ((0 ≤ v3 ∧ v3 < 4) ∧ ((¬ ((h (v0 + 1) (v3).toNat) = v1) → (InR (v3 + 1) ∧ L_X7_numberOf_2 h v0 v1 (v3 + 1) Q)) ∧ ((h (v0 + 1) (v3).toNat) = v1 → Q v3 h)))))
set_option maxRecDepth 100000 in
set_option maxHeartbeats 4000000 in
theorem l_X7_numberOf_2 {h : Mem} {v0 : Nat} {v1 : Int} {v3 : Int} {Q : Int → Mem → Prop} (hv0 : lay v0 = (0, 7)) (hF : B_X7_numberOf_2 h v0 v1 v3 Q) : L_X7_numberOf_2 h v0 v1 v3 Q := by
  unfold B_X7_numberOf_2 at hF
  show AW M_X7_numberOf 2 [(0, vr v0), (1, (1, v1)), (3, (0, v3))] [] h (qi Q)
  refine aw_iload_n (j := 2) (M := M_X7_numberOf) (pc := 2) dX7_numberOf_2 rfl rfl ?_
  refine aw_aload_n (j := 0) (M := M_X7_numberOf) (pc := 3) dX7_numberOf_3 rfl rfl ?_
  refine gf_X7_9 (M := M_X7_numberOf) (pc := 4) rfl dX7_numberOf_4 hv0 ?_
  refine aw_icmp_ge (tgt := 29) (M := M_X7_numberOf) (pc := 7) dX7_numberOf_7 rfl (fun hc => ?_) (fun hc => ?_)
  · have hF := hF.1 hc
    refine aw_iconst (M := M_X7_numberOf) (pc := 29) dX7_numberOf_29 ⟨by decide, by decide⟩ ?_
    exact aw_ireti (M := M_X7_numberOf) (pc := 30) dX7_numberOf_30 rfl ⟨_, rfl, hF⟩
  · have hF := hF.2 hc
    refine aw_aload_n (j := 0) (M := M_X7_numberOf) (pc := 10) dX7_numberOf_10 rfl rfl ?_
    refine gf_X7_15 (M := M_X7_numberOf) (pc := 11) rfl dX7_numberOf_11 hv0 (r := v0 + 1) rfl ?_
    refine aw_iload_n (j := 2) (M := M_X7_numberOf) (pc := 14) dX7_numberOf_14 rfl rfl ?_
    obtain ⟨o2, hF⟩ := hF
    refine aw_lald (k := (v3).toNat) (M := M_X7_numberOf) (pc := 15) dX7_numberOf_15 (ll_7_1 hv0) o2 rfl ?_
    refine aw_lload_n (j := 1) (M := M_X7_numberOf) (pc := 16) dX7_numberOf_16 rfl rfl ?_
    refine aw_lcmp (M := M_X7_numberOf) (pc := 17) dX7_numberOf_17 ?_
    refine aw_if_ne (tgt := 23) (M := M_X7_numberOf) (pc := 18) dX7_numberOf_18 rfl (fun hc => ?_) (fun hc => ?_)
    · have hF := hF.1 (fun z => hc (lc_eq.mpr z))
      obtain ⟨o3, hF⟩ := hF
      refine aw_iinc (j := 2) (x := v3) (r := v3 + 1) (ls' := [(3, (0, v3 + 1)), (0, vr v0), (1, (1, v1))]) (M := M_X7_numberOf) (pc := 23) dX7_numberOf_23 rfl rfl o3 (by decide) rfl ?_
      refine aw_goto (tgt := 2) (M := M_X7_numberOf) (pc := 26) dX7_numberOf_26 rfl ?_
      exact aw_ls [1, 2, 0] rfl hF
    · have hF := hF.2 (lc_eq.mp hc)
      refine aw_iload_n (j := 2) (M := M_X7_numberOf) (pc := 21) dX7_numberOf_21 rfl rfl ?_
      exact aw_ireti (M := M_X7_numberOf) (pc := 22) dX7_numberOf_22 rfl ⟨_, rfl, hF⟩
def F_X7_numberOf (h : Mem) (o : Nat) (a1 : Int) (Q : Int → Mem → Prop) : Prop :=
  L_X7_numberOf_2 h o a1 0 Q
set_option maxRecDepth 100000 in
set_option maxHeartbeats 4000000 in
theorem f_X7_numberOf {h : Mem} {o : Nat} {a1 : Int} {Q : Int → Mem → Prop} (ho : lay o = (0, 7)) (hF : F_X7_numberOf h o a1 Q) : Ct yX7_numberOf cX7_numberOf 4 (some .int) (1, 45) [vr o, (1, a1)] h (qi Q) := by
  refine Ct.of np_RX7 (Nat.le_of_ble_eq_true rfl) ?_
  unfold F_X7_numberOf at hF
  show AW M_X7_numberOf 0 [(0, vr o), (1, (1, a1))] [] h (qi Q)
  refine aw_iconst (M := M_X7_numberOf) (pc := 0) dX7_numberOf_0 ⟨by decide, by decide⟩ ?_
  refine aw_istore_n (ls' := [(3, (0, 0)), (0, vr o), (1, (1, a1))]) (M := M_X7_numberOf) (pc := 1) dX7_numberOf_1 rfl (by decide) rfl ?_
  exact aw_ls [1, 2, 0] rfl hF
abbrev M_X8_nameHere : Hd := (cX8_nameHere, 1, RX8, (some .long), (2, 66), sc0)
def F_X8_nameHere (h : Mem)  (Q : Int → Mem → Prop) : Prop :=
  ((¬ ((h 9 9) = 0) → (F_X8_fail h 2 (fun h1 => Q 0 h1))) ∧ ((h 9 9) = 0 → ((¬ ((h 9 5) = 1) → (F_X8_fail h 2 (fun h3 => Q 0 h3))) ∧ ((h 9 5) = 1 → ((¬ ((h 9 7) = (-1)) → (F_X8_fail h 2 (fun h5 => Q 0 h5))) ∧ ((h 9 7) = (-1) → ((¬ ((h 9 8) = 0) → Q (h 9 8) h) ∧ ((h 9 8) = 0 → (F_X8_fail h 2 (fun h7 => Q 0 h7))))))))))
set_option maxRecDepth 100000 in
set_option maxHeartbeats 4000000 in
theorem f_X8_nameHere {h : Mem}  {Q : Int → Mem → Prop}  (hF : F_X8_nameHere h  Q) : Ct yX8_nameHere cX8_nameHere 1 (some .long) (2, 66) [vr 9] h (ql Q) := by
  refine Ct.of np_RX8 (Nat.le_of_ble_eq_true rfl) ?_
  unfold F_X8_nameHere at hF
  show AW M_X8_nameHere 0 [(0, vr 9)] [] h (ql Q)
  refine aw_aload_n (j := 0) (M := M_X8_nameHere) (pc := 0) dX8_nameHere_0 rfl rfl ?_
  refine gf_X8_42 (M := M_X8_nameHere) (pc := 1) rfl dX8_nameHere_1 rfl ?_
  refine aw_if_ne (tgt := 32) (M := M_X8_nameHere) (pc := 4) dX8_nameHere_4 rfl (fun hc => ?_) (fun hc => ?_)
  · have hF := hF.1 hc
    refine aw_aload_n (j := 0) (M := M_X8_nameHere) (pc := 32) dX8_nameHere_32 rfl rfl ?_
    refine aw_iconst (M := M_X8_nameHere) (pc := 33) dX8_nameHere_33 ⟨by decide, by decide⟩ ?_
    refine aw_cvv (as := [(0, 2)]) (st := []) (M := M_X8_nameHere) (pc := 34) (f_X8_fail  hF) dX8_nameHere_34 rfl (Or.inl ⟨_, _, _, rfl, rfl⟩) cy_X8_fail ml_X8_91 (by decide) (by decide) (Nat.le_of_ble_eq_true rfl) (fun h1 hF => ?_)
    refine aw_lconst (v := 0) (M := M_X8_nameHere) (pc := 37) dX8_nameHere_37 ⟨rfl, ⟨by decide, by decide⟩⟩ ?_
    exact aw_lret (M := M_X8_nameHere) (pc := 38) dX8_nameHere_38 rfl ⟨_, rfl, hF⟩
  · have hF := hF.2 hc
    refine aw_aload_n (j := 0) (M := M_X8_nameHere) (pc := 7) dX8_nameHere_7 rfl rfl ?_
    refine gf_X8_29 (M := M_X8_nameHere) (pc := 8) rfl dX8_nameHere_8 rfl ?_
    refine aw_iconst (M := M_X8_nameHere) (pc := 11) dX8_nameHere_11 ⟨by decide, by decide⟩ ?_
    refine aw_icmp_ne (tgt := 32) (M := M_X8_nameHere) (pc := 12) dX8_nameHere_12 rfl (fun hc => ?_) (fun hc => ?_)
    · have hF := hF.1 hc
      refine aw_aload_n (j := 0) (M := M_X8_nameHere) (pc := 32) dX8_nameHere_32 rfl rfl ?_
      refine aw_iconst (M := M_X8_nameHere) (pc := 33) dX8_nameHere_33 ⟨by decide, by decide⟩ ?_
      refine aw_cvv (as := [(0, 2)]) (st := []) (M := M_X8_nameHere) (pc := 34) (f_X8_fail  hF) dX8_nameHere_34 rfl (Or.inl ⟨_, _, _, rfl, rfl⟩) cy_X8_fail ml_X8_91 (by decide) (by decide) (Nat.le_of_ble_eq_true rfl) (fun h3 hF => ?_)
      refine aw_lconst (v := 0) (M := M_X8_nameHere) (pc := 37) dX8_nameHere_37 ⟨rfl, ⟨by decide, by decide⟩⟩ ?_
      exact aw_lret (M := M_X8_nameHere) (pc := 38) dX8_nameHere_38 rfl ⟨_, rfl, hF⟩
    · have hF := hF.2 hc
      refine aw_aload_n (j := 0) (M := M_X8_nameHere) (pc := 15) dX8_nameHere_15 rfl rfl ?_
      refine gf_X8_35 (M := M_X8_nameHere) (pc := 16) rfl dX8_nameHere_16 rfl ?_
      refine aw_iconst (M := M_X8_nameHere) (pc := 19) dX8_nameHere_19 ⟨by decide, by decide⟩ ?_
      refine aw_icmp_ne (tgt := 32) (M := M_X8_nameHere) (pc := 20) dX8_nameHere_20 rfl (fun hc => ?_) (fun hc => ?_)
      · have hF := hF.1 hc
        refine aw_aload_n (j := 0) (M := M_X8_nameHere) (pc := 32) dX8_nameHere_32 rfl rfl ?_
        refine aw_iconst (M := M_X8_nameHere) (pc := 33) dX8_nameHere_33 ⟨by decide, by decide⟩ ?_
        refine aw_cvv (as := [(0, 2)]) (st := []) (M := M_X8_nameHere) (pc := 34) (f_X8_fail  hF) dX8_nameHere_34 rfl (Or.inl ⟨_, _, _, rfl, rfl⟩) cy_X8_fail ml_X8_91 (by decide) (by decide) (Nat.le_of_ble_eq_true rfl) (fun h5 hF => ?_)
        refine aw_lconst (v := 0) (M := M_X8_nameHere) (pc := 37) dX8_nameHere_37 ⟨rfl, ⟨by decide, by decide⟩⟩ ?_
        exact aw_lret (M := M_X8_nameHere) (pc := 38) dX8_nameHere_38 rfl ⟨_, rfl, hF⟩
      · have hF := hF.2 hc
        refine aw_aload_n (j := 0) (M := M_X8_nameHere) (pc := 23) dX8_nameHere_23 rfl rfl ?_
        refine gf_X8_38 (M := M_X8_nameHere) (pc := 24) rfl dX8_nameHere_24 rfl ?_
        refine aw_lconst (v := 0) (M := M_X8_nameHere) (pc := 27) dX8_nameHere_27 ⟨rfl, ⟨by decide, by decide⟩⟩ ?_
        refine aw_lcmp (M := M_X8_nameHere) (pc := 28) dX8_nameHere_28 ?_
        refine aw_if_ne (tgt := 39) (M := M_X8_nameHere) (pc := 29) dX8_nameHere_29 rfl (fun hc => ?_) (fun hc => ?_)
        · have hF := hF.1 (fun z => hc (lc_eq.mpr z))
          refine aw_aload_n (j := 0) (M := M_X8_nameHere) (pc := 39) dX8_nameHere_39 rfl rfl ?_
          refine gf_X8_38 (M := M_X8_nameHere) (pc := 40) rfl dX8_nameHere_40 rfl ?_
          exact aw_lret (M := M_X8_nameHere) (pc := 43) dX8_nameHere_43 rfl ⟨_, rfl, hF⟩
        · have hF := hF.2 (lc_eq.mp hc)
          refine aw_aload_n (j := 0) (M := M_X8_nameHere) (pc := 32) dX8_nameHere_32 rfl rfl ?_
          refine aw_iconst (M := M_X8_nameHere) (pc := 33) dX8_nameHere_33 ⟨by decide, by decide⟩ ?_
          refine aw_cvv (as := [(0, 2)]) (st := []) (M := M_X8_nameHere) (pc := 34) (f_X8_fail  hF) dX8_nameHere_34 rfl (Or.inl ⟨_, _, _, rfl, rfl⟩) cy_X8_fail ml_X8_91 (by decide) (by decide) (Nat.le_of_ble_eq_true rfl) (fun h7 hF => ?_)
          refine aw_lconst (v := 0) (M := M_X8_nameHere) (pc := 37) dX8_nameHere_37 ⟨rfl, ⟨by decide, by decide⟩⟩ ?_
          exact aw_lret (M := M_X8_nameHere) (pc := 38) dX8_nameHere_38 rfl ⟨_, rfl, hF⟩
abbrev M_X2_takeMill : Hd := (cX2_takeMill, 2, RX2, (some .int), (4, 111), sc0)
def F_X2_takeMill (h : Mem)  (Q : Int → Mem → Prop) : Prop :=
  (∃ r1 : Nat, h 34 2 = (r1 : Int) ∧ lay r1 = (0, 4) ∧ (h 34 1 = (9 : Int) ∧ (F_X8_nameHere h  (fun r4 h3 => (F_X7_numberOf h3 (r1 + 10) r4 (fun r6 h5 => ((¬ (r6 = (-1)) → (h5 34 1 = (9 : Int) ∧ (F_X8_advance h5  (fun h8 => Q r6 h8)))) ∧ (r6 = (-1) → (h5 34 1 = (9 : Int) ∧ (F_X8_fail h5 3 (fun h11 => (h11 34 1 = (9 : Int) ∧ (F_X8_advance h11  (fun h14 => Q r6 h14))))))))))))))
set_option maxRecDepth 100000 in
set_option maxHeartbeats 4000000 in
theorem f_X2_takeMill {h : Mem}  {Q : Int → Mem → Prop}  (hF : F_X2_takeMill h  Q) : Ct yX2_takeMill cX2_takeMill 2 (some .int) (4, 111) [vr 34] h (qi Q) := by
  refine Ct.of np_RX2 (Nat.le_of_ble_eq_true rfl) ?_
  unfold F_X2_takeMill at hF
  show AW M_X2_takeMill 0 [(0, vr 34)] [] h (qi Q)
  refine aw_aload_n (j := 0) (M := M_X2_takeMill) (pc := 0) dX2_takeMill_0 rfl rfl ?_
  refine gf_X2_26 (M := M_X2_takeMill) (pc := 1) rfl dX2_takeMill_1 rfl ?_
  obtain ⟨r1, er1, lr1, hF⟩ := hF
  refine aw_ref (a := r1) er1 ?_
  refine gf_X2_133 (M := M_X2_takeMill) (pc := 4) rfl dX2_takeMill_4 lr1 (r := r1 + 10) rfl ?_
  refine aw_aload_n (j := 0) (M := M_X2_takeMill) (pc := 7) dX2_takeMill_7 rfl rfl ?_
  obtain ⟨o2, hF⟩ := hF
  refine gf_X2_22 (M := M_X2_takeMill) (pc := 8) rfl dX2_takeMill_8 rfl ?_
  refine aw_ref (a := 9) o2 ?_
  refine aw_cvl (as := []) (st := [vr (r1 + 10)]) (M := M_X2_takeMill) (pc := 11) (f_X8_nameHere  hF) dX2_takeMill_11 rfl (Or.inl ⟨_, _, _, rfl, rfl⟩) cy_X8_nameHere ml_X2_123 (by decide) (by decide) (Nat.le_of_ble_eq_true rfl) (fun r4 h3 hF => ?_)
  refine aw_cvi (as := [(1, r4)]) (st := []) (M := M_X2_takeMill) (pc := 14) (f_X7_numberOf (ll_4_8 lr1) hF) dX2_takeMill_14 rfl (Or.inl ⟨_, _, _, (ll_4_8 lr1), rfl⟩) cy_X7_numberOf ml_X2_137 (by decide) (by decide) (Nat.le_of_ble_eq_true rfl) (fun r6 h5 hF => ?_)
  refine aw_istore_n (ls' := [(1, (0, r6)), (0, vr 34)]) (M := M_X2_takeMill) (pc := 17) dX2_takeMill_17 rfl (by decide) rfl ?_
  refine aw_iload_n (j := 0) (M := M_X2_takeMill) (pc := 18) dX2_takeMill_18 rfl rfl ?_
  refine aw_iconst (M := M_X2_takeMill) (pc := 19) dX2_takeMill_19 ⟨by decide, by decide⟩ ?_
  refine aw_icmp_ne (tgt := 31) (M := M_X2_takeMill) (pc := 20) dX2_takeMill_20 rfl (fun hc => ?_) (fun hc => ?_)
  · have hF := hF.1 hc
    refine aw_aload_n (j := 1) (M := M_X2_takeMill) (pc := 31) dX2_takeMill_31 rfl rfl ?_
    obtain ⟨o7, hF⟩ := hF
    refine gf_X2_22 (M := M_X2_takeMill) (pc := 32) rfl dX2_takeMill_32 rfl ?_
    refine aw_ref (a := 9) o7 ?_
    refine aw_cvv (as := []) (st := []) (M := M_X2_takeMill) (pc := 35) (f_X8_advance  hF) dX2_takeMill_35 rfl (Or.inl ⟨_, _, _, rfl, rfl⟩) cy_X8_advance ml_X2_51 (by decide) (by decide) (Nat.le_of_ble_eq_true rfl) (fun h8 hF => ?_)
    refine aw_iload_n (j := 0) (M := M_X2_takeMill) (pc := 38) dX2_takeMill_38 rfl rfl ?_
    exact aw_ireti (M := M_X2_takeMill) (pc := 39) dX2_takeMill_39 rfl ⟨_, rfl, hF⟩
  · have hF := hF.2 hc
    refine aw_aload_n (j := 1) (M := M_X2_takeMill) (pc := 23) dX2_takeMill_23 rfl rfl ?_
    obtain ⟨o10, hF⟩ := hF
    refine gf_X2_22 (M := M_X2_takeMill) (pc := 24) rfl dX2_takeMill_24 rfl ?_
    refine aw_ref (a := 9) o10 ?_
    refine aw_iconst (M := M_X2_takeMill) (pc := 27) dX2_takeMill_27 ⟨by decide, by decide⟩ ?_
    refine aw_cvv (as := [(0, 3)]) (st := []) (M := M_X2_takeMill) (pc := 28) (f_X8_fail  hF) dX2_takeMill_28 rfl (Or.inl ⟨_, _, _, rfl, rfl⟩) cy_X8_fail ml_X2_72 (by decide) (by decide) (Nat.le_of_ble_eq_true rfl) (fun h11 hF => ?_)
    refine aw_aload_n (j := 1) (M := M_X2_takeMill) (pc := 31) dX2_takeMill_31 rfl rfl ?_
    obtain ⟨o13, hF⟩ := hF
    refine gf_X2_22 (M := M_X2_takeMill) (pc := 32) rfl dX2_takeMill_32 rfl ?_
    refine aw_ref (a := 9) o13 ?_
    refine aw_cvv (as := []) (st := []) (M := M_X2_takeMill) (pc := 35) (f_X8_advance  hF) dX2_takeMill_35 rfl (Or.inl ⟨_, _, _, rfl, rfl⟩) cy_X8_advance ml_X2_51 (by decide) (by decide) (Nat.le_of_ble_eq_true rfl) (fun h14 hF => ?_)
    refine aw_iload_n (j := 0) (M := M_X2_takeMill) (pc := 38) dX2_takeMill_38 rfl rfl ?_
    exact aw_ireti (M := M_X2_takeMill) (pc := 39) dX2_takeMill_39 rfl ⟨_, rfl, hF⟩
abbrev M_X9_numberOf : Hd := (cX9_numberOf, 4, RX9, (some .int), (1, 45), sc0)
def L_X9_numberOf_2 (h : Mem) (v0 : Nat) (v1 : Int) (v3 : Int) (Q : Int → Mem → Prop) : Prop := AW M_X9_numberOf 2 [(0, vr v0), (1, (1, v1)), (3, (0, v3))] [] h (qi Q)
def B_X9_numberOf_2 (h : Mem) (v0 : Nat) (v1 : Int) (v3 : Int) (Q : Int → Mem → Prop) : Prop :=
  (((h v0 0) ≤ v3 → Q (-1) h) ∧ (¬ ((h v0 0) ≤ v3) → ((0 ≤ v3 ∧ v3 < 8) ∧ ((¬ ((h (v0 + 1) (v3).toNat) = v1) → (InR (v3 + 1) ∧ L_X9_numberOf_2 h v0 v1 (v3 + 1) Q)) ∧ ((h (v0 + 1) (v3).toNat) = v1 → Q v3 h)))))
set_option maxRecDepth 100000 in
set_option maxHeartbeats 4000000 in
theorem l_X9_numberOf_2 {h : Mem} {v0 : Nat} {v1 : Int} {v3 : Int} {Q : Int → Mem → Prop} (hv0 : lay v0 = (0, 9)) (hF : B_X9_numberOf_2 h v0 v1 v3 Q) : L_X9_numberOf_2 h v0 v1 v3 Q := by
  unfold B_X9_numberOf_2 at hF
  show AW M_X9_numberOf 2 [(0, vr v0), (1, (1, v1)), (3, (0, v3))] [] h (qi Q)
  refine aw_iload_n (j := 2) (M := M_X9_numberOf) (pc := 2) dX9_numberOf_2 rfl rfl ?_
  refine aw_aload_n (j := 0) (M := M_X9_numberOf) (pc := 3) dX9_numberOf_3 rfl rfl ?_
  refine gf_X9_9 (M := M_X9_numberOf) (pc := 4) rfl dX9_numberOf_4 hv0 ?_
  refine aw_icmp_ge (tgt := 29) (M := M_X9_numberOf) (pc := 7) dX9_numberOf_7 rfl (fun hc => ?_) (fun hc => ?_)
  · have hF := hF.1 hc
    refine aw_iconst (M := M_X9_numberOf) (pc := 29) dX9_numberOf_29 ⟨by decide, by decide⟩ ?_
    exact aw_ireti (M := M_X9_numberOf) (pc := 30) dX9_numberOf_30 rfl ⟨_, rfl, hF⟩
  · have hF := hF.2 hc
    refine aw_aload_n (j := 0) (M := M_X9_numberOf) (pc := 10) dX9_numberOf_10 rfl rfl ?_
    refine gf_X9_15 (M := M_X9_numberOf) (pc := 11) rfl dX9_numberOf_11 hv0 (r := v0 + 1) rfl ?_
    refine aw_iload_n (j := 2) (M := M_X9_numberOf) (pc := 14) dX9_numberOf_14 rfl rfl ?_
    obtain ⟨o2, hF⟩ := hF
    refine aw_lald (k := (v3).toNat) (M := M_X9_numberOf) (pc := 15) dX9_numberOf_15 (ll_9_1 hv0) o2 rfl ?_
    refine aw_lload_n (j := 1) (M := M_X9_numberOf) (pc := 16) dX9_numberOf_16 rfl rfl ?_
    refine aw_lcmp (M := M_X9_numberOf) (pc := 17) dX9_numberOf_17 ?_
    refine aw_if_ne (tgt := 23) (M := M_X9_numberOf) (pc := 18) dX9_numberOf_18 rfl (fun hc => ?_) (fun hc => ?_)
    · have hF := hF.1 (fun z => hc (lc_eq.mpr z))
      obtain ⟨o3, hF⟩ := hF
      refine aw_iinc (j := 2) (x := v3) (r := v3 + 1) (ls' := [(3, (0, v3 + 1)), (0, vr v0), (1, (1, v1))]) (M := M_X9_numberOf) (pc := 23) dX9_numberOf_23 rfl rfl o3 (by decide) rfl ?_
      refine aw_goto (tgt := 2) (M := M_X9_numberOf) (pc := 26) dX9_numberOf_26 rfl ?_
      exact aw_ls [1, 2, 0] rfl hF
    · have hF := hF.2 (lc_eq.mp hc)
      refine aw_iload_n (j := 2) (M := M_X9_numberOf) (pc := 21) dX9_numberOf_21 rfl rfl ?_
      exact aw_ireti (M := M_X9_numberOf) (pc := 22) dX9_numberOf_22 rfl ⟨_, rfl, hF⟩
def F_X9_numberOf (h : Mem) (o : Nat) (a1 : Int) (Q : Int → Mem → Prop) : Prop :=
  L_X9_numberOf_2 h o a1 0 Q
set_option maxRecDepth 100000 in
set_option maxHeartbeats 4000000 in
theorem f_X9_numberOf {h : Mem} {o : Nat} {a1 : Int} {Q : Int → Mem → Prop} (ho : lay o = (0, 9)) (hF : F_X9_numberOf h o a1 Q) : Ct yX9_numberOf cX9_numberOf 4 (some .int) (1, 45) [vr o, (1, a1)] h (qi Q) := by
  refine Ct.of np_RX9 (Nat.le_of_ble_eq_true rfl) ?_
  unfold F_X9_numberOf at hF
  show AW M_X9_numberOf 0 [(0, vr o), (1, (1, a1))] [] h (qi Q)
  refine aw_iconst (M := M_X9_numberOf) (pc := 0) dX9_numberOf_0 ⟨by decide, by decide⟩ ?_
  refine aw_istore_n (ls' := [(3, (0, 0)), (0, vr o), (1, (1, a1))]) (M := M_X9_numberOf) (pc := 1) dX9_numberOf_1 rfl (by decide) rfl ?_
  exact aw_ls [1, 2, 0] rfl hF
abbrev M_X2_takeThing : Hd := (cX2_takeThing, 2, RX2, (some .int), (4, 111), sc0)
def F_X2_takeThing (h : Mem)  (Q : Int → Mem → Prop) : Prop :=
  (∃ r1 : Nat, h 34 2 = (r1 : Int) ∧ lay r1 = (0, 4) ∧ (h 34 1 = (9 : Int) ∧ (F_X8_nameHere h  (fun r4 h3 => (F_X9_numberOf h3 (r1 + 1) r4 (fun r6 h5 => ((¬ (r6 = (-1)) → (h5 34 1 = (9 : Int) ∧ (F_X8_advance h5  (fun h8 => Q r6 h8)))) ∧ (r6 = (-1) → (h5 34 1 = (9 : Int) ∧ (F_X8_fail h5 3 (fun h11 => (h11 34 1 = (9 : Int) ∧ (F_X8_advance h11  (fun h14 => Q r6 h14))))))))))))))
set_option maxRecDepth 100000 in
set_option maxHeartbeats 4000000 in
theorem f_X2_takeThing {h : Mem}  {Q : Int → Mem → Prop}  (hF : F_X2_takeThing h  Q) : Ct yX2_takeThing cX2_takeThing 2 (some .int) (4, 111) [vr 34] h (qi Q) := by
  refine Ct.of np_RX2 (Nat.le_of_ble_eq_true rfl) ?_
  unfold F_X2_takeThing at hF
  show AW M_X2_takeThing 0 [(0, vr 34)] [] h (qi Q)
  refine aw_aload_n (j := 0) (M := M_X2_takeThing) (pc := 0) dX2_takeThing_0 rfl rfl ?_
  refine gf_X2_26 (M := M_X2_takeThing) (pc := 1) rfl dX2_takeThing_1 rfl ?_
  obtain ⟨r1, er1, lr1, hF⟩ := hF
  refine aw_ref (a := r1) er1 ?_
  refine gf_X2_119 (M := M_X2_takeThing) (pc := 4) rfl dX2_takeThing_4 lr1 (r := r1 + 1) rfl ?_
  refine aw_aload_n (j := 0) (M := M_X2_takeThing) (pc := 7) dX2_takeThing_7 rfl rfl ?_
  obtain ⟨o2, hF⟩ := hF
  refine gf_X2_22 (M := M_X2_takeThing) (pc := 8) rfl dX2_takeThing_8 rfl ?_
  refine aw_ref (a := 9) o2 ?_
  refine aw_cvl (as := []) (st := [vr (r1 + 1)]) (M := M_X2_takeThing) (pc := 11) (f_X8_nameHere  hF) dX2_takeThing_11 rfl (Or.inl ⟨_, _, _, rfl, rfl⟩) cy_X8_nameHere ml_X2_123 (by decide) (by decide) (Nat.le_of_ble_eq_true rfl) (fun r4 h3 hF => ?_)
  refine aw_cvi (as := [(1, r4)]) (st := []) (M := M_X2_takeThing) (pc := 14) (f_X9_numberOf (ll_4_7 lr1) hF) dX2_takeThing_14 rfl (Or.inl ⟨_, _, _, (ll_4_7 lr1), rfl⟩) cy_X9_numberOf ml_X2_127 (by decide) (by decide) (Nat.le_of_ble_eq_true rfl) (fun r6 h5 hF => ?_)
  refine aw_istore_n (ls' := [(1, (0, r6)), (0, vr 34)]) (M := M_X2_takeThing) (pc := 17) dX2_takeThing_17 rfl (by decide) rfl ?_
  refine aw_iload_n (j := 0) (M := M_X2_takeThing) (pc := 18) dX2_takeThing_18 rfl rfl ?_
  refine aw_iconst (M := M_X2_takeThing) (pc := 19) dX2_takeThing_19 ⟨by decide, by decide⟩ ?_
  refine aw_icmp_ne (tgt := 31) (M := M_X2_takeThing) (pc := 20) dX2_takeThing_20 rfl (fun hc => ?_) (fun hc => ?_)
  · have hF := hF.1 hc
    refine aw_aload_n (j := 1) (M := M_X2_takeThing) (pc := 31) dX2_takeThing_31 rfl rfl ?_
    obtain ⟨o7, hF⟩ := hF
    refine gf_X2_22 (M := M_X2_takeThing) (pc := 32) rfl dX2_takeThing_32 rfl ?_
    refine aw_ref (a := 9) o7 ?_
    refine aw_cvv (as := []) (st := []) (M := M_X2_takeThing) (pc := 35) (f_X8_advance  hF) dX2_takeThing_35 rfl (Or.inl ⟨_, _, _, rfl, rfl⟩) cy_X8_advance ml_X2_51 (by decide) (by decide) (Nat.le_of_ble_eq_true rfl) (fun h8 hF => ?_)
    refine aw_iload_n (j := 0) (M := M_X2_takeThing) (pc := 38) dX2_takeThing_38 rfl rfl ?_
    exact aw_ireti (M := M_X2_takeThing) (pc := 39) dX2_takeThing_39 rfl ⟨_, rfl, hF⟩
  · have hF := hF.2 hc
    refine aw_aload_n (j := 1) (M := M_X2_takeThing) (pc := 23) dX2_takeThing_23 rfl rfl ?_
    obtain ⟨o10, hF⟩ := hF
    refine gf_X2_22 (M := M_X2_takeThing) (pc := 24) rfl dX2_takeThing_24 rfl ?_
    refine aw_ref (a := 9) o10 ?_
    refine aw_iconst (M := M_X2_takeThing) (pc := 27) dX2_takeThing_27 ⟨by decide, by decide⟩ ?_
    refine aw_cvv (as := [(0, 3)]) (st := []) (M := M_X2_takeThing) (pc := 28) (f_X8_fail  hF) dX2_takeThing_28 rfl (Or.inl ⟨_, _, _, rfl, rfl⟩) cy_X8_fail ml_X2_72 (by decide) (by decide) (Nat.le_of_ble_eq_true rfl) (fun h11 hF => ?_)
    refine aw_aload_n (j := 1) (M := M_X2_takeThing) (pc := 31) dX2_takeThing_31 rfl rfl ?_
    obtain ⟨o13, hF⟩ := hF
    refine gf_X2_22 (M := M_X2_takeThing) (pc := 32) rfl dX2_takeThing_32 rfl ?_
    refine aw_ref (a := 9) o13 ?_
    refine aw_cvv (as := []) (st := []) (M := M_X2_takeThing) (pc := 35) (f_X8_advance  hF) dX2_takeThing_35 rfl (Or.inl ⟨_, _, _, rfl, rfl⟩) cy_X8_advance ml_X2_51 (by decide) (by decide) (Nat.le_of_ble_eq_true rfl) (fun h14 hF => ?_)
    refine aw_iload_n (j := 0) (M := M_X2_takeThing) (pc := 38) dX2_takeThing_38 rfl rfl ?_
    exact aw_ireti (M := M_X2_takeThing) (pc := 39) dX2_takeThing_39 rfl ⟨_, rfl, hF⟩
abbrev M_X8_keyword : Hd := (cX8_keyword, 1, RX8, (some .int), (1, 45), sc0)
def F_X8_keyword (h : Mem)  (Q : Int → Mem → Prop) : Prop :=
  ((¬ ((h 9 5) = 1) → Q (-1) h) ∧ ((h 9 5) = 1 → Q (h 9 7) h))
set_option maxRecDepth 100000 in
set_option maxHeartbeats 4000000 in
theorem f_X8_keyword {h : Mem}  {Q : Int → Mem → Prop}  (hF : F_X8_keyword h  Q) : Ct yX8_keyword cX8_keyword 1 (some .int) (1, 45) [vr 9] h (qi Q) := by
  refine Ct.of np_RX8 (Nat.le_of_ble_eq_true rfl) ?_
  unfold F_X8_keyword at hF
  show AW M_X8_keyword 0 [(0, vr 9)] [] h (qi Q)
  refine aw_aload_n (j := 0) (M := M_X8_keyword) (pc := 0) dX8_keyword_0 rfl rfl ?_
  refine gf_X8_29 (M := M_X8_keyword) (pc := 1) rfl dX8_keyword_1 rfl ?_
  refine aw_iconst (M := M_X8_keyword) (pc := 4) dX8_keyword_4 ⟨by decide, by decide⟩ ?_
  refine aw_icmp_ne (tgt := 15) (M := M_X8_keyword) (pc := 5) dX8_keyword_5 rfl (fun hc => ?_) (fun hc => ?_)
  · have hF := hF.1 hc
    refine aw_iconst (M := M_X8_keyword) (pc := 15) dX8_keyword_15 ⟨by decide, by decide⟩ ?_
    exact aw_ireti (M := M_X8_keyword) (pc := 16) dX8_keyword_16 rfl ⟨_, rfl, hF⟩
  · have hF := hF.2 hc
    refine aw_aload_n (j := 0) (M := M_X8_keyword) (pc := 8) dX8_keyword_8 rfl rfl ?_
    refine gf_X8_35 (M := M_X8_keyword) (pc := 9) rfl dX8_keyword_9 rfl ?_
    refine aw_goto (tgt := 16) (M := M_X8_keyword) (pc := 12) dX8_keyword_12 rfl ?_
    exact aw_ireti (M := M_X8_keyword) (pc := 16) dX8_keyword_16 rfl ⟨_, rfl, hF⟩
abbrev M_X2_takeWay : Hd := (cX2_takeWay, 2, RX2, (some .int), (4, 111), sc0)
def J_X2_takeWay_26 (h : Mem) (v1 : Int) (Q : Int → Mem → Prop) : Prop :=
  (h 34 1 = (9 : Int) ∧ (F_X8_advance h  (fun h8 => ((¬ (v1 = 4) → Q 1 h8) ∧ (v1 = 4 → Q 0 h8)))))
set_option maxRecDepth 100000 in
set_option maxHeartbeats 4000000 in
theorem j_X2_takeWay_26 {h : Mem} {v1 : Int} {Q : Int → Mem → Prop}  (hF : J_X2_takeWay_26 h v1 Q) : AW M_X2_takeWay 26 [(0, vr 34), (1, (0, v1))] [] h (qi Q) := by
  unfold J_X2_takeWay_26 at hF
  refine aw_aload_n (j := 0) (M := M_X2_takeWay) (pc := 26) dX2_takeWay_26 rfl rfl ?_
  obtain ⟨o7, hF⟩ := hF
  refine gf_X2_22 (M := M_X2_takeWay) (pc := 27) rfl dX2_takeWay_27 rfl ?_
  refine aw_ref (a := 9) o7 ?_
  refine aw_cvv (as := []) (st := []) (M := M_X2_takeWay) (pc := 30) (f_X8_advance  hF) dX2_takeWay_30 rfl (Or.inl ⟨_, _, _, rfl, rfl⟩) cy_X8_advance ml_X2_51 (by decide) (by decide) (Nat.le_of_ble_eq_true rfl) (fun h8 hF => ?_)
  refine aw_iload_n (j := 1) (M := M_X2_takeWay) (pc := 33) dX2_takeWay_33 rfl rfl ?_
  refine aw_iconst (M := M_X2_takeWay) (pc := 34) dX2_takeWay_34 ⟨by decide, by decide⟩ ?_
  refine aw_icmp_ne (tgt := 42) (M := M_X2_takeWay) (pc := 35) dX2_takeWay_35 rfl (fun hc => ?_) (fun hc => ?_)
  · have hF := hF.1 hc
    refine aw_iconst (M := M_X2_takeWay) (pc := 42) dX2_takeWay_42 ⟨by decide, by decide⟩ ?_
    exact aw_ireti (M := M_X2_takeWay) (pc := 43) dX2_takeWay_43 rfl ⟨_, rfl, hF⟩
  · have hF := hF.2 hc
    refine aw_iconst (M := M_X2_takeWay) (pc := 38) dX2_takeWay_38 ⟨by decide, by decide⟩ ?_
    refine aw_goto (tgt := 43) (M := M_X2_takeWay) (pc := 39) dX2_takeWay_39 rfl ?_
    exact aw_ireti (M := M_X2_takeWay) (pc := 43) dX2_takeWay_43 rfl ⟨_, rfl, hF⟩
def F_X2_takeWay (h : Mem)  (Q : Int → Mem → Prop) : Prop :=
  (h 34 1 = (9 : Int) ∧ (F_X8_keyword h  (fun r3 h2 => ((r3 = 4 → J_X2_takeWay_26 h2 r3 Q) ∧ (¬ (r3 = 4) → ((r3 = 5 → J_X2_takeWay_26 h2 r3 Q) ∧ (¬ (r3 = 5) → (h2 34 1 = (9 : Int) ∧ (F_X8_fail h2 2 (fun h5 => J_X2_takeWay_26 h5 r3 Q))))))))))
set_option maxRecDepth 100000 in
set_option maxHeartbeats 4000000 in
theorem f_X2_takeWay {h : Mem}  {Q : Int → Mem → Prop}  (hF : F_X2_takeWay h  Q) : Ct yX2_takeWay cX2_takeWay 2 (some .int) (4, 111) [vr 34] h (qi Q) := by
  refine Ct.of np_RX2 (Nat.le_of_ble_eq_true rfl) ?_
  unfold F_X2_takeWay at hF
  show AW M_X2_takeWay 0 [(0, vr 34)] [] h (qi Q)
  refine aw_aload_n (j := 0) (M := M_X2_takeWay) (pc := 0) dX2_takeWay_0 rfl rfl ?_
  obtain ⟨o1, hF⟩ := hF
  refine gf_X2_22 (M := M_X2_takeWay) (pc := 1) rfl dX2_takeWay_1 rfl ?_
  refine aw_ref (a := 9) o1 ?_
  refine aw_cvi (as := []) (st := []) (M := M_X2_takeWay) (pc := 4) (f_X8_keyword  hF) dX2_takeWay_4 rfl (Or.inl ⟨_, _, _, rfl, rfl⟩) cy_X8_keyword ml_X2_47 (by decide) (by decide) (Nat.le_of_ble_eq_true rfl) (fun r3 h2 hF => ?_)
  refine aw_istore_n (ls' := [(1, (0, r3)), (0, vr 34)]) (M := M_X2_takeWay) (pc := 7) dX2_takeWay_7 rfl (by decide) rfl ?_
  refine aw_iload_n (j := 0) (M := M_X2_takeWay) (pc := 8) dX2_takeWay_8 rfl rfl ?_
  refine aw_iconst (M := M_X2_takeWay) (pc := 9) dX2_takeWay_9 ⟨by decide, by decide⟩ ?_
  refine aw_icmp_eq (tgt := 26) (M := M_X2_takeWay) (pc := 10) dX2_takeWay_10 rfl (fun hc => ?_) (fun hc => ?_)
  · have hF := hF.1 hc
    exact aw_ls [1, 0] rfl (j_X2_takeWay_26  hF)
  · have hF := hF.2 hc
    refine aw_iload_n (j := 0) (M := M_X2_takeWay) (pc := 13) dX2_takeWay_13 rfl rfl ?_
    refine aw_iconst (M := M_X2_takeWay) (pc := 14) dX2_takeWay_14 ⟨by decide, by decide⟩ ?_
    refine aw_icmp_eq (tgt := 26) (M := M_X2_takeWay) (pc := 15) dX2_takeWay_15 rfl (fun hc => ?_) (fun hc => ?_)
    · have hF := hF.1 hc
      exact aw_ls [1, 0] rfl (j_X2_takeWay_26  hF)
    · have hF := hF.2 hc
      refine aw_aload_n (j := 1) (M := M_X2_takeWay) (pc := 18) dX2_takeWay_18 rfl rfl ?_
      obtain ⟨o4, hF⟩ := hF
      refine gf_X2_22 (M := M_X2_takeWay) (pc := 19) rfl dX2_takeWay_19 rfl ?_
      refine aw_ref (a := 9) o4 ?_
      refine aw_iconst (M := M_X2_takeWay) (pc := 22) dX2_takeWay_22 ⟨by decide, by decide⟩ ?_
      refine aw_cvv (as := [(0, 2)]) (st := []) (M := M_X2_takeWay) (pc := 23) (f_X8_fail  hF) dX2_takeWay_23 rfl (Or.inl ⟨_, _, _, rfl, rfl⟩) cy_X8_fail ml_X2_72 (by decide) (by decide) (Nat.le_of_ble_eq_true rfl) (fun h5 hF => ?_)
      exact aw_ls [1, 0] rfl (j_X2_takeWay_26  hF)
abbrev M_X8_takeNumberOf : Hd := (cX8_takeNumberOf, 4, RX8, (some .int), (4, 111), sc0)
def F_X8_takeNumberOf (h : Mem) (a1 : Int) (a2 : Int) (Q : Int → Mem → Prop) : Prop :=
  ((¬ ((h 9 9) = 0) → (F_X8_fail h 2 (fun h1 => Q a1 h1))) ∧ ((h 9 9) = 0 → (((h 9 5) = 2 → (((h 9 7) < a1 → (F_X8_fail h 4 (fun h3 => Q a1 h3))) ∧ (¬ ((h 9 7) < a1) → (((h 9 7) ≤ a2 → (F_X8_advance h  (fun h5 => Q (h 9 7) h5))) ∧ (¬ ((h 9 7) ≤ a2) → (F_X8_fail h 4 (fun h7 => Q a1 h7))))))) ∧ (¬ ((h 9 5) = 2) → (F_X8_fail h 2 (fun h9 => Q a1 h9))))))
set_option maxRecDepth 100000 in
set_option maxHeartbeats 4000000 in
theorem f_X8_takeNumberOf {h : Mem} {a1 : Int} {a2 : Int} {Q : Int → Mem → Prop}  (hF : F_X8_takeNumberOf h a1 a2 Q) : Ct yX8_takeNumberOf cX8_takeNumberOf 4 (some .int) (4, 111) [vr 9, (0, a1), (0, a2)] h (qi Q) := by
  refine Ct.of np_RX8 (Nat.le_of_ble_eq_true rfl) ?_
  unfold F_X8_takeNumberOf at hF
  show AW M_X8_takeNumberOf 0 [(0, vr 9), (1, (0, a1)), (2, (0, a2))] [] h (qi Q)
  refine aw_aload_n (j := 0) (M := M_X8_takeNumberOf) (pc := 0) dX8_takeNumberOf_0 rfl rfl ?_
  refine gf_X8_42 (M := M_X8_takeNumberOf) (pc := 1) rfl dX8_takeNumberOf_1 rfl ?_
  refine aw_if_ne (tgt := 15) (M := M_X8_takeNumberOf) (pc := 4) dX8_takeNumberOf_4 rfl (fun hc => ?_) (fun hc => ?_)
  · have hF := hF.1 hc
    refine aw_aload_n (j := 0) (M := M_X8_takeNumberOf) (pc := 15) dX8_takeNumberOf_15 rfl rfl ?_
    refine aw_iconst (M := M_X8_takeNumberOf) (pc := 16) dX8_takeNumberOf_16 ⟨by decide, by decide⟩ ?_
    refine aw_cvv (as := [(0, 2)]) (st := []) (M := M_X8_takeNumberOf) (pc := 17) (f_X8_fail  hF) dX8_takeNumberOf_17 rfl (Or.inl ⟨_, _, _, rfl, rfl⟩) cy_X8_fail ml_X8_91 (by decide) (by decide) (Nat.le_of_ble_eq_true rfl) (fun h1 hF => ?_)
    refine aw_iload_n (j := 1) (M := M_X8_takeNumberOf) (pc := 20) dX8_takeNumberOf_20 rfl rfl ?_
    exact aw_ireti (M := M_X8_takeNumberOf) (pc := 21) dX8_takeNumberOf_21 rfl ⟨_, rfl, hF⟩
  · have hF := hF.2 hc
    refine aw_aload_n (j := 0) (M := M_X8_takeNumberOf) (pc := 7) dX8_takeNumberOf_7 rfl rfl ?_
    refine gf_X8_29 (M := M_X8_takeNumberOf) (pc := 8) rfl dX8_takeNumberOf_8 rfl ?_
    refine aw_iconst (M := M_X8_takeNumberOf) (pc := 11) dX8_takeNumberOf_11 ⟨by decide, by decide⟩ ?_
    refine aw_icmp_eq (tgt := 22) (M := M_X8_takeNumberOf) (pc := 12) dX8_takeNumberOf_12 rfl (fun hc => ?_) (fun hc => ?_)
    · have hF := hF.1 hc
      refine aw_aload_n (j := 0) (M := M_X8_takeNumberOf) (pc := 22) dX8_takeNumberOf_22 rfl rfl ?_
      refine gf_X8_35 (M := M_X8_takeNumberOf) (pc := 23) rfl dX8_takeNumberOf_23 rfl ?_
      refine aw_iload_n (j := 1) (M := M_X8_takeNumberOf) (pc := 26) dX8_takeNumberOf_26 rfl rfl ?_
      refine aw_icmp_lt (tgt := 38) (M := M_X8_takeNumberOf) (pc := 27) dX8_takeNumberOf_27 rfl (fun hc => ?_) (fun hc => ?_)
      · have hF := hF.1 hc
        refine aw_aload_n (j := 0) (M := M_X8_takeNumberOf) (pc := 38) dX8_takeNumberOf_38 rfl rfl ?_
        refine aw_iconst (M := M_X8_takeNumberOf) (pc := 39) dX8_takeNumberOf_39 ⟨by decide, by decide⟩ ?_
        refine aw_cvv (as := [(0, 4)]) (st := []) (M := M_X8_takeNumberOf) (pc := 40) (f_X8_fail  hF) dX8_takeNumberOf_40 rfl (Or.inl ⟨_, _, _, rfl, rfl⟩) cy_X8_fail ml_X8_91 (by decide) (by decide) (Nat.le_of_ble_eq_true rfl) (fun h3 hF => ?_)
        refine aw_iload_n (j := 1) (M := M_X8_takeNumberOf) (pc := 43) dX8_takeNumberOf_43 rfl rfl ?_
        exact aw_ireti (M := M_X8_takeNumberOf) (pc := 44) dX8_takeNumberOf_44 rfl ⟨_, rfl, hF⟩
      · have hF := hF.2 hc
        refine aw_aload_n (j := 0) (M := M_X8_takeNumberOf) (pc := 30) dX8_takeNumberOf_30 rfl rfl ?_
        refine gf_X8_35 (M := M_X8_takeNumberOf) (pc := 31) rfl dX8_takeNumberOf_31 rfl ?_
        refine aw_iload_n (j := 2) (M := M_X8_takeNumberOf) (pc := 34) dX8_takeNumberOf_34 rfl rfl ?_
        refine aw_icmp_le (tgt := 45) (M := M_X8_takeNumberOf) (pc := 35) dX8_takeNumberOf_35 rfl (fun hc => ?_) (fun hc => ?_)
        · have hF := hF.1 hc
          refine aw_aload_n (j := 0) (M := M_X8_takeNumberOf) (pc := 45) dX8_takeNumberOf_45 rfl rfl ?_
          refine gf_X8_35 (M := M_X8_takeNumberOf) (pc := 46) rfl dX8_takeNumberOf_46 rfl ?_
          refine aw_istore_n (ls' := [(3, (0, h 9 7)), (0, vr 9), (1, (0, a1)), (2, (0, a2))]) (M := M_X8_takeNumberOf) (pc := 49) dX8_takeNumberOf_49 rfl (by decide) rfl ?_
          refine aw_aload_n (j := 1) (M := M_X8_takeNumberOf) (pc := 50) dX8_takeNumberOf_50 rfl rfl ?_
          refine aw_cvv (as := []) (st := []) (M := M_X8_takeNumberOf) (pc := 51) (f_X8_advance  hF) dX8_takeNumberOf_51 rfl (Or.inl ⟨_, _, _, rfl, rfl⟩) cy_X8_advance ml_X8_72 (by decide) (by decide) (Nat.le_of_ble_eq_true rfl) (fun h5 hF => ?_)
          refine aw_iload_n (j := 0) (M := M_X8_takeNumberOf) (pc := 54) dX8_takeNumberOf_54 rfl rfl ?_
          exact aw_ireti (M := M_X8_takeNumberOf) (pc := 55) dX8_takeNumberOf_55 rfl ⟨_, rfl, hF⟩
        · have hF := hF.2 hc
          refine aw_aload_n (j := 0) (M := M_X8_takeNumberOf) (pc := 38) dX8_takeNumberOf_38 rfl rfl ?_
          refine aw_iconst (M := M_X8_takeNumberOf) (pc := 39) dX8_takeNumberOf_39 ⟨by decide, by decide⟩ ?_
          refine aw_cvv (as := [(0, 4)]) (st := []) (M := M_X8_takeNumberOf) (pc := 40) (f_X8_fail  hF) dX8_takeNumberOf_40 rfl (Or.inl ⟨_, _, _, rfl, rfl⟩) cy_X8_fail ml_X8_91 (by decide) (by decide) (Nat.le_of_ble_eq_true rfl) (fun h7 hF => ?_)
          refine aw_iload_n (j := 1) (M := M_X8_takeNumberOf) (pc := 43) dX8_takeNumberOf_43 rfl rfl ?_
          exact aw_ireti (M := M_X8_takeNumberOf) (pc := 44) dX8_takeNumberOf_44 rfl ⟨_, rfl, hF⟩
    · have hF := hF.2 hc
      refine aw_aload_n (j := 0) (M := M_X8_takeNumberOf) (pc := 15) dX8_takeNumberOf_15 rfl rfl ?_
      refine aw_iconst (M := M_X8_takeNumberOf) (pc := 16) dX8_takeNumberOf_16 ⟨by decide, by decide⟩ ?_
      refine aw_cvv (as := [(0, 2)]) (st := []) (M := M_X8_takeNumberOf) (pc := 17) (f_X8_fail  hF) dX8_takeNumberOf_17 rfl (Or.inl ⟨_, _, _, rfl, rfl⟩) cy_X8_fail ml_X8_91 (by decide) (by decide) (Nat.le_of_ble_eq_true rfl) (fun h9 hF => ?_)
      refine aw_iload_n (j := 1) (M := M_X8_takeNumberOf) (pc := 20) dX8_takeNumberOf_20 rfl rfl ?_
      exact aw_ireti (M := M_X8_takeNumberOf) (pc := 21) dX8_takeNumberOf_21 rfl ⟨_, rfl, hF⟩
abbrev M_X2_readTest : Hd := (cX2_readTest, 4, RX2, (some .int), (5, 134), sc0)
def J_X2_readTest_23 (h : Mem) (v1 : Int) (Q : Int → Mem → Prop) : Prop :=
  (h 34 1 = (9 : Int) ∧ (F_X8_advance h  (fun h10 => ((¬ (v1 = 11) → ((¬ (v1 = 19) → ((¬ (v1 = 20) → (F_X2_takeCompares h10  (fun r13 h12 => ((¬ (v1 = 20) → (h12 34 1 = (9 : Int) ∧ (F_X8_takeNumberOf h12 0 15 (fun r16 h15 => (F_X1_addEntry h15 35 6 (-1) r16 r13 (fun r18 h17 => Q r18 h17)))))) ∧ (v1 = 20 → (h12 34 1 = (9 : Int) ∧ (F_X8_takeNumberOf h12 0 9999 (fun r21 h20 => (F_X1_addEntry h20 35 7 (-1) r21 r13 (fun r23 h22 => Q r23 h22)))))))))) ∧ (v1 = 20 → (F_X2_takeMill h10  (fun r25 h24 => (F_X2_takeCompares h24  (fun r27 h26 => ((¬ (v1 = 20) → (h26 34 1 = (9 : Int) ∧ (F_X8_takeNumberOf h26 0 15 (fun r30 h29 => (F_X1_addEntry h29 35 6 (-1) r30 r27 (fun r32 h31 => Q r32 h31)))))) ∧ (v1 = 20 → (h26 34 1 = (9 : Int) ∧ (F_X8_takeNumberOf h26 0 9999 (fun r35 h34 => (F_X1_addEntry h34 35 7 r25 r35 r27 (fun r37 h36 => Q r37 h36)))))))))))))) ∧ (v1 = 19 → (F_X2_takeWay h10  (fun r39 h38 => (F_X1_addEntry h38 35 5 r39 0 0 (fun r41 h40 => Q r41 h40))))))) ∧ (v1 = 11 → (F_X2_takeThing h10  (fun r43 h42 => (F_X1_addEntry h42 35 4 r43 0 0 (fun r45 h44 => Q r45 h44)))))))))
set_option maxRecDepth 100000 in
set_option maxHeartbeats 4000000 in
theorem j_X2_readTest_23 {h : Mem} {v1 : Int} {Q : Int → Mem → Prop}  (hF : J_X2_readTest_23 h v1 Q) : AW M_X2_readTest 23 [(0, vr 34), (1, (0, v1))] [] h (qi Q) := by
  unfold J_X2_readTest_23 at hF
  refine aw_aload_n (j := 0) (M := M_X2_readTest) (pc := 23) dX2_readTest_23 rfl rfl ?_
  obtain ⟨o9, hF⟩ := hF
  refine gf_X2_22 (M := M_X2_readTest) (pc := 24) rfl dX2_readTest_24 rfl ?_
  refine aw_ref (a := 9) o9 ?_
  refine aw_cvv (as := []) (st := []) (M := M_X2_readTest) (pc := 27) (f_X8_advance  hF) dX2_readTest_27 rfl (Or.inl ⟨_, _, _, rfl, rfl⟩) cy_X8_advance ml_X2_51 (by decide) (by decide) (Nat.le_of_ble_eq_true rfl) (fun h10 hF => ?_)
  refine aw_iload_n (j := 1) (M := M_X2_readTest) (pc := 30) dX2_readTest_30 rfl rfl ?_
  refine aw_bipush (M := M_X2_readTest) (pc := 31) dX2_readTest_31 ⟨rfl, ⟨by decide, by decide⟩⟩ ?_
  refine aw_icmp_ne (tgt := 51) (M := M_X2_readTest) (pc := 33) dX2_readTest_33 rfl (fun hc => ?_) (fun hc => ?_)
  · have hF := hF.1 hc
    refine aw_iload_n (j := 1) (M := M_X2_readTest) (pc := 51) dX2_readTest_51 rfl rfl ?_
    refine aw_bipush (M := M_X2_readTest) (pc := 52) dX2_readTest_52 ⟨rfl, ⟨by decide, by decide⟩⟩ ?_
    refine aw_icmp_ne (tgt := 72) (M := M_X2_readTest) (pc := 54) dX2_readTest_54 rfl (fun hc => ?_) (fun hc => ?_)
    · have hF := hF.1 hc
      refine aw_iload_n (j := 1) (M := M_X2_readTest) (pc := 72) dX2_readTest_72 rfl rfl ?_
      refine aw_bipush (M := M_X2_readTest) (pc := 73) dX2_readTest_73 ⟨rfl, ⟨by decide, by decide⟩⟩ ?_
      refine aw_icmp_ne (tgt := 85) (M := M_X2_readTest) (pc := 75) dX2_readTest_75 rfl (fun hc => ?_) (fun hc => ?_)
      · have hF := hF.1 hc
        refine aw_iconst (M := M_X2_readTest) (pc := 85) dX2_readTest_85 ⟨by decide, by decide⟩ ?_
        refine aw_istore_n (ls' := [(2, (0, (-1))), (0, vr 34), (1, (0, v1))]) (M := M_X2_readTest) (pc := 86) dX2_readTest_86 rfl (by decide) rfl ?_
        refine aw_aload_n (j := 1) (M := M_X2_readTest) (pc := 87) dX2_readTest_87 rfl rfl ?_
        refine aw_cvi (as := []) (st := []) (M := M_X2_readTest) (pc := 88) (f_X2_takeCompares  hF) dX2_readTest_88 rfl (Or.inl ⟨_, _, _, rfl, rfl⟩) cy_X2_takeCompares ml_X2_116 (by decide) (by decide) (Nat.le_of_ble_eq_true rfl) (fun r13 h12 hF => ?_)
        refine aw_istore_n (ls' := [(3, (0, r13)), (2, (0, (-1))), (0, vr 34), (1, (0, v1))]) (M := M_X2_readTest) (pc := 91) dX2_readTest_91 rfl (by decide) rfl ?_
        refine aw_iload_n (j := 3) (M := M_X2_readTest) (pc := 92) dX2_readTest_92 rfl rfl ?_
        refine aw_bipush (M := M_X2_readTest) (pc := 93) dX2_readTest_93 ⟨rfl, ⟨by decide, by decide⟩⟩ ?_
        refine aw_icmp_ne (tgt := 121) (M := M_X2_readTest) (pc := 95) dX2_readTest_95 rfl (fun hc => ?_) (fun hc => ?_)
        · have hF := hF.1 hc
          refine aw_aload_n (j := 2) (M := M_X2_readTest) (pc := 121) dX2_readTest_121 rfl rfl ?_
          refine gf_X2_12 (M := M_X2_readTest) (pc := 122) rfl dX2_readTest_122 rfl (r := 35) rfl ?_
          refine aw_bipush (M := M_X2_readTest) (pc := 125) dX2_readTest_125 ⟨rfl, ⟨by decide, by decide⟩⟩ ?_
          refine aw_iconst (M := M_X2_readTest) (pc := 127) dX2_readTest_127 ⟨by decide, by decide⟩ ?_
          refine aw_aload_n (j := 2) (M := M_X2_readTest) (pc := 128) dX2_readTest_128 rfl rfl ?_
          obtain ⟨o14, hF⟩ := hF
          refine gf_X2_22 (M := M_X2_readTest) (pc := 129) rfl dX2_readTest_129 rfl ?_
          refine aw_ref (a := 9) o14 ?_
          refine aw_iconst (M := M_X2_readTest) (pc := 132) dX2_readTest_132 ⟨by decide, by decide⟩ ?_
          refine aw_bipush (M := M_X2_readTest) (pc := 133) dX2_readTest_133 ⟨rfl, ⟨by decide, by decide⟩⟩ ?_
          refine aw_cvi (as := [(0, 0), (0, 15)]) (st := [(0, (-1)), (0, 6), vr 35]) (M := M_X2_readTest) (pc := 135) (f_X8_takeNumberOf  hF) dX2_readTest_135 rfl (Or.inl ⟨_, _, _, rfl, rfl⟩) cy_X8_takeNumberOf ml_X2_92 (by decide) (by decide) (Nat.le_of_ble_eq_true rfl) (fun r16 h15 hF => ?_)
          refine aw_iload_n (j := 0) (M := M_X2_readTest) (pc := 138) dX2_readTest_138 rfl rfl ?_
          refine aw_cvi (as := [(0, 6), (0, (-1)), (0, r16), (0, r13)]) (st := []) (M := M_X2_readTest) (pc := 139) (f_X1_addEntry rfl hF) dX2_readTest_139 rfl (Or.inl ⟨_, _, _, rfl, rfl⟩) cy_X1_addEntry ml_X2_75 (by decide) (by decide) (Nat.le_of_ble_eq_true rfl) (fun r18 h17 hF => ?_)
          exact aw_ireti (M := M_X2_readTest) (pc := 142) dX2_readTest_142 rfl ⟨_, rfl, hF⟩
        · have hF := hF.2 hc
          refine aw_aload_n (j := 2) (M := M_X2_readTest) (pc := 98) dX2_readTest_98 rfl rfl ?_
          refine gf_X2_12 (M := M_X2_readTest) (pc := 99) rfl dX2_readTest_99 rfl (r := 35) rfl ?_
          refine aw_bipush (M := M_X2_readTest) (pc := 102) dX2_readTest_102 ⟨rfl, ⟨by decide, by decide⟩⟩ ?_
          refine aw_iload_n (j := 1) (M := M_X2_readTest) (pc := 104) dX2_readTest_104 rfl rfl ?_
          refine aw_aload_n (j := 2) (M := M_X2_readTest) (pc := 105) dX2_readTest_105 rfl rfl ?_
          obtain ⟨o19, hF⟩ := hF
          refine gf_X2_22 (M := M_X2_readTest) (pc := 106) rfl dX2_readTest_106 rfl ?_
          refine aw_ref (a := 9) o19 ?_
          refine aw_iconst (M := M_X2_readTest) (pc := 109) dX2_readTest_109 ⟨by decide, by decide⟩ ?_
          refine aw_sipush (M := M_X2_readTest) (pc := 110) dX2_readTest_110 ⟨rfl, ⟨by decide, by decide⟩⟩ ?_
          refine aw_cvi (as := [(0, 0), (0, 9999)]) (st := [(0, (-1)), (0, 7), vr 35]) (M := M_X2_readTest) (pc := 113) (f_X8_takeNumberOf  hF) dX2_readTest_113 rfl (Or.inl ⟨_, _, _, rfl, rfl⟩) cy_X8_takeNumberOf ml_X2_92 (by decide) (by decide) (Nat.le_of_ble_eq_true rfl) (fun r21 h20 hF => ?_)
          refine aw_iload_n (j := 0) (M := M_X2_readTest) (pc := 116) dX2_readTest_116 rfl rfl ?_
          refine aw_cvi (as := [(0, 7), (0, (-1)), (0, r21), (0, r13)]) (st := []) (M := M_X2_readTest) (pc := 117) (f_X1_addEntry rfl hF) dX2_readTest_117 rfl (Or.inl ⟨_, _, _, rfl, rfl⟩) cy_X1_addEntry ml_X2_75 (by decide) (by decide) (Nat.le_of_ble_eq_true rfl) (fun r23 h22 hF => ?_)
          exact aw_ireti (M := M_X2_readTest) (pc := 120) dX2_readTest_120 rfl ⟨_, rfl, hF⟩
      · have hF := hF.2 hc
        refine aw_aload_n (j := 0) (M := M_X2_readTest) (pc := 78) dX2_readTest_78 rfl rfl ?_
        refine aw_cvi (as := []) (st := []) (M := M_X2_readTest) (pc := 79) (f_X2_takeMill  hF) dX2_readTest_79 rfl (Or.inl ⟨_, _, _, rfl, rfl⟩) cy_X2_takeMill ml_X2_113 (by decide) (by decide) (Nat.le_of_ble_eq_true rfl) (fun r25 h24 hF => ?_)
        refine aw_goto (tgt := 86) (M := M_X2_readTest) (pc := 82) dX2_readTest_82 rfl ?_
        refine aw_istore_n (ls' := [(2, (0, r25)), (0, vr 34), (1, (0, v1))]) (M := M_X2_readTest) (pc := 86) dX2_readTest_86 rfl (by decide) rfl ?_
        refine aw_aload_n (j := 1) (M := M_X2_readTest) (pc := 87) dX2_readTest_87 rfl rfl ?_
        refine aw_cvi (as := []) (st := []) (M := M_X2_readTest) (pc := 88) (f_X2_takeCompares  hF) dX2_readTest_88 rfl (Or.inl ⟨_, _, _, rfl, rfl⟩) cy_X2_takeCompares ml_X2_116 (by decide) (by decide) (Nat.le_of_ble_eq_true rfl) (fun r27 h26 hF => ?_)
        refine aw_istore_n (ls' := [(3, (0, r27)), (2, (0, r25)), (0, vr 34), (1, (0, v1))]) (M := M_X2_readTest) (pc := 91) dX2_readTest_91 rfl (by decide) rfl ?_
        refine aw_iload_n (j := 3) (M := M_X2_readTest) (pc := 92) dX2_readTest_92 rfl rfl ?_
        refine aw_bipush (M := M_X2_readTest) (pc := 93) dX2_readTest_93 ⟨rfl, ⟨by decide, by decide⟩⟩ ?_
        refine aw_icmp_ne (tgt := 121) (M := M_X2_readTest) (pc := 95) dX2_readTest_95 rfl (fun hc => ?_) (fun hc => ?_)
        · have hF := hF.1 hc
          refine aw_aload_n (j := 2) (M := M_X2_readTest) (pc := 121) dX2_readTest_121 rfl rfl ?_
          refine gf_X2_12 (M := M_X2_readTest) (pc := 122) rfl dX2_readTest_122 rfl (r := 35) rfl ?_
          refine aw_bipush (M := M_X2_readTest) (pc := 125) dX2_readTest_125 ⟨rfl, ⟨by decide, by decide⟩⟩ ?_
          refine aw_iconst (M := M_X2_readTest) (pc := 127) dX2_readTest_127 ⟨by decide, by decide⟩ ?_
          refine aw_aload_n (j := 2) (M := M_X2_readTest) (pc := 128) dX2_readTest_128 rfl rfl ?_
          obtain ⟨o28, hF⟩ := hF
          refine gf_X2_22 (M := M_X2_readTest) (pc := 129) rfl dX2_readTest_129 rfl ?_
          refine aw_ref (a := 9) o28 ?_
          refine aw_iconst (M := M_X2_readTest) (pc := 132) dX2_readTest_132 ⟨by decide, by decide⟩ ?_
          refine aw_bipush (M := M_X2_readTest) (pc := 133) dX2_readTest_133 ⟨rfl, ⟨by decide, by decide⟩⟩ ?_
          refine aw_cvi (as := [(0, 0), (0, 15)]) (st := [(0, (-1)), (0, 6), vr 35]) (M := M_X2_readTest) (pc := 135) (f_X8_takeNumberOf  hF) dX2_readTest_135 rfl (Or.inl ⟨_, _, _, rfl, rfl⟩) cy_X8_takeNumberOf ml_X2_92 (by decide) (by decide) (Nat.le_of_ble_eq_true rfl) (fun r30 h29 hF => ?_)
          refine aw_iload_n (j := 0) (M := M_X2_readTest) (pc := 138) dX2_readTest_138 rfl rfl ?_
          refine aw_cvi (as := [(0, 6), (0, (-1)), (0, r30), (0, r27)]) (st := []) (M := M_X2_readTest) (pc := 139) (f_X1_addEntry rfl hF) dX2_readTest_139 rfl (Or.inl ⟨_, _, _, rfl, rfl⟩) cy_X1_addEntry ml_X2_75 (by decide) (by decide) (Nat.le_of_ble_eq_true rfl) (fun r32 h31 hF => ?_)
          exact aw_ireti (M := M_X2_readTest) (pc := 142) dX2_readTest_142 rfl ⟨_, rfl, hF⟩
        · have hF := hF.2 hc
          refine aw_aload_n (j := 2) (M := M_X2_readTest) (pc := 98) dX2_readTest_98 rfl rfl ?_
          refine gf_X2_12 (M := M_X2_readTest) (pc := 99) rfl dX2_readTest_99 rfl (r := 35) rfl ?_
          refine aw_bipush (M := M_X2_readTest) (pc := 102) dX2_readTest_102 ⟨rfl, ⟨by decide, by decide⟩⟩ ?_
          refine aw_iload_n (j := 1) (M := M_X2_readTest) (pc := 104) dX2_readTest_104 rfl rfl ?_
          refine aw_aload_n (j := 2) (M := M_X2_readTest) (pc := 105) dX2_readTest_105 rfl rfl ?_
          obtain ⟨o33, hF⟩ := hF
          refine gf_X2_22 (M := M_X2_readTest) (pc := 106) rfl dX2_readTest_106 rfl ?_
          refine aw_ref (a := 9) o33 ?_
          refine aw_iconst (M := M_X2_readTest) (pc := 109) dX2_readTest_109 ⟨by decide, by decide⟩ ?_
          refine aw_sipush (M := M_X2_readTest) (pc := 110) dX2_readTest_110 ⟨rfl, ⟨by decide, by decide⟩⟩ ?_
          refine aw_cvi (as := [(0, 0), (0, 9999)]) (st := [(0, r25), (0, 7), vr 35]) (M := M_X2_readTest) (pc := 113) (f_X8_takeNumberOf  hF) dX2_readTest_113 rfl (Or.inl ⟨_, _, _, rfl, rfl⟩) cy_X8_takeNumberOf ml_X2_92 (by decide) (by decide) (Nat.le_of_ble_eq_true rfl) (fun r35 h34 hF => ?_)
          refine aw_iload_n (j := 0) (M := M_X2_readTest) (pc := 116) dX2_readTest_116 rfl rfl ?_
          refine aw_cvi (as := [(0, 7), (0, r25), (0, r35), (0, r27)]) (st := []) (M := M_X2_readTest) (pc := 117) (f_X1_addEntry rfl hF) dX2_readTest_117 rfl (Or.inl ⟨_, _, _, rfl, rfl⟩) cy_X1_addEntry ml_X2_75 (by decide) (by decide) (Nat.le_of_ble_eq_true rfl) (fun r37 h36 hF => ?_)
          exact aw_ireti (M := M_X2_readTest) (pc := 120) dX2_readTest_120 rfl ⟨_, rfl, hF⟩
    · have hF := hF.2 hc
      refine aw_aload_n (j := 0) (M := M_X2_readTest) (pc := 57) dX2_readTest_57 rfl rfl ?_
      refine gf_X2_12 (M := M_X2_readTest) (pc := 58) rfl dX2_readTest_58 rfl (r := 35) rfl ?_
      refine aw_iconst (M := M_X2_readTest) (pc := 61) dX2_readTest_61 ⟨by decide, by decide⟩ ?_
      refine aw_aload_n (j := 0) (M := M_X2_readTest) (pc := 62) dX2_readTest_62 rfl rfl ?_
      refine aw_cvi (as := []) (st := [(0, 5), vr 35]) (M := M_X2_readTest) (pc := 63) (f_X2_takeWay  hF) dX2_readTest_63 rfl (Or.inl ⟨_, _, _, rfl, rfl⟩) cy_X2_takeWay ml_X2_110 (by decide) (by decide) (Nat.le_of_ble_eq_true rfl) (fun r39 h38 hF => ?_)
      refine aw_iconst (M := M_X2_readTest) (pc := 66) dX2_readTest_66 ⟨by decide, by decide⟩ ?_
      refine aw_iconst (M := M_X2_readTest) (pc := 67) dX2_readTest_67 ⟨by decide, by decide⟩ ?_
      refine aw_cvi (as := [(0, 5), (0, r39), (0, 0), (0, 0)]) (st := []) (M := M_X2_readTest) (pc := 68) (f_X1_addEntry rfl hF) dX2_readTest_68 rfl (Or.inl ⟨_, _, _, rfl, rfl⟩) cy_X1_addEntry ml_X2_75 (by decide) (by decide) (Nat.le_of_ble_eq_true rfl) (fun r41 h40 hF => ?_)
      exact aw_ireti (M := M_X2_readTest) (pc := 71) dX2_readTest_71 rfl ⟨_, rfl, hF⟩
  · have hF := hF.2 hc
    refine aw_aload_n (j := 0) (M := M_X2_readTest) (pc := 36) dX2_readTest_36 rfl rfl ?_
    refine gf_X2_12 (M := M_X2_readTest) (pc := 37) rfl dX2_readTest_37 rfl (r := 35) rfl ?_
    refine aw_iconst (M := M_X2_readTest) (pc := 40) dX2_readTest_40 ⟨by decide, by decide⟩ ?_
    refine aw_aload_n (j := 0) (M := M_X2_readTest) (pc := 41) dX2_readTest_41 rfl rfl ?_
    refine aw_cvi (as := []) (st := [(0, 4), vr 35]) (M := M_X2_readTest) (pc := 42) (f_X2_takeThing  hF) dX2_readTest_42 rfl (Or.inl ⟨_, _, _, rfl, rfl⟩) cy_X2_takeThing ml_X2_96 (by decide) (by decide) (Nat.le_of_ble_eq_true rfl) (fun r43 h42 hF => ?_)
    refine aw_iconst (M := M_X2_readTest) (pc := 45) dX2_readTest_45 ⟨by decide, by decide⟩ ?_
    refine aw_iconst (M := M_X2_readTest) (pc := 46) dX2_readTest_46 ⟨by decide, by decide⟩ ?_
    refine aw_cvi (as := [(0, 4), (0, r43), (0, 0), (0, 0)]) (st := []) (M := M_X2_readTest) (pc := 47) (f_X1_addEntry rfl hF) dX2_readTest_47 rfl (Or.inl ⟨_, _, _, rfl, rfl⟩) cy_X1_addEntry ml_X2_75 (by decide) (by decide) (Nat.le_of_ble_eq_true rfl) (fun r45 h44 hF => ?_)
    exact aw_ireti (M := M_X2_readTest) (pc := 50) dX2_readTest_50 rfl ⟨_, rfl, hF⟩
def F_X2_readTest (h : Mem)  (Q : Int → Mem → Prop) : Prop :=
  (h 34 1 = (9 : Int) ∧ (F_X8_keyword h  (fun r3 h2 => (F_X2_isTest h2 r3 (fun r5 h4 => ((¬ (r5 = 0) → J_X2_readTest_23 h4 r3 Q) ∧ (r5 = 0 → (h4 34 1 = (9 : Int) ∧ (F_X8_fail h4 2 (fun h7 => J_X2_readTest_23 h7 r3 Q))))))))))
set_option maxRecDepth 100000 in
set_option maxHeartbeats 4000000 in
theorem f_X2_readTest {h : Mem}  {Q : Int → Mem → Prop}  (hF : F_X2_readTest h  Q) : Ct yX2_readTest cX2_readTest 4 (some .int) (5, 134) [vr 34] h (qi Q) := by
  refine Ct.of np_RX2 (Nat.le_of_ble_eq_true rfl) ?_
  unfold F_X2_readTest at hF
  show AW M_X2_readTest 0 [(0, vr 34)] [] h (qi Q)
  refine aw_aload_n (j := 0) (M := M_X2_readTest) (pc := 0) dX2_readTest_0 rfl rfl ?_
  obtain ⟨o1, hF⟩ := hF
  refine gf_X2_22 (M := M_X2_readTest) (pc := 1) rfl dX2_readTest_1 rfl ?_
  refine aw_ref (a := 9) o1 ?_
  refine aw_cvi (as := []) (st := []) (M := M_X2_readTest) (pc := 4) (f_X8_keyword  hF) dX2_readTest_4 rfl (Or.inl ⟨_, _, _, rfl, rfl⟩) cy_X8_keyword ml_X2_47 (by decide) (by decide) (Nat.le_of_ble_eq_true rfl) (fun r3 h2 hF => ?_)
  refine aw_istore_n (ls' := [(1, (0, r3)), (0, vr 34)]) (M := M_X2_readTest) (pc := 7) dX2_readTest_7 rfl (by decide) rfl ?_
  refine aw_iload_n (j := 0) (M := M_X2_readTest) (pc := 8) dX2_readTest_8 rfl rfl ?_
  refine aw_csi (as := [(0, r3)]) (st := []) (M := M_X2_readTest) (pc := 9) (f_X2_isTest  hF) dX2_readTest_9 rfl cy_X2_isTest ml_X2_107 (by decide) (by decide) (Nat.le_of_ble_eq_true rfl) (fun r5 h4 hF => ?_)
  refine aw_if_ne (tgt := 23) (M := M_X2_readTest) (pc := 12) dX2_readTest_12 rfl (fun hc => ?_) (fun hc => ?_)
  · have hF := hF.1 hc
    exact aw_ls [1, 0] rfl (j_X2_readTest_23  hF)
  · have hF := hF.2 hc
    refine aw_aload_n (j := 1) (M := M_X2_readTest) (pc := 15) dX2_readTest_15 rfl rfl ?_
    obtain ⟨o6, hF⟩ := hF
    refine gf_X2_22 (M := M_X2_readTest) (pc := 16) rfl dX2_readTest_16 rfl ?_
    refine aw_ref (a := 9) o6 ?_
    refine aw_iconst (M := M_X2_readTest) (pc := 19) dX2_readTest_19 ⟨by decide, by decide⟩ ?_
    refine aw_cvv (as := [(0, 2)]) (st := []) (M := M_X2_readTest) (pc := 20) (f_X8_fail  hF) dX2_readTest_20 rfl (Or.inl ⟨_, _, _, rfl, rfl⟩) cy_X8_fail ml_X2_72 (by decide) (by decide) (Nat.le_of_ble_eq_true rfl) (fun h7 hF => ?_)
    exact aw_ls [1, 0] rfl (j_X2_readTest_23  hF)
theorem so_X2_readRest_1 {x : Int} (h0 : ¬ x = 14) (h1 : ¬ x = 15) (h2 : ¬ x = 16) (h3 : ¬ x = 17) (h4 : ¬ x = 18) (h5 : ¬ x = 19) (h6 : ¬ x = 20) (h7 : ¬ x = 21) : x < 14 ∨ 21 < x := by omega
abbrev M_X2_readRest : Hd := (cX2_readRest, 2, RX2, (some .int), (6, 157), sc0)
def F_X2_readRest (h : Mem) (a1 : Int) (Q : Int → Mem → Prop) : Prop :=
  ((a1 = 14 → (h 34 1 = (9 : Int) ∧ (F_X8_takeNumberOf h 1 24 (fun r3 h2 => (F_X1_addEntry h2 35 0 r3 0 0 (fun r5 h4 => Q r5 h4)))))) ∧ ((a1 = 15 → (F_X2_takeThing h  (fun r7 h6 => (h6 34 1 = (9 : Int) ∧ (∃ r9 : Nat, h6 34 2 = (r9 : Int) ∧ lay r9 = (0, 4) ∧ (InR ((h6 r9 0) - 1) ∧ (F_X8_takeNumberOf h6 0 ((h6 r9 0) - 1) (fun r12 h11 => (F_X1_addEntry h11 35 1 r7 r12 0 (fun r14 h13 => Q r14 h13)))))))))) ∧ ((a1 = 16 → (F_X2_takeThing h  (fun r16 h15 => (F_X1_addEntry h15 35 2 r16 0 0 (fun r18 h17 => Q r18 h17))))) ∧ ((a1 = 17 → (F_X1_addEntry h 35 3 0 0 0 (fun r20 h19 => Q r20 h19))) ∧ ((a1 = 18 → (F_X2_readTest h  (fun r22 h21 => Q r22 h21))) ∧ ((a1 = 19 → (F_X1_addEntry h 35 9 0 0 0 (fun r24 h23 => Q r24 h23))) ∧ ((a1 = 20 → (F_X1_addEntry h 35 9 0 0 0 (fun r26 h25 => Q r26 h25))) ∧ ((a1 = 21 → (h 34 1 = (9 : Int) ∧ (F_X8_takeNumberOf h 1 99 (fun r29 h28 => (F_X1_addEntry h28 35 8 r29 0 0 (fun r31 h30 => Q r31 h30)))))) ∧ ((a1 < 14 ∨ 21 < a1) → (F_X1_addEntry h 35 9 0 0 0 (fun r33 h32 => Q r33 h32)))))))))))
set_option maxRecDepth 100000 in
set_option maxHeartbeats 4000000 in
theorem f_X2_readRest {h : Mem} {a1 : Int} {Q : Int → Mem → Prop}  (hF : F_X2_readRest h a1 Q) : Ct yX2_readRest cX2_readRest 2 (some .int) (6, 157) [vr 34, (0, a1)] h (qi Q) := by
  refine Ct.of np_RX2 (Nat.le_of_ble_eq_true rfl) ?_
  unfold F_X2_readRest at hF
  show AW M_X2_readRest 0 [(0, vr 34), (1, (0, a1))] [] h (qi Q)
  refine aw_iload_n (j := 1) (M := M_X2_readRest) (pc := 0) dX2_readRest_0 rfl rfl ?_
  by_cases hc : a1 = 14
  · have hF := hF.1 hc
    refine aw_tableIn (tgt := 48) (M := M_X2_readRest) (pc := 1) dX2_readRest_1 (by rw [hc]; decide) (by rw [hc]; decide) (off := 47) (by rw [hc]; rfl) rfl ?_
    refine aw_aload_n (j := 0) (M := M_X2_readRest) (pc := 48) dX2_readRest_48 rfl rfl ?_
    refine gf_X2_12 (M := M_X2_readRest) (pc := 49) rfl dX2_readRest_49 rfl (r := 35) rfl ?_
    refine aw_iconst (M := M_X2_readRest) (pc := 52) dX2_readRest_52 ⟨by decide, by decide⟩ ?_
    refine aw_aload_n (j := 0) (M := M_X2_readRest) (pc := 53) dX2_readRest_53 rfl rfl ?_
    obtain ⟨o1, hF⟩ := hF
    refine gf_X2_22 (M := M_X2_readRest) (pc := 54) rfl dX2_readRest_54 rfl ?_
    refine aw_ref (a := 9) o1 ?_
    refine aw_iconst (M := M_X2_readRest) (pc := 57) dX2_readRest_57 ⟨by decide, by decide⟩ ?_
    refine aw_bipush (M := M_X2_readRest) (pc := 58) dX2_readRest_58 ⟨rfl, ⟨by decide, by decide⟩⟩ ?_
    refine aw_cvi (as := [(0, 1), (0, 24)]) (st := [(0, 0), vr 35]) (M := M_X2_readRest) (pc := 60) (f_X8_takeNumberOf  hF) dX2_readRest_60 rfl (Or.inl ⟨_, _, _, rfl, rfl⟩) cy_X8_takeNumberOf ml_X2_92 (by decide) (by decide) (Nat.le_of_ble_eq_true rfl) (fun r3 h2 hF => ?_)
    refine aw_iconst (M := M_X2_readRest) (pc := 63) dX2_readRest_63 ⟨by decide, by decide⟩ ?_
    refine aw_iconst (M := M_X2_readRest) (pc := 64) dX2_readRest_64 ⟨by decide, by decide⟩ ?_
    refine aw_cvi (as := [(0, 0), (0, r3), (0, 0), (0, 0)]) (st := []) (M := M_X2_readRest) (pc := 65) (f_X1_addEntry rfl hF) dX2_readRest_65 rfl (Or.inl ⟨_, _, _, rfl, rfl⟩) cy_X1_addEntry ml_X2_75 (by decide) (by decide) (Nat.le_of_ble_eq_true rfl) (fun r5 h4 hF => ?_)
    exact aw_ireti (M := M_X2_readRest) (pc := 68) dX2_readRest_68 rfl ⟨_, rfl, hF⟩
  have hF := hF.2
  have hc0 := hc
  by_cases hc : a1 = 15
  · have hF := hF.1 hc
    refine aw_tableIn (tgt := 69) (M := M_X2_readRest) (pc := 1) dX2_readRest_1 (by rw [hc]; decide) (by rw [hc]; decide) (off := 68) (by rw [hc]; rfl) rfl ?_
    refine aw_aload_n (j := 0) (M := M_X2_readRest) (pc := 69) dX2_readRest_69 rfl rfl ?_
    refine gf_X2_12 (M := M_X2_readRest) (pc := 70) rfl dX2_readRest_70 rfl (r := 35) rfl ?_
    refine aw_iconst (M := M_X2_readRest) (pc := 73) dX2_readRest_73 ⟨by decide, by decide⟩ ?_
    refine aw_aload_n (j := 0) (M := M_X2_readRest) (pc := 74) dX2_readRest_74 rfl rfl ?_
    refine aw_cvi (as := []) (st := [(0, 1), vr 35]) (M := M_X2_readRest) (pc := 75) (f_X2_takeThing  hF) dX2_readRest_75 rfl (Or.inl ⟨_, _, _, rfl, rfl⟩) cy_X2_takeThing ml_X2_96 (by decide) (by decide) (Nat.le_of_ble_eq_true rfl) (fun r7 h6 hF => ?_)
    refine aw_aload_n (j := 0) (M := M_X2_readRest) (pc := 78) dX2_readRest_78 rfl rfl ?_
    obtain ⟨o8, hF⟩ := hF
    refine gf_X2_22 (M := M_X2_readRest) (pc := 79) rfl dX2_readRest_79 rfl ?_
    refine aw_ref (a := 9) o8 ?_
    refine aw_iconst (M := M_X2_readRest) (pc := 82) dX2_readRest_82 ⟨by decide, by decide⟩ ?_
    refine aw_aload_n (j := 0) (M := M_X2_readRest) (pc := 83) dX2_readRest_83 rfl rfl ?_
    refine gf_X2_26 (M := M_X2_readRest) (pc := 84) rfl dX2_readRest_84 rfl ?_
    obtain ⟨r9, er9, lr9, hF⟩ := hF
    refine aw_ref (a := r9) er9 ?_
    refine gf_X2_99 (M := M_X2_readRest) (pc := 87) rfl dX2_readRest_87 lr9 ?_
    refine aw_iconst (M := M_X2_readRest) (pc := 90) dX2_readRest_90 ⟨by decide, by decide⟩ ?_
    obtain ⟨o10, hF⟩ := hF
    refine aw_isub (M := M_X2_readRest) (pc := 91) dX2_readRest_91 rfl o10 ?_
    refine aw_cvi (as := [(0, 0), (0, (h6 r9 0) - 1)]) (st := [(0, r7), (0, 1), vr 35]) (M := M_X2_readRest) (pc := 92) (f_X8_takeNumberOf  hF) dX2_readRest_92 rfl (Or.inl ⟨_, _, _, rfl, rfl⟩) cy_X8_takeNumberOf ml_X2_92 (by decide) (by decide) (Nat.le_of_ble_eq_true rfl) (fun r12 h11 hF => ?_)
    refine aw_iconst (M := M_X2_readRest) (pc := 95) dX2_readRest_95 ⟨by decide, by decide⟩ ?_
    refine aw_cvi (as := [(0, 1), (0, r7), (0, r12), (0, 0)]) (st := []) (M := M_X2_readRest) (pc := 96) (f_X1_addEntry rfl hF) dX2_readRest_96 rfl (Or.inl ⟨_, _, _, rfl, rfl⟩) cy_X1_addEntry ml_X2_75 (by decide) (by decide) (Nat.le_of_ble_eq_true rfl) (fun r14 h13 hF => ?_)
    exact aw_ireti (M := M_X2_readRest) (pc := 99) dX2_readRest_99 rfl ⟨_, rfl, hF⟩
  have hF := hF.2
  have hc1 := hc
  by_cases hc : a1 = 16
  · have hF := hF.1 hc
    refine aw_tableIn (tgt := 100) (M := M_X2_readRest) (pc := 1) dX2_readRest_1 (by rw [hc]; decide) (by rw [hc]; decide) (off := 99) (by rw [hc]; rfl) rfl ?_
    refine aw_aload_n (j := 0) (M := M_X2_readRest) (pc := 100) dX2_readRest_100 rfl rfl ?_
    refine gf_X2_12 (M := M_X2_readRest) (pc := 101) rfl dX2_readRest_101 rfl (r := 35) rfl ?_
    refine aw_iconst (M := M_X2_readRest) (pc := 104) dX2_readRest_104 ⟨by decide, by decide⟩ ?_
    refine aw_aload_n (j := 0) (M := M_X2_readRest) (pc := 105) dX2_readRest_105 rfl rfl ?_
    refine aw_cvi (as := []) (st := [(0, 2), vr 35]) (M := M_X2_readRest) (pc := 106) (f_X2_takeThing  hF) dX2_readRest_106 rfl (Or.inl ⟨_, _, _, rfl, rfl⟩) cy_X2_takeThing ml_X2_96 (by decide) (by decide) (Nat.le_of_ble_eq_true rfl) (fun r16 h15 hF => ?_)
    refine aw_iconst (M := M_X2_readRest) (pc := 109) dX2_readRest_109 ⟨by decide, by decide⟩ ?_
    refine aw_iconst (M := M_X2_readRest) (pc := 110) dX2_readRest_110 ⟨by decide, by decide⟩ ?_
    refine aw_cvi (as := [(0, 2), (0, r16), (0, 0), (0, 0)]) (st := []) (M := M_X2_readRest) (pc := 111) (f_X1_addEntry rfl hF) dX2_readRest_111 rfl (Or.inl ⟨_, _, _, rfl, rfl⟩) cy_X1_addEntry ml_X2_75 (by decide) (by decide) (Nat.le_of_ble_eq_true rfl) (fun r18 h17 hF => ?_)
    exact aw_ireti (M := M_X2_readRest) (pc := 114) dX2_readRest_114 rfl ⟨_, rfl, hF⟩
  have hF := hF.2
  have hc2 := hc
  by_cases hc : a1 = 17
  · have hF := hF.1 hc
    refine aw_tableIn (tgt := 115) (M := M_X2_readRest) (pc := 1) dX2_readRest_1 (by rw [hc]; decide) (by rw [hc]; decide) (off := 114) (by rw [hc]; rfl) rfl ?_
    refine aw_aload_n (j := 0) (M := M_X2_readRest) (pc := 115) dX2_readRest_115 rfl rfl ?_
    refine gf_X2_12 (M := M_X2_readRest) (pc := 116) rfl dX2_readRest_116 rfl (r := 35) rfl ?_
    refine aw_iconst (M := M_X2_readRest) (pc := 119) dX2_readRest_119 ⟨by decide, by decide⟩ ?_
    refine aw_iconst (M := M_X2_readRest) (pc := 120) dX2_readRest_120 ⟨by decide, by decide⟩ ?_
    refine aw_iconst (M := M_X2_readRest) (pc := 121) dX2_readRest_121 ⟨by decide, by decide⟩ ?_
    refine aw_iconst (M := M_X2_readRest) (pc := 122) dX2_readRest_122 ⟨by decide, by decide⟩ ?_
    refine aw_cvi (as := [(0, 3), (0, 0), (0, 0), (0, 0)]) (st := []) (M := M_X2_readRest) (pc := 123) (f_X1_addEntry rfl hF) dX2_readRest_123 rfl (Or.inl ⟨_, _, _, rfl, rfl⟩) cy_X1_addEntry ml_X2_75 (by decide) (by decide) (Nat.le_of_ble_eq_true rfl) (fun r20 h19 hF => ?_)
    exact aw_ireti (M := M_X2_readRest) (pc := 126) dX2_readRest_126 rfl ⟨_, rfl, hF⟩
  have hF := hF.2
  have hc3 := hc
  by_cases hc : a1 = 18
  · have hF := hF.1 hc
    refine aw_tableIn (tgt := 127) (M := M_X2_readRest) (pc := 1) dX2_readRest_1 (by rw [hc]; decide) (by rw [hc]; decide) (off := 126) (by rw [hc]; rfl) rfl ?_
    refine aw_aload_n (j := 0) (M := M_X2_readRest) (pc := 127) dX2_readRest_127 rfl rfl ?_
    refine aw_cvi (as := []) (st := []) (M := M_X2_readRest) (pc := 128) (f_X2_readTest  hF) dX2_readRest_128 rfl (Or.inl ⟨_, _, _, rfl, rfl⟩) cy_X2_readTest ml_X2_104 (by decide) (by decide) (Nat.le_of_ble_eq_true rfl) (fun r22 h21 hF => ?_)
    exact aw_ireti (M := M_X2_readRest) (pc := 131) dX2_readRest_131 rfl ⟨_, rfl, hF⟩
  have hF := hF.2
  have hc4 := hc
  by_cases hc : a1 = 19
  · have hF := hF.1 hc
    refine aw_tableIn (tgt := 154) (M := M_X2_readRest) (pc := 1) dX2_readRest_1 (by rw [hc]; decide) (by rw [hc]; decide) (off := 153) (by rw [hc]; rfl) rfl ?_
    refine aw_aload_n (j := 0) (M := M_X2_readRest) (pc := 154) dX2_readRest_154 rfl rfl ?_
    refine gf_X2_12 (M := M_X2_readRest) (pc := 155) rfl dX2_readRest_155 rfl (r := 35) rfl ?_
    refine aw_bipush (M := M_X2_readRest) (pc := 158) dX2_readRest_158 ⟨rfl, ⟨by decide, by decide⟩⟩ ?_
    refine aw_iconst (M := M_X2_readRest) (pc := 160) dX2_readRest_160 ⟨by decide, by decide⟩ ?_
    refine aw_iconst (M := M_X2_readRest) (pc := 161) dX2_readRest_161 ⟨by decide, by decide⟩ ?_
    refine aw_iconst (M := M_X2_readRest) (pc := 162) dX2_readRest_162 ⟨by decide, by decide⟩ ?_
    refine aw_cvi (as := [(0, 9), (0, 0), (0, 0), (0, 0)]) (st := []) (M := M_X2_readRest) (pc := 163) (f_X1_addEntry rfl hF) dX2_readRest_163 rfl (Or.inl ⟨_, _, _, rfl, rfl⟩) cy_X1_addEntry ml_X2_75 (by decide) (by decide) (Nat.le_of_ble_eq_true rfl) (fun r24 h23 hF => ?_)
    exact aw_ireti (M := M_X2_readRest) (pc := 166) dX2_readRest_166 rfl ⟨_, rfl, hF⟩
  have hF := hF.2
  have hc5 := hc
  by_cases hc : a1 = 20
  · have hF := hF.1 hc
    refine aw_tableIn (tgt := 154) (M := M_X2_readRest) (pc := 1) dX2_readRest_1 (by rw [hc]; decide) (by rw [hc]; decide) (off := 153) (by rw [hc]; rfl) rfl ?_
    refine aw_aload_n (j := 0) (M := M_X2_readRest) (pc := 154) dX2_readRest_154 rfl rfl ?_
    refine gf_X2_12 (M := M_X2_readRest) (pc := 155) rfl dX2_readRest_155 rfl (r := 35) rfl ?_
    refine aw_bipush (M := M_X2_readRest) (pc := 158) dX2_readRest_158 ⟨rfl, ⟨by decide, by decide⟩⟩ ?_
    refine aw_iconst (M := M_X2_readRest) (pc := 160) dX2_readRest_160 ⟨by decide, by decide⟩ ?_
    refine aw_iconst (M := M_X2_readRest) (pc := 161) dX2_readRest_161 ⟨by decide, by decide⟩ ?_
    refine aw_iconst (M := M_X2_readRest) (pc := 162) dX2_readRest_162 ⟨by decide, by decide⟩ ?_
    refine aw_cvi (as := [(0, 9), (0, 0), (0, 0), (0, 0)]) (st := []) (M := M_X2_readRest) (pc := 163) (f_X1_addEntry rfl hF) dX2_readRest_163 rfl (Or.inl ⟨_, _, _, rfl, rfl⟩) cy_X1_addEntry ml_X2_75 (by decide) (by decide) (Nat.le_of_ble_eq_true rfl) (fun r26 h25 hF => ?_)
    exact aw_ireti (M := M_X2_readRest) (pc := 166) dX2_readRest_166 rfl ⟨_, rfl, hF⟩
  have hF := hF.2
  have hc6 := hc
  by_cases hc : a1 = 21
  · have hF := hF.1 hc
    refine aw_tableIn (tgt := 132) (M := M_X2_readRest) (pc := 1) dX2_readRest_1 (by rw [hc]; decide) (by rw [hc]; decide) (off := 131) (by rw [hc]; rfl) rfl ?_
    refine aw_aload_n (j := 0) (M := M_X2_readRest) (pc := 132) dX2_readRest_132 rfl rfl ?_
    refine gf_X2_12 (M := M_X2_readRest) (pc := 133) rfl dX2_readRest_133 rfl (r := 35) rfl ?_
    refine aw_bipush (M := M_X2_readRest) (pc := 136) dX2_readRest_136 ⟨rfl, ⟨by decide, by decide⟩⟩ ?_
    refine aw_aload_n (j := 0) (M := M_X2_readRest) (pc := 138) dX2_readRest_138 rfl rfl ?_
    obtain ⟨o27, hF⟩ := hF
    refine gf_X2_22 (M := M_X2_readRest) (pc := 139) rfl dX2_readRest_139 rfl ?_
    refine aw_ref (a := 9) o27 ?_
    refine aw_iconst (M := M_X2_readRest) (pc := 142) dX2_readRest_142 ⟨by decide, by decide⟩ ?_
    refine aw_bipush (M := M_X2_readRest) (pc := 143) dX2_readRest_143 ⟨rfl, ⟨by decide, by decide⟩⟩ ?_
    refine aw_cvi (as := [(0, 1), (0, 99)]) (st := [(0, 8), vr 35]) (M := M_X2_readRest) (pc := 145) (f_X8_takeNumberOf  hF) dX2_readRest_145 rfl (Or.inl ⟨_, _, _, rfl, rfl⟩) cy_X8_takeNumberOf ml_X2_92 (by decide) (by decide) (Nat.le_of_ble_eq_true rfl) (fun r29 h28 hF => ?_)
    refine aw_iconst (M := M_X2_readRest) (pc := 148) dX2_readRest_148 ⟨by decide, by decide⟩ ?_
    refine aw_iconst (M := M_X2_readRest) (pc := 149) dX2_readRest_149 ⟨by decide, by decide⟩ ?_
    refine aw_cvi (as := [(0, 8), (0, r29), (0, 0), (0, 0)]) (st := []) (M := M_X2_readRest) (pc := 150) (f_X1_addEntry rfl hF) dX2_readRest_150 rfl (Or.inl ⟨_, _, _, rfl, rfl⟩) cy_X1_addEntry ml_X2_75 (by decide) (by decide) (Nat.le_of_ble_eq_true rfl) (fun r31 h30 hF => ?_)
    exact aw_ireti (M := M_X2_readRest) (pc := 153) dX2_readRest_153 rfl ⟨_, rfl, hF⟩
  have hF := hF.2
  have hc7 := hc
  have hc : a1 < 14 ∨ 21 < a1 := so_X2_readRest_1 hc0 hc1 hc2 hc3 hc4 hc5 hc6 hc7
  have hF := hF hc
  refine aw_tableOut (tgt := 154) (M := M_X2_readRest) (pc := 1) dX2_readRest_1 hc rfl ?_
  refine aw_aload_n (j := 0) (M := M_X2_readRest) (pc := 154) dX2_readRest_154 rfl rfl ?_
  refine gf_X2_12 (M := M_X2_readRest) (pc := 155) rfl dX2_readRest_155 rfl (r := 35) rfl ?_
  refine aw_bipush (M := M_X2_readRest) (pc := 158) dX2_readRest_158 ⟨rfl, ⟨by decide, by decide⟩⟩ ?_
  refine aw_iconst (M := M_X2_readRest) (pc := 160) dX2_readRest_160 ⟨by decide, by decide⟩ ?_
  refine aw_iconst (M := M_X2_readRest) (pc := 161) dX2_readRest_161 ⟨by decide, by decide⟩ ?_
  refine aw_iconst (M := M_X2_readRest) (pc := 162) dX2_readRest_162 ⟨by decide, by decide⟩ ?_
  refine aw_cvi (as := [(0, 9), (0, 0), (0, 0), (0, 0)]) (st := []) (M := M_X2_readRest) (pc := 163) (f_X1_addEntry rfl hF) dX2_readRest_163 rfl (Or.inl ⟨_, _, _, rfl, rfl⟩) cy_X1_addEntry ml_X2_75 (by decide) (by decide) (Nat.le_of_ble_eq_true rfl) (fun r33 h32 hF => ?_)
  exact aw_ireti (M := M_X2_readRest) (pc := 166) dX2_readRest_166 rfl ⟨_, rfl, hF⟩
abbrev M_X8_isGoingOn : Hd := (cX8_isGoingOn, 1, RX8, (some .boolean), (1, 45), sc0)
def F_X8_isGoingOn (h : Mem)  (Q : Int → Mem → Prop) : Prop :=
  ((¬ ((h 9 9) = 0) → Q 0 h) ∧ ((h 9 9) = 0 → (((h 9 5) = 0 → Q 0 h) ∧ (¬ ((h 9 5) = 0) → Q 1 h))))
set_option maxRecDepth 100000 in
set_option maxHeartbeats 4000000 in
theorem f_X8_isGoingOn {h : Mem}  {Q : Int → Mem → Prop}  (hF : F_X8_isGoingOn h  Q) : Ct yX8_isGoingOn cX8_isGoingOn 1 (some .boolean) (1, 45) [vr 9] h (qi Q) := by
  refine Ct.of np_RX8 (Nat.le_of_ble_eq_true rfl) ?_
  unfold F_X8_isGoingOn at hF
  show AW M_X8_isGoingOn 0 [(0, vr 9)] [] h (qi Q)
  refine aw_aload_n (j := 0) (M := M_X8_isGoingOn) (pc := 0) dX8_isGoingOn_0 rfl rfl ?_
  refine gf_X8_42 (M := M_X8_isGoingOn) (pc := 1) rfl dX8_isGoingOn_1 rfl ?_
  refine aw_if_ne (tgt := 18) (M := M_X8_isGoingOn) (pc := 4) dX8_isGoingOn_4 rfl (fun hc => ?_) (fun hc => ?_)
  · have hF := hF.1 hc
    refine aw_iconst (M := M_X8_isGoingOn) (pc := 18) dX8_isGoingOn_18 ⟨by decide, by decide⟩ ?_
    exact aw_iretz (M := M_X8_isGoingOn) (pc := 19) dX8_isGoingOn_19 rfl (Or.inl rfl) ⟨_, rfl, hF⟩
  · have hF := hF.2 hc
    refine aw_aload_n (j := 0) (M := M_X8_isGoingOn) (pc := 7) dX8_isGoingOn_7 rfl rfl ?_
    refine gf_X8_29 (M := M_X8_isGoingOn) (pc := 8) rfl dX8_isGoingOn_8 rfl ?_
    refine aw_if_eq (tgt := 18) (M := M_X8_isGoingOn) (pc := 11) dX8_isGoingOn_11 rfl (fun hc => ?_) (fun hc => ?_)
    · have hF := hF.1 hc
      refine aw_iconst (M := M_X8_isGoingOn) (pc := 18) dX8_isGoingOn_18 ⟨by decide, by decide⟩ ?_
      exact aw_iretz (M := M_X8_isGoingOn) (pc := 19) dX8_isGoingOn_19 rfl (Or.inl rfl) ⟨_, rfl, hF⟩
    · have hF := hF.2 hc
      refine aw_iconst (M := M_X8_isGoingOn) (pc := 14) dX8_isGoingOn_14 ⟨by decide, by decide⟩ ?_
      refine aw_goto (tgt := 19) (M := M_X8_isGoingOn) (pc := 15) dX8_isGoingOn_15 rfl ?_
      exact aw_iretz (M := M_X8_isGoingOn) (pc := 19) dX8_isGoingOn_19 rfl (Or.inr rfl) ⟨_, rfl, hF⟩
abbrev M_X8_takeSemicolon : Hd := (cX8_takeSemicolon, 1, RX8, none, (4, 111), sc0)
def F_X8_takeSemicolon (h : Mem)  (Q : Mem → Prop) : Prop :=
  ((¬ ((h 9 5) = 3) → (F_X8_fail h 2 (fun h1 => Q h1))) ∧ ((h 9 5) = 3 → ((¬ ((h 9 7) = 59) → (F_X8_fail h 2 (fun h3 => Q h3))) ∧ ((h 9 7) = 59 → ((¬ ((h 9 9) = 0) → (F_X8_fail h 2 (fun h5 => Q h5))) ∧ ((h 9 9) = 0 → (F_X8_advance h  (fun h7 => Q h7))))))))
set_option maxRecDepth 100000 in
set_option maxHeartbeats 4000000 in
theorem f_X8_takeSemicolon {h : Mem}  {Q : Mem → Prop}  (hF : F_X8_takeSemicolon h  Q) : Ct yX8_takeSemicolon cX8_takeSemicolon 1 none (4, 111) [vr 9] h (qv Q) := by
  refine Ct.of np_RX8 (Nat.le_of_ble_eq_true rfl) ?_
  unfold F_X8_takeSemicolon at hF
  show AW M_X8_takeSemicolon 0 [(0, vr 9)] [] h (qv Q)
  refine aw_aload_n (j := 0) (M := M_X8_takeSemicolon) (pc := 0) dX8_takeSemicolon_0 rfl rfl ?_
  refine gf_X8_29 (M := M_X8_takeSemicolon) (pc := 1) rfl dX8_takeSemicolon_1 rfl ?_
  refine aw_iconst (M := M_X8_takeSemicolon) (pc := 4) dX8_takeSemicolon_4 ⟨by decide, by decide⟩ ?_
  refine aw_icmp_ne (tgt := 31) (M := M_X8_takeSemicolon) (pc := 5) dX8_takeSemicolon_5 rfl (fun hc => ?_) (fun hc => ?_)
  · have hF := hF.1 hc
    refine aw_aload_n (j := 0) (M := M_X8_takeSemicolon) (pc := 31) dX8_takeSemicolon_31 rfl rfl ?_
    refine aw_iconst (M := M_X8_takeSemicolon) (pc := 32) dX8_takeSemicolon_32 ⟨by decide, by decide⟩ ?_
    refine aw_cvv (as := [(0, 2)]) (st := []) (M := M_X8_takeSemicolon) (pc := 33) (f_X8_fail  hF) dX8_takeSemicolon_33 rfl (Or.inl ⟨_, _, _, rfl, rfl⟩) cy_X8_fail ml_X8_91 (by decide) (by decide) (Nat.le_of_ble_eq_true rfl) (fun h1 hF => ?_)
    exact aw_ret (M := M_X8_takeSemicolon) (pc := 36) dX8_takeSemicolon_36 rfl ⟨rfl, hF⟩
  · have hF := hF.2 hc
    refine aw_aload_n (j := 0) (M := M_X8_takeSemicolon) (pc := 8) dX8_takeSemicolon_8 rfl rfl ?_
    refine gf_X8_35 (M := M_X8_takeSemicolon) (pc := 9) rfl dX8_takeSemicolon_9 rfl ?_
    refine aw_bipush (M := M_X8_takeSemicolon) (pc := 12) dX8_takeSemicolon_12 ⟨rfl, ⟨by decide, by decide⟩⟩ ?_
    refine aw_icmp_ne (tgt := 31) (M := M_X8_takeSemicolon) (pc := 14) dX8_takeSemicolon_14 rfl (fun hc => ?_) (fun hc => ?_)
    · have hF := hF.1 hc
      refine aw_aload_n (j := 0) (M := M_X8_takeSemicolon) (pc := 31) dX8_takeSemicolon_31 rfl rfl ?_
      refine aw_iconst (M := M_X8_takeSemicolon) (pc := 32) dX8_takeSemicolon_32 ⟨by decide, by decide⟩ ?_
      refine aw_cvv (as := [(0, 2)]) (st := []) (M := M_X8_takeSemicolon) (pc := 33) (f_X8_fail  hF) dX8_takeSemicolon_33 rfl (Or.inl ⟨_, _, _, rfl, rfl⟩) cy_X8_fail ml_X8_91 (by decide) (by decide) (Nat.le_of_ble_eq_true rfl) (fun h3 hF => ?_)
      exact aw_ret (M := M_X8_takeSemicolon) (pc := 36) dX8_takeSemicolon_36 rfl ⟨rfl, hF⟩
    · have hF := hF.2 hc
      refine aw_aload_n (j := 0) (M := M_X8_takeSemicolon) (pc := 17) dX8_takeSemicolon_17 rfl rfl ?_
      refine gf_X8_42 (M := M_X8_takeSemicolon) (pc := 18) rfl dX8_takeSemicolon_18 rfl ?_
      refine aw_if_ne (tgt := 31) (M := M_X8_takeSemicolon) (pc := 21) dX8_takeSemicolon_21 rfl (fun hc => ?_) (fun hc => ?_)
      · have hF := hF.1 hc
        refine aw_aload_n (j := 0) (M := M_X8_takeSemicolon) (pc := 31) dX8_takeSemicolon_31 rfl rfl ?_
        refine aw_iconst (M := M_X8_takeSemicolon) (pc := 32) dX8_takeSemicolon_32 ⟨by decide, by decide⟩ ?_
        refine aw_cvv (as := [(0, 2)]) (st := []) (M := M_X8_takeSemicolon) (pc := 33) (f_X8_fail  hF) dX8_takeSemicolon_33 rfl (Or.inl ⟨_, _, _, rfl, rfl⟩) cy_X8_fail ml_X8_91 (by decide) (by decide) (Nat.le_of_ble_eq_true rfl) (fun h5 hF => ?_)
        exact aw_ret (M := M_X8_takeSemicolon) (pc := 36) dX8_takeSemicolon_36 rfl ⟨rfl, hF⟩
      · have hF := hF.2 hc
        refine aw_aload_n (j := 0) (M := M_X8_takeSemicolon) (pc := 24) dX8_takeSemicolon_24 rfl rfl ?_
        refine aw_cvv (as := []) (st := []) (M := M_X8_takeSemicolon) (pc := 25) (f_X8_advance  hF) dX8_takeSemicolon_25 rfl (Or.inl ⟨_, _, _, rfl, rfl⟩) cy_X8_advance ml_X8_72 (by decide) (by decide) (Nat.le_of_ble_eq_true rfl) (fun h7 hF => ?_)
        refine aw_goto (tgt := 36) (M := M_X8_takeSemicolon) (pc := 28) dX8_takeSemicolon_28 rfl ?_
        exact aw_ret (M := M_X8_takeSemicolon) (pc := 36) dX8_takeSemicolon_36 rfl ⟨rfl, hF⟩
abbrev M_X2_readFor : Hd := (cX2_readFor, 5, RX2, none, (7, 178), sc0)
def L_X2_readFor_32 (h : Mem) (v3 : Int) (Q : Mem → Prop) : Prop := AW M_X2_readFor 32 [(0, vr 34), (3, (0, v3))] [] h (qv Q)
def J_X2_readFor_86 (h : Mem) (v3 : Int) (v4 : Int) (Q : Mem → Prop) : Prop :=
  (F_X2_lookAtStep h v4 (fun h28 => (h28 34 1 = (9 : Int) ∧ (F_X8_advance h28  (fun h31 => (F_X2_readRest h31 v4 (fun r34 h33 => (F_X2_addStep h33 v4 r34 (fun h35 => (h35 34 1 = (9 : Int) ∧ (F_X8_takeSemicolon h35  (fun h38 => (InR (v3 + 1) ∧ L_X2_readFor_32 h38 (v3 + 1) Q)))))))))))))
set_option maxRecDepth 100000 in
set_option maxHeartbeats 4000000 in
theorem j_X2_readFor_86 {h : Mem} {v3 : Int} {v4 : Int} {Q : Mem → Prop}  (hF : J_X2_readFor_86 h v3 v4 Q) : AW M_X2_readFor 86 [(0, vr 34), (3, (0, v3)), (4, (0, v4))] [] h (qv Q) := by
  unfold J_X2_readFor_86 at hF
  refine aw_aload_n (j := 0) (M := M_X2_readFor) (pc := 86) dX2_readFor_86 rfl rfl ?_
  refine aw_iload (j := 2) (M := M_X2_readFor) (pc := 87) dX2_readFor_87  rfl ?_
  refine aw_cvv (as := [(0, v4)]) (st := []) (M := M_X2_readFor) (pc := 89) (f_X2_lookAtStep  hF) dX2_readFor_89 rfl (Or.inl ⟨_, _, _, rfl, rfl⟩) cy_X2_lookAtStep ml_X2_57 (by decide) (by decide) (Nat.le_of_ble_eq_true rfl) (fun h28 hF => ?_)
  refine aw_aload_n (j := 0) (M := M_X2_readFor) (pc := 92) dX2_readFor_92 rfl rfl ?_
  obtain ⟨o30, hF⟩ := hF
  refine gf_X2_22 (M := M_X2_readFor) (pc := 93) rfl dX2_readFor_93 rfl ?_
  refine aw_ref (a := 9) o30 ?_
  refine aw_cvv (as := []) (st := []) (M := M_X2_readFor) (pc := 96) (f_X8_advance  hF) dX2_readFor_96 rfl (Or.inl ⟨_, _, _, rfl, rfl⟩) cy_X8_advance ml_X2_51 (by decide) (by decide) (Nat.le_of_ble_eq_true rfl) (fun h31 hF => ?_)
  refine aw_aload_n (j := 0) (M := M_X2_readFor) (pc := 99) dX2_readFor_99 rfl rfl ?_
  refine aw_iload (j := 2) (M := M_X2_readFor) (pc := 100) dX2_readFor_100  rfl ?_
  refine aw_aload_n (j := 0) (M := M_X2_readFor) (pc := 102) dX2_readFor_102 rfl rfl ?_
  refine aw_iload (j := 2) (M := M_X2_readFor) (pc := 103) dX2_readFor_103  rfl ?_
  refine aw_cvi (as := [(0, v4)]) (st := [(0, v4), vr 34]) (M := M_X2_readFor) (pc := 105) (f_X2_readRest  hF) dX2_readFor_105 rfl (Or.inl ⟨_, _, _, rfl, rfl⟩) cy_X2_readRest ml_X2_61 (by decide) (by decide) (Nat.le_of_ble_eq_true rfl) (fun r34 h33 hF => ?_)
  refine aw_cvv (as := [(0, v4), (0, r34)]) (st := []) (M := M_X2_readFor) (pc := 108) (f_X2_addStep  hF) dX2_readFor_108 rfl (Or.inl ⟨_, _, _, rfl, rfl⟩) cy_X2_addStep ml_X2_65 (by decide) (by decide) (Nat.le_of_ble_eq_true rfl) (fun h35 hF => ?_)
  refine aw_aload_n (j := 0) (M := M_X2_readFor) (pc := 111) dX2_readFor_111 rfl rfl ?_
  obtain ⟨o37, hF⟩ := hF
  refine gf_X2_22 (M := M_X2_readFor) (pc := 112) rfl dX2_readFor_112 rfl ?_
  refine aw_ref (a := 9) o37 ?_
  refine aw_cvv (as := []) (st := []) (M := M_X2_readFor) (pc := 115) (f_X8_takeSemicolon  hF) dX2_readFor_115 rfl (Or.inl ⟨_, _, _, rfl, rfl⟩) cy_X8_takeSemicolon ml_X2_69 (by decide) (by decide) (Nat.le_of_ble_eq_true rfl) (fun h38 hF => ?_)
  obtain ⟨o40, hF⟩ := hF
  refine aw_iinc (j := 1) (x := v3) (r := v3 + 1) (ls' := [(3, (0, v3 + 1)), (0, vr 34), (4, (0, v4))]) (M := M_X2_readFor) (pc := 118) dX2_readFor_118 rfl rfl o40 (by decide) rfl ?_
  refine aw_goto (tgt := 32) (M := M_X2_readFor) (pc := 121) dX2_readFor_121 rfl ?_
  exact aw_ls [1, 0] rfl hF
def B_X2_readFor_32 (h : Mem) (v3 : Int) (Q : Mem → Prop) : Prop :=
  ((300 ≤ v3 → (((h 34 4) ≤ 0 → Q h) ∧ (¬ ((h 34 4) ≤ 0) → (h 34 1 = (9 : Int) ∧ (F_X8_fail h 2 (fun h8 => Q h8)))))) ∧ (¬ (300 ≤ v3) → (h 34 1 = (9 : Int) ∧ (F_X8_isGoingOn h  (fun r12 h11 => ((r12 = 0 → (((h11 34 4) ≤ 0 → Q h11) ∧ (¬ ((h11 34 4) ≤ 0) → (h11 34 1 = (9 : Int) ∧ (F_X8_fail h11 2 (fun h14 => Q h14)))))) ∧ (¬ (r12 = 0) → (h11 34 1 = (9 : Int) ∧ (F_X8_keyword h11  (fun r18 h17 => ((¬ (r18 = 22) → J_X2_readFor_86 h17 v3 r18 Q) ∧ (r18 = 22 → (((h17 34 4) ≤ 0 → J_X2_readFor_86 h17 v3 r18 Q) ∧ (¬ ((h17 34 4) ≤ 0) → (h17 34 1 = (9 : Int) ∧ (F_X8_advance h17  (fun h20 => (F_X2_closeLatest h20  (fun h22 => (h22 34 1 = (9 : Int) ∧ (F_X8_takeSemicolon h22  (fun h25 => (InR (v3 + 1) ∧ L_X2_readFor_32 h25 (v3 + 1) Q)))))))))))))))))))))))
set_option maxRecDepth 100000 in
set_option maxHeartbeats 4000000 in
theorem l_X2_readFor_32 {h : Mem} {v3 : Int} {Q : Mem → Prop}  (hF : B_X2_readFor_32 h v3 Q) : L_X2_readFor_32 h v3 Q := by
  unfold B_X2_readFor_32 at hF
  show AW M_X2_readFor 32 [(0, vr 34), (3, (0, v3))] [] h (qv Q)
  refine aw_iload_n (j := 1) (M := M_X2_readFor) (pc := 32) dX2_readFor_32 rfl rfl ?_
  refine aw_sipush (M := M_X2_readFor) (pc := 33) dX2_readFor_33 ⟨rfl, ⟨by decide, by decide⟩⟩ ?_
  refine aw_icmp_ge (tgt := 124) (M := M_X2_readFor) (pc := 36) dX2_readFor_36 rfl (fun hc => ?_) (fun hc => ?_)
  · have hF := hF.1 hc
    refine aw_aload_n (j := 0) (M := M_X2_readFor) (pc := 124) dX2_readFor_124 rfl rfl ?_
    refine gf_X2_30 (M := M_X2_readFor) (pc := 125) rfl dX2_readFor_125 rfl ?_
    refine aw_if_le (tgt := 139) (M := M_X2_readFor) (pc := 128) dX2_readFor_128 rfl (fun hc => ?_) (fun hc => ?_)
    · have hF := hF.1 hc
      exact aw_ret (M := M_X2_readFor) (pc := 139) dX2_readFor_139 rfl ⟨rfl, hF⟩
    · have hF := hF.2 hc
      refine aw_aload_n (j := 0) (M := M_X2_readFor) (pc := 131) dX2_readFor_131 rfl rfl ?_
      obtain ⟨o7, hF⟩ := hF
      refine gf_X2_22 (M := M_X2_readFor) (pc := 132) rfl dX2_readFor_132 rfl ?_
      refine aw_ref (a := 9) o7 ?_
      refine aw_iconst (M := M_X2_readFor) (pc := 135) dX2_readFor_135 ⟨by decide, by decide⟩ ?_
      refine aw_cvv (as := [(0, 2)]) (st := []) (M := M_X2_readFor) (pc := 136) (f_X8_fail  hF) dX2_readFor_136 rfl (Or.inl ⟨_, _, _, rfl, rfl⟩) cy_X8_fail ml_X2_72 (by decide) (by decide) (Nat.le_of_ble_eq_true rfl) (fun h8 hF => ?_)
      exact aw_ret (M := M_X2_readFor) (pc := 139) dX2_readFor_139 rfl ⟨rfl, hF⟩
  · have hF := hF.2 hc
    refine aw_aload_n (j := 0) (M := M_X2_readFor) (pc := 39) dX2_readFor_39 rfl rfl ?_
    obtain ⟨o10, hF⟩ := hF
    refine gf_X2_22 (M := M_X2_readFor) (pc := 40) rfl dX2_readFor_40 rfl ?_
    refine aw_ref (a := 9) o10 ?_
    refine aw_cvi (as := []) (st := []) (M := M_X2_readFor) (pc := 43) (f_X8_isGoingOn  hF) dX2_readFor_43 rfl (Or.inl ⟨_, _, _, rfl, rfl⟩) cy_X8_isGoingOn ml_X2_41 (by decide) (by decide) (Nat.le_of_ble_eq_true rfl) (fun r12 h11 hF => ?_)
    refine aw_if_eq (tgt := 124) (M := M_X2_readFor) (pc := 46) dX2_readFor_46 rfl (fun hc => ?_) (fun hc => ?_)
    · have hF := hF.1 hc
      refine aw_aload_n (j := 0) (M := M_X2_readFor) (pc := 124) dX2_readFor_124 rfl rfl ?_
      refine gf_X2_30 (M := M_X2_readFor) (pc := 125) rfl dX2_readFor_125 rfl ?_
      refine aw_if_le (tgt := 139) (M := M_X2_readFor) (pc := 128) dX2_readFor_128 rfl (fun hc => ?_) (fun hc => ?_)
      · have hF := hF.1 hc
        exact aw_ret (M := M_X2_readFor) (pc := 139) dX2_readFor_139 rfl ⟨rfl, hF⟩
      · have hF := hF.2 hc
        refine aw_aload_n (j := 0) (M := M_X2_readFor) (pc := 131) dX2_readFor_131 rfl rfl ?_
        obtain ⟨o13, hF⟩ := hF
        refine gf_X2_22 (M := M_X2_readFor) (pc := 132) rfl dX2_readFor_132 rfl ?_
        refine aw_ref (a := 9) o13 ?_
        refine aw_iconst (M := M_X2_readFor) (pc := 135) dX2_readFor_135 ⟨by decide, by decide⟩ ?_
        refine aw_cvv (as := [(0, 2)]) (st := []) (M := M_X2_readFor) (pc := 136) (f_X8_fail  hF) dX2_readFor_136 rfl (Or.inl ⟨_, _, _, rfl, rfl⟩) cy_X8_fail ml_X2_72 (by decide) (by decide) (Nat.le_of_ble_eq_true rfl) (fun h14 hF => ?_)
        exact aw_ret (M := M_X2_readFor) (pc := 139) dX2_readFor_139 rfl ⟨rfl, hF⟩
    · have hF := hF.2 hc
      refine aw_aload_n (j := 0) (M := M_X2_readFor) (pc := 49) dX2_readFor_49 rfl rfl ?_
      obtain ⟨o16, hF⟩ := hF
      refine gf_X2_22 (M := M_X2_readFor) (pc := 50) rfl dX2_readFor_50 rfl ?_
      refine aw_ref (a := 9) o16 ?_
      refine aw_cvi (as := []) (st := []) (M := M_X2_readFor) (pc := 53) (f_X8_keyword  hF) dX2_readFor_53 rfl (Or.inl ⟨_, _, _, rfl, rfl⟩) cy_X8_keyword ml_X2_47 (by decide) (by decide) (Nat.le_of_ble_eq_true rfl) (fun r18 h17 hF => ?_)
      refine aw_istore (ls' := [(4, (0, r18)), (0, vr 34), (3, (0, v3))]) (M := M_X2_readFor) (pc := 56) dX2_readFor_56  (by decide) rfl ?_
      refine aw_iload (j := 0) (M := M_X2_readFor) (pc := 58) dX2_readFor_58  rfl ?_
      refine aw_bipush (M := M_X2_readFor) (pc := 60) dX2_readFor_60 ⟨rfl, ⟨by decide, by decide⟩⟩ ?_
      refine aw_icmp_ne (tgt := 86) (M := M_X2_readFor) (pc := 62) dX2_readFor_62 rfl (fun hc => ?_) (fun hc => ?_)
      · have hF := hF.1 hc
        exact aw_ls [1, 2, 0] rfl (j_X2_readFor_86  hF)
      · have hF := hF.2 hc
        refine aw_aload_n (j := 1) (M := M_X2_readFor) (pc := 65) dX2_readFor_65 rfl rfl ?_
        refine gf_X2_30 (M := M_X2_readFor) (pc := 66) rfl dX2_readFor_66 rfl ?_
        refine aw_if_le (tgt := 86) (M := M_X2_readFor) (pc := 69) dX2_readFor_69 rfl (fun hc => ?_) (fun hc => ?_)
        · have hF := hF.1 hc
          exact aw_ls [1, 2, 0] rfl (j_X2_readFor_86  hF)
        · have hF := hF.2 hc
          refine aw_aload_n (j := 1) (M := M_X2_readFor) (pc := 72) dX2_readFor_72 rfl rfl ?_
          obtain ⟨o19, hF⟩ := hF
          refine gf_X2_22 (M := M_X2_readFor) (pc := 73) rfl dX2_readFor_73 rfl ?_
          refine aw_ref (a := 9) o19 ?_
          refine aw_cvv (as := []) (st := []) (M := M_X2_readFor) (pc := 76) (f_X8_advance  hF) dX2_readFor_76 rfl (Or.inl ⟨_, _, _, rfl, rfl⟩) cy_X8_advance ml_X2_51 (by decide) (by decide) (Nat.le_of_ble_eq_true rfl) (fun h20 hF => ?_)
          refine aw_aload_n (j := 1) (M := M_X2_readFor) (pc := 79) dX2_readFor_79 rfl rfl ?_
          refine aw_cvv (as := []) (st := []) (M := M_X2_readFor) (pc := 80) (f_X2_closeLatest  hF) dX2_readFor_80 rfl (Or.inl ⟨_, _, _, rfl, rfl⟩) cy_X2_closeLatest ml_X2_54 (by decide) (by decide) (Nat.le_of_ble_eq_true rfl) (fun h22 hF => ?_)
          refine aw_goto (tgt := 111) (M := M_X2_readFor) (pc := 83) dX2_readFor_83 rfl ?_
          refine aw_aload_n (j := 1) (M := M_X2_readFor) (pc := 111) dX2_readFor_111 rfl rfl ?_
          obtain ⟨o24, hF⟩ := hF
          refine gf_X2_22 (M := M_X2_readFor) (pc := 112) rfl dX2_readFor_112 rfl ?_
          refine aw_ref (a := 9) o24 ?_
          refine aw_cvv (as := []) (st := []) (M := M_X2_readFor) (pc := 115) (f_X8_takeSemicolon  hF) dX2_readFor_115 rfl (Or.inl ⟨_, _, _, rfl, rfl⟩) cy_X8_takeSemicolon ml_X2_69 (by decide) (by decide) (Nat.le_of_ble_eq_true rfl) (fun h25 hF => ?_)
          obtain ⟨o27, hF⟩ := hF
          refine aw_iinc (j := 2) (x := v3) (r := v3 + 1) (ls' := [(3, (0, v3 + 1)), (4, (0, r18)), (0, vr 34)]) (M := M_X2_readFor) (pc := 118) dX2_readFor_118 rfl rfl o27 (by decide) rfl ?_
          refine aw_goto (tgt := 32) (M := M_X2_readFor) (pc := 121) dX2_readFor_121 rfl ?_
          exact aw_ls [2, 0] rfl hF
def F_X2_readFor (h : Mem) (a1 : Nat) (Q : Mem → Prop) : Prop :=
  (∀ h1 : Mem, h1 = mset h 34 1 ((9 : Nat) : Int) → (∀ h2 : Mem, h2 = mset h1 34 2 ((a1 : Nat) : Int) → (∀ h3 : Mem, h3 = mset h2 34 4 0 → (F_X1_clear h3 35 (fun h4 => (∀ h6 : Mem, h6 = mset h4 35 0 1 → L_X2_readFor_32 h6 0 Q))))))
set_option maxRecDepth 100000 in
set_option maxHeartbeats 4000000 in
theorem f_X2_readFor {h : Mem} {a1 : Nat} {Q : Mem → Prop} (ha1 : lay a1 = (0, 4)) (hF : F_X2_readFor h a1 Q) : Ct yX2_readFor cX2_readFor 5 none (7, 178) [vr 34, vr a1, vr 9] h (qv Q) := by
  refine Ct.of np_RX2 (Nat.le_of_ble_eq_true rfl) ?_
  unfold F_X2_readFor at hF
  show AW M_X2_readFor 0 [(0, vr 34), (1, vr a1), (2, vr 9)] [] h (qv Q)
  refine aw_aload_n (j := 0) (M := M_X2_readFor) (pc := 0) dX2_readFor_0 rfl rfl ?_
  refine aw_aload_n (j := 2) (M := M_X2_readFor) (pc := 1) dX2_readFor_1 rfl rfl ?_
  refine pf_X2_22 (M := M_X2_readFor) (pc := 2) rfl dX2_readFor_2 rfl (by decide) ?_
  obtain ⟨h1, eh1⟩ : ∃ y : Mem, y = mset h 34 1 ((9 : Nat) : Int) := ⟨_, rfl⟩
  have hF := hF h1 eh1
  rw [← eh1]
  refine aw_aload_n (j := 0) (M := M_X2_readFor) (pc := 5) dX2_readFor_5 rfl rfl ?_
  refine aw_aload_n (j := 1) (M := M_X2_readFor) (pc := 6) dX2_readFor_6 rfl rfl ?_
  refine pf_X2_26 (M := M_X2_readFor) (pc := 7) rfl dX2_readFor_7 rfl (lay181 ha1) ?_
  obtain ⟨h2, eh2⟩ : ∃ y : Mem, y = mset h1 34 2 ((a1 : Nat) : Int) := ⟨_, rfl⟩
  have hF := hF h2 eh2
  rw [← eh2]
  refine aw_aload_n (j := 0) (M := M_X2_readFor) (pc := 10) dX2_readFor_10 rfl rfl ?_
  refine aw_iconst (M := M_X2_readFor) (pc := 11) dX2_readFor_11 ⟨by decide, by decide⟩ ?_
  refine pf_X2_30 (M := M_X2_readFor) (pc := 12) rfl dX2_readFor_12 rfl ?_
  obtain ⟨h3, eh3⟩ : ∃ y : Mem, y = mset h2 34 4 0 := ⟨_, rfl⟩
  have hF := hF h3 eh3
  rw [← eh3]
  refine aw_aload_n (j := 0) (M := M_X2_readFor) (pc := 15) dX2_readFor_15 rfl rfl ?_
  refine gf_X2_12 (M := M_X2_readFor) (pc := 16) rfl dX2_readFor_16 rfl (r := 35) rfl ?_
  refine aw_cvv (as := []) (st := []) (M := M_X2_readFor) (pc := 19) (f_X1_clear rfl hF) dX2_readFor_19 rfl (Or.inl ⟨_, _, _, rfl, rfl⟩) cy_X1_clear ml_X2_34 (by decide) (by decide) (Nat.le_of_ble_eq_true rfl) (fun h4 hF => ?_)
  refine aw_aload_n (j := 0) (M := M_X2_readFor) (pc := 22) dX2_readFor_22 rfl rfl ?_
  refine gf_X2_12 (M := M_X2_readFor) (pc := 23) rfl dX2_readFor_23 rfl (r := 35) rfl ?_
  refine aw_iconst (M := M_X2_readFor) (pc := 26) dX2_readFor_26 ⟨by decide, by decide⟩ ?_
  refine pf_X2_37 (M := M_X2_readFor) (pc := 27) rfl dX2_readFor_27 rfl (Or.inr rfl) ?_
  obtain ⟨h6, eh6⟩ : ∃ y : Mem, y = mset h4 35 0 1 := ⟨_, rfl⟩
  have hF := hF h6 eh6
  rw [← eh6]
  refine aw_iconst (M := M_X2_readFor) (pc := 30) dX2_readFor_30 ⟨by decide, by decide⟩ ?_
  refine aw_istore_n (ls' := [(3, (0, 0)), (0, vr 34), (1, vr a1), (2, vr 9)]) (M := M_X2_readFor) (pc := 31) dX2_readFor_31 rfl (by decide) rfl ?_
  exact aw_ls [1, 0] rfl hF
abbrev M_X3_comesToMindTooLate : Hd := (cX3_comesToMindTooLate, 2, RX3, (some .boolean), (1, 45), sc0)
def F_X3_comesToMindTooLate (h : Mem) (a1 : Int) (Q : Int → Mem → Prop) : Prop :=
  (∃ r1 : Nat, h 47 3 = (r1 : Int) ∧ lay r1 = (0, 4) ∧ ((0 ≤ a1 ∧ a1 < 8) ∧ (((h ((r1 + 1) + 4) (a1).toNat) < 6 → Q 0 h) ∧ (¬ ((h ((r1 + 1) + 4) (a1).toNat) < 6) → Q 1 h))))
set_option maxRecDepth 100000 in
set_option maxHeartbeats 4000000 in
theorem f_X3_comesToMindTooLate {h : Mem} {a1 : Int} {Q : Int → Mem → Prop}  (hF : F_X3_comesToMindTooLate h a1 Q) : Ct yX3_comesToMindTooLate cX3_comesToMindTooLate 2 (some .boolean) (1, 45) [vr 47, (0, a1)] h (qi Q) := by
  refine Ct.of np_RX3 (Nat.le_of_ble_eq_true rfl) ?_
  unfold F_X3_comesToMindTooLate at hF
  show AW M_X3_comesToMindTooLate 0 [(0, vr 47), (1, (0, a1))] [] h (qi Q)
  refine aw_aload_n (j := 0) (M := M_X3_comesToMindTooLate) (pc := 0) dX3_comesToMindTooLate_0 rfl rfl ?_
  refine gf_X3_21 (M := M_X3_comesToMindTooLate) (pc := 1) rfl dX3_comesToMindTooLate_1 rfl ?_
  obtain ⟨r1, er1, lr1, hF⟩ := hF
  refine aw_ref (a := r1) er1 ?_
  refine gf_X3_47 (M := M_X3_comesToMindTooLate) (pc := 4) rfl dX3_comesToMindTooLate_4 lr1 (r := r1 + 1) rfl ?_
  refine gf_X3_108 (M := M_X3_comesToMindTooLate) (pc := 7) rfl dX3_comesToMindTooLate_7 (ll_4_7 lr1) (r := (r1 + 1) + 4) rfl ?_
  refine aw_iload_n (j := 1) (M := M_X3_comesToMindTooLate) (pc := 10) dX3_comesToMindTooLate_10 rfl rfl ?_
  obtain ⟨o3, hF⟩ := hF
  refine aw_iald (k := (a1).toNat) (M := M_X3_comesToMindTooLate) (pc := 11) dX3_comesToMindTooLate_11 (ll_9_4 (ll_4_7 lr1)) o3 rfl ?_
  refine aw_bipush (M := M_X3_comesToMindTooLate) (pc := 12) dX3_comesToMindTooLate_12 ⟨rfl, ⟨by decide, by decide⟩⟩ ?_
  refine aw_icmp_lt (tgt := 21) (M := M_X3_comesToMindTooLate) (pc := 14) dX3_comesToMindTooLate_14 rfl (fun hc => ?_) (fun hc => ?_)
  · have hF := hF.1 hc
    refine aw_iconst (M := M_X3_comesToMindTooLate) (pc := 21) dX3_comesToMindTooLate_21 ⟨by decide, by decide⟩ ?_
    exact aw_iretz (M := M_X3_comesToMindTooLate) (pc := 22) dX3_comesToMindTooLate_22 rfl (Or.inl rfl) ⟨_, rfl, hF⟩
  · have hF := hF.2 hc
    refine aw_iconst (M := M_X3_comesToMindTooLate) (pc := 17) dX3_comesToMindTooLate_17 ⟨by decide, by decide⟩ ?_
    refine aw_goto (tgt := 22) (M := M_X3_comesToMindTooLate) (pc := 18) dX3_comesToMindTooLate_18 rfl ?_
    exact aw_iretz (M := M_X3_comesToMindTooLate) (pc := 22) dX3_comesToMindTooLate_22 rfl (Or.inr rfl) ⟨_, rfl, hF⟩
abbrev M_X3_leadIn : Hd := (cX3_leadIn, 4, RX3, (some .int), (1, 45), sc0)
def F_X3_leadIn (h : Mem) (a1 : Nat) (Q : Int → Mem → Prop) : Prop :=
  ((0 ≤ (h 47 4) ∧ (h 47 4) < 4) ∧ (∃ r3 : Nat, h 47 3 = (r3 : Int) ∧ lay r3 = (0, 4) ∧ (InR ((h ((a1 + 10) + 4) (h 47 4).toNat) - (h ((r3 + 10) + 4) (h 47 4).toNat)) ∧ (∀ x6 : Int, x6 = (h ((a1 + 10) + 4) (h 47 4).toNat) - (h ((r3 + 10) + 4) (h 47 4).toNat) → ((0 ≤ (h 47 5) ∧ (h 47 5) < 4) ∧ (∃ r9 : Nat, h 47 3 = (r9 : Int) ∧ lay r9 = (0, 4) ∧ (InR ((h ((a1 + 10) + 4) (h 47 5).toNat) - (h ((r9 + 10) + 4) (h 47 5).toNat)) ∧ (∀ x12 : Int, x12 = (h ((a1 + 10) + 4) (h 47 5).toNat) - (h ((r9 + 10) + 4) (h 47 5).toNat) → (InR (x6 - x12) ∧ Q (x6 - x12) h)))))))))
set_option maxRecDepth 100000 in
set_option maxHeartbeats 4000000 in
theorem f_X3_leadIn {h : Mem} {a1 : Nat} {Q : Int → Mem → Prop} (ha1 : lay a1 = (0, 4)) (hF : F_X3_leadIn h a1 Q) : Ct yX3_leadIn cX3_leadIn 4 (some .int) (1, 45) [vr 47, vr a1] h (qi Q) := by
  refine Ct.of np_RX3 (Nat.le_of_ble_eq_true rfl) ?_
  unfold F_X3_leadIn at hF
  show AW M_X3_leadIn 0 [(0, vr 47), (1, vr a1)] [] h (qi Q)
  refine aw_aload_n (j := 1) (M := M_X3_leadIn) (pc := 0) dX3_leadIn_0 rfl rfl ?_
  refine gf_X3_89 (M := M_X3_leadIn) (pc := 1) rfl dX3_leadIn_1 ha1 (r := a1 + 10) rfl ?_
  refine gf_X3_93 (M := M_X3_leadIn) (pc := 4) rfl dX3_leadIn_4 (ll_4_8 ha1) (r := (a1 + 10) + 4) rfl ?_
  refine aw_aload_n (j := 0) (M := M_X3_leadIn) (pc := 7) dX3_leadIn_7 rfl rfl ?_
  refine gf_X3_24 (M := M_X3_leadIn) (pc := 8) rfl dX3_leadIn_8 rfl ?_
  obtain ⟨o2, hF⟩ := hF
  refine aw_iald (k := (h 47 4).toNat) (M := M_X3_leadIn) (pc := 11) dX3_leadIn_11 (ll_7_4 (ll_4_8 ha1)) o2 rfl ?_
  refine aw_aload_n (j := 0) (M := M_X3_leadIn) (pc := 12) dX3_leadIn_12 rfl rfl ?_
  refine gf_X3_21 (M := M_X3_leadIn) (pc := 13) rfl dX3_leadIn_13 rfl ?_
  obtain ⟨r3, er3, lr3, hF⟩ := hF
  refine aw_ref (a := r3) er3 ?_
  refine gf_X3_89 (M := M_X3_leadIn) (pc := 16) rfl dX3_leadIn_16 lr3 (r := r3 + 10) rfl ?_
  refine gf_X3_93 (M := M_X3_leadIn) (pc := 19) rfl dX3_leadIn_19 (ll_4_8 lr3) (r := (r3 + 10) + 4) rfl ?_
  refine aw_aload_n (j := 0) (M := M_X3_leadIn) (pc := 22) dX3_leadIn_22 rfl rfl ?_
  refine gf_X3_24 (M := M_X3_leadIn) (pc := 23) rfl dX3_leadIn_23 rfl ?_
  refine aw_iald (k := (h 47 4).toNat) (M := M_X3_leadIn) (pc := 26) dX3_leadIn_26 (ll_7_4 (ll_4_8 lr3)) o2 rfl ?_
  obtain ⟨o5, hF⟩ := hF
  refine aw_isub (M := M_X3_leadIn) (pc := 27) dX3_leadIn_27 rfl o5 ?_
  obtain ⟨x6, ex6⟩ : ∃ y : Int, y = (h ((a1 + 10) + 4) (h 47 4).toNat) - (h ((r3 + 10) + 4) (h 47 4).toNat) := ⟨_, rfl⟩
  have hF := hF x6 ex6
  rw [← ex6]
  refine aw_istore_n (ls' := [(2, (0, x6)), (0, vr 47), (1, vr a1)]) (M := M_X3_leadIn) (pc := 28) dX3_leadIn_28 rfl (by decide) rfl ?_
  refine aw_aload_n (j := 2) (M := M_X3_leadIn) (pc := 29) dX3_leadIn_29 rfl rfl ?_
  refine gf_X3_89 (M := M_X3_leadIn) (pc := 30) rfl dX3_leadIn_30 ha1 (r := a1 + 10) rfl ?_
  refine gf_X3_93 (M := M_X3_leadIn) (pc := 33) rfl dX3_leadIn_33 (ll_4_8 ha1) (r := (a1 + 10) + 4) rfl ?_
  refine aw_aload_n (j := 1) (M := M_X3_leadIn) (pc := 36) dX3_leadIn_36 rfl rfl ?_
  refine gf_X3_28 (M := M_X3_leadIn) (pc := 37) rfl dX3_leadIn_37 rfl ?_
  obtain ⟨o8, hF⟩ := hF
  refine aw_iald (k := (h 47 5).toNat) (M := M_X3_leadIn) (pc := 40) dX3_leadIn_40 (ll_7_4 (ll_4_8 ha1)) o8 rfl ?_
  refine aw_aload_n (j := 1) (M := M_X3_leadIn) (pc := 41) dX3_leadIn_41 rfl rfl ?_
  refine gf_X3_21 (M := M_X3_leadIn) (pc := 42) rfl dX3_leadIn_42 rfl ?_
  obtain ⟨r9, er9, lr9, hF⟩ := hF
  refine aw_ref (a := r9) er9 ?_
  refine gf_X3_89 (M := M_X3_leadIn) (pc := 45) rfl dX3_leadIn_45 lr9 (r := r9 + 10) rfl ?_
  refine gf_X3_93 (M := M_X3_leadIn) (pc := 48) rfl dX3_leadIn_48 (ll_4_8 lr9) (r := (r9 + 10) + 4) rfl ?_
  refine aw_aload_n (j := 1) (M := M_X3_leadIn) (pc := 51) dX3_leadIn_51 rfl rfl ?_
  refine gf_X3_28 (M := M_X3_leadIn) (pc := 52) rfl dX3_leadIn_52 rfl ?_
  refine aw_iald (k := (h 47 5).toNat) (M := M_X3_leadIn) (pc := 55) dX3_leadIn_55 (ll_7_4 (ll_4_8 lr9)) o8 rfl ?_
  obtain ⟨o11, hF⟩ := hF
  refine aw_isub (M := M_X3_leadIn) (pc := 56) dX3_leadIn_56 rfl o11 ?_
  obtain ⟨x12, ex12⟩ : ∃ y : Int, y = (h ((a1 + 10) + 4) (h 47 5).toNat) - (h ((r9 + 10) + 4) (h 47 5).toNat) := ⟨_, rfl⟩
  have hF := hF x12 ex12
  rw [← ex12]
  refine aw_istore_n (ls' := [(3, (0, x12)), (2, (0, x6)), (0, vr 47), (1, vr a1)]) (M := M_X3_leadIn) (pc := 57) dX3_leadIn_57 rfl (by decide) rfl ?_
  refine aw_iload_n (j := 1) (M := M_X3_leadIn) (pc := 58) dX3_leadIn_58 rfl rfl ?_
  refine aw_iload_n (j := 0) (M := M_X3_leadIn) (pc := 59) dX3_leadIn_59 rfl rfl ?_
  obtain ⟨o13, hF⟩ := hF
  refine aw_isub (M := M_X3_leadIn) (pc := 60) dX3_leadIn_60 rfl o13 ?_
  exact aw_ireti (M := M_X3_leadIn) (pc := 61) dX3_leadIn_61 rfl ⟨_, rfl, hF⟩
abbrev M_X3_takeTurn : Hd := (cX3_takeTurn, 5, RX3, none, (4, 116), sc0)
def L_X3_takeTurn_22 (h : Mem) (v1 : Nat) (v4 : Int) (Q : Mem → Prop) : Prop := AW M_X3_takeTurn 22 [(1, vr v1), (4, (0, v4))] [] h (qv Q)
def B_X3_takeTurn_22 (h : Mem) (v1 : Nat) (v4 : Int) (Q : Mem → Prop) : Prop :=
  ((6 ≤ v4 → Q h) ∧ (¬ (6 ≤ v4) → (F_X4_passHour h v1 (fun r6 h5 => (InR (v4 + 1) ∧ L_X3_takeTurn_22 h5 v1 (v4 + 1) Q)))))
set_option maxRecDepth 100000 in
set_option maxHeartbeats 4000000 in
theorem l_X3_takeTurn_22 {h : Mem} {v1 : Nat} {v4 : Int} {Q : Mem → Prop} (hv1 : lay v1 = (0, 4)) (hF : B_X3_takeTurn_22 h v1 v4 Q) : L_X3_takeTurn_22 h v1 v4 Q := by
  unfold B_X3_takeTurn_22 at hF
  show AW M_X3_takeTurn 22 [(1, vr v1), (4, (0, v4))] [] h (qv Q)
  refine aw_iload (j := 1) (M := M_X3_takeTurn) (pc := 22) dX3_takeTurn_22  rfl ?_
  refine aw_bipush (M := M_X3_takeTurn) (pc := 24) dX3_takeTurn_24 ⟨rfl, ⟨by decide, by decide⟩⟩ ?_
  refine aw_icmp_ge (tgt := 40) (M := M_X3_takeTurn) (pc := 26) dX3_takeTurn_26 rfl (fun hc => ?_) (fun hc => ?_)
  · have hF := hF.1 hc
    exact aw_ret (M := M_X3_takeTurn) (pc := 40) dX3_takeTurn_40 rfl ⟨rfl, hF⟩
  · have hF := hF.2 hc
    refine aw_aload_n (j := 0) (M := M_X3_takeTurn) (pc := 29) dX3_takeTurn_29 rfl rfl ?_
    refine aw_cvi (as := []) (st := []) (M := M_X3_takeTurn) (pc := 30) (f_X4_passHour hv1 hF) dX3_takeTurn_30 rfl (Or.inl ⟨_, _, _, hv1, rfl⟩) cy_X4_passHour ml_X3_85 (by decide) (by decide) (Nat.le_of_ble_eq_true rfl) (fun r6 h5 hF => ?_)
    refine aw_pop (M := M_X3_takeTurn) (pc := 33) dX3_takeTurn_33 rfl ?_
    obtain ⟨o7, hF⟩ := hF
    refine aw_iinc (j := 1) (x := v4) (r := v4 + 1) (ls' := [(4, (0, v4 + 1)), (1, vr v1)]) (M := M_X3_takeTurn) (pc := 34) dX3_takeTurn_34 rfl rfl o7 (by decide) rfl ?_
    refine aw_goto (tgt := 22) (M := M_X3_takeTurn) (pc := 37) dX3_takeTurn_37 rfl ?_
    exact aw_ls [1, 0] rfl hF
def F_X3_takeTurn (h : Mem) (a1 : Nat) (a2 : Nat) (a3 : Int) (a4 : Int) (Q : Mem → Prop) : Prop :=
  (F_X4_goBackTo h a2 a1 (fun h1 => ((a3 = (-1) → L_X3_takeTurn_22 h1 a2 0 Q) ∧ (¬ (a3 = (-1)) → (F_X9_throwInto h1 (a2 + 1) a3 a4 (fun h3 => L_X3_takeTurn_22 h3 a2 0 Q))))))
set_option maxRecDepth 100000 in
set_option maxHeartbeats 4000000 in
theorem f_X3_takeTurn {h : Mem} {a1 : Nat} {a2 : Nat} {a3 : Int} {a4 : Int} {Q : Mem → Prop} (ha1 : lay a1 = (0, 4)) (ha2 : lay a2 = (0, 4)) (hF : F_X3_takeTurn h a1 a2 a3 a4 Q) : Ct yX3_takeTurn cX3_takeTurn 5 none (4, 116) [vr a1, vr a2, (0, a3), (0, a4)] h (qv Q) := by
  refine Ct.of np_RX3 (Nat.le_of_ble_eq_true rfl) ?_
  unfold F_X3_takeTurn at hF
  show AW M_X3_takeTurn 0 [(0, vr a1), (1, vr a2), (2, (0, a3)), (3, (0, a4))] [] h (qv Q)
  refine aw_aload_n (j := 1) (M := M_X3_takeTurn) (pc := 0) dX3_takeTurn_0 rfl rfl ?_
  refine aw_aload_n (j := 0) (M := M_X3_takeTurn) (pc := 1) dX3_takeTurn_1 rfl rfl ?_
  refine aw_cvv (as := [vr a1]) (st := []) (M := M_X3_takeTurn) (pc := 2) (f_X4_goBackTo ha2 ha1 hF) dX3_takeTurn_2 rfl (Or.inl ⟨_, _, _, ha2, rfl⟩) cy_X4_goBackTo ml_X3_79 (by decide) (by decide) (Nat.le_of_ble_eq_true rfl) (fun h1 hF => ?_)
  refine aw_iload_n (j := 2) (M := M_X3_takeTurn) (pc := 5) dX3_takeTurn_5 rfl rfl ?_
  refine aw_iconst (M := M_X3_takeTurn) (pc := 6) dX3_takeTurn_6 ⟨by decide, by decide⟩ ?_
  refine aw_icmp_eq (tgt := 19) (M := M_X3_takeTurn) (pc := 7) dX3_takeTurn_7 rfl (fun hc => ?_) (fun hc => ?_)
  · have hF := hF.1 hc
    refine aw_iconst (M := M_X3_takeTurn) (pc := 19) dX3_takeTurn_19 ⟨by decide, by decide⟩ ?_
    refine aw_istore (ls' := [(4, (0, 0)), (0, vr a1), (1, vr a2), (2, (0, a3)), (3, (0, a4))]) (M := M_X3_takeTurn) (pc := 20) dX3_takeTurn_20  (by decide) rfl ?_
    exact aw_ls [2, 0] rfl hF
  · have hF := hF.2 hc
    refine aw_aload_n (j := 1) (M := M_X3_takeTurn) (pc := 10) dX3_takeTurn_10 rfl rfl ?_
    refine gf_X3_47 (M := M_X3_takeTurn) (pc := 11) rfl dX3_takeTurn_11 ha2 (r := a2 + 1) rfl ?_
    refine aw_iload_n (j := 2) (M := M_X3_takeTurn) (pc := 14) dX3_takeTurn_14 rfl rfl ?_
    refine aw_iload_n (j := 3) (M := M_X3_takeTurn) (pc := 15) dX3_takeTurn_15 rfl rfl ?_
    refine aw_cvv (as := [(0, a3), (0, a4)]) (st := []) (M := M_X3_takeTurn) (pc := 16) (f_X9_throwInto (ll_4_7 ha2) hF) dX3_takeTurn_16 rfl (Or.inl ⟨_, _, _, (ll_4_7 ha2), rfl⟩) cy_X9_throwInto ml_X3_82 (by decide) (by decide) (Nat.le_of_ble_eq_true rfl) (fun h3 hF => ?_)
    refine aw_iconst (M := M_X3_takeTurn) (pc := 19) dX3_takeTurn_19 ⟨by decide, by decide⟩ ?_
    refine aw_istore (ls' := [(4, (0, 0)), (0, vr a1), (1, vr a2), (2, (0, a3)), (3, (0, a4))]) (M := M_X3_takeTurn) (pc := 20) dX3_takeTurn_20  (by decide) rfl ?_
    exact aw_ls [2, 0] rfl hF
abbrev M_X9_isFree : Hd := (cX9_isFree, 2, RX9, (some .boolean), (1, 45), sc0)
def F_X9_isFree (h : Mem) (o : Nat) (a1 : Int) (Q : Int → Mem → Prop) : Prop :=
  ((0 ≤ a1 ∧ a1 < 8) ∧ (((h (o + 5) (a1).toNat) = 0 → Q 1 h) ∧ (¬ ((h (o + 5) (a1).toNat) = 0) → ((¬ ((h (o + 5) (a1).toNat) = 3) → Q 0 h) ∧ ((h (o + 5) (a1).toNat) = 3 → Q 1 h)))))
set_option maxRecDepth 100000 in
set_option maxHeartbeats 4000000 in
theorem f_X9_isFree {h : Mem} {o : Nat} {a1 : Int} {Q : Int → Mem → Prop} (ho : lay o = (0, 9)) (hF : F_X9_isFree h o a1 Q) : Ct yX9_isFree cX9_isFree 2 (some .boolean) (1, 45) [vr o, (0, a1)] h (qi Q) := by
  refine Ct.of np_RX9 (Nat.le_of_ble_eq_true rfl) ?_
  unfold F_X9_isFree at hF
  show AW M_X9_isFree 0 [(0, vr o), (1, (0, a1))] [] h (qi Q)
  refine aw_aload_n (j := 0) (M := M_X9_isFree) (pc := 0) dX9_isFree_0 rfl rfl ?_
  refine gf_X9_29 (M := M_X9_isFree) (pc := 1) rfl dX9_isFree_1 ho (r := o + 5) rfl ?_
  refine aw_iload_n (j := 1) (M := M_X9_isFree) (pc := 4) dX9_isFree_4 rfl rfl ?_
  obtain ⟨o2, hF⟩ := hF
  refine aw_iald (k := (a1).toNat) (M := M_X9_isFree) (pc := 5) dX9_isFree_5 (ll_9_5 ho) o2 rfl ?_
  refine aw_if_eq (tgt := 19) (M := M_X9_isFree) (pc := 6) dX9_isFree_6 rfl (fun hc => ?_) (fun hc => ?_)
  · have hF := hF.1 hc
    refine aw_iconst (M := M_X9_isFree) (pc := 19) dX9_isFree_19 ⟨by decide, by decide⟩ ?_
    refine aw_goto (tgt := 24) (M := M_X9_isFree) (pc := 20) dX9_isFree_20 rfl ?_
    exact aw_iretz (M := M_X9_isFree) (pc := 24) dX9_isFree_24 rfl (Or.inr rfl) ⟨_, rfl, hF⟩
  · have hF := hF.2 hc
    refine aw_aload_n (j := 0) (M := M_X9_isFree) (pc := 9) dX9_isFree_9 rfl rfl ?_
    refine gf_X9_29 (M := M_X9_isFree) (pc := 10) rfl dX9_isFree_10 ho (r := o + 5) rfl ?_
    refine aw_iload_n (j := 1) (M := M_X9_isFree) (pc := 13) dX9_isFree_13 rfl rfl ?_
    refine aw_iald (k := (a1).toNat) (M := M_X9_isFree) (pc := 14) dX9_isFree_14 (ll_9_5 ho) o2 rfl ?_
    refine aw_iconst (M := M_X9_isFree) (pc := 15) dX9_isFree_15 ⟨by decide, by decide⟩ ?_
    refine aw_icmp_ne (tgt := 23) (M := M_X9_isFree) (pc := 16) dX9_isFree_16 rfl (fun hc => ?_) (fun hc => ?_)
    · have hF := hF.1 hc
      refine aw_iconst (M := M_X9_isFree) (pc := 23) dX9_isFree_23 ⟨by decide, by decide⟩ ?_
      exact aw_iretz (M := M_X9_isFree) (pc := 24) dX9_isFree_24 rfl (Or.inl rfl) ⟨_, rfl, hF⟩
    · have hF := hF.2 hc
      refine aw_iconst (M := M_X9_isFree) (pc := 19) dX9_isFree_19 ⟨by decide, by decide⟩ ?_
      refine aw_goto (tgt := 24) (M := M_X9_isFree) (pc := 20) dX9_isFree_20 rfl ?_
      exact aw_iretz (M := M_X9_isFree) (pc := 24) dX9_isFree_24 rfl (Or.inr rfl) ⟨_, rfl, hF⟩
abbrev M_X3_worstReply : Hd := (cX3_worstReply, 4, RX3, (some .int), (5, 140), sc0)
def L_X3_worstReply_24 (h : Mem) (v1 : Int) (v2 : Int) (Q : Int → Mem → Prop) : Prop := AW M_X3_worstReply 24 [(0, vr 47), (1, (0, v1)), (2, (0, v2))] [] h (qi Q)
def L_X3_worstReply_65 (h : Mem) (v1 : Int) (v2 : Int) (v3 : Int) (Q : Int → Mem → Prop) : Prop := AW M_X3_worstReply 65 [(0, vr 47), (1, (0, v1)), (2, (0, v2)), (3, (0, v3))] [] h (qi Q)
def B_X3_worstReply_24 (h : Mem) (v1 : Int) (v2 : Int) (Q : Int → Mem → Prop) : Prop :=
  (∃ r5 : Nat, h 47 3 = (r5 : Int) ∧ lay r5 = (0, 4) ∧ (((h (r5 + 1) 0) ≤ v2 → Q v1 h) ∧ (¬ ((h (r5 + 1) 0) ≤ v2) → (F_X9_isFree h 49 v2 (fun r7 h6 => ((r7 = 0 → (InR (v2 + 1) ∧ L_X3_worstReply_24 h6 v1 (v2 + 1) Q)) ∧ (¬ (r7 = 0) → (F_X3_comesToMindTooLate h6 v2 (fun r10 h9 => ((r10 = 0 → L_X3_worstReply_65 h9 v1 v2 0 Q) ∧ (¬ (r10 = 0) → (InR (v2 + 1) ∧ L_X3_worstReply_24 h9 v1 (v2 + 1) Q))))))))))))
set_option maxRecDepth 100000 in
set_option maxHeartbeats 4000000 in
theorem l_X3_worstReply_24 {h : Mem} {v1 : Int} {v2 : Int} {Q : Int → Mem → Prop}  (hF : B_X3_worstReply_24 h v1 v2 Q) : L_X3_worstReply_24 h v1 v2 Q := by
  unfold B_X3_worstReply_24 at hF
  show AW M_X3_worstReply 24 [(0, vr 47), (1, (0, v1)), (2, (0, v2))] [] h (qi Q)
  refine aw_iload_n (j := 2) (M := M_X3_worstReply) (pc := 24) dX3_worstReply_24 rfl rfl ?_
  refine aw_aload_n (j := 0) (M := M_X3_worstReply) (pc := 25) dX3_worstReply_25 rfl rfl ?_
  refine gf_X3_21 (M := M_X3_worstReply) (pc := 26) rfl dX3_worstReply_26 rfl ?_
  obtain ⟨r5, er5, lr5, hF⟩ := hF
  refine aw_ref (a := r5) er5 ?_
  refine gf_X3_47 (M := M_X3_worstReply) (pc := 29) rfl dX3_worstReply_29 lr5 (r := r5 + 1) rfl ?_
  refine gf_X3_51 (M := M_X3_worstReply) (pc := 32) rfl dX3_worstReply_32 (ll_4_7 lr5) ?_
  refine aw_icmp_ge (tgt := 122) (M := M_X3_worstReply) (pc := 35) dX3_worstReply_35 rfl (fun hc => ?_) (fun hc => ?_)
  · have hF := hF.1 hc
    refine aw_iload_n (j := 1) (M := M_X3_worstReply) (pc := 122) dX3_worstReply_122 rfl rfl ?_
    exact aw_ireti (M := M_X3_worstReply) (pc := 123) dX3_worstReply_123 rfl ⟨_, rfl, hF⟩
  · have hF := hF.2 hc
    refine aw_aload_n (j := 0) (M := M_X3_worstReply) (pc := 38) dX3_worstReply_38 rfl rfl ?_
    refine gf_X3_12 (M := M_X3_worstReply) (pc := 39) rfl dX3_worstReply_39 rfl (r := 48) rfl ?_
    refine gf_X3_47 (M := M_X3_worstReply) (pc := 42) rfl dX3_worstReply_42 rfl (r := 49) rfl ?_
    refine aw_iload_n (j := 2) (M := M_X3_worstReply) (pc := 45) dX3_worstReply_45 rfl rfl ?_
    refine aw_cvi (as := [(0, v2)]) (st := []) (M := M_X3_worstReply) (pc := 46) (f_X9_isFree rfl hF) dX3_worstReply_46 rfl (Or.inl ⟨_, _, _, rfl, rfl⟩) cy_X9_isFree ml_X3_59 (by decide) (by decide) (Nat.le_of_ble_eq_true rfl) (fun r7 h6 hF => ?_)
    refine aw_if_eq (tgt := 116) (M := M_X3_worstReply) (pc := 49) dX3_worstReply_49 rfl (fun hc => ?_) (fun hc => ?_)
    · have hF := hF.1 hc
      obtain ⟨o8, hF⟩ := hF
      refine aw_iinc (j := 2) (x := v2) (r := v2 + 1) (ls' := [(2, (0, v2 + 1)), (0, vr 47), (1, (0, v1))]) (M := M_X3_worstReply) (pc := 116) dX3_worstReply_116 rfl rfl o8 (by decide) rfl ?_
      refine aw_goto (tgt := 24) (M := M_X3_worstReply) (pc := 119) dX3_worstReply_119 rfl ?_
      exact aw_ls [1, 2, 0] rfl hF
    · have hF := hF.2 hc
      refine aw_aload_n (j := 0) (M := M_X3_worstReply) (pc := 52) dX3_worstReply_52 rfl rfl ?_
      refine aw_iload_n (j := 2) (M := M_X3_worstReply) (pc := 53) dX3_worstReply_53 rfl rfl ?_
      refine aw_cvi (as := [(0, v2)]) (st := []) (M := M_X3_worstReply) (pc := 54) (f_X3_comesToMindTooLate  hF) dX3_worstReply_54 rfl (Or.inl ⟨_, _, _, rfl, rfl⟩) cy_X3_comesToMindTooLate ml_X3_99 (by decide) (by decide) (Nat.le_of_ble_eq_true rfl) (fun r10 h9 hF => ?_)
      refine aw_if_eq (tgt := 63) (M := M_X3_worstReply) (pc := 57) dX3_worstReply_57 rfl (fun hc => ?_) (fun hc => ?_)
      · have hF := hF.1 hc
        refine aw_iconst (M := M_X3_worstReply) (pc := 63) dX3_worstReply_63 ⟨by decide, by decide⟩ ?_
        refine aw_istore_n (ls' := [(3, (0, 0)), (0, vr 47), (1, (0, v1)), (2, (0, v2))]) (M := M_X3_worstReply) (pc := 64) dX3_worstReply_64 rfl (by decide) rfl ?_
        exact aw_ls [1, 2, 3, 0] rfl hF
      · have hF := hF.2 hc
        refine aw_goto (tgt := 116) (M := M_X3_worstReply) (pc := 60) dX3_worstReply_60 rfl ?_
        obtain ⟨o11, hF⟩ := hF
        refine aw_iinc (j := 2) (x := v2) (r := v2 + 1) (ls' := [(2, (0, v2 + 1)), (0, vr 47), (1, (0, v1))]) (M := M_X3_worstReply) (pc := 116) dX3_worstReply_116 rfl rfl o11 (by decide) rfl ?_
        refine aw_goto (tgt := 24) (M := M_X3_worstReply) (pc := 119) dX3_worstReply_119 rfl ?_
        exact aw_ls [1, 2, 0] rfl hF
def B_X3_worstReply_65 (h : Mem) (v1 : Int) (v2 : Int) (v3 : Int) (Q : Int → Mem → Prop) : Prop :=
  (∃ r12 : Nat, h 47 3 = (r12 : Int) ∧ lay r12 = (0, 4) ∧ (((h r12 0) ≤ v3 → (InR (v2 + 1) ∧ L_X3_worstReply_24 h v1 (v2 + 1) Q)) ∧ (¬ ((h r12 0) ≤ v3) → ((v1 ≤ (h 47 0) → (InR (v2 + 1) ∧ L_X3_worstReply_24 h v1 (v2 + 1) Q)) ∧ (¬ (v1 ≤ (h 47 0)) → (F_X3_takeTurn h 48 63 v2 v3 (fun h15 => (F_X3_leadIn h15 63 (fun r18 h17 => (InR (v3 + 1) ∧ L_X3_worstReply_65 h17 (imin v1 r18) v2 (v3 + 1) Q))))))))))
set_option maxRecDepth 100000 in
set_option maxHeartbeats 4000000 in
theorem l_X3_worstReply_65 {h : Mem} {v1 : Int} {v2 : Int} {v3 : Int} {Q : Int → Mem → Prop}  (hF : B_X3_worstReply_65 h v1 v2 v3 Q) : L_X3_worstReply_65 h v1 v2 v3 Q := by
  unfold B_X3_worstReply_65 at hF
  show AW M_X3_worstReply 65 [(0, vr 47), (1, (0, v1)), (2, (0, v2)), (3, (0, v3))] [] h (qi Q)
  refine aw_iload_n (j := 3) (M := M_X3_worstReply) (pc := 65) dX3_worstReply_65 rfl rfl ?_
  refine aw_aload_n (j := 0) (M := M_X3_worstReply) (pc := 66) dX3_worstReply_66 rfl rfl ?_
  refine gf_X3_21 (M := M_X3_worstReply) (pc := 67) rfl dX3_worstReply_67 rfl ?_
  obtain ⟨r12, er12, lr12, hF⟩ := hF
  refine aw_ref (a := r12) er12 ?_
  refine gf_X3_56 (M := M_X3_worstReply) (pc := 70) rfl dX3_worstReply_70 lr12 ?_
  refine aw_icmp_ge (tgt := 116) (M := M_X3_worstReply) (pc := 73) dX3_worstReply_73 rfl (fun hc => ?_) (fun hc => ?_)
  · have hF := hF.1 hc
    obtain ⟨o13, hF⟩ := hF
    refine aw_iinc (j := 2) (x := v2) (r := v2 + 1) (ls' := [(2, (0, v2 + 1)), (0, vr 47), (1, (0, v1)), (3, (0, v3))]) (M := M_X3_worstReply) (pc := 116) dX3_worstReply_116 rfl rfl o13 (by decide) rfl ?_
    refine aw_goto (tgt := 24) (M := M_X3_worstReply) (pc := 119) dX3_worstReply_119 rfl ?_
    exact aw_ls [1, 2, 0] rfl hF
  · have hF := hF.2 hc
    refine aw_iload_n (j := 1) (M := M_X3_worstReply) (pc := 76) dX3_worstReply_76 rfl rfl ?_
    refine aw_aload_n (j := 0) (M := M_X3_worstReply) (pc := 77) dX3_worstReply_77 rfl rfl ?_
    refine gf_X3_34 (M := M_X3_worstReply) (pc := 78) rfl dX3_worstReply_78 rfl ?_
    refine aw_icmp_le (tgt := 116) (M := M_X3_worstReply) (pc := 81) dX3_worstReply_81 rfl (fun hc => ?_) (fun hc => ?_)
    · have hF := hF.1 hc
      obtain ⟨o14, hF⟩ := hF
      refine aw_iinc (j := 2) (x := v2) (r := v2 + 1) (ls' := [(2, (0, v2 + 1)), (0, vr 47), (1, (0, v1)), (3, (0, v3))]) (M := M_X3_worstReply) (pc := 116) dX3_worstReply_116 rfl rfl o14 (by decide) rfl ?_
      refine aw_goto (tgt := 24) (M := M_X3_worstReply) (pc := 119) dX3_worstReply_119 rfl ?_
      exact aw_ls [1, 2, 0] rfl hF
    · have hF := hF.2 hc
      refine aw_aload_n (j := 0) (M := M_X3_worstReply) (pc := 84) dX3_worstReply_84 rfl rfl ?_
      refine gf_X3_12 (M := M_X3_worstReply) (pc := 85) rfl dX3_worstReply_85 rfl (r := 48) rfl ?_
      refine aw_aload_n (j := 0) (M := M_X3_worstReply) (pc := 88) dX3_worstReply_88 rfl rfl ?_
      refine gf_X3_18 (M := M_X3_worstReply) (pc := 89) rfl dX3_worstReply_89 rfl (r := 63) rfl ?_
      refine aw_iload_n (j := 2) (M := M_X3_worstReply) (pc := 92) dX3_worstReply_92 rfl rfl ?_
      refine aw_iload_n (j := 3) (M := M_X3_worstReply) (pc := 93) dX3_worstReply_93 rfl rfl ?_
      refine aw_csv (as := [vr 48, vr 63, (0, v2), (0, v3)]) (st := []) (M := M_X3_worstReply) (pc := 94) (f_X3_takeTurn rfl rfl hF) dX3_worstReply_94 rfl cy_X3_takeTurn ml_X3_67 (by decide) (by decide) (Nat.le_of_ble_eq_true rfl) (fun h15 hF => ?_)
      refine aw_iload_n (j := 1) (M := M_X3_worstReply) (pc := 97) dX3_worstReply_97 rfl rfl ?_
      refine aw_aload_n (j := 0) (M := M_X3_worstReply) (pc := 98) dX3_worstReply_98 rfl rfl ?_
      refine aw_aload_n (j := 0) (M := M_X3_worstReply) (pc := 99) dX3_worstReply_99 rfl rfl ?_
      refine gf_X3_18 (M := M_X3_worstReply) (pc := 100) rfl dX3_worstReply_100 rfl (r := 63) rfl ?_
      refine aw_cvi (as := [vr 63]) (st := [(0, v1)]) (M := M_X3_worstReply) (pc := 103) (f_X3_leadIn rfl hF) dX3_worstReply_103 rfl (Or.inl ⟨_, _, _, rfl, rfl⟩) cy_X3_leadIn ml_X3_71 (by decide) (by decide) (Nat.le_of_ble_eq_true rfl) (fun r18 h17 hF => ?_)
      refine aw_mmin (M := M_X3_worstReply) (pc := 106) ml_X3_102 dX3_worstReply_106 (by decide) (Nat.le_of_ble_eq_true rfl) ?_
      refine aw_istore_n (ls' := [(1, (0, imin v1 r18)), (0, vr 47), (2, (0, v2)), (3, (0, v3))]) (M := M_X3_worstReply) (pc := 109) dX3_worstReply_109 rfl (by decide) rfl ?_
      obtain ⟨o19, hF⟩ := hF
      refine aw_iinc (j := 3) (x := v3) (r := v3 + 1) (ls' := [(3, (0, v3 + 1)), (1, (0, imin v1 r18)), (0, vr 47), (2, (0, v2))]) (M := M_X3_worstReply) (pc := 110) dX3_worstReply_110 rfl rfl o19 (by decide) rfl ?_
      refine aw_goto (tgt := 65) (M := M_X3_worstReply) (pc := 113) dX3_worstReply_113 rfl ?_
      exact aw_ls [2, 1, 3, 0] rfl hF
def F_X3_worstReply (h : Mem)  (Q : Int → Mem → Prop) : Prop :=
  (F_X3_takeTurn h 48 63 (-1) (-1) (fun h1 => (F_X3_leadIn h1 63 (fun r4 h3 => L_X3_worstReply_24 h3 r4 0 Q))))
set_option maxRecDepth 100000 in
set_option maxHeartbeats 4000000 in
theorem f_X3_worstReply {h : Mem}  {Q : Int → Mem → Prop}  (hF : F_X3_worstReply h  Q) : Ct yX3_worstReply cX3_worstReply 4 (some .int) (5, 140) [vr 47] h (qi Q) := by
  refine Ct.of np_RX3 (Nat.le_of_ble_eq_true rfl) ?_
  unfold F_X3_worstReply at hF
  show AW M_X3_worstReply 0 [(0, vr 47)] [] h (qi Q)
  refine aw_aload_n (j := 0) (M := M_X3_worstReply) (pc := 0) dX3_worstReply_0 rfl rfl ?_
  refine gf_X3_12 (M := M_X3_worstReply) (pc := 1) rfl dX3_worstReply_1 rfl (r := 48) rfl ?_
  refine aw_aload_n (j := 0) (M := M_X3_worstReply) (pc := 4) dX3_worstReply_4 rfl rfl ?_
  refine gf_X3_18 (M := M_X3_worstReply) (pc := 5) rfl dX3_worstReply_5 rfl (r := 63) rfl ?_
  refine aw_iconst (M := M_X3_worstReply) (pc := 8) dX3_worstReply_8 ⟨by decide, by decide⟩ ?_
  refine aw_iconst (M := M_X3_worstReply) (pc := 9) dX3_worstReply_9 ⟨by decide, by decide⟩ ?_
  refine aw_csv (as := [vr 48, vr 63, (0, (-1)), (0, (-1))]) (st := []) (M := M_X3_worstReply) (pc := 10) (f_X3_takeTurn rfl rfl hF) dX3_worstReply_10 rfl cy_X3_takeTurn ml_X3_67 (by decide) (by decide) (Nat.le_of_ble_eq_true rfl) (fun h1 hF => ?_)
  refine aw_aload_n (j := 0) (M := M_X3_worstReply) (pc := 13) dX3_worstReply_13 rfl rfl ?_
  refine aw_aload_n (j := 0) (M := M_X3_worstReply) (pc := 14) dX3_worstReply_14 rfl rfl ?_
  refine gf_X3_18 (M := M_X3_worstReply) (pc := 15) rfl dX3_worstReply_15 rfl (r := 63) rfl ?_
  refine aw_cvi (as := [vr 63]) (st := []) (M := M_X3_worstReply) (pc := 18) (f_X3_leadIn rfl hF) dX3_worstReply_18 rfl (Or.inl ⟨_, _, _, rfl, rfl⟩) cy_X3_leadIn ml_X3_71 (by decide) (by decide) (Nat.le_of_ble_eq_true rfl) (fun r4 h3 hF => ?_)
  refine aw_istore_n (ls' := [(1, (0, r4)), (0, vr 47)]) (M := M_X3_worstReply) (pc := 21) dX3_worstReply_21 rfl (by decide) rfl ?_
  refine aw_iconst (M := M_X3_worstReply) (pc := 22) dX3_worstReply_22 ⟨by decide, by decide⟩ ?_
  refine aw_istore_n (ls' := [(2, (0, 0)), (1, (0, r4)), (0, vr 47)]) (M := M_X3_worstReply) (pc := 23) dX3_worstReply_23 rfl (by decide) rfl ?_
  exact aw_ls [2, 1, 0] rfl hF
abbrev M_X3_weighMove : Hd := (cX3_weighMove, 4, RX3, none, (6, 163), sc0)
def F_X3_weighMove (h : Mem) (a1 : Int) (a2 : Int) (Q : Mem → Prop) : Prop :=
  (∃ r1 : Nat, h 47 3 = (r1 : Int) ∧ lay r1 = (0, 4) ∧ (F_X3_takeTurn h r1 48 a1 a2 (fun h2 => ((¬ ((h2 47 6) = 1) → (F_X3_worstReply h2  (fun r5 h4 => ((r5 ≤ (h4 47 0) → Q h4) ∧ (¬ (r5 ≤ (h4 47 0)) → (∀ h6 : Mem, h6 = mset h4 47 0 r5 → (∀ h7 : Mem, h7 = mset h6 47 1 a1 → (∀ h8 : Mem, h8 = mset h7 47 2 a2 → Q h8)))))))) ∧ ((h2 47 6) = 1 → (F_X3_leadIn h2 48 (fun r10 h9 => ((r10 ≤ (h9 47 0) → Q h9) ∧ (¬ (r10 ≤ (h9 47 0)) → (∀ h11 : Mem, h11 = mset h9 47 0 r10 → (∀ h12 : Mem, h12 = mset h11 47 1 a1 → (∀ h13 : Mem, h13 = mset h12 47 2 a2 → Q h13))))))))))))
set_option maxRecDepth 100000 in
set_option maxHeartbeats 4000000 in
theorem f_X3_weighMove {h : Mem} {a1 : Int} {a2 : Int} {Q : Mem → Prop}  (hF : F_X3_weighMove h a1 a2 Q) : Ct yX3_weighMove cX3_weighMove 4 none (6, 163) [vr 47, (0, a1), (0, a2)] h (qv Q) := by
  refine Ct.of np_RX3 (Nat.le_of_ble_eq_true rfl) ?_
  unfold F_X3_weighMove at hF
  show AW M_X3_weighMove 0 [(0, vr 47), (1, (0, a1)), (2, (0, a2))] [] h (qv Q)
  refine aw_aload_n (j := 0) (M := M_X3_weighMove) (pc := 0) dX3_weighMove_0 rfl rfl ?_
  refine gf_X3_21 (M := M_X3_weighMove) (pc := 1) rfl dX3_weighMove_1 rfl ?_
  obtain ⟨r1, er1, lr1, hF⟩ := hF
  refine aw_ref (a := r1) er1 ?_
  refine aw_aload_n (j := 0) (M := M_X3_weighMove) (pc := 4) dX3_weighMove_4 rfl rfl ?_
  refine gf_X3_12 (M := M_X3_weighMove) (pc := 5) rfl dX3_weighMove_5 rfl (r := 48) rfl ?_
  refine aw_iload_n (j := 1) (M := M_X3_weighMove) (pc := 8) dX3_weighMove_8 rfl rfl ?_
  refine aw_iload_n (j := 2) (M := M_X3_weighMove) (pc := 9) dX3_weighMove_9 rfl rfl ?_
  refine aw_csv (as := [vr r1, vr 48, (0, a1), (0, a2)]) (st := []) (M := M_X3_weighMove) (pc := 10) (f_X3_takeTurn lr1 rfl hF) dX3_weighMove_10 rfl cy_X3_takeTurn ml_X3_67 (by decide) (by decide) (Nat.le_of_ble_eq_true rfl) (fun h2 hF => ?_)
  refine aw_aload_n (j := 0) (M := M_X3_weighMove) (pc := 13) dX3_weighMove_13 rfl rfl ?_
  refine gf_X3_31 (M := M_X3_weighMove) (pc := 14) rfl dX3_weighMove_14 rfl ?_
  refine aw_iconst (M := M_X3_weighMove) (pc := 17) dX3_weighMove_17 ⟨by decide, by decide⟩ ?_
  refine aw_icmp_ne (tgt := 32) (M := M_X3_weighMove) (pc := 18) dX3_weighMove_18 rfl (fun hc => ?_) (fun hc => ?_)
  · have hF := hF.1 hc
    refine aw_aload_n (j := 0) (M := M_X3_weighMove) (pc := 32) dX3_weighMove_32 rfl rfl ?_
    refine aw_cvi (as := []) (st := []) (M := M_X3_weighMove) (pc := 33) (f_X3_worstReply  hF) dX3_weighMove_33 rfl (Or.inl ⟨_, _, _, rfl, rfl⟩) cy_X3_worstReply ml_X3_75 (by decide) (by decide) (Nat.le_of_ble_eq_true rfl) (fun r5 h4 hF => ?_)
    refine aw_istore_n (ls' := [(3, (0, r5)), (0, vr 47), (1, (0, a1)), (2, (0, a2))]) (M := M_X3_weighMove) (pc := 36) dX3_weighMove_36 rfl (by decide) rfl ?_
    refine aw_iload_n (j := 0) (M := M_X3_weighMove) (pc := 37) dX3_weighMove_37 rfl rfl ?_
    refine aw_aload_n (j := 1) (M := M_X3_weighMove) (pc := 38) dX3_weighMove_38 rfl rfl ?_
    refine gf_X3_34 (M := M_X3_weighMove) (pc := 39) rfl dX3_weighMove_39 rfl ?_
    refine aw_icmp_le (tgt := 60) (M := M_X3_weighMove) (pc := 42) dX3_weighMove_42 rfl (fun hc => ?_) (fun hc => ?_)
    · have hF := hF.1 hc
      exact aw_ret (M := M_X3_weighMove) (pc := 60) dX3_weighMove_60 rfl ⟨rfl, hF⟩
    · have hF := hF.2 hc
      refine aw_aload_n (j := 1) (M := M_X3_weighMove) (pc := 45) dX3_weighMove_45 rfl rfl ?_
      refine aw_iload_n (j := 0) (M := M_X3_weighMove) (pc := 46) dX3_weighMove_46 rfl rfl ?_
      refine pf_X3_34 (M := M_X3_weighMove) (pc := 47) rfl dX3_weighMove_47 rfl ?_
      obtain ⟨h6, eh6⟩ : ∃ y : Mem, y = mset h4 47 0 r5 := ⟨_, rfl⟩
      have hF := hF h6 eh6
      rw [← eh6]
      refine aw_aload_n (j := 1) (M := M_X3_weighMove) (pc := 50) dX3_weighMove_50 rfl rfl ?_
      refine aw_iload_n (j := 2) (M := M_X3_weighMove) (pc := 51) dX3_weighMove_51 rfl rfl ?_
      refine pf_X3_37 (M := M_X3_weighMove) (pc := 52) rfl dX3_weighMove_52 rfl ?_
      obtain ⟨h7, eh7⟩ : ∃ y : Mem, y = mset h6 47 1 a1 := ⟨_, rfl⟩
      have hF := hF h7 eh7
      rw [← eh7]
      refine aw_aload_n (j := 1) (M := M_X3_weighMove) (pc := 55) dX3_weighMove_55 rfl rfl ?_
      refine aw_iload_n (j := 3) (M := M_X3_weighMove) (pc := 56) dX3_weighMove_56 rfl rfl ?_
      refine pf_X3_40 (M := M_X3_weighMove) (pc := 57) rfl dX3_weighMove_57 rfl ?_
      obtain ⟨h8, eh8⟩ : ∃ y : Mem, y = mset h7 47 2 a2 := ⟨_, rfl⟩
      have hF := hF h8 eh8
      rw [← eh8]
      exact aw_ret (M := M_X3_weighMove) (pc := 60) dX3_weighMove_60 rfl ⟨rfl, hF⟩
  · have hF := hF.2 hc
    refine aw_aload_n (j := 0) (M := M_X3_weighMove) (pc := 21) dX3_weighMove_21 rfl rfl ?_
    refine aw_aload_n (j := 0) (M := M_X3_weighMove) (pc := 22) dX3_weighMove_22 rfl rfl ?_
    refine gf_X3_12 (M := M_X3_weighMove) (pc := 23) rfl dX3_weighMove_23 rfl (r := 48) rfl ?_
    refine aw_cvi (as := [vr 48]) (st := []) (M := M_X3_weighMove) (pc := 26) (f_X3_leadIn rfl hF) dX3_weighMove_26 rfl (Or.inl ⟨_, _, _, rfl, rfl⟩) cy_X3_leadIn ml_X3_71 (by decide) (by decide) (Nat.le_of_ble_eq_true rfl) (fun r10 h9 hF => ?_)
    refine aw_goto (tgt := 36) (M := M_X3_weighMove) (pc := 29) dX3_weighMove_29 rfl ?_
    refine aw_istore_n (ls' := [(3, (0, r10)), (0, vr 47), (1, (0, a1)), (2, (0, a2))]) (M := M_X3_weighMove) (pc := 36) dX3_weighMove_36 rfl (by decide) rfl ?_
    refine aw_iload_n (j := 0) (M := M_X3_weighMove) (pc := 37) dX3_weighMove_37 rfl rfl ?_
    refine aw_aload_n (j := 1) (M := M_X3_weighMove) (pc := 38) dX3_weighMove_38 rfl rfl ?_
    refine gf_X3_34 (M := M_X3_weighMove) (pc := 39) rfl dX3_weighMove_39 rfl ?_
    refine aw_icmp_le (tgt := 60) (M := M_X3_weighMove) (pc := 42) dX3_weighMove_42 rfl (fun hc => ?_) (fun hc => ?_)
    · have hF := hF.1 hc
      exact aw_ret (M := M_X3_weighMove) (pc := 60) dX3_weighMove_60 rfl ⟨rfl, hF⟩
    · have hF := hF.2 hc
      refine aw_aload_n (j := 1) (M := M_X3_weighMove) (pc := 45) dX3_weighMove_45 rfl rfl ?_
      refine aw_iload_n (j := 0) (M := M_X3_weighMove) (pc := 46) dX3_weighMove_46 rfl rfl ?_
      refine pf_X3_34 (M := M_X3_weighMove) (pc := 47) rfl dX3_weighMove_47 rfl ?_
      obtain ⟨h11, eh11⟩ : ∃ y : Mem, y = mset h9 47 0 r10 := ⟨_, rfl⟩
      have hF := hF h11 eh11
      rw [← eh11]
      refine aw_aload_n (j := 1) (M := M_X3_weighMove) (pc := 50) dX3_weighMove_50 rfl rfl ?_
      refine aw_iload_n (j := 2) (M := M_X3_weighMove) (pc := 51) dX3_weighMove_51 rfl rfl ?_
      refine pf_X3_37 (M := M_X3_weighMove) (pc := 52) rfl dX3_weighMove_52 rfl ?_
      obtain ⟨h12, eh12⟩ : ∃ y : Mem, y = mset h11 47 1 a1 := ⟨_, rfl⟩
      have hF := hF h12 eh12
      rw [← eh12]
      refine aw_aload_n (j := 1) (M := M_X3_weighMove) (pc := 55) dX3_weighMove_55 rfl rfl ?_
      refine aw_iload_n (j := 3) (M := M_X3_weighMove) (pc := 56) dX3_weighMove_56 rfl rfl ?_
      refine pf_X3_40 (M := M_X3_weighMove) (pc := 57) rfl dX3_weighMove_57 rfl ?_
      obtain ⟨h13, eh13⟩ : ∃ y : Mem, y = mset h12 47 2 a2 := ⟨_, rfl⟩
      have hF := hF h13 eh13
      rw [← eh13]
      exact aw_ret (M := M_X3_weighMove) (pc := 60) dX3_weighMove_60 rfl ⟨rfl, hF⟩
abbrev M_X3_play : Hd := (cX3_play, 7, RX3, none, (7, 186), sc0)
def L_X3_play_77 (h : Mem) (v5 : Int) (Q : Mem → Prop) : Prop := AW M_X3_play 77 [(0, vr 47), (5, (0, v5))] [] h (qv Q)
def L_X3_play_95 (h : Mem) (v5 : Int) (v6 : Int) (Q : Mem → Prop) : Prop := AW M_X3_play 95 [(0, vr 47), (5, (0, v5)), (6, (0, v6))] [] h (qv Q)
def B_X3_play_77 (h : Mem) (v5 : Int) (Q : Mem → Prop) : Prop :=
  (∃ r23 : Nat, h 47 3 = (r23 : Int) ∧ lay r23 = (0, 4) ∧ (((h (r23 + 1) 0) ≤ v5 → (F_X3_weighMove h (-1) (-1) (fun h24 => Q h24))) ∧ (¬ ((h (r23 + 1) 0) ≤ v5) → L_X3_play_95 h v5 0 Q)))
set_option maxRecDepth 100000 in
set_option maxHeartbeats 4000000 in
theorem l_X3_play_77 {h : Mem} {v5 : Int} {Q : Mem → Prop}  (hF : B_X3_play_77 h v5 Q) : L_X3_play_77 h v5 Q := by
  unfold B_X3_play_77 at hF
  show AW M_X3_play 77 [(0, vr 47), (5, (0, v5))] [] h (qv Q)
  refine aw_iload (j := 1) (M := M_X3_play) (pc := 77) dX3_play_77  rfl ?_
  refine aw_aload_n (j := 0) (M := M_X3_play) (pc := 79) dX3_play_79 rfl rfl ?_
  refine gf_X3_21 (M := M_X3_play) (pc := 80) rfl dX3_play_80 rfl ?_
  obtain ⟨r23, er23, lr23, hF⟩ := hF
  refine aw_ref (a := r23) er23 ?_
  refine gf_X3_47 (M := M_X3_play) (pc := 83) rfl dX3_play_83 lr23 (r := r23 + 1) rfl ?_
  refine gf_X3_51 (M := M_X3_play) (pc := 86) rfl dX3_play_86 (ll_4_7 lr23) ?_
  refine aw_icmp_ge (tgt := 142) (M := M_X3_play) (pc := 89) dX3_play_89 rfl (fun hc => ?_) (fun hc => ?_)
  · have hF := hF.1 hc
    refine aw_aload_n (j := 0) (M := M_X3_play) (pc := 142) dX3_play_142 rfl rfl ?_
    refine aw_iconst (M := M_X3_play) (pc := 143) dX3_play_143 ⟨by decide, by decide⟩ ?_
    refine aw_iconst (M := M_X3_play) (pc := 144) dX3_play_144 ⟨by decide, by decide⟩ ?_
    refine aw_cvv (as := [(0, (-1)), (0, (-1))]) (st := []) (M := M_X3_play) (pc := 145) (f_X3_weighMove  hF) dX3_play_145 rfl (Or.inl ⟨_, _, _, rfl, rfl⟩) cy_X3_weighMove ml_X3_63 (by decide) (by decide) (Nat.le_of_ble_eq_true rfl) (fun h24 hF => ?_)
    exact aw_ret (M := M_X3_play) (pc := 148) dX3_play_148 rfl ⟨rfl, hF⟩
  · have hF := hF.2 hc
    refine aw_iconst (M := M_X3_play) (pc := 92) dX3_play_92 ⟨by decide, by decide⟩ ?_
    refine aw_istore (ls' := [(6, (0, 0)), (0, vr 47), (5, (0, v5))]) (M := M_X3_play) (pc := 93) dX3_play_93  (by decide) rfl ?_
    exact aw_ls [1, 2, 0] rfl hF
def B_X3_play_95 (h : Mem) (v5 : Int) (v6 : Int) (Q : Mem → Prop) : Prop :=
  (∃ r26 : Nat, h 47 3 = (r26 : Int) ∧ lay r26 = (0, 4) ∧ (((h r26 0) ≤ v6 → (InR (v5 + 1) ∧ L_X3_play_77 h (v5 + 1) Q)) ∧ (¬ ((h r26 0) ≤ v6) → (∃ r28 : Nat, h 47 3 = (r28 : Int) ∧ lay r28 = (0, 4) ∧ (F_X9_isFree h (r28 + 1) v5 (fun r30 h29 => ((r30 = 0 → (InR (v5 + 1) ∧ L_X3_play_77 h29 (v5 + 1) Q)) ∧ (¬ (r30 = 0) → (F_X3_weighMove h29 v5 v6 (fun h32 => (InR (v6 + 1) ∧ L_X3_play_95 h32 v5 (v6 + 1) Q)))))))))))
set_option maxRecDepth 100000 in
set_option maxHeartbeats 4000000 in
theorem l_X3_play_95 {h : Mem} {v5 : Int} {v6 : Int} {Q : Mem → Prop}  (hF : B_X3_play_95 h v5 v6 Q) : L_X3_play_95 h v5 v6 Q := by
  unfold B_X3_play_95 at hF
  show AW M_X3_play 95 [(0, vr 47), (5, (0, v5)), (6, (0, v6))] [] h (qv Q)
  refine aw_iload (j := 2) (M := M_X3_play) (pc := 95) dX3_play_95  rfl ?_
  refine aw_aload_n (j := 0) (M := M_X3_play) (pc := 97) dX3_play_97 rfl rfl ?_
  refine gf_X3_21 (M := M_X3_play) (pc := 98) rfl dX3_play_98 rfl ?_
  obtain ⟨r26, er26, lr26, hF⟩ := hF
  refine aw_ref (a := r26) er26 ?_
  refine gf_X3_56 (M := M_X3_play) (pc := 101) rfl dX3_play_101 lr26 ?_
  refine aw_icmp_ge (tgt := 136) (M := M_X3_play) (pc := 104) dX3_play_104 rfl (fun hc => ?_) (fun hc => ?_)
  · have hF := hF.1 hc
    obtain ⟨o27, hF⟩ := hF
    refine aw_iinc (j := 1) (x := v5) (r := v5 + 1) (ls' := [(5, (0, v5 + 1)), (0, vr 47), (6, (0, v6))]) (M := M_X3_play) (pc := 136) dX3_play_136 rfl rfl o27 (by decide) rfl ?_
    refine aw_goto (tgt := 77) (M := M_X3_play) (pc := 139) dX3_play_139 rfl ?_
    exact aw_ls [1, 0] rfl hF
  · have hF := hF.2 hc
    refine aw_aload_n (j := 0) (M := M_X3_play) (pc := 107) dX3_play_107 rfl rfl ?_
    refine gf_X3_21 (M := M_X3_play) (pc := 108) rfl dX3_play_108 rfl ?_
    obtain ⟨r28, er28, lr28, hF⟩ := hF
    refine aw_ref (a := r28) er28 ?_
    refine gf_X3_47 (M := M_X3_play) (pc := 111) rfl dX3_play_111 lr28 (r := r28 + 1) rfl ?_
    refine aw_iload (j := 1) (M := M_X3_play) (pc := 114) dX3_play_114  rfl ?_
    refine aw_cvi (as := [(0, v5)]) (st := []) (M := M_X3_play) (pc := 116) (f_X9_isFree (ll_4_7 lr28) hF) dX3_play_116 rfl (Or.inl ⟨_, _, _, (ll_4_7 lr28), rfl⟩) cy_X9_isFree ml_X3_59 (by decide) (by decide) (Nat.le_of_ble_eq_true rfl) (fun r30 h29 hF => ?_)
    refine aw_if_eq (tgt := 136) (M := M_X3_play) (pc := 119) dX3_play_119 rfl (fun hc => ?_) (fun hc => ?_)
    · have hF := hF.1 hc
      obtain ⟨o31, hF⟩ := hF
      refine aw_iinc (j := 1) (x := v5) (r := v5 + 1) (ls' := [(5, (0, v5 + 1)), (0, vr 47), (6, (0, v6))]) (M := M_X3_play) (pc := 136) dX3_play_136 rfl rfl o31 (by decide) rfl ?_
      refine aw_goto (tgt := 77) (M := M_X3_play) (pc := 139) dX3_play_139 rfl ?_
      exact aw_ls [1, 0] rfl hF
    · have hF := hF.2 hc
      refine aw_aload_n (j := 0) (M := M_X3_play) (pc := 122) dX3_play_122 rfl rfl ?_
      refine aw_iload (j := 1) (M := M_X3_play) (pc := 123) dX3_play_123  rfl ?_
      refine aw_iload (j := 2) (M := M_X3_play) (pc := 125) dX3_play_125  rfl ?_
      refine aw_cvv (as := [(0, v5), (0, v6)]) (st := []) (M := M_X3_play) (pc := 127) (f_X3_weighMove  hF) dX3_play_127 rfl (Or.inl ⟨_, _, _, rfl, rfl⟩) cy_X3_weighMove ml_X3_63 (by decide) (by decide) (Nat.le_of_ble_eq_true rfl) (fun h32 hF => ?_)
      obtain ⟨o34, hF⟩ := hF
      refine aw_iinc (j := 2) (x := v6) (r := v6 + 1) (ls' := [(6, (0, v6 + 1)), (0, vr 47), (5, (0, v5))]) (M := M_X3_play) (pc := 130) dX3_play_130 rfl rfl o34 (by decide) rfl ?_
      refine aw_goto (tgt := 95) (M := M_X3_play) (pc := 133) dX3_play_133 rfl ?_
      exact aw_ls [1, 2, 0] rfl hF
def F_X3_play (h : Mem) (a1 : Nat) (a2 : Int) (a3 : Int) (a4 : Int) (Q : Mem → Prop) : Prop :=
  (∀ h1 : Mem, h1 = mset h 47 3 ((a1 : Nat) : Int) → (∀ h2 : Mem, h2 = mset h1 47 4 a2 → (∀ h3 : Mem, h3 = mset h2 47 5 a3 → (∀ h4 : Mem, h4 = mset h3 47 6 a4 → ((¬ (a4 = 0) → (∀ h5 : Mem, h5 = mset h4 47 0 (-100) → (∀ h6 : Mem, h6 = mset h5 47 1 (-1) → (∀ h7 : Mem, h7 = mset h6 47 2 (-1) → ((¬ (a4 = 0) → (∃ r8 : Nat, h7 47 3 = (r8 : Int) ∧ lay r8 = (0, 4) ∧ (F_X4_copyFrom h7 48 r8 (fun h9 => (∃ r11 : Nat, h9 47 3 = (r11 : Int) ∧ lay r11 = (0, 4) ∧ (F_X4_copyFrom h9 63 r11 (fun h12 => L_X3_play_77 h12 0 Q))))))) ∧ (a4 = 0 → Q h7)))))) ∧ (a4 = 0 → (∀ h14 : Mem, h14 = mset h4 47 0 0 → (∀ h15 : Mem, h15 = mset h14 47 1 (-1) → (∀ h16 : Mem, h16 = mset h15 47 2 (-1) → ((¬ (a4 = 0) → (∃ r17 : Nat, h16 47 3 = (r17 : Int) ∧ lay r17 = (0, 4) ∧ (F_X4_copyFrom h16 48 r17 (fun h18 => (∃ r20 : Nat, h18 47 3 = (r20 : Int) ∧ lay r20 = (0, 4) ∧ (F_X4_copyFrom h18 63 r20 (fun h21 => L_X3_play_77 h21 0 Q))))))) ∧ (a4 = 0 → Q h16)))))))))))
set_option maxRecDepth 100000 in
set_option maxHeartbeats 4000000 in
theorem f_X3_play {h : Mem} {a1 : Nat} {a2 : Int} {a3 : Int} {a4 : Int} {Q : Mem → Prop} (ha1 : lay a1 = (0, 4)) (hF : F_X3_play h a1 a2 a3 a4 Q) : Ct yX3_play cX3_play 7 none (7, 186) [vr 47, vr a1, (0, a2), (0, a3), (0, a4)] h (qv Q) := by
  refine Ct.of np_RX3 (Nat.le_of_ble_eq_true rfl) ?_
  unfold F_X3_play at hF
  show AW M_X3_play 0 [(0, vr 47), (1, vr a1), (2, (0, a2)), (3, (0, a3)), (4, (0, a4))] [] h (qv Q)
  refine aw_aload_n (j := 0) (M := M_X3_play) (pc := 0) dX3_play_0 rfl rfl ?_
  refine aw_aload_n (j := 1) (M := M_X3_play) (pc := 1) dX3_play_1 rfl rfl ?_
  refine pf_X3_21 (M := M_X3_play) (pc := 2) rfl dX3_play_2 rfl (lay181 ha1) ?_
  obtain ⟨h1, eh1⟩ : ∃ y : Mem, y = mset h 47 3 ((a1 : Nat) : Int) := ⟨_, rfl⟩
  have hF := hF h1 eh1
  rw [← eh1]
  refine aw_aload_n (j := 0) (M := M_X3_play) (pc := 5) dX3_play_5 rfl rfl ?_
  refine aw_iload_n (j := 2) (M := M_X3_play) (pc := 6) dX3_play_6 rfl rfl ?_
  refine pf_X3_24 (M := M_X3_play) (pc := 7) rfl dX3_play_7 rfl ?_
  obtain ⟨h2, eh2⟩ : ∃ y : Mem, y = mset h1 47 4 a2 := ⟨_, rfl⟩
  have hF := hF h2 eh2
  rw [← eh2]
  refine aw_aload_n (j := 0) (M := M_X3_play) (pc := 10) dX3_play_10 rfl rfl ?_
  refine aw_iload_n (j := 3) (M := M_X3_play) (pc := 11) dX3_play_11 rfl rfl ?_
  refine pf_X3_28 (M := M_X3_play) (pc := 12) rfl dX3_play_12 rfl ?_
  obtain ⟨h3, eh3⟩ : ∃ y : Mem, y = mset h2 47 5 a3 := ⟨_, rfl⟩
  have hF := hF h3 eh3
  rw [← eh3]
  refine aw_aload_n (j := 0) (M := M_X3_play) (pc := 15) dX3_play_15 rfl rfl ?_
  refine aw_iload (j := 4) (M := M_X3_play) (pc := 16) dX3_play_16  rfl ?_
  refine pf_X3_31 (M := M_X3_play) (pc := 18) rfl dX3_play_18 rfl ?_
  obtain ⟨h4, eh4⟩ : ∃ y : Mem, y = mset h3 47 6 a4 := ⟨_, rfl⟩
  have hF := hF h4 eh4
  rw [← eh4]
  refine aw_aload_n (j := 0) (M := M_X3_play) (pc := 21) dX3_play_21 rfl rfl ?_
  refine aw_iload (j := 4) (M := M_X3_play) (pc := 22) dX3_play_22  rfl ?_
  refine aw_if_ne (tgt := 31) (M := M_X3_play) (pc := 24) dX3_play_24 rfl (fun hc => ?_) (fun hc => ?_)
  · have hF := hF.1 hc
    refine aw_bipush (M := M_X3_play) (pc := 31) dX3_play_31 ⟨rfl, ⟨by decide, by decide⟩⟩ ?_
    refine pf_X3_34 (M := M_X3_play) (pc := 33) rfl dX3_play_33 rfl ?_
    obtain ⟨h5, eh5⟩ : ∃ y : Mem, y = mset h4 47 0 (-100) := ⟨_, rfl⟩
    have hF := hF h5 eh5
    rw [← eh5]
    refine aw_aload_n (j := 0) (M := M_X3_play) (pc := 36) dX3_play_36 rfl rfl ?_
    refine aw_iconst (M := M_X3_play) (pc := 37) dX3_play_37 ⟨by decide, by decide⟩ ?_
    refine pf_X3_37 (M := M_X3_play) (pc := 38) rfl dX3_play_38 rfl ?_
    obtain ⟨h6, eh6⟩ : ∃ y : Mem, y = mset h5 47 1 (-1) := ⟨_, rfl⟩
    have hF := hF h6 eh6
    rw [← eh6]
    refine aw_aload_n (j := 0) (M := M_X3_play) (pc := 41) dX3_play_41 rfl rfl ?_
    refine aw_iconst (M := M_X3_play) (pc := 42) dX3_play_42 ⟨by decide, by decide⟩ ?_
    refine pf_X3_40 (M := M_X3_play) (pc := 43) rfl dX3_play_43 rfl ?_
    obtain ⟨h7, eh7⟩ : ∃ y : Mem, y = mset h6 47 2 (-1) := ⟨_, rfl⟩
    have hF := hF h7 eh7
    rw [← eh7]
    refine aw_iload (j := 4) (M := M_X3_play) (pc := 46) dX3_play_46  rfl ?_
    refine aw_if_ne (tgt := 52) (M := M_X3_play) (pc := 48) dX3_play_48 rfl (fun hc => ?_) (fun hc => ?_)
    · have hF := hF.1 hc
      refine aw_aload_n (j := 0) (M := M_X3_play) (pc := 52) dX3_play_52 rfl rfl ?_
      refine gf_X3_12 (M := M_X3_play) (pc := 53) rfl dX3_play_53 rfl (r := 48) rfl ?_
      refine aw_aload_n (j := 0) (M := M_X3_play) (pc := 56) dX3_play_56 rfl rfl ?_
      refine gf_X3_21 (M := M_X3_play) (pc := 57) rfl dX3_play_57 rfl ?_
      obtain ⟨r8, er8, lr8, hF⟩ := hF
      refine aw_ref (a := r8) er8 ?_
      refine aw_cvv (as := [vr r8]) (st := []) (M := M_X3_play) (pc := 60) (f_X4_copyFrom rfl lr8 hF) dX3_play_60 rfl (Or.inl ⟨_, _, _, rfl, rfl⟩) cy_X4_copyFrom ml_X3_43 (by decide) (by decide) (Nat.le_of_ble_eq_true rfl) (fun h9 hF => ?_)
      refine aw_aload_n (j := 0) (M := M_X3_play) (pc := 63) dX3_play_63 rfl rfl ?_
      refine gf_X3_18 (M := M_X3_play) (pc := 64) rfl dX3_play_64 rfl (r := 63) rfl ?_
      refine aw_aload_n (j := 0) (M := M_X3_play) (pc := 67) dX3_play_67 rfl rfl ?_
      refine gf_X3_21 (M := M_X3_play) (pc := 68) rfl dX3_play_68 rfl ?_
      obtain ⟨r11, er11, lr11, hF⟩ := hF
      refine aw_ref (a := r11) er11 ?_
      refine aw_cvv (as := [vr r11]) (st := []) (M := M_X3_play) (pc := 71) (f_X4_copyFrom rfl lr11 hF) dX3_play_71 rfl (Or.inl ⟨_, _, _, rfl, rfl⟩) cy_X4_copyFrom ml_X3_43 (by decide) (by decide) (Nat.le_of_ble_eq_true rfl) (fun h12 hF => ?_)
      refine aw_iconst (M := M_X3_play) (pc := 74) dX3_play_74 ⟨by decide, by decide⟩ ?_
      refine aw_istore (ls' := [(5, (0, 0)), (0, vr 47), (1, vr a1), (2, (0, a2)), (3, (0, a3)), (4, (0, a4))]) (M := M_X3_play) (pc := 75) dX3_play_75  (by decide) rfl ?_
      exact aw_ls [1, 0] rfl hF
    · have hF := hF.2 hc
      exact aw_ret (M := M_X3_play) (pc := 51) dX3_play_51 rfl ⟨rfl, hF⟩
  · have hF := hF.2 hc
    refine aw_iconst (M := M_X3_play) (pc := 27) dX3_play_27 ⟨by decide, by decide⟩ ?_
    refine aw_goto (tgt := 33) (M := M_X3_play) (pc := 28) dX3_play_28 rfl ?_
    refine pf_X3_34 (M := M_X3_play) (pc := 33) rfl dX3_play_33 rfl ?_
    obtain ⟨h14, eh14⟩ : ∃ y : Mem, y = mset h4 47 0 0 := ⟨_, rfl⟩
    have hF := hF h14 eh14
    rw [← eh14]
    refine aw_aload_n (j := 0) (M := M_X3_play) (pc := 36) dX3_play_36 rfl rfl ?_
    refine aw_iconst (M := M_X3_play) (pc := 37) dX3_play_37 ⟨by decide, by decide⟩ ?_
    refine pf_X3_37 (M := M_X3_play) (pc := 38) rfl dX3_play_38 rfl ?_
    obtain ⟨h15, eh15⟩ : ∃ y : Mem, y = mset h14 47 1 (-1) := ⟨_, rfl⟩
    have hF := hF h15 eh15
    rw [← eh15]
    refine aw_aload_n (j := 0) (M := M_X3_play) (pc := 41) dX3_play_41 rfl rfl ?_
    refine aw_iconst (M := M_X3_play) (pc := 42) dX3_play_42 ⟨by decide, by decide⟩ ?_
    refine pf_X3_40 (M := M_X3_play) (pc := 43) rfl dX3_play_43 rfl ?_
    obtain ⟨h16, eh16⟩ : ∃ y : Mem, y = mset h15 47 2 (-1) := ⟨_, rfl⟩
    have hF := hF h16 eh16
    rw [← eh16]
    refine aw_iload (j := 4) (M := M_X3_play) (pc := 46) dX3_play_46  rfl ?_
    refine aw_if_ne (tgt := 52) (M := M_X3_play) (pc := 48) dX3_play_48 rfl (fun hc => ?_) (fun hc => ?_)
    · have hF := hF.1 hc
      refine aw_aload_n (j := 0) (M := M_X3_play) (pc := 52) dX3_play_52 rfl rfl ?_
      refine gf_X3_12 (M := M_X3_play) (pc := 53) rfl dX3_play_53 rfl (r := 48) rfl ?_
      refine aw_aload_n (j := 0) (M := M_X3_play) (pc := 56) dX3_play_56 rfl rfl ?_
      refine gf_X3_21 (M := M_X3_play) (pc := 57) rfl dX3_play_57 rfl ?_
      obtain ⟨r17, er17, lr17, hF⟩ := hF
      refine aw_ref (a := r17) er17 ?_
      refine aw_cvv (as := [vr r17]) (st := []) (M := M_X3_play) (pc := 60) (f_X4_copyFrom rfl lr17 hF) dX3_play_60 rfl (Or.inl ⟨_, _, _, rfl, rfl⟩) cy_X4_copyFrom ml_X3_43 (by decide) (by decide) (Nat.le_of_ble_eq_true rfl) (fun h18 hF => ?_)
      refine aw_aload_n (j := 0) (M := M_X3_play) (pc := 63) dX3_play_63 rfl rfl ?_
      refine gf_X3_18 (M := M_X3_play) (pc := 64) rfl dX3_play_64 rfl (r := 63) rfl ?_
      refine aw_aload_n (j := 0) (M := M_X3_play) (pc := 67) dX3_play_67 rfl rfl ?_
      refine gf_X3_21 (M := M_X3_play) (pc := 68) rfl dX3_play_68 rfl ?_
      obtain ⟨r20, er20, lr20, hF⟩ := hF
      refine aw_ref (a := r20) er20 ?_
      refine aw_cvv (as := [vr r20]) (st := []) (M := M_X3_play) (pc := 71) (f_X4_copyFrom rfl lr20 hF) dX3_play_71 rfl (Or.inl ⟨_, _, _, rfl, rfl⟩) cy_X4_copyFrom ml_X3_43 (by decide) (by decide) (Nat.le_of_ble_eq_true rfl) (fun h21 hF => ?_)
      refine aw_iconst (M := M_X3_play) (pc := 74) dX3_play_74 ⟨by decide, by decide⟩ ?_
      refine aw_istore (ls' := [(5, (0, 0)), (0, vr 47), (1, vr a1), (2, (0, a2)), (3, (0, a3)), (4, (0, a4))]) (M := M_X3_play) (pc := 75) dX3_play_75  (by decide) rfl ?_
      exact aw_ls [1, 0] rfl hF
    · have hF := hF.2 hc
      exact aw_ret (M := M_X3_play) (pc := 51) dX3_play_51 rfl ⟨rfl, hF⟩
abbrev M_X4_clear : Hd := (cX4_clear, 1, RX4, none, (1, 45), sc0)
def F_X4_clear (h : Mem) (o : Nat) (Q : Mem → Prop) : Prop :=
  (∀ h1 : Mem, h1 = mset h o 0 8 → (∀ h2 : Mem, h2 = mset h1 o 1 10 → (∀ h3 : Mem, h3 = mset h2 o 2 4 → (∀ h4 : Mem, h4 = mset h3 o 3 0 → (∀ h5 : Mem, h5 = mset h4 o 4 1 → (∀ h6 : Mem, h6 = mset h5 o 5 0 → (∀ h7 : Mem, h7 = mset h6 o 6 0 → (∀ h8 : Mem, h8 = mset h7 (o + 1) 0 0 → (∀ h9 : Mem, h9 = mset h8 (o + 10) 0 0 → Q h9)))))))))
set_option maxRecDepth 100000 in
set_option maxHeartbeats 4000000 in
theorem f_X4_clear {h : Mem} {o : Nat} {Q : Mem → Prop} (ho : lay o = (0, 4)) (hF : F_X4_clear h o Q) : Ct yX4_clear cX4_clear 1 none (1, 45) [vr o] h (qv Q) := by
  refine Ct.of np_RX4 (Nat.le_of_ble_eq_true rfl) ?_
  unfold F_X4_clear at hF
  show AW M_X4_clear 0 [(0, vr o)] [] h (qv Q)
  refine aw_aload_n (j := 0) (M := M_X4_clear) (pc := 0) dX4_clear_0 rfl rfl ?_
  refine aw_bipush (M := M_X4_clear) (pc := 1) dX4_clear_1 ⟨rfl, ⟨by decide, by decide⟩⟩ ?_
  refine pf_X4_28 (M := M_X4_clear) (pc := 3) rfl dX4_clear_3 ho ?_
  obtain ⟨h1, eh1⟩ : ∃ y : Mem, y = mset h o 0 8 := ⟨_, rfl⟩
  have hF := hF h1 eh1
  rw [← eh1]
  refine aw_aload_n (j := 0) (M := M_X4_clear) (pc := 6) dX4_clear_6 rfl rfl ?_
  refine aw_bipush (M := M_X4_clear) (pc := 7) dX4_clear_7 ⟨rfl, ⟨by decide, by decide⟩⟩ ?_
  refine pf_X4_32 (M := M_X4_clear) (pc := 9) rfl dX4_clear_9 ho ?_
  obtain ⟨h2, eh2⟩ : ∃ y : Mem, y = mset h1 o 1 10 := ⟨_, rfl⟩
  have hF := hF h2 eh2
  rw [← eh2]
  refine aw_aload_n (j := 0) (M := M_X4_clear) (pc := 12) dX4_clear_12 rfl rfl ?_
  refine aw_iconst (M := M_X4_clear) (pc := 13) dX4_clear_13 ⟨by decide, by decide⟩ ?_
  refine pf_X4_35 (M := M_X4_clear) (pc := 14) rfl dX4_clear_14 ho ?_
  obtain ⟨h3, eh3⟩ : ∃ y : Mem, y = mset h2 o 2 4 := ⟨_, rfl⟩
  have hF := hF h3 eh3
  rw [← eh3]
  refine aw_aload_n (j := 0) (M := M_X4_clear) (pc := 17) dX4_clear_17 rfl rfl ?_
  refine aw_iconst (M := M_X4_clear) (pc := 18) dX4_clear_18 ⟨by decide, by decide⟩ ?_
  refine pf_X4_38 (M := M_X4_clear) (pc := 19) rfl dX4_clear_19 ho ?_
  obtain ⟨h4, eh4⟩ : ∃ y : Mem, y = mset h3 o 3 0 := ⟨_, rfl⟩
  have hF := hF h4 eh4
  rw [← eh4]
  refine aw_aload_n (j := 0) (M := M_X4_clear) (pc := 22) dX4_clear_22 rfl rfl ?_
  refine aw_iconst (M := M_X4_clear) (pc := 23) dX4_clear_23 ⟨by decide, by decide⟩ ?_
  refine pf_X4_41 (M := M_X4_clear) (pc := 24) rfl dX4_clear_24 ho ?_
  obtain ⟨h5, eh5⟩ : ∃ y : Mem, y = mset h4 o 4 1 := ⟨_, rfl⟩
  have hF := hF h5 eh5
  rw [← eh5]
  refine aw_aload_n (j := 0) (M := M_X4_clear) (pc := 27) dX4_clear_27 rfl rfl ?_
  refine aw_iconst (M := M_X4_clear) (pc := 28) dX4_clear_28 ⟨by decide, by decide⟩ ?_
  refine pf_X4_44 (M := M_X4_clear) (pc := 29) rfl dX4_clear_29 ho ?_
  obtain ⟨h6, eh6⟩ : ∃ y : Mem, y = mset h5 o 5 0 := ⟨_, rfl⟩
  have hF := hF h6 eh6
  rw [← eh6]
  refine aw_aload_n (j := 0) (M := M_X4_clear) (pc := 32) dX4_clear_32 rfl rfl ?_
  refine aw_iconst (M := M_X4_clear) (pc := 33) dX4_clear_33 ⟨by decide, by decide⟩ ?_
  refine pf_X4_47 (M := M_X4_clear) (pc := 34) rfl dX4_clear_34 ho ?_
  obtain ⟨h7, eh7⟩ : ∃ y : Mem, y = mset h6 o 6 0 := ⟨_, rfl⟩
  have hF := hF h7 eh7
  rw [← eh7]
  refine aw_aload_n (j := 0) (M := M_X4_clear) (pc := 37) dX4_clear_37 rfl rfl ?_
  refine gf_X4_12 (M := M_X4_clear) (pc := 38) rfl dX4_clear_38 ho (r := o + 1) rfl ?_
  refine aw_iconst (M := M_X4_clear) (pc := 41) dX4_clear_41 ⟨by decide, by decide⟩ ?_
  refine pf_X4_50 (M := M_X4_clear) (pc := 42) rfl dX4_clear_42 (ll_4_7 ho) ?_
  obtain ⟨h8, eh8⟩ : ∃ y : Mem, y = mset h7 (o + 1) 0 0 := ⟨_, rfl⟩
  have hF := hF h8 eh8
  rw [← eh8]
  refine aw_aload_n (j := 0) (M := M_X4_clear) (pc := 45) dX4_clear_45 rfl rfl ?_
  refine gf_X4_21 (M := M_X4_clear) (pc := 46) rfl dX4_clear_46 ho (r := o + 10) rfl ?_
  refine aw_iconst (M := M_X4_clear) (pc := 49) dX4_clear_49 ⟨by decide, by decide⟩ ?_
  refine pf_X4_53 (M := M_X4_clear) (pc := 50) rfl dX4_clear_50 (ll_4_8 ho) ?_
  obtain ⟨h9, eh9⟩ : ∃ y : Mem, y = mset h8 (o + 10) 0 0 := ⟨_, rfl⟩
  have hF := hF h9 eh9
  rw [← eh9]
  exact aw_ret (M := M_X4_clear) (pc := 53) dX4_clear_53 rfl ⟨rfl, hF⟩
abbrev M_X9_setThatIs : Hd := (cX9_setThatIs, 4, RX9, (some .int), (1, 45), sc0)
def L_X9_setThatIs_4 (h : Mem) (v0 : Nat) (v1 : Int) (v2 : Int) (v3 : Int) (Q : Int → Mem → Prop) : Prop := AW M_X9_setThatIs 4 [(0, vr v0), (1, (0, v1)), (2, (0, v2)), (3, (0, v3))] [] h (qi Q)
def B_X9_setThatIs_4 (h : Mem) (v0 : Nat) (v1 : Int) (v2 : Int) (v3 : Int) (Q : Int → Mem → Prop) : Prop :=
  (((h v0 0) ≤ v3 → Q v2 h) ∧ (¬ ((h v0 0) ≤ v3) → ((0 ≤ v3 ∧ v3 < 8) ∧ ((¬ ((h (v0 + 5) (v3).toNat) = v1) → (InR (v3 + 1) ∧ L_X9_setThatIs_4 h v0 v1 v2 (v3 + 1) Q)) ∧ ((h (v0 + 5) (v3).toNat) = v1 → (∀ x4 : Int, x4 = ior v2 (ishl 1 v3) → (InR (v3 + 1) ∧ L_X9_setThatIs_4 h v0 v1 x4 (v3 + 1) Q)))))))
set_option maxRecDepth 100000 in
set_option maxHeartbeats 4000000 in
theorem l_X9_setThatIs_4 {h : Mem} {v0 : Nat} {v1 : Int} {v2 : Int} {v3 : Int} {Q : Int → Mem → Prop} (hv0 : lay v0 = (0, 9)) (hF : B_X9_setThatIs_4 h v0 v1 v2 v3 Q) : L_X9_setThatIs_4 h v0 v1 v2 v3 Q := by
  unfold B_X9_setThatIs_4 at hF
  show AW M_X9_setThatIs 4 [(0, vr v0), (1, (0, v1)), (2, (0, v2)), (3, (0, v3))] [] h (qi Q)
  refine aw_iload_n (j := 3) (M := M_X9_setThatIs) (pc := 4) dX9_setThatIs_4 rfl rfl ?_
  refine aw_aload_n (j := 0) (M := M_X9_setThatIs) (pc := 5) dX9_setThatIs_5 rfl rfl ?_
  refine gf_X9_9 (M := M_X9_setThatIs) (pc := 6) rfl dX9_setThatIs_6 hv0 ?_
  refine aw_icmp_ge (tgt := 34) (M := M_X9_setThatIs) (pc := 9) dX9_setThatIs_9 rfl (fun hc => ?_) (fun hc => ?_)
  · have hF := hF.1 hc
    refine aw_iload_n (j := 2) (M := M_X9_setThatIs) (pc := 34) dX9_setThatIs_34 rfl rfl ?_
    exact aw_ireti (M := M_X9_setThatIs) (pc := 35) dX9_setThatIs_35 rfl ⟨_, rfl, hF⟩
  · have hF := hF.2 hc
    refine aw_aload_n (j := 0) (M := M_X9_setThatIs) (pc := 12) dX9_setThatIs_12 rfl rfl ?_
    refine gf_X9_29 (M := M_X9_setThatIs) (pc := 13) rfl dX9_setThatIs_13 hv0 (r := v0 + 5) rfl ?_
    refine aw_iload_n (j := 3) (M := M_X9_setThatIs) (pc := 16) dX9_setThatIs_16 rfl rfl ?_
    obtain ⟨o2, hF⟩ := hF
    refine aw_iald (k := (v3).toNat) (M := M_X9_setThatIs) (pc := 17) dX9_setThatIs_17 (ll_9_5 hv0) o2 rfl ?_
    refine aw_iload_n (j := 1) (M := M_X9_setThatIs) (pc := 18) dX9_setThatIs_18 rfl rfl ?_
    refine aw_icmp_ne (tgt := 28) (M := M_X9_setThatIs) (pc := 19) dX9_setThatIs_19 rfl (fun hc => ?_) (fun hc => ?_)
    · have hF := hF.1 hc
      obtain ⟨o3, hF⟩ := hF
      refine aw_iinc (j := 3) (x := v3) (r := v3 + 1) (ls' := [(3, (0, v3 + 1)), (0, vr v0), (1, (0, v1)), (2, (0, v2))]) (M := M_X9_setThatIs) (pc := 28) dX9_setThatIs_28 rfl rfl o3 (by decide) rfl ?_
      refine aw_goto (tgt := 4) (M := M_X9_setThatIs) (pc := 31) dX9_setThatIs_31 rfl ?_
      exact aw_ls [1, 2, 3, 0] rfl hF
    · have hF := hF.2 hc
      refine aw_iload_n (j := 2) (M := M_X9_setThatIs) (pc := 22) dX9_setThatIs_22 rfl rfl ?_
      refine aw_iconst (M := M_X9_setThatIs) (pc := 23) dX9_setThatIs_23 ⟨by decide, by decide⟩ ?_
      refine aw_iload_n (j := 3) (M := M_X9_setThatIs) (pc := 24) dX9_setThatIs_24 rfl rfl ?_
      refine aw_ishl (M := M_X9_setThatIs) (pc := 25) dX9_setThatIs_25 ?_
      refine aw_ior (M := M_X9_setThatIs) (pc := 26) dX9_setThatIs_26 ?_
      obtain ⟨x4, ex4⟩ : ∃ y : Int, y = ior v2 (ishl 1 v3) := ⟨_, rfl⟩
      have hF := hF x4 ex4
      rw [← ex4]
      refine aw_istore_n (ls' := [(2, (0, x4)), (0, vr v0), (1, (0, v1)), (3, (0, v3))]) (M := M_X9_setThatIs) (pc := 27) dX9_setThatIs_27 rfl (by decide) rfl ?_
      obtain ⟨o5, hF⟩ := hF
      refine aw_iinc (j := 3) (x := v3) (r := v3 + 1) (ls' := [(3, (0, v3 + 1)), (2, (0, x4)), (0, vr v0), (1, (0, v1))]) (M := M_X9_setThatIs) (pc := 28) dX9_setThatIs_28 rfl rfl o5 (by decide) rfl ?_
      refine aw_goto (tgt := 4) (M := M_X9_setThatIs) (pc := 31) dX9_setThatIs_31 rfl ?_
      exact aw_ls [2, 3, 1, 0] rfl hF
def F_X9_setThatIs (h : Mem) (o : Nat) (a1 : Int) (Q : Int → Mem → Prop) : Prop :=
  L_X9_setThatIs_4 h o a1 0 0 Q
set_option maxRecDepth 100000 in
set_option maxHeartbeats 4000000 in
theorem f_X9_setThatIs {h : Mem} {o : Nat} {a1 : Int} {Q : Int → Mem → Prop} (ho : lay o = (0, 9)) (hF : F_X9_setThatIs h o a1 Q) : Ct yX9_setThatIs cX9_setThatIs 4 (some .int) (1, 45) [vr o, (0, a1)] h (qi Q) := by
  refine Ct.of np_RX9 (Nat.le_of_ble_eq_true rfl) ?_
  unfold F_X9_setThatIs at hF
  show AW M_X9_setThatIs 0 [(0, vr o), (1, (0, a1))] [] h (qi Q)
  refine aw_iconst (M := M_X9_setThatIs) (pc := 0) dX9_setThatIs_0 ⟨by decide, by decide⟩ ?_
  refine aw_istore_n (ls' := [(2, (0, 0)), (0, vr o), (1, (0, a1))]) (M := M_X9_setThatIs) (pc := 1) dX9_setThatIs_1 rfl (by decide) rfl ?_
  refine aw_iconst (M := M_X9_setThatIs) (pc := 2) dX9_setThatIs_2 ⟨by decide, by decide⟩ ?_
  refine aw_istore_n (ls' := [(3, (0, 0)), (2, (0, 0)), (0, vr o), (1, (0, a1))]) (M := M_X9_setThatIs) (pc := 3) dX9_setThatIs_3 rfl (by decide) rfl ?_
  exact aw_ls [2, 3, 1, 0] rfl hF
abbrev M_X9_weightOf : Hd := (cX9_weightOf, 4, RX9, (some .int), (1, 45), sc0)
def L_X9_weightOf_4 (h : Mem) (v0 : Nat) (v1 : Int) (v2 : Int) (v3 : Int) (Q : Int → Mem → Prop) : Prop := AW M_X9_weightOf 4 [(0, vr v0), (1, (0, v1)), (2, (0, v2)), (3, (0, v3))] [] h (qi Q)
def B_X9_weightOf_4 (h : Mem) (v0 : Nat) (v1 : Int) (v2 : Int) (v3 : Int) (Q : Int → Mem → Prop) : Prop :=
  (((h v0 0) ≤ v3 → Q v2 h) ∧ (¬ ((h v0 0) ≤ v3) → ((¬ ((iand (ishr v1 v3) 1) = 1) → (InR (v3 + 1) ∧ L_X9_weightOf_4 h v0 v1 v2 (v3 + 1) Q)) ∧ ((iand (ishr v1 v3) 1) = 1 → ((0 ≤ v3 ∧ v3 < 8) ∧ (InR (v2 + (h (v0 + 2) (v3).toNat)) ∧ (∀ x5 : Int, x5 = v2 + (h (v0 + 2) (v3).toNat) → (InR (v3 + 1) ∧ L_X9_weightOf_4 h v0 v1 x5 (v3 + 1) Q))))))))
set_option maxRecDepth 100000 in
set_option maxHeartbeats 4000000 in
theorem l_X9_weightOf_4 {h : Mem} {v0 : Nat} {v1 : Int} {v2 : Int} {v3 : Int} {Q : Int → Mem → Prop} (hv0 : lay v0 = (0, 9)) (hF : B_X9_weightOf_4 h v0 v1 v2 v3 Q) : L_X9_weightOf_4 h v0 v1 v2 v3 Q := by
  unfold B_X9_weightOf_4 at hF
  show AW M_X9_weightOf 4 [(0, vr v0), (1, (0, v1)), (2, (0, v2)), (3, (0, v3))] [] h (qi Q)
  refine aw_iload_n (j := 3) (M := M_X9_weightOf) (pc := 4) dX9_weightOf_4 rfl rfl ?_
  refine aw_aload_n (j := 0) (M := M_X9_weightOf) (pc := 5) dX9_weightOf_5 rfl rfl ?_
  refine gf_X9_9 (M := M_X9_weightOf) (pc := 6) rfl dX9_weightOf_6 hv0 ?_
  refine aw_icmp_ge (tgt := 36) (M := M_X9_weightOf) (pc := 9) dX9_weightOf_9 rfl (fun hc => ?_) (fun hc => ?_)
  · have hF := hF.1 hc
    refine aw_iload_n (j := 2) (M := M_X9_weightOf) (pc := 36) dX9_weightOf_36 rfl rfl ?_
    exact aw_ireti (M := M_X9_weightOf) (pc := 37) dX9_weightOf_37 rfl ⟨_, rfl, hF⟩
  · have hF := hF.2 hc
    refine aw_iload_n (j := 1) (M := M_X9_weightOf) (pc := 12) dX9_weightOf_12 rfl rfl ?_
    refine aw_iload_n (j := 3) (M := M_X9_weightOf) (pc := 13) dX9_weightOf_13 rfl rfl ?_
    refine aw_ishr (M := M_X9_weightOf) (pc := 14) dX9_weightOf_14 ?_
    refine aw_iconst (M := M_X9_weightOf) (pc := 15) dX9_weightOf_15 ⟨by decide, by decide⟩ ?_
    refine aw_iand (M := M_X9_weightOf) (pc := 16) dX9_weightOf_16 ?_
    refine aw_iconst (M := M_X9_weightOf) (pc := 17) dX9_weightOf_17 ⟨by decide, by decide⟩ ?_
    refine aw_icmp_ne (tgt := 30) (M := M_X9_weightOf) (pc := 18) dX9_weightOf_18 rfl (fun hc => ?_) (fun hc => ?_)
    · have hF := hF.1 hc
      obtain ⟨o1, hF⟩ := hF
      refine aw_iinc (j := 3) (x := v3) (r := v3 + 1) (ls' := [(3, (0, v3 + 1)), (0, vr v0), (1, (0, v1)), (2, (0, v2))]) (M := M_X9_weightOf) (pc := 30) dX9_weightOf_30 rfl rfl o1 (by decide) rfl ?_
      refine aw_goto (tgt := 4) (M := M_X9_weightOf) (pc := 33) dX9_weightOf_33 rfl ?_
      exact aw_ls [1, 2, 3, 0] rfl hF
    · have hF := hF.2 hc
      refine aw_iload_n (j := 2) (M := M_X9_weightOf) (pc := 21) dX9_weightOf_21 rfl rfl ?_
      refine aw_aload_n (j := 0) (M := M_X9_weightOf) (pc := 22) dX9_weightOf_22 rfl rfl ?_
      refine gf_X9_19 (M := M_X9_weightOf) (pc := 23) rfl dX9_weightOf_23 hv0 (r := v0 + 2) rfl ?_
      refine aw_iload_n (j := 3) (M := M_X9_weightOf) (pc := 26) dX9_weightOf_26 rfl rfl ?_
      obtain ⟨o3, hF⟩ := hF
      refine aw_iald (k := (v3).toNat) (M := M_X9_weightOf) (pc := 27) dX9_weightOf_27 (ll_9_2 hv0) o3 rfl ?_
      obtain ⟨o4, hF⟩ := hF
      refine aw_iadd (M := M_X9_weightOf) (pc := 28) dX9_weightOf_28 rfl o4 ?_
      obtain ⟨x5, ex5⟩ : ∃ y : Int, y = v2 + (h (v0 + 2) (v3).toNat) := ⟨_, rfl⟩
      have hF := hF x5 ex5
      rw [← ex5]
      refine aw_istore_n (ls' := [(2, (0, x5)), (0, vr v0), (1, (0, v1)), (3, (0, v3))]) (M := M_X9_weightOf) (pc := 29) dX9_weightOf_29 rfl (by decide) rfl ?_
      obtain ⟨o6, hF⟩ := hF
      refine aw_iinc (j := 3) (x := v3) (r := v3 + 1) (ls' := [(3, (0, v3 + 1)), (2, (0, x5)), (0, vr v0), (1, (0, v1))]) (M := M_X9_weightOf) (pc := 30) dX9_weightOf_30 rfl rfl o6 (by decide) rfl ?_
      refine aw_goto (tgt := 4) (M := M_X9_weightOf) (pc := 33) dX9_weightOf_33 rfl ?_
      exact aw_ls [2, 3, 1, 0] rfl hF
def F_X9_weightOf (h : Mem) (o : Nat) (a1 : Int) (Q : Int → Mem → Prop) : Prop :=
  L_X9_weightOf_4 h o a1 0 0 Q
set_option maxRecDepth 100000 in
set_option maxHeartbeats 4000000 in
theorem f_X9_weightOf {h : Mem} {o : Nat} {a1 : Int} {Q : Int → Mem → Prop} (ho : lay o = (0, 9)) (hF : F_X9_weightOf h o a1 Q) : Ct yX9_weightOf cX9_weightOf 4 (some .int) (1, 45) [vr o, (0, a1)] h (qi Q) := by
  refine Ct.of np_RX9 (Nat.le_of_ble_eq_true rfl) ?_
  unfold F_X9_weightOf at hF
  show AW M_X9_weightOf 0 [(0, vr o), (1, (0, a1))] [] h (qi Q)
  refine aw_iconst (M := M_X9_weightOf) (pc := 0) dX9_weightOf_0 ⟨by decide, by decide⟩ ?_
  refine aw_istore_n (ls' := [(2, (0, 0)), (0, vr o), (1, (0, a1))]) (M := M_X9_weightOf) (pc := 1) dX9_weightOf_1 rfl (by decide) rfl ?_
  refine aw_iconst (M := M_X9_weightOf) (pc := 2) dX9_weightOf_2 ⟨by decide, by decide⟩ ?_
  refine aw_istore_n (ls' := [(3, (0, 0)), (2, (0, 0)), (0, vr o), (1, (0, a1))]) (M := M_X9_weightOf) (pc := 3) dX9_weightOf_3 rfl (by decide) rfl ?_
  exact aw_ls [2, 3, 1, 0] rfl hF
abbrev M_X4_heaviestSet : Hd := (cX4_heaviestSet, 8, RX4, (some .int), (2, 68), sc0)
def L_X4_heaviestSet_30 (h : Mem) (v0 : Nat) (v1 : Int) (v2 : Int) (v3 : Int) (v4 : Int) (v5 : Int) (Q : Int → Mem → Prop) : Prop := AW M_X4_heaviestSet 30 [(0, vr v0), (1, (0, v1)), (2, (0, v2)), (3, (0, v3)), (4, (0, v4)), (5, (0, v5))] [] h (qi Q)
def J_X4_heaviestSet_89 (h : Mem) (v0 : Nat) (v1 : Int) (v2 : Int) (v3 : Int) (v4 : Int) (v5 : Int) (v6 : Int) (Q : Int → Mem → Prop) : Prop :=
  ((v2 < v6 → (InR (v5 + 1) ∧ L_X4_heaviestSet_30 h v0 v1 v2 v3 v4 (v5 + 1) Q)) ∧ (¬ (v2 < v6) → (InR (v5 + 1) ∧ L_X4_heaviestSet_30 h v0 v1 v2 v3 v4 (v5 + 1) Q)))
set_option maxRecDepth 100000 in
set_option maxHeartbeats 4000000 in
theorem j_X4_heaviestSet_89 {h : Mem} {v0 : Nat} {v1 : Int} {v2 : Int} {v3 : Int} {v4 : Int} {v5 : Int} {v6 : Int} {Q : Int → Mem → Prop} (hv0 : lay v0 = (0, 4)) (hF : J_X4_heaviestSet_89 h v0 v1 v2 v3 v4 v5 v6 Q) : AW M_X4_heaviestSet 89 [(0, vr v0), (1, (0, v1)), (2, (0, v2)), (3, (0, v3)), (4, (0, v4)), (5, (0, v5)), (6, (0, v6))] [] h (qi Q) := by
  unfold J_X4_heaviestSet_89 at hF
  refine aw_iconst (M := M_X4_heaviestSet) (pc := 89) dX4_heaviestSet_89 ⟨by decide, by decide⟩ ?_
  refine aw_istore (ls' := [(7, (0, 0)), (0, vr v0), (1, (0, v1)), (2, (0, v2)), (3, (0, v3)), (4, (0, v4)), (5, (0, v5)), (6, (0, v6))]) (M := M_X4_heaviestSet) (pc := 90) dX4_heaviestSet_90  (by decide) rfl ?_
  refine aw_iload (j := 7) (M := M_X4_heaviestSet) (pc := 92) dX4_heaviestSet_92  rfl ?_
  refine aw_iload_n (j := 3) (M := M_X4_heaviestSet) (pc := 94) dX4_heaviestSet_94 rfl rfl ?_
  refine aw_icmp_gt (tgt := 110) (M := M_X4_heaviestSet) (pc := 95) dX4_heaviestSet_95 rfl (fun hc => ?_) (fun hc => ?_)
  · have hF := hF.1 hc
    obtain ⟨o15, hF⟩ := hF
    refine aw_iinc (j := 6) (x := v5) (r := v5 + 1) (ls' := [(5, (0, v5 + 1)), (7, (0, 0)), (0, vr v0), (1, (0, v1)), (2, (0, v2)), (3, (0, v3)), (4, (0, v4)), (6, (0, v6))]) (M := M_X4_heaviestSet) (pc := 110) dX4_heaviestSet_110 rfl rfl o15 (by decide) rfl ?_
    refine aw_goto (tgt := 30) (M := M_X4_heaviestSet) (pc := 113) dX4_heaviestSet_113 rfl ?_
    exact aw_ls [2, 3, 4, 5, 6, 0] rfl hF
  · have hF := hF.2 hc
    refine aw_iload (j := 0) (M := M_X4_heaviestSet) (pc := 98) dX4_heaviestSet_98  rfl ?_
    refine aw_if_eq (tgt := 110) (M := M_X4_heaviestSet) (pc := 100) dX4_heaviestSet_100 rfl (fun hc => ?_) (fun hc => absurd hc (by decide))
    obtain ⟨o16, hF⟩ := hF
    refine aw_iinc (j := 6) (x := v5) (r := v5 + 1) (ls' := [(5, (0, v5 + 1)), (7, (0, 0)), (0, vr v0), (1, (0, v1)), (2, (0, v2)), (3, (0, v3)), (4, (0, v4)), (6, (0, v6))]) (M := M_X4_heaviestSet) (pc := 110) dX4_heaviestSet_110 rfl rfl o16 (by decide) rfl ?_
    refine aw_goto (tgt := 30) (M := M_X4_heaviestSet) (pc := 113) dX4_heaviestSet_113 rfl ?_
    exact aw_ls [2, 3, 4, 5, 6, 0] rfl hF
def J_X4_heaviestSet_85 (h : Mem) (v0 : Nat) (v1 : Int) (v2 : Int) (v3 : Int) (v4 : Int) (v5 : Int) (v6 : Int) (Q : Int → Mem → Prop) : Prop :=
  ((v2 < v6 → (InR (v5 + 1) ∧ L_X4_heaviestSet_30 h v0 v1 v2 v3 v4 (v5 + 1) Q)) ∧ (¬ (v2 < v6) → (InR (v5 + 1) ∧ L_X4_heaviestSet_30 h v0 v1 v2 v5 v6 (v5 + 1) Q)))
set_option maxRecDepth 100000 in
set_option maxHeartbeats 4000000 in
theorem j_X4_heaviestSet_85 {h : Mem} {v0 : Nat} {v1 : Int} {v2 : Int} {v3 : Int} {v4 : Int} {v5 : Int} {v6 : Int} {Q : Int → Mem → Prop} (hv0 : lay v0 = (0, 4)) (hF : J_X4_heaviestSet_85 h v0 v1 v2 v3 v4 v5 v6 Q) : AW M_X4_heaviestSet 85 [(0, vr v0), (1, (0, v1)), (2, (0, v2)), (3, (0, v3)), (4, (0, v4)), (5, (0, v5)), (6, (0, v6))] [] h (qi Q) := by
  unfold J_X4_heaviestSet_85 at hF
  refine aw_iconst (M := M_X4_heaviestSet) (pc := 85) dX4_heaviestSet_85 ⟨by decide, by decide⟩ ?_
  refine aw_goto (tgt := 90) (M := M_X4_heaviestSet) (pc := 86) dX4_heaviestSet_86 rfl ?_
  refine aw_istore (ls' := [(7, (0, 1)), (0, vr v0), (1, (0, v1)), (2, (0, v2)), (3, (0, v3)), (4, (0, v4)), (5, (0, v5)), (6, (0, v6))]) (M := M_X4_heaviestSet) (pc := 90) dX4_heaviestSet_90  (by decide) rfl ?_
  refine aw_iload (j := 7) (M := M_X4_heaviestSet) (pc := 92) dX4_heaviestSet_92  rfl ?_
  refine aw_iload_n (j := 3) (M := M_X4_heaviestSet) (pc := 94) dX4_heaviestSet_94 rfl rfl ?_
  refine aw_icmp_gt (tgt := 110) (M := M_X4_heaviestSet) (pc := 95) dX4_heaviestSet_95 rfl (fun hc => ?_) (fun hc => ?_)
  · have hF := hF.1 hc
    obtain ⟨o13, hF⟩ := hF
    refine aw_iinc (j := 6) (x := v5) (r := v5 + 1) (ls' := [(5, (0, v5 + 1)), (7, (0, 1)), (0, vr v0), (1, (0, v1)), (2, (0, v2)), (3, (0, v3)), (4, (0, v4)), (6, (0, v6))]) (M := M_X4_heaviestSet) (pc := 110) dX4_heaviestSet_110 rfl rfl o13 (by decide) rfl ?_
    refine aw_goto (tgt := 30) (M := M_X4_heaviestSet) (pc := 113) dX4_heaviestSet_113 rfl ?_
    exact aw_ls [2, 3, 4, 5, 6, 0] rfl hF
  · have hF := hF.2 hc
    refine aw_iload (j := 0) (M := M_X4_heaviestSet) (pc := 98) dX4_heaviestSet_98  rfl ?_
    refine aw_if_eq (tgt := 110) (M := M_X4_heaviestSet) (pc := 100) dX4_heaviestSet_100 rfl (fun hc => absurd hc (by decide)) (fun hc => ?_)
    refine aw_iload (j := 6) (M := M_X4_heaviestSet) (pc := 103) dX4_heaviestSet_103  rfl ?_
    refine aw_istore_n (ls' := [(3, (0, v5)), (7, (0, 1)), (0, vr v0), (1, (0, v1)), (2, (0, v2)), (4, (0, v4)), (5, (0, v5)), (6, (0, v6))]) (M := M_X4_heaviestSet) (pc := 105) dX4_heaviestSet_105 rfl (by decide) rfl ?_
    refine aw_iload (j := 7) (M := M_X4_heaviestSet) (pc := 106) dX4_heaviestSet_106  rfl ?_
    refine aw_istore (ls' := [(4, (0, v6)), (3, (0, v5)), (7, (0, 1)), (0, vr v0), (1, (0, v1)), (2, (0, v2)), (5, (0, v5)), (6, (0, v6))]) (M := M_X4_heaviestSet) (pc := 108) dX4_heaviestSet_108  (by decide) rfl ?_
    obtain ⟨o14, hF⟩ := hF
    refine aw_iinc (j := 6) (x := v5) (r := v5 + 1) (ls' := [(5, (0, v5 + 1)), (4, (0, v6)), (3, (0, v5)), (7, (0, 1)), (0, vr v0), (1, (0, v1)), (2, (0, v2)), (6, (0, v6))]) (M := M_X4_heaviestSet) (pc := 110) dX4_heaviestSet_110 rfl rfl o14 (by decide) rfl ?_
    refine aw_goto (tgt := 30) (M := M_X4_heaviestSet) (pc := 113) dX4_heaviestSet_113 rfl ?_
    exact aw_ls [4, 5, 6, 2, 1, 0] rfl hF
def B_X4_heaviestSet_30 (h : Mem) (v0 : Nat) (v1 : Int) (v2 : Int) (v3 : Int) (v4 : Int) (v5 : Int) (Q : Int → Mem → Prop) : Prop :=
  ((v1 < v5 → Q v3 h) ∧ (¬ (v1 < v5) → (((iand v5 (ixor v1 (-1))) = 0 → (F_X9_weightOf h (v0 + 1) v5 (fun r7 h6 => ((v4 < r7 → J_X4_heaviestSet_85 h6 v0 v1 v2 v3 v4 v5 r7 Q) ∧ (¬ (v4 < r7) → ((¬ (r7 = v4) → J_X4_heaviestSet_89 h6 v0 v1 v2 v3 v4 v5 r7 Q) ∧ (r7 = v4 → (F_J6_bitCount_0f7a4 h6 v5 (fun r9 h8 => (F_J6_bitCount_0f7a4 h8 v3 (fun r11 h10 => ((r11 ≤ r9 → J_X4_heaviestSet_89 h10 v0 v1 v2 v3 v4 v5 r7 Q) ∧ (¬ (r11 ≤ r9) → J_X4_heaviestSet_85 h10 v0 v1 v2 v3 v4 v5 r7 Q))))))))))))) ∧ (¬ ((iand v5 (ixor v1 (-1))) = 0) → (InR (v5 + 1) ∧ L_X4_heaviestSet_30 h v0 v1 v2 v3 v4 (v5 + 1) Q)))))
set_option maxRecDepth 100000 in
set_option maxHeartbeats 4000000 in
theorem l_X4_heaviestSet_30 {h : Mem} {v0 : Nat} {v1 : Int} {v2 : Int} {v3 : Int} {v4 : Int} {v5 : Int} {Q : Int → Mem → Prop} (hv0 : lay v0 = (0, 4)) (hF : B_X4_heaviestSet_30 h v0 v1 v2 v3 v4 v5 Q) : L_X4_heaviestSet_30 h v0 v1 v2 v3 v4 v5 Q := by
  unfold B_X4_heaviestSet_30 at hF
  show AW M_X4_heaviestSet 30 [(0, vr v0), (1, (0, v1)), (2, (0, v2)), (3, (0, v3)), (4, (0, v4)), (5, (0, v5))] [] h (qi Q)
  refine aw_iload (j := 5) (M := M_X4_heaviestSet) (pc := 30) dX4_heaviestSet_30  rfl ?_
  refine aw_iload_n (j := 1) (M := M_X4_heaviestSet) (pc := 32) dX4_heaviestSet_32 rfl rfl ?_
  refine aw_icmp_gt (tgt := 116) (M := M_X4_heaviestSet) (pc := 33) dX4_heaviestSet_33 rfl (fun hc => ?_) (fun hc => ?_)
  · have hF := hF.1 hc
    refine aw_iload_n (j := 3) (M := M_X4_heaviestSet) (pc := 116) dX4_heaviestSet_116 rfl rfl ?_
    exact aw_ireti (M := M_X4_heaviestSet) (pc := 117) dX4_heaviestSet_117 rfl ⟨_, rfl, hF⟩
  · have hF := hF.2 hc
    refine aw_iload (j := 5) (M := M_X4_heaviestSet) (pc := 36) dX4_heaviestSet_36  rfl ?_
    refine aw_iload_n (j := 1) (M := M_X4_heaviestSet) (pc := 38) dX4_heaviestSet_38 rfl rfl ?_
    refine aw_iconst (M := M_X4_heaviestSet) (pc := 39) dX4_heaviestSet_39 ⟨by decide, by decide⟩ ?_
    refine aw_ixor (M := M_X4_heaviestSet) (pc := 40) dX4_heaviestSet_40 ?_
    refine aw_iand (M := M_X4_heaviestSet) (pc := 41) dX4_heaviestSet_41 ?_
    refine aw_if_eq (tgt := 48) (M := M_X4_heaviestSet) (pc := 42) dX4_heaviestSet_42 rfl (fun hc => ?_) (fun hc => ?_)
    · have hF := hF.1 hc
      refine aw_aload_n (j := 0) (M := M_X4_heaviestSet) (pc := 48) dX4_heaviestSet_48 rfl rfl ?_
      refine gf_X4_12 (M := M_X4_heaviestSet) (pc := 49) rfl dX4_heaviestSet_49 hv0 (r := v0 + 1) rfl ?_
      refine aw_iload (j := 5) (M := M_X4_heaviestSet) (pc := 52) dX4_heaviestSet_52  rfl ?_
      refine aw_cvi (as := [(0, v5)]) (st := []) (M := M_X4_heaviestSet) (pc := 54) (f_X9_weightOf (ll_4_7 hv0) hF) dX4_heaviestSet_54 rfl (Or.inl ⟨_, _, _, (ll_4_7 hv0), rfl⟩) cy_X9_weightOf ml_X4_106 (by decide) (by decide) (Nat.le_of_ble_eq_true rfl) (fun r7 h6 hF => ?_)
      refine aw_istore (ls' := [(6, (0, r7)), (0, vr v0), (1, (0, v1)), (2, (0, v2)), (3, (0, v3)), (4, (0, v4)), (5, (0, v5))]) (M := M_X4_heaviestSet) (pc := 57) dX4_heaviestSet_57  (by decide) rfl ?_
      refine aw_iload (j := 0) (M := M_X4_heaviestSet) (pc := 59) dX4_heaviestSet_59  rfl ?_
      refine aw_iload (j := 5) (M := M_X4_heaviestSet) (pc := 61) dX4_heaviestSet_61  rfl ?_
      refine aw_icmp_gt (tgt := 85) (M := M_X4_heaviestSet) (pc := 63) dX4_heaviestSet_63 rfl (fun hc => ?_) (fun hc => ?_)
      · have hF := hF.1 hc
        exact aw_ls [1, 2, 3, 4, 5, 6, 0] rfl (j_X4_heaviestSet_85 hv0 hF)
      · have hF := hF.2 hc
        refine aw_iload (j := 0) (M := M_X4_heaviestSet) (pc := 66) dX4_heaviestSet_66  rfl ?_
        refine aw_iload (j := 5) (M := M_X4_heaviestSet) (pc := 68) dX4_heaviestSet_68  rfl ?_
        refine aw_icmp_ne (tgt := 89) (M := M_X4_heaviestSet) (pc := 70) dX4_heaviestSet_70 rfl (fun hc => ?_) (fun hc => ?_)
        · have hF := hF.1 hc
          exact aw_ls [1, 2, 3, 4, 5, 6, 0] rfl (j_X4_heaviestSet_89 hv0 hF)
        · have hF := hF.2 hc
          refine aw_iload (j := 6) (M := M_X4_heaviestSet) (pc := 73) dX4_heaviestSet_73  rfl ?_
          refine aw_csi (as := [(0, v5)]) (st := []) (M := M_X4_heaviestSet) (pc := 75) (f_J6_bitCount_0f7a4  hF) dX4_heaviestSet_75 rfl cy_J6_bitCount_0f7a4 ml_X4_109 (by decide) (by decide) (Nat.le_of_ble_eq_true rfl) (fun r9 h8 hF => ?_)
          refine aw_iload_n (j := 4) (M := M_X4_heaviestSet) (pc := 78) dX4_heaviestSet_78 rfl rfl ?_
          refine aw_csi (as := [(0, v3)]) (st := [(0, r9)]) (M := M_X4_heaviestSet) (pc := 79) (f_J6_bitCount_0f7a4  hF) dX4_heaviestSet_79 rfl cy_J6_bitCount_0f7a4 ml_X4_109 (by decide) (by decide) (Nat.le_of_ble_eq_true rfl) (fun r11 h10 hF => ?_)
          refine aw_icmp_ge (tgt := 89) (M := M_X4_heaviestSet) (pc := 82) dX4_heaviestSet_82 rfl (fun hc => ?_) (fun hc => ?_)
          · have hF := hF.1 hc
            exact aw_ls [1, 2, 3, 4, 5, 6, 0] rfl (j_X4_heaviestSet_89 hv0 hF)
          · have hF := hF.2 hc
            exact aw_ls [1, 2, 3, 4, 5, 6, 0] rfl (j_X4_heaviestSet_85 hv0 hF)
    · have hF := hF.2 hc
      refine aw_goto (tgt := 110) (M := M_X4_heaviestSet) (pc := 45) dX4_heaviestSet_45 rfl ?_
      obtain ⟨o12, hF⟩ := hF
      refine aw_iinc (j := 5) (x := v5) (r := v5 + 1) (ls' := [(5, (0, v5 + 1)), (0, vr v0), (1, (0, v1)), (2, (0, v2)), (3, (0, v3)), (4, (0, v4))]) (M := M_X4_heaviestSet) (pc := 110) dX4_heaviestSet_110 rfl rfl o12 (by decide) rfl ?_
      refine aw_goto (tgt := 30) (M := M_X4_heaviestSet) (pc := 113) dX4_heaviestSet_113 rfl ?_
      exact aw_ls [1, 2, 3, 4, 5, 0] rfl hF
def F_X4_heaviestSet (h : Mem) (o : Nat) (Q : Int → Mem → Prop) : Prop :=
  (F_X9_setThatIs h (o + 1) 1 (fun r2 h1 => (F_X9_carriedWeight h1 (o + 1) (fun r4 h3 => (InR ((h1 o 1) - r4) ∧ L_X4_heaviestSet_30 h3 o r2 ((h1 o 1) - r4) 0 0 1 Q)))))
set_option maxRecDepth 100000 in
set_option maxHeartbeats 4000000 in
theorem f_X4_heaviestSet {h : Mem} {o : Nat} {Q : Int → Mem → Prop} (ho : lay o = (0, 4)) (hF : F_X4_heaviestSet h o Q) : Ct yX4_heaviestSet cX4_heaviestSet 8 (some .int) (2, 68) [vr o] h (qi Q) := by
  refine Ct.of np_RX4 (Nat.le_of_ble_eq_true rfl) ?_
  unfold F_X4_heaviestSet at hF
  show AW M_X4_heaviestSet 0 [(0, vr o)] [] h (qi Q)
  refine aw_aload_n (j := 0) (M := M_X4_heaviestSet) (pc := 0) dX4_heaviestSet_0 rfl rfl ?_
  refine gf_X4_12 (M := M_X4_heaviestSet) (pc := 1) rfl dX4_heaviestSet_1 ho (r := o + 1) rfl ?_
  refine aw_iconst (M := M_X4_heaviestSet) (pc := 4) dX4_heaviestSet_4 ⟨by decide, by decide⟩ ?_
  refine aw_cvi (as := [(0, 1)]) (st := []) (M := M_X4_heaviestSet) (pc := 5) (f_X9_setThatIs (ll_4_7 ho) hF) dX4_heaviestSet_5 rfl (Or.inl ⟨_, _, _, (ll_4_7 ho), rfl⟩) cy_X9_setThatIs ml_X4_103 (by decide) (by decide) (Nat.le_of_ble_eq_true rfl) (fun r2 h1 hF => ?_)
  refine aw_istore_n (ls' := [(1, (0, r2)), (0, vr o)]) (M := M_X4_heaviestSet) (pc := 8) dX4_heaviestSet_8 rfl (by decide) rfl ?_
  refine aw_aload_n (j := 1) (M := M_X4_heaviestSet) (pc := 9) dX4_heaviestSet_9 rfl rfl ?_
  refine gf_X4_32 (M := M_X4_heaviestSet) (pc := 10) rfl dX4_heaviestSet_10 ho ?_
  refine aw_aload_n (j := 1) (M := M_X4_heaviestSet) (pc := 13) dX4_heaviestSet_13 rfl rfl ?_
  refine gf_X4_12 (M := M_X4_heaviestSet) (pc := 14) rfl dX4_heaviestSet_14 ho (r := o + 1) rfl ?_
  refine aw_cvi (as := []) (st := [(0, h1 o 1)]) (M := M_X4_heaviestSet) (pc := 17) (f_X9_carriedWeight (ll_4_7 ho) hF) dX4_heaviestSet_17 rfl (Or.inl ⟨_, _, _, (ll_4_7 ho), rfl⟩) cy_X9_carriedWeight ml_X4_83 (by decide) (by decide) (Nat.le_of_ble_eq_true rfl) (fun r4 h3 hF => ?_)
  obtain ⟨o5, hF⟩ := hF
  refine aw_isub (M := M_X4_heaviestSet) (pc := 20) dX4_heaviestSet_20 rfl o5 ?_
  refine aw_istore_n (ls' := [(2, (0, (h1 o 1) - r4)), (1, (0, r2)), (0, vr o)]) (M := M_X4_heaviestSet) (pc := 21) dX4_heaviestSet_21 rfl (by decide) rfl ?_
  refine aw_iconst (M := M_X4_heaviestSet) (pc := 22) dX4_heaviestSet_22 ⟨by decide, by decide⟩ ?_
  refine aw_istore_n (ls' := [(3, (0, 0)), (2, (0, (h1 o 1) - r4)), (1, (0, r2)), (0, vr o)]) (M := M_X4_heaviestSet) (pc := 23) dX4_heaviestSet_23 rfl (by decide) rfl ?_
  refine aw_iconst (M := M_X4_heaviestSet) (pc := 24) dX4_heaviestSet_24 ⟨by decide, by decide⟩ ?_
  refine aw_istore (ls' := [(4, (0, 0)), (3, (0, 0)), (2, (0, (h1 o 1) - r4)), (1, (0, r2)), (0, vr o)]) (M := M_X4_heaviestSet) (pc := 25) dX4_heaviestSet_25  (by decide) rfl ?_
  refine aw_iconst (M := M_X4_heaviestSet) (pc := 27) dX4_heaviestSet_27 ⟨by decide, by decide⟩ ?_
  refine aw_istore (ls' := [(5, (0, 1)), (4, (0, 0)), (3, (0, 0)), (2, (0, (h1 o 1) - r4)), (1, (0, r2)), (0, vr o)]) (M := M_X4_heaviestSet) (pc := 28) dX4_heaviestSet_28  (by decide) rfl ?_
  exact aw_ls [5, 4, 3, 2, 1, 0] rfl hF
abbrev M_X9_areQuiet : Hd := (cX9_areQuiet, 2, RX9, (some .boolean), (2, 66), sc0)
def L_X9_areQuiet_2 (h : Mem) (v0 : Nat) (v1 : Int) (Q : Int → Mem → Prop) : Prop := AW M_X9_areQuiet 2 [(0, vr v0), (1, (0, v1))] [] h (qi Q)
def B_X9_areQuiet_2 (h : Mem) (v0 : Nat) (v1 : Int) (Q : Int → Mem → Prop) : Prop :=
  (((h v0 0) ≤ v1 → Q 1 h) ∧ (¬ ((h v0 0) ≤ v1) → (F_X9_isFree h v0 v1 (fun r2 h1 => ((¬ (r2 = 0) → (InR (v1 + 1) ∧ L_X9_areQuiet_2 h1 v0 (v1 + 1) Q)) ∧ (r2 = 0 → Q 0 h1))))))
set_option maxRecDepth 100000 in
set_option maxHeartbeats 4000000 in
theorem l_X9_areQuiet_2 {h : Mem} {v0 : Nat} {v1 : Int} {Q : Int → Mem → Prop} (hv0 : lay v0 = (0, 9)) (hF : B_X9_areQuiet_2 h v0 v1 Q) : L_X9_areQuiet_2 h v0 v1 Q := by
  unfold B_X9_areQuiet_2 at hF
  show AW M_X9_areQuiet 2 [(0, vr v0), (1, (0, v1))] [] h (qi Q)
  refine aw_iload_n (j := 1) (M := M_X9_areQuiet) (pc := 2) dX9_areQuiet_2 rfl rfl ?_
  refine aw_aload_n (j := 0) (M := M_X9_areQuiet) (pc := 3) dX9_areQuiet_3 rfl rfl ?_
  refine gf_X9_9 (M := M_X9_areQuiet) (pc := 4) rfl dX9_areQuiet_4 hv0 ?_
  refine aw_icmp_ge (tgt := 26) (M := M_X9_areQuiet) (pc := 7) dX9_areQuiet_7 rfl (fun hc => ?_) (fun hc => ?_)
  · have hF := hF.1 hc
    refine aw_iconst (M := M_X9_areQuiet) (pc := 26) dX9_areQuiet_26 ⟨by decide, by decide⟩ ?_
    exact aw_iretz (M := M_X9_areQuiet) (pc := 27) dX9_areQuiet_27 rfl (Or.inr rfl) ⟨_, rfl, hF⟩
  · have hF := hF.2 hc
    refine aw_aload_n (j := 0) (M := M_X9_areQuiet) (pc := 10) dX9_areQuiet_10 rfl rfl ?_
    refine aw_iload_n (j := 1) (M := M_X9_areQuiet) (pc := 11) dX9_areQuiet_11 rfl rfl ?_
    refine aw_cvi (as := [(0, v1)]) (st := []) (M := M_X9_areQuiet) (pc := 12) (f_X9_isFree hv0 hF) dX9_areQuiet_12 rfl (Or.inl ⟨_, _, _, hv0, rfl⟩) cy_X9_isFree ml_X9_63 (by decide) (by decide) (Nat.le_of_ble_eq_true rfl) (fun r2 h1 hF => ?_)
    refine aw_if_ne (tgt := 20) (M := M_X9_areQuiet) (pc := 15) dX9_areQuiet_15 rfl (fun hc => ?_) (fun hc => ?_)
    · have hF := hF.1 hc
      obtain ⟨o3, hF⟩ := hF
      refine aw_iinc (j := 1) (x := v1) (r := v1 + 1) (ls' := [(1, (0, v1 + 1)), (0, vr v0)]) (M := M_X9_areQuiet) (pc := 20) dX9_areQuiet_20 rfl rfl o3 (by decide) rfl ?_
      refine aw_goto (tgt := 2) (M := M_X9_areQuiet) (pc := 23) dX9_areQuiet_23 rfl ?_
      exact aw_ls [1, 0] rfl hF
    · have hF := hF.2 hc
      refine aw_iconst (M := M_X9_areQuiet) (pc := 18) dX9_areQuiet_18 ⟨by decide, by decide⟩ ?_
      exact aw_iretz (M := M_X9_areQuiet) (pc := 19) dX9_areQuiet_19 rfl (Or.inl rfl) ⟨_, rfl, hF⟩
def F_X9_areQuiet (h : Mem) (o : Nat) (Q : Int → Mem → Prop) : Prop :=
  L_X9_areQuiet_2 h o 0 Q
set_option maxRecDepth 100000 in
set_option maxHeartbeats 4000000 in
theorem f_X9_areQuiet {h : Mem} {o : Nat} {Q : Int → Mem → Prop} (ho : lay o = (0, 9)) (hF : F_X9_areQuiet h o Q) : Ct yX9_areQuiet cX9_areQuiet 2 (some .boolean) (2, 66) [vr o] h (qi Q) := by
  refine Ct.of np_RX9 (Nat.le_of_ble_eq_true rfl) ?_
  unfold F_X9_areQuiet at hF
  show AW M_X9_areQuiet 0 [(0, vr o)] [] h (qi Q)
  refine aw_iconst (M := M_X9_areQuiet) (pc := 0) dX9_areQuiet_0 ⟨by decide, by decide⟩ ?_
  refine aw_istore_n (ls' := [(1, (0, 0)), (0, vr o)]) (M := M_X9_areQuiet) (pc := 1) dX9_areQuiet_1 rfl (by decide) rfl ?_
  exact aw_ls [1, 0] rfl hF
abbrev M_X4_hoursTillQuiet : Hd := (cX4_hoursTillQuiet, 3, RX4, (some .int), (4, 116), sc0)
def L_X4_hoursTillQuiet_2 (h : Mem) (v0 : Nat) (v1 : Int) (v2 : Int) (Q : Int → Mem → Prop) : Prop := AW M_X4_hoursTillQuiet 2 [(0, vr v0), (1, (0, v1)), (2, (0, v2))] [] h (qi Q)
def B_X4_hoursTillQuiet_2 (h : Mem) (v0 : Nat) (v1 : Int) (v2 : Int) (Q : Int → Mem → Prop) : Prop :=
  ((v1 < v2 → Q (-1) h) ∧ (¬ (v1 < v2) → (F_X9_areQuiet h (v0 + 1) (fun r2 h1 => ((r2 = 0 → (F_X4_passHour h1 v0 (fun r4 h3 => (InR (v2 + 1) ∧ L_X4_hoursTillQuiet_2 h3 v0 v1 (v2 + 1) Q)))) ∧ (¬ (r2 = 0) → Q v2 h1))))))
set_option maxRecDepth 100000 in
set_option maxHeartbeats 4000000 in
theorem l_X4_hoursTillQuiet_2 {h : Mem} {v0 : Nat} {v1 : Int} {v2 : Int} {Q : Int → Mem → Prop} (hv0 : lay v0 = (0, 4)) (hF : B_X4_hoursTillQuiet_2 h v0 v1 v2 Q) : L_X4_hoursTillQuiet_2 h v0 v1 v2 Q := by
  unfold B_X4_hoursTillQuiet_2 at hF
  show AW M_X4_hoursTillQuiet 2 [(0, vr v0), (1, (0, v1)), (2, (0, v2))] [] h (qi Q)
  refine aw_iload_n (j := 2) (M := M_X4_hoursTillQuiet) (pc := 2) dX4_hoursTillQuiet_2 rfl rfl ?_
  refine aw_iload_n (j := 1) (M := M_X4_hoursTillQuiet) (pc := 3) dX4_hoursTillQuiet_3 rfl rfl ?_
  refine aw_icmp_gt (tgt := 30) (M := M_X4_hoursTillQuiet) (pc := 4) dX4_hoursTillQuiet_4 rfl (fun hc => ?_) (fun hc => ?_)
  · have hF := hF.1 hc
    refine aw_iconst (M := M_X4_hoursTillQuiet) (pc := 30) dX4_hoursTillQuiet_30 ⟨by decide, by decide⟩ ?_
    exact aw_ireti (M := M_X4_hoursTillQuiet) (pc := 31) dX4_hoursTillQuiet_31 rfl ⟨_, rfl, hF⟩
  · have hF := hF.2 hc
    refine aw_aload_n (j := 0) (M := M_X4_hoursTillQuiet) (pc := 7) dX4_hoursTillQuiet_7 rfl rfl ?_
    refine gf_X4_12 (M := M_X4_hoursTillQuiet) (pc := 8) rfl dX4_hoursTillQuiet_8 hv0 (r := v0 + 1) rfl ?_
    refine aw_cvi (as := []) (st := []) (M := M_X4_hoursTillQuiet) (pc := 11) (f_X9_areQuiet (ll_4_7 hv0) hF) dX4_hoursTillQuiet_11 rfl (Or.inl ⟨_, _, _, (ll_4_7 hv0), rfl⟩) cy_X9_areQuiet ml_X4_100 (by decide) (by decide) (Nat.le_of_ble_eq_true rfl) (fun r2 h1 hF => ?_)
    refine aw_if_eq (tgt := 19) (M := M_X4_hoursTillQuiet) (pc := 14) dX4_hoursTillQuiet_14 rfl (fun hc => ?_) (fun hc => ?_)
    · have hF := hF.1 hc
      refine aw_aload_n (j := 0) (M := M_X4_hoursTillQuiet) (pc := 19) dX4_hoursTillQuiet_19 rfl rfl ?_
      refine aw_cvi (as := []) (st := []) (M := M_X4_hoursTillQuiet) (pc := 20) (f_X4_passHour hv0 hF) dX4_hoursTillQuiet_20 rfl (Or.inl ⟨_, _, _, hv0, rfl⟩) cy_X4_passHour ml_X4_93 (by decide) (by decide) (Nat.le_of_ble_eq_true rfl) (fun r4 h3 hF => ?_)
      refine aw_pop (M := M_X4_hoursTillQuiet) (pc := 23) dX4_hoursTillQuiet_23 rfl ?_
      obtain ⟨o5, hF⟩ := hF
      refine aw_iinc (j := 2) (x := v2) (r := v2 + 1) (ls' := [(2, (0, v2 + 1)), (0, vr v0), (1, (0, v1))]) (M := M_X4_hoursTillQuiet) (pc := 24) dX4_hoursTillQuiet_24 rfl rfl o5 (by decide) rfl ?_
      refine aw_goto (tgt := 2) (M := M_X4_hoursTillQuiet) (pc := 27) dX4_hoursTillQuiet_27 rfl ?_
      exact aw_ls [1, 2, 0] rfl hF
    · have hF := hF.2 hc
      refine aw_iload_n (j := 2) (M := M_X4_hoursTillQuiet) (pc := 17) dX4_hoursTillQuiet_17 rfl rfl ?_
      exact aw_ireti (M := M_X4_hoursTillQuiet) (pc := 18) dX4_hoursTillQuiet_18 rfl ⟨_, rfl, hF⟩
def F_X4_hoursTillQuiet (h : Mem) (o : Nat) (a1 : Int) (Q : Int → Mem → Prop) : Prop :=
  L_X4_hoursTillQuiet_2 h o a1 0 Q
set_option maxRecDepth 100000 in
set_option maxHeartbeats 4000000 in
theorem f_X4_hoursTillQuiet {h : Mem} {o : Nat} {a1 : Int} {Q : Int → Mem → Prop} (ho : lay o = (0, 4)) (hF : F_X4_hoursTillQuiet h o a1 Q) : Ct yX4_hoursTillQuiet cX4_hoursTillQuiet 3 (some .int) (4, 116) [vr o, (0, a1)] h (qi Q) := by
  refine Ct.of np_RX4 (Nat.le_of_ble_eq_true rfl) ?_
  unfold F_X4_hoursTillQuiet at hF
  show AW M_X4_hoursTillQuiet 0 [(0, vr o), (1, (0, a1))] [] h (qi Q)
  refine aw_iconst (M := M_X4_hoursTillQuiet) (pc := 0) dX4_hoursTillQuiet_0 ⟨by decide, by decide⟩ ?_
  refine aw_istore_n (ls' := [(2, (0, 0)), (0, vr o), (1, (0, a1))]) (M := M_X4_hoursTillQuiet) (pc := 1) dX4_hoursTillQuiet_1 rfl (by decide) rfl ?_
  exact aw_ls [1, 2, 0] rfl hF
abbrev M_X5_wasTold : Hd := (cX5_wasTold, 2, RX5, (some .boolean), (1, 45), sc0)
def F_X5_wasTold (h : Mem) (a1 : Int) (Q : Int → Mem → Prop) : Prop :=
  ((¬ ((iand (ishr (h 33 2) a1) 1) = 1) → Q 0 h) ∧ ((iand (ishr (h 33 2) a1) 1) = 1 → Q 1 h))
set_option maxRecDepth 100000 in
set_option maxHeartbeats 4000000 in
theorem f_X5_wasTold {h : Mem} {a1 : Int} {Q : Int → Mem → Prop}  (hF : F_X5_wasTold h a1 Q) : Ct yX5_wasTold cX5_wasTold 2 (some .boolean) (1, 45) [vr 33, (0, a1)] h (qi Q) := by
  refine Ct.of np_RX5 (Nat.le_of_ble_eq_true rfl) ?_
  unfold F_X5_wasTold at hF
  show AW M_X5_wasTold 0 [(0, vr 33), (1, (0, a1))] [] h (qi Q)
  refine aw_aload_n (j := 0) (M := M_X5_wasTold) (pc := 0) dX5_wasTold_0 rfl rfl ?_
  refine gf_X5_19 (M := M_X5_wasTold) (pc := 1) rfl dX5_wasTold_1 rfl ?_
  refine aw_iload_n (j := 1) (M := M_X5_wasTold) (pc := 4) dX5_wasTold_4 rfl rfl ?_
  refine aw_ishr (M := M_X5_wasTold) (pc := 5) dX5_wasTold_5 ?_
  refine aw_iconst (M := M_X5_wasTold) (pc := 6) dX5_wasTold_6 ⟨by decide, by decide⟩ ?_
  refine aw_iand (M := M_X5_wasTold) (pc := 7) dX5_wasTold_7 ?_
  refine aw_iconst (M := M_X5_wasTold) (pc := 8) dX5_wasTold_8 ⟨by decide, by decide⟩ ?_
  refine aw_icmp_ne (tgt := 16) (M := M_X5_wasTold) (pc := 9) dX5_wasTold_9 rfl (fun hc => ?_) (fun hc => ?_)
  · have hF := hF.1 hc
    refine aw_iconst (M := M_X5_wasTold) (pc := 16) dX5_wasTold_16 ⟨by decide, by decide⟩ ?_
    exact aw_iretz (M := M_X5_wasTold) (pc := 17) dX5_wasTold_17 rfl (Or.inl rfl) ⟨_, rfl, hF⟩
  · have hF := hF.2 hc
    refine aw_iconst (M := M_X5_wasTold) (pc := 12) dX5_wasTold_12 ⟨by decide, by decide⟩ ?_
    refine aw_goto (tgt := 17) (M := M_X5_wasTold) (pc := 13) dX5_wasTold_13 rfl ?_
    exact aw_iretz (M := M_X5_wasTold) (pc := 17) dX5_wasTold_17 rfl (Or.inr rfl) ⟨_, rfl, hF⟩
abbrev M_X5_takeOnce : Hd := (cX5_takeOnce, 2, RX5, none, (4, 111), sc0)
def J_X5_takeOnce_16 (h : Mem) (v1 : Int) (Q : Mem → Prop) : Prop :=
  (∀ h6 : Mem, h6 = mset h 33 2 (ior (h 33 2) (ishl 1 v1)) → (h6 33 0 = (9 : Int) ∧ (F_X8_advance h6  (fun h8 => Q h8))))
set_option maxRecDepth 100000 in
set_option maxHeartbeats 4000000 in
theorem j_X5_takeOnce_16 {h : Mem} {v1 : Int} {Q : Mem → Prop}  (hF : J_X5_takeOnce_16 h v1 Q) : AW M_X5_takeOnce 16 [(0, vr 33), (1, (0, v1))] [] h (qv Q) := by
  unfold J_X5_takeOnce_16 at hF
  refine aw_aload_n (j := 0) (M := M_X5_takeOnce) (pc := 16) dX5_takeOnce_16 rfl rfl ?_
  refine aw_dup (M := M_X5_takeOnce) (pc := 17) dX5_takeOnce_17 rfl ?_
  refine gf_X5_19 (M := M_X5_takeOnce) (pc := 18) rfl dX5_takeOnce_18 rfl ?_
  refine aw_iconst (M := M_X5_takeOnce) (pc := 21) dX5_takeOnce_21 ⟨by decide, by decide⟩ ?_
  refine aw_iload_n (j := 1) (M := M_X5_takeOnce) (pc := 22) dX5_takeOnce_22 rfl rfl ?_
  refine aw_ishl (M := M_X5_takeOnce) (pc := 23) dX5_takeOnce_23 ?_
  refine aw_ior (M := M_X5_takeOnce) (pc := 24) dX5_takeOnce_24 ?_
  refine pf_X5_19 (M := M_X5_takeOnce) (pc := 25) rfl dX5_takeOnce_25 rfl ?_
  obtain ⟨h6, eh6⟩ : ∃ y : Mem, y = mset h 33 2 (ior (h 33 2) (ishl 1 v1)) := ⟨_, rfl⟩
  have hF := hF h6 eh6
  rw [← eh6]
  refine aw_aload_n (j := 0) (M := M_X5_takeOnce) (pc := 28) dX5_takeOnce_28 rfl rfl ?_
  obtain ⟨o7, hF⟩ := hF
  refine gf_X5_9 (M := M_X5_takeOnce) (pc := 29) rfl dX5_takeOnce_29 rfl ?_
  refine aw_ref (a := 9) o7 ?_
  refine aw_cvv (as := []) (st := []) (M := M_X5_takeOnce) (pc := 32) (f_X8_advance  hF) dX5_takeOnce_32 rfl (Or.inl ⟨_, _, _, rfl, rfl⟩) cy_X8_advance ml_X5_77 (by decide) (by decide) (Nat.le_of_ble_eq_true rfl) (fun h8 hF => ?_)
  exact aw_ret (M := M_X5_takeOnce) (pc := 35) dX5_takeOnce_35 rfl ⟨rfl, hF⟩
def F_X5_takeOnce (h : Mem) (a1 : Int) (Q : Mem → Prop) : Prop :=
  (F_X5_wasTold h a1 (fun r2 h1 => ((r2 = 0 → J_X5_takeOnce_16 h1 a1 Q) ∧ (¬ (r2 = 0) → (h1 33 0 = (9 : Int) ∧ (F_X8_fail h1 5 (fun h4 => J_X5_takeOnce_16 h4 a1 Q)))))))
set_option maxRecDepth 100000 in
set_option maxHeartbeats 4000000 in
theorem f_X5_takeOnce {h : Mem} {a1 : Int} {Q : Mem → Prop}  (hF : F_X5_takeOnce h a1 Q) : Ct yX5_takeOnce cX5_takeOnce 2 none (4, 111) [vr 33, (0, a1)] h (qv Q) := by
  refine Ct.of np_RX5 (Nat.le_of_ble_eq_true rfl) ?_
  unfold F_X5_takeOnce at hF
  show AW M_X5_takeOnce 0 [(0, vr 33), (1, (0, a1))] [] h (qv Q)
  refine aw_aload_n (j := 0) (M := M_X5_takeOnce) (pc := 0) dX5_takeOnce_0 rfl rfl ?_
  refine aw_iload_n (j := 1) (M := M_X5_takeOnce) (pc := 1) dX5_takeOnce_1 rfl rfl ?_
  refine aw_cvi (as := [(0, a1)]) (st := []) (M := M_X5_takeOnce) (pc := 2) (f_X5_wasTold  hF) dX5_takeOnce_2 rfl (Or.inl ⟨_, _, _, rfl, rfl⟩) cy_X5_wasTold ml_X5_73 (by decide) (by decide) (Nat.le_of_ble_eq_true rfl) (fun r2 h1 hF => ?_)
  refine aw_if_eq (tgt := 16) (M := M_X5_takeOnce) (pc := 5) dX5_takeOnce_5 rfl (fun hc => ?_) (fun hc => ?_)
  · have hF := hF.1 hc
    exact aw_ls [0, 1] rfl (j_X5_takeOnce_16  hF)
  · have hF := hF.2 hc
    refine aw_aload_n (j := 0) (M := M_X5_takeOnce) (pc := 8) dX5_takeOnce_8 rfl rfl ?_
    obtain ⟨o3, hF⟩ := hF
    refine gf_X5_9 (M := M_X5_takeOnce) (pc := 9) rfl dX5_takeOnce_9 rfl ?_
    refine aw_ref (a := 9) o3 ?_
    refine aw_iconst (M := M_X5_takeOnce) (pc := 12) dX5_takeOnce_12 ⟨by decide, by decide⟩ ?_
    refine aw_cvv (as := [(0, 5)]) (st := []) (M := M_X5_takeOnce) (pc := 13) (f_X8_fail  hF) dX5_takeOnce_13 rfl (Or.inl ⟨_, _, _, rfl, rfl⟩) cy_X8_fail ml_X5_67 (by decide) (by decide) (Nat.le_of_ble_eq_true rfl) (fun h4 hF => ?_)
    exact aw_ls [0, 1] rfl (j_X5_takeOnce_16  hF)
abbrev M_X5_readLong : Hd := (cX5_readLong, 1, RX5, none, (5, 134), sc0)
def J_X5_readLong_42 (h : Mem)  (Q : Mem → Prop) : Prop :=
  (F_X5_takeOnce h 0 (fun h8 => (∃ r10 : Nat, h8 33 1 = (r10 : Int) ∧ lay r10 = (0, 4) ∧ (h8 33 0 = (9 : Int) ∧ (F_X8_takeNumberOf h8 2 16 (fun r13 h12 => (∀ h14 : Mem, h14 = mset h12 r10 0 r13 → Q h14)))))))
set_option maxRecDepth 100000 in
set_option maxHeartbeats 4000000 in
theorem j_X5_readLong_42 {h : Mem}  {Q : Mem → Prop}  (hF : J_X5_readLong_42 h  Q) : AW M_X5_readLong 42 [(0, vr 33)] [] h (qv Q) := by
  unfold J_X5_readLong_42 at hF
  refine aw_aload_n (j := 0) (M := M_X5_readLong) (pc := 42) dX5_readLong_42 rfl rfl ?_
  refine aw_iconst (M := M_X5_readLong) (pc := 43) dX5_readLong_43 ⟨by decide, by decide⟩ ?_
  refine aw_cvv (as := [(0, 0)]) (st := []) (M := M_X5_readLong) (pc := 44) (f_X5_takeOnce  hF) dX5_readLong_44 rfl (Or.inl ⟨_, _, _, rfl, rfl⟩) cy_X5_takeOnce ml_X5_44 (by decide) (by decide) (Nat.le_of_ble_eq_true rfl) (fun h8 hF => ?_)
  refine aw_aload_n (j := 0) (M := M_X5_readLong) (pc := 47) dX5_readLong_47 rfl rfl ?_
  refine gf_X5_15 (M := M_X5_readLong) (pc := 48) rfl dX5_readLong_48 rfl ?_
  obtain ⟨r10, er10, lr10, hF⟩ := hF
  refine aw_ref (a := r10) er10 ?_
  refine aw_aload_n (j := 0) (M := M_X5_readLong) (pc := 51) dX5_readLong_51 rfl rfl ?_
  obtain ⟨o11, hF⟩ := hF
  refine gf_X5_9 (M := M_X5_readLong) (pc := 52) rfl dX5_readLong_52 rfl ?_
  refine aw_ref (a := 9) o11 ?_
  refine aw_iconst (M := M_X5_readLong) (pc := 55) dX5_readLong_55 ⟨by decide, by decide⟩ ?_
  refine aw_bipush (M := M_X5_readLong) (pc := 56) dX5_readLong_56 ⟨rfl, ⟨by decide, by decide⟩⟩ ?_
  refine aw_cvi (as := [(0, 2), (0, 16)]) (st := [vr r10]) (M := M_X5_readLong) (pc := 58) (f_X8_takeNumberOf  hF) dX5_readLong_58 rfl (Or.inl ⟨_, _, _, rfl, rfl⟩) cy_X8_takeNumberOf ml_X5_48 (by decide) (by decide) (Nat.le_of_ble_eq_true rfl) (fun r13 h12 hF => ?_)
  refine pf_X5_96 (M := M_X5_readLong) (pc := 61) rfl dX5_readLong_61 lr10 ?_
  obtain ⟨h14, eh14⟩ : ∃ y : Mem, y = mset h12 r10 0 r13 := ⟨_, rfl⟩
  have hF := hF h14 eh14
  rw [← eh14]
  exact aw_ret (M := M_X5_readLong) (pc := 64) dX5_readLong_64 rfl ⟨rfl, hF⟩
def J_X5_readLong_34 (h : Mem)  (Q : Mem → Prop) : Prop :=
  (h 33 0 = (9 : Int) ∧ (F_X8_fail h 5 (fun h6 => J_X5_readLong_42 h6  Q)))
set_option maxRecDepth 100000 in
set_option maxHeartbeats 4000000 in
theorem j_X5_readLong_34 {h : Mem}  {Q : Mem → Prop}  (hF : J_X5_readLong_34 h  Q) : AW M_X5_readLong 34 [(0, vr 33)] [] h (qv Q) := by
  unfold J_X5_readLong_34 at hF
  refine aw_aload_n (j := 0) (M := M_X5_readLong) (pc := 34) dX5_readLong_34 rfl rfl ?_
  obtain ⟨o5, hF⟩ := hF
  refine gf_X5_9 (M := M_X5_readLong) (pc := 35) rfl dX5_readLong_35 rfl ?_
  refine aw_ref (a := 9) o5 ?_
  refine aw_iconst (M := M_X5_readLong) (pc := 38) dX5_readLong_38 ⟨by decide, by decide⟩ ?_
  refine aw_cvv (as := [(0, 5)]) (st := []) (M := M_X5_readLong) (pc := 39) (f_X8_fail  hF) dX5_readLong_39 rfl (Or.inl ⟨_, _, _, rfl, rfl⟩) cy_X8_fail ml_X5_67 (by decide) (by decide) (Nat.le_of_ble_eq_true rfl) (fun h6 hF => ?_)
  exact aw_ls [0] rfl (j_X5_readLong_42  hF)
def F_X5_readLong (h : Mem)  (Q : Mem → Prop) : Prop :=
  (F_X5_wasTold h 3 (fun r2 h1 => ((¬ (r2 = 0) → J_X5_readLong_34 h1  Q) ∧ (r2 = 0 → (∃ r3 : Nat, h1 33 1 = (r3 : Int) ∧ lay r3 = (0, 4) ∧ ((0 < (h1 (r3 + 1) 0) → J_X5_readLong_34 h1  Q) ∧ (¬ (0 < (h1 (r3 + 1) 0)) → (∃ r4 : Nat, h1 33 1 = (r4 : Int) ∧ lay r4 = (0, 4) ∧ (((h1 (r4 + 10) 0) ≤ 0 → J_X5_readLong_42 h1  Q) ∧ (¬ ((h1 (r4 + 10) 0) ≤ 0) → J_X5_readLong_34 h1  Q))))))))))
set_option maxRecDepth 100000 in
set_option maxHeartbeats 4000000 in
theorem f_X5_readLong {h : Mem}  {Q : Mem → Prop}  (hF : F_X5_readLong h  Q) : Ct yX5_readLong cX5_readLong 1 none (5, 134) [vr 33] h (qv Q) := by
  refine Ct.of np_RX5 (Nat.le_of_ble_eq_true rfl) ?_
  unfold F_X5_readLong at hF
  show AW M_X5_readLong 0 [(0, vr 33)] [] h (qv Q)
  refine aw_aload_n (j := 0) (M := M_X5_readLong) (pc := 0) dX5_readLong_0 rfl rfl ?_
  refine aw_iconst (M := M_X5_readLong) (pc := 1) dX5_readLong_1 ⟨by decide, by decide⟩ ?_
  refine aw_cvi (as := [(0, 3)]) (st := []) (M := M_X5_readLong) (pc := 2) (f_X5_wasTold  hF) dX5_readLong_2 rfl (Or.inl ⟨_, _, _, rfl, rfl⟩) cy_X5_wasTold ml_X5_73 (by decide) (by decide) (Nat.le_of_ble_eq_true rfl) (fun r2 h1 hF => ?_)
  refine aw_if_ne (tgt := 34) (M := M_X5_readLong) (pc := 5) dX5_readLong_5 rfl (fun hc => ?_) (fun hc => ?_)
  · have hF := hF.1 hc
    exact aw_ls [0] rfl (j_X5_readLong_34  hF)
  · have hF := hF.2 hc
    refine aw_aload_n (j := 0) (M := M_X5_readLong) (pc := 8) dX5_readLong_8 rfl rfl ?_
    refine gf_X5_15 (M := M_X5_readLong) (pc := 9) rfl dX5_readLong_9 rfl ?_
    obtain ⟨r3, er3, lr3, hF⟩ := hF
    refine aw_ref (a := r3) er3 ?_
    refine gf_X5_80 (M := M_X5_readLong) (pc := 12) rfl dX5_readLong_12 lr3 (r := r3 + 1) rfl ?_
    refine gf_X5_84 (M := M_X5_readLong) (pc := 15) rfl dX5_readLong_15 (ll_4_7 lr3) ?_
    refine aw_if_gt (tgt := 34) (M := M_X5_readLong) (pc := 18) dX5_readLong_18 rfl (fun hc => ?_) (fun hc => ?_)
    · have hF := hF.1 hc
      exact aw_ls [0] rfl (j_X5_readLong_34  hF)
    · have hF := hF.2 hc
      refine aw_aload_n (j := 0) (M := M_X5_readLong) (pc := 21) dX5_readLong_21 rfl rfl ?_
      refine gf_X5_15 (M := M_X5_readLong) (pc := 22) rfl dX5_readLong_22 rfl ?_
      obtain ⟨r4, er4, lr4, hF⟩ := hF
      refine aw_ref (a := r4) er4 ?_
      refine gf_X5_89 (M := M_X5_readLong) (pc := 25) rfl dX5_readLong_25 lr4 (r := r4 + 10) rfl ?_
      refine gf_X5_93 (M := M_X5_readLong) (pc := 28) rfl dX5_readLong_28 (ll_4_8 lr4) ?_
      refine aw_if_le (tgt := 42) (M := M_X5_readLong) (pc := 31) dX5_readLong_31 rfl (fun hc => ?_) (fun hc => ?_)
      · have hF := hF.1 hc
        exact aw_ls [0] rfl (j_X5_readLong_42  hF)
      · have hF := hF.2 hc
        exact aw_ls [0] rfl (j_X5_readLong_34  hF)
abbrev M_X5_takeKind : Hd := (cX5_takeKind, 2, RX5, (some .int), (4, 111), sc0)
def J_X5_takeKind_32 (h : Mem) (v1 : Int) (Q : Int → Mem → Prop) : Prop :=
  (h 33 0 = (9 : Int) ∧ (F_X8_advance h  (fun h8 => ((¬ (v1 = 6) → ((¬ (v1 = 4) → Q 1 h8) ∧ (v1 = 4 → Q 0 h8))) ∧ (v1 = 6 → Q 2 h8)))))
set_option maxRecDepth 100000 in
set_option maxHeartbeats 4000000 in
theorem j_X5_takeKind_32 {h : Mem} {v1 : Int} {Q : Int → Mem → Prop}  (hF : J_X5_takeKind_32 h v1 Q) : AW M_X5_takeKind 32 [(0, vr 33), (1, (0, v1))] [] h (qi Q) := by
  unfold J_X5_takeKind_32 at hF
  refine aw_aload_n (j := 0) (M := M_X5_takeKind) (pc := 32) dX5_takeKind_32 rfl rfl ?_
  obtain ⟨o7, hF⟩ := hF
  refine gf_X5_9 (M := M_X5_takeKind) (pc := 33) rfl dX5_takeKind_33 rfl ?_
  refine aw_ref (a := 9) o7 ?_
  refine aw_cvv (as := []) (st := []) (M := M_X5_takeKind) (pc := 36) (f_X8_advance  hF) dX5_takeKind_36 rfl (Or.inl ⟨_, _, _, rfl, rfl⟩) cy_X8_advance ml_X5_77 (by decide) (by decide) (Nat.le_of_ble_eq_true rfl) (fun h8 hF => ?_)
  refine aw_iload_n (j := 1) (M := M_X5_takeKind) (pc := 39) dX5_takeKind_39 rfl rfl ?_
  refine aw_bipush (M := M_X5_takeKind) (pc := 40) dX5_takeKind_40 ⟨rfl, ⟨by decide, by decide⟩⟩ ?_
  refine aw_icmp_ne (tgt := 47) (M := M_X5_takeKind) (pc := 42) dX5_takeKind_42 rfl (fun hc => ?_) (fun hc => ?_)
  · have hF := hF.1 hc
    refine aw_iload_n (j := 1) (M := M_X5_takeKind) (pc := 47) dX5_takeKind_47 rfl rfl ?_
    refine aw_iconst (M := M_X5_takeKind) (pc := 48) dX5_takeKind_48 ⟨by decide, by decide⟩ ?_
    refine aw_icmp_ne (tgt := 56) (M := M_X5_takeKind) (pc := 49) dX5_takeKind_49 rfl (fun hc => ?_) (fun hc => ?_)
    · have hF := hF.1 hc
      refine aw_iconst (M := M_X5_takeKind) (pc := 56) dX5_takeKind_56 ⟨by decide, by decide⟩ ?_
      exact aw_ireti (M := M_X5_takeKind) (pc := 57) dX5_takeKind_57 rfl ⟨_, rfl, hF⟩
    · have hF := hF.2 hc
      refine aw_iconst (M := M_X5_takeKind) (pc := 52) dX5_takeKind_52 ⟨by decide, by decide⟩ ?_
      refine aw_goto (tgt := 57) (M := M_X5_takeKind) (pc := 53) dX5_takeKind_53 rfl ?_
      exact aw_ireti (M := M_X5_takeKind) (pc := 57) dX5_takeKind_57 rfl ⟨_, rfl, hF⟩
  · have hF := hF.2 hc
    refine aw_iconst (M := M_X5_takeKind) (pc := 45) dX5_takeKind_45 ⟨by decide, by decide⟩ ?_
    exact aw_ireti (M := M_X5_takeKind) (pc := 46) dX5_takeKind_46 rfl ⟨_, rfl, hF⟩
def F_X5_takeKind (h : Mem)  (Q : Int → Mem → Prop) : Prop :=
  (h 33 0 = (9 : Int) ∧ (F_X8_keyword h  (fun r3 h2 => ((r3 = 4 → J_X5_takeKind_32 h2 r3 Q) ∧ (¬ (r3 = 4) → ((r3 = 5 → J_X5_takeKind_32 h2 r3 Q) ∧ (¬ (r3 = 5) → ((r3 = 6 → J_X5_takeKind_32 h2 r3 Q) ∧ (¬ (r3 = 6) → (h2 33 0 = (9 : Int) ∧ (F_X8_fail h2 2 (fun h5 => J_X5_takeKind_32 h5 r3 Q))))))))))))
set_option maxRecDepth 100000 in
set_option maxHeartbeats 4000000 in
theorem f_X5_takeKind {h : Mem}  {Q : Int → Mem → Prop}  (hF : F_X5_takeKind h  Q) : Ct yX5_takeKind cX5_takeKind 2 (some .int) (4, 111) [vr 33] h (qi Q) := by
  refine Ct.of np_RX5 (Nat.le_of_ble_eq_true rfl) ?_
  unfold F_X5_takeKind at hF
  show AW M_X5_takeKind 0 [(0, vr 33)] [] h (qi Q)
  refine aw_aload_n (j := 0) (M := M_X5_takeKind) (pc := 0) dX5_takeKind_0 rfl rfl ?_
  obtain ⟨o1, hF⟩ := hF
  refine gf_X5_9 (M := M_X5_takeKind) (pc := 1) rfl dX5_takeKind_1 rfl ?_
  refine aw_ref (a := 9) o1 ?_
  refine aw_cvi (as := []) (st := []) (M := M_X5_takeKind) (pc := 4) (f_X8_keyword  hF) dX5_takeKind_4 rfl (Or.inl ⟨_, _, _, rfl, rfl⟩) cy_X8_keyword ml_X5_37 (by decide) (by decide) (Nat.le_of_ble_eq_true rfl) (fun r3 h2 hF => ?_)
  refine aw_istore_n (ls' := [(1, (0, r3)), (0, vr 33)]) (M := M_X5_takeKind) (pc := 7) dX5_takeKind_7 rfl (by decide) rfl ?_
  refine aw_iload_n (j := 0) (M := M_X5_takeKind) (pc := 8) dX5_takeKind_8 rfl rfl ?_
  refine aw_iconst (M := M_X5_takeKind) (pc := 9) dX5_takeKind_9 ⟨by decide, by decide⟩ ?_
  refine aw_icmp_eq (tgt := 32) (M := M_X5_takeKind) (pc := 10) dX5_takeKind_10 rfl (fun hc => ?_) (fun hc => ?_)
  · have hF := hF.1 hc
    exact aw_ls [1, 0] rfl (j_X5_takeKind_32  hF)
  · have hF := hF.2 hc
    refine aw_iload_n (j := 0) (M := M_X5_takeKind) (pc := 13) dX5_takeKind_13 rfl rfl ?_
    refine aw_iconst (M := M_X5_takeKind) (pc := 14) dX5_takeKind_14 ⟨by decide, by decide⟩ ?_
    refine aw_icmp_eq (tgt := 32) (M := M_X5_takeKind) (pc := 15) dX5_takeKind_15 rfl (fun hc => ?_) (fun hc => ?_)
    · have hF := hF.1 hc
      exact aw_ls [1, 0] rfl (j_X5_takeKind_32  hF)
    · have hF := hF.2 hc
      refine aw_iload_n (j := 0) (M := M_X5_takeKind) (pc := 18) dX5_takeKind_18 rfl rfl ?_
      refine aw_bipush (M := M_X5_takeKind) (pc := 19) dX5_takeKind_19 ⟨rfl, ⟨by decide, by decide⟩⟩ ?_
      refine aw_icmp_eq (tgt := 32) (M := M_X5_takeKind) (pc := 21) dX5_takeKind_21 rfl (fun hc => ?_) (fun hc => ?_)
      · have hF := hF.1 hc
        exact aw_ls [1, 0] rfl (j_X5_takeKind_32  hF)
      · have hF := hF.2 hc
        refine aw_aload_n (j := 1) (M := M_X5_takeKind) (pc := 24) dX5_takeKind_24 rfl rfl ?_
        obtain ⟨o4, hF⟩ := hF
        refine gf_X5_9 (M := M_X5_takeKind) (pc := 25) rfl dX5_takeKind_25 rfl ?_
        refine aw_ref (a := 9) o4 ?_
        refine aw_iconst (M := M_X5_takeKind) (pc := 28) dX5_takeKind_28 ⟨by decide, by decide⟩ ?_
        refine aw_cvv (as := [(0, 2)]) (st := []) (M := M_X5_takeKind) (pc := 29) (f_X8_fail  hF) dX5_takeKind_29 rfl (Or.inl ⟨_, _, _, rfl, rfl⟩) cy_X8_fail ml_X5_67 (by decide) (by decide) (Nat.le_of_ble_eq_true rfl) (fun h5 hF => ?_)
        exact aw_ls [1, 0] rfl (j_X5_takeKind_32  hF)
abbrev M_X5_takeNewName : Hd := (cX5_takeNewName, 3, RX5, (some .long), (4, 111), sc0)
def F_X5_takeNewName (h : Mem)  (Q : Int → Mem → Prop) : Prop :=
  (h 33 0 = (9 : Int) ∧ (F_X8_nameHere h  (fun r3 h2 => (∃ r4 : Nat, h2 33 1 = (r4 : Int) ∧ lay r4 = (0, 4) ∧ (F_X9_numberOf h2 (r4 + 1) r3 (fun r6 h5 => ((¬ (r6 = (-1)) → (h5 33 0 = (9 : Int) ∧ (F_X8_fail h5 3 (fun h8 => (h8 33 0 = (9 : Int) ∧ (F_X8_advance h8  (fun h11 => Q r3 h11))))))) ∧ (r6 = (-1) → (∃ r13 : Nat, h5 33 1 = (r13 : Int) ∧ lay r13 = (0, 4) ∧ (F_X7_numberOf h5 (r13 + 10) r3 (fun r15 h14 => ((r15 = (-1) → (h14 33 0 = (9 : Int) ∧ (F_X8_advance h14  (fun h17 => Q r3 h17)))) ∧ (¬ (r15 = (-1)) → (h14 33 0 = (9 : Int) ∧ (F_X8_fail h14 3 (fun h20 => (h20 33 0 = (9 : Int) ∧ (F_X8_advance h20  (fun h23 => Q r3 h23)))))))))))))))))))
set_option maxRecDepth 100000 in
set_option maxHeartbeats 4000000 in
theorem f_X5_takeNewName {h : Mem}  {Q : Int → Mem → Prop}  (hF : F_X5_takeNewName h  Q) : Ct yX5_takeNewName cX5_takeNewName 3 (some .long) (4, 111) [vr 33] h (ql Q) := by
  refine Ct.of np_RX5 (Nat.le_of_ble_eq_true rfl) ?_
  unfold F_X5_takeNewName at hF
  show AW M_X5_takeNewName 0 [(0, vr 33)] [] h (ql Q)
  refine aw_aload_n (j := 0) (M := M_X5_takeNewName) (pc := 0) dX5_takeNewName_0 rfl rfl ?_
  obtain ⟨o1, hF⟩ := hF
  refine gf_X5_9 (M := M_X5_takeNewName) (pc := 1) rfl dX5_takeNewName_1 rfl ?_
  refine aw_ref (a := 9) o1 ?_
  refine aw_cvl (as := []) (st := []) (M := M_X5_takeNewName) (pc := 4) (f_X8_nameHere  hF) dX5_takeNewName_4 rfl (Or.inl ⟨_, _, _, rfl, rfl⟩) cy_X8_nameHere ml_X5_130 (by decide) (by decide) (Nat.le_of_ble_eq_true rfl) (fun r3 h2 hF => ?_)
  refine aw_lstore_n (ls' := [(1, (1, r3)), (0, vr 33)]) (M := M_X5_takeNewName) (pc := 7) dX5_takeNewName_7 rfl (by decide) rfl ?_
  refine aw_aload_n (j := 1) (M := M_X5_takeNewName) (pc := 8) dX5_takeNewName_8 rfl rfl ?_
  refine gf_X5_15 (M := M_X5_takeNewName) (pc := 9) rfl dX5_takeNewName_9 rfl ?_
  obtain ⟨r4, er4, lr4, hF⟩ := hF
  refine aw_ref (a := r4) er4 ?_
  refine gf_X5_80 (M := M_X5_takeNewName) (pc := 12) rfl dX5_takeNewName_12 lr4 (r := r4 + 1) rfl ?_
  refine aw_lload_n (j := 0) (M := M_X5_takeNewName) (pc := 15) dX5_takeNewName_15 rfl rfl ?_
  refine aw_cvi (as := [(1, r3)]) (st := []) (M := M_X5_takeNewName) (pc := 16) (f_X9_numberOf (ll_4_7 lr4) hF) dX5_takeNewName_16 rfl (Or.inl ⟨_, _, _, (ll_4_7 lr4), rfl⟩) cy_X9_numberOf ml_X5_133 (by decide) (by decide) (Nat.le_of_ble_eq_true rfl) (fun r6 h5 hF => ?_)
  refine aw_iconst (M := M_X5_takeNewName) (pc := 19) dX5_takeNewName_19 ⟨by decide, by decide⟩ ?_
  refine aw_icmp_ne (tgt := 38) (M := M_X5_takeNewName) (pc := 20) dX5_takeNewName_20 rfl (fun hc => ?_) (fun hc => ?_)
  · have hF := hF.1 hc
    refine aw_aload_n (j := 1) (M := M_X5_takeNewName) (pc := 38) dX5_takeNewName_38 rfl rfl ?_
    obtain ⟨o7, hF⟩ := hF
    refine gf_X5_9 (M := M_X5_takeNewName) (pc := 39) rfl dX5_takeNewName_39 rfl ?_
    refine aw_ref (a := 9) o7 ?_
    refine aw_iconst (M := M_X5_takeNewName) (pc := 42) dX5_takeNewName_42 ⟨by decide, by decide⟩ ?_
    refine aw_cvv (as := [(0, 3)]) (st := []) (M := M_X5_takeNewName) (pc := 43) (f_X8_fail  hF) dX5_takeNewName_43 rfl (Or.inl ⟨_, _, _, rfl, rfl⟩) cy_X8_fail ml_X5_67 (by decide) (by decide) (Nat.le_of_ble_eq_true rfl) (fun h8 hF => ?_)
    refine aw_aload_n (j := 1) (M := M_X5_takeNewName) (pc := 46) dX5_takeNewName_46 rfl rfl ?_
    obtain ⟨o10, hF⟩ := hF
    refine gf_X5_9 (M := M_X5_takeNewName) (pc := 47) rfl dX5_takeNewName_47 rfl ?_
    refine aw_ref (a := 9) o10 ?_
    refine aw_cvv (as := []) (st := []) (M := M_X5_takeNewName) (pc := 50) (f_X8_advance  hF) dX5_takeNewName_50 rfl (Or.inl ⟨_, _, _, rfl, rfl⟩) cy_X8_advance ml_X5_77 (by decide) (by decide) (Nat.le_of_ble_eq_true rfl) (fun h11 hF => ?_)
    refine aw_lload_n (j := 0) (M := M_X5_takeNewName) (pc := 53) dX5_takeNewName_53 rfl rfl ?_
    exact aw_lret (M := M_X5_takeNewName) (pc := 54) dX5_takeNewName_54 rfl ⟨_, rfl, hF⟩
  · have hF := hF.2 hc
    refine aw_aload_n (j := 1) (M := M_X5_takeNewName) (pc := 23) dX5_takeNewName_23 rfl rfl ?_
    refine gf_X5_15 (M := M_X5_takeNewName) (pc := 24) rfl dX5_takeNewName_24 rfl ?_
    obtain ⟨r13, er13, lr13, hF⟩ := hF
    refine aw_ref (a := r13) er13 ?_
    refine gf_X5_89 (M := M_X5_takeNewName) (pc := 27) rfl dX5_takeNewName_27 lr13 (r := r13 + 10) rfl ?_
    refine aw_lload_n (j := 0) (M := M_X5_takeNewName) (pc := 30) dX5_takeNewName_30 rfl rfl ?_
    refine aw_cvi (as := [(1, r3)]) (st := []) (M := M_X5_takeNewName) (pc := 31) (f_X7_numberOf (ll_4_8 lr13) hF) dX5_takeNewName_31 rfl (Or.inl ⟨_, _, _, (ll_4_8 lr13), rfl⟩) cy_X7_numberOf ml_X5_137 (by decide) (by decide) (Nat.le_of_ble_eq_true rfl) (fun r15 h14 hF => ?_)
    refine aw_iconst (M := M_X5_takeNewName) (pc := 34) dX5_takeNewName_34 ⟨by decide, by decide⟩ ?_
    refine aw_icmp_eq (tgt := 46) (M := M_X5_takeNewName) (pc := 35) dX5_takeNewName_35 rfl (fun hc => ?_) (fun hc => ?_)
    · have hF := hF.1 hc
      refine aw_aload_n (j := 1) (M := M_X5_takeNewName) (pc := 46) dX5_takeNewName_46 rfl rfl ?_
      obtain ⟨o16, hF⟩ := hF
      refine gf_X5_9 (M := M_X5_takeNewName) (pc := 47) rfl dX5_takeNewName_47 rfl ?_
      refine aw_ref (a := 9) o16 ?_
      refine aw_cvv (as := []) (st := []) (M := M_X5_takeNewName) (pc := 50) (f_X8_advance  hF) dX5_takeNewName_50 rfl (Or.inl ⟨_, _, _, rfl, rfl⟩) cy_X8_advance ml_X5_77 (by decide) (by decide) (Nat.le_of_ble_eq_true rfl) (fun h17 hF => ?_)
      refine aw_lload_n (j := 0) (M := M_X5_takeNewName) (pc := 53) dX5_takeNewName_53 rfl rfl ?_
      exact aw_lret (M := M_X5_takeNewName) (pc := 54) dX5_takeNewName_54 rfl ⟨_, rfl, hF⟩
    · have hF := hF.2 hc
      refine aw_aload_n (j := 1) (M := M_X5_takeNewName) (pc := 38) dX5_takeNewName_38 rfl rfl ?_
      obtain ⟨o19, hF⟩ := hF
      refine gf_X5_9 (M := M_X5_takeNewName) (pc := 39) rfl dX5_takeNewName_39 rfl ?_
      refine aw_ref (a := 9) o19 ?_
      refine aw_iconst (M := M_X5_takeNewName) (pc := 42) dX5_takeNewName_42 ⟨by decide, by decide⟩ ?_
      refine aw_cvv (as := [(0, 3)]) (st := []) (M := M_X5_takeNewName) (pc := 43) (f_X8_fail  hF) dX5_takeNewName_43 rfl (Or.inl ⟨_, _, _, rfl, rfl⟩) cy_X8_fail ml_X5_67 (by decide) (by decide) (Nat.le_of_ble_eq_true rfl) (fun h20 hF => ?_)
      refine aw_aload_n (j := 1) (M := M_X5_takeNewName) (pc := 46) dX5_takeNewName_46 rfl rfl ?_
      obtain ⟨o22, hF⟩ := hF
      refine gf_X5_9 (M := M_X5_takeNewName) (pc := 47) rfl dX5_takeNewName_47 rfl ?_
      refine aw_ref (a := 9) o22 ?_
      refine aw_cvv (as := []) (st := []) (M := M_X5_takeNewName) (pc := 50) (f_X8_advance  hF) dX5_takeNewName_50 rfl (Or.inl ⟨_, _, _, rfl, rfl⟩) cy_X8_advance ml_X5_77 (by decide) (by decide) (Nat.le_of_ble_eq_true rfl) (fun h23 hF => ?_)
      refine aw_lload_n (j := 0) (M := M_X5_takeNewName) (pc := 53) dX5_takeNewName_53 rfl rfl ?_
      exact aw_lret (M := M_X5_takeNewName) (pc := 54) dX5_takeNewName_54 rfl ⟨_, rfl, hF⟩
abbrev M_X7_addMill : Hd := (cX7_addMill, 5, RX7, (some .int), (1, 45), sc0)
def F_X7_addMill (h : Mem) (o : Nat) (a1 : Int) (a2 : Int) (a3 : Int) (Q : Int → Mem → Prop) : Prop :=
  (((h o 0) < 4 → ((0 ≤ (h o 0) ∧ (h o 0) < 4) ∧ (∀ h2 : Mem, h2 = mset h (o + 1) (h o 0).toNat a1 → ((0 ≤ (h2 o 0) ∧ (h2 o 0) < 4) ∧ (∀ h4 : Mem, h4 = mset h2 (o + 2) (h2 o 0).toNat a2 → ((0 ≤ (h4 o 0) ∧ (h4 o 0) < 4) ∧ (∀ h6 : Mem, h6 = mset h4 (o + 3) (h4 o 0).toNat a3 → ((0 ≤ (h6 o 0) ∧ (h6 o 0) < 4) ∧ (∀ h8 : Mem, h8 = mset h6 (o + 4) (h6 o 0).toNat 0 → (InR ((h8 o 0) + 1) ∧ (∀ h10 : Mem, h10 = mset h8 o 0 ((h8 o 0) + 1) → (InR ((h10 o 0) - 1) ∧ Q ((h10 o 0) - 1) h10)))))))))))) ∧ (¬ ((h o 0) < 4) → Q (-1) h))
set_option maxRecDepth 100000 in
set_option maxHeartbeats 4000000 in
theorem f_X7_addMill {h : Mem} {o : Nat} {a1 : Int} {a2 : Int} {a3 : Int} {Q : Int → Mem → Prop} (ho : lay o = (0, 7)) (hF : F_X7_addMill h o a1 a2 a3 Q) : Ct yX7_addMill cX7_addMill 5 (some .int) (1, 45) [vr o, (1, a1), (0, a2), (0, a3)] h (qi Q) := by
  refine Ct.of np_RX7 (Nat.le_of_ble_eq_true rfl) ?_
  unfold F_X7_addMill at hF
  show AW M_X7_addMill 0 [(0, vr o), (1, (1, a1)), (3, (0, a2)), (4, (0, a3))] [] h (qi Q)
  refine aw_aload_n (j := 0) (M := M_X7_addMill) (pc := 0) dX7_addMill_0 rfl rfl ?_
  refine gf_X7_9 (M := M_X7_addMill) (pc := 1) rfl dX7_addMill_1 ho ?_
  refine aw_iconst (M := M_X7_addMill) (pc := 4) dX7_addMill_4 ⟨by decide, by decide⟩ ?_
  refine aw_icmp_lt (tgt := 10) (M := M_X7_addMill) (pc := 5) dX7_addMill_5 rfl (fun hc => ?_) (fun hc => ?_)
  · have hF := hF.1 hc
    refine aw_aload_n (j := 0) (M := M_X7_addMill) (pc := 10) dX7_addMill_10 rfl rfl ?_
    refine gf_X7_15 (M := M_X7_addMill) (pc := 11) rfl dX7_addMill_11 ho (r := o + 1) rfl ?_
    refine aw_aload_n (j := 0) (M := M_X7_addMill) (pc := 14) dX7_addMill_14 rfl rfl ?_
    refine gf_X7_9 (M := M_X7_addMill) (pc := 15) rfl dX7_addMill_15 ho ?_
    refine aw_lload_n (j := 1) (M := M_X7_addMill) (pc := 18) dX7_addMill_18 rfl rfl ?_
    obtain ⟨o1, hF⟩ := hF
    refine aw_last (k := (h o 0).toNat) (M := M_X7_addMill) (pc := 19) dX7_addMill_19 (ll_7_1 ho) o1 rfl ?_
    obtain ⟨h2, eh2⟩ : ∃ y : Mem, y = mset h (o + 1) (h o 0).toNat a1 := ⟨_, rfl⟩
    have hF := hF h2 eh2
    rw [← eh2]
    refine aw_aload_n (j := 0) (M := M_X7_addMill) (pc := 20) dX7_addMill_20 rfl rfl ?_
    refine gf_X7_19 (M := M_X7_addMill) (pc := 21) rfl dX7_addMill_21 ho (r := o + 2) rfl ?_
    refine aw_aload_n (j := 0) (M := M_X7_addMill) (pc := 24) dX7_addMill_24 rfl rfl ?_
    refine gf_X7_9 (M := M_X7_addMill) (pc := 25) rfl dX7_addMill_25 ho ?_
    refine aw_iload_n (j := 2) (M := M_X7_addMill) (pc := 28) dX7_addMill_28 rfl rfl ?_
    obtain ⟨o3, hF⟩ := hF
    refine aw_iast (k := (h2 o 0).toNat) (M := M_X7_addMill) (pc := 29) dX7_addMill_29 (ll_7_2 ho) o3 rfl ?_
    obtain ⟨h4, eh4⟩ : ∃ y : Mem, y = mset h2 (o + 2) (h2 o 0).toNat a2 := ⟨_, rfl⟩
    have hF := hF h4 eh4
    rw [← eh4]
    refine aw_aload_n (j := 0) (M := M_X7_addMill) (pc := 30) dX7_addMill_30 rfl rfl ?_
    refine gf_X7_23 (M := M_X7_addMill) (pc := 31) rfl dX7_addMill_31 ho (r := o + 3) rfl ?_
    refine aw_aload_n (j := 0) (M := M_X7_addMill) (pc := 34) dX7_addMill_34 rfl rfl ?_
    refine gf_X7_9 (M := M_X7_addMill) (pc := 35) rfl dX7_addMill_35 ho ?_
    refine aw_iload (j := 3) (M := M_X7_addMill) (pc := 38) dX7_addMill_38  rfl ?_
    obtain ⟨o5, hF⟩ := hF
    refine aw_iast (k := (h4 o 0).toNat) (M := M_X7_addMill) (pc := 40) dX7_addMill_40 (ll_7_3 ho) o5 rfl ?_
    obtain ⟨h6, eh6⟩ : ∃ y : Mem, y = mset h4 (o + 3) (h4 o 0).toNat a3 := ⟨_, rfl⟩
    have hF := hF h6 eh6
    rw [← eh6]
    refine aw_aload_n (j := 0) (M := M_X7_addMill) (pc := 41) dX7_addMill_41 rfl rfl ?_
    refine gf_X7_26 (M := M_X7_addMill) (pc := 42) rfl dX7_addMill_42 ho (r := o + 4) rfl ?_
    refine aw_aload_n (j := 0) (M := M_X7_addMill) (pc := 45) dX7_addMill_45 rfl rfl ?_
    refine gf_X7_9 (M := M_X7_addMill) (pc := 46) rfl dX7_addMill_46 ho ?_
    refine aw_iconst (M := M_X7_addMill) (pc := 49) dX7_addMill_49 ⟨by decide, by decide⟩ ?_
    obtain ⟨o7, hF⟩ := hF
    refine aw_iast (k := (h6 o 0).toNat) (M := M_X7_addMill) (pc := 50) dX7_addMill_50 (ll_7_4 ho) o7 rfl ?_
    obtain ⟨h8, eh8⟩ : ∃ y : Mem, y = mset h6 (o + 4) (h6 o 0).toNat 0 := ⟨_, rfl⟩
    have hF := hF h8 eh8
    rw [← eh8]
    refine aw_aload_n (j := 0) (M := M_X7_addMill) (pc := 51) dX7_addMill_51 rfl rfl ?_
    refine aw_dup (M := M_X7_addMill) (pc := 52) dX7_addMill_52 rfl ?_
    refine gf_X7_9 (M := M_X7_addMill) (pc := 53) rfl dX7_addMill_53 ho ?_
    refine aw_iconst (M := M_X7_addMill) (pc := 56) dX7_addMill_56 ⟨by decide, by decide⟩ ?_
    obtain ⟨o9, hF⟩ := hF
    refine aw_iadd (M := M_X7_addMill) (pc := 57) dX7_addMill_57 rfl o9 ?_
    refine pf_X7_9 (M := M_X7_addMill) (pc := 58) rfl dX7_addMill_58 ho ?_
    obtain ⟨h10, eh10⟩ : ∃ y : Mem, y = mset h8 o 0 ((h8 o 0) + 1) := ⟨_, rfl⟩
    have hF := hF h10 eh10
    rw [← eh10]
    refine aw_aload_n (j := 0) (M := M_X7_addMill) (pc := 61) dX7_addMill_61 rfl rfl ?_
    refine gf_X7_9 (M := M_X7_addMill) (pc := 62) rfl dX7_addMill_62 ho ?_
    refine aw_iconst (M := M_X7_addMill) (pc := 65) dX7_addMill_65 ⟨by decide, by decide⟩ ?_
    obtain ⟨o11, hF⟩ := hF
    refine aw_isub (M := M_X7_addMill) (pc := 66) dX7_addMill_66 rfl o11 ?_
    exact aw_ireti (M := M_X7_addMill) (pc := 67) dX7_addMill_67 rfl ⟨_, rfl, hF⟩
  · have hF := hF.2 hc
    refine aw_iconst (M := M_X7_addMill) (pc := 8) dX7_addMill_8 ⟨by decide, by decide⟩ ?_
    exact aw_ireti (M := M_X7_addMill) (pc := 9) dX7_addMill_9 rfl ⟨_, rfl, hF⟩
abbrev M_X8_isWord : Hd := (cX8_isWord, 2, RX8, (some .boolean), (1, 45), sc0)
def F_X8_isWord (h : Mem) (a1 : Int) (Q : Int → Mem → Prop) : Prop :=
  ((¬ ((h 9 9) = 0) → Q 0 h) ∧ ((h 9 9) = 0 → ((¬ ((h 9 5) = 1) → Q 0 h) ∧ ((h 9 5) = 1 → ((¬ ((h 9 7) = a1) → Q 0 h) ∧ ((h 9 7) = a1 → Q 1 h))))))
set_option maxRecDepth 100000 in
set_option maxHeartbeats 4000000 in
theorem f_X8_isWord {h : Mem} {a1 : Int} {Q : Int → Mem → Prop}  (hF : F_X8_isWord h a1 Q) : Ct yX8_isWord cX8_isWord 2 (some .boolean) (1, 45) [vr 9, (0, a1)] h (qi Q) := by
  refine Ct.of np_RX8 (Nat.le_of_ble_eq_true rfl) ?_
  unfold F_X8_isWord at hF
  show AW M_X8_isWord 0 [(0, vr 9), (1, (0, a1))] [] h (qi Q)
  refine aw_aload_n (j := 0) (M := M_X8_isWord) (pc := 0) dX8_isWord_0 rfl rfl ?_
  refine gf_X8_42 (M := M_X8_isWord) (pc := 1) rfl dX8_isWord_1 rfl ?_
  refine aw_if_ne (tgt := 27) (M := M_X8_isWord) (pc := 4) dX8_isWord_4 rfl (fun hc => ?_) (fun hc => ?_)
  · have hF := hF.1 hc
    refine aw_iconst (M := M_X8_isWord) (pc := 27) dX8_isWord_27 ⟨by decide, by decide⟩ ?_
    exact aw_iretz (M := M_X8_isWord) (pc := 28) dX8_isWord_28 rfl (Or.inl rfl) ⟨_, rfl, hF⟩
  · have hF := hF.2 hc
    refine aw_aload_n (j := 0) (M := M_X8_isWord) (pc := 7) dX8_isWord_7 rfl rfl ?_
    refine gf_X8_29 (M := M_X8_isWord) (pc := 8) rfl dX8_isWord_8 rfl ?_
    refine aw_iconst (M := M_X8_isWord) (pc := 11) dX8_isWord_11 ⟨by decide, by decide⟩ ?_
    refine aw_icmp_ne (tgt := 27) (M := M_X8_isWord) (pc := 12) dX8_isWord_12 rfl (fun hc => ?_) (fun hc => ?_)
    · have hF := hF.1 hc
      refine aw_iconst (M := M_X8_isWord) (pc := 27) dX8_isWord_27 ⟨by decide, by decide⟩ ?_
      exact aw_iretz (M := M_X8_isWord) (pc := 28) dX8_isWord_28 rfl (Or.inl rfl) ⟨_, rfl, hF⟩
    · have hF := hF.2 hc
      refine aw_aload_n (j := 0) (M := M_X8_isWord) (pc := 15) dX8_isWord_15 rfl rfl ?_
      refine gf_X8_35 (M := M_X8_isWord) (pc := 16) rfl dX8_isWord_16 rfl ?_
      refine aw_iload_n (j := 1) (M := M_X8_isWord) (pc := 19) dX8_isWord_19 rfl rfl ?_
      refine aw_icmp_ne (tgt := 27) (M := M_X8_isWord) (pc := 20) dX8_isWord_20 rfl (fun hc => ?_) (fun hc => ?_)
      · have hF := hF.1 hc
        refine aw_iconst (M := M_X8_isWord) (pc := 27) dX8_isWord_27 ⟨by decide, by decide⟩ ?_
        exact aw_iretz (M := M_X8_isWord) (pc := 28) dX8_isWord_28 rfl (Or.inl rfl) ⟨_, rfl, hF⟩
      · have hF := hF.2 hc
        refine aw_iconst (M := M_X8_isWord) (pc := 23) dX8_isWord_23 ⟨by decide, by decide⟩ ?_
        refine aw_goto (tgt := 28) (M := M_X8_isWord) (pc := 24) dX8_isWord_24 rfl ?_
        exact aw_iretz (M := M_X8_isWord) (pc := 28) dX8_isWord_28 rfl (Or.inr rfl) ⟨_, rfl, hF⟩
abbrev M_X8_takeKeyword : Hd := (cX8_takeKeyword, 2, RX8, none, (4, 111), sc0)
def F_X8_takeKeyword (h : Mem) (a1 : Int) (Q : Mem → Prop) : Prop :=
  (F_X8_isWord h a1 (fun r2 h1 => ((r2 = 0 → (F_X8_fail h1 2 (fun h3 => Q h3))) ∧ (¬ (r2 = 0) → (F_X8_advance h1  (fun h5 => Q h5))))))
set_option maxRecDepth 100000 in
set_option maxHeartbeats 4000000 in
theorem f_X8_takeKeyword {h : Mem} {a1 : Int} {Q : Mem → Prop}  (hF : F_X8_takeKeyword h a1 Q) : Ct yX8_takeKeyword cX8_takeKeyword 2 none (4, 111) [vr 9, (0, a1)] h (qv Q) := by
  refine Ct.of np_RX8 (Nat.le_of_ble_eq_true rfl) ?_
  unfold F_X8_takeKeyword at hF
  show AW M_X8_takeKeyword 0 [(0, vr 9), (1, (0, a1))] [] h (qv Q)
  refine aw_aload_n (j := 0) (M := M_X8_takeKeyword) (pc := 0) dX8_takeKeyword_0 rfl rfl ?_
  refine aw_iload_n (j := 1) (M := M_X8_takeKeyword) (pc := 1) dX8_takeKeyword_1 rfl rfl ?_
  refine aw_cvi (as := [(0, a1)]) (st := []) (M := M_X8_takeKeyword) (pc := 2) (f_X8_isWord  hF) dX8_takeKeyword_2 rfl (Or.inl ⟨_, _, _, rfl, rfl⟩) cy_X8_isWord ml_X8_88 (by decide) (by decide) (Nat.le_of_ble_eq_true rfl) (fun r2 h1 hF => ?_)
  refine aw_if_eq (tgt := 15) (M := M_X8_takeKeyword) (pc := 5) dX8_takeKeyword_5 rfl (fun hc => ?_) (fun hc => ?_)
  · have hF := hF.1 hc
    refine aw_aload_n (j := 0) (M := M_X8_takeKeyword) (pc := 15) dX8_takeKeyword_15 rfl rfl ?_
    refine aw_iconst (M := M_X8_takeKeyword) (pc := 16) dX8_takeKeyword_16 ⟨by decide, by decide⟩ ?_
    refine aw_cvv (as := [(0, 2)]) (st := []) (M := M_X8_takeKeyword) (pc := 17) (f_X8_fail  hF) dX8_takeKeyword_17 rfl (Or.inl ⟨_, _, _, rfl, rfl⟩) cy_X8_fail ml_X8_91 (by decide) (by decide) (Nat.le_of_ble_eq_true rfl) (fun h3 hF => ?_)
    exact aw_ret (M := M_X8_takeKeyword) (pc := 20) dX8_takeKeyword_20 rfl ⟨rfl, hF⟩
  · have hF := hF.2 hc
    refine aw_aload_n (j := 0) (M := M_X8_takeKeyword) (pc := 8) dX8_takeKeyword_8 rfl rfl ?_
    refine aw_cvv (as := []) (st := []) (M := M_X8_takeKeyword) (pc := 9) (f_X8_advance  hF) dX8_takeKeyword_9 rfl (Or.inl ⟨_, _, _, rfl, rfl⟩) cy_X8_advance ml_X8_72 (by decide) (by decide) (Nat.le_of_ble_eq_true rfl) (fun h5 hF => ?_)
    refine aw_goto (tgt := 20) (M := M_X8_takeKeyword) (pc := 12) dX8_takeKeyword_12 rfl ?_
    exact aw_ret (M := M_X8_takeKeyword) (pc := 20) dX8_takeKeyword_20 rfl ⟨rfl, hF⟩
abbrev M_X5_readMill : Hd := (cX5_readMill, 4, RX5, none, (5, 134), sc0)
def J_X5_readMill_23 (h : Mem)  (Q : Mem → Prop) : Prop :=
  (h 33 0 = (9 : Int) ∧ (F_X8_takeKeyword h 12 (fun h6 => (F_X5_takeNewName h6  (fun r9 h8 => (h8 33 0 = (9 : Int) ∧ (F_X8_takeKeyword h8 13 (fun h11 => (h11 33 0 = (9 : Int) ∧ (∃ r14 : Nat, h11 33 1 = (r14 : Int) ∧ lay r14 = (0, 4) ∧ (InR ((h11 r14 0) - 1) ∧ (F_X8_takeNumberOf h11 0 ((h11 r14 0) - 1) (fun r17 h16 => (∃ r18 : Nat, h16 33 1 = (r18 : Int) ∧ lay r18 = (0, 4) ∧ (F_X5_takeKind h16  (fun r20 h19 => (F_X7_addMill h19 (r18 + 10) r9 r17 r20 (fun r22 h21 => Q h21))))))))))))))))))
set_option maxRecDepth 100000 in
set_option maxHeartbeats 4000000 in
theorem j_X5_readMill_23 {h : Mem}  {Q : Mem → Prop}  (hF : J_X5_readMill_23 h  Q) : AW M_X5_readMill 23 [(0, vr 33)] [] h (qv Q) := by
  unfold J_X5_readMill_23 at hF
  refine aw_aload_n (j := 0) (M := M_X5_readMill) (pc := 23) dX5_readMill_23 rfl rfl ?_
  obtain ⟨o5, hF⟩ := hF
  refine gf_X5_9 (M := M_X5_readMill) (pc := 24) rfl dX5_readMill_24 rfl ?_
  refine aw_ref (a := 9) o5 ?_
  refine aw_bipush (M := M_X5_readMill) (pc := 27) dX5_readMill_27 ⟨rfl, ⟨by decide, by decide⟩⟩ ?_
  refine aw_cvv (as := [(0, 12)]) (st := []) (M := M_X5_readMill) (pc := 29) (f_X8_takeKeyword  hF) dX5_readMill_29 rfl (Or.inl ⟨_, _, _, rfl, rfl⟩) cy_X8_takeKeyword ml_X5_108 (by decide) (by decide) (Nat.le_of_ble_eq_true rfl) (fun h6 hF => ?_)
  refine aw_aload_n (j := 0) (M := M_X5_readMill) (pc := 32) dX5_readMill_32 rfl rfl ?_
  refine aw_cvl (as := []) (st := []) (M := M_X5_readMill) (pc := 33) (f_X5_takeNewName  hF) dX5_readMill_33 rfl (Or.inl ⟨_, _, _, rfl, rfl⟩) cy_X5_takeNewName ml_X5_111 (by decide) (by decide) (Nat.le_of_ble_eq_true rfl) (fun r9 h8 hF => ?_)
  refine aw_lstore_n (ls' := [(1, (1, r9)), (0, vr 33)]) (M := M_X5_readMill) (pc := 36) dX5_readMill_36 rfl (by decide) rfl ?_
  refine aw_aload_n (j := 1) (M := M_X5_readMill) (pc := 37) dX5_readMill_37 rfl rfl ?_
  obtain ⟨o10, hF⟩ := hF
  refine gf_X5_9 (M := M_X5_readMill) (pc := 38) rfl dX5_readMill_38 rfl ?_
  refine aw_ref (a := 9) o10 ?_
  refine aw_bipush (M := M_X5_readMill) (pc := 41) dX5_readMill_41 ⟨rfl, ⟨by decide, by decide⟩⟩ ?_
  refine aw_cvv (as := [(0, 13)]) (st := []) (M := M_X5_readMill) (pc := 43) (f_X8_takeKeyword  hF) dX5_readMill_43 rfl (Or.inl ⟨_, _, _, rfl, rfl⟩) cy_X8_takeKeyword ml_X5_108 (by decide) (by decide) (Nat.le_of_ble_eq_true rfl) (fun h11 hF => ?_)
  refine aw_aload_n (j := 1) (M := M_X5_readMill) (pc := 46) dX5_readMill_46 rfl rfl ?_
  obtain ⟨o13, hF⟩ := hF
  refine gf_X5_9 (M := M_X5_readMill) (pc := 47) rfl dX5_readMill_47 rfl ?_
  refine aw_ref (a := 9) o13 ?_
  refine aw_iconst (M := M_X5_readMill) (pc := 50) dX5_readMill_50 ⟨by decide, by decide⟩ ?_
  refine aw_aload_n (j := 1) (M := M_X5_readMill) (pc := 51) dX5_readMill_51 rfl rfl ?_
  refine gf_X5_15 (M := M_X5_readMill) (pc := 52) rfl dX5_readMill_52 rfl ?_
  obtain ⟨r14, er14, lr14, hF⟩ := hF
  refine aw_ref (a := r14) er14 ?_
  refine gf_X5_96 (M := M_X5_readMill) (pc := 55) rfl dX5_readMill_55 lr14 ?_
  refine aw_iconst (M := M_X5_readMill) (pc := 58) dX5_readMill_58 ⟨by decide, by decide⟩ ?_
  obtain ⟨o15, hF⟩ := hF
  refine aw_isub (M := M_X5_readMill) (pc := 59) dX5_readMill_59 rfl o15 ?_
  refine aw_cvi (as := [(0, 0), (0, (h11 r14 0) - 1)]) (st := []) (M := M_X5_readMill) (pc := 60) (f_X8_takeNumberOf  hF) dX5_readMill_60 rfl (Or.inl ⟨_, _, _, rfl, rfl⟩) cy_X8_takeNumberOf ml_X5_48 (by decide) (by decide) (Nat.le_of_ble_eq_true rfl) (fun r17 h16 hF => ?_)
  refine aw_istore_n (ls' := [(3, (0, r17)), (1, (1, r9)), (0, vr 33)]) (M := M_X5_readMill) (pc := 63) dX5_readMill_63 rfl (by decide) rfl ?_
  refine aw_aload_n (j := 2) (M := M_X5_readMill) (pc := 64) dX5_readMill_64 rfl rfl ?_
  refine gf_X5_15 (M := M_X5_readMill) (pc := 65) rfl dX5_readMill_65 rfl ?_
  obtain ⟨r18, er18, lr18, hF⟩ := hF
  refine aw_ref (a := r18) er18 ?_
  refine gf_X5_89 (M := M_X5_readMill) (pc := 68) rfl dX5_readMill_68 lr18 (r := r18 + 10) rfl ?_
  refine aw_lload_n (j := 1) (M := M_X5_readMill) (pc := 71) dX5_readMill_71 rfl rfl ?_
  refine aw_iload_n (j := 0) (M := M_X5_readMill) (pc := 72) dX5_readMill_72 rfl rfl ?_
  refine aw_aload_n (j := 2) (M := M_X5_readMill) (pc := 73) dX5_readMill_73 rfl rfl ?_
  refine aw_cvi (as := []) (st := [(0, r17), (1, r9), vr (r18 + 10)]) (M := M_X5_readMill) (pc := 74) (f_X5_takeKind  hF) dX5_readMill_74 rfl (Or.inl ⟨_, _, _, rfl, rfl⟩) cy_X5_takeKind ml_X5_123 (by decide) (by decide) (Nat.le_of_ble_eq_true rfl) (fun r20 h19 hF => ?_)
  refine aw_cvi (as := [(1, r9), (0, r17), (0, r20)]) (st := []) (M := M_X5_readMill) (pc := 77) (f_X7_addMill (ll_4_8 lr18) hF) dX5_readMill_77 rfl (Or.inl ⟨_, _, _, (ll_4_8 lr18), rfl⟩) cy_X7_addMill ml_X5_126 (by decide) (by decide) (Nat.le_of_ble_eq_true rfl) (fun r22 h21 hF => ?_)
  refine aw_pop (M := M_X5_readMill) (pc := 80) dX5_readMill_80 rfl ?_
  exact aw_ret (M := M_X5_readMill) (pc := 81) dX5_readMill_81 rfl ⟨rfl, hF⟩
def F_X5_readMill (h : Mem)  (Q : Mem → Prop) : Prop :=
  (∃ r1 : Nat, h 33 1 = (r1 : Int) ∧ lay r1 = (0, 4) ∧ (((h (r1 + 10) 0) < 4 → J_X5_readMill_23 h  Q) ∧ (¬ ((h (r1 + 10) 0) < 4) → (h 33 0 = (9 : Int) ∧ (F_X8_fail h 6 (fun h3 => J_X5_readMill_23 h3  Q))))))
set_option maxRecDepth 100000 in
set_option maxHeartbeats 4000000 in
theorem f_X5_readMill {h : Mem}  {Q : Mem → Prop}  (hF : F_X5_readMill h  Q) : Ct yX5_readMill cX5_readMill 4 none (5, 134) [vr 33] h (qv Q) := by
  refine Ct.of np_RX5 (Nat.le_of_ble_eq_true rfl) ?_
  unfold F_X5_readMill at hF
  show AW M_X5_readMill 0 [(0, vr 33)] [] h (qv Q)
  refine aw_aload_n (j := 0) (M := M_X5_readMill) (pc := 0) dX5_readMill_0 rfl rfl ?_
  refine gf_X5_15 (M := M_X5_readMill) (pc := 1) rfl dX5_readMill_1 rfl ?_
  obtain ⟨r1, er1, lr1, hF⟩ := hF
  refine aw_ref (a := r1) er1 ?_
  refine gf_X5_89 (M := M_X5_readMill) (pc := 4) rfl dX5_readMill_4 lr1 (r := r1 + 10) rfl ?_
  refine gf_X5_93 (M := M_X5_readMill) (pc := 7) rfl dX5_readMill_7 (ll_4_8 lr1) ?_
  refine aw_iconst (M := M_X5_readMill) (pc := 10) dX5_readMill_10 ⟨by decide, by decide⟩ ?_
  refine aw_icmp_lt (tgt := 23) (M := M_X5_readMill) (pc := 11) dX5_readMill_11 rfl (fun hc => ?_) (fun hc => ?_)
  · have hF := hF.1 hc
    exact aw_ls [0] rfl (j_X5_readMill_23  hF)
  · have hF := hF.2 hc
    refine aw_aload_n (j := 0) (M := M_X5_readMill) (pc := 14) dX5_readMill_14 rfl rfl ?_
    obtain ⟨o2, hF⟩ := hF
    refine gf_X5_9 (M := M_X5_readMill) (pc := 15) rfl dX5_readMill_15 rfl ?_
    refine aw_ref (a := 9) o2 ?_
    refine aw_bipush (M := M_X5_readMill) (pc := 18) dX5_readMill_18 ⟨rfl, ⟨by decide, by decide⟩⟩ ?_
    refine aw_cvv (as := [(0, 6)]) (st := []) (M := M_X5_readMill) (pc := 20) (f_X8_fail  hF) dX5_readMill_20 rfl (Or.inl ⟨_, _, _, rfl, rfl⟩) cy_X8_fail ml_X5_67 (by decide) (by decide) (Nat.le_of_ble_eq_true rfl) (fun h3 hF => ?_)
    exact aw_ls [0] rfl (j_X5_readMill_23  hF)
abbrev M_X5_readStream : Hd := (cX5_readStream, 1, RX5, none, (5, 134), sc0)
def F_X5_readStream (h : Mem)  (Q : Mem → Prop) : Prop :=
  (F_X5_takeOnce h 3 (fun h1 => (∃ r3 : Nat, h1 33 1 = (r3 : Int) ∧ lay r3 = (0, 4) ∧ (h1 33 0 = (9 : Int) ∧ (∃ r5 : Nat, h1 33 1 = (r5 : Int) ∧ lay r5 = (0, 4) ∧ (InR ((h1 r5 0) - 1) ∧ (F_X8_takeNumberOf h1 0 ((h1 r5 0) - 1) (fun r8 h7 => (∀ h9 : Mem, h9 = mset h7 r3 3 r8 → (h9 33 0 = (9 : Int) ∧ (F_X8_isWord h9 4 (fun r12 h11 => ((r12 = 0 → Q h11) ∧ (¬ (r12 = 0) → (∃ r13 : Nat, h11 33 1 = (r13 : Int) ∧ lay r13 = (0, 4) ∧ (∀ h14 : Mem, h14 = mset h11 r13 4 0 → (h14 33 0 = (9 : Int) ∧ (F_X8_advance h14  (fun h16 => Q h16)))))))))))))))))))
set_option maxRecDepth 100000 in
set_option maxHeartbeats 4000000 in
theorem f_X5_readStream {h : Mem}  {Q : Mem → Prop}  (hF : F_X5_readStream h  Q) : Ct yX5_readStream cX5_readStream 1 none (5, 134) [vr 33] h (qv Q) := by
  refine Ct.of np_RX5 (Nat.le_of_ble_eq_true rfl) ?_
  unfold F_X5_readStream at hF
  show AW M_X5_readStream 0 [(0, vr 33)] [] h (qv Q)
  refine aw_aload_n (j := 0) (M := M_X5_readStream) (pc := 0) dX5_readStream_0 rfl rfl ?_
  refine aw_iconst (M := M_X5_readStream) (pc := 1) dX5_readStream_1 ⟨by decide, by decide⟩ ?_
  refine aw_cvv (as := [(0, 3)]) (st := []) (M := M_X5_readStream) (pc := 2) (f_X5_takeOnce  hF) dX5_readStream_2 rfl (Or.inl ⟨_, _, _, rfl, rfl⟩) cy_X5_takeOnce ml_X5_44 (by decide) (by decide) (Nat.le_of_ble_eq_true rfl) (fun h1 hF => ?_)
  refine aw_aload_n (j := 0) (M := M_X5_readStream) (pc := 5) dX5_readStream_5 rfl rfl ?_
  refine gf_X5_15 (M := M_X5_readStream) (pc := 6) rfl dX5_readStream_6 rfl ?_
  obtain ⟨r3, er3, lr3, hF⟩ := hF
  refine aw_ref (a := r3) er3 ?_
  refine aw_aload_n (j := 0) (M := M_X5_readStream) (pc := 9) dX5_readStream_9 rfl rfl ?_
  obtain ⟨o4, hF⟩ := hF
  refine gf_X5_9 (M := M_X5_readStream) (pc := 10) rfl dX5_readStream_10 rfl ?_
  refine aw_ref (a := 9) o4 ?_
  refine aw_iconst (M := M_X5_readStream) (pc := 13) dX5_readStream_13 ⟨by decide, by decide⟩ ?_
  refine aw_aload_n (j := 0) (M := M_X5_readStream) (pc := 14) dX5_readStream_14 rfl rfl ?_
  refine gf_X5_15 (M := M_X5_readStream) (pc := 15) rfl dX5_readStream_15 rfl ?_
  obtain ⟨r5, er5, lr5, hF⟩ := hF
  refine aw_ref (a := r5) er5 ?_
  refine gf_X5_96 (M := M_X5_readStream) (pc := 18) rfl dX5_readStream_18 lr5 ?_
  refine aw_iconst (M := M_X5_readStream) (pc := 21) dX5_readStream_21 ⟨by decide, by decide⟩ ?_
  obtain ⟨o6, hF⟩ := hF
  refine aw_isub (M := M_X5_readStream) (pc := 22) dX5_readStream_22 rfl o6 ?_
  refine aw_cvi (as := [(0, 0), (0, (h1 r5 0) - 1)]) (st := [vr r3]) (M := M_X5_readStream) (pc := 23) (f_X8_takeNumberOf  hF) dX5_readStream_23 rfl (Or.inl ⟨_, _, _, rfl, rfl⟩) cy_X8_takeNumberOf ml_X5_48 (by decide) (by decide) (Nat.le_of_ble_eq_true rfl) (fun r8 h7 hF => ?_)
  refine pf_X5_99 (M := M_X5_readStream) (pc := 26) rfl dX5_readStream_26 lr3 ?_
  obtain ⟨h9, eh9⟩ : ∃ y : Mem, y = mset h7 r3 3 r8 := ⟨_, rfl⟩
  have hF := hF h9 eh9
  rw [← eh9]
  refine aw_aload_n (j := 0) (M := M_X5_readStream) (pc := 29) dX5_readStream_29 rfl rfl ?_
  obtain ⟨o10, hF⟩ := hF
  refine gf_X5_9 (M := M_X5_readStream) (pc := 30) rfl dX5_readStream_30 rfl ?_
  refine aw_ref (a := 9) o10 ?_
  refine aw_iconst (M := M_X5_readStream) (pc := 33) dX5_readStream_33 ⟨by decide, by decide⟩ ?_
  refine aw_cvi (as := [(0, 4)]) (st := []) (M := M_X5_readStream) (pc := 34) (f_X8_isWord  hF) dX5_readStream_34 rfl (Or.inl ⟨_, _, _, rfl, rfl⟩) cy_X8_isWord ml_X5_102 (by decide) (by decide) (Nat.le_of_ble_eq_true rfl) (fun r12 h11 hF => ?_)
  refine aw_if_eq (tgt := 55) (M := M_X5_readStream) (pc := 37) dX5_readStream_37 rfl (fun hc => ?_) (fun hc => ?_)
  · have hF := hF.1 hc
    exact aw_ret (M := M_X5_readStream) (pc := 55) dX5_readStream_55 rfl ⟨rfl, hF⟩
  · have hF := hF.2 hc
    refine aw_aload_n (j := 0) (M := M_X5_readStream) (pc := 40) dX5_readStream_40 rfl rfl ?_
    refine gf_X5_15 (M := M_X5_readStream) (pc := 41) rfl dX5_readStream_41 rfl ?_
    obtain ⟨r13, er13, lr13, hF⟩ := hF
    refine aw_ref (a := r13) er13 ?_
    refine aw_iconst (M := M_X5_readStream) (pc := 44) dX5_readStream_44 ⟨by decide, by decide⟩ ?_
    refine pf_X5_105 (M := M_X5_readStream) (pc := 45) rfl dX5_readStream_45 lr13 ?_
    obtain ⟨h14, eh14⟩ : ∃ y : Mem, y = mset h11 r13 4 0 := ⟨_, rfl⟩
    have hF := hF h14 eh14
    rw [← eh14]
    refine aw_aload_n (j := 0) (M := M_X5_readStream) (pc := 48) dX5_readStream_48 rfl rfl ?_
    obtain ⟨o15, hF⟩ := hF
    refine gf_X5_9 (M := M_X5_readStream) (pc := 49) rfl dX5_readStream_49 rfl ?_
    refine aw_ref (a := 9) o15 ?_
    refine aw_cvv (as := []) (st := []) (M := M_X5_readStream) (pc := 52) (f_X8_advance  hF) dX5_readStream_52 rfl (Or.inl ⟨_, _, _, rfl, rfl⟩) cy_X8_advance ml_X5_77 (by decide) (by decide) (Nat.le_of_ble_eq_true rfl) (fun h16 hF => ?_)
    exact aw_ret (M := M_X5_readStream) (pc := 55) dX5_readStream_55 rfl ⟨rfl, hF⟩
abbrev M_X9_bringAshore : Hd := (cX9_bringAshore, 2, RX9, none, (2, 68), sc0)
def F_X9_bringAshore (h : Mem) (o : Nat) (a1 : Int) (Q : Mem → Prop) : Prop :=
  (F_X9_place h o a1 0 0 (fun h1 => Q h1))
set_option maxRecDepth 100000 in
set_option maxHeartbeats 4000000 in
theorem f_X9_bringAshore {h : Mem} {o : Nat} {a1 : Int} {Q : Mem → Prop} (ho : lay o = (0, 9)) (hF : F_X9_bringAshore h o a1 Q) : Ct yX9_bringAshore cX9_bringAshore 2 none (2, 68) [vr o, (0, a1)] h (qv Q) := by
  refine Ct.of np_RX9 (Nat.le_of_ble_eq_true rfl) ?_
  unfold F_X9_bringAshore at hF
  show AW M_X9_bringAshore 0 [(0, vr o), (1, (0, a1))] [] h (qv Q)
  refine aw_aload_n (j := 0) (M := M_X9_bringAshore) (pc := 0) dX9_bringAshore_0 rfl rfl ?_
  refine aw_iload_n (j := 1) (M := M_X9_bringAshore) (pc := 1) dX9_bringAshore_1 rfl rfl ?_
  refine aw_iconst (M := M_X9_bringAshore) (pc := 2) dX9_bringAshore_2 ⟨by decide, by decide⟩ ?_
  refine aw_iconst (M := M_X9_bringAshore) (pc := 3) dX9_bringAshore_3 ⟨by decide, by decide⟩ ?_
  refine aw_cvv (as := [(0, a1), (0, 0), (0, 0)]) (st := []) (M := M_X9_bringAshore) (pc := 4) (f_X9_place ho hF) dX9_bringAshore_4 rfl (Or.inl ⟨_, _, _, ho, rfl⟩) cy_X9_place ml_X9_55 (by decide) (by decide) (Nat.le_of_ble_eq_true rfl) (fun h1 hF => ?_)
  exact aw_ret (M := M_X9_bringAshore) (pc := 7) dX9_bringAshore_7 rfl ⟨rfl, hF⟩
abbrev M_X9_addThing : Hd := (cX9_addThing, 6, RX9, (some .int), (3, 89), sc0)
def F_X9_addThing (h : Mem) (o : Nat) (a1 : Int) (a2 : Int) (a3 : Int) (a4 : Int) (Q : Int → Mem → Prop) : Prop :=
  (((h o 0) < 8 → ((0 ≤ (h o 0) ∧ (h o 0) < 8) ∧ (∀ h2 : Mem, h2 = mset h (o + 1) (h o 0).toNat a1 → ((0 ≤ (h2 o 0) ∧ (h2 o 0) < 8) ∧ (∀ h4 : Mem, h4 = mset h2 (o + 2) (h2 o 0).toNat a2 → ((0 ≤ (h4 o 0) ∧ (h4 o 0) < 8) ∧ (∀ h6 : Mem, h6 = mset h4 (o + 3) (h4 o 0).toNat a3 → ((0 ≤ (h6 o 0) ∧ (h6 o 0) < 8) ∧ (∀ h8 : Mem, h8 = mset h6 (o + 4) (h6 o 0).toNat a4 → ((0 ≤ (h8 o 0) ∧ (h8 o 0) < 8) ∧ (∀ h10 : Mem, h10 = mset h8 (o + 8) (h8 o 0).toNat 0 → (F_X9_bringAshore h10 o (h10 o 0) (fun h11 => (InR ((h11 o 0) + 1) ∧ (∀ h14 : Mem, h14 = mset h11 o 0 ((h11 o 0) + 1) → (InR ((h14 o 0) - 1) ∧ Q ((h14 o 0) - 1) h14)))))))))))))))) ∧ (¬ ((h o 0) < 8) → Q (-1) h))
set_option maxRecDepth 100000 in
set_option maxHeartbeats 4000000 in
theorem f_X9_addThing {h : Mem} {o : Nat} {a1 : Int} {a2 : Int} {a3 : Int} {a4 : Int} {Q : Int → Mem → Prop} (ho : lay o = (0, 9)) (hF : F_X9_addThing h o a1 a2 a3 a4 Q) : Ct yX9_addThing cX9_addThing 6 (some .int) (3, 89) [vr o, (1, a1), (0, a2), (0, a3), (0, a4)] h (qi Q) := by
  refine Ct.of np_RX9 (Nat.le_of_ble_eq_true rfl) ?_
  unfold F_X9_addThing at hF
  show AW M_X9_addThing 0 [(0, vr o), (1, (1, a1)), (3, (0, a2)), (4, (0, a3)), (5, (0, a4))] [] h (qi Q)
  refine aw_aload_n (j := 0) (M := M_X9_addThing) (pc := 0) dX9_addThing_0 rfl rfl ?_
  refine gf_X9_9 (M := M_X9_addThing) (pc := 1) rfl dX9_addThing_1 ho ?_
  refine aw_bipush (M := M_X9_addThing) (pc := 4) dX9_addThing_4 ⟨rfl, ⟨by decide, by decide⟩⟩ ?_
  refine aw_icmp_lt (tgt := 11) (M := M_X9_addThing) (pc := 6) dX9_addThing_6 rfl (fun hc => ?_) (fun hc => ?_)
  · have hF := hF.1 hc
    refine aw_aload_n (j := 0) (M := M_X9_addThing) (pc := 11) dX9_addThing_11 rfl rfl ?_
    refine gf_X9_15 (M := M_X9_addThing) (pc := 12) rfl dX9_addThing_12 ho (r := o + 1) rfl ?_
    refine aw_aload_n (j := 0) (M := M_X9_addThing) (pc := 15) dX9_addThing_15 rfl rfl ?_
    refine gf_X9_9 (M := M_X9_addThing) (pc := 16) rfl dX9_addThing_16 ho ?_
    refine aw_lload_n (j := 1) (M := M_X9_addThing) (pc := 19) dX9_addThing_19 rfl rfl ?_
    obtain ⟨o1, hF⟩ := hF
    refine aw_last (k := (h o 0).toNat) (M := M_X9_addThing) (pc := 20) dX9_addThing_20 (ll_9_1 ho) o1 rfl ?_
    obtain ⟨h2, eh2⟩ : ∃ y : Mem, y = mset h (o + 1) (h o 0).toNat a1 := ⟨_, rfl⟩
    have hF := hF h2 eh2
    rw [← eh2]
    refine aw_aload_n (j := 0) (M := M_X9_addThing) (pc := 21) dX9_addThing_21 rfl rfl ?_
    refine gf_X9_19 (M := M_X9_addThing) (pc := 22) rfl dX9_addThing_22 ho (r := o + 2) rfl ?_
    refine aw_aload_n (j := 0) (M := M_X9_addThing) (pc := 25) dX9_addThing_25 rfl rfl ?_
    refine gf_X9_9 (M := M_X9_addThing) (pc := 26) rfl dX9_addThing_26 ho ?_
    refine aw_iload_n (j := 2) (M := M_X9_addThing) (pc := 29) dX9_addThing_29 rfl rfl ?_
    obtain ⟨o3, hF⟩ := hF
    refine aw_iast (k := (h2 o 0).toNat) (M := M_X9_addThing) (pc := 30) dX9_addThing_30 (ll_9_2 ho) o3 rfl ?_
    obtain ⟨h4, eh4⟩ : ∃ y : Mem, y = mset h2 (o + 2) (h2 o 0).toNat a2 := ⟨_, rfl⟩
    have hF := hF h4 eh4
    rw [← eh4]
    refine aw_aload_n (j := 0) (M := M_X9_addThing) (pc := 31) dX9_addThing_31 rfl rfl ?_
    refine gf_X9_23 (M := M_X9_addThing) (pc := 32) rfl dX9_addThing_32 ho (r := o + 3) rfl ?_
    refine aw_aload_n (j := 0) (M := M_X9_addThing) (pc := 35) dX9_addThing_35 rfl rfl ?_
    refine gf_X9_9 (M := M_X9_addThing) (pc := 36) rfl dX9_addThing_36 ho ?_
    refine aw_iload (j := 3) (M := M_X9_addThing) (pc := 39) dX9_addThing_39  rfl ?_
    obtain ⟨o5, hF⟩ := hF
    refine aw_iast (k := (h4 o 0).toNat) (M := M_X9_addThing) (pc := 41) dX9_addThing_41 (ll_9_3 ho) o5 rfl ?_
    obtain ⟨h6, eh6⟩ : ∃ y : Mem, y = mset h4 (o + 3) (h4 o 0).toNat a3 := ⟨_, rfl⟩
    have hF := hF h6 eh6
    rw [← eh6]
    refine aw_aload_n (j := 0) (M := M_X9_addThing) (pc := 42) dX9_addThing_42 rfl rfl ?_
    refine gf_X9_26 (M := M_X9_addThing) (pc := 43) rfl dX9_addThing_43 ho (r := o + 4) rfl ?_
    refine aw_aload_n (j := 0) (M := M_X9_addThing) (pc := 46) dX9_addThing_46 rfl rfl ?_
    refine gf_X9_9 (M := M_X9_addThing) (pc := 47) rfl dX9_addThing_47 ho ?_
    refine aw_iload (j := 4) (M := M_X9_addThing) (pc := 50) dX9_addThing_50  rfl ?_
    obtain ⟨o7, hF⟩ := hF
    refine aw_iast (k := (h6 o 0).toNat) (M := M_X9_addThing) (pc := 52) dX9_addThing_52 (ll_9_4 ho) o7 rfl ?_
    obtain ⟨h8, eh8⟩ : ∃ y : Mem, y = mset h6 (o + 4) (h6 o 0).toNat a4 := ⟨_, rfl⟩
    have hF := hF h8 eh8
    rw [← eh8]
    refine aw_aload_n (j := 0) (M := M_X9_addThing) (pc := 53) dX9_addThing_53 rfl rfl ?_
    refine gf_X9_38 (M := M_X9_addThing) (pc := 54) rfl dX9_addThing_54 ho (r := o + 8) rfl ?_
    refine aw_aload_n (j := 0) (M := M_X9_addThing) (pc := 57) dX9_addThing_57 rfl rfl ?_
    refine gf_X9_9 (M := M_X9_addThing) (pc := 58) rfl dX9_addThing_58 ho ?_
    refine aw_iconst (M := M_X9_addThing) (pc := 61) dX9_addThing_61 ⟨by decide, by decide⟩ ?_
    obtain ⟨o9, hF⟩ := hF
    refine aw_iast (k := (h8 o 0).toNat) (M := M_X9_addThing) (pc := 62) dX9_addThing_62 (ll_9_8 ho) o9 rfl ?_
    obtain ⟨h10, eh10⟩ : ∃ y : Mem, y = mset h8 (o + 8) (h8 o 0).toNat 0 := ⟨_, rfl⟩
    have hF := hF h10 eh10
    rw [← eh10]
    refine aw_aload_n (j := 0) (M := M_X9_addThing) (pc := 63) dX9_addThing_63 rfl rfl ?_
    refine aw_aload_n (j := 0) (M := M_X9_addThing) (pc := 64) dX9_addThing_64 rfl rfl ?_
    refine gf_X9_9 (M := M_X9_addThing) (pc := 65) rfl dX9_addThing_65 ho ?_
    refine aw_cvv (as := [(0, h10 o 0)]) (st := []) (M := M_X9_addThing) (pc := 68) (f_X9_bringAshore ho hF) dX9_addThing_68 rfl (Or.inl ⟨_, _, _, ho, rfl⟩) cy_X9_bringAshore ml_X9_51 (by decide) (by decide) (Nat.le_of_ble_eq_true rfl) (fun h11 hF => ?_)
    refine aw_aload_n (j := 0) (M := M_X9_addThing) (pc := 71) dX9_addThing_71 rfl rfl ?_
    refine aw_dup (M := M_X9_addThing) (pc := 72) dX9_addThing_72 rfl ?_
    refine gf_X9_9 (M := M_X9_addThing) (pc := 73) rfl dX9_addThing_73 ho ?_
    refine aw_iconst (M := M_X9_addThing) (pc := 76) dX9_addThing_76 ⟨by decide, by decide⟩ ?_
    obtain ⟨o13, hF⟩ := hF
    refine aw_iadd (M := M_X9_addThing) (pc := 77) dX9_addThing_77 rfl o13 ?_
    refine pf_X9_9 (M := M_X9_addThing) (pc := 78) rfl dX9_addThing_78 ho ?_
    obtain ⟨h14, eh14⟩ : ∃ y : Mem, y = mset h11 o 0 ((h11 o 0) + 1) := ⟨_, rfl⟩
    have hF := hF h14 eh14
    rw [← eh14]
    refine aw_aload_n (j := 0) (M := M_X9_addThing) (pc := 81) dX9_addThing_81 rfl rfl ?_
    refine gf_X9_9 (M := M_X9_addThing) (pc := 82) rfl dX9_addThing_82 ho ?_
    refine aw_iconst (M := M_X9_addThing) (pc := 85) dX9_addThing_85 ⟨by decide, by decide⟩ ?_
    obtain ⟨o15, hF⟩ := hF
    refine aw_isub (M := M_X9_addThing) (pc := 86) dX9_addThing_86 rfl o15 ?_
    exact aw_ireti (M := M_X9_addThing) (pc := 87) dX9_addThing_87 rfl ⟨_, rfl, hF⟩
  · have hF := hF.2 hc
    refine aw_iconst (M := M_X9_addThing) (pc := 9) dX9_addThing_9 ⟨by decide, by decide⟩ ?_
    exact aw_ireti (M := M_X9_addThing) (pc := 10) dX9_addThing_10 rfl ⟨_, rfl, hF⟩
abbrev M_X5_readThing : Hd := (cX5_readThing, 7, RX5, none, (5, 134), sc0)
def J_X5_readThing_24 (h : Mem)  (Q : Mem → Prop) : Prop :=
  (h 33 0 = (9 : Int) ∧ (F_X8_takeKeyword h 7 (fun h6 => (F_X5_takeNewName h6  (fun r9 h8 => (h8 33 0 = (9 : Int) ∧ (F_X8_takeKeyword h8 8 (fun h11 => (h11 33 0 = (9 : Int) ∧ (F_X8_takeNumberOf h11 0 9 (fun r15 h14 => (h14 33 0 = (9 : Int) ∧ (F_X8_takeKeyword h14 9 (fun h17 => (h17 33 0 = (9 : Int) ∧ (F_X8_takeNumberOf h17 1 24 (fun r21 h20 => (h20 33 0 = (9 : Int) ∧ (F_X8_takeKeyword h20 10 (fun h23 => (h23 33 0 = (9 : Int) ∧ (F_X8_takeNumberOf h23 1 24 (fun r27 h26 => (∃ r28 : Nat, h26 33 1 = (r28 : Int) ∧ lay r28 = (0, 4) ∧ (F_X9_addThing h26 (r28 + 1) r9 r15 r21 r27 (fun r30 h29 => (h29 33 0 = (9 : Int) ∧ (F_X8_isWord h29 11 (fun r33 h32 => ((r33 = 0 → Q h32) ∧ (¬ (r33 = 0) → ((r30 = (-1) → Q h32) ∧ (¬ (r30 = (-1)) → (h32 33 0 = (9 : Int) ∧ (F_X8_advance h32  (fun h35 => (∃ r37 : Nat, h35 33 1 = (r37 : Int) ∧ lay r37 = (0, 4) ∧ (h35 33 0 = (9 : Int) ∧ (∃ r39 : Nat, h35 33 1 = (r39 : Int) ∧ lay r39 = (0, 4) ∧ (InR ((h35 r39 0) - 1) ∧ (F_X8_takeNumberOf h35 0 ((h35 r39 0) - 1) (fun r42 h41 => (F_X9_throwInto h41 (r37 + 1) r30 r42 (fun h43 => Q h43))))))))))))))))))))))))))))))))))))))))))))
set_option maxRecDepth 100000 in
set_option maxHeartbeats 4000000 in
theorem j_X5_readThing_24 {h : Mem}  {Q : Mem → Prop}  (hF : J_X5_readThing_24 h  Q) : AW M_X5_readThing 24 [(0, vr 33)] [] h (qv Q) := by
  unfold J_X5_readThing_24 at hF
  refine aw_aload_n (j := 0) (M := M_X5_readThing) (pc := 24) dX5_readThing_24 rfl rfl ?_
  obtain ⟨o5, hF⟩ := hF
  refine gf_X5_9 (M := M_X5_readThing) (pc := 25) rfl dX5_readThing_25 rfl ?_
  refine aw_ref (a := 9) o5 ?_
  refine aw_bipush (M := M_X5_readThing) (pc := 28) dX5_readThing_28 ⟨rfl, ⟨by decide, by decide⟩⟩ ?_
  refine aw_cvv (as := [(0, 7)]) (st := []) (M := M_X5_readThing) (pc := 30) (f_X8_takeKeyword  hF) dX5_readThing_30 rfl (Or.inl ⟨_, _, _, rfl, rfl⟩) cy_X8_takeKeyword ml_X5_108 (by decide) (by decide) (Nat.le_of_ble_eq_true rfl) (fun h6 hF => ?_)
  refine aw_aload_n (j := 0) (M := M_X5_readThing) (pc := 33) dX5_readThing_33 rfl rfl ?_
  refine aw_cvl (as := []) (st := []) (M := M_X5_readThing) (pc := 34) (f_X5_takeNewName  hF) dX5_readThing_34 rfl (Or.inl ⟨_, _, _, rfl, rfl⟩) cy_X5_takeNewName ml_X5_111 (by decide) (by decide) (Nat.le_of_ble_eq_true rfl) (fun r9 h8 hF => ?_)
  refine aw_lstore_n (ls' := [(1, (1, r9)), (0, vr 33)]) (M := M_X5_readThing) (pc := 37) dX5_readThing_37 rfl (by decide) rfl ?_
  refine aw_aload_n (j := 1) (M := M_X5_readThing) (pc := 38) dX5_readThing_38 rfl rfl ?_
  obtain ⟨o10, hF⟩ := hF
  refine gf_X5_9 (M := M_X5_readThing) (pc := 39) rfl dX5_readThing_39 rfl ?_
  refine aw_ref (a := 9) o10 ?_
  refine aw_bipush (M := M_X5_readThing) (pc := 42) dX5_readThing_42 ⟨rfl, ⟨by decide, by decide⟩⟩ ?_
  refine aw_cvv (as := [(0, 8)]) (st := []) (M := M_X5_readThing) (pc := 44) (f_X8_takeKeyword  hF) dX5_readThing_44 rfl (Or.inl ⟨_, _, _, rfl, rfl⟩) cy_X8_takeKeyword ml_X5_108 (by decide) (by decide) (Nat.le_of_ble_eq_true rfl) (fun h11 hF => ?_)
  refine aw_aload_n (j := 1) (M := M_X5_readThing) (pc := 47) dX5_readThing_47 rfl rfl ?_
  obtain ⟨o13, hF⟩ := hF
  refine gf_X5_9 (M := M_X5_readThing) (pc := 48) rfl dX5_readThing_48 rfl ?_
  refine aw_ref (a := 9) o13 ?_
  refine aw_iconst (M := M_X5_readThing) (pc := 51) dX5_readThing_51 ⟨by decide, by decide⟩ ?_
  refine aw_bipush (M := M_X5_readThing) (pc := 52) dX5_readThing_52 ⟨rfl, ⟨by decide, by decide⟩⟩ ?_
  refine aw_cvi (as := [(0, 0), (0, 9)]) (st := []) (M := M_X5_readThing) (pc := 54) (f_X8_takeNumberOf  hF) dX5_readThing_54 rfl (Or.inl ⟨_, _, _, rfl, rfl⟩) cy_X8_takeNumberOf ml_X5_48 (by decide) (by decide) (Nat.le_of_ble_eq_true rfl) (fun r15 h14 hF => ?_)
  refine aw_istore_n (ls' := [(3, (0, r15)), (1, (1, r9)), (0, vr 33)]) (M := M_X5_readThing) (pc := 57) dX5_readThing_57 rfl (by decide) rfl ?_
  refine aw_aload_n (j := 2) (M := M_X5_readThing) (pc := 58) dX5_readThing_58 rfl rfl ?_
  obtain ⟨o16, hF⟩ := hF
  refine gf_X5_9 (M := M_X5_readThing) (pc := 59) rfl dX5_readThing_59 rfl ?_
  refine aw_ref (a := 9) o16 ?_
  refine aw_bipush (M := M_X5_readThing) (pc := 62) dX5_readThing_62 ⟨rfl, ⟨by decide, by decide⟩⟩ ?_
  refine aw_cvv (as := [(0, 9)]) (st := []) (M := M_X5_readThing) (pc := 64) (f_X8_takeKeyword  hF) dX5_readThing_64 rfl (Or.inl ⟨_, _, _, rfl, rfl⟩) cy_X8_takeKeyword ml_X5_108 (by decide) (by decide) (Nat.le_of_ble_eq_true rfl) (fun h17 hF => ?_)
  refine aw_aload_n (j := 2) (M := M_X5_readThing) (pc := 67) dX5_readThing_67 rfl rfl ?_
  obtain ⟨o19, hF⟩ := hF
  refine gf_X5_9 (M := M_X5_readThing) (pc := 68) rfl dX5_readThing_68 rfl ?_
  refine aw_ref (a := 9) o19 ?_
  refine aw_iconst (M := M_X5_readThing) (pc := 71) dX5_readThing_71 ⟨by decide, by decide⟩ ?_
  refine aw_bipush (M := M_X5_readThing) (pc := 72) dX5_readThing_72 ⟨rfl, ⟨by decide, by decide⟩⟩ ?_
  refine aw_cvi (as := [(0, 1), (0, 24)]) (st := []) (M := M_X5_readThing) (pc := 74) (f_X8_takeNumberOf  hF) dX5_readThing_74 rfl (Or.inl ⟨_, _, _, rfl, rfl⟩) cy_X8_takeNumberOf ml_X5_48 (by decide) (by decide) (Nat.le_of_ble_eq_true rfl) (fun r21 h20 hF => ?_)
  refine aw_istore (ls' := [(4, (0, r21)), (3, (0, r15)), (1, (1, r9)), (0, vr 33)]) (M := M_X5_readThing) (pc := 77) dX5_readThing_77  (by decide) rfl ?_
  refine aw_aload_n (j := 3) (M := M_X5_readThing) (pc := 79) dX5_readThing_79 rfl rfl ?_
  obtain ⟨o22, hF⟩ := hF
  refine gf_X5_9 (M := M_X5_readThing) (pc := 80) rfl dX5_readThing_80 rfl ?_
  refine aw_ref (a := 9) o22 ?_
  refine aw_bipush (M := M_X5_readThing) (pc := 83) dX5_readThing_83 ⟨rfl, ⟨by decide, by decide⟩⟩ ?_
  refine aw_cvv (as := [(0, 10)]) (st := []) (M := M_X5_readThing) (pc := 85) (f_X8_takeKeyword  hF) dX5_readThing_85 rfl (Or.inl ⟨_, _, _, rfl, rfl⟩) cy_X8_takeKeyword ml_X5_108 (by decide) (by decide) (Nat.le_of_ble_eq_true rfl) (fun h23 hF => ?_)
  refine aw_aload_n (j := 3) (M := M_X5_readThing) (pc := 88) dX5_readThing_88 rfl rfl ?_
  obtain ⟨o25, hF⟩ := hF
  refine gf_X5_9 (M := M_X5_readThing) (pc := 89) rfl dX5_readThing_89 rfl ?_
  refine aw_ref (a := 9) o25 ?_
  refine aw_iconst (M := M_X5_readThing) (pc := 92) dX5_readThing_92 ⟨by decide, by decide⟩ ?_
  refine aw_bipush (M := M_X5_readThing) (pc := 93) dX5_readThing_93 ⟨rfl, ⟨by decide, by decide⟩⟩ ?_
  refine aw_cvi (as := [(0, 1), (0, 24)]) (st := []) (M := M_X5_readThing) (pc := 95) (f_X8_takeNumberOf  hF) dX5_readThing_95 rfl (Or.inl ⟨_, _, _, rfl, rfl⟩) cy_X8_takeNumberOf ml_X5_48 (by decide) (by decide) (Nat.le_of_ble_eq_true rfl) (fun r27 h26 hF => ?_)
  refine aw_istore (ls' := [(5, (0, r27)), (4, (0, r21)), (3, (0, r15)), (1, (1, r9)), (0, vr 33)]) (M := M_X5_readThing) (pc := 98) dX5_readThing_98  (by decide) rfl ?_
  refine aw_aload_n (j := 4) (M := M_X5_readThing) (pc := 100) dX5_readThing_100 rfl rfl ?_
  refine gf_X5_15 (M := M_X5_readThing) (pc := 101) rfl dX5_readThing_101 rfl ?_
  obtain ⟨r28, er28, lr28, hF⟩ := hF
  refine aw_ref (a := r28) er28 ?_
  refine gf_X5_80 (M := M_X5_readThing) (pc := 104) rfl dX5_readThing_104 lr28 (r := r28 + 1) rfl ?_
  refine aw_lload_n (j := 3) (M := M_X5_readThing) (pc := 107) dX5_readThing_107 rfl rfl ?_
  refine aw_iload_n (j := 2) (M := M_X5_readThing) (pc := 108) dX5_readThing_108 rfl rfl ?_
  refine aw_iload (j := 1) (M := M_X5_readThing) (pc := 109) dX5_readThing_109  rfl ?_
  refine aw_iload (j := 0) (M := M_X5_readThing) (pc := 111) dX5_readThing_111  rfl ?_
  refine aw_cvi (as := [(1, r9), (0, r15), (0, r21), (0, r27)]) (st := []) (M := M_X5_readThing) (pc := 113) (f_X9_addThing (ll_4_7 lr28) hF) dX5_readThing_113 rfl (Or.inl ⟨_, _, _, (ll_4_7 lr28), rfl⟩) cy_X9_addThing ml_X5_115 (by decide) (by decide) (Nat.le_of_ble_eq_true rfl) (fun r30 h29 hF => ?_)
  refine aw_istore (ls' := [(6, (0, r30)), (5, (0, r27)), (4, (0, r21)), (3, (0, r15)), (1, (1, r9)), (0, vr 33)]) (M := M_X5_readThing) (pc := 116) dX5_readThing_116  (by decide) rfl ?_
  refine aw_aload_n (j := 5) (M := M_X5_readThing) (pc := 118) dX5_readThing_118 rfl rfl ?_
  obtain ⟨o31, hF⟩ := hF
  refine gf_X5_9 (M := M_X5_readThing) (pc := 119) rfl dX5_readThing_119 rfl ?_
  refine aw_ref (a := 9) o31 ?_
  refine aw_bipush (M := M_X5_readThing) (pc := 122) dX5_readThing_122 ⟨rfl, ⟨by decide, by decide⟩⟩ ?_
  refine aw_cvi (as := [(0, 11)]) (st := []) (M := M_X5_readThing) (pc := 124) (f_X8_isWord  hF) dX5_readThing_124 rfl (Or.inl ⟨_, _, _, rfl, rfl⟩) cy_X8_isWord ml_X5_102 (by decide) (by decide) (Nat.le_of_ble_eq_true rfl) (fun r33 h32 hF => ?_)
  refine aw_if_eq (tgt := 172) (M := M_X5_readThing) (pc := 127) dX5_readThing_127 rfl (fun hc => ?_) (fun hc => ?_)
  · have hF := hF.1 hc
    exact aw_ret (M := M_X5_readThing) (pc := 172) dX5_readThing_172 rfl ⟨rfl, hF⟩
  · have hF := hF.2 hc
    refine aw_iload (j := 0) (M := M_X5_readThing) (pc := 130) dX5_readThing_130  rfl ?_
    refine aw_iconst (M := M_X5_readThing) (pc := 132) dX5_readThing_132 ⟨by decide, by decide⟩ ?_
    refine aw_icmp_eq (tgt := 172) (M := M_X5_readThing) (pc := 133) dX5_readThing_133 rfl (fun hc => ?_) (fun hc => ?_)
    · have hF := hF.1 hc
      exact aw_ret (M := M_X5_readThing) (pc := 172) dX5_readThing_172 rfl ⟨rfl, hF⟩
    · have hF := hF.2 hc
      refine aw_aload_n (j := 5) (M := M_X5_readThing) (pc := 136) dX5_readThing_136 rfl rfl ?_
      obtain ⟨o34, hF⟩ := hF
      refine gf_X5_9 (M := M_X5_readThing) (pc := 137) rfl dX5_readThing_137 rfl ?_
      refine aw_ref (a := 9) o34 ?_
      refine aw_cvv (as := []) (st := []) (M := M_X5_readThing) (pc := 140) (f_X8_advance  hF) dX5_readThing_140 rfl (Or.inl ⟨_, _, _, rfl, rfl⟩) cy_X8_advance ml_X5_77 (by decide) (by decide) (Nat.le_of_ble_eq_true rfl) (fun h35 hF => ?_)
      refine aw_aload_n (j := 5) (M := M_X5_readThing) (pc := 143) dX5_readThing_143 rfl rfl ?_
      refine gf_X5_15 (M := M_X5_readThing) (pc := 144) rfl dX5_readThing_144 rfl ?_
      obtain ⟨r37, er37, lr37, hF⟩ := hF
      refine aw_ref (a := r37) er37 ?_
      refine gf_X5_80 (M := M_X5_readThing) (pc := 147) rfl dX5_readThing_147 lr37 (r := r37 + 1) rfl ?_
      refine aw_iload (j := 0) (M := M_X5_readThing) (pc := 150) dX5_readThing_150  rfl ?_
      refine aw_aload_n (j := 5) (M := M_X5_readThing) (pc := 152) dX5_readThing_152 rfl rfl ?_
      obtain ⟨o38, hF⟩ := hF
      refine gf_X5_9 (M := M_X5_readThing) (pc := 153) rfl dX5_readThing_153 rfl ?_
      refine aw_ref (a := 9) o38 ?_
      refine aw_iconst (M := M_X5_readThing) (pc := 156) dX5_readThing_156 ⟨by decide, by decide⟩ ?_
      refine aw_aload_n (j := 5) (M := M_X5_readThing) (pc := 157) dX5_readThing_157 rfl rfl ?_
      refine gf_X5_15 (M := M_X5_readThing) (pc := 158) rfl dX5_readThing_158 rfl ?_
      obtain ⟨r39, er39, lr39, hF⟩ := hF
      refine aw_ref (a := r39) er39 ?_
      refine gf_X5_96 (M := M_X5_readThing) (pc := 161) rfl dX5_readThing_161 lr39 ?_
      refine aw_iconst (M := M_X5_readThing) (pc := 164) dX5_readThing_164 ⟨by decide, by decide⟩ ?_
      obtain ⟨o40, hF⟩ := hF
      refine aw_isub (M := M_X5_readThing) (pc := 165) dX5_readThing_165 rfl o40 ?_
      refine aw_cvi (as := [(0, 0), (0, (h35 r39 0) - 1)]) (st := [(0, r30), vr (r37 + 1)]) (M := M_X5_readThing) (pc := 166) (f_X8_takeNumberOf  hF) dX5_readThing_166 rfl (Or.inl ⟨_, _, _, rfl, rfl⟩) cy_X8_takeNumberOf ml_X5_48 (by decide) (by decide) (Nat.le_of_ble_eq_true rfl) (fun r42 h41 hF => ?_)
      refine aw_cvv (as := [(0, r30), (0, r42)]) (st := []) (M := M_X5_readThing) (pc := 169) (f_X9_throwInto (ll_4_7 lr37) hF) dX5_readThing_169 rfl (Or.inl ⟨_, _, _, (ll_4_7 lr37), rfl⟩) cy_X9_throwInto ml_X5_119 (by decide) (by decide) (Nat.le_of_ble_eq_true rfl) (fun h43 hF => ?_)
      exact aw_ret (M := M_X5_readThing) (pc := 172) dX5_readThing_172 rfl ⟨rfl, hF⟩
def F_X5_readThing (h : Mem)  (Q : Mem → Prop) : Prop :=
  (∃ r1 : Nat, h 33 1 = (r1 : Int) ∧ lay r1 = (0, 4) ∧ (((h (r1 + 1) 0) < 8 → J_X5_readThing_24 h  Q) ∧ (¬ ((h (r1 + 1) 0) < 8) → (h 33 0 = (9 : Int) ∧ (F_X8_fail h 6 (fun h3 => J_X5_readThing_24 h3  Q))))))
set_option maxRecDepth 100000 in
set_option maxHeartbeats 4000000 in
theorem f_X5_readThing {h : Mem}  {Q : Mem → Prop}  (hF : F_X5_readThing h  Q) : Ct yX5_readThing cX5_readThing 7 none (5, 134) [vr 33] h (qv Q) := by
  refine Ct.of np_RX5 (Nat.le_of_ble_eq_true rfl) ?_
  unfold F_X5_readThing at hF
  show AW M_X5_readThing 0 [(0, vr 33)] [] h (qv Q)
  refine aw_aload_n (j := 0) (M := M_X5_readThing) (pc := 0) dX5_readThing_0 rfl rfl ?_
  refine gf_X5_15 (M := M_X5_readThing) (pc := 1) rfl dX5_readThing_1 rfl ?_
  obtain ⟨r1, er1, lr1, hF⟩ := hF
  refine aw_ref (a := r1) er1 ?_
  refine gf_X5_80 (M := M_X5_readThing) (pc := 4) rfl dX5_readThing_4 lr1 (r := r1 + 1) rfl ?_
  refine gf_X5_84 (M := M_X5_readThing) (pc := 7) rfl dX5_readThing_7 (ll_4_7 lr1) ?_
  refine aw_bipush (M := M_X5_readThing) (pc := 10) dX5_readThing_10 ⟨rfl, ⟨by decide, by decide⟩⟩ ?_
  refine aw_icmp_lt (tgt := 24) (M := M_X5_readThing) (pc := 12) dX5_readThing_12 rfl (fun hc => ?_) (fun hc => ?_)
  · have hF := hF.1 hc
    exact aw_ls [0] rfl (j_X5_readThing_24  hF)
  · have hF := hF.2 hc
    refine aw_aload_n (j := 0) (M := M_X5_readThing) (pc := 15) dX5_readThing_15 rfl rfl ?_
    obtain ⟨o2, hF⟩ := hF
    refine gf_X5_9 (M := M_X5_readThing) (pc := 16) rfl dX5_readThing_16 rfl ?_
    refine aw_ref (a := 9) o2 ?_
    refine aw_bipush (M := M_X5_readThing) (pc := 19) dX5_readThing_19 ⟨rfl, ⟨by decide, by decide⟩⟩ ?_
    refine aw_cvv (as := [(0, 6)]) (st := []) (M := M_X5_readThing) (pc := 21) (f_X8_fail  hF) dX5_readThing_21 rfl (Or.inl ⟨_, _, _, rfl, rfl⟩) cy_X8_fail ml_X5_67 (by decide) (by decide) (Nat.le_of_ble_eq_true rfl) (fun h3 hF => ?_)
    exact aw_ls [0] rfl (j_X5_readThing_24  hF)
theorem so_X5_readPart_7 {x : Int} (h0 : ¬ x = 0) (h1 : ¬ x = 1) (h2 : ¬ x = 2) (h3 : ¬ x = 3) (h4 : ¬ x = 4) (h5 : ¬ x = 5) (h6 : ¬ x = 6) (h7 : ¬ x = 7) (h8 : ¬ x = 8) (h9 : ¬ x = 9) (h10 : ¬ x = 10) (h11 : ¬ x = 11) (h12 : ¬ x = 12) : x < 0 ∨ 12 < x := by omega
abbrev M_X5_readPart : Hd := (cX5_readPart, 1, RX5, none, (6, 160), sc0)
def F_X5_readPart (h : Mem)  (Q : Mem → Prop) : Prop :=
  (h 33 0 = (9 : Int) ∧ (F_X8_keyword h  (fun r3 h2 => ((r3 = 0 → (F_X5_readLong h2  (fun h4 => (h4 33 0 = (9 : Int) ∧ (F_X8_takeSemicolon h4  (fun h7 => Q h7)))))) ∧ ((r3 = 1 → (F_X5_takeOnce h2 1 (fun h9 => (∃ r11 : Nat, h9 33 1 = (r11 : Int) ∧ lay r11 = (0, 4) ∧ (h9 33 0 = (9 : Int) ∧ (F_X8_takeNumberOf h9 1 40 (fun r14 h13 => (∀ h15 : Mem, h15 = mset h13 r11 1 r14 → (h15 33 0 = (9 : Int) ∧ (F_X8_takeSemicolon h15  (fun h17 => Q h17))))))))))) ∧ ((r3 = 2 → (F_X5_takeOnce h2 2 (fun h19 => (∃ r21 : Nat, h19 33 1 = (r21 : Int) ∧ lay r21 = (0, 4) ∧ (h19 33 0 = (9 : Int) ∧ (F_X8_takeNumberOf h19 0 16 (fun r24 h23 => (∀ h25 : Mem, h25 = mset h23 r21 2 r24 → (h25 33 0 = (9 : Int) ∧ (F_X8_takeSemicolon h25  (fun h27 => Q h27))))))))))) ∧ ((r3 = 3 → (F_X5_readStream h2  (fun h29 => (h29 33 0 = (9 : Int) ∧ (F_X8_takeSemicolon h29  (fun h32 => Q h32)))))) ∧ ((r3 = 4 → (h2 33 0 = (9 : Int) ∧ (F_X8_fail h2 2 (fun h35 => (h35 33 0 = (9 : Int) ∧ (F_X8_takeSemicolon h35  (fun h38 => Q h38))))))) ∧ ((r3 = 5 → (h2 33 0 = (9 : Int) ∧ (F_X8_fail h2 2 (fun h41 => (h41 33 0 = (9 : Int) ∧ (F_X8_takeSemicolon h41  (fun h44 => Q h44))))))) ∧ ((r3 = 6 → (h2 33 0 = (9 : Int) ∧ (F_X8_fail h2 2 (fun h47 => (h47 33 0 = (9 : Int) ∧ (F_X8_takeSemicolon h47  (fun h50 => Q h50))))))) ∧ ((r3 = 7 → (F_X5_readThing h2  (fun h52 => (h52 33 0 = (9 : Int) ∧ (F_X8_takeSemicolon h52  (fun h55 => Q h55)))))) ∧ ((r3 = 8 → (h2 33 0 = (9 : Int) ∧ (F_X8_fail h2 2 (fun h58 => (h58 33 0 = (9 : Int) ∧ (F_X8_takeSemicolon h58  (fun h61 => Q h61))))))) ∧ ((r3 = 9 → (h2 33 0 = (9 : Int) ∧ (F_X8_fail h2 2 (fun h64 => (h64 33 0 = (9 : Int) ∧ (F_X8_takeSemicolon h64  (fun h67 => Q h67))))))) ∧ ((r3 = 10 → (h2 33 0 = (9 : Int) ∧ (F_X8_fail h2 2 (fun h70 => (h70 33 0 = (9 : Int) ∧ (F_X8_takeSemicolon h70  (fun h73 => Q h73))))))) ∧ ((r3 = 11 → (h2 33 0 = (9 : Int) ∧ (F_X8_fail h2 2 (fun h76 => (h76 33 0 = (9 : Int) ∧ (F_X8_takeSemicolon h76  (fun h79 => Q h79))))))) ∧ ((r3 = 12 → (F_X5_readMill h2  (fun h81 => (h81 33 0 = (9 : Int) ∧ (F_X8_takeSemicolon h81  (fun h84 => Q h84)))))) ∧ ((r3 < 0 ∨ 12 < r3) → (h2 33 0 = (9 : Int) ∧ (F_X8_fail h2 2 (fun h87 => (h87 33 0 = (9 : Int) ∧ (F_X8_takeSemicolon h87  (fun h90 => Q h90)))))))))))))))))))))))
set_option maxRecDepth 100000 in
set_option maxHeartbeats 4000000 in
theorem f_X5_readPart {h : Mem}  {Q : Mem → Prop}  (hF : F_X5_readPart h  Q) : Ct yX5_readPart cX5_readPart 1 none (6, 160) [vr 33] h (qv Q) := by
  refine Ct.of np_RX5 (Nat.le_of_ble_eq_true rfl) ?_
  unfold F_X5_readPart at hF
  show AW M_X5_readPart 0 [(0, vr 33)] [] h (qv Q)
  refine aw_aload_n (j := 0) (M := M_X5_readPart) (pc := 0) dX5_readPart_0 rfl rfl ?_
  obtain ⟨o1, hF⟩ := hF
  refine gf_X5_9 (M := M_X5_readPart) (pc := 1) rfl dX5_readPart_1 rfl ?_
  refine aw_ref (a := 9) o1 ?_
  refine aw_cvi (as := []) (st := []) (M := M_X5_readPart) (pc := 4) (f_X8_keyword  hF) dX5_readPart_4 rfl (Or.inl ⟨_, _, _, rfl, rfl⟩) cy_X8_keyword ml_X5_37 (by decide) (by decide) (Nat.le_of_ble_eq_true rfl) (fun r3 h2 hF => ?_)
  by_cases hc : r3 = 0
  · have hF := hF.1 hc
    refine aw_tableIn (tgt := 72) (M := M_X5_readPart) (pc := 7) dX5_readPart_7 (by rw [hc]; decide) (by rw [hc]; decide) (off := 65) (by rw [hc]; rfl) rfl ?_
    refine aw_aload_n (j := 0) (M := M_X5_readPart) (pc := 72) dX5_readPart_72 rfl rfl ?_
    refine aw_cvv (as := []) (st := []) (M := M_X5_readPart) (pc := 73) (f_X5_readLong  hF) dX5_readPart_73 rfl (Or.inl ⟨_, _, _, rfl, rfl⟩) cy_X5_readLong ml_X5_41 (by decide) (by decide) (Nat.le_of_ble_eq_true rfl) (fun h4 hF => ?_)
    refine aw_goto (tgt := 158) (M := M_X5_readPart) (pc := 76) dX5_readPart_76 rfl ?_
    refine aw_aload_n (j := 0) (M := M_X5_readPart) (pc := 158) dX5_readPart_158 rfl rfl ?_
    obtain ⟨o6, hF⟩ := hF
    refine gf_X5_9 (M := M_X5_readPart) (pc := 159) rfl dX5_readPart_159 rfl ?_
    refine aw_ref (a := 9) o6 ?_
    refine aw_cvv (as := []) (st := []) (M := M_X5_readPart) (pc := 162) (f_X8_takeSemicolon  hF) dX5_readPart_162 rfl (Or.inl ⟨_, _, _, rfl, rfl⟩) cy_X8_takeSemicolon ml_X5_70 (by decide) (by decide) (Nat.le_of_ble_eq_true rfl) (fun h7 hF => ?_)
    exact aw_ret (M := M_X5_readPart) (pc := 165) dX5_readPart_165 rfl ⟨rfl, hF⟩
  have hF := hF.2
  have hc0 := hc
  by_cases hc : r3 = 1
  · have hF := hF.1 hc
    refine aw_tableIn (tgt := 79) (M := M_X5_readPart) (pc := 7) dX5_readPart_7 (by rw [hc]; decide) (by rw [hc]; decide) (off := 72) (by rw [hc]; rfl) rfl ?_
    refine aw_aload_n (j := 0) (M := M_X5_readPart) (pc := 79) dX5_readPart_79 rfl rfl ?_
    refine aw_iconst (M := M_X5_readPart) (pc := 80) dX5_readPart_80 ⟨by decide, by decide⟩ ?_
    refine aw_cvv (as := [(0, 1)]) (st := []) (M := M_X5_readPart) (pc := 81) (f_X5_takeOnce  hF) dX5_readPart_81 rfl (Or.inl ⟨_, _, _, rfl, rfl⟩) cy_X5_takeOnce ml_X5_44 (by decide) (by decide) (Nat.le_of_ble_eq_true rfl) (fun h9 hF => ?_)
    refine aw_aload_n (j := 0) (M := M_X5_readPart) (pc := 84) dX5_readPart_84 rfl rfl ?_
    refine gf_X5_15 (M := M_X5_readPart) (pc := 85) rfl dX5_readPart_85 rfl ?_
    obtain ⟨r11, er11, lr11, hF⟩ := hF
    refine aw_ref (a := r11) er11 ?_
    refine aw_aload_n (j := 0) (M := M_X5_readPart) (pc := 88) dX5_readPart_88 rfl rfl ?_
    obtain ⟨o12, hF⟩ := hF
    refine gf_X5_9 (M := M_X5_readPart) (pc := 89) rfl dX5_readPart_89 rfl ?_
    refine aw_ref (a := 9) o12 ?_
    refine aw_iconst (M := M_X5_readPart) (pc := 92) dX5_readPart_92 ⟨by decide, by decide⟩ ?_
    refine aw_bipush (M := M_X5_readPart) (pc := 93) dX5_readPart_93 ⟨rfl, ⟨by decide, by decide⟩⟩ ?_
    refine aw_cvi (as := [(0, 1), (0, 40)]) (st := [vr r11]) (M := M_X5_readPart) (pc := 95) (f_X8_takeNumberOf  hF) dX5_readPart_95 rfl (Or.inl ⟨_, _, _, rfl, rfl⟩) cy_X8_takeNumberOf ml_X5_48 (by decide) (by decide) (Nat.le_of_ble_eq_true rfl) (fun r14 h13 hF => ?_)
    refine pf_X5_52 (M := M_X5_readPart) (pc := 98) rfl dX5_readPart_98 lr11 ?_
    obtain ⟨h15, eh15⟩ : ∃ y : Mem, y = mset h13 r11 1 r14 := ⟨_, rfl⟩
    have hF := hF h15 eh15
    rw [← eh15]
    refine aw_goto (tgt := 158) (M := M_X5_readPart) (pc := 101) dX5_readPart_101 rfl ?_
    refine aw_aload_n (j := 0) (M := M_X5_readPart) (pc := 158) dX5_readPart_158 rfl rfl ?_
    obtain ⟨o16, hF⟩ := hF
    refine gf_X5_9 (M := M_X5_readPart) (pc := 159) rfl dX5_readPart_159 rfl ?_
    refine aw_ref (a := 9) o16 ?_
    refine aw_cvv (as := []) (st := []) (M := M_X5_readPart) (pc := 162) (f_X8_takeSemicolon  hF) dX5_readPart_162 rfl (Or.inl ⟨_, _, _, rfl, rfl⟩) cy_X8_takeSemicolon ml_X5_70 (by decide) (by decide) (Nat.le_of_ble_eq_true rfl) (fun h17 hF => ?_)
    exact aw_ret (M := M_X5_readPart) (pc := 165) dX5_readPart_165 rfl ⟨rfl, hF⟩
  have hF := hF.2
  have hc1 := hc
  by_cases hc : r3 = 2
  · have hF := hF.1 hc
    refine aw_tableIn (tgt := 104) (M := M_X5_readPart) (pc := 7) dX5_readPart_7 (by rw [hc]; decide) (by rw [hc]; decide) (off := 97) (by rw [hc]; rfl) rfl ?_
    refine aw_aload_n (j := 0) (M := M_X5_readPart) (pc := 104) dX5_readPart_104 rfl rfl ?_
    refine aw_iconst (M := M_X5_readPart) (pc := 105) dX5_readPart_105 ⟨by decide, by decide⟩ ?_
    refine aw_cvv (as := [(0, 2)]) (st := []) (M := M_X5_readPart) (pc := 106) (f_X5_takeOnce  hF) dX5_readPart_106 rfl (Or.inl ⟨_, _, _, rfl, rfl⟩) cy_X5_takeOnce ml_X5_44 (by decide) (by decide) (Nat.le_of_ble_eq_true rfl) (fun h19 hF => ?_)
    refine aw_aload_n (j := 0) (M := M_X5_readPart) (pc := 109) dX5_readPart_109 rfl rfl ?_
    refine gf_X5_15 (M := M_X5_readPart) (pc := 110) rfl dX5_readPart_110 rfl ?_
    obtain ⟨r21, er21, lr21, hF⟩ := hF
    refine aw_ref (a := r21) er21 ?_
    refine aw_aload_n (j := 0) (M := M_X5_readPart) (pc := 113) dX5_readPart_113 rfl rfl ?_
    obtain ⟨o22, hF⟩ := hF
    refine gf_X5_9 (M := M_X5_readPart) (pc := 114) rfl dX5_readPart_114 rfl ?_
    refine aw_ref (a := 9) o22 ?_
    refine aw_iconst (M := M_X5_readPart) (pc := 117) dX5_readPart_117 ⟨by decide, by decide⟩ ?_
    refine aw_bipush (M := M_X5_readPart) (pc := 118) dX5_readPart_118 ⟨rfl, ⟨by decide, by decide⟩⟩ ?_
    refine aw_cvi (as := [(0, 0), (0, 16)]) (st := [vr r21]) (M := M_X5_readPart) (pc := 120) (f_X8_takeNumberOf  hF) dX5_readPart_120 rfl (Or.inl ⟨_, _, _, rfl, rfl⟩) cy_X8_takeNumberOf ml_X5_48 (by decide) (by decide) (Nat.le_of_ble_eq_true rfl) (fun r24 h23 hF => ?_)
    refine pf_X5_55 (M := M_X5_readPart) (pc := 123) rfl dX5_readPart_123 lr21 ?_
    obtain ⟨h25, eh25⟩ : ∃ y : Mem, y = mset h23 r21 2 r24 := ⟨_, rfl⟩
    have hF := hF h25 eh25
    rw [← eh25]
    refine aw_goto (tgt := 158) (M := M_X5_readPart) (pc := 126) dX5_readPart_126 rfl ?_
    refine aw_aload_n (j := 0) (M := M_X5_readPart) (pc := 158) dX5_readPart_158 rfl rfl ?_
    obtain ⟨o26, hF⟩ := hF
    refine gf_X5_9 (M := M_X5_readPart) (pc := 159) rfl dX5_readPart_159 rfl ?_
    refine aw_ref (a := 9) o26 ?_
    refine aw_cvv (as := []) (st := []) (M := M_X5_readPart) (pc := 162) (f_X8_takeSemicolon  hF) dX5_readPart_162 rfl (Or.inl ⟨_, _, _, rfl, rfl⟩) cy_X8_takeSemicolon ml_X5_70 (by decide) (by decide) (Nat.le_of_ble_eq_true rfl) (fun h27 hF => ?_)
    exact aw_ret (M := M_X5_readPart) (pc := 165) dX5_readPart_165 rfl ⟨rfl, hF⟩
  have hF := hF.2
  have hc2 := hc
  by_cases hc : r3 = 3
  · have hF := hF.1 hc
    refine aw_tableIn (tgt := 129) (M := M_X5_readPart) (pc := 7) dX5_readPart_7 (by rw [hc]; decide) (by rw [hc]; decide) (off := 122) (by rw [hc]; rfl) rfl ?_
    refine aw_aload_n (j := 0) (M := M_X5_readPart) (pc := 129) dX5_readPart_129 rfl rfl ?_
    refine aw_cvv (as := []) (st := []) (M := M_X5_readPart) (pc := 130) (f_X5_readStream  hF) dX5_readPart_130 rfl (Or.inl ⟨_, _, _, rfl, rfl⟩) cy_X5_readStream ml_X5_58 (by decide) (by decide) (Nat.le_of_ble_eq_true rfl) (fun h29 hF => ?_)
    refine aw_goto (tgt := 158) (M := M_X5_readPart) (pc := 133) dX5_readPart_133 rfl ?_
    refine aw_aload_n (j := 0) (M := M_X5_readPart) (pc := 158) dX5_readPart_158 rfl rfl ?_
    obtain ⟨o31, hF⟩ := hF
    refine gf_X5_9 (M := M_X5_readPart) (pc := 159) rfl dX5_readPart_159 rfl ?_
    refine aw_ref (a := 9) o31 ?_
    refine aw_cvv (as := []) (st := []) (M := M_X5_readPart) (pc := 162) (f_X8_takeSemicolon  hF) dX5_readPart_162 rfl (Or.inl ⟨_, _, _, rfl, rfl⟩) cy_X8_takeSemicolon ml_X5_70 (by decide) (by decide) (Nat.le_of_ble_eq_true rfl) (fun h32 hF => ?_)
    exact aw_ret (M := M_X5_readPart) (pc := 165) dX5_readPart_165 rfl ⟨rfl, hF⟩
  have hF := hF.2
  have hc3 := hc
  by_cases hc : r3 = 4
  · have hF := hF.1 hc
    refine aw_tableIn (tgt := 150) (M := M_X5_readPart) (pc := 7) dX5_readPart_7 (by rw [hc]; decide) (by rw [hc]; decide) (off := 143) (by rw [hc]; rfl) rfl ?_
    refine aw_aload_n (j := 0) (M := M_X5_readPart) (pc := 150) dX5_readPart_150 rfl rfl ?_
    obtain ⟨o34, hF⟩ := hF
    refine gf_X5_9 (M := M_X5_readPart) (pc := 151) rfl dX5_readPart_151 rfl ?_
    refine aw_ref (a := 9) o34 ?_
    refine aw_iconst (M := M_X5_readPart) (pc := 154) dX5_readPart_154 ⟨by decide, by decide⟩ ?_
    refine aw_cvv (as := [(0, 2)]) (st := []) (M := M_X5_readPart) (pc := 155) (f_X8_fail  hF) dX5_readPart_155 rfl (Or.inl ⟨_, _, _, rfl, rfl⟩) cy_X8_fail ml_X5_67 (by decide) (by decide) (Nat.le_of_ble_eq_true rfl) (fun h35 hF => ?_)
    refine aw_aload_n (j := 0) (M := M_X5_readPart) (pc := 158) dX5_readPart_158 rfl rfl ?_
    obtain ⟨o37, hF⟩ := hF
    refine gf_X5_9 (M := M_X5_readPart) (pc := 159) rfl dX5_readPart_159 rfl ?_
    refine aw_ref (a := 9) o37 ?_
    refine aw_cvv (as := []) (st := []) (M := M_X5_readPart) (pc := 162) (f_X8_takeSemicolon  hF) dX5_readPart_162 rfl (Or.inl ⟨_, _, _, rfl, rfl⟩) cy_X8_takeSemicolon ml_X5_70 (by decide) (by decide) (Nat.le_of_ble_eq_true rfl) (fun h38 hF => ?_)
    exact aw_ret (M := M_X5_readPart) (pc := 165) dX5_readPart_165 rfl ⟨rfl, hF⟩
  have hF := hF.2
  have hc4 := hc
  by_cases hc : r3 = 5
  · have hF := hF.1 hc
    refine aw_tableIn (tgt := 150) (M := M_X5_readPart) (pc := 7) dX5_readPart_7 (by rw [hc]; decide) (by rw [hc]; decide) (off := 143) (by rw [hc]; rfl) rfl ?_
    refine aw_aload_n (j := 0) (M := M_X5_readPart) (pc := 150) dX5_readPart_150 rfl rfl ?_
    obtain ⟨o40, hF⟩ := hF
    refine gf_X5_9 (M := M_X5_readPart) (pc := 151) rfl dX5_readPart_151 rfl ?_
    refine aw_ref (a := 9) o40 ?_
    refine aw_iconst (M := M_X5_readPart) (pc := 154) dX5_readPart_154 ⟨by decide, by decide⟩ ?_
    refine aw_cvv (as := [(0, 2)]) (st := []) (M := M_X5_readPart) (pc := 155) (f_X8_fail  hF) dX5_readPart_155 rfl (Or.inl ⟨_, _, _, rfl, rfl⟩) cy_X8_fail ml_X5_67 (by decide) (by decide) (Nat.le_of_ble_eq_true rfl) (fun h41 hF => ?_)
    refine aw_aload_n (j := 0) (M := M_X5_readPart) (pc := 158) dX5_readPart_158 rfl rfl ?_
    obtain ⟨o43, hF⟩ := hF
    refine gf_X5_9 (M := M_X5_readPart) (pc := 159) rfl dX5_readPart_159 rfl ?_
    refine aw_ref (a := 9) o43 ?_
    refine aw_cvv (as := []) (st := []) (M := M_X5_readPart) (pc := 162) (f_X8_takeSemicolon  hF) dX5_readPart_162 rfl (Or.inl ⟨_, _, _, rfl, rfl⟩) cy_X8_takeSemicolon ml_X5_70 (by decide) (by decide) (Nat.le_of_ble_eq_true rfl) (fun h44 hF => ?_)
    exact aw_ret (M := M_X5_readPart) (pc := 165) dX5_readPart_165 rfl ⟨rfl, hF⟩
  have hF := hF.2
  have hc5 := hc
  by_cases hc : r3 = 6
  · have hF := hF.1 hc
    refine aw_tableIn (tgt := 150) (M := M_X5_readPart) (pc := 7) dX5_readPart_7 (by rw [hc]; decide) (by rw [hc]; decide) (off := 143) (by rw [hc]; rfl) rfl ?_
    refine aw_aload_n (j := 0) (M := M_X5_readPart) (pc := 150) dX5_readPart_150 rfl rfl ?_
    obtain ⟨o46, hF⟩ := hF
    refine gf_X5_9 (M := M_X5_readPart) (pc := 151) rfl dX5_readPart_151 rfl ?_
    refine aw_ref (a := 9) o46 ?_
    refine aw_iconst (M := M_X5_readPart) (pc := 154) dX5_readPart_154 ⟨by decide, by decide⟩ ?_
    refine aw_cvv (as := [(0, 2)]) (st := []) (M := M_X5_readPart) (pc := 155) (f_X8_fail  hF) dX5_readPart_155 rfl (Or.inl ⟨_, _, _, rfl, rfl⟩) cy_X8_fail ml_X5_67 (by decide) (by decide) (Nat.le_of_ble_eq_true rfl) (fun h47 hF => ?_)
    refine aw_aload_n (j := 0) (M := M_X5_readPart) (pc := 158) dX5_readPart_158 rfl rfl ?_
    obtain ⟨o49, hF⟩ := hF
    refine gf_X5_9 (M := M_X5_readPart) (pc := 159) rfl dX5_readPart_159 rfl ?_
    refine aw_ref (a := 9) o49 ?_
    refine aw_cvv (as := []) (st := []) (M := M_X5_readPart) (pc := 162) (f_X8_takeSemicolon  hF) dX5_readPart_162 rfl (Or.inl ⟨_, _, _, rfl, rfl⟩) cy_X8_takeSemicolon ml_X5_70 (by decide) (by decide) (Nat.le_of_ble_eq_true rfl) (fun h50 hF => ?_)
    exact aw_ret (M := M_X5_readPart) (pc := 165) dX5_readPart_165 rfl ⟨rfl, hF⟩
  have hF := hF.2
  have hc6 := hc
  by_cases hc : r3 = 7
  · have hF := hF.1 hc
    refine aw_tableIn (tgt := 136) (M := M_X5_readPart) (pc := 7) dX5_readPart_7 (by rw [hc]; decide) (by rw [hc]; decide) (off := 129) (by rw [hc]; rfl) rfl ?_
    refine aw_aload_n (j := 0) (M := M_X5_readPart) (pc := 136) dX5_readPart_136 rfl rfl ?_
    refine aw_cvv (as := []) (st := []) (M := M_X5_readPart) (pc := 137) (f_X5_readThing  hF) dX5_readPart_137 rfl (Or.inl ⟨_, _, _, rfl, rfl⟩) cy_X5_readThing ml_X5_61 (by decide) (by decide) (Nat.le_of_ble_eq_true rfl) (fun h52 hF => ?_)
    refine aw_goto (tgt := 158) (M := M_X5_readPart) (pc := 140) dX5_readPart_140 rfl ?_
    refine aw_aload_n (j := 0) (M := M_X5_readPart) (pc := 158) dX5_readPart_158 rfl rfl ?_
    obtain ⟨o54, hF⟩ := hF
    refine gf_X5_9 (M := M_X5_readPart) (pc := 159) rfl dX5_readPart_159 rfl ?_
    refine aw_ref (a := 9) o54 ?_
    refine aw_cvv (as := []) (st := []) (M := M_X5_readPart) (pc := 162) (f_X8_takeSemicolon  hF) dX5_readPart_162 rfl (Or.inl ⟨_, _, _, rfl, rfl⟩) cy_X8_takeSemicolon ml_X5_70 (by decide) (by decide) (Nat.le_of_ble_eq_true rfl) (fun h55 hF => ?_)
    exact aw_ret (M := M_X5_readPart) (pc := 165) dX5_readPart_165 rfl ⟨rfl, hF⟩
  have hF := hF.2
  have hc7 := hc
  by_cases hc : r3 = 8
  · have hF := hF.1 hc
    refine aw_tableIn (tgt := 150) (M := M_X5_readPart) (pc := 7) dX5_readPart_7 (by rw [hc]; decide) (by rw [hc]; decide) (off := 143) (by rw [hc]; rfl) rfl ?_
    refine aw_aload_n (j := 0) (M := M_X5_readPart) (pc := 150) dX5_readPart_150 rfl rfl ?_
    obtain ⟨o57, hF⟩ := hF
    refine gf_X5_9 (M := M_X5_readPart) (pc := 151) rfl dX5_readPart_151 rfl ?_
    refine aw_ref (a := 9) o57 ?_
    refine aw_iconst (M := M_X5_readPart) (pc := 154) dX5_readPart_154 ⟨by decide, by decide⟩ ?_
    refine aw_cvv (as := [(0, 2)]) (st := []) (M := M_X5_readPart) (pc := 155) (f_X8_fail  hF) dX5_readPart_155 rfl (Or.inl ⟨_, _, _, rfl, rfl⟩) cy_X8_fail ml_X5_67 (by decide) (by decide) (Nat.le_of_ble_eq_true rfl) (fun h58 hF => ?_)
    refine aw_aload_n (j := 0) (M := M_X5_readPart) (pc := 158) dX5_readPart_158 rfl rfl ?_
    obtain ⟨o60, hF⟩ := hF
    refine gf_X5_9 (M := M_X5_readPart) (pc := 159) rfl dX5_readPart_159 rfl ?_
    refine aw_ref (a := 9) o60 ?_
    refine aw_cvv (as := []) (st := []) (M := M_X5_readPart) (pc := 162) (f_X8_takeSemicolon  hF) dX5_readPart_162 rfl (Or.inl ⟨_, _, _, rfl, rfl⟩) cy_X8_takeSemicolon ml_X5_70 (by decide) (by decide) (Nat.le_of_ble_eq_true rfl) (fun h61 hF => ?_)
    exact aw_ret (M := M_X5_readPart) (pc := 165) dX5_readPart_165 rfl ⟨rfl, hF⟩
  have hF := hF.2
  have hc8 := hc
  by_cases hc : r3 = 9
  · have hF := hF.1 hc
    refine aw_tableIn (tgt := 150) (M := M_X5_readPart) (pc := 7) dX5_readPart_7 (by rw [hc]; decide) (by rw [hc]; decide) (off := 143) (by rw [hc]; rfl) rfl ?_
    refine aw_aload_n (j := 0) (M := M_X5_readPart) (pc := 150) dX5_readPart_150 rfl rfl ?_
    obtain ⟨o63, hF⟩ := hF
    refine gf_X5_9 (M := M_X5_readPart) (pc := 151) rfl dX5_readPart_151 rfl ?_
    refine aw_ref (a := 9) o63 ?_
    refine aw_iconst (M := M_X5_readPart) (pc := 154) dX5_readPart_154 ⟨by decide, by decide⟩ ?_
    refine aw_cvv (as := [(0, 2)]) (st := []) (M := M_X5_readPart) (pc := 155) (f_X8_fail  hF) dX5_readPart_155 rfl (Or.inl ⟨_, _, _, rfl, rfl⟩) cy_X8_fail ml_X5_67 (by decide) (by decide) (Nat.le_of_ble_eq_true rfl) (fun h64 hF => ?_)
    refine aw_aload_n (j := 0) (M := M_X5_readPart) (pc := 158) dX5_readPart_158 rfl rfl ?_
    obtain ⟨o66, hF⟩ := hF
    refine gf_X5_9 (M := M_X5_readPart) (pc := 159) rfl dX5_readPart_159 rfl ?_
    refine aw_ref (a := 9) o66 ?_
    refine aw_cvv (as := []) (st := []) (M := M_X5_readPart) (pc := 162) (f_X8_takeSemicolon  hF) dX5_readPart_162 rfl (Or.inl ⟨_, _, _, rfl, rfl⟩) cy_X8_takeSemicolon ml_X5_70 (by decide) (by decide) (Nat.le_of_ble_eq_true rfl) (fun h67 hF => ?_)
    exact aw_ret (M := M_X5_readPart) (pc := 165) dX5_readPart_165 rfl ⟨rfl, hF⟩
  have hF := hF.2
  have hc9 := hc
  by_cases hc : r3 = 10
  · have hF := hF.1 hc
    refine aw_tableIn (tgt := 150) (M := M_X5_readPart) (pc := 7) dX5_readPart_7 (by rw [hc]; decide) (by rw [hc]; decide) (off := 143) (by rw [hc]; rfl) rfl ?_
    refine aw_aload_n (j := 0) (M := M_X5_readPart) (pc := 150) dX5_readPart_150 rfl rfl ?_
    obtain ⟨o69, hF⟩ := hF
    refine gf_X5_9 (M := M_X5_readPart) (pc := 151) rfl dX5_readPart_151 rfl ?_
    refine aw_ref (a := 9) o69 ?_
    refine aw_iconst (M := M_X5_readPart) (pc := 154) dX5_readPart_154 ⟨by decide, by decide⟩ ?_
    refine aw_cvv (as := [(0, 2)]) (st := []) (M := M_X5_readPart) (pc := 155) (f_X8_fail  hF) dX5_readPart_155 rfl (Or.inl ⟨_, _, _, rfl, rfl⟩) cy_X8_fail ml_X5_67 (by decide) (by decide) (Nat.le_of_ble_eq_true rfl) (fun h70 hF => ?_)
    refine aw_aload_n (j := 0) (M := M_X5_readPart) (pc := 158) dX5_readPart_158 rfl rfl ?_
    obtain ⟨o72, hF⟩ := hF
    refine gf_X5_9 (M := M_X5_readPart) (pc := 159) rfl dX5_readPart_159 rfl ?_
    refine aw_ref (a := 9) o72 ?_
    refine aw_cvv (as := []) (st := []) (M := M_X5_readPart) (pc := 162) (f_X8_takeSemicolon  hF) dX5_readPart_162 rfl (Or.inl ⟨_, _, _, rfl, rfl⟩) cy_X8_takeSemicolon ml_X5_70 (by decide) (by decide) (Nat.le_of_ble_eq_true rfl) (fun h73 hF => ?_)
    exact aw_ret (M := M_X5_readPart) (pc := 165) dX5_readPart_165 rfl ⟨rfl, hF⟩
  have hF := hF.2
  have hc10 := hc
  by_cases hc : r3 = 11
  · have hF := hF.1 hc
    refine aw_tableIn (tgt := 150) (M := M_X5_readPart) (pc := 7) dX5_readPart_7 (by rw [hc]; decide) (by rw [hc]; decide) (off := 143) (by rw [hc]; rfl) rfl ?_
    refine aw_aload_n (j := 0) (M := M_X5_readPart) (pc := 150) dX5_readPart_150 rfl rfl ?_
    obtain ⟨o75, hF⟩ := hF
    refine gf_X5_9 (M := M_X5_readPart) (pc := 151) rfl dX5_readPart_151 rfl ?_
    refine aw_ref (a := 9) o75 ?_
    refine aw_iconst (M := M_X5_readPart) (pc := 154) dX5_readPart_154 ⟨by decide, by decide⟩ ?_
    refine aw_cvv (as := [(0, 2)]) (st := []) (M := M_X5_readPart) (pc := 155) (f_X8_fail  hF) dX5_readPart_155 rfl (Or.inl ⟨_, _, _, rfl, rfl⟩) cy_X8_fail ml_X5_67 (by decide) (by decide) (Nat.le_of_ble_eq_true rfl) (fun h76 hF => ?_)
    refine aw_aload_n (j := 0) (M := M_X5_readPart) (pc := 158) dX5_readPart_158 rfl rfl ?_
    obtain ⟨o78, hF⟩ := hF
    refine gf_X5_9 (M := M_X5_readPart) (pc := 159) rfl dX5_readPart_159 rfl ?_
    refine aw_ref (a := 9) o78 ?_
    refine aw_cvv (as := []) (st := []) (M := M_X5_readPart) (pc := 162) (f_X8_takeSemicolon  hF) dX5_readPart_162 rfl (Or.inl ⟨_, _, _, rfl, rfl⟩) cy_X8_takeSemicolon ml_X5_70 (by decide) (by decide) (Nat.le_of_ble_eq_true rfl) (fun h79 hF => ?_)
    exact aw_ret (M := M_X5_readPart) (pc := 165) dX5_readPart_165 rfl ⟨rfl, hF⟩
  have hF := hF.2
  have hc11 := hc
  by_cases hc : r3 = 12
  · have hF := hF.1 hc
    refine aw_tableIn (tgt := 143) (M := M_X5_readPart) (pc := 7) dX5_readPart_7 (by rw [hc]; decide) (by rw [hc]; decide) (off := 136) (by rw [hc]; rfl) rfl ?_
    refine aw_aload_n (j := 0) (M := M_X5_readPart) (pc := 143) dX5_readPart_143 rfl rfl ?_
    refine aw_cvv (as := []) (st := []) (M := M_X5_readPart) (pc := 144) (f_X5_readMill  hF) dX5_readPart_144 rfl (Or.inl ⟨_, _, _, rfl, rfl⟩) cy_X5_readMill ml_X5_64 (by decide) (by decide) (Nat.le_of_ble_eq_true rfl) (fun h81 hF => ?_)
    refine aw_goto (tgt := 158) (M := M_X5_readPart) (pc := 147) dX5_readPart_147 rfl ?_
    refine aw_aload_n (j := 0) (M := M_X5_readPart) (pc := 158) dX5_readPart_158 rfl rfl ?_
    obtain ⟨o83, hF⟩ := hF
    refine gf_X5_9 (M := M_X5_readPart) (pc := 159) rfl dX5_readPart_159 rfl ?_
    refine aw_ref (a := 9) o83 ?_
    refine aw_cvv (as := []) (st := []) (M := M_X5_readPart) (pc := 162) (f_X8_takeSemicolon  hF) dX5_readPart_162 rfl (Or.inl ⟨_, _, _, rfl, rfl⟩) cy_X8_takeSemicolon ml_X5_70 (by decide) (by decide) (Nat.le_of_ble_eq_true rfl) (fun h84 hF => ?_)
    exact aw_ret (M := M_X5_readPart) (pc := 165) dX5_readPart_165 rfl ⟨rfl, hF⟩
  have hF := hF.2
  have hc12 := hc
  have hc : r3 < 0 ∨ 12 < r3 := so_X5_readPart_7 hc0 hc1 hc2 hc3 hc4 hc5 hc6 hc7 hc8 hc9 hc10 hc11 hc12
  have hF := hF hc
  refine aw_tableOut (tgt := 150) (M := M_X5_readPart) (pc := 7) dX5_readPart_7 hc rfl ?_
  refine aw_aload_n (j := 0) (M := M_X5_readPart) (pc := 150) dX5_readPart_150 rfl rfl ?_
  obtain ⟨o86, hF⟩ := hF
  refine gf_X5_9 (M := M_X5_readPart) (pc := 151) rfl dX5_readPart_151 rfl ?_
  refine aw_ref (a := 9) o86 ?_
  refine aw_iconst (M := M_X5_readPart) (pc := 154) dX5_readPart_154 ⟨by decide, by decide⟩ ?_
  refine aw_cvv (as := [(0, 2)]) (st := []) (M := M_X5_readPart) (pc := 155) (f_X8_fail  hF) dX5_readPart_155 rfl (Or.inl ⟨_, _, _, rfl, rfl⟩) cy_X8_fail ml_X5_67 (by decide) (by decide) (Nat.le_of_ble_eq_true rfl) (fun h87 hF => ?_)
  refine aw_aload_n (j := 0) (M := M_X5_readPart) (pc := 158) dX5_readPart_158 rfl rfl ?_
  obtain ⟨o89, hF⟩ := hF
  refine gf_X5_9 (M := M_X5_readPart) (pc := 159) rfl dX5_readPart_159 rfl ?_
  refine aw_ref (a := 9) o89 ?_
  refine aw_cvv (as := []) (st := []) (M := M_X5_readPart) (pc := 162) (f_X8_takeSemicolon  hF) dX5_readPart_162 rfl (Or.inl ⟨_, _, _, rfl, rfl⟩) cy_X8_takeSemicolon ml_X5_70 (by decide) (by decide) (Nat.le_of_ble_eq_true rfl) (fun h90 hF => ?_)
  exact aw_ret (M := M_X5_readPart) (pc := 165) dX5_readPart_165 rfl ⟨rfl, hF⟩
abbrev M_X5_readInto : Hd := (cX5_readInto, 4, RX5, none, (7, 180), sc0)
def L_X5_readInto_24 (h : Mem) (v3 : Int) (Q : Mem → Prop) : Prop := AW M_X5_readInto 24 [(0, vr 33), (3, (0, v3))] [] h (qv Q)
def B_X5_readInto_24 (h : Mem) (v3 : Int) (Q : Mem → Prop) : Prop :=
  ((900 ≤ v3 → Q h) ∧ (¬ (900 ≤ v3) → (h 33 0 = (9 : Int) ∧ (F_X8_isGoingOn h  (fun r9 h8 => ((r9 = 0 → Q h8) ∧ (¬ (r9 = 0) → (F_X5_readPart h8  (fun h10 => (InR (v3 + 1) ∧ L_X5_readInto_24 h10 (v3 + 1) Q))))))))))
set_option maxRecDepth 100000 in
set_option maxHeartbeats 4000000 in
theorem l_X5_readInto_24 {h : Mem} {v3 : Int} {Q : Mem → Prop}  (hF : B_X5_readInto_24 h v3 Q) : L_X5_readInto_24 h v3 Q := by
  unfold B_X5_readInto_24 at hF
  show AW M_X5_readInto 24 [(0, vr 33), (3, (0, v3))] [] h (qv Q)
  refine aw_iload_n (j := 1) (M := M_X5_readInto) (pc := 24) dX5_readInto_24 rfl rfl ?_
  refine aw_sipush (M := M_X5_readInto) (pc := 25) dX5_readInto_25 ⟨rfl, ⟨by decide, by decide⟩⟩ ?_
  refine aw_icmp_ge (tgt := 51) (M := M_X5_readInto) (pc := 28) dX5_readInto_28 rfl (fun hc => ?_) (fun hc => ?_)
  · have hF := hF.1 hc
    exact aw_ret (M := M_X5_readInto) (pc := 51) dX5_readInto_51 rfl ⟨rfl, hF⟩
  · have hF := hF.2 hc
    refine aw_aload_n (j := 0) (M := M_X5_readInto) (pc := 31) dX5_readInto_31 rfl rfl ?_
    obtain ⟨o7, hF⟩ := hF
    refine gf_X5_9 (M := M_X5_readInto) (pc := 32) rfl dX5_readInto_32 rfl ?_
    refine aw_ref (a := 9) o7 ?_
    refine aw_cvi (as := []) (st := []) (M := M_X5_readInto) (pc := 35) (f_X8_isGoingOn  hF) dX5_readInto_35 rfl (Or.inl ⟨_, _, _, rfl, rfl⟩) cy_X8_isGoingOn ml_X5_30 (by decide) (by decide) (Nat.le_of_ble_eq_true rfl) (fun r9 h8 hF => ?_)
    refine aw_if_eq (tgt := 51) (M := M_X5_readInto) (pc := 38) dX5_readInto_38 rfl (fun hc => ?_) (fun hc => ?_)
    · have hF := hF.1 hc
      exact aw_ret (M := M_X5_readInto) (pc := 51) dX5_readInto_51 rfl ⟨rfl, hF⟩
    · have hF := hF.2 hc
      refine aw_aload_n (j := 0) (M := M_X5_readInto) (pc := 41) dX5_readInto_41 rfl rfl ?_
      refine aw_cvv (as := []) (st := []) (M := M_X5_readInto) (pc := 42) (f_X5_readPart  hF) dX5_readInto_42 rfl (Or.inl ⟨_, _, _, rfl, rfl⟩) cy_X5_readPart ml_X5_34 (by decide) (by decide) (Nat.le_of_ble_eq_true rfl) (fun h10 hF => ?_)
      obtain ⟨o12, hF⟩ := hF
      refine aw_iinc (j := 1) (x := v3) (r := v3 + 1) (ls' := [(3, (0, v3 + 1)), (0, vr 33)]) (M := M_X5_readInto) (pc := 45) dX5_readInto_45 rfl rfl o12 (by decide) rfl ?_
      refine aw_goto (tgt := 24) (M := M_X5_readInto) (pc := 48) dX5_readInto_48 rfl ?_
      exact aw_ls [1, 0] rfl hF
def F_X5_readInto (h : Mem) (a1 : Nat) (Q : Mem → Prop) : Prop :=
  (∀ h1 : Mem, h1 = mset h 33 0 ((9 : Nat) : Int) → (∀ h2 : Mem, h2 = mset h1 33 1 ((a1 : Nat) : Int) → (∀ h3 : Mem, h3 = mset h2 33 2 0 → (∃ r4 : Nat, h3 33 1 = (r4 : Int) ∧ lay r4 = (0, 4) ∧ (F_X4_clear h3 r4 (fun h5 => L_X5_readInto_24 h5 0 Q))))))
set_option maxRecDepth 100000 in
set_option maxHeartbeats 4000000 in
theorem f_X5_readInto {h : Mem} {a1 : Nat} {Q : Mem → Prop} (ha1 : lay a1 = (0, 4)) (hF : F_X5_readInto h a1 Q) : Ct yX5_readInto cX5_readInto 4 none (7, 180) [vr 33, vr a1, vr 9] h (qv Q) := by
  refine Ct.of np_RX5 (Nat.le_of_ble_eq_true rfl) ?_
  unfold F_X5_readInto at hF
  show AW M_X5_readInto 0 [(0, vr 33), (1, vr a1), (2, vr 9)] [] h (qv Q)
  refine aw_aload_n (j := 0) (M := M_X5_readInto) (pc := 0) dX5_readInto_0 rfl rfl ?_
  refine aw_aload_n (j := 2) (M := M_X5_readInto) (pc := 1) dX5_readInto_1 rfl rfl ?_
  refine pf_X5_9 (M := M_X5_readInto) (pc := 2) rfl dX5_readInto_2 rfl (by decide) ?_
  obtain ⟨h1, eh1⟩ : ∃ y : Mem, y = mset h 33 0 ((9 : Nat) : Int) := ⟨_, rfl⟩
  have hF := hF h1 eh1
  rw [← eh1]
  refine aw_aload_n (j := 0) (M := M_X5_readInto) (pc := 5) dX5_readInto_5 rfl rfl ?_
  refine aw_aload_n (j := 1) (M := M_X5_readInto) (pc := 6) dX5_readInto_6 rfl rfl ?_
  refine pf_X5_15 (M := M_X5_readInto) (pc := 7) rfl dX5_readInto_7 rfl (lay181 ha1) ?_
  obtain ⟨h2, eh2⟩ : ∃ y : Mem, y = mset h1 33 1 ((a1 : Nat) : Int) := ⟨_, rfl⟩
  have hF := hF h2 eh2
  rw [← eh2]
  refine aw_aload_n (j := 0) (M := M_X5_readInto) (pc := 10) dX5_readInto_10 rfl rfl ?_
  refine aw_iconst (M := M_X5_readInto) (pc := 11) dX5_readInto_11 ⟨by decide, by decide⟩ ?_
  refine pf_X5_19 (M := M_X5_readInto) (pc := 12) rfl dX5_readInto_12 rfl ?_
  obtain ⟨h3, eh3⟩ : ∃ y : Mem, y = mset h2 33 2 0 := ⟨_, rfl⟩
  have hF := hF h3 eh3
  rw [← eh3]
  refine aw_aload_n (j := 0) (M := M_X5_readInto) (pc := 15) dX5_readInto_15 rfl rfl ?_
  refine gf_X5_15 (M := M_X5_readInto) (pc := 16) rfl dX5_readInto_16 rfl ?_
  obtain ⟨r4, er4, lr4, hF⟩ := hF
  refine aw_ref (a := r4) er4 ?_
  refine aw_cvv (as := []) (st := []) (M := M_X5_readInto) (pc := 19) (f_X4_clear lr4 hF) dX5_readInto_19 rfl (Or.inl ⟨_, _, _, lr4, rfl⟩) cy_X4_clear ml_X5_23 (by decide) (by decide) (Nat.le_of_ble_eq_true rfl) (fun h5 hF => ?_)
  refine aw_iconst (M := M_X5_readInto) (pc := 22) dX5_readInto_22 ⟨by decide, by decide⟩ ?_
  refine aw_istore_n (ls' := [(3, (0, 0)), (0, vr 33), (1, vr a1), (2, vr 9)]) (M := M_X5_readInto) (pc := 23) dX5_readInto_23 rfl (by decide) rfl ?_
  exact aw_ls [1, 0] rfl hF
abbrev M_X6_behindEnd : Hd := (cX6_behindEnd, 3, RX6, (some .int), (1, 45), sc0)
def F_X6_behindEnd (h : Mem) (a1 : Int) (Q : Int → Mem → Prop) : Prop :=
  (∃ r1 : Nat, h 78 5 = (r1 : Int) ∧ lay r1 = (0, 1) ∧ ((0 ≤ a1 ∧ a1 < 60) ∧ (∀ x4 : Int, x4 = h (r1 + 5) (a1).toNat → (∃ r5 : Nat, h 78 5 = (r5 : Int) ∧ lay r5 = (0, 1) ∧ ((0 ≤ x4 ∧ x4 < 60) ∧ (((h (r5 + 1) (x4).toNat) = 8 → (InR ((h 79 (x4).toNat) - 1) ∧ (∀ h10 : Mem, h10 = mset h 79 (x4).toNat ((h 79 (x4).toNat) - 1) → (((h10 79 (x4).toNat) ≤ 0 → (InR (a1 + 1) ∧ Q (a1 + 1) h10)) ∧ (¬ ((h10 79 (x4).toNat) ≤ 0) → (InR (x4 + 1) ∧ Q (x4 + 1) h10)))))) ∧ (¬ ((h (r5 + 1) (x4).toNat) = 8) → (InR (a1 + 1) ∧ Q (a1 + 1) h))))))))
set_option maxRecDepth 100000 in
set_option maxHeartbeats 4000000 in
theorem f_X6_behindEnd {h : Mem} {a1 : Int} {Q : Int → Mem → Prop}  (hF : F_X6_behindEnd h a1 Q) : Ct yX6_behindEnd cX6_behindEnd 3 (some .int) (1, 45) [vr 78, (0, a1)] h (qi Q) := by
  refine Ct.of np_RX6 (Nat.le_of_ble_eq_true rfl) ?_
  unfold F_X6_behindEnd at hF
  show AW M_X6_behindEnd 0 [(0, vr 78), (1, (0, a1))] [] h (qi Q)
  refine aw_aload_n (j := 0) (M := M_X6_behindEnd) (pc := 0) dX6_behindEnd_0 rfl rfl ?_
  refine gf_X6_21 (M := M_X6_behindEnd) (pc := 1) rfl dX6_behindEnd_1 rfl ?_
  obtain ⟨r1, er1, lr1, hF⟩ := hF
  refine aw_ref (a := r1) er1 ?_
  refine gf_X6_52 (M := M_X6_behindEnd) (pc := 4) rfl dX6_behindEnd_4 lr1 (r := r1 + 5) rfl ?_
  refine aw_iload_n (j := 1) (M := M_X6_behindEnd) (pc := 7) dX6_behindEnd_7 rfl rfl ?_
  obtain ⟨o3, hF⟩ := hF
  refine aw_iald (k := (a1).toNat) (M := M_X6_behindEnd) (pc := 8) dX6_behindEnd_8 (ll_1_7 lr1) o3 rfl ?_
  obtain ⟨x4, ex4⟩ : ∃ y : Int, y = h (r1 + 5) (a1).toNat := ⟨_, rfl⟩
  have hF := hF x4 ex4
  rw [← ex4]
  refine aw_istore_n (ls' := [(2, (0, x4)), (0, vr 78), (1, (0, a1))]) (M := M_X6_behindEnd) (pc := 9) dX6_behindEnd_9 rfl (by decide) rfl ?_
  refine aw_aload_n (j := 1) (M := M_X6_behindEnd) (pc := 10) dX6_behindEnd_10 rfl rfl ?_
  refine gf_X6_21 (M := M_X6_behindEnd) (pc := 11) rfl dX6_behindEnd_11 rfl ?_
  obtain ⟨r5, er5, lr5, hF⟩ := hF
  refine aw_ref (a := r5) er5 ?_
  refine gf_X6_42 (M := M_X6_behindEnd) (pc := 14) rfl dX6_behindEnd_14 lr5 (r := r5 + 1) rfl ?_
  refine aw_iload_n (j := 0) (M := M_X6_behindEnd) (pc := 17) dX6_behindEnd_17 rfl rfl ?_
  obtain ⟨o7, hF⟩ := hF
  refine aw_iald (k := (x4).toNat) (M := M_X6_behindEnd) (pc := 18) dX6_behindEnd_18 (ll_1_3 lr5) o7 rfl ?_
  refine aw_bipush (M := M_X6_behindEnd) (pc := 19) dX6_behindEnd_19 ⟨rfl, ⟨by decide, by decide⟩⟩ ?_
  refine aw_icmp_eq (tgt := 28) (M := M_X6_behindEnd) (pc := 21) dX6_behindEnd_21 rfl (fun hc => ?_) (fun hc => ?_)
  · have hF := hF.1 hc
    refine aw_aload_n (j := 1) (M := M_X6_behindEnd) (pc := 28) dX6_behindEnd_28 rfl rfl ?_
    refine gf_X6_11 (M := M_X6_behindEnd) (pc := 29) rfl dX6_behindEnd_29 rfl (r := 79) rfl ?_
    refine aw_iload_n (j := 0) (M := M_X6_behindEnd) (pc := 32) dX6_behindEnd_32 rfl rfl ?_
    refine aw_dup2 (M := M_X6_behindEnd) (pc := 33) dX6_behindEnd_33 rfl rfl ?_
    refine aw_iald (k := (x4).toNat) (M := M_X6_behindEnd) (pc := 34) dX6_behindEnd_34 rfl o7 rfl ?_
    refine aw_iconst (M := M_X6_behindEnd) (pc := 35) dX6_behindEnd_35 ⟨by decide, by decide⟩ ?_
    obtain ⟨o9, hF⟩ := hF
    refine aw_isub (M := M_X6_behindEnd) (pc := 36) dX6_behindEnd_36 rfl o9 ?_
    refine aw_iast (k := (x4).toNat) (M := M_X6_behindEnd) (pc := 37) dX6_behindEnd_37 rfl o7 rfl ?_
    obtain ⟨h10, eh10⟩ : ∃ y : Mem, y = mset h 79 (x4).toNat ((h 79 (x4).toNat) - 1) := ⟨_, rfl⟩
    have hF := hF h10 eh10
    rw [← eh10]
    refine aw_aload_n (j := 1) (M := M_X6_behindEnd) (pc := 38) dX6_behindEnd_38 rfl rfl ?_
    refine gf_X6_11 (M := M_X6_behindEnd) (pc := 39) rfl dX6_behindEnd_39 rfl (r := 79) rfl ?_
    refine aw_iload_n (j := 0) (M := M_X6_behindEnd) (pc := 42) dX6_behindEnd_42 rfl rfl ?_
    refine aw_iald (k := (x4).toNat) (M := M_X6_behindEnd) (pc := 43) dX6_behindEnd_43 rfl o7 rfl ?_
    refine aw_if_le (tgt := 53) (M := M_X6_behindEnd) (pc := 44) dX6_behindEnd_44 rfl (fun hc => ?_) (fun hc => ?_)
    · have hF := hF.1 hc
      refine aw_iload_n (j := 2) (M := M_X6_behindEnd) (pc := 53) dX6_behindEnd_53 rfl rfl ?_
      refine aw_iconst (M := M_X6_behindEnd) (pc := 54) dX6_behindEnd_54 ⟨by decide, by decide⟩ ?_
      obtain ⟨o12, hF⟩ := hF
      refine aw_iadd (M := M_X6_behindEnd) (pc := 55) dX6_behindEnd_55 rfl o12 ?_
      exact aw_ireti (M := M_X6_behindEnd) (pc := 56) dX6_behindEnd_56 rfl ⟨_, rfl, hF⟩
    · have hF := hF.2 hc
      refine aw_iload_n (j := 0) (M := M_X6_behindEnd) (pc := 47) dX6_behindEnd_47 rfl rfl ?_
      refine aw_iconst (M := M_X6_behindEnd) (pc := 48) dX6_behindEnd_48 ⟨by decide, by decide⟩ ?_
      obtain ⟨o13, hF⟩ := hF
      refine aw_iadd (M := M_X6_behindEnd) (pc := 49) dX6_behindEnd_49 rfl o13 ?_
      refine aw_goto (tgt := 56) (M := M_X6_behindEnd) (pc := 50) dX6_behindEnd_50 rfl ?_
      exact aw_ireti (M := M_X6_behindEnd) (pc := 56) dX6_behindEnd_56 rfl ⟨_, rfl, hF⟩
  · have hF := hF.2 hc
    refine aw_iload_n (j := 2) (M := M_X6_behindEnd) (pc := 24) dX6_behindEnd_24 rfl rfl ?_
    refine aw_iconst (M := M_X6_behindEnd) (pc := 25) dX6_behindEnd_25 ⟨by decide, by decide⟩ ?_
    obtain ⟨o14, hF⟩ := hF
    refine aw_iadd (M := M_X6_behindEnd) (pc := 26) dX6_behindEnd_26 rfl o14 ?_
    exact aw_ireti (M := M_X6_behindEnd) (pc := 27) dX6_behindEnd_27 rfl ⟨_, rfl, hF⟩
abbrev M_X9_isLying : Hd := (cX9_isLying, 2, RX9, (some .boolean), (1, 45), sc0)
def F_X9_isLying (h : Mem) (o : Nat) (a1 : Int) (Q : Int → Mem → Prop) : Prop :=
  ((0 ≤ a1 ∧ a1 < 8) ∧ ((¬ ((h (o + 5) (a1).toNat) = 1) → Q 0 h) ∧ ((h (o + 5) (a1).toNat) = 1 → Q 1 h)))
set_option maxRecDepth 100000 in
set_option maxHeartbeats 4000000 in
theorem f_X9_isLying {h : Mem} {o : Nat} {a1 : Int} {Q : Int → Mem → Prop} (ho : lay o = (0, 9)) (hF : F_X9_isLying h o a1 Q) : Ct yX9_isLying cX9_isLying 2 (some .boolean) (1, 45) [vr o, (0, a1)] h (qi Q) := by
  refine Ct.of np_RX9 (Nat.le_of_ble_eq_true rfl) ?_
  unfold F_X9_isLying at hF
  show AW M_X9_isLying 0 [(0, vr o), (1, (0, a1))] [] h (qi Q)
  refine aw_aload_n (j := 0) (M := M_X9_isLying) (pc := 0) dX9_isLying_0 rfl rfl ?_
  refine gf_X9_29 (M := M_X9_isLying) (pc := 1) rfl dX9_isLying_1 ho (r := o + 5) rfl ?_
  refine aw_iload_n (j := 1) (M := M_X9_isLying) (pc := 4) dX9_isLying_4 rfl rfl ?_
  obtain ⟨o2, hF⟩ := hF
  refine aw_iald (k := (a1).toNat) (M := M_X9_isLying) (pc := 5) dX9_isLying_5 (ll_9_5 ho) o2 rfl ?_
  refine aw_iconst (M := M_X9_isLying) (pc := 6) dX9_isLying_6 ⟨by decide, by decide⟩ ?_
  refine aw_icmp_ne (tgt := 14) (M := M_X9_isLying) (pc := 7) dX9_isLying_7 rfl (fun hc => ?_) (fun hc => ?_)
  · have hF := hF.1 hc
    refine aw_iconst (M := M_X9_isLying) (pc := 14) dX9_isLying_14 ⟨by decide, by decide⟩ ?_
    exact aw_iretz (M := M_X9_isLying) (pc := 15) dX9_isLying_15 rfl (Or.inl rfl) ⟨_, rfl, hF⟩
  · have hF := hF.2 hc
    refine aw_iconst (M := M_X9_isLying) (pc := 10) dX9_isLying_10 ⟨by decide, by decide⟩ ?_
    refine aw_goto (tgt := 15) (M := M_X9_isLying) (pc := 11) dX9_isLying_11 rfl ?_
    exact aw_iretz (M := M_X9_isLying) (pc := 15) dX9_isLying_15 rfl (Or.inr rfl) ⟨_, rfl, hF⟩
abbrev M_X6_fetchThing : Hd := (cX6_fetchThing, 2, RX6, none, (3, 89), sc0)
def F_X6_fetchThing (h : Mem) (a1 : Int) (Q : Mem → Prop) : Prop :=
  (∃ r1 : Nat, h 78 4 = (r1 : Int) ∧ lay r1 = (0, 4) ∧ (((h (r1 + 1) 0) ≤ a1 → (InR ((h 78 1) + 1) ∧ (∀ h3 : Mem, h3 = mset h 78 1 ((h 78 1) + 1) → Q h3))) ∧ (¬ ((h (r1 + 1) 0) ≤ a1) → (∃ r4 : Nat, h 78 4 = (r4 : Int) ∧ lay r4 = (0, 4) ∧ (F_X9_isLying h (r4 + 1) a1 (fun r6 h5 => ((¬ (r6 = 0) → (∃ r7 : Nat, h5 78 4 = (r7 : Int) ∧ lay r7 = (0, 4) ∧ (F_X9_bringAshore h5 (r7 + 1) a1 (fun h8 => Q h8)))) ∧ (r6 = 0 → (InR ((h5 78 1) + 1) ∧ (∀ h11 : Mem, h11 = mset h5 78 1 ((h5 78 1) + 1) → Q h11))))))))))
set_option maxRecDepth 100000 in
set_option maxHeartbeats 4000000 in
theorem f_X6_fetchThing {h : Mem} {a1 : Int} {Q : Mem → Prop}  (hF : F_X6_fetchThing h a1 Q) : Ct yX6_fetchThing cX6_fetchThing 2 none (3, 89) [vr 78, (0, a1)] h (qv Q) := by
  refine Ct.of np_RX6 (Nat.le_of_ble_eq_true rfl) ?_
  unfold F_X6_fetchThing at hF
  show AW M_X6_fetchThing 0 [(0, vr 78), (1, (0, a1))] [] h (qv Q)
  refine aw_iload_n (j := 1) (M := M_X6_fetchThing) (pc := 0) dX6_fetchThing_0 rfl rfl ?_
  refine aw_aload_n (j := 0) (M := M_X6_fetchThing) (pc := 1) dX6_fetchThing_1 rfl rfl ?_
  refine gf_X6_17 (M := M_X6_fetchThing) (pc := 2) rfl dX6_fetchThing_2 rfl ?_
  obtain ⟨r1, er1, lr1, hF⟩ := hF
  refine aw_ref (a := r1) er1 ?_
  refine gf_X6_87 (M := M_X6_fetchThing) (pc := 5) rfl dX6_fetchThing_5 lr1 (r := r1 + 1) rfl ?_
  refine gf_X6_91 (M := M_X6_fetchThing) (pc := 8) rfl dX6_fetchThing_8 (ll_4_7 lr1) ?_
  refine aw_icmp_ge (tgt := 28) (M := M_X6_fetchThing) (pc := 11) dX6_fetchThing_11 rfl (fun hc => ?_) (fun hc => ?_)
  · have hF := hF.1 hc
    refine aw_aload_n (j := 0) (M := M_X6_fetchThing) (pc := 28) dX6_fetchThing_28 rfl rfl ?_
    refine aw_dup (M := M_X6_fetchThing) (pc := 29) dX6_fetchThing_29 rfl ?_
    refine gf_X6_32 (M := M_X6_fetchThing) (pc := 30) rfl dX6_fetchThing_30 rfl ?_
    refine aw_iconst (M := M_X6_fetchThing) (pc := 33) dX6_fetchThing_33 ⟨by decide, by decide⟩ ?_
    obtain ⟨o2, hF⟩ := hF
    refine aw_iadd (M := M_X6_fetchThing) (pc := 34) dX6_fetchThing_34 rfl o2 ?_
    refine pf_X6_32 (M := M_X6_fetchThing) (pc := 35) rfl dX6_fetchThing_35 rfl ?_
    obtain ⟨h3, eh3⟩ : ∃ y : Mem, y = mset h 78 1 ((h 78 1) + 1) := ⟨_, rfl⟩
    have hF := hF h3 eh3
    rw [← eh3]
    refine aw_goto (tgt := 52) (M := M_X6_fetchThing) (pc := 38) dX6_fetchThing_38 rfl ?_
    exact aw_ret (M := M_X6_fetchThing) (pc := 52) dX6_fetchThing_52 rfl ⟨rfl, hF⟩
  · have hF := hF.2 hc
    refine aw_aload_n (j := 0) (M := M_X6_fetchThing) (pc := 14) dX6_fetchThing_14 rfl rfl ?_
    refine gf_X6_17 (M := M_X6_fetchThing) (pc := 15) rfl dX6_fetchThing_15 rfl ?_
    obtain ⟨r4, er4, lr4, hF⟩ := hF
    refine aw_ref (a := r4) er4 ?_
    refine gf_X6_87 (M := M_X6_fetchThing) (pc := 18) rfl dX6_fetchThing_18 lr4 (r := r4 + 1) rfl ?_
    refine aw_iload_n (j := 1) (M := M_X6_fetchThing) (pc := 21) dX6_fetchThing_21 rfl rfl ?_
    refine aw_cvi (as := [(0, a1)]) (st := []) (M := M_X6_fetchThing) (pc := 22) (f_X9_isLying (ll_4_7 lr4) hF) dX6_fetchThing_22 rfl (Or.inl ⟨_, _, _, (ll_4_7 lr4), rfl⟩) cy_X9_isLying ml_X6_100 (by decide) (by decide) (Nat.le_of_ble_eq_true rfl) (fun r6 h5 hF => ?_)
    refine aw_if_ne (tgt := 41) (M := M_X6_fetchThing) (pc := 25) dX6_fetchThing_25 rfl (fun hc => ?_) (fun hc => ?_)
    · have hF := hF.1 hc
      refine aw_aload_n (j := 0) (M := M_X6_fetchThing) (pc := 41) dX6_fetchThing_41 rfl rfl ?_
      refine gf_X6_17 (M := M_X6_fetchThing) (pc := 42) rfl dX6_fetchThing_42 rfl ?_
      obtain ⟨r7, er7, lr7, hF⟩ := hF
      refine aw_ref (a := r7) er7 ?_
      refine gf_X6_87 (M := M_X6_fetchThing) (pc := 45) rfl dX6_fetchThing_45 lr7 (r := r7 + 1) rfl ?_
      refine aw_iload_n (j := 1) (M := M_X6_fetchThing) (pc := 48) dX6_fetchThing_48 rfl rfl ?_
      refine aw_cvv (as := [(0, a1)]) (st := []) (M := M_X6_fetchThing) (pc := 49) (f_X9_bringAshore (ll_4_7 lr7) hF) dX6_fetchThing_49 rfl (Or.inl ⟨_, _, _, (ll_4_7 lr7), rfl⟩) cy_X9_bringAshore ml_X6_103 (by decide) (by decide) (Nat.le_of_ble_eq_true rfl) (fun h8 hF => ?_)
      exact aw_ret (M := M_X6_fetchThing) (pc := 52) dX6_fetchThing_52 rfl ⟨rfl, hF⟩
    · have hF := hF.2 hc
      refine aw_aload_n (j := 0) (M := M_X6_fetchThing) (pc := 28) dX6_fetchThing_28 rfl rfl ?_
      refine aw_dup (M := M_X6_fetchThing) (pc := 29) dX6_fetchThing_29 rfl ?_
      refine gf_X6_32 (M := M_X6_fetchThing) (pc := 30) rfl dX6_fetchThing_30 rfl ?_
      refine aw_iconst (M := M_X6_fetchThing) (pc := 33) dX6_fetchThing_33 ⟨by decide, by decide⟩ ?_
      obtain ⟨o10, hF⟩ := hF
      refine aw_iadd (M := M_X6_fetchThing) (pc := 34) dX6_fetchThing_34 rfl o10 ?_
      refine pf_X6_32 (M := M_X6_fetchThing) (pc := 35) rfl dX6_fetchThing_35 rfl ?_
      obtain ⟨h11, eh11⟩ : ∃ y : Mem, y = mset h5 78 1 ((h5 78 1) + 1) := ⟨_, rfl⟩
      have hF := hF h11 eh11
      rw [← eh11]
      refine aw_goto (tgt := 52) (M := M_X6_fetchThing) (pc := 38) dX6_fetchThing_38 rfl ?_
      exact aw_ret (M := M_X6_fetchThing) (pc := 52) dX6_fetchThing_52 rfl ⟨rfl, hF⟩
abbrev M_X6_compares : Hd := (cX6_compares, 3, RX6, (some .boolean), (1, 45), sc0)
def F_X6_compares (h : Mem) (a1 : Int) (a2 : Int) (a3 : Int) (Q : Int → Mem → Prop) : Prop :=
  ((¬ (a2 = 60) → ((¬ (a2 = 62) → ((¬ (a1 = a3) → Q 0 h) ∧ (a1 = a3 → Q 1 h))) ∧ (a2 = 62 → ((a1 ≤ a3 → Q 0 h) ∧ (¬ (a1 ≤ a3) → Q 1 h))))) ∧ (a2 = 60 → ((a3 ≤ a1 → Q 0 h) ∧ (¬ (a3 ≤ a1) → Q 1 h))))
set_option maxRecDepth 100000 in
set_option maxHeartbeats 4000000 in
theorem f_X6_compares {h : Mem} {a1 : Int} {a2 : Int} {a3 : Int} {Q : Int → Mem → Prop}  (hF : F_X6_compares h a1 a2 a3 Q) : Ct yX6_compares cX6_compares 3 (some .boolean) (1, 45) [(0, a1), (0, a2), (0, a3)] h (qi Q) := by
  refine Ct.of np_RX6 (Nat.le_of_ble_eq_true rfl) ?_
  unfold F_X6_compares at hF
  show AW M_X6_compares 0 [(0, (0, a1)), (1, (0, a2)), (2, (0, a3))] [] h (qi Q)
  refine aw_iload_n (j := 1) (M := M_X6_compares) (pc := 0) dX6_compares_0 rfl rfl ?_
  refine aw_bipush (M := M_X6_compares) (pc := 1) dX6_compares_1 ⟨rfl, ⟨by decide, by decide⟩⟩ ?_
  refine aw_icmp_ne (tgt := 17) (M := M_X6_compares) (pc := 3) dX6_compares_3 rfl (fun hc => ?_) (fun hc => ?_)
  · have hF := hF.1 hc
    refine aw_iload_n (j := 1) (M := M_X6_compares) (pc := 17) dX6_compares_17 rfl rfl ?_
    refine aw_bipush (M := M_X6_compares) (pc := 18) dX6_compares_18 ⟨rfl, ⟨by decide, by decide⟩⟩ ?_
    refine aw_icmp_ne (tgt := 36) (M := M_X6_compares) (pc := 20) dX6_compares_20 rfl (fun hc => ?_) (fun hc => ?_)
    · have hF := hF.1 hc
      refine aw_iload_n (j := 0) (M := M_X6_compares) (pc := 36) dX6_compares_36 rfl rfl ?_
      refine aw_iload_n (j := 2) (M := M_X6_compares) (pc := 37) dX6_compares_37 rfl rfl ?_
      refine aw_icmp_ne (tgt := 45) (M := M_X6_compares) (pc := 38) dX6_compares_38 rfl (fun hc => ?_) (fun hc => ?_)
      · have hF := hF.1 hc
        refine aw_iconst (M := M_X6_compares) (pc := 45) dX6_compares_45 ⟨by decide, by decide⟩ ?_
        exact aw_iretz (M := M_X6_compares) (pc := 46) dX6_compares_46 rfl (Or.inl rfl) ⟨_, rfl, hF⟩
      · have hF := hF.2 hc
        refine aw_iconst (M := M_X6_compares) (pc := 41) dX6_compares_41 ⟨by decide, by decide⟩ ?_
        refine aw_goto (tgt := 46) (M := M_X6_compares) (pc := 42) dX6_compares_42 rfl ?_
        exact aw_iretz (M := M_X6_compares) (pc := 46) dX6_compares_46 rfl (Or.inr rfl) ⟨_, rfl, hF⟩
    · have hF := hF.2 hc
      refine aw_iload_n (j := 0) (M := M_X6_compares) (pc := 23) dX6_compares_23 rfl rfl ?_
      refine aw_iload_n (j := 2) (M := M_X6_compares) (pc := 24) dX6_compares_24 rfl rfl ?_
      refine aw_icmp_le (tgt := 32) (M := M_X6_compares) (pc := 25) dX6_compares_25 rfl (fun hc => ?_) (fun hc => ?_)
      · have hF := hF.1 hc
        refine aw_iconst (M := M_X6_compares) (pc := 32) dX6_compares_32 ⟨by decide, by decide⟩ ?_
        refine aw_goto (tgt := 46) (M := M_X6_compares) (pc := 33) dX6_compares_33 rfl ?_
        exact aw_iretz (M := M_X6_compares) (pc := 46) dX6_compares_46 rfl (Or.inl rfl) ⟨_, rfl, hF⟩
      · have hF := hF.2 hc
        refine aw_iconst (M := M_X6_compares) (pc := 28) dX6_compares_28 ⟨by decide, by decide⟩ ?_
        refine aw_goto (tgt := 46) (M := M_X6_compares) (pc := 29) dX6_compares_29 rfl ?_
        exact aw_iretz (M := M_X6_compares) (pc := 46) dX6_compares_46 rfl (Or.inr rfl) ⟨_, rfl, hF⟩
  · have hF := hF.2 hc
    refine aw_iload_n (j := 0) (M := M_X6_compares) (pc := 6) dX6_compares_6 rfl rfl ?_
    refine aw_iload_n (j := 2) (M := M_X6_compares) (pc := 7) dX6_compares_7 rfl rfl ?_
    refine aw_icmp_ge (tgt := 15) (M := M_X6_compares) (pc := 8) dX6_compares_8 rfl (fun hc => ?_) (fun hc => ?_)
    · have hF := hF.1 hc
      refine aw_iconst (M := M_X6_compares) (pc := 15) dX6_compares_15 ⟨by decide, by decide⟩ ?_
      exact aw_iretz (M := M_X6_compares) (pc := 16) dX6_compares_16 rfl (Or.inl rfl) ⟨_, rfl, hF⟩
    · have hF := hF.2 hc
      refine aw_iconst (M := M_X6_compares) (pc := 11) dX6_compares_11 ⟨by decide, by decide⟩ ?_
      refine aw_goto (tgt := 16) (M := M_X6_compares) (pc := 12) dX6_compares_12 rfl ?_
      exact aw_iretz (M := M_X6_compares) (pc := 16) dX6_compares_16 rfl (Or.inr rfl) ⟨_, rfl, hF⟩
theorem so_X6_holds_19 {x : Int} (h0 : ¬ x = 4) (h1 : ¬ x = 5) (h2 : ¬ x = 6) : x < 4 ∨ 6 < x := by omega
abbrev M_X6_holds : Hd := (cX6_holds, 3, RX6, (some .boolean), (2, 67), sc0)
def F_X6_holds (h : Mem) (a1 : Int) (Q : Int → Mem → Prop) : Prop :=
  (∃ r1 : Nat, h 78 5 = (r1 : Int) ∧ lay r1 = (0, 1) ∧ ((0 ≤ a1 ∧ a1 < 60) ∧ (∀ x4 : Int, x4 = h (r1 + 2) (a1).toNat → (∃ r5 : Nat, h 78 5 = (r5 : Int) ∧ lay r5 = (0, 1) ∧ (((h (r5 + 1) (a1).toNat) = 4 → (∃ r7 : Nat, h 78 4 = (r7 : Int) ∧ lay r7 = (0, 4) ∧ (((h (r7 + 1) 0) ≤ x4 → Q 0 h) ∧ (¬ ((h (r7 + 1) 0) ≤ x4) → (∃ r8 : Nat, h 78 4 = (r8 : Int) ∧ lay r8 = (0, 4) ∧ (F_X9_isLying h (r8 + 1) x4 (fun r10 h9 => ((r10 = 0 → Q 0 h9) ∧ (¬ (r10 = 0) → Q 1 h9))))))))) ∧ (((h (r5 + 1) (a1).toNat) = 5 → (∃ r11 : Nat, h 78 4 = (r11 : Int) ∧ lay r11 = (0, 4) ∧ ((¬ ((h r11 4) = x4) → Q 0 h) ∧ ((h r11 4) = x4 → Q 1 h)))) ∧ (((h (r5 + 1) (a1).toNat) = 6 → (∃ r12 : Nat, h 78 4 = (r12 : Int) ∧ lay r12 = (0, 4) ∧ (∃ r13 : Nat, h 78 5 = (r13 : Int) ∧ lay r13 = (0, 1) ∧ (∃ r15 : Nat, h 78 5 = (r15 : Int) ∧ lay r15 = (0, 1) ∧ (F_X6_compares h (h r12 3) (h (r13 + 4) (a1).toNat) (h (r15 + 3) (a1).toNat) (fun r18 h17 => (InZ r18 ∧ Q r18 h17))))))) ∧ (((h (r5 + 1) (a1).toNat) < 4 ∨ 6 < (h (r5 + 1) (a1).toNat)) → (∃ r19 : Nat, h 78 4 = (r19 : Int) ∧ lay r19 = (0, 4) ∧ (((h (r19 + 10) 0) ≤ x4 → Q 0 h) ∧ (¬ ((h (r19 + 10) 0) ≤ x4) → (∃ r20 : Nat, h 78 4 = (r20 : Int) ∧ lay r20 = (0, 4) ∧ ((0 ≤ x4 ∧ x4 < 4) ∧ (∃ r23 : Nat, h 78 5 = (r23 : Int) ∧ lay r23 = (0, 1) ∧ (∃ r25 : Nat, h 78 5 = (r25 : Int) ∧ lay r25 = (0, 1) ∧ (F_X6_compares h (h ((r20 + 10) + 4) (x4).toNat) (h (r23 + 4) (a1).toNat) (h (r25 + 3) (a1).toNat) (fun r28 h27 => ((r28 = 0 → Q 0 h27) ∧ (¬ (r28 = 0) → Q 1 h27)))))))))))))))))))
set_option maxRecDepth 100000 in
set_option maxHeartbeats 4000000 in
theorem f_X6_holds {h : Mem} {a1 : Int} {Q : Int → Mem → Prop}  (hF : F_X6_holds h a1 Q) : Ct yX6_holds cX6_holds 3 (some .boolean) (2, 67) [vr 78, (0, a1)] h (qi Q) := by
  refine Ct.of np_RX6 (Nat.le_of_ble_eq_true rfl) ?_
  unfold F_X6_holds at hF
  show AW M_X6_holds 0 [(0, vr 78), (1, (0, a1))] [] h (qi Q)
  refine aw_aload_n (j := 0) (M := M_X6_holds) (pc := 0) dX6_holds_0 rfl rfl ?_
  refine gf_X6_21 (M := M_X6_holds) (pc := 1) rfl dX6_holds_1 rfl ?_
  obtain ⟨r1, er1, lr1, hF⟩ := hF
  refine aw_ref (a := r1) er1 ?_
  refine gf_X6_55 (M := M_X6_holds) (pc := 4) rfl dX6_holds_4 lr1 (r := r1 + 2) rfl ?_
  refine aw_iload_n (j := 1) (M := M_X6_holds) (pc := 7) dX6_holds_7 rfl rfl ?_
  obtain ⟨o3, hF⟩ := hF
  refine aw_iald (k := (a1).toNat) (M := M_X6_holds) (pc := 8) dX6_holds_8 (ll_1_4 lr1) o3 rfl ?_
  obtain ⟨x4, ex4⟩ : ∃ y : Int, y = h (r1 + 2) (a1).toNat := ⟨_, rfl⟩
  have hF := hF x4 ex4
  rw [← ex4]
  refine aw_istore_n (ls' := [(2, (0, x4)), (0, vr 78), (1, (0, a1))]) (M := M_X6_holds) (pc := 9) dX6_holds_9 rfl (by decide) rfl ?_
  refine aw_aload_n (j := 1) (M := M_X6_holds) (pc := 10) dX6_holds_10 rfl rfl ?_
  refine gf_X6_21 (M := M_X6_holds) (pc := 11) rfl dX6_holds_11 rfl ?_
  obtain ⟨r5, er5, lr5, hF⟩ := hF
  refine aw_ref (a := r5) er5 ?_
  refine gf_X6_42 (M := M_X6_holds) (pc := 14) rfl dX6_holds_14 lr5 (r := r5 + 1) rfl ?_
  refine aw_iload_n (j := 2) (M := M_X6_holds) (pc := 17) dX6_holds_17 rfl rfl ?_
  refine aw_iald (k := (a1).toNat) (M := M_X6_holds) (pc := 18) dX6_holds_18 (ll_1_3 lr5) o3 rfl ?_
  by_cases hc : (h (r5 + 1) (a1).toNat) = 4
  · have hF := hF.1 hc
    refine aw_tableIn (tgt := 44) (M := M_X6_holds) (pc := 19) dX6_holds_19 (by rw [hc]; decide) (by rw [hc]; decide) (off := 25) (by rw [hc]; rfl) rfl ?_
    refine aw_iload_n (j := 0) (M := M_X6_holds) (pc := 44) dX6_holds_44 rfl rfl ?_
    refine aw_aload_n (j := 1) (M := M_X6_holds) (pc := 45) dX6_holds_45 rfl rfl ?_
    refine gf_X6_17 (M := M_X6_holds) (pc := 46) rfl dX6_holds_46 rfl ?_
    obtain ⟨r7, er7, lr7, hF⟩ := hF
    refine aw_ref (a := r7) er7 ?_
    refine gf_X6_87 (M := M_X6_holds) (pc := 49) rfl dX6_holds_49 lr7 (r := r7 + 1) rfl ?_
    refine gf_X6_91 (M := M_X6_holds) (pc := 52) rfl dX6_holds_52 (ll_4_7 lr7) ?_
    refine aw_icmp_ge (tgt := 76) (M := M_X6_holds) (pc := 55) dX6_holds_55 rfl (fun hc => ?_) (fun hc => ?_)
    · have hF := hF.1 hc
      refine aw_iconst (M := M_X6_holds) (pc := 76) dX6_holds_76 ⟨by decide, by decide⟩ ?_
      exact aw_iretz (M := M_X6_holds) (pc := 77) dX6_holds_77 rfl (Or.inl rfl) ⟨_, rfl, hF⟩
    · have hF := hF.2 hc
      refine aw_aload_n (j := 1) (M := M_X6_holds) (pc := 58) dX6_holds_58 rfl rfl ?_
      refine gf_X6_17 (M := M_X6_holds) (pc := 59) rfl dX6_holds_59 rfl ?_
      obtain ⟨r8, er8, lr8, hF⟩ := hF
      refine aw_ref (a := r8) er8 ?_
      refine gf_X6_87 (M := M_X6_holds) (pc := 62) rfl dX6_holds_62 lr8 (r := r8 + 1) rfl ?_
      refine aw_iload_n (j := 0) (M := M_X6_holds) (pc := 65) dX6_holds_65 rfl rfl ?_
      refine aw_cvi (as := [(0, x4)]) (st := []) (M := M_X6_holds) (pc := 66) (f_X9_isLying (ll_4_7 lr8) hF) dX6_holds_66 rfl (Or.inl ⟨_, _, _, (ll_4_7 lr8), rfl⟩) cy_X9_isLying ml_X6_100 (by decide) (by decide) (Nat.le_of_ble_eq_true rfl) (fun r10 h9 hF => ?_)
      refine aw_if_eq (tgt := 76) (M := M_X6_holds) (pc := 69) dX6_holds_69 rfl (fun hc => ?_) (fun hc => ?_)
      · have hF := hF.1 hc
        refine aw_iconst (M := M_X6_holds) (pc := 76) dX6_holds_76 ⟨by decide, by decide⟩ ?_
        exact aw_iretz (M := M_X6_holds) (pc := 77) dX6_holds_77 rfl (Or.inl rfl) ⟨_, rfl, hF⟩
      · have hF := hF.2 hc
        refine aw_iconst (M := M_X6_holds) (pc := 72) dX6_holds_72 ⟨by decide, by decide⟩ ?_
        refine aw_goto (tgt := 77) (M := M_X6_holds) (pc := 73) dX6_holds_73 rfl ?_
        exact aw_iretz (M := M_X6_holds) (pc := 77) dX6_holds_77 rfl (Or.inr rfl) ⟨_, rfl, hF⟩
  have hF := hF.2
  have hc0 := hc
  by_cases hc : (h (r5 + 1) (a1).toNat) = 5
  · have hF := hF.1 hc
    refine aw_tableIn (tgt := 78) (M := M_X6_holds) (pc := 19) dX6_holds_19 (by rw [hc]; decide) (by rw [hc]; decide) (off := 59) (by rw [hc]; rfl) rfl ?_
    refine aw_aload_n (j := 1) (M := M_X6_holds) (pc := 78) dX6_holds_78 rfl rfl ?_
    refine gf_X6_17 (M := M_X6_holds) (pc := 79) rfl dX6_holds_79 rfl ?_
    obtain ⟨r11, er11, lr11, hF⟩ := hF
    refine aw_ref (a := r11) er11 ?_
    refine gf_X6_113 (M := M_X6_holds) (pc := 82) rfl dX6_holds_82 lr11 ?_
    refine aw_iload_n (j := 0) (M := M_X6_holds) (pc := 85) dX6_holds_85 rfl rfl ?_
    refine aw_icmp_ne (tgt := 93) (M := M_X6_holds) (pc := 86) dX6_holds_86 rfl (fun hc => ?_) (fun hc => ?_)
    · have hF := hF.1 hc
      refine aw_iconst (M := M_X6_holds) (pc := 93) dX6_holds_93 ⟨by decide, by decide⟩ ?_
      exact aw_iretz (M := M_X6_holds) (pc := 94) dX6_holds_94 rfl (Or.inl rfl) ⟨_, rfl, hF⟩
    · have hF := hF.2 hc
      refine aw_iconst (M := M_X6_holds) (pc := 89) dX6_holds_89 ⟨by decide, by decide⟩ ?_
      refine aw_goto (tgt := 94) (M := M_X6_holds) (pc := 90) dX6_holds_90 rfl ?_
      exact aw_iretz (M := M_X6_holds) (pc := 94) dX6_holds_94 rfl (Or.inr rfl) ⟨_, rfl, hF⟩
  have hF := hF.2
  have hc1 := hc
  by_cases hc : (h (r5 + 1) (a1).toNat) = 6
  · have hF := hF.1 hc
    refine aw_tableIn (tgt := 95) (M := M_X6_holds) (pc := 19) dX6_holds_19 (by rw [hc]; decide) (by rw [hc]; decide) (off := 76) (by rw [hc]; rfl) rfl ?_
    refine aw_aload_n (j := 1) (M := M_X6_holds) (pc := 95) dX6_holds_95 rfl rfl ?_
    refine gf_X6_17 (M := M_X6_holds) (pc := 96) rfl dX6_holds_96 rfl ?_
    obtain ⟨r12, er12, lr12, hF⟩ := hF
    refine aw_ref (a := r12) er12 ?_
    refine gf_X6_116 (M := M_X6_holds) (pc := 99) rfl dX6_holds_99 lr12 ?_
    refine aw_aload_n (j := 1) (M := M_X6_holds) (pc := 102) dX6_holds_102 rfl rfl ?_
    refine gf_X6_21 (M := M_X6_holds) (pc := 103) rfl dX6_holds_103 rfl ?_
    obtain ⟨r13, er13, lr13, hF⟩ := hF
    refine aw_ref (a := r13) er13 ?_
    refine gf_X6_119 (M := M_X6_holds) (pc := 106) rfl dX6_holds_106 lr13 (r := r13 + 4) rfl ?_
    refine aw_iload_n (j := 2) (M := M_X6_holds) (pc := 109) dX6_holds_109 rfl rfl ?_
    refine aw_iald (k := (a1).toNat) (M := M_X6_holds) (pc := 110) dX6_holds_110 (ll_1_6 lr13) o3 rfl ?_
    refine aw_aload_n (j := 1) (M := M_X6_holds) (pc := 111) dX6_holds_111 rfl rfl ?_
    refine gf_X6_21 (M := M_X6_holds) (pc := 112) rfl dX6_holds_112 rfl ?_
    obtain ⟨r15, er15, lr15, hF⟩ := hF
    refine aw_ref (a := r15) er15 ?_
    refine gf_X6_62 (M := M_X6_holds) (pc := 115) rfl dX6_holds_115 lr15 (r := r15 + 3) rfl ?_
    refine aw_iload_n (j := 2) (M := M_X6_holds) (pc := 118) dX6_holds_118 rfl rfl ?_
    refine aw_iald (k := (a1).toNat) (M := M_X6_holds) (pc := 119) dX6_holds_119 (ll_1_5 lr15) o3 rfl ?_
    refine aw_csi (as := [(0, h r12 3), (0, h (r13 + 4) (a1).toNat), (0, h (r15 + 3) (a1).toNat)]) (st := []) (M := M_X6_holds) (pc := 120) (f_X6_compares  hF) dX6_holds_120 rfl cy_X6_compares ml_X6_122 (by decide) (by decide) (Nat.le_of_ble_eq_true rfl) (fun r18 h17 hF => ?_)
    exact aw_iretz (M := M_X6_holds) (pc := 123) dX6_holds_123 rfl hF.1 ⟨_, rfl, hF.2⟩
  have hF := hF.2
  have hc2 := hc
  have hc : (h (r5 + 1) (a1).toNat) < 4 ∨ 6 < (h (r5 + 1) (a1).toNat) := so_X6_holds_19 hc0 hc1 hc2
  have hF := hF hc
  refine aw_tableOut (tgt := 124) (M := M_X6_holds) (pc := 19) dX6_holds_19 hc rfl ?_
  refine aw_iload_n (j := 0) (M := M_X6_holds) (pc := 124) dX6_holds_124 rfl rfl ?_
  refine aw_aload_n (j := 1) (M := M_X6_holds) (pc := 125) dX6_holds_125 rfl rfl ?_
  refine gf_X6_17 (M := M_X6_holds) (pc := 126) rfl dX6_holds_126 rfl ?_
  obtain ⟨r19, er19, lr19, hF⟩ := hF
  refine aw_ref (a := r19) er19 ?_
  refine gf_X6_126 (M := M_X6_holds) (pc := 129) rfl dX6_holds_129 lr19 (r := r19 + 10) rfl ?_
  refine gf_X6_130 (M := M_X6_holds) (pc := 132) rfl dX6_holds_132 (ll_4_8 lr19) ?_
  refine aw_icmp_ge (tgt := 178) (M := M_X6_holds) (pc := 135) dX6_holds_135 rfl (fun hc => ?_) (fun hc => ?_)
  · have hF := hF.1 hc
    refine aw_iconst (M := M_X6_holds) (pc := 178) dX6_holds_178 ⟨by decide, by decide⟩ ?_
    exact aw_iretz (M := M_X6_holds) (pc := 179) dX6_holds_179 rfl (Or.inl rfl) ⟨_, rfl, hF⟩
  · have hF := hF.2 hc
    refine aw_aload_n (j := 1) (M := M_X6_holds) (pc := 138) dX6_holds_138 rfl rfl ?_
    refine gf_X6_17 (M := M_X6_holds) (pc := 139) rfl dX6_holds_139 rfl ?_
    obtain ⟨r20, er20, lr20, hF⟩ := hF
    refine aw_ref (a := r20) er20 ?_
    refine gf_X6_126 (M := M_X6_holds) (pc := 142) rfl dX6_holds_142 lr20 (r := r20 + 10) rfl ?_
    refine gf_X6_133 (M := M_X6_holds) (pc := 145) rfl dX6_holds_145 (ll_4_8 lr20) (r := (r20 + 10) + 4) rfl ?_
    refine aw_iload_n (j := 0) (M := M_X6_holds) (pc := 148) dX6_holds_148 rfl rfl ?_
    obtain ⟨o22, hF⟩ := hF
    refine aw_iald (k := (x4).toNat) (M := M_X6_holds) (pc := 149) dX6_holds_149 (ll_7_4 (ll_4_8 lr20)) o22 rfl ?_
    refine aw_aload_n (j := 1) (M := M_X6_holds) (pc := 150) dX6_holds_150 rfl rfl ?_
    refine gf_X6_21 (M := M_X6_holds) (pc := 151) rfl dX6_holds_151 rfl ?_
    obtain ⟨r23, er23, lr23, hF⟩ := hF
    refine aw_ref (a := r23) er23 ?_
    refine gf_X6_119 (M := M_X6_holds) (pc := 154) rfl dX6_holds_154 lr23 (r := r23 + 4) rfl ?_
    refine aw_iload_n (j := 2) (M := M_X6_holds) (pc := 157) dX6_holds_157 rfl rfl ?_
    refine aw_iald (k := (a1).toNat) (M := M_X6_holds) (pc := 158) dX6_holds_158 (ll_1_6 lr23) o3 rfl ?_
    refine aw_aload_n (j := 1) (M := M_X6_holds) (pc := 159) dX6_holds_159 rfl rfl ?_
    refine gf_X6_21 (M := M_X6_holds) (pc := 160) rfl dX6_holds_160 rfl ?_
    obtain ⟨r25, er25, lr25, hF⟩ := hF
    refine aw_ref (a := r25) er25 ?_
    refine gf_X6_62 (M := M_X6_holds) (pc := 163) rfl dX6_holds_163 lr25 (r := r25 + 3) rfl ?_
    refine aw_iload_n (j := 2) (M := M_X6_holds) (pc := 166) dX6_holds_166 rfl rfl ?_
    refine aw_iald (k := (a1).toNat) (M := M_X6_holds) (pc := 167) dX6_holds_167 (ll_1_5 lr25) o3 rfl ?_
    refine aw_csi (as := [(0, h ((r20 + 10) + 4) (x4).toNat), (0, h (r23 + 4) (a1).toNat), (0, h (r25 + 3) (a1).toNat)]) (st := []) (M := M_X6_holds) (pc := 168) (f_X6_compares  hF) dX6_holds_168 rfl cy_X6_compares ml_X6_122 (by decide) (by decide) (Nat.le_of_ble_eq_true rfl) (fun r28 h27 hF => ?_)
    refine aw_if_eq (tgt := 178) (M := M_X6_holds) (pc := 171) dX6_holds_171 rfl (fun hc => ?_) (fun hc => ?_)
    · have hF := hF.1 hc
      refine aw_iconst (M := M_X6_holds) (pc := 178) dX6_holds_178 ⟨by decide, by decide⟩ ?_
      exact aw_iretz (M := M_X6_holds) (pc := 179) dX6_holds_179 rfl (Or.inl rfl) ⟨_, rfl, hF⟩
    · have hF := hF.2 hc
      refine aw_iconst (M := M_X6_holds) (pc := 174) dX6_holds_174 ⟨by decide, by decide⟩ ?_
      refine aw_goto (tgt := 179) (M := M_X6_holds) (pc := 175) dX6_holds_175 rfl ?_
      exact aw_iretz (M := M_X6_holds) (pc := 179) dX6_holds_179 rfl (Or.inr rfl) ⟨_, rfl, hF⟩
abbrev M_X6_letPass : Hd := (cX6_letPass, 2, RX6, none, (5, 139), sc0)
def F_X6_letPass (h : Mem) (a1 : Int) (Q : Mem → Prop) : Prop :=
  (∃ r1 : Nat, h 78 4 = (r1 : Int) ∧ lay r1 = (0, 4) ∧ (InR ((h r1 5) + a1) ∧ ((((h r1 5) + a1) ≤ 9999 → (∃ r3 : Nat, h 78 4 = (r3 : Int) ∧ lay r3 = (0, 4) ∧ (F_X4_passHours h r3 a1 (fun r5 h4 => Q h4)))) ∧ (¬ (((h r1 5) + a1) ≤ 9999) → (InR ((h 78 1) + 1) ∧ (∀ h7 : Mem, h7 = mset h 78 1 ((h 78 1) + 1) → Q h7))))))
set_option maxRecDepth 100000 in
set_option maxHeartbeats 4000000 in
theorem f_X6_letPass {h : Mem} {a1 : Int} {Q : Mem → Prop}  (hF : F_X6_letPass h a1 Q) : Ct yX6_letPass cX6_letPass 2 none (5, 139) [vr 78, (0, a1)] h (qv Q) := by
  refine Ct.of np_RX6 (Nat.le_of_ble_eq_true rfl) ?_
  unfold F_X6_letPass at hF
  show AW M_X6_letPass 0 [(0, vr 78), (1, (0, a1))] [] h (qv Q)
  refine aw_aload_n (j := 0) (M := M_X6_letPass) (pc := 0) dX6_letPass_0 rfl rfl ?_
  refine gf_X6_17 (M := M_X6_letPass) (pc := 1) rfl dX6_letPass_1 rfl ?_
  obtain ⟨r1, er1, lr1, hF⟩ := hF
  refine aw_ref (a := r1) er1 ?_
  refine gf_X6_79 (M := M_X6_letPass) (pc := 4) rfl dX6_letPass_4 lr1 ?_
  refine aw_iload_n (j := 1) (M := M_X6_letPass) (pc := 7) dX6_letPass_7 rfl rfl ?_
  obtain ⟨o2, hF⟩ := hF
  refine aw_iadd (M := M_X6_letPass) (pc := 8) dX6_letPass_8 rfl o2 ?_
  refine aw_sipush (M := M_X6_letPass) (pc := 9) dX6_letPass_9 ⟨rfl, ⟨by decide, by decide⟩⟩ ?_
  refine aw_icmp_le (tgt := 28) (M := M_X6_letPass) (pc := 12) dX6_letPass_12 rfl (fun hc => ?_) (fun hc => ?_)
  · have hF := hF.1 hc
    refine aw_aload_n (j := 0) (M := M_X6_letPass) (pc := 28) dX6_letPass_28 rfl rfl ?_
    refine gf_X6_17 (M := M_X6_letPass) (pc := 29) rfl dX6_letPass_29 rfl ?_
    obtain ⟨r3, er3, lr3, hF⟩ := hF
    refine aw_ref (a := r3) er3 ?_
    refine aw_iload_n (j := 1) (M := M_X6_letPass) (pc := 32) dX6_letPass_32 rfl rfl ?_
    refine aw_cvi (as := [(0, a1)]) (st := []) (M := M_X6_letPass) (pc := 33) (f_X4_passHours lr3 hF) dX6_letPass_33 rfl (Or.inl ⟨_, _, _, lr3, rfl⟩) cy_X4_passHours ml_X6_84 (by decide) (by decide) (Nat.le_of_ble_eq_true rfl) (fun r5 h4 hF => ?_)
    refine aw_pop (M := M_X6_letPass) (pc := 36) dX6_letPass_36 rfl ?_
    exact aw_ret (M := M_X6_letPass) (pc := 37) dX6_letPass_37 rfl ⟨rfl, hF⟩
  · have hF := hF.2 hc
    refine aw_aload_n (j := 0) (M := M_X6_letPass) (pc := 15) dX6_letPass_15 rfl rfl ?_
    refine aw_dup (M := M_X6_letPass) (pc := 16) dX6_letPass_16 rfl ?_
    refine gf_X6_32 (M := M_X6_letPass) (pc := 17) rfl dX6_letPass_17 rfl ?_
    refine aw_iconst (M := M_X6_letPass) (pc := 20) dX6_letPass_20 ⟨by decide, by decide⟩ ?_
    obtain ⟨o6, hF⟩ := hF
    refine aw_iadd (M := M_X6_letPass) (pc := 21) dX6_letPass_21 rfl o6 ?_
    refine pf_X6_32 (M := M_X6_letPass) (pc := 22) rfl dX6_letPass_22 rfl ?_
    obtain ⟨h7, eh7⟩ : ∃ y : Mem, y = mset h 78 1 ((h 78 1) + 1) := ⟨_, rfl⟩
    have hF := hF h7 eh7
    rw [← eh7]
    refine aw_goto (tgt := 37) (M := M_X6_letPass) (pc := 25) dX6_letPass_25 rfl ?_
    exact aw_ret (M := M_X6_letPass) (pc := 37) dX6_letPass_37 rfl ⟨rfl, hF⟩
abbrev M_X6_draw : Hd := (cX6_draw, 2, RX6, (some .int), (1, 45), sc0)
def F_X6_draw (h : Mem) (a1 : Int) (Q : Int → Mem → Prop) : Prop :=
  (InR ((h 78 3) * 3169) ∧ (InR (((h 78 3) * 3169) + 11393) ∧ (∀ h3 : Mem, h3 = mset h 78 3 ((((h 78 3) * 3169) + 11393 : Int).tmod 65536) → ((a1 ≤ 0 → Q 0 h3) ∧ (¬ (a1 ≤ 0) → (InR ((h3 78 3 : Int).tdiv 8) ∧ (a1 ≠ 0 ∧ Q (((h3 78 3 : Int).tdiv 8 : Int).tmod a1) h3)))))))
set_option maxRecDepth 100000 in
set_option maxHeartbeats 4000000 in
theorem f_X6_draw {h : Mem} {a1 : Int} {Q : Int → Mem → Prop}  (hF : F_X6_draw h a1 Q) : Ct yX6_draw cX6_draw 2 (some .int) (1, 45) [vr 78, (0, a1)] h (qi Q) := by
  refine Ct.of np_RX6 (Nat.le_of_ble_eq_true rfl) ?_
  unfold F_X6_draw at hF
  show AW M_X6_draw 0 [(0, vr 78), (1, (0, a1))] [] h (qi Q)
  refine aw_aload_n (j := 0) (M := M_X6_draw) (pc := 0) dX6_draw_0 rfl rfl ?_
  refine aw_aload_n (j := 0) (M := M_X6_draw) (pc := 1) dX6_draw_1 rfl rfl ?_
  refine gf_X6_25 (M := M_X6_draw) (pc := 2) rfl dX6_draw_2 rfl ?_
  refine aw_sipush (M := M_X6_draw) (pc := 5) dX6_draw_5 ⟨rfl, ⟨by decide, by decide⟩⟩ ?_
  obtain ⟨o1, hF⟩ := hF
  refine aw_imul (M := M_X6_draw) (pc := 8) dX6_draw_8 rfl o1 ?_
  refine aw_sipush (M := M_X6_draw) (pc := 9) dX6_draw_9 ⟨rfl, ⟨by decide, by decide⟩⟩ ?_
  obtain ⟨o2, hF⟩ := hF
  refine aw_iadd (M := M_X6_draw) (pc := 12) dX6_draw_12 rfl o2 ?_
  refine aw_ldc (v := 65536) (M := M_X6_draw) (pc := 13) dX6_draw_13 kc_X6_112 ⟨by decide, by decide⟩ ?_
  refine aw_irem (M := M_X6_draw) (pc := 15) dX6_draw_15 (by decide) ?_
  refine pf_X6_25 (M := M_X6_draw) (pc := 16) rfl dX6_draw_16 rfl ?_
  obtain ⟨h3, eh3⟩ : ∃ y : Mem, y = mset h 78 3 ((((h 78 3) * 3169) + 11393 : Int).tmod 65536) := ⟨_, rfl⟩
  have hF := hF h3 eh3
  rw [← eh3]
  refine aw_iload_n (j := 1) (M := M_X6_draw) (pc := 19) dX6_draw_19 rfl rfl ?_
  refine aw_if_le (tgt := 35) (M := M_X6_draw) (pc := 20) dX6_draw_20 rfl (fun hc => ?_) (fun hc => ?_)
  · have hF := hF.1 hc
    refine aw_iconst (M := M_X6_draw) (pc := 35) dX6_draw_35 ⟨by decide, by decide⟩ ?_
    exact aw_ireti (M := M_X6_draw) (pc := 36) dX6_draw_36 rfl ⟨_, rfl, hF⟩
  · have hF := hF.2 hc
    refine aw_aload_n (j := 0) (M := M_X6_draw) (pc := 23) dX6_draw_23 rfl rfl ?_
    refine gf_X6_25 (M := M_X6_draw) (pc := 24) rfl dX6_draw_24 rfl ?_
    refine aw_bipush (M := M_X6_draw) (pc := 27) dX6_draw_27 ⟨rfl, ⟨by decide, by decide⟩⟩ ?_
    obtain ⟨o4, hF⟩ := hF
    refine aw_idiv (M := M_X6_draw) (pc := 29) dX6_draw_29 (by decide) o4 ?_
    refine aw_iload_n (j := 1) (M := M_X6_draw) (pc := 30) dX6_draw_30 rfl rfl ?_
    obtain ⟨o5, hF⟩ := hF
    refine aw_irem (M := M_X6_draw) (pc := 31) dX6_draw_31 o5 ?_
    refine aw_goto (tgt := 36) (M := M_X6_draw) (pc := 32) dX6_draw_32 rfl ?_
    exact aw_ireti (M := M_X6_draw) (pc := 36) dX6_draw_36 rfl ⟨_, rfl, hF⟩
abbrev M_X6_throwThing : Hd := (cX6_throwThing, 3, RX6, none, (3, 90), sc0)
def F_X6_throwThing (h : Mem) (a1 : Int) (a2 : Int) (Q : Mem → Prop) : Prop :=
  (∃ r1 : Nat, h 78 4 = (r1 : Int) ∧ lay r1 = (0, 4) ∧ (((h (r1 + 1) 0) ≤ a1 → (InR ((h 78 1) + 1) ∧ (∀ h3 : Mem, h3 = mset h 78 1 ((h 78 1) + 1) → Q h3))) ∧ (¬ ((h (r1 + 1) 0) ≤ a1) → (∃ r4 : Nat, h 78 4 = (r4 : Int) ∧ lay r4 = (0, 4) ∧ (F_X9_isFree h (r4 + 1) a1 (fun r6 h5 => ((¬ (r6 = 0) → (∃ r7 : Nat, h5 78 4 = (r7 : Int) ∧ lay r7 = (0, 4) ∧ (F_X9_throwInto h5 (r7 + 1) a1 a2 (fun h8 => Q h8)))) ∧ (r6 = 0 → (InR ((h5 78 1) + 1) ∧ (∀ h11 : Mem, h11 = mset h5 78 1 ((h5 78 1) + 1) → Q h11))))))))))
set_option maxRecDepth 100000 in
set_option maxHeartbeats 4000000 in
theorem f_X6_throwThing {h : Mem} {a1 : Int} {a2 : Int} {Q : Mem → Prop}  (hF : F_X6_throwThing h a1 a2 Q) : Ct yX6_throwThing cX6_throwThing 3 none (3, 90) [vr 78, (0, a1), (0, a2)] h (qv Q) := by
  refine Ct.of np_RX6 (Nat.le_of_ble_eq_true rfl) ?_
  unfold F_X6_throwThing at hF
  show AW M_X6_throwThing 0 [(0, vr 78), (1, (0, a1)), (2, (0, a2))] [] h (qv Q)
  refine aw_iload_n (j := 1) (M := M_X6_throwThing) (pc := 0) dX6_throwThing_0 rfl rfl ?_
  refine aw_aload_n (j := 0) (M := M_X6_throwThing) (pc := 1) dX6_throwThing_1 rfl rfl ?_
  refine gf_X6_17 (M := M_X6_throwThing) (pc := 2) rfl dX6_throwThing_2 rfl ?_
  obtain ⟨r1, er1, lr1, hF⟩ := hF
  refine aw_ref (a := r1) er1 ?_
  refine gf_X6_87 (M := M_X6_throwThing) (pc := 5) rfl dX6_throwThing_5 lr1 (r := r1 + 1) rfl ?_
  refine gf_X6_91 (M := M_X6_throwThing) (pc := 8) rfl dX6_throwThing_8 (ll_4_7 lr1) ?_
  refine aw_icmp_ge (tgt := 28) (M := M_X6_throwThing) (pc := 11) dX6_throwThing_11 rfl (fun hc => ?_) (fun hc => ?_)
  · have hF := hF.1 hc
    refine aw_aload_n (j := 0) (M := M_X6_throwThing) (pc := 28) dX6_throwThing_28 rfl rfl ?_
    refine aw_dup (M := M_X6_throwThing) (pc := 29) dX6_throwThing_29 rfl ?_
    refine gf_X6_32 (M := M_X6_throwThing) (pc := 30) rfl dX6_throwThing_30 rfl ?_
    refine aw_iconst (M := M_X6_throwThing) (pc := 33) dX6_throwThing_33 ⟨by decide, by decide⟩ ?_
    obtain ⟨o2, hF⟩ := hF
    refine aw_iadd (M := M_X6_throwThing) (pc := 34) dX6_throwThing_34 rfl o2 ?_
    refine pf_X6_32 (M := M_X6_throwThing) (pc := 35) rfl dX6_throwThing_35 rfl ?_
    obtain ⟨h3, eh3⟩ : ∃ y : Mem, y = mset h 78 1 ((h 78 1) + 1) := ⟨_, rfl⟩
    have hF := hF h3 eh3
    rw [← eh3]
    refine aw_goto (tgt := 53) (M := M_X6_throwThing) (pc := 38) dX6_throwThing_38 rfl ?_
    exact aw_ret (M := M_X6_throwThing) (pc := 53) dX6_throwThing_53 rfl ⟨rfl, hF⟩
  · have hF := hF.2 hc
    refine aw_aload_n (j := 0) (M := M_X6_throwThing) (pc := 14) dX6_throwThing_14 rfl rfl ?_
    refine gf_X6_17 (M := M_X6_throwThing) (pc := 15) rfl dX6_throwThing_15 rfl ?_
    obtain ⟨r4, er4, lr4, hF⟩ := hF
    refine aw_ref (a := r4) er4 ?_
    refine gf_X6_87 (M := M_X6_throwThing) (pc := 18) rfl dX6_throwThing_18 lr4 (r := r4 + 1) rfl ?_
    refine aw_iload_n (j := 1) (M := M_X6_throwThing) (pc := 21) dX6_throwThing_21 rfl rfl ?_
    refine aw_cvi (as := [(0, a1)]) (st := []) (M := M_X6_throwThing) (pc := 22) (f_X9_isFree (ll_4_7 lr4) hF) dX6_throwThing_22 rfl (Or.inl ⟨_, _, _, (ll_4_7 lr4), rfl⟩) cy_X9_isFree ml_X6_94 (by decide) (by decide) (Nat.le_of_ble_eq_true rfl) (fun r6 h5 hF => ?_)
    refine aw_if_ne (tgt := 41) (M := M_X6_throwThing) (pc := 25) dX6_throwThing_25 rfl (fun hc => ?_) (fun hc => ?_)
    · have hF := hF.1 hc
      refine aw_aload_n (j := 0) (M := M_X6_throwThing) (pc := 41) dX6_throwThing_41 rfl rfl ?_
      refine gf_X6_17 (M := M_X6_throwThing) (pc := 42) rfl dX6_throwThing_42 rfl ?_
      obtain ⟨r7, er7, lr7, hF⟩ := hF
      refine aw_ref (a := r7) er7 ?_
      refine gf_X6_87 (M := M_X6_throwThing) (pc := 45) rfl dX6_throwThing_45 lr7 (r := r7 + 1) rfl ?_
      refine aw_iload_n (j := 1) (M := M_X6_throwThing) (pc := 48) dX6_throwThing_48 rfl rfl ?_
      refine aw_iload_n (j := 2) (M := M_X6_throwThing) (pc := 49) dX6_throwThing_49 rfl rfl ?_
      refine aw_cvv (as := [(0, a1), (0, a2)]) (st := []) (M := M_X6_throwThing) (pc := 50) (f_X9_throwInto (ll_4_7 lr7) hF) dX6_throwThing_50 rfl (Or.inl ⟨_, _, _, (ll_4_7 lr7), rfl⟩) cy_X9_throwInto ml_X6_97 (by decide) (by decide) (Nat.le_of_ble_eq_true rfl) (fun h8 hF => ?_)
      exact aw_ret (M := M_X6_throwThing) (pc := 53) dX6_throwThing_53 rfl ⟨rfl, hF⟩
    · have hF := hF.2 hc
      refine aw_aload_n (j := 0) (M := M_X6_throwThing) (pc := 28) dX6_throwThing_28 rfl rfl ?_
      refine aw_dup (M := M_X6_throwThing) (pc := 29) dX6_throwThing_29 rfl ?_
      refine gf_X6_32 (M := M_X6_throwThing) (pc := 30) rfl dX6_throwThing_30 rfl ?_
      refine aw_iconst (M := M_X6_throwThing) (pc := 33) dX6_throwThing_33 ⟨by decide, by decide⟩ ?_
      obtain ⟨o10, hF⟩ := hF
      refine aw_iadd (M := M_X6_throwThing) (pc := 34) dX6_throwThing_34 rfl o10 ?_
      refine pf_X6_32 (M := M_X6_throwThing) (pc := 35) rfl dX6_throwThing_35 rfl ?_
      obtain ⟨h11, eh11⟩ : ∃ y : Mem, y = mset h5 78 1 ((h5 78 1) + 1) := ⟨_, rfl⟩
      have hF := hF h11 eh11
      rw [← eh11]
      refine aw_goto (tgt := 53) (M := M_X6_throwThing) (pc := 38) dX6_throwThing_38 rfl ?_
      exact aw_ret (M := M_X6_throwThing) (pc := 53) dX6_throwThing_53 rfl ⟨rfl, hF⟩
abbrev M_X6_throwAny : Hd := (cX6_throwAny, 3, RX6, none, (4, 112), sc0)
def F_X6_throwAny (h : Mem)  (Q : Mem → Prop) : Prop :=
  (∃ r1 : Nat, h 78 4 = (r1 : Int) ∧ lay r1 = (0, 4) ∧ ((0 < (h (r1 + 1) 0) → (∃ r2 : Nat, h 78 4 = (r2 : Int) ∧ lay r2 = (0, 4) ∧ (F_X6_draw h (h (r2 + 1) 0) (fun r4 h3 => (∃ r5 : Nat, h3 78 4 = (r5 : Int) ∧ lay r5 = (0, 4) ∧ (F_X6_draw h3 (h3 r5 0) (fun r7 h6 => (F_X6_throwThing h6 r4 r7 (fun h8 => Q h8))))))))) ∧ (¬ (0 < (h (r1 + 1) 0)) → (InR ((h 78 1) + 1) ∧ (∀ h11 : Mem, h11 = mset h 78 1 ((h 78 1) + 1) → Q h11)))))
set_option maxRecDepth 100000 in
set_option maxHeartbeats 4000000 in
theorem f_X6_throwAny {h : Mem}  {Q : Mem → Prop}  (hF : F_X6_throwAny h  Q) : Ct yX6_throwAny cX6_throwAny 3 none (4, 112) [vr 78] h (qv Q) := by
  refine Ct.of np_RX6 (Nat.le_of_ble_eq_true rfl) ?_
  unfold F_X6_throwAny at hF
  show AW M_X6_throwAny 0 [(0, vr 78)] [] h (qv Q)
  refine aw_aload_n (j := 0) (M := M_X6_throwAny) (pc := 0) dX6_throwAny_0 rfl rfl ?_
  refine gf_X6_17 (M := M_X6_throwAny) (pc := 1) rfl dX6_throwAny_1 rfl ?_
  obtain ⟨r1, er1, lr1, hF⟩ := hF
  refine aw_ref (a := r1) er1 ?_
  refine gf_X6_87 (M := M_X6_throwAny) (pc := 4) rfl dX6_throwAny_4 lr1 (r := r1 + 1) rfl ?_
  refine gf_X6_91 (M := M_X6_throwAny) (pc := 7) rfl dX6_throwAny_7 (ll_4_7 lr1) ?_
  refine aw_if_gt (tgt := 24) (M := M_X6_throwAny) (pc := 10) dX6_throwAny_10 rfl (fun hc => ?_) (fun hc => ?_)
  · have hF := hF.1 hc
    refine aw_aload_n (j := 0) (M := M_X6_throwAny) (pc := 24) dX6_throwAny_24 rfl rfl ?_
    refine aw_aload_n (j := 0) (M := M_X6_throwAny) (pc := 25) dX6_throwAny_25 rfl rfl ?_
    refine gf_X6_17 (M := M_X6_throwAny) (pc := 26) rfl dX6_throwAny_26 rfl ?_
    obtain ⟨r2, er2, lr2, hF⟩ := hF
    refine aw_ref (a := r2) er2 ?_
    refine gf_X6_87 (M := M_X6_throwAny) (pc := 29) rfl dX6_throwAny_29 lr2 (r := r2 + 1) rfl ?_
    refine gf_X6_91 (M := M_X6_throwAny) (pc := 32) rfl dX6_throwAny_32 (ll_4_7 lr2) ?_
    refine aw_cvi (as := [(0, h (r2 + 1) 0)]) (st := []) (M := M_X6_throwAny) (pc := 35) (f_X6_draw  hF) dX6_throwAny_35 rfl (Or.inl ⟨_, _, _, rfl, rfl⟩) cy_X6_draw ml_X6_106 (by decide) (by decide) (Nat.le_of_ble_eq_true rfl) (fun r4 h3 hF => ?_)
    refine aw_istore_n (ls' := [(1, (0, r4)), (0, vr 78)]) (M := M_X6_throwAny) (pc := 38) dX6_throwAny_38 rfl (by decide) rfl ?_
    refine aw_aload_n (j := 1) (M := M_X6_throwAny) (pc := 39) dX6_throwAny_39 rfl rfl ?_
    refine aw_aload_n (j := 1) (M := M_X6_throwAny) (pc := 40) dX6_throwAny_40 rfl rfl ?_
    refine gf_X6_17 (M := M_X6_throwAny) (pc := 41) rfl dX6_throwAny_41 rfl ?_
    obtain ⟨r5, er5, lr5, hF⟩ := hF
    refine aw_ref (a := r5) er5 ?_
    refine gf_X6_109 (M := M_X6_throwAny) (pc := 44) rfl dX6_throwAny_44 lr5 ?_
    refine aw_cvi (as := [(0, h3 r5 0)]) (st := []) (M := M_X6_throwAny) (pc := 47) (f_X6_draw  hF) dX6_throwAny_47 rfl (Or.inl ⟨_, _, _, rfl, rfl⟩) cy_X6_draw ml_X6_106 (by decide) (by decide) (Nat.le_of_ble_eq_true rfl) (fun r7 h6 hF => ?_)
    refine aw_istore_n (ls' := [(2, (0, r7)), (1, (0, r4)), (0, vr 78)]) (M := M_X6_throwAny) (pc := 50) dX6_throwAny_50 rfl (by decide) rfl ?_
    refine aw_aload_n (j := 2) (M := M_X6_throwAny) (pc := 51) dX6_throwAny_51 rfl rfl ?_
    refine aw_iload_n (j := 1) (M := M_X6_throwAny) (pc := 52) dX6_throwAny_52 rfl rfl ?_
    refine aw_iload_n (j := 0) (M := M_X6_throwAny) (pc := 53) dX6_throwAny_53 rfl rfl ?_
    refine aw_cvv (as := [(0, r4), (0, r7)]) (st := []) (M := M_X6_throwAny) (pc := 54) (f_X6_throwThing  hF) dX6_throwAny_54 rfl (Or.inl ⟨_, _, _, rfl, rfl⟩) cy_X6_throwThing ml_X6_65 (by decide) (by decide) (Nat.le_of_ble_eq_true rfl) (fun h8 hF => ?_)
    exact aw_ret (M := M_X6_throwAny) (pc := 57) dX6_throwAny_57 rfl ⟨rfl, hF⟩
  · have hF := hF.2 hc
    refine aw_aload_n (j := 0) (M := M_X6_throwAny) (pc := 13) dX6_throwAny_13 rfl rfl ?_
    refine aw_dup (M := M_X6_throwAny) (pc := 14) dX6_throwAny_14 rfl ?_
    refine gf_X6_32 (M := M_X6_throwAny) (pc := 15) rfl dX6_throwAny_15 rfl ?_
    refine aw_iconst (M := M_X6_throwAny) (pc := 18) dX6_throwAny_18 ⟨by decide, by decide⟩ ?_
    obtain ⟨o10, hF⟩ := hF
    refine aw_iadd (M := M_X6_throwAny) (pc := 19) dX6_throwAny_19 rfl o10 ?_
    refine pf_X6_32 (M := M_X6_throwAny) (pc := 20) rfl dX6_throwAny_20 rfl ?_
    obtain ⟨h11, eh11⟩ : ∃ y : Mem, y = mset h 78 1 ((h 78 1) + 1) := ⟨_, rfl⟩
    have hF := hF h11 eh11
    rw [← eh11]
    exact aw_ret (M := M_X6_throwAny) (pc := 23) dX6_throwAny_23 rfl ⟨rfl, hF⟩
theorem so_X6_behindStep_46 {x : Int} (h0 : ¬ x = 0) (h1 : ¬ x = 1) (h2 : ¬ x = 2) (h3 : ¬ x = 3) (h4 : ¬ x = 4) (h5 : ¬ x = 5) (h6 : ¬ x = 6) (h7 : ¬ x = 7) (h8 : ¬ x = 8) (h9 : ¬ x = 9) : x < 0 ∨ 9 < x := by omega
abbrev M_X6_behindStep : Hd := (cX6_behindStep, 3, RX6, (some .int), (6, 160), sc0)
def F_X6_behindStep (h : Mem) (a1 : Int) (Q : Int → Mem → Prop) : Prop :=
  (((h 78 0) < 300 → (InR ((h 78 0) + 1) ∧ (∀ h2 : Mem, h2 = mset h 78 0 ((h 78 0) + 1) → (∃ r3 : Nat, h2 78 5 = (r3 : Int) ∧ lay r3 = (0, 1) ∧ ((0 ≤ a1 ∧ a1 < 60) ∧ (∀ x6 : Int, x6 = h2 (r3 + 2) (a1).toNat → (∃ r7 : Nat, h2 78 5 = (r7 : Int) ∧ lay r7 = (0, 1) ∧ (((h2 (r7 + 1) (a1).toNat) = 0 → (F_X6_letPass h2 x6 (fun h9 => (InR (a1 + 1) ∧ Q (a1 + 1) h9)))) ∧ (((h2 (r7 + 1) (a1).toNat) = 1 → (∃ r12 : Nat, h2 78 5 = (r12 : Int) ∧ lay r12 = (0, 1) ∧ (F_X6_throwThing h2 x6 (h2 (r12 + 3) (a1).toNat) (fun h14 => (InR (a1 + 1) ∧ Q (a1 + 1) h14))))) ∧ (((h2 (r7 + 1) (a1).toNat) = 2 → (F_X6_fetchThing h2 x6 (fun h17 => (InR (a1 + 1) ∧ Q (a1 + 1) h17)))) ∧ (((h2 (r7 + 1) (a1).toNat) = 3 → (F_X6_throwAny h2  (fun h20 => (InR (a1 + 1) ∧ Q (a1 + 1) h20)))) ∧ (((h2 (r7 + 1) (a1).toNat) = 4 → (F_X6_holds h2 a1 (fun r24 h23 => ((r24 = 0 → (∃ r25 : Nat, h23 78 5 = (r25 : Int) ∧ lay r25 = (0, 1) ∧ (InR ((h23 (r25 + 5) (a1).toNat) + 1) ∧ Q ((h23 (r25 + 5) (a1).toNat) + 1) h23))) ∧ (¬ (r24 = 0) → (InR (a1 + 1) ∧ Q (a1 + 1) h23)))))) ∧ (((h2 (r7 + 1) (a1).toNat) = 5 → (F_X6_holds h2 a1 (fun r30 h29 => ((r30 = 0 → (∃ r31 : Nat, h29 78 5 = (r31 : Int) ∧ lay r31 = (0, 1) ∧ (InR ((h29 (r31 + 5) (a1).toNat) + 1) ∧ Q ((h29 (r31 + 5) (a1).toNat) + 1) h29))) ∧ (¬ (r30 = 0) → (InR (a1 + 1) ∧ Q (a1 + 1) h29)))))) ∧ (((h2 (r7 + 1) (a1).toNat) = 6 → (F_X6_holds h2 a1 (fun r36 h35 => ((r36 = 0 → (∃ r37 : Nat, h35 78 5 = (r37 : Int) ∧ lay r37 = (0, 1) ∧ (InR ((h35 (r37 + 5) (a1).toNat) + 1) ∧ Q ((h35 (r37 + 5) (a1).toNat) + 1) h35))) ∧ (¬ (r36 = 0) → (InR (a1 + 1) ∧ Q (a1 + 1) h35)))))) ∧ (((h2 (r7 + 1) (a1).toNat) = 7 → (F_X6_holds h2 a1 (fun r42 h41 => ((r42 = 0 → (∃ r43 : Nat, h41 78 5 = (r43 : Int) ∧ lay r43 = (0, 1) ∧ (InR ((h41 (r43 + 5) (a1).toNat) + 1) ∧ Q ((h41 (r43 + 5) (a1).toNat) + 1) h41))) ∧ (¬ (r42 = 0) → (InR (a1 + 1) ∧ Q (a1 + 1) h41)))))) ∧ (((h2 (r7 + 1) (a1).toNat) = 8 → (∀ h47 : Mem, h47 = mset h2 79 (a1).toNat x6 → (InR (a1 + 1) ∧ Q (a1 + 1) h47))) ∧ (((h2 (r7 + 1) (a1).toNat) = 9 → Q (-1) h2) ∧ (((h2 (r7 + 1) (a1).toNat) < 0 ∨ 9 < (h2 (r7 + 1) (a1).toNat)) → (F_X6_holds h2 a1 (fun r50 h49 => ((r50 = 0 → (∃ r51 : Nat, h49 78 5 = (r51 : Int) ∧ lay r51 = (0, 1) ∧ (InR ((h49 (r51 + 5) (a1).toNat) + 1) ∧ Q ((h49 (r51 + 5) (a1).toNat) + 1) h49))) ∧ (¬ (r50 = 0) → (InR (a1 + 1) ∧ Q (a1 + 1) h49))))))))))))))))))))))) ∧ (¬ ((h 78 0) < 300) → (∀ h55 : Mem, h55 = mset h 78 2 1 → Q (-1) h55)))
set_option maxRecDepth 100000 in
set_option maxHeartbeats 4000000 in
theorem f_X6_behindStep {h : Mem} {a1 : Int} {Q : Int → Mem → Prop}  (hF : F_X6_behindStep h a1 Q) : Ct yX6_behindStep cX6_behindStep 3 (some .int) (6, 160) [vr 78, (0, a1)] h (qi Q) := by
  refine Ct.of np_RX6 (Nat.le_of_ble_eq_true rfl) ?_
  unfold F_X6_behindStep at hF
  show AW M_X6_behindStep 0 [(0, vr 78), (1, (0, a1))] [] h (qi Q)
  refine aw_aload_n (j := 0) (M := M_X6_behindStep) (pc := 0) dX6_behindStep_0 rfl rfl ?_
  refine gf_X6_29 (M := M_X6_behindStep) (pc := 1) rfl dX6_behindStep_1 rfl ?_
  refine aw_sipush (M := M_X6_behindStep) (pc := 4) dX6_behindStep_4 ⟨rfl, ⟨by decide, by decide⟩⟩ ?_
  refine aw_icmp_lt (tgt := 17) (M := M_X6_behindStep) (pc := 7) dX6_behindStep_7 rfl (fun hc => ?_) (fun hc => ?_)
  · have hF := hF.1 hc
    refine aw_aload_n (j := 0) (M := M_X6_behindStep) (pc := 17) dX6_behindStep_17 rfl rfl ?_
    refine aw_dup (M := M_X6_behindStep) (pc := 18) dX6_behindStep_18 rfl ?_
    refine gf_X6_29 (M := M_X6_behindStep) (pc := 19) rfl dX6_behindStep_19 rfl ?_
    refine aw_iconst (M := M_X6_behindStep) (pc := 22) dX6_behindStep_22 ⟨by decide, by decide⟩ ?_
    obtain ⟨o1, hF⟩ := hF
    refine aw_iadd (M := M_X6_behindStep) (pc := 23) dX6_behindStep_23 rfl o1 ?_
    refine pf_X6_29 (M := M_X6_behindStep) (pc := 24) rfl dX6_behindStep_24 rfl ?_
    obtain ⟨h2, eh2⟩ : ∃ y : Mem, y = mset h 78 0 ((h 78 0) + 1) := ⟨_, rfl⟩
    have hF := hF h2 eh2
    rw [← eh2]
    refine aw_aload_n (j := 0) (M := M_X6_behindStep) (pc := 27) dX6_behindStep_27 rfl rfl ?_
    refine gf_X6_21 (M := M_X6_behindStep) (pc := 28) rfl dX6_behindStep_28 rfl ?_
    obtain ⟨r3, er3, lr3, hF⟩ := hF
    refine aw_ref (a := r3) er3 ?_
    refine gf_X6_55 (M := M_X6_behindStep) (pc := 31) rfl dX6_behindStep_31 lr3 (r := r3 + 2) rfl ?_
    refine aw_iload_n (j := 1) (M := M_X6_behindStep) (pc := 34) dX6_behindStep_34 rfl rfl ?_
    obtain ⟨o5, hF⟩ := hF
    refine aw_iald (k := (a1).toNat) (M := M_X6_behindStep) (pc := 35) dX6_behindStep_35 (ll_1_4 lr3) o5 rfl ?_
    obtain ⟨x6, ex6⟩ : ∃ y : Int, y = h2 (r3 + 2) (a1).toNat := ⟨_, rfl⟩
    have hF := hF x6 ex6
    rw [← ex6]
    refine aw_istore_n (ls' := [(2, (0, x6)), (0, vr 78), (1, (0, a1))]) (M := M_X6_behindStep) (pc := 36) dX6_behindStep_36 rfl (by decide) rfl ?_
    refine aw_aload_n (j := 1) (M := M_X6_behindStep) (pc := 37) dX6_behindStep_37 rfl rfl ?_
    refine gf_X6_21 (M := M_X6_behindStep) (pc := 38) rfl dX6_behindStep_38 rfl ?_
    obtain ⟨r7, er7, lr7, hF⟩ := hF
    refine aw_ref (a := r7) er7 ?_
    refine gf_X6_42 (M := M_X6_behindStep) (pc := 41) rfl dX6_behindStep_41 lr7 (r := r7 + 1) rfl ?_
    refine aw_iload_n (j := 2) (M := M_X6_behindStep) (pc := 44) dX6_behindStep_44 rfl rfl ?_
    refine aw_iald (k := (a1).toNat) (M := M_X6_behindStep) (pc := 45) dX6_behindStep_45 (ll_1_3 lr7) o5 rfl ?_
    by_cases hc : (h2 (r7 + 1) (a1).toNat) = 0
    · have hF := hF.1 hc
      refine aw_tableIn (tgt := 100) (M := M_X6_behindStep) (pc := 46) dX6_behindStep_46 (by rw [hc]; decide) (by rw [hc]; decide) (off := 54) (by rw [hc]; rfl) rfl ?_
      refine aw_aload_n (j := 1) (M := M_X6_behindStep) (pc := 100) dX6_behindStep_100 rfl rfl ?_
      refine aw_iload_n (j := 0) (M := M_X6_behindStep) (pc := 101) dX6_behindStep_101 rfl rfl ?_
      refine aw_cvv (as := [(0, x6)]) (st := []) (M := M_X6_behindStep) (pc := 102) (f_X6_letPass  hF) dX6_behindStep_102 rfl (Or.inl ⟨_, _, _, rfl, rfl⟩) cy_X6_letPass ml_X6_58 (by decide) (by decide) (Nat.le_of_ble_eq_true rfl) (fun h9 hF => ?_)
      refine aw_goto (tgt := 178) (M := M_X6_behindStep) (pc := 105) dX6_behindStep_105 rfl ?_
      refine aw_iload_n (j := 2) (M := M_X6_behindStep) (pc := 178) dX6_behindStep_178 rfl rfl ?_
      refine aw_iconst (M := M_X6_behindStep) (pc := 179) dX6_behindStep_179 ⟨by decide, by decide⟩ ?_
      obtain ⟨o11, hF⟩ := hF
      refine aw_iadd (M := M_X6_behindStep) (pc := 180) dX6_behindStep_180 rfl o11 ?_
      exact aw_ireti (M := M_X6_behindStep) (pc := 181) dX6_behindStep_181 rfl ⟨_, rfl, hF⟩
    have hF := hF.2
    have hc0 := hc
    by_cases hc : (h2 (r7 + 1) (a1).toNat) = 1
    · have hF := hF.1 hc
      refine aw_tableIn (tgt := 108) (M := M_X6_behindStep) (pc := 46) dX6_behindStep_46 (by rw [hc]; decide) (by rw [hc]; decide) (off := 62) (by rw [hc]; rfl) rfl ?_
      refine aw_aload_n (j := 1) (M := M_X6_behindStep) (pc := 108) dX6_behindStep_108 rfl rfl ?_
      refine aw_iload_n (j := 0) (M := M_X6_behindStep) (pc := 109) dX6_behindStep_109 rfl rfl ?_
      refine aw_aload_n (j := 1) (M := M_X6_behindStep) (pc := 110) dX6_behindStep_110 rfl rfl ?_
      refine gf_X6_21 (M := M_X6_behindStep) (pc := 111) rfl dX6_behindStep_111 rfl ?_
      obtain ⟨r12, er12, lr12, hF⟩ := hF
      refine aw_ref (a := r12) er12 ?_
      refine gf_X6_62 (M := M_X6_behindStep) (pc := 114) rfl dX6_behindStep_114 lr12 (r := r12 + 3) rfl ?_
      refine aw_iload_n (j := 2) (M := M_X6_behindStep) (pc := 117) dX6_behindStep_117 rfl rfl ?_
      refine aw_iald (k := (a1).toNat) (M := M_X6_behindStep) (pc := 118) dX6_behindStep_118 (ll_1_5 lr12) o5 rfl ?_
      refine aw_cvv (as := [(0, x6), (0, h2 (r12 + 3) (a1).toNat)]) (st := []) (M := M_X6_behindStep) (pc := 119) (f_X6_throwThing  hF) dX6_behindStep_119 rfl (Or.inl ⟨_, _, _, rfl, rfl⟩) cy_X6_throwThing ml_X6_65 (by decide) (by decide) (Nat.le_of_ble_eq_true rfl) (fun h14 hF => ?_)
      refine aw_goto (tgt := 178) (M := M_X6_behindStep) (pc := 122) dX6_behindStep_122 rfl ?_
      refine aw_iload_n (j := 2) (M := M_X6_behindStep) (pc := 178) dX6_behindStep_178 rfl rfl ?_
      refine aw_iconst (M := M_X6_behindStep) (pc := 179) dX6_behindStep_179 ⟨by decide, by decide⟩ ?_
      obtain ⟨o16, hF⟩ := hF
      refine aw_iadd (M := M_X6_behindStep) (pc := 180) dX6_behindStep_180 rfl o16 ?_
      exact aw_ireti (M := M_X6_behindStep) (pc := 181) dX6_behindStep_181 rfl ⟨_, rfl, hF⟩
    have hF := hF.2
    have hc1 := hc
    by_cases hc : (h2 (r7 + 1) (a1).toNat) = 2
    · have hF := hF.1 hc
      refine aw_tableIn (tgt := 125) (M := M_X6_behindStep) (pc := 46) dX6_behindStep_46 (by rw [hc]; decide) (by rw [hc]; decide) (off := 79) (by rw [hc]; rfl) rfl ?_
      refine aw_aload_n (j := 1) (M := M_X6_behindStep) (pc := 125) dX6_behindStep_125 rfl rfl ?_
      refine aw_iload_n (j := 0) (M := M_X6_behindStep) (pc := 126) dX6_behindStep_126 rfl rfl ?_
      refine aw_cvv (as := [(0, x6)]) (st := []) (M := M_X6_behindStep) (pc := 127) (f_X6_fetchThing  hF) dX6_behindStep_127 rfl (Or.inl ⟨_, _, _, rfl, rfl⟩) cy_X6_fetchThing ml_X6_69 (by decide) (by decide) (Nat.le_of_ble_eq_true rfl) (fun h17 hF => ?_)
      refine aw_goto (tgt := 178) (M := M_X6_behindStep) (pc := 130) dX6_behindStep_130 rfl ?_
      refine aw_iload_n (j := 2) (M := M_X6_behindStep) (pc := 178) dX6_behindStep_178 rfl rfl ?_
      refine aw_iconst (M := M_X6_behindStep) (pc := 179) dX6_behindStep_179 ⟨by decide, by decide⟩ ?_
      obtain ⟨o19, hF⟩ := hF
      refine aw_iadd (M := M_X6_behindStep) (pc := 180) dX6_behindStep_180 rfl o19 ?_
      exact aw_ireti (M := M_X6_behindStep) (pc := 181) dX6_behindStep_181 rfl ⟨_, rfl, hF⟩
    have hF := hF.2
    have hc2 := hc
    by_cases hc : (h2 (r7 + 1) (a1).toNat) = 3
    · have hF := hF.1 hc
      refine aw_tableIn (tgt := 133) (M := M_X6_behindStep) (pc := 46) dX6_behindStep_46 (by rw [hc]; decide) (by rw [hc]; decide) (off := 87) (by rw [hc]; rfl) rfl ?_
      refine aw_aload_n (j := 1) (M := M_X6_behindStep) (pc := 133) dX6_behindStep_133 rfl rfl ?_
      refine aw_cvv (as := []) (st := []) (M := M_X6_behindStep) (pc := 134) (f_X6_throwAny  hF) dX6_behindStep_134 rfl (Or.inl ⟨_, _, _, rfl, rfl⟩) cy_X6_throwAny ml_X6_72 (by decide) (by decide) (Nat.le_of_ble_eq_true rfl) (fun h20 hF => ?_)
      refine aw_goto (tgt := 178) (M := M_X6_behindStep) (pc := 137) dX6_behindStep_137 rfl ?_
      refine aw_iload_n (j := 2) (M := M_X6_behindStep) (pc := 178) dX6_behindStep_178 rfl rfl ?_
      refine aw_iconst (M := M_X6_behindStep) (pc := 179) dX6_behindStep_179 ⟨by decide, by decide⟩ ?_
      obtain ⟨o22, hF⟩ := hF
      refine aw_iadd (M := M_X6_behindStep) (pc := 180) dX6_behindStep_180 rfl o22 ?_
      exact aw_ireti (M := M_X6_behindStep) (pc := 181) dX6_behindStep_181 rfl ⟨_, rfl, hF⟩
    have hF := hF.2
    have hc3 := hc
    by_cases hc : (h2 (r7 + 1) (a1).toNat) = 4
    · have hF := hF.1 hc
      refine aw_tableIn (tgt := 152) (M := M_X6_behindStep) (pc := 46) dX6_behindStep_46 (by rw [hc]; decide) (by rw [hc]; decide) (off := 106) (by rw [hc]; rfl) rfl ?_
      refine aw_aload_n (j := 1) (M := M_X6_behindStep) (pc := 152) dX6_behindStep_152 rfl rfl ?_
      refine aw_iload_n (j := 2) (M := M_X6_behindStep) (pc := 153) dX6_behindStep_153 rfl rfl ?_
      refine aw_cvi (as := [(0, a1)]) (st := []) (M := M_X6_behindStep) (pc := 154) (f_X6_holds  hF) dX6_behindStep_154 rfl (Or.inl ⟨_, _, _, rfl, rfl⟩) cy_X6_holds ml_X6_75 (by decide) (by decide) (Nat.le_of_ble_eq_true rfl) (fun r24 h23 hF => ?_)
      refine aw_if_eq (tgt := 166) (M := M_X6_behindStep) (pc := 157) dX6_behindStep_157 rfl (fun hc => ?_) (fun hc => ?_)
      · have hF := hF.1 hc
        refine aw_aload_n (j := 1) (M := M_X6_behindStep) (pc := 166) dX6_behindStep_166 rfl rfl ?_
        refine gf_X6_21 (M := M_X6_behindStep) (pc := 167) rfl dX6_behindStep_167 rfl ?_
        obtain ⟨r25, er25, lr25, hF⟩ := hF
        refine aw_ref (a := r25) er25 ?_
        refine gf_X6_52 (M := M_X6_behindStep) (pc := 170) rfl dX6_behindStep_170 lr25 (r := r25 + 5) rfl ?_
        refine aw_iload_n (j := 2) (M := M_X6_behindStep) (pc := 173) dX6_behindStep_173 rfl rfl ?_
        refine aw_iald (k := (a1).toNat) (M := M_X6_behindStep) (pc := 174) dX6_behindStep_174 (ll_1_7 lr25) o5 rfl ?_
        refine aw_iconst (M := M_X6_behindStep) (pc := 175) dX6_behindStep_175 ⟨by decide, by decide⟩ ?_
        obtain ⟨o27, hF⟩ := hF
        refine aw_iadd (M := M_X6_behindStep) (pc := 176) dX6_behindStep_176 rfl o27 ?_
        exact aw_ireti (M := M_X6_behindStep) (pc := 177) dX6_behindStep_177 rfl ⟨_, rfl, hF⟩
      · have hF := hF.2 hc
        refine aw_iload_n (j := 2) (M := M_X6_behindStep) (pc := 160) dX6_behindStep_160 rfl rfl ?_
        refine aw_iconst (M := M_X6_behindStep) (pc := 161) dX6_behindStep_161 ⟨by decide, by decide⟩ ?_
        obtain ⟨o28, hF⟩ := hF
        refine aw_iadd (M := M_X6_behindStep) (pc := 162) dX6_behindStep_162 rfl o28 ?_
        refine aw_goto (tgt := 177) (M := M_X6_behindStep) (pc := 163) dX6_behindStep_163 rfl ?_
        exact aw_ireti (M := M_X6_behindStep) (pc := 177) dX6_behindStep_177 rfl ⟨_, rfl, hF⟩
    have hF := hF.2
    have hc4 := hc
    by_cases hc : (h2 (r7 + 1) (a1).toNat) = 5
    · have hF := hF.1 hc
      refine aw_tableIn (tgt := 152) (M := M_X6_behindStep) (pc := 46) dX6_behindStep_46 (by rw [hc]; decide) (by rw [hc]; decide) (off := 106) (by rw [hc]; rfl) rfl ?_
      refine aw_aload_n (j := 1) (M := M_X6_behindStep) (pc := 152) dX6_behindStep_152 rfl rfl ?_
      refine aw_iload_n (j := 2) (M := M_X6_behindStep) (pc := 153) dX6_behindStep_153 rfl rfl ?_
      refine aw_cvi (as := [(0, a1)]) (st := []) (M := M_X6_behindStep) (pc := 154) (f_X6_holds  hF) dX6_behindStep_154 rfl (Or.inl ⟨_, _, _, rfl, rfl⟩) cy_X6_holds ml_X6_75 (by decide) (by decide) (Nat.le_of_ble_eq_true rfl) (fun r30 h29 hF => ?_)
      refine aw_if_eq (tgt := 166) (M := M_X6_behindStep) (pc := 157) dX6_behindStep_157 rfl (fun hc => ?_) (fun hc => ?_)
      · have hF := hF.1 hc
        refine aw_aload_n (j := 1) (M := M_X6_behindStep) (pc := 166) dX6_behindStep_166 rfl rfl ?_
        refine gf_X6_21 (M := M_X6_behindStep) (pc := 167) rfl dX6_behindStep_167 rfl ?_
        obtain ⟨r31, er31, lr31, hF⟩ := hF
        refine aw_ref (a := r31) er31 ?_
        refine gf_X6_52 (M := M_X6_behindStep) (pc := 170) rfl dX6_behindStep_170 lr31 (r := r31 + 5) rfl ?_
        refine aw_iload_n (j := 2) (M := M_X6_behindStep) (pc := 173) dX6_behindStep_173 rfl rfl ?_
        refine aw_iald (k := (a1).toNat) (M := M_X6_behindStep) (pc := 174) dX6_behindStep_174 (ll_1_7 lr31) o5 rfl ?_
        refine aw_iconst (M := M_X6_behindStep) (pc := 175) dX6_behindStep_175 ⟨by decide, by decide⟩ ?_
        obtain ⟨o33, hF⟩ := hF
        refine aw_iadd (M := M_X6_behindStep) (pc := 176) dX6_behindStep_176 rfl o33 ?_
        exact aw_ireti (M := M_X6_behindStep) (pc := 177) dX6_behindStep_177 rfl ⟨_, rfl, hF⟩
      · have hF := hF.2 hc
        refine aw_iload_n (j := 2) (M := M_X6_behindStep) (pc := 160) dX6_behindStep_160 rfl rfl ?_
        refine aw_iconst (M := M_X6_behindStep) (pc := 161) dX6_behindStep_161 ⟨by decide, by decide⟩ ?_
        obtain ⟨o34, hF⟩ := hF
        refine aw_iadd (M := M_X6_behindStep) (pc := 162) dX6_behindStep_162 rfl o34 ?_
        refine aw_goto (tgt := 177) (M := M_X6_behindStep) (pc := 163) dX6_behindStep_163 rfl ?_
        exact aw_ireti (M := M_X6_behindStep) (pc := 177) dX6_behindStep_177 rfl ⟨_, rfl, hF⟩
    have hF := hF.2
    have hc5 := hc
    by_cases hc : (h2 (r7 + 1) (a1).toNat) = 6
    · have hF := hF.1 hc
      refine aw_tableIn (tgt := 152) (M := M_X6_behindStep) (pc := 46) dX6_behindStep_46 (by rw [hc]; decide) (by rw [hc]; decide) (off := 106) (by rw [hc]; rfl) rfl ?_
      refine aw_aload_n (j := 1) (M := M_X6_behindStep) (pc := 152) dX6_behindStep_152 rfl rfl ?_
      refine aw_iload_n (j := 2) (M := M_X6_behindStep) (pc := 153) dX6_behindStep_153 rfl rfl ?_
      refine aw_cvi (as := [(0, a1)]) (st := []) (M := M_X6_behindStep) (pc := 154) (f_X6_holds  hF) dX6_behindStep_154 rfl (Or.inl ⟨_, _, _, rfl, rfl⟩) cy_X6_holds ml_X6_75 (by decide) (by decide) (Nat.le_of_ble_eq_true rfl) (fun r36 h35 hF => ?_)
      refine aw_if_eq (tgt := 166) (M := M_X6_behindStep) (pc := 157) dX6_behindStep_157 rfl (fun hc => ?_) (fun hc => ?_)
      · have hF := hF.1 hc
        refine aw_aload_n (j := 1) (M := M_X6_behindStep) (pc := 166) dX6_behindStep_166 rfl rfl ?_
        refine gf_X6_21 (M := M_X6_behindStep) (pc := 167) rfl dX6_behindStep_167 rfl ?_
        obtain ⟨r37, er37, lr37, hF⟩ := hF
        refine aw_ref (a := r37) er37 ?_
        refine gf_X6_52 (M := M_X6_behindStep) (pc := 170) rfl dX6_behindStep_170 lr37 (r := r37 + 5) rfl ?_
        refine aw_iload_n (j := 2) (M := M_X6_behindStep) (pc := 173) dX6_behindStep_173 rfl rfl ?_
        refine aw_iald (k := (a1).toNat) (M := M_X6_behindStep) (pc := 174) dX6_behindStep_174 (ll_1_7 lr37) o5 rfl ?_
        refine aw_iconst (M := M_X6_behindStep) (pc := 175) dX6_behindStep_175 ⟨by decide, by decide⟩ ?_
        obtain ⟨o39, hF⟩ := hF
        refine aw_iadd (M := M_X6_behindStep) (pc := 176) dX6_behindStep_176 rfl o39 ?_
        exact aw_ireti (M := M_X6_behindStep) (pc := 177) dX6_behindStep_177 rfl ⟨_, rfl, hF⟩
      · have hF := hF.2 hc
        refine aw_iload_n (j := 2) (M := M_X6_behindStep) (pc := 160) dX6_behindStep_160 rfl rfl ?_
        refine aw_iconst (M := M_X6_behindStep) (pc := 161) dX6_behindStep_161 ⟨by decide, by decide⟩ ?_
        obtain ⟨o40, hF⟩ := hF
        refine aw_iadd (M := M_X6_behindStep) (pc := 162) dX6_behindStep_162 rfl o40 ?_
        refine aw_goto (tgt := 177) (M := M_X6_behindStep) (pc := 163) dX6_behindStep_163 rfl ?_
        exact aw_ireti (M := M_X6_behindStep) (pc := 177) dX6_behindStep_177 rfl ⟨_, rfl, hF⟩
    have hF := hF.2
    have hc6 := hc
    by_cases hc : (h2 (r7 + 1) (a1).toNat) = 7
    · have hF := hF.1 hc
      refine aw_tableIn (tgt := 152) (M := M_X6_behindStep) (pc := 46) dX6_behindStep_46 (by rw [hc]; decide) (by rw [hc]; decide) (off := 106) (by rw [hc]; rfl) rfl ?_
      refine aw_aload_n (j := 1) (M := M_X6_behindStep) (pc := 152) dX6_behindStep_152 rfl rfl ?_
      refine aw_iload_n (j := 2) (M := M_X6_behindStep) (pc := 153) dX6_behindStep_153 rfl rfl ?_
      refine aw_cvi (as := [(0, a1)]) (st := []) (M := M_X6_behindStep) (pc := 154) (f_X6_holds  hF) dX6_behindStep_154 rfl (Or.inl ⟨_, _, _, rfl, rfl⟩) cy_X6_holds ml_X6_75 (by decide) (by decide) (Nat.le_of_ble_eq_true rfl) (fun r42 h41 hF => ?_)
      refine aw_if_eq (tgt := 166) (M := M_X6_behindStep) (pc := 157) dX6_behindStep_157 rfl (fun hc => ?_) (fun hc => ?_)
      · have hF := hF.1 hc
        refine aw_aload_n (j := 1) (M := M_X6_behindStep) (pc := 166) dX6_behindStep_166 rfl rfl ?_
        refine gf_X6_21 (M := M_X6_behindStep) (pc := 167) rfl dX6_behindStep_167 rfl ?_
        obtain ⟨r43, er43, lr43, hF⟩ := hF
        refine aw_ref (a := r43) er43 ?_
        refine gf_X6_52 (M := M_X6_behindStep) (pc := 170) rfl dX6_behindStep_170 lr43 (r := r43 + 5) rfl ?_
        refine aw_iload_n (j := 2) (M := M_X6_behindStep) (pc := 173) dX6_behindStep_173 rfl rfl ?_
        refine aw_iald (k := (a1).toNat) (M := M_X6_behindStep) (pc := 174) dX6_behindStep_174 (ll_1_7 lr43) o5 rfl ?_
        refine aw_iconst (M := M_X6_behindStep) (pc := 175) dX6_behindStep_175 ⟨by decide, by decide⟩ ?_
        obtain ⟨o45, hF⟩ := hF
        refine aw_iadd (M := M_X6_behindStep) (pc := 176) dX6_behindStep_176 rfl o45 ?_
        exact aw_ireti (M := M_X6_behindStep) (pc := 177) dX6_behindStep_177 rfl ⟨_, rfl, hF⟩
      · have hF := hF.2 hc
        refine aw_iload_n (j := 2) (M := M_X6_behindStep) (pc := 160) dX6_behindStep_160 rfl rfl ?_
        refine aw_iconst (M := M_X6_behindStep) (pc := 161) dX6_behindStep_161 ⟨by decide, by decide⟩ ?_
        obtain ⟨o46, hF⟩ := hF
        refine aw_iadd (M := M_X6_behindStep) (pc := 162) dX6_behindStep_162 rfl o46 ?_
        refine aw_goto (tgt := 177) (M := M_X6_behindStep) (pc := 163) dX6_behindStep_163 rfl ?_
        exact aw_ireti (M := M_X6_behindStep) (pc := 177) dX6_behindStep_177 rfl ⟨_, rfl, hF⟩
    have hF := hF.2
    have hc7 := hc
    by_cases hc : (h2 (r7 + 1) (a1).toNat) = 8
    · have hF := hF.1 hc
      refine aw_tableIn (tgt := 140) (M := M_X6_behindStep) (pc := 46) dX6_behindStep_46 (by rw [hc]; decide) (by rw [hc]; decide) (off := 94) (by rw [hc]; rfl) rfl ?_
      refine aw_aload_n (j := 1) (M := M_X6_behindStep) (pc := 140) dX6_behindStep_140 rfl rfl ?_
      refine gf_X6_11 (M := M_X6_behindStep) (pc := 141) rfl dX6_behindStep_141 rfl (r := 79) rfl ?_
      refine aw_iload_n (j := 2) (M := M_X6_behindStep) (pc := 144) dX6_behindStep_144 rfl rfl ?_
      refine aw_iload_n (j := 0) (M := M_X6_behindStep) (pc := 145) dX6_behindStep_145 rfl rfl ?_
      refine aw_iast (k := (a1).toNat) (M := M_X6_behindStep) (pc := 146) dX6_behindStep_146 rfl o5 rfl ?_
      obtain ⟨h47, eh47⟩ : ∃ y : Mem, y = mset h2 79 (a1).toNat x6 := ⟨_, rfl⟩
      have hF := hF h47 eh47
      rw [← eh47]
      refine aw_goto (tgt := 178) (M := M_X6_behindStep) (pc := 147) dX6_behindStep_147 rfl ?_
      refine aw_iload_n (j := 2) (M := M_X6_behindStep) (pc := 178) dX6_behindStep_178 rfl rfl ?_
      refine aw_iconst (M := M_X6_behindStep) (pc := 179) dX6_behindStep_179 ⟨by decide, by decide⟩ ?_
      obtain ⟨o48, hF⟩ := hF
      refine aw_iadd (M := M_X6_behindStep) (pc := 180) dX6_behindStep_180 rfl o48 ?_
      exact aw_ireti (M := M_X6_behindStep) (pc := 181) dX6_behindStep_181 rfl ⟨_, rfl, hF⟩
    have hF := hF.2
    have hc8 := hc
    by_cases hc : (h2 (r7 + 1) (a1).toNat) = 9
    · have hF := hF.1 hc
      refine aw_tableIn (tgt := 150) (M := M_X6_behindStep) (pc := 46) dX6_behindStep_46 (by rw [hc]; decide) (by rw [hc]; decide) (off := 104) (by rw [hc]; rfl) rfl ?_
      refine aw_iconst (M := M_X6_behindStep) (pc := 150) dX6_behindStep_150 ⟨by decide, by decide⟩ ?_
      exact aw_ireti (M := M_X6_behindStep) (pc := 151) dX6_behindStep_151 rfl ⟨_, rfl, hF⟩
    have hF := hF.2
    have hc9 := hc
    have hc : (h2 (r7 + 1) (a1).toNat) < 0 ∨ 9 < (h2 (r7 + 1) (a1).toNat) := so_X6_behindStep_46 hc0 hc1 hc2 hc3 hc4 hc5 hc6 hc7 hc8 hc9
    have hF := hF hc
    refine aw_tableOut (tgt := 152) (M := M_X6_behindStep) (pc := 46) dX6_behindStep_46 hc rfl ?_
    refine aw_aload_n (j := 1) (M := M_X6_behindStep) (pc := 152) dX6_behindStep_152 rfl rfl ?_
    refine aw_iload_n (j := 2) (M := M_X6_behindStep) (pc := 153) dX6_behindStep_153 rfl rfl ?_
    refine aw_cvi (as := [(0, a1)]) (st := []) (M := M_X6_behindStep) (pc := 154) (f_X6_holds  hF) dX6_behindStep_154 rfl (Or.inl ⟨_, _, _, rfl, rfl⟩) cy_X6_holds ml_X6_75 (by decide) (by decide) (Nat.le_of_ble_eq_true rfl) (fun r50 h49 hF => ?_)
    refine aw_if_eq (tgt := 166) (M := M_X6_behindStep) (pc := 157) dX6_behindStep_157 rfl (fun hc => ?_) (fun hc => ?_)
    · have hF := hF.1 hc
      refine aw_aload_n (j := 1) (M := M_X6_behindStep) (pc := 166) dX6_behindStep_166 rfl rfl ?_
      refine gf_X6_21 (M := M_X6_behindStep) (pc := 167) rfl dX6_behindStep_167 rfl ?_
      obtain ⟨r51, er51, lr51, hF⟩ := hF
      refine aw_ref (a := r51) er51 ?_
      refine gf_X6_52 (M := M_X6_behindStep) (pc := 170) rfl dX6_behindStep_170 lr51 (r := r51 + 5) rfl ?_
      refine aw_iload_n (j := 2) (M := M_X6_behindStep) (pc := 173) dX6_behindStep_173 rfl rfl ?_
      refine aw_iald (k := (a1).toNat) (M := M_X6_behindStep) (pc := 174) dX6_behindStep_174 (ll_1_7 lr51) o5 rfl ?_
      refine aw_iconst (M := M_X6_behindStep) (pc := 175) dX6_behindStep_175 ⟨by decide, by decide⟩ ?_
      obtain ⟨o53, hF⟩ := hF
      refine aw_iadd (M := M_X6_behindStep) (pc := 176) dX6_behindStep_176 rfl o53 ?_
      exact aw_ireti (M := M_X6_behindStep) (pc := 177) dX6_behindStep_177 rfl ⟨_, rfl, hF⟩
    · have hF := hF.2 hc
      refine aw_iload_n (j := 2) (M := M_X6_behindStep) (pc := 160) dX6_behindStep_160 rfl rfl ?_
      refine aw_iconst (M := M_X6_behindStep) (pc := 161) dX6_behindStep_161 ⟨by decide, by decide⟩ ?_
      obtain ⟨o54, hF⟩ := hF
      refine aw_iadd (M := M_X6_behindStep) (pc := 162) dX6_behindStep_162 rfl o54 ?_
      refine aw_goto (tgt := 177) (M := M_X6_behindStep) (pc := 163) dX6_behindStep_163 rfl ?_
      exact aw_ireti (M := M_X6_behindStep) (pc := 177) dX6_behindStep_177 rfl ⟨_, rfl, hF⟩
  · have hF := hF.2 hc
    refine aw_aload_n (j := 0) (M := M_X6_behindStep) (pc := 10) dX6_behindStep_10 rfl rfl ?_
    refine aw_iconst (M := M_X6_behindStep) (pc := 11) dX6_behindStep_11 ⟨by decide, by decide⟩ ?_
    refine pf_X6_35 (M := M_X6_behindStep) (pc := 12) rfl dX6_behindStep_12 rfl ?_
    obtain ⟨h55, eh55⟩ : ∃ y : Mem, y = mset h 78 2 1 := ⟨_, rfl⟩
    have hF := hF h55 eh55
    rw [← eh55]
    refine aw_iconst (M := M_X6_behindStep) (pc := 15) dX6_behindStep_15 ⟨by decide, by decide⟩ ?_
    exact aw_ireti (M := M_X6_behindStep) (pc := 16) dX6_behindStep_16 rfl ⟨_, rfl, hF⟩
abbrev M_X6_liveThrough : Hd := (cX6_liveThrough, 6, RX6, none, (7, 182), sc0)
def L_X6_liveThrough_36 (h : Mem) (v4 : Int) (v5 : Int) (Q : Mem → Prop) : Prop := AW M_X6_liveThrough 36 [(0, vr 78), (4, (0, v4)), (5, (0, v5))] [] h (qv Q)
def B_X6_liveThrough_36 (h : Mem) (v4 : Int) (v5 : Int) (Q : Mem → Prop) : Prop :=
  ((1000000 ≤ v5 → Q h) ∧ (¬ (1000000 ≤ v5) → ((v4 < 0 → Q h) ∧ (¬ (v4 < 0) → (∃ r7 : Nat, h 78 5 = (r7 : Int) ∧ lay r7 = (0, 1) ∧ (((h r7 2) ≤ v4 → Q h) ∧ (¬ ((h r7 2) ≤ v4) → (∃ r8 : Nat, h 78 5 = (r8 : Int) ∧ lay r8 = (0, 1) ∧ ((0 ≤ v4 ∧ v4 < 60) ∧ ((¬ ((h (r8 + 1) (v4).toNat) = 10) → (F_X6_behindStep h v4 (fun r12 h11 => (InR (v5 + 1) ∧ L_X6_liveThrough_36 h11 r12 (v5 + 1) Q)))) ∧ ((h (r8 + 1) (v4).toNat) = 10 → (F_X6_behindEnd h v4 (fun r15 h14 => (InR (v5 + 1) ∧ L_X6_liveThrough_36 h14 r15 (v5 + 1) Q))))))))))))))
set_option maxRecDepth 100000 in
set_option maxHeartbeats 4000000 in
theorem l_X6_liveThrough_36 {h : Mem} {v4 : Int} {v5 : Int} {Q : Mem → Prop}  (hF : B_X6_liveThrough_36 h v4 v5 Q) : L_X6_liveThrough_36 h v4 v5 Q := by
  unfold B_X6_liveThrough_36 at hF
  show AW M_X6_liveThrough 36 [(0, vr 78), (4, (0, v4)), (5, (0, v5))] [] h (qv Q)
  refine aw_iload (j := 2) (M := M_X6_liveThrough) (pc := 36) dX6_liveThrough_36  rfl ?_
  refine aw_ldc (v := 1000000) (M := M_X6_liveThrough) (pc := 38) dX6_liveThrough_38 kc_X6_38 ⟨by decide, by decide⟩ ?_
  refine aw_icmp_ge (tgt := 98) (M := M_X6_liveThrough) (pc := 40) dX6_liveThrough_40 rfl (fun hc => ?_) (fun hc => ?_)
  · have hF := hF.1 hc
    exact aw_ret (M := M_X6_liveThrough) (pc := 98) dX6_liveThrough_98 rfl ⟨rfl, hF⟩
  · have hF := hF.2 hc
    refine aw_iload (j := 1) (M := M_X6_liveThrough) (pc := 43) dX6_liveThrough_43  rfl ?_
    refine aw_if_lt (tgt := 98) (M := M_X6_liveThrough) (pc := 45) dX6_liveThrough_45 rfl (fun hc => ?_) (fun hc => ?_)
    · have hF := hF.1 hc
      exact aw_ret (M := M_X6_liveThrough) (pc := 98) dX6_liveThrough_98 rfl ⟨rfl, hF⟩
    · have hF := hF.2 hc
      refine aw_iload (j := 1) (M := M_X6_liveThrough) (pc := 48) dX6_liveThrough_48  rfl ?_
      refine aw_aload_n (j := 0) (M := M_X6_liveThrough) (pc := 50) dX6_liveThrough_50 rfl rfl ?_
      refine gf_X6_21 (M := M_X6_liveThrough) (pc := 51) rfl dX6_liveThrough_51 rfl ?_
      obtain ⟨r7, er7, lr7, hF⟩ := hF
      refine aw_ref (a := r7) er7 ?_
      refine gf_X6_39 (M := M_X6_liveThrough) (pc := 54) rfl dX6_liveThrough_54 lr7 ?_
      refine aw_icmp_ge (tgt := 98) (M := M_X6_liveThrough) (pc := 57) dX6_liveThrough_57 rfl (fun hc => ?_) (fun hc => ?_)
      · have hF := hF.1 hc
        exact aw_ret (M := M_X6_liveThrough) (pc := 98) dX6_liveThrough_98 rfl ⟨rfl, hF⟩
      · have hF := hF.2 hc
        refine aw_aload_n (j := 0) (M := M_X6_liveThrough) (pc := 60) dX6_liveThrough_60 rfl rfl ?_
        refine gf_X6_21 (M := M_X6_liveThrough) (pc := 61) rfl dX6_liveThrough_61 rfl ?_
        obtain ⟨r8, er8, lr8, hF⟩ := hF
        refine aw_ref (a := r8) er8 ?_
        refine gf_X6_42 (M := M_X6_liveThrough) (pc := 64) rfl dX6_liveThrough_64 lr8 (r := r8 + 1) rfl ?_
        refine aw_iload (j := 1) (M := M_X6_liveThrough) (pc := 67) dX6_liveThrough_67  rfl ?_
        obtain ⟨o10, hF⟩ := hF
        refine aw_iald (k := (v4).toNat) (M := M_X6_liveThrough) (pc := 69) dX6_liveThrough_69 (ll_1_3 lr8) o10 rfl ?_
        refine aw_bipush (M := M_X6_liveThrough) (pc := 70) dX6_liveThrough_70 ⟨rfl, ⟨by decide, by decide⟩⟩ ?_
        refine aw_icmp_ne (tgt := 84) (M := M_X6_liveThrough) (pc := 72) dX6_liveThrough_72 rfl (fun hc => ?_) (fun hc => ?_)
        · have hF := hF.1 hc
          refine aw_aload_n (j := 0) (M := M_X6_liveThrough) (pc := 84) dX6_liveThrough_84 rfl rfl ?_
          refine aw_iload (j := 1) (M := M_X6_liveThrough) (pc := 85) dX6_liveThrough_85  rfl ?_
          refine aw_cvi (as := [(0, v4)]) (st := []) (M := M_X6_liveThrough) (pc := 87) (f_X6_behindStep  hF) dX6_liveThrough_87 rfl (Or.inl ⟨_, _, _, rfl, rfl⟩) cy_X6_behindStep ml_X6_49 (by decide) (by decide) (Nat.le_of_ble_eq_true rfl) (fun r12 h11 hF => ?_)
          refine aw_istore (ls' := [(4, (0, r12)), (0, vr 78), (5, (0, v5))]) (M := M_X6_liveThrough) (pc := 90) dX6_liveThrough_90  (by decide) rfl ?_
          obtain ⟨o13, hF⟩ := hF
          refine aw_iinc (j := 2) (x := v5) (r := v5 + 1) (ls' := [(5, (0, v5 + 1)), (4, (0, r12)), (0, vr 78)]) (M := M_X6_liveThrough) (pc := 92) dX6_liveThrough_92 rfl rfl o13 (by decide) rfl ?_
          refine aw_goto (tgt := 36) (M := M_X6_liveThrough) (pc := 95) dX6_liveThrough_95 rfl ?_
          exact aw_ls [2, 1, 0] rfl hF
        · have hF := hF.2 hc
          refine aw_aload_n (j := 0) (M := M_X6_liveThrough) (pc := 75) dX6_liveThrough_75 rfl rfl ?_
          refine aw_iload (j := 1) (M := M_X6_liveThrough) (pc := 76) dX6_liveThrough_76  rfl ?_
          refine aw_cvi (as := [(0, v4)]) (st := []) (M := M_X6_liveThrough) (pc := 78) (f_X6_behindEnd  hF) dX6_liveThrough_78 rfl (Or.inl ⟨_, _, _, rfl, rfl⟩) cy_X6_behindEnd ml_X6_45 (by decide) (by decide) (Nat.le_of_ble_eq_true rfl) (fun r15 h14 hF => ?_)
          refine aw_goto (tgt := 90) (M := M_X6_liveThrough) (pc := 81) dX6_liveThrough_81 rfl ?_
          refine aw_istore (ls' := [(4, (0, r15)), (0, vr 78), (5, (0, v5))]) (M := M_X6_liveThrough) (pc := 90) dX6_liveThrough_90  (by decide) rfl ?_
          obtain ⟨o16, hF⟩ := hF
          refine aw_iinc (j := 2) (x := v5) (r := v5 + 1) (ls' := [(5, (0, v5 + 1)), (4, (0, r15)), (0, vr 78)]) (M := M_X6_liveThrough) (pc := 92) dX6_liveThrough_92 rfl rfl o16 (by decide) rfl ?_
          refine aw_goto (tgt := 36) (M := M_X6_liveThrough) (pc := 95) dX6_liveThrough_95 rfl ?_
          exact aw_ls [2, 1, 0] rfl hF
def F_X6_liveThrough (h : Mem) (a1 : Nat) (a2 : Nat) (a3 : Int) (Q : Mem → Prop) : Prop :=
  (∀ h1 : Mem, h1 = mset h 78 4 ((a1 : Nat) : Int) → (∀ h2 : Mem, h2 = mset h1 78 5 ((a2 : Nat) : Int) → (∀ h3 : Mem, h3 = mset h2 78 3 a3 → (∀ h4 : Mem, h4 = mset h3 78 0 0 → (∀ h5 : Mem, h5 = mset h4 78 1 0 → (∀ h6 : Mem, h6 = mset h5 78 2 0 → L_X6_liveThrough_36 h6 0 0 Q))))))
set_option maxRecDepth 100000 in
set_option maxHeartbeats 4000000 in
theorem f_X6_liveThrough {h : Mem} {a1 : Nat} {a2 : Nat} {a3 : Int} {Q : Mem → Prop} (ha1 : lay a1 = (0, 4)) (ha2 : lay a2 = (0, 1)) (hF : F_X6_liveThrough h a1 a2 a3 Q) : Ct yX6_liveThrough cX6_liveThrough 6 none (7, 182) [vr 78, vr a1, vr a2, (0, a3)] h (qv Q) := by
  refine Ct.of np_RX6 (Nat.le_of_ble_eq_true rfl) ?_
  unfold F_X6_liveThrough at hF
  show AW M_X6_liveThrough 0 [(0, vr 78), (1, vr a1), (2, vr a2), (3, (0, a3))] [] h (qv Q)
  refine aw_aload_n (j := 0) (M := M_X6_liveThrough) (pc := 0) dX6_liveThrough_0 rfl rfl ?_
  refine aw_aload_n (j := 1) (M := M_X6_liveThrough) (pc := 1) dX6_liveThrough_1 rfl rfl ?_
  refine pf_X6_17 (M := M_X6_liveThrough) (pc := 2) rfl dX6_liveThrough_2 rfl (lay181 ha1) ?_
  obtain ⟨h1, eh1⟩ : ∃ y : Mem, y = mset h 78 4 ((a1 : Nat) : Int) := ⟨_, rfl⟩
  have hF := hF h1 eh1
  rw [← eh1]
  refine aw_aload_n (j := 0) (M := M_X6_liveThrough) (pc := 5) dX6_liveThrough_5 rfl rfl ?_
  refine aw_aload_n (j := 2) (M := M_X6_liveThrough) (pc := 6) dX6_liveThrough_6 rfl rfl ?_
  refine pf_X6_21 (M := M_X6_liveThrough) (pc := 7) rfl dX6_liveThrough_7 rfl (lay181 ha2) ?_
  obtain ⟨h2, eh2⟩ : ∃ y : Mem, y = mset h1 78 5 ((a2 : Nat) : Int) := ⟨_, rfl⟩
  have hF := hF h2 eh2
  rw [← eh2]
  refine aw_aload_n (j := 0) (M := M_X6_liveThrough) (pc := 10) dX6_liveThrough_10 rfl rfl ?_
  refine aw_iload_n (j := 3) (M := M_X6_liveThrough) (pc := 11) dX6_liveThrough_11 rfl rfl ?_
  refine pf_X6_25 (M := M_X6_liveThrough) (pc := 12) rfl dX6_liveThrough_12 rfl ?_
  obtain ⟨h3, eh3⟩ : ∃ y : Mem, y = mset h2 78 3 a3 := ⟨_, rfl⟩
  have hF := hF h3 eh3
  rw [← eh3]
  refine aw_aload_n (j := 0) (M := M_X6_liveThrough) (pc := 15) dX6_liveThrough_15 rfl rfl ?_
  refine aw_iconst (M := M_X6_liveThrough) (pc := 16) dX6_liveThrough_16 ⟨by decide, by decide⟩ ?_
  refine pf_X6_29 (M := M_X6_liveThrough) (pc := 17) rfl dX6_liveThrough_17 rfl ?_
  obtain ⟨h4, eh4⟩ : ∃ y : Mem, y = mset h3 78 0 0 := ⟨_, rfl⟩
  have hF := hF h4 eh4
  rw [← eh4]
  refine aw_aload_n (j := 0) (M := M_X6_liveThrough) (pc := 20) dX6_liveThrough_20 rfl rfl ?_
  refine aw_iconst (M := M_X6_liveThrough) (pc := 21) dX6_liveThrough_21 ⟨by decide, by decide⟩ ?_
  refine pf_X6_32 (M := M_X6_liveThrough) (pc := 22) rfl dX6_liveThrough_22 rfl ?_
  obtain ⟨h5, eh5⟩ : ∃ y : Mem, y = mset h4 78 1 0 := ⟨_, rfl⟩
  have hF := hF h5 eh5
  rw [← eh5]
  refine aw_aload_n (j := 0) (M := M_X6_liveThrough) (pc := 25) dX6_liveThrough_25 rfl rfl ?_
  refine aw_iconst (M := M_X6_liveThrough) (pc := 26) dX6_liveThrough_26 ⟨by decide, by decide⟩ ?_
  refine pf_X6_35 (M := M_X6_liveThrough) (pc := 27) rfl dX6_liveThrough_27 rfl ?_
  obtain ⟨h6, eh6⟩ : ∃ y : Mem, y = mset h5 78 2 0 := ⟨_, rfl⟩
  have hF := hF h6 eh6
  rw [← eh6]
  refine aw_iconst (M := M_X6_liveThrough) (pc := 30) dX6_liveThrough_30 ⟨by decide, by decide⟩ ?_
  refine aw_istore (ls' := [(4, (0, 0)), (0, vr 78), (1, vr a1), (2, vr a2), (3, (0, a3))]) (M := M_X6_liveThrough) (pc := 31) dX6_liveThrough_31  (by decide) rfl ?_
  refine aw_iconst (M := M_X6_liveThrough) (pc := 33) dX6_liveThrough_33 ⟨by decide, by decide⟩ ?_
  refine aw_istore (ls' := [(5, (0, 0)), (4, (0, 0)), (0, vr 78), (1, vr a1), (2, vr a2), (3, (0, a3))]) (M := M_X6_liveThrough) (pc := 34) dX6_liveThrough_34  (by decide) rfl ?_
  exact aw_ls [2, 1, 0] rfl hF
abbrev M_X7_groundInAll : Hd := (cX7_groundInAll, 3, RX7, (some .int), (1, 45), sc0)
def L_X7_groundInAll_4 (h : Mem) (v0 : Nat) (v1 : Int) (v2 : Int) (Q : Int → Mem → Prop) : Prop := AW M_X7_groundInAll 4 [(0, vr v0), (1, (0, v1)), (2, (0, v2))] [] h (qi Q)
def B_X7_groundInAll_4 (h : Mem) (v0 : Nat) (v1 : Int) (v2 : Int) (Q : Int → Mem → Prop) : Prop :=
  (((h v0 0) ≤ v2 → Q v1 h) ∧ (¬ ((h v0 0) ≤ v2) → ((0 ≤ v2 ∧ v2 < 4) ∧ (InR (v1 + (h (v0 + 4) (v2).toNat)) ∧ (∀ x4 : Int, x4 = v1 + (h (v0 + 4) (v2).toNat) → (InR (v2 + 1) ∧ L_X7_groundInAll_4 h v0 x4 (v2 + 1) Q))))))
set_option maxRecDepth 100000 in
set_option maxHeartbeats 4000000 in
theorem l_X7_groundInAll_4 {h : Mem} {v0 : Nat} {v1 : Int} {v2 : Int} {Q : Int → Mem → Prop} (hv0 : lay v0 = (0, 7)) (hF : B_X7_groundInAll_4 h v0 v1 v2 Q) : L_X7_groundInAll_4 h v0 v1 v2 Q := by
  unfold B_X7_groundInAll_4 at hF
  show AW M_X7_groundInAll 4 [(0, vr v0), (1, (0, v1)), (2, (0, v2))] [] h (qi Q)
  refine aw_iload_n (j := 2) (M := M_X7_groundInAll) (pc := 4) dX7_groundInAll_4 rfl rfl ?_
  refine aw_aload_n (j := 0) (M := M_X7_groundInAll) (pc := 5) dX7_groundInAll_5 rfl rfl ?_
  refine gf_X7_9 (M := M_X7_groundInAll) (pc := 6) rfl dX7_groundInAll_6 hv0 ?_
  refine aw_icmp_ge (tgt := 27) (M := M_X7_groundInAll) (pc := 9) dX7_groundInAll_9 rfl (fun hc => ?_) (fun hc => ?_)
  · have hF := hF.1 hc
    refine aw_iload_n (j := 1) (M := M_X7_groundInAll) (pc := 27) dX7_groundInAll_27 rfl rfl ?_
    exact aw_ireti (M := M_X7_groundInAll) (pc := 28) dX7_groundInAll_28 rfl ⟨_, rfl, hF⟩
  · have hF := hF.2 hc
    refine aw_iload_n (j := 1) (M := M_X7_groundInAll) (pc := 12) dX7_groundInAll_12 rfl rfl ?_
    refine aw_aload_n (j := 0) (M := M_X7_groundInAll) (pc := 13) dX7_groundInAll_13 rfl rfl ?_
    refine gf_X7_26 (M := M_X7_groundInAll) (pc := 14) rfl dX7_groundInAll_14 hv0 (r := v0 + 4) rfl ?_
    refine aw_iload_n (j := 2) (M := M_X7_groundInAll) (pc := 17) dX7_groundInAll_17 rfl rfl ?_
    obtain ⟨o2, hF⟩ := hF
    refine aw_iald (k := (v2).toNat) (M := M_X7_groundInAll) (pc := 18) dX7_groundInAll_18 (ll_7_4 hv0) o2 rfl ?_
    obtain ⟨o3, hF⟩ := hF
    refine aw_iadd (M := M_X7_groundInAll) (pc := 19) dX7_groundInAll_19 rfl o3 ?_
    obtain ⟨x4, ex4⟩ : ∃ y : Int, y = v1 + (h (v0 + 4) (v2).toNat) := ⟨_, rfl⟩
    have hF := hF x4 ex4
    rw [← ex4]
    refine aw_istore_n (ls' := [(1, (0, x4)), (0, vr v0), (2, (0, v2))]) (M := M_X7_groundInAll) (pc := 20) dX7_groundInAll_20 rfl (by decide) rfl ?_
    obtain ⟨o5, hF⟩ := hF
    refine aw_iinc (j := 2) (x := v2) (r := v2 + 1) (ls' := [(2, (0, v2 + 1)), (1, (0, x4)), (0, vr v0)]) (M := M_X7_groundInAll) (pc := 21) dX7_groundInAll_21 rfl rfl o5 (by decide) rfl ?_
    refine aw_goto (tgt := 4) (M := M_X7_groundInAll) (pc := 24) dX7_groundInAll_24 rfl ?_
    exact aw_ls [2, 1, 0] rfl hF
def F_X7_groundInAll (h : Mem) (o : Nat) (Q : Int → Mem → Prop) : Prop :=
  L_X7_groundInAll_4 h o 0 0 Q
set_option maxRecDepth 100000 in
set_option maxHeartbeats 4000000 in
theorem f_X7_groundInAll {h : Mem} {o : Nat} {Q : Int → Mem → Prop} (ho : lay o = (0, 7)) (hF : F_X7_groundInAll h o Q) : Ct yX7_groundInAll cX7_groundInAll 3 (some .int) (1, 45) [vr o] h (qi Q) := by
  refine Ct.of np_RX7 (Nat.le_of_ble_eq_true rfl) ?_
  unfold F_X7_groundInAll at hF
  show AW M_X7_groundInAll 0 [(0, vr o)] [] h (qi Q)
  refine aw_iconst (M := M_X7_groundInAll) (pc := 0) dX7_groundInAll_0 ⟨by decide, by decide⟩ ?_
  refine aw_istore_n (ls' := [(1, (0, 0)), (0, vr o)]) (M := M_X7_groundInAll) (pc := 1) dX7_groundInAll_1 rfl (by decide) rfl ?_
  refine aw_iconst (M := M_X7_groundInAll) (pc := 2) dX7_groundInAll_2 ⟨by decide, by decide⟩ ?_
  refine aw_istore_n (ls' := [(2, (0, 0)), (1, (0, 0)), (0, vr o)]) (M := M_X7_groundInAll) (pc := 3) dX7_groundInAll_3 rfl (by decide) rfl ?_
  exact aw_ls [2, 1, 0] rfl hF
abbrev M_X8_append : Hd := (cX8_append, 3, RX8, none, (1, 45), sc0)
def L_X8_append_3 (h : Mem) (v1 : Int) (v2 : Int) (Q : Mem → Prop) : Prop := AW M_X8_append 3 [(0, vr 9), (1, (0, v1)), (2, (0, v2))] [] h (qv Q)
def B_X8_append_3 (h : Mem) (v1 : Int) (v2 : Int) (Q : Mem → Prop) : Prop :=
  ((v2 < 0 → Q h) ∧ (¬ (v2 < 0) → ((900 ≤ (h 9 1) → Q h) ∧ (¬ (900 ≤ (h 9 1)) → ((0 ≤ (h 9 1) ∧ (h 9 1) < 900) ∧ (∀ h2 : Mem, h2 = mset h 10 (h 9 1).toNat (i2b (i2b (ishr v1 v2))) → (InR ((h2 9 1) + 1) ∧ (∀ h4 : Mem, h4 = mset h2 9 1 ((h2 9 1) + 1) → (InR (v2 + (-8)) ∧ L_X8_append_3 h4 v1 (v2 + (-8)) Q)))))))))
set_option maxRecDepth 100000 in
set_option maxHeartbeats 4000000 in
theorem l_X8_append_3 {h : Mem} {v1 : Int} {v2 : Int} {Q : Mem → Prop}  (hF : B_X8_append_3 h v1 v2 Q) : L_X8_append_3 h v1 v2 Q := by
  unfold B_X8_append_3 at hF
  show AW M_X8_append 3 [(0, vr 9), (1, (0, v1)), (2, (0, v2))] [] h (qv Q)
  refine aw_iload_n (j := 2) (M := M_X8_append) (pc := 3) dX8_append_3 rfl rfl ?_
  refine aw_if_lt (tgt := 46) (M := M_X8_append) (pc := 4) dX8_append_4 rfl (fun hc => ?_) (fun hc => ?_)
  · have hF := hF.1 hc
    exact aw_ret (M := M_X8_append) (pc := 46) dX8_append_46 rfl ⟨rfl, hF⟩
  · have hF := hF.2 hc
    refine aw_aload_n (j := 0) (M := M_X8_append) (pc := 7) dX8_append_7 rfl rfl ?_
    refine gf_X8_15 (M := M_X8_append) (pc := 8) rfl dX8_append_8 rfl ?_
    refine aw_sipush (M := M_X8_append) (pc := 11) dX8_append_11 ⟨rfl, ⟨by decide, by decide⟩⟩ ?_
    refine aw_icmp_ge (tgt := 46) (M := M_X8_append) (pc := 14) dX8_append_14 rfl (fun hc => ?_) (fun hc => ?_)
    · have hF := hF.1 hc
      exact aw_ret (M := M_X8_append) (pc := 46) dX8_append_46 rfl ⟨rfl, hF⟩
    · have hF := hF.2 hc
      refine aw_aload_n (j := 0) (M := M_X8_append) (pc := 17) dX8_append_17 rfl rfl ?_
      refine gf_X8_11 (M := M_X8_append) (pc := 18) rfl dX8_append_18 rfl (r := 10) rfl ?_
      refine aw_aload_n (j := 0) (M := M_X8_append) (pc := 21) dX8_append_21 rfl rfl ?_
      refine gf_X8_15 (M := M_X8_append) (pc := 22) rfl dX8_append_22 rfl ?_
      refine aw_iload_n (j := 1) (M := M_X8_append) (pc := 25) dX8_append_25 rfl rfl ?_
      refine aw_iload_n (j := 2) (M := M_X8_append) (pc := 26) dX8_append_26 rfl rfl ?_
      refine aw_ishr (M := M_X8_append) (pc := 27) dX8_append_27 ?_
      refine aw_i2b (M := M_X8_append) (pc := 28) dX8_append_28 ?_
      obtain ⟨o1, hF⟩ := hF
      refine aw_bast (k := (h 9 1).toNat) (M := M_X8_append) (pc := 29) dX8_append_29 rfl o1 rfl ?_
      obtain ⟨h2, eh2⟩ : ∃ y : Mem, y = mset h 10 (h 9 1).toNat (i2b (i2b (ishr v1 v2))) := ⟨_, rfl⟩
      have hF := hF h2 eh2
      rw [← eh2]
      refine aw_aload_n (j := 0) (M := M_X8_append) (pc := 30) dX8_append_30 rfl rfl ?_
      refine aw_dup (M := M_X8_append) (pc := 31) dX8_append_31 rfl ?_
      refine gf_X8_15 (M := M_X8_append) (pc := 32) rfl dX8_append_32 rfl ?_
      refine aw_iconst (M := M_X8_append) (pc := 35) dX8_append_35 ⟨by decide, by decide⟩ ?_
      obtain ⟨o3, hF⟩ := hF
      refine aw_iadd (M := M_X8_append) (pc := 36) dX8_append_36 rfl o3 ?_
      refine pf_X8_15 (M := M_X8_append) (pc := 37) rfl dX8_append_37 rfl ?_
      obtain ⟨h4, eh4⟩ : ∃ y : Mem, y = mset h2 9 1 ((h2 9 1) + 1) := ⟨_, rfl⟩
      have hF := hF h4 eh4
      rw [← eh4]
      obtain ⟨o5, hF⟩ := hF
      refine aw_iinc (j := 2) (x := v2) (r := v2 + (-8)) (ls' := [(2, (0, v2 + (-8))), (0, vr 9), (1, (0, v1))]) (M := M_X8_append) (pc := 40) dX8_append_40 rfl rfl o5 (by decide) rfl ?_
      refine aw_goto (tgt := 3) (M := M_X8_append) (pc := 43) dX8_append_43 rfl ?_
      exact aw_ls [1, 2, 0] rfl hF
def F_X8_append (h : Mem) (a1 : Int) (Q : Mem → Prop) : Prop :=
  L_X8_append_3 h a1 24 Q
set_option maxRecDepth 100000 in
set_option maxHeartbeats 4000000 in
theorem f_X8_append {h : Mem} {a1 : Int} {Q : Mem → Prop}  (hF : F_X8_append h a1 Q) : Ct yX8_append cX8_append 3 none (1, 45) [vr 9, (0, a1)] h (qv Q) := by
  refine Ct.of np_RX8 (Nat.le_of_ble_eq_true rfl) ?_
  unfold F_X8_append at hF
  show AW M_X8_append 0 [(0, vr 9), (1, (0, a1))] [] h (qv Q)
  refine aw_bipush (M := M_X8_append) (pc := 0) dX8_append_0 ⟨rfl, ⟨by decide, by decide⟩⟩ ?_
  refine aw_istore_n (ls' := [(2, (0, 24)), (0, vr 9), (1, (0, a1))]) (M := M_X8_append) (pc := 2) dX8_append_2 rfl (by decide) rfl ?_
  exact aw_ls [1, 2, 0] rfl hF
abbrev M_X8_hasRoomFor : Hd := (cX8_hasRoomFor, 2, RX8, (some .boolean), (1, 45), sc0)
def F_X8_hasRoomFor (h : Mem) (a1 : Int) (Q : Int → Mem → Prop) : Prop :=
  (InR ((h 9 1) + a1) ∧ ((900 < ((h 9 1) + a1) → Q 0 h) ∧ (¬ (900 < ((h 9 1) + a1)) → Q 1 h)))
set_option maxRecDepth 100000 in
set_option maxHeartbeats 4000000 in
theorem f_X8_hasRoomFor {h : Mem} {a1 : Int} {Q : Int → Mem → Prop}  (hF : F_X8_hasRoomFor h a1 Q) : Ct yX8_hasRoomFor cX8_hasRoomFor 2 (some .boolean) (1, 45) [vr 9, (0, a1)] h (qi Q) := by
  refine Ct.of np_RX8 (Nat.le_of_ble_eq_true rfl) ?_
  unfold F_X8_hasRoomFor at hF
  show AW M_X8_hasRoomFor 0 [(0, vr 9), (1, (0, a1))] [] h (qi Q)
  refine aw_aload_n (j := 0) (M := M_X8_hasRoomFor) (pc := 0) dX8_hasRoomFor_0 rfl rfl ?_
  refine gf_X8_15 (M := M_X8_hasRoomFor) (pc := 1) rfl dX8_hasRoomFor_1 rfl ?_
  refine aw_iload_n (j := 1) (M := M_X8_hasRoomFor) (pc := 4) dX8_hasRoomFor_4 rfl rfl ?_
  obtain ⟨o1, hF⟩ := hF
  refine aw_iadd (M := M_X8_hasRoomFor) (pc := 5) dX8_hasRoomFor_5 rfl o1 ?_
  refine aw_sipush (M := M_X8_hasRoomFor) (pc := 6) dX8_hasRoomFor_6 ⟨rfl, ⟨by decide, by decide⟩⟩ ?_
  refine aw_icmp_gt (tgt := 16) (M := M_X8_hasRoomFor) (pc := 9) dX8_hasRoomFor_9 rfl (fun hc => ?_) (fun hc => ?_)
  · have hF := hF.1 hc
    refine aw_iconst (M := M_X8_hasRoomFor) (pc := 16) dX8_hasRoomFor_16 ⟨by decide, by decide⟩ ?_
    exact aw_iretz (M := M_X8_hasRoomFor) (pc := 17) dX8_hasRoomFor_17 rfl (Or.inl rfl) ⟨_, rfl, hF⟩
  · have hF := hF.2 hc
    refine aw_iconst (M := M_X8_hasRoomFor) (pc := 12) dX8_hasRoomFor_12 ⟨by decide, by decide⟩ ?_
    refine aw_goto (tgt := 17) (M := M_X8_hasRoomFor) (pc := 13) dX8_hasRoomFor_13 rfl ?_
    exact aw_iretz (M := M_X8_hasRoomFor) (pc := 17) dX8_hasRoomFor_17 rfl (Or.inr rfl) ⟨_, rfl, hF⟩
abbrev M_X8_open : Hd := (cX8_open, 2, RX8, none, (4, 111), sc0)
def F_X8_open (h : Mem) (a1 : Int) (Q : Mem → Prop) : Prop :=
  (∀ h1 : Mem, h1 = mset h 9 3 (imax 0 (imin a1 900)) → (∀ h2 : Mem, h2 = mset h1 9 1 0 → (∀ h3 : Mem, h3 = mset h2 9 4 0 → (∀ h4 : Mem, h4 = mset h3 9 9 0 → (∀ h5 : Mem, h5 = mset h4 9 10 (-1) → (F_X8_advance h5  (fun h6 => Q h6)))))))
set_option maxRecDepth 100000 in
set_option maxHeartbeats 4000000 in
theorem f_X8_open {h : Mem} {a1 : Int} {Q : Mem → Prop}  (hF : F_X8_open h a1 Q) : Ct yX8_open cX8_open 2 none (4, 111) [vr 9, (0, a1)] h (qv Q) := by
  refine Ct.of np_RX8 (Nat.le_of_ble_eq_true rfl) ?_
  unfold F_X8_open at hF
  show AW M_X8_open 0 [(0, vr 9), (1, (0, a1))] [] h (qv Q)
  refine aw_aload_n (j := 0) (M := M_X8_open) (pc := 0) dX8_open_0 rfl rfl ?_
  refine aw_iconst (M := M_X8_open) (pc := 1) dX8_open_1 ⟨by decide, by decide⟩ ?_
  refine aw_iload_n (j := 1) (M := M_X8_open) (pc := 2) dX8_open_2 rfl rfl ?_
  refine aw_sipush (M := M_X8_open) (pc := 3) dX8_open_3 ⟨rfl, ⟨by decide, by decide⟩⟩ ?_
  refine aw_mmin (M := M_X8_open) (pc := 6) ml_X8_63 dX8_open_6 (by decide) (Nat.le_of_ble_eq_true rfl) ?_
  refine aw_mmax (M := M_X8_open) (pc := 9) ml_X8_69 dX8_open_9 (by decide) (Nat.le_of_ble_eq_true rfl) ?_
  refine pf_X8_23 (M := M_X8_open) (pc := 12) rfl dX8_open_12 rfl ?_
  obtain ⟨h1, eh1⟩ : ∃ y : Mem, y = mset h 9 3 (imax 0 (imin a1 900)) := ⟨_, rfl⟩
  have hF := hF h1 eh1
  rw [← eh1]
  refine aw_aload_n (j := 0) (M := M_X8_open) (pc := 15) dX8_open_15 rfl rfl ?_
  refine aw_iconst (M := M_X8_open) (pc := 16) dX8_open_16 ⟨by decide, by decide⟩ ?_
  refine pf_X8_15 (M := M_X8_open) (pc := 17) rfl dX8_open_17 rfl ?_
  obtain ⟨h2, eh2⟩ : ∃ y : Mem, y = mset h1 9 1 0 := ⟨_, rfl⟩
  have hF := hF h2 eh2
  rw [← eh2]
  refine aw_aload_n (j := 0) (M := M_X8_open) (pc := 20) dX8_open_20 rfl rfl ?_
  refine aw_iconst (M := M_X8_open) (pc := 21) dX8_open_21 ⟨by decide, by decide⟩ ?_
  refine pf_X8_26 (M := M_X8_open) (pc := 22) rfl dX8_open_22 rfl ?_
  obtain ⟨h3, eh3⟩ : ∃ y : Mem, y = mset h2 9 4 0 := ⟨_, rfl⟩
  have hF := hF h3 eh3
  rw [← eh3]
  refine aw_aload_n (j := 0) (M := M_X8_open) (pc := 25) dX8_open_25 rfl rfl ?_
  refine aw_iconst (M := M_X8_open) (pc := 26) dX8_open_26 ⟨by decide, by decide⟩ ?_
  refine pf_X8_42 (M := M_X8_open) (pc := 27) rfl dX8_open_27 rfl ?_
  obtain ⟨h4, eh4⟩ : ∃ y : Mem, y = mset h3 9 9 0 := ⟨_, rfl⟩
  have hF := hF h4 eh4
  rw [← eh4]
  refine aw_aload_n (j := 0) (M := M_X8_open) (pc := 30) dX8_open_30 rfl rfl ?_
  refine aw_iconst (M := M_X8_open) (pc := 31) dX8_open_31 ⟨by decide, by decide⟩ ?_
  refine pf_X8_45 (M := M_X8_open) (pc := 32) rfl dX8_open_32 rfl ?_
  obtain ⟨h5, eh5⟩ : ∃ y : Mem, y = mset h4 9 10 (-1) := ⟨_, rfl⟩
  have hF := hF h5 eh5
  rw [← eh5]
  refine aw_aload_n (j := 0) (M := M_X8_open) (pc := 35) dX8_open_35 rfl rfl ?_
  refine aw_cvv (as := []) (st := []) (M := M_X8_open) (pc := 36) (f_X8_advance  hF) dX8_open_36 rfl (Or.inl ⟨_, _, _, rfl, rfl⟩) cy_X8_advance ml_X8_72 (by decide) (by decide) (Nat.le_of_ble_eq_true rfl) (fun h6 hF => ?_)
  exact aw_ret (M := M_X8_open) (pc := 39) dX8_open_39 rfl ⟨rfl, hF⟩
abbrev M_X9_homesInAll : Hd := (cX9_homesInAll, 3, RX9, (some .int), (1, 45), sc0)
def L_X9_homesInAll_4 (h : Mem) (v0 : Nat) (v1 : Int) (v2 : Int) (Q : Int → Mem → Prop) : Prop := AW M_X9_homesInAll 4 [(0, vr v0), (1, (0, v1)), (2, (0, v2))] [] h (qi Q)
def B_X9_homesInAll_4 (h : Mem) (v0 : Nat) (v1 : Int) (v2 : Int) (Q : Int → Mem → Prop) : Prop :=
  (((h v0 0) ≤ v2 → Q v1 h) ∧ (¬ ((h v0 0) ≤ v2) → ((0 ≤ v2 ∧ v2 < 8) ∧ (InR (v1 + (h (v0 + 8) (v2).toNat)) ∧ (∀ x4 : Int, x4 = v1 + (h (v0 + 8) (v2).toNat) → (InR (v2 + 1) ∧ L_X9_homesInAll_4 h v0 x4 (v2 + 1) Q))))))
set_option maxRecDepth 100000 in
set_option maxHeartbeats 4000000 in
theorem l_X9_homesInAll_4 {h : Mem} {v0 : Nat} {v1 : Int} {v2 : Int} {Q : Int → Mem → Prop} (hv0 : lay v0 = (0, 9)) (hF : B_X9_homesInAll_4 h v0 v1 v2 Q) : L_X9_homesInAll_4 h v0 v1 v2 Q := by
  unfold B_X9_homesInAll_4 at hF
  show AW M_X9_homesInAll 4 [(0, vr v0), (1, (0, v1)), (2, (0, v2))] [] h (qi Q)
  refine aw_iload_n (j := 2) (M := M_X9_homesInAll) (pc := 4) dX9_homesInAll_4 rfl rfl ?_
  refine aw_aload_n (j := 0) (M := M_X9_homesInAll) (pc := 5) dX9_homesInAll_5 rfl rfl ?_
  refine gf_X9_9 (M := M_X9_homesInAll) (pc := 6) rfl dX9_homesInAll_6 hv0 ?_
  refine aw_icmp_ge (tgt := 27) (M := M_X9_homesInAll) (pc := 9) dX9_homesInAll_9 rfl (fun hc => ?_) (fun hc => ?_)
  · have hF := hF.1 hc
    refine aw_iload_n (j := 1) (M := M_X9_homesInAll) (pc := 27) dX9_homesInAll_27 rfl rfl ?_
    exact aw_ireti (M := M_X9_homesInAll) (pc := 28) dX9_homesInAll_28 rfl ⟨_, rfl, hF⟩
  · have hF := hF.2 hc
    refine aw_iload_n (j := 1) (M := M_X9_homesInAll) (pc := 12) dX9_homesInAll_12 rfl rfl ?_
    refine aw_aload_n (j := 0) (M := M_X9_homesInAll) (pc := 13) dX9_homesInAll_13 rfl rfl ?_
    refine gf_X9_38 (M := M_X9_homesInAll) (pc := 14) rfl dX9_homesInAll_14 hv0 (r := v0 + 8) rfl ?_
    refine aw_iload_n (j := 2) (M := M_X9_homesInAll) (pc := 17) dX9_homesInAll_17 rfl rfl ?_
    obtain ⟨o2, hF⟩ := hF
    refine aw_iald (k := (v2).toNat) (M := M_X9_homesInAll) (pc := 18) dX9_homesInAll_18 (ll_9_8 hv0) o2 rfl ?_
    obtain ⟨o3, hF⟩ := hF
    refine aw_iadd (M := M_X9_homesInAll) (pc := 19) dX9_homesInAll_19 rfl o3 ?_
    obtain ⟨x4, ex4⟩ : ∃ y : Int, y = v1 + (h (v0 + 8) (v2).toNat) := ⟨_, rfl⟩
    have hF := hF x4 ex4
    rw [← ex4]
    refine aw_istore_n (ls' := [(1, (0, x4)), (0, vr v0), (2, (0, v2))]) (M := M_X9_homesInAll) (pc := 20) dX9_homesInAll_20 rfl (by decide) rfl ?_
    obtain ⟨o5, hF⟩ := hF
    refine aw_iinc (j := 2) (x := v2) (r := v2 + 1) (ls' := [(2, (0, v2 + 1)), (1, (0, x4)), (0, vr v0)]) (M := M_X9_homesInAll) (pc := 21) dX9_homesInAll_21 rfl rfl o5 (by decide) rfl ?_
    refine aw_goto (tgt := 4) (M := M_X9_homesInAll) (pc := 24) dX9_homesInAll_24 rfl ?_
    exact aw_ls [2, 1, 0] rfl hF
def F_X9_homesInAll (h : Mem) (o : Nat) (Q : Int → Mem → Prop) : Prop :=
  L_X9_homesInAll_4 h o 0 0 Q
set_option maxRecDepth 100000 in
set_option maxHeartbeats 4000000 in
theorem f_X9_homesInAll {h : Mem} {o : Nat} {Q : Int → Mem → Prop} (ho : lay o = (0, 9)) (hF : F_X9_homesInAll h o Q) : Ct yX9_homesInAll cX9_homesInAll 3 (some .int) (1, 45) [vr o] h (qi Q) := by
  refine Ct.of np_RX9 (Nat.le_of_ble_eq_true rfl) ?_
  unfold F_X9_homesInAll at hF
  show AW M_X9_homesInAll 0 [(0, vr o)] [] h (qi Q)
  refine aw_iconst (M := M_X9_homesInAll) (pc := 0) dX9_homesInAll_0 ⟨by decide, by decide⟩ ?_
  refine aw_istore_n (ls' := [(1, (0, 0)), (0, vr o)]) (M := M_X9_homesInAll) (pc := 1) dX9_homesInAll_1 rfl (by decide) rfl ?_
  refine aw_iconst (M := M_X9_homesInAll) (pc := 2) dX9_homesInAll_2 ⟨by decide, by decide⟩ ?_
  refine aw_istore_n (ls' := [(2, (0, 0)), (1, (0, 0)), (0, vr o)]) (M := M_X9_homesInAll) (pc := 3) dX9_homesInAll_3 rfl (by decide) rfl ?_
  exact aw_ls [2, 1, 0] rfl hF
abbrev M_X9_isRemembered : Hd := (cX9_isRemembered, 2, RX9, (some .boolean), (1, 45), sc0)
def F_X9_isRemembered (h : Mem) (o : Nat) (a1 : Int) (Q : Int → Mem → Prop) : Prop :=
  ((0 ≤ a1 ∧ a1 < 8) ∧ ((¬ ((h (o + 5) (a1).toNat) = 1) → Q 0 h) ∧ ((h (o + 5) (a1).toNat) = 1 → (((h (o + 7) (a1).toNat) < (h (o + 4) (a1).toNat) → Q 0 h) ∧ (¬ ((h (o + 7) (a1).toNat) < (h (o + 4) (a1).toNat)) → Q 1 h)))))
set_option maxRecDepth 100000 in
set_option maxHeartbeats 4000000 in
theorem f_X9_isRemembered {h : Mem} {o : Nat} {a1 : Int} {Q : Int → Mem → Prop} (ho : lay o = (0, 9)) (hF : F_X9_isRemembered h o a1 Q) : Ct yX9_isRemembered cX9_isRemembered 2 (some .boolean) (1, 45) [vr o, (0, a1)] h (qi Q) := by
  refine Ct.of np_RX9 (Nat.le_of_ble_eq_true rfl) ?_
  unfold F_X9_isRemembered at hF
  show AW M_X9_isRemembered 0 [(0, vr o), (1, (0, a1))] [] h (qi Q)
  refine aw_aload_n (j := 0) (M := M_X9_isRemembered) (pc := 0) dX9_isRemembered_0 rfl rfl ?_
  refine gf_X9_29 (M := M_X9_isRemembered) (pc := 1) rfl dX9_isRemembered_1 ho (r := o + 5) rfl ?_
  refine aw_iload_n (j := 1) (M := M_X9_isRemembered) (pc := 4) dX9_isRemembered_4 rfl rfl ?_
  obtain ⟨o2, hF⟩ := hF
  refine aw_iald (k := (a1).toNat) (M := M_X9_isRemembered) (pc := 5) dX9_isRemembered_5 (ll_9_5 ho) o2 rfl ?_
  refine aw_iconst (M := M_X9_isRemembered) (pc := 6) dX9_isRemembered_6 ⟨by decide, by decide⟩ ?_
  refine aw_icmp_ne (tgt := 29) (M := M_X9_isRemembered) (pc := 7) dX9_isRemembered_7 rfl (fun hc => ?_) (fun hc => ?_)
  · have hF := hF.1 hc
    refine aw_iconst (M := M_X9_isRemembered) (pc := 29) dX9_isRemembered_29 ⟨by decide, by decide⟩ ?_
    exact aw_iretz (M := M_X9_isRemembered) (pc := 30) dX9_isRemembered_30 rfl (Or.inl rfl) ⟨_, rfl, hF⟩
  · have hF := hF.2 hc
    refine aw_aload_n (j := 0) (M := M_X9_isRemembered) (pc := 10) dX9_isRemembered_10 rfl rfl ?_
    refine gf_X9_35 (M := M_X9_isRemembered) (pc := 11) rfl dX9_isRemembered_11 ho (r := o + 7) rfl ?_
    refine aw_iload_n (j := 1) (M := M_X9_isRemembered) (pc := 14) dX9_isRemembered_14 rfl rfl ?_
    refine aw_iald (k := (a1).toNat) (M := M_X9_isRemembered) (pc := 15) dX9_isRemembered_15 (ll_9_7 ho) o2 rfl ?_
    refine aw_aload_n (j := 0) (M := M_X9_isRemembered) (pc := 16) dX9_isRemembered_16 rfl rfl ?_
    refine gf_X9_26 (M := M_X9_isRemembered) (pc := 17) rfl dX9_isRemembered_17 ho (r := o + 4) rfl ?_
    refine aw_iload_n (j := 1) (M := M_X9_isRemembered) (pc := 20) dX9_isRemembered_20 rfl rfl ?_
    refine aw_iald (k := (a1).toNat) (M := M_X9_isRemembered) (pc := 21) dX9_isRemembered_21 (ll_9_4 ho) o2 rfl ?_
    refine aw_icmp_lt (tgt := 29) (M := M_X9_isRemembered) (pc := 22) dX9_isRemembered_22 rfl (fun hc => ?_) (fun hc => ?_)
    · have hF := hF.1 hc
      refine aw_iconst (M := M_X9_isRemembered) (pc := 29) dX9_isRemembered_29 ⟨by decide, by decide⟩ ?_
      exact aw_iretz (M := M_X9_isRemembered) (pc := 30) dX9_isRemembered_30 rfl (Or.inl rfl) ⟨_, rfl, hF⟩
    · have hF := hF.2 hc
      refine aw_iconst (M := M_X9_isRemembered) (pc := 25) dX9_isRemembered_25 ⟨by decide, by decide⟩ ?_
      refine aw_goto (tgt := 30) (M := M_X9_isRemembered) (pc := 26) dX9_isRemembered_26 rfl ?_
      exact aw_iretz (M := M_X9_isRemembered) (pc := 30) dX9_isRemembered_30 rfl (Or.inr rfl) ⟨_, rfl, hF⟩
abbrev M_X9_setRemembered : Hd := (cX9_setRemembered, 3, RX9, (some .int), (2, 66), sc0)
def L_X9_setRemembered_4 (h : Mem) (v0 : Nat) (v1 : Int) (v2 : Int) (Q : Int → Mem → Prop) : Prop := AW M_X9_setRemembered 4 [(0, vr v0), (1, (0, v1)), (2, (0, v2))] [] h (qi Q)
def B_X9_setRemembered_4 (h : Mem) (v0 : Nat) (v1 : Int) (v2 : Int) (Q : Int → Mem → Prop) : Prop :=
  (((h v0 0) ≤ v2 → Q v1 h) ∧ (¬ ((h v0 0) ≤ v2) → (F_X9_isRemembered h v0 v2 (fun r2 h1 => ((r2 = 0 → (InR (v2 + 1) ∧ L_X9_setRemembered_4 h1 v0 v1 (v2 + 1) Q)) ∧ (¬ (r2 = 0) → (∀ x4 : Int, x4 = ior v1 (ishl 1 v2) → (InR (v2 + 1) ∧ L_X9_setRemembered_4 h1 v0 x4 (v2 + 1) Q))))))))
set_option maxRecDepth 100000 in
set_option maxHeartbeats 4000000 in
theorem l_X9_setRemembered_4 {h : Mem} {v0 : Nat} {v1 : Int} {v2 : Int} {Q : Int → Mem → Prop} (hv0 : lay v0 = (0, 9)) (hF : B_X9_setRemembered_4 h v0 v1 v2 Q) : L_X9_setRemembered_4 h v0 v1 v2 Q := by
  unfold B_X9_setRemembered_4 at hF
  show AW M_X9_setRemembered 4 [(0, vr v0), (1, (0, v1)), (2, (0, v2))] [] h (qi Q)
  refine aw_iload_n (j := 2) (M := M_X9_setRemembered) (pc := 4) dX9_setRemembered_4 rfl rfl ?_
  refine aw_aload_n (j := 0) (M := M_X9_setRemembered) (pc := 5) dX9_setRemembered_5 rfl rfl ?_
  refine gf_X9_9 (M := M_X9_setRemembered) (pc := 6) rfl dX9_setRemembered_6 hv0 ?_
  refine aw_icmp_ge (tgt := 32) (M := M_X9_setRemembered) (pc := 9) dX9_setRemembered_9 rfl (fun hc => ?_) (fun hc => ?_)
  · have hF := hF.1 hc
    refine aw_iload_n (j := 1) (M := M_X9_setRemembered) (pc := 32) dX9_setRemembered_32 rfl rfl ?_
    exact aw_ireti (M := M_X9_setRemembered) (pc := 33) dX9_setRemembered_33 rfl ⟨_, rfl, hF⟩
  · have hF := hF.2 hc
    refine aw_aload_n (j := 0) (M := M_X9_setRemembered) (pc := 12) dX9_setRemembered_12 rfl rfl ?_
    refine aw_iload_n (j := 2) (M := M_X9_setRemembered) (pc := 13) dX9_setRemembered_13 rfl rfl ?_
    refine aw_cvi (as := [(0, v2)]) (st := []) (M := M_X9_setRemembered) (pc := 14) (f_X9_isRemembered hv0 hF) dX9_setRemembered_14 rfl (Or.inl ⟨_, _, _, hv0, rfl⟩) cy_X9_isRemembered ml_X9_59 (by decide) (by decide) (Nat.le_of_ble_eq_true rfl) (fun r2 h1 hF => ?_)
    refine aw_if_eq (tgt := 26) (M := M_X9_setRemembered) (pc := 17) dX9_setRemembered_17 rfl (fun hc => ?_) (fun hc => ?_)
    · have hF := hF.1 hc
      obtain ⟨o3, hF⟩ := hF
      refine aw_iinc (j := 2) (x := v2) (r := v2 + 1) (ls' := [(2, (0, v2 + 1)), (0, vr v0), (1, (0, v1))]) (M := M_X9_setRemembered) (pc := 26) dX9_setRemembered_26 rfl rfl o3 (by decide) rfl ?_
      refine aw_goto (tgt := 4) (M := M_X9_setRemembered) (pc := 29) dX9_setRemembered_29 rfl ?_
      exact aw_ls [1, 2, 0] rfl hF
    · have hF := hF.2 hc
      refine aw_iload_n (j := 1) (M := M_X9_setRemembered) (pc := 20) dX9_setRemembered_20 rfl rfl ?_
      refine aw_iconst (M := M_X9_setRemembered) (pc := 21) dX9_setRemembered_21 ⟨by decide, by decide⟩ ?_
      refine aw_iload_n (j := 2) (M := M_X9_setRemembered) (pc := 22) dX9_setRemembered_22 rfl rfl ?_
      refine aw_ishl (M := M_X9_setRemembered) (pc := 23) dX9_setRemembered_23 ?_
      refine aw_ior (M := M_X9_setRemembered) (pc := 24) dX9_setRemembered_24 ?_
      obtain ⟨x4, ex4⟩ : ∃ y : Int, y = ior v1 (ishl 1 v2) := ⟨_, rfl⟩
      have hF := hF x4 ex4
      rw [← ex4]
      refine aw_istore_n (ls' := [(1, (0, x4)), (0, vr v0), (2, (0, v2))]) (M := M_X9_setRemembered) (pc := 25) dX9_setRemembered_25 rfl (by decide) rfl ?_
      obtain ⟨o5, hF⟩ := hF
      refine aw_iinc (j := 2) (x := v2) (r := v2 + 1) (ls' := [(2, (0, v2 + 1)), (1, (0, x4)), (0, vr v0)]) (M := M_X9_setRemembered) (pc := 26) dX9_setRemembered_26 rfl rfl o5 (by decide) rfl ?_
      refine aw_goto (tgt := 4) (M := M_X9_setRemembered) (pc := 29) dX9_setRemembered_29 rfl ?_
      exact aw_ls [2, 1, 0] rfl hF
def F_X9_setRemembered (h : Mem) (o : Nat) (Q : Int → Mem → Prop) : Prop :=
  L_X9_setRemembered_4 h o 0 0 Q
set_option maxRecDepth 100000 in
set_option maxHeartbeats 4000000 in
theorem f_X9_setRemembered {h : Mem} {o : Nat} {Q : Int → Mem → Prop} (ho : lay o = (0, 9)) (hF : F_X9_setRemembered h o Q) : Ct yX9_setRemembered cX9_setRemembered 3 (some .int) (2, 66) [vr o] h (qi Q) := by
  refine Ct.of np_RX9 (Nat.le_of_ble_eq_true rfl) ?_
  unfold F_X9_setRemembered at hF
  show AW M_X9_setRemembered 0 [(0, vr o)] [] h (qi Q)
  refine aw_iconst (M := M_X9_setRemembered) (pc := 0) dX9_setRemembered_0 ⟨by decide, by decide⟩ ?_
  refine aw_istore_n (ls' := [(1, (0, 0)), (0, vr o)]) (M := M_X9_setRemembered) (pc := 1) dX9_setRemembered_1 rfl (by decide) rfl ?_
  refine aw_iconst (M := M_X9_setRemembered) (pc := 2) dX9_setRemembered_2 ⟨by decide, by decide⟩ ?_
  refine aw_istore_n (ls' := [(2, (0, 0)), (1, (0, 0)), (0, vr o)]) (M := M_X9_setRemembered) (pc := 3) dX9_setRemembered_3 rfl (by decide) rfl ?_
  exact aw_ls [2, 1, 0] rfl hF
theorem so_X10_cut_1 {x : Int} (h0 : ¬ x = 0) (h1 : ¬ x = 1) (h2 : ¬ x = 2) : x < 0 ∨ 2 < x := by omega
abbrev M_X10_cut : Hd := (cX10_cut, 3, RX10, (some .long), (1, 45), sc0)
def F_X10_cut (h : Mem) (a1 : Int) (a2 : Int) (Q : Int → Mem → Prop) : Prop :=
  ((a1 = 0 → Q (i2b (l2i a2)) h) ∧ ((a1 = 1 → Q (i2s (l2i a2)) h) ∧ ((a1 = 2 → Q (l2i a2) h) ∧ ((a1 < 0 ∨ 2 < a1) → Q a2 h))))
set_option maxRecDepth 100000 in
set_option maxHeartbeats 4000000 in
theorem f_X10_cut {h : Mem} {a1 : Int} {a2 : Int} {Q : Int → Mem → Prop}  (hF : F_X10_cut h a1 a2 Q) : Ct yX10_cut cX10_cut 3 (some .long) (1, 45) [(0, a1), (1, a2)] h (ql Q) := by
  refine Ct.of np_RX10 (Nat.le_of_ble_eq_true rfl) ?_
  unfold F_X10_cut at hF
  show AW M_X10_cut 0 [(0, (0, a1)), (1, (1, a2))] [] h (ql Q)
  refine aw_iload_n (j := 0) (M := M_X10_cut) (pc := 0) dX10_cut_0 rfl rfl ?_
  by_cases hc : a1 = 0
  · have hF := hF.1 hc
    refine aw_tableIn (tgt := 28) (M := M_X10_cut) (pc := 1) dX10_cut_1 (by rw [hc]; decide) (by rw [hc]; decide) (off := 27) (by rw [hc]; rfl) rfl ?_
    refine aw_lload_n (j := 1) (M := M_X10_cut) (pc := 28) dX10_cut_28 rfl rfl ?_
    refine aw_l2i (M := M_X10_cut) (pc := 29) dX10_cut_29 ?_
    refine aw_i2b (M := M_X10_cut) (pc := 30) dX10_cut_30 ?_
    refine aw_i2l (M := M_X10_cut) (pc := 31) dX10_cut_31 ?_
    exact aw_lret (M := M_X10_cut) (pc := 32) dX10_cut_32 rfl ⟨_, rfl, hF⟩
  have hF := hF.2
  have hc0 := hc
  by_cases hc : a1 = 1
  · have hF := hF.1 hc
    refine aw_tableIn (tgt := 33) (M := M_X10_cut) (pc := 1) dX10_cut_1 (by rw [hc]; decide) (by rw [hc]; decide) (off := 32) (by rw [hc]; rfl) rfl ?_
    refine aw_lload_n (j := 1) (M := M_X10_cut) (pc := 33) dX10_cut_33 rfl rfl ?_
    refine aw_l2i (M := M_X10_cut) (pc := 34) dX10_cut_34 ?_
    refine aw_i2s (M := M_X10_cut) (pc := 35) dX10_cut_35 ?_
    refine aw_i2l (M := M_X10_cut) (pc := 36) dX10_cut_36 ?_
    exact aw_lret (M := M_X10_cut) (pc := 37) dX10_cut_37 rfl ⟨_, rfl, hF⟩
  have hF := hF.2
  have hc1 := hc
  by_cases hc : a1 = 2
  · have hF := hF.1 hc
    refine aw_tableIn (tgt := 38) (M := M_X10_cut) (pc := 1) dX10_cut_1 (by rw [hc]; decide) (by rw [hc]; decide) (off := 37) (by rw [hc]; rfl) rfl ?_
    refine aw_lload_n (j := 1) (M := M_X10_cut) (pc := 38) dX10_cut_38 rfl rfl ?_
    refine aw_l2i (M := M_X10_cut) (pc := 39) dX10_cut_39 ?_
    refine aw_i2l (M := M_X10_cut) (pc := 40) dX10_cut_40 ?_
    exact aw_lret (M := M_X10_cut) (pc := 41) dX10_cut_41 rfl ⟨_, rfl, hF⟩
  have hF := hF.2
  have hc2 := hc
  have hc : a1 < 0 ∨ 2 < a1 := so_X10_cut_1 hc0 hc1 hc2
  have hF := hF hc
  refine aw_tableOut (tgt := 42) (M := M_X10_cut) (pc := 1) dX10_cut_1 hc rfl ?_
  refine aw_lload_n (j := 1) (M := M_X10_cut) (pc := 42) dX10_cut_42 rfl rfl ?_
  exact aw_lret (M := M_X10_cut) (pc := 43) dX10_cut_43 rfl ⟨_, rfl, hF⟩
abbrev M_X10_isMissing : Hd := (cX10_isMissing, 2, RX10, (some .boolean), (1, 45), sc0)
def F_X10_isMissing (h : Mem) (a1 : Int) (Q : Int → Mem → Prop) : Prop :=
  ((0 ≤ a1 ∧ a1 < 4) ∧ ((¬ ((h 2 (a1).toNat) = (-1)) → Q 0 h) ∧ ((h 2 (a1).toNat) = (-1) → Q 1 h)))
set_option maxRecDepth 100000 in
set_option maxHeartbeats 4000000 in
theorem f_X10_isMissing {h : Mem} {a1 : Int} {Q : Int → Mem → Prop}  (hF : F_X10_isMissing h a1 Q) : Ct yX10_isMissing cX10_isMissing 2 (some .boolean) (1, 45) [vr 1, (0, a1)] h (qi Q) := by
  refine Ct.of np_RX10 (Nat.le_of_ble_eq_true rfl) ?_
  unfold F_X10_isMissing at hF
  show AW M_X10_isMissing 0 [(0, vr 1), (1, (0, a1))] [] h (qi Q)
  refine aw_aload_n (j := 0) (M := M_X10_isMissing) (pc := 0) dX10_isMissing_0 rfl rfl ?_
  refine gf_X10_9 (M := M_X10_isMissing) (pc := 1) rfl dX10_isMissing_1 rfl (r := 2) rfl ?_
  refine aw_iload_n (j := 1) (M := M_X10_isMissing) (pc := 4) dX10_isMissing_4 rfl rfl ?_
  obtain ⟨o2, hF⟩ := hF
  refine aw_iald (k := (a1).toNat) (M := M_X10_isMissing) (pc := 5) dX10_isMissing_5 rfl o2 rfl ?_
  refine aw_iconst (M := M_X10_isMissing) (pc := 6) dX10_isMissing_6 ⟨by decide, by decide⟩ ?_
  refine aw_icmp_ne (tgt := 14) (M := M_X10_isMissing) (pc := 7) dX10_isMissing_7 rfl (fun hc => ?_) (fun hc => ?_)
  · have hF := hF.1 hc
    refine aw_iconst (M := M_X10_isMissing) (pc := 14) dX10_isMissing_14 ⟨by decide, by decide⟩ ?_
    exact aw_iretz (M := M_X10_isMissing) (pc := 15) dX10_isMissing_15 rfl (Or.inl rfl) ⟨_, rfl, hF⟩
  · have hF := hF.2 hc
    refine aw_iconst (M := M_X10_isMissing) (pc := 10) dX10_isMissing_10 ⟨by decide, by decide⟩ ?_
    refine aw_goto (tgt := 15) (M := M_X10_isMissing) (pc := 11) dX10_isMissing_11 rfl ?_
    exact aw_iretz (M := M_X10_isMissing) (pc := 15) dX10_isMissing_15 rfl (Or.inr rfl) ⟨_, rfl, hF⟩
abbrev M_X10_isTray : Hd := (cX10_isTray, 2, RX10, (some .boolean), (1, 45), sc0)
def F_X10_isTray (h : Mem) (a1 : Int) (Q : Int → Mem → Prop) : Prop :=
  ((a1 < 0 → Q 0 h) ∧ (¬ (a1 < 0) → ((4 ≤ a1 → Q 0 h) ∧ (¬ (4 ≤ a1) → Q 1 h))))
set_option maxRecDepth 100000 in
set_option maxHeartbeats 4000000 in
theorem f_X10_isTray {h : Mem} {a1 : Int} {Q : Int → Mem → Prop}  (hF : F_X10_isTray h a1 Q) : Ct yX10_isTray cX10_isTray 2 (some .boolean) (1, 45) [vr 1, (0, a1)] h (qi Q) := by
  refine Ct.of np_RX10 (Nat.le_of_ble_eq_true rfl) ?_
  unfold F_X10_isTray at hF
  show AW M_X10_isTray 0 [(0, vr 1), (1, (0, a1))] [] h (qi Q)
  refine aw_iload_n (j := 1) (M := M_X10_isTray) (pc := 0) dX10_isTray_0 rfl rfl ?_
  refine aw_if_lt (tgt := 13) (M := M_X10_isTray) (pc := 1) dX10_isTray_1 rfl (fun hc => ?_) (fun hc => ?_)
  · have hF := hF.1 hc
    refine aw_iconst (M := M_X10_isTray) (pc := 13) dX10_isTray_13 ⟨by decide, by decide⟩ ?_
    exact aw_iretz (M := M_X10_isTray) (pc := 14) dX10_isTray_14 rfl (Or.inl rfl) ⟨_, rfl, hF⟩
  · have hF := hF.2 hc
    refine aw_iload_n (j := 1) (M := M_X10_isTray) (pc := 4) dX10_isTray_4 rfl rfl ?_
    refine aw_iconst (M := M_X10_isTray) (pc := 5) dX10_isTray_5 ⟨by decide, by decide⟩ ?_
    refine aw_icmp_ge (tgt := 13) (M := M_X10_isTray) (pc := 6) dX10_isTray_6 rfl (fun hc => ?_) (fun hc => ?_)
    · have hF := hF.1 hc
      refine aw_iconst (M := M_X10_isTray) (pc := 13) dX10_isTray_13 ⟨by decide, by decide⟩ ?_
      exact aw_iretz (M := M_X10_isTray) (pc := 14) dX10_isTray_14 rfl (Or.inl rfl) ⟨_, rfl, hF⟩
    · have hF := hF.2 hc
      refine aw_iconst (M := M_X10_isTray) (pc := 9) dX10_isTray_9 ⟨by decide, by decide⟩ ?_
      refine aw_goto (tgt := 14) (M := M_X10_isTray) (pc := 10) dX10_isTray_10 rfl ?_
      exact aw_iretz (M := M_X10_isTray) (pc := 14) dX10_isTray_14 rfl (Or.inr rfl) ⟨_, rfl, hF⟩
abbrev M_X10_lay : Hd := (cX10_lay, 5, RX10, none, (1, 45), sc0)
def L_X10_lay_17 (h : Mem) (v1 : Int) (v3 : Int) (v4 : Int) (Q : Mem → Prop) : Prop := AW M_X10_lay 17 [(0, vr 1), (1, (0, v1)), (3, (0, v3)), (4, (0, v4))] [] h (qv Q)
def B_X10_lay_17 (h : Mem) (v1 : Int) (v3 : Int) (v4 : Int) (Q : Mem → Prop) : Prop :=
  ((v3 ≤ v4 → Q h) ∧ (¬ (v3 ≤ v4) → ((0 ≤ v1 ∧ v1 < 4) ∧ ((0 ≤ v4 ∧ v4 < 60) ∧ (∀ h6 : Mem, h6 = mset h (4 + 1 + 1 * (v1).toNat) (v4).toNat 0 → (InR (v4 + 1) ∧ L_X10_lay_17 h6 v1 v3 (v4 + 1) Q))))))
set_option maxRecDepth 100000 in
set_option maxHeartbeats 4000000 in
theorem l_X10_lay_17 {h : Mem} {v1 : Int} {v3 : Int} {v4 : Int} {Q : Mem → Prop}  (hF : B_X10_lay_17 h v1 v3 v4 Q) : L_X10_lay_17 h v1 v3 v4 Q := by
  unfold B_X10_lay_17 at hF
  show AW M_X10_lay 17 [(0, vr 1), (1, (0, v1)), (3, (0, v3)), (4, (0, v4))] [] h (qv Q)
  refine aw_iload (j := 3) (M := M_X10_lay) (pc := 17) dX10_lay_17  rfl ?_
  refine aw_iload_n (j := 2) (M := M_X10_lay) (pc := 19) dX10_lay_19 rfl rfl ?_
  refine aw_icmp_ge (tgt := 39) (M := M_X10_lay) (pc := 20) dX10_lay_20 rfl (fun hc => ?_) (fun hc => ?_)
  · have hF := hF.1 hc
    exact aw_ret (M := M_X10_lay) (pc := 39) dX10_lay_39 rfl ⟨rfl, hF⟩
  · have hF := hF.2 hc
    refine aw_aload_n (j := 0) (M := M_X10_lay) (pc := 23) dX10_lay_23 rfl rfl ?_
    refine gf_X10_18 (M := M_X10_lay) (pc := 24) rfl dX10_lay_24 rfl (r := 4) rfl ?_
    refine aw_iload_n (j := 1) (M := M_X10_lay) (pc := 27) dX10_lay_27 rfl rfl ?_
    obtain ⟨o4, hF⟩ := hF
    refine aw_ald7 (M := M_X10_lay) (pc := 28) dX10_lay_28 rfl o4 ?_
    refine aw_iload (j := 3) (M := M_X10_lay) (pc := 29) dX10_lay_29  rfl ?_
    refine aw_lconst (v := 0) (M := M_X10_lay) (pc := 31) dX10_lay_31 ⟨rfl, ⟨by decide, by decide⟩⟩ ?_
    obtain ⟨o5, hF⟩ := hF
    refine aw_last (k := (v4).toNat) (M := M_X10_lay) (pc := 32) dX10_lay_32 (le_7 o4) o5 rfl ?_
    obtain ⟨h6, eh6⟩ : ∃ y : Mem, y = mset h (4 + 1 + 1 * (v1).toNat) (v4).toNat 0 := ⟨_, rfl⟩
    have hF := hF h6 eh6
    rw [← eh6]
    obtain ⟨o7, hF⟩ := hF
    refine aw_iinc (j := 3) (x := v4) (r := v4 + 1) (ls' := [(4, (0, v4 + 1)), (0, vr 1), (1, (0, v1)), (3, (0, v3))]) (M := M_X10_lay) (pc := 33) dX10_lay_33 rfl rfl o7 (by decide) rfl ?_
    refine aw_goto (tgt := 17) (M := M_X10_lay) (pc := 36) dX10_lay_36 rfl ?_
    exact aw_ls [1, 2, 3, 0] rfl hF
def F_X10_lay (h : Mem) (a1 : Int) (a2 : Int) (a3 : Int) (Q : Mem → Prop) : Prop :=
  ((0 ≤ a1 ∧ a1 < 4) ∧ (∀ h2 : Mem, h2 = mset h 2 (a1).toNat a2 → (∀ h3 : Mem, h3 = mset h2 3 (a1).toNat a3 → L_X10_lay_17 h3 a1 a3 0 Q)))
set_option maxRecDepth 100000 in
set_option maxHeartbeats 4000000 in
theorem f_X10_lay {h : Mem} {a1 : Int} {a2 : Int} {a3 : Int} {Q : Mem → Prop}  (hF : F_X10_lay h a1 a2 a3 Q) : Ct yX10_lay cX10_lay 5 none (1, 45) [vr 1, (0, a1), (0, a2), (0, a3)] h (qv Q) := by
  refine Ct.of np_RX10 (Nat.le_of_ble_eq_true rfl) ?_
  unfold F_X10_lay at hF
  show AW M_X10_lay 0 [(0, vr 1), (1, (0, a1)), (2, (0, a2)), (3, (0, a3))] [] h (qv Q)
  refine aw_aload_n (j := 0) (M := M_X10_lay) (pc := 0) dX10_lay_0 rfl rfl ?_
  refine gf_X10_9 (M := M_X10_lay) (pc := 1) rfl dX10_lay_1 rfl (r := 2) rfl ?_
  refine aw_iload_n (j := 1) (M := M_X10_lay) (pc := 4) dX10_lay_4 rfl rfl ?_
  refine aw_iload_n (j := 2) (M := M_X10_lay) (pc := 5) dX10_lay_5 rfl rfl ?_
  obtain ⟨o1, hF⟩ := hF
  refine aw_iast (k := (a1).toNat) (M := M_X10_lay) (pc := 6) dX10_lay_6 rfl o1 rfl ?_
  obtain ⟨h2, eh2⟩ : ∃ y : Mem, y = mset h 2 (a1).toNat a2 := ⟨_, rfl⟩
  have hF := hF h2 eh2
  rw [← eh2]
  refine aw_aload_n (j := 0) (M := M_X10_lay) (pc := 7) dX10_lay_7 rfl rfl ?_
  refine gf_X10_13 (M := M_X10_lay) (pc := 8) rfl dX10_lay_8 rfl (r := 3) rfl ?_
  refine aw_iload_n (j := 1) (M := M_X10_lay) (pc := 11) dX10_lay_11 rfl rfl ?_
  refine aw_iload_n (j := 3) (M := M_X10_lay) (pc := 12) dX10_lay_12 rfl rfl ?_
  refine aw_iast (k := (a1).toNat) (M := M_X10_lay) (pc := 13) dX10_lay_13 rfl o1 rfl ?_
  obtain ⟨h3, eh3⟩ : ∃ y : Mem, y = mset h2 3 (a1).toNat a3 := ⟨_, rfl⟩
  have hF := hF h3 eh3
  rw [← eh3]
  refine aw_iconst (M := M_X10_lay) (pc := 14) dX10_lay_14 ⟨by decide, by decide⟩ ?_
  refine aw_istore (ls' := [(4, (0, 0)), (0, vr 1), (1, (0, a1)), (2, (0, a2)), (3, (0, a3))]) (M := M_X10_lay) (pc := 15) dX10_lay_15  (by decide) rfl ?_
  exact aw_ls [1, 2, 4, 0] rfl hF
abbrev M_X10_put : Hd := (cX10_put, 5, RX10, none, (2, 67), sc0)
def F_X10_put (h : Mem) (a1 : Int) (a2 : Int) (a3 : Int) (Q : Mem → Prop) : Prop :=
  ((0 ≤ a1 ∧ a1 < 4) ∧ (F_X10_cut h (h 2 (a1).toNat) a3 (fun r4 h3 => ((0 ≤ a2 ∧ a2 < 60) ∧ (∀ h6 : Mem, h6 = mset h3 (4 + 1 + 1 * (a1).toNat) (a2).toNat r4 → Q h6)))))
set_option maxRecDepth 100000 in
set_option maxHeartbeats 4000000 in
theorem f_X10_put {h : Mem} {a1 : Int} {a2 : Int} {a3 : Int} {Q : Mem → Prop}  (hF : F_X10_put h a1 a2 a3 Q) : Ct yX10_put cX10_put 5 none (2, 67) [vr 1, (0, a1), (0, a2), (1, a3)] h (qv Q) := by
  refine Ct.of np_RX10 (Nat.le_of_ble_eq_true rfl) ?_
  unfold F_X10_put at hF
  show AW M_X10_put 0 [(0, vr 1), (1, (0, a1)), (2, (0, a2)), (3, (1, a3))] [] h (qv Q)
  refine aw_aload_n (j := 0) (M := M_X10_put) (pc := 0) dX10_put_0 rfl rfl ?_
  refine gf_X10_18 (M := M_X10_put) (pc := 1) rfl dX10_put_1 rfl (r := 4) rfl ?_
  refine aw_iload_n (j := 1) (M := M_X10_put) (pc := 4) dX10_put_4 rfl rfl ?_
  obtain ⟨o1, hF⟩ := hF
  refine aw_ald7 (M := M_X10_put) (pc := 5) dX10_put_5 rfl o1 ?_
  refine aw_iload_n (j := 2) (M := M_X10_put) (pc := 6) dX10_put_6 rfl rfl ?_
  refine aw_aload_n (j := 0) (M := M_X10_put) (pc := 7) dX10_put_7 rfl rfl ?_
  refine gf_X10_9 (M := M_X10_put) (pc := 8) rfl dX10_put_8 rfl (r := 2) rfl ?_
  refine aw_iload_n (j := 1) (M := M_X10_put) (pc := 11) dX10_put_11 rfl rfl ?_
  refine aw_iald (k := (a1).toNat) (M := M_X10_put) (pc := 12) dX10_put_12 rfl o1 rfl ?_
  refine aw_lload_n (j := 3) (M := M_X10_put) (pc := 13) dX10_put_13 rfl rfl ?_
  refine aw_csl (as := [(0, h 2 (a1).toNat), (1, a3)]) (st := [(0, a2), vr (4 + 1 + 1 * (a1).toNat)]) (M := M_X10_put) (pc := 14) (f_X10_cut  hF) dX10_put_14 rfl cy_X10_cut ml_X10_21 (by decide) (by decide) (Nat.le_of_ble_eq_true rfl) (fun r4 h3 hF => ?_)
  obtain ⟨o5, hF⟩ := hF
  refine aw_last (k := (a2).toNat) (M := M_X10_put) (pc := 17) dX10_put_17 (le_7 o1) o5 rfl ?_
  obtain ⟨h6, eh6⟩ : ∃ y : Mem, y = mset h3 (4 + 1 + 1 * (a1).toNat) (a2).toNat r4 := ⟨_, rfl⟩
  have hF := hF h6 eh6
  rw [← eh6]
  exact aw_ret (M := M_X10_put) (pc := 18) dX10_put_18 rfl ⟨rfl, hF⟩
