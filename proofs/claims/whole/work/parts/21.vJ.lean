abbrev M_J0_isLatin1_aae02 : Hd := (cJ0_isLatin1_aae02, 1, RJ0, (some .boolean), (1, 45), sc0)
def F_J0_isLatin1_aae02 (h : Mem)  (Q : Int → Mem → Prop) : Prop :=
  Q 1 h
set_option maxRecDepth 100000 in
set_option maxHeartbeats 4000000 in
theorem f_J0_isLatin1_aae02 {h : Mem}  {Q : Int → Mem → Prop}  (hF : F_J0_isLatin1_aae02 h  Q) : Ct yJ0_isLatin1_aae02 cJ0_isLatin1_aae02 1 (some .boolean) (1, 45) [vr 183] h (qi Q) := by
  refine Ct.of np_RJ0 (Nat.le_of_ble_eq_true rfl) ?_
  unfold F_J0_isLatin1_aae02 at hF
  show AW M_J0_isLatin1_aae02 0 [(0, vr 183)] [] h (qi Q)
  refine aw_compact (M := M_J0_isLatin1_aae02) (pc := 0) dJ0_isLatin1_aae02_0 fl_J0_38 ?_
  refine aw_if_eq (tgt := 17) (M := M_J0_isLatin1_aae02) (pc := 3) dJ0_isLatin1_aae02_3 rfl (fun hc => absurd hc (by decide)) (fun hc => ?_)
  refine aw_aload_n (j := 0) (M := M_J0_isLatin1_aae02) (pc := 6) dJ0_isLatin1_aae02_6 rfl rfl ?_
  refine aw_scoder (i := 1) (M := M_J0_isLatin1_aae02) (pc := 7) (by decide) dJ0_isLatin1_aae02_7 fl_J0_15 ?_
  refine aw_if_ne (tgt := 17) (M := M_J0_isLatin1_aae02) (pc := 10) dJ0_isLatin1_aae02_10 rfl (fun hc => absurd hc (by decide)) (fun hc => ?_)
  refine aw_iconst (M := M_J0_isLatin1_aae02) (pc := 13) dJ0_isLatin1_aae02_13 ⟨by decide, by decide⟩ ?_
  refine aw_goto (tgt := 18) (M := M_J0_isLatin1_aae02) (pc := 14) dJ0_isLatin1_aae02_14 rfl ?_
  exact aw_iretz (M := M_J0_isLatin1_aae02) (pc := 18) dJ0_isLatin1_aae02_18 rfl (Or.inr rfl) ⟨_, rfl, hF⟩
abbrev M_J3_checkIndex_8e157 : Hd := (cJ3_checkIndex_8e157, 3, RJ3, (some .int), (1, 45), sc0)
def F_J3_checkIndex_8e157 (h : Mem) (a1 : Int) (a2 : Int) (a3 : Int) (Q : Int → Mem → Prop) : Prop :=
  ((a1 < 0 → False) ∧ (¬ (a1 < 0) → ((a1 < a2 → Q a1 h) ∧ (¬ (a1 < a2) → False))))
set_option maxRecDepth 100000 in
set_option maxHeartbeats 4000000 in
theorem f_J3_checkIndex_8e157 {h : Mem} {a1 : Int} {a2 : Int} {a3 : Int} {Q : Int → Mem → Prop}  (hF : F_J3_checkIndex_8e157 h a1 a2 a3 Q) : Ct yJ3_checkIndex_8e157 cJ3_checkIndex_8e157 3 (some .int) (1, 45) [(0, a1), (0, a2), (2, a3)] h (qi Q) := by
  refine Ct.of np_RJ3 (Nat.le_of_ble_eq_true rfl) ?_
  unfold F_J3_checkIndex_8e157 at hF
  show AW M_J3_checkIndex_8e157 0 [(0, (0, a1)), (1, (0, a2)), (2, (2, a3))] [] h (qi Q)
  refine aw_iload_n (j := 0) (M := M_J3_checkIndex_8e157) (pc := 0) dJ3_checkIndex_8e157_0 rfl rfl ?_
  refine aw_if_lt (tgt := 9) (M := M_J3_checkIndex_8e157) (pc := 1) dJ3_checkIndex_8e157_1 rfl (fun hc => ?_) (fun hc => ?_)
  · have hF := hF.1 hc
    refine aw_aloadz_n (j := 2) (M := M_J3_checkIndex_8e157) (pc := 9) dJ3_checkIndex_8e157_9 rfl rfl ?_
    refine aw_iload_n (j := 0) (M := M_J3_checkIndex_8e157) (pc := 10) dJ3_checkIndex_8e157_10 rfl rfl ?_
    refine aw_iload_n (j := 1) (M := M_J3_checkIndex_8e157) (pc := 11) dJ3_checkIndex_8e157_11 rfl rfl ?_
    exact hF.elim
  · have hF := hF.2 hc
    refine aw_iload_n (j := 0) (M := M_J3_checkIndex_8e157) (pc := 4) dJ3_checkIndex_8e157_4 rfl rfl ?_
    refine aw_iload_n (j := 1) (M := M_J3_checkIndex_8e157) (pc := 5) dJ3_checkIndex_8e157_5 rfl rfl ?_
    refine aw_icmp_lt (tgt := 16) (M := M_J3_checkIndex_8e157) (pc := 6) dJ3_checkIndex_8e157_6 rfl (fun hc => ?_) (fun hc => ?_)
    · have hF := hF.1 hc
      refine aw_iload_n (j := 0) (M := M_J3_checkIndex_8e157) (pc := 16) dJ3_checkIndex_8e157_16 rfl rfl ?_
      exact aw_ireti (M := M_J3_checkIndex_8e157) (pc := 17) dJ3_checkIndex_8e157_17 rfl ⟨_, rfl, hF⟩
    · have hF := hF.2 hc
      refine aw_aloadz_n (j := 2) (M := M_J3_checkIndex_8e157) (pc := 9) dJ3_checkIndex_8e157_9 rfl rfl ?_
      refine aw_iload_n (j := 0) (M := M_J3_checkIndex_8e157) (pc := 10) dJ3_checkIndex_8e157_10 rfl rfl ?_
      refine aw_iload_n (j := 1) (M := M_J3_checkIndex_8e157) (pc := 11) dJ3_checkIndex_8e157_11 rfl rfl ?_
      exact hF.elim
abbrev M_J0_checkIndex_df160 : Hd := (cJ0_checkIndex_df160, 2, RJ0, none, (2, 67), sc0)
def F_J0_checkIndex_df160 (h : Mem) (a1 : Int) (a2 : Int) (Q : Mem → Prop) : Prop :=
  (∀ z1 : Int, (F_J3_checkIndex_8e157 h a1 a2 z1 (fun r3 h2 => Q h2)))
set_option maxRecDepth 100000 in
set_option maxHeartbeats 4000000 in
theorem f_J0_checkIndex_df160 {h : Mem} {a1 : Int} {a2 : Int} {Q : Mem → Prop}  (hF : F_J0_checkIndex_df160 h a1 a2 Q) : Ct yJ0_checkIndex_df160 cJ0_checkIndex_df160 2 none (2, 67) [(0, a1), (0, a2)] h (qv Q) := by
  refine Ct.of np_RJ0 (Nat.le_of_ble_eq_true rfl) ?_
  unfold F_J0_checkIndex_df160 at hF
  show AW M_J0_checkIndex_df160 0 [(0, (0, a1)), (1, (0, a2))] [] h (qv Q)
  refine aw_iload_n (j := 0) (M := M_J0_checkIndex_df160) (pc := 0) dJ0_checkIndex_df160_0 rfl rfl ?_
  refine aw_iload_n (j := 1) (M := M_J0_checkIndex_df160) (pc := 1) dJ0_checkIndex_df160_1 rfl rfl ?_
  refine aw_sioobe (M := M_J0_checkIndex_df160) (pc := 2) dJ0_checkIndex_df160_2 fl_J0_1053 (fun z1 => ?_)
  have hF := hF z1
  refine aw_csi (as := [(0, a1), (0, a2), (2, z1)]) (st := []) (M := M_J0_checkIndex_df160) (pc := 5) (f_J3_checkIndex_8e157  hF) dJ0_checkIndex_df160_5 rfl cy_J3_checkIndex_8e157 ml_J0_1059 (by decide) (by decide) (Nat.le_of_ble_eq_true rfl) (fun r3 h2 hF => ?_)
  refine aw_pop (M := M_J0_checkIndex_df160) (pc := 8) dJ0_checkIndex_df160_8 rfl ?_
  exact aw_ret (M := M_J0_checkIndex_df160) (pc := 9) dJ0_checkIndex_df160_9 rfl ⟨rfl, hF⟩
abbrev M_J1_charAt_3b067 : Hd := (cJ1_charAt_3b067, 2, RJ1, (some .char), (3, 88), sc0)
def F_J1_charAt_3b067 (h : Mem) (a2 : Int) (Q : Int → Mem → Prop) : Prop :=
  (F_J0_checkIndex_df160 h a2 ((strL.getD 1 0 : Nat) : Int) (fun h1 => ((0 ≤ a2 ∧ a2 < ((strL.getD 1 0 : Nat) : Int)) ∧ ((0 ≤ (i2c (iand (((strB.getD 1 []).getD (a2).toNat 0).toInt) 255)) ∧ (i2c (iand (((strB.getD 1 []).getD (a2).toNat 0).toInt) 255)) < 65536) ∧ Q (i2c (iand (((strB.getD 1 []).getD (a2).toNat 0).toInt) 255)) h1))))
set_option maxRecDepth 100000 in
set_option maxHeartbeats 4000000 in
theorem f_J1_charAt_3b067 {h : Mem} {a2 : Int} {Q : Int → Mem → Prop}  (hF : F_J1_charAt_3b067 h a2 Q) : Ct yJ1_charAt_3b067 cJ1_charAt_3b067 2 (some .char) (3, 88) [vr 185, (0, a2)] h (qi Q) := by
  refine Ct.of np_RJ1 (Nat.le_of_ble_eq_true rfl) ?_
  unfold F_J1_charAt_3b067 at hF
  show AW M_J1_charAt_3b067 0 [(0, vr 185), (1, (0, a2))] [] h (qi Q)
  refine aw_iload_n (j := 1) (M := M_J1_charAt_3b067) (pc := 0) dJ1_charAt_3b067_0 rfl rfl ?_
  refine aw_aload_n (j := 0) (M := M_J1_charAt_3b067) (pc := 1) dJ1_charAt_3b067_1 rfl rfl ?_
  refine aw_slen (i := 1) (M := M_J1_charAt_3b067) (pc := 2) (by decide) dJ1_charAt_3b067_2 ?_
  refine aw_csv (as := [(0, a2), (0, ((strL.getD 1 0 : Nat) : Int))]) (st := []) (M := M_J1_charAt_3b067) (pc := 3) (f_J0_checkIndex_df160  hF) dJ1_charAt_3b067_3 rfl cy_J0_checkIndex_df160 ml_J1_9 (by decide) (by decide) (Nat.le_of_ble_eq_true rfl) (fun h1 hF => ?_)
  refine aw_aload_n (j := 0) (M := M_J1_charAt_3b067) (pc := 6) dJ1_charAt_3b067_6 rfl rfl ?_
  refine aw_iload_n (j := 1) (M := M_J1_charAt_3b067) (pc := 7) dJ1_charAt_3b067_7 rfl rfl ?_
  obtain ⟨o3, hF⟩ := hF
  refine aw_sbyte (i := 1) (M := M_J1_charAt_3b067) (pc := 8) (by decide) dJ1_charAt_3b067_8 o3 ?_
  refine aw_sipush (M := M_J1_charAt_3b067) (pc := 9) dJ1_charAt_3b067_9 ⟨rfl, ⟨by decide, by decide⟩⟩ ?_
  refine aw_iand (M := M_J1_charAt_3b067) (pc := 12) dJ1_charAt_3b067_12 ?_
  refine aw_i2c (M := M_J1_charAt_3b067) (pc := 13) dJ1_charAt_3b067_13 ?_
  exact aw_iretc (M := M_J1_charAt_3b067) (pc := 14) dJ1_charAt_3b067_14 rfl hF.1 ⟨_, rfl, hF.2⟩
abbrev M_J0_charAt_5068e : Hd := (cJ0_charAt_5068e, 2, RJ0, (some .char), (4, 109), sc0)
def F_J0_charAt_5068e (h : Mem) (a1 : Int) (Q : Int → Mem → Prop) : Prop :=
  (F_J0_isLatin1_aae02 h  (fun r2 h1 => ((r2 = 0 → False) ∧ (¬ (r2 = 0) → (F_J1_charAt_3b067 h1 a1 (fun r4 h3 => ((0 ≤ r4 ∧ r4 < 65536) ∧ Q r4 h3)))))))
set_option maxRecDepth 100000 in
set_option maxHeartbeats 4000000 in
theorem f_J0_charAt_5068e {h : Mem} {a1 : Int} {Q : Int → Mem → Prop}  (hF : F_J0_charAt_5068e h a1 Q) : Ct yJ0_charAt_5068e cJ0_charAt_5068e 2 (some .char) (4, 109) [vr 183, (0, a1)] h (qi Q) := by
  refine Ct.of np_RJ0 (Nat.le_of_ble_eq_true rfl) ?_
  unfold F_J0_charAt_5068e at hF
  show AW M_J0_charAt_5068e 0 [(0, vr 183), (1, (0, a1))] [] h (qi Q)
  refine aw_aload_n (j := 0) (M := M_J0_charAt_5068e) (pc := 0) dJ0_charAt_5068e_0 rfl rfl ?_
  refine aw_cvi (as := []) (st := []) (M := M_J0_charAt_5068e) (pc := 1) (f_J0_isLatin1_aae02  hF) dJ0_charAt_5068e_1 rfl (Or.inr ⟨rfl, Or.inr rfl⟩) cy_J0_isLatin1_aae02 ml_J0_492 (by decide) (by decide) (Nat.le_of_ble_eq_true rfl) (fun r2 h1 hF => ?_)
  refine aw_if_eq (tgt := 16) (M := M_J0_charAt_5068e) (pc := 4) dJ0_charAt_5068e_4 rfl (fun hc => ?_) (fun hc => ?_)
  · have hF := hF.1 hc
    refine aw_aload_n (j := 0) (M := M_J0_charAt_5068e) (pc := 16) dJ0_charAt_5068e_16 rfl rfl ?_
    refine aw_svalue (i := 1) (M := M_J0_charAt_5068e) (pc := 17) (by decide) dJ0_charAt_5068e_17 fl_J0_9 ?_
    refine aw_iload_n (j := 1) (M := M_J0_charAt_5068e) (pc := 20) dJ0_charAt_5068e_20 rfl rfl ?_
    exact hF.elim
  · have hF := hF.2 hc
    refine aw_aload_n (j := 0) (M := M_J0_charAt_5068e) (pc := 7) dJ0_charAt_5068e_7 rfl rfl ?_
    refine aw_svalue (i := 1) (M := M_J0_charAt_5068e) (pc := 8) (by decide) dJ0_charAt_5068e_8 fl_J0_9 ?_
    refine aw_iload_n (j := 1) (M := M_J0_charAt_5068e) (pc := 11) dJ0_charAt_5068e_11 rfl rfl ?_
    refine aw_csi (as := [vr 185, (0, a1)]) (st := []) (M := M_J0_charAt_5068e) (pc := 12) (f_J1_charAt_3b067  hF) dJ0_charAt_5068e_12 rfl cy_J1_charAt_3b067 ml_J0_495 (by decide) (by decide) (Nat.le_of_ble_eq_true rfl) (fun r4 h3 hF => ?_)
    exact aw_iretc (M := M_J0_charAt_5068e) (pc := 15) dJ0_charAt_5068e_15 rfl hF.1 ⟨_, rfl, hF.2⟩
abbrev M_J0_coder_7d493 : Hd := (cJ0_coder_7d493, 1, RJ0, (some .byte), (1, 45), sc0)
def F_J0_coder_7d493 (h : Mem)  (Q : Int → Mem → Prop) : Prop :=
  (InB 0 ∧ Q 0 h)
set_option maxRecDepth 100000 in
set_option maxHeartbeats 4000000 in
theorem f_J0_coder_7d493 {h : Mem}  {Q : Int → Mem → Prop}  (hF : F_J0_coder_7d493 h  Q) : Ct yJ0_coder_7d493 cJ0_coder_7d493 1 (some .byte) (1, 45) [vr 183] h (qi Q) := by
  refine Ct.of np_RJ0 (Nat.le_of_ble_eq_true rfl) ?_
  unfold F_J0_coder_7d493 at hF
  show AW M_J0_coder_7d493 0 [(0, vr 183)] [] h (qi Q)
  refine aw_compact (M := M_J0_coder_7d493) (pc := 0) dJ0_coder_7d493_0 fl_J0_38 ?_
  refine aw_if_eq (tgt := 13) (M := M_J0_coder_7d493) (pc := 3) dJ0_coder_7d493_3 rfl (fun hc => absurd hc (by decide)) (fun hc => ?_)
  refine aw_aload_n (j := 0) (M := M_J0_coder_7d493) (pc := 6) dJ0_coder_7d493_6 rfl rfl ?_
  refine aw_scoder (i := 1) (M := M_J0_coder_7d493) (pc := 7) (by decide) dJ0_coder_7d493_7 fl_J0_15 ?_
  refine aw_goto (tgt := 14) (M := M_J0_coder_7d493) (pc := 10) dJ0_coder_7d493_10 rfl ?_
  exact aw_iretb (M := M_J0_coder_7d493) (pc := 14) dJ0_coder_7d493_14 rfl hF.1 ⟨_, rfl, hF.2⟩
abbrev M_J0_length_8abf5 : Hd := (cJ0_length_8abf5, 1, RJ0, (some .int), (2, 65), sc0)
def F_J0_length_8abf5 (h : Mem)  (Q : Int → Mem → Prop) : Prop :=
  (F_J0_coder_7d493 h  (fun r2 h1 => Q (ishr ((strL.getD 1 0 : Nat) : Int) r2) h1))
set_option maxRecDepth 100000 in
set_option maxHeartbeats 4000000 in
theorem f_J0_length_8abf5 {h : Mem}  {Q : Int → Mem → Prop}  (hF : F_J0_length_8abf5 h  Q) : Ct yJ0_length_8abf5 cJ0_length_8abf5 1 (some .int) (2, 65) [vr 183] h (qi Q) := by
  refine Ct.of np_RJ0 (Nat.le_of_ble_eq_true rfl) ?_
  unfold F_J0_length_8abf5 at hF
  show AW M_J0_length_8abf5 0 [(0, vr 183)] [] h (qi Q)
  refine aw_aload_n (j := 0) (M := M_J0_length_8abf5) (pc := 0) dJ0_length_8abf5_0 rfl rfl ?_
  refine aw_svalue (i := 1) (M := M_J0_length_8abf5) (pc := 1) (by decide) dJ0_length_8abf5_1 fl_J0_9 ?_
  refine aw_slen (i := 1) (M := M_J0_length_8abf5) (pc := 4) (by decide) dJ0_length_8abf5_4 ?_
  refine aw_aload_n (j := 0) (M := M_J0_length_8abf5) (pc := 5) dJ0_length_8abf5_5 rfl rfl ?_
  refine aw_cvi (as := []) (st := [(0, ((strL.getD 1 0 : Nat) : Int))]) (M := M_J0_length_8abf5) (pc := 6) (f_J0_coder_7d493  hF) dJ0_length_8abf5_6 rfl (Or.inr ⟨rfl, Or.inr rfl⟩) cy_J0_coder_7d493 ml_J0_335 (by decide) (by decide) (Nat.le_of_ble_eq_true rfl) (fun r2 h1 hF => ?_)
  refine aw_ishr (M := M_J0_length_8abf5) (pc := 9) dJ0_length_8abf5_9 ?_
  exact aw_ireti (M := M_J0_length_8abf5) (pc := 10) dJ0_length_8abf5_10 rfl ⟨_, rfl, hF⟩
abbrev M_J6_bitCount_0f7a4 : Hd := (cJ6_bitCount_0f7a4, 1, RJ6, (some .int), (1, 45), sc0)
def F_J6_bitCount_0f7a4 (h : Mem) (a1 : Int) (Q : Int → Mem → Prop) : Prop :=
  (InR (a1 - (iand (iushr a1 1) 1431655765)) ∧ (∀ x2 : Int, x2 = a1 - (iand (iushr a1 1) 1431655765) → (InR ((iand x2 858993459) + (iand (iushr x2 2) 858993459)) ∧ (∀ x4 : Int, x4 = (iand x2 858993459) + (iand (iushr x2 2) 858993459) → (InR (x4 + (iushr x4 4)) ∧ (∀ x6 : Int, x6 = iand (x4 + (iushr x4 4)) 252645135 → (InR (x6 + (iushr x6 8)) ∧ (∀ x8 : Int, x8 = x6 + (iushr x6 8) → (InR (x8 + (iushr x8 16)) ∧ (∀ x10 : Int, x10 = x8 + (iushr x8 16) → Q (iand x10 63) h))))))))))
set_option maxRecDepth 100000 in
set_option maxHeartbeats 4000000 in
theorem f_J6_bitCount_0f7a4 {h : Mem} {a1 : Int} {Q : Int → Mem → Prop}  (hF : F_J6_bitCount_0f7a4 h a1 Q) : Ct yJ6_bitCount_0f7a4 cJ6_bitCount_0f7a4 1 (some .int) (1, 45) [(0, a1)] h (qi Q) := by
  refine Ct.of np_RJ6 (Nat.le_of_ble_eq_true rfl) ?_
  unfold F_J6_bitCount_0f7a4 at hF
  show AW M_J6_bitCount_0f7a4 0 [(0, (0, a1))] [] h (qi Q)
  refine aw_iload_n (j := 0) (M := M_J6_bitCount_0f7a4) (pc := 0) dJ6_bitCount_0f7a4_0 rfl rfl ?_
  refine aw_iload_n (j := 0) (M := M_J6_bitCount_0f7a4) (pc := 1) dJ6_bitCount_0f7a4_1 rfl rfl ?_
  refine aw_iconst (M := M_J6_bitCount_0f7a4) (pc := 2) dJ6_bitCount_0f7a4_2 ⟨by decide, by decide⟩ ?_
  refine aw_iushr (M := M_J6_bitCount_0f7a4) (pc := 3) dJ6_bitCount_0f7a4_3 ?_
  refine aw_ldcw (v := 1431655765) (M := M_J6_bitCount_0f7a4) (pc := 4) dJ6_bitCount_0f7a4_4 kc_J6_265 ⟨by decide, by decide⟩ ?_
  refine aw_iand (M := M_J6_bitCount_0f7a4) (pc := 7) dJ6_bitCount_0f7a4_7 ?_
  obtain ⟨o1, hF⟩ := hF
  refine aw_isub (M := M_J6_bitCount_0f7a4) (pc := 8) dJ6_bitCount_0f7a4_8 rfl o1 ?_
  obtain ⟨x2, ex2⟩ : ∃ y : Int, y = a1 - (iand (iushr a1 1) 1431655765) := ⟨_, rfl⟩
  have hF := hF x2 ex2
  rw [← ex2]
  refine aw_istore_n (ls' := [(0, (0, x2))]) (M := M_J6_bitCount_0f7a4) (pc := 9) dJ6_bitCount_0f7a4_9 rfl (by decide) rfl ?_
  refine aw_iload_n (j := 0) (M := M_J6_bitCount_0f7a4) (pc := 10) dJ6_bitCount_0f7a4_10 rfl rfl ?_
  refine aw_ldcw (v := 858993459) (M := M_J6_bitCount_0f7a4) (pc := 11) dJ6_bitCount_0f7a4_11 kc_J6_266 ⟨by decide, by decide⟩ ?_
  refine aw_iand (M := M_J6_bitCount_0f7a4) (pc := 14) dJ6_bitCount_0f7a4_14 ?_
  refine aw_iload_n (j := 0) (M := M_J6_bitCount_0f7a4) (pc := 15) dJ6_bitCount_0f7a4_15 rfl rfl ?_
  refine aw_iconst (M := M_J6_bitCount_0f7a4) (pc := 16) dJ6_bitCount_0f7a4_16 ⟨by decide, by decide⟩ ?_
  refine aw_iushr (M := M_J6_bitCount_0f7a4) (pc := 17) dJ6_bitCount_0f7a4_17 ?_
  refine aw_ldcw (v := 858993459) (M := M_J6_bitCount_0f7a4) (pc := 18) dJ6_bitCount_0f7a4_18 kc_J6_266 ⟨by decide, by decide⟩ ?_
  refine aw_iand (M := M_J6_bitCount_0f7a4) (pc := 21) dJ6_bitCount_0f7a4_21 ?_
  obtain ⟨o3, hF⟩ := hF
  refine aw_iadd (M := M_J6_bitCount_0f7a4) (pc := 22) dJ6_bitCount_0f7a4_22 rfl o3 ?_
  obtain ⟨x4, ex4⟩ : ∃ y : Int, y = (iand x2 858993459) + (iand (iushr x2 2) 858993459) := ⟨_, rfl⟩
  have hF := hF x4 ex4
  rw [← ex4]
  refine aw_istore_n (ls' := [(0, (0, x4))]) (M := M_J6_bitCount_0f7a4) (pc := 23) dJ6_bitCount_0f7a4_23 rfl (by decide) rfl ?_
  refine aw_iload_n (j := 0) (M := M_J6_bitCount_0f7a4) (pc := 24) dJ6_bitCount_0f7a4_24 rfl rfl ?_
  refine aw_iload_n (j := 0) (M := M_J6_bitCount_0f7a4) (pc := 25) dJ6_bitCount_0f7a4_25 rfl rfl ?_
  refine aw_iconst (M := M_J6_bitCount_0f7a4) (pc := 26) dJ6_bitCount_0f7a4_26 ⟨by decide, by decide⟩ ?_
  refine aw_iushr (M := M_J6_bitCount_0f7a4) (pc := 27) dJ6_bitCount_0f7a4_27 ?_
  obtain ⟨o5, hF⟩ := hF
  refine aw_iadd (M := M_J6_bitCount_0f7a4) (pc := 28) dJ6_bitCount_0f7a4_28 rfl o5 ?_
  refine aw_ldcw (v := 252645135) (M := M_J6_bitCount_0f7a4) (pc := 29) dJ6_bitCount_0f7a4_29 kc_J6_267 ⟨by decide, by decide⟩ ?_
  refine aw_iand (M := M_J6_bitCount_0f7a4) (pc := 32) dJ6_bitCount_0f7a4_32 ?_
  obtain ⟨x6, ex6⟩ : ∃ y : Int, y = iand (x4 + (iushr x4 4)) 252645135 := ⟨_, rfl⟩
  have hF := hF x6 ex6
  rw [← ex6]
  refine aw_istore_n (ls' := [(0, (0, x6))]) (M := M_J6_bitCount_0f7a4) (pc := 33) dJ6_bitCount_0f7a4_33 rfl (by decide) rfl ?_
  refine aw_iload_n (j := 0) (M := M_J6_bitCount_0f7a4) (pc := 34) dJ6_bitCount_0f7a4_34 rfl rfl ?_
  refine aw_iload_n (j := 0) (M := M_J6_bitCount_0f7a4) (pc := 35) dJ6_bitCount_0f7a4_35 rfl rfl ?_
  refine aw_bipush (M := M_J6_bitCount_0f7a4) (pc := 36) dJ6_bitCount_0f7a4_36 ⟨rfl, ⟨by decide, by decide⟩⟩ ?_
  refine aw_iushr (M := M_J6_bitCount_0f7a4) (pc := 38) dJ6_bitCount_0f7a4_38 ?_
  obtain ⟨o7, hF⟩ := hF
  refine aw_iadd (M := M_J6_bitCount_0f7a4) (pc := 39) dJ6_bitCount_0f7a4_39 rfl o7 ?_
  obtain ⟨x8, ex8⟩ : ∃ y : Int, y = x6 + (iushr x6 8) := ⟨_, rfl⟩
  have hF := hF x8 ex8
  rw [← ex8]
  refine aw_istore_n (ls' := [(0, (0, x8))]) (M := M_J6_bitCount_0f7a4) (pc := 40) dJ6_bitCount_0f7a4_40 rfl (by decide) rfl ?_
  refine aw_iload_n (j := 0) (M := M_J6_bitCount_0f7a4) (pc := 41) dJ6_bitCount_0f7a4_41 rfl rfl ?_
  refine aw_iload_n (j := 0) (M := M_J6_bitCount_0f7a4) (pc := 42) dJ6_bitCount_0f7a4_42 rfl rfl ?_
  refine aw_bipush (M := M_J6_bitCount_0f7a4) (pc := 43) dJ6_bitCount_0f7a4_43 ⟨rfl, ⟨by decide, by decide⟩⟩ ?_
  refine aw_iushr (M := M_J6_bitCount_0f7a4) (pc := 45) dJ6_bitCount_0f7a4_45 ?_
  obtain ⟨o9, hF⟩ := hF
  refine aw_iadd (M := M_J6_bitCount_0f7a4) (pc := 46) dJ6_bitCount_0f7a4_46 rfl o9 ?_
  obtain ⟨x10, ex10⟩ : ∃ y : Int, y = x8 + (iushr x8 16) := ⟨_, rfl⟩
  have hF := hF x10 ex10
  rw [← ex10]
  refine aw_istore_n (ls' := [(0, (0, x10))]) (M := M_J6_bitCount_0f7a4) (pc := 47) dJ6_bitCount_0f7a4_47 rfl (by decide) rfl ?_
  refine aw_iload_n (j := 0) (M := M_J6_bitCount_0f7a4) (pc := 48) dJ6_bitCount_0f7a4_48 rfl rfl ?_
  refine aw_bipush (M := M_J6_bitCount_0f7a4) (pc := 49) dJ6_bitCount_0f7a4_49 ⟨rfl, ⟨by decide, by decide⟩⟩ ?_
  refine aw_iand (M := M_J6_bitCount_0f7a4) (pc := 51) dJ6_bitCount_0f7a4_51 ?_
  exact aw_ireti (M := M_J6_bitCount_0f7a4) (pc := 52) dJ6_bitCount_0f7a4_52 rfl ⟨_, rfl, hF⟩
