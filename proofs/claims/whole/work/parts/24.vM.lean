abbrev M_X12_byteAt : Hd := (cX12_byteAt, 2, RX12, (some .int), (1, 45), sc0)
def F_X12_byteAt (h : Mem) (a1 : Int) (Q : Int → Mem → Prop) : Prop :=
  (((h 161 11) ≤ a1 → Q (-1) h) ∧ (¬ ((h 161 11) ≤ a1) → ((0 ≤ a1 ∧ a1 < 900) ∧ Q (iand (h 168 (a1).toNat) 255) h)))
set_option maxRecDepth 100000 in
set_option maxHeartbeats 4000000 in
theorem f_X12_byteAt {h : Mem} {a1 : Int} {Q : Int → Mem → Prop}  (hF : F_X12_byteAt h a1 Q) : Ct yX12_byteAt cX12_byteAt 2 (some .int) (1, 45) [vr 161, (0, a1)] h (qi Q) := by
  refine Ct.of np_RX12 (Nat.le_of_ble_eq_true rfl) ?_
  unfold F_X12_byteAt at hF
  show AW M_X12_byteAt 0 [(0, vr 161), (1, (0, a1))] [] h (qi Q)
  refine aw_iload_n (j := 1) (M := M_X12_byteAt) (pc := 0) dX12_byteAt_0 rfl rfl ?_
  refine aw_aload_n (j := 0) (M := M_X12_byteAt) (pc := 1) dX12_byteAt_1 rfl rfl ?_
  refine gf_X12_121 (M := M_X12_byteAt) (pc := 2) rfl dX12_byteAt_2 rfl ?_
  refine aw_icmp_ge (tgt := 21) (M := M_X12_byteAt) (pc := 5) dX12_byteAt_5 rfl (fun hc => ?_) (fun hc => ?_)
  · have hF := hF.1 hc
    refine aw_iconst (M := M_X12_byteAt) (pc := 21) dX12_byteAt_21 ⟨by decide, by decide⟩ ?_
    exact aw_ireti (M := M_X12_byteAt) (pc := 22) dX12_byteAt_22 rfl ⟨_, rfl, hF⟩
  · have hF := hF.2 hc
    refine aw_aload_n (j := 0) (M := M_X12_byteAt) (pc := 8) dX12_byteAt_8 rfl rfl ?_
    refine gf_X12_34 (M := M_X12_byteAt) (pc := 9) rfl dX12_byteAt_9 rfl (r := 168) rfl ?_
    refine aw_iload_n (j := 1) (M := M_X12_byteAt) (pc := 12) dX12_byteAt_12 rfl rfl ?_
    obtain ⟨o2, hF⟩ := hF
    refine aw_bald (k := (a1).toNat) (M := M_X12_byteAt) (pc := 13) dX12_byteAt_13 rfl o2 rfl ?_
    refine aw_sipush (M := M_X12_byteAt) (pc := 14) dX12_byteAt_14 ⟨rfl, ⟨by decide, by decide⟩⟩ ?_
    refine aw_iand (M := M_X12_byteAt) (pc := 17) dX12_byteAt_17 ?_
    refine aw_goto (tgt := 22) (M := M_X12_byteAt) (pc := 18) dX12_byteAt_18 rfl ?_
    exact aw_ireti (M := M_X12_byteAt) (pc := 22) dX12_byteAt_22 rfl ⟨_, rfl, hF⟩
abbrev M_X12_isDigit : Hd := (cX12_isDigit, 1, RX12, (some .boolean), (1, 45), sc0)
def F_X12_isDigit (h : Mem) (a1 : Int) (Q : Int → Mem → Prop) : Prop :=
  ((a1 < 48 → Q 0 h) ∧ (¬ (a1 < 48) → ((57 < a1 → Q 0 h) ∧ (¬ (57 < a1) → Q 1 h))))
set_option maxRecDepth 100000 in
set_option maxHeartbeats 4000000 in
theorem f_X12_isDigit {h : Mem} {a1 : Int} {Q : Int → Mem → Prop}  (hF : F_X12_isDigit h a1 Q) : Ct yX12_isDigit cX12_isDigit 1 (some .boolean) (1, 45) [(0, a1)] h (qi Q) := by
  refine Ct.of np_RX12 (Nat.le_of_ble_eq_true rfl) ?_
  unfold F_X12_isDigit at hF
  show AW M_X12_isDigit 0 [(0, (0, a1))] [] h (qi Q)
  refine aw_iload_n (j := 0) (M := M_X12_isDigit) (pc := 0) dX12_isDigit_0 rfl rfl ?_
  refine aw_bipush (M := M_X12_isDigit) (pc := 1) dX12_isDigit_1 ⟨rfl, ⟨by decide, by decide⟩⟩ ?_
  refine aw_icmp_lt (tgt := 16) (M := M_X12_isDigit) (pc := 3) dX12_isDigit_3 rfl (fun hc => ?_) (fun hc => ?_)
  · have hF := hF.1 hc
    refine aw_iconst (M := M_X12_isDigit) (pc := 16) dX12_isDigit_16 ⟨by decide, by decide⟩ ?_
    exact aw_iretz (M := M_X12_isDigit) (pc := 17) dX12_isDigit_17 rfl (Or.inl rfl) ⟨_, rfl, hF⟩
  · have hF := hF.2 hc
    refine aw_iload_n (j := 0) (M := M_X12_isDigit) (pc := 6) dX12_isDigit_6 rfl rfl ?_
    refine aw_bipush (M := M_X12_isDigit) (pc := 7) dX12_isDigit_7 ⟨rfl, ⟨by decide, by decide⟩⟩ ?_
    refine aw_icmp_gt (tgt := 16) (M := M_X12_isDigit) (pc := 9) dX12_isDigit_9 rfl (fun hc => ?_) (fun hc => ?_)
    · have hF := hF.1 hc
      refine aw_iconst (M := M_X12_isDigit) (pc := 16) dX12_isDigit_16 ⟨by decide, by decide⟩ ?_
      exact aw_iretz (M := M_X12_isDigit) (pc := 17) dX12_isDigit_17 rfl (Or.inl rfl) ⟨_, rfl, hF⟩
    · have hF := hF.2 hc
      refine aw_iconst (M := M_X12_isDigit) (pc := 12) dX12_isDigit_12 ⟨by decide, by decide⟩ ?_
      refine aw_goto (tgt := 17) (M := M_X12_isDigit) (pc := 13) dX12_isDigit_13 rfl ?_
      exact aw_iretz (M := M_X12_isDigit) (pc := 17) dX12_isDigit_17 rfl (Or.inr rfl) ⟨_, rfl, hF⟩
abbrev M_X12_isSmall : Hd := (cX12_isSmall, 1, RX12, (some .boolean), (1, 45), sc0)
def F_X12_isSmall (h : Mem) (a1 : Int) (Q : Int → Mem → Prop) : Prop :=
  ((a1 < 97 → Q 0 h) ∧ (¬ (a1 < 97) → ((122 < a1 → Q 0 h) ∧ (¬ (122 < a1) → Q 1 h))))
set_option maxRecDepth 100000 in
set_option maxHeartbeats 4000000 in
theorem f_X12_isSmall {h : Mem} {a1 : Int} {Q : Int → Mem → Prop}  (hF : F_X12_isSmall h a1 Q) : Ct yX12_isSmall cX12_isSmall 1 (some .boolean) (1, 45) [(0, a1)] h (qi Q) := by
  refine Ct.of np_RX12 (Nat.le_of_ble_eq_true rfl) ?_
  unfold F_X12_isSmall at hF
  show AW M_X12_isSmall 0 [(0, (0, a1))] [] h (qi Q)
  refine aw_iload_n (j := 0) (M := M_X12_isSmall) (pc := 0) dX12_isSmall_0 rfl rfl ?_
  refine aw_bipush (M := M_X12_isSmall) (pc := 1) dX12_isSmall_1 ⟨rfl, ⟨by decide, by decide⟩⟩ ?_
  refine aw_icmp_lt (tgt := 16) (M := M_X12_isSmall) (pc := 3) dX12_isSmall_3 rfl (fun hc => ?_) (fun hc => ?_)
  · have hF := hF.1 hc
    refine aw_iconst (M := M_X12_isSmall) (pc := 16) dX12_isSmall_16 ⟨by decide, by decide⟩ ?_
    exact aw_iretz (M := M_X12_isSmall) (pc := 17) dX12_isSmall_17 rfl (Or.inl rfl) ⟨_, rfl, hF⟩
  · have hF := hF.2 hc
    refine aw_iload_n (j := 0) (M := M_X12_isSmall) (pc := 6) dX12_isSmall_6 rfl rfl ?_
    refine aw_bipush (M := M_X12_isSmall) (pc := 7) dX12_isSmall_7 ⟨rfl, ⟨by decide, by decide⟩⟩ ?_
    refine aw_icmp_gt (tgt := 16) (M := M_X12_isSmall) (pc := 9) dX12_isSmall_9 rfl (fun hc => ?_) (fun hc => ?_)
    · have hF := hF.1 hc
      refine aw_iconst (M := M_X12_isSmall) (pc := 16) dX12_isSmall_16 ⟨by decide, by decide⟩ ?_
      exact aw_iretz (M := M_X12_isSmall) (pc := 17) dX12_isSmall_17 rfl (Or.inl rfl) ⟨_, rfl, hF⟩
    · have hF := hF.2 hc
      refine aw_iconst (M := M_X12_isSmall) (pc := 12) dX12_isSmall_12 ⟨by decide, by decide⟩ ?_
      refine aw_goto (tgt := 17) (M := M_X12_isSmall) (pc := 13) dX12_isSmall_13 rfl ?_
      exact aw_iretz (M := M_X12_isSmall) (pc := 17) dX12_isSmall_17 rfl (Or.inr rfl) ⟨_, rfl, hF⟩
abbrev M_X12_ahead : Hd := (cX12_ahead, 2, RX12, none, (2, 66), sc0)
def L_X12_ahead_0 (h : Mem)  (Q : Mem → Prop) : Prop := AW M_X12_ahead 0 [(0, vr 161)] [] h (qv Q)
def L_X12_ahead_81 (h : Mem)  (Q : Mem → Prop) : Prop := AW M_X12_ahead 81 [(0, vr 161)] [] h (qv Q)
def L_X12_ahead_128 (h : Mem)  (Q : Mem → Prop) : Prop := AW M_X12_ahead 128 [(0, vr 161)] [] h (qv Q)
def B_X12_ahead_0 (h : Mem)  (Q : Mem → Prop) : Prop :=
  (F_X12_byteAt h (h 161 14) (fun r2 h1 => ((r2 = 32 → (InR ((h1 161 14) + 1) ∧ (∀ h4 : Mem, h4 = mset h1 161 14 ((h1 161 14) + 1) → L_X12_ahead_0 h4  Q))) ∧ (¬ (r2 = 32) → (F_X12_byteAt h1 (h1 161 14) (fun r6 h5 => ((¬ (r6 = 10) → (∀ h7 : Mem, h7 = mset h5 161 13 (h5 161 14) → (F_X12_byteAt h7 (h7 161 14) (fun r9 h8 => (∀ h10 : Mem, h10 = mset h8 161 15 r9 → ((¬ (r9 = (-1)) → (F_X12_isSmall h10 r9 (fun r12 h11 => ((r12 = 0 → (F_X12_isDigit h11 r9 (fun r14 h13 => ((r14 = 0 → (InR ((h13 161 14) + 1) ∧ (∀ h16 : Mem, h16 = mset h13 161 14 ((h13 161 14) + 1) → ((r9 = 59 → (∀ h17 : Mem, h17 = mset h16 161 12 4 → Q h17)) ∧ (¬ (r9 = 59) → ((r9 = 60 → (∀ h18 : Mem, h18 = mset h16 161 12 4 → Q h18)) ∧ (¬ (r9 = 60) → ((r9 = 62 → (∀ h19 : Mem, h19 = mset h16 161 12 4 → Q h19)) ∧ (¬ (r9 = 62) → ((¬ (r9 = 61) → (∀ h20 : Mem, h20 = mset h16 161 12 1 → Q h20)) ∧ (r9 = 61 → (∀ h21 : Mem, h21 = mset h16 161 12 4 → Q h21)))))))))))) ∧ (¬ (r14 = 0) → (∀ h22 : Mem, h22 = mset h13 161 15 0 → L_X12_ahead_128 h22  Q)))))) ∧ (¬ (r12 = 0) → L_X12_ahead_81 h11  Q))))) ∧ (r9 = (-1) → (∀ h23 : Mem, h23 = mset h10 161 12 0 → Q h23)))))))) ∧ (r6 = 10 → (InR ((h5 161 14) + 1) ∧ (∀ h25 : Mem, h25 = mset h5 161 14 ((h5 161 14) + 1) → L_X12_ahead_0 h25  Q))))))))))
set_option maxRecDepth 100000 in
set_option maxHeartbeats 4000000 in
theorem l_X12_ahead_0 {h : Mem}  {Q : Mem → Prop}  (hF : B_X12_ahead_0 h  Q) : L_X12_ahead_0 h  Q := by
  unfold B_X12_ahead_0 at hF
  show AW M_X12_ahead 0 [(0, vr 161)] [] h (qv Q)
  refine aw_aload_n (j := 0) (M := M_X12_ahead) (pc := 0) dX12_ahead_0 rfl rfl ?_
  refine aw_aload_n (j := 0) (M := M_X12_ahead) (pc := 1) dX12_ahead_1 rfl rfl ?_
  refine gf_X12_124 (M := M_X12_ahead) (pc := 2) rfl dX12_ahead_2 rfl ?_
  refine aw_cvi (as := [(0, h 161 14)]) (st := []) (M := M_X12_ahead) (pc := 5) (f_X12_byteAt  hF) dX12_ahead_5 rfl (Or.inl ⟨_, _, _, rfl, rfl⟩) cy_X12_byteAt ml_X12_127 (by decide) (by decide) (Nat.le_of_ble_eq_true rfl) (fun r2 h1 hF => ?_)
  refine aw_bipush (M := M_X12_ahead) (pc := 8) dX12_ahead_8 ⟨rfl, ⟨by decide, by decide⟩⟩ ?_
  refine aw_icmp_eq (tgt := 26) (M := M_X12_ahead) (pc := 10) dX12_ahead_10 rfl (fun hc => ?_) (fun hc => ?_)
  · have hF := hF.1 hc
    refine aw_aload_n (j := 0) (M := M_X12_ahead) (pc := 26) dX12_ahead_26 rfl rfl ?_
    refine aw_dup (M := M_X12_ahead) (pc := 27) dX12_ahead_27 rfl ?_
    refine gf_X12_124 (M := M_X12_ahead) (pc := 28) rfl dX12_ahead_28 rfl ?_
    refine aw_iconst (M := M_X12_ahead) (pc := 31) dX12_ahead_31 ⟨by decide, by decide⟩ ?_
    obtain ⟨o3, hF⟩ := hF
    refine aw_iadd (M := M_X12_ahead) (pc := 32) dX12_ahead_32 rfl o3 ?_
    refine pf_X12_124 (M := M_X12_ahead) (pc := 33) rfl dX12_ahead_33 rfl ?_
    obtain ⟨h4, eh4⟩ : ∃ y : Mem, y = mset h1 161 14 ((h1 161 14) + 1) := ⟨_, rfl⟩
    have hF := hF h4 eh4
    rw [← eh4]
    refine aw_goto (tgt := 0) (M := M_X12_ahead) (pc := 36) dX12_ahead_36 rfl ?_
    exact aw_ls [0] rfl hF
  · have hF := hF.2 hc
    refine aw_aload_n (j := 0) (M := M_X12_ahead) (pc := 13) dX12_ahead_13 rfl rfl ?_
    refine aw_aload_n (j := 0) (M := M_X12_ahead) (pc := 14) dX12_ahead_14 rfl rfl ?_
    refine gf_X12_124 (M := M_X12_ahead) (pc := 15) rfl dX12_ahead_15 rfl ?_
    refine aw_cvi (as := [(0, h1 161 14)]) (st := []) (M := M_X12_ahead) (pc := 18) (f_X12_byteAt  hF) dX12_ahead_18 rfl (Or.inl ⟨_, _, _, rfl, rfl⟩) cy_X12_byteAt ml_X12_127 (by decide) (by decide) (Nat.le_of_ble_eq_true rfl) (fun r6 h5 hF => ?_)
    refine aw_bipush (M := M_X12_ahead) (pc := 21) dX12_ahead_21 ⟨rfl, ⟨by decide, by decide⟩⟩ ?_
    refine aw_icmp_ne (tgt := 39) (M := M_X12_ahead) (pc := 23) dX12_ahead_23 rfl (fun hc => ?_) (fun hc => ?_)
    · have hF := hF.1 hc
      refine aw_aload_n (j := 0) (M := M_X12_ahead) (pc := 39) dX12_ahead_39 rfl rfl ?_
      refine aw_aload_n (j := 0) (M := M_X12_ahead) (pc := 40) dX12_ahead_40 rfl rfl ?_
      refine gf_X12_124 (M := M_X12_ahead) (pc := 41) rfl dX12_ahead_41 rfl ?_
      refine pf_X12_130 (M := M_X12_ahead) (pc := 44) rfl dX12_ahead_44 rfl ?_
      obtain ⟨h7, eh7⟩ : ∃ y : Mem, y = mset h5 161 13 (h5 161 14) := ⟨_, rfl⟩
      have hF := hF h7 eh7
      rw [← eh7]
      refine aw_aload_n (j := 0) (M := M_X12_ahead) (pc := 47) dX12_ahead_47 rfl rfl ?_
      refine aw_aload_n (j := 0) (M := M_X12_ahead) (pc := 48) dX12_ahead_48 rfl rfl ?_
      refine gf_X12_124 (M := M_X12_ahead) (pc := 49) rfl dX12_ahead_49 rfl ?_
      refine aw_cvi (as := [(0, h7 161 14)]) (st := []) (M := M_X12_ahead) (pc := 52) (f_X12_byteAt  hF) dX12_ahead_52 rfl (Or.inl ⟨_, _, _, rfl, rfl⟩) cy_X12_byteAt ml_X12_127 (by decide) (by decide) (Nat.le_of_ble_eq_true rfl) (fun r9 h8 hF => ?_)
      refine aw_istore_n (ls' := [(1, (0, r9)), (0, vr 161)]) (M := M_X12_ahead) (pc := 55) dX12_ahead_55 rfl (by decide) rfl ?_
      refine aw_aload_n (j := 1) (M := M_X12_ahead) (pc := 56) dX12_ahead_56 rfl rfl ?_
      refine aw_iload_n (j := 0) (M := M_X12_ahead) (pc := 57) dX12_ahead_57 rfl rfl ?_
      refine pf_X12_133 (M := M_X12_ahead) (pc := 58) rfl dX12_ahead_58 rfl ?_
      obtain ⟨h10, eh10⟩ : ∃ y : Mem, y = mset h8 161 15 r9 := ⟨_, rfl⟩
      have hF := hF h10 eh10
      rw [← eh10]
      refine aw_iload_n (j := 0) (M := M_X12_ahead) (pc := 61) dX12_ahead_61 rfl rfl ?_
      refine aw_iconst (M := M_X12_ahead) (pc := 62) dX12_ahead_62 ⟨by decide, by decide⟩ ?_
      refine aw_icmp_ne (tgt := 74) (M := M_X12_ahead) (pc := 63) dX12_ahead_63 rfl (fun hc => ?_) (fun hc => ?_)
      · have hF := hF.1 hc
        refine aw_iload_n (j := 0) (M := M_X12_ahead) (pc := 74) dX12_ahead_74 rfl rfl ?_
        refine aw_csi (as := [(0, r9)]) (st := []) (M := M_X12_ahead) (pc := 75) (f_X12_isSmall  hF) dX12_ahead_75 rfl cy_X12_isSmall ml_X12_139 (by decide) (by decide) (Nat.le_of_ble_eq_true rfl) (fun r12 h11 hF => ?_)
        refine aw_if_eq (tgt := 116) (M := M_X12_ahead) (pc := 78) dX12_ahead_78 rfl (fun hc => ?_) (fun hc => ?_)
        · have hF := hF.1 hc
          refine aw_iload_n (j := 0) (M := M_X12_ahead) (pc := 116) dX12_ahead_116 rfl rfl ?_
          refine aw_csi (as := [(0, r9)]) (st := []) (M := M_X12_ahead) (pc := 117) (f_X12_isDigit  hF) dX12_ahead_117 rfl cy_X12_isDigit ml_X12_142 (by decide) (by decide) (Nat.le_of_ble_eq_true rfl) (fun r14 h13 hF => ?_)
          refine aw_if_eq (tgt := 208) (M := M_X12_ahead) (pc := 120) dX12_ahead_120 rfl (fun hc => ?_) (fun hc => ?_)
          · have hF := hF.1 hc
            refine aw_aload_n (j := 1) (M := M_X12_ahead) (pc := 208) dX12_ahead_208 rfl rfl ?_
            refine aw_dup (M := M_X12_ahead) (pc := 209) dX12_ahead_209 rfl ?_
            refine gf_X12_124 (M := M_X12_ahead) (pc := 210) rfl dX12_ahead_210 rfl ?_
            refine aw_iconst (M := M_X12_ahead) (pc := 213) dX12_ahead_213 ⟨by decide, by decide⟩ ?_
            obtain ⟨o15, hF⟩ := hF
            refine aw_iadd (M := M_X12_ahead) (pc := 214) dX12_ahead_214 rfl o15 ?_
            refine pf_X12_124 (M := M_X12_ahead) (pc := 215) rfl dX12_ahead_215 rfl ?_
            obtain ⟨h16, eh16⟩ : ∃ y : Mem, y = mset h13 161 14 ((h13 161 14) + 1) := ⟨_, rfl⟩
            have hF := hF h16 eh16
            rw [← eh16]
            refine aw_aload_n (j := 1) (M := M_X12_ahead) (pc := 218) dX12_ahead_218 rfl rfl ?_
            refine aw_iload_n (j := 0) (M := M_X12_ahead) (pc := 219) dX12_ahead_219 rfl rfl ?_
            refine aw_bipush (M := M_X12_ahead) (pc := 220) dX12_ahead_220 ⟨rfl, ⟨by decide, by decide⟩⟩ ?_
            refine aw_icmp_eq (tgt := 243) (M := M_X12_ahead) (pc := 222) dX12_ahead_222 rfl (fun hc => ?_) (fun hc => ?_)
            · have hF := hF.1 hc
              refine aw_iconst (M := M_X12_ahead) (pc := 243) dX12_ahead_243 ⟨by decide, by decide⟩ ?_
              refine aw_goto (tgt := 248) (M := M_X12_ahead) (pc := 244) dX12_ahead_244 rfl ?_
              refine pf_X12_136 (M := M_X12_ahead) (pc := 248) rfl dX12_ahead_248 rfl ?_
              obtain ⟨h17, eh17⟩ : ∃ y : Mem, y = mset h16 161 12 4 := ⟨_, rfl⟩
              have hF := hF h17 eh17
              rw [← eh17]
              exact aw_ret (M := M_X12_ahead) (pc := 251) dX12_ahead_251 rfl ⟨rfl, hF⟩
            · have hF := hF.2 hc
              refine aw_iload_n (j := 0) (M := M_X12_ahead) (pc := 225) dX12_ahead_225 rfl rfl ?_
              refine aw_bipush (M := M_X12_ahead) (pc := 226) dX12_ahead_226 ⟨rfl, ⟨by decide, by decide⟩⟩ ?_
              refine aw_icmp_eq (tgt := 243) (M := M_X12_ahead) (pc := 228) dX12_ahead_228 rfl (fun hc => ?_) (fun hc => ?_)
              · have hF := hF.1 hc
                refine aw_iconst (M := M_X12_ahead) (pc := 243) dX12_ahead_243 ⟨by decide, by decide⟩ ?_
                refine aw_goto (tgt := 248) (M := M_X12_ahead) (pc := 244) dX12_ahead_244 rfl ?_
                refine pf_X12_136 (M := M_X12_ahead) (pc := 248) rfl dX12_ahead_248 rfl ?_
                obtain ⟨h18, eh18⟩ : ∃ y : Mem, y = mset h16 161 12 4 := ⟨_, rfl⟩
                have hF := hF h18 eh18
                rw [← eh18]
                exact aw_ret (M := M_X12_ahead) (pc := 251) dX12_ahead_251 rfl ⟨rfl, hF⟩
              · have hF := hF.2 hc
                refine aw_iload_n (j := 0) (M := M_X12_ahead) (pc := 231) dX12_ahead_231 rfl rfl ?_
                refine aw_bipush (M := M_X12_ahead) (pc := 232) dX12_ahead_232 ⟨rfl, ⟨by decide, by decide⟩⟩ ?_
                refine aw_icmp_eq (tgt := 243) (M := M_X12_ahead) (pc := 234) dX12_ahead_234 rfl (fun hc => ?_) (fun hc => ?_)
                · have hF := hF.1 hc
                  refine aw_iconst (M := M_X12_ahead) (pc := 243) dX12_ahead_243 ⟨by decide, by decide⟩ ?_
                  refine aw_goto (tgt := 248) (M := M_X12_ahead) (pc := 244) dX12_ahead_244 rfl ?_
                  refine pf_X12_136 (M := M_X12_ahead) (pc := 248) rfl dX12_ahead_248 rfl ?_
                  obtain ⟨h19, eh19⟩ : ∃ y : Mem, y = mset h16 161 12 4 := ⟨_, rfl⟩
                  have hF := hF h19 eh19
                  rw [← eh19]
                  exact aw_ret (M := M_X12_ahead) (pc := 251) dX12_ahead_251 rfl ⟨rfl, hF⟩
                · have hF := hF.2 hc
                  refine aw_iload_n (j := 0) (M := M_X12_ahead) (pc := 237) dX12_ahead_237 rfl rfl ?_
                  refine aw_bipush (M := M_X12_ahead) (pc := 238) dX12_ahead_238 ⟨rfl, ⟨by decide, by decide⟩⟩ ?_
                  refine aw_icmp_ne (tgt := 247) (M := M_X12_ahead) (pc := 240) dX12_ahead_240 rfl (fun hc => ?_) (fun hc => ?_)
                  · have hF := hF.1 hc
                    refine aw_iconst (M := M_X12_ahead) (pc := 247) dX12_ahead_247 ⟨by decide, by decide⟩ ?_
                    refine pf_X12_136 (M := M_X12_ahead) (pc := 248) rfl dX12_ahead_248 rfl ?_
                    obtain ⟨h20, eh20⟩ : ∃ y : Mem, y = mset h16 161 12 1 := ⟨_, rfl⟩
                    have hF := hF h20 eh20
                    rw [← eh20]
                    exact aw_ret (M := M_X12_ahead) (pc := 251) dX12_ahead_251 rfl ⟨rfl, hF⟩
                  · have hF := hF.2 hc
                    refine aw_iconst (M := M_X12_ahead) (pc := 243) dX12_ahead_243 ⟨by decide, by decide⟩ ?_
                    refine aw_goto (tgt := 248) (M := M_X12_ahead) (pc := 244) dX12_ahead_244 rfl ?_
                    refine pf_X12_136 (M := M_X12_ahead) (pc := 248) rfl dX12_ahead_248 rfl ?_
                    obtain ⟨h21, eh21⟩ : ∃ y : Mem, y = mset h16 161 12 4 := ⟨_, rfl⟩
                    have hF := hF h21 eh21
                    rw [← eh21]
                    exact aw_ret (M := M_X12_ahead) (pc := 251) dX12_ahead_251 rfl ⟨rfl, hF⟩
          · have hF := hF.2 hc
            refine aw_aload_n (j := 1) (M := M_X12_ahead) (pc := 123) dX12_ahead_123 rfl rfl ?_
            refine aw_iconst (M := M_X12_ahead) (pc := 124) dX12_ahead_124 ⟨by decide, by decide⟩ ?_
            refine pf_X12_133 (M := M_X12_ahead) (pc := 125) rfl dX12_ahead_125 rfl ?_
            obtain ⟨h22, eh22⟩ : ∃ y : Mem, y = mset h13 161 15 0 := ⟨_, rfl⟩
            have hF := hF h22 eh22
            rw [← eh22]
            exact aw_ls [1] rfl hF
        · have hF := hF.2 hc
          exact aw_ls [1] rfl hF
      · have hF := hF.2 hc
        refine aw_aload_n (j := 1) (M := M_X12_ahead) (pc := 66) dX12_ahead_66 rfl rfl ?_
        refine aw_iconst (M := M_X12_ahead) (pc := 67) dX12_ahead_67 ⟨by decide, by decide⟩ ?_
        refine pf_X12_136 (M := M_X12_ahead) (pc := 68) rfl dX12_ahead_68 rfl ?_
        obtain ⟨h23, eh23⟩ : ∃ y : Mem, y = mset h10 161 12 0 := ⟨_, rfl⟩
        have hF := hF h23 eh23
        rw [← eh23]
        refine aw_goto (tgt := 251) (M := M_X12_ahead) (pc := 71) dX12_ahead_71 rfl ?_
        exact aw_ret (M := M_X12_ahead) (pc := 251) dX12_ahead_251 rfl ⟨rfl, hF⟩
    · have hF := hF.2 hc
      refine aw_aload_n (j := 0) (M := M_X12_ahead) (pc := 26) dX12_ahead_26 rfl rfl ?_
      refine aw_dup (M := M_X12_ahead) (pc := 27) dX12_ahead_27 rfl ?_
      refine gf_X12_124 (M := M_X12_ahead) (pc := 28) rfl dX12_ahead_28 rfl ?_
      refine aw_iconst (M := M_X12_ahead) (pc := 31) dX12_ahead_31 ⟨by decide, by decide⟩ ?_
      obtain ⟨o24, hF⟩ := hF
      refine aw_iadd (M := M_X12_ahead) (pc := 32) dX12_ahead_32 rfl o24 ?_
      refine pf_X12_124 (M := M_X12_ahead) (pc := 33) rfl dX12_ahead_33 rfl ?_
      obtain ⟨h25, eh25⟩ : ∃ y : Mem, y = mset h5 161 14 ((h5 161 14) + 1) := ⟨_, rfl⟩
      have hF := hF h25 eh25
      rw [← eh25]
      refine aw_goto (tgt := 0) (M := M_X12_ahead) (pc := 36) dX12_ahead_36 rfl ?_
      exact aw_ls [0] rfl hF
def B_X12_ahead_81 (h : Mem)  (Q : Mem → Prop) : Prop :=
  (F_X12_byteAt h (h 161 14) (fun r42 h41 => (F_X12_isSmall h41 r42 (fun r44 h43 => ((r44 = 0 → (∀ h45 : Mem, h45 = mset h43 161 12 2 → Q h45)) ∧ (¬ (r44 = 0) → (InR ((h43 161 14) + 1) ∧ (∀ h47 : Mem, h47 = mset h43 161 14 ((h43 161 14) + 1) → L_X12_ahead_81 h47  Q))))))))
set_option maxRecDepth 100000 in
set_option maxHeartbeats 4000000 in
theorem l_X12_ahead_81 {h : Mem}  {Q : Mem → Prop}  (hF : B_X12_ahead_81 h  Q) : L_X12_ahead_81 h  Q := by
  unfold B_X12_ahead_81 at hF
  show AW M_X12_ahead 81 [(0, vr 161)] [] h (qv Q)
  refine aw_aload_n (j := 0) (M := M_X12_ahead) (pc := 81) dX12_ahead_81 rfl rfl ?_
  refine aw_aload_n (j := 0) (M := M_X12_ahead) (pc := 82) dX12_ahead_82 rfl rfl ?_
  refine gf_X12_124 (M := M_X12_ahead) (pc := 83) rfl dX12_ahead_83 rfl ?_
  refine aw_cvi (as := [(0, h 161 14)]) (st := []) (M := M_X12_ahead) (pc := 86) (f_X12_byteAt  hF) dX12_ahead_86 rfl (Or.inl ⟨_, _, _, rfl, rfl⟩) cy_X12_byteAt ml_X12_127 (by decide) (by decide) (Nat.le_of_ble_eq_true rfl) (fun r42 h41 hF => ?_)
  refine aw_csi (as := [(0, r42)]) (st := []) (M := M_X12_ahead) (pc := 89) (f_X12_isSmall  hF) dX12_ahead_89 rfl cy_X12_isSmall ml_X12_139 (by decide) (by decide) (Nat.le_of_ble_eq_true rfl) (fun r44 h43 hF => ?_)
  refine aw_if_eq (tgt := 108) (M := M_X12_ahead) (pc := 92) dX12_ahead_92 rfl (fun hc => ?_) (fun hc => ?_)
  · have hF := hF.1 hc
    refine aw_aload_n (j := 0) (M := M_X12_ahead) (pc := 108) dX12_ahead_108 rfl rfl ?_
    refine aw_iconst (M := M_X12_ahead) (pc := 109) dX12_ahead_109 ⟨by decide, by decide⟩ ?_
    refine pf_X12_136 (M := M_X12_ahead) (pc := 110) rfl dX12_ahead_110 rfl ?_
    obtain ⟨h45, eh45⟩ : ∃ y : Mem, y = mset h43 161 12 2 := ⟨_, rfl⟩
    have hF := hF h45 eh45
    rw [← eh45]
    refine aw_goto (tgt := 251) (M := M_X12_ahead) (pc := 113) dX12_ahead_113 rfl ?_
    exact aw_ret (M := M_X12_ahead) (pc := 251) dX12_ahead_251 rfl ⟨rfl, hF⟩
  · have hF := hF.2 hc
    refine aw_aload_n (j := 0) (M := M_X12_ahead) (pc := 95) dX12_ahead_95 rfl rfl ?_
    refine aw_dup (M := M_X12_ahead) (pc := 96) dX12_ahead_96 rfl ?_
    refine gf_X12_124 (M := M_X12_ahead) (pc := 97) rfl dX12_ahead_97 rfl ?_
    refine aw_iconst (M := M_X12_ahead) (pc := 100) dX12_ahead_100 ⟨by decide, by decide⟩ ?_
    obtain ⟨o46, hF⟩ := hF
    refine aw_iadd (M := M_X12_ahead) (pc := 101) dX12_ahead_101 rfl o46 ?_
    refine pf_X12_124 (M := M_X12_ahead) (pc := 102) rfl dX12_ahead_102 rfl ?_
    obtain ⟨h47, eh47⟩ : ∃ y : Mem, y = mset h43 161 14 ((h43 161 14) + 1) := ⟨_, rfl⟩
    have hF := hF h47 eh47
    rw [← eh47]
    refine aw_goto (tgt := 81) (M := M_X12_ahead) (pc := 105) dX12_ahead_105 rfl ?_
    exact aw_ls [0] rfl hF
def B_X12_ahead_128 (h : Mem)  (Q : Mem → Prop) : Prop :=
  (F_X12_byteAt h (h 161 14) (fun r27 h26 => (F_X12_isDigit h26 r27 (fun r29 h28 => ((r29 = 0 → (InR ((h28 161 14) - (h28 161 13)) ∧ ((((h28 161 14) - (h28 161 13)) ≤ 4 → (∀ h31 : Mem, h31 = mset h28 161 12 3 → Q h31)) ∧ (¬ (((h28 161 14) - (h28 161 13)) ≤ 4) → (∀ h32 : Mem, h32 = mset h28 161 12 1 → Q h32))))) ∧ (¬ (r29 = 0) → (InR (10 * (h28 161 15)) ∧ (F_X12_byteAt h28 (h28 161 14) (fun r35 h34 => (InR ((10 * (h28 161 15)) + r35) ∧ (InR (((10 * (h28 161 15)) + r35) - 48) ∧ (∀ h38 : Mem, h38 = mset h34 161 15 (imin 100000 (((10 * (h28 161 15)) + r35) - 48)) → (InR ((h38 161 14) + 1) ∧ (∀ h40 : Mem, h40 = mset h38 161 14 ((h38 161 14) + 1) → L_X12_ahead_128 h40  Q))))))))))))))
set_option maxRecDepth 100000 in
set_option maxHeartbeats 4000000 in
theorem l_X12_ahead_128 {h : Mem}  {Q : Mem → Prop}  (hF : B_X12_ahead_128 h  Q) : L_X12_ahead_128 h  Q := by
  unfold B_X12_ahead_128 at hF
  show AW M_X12_ahead 128 [(0, vr 161)] [] h (qv Q)
  refine aw_aload_n (j := 0) (M := M_X12_ahead) (pc := 128) dX12_ahead_128 rfl rfl ?_
  refine aw_aload_n (j := 0) (M := M_X12_ahead) (pc := 129) dX12_ahead_129 rfl rfl ?_
  refine gf_X12_124 (M := M_X12_ahead) (pc := 130) rfl dX12_ahead_130 rfl ?_
  refine aw_cvi (as := [(0, h 161 14)]) (st := []) (M := M_X12_ahead) (pc := 133) (f_X12_byteAt  hF) dX12_ahead_133 rfl (Or.inl ⟨_, _, _, rfl, rfl⟩) cy_X12_byteAt ml_X12_127 (by decide) (by decide) (Nat.le_of_ble_eq_true rfl) (fun r27 h26 hF => ?_)
  refine aw_csi (as := [(0, r27)]) (st := []) (M := M_X12_ahead) (pc := 136) (f_X12_isDigit  hF) dX12_ahead_136 rfl cy_X12_isDigit ml_X12_142 (by decide) (by decide) (Nat.le_of_ble_eq_true rfl) (fun r29 h28 hF => ?_)
  refine aw_if_eq (tgt := 183) (M := M_X12_ahead) (pc := 139) dX12_ahead_139 rfl (fun hc => ?_) (fun hc => ?_)
  · have hF := hF.1 hc
    refine aw_aload_n (j := 0) (M := M_X12_ahead) (pc := 183) dX12_ahead_183 rfl rfl ?_
    refine aw_aload_n (j := 0) (M := M_X12_ahead) (pc := 184) dX12_ahead_184 rfl rfl ?_
    refine gf_X12_124 (M := M_X12_ahead) (pc := 185) rfl dX12_ahead_185 rfl ?_
    refine aw_aload_n (j := 0) (M := M_X12_ahead) (pc := 188) dX12_ahead_188 rfl rfl ?_
    refine gf_X12_130 (M := M_X12_ahead) (pc := 189) rfl dX12_ahead_189 rfl ?_
    obtain ⟨o30, hF⟩ := hF
    refine aw_isub (M := M_X12_ahead) (pc := 192) dX12_ahead_192 rfl o30 ?_
    refine aw_iconst (M := M_X12_ahead) (pc := 193) dX12_ahead_193 ⟨by decide, by decide⟩ ?_
    refine aw_icmp_le (tgt := 201) (M := M_X12_ahead) (pc := 194) dX12_ahead_194 rfl (fun hc => ?_) (fun hc => ?_)
    · have hF := hF.1 hc
      refine aw_iconst (M := M_X12_ahead) (pc := 201) dX12_ahead_201 ⟨by decide, by decide⟩ ?_
      refine pf_X12_136 (M := M_X12_ahead) (pc := 202) rfl dX12_ahead_202 rfl ?_
      obtain ⟨h31, eh31⟩ : ∃ y : Mem, y = mset h28 161 12 3 := ⟨_, rfl⟩
      have hF := hF h31 eh31
      rw [← eh31]
      refine aw_goto (tgt := 251) (M := M_X12_ahead) (pc := 205) dX12_ahead_205 rfl ?_
      exact aw_ret (M := M_X12_ahead) (pc := 251) dX12_ahead_251 rfl ⟨rfl, hF⟩
    · have hF := hF.2 hc
      refine aw_iconst (M := M_X12_ahead) (pc := 197) dX12_ahead_197 ⟨by decide, by decide⟩ ?_
      refine aw_goto (tgt := 202) (M := M_X12_ahead) (pc := 198) dX12_ahead_198 rfl ?_
      refine pf_X12_136 (M := M_X12_ahead) (pc := 202) rfl dX12_ahead_202 rfl ?_
      obtain ⟨h32, eh32⟩ : ∃ y : Mem, y = mset h28 161 12 1 := ⟨_, rfl⟩
      have hF := hF h32 eh32
      rw [← eh32]
      refine aw_goto (tgt := 251) (M := M_X12_ahead) (pc := 205) dX12_ahead_205 rfl ?_
      exact aw_ret (M := M_X12_ahead) (pc := 251) dX12_ahead_251 rfl ⟨rfl, hF⟩
  · have hF := hF.2 hc
    refine aw_aload_n (j := 0) (M := M_X12_ahead) (pc := 142) dX12_ahead_142 rfl rfl ?_
    refine aw_ldc (v := 100000) (M := M_X12_ahead) (pc := 143) dX12_ahead_143 kc_X12_145 ⟨by decide, by decide⟩ ?_
    refine aw_bipush (M := M_X12_ahead) (pc := 145) dX12_ahead_145 ⟨rfl, ⟨by decide, by decide⟩⟩ ?_
    refine aw_aload_n (j := 0) (M := M_X12_ahead) (pc := 147) dX12_ahead_147 rfl rfl ?_
    refine gf_X12_133 (M := M_X12_ahead) (pc := 148) rfl dX12_ahead_148 rfl ?_
    obtain ⟨o33, hF⟩ := hF
    refine aw_imul (M := M_X12_ahead) (pc := 151) dX12_ahead_151 rfl o33 ?_
    refine aw_aload_n (j := 0) (M := M_X12_ahead) (pc := 152) dX12_ahead_152 rfl rfl ?_
    refine aw_aload_n (j := 0) (M := M_X12_ahead) (pc := 153) dX12_ahead_153 rfl rfl ?_
    refine gf_X12_124 (M := M_X12_ahead) (pc := 154) rfl dX12_ahead_154 rfl ?_
    refine aw_cvi (as := [(0, h28 161 14)]) (st := [(0, 10 * (h28 161 15)), (0, 100000), vr 161]) (M := M_X12_ahead) (pc := 157) (f_X12_byteAt  hF) dX12_ahead_157 rfl (Or.inl ⟨_, _, _, rfl, rfl⟩) cy_X12_byteAt ml_X12_127 (by decide) (by decide) (Nat.le_of_ble_eq_true rfl) (fun r35 h34 hF => ?_)
    obtain ⟨o36, hF⟩ := hF
    refine aw_iadd (M := M_X12_ahead) (pc := 160) dX12_ahead_160 rfl o36 ?_
    refine aw_bipush (M := M_X12_ahead) (pc := 161) dX12_ahead_161 ⟨rfl, ⟨by decide, by decide⟩⟩ ?_
    obtain ⟨o37, hF⟩ := hF
    refine aw_isub (M := M_X12_ahead) (pc := 163) dX12_ahead_163 rfl o37 ?_
    refine aw_mmin (M := M_X12_ahead) (pc := 164) ml_X12_146 dX12_ahead_164 (by decide) (Nat.le_of_ble_eq_true rfl) ?_
    refine pf_X12_133 (M := M_X12_ahead) (pc := 167) rfl dX12_ahead_167 rfl ?_
    obtain ⟨h38, eh38⟩ : ∃ y : Mem, y = mset h34 161 15 (imin 100000 (((10 * (h28 161 15)) + r35) - 48)) := ⟨_, rfl⟩
    have hF := hF h38 eh38
    rw [← eh38]
    refine aw_aload_n (j := 0) (M := M_X12_ahead) (pc := 170) dX12_ahead_170 rfl rfl ?_
    refine aw_dup (M := M_X12_ahead) (pc := 171) dX12_ahead_171 rfl ?_
    refine gf_X12_124 (M := M_X12_ahead) (pc := 172) rfl dX12_ahead_172 rfl ?_
    refine aw_iconst (M := M_X12_ahead) (pc := 175) dX12_ahead_175 ⟨by decide, by decide⟩ ?_
    obtain ⟨o39, hF⟩ := hF
    refine aw_iadd (M := M_X12_ahead) (pc := 176) dX12_ahead_176 rfl o39 ?_
    refine pf_X12_124 (M := M_X12_ahead) (pc := 177) rfl dX12_ahead_177 rfl ?_
    obtain ⟨h40, eh40⟩ : ∃ y : Mem, y = mset h38 161 14 ((h38 161 14) + 1) := ⟨_, rfl⟩
    have hF := hF h40 eh40
    rw [← eh40]
    refine aw_goto (tgt := 128) (M := M_X12_ahead) (pc := 180) dX12_ahead_180 rfl ?_
    exact aw_ls [0] rfl hF
def F_X12_ahead (h : Mem)  (Q : Mem → Prop) : Prop :=
  L_X12_ahead_0 h  Q
set_option maxRecDepth 100000 in
set_option maxHeartbeats 4000000 in
theorem f_X12_ahead {h : Mem}  {Q : Mem → Prop}  (hF : F_X12_ahead h  Q) : Ct yX12_ahead cX12_ahead 2 none (2, 66) [vr 161] h (qv Q) := by
  refine Ct.of np_RX12 (Nat.le_of_ble_eq_true rfl) ?_
  unfold F_X12_ahead at hF
  show AW M_X12_ahead 0 [(0, vr 161)] [] h (qv Q)
  exact aw_ls [0] rfl hF
abbrev M_X12_fails : Hd := (cX12_fails, 2, RX12, (some .boolean), (1, 45), sc0)
def F_X12_fails (h : Mem) (a1 : Int) (Q : Int → Mem → Prop) : Prop :=
  ((¬ ((h 161 18) = 0) → Q 0 h) ∧ ((h 161 18) = 0 → ((¬ ((h 161 12) = 1) → (∀ h1 : Mem, h1 = mset h 161 18 a1 → (∀ h2 : Mem, h2 = mset h1 161 17 (h1 161 13) → Q 0 h2))) ∧ ((h 161 12) = 1 → (∀ h3 : Mem, h3 = mset h 161 18 1 → (∀ h4 : Mem, h4 = mset h3 161 17 (h3 161 13) → Q 0 h4))))))
set_option maxRecDepth 100000 in
set_option maxHeartbeats 4000000 in
theorem f_X12_fails {h : Mem} {a1 : Int} {Q : Int → Mem → Prop}  (hF : F_X12_fails h a1 Q) : Ct yX12_fails cX12_fails 2 (some .boolean) (1, 45) [vr 161, (0, a1)] h (qi Q) := by
  refine Ct.of np_RX12 (Nat.le_of_ble_eq_true rfl) ?_
  unfold F_X12_fails at hF
  show AW M_X12_fails 0 [(0, vr 161), (1, (0, a1))] [] h (qi Q)
  refine aw_aload_n (j := 0) (M := M_X12_fails) (pc := 0) dX12_fails_0 rfl rfl ?_
  refine gf_X12_161 (M := M_X12_fails) (pc := 1) rfl dX12_fails_1 rfl ?_
  refine aw_if_ne (tgt := 32) (M := M_X12_fails) (pc := 4) dX12_fails_4 rfl (fun hc => ?_) (fun hc => ?_)
  · have hF := hF.1 hc
    refine aw_iconst (M := M_X12_fails) (pc := 32) dX12_fails_32 ⟨by decide, by decide⟩ ?_
    exact aw_iretz (M := M_X12_fails) (pc := 33) dX12_fails_33 rfl (Or.inl rfl) ⟨_, rfl, hF⟩
  · have hF := hF.2 hc
    refine aw_aload_n (j := 0) (M := M_X12_fails) (pc := 7) dX12_fails_7 rfl rfl ?_
    refine aw_aload_n (j := 0) (M := M_X12_fails) (pc := 8) dX12_fails_8 rfl rfl ?_
    refine gf_X12_136 (M := M_X12_fails) (pc := 9) rfl dX12_fails_9 rfl ?_
    refine aw_iconst (M := M_X12_fails) (pc := 12) dX12_fails_12 ⟨by decide, by decide⟩ ?_
    refine aw_icmp_ne (tgt := 20) (M := M_X12_fails) (pc := 13) dX12_fails_13 rfl (fun hc => ?_) (fun hc => ?_)
    · have hF := hF.1 hc
      refine aw_iload_n (j := 1) (M := M_X12_fails) (pc := 20) dX12_fails_20 rfl rfl ?_
      refine pf_X12_161 (M := M_X12_fails) (pc := 21) rfl dX12_fails_21 rfl ?_
      obtain ⟨h1, eh1⟩ : ∃ y : Mem, y = mset h 161 18 a1 := ⟨_, rfl⟩
      have hF := hF h1 eh1
      rw [← eh1]
      refine aw_aload_n (j := 0) (M := M_X12_fails) (pc := 24) dX12_fails_24 rfl rfl ?_
      refine aw_aload_n (j := 0) (M := M_X12_fails) (pc := 25) dX12_fails_25 rfl rfl ?_
      refine gf_X12_130 (M := M_X12_fails) (pc := 26) rfl dX12_fails_26 rfl ?_
      refine pf_X12_41 (M := M_X12_fails) (pc := 29) rfl dX12_fails_29 rfl ?_
      obtain ⟨h2, eh2⟩ : ∃ y : Mem, y = mset h1 161 17 (h1 161 13) := ⟨_, rfl⟩
      have hF := hF h2 eh2
      rw [← eh2]
      refine aw_iconst (M := M_X12_fails) (pc := 32) dX12_fails_32 ⟨by decide, by decide⟩ ?_
      exact aw_iretz (M := M_X12_fails) (pc := 33) dX12_fails_33 rfl (Or.inl rfl) ⟨_, rfl, hF⟩
    · have hF := hF.2 hc
      refine aw_iconst (M := M_X12_fails) (pc := 16) dX12_fails_16 ⟨by decide, by decide⟩ ?_
      refine aw_goto (tgt := 21) (M := M_X12_fails) (pc := 17) dX12_fails_17 rfl ?_
      refine pf_X12_161 (M := M_X12_fails) (pc := 21) rfl dX12_fails_21 rfl ?_
      obtain ⟨h3, eh3⟩ : ∃ y : Mem, y = mset h 161 18 1 := ⟨_, rfl⟩
      have hF := hF h3 eh3
      rw [← eh3]
      refine aw_aload_n (j := 0) (M := M_X12_fails) (pc := 24) dX12_fails_24 rfl rfl ?_
      refine aw_aload_n (j := 0) (M := M_X12_fails) (pc := 25) dX12_fails_25 rfl rfl ?_
      refine gf_X12_130 (M := M_X12_fails) (pc := 26) rfl dX12_fails_26 rfl ?_
      refine pf_X12_41 (M := M_X12_fails) (pc := 29) rfl dX12_fails_29 rfl ?_
      obtain ⟨h4, eh4⟩ : ∃ y : Mem, y = mset h3 161 17 (h3 161 13) := ⟨_, rfl⟩
      have hF := hF h4 eh4
      rw [← eh4]
      refine aw_iconst (M := M_X12_fails) (pc := 32) dX12_fails_32 ⟨by decide, by decide⟩ ?_
      exact aw_iretz (M := M_X12_fails) (pc := 33) dX12_fails_33 rfl (Or.inl rfl) ⟨_, rfl, hF⟩
abbrev M_X12_inWords : Hd := (cX12_inWords, 7, RX12, (some .int), (5, 130), sc0)
def L_X12_inWords_14 (h : Mem) (v2 : Int) (v3 : Int) (Q : Int → Mem → Prop) : Prop := AW M_X12_inWords 14 [(0, vr 161), (1, vr 183), (2, (0, v2)), (3, (0, v3))] [] h (qi Q)
def L_X12_inWords_25 (h : Mem) (v2 : Int) (v3 : Int) (v4 : Int) (Q : Int → Mem → Prop) : Prop := AW M_X12_inWords 25 [(0, vr 161), (1, vr 183), (2, (0, v2)), (3, (0, v3)), (4, (0, v4))] [] h (qi Q)
def L_X12_inWords_68 (h : Mem) (v2 : Int) (v3 : Int) (v4 : Int) (v5 : Int) (v6 : Int) (Q : Int → Mem → Prop) : Prop := AW M_X12_inWords 68 [(0, vr 161), (1, vr 183), (2, (0, v2)), (3, (0, v3)), (4, (0, v4)), (5, (0, v5)), (6, (0, v6))] [] h (qi Q)
def J_X12_inWords_115 (h : Mem) (v2 : Int) (v4 : Int) (v5 : Int) (Q : Int → Mem → Prop) : Prop :=
  ((v5 = 0 → (InR (v2 + 1) ∧ (InR (v4 + 1) ∧ L_X12_inWords_14 h (v2 + 1) (v4 + 1) Q))) ∧ (¬ (v5 = 0) → Q v2 h))
set_option maxRecDepth 100000 in
set_option maxHeartbeats 4000000 in
theorem j_X12_inWords_115 {h : Mem} {v2 : Int} {v4 : Int} {v5 : Int} {Q : Int → Mem → Prop}  (hF : J_X12_inWords_115 h v2 v4 v5 Q) : AW M_X12_inWords 115 [(0, vr 161), (1, vr 183), (2, (0, v2)), (4, (0, v4)), (5, (0, v5))] [] h (qi Q) := by
  unfold J_X12_inWords_115 at hF
  refine aw_iload (j := 4) (M := M_X12_inWords) (pc := 115) dX12_inWords_115  rfl ?_
  refine aw_if_eq (tgt := 122) (M := M_X12_inWords) (pc := 117) dX12_inWords_117 rfl (fun hc => ?_) (fun hc => ?_)
  · have hF := hF.1 hc
    obtain ⟨o16, hF⟩ := hF
    refine aw_iinc (j := 2) (x := v2) (r := v2 + 1) (ls' := [(2, (0, v2 + 1)), (0, vr 161), (1, vr 183), (4, (0, v4)), (5, (0, v5))]) (M := M_X12_inWords) (pc := 122) dX12_inWords_122 rfl rfl o16 (by decide) rfl ?_
    refine aw_iload (j := 3) (M := M_X12_inWords) (pc := 125) dX12_inWords_125  rfl ?_
    refine aw_iconst (M := M_X12_inWords) (pc := 127) dX12_inWords_127 ⟨by decide, by decide⟩ ?_
    obtain ⟨o17, hF⟩ := hF
    refine aw_iadd (M := M_X12_inWords) (pc := 128) dX12_inWords_128 rfl o17 ?_
    refine aw_istore_n (ls' := [(3, (0, v4 + 1)), (2, (0, v2 + 1)), (0, vr 161), (1, vr 183), (4, (0, v4)), (5, (0, v5))]) (M := M_X12_inWords) (pc := 129) dX12_inWords_129 rfl (by decide) rfl ?_
    refine aw_goto (tgt := 14) (M := M_X12_inWords) (pc := 130) dX12_inWords_130 rfl ?_
    exact aw_ls [2, 3, 1, 0] rfl hF
  · have hF := hF.2 hc
    refine aw_iload_n (j := 2) (M := M_X12_inWords) (pc := 120) dX12_inWords_120 rfl rfl ?_
    exact aw_ireti (M := M_X12_inWords) (pc := 121) dX12_inWords_121 rfl ⟨_, rfl, hF⟩
def B_X12_inWords_14 (h : Mem) (v2 : Int) (v3 : Int) (Q : Int → Mem → Prop) : Prop :=
  (F_J0_length_8abf5 h  (fun r2 h1 => ((r2 ≤ v3 → Q (-1) h1) ∧ (¬ (r2 ≤ v3) → L_X12_inWords_25 h1 v2 v3 v3 Q))))
set_option maxRecDepth 100000 in
set_option maxHeartbeats 4000000 in
theorem l_X12_inWords_14 {h : Mem} {v2 : Int} {v3 : Int} {Q : Int → Mem → Prop}  (hF : B_X12_inWords_14 h v2 v3 Q) : L_X12_inWords_14 h v2 v3 Q := by
  unfold B_X12_inWords_14 at hF
  show AW M_X12_inWords 14 [(0, vr 161), (1, vr 183), (2, (0, v2)), (3, (0, v3))] [] h (qi Q)
  refine aw_iload_n (j := 3) (M := M_X12_inWords) (pc := 14) dX12_inWords_14 rfl rfl ?_
  refine aw_aload_n (j := 1) (M := M_X12_inWords) (pc := 15) dX12_inWords_15 rfl rfl ?_
  refine aw_cvi (as := []) (st := [(0, v3)]) (M := M_X12_inWords) (pc := 16) (f_J0_length_8abf5  hF) dX12_inWords_16 rfl (Or.inr ⟨rfl, Or.inr rfl⟩) cy_J0_length_8abf5 ml_X12_151 (by decide) (by decide) (Nat.le_of_ble_eq_true rfl) (fun r2 h1 hF => ?_)
  refine aw_icmp_ge (tgt := 133) (M := M_X12_inWords) (pc := 19) dX12_inWords_19 rfl (fun hc => ?_) (fun hc => ?_)
  · have hF := hF.1 hc
    refine aw_iconst (M := M_X12_inWords) (pc := 133) dX12_inWords_133 ⟨by decide, by decide⟩ ?_
    exact aw_ireti (M := M_X12_inWords) (pc := 134) dX12_inWords_134 rfl ⟨_, rfl, hF⟩
  · have hF := hF.2 hc
    refine aw_iload_n (j := 3) (M := M_X12_inWords) (pc := 22) dX12_inWords_22 rfl rfl ?_
    refine aw_istore (ls' := [(4, (0, v3)), (0, vr 161), (1, vr 183), (2, (0, v2)), (3, (0, v3))]) (M := M_X12_inWords) (pc := 23) dX12_inWords_23  (by decide) rfl ?_
    exact aw_ls [1, 2, 3, 4, 0] rfl hF
def B_X12_inWords_25 (h : Mem) (v2 : Int) (v3 : Int) (v4 : Int) (Q : Int → Mem → Prop) : Prop :=
  (F_J0_charAt_5068e h v4 (fun r4 h3 => ((r4 = 32 → (InR (v4 - v3) ∧ (InR ((h3 161 14) - (h3 161 13)) ∧ ((¬ ((v4 - v3) = ((h3 161 14) - (h3 161 13))) → L_X12_inWords_68 h3 v2 v3 v4 0 v3 Q) ∧ ((v4 - v3) = ((h3 161 14) - (h3 161 13)) → L_X12_inWords_68 h3 v2 v3 v4 1 v3 Q))))) ∧ (¬ (r4 = 32) → (InR (v4 + 1) ∧ L_X12_inWords_25 h3 v2 v3 (v4 + 1) Q)))))
set_option maxRecDepth 100000 in
set_option maxHeartbeats 4000000 in
theorem l_X12_inWords_25 {h : Mem} {v2 : Int} {v3 : Int} {v4 : Int} {Q : Int → Mem → Prop}  (hF : B_X12_inWords_25 h v2 v3 v4 Q) : L_X12_inWords_25 h v2 v3 v4 Q := by
  unfold B_X12_inWords_25 at hF
  show AW M_X12_inWords 25 [(0, vr 161), (1, vr 183), (2, (0, v2)), (3, (0, v3)), (4, (0, v4))] [] h (qi Q)
  refine aw_aload_n (j := 1) (M := M_X12_inWords) (pc := 25) dX12_inWords_25 rfl rfl ?_
  refine aw_iload (j := 4) (M := M_X12_inWords) (pc := 26) dX12_inWords_26  rfl ?_
  refine aw_cvi (as := [(0, v4)]) (st := []) (M := M_X12_inWords) (pc := 28) (f_J0_charAt_5068e  hF) dX12_inWords_28 rfl (Or.inr ⟨rfl, Or.inr rfl⟩) cy_J0_charAt_5068e ml_X12_157 (by decide) (by decide) (Nat.le_of_ble_eq_true rfl) (fun r4 h3 hF => ?_)
  refine aw_bipush (M := M_X12_inWords) (pc := 31) dX12_inWords_31 ⟨rfl, ⟨by decide, by decide⟩⟩ ?_
  refine aw_icmp_eq (tgt := 42) (M := M_X12_inWords) (pc := 33) dX12_inWords_33 rfl (fun hc => ?_) (fun hc => ?_)
  · have hF := hF.1 hc
    refine aw_iload (j := 4) (M := M_X12_inWords) (pc := 42) dX12_inWords_42  rfl ?_
    refine aw_iload_n (j := 3) (M := M_X12_inWords) (pc := 44) dX12_inWords_44 rfl rfl ?_
    obtain ⟨o5, hF⟩ := hF
    refine aw_isub (M := M_X12_inWords) (pc := 45) dX12_inWords_45 rfl o5 ?_
    refine aw_aload_n (j := 0) (M := M_X12_inWords) (pc := 46) dX12_inWords_46 rfl rfl ?_
    refine gf_X12_124 (M := M_X12_inWords) (pc := 47) rfl dX12_inWords_47 rfl ?_
    refine aw_aload_n (j := 0) (M := M_X12_inWords) (pc := 50) dX12_inWords_50 rfl rfl ?_
    refine gf_X12_130 (M := M_X12_inWords) (pc := 51) rfl dX12_inWords_51 rfl ?_
    obtain ⟨o6, hF⟩ := hF
    refine aw_isub (M := M_X12_inWords) (pc := 54) dX12_inWords_54 rfl o6 ?_
    refine aw_icmp_ne (tgt := 62) (M := M_X12_inWords) (pc := 55) dX12_inWords_55 rfl (fun hc => ?_) (fun hc => ?_)
    · have hF := hF.1 hc
      refine aw_iconst (M := M_X12_inWords) (pc := 62) dX12_inWords_62 ⟨by decide, by decide⟩ ?_
      refine aw_istore (ls' := [(5, (0, 0)), (0, vr 161), (1, vr 183), (2, (0, v2)), (3, (0, v3)), (4, (0, v4))]) (M := M_X12_inWords) (pc := 63) dX12_inWords_63  (by decide) rfl ?_
      refine aw_iload_n (j := 4) (M := M_X12_inWords) (pc := 65) dX12_inWords_65 rfl rfl ?_
      refine aw_istore (ls' := [(6, (0, v3)), (5, (0, 0)), (0, vr 161), (1, vr 183), (2, (0, v2)), (3, (0, v3)), (4, (0, v4))]) (M := M_X12_inWords) (pc := 66) dX12_inWords_66  (by decide) rfl ?_
      exact aw_ls [2, 3, 4, 5, 6, 1, 0] rfl hF
    · have hF := hF.2 hc
      refine aw_iconst (M := M_X12_inWords) (pc := 58) dX12_inWords_58 ⟨by decide, by decide⟩ ?_
      refine aw_goto (tgt := 63) (M := M_X12_inWords) (pc := 59) dX12_inWords_59 rfl ?_
      refine aw_istore (ls' := [(5, (0, 1)), (0, vr 161), (1, vr 183), (2, (0, v2)), (3, (0, v3)), (4, (0, v4))]) (M := M_X12_inWords) (pc := 63) dX12_inWords_63  (by decide) rfl ?_
      refine aw_iload_n (j := 4) (M := M_X12_inWords) (pc := 65) dX12_inWords_65 rfl rfl ?_
      refine aw_istore (ls' := [(6, (0, v3)), (5, (0, 1)), (0, vr 161), (1, vr 183), (2, (0, v2)), (3, (0, v3)), (4, (0, v4))]) (M := M_X12_inWords) (pc := 66) dX12_inWords_66  (by decide) rfl ?_
      exact aw_ls [2, 3, 4, 5, 6, 1, 0] rfl hF
  · have hF := hF.2 hc
    obtain ⟨o7, hF⟩ := hF
    refine aw_iinc (j := 4) (x := v4) (r := v4 + 1) (ls' := [(4, (0, v4 + 1)), (0, vr 161), (1, vr 183), (2, (0, v2)), (3, (0, v3))]) (M := M_X12_inWords) (pc := 36) dX12_inWords_36 rfl rfl o7 (by decide) rfl ?_
    refine aw_goto (tgt := 25) (M := M_X12_inWords) (pc := 39) dX12_inWords_39 rfl ?_
    exact aw_ls [1, 2, 3, 4, 0] rfl hF
def B_X12_inWords_68 (h : Mem) (v2 : Int) (v3 : Int) (v4 : Int) (v5 : Int) (v6 : Int) (Q : Int → Mem → Prop) : Prop :=
  ((v4 ≤ v6 → J_X12_inWords_115 h v2 v4 v5 Q) ∧ (¬ (v4 ≤ v6) → ((v5 = 0 → J_X12_inWords_115 h v2 v4 v5 Q) ∧ (¬ (v5 = 0) → (F_J0_charAt_5068e h v6 (fun r9 h8 => (InR ((h8 161 13) + v6) ∧ (InR (((h8 161 13) + v6) - v3) ∧ (F_X12_byteAt h8 (((h8 161 13) + v6) - v3) (fun r13 h12 => ((¬ (r9 = r13) → (InR (v6 + 1) ∧ L_X12_inWords_68 h12 v2 v3 v4 0 (v6 + 1) Q)) ∧ (r9 = r13 → (InR (v6 + 1) ∧ L_X12_inWords_68 h12 v2 v3 v4 1 (v6 + 1) Q)))))))))))))
set_option maxRecDepth 100000 in
set_option maxHeartbeats 4000000 in
theorem l_X12_inWords_68 {h : Mem} {v2 : Int} {v3 : Int} {v4 : Int} {v5 : Int} {v6 : Int} {Q : Int → Mem → Prop}  (hF : B_X12_inWords_68 h v2 v3 v4 v5 v6 Q) : L_X12_inWords_68 h v2 v3 v4 v5 v6 Q := by
  unfold B_X12_inWords_68 at hF
  show AW M_X12_inWords 68 [(0, vr 161), (1, vr 183), (2, (0, v2)), (3, (0, v3)), (4, (0, v4)), (5, (0, v5)), (6, (0, v6))] [] h (qi Q)
  refine aw_iload (j := 6) (M := M_X12_inWords) (pc := 68) dX12_inWords_68  rfl ?_
  refine aw_iload (j := 4) (M := M_X12_inWords) (pc := 70) dX12_inWords_70  rfl ?_
  refine aw_icmp_ge (tgt := 115) (M := M_X12_inWords) (pc := 72) dX12_inWords_72 rfl (fun hc => ?_) (fun hc => ?_)
  · have hF := hF.1 hc
    exact aw_ls [0, 1, 2, 4, 5] rfl (j_X12_inWords_115  hF)
  · have hF := hF.2 hc
    refine aw_iload (j := 5) (M := M_X12_inWords) (pc := 75) dX12_inWords_75  rfl ?_
    refine aw_if_eq (tgt := 115) (M := M_X12_inWords) (pc := 77) dX12_inWords_77 rfl (fun hc => ?_) (fun hc => ?_)
    · have hF := hF.1 hc
      exact aw_ls [0, 1, 2, 4, 5] rfl (j_X12_inWords_115  hF)
    · have hF := hF.2 hc
      refine aw_aload_n (j := 1) (M := M_X12_inWords) (pc := 80) dX12_inWords_80 rfl rfl ?_
      refine aw_iload (j := 6) (M := M_X12_inWords) (pc := 81) dX12_inWords_81  rfl ?_
      refine aw_cvi (as := [(0, v6)]) (st := []) (M := M_X12_inWords) (pc := 83) (f_J0_charAt_5068e  hF) dX12_inWords_83 rfl (Or.inr ⟨rfl, Or.inr rfl⟩) cy_J0_charAt_5068e ml_X12_157 (by decide) (by decide) (Nat.le_of_ble_eq_true rfl) (fun r9 h8 hF => ?_)
      refine aw_aload_n (j := 0) (M := M_X12_inWords) (pc := 86) dX12_inWords_86 rfl rfl ?_
      refine aw_aload_n (j := 0) (M := M_X12_inWords) (pc := 87) dX12_inWords_87 rfl rfl ?_
      refine gf_X12_130 (M := M_X12_inWords) (pc := 88) rfl dX12_inWords_88 rfl ?_
      refine aw_iload (j := 6) (M := M_X12_inWords) (pc := 91) dX12_inWords_91  rfl ?_
      obtain ⟨o10, hF⟩ := hF
      refine aw_iadd (M := M_X12_inWords) (pc := 93) dX12_inWords_93 rfl o10 ?_
      refine aw_iload_n (j := 3) (M := M_X12_inWords) (pc := 94) dX12_inWords_94 rfl rfl ?_
      obtain ⟨o11, hF⟩ := hF
      refine aw_isub (M := M_X12_inWords) (pc := 95) dX12_inWords_95 rfl o11 ?_
      refine aw_cvi (as := [(0, ((h8 161 13) + v6) - v3)]) (st := [(0, r9)]) (M := M_X12_inWords) (pc := 96) (f_X12_byteAt  hF) dX12_inWords_96 rfl (Or.inl ⟨_, _, _, rfl, rfl⟩) cy_X12_byteAt ml_X12_127 (by decide) (by decide) (Nat.le_of_ble_eq_true rfl) (fun r13 h12 hF => ?_)
      refine aw_icmp_ne (tgt := 106) (M := M_X12_inWords) (pc := 99) dX12_inWords_99 rfl (fun hc => ?_) (fun hc => ?_)
      · have hF := hF.1 hc
        refine aw_iconst (M := M_X12_inWords) (pc := 106) dX12_inWords_106 ⟨by decide, by decide⟩ ?_
        refine aw_istore (ls' := [(5, (0, 0)), (0, vr 161), (1, vr 183), (2, (0, v2)), (3, (0, v3)), (4, (0, v4)), (6, (0, v6))]) (M := M_X12_inWords) (pc := 107) dX12_inWords_107  (by decide) rfl ?_
        obtain ⟨o14, hF⟩ := hF
        refine aw_iinc (j := 6) (x := v6) (r := v6 + 1) (ls' := [(6, (0, v6 + 1)), (5, (0, 0)), (0, vr 161), (1, vr 183), (2, (0, v2)), (3, (0, v3)), (4, (0, v4))]) (M := M_X12_inWords) (pc := 109) dX12_inWords_109 rfl rfl o14 (by decide) rfl ?_
        refine aw_goto (tgt := 68) (M := M_X12_inWords) (pc := 112) dX12_inWords_112 rfl ?_
        exact aw_ls [2, 3, 4, 5, 6, 1, 0] rfl hF
      · have hF := hF.2 hc
        refine aw_iconst (M := M_X12_inWords) (pc := 102) dX12_inWords_102 ⟨by decide, by decide⟩ ?_
        refine aw_goto (tgt := 107) (M := M_X12_inWords) (pc := 103) dX12_inWords_103 rfl ?_
        refine aw_istore (ls' := [(5, (0, 1)), (0, vr 161), (1, vr 183), (2, (0, v2)), (3, (0, v3)), (4, (0, v4)), (6, (0, v6))]) (M := M_X12_inWords) (pc := 107) dX12_inWords_107  (by decide) rfl ?_
        obtain ⟨o15, hF⟩ := hF
        refine aw_iinc (j := 6) (x := v6) (r := v6 + 1) (ls' := [(6, (0, v6 + 1)), (5, (0, 1)), (0, vr 161), (1, vr 183), (2, (0, v2)), (3, (0, v3)), (4, (0, v4))]) (M := M_X12_inWords) (pc := 109) dX12_inWords_109 rfl rfl o15 (by decide) rfl ?_
        refine aw_goto (tgt := 68) (M := M_X12_inWords) (pc := 112) dX12_inWords_112 rfl ?_
        exact aw_ls [2, 3, 4, 5, 6, 1, 0] rfl hF
def F_X12_inWords (h : Mem)  (Q : Int → Mem → Prop) : Prop :=
  (((h 161 12) = 2 → L_X12_inWords_14 h 0 1 Q) ∧ (¬ ((h 161 12) = 2) → Q (-1) h))
set_option maxRecDepth 100000 in
set_option maxHeartbeats 4000000 in
theorem f_X12_inWords {h : Mem}  {Q : Int → Mem → Prop}  (hF : F_X12_inWords h  Q) : Ct yX12_inWords cX12_inWords 7 (some .int) (5, 130) [vr 161, vr 183] h (qi Q) := by
  refine Ct.of np_RX12 (Nat.le_of_ble_eq_true rfl) ?_
  unfold F_X12_inWords at hF
  show AW M_X12_inWords 0 [(0, vr 161), (1, vr 183)] [] h (qi Q)
  refine aw_aload_n (j := 0) (M := M_X12_inWords) (pc := 0) dX12_inWords_0 rfl rfl ?_
  refine gf_X12_136 (M := M_X12_inWords) (pc := 1) rfl dX12_inWords_1 rfl ?_
  refine aw_iconst (M := M_X12_inWords) (pc := 4) dX12_inWords_4 ⟨by decide, by decide⟩ ?_
  refine aw_icmp_eq (tgt := 10) (M := M_X12_inWords) (pc := 5) dX12_inWords_5 rfl (fun hc => ?_) (fun hc => ?_)
  · have hF := hF.1 hc
    refine aw_iconst (M := M_X12_inWords) (pc := 10) dX12_inWords_10 ⟨by decide, by decide⟩ ?_
    refine aw_istore_n (ls' := [(2, (0, 0)), (0, vr 161), (1, vr 183)]) (M := M_X12_inWords) (pc := 11) dX12_inWords_11 rfl (by decide) rfl ?_
    refine aw_iconst (M := M_X12_inWords) (pc := 12) dX12_inWords_12 ⟨by decide, by decide⟩ ?_
    refine aw_istore_n (ls' := [(3, (0, 1)), (2, (0, 0)), (0, vr 161), (1, vr 183)]) (M := M_X12_inWords) (pc := 13) dX12_inWords_13 rfl (by decide) rfl ?_
    exact aw_ls [2, 3, 1, 0] rfl hF
  · have hF := hF.2 hc
    refine aw_iconst (M := M_X12_inWords) (pc := 8) dX12_inWords_8 ⟨by decide, by decide⟩ ?_
    exact aw_ireti (M := M_X12_inWords) (pc := 9) dX12_inWords_9 rfl ⟨_, rfl, hF⟩
abbrev M_X12_millRow : Hd := (cX12_millRow, 1, RX12, (some .int), (1, 45), sc0)
def F_X12_millRow (h : Mem) (a1 : Int) (Q : Int → Mem → Prop) : Prop :=
  (InR (3 * a1) ∧ (InR (68 + (3 * a1)) ∧ Q (68 + (3 * a1)) h))
set_option maxRecDepth 100000 in
set_option maxHeartbeats 4000000 in
theorem f_X12_millRow {h : Mem} {a1 : Int} {Q : Int → Mem → Prop}  (hF : F_X12_millRow h a1 Q) : Ct yX12_millRow cX12_millRow 1 (some .int) (1, 45) [(0, a1)] h (qi Q) := by
  refine Ct.of np_RX12 (Nat.le_of_ble_eq_true rfl) ?_
  unfold F_X12_millRow at hF
  show AW M_X12_millRow 0 [(0, (0, a1))] [] h (qi Q)
  refine aw_bipush (M := M_X12_millRow) (pc := 0) dX12_millRow_0 ⟨rfl, ⟨by decide, by decide⟩⟩ ?_
  refine aw_iconst (M := M_X12_millRow) (pc := 2) dX12_millRow_2 ⟨by decide, by decide⟩ ?_
  refine aw_iload_n (j := 0) (M := M_X12_millRow) (pc := 3) dX12_millRow_3 rfl rfl ?_
  obtain ⟨o1, hF⟩ := hF
  refine aw_imul (M := M_X12_millRow) (pc := 4) dX12_millRow_4 rfl o1 ?_
  obtain ⟨o2, hF⟩ := hF
  refine aw_iadd (M := M_X12_millRow) (pc := 5) dX12_millRow_5 rfl o2 ?_
  exact aw_ireti (M := M_X12_millRow) (pc := 6) dX12_millRow_6 rfl ⟨_, rfl, hF⟩
abbrev M_X12_number : Hd := (cX12_number, 4, RX12, (some .boolean), (3, 87), sc0)
def F_X12_number (h : Mem) (a1 : Int) (a2 : Int) (a3 : Int) (Q : Int → Mem → Prop) : Prop :=
  (((h 161 12) = 3 → (((h 161 15) < a2 → (F_X12_fails h 4 (fun r2 h1 => (InZ r2 ∧ Q r2 h1)))) ∧ (¬ ((h 161 15) < a2) → (((h 161 15) ≤ a3 → ((0 ≤ a1 ∧ a1 < 3008) ∧ (∀ h4 : Mem, h4 = mset h 162 (a1).toNat (h 161 15) → (F_X12_ahead h4  (fun h5 => Q 1 h5))))) ∧ (¬ ((h 161 15) ≤ a3) → (F_X12_fails h 4 (fun r8 h7 => (InZ r8 ∧ Q r8 h7)))))))) ∧ (¬ ((h 161 12) = 3) → (F_X12_fails h 2 (fun r10 h9 => (InZ r10 ∧ Q r10 h9)))))
set_option maxRecDepth 100000 in
set_option maxHeartbeats 4000000 in
theorem f_X12_number {h : Mem} {a1 : Int} {a2 : Int} {a3 : Int} {Q : Int → Mem → Prop}  (hF : F_X12_number h a1 a2 a3 Q) : Ct yX12_number cX12_number 4 (some .boolean) (3, 87) [vr 161, (0, a1), (0, a2), (0, a3)] h (qi Q) := by
  refine Ct.of np_RX12 (Nat.le_of_ble_eq_true rfl) ?_
  unfold F_X12_number at hF
  show AW M_X12_number 0 [(0, vr 161), (1, (0, a1)), (2, (0, a2)), (3, (0, a3))] [] h (qi Q)
  refine aw_aload_n (j := 0) (M := M_X12_number) (pc := 0) dX12_number_0 rfl rfl ?_
  refine gf_X12_136 (M := M_X12_number) (pc := 1) rfl dX12_number_1 rfl ?_
  refine aw_iconst (M := M_X12_number) (pc := 4) dX12_number_4 ⟨by decide, by decide⟩ ?_
  refine aw_icmp_eq (tgt := 14) (M := M_X12_number) (pc := 5) dX12_number_5 rfl (fun hc => ?_) (fun hc => ?_)
  · have hF := hF.1 hc
    refine aw_aload_n (j := 0) (M := M_X12_number) (pc := 14) dX12_number_14 rfl rfl ?_
    refine gf_X12_133 (M := M_X12_number) (pc := 15) rfl dX12_number_15 rfl ?_
    refine aw_iload_n (j := 2) (M := M_X12_number) (pc := 18) dX12_number_18 rfl rfl ?_
    refine aw_icmp_lt (tgt := 30) (M := M_X12_number) (pc := 19) dX12_number_19 rfl (fun hc => ?_) (fun hc => ?_)
    · have hF := hF.1 hc
      refine aw_aload_n (j := 0) (M := M_X12_number) (pc := 30) dX12_number_30 rfl rfl ?_
      refine aw_iconst (M := M_X12_number) (pc := 31) dX12_number_31 ⟨by decide, by decide⟩ ?_
      refine aw_cvi (as := [(0, 4)]) (st := []) (M := M_X12_number) (pc := 32) (f_X12_fails  hF) dX12_number_32 rfl (Or.inl ⟨_, _, _, rfl, rfl⟩) cy_X12_fails ml_X12_173 (by decide) (by decide) (Nat.le_of_ble_eq_true rfl) (fun r2 h1 hF => ?_)
      exact aw_iretz (M := M_X12_number) (pc := 35) dX12_number_35 rfl hF.1 ⟨_, rfl, hF.2⟩
    · have hF := hF.2 hc
      refine aw_aload_n (j := 0) (M := M_X12_number) (pc := 22) dX12_number_22 rfl rfl ?_
      refine gf_X12_133 (M := M_X12_number) (pc := 23) rfl dX12_number_23 rfl ?_
      refine aw_iload_n (j := 3) (M := M_X12_number) (pc := 26) dX12_number_26 rfl rfl ?_
      refine aw_icmp_le (tgt := 36) (M := M_X12_number) (pc := 27) dX12_number_27 rfl (fun hc => ?_) (fun hc => ?_)
      · have hF := hF.1 hc
        refine aw_aload_n (j := 0) (M := M_X12_number) (pc := 36) dX12_number_36 rfl rfl ?_
        refine gf_X12_7 (M := M_X12_number) (pc := 37) rfl dX12_number_37 rfl (r := 162) rfl ?_
        refine aw_iload_n (j := 1) (M := M_X12_number) (pc := 40) dX12_number_40 rfl rfl ?_
        refine aw_aload_n (j := 0) (M := M_X12_number) (pc := 41) dX12_number_41 rfl rfl ?_
        refine gf_X12_133 (M := M_X12_number) (pc := 42) rfl dX12_number_42 rfl ?_
        obtain ⟨o3, hF⟩ := hF
        refine aw_iast (k := (a1).toNat) (M := M_X12_number) (pc := 45) dX12_number_45 rfl o3 rfl ?_
        obtain ⟨h4, eh4⟩ : ∃ y : Mem, y = mset h 162 (a1).toNat (h 161 15) := ⟨_, rfl⟩
        have hF := hF h4 eh4
        rw [← eh4]
        refine aw_aload_n (j := 0) (M := M_X12_number) (pc := 46) dX12_number_46 rfl rfl ?_
        refine aw_cvv (as := []) (st := []) (M := M_X12_number) (pc := 47) (f_X12_ahead  hF) dX12_number_47 rfl (Or.inl ⟨_, _, _, rfl, rfl⟩) cy_X12_ahead ml_X12_167 (by decide) (by decide) (Nat.le_of_ble_eq_true rfl) (fun h5 hF => ?_)
        refine aw_iconst (M := M_X12_number) (pc := 50) dX12_number_50 ⟨by decide, by decide⟩ ?_
        exact aw_iretz (M := M_X12_number) (pc := 51) dX12_number_51 rfl (Or.inr rfl) ⟨_, rfl, hF⟩
      · have hF := hF.2 hc
        refine aw_aload_n (j := 0) (M := M_X12_number) (pc := 30) dX12_number_30 rfl rfl ?_
        refine aw_iconst (M := M_X12_number) (pc := 31) dX12_number_31 ⟨by decide, by decide⟩ ?_
        refine aw_cvi (as := [(0, 4)]) (st := []) (M := M_X12_number) (pc := 32) (f_X12_fails  hF) dX12_number_32 rfl (Or.inl ⟨_, _, _, rfl, rfl⟩) cy_X12_fails ml_X12_173 (by decide) (by decide) (Nat.le_of_ble_eq_true rfl) (fun r8 h7 hF => ?_)
        exact aw_iretz (M := M_X12_number) (pc := 35) dX12_number_35 rfl hF.1 ⟨_, rfl, hF.2⟩
  · have hF := hF.2 hc
    refine aw_aload_n (j := 0) (M := M_X12_number) (pc := 8) dX12_number_8 rfl rfl ?_
    refine aw_iconst (M := M_X12_number) (pc := 9) dX12_number_9 ⟨by decide, by decide⟩ ?_
    refine aw_cvi (as := [(0, 2)]) (st := []) (M := M_X12_number) (pc := 10) (f_X12_fails  hF) dX12_number_10 rfl (Or.inl ⟨_, _, _, rfl, rfl⟩) cy_X12_fails ml_X12_173 (by decide) (by decide) (Nat.le_of_ble_eq_true rfl) (fun r10 h9 hF => ?_)
    exact aw_iretz (M := M_X12_number) (pc := 13) dX12_number_13 rfl hF.1 ⟨_, rfl, hF.2⟩
abbrev M_X12_newCell : Hd := (cX12_newCell, 2, RX12, (some .boolean), (4, 110), sc0)
def F_X12_newCell (h : Mem) (a1 : Int) (Q : Int → Mem → Prop) : Prop :=
  (InR ((h 162 1794) - 1) ∧ (F_X12_number h a1 0 ((h 162 1794) - 1) (fun r4 h3 => (InZ r4 ∧ Q r4 h3))))
set_option maxRecDepth 100000 in
set_option maxHeartbeats 4000000 in
theorem f_X12_newCell {h : Mem} {a1 : Int} {Q : Int → Mem → Prop}  (hF : F_X12_newCell h a1 Q) : Ct yX12_newCell cX12_newCell 2 (some .boolean) (4, 110) [vr 161, (0, a1)] h (qi Q) := by
  refine Ct.of np_RX12 (Nat.le_of_ble_eq_true rfl) ?_
  unfold F_X12_newCell at hF
  show AW M_X12_newCell 0 [(0, vr 161), (1, (0, a1))] [] h (qi Q)
  refine aw_aload_n (j := 0) (M := M_X12_newCell) (pc := 0) dX12_newCell_0 rfl rfl ?_
  refine aw_iload_n (j := 1) (M := M_X12_newCell) (pc := 1) dX12_newCell_1 rfl rfl ?_
  refine aw_iconst (M := M_X12_newCell) (pc := 2) dX12_newCell_2 ⟨by decide, by decide⟩ ?_
  refine aw_aload_n (j := 0) (M := M_X12_newCell) (pc := 3) dX12_newCell_3 rfl rfl ?_
  refine gf_X12_7 (M := M_X12_newCell) (pc := 4) rfl dX12_newCell_4 rfl (r := 162) rfl ?_
  refine aw_sipush (M := M_X12_newCell) (pc := 7) dX12_newCell_7 ⟨rfl, ⟨by decide, by decide⟩⟩ ?_
  refine aw_iald (k := 1794) (M := M_X12_newCell) (pc := 10) dX12_newCell_10 rfl ⟨by decide, by decide⟩ rfl ?_
  refine aw_iconst (M := M_X12_newCell) (pc := 11) dX12_newCell_11 ⟨by decide, by decide⟩ ?_
  obtain ⟨o2, hF⟩ := hF
  refine aw_isub (M := M_X12_newCell) (pc := 12) dX12_newCell_12 rfl o2 ?_
  refine aw_cvi (as := [(0, a1), (0, 0), (0, (h 162 1794) - 1)]) (st := []) (M := M_X12_newCell) (pc := 13) (f_X12_number  hF) dX12_newCell_13 rfl (Or.inl ⟨_, _, _, rfl, rfl⟩) cy_X12_number ml_X12_193 (by decide) (by decide) (Nat.le_of_ble_eq_true rfl) (fun r4 h3 hF => ?_)
  exact aw_iretz (M := M_X12_newCell) (pc := 16) dX12_newCell_16 rfl hF.1 ⟨_, rfl, hF.2⟩
abbrev M_X12_nameHere : Hd := (cX12_nameHere, 4, RX12, (some .long), (2, 66), sc0)
def L_X12_nameHere_7 (h : Mem) (v1 : Int) (v3 : Int) (Q : Int → Mem → Prop) : Prop := AW M_X12_nameHere 7 [(0, vr 161), (1, (1, v1)), (3, (0, v3))] [] h (ql Q)
def B_X12_nameHere_7 (h : Mem) (v1 : Int) (v3 : Int) (Q : Int → Mem → Prop) : Prop :=
  (((h 161 14) ≤ v3 → Q v1 h) ∧ (¬ ((h 161 14) ≤ v3) → (F_X12_byteAt h v3 (fun r2 h1 => (∀ x3 : Int, x3 = llor (lshl v1 8) r2 → (InR (v3 + 1) ∧ L_X12_nameHere_7 h1 x3 (v3 + 1) Q))))))
set_option maxRecDepth 100000 in
set_option maxHeartbeats 4000000 in
theorem l_X12_nameHere_7 {h : Mem} {v1 : Int} {v3 : Int} {Q : Int → Mem → Prop}  (hF : B_X12_nameHere_7 h v1 v3 Q) : L_X12_nameHere_7 h v1 v3 Q := by
  unfold B_X12_nameHere_7 at hF
  show AW M_X12_nameHere 7 [(0, vr 161), (1, (1, v1)), (3, (0, v3))] [] h (ql Q)
  refine aw_iload_n (j := 2) (M := M_X12_nameHere) (pc := 7) dX12_nameHere_7 rfl rfl ?_
  refine aw_aload_n (j := 0) (M := M_X12_nameHere) (pc := 8) dX12_nameHere_8 rfl rfl ?_
  refine gf_X12_124 (M := M_X12_nameHere) (pc := 9) rfl dX12_nameHere_9 rfl ?_
  refine aw_icmp_ge (tgt := 33) (M := M_X12_nameHere) (pc := 12) dX12_nameHere_12 rfl (fun hc => ?_) (fun hc => ?_)
  · have hF := hF.1 hc
    refine aw_lload_n (j := 1) (M := M_X12_nameHere) (pc := 33) dX12_nameHere_33 rfl rfl ?_
    exact aw_lret (M := M_X12_nameHere) (pc := 34) dX12_nameHere_34 rfl ⟨_, rfl, hF⟩
  · have hF := hF.2 hc
    refine aw_lload_n (j := 1) (M := M_X12_nameHere) (pc := 15) dX12_nameHere_15 rfl rfl ?_
    refine aw_bipush (M := M_X12_nameHere) (pc := 16) dX12_nameHere_16 ⟨rfl, ⟨by decide, by decide⟩⟩ ?_
    refine aw_lshl (M := M_X12_nameHere) (pc := 18) dX12_nameHere_18 ?_
    refine aw_aload_n (j := 0) (M := M_X12_nameHere) (pc := 19) dX12_nameHere_19 rfl rfl ?_
    refine aw_iload_n (j := 2) (M := M_X12_nameHere) (pc := 20) dX12_nameHere_20 rfl rfl ?_
    refine aw_cvi (as := [(0, v3)]) (st := [(1, lshl v1 8)]) (M := M_X12_nameHere) (pc := 21) (f_X12_byteAt  hF) dX12_nameHere_21 rfl (Or.inl ⟨_, _, _, rfl, rfl⟩) cy_X12_byteAt ml_X12_127 (by decide) (by decide) (Nat.le_of_ble_eq_true rfl) (fun r2 h1 hF => ?_)
    refine aw_i2l (M := M_X12_nameHere) (pc := 24) dX12_nameHere_24 ?_
    refine aw_lor (M := M_X12_nameHere) (pc := 25) dX12_nameHere_25 ?_
    obtain ⟨x3, ex3⟩ : ∃ y : Int, y = llor (lshl v1 8) r2 := ⟨_, rfl⟩
    have hF := hF x3 ex3
    rw [← ex3]
    refine aw_lstore_n (ls' := [(1, (1, x3)), (0, vr 161), (3, (0, v3))]) (M := M_X12_nameHere) (pc := 26) dX12_nameHere_26 rfl (by decide) rfl ?_
    obtain ⟨o4, hF⟩ := hF
    refine aw_iinc (j := 2) (x := v3) (r := v3 + 1) (ls' := [(3, (0, v3 + 1)), (1, (1, x3)), (0, vr 161)]) (M := M_X12_nameHere) (pc := 27) dX12_nameHere_27 rfl rfl o4 (by decide) rfl ?_
    refine aw_goto (tgt := 7) (M := M_X12_nameHere) (pc := 30) dX12_nameHere_30 rfl ?_
    exact aw_ls [2, 1, 0] rfl hF
def F_X12_nameHere (h : Mem)  (Q : Int → Mem → Prop) : Prop :=
  L_X12_nameHere_7 h 0 (h 161 13) Q
set_option maxRecDepth 100000 in
set_option maxHeartbeats 4000000 in
theorem f_X12_nameHere {h : Mem}  {Q : Int → Mem → Prop}  (hF : F_X12_nameHere h  Q) : Ct yX12_nameHere cX12_nameHere 4 (some .long) (2, 66) [vr 161] h (ql Q) := by
  refine Ct.of np_RX12 (Nat.le_of_ble_eq_true rfl) ?_
  unfold F_X12_nameHere at hF
  show AW M_X12_nameHere 0 [(0, vr 161)] [] h (ql Q)
  refine aw_lconst (v := 0) (M := M_X12_nameHere) (pc := 0) dX12_nameHere_0 ⟨rfl, ⟨by decide, by decide⟩⟩ ?_
  refine aw_lstore_n (ls' := [(1, (1, 0)), (0, vr 161)]) (M := M_X12_nameHere) (pc := 1) dX12_nameHere_1 rfl (by decide) rfl ?_
  refine aw_aload_n (j := 1) (M := M_X12_nameHere) (pc := 2) dX12_nameHere_2 rfl rfl ?_
  refine gf_X12_130 (M := M_X12_nameHere) (pc := 3) rfl dX12_nameHere_3 rfl ?_
  refine aw_istore_n (ls' := [(3, (0, h 161 13)), (1, (1, 0)), (0, vr 161)]) (M := M_X12_nameHere) (pc := 6) dX12_nameHere_6 rfl (by decide) rfl ?_
  exact aw_ls [2, 1, 0] rfl hF
abbrev M_X12_findHere : Hd := (cX12_findHere, 4, RX12, (some .int), (3, 89), sc0)
def L_X12_findHere_2 (h : Mem) (v1 : Int) (v2 : Int) (v3 : Int) (Q : Int → Mem → Prop) : Prop := AW M_X12_findHere 2 [(0, vr 161), (1, (0, v1)), (2, (0, v2)), (3, (0, v3))] [] h (qi Q)
def B_X12_findHere_2 (h : Mem) (v1 : Int) (v2 : Int) (v3 : Int) (Q : Int → Mem → Prop) : Prop :=
  ((v2 ≤ v3 → Q (-1) h) ∧ (¬ (v2 ≤ v3) → (InR (v1 + v3) ∧ ((0 ≤ (v1 + v3) ∧ (v1 + v3) < 72) ∧ (F_X12_nameHere h  (fun r5 h4 => ((¬ ((h 163 (v1 + v3).toNat) = r5) → (InR (v3 + 1) ∧ L_X12_findHere_2 h4 v1 v2 (v3 + 1) Q)) ∧ ((h 163 (v1 + v3).toNat) = r5 → Q v3 h4))))))))
set_option maxRecDepth 100000 in
set_option maxHeartbeats 4000000 in
theorem l_X12_findHere_2 {h : Mem} {v1 : Int} {v2 : Int} {v3 : Int} {Q : Int → Mem → Prop}  (hF : B_X12_findHere_2 h v1 v2 v3 Q) : L_X12_findHere_2 h v1 v2 v3 Q := by
  unfold B_X12_findHere_2 at hF
  show AW M_X12_findHere 2 [(0, vr 161), (1, (0, v1)), (2, (0, v2)), (3, (0, v3))] [] h (qi Q)
  refine aw_iload_n (j := 3) (M := M_X12_findHere) (pc := 2) dX12_findHere_2 rfl rfl ?_
  refine aw_iload_n (j := 2) (M := M_X12_findHere) (pc := 3) dX12_findHere_3 rfl rfl ?_
  refine aw_icmp_ge (tgt := 31) (M := M_X12_findHere) (pc := 4) dX12_findHere_4 rfl (fun hc => ?_) (fun hc => ?_)
  · have hF := hF.1 hc
    refine aw_iconst (M := M_X12_findHere) (pc := 31) dX12_findHere_31 ⟨by decide, by decide⟩ ?_
    exact aw_ireti (M := M_X12_findHere) (pc := 32) dX12_findHere_32 rfl ⟨_, rfl, hF⟩
  · have hF := hF.2 hc
    refine aw_aload_n (j := 0) (M := M_X12_findHere) (pc := 7) dX12_findHere_7 rfl rfl ?_
    refine gf_X12_13 (M := M_X12_findHere) (pc := 8) rfl dX12_findHere_8 rfl (r := 163) rfl ?_
    refine aw_iload_n (j := 1) (M := M_X12_findHere) (pc := 11) dX12_findHere_11 rfl rfl ?_
    refine aw_iload_n (j := 3) (M := M_X12_findHere) (pc := 12) dX12_findHere_12 rfl rfl ?_
    obtain ⟨o1, hF⟩ := hF
    refine aw_iadd (M := M_X12_findHere) (pc := 13) dX12_findHere_13 rfl o1 ?_
    obtain ⟨o3, hF⟩ := hF
    refine aw_lald (k := (v1 + v3).toNat) (M := M_X12_findHere) (pc := 14) dX12_findHere_14 rfl o3 rfl ?_
    refine aw_aload_n (j := 0) (M := M_X12_findHere) (pc := 15) dX12_findHere_15 rfl rfl ?_
    refine aw_cvl (as := []) (st := [(1, h 163 (v1 + v3).toNat)]) (M := M_X12_findHere) (pc := 16) (f_X12_nameHere  hF) dX12_findHere_16 rfl (Or.inl ⟨_, _, _, rfl, rfl⟩) cy_X12_nameHere ml_X12_180 (by decide) (by decide) (Nat.le_of_ble_eq_true rfl) (fun r5 h4 hF => ?_)
    refine aw_lcmp (M := M_X12_findHere) (pc := 19) dX12_findHere_19 ?_
    refine aw_if_ne (tgt := 25) (M := M_X12_findHere) (pc := 20) dX12_findHere_20 rfl (fun hc => ?_) (fun hc => ?_)
    · have hF := hF.1 (fun z => hc (lc_eq.mpr z))
      obtain ⟨o6, hF⟩ := hF
      refine aw_iinc (j := 3) (x := v3) (r := v3 + 1) (ls' := [(3, (0, v3 + 1)), (0, vr 161), (1, (0, v1)), (2, (0, v2))]) (M := M_X12_findHere) (pc := 25) dX12_findHere_25 rfl rfl o6 (by decide) rfl ?_
      refine aw_goto (tgt := 2) (M := M_X12_findHere) (pc := 28) dX12_findHere_28 rfl ?_
      exact aw_ls [1, 2, 3, 0] rfl hF
    · have hF := hF.2 (lc_eq.mp hc)
      refine aw_iload_n (j := 3) (M := M_X12_findHere) (pc := 23) dX12_findHere_23 rfl rfl ?_
      exact aw_ireti (M := M_X12_findHere) (pc := 24) dX12_findHere_24 rfl ⟨_, rfl, hF⟩
def F_X12_findHere (h : Mem) (a1 : Int) (a2 : Int) (Q : Int → Mem → Prop) : Prop :=
  L_X12_findHere_2 h a1 a2 0 Q
set_option maxRecDepth 100000 in
set_option maxHeartbeats 4000000 in
theorem f_X12_findHere {h : Mem} {a1 : Int} {a2 : Int} {Q : Int → Mem → Prop}  (hF : F_X12_findHere h a1 a2 Q) : Ct yX12_findHere cX12_findHere 4 (some .int) (3, 89) [vr 161, (0, a1), (0, a2)] h (qi Q) := by
  refine Ct.of np_RX12 (Nat.le_of_ble_eq_true rfl) ?_
  unfold F_X12_findHere at hF
  show AW M_X12_findHere 0 [(0, vr 161), (1, (0, a1)), (2, (0, a2))] [] h (qi Q)
  refine aw_iconst (M := M_X12_findHere) (pc := 0) dX12_findHere_0 ⟨by decide, by decide⟩ ?_
  refine aw_istore_n (ls' := [(3, (0, 0)), (0, vr 161), (1, (0, a1)), (2, (0, a2))]) (M := M_X12_findHere) (pc := 1) dX12_findHere_1 rfl (by decide) rfl ?_
  exact aw_ls [1, 2, 3, 0] rfl hF
abbrev M_X12_isName : Hd := (cX12_isName, 2, RX12, (some .boolean), (6, 156), sc0)
def F_X12_isName (h : Mem)  (Q : Int → Mem → Prop) : Prop :=
  ((¬ ((h 161 12) = 2) → Q 0 h) ∧ ((h 161 12) = 2 → (InR ((h 161 14) - (h 161 13)) ∧ ((8 < ((h 161 14) - (h 161 13)) → Q 0 h) ∧ (¬ (8 < ((h 161 14) - (h 161 13))) → (F_X12_inWords h  (fun r3 h2 => ((¬ (r3 = (-1)) → Q 0 h2) ∧ (r3 = (-1) → Q 1 h2)))))))))
set_option maxRecDepth 100000 in
set_option maxHeartbeats 4000000 in
theorem f_X12_isName {h : Mem}  {Q : Int → Mem → Prop}  (hF : F_X12_isName h  Q) : Ct yX12_isName cX12_isName 2 (some .boolean) (6, 156) [vr 161, vr 183] h (qi Q) := by
  refine Ct.of np_RX12 (Nat.le_of_ble_eq_true rfl) ?_
  unfold F_X12_isName at hF
  show AW M_X12_isName 0 [(0, vr 161), (1, vr 183)] [] h (qi Q)
  refine aw_aload_n (j := 0) (M := M_X12_isName) (pc := 0) dX12_isName_0 rfl rfl ?_
  refine gf_X12_136 (M := M_X12_isName) (pc := 1) rfl dX12_isName_1 rfl ?_
  refine aw_iconst (M := M_X12_isName) (pc := 4) dX12_isName_4 ⟨by decide, by decide⟩ ?_
  refine aw_icmp_ne (tgt := 35) (M := M_X12_isName) (pc := 5) dX12_isName_5 rfl (fun hc => ?_) (fun hc => ?_)
  · have hF := hF.1 hc
    refine aw_iconst (M := M_X12_isName) (pc := 35) dX12_isName_35 ⟨by decide, by decide⟩ ?_
    exact aw_iretz (M := M_X12_isName) (pc := 36) dX12_isName_36 rfl (Or.inl rfl) ⟨_, rfl, hF⟩
  · have hF := hF.2 hc
    refine aw_aload_n (j := 0) (M := M_X12_isName) (pc := 8) dX12_isName_8 rfl rfl ?_
    refine gf_X12_124 (M := M_X12_isName) (pc := 9) rfl dX12_isName_9 rfl ?_
    refine aw_aload_n (j := 0) (M := M_X12_isName) (pc := 12) dX12_isName_12 rfl rfl ?_
    refine gf_X12_130 (M := M_X12_isName) (pc := 13) rfl dX12_isName_13 rfl ?_
    obtain ⟨o1, hF⟩ := hF
    refine aw_isub (M := M_X12_isName) (pc := 16) dX12_isName_16 rfl o1 ?_
    refine aw_bipush (M := M_X12_isName) (pc := 17) dX12_isName_17 ⟨rfl, ⟨by decide, by decide⟩⟩ ?_
    refine aw_icmp_gt (tgt := 35) (M := M_X12_isName) (pc := 19) dX12_isName_19 rfl (fun hc => ?_) (fun hc => ?_)
    · have hF := hF.1 hc
      refine aw_iconst (M := M_X12_isName) (pc := 35) dX12_isName_35 ⟨by decide, by decide⟩ ?_
      exact aw_iretz (M := M_X12_isName) (pc := 36) dX12_isName_36 rfl (Or.inl rfl) ⟨_, rfl, hF⟩
    · have hF := hF.2 hc
      refine aw_aload_n (j := 0) (M := M_X12_isName) (pc := 22) dX12_isName_22 rfl rfl ?_
      refine aw_aload_n (j := 1) (M := M_X12_isName) (pc := 23) dX12_isName_23 rfl rfl ?_
      refine aw_cvi (as := [vr 183]) (st := []) (M := M_X12_isName) (pc := 24) (f_X12_inWords  hF) dX12_isName_24 rfl (Or.inl ⟨_, _, _, rfl, rfl⟩) cy_X12_inWords ml_X12_176 (by decide) (by decide) (Nat.le_of_ble_eq_true rfl) (fun r3 h2 hF => ?_)
      refine aw_iconst (M := M_X12_isName) (pc := 27) dX12_isName_27 ⟨by decide, by decide⟩ ?_
      refine aw_icmp_ne (tgt := 35) (M := M_X12_isName) (pc := 28) dX12_isName_28 rfl (fun hc => ?_) (fun hc => ?_)
      · have hF := hF.1 hc
        refine aw_iconst (M := M_X12_isName) (pc := 35) dX12_isName_35 ⟨by decide, by decide⟩ ?_
        exact aw_iretz (M := M_X12_isName) (pc := 36) dX12_isName_36 rfl (Or.inl rfl) ⟨_, rfl, hF⟩
      · have hF := hF.2 hc
        refine aw_iconst (M := M_X12_isName) (pc := 31) dX12_isName_31 ⟨by decide, by decide⟩ ?_
        refine aw_goto (tgt := 36) (M := M_X12_isName) (pc := 32) dX12_isName_32 rfl ?_
        exact aw_iretz (M := M_X12_isName) (pc := 36) dX12_isName_36 rfl (Or.inr rfl) ⟨_, rfl, hF⟩
abbrev M_X12_newOne : Hd := (cX12_newOne, 4, RX12, (some .boolean), (7, 177), sc0)
def F_X12_newOne (h : Mem) (a1 : Int) (a2 : Int) (a3 : Int) (Q : Int → Mem → Prop) : Prop :=
  (InR (1792 + a1) ∧ ((0 ≤ (1792 + a1) ∧ (1792 + a1) < 3008) ∧ ((¬ ((h 162 (1792 + a1).toNat) = a2) → (F_X12_ahead h  (fun h4 => (F_X12_isName h4  (fun r7 h6 => ((¬ (r7 = 0) → (F_X12_findHere h6 48 (h6 162 1792) (fun r10 h9 => ((¬ (r10 = (-1)) → (F_X12_fails h9 3 (fun r12 h11 => (InZ r12 ∧ Q r12 h11)))) ∧ (r10 = (-1) → (F_X12_findHere h9 56 (h9 162 1793) (fun r15 h14 => ((r15 = (-1) → (InR (48 + a3) ∧ (InR ((48 + a3) + (h14 162 (1792 + a1).toNat)) ∧ (F_X12_nameHere h14  (fun r20 h19 => ((0 ≤ ((48 + a3) + (h14 162 (1792 + a1).toNat)) ∧ ((48 + a3) + (h14 162 (1792 + a1).toNat)) < 72) ∧ (∀ h22 : Mem, h22 = mset h19 163 ((48 + a3) + (h14 162 (1792 + a1).toNat)).toNat r20 → (F_X12_ahead h22  (fun h23 => Q 1 h23))))))))) ∧ (¬ (r15 = (-1)) → (F_X12_fails h14 3 (fun r26 h25 => (InZ r26 ∧ Q r26 h25)))))))))))) ∧ (r7 = 0 → (F_X12_fails h6 2 (fun r28 h27 => (InZ r28 ∧ Q r28 h27)))))))))) ∧ ((h 162 (1792 + a1).toNat) = a2 → (F_X12_fails h 6 (fun r30 h29 => (InZ r30 ∧ Q r30 h29)))))))
set_option maxRecDepth 100000 in
set_option maxHeartbeats 4000000 in
theorem f_X12_newOne {h : Mem} {a1 : Int} {a2 : Int} {a3 : Int} {Q : Int → Mem → Prop}  (hF : F_X12_newOne h a1 a2 a3 Q) : Ct yX12_newOne cX12_newOne 4 (some .boolean) (7, 177) [vr 161, (0, a1), (0, a2), (0, a3)] h (qi Q) := by
  refine Ct.of np_RX12 (Nat.le_of_ble_eq_true rfl) ?_
  unfold F_X12_newOne at hF
  show AW M_X12_newOne 0 [(0, vr 161), (1, (0, a1)), (2, (0, a2)), (3, (0, a3))] [] h (qi Q)
  refine aw_aload_n (j := 0) (M := M_X12_newOne) (pc := 0) dX12_newOne_0 rfl rfl ?_
  refine gf_X12_7 (M := M_X12_newOne) (pc := 1) rfl dX12_newOne_1 rfl (r := 162) rfl ?_
  refine aw_sipush (M := M_X12_newOne) (pc := 4) dX12_newOne_4 ⟨rfl, ⟨by decide, by decide⟩⟩ ?_
  refine aw_iload_n (j := 1) (M := M_X12_newOne) (pc := 7) dX12_newOne_7 rfl rfl ?_
  obtain ⟨o1, hF⟩ := hF
  refine aw_iadd (M := M_X12_newOne) (pc := 8) dX12_newOne_8 rfl o1 ?_
  obtain ⟨o3, hF⟩ := hF
  refine aw_iald (k := (1792 + a1).toNat) (M := M_X12_newOne) (pc := 9) dX12_newOne_9 rfl o3 rfl ?_
  refine aw_iload_n (j := 2) (M := M_X12_newOne) (pc := 10) dX12_newOne_10 rfl rfl ?_
  refine aw_icmp_ne (tgt := 21) (M := M_X12_newOne) (pc := 11) dX12_newOne_11 rfl (fun hc => ?_) (fun hc => ?_)
  · have hF := hF.1 hc
    refine aw_aload_n (j := 0) (M := M_X12_newOne) (pc := 21) dX12_newOne_21 rfl rfl ?_
    refine aw_cvv (as := []) (st := []) (M := M_X12_newOne) (pc := 22) (f_X12_ahead  hF) dX12_newOne_22 rfl (Or.inl ⟨_, _, _, rfl, rfl⟩) cy_X12_ahead ml_X12_167 (by decide) (by decide) (Nat.le_of_ble_eq_true rfl) (fun h4 hF => ?_)
    refine aw_aload_n (j := 0) (M := M_X12_newOne) (pc := 25) dX12_newOne_25 rfl rfl ?_
    refine aw_ldcM (M := M_X12_newOne) (pc := 26) rfl dX12_newOne_26 ?_
    refine aw_cvi (as := [vr 183]) (st := []) (M := M_X12_newOne) (pc := 28) (f_X12_isName  hF) dX12_newOne_28 rfl (Or.inl ⟨_, _, _, rfl, rfl⟩) cy_X12_isName ml_X12_186 (by decide) (by decide) (Nat.le_of_ble_eq_true rfl) (fun r7 h6 hF => ?_)
    refine aw_if_ne (tgt := 40) (M := M_X12_newOne) (pc := 31) dX12_newOne_31 rfl (fun hc => ?_) (fun hc => ?_)
    · have hF := hF.1 hc
      refine aw_aload_n (j := 0) (M := M_X12_newOne) (pc := 40) dX12_newOne_40 rfl rfl ?_
      refine aw_bipush (M := M_X12_newOne) (pc := 41) dX12_newOne_41 ⟨rfl, ⟨by decide, by decide⟩⟩ ?_
      refine aw_aload_n (j := 0) (M := M_X12_newOne) (pc := 43) dX12_newOne_43 rfl rfl ?_
      refine gf_X12_7 (M := M_X12_newOne) (pc := 44) rfl dX12_newOne_44 rfl (r := 162) rfl ?_
      refine aw_sipush (M := M_X12_newOne) (pc := 47) dX12_newOne_47 ⟨rfl, ⟨by decide, by decide⟩⟩ ?_
      refine aw_iald (k := 1792) (M := M_X12_newOne) (pc := 50) dX12_newOne_50 rfl ⟨by decide, by decide⟩ rfl ?_
      refine aw_cvi (as := [(0, 48), (0, h6 162 1792)]) (st := []) (M := M_X12_newOne) (pc := 51) (f_X12_findHere  hF) dX12_newOne_51 rfl (Or.inl ⟨_, _, _, rfl, rfl⟩) cy_X12_findHere ml_X12_190 (by decide) (by decide) (Nat.le_of_ble_eq_true rfl) (fun r10 h9 hF => ?_)
      refine aw_iconst (M := M_X12_newOne) (pc := 54) dX12_newOne_54 ⟨by decide, by decide⟩ ?_
      refine aw_icmp_ne (tgt := 76) (M := M_X12_newOne) (pc := 55) dX12_newOne_55 rfl (fun hc => ?_) (fun hc => ?_)
      · have hF := hF.1 hc
        refine aw_aload_n (j := 0) (M := M_X12_newOne) (pc := 76) dX12_newOne_76 rfl rfl ?_
        refine aw_iconst (M := M_X12_newOne) (pc := 77) dX12_newOne_77 ⟨by decide, by decide⟩ ?_
        refine aw_cvi (as := [(0, 3)]) (st := []) (M := M_X12_newOne) (pc := 78) (f_X12_fails  hF) dX12_newOne_78 rfl (Or.inl ⟨_, _, _, rfl, rfl⟩) cy_X12_fails ml_X12_173 (by decide) (by decide) (Nat.le_of_ble_eq_true rfl) (fun r12 h11 hF => ?_)
        exact aw_iretz (M := M_X12_newOne) (pc := 81) dX12_newOne_81 rfl hF.1 ⟨_, rfl, hF.2⟩
      · have hF := hF.2 hc
        refine aw_aload_n (j := 0) (M := M_X12_newOne) (pc := 58) dX12_newOne_58 rfl rfl ?_
        refine aw_bipush (M := M_X12_newOne) (pc := 59) dX12_newOne_59 ⟨rfl, ⟨by decide, by decide⟩⟩ ?_
        refine aw_aload_n (j := 0) (M := M_X12_newOne) (pc := 61) dX12_newOne_61 rfl rfl ?_
        refine gf_X12_7 (M := M_X12_newOne) (pc := 62) rfl dX12_newOne_62 rfl (r := 162) rfl ?_
        refine aw_sipush (M := M_X12_newOne) (pc := 65) dX12_newOne_65 ⟨rfl, ⟨by decide, by decide⟩⟩ ?_
        refine aw_iald (k := 1793) (M := M_X12_newOne) (pc := 68) dX12_newOne_68 rfl ⟨by decide, by decide⟩ rfl ?_
        refine aw_cvi (as := [(0, 56), (0, h9 162 1793)]) (st := []) (M := M_X12_newOne) (pc := 69) (f_X12_findHere  hF) dX12_newOne_69 rfl (Or.inl ⟨_, _, _, rfl, rfl⟩) cy_X12_findHere ml_X12_190 (by decide) (by decide) (Nat.le_of_ble_eq_true rfl) (fun r15 h14 hF => ?_)
        refine aw_iconst (M := M_X12_newOne) (pc := 72) dX12_newOne_72 ⟨by decide, by decide⟩ ?_
        refine aw_icmp_eq (tgt := 82) (M := M_X12_newOne) (pc := 73) dX12_newOne_73 rfl (fun hc => ?_) (fun hc => ?_)
        · have hF := hF.1 hc
          refine aw_aload_n (j := 0) (M := M_X12_newOne) (pc := 82) dX12_newOne_82 rfl rfl ?_
          refine gf_X12_13 (M := M_X12_newOne) (pc := 83) rfl dX12_newOne_83 rfl (r := 163) rfl ?_
          refine aw_bipush (M := M_X12_newOne) (pc := 86) dX12_newOne_86 ⟨rfl, ⟨by decide, by decide⟩⟩ ?_
          refine aw_iload_n (j := 3) (M := M_X12_newOne) (pc := 88) dX12_newOne_88 rfl rfl ?_
          obtain ⟨o16, hF⟩ := hF
          refine aw_iadd (M := M_X12_newOne) (pc := 89) dX12_newOne_89 rfl o16 ?_
          refine aw_aload_n (j := 0) (M := M_X12_newOne) (pc := 90) dX12_newOne_90 rfl rfl ?_
          refine gf_X12_7 (M := M_X12_newOne) (pc := 91) rfl dX12_newOne_91 rfl (r := 162) rfl ?_
          refine aw_sipush (M := M_X12_newOne) (pc := 94) dX12_newOne_94 ⟨rfl, ⟨by decide, by decide⟩⟩ ?_
          refine aw_iload_n (j := 1) (M := M_X12_newOne) (pc := 97) dX12_newOne_97 rfl rfl ?_
          refine aw_iadd (M := M_X12_newOne) (pc := 98) dX12_newOne_98 rfl o1 ?_
          refine aw_iald (k := (1792 + a1).toNat) (M := M_X12_newOne) (pc := 99) dX12_newOne_99 rfl o3 rfl ?_
          obtain ⟨o18, hF⟩ := hF
          refine aw_iadd (M := M_X12_newOne) (pc := 100) dX12_newOne_100 rfl o18 ?_
          refine aw_aload_n (j := 0) (M := M_X12_newOne) (pc := 101) dX12_newOne_101 rfl rfl ?_
          refine aw_cvl (as := []) (st := [(0, (48 + a3) + (h14 162 (1792 + a1).toNat)), vr 163]) (M := M_X12_newOne) (pc := 102) (f_X12_nameHere  hF) dX12_newOne_102 rfl (Or.inl ⟨_, _, _, rfl, rfl⟩) cy_X12_nameHere ml_X12_180 (by decide) (by decide) (Nat.le_of_ble_eq_true rfl) (fun r20 h19 hF => ?_)
          obtain ⟨o21, hF⟩ := hF
          refine aw_last (k := ((48 + a3) + (h14 162 (1792 + a1).toNat)).toNat) (M := M_X12_newOne) (pc := 105) dX12_newOne_105 rfl o21 rfl ?_
          obtain ⟨h22, eh22⟩ : ∃ y : Mem, y = mset h19 163 ((48 + a3) + (h14 162 (1792 + a1).toNat)).toNat r20 := ⟨_, rfl⟩
          have hF := hF h22 eh22
          rw [← eh22]
          refine aw_aload_n (j := 0) (M := M_X12_newOne) (pc := 106) dX12_newOne_106 rfl rfl ?_
          refine aw_cvv (as := []) (st := []) (M := M_X12_newOne) (pc := 107) (f_X12_ahead  hF) dX12_newOne_107 rfl (Or.inl ⟨_, _, _, rfl, rfl⟩) cy_X12_ahead ml_X12_167 (by decide) (by decide) (Nat.le_of_ble_eq_true rfl) (fun h23 hF => ?_)
          refine aw_iconst (M := M_X12_newOne) (pc := 110) dX12_newOne_110 ⟨by decide, by decide⟩ ?_
          exact aw_iretz (M := M_X12_newOne) (pc := 111) dX12_newOne_111 rfl (Or.inr rfl) ⟨_, rfl, hF⟩
        · have hF := hF.2 hc
          refine aw_aload_n (j := 0) (M := M_X12_newOne) (pc := 76) dX12_newOne_76 rfl rfl ?_
          refine aw_iconst (M := M_X12_newOne) (pc := 77) dX12_newOne_77 ⟨by decide, by decide⟩ ?_
          refine aw_cvi (as := [(0, 3)]) (st := []) (M := M_X12_newOne) (pc := 78) (f_X12_fails  hF) dX12_newOne_78 rfl (Or.inl ⟨_, _, _, rfl, rfl⟩) cy_X12_fails ml_X12_173 (by decide) (by decide) (Nat.le_of_ble_eq_true rfl) (fun r26 h25 hF => ?_)
          exact aw_iretz (M := M_X12_newOne) (pc := 81) dX12_newOne_81 rfl hF.1 ⟨_, rfl, hF.2⟩
    · have hF := hF.2 hc
      refine aw_aload_n (j := 0) (M := M_X12_newOne) (pc := 34) dX12_newOne_34 rfl rfl ?_
      refine aw_iconst (M := M_X12_newOne) (pc := 35) dX12_newOne_35 ⟨by decide, by decide⟩ ?_
      refine aw_cvi (as := [(0, 2)]) (st := []) (M := M_X12_newOne) (pc := 36) (f_X12_fails  hF) dX12_newOne_36 rfl (Or.inl ⟨_, _, _, rfl, rfl⟩) cy_X12_fails ml_X12_173 (by decide) (by decide) (Nat.le_of_ble_eq_true rfl) (fun r28 h27 hF => ?_)
      exact aw_iretz (M := M_X12_newOne) (pc := 39) dX12_newOne_39 rfl hF.1 ⟨_, rfl, hF.2⟩
  · have hF := hF.2 hc
    refine aw_aload_n (j := 0) (M := M_X12_newOne) (pc := 14) dX12_newOne_14 rfl rfl ?_
    refine aw_bipush (M := M_X12_newOne) (pc := 15) dX12_newOne_15 ⟨rfl, ⟨by decide, by decide⟩⟩ ?_
    refine aw_cvi (as := [(0, 6)]) (st := []) (M := M_X12_newOne) (pc := 17) (f_X12_fails  hF) dX12_newOne_17 rfl (Or.inl ⟨_, _, _, rfl, rfl⟩) cy_X12_fails ml_X12_173 (by decide) (by decide) (Nat.le_of_ble_eq_true rfl) (fun r30 h29 hF => ?_)
    exact aw_iretz (M := M_X12_newOne) (pc := 20) dX12_newOne_20 rfl hF.1 ⟨_, rfl, hF.2⟩
abbrev M_X12_wantWord : Hd := (cX12_wantWord, 3, RX12, (some .boolean), (6, 156), sc0)
def F_X12_wantWord (h : Mem) (a2 : Int) (Q : Int → Mem → Prop) : Prop :=
  (F_X12_inWords h  (fun r2 h1 => ((r2 = a2 → (F_X12_ahead h1  (fun h3 => Q 1 h3))) ∧ (¬ (r2 = a2) → (F_X12_fails h1 2 (fun r6 h5 => (InZ r6 ∧ Q r6 h5)))))))
set_option maxRecDepth 100000 in
set_option maxHeartbeats 4000000 in
theorem f_X12_wantWord {h : Mem} {a2 : Int} {Q : Int → Mem → Prop}  (hF : F_X12_wantWord h a2 Q) : Ct yX12_wantWord cX12_wantWord 3 (some .boolean) (6, 156) [vr 161, vr 183, (0, a2)] h (qi Q) := by
  refine Ct.of np_RX12 (Nat.le_of_ble_eq_true rfl) ?_
  unfold F_X12_wantWord at hF
  show AW M_X12_wantWord 0 [(0, vr 161), (1, vr 183), (2, (0, a2))] [] h (qi Q)
  refine aw_aload_n (j := 0) (M := M_X12_wantWord) (pc := 0) dX12_wantWord_0 rfl rfl ?_
  refine aw_aload_n (j := 1) (M := M_X12_wantWord) (pc := 1) dX12_wantWord_1 rfl rfl ?_
  refine aw_cvi (as := [vr 183]) (st := []) (M := M_X12_wantWord) (pc := 2) (f_X12_inWords  hF) dX12_wantWord_2 rfl (Or.inl ⟨_, _, _, rfl, rfl⟩) cy_X12_inWords ml_X12_176 (by decide) (by decide) (Nat.le_of_ble_eq_true rfl) (fun r2 h1 hF => ?_)
  refine aw_iload_n (j := 2) (M := M_X12_wantWord) (pc := 5) dX12_wantWord_5 rfl rfl ?_
  refine aw_icmp_eq (tgt := 15) (M := M_X12_wantWord) (pc := 6) dX12_wantWord_6 rfl (fun hc => ?_) (fun hc => ?_)
  · have hF := hF.1 hc
    refine aw_aload_n (j := 0) (M := M_X12_wantWord) (pc := 15) dX12_wantWord_15 rfl rfl ?_
    refine aw_cvv (as := []) (st := []) (M := M_X12_wantWord) (pc := 16) (f_X12_ahead  hF) dX12_wantWord_16 rfl (Or.inl ⟨_, _, _, rfl, rfl⟩) cy_X12_ahead ml_X12_167 (by decide) (by decide) (Nat.le_of_ble_eq_true rfl) (fun h3 hF => ?_)
    refine aw_iconst (M := M_X12_wantWord) (pc := 19) dX12_wantWord_19 ⟨by decide, by decide⟩ ?_
    exact aw_iretz (M := M_X12_wantWord) (pc := 20) dX12_wantWord_20 rfl (Or.inr rfl) ⟨_, rfl, hF⟩
  · have hF := hF.2 hc
    refine aw_aload_n (j := 0) (M := M_X12_wantWord) (pc := 9) dX12_wantWord_9 rfl rfl ?_
    refine aw_iconst (M := M_X12_wantWord) (pc := 10) dX12_wantWord_10 ⟨by decide, by decide⟩ ?_
    refine aw_cvi (as := [(0, 2)]) (st := []) (M := M_X12_wantWord) (pc := 11) (f_X12_fails  hF) dX12_wantWord_11 rfl (Or.inl ⟨_, _, _, rfl, rfl⟩) cy_X12_fails ml_X12_173 (by decide) (by decide) (Nat.le_of_ble_eq_true rfl) (fun r6 h5 hF => ?_)
    exact aw_iretz (M := M_X12_wantWord) (pc := 14) dX12_wantWord_14 rfl hF.1 ⟨_, rfl, hF.2⟩
abbrev M_X12_aMill : Hd := (cX12_aMill, 3, RX12, (some .boolean), (8, 200), sc0)
def F_X12_aMill (h : Mem)  (Q : Int → Mem → Prop) : Prop :=
  (F_X12_millRow h (h 162 1793) (fun r3 h2 => (InR (1792 + r3) ∧ (F_X12_newOne h2 1 4 8 (fun r6 h5 => ((r6 = 0 → Q 0 h5) ∧ (¬ (r6 = 0) → (F_X12_wantWord h5 13 (fun r8 h7 => ((r8 = 0 → Q 0 h7) ∧ (¬ (r8 = 0) → (F_X12_newCell h7 (1792 + r3) (fun r10 h9 => ((¬ (r10 = 0) → (F_X12_inWords h9  (fun r12 h11 => ((r12 < 6 → (F_X12_fails h11 2 (fun r14 h13 => (InZ r14 ∧ Q r14 h13)))) ∧ (¬ (r12 < 6) → ((r12 ≤ 8 → (InR ((1792 + r3) + 1) ∧ (InR (r12 - 6) ∧ ((0 ≤ ((1792 + r3) + 1) ∧ ((1792 + r3) + 1) < 3008) ∧ (∀ h18 : Mem, h18 = mset h11 162 ((1792 + r3) + 1).toNat (r12 - 6) → (F_X12_ahead h18  (fun h19 => (InR ((h19 162 1793) + 1) ∧ (∀ h23 : Mem, h23 = mset h19 162 1793 ((h19 162 1793) + 1) → Q 1 h23))))))))) ∧ (¬ (r12 ≤ 8) → (F_X12_fails h11 2 (fun r25 h24 => (InZ r25 ∧ Q r25 h24)))))))))) ∧ (r10 = 0 → Q 0 h9)))))))))))))))
set_option maxRecDepth 100000 in
set_option maxHeartbeats 4000000 in
theorem f_X12_aMill {h : Mem}  {Q : Int → Mem → Prop}  (hF : F_X12_aMill h  Q) : Ct yX12_aMill cX12_aMill 3 (some .boolean) (8, 200) [vr 161] h (qi Q) := by
  refine Ct.of np_RX12 (Nat.le_of_ble_eq_true rfl) ?_
  unfold F_X12_aMill at hF
  show AW M_X12_aMill 0 [(0, vr 161)] [] h (qi Q)
  refine aw_sipush (M := M_X12_aMill) (pc := 0) dX12_aMill_0 ⟨rfl, ⟨by decide, by decide⟩⟩ ?_
  refine aw_aload_n (j := 0) (M := M_X12_aMill) (pc := 3) dX12_aMill_3 rfl rfl ?_
  refine gf_X12_7 (M := M_X12_aMill) (pc := 4) rfl dX12_aMill_4 rfl (r := 162) rfl ?_
  refine aw_sipush (M := M_X12_aMill) (pc := 7) dX12_aMill_7 ⟨rfl, ⟨by decide, by decide⟩⟩ ?_
  refine aw_iald (k := 1793) (M := M_X12_aMill) (pc := 10) dX12_aMill_10 rfl ⟨by decide, by decide⟩ rfl ?_
  refine aw_csi (as := [(0, h 162 1793)]) (st := [(0, 1792)]) (M := M_X12_aMill) (pc := 11) (f_X12_millRow  hF) dX12_aMill_11 rfl cy_X12_millRow ml_X12_213 (by decide) (by decide) (Nat.le_of_ble_eq_true rfl) (fun r3 h2 hF => ?_)
  obtain ⟨o4, hF⟩ := hF
  refine aw_iadd (M := M_X12_aMill) (pc := 14) dX12_aMill_14 rfl o4 ?_
  refine aw_istore_n (ls' := [(1, (0, 1792 + r3)), (0, vr 161)]) (M := M_X12_aMill) (pc := 15) dX12_aMill_15 rfl (by decide) rfl ?_
  refine aw_aload_n (j := 1) (M := M_X12_aMill) (pc := 16) dX12_aMill_16 rfl rfl ?_
  refine aw_iconst (M := M_X12_aMill) (pc := 17) dX12_aMill_17 ⟨by decide, by decide⟩ ?_
  refine aw_iconst (M := M_X12_aMill) (pc := 18) dX12_aMill_18 ⟨by decide, by decide⟩ ?_
  refine aw_bipush (M := M_X12_aMill) (pc := 19) dX12_aMill_19 ⟨rfl, ⟨by decide, by decide⟩⟩ ?_
  refine aw_cvi (as := [(0, 1), (0, 4), (0, 8)]) (st := []) (M := M_X12_aMill) (pc := 21) (f_X12_newOne  hF) dX12_aMill_21 rfl (Or.inl ⟨_, _, _, rfl, rfl⟩) cy_X12_newOne ml_X12_206 (by decide) (by decide) (Nat.le_of_ble_eq_true rfl) (fun r6 h5 hF => ?_)
  refine aw_if_eq (tgt := 46) (M := M_X12_aMill) (pc := 24) dX12_aMill_24 rfl (fun hc => ?_) (fun hc => ?_)
  · have hF := hF.1 hc
    refine aw_iconst (M := M_X12_aMill) (pc := 46) dX12_aMill_46 ⟨by decide, by decide⟩ ?_
    exact aw_iretz (M := M_X12_aMill) (pc := 47) dX12_aMill_47 rfl (Or.inl rfl) ⟨_, rfl, hF⟩
  · have hF := hF.2 hc
    refine aw_aload_n (j := 1) (M := M_X12_aMill) (pc := 27) dX12_aMill_27 rfl rfl ?_
    refine aw_ldcM (M := M_X12_aMill) (pc := 28) rfl dX12_aMill_28 ?_
    refine aw_bipush (M := M_X12_aMill) (pc := 30) dX12_aMill_30 ⟨rfl, ⟨by decide, by decide⟩⟩ ?_
    refine aw_cvi (as := [vr 183, (0, 13)]) (st := []) (M := M_X12_aMill) (pc := 32) (f_X12_wantWord  hF) dX12_aMill_32 rfl (Or.inl ⟨_, _, _, rfl, rfl⟩) cy_X12_wantWord ml_X12_209 (by decide) (by decide) (Nat.le_of_ble_eq_true rfl) (fun r8 h7 hF => ?_)
    refine aw_if_eq (tgt := 46) (M := M_X12_aMill) (pc := 35) dX12_aMill_35 rfl (fun hc => ?_) (fun hc => ?_)
    · have hF := hF.1 hc
      refine aw_iconst (M := M_X12_aMill) (pc := 46) dX12_aMill_46 ⟨by decide, by decide⟩ ?_
      exact aw_iretz (M := M_X12_aMill) (pc := 47) dX12_aMill_47 rfl (Or.inl rfl) ⟨_, rfl, hF⟩
    · have hF := hF.2 hc
      refine aw_aload_n (j := 1) (M := M_X12_aMill) (pc := 38) dX12_aMill_38 rfl rfl ?_
      refine aw_iload_n (j := 0) (M := M_X12_aMill) (pc := 39) dX12_aMill_39 rfl rfl ?_
      refine aw_cvi (as := [(0, 1792 + r3)]) (st := []) (M := M_X12_aMill) (pc := 40) (f_X12_newCell  hF) dX12_aMill_40 rfl (Or.inl ⟨_, _, _, rfl, rfl⟩) cy_X12_newCell ml_X12_197 (by decide) (by decide) (Nat.le_of_ble_eq_true rfl) (fun r10 h9 hF => ?_)
      refine aw_if_ne (tgt := 48) (M := M_X12_aMill) (pc := 43) dX12_aMill_43 rfl (fun hc => ?_) (fun hc => ?_)
      · have hF := hF.1 hc
        refine aw_aload_n (j := 1) (M := M_X12_aMill) (pc := 48) dX12_aMill_48 rfl rfl ?_
        refine aw_ldcM (M := M_X12_aMill) (pc := 49) rfl dX12_aMill_49 ?_
        refine aw_cvi (as := [vr 183]) (st := []) (M := M_X12_aMill) (pc := 51) (f_X12_inWords  hF) dX12_aMill_51 rfl (Or.inl ⟨_, _, _, rfl, rfl⟩) cy_X12_inWords ml_X12_176 (by decide) (by decide) (Nat.le_of_ble_eq_true rfl) (fun r12 h11 hF => ?_)
        refine aw_istore_n (ls' := [(2, (0, r12)), (1, (0, 1792 + r3)), (0, vr 161)]) (M := M_X12_aMill) (pc := 54) dX12_aMill_54 rfl (by decide) rfl ?_
        refine aw_iload_n (j := 0) (M := M_X12_aMill) (pc := 55) dX12_aMill_55 rfl rfl ?_
        refine aw_bipush (M := M_X12_aMill) (pc := 56) dX12_aMill_56 ⟨rfl, ⟨by decide, by decide⟩⟩ ?_
        refine aw_icmp_lt (tgt := 67) (M := M_X12_aMill) (pc := 58) dX12_aMill_58 rfl (fun hc => ?_) (fun hc => ?_)
        · have hF := hF.1 hc
          refine aw_aload_n (j := 2) (M := M_X12_aMill) (pc := 67) dX12_aMill_67 rfl rfl ?_
          refine aw_iconst (M := M_X12_aMill) (pc := 68) dX12_aMill_68 ⟨by decide, by decide⟩ ?_
          refine aw_cvi (as := [(0, 2)]) (st := []) (M := M_X12_aMill) (pc := 69) (f_X12_fails  hF) dX12_aMill_69 rfl (Or.inl ⟨_, _, _, rfl, rfl⟩) cy_X12_fails ml_X12_173 (by decide) (by decide) (Nat.le_of_ble_eq_true rfl) (fun r14 h13 hF => ?_)
          exact aw_iretz (M := M_X12_aMill) (pc := 72) dX12_aMill_72 rfl hF.1 ⟨_, rfl, hF.2⟩
        · have hF := hF.2 hc
          refine aw_iload_n (j := 0) (M := M_X12_aMill) (pc := 61) dX12_aMill_61 rfl rfl ?_
          refine aw_bipush (M := M_X12_aMill) (pc := 62) dX12_aMill_62 ⟨rfl, ⟨by decide, by decide⟩⟩ ?_
          refine aw_icmp_le (tgt := 73) (M := M_X12_aMill) (pc := 64) dX12_aMill_64 rfl (fun hc => ?_) (fun hc => ?_)
          · have hF := hF.1 hc
            refine aw_aload_n (j := 2) (M := M_X12_aMill) (pc := 73) dX12_aMill_73 rfl rfl ?_
            refine gf_X12_7 (M := M_X12_aMill) (pc := 74) rfl dX12_aMill_74 rfl (r := 162) rfl ?_
            refine aw_iload_n (j := 1) (M := M_X12_aMill) (pc := 77) dX12_aMill_77 rfl rfl ?_
            refine aw_iconst (M := M_X12_aMill) (pc := 78) dX12_aMill_78 ⟨by decide, by decide⟩ ?_
            obtain ⟨o15, hF⟩ := hF
            refine aw_iadd (M := M_X12_aMill) (pc := 79) dX12_aMill_79 rfl o15 ?_
            refine aw_iload_n (j := 0) (M := M_X12_aMill) (pc := 80) dX12_aMill_80 rfl rfl ?_
            refine aw_bipush (M := M_X12_aMill) (pc := 81) dX12_aMill_81 ⟨rfl, ⟨by decide, by decide⟩⟩ ?_
            obtain ⟨o16, hF⟩ := hF
            refine aw_isub (M := M_X12_aMill) (pc := 83) dX12_aMill_83 rfl o16 ?_
            obtain ⟨o17, hF⟩ := hF
            refine aw_iast (k := ((1792 + r3) + 1).toNat) (M := M_X12_aMill) (pc := 84) dX12_aMill_84 rfl o17 rfl ?_
            obtain ⟨h18, eh18⟩ : ∃ y : Mem, y = mset h11 162 ((1792 + r3) + 1).toNat (r12 - 6) := ⟨_, rfl⟩
            have hF := hF h18 eh18
            rw [← eh18]
            refine aw_aload_n (j := 2) (M := M_X12_aMill) (pc := 85) dX12_aMill_85 rfl rfl ?_
            refine aw_cvv (as := []) (st := []) (M := M_X12_aMill) (pc := 86) (f_X12_ahead  hF) dX12_aMill_86 rfl (Or.inl ⟨_, _, _, rfl, rfl⟩) cy_X12_ahead ml_X12_167 (by decide) (by decide) (Nat.le_of_ble_eq_true rfl) (fun h19 hF => ?_)
            refine aw_aload_n (j := 2) (M := M_X12_aMill) (pc := 89) dX12_aMill_89 rfl rfl ?_
            refine gf_X12_7 (M := M_X12_aMill) (pc := 90) rfl dX12_aMill_90 rfl (r := 162) rfl ?_
            refine aw_sipush (M := M_X12_aMill) (pc := 93) dX12_aMill_93 ⟨rfl, ⟨by decide, by decide⟩⟩ ?_
            refine aw_dup2 (M := M_X12_aMill) (pc := 96) dX12_aMill_96 rfl rfl ?_
            refine aw_iald (k := 1793) (M := M_X12_aMill) (pc := 97) dX12_aMill_97 rfl ⟨by decide, by decide⟩ rfl ?_
            refine aw_iconst (M := M_X12_aMill) (pc := 98) dX12_aMill_98 ⟨by decide, by decide⟩ ?_
            obtain ⟨o22, hF⟩ := hF
            refine aw_iadd (M := M_X12_aMill) (pc := 99) dX12_aMill_99 rfl o22 ?_
            refine aw_iast (k := 1793) (M := M_X12_aMill) (pc := 100) dX12_aMill_100 rfl ⟨by decide, by decide⟩ rfl ?_
            obtain ⟨h23, eh23⟩ : ∃ y : Mem, y = mset h19 162 1793 ((h19 162 1793) + 1) := ⟨_, rfl⟩
            have hF := hF h23 eh23
            rw [← eh23]
            refine aw_iconst (M := M_X12_aMill) (pc := 101) dX12_aMill_101 ⟨by decide, by decide⟩ ?_
            exact aw_iretz (M := M_X12_aMill) (pc := 102) dX12_aMill_102 rfl (Or.inr rfl) ⟨_, rfl, hF⟩
          · have hF := hF.2 hc
            refine aw_aload_n (j := 2) (M := M_X12_aMill) (pc := 67) dX12_aMill_67 rfl rfl ?_
            refine aw_iconst (M := M_X12_aMill) (pc := 68) dX12_aMill_68 ⟨by decide, by decide⟩ ?_
            refine aw_cvi (as := [(0, 2)]) (st := []) (M := M_X12_aMill) (pc := 69) (f_X12_fails  hF) dX12_aMill_69 rfl (Or.inl ⟨_, _, _, rfl, rfl⟩) cy_X12_fails ml_X12_173 (by decide) (by decide) (Nat.le_of_ble_eq_true rfl) (fun r25 h24 hF => ?_)
            exact aw_iretz (M := M_X12_aMill) (pc := 72) dX12_aMill_72 rfl hF.1 ⟨_, rfl, hF.2⟩
      · have hF := hF.2 hc
        refine aw_iconst (M := M_X12_aMill) (pc := 46) dX12_aMill_46 ⟨by decide, by decide⟩ ?_
        exact aw_iretz (M := M_X12_aMill) (pc := 47) dX12_aMill_47 rfl (Or.inl rfl) ⟨_, rfl, hF⟩
abbrev M_X12_isThere : Hd := (cX12_isThere, 2, RX12, (some .boolean), (6, 156), sc0)
def F_X12_isThere (h : Mem) (a1 : Int) (Q : Int → Mem → Prop) : Prop :=
  (F_X12_inWords h  (fun r2 h1 => ((r2 = a1 → (F_X12_ahead h1  (fun h3 => Q 1 h3))) ∧ (¬ (r2 = a1) → Q 0 h1))))
set_option maxRecDepth 100000 in
set_option maxHeartbeats 4000000 in
theorem f_X12_isThere {h : Mem} {a1 : Int} {Q : Int → Mem → Prop}  (hF : F_X12_isThere h a1 Q) : Ct yX12_isThere cX12_isThere 2 (some .boolean) (6, 156) [vr 161, (0, a1)] h (qi Q) := by
  refine Ct.of np_RX12 (Nat.le_of_ble_eq_true rfl) ?_
  unfold F_X12_isThere at hF
  show AW M_X12_isThere 0 [(0, vr 161), (1, (0, a1))] [] h (qi Q)
  refine aw_aload_n (j := 0) (M := M_X12_isThere) (pc := 0) dX12_isThere_0 rfl rfl ?_
  refine aw_ldcM (M := M_X12_isThere) (pc := 1) rfl dX12_isThere_1 ?_
  refine aw_cvi (as := [vr 183]) (st := []) (M := M_X12_isThere) (pc := 3) (f_X12_inWords  hF) dX12_isThere_3 rfl (Or.inl ⟨_, _, _, rfl, rfl⟩) cy_X12_inWords ml_X12_176 (by decide) (by decide) (Nat.le_of_ble_eq_true rfl) (fun r2 h1 hF => ?_)
  refine aw_iload_n (j := 1) (M := M_X12_isThere) (pc := 6) dX12_isThere_6 rfl rfl ?_
  refine aw_icmp_eq (tgt := 12) (M := M_X12_isThere) (pc := 7) dX12_isThere_7 rfl (fun hc => ?_) (fun hc => ?_)
  · have hF := hF.1 hc
    refine aw_aload_n (j := 0) (M := M_X12_isThere) (pc := 12) dX12_isThere_12 rfl rfl ?_
    refine aw_cvv (as := []) (st := []) (M := M_X12_isThere) (pc := 13) (f_X12_ahead  hF) dX12_isThere_13 rfl (Or.inl ⟨_, _, _, rfl, rfl⟩) cy_X12_ahead ml_X12_167 (by decide) (by decide) (Nat.le_of_ble_eq_true rfl) (fun h3 hF => ?_)
    refine aw_iconst (M := M_X12_isThere) (pc := 16) dX12_isThere_16 ⟨by decide, by decide⟩ ?_
    exact aw_iretz (M := M_X12_isThere) (pc := 17) dX12_isThere_17 rfl (Or.inr rfl) ⟨_, rfl, hF⟩
  · have hF := hF.2 hc
    refine aw_iconst (M := M_X12_isThere) (pc := 10) dX12_isThere_10 ⟨by decide, by decide⟩ ?_
    exact aw_iretz (M := M_X12_isThere) (pc := 11) dX12_isThere_11 rfl (Or.inl rfl) ⟨_, rfl, hF⟩
abbrev M_X12_aStream : Hd := (cX12_aStream, 1, RX12, (some .boolean), (7, 177), sc0)
def F_X12_aStream (h : Mem)  (Q : Int → Mem → Prop) : Prop :=
  (F_X12_newCell h 1798 (fun r2 h1 => ((¬ (r2 = 0) → (F_X12_isThere h1 6 (fun r4 h3 => ((r4 = 0 → Q 1 h3) ∧ (¬ (r4 = 0) → (∀ h5 : Mem, h5 = mset h3 162 1799 0 → Q 1 h5)))))) ∧ (r2 = 0 → Q 0 h1))))
set_option maxRecDepth 100000 in
set_option maxHeartbeats 4000000 in
theorem f_X12_aStream {h : Mem}  {Q : Int → Mem → Prop}  (hF : F_X12_aStream h  Q) : Ct yX12_aStream cX12_aStream 1 (some .boolean) (7, 177) [vr 161] h (qi Q) := by
  refine Ct.of np_RX12 (Nat.le_of_ble_eq_true rfl) ?_
  unfold F_X12_aStream at hF
  show AW M_X12_aStream 0 [(0, vr 161)] [] h (qi Q)
  refine aw_aload_n (j := 0) (M := M_X12_aStream) (pc := 0) dX12_aStream_0 rfl rfl ?_
  refine aw_sipush (M := M_X12_aStream) (pc := 1) dX12_aStream_1 ⟨rfl, ⟨by decide, by decide⟩⟩ ?_
  refine aw_cvi (as := [(0, 1798)]) (st := []) (M := M_X12_aStream) (pc := 4) (f_X12_newCell  hF) dX12_aStream_4 rfl (Or.inl ⟨_, _, _, rfl, rfl⟩) cy_X12_newCell ml_X12_197 (by decide) (by decide) (Nat.le_of_ble_eq_true rfl) (fun r2 h1 hF => ?_)
  refine aw_if_ne (tgt := 12) (M := M_X12_aStream) (pc := 7) dX12_aStream_7 rfl (fun hc => ?_) (fun hc => ?_)
  · have hF := hF.1 hc
    refine aw_aload_n (j := 0) (M := M_X12_aStream) (pc := 12) dX12_aStream_12 rfl rfl ?_
    refine aw_bipush (M := M_X12_aStream) (pc := 13) dX12_aStream_13 ⟨rfl, ⟨by decide, by decide⟩⟩ ?_
    refine aw_cvi (as := [(0, 6)]) (st := []) (M := M_X12_aStream) (pc := 15) (f_X12_isThere  hF) dX12_aStream_15 rfl (Or.inl ⟨_, _, _, rfl, rfl⟩) cy_X12_isThere ml_X12_200 (by decide) (by decide) (Nat.le_of_ble_eq_true rfl) (fun r4 h3 hF => ?_)
    refine aw_if_eq (tgt := 30) (M := M_X12_aStream) (pc := 18) dX12_aStream_18 rfl (fun hc => ?_) (fun hc => ?_)
    · have hF := hF.1 hc
      refine aw_iconst (M := M_X12_aStream) (pc := 30) dX12_aStream_30 ⟨by decide, by decide⟩ ?_
      exact aw_iretz (M := M_X12_aStream) (pc := 31) dX12_aStream_31 rfl (Or.inr rfl) ⟨_, rfl, hF⟩
    · have hF := hF.2 hc
      refine aw_aload_n (j := 0) (M := M_X12_aStream) (pc := 21) dX12_aStream_21 rfl rfl ?_
      refine gf_X12_7 (M := M_X12_aStream) (pc := 22) rfl dX12_aStream_22 rfl (r := 162) rfl ?_
      refine aw_sipush (M := M_X12_aStream) (pc := 25) dX12_aStream_25 ⟨rfl, ⟨by decide, by decide⟩⟩ ?_
      refine aw_iconst (M := M_X12_aStream) (pc := 28) dX12_aStream_28 ⟨by decide, by decide⟩ ?_
      refine aw_iast (k := 1799) (M := M_X12_aStream) (pc := 29) dX12_aStream_29 rfl ⟨by decide, by decide⟩ rfl ?_
      obtain ⟨h5, eh5⟩ : ∃ y : Mem, y = mset h3 162 1799 0 := ⟨_, rfl⟩
      have hF := hF h5 eh5
      rw [← eh5]
      refine aw_iconst (M := M_X12_aStream) (pc := 30) dX12_aStream_30 ⟨by decide, by decide⟩ ?_
      exact aw_iretz (M := M_X12_aStream) (pc := 31) dX12_aStream_31 rfl (Or.inr rfl) ⟨_, rfl, hF⟩
  · have hF := hF.2 hc
    refine aw_iconst (M := M_X12_aStream) (pc := 10) dX12_aStream_10 ⟨by decide, by decide⟩ ?_
    exact aw_iretz (M := M_X12_aStream) (pc := 11) dX12_aStream_11 rfl (Or.inl rfl) ⟨_, rfl, hF⟩
abbrev M_X12_thingRow : Hd := (cX12_thingRow, 1, RX12, (some .int), (1, 45), sc0)
def F_X12_thingRow (h : Mem) (a1 : Int) (Q : Int → Mem → Prop) : Prop :=
  (InR (7 * a1) ∧ (InR (12 + (7 * a1)) ∧ Q (12 + (7 * a1)) h))
set_option maxRecDepth 100000 in
set_option maxHeartbeats 4000000 in
theorem f_X12_thingRow {h : Mem} {a1 : Int} {Q : Int → Mem → Prop}  (hF : F_X12_thingRow h a1 Q) : Ct yX12_thingRow cX12_thingRow 1 (some .int) (1, 45) [(0, a1)] h (qi Q) := by
  refine Ct.of np_RX12 (Nat.le_of_ble_eq_true rfl) ?_
  unfold F_X12_thingRow at hF
  show AW M_X12_thingRow 0 [(0, (0, a1))] [] h (qi Q)
  refine aw_bipush (M := M_X12_thingRow) (pc := 0) dX12_thingRow_0 ⟨rfl, ⟨by decide, by decide⟩⟩ ?_
  refine aw_bipush (M := M_X12_thingRow) (pc := 2) dX12_thingRow_2 ⟨rfl, ⟨by decide, by decide⟩⟩ ?_
  refine aw_iload_n (j := 0) (M := M_X12_thingRow) (pc := 4) dX12_thingRow_4 rfl rfl ?_
  obtain ⟨o1, hF⟩ := hF
  refine aw_imul (M := M_X12_thingRow) (pc := 5) dX12_thingRow_5 rfl o1 ?_
  obtain ⟨o2, hF⟩ := hF
  refine aw_iadd (M := M_X12_thingRow) (pc := 6) dX12_thingRow_6 rfl o2 ?_
  exact aw_ireti (M := M_X12_thingRow) (pc := 7) dX12_thingRow_7 rfl ⟨_, rfl, hF⟩
abbrev M_X12_aThing : Hd := (cX12_aThing, 2, RX12, (some .boolean), (8, 200), sc0)
def J_X12_aThing_131 (h : Mem)  (Q : Int → Mem → Prop) : Prop :=
  (InR ((h 162 1792) + 1) ∧ (∀ h31 : Mem, h31 = mset h 162 1792 ((h 162 1792) + 1) → Q 1 h31))
set_option maxRecDepth 100000 in
set_option maxHeartbeats 4000000 in
theorem j_X12_aThing_131 {h : Mem}  {Q : Int → Mem → Prop}  (hF : J_X12_aThing_131 h  Q) : AW M_X12_aThing 131 [(0, vr 161)] [] h (qi Q) := by
  unfold J_X12_aThing_131 at hF
  refine aw_aload_n (j := 0) (M := M_X12_aThing) (pc := 131) dX12_aThing_131 rfl rfl ?_
  refine gf_X12_7 (M := M_X12_aThing) (pc := 132) rfl dX12_aThing_132 rfl (r := 162) rfl ?_
  refine aw_sipush (M := M_X12_aThing) (pc := 135) dX12_aThing_135 ⟨rfl, ⟨by decide, by decide⟩⟩ ?_
  refine aw_dup2 (M := M_X12_aThing) (pc := 138) dX12_aThing_138 rfl rfl ?_
  refine aw_iald (k := 1792) (M := M_X12_aThing) (pc := 139) dX12_aThing_139 rfl ⟨by decide, by decide⟩ rfl ?_
  refine aw_iconst (M := M_X12_aThing) (pc := 140) dX12_aThing_140 ⟨by decide, by decide⟩ ?_
  obtain ⟨o30, hF⟩ := hF
  refine aw_iadd (M := M_X12_aThing) (pc := 141) dX12_aThing_141 rfl o30 ?_
  refine aw_iast (k := 1792) (M := M_X12_aThing) (pc := 142) dX12_aThing_142 rfl ⟨by decide, by decide⟩ rfl ?_
  obtain ⟨h31, eh31⟩ : ∃ y : Mem, y = mset h 162 1792 ((h 162 1792) + 1) := ⟨_, rfl⟩
  have hF := hF h31 eh31
  rw [← eh31]
  refine aw_iconst (M := M_X12_aThing) (pc := 143) dX12_aThing_143 ⟨by decide, by decide⟩ ?_
  exact aw_iretz (M := M_X12_aThing) (pc := 144) dX12_aThing_144 rfl (Or.inr rfl) ⟨_, rfl, hF⟩
def F_X12_aThing (h : Mem)  (Q : Int → Mem → Prop) : Prop :=
  (F_X12_thingRow h (h 162 1792) (fun r3 h2 => (InR (1792 + r3) ∧ (F_X12_newOne h2 0 8 0 (fun r6 h5 => ((r6 = 0 → Q 0 h5) ∧ (¬ (r6 = 0) → (F_X12_wantWord h5 9 (fun r8 h7 => ((r8 = 0 → Q 0 h7) ∧ (¬ (r8 = 0) → (F_X12_number h7 (1792 + r3) 0 9 (fun r10 h9 => ((¬ (r10 = 0) → (F_X12_wantWord h9 10 (fun r12 h11 => ((r12 = 0 → Q 0 h11) ∧ (¬ (r12 = 0) → (InR ((1792 + r3) + 1) ∧ (F_X12_number h11 ((1792 + r3) + 1) 1 24 (fun r15 h14 => ((r15 = 0 → Q 0 h14) ∧ (¬ (r15 = 0) → (F_X12_wantWord h14 11 (fun r17 h16 => ((r17 = 0 → Q 0 h16) ∧ (¬ (r17 = 0) → (InR ((1792 + r3) + 2) ∧ (F_X12_number h16 ((1792 + r3) + 2) 1 24 (fun r20 h19 => ((¬ (r20 = 0) → (F_X12_isThere h19 12 (fun r22 h21 => ((r22 = 0 → J_X12_aThing_131 h21  Q) ∧ (¬ (r22 = 0) → (InR ((1792 + r3) + 4) ∧ (F_X12_newCell h21 ((1792 + r3) + 4) (fun r25 h24 => ((¬ (r25 = 0) → (InR ((1792 + r3) + 3) ∧ ((0 ≤ ((1792 + r3) + 3) ∧ ((1792 + r3) + 3) < 3008) ∧ (∀ h28 : Mem, h28 = mset h24 162 ((1792 + r3) + 3).toNat 1 → J_X12_aThing_131 h28  Q)))) ∧ (r25 = 0 → Q 0 h24)))))))))) ∧ (r20 = 0 → Q 0 h19))))))))))))))))))) ∧ (r10 = 0 → Q 0 h9)))))))))))))))
set_option maxRecDepth 100000 in
set_option maxHeartbeats 4000000 in
theorem f_X12_aThing {h : Mem}  {Q : Int → Mem → Prop}  (hF : F_X12_aThing h  Q) : Ct yX12_aThing cX12_aThing 2 (some .boolean) (8, 200) [vr 161] h (qi Q) := by
  refine Ct.of np_RX12 (Nat.le_of_ble_eq_true rfl) ?_
  unfold F_X12_aThing at hF
  show AW M_X12_aThing 0 [(0, vr 161)] [] h (qi Q)
  refine aw_sipush (M := M_X12_aThing) (pc := 0) dX12_aThing_0 ⟨rfl, ⟨by decide, by decide⟩⟩ ?_
  refine aw_aload_n (j := 0) (M := M_X12_aThing) (pc := 3) dX12_aThing_3 rfl rfl ?_
  refine gf_X12_7 (M := M_X12_aThing) (pc := 4) rfl dX12_aThing_4 rfl (r := 162) rfl ?_
  refine aw_sipush (M := M_X12_aThing) (pc := 7) dX12_aThing_7 ⟨rfl, ⟨by decide, by decide⟩⟩ ?_
  refine aw_iald (k := 1792) (M := M_X12_aThing) (pc := 10) dX12_aThing_10 rfl ⟨by decide, by decide⟩ rfl ?_
  refine aw_csi (as := [(0, h 162 1792)]) (st := [(0, 1792)]) (M := M_X12_aThing) (pc := 11) (f_X12_thingRow  hF) dX12_aThing_11 rfl cy_X12_thingRow ml_X12_203 (by decide) (by decide) (Nat.le_of_ble_eq_true rfl) (fun r3 h2 hF => ?_)
  obtain ⟨o4, hF⟩ := hF
  refine aw_iadd (M := M_X12_aThing) (pc := 14) dX12_aThing_14 rfl o4 ?_
  refine aw_istore_n (ls' := [(1, (0, 1792 + r3)), (0, vr 161)]) (M := M_X12_aThing) (pc := 15) dX12_aThing_15 rfl (by decide) rfl ?_
  refine aw_aload_n (j := 1) (M := M_X12_aThing) (pc := 16) dX12_aThing_16 rfl rfl ?_
  refine aw_iconst (M := M_X12_aThing) (pc := 17) dX12_aThing_17 ⟨by decide, by decide⟩ ?_
  refine aw_bipush (M := M_X12_aThing) (pc := 18) dX12_aThing_18 ⟨rfl, ⟨by decide, by decide⟩⟩ ?_
  refine aw_iconst (M := M_X12_aThing) (pc := 20) dX12_aThing_20 ⟨by decide, by decide⟩ ?_
  refine aw_cvi (as := [(0, 0), (0, 8), (0, 0)]) (st := []) (M := M_X12_aThing) (pc := 21) (f_X12_newOne  hF) dX12_aThing_21 rfl (Or.inl ⟨_, _, _, rfl, rfl⟩) cy_X12_newOne ml_X12_206 (by decide) (by decide) (Nat.le_of_ble_eq_true rfl) (fun r6 h5 hF => ?_)
  refine aw_if_eq (tgt := 49) (M := M_X12_aThing) (pc := 24) dX12_aThing_24 rfl (fun hc => ?_) (fun hc => ?_)
  · have hF := hF.1 hc
    refine aw_iconst (M := M_X12_aThing) (pc := 49) dX12_aThing_49 ⟨by decide, by decide⟩ ?_
    exact aw_iretz (M := M_X12_aThing) (pc := 50) dX12_aThing_50 rfl (Or.inl rfl) ⟨_, rfl, hF⟩
  · have hF := hF.2 hc
    refine aw_aload_n (j := 1) (M := M_X12_aThing) (pc := 27) dX12_aThing_27 rfl rfl ?_
    refine aw_ldcM (M := M_X12_aThing) (pc := 28) rfl dX12_aThing_28 ?_
    refine aw_bipush (M := M_X12_aThing) (pc := 30) dX12_aThing_30 ⟨rfl, ⟨by decide, by decide⟩⟩ ?_
    refine aw_cvi (as := [vr 183, (0, 9)]) (st := []) (M := M_X12_aThing) (pc := 32) (f_X12_wantWord  hF) dX12_aThing_32 rfl (Or.inl ⟨_, _, _, rfl, rfl⟩) cy_X12_wantWord ml_X12_209 (by decide) (by decide) (Nat.le_of_ble_eq_true rfl) (fun r8 h7 hF => ?_)
    refine aw_if_eq (tgt := 49) (M := M_X12_aThing) (pc := 35) dX12_aThing_35 rfl (fun hc => ?_) (fun hc => ?_)
    · have hF := hF.1 hc
      refine aw_iconst (M := M_X12_aThing) (pc := 49) dX12_aThing_49 ⟨by decide, by decide⟩ ?_
      exact aw_iretz (M := M_X12_aThing) (pc := 50) dX12_aThing_50 rfl (Or.inl rfl) ⟨_, rfl, hF⟩
    · have hF := hF.2 hc
      refine aw_aload_n (j := 1) (M := M_X12_aThing) (pc := 38) dX12_aThing_38 rfl rfl ?_
      refine aw_iload_n (j := 0) (M := M_X12_aThing) (pc := 39) dX12_aThing_39 rfl rfl ?_
      refine aw_iconst (M := M_X12_aThing) (pc := 40) dX12_aThing_40 ⟨by decide, by decide⟩ ?_
      refine aw_bipush (M := M_X12_aThing) (pc := 41) dX12_aThing_41 ⟨rfl, ⟨by decide, by decide⟩⟩ ?_
      refine aw_cvi (as := [(0, 1792 + r3), (0, 0), (0, 9)]) (st := []) (M := M_X12_aThing) (pc := 43) (f_X12_number  hF) dX12_aThing_43 rfl (Or.inl ⟨_, _, _, rfl, rfl⟩) cy_X12_number ml_X12_193 (by decide) (by decide) (Nat.le_of_ble_eq_true rfl) (fun r10 h9 hF => ?_)
      refine aw_if_ne (tgt := 51) (M := M_X12_aThing) (pc := 46) dX12_aThing_46 rfl (fun hc => ?_) (fun hc => ?_)
      · have hF := hF.1 hc
        refine aw_aload_n (j := 1) (M := M_X12_aThing) (pc := 51) dX12_aThing_51 rfl rfl ?_
        refine aw_ldcM (M := M_X12_aThing) (pc := 52) rfl dX12_aThing_52 ?_
        refine aw_bipush (M := M_X12_aThing) (pc := 54) dX12_aThing_54 ⟨rfl, ⟨by decide, by decide⟩⟩ ?_
        refine aw_cvi (as := [vr 183, (0, 10)]) (st := []) (M := M_X12_aThing) (pc := 56) (f_X12_wantWord  hF) dX12_aThing_56 rfl (Or.inl ⟨_, _, _, rfl, rfl⟩) cy_X12_wantWord ml_X12_209 (by decide) (by decide) (Nat.le_of_ble_eq_true rfl) (fun r12 h11 hF => ?_)
        refine aw_if_eq (tgt := 99) (M := M_X12_aThing) (pc := 59) dX12_aThing_59 rfl (fun hc => ?_) (fun hc => ?_)
        · have hF := hF.1 hc
          refine aw_iconst (M := M_X12_aThing) (pc := 99) dX12_aThing_99 ⟨by decide, by decide⟩ ?_
          exact aw_iretz (M := M_X12_aThing) (pc := 100) dX12_aThing_100 rfl (Or.inl rfl) ⟨_, rfl, hF⟩
        · have hF := hF.2 hc
          refine aw_aload_n (j := 1) (M := M_X12_aThing) (pc := 62) dX12_aThing_62 rfl rfl ?_
          refine aw_iload_n (j := 0) (M := M_X12_aThing) (pc := 63) dX12_aThing_63 rfl rfl ?_
          refine aw_iconst (M := M_X12_aThing) (pc := 64) dX12_aThing_64 ⟨by decide, by decide⟩ ?_
          obtain ⟨o13, hF⟩ := hF
          refine aw_iadd (M := M_X12_aThing) (pc := 65) dX12_aThing_65 rfl o13 ?_
          refine aw_iconst (M := M_X12_aThing) (pc := 66) dX12_aThing_66 ⟨by decide, by decide⟩ ?_
          refine aw_bipush (M := M_X12_aThing) (pc := 67) dX12_aThing_67 ⟨rfl, ⟨by decide, by decide⟩⟩ ?_
          refine aw_cvi (as := [(0, (1792 + r3) + 1), (0, 1), (0, 24)]) (st := []) (M := M_X12_aThing) (pc := 69) (f_X12_number  hF) dX12_aThing_69 rfl (Or.inl ⟨_, _, _, rfl, rfl⟩) cy_X12_number ml_X12_193 (by decide) (by decide) (Nat.le_of_ble_eq_true rfl) (fun r15 h14 hF => ?_)
          refine aw_if_eq (tgt := 99) (M := M_X12_aThing) (pc := 72) dX12_aThing_72 rfl (fun hc => ?_) (fun hc => ?_)
          · have hF := hF.1 hc
            refine aw_iconst (M := M_X12_aThing) (pc := 99) dX12_aThing_99 ⟨by decide, by decide⟩ ?_
            exact aw_iretz (M := M_X12_aThing) (pc := 100) dX12_aThing_100 rfl (Or.inl rfl) ⟨_, rfl, hF⟩
          · have hF := hF.2 hc
            refine aw_aload_n (j := 1) (M := M_X12_aThing) (pc := 75) dX12_aThing_75 rfl rfl ?_
            refine aw_ldcM (M := M_X12_aThing) (pc := 76) rfl dX12_aThing_76 ?_
            refine aw_bipush (M := M_X12_aThing) (pc := 78) dX12_aThing_78 ⟨rfl, ⟨by decide, by decide⟩⟩ ?_
            refine aw_cvi (as := [vr 183, (0, 11)]) (st := []) (M := M_X12_aThing) (pc := 80) (f_X12_wantWord  hF) dX12_aThing_80 rfl (Or.inl ⟨_, _, _, rfl, rfl⟩) cy_X12_wantWord ml_X12_209 (by decide) (by decide) (Nat.le_of_ble_eq_true rfl) (fun r17 h16 hF => ?_)
            refine aw_if_eq (tgt := 99) (M := M_X12_aThing) (pc := 83) dX12_aThing_83 rfl (fun hc => ?_) (fun hc => ?_)
            · have hF := hF.1 hc
              refine aw_iconst (M := M_X12_aThing) (pc := 99) dX12_aThing_99 ⟨by decide, by decide⟩ ?_
              exact aw_iretz (M := M_X12_aThing) (pc := 100) dX12_aThing_100 rfl (Or.inl rfl) ⟨_, rfl, hF⟩
            · have hF := hF.2 hc
              refine aw_aload_n (j := 1) (M := M_X12_aThing) (pc := 86) dX12_aThing_86 rfl rfl ?_
              refine aw_iload_n (j := 0) (M := M_X12_aThing) (pc := 87) dX12_aThing_87 rfl rfl ?_
              refine aw_iconst (M := M_X12_aThing) (pc := 88) dX12_aThing_88 ⟨by decide, by decide⟩ ?_
              obtain ⟨o18, hF⟩ := hF
              refine aw_iadd (M := M_X12_aThing) (pc := 89) dX12_aThing_89 rfl o18 ?_
              refine aw_iconst (M := M_X12_aThing) (pc := 90) dX12_aThing_90 ⟨by decide, by decide⟩ ?_
              refine aw_bipush (M := M_X12_aThing) (pc := 91) dX12_aThing_91 ⟨rfl, ⟨by decide, by decide⟩⟩ ?_
              refine aw_cvi (as := [(0, (1792 + r3) + 2), (0, 1), (0, 24)]) (st := []) (M := M_X12_aThing) (pc := 93) (f_X12_number  hF) dX12_aThing_93 rfl (Or.inl ⟨_, _, _, rfl, rfl⟩) cy_X12_number ml_X12_193 (by decide) (by decide) (Nat.le_of_ble_eq_true rfl) (fun r20 h19 hF => ?_)
              refine aw_if_ne (tgt := 101) (M := M_X12_aThing) (pc := 96) dX12_aThing_96 rfl (fun hc => ?_) (fun hc => ?_)
              · have hF := hF.1 hc
                refine aw_aload_n (j := 1) (M := M_X12_aThing) (pc := 101) dX12_aThing_101 rfl rfl ?_
                refine aw_bipush (M := M_X12_aThing) (pc := 102) dX12_aThing_102 ⟨rfl, ⟨by decide, by decide⟩⟩ ?_
                refine aw_cvi (as := [(0, 12)]) (st := []) (M := M_X12_aThing) (pc := 104) (f_X12_isThere  hF) dX12_aThing_104 rfl (Or.inl ⟨_, _, _, rfl, rfl⟩) cy_X12_isThere ml_X12_200 (by decide) (by decide) (Nat.le_of_ble_eq_true rfl) (fun r22 h21 hF => ?_)
                refine aw_if_eq (tgt := 131) (M := M_X12_aThing) (pc := 107) dX12_aThing_107 rfl (fun hc => ?_) (fun hc => ?_)
                · have hF := hF.1 hc
                  exact aw_ls [1] rfl (j_X12_aThing_131  hF)
                · have hF := hF.2 hc
                  refine aw_aload_n (j := 1) (M := M_X12_aThing) (pc := 110) dX12_aThing_110 rfl rfl ?_
                  refine aw_iload_n (j := 0) (M := M_X12_aThing) (pc := 111) dX12_aThing_111 rfl rfl ?_
                  refine aw_iconst (M := M_X12_aThing) (pc := 112) dX12_aThing_112 ⟨by decide, by decide⟩ ?_
                  obtain ⟨o23, hF⟩ := hF
                  refine aw_iadd (M := M_X12_aThing) (pc := 113) dX12_aThing_113 rfl o23 ?_
                  refine aw_cvi (as := [(0, (1792 + r3) + 4)]) (st := []) (M := M_X12_aThing) (pc := 114) (f_X12_newCell  hF) dX12_aThing_114 rfl (Or.inl ⟨_, _, _, rfl, rfl⟩) cy_X12_newCell ml_X12_197 (by decide) (by decide) (Nat.le_of_ble_eq_true rfl) (fun r25 h24 hF => ?_)
                  refine aw_if_ne (tgt := 122) (M := M_X12_aThing) (pc := 117) dX12_aThing_117 rfl (fun hc => ?_) (fun hc => ?_)
                  · have hF := hF.1 hc
                    refine aw_aload_n (j := 1) (M := M_X12_aThing) (pc := 122) dX12_aThing_122 rfl rfl ?_
                    refine gf_X12_7 (M := M_X12_aThing) (pc := 123) rfl dX12_aThing_123 rfl (r := 162) rfl ?_
                    refine aw_iload_n (j := 0) (M := M_X12_aThing) (pc := 126) dX12_aThing_126 rfl rfl ?_
                    refine aw_iconst (M := M_X12_aThing) (pc := 127) dX12_aThing_127 ⟨by decide, by decide⟩ ?_
                    obtain ⟨o26, hF⟩ := hF
                    refine aw_iadd (M := M_X12_aThing) (pc := 128) dX12_aThing_128 rfl o26 ?_
                    refine aw_iconst (M := M_X12_aThing) (pc := 129) dX12_aThing_129 ⟨by decide, by decide⟩ ?_
                    obtain ⟨o27, hF⟩ := hF
                    refine aw_iast (k := ((1792 + r3) + 3).toNat) (M := M_X12_aThing) (pc := 130) dX12_aThing_130 rfl o27 rfl ?_
                    obtain ⟨h28, eh28⟩ : ∃ y : Mem, y = mset h24 162 ((1792 + r3) + 3).toNat 1 := ⟨_, rfl⟩
                    have hF := hF h28 eh28
                    rw [← eh28]
                    exact aw_ls [1] rfl (j_X12_aThing_131  hF)
                  · have hF := hF.2 hc
                    refine aw_iconst (M := M_X12_aThing) (pc := 120) dX12_aThing_120 ⟨by decide, by decide⟩ ?_
                    exact aw_iretz (M := M_X12_aThing) (pc := 121) dX12_aThing_121 rfl (Or.inl rfl) ⟨_, rfl, hF⟩
              · have hF := hF.2 hc
                refine aw_iconst (M := M_X12_aThing) (pc := 99) dX12_aThing_99 ⟨by decide, by decide⟩ ?_
                exact aw_iretz (M := M_X12_aThing) (pc := 100) dX12_aThing_100 rfl (Or.inl rfl) ⟨_, rfl, hF⟩
      · have hF := hF.2 hc
        refine aw_iconst (M := M_X12_aThing) (pc := 49) dX12_aThing_49 ⟨by decide, by decide⟩ ?_
        exact aw_iretz (M := M_X12_aThing) (pc := 50) dX12_aThing_50 rfl (Or.inl rfl) ⟨_, rfl, hF⟩
abbrev M_X12_thingOf : Hd := (cX12_thingOf, 3, RX12, (some .int), (2, 65), sc0)
def F_X12_thingOf (h : Mem) (a1 : Int) (a2 : Int) (Q : Int → Mem → Prop) : Prop :=
  (F_X12_thingRow h a1 (fun r2 h1 => (InR (r2 + a2) ∧ ((0 ≤ (r2 + a2) ∧ (r2 + a2) < 3008) ∧ Q (h1 162 (r2 + a2).toNat) h1))))
set_option maxRecDepth 100000 in
set_option maxHeartbeats 4000000 in
theorem f_X12_thingOf {h : Mem} {a1 : Int} {a2 : Int} {Q : Int → Mem → Prop}  (hF : F_X12_thingOf h a1 a2 Q) : Ct yX12_thingOf cX12_thingOf 3 (some .int) (2, 65) [vr 161, (0, a1), (0, a2)] h (qi Q) := by
  refine Ct.of np_RX12 (Nat.le_of_ble_eq_true rfl) ?_
  unfold F_X12_thingOf at hF
  show AW M_X12_thingOf 0 [(0, vr 161), (1, (0, a1)), (2, (0, a2))] [] h (qi Q)
  refine aw_aload_n (j := 0) (M := M_X12_thingOf) (pc := 0) dX12_thingOf_0 rfl rfl ?_
  refine gf_X12_7 (M := M_X12_thingOf) (pc := 1) rfl dX12_thingOf_1 rfl (r := 162) rfl ?_
  refine aw_iload_n (j := 1) (M := M_X12_thingOf) (pc := 4) dX12_thingOf_4 rfl rfl ?_
  refine aw_csi (as := [(0, a1)]) (st := [vr 162]) (M := M_X12_thingOf) (pc := 5) (f_X12_thingRow  hF) dX12_thingOf_5 rfl cy_X12_thingRow ml_X12_203 (by decide) (by decide) (Nat.le_of_ble_eq_true rfl) (fun r2 h1 hF => ?_)
  refine aw_iload_n (j := 2) (M := M_X12_thingOf) (pc := 8) dX12_thingOf_8 rfl rfl ?_
  obtain ⟨o3, hF⟩ := hF
  refine aw_iadd (M := M_X12_thingOf) (pc := 9) dX12_thingOf_9 rfl o3 ?_
  obtain ⟨o5, hF⟩ := hF
  refine aw_iald (k := (r2 + a2).toNat) (M := M_X12_thingOf) (pc := 10) dX12_thingOf_10 rfl o5 rfl ?_
  exact aw_ireti (M := M_X12_thingOf) (pc := 11) dX12_thingOf_11 rfl ⟨_, rfl, hF⟩
abbrev M_X12_isFree : Hd := (cX12_isFree, 2, RX12, (some .boolean), (3, 87), sc0)
def F_X12_isFree (h : Mem) (a1 : Int) (Q : Int → Mem → Prop) : Prop :=
  (F_X12_thingOf h a1 3 (fun r2 h1 => ((r2 = 0 → Q 1 h1) ∧ (¬ (r2 = 0) → (F_X12_thingOf h1 a1 3 (fun r4 h3 => ((¬ (r4 = 3) → Q 0 h3) ∧ (r4 = 3 → Q 1 h3))))))))
set_option maxRecDepth 100000 in
set_option maxHeartbeats 4000000 in
theorem f_X12_isFree {h : Mem} {a1 : Int} {Q : Int → Mem → Prop}  (hF : F_X12_isFree h a1 Q) : Ct yX12_isFree cX12_isFree 2 (some .boolean) (3, 87) [vr 161, (0, a1)] h (qi Q) := by
  refine Ct.of np_RX12 (Nat.le_of_ble_eq_true rfl) ?_
  unfold F_X12_isFree at hF
  show AW M_X12_isFree 0 [(0, vr 161), (1, (0, a1))] [] h (qi Q)
  refine aw_aload_n (j := 0) (M := M_X12_isFree) (pc := 0) dX12_isFree_0 rfl rfl ?_
  refine aw_iload_n (j := 1) (M := M_X12_isFree) (pc := 1) dX12_isFree_1 rfl rfl ?_
  refine aw_iconst (M := M_X12_isFree) (pc := 2) dX12_isFree_2 ⟨by decide, by decide⟩ ?_
  refine aw_cvi (as := [(0, a1), (0, 3)]) (st := []) (M := M_X12_isFree) (pc := 3) (f_X12_thingOf  hF) dX12_isFree_3 rfl (Or.inl ⟨_, _, _, rfl, rfl⟩) cy_X12_thingOf ml_X12_263 (by decide) (by decide) (Nat.le_of_ble_eq_true rfl) (fun r2 h1 hF => ?_)
  refine aw_if_eq (tgt := 19) (M := M_X12_isFree) (pc := 6) dX12_isFree_6 rfl (fun hc => ?_) (fun hc => ?_)
  · have hF := hF.1 hc
    refine aw_iconst (M := M_X12_isFree) (pc := 19) dX12_isFree_19 ⟨by decide, by decide⟩ ?_
    refine aw_goto (tgt := 24) (M := M_X12_isFree) (pc := 20) dX12_isFree_20 rfl ?_
    exact aw_iretz (M := M_X12_isFree) (pc := 24) dX12_isFree_24 rfl (Or.inr rfl) ⟨_, rfl, hF⟩
  · have hF := hF.2 hc
    refine aw_aload_n (j := 0) (M := M_X12_isFree) (pc := 9) dX12_isFree_9 rfl rfl ?_
    refine aw_iload_n (j := 1) (M := M_X12_isFree) (pc := 10) dX12_isFree_10 rfl rfl ?_
    refine aw_iconst (M := M_X12_isFree) (pc := 11) dX12_isFree_11 ⟨by decide, by decide⟩ ?_
    refine aw_cvi (as := [(0, a1), (0, 3)]) (st := []) (M := M_X12_isFree) (pc := 12) (f_X12_thingOf  hF) dX12_isFree_12 rfl (Or.inl ⟨_, _, _, rfl, rfl⟩) cy_X12_thingOf ml_X12_263 (by decide) (by decide) (Nat.le_of_ble_eq_true rfl) (fun r4 h3 hF => ?_)
    refine aw_iconst (M := M_X12_isFree) (pc := 15) dX12_isFree_15 ⟨by decide, by decide⟩ ?_
    refine aw_icmp_ne (tgt := 23) (M := M_X12_isFree) (pc := 16) dX12_isFree_16 rfl (fun hc => ?_) (fun hc => ?_)
    · have hF := hF.1 hc
      refine aw_iconst (M := M_X12_isFree) (pc := 23) dX12_isFree_23 ⟨by decide, by decide⟩ ?_
      exact aw_iretz (M := M_X12_isFree) (pc := 24) dX12_isFree_24 rfl (Or.inl rfl) ⟨_, rfl, hF⟩
    · have hF := hF.2 hc
      refine aw_iconst (M := M_X12_isFree) (pc := 19) dX12_isFree_19 ⟨by decide, by decide⟩ ?_
      refine aw_goto (tgt := 24) (M := M_X12_isFree) (pc := 20) dX12_isFree_20 rfl ?_
      exact aw_iretz (M := M_X12_isFree) (pc := 24) dX12_isFree_24 rfl (Or.inr rfl) ⟨_, rfl, hF⟩
abbrev M_X12_isFrom : Hd := (cX12_isFrom, 6, RX12, (some .boolean), (1, 45), sc0)
def F_X12_isFrom (h : Mem) (a1 : Int) (a2 : Int) (a3 : Int) (Q : Int → Mem → Prop) : Prop :=
  ((a1 < a2 → Q 0 h) ∧ (¬ (a1 < a2) → ((a3 < a1 → Q 0 h) ∧ (¬ (a3 < a1) → Q 1 h))))
set_option maxRecDepth 100000 in
set_option maxHeartbeats 4000000 in
theorem f_X12_isFrom {h : Mem} {a1 : Int} {a2 : Int} {a3 : Int} {Q : Int → Mem → Prop}  (hF : F_X12_isFrom h a1 a2 a3 Q) : Ct yX12_isFrom cX12_isFrom 6 (some .boolean) (1, 45) [(1, a1), (1, a2), (1, a3)] h (qi Q) := by
  refine Ct.of np_RX12 (Nat.le_of_ble_eq_true rfl) ?_
  unfold F_X12_isFrom at hF
  show AW M_X12_isFrom 0 [(0, (1, a1)), (2, (1, a2)), (4, (1, a3))] [] h (qi Q)
  refine aw_lload_n (j := 0) (M := M_X12_isFrom) (pc := 0) dX12_isFrom_0 rfl rfl ?_
  refine aw_lload_n (j := 1) (M := M_X12_isFrom) (pc := 1) dX12_isFrom_1 rfl rfl ?_
  refine aw_lcmp (M := M_X12_isFrom) (pc := 2) dX12_isFrom_2 ?_
  refine aw_if_lt (tgt := 17) (M := M_X12_isFrom) (pc := 3) dX12_isFrom_3 rfl (fun hc => ?_) (fun hc => ?_)
  · have hF := hF.1 (lc_lt.mp hc)
    refine aw_iconst (M := M_X12_isFrom) (pc := 17) dX12_isFrom_17 ⟨by decide, by decide⟩ ?_
    exact aw_iretz (M := M_X12_isFrom) (pc := 18) dX12_isFrom_18 rfl (Or.inl rfl) ⟨_, rfl, hF⟩
  · have hF := hF.2 (fun z => hc (lc_lt.mpr z))
    refine aw_lload_n (j := 0) (M := M_X12_isFrom) (pc := 6) dX12_isFrom_6 rfl rfl ?_
    refine aw_lload (j := 2) (M := M_X12_isFrom) (pc := 7) dX12_isFrom_7  rfl ?_
    refine aw_lcmp (M := M_X12_isFrom) (pc := 9) dX12_isFrom_9 ?_
    refine aw_if_gt (tgt := 17) (M := M_X12_isFrom) (pc := 10) dX12_isFrom_10 rfl (fun hc => ?_) (fun hc => ?_)
    · have hF := hF.1 (lc_gt.mp hc)
      refine aw_iconst (M := M_X12_isFrom) (pc := 17) dX12_isFrom_17 ⟨by decide, by decide⟩ ?_
      exact aw_iretz (M := M_X12_isFrom) (pc := 18) dX12_isFrom_18 rfl (Or.inl rfl) ⟨_, rfl, hF⟩
    · have hF := hF.2 (fun z => hc (lc_gt.mpr z))
      refine aw_iconst (M := M_X12_isFrom) (pc := 13) dX12_isFrom_13 ⟨by decide, by decide⟩ ?_
      refine aw_goto (tgt := 18) (M := M_X12_isFrom) (pc := 14) dX12_isFrom_14 rfl ?_
      exact aw_iretz (M := M_X12_isFrom) (pc := 18) dX12_isFrom_18 rfl (Or.inr rfl) ⟨_, rfl, hF⟩
abbrev M_X12_isThing : Hd := (cX12_isThing, 2, RX12, (some .boolean), (1, 45), sc0)
def F_X12_isThing (h : Mem) (a1 : Int) (Q : Int → Mem → Prop) : Prop :=
  ((a1 < 0 → Q 0 h) ∧ (¬ (a1 < 0) → (((h 162 0) ≤ a1 → Q 0 h) ∧ (¬ ((h 162 0) ≤ a1) → Q 1 h))))
set_option maxRecDepth 100000 in
set_option maxHeartbeats 4000000 in
theorem f_X12_isThing {h : Mem} {a1 : Int} {Q : Int → Mem → Prop}  (hF : F_X12_isThing h a1 Q) : Ct yX12_isThing cX12_isThing 2 (some .boolean) (1, 45) [vr 161, (0, a1)] h (qi Q) := by
  refine Ct.of np_RX12 (Nat.le_of_ble_eq_true rfl) ?_
  unfold F_X12_isThing at hF
  show AW M_X12_isThing 0 [(0, vr 161), (1, (0, a1))] [] h (qi Q)
  refine aw_iload_n (j := 1) (M := M_X12_isThing) (pc := 0) dX12_isThing_0 rfl rfl ?_
  refine aw_if_lt (tgt := 18) (M := M_X12_isThing) (pc := 1) dX12_isThing_1 rfl (fun hc => ?_) (fun hc => ?_)
  · have hF := hF.1 hc
    refine aw_iconst (M := M_X12_isThing) (pc := 18) dX12_isThing_18 ⟨by decide, by decide⟩ ?_
    exact aw_iretz (M := M_X12_isThing) (pc := 19) dX12_isThing_19 rfl (Or.inl rfl) ⟨_, rfl, hF⟩
  · have hF := hF.2 hc
    refine aw_iload_n (j := 1) (M := M_X12_isThing) (pc := 4) dX12_isThing_4 rfl rfl ?_
    refine aw_aload_n (j := 0) (M := M_X12_isThing) (pc := 5) dX12_isThing_5 rfl rfl ?_
    refine gf_X12_7 (M := M_X12_isThing) (pc := 6) rfl dX12_isThing_6 rfl (r := 162) rfl ?_
    refine aw_iconst (M := M_X12_isThing) (pc := 9) dX12_isThing_9 ⟨by decide, by decide⟩ ?_
    refine aw_iald (k := 0) (M := M_X12_isThing) (pc := 10) dX12_isThing_10 rfl ⟨by decide, by decide⟩ rfl ?_
    refine aw_icmp_ge (tgt := 18) (M := M_X12_isThing) (pc := 11) dX12_isThing_11 rfl (fun hc => ?_) (fun hc => ?_)
    · have hF := hF.1 hc
      refine aw_iconst (M := M_X12_isThing) (pc := 18) dX12_isThing_18 ⟨by decide, by decide⟩ ?_
      exact aw_iretz (M := M_X12_isThing) (pc := 19) dX12_isThing_19 rfl (Or.inl rfl) ⟨_, rfl, hF⟩
    · have hF := hF.2 hc
      refine aw_iconst (M := M_X12_isThing) (pc := 14) dX12_isThing_14 ⟨by decide, by decide⟩ ?_
      refine aw_goto (tgt := 19) (M := M_X12_isThing) (pc := 15) dX12_isThing_15 rfl ?_
      exact aw_iretz (M := M_X12_isThing) (pc := 19) dX12_isThing_19 rfl (Or.inr rfl) ⟨_, rfl, hF⟩
abbrev M_X12_keeps : Hd := (cX12_keeps, 3, RX12, none, (1, 45), sc0)
def L_X12_keeps_2 (h : Mem) (v1 : Int) (v2 : Int) (Q : Mem → Prop) : Prop := AW M_X12_keeps 2 [(0, vr 161), (1, (0, v1)), (2, (0, v2))] [] h (qv Q)
def B_X12_keeps_2 (h : Mem) (v1 : Int) (v2 : Int) (Q : Mem → Prop) : Prop :=
  ((80 ≤ v2 → Q h) ∧ (¬ (80 ≤ v2) → (InR (v1 + v2) ∧ ((0 ≤ v2 ∧ v2 < 3008) ∧ ((0 ≤ (v1 + v2) ∧ (v1 + v2) < 3008) ∧ (∀ h5 : Mem, h5 = mset h 162 (v1 + v2).toNat (h 162 (v2).toNat) → (InR (v2 + 1) ∧ L_X12_keeps_2 h5 v1 (v2 + 1) Q)))))))
set_option maxRecDepth 100000 in
set_option maxHeartbeats 4000000 in
theorem l_X12_keeps_2 {h : Mem} {v1 : Int} {v2 : Int} {Q : Mem → Prop}  (hF : B_X12_keeps_2 h v1 v2 Q) : L_X12_keeps_2 h v1 v2 Q := by
  unfold B_X12_keeps_2 at hF
  show AW M_X12_keeps 2 [(0, vr 161), (1, (0, v1)), (2, (0, v2))] [] h (qv Q)
  refine aw_iload_n (j := 2) (M := M_X12_keeps) (pc := 2) dX12_keeps_2 rfl rfl ?_
  refine aw_bipush (M := M_X12_keeps) (pc := 3) dX12_keeps_3 ⟨rfl, ⟨by decide, by decide⟩⟩ ?_
  refine aw_icmp_ge (tgt := 28) (M := M_X12_keeps) (pc := 5) dX12_keeps_5 rfl (fun hc => ?_) (fun hc => ?_)
  · have hF := hF.1 hc
    exact aw_ret (M := M_X12_keeps) (pc := 28) dX12_keeps_28 rfl ⟨rfl, hF⟩
  · have hF := hF.2 hc
    refine aw_aload_n (j := 0) (M := M_X12_keeps) (pc := 8) dX12_keeps_8 rfl rfl ?_
    refine gf_X12_7 (M := M_X12_keeps) (pc := 9) rfl dX12_keeps_9 rfl (r := 162) rfl ?_
    refine aw_iload_n (j := 1) (M := M_X12_keeps) (pc := 12) dX12_keeps_12 rfl rfl ?_
    refine aw_iload_n (j := 2) (M := M_X12_keeps) (pc := 13) dX12_keeps_13 rfl rfl ?_
    obtain ⟨o1, hF⟩ := hF
    refine aw_iadd (M := M_X12_keeps) (pc := 14) dX12_keeps_14 rfl o1 ?_
    refine aw_aload_n (j := 0) (M := M_X12_keeps) (pc := 15) dX12_keeps_15 rfl rfl ?_
    refine gf_X12_7 (M := M_X12_keeps) (pc := 16) rfl dX12_keeps_16 rfl (r := 162) rfl ?_
    refine aw_iload_n (j := 2) (M := M_X12_keeps) (pc := 19) dX12_keeps_19 rfl rfl ?_
    obtain ⟨o3, hF⟩ := hF
    refine aw_iald (k := (v2).toNat) (M := M_X12_keeps) (pc := 20) dX12_keeps_20 rfl o3 rfl ?_
    obtain ⟨o4, hF⟩ := hF
    refine aw_iast (k := (v1 + v2).toNat) (M := M_X12_keeps) (pc := 21) dX12_keeps_21 rfl o4 rfl ?_
    obtain ⟨h5, eh5⟩ : ∃ y : Mem, y = mset h 162 (v1 + v2).toNat (h 162 (v2).toNat) := ⟨_, rfl⟩
    have hF := hF h5 eh5
    rw [← eh5]
    obtain ⟨o6, hF⟩ := hF
    refine aw_iinc (j := 2) (x := v2) (r := v2 + 1) (ls' := [(2, (0, v2 + 1)), (0, vr 161), (1, (0, v1))]) (M := M_X12_keeps) (pc := 22) dX12_keeps_22 rfl rfl o6 (by decide) rfl ?_
    refine aw_goto (tgt := 2) (M := M_X12_keeps) (pc := 25) dX12_keeps_25 rfl ?_
    exact aw_ls [1, 2, 0] rfl hF
def F_X12_keeps (h : Mem) (a1 : Int) (Q : Mem → Prop) : Prop :=
  L_X12_keeps_2 h a1 0 Q
set_option maxRecDepth 100000 in
set_option maxHeartbeats 4000000 in
theorem f_X12_keeps {h : Mem} {a1 : Int} {Q : Mem → Prop}  (hF : F_X12_keeps h a1 Q) : Ct yX12_keeps cX12_keeps 3 none (1, 45) [vr 161, (0, a1)] h (qv Q) := by
  refine Ct.of np_RX12 (Nat.le_of_ble_eq_true rfl) ?_
  unfold F_X12_keeps at hF
  show AW M_X12_keeps 0 [(0, vr 161), (1, (0, a1))] [] h (qv Q)
  refine aw_iconst (M := M_X12_keeps) (pc := 0) dX12_keeps_0 ⟨by decide, by decide⟩ ?_
  refine aw_istore_n (ls' := [(2, (0, 0)), (0, vr 161), (1, (0, a1))]) (M := M_X12_keeps) (pc := 1) dX12_keeps_1 rfl (by decide) rfl ?_
  exact aw_ls [1, 2, 0] rfl hF
abbrev M_X12_comesHome : Hd := (cX12_comesHome, 2, RX12, none, (2, 65), sc0)
def F_X12_comesHome (h : Mem) (a1 : Int) (Q : Mem → Prop) : Prop :=
  (F_X12_thingRow h a1 (fun r2 h1 => (InR (r2 + 3) ∧ ((0 ≤ (r2 + 3) ∧ (r2 + 3) < 3008) ∧ (∀ h5 : Mem, h5 = mset h1 162 (r2 + 3).toNat 3 → (F_X12_thingRow h5 a1 (fun r7 h6 => (InR (r7 + 5) ∧ ((0 ≤ (r7 + 5) ∧ (r7 + 5) < 3008) ∧ (∀ h10 : Mem, h10 = mset h6 162 (r7 + 5).toNat 0 → (F_X12_thingRow h10 a1 (fun r12 h11 => (InR (r12 + 6) ∧ ((0 ≤ (r12 + 6) ∧ (r12 + 6) < 3008) ∧ (InR ((h11 162 (r12 + 6).toNat) + 1) ∧ (∀ h17 : Mem, h17 = mset h11 162 (r12 + 6).toNat ((h11 162 (r12 + 6).toNat) + 1) → Q h17))))))))))))))))
set_option maxRecDepth 100000 in
set_option maxHeartbeats 4000000 in
theorem f_X12_comesHome {h : Mem} {a1 : Int} {Q : Mem → Prop}  (hF : F_X12_comesHome h a1 Q) : Ct yX12_comesHome cX12_comesHome 2 none (2, 65) [vr 161, (0, a1)] h (qv Q) := by
  refine Ct.of np_RX12 (Nat.le_of_ble_eq_true rfl) ?_
  unfold F_X12_comesHome at hF
  show AW M_X12_comesHome 0 [(0, vr 161), (1, (0, a1))] [] h (qv Q)
  refine aw_aload_n (j := 0) (M := M_X12_comesHome) (pc := 0) dX12_comesHome_0 rfl rfl ?_
  refine gf_X12_7 (M := M_X12_comesHome) (pc := 1) rfl dX12_comesHome_1 rfl (r := 162) rfl ?_
  refine aw_iload_n (j := 1) (M := M_X12_comesHome) (pc := 4) dX12_comesHome_4 rfl rfl ?_
  refine aw_csi (as := [(0, a1)]) (st := [vr 162]) (M := M_X12_comesHome) (pc := 5) (f_X12_thingRow  hF) dX12_comesHome_5 rfl cy_X12_thingRow ml_X12_203 (by decide) (by decide) (Nat.le_of_ble_eq_true rfl) (fun r2 h1 hF => ?_)
  refine aw_iconst (M := M_X12_comesHome) (pc := 8) dX12_comesHome_8 ⟨by decide, by decide⟩ ?_
  obtain ⟨o3, hF⟩ := hF
  refine aw_iadd (M := M_X12_comesHome) (pc := 9) dX12_comesHome_9 rfl o3 ?_
  refine aw_iconst (M := M_X12_comesHome) (pc := 10) dX12_comesHome_10 ⟨by decide, by decide⟩ ?_
  obtain ⟨o4, hF⟩ := hF
  refine aw_iast (k := (r2 + 3).toNat) (M := M_X12_comesHome) (pc := 11) dX12_comesHome_11 rfl o4 rfl ?_
  obtain ⟨h5, eh5⟩ : ∃ y : Mem, y = mset h1 162 (r2 + 3).toNat 3 := ⟨_, rfl⟩
  have hF := hF h5 eh5
  rw [← eh5]
  refine aw_aload_n (j := 0) (M := M_X12_comesHome) (pc := 12) dX12_comesHome_12 rfl rfl ?_
  refine gf_X12_7 (M := M_X12_comesHome) (pc := 13) rfl dX12_comesHome_13 rfl (r := 162) rfl ?_
  refine aw_iload_n (j := 1) (M := M_X12_comesHome) (pc := 16) dX12_comesHome_16 rfl rfl ?_
  refine aw_csi (as := [(0, a1)]) (st := [vr 162]) (M := M_X12_comesHome) (pc := 17) (f_X12_thingRow  hF) dX12_comesHome_17 rfl cy_X12_thingRow ml_X12_203 (by decide) (by decide) (Nat.le_of_ble_eq_true rfl) (fun r7 h6 hF => ?_)
  refine aw_iconst (M := M_X12_comesHome) (pc := 20) dX12_comesHome_20 ⟨by decide, by decide⟩ ?_
  obtain ⟨o8, hF⟩ := hF
  refine aw_iadd (M := M_X12_comesHome) (pc := 21) dX12_comesHome_21 rfl o8 ?_
  refine aw_iconst (M := M_X12_comesHome) (pc := 22) dX12_comesHome_22 ⟨by decide, by decide⟩ ?_
  obtain ⟨o9, hF⟩ := hF
  refine aw_iast (k := (r7 + 5).toNat) (M := M_X12_comesHome) (pc := 23) dX12_comesHome_23 rfl o9 rfl ?_
  obtain ⟨h10, eh10⟩ : ∃ y : Mem, y = mset h6 162 (r7 + 5).toNat 0 := ⟨_, rfl⟩
  have hF := hF h10 eh10
  rw [← eh10]
  refine aw_aload_n (j := 0) (M := M_X12_comesHome) (pc := 24) dX12_comesHome_24 rfl rfl ?_
  refine gf_X12_7 (M := M_X12_comesHome) (pc := 25) rfl dX12_comesHome_25 rfl (r := 162) rfl ?_
  refine aw_iload_n (j := 1) (M := M_X12_comesHome) (pc := 28) dX12_comesHome_28 rfl rfl ?_
  refine aw_csi (as := [(0, a1)]) (st := [vr 162]) (M := M_X12_comesHome) (pc := 29) (f_X12_thingRow  hF) dX12_comesHome_29 rfl cy_X12_thingRow ml_X12_203 (by decide) (by decide) (Nat.le_of_ble_eq_true rfl) (fun r12 h11 hF => ?_)
  refine aw_bipush (M := M_X12_comesHome) (pc := 32) dX12_comesHome_32 ⟨rfl, ⟨by decide, by decide⟩⟩ ?_
  obtain ⟨o13, hF⟩ := hF
  refine aw_iadd (M := M_X12_comesHome) (pc := 34) dX12_comesHome_34 rfl o13 ?_
  refine aw_dup2 (M := M_X12_comesHome) (pc := 35) dX12_comesHome_35 rfl rfl ?_
  obtain ⟨o15, hF⟩ := hF
  refine aw_iald (k := (r12 + 6).toNat) (M := M_X12_comesHome) (pc := 36) dX12_comesHome_36 rfl o15 rfl ?_
  refine aw_iconst (M := M_X12_comesHome) (pc := 37) dX12_comesHome_37 ⟨by decide, by decide⟩ ?_
  obtain ⟨o16, hF⟩ := hF
  refine aw_iadd (M := M_X12_comesHome) (pc := 38) dX12_comesHome_38 rfl o16 ?_
  refine aw_iast (k := (r12 + 6).toNat) (M := M_X12_comesHome) (pc := 39) dX12_comesHome_39 rfl o15 rfl ?_
  obtain ⟨h17, eh17⟩ : ∃ y : Mem, y = mset h11 162 (r12 + 6).toNat ((h11 162 (r12 + 6).toNat) + 1) := ⟨_, rfl⟩
  have hF := hF h17 eh17
  rw [← eh17]
  exact aw_ret (M := M_X12_comesHome) (pc := 40) dX12_comesHome_40 rfl ⟨rfl, hF⟩
abbrev M_X12_isRemembered : Hd := (cX12_isRemembered, 2, RX12, (some .boolean), (3, 87), sc0)
def F_X12_isRemembered (h : Mem) (a1 : Int) (Q : Int → Mem → Prop) : Prop :=
  (F_X12_thingOf h a1 3 (fun r2 h1 => ((¬ (r2 = 1) → Q 0 h1) ∧ (r2 = 1 → (F_X12_thingOf h1 a1 5 (fun r4 h3 => (F_X12_thingOf h3 a1 2 (fun r6 h5 => ((r4 < r6 → Q 0 h5) ∧ (¬ (r4 < r6) → Q 1 h5))))))))))
set_option maxRecDepth 100000 in
set_option maxHeartbeats 4000000 in
theorem f_X12_isRemembered {h : Mem} {a1 : Int} {Q : Int → Mem → Prop}  (hF : F_X12_isRemembered h a1 Q) : Ct yX12_isRemembered cX12_isRemembered 2 (some .boolean) (3, 87) [vr 161, (0, a1)] h (qi Q) := by
  refine Ct.of np_RX12 (Nat.le_of_ble_eq_true rfl) ?_
  unfold F_X12_isRemembered at hF
  show AW M_X12_isRemembered 0 [(0, vr 161), (1, (0, a1))] [] h (qi Q)
  refine aw_aload_n (j := 0) (M := M_X12_isRemembered) (pc := 0) dX12_isRemembered_0 rfl rfl ?_
  refine aw_iload_n (j := 1) (M := M_X12_isRemembered) (pc := 1) dX12_isRemembered_1 rfl rfl ?_
  refine aw_iconst (M := M_X12_isRemembered) (pc := 2) dX12_isRemembered_2 ⟨by decide, by decide⟩ ?_
  refine aw_cvi (as := [(0, a1), (0, 3)]) (st := []) (M := M_X12_isRemembered) (pc := 3) (f_X12_thingOf  hF) dX12_isRemembered_3 rfl (Or.inl ⟨_, _, _, rfl, rfl⟩) cy_X12_thingOf ml_X12_263 (by decide) (by decide) (Nat.le_of_ble_eq_true rfl) (fun r2 h1 hF => ?_)
  refine aw_iconst (M := M_X12_isRemembered) (pc := 6) dX12_isRemembered_6 ⟨by decide, by decide⟩ ?_
  refine aw_icmp_ne (tgt := 29) (M := M_X12_isRemembered) (pc := 7) dX12_isRemembered_7 rfl (fun hc => ?_) (fun hc => ?_)
  · have hF := hF.1 hc
    refine aw_iconst (M := M_X12_isRemembered) (pc := 29) dX12_isRemembered_29 ⟨by decide, by decide⟩ ?_
    exact aw_iretz (M := M_X12_isRemembered) (pc := 30) dX12_isRemembered_30 rfl (Or.inl rfl) ⟨_, rfl, hF⟩
  · have hF := hF.2 hc
    refine aw_aload_n (j := 0) (M := M_X12_isRemembered) (pc := 10) dX12_isRemembered_10 rfl rfl ?_
    refine aw_iload_n (j := 1) (M := M_X12_isRemembered) (pc := 11) dX12_isRemembered_11 rfl rfl ?_
    refine aw_iconst (M := M_X12_isRemembered) (pc := 12) dX12_isRemembered_12 ⟨by decide, by decide⟩ ?_
    refine aw_cvi (as := [(0, a1), (0, 5)]) (st := []) (M := M_X12_isRemembered) (pc := 13) (f_X12_thingOf  hF) dX12_isRemembered_13 rfl (Or.inl ⟨_, _, _, rfl, rfl⟩) cy_X12_thingOf ml_X12_263 (by decide) (by decide) (Nat.le_of_ble_eq_true rfl) (fun r4 h3 hF => ?_)
    refine aw_aload_n (j := 0) (M := M_X12_isRemembered) (pc := 16) dX12_isRemembered_16 rfl rfl ?_
    refine aw_iload_n (j := 1) (M := M_X12_isRemembered) (pc := 17) dX12_isRemembered_17 rfl rfl ?_
    refine aw_iconst (M := M_X12_isRemembered) (pc := 18) dX12_isRemembered_18 ⟨by decide, by decide⟩ ?_
    refine aw_cvi (as := [(0, a1), (0, 2)]) (st := [(0, r4)]) (M := M_X12_isRemembered) (pc := 19) (f_X12_thingOf  hF) dX12_isRemembered_19 rfl (Or.inl ⟨_, _, _, rfl, rfl⟩) cy_X12_thingOf ml_X12_263 (by decide) (by decide) (Nat.le_of_ble_eq_true rfl) (fun r6 h5 hF => ?_)
    refine aw_icmp_lt (tgt := 29) (M := M_X12_isRemembered) (pc := 22) dX12_isRemembered_22 rfl (fun hc => ?_) (fun hc => ?_)
    · have hF := hF.1 hc
      refine aw_iconst (M := M_X12_isRemembered) (pc := 29) dX12_isRemembered_29 ⟨by decide, by decide⟩ ?_
      exact aw_iretz (M := M_X12_isRemembered) (pc := 30) dX12_isRemembered_30 rfl (Or.inl rfl) ⟨_, rfl, hF⟩
    · have hF := hF.2 hc
      refine aw_iconst (M := M_X12_isRemembered) (pc := 25) dX12_isRemembered_25 ⟨by decide, by decide⟩ ?_
      refine aw_goto (tgt := 30) (M := M_X12_isRemembered) (pc := 26) dX12_isRemembered_26 rfl ?_
      exact aw_iretz (M := M_X12_isRemembered) (pc := 30) dX12_isRemembered_30 rfl (Or.inr rfl) ⟨_, rfl, hF⟩
abbrev M_X12_mindedMost : Hd := (cX12_mindedMost, 3, RX12, (some .int), (4, 108), sc0)
def L_X12_mindedMost_4 (h : Mem) (v1 : Int) (v2 : Int) (Q : Int → Mem → Prop) : Prop := AW M_X12_mindedMost 4 [(0, vr 161), (1, (0, v1)), (2, (0, v2))] [] h (qi Q)
def B_X12_mindedMost_4 (h : Mem) (v1 : Int) (v2 : Int) (Q : Int → Mem → Prop) : Prop :=
  (((h 162 0) ≤ v2 → Q v1 h) ∧ (¬ ((h 162 0) ≤ v2) → (F_X12_isRemembered h v2 (fun r3 h2 => ((r3 = 0 → (InR (v2 + 1) ∧ L_X12_mindedMost_4 h2 v1 (v2 + 1) Q)) ∧ (¬ (r3 = 0) → ((v1 = (-1) → (InR (v2 + 1) ∧ L_X12_mindedMost_4 h2 v2 (v2 + 1) Q)) ∧ (¬ (v1 = (-1)) → (F_X12_thingOf h2 v2 5 (fun r7 h6 => (F_X12_thingOf h6 v1 5 (fun r9 h8 => ((r7 ≤ r9 → (InR (v2 + 1) ∧ L_X12_mindedMost_4 h8 v1 (v2 + 1) Q)) ∧ (¬ (r7 ≤ r9) → (InR (v2 + 1) ∧ L_X12_mindedMost_4 h8 v2 (v2 + 1) Q)))))))))))))))
set_option maxRecDepth 100000 in
set_option maxHeartbeats 4000000 in
theorem l_X12_mindedMost_4 {h : Mem} {v1 : Int} {v2 : Int} {Q : Int → Mem → Prop}  (hF : B_X12_mindedMost_4 h v1 v2 Q) : L_X12_mindedMost_4 h v1 v2 Q := by
  unfold B_X12_mindedMost_4 at hF
  show AW M_X12_mindedMost 4 [(0, vr 161), (1, (0, v1)), (2, (0, v2))] [] h (qi Q)
  refine aw_iload_n (j := 2) (M := M_X12_mindedMost) (pc := 4) dX12_mindedMost_4 rfl rfl ?_
  refine aw_aload_n (j := 0) (M := M_X12_mindedMost) (pc := 5) dX12_mindedMost_5 rfl rfl ?_
  refine gf_X12_7 (M := M_X12_mindedMost) (pc := 6) rfl dX12_mindedMost_6 rfl (r := 162) rfl ?_
  refine aw_iconst (M := M_X12_mindedMost) (pc := 9) dX12_mindedMost_9 ⟨by decide, by decide⟩ ?_
  refine aw_iald (k := 0) (M := M_X12_mindedMost) (pc := 10) dX12_mindedMost_10 rfl ⟨by decide, by decide⟩ rfl ?_
  refine aw_icmp_ge (tgt := 50) (M := M_X12_mindedMost) (pc := 11) dX12_mindedMost_11 rfl (fun hc => ?_) (fun hc => ?_)
  · have hF := hF.1 hc
    refine aw_iload_n (j := 1) (M := M_X12_mindedMost) (pc := 50) dX12_mindedMost_50 rfl rfl ?_
    exact aw_ireti (M := M_X12_mindedMost) (pc := 51) dX12_mindedMost_51 rfl ⟨_, rfl, hF⟩
  · have hF := hF.2 hc
    refine aw_aload_n (j := 0) (M := M_X12_mindedMost) (pc := 14) dX12_mindedMost_14 rfl rfl ?_
    refine aw_iload_n (j := 2) (M := M_X12_mindedMost) (pc := 15) dX12_mindedMost_15 rfl rfl ?_
    refine aw_cvi (as := [(0, v2)]) (st := []) (M := M_X12_mindedMost) (pc := 16) (f_X12_isRemembered  hF) dX12_mindedMost_16 rfl (Or.inl ⟨_, _, _, rfl, rfl⟩) cy_X12_isRemembered ml_X12_266 (by decide) (by decide) (Nat.le_of_ble_eq_true rfl) (fun r3 h2 hF => ?_)
    refine aw_if_eq (tgt := 44) (M := M_X12_mindedMost) (pc := 19) dX12_mindedMost_19 rfl (fun hc => ?_) (fun hc => ?_)
    · have hF := hF.1 hc
      obtain ⟨o4, hF⟩ := hF
      refine aw_iinc (j := 2) (x := v2) (r := v2 + 1) (ls' := [(2, (0, v2 + 1)), (0, vr 161), (1, (0, v1))]) (M := M_X12_mindedMost) (pc := 44) dX12_mindedMost_44 rfl rfl o4 (by decide) rfl ?_
      refine aw_goto (tgt := 4) (M := M_X12_mindedMost) (pc := 47) dX12_mindedMost_47 rfl ?_
      exact aw_ls [1, 2, 0] rfl hF
    · have hF := hF.2 hc
      refine aw_iload_n (j := 1) (M := M_X12_mindedMost) (pc := 22) dX12_mindedMost_22 rfl rfl ?_
      refine aw_iconst (M := M_X12_mindedMost) (pc := 23) dX12_mindedMost_23 ⟨by decide, by decide⟩ ?_
      refine aw_icmp_eq (tgt := 42) (M := M_X12_mindedMost) (pc := 24) dX12_mindedMost_24 rfl (fun hc => ?_) (fun hc => ?_)
      · have hF := hF.1 hc
        refine aw_iload_n (j := 2) (M := M_X12_mindedMost) (pc := 42) dX12_mindedMost_42 rfl rfl ?_
        refine aw_istore_n (ls' := [(1, (0, v2)), (0, vr 161), (2, (0, v2))]) (M := M_X12_mindedMost) (pc := 43) dX12_mindedMost_43 rfl (by decide) rfl ?_
        obtain ⟨o5, hF⟩ := hF
        refine aw_iinc (j := 2) (x := v2) (r := v2 + 1) (ls' := [(2, (0, v2 + 1)), (1, (0, v2)), (0, vr 161)]) (M := M_X12_mindedMost) (pc := 44) dX12_mindedMost_44 rfl rfl o5 (by decide) rfl ?_
        refine aw_goto (tgt := 4) (M := M_X12_mindedMost) (pc := 47) dX12_mindedMost_47 rfl ?_
        exact aw_ls [2, 1, 0] rfl hF
      · have hF := hF.2 hc
        refine aw_aload_n (j := 0) (M := M_X12_mindedMost) (pc := 27) dX12_mindedMost_27 rfl rfl ?_
        refine aw_iload_n (j := 2) (M := M_X12_mindedMost) (pc := 28) dX12_mindedMost_28 rfl rfl ?_
        refine aw_iconst (M := M_X12_mindedMost) (pc := 29) dX12_mindedMost_29 ⟨by decide, by decide⟩ ?_
        refine aw_cvi (as := [(0, v2), (0, 5)]) (st := []) (M := M_X12_mindedMost) (pc := 30) (f_X12_thingOf  hF) dX12_mindedMost_30 rfl (Or.inl ⟨_, _, _, rfl, rfl⟩) cy_X12_thingOf ml_X12_263 (by decide) (by decide) (Nat.le_of_ble_eq_true rfl) (fun r7 h6 hF => ?_)
        refine aw_aload_n (j := 0) (M := M_X12_mindedMost) (pc := 33) dX12_mindedMost_33 rfl rfl ?_
        refine aw_iload_n (j := 1) (M := M_X12_mindedMost) (pc := 34) dX12_mindedMost_34 rfl rfl ?_
        refine aw_iconst (M := M_X12_mindedMost) (pc := 35) dX12_mindedMost_35 ⟨by decide, by decide⟩ ?_
        refine aw_cvi (as := [(0, v1), (0, 5)]) (st := [(0, r7)]) (M := M_X12_mindedMost) (pc := 36) (f_X12_thingOf  hF) dX12_mindedMost_36 rfl (Or.inl ⟨_, _, _, rfl, rfl⟩) cy_X12_thingOf ml_X12_263 (by decide) (by decide) (Nat.le_of_ble_eq_true rfl) (fun r9 h8 hF => ?_)
        refine aw_icmp_le (tgt := 44) (M := M_X12_mindedMost) (pc := 39) dX12_mindedMost_39 rfl (fun hc => ?_) (fun hc => ?_)
        · have hF := hF.1 hc
          obtain ⟨o10, hF⟩ := hF
          refine aw_iinc (j := 2) (x := v2) (r := v2 + 1) (ls' := [(2, (0, v2 + 1)), (0, vr 161), (1, (0, v1))]) (M := M_X12_mindedMost) (pc := 44) dX12_mindedMost_44 rfl rfl o10 (by decide) rfl ?_
          refine aw_goto (tgt := 4) (M := M_X12_mindedMost) (pc := 47) dX12_mindedMost_47 rfl ?_
          exact aw_ls [1, 2, 0] rfl hF
        · have hF := hF.2 hc
          refine aw_iload_n (j := 2) (M := M_X12_mindedMost) (pc := 42) dX12_mindedMost_42 rfl rfl ?_
          refine aw_istore_n (ls' := [(1, (0, v2)), (0, vr 161), (2, (0, v2))]) (M := M_X12_mindedMost) (pc := 43) dX12_mindedMost_43 rfl (by decide) rfl ?_
          obtain ⟨o11, hF⟩ := hF
          refine aw_iinc (j := 2) (x := v2) (r := v2 + 1) (ls' := [(2, (0, v2 + 1)), (1, (0, v2)), (0, vr 161)]) (M := M_X12_mindedMost) (pc := 44) dX12_mindedMost_44 rfl rfl o11 (by decide) rfl ?_
          refine aw_goto (tgt := 4) (M := M_X12_mindedMost) (pc := 47) dX12_mindedMost_47 rfl ?_
          exact aw_ls [2, 1, 0] rfl hF
def F_X12_mindedMost (h : Mem)  (Q : Int → Mem → Prop) : Prop :=
  L_X12_mindedMost_4 h (-1) 0 Q
set_option maxRecDepth 100000 in
set_option maxHeartbeats 4000000 in
theorem f_X12_mindedMost {h : Mem}  {Q : Int → Mem → Prop}  (hF : F_X12_mindedMost h  Q) : Ct yX12_mindedMost cX12_mindedMost 3 (some .int) (4, 108) [vr 161] h (qi Q) := by
  refine Ct.of np_RX12 (Nat.le_of_ble_eq_true rfl) ?_
  unfold F_X12_mindedMost at hF
  show AW M_X12_mindedMost 0 [(0, vr 161)] [] h (qi Q)
  refine aw_iconst (M := M_X12_mindedMost) (pc := 0) dX12_mindedMost_0 ⟨by decide, by decide⟩ ?_
  refine aw_istore_n (ls' := [(1, (0, (-1))), (0, vr 161)]) (M := M_X12_mindedMost) (pc := 1) dX12_mindedMost_1 rfl (by decide) rfl ?_
  refine aw_iconst (M := M_X12_mindedMost) (pc := 2) dX12_mindedMost_2 ⟨by decide, by decide⟩ ?_
  refine aw_istore_n (ls' := [(2, (0, 0)), (1, (0, (-1))), (0, vr 161)]) (M := M_X12_mindedMost) (pc := 3) dX12_mindedMost_3 rfl (by decide) rfl ?_
  exact aw_ls [2, 1, 0] rfl hF
abbrev M_X12_sea : Hd := (cX12_sea, 1, RX12, (some .int), (1, 45), sc0)
def F_X12_sea (h : Mem)  (Q : Int → Mem → Prop) : Prop :=
  (InR ((h 162 2) - 1) ∧ Q ((h 162 2) - 1) h)
set_option maxRecDepth 100000 in
set_option maxHeartbeats 4000000 in
theorem f_X12_sea {h : Mem}  {Q : Int → Mem → Prop}  (hF : F_X12_sea h  Q) : Ct yX12_sea cX12_sea 1 (some .int) (1, 45) [vr 161] h (qi Q) := by
  refine Ct.of np_RX12 (Nat.le_of_ble_eq_true rfl) ?_
  unfold F_X12_sea at hF
  show AW M_X12_sea 0 [(0, vr 161)] [] h (qi Q)
  refine aw_aload_n (j := 0) (M := M_X12_sea) (pc := 0) dX12_sea_0 rfl rfl ?_
  refine gf_X12_7 (M := M_X12_sea) (pc := 1) rfl dX12_sea_1 rfl (r := 162) rfl ?_
  refine aw_iconst (M := M_X12_sea) (pc := 4) dX12_sea_4 ⟨by decide, by decide⟩ ?_
  refine aw_iald (k := 2) (M := M_X12_sea) (pc := 5) dX12_sea_5 rfl ⟨by decide, by decide⟩ rfl ?_
  refine aw_iconst (M := M_X12_sea) (pc := 6) dX12_sea_6 ⟨by decide, by decide⟩ ?_
  obtain ⟨o2, hF⟩ := hF
  refine aw_isub (M := M_X12_sea) (pc := 7) dX12_sea_7 rfl o2 ?_
  exact aw_ireti (M := M_X12_sea) (pc := 8) dX12_sea_8 rfl ⟨_, rfl, hF⟩
abbrev M_X12_goalNow : Hd := (cX12_goalNow, 2, RX12, (some .int), (5, 130), sc0)
def F_X12_goalNow (h : Mem)  (Q : Int → Mem → Prop) : Prop :=
  (F_X12_mindedMost h  (fun r2 h1 => ((¬ (r2 = (-1)) → (F_X12_thingOf h1 r2 4 (fun r4 h3 => Q r4 h3))) ∧ (r2 = (-1) → (F_X12_sea h1  (fun r6 h5 => Q r6 h5))))))
set_option maxRecDepth 100000 in
set_option maxHeartbeats 4000000 in
theorem f_X12_goalNow {h : Mem}  {Q : Int → Mem → Prop}  (hF : F_X12_goalNow h  Q) : Ct yX12_goalNow cX12_goalNow 2 (some .int) (5, 130) [vr 161] h (qi Q) := by
  refine Ct.of np_RX12 (Nat.le_of_ble_eq_true rfl) ?_
  unfold F_X12_goalNow at hF
  show AW M_X12_goalNow 0 [(0, vr 161)] [] h (qi Q)
  refine aw_aload_n (j := 0) (M := M_X12_goalNow) (pc := 0) dX12_goalNow_0 rfl rfl ?_
  refine aw_cvi (as := []) (st := []) (M := M_X12_goalNow) (pc := 1) (f_X12_mindedMost  hF) dX12_goalNow_1 rfl (Or.inl ⟨_, _, _, rfl, rfl⟩) cy_X12_mindedMost ml_X12_269 (by decide) (by decide) (Nat.le_of_ble_eq_true rfl) (fun r2 h1 hF => ?_)
  refine aw_istore_n (ls' := [(1, (0, r2)), (0, vr 161)]) (M := M_X12_goalNow) (pc := 4) dX12_goalNow_4 rfl (by decide) rfl ?_
  refine aw_iload_n (j := 0) (M := M_X12_goalNow) (pc := 5) dX12_goalNow_5 rfl rfl ?_
  refine aw_iconst (M := M_X12_goalNow) (pc := 6) dX12_goalNow_6 ⟨by decide, by decide⟩ ?_
  refine aw_icmp_ne (tgt := 17) (M := M_X12_goalNow) (pc := 7) dX12_goalNow_7 rfl (fun hc => ?_) (fun hc => ?_)
  · have hF := hF.1 hc
    refine aw_aload_n (j := 1) (M := M_X12_goalNow) (pc := 17) dX12_goalNow_17 rfl rfl ?_
    refine aw_iload_n (j := 0) (M := M_X12_goalNow) (pc := 18) dX12_goalNow_18 rfl rfl ?_
    refine aw_iconst (M := M_X12_goalNow) (pc := 19) dX12_goalNow_19 ⟨by decide, by decide⟩ ?_
    refine aw_cvi (as := [(0, r2), (0, 4)]) (st := []) (M := M_X12_goalNow) (pc := 20) (f_X12_thingOf  hF) dX12_goalNow_20 rfl (Or.inl ⟨_, _, _, rfl, rfl⟩) cy_X12_thingOf ml_X12_263 (by decide) (by decide) (Nat.le_of_ble_eq_true rfl) (fun r4 h3 hF => ?_)
    exact aw_ireti (M := M_X12_goalNow) (pc := 23) dX12_goalNow_23 rfl ⟨_, rfl, hF⟩
  · have hF := hF.2 hc
    refine aw_aload_n (j := 1) (M := M_X12_goalNow) (pc := 10) dX12_goalNow_10 rfl rfl ?_
    refine aw_cvi (as := []) (st := []) (M := M_X12_goalNow) (pc := 11) (f_X12_sea  hF) dX12_goalNow_11 rfl (Or.inl ⟨_, _, _, rfl, rfl⟩) cy_X12_sea ml_X12_272 (by decide) (by decide) (Nat.le_of_ble_eq_true rfl) (fun r6 h5 hF => ?_)
    refine aw_goto (tgt := 23) (M := M_X12_goalNow) (pc := 14) dX12_goalNow_14 rfl ?_
    exact aw_ireti (M := M_X12_goalNow) (pc := 23) dX12_goalNow_23 rfl ⟨_, rfl, hF⟩
abbrev M_X12_millOf : Hd := (cX12_millOf, 3, RX12, (some .int), (2, 65), sc0)
def F_X12_millOf (h : Mem) (a1 : Int) (a2 : Int) (Q : Int → Mem → Prop) : Prop :=
  (F_X12_millRow h a1 (fun r2 h1 => (InR (r2 + a2) ∧ ((0 ≤ (r2 + a2) ∧ (r2 + a2) < 3008) ∧ Q (h1 162 (r2 + a2).toNat) h1))))
set_option maxRecDepth 100000 in
set_option maxHeartbeats 4000000 in
theorem f_X12_millOf {h : Mem} {a1 : Int} {a2 : Int} {Q : Int → Mem → Prop}  (hF : F_X12_millOf h a1 a2 Q) : Ct yX12_millOf cX12_millOf 3 (some .int) (2, 65) [vr 161, (0, a1), (0, a2)] h (qi Q) := by
  refine Ct.of np_RX12 (Nat.le_of_ble_eq_true rfl) ?_
  unfold F_X12_millOf at hF
  show AW M_X12_millOf 0 [(0, vr 161), (1, (0, a1)), (2, (0, a2))] [] h (qi Q)
  refine aw_aload_n (j := 0) (M := M_X12_millOf) (pc := 0) dX12_millOf_0 rfl rfl ?_
  refine gf_X12_7 (M := M_X12_millOf) (pc := 1) rfl dX12_millOf_1 rfl (r := 162) rfl ?_
  refine aw_iload_n (j := 1) (M := M_X12_millOf) (pc := 4) dX12_millOf_4 rfl rfl ?_
  refine aw_csi (as := [(0, a1)]) (st := [vr 162]) (M := M_X12_millOf) (pc := 5) (f_X12_millRow  hF) dX12_millOf_5 rfl cy_X12_millRow ml_X12_213 (by decide) (by decide) (Nat.le_of_ble_eq_true rfl) (fun r2 h1 hF => ?_)
  refine aw_iload_n (j := 2) (M := M_X12_millOf) (pc := 8) dX12_millOf_8 rfl rfl ?_
  obtain ⟨o3, hF⟩ := hF
  refine aw_iadd (M := M_X12_millOf) (pc := 9) dX12_millOf_9 rfl o3 ?_
  obtain ⟨o5, hF⟩ := hF
  refine aw_iald (k := (r2 + a2).toNat) (M := M_X12_millOf) (pc := 10) dX12_millOf_10 rfl o5 rfl ?_
  exact aw_ireti (M := M_X12_millOf) (pc := 11) dX12_millOf_11 rfl ⟨_, rfl, hF⟩
abbrev M_X12_goes : Hd := (cX12_goes, 5, RX12, none, (6, 151), sc0)
def L_X12_goes_82 (h : Mem) (v2 : Int) (v3 : Int) (Q : Mem → Prop) : Prop := AW M_X12_goes 82 [(0, vr 161), (2, (0, v2)), (3, (0, v3))] [] h (qv Q)
def J_X12_goes_128 (h : Mem) (v2 : Int) (v3 : Int) (Q : Mem → Prop) : Prop :=
  (F_X12_millRow h v3 (fun r30 h29 => (InR (r30 + 2) ∧ ((0 ≤ (r30 + 2) ∧ (r30 + 2) < 3008) ∧ (InR ((h29 162 (r30 + 2).toNat) + 1) ∧ (∀ h35 : Mem, h35 = mset h29 162 (r30 + 2).toNat ((h29 162 (r30 + 2).toNat) + 1) → (InR (v3 + 1) ∧ L_X12_goes_82 h35 v2 (v3 + 1) Q)))))))
set_option maxRecDepth 100000 in
set_option maxHeartbeats 4000000 in
theorem j_X12_goes_128 {h : Mem} {v2 : Int} {v3 : Int} {Q : Mem → Prop}  (hF : J_X12_goes_128 h v2 v3 Q) : AW M_X12_goes 128 [(0, vr 161), (2, (0, v2)), (3, (0, v3))] [] h (qv Q) := by
  unfold J_X12_goes_128 at hF
  refine aw_aload_n (j := 0) (M := M_X12_goes) (pc := 128) dX12_goes_128 rfl rfl ?_
  refine gf_X12_7 (M := M_X12_goes) (pc := 129) rfl dX12_goes_129 rfl (r := 162) rfl ?_
  refine aw_iload_n (j := 2) (M := M_X12_goes) (pc := 132) dX12_goes_132 rfl rfl ?_
  refine aw_csi (as := [(0, v3)]) (st := [vr 162]) (M := M_X12_goes) (pc := 133) (f_X12_millRow  hF) dX12_goes_133 rfl cy_X12_millRow ml_X12_213 (by decide) (by decide) (Nat.le_of_ble_eq_true rfl) (fun r30 h29 hF => ?_)
  refine aw_iconst (M := M_X12_goes) (pc := 136) dX12_goes_136 ⟨by decide, by decide⟩ ?_
  obtain ⟨o31, hF⟩ := hF
  refine aw_iadd (M := M_X12_goes) (pc := 137) dX12_goes_137 rfl o31 ?_
  refine aw_dup2 (M := M_X12_goes) (pc := 138) dX12_goes_138 rfl rfl ?_
  obtain ⟨o33, hF⟩ := hF
  refine aw_iald (k := (r30 + 2).toNat) (M := M_X12_goes) (pc := 139) dX12_goes_139 rfl o33 rfl ?_
  refine aw_iconst (M := M_X12_goes) (pc := 140) dX12_goes_140 ⟨by decide, by decide⟩ ?_
  obtain ⟨o34, hF⟩ := hF
  refine aw_iadd (M := M_X12_goes) (pc := 141) dX12_goes_141 rfl o34 ?_
  refine aw_iast (k := (r30 + 2).toNat) (M := M_X12_goes) (pc := 142) dX12_goes_142 rfl o33 rfl ?_
  obtain ⟨h35, eh35⟩ : ∃ y : Mem, y = mset h29 162 (r30 + 2).toNat ((h29 162 (r30 + 2).toNat) + 1) := ⟨_, rfl⟩
  have hF := hF h35 eh35
  rw [← eh35]
  obtain ⟨o36, hF⟩ := hF
  refine aw_iinc (j := 2) (x := v3) (r := v3 + 1) (ls' := [(3, (0, v3 + 1)), (0, vr 161), (2, (0, v2))]) (M := M_X12_goes) (pc := 143) dX12_goes_143 rfl rfl o36 (by decide) rfl ?_
  refine aw_goto (tgt := 82) (M := M_X12_goes) (pc := 146) dX12_goes_146 rfl ?_
  exact aw_ls [1, 2, 0] rfl hF
def B_X12_goes_82 (h : Mem) (v2 : Int) (v3 : Int) (Q : Mem → Prop) : Prop :=
  (((h 162 1) ≤ v3 → Q h) ∧ (¬ ((h 162 1) ≤ v3) → (F_X12_millOf h v3 1 (fun r23 h22 => (F_X12_millOf h22 v3 0 (fun r25 h24 => ((¬ (r25 = (h24 162 6)) → (InR (v3 + 1) ∧ L_X12_goes_82 h24 v2 (v3 + 1) Q)) ∧ (r25 = (h24 162 6) → ((r23 = v2 → J_X12_goes_128 h24 v2 v3 Q) ∧ (¬ (r23 = v2) → ((¬ (r23 = 2) → (InR (v3 + 1) ∧ L_X12_goes_82 h24 v2 (v3 + 1) Q)) ∧ (r23 = 2 → J_X12_goes_128 h24 v2 v3 Q))))))))))))
set_option maxRecDepth 100000 in
set_option maxHeartbeats 4000000 in
theorem l_X12_goes_82 {h : Mem} {v2 : Int} {v3 : Int} {Q : Mem → Prop}  (hF : B_X12_goes_82 h v2 v3 Q) : L_X12_goes_82 h v2 v3 Q := by
  unfold B_X12_goes_82 at hF
  show AW M_X12_goes 82 [(0, vr 161), (2, (0, v2)), (3, (0, v3))] [] h (qv Q)
  refine aw_iload_n (j := 2) (M := M_X12_goes) (pc := 82) dX12_goes_82 rfl rfl ?_
  refine aw_aload_n (j := 0) (M := M_X12_goes) (pc := 83) dX12_goes_83 rfl rfl ?_
  refine gf_X12_7 (M := M_X12_goes) (pc := 84) rfl dX12_goes_84 rfl (r := 162) rfl ?_
  refine aw_iconst (M := M_X12_goes) (pc := 87) dX12_goes_87 ⟨by decide, by decide⟩ ?_
  refine aw_iald (k := 1) (M := M_X12_goes) (pc := 88) dX12_goes_88 rfl ⟨by decide, by decide⟩ rfl ?_
  refine aw_icmp_ge (tgt := 149) (M := M_X12_goes) (pc := 89) dX12_goes_89 rfl (fun hc => ?_) (fun hc => ?_)
  · have hF := hF.1 hc
    exact aw_ret (M := M_X12_goes) (pc := 149) dX12_goes_149 rfl ⟨rfl, hF⟩
  · have hF := hF.2 hc
    refine aw_aload_n (j := 0) (M := M_X12_goes) (pc := 92) dX12_goes_92 rfl rfl ?_
    refine aw_iload_n (j := 2) (M := M_X12_goes) (pc := 93) dX12_goes_93 rfl rfl ?_
    refine aw_iconst (M := M_X12_goes) (pc := 94) dX12_goes_94 ⟨by decide, by decide⟩ ?_
    refine aw_cvi (as := [(0, v3), (0, 1)]) (st := []) (M := M_X12_goes) (pc := 95) (f_X12_millOf  hF) dX12_goes_95 rfl (Or.inl ⟨_, _, _, rfl, rfl⟩) cy_X12_millOf ml_X12_290 (by decide) (by decide) (Nat.le_of_ble_eq_true rfl) (fun r23 h22 hF => ?_)
    refine aw_istore (ls' := [(4, (0, r23)), (0, vr 161), (2, (0, v2)), (3, (0, v3))]) (M := M_X12_goes) (pc := 98) dX12_goes_98  (by decide) rfl ?_
    refine aw_aload_n (j := 1) (M := M_X12_goes) (pc := 100) dX12_goes_100 rfl rfl ?_
    refine aw_iload_n (j := 3) (M := M_X12_goes) (pc := 101) dX12_goes_101 rfl rfl ?_
    refine aw_iconst (M := M_X12_goes) (pc := 102) dX12_goes_102 ⟨by decide, by decide⟩ ?_
    refine aw_cvi (as := [(0, v3), (0, 0)]) (st := []) (M := M_X12_goes) (pc := 103) (f_X12_millOf  hF) dX12_goes_103 rfl (Or.inl ⟨_, _, _, rfl, rfl⟩) cy_X12_millOf ml_X12_290 (by decide) (by decide) (Nat.le_of_ble_eq_true rfl) (fun r25 h24 hF => ?_)
    refine aw_aload_n (j := 1) (M := M_X12_goes) (pc := 106) dX12_goes_106 rfl rfl ?_
    refine gf_X12_7 (M := M_X12_goes) (pc := 107) rfl dX12_goes_107 rfl (r := 162) rfl ?_
    refine aw_bipush (M := M_X12_goes) (pc := 110) dX12_goes_110 ⟨rfl, ⟨by decide, by decide⟩⟩ ?_
    refine aw_iald (k := 6) (M := M_X12_goes) (pc := 112) dX12_goes_112 rfl ⟨by decide, by decide⟩ rfl ?_
    refine aw_icmp_ne (tgt := 143) (M := M_X12_goes) (pc := 113) dX12_goes_113 rfl (fun hc => ?_) (fun hc => ?_)
    · have hF := hF.1 hc
      obtain ⟨o27, hF⟩ := hF
      refine aw_iinc (j := 3) (x := v3) (r := v3 + 1) (ls' := [(3, (0, v3 + 1)), (4, (0, r23)), (0, vr 161), (2, (0, v2))]) (M := M_X12_goes) (pc := 143) dX12_goes_143 rfl rfl o27 (by decide) rfl ?_
      refine aw_goto (tgt := 82) (M := M_X12_goes) (pc := 146) dX12_goes_146 rfl ?_
      exact aw_ls [2, 3, 0] rfl hF
    · have hF := hF.2 hc
      refine aw_iload (j := 0) (M := M_X12_goes) (pc := 116) dX12_goes_116  rfl ?_
      refine aw_iload_n (j := 2) (M := M_X12_goes) (pc := 118) dX12_goes_118 rfl rfl ?_
      refine aw_icmp_eq (tgt := 128) (M := M_X12_goes) (pc := 119) dX12_goes_119 rfl (fun hc => ?_) (fun hc => ?_)
      · have hF := hF.1 hc
        exact aw_ls [1, 2, 3] rfl (j_X12_goes_128  hF)
      · have hF := hF.2 hc
        refine aw_iload (j := 0) (M := M_X12_goes) (pc := 122) dX12_goes_122  rfl ?_
        refine aw_iconst (M := M_X12_goes) (pc := 124) dX12_goes_124 ⟨by decide, by decide⟩ ?_
        refine aw_icmp_ne (tgt := 143) (M := M_X12_goes) (pc := 125) dX12_goes_125 rfl (fun hc => ?_) (fun hc => ?_)
        · have hF := hF.1 hc
          obtain ⟨o28, hF⟩ := hF
          refine aw_iinc (j := 3) (x := v3) (r := v3 + 1) (ls' := [(3, (0, v3 + 1)), (4, (0, r23)), (0, vr 161), (2, (0, v2))]) (M := M_X12_goes) (pc := 143) dX12_goes_143 rfl rfl o28 (by decide) rfl ?_
          refine aw_goto (tgt := 82) (M := M_X12_goes) (pc := 146) dX12_goes_146 rfl ?_
          exact aw_ls [2, 3, 0] rfl hF
        · have hF := hF.2 hc
          exact aw_ls [1, 2, 3] rfl (j_X12_goes_128  hF)
def F_X12_goes (h : Mem)  (Q : Mem → Prop) : Prop :=
  (F_X12_goalNow h  (fun r2 h1 => ((¬ (r2 = (h1 162 6)) → ((r2 ≤ (h1 162 6) → ((0 = (h1 162 7) → (InR ((h1 162 6) + (-1)) ∧ (∀ h8 : Mem, h8 = mset h1 162 6 ((h1 162 6) + (-1)) → L_X12_goes_82 h8 0 0 Q))) ∧ (¬ (0 = (h1 162 7)) → (∀ h9 : Mem, h9 = mset h1 162 7 0 → (InR ((h9 162 8) + 1) ∧ (∀ h12 : Mem, h12 = mset h9 162 8 ((h9 162 8) + 1) → Q h12)))))) ∧ (¬ (r2 ≤ (h1 162 6)) → ((1 = (h1 162 7) → (InR ((h1 162 6) + 1) ∧ (∀ h16 : Mem, h16 = mset h1 162 6 ((h1 162 6) + 1) → L_X12_goes_82 h16 1 0 Q))) ∧ (¬ (1 = (h1 162 7)) → (∀ h17 : Mem, h17 = mset h1 162 7 1 → (InR ((h17 162 8) + 1) ∧ (∀ h20 : Mem, h20 = mset h17 162 8 ((h17 162 8) + 1) → Q h20)))))))) ∧ (r2 = (h1 162 6) → Q h1))))
set_option maxRecDepth 100000 in
set_option maxHeartbeats 4000000 in
theorem f_X12_goes {h : Mem}  {Q : Mem → Prop}  (hF : F_X12_goes h  Q) : Ct yX12_goes cX12_goes 5 none (6, 151) [vr 161] h (qv Q) := by
  refine Ct.of np_RX12 (Nat.le_of_ble_eq_true rfl) ?_
  unfold F_X12_goes at hF
  show AW M_X12_goes 0 [(0, vr 161)] [] h (qv Q)
  refine aw_aload_n (j := 0) (M := M_X12_goes) (pc := 0) dX12_goes_0 rfl rfl ?_
  refine aw_cvi (as := []) (st := []) (M := M_X12_goes) (pc := 1) (f_X12_goalNow  hF) dX12_goes_1 rfl (Or.inl ⟨_, _, _, rfl, rfl⟩) cy_X12_goalNow ml_X12_293 (by decide) (by decide) (Nat.le_of_ble_eq_true rfl) (fun r2 h1 hF => ?_)
  refine aw_istore_n (ls' := [(1, (0, r2)), (0, vr 161)]) (M := M_X12_goes) (pc := 4) dX12_goes_4 rfl (by decide) rfl ?_
  refine aw_iload_n (j := 0) (M := M_X12_goes) (pc := 5) dX12_goes_5 rfl rfl ?_
  refine aw_aload_n (j := 1) (M := M_X12_goes) (pc := 6) dX12_goes_6 rfl rfl ?_
  refine gf_X12_7 (M := M_X12_goes) (pc := 7) rfl dX12_goes_7 rfl (r := 162) rfl ?_
  refine aw_bipush (M := M_X12_goes) (pc := 10) dX12_goes_10 ⟨rfl, ⟨by decide, by decide⟩⟩ ?_
  refine aw_iald (k := 6) (M := M_X12_goes) (pc := 12) dX12_goes_12 rfl ⟨by decide, by decide⟩ rfl ?_
  refine aw_icmp_ne (tgt := 17) (M := M_X12_goes) (pc := 13) dX12_goes_13 rfl (fun hc => ?_) (fun hc => ?_)
  · have hF := hF.1 hc
    refine aw_iload_n (j := 0) (M := M_X12_goes) (pc := 17) dX12_goes_17 rfl rfl ?_
    refine aw_aload_n (j := 1) (M := M_X12_goes) (pc := 18) dX12_goes_18 rfl rfl ?_
    refine gf_X12_7 (M := M_X12_goes) (pc := 19) rfl dX12_goes_19 rfl (r := 162) rfl ?_
    refine aw_bipush (M := M_X12_goes) (pc := 22) dX12_goes_22 ⟨rfl, ⟨by decide, by decide⟩⟩ ?_
    refine aw_iald (k := 6) (M := M_X12_goes) (pc := 24) dX12_goes_24 rfl ⟨by decide, by decide⟩ rfl ?_
    refine aw_icmp_le (tgt := 32) (M := M_X12_goes) (pc := 25) dX12_goes_25 rfl (fun hc => ?_) (fun hc => ?_)
    · have hF := hF.1 hc
      refine aw_iconst (M := M_X12_goes) (pc := 32) dX12_goes_32 ⟨by decide, by decide⟩ ?_
      refine aw_istore_n (ls' := [(2, (0, 0)), (1, (0, r2)), (0, vr 161)]) (M := M_X12_goes) (pc := 33) dX12_goes_33 rfl (by decide) rfl ?_
      refine aw_iload_n (j := 0) (M := M_X12_goes) (pc := 34) dX12_goes_34 rfl rfl ?_
      refine aw_aload_n (j := 2) (M := M_X12_goes) (pc := 35) dX12_goes_35 rfl rfl ?_
      refine gf_X12_7 (M := M_X12_goes) (pc := 36) rfl dX12_goes_36 rfl (r := 162) rfl ?_
      refine aw_bipush (M := M_X12_goes) (pc := 39) dX12_goes_39 ⟨rfl, ⟨by decide, by decide⟩⟩ ?_
      refine aw_iald (k := 7) (M := M_X12_goes) (pc := 41) dX12_goes_41 rfl ⟨by decide, by decide⟩ rfl ?_
      refine aw_icmp_eq (tgt := 65) (M := M_X12_goes) (pc := 42) dX12_goes_42 rfl (fun hc => ?_) (fun hc => ?_)
      · have hF := hF.1 hc
        refine aw_aload_n (j := 2) (M := M_X12_goes) (pc := 65) dX12_goes_65 rfl rfl ?_
        refine gf_X12_7 (M := M_X12_goes) (pc := 66) rfl dX12_goes_66 rfl (r := 162) rfl ?_
        refine aw_bipush (M := M_X12_goes) (pc := 69) dX12_goes_69 ⟨rfl, ⟨by decide, by decide⟩⟩ ?_
        refine aw_dup2 (M := M_X12_goes) (pc := 71) dX12_goes_71 rfl rfl ?_
        refine aw_iald (k := 6) (M := M_X12_goes) (pc := 72) dX12_goes_72 rfl ⟨by decide, by decide⟩ rfl ?_
        refine aw_iconst (M := M_X12_goes) (pc := 73) dX12_goes_73 ⟨by decide, by decide⟩ ?_
        refine aw_iload_n (j := 0) (M := M_X12_goes) (pc := 74) dX12_goes_74 rfl rfl ?_
        refine aw_imul (r := 0) (M := M_X12_goes) (pc := 75) dX12_goes_75 (by decide) ⟨by decide, by decide⟩ ?_
        refine aw_iconst (M := M_X12_goes) (pc := 76) dX12_goes_76 ⟨by decide, by decide⟩ ?_
        refine aw_isub (r := (-1)) (M := M_X12_goes) (pc := 77) dX12_goes_77 (by decide) ⟨by decide, by decide⟩ ?_
        obtain ⟨o7, hF⟩ := hF
        refine aw_iadd (M := M_X12_goes) (pc := 78) dX12_goes_78 rfl o7 ?_
        refine aw_iast (k := 6) (M := M_X12_goes) (pc := 79) dX12_goes_79 rfl ⟨by decide, by decide⟩ rfl ?_
        obtain ⟨h8, eh8⟩ : ∃ y : Mem, y = mset h1 162 6 ((h1 162 6) + (-1)) := ⟨_, rfl⟩
        have hF := hF h8 eh8
        rw [← eh8]
        refine aw_iconst (M := M_X12_goes) (pc := 80) dX12_goes_80 ⟨by decide, by decide⟩ ?_
        refine aw_istore_n (ls' := [(3, (0, 0)), (2, (0, 0)), (1, (0, r2)), (0, vr 161)]) (M := M_X12_goes) (pc := 81) dX12_goes_81 rfl (by decide) rfl ?_
        exact aw_ls [3, 1, 0] rfl hF
      · have hF := hF.2 hc
        refine aw_aload_n (j := 2) (M := M_X12_goes) (pc := 45) dX12_goes_45 rfl rfl ?_
        refine gf_X12_7 (M := M_X12_goes) (pc := 46) rfl dX12_goes_46 rfl (r := 162) rfl ?_
        refine aw_bipush (M := M_X12_goes) (pc := 49) dX12_goes_49 ⟨rfl, ⟨by decide, by decide⟩⟩ ?_
        refine aw_iload_n (j := 0) (M := M_X12_goes) (pc := 51) dX12_goes_51 rfl rfl ?_
        refine aw_iast (k := 7) (M := M_X12_goes) (pc := 52) dX12_goes_52 rfl ⟨by decide, by decide⟩ rfl ?_
        obtain ⟨h9, eh9⟩ : ∃ y : Mem, y = mset h1 162 7 0 := ⟨_, rfl⟩
        have hF := hF h9 eh9
        rw [← eh9]
        refine aw_aload_n (j := 2) (M := M_X12_goes) (pc := 53) dX12_goes_53 rfl rfl ?_
        refine gf_X12_7 (M := M_X12_goes) (pc := 54) rfl dX12_goes_54 rfl (r := 162) rfl ?_
        refine aw_bipush (M := M_X12_goes) (pc := 57) dX12_goes_57 ⟨rfl, ⟨by decide, by decide⟩⟩ ?_
        refine aw_dup2 (M := M_X12_goes) (pc := 59) dX12_goes_59 rfl rfl ?_
        refine aw_iald (k := 8) (M := M_X12_goes) (pc := 60) dX12_goes_60 rfl ⟨by decide, by decide⟩ rfl ?_
        refine aw_iconst (M := M_X12_goes) (pc := 61) dX12_goes_61 ⟨by decide, by decide⟩ ?_
        obtain ⟨o11, hF⟩ := hF
        refine aw_iadd (M := M_X12_goes) (pc := 62) dX12_goes_62 rfl o11 ?_
        refine aw_iast (k := 8) (M := M_X12_goes) (pc := 63) dX12_goes_63 rfl ⟨by decide, by decide⟩ rfl ?_
        obtain ⟨h12, eh12⟩ : ∃ y : Mem, y = mset h9 162 8 ((h9 162 8) + 1) := ⟨_, rfl⟩
        have hF := hF h12 eh12
        rw [← eh12]
        exact aw_ret (M := M_X12_goes) (pc := 64) dX12_goes_64 rfl ⟨rfl, hF⟩
    · have hF := hF.2 hc
      refine aw_iconst (M := M_X12_goes) (pc := 28) dX12_goes_28 ⟨by decide, by decide⟩ ?_
      refine aw_goto (tgt := 33) (M := M_X12_goes) (pc := 29) dX12_goes_29 rfl ?_
      refine aw_istore_n (ls' := [(2, (0, 1)), (1, (0, r2)), (0, vr 161)]) (M := M_X12_goes) (pc := 33) dX12_goes_33 rfl (by decide) rfl ?_
      refine aw_iload_n (j := 0) (M := M_X12_goes) (pc := 34) dX12_goes_34 rfl rfl ?_
      refine aw_aload_n (j := 2) (M := M_X12_goes) (pc := 35) dX12_goes_35 rfl rfl ?_
      refine gf_X12_7 (M := M_X12_goes) (pc := 36) rfl dX12_goes_36 rfl (r := 162) rfl ?_
      refine aw_bipush (M := M_X12_goes) (pc := 39) dX12_goes_39 ⟨rfl, ⟨by decide, by decide⟩⟩ ?_
      refine aw_iald (k := 7) (M := M_X12_goes) (pc := 41) dX12_goes_41 rfl ⟨by decide, by decide⟩ rfl ?_
      refine aw_icmp_eq (tgt := 65) (M := M_X12_goes) (pc := 42) dX12_goes_42 rfl (fun hc => ?_) (fun hc => ?_)
      · have hF := hF.1 hc
        refine aw_aload_n (j := 2) (M := M_X12_goes) (pc := 65) dX12_goes_65 rfl rfl ?_
        refine gf_X12_7 (M := M_X12_goes) (pc := 66) rfl dX12_goes_66 rfl (r := 162) rfl ?_
        refine aw_bipush (M := M_X12_goes) (pc := 69) dX12_goes_69 ⟨rfl, ⟨by decide, by decide⟩⟩ ?_
        refine aw_dup2 (M := M_X12_goes) (pc := 71) dX12_goes_71 rfl rfl ?_
        refine aw_iald (k := 6) (M := M_X12_goes) (pc := 72) dX12_goes_72 rfl ⟨by decide, by decide⟩ rfl ?_
        refine aw_iconst (M := M_X12_goes) (pc := 73) dX12_goes_73 ⟨by decide, by decide⟩ ?_
        refine aw_iload_n (j := 0) (M := M_X12_goes) (pc := 74) dX12_goes_74 rfl rfl ?_
        refine aw_imul (r := 2) (M := M_X12_goes) (pc := 75) dX12_goes_75 (by decide) ⟨by decide, by decide⟩ ?_
        refine aw_iconst (M := M_X12_goes) (pc := 76) dX12_goes_76 ⟨by decide, by decide⟩ ?_
        refine aw_isub (r := 1) (M := M_X12_goes) (pc := 77) dX12_goes_77 (by decide) ⟨by decide, by decide⟩ ?_
        obtain ⟨o15, hF⟩ := hF
        refine aw_iadd (M := M_X12_goes) (pc := 78) dX12_goes_78 rfl o15 ?_
        refine aw_iast (k := 6) (M := M_X12_goes) (pc := 79) dX12_goes_79 rfl ⟨by decide, by decide⟩ rfl ?_
        obtain ⟨h16, eh16⟩ : ∃ y : Mem, y = mset h1 162 6 ((h1 162 6) + 1) := ⟨_, rfl⟩
        have hF := hF h16 eh16
        rw [← eh16]
        refine aw_iconst (M := M_X12_goes) (pc := 80) dX12_goes_80 ⟨by decide, by decide⟩ ?_
        refine aw_istore_n (ls' := [(3, (0, 0)), (2, (0, 1)), (1, (0, r2)), (0, vr 161)]) (M := M_X12_goes) (pc := 81) dX12_goes_81 rfl (by decide) rfl ?_
        exact aw_ls [3, 1, 0] rfl hF
      · have hF := hF.2 hc
        refine aw_aload_n (j := 2) (M := M_X12_goes) (pc := 45) dX12_goes_45 rfl rfl ?_
        refine gf_X12_7 (M := M_X12_goes) (pc := 46) rfl dX12_goes_46 rfl (r := 162) rfl ?_
        refine aw_bipush (M := M_X12_goes) (pc := 49) dX12_goes_49 ⟨rfl, ⟨by decide, by decide⟩⟩ ?_
        refine aw_iload_n (j := 0) (M := M_X12_goes) (pc := 51) dX12_goes_51 rfl rfl ?_
        refine aw_iast (k := 7) (M := M_X12_goes) (pc := 52) dX12_goes_52 rfl ⟨by decide, by decide⟩ rfl ?_
        obtain ⟨h17, eh17⟩ : ∃ y : Mem, y = mset h1 162 7 1 := ⟨_, rfl⟩
        have hF := hF h17 eh17
        rw [← eh17]
        refine aw_aload_n (j := 2) (M := M_X12_goes) (pc := 53) dX12_goes_53 rfl rfl ?_
        refine gf_X12_7 (M := M_X12_goes) (pc := 54) rfl dX12_goes_54 rfl (r := 162) rfl ?_
        refine aw_bipush (M := M_X12_goes) (pc := 57) dX12_goes_57 ⟨rfl, ⟨by decide, by decide⟩⟩ ?_
        refine aw_dup2 (M := M_X12_goes) (pc := 59) dX12_goes_59 rfl rfl ?_
        refine aw_iald (k := 8) (M := M_X12_goes) (pc := 60) dX12_goes_60 rfl ⟨by decide, by decide⟩ rfl ?_
        refine aw_iconst (M := M_X12_goes) (pc := 61) dX12_goes_61 ⟨by decide, by decide⟩ ?_
        obtain ⟨o19, hF⟩ := hF
        refine aw_iadd (M := M_X12_goes) (pc := 62) dX12_goes_62 rfl o19 ?_
        refine aw_iast (k := 8) (M := M_X12_goes) (pc := 63) dX12_goes_63 rfl ⟨by decide, by decide⟩ rfl ?_
        obtain ⟨h20, eh20⟩ : ∃ y : Mem, y = mset h17 162 8 ((h17 162 8) + 1) := ⟨_, rfl⟩
        have hF := hF h20 eh20
        rw [← eh20]
        exact aw_ret (M := M_X12_goes) (pc := 64) dX12_goes_64 rfl ⟨rfl, hF⟩
  · have hF := hF.2 hc
    exact aw_ret (M := M_X12_goes) (pc := 16) dX12_goes_16 rfl ⟨rfl, hF⟩
abbrev M_X12_lasts : Hd := (cX12_lasts, 3, RX12, none, (2, 65), sc0)
def F_X12_lasts (h : Mem) (a1 : Int) (Q : Mem → Prop) : Prop :=
  (F_X12_thingRow h a1 (fun r2 h1 => (InR (r2 + 3) ∧ ((0 ≤ (r2 + 3) ∧ (r2 + 3) < 3008) ∧ ((¬ ((h1 162 (r2 + 3).toNat) = 1) → ((¬ ((h1 162 (r2 + 3).toNat) = 2) → Q h1) ∧ ((h1 162 (r2 + 3).toNat) = 2 → (InR (r2 + 5) ∧ ((0 ≤ (r2 + 5) ∧ (r2 + 5) < 3008) ∧ (InR ((h1 162 (r2 + 5).toNat) + 1) ∧ (∀ h11 : Mem, h11 = mset h1 162 (r2 + 5).toNat ((h1 162 (r2 + 5).toNat) + 1) → (InR (r2 + 1) ∧ ((0 ≤ (r2 + 1) ∧ (r2 + 1) < 3008) ∧ (((h11 162 (r2 + 1).toNat) ≤ (h11 162 (r2 + 5).toNat) → (∀ h16 : Mem, h16 = mset h11 162 (r2 + 3).toNat 1 → (InR (r2 + 4) ∧ ((0 ≤ (r2 + 4) ∧ (r2 + 4) < 3008) ∧ (∀ h20 : Mem, h20 = mset h16 162 (r2 + 4).toNat (h16 162 6) → (∀ h21 : Mem, h21 = mset h20 162 (r2 + 5).toNat 0 → Q h21)))))) ∧ (¬ ((h11 162 (r2 + 1).toNat) ≤ (h11 162 (r2 + 5).toNat)) → Q h11))))))))))) ∧ ((h1 162 (r2 + 3).toNat) = 1 → (InR (r2 + 5) ∧ ((0 ≤ (r2 + 5) ∧ (r2 + 5) < 3008) ∧ (InR ((h1 162 (r2 + 5).toNat) + 1) ∧ (∀ h26 : Mem, h26 = mset h1 162 (r2 + 5).toNat (imin 99 ((h1 162 (r2 + 5).toNat) + 1)) → Q h26))))))))))
set_option maxRecDepth 100000 in
set_option maxHeartbeats 4000000 in
theorem f_X12_lasts {h : Mem} {a1 : Int} {Q : Mem → Prop}  (hF : F_X12_lasts h a1 Q) : Ct yX12_lasts cX12_lasts 3 none (2, 65) [vr 161, (0, a1)] h (qv Q) := by
  refine Ct.of np_RX12 (Nat.le_of_ble_eq_true rfl) ?_
  unfold F_X12_lasts at hF
  show AW M_X12_lasts 0 [(0, vr 161), (1, (0, a1))] [] h (qv Q)
  refine aw_iload_n (j := 1) (M := M_X12_lasts) (pc := 0) dX12_lasts_0 rfl rfl ?_
  refine aw_csi (as := [(0, a1)]) (st := []) (M := M_X12_lasts) (pc := 1) (f_X12_thingRow  hF) dX12_lasts_1 rfl cy_X12_thingRow ml_X12_203 (by decide) (by decide) (Nat.le_of_ble_eq_true rfl) (fun r2 h1 hF => ?_)
  refine aw_istore_n (ls' := [(2, (0, r2)), (0, vr 161), (1, (0, a1))]) (M := M_X12_lasts) (pc := 4) dX12_lasts_4 rfl (by decide) rfl ?_
  refine aw_aload_n (j := 1) (M := M_X12_lasts) (pc := 5) dX12_lasts_5 rfl rfl ?_
  refine gf_X12_7 (M := M_X12_lasts) (pc := 6) rfl dX12_lasts_6 rfl (r := 162) rfl ?_
  refine aw_iload_n (j := 0) (M := M_X12_lasts) (pc := 9) dX12_lasts_9 rfl rfl ?_
  refine aw_iconst (M := M_X12_lasts) (pc := 10) dX12_lasts_10 ⟨by decide, by decide⟩ ?_
  obtain ⟨o3, hF⟩ := hF
  refine aw_iadd (M := M_X12_lasts) (pc := 11) dX12_lasts_11 rfl o3 ?_
  obtain ⟨o5, hF⟩ := hF
  refine aw_iald (k := (r2 + 3).toNat) (M := M_X12_lasts) (pc := 12) dX12_lasts_12 rfl o5 rfl ?_
  refine aw_iconst (M := M_X12_lasts) (pc := 13) dX12_lasts_13 ⟨by decide, by decide⟩ ?_
  refine aw_icmp_ne (tgt := 43) (M := M_X12_lasts) (pc := 14) dX12_lasts_14 rfl (fun hc => ?_) (fun hc => ?_)
  · have hF := hF.1 hc
    refine aw_aload_n (j := 1) (M := M_X12_lasts) (pc := 43) dX12_lasts_43 rfl rfl ?_
    refine gf_X12_7 (M := M_X12_lasts) (pc := 44) rfl dX12_lasts_44 rfl (r := 162) rfl ?_
    refine aw_iload_n (j := 0) (M := M_X12_lasts) (pc := 47) dX12_lasts_47 rfl rfl ?_
    refine aw_iconst (M := M_X12_lasts) (pc := 48) dX12_lasts_48 ⟨by decide, by decide⟩ ?_
    refine aw_iadd (M := M_X12_lasts) (pc := 49) dX12_lasts_49 rfl o3 ?_
    refine aw_iald (k := (r2 + 3).toNat) (M := M_X12_lasts) (pc := 50) dX12_lasts_50 rfl o5 rfl ?_
    refine aw_iconst (M := M_X12_lasts) (pc := 51) dX12_lasts_51 ⟨by decide, by decide⟩ ?_
    refine aw_icmp_ne (tgt := 120) (M := M_X12_lasts) (pc := 52) dX12_lasts_52 rfl (fun hc => ?_) (fun hc => ?_)
    · have hF := hF.1 hc
      exact aw_ret (M := M_X12_lasts) (pc := 120) dX12_lasts_120 rfl ⟨rfl, hF⟩
    · have hF := hF.2 hc
      refine aw_aload_n (j := 1) (M := M_X12_lasts) (pc := 55) dX12_lasts_55 rfl rfl ?_
      refine gf_X12_7 (M := M_X12_lasts) (pc := 56) rfl dX12_lasts_56 rfl (r := 162) rfl ?_
      refine aw_iload_n (j := 0) (M := M_X12_lasts) (pc := 59) dX12_lasts_59 rfl rfl ?_
      refine aw_iconst (M := M_X12_lasts) (pc := 60) dX12_lasts_60 ⟨by decide, by decide⟩ ?_
      obtain ⟨o7, hF⟩ := hF
      refine aw_iadd (M := M_X12_lasts) (pc := 61) dX12_lasts_61 rfl o7 ?_
      refine aw_dup2 (M := M_X12_lasts) (pc := 62) dX12_lasts_62 rfl rfl ?_
      obtain ⟨o9, hF⟩ := hF
      refine aw_iald (k := (r2 + 5).toNat) (M := M_X12_lasts) (pc := 63) dX12_lasts_63 rfl o9 rfl ?_
      refine aw_iconst (M := M_X12_lasts) (pc := 64) dX12_lasts_64 ⟨by decide, by decide⟩ ?_
      obtain ⟨o10, hF⟩ := hF
      refine aw_iadd (M := M_X12_lasts) (pc := 65) dX12_lasts_65 rfl o10 ?_
      refine aw_iast (k := (r2 + 5).toNat) (M := M_X12_lasts) (pc := 66) dX12_lasts_66 rfl o9 rfl ?_
      obtain ⟨h11, eh11⟩ : ∃ y : Mem, y = mset h1 162 (r2 + 5).toNat ((h1 162 (r2 + 5).toNat) + 1) := ⟨_, rfl⟩
      have hF := hF h11 eh11
      rw [← eh11]
      refine aw_aload_n (j := 1) (M := M_X12_lasts) (pc := 67) dX12_lasts_67 rfl rfl ?_
      refine gf_X12_7 (M := M_X12_lasts) (pc := 68) rfl dX12_lasts_68 rfl (r := 162) rfl ?_
      refine aw_iload_n (j := 0) (M := M_X12_lasts) (pc := 71) dX12_lasts_71 rfl rfl ?_
      refine aw_iconst (M := M_X12_lasts) (pc := 72) dX12_lasts_72 ⟨by decide, by decide⟩ ?_
      refine aw_iadd (M := M_X12_lasts) (pc := 73) dX12_lasts_73 rfl o7 ?_
      refine aw_iald (k := (r2 + 5).toNat) (M := M_X12_lasts) (pc := 74) dX12_lasts_74 rfl o9 rfl ?_
      refine aw_aload_n (j := 1) (M := M_X12_lasts) (pc := 75) dX12_lasts_75 rfl rfl ?_
      refine gf_X12_7 (M := M_X12_lasts) (pc := 76) rfl dX12_lasts_76 rfl (r := 162) rfl ?_
      refine aw_iload_n (j := 0) (M := M_X12_lasts) (pc := 79) dX12_lasts_79 rfl rfl ?_
      refine aw_iconst (M := M_X12_lasts) (pc := 80) dX12_lasts_80 ⟨by decide, by decide⟩ ?_
      obtain ⟨o13, hF⟩ := hF
      refine aw_iadd (M := M_X12_lasts) (pc := 81) dX12_lasts_81 rfl o13 ?_
      obtain ⟨o15, hF⟩ := hF
      refine aw_iald (k := (r2 + 1).toNat) (M := M_X12_lasts) (pc := 82) dX12_lasts_82 rfl o15 rfl ?_
      refine aw_icmp_ge (tgt := 87) (M := M_X12_lasts) (pc := 83) dX12_lasts_83 rfl (fun hc => ?_) (fun hc => ?_)
      · have hF := hF.1 hc
        refine aw_aload_n (j := 1) (M := M_X12_lasts) (pc := 87) dX12_lasts_87 rfl rfl ?_
        refine gf_X12_7 (M := M_X12_lasts) (pc := 88) rfl dX12_lasts_88 rfl (r := 162) rfl ?_
        refine aw_iload_n (j := 0) (M := M_X12_lasts) (pc := 91) dX12_lasts_91 rfl rfl ?_
        refine aw_iconst (M := M_X12_lasts) (pc := 92) dX12_lasts_92 ⟨by decide, by decide⟩ ?_
        refine aw_iadd (M := M_X12_lasts) (pc := 93) dX12_lasts_93 rfl o3 ?_
        refine aw_iconst (M := M_X12_lasts) (pc := 94) dX12_lasts_94 ⟨by decide, by decide⟩ ?_
        refine aw_iast (k := (r2 + 3).toNat) (M := M_X12_lasts) (pc := 95) dX12_lasts_95 rfl o5 rfl ?_
        obtain ⟨h16, eh16⟩ : ∃ y : Mem, y = mset h11 162 (r2 + 3).toNat 1 := ⟨_, rfl⟩
        have hF := hF h16 eh16
        rw [← eh16]
        refine aw_aload_n (j := 1) (M := M_X12_lasts) (pc := 96) dX12_lasts_96 rfl rfl ?_
        refine gf_X12_7 (M := M_X12_lasts) (pc := 97) rfl dX12_lasts_97 rfl (r := 162) rfl ?_
        refine aw_iload_n (j := 0) (M := M_X12_lasts) (pc := 100) dX12_lasts_100 rfl rfl ?_
        refine aw_iconst (M := M_X12_lasts) (pc := 101) dX12_lasts_101 ⟨by decide, by decide⟩ ?_
        obtain ⟨o17, hF⟩ := hF
        refine aw_iadd (M := M_X12_lasts) (pc := 102) dX12_lasts_102 rfl o17 ?_
        refine aw_aload_n (j := 1) (M := M_X12_lasts) (pc := 103) dX12_lasts_103 rfl rfl ?_
        refine gf_X12_7 (M := M_X12_lasts) (pc := 104) rfl dX12_lasts_104 rfl (r := 162) rfl ?_
        refine aw_bipush (M := M_X12_lasts) (pc := 107) dX12_lasts_107 ⟨rfl, ⟨by decide, by decide⟩⟩ ?_
        refine aw_iald (k := 6) (M := M_X12_lasts) (pc := 109) dX12_lasts_109 rfl ⟨by decide, by decide⟩ rfl ?_
        obtain ⟨o19, hF⟩ := hF
        refine aw_iast (k := (r2 + 4).toNat) (M := M_X12_lasts) (pc := 110) dX12_lasts_110 rfl o19 rfl ?_
        obtain ⟨h20, eh20⟩ : ∃ y : Mem, y = mset h16 162 (r2 + 4).toNat (h16 162 6) := ⟨_, rfl⟩
        have hF := hF h20 eh20
        rw [← eh20]
        refine aw_aload_n (j := 1) (M := M_X12_lasts) (pc := 111) dX12_lasts_111 rfl rfl ?_
        refine gf_X12_7 (M := M_X12_lasts) (pc := 112) rfl dX12_lasts_112 rfl (r := 162) rfl ?_
        refine aw_iload_n (j := 0) (M := M_X12_lasts) (pc := 115) dX12_lasts_115 rfl rfl ?_
        refine aw_iconst (M := M_X12_lasts) (pc := 116) dX12_lasts_116 ⟨by decide, by decide⟩ ?_
        refine aw_iadd (M := M_X12_lasts) (pc := 117) dX12_lasts_117 rfl o7 ?_
        refine aw_iconst (M := M_X12_lasts) (pc := 118) dX12_lasts_118 ⟨by decide, by decide⟩ ?_
        refine aw_iast (k := (r2 + 5).toNat) (M := M_X12_lasts) (pc := 119) dX12_lasts_119 rfl o9 rfl ?_
        obtain ⟨h21, eh21⟩ : ∃ y : Mem, y = mset h20 162 (r2 + 5).toNat 0 := ⟨_, rfl⟩
        have hF := hF h21 eh21
        rw [← eh21]
        exact aw_ret (M := M_X12_lasts) (pc := 120) dX12_lasts_120 rfl ⟨rfl, hF⟩
      · have hF := hF.2 hc
        exact aw_ret (M := M_X12_lasts) (pc := 86) dX12_lasts_86 rfl ⟨rfl, hF⟩
  · have hF := hF.2 hc
    refine aw_aload_n (j := 1) (M := M_X12_lasts) (pc := 17) dX12_lasts_17 rfl rfl ?_
    refine gf_X12_7 (M := M_X12_lasts) (pc := 18) rfl dX12_lasts_18 rfl (r := 162) rfl ?_
    refine aw_iload_n (j := 0) (M := M_X12_lasts) (pc := 21) dX12_lasts_21 rfl rfl ?_
    refine aw_iconst (M := M_X12_lasts) (pc := 22) dX12_lasts_22 ⟨by decide, by decide⟩ ?_
    obtain ⟨o22, hF⟩ := hF
    refine aw_iadd (M := M_X12_lasts) (pc := 23) dX12_lasts_23 rfl o22 ?_
    refine aw_bipush (M := M_X12_lasts) (pc := 24) dX12_lasts_24 ⟨rfl, ⟨by decide, by decide⟩⟩ ?_
    refine aw_aload_n (j := 1) (M := M_X12_lasts) (pc := 26) dX12_lasts_26 rfl rfl ?_
    refine gf_X12_7 (M := M_X12_lasts) (pc := 27) rfl dX12_lasts_27 rfl (r := 162) rfl ?_
    refine aw_iload_n (j := 0) (M := M_X12_lasts) (pc := 30) dX12_lasts_30 rfl rfl ?_
    refine aw_iconst (M := M_X12_lasts) (pc := 31) dX12_lasts_31 ⟨by decide, by decide⟩ ?_
    refine aw_iadd (M := M_X12_lasts) (pc := 32) dX12_lasts_32 rfl o22 ?_
    obtain ⟨o24, hF⟩ := hF
    refine aw_iald (k := (r2 + 5).toNat) (M := M_X12_lasts) (pc := 33) dX12_lasts_33 rfl o24 rfl ?_
    refine aw_iconst (M := M_X12_lasts) (pc := 34) dX12_lasts_34 ⟨by decide, by decide⟩ ?_
    obtain ⟨o25, hF⟩ := hF
    refine aw_iadd (M := M_X12_lasts) (pc := 35) dX12_lasts_35 rfl o25 ?_
    refine aw_mmin (M := M_X12_lasts) (pc := 36) ml_X12_146 dX12_lasts_36 (by decide) (Nat.le_of_ble_eq_true rfl) ?_
    refine aw_iast (k := (r2 + 5).toNat) (M := M_X12_lasts) (pc := 39) dX12_lasts_39 rfl o24 rfl ?_
    obtain ⟨h26, eh26⟩ : ∃ y : Mem, y = mset h1 162 (r2 + 5).toNat (imin 99 ((h1 162 (r2 + 5).toNat) + 1)) := ⟨_, rfl⟩
    have hF := hF h26 eh26
    rw [← eh26]
    refine aw_goto (tgt := 120) (M := M_X12_lasts) (pc := 40) dX12_lasts_40 rfl ?_
    exact aw_ret (M := M_X12_lasts) (pc := 120) dX12_lasts_120 rfl ⟨rfl, hF⟩
abbrev M_X12_thingsThat : Hd := (cX12_thingsThat, 5, RX12, (some .int), (4, 108), sc0)
def L_X12_thingsThat_4 (h : Mem) (v1 : Int) (v2 : Int) (v3 : Int) (Q : Int → Mem → Prop) : Prop := AW M_X12_thingsThat 4 [(0, vr 161), (1, (0, v1)), (2, (0, v2)), (3, (0, v3))] [] h (qi Q)
def B_X12_thingsThat_4 (h : Mem) (v1 : Int) (v2 : Int) (v3 : Int) (Q : Int → Mem → Prop) : Prop :=
  (((h 162 0) ≤ v3 → Q v2 h) ∧ (¬ ((h 162 0) ≤ v3) → ((¬ (v1 = 4) → (F_X12_thingOf h v3 3 (fun r3 h2 => ((¬ (r3 = v1) → (InR (v3 + 1) ∧ L_X12_thingsThat_4 h2 v1 (ior v2 0) (v3 + 1) Q)) ∧ (r3 = v1 → (∀ x5 : Int, x5 = ior v2 (ishl 1 v3) → (InR (v3 + 1) ∧ L_X12_thingsThat_4 h2 v1 x5 (v3 + 1) Q))))))) ∧ (v1 = 4 → (F_X12_isRemembered h v3 (fun r8 h7 => ((r8 = 0 → (InR (v3 + 1) ∧ L_X12_thingsThat_4 h7 v1 (ior v2 0) (v3 + 1) Q)) ∧ (¬ (r8 = 0) → (∀ x10 : Int, x10 = ior v2 (ishl 1 v3) → (InR (v3 + 1) ∧ L_X12_thingsThat_4 h7 v1 x10 (v3 + 1) Q))))))))))
set_option maxRecDepth 100000 in
set_option maxHeartbeats 4000000 in
theorem l_X12_thingsThat_4 {h : Mem} {v1 : Int} {v2 : Int} {v3 : Int} {Q : Int → Mem → Prop}  (hF : B_X12_thingsThat_4 h v1 v2 v3 Q) : L_X12_thingsThat_4 h v1 v2 v3 Q := by
  unfold B_X12_thingsThat_4 at hF
  show AW M_X12_thingsThat 4 [(0, vr 161), (1, (0, v1)), (2, (0, v2)), (3, (0, v3))] [] h (qi Q)
  refine aw_iload_n (j := 3) (M := M_X12_thingsThat) (pc := 4) dX12_thingsThat_4 rfl rfl ?_
  refine aw_aload_n (j := 0) (M := M_X12_thingsThat) (pc := 5) dX12_thingsThat_5 rfl rfl ?_
  refine gf_X12_7 (M := M_X12_thingsThat) (pc := 6) rfl dX12_thingsThat_6 rfl (r := 162) rfl ?_
  refine aw_iconst (M := M_X12_thingsThat) (pc := 9) dX12_thingsThat_9 ⟨by decide, by decide⟩ ?_
  refine aw_iald (k := 0) (M := M_X12_thingsThat) (pc := 10) dX12_thingsThat_10 rfl ⟨by decide, by decide⟩ rfl ?_
  refine aw_icmp_ge (tgt := 65) (M := M_X12_thingsThat) (pc := 11) dX12_thingsThat_11 rfl (fun hc => ?_) (fun hc => ?_)
  · have hF := hF.1 hc
    refine aw_iload_n (j := 2) (M := M_X12_thingsThat) (pc := 65) dX12_thingsThat_65 rfl rfl ?_
    exact aw_ireti (M := M_X12_thingsThat) (pc := 66) dX12_thingsThat_66 rfl ⟨_, rfl, hF⟩
  · have hF := hF.2 hc
    refine aw_iload_n (j := 1) (M := M_X12_thingsThat) (pc := 14) dX12_thingsThat_14 rfl rfl ?_
    refine aw_iconst (M := M_X12_thingsThat) (pc := 15) dX12_thingsThat_15 ⟨by decide, by decide⟩ ?_
    refine aw_icmp_ne (tgt := 27) (M := M_X12_thingsThat) (pc := 16) dX12_thingsThat_16 rfl (fun hc => ?_) (fun hc => ?_)
    · have hF := hF.1 hc
      refine aw_aload_n (j := 0) (M := M_X12_thingsThat) (pc := 27) dX12_thingsThat_27 rfl rfl ?_
      refine aw_iload_n (j := 3) (M := M_X12_thingsThat) (pc := 28) dX12_thingsThat_28 rfl rfl ?_
      refine aw_iconst (M := M_X12_thingsThat) (pc := 29) dX12_thingsThat_29 ⟨by decide, by decide⟩ ?_
      refine aw_cvi (as := [(0, v3), (0, 3)]) (st := []) (M := M_X12_thingsThat) (pc := 30) (f_X12_thingOf  hF) dX12_thingsThat_30 rfl (Or.inl ⟨_, _, _, rfl, rfl⟩) cy_X12_thingOf ml_X12_263 (by decide) (by decide) (Nat.le_of_ble_eq_true rfl) (fun r3 h2 hF => ?_)
      refine aw_iload_n (j := 1) (M := M_X12_thingsThat) (pc := 33) dX12_thingsThat_33 rfl rfl ?_
      refine aw_icmp_ne (tgt := 41) (M := M_X12_thingsThat) (pc := 34) dX12_thingsThat_34 rfl (fun hc => ?_) (fun hc => ?_)
      · have hF := hF.1 hc
        refine aw_iconst (M := M_X12_thingsThat) (pc := 41) dX12_thingsThat_41 ⟨by decide, by decide⟩ ?_
        refine aw_istore (ls' := [(4, (0, 0)), (0, vr 161), (1, (0, v1)), (2, (0, v2)), (3, (0, v3))]) (M := M_X12_thingsThat) (pc := 42) dX12_thingsThat_42  (by decide) rfl ?_
        refine aw_iload_n (j := 3) (M := M_X12_thingsThat) (pc := 44) dX12_thingsThat_44 rfl rfl ?_
        refine aw_iload (j := 0) (M := M_X12_thingsThat) (pc := 45) dX12_thingsThat_45  rfl ?_
        refine aw_if_eq (tgt := 56) (M := M_X12_thingsThat) (pc := 47) dX12_thingsThat_47 rfl (fun hc => ?_) (fun hc => absurd hc (by decide))
        refine aw_iconst (M := M_X12_thingsThat) (pc := 56) dX12_thingsThat_56 ⟨by decide, by decide⟩ ?_
        refine aw_ior (M := M_X12_thingsThat) (pc := 57) dX12_thingsThat_57 ?_
        refine aw_istore_n (ls' := [(2, (0, ior v2 0)), (4, (0, 0)), (0, vr 161), (1, (0, v1)), (3, (0, v3))]) (M := M_X12_thingsThat) (pc := 58) dX12_thingsThat_58 rfl (by decide) rfl ?_
        obtain ⟨o4, hF⟩ := hF
        refine aw_iinc (j := 4) (x := v3) (r := v3 + 1) (ls' := [(3, (0, v3 + 1)), (2, (0, ior v2 0)), (4, (0, 0)), (0, vr 161), (1, (0, v1))]) (M := M_X12_thingsThat) (pc := 59) dX12_thingsThat_59 rfl rfl o4 (by decide) rfl ?_
        refine aw_goto (tgt := 4) (M := M_X12_thingsThat) (pc := 62) dX12_thingsThat_62 rfl ?_
        exact aw_ls [3, 4, 1, 0] rfl hF
      · have hF := hF.2 hc
        refine aw_iconst (M := M_X12_thingsThat) (pc := 37) dX12_thingsThat_37 ⟨by decide, by decide⟩ ?_
        refine aw_goto (tgt := 42) (M := M_X12_thingsThat) (pc := 38) dX12_thingsThat_38 rfl ?_
        refine aw_istore (ls' := [(4, (0, 1)), (0, vr 161), (1, (0, v1)), (2, (0, v2)), (3, (0, v3))]) (M := M_X12_thingsThat) (pc := 42) dX12_thingsThat_42  (by decide) rfl ?_
        refine aw_iload_n (j := 3) (M := M_X12_thingsThat) (pc := 44) dX12_thingsThat_44 rfl rfl ?_
        refine aw_iload (j := 0) (M := M_X12_thingsThat) (pc := 45) dX12_thingsThat_45  rfl ?_
        refine aw_if_eq (tgt := 56) (M := M_X12_thingsThat) (pc := 47) dX12_thingsThat_47 rfl (fun hc => absurd hc (by decide)) (fun hc => ?_)
        refine aw_iconst (M := M_X12_thingsThat) (pc := 50) dX12_thingsThat_50 ⟨by decide, by decide⟩ ?_
        refine aw_iload_n (j := 4) (M := M_X12_thingsThat) (pc := 51) dX12_thingsThat_51 rfl rfl ?_
        refine aw_ishl (M := M_X12_thingsThat) (pc := 52) dX12_thingsThat_52 ?_
        refine aw_goto (tgt := 57) (M := M_X12_thingsThat) (pc := 53) dX12_thingsThat_53 rfl ?_
        refine aw_ior (M := M_X12_thingsThat) (pc := 57) dX12_thingsThat_57 ?_
        obtain ⟨x5, ex5⟩ : ∃ y : Int, y = ior v2 (ishl 1 v3) := ⟨_, rfl⟩
        have hF := hF x5 ex5
        rw [← ex5]
        refine aw_istore_n (ls' := [(2, (0, x5)), (4, (0, 1)), (0, vr 161), (1, (0, v1)), (3, (0, v3))]) (M := M_X12_thingsThat) (pc := 58) dX12_thingsThat_58 rfl (by decide) rfl ?_
        obtain ⟨o6, hF⟩ := hF
        refine aw_iinc (j := 4) (x := v3) (r := v3 + 1) (ls' := [(3, (0, v3 + 1)), (2, (0, x5)), (4, (0, 1)), (0, vr 161), (1, (0, v1))]) (M := M_X12_thingsThat) (pc := 59) dX12_thingsThat_59 rfl rfl o6 (by decide) rfl ?_
        refine aw_goto (tgt := 4) (M := M_X12_thingsThat) (pc := 62) dX12_thingsThat_62 rfl ?_
        exact aw_ls [3, 4, 1, 0] rfl hF
    · have hF := hF.2 hc
      refine aw_aload_n (j := 0) (M := M_X12_thingsThat) (pc := 19) dX12_thingsThat_19 rfl rfl ?_
      refine aw_iload_n (j := 3) (M := M_X12_thingsThat) (pc := 20) dX12_thingsThat_20 rfl rfl ?_
      refine aw_cvi (as := [(0, v3)]) (st := []) (M := M_X12_thingsThat) (pc := 21) (f_X12_isRemembered  hF) dX12_thingsThat_21 rfl (Or.inl ⟨_, _, _, rfl, rfl⟩) cy_X12_isRemembered ml_X12_266 (by decide) (by decide) (Nat.le_of_ble_eq_true rfl) (fun r8 h7 hF => ?_)
      refine aw_goto (tgt := 42) (M := M_X12_thingsThat) (pc := 24) dX12_thingsThat_24 rfl ?_
      refine aw_istore (ls' := [(4, (0, r8)), (0, vr 161), (1, (0, v1)), (2, (0, v2)), (3, (0, v3))]) (M := M_X12_thingsThat) (pc := 42) dX12_thingsThat_42  (by decide) rfl ?_
      refine aw_iload_n (j := 3) (M := M_X12_thingsThat) (pc := 44) dX12_thingsThat_44 rfl rfl ?_
      refine aw_iload (j := 0) (M := M_X12_thingsThat) (pc := 45) dX12_thingsThat_45  rfl ?_
      refine aw_if_eq (tgt := 56) (M := M_X12_thingsThat) (pc := 47) dX12_thingsThat_47 rfl (fun hc => ?_) (fun hc => ?_)
      · have hF := hF.1 hc
        refine aw_iconst (M := M_X12_thingsThat) (pc := 56) dX12_thingsThat_56 ⟨by decide, by decide⟩ ?_
        refine aw_ior (M := M_X12_thingsThat) (pc := 57) dX12_thingsThat_57 ?_
        refine aw_istore_n (ls' := [(2, (0, ior v2 0)), (4, (0, r8)), (0, vr 161), (1, (0, v1)), (3, (0, v3))]) (M := M_X12_thingsThat) (pc := 58) dX12_thingsThat_58 rfl (by decide) rfl ?_
        obtain ⟨o9, hF⟩ := hF
        refine aw_iinc (j := 4) (x := v3) (r := v3 + 1) (ls' := [(3, (0, v3 + 1)), (2, (0, ior v2 0)), (4, (0, r8)), (0, vr 161), (1, (0, v1))]) (M := M_X12_thingsThat) (pc := 59) dX12_thingsThat_59 rfl rfl o9 (by decide) rfl ?_
        refine aw_goto (tgt := 4) (M := M_X12_thingsThat) (pc := 62) dX12_thingsThat_62 rfl ?_
        exact aw_ls [3, 4, 1, 0] rfl hF
      · have hF := hF.2 hc
        refine aw_iconst (M := M_X12_thingsThat) (pc := 50) dX12_thingsThat_50 ⟨by decide, by decide⟩ ?_
        refine aw_iload_n (j := 4) (M := M_X12_thingsThat) (pc := 51) dX12_thingsThat_51 rfl rfl ?_
        refine aw_ishl (M := M_X12_thingsThat) (pc := 52) dX12_thingsThat_52 ?_
        refine aw_goto (tgt := 57) (M := M_X12_thingsThat) (pc := 53) dX12_thingsThat_53 rfl ?_
        refine aw_ior (M := M_X12_thingsThat) (pc := 57) dX12_thingsThat_57 ?_
        obtain ⟨x10, ex10⟩ : ∃ y : Int, y = ior v2 (ishl 1 v3) := ⟨_, rfl⟩
        have hF := hF x10 ex10
        rw [← ex10]
        refine aw_istore_n (ls' := [(2, (0, x10)), (4, (0, r8)), (0, vr 161), (1, (0, v1)), (3, (0, v3))]) (M := M_X12_thingsThat) (pc := 58) dX12_thingsThat_58 rfl (by decide) rfl ?_
        obtain ⟨o11, hF⟩ := hF
        refine aw_iinc (j := 4) (x := v3) (r := v3 + 1) (ls' := [(3, (0, v3 + 1)), (2, (0, x10)), (4, (0, r8)), (0, vr 161), (1, (0, v1))]) (M := M_X12_thingsThat) (pc := 59) dX12_thingsThat_59 rfl rfl o11 (by decide) rfl ?_
        refine aw_goto (tgt := 4) (M := M_X12_thingsThat) (pc := 62) dX12_thingsThat_62 rfl ?_
        exact aw_ls [3, 4, 1, 0] rfl hF
def F_X12_thingsThat (h : Mem) (a1 : Int) (Q : Int → Mem → Prop) : Prop :=
  L_X12_thingsThat_4 h a1 0 0 Q
set_option maxRecDepth 100000 in
set_option maxHeartbeats 4000000 in
theorem f_X12_thingsThat {h : Mem} {a1 : Int} {Q : Int → Mem → Prop}  (hF : F_X12_thingsThat h a1 Q) : Ct yX12_thingsThat cX12_thingsThat 5 (some .int) (4, 108) [vr 161, (0, a1)] h (qi Q) := by
  refine Ct.of np_RX12 (Nat.le_of_ble_eq_true rfl) ?_
  unfold F_X12_thingsThat at hF
  show AW M_X12_thingsThat 0 [(0, vr 161), (1, (0, a1))] [] h (qi Q)
  refine aw_iconst (M := M_X12_thingsThat) (pc := 0) dX12_thingsThat_0 ⟨by decide, by decide⟩ ?_
  refine aw_istore_n (ls' := [(2, (0, 0)), (0, vr 161), (1, (0, a1))]) (M := M_X12_thingsThat) (pc := 1) dX12_thingsThat_1 rfl (by decide) rfl ?_
  refine aw_iconst (M := M_X12_thingsThat) (pc := 2) dX12_thingsThat_2 ⟨by decide, by decide⟩ ?_
  refine aw_istore_n (ls' := [(3, (0, 0)), (2, (0, 0)), (0, vr 161), (1, (0, a1))]) (M := M_X12_thingsThat) (pc := 3) dX12_thingsThat_3 rfl (by decide) rfl ?_
  exact aw_ls [2, 3, 1, 0] rfl hF
abbrev M_X12_isIn : Hd := (cX12_isIn, 3, RX12, (some .boolean), (1, 45), sc0)
def F_X12_isIn (h : Mem) (a1 : Int) (a2 : Int) (Q : Int → Mem → Prop) : Prop :=
  ((¬ ((iand (ishr a1 a2) 1) = 1) → Q 0 h) ∧ ((iand (ishr a1 a2) 1) = 1 → Q 1 h))
set_option maxRecDepth 100000 in
set_option maxHeartbeats 4000000 in
theorem f_X12_isIn {h : Mem} {a1 : Int} {a2 : Int} {Q : Int → Mem → Prop}  (hF : F_X12_isIn h a1 a2 Q) : Ct yX12_isIn cX12_isIn 3 (some .boolean) (1, 45) [vr 161, (0, a1), (0, a2)] h (qi Q) := by
  refine Ct.of np_RX12 (Nat.le_of_ble_eq_true rfl) ?_
  unfold F_X12_isIn at hF
  show AW M_X12_isIn 0 [(0, vr 161), (1, (0, a1)), (2, (0, a2))] [] h (qi Q)
  refine aw_iload_n (j := 1) (M := M_X12_isIn) (pc := 0) dX12_isIn_0 rfl rfl ?_
  refine aw_iload_n (j := 2) (M := M_X12_isIn) (pc := 1) dX12_isIn_1 rfl rfl ?_
  refine aw_ishr (M := M_X12_isIn) (pc := 2) dX12_isIn_2 ?_
  refine aw_iconst (M := M_X12_isIn) (pc := 3) dX12_isIn_3 ⟨by decide, by decide⟩ ?_
  refine aw_iand (M := M_X12_isIn) (pc := 4) dX12_isIn_4 ?_
  refine aw_iconst (M := M_X12_isIn) (pc := 5) dX12_isIn_5 ⟨by decide, by decide⟩ ?_
  refine aw_icmp_ne (tgt := 13) (M := M_X12_isIn) (pc := 6) dX12_isIn_6 rfl (fun hc => ?_) (fun hc => ?_)
  · have hF := hF.1 hc
    refine aw_iconst (M := M_X12_isIn) (pc := 13) dX12_isIn_13 ⟨by decide, by decide⟩ ?_
    exact aw_iretz (M := M_X12_isIn) (pc := 14) dX12_isIn_14 rfl (Or.inl rfl) ⟨_, rfl, hF⟩
  · have hF := hF.2 hc
    refine aw_iconst (M := M_X12_isIn) (pc := 9) dX12_isIn_9 ⟨by decide, by decide⟩ ?_
    refine aw_goto (tgt := 14) (M := M_X12_isIn) (pc := 10) dX12_isIn_10 rfl ?_
    exact aw_iretz (M := M_X12_isIn) (pc := 14) dX12_isIn_14 rfl (Or.inr rfl) ⟨_, rfl, hF⟩
abbrev M_X12_weightOf : Hd := (cX12_weightOf, 4, RX12, (some .int), (3, 87), sc0)
def L_X12_weightOf_4 (h : Mem) (v1 : Int) (v2 : Int) (v3 : Int) (Q : Int → Mem → Prop) : Prop := AW M_X12_weightOf 4 [(0, vr 161), (1, (0, v1)), (2, (0, v2)), (3, (0, v3))] [] h (qi Q)
def B_X12_weightOf_4 (h : Mem) (v1 : Int) (v2 : Int) (v3 : Int) (Q : Int → Mem → Prop) : Prop :=
  (((h 162 0) ≤ v3 → Q v2 h) ∧ (¬ ((h 162 0) ≤ v3) → (F_X12_isIn h v1 v3 (fun r3 h2 => ((r3 = 0 → (InR v2 ∧ (InR (v3 + 1) ∧ L_X12_weightOf_4 h2 v1 v2 (v3 + 1) Q))) ∧ (¬ (r3 = 0) → (F_X12_thingOf h2 v3 0 (fun r7 h6 => (InR (v2 + r7) ∧ (InR (v3 + 1) ∧ L_X12_weightOf_4 h6 v1 (v2 + r7) (v3 + 1) Q))))))))))
set_option maxRecDepth 100000 in
set_option maxHeartbeats 4000000 in
theorem l_X12_weightOf_4 {h : Mem} {v1 : Int} {v2 : Int} {v3 : Int} {Q : Int → Mem → Prop}  (hF : B_X12_weightOf_4 h v1 v2 v3 Q) : L_X12_weightOf_4 h v1 v2 v3 Q := by
  unfold B_X12_weightOf_4 at hF
  show AW M_X12_weightOf 4 [(0, vr 161), (1, (0, v1)), (2, (0, v2)), (3, (0, v3))] [] h (qi Q)
  refine aw_iload_n (j := 3) (M := M_X12_weightOf) (pc := 4) dX12_weightOf_4 rfl rfl ?_
  refine aw_aload_n (j := 0) (M := M_X12_weightOf) (pc := 5) dX12_weightOf_5 rfl rfl ?_
  refine gf_X12_7 (M := M_X12_weightOf) (pc := 6) rfl dX12_weightOf_6 rfl (r := 162) rfl ?_
  refine aw_iconst (M := M_X12_weightOf) (pc := 9) dX12_weightOf_9 ⟨by decide, by decide⟩ ?_
  refine aw_iald (k := 0) (M := M_X12_weightOf) (pc := 10) dX12_weightOf_10 rfl ⟨by decide, by decide⟩ rfl ?_
  refine aw_icmp_ge (tgt := 42) (M := M_X12_weightOf) (pc := 11) dX12_weightOf_11 rfl (fun hc => ?_) (fun hc => ?_)
  · have hF := hF.1 hc
    refine aw_iload_n (j := 2) (M := M_X12_weightOf) (pc := 42) dX12_weightOf_42 rfl rfl ?_
    exact aw_ireti (M := M_X12_weightOf) (pc := 43) dX12_weightOf_43 rfl ⟨_, rfl, hF⟩
  · have hF := hF.2 hc
    refine aw_iload_n (j := 2) (M := M_X12_weightOf) (pc := 14) dX12_weightOf_14 rfl rfl ?_
    refine aw_aload_n (j := 0) (M := M_X12_weightOf) (pc := 15) dX12_weightOf_15 rfl rfl ?_
    refine aw_iload_n (j := 1) (M := M_X12_weightOf) (pc := 16) dX12_weightOf_16 rfl rfl ?_
    refine aw_iload_n (j := 3) (M := M_X12_weightOf) (pc := 17) dX12_weightOf_17 rfl rfl ?_
    refine aw_cvi (as := [(0, v1), (0, v3)]) (st := [(0, v2)]) (M := M_X12_weightOf) (pc := 18) (f_X12_isIn  hF) dX12_weightOf_18 rfl (Or.inl ⟨_, _, _, rfl, rfl⟩) cy_X12_isIn ml_X12_275 (by decide) (by decide) (Nat.le_of_ble_eq_true rfl) (fun r3 h2 hF => ?_)
    refine aw_if_eq (tgt := 33) (M := M_X12_weightOf) (pc := 21) dX12_weightOf_21 rfl (fun hc => ?_) (fun hc => ?_)
    · have hF := hF.1 hc
      refine aw_iconst (M := M_X12_weightOf) (pc := 33) dX12_weightOf_33 ⟨by decide, by decide⟩ ?_
      obtain ⟨o4, hF⟩ := hF
      refine aw_iadd (r := v2) (M := M_X12_weightOf) (pc := 34) dX12_weightOf_34 (Int.add_zero _) o4 ?_
      refine aw_istore_n (ls' := [(2, (0, v2)), (0, vr 161), (1, (0, v1)), (3, (0, v3))]) (M := M_X12_weightOf) (pc := 35) dX12_weightOf_35 rfl (by decide) rfl ?_
      obtain ⟨o5, hF⟩ := hF
      refine aw_iinc (j := 3) (x := v3) (r := v3 + 1) (ls' := [(3, (0, v3 + 1)), (2, (0, v2)), (0, vr 161), (1, (0, v1))]) (M := M_X12_weightOf) (pc := 36) dX12_weightOf_36 rfl rfl o5 (by decide) rfl ?_
      refine aw_goto (tgt := 4) (M := M_X12_weightOf) (pc := 39) dX12_weightOf_39 rfl ?_
      exact aw_ls [2, 3, 1, 0] rfl hF
    · have hF := hF.2 hc
      refine aw_aload_n (j := 0) (M := M_X12_weightOf) (pc := 24) dX12_weightOf_24 rfl rfl ?_
      refine aw_iload_n (j := 3) (M := M_X12_weightOf) (pc := 25) dX12_weightOf_25 rfl rfl ?_
      refine aw_iconst (M := M_X12_weightOf) (pc := 26) dX12_weightOf_26 ⟨by decide, by decide⟩ ?_
      refine aw_cvi (as := [(0, v3), (0, 0)]) (st := [(0, v2)]) (M := M_X12_weightOf) (pc := 27) (f_X12_thingOf  hF) dX12_weightOf_27 rfl (Or.inl ⟨_, _, _, rfl, rfl⟩) cy_X12_thingOf ml_X12_263 (by decide) (by decide) (Nat.le_of_ble_eq_true rfl) (fun r7 h6 hF => ?_)
      refine aw_goto (tgt := 34) (M := M_X12_weightOf) (pc := 30) dX12_weightOf_30 rfl ?_
      obtain ⟨o8, hF⟩ := hF
      refine aw_iadd (M := M_X12_weightOf) (pc := 34) dX12_weightOf_34 rfl o8 ?_
      refine aw_istore_n (ls' := [(2, (0, v2 + r7)), (0, vr 161), (1, (0, v1)), (3, (0, v3))]) (M := M_X12_weightOf) (pc := 35) dX12_weightOf_35 rfl (by decide) rfl ?_
      obtain ⟨o9, hF⟩ := hF
      refine aw_iinc (j := 3) (x := v3) (r := v3 + 1) (ls' := [(3, (0, v3 + 1)), (2, (0, v2 + r7)), (0, vr 161), (1, (0, v1))]) (M := M_X12_weightOf) (pc := 36) dX12_weightOf_36 rfl rfl o9 (by decide) rfl ?_
      refine aw_goto (tgt := 4) (M := M_X12_weightOf) (pc := 39) dX12_weightOf_39 rfl ?_
      exact aw_ls [2, 3, 1, 0] rfl hF
def F_X12_weightOf (h : Mem) (a1 : Int) (Q : Int → Mem → Prop) : Prop :=
  L_X12_weightOf_4 h a1 0 0 Q
set_option maxRecDepth 100000 in
set_option maxHeartbeats 4000000 in
theorem f_X12_weightOf {h : Mem} {a1 : Int} {Q : Int → Mem → Prop}  (hF : F_X12_weightOf h a1 Q) : Ct yX12_weightOf cX12_weightOf 4 (some .int) (3, 87) [vr 161, (0, a1)] h (qi Q) := by
  refine Ct.of np_RX12 (Nat.le_of_ble_eq_true rfl) ?_
  unfold F_X12_weightOf at hF
  show AW M_X12_weightOf 0 [(0, vr 161), (1, (0, a1))] [] h (qi Q)
  refine aw_iconst (M := M_X12_weightOf) (pc := 0) dX12_weightOf_0 ⟨by decide, by decide⟩ ?_
  refine aw_istore_n (ls' := [(2, (0, 0)), (0, vr 161), (1, (0, a1))]) (M := M_X12_weightOf) (pc := 1) dX12_weightOf_1 rfl (by decide) rfl ?_
  refine aw_iconst (M := M_X12_weightOf) (pc := 2) dX12_weightOf_2 ⟨by decide, by decide⟩ ?_
  refine aw_istore_n (ls' := [(3, (0, 0)), (2, (0, 0)), (0, vr 161), (1, (0, a1))]) (M := M_X12_weightOf) (pc := 3) dX12_weightOf_3 rfl (by decide) rfl ?_
  exact aw_ls [2, 3, 1, 0] rfl hF
abbrev M_X12_takesUp : Hd := (cX12_takesUp, 2, RX12, none, (5, 132), sc0)
def L_X12_takesUp_2 (h : Mem) (v1 : Int) (Q : Mem → Prop) : Prop := AW M_X12_takesUp 2 [(0, vr 161), (1, (0, v1))] [] h (qv Q)
def B_X12_takesUp_2 (h : Mem) (v1 : Int) (Q : Mem → Prop) : Prop :=
  (((h 162 0) ≤ v1 → Q h) ∧ (¬ ((h 162 0) ≤ v1) → (F_X12_isRemembered h v1 (fun r3 h2 => ((r3 = 0 → (InR (v1 + 1) ∧ L_X12_takesUp_2 h2 (v1 + 1) Q)) ∧ (¬ (r3 = 0) → (F_X12_thingOf h2 v1 4 (fun r6 h5 => ((r6 = (h5 162 6) → (F_X12_thingsThat h5 2 (fun r9 h8 => (F_X12_weightOf h8 r9 (fun r11 h10 => (F_X12_thingOf h10 v1 0 (fun r13 h12 => (InR (r11 + r13) ∧ (((r11 + r13) ≤ (h12 162 3) → (F_X12_thingRow h12 v1 (fun r17 h16 => (InR (r17 + 3) ∧ ((0 ≤ (r17 + 3) ∧ (r17 + 3) < 3008) ∧ (∀ h20 : Mem, h20 = mset h16 162 (r17 + 3).toNat 2 → (F_X12_thingRow h20 v1 (fun r22 h21 => (InR (r22 + 5) ∧ ((0 ≤ (r22 + 5) ∧ (r22 + 5) < 3008) ∧ (∀ h25 : Mem, h25 = mset h21 162 (r22 + 5).toNat 0 → (InR (v1 + 1) ∧ L_X12_takesUp_2 h25 (v1 + 1) Q)))))))))))) ∧ (¬ ((r11 + r13) ≤ (h12 162 3)) → (InR (v1 + 1) ∧ L_X12_takesUp_2 h12 (v1 + 1) Q))))))))))) ∧ (¬ (r6 = (h5 162 6)) → (InR (v1 + 1) ∧ L_X12_takesUp_2 h5 (v1 + 1) Q)))))))))))
set_option maxRecDepth 100000 in
set_option maxHeartbeats 4000000 in
theorem l_X12_takesUp_2 {h : Mem} {v1 : Int} {Q : Mem → Prop}  (hF : B_X12_takesUp_2 h v1 Q) : L_X12_takesUp_2 h v1 Q := by
  unfold B_X12_takesUp_2 at hF
  show AW M_X12_takesUp 2 [(0, vr 161), (1, (0, v1))] [] h (qv Q)
  refine aw_iload_n (j := 1) (M := M_X12_takesUp) (pc := 2) dX12_takesUp_2 rfl rfl ?_
  refine aw_aload_n (j := 0) (M := M_X12_takesUp) (pc := 3) dX12_takesUp_3 rfl rfl ?_
  refine gf_X12_7 (M := M_X12_takesUp) (pc := 4) rfl dX12_takesUp_4 rfl (r := 162) rfl ?_
  refine aw_iconst (M := M_X12_takesUp) (pc := 7) dX12_takesUp_7 ⟨by decide, by decide⟩ ?_
  refine aw_iald (k := 0) (M := M_X12_takesUp) (pc := 8) dX12_takesUp_8 rfl ⟨by decide, by decide⟩ rfl ?_
  refine aw_icmp_ge (tgt := 97) (M := M_X12_takesUp) (pc := 9) dX12_takesUp_9 rfl (fun hc => ?_) (fun hc => ?_)
  · have hF := hF.1 hc
    exact aw_ret (M := M_X12_takesUp) (pc := 97) dX12_takesUp_97 rfl ⟨rfl, hF⟩
  · have hF := hF.2 hc
    refine aw_aload_n (j := 0) (M := M_X12_takesUp) (pc := 12) dX12_takesUp_12 rfl rfl ?_
    refine aw_iload_n (j := 1) (M := M_X12_takesUp) (pc := 13) dX12_takesUp_13 rfl rfl ?_
    refine aw_cvi (as := [(0, v1)]) (st := []) (M := M_X12_takesUp) (pc := 14) (f_X12_isRemembered  hF) dX12_takesUp_14 rfl (Or.inl ⟨_, _, _, rfl, rfl⟩) cy_X12_isRemembered ml_X12_266 (by decide) (by decide) (Nat.le_of_ble_eq_true rfl) (fun r3 h2 hF => ?_)
    refine aw_if_eq (tgt := 91) (M := M_X12_takesUp) (pc := 17) dX12_takesUp_17 rfl (fun hc => ?_) (fun hc => ?_)
    · have hF := hF.1 hc
      obtain ⟨o4, hF⟩ := hF
      refine aw_iinc (j := 1) (x := v1) (r := v1 + 1) (ls' := [(1, (0, v1 + 1)), (0, vr 161)]) (M := M_X12_takesUp) (pc := 91) dX12_takesUp_91 rfl rfl o4 (by decide) rfl ?_
      refine aw_goto (tgt := 2) (M := M_X12_takesUp) (pc := 94) dX12_takesUp_94 rfl ?_
      exact aw_ls [1, 0] rfl hF
    · have hF := hF.2 hc
      refine aw_aload_n (j := 0) (M := M_X12_takesUp) (pc := 20) dX12_takesUp_20 rfl rfl ?_
      refine aw_iload_n (j := 1) (M := M_X12_takesUp) (pc := 21) dX12_takesUp_21 rfl rfl ?_
      refine aw_iconst (M := M_X12_takesUp) (pc := 22) dX12_takesUp_22 ⟨by decide, by decide⟩ ?_
      refine aw_cvi (as := [(0, v1), (0, 4)]) (st := []) (M := M_X12_takesUp) (pc := 23) (f_X12_thingOf  hF) dX12_takesUp_23 rfl (Or.inl ⟨_, _, _, rfl, rfl⟩) cy_X12_thingOf ml_X12_263 (by decide) (by decide) (Nat.le_of_ble_eq_true rfl) (fun r6 h5 hF => ?_)
      refine aw_aload_n (j := 0) (M := M_X12_takesUp) (pc := 26) dX12_takesUp_26 rfl rfl ?_
      refine gf_X12_7 (M := M_X12_takesUp) (pc := 27) rfl dX12_takesUp_27 rfl (r := 162) rfl ?_
      refine aw_bipush (M := M_X12_takesUp) (pc := 30) dX12_takesUp_30 ⟨rfl, ⟨by decide, by decide⟩⟩ ?_
      refine aw_iald (k := 6) (M := M_X12_takesUp) (pc := 32) dX12_takesUp_32 rfl ⟨by decide, by decide⟩ rfl ?_
      refine aw_icmp_eq (tgt := 39) (M := M_X12_takesUp) (pc := 33) dX12_takesUp_33 rfl (fun hc => ?_) (fun hc => ?_)
      · have hF := hF.1 hc
        refine aw_aload_n (j := 0) (M := M_X12_takesUp) (pc := 39) dX12_takesUp_39 rfl rfl ?_
        refine aw_aload_n (j := 0) (M := M_X12_takesUp) (pc := 40) dX12_takesUp_40 rfl rfl ?_
        refine aw_iconst (M := M_X12_takesUp) (pc := 41) dX12_takesUp_41 ⟨by decide, by decide⟩ ?_
        refine aw_cvi (as := [(0, 2)]) (st := [vr 161]) (M := M_X12_takesUp) (pc := 42) (f_X12_thingsThat  hF) dX12_takesUp_42 rfl (Or.inl ⟨_, _, _, rfl, rfl⟩) cy_X12_thingsThat ml_X12_278 (by decide) (by decide) (Nat.le_of_ble_eq_true rfl) (fun r9 h8 hF => ?_)
        refine aw_cvi (as := [(0, r9)]) (st := []) (M := M_X12_takesUp) (pc := 45) (f_X12_weightOf  hF) dX12_takesUp_45 rfl (Or.inl ⟨_, _, _, rfl, rfl⟩) cy_X12_weightOf ml_X12_281 (by decide) (by decide) (Nat.le_of_ble_eq_true rfl) (fun r11 h10 hF => ?_)
        refine aw_aload_n (j := 0) (M := M_X12_takesUp) (pc := 48) dX12_takesUp_48 rfl rfl ?_
        refine aw_iload_n (j := 1) (M := M_X12_takesUp) (pc := 49) dX12_takesUp_49 rfl rfl ?_
        refine aw_iconst (M := M_X12_takesUp) (pc := 50) dX12_takesUp_50 ⟨by decide, by decide⟩ ?_
        refine aw_cvi (as := [(0, v1), (0, 0)]) (st := [(0, r11)]) (M := M_X12_takesUp) (pc := 51) (f_X12_thingOf  hF) dX12_takesUp_51 rfl (Or.inl ⟨_, _, _, rfl, rfl⟩) cy_X12_thingOf ml_X12_263 (by decide) (by decide) (Nat.le_of_ble_eq_true rfl) (fun r13 h12 hF => ?_)
        obtain ⟨o14, hF⟩ := hF
        refine aw_iadd (M := M_X12_takesUp) (pc := 54) dX12_takesUp_54 rfl o14 ?_
        refine aw_aload_n (j := 0) (M := M_X12_takesUp) (pc := 55) dX12_takesUp_55 rfl rfl ?_
        refine gf_X12_7 (M := M_X12_takesUp) (pc := 56) rfl dX12_takesUp_56 rfl (r := 162) rfl ?_
        refine aw_iconst (M := M_X12_takesUp) (pc := 59) dX12_takesUp_59 ⟨by decide, by decide⟩ ?_
        refine aw_iald (k := 3) (M := M_X12_takesUp) (pc := 60) dX12_takesUp_60 rfl ⟨by decide, by decide⟩ rfl ?_
        refine aw_icmp_le (tgt := 67) (M := M_X12_takesUp) (pc := 61) dX12_takesUp_61 rfl (fun hc => ?_) (fun hc => ?_)
        · have hF := hF.1 hc
          refine aw_aload_n (j := 0) (M := M_X12_takesUp) (pc := 67) dX12_takesUp_67 rfl rfl ?_
          refine gf_X12_7 (M := M_X12_takesUp) (pc := 68) rfl dX12_takesUp_68 rfl (r := 162) rfl ?_
          refine aw_iload_n (j := 1) (M := M_X12_takesUp) (pc := 71) dX12_takesUp_71 rfl rfl ?_
          refine aw_csi (as := [(0, v1)]) (st := [vr 162]) (M := M_X12_takesUp) (pc := 72) (f_X12_thingRow  hF) dX12_takesUp_72 rfl cy_X12_thingRow ml_X12_203 (by decide) (by decide) (Nat.le_of_ble_eq_true rfl) (fun r17 h16 hF => ?_)
          refine aw_iconst (M := M_X12_takesUp) (pc := 75) dX12_takesUp_75 ⟨by decide, by decide⟩ ?_
          obtain ⟨o18, hF⟩ := hF
          refine aw_iadd (M := M_X12_takesUp) (pc := 76) dX12_takesUp_76 rfl o18 ?_
          refine aw_iconst (M := M_X12_takesUp) (pc := 77) dX12_takesUp_77 ⟨by decide, by decide⟩ ?_
          obtain ⟨o19, hF⟩ := hF
          refine aw_iast (k := (r17 + 3).toNat) (M := M_X12_takesUp) (pc := 78) dX12_takesUp_78 rfl o19 rfl ?_
          obtain ⟨h20, eh20⟩ : ∃ y : Mem, y = mset h16 162 (r17 + 3).toNat 2 := ⟨_, rfl⟩
          have hF := hF h20 eh20
          rw [← eh20]
          refine aw_aload_n (j := 0) (M := M_X12_takesUp) (pc := 79) dX12_takesUp_79 rfl rfl ?_
          refine gf_X12_7 (M := M_X12_takesUp) (pc := 80) rfl dX12_takesUp_80 rfl (r := 162) rfl ?_
          refine aw_iload_n (j := 1) (M := M_X12_takesUp) (pc := 83) dX12_takesUp_83 rfl rfl ?_
          refine aw_csi (as := [(0, v1)]) (st := [vr 162]) (M := M_X12_takesUp) (pc := 84) (f_X12_thingRow  hF) dX12_takesUp_84 rfl cy_X12_thingRow ml_X12_203 (by decide) (by decide) (Nat.le_of_ble_eq_true rfl) (fun r22 h21 hF => ?_)
          refine aw_iconst (M := M_X12_takesUp) (pc := 87) dX12_takesUp_87 ⟨by decide, by decide⟩ ?_
          obtain ⟨o23, hF⟩ := hF
          refine aw_iadd (M := M_X12_takesUp) (pc := 88) dX12_takesUp_88 rfl o23 ?_
          refine aw_iconst (M := M_X12_takesUp) (pc := 89) dX12_takesUp_89 ⟨by decide, by decide⟩ ?_
          obtain ⟨o24, hF⟩ := hF
          refine aw_iast (k := (r22 + 5).toNat) (M := M_X12_takesUp) (pc := 90) dX12_takesUp_90 rfl o24 rfl ?_
          obtain ⟨h25, eh25⟩ : ∃ y : Mem, y = mset h21 162 (r22 + 5).toNat 0 := ⟨_, rfl⟩
          have hF := hF h25 eh25
          rw [← eh25]
          obtain ⟨o26, hF⟩ := hF
          refine aw_iinc (j := 1) (x := v1) (r := v1 + 1) (ls' := [(1, (0, v1 + 1)), (0, vr 161)]) (M := M_X12_takesUp) (pc := 91) dX12_takesUp_91 rfl rfl o26 (by decide) rfl ?_
          refine aw_goto (tgt := 2) (M := M_X12_takesUp) (pc := 94) dX12_takesUp_94 rfl ?_
          exact aw_ls [1, 0] rfl hF
        · have hF := hF.2 hc
          refine aw_goto (tgt := 91) (M := M_X12_takesUp) (pc := 64) dX12_takesUp_64 rfl ?_
          obtain ⟨o27, hF⟩ := hF
          refine aw_iinc (j := 1) (x := v1) (r := v1 + 1) (ls' := [(1, (0, v1 + 1)), (0, vr 161)]) (M := M_X12_takesUp) (pc := 91) dX12_takesUp_91 rfl rfl o27 (by decide) rfl ?_
          refine aw_goto (tgt := 2) (M := M_X12_takesUp) (pc := 94) dX12_takesUp_94 rfl ?_
          exact aw_ls [1, 0] rfl hF
      · have hF := hF.2 hc
        refine aw_goto (tgt := 91) (M := M_X12_takesUp) (pc := 36) dX12_takesUp_36 rfl ?_
        obtain ⟨o28, hF⟩ := hF
        refine aw_iinc (j := 1) (x := v1) (r := v1 + 1) (ls' := [(1, (0, v1 + 1)), (0, vr 161)]) (M := M_X12_takesUp) (pc := 91) dX12_takesUp_91 rfl rfl o28 (by decide) rfl ?_
        refine aw_goto (tgt := 2) (M := M_X12_takesUp) (pc := 94) dX12_takesUp_94 rfl ?_
        exact aw_ls [1, 0] rfl hF
def F_X12_takesUp (h : Mem)  (Q : Mem → Prop) : Prop :=
  L_X12_takesUp_2 h 0 Q
set_option maxRecDepth 100000 in
set_option maxHeartbeats 4000000 in
theorem f_X12_takesUp {h : Mem}  {Q : Mem → Prop}  (hF : F_X12_takesUp h  Q) : Ct yX12_takesUp cX12_takesUp 2 none (5, 132) [vr 161] h (qv Q) := by
  refine Ct.of np_RX12 (Nat.le_of_ble_eq_true rfl) ?_
  unfold F_X12_takesUp at hF
  show AW M_X12_takesUp 0 [(0, vr 161)] [] h (qv Q)
  refine aw_iconst (M := M_X12_takesUp) (pc := 0) dX12_takesUp_0 ⟨by decide, by decide⟩ ?_
  refine aw_istore_n (ls' := [(1, (0, 0)), (0, vr 161)]) (M := M_X12_takesUp) (pc := 1) dX12_takesUp_1 rfl (by decide) rfl ?_
  exact aw_ls [1, 0] rfl hF
abbrev M_X12_hourGoes : Hd := (cX12_hourGoes, 3, RX12, (some .boolean), (7, 175), sc0)
def L_X12_hourGoes_18 (h : Mem) (v1 : Int) (v2 : Int) (Q : Int → Mem → Prop) : Prop := AW M_X12_hourGoes 18 [(0, vr 161), (1, (0, v1)), (2, (0, v2))] [] h (qi Q)
def B_X12_hourGoes_18 (h : Mem) (v1 : Int) (v2 : Int) (Q : Int → Mem → Prop) : Prop :=
  (((h 162 0) ≤ v2 → (InR ((h 162 5) + 1) ∧ (∀ h9 : Mem, h9 = mset h 162 5 ((h 162 5) + 1) → (((h9 162 8) ≤ v1 → Q 0 h9) ∧ (¬ ((h9 162 8) ≤ v1) → Q 1 h9))))) ∧ (¬ ((h 162 0) ≤ v2) → (F_X12_sea h  (fun r13 h12 => ((¬ ((h 162 6) = r13) → (F_X12_lasts h12 v2 (fun h14 => (InR (v2 + 1) ∧ L_X12_hourGoes_18 h14 v1 (v2 + 1) Q)))) ∧ ((h 162 6) = r13 → (F_X12_thingOf h12 v2 3 (fun r18 h17 => ((¬ (r18 = 2) → (F_X12_lasts h17 v2 (fun h19 => (InR (v2 + 1) ∧ L_X12_hourGoes_18 h19 v1 (v2 + 1) Q)))) ∧ (r18 = 2 → (F_X12_comesHome h17 v2 (fun h22 => (F_X12_lasts h22 v2 (fun h24 => (InR (v2 + 1) ∧ L_X12_hourGoes_18 h24 v1 (v2 + 1) Q)))))))))))))))
set_option maxRecDepth 100000 in
set_option maxHeartbeats 4000000 in
theorem l_X12_hourGoes_18 {h : Mem} {v1 : Int} {v2 : Int} {Q : Int → Mem → Prop}  (hF : B_X12_hourGoes_18 h v1 v2 Q) : L_X12_hourGoes_18 h v1 v2 Q := by
  unfold B_X12_hourGoes_18 at hF
  show AW M_X12_hourGoes 18 [(0, vr 161), (1, (0, v1)), (2, (0, v2))] [] h (qi Q)
  refine aw_iload_n (j := 2) (M := M_X12_hourGoes) (pc := 18) dX12_hourGoes_18 rfl rfl ?_
  refine aw_aload_n (j := 0) (M := M_X12_hourGoes) (pc := 19) dX12_hourGoes_19 rfl rfl ?_
  refine gf_X12_7 (M := M_X12_hourGoes) (pc := 20) rfl dX12_hourGoes_20 rfl (r := 162) rfl ?_
  refine aw_iconst (M := M_X12_hourGoes) (pc := 23) dX12_hourGoes_23 ⟨by decide, by decide⟩ ?_
  refine aw_iald (k := 0) (M := M_X12_hourGoes) (pc := 24) dX12_hourGoes_24 rfl ⟨by decide, by decide⟩ rfl ?_
  refine aw_icmp_ge (tgt := 68) (M := M_X12_hourGoes) (pc := 25) dX12_hourGoes_25 rfl (fun hc => ?_) (fun hc => ?_)
  · have hF := hF.1 hc
    refine aw_aload_n (j := 0) (M := M_X12_hourGoes) (pc := 68) dX12_hourGoes_68 rfl rfl ?_
    refine gf_X12_7 (M := M_X12_hourGoes) (pc := 69) rfl dX12_hourGoes_69 rfl (r := 162) rfl ?_
    refine aw_iconst (M := M_X12_hourGoes) (pc := 72) dX12_hourGoes_72 ⟨by decide, by decide⟩ ?_
    refine aw_dup2 (M := M_X12_hourGoes) (pc := 73) dX12_hourGoes_73 rfl rfl ?_
    refine aw_iald (k := 5) (M := M_X12_hourGoes) (pc := 74) dX12_hourGoes_74 rfl ⟨by decide, by decide⟩ rfl ?_
    refine aw_iconst (M := M_X12_hourGoes) (pc := 75) dX12_hourGoes_75 ⟨by decide, by decide⟩ ?_
    obtain ⟨o8, hF⟩ := hF
    refine aw_iadd (M := M_X12_hourGoes) (pc := 76) dX12_hourGoes_76 rfl o8 ?_
    refine aw_iast (k := 5) (M := M_X12_hourGoes) (pc := 77) dX12_hourGoes_77 rfl ⟨by decide, by decide⟩ rfl ?_
    obtain ⟨h9, eh9⟩ : ∃ y : Mem, y = mset h 162 5 ((h 162 5) + 1) := ⟨_, rfl⟩
    have hF := hF h9 eh9
    rw [← eh9]
    refine aw_aload_n (j := 0) (M := M_X12_hourGoes) (pc := 78) dX12_hourGoes_78 rfl rfl ?_
    refine gf_X12_7 (M := M_X12_hourGoes) (pc := 79) rfl dX12_hourGoes_79 rfl (r := 162) rfl ?_
    refine aw_bipush (M := M_X12_hourGoes) (pc := 82) dX12_hourGoes_82 ⟨rfl, ⟨by decide, by decide⟩⟩ ?_
    refine aw_iald (k := 8) (M := M_X12_hourGoes) (pc := 84) dX12_hourGoes_84 rfl ⟨by decide, by decide⟩ rfl ?_
    refine aw_iload_n (j := 1) (M := M_X12_hourGoes) (pc := 85) dX12_hourGoes_85 rfl rfl ?_
    refine aw_icmp_le (tgt := 93) (M := M_X12_hourGoes) (pc := 86) dX12_hourGoes_86 rfl (fun hc => ?_) (fun hc => ?_)
    · have hF := hF.1 hc
      refine aw_iconst (M := M_X12_hourGoes) (pc := 93) dX12_hourGoes_93 ⟨by decide, by decide⟩ ?_
      exact aw_iretz (M := M_X12_hourGoes) (pc := 94) dX12_hourGoes_94 rfl (Or.inl rfl) ⟨_, rfl, hF⟩
    · have hF := hF.2 hc
      refine aw_iconst (M := M_X12_hourGoes) (pc := 89) dX12_hourGoes_89 ⟨by decide, by decide⟩ ?_
      refine aw_goto (tgt := 94) (M := M_X12_hourGoes) (pc := 90) dX12_hourGoes_90 rfl ?_
      exact aw_iretz (M := M_X12_hourGoes) (pc := 94) dX12_hourGoes_94 rfl (Or.inr rfl) ⟨_, rfl, hF⟩
  · have hF := hF.2 hc
    refine aw_aload_n (j := 0) (M := M_X12_hourGoes) (pc := 28) dX12_hourGoes_28 rfl rfl ?_
    refine gf_X12_7 (M := M_X12_hourGoes) (pc := 29) rfl dX12_hourGoes_29 rfl (r := 162) rfl ?_
    refine aw_bipush (M := M_X12_hourGoes) (pc := 32) dX12_hourGoes_32 ⟨rfl, ⟨by decide, by decide⟩⟩ ?_
    refine aw_iald (k := 6) (M := M_X12_hourGoes) (pc := 34) dX12_hourGoes_34 rfl ⟨by decide, by decide⟩ rfl ?_
    refine aw_aload_n (j := 0) (M := M_X12_hourGoes) (pc := 35) dX12_hourGoes_35 rfl rfl ?_
    refine aw_cvi (as := []) (st := [(0, h 162 6)]) (M := M_X12_hourGoes) (pc := 36) (f_X12_sea  hF) dX12_hourGoes_36 rfl (Or.inl ⟨_, _, _, rfl, rfl⟩) cy_X12_sea ml_X12_272 (by decide) (by decide) (Nat.le_of_ble_eq_true rfl) (fun r13 h12 hF => ?_)
    refine aw_icmp_ne (tgt := 57) (M := M_X12_hourGoes) (pc := 39) dX12_hourGoes_39 rfl (fun hc => ?_) (fun hc => ?_)
    · have hF := hF.1 hc
      refine aw_aload_n (j := 0) (M := M_X12_hourGoes) (pc := 57) dX12_hourGoes_57 rfl rfl ?_
      refine aw_iload_n (j := 2) (M := M_X12_hourGoes) (pc := 58) dX12_hourGoes_58 rfl rfl ?_
      refine aw_cvv (as := [(0, v2)]) (st := []) (M := M_X12_hourGoes) (pc := 59) (f_X12_lasts  hF) dX12_hourGoes_59 rfl (Or.inl ⟨_, _, _, rfl, rfl⟩) cy_X12_lasts ml_X12_308 (by decide) (by decide) (Nat.le_of_ble_eq_true rfl) (fun h14 hF => ?_)
      obtain ⟨o16, hF⟩ := hF
      refine aw_iinc (j := 2) (x := v2) (r := v2 + 1) (ls' := [(2, (0, v2 + 1)), (0, vr 161), (1, (0, v1))]) (M := M_X12_hourGoes) (pc := 62) dX12_hourGoes_62 rfl rfl o16 (by decide) rfl ?_
      refine aw_goto (tgt := 18) (M := M_X12_hourGoes) (pc := 65) dX12_hourGoes_65 rfl ?_
      exact aw_ls [1, 2, 0] rfl hF
    · have hF := hF.2 hc
      refine aw_aload_n (j := 0) (M := M_X12_hourGoes) (pc := 42) dX12_hourGoes_42 rfl rfl ?_
      refine aw_iload_n (j := 2) (M := M_X12_hourGoes) (pc := 43) dX12_hourGoes_43 rfl rfl ?_
      refine aw_iconst (M := M_X12_hourGoes) (pc := 44) dX12_hourGoes_44 ⟨by decide, by decide⟩ ?_
      refine aw_cvi (as := [(0, v2), (0, 3)]) (st := []) (M := M_X12_hourGoes) (pc := 45) (f_X12_thingOf  hF) dX12_hourGoes_45 rfl (Or.inl ⟨_, _, _, rfl, rfl⟩) cy_X12_thingOf ml_X12_263 (by decide) (by decide) (Nat.le_of_ble_eq_true rfl) (fun r18 h17 hF => ?_)
      refine aw_iconst (M := M_X12_hourGoes) (pc := 48) dX12_hourGoes_48 ⟨by decide, by decide⟩ ?_
      refine aw_icmp_ne (tgt := 57) (M := M_X12_hourGoes) (pc := 49) dX12_hourGoes_49 rfl (fun hc => ?_) (fun hc => ?_)
      · have hF := hF.1 hc
        refine aw_aload_n (j := 0) (M := M_X12_hourGoes) (pc := 57) dX12_hourGoes_57 rfl rfl ?_
        refine aw_iload_n (j := 2) (M := M_X12_hourGoes) (pc := 58) dX12_hourGoes_58 rfl rfl ?_
        refine aw_cvv (as := [(0, v2)]) (st := []) (M := M_X12_hourGoes) (pc := 59) (f_X12_lasts  hF) dX12_hourGoes_59 rfl (Or.inl ⟨_, _, _, rfl, rfl⟩) cy_X12_lasts ml_X12_308 (by decide) (by decide) (Nat.le_of_ble_eq_true rfl) (fun h19 hF => ?_)
        obtain ⟨o21, hF⟩ := hF
        refine aw_iinc (j := 2) (x := v2) (r := v2 + 1) (ls' := [(2, (0, v2 + 1)), (0, vr 161), (1, (0, v1))]) (M := M_X12_hourGoes) (pc := 62) dX12_hourGoes_62 rfl rfl o21 (by decide) rfl ?_
        refine aw_goto (tgt := 18) (M := M_X12_hourGoes) (pc := 65) dX12_hourGoes_65 rfl ?_
        exact aw_ls [1, 2, 0] rfl hF
      · have hF := hF.2 hc
        refine aw_aload_n (j := 0) (M := M_X12_hourGoes) (pc := 52) dX12_hourGoes_52 rfl rfl ?_
        refine aw_iload_n (j := 2) (M := M_X12_hourGoes) (pc := 53) dX12_hourGoes_53 rfl rfl ?_
        refine aw_cvv (as := [(0, v2)]) (st := []) (M := M_X12_hourGoes) (pc := 54) (f_X12_comesHome  hF) dX12_hourGoes_54 rfl (Or.inl ⟨_, _, _, rfl, rfl⟩) cy_X12_comesHome ml_X12_305 (by decide) (by decide) (Nat.le_of_ble_eq_true rfl) (fun h22 hF => ?_)
        refine aw_aload_n (j := 0) (M := M_X12_hourGoes) (pc := 57) dX12_hourGoes_57 rfl rfl ?_
        refine aw_iload_n (j := 2) (M := M_X12_hourGoes) (pc := 58) dX12_hourGoes_58 rfl rfl ?_
        refine aw_cvv (as := [(0, v2)]) (st := []) (M := M_X12_hourGoes) (pc := 59) (f_X12_lasts  hF) dX12_hourGoes_59 rfl (Or.inl ⟨_, _, _, rfl, rfl⟩) cy_X12_lasts ml_X12_308 (by decide) (by decide) (Nat.le_of_ble_eq_true rfl) (fun h24 hF => ?_)
        obtain ⟨o26, hF⟩ := hF
        refine aw_iinc (j := 2) (x := v2) (r := v2 + 1) (ls' := [(2, (0, v2 + 1)), (0, vr 161), (1, (0, v1))]) (M := M_X12_hourGoes) (pc := 62) dX12_hourGoes_62 rfl rfl o26 (by decide) rfl ?_
        refine aw_goto (tgt := 18) (M := M_X12_hourGoes) (pc := 65) dX12_hourGoes_65 rfl ?_
        exact aw_ls [1, 2, 0] rfl hF
def F_X12_hourGoes (h : Mem)  (Q : Int → Mem → Prop) : Prop :=
  (F_X12_goes h  (fun h2 => (F_X12_takesUp h2  (fun h4 => L_X12_hourGoes_18 h4 (h 162 8) 0 Q))))
set_option maxRecDepth 100000 in
set_option maxHeartbeats 4000000 in
theorem f_X12_hourGoes {h : Mem}  {Q : Int → Mem → Prop}  (hF : F_X12_hourGoes h  Q) : Ct yX12_hourGoes cX12_hourGoes 3 (some .boolean) (7, 175) [vr 161] h (qi Q) := by
  refine Ct.of np_RX12 (Nat.le_of_ble_eq_true rfl) ?_
  unfold F_X12_hourGoes at hF
  show AW M_X12_hourGoes 0 [(0, vr 161)] [] h (qi Q)
  refine aw_aload_n (j := 0) (M := M_X12_hourGoes) (pc := 0) dX12_hourGoes_0 rfl rfl ?_
  refine gf_X12_7 (M := M_X12_hourGoes) (pc := 1) rfl dX12_hourGoes_1 rfl (r := 162) rfl ?_
  refine aw_bipush (M := M_X12_hourGoes) (pc := 4) dX12_hourGoes_4 ⟨rfl, ⟨by decide, by decide⟩⟩ ?_
  refine aw_iald (k := 8) (M := M_X12_hourGoes) (pc := 6) dX12_hourGoes_6 rfl ⟨by decide, by decide⟩ rfl ?_
  refine aw_istore_n (ls' := [(1, (0, h 162 8)), (0, vr 161)]) (M := M_X12_hourGoes) (pc := 7) dX12_hourGoes_7 rfl (by decide) rfl ?_
  refine aw_aload_n (j := 1) (M := M_X12_hourGoes) (pc := 8) dX12_hourGoes_8 rfl rfl ?_
  refine aw_cvv (as := []) (st := []) (M := M_X12_hourGoes) (pc := 9) (f_X12_goes  hF) dX12_hourGoes_9 rfl (Or.inl ⟨_, _, _, rfl, rfl⟩) cy_X12_goes ml_X12_299 (by decide) (by decide) (Nat.le_of_ble_eq_true rfl) (fun h2 hF => ?_)
  refine aw_aload_n (j := 1) (M := M_X12_hourGoes) (pc := 12) dX12_hourGoes_12 rfl rfl ?_
  refine aw_cvv (as := []) (st := []) (M := M_X12_hourGoes) (pc := 13) (f_X12_takesUp  hF) dX12_hourGoes_13 rfl (Or.inl ⟨_, _, _, rfl, rfl⟩) cy_X12_takesUp ml_X12_302 (by decide) (by decide) (Nat.le_of_ble_eq_true rfl) (fun h4 hF => ?_)
  refine aw_iconst (M := M_X12_hourGoes) (pc := 16) dX12_hourGoes_16 ⟨by decide, by decide⟩ ?_
  refine aw_istore_n (ls' := [(2, (0, 0)), (1, (0, h 162 8)), (0, vr 161)]) (M := M_X12_hourGoes) (pc := 17) dX12_hourGoes_17 rfl (by decide) rfl ?_
  exact aw_ls [2, 1, 0] rfl hF
abbrev M_X12_nextTurn : Hd := (cX12_nextTurn, 3, RX12, (some .int), (8, 197), sc0)
def L_X12_nextTurn_2 (h : Mem) (v1 : Int) (v2 : Int) (Q : Int → Mem → Prop) : Prop := AW M_X12_nextTurn 2 [(0, vr 161), (1, (0, v1)), (2, (0, v2))] [] h (qi Q)
def B_X12_nextTurn_2 (h : Mem) (v1 : Int) (v2 : Int) (Q : Int → Mem → Prop) : Prop :=
  ((v1 ≤ v2 → Q (-1) h) ∧ (¬ (v1 ≤ v2) → (F_X12_hourGoes h  (fun r2 h1 => ((r2 = 0 → (InR (v2 + 1) ∧ L_X12_nextTurn_2 h1 v1 (v2 + 1) Q)) ∧ (¬ (r2 = 0) → Q v2 h1))))))
set_option maxRecDepth 100000 in
set_option maxHeartbeats 4000000 in
theorem l_X12_nextTurn_2 {h : Mem} {v1 : Int} {v2 : Int} {Q : Int → Mem → Prop}  (hF : B_X12_nextTurn_2 h v1 v2 Q) : L_X12_nextTurn_2 h v1 v2 Q := by
  unfold B_X12_nextTurn_2 at hF
  show AW M_X12_nextTurn 2 [(0, vr 161), (1, (0, v1)), (2, (0, v2))] [] h (qi Q)
  refine aw_iload_n (j := 2) (M := M_X12_nextTurn) (pc := 2) dX12_nextTurn_2 rfl rfl ?_
  refine aw_iload_n (j := 1) (M := M_X12_nextTurn) (pc := 3) dX12_nextTurn_3 rfl rfl ?_
  refine aw_icmp_ge (tgt := 22) (M := M_X12_nextTurn) (pc := 4) dX12_nextTurn_4 rfl (fun hc => ?_) (fun hc => ?_)
  · have hF := hF.1 hc
    refine aw_iconst (M := M_X12_nextTurn) (pc := 22) dX12_nextTurn_22 ⟨by decide, by decide⟩ ?_
    exact aw_ireti (M := M_X12_nextTurn) (pc := 23) dX12_nextTurn_23 rfl ⟨_, rfl, hF⟩
  · have hF := hF.2 hc
    refine aw_aload_n (j := 0) (M := M_X12_nextTurn) (pc := 7) dX12_nextTurn_7 rfl rfl ?_
    refine aw_cvi (as := []) (st := []) (M := M_X12_nextTurn) (pc := 8) (f_X12_hourGoes  hF) dX12_nextTurn_8 rfl (Or.inl ⟨_, _, _, rfl, rfl⟩) cy_X12_hourGoes ml_X12_311 (by decide) (by decide) (Nat.le_of_ble_eq_true rfl) (fun r2 h1 hF => ?_)
    refine aw_if_eq (tgt := 16) (M := M_X12_nextTurn) (pc := 11) dX12_nextTurn_11 rfl (fun hc => ?_) (fun hc => ?_)
    · have hF := hF.1 hc
      obtain ⟨o3, hF⟩ := hF
      refine aw_iinc (j := 2) (x := v2) (r := v2 + 1) (ls' := [(2, (0, v2 + 1)), (0, vr 161), (1, (0, v1))]) (M := M_X12_nextTurn) (pc := 16) dX12_nextTurn_16 rfl rfl o3 (by decide) rfl ?_
      refine aw_goto (tgt := 2) (M := M_X12_nextTurn) (pc := 19) dX12_nextTurn_19 rfl ?_
      exact aw_ls [1, 2, 0] rfl hF
    · have hF := hF.2 hc
      refine aw_iload_n (j := 2) (M := M_X12_nextTurn) (pc := 14) dX12_nextTurn_14 rfl rfl ?_
      exact aw_ireti (M := M_X12_nextTurn) (pc := 15) dX12_nextTurn_15 rfl ⟨_, rfl, hF⟩
def F_X12_nextTurn (h : Mem) (a1 : Int) (Q : Int → Mem → Prop) : Prop :=
  L_X12_nextTurn_2 h a1 0 Q
set_option maxRecDepth 100000 in
set_option maxHeartbeats 4000000 in
theorem f_X12_nextTurn {h : Mem} {a1 : Int} {Q : Int → Mem → Prop}  (hF : F_X12_nextTurn h a1 Q) : Ct yX12_nextTurn cX12_nextTurn 3 (some .int) (8, 197) [vr 161, (0, a1)] h (qi Q) := by
  refine Ct.of np_RX12 (Nat.le_of_ble_eq_true rfl) ?_
  unfold F_X12_nextTurn at hF
  show AW M_X12_nextTurn 0 [(0, vr 161), (1, (0, a1))] [] h (qi Q)
  refine aw_iconst (M := M_X12_nextTurn) (pc := 0) dX12_nextTurn_0 ⟨by decide, by decide⟩ ?_
  refine aw_istore_n (ls' := [(2, (0, 0)), (0, vr 161), (1, (0, a1))]) (M := M_X12_nextTurn) (pc := 1) dX12_nextTurn_1 rfl (by decide) rfl ?_
  exact aw_ls [1, 2, 0] rfl hF
abbrev M_X12_gives : Hd := (cX12_gives, 2, RX12, (some .int), (1, 45), sc0)
def F_X12_gives (h : Mem) (a1 : Int) (Q : Int → Mem → Prop) : Prop :=
  (∀ h1 : Mem, h1 = mset h 161 2 0 → Q a1 h1)
set_option maxRecDepth 100000 in
set_option maxHeartbeats 4000000 in
theorem f_X12_gives {h : Mem} {a1 : Int} {Q : Int → Mem → Prop}  (hF : F_X12_gives h a1 Q) : Ct yX12_gives cX12_gives 2 (some .int) (1, 45) [vr 161, (0, a1)] h (qi Q) := by
  refine Ct.of np_RX12 (Nat.le_of_ble_eq_true rfl) ?_
  unfold F_X12_gives at hF
  show AW M_X12_gives 0 [(0, vr 161), (1, (0, a1))] [] h (qi Q)
  refine aw_aload_n (j := 0) (M := M_X12_gives) (pc := 0) dX12_gives_0 rfl rfl ?_
  refine aw_iconst (M := M_X12_gives) (pc := 1) dX12_gives_1 ⟨by decide, by decide⟩ ?_
  refine pf_X12_85 (M := M_X12_gives) (pc := 2) rfl dX12_gives_2 rfl ?_
  obtain ⟨h1, eh1⟩ : ∃ y : Mem, y = mset h 161 2 0 := ⟨_, rfl⟩
  have hF := hF h1 eh1
  rw [← eh1]
  refine aw_iload_n (j := 1) (M := M_X12_gives) (pc := 5) dX12_gives_5 rfl rfl ?_
  exact aw_ireti (M := M_X12_gives) (pc := 6) dX12_gives_6 rfl ⟨_, rfl, hF⟩
abbrev M_X12_refuse : Hd := (cX12_refuse, 2, RX12, (some .int), (1, 45), sc0)
def F_X12_refuse (h : Mem) (a1 : Int) (Q : Int → Mem → Prop) : Prop :=
  (∀ h1 : Mem, h1 = mset h 161 2 a1 → Q (-1) h1)
set_option maxRecDepth 100000 in
set_option maxHeartbeats 4000000 in
theorem f_X12_refuse {h : Mem} {a1 : Int} {Q : Int → Mem → Prop}  (hF : F_X12_refuse h a1 Q) : Ct yX12_refuse cX12_refuse 2 (some .int) (1, 45) [vr 161, (0, a1)] h (qi Q) := by
  refine Ct.of np_RX12 (Nat.le_of_ble_eq_true rfl) ?_
  unfold F_X12_refuse at hF
  show AW M_X12_refuse 0 [(0, vr 161), (1, (0, a1))] [] h (qi Q)
  refine aw_aload_n (j := 0) (M := M_X12_refuse) (pc := 0) dX12_refuse_0 rfl rfl ?_
  refine aw_iload_n (j := 1) (M := M_X12_refuse) (pc := 1) dX12_refuse_1 rfl rfl ?_
  refine pf_X12_85 (M := M_X12_refuse) (pc := 2) rfl dX12_refuse_2 rfl ?_
  obtain ⟨h1, eh1⟩ : ∃ y : Mem, y = mset h 161 2 a1 := ⟨_, rfl⟩
  have hF := hF h1 eh1
  rw [← eh1]
  refine aw_iconst (M := M_X12_refuse) (pc := 5) dX12_refuse_5 ⟨by decide, by decide⟩ ?_
  exact aw_ireti (M := M_X12_refuse) (pc := 6) dX12_refuse_6 rfl ⟨_, rfl, hF⟩
abbrev M_X12_orNone : Hd := (cX12_orNone, 2, RX12, (some .int), (2, 66), sc0)
def F_X12_orNone (h : Mem) (a1 : Int) (Q : Int → Mem → Prop) : Prop :=
  ((¬ (a1 = (-1)) → (F_X12_gives h a1 (fun r2 h1 => Q r2 h1))) ∧ (a1 = (-1) → (F_X12_refuse h 6 (fun r4 h3 => Q r4 h3))))
set_option maxRecDepth 100000 in
set_option maxHeartbeats 4000000 in
theorem f_X12_orNone {h : Mem} {a1 : Int} {Q : Int → Mem → Prop}  (hF : F_X12_orNone h a1 Q) : Ct yX12_orNone cX12_orNone 2 (some .int) (2, 66) [vr 161, (0, a1)] h (qi Q) := by
  refine Ct.of np_RX12 (Nat.le_of_ble_eq_true rfl) ?_
  unfold F_X12_orNone at hF
  show AW M_X12_orNone 0 [(0, vr 161), (1, (0, a1))] [] h (qi Q)
  refine aw_iload_n (j := 1) (M := M_X12_orNone) (pc := 0) dX12_orNone_0 rfl rfl ?_
  refine aw_iconst (M := M_X12_orNone) (pc := 1) dX12_orNone_1 ⟨by decide, by decide⟩ ?_
  refine aw_icmp_ne (tgt := 14) (M := M_X12_orNone) (pc := 2) dX12_orNone_2 rfl (fun hc => ?_) (fun hc => ?_)
  · have hF := hF.1 hc
    refine aw_aload_n (j := 0) (M := M_X12_orNone) (pc := 14) dX12_orNone_14 rfl rfl ?_
    refine aw_iload_n (j := 1) (M := M_X12_orNone) (pc := 15) dX12_orNone_15 rfl rfl ?_
    refine aw_cvi (as := [(0, a1)]) (st := []) (M := M_X12_orNone) (pc := 16) (f_X12_gives  hF) dX12_orNone_16 rfl (Or.inl ⟨_, _, _, rfl, rfl⟩) cy_X12_gives ml_X12_95 (by decide) (by decide) (Nat.le_of_ble_eq_true rfl) (fun r2 h1 hF => ?_)
    exact aw_ireti (M := M_X12_orNone) (pc := 19) dX12_orNone_19 rfl ⟨_, rfl, hF⟩
  · have hF := hF.2 hc
    refine aw_aload_n (j := 0) (M := M_X12_orNone) (pc := 5) dX12_orNone_5 rfl rfl ?_
    refine aw_bipush (M := M_X12_orNone) (pc := 6) dX12_orNone_6 ⟨rfl, ⟨by decide, by decide⟩⟩ ?_
    refine aw_cvi (as := [(0, 6)]) (st := []) (M := M_X12_orNone) (pc := 8) (f_X12_refuse  hF) dX12_orNone_8 rfl (Or.inl ⟨_, _, _, rfl, rfl⟩) cy_X12_refuse ml_X12_91 (by decide) (by decide) (Nat.le_of_ble_eq_true rfl) (fun r4 h3 hF => ?_)
    refine aw_goto (tgt := 19) (M := M_X12_orNone) (pc := 11) dX12_orNone_11 rfl ?_
    exact aw_ireti (M := M_X12_orNone) (pc := 19) dX12_orNone_19 rfl ⟨_, rfl, hF⟩
abbrev M_X12_restores : Hd := (cX12_restores, 3, RX12, none, (1, 45), sc0)
def L_X12_restores_2 (h : Mem) (v1 : Int) (v2 : Int) (Q : Mem → Prop) : Prop := AW M_X12_restores 2 [(0, vr 161), (1, (0, v1)), (2, (0, v2))] [] h (qv Q)
def B_X12_restores_2 (h : Mem) (v1 : Int) (v2 : Int) (Q : Mem → Prop) : Prop :=
  ((80 ≤ v2 → Q h) ∧ (¬ (80 ≤ v2) → (InR (v1 + v2) ∧ ((0 ≤ (v1 + v2) ∧ (v1 + v2) < 3008) ∧ ((0 ≤ v2 ∧ v2 < 3008) ∧ (∀ h5 : Mem, h5 = mset h 162 (v2).toNat (h 162 (v1 + v2).toNat) → (InR (v2 + 1) ∧ L_X12_restores_2 h5 v1 (v2 + 1) Q)))))))
set_option maxRecDepth 100000 in
set_option maxHeartbeats 4000000 in
theorem l_X12_restores_2 {h : Mem} {v1 : Int} {v2 : Int} {Q : Mem → Prop}  (hF : B_X12_restores_2 h v1 v2 Q) : L_X12_restores_2 h v1 v2 Q := by
  unfold B_X12_restores_2 at hF
  show AW M_X12_restores 2 [(0, vr 161), (1, (0, v1)), (2, (0, v2))] [] h (qv Q)
  refine aw_iload_n (j := 2) (M := M_X12_restores) (pc := 2) dX12_restores_2 rfl rfl ?_
  refine aw_bipush (M := M_X12_restores) (pc := 3) dX12_restores_3 ⟨rfl, ⟨by decide, by decide⟩⟩ ?_
  refine aw_icmp_ge (tgt := 28) (M := M_X12_restores) (pc := 5) dX12_restores_5 rfl (fun hc => ?_) (fun hc => ?_)
  · have hF := hF.1 hc
    exact aw_ret (M := M_X12_restores) (pc := 28) dX12_restores_28 rfl ⟨rfl, hF⟩
  · have hF := hF.2 hc
    refine aw_aload_n (j := 0) (M := M_X12_restores) (pc := 8) dX12_restores_8 rfl rfl ?_
    refine gf_X12_7 (M := M_X12_restores) (pc := 9) rfl dX12_restores_9 rfl (r := 162) rfl ?_
    refine aw_iload_n (j := 2) (M := M_X12_restores) (pc := 12) dX12_restores_12 rfl rfl ?_
    refine aw_aload_n (j := 0) (M := M_X12_restores) (pc := 13) dX12_restores_13 rfl rfl ?_
    refine gf_X12_7 (M := M_X12_restores) (pc := 14) rfl dX12_restores_14 rfl (r := 162) rfl ?_
    refine aw_iload_n (j := 1) (M := M_X12_restores) (pc := 17) dX12_restores_17 rfl rfl ?_
    refine aw_iload_n (j := 2) (M := M_X12_restores) (pc := 18) dX12_restores_18 rfl rfl ?_
    obtain ⟨o1, hF⟩ := hF
    refine aw_iadd (M := M_X12_restores) (pc := 19) dX12_restores_19 rfl o1 ?_
    obtain ⟨o3, hF⟩ := hF
    refine aw_iald (k := (v1 + v2).toNat) (M := M_X12_restores) (pc := 20) dX12_restores_20 rfl o3 rfl ?_
    obtain ⟨o4, hF⟩ := hF
    refine aw_iast (k := (v2).toNat) (M := M_X12_restores) (pc := 21) dX12_restores_21 rfl o4 rfl ?_
    obtain ⟨h5, eh5⟩ : ∃ y : Mem, y = mset h 162 (v2).toNat (h 162 (v1 + v2).toNat) := ⟨_, rfl⟩
    have hF := hF h5 eh5
    rw [← eh5]
    obtain ⟨o6, hF⟩ := hF
    refine aw_iinc (j := 2) (x := v2) (r := v2 + 1) (ls' := [(2, (0, v2 + 1)), (0, vr 161), (1, (0, v1))]) (M := M_X12_restores) (pc := 22) dX12_restores_22 rfl rfl o6 (by decide) rfl ?_
    refine aw_goto (tgt := 2) (M := M_X12_restores) (pc := 25) dX12_restores_25 rfl ?_
    exact aw_ls [1, 2, 0] rfl hF
def F_X12_restores (h : Mem) (a1 : Int) (Q : Mem → Prop) : Prop :=
  L_X12_restores_2 h a1 0 Q
set_option maxRecDepth 100000 in
set_option maxHeartbeats 4000000 in
theorem f_X12_restores {h : Mem} {a1 : Int} {Q : Mem → Prop}  (hF : F_X12_restores h a1 Q) : Ct yX12_restores cX12_restores 3 none (1, 45) [vr 161, (0, a1)] h (qv Q) := by
  refine Ct.of np_RX12 (Nat.le_of_ble_eq_true rfl) ?_
  unfold F_X12_restores at hF
  show AW M_X12_restores 0 [(0, vr 161), (1, (0, a1))] [] h (qv Q)
  refine aw_iconst (M := M_X12_restores) (pc := 0) dX12_restores_0 ⟨by decide, by decide⟩ ?_
  refine aw_istore_n (ls' := [(2, (0, 0)), (0, vr 161), (1, (0, a1))]) (M := M_X12_restores) (pc := 1) dX12_restores_1 rfl (by decide) rfl ?_
  exact aw_ls [1, 2, 0] rfl hF
abbrev M_X12_tosses : Hd := (cX12_tosses, 3, RX12, (some .boolean), (4, 108), sc0)
def F_X12_tosses (h : Mem) (a1 : Int) (a2 : Int) (Q : Int → Mem → Prop) : Prop :=
  (F_X12_isFree h a1 (fun r2 h1 => ((¬ (r2 = 0) → (F_X12_thingRow h1 a1 (fun r4 h3 => (InR (r4 + 3) ∧ ((0 ≤ (r4 + 3) ∧ (r4 + 3) < 3008) ∧ (∀ h7 : Mem, h7 = mset h3 162 (r4 + 3).toNat 1 → (F_X12_thingRow h7 a1 (fun r9 h8 => (InR (r9 + 4) ∧ ((0 ≤ (r9 + 4) ∧ (r9 + 4) < 3008) ∧ (∀ h12 : Mem, h12 = mset h8 162 (r9 + 4).toNat a2 → (F_X12_thingRow h12 a1 (fun r14 h13 => (InR (r14 + 5) ∧ ((0 ≤ (r14 + 5) ∧ (r14 + 5) < 3008) ∧ (∀ h17 : Mem, h17 = mset h13 162 (r14 + 5).toNat 0 → Q 1 h17)))))))))))))))) ∧ (r2 = 0 → Q 0 h1))))
set_option maxRecDepth 100000 in
set_option maxHeartbeats 4000000 in
theorem f_X12_tosses {h : Mem} {a1 : Int} {a2 : Int} {Q : Int → Mem → Prop}  (hF : F_X12_tosses h a1 a2 Q) : Ct yX12_tosses cX12_tosses 3 (some .boolean) (4, 108) [vr 161, (0, a1), (0, a2)] h (qi Q) := by
  refine Ct.of np_RX12 (Nat.le_of_ble_eq_true rfl) ?_
  unfold F_X12_tosses at hF
  show AW M_X12_tosses 0 [(0, vr 161), (1, (0, a1)), (2, (0, a2))] [] h (qi Q)
  refine aw_aload_n (j := 0) (M := M_X12_tosses) (pc := 0) dX12_tosses_0 rfl rfl ?_
  refine aw_iload_n (j := 1) (M := M_X12_tosses) (pc := 1) dX12_tosses_1 rfl rfl ?_
  refine aw_cvi (as := [(0, a1)]) (st := []) (M := M_X12_tosses) (pc := 2) (f_X12_isFree  hF) dX12_tosses_2 rfl (Or.inl ⟨_, _, _, rfl, rfl⟩) cy_X12_isFree ml_X12_323 (by decide) (by decide) (Nat.le_of_ble_eq_true rfl) (fun r2 h1 hF => ?_)
  refine aw_if_ne (tgt := 10) (M := M_X12_tosses) (pc := 5) dX12_tosses_5 rfl (fun hc => ?_) (fun hc => ?_)
  · have hF := hF.1 hc
    refine aw_aload_n (j := 0) (M := M_X12_tosses) (pc := 10) dX12_tosses_10 rfl rfl ?_
    refine gf_X12_7 (M := M_X12_tosses) (pc := 11) rfl dX12_tosses_11 rfl (r := 162) rfl ?_
    refine aw_iload_n (j := 1) (M := M_X12_tosses) (pc := 14) dX12_tosses_14 rfl rfl ?_
    refine aw_csi (as := [(0, a1)]) (st := [vr 162]) (M := M_X12_tosses) (pc := 15) (f_X12_thingRow  hF) dX12_tosses_15 rfl cy_X12_thingRow ml_X12_203 (by decide) (by decide) (Nat.le_of_ble_eq_true rfl) (fun r4 h3 hF => ?_)
    refine aw_iconst (M := M_X12_tosses) (pc := 18) dX12_tosses_18 ⟨by decide, by decide⟩ ?_
    obtain ⟨o5, hF⟩ := hF
    refine aw_iadd (M := M_X12_tosses) (pc := 19) dX12_tosses_19 rfl o5 ?_
    refine aw_iconst (M := M_X12_tosses) (pc := 20) dX12_tosses_20 ⟨by decide, by decide⟩ ?_
    obtain ⟨o6, hF⟩ := hF
    refine aw_iast (k := (r4 + 3).toNat) (M := M_X12_tosses) (pc := 21) dX12_tosses_21 rfl o6 rfl ?_
    obtain ⟨h7, eh7⟩ : ∃ y : Mem, y = mset h3 162 (r4 + 3).toNat 1 := ⟨_, rfl⟩
    have hF := hF h7 eh7
    rw [← eh7]
    refine aw_aload_n (j := 0) (M := M_X12_tosses) (pc := 22) dX12_tosses_22 rfl rfl ?_
    refine gf_X12_7 (M := M_X12_tosses) (pc := 23) rfl dX12_tosses_23 rfl (r := 162) rfl ?_
    refine aw_iload_n (j := 1) (M := M_X12_tosses) (pc := 26) dX12_tosses_26 rfl rfl ?_
    refine aw_csi (as := [(0, a1)]) (st := [vr 162]) (M := M_X12_tosses) (pc := 27) (f_X12_thingRow  hF) dX12_tosses_27 rfl cy_X12_thingRow ml_X12_203 (by decide) (by decide) (Nat.le_of_ble_eq_true rfl) (fun r9 h8 hF => ?_)
    refine aw_iconst (M := M_X12_tosses) (pc := 30) dX12_tosses_30 ⟨by decide, by decide⟩ ?_
    obtain ⟨o10, hF⟩ := hF
    refine aw_iadd (M := M_X12_tosses) (pc := 31) dX12_tosses_31 rfl o10 ?_
    refine aw_iload_n (j := 2) (M := M_X12_tosses) (pc := 32) dX12_tosses_32 rfl rfl ?_
    obtain ⟨o11, hF⟩ := hF
    refine aw_iast (k := (r9 + 4).toNat) (M := M_X12_tosses) (pc := 33) dX12_tosses_33 rfl o11 rfl ?_
    obtain ⟨h12, eh12⟩ : ∃ y : Mem, y = mset h8 162 (r9 + 4).toNat a2 := ⟨_, rfl⟩
    have hF := hF h12 eh12
    rw [← eh12]
    refine aw_aload_n (j := 0) (M := M_X12_tosses) (pc := 34) dX12_tosses_34 rfl rfl ?_
    refine gf_X12_7 (M := M_X12_tosses) (pc := 35) rfl dX12_tosses_35 rfl (r := 162) rfl ?_
    refine aw_iload_n (j := 1) (M := M_X12_tosses) (pc := 38) dX12_tosses_38 rfl rfl ?_
    refine aw_csi (as := [(0, a1)]) (st := [vr 162]) (M := M_X12_tosses) (pc := 39) (f_X12_thingRow  hF) dX12_tosses_39 rfl cy_X12_thingRow ml_X12_203 (by decide) (by decide) (Nat.le_of_ble_eq_true rfl) (fun r14 h13 hF => ?_)
    refine aw_iconst (M := M_X12_tosses) (pc := 42) dX12_tosses_42 ⟨by decide, by decide⟩ ?_
    obtain ⟨o15, hF⟩ := hF
    refine aw_iadd (M := M_X12_tosses) (pc := 43) dX12_tosses_43 rfl o15 ?_
    refine aw_iconst (M := M_X12_tosses) (pc := 44) dX12_tosses_44 ⟨by decide, by decide⟩ ?_
    obtain ⟨o16, hF⟩ := hF
    refine aw_iast (k := (r14 + 5).toNat) (M := M_X12_tosses) (pc := 45) dX12_tosses_45 rfl o16 rfl ?_
    obtain ⟨h17, eh17⟩ : ∃ y : Mem, y = mset h13 162 (r14 + 5).toNat 0 := ⟨_, rfl⟩
    have hF := hF h17 eh17
    rw [← eh17]
    refine aw_iconst (M := M_X12_tosses) (pc := 46) dX12_tosses_46 ⟨by decide, by decide⟩ ?_
    exact aw_iretz (M := M_X12_tosses) (pc := 47) dX12_tosses_47 rfl (Or.inr rfl) ⟨_, rfl, hF⟩
  · have hF := hF.2 hc
    refine aw_iconst (M := M_X12_tosses) (pc := 8) dX12_tosses_8 ⟨by decide, by decide⟩ ?_
    exact aw_iretz (M := M_X12_tosses) (pc := 9) dX12_tosses_9 rfl (Or.inl rfl) ⟨_, rfl, hF⟩
abbrev M_X12_aim : Hd := (cX12_aim, 5, RX12, (some .int), (9, 219), sc0)
def L_X12_aim_53 (h : Mem) (v1 : Int) (v2 : Int) (v3 : Int) (v4 : Int) (Q : Int → Mem → Prop) : Prop := AW M_X12_aim 53 [(0, vr 161), (1, (0, v1)), (2, (0, v2)), (3, (0, v3)), (4, (0, v4))] [] h (qi Q)
def B_X12_aim_53 (h : Mem) (v1 : Int) (v2 : Int) (v3 : Int) (v4 : Int) (Q : Int → Mem → Prop) : Prop :=
  (((h 162 2) ≤ v4 → (F_X12_orNone h v3 (fun r17 h16 => Q r17 h16))) ∧ (¬ ((h 162 2) ≤ v4) → ((¬ (v3 = (-1)) → (F_X12_orNone h v3 (fun r19 h18 => Q r19 h18))) ∧ (v3 = (-1) → (F_X12_tosses h v1 v4 (fun r21 h20 => (InR (v2 + 1) ∧ (F_X12_nextTurn h20 (v2 + 1) (fun r24 h23 => ((¬ (r24 = v2) → (F_X12_restores h23 2688 (fun h25 => (InR (v4 + 1) ∧ L_X12_aim_53 h25 v1 v2 v3 (v4 + 1) Q)))) ∧ (r24 = v2 → (F_X12_restores h23 2688 (fun h28 => (InR (v4 + 1) ∧ L_X12_aim_53 h28 v1 v2 v4 (v4 + 1) Q))))))))))))))
set_option maxRecDepth 100000 in
set_option maxHeartbeats 4000000 in
theorem l_X12_aim_53 {h : Mem} {v1 : Int} {v2 : Int} {v3 : Int} {v4 : Int} {Q : Int → Mem → Prop}  (hF : B_X12_aim_53 h v1 v2 v3 v4 Q) : L_X12_aim_53 h v1 v2 v3 v4 Q := by
  unfold B_X12_aim_53 at hF
  show AW M_X12_aim 53 [(0, vr 161), (1, (0, v1)), (2, (0, v2)), (3, (0, v3)), (4, (0, v4))] [] h (qi Q)
  refine aw_iload (j := 4) (M := M_X12_aim) (pc := 53) dX12_aim_53  rfl ?_
  refine aw_aload_n (j := 0) (M := M_X12_aim) (pc := 55) dX12_aim_55 rfl rfl ?_
  refine gf_X12_7 (M := M_X12_aim) (pc := 56) rfl dX12_aim_56 rfl (r := 162) rfl ?_
  refine aw_iconst (M := M_X12_aim) (pc := 59) dX12_aim_59 ⟨by decide, by decide⟩ ?_
  refine aw_iald (k := 2) (M := M_X12_aim) (pc := 60) dX12_aim_60 rfl ⟨by decide, by decide⟩ rfl ?_
  refine aw_icmp_ge (tgt := 104) (M := M_X12_aim) (pc := 61) dX12_aim_61 rfl (fun hc => ?_) (fun hc => ?_)
  · have hF := hF.1 hc
    refine aw_aload_n (j := 0) (M := M_X12_aim) (pc := 104) dX12_aim_104 rfl rfl ?_
    refine aw_iload_n (j := 3) (M := M_X12_aim) (pc := 105) dX12_aim_105 rfl rfl ?_
    refine aw_cvi (as := [(0, v3)]) (st := []) (M := M_X12_aim) (pc := 106) (f_X12_orNone  hF) dX12_aim_106 rfl (Or.inl ⟨_, _, _, rfl, rfl⟩) cy_X12_orNone ml_X12_296 (by decide) (by decide) (Nat.le_of_ble_eq_true rfl) (fun r17 h16 hF => ?_)
    exact aw_ireti (M := M_X12_aim) (pc := 109) dX12_aim_109 rfl ⟨_, rfl, hF⟩
  · have hF := hF.2 hc
    refine aw_iload_n (j := 3) (M := M_X12_aim) (pc := 64) dX12_aim_64 rfl rfl ?_
    refine aw_iconst (M := M_X12_aim) (pc := 65) dX12_aim_65 ⟨by decide, by decide⟩ ?_
    refine aw_icmp_ne (tgt := 104) (M := M_X12_aim) (pc := 66) dX12_aim_66 rfl (fun hc => ?_) (fun hc => ?_)
    · have hF := hF.1 hc
      refine aw_aload_n (j := 0) (M := M_X12_aim) (pc := 104) dX12_aim_104 rfl rfl ?_
      refine aw_iload_n (j := 3) (M := M_X12_aim) (pc := 105) dX12_aim_105 rfl rfl ?_
      refine aw_cvi (as := [(0, v3)]) (st := []) (M := M_X12_aim) (pc := 106) (f_X12_orNone  hF) dX12_aim_106 rfl (Or.inl ⟨_, _, _, rfl, rfl⟩) cy_X12_orNone ml_X12_296 (by decide) (by decide) (Nat.le_of_ble_eq_true rfl) (fun r19 h18 hF => ?_)
      exact aw_ireti (M := M_X12_aim) (pc := 109) dX12_aim_109 rfl ⟨_, rfl, hF⟩
    · have hF := hF.2 hc
      refine aw_aload_n (j := 0) (M := M_X12_aim) (pc := 69) dX12_aim_69 rfl rfl ?_
      refine aw_iload_n (j := 1) (M := M_X12_aim) (pc := 70) dX12_aim_70 rfl rfl ?_
      refine aw_iload (j := 4) (M := M_X12_aim) (pc := 71) dX12_aim_71  rfl ?_
      refine aw_cvi (as := [(0, v1), (0, v4)]) (st := []) (M := M_X12_aim) (pc := 73) (f_X12_tosses  hF) dX12_aim_73 rfl (Or.inl ⟨_, _, _, rfl, rfl⟩) cy_X12_tosses ml_X12_329 (by decide) (by decide) (Nat.le_of_ble_eq_true rfl) (fun r21 h20 hF => ?_)
      refine aw_pop (M := M_X12_aim) (pc := 76) dX12_aim_76 rfl ?_
      refine aw_aload_n (j := 0) (M := M_X12_aim) (pc := 77) dX12_aim_77 rfl rfl ?_
      refine aw_iload_n (j := 2) (M := M_X12_aim) (pc := 78) dX12_aim_78 rfl rfl ?_
      refine aw_iconst (M := M_X12_aim) (pc := 79) dX12_aim_79 ⟨by decide, by decide⟩ ?_
      obtain ⟨o22, hF⟩ := hF
      refine aw_iadd (M := M_X12_aim) (pc := 80) dX12_aim_80 rfl o22 ?_
      refine aw_cvi (as := [(0, v2 + 1)]) (st := []) (M := M_X12_aim) (pc := 81) (f_X12_nextTurn  hF) dX12_aim_81 rfl (Or.inl ⟨_, _, _, rfl, rfl⟩) cy_X12_nextTurn ml_X12_359 (by decide) (by decide) (Nat.le_of_ble_eq_true rfl) (fun r24 h23 hF => ?_)
      refine aw_iload_n (j := 2) (M := M_X12_aim) (pc := 84) dX12_aim_84 rfl rfl ?_
      refine aw_icmp_ne (tgt := 91) (M := M_X12_aim) (pc := 85) dX12_aim_85 rfl (fun hc => ?_) (fun hc => ?_)
      · have hF := hF.1 hc
        refine aw_aload_n (j := 0) (M := M_X12_aim) (pc := 91) dX12_aim_91 rfl rfl ?_
        refine aw_sipush (M := M_X12_aim) (pc := 92) dX12_aim_92 ⟨rfl, ⟨by decide, by decide⟩⟩ ?_
        refine aw_cvv (as := [(0, 2688)]) (st := []) (M := M_X12_aim) (pc := 95) (f_X12_restores  hF) dX12_aim_95 rfl (Or.inl ⟨_, _, _, rfl, rfl⟩) cy_X12_restores ml_X12_353 (by decide) (by decide) (Nat.le_of_ble_eq_true rfl) (fun h25 hF => ?_)
        obtain ⟨o27, hF⟩ := hF
        refine aw_iinc (j := 4) (x := v4) (r := v4 + 1) (ls' := [(4, (0, v4 + 1)), (0, vr 161), (1, (0, v1)), (2, (0, v2)), (3, (0, v3))]) (M := M_X12_aim) (pc := 98) dX12_aim_98 rfl rfl o27 (by decide) rfl ?_
        refine aw_goto (tgt := 53) (M := M_X12_aim) (pc := 101) dX12_aim_101 rfl ?_
        exact aw_ls [1, 2, 3, 4, 0] rfl hF
      · have hF := hF.2 hc
        refine aw_iload (j := 4) (M := M_X12_aim) (pc := 88) dX12_aim_88  rfl ?_
        refine aw_istore_n (ls' := [(3, (0, v4)), (0, vr 161), (1, (0, v1)), (2, (0, v2)), (4, (0, v4))]) (M := M_X12_aim) (pc := 90) dX12_aim_90 rfl (by decide) rfl ?_
        refine aw_aload_n (j := 1) (M := M_X12_aim) (pc := 91) dX12_aim_91 rfl rfl ?_
        refine aw_sipush (M := M_X12_aim) (pc := 92) dX12_aim_92 ⟨rfl, ⟨by decide, by decide⟩⟩ ?_
        refine aw_cvv (as := [(0, 2688)]) (st := []) (M := M_X12_aim) (pc := 95) (f_X12_restores  hF) dX12_aim_95 rfl (Or.inl ⟨_, _, _, rfl, rfl⟩) cy_X12_restores ml_X12_353 (by decide) (by decide) (Nat.le_of_ble_eq_true rfl) (fun h28 hF => ?_)
        obtain ⟨o30, hF⟩ := hF
        refine aw_iinc (j := 4) (x := v4) (r := v4 + 1) (ls' := [(4, (0, v4 + 1)), (3, (0, v4)), (0, vr 161), (1, (0, v1)), (2, (0, v2))]) (M := M_X12_aim) (pc := 98) dX12_aim_98 rfl rfl o30 (by decide) rfl ?_
        refine aw_goto (tgt := 53) (M := M_X12_aim) (pc := 101) dX12_aim_101 rfl ?_
        exact aw_ls [2, 3, 4, 1, 0] rfl hF
def F_X12_aim (h : Mem) (a1 : Int) (a2 : Int) (Q : Int → Mem → Prop) : Prop :=
  (F_X12_isThing h a1 (fun r2 h1 => ((r2 = 0 → (F_X12_refuse h1 1 (fun r4 h3 => Q r4 h3))) ∧ (¬ (r2 = 0) → (F_X12_isFrom h1 a2 0 60 (fun r6 h5 => ((¬ (r6 = 0) → (F_X12_isFree h5 a1 (fun r8 h7 => ((¬ (r8 = 0) → (F_X12_keeps h7 2688 (fun h9 => L_X12_aim_53 h9 a1 a2 (-1) 0 Q))) ∧ (r8 = 0 → (F_X12_refuse h7 7 (fun r12 h11 => Q r12 h11))))))) ∧ (r6 = 0 → (F_X12_refuse h5 1 (fun r14 h13 => Q r14 h13))))))))))
set_option maxRecDepth 100000 in
set_option maxHeartbeats 4000000 in
theorem f_X12_aim {h : Mem} {a1 : Int} {a2 : Int} {Q : Int → Mem → Prop}  (hF : F_X12_aim h a1 a2 Q) : Ct yX12_aim cX12_aim 5 (some .int) (9, 219) [vr 161, (0, a1), (0, a2)] h (qi Q) := by
  refine Ct.of np_RX12 (Nat.le_of_ble_eq_true rfl) ?_
  unfold F_X12_aim at hF
  show AW M_X12_aim 0 [(0, vr 161), (1, (0, a1)), (2, (0, a2))] [] h (qi Q)
  refine aw_aload_n (j := 0) (M := M_X12_aim) (pc := 0) dX12_aim_0 rfl rfl ?_
  refine aw_iload_n (j := 1) (M := M_X12_aim) (pc := 1) dX12_aim_1 rfl rfl ?_
  refine aw_cvi (as := [(0, a1)]) (st := []) (M := M_X12_aim) (pc := 2) (f_X12_isThing  hF) dX12_aim_2 rfl (Or.inl ⟨_, _, _, rfl, rfl⟩) cy_X12_isThing ml_X12_284 (by decide) (by decide) (Nat.le_of_ble_eq_true rfl) (fun r2 h1 hF => ?_)
  refine aw_if_eq (tgt := 20) (M := M_X12_aim) (pc := 5) dX12_aim_5 rfl (fun hc => ?_) (fun hc => ?_)
  · have hF := hF.1 hc
    refine aw_aload_n (j := 0) (M := M_X12_aim) (pc := 20) dX12_aim_20 rfl rfl ?_
    refine aw_iconst (M := M_X12_aim) (pc := 21) dX12_aim_21 ⟨by decide, by decide⟩ ?_
    refine aw_cvi (as := [(0, 1)]) (st := []) (M := M_X12_aim) (pc := 22) (f_X12_refuse  hF) dX12_aim_22 rfl (Or.inl ⟨_, _, _, rfl, rfl⟩) cy_X12_refuse ml_X12_91 (by decide) (by decide) (Nat.le_of_ble_eq_true rfl) (fun r4 h3 hF => ?_)
    exact aw_ireti (M := M_X12_aim) (pc := 25) dX12_aim_25 rfl ⟨_, rfl, hF⟩
  · have hF := hF.2 hc
    refine aw_iload_n (j := 2) (M := M_X12_aim) (pc := 8) dX12_aim_8 rfl rfl ?_
    refine aw_i2l (M := M_X12_aim) (pc := 9) dX12_aim_9 ?_
    refine aw_lconst (v := 0) (M := M_X12_aim) (pc := 10) dX12_aim_10 ⟨rfl, ⟨by decide, by decide⟩⟩ ?_
    refine aw_ldc2 (v := 60) (M := M_X12_aim) (pc := 11) dX12_aim_11 kl_X12_371 ⟨by decide, by decide⟩ ?_
    refine aw_csi (as := [(1, a2), (1, 0), (1, 60)]) (st := []) (M := M_X12_aim) (pc := 14) (f_X12_isFrom  hF) dX12_aim_14 rfl cy_X12_isFrom ml_X12_316 (by decide) (by decide) (Nat.le_of_ble_eq_true rfl) (fun r6 h5 hF => ?_)
    refine aw_if_ne (tgt := 26) (M := M_X12_aim) (pc := 17) dX12_aim_17 rfl (fun hc => ?_) (fun hc => ?_)
    · have hF := hF.1 hc
      refine aw_aload_n (j := 0) (M := M_X12_aim) (pc := 26) dX12_aim_26 rfl rfl ?_
      refine aw_iload_n (j := 1) (M := M_X12_aim) (pc := 27) dX12_aim_27 rfl rfl ?_
      refine aw_cvi (as := [(0, a1)]) (st := []) (M := M_X12_aim) (pc := 28) (f_X12_isFree  hF) dX12_aim_28 rfl (Or.inl ⟨_, _, _, rfl, rfl⟩) cy_X12_isFree ml_X12_323 (by decide) (by decide) (Nat.le_of_ble_eq_true rfl) (fun r8 h7 hF => ?_)
      refine aw_if_ne (tgt := 41) (M := M_X12_aim) (pc := 31) dX12_aim_31 rfl (fun hc => ?_) (fun hc => ?_)
      · have hF := hF.1 hc
        refine aw_aload_n (j := 0) (M := M_X12_aim) (pc := 41) dX12_aim_41 rfl rfl ?_
        refine aw_sipush (M := M_X12_aim) (pc := 42) dX12_aim_42 ⟨rfl, ⟨by decide, by decide⟩⟩ ?_
        refine aw_cvv (as := [(0, 2688)]) (st := []) (M := M_X12_aim) (pc := 45) (f_X12_keeps  hF) dX12_aim_45 rfl (Or.inl ⟨_, _, _, rfl, rfl⟩) cy_X12_keeps ml_X12_350 (by decide) (by decide) (Nat.le_of_ble_eq_true rfl) (fun h9 hF => ?_)
        refine aw_iconst (M := M_X12_aim) (pc := 48) dX12_aim_48 ⟨by decide, by decide⟩ ?_
        refine aw_istore_n (ls' := [(3, (0, (-1))), (0, vr 161), (1, (0, a1)), (2, (0, a2))]) (M := M_X12_aim) (pc := 49) dX12_aim_49 rfl (by decide) rfl ?_
        refine aw_iconst (M := M_X12_aim) (pc := 50) dX12_aim_50 ⟨by decide, by decide⟩ ?_
        refine aw_istore (ls' := [(4, (0, 0)), (3, (0, (-1))), (0, vr 161), (1, (0, a1)), (2, (0, a2))]) (M := M_X12_aim) (pc := 51) dX12_aim_51  (by decide) rfl ?_
        exact aw_ls [2, 3, 4, 1, 0] rfl hF
      · have hF := hF.2 hc
        refine aw_aload_n (j := 0) (M := M_X12_aim) (pc := 34) dX12_aim_34 rfl rfl ?_
        refine aw_bipush (M := M_X12_aim) (pc := 35) dX12_aim_35 ⟨rfl, ⟨by decide, by decide⟩⟩ ?_
        refine aw_cvi (as := [(0, 7)]) (st := []) (M := M_X12_aim) (pc := 37) (f_X12_refuse  hF) dX12_aim_37 rfl (Or.inl ⟨_, _, _, rfl, rfl⟩) cy_X12_refuse ml_X12_91 (by decide) (by decide) (Nat.le_of_ble_eq_true rfl) (fun r12 h11 hF => ?_)
        exact aw_ireti (M := M_X12_aim) (pc := 40) dX12_aim_40 rfl ⟨_, rfl, hF⟩
    · have hF := hF.2 hc
      refine aw_aload_n (j := 0) (M := M_X12_aim) (pc := 20) dX12_aim_20 rfl rfl ?_
      refine aw_iconst (M := M_X12_aim) (pc := 21) dX12_aim_21 ⟨by decide, by decide⟩ ?_
      refine aw_cvi (as := [(0, 1)]) (st := []) (M := M_X12_aim) (pc := 22) (f_X12_refuse  hF) dX12_aim_22 rfl (Or.inl ⟨_, _, _, rfl, rfl⟩) cy_X12_refuse ml_X12_91 (by decide) (by decide) (Nat.le_of_ble_eq_true rfl) (fun r14 h13 hF => ?_)
      exact aw_ireti (M := M_X12_aim) (pc := 25) dX12_aim_25 rfl ⟨_, rfl, hF⟩
abbrev M_X12_allHomes : Hd := (cX12_allHomes, 3, RX12, (some .int), (3, 87), sc0)
def L_X12_allHomes_4 (h : Mem) (v1 : Int) (v2 : Int) (Q : Int → Mem → Prop) : Prop := AW M_X12_allHomes 4 [(0, vr 161), (1, (0, v1)), (2, (0, v2))] [] h (qi Q)
def B_X12_allHomes_4 (h : Mem) (v1 : Int) (v2 : Int) (Q : Int → Mem → Prop) : Prop :=
  (((h 162 0) ≤ v2 → Q v1 h) ∧ (¬ ((h 162 0) ≤ v2) → (F_X12_thingOf h v2 6 (fun r3 h2 => (InR (v1 + r3) ∧ (InR (v2 + 1) ∧ L_X12_allHomes_4 h2 (v1 + r3) (v2 + 1) Q))))))
set_option maxRecDepth 100000 in
set_option maxHeartbeats 4000000 in
theorem l_X12_allHomes_4 {h : Mem} {v1 : Int} {v2 : Int} {Q : Int → Mem → Prop}  (hF : B_X12_allHomes_4 h v1 v2 Q) : L_X12_allHomes_4 h v1 v2 Q := by
  unfold B_X12_allHomes_4 at hF
  show AW M_X12_allHomes 4 [(0, vr 161), (1, (0, v1)), (2, (0, v2))] [] h (qi Q)
  refine aw_iload_n (j := 2) (M := M_X12_allHomes) (pc := 4) dX12_allHomes_4 rfl rfl ?_
  refine aw_aload_n (j := 0) (M := M_X12_allHomes) (pc := 5) dX12_allHomes_5 rfl rfl ?_
  refine gf_X12_7 (M := M_X12_allHomes) (pc := 6) rfl dX12_allHomes_6 rfl (r := 162) rfl ?_
  refine aw_iconst (M := M_X12_allHomes) (pc := 9) dX12_allHomes_9 ⟨by decide, by decide⟩ ?_
  refine aw_iald (k := 0) (M := M_X12_allHomes) (pc := 10) dX12_allHomes_10 rfl ⟨by decide, by decide⟩ rfl ?_
  refine aw_icmp_ge (tgt := 30) (M := M_X12_allHomes) (pc := 11) dX12_allHomes_11 rfl (fun hc => ?_) (fun hc => ?_)
  · have hF := hF.1 hc
    refine aw_iload_n (j := 1) (M := M_X12_allHomes) (pc := 30) dX12_allHomes_30 rfl rfl ?_
    exact aw_ireti (M := M_X12_allHomes) (pc := 31) dX12_allHomes_31 rfl ⟨_, rfl, hF⟩
  · have hF := hF.2 hc
    refine aw_iload_n (j := 1) (M := M_X12_allHomes) (pc := 14) dX12_allHomes_14 rfl rfl ?_
    refine aw_aload_n (j := 0) (M := M_X12_allHomes) (pc := 15) dX12_allHomes_15 rfl rfl ?_
    refine aw_iload_n (j := 2) (M := M_X12_allHomes) (pc := 16) dX12_allHomes_16 rfl rfl ?_
    refine aw_bipush (M := M_X12_allHomes) (pc := 17) dX12_allHomes_17 ⟨rfl, ⟨by decide, by decide⟩⟩ ?_
    refine aw_cvi (as := [(0, v2), (0, 6)]) (st := [(0, v1)]) (M := M_X12_allHomes) (pc := 19) (f_X12_thingOf  hF) dX12_allHomes_19 rfl (Or.inl ⟨_, _, _, rfl, rfl⟩) cy_X12_thingOf ml_X12_263 (by decide) (by decide) (Nat.le_of_ble_eq_true rfl) (fun r3 h2 hF => ?_)
    obtain ⟨o4, hF⟩ := hF
    refine aw_iadd (M := M_X12_allHomes) (pc := 22) dX12_allHomes_22 rfl o4 ?_
    refine aw_istore_n (ls' := [(1, (0, v1 + r3)), (0, vr 161), (2, (0, v2))]) (M := M_X12_allHomes) (pc := 23) dX12_allHomes_23 rfl (by decide) rfl ?_
    obtain ⟨o5, hF⟩ := hF
    refine aw_iinc (j := 2) (x := v2) (r := v2 + 1) (ls' := [(2, (0, v2 + 1)), (1, (0, v1 + r3)), (0, vr 161)]) (M := M_X12_allHomes) (pc := 24) dX12_allHomes_24 rfl rfl o5 (by decide) rfl ?_
    refine aw_goto (tgt := 4) (M := M_X12_allHomes) (pc := 27) dX12_allHomes_27 rfl ?_
    exact aw_ls [2, 1, 0] rfl hF
def F_X12_allHomes (h : Mem)  (Q : Int → Mem → Prop) : Prop :=
  L_X12_allHomes_4 h 0 0 Q
set_option maxRecDepth 100000 in
set_option maxHeartbeats 4000000 in
theorem f_X12_allHomes {h : Mem}  {Q : Int → Mem → Prop}  (hF : F_X12_allHomes h  Q) : Ct yX12_allHomes cX12_allHomes 3 (some .int) (3, 87) [vr 161] h (qi Q) := by
  refine Ct.of np_RX12 (Nat.le_of_ble_eq_true rfl) ?_
  unfold F_X12_allHomes at hF
  show AW M_X12_allHomes 0 [(0, vr 161)] [] h (qi Q)
  refine aw_iconst (M := M_X12_allHomes) (pc := 0) dX12_allHomes_0 ⟨by decide, by decide⟩ ?_
  refine aw_istore_n (ls' := [(1, (0, 0)), (0, vr 161)]) (M := M_X12_allHomes) (pc := 1) dX12_allHomes_1 rfl (by decide) rfl ?_
  refine aw_iconst (M := M_X12_allHomes) (pc := 2) dX12_allHomes_2 ⟨by decide, by decide⟩ ?_
  refine aw_istore_n (ls' := [(2, (0, 0)), (1, (0, 0)), (0, vr 161)]) (M := M_X12_allHomes) (pc := 3) dX12_allHomes_3 rfl (by decide) rfl ?_
  exact aw_ls [2, 1, 0] rfl hF
abbrev M_X12_areAlike : Hd := (cX12_areAlike, 4, RX12, (some .boolean), (1, 45), sc0)
def L_X12_areAlike_2 (h : Mem) (v1 : Int) (v2 : Int) (v3 : Int) (Q : Int → Mem → Prop) : Prop := AW M_X12_areAlike 2 [(0, vr 161), (1, (0, v1)), (2, (0, v2)), (3, (0, v3))] [] h (qi Q)
def B_X12_areAlike_2 (h : Mem) (v1 : Int) (v2 : Int) (v3 : Int) (Q : Int → Mem → Prop) : Prop :=
  ((25 ≤ v3 → Q 1 h) ∧ (¬ (25 ≤ v3) → (InR (25 * v1) ∧ (InR ((25 * v1) + v3) ∧ ((0 ≤ ((25 * v1) + v3) ∧ ((25 * v1) + v3) < 5025) ∧ (InR (25 * v2) ∧ (InR ((25 * v2) + v3) ∧ ((0 ≤ ((25 * v2) + v3) ∧ ((25 * v2) + v3) < 5025) ∧ (((h 170 ((25 * v1) + v3).toNat) = (h 170 ((25 * v2) + v3).toNat) → (InR (v3 + 1) ∧ L_X12_areAlike_2 h v1 v2 (v3 + 1) Q)) ∧ (¬ ((h 170 ((25 * v1) + v3).toNat) = (h 170 ((25 * v2) + v3).toNat)) → Q 0 h))))))))))
set_option maxRecDepth 100000 in
set_option maxHeartbeats 4000000 in
theorem l_X12_areAlike_2 {h : Mem} {v1 : Int} {v2 : Int} {v3 : Int} {Q : Int → Mem → Prop}  (hF : B_X12_areAlike_2 h v1 v2 v3 Q) : L_X12_areAlike_2 h v1 v2 v3 Q := by
  unfold B_X12_areAlike_2 at hF
  show AW M_X12_areAlike 2 [(0, vr 161), (1, (0, v1)), (2, (0, v2)), (3, (0, v3))] [] h (qi Q)
  refine aw_iload_n (j := 3) (M := M_X12_areAlike) (pc := 2) dX12_areAlike_2 rfl rfl ?_
  refine aw_bipush (M := M_X12_areAlike) (pc := 3) dX12_areAlike_3 ⟨rfl, ⟨by decide, by decide⟩⟩ ?_
  refine aw_icmp_ge (tgt := 41) (M := M_X12_areAlike) (pc := 5) dX12_areAlike_5 rfl (fun hc => ?_) (fun hc => ?_)
  · have hF := hF.1 hc
    refine aw_iconst (M := M_X12_areAlike) (pc := 41) dX12_areAlike_41 ⟨by decide, by decide⟩ ?_
    exact aw_iretz (M := M_X12_areAlike) (pc := 42) dX12_areAlike_42 rfl (Or.inr rfl) ⟨_, rfl, hF⟩
  · have hF := hF.2 hc
    refine aw_aload_n (j := 0) (M := M_X12_areAlike) (pc := 8) dX12_areAlike_8 rfl rfl ?_
    refine gf_X12_47 (M := M_X12_areAlike) (pc := 9) rfl dX12_areAlike_9 rfl (r := 170) rfl ?_
    refine aw_bipush (M := M_X12_areAlike) (pc := 12) dX12_areAlike_12 ⟨rfl, ⟨by decide, by decide⟩⟩ ?_
    refine aw_iload_n (j := 1) (M := M_X12_areAlike) (pc := 14) dX12_areAlike_14 rfl rfl ?_
    obtain ⟨o1, hF⟩ := hF
    refine aw_imul (M := M_X12_areAlike) (pc := 15) dX12_areAlike_15 rfl o1 ?_
    refine aw_iload_n (j := 3) (M := M_X12_areAlike) (pc := 16) dX12_areAlike_16 rfl rfl ?_
    obtain ⟨o2, hF⟩ := hF
    refine aw_iadd (M := M_X12_areAlike) (pc := 17) dX12_areAlike_17 rfl o2 ?_
    obtain ⟨o4, hF⟩ := hF
    refine aw_iald (k := ((25 * v1) + v3).toNat) (M := M_X12_areAlike) (pc := 18) dX12_areAlike_18 rfl o4 rfl ?_
    refine aw_aload_n (j := 0) (M := M_X12_areAlike) (pc := 19) dX12_areAlike_19 rfl rfl ?_
    refine gf_X12_47 (M := M_X12_areAlike) (pc := 20) rfl dX12_areAlike_20 rfl (r := 170) rfl ?_
    refine aw_bipush (M := M_X12_areAlike) (pc := 23) dX12_areAlike_23 ⟨rfl, ⟨by decide, by decide⟩⟩ ?_
    refine aw_iload_n (j := 2) (M := M_X12_areAlike) (pc := 25) dX12_areAlike_25 rfl rfl ?_
    obtain ⟨o5, hF⟩ := hF
    refine aw_imul (M := M_X12_areAlike) (pc := 26) dX12_areAlike_26 rfl o5 ?_
    refine aw_iload_n (j := 3) (M := M_X12_areAlike) (pc := 27) dX12_areAlike_27 rfl rfl ?_
    obtain ⟨o6, hF⟩ := hF
    refine aw_iadd (M := M_X12_areAlike) (pc := 28) dX12_areAlike_28 rfl o6 ?_
    obtain ⟨o8, hF⟩ := hF
    refine aw_iald (k := ((25 * v2) + v3).toNat) (M := M_X12_areAlike) (pc := 29) dX12_areAlike_29 rfl o8 rfl ?_
    refine aw_icmp_eq (tgt := 35) (M := M_X12_areAlike) (pc := 30) dX12_areAlike_30 rfl (fun hc => ?_) (fun hc => ?_)
    · have hF := hF.1 hc
      obtain ⟨o9, hF⟩ := hF
      refine aw_iinc (j := 3) (x := v3) (r := v3 + 1) (ls' := [(3, (0, v3 + 1)), (0, vr 161), (1, (0, v1)), (2, (0, v2))]) (M := M_X12_areAlike) (pc := 35) dX12_areAlike_35 rfl rfl o9 (by decide) rfl ?_
      refine aw_goto (tgt := 2) (M := M_X12_areAlike) (pc := 38) dX12_areAlike_38 rfl ?_
      exact aw_ls [1, 2, 3, 0] rfl hF
    · have hF := hF.2 hc
      refine aw_iconst (M := M_X12_areAlike) (pc := 33) dX12_areAlike_33 ⟨by decide, by decide⟩ ?_
      exact aw_iretz (M := M_X12_areAlike) (pc := 34) dX12_areAlike_34 rfl (Or.inl rfl) ⟨_, rfl, hF⟩
def F_X12_areAlike (h : Mem) (a1 : Int) (a2 : Int) (Q : Int → Mem → Prop) : Prop :=
  L_X12_areAlike_2 h a1 a2 0 Q
set_option maxRecDepth 100000 in
set_option maxHeartbeats 4000000 in
theorem f_X12_areAlike {h : Mem} {a1 : Int} {a2 : Int} {Q : Int → Mem → Prop}  (hF : F_X12_areAlike h a1 a2 Q) : Ct yX12_areAlike cX12_areAlike 4 (some .boolean) (1, 45) [vr 161, (0, a1), (0, a2)] h (qi Q) := by
  refine Ct.of np_RX12 (Nat.le_of_ble_eq_true rfl) ?_
  unfold F_X12_areAlike at hF
  show AW M_X12_areAlike 0 [(0, vr 161), (1, (0, a1)), (2, (0, a2))] [] h (qi Q)
  refine aw_iconst (M := M_X12_areAlike) (pc := 0) dX12_areAlike_0 ⟨by decide, by decide⟩ ?_
  refine aw_istore_n (ls' := [(3, (0, 0)), (0, vr 161), (1, (0, a1)), (2, (0, a2))]) (M := M_X12_areAlike) (pc := 1) dX12_areAlike_1 rfl (by decide) rfl ?_
  exact aw_ls [1, 2, 3, 0] rfl hF
abbrev M_X12_isMill : Hd := (cX12_isMill, 2, RX12, (some .boolean), (1, 45), sc0)
def F_X12_isMill (h : Mem) (a1 : Int) (Q : Int → Mem → Prop) : Prop :=
  ((a1 < 0 → Q 0 h) ∧ (¬ (a1 < 0) → (((h 162 1) ≤ a1 → Q 0 h) ∧ (¬ ((h 162 1) ≤ a1) → Q 1 h))))
set_option maxRecDepth 100000 in
set_option maxHeartbeats 4000000 in
theorem f_X12_isMill {h : Mem} {a1 : Int} {Q : Int → Mem → Prop}  (hF : F_X12_isMill h a1 Q) : Ct yX12_isMill cX12_isMill 2 (some .boolean) (1, 45) [vr 161, (0, a1)] h (qi Q) := by
  refine Ct.of np_RX12 (Nat.le_of_ble_eq_true rfl) ?_
  unfold F_X12_isMill at hF
  show AW M_X12_isMill 0 [(0, vr 161), (1, (0, a1))] [] h (qi Q)
  refine aw_iload_n (j := 1) (M := M_X12_isMill) (pc := 0) dX12_isMill_0 rfl rfl ?_
  refine aw_if_lt (tgt := 18) (M := M_X12_isMill) (pc := 1) dX12_isMill_1 rfl (fun hc => ?_) (fun hc => ?_)
  · have hF := hF.1 hc
    refine aw_iconst (M := M_X12_isMill) (pc := 18) dX12_isMill_18 ⟨by decide, by decide⟩ ?_
    exact aw_iretz (M := M_X12_isMill) (pc := 19) dX12_isMill_19 rfl (Or.inl rfl) ⟨_, rfl, hF⟩
  · have hF := hF.2 hc
    refine aw_iload_n (j := 1) (M := M_X12_isMill) (pc := 4) dX12_isMill_4 rfl rfl ?_
    refine aw_aload_n (j := 0) (M := M_X12_isMill) (pc := 5) dX12_isMill_5 rfl rfl ?_
    refine gf_X12_7 (M := M_X12_isMill) (pc := 6) rfl dX12_isMill_6 rfl (r := 162) rfl ?_
    refine aw_iconst (M := M_X12_isMill) (pc := 9) dX12_isMill_9 ⟨by decide, by decide⟩ ?_
    refine aw_iald (k := 1) (M := M_X12_isMill) (pc := 10) dX12_isMill_10 rfl ⟨by decide, by decide⟩ rfl ?_
    refine aw_icmp_ge (tgt := 18) (M := M_X12_isMill) (pc := 11) dX12_isMill_11 rfl (fun hc => ?_) (fun hc => ?_)
    · have hF := hF.1 hc
      refine aw_iconst (M := M_X12_isMill) (pc := 18) dX12_isMill_18 ⟨by decide, by decide⟩ ?_
      exact aw_iretz (M := M_X12_isMill) (pc := 19) dX12_isMill_19 rfl (Or.inl rfl) ⟨_, rfl, hF⟩
    · have hF := hF.2 hc
      refine aw_iconst (M := M_X12_isMill) (pc := 14) dX12_isMill_14 ⟨by decide, by decide⟩ ?_
      refine aw_goto (tgt := 19) (M := M_X12_isMill) (pc := 15) dX12_isMill_15 rfl ?_
      exact aw_iretz (M := M_X12_isMill) (pc := 19) dX12_isMill_19 rfl (Or.inr rfl) ⟨_, rfl, hF⟩
abbrev M_X12_areTwo : Hd := (cX12_areTwo, 3, RX12, (some .boolean), (2, 66), sc0)
def F_X12_areTwo (h : Mem) (a1 : Int) (a2 : Int) (Q : Int → Mem → Prop) : Prop :=
  (F_X12_isMill h a1 (fun r2 h1 => ((r2 = 0 → Q 0 h1) ∧ (¬ (r2 = 0) → (F_X12_isMill h1 a2 (fun r4 h3 => ((r4 = 0 → Q 0 h3) ∧ (¬ (r4 = 0) → ((a1 = a2 → Q 0 h3) ∧ (¬ (a1 = a2) → Q 1 h3))))))))))
set_option maxRecDepth 100000 in
set_option maxHeartbeats 4000000 in
theorem f_X12_areTwo {h : Mem} {a1 : Int} {a2 : Int} {Q : Int → Mem → Prop}  (hF : F_X12_areTwo h a1 a2 Q) : Ct yX12_areTwo cX12_areTwo 3 (some .boolean) (2, 66) [vr 161, (0, a1), (0, a2)] h (qi Q) := by
  refine Ct.of np_RX12 (Nat.le_of_ble_eq_true rfl) ?_
  unfold F_X12_areTwo at hF
  show AW M_X12_areTwo 0 [(0, vr 161), (1, (0, a1)), (2, (0, a2))] [] h (qi Q)
  refine aw_aload_n (j := 0) (M := M_X12_areTwo) (pc := 0) dX12_areTwo_0 rfl rfl ?_
  refine aw_iload_n (j := 1) (M := M_X12_areTwo) (pc := 1) dX12_areTwo_1 rfl rfl ?_
  refine aw_cvi (as := [(0, a1)]) (st := []) (M := M_X12_areTwo) (pc := 2) (f_X12_isMill  hF) dX12_areTwo_2 rfl (Or.inl ⟨_, _, _, rfl, rfl⟩) cy_X12_isMill ml_X12_287 (by decide) (by decide) (Nat.le_of_ble_eq_true rfl) (fun r2 h1 hF => ?_)
  refine aw_if_eq (tgt := 25) (M := M_X12_areTwo) (pc := 5) dX12_areTwo_5 rfl (fun hc => ?_) (fun hc => ?_)
  · have hF := hF.1 hc
    refine aw_iconst (M := M_X12_areTwo) (pc := 25) dX12_areTwo_25 ⟨by decide, by decide⟩ ?_
    exact aw_iretz (M := M_X12_areTwo) (pc := 26) dX12_areTwo_26 rfl (Or.inl rfl) ⟨_, rfl, hF⟩
  · have hF := hF.2 hc
    refine aw_aload_n (j := 0) (M := M_X12_areTwo) (pc := 8) dX12_areTwo_8 rfl rfl ?_
    refine aw_iload_n (j := 2) (M := M_X12_areTwo) (pc := 9) dX12_areTwo_9 rfl rfl ?_
    refine aw_cvi (as := [(0, a2)]) (st := []) (M := M_X12_areTwo) (pc := 10) (f_X12_isMill  hF) dX12_areTwo_10 rfl (Or.inl ⟨_, _, _, rfl, rfl⟩) cy_X12_isMill ml_X12_287 (by decide) (by decide) (Nat.le_of_ble_eq_true rfl) (fun r4 h3 hF => ?_)
    refine aw_if_eq (tgt := 25) (M := M_X12_areTwo) (pc := 13) dX12_areTwo_13 rfl (fun hc => ?_) (fun hc => ?_)
    · have hF := hF.1 hc
      refine aw_iconst (M := M_X12_areTwo) (pc := 25) dX12_areTwo_25 ⟨by decide, by decide⟩ ?_
      exact aw_iretz (M := M_X12_areTwo) (pc := 26) dX12_areTwo_26 rfl (Or.inl rfl) ⟨_, rfl, hF⟩
    · have hF := hF.2 hc
      refine aw_iload_n (j := 1) (M := M_X12_areTwo) (pc := 16) dX12_areTwo_16 rfl rfl ?_
      refine aw_iload_n (j := 2) (M := M_X12_areTwo) (pc := 17) dX12_areTwo_17 rfl rfl ?_
      refine aw_icmp_eq (tgt := 25) (M := M_X12_areTwo) (pc := 18) dX12_areTwo_18 rfl (fun hc => ?_) (fun hc => ?_)
      · have hF := hF.1 hc
        refine aw_iconst (M := M_X12_areTwo) (pc := 25) dX12_areTwo_25 ⟨by decide, by decide⟩ ?_
        exact aw_iretz (M := M_X12_areTwo) (pc := 26) dX12_areTwo_26 rfl (Or.inl rfl) ⟨_, rfl, hF⟩
      · have hF := hF.2 hc
        refine aw_iconst (M := M_X12_areTwo) (pc := 21) dX12_areTwo_21 ⟨by decide, by decide⟩ ?_
        refine aw_goto (tgt := 26) (M := M_X12_areTwo) (pc := 22) dX12_areTwo_22 rfl ?_
        exact aw_iretz (M := M_X12_areTwo) (pc := 26) dX12_areTwo_26 rfl (Or.inr rfl) ⟨_, rfl, hF⟩
abbrev M_X12_laysMinds : Hd := (cX12_laysMinds, 8, RX12, none, (8, 197), sc0)
def L_X12_laysMinds_15 (h : Mem) (v1 : Int) (v2 : Int) (v3 : Int) (v4 : Int) (Q : Mem → Prop) : Prop := AW M_X12_laysMinds 15 [(0, vr 161), (1, (0, v1)), (2, (0, v2)), (3, (0, v3)), (4, (0, v4))] [] h (qv Q)
def L_X12_laysMinds_38 (h : Mem) (v1 : Int) (v2 : Int) (v3 : Int) (v4 : Int) (v5 : Int) (Q : Mem → Prop) : Prop := AW M_X12_laysMinds 38 [(0, vr 161), (1, (0, v1)), (2, (0, v2)), (3, (0, v3)), (4, (0, v4)), (5, (0, v5))] [] h (qv Q)
def L_X12_laysMinds_81 (h : Mem) (v1 : Int) (v2 : Int) (v3 : Int) (v4 : Int) (v5 : Int) (v6 : Int) (Q : Mem → Prop) : Prop := AW M_X12_laysMinds 81 [(0, vr 161), (1, (0, v1)), (2, (0, v2)), (3, (0, v3)), (4, (0, v4)), (5, (0, v5)), (6, (0, v6))] [] h (qv Q)
def B_X12_laysMinds_15 (h : Mem) (v1 : Int) (v2 : Int) (v3 : Int) (v4 : Int) (Q : Mem → Prop) : Prop :=
  ((24 < v4 → Q h) ∧ (¬ (24 < v4) → (F_X12_thingRow h v1 (fun r5 h4 => (InR (r5 + 2) ∧ ((0 ≤ (r5 + 2) ∧ (r5 + 2) < 3008) ∧ (∀ h8 : Mem, h8 = mset h4 162 (r5 + 2).toNat v4 → L_X12_laysMinds_38 h8 v1 v2 v3 v4 0 Q)))))))
set_option maxRecDepth 100000 in
set_option maxHeartbeats 4000000 in
theorem l_X12_laysMinds_15 {h : Mem} {v1 : Int} {v2 : Int} {v3 : Int} {v4 : Int} {Q : Mem → Prop}  (hF : B_X12_laysMinds_15 h v1 v2 v3 v4 Q) : L_X12_laysMinds_15 h v1 v2 v3 v4 Q := by
  unfold B_X12_laysMinds_15 at hF
  show AW M_X12_laysMinds 15 [(0, vr 161), (1, (0, v1)), (2, (0, v2)), (3, (0, v3)), (4, (0, v4))] [] h (qv Q)
  refine aw_iload (j := 4) (M := M_X12_laysMinds) (pc := 15) dX12_laysMinds_15  rfl ?_
  refine aw_bipush (M := M_X12_laysMinds) (pc := 17) dX12_laysMinds_17 ⟨rfl, ⟨by decide, by decide⟩⟩ ?_
  refine aw_icmp_gt (tgt := 198) (M := M_X12_laysMinds) (pc := 19) dX12_laysMinds_19 rfl (fun hc => ?_) (fun hc => ?_)
  · have hF := hF.1 hc
    exact aw_ret (M := M_X12_laysMinds) (pc := 198) dX12_laysMinds_198 rfl ⟨rfl, hF⟩
  · have hF := hF.2 hc
    refine aw_aload_n (j := 0) (M := M_X12_laysMinds) (pc := 22) dX12_laysMinds_22 rfl rfl ?_
    refine gf_X12_7 (M := M_X12_laysMinds) (pc := 23) rfl dX12_laysMinds_23 rfl (r := 162) rfl ?_
    refine aw_iload_n (j := 1) (M := M_X12_laysMinds) (pc := 26) dX12_laysMinds_26 rfl rfl ?_
    refine aw_csi (as := [(0, v1)]) (st := [vr 162]) (M := M_X12_laysMinds) (pc := 27) (f_X12_thingRow  hF) dX12_laysMinds_27 rfl cy_X12_thingRow ml_X12_203 (by decide) (by decide) (Nat.le_of_ble_eq_true rfl) (fun r5 h4 hF => ?_)
    refine aw_iconst (M := M_X12_laysMinds) (pc := 30) dX12_laysMinds_30 ⟨by decide, by decide⟩ ?_
    obtain ⟨o6, hF⟩ := hF
    refine aw_iadd (M := M_X12_laysMinds) (pc := 31) dX12_laysMinds_31 rfl o6 ?_
    refine aw_iload (j := 4) (M := M_X12_laysMinds) (pc := 32) dX12_laysMinds_32  rfl ?_
    obtain ⟨o7, hF⟩ := hF
    refine aw_iast (k := (r5 + 2).toNat) (M := M_X12_laysMinds) (pc := 34) dX12_laysMinds_34 rfl o7 rfl ?_
    obtain ⟨h8, eh8⟩ : ∃ y : Mem, y = mset h4 162 (r5 + 2).toNat v4 := ⟨_, rfl⟩
    have hF := hF h8 eh8
    rw [← eh8]
    refine aw_iconst (M := M_X12_laysMinds) (pc := 35) dX12_laysMinds_35 ⟨by decide, by decide⟩ ?_
    refine aw_istore (ls' := [(5, (0, 0)), (0, vr 161), (1, (0, v1)), (2, (0, v2)), (3, (0, v3)), (4, (0, v4))]) (M := M_X12_laysMinds) (pc := 36) dX12_laysMinds_36  (by decide) rfl ?_
    exact aw_ls [1, 2, 3, 4, 5, 0] rfl hF
def B_X12_laysMinds_38 (h : Mem) (v1 : Int) (v2 : Int) (v3 : Int) (v4 : Int) (v5 : Int) (Q : Mem → Prop) : Prop :=
  ((60 < v5 → (F_X12_restores h 2688 (fun h9 => L_X12_laysMinds_81 h9 v1 v2 v3 v4 1 0 Q))) ∧ (¬ (60 < v5) → (InR (61 * v4) ∧ (InR ((61 * v4) + v5) ∧ (F_X12_hourGoes h  (fun r14 h13 => ((0 ≤ ((61 * v4) + v5) ∧ ((61 * v4) + v5) < 1525) ∧ InZ r14 ∧ (∀ h17 : Mem, h17 = mset h13 173 ((61 * v4) + v5).toNat r14 → (InR (v5 + 1) ∧ L_X12_laysMinds_38 h17 v1 v2 v3 v4 (v5 + 1) Q)))))))))
set_option maxRecDepth 100000 in
set_option maxHeartbeats 4000000 in
theorem l_X12_laysMinds_38 {h : Mem} {v1 : Int} {v2 : Int} {v3 : Int} {v4 : Int} {v5 : Int} {Q : Mem → Prop}  (hF : B_X12_laysMinds_38 h v1 v2 v3 v4 v5 Q) : L_X12_laysMinds_38 h v1 v2 v3 v4 v5 Q := by
  unfold B_X12_laysMinds_38 at hF
  show AW M_X12_laysMinds 38 [(0, vr 161), (1, (0, v1)), (2, (0, v2)), (3, (0, v3)), (4, (0, v4)), (5, (0, v5))] [] h (qv Q)
  refine aw_iload (j := 5) (M := M_X12_laysMinds) (pc := 38) dX12_laysMinds_38  rfl ?_
  refine aw_bipush (M := M_X12_laysMinds) (pc := 40) dX12_laysMinds_40 ⟨rfl, ⟨by decide, by decide⟩⟩ ?_
  refine aw_icmp_gt (tgt := 68) (M := M_X12_laysMinds) (pc := 42) dX12_laysMinds_42 rfl (fun hc => ?_) (fun hc => ?_)
  · have hF := hF.1 hc
    refine aw_aload_n (j := 0) (M := M_X12_laysMinds) (pc := 68) dX12_laysMinds_68 rfl rfl ?_
    refine aw_sipush (M := M_X12_laysMinds) (pc := 69) dX12_laysMinds_69 ⟨rfl, ⟨by decide, by decide⟩⟩ ?_
    refine aw_cvv (as := [(0, 2688)]) (st := []) (M := M_X12_laysMinds) (pc := 72) (f_X12_restores  hF) dX12_laysMinds_72 rfl (Or.inl ⟨_, _, _, rfl, rfl⟩) cy_X12_restores ml_X12_353 (by decide) (by decide) (Nat.le_of_ble_eq_true rfl) (fun h9 hF => ?_)
    refine aw_iconst (M := M_X12_laysMinds) (pc := 75) dX12_laysMinds_75 ⟨by decide, by decide⟩ ?_
    refine aw_istore (ls' := [(5, (0, 1)), (0, vr 161), (1, (0, v1)), (2, (0, v2)), (3, (0, v3)), (4, (0, v4))]) (M := M_X12_laysMinds) (pc := 76) dX12_laysMinds_76  (by decide) rfl ?_
    refine aw_iconst (M := M_X12_laysMinds) (pc := 78) dX12_laysMinds_78 ⟨by decide, by decide⟩ ?_
    refine aw_istore (ls' := [(6, (0, 0)), (5, (0, 1)), (0, vr 161), (1, (0, v1)), (2, (0, v2)), (3, (0, v3)), (4, (0, v4))]) (M := M_X12_laysMinds) (pc := 79) dX12_laysMinds_79  (by decide) rfl ?_
    exact aw_ls [2, 3, 4, 5, 6, 1, 0] rfl hF
  · have hF := hF.2 hc
    refine aw_aload_n (j := 0) (M := M_X12_laysMinds) (pc := 45) dX12_laysMinds_45 rfl rfl ?_
    refine gf_X12_57 (M := M_X12_laysMinds) (pc := 46) rfl dX12_laysMinds_46 rfl (r := 173) rfl ?_
    refine aw_bipush (M := M_X12_laysMinds) (pc := 49) dX12_laysMinds_49 ⟨rfl, ⟨by decide, by decide⟩⟩ ?_
    refine aw_iload (j := 4) (M := M_X12_laysMinds) (pc := 51) dX12_laysMinds_51  rfl ?_
    obtain ⟨o11, hF⟩ := hF
    refine aw_imul (M := M_X12_laysMinds) (pc := 53) dX12_laysMinds_53 rfl o11 ?_
    refine aw_iload (j := 5) (M := M_X12_laysMinds) (pc := 54) dX12_laysMinds_54  rfl ?_
    obtain ⟨o12, hF⟩ := hF
    refine aw_iadd (M := M_X12_laysMinds) (pc := 56) dX12_laysMinds_56 rfl o12 ?_
    refine aw_aload_n (j := 0) (M := M_X12_laysMinds) (pc := 57) dX12_laysMinds_57 rfl rfl ?_
    refine aw_cvi (as := []) (st := [(0, (61 * v4) + v5), vr 173]) (M := M_X12_laysMinds) (pc := 58) (f_X12_hourGoes  hF) dX12_laysMinds_58 rfl (Or.inl ⟨_, _, _, rfl, rfl⟩) cy_X12_hourGoes ml_X12_311 (by decide) (by decide) (Nat.le_of_ble_eq_true rfl) (fun r14 h13 hF => ?_)
    obtain ⟨o15, hF⟩ := hF
    obtain ⟨o16, hF⟩ := hF
    refine aw_zast (k := ((61 * v4) + v5).toNat) (M := M_X12_laysMinds) (pc := 61) dX12_laysMinds_61 rfl o15 rfl o16 ?_
    obtain ⟨h17, eh17⟩ : ∃ y : Mem, y = mset h13 173 ((61 * v4) + v5).toNat r14 := ⟨_, rfl⟩
    have hF := hF h17 eh17
    rw [← eh17]
    obtain ⟨o18, hF⟩ := hF
    refine aw_iinc (j := 5) (x := v5) (r := v5 + 1) (ls' := [(5, (0, v5 + 1)), (0, vr 161), (1, (0, v1)), (2, (0, v2)), (3, (0, v3)), (4, (0, v4))]) (M := M_X12_laysMinds) (pc := 62) dX12_laysMinds_62 rfl rfl o18 (by decide) rfl ?_
    refine aw_goto (tgt := 38) (M := M_X12_laysMinds) (pc := 65) dX12_laysMinds_65 rfl ?_
    exact aw_ls [1, 2, 3, 4, 5, 0] rfl hF
def B_X12_laysMinds_81 (h : Mem) (v1 : Int) (v2 : Int) (v3 : Int) (v4 : Int) (v5 : Int) (v6 : Int) (Q : Mem → Prop) : Prop :=
  ((v3 ≤ v6 → ((0 ≤ v4 ∧ v4 < 25) ∧ InZ v5 ∧ (∀ h21 : Mem, h21 = mset h 172 (v4).toNat v5 → ((v5 = 0 → (InR (h21 161 30) ∧ (∀ h23 : Mem, h23 = mset h21 161 30 (h21 161 30) → (InR (v4 + 1) ∧ L_X12_laysMinds_15 h23 v1 v2 v3 (v4 + 1) Q)))) ∧ (¬ (v5 = 0) → (InR ((h21 161 30) + 1) ∧ (∀ h26 : Mem, h26 = mset h21 161 30 ((h21 161 30) + 1) → (InR (v4 + 1) ∧ L_X12_laysMinds_15 h26 v1 v2 v3 (v4 + 1) Q)))))))) ∧ (¬ (v3 ≤ v6) → (InR (60 * v2) ∧ (InR (2 * v6) ∧ (InR ((60 * v2) + (2 * v6)) ∧ ((0 ≤ ((60 * v2) + (2 * v6)) ∧ ((60 * v2) + (2 * v6)) < 240) ∧ (∀ x33 : Int, x33 = l2i (h 166 ((60 * v2) + (2 * v6)).toNat) → ((v5 = 0 → (InR (v6 + 1) ∧ L_X12_laysMinds_81 h v1 v2 v3 v4 0 (v6 + 1) Q)) ∧ (¬ (v5 = 0) → (InR (61 * v4) ∧ (InR ((61 * v4) + x33) ∧ ((0 ≤ ((61 * v4) + x33) ∧ ((61 * v4) + x33) < 1525) ∧ (InR (((60 * v2) + (2 * v6)) + 1) ∧ ((0 ≤ (((60 * v2) + (2 * v6)) + 1) ∧ (((60 * v2) + (2 * v6)) + 1) < 240) ∧ ((¬ ((h 166 (((60 * v2) + (2 * v6)) + 1).toNat) = 1) → ((¬ ((h 173 ((61 * v4) + x33).toNat) = 0) → (InR (v6 + 1) ∧ L_X12_laysMinds_81 h v1 v2 v3 v4 0 (v6 + 1) Q)) ∧ ((h 173 ((61 * v4) + x33).toNat) = 0 → (InR (v6 + 1) ∧ L_X12_laysMinds_81 h v1 v2 v3 v4 1 (v6 + 1) Q)))) ∧ ((h 166 (((60 * v2) + (2 * v6)) + 1).toNat) = 1 → ((¬ ((h 173 ((61 * v4) + x33).toNat) = 1) → (InR (v6 + 1) ∧ L_X12_laysMinds_81 h v1 v2 v3 v4 0 (v6 + 1) Q)) ∧ ((h 173 ((61 * v4) + x33).toNat) = 1 → (InR (v6 + 1) ∧ L_X12_laysMinds_81 h v1 v2 v3 v4 1 (v6 + 1) Q)))))))))))))))))))
set_option maxRecDepth 100000 in
set_option maxHeartbeats 4000000 in
theorem l_X12_laysMinds_81 {h : Mem} {v1 : Int} {v2 : Int} {v3 : Int} {v4 : Int} {v5 : Int} {v6 : Int} {Q : Mem → Prop}  (hF : B_X12_laysMinds_81 h v1 v2 v3 v4 v5 v6 Q) : L_X12_laysMinds_81 h v1 v2 v3 v4 v5 v6 Q := by
  unfold B_X12_laysMinds_81 at hF
  show AW M_X12_laysMinds 81 [(0, vr 161), (1, (0, v1)), (2, (0, v2)), (3, (0, v3)), (4, (0, v4)), (5, (0, v5)), (6, (0, v6))] [] h (qv Q)
  refine aw_iload (j := 6) (M := M_X12_laysMinds) (pc := 81) dX12_laysMinds_81  rfl ?_
  refine aw_iload_n (j := 3) (M := M_X12_laysMinds) (pc := 83) dX12_laysMinds_83 rfl rfl ?_
  refine aw_icmp_ge (tgt := 164) (M := M_X12_laysMinds) (pc := 84) dX12_laysMinds_84 rfl (fun hc => ?_) (fun hc => ?_)
  · have hF := hF.1 hc
    refine aw_aload_n (j := 0) (M := M_X12_laysMinds) (pc := 164) dX12_laysMinds_164 rfl rfl ?_
    refine gf_X12_53 (M := M_X12_laysMinds) (pc := 165) rfl dX12_laysMinds_165 rfl (r := 172) rfl ?_
    refine aw_iload (j := 4) (M := M_X12_laysMinds) (pc := 168) dX12_laysMinds_168  rfl ?_
    refine aw_iload (j := 5) (M := M_X12_laysMinds) (pc := 170) dX12_laysMinds_170  rfl ?_
    obtain ⟨o19, hF⟩ := hF
    obtain ⟨o20, hF⟩ := hF
    refine aw_zast (k := (v4).toNat) (M := M_X12_laysMinds) (pc := 172) dX12_laysMinds_172 rfl o19 rfl o20 ?_
    obtain ⟨h21, eh21⟩ : ∃ y : Mem, y = mset h 172 (v4).toNat v5 := ⟨_, rfl⟩
    have hF := hF h21 eh21
    rw [← eh21]
    refine aw_aload_n (j := 0) (M := M_X12_laysMinds) (pc := 173) dX12_laysMinds_173 rfl rfl ?_
    refine aw_dup (M := M_X12_laysMinds) (pc := 174) dX12_laysMinds_174 rfl ?_
    refine gf_X12_395 (M := M_X12_laysMinds) (pc := 175) rfl dX12_laysMinds_175 rfl ?_
    refine aw_iload (j := 5) (M := M_X12_laysMinds) (pc := 178) dX12_laysMinds_178  rfl ?_
    refine aw_if_eq (tgt := 187) (M := M_X12_laysMinds) (pc := 180) dX12_laysMinds_180 rfl (fun hc => ?_) (fun hc => ?_)
    · have hF := hF.1 hc
      refine aw_iconst (M := M_X12_laysMinds) (pc := 187) dX12_laysMinds_187 ⟨by decide, by decide⟩ ?_
      obtain ⟨o22, hF⟩ := hF
      refine aw_iadd (r := h21 161 30) (M := M_X12_laysMinds) (pc := 188) dX12_laysMinds_188 (Int.add_zero _) o22 ?_
      refine pf_X12_395 (M := M_X12_laysMinds) (pc := 189) rfl dX12_laysMinds_189 rfl ?_
      obtain ⟨h23, eh23⟩ : ∃ y : Mem, y = mset h21 161 30 (h21 161 30) := ⟨_, rfl⟩
      have hF := hF h23 eh23
      rw [← eh23]
      obtain ⟨o24, hF⟩ := hF
      refine aw_iinc (j := 4) (x := v4) (r := v4 + 1) (ls' := [(4, (0, v4 + 1)), (0, vr 161), (1, (0, v1)), (2, (0, v2)), (3, (0, v3)), (5, (0, v5)), (6, (0, v6))]) (M := M_X12_laysMinds) (pc := 192) dX12_laysMinds_192 rfl rfl o24 (by decide) rfl ?_
      refine aw_goto (tgt := 15) (M := M_X12_laysMinds) (pc := 195) dX12_laysMinds_195 rfl ?_
      exact aw_ls [1, 2, 3, 4, 0] rfl hF
    · have hF := hF.2 hc
      refine aw_iconst (M := M_X12_laysMinds) (pc := 183) dX12_laysMinds_183 ⟨by decide, by decide⟩ ?_
      refine aw_goto (tgt := 188) (M := M_X12_laysMinds) (pc := 184) dX12_laysMinds_184 rfl ?_
      obtain ⟨o25, hF⟩ := hF
      refine aw_iadd (M := M_X12_laysMinds) (pc := 188) dX12_laysMinds_188 rfl o25 ?_
      refine pf_X12_395 (M := M_X12_laysMinds) (pc := 189) rfl dX12_laysMinds_189 rfl ?_
      obtain ⟨h26, eh26⟩ : ∃ y : Mem, y = mset h21 161 30 ((h21 161 30) + 1) := ⟨_, rfl⟩
      have hF := hF h26 eh26
      rw [← eh26]
      obtain ⟨o27, hF⟩ := hF
      refine aw_iinc (j := 4) (x := v4) (r := v4 + 1) (ls' := [(4, (0, v4 + 1)), (0, vr 161), (1, (0, v1)), (2, (0, v2)), (3, (0, v3)), (5, (0, v5)), (6, (0, v6))]) (M := M_X12_laysMinds) (pc := 192) dX12_laysMinds_192 rfl rfl o27 (by decide) rfl ?_
      refine aw_goto (tgt := 15) (M := M_X12_laysMinds) (pc := 195) dX12_laysMinds_195 rfl ?_
      exact aw_ls [1, 2, 3, 4, 0] rfl hF
  · have hF := hF.2 hc
    refine aw_aload_n (j := 0) (M := M_X12_laysMinds) (pc := 87) dX12_laysMinds_87 rfl rfl ?_
    refine gf_X12_27 (M := M_X12_laysMinds) (pc := 88) rfl dX12_laysMinds_88 rfl (r := 166) rfl ?_
    refine aw_bipush (M := M_X12_laysMinds) (pc := 91) dX12_laysMinds_91 ⟨rfl, ⟨by decide, by decide⟩⟩ ?_
    refine aw_iload_n (j := 2) (M := M_X12_laysMinds) (pc := 93) dX12_laysMinds_93 rfl rfl ?_
    obtain ⟨o28, hF⟩ := hF
    refine aw_imul (M := M_X12_laysMinds) (pc := 94) dX12_laysMinds_94 rfl o28 ?_
    refine aw_iconst (M := M_X12_laysMinds) (pc := 95) dX12_laysMinds_95 ⟨by decide, by decide⟩ ?_
    refine aw_iload (j := 6) (M := M_X12_laysMinds) (pc := 96) dX12_laysMinds_96  rfl ?_
    obtain ⟨o29, hF⟩ := hF
    refine aw_imul (M := M_X12_laysMinds) (pc := 98) dX12_laysMinds_98 rfl o29 ?_
    obtain ⟨o30, hF⟩ := hF
    refine aw_iadd (M := M_X12_laysMinds) (pc := 99) dX12_laysMinds_99 rfl o30 ?_
    obtain ⟨o32, hF⟩ := hF
    refine aw_lald (k := ((60 * v2) + (2 * v6)).toNat) (M := M_X12_laysMinds) (pc := 100) dX12_laysMinds_100 rfl o32 rfl ?_
    refine aw_l2i (M := M_X12_laysMinds) (pc := 101) dX12_laysMinds_101 ?_
    obtain ⟨x33, ex33⟩ : ∃ y : Int, y = l2i (h 166 ((60 * v2) + (2 * v6)).toNat) := ⟨_, rfl⟩
    have hF := hF x33 ex33
    rw [← ex33]
    refine aw_istore (ls' := [(7, (0, x33)), (0, vr 161), (1, (0, v1)), (2, (0, v2)), (3, (0, v3)), (4, (0, v4)), (5, (0, v5)), (6, (0, v6))]) (M := M_X12_laysMinds) (pc := 102) dX12_laysMinds_102  (by decide) rfl ?_
    refine aw_iload (j := 6) (M := M_X12_laysMinds) (pc := 104) dX12_laysMinds_104  rfl ?_
    refine aw_if_eq (tgt := 155) (M := M_X12_laysMinds) (pc := 106) dX12_laysMinds_106 rfl (fun hc => ?_) (fun hc => ?_)
    · have hF := hF.1 hc
      refine aw_iconst (M := M_X12_laysMinds) (pc := 155) dX12_laysMinds_155 ⟨by decide, by decide⟩ ?_
      refine aw_istore (ls' := [(5, (0, 0)), (7, (0, x33)), (0, vr 161), (1, (0, v1)), (2, (0, v2)), (3, (0, v3)), (4, (0, v4)), (6, (0, v6))]) (M := M_X12_laysMinds) (pc := 156) dX12_laysMinds_156  (by decide) rfl ?_
      obtain ⟨o34, hF⟩ := hF
      refine aw_iinc (j := 7) (x := v6) (r := v6 + 1) (ls' := [(6, (0, v6 + 1)), (5, (0, 0)), (7, (0, x33)), (0, vr 161), (1, (0, v1)), (2, (0, v2)), (3, (0, v3)), (4, (0, v4))]) (M := M_X12_laysMinds) (pc := 158) dX12_laysMinds_158 rfl rfl o34 (by decide) rfl ?_
      refine aw_goto (tgt := 81) (M := M_X12_laysMinds) (pc := 161) dX12_laysMinds_161 rfl ?_
      exact aw_ls [3, 4, 5, 6, 7, 1, 0] rfl hF
    · have hF := hF.2 hc
      refine aw_aload_n (j := 1) (M := M_X12_laysMinds) (pc := 109) dX12_laysMinds_109 rfl rfl ?_
      refine gf_X12_57 (M := M_X12_laysMinds) (pc := 110) rfl dX12_laysMinds_110 rfl (r := 173) rfl ?_
      refine aw_bipush (M := M_X12_laysMinds) (pc := 113) dX12_laysMinds_113 ⟨rfl, ⟨by decide, by decide⟩⟩ ?_
      refine aw_iload (j := 5) (M := M_X12_laysMinds) (pc := 115) dX12_laysMinds_115  rfl ?_
      obtain ⟨o35, hF⟩ := hF
      refine aw_imul (M := M_X12_laysMinds) (pc := 117) dX12_laysMinds_117 rfl o35 ?_
      refine aw_iload (j := 0) (M := M_X12_laysMinds) (pc := 118) dX12_laysMinds_118  rfl ?_
      obtain ⟨o36, hF⟩ := hF
      refine aw_iadd (M := M_X12_laysMinds) (pc := 120) dX12_laysMinds_120 rfl o36 ?_
      obtain ⟨o38, hF⟩ := hF
      refine aw_zald (k := ((61 * v4) + x33).toNat) (M := M_X12_laysMinds) (pc := 121) dX12_laysMinds_121 rfl o38 rfl ?_
      refine aw_aload_n (j := 1) (M := M_X12_laysMinds) (pc := 122) dX12_laysMinds_122 rfl rfl ?_
      refine gf_X12_27 (M := M_X12_laysMinds) (pc := 123) rfl dX12_laysMinds_123 rfl (r := 166) rfl ?_
      refine aw_bipush (M := M_X12_laysMinds) (pc := 126) dX12_laysMinds_126 ⟨rfl, ⟨by decide, by decide⟩⟩ ?_
      refine aw_iload_n (j := 3) (M := M_X12_laysMinds) (pc := 128) dX12_laysMinds_128 rfl rfl ?_
      refine aw_imul (M := M_X12_laysMinds) (pc := 129) dX12_laysMinds_129 rfl o28 ?_
      refine aw_iconst (M := M_X12_laysMinds) (pc := 130) dX12_laysMinds_130 ⟨by decide, by decide⟩ ?_
      refine aw_iload (j := 7) (M := M_X12_laysMinds) (pc := 131) dX12_laysMinds_131  rfl ?_
      refine aw_imul (M := M_X12_laysMinds) (pc := 133) dX12_laysMinds_133 rfl o29 ?_
      refine aw_iadd (M := M_X12_laysMinds) (pc := 134) dX12_laysMinds_134 rfl o30 ?_
      refine aw_iconst (M := M_X12_laysMinds) (pc := 135) dX12_laysMinds_135 ⟨by decide, by decide⟩ ?_
      obtain ⟨o39, hF⟩ := hF
      refine aw_iadd (M := M_X12_laysMinds) (pc := 136) dX12_laysMinds_136 rfl o39 ?_
      obtain ⟨o41, hF⟩ := hF
      refine aw_lald (k := (((60 * v2) + (2 * v6)) + 1).toNat) (M := M_X12_laysMinds) (pc := 137) dX12_laysMinds_137 rfl o41 rfl ?_
      refine aw_lconst (v := 1) (M := M_X12_laysMinds) (pc := 138) dX12_laysMinds_138 ⟨rfl, ⟨by decide, by decide⟩⟩ ?_
      refine aw_lcmp (M := M_X12_laysMinds) (pc := 139) dX12_laysMinds_139 ?_
      refine aw_if_ne (tgt := 147) (M := M_X12_laysMinds) (pc := 140) dX12_laysMinds_140 rfl (fun hc => ?_) (fun hc => ?_)
      · have hF := hF.1 (fun z => hc (lc_eq.mpr z))
        refine aw_iconst (M := M_X12_laysMinds) (pc := 147) dX12_laysMinds_147 ⟨by decide, by decide⟩ ?_
        refine aw_icmp_ne (tgt := 155) (M := M_X12_laysMinds) (pc := 148) dX12_laysMinds_148 rfl (fun hc => ?_) (fun hc => ?_)
        · have hF := hF.1 hc
          refine aw_iconst (M := M_X12_laysMinds) (pc := 155) dX12_laysMinds_155 ⟨by decide, by decide⟩ ?_
          refine aw_istore (ls' := [(5, (0, 0)), (7, (0, x33)), (0, vr 161), (1, (0, v1)), (2, (0, v2)), (3, (0, v3)), (4, (0, v4)), (6, (0, v6))]) (M := M_X12_laysMinds) (pc := 156) dX12_laysMinds_156  (by decide) rfl ?_
          obtain ⟨o42, hF⟩ := hF
          refine aw_iinc (j := 7) (x := v6) (r := v6 + 1) (ls' := [(6, (0, v6 + 1)), (5, (0, 0)), (7, (0, x33)), (0, vr 161), (1, (0, v1)), (2, (0, v2)), (3, (0, v3)), (4, (0, v4))]) (M := M_X12_laysMinds) (pc := 158) dX12_laysMinds_158 rfl rfl o42 (by decide) rfl ?_
          refine aw_goto (tgt := 81) (M := M_X12_laysMinds) (pc := 161) dX12_laysMinds_161 rfl ?_
          exact aw_ls [3, 4, 5, 6, 7, 1, 0] rfl hF
        · have hF := hF.2 hc
          refine aw_iconst (M := M_X12_laysMinds) (pc := 151) dX12_laysMinds_151 ⟨by decide, by decide⟩ ?_
          refine aw_goto (tgt := 156) (M := M_X12_laysMinds) (pc := 152) dX12_laysMinds_152 rfl ?_
          refine aw_istore (ls' := [(5, (0, 1)), (7, (0, x33)), (0, vr 161), (1, (0, v1)), (2, (0, v2)), (3, (0, v3)), (4, (0, v4)), (6, (0, v6))]) (M := M_X12_laysMinds) (pc := 156) dX12_laysMinds_156  (by decide) rfl ?_
          obtain ⟨o43, hF⟩ := hF
          refine aw_iinc (j := 7) (x := v6) (r := v6 + 1) (ls' := [(6, (0, v6 + 1)), (5, (0, 1)), (7, (0, x33)), (0, vr 161), (1, (0, v1)), (2, (0, v2)), (3, (0, v3)), (4, (0, v4))]) (M := M_X12_laysMinds) (pc := 158) dX12_laysMinds_158 rfl rfl o43 (by decide) rfl ?_
          refine aw_goto (tgt := 81) (M := M_X12_laysMinds) (pc := 161) dX12_laysMinds_161 rfl ?_
          exact aw_ls [3, 4, 5, 6, 7, 1, 0] rfl hF
      · have hF := hF.2 (lc_eq.mp hc)
        refine aw_iconst (M := M_X12_laysMinds) (pc := 143) dX12_laysMinds_143 ⟨by decide, by decide⟩ ?_
        refine aw_goto (tgt := 148) (M := M_X12_laysMinds) (pc := 144) dX12_laysMinds_144 rfl ?_
        refine aw_icmp_ne (tgt := 155) (M := M_X12_laysMinds) (pc := 148) dX12_laysMinds_148 rfl (fun hc => ?_) (fun hc => ?_)
        · have hF := hF.1 hc
          refine aw_iconst (M := M_X12_laysMinds) (pc := 155) dX12_laysMinds_155 ⟨by decide, by decide⟩ ?_
          refine aw_istore (ls' := [(5, (0, 0)), (7, (0, x33)), (0, vr 161), (1, (0, v1)), (2, (0, v2)), (3, (0, v3)), (4, (0, v4)), (6, (0, v6))]) (M := M_X12_laysMinds) (pc := 156) dX12_laysMinds_156  (by decide) rfl ?_
          obtain ⟨o44, hF⟩ := hF
          refine aw_iinc (j := 7) (x := v6) (r := v6 + 1) (ls' := [(6, (0, v6 + 1)), (5, (0, 0)), (7, (0, x33)), (0, vr 161), (1, (0, v1)), (2, (0, v2)), (3, (0, v3)), (4, (0, v4))]) (M := M_X12_laysMinds) (pc := 158) dX12_laysMinds_158 rfl rfl o44 (by decide) rfl ?_
          refine aw_goto (tgt := 81) (M := M_X12_laysMinds) (pc := 161) dX12_laysMinds_161 rfl ?_
          exact aw_ls [3, 4, 5, 6, 7, 1, 0] rfl hF
        · have hF := hF.2 hc
          refine aw_iconst (M := M_X12_laysMinds) (pc := 151) dX12_laysMinds_151 ⟨by decide, by decide⟩ ?_
          refine aw_goto (tgt := 156) (M := M_X12_laysMinds) (pc := 152) dX12_laysMinds_152 rfl ?_
          refine aw_istore (ls' := [(5, (0, 1)), (7, (0, x33)), (0, vr 161), (1, (0, v1)), (2, (0, v2)), (3, (0, v3)), (4, (0, v4)), (6, (0, v6))]) (M := M_X12_laysMinds) (pc := 156) dX12_laysMinds_156  (by decide) rfl ?_
          obtain ⟨o45, hF⟩ := hF
          refine aw_iinc (j := 7) (x := v6) (r := v6 + 1) (ls' := [(6, (0, v6 + 1)), (5, (0, 1)), (7, (0, x33)), (0, vr 161), (1, (0, v1)), (2, (0, v2)), (3, (0, v3)), (4, (0, v4))]) (M := M_X12_laysMinds) (pc := 158) dX12_laysMinds_158 rfl rfl o45 (by decide) rfl ?_
          refine aw_goto (tgt := 81) (M := M_X12_laysMinds) (pc := 161) dX12_laysMinds_161 rfl ?_
          exact aw_ls [3, 4, 5, 6, 7, 1, 0] rfl hF
def F_X12_laysMinds (h : Mem) (a1 : Int) (a2 : Int) (a3 : Int) (Q : Mem → Prop) : Prop :=
  (F_X12_keeps h 2688 (fun h1 => (∀ h3 : Mem, h3 = mset h1 161 30 0 → L_X12_laysMinds_15 h3 a1 a2 a3 1 Q)))
set_option maxRecDepth 100000 in
set_option maxHeartbeats 4000000 in
theorem f_X12_laysMinds {h : Mem} {a1 : Int} {a2 : Int} {a3 : Int} {Q : Mem → Prop}  (hF : F_X12_laysMinds h a1 a2 a3 Q) : Ct yX12_laysMinds cX12_laysMinds 8 none (8, 197) [vr 161, (0, a1), (0, a2), (0, a3)] h (qv Q) := by
  refine Ct.of np_RX12 (Nat.le_of_ble_eq_true rfl) ?_
  unfold F_X12_laysMinds at hF
  show AW M_X12_laysMinds 0 [(0, vr 161), (1, (0, a1)), (2, (0, a2)), (3, (0, a3))] [] h (qv Q)
  refine aw_aload_n (j := 0) (M := M_X12_laysMinds) (pc := 0) dX12_laysMinds_0 rfl rfl ?_
  refine aw_sipush (M := M_X12_laysMinds) (pc := 1) dX12_laysMinds_1 ⟨rfl, ⟨by decide, by decide⟩⟩ ?_
  refine aw_cvv (as := [(0, 2688)]) (st := []) (M := M_X12_laysMinds) (pc := 4) (f_X12_keeps  hF) dX12_laysMinds_4 rfl (Or.inl ⟨_, _, _, rfl, rfl⟩) cy_X12_keeps ml_X12_350 (by decide) (by decide) (Nat.le_of_ble_eq_true rfl) (fun h1 hF => ?_)
  refine aw_aload_n (j := 0) (M := M_X12_laysMinds) (pc := 7) dX12_laysMinds_7 rfl rfl ?_
  refine aw_iconst (M := M_X12_laysMinds) (pc := 8) dX12_laysMinds_8 ⟨by decide, by decide⟩ ?_
  refine pf_X12_395 (M := M_X12_laysMinds) (pc := 9) rfl dX12_laysMinds_9 rfl ?_
  obtain ⟨h3, eh3⟩ : ∃ y : Mem, y = mset h1 161 30 0 := ⟨_, rfl⟩
  have hF := hF h3 eh3
  rw [← eh3]
  refine aw_iconst (M := M_X12_laysMinds) (pc := 12) dX12_laysMinds_12 ⟨by decide, by decide⟩ ?_
  refine aw_istore (ls' := [(4, (0, 1)), (0, vr 161), (1, (0, a1)), (2, (0, a2)), (3, (0, a3))]) (M := M_X12_laysMinds) (pc := 13) dX12_laysMinds_13  (by decide) rfl ?_
  exact aw_ls [1, 2, 3, 4, 0] rfl hF
abbrev M_X12_isTray : Hd := (cX12_isTray, 1, RX12, (some .boolean), (1, 45), sc0)
def F_X12_isTray (h : Mem) (a1 : Int) (Q : Int → Mem → Prop) : Prop :=
  ((a1 < 0 → Q 0 h) ∧ (¬ (a1 < 0) → ((4 ≤ a1 → Q 0 h) ∧ (¬ (4 ≤ a1) → Q 1 h))))
set_option maxRecDepth 100000 in
set_option maxHeartbeats 4000000 in
theorem f_X12_isTray {h : Mem} {a1 : Int} {Q : Int → Mem → Prop}  (hF : F_X12_isTray h a1 Q) : Ct yX12_isTray cX12_isTray 1 (some .boolean) (1, 45) [(0, a1)] h (qi Q) := by
  refine Ct.of np_RX12 (Nat.le_of_ble_eq_true rfl) ?_
  unfold F_X12_isTray at hF
  show AW M_X12_isTray 0 [(0, (0, a1))] [] h (qi Q)
  refine aw_iload_n (j := 0) (M := M_X12_isTray) (pc := 0) dX12_isTray_0 rfl rfl ?_
  refine aw_if_lt (tgt := 13) (M := M_X12_isTray) (pc := 1) dX12_isTray_1 rfl (fun hc => ?_) (fun hc => ?_)
  · have hF := hF.1 hc
    refine aw_iconst (M := M_X12_isTray) (pc := 13) dX12_isTray_13 ⟨by decide, by decide⟩ ?_
    exact aw_iretz (M := M_X12_isTray) (pc := 14) dX12_isTray_14 rfl (Or.inl rfl) ⟨_, rfl, hF⟩
  · have hF := hF.2 hc
    refine aw_iload_n (j := 0) (M := M_X12_isTray) (pc := 4) dX12_isTray_4 rfl rfl ?_
    refine aw_iconst (M := M_X12_isTray) (pc := 5) dX12_isTray_5 ⟨by decide, by decide⟩ ?_
    refine aw_icmp_ge (tgt := 13) (M := M_X12_isTray) (pc := 6) dX12_isTray_6 rfl (fun hc => ?_) (fun hc => ?_)
    · have hF := hF.1 hc
      refine aw_iconst (M := M_X12_isTray) (pc := 13) dX12_isTray_13 ⟨by decide, by decide⟩ ?_
      exact aw_iretz (M := M_X12_isTray) (pc := 14) dX12_isTray_14 rfl (Or.inl rfl) ⟨_, rfl, hF⟩
    · have hF := hF.2 hc
      refine aw_iconst (M := M_X12_isTray) (pc := 9) dX12_isTray_9 ⟨by decide, by decide⟩ ?_
      refine aw_goto (tgt := 14) (M := M_X12_isTray) (pc := 10) dX12_isTray_10 rfl ?_
      exact aw_iretz (M := M_X12_isTray) (pc := 14) dX12_isTray_14 rfl (Or.inr rfl) ⟨_, rfl, hF⟩
abbrev M_X12_wrongMinded : Hd := (cX12_wrongMinded, 6, RX12, (some .int), (2, 70), sc0)
def L_X12_wrongMinded_58 (h : Mem) (v2 : Int) (v3 : Int) (v4 : Int) (Q : Int → Mem → Prop) : Prop := AW M_X12_wrongMinded 58 [(0, vr 161), (2, (0, v2)), (3, (0, v3)), (4, (0, v4))] [] h (qi Q)
def B_X12_wrongMinded_58 (h : Mem) (v2 : Int) (v3 : Int) (v4 : Int) (Q : Int → Mem → Prop) : Prop :=
  ((v3 ≤ v4 → Q 0 h) ∧ (¬ (v3 ≤ v4) → (InR (60 * v2) ∧ (InR (2 * v4) ∧ (InR ((60 * v2) + (2 * v4)) ∧ (∀ x14 : Int, x14 = (60 * v2) + (2 * v4) → ((0 ≤ x14 ∧ x14 < 240) ∧ (F_X12_isFrom h (h 166 (x14).toNat) 0 60 (fun r18 h17 => ((r18 = 0 → Q 5 h17) ∧ (¬ (r18 = 0) → (InR (x14 + 1) ∧ ((0 ≤ (x14 + 1) ∧ (x14 + 1) < 240) ∧ (F_X12_isFrom h17 (h17 166 (x14 + 1).toNat) 0 1 (fun r23 h22 => ((¬ (r23 = 0) → (InR (v4 + 1) ∧ L_X12_wrongMinded_58 h22 v2 v3 (v4 + 1) Q)) ∧ (r23 = 0 → Q 5 h22)))))))))))))))))
set_option maxRecDepth 100000 in
set_option maxHeartbeats 4000000 in
theorem l_X12_wrongMinded_58 {h : Mem} {v2 : Int} {v3 : Int} {v4 : Int} {Q : Int → Mem → Prop}  (hF : B_X12_wrongMinded_58 h v2 v3 v4 Q) : L_X12_wrongMinded_58 h v2 v3 v4 Q := by
  unfold B_X12_wrongMinded_58 at hF
  show AW M_X12_wrongMinded 58 [(0, vr 161), (2, (0, v2)), (3, (0, v3)), (4, (0, v4))] [] h (qi Q)
  refine aw_iload (j := 3) (M := M_X12_wrongMinded) (pc := 58) dX12_wrongMinded_58  rfl ?_
  refine aw_iload_n (j := 2) (M := M_X12_wrongMinded) (pc := 60) dX12_wrongMinded_60 rfl rfl ?_
  refine aw_icmp_ge (tgt := 117) (M := M_X12_wrongMinded) (pc := 61) dX12_wrongMinded_61 rfl (fun hc => ?_) (fun hc => ?_)
  · have hF := hF.1 hc
    refine aw_iconst (M := M_X12_wrongMinded) (pc := 117) dX12_wrongMinded_117 ⟨by decide, by decide⟩ ?_
    exact aw_ireti (M := M_X12_wrongMinded) (pc := 118) dX12_wrongMinded_118 rfl ⟨_, rfl, hF⟩
  · have hF := hF.2 hc
    refine aw_bipush (M := M_X12_wrongMinded) (pc := 64) dX12_wrongMinded_64 ⟨rfl, ⟨by decide, by decide⟩⟩ ?_
    refine aw_iload_n (j := 1) (M := M_X12_wrongMinded) (pc := 66) dX12_wrongMinded_66 rfl rfl ?_
    obtain ⟨o11, hF⟩ := hF
    refine aw_imul (M := M_X12_wrongMinded) (pc := 67) dX12_wrongMinded_67 rfl o11 ?_
    refine aw_iconst (M := M_X12_wrongMinded) (pc := 68) dX12_wrongMinded_68 ⟨by decide, by decide⟩ ?_
    refine aw_iload (j := 3) (M := M_X12_wrongMinded) (pc := 69) dX12_wrongMinded_69  rfl ?_
    obtain ⟨o12, hF⟩ := hF
    refine aw_imul (M := M_X12_wrongMinded) (pc := 71) dX12_wrongMinded_71 rfl o12 ?_
    obtain ⟨o13, hF⟩ := hF
    refine aw_iadd (M := M_X12_wrongMinded) (pc := 72) dX12_wrongMinded_72 rfl o13 ?_
    obtain ⟨x14, ex14⟩ : ∃ y : Int, y = (60 * v2) + (2 * v4) := ⟨_, rfl⟩
    have hF := hF x14 ex14
    rw [← ex14]
    refine aw_istore (ls' := [(5, (0, x14)), (0, vr 161), (2, (0, v2)), (3, (0, v3)), (4, (0, v4))]) (M := M_X12_wrongMinded) (pc := 73) dX12_wrongMinded_73  (by decide) rfl ?_
    refine aw_aload_n (j := 1) (M := M_X12_wrongMinded) (pc := 75) dX12_wrongMinded_75 rfl rfl ?_
    refine gf_X12_27 (M := M_X12_wrongMinded) (pc := 76) rfl dX12_wrongMinded_76 rfl (r := 166) rfl ?_
    refine aw_iload (j := 0) (M := M_X12_wrongMinded) (pc := 79) dX12_wrongMinded_79  rfl ?_
    obtain ⟨o16, hF⟩ := hF
    refine aw_lald (k := (x14).toNat) (M := M_X12_wrongMinded) (pc := 81) dX12_wrongMinded_81 rfl o16 rfl ?_
    refine aw_lconst (v := 0) (M := M_X12_wrongMinded) (pc := 82) dX12_wrongMinded_82 ⟨rfl, ⟨by decide, by decide⟩⟩ ?_
    refine aw_ldc2 (v := 60) (M := M_X12_wrongMinded) (pc := 83) dX12_wrongMinded_83 kl_X12_371 ⟨by decide, by decide⟩ ?_
    refine aw_csi (as := [(1, h 166 (x14).toNat), (1, 0), (1, 60)]) (st := []) (M := M_X12_wrongMinded) (pc := 86) (f_X12_isFrom  hF) dX12_wrongMinded_86 rfl cy_X12_isFrom ml_X12_316 (by decide) (by decide) (Nat.le_of_ble_eq_true rfl) (fun r18 h17 hF => ?_)
    refine aw_if_eq (tgt := 109) (M := M_X12_wrongMinded) (pc := 89) dX12_wrongMinded_89 rfl (fun hc => ?_) (fun hc => ?_)
    · have hF := hF.1 hc
      refine aw_iconst (M := M_X12_wrongMinded) (pc := 109) dX12_wrongMinded_109 ⟨by decide, by decide⟩ ?_
      exact aw_ireti (M := M_X12_wrongMinded) (pc := 110) dX12_wrongMinded_110 rfl ⟨_, rfl, hF⟩
    · have hF := hF.2 hc
      refine aw_aload_n (j := 1) (M := M_X12_wrongMinded) (pc := 92) dX12_wrongMinded_92 rfl rfl ?_
      refine gf_X12_27 (M := M_X12_wrongMinded) (pc := 93) rfl dX12_wrongMinded_93 rfl (r := 166) rfl ?_
      refine aw_iload (j := 0) (M := M_X12_wrongMinded) (pc := 96) dX12_wrongMinded_96  rfl ?_
      refine aw_iconst (M := M_X12_wrongMinded) (pc := 98) dX12_wrongMinded_98 ⟨by decide, by decide⟩ ?_
      obtain ⟨o19, hF⟩ := hF
      refine aw_iadd (M := M_X12_wrongMinded) (pc := 99) dX12_wrongMinded_99 rfl o19 ?_
      obtain ⟨o21, hF⟩ := hF
      refine aw_lald (k := (x14 + 1).toNat) (M := M_X12_wrongMinded) (pc := 100) dX12_wrongMinded_100 rfl o21 rfl ?_
      refine aw_lconst (v := 0) (M := M_X12_wrongMinded) (pc := 101) dX12_wrongMinded_101 ⟨rfl, ⟨by decide, by decide⟩⟩ ?_
      refine aw_lconst (v := 1) (M := M_X12_wrongMinded) (pc := 102) dX12_wrongMinded_102 ⟨rfl, ⟨by decide, by decide⟩⟩ ?_
      refine aw_csi (as := [(1, h17 166 (x14 + 1).toNat), (1, 0), (1, 1)]) (st := []) (M := M_X12_wrongMinded) (pc := 103) (f_X12_isFrom  hF) dX12_wrongMinded_103 rfl cy_X12_isFrom ml_X12_316 (by decide) (by decide) (Nat.le_of_ble_eq_true rfl) (fun r23 h22 hF => ?_)
      refine aw_if_ne (tgt := 111) (M := M_X12_wrongMinded) (pc := 106) dX12_wrongMinded_106 rfl (fun hc => ?_) (fun hc => ?_)
      · have hF := hF.1 hc
        obtain ⟨o24, hF⟩ := hF
        refine aw_iinc (j := 4) (x := v4) (r := v4 + 1) (ls' := [(4, (0, v4 + 1)), (5, (0, x14)), (0, vr 161), (2, (0, v2)), (3, (0, v3))]) (M := M_X12_wrongMinded) (pc := 111) dX12_wrongMinded_111 rfl rfl o24 (by decide) rfl ?_
        refine aw_goto (tgt := 58) (M := M_X12_wrongMinded) (pc := 114) dX12_wrongMinded_114 rfl ?_
        exact aw_ls [2, 3, 4, 0] rfl hF
      · have hF := hF.2 hc
        refine aw_iconst (M := M_X12_wrongMinded) (pc := 109) dX12_wrongMinded_109 ⟨by decide, by decide⟩ ?_
        exact aw_ireti (M := M_X12_wrongMinded) (pc := 110) dX12_wrongMinded_110 rfl ⟨_, rfl, hF⟩
def F_X12_wrongMinded (h : Mem) (a1 : Int) (a2 : Int) (a3 : Int) (Q : Int → Mem → Prop) : Prop :=
  (F_X12_isThing h a1 (fun r2 h1 => ((r2 = 0 → Q 1 h1) ∧ (¬ (r2 = 0) → (F_X12_isTray h1 a2 (fun r4 h3 => ((r4 = 0 → Q 1 h3) ∧ (¬ (r4 = 0) → (F_X12_isFrom h3 a3 0 20 (fun r6 h5 => ((¬ (r6 = 0) → ((0 ≤ a2 ∧ a2 < 4) ∧ ((¬ ((h5 165 (a2).toNat) = (-1)) → (InR (2 * a3) ∧ (((2 * a3) ≤ (h5 165 (a2).toNat) → L_X12_wrongMinded_58 h5 a2 a3 0 Q) ∧ (¬ ((2 * a3) ≤ (h5 165 (a2).toNat)) → Q 3 h5)))) ∧ ((h5 165 (a2).toNat) = (-1) → Q 2 h5)))) ∧ (r6 = 0 → Q 1 h5))))))))))))
set_option maxRecDepth 100000 in
set_option maxHeartbeats 4000000 in
theorem f_X12_wrongMinded {h : Mem} {a1 : Int} {a2 : Int} {a3 : Int} {Q : Int → Mem → Prop}  (hF : F_X12_wrongMinded h a1 a2 a3 Q) : Ct yX12_wrongMinded cX12_wrongMinded 6 (some .int) (2, 70) [vr 161, (0, a1), (0, a2), (0, a3)] h (qi Q) := by
  refine Ct.of np_RX12 (Nat.le_of_ble_eq_true rfl) ?_
  unfold F_X12_wrongMinded at hF
  show AW M_X12_wrongMinded 0 [(0, vr 161), (1, (0, a1)), (2, (0, a2)), (3, (0, a3))] [] h (qi Q)
  refine aw_aload_n (j := 0) (M := M_X12_wrongMinded) (pc := 0) dX12_wrongMinded_0 rfl rfl ?_
  refine aw_iload_n (j := 1) (M := M_X12_wrongMinded) (pc := 1) dX12_wrongMinded_1 rfl rfl ?_
  refine aw_cvi (as := [(0, a1)]) (st := []) (M := M_X12_wrongMinded) (pc := 2) (f_X12_isThing  hF) dX12_wrongMinded_2 rfl (Or.inl ⟨_, _, _, rfl, rfl⟩) cy_X12_isThing ml_X12_284 (by decide) (by decide) (Nat.le_of_ble_eq_true rfl) (fun r2 h1 hF => ?_)
  refine aw_if_eq (tgt := 27) (M := M_X12_wrongMinded) (pc := 5) dX12_wrongMinded_5 rfl (fun hc => ?_) (fun hc => ?_)
  · have hF := hF.1 hc
    refine aw_iconst (M := M_X12_wrongMinded) (pc := 27) dX12_wrongMinded_27 ⟨by decide, by decide⟩ ?_
    exact aw_ireti (M := M_X12_wrongMinded) (pc := 28) dX12_wrongMinded_28 rfl ⟨_, rfl, hF⟩
  · have hF := hF.2 hc
    refine aw_iload_n (j := 2) (M := M_X12_wrongMinded) (pc := 8) dX12_wrongMinded_8 rfl rfl ?_
    refine aw_csi (as := [(0, a2)]) (st := []) (M := M_X12_wrongMinded) (pc := 9) (f_X12_isTray  hF) dX12_wrongMinded_9 rfl cy_X12_isTray ml_X12_102 (by decide) (by decide) (Nat.le_of_ble_eq_true rfl) (fun r4 h3 hF => ?_)
    refine aw_if_eq (tgt := 27) (M := M_X12_wrongMinded) (pc := 12) dX12_wrongMinded_12 rfl (fun hc => ?_) (fun hc => ?_)
    · have hF := hF.1 hc
      refine aw_iconst (M := M_X12_wrongMinded) (pc := 27) dX12_wrongMinded_27 ⟨by decide, by decide⟩ ?_
      exact aw_ireti (M := M_X12_wrongMinded) (pc := 28) dX12_wrongMinded_28 rfl ⟨_, rfl, hF⟩
    · have hF := hF.2 hc
      refine aw_iload_n (j := 3) (M := M_X12_wrongMinded) (pc := 15) dX12_wrongMinded_15 rfl rfl ?_
      refine aw_i2l (M := M_X12_wrongMinded) (pc := 16) dX12_wrongMinded_16 ?_
      refine aw_lconst (v := 0) (M := M_X12_wrongMinded) (pc := 17) dX12_wrongMinded_17 ⟨rfl, ⟨by decide, by decide⟩⟩ ?_
      refine aw_ldc2 (v := 20) (M := M_X12_wrongMinded) (pc := 18) dX12_wrongMinded_18 kl_X12_393 ⟨by decide, by decide⟩ ?_
      refine aw_csi (as := [(1, a3), (1, 0), (1, 20)]) (st := []) (M := M_X12_wrongMinded) (pc := 21) (f_X12_isFrom  hF) dX12_wrongMinded_21 rfl cy_X12_isFrom ml_X12_316 (by decide) (by decide) (Nat.le_of_ble_eq_true rfl) (fun r6 h5 hF => ?_)
      refine aw_if_ne (tgt := 29) (M := M_X12_wrongMinded) (pc := 24) dX12_wrongMinded_24 rfl (fun hc => ?_) (fun hc => ?_)
      · have hF := hF.1 hc
        refine aw_aload_n (j := 0) (M := M_X12_wrongMinded) (pc := 29) dX12_wrongMinded_29 rfl rfl ?_
        refine gf_X12_24 (M := M_X12_wrongMinded) (pc := 30) rfl dX12_wrongMinded_30 rfl (r := 165) rfl ?_
        refine aw_iload_n (j := 2) (M := M_X12_wrongMinded) (pc := 33) dX12_wrongMinded_33 rfl rfl ?_
        obtain ⟨o8, hF⟩ := hF
        refine aw_iald (k := (a2).toNat) (M := M_X12_wrongMinded) (pc := 34) dX12_wrongMinded_34 rfl o8 rfl ?_
        refine aw_iconst (M := M_X12_wrongMinded) (pc := 35) dX12_wrongMinded_35 ⟨by decide, by decide⟩ ?_
        refine aw_icmp_ne (tgt := 41) (M := M_X12_wrongMinded) (pc := 36) dX12_wrongMinded_36 rfl (fun hc => ?_) (fun hc => ?_)
        · have hF := hF.1 hc
          refine aw_aload_n (j := 0) (M := M_X12_wrongMinded) (pc := 41) dX12_wrongMinded_41 rfl rfl ?_
          refine gf_X12_24 (M := M_X12_wrongMinded) (pc := 42) rfl dX12_wrongMinded_42 rfl (r := 165) rfl ?_
          refine aw_iload_n (j := 2) (M := M_X12_wrongMinded) (pc := 45) dX12_wrongMinded_45 rfl rfl ?_
          refine aw_iald (k := (a2).toNat) (M := M_X12_wrongMinded) (pc := 46) dX12_wrongMinded_46 rfl o8 rfl ?_
          refine aw_iconst (M := M_X12_wrongMinded) (pc := 47) dX12_wrongMinded_47 ⟨by decide, by decide⟩ ?_
          refine aw_iload_n (j := 3) (M := M_X12_wrongMinded) (pc := 48) dX12_wrongMinded_48 rfl rfl ?_
          obtain ⟨o10, hF⟩ := hF
          refine aw_imul (M := M_X12_wrongMinded) (pc := 49) dX12_wrongMinded_49 rfl o10 ?_
          refine aw_icmp_ge (tgt := 55) (M := M_X12_wrongMinded) (pc := 50) dX12_wrongMinded_50 rfl (fun hc => ?_) (fun hc => ?_)
          · have hF := hF.1 hc
            refine aw_iconst (M := M_X12_wrongMinded) (pc := 55) dX12_wrongMinded_55 ⟨by decide, by decide⟩ ?_
            refine aw_istore (ls' := [(4, (0, 0)), (0, vr 161), (1, (0, a1)), (2, (0, a2)), (3, (0, a3))]) (M := M_X12_wrongMinded) (pc := 56) dX12_wrongMinded_56  (by decide) rfl ?_
            exact aw_ls [1, 3, 4, 0] rfl hF
          · have hF := hF.2 hc
            refine aw_iconst (M := M_X12_wrongMinded) (pc := 53) dX12_wrongMinded_53 ⟨by decide, by decide⟩ ?_
            exact aw_ireti (M := M_X12_wrongMinded) (pc := 54) dX12_wrongMinded_54 rfl ⟨_, rfl, hF⟩
        · have hF := hF.2 hc
          refine aw_iconst (M := M_X12_wrongMinded) (pc := 39) dX12_wrongMinded_39 ⟨by decide, by decide⟩ ?_
          exact aw_ireti (M := M_X12_wrongMinded) (pc := 40) dX12_wrongMinded_40 rfl ⟨_, rfl, hF⟩
      · have hF := hF.2 hc
        refine aw_iconst (M := M_X12_wrongMinded) (pc := 27) dX12_wrongMinded_27 ⟨by decide, by decide⟩ ?_
        exact aw_ireti (M := M_X12_wrongMinded) (pc := 28) dX12_wrongMinded_28 rfl ⟨_, rfl, hF⟩
abbrev M_X12_ask : Hd := (cX12_ask, 10, RX12, (some .int), (9, 224), sc0)
def L_X12_ask_54 (h : Mem) (v5 : Int) (v6 : Int) (v7 : Int) (Q : Int → Mem → Prop) : Prop := AW M_X12_ask 54 [(0, vr 161), (5, (0, v5)), (6, (0, v6)), (7, (0, v7))] [] h (qi Q)
def L_X12_ask_67 (h : Mem) (v5 : Int) (v6 : Int) (v7 : Int) (v8 : Int) (v9 : Int) (Q : Int → Mem → Prop) : Prop := AW M_X12_ask 67 [(0, vr 161), (5, (0, v5)), (6, (0, v6)), (7, (0, v7)), (8, (0, v8)), (9, (0, v9))] [] h (qi Q)
def B_X12_ask_54 (h : Mem) (v5 : Int) (v6 : Int) (v7 : Int) (Q : Int → Mem → Prop) : Prop :=
  ((60 < v7 → (F_X12_gives h v5 (fun r10 h9 => Q r10 h9))) ∧ (¬ (60 < v7) → L_X12_ask_67 h v5 v6 v7 0 1 Q))
set_option maxRecDepth 100000 in
set_option maxHeartbeats 4000000 in
theorem l_X12_ask_54 {h : Mem} {v5 : Int} {v6 : Int} {v7 : Int} {Q : Int → Mem → Prop}  (hF : B_X12_ask_54 h v5 v6 v7 Q) : L_X12_ask_54 h v5 v6 v7 Q := by
  unfold B_X12_ask_54 at hF
  show AW M_X12_ask 54 [(0, vr 161), (5, (0, v5)), (6, (0, v6)), (7, (0, v7))] [] h (qi Q)
  refine aw_iload (j := 3) (M := M_X12_ask) (pc := 54) dX12_ask_54  rfl ?_
  refine aw_bipush (M := M_X12_ask) (pc := 56) dX12_ask_56 ⟨rfl, ⟨by decide, by decide⟩⟩ ?_
  refine aw_icmp_gt (tgt := 154) (M := M_X12_ask) (pc := 58) dX12_ask_58 rfl (fun hc => ?_) (fun hc => ?_)
  · have hF := hF.1 hc
    refine aw_aload_n (j := 0) (M := M_X12_ask) (pc := 154) dX12_ask_154 rfl rfl ?_
    refine aw_iload (j := 1) (M := M_X12_ask) (pc := 155) dX12_ask_155  rfl ?_
    refine aw_cvi (as := [(0, v5)]) (st := []) (M := M_X12_ask) (pc := 157) (f_X12_gives  hF) dX12_ask_157 rfl (Or.inl ⟨_, _, _, rfl, rfl⟩) cy_X12_gives ml_X12_95 (by decide) (by decide) (Nat.le_of_ble_eq_true rfl) (fun r10 h9 hF => ?_)
    exact aw_ireti (M := M_X12_ask) (pc := 160) dX12_ask_160 rfl ⟨_, rfl, hF⟩
  · have hF := hF.2 hc
    refine aw_iconst (M := M_X12_ask) (pc := 61) dX12_ask_61 ⟨by decide, by decide⟩ ?_
    refine aw_istore (ls' := [(8, (0, 0)), (0, vr 161), (5, (0, v5)), (6, (0, v6)), (7, (0, v7))]) (M := M_X12_ask) (pc := 62) dX12_ask_62  (by decide) rfl ?_
    refine aw_iconst (M := M_X12_ask) (pc := 64) dX12_ask_64 ⟨by decide, by decide⟩ ?_
    refine aw_istore (ls' := [(9, (0, 1)), (8, (0, 0)), (0, vr 161), (5, (0, v5)), (6, (0, v6)), (7, (0, v7))]) (M := M_X12_ask) (pc := 65) dX12_ask_65  (by decide) rfl ?_
    exact aw_ls [2, 3, 4, 5, 1, 0] rfl hF
def B_X12_ask_67 (h : Mem) (v5 : Int) (v6 : Int) (v7 : Int) (v8 : Int) (v9 : Int) (Q : Int → Mem → Prop) : Prop :=
  ((24 < v9 → (InR ((h 161 30) - v8) ∧ (∀ x12 : Int, x12 = imax v8 ((h 161 30) - v8) → ((x12 < v6 → (InR (v7 + 1) ∧ L_X12_ask_54 h v7 x12 (v7 + 1) Q)) ∧ (¬ (x12 < v6) → (InR (v7 + 1) ∧ L_X12_ask_54 h v5 v6 (v7 + 1) Q)))))) ∧ (¬ (24 < v9) → ((0 ≤ v9 ∧ v9 < 25) ∧ (((h 172 (v9).toNat) = 0 → (InR v8 ∧ (InR (v9 + 1) ∧ L_X12_ask_67 h v5 v6 v7 v8 (v9 + 1) Q))) ∧ (¬ ((h 172 (v9).toNat) = 0) → (InR (61 * v9) ∧ (InR ((61 * v9) + v7) ∧ ((0 ≤ ((61 * v9) + v7) ∧ ((61 * v9) + v7) < 1525) ∧ (((h 173 ((61 * v9) + v7).toNat) = 0 → (InR v8 ∧ (InR (v9 + 1) ∧ L_X12_ask_67 h v5 v6 v7 v8 (v9 + 1) Q))) ∧ (¬ ((h 173 ((61 * v9) + v7).toNat) = 0) → (InR (v8 + 1) ∧ (InR (v9 + 1) ∧ L_X12_ask_67 h v5 v6 v7 (v8 + 1) (v9 + 1) Q))))))))))))
set_option maxRecDepth 100000 in
set_option maxHeartbeats 4000000 in
theorem l_X12_ask_67 {h : Mem} {v5 : Int} {v6 : Int} {v7 : Int} {v8 : Int} {v9 : Int} {Q : Int → Mem → Prop}  (hF : B_X12_ask_67 h v5 v6 v7 v8 v9 Q) : L_X12_ask_67 h v5 v6 v7 v8 v9 Q := by
  unfold B_X12_ask_67 at hF
  show AW M_X12_ask 67 [(0, vr 161), (5, (0, v5)), (6, (0, v6)), (7, (0, v7)), (8, (0, v8)), (9, (0, v9))] [] h (qi Q)
  refine aw_iload (j := 5) (M := M_X12_ask) (pc := 67) dX12_ask_67  rfl ?_
  refine aw_bipush (M := M_X12_ask) (pc := 69) dX12_ask_69 ⟨rfl, ⟨by decide, by decide⟩⟩ ?_
  refine aw_icmp_gt (tgt := 116) (M := M_X12_ask) (pc := 71) dX12_ask_71 rfl (fun hc => ?_) (fun hc => ?_)
  · have hF := hF.1 hc
    refine aw_iload (j := 4) (M := M_X12_ask) (pc := 116) dX12_ask_116  rfl ?_
    refine aw_aload_n (j := 0) (M := M_X12_ask) (pc := 118) dX12_ask_118 rfl rfl ?_
    refine gf_X12_395 (M := M_X12_ask) (pc := 119) rfl dX12_ask_119 rfl ?_
    refine aw_iload (j := 4) (M := M_X12_ask) (pc := 122) dX12_ask_122  rfl ?_
    obtain ⟨o11, hF⟩ := hF
    refine aw_isub (M := M_X12_ask) (pc := 124) dX12_ask_124 rfl o11 ?_
    refine aw_mmax (M := M_X12_ask) (pc := 125) ml_X12_406 dX12_ask_125 (by decide) (Nat.le_of_ble_eq_true rfl) ?_
    obtain ⟨x12, ex12⟩ : ∃ y : Int, y = imax v8 ((h 161 30) - v8) := ⟨_, rfl⟩
    have hF := hF x12 ex12
    rw [← ex12]
    refine aw_istore (ls' := [(9, (0, x12)), (0, vr 161), (5, (0, v5)), (6, (0, v6)), (7, (0, v7)), (8, (0, v8))]) (M := M_X12_ask) (pc := 128) dX12_ask_128  (by decide) rfl ?_
    refine aw_iload (j := 0) (M := M_X12_ask) (pc := 130) dX12_ask_130  rfl ?_
    refine aw_iload (j := 3) (M := M_X12_ask) (pc := 132) dX12_ask_132  rfl ?_
    refine aw_icmp_lt (tgt := 140) (M := M_X12_ask) (pc := 134) dX12_ask_134 rfl (fun hc => ?_) (fun hc => ?_)
    · have hF := hF.1 hc
      refine aw_iload (j := 0) (M := M_X12_ask) (pc := 140) dX12_ask_140  rfl ?_
      refine aw_istore (ls' := [(6, (0, x12)), (9, (0, x12)), (0, vr 161), (5, (0, v5)), (7, (0, v7)), (8, (0, v8))]) (M := M_X12_ask) (pc := 142) dX12_ask_142  (by decide) rfl ?_
      refine aw_iload (j := 4) (M := M_X12_ask) (pc := 144) dX12_ask_144  rfl ?_
      refine aw_istore (ls' := [(5, (0, v7)), (6, (0, x12)), (9, (0, x12)), (0, vr 161), (7, (0, v7)), (8, (0, v8))]) (M := M_X12_ask) (pc := 146) dX12_ask_146  (by decide) rfl ?_
      obtain ⟨o13, hF⟩ := hF
      refine aw_iinc (j := 4) (x := v7) (r := v7 + 1) (ls' := [(7, (0, v7 + 1)), (5, (0, v7)), (6, (0, x12)), (9, (0, x12)), (0, vr 161), (8, (0, v8))]) (M := M_X12_ask) (pc := 148) dX12_ask_148 rfl rfl o13 (by decide) rfl ?_
      refine aw_goto (tgt := 54) (M := M_X12_ask) (pc := 151) dX12_ask_151 rfl ?_
      exact aw_ls [4, 1, 2, 0] rfl hF
    · have hF := hF.2 hc
      refine aw_goto (tgt := 148) (M := M_X12_ask) (pc := 137) dX12_ask_137 rfl ?_
      obtain ⟨o14, hF⟩ := hF
      refine aw_iinc (j := 4) (x := v7) (r := v7 + 1) (ls' := [(7, (0, v7 + 1)), (9, (0, x12)), (0, vr 161), (5, (0, v5)), (6, (0, v6)), (8, (0, v8))]) (M := M_X12_ask) (pc := 148) dX12_ask_148 rfl rfl o14 (by decide) rfl ?_
      refine aw_goto (tgt := 54) (M := M_X12_ask) (pc := 151) dX12_ask_151 rfl ?_
      exact aw_ls [2, 3, 4, 0] rfl hF
  · have hF := hF.2 hc
    refine aw_iload (j := 4) (M := M_X12_ask) (pc := 74) dX12_ask_74  rfl ?_
    refine aw_aload_n (j := 0) (M := M_X12_ask) (pc := 76) dX12_ask_76 rfl rfl ?_
    refine gf_X12_53 (M := M_X12_ask) (pc := 77) rfl dX12_ask_77 rfl (r := 172) rfl ?_
    refine aw_iload (j := 5) (M := M_X12_ask) (pc := 80) dX12_ask_80  rfl ?_
    obtain ⟨o16, hF⟩ := hF
    refine aw_zald (k := (v9).toNat) (M := M_X12_ask) (pc := 82) dX12_ask_82 rfl o16 rfl ?_
    refine aw_if_eq (tgt := 106) (M := M_X12_ask) (pc := 83) dX12_ask_83 rfl (fun hc => ?_) (fun hc => ?_)
    · have hF := hF.1 hc
      refine aw_iconst (M := M_X12_ask) (pc := 106) dX12_ask_106 ⟨by decide, by decide⟩ ?_
      obtain ⟨o17, hF⟩ := hF
      refine aw_iadd (r := v8) (M := M_X12_ask) (pc := 107) dX12_ask_107 (Int.add_zero _) o17 ?_
      refine aw_istore (ls' := [(8, (0, v8)), (0, vr 161), (5, (0, v5)), (6, (0, v6)), (7, (0, v7)), (9, (0, v9))]) (M := M_X12_ask) (pc := 108) dX12_ask_108  (by decide) rfl ?_
      obtain ⟨o18, hF⟩ := hF
      refine aw_iinc (j := 5) (x := v9) (r := v9 + 1) (ls' := [(9, (0, v9 + 1)), (8, (0, v8)), (0, vr 161), (5, (0, v5)), (6, (0, v6)), (7, (0, v7))]) (M := M_X12_ask) (pc := 110) dX12_ask_110 rfl rfl o18 (by decide) rfl ?_
      refine aw_goto (tgt := 67) (M := M_X12_ask) (pc := 113) dX12_ask_113 rfl ?_
      exact aw_ls [2, 3, 4, 5, 1, 0] rfl hF
    · have hF := hF.2 hc
      refine aw_aload_n (j := 0) (M := M_X12_ask) (pc := 86) dX12_ask_86 rfl rfl ?_
      refine gf_X12_57 (M := M_X12_ask) (pc := 87) rfl dX12_ask_87 rfl (r := 173) rfl ?_
      refine aw_bipush (M := M_X12_ask) (pc := 90) dX12_ask_90 ⟨rfl, ⟨by decide, by decide⟩⟩ ?_
      refine aw_iload (j := 5) (M := M_X12_ask) (pc := 92) dX12_ask_92  rfl ?_
      obtain ⟨o19, hF⟩ := hF
      refine aw_imul (M := M_X12_ask) (pc := 94) dX12_ask_94 rfl o19 ?_
      refine aw_iload (j := 3) (M := M_X12_ask) (pc := 95) dX12_ask_95  rfl ?_
      obtain ⟨o20, hF⟩ := hF
      refine aw_iadd (M := M_X12_ask) (pc := 97) dX12_ask_97 rfl o20 ?_
      obtain ⟨o22, hF⟩ := hF
      refine aw_zald (k := ((61 * v9) + v7).toNat) (M := M_X12_ask) (pc := 98) dX12_ask_98 rfl o22 rfl ?_
      refine aw_if_eq (tgt := 106) (M := M_X12_ask) (pc := 99) dX12_ask_99 rfl (fun hc => ?_) (fun hc => ?_)
      · have hF := hF.1 hc
        refine aw_iconst (M := M_X12_ask) (pc := 106) dX12_ask_106 ⟨by decide, by decide⟩ ?_
        obtain ⟨o23, hF⟩ := hF
        refine aw_iadd (r := v8) (M := M_X12_ask) (pc := 107) dX12_ask_107 (Int.add_zero _) o23 ?_
        refine aw_istore (ls' := [(8, (0, v8)), (0, vr 161), (5, (0, v5)), (6, (0, v6)), (7, (0, v7)), (9, (0, v9))]) (M := M_X12_ask) (pc := 108) dX12_ask_108  (by decide) rfl ?_
        obtain ⟨o24, hF⟩ := hF
        refine aw_iinc (j := 5) (x := v9) (r := v9 + 1) (ls' := [(9, (0, v9 + 1)), (8, (0, v8)), (0, vr 161), (5, (0, v5)), (6, (0, v6)), (7, (0, v7))]) (M := M_X12_ask) (pc := 110) dX12_ask_110 rfl rfl o24 (by decide) rfl ?_
        refine aw_goto (tgt := 67) (M := M_X12_ask) (pc := 113) dX12_ask_113 rfl ?_
        exact aw_ls [2, 3, 4, 5, 1, 0] rfl hF
      · have hF := hF.2 hc
        refine aw_iconst (M := M_X12_ask) (pc := 102) dX12_ask_102 ⟨by decide, by decide⟩ ?_
        refine aw_goto (tgt := 107) (M := M_X12_ask) (pc := 103) dX12_ask_103 rfl ?_
        obtain ⟨o25, hF⟩ := hF
        refine aw_iadd (M := M_X12_ask) (pc := 107) dX12_ask_107 rfl o25 ?_
        refine aw_istore (ls' := [(8, (0, v8 + 1)), (0, vr 161), (5, (0, v5)), (6, (0, v6)), (7, (0, v7)), (9, (0, v9))]) (M := M_X12_ask) (pc := 108) dX12_ask_108  (by decide) rfl ?_
        obtain ⟨o26, hF⟩ := hF
        refine aw_iinc (j := 5) (x := v9) (r := v9 + 1) (ls' := [(9, (0, v9 + 1)), (8, (0, v8 + 1)), (0, vr 161), (5, (0, v5)), (6, (0, v6)), (7, (0, v7))]) (M := M_X12_ask) (pc := 110) dX12_ask_110 rfl rfl o26 (by decide) rfl ?_
        refine aw_goto (tgt := 67) (M := M_X12_ask) (pc := 113) dX12_ask_113 rfl ?_
        exact aw_ls [2, 3, 4, 5, 1, 0] rfl hF
def F_X12_ask (h : Mem) (a1 : Int) (a2 : Int) (a3 : Int) (Q : Int → Mem → Prop) : Prop :=
  (F_X12_wrongMinded h a1 a2 a3 (fun r2 h1 => ((r2 ≤ 0 → (F_X12_laysMinds h1 a1 a2 a3 (fun h3 => ((2 ≤ (h3 161 30) → L_X12_ask_54 h3 (-1) 1000000 0 Q) ∧ (¬ (2 ≤ (h3 161 30)) → (F_X12_refuse h3 6 (fun r6 h5 => Q r6 h5))))))) ∧ (¬ (r2 ≤ 0) → (F_X12_refuse h1 r2 (fun r8 h7 => Q r8 h7))))))
set_option maxRecDepth 100000 in
set_option maxHeartbeats 4000000 in
theorem f_X12_ask {h : Mem} {a1 : Int} {a2 : Int} {a3 : Int} {Q : Int → Mem → Prop}  (hF : F_X12_ask h a1 a2 a3 Q) : Ct yX12_ask cX12_ask 10 (some .int) (9, 224) [vr 161, (0, a1), (0, a2), (0, a3)] h (qi Q) := by
  refine Ct.of np_RX12 (Nat.le_of_ble_eq_true rfl) ?_
  unfold F_X12_ask at hF
  show AW M_X12_ask 0 [(0, vr 161), (1, (0, a1)), (2, (0, a2)), (3, (0, a3))] [] h (qi Q)
  refine aw_aload_n (j := 0) (M := M_X12_ask) (pc := 0) dX12_ask_0 rfl rfl ?_
  refine aw_iload_n (j := 1) (M := M_X12_ask) (pc := 1) dX12_ask_1 rfl rfl ?_
  refine aw_iload_n (j := 2) (M := M_X12_ask) (pc := 2) dX12_ask_2 rfl rfl ?_
  refine aw_iload_n (j := 3) (M := M_X12_ask) (pc := 3) dX12_ask_3 rfl rfl ?_
  refine aw_cvi (as := [(0, a1), (0, a2), (0, a3)]) (st := []) (M := M_X12_ask) (pc := 4) (f_X12_wrongMinded  hF) dX12_ask_4 rfl (Or.inl ⟨_, _, _, rfl, rfl⟩) cy_X12_wrongMinded ml_X12_398 (by decide) (by decide) (Nat.le_of_ble_eq_true rfl) (fun r2 h1 hF => ?_)
  refine aw_istore (ls' := [(4, (0, r2)), (0, vr 161), (1, (0, a1)), (2, (0, a2)), (3, (0, a3))]) (M := M_X12_ask) (pc := 7) dX12_ask_7  (by decide) rfl ?_
  refine aw_iload (j := 0) (M := M_X12_ask) (pc := 9) dX12_ask_9  rfl ?_
  refine aw_if_le (tgt := 21) (M := M_X12_ask) (pc := 11) dX12_ask_11 rfl (fun hc => ?_) (fun hc => ?_)
  · have hF := hF.1 hc
    refine aw_aload_n (j := 1) (M := M_X12_ask) (pc := 21) dX12_ask_21 rfl rfl ?_
    refine aw_iload_n (j := 2) (M := M_X12_ask) (pc := 22) dX12_ask_22 rfl rfl ?_
    refine aw_iload_n (j := 3) (M := M_X12_ask) (pc := 23) dX12_ask_23 rfl rfl ?_
    refine aw_iload_n (j := 4) (M := M_X12_ask) (pc := 24) dX12_ask_24 rfl rfl ?_
    refine aw_cvv (as := [(0, a1), (0, a2), (0, a3)]) (st := []) (M := M_X12_ask) (pc := 25) (f_X12_laysMinds  hF) dX12_ask_25 rfl (Or.inl ⟨_, _, _, rfl, rfl⟩) cy_X12_laysMinds ml_X12_402 (by decide) (by decide) (Nat.le_of_ble_eq_true rfl) (fun h3 hF => ?_)
    refine aw_aload_n (j := 1) (M := M_X12_ask) (pc := 28) dX12_ask_28 rfl rfl ?_
    refine gf_X12_395 (M := M_X12_ask) (pc := 29) rfl dX12_ask_29 rfl ?_
    refine aw_iconst (M := M_X12_ask) (pc := 32) dX12_ask_32 ⟨by decide, by decide⟩ ?_
    refine aw_icmp_ge (tgt := 43) (M := M_X12_ask) (pc := 33) dX12_ask_33 rfl (fun hc => ?_) (fun hc => ?_)
    · have hF := hF.1 hc
      refine aw_iconst (M := M_X12_ask) (pc := 43) dX12_ask_43 ⟨by decide, by decide⟩ ?_
      refine aw_istore (ls' := [(5, (0, (-1))), (4, (0, r2)), (0, vr 161), (1, (0, a1)), (2, (0, a2)), (3, (0, a3))]) (M := M_X12_ask) (pc := 44) dX12_ask_44  (by decide) rfl ?_
      refine aw_ldcw (v := 1000000) (M := M_X12_ask) (pc := 46) dX12_ask_46 kc_X12_373 ⟨by decide, by decide⟩ ?_
      refine aw_istore (ls' := [(6, (0, 1000000)), (5, (0, (-1))), (4, (0, r2)), (0, vr 161), (1, (0, a1)), (2, (0, a2)), (3, (0, a3))]) (M := M_X12_ask) (pc := 49) dX12_ask_49  (by decide) rfl ?_
      refine aw_iconst (M := M_X12_ask) (pc := 51) dX12_ask_51 ⟨by decide, by decide⟩ ?_
      refine aw_istore (ls' := [(7, (0, 0)), (6, (0, 1000000)), (5, (0, (-1))), (4, (0, r2)), (0, vr 161), (1, (0, a1)), (2, (0, a2)), (3, (0, a3))]) (M := M_X12_ask) (pc := 52) dX12_ask_52  (by decide) rfl ?_
      exact aw_ls [4, 2, 1, 0] rfl hF
    · have hF := hF.2 hc
      refine aw_aload_n (j := 1) (M := M_X12_ask) (pc := 36) dX12_ask_36 rfl rfl ?_
      refine aw_bipush (M := M_X12_ask) (pc := 37) dX12_ask_37 ⟨rfl, ⟨by decide, by decide⟩⟩ ?_
      refine aw_cvi (as := [(0, 6)]) (st := []) (M := M_X12_ask) (pc := 39) (f_X12_refuse  hF) dX12_ask_39 rfl (Or.inl ⟨_, _, _, rfl, rfl⟩) cy_X12_refuse ml_X12_91 (by decide) (by decide) (Nat.le_of_ble_eq_true rfl) (fun r6 h5 hF => ?_)
      exact aw_ireti (M := M_X12_ask) (pc := 42) dX12_ask_42 rfl ⟨_, rfl, hF⟩
  · have hF := hF.2 hc
    refine aw_aload_n (j := 1) (M := M_X12_ask) (pc := 14) dX12_ask_14 rfl rfl ?_
    refine aw_iload (j := 0) (M := M_X12_ask) (pc := 15) dX12_ask_15  rfl ?_
    refine aw_cvi (as := [(0, r2)]) (st := []) (M := M_X12_ask) (pc := 17) (f_X12_refuse  hF) dX12_ask_17 rfl (Or.inl ⟨_, _, _, rfl, rfl⟩) cy_X12_refuse ml_X12_91 (by decide) (by decide) (Nat.le_of_ble_eq_true rfl) (fun r8 h7 hF => ?_)
    exact aw_ireti (M := M_X12_ask) (pc := 20) dX12_ask_20 rfl ⟨_, rfl, hF⟩
abbrev M_X12_hoursGo : Hd := (cX12_hoursGo, 4, RX12, (some .int), (8, 197), sc0)
def L_X12_hoursGo_4 (h : Mem) (v1 : Int) (v2 : Int) (v3 : Int) (Q : Int → Mem → Prop) : Prop := AW M_X12_hoursGo 4 [(0, vr 161), (1, (0, v1)), (2, (0, v2)), (3, (0, v3))] [] h (qi Q)
def B_X12_hoursGo_4 (h : Mem) (v1 : Int) (v2 : Int) (v3 : Int) (Q : Int → Mem → Prop) : Prop :=
  ((v1 ≤ v3 → Q v2 h) ∧ (¬ (v1 ≤ v3) → (F_X12_hourGoes h  (fun r2 h1 => ((r2 = 0 → (InR v2 ∧ (InR (v3 + 1) ∧ L_X12_hoursGo_4 h1 v1 v2 (v3 + 1) Q))) ∧ (¬ (r2 = 0) → (InR (v2 + 1) ∧ (InR (v3 + 1) ∧ L_X12_hoursGo_4 h1 v1 (v2 + 1) (v3 + 1) Q))))))))
set_option maxRecDepth 100000 in
set_option maxHeartbeats 4000000 in
theorem l_X12_hoursGo_4 {h : Mem} {v1 : Int} {v2 : Int} {v3 : Int} {Q : Int → Mem → Prop}  (hF : B_X12_hoursGo_4 h v1 v2 v3 Q) : L_X12_hoursGo_4 h v1 v2 v3 Q := by
  unfold B_X12_hoursGo_4 at hF
  show AW M_X12_hoursGo 4 [(0, vr 161), (1, (0, v1)), (2, (0, v2)), (3, (0, v3))] [] h (qi Q)
  refine aw_iload_n (j := 3) (M := M_X12_hoursGo) (pc := 4) dX12_hoursGo_4 rfl rfl ?_
  refine aw_iload_n (j := 1) (M := M_X12_hoursGo) (pc := 5) dX12_hoursGo_5 rfl rfl ?_
  refine aw_icmp_ge (tgt := 30) (M := M_X12_hoursGo) (pc := 6) dX12_hoursGo_6 rfl (fun hc => ?_) (fun hc => ?_)
  · have hF := hF.1 hc
    refine aw_iload_n (j := 2) (M := M_X12_hoursGo) (pc := 30) dX12_hoursGo_30 rfl rfl ?_
    exact aw_ireti (M := M_X12_hoursGo) (pc := 31) dX12_hoursGo_31 rfl ⟨_, rfl, hF⟩
  · have hF := hF.2 hc
    refine aw_iload_n (j := 2) (M := M_X12_hoursGo) (pc := 9) dX12_hoursGo_9 rfl rfl ?_
    refine aw_aload_n (j := 0) (M := M_X12_hoursGo) (pc := 10) dX12_hoursGo_10 rfl rfl ?_
    refine aw_cvi (as := []) (st := [(0, v2)]) (M := M_X12_hoursGo) (pc := 11) (f_X12_hourGoes  hF) dX12_hoursGo_11 rfl (Or.inl ⟨_, _, _, rfl, rfl⟩) cy_X12_hourGoes ml_X12_311 (by decide) (by decide) (Nat.le_of_ble_eq_true rfl) (fun r2 h1 hF => ?_)
    refine aw_if_eq (tgt := 21) (M := M_X12_hoursGo) (pc := 14) dX12_hoursGo_14 rfl (fun hc => ?_) (fun hc => ?_)
    · have hF := hF.1 hc
      refine aw_iconst (M := M_X12_hoursGo) (pc := 21) dX12_hoursGo_21 ⟨by decide, by decide⟩ ?_
      obtain ⟨o3, hF⟩ := hF
      refine aw_iadd (r := v2) (M := M_X12_hoursGo) (pc := 22) dX12_hoursGo_22 (Int.add_zero _) o3 ?_
      refine aw_istore_n (ls' := [(2, (0, v2)), (0, vr 161), (1, (0, v1)), (3, (0, v3))]) (M := M_X12_hoursGo) (pc := 23) dX12_hoursGo_23 rfl (by decide) rfl ?_
      obtain ⟨o4, hF⟩ := hF
      refine aw_iinc (j := 3) (x := v3) (r := v3 + 1) (ls' := [(3, (0, v3 + 1)), (2, (0, v2)), (0, vr 161), (1, (0, v1))]) (M := M_X12_hoursGo) (pc := 24) dX12_hoursGo_24 rfl rfl o4 (by decide) rfl ?_
      refine aw_goto (tgt := 4) (M := M_X12_hoursGo) (pc := 27) dX12_hoursGo_27 rfl ?_
      exact aw_ls [2, 3, 1, 0] rfl hF
    · have hF := hF.2 hc
      refine aw_iconst (M := M_X12_hoursGo) (pc := 17) dX12_hoursGo_17 ⟨by decide, by decide⟩ ?_
      refine aw_goto (tgt := 22) (M := M_X12_hoursGo) (pc := 18) dX12_hoursGo_18 rfl ?_
      obtain ⟨o5, hF⟩ := hF
      refine aw_iadd (M := M_X12_hoursGo) (pc := 22) dX12_hoursGo_22 rfl o5 ?_
      refine aw_istore_n (ls' := [(2, (0, v2 + 1)), (0, vr 161), (1, (0, v1)), (3, (0, v3))]) (M := M_X12_hoursGo) (pc := 23) dX12_hoursGo_23 rfl (by decide) rfl ?_
      obtain ⟨o6, hF⟩ := hF
      refine aw_iinc (j := 3) (x := v3) (r := v3 + 1) (ls' := [(3, (0, v3 + 1)), (2, (0, v2 + 1)), (0, vr 161), (1, (0, v1))]) (M := M_X12_hoursGo) (pc := 24) dX12_hoursGo_24 rfl rfl o6 (by decide) rfl ?_
      refine aw_goto (tgt := 4) (M := M_X12_hoursGo) (pc := 27) dX12_hoursGo_27 rfl ?_
      exact aw_ls [2, 3, 1, 0] rfl hF
def F_X12_hoursGo (h : Mem) (a1 : Int) (Q : Int → Mem → Prop) : Prop :=
  L_X12_hoursGo_4 h a1 0 0 Q
set_option maxRecDepth 100000 in
set_option maxHeartbeats 4000000 in
theorem f_X12_hoursGo {h : Mem} {a1 : Int} {Q : Int → Mem → Prop}  (hF : F_X12_hoursGo h a1 Q) : Ct yX12_hoursGo cX12_hoursGo 4 (some .int) (8, 197) [vr 161, (0, a1)] h (qi Q) := by
  refine Ct.of np_RX12 (Nat.le_of_ble_eq_true rfl) ?_
  unfold F_X12_hoursGo at hF
  show AW M_X12_hoursGo 0 [(0, vr 161), (1, (0, a1))] [] h (qi Q)
  refine aw_iconst (M := M_X12_hoursGo) (pc := 0) dX12_hoursGo_0 ⟨by decide, by decide⟩ ?_
  refine aw_istore_n (ls' := [(2, (0, 0)), (0, vr 161), (1, (0, a1))]) (M := M_X12_hoursGo) (pc := 1) dX12_hoursGo_1 rfl (by decide) rfl ?_
  refine aw_iconst (M := M_X12_hoursGo) (pc := 2) dX12_hoursGo_2 ⟨by decide, by decide⟩ ?_
  refine aw_istore_n (ls' := [(3, (0, 0)), (2, (0, 0)), (0, vr 161), (1, (0, a1))]) (M := M_X12_hoursGo) (pc := 3) dX12_hoursGo_3 rfl (by decide) rfl ?_
  exact aw_ls [2, 3, 1, 0] rfl hF
abbrev M_X12_isSpan : Hd := (cX12_isSpan, 1, RX12, (some .boolean), (2, 70), sc0)
def F_X12_isSpan (h : Mem) (a1 : Int) (Q : Int → Mem → Prop) : Prop :=
  (F_X12_isFrom h a1 0 400 (fun r2 h1 => (InZ r2 ∧ Q r2 h1)))
set_option maxRecDepth 100000 in
set_option maxHeartbeats 4000000 in
theorem f_X12_isSpan {h : Mem} {a1 : Int} {Q : Int → Mem → Prop}  (hF : F_X12_isSpan h a1 Q) : Ct yX12_isSpan cX12_isSpan 1 (some .boolean) (2, 70) [(0, a1)] h (qi Q) := by
  refine Ct.of np_RX12 (Nat.le_of_ble_eq_true rfl) ?_
  unfold F_X12_isSpan at hF
  show AW M_X12_isSpan 0 [(0, (0, a1))] [] h (qi Q)
  refine aw_iload_n (j := 0) (M := M_X12_isSpan) (pc := 0) dX12_isSpan_0 rfl rfl ?_
  refine aw_i2l (M := M_X12_isSpan) (pc := 1) dX12_isSpan_1 ?_
  refine aw_lconst (v := 0) (M := M_X12_isSpan) (pc := 2) dX12_isSpan_2 ⟨rfl, ⟨by decide, by decide⟩⟩ ?_
  refine aw_ldc2 (v := 400) (M := M_X12_isSpan) (pc := 3) dX12_isSpan_3 kl_X12_345 ⟨by decide, by decide⟩ ?_
  refine aw_csi (as := [(1, a1), (1, 0), (1, 400)]) (st := []) (M := M_X12_isSpan) (pc := 6) (f_X12_isFrom  hF) dX12_isSpan_6 rfl cy_X12_isFrom ml_X12_316 (by decide) (by decide) (Nat.le_of_ble_eq_true rfl) (fun r2 h1 hF => ?_)
  exact aw_iretz (M := M_X12_isSpan) (pc := 9) dX12_isSpan_9 rfl hF.1 ⟨_, rfl, hF.2⟩
abbrev M_X12_atIn : Hd := (cX12_atIn, 3, RX12, (some .int), (9, 220), sc0)
def F_X12_atIn (h : Mem) (a1 : Int) (Q : Int → Mem → Prop) : Prop :=
  (F_X12_isSpan h a1 (fun r2 h1 => ((¬ (r2 = 0) → (F_X12_keeps h1 2688 (fun h3 => (F_X12_hoursGo h3 a1 (fun r6 h5 => (F_X12_restores h5 2688 (fun h8 => (F_X12_gives h8 (h5 162 6) (fun r11 h10 => Q r11 h10))))))))) ∧ (r2 = 0 → (F_X12_refuse h1 1 (fun r13 h12 => Q r13 h12))))))
set_option maxRecDepth 100000 in
set_option maxHeartbeats 4000000 in
theorem f_X12_atIn {h : Mem} {a1 : Int} {Q : Int → Mem → Prop}  (hF : F_X12_atIn h a1 Q) : Ct yX12_atIn cX12_atIn 3 (some .int) (9, 220) [vr 161, (0, a1)] h (qi Q) := by
  refine Ct.of np_RX12 (Nat.le_of_ble_eq_true rfl) ?_
  unfold F_X12_atIn at hF
  show AW M_X12_atIn 0 [(0, vr 161), (1, (0, a1))] [] h (qi Q)
  refine aw_iload_n (j := 1) (M := M_X12_atIn) (pc := 0) dX12_atIn_0 rfl rfl ?_
  refine aw_csi (as := [(0, a1)]) (st := []) (M := M_X12_atIn) (pc := 1) (f_X12_isSpan  hF) dX12_atIn_1 rfl cy_X12_isSpan ml_X12_347 (by decide) (by decide) (Nat.le_of_ble_eq_true rfl) (fun r2 h1 hF => ?_)
  refine aw_if_ne (tgt := 13) (M := M_X12_atIn) (pc := 4) dX12_atIn_4 rfl (fun hc => ?_) (fun hc => ?_)
  · have hF := hF.1 hc
    refine aw_aload_n (j := 0) (M := M_X12_atIn) (pc := 13) dX12_atIn_13 rfl rfl ?_
    refine aw_sipush (M := M_X12_atIn) (pc := 14) dX12_atIn_14 ⟨rfl, ⟨by decide, by decide⟩⟩ ?_
    refine aw_cvv (as := [(0, 2688)]) (st := []) (M := M_X12_atIn) (pc := 17) (f_X12_keeps  hF) dX12_atIn_17 rfl (Or.inl ⟨_, _, _, rfl, rfl⟩) cy_X12_keeps ml_X12_350 (by decide) (by decide) (Nat.le_of_ble_eq_true rfl) (fun h3 hF => ?_)
    refine aw_aload_n (j := 0) (M := M_X12_atIn) (pc := 20) dX12_atIn_20 rfl rfl ?_
    refine aw_iload_n (j := 1) (M := M_X12_atIn) (pc := 21) dX12_atIn_21 rfl rfl ?_
    refine aw_cvi (as := [(0, a1)]) (st := []) (M := M_X12_atIn) (pc := 22) (f_X12_hoursGo  hF) dX12_atIn_22 rfl (Or.inl ⟨_, _, _, rfl, rfl⟩) cy_X12_hoursGo ml_X12_320 (by decide) (by decide) (Nat.le_of_ble_eq_true rfl) (fun r6 h5 hF => ?_)
    refine aw_pop (M := M_X12_atIn) (pc := 25) dX12_atIn_25 rfl ?_
    refine aw_aload_n (j := 0) (M := M_X12_atIn) (pc := 26) dX12_atIn_26 rfl rfl ?_
    refine gf_X12_7 (M := M_X12_atIn) (pc := 27) rfl dX12_atIn_27 rfl (r := 162) rfl ?_
    refine aw_bipush (M := M_X12_atIn) (pc := 30) dX12_atIn_30 ⟨rfl, ⟨by decide, by decide⟩⟩ ?_
    refine aw_iald (k := 6) (M := M_X12_atIn) (pc := 32) dX12_atIn_32 rfl ⟨by decide, by decide⟩ rfl ?_
    refine aw_istore_n (ls' := [(2, (0, h5 162 6)), (0, vr 161), (1, (0, a1))]) (M := M_X12_atIn) (pc := 33) dX12_atIn_33 rfl (by decide) rfl ?_
    refine aw_aload_n (j := 1) (M := M_X12_atIn) (pc := 34) dX12_atIn_34 rfl rfl ?_
    refine aw_sipush (M := M_X12_atIn) (pc := 35) dX12_atIn_35 ⟨rfl, ⟨by decide, by decide⟩⟩ ?_
    refine aw_cvv (as := [(0, 2688)]) (st := []) (M := M_X12_atIn) (pc := 38) (f_X12_restores  hF) dX12_atIn_38 rfl (Or.inl ⟨_, _, _, rfl, rfl⟩) cy_X12_restores ml_X12_353 (by decide) (by decide) (Nat.le_of_ble_eq_true rfl) (fun h8 hF => ?_)
    refine aw_aload_n (j := 1) (M := M_X12_atIn) (pc := 41) dX12_atIn_41 rfl rfl ?_
    refine aw_iload_n (j := 0) (M := M_X12_atIn) (pc := 42) dX12_atIn_42 rfl rfl ?_
    refine aw_cvi (as := [(0, h5 162 6)]) (st := []) (M := M_X12_atIn) (pc := 43) (f_X12_gives  hF) dX12_atIn_43 rfl (Or.inl ⟨_, _, _, rfl, rfl⟩) cy_X12_gives ml_X12_95 (by decide) (by decide) (Nat.le_of_ble_eq_true rfl) (fun r11 h10 hF => ?_)
    exact aw_ireti (M := M_X12_atIn) (pc := 46) dX12_atIn_46 rfl ⟨_, rfl, hF⟩
  · have hF := hF.2 hc
    refine aw_aload_n (j := 0) (M := M_X12_atIn) (pc := 7) dX12_atIn_7 rfl rfl ?_
    refine aw_iconst (M := M_X12_atIn) (pc := 8) dX12_atIn_8 ⟨by decide, by decide⟩ ?_
    refine aw_cvi (as := [(0, 1)]) (st := []) (M := M_X12_atIn) (pc := 9) (f_X12_refuse  hF) dX12_atIn_9 rfl (Or.inl ⟨_, _, _, rfl, rfl⟩) cy_X12_refuse ml_X12_91 (by decide) (by decide) (Nat.le_of_ble_eq_true rfl) (fun r13 h12 hF => ?_)
    exact aw_ireti (M := M_X12_atIn) (pc := 12) dX12_atIn_12 rfl ⟨_, rfl, hF⟩
abbrev M_X12_begins : Hd := (cX12_begins, 4, RX12, (some .boolean), (3, 87), sc0)
def L_X12_begins_26 (h : Mem) (v1 : Int) (v3 : Int) (Q : Int → Mem → Prop) : Prop := AW M_X12_begins 26 [(0, vr 161), (1, (0, v1)), (3, (0, v3))] [] h (qi Q)
def B_X12_begins_26 (h : Mem) (v1 : Int) (v3 : Int) (Q : Int → Mem → Prop) : Prop :=
  ((v1 ≤ v3 → (∀ h2 : Mem, h2 = mset h 161 10 0 → (∀ h3 : Mem, h3 = mset h2 161 18 0 → (∀ h4 : Mem, h4 = mset h3 161 17 (-1) → (∀ h5 : Mem, h5 = mset h4 161 14 0 → (∀ h6 : Mem, h6 = mset h5 161 19 0 → (F_X12_ahead h6  (fun h7 => Q 1 h7)))))))) ∧ (¬ (v1 ≤ v3) → ((0 ≤ v3 ∧ v3 < 900) ∧ (∀ h11 : Mem, h11 = mset h 168 (v3).toNat (i2b (h 167 (v3).toNat)) → (InR (v3 + 1) ∧ L_X12_begins_26 h11 v1 (v3 + 1) Q)))))
set_option maxRecDepth 100000 in
set_option maxHeartbeats 4000000 in
theorem l_X12_begins_26 {h : Mem} {v1 : Int} {v3 : Int} {Q : Int → Mem → Prop}  (hF : B_X12_begins_26 h v1 v3 Q) : L_X12_begins_26 h v1 v3 Q := by
  unfold B_X12_begins_26 at hF
  show AW M_X12_begins 26 [(0, vr 161), (1, (0, v1)), (3, (0, v3))] [] h (qi Q)
  refine aw_iload_n (j := 2) (M := M_X12_begins) (pc := 26) dX12_begins_26 rfl rfl ?_
  refine aw_iload_n (j := 1) (M := M_X12_begins) (pc := 27) dX12_begins_27 rfl rfl ?_
  refine aw_icmp_ge (tgt := 49) (M := M_X12_begins) (pc := 28) dX12_begins_28 rfl (fun hc => ?_) (fun hc => ?_)
  · have hF := hF.1 hc
    refine aw_aload_n (j := 0) (M := M_X12_begins) (pc := 49) dX12_begins_49 rfl rfl ?_
    refine aw_iconst (M := M_X12_begins) (pc := 50) dX12_begins_50 ⟨by decide, by decide⟩ ?_
    refine pf_X12_115 (M := M_X12_begins) (pc := 51) rfl dX12_begins_51 rfl ?_
    obtain ⟨h2, eh2⟩ : ∃ y : Mem, y = mset h 161 10 0 := ⟨_, rfl⟩
    have hF := hF h2 eh2
    rw [← eh2]
    refine aw_aload_n (j := 0) (M := M_X12_begins) (pc := 54) dX12_begins_54 rfl rfl ?_
    refine aw_iconst (M := M_X12_begins) (pc := 55) dX12_begins_55 ⟨by decide, by decide⟩ ?_
    refine pf_X12_161 (M := M_X12_begins) (pc := 56) rfl dX12_begins_56 rfl ?_
    obtain ⟨h3, eh3⟩ : ∃ y : Mem, y = mset h2 161 18 0 := ⟨_, rfl⟩
    have hF := hF h3 eh3
    rw [← eh3]
    refine aw_aload_n (j := 0) (M := M_X12_begins) (pc := 59) dX12_begins_59 rfl rfl ?_
    refine aw_iconst (M := M_X12_begins) (pc := 60) dX12_begins_60 ⟨by decide, by decide⟩ ?_
    refine pf_X12_41 (M := M_X12_begins) (pc := 61) rfl dX12_begins_61 rfl ?_
    obtain ⟨h4, eh4⟩ : ∃ y : Mem, y = mset h3 161 17 (-1) := ⟨_, rfl⟩
    have hF := hF h4 eh4
    rw [← eh4]
    refine aw_aload_n (j := 0) (M := M_X12_begins) (pc := 64) dX12_begins_64 rfl rfl ?_
    refine aw_iconst (M := M_X12_begins) (pc := 65) dX12_begins_65 ⟨by decide, by decide⟩ ?_
    refine pf_X12_124 (M := M_X12_begins) (pc := 66) rfl dX12_begins_66 rfl ?_
    obtain ⟨h5, eh5⟩ : ∃ y : Mem, y = mset h4 161 14 0 := ⟨_, rfl⟩
    have hF := hF h5 eh5
    rw [← eh5]
    refine aw_aload_n (j := 0) (M := M_X12_begins) (pc := 69) dX12_begins_69 rfl rfl ?_
    refine aw_iconst (M := M_X12_begins) (pc := 70) dX12_begins_70 ⟨by decide, by decide⟩ ?_
    refine pf_X12_164 (M := M_X12_begins) (pc := 71) rfl dX12_begins_71 rfl ?_
    obtain ⟨h6, eh6⟩ : ∃ y : Mem, y = mset h5 161 19 0 := ⟨_, rfl⟩
    have hF := hF h6 eh6
    rw [← eh6]
    refine aw_aload_n (j := 0) (M := M_X12_begins) (pc := 74) dX12_begins_74 rfl rfl ?_
    refine aw_cvv (as := []) (st := []) (M := M_X12_begins) (pc := 75) (f_X12_ahead  hF) dX12_begins_75 rfl (Or.inl ⟨_, _, _, rfl, rfl⟩) cy_X12_ahead ml_X12_167 (by decide) (by decide) (Nat.le_of_ble_eq_true rfl) (fun h7 hF => ?_)
    refine aw_iconst (M := M_X12_begins) (pc := 78) dX12_begins_78 ⟨by decide, by decide⟩ ?_
    exact aw_iretz (M := M_X12_begins) (pc := 79) dX12_begins_79 rfl (Or.inr rfl) ⟨_, rfl, hF⟩
  · have hF := hF.2 hc
    refine aw_aload_n (j := 0) (M := M_X12_begins) (pc := 31) dX12_begins_31 rfl rfl ?_
    refine gf_X12_34 (M := M_X12_begins) (pc := 32) rfl dX12_begins_32 rfl (r := 168) rfl ?_
    refine aw_iload_n (j := 2) (M := M_X12_begins) (pc := 35) dX12_begins_35 rfl rfl ?_
    refine aw_aload_n (j := 0) (M := M_X12_begins) (pc := 36) dX12_begins_36 rfl rfl ?_
    refine gf_X12_30 (M := M_X12_begins) (pc := 37) rfl dX12_begins_37 rfl (r := 167) rfl ?_
    refine aw_iload_n (j := 2) (M := M_X12_begins) (pc := 40) dX12_begins_40 rfl rfl ?_
    obtain ⟨o10, hF⟩ := hF
    refine aw_bald (k := (v3).toNat) (M := M_X12_begins) (pc := 41) dX12_begins_41 rfl o10 rfl ?_
    refine aw_bast (k := (v3).toNat) (M := M_X12_begins) (pc := 42) dX12_begins_42 rfl o10 rfl ?_
    obtain ⟨h11, eh11⟩ : ∃ y : Mem, y = mset h 168 (v3).toNat (i2b (h 167 (v3).toNat)) := ⟨_, rfl⟩
    have hF := hF h11 eh11
    rw [← eh11]
    obtain ⟨o12, hF⟩ := hF
    refine aw_iinc (j := 2) (x := v3) (r := v3 + 1) (ls' := [(3, (0, v3 + 1)), (0, vr 161), (1, (0, v1))]) (M := M_X12_begins) (pc := 43) dX12_begins_43 rfl rfl o12 (by decide) rfl ?_
    refine aw_goto (tgt := 26) (M := M_X12_begins) (pc := 46) dX12_begins_46 rfl ?_
    exact aw_ls [1, 2, 0] rfl hF
def F_X12_begins (h : Mem) (a1 : Int) (a2 : Int) (Q : Int → Mem → Prop) : Prop :=
  ((a1 < 0 → Q 0 h) ∧ (¬ (a1 < 0) → (((h 161 10) < a1 → Q 0 h) ∧ (¬ ((h 161 10) < a1) → ((a1 ≤ a2 → (∀ h1 : Mem, h1 = mset h 161 11 a1 → L_X12_begins_26 h1 a1 0 Q)) ∧ (¬ (a1 ≤ a2) → Q 0 h))))))
set_option maxRecDepth 100000 in
set_option maxHeartbeats 4000000 in
theorem f_X12_begins {h : Mem} {a1 : Int} {a2 : Int} {Q : Int → Mem → Prop}  (hF : F_X12_begins h a1 a2 Q) : Ct yX12_begins cX12_begins 4 (some .boolean) (3, 87) [vr 161, (0, a1), (0, a2)] h (qi Q) := by
  refine Ct.of np_RX12 (Nat.le_of_ble_eq_true rfl) ?_
  unfold F_X12_begins at hF
  show AW M_X12_begins 0 [(0, vr 161), (1, (0, a1)), (2, (0, a2))] [] h (qi Q)
  refine aw_iload_n (j := 1) (M := M_X12_begins) (pc := 0) dX12_begins_0 rfl rfl ?_
  refine aw_if_lt (tgt := 17) (M := M_X12_begins) (pc := 1) dX12_begins_1 rfl (fun hc => ?_) (fun hc => ?_)
  · have hF := hF.1 hc
    refine aw_iconst (M := M_X12_begins) (pc := 17) dX12_begins_17 ⟨by decide, by decide⟩ ?_
    exact aw_iretz (M := M_X12_begins) (pc := 18) dX12_begins_18 rfl (Or.inl rfl) ⟨_, rfl, hF⟩
  · have hF := hF.2 hc
    refine aw_iload_n (j := 1) (M := M_X12_begins) (pc := 4) dX12_begins_4 rfl rfl ?_
    refine aw_aload_n (j := 0) (M := M_X12_begins) (pc := 5) dX12_begins_5 rfl rfl ?_
    refine gf_X12_115 (M := M_X12_begins) (pc := 6) rfl dX12_begins_6 rfl ?_
    refine aw_icmp_gt (tgt := 17) (M := M_X12_begins) (pc := 9) dX12_begins_9 rfl (fun hc => ?_) (fun hc => ?_)
    · have hF := hF.1 hc
      refine aw_iconst (M := M_X12_begins) (pc := 17) dX12_begins_17 ⟨by decide, by decide⟩ ?_
      exact aw_iretz (M := M_X12_begins) (pc := 18) dX12_begins_18 rfl (Or.inl rfl) ⟨_, rfl, hF⟩
    · have hF := hF.2 hc
      refine aw_iload_n (j := 1) (M := M_X12_begins) (pc := 12) dX12_begins_12 rfl rfl ?_
      refine aw_iload_n (j := 2) (M := M_X12_begins) (pc := 13) dX12_begins_13 rfl rfl ?_
      refine aw_icmp_le (tgt := 19) (M := M_X12_begins) (pc := 14) dX12_begins_14 rfl (fun hc => ?_) (fun hc => ?_)
      · have hF := hF.1 hc
        refine aw_aload_n (j := 0) (M := M_X12_begins) (pc := 19) dX12_begins_19 rfl rfl ?_
        refine aw_iload_n (j := 1) (M := M_X12_begins) (pc := 20) dX12_begins_20 rfl rfl ?_
        refine pf_X12_121 (M := M_X12_begins) (pc := 21) rfl dX12_begins_21 rfl ?_
        obtain ⟨h1, eh1⟩ : ∃ y : Mem, y = mset h 161 11 a1 := ⟨_, rfl⟩
        have hF := hF h1 eh1
        rw [← eh1]
        refine aw_iconst (M := M_X12_begins) (pc := 24) dX12_begins_24 ⟨by decide, by decide⟩ ?_
        refine aw_istore_n (ls' := [(3, (0, 0)), (0, vr 161), (1, (0, a1)), (2, (0, a2))]) (M := M_X12_begins) (pc := 25) dX12_begins_25 rfl (by decide) rfl ?_
        exact aw_ls [1, 2, 0] rfl hF
      · have hF := hF.2 hc
        refine aw_iconst (M := M_X12_begins) (pc := 17) dX12_begins_17 ⟨by decide, by decide⟩ ?_
        exact aw_iretz (M := M_X12_begins) (pc := 18) dX12_begins_18 rfl (Or.inl rfl) ⟨_, rfl, hF⟩
abbrev M_X12_behindEnds : Hd := (cX12_behindEnds, 5, RX12, (some .int), (1, 45), sc0)
def L_X12_behindEnds_2 (h : Mem) (v2 : Int) (Q : Int → Mem → Prop) : Prop := AW M_X12_behindEnds 2 [(0, vr 161), (2, (0, v2))] [] h (qi Q)
def J_X12_behindEnds_75 (h : Mem) (v2 : Int) (v3 : Int) (Q : Int → Mem → Prop) : Prop :=
  ((0 ≤ v3 ∧ v3 < 80) ∧ (InR ((h 178 (v3).toNat) - 0) ∧ (∀ h23 : Mem, h23 = mset h 178 (v3).toNat ((h 178 (v3).toNat) - 0) → (InR (v2 + 1) ∧ L_X12_behindEnds_2 h23 (v2 + 1) Q))))
set_option maxRecDepth 100000 in
set_option maxHeartbeats 4000000 in
theorem j_X12_behindEnds_75 {h : Mem} {v2 : Int} {v3 : Int} {Q : Int → Mem → Prop}  (hF : J_X12_behindEnds_75 h v2 v3 Q) : AW M_X12_behindEnds 75 [(0, vr 161), (2, (0, v2)), (3, (0, v3))] [] h (qi Q) := by
  unfold J_X12_behindEnds_75 at hF
  refine aw_iconst (M := M_X12_behindEnds) (pc := 75) dX12_behindEnds_75 ⟨by decide, by decide⟩ ?_
  refine aw_istore (ls' := [(4, (0, 0)), (0, vr 161), (2, (0, v2)), (3, (0, v3))]) (M := M_X12_behindEnds) (pc := 76) dX12_behindEnds_76  (by decide) rfl ?_
  refine aw_aload_n (j := 1) (M := M_X12_behindEnds) (pc := 78) dX12_behindEnds_78 rfl rfl ?_
  refine gf_X12_72 (M := M_X12_behindEnds) (pc := 79) rfl dX12_behindEnds_79 rfl (r := 178) rfl ?_
  refine aw_iload_n (j := 3) (M := M_X12_behindEnds) (pc := 82) dX12_behindEnds_82 rfl rfl ?_
  refine aw_dup2 (M := M_X12_behindEnds) (pc := 83) dX12_behindEnds_83 rfl rfl ?_
  obtain ⟨o21, hF⟩ := hF
  refine aw_iald (k := (v3).toNat) (M := M_X12_behindEnds) (pc := 84) dX12_behindEnds_84 rfl o21 rfl ?_
  refine aw_iload (j := 0) (M := M_X12_behindEnds) (pc := 85) dX12_behindEnds_85  rfl ?_
  refine aw_if_eq (tgt := 94) (M := M_X12_behindEnds) (pc := 87) dX12_behindEnds_87 rfl (fun hc => ?_) (fun hc => absurd hc (by decide))
  refine aw_iconst (M := M_X12_behindEnds) (pc := 94) dX12_behindEnds_94 ⟨by decide, by decide⟩ ?_
  obtain ⟨o22, hF⟩ := hF
  refine aw_isub (M := M_X12_behindEnds) (pc := 95) dX12_behindEnds_95 rfl o22 ?_
  refine aw_iast (k := (v3).toNat) (M := M_X12_behindEnds) (pc := 96) dX12_behindEnds_96 rfl o21 rfl ?_
  obtain ⟨h23, eh23⟩ : ∃ y : Mem, y = mset h 178 (v3).toNat ((h 178 (v3).toNat) - 0) := ⟨_, rfl⟩
  have hF := hF h23 eh23
  rw [← eh23]
  refine aw_iload (j := 0) (M := M_X12_behindEnds) (pc := 97) dX12_behindEnds_97  rfl ?_
  refine aw_if_eq (tgt := 108) (M := M_X12_behindEnds) (pc := 99) dX12_behindEnds_99 rfl (fun hc => ?_) (fun hc => absurd hc (by decide))
  refine aw_iload_n (j := 2) (M := M_X12_behindEnds) (pc := 108) dX12_behindEnds_108 rfl rfl ?_
  refine aw_iconst (M := M_X12_behindEnds) (pc := 109) dX12_behindEnds_109 ⟨by decide, by decide⟩ ?_
  obtain ⟨o24, hF⟩ := hF
  refine aw_iadd (M := M_X12_behindEnds) (pc := 110) dX12_behindEnds_110 rfl o24 ?_
  refine aw_istore_n (ls' := [(2, (0, v2 + 1)), (4, (0, 0)), (0, vr 161), (3, (0, v3))]) (M := M_X12_behindEnds) (pc := 111) dX12_behindEnds_111 rfl (by decide) rfl ?_
  refine aw_goto (tgt := 2) (M := M_X12_behindEnds) (pc := 112) dX12_behindEnds_112 rfl ?_
  exact aw_ls [2, 0] rfl hF
def B_X12_behindEnds_2 (h : Mem) (v2 : Int) (Q : Int → Mem → Prop) : Prop :=
  (((h 162 9) ≤ v2 → Q v2 h) ∧ (¬ ((h 162 9) ≤ v2) → (InR (6 * v2) ∧ (InR (80 + (6 * v2)) ∧ ((0 ≤ (80 + (6 * v2)) ∧ (80 + (6 * v2)) < 3008) ∧ ((¬ ((h 162 (80 + (6 * v2)).toNat) = 20) → Q v2 h) ∧ ((h 162 (80 + (6 * v2)).toNat) = 20 → (InR ((80 + (6 * v2)) + 4) ∧ ((0 ≤ ((80 + (6 * v2)) + 4) ∧ ((80 + (6 * v2)) + 4) < 3008) ∧ (∀ x9 : Int, x9 = h 162 ((80 + (6 * v2)) + 4).toNat → (InR (6 * x9) ∧ (InR (80 + (6 * x9)) ∧ ((0 ≤ (80 + (6 * x9)) ∧ (80 + (6 * x9)) < 3008) ∧ ((¬ ((h 162 (80 + (6 * x9)).toNat) = 19) → J_X12_behindEnds_75 h v2 x9 Q) ∧ ((h 162 (80 + (6 * x9)).toNat) = 19 → ((0 ≤ x9 ∧ x9 < 80) ∧ (((h 178 (x9).toNat) ≤ 0 → J_X12_behindEnds_75 h v2 x9 Q) ∧ (¬ ((h 178 (x9).toNat) ≤ 0) → (InR ((h 178 (x9).toNat) - 1) ∧ (∀ h18 : Mem, h18 = mset h 178 (x9).toNat ((h 178 (x9).toNat) - 1) → (InR (x9 + 1) ∧ L_X12_behindEnds_2 h18 (x9 + 1) Q)))))))))))))))))))))
set_option maxRecDepth 100000 in
set_option maxHeartbeats 4000000 in
theorem l_X12_behindEnds_2 {h : Mem} {v2 : Int} {Q : Int → Mem → Prop}  (hF : B_X12_behindEnds_2 h v2 Q) : L_X12_behindEnds_2 h v2 Q := by
  unfold B_X12_behindEnds_2 at hF
  show AW M_X12_behindEnds 2 [(0, vr 161), (2, (0, v2))] [] h (qi Q)
  refine aw_iload_n (j := 1) (M := M_X12_behindEnds) (pc := 2) dX12_behindEnds_2 rfl rfl ?_
  refine aw_aload_n (j := 0) (M := M_X12_behindEnds) (pc := 3) dX12_behindEnds_3 rfl rfl ?_
  refine gf_X12_7 (M := M_X12_behindEnds) (pc := 4) rfl dX12_behindEnds_4 rfl (r := 162) rfl ?_
  refine aw_bipush (M := M_X12_behindEnds) (pc := 7) dX12_behindEnds_7 ⟨rfl, ⟨by decide, by decide⟩⟩ ?_
  refine aw_iald (k := 9) (M := M_X12_behindEnds) (pc := 9) dX12_behindEnds_9 rfl ⟨by decide, by decide⟩ rfl ?_
  refine aw_icmp_ge (tgt := 115) (M := M_X12_behindEnds) (pc := 10) dX12_behindEnds_10 rfl (fun hc => ?_) (fun hc => ?_)
  · have hF := hF.1 hc
    refine aw_iload_n (j := 1) (M := M_X12_behindEnds) (pc := 115) dX12_behindEnds_115 rfl rfl ?_
    exact aw_ireti (M := M_X12_behindEnds) (pc := 116) dX12_behindEnds_116 rfl ⟨_, rfl, hF⟩
  · have hF := hF.2 hc
    refine aw_aload_n (j := 0) (M := M_X12_behindEnds) (pc := 13) dX12_behindEnds_13 rfl rfl ?_
    refine gf_X12_7 (M := M_X12_behindEnds) (pc := 14) rfl dX12_behindEnds_14 rfl (r := 162) rfl ?_
    refine aw_bipush (M := M_X12_behindEnds) (pc := 17) dX12_behindEnds_17 ⟨rfl, ⟨by decide, by decide⟩⟩ ?_
    refine aw_bipush (M := M_X12_behindEnds) (pc := 19) dX12_behindEnds_19 ⟨rfl, ⟨by decide, by decide⟩⟩ ?_
    refine aw_iload_n (j := 1) (M := M_X12_behindEnds) (pc := 21) dX12_behindEnds_21 rfl rfl ?_
    obtain ⟨o2, hF⟩ := hF
    refine aw_imul (M := M_X12_behindEnds) (pc := 22) dX12_behindEnds_22 rfl o2 ?_
    obtain ⟨o3, hF⟩ := hF
    refine aw_iadd (M := M_X12_behindEnds) (pc := 23) dX12_behindEnds_23 rfl o3 ?_
    obtain ⟨o5, hF⟩ := hF
    refine aw_iald (k := (80 + (6 * v2)).toNat) (M := M_X12_behindEnds) (pc := 24) dX12_behindEnds_24 rfl o5 rfl ?_
    refine aw_bipush (M := M_X12_behindEnds) (pc := 25) dX12_behindEnds_25 ⟨rfl, ⟨by decide, by decide⟩⟩ ?_
    refine aw_icmp_ne (tgt := 115) (M := M_X12_behindEnds) (pc := 27) dX12_behindEnds_27 rfl (fun hc => ?_) (fun hc => ?_)
    · have hF := hF.1 hc
      refine aw_iload_n (j := 1) (M := M_X12_behindEnds) (pc := 115) dX12_behindEnds_115 rfl rfl ?_
      exact aw_ireti (M := M_X12_behindEnds) (pc := 116) dX12_behindEnds_116 rfl ⟨_, rfl, hF⟩
    · have hF := hF.2 hc
      refine aw_aload_n (j := 0) (M := M_X12_behindEnds) (pc := 30) dX12_behindEnds_30 rfl rfl ?_
      refine gf_X12_7 (M := M_X12_behindEnds) (pc := 31) rfl dX12_behindEnds_31 rfl (r := 162) rfl ?_
      refine aw_bipush (M := M_X12_behindEnds) (pc := 34) dX12_behindEnds_34 ⟨rfl, ⟨by decide, by decide⟩⟩ ?_
      refine aw_bipush (M := M_X12_behindEnds) (pc := 36) dX12_behindEnds_36 ⟨rfl, ⟨by decide, by decide⟩⟩ ?_
      refine aw_iload_n (j := 1) (M := M_X12_behindEnds) (pc := 38) dX12_behindEnds_38 rfl rfl ?_
      refine aw_imul (M := M_X12_behindEnds) (pc := 39) dX12_behindEnds_39 rfl o2 ?_
      refine aw_iadd (M := M_X12_behindEnds) (pc := 40) dX12_behindEnds_40 rfl o3 ?_
      refine aw_iconst (M := M_X12_behindEnds) (pc := 41) dX12_behindEnds_41 ⟨by decide, by decide⟩ ?_
      obtain ⟨o6, hF⟩ := hF
      refine aw_iadd (M := M_X12_behindEnds) (pc := 42) dX12_behindEnds_42 rfl o6 ?_
      obtain ⟨o8, hF⟩ := hF
      refine aw_iald (k := ((80 + (6 * v2)) + 4).toNat) (M := M_X12_behindEnds) (pc := 43) dX12_behindEnds_43 rfl o8 rfl ?_
      obtain ⟨x9, ex9⟩ : ∃ y : Int, y = h 162 ((80 + (6 * v2)) + 4).toNat := ⟨_, rfl⟩
      have hF := hF x9 ex9
      rw [← ex9]
      refine aw_istore_n (ls' := [(3, (0, x9)), (0, vr 161), (2, (0, v2))]) (M := M_X12_behindEnds) (pc := 44) dX12_behindEnds_44 rfl (by decide) rfl ?_
      refine aw_aload_n (j := 1) (M := M_X12_behindEnds) (pc := 45) dX12_behindEnds_45 rfl rfl ?_
      refine gf_X12_7 (M := M_X12_behindEnds) (pc := 46) rfl dX12_behindEnds_46 rfl (r := 162) rfl ?_
      refine aw_bipush (M := M_X12_behindEnds) (pc := 49) dX12_behindEnds_49 ⟨rfl, ⟨by decide, by decide⟩⟩ ?_
      refine aw_bipush (M := M_X12_behindEnds) (pc := 51) dX12_behindEnds_51 ⟨rfl, ⟨by decide, by decide⟩⟩ ?_
      refine aw_iload_n (j := 0) (M := M_X12_behindEnds) (pc := 53) dX12_behindEnds_53 rfl rfl ?_
      obtain ⟨o10, hF⟩ := hF
      refine aw_imul (M := M_X12_behindEnds) (pc := 54) dX12_behindEnds_54 rfl o10 ?_
      obtain ⟨o11, hF⟩ := hF
      refine aw_iadd (M := M_X12_behindEnds) (pc := 55) dX12_behindEnds_55 rfl o11 ?_
      obtain ⟨o13, hF⟩ := hF
      refine aw_iald (k := (80 + (6 * x9)).toNat) (M := M_X12_behindEnds) (pc := 56) dX12_behindEnds_56 rfl o13 rfl ?_
      refine aw_bipush (M := M_X12_behindEnds) (pc := 57) dX12_behindEnds_57 ⟨rfl, ⟨by decide, by decide⟩⟩ ?_
      refine aw_icmp_ne (tgt := 75) (M := M_X12_behindEnds) (pc := 59) dX12_behindEnds_59 rfl (fun hc => ?_) (fun hc => ?_)
      · have hF := hF.1 hc
        exact aw_ls [1, 2, 0] rfl (j_X12_behindEnds_75  hF)
      · have hF := hF.2 hc
        refine aw_aload_n (j := 1) (M := M_X12_behindEnds) (pc := 62) dX12_behindEnds_62 rfl rfl ?_
        refine gf_X12_72 (M := M_X12_behindEnds) (pc := 63) rfl dX12_behindEnds_63 rfl (r := 178) rfl ?_
        refine aw_iload_n (j := 0) (M := M_X12_behindEnds) (pc := 66) dX12_behindEnds_66 rfl rfl ?_
        obtain ⟨o15, hF⟩ := hF
        refine aw_iald (k := (x9).toNat) (M := M_X12_behindEnds) (pc := 67) dX12_behindEnds_67 rfl o15 rfl ?_
        refine aw_if_le (tgt := 75) (M := M_X12_behindEnds) (pc := 68) dX12_behindEnds_68 rfl (fun hc => ?_) (fun hc => ?_)
        · have hF := hF.1 hc
          exact aw_ls [1, 2, 0] rfl (j_X12_behindEnds_75  hF)
        · have hF := hF.2 hc
          refine aw_iconst (M := M_X12_behindEnds) (pc := 71) dX12_behindEnds_71 ⟨by decide, by decide⟩ ?_
          refine aw_goto (tgt := 76) (M := M_X12_behindEnds) (pc := 72) dX12_behindEnds_72 rfl ?_
          refine aw_istore (ls' := [(4, (0, 1)), (3, (0, x9)), (0, vr 161), (2, (0, v2))]) (M := M_X12_behindEnds) (pc := 76) dX12_behindEnds_76  (by decide) rfl ?_
          refine aw_aload_n (j := 2) (M := M_X12_behindEnds) (pc := 78) dX12_behindEnds_78 rfl rfl ?_
          refine gf_X12_72 (M := M_X12_behindEnds) (pc := 79) rfl dX12_behindEnds_79 rfl (r := 178) rfl ?_
          refine aw_iload_n (j := 1) (M := M_X12_behindEnds) (pc := 82) dX12_behindEnds_82 rfl rfl ?_
          refine aw_dup2 (M := M_X12_behindEnds) (pc := 83) dX12_behindEnds_83 rfl rfl ?_
          refine aw_iald (k := (x9).toNat) (M := M_X12_behindEnds) (pc := 84) dX12_behindEnds_84 rfl o15 rfl ?_
          refine aw_iload (j := 0) (M := M_X12_behindEnds) (pc := 85) dX12_behindEnds_85  rfl ?_
          refine aw_if_eq (tgt := 94) (M := M_X12_behindEnds) (pc := 87) dX12_behindEnds_87 rfl (fun hc => absurd hc (by decide)) (fun hc => ?_)
          refine aw_iconst (M := M_X12_behindEnds) (pc := 90) dX12_behindEnds_90 ⟨by decide, by decide⟩ ?_
          refine aw_goto (tgt := 95) (M := M_X12_behindEnds) (pc := 91) dX12_behindEnds_91 rfl ?_
          obtain ⟨o17, hF⟩ := hF
          refine aw_isub (M := M_X12_behindEnds) (pc := 95) dX12_behindEnds_95 rfl o17 ?_
          refine aw_iast (k := (x9).toNat) (M := M_X12_behindEnds) (pc := 96) dX12_behindEnds_96 rfl o15 rfl ?_
          obtain ⟨h18, eh18⟩ : ∃ y : Mem, y = mset h 178 (x9).toNat ((h 178 (x9).toNat) - 1) := ⟨_, rfl⟩
          have hF := hF h18 eh18
          rw [← eh18]
          refine aw_iload (j := 0) (M := M_X12_behindEnds) (pc := 97) dX12_behindEnds_97  rfl ?_
          refine aw_if_eq (tgt := 108) (M := M_X12_behindEnds) (pc := 99) dX12_behindEnds_99 rfl (fun hc => absurd hc (by decide)) (fun hc => ?_)
          refine aw_iload_n (j := 1) (M := M_X12_behindEnds) (pc := 102) dX12_behindEnds_102 rfl rfl ?_
          refine aw_iconst (M := M_X12_behindEnds) (pc := 103) dX12_behindEnds_103 ⟨by decide, by decide⟩ ?_
          obtain ⟨o19, hF⟩ := hF
          refine aw_iadd (M := M_X12_behindEnds) (pc := 104) dX12_behindEnds_104 rfl o19 ?_
          refine aw_goto (tgt := 111) (M := M_X12_behindEnds) (pc := 105) dX12_behindEnds_105 rfl ?_
          refine aw_istore_n (ls' := [(2, (0, x9 + 1)), (4, (0, 1)), (3, (0, x9)), (0, vr 161)]) (M := M_X12_behindEnds) (pc := 111) dX12_behindEnds_111 rfl (by decide) rfl ?_
          refine aw_goto (tgt := 2) (M := M_X12_behindEnds) (pc := 112) dX12_behindEnds_112 rfl ?_
          exact aw_ls [3, 0] rfl hF
def F_X12_behindEnds (h : Mem) (a1 : Int) (Q : Int → Mem → Prop) : Prop :=
  L_X12_behindEnds_2 h a1 Q
set_option maxRecDepth 100000 in
set_option maxHeartbeats 4000000 in
theorem f_X12_behindEnds {h : Mem} {a1 : Int} {Q : Int → Mem → Prop}  (hF : F_X12_behindEnds h a1 Q) : Ct yX12_behindEnds cX12_behindEnds 5 (some .int) (1, 45) [vr 161, (0, a1)] h (qi Q) := by
  refine Ct.of np_RX12 (Nat.le_of_ble_eq_true rfl) ?_
  unfold F_X12_behindEnds at hF
  show AW M_X12_behindEnds 0 [(0, vr 161), (1, (0, a1))] [] h (qi Q)
  refine aw_iload_n (j := 1) (M := M_X12_behindEnds) (pc := 0) dX12_behindEnds_0 rfl rfl ?_
  refine aw_istore_n (ls' := [(2, (0, a1)), (0, vr 161), (1, (0, a1))]) (M := M_X12_behindEnds) (pc := 1) dX12_behindEnds_1 rfl (by decide) rfl ?_
  exact aw_ls [1, 0] rfl hF
abbrev M_X12_bits : Hd := (cX12_bits, 3, RX12, (some .int), (1, 45), sc0)
def L_X12_bits_4 (h : Mem) (v1 : Int) (v2 : Int) (Q : Int → Mem → Prop) : Prop := AW M_X12_bits 4 [(1, (0, v1)), (2, (0, v2))] [] h (qi Q)
def B_X12_bits_4 (h : Mem) (v1 : Int) (v2 : Int) (Q : Int → Mem → Prop) : Prop :=
  ((v2 = 0 → Q v1 h) ∧ (¬ (v2 = 0) → (InR (v1 + 1) ∧ (InR (v2 - 1) ∧ (∀ x3 : Int, x3 = iand v2 (v2 - 1) → L_X12_bits_4 h (v1 + 1) x3 Q)))))
set_option maxRecDepth 100000 in
set_option maxHeartbeats 4000000 in
theorem l_X12_bits_4 {h : Mem} {v1 : Int} {v2 : Int} {Q : Int → Mem → Prop}  (hF : B_X12_bits_4 h v1 v2 Q) : L_X12_bits_4 h v1 v2 Q := by
  unfold B_X12_bits_4 at hF
  show AW M_X12_bits 4 [(1, (0, v1)), (2, (0, v2))] [] h (qi Q)
  refine aw_iload_n (j := 1) (M := M_X12_bits) (pc := 4) dX12_bits_4 rfl rfl ?_
  refine aw_if_eq (tgt := 20) (M := M_X12_bits) (pc := 5) dX12_bits_5 rfl (fun hc => ?_) (fun hc => ?_)
  · have hF := hF.1 hc
    refine aw_iload_n (j := 0) (M := M_X12_bits) (pc := 20) dX12_bits_20 rfl rfl ?_
    exact aw_ireti (M := M_X12_bits) (pc := 21) dX12_bits_21 rfl ⟨_, rfl, hF⟩
  · have hF := hF.2 hc
    obtain ⟨o1, hF⟩ := hF
    refine aw_iinc (j := 0) (x := v1) (r := v1 + 1) (ls' := [(1, (0, v1 + 1)), (2, (0, v2))]) (M := M_X12_bits) (pc := 8) dX12_bits_8 rfl rfl o1 (by decide) rfl ?_
    refine aw_iload_n (j := 1) (M := M_X12_bits) (pc := 11) dX12_bits_11 rfl rfl ?_
    refine aw_iload_n (j := 1) (M := M_X12_bits) (pc := 12) dX12_bits_12 rfl rfl ?_
    refine aw_iconst (M := M_X12_bits) (pc := 13) dX12_bits_13 ⟨by decide, by decide⟩ ?_
    obtain ⟨o2, hF⟩ := hF
    refine aw_isub (M := M_X12_bits) (pc := 14) dX12_bits_14 rfl o2 ?_
    refine aw_iand (M := M_X12_bits) (pc := 15) dX12_bits_15 ?_
    obtain ⟨x3, ex3⟩ : ∃ y : Int, y = iand v2 (v2 - 1) := ⟨_, rfl⟩
    have hF := hF x3 ex3
    rw [← ex3]
    refine aw_istore_n (ls' := [(2, (0, x3)), (1, (0, v1 + 1))]) (M := M_X12_bits) (pc := 16) dX12_bits_16 rfl (by decide) rfl ?_
    refine aw_goto (tgt := 4) (M := M_X12_bits) (pc := 17) dX12_bits_17 rfl ?_
    exact aw_ls [1, 0] rfl hF
def F_X12_bits (h : Mem) (a1 : Int) (Q : Int → Mem → Prop) : Prop :=
  L_X12_bits_4 h 0 a1 Q
set_option maxRecDepth 100000 in
set_option maxHeartbeats 4000000 in
theorem f_X12_bits {h : Mem} {a1 : Int} {Q : Int → Mem → Prop}  (hF : F_X12_bits h a1 Q) : Ct yX12_bits cX12_bits 3 (some .int) (1, 45) [(0, a1)] h (qi Q) := by
  refine Ct.of np_RX12 (Nat.le_of_ble_eq_true rfl) ?_
  unfold F_X12_bits at hF
  show AW M_X12_bits 0 [(0, (0, a1))] [] h (qi Q)
  refine aw_iconst (M := M_X12_bits) (pc := 0) dX12_bits_0 ⟨by decide, by decide⟩ ?_
  refine aw_istore_n (ls' := [(1, (0, 0)), (0, (0, a1))]) (M := M_X12_bits) (pc := 1) dX12_bits_1 rfl (by decide) rfl ?_
  refine aw_iload_n (j := 1) (M := M_X12_bits) (pc := 2) dX12_bits_2 rfl rfl ?_
  refine aw_istore_n (ls' := [(2, (0, a1)), (1, (0, 0)), (0, (0, a1))]) (M := M_X12_bits) (pc := 3) dX12_bits_3 rfl (by decide) rfl ?_
  exact aw_ls [1, 0] rfl hF
abbrev M_X12_bottom : Hd := (cX12_bottom, 1, RX12, (some .long), (1, 45), sc0)
def F_X12_bottom (h : Mem)  (Q : Int → Mem → Prop) : Prop :=
  Q (h 161 4) h
set_option maxRecDepth 100000 in
set_option maxHeartbeats 4000000 in
theorem f_X12_bottom {h : Mem}  {Q : Int → Mem → Prop}  (hF : F_X12_bottom h  Q) : Ct yX12_bottom cX12_bottom 1 (some .long) (1, 45) [vr 161] h (ql Q) := by
  refine Ct.of np_RX12 (Nat.le_of_ble_eq_true rfl) ?_
  unfold F_X12_bottom at hF
  show AW M_X12_bottom 0 [(0, vr 161)] [] h (ql Q)
  refine aw_aload_n (j := 0) (M := M_X12_bottom) (pc := 0) dX12_bottom_0 rfl rfl ?_
  refine gf_X12_17 (M := M_X12_bottom) (pc := 1) rfl dX12_bottom_1 rfl ?_
  exact aw_lret (M := M_X12_bottom) (pc := 4) dX12_bottom_4 rfl ⟨_, rfl, hF⟩
abbrev M_X12_isCell : Hd := (cX12_isCell, 2, RX12, (some .boolean), (1, 45), sc0)
def F_X12_isCell (h : Mem) (a1 : Int) (Q : Int → Mem → Prop) : Prop :=
  ((a1 < 0 → Q 0 h) ∧ (¬ (a1 < 0) → (((h 162 2) ≤ a1 → Q 0 h) ∧ (¬ ((h 162 2) ≤ a1) → Q 1 h))))
set_option maxRecDepth 100000 in
set_option maxHeartbeats 4000000 in
theorem f_X12_isCell {h : Mem} {a1 : Int} {Q : Int → Mem → Prop}  (hF : F_X12_isCell h a1 Q) : Ct yX12_isCell cX12_isCell 2 (some .boolean) (1, 45) [vr 161, (0, a1)] h (qi Q) := by
  refine Ct.of np_RX12 (Nat.le_of_ble_eq_true rfl) ?_
  unfold F_X12_isCell at hF
  show AW M_X12_isCell 0 [(0, vr 161), (1, (0, a1))] [] h (qi Q)
  refine aw_iload_n (j := 1) (M := M_X12_isCell) (pc := 0) dX12_isCell_0 rfl rfl ?_
  refine aw_if_lt (tgt := 18) (M := M_X12_isCell) (pc := 1) dX12_isCell_1 rfl (fun hc => ?_) (fun hc => ?_)
  · have hF := hF.1 hc
    refine aw_iconst (M := M_X12_isCell) (pc := 18) dX12_isCell_18 ⟨by decide, by decide⟩ ?_
    exact aw_iretz (M := M_X12_isCell) (pc := 19) dX12_isCell_19 rfl (Or.inl rfl) ⟨_, rfl, hF⟩
  · have hF := hF.2 hc
    refine aw_iload_n (j := 1) (M := M_X12_isCell) (pc := 4) dX12_isCell_4 rfl rfl ?_
    refine aw_aload_n (j := 0) (M := M_X12_isCell) (pc := 5) dX12_isCell_5 rfl rfl ?_
    refine gf_X12_7 (M := M_X12_isCell) (pc := 6) rfl dX12_isCell_6 rfl (r := 162) rfl ?_
    refine aw_iconst (M := M_X12_isCell) (pc := 9) dX12_isCell_9 ⟨by decide, by decide⟩ ?_
    refine aw_iald (k := 2) (M := M_X12_isCell) (pc := 10) dX12_isCell_10 rfl ⟨by decide, by decide⟩ rfl ?_
    refine aw_icmp_ge (tgt := 18) (M := M_X12_isCell) (pc := 11) dX12_isCell_11 rfl (fun hc => ?_) (fun hc => ?_)
    · have hF := hF.1 hc
      refine aw_iconst (M := M_X12_isCell) (pc := 18) dX12_isCell_18 ⟨by decide, by decide⟩ ?_
      exact aw_iretz (M := M_X12_isCell) (pc := 19) dX12_isCell_19 rfl (Or.inl rfl) ⟨_, rfl, hF⟩
    · have hF := hF.2 hc
      refine aw_iconst (M := M_X12_isCell) (pc := 14) dX12_isCell_14 ⟨by decide, by decide⟩ ?_
      refine aw_goto (tgt := 19) (M := M_X12_isCell) (pc := 15) dX12_isCell_15 rfl ?_
      exact aw_iretz (M := M_X12_isCell) (pc := 19) dX12_isCell_19 rfl (Or.inr rfl) ⟨_, rfl, hF⟩
abbrev M_X12_build : Hd := (cX12_build, 4, RX12, (some .int), (2, 70), sc0)
def F_X12_build (h : Mem) (a1 : Int) (a2 : Int) (Q : Int → Mem → Prop) : Prop :=
  (F_X12_isCell h a1 (fun r2 h1 => ((r2 = 0 → (F_X12_refuse h1 1 (fun r4 h3 => Q r4 h3))) ∧ (¬ (r2 = 0) → (F_X12_isFrom h1 a2 0 2 (fun r6 h5 => ((¬ (r6 = 0) → ((¬ ((h5 162 1) = 4) → (InR ((h5 162 1) + 1) ∧ (∀ h10 : Mem, h10 = mset h5 162 1 ((h5 162 1) + 1) → (F_X12_millRow h10 (h5 162 1) (fun r12 h11 => ((0 ≤ r12 ∧ r12 < 3008) ∧ (∀ h14 : Mem, h14 = mset h11 162 (r12).toNat a1 → (F_X12_millRow h14 (h5 162 1) (fun r16 h15 => (InR (r16 + 1) ∧ ((0 ≤ (r16 + 1) ∧ (r16 + 1) < 3008) ∧ (∀ h19 : Mem, h19 = mset h15 162 (r16 + 1).toNat a2 → (F_X12_millRow h19 (h5 162 1) (fun r21 h20 => (InR (r21 + 2) ∧ ((0 ≤ (r21 + 2) ∧ (r21 + 2) < 3008) ∧ (∀ h24 : Mem, h24 = mset h20 162 (r21 + 2).toNat 0 → (InR (8 + (h5 162 1)) ∧ ((0 ≤ (8 + (h5 162 1)) ∧ (8 + (h5 162 1)) < 72) ∧ (∀ h27 : Mem, h27 = mset h24 163 (8 + (h5 162 1)).toNat 0 → (F_X12_gives h27 (h5 162 1) (fun r29 h28 => Q r29 h28)))))))))))))))))))))) ∧ ((h5 162 1) = 4 → (F_X12_refuse h5 4 (fun r31 h30 => Q r31 h30))))) ∧ (r6 = 0 → (F_X12_refuse h5 1 (fun r33 h32 => Q r33 h32))))))))))
set_option maxRecDepth 100000 in
set_option maxHeartbeats 4000000 in
theorem f_X12_build {h : Mem} {a1 : Int} {a2 : Int} {Q : Int → Mem → Prop}  (hF : F_X12_build h a1 a2 Q) : Ct yX12_build cX12_build 4 (some .int) (2, 70) [vr 161, (0, a1), (0, a2)] h (qi Q) := by
  refine Ct.of np_RX12 (Nat.le_of_ble_eq_true rfl) ?_
  unfold F_X12_build at hF
  show AW M_X12_build 0 [(0, vr 161), (1, (0, a1)), (2, (0, a2))] [] h (qi Q)
  refine aw_aload_n (j := 0) (M := M_X12_build) (pc := 0) dX12_build_0 rfl rfl ?_
  refine aw_iload_n (j := 1) (M := M_X12_build) (pc := 1) dX12_build_1 rfl rfl ?_
  refine aw_cvi (as := [(0, a1)]) (st := []) (M := M_X12_build) (pc := 2) (f_X12_isCell  hF) dX12_build_2 rfl (Or.inl ⟨_, _, _, rfl, rfl⟩) cy_X12_isCell ml_X12_326 (by decide) (by decide) (Nat.le_of_ble_eq_true rfl) (fun r2 h1 hF => ?_)
  refine aw_if_eq (tgt := 20) (M := M_X12_build) (pc := 5) dX12_build_5 rfl (fun hc => ?_) (fun hc => ?_)
  · have hF := hF.1 hc
    refine aw_aload_n (j := 0) (M := M_X12_build) (pc := 20) dX12_build_20 rfl rfl ?_
    refine aw_iconst (M := M_X12_build) (pc := 21) dX12_build_21 ⟨by decide, by decide⟩ ?_
    refine aw_cvi (as := [(0, 1)]) (st := []) (M := M_X12_build) (pc := 22) (f_X12_refuse  hF) dX12_build_22 rfl (Or.inl ⟨_, _, _, rfl, rfl⟩) cy_X12_refuse ml_X12_91 (by decide) (by decide) (Nat.le_of_ble_eq_true rfl) (fun r4 h3 hF => ?_)
    exact aw_ireti (M := M_X12_build) (pc := 25) dX12_build_25 rfl ⟨_, rfl, hF⟩
  · have hF := hF.2 hc
    refine aw_iload_n (j := 2) (M := M_X12_build) (pc := 8) dX12_build_8 rfl rfl ?_
    refine aw_i2l (M := M_X12_build) (pc := 9) dX12_build_9 ?_
    refine aw_lconst (v := 0) (M := M_X12_build) (pc := 10) dX12_build_10 ⟨rfl, ⟨by decide, by decide⟩⟩ ?_
    refine aw_ldc2 (v := 2) (M := M_X12_build) (pc := 11) dX12_build_11 kl_X12_339 ⟨by decide, by decide⟩ ?_
    refine aw_csi (as := [(1, a2), (1, 0), (1, 2)]) (st := []) (M := M_X12_build) (pc := 14) (f_X12_isFrom  hF) dX12_build_14 rfl cy_X12_isFrom ml_X12_316 (by decide) (by decide) (Nat.le_of_ble_eq_true rfl) (fun r6 h5 hF => ?_)
    refine aw_if_ne (tgt := 26) (M := M_X12_build) (pc := 17) dX12_build_17 rfl (fun hc => ?_) (fun hc => ?_)
    · have hF := hF.1 hc
      refine aw_aload_n (j := 0) (M := M_X12_build) (pc := 26) dX12_build_26 rfl rfl ?_
      refine gf_X12_7 (M := M_X12_build) (pc := 27) rfl dX12_build_27 rfl (r := 162) rfl ?_
      refine aw_iconst (M := M_X12_build) (pc := 30) dX12_build_30 ⟨by decide, by decide⟩ ?_
      refine aw_iald (k := 1) (M := M_X12_build) (pc := 31) dX12_build_31 rfl ⟨by decide, by decide⟩ rfl ?_
      refine aw_istore_n (ls' := [(3, (0, h5 162 1)), (0, vr 161), (1, (0, a1)), (2, (0, a2))]) (M := M_X12_build) (pc := 32) dX12_build_32 rfl (by decide) rfl ?_
      refine aw_iload_n (j := 0) (M := M_X12_build) (pc := 33) dX12_build_33 rfl rfl ?_
      refine aw_iconst (M := M_X12_build) (pc := 34) dX12_build_34 ⟨by decide, by decide⟩ ?_
      refine aw_icmp_ne (tgt := 44) (M := M_X12_build) (pc := 35) dX12_build_35 rfl (fun hc => ?_) (fun hc => ?_)
      · have hF := hF.1 hc
        refine aw_aload_n (j := 1) (M := M_X12_build) (pc := 44) dX12_build_44 rfl rfl ?_
        refine gf_X12_7 (M := M_X12_build) (pc := 45) rfl dX12_build_45 rfl (r := 162) rfl ?_
        refine aw_iconst (M := M_X12_build) (pc := 48) dX12_build_48 ⟨by decide, by decide⟩ ?_
        refine aw_dup2 (M := M_X12_build) (pc := 49) dX12_build_49 rfl rfl ?_
        refine aw_iald (k := 1) (M := M_X12_build) (pc := 50) dX12_build_50 rfl ⟨by decide, by decide⟩ rfl ?_
        refine aw_iconst (M := M_X12_build) (pc := 51) dX12_build_51 ⟨by decide, by decide⟩ ?_
        obtain ⟨o9, hF⟩ := hF
        refine aw_iadd (M := M_X12_build) (pc := 52) dX12_build_52 rfl o9 ?_
        refine aw_iast (k := 1) (M := M_X12_build) (pc := 53) dX12_build_53 rfl ⟨by decide, by decide⟩ rfl ?_
        obtain ⟨h10, eh10⟩ : ∃ y : Mem, y = mset h5 162 1 ((h5 162 1) + 1) := ⟨_, rfl⟩
        have hF := hF h10 eh10
        rw [← eh10]
        refine aw_aload_n (j := 1) (M := M_X12_build) (pc := 54) dX12_build_54 rfl rfl ?_
        refine gf_X12_7 (M := M_X12_build) (pc := 55) rfl dX12_build_55 rfl (r := 162) rfl ?_
        refine aw_iload_n (j := 0) (M := M_X12_build) (pc := 58) dX12_build_58 rfl rfl ?_
        refine aw_csi (as := [(0, h5 162 1)]) (st := [vr 162]) (M := M_X12_build) (pc := 59) (f_X12_millRow  hF) dX12_build_59 rfl cy_X12_millRow ml_X12_213 (by decide) (by decide) (Nat.le_of_ble_eq_true rfl) (fun r12 h11 hF => ?_)
        refine aw_iload_n (j := 2) (M := M_X12_build) (pc := 62) dX12_build_62 rfl rfl ?_
        obtain ⟨o13, hF⟩ := hF
        refine aw_iast (k := (r12).toNat) (M := M_X12_build) (pc := 63) dX12_build_63 rfl o13 rfl ?_
        obtain ⟨h14, eh14⟩ : ∃ y : Mem, y = mset h11 162 (r12).toNat a1 := ⟨_, rfl⟩
        have hF := hF h14 eh14
        rw [← eh14]
        refine aw_aload_n (j := 1) (M := M_X12_build) (pc := 64) dX12_build_64 rfl rfl ?_
        refine gf_X12_7 (M := M_X12_build) (pc := 65) rfl dX12_build_65 rfl (r := 162) rfl ?_
        refine aw_iload_n (j := 0) (M := M_X12_build) (pc := 68) dX12_build_68 rfl rfl ?_
        refine aw_csi (as := [(0, h5 162 1)]) (st := [vr 162]) (M := M_X12_build) (pc := 69) (f_X12_millRow  hF) dX12_build_69 rfl cy_X12_millRow ml_X12_213 (by decide) (by decide) (Nat.le_of_ble_eq_true rfl) (fun r16 h15 hF => ?_)
        refine aw_iconst (M := M_X12_build) (pc := 72) dX12_build_72 ⟨by decide, by decide⟩ ?_
        obtain ⟨o17, hF⟩ := hF
        refine aw_iadd (M := M_X12_build) (pc := 73) dX12_build_73 rfl o17 ?_
        refine aw_iload_n (j := 3) (M := M_X12_build) (pc := 74) dX12_build_74 rfl rfl ?_
        obtain ⟨o18, hF⟩ := hF
        refine aw_iast (k := (r16 + 1).toNat) (M := M_X12_build) (pc := 75) dX12_build_75 rfl o18 rfl ?_
        obtain ⟨h19, eh19⟩ : ∃ y : Mem, y = mset h15 162 (r16 + 1).toNat a2 := ⟨_, rfl⟩
        have hF := hF h19 eh19
        rw [← eh19]
        refine aw_aload_n (j := 1) (M := M_X12_build) (pc := 76) dX12_build_76 rfl rfl ?_
        refine gf_X12_7 (M := M_X12_build) (pc := 77) rfl dX12_build_77 rfl (r := 162) rfl ?_
        refine aw_iload_n (j := 0) (M := M_X12_build) (pc := 80) dX12_build_80 rfl rfl ?_
        refine aw_csi (as := [(0, h5 162 1)]) (st := [vr 162]) (M := M_X12_build) (pc := 81) (f_X12_millRow  hF) dX12_build_81 rfl cy_X12_millRow ml_X12_213 (by decide) (by decide) (Nat.le_of_ble_eq_true rfl) (fun r21 h20 hF => ?_)
        refine aw_iconst (M := M_X12_build) (pc := 84) dX12_build_84 ⟨by decide, by decide⟩ ?_
        obtain ⟨o22, hF⟩ := hF
        refine aw_iadd (M := M_X12_build) (pc := 85) dX12_build_85 rfl o22 ?_
        refine aw_iconst (M := M_X12_build) (pc := 86) dX12_build_86 ⟨by decide, by decide⟩ ?_
        obtain ⟨o23, hF⟩ := hF
        refine aw_iast (k := (r21 + 2).toNat) (M := M_X12_build) (pc := 87) dX12_build_87 rfl o23 rfl ?_
        obtain ⟨h24, eh24⟩ : ∃ y : Mem, y = mset h20 162 (r21 + 2).toNat 0 := ⟨_, rfl⟩
        have hF := hF h24 eh24
        rw [← eh24]
        refine aw_aload_n (j := 1) (M := M_X12_build) (pc := 88) dX12_build_88 rfl rfl ?_
        refine gf_X12_13 (M := M_X12_build) (pc := 89) rfl dX12_build_89 rfl (r := 163) rfl ?_
        refine aw_bipush (M := M_X12_build) (pc := 92) dX12_build_92 ⟨rfl, ⟨by decide, by decide⟩⟩ ?_
        refine aw_iload_n (j := 0) (M := M_X12_build) (pc := 94) dX12_build_94 rfl rfl ?_
        obtain ⟨o25, hF⟩ := hF
        refine aw_iadd (M := M_X12_build) (pc := 95) dX12_build_95 rfl o25 ?_
        refine aw_lconst (v := 0) (M := M_X12_build) (pc := 96) dX12_build_96 ⟨rfl, ⟨by decide, by decide⟩⟩ ?_
        obtain ⟨o26, hF⟩ := hF
        refine aw_last (k := (8 + (h5 162 1)).toNat) (M := M_X12_build) (pc := 97) dX12_build_97 rfl o26 rfl ?_
        obtain ⟨h27, eh27⟩ : ∃ y : Mem, y = mset h24 163 (8 + (h5 162 1)).toNat 0 := ⟨_, rfl⟩
        have hF := hF h27 eh27
        rw [← eh27]
        refine aw_aload_n (j := 1) (M := M_X12_build) (pc := 98) dX12_build_98 rfl rfl ?_
        refine aw_iload_n (j := 0) (M := M_X12_build) (pc := 99) dX12_build_99 rfl rfl ?_
        refine aw_cvi (as := [(0, h5 162 1)]) (st := []) (M := M_X12_build) (pc := 100) (f_X12_gives  hF) dX12_build_100 rfl (Or.inl ⟨_, _, _, rfl, rfl⟩) cy_X12_gives ml_X12_95 (by decide) (by decide) (Nat.le_of_ble_eq_true rfl) (fun r29 h28 hF => ?_)
        exact aw_ireti (M := M_X12_build) (pc := 103) dX12_build_103 rfl ⟨_, rfl, hF⟩
      · have hF := hF.2 hc
        refine aw_aload_n (j := 1) (M := M_X12_build) (pc := 38) dX12_build_38 rfl rfl ?_
        refine aw_iconst (M := M_X12_build) (pc := 39) dX12_build_39 ⟨by decide, by decide⟩ ?_
        refine aw_cvi (as := [(0, 4)]) (st := []) (M := M_X12_build) (pc := 40) (f_X12_refuse  hF) dX12_build_40 rfl (Or.inl ⟨_, _, _, rfl, rfl⟩) cy_X12_refuse ml_X12_91 (by decide) (by decide) (Nat.le_of_ble_eq_true rfl) (fun r31 h30 hF => ?_)
        exact aw_ireti (M := M_X12_build) (pc := 43) dX12_build_43 rfl ⟨_, rfl, hF⟩
    · have hF := hF.2 hc
      refine aw_aload_n (j := 0) (M := M_X12_build) (pc := 20) dX12_build_20 rfl rfl ?_
      refine aw_iconst (M := M_X12_build) (pc := 21) dX12_build_21 ⟨by decide, by decide⟩ ?_
      refine aw_cvi (as := [(0, 1)]) (st := []) (M := M_X12_build) (pc := 22) (f_X12_refuse  hF) dX12_build_22 rfl (Or.inl ⟨_, _, _, rfl, rfl⟩) cy_X12_refuse ml_X12_91 (by decide) (by decide) (Nat.le_of_ble_eq_true rfl) (fun r33 h32 hF => ?_)
      exact aw_ireti (M := M_X12_build) (pc := 25) dX12_build_25 rfl ⟨_, rfl, hF⟩
abbrev M_X12_carriedIn : Hd := (cX12_carriedIn, 3, RX12, (some .int), (9, 220), sc0)
def F_X12_carriedIn (h : Mem) (a1 : Int) (Q : Int → Mem → Prop) : Prop :=
  (F_X12_isSpan h a1 (fun r2 h1 => ((¬ (r2 = 0) → (F_X12_keeps h1 2688 (fun h3 => (F_X12_hoursGo h3 a1 (fun r6 h5 => (F_X12_thingsThat h5 2 (fun r8 h7 => (F_X12_restores h7 2688 (fun h9 => (F_X12_gives h9 r8 (fun r12 h11 => Q r12 h11))))))))))) ∧ (r2 = 0 → (F_X12_refuse h1 1 (fun r14 h13 => Q r14 h13))))))
set_option maxRecDepth 100000 in
set_option maxHeartbeats 4000000 in
theorem f_X12_carriedIn {h : Mem} {a1 : Int} {Q : Int → Mem → Prop}  (hF : F_X12_carriedIn h a1 Q) : Ct yX12_carriedIn cX12_carriedIn 3 (some .int) (9, 220) [vr 161, (0, a1)] h (qi Q) := by
  refine Ct.of np_RX12 (Nat.le_of_ble_eq_true rfl) ?_
  unfold F_X12_carriedIn at hF
  show AW M_X12_carriedIn 0 [(0, vr 161), (1, (0, a1))] [] h (qi Q)
  refine aw_iload_n (j := 1) (M := M_X12_carriedIn) (pc := 0) dX12_carriedIn_0 rfl rfl ?_
  refine aw_csi (as := [(0, a1)]) (st := []) (M := M_X12_carriedIn) (pc := 1) (f_X12_isSpan  hF) dX12_carriedIn_1 rfl cy_X12_isSpan ml_X12_347 (by decide) (by decide) (Nat.le_of_ble_eq_true rfl) (fun r2 h1 hF => ?_)
  refine aw_if_ne (tgt := 13) (M := M_X12_carriedIn) (pc := 4) dX12_carriedIn_4 rfl (fun hc => ?_) (fun hc => ?_)
  · have hF := hF.1 hc
    refine aw_aload_n (j := 0) (M := M_X12_carriedIn) (pc := 13) dX12_carriedIn_13 rfl rfl ?_
    refine aw_sipush (M := M_X12_carriedIn) (pc := 14) dX12_carriedIn_14 ⟨rfl, ⟨by decide, by decide⟩⟩ ?_
    refine aw_cvv (as := [(0, 2688)]) (st := []) (M := M_X12_carriedIn) (pc := 17) (f_X12_keeps  hF) dX12_carriedIn_17 rfl (Or.inl ⟨_, _, _, rfl, rfl⟩) cy_X12_keeps ml_X12_350 (by decide) (by decide) (Nat.le_of_ble_eq_true rfl) (fun h3 hF => ?_)
    refine aw_aload_n (j := 0) (M := M_X12_carriedIn) (pc := 20) dX12_carriedIn_20 rfl rfl ?_
    refine aw_iload_n (j := 1) (M := M_X12_carriedIn) (pc := 21) dX12_carriedIn_21 rfl rfl ?_
    refine aw_cvi (as := [(0, a1)]) (st := []) (M := M_X12_carriedIn) (pc := 22) (f_X12_hoursGo  hF) dX12_carriedIn_22 rfl (Or.inl ⟨_, _, _, rfl, rfl⟩) cy_X12_hoursGo ml_X12_320 (by decide) (by decide) (Nat.le_of_ble_eq_true rfl) (fun r6 h5 hF => ?_)
    refine aw_pop (M := M_X12_carriedIn) (pc := 25) dX12_carriedIn_25 rfl ?_
    refine aw_aload_n (j := 0) (M := M_X12_carriedIn) (pc := 26) dX12_carriedIn_26 rfl rfl ?_
    refine aw_iconst (M := M_X12_carriedIn) (pc := 27) dX12_carriedIn_27 ⟨by decide, by decide⟩ ?_
    refine aw_cvi (as := [(0, 2)]) (st := []) (M := M_X12_carriedIn) (pc := 28) (f_X12_thingsThat  hF) dX12_carriedIn_28 rfl (Or.inl ⟨_, _, _, rfl, rfl⟩) cy_X12_thingsThat ml_X12_278 (by decide) (by decide) (Nat.le_of_ble_eq_true rfl) (fun r8 h7 hF => ?_)
    refine aw_istore_n (ls' := [(2, (0, r8)), (0, vr 161), (1, (0, a1))]) (M := M_X12_carriedIn) (pc := 31) dX12_carriedIn_31 rfl (by decide) rfl ?_
    refine aw_aload_n (j := 1) (M := M_X12_carriedIn) (pc := 32) dX12_carriedIn_32 rfl rfl ?_
    refine aw_sipush (M := M_X12_carriedIn) (pc := 33) dX12_carriedIn_33 ⟨rfl, ⟨by decide, by decide⟩⟩ ?_
    refine aw_cvv (as := [(0, 2688)]) (st := []) (M := M_X12_carriedIn) (pc := 36) (f_X12_restores  hF) dX12_carriedIn_36 rfl (Or.inl ⟨_, _, _, rfl, rfl⟩) cy_X12_restores ml_X12_353 (by decide) (by decide) (Nat.le_of_ble_eq_true rfl) (fun h9 hF => ?_)
    refine aw_aload_n (j := 1) (M := M_X12_carriedIn) (pc := 39) dX12_carriedIn_39 rfl rfl ?_
    refine aw_iload_n (j := 0) (M := M_X12_carriedIn) (pc := 40) dX12_carriedIn_40 rfl rfl ?_
    refine aw_cvi (as := [(0, r8)]) (st := []) (M := M_X12_carriedIn) (pc := 41) (f_X12_gives  hF) dX12_carriedIn_41 rfl (Or.inl ⟨_, _, _, rfl, rfl⟩) cy_X12_gives ml_X12_95 (by decide) (by decide) (Nat.le_of_ble_eq_true rfl) (fun r12 h11 hF => ?_)
    exact aw_ireti (M := M_X12_carriedIn) (pc := 44) dX12_carriedIn_44 rfl ⟨_, rfl, hF⟩
  · have hF := hF.2 hc
    refine aw_aload_n (j := 0) (M := M_X12_carriedIn) (pc := 7) dX12_carriedIn_7 rfl rfl ?_
    refine aw_iconst (M := M_X12_carriedIn) (pc := 8) dX12_carriedIn_8 ⟨by decide, by decide⟩ ?_
    refine aw_cvi (as := [(0, 1)]) (st := []) (M := M_X12_carriedIn) (pc := 9) (f_X12_refuse  hF) dX12_carriedIn_9 rfl (Or.inl ⟨_, _, _, rfl, rfl⟩) cy_X12_refuse ml_X12_91 (by decide) (by decide) (Nat.le_of_ble_eq_true rfl) (fun r14 h13 hF => ?_)
    exact aw_ireti (M := M_X12_carriedIn) (pc := 12) dX12_carriedIn_12 rfl ⟨_, rfl, hF⟩
abbrev M_X12_cellOf : Hd := (cX12_cellOf, 3, RX12, (some .int), (3, 87), sc0)
def F_X12_cellOf (h : Mem) (a1 : Int) (Q : Int → Mem → Prop) : Prop :=
  (F_X12_isThing h a1 (fun r2 h1 => ((¬ (r2 = 0) → (F_X12_thingOf h1 a1 3 (fun r4 h3 => ((¬ (r4 = 2) → ((¬ (r4 = 1) → (F_X12_refuse h3 6 (fun r6 h5 => Q r6 h5))) ∧ (r4 = 1 → (F_X12_thingOf h3 a1 4 (fun r8 h7 => (F_X12_gives h7 r8 (fun r10 h9 => Q r10 h9))))))) ∧ (r4 = 2 → (F_X12_gives h3 (h3 162 6) (fun r13 h12 => Q r13 h12))))))) ∧ (r2 = 0 → (F_X12_refuse h1 1 (fun r15 h14 => Q r15 h14))))))
set_option maxRecDepth 100000 in
set_option maxHeartbeats 4000000 in
theorem f_X12_cellOf {h : Mem} {a1 : Int} {Q : Int → Mem → Prop}  (hF : F_X12_cellOf h a1 Q) : Ct yX12_cellOf cX12_cellOf 3 (some .int) (3, 87) [vr 161, (0, a1)] h (qi Q) := by
  refine Ct.of np_RX12 (Nat.le_of_ble_eq_true rfl) ?_
  unfold F_X12_cellOf at hF
  show AW M_X12_cellOf 0 [(0, vr 161), (1, (0, a1))] [] h (qi Q)
  refine aw_aload_n (j := 0) (M := M_X12_cellOf) (pc := 0) dX12_cellOf_0 rfl rfl ?_
  refine aw_iload_n (j := 1) (M := M_X12_cellOf) (pc := 1) dX12_cellOf_1 rfl rfl ?_
  refine aw_cvi (as := [(0, a1)]) (st := []) (M := M_X12_cellOf) (pc := 2) (f_X12_isThing  hF) dX12_cellOf_2 rfl (Or.inl ⟨_, _, _, rfl, rfl⟩) cy_X12_isThing ml_X12_284 (by decide) (by decide) (Nat.le_of_ble_eq_true rfl) (fun r2 h1 hF => ?_)
  refine aw_if_ne (tgt := 14) (M := M_X12_cellOf) (pc := 5) dX12_cellOf_5 rfl (fun hc => ?_) (fun hc => ?_)
  · have hF := hF.1 hc
    refine aw_aload_n (j := 0) (M := M_X12_cellOf) (pc := 14) dX12_cellOf_14 rfl rfl ?_
    refine aw_iload_n (j := 1) (M := M_X12_cellOf) (pc := 15) dX12_cellOf_15 rfl rfl ?_
    refine aw_iconst (M := M_X12_cellOf) (pc := 16) dX12_cellOf_16 ⟨by decide, by decide⟩ ?_
    refine aw_cvi (as := [(0, a1), (0, 3)]) (st := []) (M := M_X12_cellOf) (pc := 17) (f_X12_thingOf  hF) dX12_cellOf_17 rfl (Or.inl ⟨_, _, _, rfl, rfl⟩) cy_X12_thingOf ml_X12_263 (by decide) (by decide) (Nat.le_of_ble_eq_true rfl) (fun r4 h3 hF => ?_)
    refine aw_istore_n (ls' := [(2, (0, r4)), (0, vr 161), (1, (0, a1))]) (M := M_X12_cellOf) (pc := 20) dX12_cellOf_20 rfl (by decide) rfl ?_
    refine aw_iload_n (j := 0) (M := M_X12_cellOf) (pc := 21) dX12_cellOf_21 rfl rfl ?_
    refine aw_iconst (M := M_X12_cellOf) (pc := 22) dX12_cellOf_22 ⟨by decide, by decide⟩ ?_
    refine aw_icmp_ne (tgt := 38) (M := M_X12_cellOf) (pc := 23) dX12_cellOf_23 rfl (fun hc => ?_) (fun hc => ?_)
    · have hF := hF.1 hc
      refine aw_iload_n (j := 0) (M := M_X12_cellOf) (pc := 38) dX12_cellOf_38 rfl rfl ?_
      refine aw_iconst (M := M_X12_cellOf) (pc := 39) dX12_cellOf_39 ⟨by decide, by decide⟩ ?_
      refine aw_icmp_ne (tgt := 56) (M := M_X12_cellOf) (pc := 40) dX12_cellOf_40 rfl (fun hc => ?_) (fun hc => ?_)
      · have hF := hF.1 hc
        refine aw_aload_n (j := 1) (M := M_X12_cellOf) (pc := 56) dX12_cellOf_56 rfl rfl ?_
        refine aw_bipush (M := M_X12_cellOf) (pc := 57) dX12_cellOf_57 ⟨rfl, ⟨by decide, by decide⟩⟩ ?_
        refine aw_cvi (as := [(0, 6)]) (st := []) (M := M_X12_cellOf) (pc := 59) (f_X12_refuse  hF) dX12_cellOf_59 rfl (Or.inl ⟨_, _, _, rfl, rfl⟩) cy_X12_refuse ml_X12_91 (by decide) (by decide) (Nat.le_of_ble_eq_true rfl) (fun r6 h5 hF => ?_)
        exact aw_ireti (M := M_X12_cellOf) (pc := 62) dX12_cellOf_62 rfl ⟨_, rfl, hF⟩
      · have hF := hF.2 hc
        refine aw_aload_n (j := 1) (M := M_X12_cellOf) (pc := 43) dX12_cellOf_43 rfl rfl ?_
        refine aw_aload_n (j := 1) (M := M_X12_cellOf) (pc := 44) dX12_cellOf_44 rfl rfl ?_
        refine aw_iload_n (j := 2) (M := M_X12_cellOf) (pc := 45) dX12_cellOf_45 rfl rfl ?_
        refine aw_iconst (M := M_X12_cellOf) (pc := 46) dX12_cellOf_46 ⟨by decide, by decide⟩ ?_
        refine aw_cvi (as := [(0, a1), (0, 4)]) (st := [vr 161]) (M := M_X12_cellOf) (pc := 47) (f_X12_thingOf  hF) dX12_cellOf_47 rfl (Or.inl ⟨_, _, _, rfl, rfl⟩) cy_X12_thingOf ml_X12_263 (by decide) (by decide) (Nat.le_of_ble_eq_true rfl) (fun r8 h7 hF => ?_)
        refine aw_cvi (as := [(0, r8)]) (st := []) (M := M_X12_cellOf) (pc := 50) (f_X12_gives  hF) dX12_cellOf_50 rfl (Or.inl ⟨_, _, _, rfl, rfl⟩) cy_X12_gives ml_X12_95 (by decide) (by decide) (Nat.le_of_ble_eq_true rfl) (fun r10 h9 hF => ?_)
        refine aw_goto (tgt := 62) (M := M_X12_cellOf) (pc := 53) dX12_cellOf_53 rfl ?_
        exact aw_ireti (M := M_X12_cellOf) (pc := 62) dX12_cellOf_62 rfl ⟨_, rfl, hF⟩
    · have hF := hF.2 hc
      refine aw_aload_n (j := 1) (M := M_X12_cellOf) (pc := 26) dX12_cellOf_26 rfl rfl ?_
      refine aw_aload_n (j := 1) (M := M_X12_cellOf) (pc := 27) dX12_cellOf_27 rfl rfl ?_
      refine gf_X12_7 (M := M_X12_cellOf) (pc := 28) rfl dX12_cellOf_28 rfl (r := 162) rfl ?_
      refine aw_bipush (M := M_X12_cellOf) (pc := 31) dX12_cellOf_31 ⟨rfl, ⟨by decide, by decide⟩⟩ ?_
      refine aw_iald (k := 6) (M := M_X12_cellOf) (pc := 33) dX12_cellOf_33 rfl ⟨by decide, by decide⟩ rfl ?_
      refine aw_cvi (as := [(0, h3 162 6)]) (st := []) (M := M_X12_cellOf) (pc := 34) (f_X12_gives  hF) dX12_cellOf_34 rfl (Or.inl ⟨_, _, _, rfl, rfl⟩) cy_X12_gives ml_X12_95 (by decide) (by decide) (Nat.le_of_ble_eq_true rfl) (fun r13 h12 hF => ?_)
      exact aw_ireti (M := M_X12_cellOf) (pc := 37) dX12_cellOf_37 rfl ⟨_, rfl, hF⟩
  · have hF := hF.2 hc
    refine aw_aload_n (j := 0) (M := M_X12_cellOf) (pc := 8) dX12_cellOf_8 rfl rfl ?_
    refine aw_iconst (M := M_X12_cellOf) (pc := 9) dX12_cellOf_9 ⟨by decide, by decide⟩ ?_
    refine aw_cvi (as := [(0, 1)]) (st := []) (M := M_X12_cellOf) (pc := 10) (f_X12_refuse  hF) dX12_cellOf_10 rfl (Or.inl ⟨_, _, _, rfl, rfl⟩) cy_X12_refuse ml_X12_91 (by decide) (by decide) (Nat.le_of_ble_eq_true rfl) (fun r15 h14 hF => ?_)
    exact aw_ireti (M := M_X12_cellOf) (pc := 13) dX12_cellOf_13 rfl ⟨_, rfl, hF⟩
abbrev M_X12_copies : Hd := (cX12_copies, 4, RX12, none, (1, 45), sc0)
def L_X12_copies_2 (h : Mem) (v1 : Int) (v2 : Int) (v3 : Int) (Q : Mem → Prop) : Prop := AW M_X12_copies 2 [(0, vr 161), (1, (0, v1)), (2, (0, v2)), (3, (0, v3))] [] h (qv Q)
def L_X12_copies_41 (h : Mem) (v1 : Int) (v2 : Int) (v3 : Int) (Q : Mem → Prop) : Prop := AW M_X12_copies 41 [(0, vr 161), (1, (0, v1)), (2, (0, v2)), (3, (0, v3))] [] h (qv Q)
def B_X12_copies_2 (h : Mem) (v1 : Int) (v2 : Int) (v3 : Int) (Q : Mem → Prop) : Prop :=
  ((448 ≤ v3 → L_X12_copies_41 h v1 v2 0 Q) ∧ (¬ (448 ≤ v3) → (InR (448 * v2) ∧ (InR ((448 * v2) + v3) ∧ (InR (448 * v1) ∧ (InR ((448 * v1) + v3) ∧ ((0 ≤ ((448 * v1) + v3) ∧ ((448 * v1) + v3) < 3008) ∧ ((0 ≤ ((448 * v2) + v3) ∧ ((448 * v2) + v3) < 3008) ∧ (∀ h8 : Mem, h8 = mset h 162 ((448 * v2) + v3).toNat (h 162 ((448 * v1) + v3).toNat) → (InR (v3 + 1) ∧ L_X12_copies_2 h8 v1 v2 (v3 + 1) Q))))))))))
set_option maxRecDepth 100000 in
set_option maxHeartbeats 4000000 in
theorem l_X12_copies_2 {h : Mem} {v1 : Int} {v2 : Int} {v3 : Int} {Q : Mem → Prop}  (hF : B_X12_copies_2 h v1 v2 v3 Q) : L_X12_copies_2 h v1 v2 v3 Q := by
  unfold B_X12_copies_2 at hF
  show AW M_X12_copies 2 [(0, vr 161), (1, (0, v1)), (2, (0, v2)), (3, (0, v3))] [] h (qv Q)
  refine aw_iload_n (j := 3) (M := M_X12_copies) (pc := 2) dX12_copies_2 rfl rfl ?_
  refine aw_sipush (M := M_X12_copies) (pc := 3) dX12_copies_3 ⟨rfl, ⟨by decide, by decide⟩⟩ ?_
  refine aw_icmp_ge (tgt := 39) (M := M_X12_copies) (pc := 6) dX12_copies_6 rfl (fun hc => ?_) (fun hc => ?_)
  · have hF := hF.1 hc
    refine aw_iconst (M := M_X12_copies) (pc := 39) dX12_copies_39 ⟨by decide, by decide⟩ ?_
    refine aw_istore_n (ls' := [(3, (0, 0)), (0, vr 161), (1, (0, v1)), (2, (0, v2))]) (M := M_X12_copies) (pc := 40) dX12_copies_40 rfl (by decide) rfl ?_
    exact aw_ls [1, 2, 3, 0] rfl hF
  · have hF := hF.2 hc
    refine aw_aload_n (j := 0) (M := M_X12_copies) (pc := 9) dX12_copies_9 rfl rfl ?_
    refine gf_X12_7 (M := M_X12_copies) (pc := 10) rfl dX12_copies_10 rfl (r := 162) rfl ?_
    refine aw_sipush (M := M_X12_copies) (pc := 13) dX12_copies_13 ⟨rfl, ⟨by decide, by decide⟩⟩ ?_
    refine aw_iload_n (j := 2) (M := M_X12_copies) (pc := 16) dX12_copies_16 rfl rfl ?_
    obtain ⟨o1, hF⟩ := hF
    refine aw_imul (M := M_X12_copies) (pc := 17) dX12_copies_17 rfl o1 ?_
    refine aw_iload_n (j := 3) (M := M_X12_copies) (pc := 18) dX12_copies_18 rfl rfl ?_
    obtain ⟨o2, hF⟩ := hF
    refine aw_iadd (M := M_X12_copies) (pc := 19) dX12_copies_19 rfl o2 ?_
    refine aw_aload_n (j := 0) (M := M_X12_copies) (pc := 20) dX12_copies_20 rfl rfl ?_
    refine gf_X12_7 (M := M_X12_copies) (pc := 21) rfl dX12_copies_21 rfl (r := 162) rfl ?_
    refine aw_sipush (M := M_X12_copies) (pc := 24) dX12_copies_24 ⟨rfl, ⟨by decide, by decide⟩⟩ ?_
    refine aw_iload_n (j := 1) (M := M_X12_copies) (pc := 27) dX12_copies_27 rfl rfl ?_
    obtain ⟨o3, hF⟩ := hF
    refine aw_imul (M := M_X12_copies) (pc := 28) dX12_copies_28 rfl o3 ?_
    refine aw_iload_n (j := 3) (M := M_X12_copies) (pc := 29) dX12_copies_29 rfl rfl ?_
    obtain ⟨o4, hF⟩ := hF
    refine aw_iadd (M := M_X12_copies) (pc := 30) dX12_copies_30 rfl o4 ?_
    obtain ⟨o6, hF⟩ := hF
    refine aw_iald (k := ((448 * v1) + v3).toNat) (M := M_X12_copies) (pc := 31) dX12_copies_31 rfl o6 rfl ?_
    obtain ⟨o7, hF⟩ := hF
    refine aw_iast (k := ((448 * v2) + v3).toNat) (M := M_X12_copies) (pc := 32) dX12_copies_32 rfl o7 rfl ?_
    obtain ⟨h8, eh8⟩ : ∃ y : Mem, y = mset h 162 ((448 * v2) + v3).toNat (h 162 ((448 * v1) + v3).toNat) := ⟨_, rfl⟩
    have hF := hF h8 eh8
    rw [← eh8]
    obtain ⟨o9, hF⟩ := hF
    refine aw_iinc (j := 3) (x := v3) (r := v3 + 1) (ls' := [(3, (0, v3 + 1)), (0, vr 161), (1, (0, v1)), (2, (0, v2))]) (M := M_X12_copies) (pc := 33) dX12_copies_33 rfl rfl o9 (by decide) rfl ?_
    refine aw_goto (tgt := 2) (M := M_X12_copies) (pc := 36) dX12_copies_36 rfl ?_
    exact aw_ls [1, 2, 3, 0] rfl hF
def B_X12_copies_41 (h : Mem) (v1 : Int) (v2 : Int) (v3 : Int) (Q : Mem → Prop) : Prop :=
  ((12 ≤ v3 → Q h) ∧ (¬ (12 ≤ v3) → (InR (12 * v2) ∧ (InR ((12 * v2) + v3) ∧ (InR (12 * v1) ∧ (InR ((12 * v1) + v3) ∧ ((0 ≤ ((12 * v1) + v3) ∧ ((12 * v1) + v3) < 72) ∧ ((0 ≤ ((12 * v2) + v3) ∧ ((12 * v2) + v3) < 72) ∧ (∀ h17 : Mem, h17 = mset h 163 ((12 * v2) + v3).toNat (h 163 ((12 * v1) + v3).toNat) → (InR (v3 + 1) ∧ L_X12_copies_41 h17 v1 v2 (v3 + 1) Q))))))))))
set_option maxRecDepth 100000 in
set_option maxHeartbeats 4000000 in
theorem l_X12_copies_41 {h : Mem} {v1 : Int} {v2 : Int} {v3 : Int} {Q : Mem → Prop}  (hF : B_X12_copies_41 h v1 v2 v3 Q) : L_X12_copies_41 h v1 v2 v3 Q := by
  unfold B_X12_copies_41 at hF
  show AW M_X12_copies 41 [(0, vr 161), (1, (0, v1)), (2, (0, v2)), (3, (0, v3))] [] h (qv Q)
  refine aw_iload_n (j := 3) (M := M_X12_copies) (pc := 41) dX12_copies_41 rfl rfl ?_
  refine aw_bipush (M := M_X12_copies) (pc := 42) dX12_copies_42 ⟨rfl, ⟨by decide, by decide⟩⟩ ?_
  refine aw_icmp_ge (tgt := 75) (M := M_X12_copies) (pc := 44) dX12_copies_44 rfl (fun hc => ?_) (fun hc => ?_)
  · have hF := hF.1 hc
    exact aw_ret (M := M_X12_copies) (pc := 75) dX12_copies_75 rfl ⟨rfl, hF⟩
  · have hF := hF.2 hc
    refine aw_aload_n (j := 0) (M := M_X12_copies) (pc := 47) dX12_copies_47 rfl rfl ?_
    refine gf_X12_13 (M := M_X12_copies) (pc := 48) rfl dX12_copies_48 rfl (r := 163) rfl ?_
    refine aw_bipush (M := M_X12_copies) (pc := 51) dX12_copies_51 ⟨rfl, ⟨by decide, by decide⟩⟩ ?_
    refine aw_iload_n (j := 2) (M := M_X12_copies) (pc := 53) dX12_copies_53 rfl rfl ?_
    obtain ⟨o10, hF⟩ := hF
    refine aw_imul (M := M_X12_copies) (pc := 54) dX12_copies_54 rfl o10 ?_
    refine aw_iload_n (j := 3) (M := M_X12_copies) (pc := 55) dX12_copies_55 rfl rfl ?_
    obtain ⟨o11, hF⟩ := hF
    refine aw_iadd (M := M_X12_copies) (pc := 56) dX12_copies_56 rfl o11 ?_
    refine aw_aload_n (j := 0) (M := M_X12_copies) (pc := 57) dX12_copies_57 rfl rfl ?_
    refine gf_X12_13 (M := M_X12_copies) (pc := 58) rfl dX12_copies_58 rfl (r := 163) rfl ?_
    refine aw_bipush (M := M_X12_copies) (pc := 61) dX12_copies_61 ⟨rfl, ⟨by decide, by decide⟩⟩ ?_
    refine aw_iload_n (j := 1) (M := M_X12_copies) (pc := 63) dX12_copies_63 rfl rfl ?_
    obtain ⟨o12, hF⟩ := hF
    refine aw_imul (M := M_X12_copies) (pc := 64) dX12_copies_64 rfl o12 ?_
    refine aw_iload_n (j := 3) (M := M_X12_copies) (pc := 65) dX12_copies_65 rfl rfl ?_
    obtain ⟨o13, hF⟩ := hF
    refine aw_iadd (M := M_X12_copies) (pc := 66) dX12_copies_66 rfl o13 ?_
    obtain ⟨o15, hF⟩ := hF
    refine aw_lald (k := ((12 * v1) + v3).toNat) (M := M_X12_copies) (pc := 67) dX12_copies_67 rfl o15 rfl ?_
    obtain ⟨o16, hF⟩ := hF
    refine aw_last (k := ((12 * v2) + v3).toNat) (M := M_X12_copies) (pc := 68) dX12_copies_68 rfl o16 rfl ?_
    obtain ⟨h17, eh17⟩ : ∃ y : Mem, y = mset h 163 ((12 * v2) + v3).toNat (h 163 ((12 * v1) + v3).toNat) := ⟨_, rfl⟩
    have hF := hF h17 eh17
    rw [← eh17]
    obtain ⟨o18, hF⟩ := hF
    refine aw_iinc (j := 3) (x := v3) (r := v3 + 1) (ls' := [(3, (0, v3 + 1)), (0, vr 161), (1, (0, v1)), (2, (0, v2))]) (M := M_X12_copies) (pc := 69) dX12_copies_69 rfl rfl o18 (by decide) rfl ?_
    refine aw_goto (tgt := 41) (M := M_X12_copies) (pc := 72) dX12_copies_72 rfl ?_
    exact aw_ls [1, 2, 3, 0] rfl hF
def F_X12_copies (h : Mem) (a1 : Int) (a2 : Int) (Q : Mem → Prop) : Prop :=
  L_X12_copies_2 h a1 a2 0 Q
set_option maxRecDepth 100000 in
set_option maxHeartbeats 4000000 in
theorem f_X12_copies {h : Mem} {a1 : Int} {a2 : Int} {Q : Mem → Prop}  (hF : F_X12_copies h a1 a2 Q) : Ct yX12_copies cX12_copies 4 none (1, 45) [vr 161, (0, a1), (0, a2)] h (qv Q) := by
  refine Ct.of np_RX12 (Nat.le_of_ble_eq_true rfl) ?_
  unfold F_X12_copies at hF
  show AW M_X12_copies 0 [(0, vr 161), (1, (0, a1)), (2, (0, a2))] [] h (qv Q)
  refine aw_iconst (M := M_X12_copies) (pc := 0) dX12_copies_0 ⟨by decide, by decide⟩ ?_
  refine aw_istore_n (ls' := [(3, (0, 0)), (0, vr 161), (1, (0, a1)), (2, (0, a2))]) (M := M_X12_copies) (pc := 1) dX12_copies_1 rfl (by decide) rfl ?_
  exact aw_ls [1, 2, 3, 0] rfl hF
abbrev M_X12_cut : Hd := (cX12_cut, 3, RX12, (some .long), (1, 45), sc0)
def F_X12_cut (h : Mem) (a1 : Int) (a2 : Int) (Q : Int → Mem → Prop) : Prop :=
  ((¬ (a2 = 0) → ((¬ (a2 = 1) → ((¬ (a2 = 2) → Q a1 h) ∧ (a2 = 2 → Q (l2i a1) h))) ∧ (a2 = 1 → Q (i2s (l2i a1)) h))) ∧ (a2 = 0 → Q (i2b (l2i a1)) h))
set_option maxRecDepth 100000 in
set_option maxHeartbeats 4000000 in
theorem f_X12_cut {h : Mem} {a1 : Int} {a2 : Int} {Q : Int → Mem → Prop}  (hF : F_X12_cut h a1 a2 Q) : Ct yX12_cut cX12_cut 3 (some .long) (1, 45) [(1, a1), (0, a2)] h (ql Q) := by
  refine Ct.of np_RX12 (Nat.le_of_ble_eq_true rfl) ?_
  unfold F_X12_cut at hF
  show AW M_X12_cut 0 [(0, (1, a1)), (2, (0, a2))] [] h (ql Q)
  refine aw_iload_n (j := 1) (M := M_X12_cut) (pc := 0) dX12_cut_0 rfl rfl ?_
  refine aw_if_ne (tgt := 11) (M := M_X12_cut) (pc := 1) dX12_cut_1 rfl (fun hc => ?_) (fun hc => ?_)
  · have hF := hF.1 hc
    refine aw_iload_n (j := 1) (M := M_X12_cut) (pc := 11) dX12_cut_11 rfl rfl ?_
    refine aw_iconst (M := M_X12_cut) (pc := 12) dX12_cut_12 ⟨by decide, by decide⟩ ?_
    refine aw_icmp_ne (tgt := 23) (M := M_X12_cut) (pc := 13) dX12_cut_13 rfl (fun hc => ?_) (fun hc => ?_)
    · have hF := hF.1 hc
      refine aw_iload_n (j := 1) (M := M_X12_cut) (pc := 23) dX12_cut_23 rfl rfl ?_
      refine aw_iconst (M := M_X12_cut) (pc := 24) dX12_cut_24 ⟨by decide, by decide⟩ ?_
      refine aw_icmp_ne (tgt := 34) (M := M_X12_cut) (pc := 25) dX12_cut_25 rfl (fun hc => ?_) (fun hc => ?_)
      · have hF := hF.1 hc
        refine aw_lload_n (j := 0) (M := M_X12_cut) (pc := 34) dX12_cut_34 rfl rfl ?_
        exact aw_lret (M := M_X12_cut) (pc := 35) dX12_cut_35 rfl ⟨_, rfl, hF⟩
      · have hF := hF.2 hc
        refine aw_lload_n (j := 0) (M := M_X12_cut) (pc := 28) dX12_cut_28 rfl rfl ?_
        refine aw_l2i (M := M_X12_cut) (pc := 29) dX12_cut_29 ?_
        refine aw_i2l (M := M_X12_cut) (pc := 30) dX12_cut_30 ?_
        refine aw_goto (tgt := 35) (M := M_X12_cut) (pc := 31) dX12_cut_31 rfl ?_
        exact aw_lret (M := M_X12_cut) (pc := 35) dX12_cut_35 rfl ⟨_, rfl, hF⟩
    · have hF := hF.2 hc
      refine aw_lload_n (j := 0) (M := M_X12_cut) (pc := 16) dX12_cut_16 rfl rfl ?_
      refine aw_l2i (M := M_X12_cut) (pc := 17) dX12_cut_17 ?_
      refine aw_i2s (M := M_X12_cut) (pc := 18) dX12_cut_18 ?_
      refine aw_i2l (M := M_X12_cut) (pc := 19) dX12_cut_19 ?_
      refine aw_goto (tgt := 35) (M := M_X12_cut) (pc := 20) dX12_cut_20 rfl ?_
      exact aw_lret (M := M_X12_cut) (pc := 35) dX12_cut_35 rfl ⟨_, rfl, hF⟩
  · have hF := hF.2 hc
    refine aw_lload_n (j := 0) (M := M_X12_cut) (pc := 4) dX12_cut_4 rfl rfl ?_
    refine aw_l2i (M := M_X12_cut) (pc := 5) dX12_cut_5 ?_
    refine aw_i2b (M := M_X12_cut) (pc := 6) dX12_cut_6 ?_
    refine aw_i2l (M := M_X12_cut) (pc := 7) dX12_cut_7 ?_
    refine aw_goto (tgt := 35) (M := M_X12_cut) (pc := 8) dX12_cut_8 rfl ?_
    exact aw_lret (M := M_X12_cut) (pc := 35) dX12_cut_35 rfl ⟨_, rfl, hF⟩
abbrev M_X12_copyHours : Hd := (cX12_copyHours, 3, RX12, (some .int), (3, 87), sc0)
def L_X12_copyHours_52 (h : Mem) (v1 : Int) (v2 : Int) (Q : Int → Mem → Prop) : Prop := AW M_X12_copyHours 52 [(0, vr 161), (1, (0, v1)), (2, (0, v2))] [] h (qi Q)
def B_X12_copyHours_52 (h : Mem) (v1 : Int) (v2 : Int) (Q : Int → Mem → Prop) : Prop :=
  (((h 162 0) ≤ v2 → (F_X12_gives h (h 162 0) (fun r16 h15 => Q r16 h15))) ∧ (¬ ((h 162 0) ≤ v2) → (InR (60 * v1) ∧ (InR ((60 * v1) + v2) ∧ (F_X12_thingOf h v2 5 (fun r20 h19 => ((0 ≤ v1 ∧ v1 < 4) ∧ (F_X12_cut h19 r20 (h19 164 (v1).toNat) (fun r24 h23 => ((0 ≤ ((60 * v1) + v2) ∧ ((60 * v1) + v2) < 240) ∧ (∀ h26 : Mem, h26 = mset h23 166 ((60 * v1) + v2).toNat r24 → (InR (v2 + 1) ∧ L_X12_copyHours_52 h26 v1 (v2 + 1) Q))))))))))))
set_option maxRecDepth 100000 in
set_option maxHeartbeats 4000000 in
theorem l_X12_copyHours_52 {h : Mem} {v1 : Int} {v2 : Int} {Q : Int → Mem → Prop}  (hF : B_X12_copyHours_52 h v1 v2 Q) : L_X12_copyHours_52 h v1 v2 Q := by
  unfold B_X12_copyHours_52 at hF
  show AW M_X12_copyHours 52 [(0, vr 161), (1, (0, v1)), (2, (0, v2))] [] h (qi Q)
  refine aw_iload_n (j := 2) (M := M_X12_copyHours) (pc := 52) dX12_copyHours_52 rfl rfl ?_
  refine aw_aload_n (j := 0) (M := M_X12_copyHours) (pc := 53) dX12_copyHours_53 rfl rfl ?_
  refine gf_X12_7 (M := M_X12_copyHours) (pc := 54) rfl dX12_copyHours_54 rfl (r := 162) rfl ?_
  refine aw_iconst (M := M_X12_copyHours) (pc := 57) dX12_copyHours_57 ⟨by decide, by decide⟩ ?_
  refine aw_iald (k := 0) (M := M_X12_copyHours) (pc := 58) dX12_copyHours_58 rfl ⟨by decide, by decide⟩ rfl ?_
  refine aw_icmp_ge (tgt := 95) (M := M_X12_copyHours) (pc := 59) dX12_copyHours_59 rfl (fun hc => ?_) (fun hc => ?_)
  · have hF := hF.1 hc
    refine aw_aload_n (j := 0) (M := M_X12_copyHours) (pc := 95) dX12_copyHours_95 rfl rfl ?_
    refine aw_aload_n (j := 0) (M := M_X12_copyHours) (pc := 96) dX12_copyHours_96 rfl rfl ?_
    refine gf_X12_7 (M := M_X12_copyHours) (pc := 97) rfl dX12_copyHours_97 rfl (r := 162) rfl ?_
    refine aw_iconst (M := M_X12_copyHours) (pc := 100) dX12_copyHours_100 ⟨by decide, by decide⟩ ?_
    refine aw_iald (k := 0) (M := M_X12_copyHours) (pc := 101) dX12_copyHours_101 rfl ⟨by decide, by decide⟩ rfl ?_
    refine aw_cvi (as := [(0, h 162 0)]) (st := []) (M := M_X12_copyHours) (pc := 102) (f_X12_gives  hF) dX12_copyHours_102 rfl (Or.inl ⟨_, _, _, rfl, rfl⟩) cy_X12_gives ml_X12_95 (by decide) (by decide) (Nat.le_of_ble_eq_true rfl) (fun r16 h15 hF => ?_)
    exact aw_ireti (M := M_X12_copyHours) (pc := 105) dX12_copyHours_105 rfl ⟨_, rfl, hF⟩
  · have hF := hF.2 hc
    refine aw_aload_n (j := 0) (M := M_X12_copyHours) (pc := 62) dX12_copyHours_62 rfl rfl ?_
    refine gf_X12_27 (M := M_X12_copyHours) (pc := 63) rfl dX12_copyHours_63 rfl (r := 166) rfl ?_
    refine aw_bipush (M := M_X12_copyHours) (pc := 66) dX12_copyHours_66 ⟨rfl, ⟨by decide, by decide⟩⟩ ?_
    refine aw_iload_n (j := 1) (M := M_X12_copyHours) (pc := 68) dX12_copyHours_68 rfl rfl ?_
    obtain ⟨o17, hF⟩ := hF
    refine aw_imul (M := M_X12_copyHours) (pc := 69) dX12_copyHours_69 rfl o17 ?_
    refine aw_iload_n (j := 2) (M := M_X12_copyHours) (pc := 70) dX12_copyHours_70 rfl rfl ?_
    obtain ⟨o18, hF⟩ := hF
    refine aw_iadd (M := M_X12_copyHours) (pc := 71) dX12_copyHours_71 rfl o18 ?_
    refine aw_aload_n (j := 0) (M := M_X12_copyHours) (pc := 72) dX12_copyHours_72 rfl rfl ?_
    refine aw_iload_n (j := 2) (M := M_X12_copyHours) (pc := 73) dX12_copyHours_73 rfl rfl ?_
    refine aw_iconst (M := M_X12_copyHours) (pc := 74) dX12_copyHours_74 ⟨by decide, by decide⟩ ?_
    refine aw_cvi (as := [(0, v2), (0, 5)]) (st := [(0, (60 * v1) + v2), vr 166]) (M := M_X12_copyHours) (pc := 75) (f_X12_thingOf  hF) dX12_copyHours_75 rfl (Or.inl ⟨_, _, _, rfl, rfl⟩) cy_X12_thingOf ml_X12_263 (by decide) (by decide) (Nat.le_of_ble_eq_true rfl) (fun r20 h19 hF => ?_)
    refine aw_i2l (M := M_X12_copyHours) (pc := 78) dX12_copyHours_78 ?_
    refine aw_aload_n (j := 0) (M := M_X12_copyHours) (pc := 79) dX12_copyHours_79 rfl rfl ?_
    refine gf_X12_21 (M := M_X12_copyHours) (pc := 80) rfl dX12_copyHours_80 rfl (r := 164) rfl ?_
    refine aw_iload_n (j := 1) (M := M_X12_copyHours) (pc := 83) dX12_copyHours_83 rfl rfl ?_
    obtain ⟨o22, hF⟩ := hF
    refine aw_iald (k := (v1).toNat) (M := M_X12_copyHours) (pc := 84) dX12_copyHours_84 rfl o22 rfl ?_
    refine aw_csl (as := [(1, r20), (0, h19 164 (v1).toNat)]) (st := [(0, (60 * v1) + v2), vr 166]) (M := M_X12_copyHours) (pc := 85) (f_X12_cut  hF) dX12_copyHours_85 rfl cy_X12_cut ml_X12_109 (by decide) (by decide) (Nat.le_of_ble_eq_true rfl) (fun r24 h23 hF => ?_)
    obtain ⟨o25, hF⟩ := hF
    refine aw_last (k := ((60 * v1) + v2).toNat) (M := M_X12_copyHours) (pc := 88) dX12_copyHours_88 rfl o25 rfl ?_
    obtain ⟨h26, eh26⟩ : ∃ y : Mem, y = mset h23 166 ((60 * v1) + v2).toNat r24 := ⟨_, rfl⟩
    have hF := hF h26 eh26
    rw [← eh26]
    obtain ⟨o27, hF⟩ := hF
    refine aw_iinc (j := 2) (x := v2) (r := v2 + 1) (ls' := [(2, (0, v2 + 1)), (0, vr 161), (1, (0, v1))]) (M := M_X12_copyHours) (pc := 89) dX12_copyHours_89 rfl rfl o27 (by decide) rfl ?_
    refine aw_goto (tgt := 52) (M := M_X12_copyHours) (pc := 92) dX12_copyHours_92 rfl ?_
    exact aw_ls [1, 2, 0] rfl hF
def F_X12_copyHours (h : Mem) (a1 : Int) (Q : Int → Mem → Prop) : Prop :=
  (F_X12_isTray h a1 (fun r2 h1 => ((¬ (r2 = 0) → ((0 ≤ a1 ∧ a1 < 4) ∧ ((¬ ((h1 165 (a1).toNat) = (-1)) → (((h1 162 0) ≤ (h1 165 (a1).toNat) → L_X12_copyHours_52 h1 a1 0 Q) ∧ (¬ ((h1 162 0) ≤ (h1 165 (a1).toNat)) → (F_X12_refuse h1 3 (fun r8 h7 => Q r8 h7))))) ∧ ((h1 165 (a1).toNat) = (-1) → (F_X12_refuse h1 2 (fun r10 h9 => Q r10 h9)))))) ∧ (r2 = 0 → (F_X12_refuse h1 1 (fun r12 h11 => Q r12 h11))))))
set_option maxRecDepth 100000 in
set_option maxHeartbeats 4000000 in
theorem f_X12_copyHours {h : Mem} {a1 : Int} {Q : Int → Mem → Prop}  (hF : F_X12_copyHours h a1 Q) : Ct yX12_copyHours cX12_copyHours 3 (some .int) (3, 87) [vr 161, (0, a1)] h (qi Q) := by
  refine Ct.of np_RX12 (Nat.le_of_ble_eq_true rfl) ?_
  unfold F_X12_copyHours at hF
  show AW M_X12_copyHours 0 [(0, vr 161), (1, (0, a1))] [] h (qi Q)
  refine aw_iload_n (j := 1) (M := M_X12_copyHours) (pc := 0) dX12_copyHours_0 rfl rfl ?_
  refine aw_csi (as := [(0, a1)]) (st := []) (M := M_X12_copyHours) (pc := 1) (f_X12_isTray  hF) dX12_copyHours_1 rfl cy_X12_isTray ml_X12_102 (by decide) (by decide) (Nat.le_of_ble_eq_true rfl) (fun r2 h1 hF => ?_)
  refine aw_if_ne (tgt := 13) (M := M_X12_copyHours) (pc := 4) dX12_copyHours_4 rfl (fun hc => ?_) (fun hc => ?_)
  · have hF := hF.1 hc
    refine aw_aload_n (j := 0) (M := M_X12_copyHours) (pc := 13) dX12_copyHours_13 rfl rfl ?_
    refine gf_X12_24 (M := M_X12_copyHours) (pc := 14) rfl dX12_copyHours_14 rfl (r := 165) rfl ?_
    refine aw_iload_n (j := 1) (M := M_X12_copyHours) (pc := 17) dX12_copyHours_17 rfl rfl ?_
    obtain ⟨o4, hF⟩ := hF
    refine aw_iald (k := (a1).toNat) (M := M_X12_copyHours) (pc := 18) dX12_copyHours_18 rfl o4 rfl ?_
    refine aw_iconst (M := M_X12_copyHours) (pc := 19) dX12_copyHours_19 ⟨by decide, by decide⟩ ?_
    refine aw_icmp_ne (tgt := 29) (M := M_X12_copyHours) (pc := 20) dX12_copyHours_20 rfl (fun hc => ?_) (fun hc => ?_)
    · have hF := hF.1 hc
      refine aw_aload_n (j := 0) (M := M_X12_copyHours) (pc := 29) dX12_copyHours_29 rfl rfl ?_
      refine gf_X12_24 (M := M_X12_copyHours) (pc := 30) rfl dX12_copyHours_30 rfl (r := 165) rfl ?_
      refine aw_iload_n (j := 1) (M := M_X12_copyHours) (pc := 33) dX12_copyHours_33 rfl rfl ?_
      refine aw_iald (k := (a1).toNat) (M := M_X12_copyHours) (pc := 34) dX12_copyHours_34 rfl o4 rfl ?_
      refine aw_aload_n (j := 0) (M := M_X12_copyHours) (pc := 35) dX12_copyHours_35 rfl rfl ?_
      refine gf_X12_7 (M := M_X12_copyHours) (pc := 36) rfl dX12_copyHours_36 rfl (r := 162) rfl ?_
      refine aw_iconst (M := M_X12_copyHours) (pc := 39) dX12_copyHours_39 ⟨by decide, by decide⟩ ?_
      refine aw_iald (k := 0) (M := M_X12_copyHours) (pc := 40) dX12_copyHours_40 rfl ⟨by decide, by decide⟩ rfl ?_
      refine aw_icmp_ge (tgt := 50) (M := M_X12_copyHours) (pc := 41) dX12_copyHours_41 rfl (fun hc => ?_) (fun hc => ?_)
      · have hF := hF.1 hc
        refine aw_iconst (M := M_X12_copyHours) (pc := 50) dX12_copyHours_50 ⟨by decide, by decide⟩ ?_
        refine aw_istore_n (ls' := [(2, (0, 0)), (0, vr 161), (1, (0, a1))]) (M := M_X12_copyHours) (pc := 51) dX12_copyHours_51 rfl (by decide) rfl ?_
        exact aw_ls [1, 2, 0] rfl hF
      · have hF := hF.2 hc
        refine aw_aload_n (j := 0) (M := M_X12_copyHours) (pc := 44) dX12_copyHours_44 rfl rfl ?_
        refine aw_iconst (M := M_X12_copyHours) (pc := 45) dX12_copyHours_45 ⟨by decide, by decide⟩ ?_
        refine aw_cvi (as := [(0, 3)]) (st := []) (M := M_X12_copyHours) (pc := 46) (f_X12_refuse  hF) dX12_copyHours_46 rfl (Or.inl ⟨_, _, _, rfl, rfl⟩) cy_X12_refuse ml_X12_91 (by decide) (by decide) (Nat.le_of_ble_eq_true rfl) (fun r8 h7 hF => ?_)
        exact aw_ireti (M := M_X12_copyHours) (pc := 49) dX12_copyHours_49 rfl ⟨_, rfl, hF⟩
    · have hF := hF.2 hc
      refine aw_aload_n (j := 0) (M := M_X12_copyHours) (pc := 23) dX12_copyHours_23 rfl rfl ?_
      refine aw_iconst (M := M_X12_copyHours) (pc := 24) dX12_copyHours_24 ⟨by decide, by decide⟩ ?_
      refine aw_cvi (as := [(0, 2)]) (st := []) (M := M_X12_copyHours) (pc := 25) (f_X12_refuse  hF) dX12_copyHours_25 rfl (Or.inl ⟨_, _, _, rfl, rfl⟩) cy_X12_refuse ml_X12_91 (by decide) (by decide) (Nat.le_of_ble_eq_true rfl) (fun r10 h9 hF => ?_)
      exact aw_ireti (M := M_X12_copyHours) (pc := 28) dX12_copyHours_28 rfl ⟨_, rfl, hF⟩
  · have hF := hF.2 hc
    refine aw_aload_n (j := 0) (M := M_X12_copyHours) (pc := 7) dX12_copyHours_7 rfl rfl ?_
    refine aw_iconst (M := M_X12_copyHours) (pc := 8) dX12_copyHours_8 ⟨by decide, by decide⟩ ?_
    refine aw_cvi (as := [(0, 1)]) (st := []) (M := M_X12_copyHours) (pc := 9) (f_X12_refuse  hF) dX12_copyHours_9 rfl (Or.inl ⟨_, _, _, rfl, rfl⟩) cy_X12_refuse ml_X12_91 (by decide) (by decide) (Nat.le_of_ble_eq_true rfl) (fun r12 h11 hF => ?_)
    exact aw_ireti (M := M_X12_copyHours) (pc := 12) dX12_copyHours_12 rfl ⟨_, rfl, hF⟩
abbrev M_X12_isSign : Hd := (cX12_isSign, 2, RX12, (some .boolean), (1, 45), sc0)
def F_X12_isSign (h : Mem) (a1 : Int) (Q : Int → Mem → Prop) : Prop :=
  ((¬ ((h 161 12) = 4) → Q 0 h) ∧ ((h 161 12) = 4 → ((¬ ((h 161 15) = a1) → Q 0 h) ∧ ((h 161 15) = a1 → Q 1 h))))
set_option maxRecDepth 100000 in
set_option maxHeartbeats 4000000 in
theorem f_X12_isSign {h : Mem} {a1 : Int} {Q : Int → Mem → Prop}  (hF : F_X12_isSign h a1 Q) : Ct yX12_isSign cX12_isSign 2 (some .boolean) (1, 45) [vr 161, (0, a1)] h (qi Q) := by
  refine Ct.of np_RX12 (Nat.le_of_ble_eq_true rfl) ?_
  unfold F_X12_isSign at hF
  show AW M_X12_isSign 0 [(0, vr 161), (1, (0, a1))] [] h (qi Q)
  refine aw_aload_n (j := 0) (M := M_X12_isSign) (pc := 0) dX12_isSign_0 rfl rfl ?_
  refine gf_X12_136 (M := M_X12_isSign) (pc := 1) rfl dX12_isSign_1 rfl ?_
  refine aw_iconst (M := M_X12_isSign) (pc := 4) dX12_isSign_4 ⟨by decide, by decide⟩ ?_
  refine aw_icmp_ne (tgt := 20) (M := M_X12_isSign) (pc := 5) dX12_isSign_5 rfl (fun hc => ?_) (fun hc => ?_)
  · have hF := hF.1 hc
    refine aw_iconst (M := M_X12_isSign) (pc := 20) dX12_isSign_20 ⟨by decide, by decide⟩ ?_
    exact aw_iretz (M := M_X12_isSign) (pc := 21) dX12_isSign_21 rfl (Or.inl rfl) ⟨_, rfl, hF⟩
  · have hF := hF.2 hc
    refine aw_aload_n (j := 0) (M := M_X12_isSign) (pc := 8) dX12_isSign_8 rfl rfl ?_
    refine gf_X12_133 (M := M_X12_isSign) (pc := 9) rfl dX12_isSign_9 rfl ?_
    refine aw_iload_n (j := 1) (M := M_X12_isSign) (pc := 12) dX12_isSign_12 rfl rfl ?_
    refine aw_icmp_ne (tgt := 20) (M := M_X12_isSign) (pc := 13) dX12_isSign_13 rfl (fun hc => ?_) (fun hc => ?_)
    · have hF := hF.1 hc
      refine aw_iconst (M := M_X12_isSign) (pc := 20) dX12_isSign_20 ⟨by decide, by decide⟩ ?_
      exact aw_iretz (M := M_X12_isSign) (pc := 21) dX12_isSign_21 rfl (Or.inl rfl) ⟨_, rfl, hF⟩
    · have hF := hF.2 hc
      refine aw_iconst (M := M_X12_isSign) (pc := 16) dX12_isSign_16 ⟨by decide, by decide⟩ ?_
      refine aw_goto (tgt := 21) (M := M_X12_isSign) (pc := 17) dX12_isSign_17 rfl ?_
      exact aw_iretz (M := M_X12_isSign) (pc := 21) dX12_isSign_21 rfl (Or.inr rfl) ⟨_, rfl, hF⟩
abbrev M_X12_oldOne : Hd := (cX12_oldOne, 4, RX12, (some .boolean), (7, 177), sc0)
def F_X12_oldOne (h : Mem) (a1 : Int) (a2 : Int) (a3 : Int) (Q : Int → Mem → Prop) : Prop :=
  (F_X12_isName h  (fun r2 h1 => ((¬ (r2 = 0) → (F_X12_findHere h1 a1 a2 (fun r4 h3 => ((0 ≤ a3 ∧ a3 < 3008) ∧ (∀ h6 : Mem, h6 = mset h3 162 (a3).toNat r4 → ((¬ ((h6 162 (a3).toNat) = (-1)) → (F_X12_ahead h6  (fun h8 => Q 1 h8))) ∧ ((h6 162 (a3).toNat) = (-1) → (F_X12_fails h6 3 (fun r11 h10 => (InZ r11 ∧ Q r11 h10)))))))))) ∧ (r2 = 0 → (F_X12_fails h1 2 (fun r13 h12 => (InZ r13 ∧ Q r13 h12)))))))
set_option maxRecDepth 100000 in
set_option maxHeartbeats 4000000 in
theorem f_X12_oldOne {h : Mem} {a1 : Int} {a2 : Int} {a3 : Int} {Q : Int → Mem → Prop}  (hF : F_X12_oldOne h a1 a2 a3 Q) : Ct yX12_oldOne cX12_oldOne 4 (some .boolean) (7, 177) [vr 161, (0, a1), (0, a2), (0, a3)] h (qi Q) := by
  refine Ct.of np_RX12 (Nat.le_of_ble_eq_true rfl) ?_
  unfold F_X12_oldOne at hF
  show AW M_X12_oldOne 0 [(0, vr 161), (1, (0, a1)), (2, (0, a2)), (3, (0, a3))] [] h (qi Q)
  refine aw_aload_n (j := 0) (M := M_X12_oldOne) (pc := 0) dX12_oldOne_0 rfl rfl ?_
  refine aw_ldcM (M := M_X12_oldOne) (pc := 1) rfl dX12_oldOne_1 ?_
  refine aw_cvi (as := [vr 183]) (st := []) (M := M_X12_oldOne) (pc := 3) (f_X12_isName  hF) dX12_oldOne_3 rfl (Or.inl ⟨_, _, _, rfl, rfl⟩) cy_X12_isName ml_X12_186 (by decide) (by decide) (Nat.le_of_ble_eq_true rfl) (fun r2 h1 hF => ?_)
  refine aw_if_ne (tgt := 15) (M := M_X12_oldOne) (pc := 6) dX12_oldOne_6 rfl (fun hc => ?_) (fun hc => ?_)
  · have hF := hF.1 hc
    refine aw_aload_n (j := 0) (M := M_X12_oldOne) (pc := 15) dX12_oldOne_15 rfl rfl ?_
    refine gf_X12_7 (M := M_X12_oldOne) (pc := 16) rfl dX12_oldOne_16 rfl (r := 162) rfl ?_
    refine aw_iload_n (j := 3) (M := M_X12_oldOne) (pc := 19) dX12_oldOne_19 rfl rfl ?_
    refine aw_aload_n (j := 0) (M := M_X12_oldOne) (pc := 20) dX12_oldOne_20 rfl rfl ?_
    refine aw_iload_n (j := 1) (M := M_X12_oldOne) (pc := 21) dX12_oldOne_21 rfl rfl ?_
    refine aw_iload_n (j := 2) (M := M_X12_oldOne) (pc := 22) dX12_oldOne_22 rfl rfl ?_
    refine aw_cvi (as := [(0, a1), (0, a2)]) (st := [(0, a3), vr 162]) (M := M_X12_oldOne) (pc := 23) (f_X12_findHere  hF) dX12_oldOne_23 rfl (Or.inl ⟨_, _, _, rfl, rfl⟩) cy_X12_findHere ml_X12_190 (by decide) (by decide) (Nat.le_of_ble_eq_true rfl) (fun r4 h3 hF => ?_)
    obtain ⟨o5, hF⟩ := hF
    refine aw_iast (k := (a3).toNat) (M := M_X12_oldOne) (pc := 26) dX12_oldOne_26 rfl o5 rfl ?_
    obtain ⟨h6, eh6⟩ : ∃ y : Mem, y = mset h3 162 (a3).toNat r4 := ⟨_, rfl⟩
    have hF := hF h6 eh6
    rw [← eh6]
    refine aw_aload_n (j := 0) (M := M_X12_oldOne) (pc := 27) dX12_oldOne_27 rfl rfl ?_
    refine gf_X12_7 (M := M_X12_oldOne) (pc := 28) rfl dX12_oldOne_28 rfl (r := 162) rfl ?_
    refine aw_iload_n (j := 3) (M := M_X12_oldOne) (pc := 31) dX12_oldOne_31 rfl rfl ?_
    refine aw_iald (k := (a3).toNat) (M := M_X12_oldOne) (pc := 32) dX12_oldOne_32 rfl o5 rfl ?_
    refine aw_iconst (M := M_X12_oldOne) (pc := 33) dX12_oldOne_33 ⟨by decide, by decide⟩ ?_
    refine aw_icmp_ne (tgt := 43) (M := M_X12_oldOne) (pc := 34) dX12_oldOne_34 rfl (fun hc => ?_) (fun hc => ?_)
    · have hF := hF.1 hc
      refine aw_aload_n (j := 0) (M := M_X12_oldOne) (pc := 43) dX12_oldOne_43 rfl rfl ?_
      refine aw_cvv (as := []) (st := []) (M := M_X12_oldOne) (pc := 44) (f_X12_ahead  hF) dX12_oldOne_44 rfl (Or.inl ⟨_, _, _, rfl, rfl⟩) cy_X12_ahead ml_X12_167 (by decide) (by decide) (Nat.le_of_ble_eq_true rfl) (fun h8 hF => ?_)
      refine aw_iconst (M := M_X12_oldOne) (pc := 47) dX12_oldOne_47 ⟨by decide, by decide⟩ ?_
      exact aw_iretz (M := M_X12_oldOne) (pc := 48) dX12_oldOne_48 rfl (Or.inr rfl) ⟨_, rfl, hF⟩
    · have hF := hF.2 hc
      refine aw_aload_n (j := 0) (M := M_X12_oldOne) (pc := 37) dX12_oldOne_37 rfl rfl ?_
      refine aw_iconst (M := M_X12_oldOne) (pc := 38) dX12_oldOne_38 ⟨by decide, by decide⟩ ?_
      refine aw_cvi (as := [(0, 3)]) (st := []) (M := M_X12_oldOne) (pc := 39) (f_X12_fails  hF) dX12_oldOne_39 rfl (Or.inl ⟨_, _, _, rfl, rfl⟩) cy_X12_fails ml_X12_173 (by decide) (by decide) (Nat.le_of_ble_eq_true rfl) (fun r11 h10 hF => ?_)
      exact aw_iretz (M := M_X12_oldOne) (pc := 42) dX12_oldOne_42 rfl hF.1 ⟨_, rfl, hF.2⟩
  · have hF := hF.2 hc
    refine aw_aload_n (j := 0) (M := M_X12_oldOne) (pc := 9) dX12_oldOne_9 rfl rfl ?_
    refine aw_iconst (M := M_X12_oldOne) (pc := 10) dX12_oldOne_10 ⟨by decide, by decide⟩ ?_
    refine aw_cvi (as := [(0, 2)]) (st := []) (M := M_X12_oldOne) (pc := 11) (f_X12_fails  hF) dX12_oldOne_11 rfl (Or.inl ⟨_, _, _, rfl, rfl⟩) cy_X12_fails ml_X12_173 (by decide) (by decide) (Nat.le_of_ble_eq_true rfl) (fun r13 h12 hF => ?_)
    exact aw_iretz (M := M_X12_oldOne) (pc := 14) dX12_oldOne_14 rfl hF.1 ⟨_, rfl, hF.2⟩
abbrev M_X12_thingTo : Hd := (cX12_thingTo, 2, RX12, (some .boolean), (8, 200), sc0)
def F_X12_thingTo (h : Mem) (a1 : Int) (Q : Int → Mem → Prop) : Prop :=
  (F_X12_oldOne h 0 (h 162 0) a1 (fun r3 h2 => (InZ r3 ∧ Q r3 h2)))
set_option maxRecDepth 100000 in
set_option maxHeartbeats 4000000 in
theorem f_X12_thingTo {h : Mem} {a1 : Int} {Q : Int → Mem → Prop}  (hF : F_X12_thingTo h a1 Q) : Ct yX12_thingTo cX12_thingTo 2 (some .boolean) (8, 200) [vr 161, (0, a1)] h (qi Q) := by
  refine Ct.of np_RX12 (Nat.le_of_ble_eq_true rfl) ?_
  unfold F_X12_thingTo at hF
  show AW M_X12_thingTo 0 [(0, vr 161), (1, (0, a1))] [] h (qi Q)
  refine aw_aload_n (j := 0) (M := M_X12_thingTo) (pc := 0) dX12_thingTo_0 rfl rfl ?_
  refine aw_iconst (M := M_X12_thingTo) (pc := 1) dX12_thingTo_1 ⟨by decide, by decide⟩ ?_
  refine aw_aload_n (j := 0) (M := M_X12_thingTo) (pc := 2) dX12_thingTo_2 rfl rfl ?_
  refine gf_X12_7 (M := M_X12_thingTo) (pc := 3) rfl dX12_thingTo_3 rfl (r := 162) rfl ?_
  refine aw_iconst (M := M_X12_thingTo) (pc := 6) dX12_thingTo_6 ⟨by decide, by decide⟩ ?_
  refine aw_iald (k := 0) (M := M_X12_thingTo) (pc := 7) dX12_thingTo_7 rfl ⟨by decide, by decide⟩ rfl ?_
  refine aw_iload_n (j := 1) (M := M_X12_thingTo) (pc := 8) dX12_thingTo_8 rfl rfl ?_
  refine aw_cvi (as := [(0, 0), (0, h 162 0), (0, a1)]) (st := []) (M := M_X12_thingTo) (pc := 9) (f_X12_oldOne  hF) dX12_thingTo_9 rfl (Or.inl ⟨_, _, _, rfl, rfl⟩) cy_X12_oldOne ml_X12_242 (by decide) (by decide) (Nat.le_of_ble_eq_true rfl) (fun r3 h2 hF => ?_)
  exact aw_iretz (M := M_X12_thingTo) (pc := 12) dX12_thingTo_12 rfl hF.1 ⟨_, rfl, hF.2⟩
abbrev M_X12_test : Hd := (cX12_test, 4, RX12, (some .boolean), (9, 221), sc0)
def J_X12_test_168 (h : Mem) (v1 : Int) (v2 : Int) (Q : Int → Mem → Prop) : Prop :=
  (InR (v1 + 5) ∧ ((0 ≤ (v1 + 5) ∧ (v1 + 5) < 3008) ∧ (∀ h37 : Mem, h37 = mset h 162 (v1 + 5).toNat (h 161 15) → (F_X12_ahead h37  (fun h38 => (InR (v1 + 2) ∧ ((¬ (v2 = 13) → (F_X12_number h38 (v1 + 2) 0 9999 (fun r42 h41 => (InZ r42 ∧ Q r42 h41)))) ∧ (v2 = 13 → (F_X12_number h38 (v1 + 2) 0 15 (fun r44 h43 => (InZ r44 ∧ Q r44 h43)))))))))))
set_option maxRecDepth 100000 in
set_option maxHeartbeats 4000000 in
theorem j_X12_test_168 {h : Mem} {v1 : Int} {v2 : Int} {Q : Int → Mem → Prop}  (hF : J_X12_test_168 h v1 v2 Q) : AW M_X12_test 168 [(0, vr 161), (1, (0, v1)), (2, (0, v2))] [] h (qi Q) := by
  unfold J_X12_test_168 at hF
  refine aw_aload_n (j := 0) (M := M_X12_test) (pc := 168) dX12_test_168 rfl rfl ?_
  refine gf_X12_7 (M := M_X12_test) (pc := 169) rfl dX12_test_169 rfl (r := 162) rfl ?_
  refine aw_iload_n (j := 1) (M := M_X12_test) (pc := 172) dX12_test_172 rfl rfl ?_
  refine aw_iconst (M := M_X12_test) (pc := 173) dX12_test_173 ⟨by decide, by decide⟩ ?_
  obtain ⟨o35, hF⟩ := hF
  refine aw_iadd (M := M_X12_test) (pc := 174) dX12_test_174 rfl o35 ?_
  refine aw_aload_n (j := 0) (M := M_X12_test) (pc := 175) dX12_test_175 rfl rfl ?_
  refine gf_X12_133 (M := M_X12_test) (pc := 176) rfl dX12_test_176 rfl ?_
  obtain ⟨o36, hF⟩ := hF
  refine aw_iast (k := (v1 + 5).toNat) (M := M_X12_test) (pc := 179) dX12_test_179 rfl o36 rfl ?_
  obtain ⟨h37, eh37⟩ : ∃ y : Mem, y = mset h 162 (v1 + 5).toNat (h 161 15) := ⟨_, rfl⟩
  have hF := hF h37 eh37
  rw [← eh37]
  refine aw_aload_n (j := 0) (M := M_X12_test) (pc := 180) dX12_test_180 rfl rfl ?_
  refine aw_cvv (as := []) (st := []) (M := M_X12_test) (pc := 181) (f_X12_ahead  hF) dX12_test_181 rfl (Or.inl ⟨_, _, _, rfl, rfl⟩) cy_X12_ahead ml_X12_167 (by decide) (by decide) (Nat.le_of_ble_eq_true rfl) (fun h38 hF => ?_)
  refine aw_aload_n (j := 0) (M := M_X12_test) (pc := 184) dX12_test_184 rfl rfl ?_
  refine aw_iload_n (j := 1) (M := M_X12_test) (pc := 185) dX12_test_185 rfl rfl ?_
  refine aw_iconst (M := M_X12_test) (pc := 186) dX12_test_186 ⟨by decide, by decide⟩ ?_
  obtain ⟨o40, hF⟩ := hF
  refine aw_iadd (M := M_X12_test) (pc := 187) dX12_test_187 rfl o40 ?_
  refine aw_iconst (M := M_X12_test) (pc := 188) dX12_test_188 ⟨by decide, by decide⟩ ?_
  refine aw_iload_n (j := 2) (M := M_X12_test) (pc := 189) dX12_test_189 rfl rfl ?_
  refine aw_bipush (M := M_X12_test) (pc := 190) dX12_test_190 ⟨rfl, ⟨by decide, by decide⟩⟩ ?_
  refine aw_icmp_ne (tgt := 200) (M := M_X12_test) (pc := 192) dX12_test_192 rfl (fun hc => ?_) (fun hc => ?_)
  · have hF := hF.1 hc
    refine aw_sipush (M := M_X12_test) (pc := 200) dX12_test_200 ⟨rfl, ⟨by decide, by decide⟩⟩ ?_
    refine aw_cvi (as := [(0, v1 + 2), (0, 0), (0, 9999)]) (st := []) (M := M_X12_test) (pc := 203) (f_X12_number  hF) dX12_test_203 rfl (Or.inl ⟨_, _, _, rfl, rfl⟩) cy_X12_number ml_X12_193 (by decide) (by decide) (Nat.le_of_ble_eq_true rfl) (fun r42 h41 hF => ?_)
    exact aw_iretz (M := M_X12_test) (pc := 206) dX12_test_206 rfl hF.1 ⟨_, rfl, hF.2⟩
  · have hF := hF.2 hc
    refine aw_bipush (M := M_X12_test) (pc := 195) dX12_test_195 ⟨rfl, ⟨by decide, by decide⟩⟩ ?_
    refine aw_goto (tgt := 203) (M := M_X12_test) (pc := 197) dX12_test_197 rfl ?_
    refine aw_cvi (as := [(0, v1 + 2), (0, 0), (0, 15)]) (st := []) (M := M_X12_test) (pc := 203) (f_X12_number  hF) dX12_test_203 rfl (Or.inl ⟨_, _, _, rfl, rfl⟩) cy_X12_number ml_X12_193 (by decide) (by decide) (Nat.le_of_ble_eq_true rfl) (fun r44 h43 hF => ?_)
    exact aw_iretz (M := M_X12_test) (pc := 206) dX12_test_206 rfl hF.1 ⟨_, rfl, hF.2⟩
def J_X12_test_135 (h : Mem) (v1 : Int) (v2 : Int) (Q : Int → Mem → Prop) : Prop :=
  (F_X12_isSign h 60 (fun r22 h21 => ((¬ (r22 = 0) → J_X12_test_168 h21 v1 v2 Q) ∧ (r22 = 0 → (F_X12_isSign h21 62 (fun r24 h23 => ((¬ (r24 = 0) → J_X12_test_168 h23 v1 v2 Q) ∧ (r24 = 0 → (F_X12_isSign h23 61 (fun r26 h25 => ((¬ (r26 = 0) → J_X12_test_168 h25 v1 v2 Q) ∧ (r26 = 0 → (F_X12_fails h25 2 (fun r28 h27 => (InZ r28 ∧ Q r28 h27)))))))))))))))
set_option maxRecDepth 100000 in
set_option maxHeartbeats 4000000 in
theorem j_X12_test_135 {h : Mem} {v1 : Int} {v2 : Int} {Q : Int → Mem → Prop}  (hF : J_X12_test_135 h v1 v2 Q) : AW M_X12_test 135 [(0, vr 161), (1, (0, v1)), (2, (0, v2))] [] h (qi Q) := by
  unfold J_X12_test_135 at hF
  refine aw_aload_n (j := 0) (M := M_X12_test) (pc := 135) dX12_test_135 rfl rfl ?_
  refine aw_bipush (M := M_X12_test) (pc := 136) dX12_test_136 ⟨rfl, ⟨by decide, by decide⟩⟩ ?_
  refine aw_cvi (as := [(0, 60)]) (st := []) (M := M_X12_test) (pc := 138) (f_X12_isSign  hF) dX12_test_138 rfl (Or.inl ⟨_, _, _, rfl, rfl⟩) cy_X12_isSign ml_X12_170 (by decide) (by decide) (Nat.le_of_ble_eq_true rfl) (fun r22 h21 hF => ?_)
  refine aw_if_ne (tgt := 168) (M := M_X12_test) (pc := 141) dX12_test_141 rfl (fun hc => ?_) (fun hc => ?_)
  · have hF := hF.1 hc
    exact aw_ls [0, 1, 2] rfl (j_X12_test_168  hF)
  · have hF := hF.2 hc
    refine aw_aload_n (j := 0) (M := M_X12_test) (pc := 144) dX12_test_144 rfl rfl ?_
    refine aw_bipush (M := M_X12_test) (pc := 145) dX12_test_145 ⟨rfl, ⟨by decide, by decide⟩⟩ ?_
    refine aw_cvi (as := [(0, 62)]) (st := []) (M := M_X12_test) (pc := 147) (f_X12_isSign  hF) dX12_test_147 rfl (Or.inl ⟨_, _, _, rfl, rfl⟩) cy_X12_isSign ml_X12_170 (by decide) (by decide) (Nat.le_of_ble_eq_true rfl) (fun r24 h23 hF => ?_)
    refine aw_if_ne (tgt := 168) (M := M_X12_test) (pc := 150) dX12_test_150 rfl (fun hc => ?_) (fun hc => ?_)
    · have hF := hF.1 hc
      exact aw_ls [0, 1, 2] rfl (j_X12_test_168  hF)
    · have hF := hF.2 hc
      refine aw_aload_n (j := 0) (M := M_X12_test) (pc := 153) dX12_test_153 rfl rfl ?_
      refine aw_bipush (M := M_X12_test) (pc := 154) dX12_test_154 ⟨rfl, ⟨by decide, by decide⟩⟩ ?_
      refine aw_cvi (as := [(0, 61)]) (st := []) (M := M_X12_test) (pc := 156) (f_X12_isSign  hF) dX12_test_156 rfl (Or.inl ⟨_, _, _, rfl, rfl⟩) cy_X12_isSign ml_X12_170 (by decide) (by decide) (Nat.le_of_ble_eq_true rfl) (fun r26 h25 hF => ?_)
      refine aw_if_ne (tgt := 168) (M := M_X12_test) (pc := 159) dX12_test_159 rfl (fun hc => ?_) (fun hc => ?_)
      · have hF := hF.1 hc
        exact aw_ls [0, 1, 2] rfl (j_X12_test_168  hF)
      · have hF := hF.2 hc
        refine aw_aload_n (j := 0) (M := M_X12_test) (pc := 162) dX12_test_162 rfl rfl ?_
        refine aw_iconst (M := M_X12_test) (pc := 163) dX12_test_163 ⟨by decide, by decide⟩ ?_
        refine aw_cvi (as := [(0, 2)]) (st := []) (M := M_X12_test) (pc := 164) (f_X12_fails  hF) dX12_test_164 rfl (Or.inl ⟨_, _, _, rfl, rfl⟩) cy_X12_fails ml_X12_173 (by decide) (by decide) (Nat.le_of_ble_eq_true rfl) (fun r28 h27 hF => ?_)
        exact aw_iretz (M := M_X12_test) (pc := 167) dX12_test_167 rfl hF.1 ⟨_, rfl, hF.2⟩
def J_X12_test_91 (h : Mem) (v1 : Int) (v3 : Int) (Q : Int → Mem → Prop) : Prop :=
  (InR (v1 + 1) ∧ (InR (v3 - 6) ∧ ((0 ≤ (v1 + 1) ∧ (v1 + 1) < 3008) ∧ (∀ h32 : Mem, h32 = mset h 162 (v1 + 1).toNat (v3 - 6) → (F_X12_ahead h32  (fun h33 => Q 1 h33))))))
set_option maxRecDepth 100000 in
set_option maxHeartbeats 4000000 in
theorem j_X12_test_91 {h : Mem} {v1 : Int} {v3 : Int} {Q : Int → Mem → Prop}  (hF : J_X12_test_91 h v1 v3 Q) : AW M_X12_test 91 [(0, vr 161), (1, (0, v1)), (3, (0, v3))] [] h (qi Q) := by
  unfold J_X12_test_91 at hF
  refine aw_aload_n (j := 0) (M := M_X12_test) (pc := 91) dX12_test_91 rfl rfl ?_
  refine gf_X12_7 (M := M_X12_test) (pc := 92) rfl dX12_test_92 rfl (r := 162) rfl ?_
  refine aw_iload_n (j := 1) (M := M_X12_test) (pc := 95) dX12_test_95 rfl rfl ?_
  refine aw_iconst (M := M_X12_test) (pc := 96) dX12_test_96 ⟨by decide, by decide⟩ ?_
  obtain ⟨o29, hF⟩ := hF
  refine aw_iadd (M := M_X12_test) (pc := 97) dX12_test_97 rfl o29 ?_
  refine aw_iload_n (j := 2) (M := M_X12_test) (pc := 98) dX12_test_98 rfl rfl ?_
  refine aw_bipush (M := M_X12_test) (pc := 99) dX12_test_99 ⟨rfl, ⟨by decide, by decide⟩⟩ ?_
  obtain ⟨o30, hF⟩ := hF
  refine aw_isub (M := M_X12_test) (pc := 101) dX12_test_101 rfl o30 ?_
  obtain ⟨o31, hF⟩ := hF
  refine aw_iast (k := (v1 + 1).toNat) (M := M_X12_test) (pc := 102) dX12_test_102 rfl o31 rfl ?_
  obtain ⟨h32, eh32⟩ : ∃ y : Mem, y = mset h 162 (v1 + 1).toNat (v3 - 6) := ⟨_, rfl⟩
  have hF := hF h32 eh32
  rw [← eh32]
  refine aw_aload_n (j := 0) (M := M_X12_test) (pc := 103) dX12_test_103 rfl rfl ?_
  refine aw_cvv (as := []) (st := []) (M := M_X12_test) (pc := 104) (f_X12_ahead  hF) dX12_test_104 rfl (Or.inl ⟨_, _, _, rfl, rfl⟩) cy_X12_ahead ml_X12_167 (by decide) (by decide) (Nat.le_of_ble_eq_true rfl) (fun h33 hF => ?_)
  refine aw_iconst (M := M_X12_test) (pc := 107) dX12_test_107 ⟨by decide, by decide⟩ ?_
  exact aw_iretz (M := M_X12_test) (pc := 108) dX12_test_108 rfl (Or.inr rfl) ⟨_, rfl, hF⟩
def J_X12_test_31 (h : Mem) (v1 : Int) (v2 : Int) (Q : Int → Mem → Prop) : Prop :=
  (InR (1800 + v2) ∧ ((0 ≤ v1 ∧ v1 < 3008) ∧ (∀ h7 : Mem, h7 = mset h 162 (v1).toNat (1800 + v2) → (F_X12_ahead h7  (fun h8 => ((¬ (v2 = 12) → ((¬ (v2 = 22) → ((¬ (v2 = 23) → J_X12_test_135 h8 v1 v2 Q) ∧ (v2 = 23 → (InR (v1 + 1) ∧ (F_X12_oldOne h8 8 (h8 162 1) (v1 + 1) (fun r13 h12 => ((¬ (r13 = 0) → J_X12_test_135 h12 v1 v2 Q) ∧ (r13 = 0 → Q 0 h12)))))))) ∧ (v2 = 22 → (F_X12_inWords h8  (fun r15 h14 => ((r15 = 6 → J_X12_test_91 h14 v1 r15 Q) ∧ (¬ (r15 = 6) → ((r15 = 7 → J_X12_test_91 h14 v1 r15 Q) ∧ (¬ (r15 = 7) → (F_X12_fails h14 2 (fun r17 h16 => (InZ r17 ∧ Q r17 h16)))))))))))) ∧ (v2 = 12 → (InR (v1 + 1) ∧ (F_X12_thingTo h8 (v1 + 1) (fun r20 h19 => (InZ r20 ∧ Q r20 h19)))))))))))
set_option maxRecDepth 100000 in
set_option maxHeartbeats 4000000 in
theorem j_X12_test_31 {h : Mem} {v1 : Int} {v2 : Int} {Q : Int → Mem → Prop}  (hF : J_X12_test_31 h v1 v2 Q) : AW M_X12_test 31 [(0, vr 161), (1, (0, v1)), (2, (0, v2))] [] h (qi Q) := by
  unfold J_X12_test_31 at hF
  refine aw_aload_n (j := 0) (M := M_X12_test) (pc := 31) dX12_test_31 rfl rfl ?_
  refine gf_X12_7 (M := M_X12_test) (pc := 32) rfl dX12_test_32 rfl (r := 162) rfl ?_
  refine aw_iload_n (j := 1) (M := M_X12_test) (pc := 35) dX12_test_35 rfl rfl ?_
  refine aw_sipush (M := M_X12_test) (pc := 36) dX12_test_36 ⟨rfl, ⟨by decide, by decide⟩⟩ ?_
  refine aw_iload_n (j := 2) (M := M_X12_test) (pc := 39) dX12_test_39 rfl rfl ?_
  obtain ⟨o5, hF⟩ := hF
  refine aw_iadd (M := M_X12_test) (pc := 40) dX12_test_40 rfl o5 ?_
  obtain ⟨o6, hF⟩ := hF
  refine aw_iast (k := (v1).toNat) (M := M_X12_test) (pc := 41) dX12_test_41 rfl o6 rfl ?_
  obtain ⟨h7, eh7⟩ : ∃ y : Mem, y = mset h 162 (v1).toNat (1800 + v2) := ⟨_, rfl⟩
  have hF := hF h7 eh7
  rw [← eh7]
  refine aw_aload_n (j := 0) (M := M_X12_test) (pc := 42) dX12_test_42 rfl rfl ?_
  refine aw_cvv (as := []) (st := []) (M := M_X12_test) (pc := 43) (f_X12_ahead  hF) dX12_test_43 rfl (Or.inl ⟨_, _, _, rfl, rfl⟩) cy_X12_ahead ml_X12_167 (by decide) (by decide) (Nat.le_of_ble_eq_true rfl) (fun h8 hF => ?_)
  refine aw_iload_n (j := 2) (M := M_X12_test) (pc := 46) dX12_test_46 rfl rfl ?_
  refine aw_bipush (M := M_X12_test) (pc := 47) dX12_test_47 ⟨rfl, ⟨by decide, by decide⟩⟩ ?_
  refine aw_icmp_ne (tgt := 60) (M := M_X12_test) (pc := 49) dX12_test_49 rfl (fun hc => ?_) (fun hc => ?_)
  · have hF := hF.1 hc
    refine aw_iload_n (j := 2) (M := M_X12_test) (pc := 60) dX12_test_60 rfl rfl ?_
    refine aw_bipush (M := M_X12_test) (pc := 61) dX12_test_61 ⟨rfl, ⟨by decide, by decide⟩⟩ ?_
    refine aw_icmp_ne (tgt := 109) (M := M_X12_test) (pc := 63) dX12_test_63 rfl (fun hc => ?_) (fun hc => ?_)
    · have hF := hF.1 hc
      refine aw_iload_n (j := 2) (M := M_X12_test) (pc := 109) dX12_test_109 rfl rfl ?_
      refine aw_bipush (M := M_X12_test) (pc := 110) dX12_test_110 ⟨rfl, ⟨by decide, by decide⟩⟩ ?_
      refine aw_icmp_ne (tgt := 135) (M := M_X12_test) (pc := 112) dX12_test_112 rfl (fun hc => ?_) (fun hc => ?_)
      · have hF := hF.1 hc
        exact aw_ls [0, 1, 2] rfl (j_X12_test_135  hF)
      · have hF := hF.2 hc
        refine aw_aload_n (j := 0) (M := M_X12_test) (pc := 115) dX12_test_115 rfl rfl ?_
        refine aw_bipush (M := M_X12_test) (pc := 116) dX12_test_116 ⟨rfl, ⟨by decide, by decide⟩⟩ ?_
        refine aw_aload_n (j := 0) (M := M_X12_test) (pc := 118) dX12_test_118 rfl rfl ?_
        refine gf_X12_7 (M := M_X12_test) (pc := 119) rfl dX12_test_119 rfl (r := 162) rfl ?_
        refine aw_iconst (M := M_X12_test) (pc := 122) dX12_test_122 ⟨by decide, by decide⟩ ?_
        refine aw_iald (k := 1) (M := M_X12_test) (pc := 123) dX12_test_123 rfl ⟨by decide, by decide⟩ rfl ?_
        refine aw_iload_n (j := 1) (M := M_X12_test) (pc := 124) dX12_test_124 rfl rfl ?_
        refine aw_iconst (M := M_X12_test) (pc := 125) dX12_test_125 ⟨by decide, by decide⟩ ?_
        obtain ⟨o11, hF⟩ := hF
        refine aw_iadd (M := M_X12_test) (pc := 126) dX12_test_126 rfl o11 ?_
        refine aw_cvi (as := [(0, 8), (0, h8 162 1), (0, v1 + 1)]) (st := []) (M := M_X12_test) (pc := 127) (f_X12_oldOne  hF) dX12_test_127 rfl (Or.inl ⟨_, _, _, rfl, rfl⟩) cy_X12_oldOne ml_X12_242 (by decide) (by decide) (Nat.le_of_ble_eq_true rfl) (fun r13 h12 hF => ?_)
        refine aw_if_ne (tgt := 135) (M := M_X12_test) (pc := 130) dX12_test_130 rfl (fun hc => ?_) (fun hc => ?_)
        · have hF := hF.1 hc
          exact aw_ls [0, 1, 2] rfl (j_X12_test_135  hF)
        · have hF := hF.2 hc
          refine aw_iconst (M := M_X12_test) (pc := 133) dX12_test_133 ⟨by decide, by decide⟩ ?_
          exact aw_iretz (M := M_X12_test) (pc := 134) dX12_test_134 rfl (Or.inl rfl) ⟨_, rfl, hF⟩
    · have hF := hF.2 hc
      refine aw_aload_n (j := 0) (M := M_X12_test) (pc := 66) dX12_test_66 rfl rfl ?_
      refine aw_ldcM (M := M_X12_test) (pc := 67) rfl dX12_test_67 ?_
      refine aw_cvi (as := [vr 183]) (st := []) (M := M_X12_test) (pc := 69) (f_X12_inWords  hF) dX12_test_69 rfl (Or.inl ⟨_, _, _, rfl, rfl⟩) cy_X12_inWords ml_X12_176 (by decide) (by decide) (Nat.le_of_ble_eq_true rfl) (fun r15 h14 hF => ?_)
      refine aw_istore_n (ls' := [(3, (0, r15)), (0, vr 161), (1, (0, v1)), (2, (0, v2))]) (M := M_X12_test) (pc := 72) dX12_test_72 rfl (by decide) rfl ?_
      refine aw_iload_n (j := 0) (M := M_X12_test) (pc := 73) dX12_test_73 rfl rfl ?_
      refine aw_bipush (M := M_X12_test) (pc := 74) dX12_test_74 ⟨rfl, ⟨by decide, by decide⟩⟩ ?_
      refine aw_icmp_eq (tgt := 91) (M := M_X12_test) (pc := 76) dX12_test_76 rfl (fun hc => ?_) (fun hc => ?_)
      · have hF := hF.1 hc
        exact aw_ls [1, 2, 0] rfl (j_X12_test_91  hF)
      · have hF := hF.2 hc
        refine aw_iload_n (j := 0) (M := M_X12_test) (pc := 79) dX12_test_79 rfl rfl ?_
        refine aw_bipush (M := M_X12_test) (pc := 80) dX12_test_80 ⟨rfl, ⟨by decide, by decide⟩⟩ ?_
        refine aw_icmp_eq (tgt := 91) (M := M_X12_test) (pc := 82) dX12_test_82 rfl (fun hc => ?_) (fun hc => ?_)
        · have hF := hF.1 hc
          exact aw_ls [1, 2, 0] rfl (j_X12_test_91  hF)
        · have hF := hF.2 hc
          refine aw_aload_n (j := 1) (M := M_X12_test) (pc := 85) dX12_test_85 rfl rfl ?_
          refine aw_iconst (M := M_X12_test) (pc := 86) dX12_test_86 ⟨by decide, by decide⟩ ?_
          refine aw_cvi (as := [(0, 2)]) (st := []) (M := M_X12_test) (pc := 87) (f_X12_fails  hF) dX12_test_87 rfl (Or.inl ⟨_, _, _, rfl, rfl⟩) cy_X12_fails ml_X12_173 (by decide) (by decide) (Nat.le_of_ble_eq_true rfl) (fun r17 h16 hF => ?_)
          exact aw_iretz (M := M_X12_test) (pc := 90) dX12_test_90 rfl hF.1 ⟨_, rfl, hF.2⟩
  · have hF := hF.2 hc
    refine aw_aload_n (j := 0) (M := M_X12_test) (pc := 52) dX12_test_52 rfl rfl ?_
    refine aw_iload_n (j := 1) (M := M_X12_test) (pc := 53) dX12_test_53 rfl rfl ?_
    refine aw_iconst (M := M_X12_test) (pc := 54) dX12_test_54 ⟨by decide, by decide⟩ ?_
    obtain ⟨o18, hF⟩ := hF
    refine aw_iadd (M := M_X12_test) (pc := 55) dX12_test_55 rfl o18 ?_
    refine aw_cvi (as := [(0, v1 + 1)]) (st := []) (M := M_X12_test) (pc := 56) (f_X12_thingTo  hF) dX12_test_56 rfl (Or.inl ⟨_, _, _, rfl, rfl⟩) cy_X12_thingTo ml_X12_245 (by decide) (by decide) (Nat.le_of_ble_eq_true rfl) (fun r20 h19 hF => ?_)
    exact aw_iretz (M := M_X12_test) (pc := 59) dX12_test_59 rfl hF.1 ⟨_, rfl, hF.2⟩
def F_X12_test (h : Mem) (a1 : Int) (Q : Int → Mem → Prop) : Prop :=
  (F_X12_inWords h  (fun r2 h1 => ((r2 = 12 → J_X12_test_31 h1 a1 r2 Q) ∧ (¬ (r2 = 12) → ((r2 = 13 → J_X12_test_31 h1 a1 r2 Q) ∧ (¬ (r2 = 13) → ((22 ≤ r2 → J_X12_test_31 h1 a1 r2 Q) ∧ (¬ (22 ≤ r2) → (F_X12_fails h1 2 (fun r4 h3 => (InZ r4 ∧ Q r4 h3)))))))))))
set_option maxRecDepth 100000 in
set_option maxHeartbeats 4000000 in
theorem f_X12_test {h : Mem} {a1 : Int} {Q : Int → Mem → Prop}  (hF : F_X12_test h a1 Q) : Ct yX12_test cX12_test 4 (some .boolean) (9, 221) [vr 161, (0, a1)] h (qi Q) := by
  refine Ct.of np_RX12 (Nat.le_of_ble_eq_true rfl) ?_
  unfold F_X12_test at hF
  show AW M_X12_test 0 [(0, vr 161), (1, (0, a1))] [] h (qi Q)
  refine aw_aload_n (j := 0) (M := M_X12_test) (pc := 0) dX12_test_0 rfl rfl ?_
  refine aw_ldcM (M := M_X12_test) (pc := 1) rfl dX12_test_1 ?_
  refine aw_cvi (as := [vr 183]) (st := []) (M := M_X12_test) (pc := 3) (f_X12_inWords  hF) dX12_test_3 rfl (Or.inl ⟨_, _, _, rfl, rfl⟩) cy_X12_inWords ml_X12_176 (by decide) (by decide) (Nat.le_of_ble_eq_true rfl) (fun r2 h1 hF => ?_)
  refine aw_istore_n (ls' := [(2, (0, r2)), (0, vr 161), (1, (0, a1))]) (M := M_X12_test) (pc := 6) dX12_test_6 rfl (by decide) rfl ?_
  refine aw_iload_n (j := 0) (M := M_X12_test) (pc := 7) dX12_test_7 rfl rfl ?_
  refine aw_bipush (M := M_X12_test) (pc := 8) dX12_test_8 ⟨rfl, ⟨by decide, by decide⟩⟩ ?_
  refine aw_icmp_eq (tgt := 31) (M := M_X12_test) (pc := 10) dX12_test_10 rfl (fun hc => ?_) (fun hc => ?_)
  · have hF := hF.1 hc
    exact aw_ls [1, 2, 0] rfl (j_X12_test_31  hF)
  · have hF := hF.2 hc
    refine aw_iload_n (j := 0) (M := M_X12_test) (pc := 13) dX12_test_13 rfl rfl ?_
    refine aw_bipush (M := M_X12_test) (pc := 14) dX12_test_14 ⟨rfl, ⟨by decide, by decide⟩⟩ ?_
    refine aw_icmp_eq (tgt := 31) (M := M_X12_test) (pc := 16) dX12_test_16 rfl (fun hc => ?_) (fun hc => ?_)
    · have hF := hF.1 hc
      exact aw_ls [1, 2, 0] rfl (j_X12_test_31  hF)
    · have hF := hF.2 hc
      refine aw_iload_n (j := 0) (M := M_X12_test) (pc := 19) dX12_test_19 rfl rfl ?_
      refine aw_bipush (M := M_X12_test) (pc := 20) dX12_test_20 ⟨rfl, ⟨by decide, by decide⟩⟩ ?_
      refine aw_icmp_ge (tgt := 31) (M := M_X12_test) (pc := 22) dX12_test_22 rfl (fun hc => ?_) (fun hc => ?_)
      · have hF := hF.1 hc
        exact aw_ls [1, 2, 0] rfl (j_X12_test_31  hF)
      · have hF := hF.2 hc
        refine aw_aload_n (j := 1) (M := M_X12_test) (pc := 25) dX12_test_25 rfl rfl ?_
        refine aw_iconst (M := M_X12_test) (pc := 26) dX12_test_26 ⟨by decide, by decide⟩ ?_
        refine aw_cvi (as := [(0, 2)]) (st := []) (M := M_X12_test) (pc := 27) (f_X12_fails  hF) dX12_test_27 rfl (Or.inl ⟨_, _, _, rfl, rfl⟩) cy_X12_fails ml_X12_173 (by decide) (by decide) (Nat.le_of_ble_eq_true rfl) (fun r4 h3 hF => ?_)
        exact aw_iretz (M := M_X12_test) (pc := 30) dX12_test_30 rfl hF.1 ⟨_, rfl, hF.2⟩
theorem so_X12_dayOrder_1 {x : Int} (h0 : ¬ x = 14) (h1 : ¬ x = 15) (h2 : ¬ x = 16) (h3 : ¬ x = 17) (h4 : ¬ x = 18) (h5 : ¬ x = 19) : x < 14 ∨ 19 < x := by omega
abbrev M_X12_dayOrder : Hd := (cX12_dayOrder, 3, RX12, (some .boolean), (10, 244), sc0)
def F_X12_dayOrder (h : Mem) (a1 : Int) (a2 : Int) (Q : Int → Mem → Prop) : Prop :=
  ((a1 = 14 → (InR (a2 + 1) ∧ (F_X12_number h (a2 + 1) 1 24 (fun r3 h2 => (InZ r3 ∧ Q r3 h2))))) ∧ ((a1 = 15 → (InR (a2 + 1) ∧ (F_X12_thingTo h (a2 + 1) (fun r6 h5 => ((r6 = 0 → Q 0 h5) ∧ (¬ (r6 = 0) → (InR (a2 + 2) ∧ (InR ((h5 162 2) - 1) ∧ (F_X12_number h5 (a2 + 2) 0 ((h5 162 2) - 1) (fun r11 h10 => ((r11 = 0 → Q 0 h10) ∧ (¬ (r11 = 0) → Q 1 h10)))))))))))) ∧ ((a1 = 16 → (InR (a2 + 1) ∧ (F_X12_thingTo h (a2 + 1) (fun r14 h13 => (InZ r14 ∧ Q r14 h13))))) ∧ ((a1 = 17 → Q 1 h) ∧ ((a1 = 18 → (F_X12_test h a2 (fun r16 h15 => (InZ r16 ∧ Q r16 h15)))) ∧ ((a1 = 19 → (InR (a2 + 1) ∧ (F_X12_number h (a2 + 1) 1 99 (fun r19 h18 => (InZ r19 ∧ Q r19 h18))))) ∧ ((a1 < 14 ∨ 19 < a1) → Q 1 h)))))))
set_option maxRecDepth 100000 in
set_option maxHeartbeats 4000000 in
theorem f_X12_dayOrder {h : Mem} {a1 : Int} {a2 : Int} {Q : Int → Mem → Prop}  (hF : F_X12_dayOrder h a1 a2 Q) : Ct yX12_dayOrder cX12_dayOrder 3 (some .boolean) (10, 244) [vr 161, (0, a1), (0, a2)] h (qi Q) := by
  refine Ct.of np_RX12 (Nat.le_of_ble_eq_true rfl) ?_
  unfold F_X12_dayOrder at hF
  show AW M_X12_dayOrder 0 [(0, vr 161), (1, (0, a1)), (2, (0, a2))] [] h (qi Q)
  refine aw_iload_n (j := 1) (M := M_X12_dayOrder) (pc := 0) dX12_dayOrder_0 rfl rfl ?_
  by_cases hc : a1 = 14
  · have hF := hF.1 hc
    refine aw_tableIn (tgt := 40) (M := M_X12_dayOrder) (pc := 1) dX12_dayOrder_1 (by rw [hc]; decide) (by rw [hc]; decide) (off := 39) (by rw [hc]; rfl) rfl ?_
    refine aw_aload_n (j := 0) (M := M_X12_dayOrder) (pc := 40) dX12_dayOrder_40 rfl rfl ?_
    refine aw_iload_n (j := 2) (M := M_X12_dayOrder) (pc := 41) dX12_dayOrder_41 rfl rfl ?_
    refine aw_iconst (M := M_X12_dayOrder) (pc := 42) dX12_dayOrder_42 ⟨by decide, by decide⟩ ?_
    obtain ⟨o1, hF⟩ := hF
    refine aw_iadd (M := M_X12_dayOrder) (pc := 43) dX12_dayOrder_43 rfl o1 ?_
    refine aw_iconst (M := M_X12_dayOrder) (pc := 44) dX12_dayOrder_44 ⟨by decide, by decide⟩ ?_
    refine aw_bipush (M := M_X12_dayOrder) (pc := 45) dX12_dayOrder_45 ⟨rfl, ⟨by decide, by decide⟩⟩ ?_
    refine aw_cvi (as := [(0, a2 + 1), (0, 1), (0, 24)]) (st := []) (M := M_X12_dayOrder) (pc := 47) (f_X12_number  hF) dX12_dayOrder_47 rfl (Or.inl ⟨_, _, _, rfl, rfl⟩) cy_X12_number ml_X12_193 (by decide) (by decide) (Nat.le_of_ble_eq_true rfl) (fun r3 h2 hF => ?_)
    exact aw_iretz (M := M_X12_dayOrder) (pc := 50) dX12_dayOrder_50 rfl hF.1 ⟨_, rfl, hF.2⟩
  have hF := hF.2
  have hc0 := hc
  by_cases hc : a1 = 15
  · have hF := hF.1 hc
    refine aw_tableIn (tgt := 51) (M := M_X12_dayOrder) (pc := 1) dX12_dayOrder_1 (by rw [hc]; decide) (by rw [hc]; decide) (off := 50) (by rw [hc]; rfl) rfl ?_
    refine aw_aload_n (j := 0) (M := M_X12_dayOrder) (pc := 51) dX12_dayOrder_51 rfl rfl ?_
    refine aw_iload_n (j := 2) (M := M_X12_dayOrder) (pc := 52) dX12_dayOrder_52 rfl rfl ?_
    refine aw_iconst (M := M_X12_dayOrder) (pc := 53) dX12_dayOrder_53 ⟨by decide, by decide⟩ ?_
    obtain ⟨o4, hF⟩ := hF
    refine aw_iadd (M := M_X12_dayOrder) (pc := 54) dX12_dayOrder_54 rfl o4 ?_
    refine aw_cvi (as := [(0, a2 + 1)]) (st := []) (M := M_X12_dayOrder) (pc := 55) (f_X12_thingTo  hF) dX12_dayOrder_55 rfl (Or.inl ⟨_, _, _, rfl, rfl⟩) cy_X12_thingTo ml_X12_245 (by decide) (by decide) (Nat.le_of_ble_eq_true rfl) (fun r6 h5 hF => ?_)
    refine aw_if_eq (tgt := 84) (M := M_X12_dayOrder) (pc := 58) dX12_dayOrder_58 rfl (fun hc => ?_) (fun hc => ?_)
    · have hF := hF.1 hc
      refine aw_iconst (M := M_X12_dayOrder) (pc := 84) dX12_dayOrder_84 ⟨by decide, by decide⟩ ?_
      exact aw_iretz (M := M_X12_dayOrder) (pc := 85) dX12_dayOrder_85 rfl (Or.inl rfl) ⟨_, rfl, hF⟩
    · have hF := hF.2 hc
      refine aw_aload_n (j := 0) (M := M_X12_dayOrder) (pc := 61) dX12_dayOrder_61 rfl rfl ?_
      refine aw_iload_n (j := 2) (M := M_X12_dayOrder) (pc := 62) dX12_dayOrder_62 rfl rfl ?_
      refine aw_iconst (M := M_X12_dayOrder) (pc := 63) dX12_dayOrder_63 ⟨by decide, by decide⟩ ?_
      obtain ⟨o7, hF⟩ := hF
      refine aw_iadd (M := M_X12_dayOrder) (pc := 64) dX12_dayOrder_64 rfl o7 ?_
      refine aw_iconst (M := M_X12_dayOrder) (pc := 65) dX12_dayOrder_65 ⟨by decide, by decide⟩ ?_
      refine aw_aload_n (j := 0) (M := M_X12_dayOrder) (pc := 66) dX12_dayOrder_66 rfl rfl ?_
      refine gf_X12_7 (M := M_X12_dayOrder) (pc := 67) rfl dX12_dayOrder_67 rfl (r := 162) rfl ?_
      refine aw_iconst (M := M_X12_dayOrder) (pc := 70) dX12_dayOrder_70 ⟨by decide, by decide⟩ ?_
      refine aw_iald (k := 2) (M := M_X12_dayOrder) (pc := 71) dX12_dayOrder_71 rfl ⟨by decide, by decide⟩ rfl ?_
      refine aw_iconst (M := M_X12_dayOrder) (pc := 72) dX12_dayOrder_72 ⟨by decide, by decide⟩ ?_
      obtain ⟨o9, hF⟩ := hF
      refine aw_isub (M := M_X12_dayOrder) (pc := 73) dX12_dayOrder_73 rfl o9 ?_
      refine aw_cvi (as := [(0, a2 + 2), (0, 0), (0, (h5 162 2) - 1)]) (st := []) (M := M_X12_dayOrder) (pc := 74) (f_X12_number  hF) dX12_dayOrder_74 rfl (Or.inl ⟨_, _, _, rfl, rfl⟩) cy_X12_number ml_X12_193 (by decide) (by decide) (Nat.le_of_ble_eq_true rfl) (fun r11 h10 hF => ?_)
      refine aw_if_eq (tgt := 84) (M := M_X12_dayOrder) (pc := 77) dX12_dayOrder_77 rfl (fun hc => ?_) (fun hc => ?_)
      · have hF := hF.1 hc
        refine aw_iconst (M := M_X12_dayOrder) (pc := 84) dX12_dayOrder_84 ⟨by decide, by decide⟩ ?_
        exact aw_iretz (M := M_X12_dayOrder) (pc := 85) dX12_dayOrder_85 rfl (Or.inl rfl) ⟨_, rfl, hF⟩
      · have hF := hF.2 hc
        refine aw_iconst (M := M_X12_dayOrder) (pc := 80) dX12_dayOrder_80 ⟨by decide, by decide⟩ ?_
        refine aw_goto (tgt := 85) (M := M_X12_dayOrder) (pc := 81) dX12_dayOrder_81 rfl ?_
        exact aw_iretz (M := M_X12_dayOrder) (pc := 85) dX12_dayOrder_85 rfl (Or.inr rfl) ⟨_, rfl, hF⟩
  have hF := hF.2
  have hc1 := hc
  by_cases hc : a1 = 16
  · have hF := hF.1 hc
    refine aw_tableIn (tgt := 86) (M := M_X12_dayOrder) (pc := 1) dX12_dayOrder_1 (by rw [hc]; decide) (by rw [hc]; decide) (off := 85) (by rw [hc]; rfl) rfl ?_
    refine aw_aload_n (j := 0) (M := M_X12_dayOrder) (pc := 86) dX12_dayOrder_86 rfl rfl ?_
    refine aw_iload_n (j := 2) (M := M_X12_dayOrder) (pc := 87) dX12_dayOrder_87 rfl rfl ?_
    refine aw_iconst (M := M_X12_dayOrder) (pc := 88) dX12_dayOrder_88 ⟨by decide, by decide⟩ ?_
    obtain ⟨o12, hF⟩ := hF
    refine aw_iadd (M := M_X12_dayOrder) (pc := 89) dX12_dayOrder_89 rfl o12 ?_
    refine aw_cvi (as := [(0, a2 + 1)]) (st := []) (M := M_X12_dayOrder) (pc := 90) (f_X12_thingTo  hF) dX12_dayOrder_90 rfl (Or.inl ⟨_, _, _, rfl, rfl⟩) cy_X12_thingTo ml_X12_245 (by decide) (by decide) (Nat.le_of_ble_eq_true rfl) (fun r14 h13 hF => ?_)
    exact aw_iretz (M := M_X12_dayOrder) (pc := 93) dX12_dayOrder_93 rfl hF.1 ⟨_, rfl, hF.2⟩
  have hF := hF.2
  have hc2 := hc
  by_cases hc : a1 = 17
  · have hF := hF.1 hc
    refine aw_tableIn (tgt := 111) (M := M_X12_dayOrder) (pc := 1) dX12_dayOrder_1 (by rw [hc]; decide) (by rw [hc]; decide) (off := 110) (by rw [hc]; rfl) rfl ?_
    refine aw_iconst (M := M_X12_dayOrder) (pc := 111) dX12_dayOrder_111 ⟨by decide, by decide⟩ ?_
    exact aw_iretz (M := M_X12_dayOrder) (pc := 112) dX12_dayOrder_112 rfl (Or.inr rfl) ⟨_, rfl, hF⟩
  have hF := hF.2
  have hc3 := hc
  by_cases hc : a1 = 18
  · have hF := hF.1 hc
    refine aw_tableIn (tgt := 105) (M := M_X12_dayOrder) (pc := 1) dX12_dayOrder_1 (by rw [hc]; decide) (by rw [hc]; decide) (off := 104) (by rw [hc]; rfl) rfl ?_
    refine aw_aload_n (j := 0) (M := M_X12_dayOrder) (pc := 105) dX12_dayOrder_105 rfl rfl ?_
    refine aw_iload_n (j := 2) (M := M_X12_dayOrder) (pc := 106) dX12_dayOrder_106 rfl rfl ?_
    refine aw_cvi (as := [(0, a2)]) (st := []) (M := M_X12_dayOrder) (pc := 107) (f_X12_test  hF) dX12_dayOrder_107 rfl (Or.inl ⟨_, _, _, rfl, rfl⟩) cy_X12_test ml_X12_248 (by decide) (by decide) (Nat.le_of_ble_eq_true rfl) (fun r16 h15 hF => ?_)
    exact aw_iretz (M := M_X12_dayOrder) (pc := 110) dX12_dayOrder_110 rfl hF.1 ⟨_, rfl, hF.2⟩
  have hF := hF.2
  have hc4 := hc
  by_cases hc : a1 = 19
  · have hF := hF.1 hc
    refine aw_tableIn (tgt := 94) (M := M_X12_dayOrder) (pc := 1) dX12_dayOrder_1 (by rw [hc]; decide) (by rw [hc]; decide) (off := 93) (by rw [hc]; rfl) rfl ?_
    refine aw_aload_n (j := 0) (M := M_X12_dayOrder) (pc := 94) dX12_dayOrder_94 rfl rfl ?_
    refine aw_iload_n (j := 2) (M := M_X12_dayOrder) (pc := 95) dX12_dayOrder_95 rfl rfl ?_
    refine aw_iconst (M := M_X12_dayOrder) (pc := 96) dX12_dayOrder_96 ⟨by decide, by decide⟩ ?_
    obtain ⟨o17, hF⟩ := hF
    refine aw_iadd (M := M_X12_dayOrder) (pc := 97) dX12_dayOrder_97 rfl o17 ?_
    refine aw_iconst (M := M_X12_dayOrder) (pc := 98) dX12_dayOrder_98 ⟨by decide, by decide⟩ ?_
    refine aw_bipush (M := M_X12_dayOrder) (pc := 99) dX12_dayOrder_99 ⟨rfl, ⟨by decide, by decide⟩⟩ ?_
    refine aw_cvi (as := [(0, a2 + 1), (0, 1), (0, 99)]) (st := []) (M := M_X12_dayOrder) (pc := 101) (f_X12_number  hF) dX12_dayOrder_101 rfl (Or.inl ⟨_, _, _, rfl, rfl⟩) cy_X12_number ml_X12_193 (by decide) (by decide) (Nat.le_of_ble_eq_true rfl) (fun r19 h18 hF => ?_)
    exact aw_iretz (M := M_X12_dayOrder) (pc := 104) dX12_dayOrder_104 rfl hF.1 ⟨_, rfl, hF.2⟩
  have hF := hF.2
  have hc5 := hc
  have hc : a1 < 14 ∨ 19 < a1 := so_X12_dayOrder_1 hc0 hc1 hc2 hc3 hc4 hc5
  have hF := hF hc
  refine aw_tableOut (tgt := 111) (M := M_X12_dayOrder) (pc := 1) dX12_dayOrder_1 hc rfl ?_
  refine aw_iconst (M := M_X12_dayOrder) (pc := 111) dX12_dayOrder_111 ⟨by decide, by decide⟩ ?_
  exact aw_iretz (M := M_X12_dayOrder) (pc := 112) dX12_dayOrder_112 rfl (Or.inr rfl) ⟨_, rfl, hF⟩
abbrev M_X12_wantSign : Hd := (cX12_wantSign, 2, RX12, (some .boolean), (3, 87), sc0)
def F_X12_wantSign (h : Mem) (a1 : Int) (Q : Int → Mem → Prop) : Prop :=
  (F_X12_isSign h a1 (fun r2 h1 => ((¬ (r2 = 0) → (F_X12_ahead h1  (fun h3 => Q 1 h3))) ∧ (r2 = 0 → (F_X12_fails h1 2 (fun r6 h5 => (InZ r6 ∧ Q r6 h5)))))))
set_option maxRecDepth 100000 in
set_option maxHeartbeats 4000000 in
theorem f_X12_wantSign {h : Mem} {a1 : Int} {Q : Int → Mem → Prop}  (hF : F_X12_wantSign h a1 Q) : Ct yX12_wantSign cX12_wantSign 2 (some .boolean) (3, 87) [vr 161, (0, a1)] h (qi Q) := by
  refine Ct.of np_RX12 (Nat.le_of_ble_eq_true rfl) ?_
  unfold F_X12_wantSign at hF
  show AW M_X12_wantSign 0 [(0, vr 161), (1, (0, a1))] [] h (qi Q)
  refine aw_aload_n (j := 0) (M := M_X12_wantSign) (pc := 0) dX12_wantSign_0 rfl rfl ?_
  refine aw_iload_n (j := 1) (M := M_X12_wantSign) (pc := 1) dX12_wantSign_1 rfl rfl ?_
  refine aw_cvi (as := [(0, a1)]) (st := []) (M := M_X12_wantSign) (pc := 2) (f_X12_isSign  hF) dX12_wantSign_2 rfl (Or.inl ⟨_, _, _, rfl, rfl⟩) cy_X12_isSign ml_X12_170 (by decide) (by decide) (Nat.le_of_ble_eq_true rfl) (fun r2 h1 hF => ?_)
  refine aw_if_ne (tgt := 14) (M := M_X12_wantSign) (pc := 5) dX12_wantSign_5 rfl (fun hc => ?_) (fun hc => ?_)
  · have hF := hF.1 hc
    refine aw_aload_n (j := 0) (M := M_X12_wantSign) (pc := 14) dX12_wantSign_14 rfl rfl ?_
    refine aw_cvv (as := []) (st := []) (M := M_X12_wantSign) (pc := 15) (f_X12_ahead  hF) dX12_wantSign_15 rfl (Or.inl ⟨_, _, _, rfl, rfl⟩) cy_X12_ahead ml_X12_167 (by decide) (by decide) (Nat.le_of_ble_eq_true rfl) (fun h3 hF => ?_)
    refine aw_iconst (M := M_X12_wantSign) (pc := 18) dX12_wantSign_18 ⟨by decide, by decide⟩ ?_
    exact aw_iretz (M := M_X12_wantSign) (pc := 19) dX12_wantSign_19 rfl (Or.inr rfl) ⟨_, rfl, hF⟩
  · have hF := hF.2 hc
    refine aw_aload_n (j := 0) (M := M_X12_wantSign) (pc := 8) dX12_wantSign_8 rfl rfl ?_
    refine aw_iconst (M := M_X12_wantSign) (pc := 9) dX12_wantSign_9 ⟨by decide, by decide⟩ ?_
    refine aw_cvi (as := [(0, 2)]) (st := []) (M := M_X12_wantSign) (pc := 10) (f_X12_fails  hF) dX12_wantSign_10 rfl (Or.inl ⟨_, _, _, rfl, rfl⟩) cy_X12_fails ml_X12_173 (by decide) (by decide) (Nat.le_of_ble_eq_true rfl) (fun r6 h5 hF => ?_)
    exact aw_iretz (M := M_X12_wantSign) (pc := 13) dX12_wantSign_13 rfl hF.1 ⟨_, rfl, hF.2⟩
abbrev M_X12_dayStep : Hd := (cX12_dayStep, 6, RX12, (some .boolean), (11, 266), sc0)
def L_X12_dayStep_147 (h : Mem) (v1 : Int) (v2 : Int) (v3 : Int) (v4 : Int) (v5 : Int) (Q : Int → Mem → Prop) : Prop := AW M_X12_dayStep 147 [(0, vr 161), (1, (0, v1)), (2, (0, v2)), (3, (0, v3)), (4, (0, v4)), (5, (0, v5))] [] h (qi Q)
def J_X12_dayStep_222 (h : Mem) (v1 : Int) (v2 : Int) (v3 : Int) (Q : Int → Mem → Prop) : Prop :=
  ((¬ (v1 = 20) → (F_X12_wantSign h 59 (fun r47 h46 => (InZ r47 ∧ Q r47 h46)))) ∧ (v1 = 20 → (InR ((h 161 22) - 1) ∧ (∀ h49 : Mem, h49 = mset h 161 22 ((h 161 22) - 1) → (InR (v3 + 4) ∧ ((0 ≤ (h49 161 22) ∧ (h49 161 22) < 3) ∧ ((0 ≤ (v3 + 4) ∧ (v3 + 4) < 3008) ∧ (∀ h54 : Mem, h54 = mset h49 162 (v3 + 4).toNat (h49 169 (h49 161 22).toNat) → ((0 ≤ (h54 161 22) ∧ (h54 161 22) < 3) ∧ (InR (6 * (h54 169 (h54 161 22).toNat)) ∧ (InR (1872 + (6 * (h54 169 (h54 161 22).toNat))) ∧ (InR ((1872 + (6 * (h54 169 (h54 161 22).toNat))) + 4) ∧ ((0 ≤ ((1872 + (6 * (h54 169 (h54 161 22).toNat))) + 4) ∧ ((1872 + (6 * (h54 169 (h54 161 22).toNat))) + 4) < 3008) ∧ (∀ h61 : Mem, h61 = mset h54 162 ((1872 + (6 * (h54 169 (h54 161 22).toNat))) + 4).toNat v2 → (F_X12_wantSign h61 59 (fun r63 h62 => (InZ r63 ∧ Q r63 h62)))))))))))))))))
set_option maxRecDepth 100000 in
set_option maxHeartbeats 4000000 in
theorem j_X12_dayStep_222 {h : Mem} {v1 : Int} {v2 : Int} {v3 : Int} {Q : Int → Mem → Prop}  (hF : J_X12_dayStep_222 h v1 v2 v3 Q) : AW M_X12_dayStep 222 [(0, vr 161), (1, (0, v1)), (2, (0, v2)), (3, (0, v3))] [] h (qi Q) := by
  unfold J_X12_dayStep_222 at hF
  refine aw_iload_n (j := 1) (M := M_X12_dayStep) (pc := 222) dX12_dayStep_222 rfl rfl ?_
  refine aw_bipush (M := M_X12_dayStep) (pc := 223) dX12_dayStep_223 ⟨rfl, ⟨by decide, by decide⟩⟩ ?_
  refine aw_icmp_ne (tgt := 279) (M := M_X12_dayStep) (pc := 225) dX12_dayStep_225 rfl (fun hc => ?_) (fun hc => ?_)
  · have hF := hF.1 hc
    refine aw_aload_n (j := 0) (M := M_X12_dayStep) (pc := 279) dX12_dayStep_279 rfl rfl ?_
    refine aw_bipush (M := M_X12_dayStep) (pc := 280) dX12_dayStep_280 ⟨rfl, ⟨by decide, by decide⟩⟩ ?_
    refine aw_cvi (as := [(0, 59)]) (st := []) (M := M_X12_dayStep) (pc := 282) (f_X12_wantSign  hF) dX12_dayStep_282 rfl (Or.inl ⟨_, _, _, rfl, rfl⟩) cy_X12_wantSign ml_X12_229 (by decide) (by decide) (Nat.le_of_ble_eq_true rfl) (fun r47 h46 hF => ?_)
    exact aw_iretz (M := M_X12_dayStep) (pc := 285) dX12_dayStep_285 rfl hF.1 ⟨_, rfl, hF.2⟩
  · have hF := hF.2 hc
    refine aw_aload_n (j := 0) (M := M_X12_dayStep) (pc := 228) dX12_dayStep_228 rfl rfl ?_
    refine aw_dup (M := M_X12_dayStep) (pc := 229) dX12_dayStep_229 rfl ?_
    refine gf_X12_251 (M := M_X12_dayStep) (pc := 230) rfl dX12_dayStep_230 rfl ?_
    refine aw_iconst (M := M_X12_dayStep) (pc := 233) dX12_dayStep_233 ⟨by decide, by decide⟩ ?_
    obtain ⟨o48, hF⟩ := hF
    refine aw_isub (M := M_X12_dayStep) (pc := 234) dX12_dayStep_234 rfl o48 ?_
    refine pf_X12_251 (M := M_X12_dayStep) (pc := 235) rfl dX12_dayStep_235 rfl ?_
    obtain ⟨h49, eh49⟩ : ∃ y : Mem, y = mset h 161 22 ((h 161 22) - 1) := ⟨_, rfl⟩
    have hF := hF h49 eh49
    rw [← eh49]
    refine aw_aload_n (j := 0) (M := M_X12_dayStep) (pc := 238) dX12_dayStep_238 rfl rfl ?_
    refine gf_X12_7 (M := M_X12_dayStep) (pc := 239) rfl dX12_dayStep_239 rfl (r := 162) rfl ?_
    refine aw_iload_n (j := 3) (M := M_X12_dayStep) (pc := 242) dX12_dayStep_242 rfl rfl ?_
    refine aw_iconst (M := M_X12_dayStep) (pc := 243) dX12_dayStep_243 ⟨by decide, by decide⟩ ?_
    obtain ⟨o50, hF⟩ := hF
    refine aw_iadd (M := M_X12_dayStep) (pc := 244) dX12_dayStep_244 rfl o50 ?_
    refine aw_aload_n (j := 0) (M := M_X12_dayStep) (pc := 245) dX12_dayStep_245 rfl rfl ?_
    refine gf_X12_44 (M := M_X12_dayStep) (pc := 246) rfl dX12_dayStep_246 rfl (r := 169) rfl ?_
    refine aw_aload_n (j := 0) (M := M_X12_dayStep) (pc := 249) dX12_dayStep_249 rfl rfl ?_
    refine gf_X12_251 (M := M_X12_dayStep) (pc := 250) rfl dX12_dayStep_250 rfl ?_
    obtain ⟨o52, hF⟩ := hF
    refine aw_iald (k := (h49 161 22).toNat) (M := M_X12_dayStep) (pc := 253) dX12_dayStep_253 rfl o52 rfl ?_
    obtain ⟨o53, hF⟩ := hF
    refine aw_iast (k := (v3 + 4).toNat) (M := M_X12_dayStep) (pc := 254) dX12_dayStep_254 rfl o53 rfl ?_
    obtain ⟨h54, eh54⟩ : ∃ y : Mem, y = mset h49 162 (v3 + 4).toNat (h49 169 (h49 161 22).toNat) := ⟨_, rfl⟩
    have hF := hF h54 eh54
    rw [← eh54]
    refine aw_aload_n (j := 0) (M := M_X12_dayStep) (pc := 255) dX12_dayStep_255 rfl rfl ?_
    refine gf_X12_7 (M := M_X12_dayStep) (pc := 256) rfl dX12_dayStep_256 rfl (r := 162) rfl ?_
    refine aw_sipush (M := M_X12_dayStep) (pc := 259) dX12_dayStep_259 ⟨rfl, ⟨by decide, by decide⟩⟩ ?_
    refine aw_bipush (M := M_X12_dayStep) (pc := 262) dX12_dayStep_262 ⟨rfl, ⟨by decide, by decide⟩⟩ ?_
    refine aw_aload_n (j := 0) (M := M_X12_dayStep) (pc := 264) dX12_dayStep_264 rfl rfl ?_
    refine gf_X12_44 (M := M_X12_dayStep) (pc := 265) rfl dX12_dayStep_265 rfl (r := 169) rfl ?_
    refine aw_aload_n (j := 0) (M := M_X12_dayStep) (pc := 268) dX12_dayStep_268 rfl rfl ?_
    refine gf_X12_251 (M := M_X12_dayStep) (pc := 269) rfl dX12_dayStep_269 rfl ?_
    obtain ⟨o56, hF⟩ := hF
    refine aw_iald (k := (h54 161 22).toNat) (M := M_X12_dayStep) (pc := 272) dX12_dayStep_272 rfl o56 rfl ?_
    obtain ⟨o57, hF⟩ := hF
    refine aw_imul (M := M_X12_dayStep) (pc := 273) dX12_dayStep_273 rfl o57 ?_
    obtain ⟨o58, hF⟩ := hF
    refine aw_iadd (M := M_X12_dayStep) (pc := 274) dX12_dayStep_274 rfl o58 ?_
    refine aw_iconst (M := M_X12_dayStep) (pc := 275) dX12_dayStep_275 ⟨by decide, by decide⟩ ?_
    obtain ⟨o59, hF⟩ := hF
    refine aw_iadd (M := M_X12_dayStep) (pc := 276) dX12_dayStep_276 rfl o59 ?_
    refine aw_iload_n (j := 2) (M := M_X12_dayStep) (pc := 277) dX12_dayStep_277 rfl rfl ?_
    obtain ⟨o60, hF⟩ := hF
    refine aw_iast (k := ((1872 + (6 * (h54 169 (h54 161 22).toNat))) + 4).toNat) (M := M_X12_dayStep) (pc := 278) dX12_dayStep_278 rfl o60 rfl ?_
    obtain ⟨h61, eh61⟩ : ∃ y : Mem, y = mset h54 162 ((1872 + (6 * (h54 169 (h54 161 22).toNat))) + 4).toNat v2 := ⟨_, rfl⟩
    have hF := hF h61 eh61
    rw [← eh61]
    refine aw_aload_n (j := 0) (M := M_X12_dayStep) (pc := 279) dX12_dayStep_279 rfl rfl ?_
    refine aw_bipush (M := M_X12_dayStep) (pc := 280) dX12_dayStep_280 ⟨rfl, ⟨by decide, by decide⟩⟩ ?_
    refine aw_cvi (as := [(0, 59)]) (st := []) (M := M_X12_dayStep) (pc := 282) (f_X12_wantSign  hF) dX12_dayStep_282 rfl (Or.inl ⟨_, _, _, rfl, rfl⟩) cy_X12_wantSign ml_X12_229 (by decide) (by decide) (Nat.le_of_ble_eq_true rfl) (fun r63 h62 hF => ?_)
    exact aw_iretz (M := M_X12_dayStep) (pc := 285) dX12_dayStep_285 rfl hF.1 ⟨_, rfl, hF.2⟩
def J_X12_dayStep_117 (h : Mem) (v1 : Int) (v2 : Int) (v3 : Int) (v4 : Int) (Q : Int → Mem → Prop) : Prop :=
  ((¬ (v1 = 20) → (InR ((h 161 23) + 1) ∧ (∀ h24 : Mem, h24 = mset h 161 23 ((h 161 23) + 1) → ((0 ≤ v3 ∧ v3 < 3008) ∧ (∀ h26 : Mem, h26 = mset h24 162 (v3).toNat v1 → L_X12_dayStep_147 h26 v1 v2 v3 v4 1 Q))))) ∧ (v1 = 20 → (InR (h 161 23) ∧ (∀ h28 : Mem, h28 = mset h 161 23 (h 161 23) → ((0 ≤ v3 ∧ v3 < 3008) ∧ (∀ h30 : Mem, h30 = mset h28 162 (v3).toNat v1 → L_X12_dayStep_147 h30 v1 v2 v3 v4 1 Q))))))
set_option maxRecDepth 100000 in
set_option maxHeartbeats 4000000 in
theorem j_X12_dayStep_117 {h : Mem} {v1 : Int} {v2 : Int} {v3 : Int} {v4 : Int} {Q : Int → Mem → Prop}  (hF : J_X12_dayStep_117 h v1 v2 v3 v4 Q) : AW M_X12_dayStep 117 [(0, vr 161), (1, (0, v1)), (2, (0, v2)), (3, (0, v3)), (4, (0, v4))] [] h (qi Q) := by
  unfold J_X12_dayStep_117 at hF
  refine aw_aload_n (j := 0) (M := M_X12_dayStep) (pc := 117) dX12_dayStep_117 rfl rfl ?_
  refine aw_dup (M := M_X12_dayStep) (pc := 118) dX12_dayStep_118 rfl ?_
  refine gf_X12_254 (M := M_X12_dayStep) (pc := 119) rfl dX12_dayStep_119 rfl ?_
  refine aw_iload_n (j := 1) (M := M_X12_dayStep) (pc := 122) dX12_dayStep_122 rfl rfl ?_
  refine aw_bipush (M := M_X12_dayStep) (pc := 123) dX12_dayStep_123 ⟨rfl, ⟨by decide, by decide⟩⟩ ?_
  refine aw_icmp_ne (tgt := 132) (M := M_X12_dayStep) (pc := 125) dX12_dayStep_125 rfl (fun hc => ?_) (fun hc => ?_)
  · have hF := hF.1 hc
    refine aw_iconst (M := M_X12_dayStep) (pc := 132) dX12_dayStep_132 ⟨by decide, by decide⟩ ?_
    obtain ⟨o23, hF⟩ := hF
    refine aw_iadd (M := M_X12_dayStep) (pc := 133) dX12_dayStep_133 rfl o23 ?_
    refine pf_X12_254 (M := M_X12_dayStep) (pc := 134) rfl dX12_dayStep_134 rfl ?_
    obtain ⟨h24, eh24⟩ : ∃ y : Mem, y = mset h 161 23 ((h 161 23) + 1) := ⟨_, rfl⟩
    have hF := hF h24 eh24
    rw [← eh24]
    refine aw_aload_n (j := 0) (M := M_X12_dayStep) (pc := 137) dX12_dayStep_137 rfl rfl ?_
    refine gf_X12_7 (M := M_X12_dayStep) (pc := 138) rfl dX12_dayStep_138 rfl (r := 162) rfl ?_
    refine aw_iload_n (j := 3) (M := M_X12_dayStep) (pc := 141) dX12_dayStep_141 rfl rfl ?_
    refine aw_iload_n (j := 1) (M := M_X12_dayStep) (pc := 142) dX12_dayStep_142 rfl rfl ?_
    obtain ⟨o25, hF⟩ := hF
    refine aw_iast (k := (v3).toNat) (M := M_X12_dayStep) (pc := 143) dX12_dayStep_143 rfl o25 rfl ?_
    obtain ⟨h26, eh26⟩ : ∃ y : Mem, y = mset h24 162 (v3).toNat v1 := ⟨_, rfl⟩
    have hF := hF h26 eh26
    rw [← eh26]
    refine aw_iconst (M := M_X12_dayStep) (pc := 144) dX12_dayStep_144 ⟨by decide, by decide⟩ ?_
    refine aw_istore (ls' := [(5, (0, 1)), (0, vr 161), (1, (0, v1)), (2, (0, v2)), (3, (0, v3)), (4, (0, v4))]) (M := M_X12_dayStep) (pc := 145) dX12_dayStep_145  (by decide) rfl ?_
    exact aw_ls [1, 2, 3, 4, 5, 0] rfl hF
  · have hF := hF.2 hc
    refine aw_iconst (M := M_X12_dayStep) (pc := 128) dX12_dayStep_128 ⟨by decide, by decide⟩ ?_
    refine aw_goto (tgt := 133) (M := M_X12_dayStep) (pc := 129) dX12_dayStep_129 rfl ?_
    obtain ⟨o27, hF⟩ := hF
    refine aw_iadd (r := h 161 23) (M := M_X12_dayStep) (pc := 133) dX12_dayStep_133 (Int.add_zero _) o27 ?_
    refine pf_X12_254 (M := M_X12_dayStep) (pc := 134) rfl dX12_dayStep_134 rfl ?_
    obtain ⟨h28, eh28⟩ : ∃ y : Mem, y = mset h 161 23 (h 161 23) := ⟨_, rfl⟩
    have hF := hF h28 eh28
    rw [← eh28]
    refine aw_aload_n (j := 0) (M := M_X12_dayStep) (pc := 137) dX12_dayStep_137 rfl rfl ?_
    refine gf_X12_7 (M := M_X12_dayStep) (pc := 138) rfl dX12_dayStep_138 rfl (r := 162) rfl ?_
    refine aw_iload_n (j := 3) (M := M_X12_dayStep) (pc := 141) dX12_dayStep_141 rfl rfl ?_
    refine aw_iload_n (j := 1) (M := M_X12_dayStep) (pc := 142) dX12_dayStep_142 rfl rfl ?_
    obtain ⟨o29, hF⟩ := hF
    refine aw_iast (k := (v3).toNat) (M := M_X12_dayStep) (pc := 143) dX12_dayStep_143 rfl o29 rfl ?_
    obtain ⟨h30, eh30⟩ : ∃ y : Mem, y = mset h28 162 (v3).toNat v1 := ⟨_, rfl⟩
    have hF := hF h30 eh30
    rw [← eh30]
    refine aw_iconst (M := M_X12_dayStep) (pc := 144) dX12_dayStep_144 ⟨by decide, by decide⟩ ?_
    refine aw_istore (ls' := [(5, (0, 1)), (0, vr 161), (1, (0, v1)), (2, (0, v2)), (3, (0, v3)), (4, (0, v4))]) (M := M_X12_dayStep) (pc := 145) dX12_dayStep_145  (by decide) rfl ?_
    exact aw_ls [1, 2, 3, 4, 5, 0] rfl hF
def J_X12_dayStep_97 (h : Mem) (v1 : Int) (v2 : Int) (v3 : Int) (v4 : Int) (Q : Int → Mem → Prop) : Prop :=
  ((v4 = 0 → J_X12_dayStep_117 h v1 v2 v3 v4 Q) ∧ (¬ (v4 = 0) → ((¬ ((h 161 22) = 3) → J_X12_dayStep_117 h v1 v2 v3 v4 Q) ∧ ((h 161 22) = 3 → (F_X12_fails h 7 (fun r22 h21 => (InZ r22 ∧ Q r22 h21)))))))
set_option maxRecDepth 100000 in
set_option maxHeartbeats 4000000 in
theorem j_X12_dayStep_97 {h : Mem} {v1 : Int} {v2 : Int} {v3 : Int} {v4 : Int} {Q : Int → Mem → Prop}  (hF : J_X12_dayStep_97 h v1 v2 v3 v4 Q) : AW M_X12_dayStep 97 [(0, vr 161), (1, (0, v1)), (2, (0, v2)), (3, (0, v3)), (4, (0, v4))] [] h (qi Q) := by
  unfold J_X12_dayStep_97 at hF
  refine aw_iload (j := 4) (M := M_X12_dayStep) (pc := 97) dX12_dayStep_97  rfl ?_
  refine aw_if_eq (tgt := 117) (M := M_X12_dayStep) (pc := 99) dX12_dayStep_99 rfl (fun hc => ?_) (fun hc => ?_)
  · have hF := hF.1 hc
    exact aw_ls [0, 1, 2, 3, 4] rfl (j_X12_dayStep_117  hF)
  · have hF := hF.2 hc
    refine aw_aload_n (j := 0) (M := M_X12_dayStep) (pc := 102) dX12_dayStep_102 rfl rfl ?_
    refine gf_X12_251 (M := M_X12_dayStep) (pc := 103) rfl dX12_dayStep_103 rfl ?_
    refine aw_iconst (M := M_X12_dayStep) (pc := 106) dX12_dayStep_106 ⟨by decide, by decide⟩ ?_
    refine aw_icmp_ne (tgt := 117) (M := M_X12_dayStep) (pc := 107) dX12_dayStep_107 rfl (fun hc => ?_) (fun hc => ?_)
    · have hF := hF.1 hc
      exact aw_ls [0, 1, 2, 3, 4] rfl (j_X12_dayStep_117  hF)
    · have hF := hF.2 hc
      refine aw_aload_n (j := 0) (M := M_X12_dayStep) (pc := 110) dX12_dayStep_110 rfl rfl ?_
      refine aw_bipush (M := M_X12_dayStep) (pc := 111) dX12_dayStep_111 ⟨rfl, ⟨by decide, by decide⟩⟩ ?_
      refine aw_cvi (as := [(0, 7)]) (st := []) (M := M_X12_dayStep) (pc := 113) (f_X12_fails  hF) dX12_dayStep_113 rfl (Or.inl ⟨_, _, _, rfl, rfl⟩) cy_X12_fails ml_X12_173 (by decide) (by decide) (Nat.le_of_ble_eq_true rfl) (fun r22 h21 hF => ?_)
      exact aw_iretz (M := M_X12_dayStep) (pc := 116) dX12_dayStep_116 rfl hF.1 ⟨_, rfl, hF.2⟩
def J_X12_dayStep_75 (h : Mem) (v1 : Int) (v2 : Int) (v3 : Int) (v4 : Int) (Q : Int → Mem → Prop) : Prop :=
  ((v1 = 20 → J_X12_dayStep_97 h v1 v2 v3 v4 Q) ∧ (¬ (v1 = 20) → ((¬ ((h 161 23) = 30) → J_X12_dayStep_97 h v1 v2 v3 v4 Q) ∧ ((h 161 23) = 30 → (F_X12_fails h 6 (fun r20 h19 => (InZ r20 ∧ Q r20 h19)))))))
set_option maxRecDepth 100000 in
set_option maxHeartbeats 4000000 in
theorem j_X12_dayStep_75 {h : Mem} {v1 : Int} {v2 : Int} {v3 : Int} {v4 : Int} {Q : Int → Mem → Prop}  (hF : J_X12_dayStep_75 h v1 v2 v3 v4 Q) : AW M_X12_dayStep 75 [(0, vr 161), (1, (0, v1)), (2, (0, v2)), (3, (0, v3)), (4, (0, v4))] [] h (qi Q) := by
  unfold J_X12_dayStep_75 at hF
  refine aw_iload_n (j := 1) (M := M_X12_dayStep) (pc := 75) dX12_dayStep_75 rfl rfl ?_
  refine aw_bipush (M := M_X12_dayStep) (pc := 76) dX12_dayStep_76 ⟨rfl, ⟨by decide, by decide⟩⟩ ?_
  refine aw_icmp_eq (tgt := 97) (M := M_X12_dayStep) (pc := 78) dX12_dayStep_78 rfl (fun hc => ?_) (fun hc => ?_)
  · have hF := hF.1 hc
    exact aw_ls [0, 1, 2, 3, 4] rfl (j_X12_dayStep_97  hF)
  · have hF := hF.2 hc
    refine aw_aload_n (j := 0) (M := M_X12_dayStep) (pc := 81) dX12_dayStep_81 rfl rfl ?_
    refine gf_X12_254 (M := M_X12_dayStep) (pc := 82) rfl dX12_dayStep_82 rfl ?_
    refine aw_bipush (M := M_X12_dayStep) (pc := 85) dX12_dayStep_85 ⟨rfl, ⟨by decide, by decide⟩⟩ ?_
    refine aw_icmp_ne (tgt := 97) (M := M_X12_dayStep) (pc := 87) dX12_dayStep_87 rfl (fun hc => ?_) (fun hc => ?_)
    · have hF := hF.1 hc
      exact aw_ls [0, 1, 2, 3, 4] rfl (j_X12_dayStep_97  hF)
    · have hF := hF.2 hc
      refine aw_aload_n (j := 0) (M := M_X12_dayStep) (pc := 90) dX12_dayStep_90 rfl rfl ?_
      refine aw_bipush (M := M_X12_dayStep) (pc := 91) dX12_dayStep_91 ⟨rfl, ⟨by decide, by decide⟩⟩ ?_
      refine aw_cvi (as := [(0, 6)]) (st := []) (M := M_X12_dayStep) (pc := 93) (f_X12_fails  hF) dX12_dayStep_93 rfl (Or.inl ⟨_, _, _, rfl, rfl⟩) cy_X12_fails ml_X12_173 (by decide) (by decide) (Nat.le_of_ble_eq_true rfl) (fun r20 h19 hF => ?_)
      exact aw_iretz (M := M_X12_dayStep) (pc := 96) dX12_dayStep_96 rfl hF.1 ⟨_, rfl, hF.2⟩
def J_X12_dayStep_37 (h : Mem) (v1 : Int) (v2 : Int) (v3 : Int) (Q : Int → Mem → Prop) : Prop :=
  ((v1 < 14 → (F_X12_fails h 2 (fun r14 h13 => (InZ r14 ∧ Q r14 h13)))) ∧ (¬ (v1 < 14) → ((21 < v1 → (F_X12_fails h 2 (fun r16 h15 => (InZ r16 ∧ Q r16 h15)))) ∧ (¬ (21 < v1) → ((¬ (v1 = 20) → J_X12_dayStep_75 h v1 v2 v3 1 Q) ∧ (v1 = 20 → ((¬ ((h 161 22) = 0) → J_X12_dayStep_75 h v1 v2 v3 1 Q) ∧ ((h 161 22) = 0 → (F_X12_fails h 2 (fun r18 h17 => (InZ r18 ∧ Q r18 h17)))))))))))
set_option maxRecDepth 100000 in
set_option maxHeartbeats 4000000 in
theorem j_X12_dayStep_37 {h : Mem} {v1 : Int} {v2 : Int} {v3 : Int} {Q : Int → Mem → Prop}  (hF : J_X12_dayStep_37 h v1 v2 v3 Q) : AW M_X12_dayStep 37 [(0, vr 161), (1, (0, v1)), (2, (0, v2)), (3, (0, v3))] [] h (qi Q) := by
  unfold J_X12_dayStep_37 at hF
  refine aw_iconst (M := M_X12_dayStep) (pc := 37) dX12_dayStep_37 ⟨by decide, by decide⟩ ?_
  refine aw_goto (tgt := 42) (M := M_X12_dayStep) (pc := 38) dX12_dayStep_38 rfl ?_
  refine aw_istore (ls' := [(4, (0, 1)), (0, vr 161), (1, (0, v1)), (2, (0, v2)), (3, (0, v3))]) (M := M_X12_dayStep) (pc := 42) dX12_dayStep_42  (by decide) rfl ?_
  refine aw_iload_n (j := 2) (M := M_X12_dayStep) (pc := 44) dX12_dayStep_44 rfl rfl ?_
  refine aw_bipush (M := M_X12_dayStep) (pc := 45) dX12_dayStep_45 ⟨rfl, ⟨by decide, by decide⟩⟩ ?_
  refine aw_icmp_lt (tgt := 69) (M := M_X12_dayStep) (pc := 47) dX12_dayStep_47 rfl (fun hc => ?_) (fun hc => ?_)
  · have hF := hF.1 hc
    refine aw_aload_n (j := 1) (M := M_X12_dayStep) (pc := 69) dX12_dayStep_69 rfl rfl ?_
    refine aw_iconst (M := M_X12_dayStep) (pc := 70) dX12_dayStep_70 ⟨by decide, by decide⟩ ?_
    refine aw_cvi (as := [(0, 2)]) (st := []) (M := M_X12_dayStep) (pc := 71) (f_X12_fails  hF) dX12_dayStep_71 rfl (Or.inl ⟨_, _, _, rfl, rfl⟩) cy_X12_fails ml_X12_173 (by decide) (by decide) (Nat.le_of_ble_eq_true rfl) (fun r14 h13 hF => ?_)
    exact aw_iretz (M := M_X12_dayStep) (pc := 74) dX12_dayStep_74 rfl hF.1 ⟨_, rfl, hF.2⟩
  · have hF := hF.2 hc
    refine aw_iload_n (j := 2) (M := M_X12_dayStep) (pc := 50) dX12_dayStep_50 rfl rfl ?_
    refine aw_bipush (M := M_X12_dayStep) (pc := 51) dX12_dayStep_51 ⟨rfl, ⟨by decide, by decide⟩⟩ ?_
    refine aw_icmp_gt (tgt := 69) (M := M_X12_dayStep) (pc := 53) dX12_dayStep_53 rfl (fun hc => ?_) (fun hc => ?_)
    · have hF := hF.1 hc
      refine aw_aload_n (j := 1) (M := M_X12_dayStep) (pc := 69) dX12_dayStep_69 rfl rfl ?_
      refine aw_iconst (M := M_X12_dayStep) (pc := 70) dX12_dayStep_70 ⟨by decide, by decide⟩ ?_
      refine aw_cvi (as := [(0, 2)]) (st := []) (M := M_X12_dayStep) (pc := 71) (f_X12_fails  hF) dX12_dayStep_71 rfl (Or.inl ⟨_, _, _, rfl, rfl⟩) cy_X12_fails ml_X12_173 (by decide) (by decide) (Nat.le_of_ble_eq_true rfl) (fun r16 h15 hF => ?_)
      exact aw_iretz (M := M_X12_dayStep) (pc := 74) dX12_dayStep_74 rfl hF.1 ⟨_, rfl, hF.2⟩
    · have hF := hF.2 hc
      refine aw_iload_n (j := 2) (M := M_X12_dayStep) (pc := 56) dX12_dayStep_56 rfl rfl ?_
      refine aw_bipush (M := M_X12_dayStep) (pc := 57) dX12_dayStep_57 ⟨rfl, ⟨by decide, by decide⟩⟩ ?_
      refine aw_icmp_ne (tgt := 75) (M := M_X12_dayStep) (pc := 59) dX12_dayStep_59 rfl (fun hc => ?_) (fun hc => ?_)
      · have hF := hF.1 hc
        exact aw_ls [1, 2, 3, 4, 0] rfl (j_X12_dayStep_75  hF)
      · have hF := hF.2 hc
        refine aw_aload_n (j := 1) (M := M_X12_dayStep) (pc := 62) dX12_dayStep_62 rfl rfl ?_
        refine gf_X12_251 (M := M_X12_dayStep) (pc := 63) rfl dX12_dayStep_63 rfl ?_
        refine aw_if_ne (tgt := 75) (M := M_X12_dayStep) (pc := 66) dX12_dayStep_66 rfl (fun hc => ?_) (fun hc => ?_)
        · have hF := hF.1 hc
          exact aw_ls [1, 2, 3, 4, 0] rfl (j_X12_dayStep_75  hF)
        · have hF := hF.2 hc
          refine aw_aload_n (j := 1) (M := M_X12_dayStep) (pc := 69) dX12_dayStep_69 rfl rfl ?_
          refine aw_iconst (M := M_X12_dayStep) (pc := 70) dX12_dayStep_70 ⟨by decide, by decide⟩ ?_
          refine aw_cvi (as := [(0, 2)]) (st := []) (M := M_X12_dayStep) (pc := 71) (f_X12_fails  hF) dX12_dayStep_71 rfl (Or.inl ⟨_, _, _, rfl, rfl⟩) cy_X12_fails ml_X12_173 (by decide) (by decide) (Nat.le_of_ble_eq_true rfl) (fun r18 h17 hF => ?_)
          exact aw_iretz (M := M_X12_dayStep) (pc := 74) dX12_dayStep_74 rfl hF.1 ⟨_, rfl, hF.2⟩
def B_X12_dayStep_147 (h : Mem) (v1 : Int) (v2 : Int) (v3 : Int) (v4 : Int) (v5 : Int) (Q : Int → Mem → Prop) : Prop :=
  ((6 ≤ v5 → (InR ((h 162 1801) + 1) ∧ (∀ h33 : Mem, h33 = mset h 162 1801 ((h 162 1801) + 1) → (F_X12_ahead h33  (fun h34 => (F_X12_dayOrder h34 v1 v3 (fun r37 h36 => ((¬ (r37 = 0) → ((v4 = 0 → J_X12_dayStep_222 h36 v1 v2 v3 Q) ∧ (¬ (v4 = 0) → ((0 ≤ (h36 161 22) ∧ (h36 161 22) < 3) ∧ (∀ h39 : Mem, h39 = mset h36 169 (h36 161 22).toNat v2 → (InR ((h39 161 22) + 1) ∧ (∀ h41 : Mem, h41 = mset h39 161 22 ((h39 161 22) + 1) → J_X12_dayStep_222 h41 v1 v2 v3 Q))))))) ∧ (r37 = 0 → Q 0 h36))))))))) ∧ (¬ (6 ≤ v5) → (InR (v3 + v5) ∧ ((0 ≤ (v3 + v5) ∧ (v3 + v5) < 3008) ∧ (∀ h44 : Mem, h44 = mset h 162 (v3 + v5).toNat 0 → (InR (v5 + 1) ∧ L_X12_dayStep_147 h44 v1 v2 v3 v4 (v5 + 1) Q))))))
set_option maxRecDepth 100000 in
set_option maxHeartbeats 4000000 in
theorem l_X12_dayStep_147 {h : Mem} {v1 : Int} {v2 : Int} {v3 : Int} {v4 : Int} {v5 : Int} {Q : Int → Mem → Prop}  (hF : B_X12_dayStep_147 h v1 v2 v3 v4 v5 Q) : L_X12_dayStep_147 h v1 v2 v3 v4 v5 Q := by
  unfold B_X12_dayStep_147 at hF
  show AW M_X12_dayStep 147 [(0, vr 161), (1, (0, v1)), (2, (0, v2)), (3, (0, v3)), (4, (0, v4)), (5, (0, v5))] [] h (qi Q)
  refine aw_iload (j := 5) (M := M_X12_dayStep) (pc := 147) dX12_dayStep_147  rfl ?_
  refine aw_bipush (M := M_X12_dayStep) (pc := 149) dX12_dayStep_149 ⟨rfl, ⟨by decide, by decide⟩⟩ ?_
  refine aw_icmp_ge (tgt := 170) (M := M_X12_dayStep) (pc := 151) dX12_dayStep_151 rfl (fun hc => ?_) (fun hc => ?_)
  · have hF := hF.1 hc
    refine aw_aload_n (j := 0) (M := M_X12_dayStep) (pc := 170) dX12_dayStep_170 rfl rfl ?_
    refine gf_X12_7 (M := M_X12_dayStep) (pc := 171) rfl dX12_dayStep_171 rfl (r := 162) rfl ?_
    refine aw_sipush (M := M_X12_dayStep) (pc := 174) dX12_dayStep_174 ⟨rfl, ⟨by decide, by decide⟩⟩ ?_
    refine aw_dup2 (M := M_X12_dayStep) (pc := 177) dX12_dayStep_177 rfl rfl ?_
    refine aw_iald (k := 1801) (M := M_X12_dayStep) (pc := 178) dX12_dayStep_178 rfl ⟨by decide, by decide⟩ rfl ?_
    refine aw_iconst (M := M_X12_dayStep) (pc := 179) dX12_dayStep_179 ⟨by decide, by decide⟩ ?_
    obtain ⟨o32, hF⟩ := hF
    refine aw_iadd (M := M_X12_dayStep) (pc := 180) dX12_dayStep_180 rfl o32 ?_
    refine aw_iast (k := 1801) (M := M_X12_dayStep) (pc := 181) dX12_dayStep_181 rfl ⟨by decide, by decide⟩ rfl ?_
    obtain ⟨h33, eh33⟩ : ∃ y : Mem, y = mset h 162 1801 ((h 162 1801) + 1) := ⟨_, rfl⟩
    have hF := hF h33 eh33
    rw [← eh33]
    refine aw_aload_n (j := 0) (M := M_X12_dayStep) (pc := 182) dX12_dayStep_182 rfl rfl ?_
    refine aw_cvv (as := []) (st := []) (M := M_X12_dayStep) (pc := 183) (f_X12_ahead  hF) dX12_dayStep_183 rfl (Or.inl ⟨_, _, _, rfl, rfl⟩) cy_X12_ahead ml_X12_167 (by decide) (by decide) (Nat.le_of_ble_eq_true rfl) (fun h34 hF => ?_)
    refine aw_aload_n (j := 0) (M := M_X12_dayStep) (pc := 186) dX12_dayStep_186 rfl rfl ?_
    refine aw_iload_n (j := 1) (M := M_X12_dayStep) (pc := 187) dX12_dayStep_187 rfl rfl ?_
    refine aw_iload_n (j := 3) (M := M_X12_dayStep) (pc := 188) dX12_dayStep_188 rfl rfl ?_
    refine aw_cvi (as := [(0, v1), (0, v3)]) (st := []) (M := M_X12_dayStep) (pc := 189) (f_X12_dayOrder  hF) dX12_dayStep_189 rfl (Or.inl ⟨_, _, _, rfl, rfl⟩) cy_X12_dayOrder ml_X12_257 (by decide) (by decide) (Nat.le_of_ble_eq_true rfl) (fun r37 h36 hF => ?_)
    refine aw_if_ne (tgt := 197) (M := M_X12_dayStep) (pc := 192) dX12_dayStep_192 rfl (fun hc => ?_) (fun hc => ?_)
    · have hF := hF.1 hc
      refine aw_iload (j := 4) (M := M_X12_dayStep) (pc := 197) dX12_dayStep_197  rfl ?_
      refine aw_if_eq (tgt := 222) (M := M_X12_dayStep) (pc := 199) dX12_dayStep_199 rfl (fun hc => ?_) (fun hc => ?_)
      · have hF := hF.1 hc
        exact aw_ls [0, 1, 2, 3] rfl (j_X12_dayStep_222  hF)
      · have hF := hF.2 hc
        refine aw_aload_n (j := 0) (M := M_X12_dayStep) (pc := 202) dX12_dayStep_202 rfl rfl ?_
        refine gf_X12_44 (M := M_X12_dayStep) (pc := 203) rfl dX12_dayStep_203 rfl (r := 169) rfl ?_
        refine aw_aload_n (j := 0) (M := M_X12_dayStep) (pc := 206) dX12_dayStep_206 rfl rfl ?_
        refine gf_X12_251 (M := M_X12_dayStep) (pc := 207) rfl dX12_dayStep_207 rfl ?_
        refine aw_iload_n (j := 2) (M := M_X12_dayStep) (pc := 210) dX12_dayStep_210 rfl rfl ?_
        obtain ⟨o38, hF⟩ := hF
        refine aw_iast (k := (h36 161 22).toNat) (M := M_X12_dayStep) (pc := 211) dX12_dayStep_211 rfl o38 rfl ?_
        obtain ⟨h39, eh39⟩ : ∃ y : Mem, y = mset h36 169 (h36 161 22).toNat v2 := ⟨_, rfl⟩
        have hF := hF h39 eh39
        rw [← eh39]
        refine aw_aload_n (j := 0) (M := M_X12_dayStep) (pc := 212) dX12_dayStep_212 rfl rfl ?_
        refine aw_dup (M := M_X12_dayStep) (pc := 213) dX12_dayStep_213 rfl ?_
        refine gf_X12_251 (M := M_X12_dayStep) (pc := 214) rfl dX12_dayStep_214 rfl ?_
        refine aw_iconst (M := M_X12_dayStep) (pc := 217) dX12_dayStep_217 ⟨by decide, by decide⟩ ?_
        obtain ⟨o40, hF⟩ := hF
        refine aw_iadd (M := M_X12_dayStep) (pc := 218) dX12_dayStep_218 rfl o40 ?_
        refine pf_X12_251 (M := M_X12_dayStep) (pc := 219) rfl dX12_dayStep_219 rfl ?_
        obtain ⟨h41, eh41⟩ : ∃ y : Mem, y = mset h39 161 22 ((h39 161 22) + 1) := ⟨_, rfl⟩
        have hF := hF h41 eh41
        rw [← eh41]
        exact aw_ls [0, 1, 2, 3] rfl (j_X12_dayStep_222  hF)
    · have hF := hF.2 hc
      refine aw_iconst (M := M_X12_dayStep) (pc := 195) dX12_dayStep_195 ⟨by decide, by decide⟩ ?_
      exact aw_iretz (M := M_X12_dayStep) (pc := 196) dX12_dayStep_196 rfl (Or.inl rfl) ⟨_, rfl, hF⟩
  · have hF := hF.2 hc
    refine aw_aload_n (j := 0) (M := M_X12_dayStep) (pc := 154) dX12_dayStep_154 rfl rfl ?_
    refine gf_X12_7 (M := M_X12_dayStep) (pc := 155) rfl dX12_dayStep_155 rfl (r := 162) rfl ?_
    refine aw_iload_n (j := 3) (M := M_X12_dayStep) (pc := 158) dX12_dayStep_158 rfl rfl ?_
    refine aw_iload (j := 5) (M := M_X12_dayStep) (pc := 159) dX12_dayStep_159  rfl ?_
    obtain ⟨o42, hF⟩ := hF
    refine aw_iadd (M := M_X12_dayStep) (pc := 161) dX12_dayStep_161 rfl o42 ?_
    refine aw_iconst (M := M_X12_dayStep) (pc := 162) dX12_dayStep_162 ⟨by decide, by decide⟩ ?_
    obtain ⟨o43, hF⟩ := hF
    refine aw_iast (k := (v3 + v5).toNat) (M := M_X12_dayStep) (pc := 163) dX12_dayStep_163 rfl o43 rfl ?_
    obtain ⟨h44, eh44⟩ : ∃ y : Mem, y = mset h 162 (v3 + v5).toNat 0 := ⟨_, rfl⟩
    have hF := hF h44 eh44
    rw [← eh44]
    obtain ⟨o45, hF⟩ := hF
    refine aw_iinc (j := 5) (x := v5) (r := v5 + 1) (ls' := [(5, (0, v5 + 1)), (0, vr 161), (1, (0, v1)), (2, (0, v2)), (3, (0, v3)), (4, (0, v4))]) (M := M_X12_dayStep) (pc := 164) dX12_dayStep_164 rfl rfl o45 (by decide) rfl ?_
    refine aw_goto (tgt := 147) (M := M_X12_dayStep) (pc := 167) dX12_dayStep_167 rfl ?_
    exact aw_ls [1, 2, 3, 4, 5, 0] rfl hF
def F_X12_dayStep (h : Mem)  (Q : Int → Mem → Prop) : Prop :=
  (F_X12_inWords h  (fun r2 h1 => (InR (6 * (h1 162 1801)) ∧ (InR (1872 + (6 * (h1 162 1801))) ∧ (∀ x6 : Int, x6 = 1872 + (6 * (h1 162 1801)) → ((r2 = 18 → J_X12_dayStep_37 h1 r2 (h1 162 1801) x6 Q) ∧ (¬ (r2 = 18) → ((¬ (r2 = 19) → ((r2 < 14 → (F_X12_fails h1 2 (fun r8 h7 => (InZ r8 ∧ Q r8 h7)))) ∧ (¬ (r2 < 14) → ((21 < r2 → (F_X12_fails h1 2 (fun r10 h9 => (InZ r10 ∧ Q r10 h9)))) ∧ (¬ (21 < r2) → ((¬ (r2 = 20) → J_X12_dayStep_75 h1 r2 (h1 162 1801) x6 0 Q) ∧ (r2 = 20 → ((¬ ((h1 161 22) = 0) → J_X12_dayStep_75 h1 r2 (h1 162 1801) x6 0 Q) ∧ ((h1 161 22) = 0 → (F_X12_fails h1 2 (fun r12 h11 => (InZ r12 ∧ Q r12 h11)))))))))))) ∧ (r2 = 19 → J_X12_dayStep_37 h1 r2 (h1 162 1801) x6 Q)))))))))
set_option maxRecDepth 100000 in
set_option maxHeartbeats 4000000 in
theorem f_X12_dayStep {h : Mem}  {Q : Int → Mem → Prop}  (hF : F_X12_dayStep h  Q) : Ct yX12_dayStep cX12_dayStep 6 (some .boolean) (11, 266) [vr 161] h (qi Q) := by
  refine Ct.of np_RX12 (Nat.le_of_ble_eq_true rfl) ?_
  unfold F_X12_dayStep at hF
  show AW M_X12_dayStep 0 [(0, vr 161)] [] h (qi Q)
  refine aw_aload_n (j := 0) (M := M_X12_dayStep) (pc := 0) dX12_dayStep_0 rfl rfl ?_
  refine aw_ldcM (M := M_X12_dayStep) (pc := 1) rfl dX12_dayStep_1 ?_
  refine aw_cvi (as := [vr 183]) (st := []) (M := M_X12_dayStep) (pc := 3) (f_X12_inWords  hF) dX12_dayStep_3 rfl (Or.inl ⟨_, _, _, rfl, rfl⟩) cy_X12_inWords ml_X12_176 (by decide) (by decide) (Nat.le_of_ble_eq_true rfl) (fun r2 h1 hF => ?_)
  refine aw_istore_n (ls' := [(1, (0, r2)), (0, vr 161)]) (M := M_X12_dayStep) (pc := 6) dX12_dayStep_6 rfl (by decide) rfl ?_
  refine aw_aload_n (j := 1) (M := M_X12_dayStep) (pc := 7) dX12_dayStep_7 rfl rfl ?_
  refine gf_X12_7 (M := M_X12_dayStep) (pc := 8) rfl dX12_dayStep_8 rfl (r := 162) rfl ?_
  refine aw_sipush (M := M_X12_dayStep) (pc := 11) dX12_dayStep_11 ⟨rfl, ⟨by decide, by decide⟩⟩ ?_
  refine aw_iald (k := 1801) (M := M_X12_dayStep) (pc := 14) dX12_dayStep_14 rfl ⟨by decide, by decide⟩ rfl ?_
  refine aw_istore_n (ls' := [(2, (0, h1 162 1801)), (1, (0, r2)), (0, vr 161)]) (M := M_X12_dayStep) (pc := 15) dX12_dayStep_15 rfl (by decide) rfl ?_
  refine aw_sipush (M := M_X12_dayStep) (pc := 16) dX12_dayStep_16 ⟨rfl, ⟨by decide, by decide⟩⟩ ?_
  refine aw_bipush (M := M_X12_dayStep) (pc := 19) dX12_dayStep_19 ⟨rfl, ⟨by decide, by decide⟩⟩ ?_
  refine aw_iload_n (j := 0) (M := M_X12_dayStep) (pc := 21) dX12_dayStep_21 rfl rfl ?_
  obtain ⟨o4, hF⟩ := hF
  refine aw_imul (M := M_X12_dayStep) (pc := 22) dX12_dayStep_22 rfl o4 ?_
  obtain ⟨o5, hF⟩ := hF
  refine aw_iadd (M := M_X12_dayStep) (pc := 23) dX12_dayStep_23 rfl o5 ?_
  obtain ⟨x6, ex6⟩ : ∃ y : Int, y = 1872 + (6 * (h1 162 1801)) := ⟨_, rfl⟩
  have hF := hF x6 ex6
  rw [← ex6]
  refine aw_istore_n (ls' := [(3, (0, x6)), (2, (0, h1 162 1801)), (1, (0, r2)), (0, vr 161)]) (M := M_X12_dayStep) (pc := 24) dX12_dayStep_24 rfl (by decide) rfl ?_
  refine aw_iload_n (j := 2) (M := M_X12_dayStep) (pc := 25) dX12_dayStep_25 rfl rfl ?_
  refine aw_bipush (M := M_X12_dayStep) (pc := 26) dX12_dayStep_26 ⟨rfl, ⟨by decide, by decide⟩⟩ ?_
  refine aw_icmp_eq (tgt := 37) (M := M_X12_dayStep) (pc := 28) dX12_dayStep_28 rfl (fun hc => ?_) (fun hc => ?_)
  · have hF := hF.1 hc
    exact aw_ls [3, 2, 1, 0] rfl (j_X12_dayStep_37  hF)
  · have hF := hF.2 hc
    refine aw_iload_n (j := 2) (M := M_X12_dayStep) (pc := 31) dX12_dayStep_31 rfl rfl ?_
    refine aw_bipush (M := M_X12_dayStep) (pc := 32) dX12_dayStep_32 ⟨rfl, ⟨by decide, by decide⟩⟩ ?_
    refine aw_icmp_ne (tgt := 41) (M := M_X12_dayStep) (pc := 34) dX12_dayStep_34 rfl (fun hc => ?_) (fun hc => ?_)
    · have hF := hF.1 hc
      refine aw_iconst (M := M_X12_dayStep) (pc := 41) dX12_dayStep_41 ⟨by decide, by decide⟩ ?_
      refine aw_istore (ls' := [(4, (0, 0)), (3, (0, x6)), (2, (0, h1 162 1801)), (1, (0, r2)), (0, vr 161)]) (M := M_X12_dayStep) (pc := 42) dX12_dayStep_42  (by decide) rfl ?_
      refine aw_iload_n (j := 3) (M := M_X12_dayStep) (pc := 44) dX12_dayStep_44 rfl rfl ?_
      refine aw_bipush (M := M_X12_dayStep) (pc := 45) dX12_dayStep_45 ⟨rfl, ⟨by decide, by decide⟩⟩ ?_
      refine aw_icmp_lt (tgt := 69) (M := M_X12_dayStep) (pc := 47) dX12_dayStep_47 rfl (fun hc => ?_) (fun hc => ?_)
      · have hF := hF.1 hc
        refine aw_aload_n (j := 4) (M := M_X12_dayStep) (pc := 69) dX12_dayStep_69 rfl rfl ?_
        refine aw_iconst (M := M_X12_dayStep) (pc := 70) dX12_dayStep_70 ⟨by decide, by decide⟩ ?_
        refine aw_cvi (as := [(0, 2)]) (st := []) (M := M_X12_dayStep) (pc := 71) (f_X12_fails  hF) dX12_dayStep_71 rfl (Or.inl ⟨_, _, _, rfl, rfl⟩) cy_X12_fails ml_X12_173 (by decide) (by decide) (Nat.le_of_ble_eq_true rfl) (fun r8 h7 hF => ?_)
        exact aw_iretz (M := M_X12_dayStep) (pc := 74) dX12_dayStep_74 rfl hF.1 ⟨_, rfl, hF.2⟩
      · have hF := hF.2 hc
        refine aw_iload_n (j := 3) (M := M_X12_dayStep) (pc := 50) dX12_dayStep_50 rfl rfl ?_
        refine aw_bipush (M := M_X12_dayStep) (pc := 51) dX12_dayStep_51 ⟨rfl, ⟨by decide, by decide⟩⟩ ?_
        refine aw_icmp_gt (tgt := 69) (M := M_X12_dayStep) (pc := 53) dX12_dayStep_53 rfl (fun hc => ?_) (fun hc => ?_)
        · have hF := hF.1 hc
          refine aw_aload_n (j := 4) (M := M_X12_dayStep) (pc := 69) dX12_dayStep_69 rfl rfl ?_
          refine aw_iconst (M := M_X12_dayStep) (pc := 70) dX12_dayStep_70 ⟨by decide, by decide⟩ ?_
          refine aw_cvi (as := [(0, 2)]) (st := []) (M := M_X12_dayStep) (pc := 71) (f_X12_fails  hF) dX12_dayStep_71 rfl (Or.inl ⟨_, _, _, rfl, rfl⟩) cy_X12_fails ml_X12_173 (by decide) (by decide) (Nat.le_of_ble_eq_true rfl) (fun r10 h9 hF => ?_)
          exact aw_iretz (M := M_X12_dayStep) (pc := 74) dX12_dayStep_74 rfl hF.1 ⟨_, rfl, hF.2⟩
        · have hF := hF.2 hc
          refine aw_iload_n (j := 3) (M := M_X12_dayStep) (pc := 56) dX12_dayStep_56 rfl rfl ?_
          refine aw_bipush (M := M_X12_dayStep) (pc := 57) dX12_dayStep_57 ⟨rfl, ⟨by decide, by decide⟩⟩ ?_
          refine aw_icmp_ne (tgt := 75) (M := M_X12_dayStep) (pc := 59) dX12_dayStep_59 rfl (fun hc => ?_) (fun hc => ?_)
          · have hF := hF.1 hc
            exact aw_ls [4, 3, 2, 1, 0] rfl (j_X12_dayStep_75  hF)
          · have hF := hF.2 hc
            refine aw_aload_n (j := 4) (M := M_X12_dayStep) (pc := 62) dX12_dayStep_62 rfl rfl ?_
            refine gf_X12_251 (M := M_X12_dayStep) (pc := 63) rfl dX12_dayStep_63 rfl ?_
            refine aw_if_ne (tgt := 75) (M := M_X12_dayStep) (pc := 66) dX12_dayStep_66 rfl (fun hc => ?_) (fun hc => ?_)
            · have hF := hF.1 hc
              exact aw_ls [4, 3, 2, 1, 0] rfl (j_X12_dayStep_75  hF)
            · have hF := hF.2 hc
              refine aw_aload_n (j := 4) (M := M_X12_dayStep) (pc := 69) dX12_dayStep_69 rfl rfl ?_
              refine aw_iconst (M := M_X12_dayStep) (pc := 70) dX12_dayStep_70 ⟨by decide, by decide⟩ ?_
              refine aw_cvi (as := [(0, 2)]) (st := []) (M := M_X12_dayStep) (pc := 71) (f_X12_fails  hF) dX12_dayStep_71 rfl (Or.inl ⟨_, _, _, rfl, rfl⟩) cy_X12_fails ml_X12_173 (by decide) (by decide) (Nat.le_of_ble_eq_true rfl) (fun r12 h11 hF => ?_)
              exact aw_iretz (M := M_X12_dayStep) (pc := 74) dX12_dayStep_74 rfl hF.1 ⟨_, rfl, hF.2⟩
    · have hF := hF.2 hc
      exact aw_ls [3, 2, 1, 0] rfl (j_X12_dayStep_37  hF)
abbrev M_X12_taken : Hd := (cX12_taken, 2, RX12, (some .int), (2, 66), sc0)
def F_X12_taken (h : Mem) (a1 : Int) (Q : Int → Mem → Prop) : Prop :=
  (∀ h1 : Mem, h1 = mset h 161 16 (h 161 18) → (((h1 161 18) ≤ 0 → (F_X12_gives h1 a1 (fun r3 h2 => Q r3 h2))) ∧ (¬ ((h1 161 18) ≤ 0) → (F_X12_refuse h1 9 (fun r5 h4 => Q r5 h4)))))
set_option maxRecDepth 100000 in
set_option maxHeartbeats 4000000 in
theorem f_X12_taken {h : Mem} {a1 : Int} {Q : Int → Mem → Prop}  (hF : F_X12_taken h a1 Q) : Ct yX12_taken cX12_taken 2 (some .int) (2, 66) [vr 161, (0, a1)] h (qi Q) := by
  refine Ct.of np_RX12 (Nat.le_of_ble_eq_true rfl) ?_
  unfold F_X12_taken at hF
  show AW M_X12_taken 0 [(0, vr 161), (1, (0, a1))] [] h (qi Q)
  refine aw_aload_n (j := 0) (M := M_X12_taken) (pc := 0) dX12_taken_0 rfl rfl ?_
  refine aw_aload_n (j := 0) (M := M_X12_taken) (pc := 1) dX12_taken_1 rfl rfl ?_
  refine gf_X12_161 (M := M_X12_taken) (pc := 2) rfl dX12_taken_2 rfl ?_
  refine pf_X12_37 (M := M_X12_taken) (pc := 5) rfl dX12_taken_5 rfl ?_
  obtain ⟨h1, eh1⟩ : ∃ y : Mem, y = mset h 161 16 (h 161 18) := ⟨_, rfl⟩
  have hF := hF h1 eh1
  rw [← eh1]
  refine aw_aload_n (j := 0) (M := M_X12_taken) (pc := 8) dX12_taken_8 rfl rfl ?_
  refine gf_X12_161 (M := M_X12_taken) (pc := 9) rfl dX12_taken_9 rfl ?_
  refine aw_if_le (tgt := 24) (M := M_X12_taken) (pc := 12) dX12_taken_12 rfl (fun hc => ?_) (fun hc => ?_)
  · have hF := hF.1 hc
    refine aw_aload_n (j := 0) (M := M_X12_taken) (pc := 24) dX12_taken_24 rfl rfl ?_
    refine aw_iload_n (j := 1) (M := M_X12_taken) (pc := 25) dX12_taken_25 rfl rfl ?_
    refine aw_cvi (as := [(0, a1)]) (st := []) (M := M_X12_taken) (pc := 26) (f_X12_gives  hF) dX12_taken_26 rfl (Or.inl ⟨_, _, _, rfl, rfl⟩) cy_X12_gives ml_X12_95 (by decide) (by decide) (Nat.le_of_ble_eq_true rfl) (fun r3 h2 hF => ?_)
    exact aw_ireti (M := M_X12_taken) (pc := 29) dX12_taken_29 rfl ⟨_, rfl, hF⟩
  · have hF := hF.2 hc
    refine aw_aload_n (j := 0) (M := M_X12_taken) (pc := 15) dX12_taken_15 rfl rfl ?_
    refine aw_bipush (M := M_X12_taken) (pc := 16) dX12_taken_16 ⟨rfl, ⟨by decide, by decide⟩⟩ ?_
    refine aw_cvi (as := [(0, 9)]) (st := []) (M := M_X12_taken) (pc := 18) (f_X12_refuse  hF) dX12_taken_18 rfl (Or.inl ⟨_, _, _, rfl, rfl⟩) cy_X12_refuse ml_X12_91 (by decide) (by decide) (Nat.le_of_ble_eq_true rfl) (fun r5 h4 hF => ?_)
    refine aw_goto (tgt := 29) (M := M_X12_taken) (pc := 21) dX12_taken_21 rfl ?_
    exact aw_ireti (M := M_X12_taken) (pc := 29) dX12_taken_29 rfl ⟨_, rfl, hF⟩
abbrev M_X12_days : Hd := (cX12_days, 4, RX12, (some .int), (12, 291), sc0)
def L_X12_days_38 (h : Mem) (v2 : Int) (Q : Int → Mem → Prop) : Prop := AW M_X12_days 38 [(0, vr 161), (2, (0, v2))] [] h (qi Q)
def L_X12_days_102 (h : Mem) (v3 : Int) (Q : Int → Mem → Prop) : Prop := AW M_X12_days 102 [(0, vr 161), (3, (0, v3))] [] h (qi Q)
def J_X12_days_77 (h : Mem)  (Q : Int → Mem → Prop) : Prop :=
  ((¬ ((h 161 18) = 0) → (F_X12_taken h (h 161 23) (fun r13 h12 => Q r13 h12))) ∧ ((h 161 18) = 0 → (∀ h15 : Mem, h15 = mset h 162 9 (h 162 1801) → L_X12_days_102 h15 80 Q)))
set_option maxRecDepth 100000 in
set_option maxHeartbeats 4000000 in
theorem j_X12_days_77 {h : Mem}  {Q : Int → Mem → Prop}  (hF : J_X12_days_77 h  Q) : AW M_X12_days 77 [(0, vr 161)] [] h (qi Q) := by
  unfold J_X12_days_77 at hF
  refine aw_aload_n (j := 0) (M := M_X12_days) (pc := 77) dX12_days_77 rfl rfl ?_
  refine gf_X12_161 (M := M_X12_days) (pc := 78) rfl dX12_days_78 rfl ?_
  refine aw_if_ne (tgt := 131) (M := M_X12_days) (pc := 81) dX12_days_81 rfl (fun hc => ?_) (fun hc => ?_)
  · have hF := hF.1 hc
    refine aw_aload_n (j := 0) (M := M_X12_days) (pc := 131) dX12_days_131 rfl rfl ?_
    refine aw_aload_n (j := 0) (M := M_X12_days) (pc := 132) dX12_days_132 rfl rfl ?_
    refine gf_X12_254 (M := M_X12_days) (pc := 133) rfl dX12_days_133 rfl ?_
    refine aw_cvi (as := [(0, h 161 23)]) (st := []) (M := M_X12_days) (pc := 136) (f_X12_taken  hF) dX12_days_136 rfl (Or.inl ⟨_, _, _, rfl, rfl⟩) cy_X12_taken ml_X12_239 (by decide) (by decide) (Nat.le_of_ble_eq_true rfl) (fun r13 h12 hF => ?_)
    exact aw_ireti (M := M_X12_days) (pc := 139) dX12_days_139 rfl ⟨_, rfl, hF⟩
  · have hF := hF.2 hc
    refine aw_aload_n (j := 0) (M := M_X12_days) (pc := 84) dX12_days_84 rfl rfl ?_
    refine gf_X12_7 (M := M_X12_days) (pc := 85) rfl dX12_days_85 rfl (r := 162) rfl ?_
    refine aw_bipush (M := M_X12_days) (pc := 88) dX12_days_88 ⟨rfl, ⟨by decide, by decide⟩⟩ ?_
    refine aw_aload_n (j := 0) (M := M_X12_days) (pc := 90) dX12_days_90 rfl rfl ?_
    refine gf_X12_7 (M := M_X12_days) (pc := 91) rfl dX12_days_91 rfl (r := 162) rfl ?_
    refine aw_sipush (M := M_X12_days) (pc := 94) dX12_days_94 ⟨rfl, ⟨by decide, by decide⟩⟩ ?_
    refine aw_iald (k := 1801) (M := M_X12_days) (pc := 97) dX12_days_97 rfl ⟨by decide, by decide⟩ rfl ?_
    refine aw_iast (k := 9) (M := M_X12_days) (pc := 98) dX12_days_98 rfl ⟨by decide, by decide⟩ rfl ?_
    obtain ⟨h15, eh15⟩ : ∃ y : Mem, y = mset h 162 9 (h 162 1801) := ⟨_, rfl⟩
    have hF := hF h15 eh15
    rw [← eh15]
    refine aw_bipush (M := M_X12_days) (pc := 99) dX12_days_99 ⟨rfl, ⟨by decide, by decide⟩⟩ ?_
    refine aw_istore_n (ls' := [(3, (0, 80)), (0, vr 161)]) (M := M_X12_days) (pc := 101) dX12_days_101 rfl (by decide) rfl ?_
    exact aw_ls [1, 0] rfl hF
def J_X12_days_57 (h : Mem)  (Q : Int → Mem → Prop) : Prop :=
  ((¬ ((h 161 18) = 0) → J_X12_days_77 h  Q) ∧ ((h 161 18) = 0 → (((h 161 22) ≤ 0 → J_X12_days_77 h  Q) ∧ (¬ ((h 161 22) ≤ 0) → (F_X12_fails h 2 (fun r11 h10 => J_X12_days_77 h10  Q))))))
set_option maxRecDepth 100000 in
set_option maxHeartbeats 4000000 in
theorem j_X12_days_57 {h : Mem}  {Q : Int → Mem → Prop}  (hF : J_X12_days_57 h  Q) : AW M_X12_days 57 [(0, vr 161)] [] h (qi Q) := by
  unfold J_X12_days_57 at hF
  refine aw_aload_n (j := 0) (M := M_X12_days) (pc := 57) dX12_days_57 rfl rfl ?_
  refine gf_X12_161 (M := M_X12_days) (pc := 58) rfl dX12_days_58 rfl ?_
  refine aw_if_ne (tgt := 77) (M := M_X12_days) (pc := 61) dX12_days_61 rfl (fun hc => ?_) (fun hc => ?_)
  · have hF := hF.1 hc
    exact aw_ls [0] rfl (j_X12_days_77  hF)
  · have hF := hF.2 hc
    refine aw_aload_n (j := 0) (M := M_X12_days) (pc := 64) dX12_days_64 rfl rfl ?_
    refine gf_X12_251 (M := M_X12_days) (pc := 65) rfl dX12_days_65 rfl ?_
    refine aw_if_le (tgt := 77) (M := M_X12_days) (pc := 68) dX12_days_68 rfl (fun hc => ?_) (fun hc => ?_)
    · have hF := hF.1 hc
      exact aw_ls [0] rfl (j_X12_days_77  hF)
    · have hF := hF.2 hc
      refine aw_aload_n (j := 0) (M := M_X12_days) (pc := 71) dX12_days_71 rfl rfl ?_
      refine aw_iconst (M := M_X12_days) (pc := 72) dX12_days_72 ⟨by decide, by decide⟩ ?_
      refine aw_cvi (as := [(0, 2)]) (st := []) (M := M_X12_days) (pc := 73) (f_X12_fails  hF) dX12_days_73 rfl (Or.inl ⟨_, _, _, rfl, rfl⟩) cy_X12_fails ml_X12_173 (by decide) (by decide) (Nat.le_of_ble_eq_true rfl) (fun r11 h10 hF => ?_)
      refine aw_pop (M := M_X12_days) (pc := 76) dX12_days_76 rfl ?_
      exact aw_ls [0] rfl (j_X12_days_77  hF)
def B_X12_days_38 (h : Mem) (v2 : Int) (Q : Int → Mem → Prop) : Prop :=
  ((v2 = 0 → J_X12_days_57 h  Q) ∧ (¬ (v2 = 0) → (((h 161 12) = 0 → J_X12_days_57 h  Q) ∧ (¬ ((h 161 12) = 0) → (F_X12_dayStep h  (fun r9 h8 => L_X12_days_38 h8 r9 Q))))))
set_option maxRecDepth 100000 in
set_option maxHeartbeats 4000000 in
theorem l_X12_days_38 {h : Mem} {v2 : Int} {Q : Int → Mem → Prop}  (hF : B_X12_days_38 h v2 Q) : L_X12_days_38 h v2 Q := by
  unfold B_X12_days_38 at hF
  show AW M_X12_days 38 [(0, vr 161), (2, (0, v2))] [] h (qi Q)
  refine aw_iload_n (j := 1) (M := M_X12_days) (pc := 38) dX12_days_38 rfl rfl ?_
  refine aw_if_eq (tgt := 57) (M := M_X12_days) (pc := 39) dX12_days_39 rfl (fun hc => ?_) (fun hc => ?_)
  · have hF := hF.1 hc
    exact aw_ls [0] rfl (j_X12_days_57  hF)
  · have hF := hF.2 hc
    refine aw_aload_n (j := 0) (M := M_X12_days) (pc := 42) dX12_days_42 rfl rfl ?_
    refine gf_X12_136 (M := M_X12_days) (pc := 43) rfl dX12_days_43 rfl ?_
    refine aw_if_eq (tgt := 57) (M := M_X12_days) (pc := 46) dX12_days_46 rfl (fun hc => ?_) (fun hc => ?_)
    · have hF := hF.1 hc
      exact aw_ls [0] rfl (j_X12_days_57  hF)
    · have hF := hF.2 hc
      refine aw_aload_n (j := 0) (M := M_X12_days) (pc := 49) dX12_days_49 rfl rfl ?_
      refine aw_cvi (as := []) (st := []) (M := M_X12_days) (pc := 50) (f_X12_dayStep  hF) dX12_days_50 rfl (Or.inl ⟨_, _, _, rfl, rfl⟩) cy_X12_dayStep ml_X12_260 (by decide) (by decide) (Nat.le_of_ble_eq_true rfl) (fun r9 h8 hF => ?_)
      refine aw_istore_n (ls' := [(2, (0, r9)), (0, vr 161)]) (M := M_X12_days) (pc := 53) dX12_days_53 rfl (by decide) rfl ?_
      refine aw_goto (tgt := 38) (M := M_X12_days) (pc := 54) dX12_days_54 rfl ?_
      exact aw_ls [1, 0] rfl hF
def B_X12_days_102 (h : Mem) (v3 : Int) (Q : Int → Mem → Prop) : Prop :=
  ((440 ≤ v3 → (F_X12_taken h (h 161 23) (fun r17 h16 => Q r17 h16))) ∧ (¬ (440 ≤ v3) → (InR (1792 + v3) ∧ ((0 ≤ (1792 + v3) ∧ (1792 + v3) < 3008) ∧ ((0 ≤ v3 ∧ v3 < 3008) ∧ (∀ h22 : Mem, h22 = mset h 162 (v3).toNat (h 162 (1792 + v3).toNat) → (InR (v3 + 1) ∧ L_X12_days_102 h22 (v3 + 1) Q)))))))
set_option maxRecDepth 100000 in
set_option maxHeartbeats 4000000 in
theorem l_X12_days_102 {h : Mem} {v3 : Int} {Q : Int → Mem → Prop}  (hF : B_X12_days_102 h v3 Q) : L_X12_days_102 h v3 Q := by
  unfold B_X12_days_102 at hF
  show AW M_X12_days 102 [(0, vr 161), (3, (0, v3))] [] h (qi Q)
  refine aw_iload_n (j := 1) (M := M_X12_days) (pc := 102) dX12_days_102 rfl rfl ?_
  refine aw_sipush (M := M_X12_days) (pc := 103) dX12_days_103 ⟨rfl, ⟨by decide, by decide⟩⟩ ?_
  refine aw_icmp_ge (tgt := 131) (M := M_X12_days) (pc := 106) dX12_days_106 rfl (fun hc => ?_) (fun hc => ?_)
  · have hF := hF.1 hc
    refine aw_aload_n (j := 0) (M := M_X12_days) (pc := 131) dX12_days_131 rfl rfl ?_
    refine aw_aload_n (j := 0) (M := M_X12_days) (pc := 132) dX12_days_132 rfl rfl ?_
    refine gf_X12_254 (M := M_X12_days) (pc := 133) rfl dX12_days_133 rfl ?_
    refine aw_cvi (as := [(0, h 161 23)]) (st := []) (M := M_X12_days) (pc := 136) (f_X12_taken  hF) dX12_days_136 rfl (Or.inl ⟨_, _, _, rfl, rfl⟩) cy_X12_taken ml_X12_239 (by decide) (by decide) (Nat.le_of_ble_eq_true rfl) (fun r17 h16 hF => ?_)
    exact aw_ireti (M := M_X12_days) (pc := 139) dX12_days_139 rfl ⟨_, rfl, hF⟩
  · have hF := hF.2 hc
    refine aw_aload_n (j := 0) (M := M_X12_days) (pc := 109) dX12_days_109 rfl rfl ?_
    refine gf_X12_7 (M := M_X12_days) (pc := 110) rfl dX12_days_110 rfl (r := 162) rfl ?_
    refine aw_iload_n (j := 1) (M := M_X12_days) (pc := 113) dX12_days_113 rfl rfl ?_
    refine aw_aload_n (j := 0) (M := M_X12_days) (pc := 114) dX12_days_114 rfl rfl ?_
    refine gf_X12_7 (M := M_X12_days) (pc := 115) rfl dX12_days_115 rfl (r := 162) rfl ?_
    refine aw_sipush (M := M_X12_days) (pc := 118) dX12_days_118 ⟨rfl, ⟨by decide, by decide⟩⟩ ?_
    refine aw_iload_n (j := 1) (M := M_X12_days) (pc := 121) dX12_days_121 rfl rfl ?_
    obtain ⟨o18, hF⟩ := hF
    refine aw_iadd (M := M_X12_days) (pc := 122) dX12_days_122 rfl o18 ?_
    obtain ⟨o20, hF⟩ := hF
    refine aw_iald (k := (1792 + v3).toNat) (M := M_X12_days) (pc := 123) dX12_days_123 rfl o20 rfl ?_
    obtain ⟨o21, hF⟩ := hF
    refine aw_iast (k := (v3).toNat) (M := M_X12_days) (pc := 124) dX12_days_124 rfl o21 rfl ?_
    obtain ⟨h22, eh22⟩ : ∃ y : Mem, y = mset h 162 (v3).toNat (h 162 (1792 + v3).toNat) := ⟨_, rfl⟩
    have hF := hF h22 eh22
    rw [← eh22]
    obtain ⟨o23, hF⟩ := hF
    refine aw_iinc (j := 1) (x := v3) (r := v3 + 1) (ls' := [(3, (0, v3 + 1)), (0, vr 161)]) (M := M_X12_days) (pc := 125) dX12_days_125 rfl rfl o23 (by decide) rfl ?_
    refine aw_goto (tgt := 102) (M := M_X12_days) (pc := 128) dX12_days_128 rfl ?_
    exact aw_ls [1, 0] rfl hF
def F_X12_days (h : Mem) (a1 : Int) (Q : Int → Mem → Prop) : Prop :=
  (F_X12_begins h a1 300 (fun r2 h1 => ((¬ (r2 = 0) → (∀ h3 : Mem, h3 = mset h1 162 1801 0 → (∀ h4 : Mem, h4 = mset h3 161 22 0 → (∀ h5 : Mem, h5 = mset h4 161 23 0 → L_X12_days_38 h5 1 Q)))) ∧ (r2 = 0 → (F_X12_refuse h1 1 (fun r7 h6 => Q r7 h6))))))
set_option maxRecDepth 100000 in
set_option maxHeartbeats 4000000 in
theorem f_X12_days {h : Mem} {a1 : Int} {Q : Int → Mem → Prop}  (hF : F_X12_days h a1 Q) : Ct yX12_days cX12_days 4 (some .int) (12, 291) [vr 161, (0, a1)] h (qi Q) := by
  refine Ct.of np_RX12 (Nat.le_of_ble_eq_true rfl) ?_
  unfold F_X12_days at hF
  show AW M_X12_days 0 [(0, vr 161), (1, (0, a1))] [] h (qi Q)
  refine aw_aload_n (j := 0) (M := M_X12_days) (pc := 0) dX12_days_0 rfl rfl ?_
  refine aw_iload_n (j := 1) (M := M_X12_days) (pc := 1) dX12_days_1 rfl rfl ?_
  refine aw_sipush (M := M_X12_days) (pc := 2) dX12_days_2 ⟨rfl, ⟨by decide, by decide⟩⟩ ?_
  refine aw_cvi (as := [(0, a1), (0, 300)]) (st := []) (M := M_X12_days) (pc := 5) (f_X12_begins  hF) dX12_days_5 rfl (Or.inl ⟨_, _, _, rfl, rfl⟩) cy_X12_begins ml_X12_232 (by decide) (by decide) (Nat.le_of_ble_eq_true rfl) (fun r2 h1 hF => ?_)
  refine aw_if_ne (tgt := 17) (M := M_X12_days) (pc := 8) dX12_days_8 rfl (fun hc => ?_) (fun hc => ?_)
  · have hF := hF.1 hc
    refine aw_aload_n (j := 0) (M := M_X12_days) (pc := 17) dX12_days_17 rfl rfl ?_
    refine gf_X12_7 (M := M_X12_days) (pc := 18) rfl dX12_days_18 rfl (r := 162) rfl ?_
    refine aw_sipush (M := M_X12_days) (pc := 21) dX12_days_21 ⟨rfl, ⟨by decide, by decide⟩⟩ ?_
    refine aw_iconst (M := M_X12_days) (pc := 24) dX12_days_24 ⟨by decide, by decide⟩ ?_
    refine aw_iast (k := 1801) (M := M_X12_days) (pc := 25) dX12_days_25 rfl ⟨by decide, by decide⟩ rfl ?_
    obtain ⟨h3, eh3⟩ : ∃ y : Mem, y = mset h1 162 1801 0 := ⟨_, rfl⟩
    have hF := hF h3 eh3
    rw [← eh3]
    refine aw_aload_n (j := 0) (M := M_X12_days) (pc := 26) dX12_days_26 rfl rfl ?_
    refine aw_iconst (M := M_X12_days) (pc := 27) dX12_days_27 ⟨by decide, by decide⟩ ?_
    refine pf_X12_251 (M := M_X12_days) (pc := 28) rfl dX12_days_28 rfl ?_
    obtain ⟨h4, eh4⟩ : ∃ y : Mem, y = mset h3 161 22 0 := ⟨_, rfl⟩
    have hF := hF h4 eh4
    rw [← eh4]
    refine aw_aload_n (j := 0) (M := M_X12_days) (pc := 31) dX12_days_31 rfl rfl ?_
    refine aw_iconst (M := M_X12_days) (pc := 32) dX12_days_32 ⟨by decide, by decide⟩ ?_
    refine pf_X12_254 (M := M_X12_days) (pc := 33) rfl dX12_days_33 rfl ?_
    obtain ⟨h5, eh5⟩ : ∃ y : Mem, y = mset h4 161 23 0 := ⟨_, rfl⟩
    have hF := hF h5 eh5
    rw [← eh5]
    refine aw_iconst (M := M_X12_days) (pc := 36) dX12_days_36 ⟨by decide, by decide⟩ ?_
    refine aw_istore_n (ls' := [(2, (0, 1)), (0, vr 161), (1, (0, a1))]) (M := M_X12_days) (pc := 37) dX12_days_37 rfl (by decide) rfl ?_
    exact aw_ls [1, 0] rfl hF
  · have hF := hF.2 hc
    refine aw_aload_n (j := 0) (M := M_X12_days) (pc := 11) dX12_days_11 rfl rfl ?_
    refine aw_iconst (M := M_X12_days) (pc := 12) dX12_days_12 ⟨by decide, by decide⟩ ?_
    refine aw_cvi (as := [(0, 1)]) (st := []) (M := M_X12_days) (pc := 13) (f_X12_refuse  hF) dX12_days_13 rfl (Or.inl ⟨_, _, _, rfl, rfl⟩) cy_X12_refuse ml_X12_91 (by decide) (by decide) (Nat.le_of_ble_eq_true rfl) (fun r7 h6 hF => ?_)
    exact aw_ireti (M := M_X12_days) (pc := 16) dX12_days_16 rfl ⟨_, rfl, hF⟩
abbrev M_X12_fetches : Hd := (cX12_fetches, 2, RX12, (some .boolean), (3, 87), sc0)
def F_X12_fetches (h : Mem) (a1 : Int) (Q : Int → Mem → Prop) : Prop :=
  (F_X12_thingOf h a1 3 (fun r2 h1 => ((r2 = 1 → (F_X12_thingRow h1 a1 (fun r4 h3 => (InR (r4 + 3) ∧ ((0 ≤ (r4 + 3) ∧ (r4 + 3) < 3008) ∧ (∀ h7 : Mem, h7 = mset h3 162 (r4 + 3).toNat 0 → (F_X12_thingRow h7 a1 (fun r9 h8 => (InR (r9 + 5) ∧ ((0 ≤ (r9 + 5) ∧ (r9 + 5) < 3008) ∧ (∀ h12 : Mem, h12 = mset h8 162 (r9 + 5).toNat 0 → Q 1 h12))))))))))) ∧ (¬ (r2 = 1) → Q 0 h1))))
set_option maxRecDepth 100000 in
set_option maxHeartbeats 4000000 in
theorem f_X12_fetches {h : Mem} {a1 : Int} {Q : Int → Mem → Prop}  (hF : F_X12_fetches h a1 Q) : Ct yX12_fetches cX12_fetches 2 (some .boolean) (3, 87) [vr 161, (0, a1)] h (qi Q) := by
  refine Ct.of np_RX12 (Nat.le_of_ble_eq_true rfl) ?_
  unfold F_X12_fetches at hF
  show AW M_X12_fetches 0 [(0, vr 161), (1, (0, a1))] [] h (qi Q)
  refine aw_aload_n (j := 0) (M := M_X12_fetches) (pc := 0) dX12_fetches_0 rfl rfl ?_
  refine aw_iload_n (j := 1) (M := M_X12_fetches) (pc := 1) dX12_fetches_1 rfl rfl ?_
  refine aw_iconst (M := M_X12_fetches) (pc := 2) dX12_fetches_2 ⟨by decide, by decide⟩ ?_
  refine aw_cvi (as := [(0, a1), (0, 3)]) (st := []) (M := M_X12_fetches) (pc := 3) (f_X12_thingOf  hF) dX12_fetches_3 rfl (Or.inl ⟨_, _, _, rfl, rfl⟩) cy_X12_thingOf ml_X12_263 (by decide) (by decide) (Nat.le_of_ble_eq_true rfl) (fun r2 h1 hF => ?_)
  refine aw_iconst (M := M_X12_fetches) (pc := 6) dX12_fetches_6 ⟨by decide, by decide⟩ ?_
  refine aw_icmp_eq (tgt := 12) (M := M_X12_fetches) (pc := 7) dX12_fetches_7 rfl (fun hc => ?_) (fun hc => ?_)
  · have hF := hF.1 hc
    refine aw_aload_n (j := 0) (M := M_X12_fetches) (pc := 12) dX12_fetches_12 rfl rfl ?_
    refine gf_X12_7 (M := M_X12_fetches) (pc := 13) rfl dX12_fetches_13 rfl (r := 162) rfl ?_
    refine aw_iload_n (j := 1) (M := M_X12_fetches) (pc := 16) dX12_fetches_16 rfl rfl ?_
    refine aw_csi (as := [(0, a1)]) (st := [vr 162]) (M := M_X12_fetches) (pc := 17) (f_X12_thingRow  hF) dX12_fetches_17 rfl cy_X12_thingRow ml_X12_203 (by decide) (by decide) (Nat.le_of_ble_eq_true rfl) (fun r4 h3 hF => ?_)
    refine aw_iconst (M := M_X12_fetches) (pc := 20) dX12_fetches_20 ⟨by decide, by decide⟩ ?_
    obtain ⟨o5, hF⟩ := hF
    refine aw_iadd (M := M_X12_fetches) (pc := 21) dX12_fetches_21 rfl o5 ?_
    refine aw_iconst (M := M_X12_fetches) (pc := 22) dX12_fetches_22 ⟨by decide, by decide⟩ ?_
    obtain ⟨o6, hF⟩ := hF
    refine aw_iast (k := (r4 + 3).toNat) (M := M_X12_fetches) (pc := 23) dX12_fetches_23 rfl o6 rfl ?_
    obtain ⟨h7, eh7⟩ : ∃ y : Mem, y = mset h3 162 (r4 + 3).toNat 0 := ⟨_, rfl⟩
    have hF := hF h7 eh7
    rw [← eh7]
    refine aw_aload_n (j := 0) (M := M_X12_fetches) (pc := 24) dX12_fetches_24 rfl rfl ?_
    refine gf_X12_7 (M := M_X12_fetches) (pc := 25) rfl dX12_fetches_25 rfl (r := 162) rfl ?_
    refine aw_iload_n (j := 1) (M := M_X12_fetches) (pc := 28) dX12_fetches_28 rfl rfl ?_
    refine aw_csi (as := [(0, a1)]) (st := [vr 162]) (M := M_X12_fetches) (pc := 29) (f_X12_thingRow  hF) dX12_fetches_29 rfl cy_X12_thingRow ml_X12_203 (by decide) (by decide) (Nat.le_of_ble_eq_true rfl) (fun r9 h8 hF => ?_)
    refine aw_iconst (M := M_X12_fetches) (pc := 32) dX12_fetches_32 ⟨by decide, by decide⟩ ?_
    obtain ⟨o10, hF⟩ := hF
    refine aw_iadd (M := M_X12_fetches) (pc := 33) dX12_fetches_33 rfl o10 ?_
    refine aw_iconst (M := M_X12_fetches) (pc := 34) dX12_fetches_34 ⟨by decide, by decide⟩ ?_
    obtain ⟨o11, hF⟩ := hF
    refine aw_iast (k := (r9 + 5).toNat) (M := M_X12_fetches) (pc := 35) dX12_fetches_35 rfl o11 rfl ?_
    obtain ⟨h12, eh12⟩ : ∃ y : Mem, y = mset h8 162 (r9 + 5).toNat 0 := ⟨_, rfl⟩
    have hF := hF h12 eh12
    rw [← eh12]
    refine aw_iconst (M := M_X12_fetches) (pc := 36) dX12_fetches_36 ⟨by decide, by decide⟩ ?_
    exact aw_iretz (M := M_X12_fetches) (pc := 37) dX12_fetches_37 rfl (Or.inr rfl) ⟨_, rfl, hF⟩
  · have hF := hF.2 hc
    refine aw_iconst (M := M_X12_fetches) (pc := 10) dX12_fetches_10 ⟨by decide, by decide⟩ ?_
    exact aw_iretz (M := M_X12_fetches) (pc := 11) dX12_fetches_11 rfl (Or.inl rfl) ⟨_, rfl, hF⟩
abbrev M_X12_hoursBy : Hd := (cX12_hoursBy, 3, RX12, (some .boolean), (9, 220), sc0)
def F_X12_hoursBy (h : Mem) (a1 : Int) (Q : Int → Mem → Prop) : Prop :=
  (InR ((h 162 5) + a1) ∧ ((((h 162 5) + a1) ≤ 9999 → (F_X12_allHomes h  (fun r4 h3 => (F_X12_hoursGo h3 a1 (fun r7 h6 => (InR ((h3 179 2) + r7) ∧ (∀ h9 : Mem, h9 = mset h6 179 2 ((h3 179 2) + r7) → (InR ((h9 179 1) + a1) ∧ (∀ h12 : Mem, h12 = mset h9 179 1 ((h9 179 1) + a1) → (F_X12_allHomes h12  (fun r15 h14 => (InR (r15 - r4) ∧ (InR ((h12 179 3) + (r15 - r4)) ∧ (∀ h18 : Mem, h18 = mset h14 179 3 ((h12 179 3) + (r15 - r4)) → Q 1 h18)))))))))))))) ∧ (¬ (((h 162 5) + a1) ≤ 9999) → Q 0 h)))
set_option maxRecDepth 100000 in
set_option maxHeartbeats 4000000 in
theorem f_X12_hoursBy {h : Mem} {a1 : Int} {Q : Int → Mem → Prop}  (hF : F_X12_hoursBy h a1 Q) : Ct yX12_hoursBy cX12_hoursBy 3 (some .boolean) (9, 220) [vr 161, (0, a1)] h (qi Q) := by
  refine Ct.of np_RX12 (Nat.le_of_ble_eq_true rfl) ?_
  unfold F_X12_hoursBy at hF
  show AW M_X12_hoursBy 0 [(0, vr 161), (1, (0, a1))] [] h (qi Q)
  refine aw_aload_n (j := 0) (M := M_X12_hoursBy) (pc := 0) dX12_hoursBy_0 rfl rfl ?_
  refine gf_X12_7 (M := M_X12_hoursBy) (pc := 1) rfl dX12_hoursBy_1 rfl (r := 162) rfl ?_
  refine aw_iconst (M := M_X12_hoursBy) (pc := 4) dX12_hoursBy_4 ⟨by decide, by decide⟩ ?_
  refine aw_iald (k := 5) (M := M_X12_hoursBy) (pc := 5) dX12_hoursBy_5 rfl ⟨by decide, by decide⟩ rfl ?_
  refine aw_iload_n (j := 1) (M := M_X12_hoursBy) (pc := 6) dX12_hoursBy_6 rfl rfl ?_
  obtain ⟨o2, hF⟩ := hF
  refine aw_iadd (M := M_X12_hoursBy) (pc := 7) dX12_hoursBy_7 rfl o2 ?_
  refine aw_sipush (M := M_X12_hoursBy) (pc := 8) dX12_hoursBy_8 ⟨rfl, ⟨by decide, by decide⟩⟩ ?_
  refine aw_icmp_le (tgt := 16) (M := M_X12_hoursBy) (pc := 11) dX12_hoursBy_11 rfl (fun hc => ?_) (fun hc => ?_)
  · have hF := hF.1 hc
    refine aw_aload_n (j := 0) (M := M_X12_hoursBy) (pc := 16) dX12_hoursBy_16 rfl rfl ?_
    refine aw_cvi (as := []) (st := []) (M := M_X12_hoursBy) (pc := 17) (f_X12_allHomes  hF) dX12_hoursBy_17 rfl (Or.inl ⟨_, _, _, rfl, rfl⟩) cy_X12_allHomes ml_X12_450 (by decide) (by decide) (Nat.le_of_ble_eq_true rfl) (fun r4 h3 hF => ?_)
    refine aw_istore_n (ls' := [(2, (0, r4)), (0, vr 161), (1, (0, a1))]) (M := M_X12_hoursBy) (pc := 20) dX12_hoursBy_20 rfl (by decide) rfl ?_
    refine aw_aload_n (j := 1) (M := M_X12_hoursBy) (pc := 21) dX12_hoursBy_21 rfl rfl ?_
    refine gf_X12_75 (M := M_X12_hoursBy) (pc := 22) rfl dX12_hoursBy_22 rfl (r := 179) rfl ?_
    refine aw_iconst (M := M_X12_hoursBy) (pc := 25) dX12_hoursBy_25 ⟨by decide, by decide⟩ ?_
    refine aw_dup2 (M := M_X12_hoursBy) (pc := 26) dX12_hoursBy_26 rfl rfl ?_
    refine aw_iald (k := 2) (M := M_X12_hoursBy) (pc := 27) dX12_hoursBy_27 rfl ⟨by decide, by decide⟩ rfl ?_
    refine aw_aload_n (j := 1) (M := M_X12_hoursBy) (pc := 28) dX12_hoursBy_28 rfl rfl ?_
    refine aw_iload_n (j := 2) (M := M_X12_hoursBy) (pc := 29) dX12_hoursBy_29 rfl rfl ?_
    refine aw_cvi (as := [(0, a1)]) (st := [(0, h3 179 2), (0, 2), vr 179]) (M := M_X12_hoursBy) (pc := 30) (f_X12_hoursGo  hF) dX12_hoursBy_30 rfl (Or.inl ⟨_, _, _, rfl, rfl⟩) cy_X12_hoursGo ml_X12_320 (by decide) (by decide) (Nat.le_of_ble_eq_true rfl) (fun r7 h6 hF => ?_)
    obtain ⟨o8, hF⟩ := hF
    refine aw_iadd (M := M_X12_hoursBy) (pc := 33) dX12_hoursBy_33 rfl o8 ?_
    refine aw_iast (k := 2) (M := M_X12_hoursBy) (pc := 34) dX12_hoursBy_34 rfl ⟨by decide, by decide⟩ rfl ?_
    obtain ⟨h9, eh9⟩ : ∃ y : Mem, y = mset h6 179 2 ((h3 179 2) + r7) := ⟨_, rfl⟩
    have hF := hF h9 eh9
    rw [← eh9]
    refine aw_aload_n (j := 1) (M := M_X12_hoursBy) (pc := 35) dX12_hoursBy_35 rfl rfl ?_
    refine gf_X12_75 (M := M_X12_hoursBy) (pc := 36) rfl dX12_hoursBy_36 rfl (r := 179) rfl ?_
    refine aw_iconst (M := M_X12_hoursBy) (pc := 39) dX12_hoursBy_39 ⟨by decide, by decide⟩ ?_
    refine aw_dup2 (M := M_X12_hoursBy) (pc := 40) dX12_hoursBy_40 rfl rfl ?_
    refine aw_iald (k := 1) (M := M_X12_hoursBy) (pc := 41) dX12_hoursBy_41 rfl ⟨by decide, by decide⟩ rfl ?_
    refine aw_iload_n (j := 2) (M := M_X12_hoursBy) (pc := 42) dX12_hoursBy_42 rfl rfl ?_
    obtain ⟨o11, hF⟩ := hF
    refine aw_iadd (M := M_X12_hoursBy) (pc := 43) dX12_hoursBy_43 rfl o11 ?_
    refine aw_iast (k := 1) (M := M_X12_hoursBy) (pc := 44) dX12_hoursBy_44 rfl ⟨by decide, by decide⟩ rfl ?_
    obtain ⟨h12, eh12⟩ : ∃ y : Mem, y = mset h9 179 1 ((h9 179 1) + a1) := ⟨_, rfl⟩
    have hF := hF h12 eh12
    rw [← eh12]
    refine aw_aload_n (j := 1) (M := M_X12_hoursBy) (pc := 45) dX12_hoursBy_45 rfl rfl ?_
    refine gf_X12_75 (M := M_X12_hoursBy) (pc := 46) rfl dX12_hoursBy_46 rfl (r := 179) rfl ?_
    refine aw_iconst (M := M_X12_hoursBy) (pc := 49) dX12_hoursBy_49 ⟨by decide, by decide⟩ ?_
    refine aw_dup2 (M := M_X12_hoursBy) (pc := 50) dX12_hoursBy_50 rfl rfl ?_
    refine aw_iald (k := 3) (M := M_X12_hoursBy) (pc := 51) dX12_hoursBy_51 rfl ⟨by decide, by decide⟩ rfl ?_
    refine aw_aload_n (j := 1) (M := M_X12_hoursBy) (pc := 52) dX12_hoursBy_52 rfl rfl ?_
    refine aw_cvi (as := []) (st := [(0, h12 179 3), (0, 3), vr 179]) (M := M_X12_hoursBy) (pc := 53) (f_X12_allHomes  hF) dX12_hoursBy_53 rfl (Or.inl ⟨_, _, _, rfl, rfl⟩) cy_X12_allHomes ml_X12_450 (by decide) (by decide) (Nat.le_of_ble_eq_true rfl) (fun r15 h14 hF => ?_)
    refine aw_iload_n (j := 0) (M := M_X12_hoursBy) (pc := 56) dX12_hoursBy_56 rfl rfl ?_
    obtain ⟨o16, hF⟩ := hF
    refine aw_isub (M := M_X12_hoursBy) (pc := 57) dX12_hoursBy_57 rfl o16 ?_
    obtain ⟨o17, hF⟩ := hF
    refine aw_iadd (M := M_X12_hoursBy) (pc := 58) dX12_hoursBy_58 rfl o17 ?_
    refine aw_iast (k := 3) (M := M_X12_hoursBy) (pc := 59) dX12_hoursBy_59 rfl ⟨by decide, by decide⟩ rfl ?_
    obtain ⟨h18, eh18⟩ : ∃ y : Mem, y = mset h14 179 3 ((h12 179 3) + (r15 - r4)) := ⟨_, rfl⟩
    have hF := hF h18 eh18
    rw [← eh18]
    refine aw_iconst (M := M_X12_hoursBy) (pc := 60) dX12_hoursBy_60 ⟨by decide, by decide⟩ ?_
    exact aw_iretz (M := M_X12_hoursBy) (pc := 61) dX12_hoursBy_61 rfl (Or.inr rfl) ⟨_, rfl, hF⟩
  · have hF := hF.2 hc
    refine aw_iconst (M := M_X12_hoursBy) (pc := 14) dX12_hoursBy_14 ⟨by decide, by decide⟩ ?_
    exact aw_iretz (M := M_X12_hoursBy) (pc := 15) dX12_hoursBy_15 rfl (Or.inl rfl) ⟨_, rfl, hF⟩
abbrev M_X12_draw : Hd := (cX12_draw, 2, RX12, (some .int), (1, 45), sc0)
def F_X12_draw (h : Mem) (a1 : Int) (Q : Int → Mem → Prop) : Prop :=
  (InR ((h 161 37) * 3169) ∧ (InR (((h 161 37) * 3169) + 11393) ∧ (∀ h3 : Mem, h3 = mset h 161 37 ((((h 161 37) * 3169) + 11393 : Int).tmod 65536) → (InR ((h3 161 37 : Int).tdiv 8) ∧ (a1 ≠ 0 ∧ Q (((h3 161 37 : Int).tdiv 8 : Int).tmod a1) h3)))))
set_option maxRecDepth 100000 in
set_option maxHeartbeats 4000000 in
theorem f_X12_draw {h : Mem} {a1 : Int} {Q : Int → Mem → Prop}  (hF : F_X12_draw h a1 Q) : Ct yX12_draw cX12_draw 2 (some .int) (1, 45) [vr 161, (0, a1)] h (qi Q) := by
  refine Ct.of np_RX12 (Nat.le_of_ble_eq_true rfl) ?_
  unfold F_X12_draw at hF
  show AW M_X12_draw 0 [(0, vr 161), (1, (0, a1))] [] h (qi Q)
  refine aw_aload_n (j := 0) (M := M_X12_draw) (pc := 0) dX12_draw_0 rfl rfl ?_
  refine aw_aload_n (j := 0) (M := M_X12_draw) (pc := 1) dX12_draw_1 rfl rfl ?_
  refine gf_X12_446 (M := M_X12_draw) (pc := 2) rfl dX12_draw_2 rfl ?_
  refine aw_sipush (M := M_X12_draw) (pc := 5) dX12_draw_5 ⟨rfl, ⟨by decide, by decide⟩⟩ ?_
  obtain ⟨o1, hF⟩ := hF
  refine aw_imul (M := M_X12_draw) (pc := 8) dX12_draw_8 rfl o1 ?_
  refine aw_sipush (M := M_X12_draw) (pc := 9) dX12_draw_9 ⟨rfl, ⟨by decide, by decide⟩⟩ ?_
  obtain ⟨o2, hF⟩ := hF
  refine aw_iadd (M := M_X12_draw) (pc := 12) dX12_draw_12 rfl o2 ?_
  refine aw_ldcw (v := 65536) (M := M_X12_draw) (pc := 13) dX12_draw_13 kc_X12_449 ⟨by decide, by decide⟩ ?_
  refine aw_irem (M := M_X12_draw) (pc := 16) dX12_draw_16 (by decide) ?_
  refine pf_X12_446 (M := M_X12_draw) (pc := 17) rfl dX12_draw_17 rfl ?_
  obtain ⟨h3, eh3⟩ : ∃ y : Mem, y = mset h 161 37 ((((h 161 37) * 3169) + 11393 : Int).tmod 65536) := ⟨_, rfl⟩
  have hF := hF h3 eh3
  rw [← eh3]
  refine aw_aload_n (j := 0) (M := M_X12_draw) (pc := 20) dX12_draw_20 rfl rfl ?_
  refine gf_X12_446 (M := M_X12_draw) (pc := 21) rfl dX12_draw_21 rfl ?_
  refine aw_bipush (M := M_X12_draw) (pc := 24) dX12_draw_24 ⟨rfl, ⟨by decide, by decide⟩⟩ ?_
  obtain ⟨o4, hF⟩ := hF
  refine aw_idiv (M := M_X12_draw) (pc := 26) dX12_draw_26 (by decide) o4 ?_
  refine aw_iload_n (j := 1) (M := M_X12_draw) (pc := 27) dX12_draw_27 rfl rfl ?_
  obtain ⟨o5, hF⟩ := hF
  refine aw_irem (M := M_X12_draw) (pc := 28) dX12_draw_28 o5 ?_
  exact aw_ireti (M := M_X12_draw) (pc := 29) dX12_draw_29 rfl ⟨_, rfl, hF⟩
abbrev M_X12_throwsAny : Hd := (cX12_throwsAny, 2, RX12, (some .boolean), (5, 130), sc0)
def F_X12_throwsAny (h : Mem)  (Q : Int → Mem → Prop) : Prop :=
  ((¬ ((h 162 0) = 0) → (F_X12_draw h (h 162 0) (fun r4 h3 => (F_X12_draw h3 (h3 162 2) (fun r7 h6 => (F_X12_tosses h6 r4 r7 (fun r9 h8 => (InZ r9 ∧ Q r9 h8)))))))) ∧ ((h 162 0) = 0 → Q 0 h))
set_option maxRecDepth 100000 in
set_option maxHeartbeats 4000000 in
theorem f_X12_throwsAny {h : Mem}  {Q : Int → Mem → Prop}  (hF : F_X12_throwsAny h  Q) : Ct yX12_throwsAny cX12_throwsAny 2 (some .boolean) (5, 130) [vr 161] h (qi Q) := by
  refine Ct.of np_RX12 (Nat.le_of_ble_eq_true rfl) ?_
  unfold F_X12_throwsAny at hF
  show AW M_X12_throwsAny 0 [(0, vr 161)] [] h (qi Q)
  refine aw_aload_n (j := 0) (M := M_X12_throwsAny) (pc := 0) dX12_throwsAny_0 rfl rfl ?_
  refine gf_X12_7 (M := M_X12_throwsAny) (pc := 1) rfl dX12_throwsAny_1 rfl (r := 162) rfl ?_
  refine aw_iconst (M := M_X12_throwsAny) (pc := 4) dX12_throwsAny_4 ⟨by decide, by decide⟩ ?_
  refine aw_iald (k := 0) (M := M_X12_throwsAny) (pc := 5) dX12_throwsAny_5 rfl ⟨by decide, by decide⟩ rfl ?_
  refine aw_if_ne (tgt := 11) (M := M_X12_throwsAny) (pc := 6) dX12_throwsAny_6 rfl (fun hc => ?_) (fun hc => ?_)
  · have hF := hF.1 hc
    refine aw_aload_n (j := 0) (M := M_X12_throwsAny) (pc := 11) dX12_throwsAny_11 rfl rfl ?_
    refine aw_aload_n (j := 0) (M := M_X12_throwsAny) (pc := 12) dX12_throwsAny_12 rfl rfl ?_
    refine gf_X12_7 (M := M_X12_throwsAny) (pc := 13) rfl dX12_throwsAny_13 rfl (r := 162) rfl ?_
    refine aw_iconst (M := M_X12_throwsAny) (pc := 16) dX12_throwsAny_16 ⟨by decide, by decide⟩ ?_
    refine aw_iald (k := 0) (M := M_X12_throwsAny) (pc := 17) dX12_throwsAny_17 rfl ⟨by decide, by decide⟩ rfl ?_
    refine aw_cvi (as := [(0, h 162 0)]) (st := []) (M := M_X12_throwsAny) (pc := 18) (f_X12_draw  hF) dX12_throwsAny_18 rfl (Or.inl ⟨_, _, _, rfl, rfl⟩) cy_X12_draw ml_X12_453 (by decide) (by decide) (Nat.le_of_ble_eq_true rfl) (fun r4 h3 hF => ?_)
    refine aw_istore_n (ls' := [(1, (0, r4)), (0, vr 161)]) (M := M_X12_throwsAny) (pc := 21) dX12_throwsAny_21 rfl (by decide) rfl ?_
    refine aw_aload_n (j := 1) (M := M_X12_throwsAny) (pc := 22) dX12_throwsAny_22 rfl rfl ?_
    refine aw_iload_n (j := 0) (M := M_X12_throwsAny) (pc := 23) dX12_throwsAny_23 rfl rfl ?_
    refine aw_aload_n (j := 1) (M := M_X12_throwsAny) (pc := 24) dX12_throwsAny_24 rfl rfl ?_
    refine aw_aload_n (j := 1) (M := M_X12_throwsAny) (pc := 25) dX12_throwsAny_25 rfl rfl ?_
    refine gf_X12_7 (M := M_X12_throwsAny) (pc := 26) rfl dX12_throwsAny_26 rfl (r := 162) rfl ?_
    refine aw_iconst (M := M_X12_throwsAny) (pc := 29) dX12_throwsAny_29 ⟨by decide, by decide⟩ ?_
    refine aw_iald (k := 2) (M := M_X12_throwsAny) (pc := 30) dX12_throwsAny_30 rfl ⟨by decide, by decide⟩ rfl ?_
    refine aw_cvi (as := [(0, h3 162 2)]) (st := [(0, r4), vr 161]) (M := M_X12_throwsAny) (pc := 31) (f_X12_draw  hF) dX12_throwsAny_31 rfl (Or.inl ⟨_, _, _, rfl, rfl⟩) cy_X12_draw ml_X12_453 (by decide) (by decide) (Nat.le_of_ble_eq_true rfl) (fun r7 h6 hF => ?_)
    refine aw_cvi (as := [(0, r4), (0, r7)]) (st := []) (M := M_X12_throwsAny) (pc := 34) (f_X12_tosses  hF) dX12_throwsAny_34 rfl (Or.inl ⟨_, _, _, rfl, rfl⟩) cy_X12_tosses ml_X12_329 (by decide) (by decide) (Nat.le_of_ble_eq_true rfl) (fun r9 h8 hF => ?_)
    exact aw_iretz (M := M_X12_throwsAny) (pc := 37) dX12_throwsAny_37 rfl hF.1 ⟨_, rfl, hF.2⟩
  · have hF := hF.2 hc
    refine aw_iconst (M := M_X12_throwsAny) (pc := 9) dX12_throwsAny_9 ⟨by decide, by decide⟩ ?_
    exact aw_iretz (M := M_X12_throwsAny) (pc := 10) dX12_throwsAny_10 rfl (Or.inl rfl) ⟨_, rfl, hF⟩
theorem so_X12_does_15 {x : Int} (h0 : ¬ x = 14) (h1 : ¬ x = 15) (h2 : ¬ x = 16) (h3 : ¬ x = 17) : x < 14 ∨ 17 < x := by omega
abbrev M_X12_does : Hd := (cX12_does, 3, RX12, (some .boolean), (10, 242), sc0)
def F_X12_does (h : Mem) (a1 : Int) (Q : Int → Mem → Prop) : Prop :=
  (InR (a1 + 1) ∧ ((0 ≤ (a1 + 1) ∧ (a1 + 1) < 3008) ∧ (∀ x4 : Int, x4 = h 162 (a1 + 1).toNat → ((0 ≤ a1 ∧ a1 < 3008) ∧ (((h 162 (a1).toNat) = 14 → (F_X12_hoursBy h x4 (fun r8 h7 => (InZ r8 ∧ Q r8 h7)))) ∧ (((h 162 (a1).toNat) = 15 → (InR (a1 + 2) ∧ ((0 ≤ (a1 + 2) ∧ (a1 + 2) < 3008) ∧ (F_X12_tosses h x4 (h 162 (a1 + 2).toNat) (fun r13 h12 => (InZ r13 ∧ Q r13 h12)))))) ∧ (((h 162 (a1).toNat) = 16 → (F_X12_fetches h x4 (fun r15 h14 => (InZ r15 ∧ Q r15 h14)))) ∧ (((h 162 (a1).toNat) = 17 → (F_X12_throwsAny h  (fun r17 h16 => (InZ r17 ∧ Q r17 h16)))) ∧ (((h 162 (a1).toNat) < 14 ∨ 17 < (h 162 (a1).toNat)) → Q 1 h)))))))))
set_option maxRecDepth 100000 in
set_option maxHeartbeats 4000000 in
theorem f_X12_does {h : Mem} {a1 : Int} {Q : Int → Mem → Prop}  (hF : F_X12_does h a1 Q) : Ct yX12_does cX12_does 3 (some .boolean) (10, 242) [vr 161, (0, a1)] h (qi Q) := by
  refine Ct.of np_RX12 (Nat.le_of_ble_eq_true rfl) ?_
  unfold F_X12_does at hF
  show AW M_X12_does 0 [(0, vr 161), (1, (0, a1))] [] h (qi Q)
  refine aw_aload_n (j := 0) (M := M_X12_does) (pc := 0) dX12_does_0 rfl rfl ?_
  refine gf_X12_7 (M := M_X12_does) (pc := 1) rfl dX12_does_1 rfl (r := 162) rfl ?_
  refine aw_iload_n (j := 1) (M := M_X12_does) (pc := 4) dX12_does_4 rfl rfl ?_
  refine aw_iconst (M := M_X12_does) (pc := 5) dX12_does_5 ⟨by decide, by decide⟩ ?_
  obtain ⟨o1, hF⟩ := hF
  refine aw_iadd (M := M_X12_does) (pc := 6) dX12_does_6 rfl o1 ?_
  obtain ⟨o3, hF⟩ := hF
  refine aw_iald (k := (a1 + 1).toNat) (M := M_X12_does) (pc := 7) dX12_does_7 rfl o3 rfl ?_
  obtain ⟨x4, ex4⟩ : ∃ y : Int, y = h 162 (a1 + 1).toNat := ⟨_, rfl⟩
  have hF := hF x4 ex4
  rw [← ex4]
  refine aw_istore_n (ls' := [(2, (0, x4)), (0, vr 161), (1, (0, a1))]) (M := M_X12_does) (pc := 8) dX12_does_8 rfl (by decide) rfl ?_
  refine aw_aload_n (j := 1) (M := M_X12_does) (pc := 9) dX12_does_9 rfl rfl ?_
  refine gf_X12_7 (M := M_X12_does) (pc := 10) rfl dX12_does_10 rfl (r := 162) rfl ?_
  refine aw_iload_n (j := 2) (M := M_X12_does) (pc := 13) dX12_does_13 rfl rfl ?_
  obtain ⟨o6, hF⟩ := hF
  refine aw_iald (k := (a1).toNat) (M := M_X12_does) (pc := 14) dX12_does_14 rfl o6 rfl ?_
  by_cases hc : (h 162 (a1).toNat) = 14
  · have hF := hF.1 hc
    refine aw_tableIn (tgt := 44) (M := M_X12_does) (pc := 15) dX12_does_15 (by rw [hc]; decide) (by rw [hc]; decide) (off := 29) (by rw [hc]; rfl) rfl ?_
    refine aw_aload_n (j := 1) (M := M_X12_does) (pc := 44) dX12_does_44 rfl rfl ?_
    refine aw_iload_n (j := 0) (M := M_X12_does) (pc := 45) dX12_does_45 rfl rfl ?_
    refine aw_cvi (as := [(0, x4)]) (st := []) (M := M_X12_does) (pc := 46) (f_X12_hoursBy  hF) dX12_does_46 rfl (Or.inl ⟨_, _, _, rfl, rfl⟩) cy_X12_hoursBy ml_X12_456 (by decide) (by decide) (Nat.le_of_ble_eq_true rfl) (fun r8 h7 hF => ?_)
    exact aw_iretz (M := M_X12_does) (pc := 49) dX12_does_49 rfl hF.1 ⟨_, rfl, hF.2⟩
  have hF := hF.2
  have hc0 := hc
  by_cases hc : (h 162 (a1).toNat) = 15
  · have hF := hF.1 hc
    refine aw_tableIn (tgt := 50) (M := M_X12_does) (pc := 15) dX12_does_15 (by rw [hc]; decide) (by rw [hc]; decide) (off := 35) (by rw [hc]; rfl) rfl ?_
    refine aw_aload_n (j := 1) (M := M_X12_does) (pc := 50) dX12_does_50 rfl rfl ?_
    refine aw_iload_n (j := 0) (M := M_X12_does) (pc := 51) dX12_does_51 rfl rfl ?_
    refine aw_aload_n (j := 1) (M := M_X12_does) (pc := 52) dX12_does_52 rfl rfl ?_
    refine gf_X12_7 (M := M_X12_does) (pc := 53) rfl dX12_does_53 rfl (r := 162) rfl ?_
    refine aw_iload_n (j := 2) (M := M_X12_does) (pc := 56) dX12_does_56 rfl rfl ?_
    refine aw_iconst (M := M_X12_does) (pc := 57) dX12_does_57 ⟨by decide, by decide⟩ ?_
    obtain ⟨o9, hF⟩ := hF
    refine aw_iadd (M := M_X12_does) (pc := 58) dX12_does_58 rfl o9 ?_
    obtain ⟨o11, hF⟩ := hF
    refine aw_iald (k := (a1 + 2).toNat) (M := M_X12_does) (pc := 59) dX12_does_59 rfl o11 rfl ?_
    refine aw_cvi (as := [(0, x4), (0, h 162 (a1 + 2).toNat)]) (st := []) (M := M_X12_does) (pc := 60) (f_X12_tosses  hF) dX12_does_60 rfl (Or.inl ⟨_, _, _, rfl, rfl⟩) cy_X12_tosses ml_X12_329 (by decide) (by decide) (Nat.le_of_ble_eq_true rfl) (fun r13 h12 hF => ?_)
    exact aw_iretz (M := M_X12_does) (pc := 63) dX12_does_63 rfl hF.1 ⟨_, rfl, hF.2⟩
  have hF := hF.2
  have hc1 := hc
  by_cases hc : (h 162 (a1).toNat) = 16
  · have hF := hF.1 hc
    refine aw_tableIn (tgt := 64) (M := M_X12_does) (pc := 15) dX12_does_15 (by rw [hc]; decide) (by rw [hc]; decide) (off := 49) (by rw [hc]; rfl) rfl ?_
    refine aw_aload_n (j := 1) (M := M_X12_does) (pc := 64) dX12_does_64 rfl rfl ?_
    refine aw_iload_n (j := 0) (M := M_X12_does) (pc := 65) dX12_does_65 rfl rfl ?_
    refine aw_cvi (as := [(0, x4)]) (st := []) (M := M_X12_does) (pc := 66) (f_X12_fetches  hF) dX12_does_66 rfl (Or.inl ⟨_, _, _, rfl, rfl⟩) cy_X12_fetches ml_X12_332 (by decide) (by decide) (Nat.le_of_ble_eq_true rfl) (fun r15 h14 hF => ?_)
    exact aw_iretz (M := M_X12_does) (pc := 69) dX12_does_69 rfl hF.1 ⟨_, rfl, hF.2⟩
  have hF := hF.2
  have hc2 := hc
  by_cases hc : (h 162 (a1).toNat) = 17
  · have hF := hF.1 hc
    refine aw_tableIn (tgt := 70) (M := M_X12_does) (pc := 15) dX12_does_15 (by rw [hc]; decide) (by rw [hc]; decide) (off := 55) (by rw [hc]; rfl) rfl ?_
    refine aw_aload_n (j := 1) (M := M_X12_does) (pc := 70) dX12_does_70 rfl rfl ?_
    refine aw_cvi (as := []) (st := []) (M := M_X12_does) (pc := 71) (f_X12_throwsAny  hF) dX12_does_71 rfl (Or.inl ⟨_, _, _, rfl, rfl⟩) cy_X12_throwsAny ml_X12_459 (by decide) (by decide) (Nat.le_of_ble_eq_true rfl) (fun r17 h16 hF => ?_)
    exact aw_iretz (M := M_X12_does) (pc := 74) dX12_does_74 rfl hF.1 ⟨_, rfl, hF.2⟩
  have hF := hF.2
  have hc3 := hc
  have hc : (h 162 (a1).toNat) < 14 ∨ 17 < (h 162 (a1).toNat) := so_X12_does_15 hc0 hc1 hc2 hc3
  have hF := hF hc
  refine aw_tableOut (tgt := 75) (M := M_X12_does) (pc := 15) dX12_does_15 hc rfl ?_
  refine aw_iconst (M := M_X12_does) (pc := 75) dX12_does_75 ⟨by decide, by decide⟩ ?_
  exact aw_iretz (M := M_X12_does) (pc := 76) dX12_does_76 rfl (Or.inr rfl) ⟨_, rfl, hF⟩
abbrev M_X12_laysDrive : Hd := (cX12_laysDrive, 9, RX12, none, (9, 220), sc0)
def L_X12_laysDrive_25 (h : Mem) (v1 : Int) (v2 : Int) (v3 : Int) (v4 : Int) (v5 : Int) (v6 : Int) (Q : Mem → Prop) : Prop := AW M_X12_laysDrive 25 [(0, vr 161), (1, (0, v1)), (2, (0, v2)), (3, (0, v3)), (4, (0, v4)), (5, (0, v5)), (6, (0, v6))] [] h (qv Q)
def L_X12_laysDrive_39 (h : Mem) (v1 : Int) (v2 : Int) (v3 : Int) (v4 : Int) (v5 : Int) (v6 : Int) (v7 : Int) (Q : Mem → Prop) : Prop := AW M_X12_laysDrive 39 [(0, vr 161), (1, (0, v1)), (2, (0, v2)), (3, (0, v3)), (4, (0, v4)), (5, (0, v5)), (6, (0, v6)), (7, (0, v7))] [] h (qv Q)
def B_X12_laysDrive_25 (h : Mem) (v1 : Int) (v2 : Int) (v3 : Int) (v4 : Int) (v5 : Int) (v6 : Int) (Q : Mem → Prop) : Prop :=
  (((h 162 2) ≤ v6 → Q h) ∧ (¬ ((h 162 2) ≤ v6) → L_X12_laysDrive_39 h v1 v2 v3 v4 v5 v6 0 Q))
set_option maxRecDepth 100000 in
set_option maxHeartbeats 4000000 in
theorem l_X12_laysDrive_25 {h : Mem} {v1 : Int} {v2 : Int} {v3 : Int} {v4 : Int} {v5 : Int} {v6 : Int} {Q : Mem → Prop}  (hF : B_X12_laysDrive_25 h v1 v2 v3 v4 v5 v6 Q) : L_X12_laysDrive_25 h v1 v2 v3 v4 v5 v6 Q := by
  unfold B_X12_laysDrive_25 at hF
  show AW M_X12_laysDrive 25 [(0, vr 161), (1, (0, v1)), (2, (0, v2)), (3, (0, v3)), (4, (0, v4)), (5, (0, v5)), (6, (0, v6))] [] h (qv Q)
  refine aw_iload (j := 6) (M := M_X12_laysDrive) (pc := 25) dX12_laysDrive_25  rfl ?_
  refine aw_aload_n (j := 0) (M := M_X12_laysDrive) (pc := 27) dX12_laysDrive_27 rfl rfl ?_
  refine gf_X12_7 (M := M_X12_laysDrive) (pc := 28) rfl dX12_laysDrive_28 rfl (r := 162) rfl ?_
  refine aw_iconst (M := M_X12_laysDrive) (pc := 31) dX12_laysDrive_31 ⟨by decide, by decide⟩ ?_
  refine aw_iald (k := 2) (M := M_X12_laysDrive) (pc := 32) dX12_laysDrive_32 rfl ⟨by decide, by decide⟩ rfl ?_
  refine aw_icmp_ge (tgt := 141) (M := M_X12_laysDrive) (pc := 33) dX12_laysDrive_33 rfl (fun hc => ?_) (fun hc => ?_)
  · have hF := hF.1 hc
    exact aw_ret (M := M_X12_laysDrive) (pc := 141) dX12_laysDrive_141 rfl ⟨rfl, hF⟩
  · have hF := hF.2 hc
    refine aw_iconst (M := M_X12_laysDrive) (pc := 36) dX12_laysDrive_36 ⟨by decide, by decide⟩ ?_
    refine aw_istore (ls' := [(7, (0, 0)), (0, vr 161), (1, (0, v1)), (2, (0, v2)), (3, (0, v3)), (4, (0, v4)), (5, (0, v5)), (6, (0, v6))]) (M := M_X12_laysDrive) (pc := 37) dX12_laysDrive_37  (by decide) rfl ?_
    exact aw_ls [1, 2, 3, 4, 5, 6, 7, 0] rfl hF
def B_X12_laysDrive_39 (h : Mem) (v1 : Int) (v2 : Int) (v3 : Int) (v4 : Int) (v5 : Int) (v6 : Int) (v7 : Int) (Q : Mem → Prop) : Prop :=
  (((h 162 2) ≤ v7 → (InR (v6 + 1) ∧ L_X12_laysDrive_25 h v1 v2 v3 v4 v5 (v6 + 1) Q)) ∧ (¬ ((h 162 2) ≤ v7) → (F_X12_tosses h v2 v6 (fun r10 h9 => (F_X12_tosses h9 v3 v7 (fun r12 h11 => (F_X12_hoursGo h11 v4 (fun r14 h13 => (F_X12_millOf h13 v1 2 (fun r16 h15 => (InR (r16 - v5) ∧ (F_X12_restores h15 2688 (fun h18 => (((h18 171 2) < (r16 - v5) → (∀ h21 : Mem, h21 = mset h18 171 0 v6 → (∀ h22 : Mem, h22 = mset h21 171 1 v7 → (∀ h23 : Mem, h23 = mset h22 171 2 (r16 - v5) → (InR (v7 + 1) ∧ L_X12_laysDrive_39 h23 v1 v2 v3 v4 v5 v6 (v7 + 1) Q))))) ∧ (¬ ((h18 171 2) < (r16 - v5)) → (InR (v7 + 1) ∧ L_X12_laysDrive_39 h18 v1 v2 v3 v4 v5 v6 (v7 + 1) Q))))))))))))))))
set_option maxRecDepth 100000 in
set_option maxHeartbeats 4000000 in
theorem l_X12_laysDrive_39 {h : Mem} {v1 : Int} {v2 : Int} {v3 : Int} {v4 : Int} {v5 : Int} {v6 : Int} {v7 : Int} {Q : Mem → Prop}  (hF : B_X12_laysDrive_39 h v1 v2 v3 v4 v5 v6 v7 Q) : L_X12_laysDrive_39 h v1 v2 v3 v4 v5 v6 v7 Q := by
  unfold B_X12_laysDrive_39 at hF
  show AW M_X12_laysDrive 39 [(0, vr 161), (1, (0, v1)), (2, (0, v2)), (3, (0, v3)), (4, (0, v4)), (5, (0, v5)), (6, (0, v6)), (7, (0, v7))] [] h (qv Q)
  refine aw_iload (j := 7) (M := M_X12_laysDrive) (pc := 39) dX12_laysDrive_39  rfl ?_
  refine aw_aload_n (j := 0) (M := M_X12_laysDrive) (pc := 41) dX12_laysDrive_41 rfl rfl ?_
  refine gf_X12_7 (M := M_X12_laysDrive) (pc := 42) rfl dX12_laysDrive_42 rfl (r := 162) rfl ?_
  refine aw_iconst (M := M_X12_laysDrive) (pc := 45) dX12_laysDrive_45 ⟨by decide, by decide⟩ ?_
  refine aw_iald (k := 2) (M := M_X12_laysDrive) (pc := 46) dX12_laysDrive_46 rfl ⟨by decide, by decide⟩ rfl ?_
  refine aw_icmp_ge (tgt := 135) (M := M_X12_laysDrive) (pc := 47) dX12_laysDrive_47 rfl (fun hc => ?_) (fun hc => ?_)
  · have hF := hF.1 hc
    obtain ⟨o8, hF⟩ := hF
    refine aw_iinc (j := 6) (x := v6) (r := v6 + 1) (ls' := [(6, (0, v6 + 1)), (0, vr 161), (1, (0, v1)), (2, (0, v2)), (3, (0, v3)), (4, (0, v4)), (5, (0, v5)), (7, (0, v7))]) (M := M_X12_laysDrive) (pc := 135) dX12_laysDrive_135 rfl rfl o8 (by decide) rfl ?_
    refine aw_goto (tgt := 25) (M := M_X12_laysDrive) (pc := 138) dX12_laysDrive_138 rfl ?_
    exact aw_ls [1, 2, 3, 4, 5, 6, 0] rfl hF
  · have hF := hF.2 hc
    refine aw_aload_n (j := 0) (M := M_X12_laysDrive) (pc := 50) dX12_laysDrive_50 rfl rfl ?_
    refine aw_iload_n (j := 2) (M := M_X12_laysDrive) (pc := 51) dX12_laysDrive_51 rfl rfl ?_
    refine aw_iload (j := 6) (M := M_X12_laysDrive) (pc := 52) dX12_laysDrive_52  rfl ?_
    refine aw_cvi (as := [(0, v2), (0, v6)]) (st := []) (M := M_X12_laysDrive) (pc := 54) (f_X12_tosses  hF) dX12_laysDrive_54 rfl (Or.inl ⟨_, _, _, rfl, rfl⟩) cy_X12_tosses ml_X12_329 (by decide) (by decide) (Nat.le_of_ble_eq_true rfl) (fun r10 h9 hF => ?_)
    refine aw_pop (M := M_X12_laysDrive) (pc := 57) dX12_laysDrive_57 rfl ?_
    refine aw_aload_n (j := 0) (M := M_X12_laysDrive) (pc := 58) dX12_laysDrive_58 rfl rfl ?_
    refine aw_iload_n (j := 3) (M := M_X12_laysDrive) (pc := 59) dX12_laysDrive_59 rfl rfl ?_
    refine aw_iload (j := 7) (M := M_X12_laysDrive) (pc := 60) dX12_laysDrive_60  rfl ?_
    refine aw_cvi (as := [(0, v3), (0, v7)]) (st := []) (M := M_X12_laysDrive) (pc := 62) (f_X12_tosses  hF) dX12_laysDrive_62 rfl (Or.inl ⟨_, _, _, rfl, rfl⟩) cy_X12_tosses ml_X12_329 (by decide) (by decide) (Nat.le_of_ble_eq_true rfl) (fun r12 h11 hF => ?_)
    refine aw_pop (M := M_X12_laysDrive) (pc := 65) dX12_laysDrive_65 rfl ?_
    refine aw_aload_n (j := 0) (M := M_X12_laysDrive) (pc := 66) dX12_laysDrive_66 rfl rfl ?_
    refine aw_iload (j := 4) (M := M_X12_laysDrive) (pc := 67) dX12_laysDrive_67  rfl ?_
    refine aw_cvi (as := [(0, v4)]) (st := []) (M := M_X12_laysDrive) (pc := 69) (f_X12_hoursGo  hF) dX12_laysDrive_69 rfl (Or.inl ⟨_, _, _, rfl, rfl⟩) cy_X12_hoursGo ml_X12_320 (by decide) (by decide) (Nat.le_of_ble_eq_true rfl) (fun r14 h13 hF => ?_)
    refine aw_pop (M := M_X12_laysDrive) (pc := 72) dX12_laysDrive_72 rfl ?_
    refine aw_aload_n (j := 0) (M := M_X12_laysDrive) (pc := 73) dX12_laysDrive_73 rfl rfl ?_
    refine aw_iload_n (j := 1) (M := M_X12_laysDrive) (pc := 74) dX12_laysDrive_74 rfl rfl ?_
    refine aw_iconst (M := M_X12_laysDrive) (pc := 75) dX12_laysDrive_75 ⟨by decide, by decide⟩ ?_
    refine aw_cvi (as := [(0, v1), (0, 2)]) (st := []) (M := M_X12_laysDrive) (pc := 76) (f_X12_millOf  hF) dX12_laysDrive_76 rfl (Or.inl ⟨_, _, _, rfl, rfl⟩) cy_X12_millOf ml_X12_290 (by decide) (by decide) (Nat.le_of_ble_eq_true rfl) (fun r16 h15 hF => ?_)
    refine aw_iload (j := 5) (M := M_X12_laysDrive) (pc := 79) dX12_laysDrive_79  rfl ?_
    obtain ⟨o17, hF⟩ := hF
    refine aw_isub (M := M_X12_laysDrive) (pc := 81) dX12_laysDrive_81 rfl o17 ?_
    refine aw_istore (ls' := [(8, (0, r16 - v5)), (0, vr 161), (1, (0, v1)), (2, (0, v2)), (3, (0, v3)), (4, (0, v4)), (5, (0, v5)), (6, (0, v6)), (7, (0, v7))]) (M := M_X12_laysDrive) (pc := 82) dX12_laysDrive_82  (by decide) rfl ?_
    refine aw_aload_n (j := 1) (M := M_X12_laysDrive) (pc := 84) dX12_laysDrive_84 rfl rfl ?_
    refine aw_sipush (M := M_X12_laysDrive) (pc := 85) dX12_laysDrive_85 ⟨rfl, ⟨by decide, by decide⟩⟩ ?_
    refine aw_cvv (as := [(0, 2688)]) (st := []) (M := M_X12_laysDrive) (pc := 88) (f_X12_restores  hF) dX12_laysDrive_88 rfl (Or.inl ⟨_, _, _, rfl, rfl⟩) cy_X12_restores ml_X12_353 (by decide) (by decide) (Nat.le_of_ble_eq_true rfl) (fun h18 hF => ?_)
    refine aw_iload (j := 0) (M := M_X12_laysDrive) (pc := 91) dX12_laysDrive_91  rfl ?_
    refine aw_aload_n (j := 1) (M := M_X12_laysDrive) (pc := 93) dX12_laysDrive_93 rfl rfl ?_
    refine gf_X12_50 (M := M_X12_laysDrive) (pc := 94) rfl dX12_laysDrive_94 rfl (r := 171) rfl ?_
    refine aw_iconst (M := M_X12_laysDrive) (pc := 97) dX12_laysDrive_97 ⟨by decide, by decide⟩ ?_
    refine aw_iald (k := 2) (M := M_X12_laysDrive) (pc := 98) dX12_laysDrive_98 rfl ⟨by decide, by decide⟩ rfl ?_
    refine aw_icmp_gt (tgt := 105) (M := M_X12_laysDrive) (pc := 99) dX12_laysDrive_99 rfl (fun hc => ?_) (fun hc => ?_)
    · have hF := hF.1 hc
      refine aw_aload_n (j := 1) (M := M_X12_laysDrive) (pc := 105) dX12_laysDrive_105 rfl rfl ?_
      refine gf_X12_50 (M := M_X12_laysDrive) (pc := 106) rfl dX12_laysDrive_106 rfl (r := 171) rfl ?_
      refine aw_iconst (M := M_X12_laysDrive) (pc := 109) dX12_laysDrive_109 ⟨by decide, by decide⟩ ?_
      refine aw_iload (j := 7) (M := M_X12_laysDrive) (pc := 110) dX12_laysDrive_110  rfl ?_
      refine aw_iast (k := 0) (M := M_X12_laysDrive) (pc := 112) dX12_laysDrive_112 rfl ⟨by decide, by decide⟩ rfl ?_
      obtain ⟨h21, eh21⟩ : ∃ y : Mem, y = mset h18 171 0 v6 := ⟨_, rfl⟩
      have hF := hF h21 eh21
      rw [← eh21]
      refine aw_aload_n (j := 1) (M := M_X12_laysDrive) (pc := 113) dX12_laysDrive_113 rfl rfl ?_
      refine gf_X12_50 (M := M_X12_laysDrive) (pc := 114) rfl dX12_laysDrive_114 rfl (r := 171) rfl ?_
      refine aw_iconst (M := M_X12_laysDrive) (pc := 117) dX12_laysDrive_117 ⟨by decide, by decide⟩ ?_
      refine aw_iload (j := 8) (M := M_X12_laysDrive) (pc := 118) dX12_laysDrive_118  rfl ?_
      refine aw_iast (k := 1) (M := M_X12_laysDrive) (pc := 120) dX12_laysDrive_120 rfl ⟨by decide, by decide⟩ rfl ?_
      obtain ⟨h22, eh22⟩ : ∃ y : Mem, y = mset h21 171 1 v7 := ⟨_, rfl⟩
      have hF := hF h22 eh22
      rw [← eh22]
      refine aw_aload_n (j := 1) (M := M_X12_laysDrive) (pc := 121) dX12_laysDrive_121 rfl rfl ?_
      refine gf_X12_50 (M := M_X12_laysDrive) (pc := 122) rfl dX12_laysDrive_122 rfl (r := 171) rfl ?_
      refine aw_iconst (M := M_X12_laysDrive) (pc := 125) dX12_laysDrive_125 ⟨by decide, by decide⟩ ?_
      refine aw_iload (j := 0) (M := M_X12_laysDrive) (pc := 126) dX12_laysDrive_126  rfl ?_
      refine aw_iast (k := 2) (M := M_X12_laysDrive) (pc := 128) dX12_laysDrive_128 rfl ⟨by decide, by decide⟩ rfl ?_
      obtain ⟨h23, eh23⟩ : ∃ y : Mem, y = mset h22 171 2 (r16 - v5) := ⟨_, rfl⟩
      have hF := hF h23 eh23
      rw [← eh23]
      obtain ⟨o24, hF⟩ := hF
      refine aw_iinc (j := 8) (x := v7) (r := v7 + 1) (ls' := [(7, (0, v7 + 1)), (8, (0, r16 - v5)), (0, vr 161), (1, (0, v1)), (2, (0, v2)), (3, (0, v3)), (4, (0, v4)), (5, (0, v5)), (6, (0, v6))]) (M := M_X12_laysDrive) (pc := 129) dX12_laysDrive_129 rfl rfl o24 (by decide) rfl ?_
      refine aw_goto (tgt := 39) (M := M_X12_laysDrive) (pc := 132) dX12_laysDrive_132 rfl ?_
      exact aw_ls [2, 3, 4, 5, 6, 7, 8, 0] rfl hF
    · have hF := hF.2 hc
      refine aw_goto (tgt := 129) (M := M_X12_laysDrive) (pc := 102) dX12_laysDrive_102 rfl ?_
      obtain ⟨o25, hF⟩ := hF
      refine aw_iinc (j := 8) (x := v7) (r := v7 + 1) (ls' := [(7, (0, v7 + 1)), (8, (0, r16 - v5)), (0, vr 161), (1, (0, v1)), (2, (0, v2)), (3, (0, v3)), (4, (0, v4)), (5, (0, v5)), (6, (0, v6))]) (M := M_X12_laysDrive) (pc := 129) dX12_laysDrive_129 rfl rfl o25 (by decide) rfl ?_
      refine aw_goto (tgt := 39) (M := M_X12_laysDrive) (pc := 132) dX12_laysDrive_132 rfl ?_
      exact aw_ls [2, 3, 4, 5, 6, 7, 8, 0] rfl hF
def F_X12_laysDrive (h : Mem) (a1 : Int) (a2 : Int) (a3 : Int) (a4 : Int) (Q : Mem → Prop) : Prop :=
  (F_X12_keeps h 2688 (fun h1 => (∀ h3 : Mem, h3 = mset h1 171 2 (-1) → (F_X12_millOf h3 a1 2 (fun r5 h4 => L_X12_laysDrive_25 h4 a1 a2 a3 a4 r5 0 Q)))))
set_option maxRecDepth 100000 in
set_option maxHeartbeats 4000000 in
theorem f_X12_laysDrive {h : Mem} {a1 : Int} {a2 : Int} {a3 : Int} {a4 : Int} {Q : Mem → Prop}  (hF : F_X12_laysDrive h a1 a2 a3 a4 Q) : Ct yX12_laysDrive cX12_laysDrive 9 none (9, 220) [vr 161, (0, a1), (0, a2), (0, a3), (0, a4)] h (qv Q) := by
  refine Ct.of np_RX12 (Nat.le_of_ble_eq_true rfl) ?_
  unfold F_X12_laysDrive at hF
  show AW M_X12_laysDrive 0 [(0, vr 161), (1, (0, a1)), (2, (0, a2)), (3, (0, a3)), (4, (0, a4))] [] h (qv Q)
  refine aw_aload_n (j := 0) (M := M_X12_laysDrive) (pc := 0) dX12_laysDrive_0 rfl rfl ?_
  refine aw_sipush (M := M_X12_laysDrive) (pc := 1) dX12_laysDrive_1 ⟨rfl, ⟨by decide, by decide⟩⟩ ?_
  refine aw_cvv (as := [(0, 2688)]) (st := []) (M := M_X12_laysDrive) (pc := 4) (f_X12_keeps  hF) dX12_laysDrive_4 rfl (Or.inl ⟨_, _, _, rfl, rfl⟩) cy_X12_keeps ml_X12_350 (by decide) (by decide) (Nat.le_of_ble_eq_true rfl) (fun h1 hF => ?_)
  refine aw_aload_n (j := 0) (M := M_X12_laysDrive) (pc := 7) dX12_laysDrive_7 rfl rfl ?_
  refine gf_X12_50 (M := M_X12_laysDrive) (pc := 8) rfl dX12_laysDrive_8 rfl (r := 171) rfl ?_
  refine aw_iconst (M := M_X12_laysDrive) (pc := 11) dX12_laysDrive_11 ⟨by decide, by decide⟩ ?_
  refine aw_iconst (M := M_X12_laysDrive) (pc := 12) dX12_laysDrive_12 ⟨by decide, by decide⟩ ?_
  refine aw_iast (k := 2) (M := M_X12_laysDrive) (pc := 13) dX12_laysDrive_13 rfl ⟨by decide, by decide⟩ rfl ?_
  obtain ⟨h3, eh3⟩ : ∃ y : Mem, y = mset h1 171 2 (-1) := ⟨_, rfl⟩
  have hF := hF h3 eh3
  rw [← eh3]
  refine aw_aload_n (j := 0) (M := M_X12_laysDrive) (pc := 14) dX12_laysDrive_14 rfl rfl ?_
  refine aw_iload_n (j := 1) (M := M_X12_laysDrive) (pc := 15) dX12_laysDrive_15 rfl rfl ?_
  refine aw_iconst (M := M_X12_laysDrive) (pc := 16) dX12_laysDrive_16 ⟨by decide, by decide⟩ ?_
  refine aw_cvi (as := [(0, a1), (0, 2)]) (st := []) (M := M_X12_laysDrive) (pc := 17) (f_X12_millOf  hF) dX12_laysDrive_17 rfl (Or.inl ⟨_, _, _, rfl, rfl⟩) cy_X12_millOf ml_X12_290 (by decide) (by decide) (Nat.le_of_ble_eq_true rfl) (fun r5 h4 hF => ?_)
  refine aw_istore (ls' := [(5, (0, r5)), (0, vr 161), (1, (0, a1)), (2, (0, a2)), (3, (0, a3)), (4, (0, a4))]) (M := M_X12_laysDrive) (pc := 20) dX12_laysDrive_20  (by decide) rfl ?_
  refine aw_iconst (M := M_X12_laysDrive) (pc := 22) dX12_laysDrive_22 ⟨by decide, by decide⟩ ?_
  refine aw_istore (ls' := [(6, (0, 0)), (5, (0, r5)), (0, vr 161), (1, (0, a1)), (2, (0, a2)), (3, (0, a3)), (4, (0, a4))]) (M := M_X12_laysDrive) (pc := 23) dX12_laysDrive_23  (by decide) rfl ?_
  exact aw_ls [2, 3, 4, 5, 6, 1, 0] rfl hF
abbrev M_X12_wrongDrive : Hd := (cX12_wrongDrive, 5, RX12, (some .int), (4, 108), sc0)
def F_X12_wrongDrive (h : Mem) (a1 : Int) (a2 : Int) (a3 : Int) (a4 : Int) (Q : Int → Mem → Prop) : Prop :=
  (F_X12_isMill h a1 (fun r2 h1 => ((r2 = 0 → Q 1 h1) ∧ (¬ (r2 = 0) → (F_X12_isThing h1 a2 (fun r4 h3 => ((r4 = 0 → Q 1 h3) ∧ (¬ (r4 = 0) → (F_X12_isThing h3 a3 (fun r6 h5 => ((r6 = 0 → Q 1 h5) ∧ (¬ (r6 = 0) → ((a2 = a3 → Q 1 h5) ∧ (¬ (a2 = a3) → (F_X12_isFrom h5 a4 0 48 (fun r8 h7 => ((¬ (r8 = 0) → (F_X12_isFree h7 a2 (fun r10 h9 => ((r10 = 0 → Q 7 h9) ∧ (¬ (r10 = 0) → (F_X12_isFree h9 a3 (fun r12 h11 => ((r12 = 0 → Q 7 h11) ∧ (¬ (r12 = 0) → Q 0 h11))))))))) ∧ (r8 = 0 → Q 1 h7))))))))))))))))))
set_option maxRecDepth 100000 in
set_option maxHeartbeats 4000000 in
theorem f_X12_wrongDrive {h : Mem} {a1 : Int} {a2 : Int} {a3 : Int} {a4 : Int} {Q : Int → Mem → Prop}  (hF : F_X12_wrongDrive h a1 a2 a3 a4 Q) : Ct yX12_wrongDrive cX12_wrongDrive 5 (some .int) (4, 108) [vr 161, (0, a1), (0, a2), (0, a3), (0, a4)] h (qi Q) := by
  refine Ct.of np_RX12 (Nat.le_of_ble_eq_true rfl) ?_
  unfold F_X12_wrongDrive at hF
  show AW M_X12_wrongDrive 0 [(0, vr 161), (1, (0, a1)), (2, (0, a2)), (3, (0, a3)), (4, (0, a4))] [] h (qi Q)
  refine aw_aload_n (j := 0) (M := M_X12_wrongDrive) (pc := 0) dX12_wrongDrive_0 rfl rfl ?_
  refine aw_iload_n (j := 1) (M := M_X12_wrongDrive) (pc := 1) dX12_wrongDrive_1 rfl rfl ?_
  refine aw_cvi (as := [(0, a1)]) (st := []) (M := M_X12_wrongDrive) (pc := 2) (f_X12_isMill  hF) dX12_wrongDrive_2 rfl (Or.inl ⟨_, _, _, rfl, rfl⟩) cy_X12_isMill ml_X12_287 (by decide) (by decide) (Nat.le_of_ble_eq_true rfl) (fun r2 h1 hF => ?_)
  refine aw_if_eq (tgt := 42) (M := M_X12_wrongDrive) (pc := 5) dX12_wrongDrive_5 rfl (fun hc => ?_) (fun hc => ?_)
  · have hF := hF.1 hc
    refine aw_iconst (M := M_X12_wrongDrive) (pc := 42) dX12_wrongDrive_42 ⟨by decide, by decide⟩ ?_
    exact aw_ireti (M := M_X12_wrongDrive) (pc := 43) dX12_wrongDrive_43 rfl ⟨_, rfl, hF⟩
  · have hF := hF.2 hc
    refine aw_aload_n (j := 0) (M := M_X12_wrongDrive) (pc := 8) dX12_wrongDrive_8 rfl rfl ?_
    refine aw_iload_n (j := 2) (M := M_X12_wrongDrive) (pc := 9) dX12_wrongDrive_9 rfl rfl ?_
    refine aw_cvi (as := [(0, a2)]) (st := []) (M := M_X12_wrongDrive) (pc := 10) (f_X12_isThing  hF) dX12_wrongDrive_10 rfl (Or.inl ⟨_, _, _, rfl, rfl⟩) cy_X12_isThing ml_X12_284 (by decide) (by decide) (Nat.le_of_ble_eq_true rfl) (fun r4 h3 hF => ?_)
    refine aw_if_eq (tgt := 42) (M := M_X12_wrongDrive) (pc := 13) dX12_wrongDrive_13 rfl (fun hc => ?_) (fun hc => ?_)
    · have hF := hF.1 hc
      refine aw_iconst (M := M_X12_wrongDrive) (pc := 42) dX12_wrongDrive_42 ⟨by decide, by decide⟩ ?_
      exact aw_ireti (M := M_X12_wrongDrive) (pc := 43) dX12_wrongDrive_43 rfl ⟨_, rfl, hF⟩
    · have hF := hF.2 hc
      refine aw_aload_n (j := 0) (M := M_X12_wrongDrive) (pc := 16) dX12_wrongDrive_16 rfl rfl ?_
      refine aw_iload_n (j := 3) (M := M_X12_wrongDrive) (pc := 17) dX12_wrongDrive_17 rfl rfl ?_
      refine aw_cvi (as := [(0, a3)]) (st := []) (M := M_X12_wrongDrive) (pc := 18) (f_X12_isThing  hF) dX12_wrongDrive_18 rfl (Or.inl ⟨_, _, _, rfl, rfl⟩) cy_X12_isThing ml_X12_284 (by decide) (by decide) (Nat.le_of_ble_eq_true rfl) (fun r6 h5 hF => ?_)
      refine aw_if_eq (tgt := 42) (M := M_X12_wrongDrive) (pc := 21) dX12_wrongDrive_21 rfl (fun hc => ?_) (fun hc => ?_)
      · have hF := hF.1 hc
        refine aw_iconst (M := M_X12_wrongDrive) (pc := 42) dX12_wrongDrive_42 ⟨by decide, by decide⟩ ?_
        exact aw_ireti (M := M_X12_wrongDrive) (pc := 43) dX12_wrongDrive_43 rfl ⟨_, rfl, hF⟩
      · have hF := hF.2 hc
        refine aw_iload_n (j := 2) (M := M_X12_wrongDrive) (pc := 24) dX12_wrongDrive_24 rfl rfl ?_
        refine aw_iload_n (j := 3) (M := M_X12_wrongDrive) (pc := 25) dX12_wrongDrive_25 rfl rfl ?_
        refine aw_icmp_eq (tgt := 42) (M := M_X12_wrongDrive) (pc := 26) dX12_wrongDrive_26 rfl (fun hc => ?_) (fun hc => ?_)
        · have hF := hF.1 hc
          refine aw_iconst (M := M_X12_wrongDrive) (pc := 42) dX12_wrongDrive_42 ⟨by decide, by decide⟩ ?_
          exact aw_ireti (M := M_X12_wrongDrive) (pc := 43) dX12_wrongDrive_43 rfl ⟨_, rfl, hF⟩
        · have hF := hF.2 hc
          refine aw_iload (j := 4) (M := M_X12_wrongDrive) (pc := 29) dX12_wrongDrive_29  rfl ?_
          refine aw_i2l (M := M_X12_wrongDrive) (pc := 31) dX12_wrongDrive_31 ?_
          refine aw_lconst (v := 0) (M := M_X12_wrongDrive) (pc := 32) dX12_wrongDrive_32 ⟨rfl, ⟨by decide, by decide⟩⟩ ?_
          refine aw_ldc2 (v := 48) (M := M_X12_wrongDrive) (pc := 33) dX12_wrongDrive_33 kl_X12_383 ⟨by decide, by decide⟩ ?_
          refine aw_csi (as := [(1, a4), (1, 0), (1, 48)]) (st := []) (M := M_X12_wrongDrive) (pc := 36) (f_X12_isFrom  hF) dX12_wrongDrive_36 rfl cy_X12_isFrom ml_X12_316 (by decide) (by decide) (Nat.le_of_ble_eq_true rfl) (fun r8 h7 hF => ?_)
          refine aw_if_ne (tgt := 44) (M := M_X12_wrongDrive) (pc := 39) dX12_wrongDrive_39 rfl (fun hc => ?_) (fun hc => ?_)
          · have hF := hF.1 hc
            refine aw_aload_n (j := 0) (M := M_X12_wrongDrive) (pc := 44) dX12_wrongDrive_44 rfl rfl ?_
            refine aw_iload_n (j := 2) (M := M_X12_wrongDrive) (pc := 45) dX12_wrongDrive_45 rfl rfl ?_
            refine aw_cvi (as := [(0, a2)]) (st := []) (M := M_X12_wrongDrive) (pc := 46) (f_X12_isFree  hF) dX12_wrongDrive_46 rfl (Or.inl ⟨_, _, _, rfl, rfl⟩) cy_X12_isFree ml_X12_323 (by decide) (by decide) (Nat.le_of_ble_eq_true rfl) (fun r10 h9 hF => ?_)
            refine aw_if_eq (tgt := 64) (M := M_X12_wrongDrive) (pc := 49) dX12_wrongDrive_49 rfl (fun hc => ?_) (fun hc => ?_)
            · have hF := hF.1 hc
              refine aw_bipush (M := M_X12_wrongDrive) (pc := 64) dX12_wrongDrive_64 ⟨rfl, ⟨by decide, by decide⟩⟩ ?_
              exact aw_ireti (M := M_X12_wrongDrive) (pc := 66) dX12_wrongDrive_66 rfl ⟨_, rfl, hF⟩
            · have hF := hF.2 hc
              refine aw_aload_n (j := 0) (M := M_X12_wrongDrive) (pc := 52) dX12_wrongDrive_52 rfl rfl ?_
              refine aw_iload_n (j := 3) (M := M_X12_wrongDrive) (pc := 53) dX12_wrongDrive_53 rfl rfl ?_
              refine aw_cvi (as := [(0, a3)]) (st := []) (M := M_X12_wrongDrive) (pc := 54) (f_X12_isFree  hF) dX12_wrongDrive_54 rfl (Or.inl ⟨_, _, _, rfl, rfl⟩) cy_X12_isFree ml_X12_323 (by decide) (by decide) (Nat.le_of_ble_eq_true rfl) (fun r12 h11 hF => ?_)
              refine aw_if_eq (tgt := 64) (M := M_X12_wrongDrive) (pc := 57) dX12_wrongDrive_57 rfl (fun hc => ?_) (fun hc => ?_)
              · have hF := hF.1 hc
                refine aw_bipush (M := M_X12_wrongDrive) (pc := 64) dX12_wrongDrive_64 ⟨rfl, ⟨by decide, by decide⟩⟩ ?_
                exact aw_ireti (M := M_X12_wrongDrive) (pc := 66) dX12_wrongDrive_66 rfl ⟨_, rfl, hF⟩
              · have hF := hF.2 hc
                refine aw_iconst (M := M_X12_wrongDrive) (pc := 60) dX12_wrongDrive_60 ⟨by decide, by decide⟩ ?_
                refine aw_goto (tgt := 66) (M := M_X12_wrongDrive) (pc := 61) dX12_wrongDrive_61 rfl ?_
                exact aw_ireti (M := M_X12_wrongDrive) (pc := 66) dX12_wrongDrive_66 rfl ⟨_, rfl, hF⟩
          · have hF := hF.2 hc
            refine aw_iconst (M := M_X12_wrongDrive) (pc := 42) dX12_wrongDrive_42 ⟨by decide, by decide⟩ ?_
            exact aw_ireti (M := M_X12_wrongDrive) (pc := 43) dX12_wrongDrive_43 rfl ⟨_, rfl, hF⟩
abbrev M_X12_drive : Hd := (cX12_drive, 6, RX12, (some .int), (10, 248), sc0)
def F_X12_drive (h : Mem) (a1 : Int) (a2 : Int) (a3 : Int) (a4 : Int) (Q : Int → Mem → Prop) : Prop :=
  (F_X12_wrongDrive h a1 a2 a3 a4 (fun r2 h1 => ((r2 ≤ 0 → (F_X12_laysDrive h1 a1 a2 a3 a4 (fun h3 => (F_X12_gives h3 (h3 171 2) (fun r7 h6 => Q r7 h6))))) ∧ (¬ (r2 ≤ 0) → (F_X12_refuse h1 r2 (fun r9 h8 => Q r9 h8))))))
set_option maxRecDepth 100000 in
set_option maxHeartbeats 4000000 in
theorem f_X12_drive {h : Mem} {a1 : Int} {a2 : Int} {a3 : Int} {a4 : Int} {Q : Int → Mem → Prop}  (hF : F_X12_drive h a1 a2 a3 a4 Q) : Ct yX12_drive cX12_drive 6 (some .int) (10, 248) [vr 161, (0, a1), (0, a2), (0, a3), (0, a4)] h (qi Q) := by
  refine Ct.of np_RX12 (Nat.le_of_ble_eq_true rfl) ?_
  unfold F_X12_drive at hF
  show AW M_X12_drive 0 [(0, vr 161), (1, (0, a1)), (2, (0, a2)), (3, (0, a3)), (4, (0, a4))] [] h (qi Q)
  refine aw_aload_n (j := 0) (M := M_X12_drive) (pc := 0) dX12_drive_0 rfl rfl ?_
  refine aw_iload_n (j := 1) (M := M_X12_drive) (pc := 1) dX12_drive_1 rfl rfl ?_
  refine aw_iload_n (j := 2) (M := M_X12_drive) (pc := 2) dX12_drive_2 rfl rfl ?_
  refine aw_iload_n (j := 3) (M := M_X12_drive) (pc := 3) dX12_drive_3 rfl rfl ?_
  refine aw_iload (j := 4) (M := M_X12_drive) (pc := 4) dX12_drive_4  rfl ?_
  refine aw_cvi (as := [(0, a1), (0, a2), (0, a3), (0, a4)]) (st := []) (M := M_X12_drive) (pc := 6) (f_X12_wrongDrive  hF) dX12_drive_6 rfl (Or.inl ⟨_, _, _, rfl, rfl⟩) cy_X12_wrongDrive ml_X12_385 (by decide) (by decide) (Nat.le_of_ble_eq_true rfl) (fun r2 h1 hF => ?_)
  refine aw_istore (ls' := [(5, (0, r2)), (0, vr 161), (1, (0, a1)), (2, (0, a2)), (3, (0, a3)), (4, (0, a4))]) (M := M_X12_drive) (pc := 9) dX12_drive_9  (by decide) rfl ?_
  refine aw_iload (j := 0) (M := M_X12_drive) (pc := 11) dX12_drive_11  rfl ?_
  refine aw_if_le (tgt := 23) (M := M_X12_drive) (pc := 13) dX12_drive_13 rfl (fun hc => ?_) (fun hc => ?_)
  · have hF := hF.1 hc
    refine aw_aload_n (j := 1) (M := M_X12_drive) (pc := 23) dX12_drive_23 rfl rfl ?_
    refine aw_iload_n (j := 2) (M := M_X12_drive) (pc := 24) dX12_drive_24 rfl rfl ?_
    refine aw_iload_n (j := 3) (M := M_X12_drive) (pc := 25) dX12_drive_25 rfl rfl ?_
    refine aw_iload_n (j := 4) (M := M_X12_drive) (pc := 26) dX12_drive_26 rfl rfl ?_
    refine aw_iload (j := 5) (M := M_X12_drive) (pc := 27) dX12_drive_27  rfl ?_
    refine aw_cvv (as := [(0, a1), (0, a2), (0, a3), (0, a4)]) (st := []) (M := M_X12_drive) (pc := 29) (f_X12_laysDrive  hF) dX12_drive_29 rfl (Or.inl ⟨_, _, _, rfl, rfl⟩) cy_X12_laysDrive ml_X12_389 (by decide) (by decide) (Nat.le_of_ble_eq_true rfl) (fun h3 hF => ?_)
    refine aw_aload_n (j := 1) (M := M_X12_drive) (pc := 32) dX12_drive_32 rfl rfl ?_
    refine aw_aload_n (j := 1) (M := M_X12_drive) (pc := 33) dX12_drive_33 rfl rfl ?_
    refine gf_X12_50 (M := M_X12_drive) (pc := 34) rfl dX12_drive_34 rfl (r := 171) rfl ?_
    refine aw_iconst (M := M_X12_drive) (pc := 37) dX12_drive_37 ⟨by decide, by decide⟩ ?_
    refine aw_iald (k := 2) (M := M_X12_drive) (pc := 38) dX12_drive_38 rfl ⟨by decide, by decide⟩ rfl ?_
    refine aw_cvi (as := [(0, h3 171 2)]) (st := []) (M := M_X12_drive) (pc := 39) (f_X12_gives  hF) dX12_drive_39 rfl (Or.inl ⟨_, _, _, rfl, rfl⟩) cy_X12_gives ml_X12_95 (by decide) (by decide) (Nat.le_of_ble_eq_true rfl) (fun r7 h6 hF => ?_)
    exact aw_ireti (M := M_X12_drive) (pc := 42) dX12_drive_42 rfl ⟨_, rfl, hF⟩
  · have hF := hF.2 hc
    refine aw_aload_n (j := 1) (M := M_X12_drive) (pc := 16) dX12_drive_16 rfl rfl ?_
    refine aw_iload (j := 0) (M := M_X12_drive) (pc := 17) dX12_drive_17  rfl ?_
    refine aw_cvi (as := [(0, r2)]) (st := []) (M := M_X12_drive) (pc := 19) (f_X12_refuse  hF) dX12_drive_19 rfl (Or.inl ⟨_, _, _, rfl, rfl⟩) cy_X12_refuse ml_X12_91 (by decide) (by decide) (Nat.le_of_ble_eq_true rfl) (fun r9 h8 hF => ?_)
    exact aw_ireti (M := M_X12_drive) (pc := 22) dX12_drive_22 rfl ⟨_, rfl, hF⟩
abbrev M_X12_driveCell : Hd := (cX12_driveCell, 7, RX12, (some .int), (10, 248), sc0)
def J_X12_driveCell_11 (h : Mem) (v1 : Int) (v2 : Int) (v3 : Int) (v4 : Int) (v5 : Int) (Q : Int → Mem → Prop) : Prop :=
  (F_X12_refuse h 1 (fun r12 h11 => Q r12 h11))
set_option maxRecDepth 100000 in
set_option maxHeartbeats 4000000 in
theorem j_X12_driveCell_11 {h : Mem} {v1 : Int} {v2 : Int} {v3 : Int} {v4 : Int} {v5 : Int} {Q : Int → Mem → Prop}  (hF : J_X12_driveCell_11 h v1 v2 v3 v4 v5 Q) : AW M_X12_driveCell 11 [(0, vr 161), (1, (0, v1)), (2, (0, v2)), (3, (0, v3)), (4, (0, v4)), (5, (0, v5))] [] h (qi Q) := by
  unfold J_X12_driveCell_11 at hF
  refine aw_iconst (M := M_X12_driveCell) (pc := 11) dX12_driveCell_11 ⟨by decide, by decide⟩ ?_
  refine aw_goto (tgt := 24) (M := M_X12_driveCell) (pc := 12) dX12_driveCell_12 rfl ?_
  refine aw_istore (ls' := [(6, (0, 1)), (0, vr 161), (1, (0, v1)), (2, (0, v2)), (3, (0, v3)), (4, (0, v4)), (5, (0, v5))]) (M := M_X12_driveCell) (pc := 24) dX12_driveCell_24  (by decide) rfl ?_
  refine aw_iload (j := 0) (M := M_X12_driveCell) (pc := 26) dX12_driveCell_26  rfl ?_
  refine aw_if_le (tgt := 38) (M := M_X12_driveCell) (pc := 28) dX12_driveCell_28 rfl (fun hc => absurd hc (by decide)) (fun hc => ?_)
  refine aw_aload_n (j := 1) (M := M_X12_driveCell) (pc := 31) dX12_driveCell_31 rfl rfl ?_
  refine aw_iload (j := 0) (M := M_X12_driveCell) (pc := 32) dX12_driveCell_32  rfl ?_
  refine aw_cvi (as := [(0, 1)]) (st := []) (M := M_X12_driveCell) (pc := 34) (f_X12_refuse  hF) dX12_driveCell_34 rfl (Or.inl ⟨_, _, _, rfl, rfl⟩) cy_X12_refuse ml_X12_91 (by decide) (by decide) (Nat.le_of_ble_eq_true rfl) (fun r12 h11 hF => ?_)
  exact aw_ireti (M := M_X12_driveCell) (pc := 37) dX12_driveCell_37 rfl ⟨_, rfl, hF⟩
def F_X12_driveCell (h : Mem) (a1 : Int) (a2 : Int) (a3 : Int) (a4 : Int) (a5 : Int) (Q : Int → Mem → Prop) : Prop :=
  ((a5 < 0 → J_X12_driveCell_11 h a1 a2 a3 a4 a5 Q) ∧ (¬ (a5 < 0) → ((a5 ≤ 1 → (F_X12_wrongDrive h a1 a2 a3 a4 (fun r2 h1 => ((r2 ≤ 0 → (F_X12_laysDrive h1 a1 a2 a3 a4 (fun h3 => ((0 ≤ a5 ∧ a5 < 3) ∧ (F_X12_gives h3 (h3 171 (a5).toNat) (fun r8 h7 => Q r8 h7)))))) ∧ (¬ (r2 ≤ 0) → (F_X12_refuse h1 r2 (fun r10 h9 => Q r10 h9))))))) ∧ (¬ (a5 ≤ 1) → J_X12_driveCell_11 h a1 a2 a3 a4 a5 Q))))
set_option maxRecDepth 100000 in
set_option maxHeartbeats 4000000 in
theorem f_X12_driveCell {h : Mem} {a1 : Int} {a2 : Int} {a3 : Int} {a4 : Int} {a5 : Int} {Q : Int → Mem → Prop}  (hF : F_X12_driveCell h a1 a2 a3 a4 a5 Q) : Ct yX12_driveCell cX12_driveCell 7 (some .int) (10, 248) [vr 161, (0, a1), (0, a2), (0, a3), (0, a4), (0, a5)] h (qi Q) := by
  refine Ct.of np_RX12 (Nat.le_of_ble_eq_true rfl) ?_
  unfold F_X12_driveCell at hF
  show AW M_X12_driveCell 0 [(0, vr 161), (1, (0, a1)), (2, (0, a2)), (3, (0, a3)), (4, (0, a4)), (5, (0, a5))] [] h (qi Q)
  refine aw_iload (j := 5) (M := M_X12_driveCell) (pc := 0) dX12_driveCell_0  rfl ?_
  refine aw_if_lt (tgt := 11) (M := M_X12_driveCell) (pc := 2) dX12_driveCell_2 rfl (fun hc => ?_) (fun hc => ?_)
  · have hF := hF.1 hc
    exact aw_ls [0, 1, 2, 3, 4, 5] rfl (j_X12_driveCell_11  hF)
  · have hF := hF.2 hc
    refine aw_iload (j := 5) (M := M_X12_driveCell) (pc := 5) dX12_driveCell_5  rfl ?_
    refine aw_iconst (M := M_X12_driveCell) (pc := 7) dX12_driveCell_7 ⟨by decide, by decide⟩ ?_
    refine aw_icmp_le (tgt := 15) (M := M_X12_driveCell) (pc := 8) dX12_driveCell_8 rfl (fun hc => ?_) (fun hc => ?_)
    · have hF := hF.1 hc
      refine aw_aload_n (j := 0) (M := M_X12_driveCell) (pc := 15) dX12_driveCell_15 rfl rfl ?_
      refine aw_iload_n (j := 1) (M := M_X12_driveCell) (pc := 16) dX12_driveCell_16 rfl rfl ?_
      refine aw_iload_n (j := 2) (M := M_X12_driveCell) (pc := 17) dX12_driveCell_17 rfl rfl ?_
      refine aw_iload_n (j := 3) (M := M_X12_driveCell) (pc := 18) dX12_driveCell_18 rfl rfl ?_
      refine aw_iload (j := 4) (M := M_X12_driveCell) (pc := 19) dX12_driveCell_19  rfl ?_
      refine aw_cvi (as := [(0, a1), (0, a2), (0, a3), (0, a4)]) (st := []) (M := M_X12_driveCell) (pc := 21) (f_X12_wrongDrive  hF) dX12_driveCell_21 rfl (Or.inl ⟨_, _, _, rfl, rfl⟩) cy_X12_wrongDrive ml_X12_385 (by decide) (by decide) (Nat.le_of_ble_eq_true rfl) (fun r2 h1 hF => ?_)
      refine aw_istore (ls' := [(6, (0, r2)), (0, vr 161), (1, (0, a1)), (2, (0, a2)), (3, (0, a3)), (4, (0, a4)), (5, (0, a5))]) (M := M_X12_driveCell) (pc := 24) dX12_driveCell_24  (by decide) rfl ?_
      refine aw_iload (j := 0) (M := M_X12_driveCell) (pc := 26) dX12_driveCell_26  rfl ?_
      refine aw_if_le (tgt := 38) (M := M_X12_driveCell) (pc := 28) dX12_driveCell_28 rfl (fun hc => ?_) (fun hc => ?_)
      · have hF := hF.1 hc
        refine aw_aload_n (j := 1) (M := M_X12_driveCell) (pc := 38) dX12_driveCell_38 rfl rfl ?_
        refine aw_iload_n (j := 2) (M := M_X12_driveCell) (pc := 39) dX12_driveCell_39 rfl rfl ?_
        refine aw_iload_n (j := 3) (M := M_X12_driveCell) (pc := 40) dX12_driveCell_40 rfl rfl ?_
        refine aw_iload_n (j := 4) (M := M_X12_driveCell) (pc := 41) dX12_driveCell_41 rfl rfl ?_
        refine aw_iload (j := 5) (M := M_X12_driveCell) (pc := 42) dX12_driveCell_42  rfl ?_
        refine aw_cvv (as := [(0, a1), (0, a2), (0, a3), (0, a4)]) (st := []) (M := M_X12_driveCell) (pc := 44) (f_X12_laysDrive  hF) dX12_driveCell_44 rfl (Or.inl ⟨_, _, _, rfl, rfl⟩) cy_X12_laysDrive ml_X12_389 (by decide) (by decide) (Nat.le_of_ble_eq_true rfl) (fun h3 hF => ?_)
        refine aw_aload_n (j := 1) (M := M_X12_driveCell) (pc := 47) dX12_driveCell_47 rfl rfl ?_
        refine aw_aload_n (j := 1) (M := M_X12_driveCell) (pc := 48) dX12_driveCell_48 rfl rfl ?_
        refine gf_X12_50 (M := M_X12_driveCell) (pc := 49) rfl dX12_driveCell_49 rfl (r := 171) rfl ?_
        refine aw_iload (j := 6) (M := M_X12_driveCell) (pc := 52) dX12_driveCell_52  rfl ?_
        obtain ⟨o6, hF⟩ := hF
        refine aw_iald (k := (a5).toNat) (M := M_X12_driveCell) (pc := 54) dX12_driveCell_54 rfl o6 rfl ?_
        refine aw_cvi (as := [(0, h3 171 (a5).toNat)]) (st := []) (M := M_X12_driveCell) (pc := 55) (f_X12_gives  hF) dX12_driveCell_55 rfl (Or.inl ⟨_, _, _, rfl, rfl⟩) cy_X12_gives ml_X12_95 (by decide) (by decide) (Nat.le_of_ble_eq_true rfl) (fun r8 h7 hF => ?_)
        exact aw_ireti (M := M_X12_driveCell) (pc := 58) dX12_driveCell_58 rfl ⟨_, rfl, hF⟩
      · have hF := hF.2 hc
        refine aw_aload_n (j := 1) (M := M_X12_driveCell) (pc := 31) dX12_driveCell_31 rfl rfl ?_
        refine aw_iload (j := 0) (M := M_X12_driveCell) (pc := 32) dX12_driveCell_32  rfl ?_
        refine aw_cvi (as := [(0, r2)]) (st := []) (M := M_X12_driveCell) (pc := 34) (f_X12_refuse  hF) dX12_driveCell_34 rfl (Or.inl ⟨_, _, _, rfl, rfl⟩) cy_X12_refuse ml_X12_91 (by decide) (by decide) (Nat.le_of_ble_eq_true rfl) (fun r10 h9 hF => ?_)
        exact aw_ireti (M := M_X12_driveCell) (pc := 37) dX12_driveCell_37 rfl ⟨_, rfl, hF⟩
    · have hF := hF.2 hc
      exact aw_ls [0, 1, 2, 3, 4, 5] rfl (j_X12_driveCell_11  hF)
abbrev M_X12_fault : Hd := (cX12_fault, 2, RX12, (some .int), (1, 45), sc0)
def F_X12_fault (h : Mem) (a1 : Int) (Q : Int → Mem → Prop) : Prop :=
  ((¬ (a1 = 0) → ((¬ (a1 = 1) → Q (-1) h) ∧ (a1 = 1 → Q (h 161 17) h))) ∧ (a1 = 0 → Q (h 161 16) h))
set_option maxRecDepth 100000 in
set_option maxHeartbeats 4000000 in
theorem f_X12_fault {h : Mem} {a1 : Int} {Q : Int → Mem → Prop}  (hF : F_X12_fault h a1 Q) : Ct yX12_fault cX12_fault 2 (some .int) (1, 45) [vr 161, (0, a1)] h (qi Q) := by
  refine Ct.of np_RX12 (Nat.le_of_ble_eq_true rfl) ?_
  unfold F_X12_fault at hF
  show AW M_X12_fault 0 [(0, vr 161), (1, (0, a1))] [] h (qi Q)
  refine aw_iload_n (j := 1) (M := M_X12_fault) (pc := 0) dX12_fault_0 rfl rfl ?_
  refine aw_if_ne (tgt := 11) (M := M_X12_fault) (pc := 1) dX12_fault_1 rfl (fun hc => ?_) (fun hc => ?_)
  · have hF := hF.1 hc
    refine aw_iload_n (j := 1) (M := M_X12_fault) (pc := 11) dX12_fault_11 rfl rfl ?_
    refine aw_iconst (M := M_X12_fault) (pc := 12) dX12_fault_12 ⟨by decide, by decide⟩ ?_
    refine aw_icmp_ne (tgt := 23) (M := M_X12_fault) (pc := 13) dX12_fault_13 rfl (fun hc => ?_) (fun hc => ?_)
    · have hF := hF.1 hc
      refine aw_iconst (M := M_X12_fault) (pc := 23) dX12_fault_23 ⟨by decide, by decide⟩ ?_
      exact aw_ireti (M := M_X12_fault) (pc := 24) dX12_fault_24 rfl ⟨_, rfl, hF⟩
    · have hF := hF.2 hc
      refine aw_aload_n (j := 0) (M := M_X12_fault) (pc := 16) dX12_fault_16 rfl rfl ?_
      refine gf_X12_41 (M := M_X12_fault) (pc := 17) rfl dX12_fault_17 rfl ?_
      refine aw_goto (tgt := 24) (M := M_X12_fault) (pc := 20) dX12_fault_20 rfl ?_
      exact aw_ireti (M := M_X12_fault) (pc := 24) dX12_fault_24 rfl ⟨_, rfl, hF⟩
  · have hF := hF.2 hc
    refine aw_aload_n (j := 0) (M := M_X12_fault) (pc := 4) dX12_fault_4 rfl rfl ?_
    refine gf_X12_37 (M := M_X12_fault) (pc := 5) rfl dX12_fault_5 rfl ?_
    refine aw_goto (tgt := 24) (M := M_X12_fault) (pc := 8) dX12_fault_8 rfl ?_
    exact aw_ireti (M := M_X12_fault) (pc := 24) dX12_fault_24 rfl ⟨_, rfl, hF⟩
abbrev M_X12_four : Hd := (cX12_four, 3, RX12, none, (1, 45), sc0)
def L_X12_four_3 (h : Mem) (v1 : Int) (v2 : Int) (Q : Mem → Prop) : Prop := AW M_X12_four 3 [(0, vr 161), (1, (0, v1)), (2, (0, v2))] [] h (qv Q)
def B_X12_four_3 (h : Mem) (v1 : Int) (v2 : Int) (Q : Mem → Prop) : Prop :=
  ((v2 < 0 → Q h) ∧ (¬ (v2 < 0) → ((0 ≤ (h 161 10) ∧ (h 161 10) < 900) ∧ (∀ h2 : Mem, h2 = mset h 167 (h 161 10).toNat (i2b (i2b (ishr v1 v2))) → (InR ((h2 161 10) + 1) ∧ (∀ h4 : Mem, h4 = mset h2 161 10 ((h2 161 10) + 1) → (InR (v2 + (-8)) ∧ L_X12_four_3 h4 v1 (v2 + (-8)) Q)))))))
set_option maxRecDepth 100000 in
set_option maxHeartbeats 4000000 in
theorem l_X12_four_3 {h : Mem} {v1 : Int} {v2 : Int} {Q : Mem → Prop}  (hF : B_X12_four_3 h v1 v2 Q) : L_X12_four_3 h v1 v2 Q := by
  unfold B_X12_four_3 at hF
  show AW M_X12_four 3 [(0, vr 161), (1, (0, v1)), (2, (0, v2))] [] h (qv Q)
  refine aw_iload_n (j := 2) (M := M_X12_four) (pc := 3) dX12_four_3 rfl rfl ?_
  refine aw_if_lt (tgt := 36) (M := M_X12_four) (pc := 4) dX12_four_4 rfl (fun hc => ?_) (fun hc => ?_)
  · have hF := hF.1 hc
    exact aw_ret (M := M_X12_four) (pc := 36) dX12_four_36 rfl ⟨rfl, hF⟩
  · have hF := hF.2 hc
    refine aw_aload_n (j := 0) (M := M_X12_four) (pc := 7) dX12_four_7 rfl rfl ?_
    refine gf_X12_30 (M := M_X12_four) (pc := 8) rfl dX12_four_8 rfl (r := 167) rfl ?_
    refine aw_aload_n (j := 0) (M := M_X12_four) (pc := 11) dX12_four_11 rfl rfl ?_
    refine gf_X12_115 (M := M_X12_four) (pc := 12) rfl dX12_four_12 rfl ?_
    refine aw_iload_n (j := 1) (M := M_X12_four) (pc := 15) dX12_four_15 rfl rfl ?_
    refine aw_iload_n (j := 2) (M := M_X12_four) (pc := 16) dX12_four_16 rfl rfl ?_
    refine aw_ishr (M := M_X12_four) (pc := 17) dX12_four_17 ?_
    refine aw_i2b (M := M_X12_four) (pc := 18) dX12_four_18 ?_
    obtain ⟨o1, hF⟩ := hF
    refine aw_bast (k := (h 161 10).toNat) (M := M_X12_four) (pc := 19) dX12_four_19 rfl o1 rfl ?_
    obtain ⟨h2, eh2⟩ : ∃ y : Mem, y = mset h 167 (h 161 10).toNat (i2b (i2b (ishr v1 v2))) := ⟨_, rfl⟩
    have hF := hF h2 eh2
    rw [← eh2]
    refine aw_aload_n (j := 0) (M := M_X12_four) (pc := 20) dX12_four_20 rfl rfl ?_
    refine aw_dup (M := M_X12_four) (pc := 21) dX12_four_21 rfl ?_
    refine gf_X12_115 (M := M_X12_four) (pc := 22) rfl dX12_four_22 rfl ?_
    refine aw_iconst (M := M_X12_four) (pc := 25) dX12_four_25 ⟨by decide, by decide⟩ ?_
    obtain ⟨o3, hF⟩ := hF
    refine aw_iadd (M := M_X12_four) (pc := 26) dX12_four_26 rfl o3 ?_
    refine pf_X12_115 (M := M_X12_four) (pc := 27) rfl dX12_four_27 rfl ?_
    obtain ⟨h4, eh4⟩ : ∃ y : Mem, y = mset h2 161 10 ((h2 161 10) + 1) := ⟨_, rfl⟩
    have hF := hF h4 eh4
    rw [← eh4]
    obtain ⟨o5, hF⟩ := hF
    refine aw_iinc (j := 2) (x := v2) (r := v2 + (-8)) (ls' := [(2, (0, v2 + (-8))), (0, vr 161), (1, (0, v1))]) (M := M_X12_four) (pc := 30) dX12_four_30 rfl rfl o5 (by decide) rfl ?_
    refine aw_goto (tgt := 3) (M := M_X12_four) (pc := 33) dX12_four_33 rfl ?_
    exact aw_ls [1, 2, 0] rfl hF
def F_X12_four (h : Mem) (a1 : Int) (Q : Mem → Prop) : Prop :=
  L_X12_four_3 h a1 24 Q
set_option maxRecDepth 100000 in
set_option maxHeartbeats 4000000 in
theorem f_X12_four {h : Mem} {a1 : Int} {Q : Mem → Prop}  (hF : F_X12_four h a1 Q) : Ct yX12_four cX12_four 3 none (1, 45) [vr 161, (0, a1)] h (qv Q) := by
  refine Ct.of np_RX12 (Nat.le_of_ble_eq_true rfl) ?_
  unfold F_X12_four at hF
  show AW M_X12_four 0 [(0, vr 161), (1, (0, a1))] [] h (qv Q)
  refine aw_bipush (M := M_X12_four) (pc := 0) dX12_four_0 ⟨rfl, ⟨by decide, by decide⟩⟩ ?_
  refine aw_istore_n (ls' := [(2, (0, 24)), (0, vr 161), (1, (0, a1))]) (M := M_X12_four) (pc := 2) dX12_four_2 rfl (by decide) rfl ?_
  exact aw_ls [1, 2, 0] rfl hF
abbrev M_X12_feed : Hd := (cX12_feed, 6, RX12, (some .int), (2, 67), sc0)
def F_X12_feed (h : Mem) (a1 : Int) (a2 : Int) (a3 : Int) (a4 : Int) (a5 : Int) (Q : Int → Mem → Prop) : Prop :=
  (InR ((h 161 10) + 20) ∧ ((((h 161 10) + 20) ≤ 900 → (F_X12_four h a1 (fun h2 => (F_X12_four h2 a2 (fun h4 => (F_X12_four h4 a3 (fun h6 => (F_X12_four h6 a4 (fun h8 => (F_X12_four h8 a5 (fun h10 => Q (h10 161 10) h10))))))))))) ∧ (¬ (((h 161 10) + 20) ≤ 900) → Q (-1) h)))
set_option maxRecDepth 100000 in
set_option maxHeartbeats 4000000 in
theorem f_X12_feed {h : Mem} {a1 : Int} {a2 : Int} {a3 : Int} {a4 : Int} {a5 : Int} {Q : Int → Mem → Prop}  (hF : F_X12_feed h a1 a2 a3 a4 a5 Q) : Ct yX12_feed cX12_feed 6 (some .int) (2, 67) [vr 161, (0, a1), (0, a2), (0, a3), (0, a4), (0, a5)] h (qi Q) := by
  refine Ct.of np_RX12 (Nat.le_of_ble_eq_true rfl) ?_
  unfold F_X12_feed at hF
  show AW M_X12_feed 0 [(0, vr 161), (1, (0, a1)), (2, (0, a2)), (3, (0, a3)), (4, (0, a4)), (5, (0, a5))] [] h (qi Q)
  refine aw_aload_n (j := 0) (M := M_X12_feed) (pc := 0) dX12_feed_0 rfl rfl ?_
  refine gf_X12_115 (M := M_X12_feed) (pc := 1) rfl dX12_feed_1 rfl ?_
  refine aw_bipush (M := M_X12_feed) (pc := 4) dX12_feed_4 ⟨rfl, ⟨by decide, by decide⟩⟩ ?_
  obtain ⟨o1, hF⟩ := hF
  refine aw_iadd (M := M_X12_feed) (pc := 6) dX12_feed_6 rfl o1 ?_
  refine aw_sipush (M := M_X12_feed) (pc := 7) dX12_feed_7 ⟨rfl, ⟨by decide, by decide⟩⟩ ?_
  refine aw_icmp_le (tgt := 15) (M := M_X12_feed) (pc := 10) dX12_feed_10 rfl (fun hc => ?_) (fun hc => ?_)
  · have hF := hF.1 hc
    refine aw_aload_n (j := 0) (M := M_X12_feed) (pc := 15) dX12_feed_15 rfl rfl ?_
    refine aw_iload_n (j := 1) (M := M_X12_feed) (pc := 16) dX12_feed_16 rfl rfl ?_
    refine aw_cvv (as := [(0, a1)]) (st := []) (M := M_X12_feed) (pc := 17) (f_X12_four  hF) dX12_feed_17 rfl (Or.inl ⟨_, _, _, rfl, rfl⟩) cy_X12_four ml_X12_118 (by decide) (by decide) (Nat.le_of_ble_eq_true rfl) (fun h2 hF => ?_)
    refine aw_aload_n (j := 0) (M := M_X12_feed) (pc := 20) dX12_feed_20 rfl rfl ?_
    refine aw_iload_n (j := 2) (M := M_X12_feed) (pc := 21) dX12_feed_21 rfl rfl ?_
    refine aw_cvv (as := [(0, a2)]) (st := []) (M := M_X12_feed) (pc := 22) (f_X12_four  hF) dX12_feed_22 rfl (Or.inl ⟨_, _, _, rfl, rfl⟩) cy_X12_four ml_X12_118 (by decide) (by decide) (Nat.le_of_ble_eq_true rfl) (fun h4 hF => ?_)
    refine aw_aload_n (j := 0) (M := M_X12_feed) (pc := 25) dX12_feed_25 rfl rfl ?_
    refine aw_iload_n (j := 3) (M := M_X12_feed) (pc := 26) dX12_feed_26 rfl rfl ?_
    refine aw_cvv (as := [(0, a3)]) (st := []) (M := M_X12_feed) (pc := 27) (f_X12_four  hF) dX12_feed_27 rfl (Or.inl ⟨_, _, _, rfl, rfl⟩) cy_X12_four ml_X12_118 (by decide) (by decide) (Nat.le_of_ble_eq_true rfl) (fun h6 hF => ?_)
    refine aw_aload_n (j := 0) (M := M_X12_feed) (pc := 30) dX12_feed_30 rfl rfl ?_
    refine aw_iload (j := 4) (M := M_X12_feed) (pc := 31) dX12_feed_31  rfl ?_
    refine aw_cvv (as := [(0, a4)]) (st := []) (M := M_X12_feed) (pc := 33) (f_X12_four  hF) dX12_feed_33 rfl (Or.inl ⟨_, _, _, rfl, rfl⟩) cy_X12_four ml_X12_118 (by decide) (by decide) (Nat.le_of_ble_eq_true rfl) (fun h8 hF => ?_)
    refine aw_aload_n (j := 0) (M := M_X12_feed) (pc := 36) dX12_feed_36 rfl rfl ?_
    refine aw_iload (j := 5) (M := M_X12_feed) (pc := 37) dX12_feed_37  rfl ?_
    refine aw_cvv (as := [(0, a5)]) (st := []) (M := M_X12_feed) (pc := 39) (f_X12_four  hF) dX12_feed_39 rfl (Or.inl ⟨_, _, _, rfl, rfl⟩) cy_X12_four ml_X12_118 (by decide) (by decide) (Nat.le_of_ble_eq_true rfl) (fun h10 hF => ?_)
    refine aw_aload_n (j := 0) (M := M_X12_feed) (pc := 42) dX12_feed_42 rfl rfl ?_
    refine gf_X12_115 (M := M_X12_feed) (pc := 43) rfl dX12_feed_43 rfl ?_
    exact aw_ireti (M := M_X12_feed) (pc := 46) dX12_feed_46 rfl ⟨_, rfl, hF⟩
  · have hF := hF.2 hc
    refine aw_iconst (M := M_X12_feed) (pc := 13) dX12_feed_13 ⟨by decide, by decide⟩ ?_
    exact aw_ireti (M := M_X12_feed) (pc := 14) dX12_feed_14 rfl ⟨_, rfl, hF⟩
abbrev M_X12_fetch : Hd := (cX12_fetch, 2, RX12, (some .int), (4, 108), sc0)
def F_X12_fetch (h : Mem) (a1 : Int) (Q : Int → Mem → Prop) : Prop :=
  (F_X12_isThing h a1 (fun r2 h1 => ((¬ (r2 = 0) → (F_X12_fetches h1 a1 (fun r4 h3 => ((r4 = 0 → (F_X12_refuse h3 7 (fun r6 h5 => Q r6 h5))) ∧ (¬ (r4 = 0) → (F_X12_thingOf h3 a1 4 (fun r8 h7 => (F_X12_gives h7 r8 (fun r10 h9 => Q r10 h9))))))))) ∧ (r2 = 0 → (F_X12_refuse h1 1 (fun r12 h11 => Q r12 h11))))))
set_option maxRecDepth 100000 in
set_option maxHeartbeats 4000000 in
theorem f_X12_fetch {h : Mem} {a1 : Int} {Q : Int → Mem → Prop}  (hF : F_X12_fetch h a1 Q) : Ct yX12_fetch cX12_fetch 2 (some .int) (4, 108) [vr 161, (0, a1)] h (qi Q) := by
  refine Ct.of np_RX12 (Nat.le_of_ble_eq_true rfl) ?_
  unfold F_X12_fetch at hF
  show AW M_X12_fetch 0 [(0, vr 161), (1, (0, a1))] [] h (qi Q)
  refine aw_aload_n (j := 0) (M := M_X12_fetch) (pc := 0) dX12_fetch_0 rfl rfl ?_
  refine aw_iload_n (j := 1) (M := M_X12_fetch) (pc := 1) dX12_fetch_1 rfl rfl ?_
  refine aw_cvi (as := [(0, a1)]) (st := []) (M := M_X12_fetch) (pc := 2) (f_X12_isThing  hF) dX12_fetch_2 rfl (Or.inl ⟨_, _, _, rfl, rfl⟩) cy_X12_isThing ml_X12_284 (by decide) (by decide) (Nat.le_of_ble_eq_true rfl) (fun r2 h1 hF => ?_)
  refine aw_if_ne (tgt := 14) (M := M_X12_fetch) (pc := 5) dX12_fetch_5 rfl (fun hc => ?_) (fun hc => ?_)
  · have hF := hF.1 hc
    refine aw_aload_n (j := 0) (M := M_X12_fetch) (pc := 14) dX12_fetch_14 rfl rfl ?_
    refine aw_iload_n (j := 1) (M := M_X12_fetch) (pc := 15) dX12_fetch_15 rfl rfl ?_
    refine aw_cvi (as := [(0, a1)]) (st := []) (M := M_X12_fetch) (pc := 16) (f_X12_fetches  hF) dX12_fetch_16 rfl (Or.inl ⟨_, _, _, rfl, rfl⟩) cy_X12_fetches ml_X12_332 (by decide) (by decide) (Nat.le_of_ble_eq_true rfl) (fun r4 h3 hF => ?_)
    refine aw_if_eq (tgt := 35) (M := M_X12_fetch) (pc := 19) dX12_fetch_19 rfl (fun hc => ?_) (fun hc => ?_)
    · have hF := hF.1 hc
      refine aw_aload_n (j := 0) (M := M_X12_fetch) (pc := 35) dX12_fetch_35 rfl rfl ?_
      refine aw_bipush (M := M_X12_fetch) (pc := 36) dX12_fetch_36 ⟨rfl, ⟨by decide, by decide⟩⟩ ?_
      refine aw_cvi (as := [(0, 7)]) (st := []) (M := M_X12_fetch) (pc := 38) (f_X12_refuse  hF) dX12_fetch_38 rfl (Or.inl ⟨_, _, _, rfl, rfl⟩) cy_X12_refuse ml_X12_91 (by decide) (by decide) (Nat.le_of_ble_eq_true rfl) (fun r6 h5 hF => ?_)
      exact aw_ireti (M := M_X12_fetch) (pc := 41) dX12_fetch_41 rfl ⟨_, rfl, hF⟩
    · have hF := hF.2 hc
      refine aw_aload_n (j := 0) (M := M_X12_fetch) (pc := 22) dX12_fetch_22 rfl rfl ?_
      refine aw_aload_n (j := 0) (M := M_X12_fetch) (pc := 23) dX12_fetch_23 rfl rfl ?_
      refine aw_iload_n (j := 1) (M := M_X12_fetch) (pc := 24) dX12_fetch_24 rfl rfl ?_
      refine aw_iconst (M := M_X12_fetch) (pc := 25) dX12_fetch_25 ⟨by decide, by decide⟩ ?_
      refine aw_cvi (as := [(0, a1), (0, 4)]) (st := [vr 161]) (M := M_X12_fetch) (pc := 26) (f_X12_thingOf  hF) dX12_fetch_26 rfl (Or.inl ⟨_, _, _, rfl, rfl⟩) cy_X12_thingOf ml_X12_263 (by decide) (by decide) (Nat.le_of_ble_eq_true rfl) (fun r8 h7 hF => ?_)
      refine aw_cvi (as := [(0, r8)]) (st := []) (M := M_X12_fetch) (pc := 29) (f_X12_gives  hF) dX12_fetch_29 rfl (Or.inl ⟨_, _, _, rfl, rfl⟩) cy_X12_gives ml_X12_95 (by decide) (by decide) (Nat.le_of_ble_eq_true rfl) (fun r10 h9 hF => ?_)
      refine aw_goto (tgt := 41) (M := M_X12_fetch) (pc := 32) dX12_fetch_32 rfl ?_
      exact aw_ireti (M := M_X12_fetch) (pc := 41) dX12_fetch_41 rfl ⟨_, rfl, hF⟩
  · have hF := hF.2 hc
    refine aw_aload_n (j := 0) (M := M_X12_fetch) (pc := 8) dX12_fetch_8 rfl rfl ?_
    refine aw_iconst (M := M_X12_fetch) (pc := 9) dX12_fetch_9 ⟨by decide, by decide⟩ ?_
    refine aw_cvi (as := [(0, 1)]) (st := []) (M := M_X12_fetch) (pc := 10) (f_X12_refuse  hF) dX12_fetch_10 rfl (Or.inl ⟨_, _, _, rfl, rfl⟩) cy_X12_refuse ml_X12_91 (by decide) (by decide) (Nat.le_of_ble_eq_true rfl) (fun r12 h11 hF => ?_)
    exact aw_ireti (M := M_X12_fetch) (pc := 13) dX12_fetch_13 rfl ⟨_, rfl, hF⟩
abbrev M_X12_groundMore : Hd := (cX12_groundMore, 3, RX12, (some .int), (3, 87), sc0)
def F_X12_groundMore (h : Mem) (a1 : Int) (a2 : Int) (Q : Int → Mem → Prop) : Prop :=
  (F_X12_millOf h a1 2 (fun r2 h1 => (F_X12_millOf h1 a2 2 (fun r4 h3 => (InR (r2 - r4) ∧ Q (r2 - r4) h3)))))
set_option maxRecDepth 100000 in
set_option maxHeartbeats 4000000 in
theorem f_X12_groundMore {h : Mem} {a1 : Int} {a2 : Int} {Q : Int → Mem → Prop}  (hF : F_X12_groundMore h a1 a2 Q) : Ct yX12_groundMore cX12_groundMore 3 (some .int) (3, 87) [vr 161, (0, a1), (0, a2)] h (qi Q) := by
  refine Ct.of np_RX12 (Nat.le_of_ble_eq_true rfl) ?_
  unfold F_X12_groundMore at hF
  show AW M_X12_groundMore 0 [(0, vr 161), (1, (0, a1)), (2, (0, a2))] [] h (qi Q)
  refine aw_aload_n (j := 0) (M := M_X12_groundMore) (pc := 0) dX12_groundMore_0 rfl rfl ?_
  refine aw_iload_n (j := 1) (M := M_X12_groundMore) (pc := 1) dX12_groundMore_1 rfl rfl ?_
  refine aw_iconst (M := M_X12_groundMore) (pc := 2) dX12_groundMore_2 ⟨by decide, by decide⟩ ?_
  refine aw_cvi (as := [(0, a1), (0, 2)]) (st := []) (M := M_X12_groundMore) (pc := 3) (f_X12_millOf  hF) dX12_groundMore_3 rfl (Or.inl ⟨_, _, _, rfl, rfl⟩) cy_X12_millOf ml_X12_290 (by decide) (by decide) (Nat.le_of_ble_eq_true rfl) (fun r2 h1 hF => ?_)
  refine aw_aload_n (j := 0) (M := M_X12_groundMore) (pc := 6) dX12_groundMore_6 rfl rfl ?_
  refine aw_iload_n (j := 2) (M := M_X12_groundMore) (pc := 7) dX12_groundMore_7 rfl rfl ?_
  refine aw_iconst (M := M_X12_groundMore) (pc := 8) dX12_groundMore_8 ⟨by decide, by decide⟩ ?_
  refine aw_cvi (as := [(0, a2), (0, 2)]) (st := [(0, r2)]) (M := M_X12_groundMore) (pc := 9) (f_X12_millOf  hF) dX12_groundMore_9 rfl (Or.inl ⟨_, _, _, rfl, rfl⟩) cy_X12_millOf ml_X12_290 (by decide) (by decide) (Nat.le_of_ble_eq_true rfl) (fun r4 h3 hF => ?_)
  obtain ⟨o5, hF⟩ := hF
  refine aw_isub (M := M_X12_groundMore) (pc := 12) dX12_groundMore_12 rfl o5 ?_
  exact aw_ireti (M := M_X12_groundMore) (pc := 13) dX12_groundMore_13 rfl ⟨_, rfl, hF⟩
abbrev M_X12_levelAt : Hd := (cX12_levelAt, 1, RX12, (some .int), (1, 45), sc0)
def F_X12_levelAt (h : Mem) (a1 : Int) (Q : Int → Mem → Prop) : Prop :=
  (InR (80 * a1) ∧ (InR (2688 + (80 * a1)) ∧ Q (2688 + (80 * a1)) h))
set_option maxRecDepth 100000 in
set_option maxHeartbeats 4000000 in
theorem f_X12_levelAt {h : Mem} {a1 : Int} {Q : Int → Mem → Prop}  (hF : F_X12_levelAt h a1 Q) : Ct yX12_levelAt cX12_levelAt 1 (some .int) (1, 45) [(0, a1)] h (qi Q) := by
  refine Ct.of np_RX12 (Nat.le_of_ble_eq_true rfl) ?_
  unfold F_X12_levelAt at hF
  show AW M_X12_levelAt 0 [(0, (0, a1))] [] h (qi Q)
  refine aw_sipush (M := M_X12_levelAt) (pc := 0) dX12_levelAt_0 ⟨rfl, ⟨by decide, by decide⟩⟩ ?_
  refine aw_bipush (M := M_X12_levelAt) (pc := 3) dX12_levelAt_3 ⟨rfl, ⟨by decide, by decide⟩⟩ ?_
  refine aw_iload_n (j := 0) (M := M_X12_levelAt) (pc := 5) dX12_levelAt_5 rfl rfl ?_
  obtain ⟨o1, hF⟩ := hF
  refine aw_imul (M := M_X12_levelAt) (pc := 6) dX12_levelAt_6 rfl o1 ?_
  obtain ⟨o2, hF⟩ := hF
  refine aw_iadd (M := M_X12_levelAt) (pc := 7) dX12_levelAt_7 rfl o2 ?_
  exact aw_ireti (M := M_X12_levelAt) (pc := 8) dX12_levelAt_8 rfl ⟨_, rfl, hF⟩
abbrev M_X12_settles : Hd := (cX12_settles, 4, RX12, none, (1, 45), sc0)
def J_X12_settles_50 (h : Mem) (v1 : Int) (v2 : Int) (Q : Mem → Prop) : Prop :=
  ((0 ≤ v1 ∧ v1 < 3) ∧ (∀ h6 : Mem, h6 = mset h 175 (v1).toNat v2 → (∀ h8 : Mem, h8 = mset h6 176 (v1).toNat (h6 174 (v1).toNat) → Q h8)))
set_option maxRecDepth 100000 in
set_option maxHeartbeats 4000000 in
theorem j_X12_settles_50 {h : Mem} {v1 : Int} {v2 : Int} {Q : Mem → Prop}  (hF : J_X12_settles_50 h v1 v2 Q) : AW M_X12_settles 50 [(0, vr 161), (1, (0, v1)), (2, (0, v2))] [] h (qv Q) := by
  unfold J_X12_settles_50 at hF
  refine aw_aload_n (j := 0) (M := M_X12_settles) (pc := 50) dX12_settles_50 rfl rfl ?_
  refine gf_X12_63 (M := M_X12_settles) (pc := 51) rfl dX12_settles_51 rfl (r := 175) rfl ?_
  refine aw_iload_n (j := 1) (M := M_X12_settles) (pc := 54) dX12_settles_54 rfl rfl ?_
  refine aw_iload_n (j := 2) (M := M_X12_settles) (pc := 55) dX12_settles_55 rfl rfl ?_
  obtain ⟨o5, hF⟩ := hF
  refine aw_iast (k := (v1).toNat) (M := M_X12_settles) (pc := 56) dX12_settles_56 rfl o5 rfl ?_
  obtain ⟨h6, eh6⟩ : ∃ y : Mem, y = mset h 175 (v1).toNat v2 := ⟨_, rfl⟩
  have hF := hF h6 eh6
  rw [← eh6]
  refine aw_aload_n (j := 0) (M := M_X12_settles) (pc := 57) dX12_settles_57 rfl rfl ?_
  refine gf_X12_66 (M := M_X12_settles) (pc := 58) rfl dX12_settles_58 rfl (r := 176) rfl ?_
  refine aw_iload_n (j := 1) (M := M_X12_settles) (pc := 61) dX12_settles_61 rfl rfl ?_
  refine aw_aload_n (j := 0) (M := M_X12_settles) (pc := 62) dX12_settles_62 rfl rfl ?_
  refine gf_X12_60 (M := M_X12_settles) (pc := 63) rfl dX12_settles_63 rfl (r := 174) rfl ?_
  refine aw_iload_n (j := 1) (M := M_X12_settles) (pc := 66) dX12_settles_66 rfl rfl ?_
  refine aw_iald (k := (v1).toNat) (M := M_X12_settles) (pc := 67) dX12_settles_67 rfl o5 rfl ?_
  refine aw_iast (k := (v1).toNat) (M := M_X12_settles) (pc := 68) dX12_settles_68 rfl o5 rfl ?_
  obtain ⟨h8, eh8⟩ : ∃ y : Mem, y = mset h6 176 (v1).toNat (h6 174 (v1).toNat) := ⟨_, rfl⟩
  have hF := hF h8 eh8
  rw [← eh8]
  exact aw_ret (M := M_X12_settles) (pc := 69) dX12_settles_69 rfl ⟨rfl, hF⟩
def F_X12_settles (h : Mem) (a1 : Int) (a2 : Int) (Q : Mem → Prop) : Prop :=
  ((0 ≤ a1 ∧ a1 < 3) ∧ ((¬ ((h 176 (a1).toNat) = (-1)) → ((¬ (((a1 : Int).tmod 2) = 0) → ((a2 < (h 175 (a1).toNat) → J_X12_settles_50 h a1 a2 Q) ∧ (¬ (a2 < (h 175 (a1).toNat)) → Q h))) ∧ (((a1 : Int).tmod 2) = 0 → (((h 175 (a1).toNat) < a2 → J_X12_settles_50 h a1 a2 Q) ∧ (¬ ((h 175 (a1).toNat) < a2) → Q h))))) ∧ ((h 176 (a1).toNat) = (-1) → J_X12_settles_50 h a1 a2 Q)))
set_option maxRecDepth 100000 in
set_option maxHeartbeats 4000000 in
theorem f_X12_settles {h : Mem} {a1 : Int} {a2 : Int} {Q : Mem → Prop}  (hF : F_X12_settles h a1 a2 Q) : Ct yX12_settles cX12_settles 4 none (1, 45) [vr 161, (0, a1), (0, a2)] h (qv Q) := by
  refine Ct.of np_RX12 (Nat.le_of_ble_eq_true rfl) ?_
  unfold F_X12_settles at hF
  show AW M_X12_settles 0 [(0, vr 161), (1, (0, a1)), (2, (0, a2))] [] h (qv Q)
  refine aw_aload_n (j := 0) (M := M_X12_settles) (pc := 0) dX12_settles_0 rfl rfl ?_
  refine gf_X12_66 (M := M_X12_settles) (pc := 1) rfl dX12_settles_1 rfl (r := 176) rfl ?_
  refine aw_iload_n (j := 1) (M := M_X12_settles) (pc := 4) dX12_settles_4 rfl rfl ?_
  obtain ⟨o2, hF⟩ := hF
  refine aw_iald (k := (a1).toNat) (M := M_X12_settles) (pc := 5) dX12_settles_5 rfl o2 rfl ?_
  refine aw_iconst (M := M_X12_settles) (pc := 6) dX12_settles_6 ⟨by decide, by decide⟩ ?_
  refine aw_icmp_ne (tgt := 14) (M := M_X12_settles) (pc := 7) dX12_settles_7 rfl (fun hc => ?_) (fun hc => ?_)
  · have hF := hF.1 hc
    refine aw_iconst (M := M_X12_settles) (pc := 14) dX12_settles_14 ⟨by decide, by decide⟩ ?_
    refine aw_istore_n (ls' := [(3, (0, 0)), (0, vr 161), (1, (0, a1)), (2, (0, a2))]) (M := M_X12_settles) (pc := 15) dX12_settles_15 rfl (by decide) rfl ?_
    refine aw_iload_n (j := 0) (M := M_X12_settles) (pc := 16) dX12_settles_16 rfl rfl ?_
    refine aw_if_ne (tgt := 50) (M := M_X12_settles) (pc := 17) dX12_settles_17 rfl (fun hc => absurd hc (by decide)) (fun hc => ?_)
    refine aw_iload_n (j := 2) (M := M_X12_settles) (pc := 20) dX12_settles_20 rfl rfl ?_
    refine aw_iconst (M := M_X12_settles) (pc := 21) dX12_settles_21 ⟨by decide, by decide⟩ ?_
    refine aw_irem (M := M_X12_settles) (pc := 22) dX12_settles_22 (by decide) ?_
    refine aw_if_ne (tgt := 39) (M := M_X12_settles) (pc := 23) dX12_settles_23 rfl (fun hc => ?_) (fun hc => ?_)
    · have hF := hF.1 hc
      refine aw_iload_n (j := 3) (M := M_X12_settles) (pc := 39) dX12_settles_39 rfl rfl ?_
      refine aw_aload_n (j := 1) (M := M_X12_settles) (pc := 40) dX12_settles_40 rfl rfl ?_
      refine gf_X12_63 (M := M_X12_settles) (pc := 41) rfl dX12_settles_41 rfl (r := 175) rfl ?_
      refine aw_iload_n (j := 2) (M := M_X12_settles) (pc := 44) dX12_settles_44 rfl rfl ?_
      refine aw_iald (k := (a1).toNat) (M := M_X12_settles) (pc := 45) dX12_settles_45 rfl o2 rfl ?_
      refine aw_icmp_lt (tgt := 50) (M := M_X12_settles) (pc := 46) dX12_settles_46 rfl (fun hc => ?_) (fun hc => ?_)
      · have hF := hF.1 hc
        exact aw_ls [1, 2, 3] rfl (j_X12_settles_50  hF)
      · have hF := hF.2 hc
        exact aw_ret (M := M_X12_settles) (pc := 49) dX12_settles_49 rfl ⟨rfl, hF⟩
    · have hF := hF.2 hc
      refine aw_iload_n (j := 3) (M := M_X12_settles) (pc := 26) dX12_settles_26 rfl rfl ?_
      refine aw_aload_n (j := 1) (M := M_X12_settles) (pc := 27) dX12_settles_27 rfl rfl ?_
      refine gf_X12_63 (M := M_X12_settles) (pc := 28) rfl dX12_settles_28 rfl (r := 175) rfl ?_
      refine aw_iload_n (j := 2) (M := M_X12_settles) (pc := 31) dX12_settles_31 rfl rfl ?_
      refine aw_iald (k := (a1).toNat) (M := M_X12_settles) (pc := 32) dX12_settles_32 rfl o2 rfl ?_
      refine aw_icmp_gt (tgt := 50) (M := M_X12_settles) (pc := 33) dX12_settles_33 rfl (fun hc => ?_) (fun hc => ?_)
      · have hF := hF.1 hc
        exact aw_ls [1, 2, 3] rfl (j_X12_settles_50  hF)
      · have hF := hF.2 hc
        refine aw_goto (tgt := 49) (M := M_X12_settles) (pc := 36) dX12_settles_36 rfl ?_
        exact aw_ret (M := M_X12_settles) (pc := 49) dX12_settles_49 rfl ⟨rfl, hF⟩
  · have hF := hF.2 hc
    refine aw_iconst (M := M_X12_settles) (pc := 10) dX12_settles_10 ⟨by decide, by decide⟩ ?_
    refine aw_goto (tgt := 15) (M := M_X12_settles) (pc := 11) dX12_settles_11 rfl ?_
    refine aw_istore_n (ls' := [(3, (0, 1)), (0, vr 161), (1, (0, a1)), (2, (0, a2))]) (M := M_X12_settles) (pc := 15) dX12_settles_15 rfl (by decide) rfl ?_
    refine aw_iload_n (j := 0) (M := M_X12_settles) (pc := 16) dX12_settles_16 rfl rfl ?_
    refine aw_if_ne (tgt := 50) (M := M_X12_settles) (pc := 17) dX12_settles_17 rfl (fun hc => ?_) (fun hc => absurd hc (by decide))
    exact aw_ls [1, 2, 3] rfl (j_X12_settles_50  hF)
abbrev M_X12_playing : Hd := (cX12_playing, 8, RX12, (some .int), (9, 220), sc0)
def L_X12_playing_54 (h : Mem) (v1 : Int) (v2 : Int) (v3 : Int) (v4 : Int) (v5 : Int) (v6 : Int) (Q : Int → Mem → Prop) : Prop := AW M_X12_playing 54 [(0, vr 161), (1, (0, v1)), (2, (0, v2)), (3, (0, v3)), (4, (0, v4)), (5, (0, v5)), (6, (0, v6))] [] h (qi Q)
def J_X12_playing_154 (h : Mem) (v1 : Int) (v2 : Int) (v3 : Int) (v4 : Int) (v5 : Int) (v6 : Int) (Q : Int → Mem → Prop) : Prop :=
  (F_X12_hoursGo h 6 (fun r41 h40 => (InR (v6 + 1) ∧ ((¬ ((v6 + 1) = v3) → (F_X12_levelAt h40 (v6 + 1) (fun r44 h43 => (F_X12_keeps h43 r44 (fun h45 => ((0 ≤ (v6 + 1) ∧ (v6 + 1) < 3) ∧ (∀ h48 : Mem, h48 = mset h45 174 (v6 + 1).toNat (-1) → (∀ h49 : Mem, h49 = mset h48 176 (v6 + 1).toNat (-1) → L_X12_playing_54 h49 v1 v2 v3 v4 v5 (v6 + 1) Q)))))))) ∧ ((v6 + 1) = v3 → (F_X12_groundMore h40 v1 v2 (fun r51 h50 => (InR (r51 - v4) ∧ (F_X12_settles h50 v6 (r51 - v4) (fun h53 => L_X12_playing_54 h53 v1 v2 v3 v4 v5 v6 Q))))))))))
set_option maxRecDepth 100000 in
set_option maxHeartbeats 4000000 in
theorem j_X12_playing_154 {h : Mem} {v1 : Int} {v2 : Int} {v3 : Int} {v4 : Int} {v5 : Int} {v6 : Int} {Q : Int → Mem → Prop}  (hF : J_X12_playing_154 h v1 v2 v3 v4 v5 v6 Q) : AW M_X12_playing 154 [(0, vr 161), (1, (0, v1)), (2, (0, v2)), (3, (0, v3)), (4, (0, v4)), (5, (0, v5)), (6, (0, v6))] [] h (qi Q) := by
  unfold J_X12_playing_154 at hF
  refine aw_aload_n (j := 0) (M := M_X12_playing) (pc := 154) dX12_playing_154 rfl rfl ?_
  refine aw_bipush (M := M_X12_playing) (pc := 155) dX12_playing_155 ⟨rfl, ⟨by decide, by decide⟩⟩ ?_
  refine aw_cvi (as := [(0, 6)]) (st := []) (M := M_X12_playing) (pc := 157) (f_X12_hoursGo  hF) dX12_playing_157 rfl (Or.inl ⟨_, _, _, rfl, rfl⟩) cy_X12_hoursGo ml_X12_320 (by decide) (by decide) (Nat.le_of_ble_eq_true rfl) (fun r41 h40 hF => ?_)
  refine aw_pop (M := M_X12_playing) (pc := 160) dX12_playing_160 rfl ?_
  refine aw_iload (j := 6) (M := M_X12_playing) (pc := 161) dX12_playing_161  rfl ?_
  refine aw_iconst (M := M_X12_playing) (pc := 163) dX12_playing_163 ⟨by decide, by decide⟩ ?_
  obtain ⟨o42, hF⟩ := hF
  refine aw_iadd (M := M_X12_playing) (pc := 164) dX12_playing_164 rfl o42 ?_
  refine aw_iload_n (j := 3) (M := M_X12_playing) (pc := 165) dX12_playing_165 rfl rfl ?_
  refine aw_icmp_ne (tgt := 187) (M := M_X12_playing) (pc := 166) dX12_playing_166 rfl (fun hc => ?_) (fun hc => ?_)
  · have hF := hF.1 hc
    refine aw_iinc (j := 6) (x := v6) (r := v6 + 1) (ls' := [(6, (0, v6 + 1)), (0, vr 161), (1, (0, v1)), (2, (0, v2)), (3, (0, v3)), (4, (0, v4)), (5, (0, v5))]) (M := M_X12_playing) (pc := 187) dX12_playing_187 rfl rfl o42 (by decide) rfl ?_
    refine aw_aload_n (j := 1) (M := M_X12_playing) (pc := 190) dX12_playing_190 rfl rfl ?_
    refine aw_iload (j := 0) (M := M_X12_playing) (pc := 191) dX12_playing_191  rfl ?_
    refine aw_csi (as := [(0, v6 + 1)]) (st := [vr 161]) (M := M_X12_playing) (pc := 193) (f_X12_levelAt  hF) dX12_playing_193 rfl cy_X12_levelAt ml_X12_428 (by decide) (by decide) (Nat.le_of_ble_eq_true rfl) (fun r44 h43 hF => ?_)
    refine aw_cvv (as := [(0, r44)]) (st := []) (M := M_X12_playing) (pc := 196) (f_X12_keeps  hF) dX12_playing_196 rfl (Or.inl ⟨_, _, _, rfl, rfl⟩) cy_X12_keeps ml_X12_350 (by decide) (by decide) (Nat.le_of_ble_eq_true rfl) (fun h45 hF => ?_)
    refine aw_aload_n (j := 1) (M := M_X12_playing) (pc := 199) dX12_playing_199 rfl rfl ?_
    refine gf_X12_60 (M := M_X12_playing) (pc := 200) rfl dX12_playing_200 rfl (r := 174) rfl ?_
    refine aw_iload (j := 0) (M := M_X12_playing) (pc := 203) dX12_playing_203  rfl ?_
    refine aw_iconst (M := M_X12_playing) (pc := 205) dX12_playing_205 ⟨by decide, by decide⟩ ?_
    obtain ⟨o47, hF⟩ := hF
    refine aw_iast (k := (v6 + 1).toNat) (M := M_X12_playing) (pc := 206) dX12_playing_206 rfl o47 rfl ?_
    obtain ⟨h48, eh48⟩ : ∃ y : Mem, y = mset h45 174 (v6 + 1).toNat (-1) := ⟨_, rfl⟩
    have hF := hF h48 eh48
    rw [← eh48]
    refine aw_aload_n (j := 1) (M := M_X12_playing) (pc := 207) dX12_playing_207 rfl rfl ?_
    refine gf_X12_66 (M := M_X12_playing) (pc := 208) rfl dX12_playing_208 rfl (r := 176) rfl ?_
    refine aw_iload (j := 0) (M := M_X12_playing) (pc := 211) dX12_playing_211  rfl ?_
    refine aw_iconst (M := M_X12_playing) (pc := 213) dX12_playing_213 ⟨by decide, by decide⟩ ?_
    refine aw_iast (k := (v6 + 1).toNat) (M := M_X12_playing) (pc := 214) dX12_playing_214 rfl o47 rfl ?_
    obtain ⟨h49, eh49⟩ : ∃ y : Mem, y = mset h48 176 (v6 + 1).toNat (-1) := ⟨_, rfl⟩
    have hF := hF h49 eh49
    rw [← eh49]
    refine aw_goto (tgt := 54) (M := M_X12_playing) (pc := 215) dX12_playing_215 rfl ?_
    exact aw_ls [1, 2, 3, 4, 5, 6, 0] rfl hF
  · have hF := hF.2 hc
    refine aw_aload_n (j := 0) (M := M_X12_playing) (pc := 169) dX12_playing_169 rfl rfl ?_
    refine aw_iload (j := 6) (M := M_X12_playing) (pc := 170) dX12_playing_170  rfl ?_
    refine aw_aload_n (j := 0) (M := M_X12_playing) (pc := 172) dX12_playing_172 rfl rfl ?_
    refine aw_iload_n (j := 1) (M := M_X12_playing) (pc := 173) dX12_playing_173 rfl rfl ?_
    refine aw_iload_n (j := 2) (M := M_X12_playing) (pc := 174) dX12_playing_174 rfl rfl ?_
    refine aw_cvi (as := [(0, v1), (0, v2)]) (st := [(0, v6), vr 161]) (M := M_X12_playing) (pc := 175) (f_X12_groundMore  hF) dX12_playing_175 rfl (Or.inl ⟨_, _, _, rfl, rfl⟩) cy_X12_groundMore ml_X12_425 (by decide) (by decide) (Nat.le_of_ble_eq_true rfl) (fun r51 h50 hF => ?_)
    refine aw_iload (j := 4) (M := M_X12_playing) (pc := 178) dX12_playing_178  rfl ?_
    obtain ⟨o52, hF⟩ := hF
    refine aw_isub (M := M_X12_playing) (pc := 180) dX12_playing_180 rfl o52 ?_
    refine aw_cvv (as := [(0, v6), (0, r51 - v4)]) (st := []) (M := M_X12_playing) (pc := 181) (f_X12_settles  hF) dX12_playing_181 rfl (Or.inl ⟨_, _, _, rfl, rfl⟩) cy_X12_settles ml_X12_431 (by decide) (by decide) (Nat.le_of_ble_eq_true rfl) (fun h53 hF => ?_)
    refine aw_goto (tgt := 215) (M := M_X12_playing) (pc := 184) dX12_playing_184 rfl ?_
    refine aw_goto (tgt := 54) (M := M_X12_playing) (pc := 215) dX12_playing_215 rfl ?_
    exact aw_ls [0, 1, 2, 3, 4, 5, 6] rfl hF
def B_X12_playing_54 (h : Mem) (v1 : Int) (v2 : Int) (v3 : Int) (v4 : Int) (v5 : Int) (v6 : Int) (Q : Int → Mem → Prop) : Prop :=
  (F_X12_levelAt h v6 (fun r14 h13 => (F_X12_restores h13 r14 (fun h15 => ((0 ≤ v6 ∧ v6 < 3) ∧ (InR ((h15 174 (v6).toNat) + 1) ∧ (∀ h20 : Mem, h20 = mset h15 174 (v6).toNat ((h15 174 (v6).toNat) + 1) → (∀ x22 : Int, x22 = h20 174 (v6).toNat → ((x22 ≤ v5 → ((v5 ≤ x22 → J_X12_playing_154 h20 v1 v2 v3 v4 v5 v6 Q) ∧ (¬ (v5 ≤ x22) → ((h20 162 2) ≠ 0 ∧ InR ((x22 : Int).tdiv (h20 162 2)) ∧ (F_X12_tosses h20 ((x22 : Int).tdiv (h20 162 2)) ((x22 : Int).tmod (h20 162 2)) (fun r28 h27 => ((¬ (r28 = 0) → J_X12_playing_154 h27 v1 v2 v3 v4 v5 v6 Q) ∧ (r28 = 0 → L_X12_playing_54 h27 v1 v2 v3 v4 v5 v6 Q)))))))) ∧ (¬ (x22 ≤ v5) → ((¬ (v6 = 0) → (InR (v6 + (-1)) ∧ (InR ((v6 + (-1)) + 1) ∧ ((0 ≤ ((v6 + (-1)) + 1) ∧ ((v6 + (-1)) + 1) < 3) ∧ (F_X12_settles h20 (v6 + (-1)) (h20 175 ((v6 + (-1)) + 1).toNat) (fun h33 => L_X12_playing_54 h33 v1 v2 v3 v4 v5 (v6 + (-1)) Q)))))) ∧ (v6 = 0 → (F_X12_levelAt h20 0 (fun r36 h35 => (F_X12_restores h35 r36 (fun h37 => Q (h37 175 0) h37))))))))))))))))
set_option maxRecDepth 100000 in
set_option maxHeartbeats 4000000 in
theorem l_X12_playing_54 {h : Mem} {v1 : Int} {v2 : Int} {v3 : Int} {v4 : Int} {v5 : Int} {v6 : Int} {Q : Int → Mem → Prop}  (hF : B_X12_playing_54 h v1 v2 v3 v4 v5 v6 Q) : L_X12_playing_54 h v1 v2 v3 v4 v5 v6 Q := by
  unfold B_X12_playing_54 at hF
  show AW M_X12_playing 54 [(0, vr 161), (1, (0, v1)), (2, (0, v2)), (3, (0, v3)), (4, (0, v4)), (5, (0, v5)), (6, (0, v6))] [] h (qi Q)
  refine aw_aload_n (j := 0) (M := M_X12_playing) (pc := 54) dX12_playing_54 rfl rfl ?_
  refine aw_iload (j := 6) (M := M_X12_playing) (pc := 55) dX12_playing_55  rfl ?_
  refine aw_csi (as := [(0, v6)]) (st := [vr 161]) (M := M_X12_playing) (pc := 57) (f_X12_levelAt  hF) dX12_playing_57 rfl cy_X12_levelAt ml_X12_428 (by decide) (by decide) (Nat.le_of_ble_eq_true rfl) (fun r14 h13 hF => ?_)
  refine aw_cvv (as := [(0, r14)]) (st := []) (M := M_X12_playing) (pc := 60) (f_X12_restores  hF) dX12_playing_60 rfl (Or.inl ⟨_, _, _, rfl, rfl⟩) cy_X12_restores ml_X12_353 (by decide) (by decide) (Nat.le_of_ble_eq_true rfl) (fun h15 hF => ?_)
  refine aw_aload_n (j := 0) (M := M_X12_playing) (pc := 63) dX12_playing_63 rfl rfl ?_
  refine gf_X12_60 (M := M_X12_playing) (pc := 64) rfl dX12_playing_64 rfl (r := 174) rfl ?_
  refine aw_iload (j := 6) (M := M_X12_playing) (pc := 67) dX12_playing_67  rfl ?_
  refine aw_dup2 (M := M_X12_playing) (pc := 69) dX12_playing_69 rfl rfl ?_
  obtain ⟨o18, hF⟩ := hF
  refine aw_iald (k := (v6).toNat) (M := M_X12_playing) (pc := 70) dX12_playing_70 rfl o18 rfl ?_
  refine aw_iconst (M := M_X12_playing) (pc := 71) dX12_playing_71 ⟨by decide, by decide⟩ ?_
  obtain ⟨o19, hF⟩ := hF
  refine aw_iadd (M := M_X12_playing) (pc := 72) dX12_playing_72 rfl o19 ?_
  refine aw_iast (k := (v6).toNat) (M := M_X12_playing) (pc := 73) dX12_playing_73 rfl o18 rfl ?_
  obtain ⟨h20, eh20⟩ : ∃ y : Mem, y = mset h15 174 (v6).toNat ((h15 174 (v6).toNat) + 1) := ⟨_, rfl⟩
  have hF := hF h20 eh20
  rw [← eh20]
  refine aw_aload_n (j := 0) (M := M_X12_playing) (pc := 74) dX12_playing_74 rfl rfl ?_
  refine gf_X12_60 (M := M_X12_playing) (pc := 75) rfl dX12_playing_75 rfl (r := 174) rfl ?_
  refine aw_iload (j := 6) (M := M_X12_playing) (pc := 78) dX12_playing_78  rfl ?_
  refine aw_iald (k := (v6).toNat) (M := M_X12_playing) (pc := 80) dX12_playing_80 rfl o18 rfl ?_
  obtain ⟨x22, ex22⟩ : ∃ y : Int, y = h20 174 (v6).toNat := ⟨_, rfl⟩
  have hF := hF x22 ex22
  rw [← ex22]
  refine aw_istore (ls' := [(7, (0, x22)), (0, vr 161), (1, (0, v1)), (2, (0, v2)), (3, (0, v3)), (4, (0, v4)), (5, (0, v5)), (6, (0, v6))]) (M := M_X12_playing) (pc := 81) dX12_playing_81  (by decide) rfl ?_
  refine aw_iload (j := 0) (M := M_X12_playing) (pc := 83) dX12_playing_83  rfl ?_
  refine aw_iload (j := 6) (M := M_X12_playing) (pc := 85) dX12_playing_85  rfl ?_
  refine aw_icmp_le (tgt := 119) (M := M_X12_playing) (pc := 87) dX12_playing_87 rfl (fun hc => ?_) (fun hc => ?_)
  · have hF := hF.1 hc
    refine aw_iload (j := 0) (M := M_X12_playing) (pc := 119) dX12_playing_119  rfl ?_
    refine aw_iload (j := 6) (M := M_X12_playing) (pc := 121) dX12_playing_121  rfl ?_
    refine aw_icmp_ge (tgt := 154) (M := M_X12_playing) (pc := 123) dX12_playing_123 rfl (fun hc => ?_) (fun hc => ?_)
    · have hF := hF.1 hc
      exact aw_ls [1, 2, 3, 4, 5, 6, 7] rfl (j_X12_playing_154  hF)
    · have hF := hF.2 hc
      refine aw_aload_n (j := 1) (M := M_X12_playing) (pc := 126) dX12_playing_126 rfl rfl ?_
      refine aw_iload (j := 0) (M := M_X12_playing) (pc := 127) dX12_playing_127  rfl ?_
      refine aw_aload_n (j := 1) (M := M_X12_playing) (pc := 129) dX12_playing_129 rfl rfl ?_
      refine gf_X12_7 (M := M_X12_playing) (pc := 130) rfl dX12_playing_130 rfl (r := 162) rfl ?_
      refine aw_iconst (M := M_X12_playing) (pc := 133) dX12_playing_133 ⟨by decide, by decide⟩ ?_
      refine aw_iald (k := 2) (M := M_X12_playing) (pc := 134) dX12_playing_134 rfl ⟨by decide, by decide⟩ rfl ?_
      obtain ⟨o24, hF⟩ := hF
      obtain ⟨o25, hF⟩ := hF
      refine aw_idiv (M := M_X12_playing) (pc := 135) dX12_playing_135 o24 o25 ?_
      refine aw_iload (j := 0) (M := M_X12_playing) (pc := 136) dX12_playing_136  rfl ?_
      refine aw_aload_n (j := 1) (M := M_X12_playing) (pc := 138) dX12_playing_138 rfl rfl ?_
      refine gf_X12_7 (M := M_X12_playing) (pc := 139) rfl dX12_playing_139 rfl (r := 162) rfl ?_
      refine aw_iconst (M := M_X12_playing) (pc := 142) dX12_playing_142 ⟨by decide, by decide⟩ ?_
      refine aw_iald (k := 2) (M := M_X12_playing) (pc := 143) dX12_playing_143 rfl ⟨by decide, by decide⟩ rfl ?_
      refine aw_irem (M := M_X12_playing) (pc := 144) dX12_playing_144 o24 ?_
      refine aw_cvi (as := [(0, (x22 : Int).tdiv (h20 162 2)), (0, (x22 : Int).tmod (h20 162 2))]) (st := []) (M := M_X12_playing) (pc := 145) (f_X12_tosses  hF) dX12_playing_145 rfl (Or.inl ⟨_, _, _, rfl, rfl⟩) cy_X12_tosses ml_X12_329 (by decide) (by decide) (Nat.le_of_ble_eq_true rfl) (fun r28 h27 hF => ?_)
      refine aw_if_ne (tgt := 154) (M := M_X12_playing) (pc := 148) dX12_playing_148 rfl (fun hc => ?_) (fun hc => ?_)
      · have hF := hF.1 hc
        exact aw_ls [1, 2, 3, 4, 5, 6, 7] rfl (j_X12_playing_154  hF)
      · have hF := hF.2 hc
        refine aw_goto (tgt := 54) (M := M_X12_playing) (pc := 151) dX12_playing_151 rfl ?_
        exact aw_ls [1, 2, 3, 4, 5, 6, 7] rfl hF
  · have hF := hF.2 hc
    refine aw_iload (j := 7) (M := M_X12_playing) (pc := 90) dX12_playing_90  rfl ?_
    refine aw_if_ne (tgt := 98) (M := M_X12_playing) (pc := 92) dX12_playing_92 rfl (fun hc => ?_) (fun hc => ?_)
    · have hF := hF.1 hc
      obtain ⟨o29, hF⟩ := hF
      refine aw_iinc (j := 7) (x := v6) (r := v6 + (-1)) (ls' := [(6, (0, v6 + (-1))), (7, (0, x22)), (0, vr 161), (1, (0, v1)), (2, (0, v2)), (3, (0, v3)), (4, (0, v4)), (5, (0, v5))]) (M := M_X12_playing) (pc := 98) dX12_playing_98 rfl rfl o29 (by decide) rfl ?_
      refine aw_aload_n (j := 2) (M := M_X12_playing) (pc := 101) dX12_playing_101 rfl rfl ?_
      refine aw_iload (j := 0) (M := M_X12_playing) (pc := 102) dX12_playing_102  rfl ?_
      refine aw_aload_n (j := 2) (M := M_X12_playing) (pc := 104) dX12_playing_104 rfl rfl ?_
      refine gf_X12_63 (M := M_X12_playing) (pc := 105) rfl dX12_playing_105 rfl (r := 175) rfl ?_
      refine aw_iload (j := 0) (M := M_X12_playing) (pc := 108) dX12_playing_108  rfl ?_
      refine aw_iconst (M := M_X12_playing) (pc := 110) dX12_playing_110 ⟨by decide, by decide⟩ ?_
      obtain ⟨o30, hF⟩ := hF
      refine aw_iadd (M := M_X12_playing) (pc := 111) dX12_playing_111 rfl o30 ?_
      obtain ⟨o32, hF⟩ := hF
      refine aw_iald (k := ((v6 + (-1)) + 1).toNat) (M := M_X12_playing) (pc := 112) dX12_playing_112 rfl o32 rfl ?_
      refine aw_cvv (as := [(0, v6 + (-1)), (0, h20 175 ((v6 + (-1)) + 1).toNat)]) (st := []) (M := M_X12_playing) (pc := 113) (f_X12_settles  hF) dX12_playing_113 rfl (Or.inl ⟨_, _, _, rfl, rfl⟩) cy_X12_settles ml_X12_431 (by decide) (by decide) (Nat.le_of_ble_eq_true rfl) (fun h33 hF => ?_)
      refine aw_goto (tgt := 54) (M := M_X12_playing) (pc := 116) dX12_playing_116 rfl ?_
      exact aw_ls [2, 3, 4, 5, 6, 7, 0] rfl hF
    · have hF := hF.2 hc
      refine aw_goto (tgt := 218) (M := M_X12_playing) (pc := 95) dX12_playing_95 rfl ?_
      refine aw_aload_n (j := 1) (M := M_X12_playing) (pc := 218) dX12_playing_218 rfl rfl ?_
      refine aw_iconst (M := M_X12_playing) (pc := 219) dX12_playing_219 ⟨by decide, by decide⟩ ?_
      refine aw_csi (as := [(0, 0)]) (st := [vr 161]) (M := M_X12_playing) (pc := 220) (f_X12_levelAt  hF) dX12_playing_220 rfl cy_X12_levelAt ml_X12_428 (by decide) (by decide) (Nat.le_of_ble_eq_true rfl) (fun r36 h35 hF => ?_)
      refine aw_cvv (as := [(0, r36)]) (st := []) (M := M_X12_playing) (pc := 223) (f_X12_restores  hF) dX12_playing_223 rfl (Or.inl ⟨_, _, _, rfl, rfl⟩) cy_X12_restores ml_X12_353 (by decide) (by decide) (Nat.le_of_ble_eq_true rfl) (fun h37 hF => ?_)
      refine aw_aload_n (j := 1) (M := M_X12_playing) (pc := 226) dX12_playing_226 rfl rfl ?_
      refine gf_X12_63 (M := M_X12_playing) (pc := 227) rfl dX12_playing_227 rfl (r := 175) rfl ?_
      refine aw_iconst (M := M_X12_playing) (pc := 230) dX12_playing_230 ⟨by decide, by decide⟩ ?_
      refine aw_iald (k := 0) (M := M_X12_playing) (pc := 231) dX12_playing_231 rfl ⟨by decide, by decide⟩ rfl ?_
      exact aw_ireti (M := M_X12_playing) (pc := 232) dX12_playing_232 rfl ⟨_, rfl, hF⟩
def F_X12_playing (h : Mem) (a1 : Int) (a2 : Int) (a3 : Int) (Q : Int → Mem → Prop) : Prop :=
  (F_X12_groundMore h a1 a2 (fun r2 h1 => ((¬ (a3 = 0) → (InR ((h1 162 0) * (h1 162 2)) ∧ (∀ x6 : Int, x6 = (h1 162 0) * (h1 162 2) → (F_X12_levelAt h1 0 (fun r8 h7 => (F_X12_keeps h7 r8 (fun h9 => (∀ h11 : Mem, h11 = mset h9 174 0 (-1) → (∀ h12 : Mem, h12 = mset h11 176 0 (-1) → L_X12_playing_54 h12 a1 a2 a3 r2 x6 0 Q))))))))) ∧ (a3 = 0 → Q 0 h1))))
set_option maxRecDepth 100000 in
set_option maxHeartbeats 4000000 in
theorem f_X12_playing {h : Mem} {a1 : Int} {a2 : Int} {a3 : Int} {Q : Int → Mem → Prop}  (hF : F_X12_playing h a1 a2 a3 Q) : Ct yX12_playing cX12_playing 8 (some .int) (9, 220) [vr 161, (0, a1), (0, a2), (0, a3)] h (qi Q) := by
  refine Ct.of np_RX12 (Nat.le_of_ble_eq_true rfl) ?_
  unfold F_X12_playing at hF
  show AW M_X12_playing 0 [(0, vr 161), (1, (0, a1)), (2, (0, a2)), (3, (0, a3))] [] h (qi Q)
  refine aw_aload_n (j := 0) (M := M_X12_playing) (pc := 0) dX12_playing_0 rfl rfl ?_
  refine aw_iload_n (j := 1) (M := M_X12_playing) (pc := 1) dX12_playing_1 rfl rfl ?_
  refine aw_iload_n (j := 2) (M := M_X12_playing) (pc := 2) dX12_playing_2 rfl rfl ?_
  refine aw_cvi (as := [(0, a1), (0, a2)]) (st := []) (M := M_X12_playing) (pc := 3) (f_X12_groundMore  hF) dX12_playing_3 rfl (Or.inl ⟨_, _, _, rfl, rfl⟩) cy_X12_groundMore ml_X12_425 (by decide) (by decide) (Nat.le_of_ble_eq_true rfl) (fun r2 h1 hF => ?_)
  refine aw_istore (ls' := [(4, (0, r2)), (0, vr 161), (1, (0, a1)), (2, (0, a2)), (3, (0, a3))]) (M := M_X12_playing) (pc := 6) dX12_playing_6  (by decide) rfl ?_
  refine aw_iload_n (j := 4) (M := M_X12_playing) (pc := 8) dX12_playing_8 rfl rfl ?_
  refine aw_if_ne (tgt := 14) (M := M_X12_playing) (pc := 9) dX12_playing_9 rfl (fun hc => ?_) (fun hc => ?_)
  · have hF := hF.1 hc
    refine aw_aload_n (j := 1) (M := M_X12_playing) (pc := 14) dX12_playing_14 rfl rfl ?_
    refine gf_X12_7 (M := M_X12_playing) (pc := 15) rfl dX12_playing_15 rfl (r := 162) rfl ?_
    refine aw_iconst (M := M_X12_playing) (pc := 18) dX12_playing_18 ⟨by decide, by decide⟩ ?_
    refine aw_iald (k := 0) (M := M_X12_playing) (pc := 19) dX12_playing_19 rfl ⟨by decide, by decide⟩ rfl ?_
    refine aw_aload_n (j := 1) (M := M_X12_playing) (pc := 20) dX12_playing_20 rfl rfl ?_
    refine gf_X12_7 (M := M_X12_playing) (pc := 21) rfl dX12_playing_21 rfl (r := 162) rfl ?_
    refine aw_iconst (M := M_X12_playing) (pc := 24) dX12_playing_24 ⟨by decide, by decide⟩ ?_
    refine aw_iald (k := 2) (M := M_X12_playing) (pc := 25) dX12_playing_25 rfl ⟨by decide, by decide⟩ rfl ?_
    obtain ⟨o5, hF⟩ := hF
    refine aw_imul (M := M_X12_playing) (pc := 26) dX12_playing_26 rfl o5 ?_
    obtain ⟨x6, ex6⟩ : ∃ y : Int, y = (h1 162 0) * (h1 162 2) := ⟨_, rfl⟩
    have hF := hF x6 ex6
    rw [← ex6]
    refine aw_istore (ls' := [(5, (0, x6)), (4, (0, r2)), (0, vr 161), (1, (0, a1)), (2, (0, a2)), (3, (0, a3))]) (M := M_X12_playing) (pc := 27) dX12_playing_27  (by decide) rfl ?_
    refine aw_iconst (M := M_X12_playing) (pc := 29) dX12_playing_29 ⟨by decide, by decide⟩ ?_
    refine aw_istore (ls' := [(6, (0, 0)), (5, (0, x6)), (4, (0, r2)), (0, vr 161), (1, (0, a1)), (2, (0, a2)), (3, (0, a3))]) (M := M_X12_playing) (pc := 30) dX12_playing_30  (by decide) rfl ?_
    refine aw_aload_n (j := 3) (M := M_X12_playing) (pc := 32) dX12_playing_32 rfl rfl ?_
    refine aw_iconst (M := M_X12_playing) (pc := 33) dX12_playing_33 ⟨by decide, by decide⟩ ?_
    refine aw_csi (as := [(0, 0)]) (st := [vr 161]) (M := M_X12_playing) (pc := 34) (f_X12_levelAt  hF) dX12_playing_34 rfl cy_X12_levelAt ml_X12_428 (by decide) (by decide) (Nat.le_of_ble_eq_true rfl) (fun r8 h7 hF => ?_)
    refine aw_cvv (as := [(0, r8)]) (st := []) (M := M_X12_playing) (pc := 37) (f_X12_keeps  hF) dX12_playing_37 rfl (Or.inl ⟨_, _, _, rfl, rfl⟩) cy_X12_keeps ml_X12_350 (by decide) (by decide) (Nat.le_of_ble_eq_true rfl) (fun h9 hF => ?_)
    refine aw_aload_n (j := 3) (M := M_X12_playing) (pc := 40) dX12_playing_40 rfl rfl ?_
    refine gf_X12_60 (M := M_X12_playing) (pc := 41) rfl dX12_playing_41 rfl (r := 174) rfl ?_
    refine aw_iconst (M := M_X12_playing) (pc := 44) dX12_playing_44 ⟨by decide, by decide⟩ ?_
    refine aw_iconst (M := M_X12_playing) (pc := 45) dX12_playing_45 ⟨by decide, by decide⟩ ?_
    refine aw_iast (k := 0) (M := M_X12_playing) (pc := 46) dX12_playing_46 rfl ⟨by decide, by decide⟩ rfl ?_
    obtain ⟨h11, eh11⟩ : ∃ y : Mem, y = mset h9 174 0 (-1) := ⟨_, rfl⟩
    have hF := hF h11 eh11
    rw [← eh11]
    refine aw_aload_n (j := 3) (M := M_X12_playing) (pc := 47) dX12_playing_47 rfl rfl ?_
    refine gf_X12_66 (M := M_X12_playing) (pc := 48) rfl dX12_playing_48 rfl (r := 176) rfl ?_
    refine aw_iconst (M := M_X12_playing) (pc := 51) dX12_playing_51 ⟨by decide, by decide⟩ ?_
    refine aw_iconst (M := M_X12_playing) (pc := 52) dX12_playing_52 ⟨by decide, by decide⟩ ?_
    refine aw_iast (k := 0) (M := M_X12_playing) (pc := 53) dX12_playing_53 rfl ⟨by decide, by decide⟩ rfl ?_
    obtain ⟨h12, eh12⟩ : ∃ y : Mem, y = mset h11 176 0 (-1) := ⟨_, rfl⟩
    have hF := hF h12 eh12
    rw [← eh12]
    exact aw_ls [3, 4, 5, 6, 2, 1, 0] rfl hF
  · have hF := hF.2 hc
    refine aw_iconst (M := M_X12_playing) (pc := 12) dX12_playing_12 ⟨by decide, by decide⟩ ?_
    exact aw_ireti (M := M_X12_playing) (pc := 13) dX12_playing_13 rfl ⟨_, rfl, hF⟩
abbrev M_X12_game : Hd := (cX12_game, 4, RX12, (some .int), (10, 247), sc0)
def F_X12_game (h : Mem) (a1 : Int) (a2 : Int) (a3 : Int) (Q : Int → Mem → Prop) : Prop :=
  (F_X12_areTwo h a1 a2 (fun r2 h1 => ((r2 = 0 → (F_X12_refuse h1 1 (fun r4 h3 => Q r4 h3))) ∧ (¬ (r2 = 0) → (F_X12_isFrom h1 a3 0 2 (fun r6 h5 => ((¬ (r6 = 0) → (F_X12_playing h5 a1 a2 a3 (fun r8 h7 => (F_X12_gives h7 r8 (fun r10 h9 => Q r10 h9))))) ∧ (r6 = 0 → (F_X12_refuse h5 1 (fun r12 h11 => Q r12 h11))))))))))
set_option maxRecDepth 100000 in
set_option maxHeartbeats 4000000 in
theorem f_X12_game {h : Mem} {a1 : Int} {a2 : Int} {a3 : Int} {Q : Int → Mem → Prop}  (hF : F_X12_game h a1 a2 a3 Q) : Ct yX12_game cX12_game 4 (some .int) (10, 247) [vr 161, (0, a1), (0, a2), (0, a3)] h (qi Q) := by
  refine Ct.of np_RX12 (Nat.le_of_ble_eq_true rfl) ?_
  unfold F_X12_game at hF
  show AW M_X12_game 0 [(0, vr 161), (1, (0, a1)), (2, (0, a2)), (3, (0, a3))] [] h (qi Q)
  refine aw_aload_n (j := 0) (M := M_X12_game) (pc := 0) dX12_game_0 rfl rfl ?_
  refine aw_iload_n (j := 1) (M := M_X12_game) (pc := 1) dX12_game_1 rfl rfl ?_
  refine aw_iload_n (j := 2) (M := M_X12_game) (pc := 2) dX12_game_2 rfl rfl ?_
  refine aw_cvi (as := [(0, a1), (0, a2)]) (st := []) (M := M_X12_game) (pc := 3) (f_X12_areTwo  hF) dX12_game_3 rfl (Or.inl ⟨_, _, _, rfl, rfl⟩) cy_X12_areTwo ml_X12_434 (by decide) (by decide) (Nat.le_of_ble_eq_true rfl) (fun r2 h1 hF => ?_)
  refine aw_if_eq (tgt := 21) (M := M_X12_game) (pc := 6) dX12_game_6 rfl (fun hc => ?_) (fun hc => ?_)
  · have hF := hF.1 hc
    refine aw_aload_n (j := 0) (M := M_X12_game) (pc := 21) dX12_game_21 rfl rfl ?_
    refine aw_iconst (M := M_X12_game) (pc := 22) dX12_game_22 ⟨by decide, by decide⟩ ?_
    refine aw_cvi (as := [(0, 1)]) (st := []) (M := M_X12_game) (pc := 23) (f_X12_refuse  hF) dX12_game_23 rfl (Or.inl ⟨_, _, _, rfl, rfl⟩) cy_X12_refuse ml_X12_91 (by decide) (by decide) (Nat.le_of_ble_eq_true rfl) (fun r4 h3 hF => ?_)
    exact aw_ireti (M := M_X12_game) (pc := 26) dX12_game_26 rfl ⟨_, rfl, hF⟩
  · have hF := hF.2 hc
    refine aw_iload_n (j := 3) (M := M_X12_game) (pc := 9) dX12_game_9 rfl rfl ?_
    refine aw_i2l (M := M_X12_game) (pc := 10) dX12_game_10 ?_
    refine aw_lconst (v := 0) (M := M_X12_game) (pc := 11) dX12_game_11 ⟨rfl, ⟨by decide, by decide⟩⟩ ?_
    refine aw_ldc2 (v := 2) (M := M_X12_game) (pc := 12) dX12_game_12 kl_X12_339 ⟨by decide, by decide⟩ ?_
    refine aw_csi (as := [(1, a3), (1, 0), (1, 2)]) (st := []) (M := M_X12_game) (pc := 15) (f_X12_isFrom  hF) dX12_game_15 rfl cy_X12_isFrom ml_X12_316 (by decide) (by decide) (Nat.le_of_ble_eq_true rfl) (fun r6 h5 hF => ?_)
    refine aw_if_ne (tgt := 27) (M := M_X12_game) (pc := 18) dX12_game_18 rfl (fun hc => ?_) (fun hc => ?_)
    · have hF := hF.1 hc
      refine aw_aload_n (j := 0) (M := M_X12_game) (pc := 27) dX12_game_27 rfl rfl ?_
      refine aw_aload_n (j := 0) (M := M_X12_game) (pc := 28) dX12_game_28 rfl rfl ?_
      refine aw_iload_n (j := 1) (M := M_X12_game) (pc := 29) dX12_game_29 rfl rfl ?_
      refine aw_iload_n (j := 2) (M := M_X12_game) (pc := 30) dX12_game_30 rfl rfl ?_
      refine aw_iload_n (j := 3) (M := M_X12_game) (pc := 31) dX12_game_31 rfl rfl ?_
      refine aw_cvi (as := [(0, a1), (0, a2), (0, a3)]) (st := [vr 161]) (M := M_X12_game) (pc := 32) (f_X12_playing  hF) dX12_game_32 rfl (Or.inl ⟨_, _, _, rfl, rfl⟩) cy_X12_playing ml_X12_437 (by decide) (by decide) (Nat.le_of_ble_eq_true rfl) (fun r8 h7 hF => ?_)
      refine aw_cvi (as := [(0, r8)]) (st := []) (M := M_X12_game) (pc := 35) (f_X12_gives  hF) dX12_game_35 rfl (Or.inl ⟨_, _, _, rfl, rfl⟩) cy_X12_gives ml_X12_95 (by decide) (by decide) (Nat.le_of_ble_eq_true rfl) (fun r10 h9 hF => ?_)
      exact aw_ireti (M := M_X12_game) (pc := 38) dX12_game_38 rfl ⟨_, rfl, hF⟩
    · have hF := hF.2 hc
      refine aw_aload_n (j := 0) (M := M_X12_game) (pc := 21) dX12_game_21 rfl rfl ?_
      refine aw_iconst (M := M_X12_game) (pc := 22) dX12_game_22 ⟨by decide, by decide⟩ ?_
      refine aw_cvi (as := [(0, 1)]) (st := []) (M := M_X12_game) (pc := 23) (f_X12_refuse  hF) dX12_game_23 rfl (Or.inl ⟨_, _, _, rfl, rfl⟩) cy_X12_refuse ml_X12_91 (by decide) (by decide) (Nat.le_of_ble_eq_true rfl) (fun r12 h11 hF => ?_)
      exact aw_ireti (M := M_X12_game) (pc := 26) dX12_game_26 rfl ⟨_, rfl, hF⟩
theorem so_X12_glenPart_78 {x : Int} (h0 : ¬ x = 0) (h1 : ¬ x = 1) (h2 : ¬ x = 2) (h3 : ¬ x = 3) (h4 : ¬ x = 4) : x < 0 ∨ 4 < x := by omega
abbrev M_X12_glenPart : Hd := (cX12_glenPart, 3, RX12, (some .boolean), (9, 222), sc0)
def J_X12_glenPart_175 (h : Mem) (v2 : Int) (Q : Int → Mem → Prop) : Prop :=
  ((v2 = 0 → Q 0 h) ∧ (¬ (v2 = 0) → (F_X12_wantSign h 59 (fun r28 h27 => ((r28 = 0 → Q 0 h27) ∧ (¬ (r28 = 0) → Q 1 h27))))))
set_option maxRecDepth 100000 in
set_option maxHeartbeats 4000000 in
theorem j_X12_glenPart_175 {h : Mem} {v2 : Int} {Q : Int → Mem → Prop}  (hF : J_X12_glenPart_175 h v2 Q) : AW M_X12_glenPart 175 [(0, vr 161), (2, (0, v2))] [] h (qi Q) := by
  unfold J_X12_glenPart_175 at hF
  refine aw_iload_n (j := 1) (M := M_X12_glenPart) (pc := 175) dX12_glenPart_175 rfl rfl ?_
  refine aw_if_eq (tgt := 192) (M := M_X12_glenPart) (pc := 176) dX12_glenPart_176 rfl (fun hc => ?_) (fun hc => ?_)
  · have hF := hF.1 hc
    refine aw_iconst (M := M_X12_glenPart) (pc := 192) dX12_glenPart_192 ⟨by decide, by decide⟩ ?_
    exact aw_iretz (M := M_X12_glenPart) (pc := 193) dX12_glenPart_193 rfl (Or.inl rfl) ⟨_, rfl, hF⟩
  · have hF := hF.2 hc
    refine aw_aload_n (j := 0) (M := M_X12_glenPart) (pc := 179) dX12_glenPart_179 rfl rfl ?_
    refine aw_bipush (M := M_X12_glenPart) (pc := 180) dX12_glenPart_180 ⟨rfl, ⟨by decide, by decide⟩⟩ ?_
    refine aw_cvi (as := [(0, 59)]) (st := []) (M := M_X12_glenPart) (pc := 182) (f_X12_wantSign  hF) dX12_glenPart_182 rfl (Or.inl ⟨_, _, _, rfl, rfl⟩) cy_X12_wantSign ml_X12_229 (by decide) (by decide) (Nat.le_of_ble_eq_true rfl) (fun r28 h27 hF => ?_)
    refine aw_if_eq (tgt := 192) (M := M_X12_glenPart) (pc := 185) dX12_glenPart_185 rfl (fun hc => ?_) (fun hc => ?_)
    · have hF := hF.1 hc
      refine aw_iconst (M := M_X12_glenPart) (pc := 192) dX12_glenPart_192 ⟨by decide, by decide⟩ ?_
      exact aw_iretz (M := M_X12_glenPart) (pc := 193) dX12_glenPart_193 rfl (Or.inl rfl) ⟨_, rfl, hF⟩
    · have hF := hF.2 hc
      refine aw_iconst (M := M_X12_glenPart) (pc := 188) dX12_glenPart_188 ⟨by decide, by decide⟩ ?_
      refine aw_goto (tgt := 193) (M := M_X12_glenPart) (pc := 189) dX12_glenPart_189 rfl ?_
      exact aw_iretz (M := M_X12_glenPart) (pc := 193) dX12_glenPart_193 rfl (Or.inr rfl) ⟨_, rfl, hF⟩
def J_X12_glenPart_77 (h : Mem) (v1 : Int) (Q : Int → Mem → Prop) : Prop :=
  ((v1 = 0 → (F_X12_number h 1794 2 16 (fun r16 h15 => J_X12_glenPart_175 h15 r16 Q))) ∧ ((v1 = 1 → (F_X12_number h 1795 1 40 (fun r18 h17 => J_X12_glenPart_175 h17 r18 Q))) ∧ ((v1 = 2 → (F_X12_number h 1796 0 16 (fun r20 h19 => J_X12_glenPart_175 h19 r20 Q))) ∧ ((v1 = 3 → (F_X12_aStream h  (fun r22 h21 => J_X12_glenPart_175 h21 r22 Q))) ∧ ((v1 = 4 → (F_X12_aThing h  (fun r24 h23 => J_X12_glenPart_175 h23 r24 Q))) ∧ ((v1 < 0 ∨ 4 < v1) → (F_X12_aMill h  (fun r26 h25 => J_X12_glenPart_175 h25 r26 Q))))))))
set_option maxRecDepth 100000 in
set_option maxHeartbeats 4000000 in
theorem j_X12_glenPart_77 {h : Mem} {v1 : Int} {Q : Int → Mem → Prop}  (hF : J_X12_glenPart_77 h v1 Q) : AW M_X12_glenPart 77 [(0, vr 161), (1, (0, v1))] [] h (qi Q) := by
  unfold J_X12_glenPart_77 at hF
  refine aw_iload_n (j := 1) (M := M_X12_glenPart) (pc := 77) dX12_glenPart_77 rfl rfl ?_
  by_cases hc : v1 = 0
  · have hF := hF.1 hc
    refine aw_tableIn (tgt := 112) (M := M_X12_glenPart) (pc := 78) dX12_glenPart_78 (by rw [hc]; decide) (by rw [hc]; decide) (off := 34) (by rw [hc]; rfl) rfl ?_
    refine aw_aload_n (j := 0) (M := M_X12_glenPart) (pc := 112) dX12_glenPart_112 rfl rfl ?_
    refine aw_sipush (M := M_X12_glenPart) (pc := 113) dX12_glenPart_113 ⟨rfl, ⟨by decide, by decide⟩⟩ ?_
    refine aw_iconst (M := M_X12_glenPart) (pc := 116) dX12_glenPart_116 ⟨by decide, by decide⟩ ?_
    refine aw_bipush (M := M_X12_glenPart) (pc := 117) dX12_glenPart_117 ⟨rfl, ⟨by decide, by decide⟩⟩ ?_
    refine aw_cvi (as := [(0, 1794), (0, 2), (0, 16)]) (st := []) (M := M_X12_glenPart) (pc := 119) (f_X12_number  hF) dX12_glenPart_119 rfl (Or.inl ⟨_, _, _, rfl, rfl⟩) cy_X12_number ml_X12_193 (by decide) (by decide) (Nat.le_of_ble_eq_true rfl) (fun r16 h15 hF => ?_)
    refine aw_istore_n (ls' := [(2, (0, r16)), (0, vr 161), (1, (0, v1))]) (M := M_X12_glenPart) (pc := 122) dX12_glenPart_122 rfl (by decide) rfl ?_
    refine aw_goto (tgt := 175) (M := M_X12_glenPart) (pc := 123) dX12_glenPart_123 rfl ?_
    exact aw_ls [1, 0] rfl (j_X12_glenPart_175  hF)
  have hF := hF.2
  have hc0 := hc
  by_cases hc : v1 = 1
  · have hF := hF.1 hc
    refine aw_tableIn (tgt := 126) (M := M_X12_glenPart) (pc := 78) dX12_glenPart_78 (by rw [hc]; decide) (by rw [hc]; decide) (off := 48) (by rw [hc]; rfl) rfl ?_
    refine aw_aload_n (j := 0) (M := M_X12_glenPart) (pc := 126) dX12_glenPart_126 rfl rfl ?_
    refine aw_sipush (M := M_X12_glenPart) (pc := 127) dX12_glenPart_127 ⟨rfl, ⟨by decide, by decide⟩⟩ ?_
    refine aw_iconst (M := M_X12_glenPart) (pc := 130) dX12_glenPart_130 ⟨by decide, by decide⟩ ?_
    refine aw_bipush (M := M_X12_glenPart) (pc := 131) dX12_glenPart_131 ⟨rfl, ⟨by decide, by decide⟩⟩ ?_
    refine aw_cvi (as := [(0, 1795), (0, 1), (0, 40)]) (st := []) (M := M_X12_glenPart) (pc := 133) (f_X12_number  hF) dX12_glenPart_133 rfl (Or.inl ⟨_, _, _, rfl, rfl⟩) cy_X12_number ml_X12_193 (by decide) (by decide) (Nat.le_of_ble_eq_true rfl) (fun r18 h17 hF => ?_)
    refine aw_istore_n (ls' := [(2, (0, r18)), (0, vr 161), (1, (0, v1))]) (M := M_X12_glenPart) (pc := 136) dX12_glenPart_136 rfl (by decide) rfl ?_
    refine aw_goto (tgt := 175) (M := M_X12_glenPart) (pc := 137) dX12_glenPart_137 rfl ?_
    exact aw_ls [1, 0] rfl (j_X12_glenPart_175  hF)
  have hF := hF.2
  have hc1 := hc
  by_cases hc : v1 = 2
  · have hF := hF.1 hc
    refine aw_tableIn (tgt := 140) (M := M_X12_glenPart) (pc := 78) dX12_glenPart_78 (by rw [hc]; decide) (by rw [hc]; decide) (off := 62) (by rw [hc]; rfl) rfl ?_
    refine aw_aload_n (j := 0) (M := M_X12_glenPart) (pc := 140) dX12_glenPart_140 rfl rfl ?_
    refine aw_sipush (M := M_X12_glenPart) (pc := 141) dX12_glenPart_141 ⟨rfl, ⟨by decide, by decide⟩⟩ ?_
    refine aw_iconst (M := M_X12_glenPart) (pc := 144) dX12_glenPart_144 ⟨by decide, by decide⟩ ?_
    refine aw_bipush (M := M_X12_glenPart) (pc := 145) dX12_glenPart_145 ⟨rfl, ⟨by decide, by decide⟩⟩ ?_
    refine aw_cvi (as := [(0, 1796), (0, 0), (0, 16)]) (st := []) (M := M_X12_glenPart) (pc := 147) (f_X12_number  hF) dX12_glenPart_147 rfl (Or.inl ⟨_, _, _, rfl, rfl⟩) cy_X12_number ml_X12_193 (by decide) (by decide) (Nat.le_of_ble_eq_true rfl) (fun r20 h19 hF => ?_)
    refine aw_istore_n (ls' := [(2, (0, r20)), (0, vr 161), (1, (0, v1))]) (M := M_X12_glenPart) (pc := 150) dX12_glenPart_150 rfl (by decide) rfl ?_
    refine aw_goto (tgt := 175) (M := M_X12_glenPart) (pc := 151) dX12_glenPart_151 rfl ?_
    exact aw_ls [1, 0] rfl (j_X12_glenPart_175  hF)
  have hF := hF.2
  have hc2 := hc
  by_cases hc : v1 = 3
  · have hF := hF.1 hc
    refine aw_tableIn (tgt := 154) (M := M_X12_glenPart) (pc := 78) dX12_glenPart_78 (by rw [hc]; decide) (by rw [hc]; decide) (off := 76) (by rw [hc]; rfl) rfl ?_
    refine aw_aload_n (j := 0) (M := M_X12_glenPart) (pc := 154) dX12_glenPart_154 rfl rfl ?_
    refine aw_cvi (as := []) (st := []) (M := M_X12_glenPart) (pc := 155) (f_X12_aStream  hF) dX12_glenPart_155 rfl (Or.inl ⟨_, _, _, rfl, rfl⟩) cy_X12_aStream ml_X12_219 (by decide) (by decide) (Nat.le_of_ble_eq_true rfl) (fun r22 h21 hF => ?_)
    refine aw_istore_n (ls' := [(2, (0, r22)), (0, vr 161), (1, (0, v1))]) (M := M_X12_glenPart) (pc := 158) dX12_glenPart_158 rfl (by decide) rfl ?_
    refine aw_goto (tgt := 175) (M := M_X12_glenPart) (pc := 159) dX12_glenPart_159 rfl ?_
    exact aw_ls [1, 0] rfl (j_X12_glenPart_175  hF)
  have hF := hF.2
  have hc3 := hc
  by_cases hc : v1 = 4
  · have hF := hF.1 hc
    refine aw_tableIn (tgt := 162) (M := M_X12_glenPart) (pc := 78) dX12_glenPart_78 (by rw [hc]; decide) (by rw [hc]; decide) (off := 84) (by rw [hc]; rfl) rfl ?_
    refine aw_aload_n (j := 0) (M := M_X12_glenPart) (pc := 162) dX12_glenPart_162 rfl rfl ?_
    refine aw_cvi (as := []) (st := []) (M := M_X12_glenPart) (pc := 163) (f_X12_aThing  hF) dX12_glenPart_163 rfl (Or.inl ⟨_, _, _, rfl, rfl⟩) cy_X12_aThing ml_X12_223 (by decide) (by decide) (Nat.le_of_ble_eq_true rfl) (fun r24 h23 hF => ?_)
    refine aw_istore_n (ls' := [(2, (0, r24)), (0, vr 161), (1, (0, v1))]) (M := M_X12_glenPart) (pc := 166) dX12_glenPart_166 rfl (by decide) rfl ?_
    refine aw_goto (tgt := 175) (M := M_X12_glenPart) (pc := 167) dX12_glenPart_167 rfl ?_
    exact aw_ls [1, 0] rfl (j_X12_glenPart_175  hF)
  have hF := hF.2
  have hc4 := hc
  have hc : v1 < 0 ∨ 4 < v1 := so_X12_glenPart_78 hc0 hc1 hc2 hc3 hc4
  have hF := hF hc
  refine aw_tableOut (tgt := 170) (M := M_X12_glenPart) (pc := 78) dX12_glenPart_78 hc rfl ?_
  refine aw_aload_n (j := 0) (M := M_X12_glenPart) (pc := 170) dX12_glenPart_170 rfl rfl ?_
  refine aw_cvi (as := []) (st := []) (M := M_X12_glenPart) (pc := 171) (f_X12_aMill  hF) dX12_glenPart_171 rfl (Or.inl ⟨_, _, _, rfl, rfl⟩) cy_X12_aMill ml_X12_226 (by decide) (by decide) (Nat.le_of_ble_eq_true rfl) (fun r26 h25 hF => ?_)
  refine aw_istore_n (ls' := [(2, (0, r26)), (0, vr 161), (1, (0, v1))]) (M := M_X12_glenPart) (pc := 174) dX12_glenPart_174 rfl (by decide) rfl ?_
  exact aw_ls [1, 0] rfl (j_X12_glenPart_175  hF)
def J_X12_glenPart_45 (h : Mem) (v1 : Int) (Q : Int → Mem → Prop) : Prop :=
  ((v1 < 3 → (∀ h9 : Mem, h9 = mset h 161 20 (ior (h 161 20) (ior (ishl 1 v1) 0)) → ((3 < v1 → J_X12_glenPart_77 h9 v1 Q) ∧ (¬ (3 < v1) → (F_X12_ahead h9  (fun h10 => J_X12_glenPart_77 h10 v1 Q)))))) ∧ (¬ (v1 < 3) → (∀ h12 : Mem, h12 = mset h 161 20 (ior (h 161 20) (ior (ishl 1 v1) 1)) → ((3 < v1 → J_X12_glenPart_77 h12 v1 Q) ∧ (¬ (3 < v1) → (F_X12_ahead h12  (fun h13 => J_X12_glenPart_77 h13 v1 Q)))))))
set_option maxRecDepth 100000 in
set_option maxHeartbeats 4000000 in
theorem j_X12_glenPart_45 {h : Mem} {v1 : Int} {Q : Int → Mem → Prop}  (hF : J_X12_glenPart_45 h v1 Q) : AW M_X12_glenPart 45 [(0, vr 161), (1, (0, v1))] [] h (qi Q) := by
  unfold J_X12_glenPart_45 at hF
  refine aw_aload_n (j := 0) (M := M_X12_glenPart) (pc := 45) dX12_glenPart_45 rfl rfl ?_
  refine aw_dup (M := M_X12_glenPart) (pc := 46) dX12_glenPart_46 rfl ?_
  refine gf_X12_216 (M := M_X12_glenPart) (pc := 47) rfl dX12_glenPart_47 rfl ?_
  refine aw_iconst (M := M_X12_glenPart) (pc := 50) dX12_glenPart_50 ⟨by decide, by decide⟩ ?_
  refine aw_iload_n (j := 1) (M := M_X12_glenPart) (pc := 51) dX12_glenPart_51 rfl rfl ?_
  refine aw_ishl (M := M_X12_glenPart) (pc := 52) dX12_glenPart_52 ?_
  refine aw_iload_n (j := 1) (M := M_X12_glenPart) (pc := 53) dX12_glenPart_53 rfl rfl ?_
  refine aw_iconst (M := M_X12_glenPart) (pc := 54) dX12_glenPart_54 ⟨by decide, by decide⟩ ?_
  refine aw_icmp_lt (tgt := 62) (M := M_X12_glenPart) (pc := 55) dX12_glenPart_55 rfl (fun hc => ?_) (fun hc => ?_)
  · have hF := hF.1 hc
    refine aw_iconst (M := M_X12_glenPart) (pc := 62) dX12_glenPart_62 ⟨by decide, by decide⟩ ?_
    refine aw_ior (M := M_X12_glenPart) (pc := 63) dX12_glenPart_63 ?_
    refine aw_ior (M := M_X12_glenPart) (pc := 64) dX12_glenPart_64 ?_
    refine pf_X12_216 (M := M_X12_glenPart) (pc := 65) rfl dX12_glenPart_65 rfl ?_
    obtain ⟨h9, eh9⟩ : ∃ y : Mem, y = mset h 161 20 (ior (h 161 20) (ior (ishl 1 v1) 0)) := ⟨_, rfl⟩
    have hF := hF h9 eh9
    rw [← eh9]
    refine aw_iload_n (j := 1) (M := M_X12_glenPart) (pc := 68) dX12_glenPart_68 rfl rfl ?_
    refine aw_iconst (M := M_X12_glenPart) (pc := 69) dX12_glenPart_69 ⟨by decide, by decide⟩ ?_
    refine aw_icmp_gt (tgt := 77) (M := M_X12_glenPart) (pc := 70) dX12_glenPart_70 rfl (fun hc => ?_) (fun hc => ?_)
    · have hF := hF.1 hc
      exact aw_ls [0, 1] rfl (j_X12_glenPart_77  hF)
    · have hF := hF.2 hc
      refine aw_aload_n (j := 0) (M := M_X12_glenPart) (pc := 73) dX12_glenPart_73 rfl rfl ?_
      refine aw_cvv (as := []) (st := []) (M := M_X12_glenPart) (pc := 74) (f_X12_ahead  hF) dX12_glenPart_74 rfl (Or.inl ⟨_, _, _, rfl, rfl⟩) cy_X12_ahead ml_X12_167 (by decide) (by decide) (Nat.le_of_ble_eq_true rfl) (fun h10 hF => ?_)
      exact aw_ls [0, 1] rfl (j_X12_glenPart_77  hF)
  · have hF := hF.2 hc
    refine aw_iconst (M := M_X12_glenPart) (pc := 58) dX12_glenPart_58 ⟨by decide, by decide⟩ ?_
    refine aw_goto (tgt := 63) (M := M_X12_glenPart) (pc := 59) dX12_glenPart_59 rfl ?_
    refine aw_ior (M := M_X12_glenPart) (pc := 63) dX12_glenPart_63 ?_
    refine aw_ior (M := M_X12_glenPart) (pc := 64) dX12_glenPart_64 ?_
    refine pf_X12_216 (M := M_X12_glenPart) (pc := 65) rfl dX12_glenPart_65 rfl ?_
    obtain ⟨h12, eh12⟩ : ∃ y : Mem, y = mset h 161 20 (ior (h 161 20) (ior (ishl 1 v1) 1)) := ⟨_, rfl⟩
    have hF := hF h12 eh12
    rw [← eh12]
    refine aw_iload_n (j := 1) (M := M_X12_glenPart) (pc := 68) dX12_glenPart_68 rfl rfl ?_
    refine aw_iconst (M := M_X12_glenPart) (pc := 69) dX12_glenPart_69 ⟨by decide, by decide⟩ ?_
    refine aw_icmp_gt (tgt := 77) (M := M_X12_glenPart) (pc := 70) dX12_glenPart_70 rfl (fun hc => ?_) (fun hc => ?_)
    · have hF := hF.1 hc
      exact aw_ls [0, 1] rfl (j_X12_glenPart_77  hF)
    · have hF := hF.2 hc
      refine aw_aload_n (j := 0) (M := M_X12_glenPart) (pc := 73) dX12_glenPart_73 rfl rfl ?_
      refine aw_cvv (as := []) (st := []) (M := M_X12_glenPart) (pc := 74) (f_X12_ahead  hF) dX12_glenPart_74 rfl (Or.inl ⟨_, _, _, rfl, rfl⟩) cy_X12_ahead ml_X12_167 (by decide) (by decide) (Nat.le_of_ble_eq_true rfl) (fun h13 hF => ?_)
      exact aw_ls [0, 1] rfl (j_X12_glenPart_77  hF)
def F_X12_glenPart (h : Mem)  (Q : Int → Mem → Prop) : Prop :=
  (F_X12_inWords h  (fun r2 h1 => ((r2 < 0 → (F_X12_fails h1 2 (fun r4 h3 => (InZ r4 ∧ Q r4 h3)))) ∧ (¬ (r2 < 0) → ((r2 ≤ 5 → ((3 < r2 → J_X12_glenPart_45 h1 r2 Q) ∧ (¬ (3 < r2) → ((¬ ((iand (ishr (h1 161 20) r2) 1) = 1) → J_X12_glenPart_45 h1 r2 Q) ∧ ((iand (ishr (h1 161 20) r2) 1) = 1 → (F_X12_fails h1 5 (fun r6 h5 => (InZ r6 ∧ Q r6 h5)))))))) ∧ (¬ (r2 ≤ 5) → (F_X12_fails h1 2 (fun r8 h7 => (InZ r8 ∧ Q r8 h7)))))))))
set_option maxRecDepth 100000 in
set_option maxHeartbeats 4000000 in
theorem f_X12_glenPart {h : Mem}  {Q : Int → Mem → Prop}  (hF : F_X12_glenPart h  Q) : Ct yX12_glenPart cX12_glenPart 3 (some .boolean) (9, 222) [vr 161] h (qi Q) := by
  refine Ct.of np_RX12 (Nat.le_of_ble_eq_true rfl) ?_
  unfold F_X12_glenPart at hF
  show AW M_X12_glenPart 0 [(0, vr 161)] [] h (qi Q)
  refine aw_aload_n (j := 0) (M := M_X12_glenPart) (pc := 0) dX12_glenPart_0 rfl rfl ?_
  refine aw_ldcM (M := M_X12_glenPart) (pc := 1) rfl dX12_glenPart_1 ?_
  refine aw_cvi (as := [vr 183]) (st := []) (M := M_X12_glenPart) (pc := 3) (f_X12_inWords  hF) dX12_glenPart_3 rfl (Or.inl ⟨_, _, _, rfl, rfl⟩) cy_X12_inWords ml_X12_176 (by decide) (by decide) (Nat.le_of_ble_eq_true rfl) (fun r2 h1 hF => ?_)
  refine aw_istore_n (ls' := [(1, (0, r2)), (0, vr 161)]) (M := M_X12_glenPart) (pc := 6) dX12_glenPart_6 rfl (by decide) rfl ?_
  refine aw_iload_n (j := 0) (M := M_X12_glenPart) (pc := 7) dX12_glenPart_7 rfl rfl ?_
  refine aw_if_lt (tgt := 16) (M := M_X12_glenPart) (pc := 8) dX12_glenPart_8 rfl (fun hc => ?_) (fun hc => ?_)
  · have hF := hF.1 hc
    refine aw_aload_n (j := 1) (M := M_X12_glenPart) (pc := 16) dX12_glenPart_16 rfl rfl ?_
    refine aw_iconst (M := M_X12_glenPart) (pc := 17) dX12_glenPart_17 ⟨by decide, by decide⟩ ?_
    refine aw_cvi (as := [(0, 2)]) (st := []) (M := M_X12_glenPart) (pc := 18) (f_X12_fails  hF) dX12_glenPart_18 rfl (Or.inl ⟨_, _, _, rfl, rfl⟩) cy_X12_fails ml_X12_173 (by decide) (by decide) (Nat.le_of_ble_eq_true rfl) (fun r4 h3 hF => ?_)
    exact aw_iretz (M := M_X12_glenPart) (pc := 21) dX12_glenPart_21 rfl hF.1 ⟨_, rfl, hF.2⟩
  · have hF := hF.2 hc
    refine aw_iload_n (j := 0) (M := M_X12_glenPart) (pc := 11) dX12_glenPart_11 rfl rfl ?_
    refine aw_iconst (M := M_X12_glenPart) (pc := 12) dX12_glenPart_12 ⟨by decide, by decide⟩ ?_
    refine aw_icmp_le (tgt := 22) (M := M_X12_glenPart) (pc := 13) dX12_glenPart_13 rfl (fun hc => ?_) (fun hc => ?_)
    · have hF := hF.1 hc
      refine aw_iload_n (j := 0) (M := M_X12_glenPart) (pc := 22) dX12_glenPart_22 rfl rfl ?_
      refine aw_iconst (M := M_X12_glenPart) (pc := 23) dX12_glenPart_23 ⟨by decide, by decide⟩ ?_
      refine aw_icmp_gt (tgt := 45) (M := M_X12_glenPart) (pc := 24) dX12_glenPart_24 rfl (fun hc => ?_) (fun hc => ?_)
      · have hF := hF.1 hc
        exact aw_ls [1, 0] rfl (j_X12_glenPart_45  hF)
      · have hF := hF.2 hc
        refine aw_aload_n (j := 1) (M := M_X12_glenPart) (pc := 27) dX12_glenPart_27 rfl rfl ?_
        refine gf_X12_216 (M := M_X12_glenPart) (pc := 28) rfl dX12_glenPart_28 rfl ?_
        refine aw_iload_n (j := 0) (M := M_X12_glenPart) (pc := 31) dX12_glenPart_31 rfl rfl ?_
        refine aw_ishr (M := M_X12_glenPart) (pc := 32) dX12_glenPart_32 ?_
        refine aw_iconst (M := M_X12_glenPart) (pc := 33) dX12_glenPart_33 ⟨by decide, by decide⟩ ?_
        refine aw_iand (M := M_X12_glenPart) (pc := 34) dX12_glenPart_34 ?_
        refine aw_iconst (M := M_X12_glenPart) (pc := 35) dX12_glenPart_35 ⟨by decide, by decide⟩ ?_
        refine aw_icmp_ne (tgt := 45) (M := M_X12_glenPart) (pc := 36) dX12_glenPart_36 rfl (fun hc => ?_) (fun hc => ?_)
        · have hF := hF.1 hc
          exact aw_ls [1, 0] rfl (j_X12_glenPart_45  hF)
        · have hF := hF.2 hc
          refine aw_aload_n (j := 1) (M := M_X12_glenPart) (pc := 39) dX12_glenPart_39 rfl rfl ?_
          refine aw_iconst (M := M_X12_glenPart) (pc := 40) dX12_glenPart_40 ⟨by decide, by decide⟩ ?_
          refine aw_cvi (as := [(0, 5)]) (st := []) (M := M_X12_glenPart) (pc := 41) (f_X12_fails  hF) dX12_glenPart_41 rfl (Or.inl ⟨_, _, _, rfl, rfl⟩) cy_X12_fails ml_X12_173 (by decide) (by decide) (Nat.le_of_ble_eq_true rfl) (fun r6 h5 hF => ?_)
          exact aw_iretz (M := M_X12_glenPart) (pc := 44) dX12_glenPart_44 rfl hF.1 ⟨_, rfl, hF.2⟩
    · have hF := hF.2 hc
      refine aw_aload_n (j := 1) (M := M_X12_glenPart) (pc := 16) dX12_glenPart_16 rfl rfl ?_
      refine aw_iconst (M := M_X12_glenPart) (pc := 17) dX12_glenPart_17 ⟨by decide, by decide⟩ ?_
      refine aw_cvi (as := [(0, 2)]) (st := []) (M := M_X12_glenPart) (pc := 18) (f_X12_fails  hF) dX12_glenPart_18 rfl (Or.inl ⟨_, _, _, rfl, rfl⟩) cy_X12_fails ml_X12_173 (by decide) (by decide) (Nat.le_of_ble_eq_true rfl) (fun r8 h7 hF => ?_)
      exact aw_iretz (M := M_X12_glenPart) (pc := 21) dX12_glenPart_21 rfl hF.1 ⟨_, rfl, hF.2⟩
abbrev M_X12_plain : Hd := (cX12_plain, 3, RX12, none, (1, 45), sc0)
def L_X12_plain_2 (h : Mem) (v1 : Int) (v2 : Int) (Q : Mem → Prop) : Prop := AW M_X12_plain 2 [(0, vr 161), (1, (0, v1)), (2, (0, v2))] [] h (qv Q)
def B_X12_plain_2 (h : Mem) (v1 : Int) (v2 : Int) (Q : Mem → Prop) : Prop :=
  ((448 ≤ v2 → (InR (v1 + 2) ∧ ((0 ≤ (v1 + 2) ∧ (v1 + 2) < 3008) ∧ (∀ h3 : Mem, h3 = mset h 162 (v1 + 2).toNat 8 → (InR (v1 + 3) ∧ ((0 ≤ (v1 + 3) ∧ (v1 + 3) < 3008) ∧ (∀ h6 : Mem, h6 = mset h3 162 (v1 + 3).toNat 10 → (InR (v1 + 4) ∧ ((0 ≤ (v1 + 4) ∧ (v1 + 4) < 3008) ∧ (∀ h9 : Mem, h9 = mset h6 162 (v1 + 4).toNat 4 → (InR (v1 + 7) ∧ ((0 ≤ (v1 + 7) ∧ (v1 + 7) < 3008) ∧ (∀ h12 : Mem, h12 = mset h9 162 (v1 + 7).toNat 1 → (InR (v1 + 9) ∧ ((0 ≤ (v1 + 9) ∧ (v1 + 9) < 3008) ∧ (∀ h15 : Mem, h15 = mset h12 162 (v1 + 9).toNat (-1) → Q h15)))))))))))))))) ∧ (¬ (448 ≤ v2) → (InR (v1 + v2) ∧ ((0 ≤ (v1 + v2) ∧ (v1 + v2) < 3008) ∧ (∀ h18 : Mem, h18 = mset h 162 (v1 + v2).toNat 0 → (InR (v2 + 1) ∧ L_X12_plain_2 h18 v1 (v2 + 1) Q))))))
set_option maxRecDepth 100000 in
set_option maxHeartbeats 4000000 in
theorem l_X12_plain_2 {h : Mem} {v1 : Int} {v2 : Int} {Q : Mem → Prop}  (hF : B_X12_plain_2 h v1 v2 Q) : L_X12_plain_2 h v1 v2 Q := by
  unfold B_X12_plain_2 at hF
  show AW M_X12_plain 2 [(0, vr 161), (1, (0, v1)), (2, (0, v2))] [] h (qv Q)
  refine aw_iload_n (j := 2) (M := M_X12_plain) (pc := 2) dX12_plain_2 rfl rfl ?_
  refine aw_sipush (M := M_X12_plain) (pc := 3) dX12_plain_3 ⟨rfl, ⟨by decide, by decide⟩⟩ ?_
  refine aw_icmp_ge (tgt := 24) (M := M_X12_plain) (pc := 6) dX12_plain_6 rfl (fun hc => ?_) (fun hc => ?_)
  · have hF := hF.1 hc
    refine aw_aload_n (j := 0) (M := M_X12_plain) (pc := 24) dX12_plain_24 rfl rfl ?_
    refine gf_X12_7 (M := M_X12_plain) (pc := 25) rfl dX12_plain_25 rfl (r := 162) rfl ?_
    refine aw_iload_n (j := 1) (M := M_X12_plain) (pc := 28) dX12_plain_28 rfl rfl ?_
    refine aw_iconst (M := M_X12_plain) (pc := 29) dX12_plain_29 ⟨by decide, by decide⟩ ?_
    obtain ⟨o1, hF⟩ := hF
    refine aw_iadd (M := M_X12_plain) (pc := 30) dX12_plain_30 rfl o1 ?_
    refine aw_bipush (M := M_X12_plain) (pc := 31) dX12_plain_31 ⟨rfl, ⟨by decide, by decide⟩⟩ ?_
    obtain ⟨o2, hF⟩ := hF
    refine aw_iast (k := (v1 + 2).toNat) (M := M_X12_plain) (pc := 33) dX12_plain_33 rfl o2 rfl ?_
    obtain ⟨h3, eh3⟩ : ∃ y : Mem, y = mset h 162 (v1 + 2).toNat 8 := ⟨_, rfl⟩
    have hF := hF h3 eh3
    rw [← eh3]
    refine aw_aload_n (j := 0) (M := M_X12_plain) (pc := 34) dX12_plain_34 rfl rfl ?_
    refine gf_X12_7 (M := M_X12_plain) (pc := 35) rfl dX12_plain_35 rfl (r := 162) rfl ?_
    refine aw_iload_n (j := 1) (M := M_X12_plain) (pc := 38) dX12_plain_38 rfl rfl ?_
    refine aw_iconst (M := M_X12_plain) (pc := 39) dX12_plain_39 ⟨by decide, by decide⟩ ?_
    obtain ⟨o4, hF⟩ := hF
    refine aw_iadd (M := M_X12_plain) (pc := 40) dX12_plain_40 rfl o4 ?_
    refine aw_bipush (M := M_X12_plain) (pc := 41) dX12_plain_41 ⟨rfl, ⟨by decide, by decide⟩⟩ ?_
    obtain ⟨o5, hF⟩ := hF
    refine aw_iast (k := (v1 + 3).toNat) (M := M_X12_plain) (pc := 43) dX12_plain_43 rfl o5 rfl ?_
    obtain ⟨h6, eh6⟩ : ∃ y : Mem, y = mset h3 162 (v1 + 3).toNat 10 := ⟨_, rfl⟩
    have hF := hF h6 eh6
    rw [← eh6]
    refine aw_aload_n (j := 0) (M := M_X12_plain) (pc := 44) dX12_plain_44 rfl rfl ?_
    refine gf_X12_7 (M := M_X12_plain) (pc := 45) rfl dX12_plain_45 rfl (r := 162) rfl ?_
    refine aw_iload_n (j := 1) (M := M_X12_plain) (pc := 48) dX12_plain_48 rfl rfl ?_
    refine aw_iconst (M := M_X12_plain) (pc := 49) dX12_plain_49 ⟨by decide, by decide⟩ ?_
    obtain ⟨o7, hF⟩ := hF
    refine aw_iadd (M := M_X12_plain) (pc := 50) dX12_plain_50 rfl o7 ?_
    refine aw_iconst (M := M_X12_plain) (pc := 51) dX12_plain_51 ⟨by decide, by decide⟩ ?_
    obtain ⟨o8, hF⟩ := hF
    refine aw_iast (k := (v1 + 4).toNat) (M := M_X12_plain) (pc := 52) dX12_plain_52 rfl o8 rfl ?_
    obtain ⟨h9, eh9⟩ : ∃ y : Mem, y = mset h6 162 (v1 + 4).toNat 4 := ⟨_, rfl⟩
    have hF := hF h9 eh9
    rw [← eh9]
    refine aw_aload_n (j := 0) (M := M_X12_plain) (pc := 53) dX12_plain_53 rfl rfl ?_
    refine gf_X12_7 (M := M_X12_plain) (pc := 54) rfl dX12_plain_54 rfl (r := 162) rfl ?_
    refine aw_iload_n (j := 1) (M := M_X12_plain) (pc := 57) dX12_plain_57 rfl rfl ?_
    refine aw_bipush (M := M_X12_plain) (pc := 58) dX12_plain_58 ⟨rfl, ⟨by decide, by decide⟩⟩ ?_
    obtain ⟨o10, hF⟩ := hF
    refine aw_iadd (M := M_X12_plain) (pc := 60) dX12_plain_60 rfl o10 ?_
    refine aw_iconst (M := M_X12_plain) (pc := 61) dX12_plain_61 ⟨by decide, by decide⟩ ?_
    obtain ⟨o11, hF⟩ := hF
    refine aw_iast (k := (v1 + 7).toNat) (M := M_X12_plain) (pc := 62) dX12_plain_62 rfl o11 rfl ?_
    obtain ⟨h12, eh12⟩ : ∃ y : Mem, y = mset h9 162 (v1 + 7).toNat 1 := ⟨_, rfl⟩
    have hF := hF h12 eh12
    rw [← eh12]
    refine aw_aload_n (j := 0) (M := M_X12_plain) (pc := 63) dX12_plain_63 rfl rfl ?_
    refine gf_X12_7 (M := M_X12_plain) (pc := 64) rfl dX12_plain_64 rfl (r := 162) rfl ?_
    refine aw_iload_n (j := 1) (M := M_X12_plain) (pc := 67) dX12_plain_67 rfl rfl ?_
    refine aw_bipush (M := M_X12_plain) (pc := 68) dX12_plain_68 ⟨rfl, ⟨by decide, by decide⟩⟩ ?_
    obtain ⟨o13, hF⟩ := hF
    refine aw_iadd (M := M_X12_plain) (pc := 70) dX12_plain_70 rfl o13 ?_
    refine aw_iconst (M := M_X12_plain) (pc := 71) dX12_plain_71 ⟨by decide, by decide⟩ ?_
    obtain ⟨o14, hF⟩ := hF
    refine aw_iast (k := (v1 + 9).toNat) (M := M_X12_plain) (pc := 72) dX12_plain_72 rfl o14 rfl ?_
    obtain ⟨h15, eh15⟩ : ∃ y : Mem, y = mset h12 162 (v1 + 9).toNat (-1) := ⟨_, rfl⟩
    have hF := hF h15 eh15
    rw [← eh15]
    exact aw_ret (M := M_X12_plain) (pc := 73) dX12_plain_73 rfl ⟨rfl, hF⟩
  · have hF := hF.2 hc
    refine aw_aload_n (j := 0) (M := M_X12_plain) (pc := 9) dX12_plain_9 rfl rfl ?_
    refine gf_X12_7 (M := M_X12_plain) (pc := 10) rfl dX12_plain_10 rfl (r := 162) rfl ?_
    refine aw_iload_n (j := 1) (M := M_X12_plain) (pc := 13) dX12_plain_13 rfl rfl ?_
    refine aw_iload_n (j := 2) (M := M_X12_plain) (pc := 14) dX12_plain_14 rfl rfl ?_
    obtain ⟨o16, hF⟩ := hF
    refine aw_iadd (M := M_X12_plain) (pc := 15) dX12_plain_15 rfl o16 ?_
    refine aw_iconst (M := M_X12_plain) (pc := 16) dX12_plain_16 ⟨by decide, by decide⟩ ?_
    obtain ⟨o17, hF⟩ := hF
    refine aw_iast (k := (v1 + v2).toNat) (M := M_X12_plain) (pc := 17) dX12_plain_17 rfl o17 rfl ?_
    obtain ⟨h18, eh18⟩ : ∃ y : Mem, y = mset h 162 (v1 + v2).toNat 0 := ⟨_, rfl⟩
    have hF := hF h18 eh18
    rw [← eh18]
    obtain ⟨o19, hF⟩ := hF
    refine aw_iinc (j := 2) (x := v2) (r := v2 + 1) (ls' := [(2, (0, v2 + 1)), (0, vr 161), (1, (0, v1))]) (M := M_X12_plain) (pc := 18) dX12_plain_18 rfl rfl o19 (by decide) rfl ?_
    refine aw_goto (tgt := 2) (M := M_X12_plain) (pc := 21) dX12_plain_21 rfl ?_
    exact aw_ls [1, 2, 0] rfl hF
def F_X12_plain (h : Mem) (a1 : Int) (Q : Mem → Prop) : Prop :=
  L_X12_plain_2 h a1 0 Q
set_option maxRecDepth 100000 in
set_option maxHeartbeats 4000000 in
theorem f_X12_plain {h : Mem} {a1 : Int} {Q : Mem → Prop}  (hF : F_X12_plain h a1 Q) : Ct yX12_plain cX12_plain 3 none (1, 45) [vr 161, (0, a1)] h (qv Q) := by
  refine Ct.of np_RX12 (Nat.le_of_ble_eq_true rfl) ?_
  unfold F_X12_plain at hF
  show AW M_X12_plain 0 [(0, vr 161), (1, (0, a1))] [] h (qv Q)
  refine aw_iconst (M := M_X12_plain) (pc := 0) dX12_plain_0 ⟨by decide, by decide⟩ ?_
  refine aw_istore_n (ls' := [(2, (0, 0)), (0, vr 161), (1, (0, a1))]) (M := M_X12_plain) (pc := 1) dX12_plain_1 rfl (by decide) rfl ?_
  exact aw_ls [1, 2, 0] rfl hF
abbrev M_X12_glen : Hd := (cX12_glen, 4, RX12, (some .int), (10, 244), sc0)
def L_X12_glen_31 (h : Mem) (v2 : Int) (Q : Int → Mem → Prop) : Prop := AW M_X12_glen 31 [(0, vr 161), (2, (0, v2))] [] h (qi Q)
def L_X12_glen_59 (h : Mem) (v3 : Int) (Q : Int → Mem → Prop) : Prop := AW M_X12_glen 59 [(0, vr 161), (3, (0, v3))] [] h (qi Q)
def L_X12_glen_90 (h : Mem) (v3 : Int) (Q : Int → Mem → Prop) : Prop := AW M_X12_glen 90 [(0, vr 161), (3, (0, v3))] [] h (qi Q)
def J_X12_glen_50 (h : Mem)  (Q : Int → Mem → Prop) : Prop :=
  ((¬ ((h 161 18) = 0) → (F_X12_taken h (h 162 0) (fun r12 h11 => Q r12 h11))) ∧ ((h 161 18) = 0 → L_X12_glen_59 h 0 Q))
set_option maxRecDepth 100000 in
set_option maxHeartbeats 4000000 in
theorem j_X12_glen_50 {h : Mem}  {Q : Int → Mem → Prop}  (hF : J_X12_glen_50 h  Q) : AW M_X12_glen 50 [(0, vr 161)] [] h (qi Q) := by
  unfold J_X12_glen_50 at hF
  refine aw_aload_n (j := 0) (M := M_X12_glen) (pc := 50) dX12_glen_50 rfl rfl ?_
  refine gf_X12_161 (M := M_X12_glen) (pc := 51) rfl dX12_glen_51 rfl ?_
  refine aw_if_ne (tgt := 117) (M := M_X12_glen) (pc := 54) dX12_glen_54 rfl (fun hc => ?_) (fun hc => ?_)
  · have hF := hF.1 hc
    refine aw_aload_n (j := 0) (M := M_X12_glen) (pc := 117) dX12_glen_117 rfl rfl ?_
    refine aw_aload_n (j := 0) (M := M_X12_glen) (pc := 118) dX12_glen_118 rfl rfl ?_
    refine gf_X12_7 (M := M_X12_glen) (pc := 119) rfl dX12_glen_119 rfl (r := 162) rfl ?_
    refine aw_iconst (M := M_X12_glen) (pc := 122) dX12_glen_122 ⟨by decide, by decide⟩ ?_
    refine aw_iald (k := 0) (M := M_X12_glen) (pc := 123) dX12_glen_123 rfl ⟨by decide, by decide⟩ rfl ?_
    refine aw_cvi (as := [(0, h 162 0)]) (st := []) (M := M_X12_glen) (pc := 124) (f_X12_taken  hF) dX12_glen_124 rfl (Or.inl ⟨_, _, _, rfl, rfl⟩) cy_X12_taken ml_X12_239 (by decide) (by decide) (Nat.le_of_ble_eq_true rfl) (fun r12 h11 hF => ?_)
    exact aw_ireti (M := M_X12_glen) (pc := 127) dX12_glen_127 rfl ⟨_, rfl, hF⟩
  · have hF := hF.2 hc
    refine aw_iconst (M := M_X12_glen) (pc := 57) dX12_glen_57 ⟨by decide, by decide⟩ ?_
    refine aw_istore_n (ls' := [(3, (0, 0)), (0, vr 161)]) (M := M_X12_glen) (pc := 58) dX12_glen_58 rfl (by decide) rfl ?_
    exact aw_ls [1, 0] rfl hF
def B_X12_glen_31 (h : Mem) (v2 : Int) (Q : Int → Mem → Prop) : Prop :=
  ((v2 = 0 → J_X12_glen_50 h  Q) ∧ (¬ (v2 = 0) → (((h 161 12) = 0 → J_X12_glen_50 h  Q) ∧ (¬ ((h 161 12) = 0) → (F_X12_glenPart h  (fun r9 h8 => L_X12_glen_31 h8 r9 Q))))))
set_option maxRecDepth 100000 in
set_option maxHeartbeats 4000000 in
theorem l_X12_glen_31 {h : Mem} {v2 : Int} {Q : Int → Mem → Prop}  (hF : B_X12_glen_31 h v2 Q) : L_X12_glen_31 h v2 Q := by
  unfold B_X12_glen_31 at hF
  show AW M_X12_glen 31 [(0, vr 161), (2, (0, v2))] [] h (qi Q)
  refine aw_iload_n (j := 1) (M := M_X12_glen) (pc := 31) dX12_glen_31 rfl rfl ?_
  refine aw_if_eq (tgt := 50) (M := M_X12_glen) (pc := 32) dX12_glen_32 rfl (fun hc => ?_) (fun hc => ?_)
  · have hF := hF.1 hc
    exact aw_ls [0] rfl (j_X12_glen_50  hF)
  · have hF := hF.2 hc
    refine aw_aload_n (j := 0) (M := M_X12_glen) (pc := 35) dX12_glen_35 rfl rfl ?_
    refine gf_X12_136 (M := M_X12_glen) (pc := 36) rfl dX12_glen_36 rfl ?_
    refine aw_if_eq (tgt := 50) (M := M_X12_glen) (pc := 39) dX12_glen_39 rfl (fun hc => ?_) (fun hc => ?_)
    · have hF := hF.1 hc
      exact aw_ls [0] rfl (j_X12_glen_50  hF)
    · have hF := hF.2 hc
      refine aw_aload_n (j := 0) (M := M_X12_glen) (pc := 42) dX12_glen_42 rfl rfl ?_
      refine aw_cvi (as := []) (st := []) (M := M_X12_glen) (pc := 43) (f_X12_glenPart  hF) dX12_glen_43 rfl (Or.inl ⟨_, _, _, rfl, rfl⟩) cy_X12_glenPart ml_X12_236 (by decide) (by decide) (Nat.le_of_ble_eq_true rfl) (fun r9 h8 hF => ?_)
      refine aw_istore_n (ls' := [(2, (0, r9)), (0, vr 161)]) (M := M_X12_glen) (pc := 46) dX12_glen_46 rfl (by decide) rfl ?_
      refine aw_goto (tgt := 31) (M := M_X12_glen) (pc := 47) dX12_glen_47 rfl ?_
      exact aw_ls [1, 0] rfl hF
def B_X12_glen_59 (h : Mem) (v3 : Int) (Q : Int → Mem → Prop) : Prop :=
  ((448 ≤ v3 → L_X12_glen_90 h 0 Q) ∧ (¬ (448 ≤ v3) → (InR (1792 + v3) ∧ ((0 ≤ (1792 + v3) ∧ (1792 + v3) < 3008) ∧ ((0 ≤ v3 ∧ v3 < 3008) ∧ (∀ h17 : Mem, h17 = mset h 162 (v3).toNat (h 162 (1792 + v3).toNat) → (InR (v3 + 1) ∧ L_X12_glen_59 h17 (v3 + 1) Q)))))))
set_option maxRecDepth 100000 in
set_option maxHeartbeats 4000000 in
theorem l_X12_glen_59 {h : Mem} {v3 : Int} {Q : Int → Mem → Prop}  (hF : B_X12_glen_59 h v3 Q) : L_X12_glen_59 h v3 Q := by
  unfold B_X12_glen_59 at hF
  show AW M_X12_glen 59 [(0, vr 161), (3, (0, v3))] [] h (qi Q)
  refine aw_iload_n (j := 1) (M := M_X12_glen) (pc := 59) dX12_glen_59 rfl rfl ?_
  refine aw_sipush (M := M_X12_glen) (pc := 60) dX12_glen_60 ⟨rfl, ⟨by decide, by decide⟩⟩ ?_
  refine aw_icmp_ge (tgt := 88) (M := M_X12_glen) (pc := 63) dX12_glen_63 rfl (fun hc => ?_) (fun hc => ?_)
  · have hF := hF.1 hc
    refine aw_iconst (M := M_X12_glen) (pc := 88) dX12_glen_88 ⟨by decide, by decide⟩ ?_
    refine aw_istore_n (ls' := [(3, (0, 0)), (0, vr 161)]) (M := M_X12_glen) (pc := 89) dX12_glen_89 rfl (by decide) rfl ?_
    exact aw_ls [1, 0] rfl hF
  · have hF := hF.2 hc
    refine aw_aload_n (j := 0) (M := M_X12_glen) (pc := 66) dX12_glen_66 rfl rfl ?_
    refine gf_X12_7 (M := M_X12_glen) (pc := 67) rfl dX12_glen_67 rfl (r := 162) rfl ?_
    refine aw_iload_n (j := 1) (M := M_X12_glen) (pc := 70) dX12_glen_70 rfl rfl ?_
    refine aw_aload_n (j := 0) (M := M_X12_glen) (pc := 71) dX12_glen_71 rfl rfl ?_
    refine gf_X12_7 (M := M_X12_glen) (pc := 72) rfl dX12_glen_72 rfl (r := 162) rfl ?_
    refine aw_sipush (M := M_X12_glen) (pc := 75) dX12_glen_75 ⟨rfl, ⟨by decide, by decide⟩⟩ ?_
    refine aw_iload_n (j := 1) (M := M_X12_glen) (pc := 78) dX12_glen_78 rfl rfl ?_
    obtain ⟨o13, hF⟩ := hF
    refine aw_iadd (M := M_X12_glen) (pc := 79) dX12_glen_79 rfl o13 ?_
    obtain ⟨o15, hF⟩ := hF
    refine aw_iald (k := (1792 + v3).toNat) (M := M_X12_glen) (pc := 80) dX12_glen_80 rfl o15 rfl ?_
    obtain ⟨o16, hF⟩ := hF
    refine aw_iast (k := (v3).toNat) (M := M_X12_glen) (pc := 81) dX12_glen_81 rfl o16 rfl ?_
    obtain ⟨h17, eh17⟩ : ∃ y : Mem, y = mset h 162 (v3).toNat (h 162 (1792 + v3).toNat) := ⟨_, rfl⟩
    have hF := hF h17 eh17
    rw [← eh17]
    obtain ⟨o18, hF⟩ := hF
    refine aw_iinc (j := 1) (x := v3) (r := v3 + 1) (ls' := [(3, (0, v3 + 1)), (0, vr 161)]) (M := M_X12_glen) (pc := 82) dX12_glen_82 rfl rfl o18 (by decide) rfl ?_
    refine aw_goto (tgt := 59) (M := M_X12_glen) (pc := 85) dX12_glen_85 rfl ?_
    exact aw_ls [1, 0] rfl hF
def B_X12_glen_90 (h : Mem) (v3 : Int) (Q : Int → Mem → Prop) : Prop :=
  ((12 ≤ v3 → (F_X12_taken h (h 162 0) (fun r21 h20 => Q r21 h20))) ∧ (¬ (12 ≤ v3) → (InR (48 + v3) ∧ ((0 ≤ (48 + v3) ∧ (48 + v3) < 72) ∧ ((0 ≤ v3 ∧ v3 < 72) ∧ (∀ h26 : Mem, h26 = mset h 163 (v3).toNat (h 163 (48 + v3).toNat) → (InR (v3 + 1) ∧ L_X12_glen_90 h26 (v3 + 1) Q)))))))
set_option maxRecDepth 100000 in
set_option maxHeartbeats 4000000 in
theorem l_X12_glen_90 {h : Mem} {v3 : Int} {Q : Int → Mem → Prop}  (hF : B_X12_glen_90 h v3 Q) : L_X12_glen_90 h v3 Q := by
  unfold B_X12_glen_90 at hF
  show AW M_X12_glen 90 [(0, vr 161), (3, (0, v3))] [] h (qi Q)
  refine aw_iload_n (j := 1) (M := M_X12_glen) (pc := 90) dX12_glen_90 rfl rfl ?_
  refine aw_bipush (M := M_X12_glen) (pc := 91) dX12_glen_91 ⟨rfl, ⟨by decide, by decide⟩⟩ ?_
  refine aw_icmp_ge (tgt := 117) (M := M_X12_glen) (pc := 93) dX12_glen_93 rfl (fun hc => ?_) (fun hc => ?_)
  · have hF := hF.1 hc
    refine aw_aload_n (j := 0) (M := M_X12_glen) (pc := 117) dX12_glen_117 rfl rfl ?_
    refine aw_aload_n (j := 0) (M := M_X12_glen) (pc := 118) dX12_glen_118 rfl rfl ?_
    refine gf_X12_7 (M := M_X12_glen) (pc := 119) rfl dX12_glen_119 rfl (r := 162) rfl ?_
    refine aw_iconst (M := M_X12_glen) (pc := 122) dX12_glen_122 ⟨by decide, by decide⟩ ?_
    refine aw_iald (k := 0) (M := M_X12_glen) (pc := 123) dX12_glen_123 rfl ⟨by decide, by decide⟩ rfl ?_
    refine aw_cvi (as := [(0, h 162 0)]) (st := []) (M := M_X12_glen) (pc := 124) (f_X12_taken  hF) dX12_glen_124 rfl (Or.inl ⟨_, _, _, rfl, rfl⟩) cy_X12_taken ml_X12_239 (by decide) (by decide) (Nat.le_of_ble_eq_true rfl) (fun r21 h20 hF => ?_)
    exact aw_ireti (M := M_X12_glen) (pc := 127) dX12_glen_127 rfl ⟨_, rfl, hF⟩
  · have hF := hF.2 hc
    refine aw_aload_n (j := 0) (M := M_X12_glen) (pc := 96) dX12_glen_96 rfl rfl ?_
    refine gf_X12_13 (M := M_X12_glen) (pc := 97) rfl dX12_glen_97 rfl (r := 163) rfl ?_
    refine aw_iload_n (j := 1) (M := M_X12_glen) (pc := 100) dX12_glen_100 rfl rfl ?_
    refine aw_aload_n (j := 0) (M := M_X12_glen) (pc := 101) dX12_glen_101 rfl rfl ?_
    refine gf_X12_13 (M := M_X12_glen) (pc := 102) rfl dX12_glen_102 rfl (r := 163) rfl ?_
    refine aw_bipush (M := M_X12_glen) (pc := 105) dX12_glen_105 ⟨rfl, ⟨by decide, by decide⟩⟩ ?_
    refine aw_iload_n (j := 1) (M := M_X12_glen) (pc := 107) dX12_glen_107 rfl rfl ?_
    obtain ⟨o22, hF⟩ := hF
    refine aw_iadd (M := M_X12_glen) (pc := 108) dX12_glen_108 rfl o22 ?_
    obtain ⟨o24, hF⟩ := hF
    refine aw_lald (k := (48 + v3).toNat) (M := M_X12_glen) (pc := 109) dX12_glen_109 rfl o24 rfl ?_
    obtain ⟨o25, hF⟩ := hF
    refine aw_last (k := (v3).toNat) (M := M_X12_glen) (pc := 110) dX12_glen_110 rfl o25 rfl ?_
    obtain ⟨h26, eh26⟩ : ∃ y : Mem, y = mset h 163 (v3).toNat (h 163 (48 + v3).toNat) := ⟨_, rfl⟩
    have hF := hF h26 eh26
    rw [← eh26]
    obtain ⟨o27, hF⟩ := hF
    refine aw_iinc (j := 1) (x := v3) (r := v3 + 1) (ls' := [(3, (0, v3 + 1)), (0, vr 161)]) (M := M_X12_glen) (pc := 111) dX12_glen_111 rfl rfl o27 (by decide) rfl ?_
    refine aw_goto (tgt := 90) (M := M_X12_glen) (pc := 114) dX12_glen_114 rfl ?_
    exact aw_ls [1, 0] rfl hF
def F_X12_glen (h : Mem) (a1 : Int) (Q : Int → Mem → Prop) : Prop :=
  (F_X12_begins h a1 900 (fun r2 h1 => ((¬ (r2 = 0) → (F_X12_plain h1 1792 (fun h3 => (∀ h5 : Mem, h5 = mset h3 161 20 0 → L_X12_glen_31 h5 1 Q)))) ∧ (r2 = 0 → (F_X12_refuse h1 1 (fun r7 h6 => Q r7 h6))))))
set_option maxRecDepth 100000 in
set_option maxHeartbeats 4000000 in
theorem f_X12_glen {h : Mem} {a1 : Int} {Q : Int → Mem → Prop}  (hF : F_X12_glen h a1 Q) : Ct yX12_glen cX12_glen 4 (some .int) (10, 244) [vr 161, (0, a1)] h (qi Q) := by
  refine Ct.of np_RX12 (Nat.le_of_ble_eq_true rfl) ?_
  unfold F_X12_glen at hF
  show AW M_X12_glen 0 [(0, vr 161), (1, (0, a1))] [] h (qi Q)
  refine aw_aload_n (j := 0) (M := M_X12_glen) (pc := 0) dX12_glen_0 rfl rfl ?_
  refine aw_iload_n (j := 1) (M := M_X12_glen) (pc := 1) dX12_glen_1 rfl rfl ?_
  refine aw_sipush (M := M_X12_glen) (pc := 2) dX12_glen_2 ⟨rfl, ⟨by decide, by decide⟩⟩ ?_
  refine aw_cvi (as := [(0, a1), (0, 900)]) (st := []) (M := M_X12_glen) (pc := 5) (f_X12_begins  hF) dX12_glen_5 rfl (Or.inl ⟨_, _, _, rfl, rfl⟩) cy_X12_begins ml_X12_232 (by decide) (by decide) (Nat.le_of_ble_eq_true rfl) (fun r2 h1 hF => ?_)
  refine aw_if_ne (tgt := 17) (M := M_X12_glen) (pc := 8) dX12_glen_8 rfl (fun hc => ?_) (fun hc => ?_)
  · have hF := hF.1 hc
    refine aw_aload_n (j := 0) (M := M_X12_glen) (pc := 17) dX12_glen_17 rfl rfl ?_
    refine aw_sipush (M := M_X12_glen) (pc := 18) dX12_glen_18 ⟨rfl, ⟨by decide, by decide⟩⟩ ?_
    refine aw_cvv (as := [(0, 1792)]) (st := []) (M := M_X12_glen) (pc := 21) (f_X12_plain  hF) dX12_glen_21 rfl (Or.inl ⟨_, _, _, rfl, rfl⟩) cy_X12_plain ml_X12_81 (by decide) (by decide) (Nat.le_of_ble_eq_true rfl) (fun h3 hF => ?_)
    refine aw_aload_n (j := 0) (M := M_X12_glen) (pc := 24) dX12_glen_24 rfl rfl ?_
    refine aw_iconst (M := M_X12_glen) (pc := 25) dX12_glen_25 ⟨by decide, by decide⟩ ?_
    refine pf_X12_216 (M := M_X12_glen) (pc := 26) rfl dX12_glen_26 rfl ?_
    obtain ⟨h5, eh5⟩ : ∃ y : Mem, y = mset h3 161 20 0 := ⟨_, rfl⟩
    have hF := hF h5 eh5
    rw [← eh5]
    refine aw_iconst (M := M_X12_glen) (pc := 29) dX12_glen_29 ⟨by decide, by decide⟩ ?_
    refine aw_istore_n (ls' := [(2, (0, 1)), (0, vr 161), (1, (0, a1))]) (M := M_X12_glen) (pc := 30) dX12_glen_30 rfl (by decide) rfl ?_
    exact aw_ls [1, 0] rfl hF
  · have hF := hF.2 hc
    refine aw_aload_n (j := 0) (M := M_X12_glen) (pc := 11) dX12_glen_11 rfl rfl ?_
    refine aw_iconst (M := M_X12_glen) (pc := 12) dX12_glen_12 ⟨by decide, by decide⟩ ?_
    refine aw_cvi (as := [(0, 1)]) (st := []) (M := M_X12_glen) (pc := 13) (f_X12_refuse  hF) dX12_glen_13 rfl (Or.inl ⟨_, _, _, rfl, rfl⟩) cy_X12_refuse ml_X12_91 (by decide) (by decide) (Nat.le_of_ble_eq_true rfl) (fun r7 h6 hF => ?_)
    exact aw_ireti (M := M_X12_glen) (pc := 16) dX12_glen_16 rfl ⟨_, rfl, hF⟩
abbrev M_X12_goal : Hd := (cX12_goal, 1, RX12, (some .int), (6, 151), sc0)
def F_X12_goal (h : Mem)  (Q : Int → Mem → Prop) : Prop :=
  (F_X12_goalNow h  (fun r2 h1 => (F_X12_gives h1 r2 (fun r4 h3 => Q r4 h3))))
set_option maxRecDepth 100000 in
set_option maxHeartbeats 4000000 in
theorem f_X12_goal {h : Mem}  {Q : Int → Mem → Prop}  (hF : F_X12_goal h  Q) : Ct yX12_goal cX12_goal 1 (some .int) (6, 151) [vr 161] h (qi Q) := by
  refine Ct.of np_RX12 (Nat.le_of_ble_eq_true rfl) ?_
  unfold F_X12_goal at hF
  show AW M_X12_goal 0 [(0, vr 161)] [] h (qi Q)
  refine aw_aload_n (j := 0) (M := M_X12_goal) (pc := 0) dX12_goal_0 rfl rfl ?_
  refine aw_aload_n (j := 0) (M := M_X12_goal) (pc := 1) dX12_goal_1 rfl rfl ?_
  refine aw_cvi (as := []) (st := [vr 161]) (M := M_X12_goal) (pc := 2) (f_X12_goalNow  hF) dX12_goal_2 rfl (Or.inl ⟨_, _, _, rfl, rfl⟩) cy_X12_goalNow ml_X12_293 (by decide) (by decide) (Nat.le_of_ble_eq_true rfl) (fun r2 h1 hF => ?_)
  refine aw_cvi (as := [(0, r2)]) (st := []) (M := M_X12_goal) (pc := 5) (f_X12_gives  hF) dX12_goal_5 rfl (Or.inl ⟨_, _, _, rfl, rfl⟩) cy_X12_gives ml_X12_95 (by decide) (by decide) (Nat.le_of_ble_eq_true rfl) (fun r4 h3 hF => ?_)
  exact aw_ireti (M := M_X12_goal) (pc := 8) dX12_goal_8 rfl ⟨_, rfl, hF⟩
abbrev M_X12_goalThing : Hd := (cX12_goalThing, 1, RX12, (some .int), (5, 130), sc0)
def F_X12_goalThing (h : Mem)  (Q : Int → Mem → Prop) : Prop :=
  (F_X12_mindedMost h  (fun r2 h1 => (F_X12_orNone h1 r2 (fun r4 h3 => Q r4 h3))))
set_option maxRecDepth 100000 in
set_option maxHeartbeats 4000000 in
theorem f_X12_goalThing {h : Mem}  {Q : Int → Mem → Prop}  (hF : F_X12_goalThing h  Q) : Ct yX12_goalThing cX12_goalThing 1 (some .int) (5, 130) [vr 161] h (qi Q) := by
  refine Ct.of np_RX12 (Nat.le_of_ble_eq_true rfl) ?_
  unfold F_X12_goalThing at hF
  show AW M_X12_goalThing 0 [(0, vr 161)] [] h (qi Q)
  refine aw_aload_n (j := 0) (M := M_X12_goalThing) (pc := 0) dX12_goalThing_0 rfl rfl ?_
  refine aw_aload_n (j := 0) (M := M_X12_goalThing) (pc := 1) dX12_goalThing_1 rfl rfl ?_
  refine aw_cvi (as := []) (st := [vr 161]) (M := M_X12_goalThing) (pc := 2) (f_X12_mindedMost  hF) dX12_goalThing_2 rfl (Or.inl ⟨_, _, _, rfl, rfl⟩) cy_X12_mindedMost ml_X12_269 (by decide) (by decide) (Nat.le_of_ble_eq_true rfl) (fun r2 h1 hF => ?_)
  refine aw_cvi (as := [(0, r2)]) (st := []) (M := M_X12_goalThing) (pc := 5) (f_X12_orNone  hF) dX12_goalThing_5 rfl (Or.inl ⟨_, _, _, rfl, rfl⟩) cy_X12_orNone ml_X12_296 (by decide) (by decide) (Nat.le_of_ble_eq_true rfl) (fun r4 h3 hF => ?_)
  exact aw_ireti (M := M_X12_goalThing) (pc := 8) dX12_goalThing_8 rfl ⟨_, rfl, hF⟩
abbrev M_X12_is : Hd := (cX12_is, 2, RX12, (some .boolean), (1, 45), sc0)
def F_X12_is (h : Mem) (a1 : Int) (Q : Int → Mem → Prop) : Prop :=
  (∀ h1 : Mem, h1 = mset h 161 2 a1 → ((¬ (a1 = 0) → Q 0 h1) ∧ (a1 = 0 → Q 1 h1)))
set_option maxRecDepth 100000 in
set_option maxHeartbeats 4000000 in
theorem f_X12_is {h : Mem} {a1 : Int} {Q : Int → Mem → Prop}  (hF : F_X12_is h a1 Q) : Ct yX12_is cX12_is 2 (some .boolean) (1, 45) [vr 161, (0, a1)] h (qi Q) := by
  refine Ct.of np_RX12 (Nat.le_of_ble_eq_true rfl) ?_
  unfold F_X12_is at hF
  show AW M_X12_is 0 [(0, vr 161), (1, (0, a1))] [] h (qi Q)
  refine aw_aload_n (j := 0) (M := M_X12_is) (pc := 0) dX12_is_0 rfl rfl ?_
  refine aw_iload_n (j := 1) (M := M_X12_is) (pc := 1) dX12_is_1 rfl rfl ?_
  refine pf_X12_85 (M := M_X12_is) (pc := 2) rfl dX12_is_2 rfl ?_
  obtain ⟨h1, eh1⟩ : ∃ y : Mem, y = mset h 161 2 a1 := ⟨_, rfl⟩
  have hF := hF h1 eh1
  rw [← eh1]
  refine aw_iload_n (j := 1) (M := M_X12_is) (pc := 5) dX12_is_5 rfl rfl ?_
  refine aw_if_ne (tgt := 13) (M := M_X12_is) (pc := 6) dX12_is_6 rfl (fun hc => ?_) (fun hc => ?_)
  · have hF := hF.1 hc
    refine aw_iconst (M := M_X12_is) (pc := 13) dX12_is_13 ⟨by decide, by decide⟩ ?_
    exact aw_iretz (M := M_X12_is) (pc := 14) dX12_is_14 rfl (Or.inl rfl) ⟨_, rfl, hF⟩
  · have hF := hF.2 hc
    refine aw_iconst (M := M_X12_is) (pc := 9) dX12_is_9 ⟨by decide, by decide⟩ ?_
    refine aw_goto (tgt := 14) (M := M_X12_is) (pc := 10) dX12_is_10 rfl ?_
    exact aw_iretz (M := M_X12_is) (pc := 14) dX12_is_14 rfl (Or.inr rfl) ⟨_, rfl, hF⟩
abbrev M_X12_grip : Hd := (cX12_grip, 3, RX12, (some .boolean), (2, 70), sc0)
def F_X12_grip (h : Mem) (a1 : Int) (a2 : Int) (Q : Int → Mem → Prop) : Prop :=
  (F_X12_isThing h a1 (fun r2 h1 => ((r2 = 0 → (F_X12_is h1 1 (fun r4 h3 => (InZ r4 ∧ Q r4 h3)))) ∧ (¬ (r2 = 0) → (F_X12_isFrom h1 a2 1 24 (fun r6 h5 => ((¬ (r6 = 0) → (F_X12_thingRow h5 a1 (fun r8 h7 => (InR (r8 + 1) ∧ ((0 ≤ (r8 + 1) ∧ (r8 + 1) < 3008) ∧ (∀ h11 : Mem, h11 = mset h7 162 (r8 + 1).toNat a2 → (F_X12_is h11 0 (fun r13 h12 => (InZ r13 ∧ Q r13 h12))))))))) ∧ (r6 = 0 → (F_X12_is h5 1 (fun r15 h14 => (InZ r15 ∧ Q r15 h14)))))))))))
set_option maxRecDepth 100000 in
set_option maxHeartbeats 4000000 in
theorem f_X12_grip {h : Mem} {a1 : Int} {a2 : Int} {Q : Int → Mem → Prop}  (hF : F_X12_grip h a1 a2 Q) : Ct yX12_grip cX12_grip 3 (some .boolean) (2, 70) [vr 161, (0, a1), (0, a2)] h (qi Q) := by
  refine Ct.of np_RX12 (Nat.le_of_ble_eq_true rfl) ?_
  unfold F_X12_grip at hF
  show AW M_X12_grip 0 [(0, vr 161), (1, (0, a1)), (2, (0, a2))] [] h (qi Q)
  refine aw_aload_n (j := 0) (M := M_X12_grip) (pc := 0) dX12_grip_0 rfl rfl ?_
  refine aw_iload_n (j := 1) (M := M_X12_grip) (pc := 1) dX12_grip_1 rfl rfl ?_
  refine aw_cvi (as := [(0, a1)]) (st := []) (M := M_X12_grip) (pc := 2) (f_X12_isThing  hF) dX12_grip_2 rfl (Or.inl ⟨_, _, _, rfl, rfl⟩) cy_X12_isThing ml_X12_284 (by decide) (by decide) (Nat.le_of_ble_eq_true rfl) (fun r2 h1 hF => ?_)
  refine aw_if_eq (tgt := 20) (M := M_X12_grip) (pc := 5) dX12_grip_5 rfl (fun hc => ?_) (fun hc => ?_)
  · have hF := hF.1 hc
    refine aw_aload_n (j := 0) (M := M_X12_grip) (pc := 20) dX12_grip_20 rfl rfl ?_
    refine aw_iconst (M := M_X12_grip) (pc := 21) dX12_grip_21 ⟨by decide, by decide⟩ ?_
    refine aw_cvi (as := [(0, 1)]) (st := []) (M := M_X12_grip) (pc := 22) (f_X12_is  hF) dX12_grip_22 rfl (Or.inl ⟨_, _, _, rfl, rfl⟩) cy_X12_is ml_X12_98 (by decide) (by decide) (Nat.le_of_ble_eq_true rfl) (fun r4 h3 hF => ?_)
    exact aw_iretz (M := M_X12_grip) (pc := 25) dX12_grip_25 rfl hF.1 ⟨_, rfl, hF.2⟩
  · have hF := hF.2 hc
    refine aw_iload_n (j := 2) (M := M_X12_grip) (pc := 8) dX12_grip_8 rfl rfl ?_
    refine aw_i2l (M := M_X12_grip) (pc := 9) dX12_grip_9 ?_
    refine aw_lconst (v := 1) (M := M_X12_grip) (pc := 10) dX12_grip_10 ⟨rfl, ⟨by decide, by decide⟩⟩ ?_
    refine aw_ldc2 (v := 24) (M := M_X12_grip) (pc := 11) dX12_grip_11 kl_X12_335 ⟨by decide, by decide⟩ ?_
    refine aw_csi (as := [(1, a2), (1, 1), (1, 24)]) (st := []) (M := M_X12_grip) (pc := 14) (f_X12_isFrom  hF) dX12_grip_14 rfl cy_X12_isFrom ml_X12_316 (by decide) (by decide) (Nat.le_of_ble_eq_true rfl) (fun r6 h5 hF => ?_)
    refine aw_if_ne (tgt := 26) (M := M_X12_grip) (pc := 17) dX12_grip_17 rfl (fun hc => ?_) (fun hc => ?_)
    · have hF := hF.1 hc
      refine aw_aload_n (j := 0) (M := M_X12_grip) (pc := 26) dX12_grip_26 rfl rfl ?_
      refine gf_X12_7 (M := M_X12_grip) (pc := 27) rfl dX12_grip_27 rfl (r := 162) rfl ?_
      refine aw_iload_n (j := 1) (M := M_X12_grip) (pc := 30) dX12_grip_30 rfl rfl ?_
      refine aw_csi (as := [(0, a1)]) (st := [vr 162]) (M := M_X12_grip) (pc := 31) (f_X12_thingRow  hF) dX12_grip_31 rfl cy_X12_thingRow ml_X12_203 (by decide) (by decide) (Nat.le_of_ble_eq_true rfl) (fun r8 h7 hF => ?_)
      refine aw_iconst (M := M_X12_grip) (pc := 34) dX12_grip_34 ⟨by decide, by decide⟩ ?_
      obtain ⟨o9, hF⟩ := hF
      refine aw_iadd (M := M_X12_grip) (pc := 35) dX12_grip_35 rfl o9 ?_
      refine aw_iload_n (j := 2) (M := M_X12_grip) (pc := 36) dX12_grip_36 rfl rfl ?_
      obtain ⟨o10, hF⟩ := hF
      refine aw_iast (k := (r8 + 1).toNat) (M := M_X12_grip) (pc := 37) dX12_grip_37 rfl o10 rfl ?_
      obtain ⟨h11, eh11⟩ : ∃ y : Mem, y = mset h7 162 (r8 + 1).toNat a2 := ⟨_, rfl⟩
      have hF := hF h11 eh11
      rw [← eh11]
      refine aw_aload_n (j := 0) (M := M_X12_grip) (pc := 38) dX12_grip_38 rfl rfl ?_
      refine aw_iconst (M := M_X12_grip) (pc := 39) dX12_grip_39 ⟨by decide, by decide⟩ ?_
      refine aw_cvi (as := [(0, 0)]) (st := []) (M := M_X12_grip) (pc := 40) (f_X12_is  hF) dX12_grip_40 rfl (Or.inl ⟨_, _, _, rfl, rfl⟩) cy_X12_is ml_X12_98 (by decide) (by decide) (Nat.le_of_ble_eq_true rfl) (fun r13 h12 hF => ?_)
      exact aw_iretz (M := M_X12_grip) (pc := 43) dX12_grip_43 rfl hF.1 ⟨_, rfl, hF.2⟩
    · have hF := hF.2 hc
      refine aw_aload_n (j := 0) (M := M_X12_grip) (pc := 20) dX12_grip_20 rfl rfl ?_
      refine aw_iconst (M := M_X12_grip) (pc := 21) dX12_grip_21 ⟨by decide, by decide⟩ ?_
      refine aw_cvi (as := [(0, 1)]) (st := []) (M := M_X12_grip) (pc := 22) (f_X12_is  hF) dX12_grip_22 rfl (Or.inl ⟨_, _, _, rfl, rfl⟩) cy_X12_is ml_X12_98 (by decide) (by decide) (Nat.le_of_ble_eq_true rfl) (fun r15 h14 hF => ?_)
      exact aw_iretz (M := M_X12_grip) (pc := 25) dX12_grip_25 rfl hF.1 ⟨_, rfl, hF.2⟩
abbrev M_X12_groundIn : Hd := (cX12_groundIn, 5, RX12, (some .int), (9, 220), sc0)
def F_X12_groundIn (h : Mem) (a1 : Int) (a2 : Int) (Q : Int → Mem → Prop) : Prop :=
  (F_X12_isMill h a1 (fun r2 h1 => ((r2 = 0 → (F_X12_refuse h1 1 (fun r4 h3 => Q r4 h3))) ∧ (¬ (r2 = 0) → (F_X12_isSpan h1 a2 (fun r6 h5 => ((¬ (r6 = 0) → (F_X12_keeps h5 2688 (fun h7 => (F_X12_millOf h7 a1 2 (fun r10 h9 => (F_X12_hoursGo h9 a2 (fun r12 h11 => (F_X12_millOf h11 a1 2 (fun r14 h13 => (InR (r14 - r10) ∧ (F_X12_restores h13 2688 (fun h16 => (F_X12_gives h16 (r14 - r10) (fun r19 h18 => Q r19 h18)))))))))))))) ∧ (r6 = 0 → (F_X12_refuse h5 1 (fun r21 h20 => Q r21 h20))))))))))
set_option maxRecDepth 100000 in
set_option maxHeartbeats 4000000 in
theorem f_X12_groundIn {h : Mem} {a1 : Int} {a2 : Int} {Q : Int → Mem → Prop}  (hF : F_X12_groundIn h a1 a2 Q) : Ct yX12_groundIn cX12_groundIn 5 (some .int) (9, 220) [vr 161, (0, a1), (0, a2)] h (qi Q) := by
  refine Ct.of np_RX12 (Nat.le_of_ble_eq_true rfl) ?_
  unfold F_X12_groundIn at hF
  show AW M_X12_groundIn 0 [(0, vr 161), (1, (0, a1)), (2, (0, a2))] [] h (qi Q)
  refine aw_aload_n (j := 0) (M := M_X12_groundIn) (pc := 0) dX12_groundIn_0 rfl rfl ?_
  refine aw_iload_n (j := 1) (M := M_X12_groundIn) (pc := 1) dX12_groundIn_1 rfl rfl ?_
  refine aw_cvi (as := [(0, a1)]) (st := []) (M := M_X12_groundIn) (pc := 2) (f_X12_isMill  hF) dX12_groundIn_2 rfl (Or.inl ⟨_, _, _, rfl, rfl⟩) cy_X12_isMill ml_X12_287 (by decide) (by decide) (Nat.le_of_ble_eq_true rfl) (fun r2 h1 hF => ?_)
  refine aw_if_eq (tgt := 15) (M := M_X12_groundIn) (pc := 5) dX12_groundIn_5 rfl (fun hc => ?_) (fun hc => ?_)
  · have hF := hF.1 hc
    refine aw_aload_n (j := 0) (M := M_X12_groundIn) (pc := 15) dX12_groundIn_15 rfl rfl ?_
    refine aw_iconst (M := M_X12_groundIn) (pc := 16) dX12_groundIn_16 ⟨by decide, by decide⟩ ?_
    refine aw_cvi (as := [(0, 1)]) (st := []) (M := M_X12_groundIn) (pc := 17) (f_X12_refuse  hF) dX12_groundIn_17 rfl (Or.inl ⟨_, _, _, rfl, rfl⟩) cy_X12_refuse ml_X12_91 (by decide) (by decide) (Nat.le_of_ble_eq_true rfl) (fun r4 h3 hF => ?_)
    exact aw_ireti (M := M_X12_groundIn) (pc := 20) dX12_groundIn_20 rfl ⟨_, rfl, hF⟩
  · have hF := hF.2 hc
    refine aw_iload_n (j := 2) (M := M_X12_groundIn) (pc := 8) dX12_groundIn_8 rfl rfl ?_
    refine aw_csi (as := [(0, a2)]) (st := []) (M := M_X12_groundIn) (pc := 9) (f_X12_isSpan  hF) dX12_groundIn_9 rfl cy_X12_isSpan ml_X12_347 (by decide) (by decide) (Nat.le_of_ble_eq_true rfl) (fun r6 h5 hF => ?_)
    refine aw_if_ne (tgt := 21) (M := M_X12_groundIn) (pc := 12) dX12_groundIn_12 rfl (fun hc => ?_) (fun hc => ?_)
    · have hF := hF.1 hc
      refine aw_aload_n (j := 0) (M := M_X12_groundIn) (pc := 21) dX12_groundIn_21 rfl rfl ?_
      refine aw_sipush (M := M_X12_groundIn) (pc := 22) dX12_groundIn_22 ⟨rfl, ⟨by decide, by decide⟩⟩ ?_
      refine aw_cvv (as := [(0, 2688)]) (st := []) (M := M_X12_groundIn) (pc := 25) (f_X12_keeps  hF) dX12_groundIn_25 rfl (Or.inl ⟨_, _, _, rfl, rfl⟩) cy_X12_keeps ml_X12_350 (by decide) (by decide) (Nat.le_of_ble_eq_true rfl) (fun h7 hF => ?_)
      refine aw_aload_n (j := 0) (M := M_X12_groundIn) (pc := 28) dX12_groundIn_28 rfl rfl ?_
      refine aw_iload_n (j := 1) (M := M_X12_groundIn) (pc := 29) dX12_groundIn_29 rfl rfl ?_
      refine aw_iconst (M := M_X12_groundIn) (pc := 30) dX12_groundIn_30 ⟨by decide, by decide⟩ ?_
      refine aw_cvi (as := [(0, a1), (0, 2)]) (st := []) (M := M_X12_groundIn) (pc := 31) (f_X12_millOf  hF) dX12_groundIn_31 rfl (Or.inl ⟨_, _, _, rfl, rfl⟩) cy_X12_millOf ml_X12_290 (by decide) (by decide) (Nat.le_of_ble_eq_true rfl) (fun r10 h9 hF => ?_)
      refine aw_istore_n (ls' := [(3, (0, r10)), (0, vr 161), (1, (0, a1)), (2, (0, a2))]) (M := M_X12_groundIn) (pc := 34) dX12_groundIn_34 rfl (by decide) rfl ?_
      refine aw_aload_n (j := 1) (M := M_X12_groundIn) (pc := 35) dX12_groundIn_35 rfl rfl ?_
      refine aw_iload_n (j := 3) (M := M_X12_groundIn) (pc := 36) dX12_groundIn_36 rfl rfl ?_
      refine aw_cvi (as := [(0, a2)]) (st := []) (M := M_X12_groundIn) (pc := 37) (f_X12_hoursGo  hF) dX12_groundIn_37 rfl (Or.inl ⟨_, _, _, rfl, rfl⟩) cy_X12_hoursGo ml_X12_320 (by decide) (by decide) (Nat.le_of_ble_eq_true rfl) (fun r12 h11 hF => ?_)
      refine aw_pop (M := M_X12_groundIn) (pc := 40) dX12_groundIn_40 rfl ?_
      refine aw_aload_n (j := 1) (M := M_X12_groundIn) (pc := 41) dX12_groundIn_41 rfl rfl ?_
      refine aw_iload_n (j := 2) (M := M_X12_groundIn) (pc := 42) dX12_groundIn_42 rfl rfl ?_
      refine aw_iconst (M := M_X12_groundIn) (pc := 43) dX12_groundIn_43 ⟨by decide, by decide⟩ ?_
      refine aw_cvi (as := [(0, a1), (0, 2)]) (st := []) (M := M_X12_groundIn) (pc := 44) (f_X12_millOf  hF) dX12_groundIn_44 rfl (Or.inl ⟨_, _, _, rfl, rfl⟩) cy_X12_millOf ml_X12_290 (by decide) (by decide) (Nat.le_of_ble_eq_true rfl) (fun r14 h13 hF => ?_)
      refine aw_iload_n (j := 0) (M := M_X12_groundIn) (pc := 47) dX12_groundIn_47 rfl rfl ?_
      obtain ⟨o15, hF⟩ := hF
      refine aw_isub (M := M_X12_groundIn) (pc := 48) dX12_groundIn_48 rfl o15 ?_
      refine aw_istore (ls' := [(4, (0, r14 - r10)), (3, (0, r10)), (0, vr 161), (1, (0, a1)), (2, (0, a2))]) (M := M_X12_groundIn) (pc := 49) dX12_groundIn_49  (by decide) rfl ?_
      refine aw_aload_n (j := 2) (M := M_X12_groundIn) (pc := 51) dX12_groundIn_51 rfl rfl ?_
      refine aw_sipush (M := M_X12_groundIn) (pc := 52) dX12_groundIn_52 ⟨rfl, ⟨by decide, by decide⟩⟩ ?_
      refine aw_cvv (as := [(0, 2688)]) (st := []) (M := M_X12_groundIn) (pc := 55) (f_X12_restores  hF) dX12_groundIn_55 rfl (Or.inl ⟨_, _, _, rfl, rfl⟩) cy_X12_restores ml_X12_353 (by decide) (by decide) (Nat.le_of_ble_eq_true rfl) (fun h16 hF => ?_)
      refine aw_aload_n (j := 2) (M := M_X12_groundIn) (pc := 58) dX12_groundIn_58 rfl rfl ?_
      refine aw_iload (j := 0) (M := M_X12_groundIn) (pc := 59) dX12_groundIn_59  rfl ?_
      refine aw_cvi (as := [(0, r14 - r10)]) (st := []) (M := M_X12_groundIn) (pc := 61) (f_X12_gives  hF) dX12_groundIn_61 rfl (Or.inl ⟨_, _, _, rfl, rfl⟩) cy_X12_gives ml_X12_95 (by decide) (by decide) (Nat.le_of_ble_eq_true rfl) (fun r19 h18 hF => ?_)
      exact aw_ireti (M := M_X12_groundIn) (pc := 64) dX12_groundIn_64 rfl ⟨_, rfl, hF⟩
    · have hF := hF.2 hc
      refine aw_aload_n (j := 0) (M := M_X12_groundIn) (pc := 15) dX12_groundIn_15 rfl rfl ?_
      refine aw_iconst (M := M_X12_groundIn) (pc := 16) dX12_groundIn_16 ⟨by decide, by decide⟩ ?_
      refine aw_cvi (as := [(0, 1)]) (st := []) (M := M_X12_groundIn) (pc := 17) (f_X12_refuse  hF) dX12_groundIn_17 rfl (Or.inl ⟨_, _, _, rfl, rfl⟩) cy_X12_refuse ml_X12_91 (by decide) (by decide) (Nat.le_of_ble_eq_true rfl) (fun r21 h20 hF => ?_)
      exact aw_ireti (M := M_X12_groundIn) (pc := 20) dX12_groundIn_20 rfl ⟨_, rfl, hF⟩
abbrev M_X12_heaviestOf : Hd := (cX12_heaviestOf, 5, RX12, (some .int), (5, 132), sc0)
def L_X12_heaviestOf_21 (h : Mem) (v1 : Int) (v2 : Int) (v3 : Int) (Q : Int → Mem → Prop) : Prop := AW M_X12_heaviestOf 21 [(0, vr 161), (1, (0, v1)), (2, (0, v2)), (3, (0, v3))] [] h (qi Q)
def B_X12_heaviestOf_21 (h : Mem) (v1 : Int) (v2 : Int) (v3 : Int) (Q : Int → Mem → Prop) : Prop :=
  (((ishl 1 (h 162 0)) ≤ v3 → Q v2 h) ∧ (¬ ((ishl 1 (h 162 0)) ≤ v3) → (F_X12_thingsThat h 1 (fun r9 h8 => ((¬ ((iand v3 (ixor r9 (-1))) = 0) → (InR (v3 + 1) ∧ L_X12_heaviestOf_21 h8 v1 v2 (v3 + 1) Q)) ∧ ((iand v3 (ixor r9 (-1))) = 0 → (F_X12_weightOf h8 v3 (fun r12 h11 => ((r12 ≤ v1 → (F_X12_weightOf h11 v3 (fun r14 h13 => (F_X12_weightOf h13 v2 (fun r16 h15 => (InR (r14 - r16) ∧ ((0 < (r14 - r16) → (InR (v3 + 1) ∧ L_X12_heaviestOf_21 h15 v1 v3 (v3 + 1) Q)) ∧ (¬ (0 < (r14 - r16)) → ((¬ ((r14 - r16) = 0) → (InR (v3 + 1) ∧ L_X12_heaviestOf_21 h15 v1 v2 (v3 + 1) Q)) ∧ ((r14 - r16) = 0 → (F_X12_bits h15 v3 (fun r21 h20 => (F_X12_bits h20 v2 (fun r23 h22 => ((r23 ≤ r21 → (InR (v3 + 1) ∧ L_X12_heaviestOf_21 h22 v1 v2 (v3 + 1) Q)) ∧ (¬ (r23 ≤ r21) → (InR (v3 + 1) ∧ L_X12_heaviestOf_21 h22 v1 v3 (v3 + 1) Q))))))))))))))))) ∧ (¬ (r12 ≤ v1) → (InR (v3 + 1) ∧ L_X12_heaviestOf_21 h11 v1 v2 (v3 + 1) Q)))))))))))
set_option maxRecDepth 100000 in
set_option maxHeartbeats 4000000 in
theorem l_X12_heaviestOf_21 {h : Mem} {v1 : Int} {v2 : Int} {v3 : Int} {Q : Int → Mem → Prop}  (hF : B_X12_heaviestOf_21 h v1 v2 v3 Q) : L_X12_heaviestOf_21 h v1 v2 v3 Q := by
  unfold B_X12_heaviestOf_21 at hF
  show AW M_X12_heaviestOf 21 [(0, vr 161), (1, (0, v1)), (2, (0, v2)), (3, (0, v3))] [] h (qi Q)
  refine aw_iload_n (j := 3) (M := M_X12_heaviestOf) (pc := 21) dX12_heaviestOf_21 rfl rfl ?_
  refine aw_iconst (M := M_X12_heaviestOf) (pc := 22) dX12_heaviestOf_22 ⟨by decide, by decide⟩ ?_
  refine aw_aload_n (j := 0) (M := M_X12_heaviestOf) (pc := 23) dX12_heaviestOf_23 rfl rfl ?_
  refine gf_X12_7 (M := M_X12_heaviestOf) (pc := 24) rfl dX12_heaviestOf_24 rfl (r := 162) rfl ?_
  refine aw_iconst (M := M_X12_heaviestOf) (pc := 27) dX12_heaviestOf_27 ⟨by decide, by decide⟩ ?_
  refine aw_iald (k := 0) (M := M_X12_heaviestOf) (pc := 28) dX12_heaviestOf_28 rfl ⟨by decide, by decide⟩ rfl ?_
  refine aw_ishl (M := M_X12_heaviestOf) (pc := 29) dX12_heaviestOf_29 ?_
  refine aw_icmp_ge (tgt := 99) (M := M_X12_heaviestOf) (pc := 30) dX12_heaviestOf_30 rfl (fun hc => ?_) (fun hc => ?_)
  · have hF := hF.1 hc
    refine aw_iload_n (j := 2) (M := M_X12_heaviestOf) (pc := 99) dX12_heaviestOf_99 rfl rfl ?_
    exact aw_ireti (M := M_X12_heaviestOf) (pc := 100) dX12_heaviestOf_100 rfl ⟨_, rfl, hF⟩
  · have hF := hF.2 hc
    refine aw_iload_n (j := 3) (M := M_X12_heaviestOf) (pc := 33) dX12_heaviestOf_33 rfl rfl ?_
    refine aw_aload_n (j := 0) (M := M_X12_heaviestOf) (pc := 34) dX12_heaviestOf_34 rfl rfl ?_
    refine aw_iconst (M := M_X12_heaviestOf) (pc := 35) dX12_heaviestOf_35 ⟨by decide, by decide⟩ ?_
    refine aw_cvi (as := [(0, 1)]) (st := [(0, v3)]) (M := M_X12_heaviestOf) (pc := 36) (f_X12_thingsThat  hF) dX12_heaviestOf_36 rfl (Or.inl ⟨_, _, _, rfl, rfl⟩) cy_X12_thingsThat ml_X12_278 (by decide) (by decide) (Nat.le_of_ble_eq_true rfl) (fun r9 h8 hF => ?_)
    refine aw_iconst (M := M_X12_heaviestOf) (pc := 39) dX12_heaviestOf_39 ⟨by decide, by decide⟩ ?_
    refine aw_ixor (M := M_X12_heaviestOf) (pc := 40) dX12_heaviestOf_40 ?_
    refine aw_iand (M := M_X12_heaviestOf) (pc := 41) dX12_heaviestOf_41 ?_
    refine aw_if_ne (tgt := 93) (M := M_X12_heaviestOf) (pc := 42) dX12_heaviestOf_42 rfl (fun hc => ?_) (fun hc => ?_)
    · have hF := hF.1 hc
      obtain ⟨o10, hF⟩ := hF
      refine aw_iinc (j := 3) (x := v3) (r := v3 + 1) (ls' := [(3, (0, v3 + 1)), (0, vr 161), (1, (0, v1)), (2, (0, v2))]) (M := M_X12_heaviestOf) (pc := 93) dX12_heaviestOf_93 rfl rfl o10 (by decide) rfl ?_
      refine aw_goto (tgt := 21) (M := M_X12_heaviestOf) (pc := 96) dX12_heaviestOf_96 rfl ?_
      exact aw_ls [1, 2, 3, 0] rfl hF
    · have hF := hF.2 hc
      refine aw_aload_n (j := 0) (M := M_X12_heaviestOf) (pc := 45) dX12_heaviestOf_45 rfl rfl ?_
      refine aw_iload_n (j := 3) (M := M_X12_heaviestOf) (pc := 46) dX12_heaviestOf_46 rfl rfl ?_
      refine aw_cvi (as := [(0, v3)]) (st := []) (M := M_X12_heaviestOf) (pc := 47) (f_X12_weightOf  hF) dX12_heaviestOf_47 rfl (Or.inl ⟨_, _, _, rfl, rfl⟩) cy_X12_weightOf ml_X12_281 (by decide) (by decide) (Nat.le_of_ble_eq_true rfl) (fun r12 h11 hF => ?_)
      refine aw_iload_n (j := 1) (M := M_X12_heaviestOf) (pc := 50) dX12_heaviestOf_50 rfl rfl ?_
      refine aw_icmp_le (tgt := 57) (M := M_X12_heaviestOf) (pc := 51) dX12_heaviestOf_51 rfl (fun hc => ?_) (fun hc => ?_)
      · have hF := hF.1 hc
        refine aw_aload_n (j := 0) (M := M_X12_heaviestOf) (pc := 57) dX12_heaviestOf_57 rfl rfl ?_
        refine aw_iload_n (j := 3) (M := M_X12_heaviestOf) (pc := 58) dX12_heaviestOf_58 rfl rfl ?_
        refine aw_cvi (as := [(0, v3)]) (st := []) (M := M_X12_heaviestOf) (pc := 59) (f_X12_weightOf  hF) dX12_heaviestOf_59 rfl (Or.inl ⟨_, _, _, rfl, rfl⟩) cy_X12_weightOf ml_X12_281 (by decide) (by decide) (Nat.le_of_ble_eq_true rfl) (fun r14 h13 hF => ?_)
        refine aw_aload_n (j := 0) (M := M_X12_heaviestOf) (pc := 62) dX12_heaviestOf_62 rfl rfl ?_
        refine aw_iload_n (j := 2) (M := M_X12_heaviestOf) (pc := 63) dX12_heaviestOf_63 rfl rfl ?_
        refine aw_cvi (as := [(0, v2)]) (st := [(0, r14)]) (M := M_X12_heaviestOf) (pc := 64) (f_X12_weightOf  hF) dX12_heaviestOf_64 rfl (Or.inl ⟨_, _, _, rfl, rfl⟩) cy_X12_weightOf ml_X12_281 (by decide) (by decide) (Nat.le_of_ble_eq_true rfl) (fun r16 h15 hF => ?_)
        obtain ⟨o17, hF⟩ := hF
        refine aw_isub (M := M_X12_heaviestOf) (pc := 67) dX12_heaviestOf_67 rfl o17 ?_
        refine aw_istore (ls' := [(4, (0, r14 - r16)), (0, vr 161), (1, (0, v1)), (2, (0, v2)), (3, (0, v3))]) (M := M_X12_heaviestOf) (pc := 68) dX12_heaviestOf_68  (by decide) rfl ?_
        refine aw_iload (j := 0) (M := M_X12_heaviestOf) (pc := 70) dX12_heaviestOf_70  rfl ?_
        refine aw_if_gt (tgt := 91) (M := M_X12_heaviestOf) (pc := 72) dX12_heaviestOf_72 rfl (fun hc => ?_) (fun hc => ?_)
        · have hF := hF.1 hc
          refine aw_iload_n (j := 4) (M := M_X12_heaviestOf) (pc := 91) dX12_heaviestOf_91 rfl rfl ?_
          refine aw_istore_n (ls' := [(2, (0, v3)), (4, (0, r14 - r16)), (0, vr 161), (1, (0, v1)), (3, (0, v3))]) (M := M_X12_heaviestOf) (pc := 92) dX12_heaviestOf_92 rfl (by decide) rfl ?_
          obtain ⟨o18, hF⟩ := hF
          refine aw_iinc (j := 4) (x := v3) (r := v3 + 1) (ls' := [(3, (0, v3 + 1)), (2, (0, v3)), (4, (0, r14 - r16)), (0, vr 161), (1, (0, v1))]) (M := M_X12_heaviestOf) (pc := 93) dX12_heaviestOf_93 rfl rfl o18 (by decide) rfl ?_
          refine aw_goto (tgt := 21) (M := M_X12_heaviestOf) (pc := 96) dX12_heaviestOf_96 rfl ?_
          exact aw_ls [3, 4, 1, 0] rfl hF
        · have hF := hF.2 hc
          refine aw_iload (j := 0) (M := M_X12_heaviestOf) (pc := 75) dX12_heaviestOf_75  rfl ?_
          refine aw_if_ne (tgt := 93) (M := M_X12_heaviestOf) (pc := 77) dX12_heaviestOf_77 rfl (fun hc => ?_) (fun hc => ?_)
          · have hF := hF.1 hc
            obtain ⟨o19, hF⟩ := hF
            refine aw_iinc (j := 4) (x := v3) (r := v3 + 1) (ls' := [(3, (0, v3 + 1)), (4, (0, r14 - r16)), (0, vr 161), (1, (0, v1)), (2, (0, v2))]) (M := M_X12_heaviestOf) (pc := 93) dX12_heaviestOf_93 rfl rfl o19 (by decide) rfl ?_
            refine aw_goto (tgt := 21) (M := M_X12_heaviestOf) (pc := 96) dX12_heaviestOf_96 rfl ?_
            exact aw_ls [2, 3, 4, 0] rfl hF
          · have hF := hF.2 hc
            refine aw_iload_n (j := 4) (M := M_X12_heaviestOf) (pc := 80) dX12_heaviestOf_80 rfl rfl ?_
            refine aw_csi (as := [(0, v3)]) (st := []) (M := M_X12_heaviestOf) (pc := 81) (f_X12_bits  hF) dX12_heaviestOf_81 rfl cy_X12_bits ml_X12_409 (by decide) (by decide) (Nat.le_of_ble_eq_true rfl) (fun r21 h20 hF => ?_)
            refine aw_iload_n (j := 3) (M := M_X12_heaviestOf) (pc := 84) dX12_heaviestOf_84 rfl rfl ?_
            refine aw_csi (as := [(0, v2)]) (st := [(0, r21)]) (M := M_X12_heaviestOf) (pc := 85) (f_X12_bits  hF) dX12_heaviestOf_85 rfl cy_X12_bits ml_X12_409 (by decide) (by decide) (Nat.le_of_ble_eq_true rfl) (fun r23 h22 hF => ?_)
            refine aw_icmp_ge (tgt := 93) (M := M_X12_heaviestOf) (pc := 88) dX12_heaviestOf_88 rfl (fun hc => ?_) (fun hc => ?_)
            · have hF := hF.1 hc
              obtain ⟨o24, hF⟩ := hF
              refine aw_iinc (j := 4) (x := v3) (r := v3 + 1) (ls' := [(3, (0, v3 + 1)), (4, (0, r14 - r16)), (0, vr 161), (1, (0, v1)), (2, (0, v2))]) (M := M_X12_heaviestOf) (pc := 93) dX12_heaviestOf_93 rfl rfl o24 (by decide) rfl ?_
              refine aw_goto (tgt := 21) (M := M_X12_heaviestOf) (pc := 96) dX12_heaviestOf_96 rfl ?_
              exact aw_ls [2, 3, 4, 0] rfl hF
            · have hF := hF.2 hc
              refine aw_iload_n (j := 4) (M := M_X12_heaviestOf) (pc := 91) dX12_heaviestOf_91 rfl rfl ?_
              refine aw_istore_n (ls' := [(2, (0, v3)), (4, (0, r14 - r16)), (0, vr 161), (1, (0, v1)), (3, (0, v3))]) (M := M_X12_heaviestOf) (pc := 92) dX12_heaviestOf_92 rfl (by decide) rfl ?_
              obtain ⟨o25, hF⟩ := hF
              refine aw_iinc (j := 4) (x := v3) (r := v3 + 1) (ls' := [(3, (0, v3 + 1)), (2, (0, v3)), (4, (0, r14 - r16)), (0, vr 161), (1, (0, v1))]) (M := M_X12_heaviestOf) (pc := 93) dX12_heaviestOf_93 rfl rfl o25 (by decide) rfl ?_
              refine aw_goto (tgt := 21) (M := M_X12_heaviestOf) (pc := 96) dX12_heaviestOf_96 rfl ?_
              exact aw_ls [3, 4, 1, 0] rfl hF
      · have hF := hF.2 hc
        refine aw_goto (tgt := 93) (M := M_X12_heaviestOf) (pc := 54) dX12_heaviestOf_54 rfl ?_
        obtain ⟨o26, hF⟩ := hF
        refine aw_iinc (j := 3) (x := v3) (r := v3 + 1) (ls' := [(3, (0, v3 + 1)), (0, vr 161), (1, (0, v1)), (2, (0, v2))]) (M := M_X12_heaviestOf) (pc := 93) dX12_heaviestOf_93 rfl rfl o26 (by decide) rfl ?_
        refine aw_goto (tgt := 21) (M := M_X12_heaviestOf) (pc := 96) dX12_heaviestOf_96 rfl ?_
        exact aw_ls [1, 2, 3, 0] rfl hF
def F_X12_heaviestOf (h : Mem)  (Q : Int → Mem → Prop) : Prop :=
  (F_X12_thingsThat h 2 (fun r3 h2 => (F_X12_weightOf h2 r3 (fun r5 h4 => (InR ((h 162 3) - r5) ∧ L_X12_heaviestOf_21 h4 ((h 162 3) - r5) 0 1 Q)))))
set_option maxRecDepth 100000 in
set_option maxHeartbeats 4000000 in
theorem f_X12_heaviestOf {h : Mem}  {Q : Int → Mem → Prop}  (hF : F_X12_heaviestOf h  Q) : Ct yX12_heaviestOf cX12_heaviestOf 5 (some .int) (5, 132) [vr 161] h (qi Q) := by
  refine Ct.of np_RX12 (Nat.le_of_ble_eq_true rfl) ?_
  unfold F_X12_heaviestOf at hF
  show AW M_X12_heaviestOf 0 [(0, vr 161)] [] h (qi Q)
  refine aw_aload_n (j := 0) (M := M_X12_heaviestOf) (pc := 0) dX12_heaviestOf_0 rfl rfl ?_
  refine gf_X12_7 (M := M_X12_heaviestOf) (pc := 1) rfl dX12_heaviestOf_1 rfl (r := 162) rfl ?_
  refine aw_iconst (M := M_X12_heaviestOf) (pc := 4) dX12_heaviestOf_4 ⟨by decide, by decide⟩ ?_
  refine aw_iald (k := 3) (M := M_X12_heaviestOf) (pc := 5) dX12_heaviestOf_5 rfl ⟨by decide, by decide⟩ rfl ?_
  refine aw_aload_n (j := 0) (M := M_X12_heaviestOf) (pc := 6) dX12_heaviestOf_6 rfl rfl ?_
  refine aw_aload_n (j := 0) (M := M_X12_heaviestOf) (pc := 7) dX12_heaviestOf_7 rfl rfl ?_
  refine aw_iconst (M := M_X12_heaviestOf) (pc := 8) dX12_heaviestOf_8 ⟨by decide, by decide⟩ ?_
  refine aw_cvi (as := [(0, 2)]) (st := [vr 161, (0, h 162 3)]) (M := M_X12_heaviestOf) (pc := 9) (f_X12_thingsThat  hF) dX12_heaviestOf_9 rfl (Or.inl ⟨_, _, _, rfl, rfl⟩) cy_X12_thingsThat ml_X12_278 (by decide) (by decide) (Nat.le_of_ble_eq_true rfl) (fun r3 h2 hF => ?_)
  refine aw_cvi (as := [(0, r3)]) (st := [(0, h 162 3)]) (M := M_X12_heaviestOf) (pc := 12) (f_X12_weightOf  hF) dX12_heaviestOf_12 rfl (Or.inl ⟨_, _, _, rfl, rfl⟩) cy_X12_weightOf ml_X12_281 (by decide) (by decide) (Nat.le_of_ble_eq_true rfl) (fun r5 h4 hF => ?_)
  obtain ⟨o6, hF⟩ := hF
  refine aw_isub (M := M_X12_heaviestOf) (pc := 15) dX12_heaviestOf_15 rfl o6 ?_
  refine aw_istore_n (ls' := [(1, (0, (h 162 3) - r5)), (0, vr 161)]) (M := M_X12_heaviestOf) (pc := 16) dX12_heaviestOf_16 rfl (by decide) rfl ?_
  refine aw_iconst (M := M_X12_heaviestOf) (pc := 17) dX12_heaviestOf_17 ⟨by decide, by decide⟩ ?_
  refine aw_istore_n (ls' := [(2, (0, 0)), (1, (0, (h 162 3) - r5)), (0, vr 161)]) (M := M_X12_heaviestOf) (pc := 18) dX12_heaviestOf_18 rfl (by decide) rfl ?_
  refine aw_iconst (M := M_X12_heaviestOf) (pc := 19) dX12_heaviestOf_19 ⟨by decide, by decide⟩ ?_
  refine aw_istore_n (ls' := [(3, (0, 1)), (2, (0, 0)), (1, (0, (h 162 3) - r5)), (0, vr 161)]) (M := M_X12_heaviestOf) (pc := 20) dX12_heaviestOf_20 rfl (by decide) rfl ?_
  exact aw_ls [3, 2, 1, 0] rfl hF
abbrev M_X12_heaviest : Hd := (cX12_heaviest, 1, RX12, (some .int), (6, 156), sc0)
def F_X12_heaviest (h : Mem)  (Q : Int → Mem → Prop) : Prop :=
  (F_X12_heaviestOf h  (fun r2 h1 => (F_X12_gives h1 r2 (fun r4 h3 => Q r4 h3))))
set_option maxRecDepth 100000 in
set_option maxHeartbeats 4000000 in
theorem f_X12_heaviest {h : Mem}  {Q : Int → Mem → Prop}  (hF : F_X12_heaviest h  Q) : Ct yX12_heaviest cX12_heaviest 1 (some .int) (6, 156) [vr 161] h (qi Q) := by
  refine Ct.of np_RX12 (Nat.le_of_ble_eq_true rfl) ?_
  unfold F_X12_heaviest at hF
  show AW M_X12_heaviest 0 [(0, vr 161)] [] h (qi Q)
  refine aw_aload_n (j := 0) (M := M_X12_heaviest) (pc := 0) dX12_heaviest_0 rfl rfl ?_
  refine aw_aload_n (j := 0) (M := M_X12_heaviest) (pc := 1) dX12_heaviest_1 rfl rfl ?_
  refine aw_cvi (as := []) (st := [vr 161]) (M := M_X12_heaviest) (pc := 2) (f_X12_heaviestOf  hF) dX12_heaviest_2 rfl (Or.inl ⟨_, _, _, rfl, rfl⟩) cy_X12_heaviestOf ml_X12_412 (by decide) (by decide) (Nat.le_of_ble_eq_true rfl) (fun r2 h1 hF => ?_)
  refine aw_cvi (as := [(0, r2)]) (st := []) (M := M_X12_heaviest) (pc := 5) (f_X12_gives  hF) dX12_heaviest_5 rfl (Or.inl ⟨_, _, _, rfl, rfl⟩) cy_X12_gives ml_X12_95 (by decide) (by decide) (Nat.le_of_ble_eq_true rfl) (fun r4 h3 hF => ?_)
  exact aw_ireti (M := M_X12_heaviest) (pc := 8) dX12_heaviest_8 rfl ⟨_, rfl, hF⟩
abbrev M_X12_heaviestWeight : Hd := (cX12_heaviestWeight, 1, RX12, (some .int), (6, 156), sc0)
def F_X12_heaviestWeight (h : Mem)  (Q : Int → Mem → Prop) : Prop :=
  (F_X12_heaviestOf h  (fun r2 h1 => (F_X12_weightOf h1 r2 (fun r4 h3 => (F_X12_gives h3 r4 (fun r6 h5 => Q r6 h5))))))
set_option maxRecDepth 100000 in
set_option maxHeartbeats 4000000 in
theorem f_X12_heaviestWeight {h : Mem}  {Q : Int → Mem → Prop}  (hF : F_X12_heaviestWeight h  Q) : Ct yX12_heaviestWeight cX12_heaviestWeight 1 (some .int) (6, 156) [vr 161] h (qi Q) := by
  refine Ct.of np_RX12 (Nat.le_of_ble_eq_true rfl) ?_
  unfold F_X12_heaviestWeight at hF
  show AW M_X12_heaviestWeight 0 [(0, vr 161)] [] h (qi Q)
  refine aw_aload_n (j := 0) (M := M_X12_heaviestWeight) (pc := 0) dX12_heaviestWeight_0 rfl rfl ?_
  refine aw_aload_n (j := 0) (M := M_X12_heaviestWeight) (pc := 1) dX12_heaviestWeight_1 rfl rfl ?_
  refine aw_aload_n (j := 0) (M := M_X12_heaviestWeight) (pc := 2) dX12_heaviestWeight_2 rfl rfl ?_
  refine aw_cvi (as := []) (st := [vr 161, vr 161]) (M := M_X12_heaviestWeight) (pc := 3) (f_X12_heaviestOf  hF) dX12_heaviestWeight_3 rfl (Or.inl ⟨_, _, _, rfl, rfl⟩) cy_X12_heaviestOf ml_X12_412 (by decide) (by decide) (Nat.le_of_ble_eq_true rfl) (fun r2 h1 hF => ?_)
  refine aw_cvi (as := [(0, r2)]) (st := [vr 161]) (M := M_X12_heaviestWeight) (pc := 6) (f_X12_weightOf  hF) dX12_heaviestWeight_6 rfl (Or.inl ⟨_, _, _, rfl, rfl⟩) cy_X12_weightOf ml_X12_281 (by decide) (by decide) (Nat.le_of_ble_eq_true rfl) (fun r4 h3 hF => ?_)
  refine aw_cvi (as := [(0, r4)]) (st := []) (M := M_X12_heaviestWeight) (pc := 9) (f_X12_gives  hF) dX12_heaviestWeight_9 rfl (Or.inl ⟨_, _, _, rfl, rfl⟩) cy_X12_gives ml_X12_95 (by decide) (by decide) (Nat.le_of_ble_eq_true rfl) (fun r6 h5 hF => ?_)
  exact aw_ireti (M := M_X12_heaviestWeight) (pc := 12) dX12_heaviestWeight_12 rfl ⟨_, rfl, hF⟩
abbrev M_X12_holds : Hd := (cX12_holds, 5, RX12, (some .boolean), (3, 87), sc0)
def F_X12_holds (h : Mem) (a1 : Int) (Q : Int → Mem → Prop) : Prop :=
  ((0 ≤ a1 ∧ a1 < 3008) ∧ (InR ((h 162 (a1).toNat) - 1800) ∧ (∀ x4 : Int, x4 = (h 162 (a1).toNat) - 1800 → (InR (a1 + 1) ∧ ((0 ≤ (a1 + 1) ∧ (a1 + 1) < 3008) ∧ (∀ x8 : Int, x8 = h 162 (a1 + 1).toNat → ((¬ (x4 = 12) → ((¬ (x4 = 22) → ((¬ (x4 = 13) → (F_X12_millOf h x8 2 (fun r10 h9 => (InR (a1 + 5) ∧ ((0 ≤ (a1 + 5) ∧ (a1 + 5) < 3008) ∧ ((¬ ((h9 162 (a1 + 5).toNat) = 60) → ((¬ ((h9 162 (a1 + 5).toNat) = 62) → (InR (a1 + 2) ∧ ((0 ≤ (a1 + 2) ∧ (a1 + 2) < 3008) ∧ ((¬ (r10 = (h9 162 (a1 + 2).toNat)) → Q 0 h9) ∧ (r10 = (h9 162 (a1 + 2).toNat) → Q 1 h9))))) ∧ ((h9 162 (a1 + 5).toNat) = 62 → (InR (a1 + 2) ∧ ((0 ≤ (a1 + 2) ∧ (a1 + 2) < 3008) ∧ ((r10 ≤ (h9 162 (a1 + 2).toNat) → Q 0 h9) ∧ (¬ (r10 ≤ (h9 162 (a1 + 2).toNat)) → Q 1 h9))))))) ∧ ((h9 162 (a1 + 5).toNat) = 60 → (InR (a1 + 2) ∧ ((0 ≤ (a1 + 2) ∧ (a1 + 2) < 3008) ∧ (((h9 162 (a1 + 2).toNat) ≤ r10 → Q 0 h9) ∧ (¬ ((h9 162 (a1 + 2).toNat) ≤ r10) → Q 1 h9))))))))))) ∧ (x4 = 13 → (InR (a1 + 5) ∧ ((0 ≤ (a1 + 5) ∧ (a1 + 5) < 3008) ∧ ((¬ ((h 162 (a1 + 5).toNat) = 60) → ((¬ ((h 162 (a1 + 5).toNat) = 62) → (InR (a1 + 2) ∧ ((0 ≤ (a1 + 2) ∧ (a1 + 2) < 3008) ∧ ((¬ ((h 162 6) = (h 162 (a1 + 2).toNat)) → Q 0 h) ∧ ((h 162 6) = (h 162 (a1 + 2).toNat) → Q 1 h))))) ∧ ((h 162 (a1 + 5).toNat) = 62 → (InR (a1 + 2) ∧ ((0 ≤ (a1 + 2) ∧ (a1 + 2) < 3008) ∧ (((h 162 6) ≤ (h 162 (a1 + 2).toNat) → Q 0 h) ∧ (¬ ((h 162 6) ≤ (h 162 (a1 + 2).toNat)) → Q 1 h))))))) ∧ ((h 162 (a1 + 5).toNat) = 60 → (InR (a1 + 2) ∧ ((0 ≤ (a1 + 2) ∧ (a1 + 2) < 3008) ∧ (((h 162 (a1 + 2).toNat) ≤ (h 162 6) → Q 0 h) ∧ (¬ ((h 162 (a1 + 2).toNat) ≤ (h 162 6)) → Q 1 h))))))))))) ∧ (x4 = 22 → ((¬ ((h 162 7) = x8) → Q 0 h) ∧ ((h 162 7) = x8 → Q 1 h))))) ∧ (x4 = 12 → (F_X12_thingOf h x8 3 (fun r40 h39 => ((¬ (r40 = 1) → Q 0 h39) ∧ (r40 = 1 → Q 1 h39))))))))))))
set_option maxRecDepth 100000 in
set_option maxHeartbeats 4000000 in
theorem f_X12_holds {h : Mem} {a1 : Int} {Q : Int → Mem → Prop}  (hF : F_X12_holds h a1 Q) : Ct yX12_holds cX12_holds 5 (some .boolean) (3, 87) [vr 161, (0, a1)] h (qi Q) := by
  refine Ct.of np_RX12 (Nat.le_of_ble_eq_true rfl) ?_
  unfold F_X12_holds at hF
  show AW M_X12_holds 0 [(0, vr 161), (1, (0, a1))] [] h (qi Q)
  refine aw_aload_n (j := 0) (M := M_X12_holds) (pc := 0) dX12_holds_0 rfl rfl ?_
  refine gf_X12_7 (M := M_X12_holds) (pc := 1) rfl dX12_holds_1 rfl (r := 162) rfl ?_
  refine aw_iload_n (j := 1) (M := M_X12_holds) (pc := 4) dX12_holds_4 rfl rfl ?_
  obtain ⟨o2, hF⟩ := hF
  refine aw_iald (k := (a1).toNat) (M := M_X12_holds) (pc := 5) dX12_holds_5 rfl o2 rfl ?_
  refine aw_sipush (M := M_X12_holds) (pc := 6) dX12_holds_6 ⟨rfl, ⟨by decide, by decide⟩⟩ ?_
  obtain ⟨o3, hF⟩ := hF
  refine aw_isub (M := M_X12_holds) (pc := 9) dX12_holds_9 rfl o3 ?_
  obtain ⟨x4, ex4⟩ : ∃ y : Int, y = (h 162 (a1).toNat) - 1800 := ⟨_, rfl⟩
  have hF := hF x4 ex4
  rw [← ex4]
  refine aw_istore_n (ls' := [(2, (0, x4)), (0, vr 161), (1, (0, a1))]) (M := M_X12_holds) (pc := 10) dX12_holds_10 rfl (by decide) rfl ?_
  refine aw_aload_n (j := 1) (M := M_X12_holds) (pc := 11) dX12_holds_11 rfl rfl ?_
  refine gf_X12_7 (M := M_X12_holds) (pc := 12) rfl dX12_holds_12 rfl (r := 162) rfl ?_
  refine aw_iload_n (j := 2) (M := M_X12_holds) (pc := 15) dX12_holds_15 rfl rfl ?_
  refine aw_iconst (M := M_X12_holds) (pc := 16) dX12_holds_16 ⟨by decide, by decide⟩ ?_
  obtain ⟨o5, hF⟩ := hF
  refine aw_iadd (M := M_X12_holds) (pc := 17) dX12_holds_17 rfl o5 ?_
  obtain ⟨o7, hF⟩ := hF
  refine aw_iald (k := (a1 + 1).toNat) (M := M_X12_holds) (pc := 18) dX12_holds_18 rfl o7 rfl ?_
  obtain ⟨x8, ex8⟩ : ∃ y : Int, y = h 162 (a1 + 1).toNat := ⟨_, rfl⟩
  have hF := hF x8 ex8
  rw [← ex8]
  refine aw_istore_n (ls' := [(3, (0, x8)), (2, (0, x4)), (0, vr 161), (1, (0, a1))]) (M := M_X12_holds) (pc := 19) dX12_holds_19 rfl (by decide) rfl ?_
  refine aw_iload_n (j := 1) (M := M_X12_holds) (pc := 20) dX12_holds_20 rfl rfl ?_
  refine aw_bipush (M := M_X12_holds) (pc := 21) dX12_holds_21 ⟨rfl, ⟨by decide, by decide⟩⟩ ?_
  refine aw_icmp_ne (tgt := 42) (M := M_X12_holds) (pc := 23) dX12_holds_23 rfl (fun hc => ?_) (fun hc => ?_)
  · have hF := hF.1 hc
    refine aw_iload_n (j := 1) (M := M_X12_holds) (pc := 42) dX12_holds_42 rfl rfl ?_
    refine aw_bipush (M := M_X12_holds) (pc := 43) dX12_holds_43 ⟨rfl, ⟨by decide, by decide⟩⟩ ?_
    refine aw_icmp_ne (tgt := 65) (M := M_X12_holds) (pc := 45) dX12_holds_45 rfl (fun hc => ?_) (fun hc => ?_)
    · have hF := hF.1 hc
      refine aw_iload_n (j := 1) (M := M_X12_holds) (pc := 65) dX12_holds_65 rfl rfl ?_
      refine aw_bipush (M := M_X12_holds) (pc := 66) dX12_holds_66 ⟨rfl, ⟨by decide, by decide⟩⟩ ?_
      refine aw_icmp_ne (tgt := 81) (M := M_X12_holds) (pc := 68) dX12_holds_68 rfl (fun hc => ?_) (fun hc => ?_)
      · have hF := hF.1 hc
        refine aw_aload_n (j := 2) (M := M_X12_holds) (pc := 81) dX12_holds_81 rfl rfl ?_
        refine aw_iload_n (j := 0) (M := M_X12_holds) (pc := 82) dX12_holds_82 rfl rfl ?_
        refine aw_iconst (M := M_X12_holds) (pc := 83) dX12_holds_83 ⟨by decide, by decide⟩ ?_
        refine aw_cvi (as := [(0, x8), (0, 2)]) (st := []) (M := M_X12_holds) (pc := 84) (f_X12_millOf  hF) dX12_holds_84 rfl (Or.inl ⟨_, _, _, rfl, rfl⟩) cy_X12_millOf ml_X12_290 (by decide) (by decide) (Nat.le_of_ble_eq_true rfl) (fun r10 h9 hF => ?_)
        refine aw_istore (ls' := [(4, (0, r10)), (3, (0, x8)), (2, (0, x4)), (0, vr 161), (1, (0, a1))]) (M := M_X12_holds) (pc := 87) dX12_holds_87  (by decide) rfl ?_
        refine aw_aload_n (j := 3) (M := M_X12_holds) (pc := 89) dX12_holds_89 rfl rfl ?_
        refine gf_X12_7 (M := M_X12_holds) (pc := 90) rfl dX12_holds_90 rfl (r := 162) rfl ?_
        refine aw_iload_n (j := 4) (M := M_X12_holds) (pc := 93) dX12_holds_93 rfl rfl ?_
        refine aw_iconst (M := M_X12_holds) (pc := 94) dX12_holds_94 ⟨by decide, by decide⟩ ?_
        obtain ⟨o11, hF⟩ := hF
        refine aw_iadd (M := M_X12_holds) (pc := 95) dX12_holds_95 rfl o11 ?_
        obtain ⟨o13, hF⟩ := hF
        refine aw_iald (k := (a1 + 5).toNat) (M := M_X12_holds) (pc := 96) dX12_holds_96 rfl o13 rfl ?_
        refine aw_bipush (M := M_X12_holds) (pc := 97) dX12_holds_97 ⟨rfl, ⟨by decide, by decide⟩⟩ ?_
        refine aw_icmp_ne (tgt := 123) (M := M_X12_holds) (pc := 99) dX12_holds_99 rfl (fun hc => ?_) (fun hc => ?_)
        · have hF := hF.1 hc
          refine aw_aload_n (j := 3) (M := M_X12_holds) (pc := 123) dX12_holds_123 rfl rfl ?_
          refine gf_X12_7 (M := M_X12_holds) (pc := 124) rfl dX12_holds_124 rfl (r := 162) rfl ?_
          refine aw_iload_n (j := 4) (M := M_X12_holds) (pc := 127) dX12_holds_127 rfl rfl ?_
          refine aw_iconst (M := M_X12_holds) (pc := 128) dX12_holds_128 ⟨by decide, by decide⟩ ?_
          refine aw_iadd (M := M_X12_holds) (pc := 129) dX12_holds_129 rfl o11 ?_
          refine aw_iald (k := (a1 + 5).toNat) (M := M_X12_holds) (pc := 130) dX12_holds_130 rfl o13 rfl ?_
          refine aw_bipush (M := M_X12_holds) (pc := 131) dX12_holds_131 ⟨rfl, ⟨by decide, by decide⟩⟩ ?_
          refine aw_icmp_ne (tgt := 157) (M := M_X12_holds) (pc := 133) dX12_holds_133 rfl (fun hc => ?_) (fun hc => ?_)
          · have hF := hF.1 hc
            refine aw_iload (j := 0) (M := M_X12_holds) (pc := 157) dX12_holds_157  rfl ?_
            refine aw_aload_n (j := 3) (M := M_X12_holds) (pc := 159) dX12_holds_159 rfl rfl ?_
            refine gf_X12_7 (M := M_X12_holds) (pc := 160) rfl dX12_holds_160 rfl (r := 162) rfl ?_
            refine aw_iload_n (j := 4) (M := M_X12_holds) (pc := 163) dX12_holds_163 rfl rfl ?_
            refine aw_iconst (M := M_X12_holds) (pc := 164) dX12_holds_164 ⟨by decide, by decide⟩ ?_
            obtain ⟨o15, hF⟩ := hF
            refine aw_iadd (M := M_X12_holds) (pc := 165) dX12_holds_165 rfl o15 ?_
            obtain ⟨o17, hF⟩ := hF
            refine aw_iald (k := (a1 + 2).toNat) (M := M_X12_holds) (pc := 166) dX12_holds_166 rfl o17 rfl ?_
            refine aw_icmp_ne (tgt := 174) (M := M_X12_holds) (pc := 167) dX12_holds_167 rfl (fun hc => ?_) (fun hc => ?_)
            · have hF := hF.1 hc
              refine aw_iconst (M := M_X12_holds) (pc := 174) dX12_holds_174 ⟨by decide, by decide⟩ ?_
              exact aw_iretz (M := M_X12_holds) (pc := 175) dX12_holds_175 rfl (Or.inl rfl) ⟨_, rfl, hF⟩
            · have hF := hF.2 hc
              refine aw_iconst (M := M_X12_holds) (pc := 170) dX12_holds_170 ⟨by decide, by decide⟩ ?_
              refine aw_goto (tgt := 175) (M := M_X12_holds) (pc := 171) dX12_holds_171 rfl ?_
              exact aw_iretz (M := M_X12_holds) (pc := 175) dX12_holds_175 rfl (Or.inr rfl) ⟨_, rfl, hF⟩
          · have hF := hF.2 hc
            refine aw_iload (j := 0) (M := M_X12_holds) (pc := 136) dX12_holds_136  rfl ?_
            refine aw_aload_n (j := 3) (M := M_X12_holds) (pc := 138) dX12_holds_138 rfl rfl ?_
            refine gf_X12_7 (M := M_X12_holds) (pc := 139) rfl dX12_holds_139 rfl (r := 162) rfl ?_
            refine aw_iload_n (j := 4) (M := M_X12_holds) (pc := 142) dX12_holds_142 rfl rfl ?_
            refine aw_iconst (M := M_X12_holds) (pc := 143) dX12_holds_143 ⟨by decide, by decide⟩ ?_
            obtain ⟨o18, hF⟩ := hF
            refine aw_iadd (M := M_X12_holds) (pc := 144) dX12_holds_144 rfl o18 ?_
            obtain ⟨o20, hF⟩ := hF
            refine aw_iald (k := (a1 + 2).toNat) (M := M_X12_holds) (pc := 145) dX12_holds_145 rfl o20 rfl ?_
            refine aw_icmp_le (tgt := 153) (M := M_X12_holds) (pc := 146) dX12_holds_146 rfl (fun hc => ?_) (fun hc => ?_)
            · have hF := hF.1 hc
              refine aw_iconst (M := M_X12_holds) (pc := 153) dX12_holds_153 ⟨by decide, by decide⟩ ?_
              refine aw_goto (tgt := 175) (M := M_X12_holds) (pc := 154) dX12_holds_154 rfl ?_
              exact aw_iretz (M := M_X12_holds) (pc := 175) dX12_holds_175 rfl (Or.inl rfl) ⟨_, rfl, hF⟩
            · have hF := hF.2 hc
              refine aw_iconst (M := M_X12_holds) (pc := 149) dX12_holds_149 ⟨by decide, by decide⟩ ?_
              refine aw_goto (tgt := 175) (M := M_X12_holds) (pc := 150) dX12_holds_150 rfl ?_
              exact aw_iretz (M := M_X12_holds) (pc := 175) dX12_holds_175 rfl (Or.inr rfl) ⟨_, rfl, hF⟩
        · have hF := hF.2 hc
          refine aw_iload (j := 0) (M := M_X12_holds) (pc := 102) dX12_holds_102  rfl ?_
          refine aw_aload_n (j := 3) (M := M_X12_holds) (pc := 104) dX12_holds_104 rfl rfl ?_
          refine gf_X12_7 (M := M_X12_holds) (pc := 105) rfl dX12_holds_105 rfl (r := 162) rfl ?_
          refine aw_iload_n (j := 4) (M := M_X12_holds) (pc := 108) dX12_holds_108 rfl rfl ?_
          refine aw_iconst (M := M_X12_holds) (pc := 109) dX12_holds_109 ⟨by decide, by decide⟩ ?_
          obtain ⟨o21, hF⟩ := hF
          refine aw_iadd (M := M_X12_holds) (pc := 110) dX12_holds_110 rfl o21 ?_
          obtain ⟨o23, hF⟩ := hF
          refine aw_iald (k := (a1 + 2).toNat) (M := M_X12_holds) (pc := 111) dX12_holds_111 rfl o23 rfl ?_
          refine aw_icmp_ge (tgt := 119) (M := M_X12_holds) (pc := 112) dX12_holds_112 rfl (fun hc => ?_) (fun hc => ?_)
          · have hF := hF.1 hc
            refine aw_iconst (M := M_X12_holds) (pc := 119) dX12_holds_119 ⟨by decide, by decide⟩ ?_
            refine aw_goto (tgt := 175) (M := M_X12_holds) (pc := 120) dX12_holds_120 rfl ?_
            exact aw_iretz (M := M_X12_holds) (pc := 175) dX12_holds_175 rfl (Or.inl rfl) ⟨_, rfl, hF⟩
          · have hF := hF.2 hc
            refine aw_iconst (M := M_X12_holds) (pc := 115) dX12_holds_115 ⟨by decide, by decide⟩ ?_
            refine aw_goto (tgt := 175) (M := M_X12_holds) (pc := 116) dX12_holds_116 rfl ?_
            exact aw_iretz (M := M_X12_holds) (pc := 175) dX12_holds_175 rfl (Or.inr rfl) ⟨_, rfl, hF⟩
      · have hF := hF.2 hc
        refine aw_aload_n (j := 2) (M := M_X12_holds) (pc := 71) dX12_holds_71 rfl rfl ?_
        refine gf_X12_7 (M := M_X12_holds) (pc := 72) rfl dX12_holds_72 rfl (r := 162) rfl ?_
        refine aw_bipush (M := M_X12_holds) (pc := 75) dX12_holds_75 ⟨rfl, ⟨by decide, by decide⟩⟩ ?_
        refine aw_iald (k := 6) (M := M_X12_holds) (pc := 77) dX12_holds_77 rfl ⟨by decide, by decide⟩ rfl ?_
        refine aw_goto (tgt := 87) (M := M_X12_holds) (pc := 78) dX12_holds_78 rfl ?_
        refine aw_istore (ls' := [(4, (0, h 162 6)), (3, (0, x8)), (2, (0, x4)), (0, vr 161), (1, (0, a1))]) (M := M_X12_holds) (pc := 87) dX12_holds_87  (by decide) rfl ?_
        refine aw_aload_n (j := 3) (M := M_X12_holds) (pc := 89) dX12_holds_89 rfl rfl ?_
        refine gf_X12_7 (M := M_X12_holds) (pc := 90) rfl dX12_holds_90 rfl (r := 162) rfl ?_
        refine aw_iload_n (j := 4) (M := M_X12_holds) (pc := 93) dX12_holds_93 rfl rfl ?_
        refine aw_iconst (M := M_X12_holds) (pc := 94) dX12_holds_94 ⟨by decide, by decide⟩ ?_
        obtain ⟨o25, hF⟩ := hF
        refine aw_iadd (M := M_X12_holds) (pc := 95) dX12_holds_95 rfl o25 ?_
        obtain ⟨o27, hF⟩ := hF
        refine aw_iald (k := (a1 + 5).toNat) (M := M_X12_holds) (pc := 96) dX12_holds_96 rfl o27 rfl ?_
        refine aw_bipush (M := M_X12_holds) (pc := 97) dX12_holds_97 ⟨rfl, ⟨by decide, by decide⟩⟩ ?_
        refine aw_icmp_ne (tgt := 123) (M := M_X12_holds) (pc := 99) dX12_holds_99 rfl (fun hc => ?_) (fun hc => ?_)
        · have hF := hF.1 hc
          refine aw_aload_n (j := 3) (M := M_X12_holds) (pc := 123) dX12_holds_123 rfl rfl ?_
          refine gf_X12_7 (M := M_X12_holds) (pc := 124) rfl dX12_holds_124 rfl (r := 162) rfl ?_
          refine aw_iload_n (j := 4) (M := M_X12_holds) (pc := 127) dX12_holds_127 rfl rfl ?_
          refine aw_iconst (M := M_X12_holds) (pc := 128) dX12_holds_128 ⟨by decide, by decide⟩ ?_
          refine aw_iadd (M := M_X12_holds) (pc := 129) dX12_holds_129 rfl o25 ?_
          refine aw_iald (k := (a1 + 5).toNat) (M := M_X12_holds) (pc := 130) dX12_holds_130 rfl o27 rfl ?_
          refine aw_bipush (M := M_X12_holds) (pc := 131) dX12_holds_131 ⟨rfl, ⟨by decide, by decide⟩⟩ ?_
          refine aw_icmp_ne (tgt := 157) (M := M_X12_holds) (pc := 133) dX12_holds_133 rfl (fun hc => ?_) (fun hc => ?_)
          · have hF := hF.1 hc
            refine aw_iload (j := 0) (M := M_X12_holds) (pc := 157) dX12_holds_157  rfl ?_
            refine aw_aload_n (j := 3) (M := M_X12_holds) (pc := 159) dX12_holds_159 rfl rfl ?_
            refine gf_X12_7 (M := M_X12_holds) (pc := 160) rfl dX12_holds_160 rfl (r := 162) rfl ?_
            refine aw_iload_n (j := 4) (M := M_X12_holds) (pc := 163) dX12_holds_163 rfl rfl ?_
            refine aw_iconst (M := M_X12_holds) (pc := 164) dX12_holds_164 ⟨by decide, by decide⟩ ?_
            obtain ⟨o29, hF⟩ := hF
            refine aw_iadd (M := M_X12_holds) (pc := 165) dX12_holds_165 rfl o29 ?_
            obtain ⟨o31, hF⟩ := hF
            refine aw_iald (k := (a1 + 2).toNat) (M := M_X12_holds) (pc := 166) dX12_holds_166 rfl o31 rfl ?_
            refine aw_icmp_ne (tgt := 174) (M := M_X12_holds) (pc := 167) dX12_holds_167 rfl (fun hc => ?_) (fun hc => ?_)
            · have hF := hF.1 hc
              refine aw_iconst (M := M_X12_holds) (pc := 174) dX12_holds_174 ⟨by decide, by decide⟩ ?_
              exact aw_iretz (M := M_X12_holds) (pc := 175) dX12_holds_175 rfl (Or.inl rfl) ⟨_, rfl, hF⟩
            · have hF := hF.2 hc
              refine aw_iconst (M := M_X12_holds) (pc := 170) dX12_holds_170 ⟨by decide, by decide⟩ ?_
              refine aw_goto (tgt := 175) (M := M_X12_holds) (pc := 171) dX12_holds_171 rfl ?_
              exact aw_iretz (M := M_X12_holds) (pc := 175) dX12_holds_175 rfl (Or.inr rfl) ⟨_, rfl, hF⟩
          · have hF := hF.2 hc
            refine aw_iload (j := 0) (M := M_X12_holds) (pc := 136) dX12_holds_136  rfl ?_
            refine aw_aload_n (j := 3) (M := M_X12_holds) (pc := 138) dX12_holds_138 rfl rfl ?_
            refine gf_X12_7 (M := M_X12_holds) (pc := 139) rfl dX12_holds_139 rfl (r := 162) rfl ?_
            refine aw_iload_n (j := 4) (M := M_X12_holds) (pc := 142) dX12_holds_142 rfl rfl ?_
            refine aw_iconst (M := M_X12_holds) (pc := 143) dX12_holds_143 ⟨by decide, by decide⟩ ?_
            obtain ⟨o32, hF⟩ := hF
            refine aw_iadd (M := M_X12_holds) (pc := 144) dX12_holds_144 rfl o32 ?_
            obtain ⟨o34, hF⟩ := hF
            refine aw_iald (k := (a1 + 2).toNat) (M := M_X12_holds) (pc := 145) dX12_holds_145 rfl o34 rfl ?_
            refine aw_icmp_le (tgt := 153) (M := M_X12_holds) (pc := 146) dX12_holds_146 rfl (fun hc => ?_) (fun hc => ?_)
            · have hF := hF.1 hc
              refine aw_iconst (M := M_X12_holds) (pc := 153) dX12_holds_153 ⟨by decide, by decide⟩ ?_
              refine aw_goto (tgt := 175) (M := M_X12_holds) (pc := 154) dX12_holds_154 rfl ?_
              exact aw_iretz (M := M_X12_holds) (pc := 175) dX12_holds_175 rfl (Or.inl rfl) ⟨_, rfl, hF⟩
            · have hF := hF.2 hc
              refine aw_iconst (M := M_X12_holds) (pc := 149) dX12_holds_149 ⟨by decide, by decide⟩ ?_
              refine aw_goto (tgt := 175) (M := M_X12_holds) (pc := 150) dX12_holds_150 rfl ?_
              exact aw_iretz (M := M_X12_holds) (pc := 175) dX12_holds_175 rfl (Or.inr rfl) ⟨_, rfl, hF⟩
        · have hF := hF.2 hc
          refine aw_iload (j := 0) (M := M_X12_holds) (pc := 102) dX12_holds_102  rfl ?_
          refine aw_aload_n (j := 3) (M := M_X12_holds) (pc := 104) dX12_holds_104 rfl rfl ?_
          refine gf_X12_7 (M := M_X12_holds) (pc := 105) rfl dX12_holds_105 rfl (r := 162) rfl ?_
          refine aw_iload_n (j := 4) (M := M_X12_holds) (pc := 108) dX12_holds_108 rfl rfl ?_
          refine aw_iconst (M := M_X12_holds) (pc := 109) dX12_holds_109 ⟨by decide, by decide⟩ ?_
          obtain ⟨o35, hF⟩ := hF
          refine aw_iadd (M := M_X12_holds) (pc := 110) dX12_holds_110 rfl o35 ?_
          obtain ⟨o37, hF⟩ := hF
          refine aw_iald (k := (a1 + 2).toNat) (M := M_X12_holds) (pc := 111) dX12_holds_111 rfl o37 rfl ?_
          refine aw_icmp_ge (tgt := 119) (M := M_X12_holds) (pc := 112) dX12_holds_112 rfl (fun hc => ?_) (fun hc => ?_)
          · have hF := hF.1 hc
            refine aw_iconst (M := M_X12_holds) (pc := 119) dX12_holds_119 ⟨by decide, by decide⟩ ?_
            refine aw_goto (tgt := 175) (M := M_X12_holds) (pc := 120) dX12_holds_120 rfl ?_
            exact aw_iretz (M := M_X12_holds) (pc := 175) dX12_holds_175 rfl (Or.inl rfl) ⟨_, rfl, hF⟩
          · have hF := hF.2 hc
            refine aw_iconst (M := M_X12_holds) (pc := 115) dX12_holds_115 ⟨by decide, by decide⟩ ?_
            refine aw_goto (tgt := 175) (M := M_X12_holds) (pc := 116) dX12_holds_116 rfl ?_
            exact aw_iretz (M := M_X12_holds) (pc := 175) dX12_holds_175 rfl (Or.inr rfl) ⟨_, rfl, hF⟩
    · have hF := hF.2 hc
      refine aw_aload_n (j := 2) (M := M_X12_holds) (pc := 48) dX12_holds_48 rfl rfl ?_
      refine gf_X12_7 (M := M_X12_holds) (pc := 49) rfl dX12_holds_49 rfl (r := 162) rfl ?_
      refine aw_bipush (M := M_X12_holds) (pc := 52) dX12_holds_52 ⟨rfl, ⟨by decide, by decide⟩⟩ ?_
      refine aw_iald (k := 7) (M := M_X12_holds) (pc := 54) dX12_holds_54 rfl ⟨by decide, by decide⟩ rfl ?_
      refine aw_iload_n (j := 0) (M := M_X12_holds) (pc := 55) dX12_holds_55 rfl rfl ?_
      refine aw_icmp_ne (tgt := 63) (M := M_X12_holds) (pc := 56) dX12_holds_56 rfl (fun hc => ?_) (fun hc => ?_)
      · have hF := hF.1 hc
        refine aw_iconst (M := M_X12_holds) (pc := 63) dX12_holds_63 ⟨by decide, by decide⟩ ?_
        exact aw_iretz (M := M_X12_holds) (pc := 64) dX12_holds_64 rfl (Or.inl rfl) ⟨_, rfl, hF⟩
      · have hF := hF.2 hc
        refine aw_iconst (M := M_X12_holds) (pc := 59) dX12_holds_59 ⟨by decide, by decide⟩ ?_
        refine aw_goto (tgt := 64) (M := M_X12_holds) (pc := 60) dX12_holds_60 rfl ?_
        exact aw_iretz (M := M_X12_holds) (pc := 64) dX12_holds_64 rfl (Or.inr rfl) ⟨_, rfl, hF⟩
  · have hF := hF.2 hc
    refine aw_aload_n (j := 2) (M := M_X12_holds) (pc := 26) dX12_holds_26 rfl rfl ?_
    refine aw_iload_n (j := 0) (M := M_X12_holds) (pc := 27) dX12_holds_27 rfl rfl ?_
    refine aw_iconst (M := M_X12_holds) (pc := 28) dX12_holds_28 ⟨by decide, by decide⟩ ?_
    refine aw_cvi (as := [(0, x8), (0, 3)]) (st := []) (M := M_X12_holds) (pc := 29) (f_X12_thingOf  hF) dX12_holds_29 rfl (Or.inl ⟨_, _, _, rfl, rfl⟩) cy_X12_thingOf ml_X12_263 (by decide) (by decide) (Nat.le_of_ble_eq_true rfl) (fun r40 h39 hF => ?_)
    refine aw_iconst (M := M_X12_holds) (pc := 32) dX12_holds_32 ⟨by decide, by decide⟩ ?_
    refine aw_icmp_ne (tgt := 40) (M := M_X12_holds) (pc := 33) dX12_holds_33 rfl (fun hc => ?_) (fun hc => ?_)
    · have hF := hF.1 hc
      refine aw_iconst (M := M_X12_holds) (pc := 40) dX12_holds_40 ⟨by decide, by decide⟩ ?_
      exact aw_iretz (M := M_X12_holds) (pc := 41) dX12_holds_41 rfl (Or.inl rfl) ⟨_, rfl, hF⟩
    · have hF := hF.2 hc
      refine aw_iconst (M := M_X12_holds) (pc := 36) dX12_holds_36 ⟨by decide, by decide⟩ ?_
      refine aw_goto (tgt := 41) (M := M_X12_holds) (pc := 37) dX12_holds_37 rfl ?_
      exact aw_iretz (M := M_X12_holds) (pc := 41) dX12_holds_41 rfl (Or.inr rfl) ⟨_, rfl, hF⟩
abbrev M_X12_homeOf : Hd := (cX12_homeOf, 3, RX12, (some .int), (8, 197), sc0)
def L_X12_homeOf_2 (h : Mem) (v1 : Int) (v2 : Int) (Q : Int → Mem → Prop) : Prop := AW M_X12_homeOf 2 [(0, vr 161), (1, (0, v1)), (2, (0, v2))] [] h (qi Q)
def J_X12_homeOf_30 (h : Mem) (v1 : Int) (v2 : Int) (Q : Int → Mem → Prop) : Prop :=
  (F_X12_thingOf h v1 3 (fun r7 h6 => ((¬ (r7 = 3) → Q (-1) h6) ∧ (r7 = 3 → Q v2 h6))))
set_option maxRecDepth 100000 in
set_option maxHeartbeats 4000000 in
theorem j_X12_homeOf_30 {h : Mem} {v1 : Int} {v2 : Int} {Q : Int → Mem → Prop}  (hF : J_X12_homeOf_30 h v1 v2 Q) : AW M_X12_homeOf 30 [(0, vr 161), (1, (0, v1)), (2, (0, v2))] [] h (qi Q) := by
  unfold J_X12_homeOf_30 at hF
  refine aw_aload_n (j := 0) (M := M_X12_homeOf) (pc := 30) dX12_homeOf_30 rfl rfl ?_
  refine aw_iload_n (j := 1) (M := M_X12_homeOf) (pc := 31) dX12_homeOf_31 rfl rfl ?_
  refine aw_iconst (M := M_X12_homeOf) (pc := 32) dX12_homeOf_32 ⟨by decide, by decide⟩ ?_
  refine aw_cvi (as := [(0, v1), (0, 3)]) (st := []) (M := M_X12_homeOf) (pc := 33) (f_X12_thingOf  hF) dX12_homeOf_33 rfl (Or.inl ⟨_, _, _, rfl, rfl⟩) cy_X12_thingOf ml_X12_263 (by decide) (by decide) (Nat.le_of_ble_eq_true rfl) (fun r7 h6 hF => ?_)
  refine aw_iconst (M := M_X12_homeOf) (pc := 36) dX12_homeOf_36 ⟨by decide, by decide⟩ ?_
  refine aw_icmp_ne (tgt := 44) (M := M_X12_homeOf) (pc := 37) dX12_homeOf_37 rfl (fun hc => ?_) (fun hc => ?_)
  · have hF := hF.1 hc
    refine aw_iconst (M := M_X12_homeOf) (pc := 44) dX12_homeOf_44 ⟨by decide, by decide⟩ ?_
    exact aw_ireti (M := M_X12_homeOf) (pc := 45) dX12_homeOf_45 rfl ⟨_, rfl, hF⟩
  · have hF := hF.2 hc
    refine aw_iload_n (j := 2) (M := M_X12_homeOf) (pc := 40) dX12_homeOf_40 rfl rfl ?_
    refine aw_goto (tgt := 45) (M := M_X12_homeOf) (pc := 41) dX12_homeOf_41 rfl ?_
    exact aw_ireti (M := M_X12_homeOf) (pc := 45) dX12_homeOf_45 rfl ⟨_, rfl, hF⟩
def B_X12_homeOf_2 (h : Mem) (v1 : Int) (v2 : Int) (Q : Int → Mem → Prop) : Prop :=
  ((400 ≤ v2 → J_X12_homeOf_30 h v1 v2 Q) ∧ (¬ (400 ≤ v2) → (F_X12_thingOf h v1 3 (fun r2 h1 => ((r2 = 3 → J_X12_homeOf_30 h1 v1 v2 Q) ∧ (¬ (r2 = 3) → (F_X12_hourGoes h1  (fun r4 h3 => (InR (v2 + 1) ∧ L_X12_homeOf_2 h3 v1 (v2 + 1) Q)))))))))
set_option maxRecDepth 100000 in
set_option maxHeartbeats 4000000 in
theorem l_X12_homeOf_2 {h : Mem} {v1 : Int} {v2 : Int} {Q : Int → Mem → Prop}  (hF : B_X12_homeOf_2 h v1 v2 Q) : L_X12_homeOf_2 h v1 v2 Q := by
  unfold B_X12_homeOf_2 at hF
  show AW M_X12_homeOf 2 [(0, vr 161), (1, (0, v1)), (2, (0, v2))] [] h (qi Q)
  refine aw_iload_n (j := 2) (M := M_X12_homeOf) (pc := 2) dX12_homeOf_2 rfl rfl ?_
  refine aw_sipush (M := M_X12_homeOf) (pc := 3) dX12_homeOf_3 ⟨rfl, ⟨by decide, by decide⟩⟩ ?_
  refine aw_icmp_ge (tgt := 30) (M := M_X12_homeOf) (pc := 6) dX12_homeOf_6 rfl (fun hc => ?_) (fun hc => ?_)
  · have hF := hF.1 hc
    exact aw_ls [0, 1, 2] rfl (j_X12_homeOf_30  hF)
  · have hF := hF.2 hc
    refine aw_aload_n (j := 0) (M := M_X12_homeOf) (pc := 9) dX12_homeOf_9 rfl rfl ?_
    refine aw_iload_n (j := 1) (M := M_X12_homeOf) (pc := 10) dX12_homeOf_10 rfl rfl ?_
    refine aw_iconst (M := M_X12_homeOf) (pc := 11) dX12_homeOf_11 ⟨by decide, by decide⟩ ?_
    refine aw_cvi (as := [(0, v1), (0, 3)]) (st := []) (M := M_X12_homeOf) (pc := 12) (f_X12_thingOf  hF) dX12_homeOf_12 rfl (Or.inl ⟨_, _, _, rfl, rfl⟩) cy_X12_thingOf ml_X12_263 (by decide) (by decide) (Nat.le_of_ble_eq_true rfl) (fun r2 h1 hF => ?_)
    refine aw_iconst (M := M_X12_homeOf) (pc := 15) dX12_homeOf_15 ⟨by decide, by decide⟩ ?_
    refine aw_icmp_eq (tgt := 30) (M := M_X12_homeOf) (pc := 16) dX12_homeOf_16 rfl (fun hc => ?_) (fun hc => ?_)
    · have hF := hF.1 hc
      exact aw_ls [0, 1, 2] rfl (j_X12_homeOf_30  hF)
    · have hF := hF.2 hc
      refine aw_aload_n (j := 0) (M := M_X12_homeOf) (pc := 19) dX12_homeOf_19 rfl rfl ?_
      refine aw_cvi (as := []) (st := []) (M := M_X12_homeOf) (pc := 20) (f_X12_hourGoes  hF) dX12_homeOf_20 rfl (Or.inl ⟨_, _, _, rfl, rfl⟩) cy_X12_hourGoes ml_X12_311 (by decide) (by decide) (Nat.le_of_ble_eq_true rfl) (fun r4 h3 hF => ?_)
      refine aw_pop (M := M_X12_homeOf) (pc := 23) dX12_homeOf_23 rfl ?_
      obtain ⟨o5, hF⟩ := hF
      refine aw_iinc (j := 2) (x := v2) (r := v2 + 1) (ls' := [(2, (0, v2 + 1)), (0, vr 161), (1, (0, v1))]) (M := M_X12_homeOf) (pc := 24) dX12_homeOf_24 rfl rfl o5 (by decide) rfl ?_
      refine aw_goto (tgt := 2) (M := M_X12_homeOf) (pc := 27) dX12_homeOf_27 rfl ?_
      exact aw_ls [1, 2, 0] rfl hF
def F_X12_homeOf (h : Mem) (a1 : Int) (Q : Int → Mem → Prop) : Prop :=
  L_X12_homeOf_2 h a1 0 Q
set_option maxRecDepth 100000 in
set_option maxHeartbeats 4000000 in
theorem f_X12_homeOf {h : Mem} {a1 : Int} {Q : Int → Mem → Prop}  (hF : F_X12_homeOf h a1 Q) : Ct yX12_homeOf cX12_homeOf 3 (some .int) (8, 197) [vr 161, (0, a1)] h (qi Q) := by
  refine Ct.of np_RX12 (Nat.le_of_ble_eq_true rfl) ?_
  unfold F_X12_homeOf at hF
  show AW M_X12_homeOf 0 [(0, vr 161), (1, (0, a1))] [] h (qi Q)
  refine aw_iconst (M := M_X12_homeOf) (pc := 0) dX12_homeOf_0 ⟨by decide, by decide⟩ ?_
  refine aw_istore_n (ls' := [(2, (0, 0)), (0, vr 161), (1, (0, a1))]) (M := M_X12_homeOf) (pc := 1) dX12_homeOf_1 rfl (by decide) rfl ?_
  exact aw_ls [1, 2, 0] rfl hF
abbrev M_X12_homeIn : Hd := (cX12_homeIn, 3, RX12, (some .int), (9, 219), sc0)
def F_X12_homeIn (h : Mem) (a1 : Int) (Q : Int → Mem → Prop) : Prop :=
  (F_X12_isThing h a1 (fun r2 h1 => ((¬ (r2 = 0) → (F_X12_keeps h1 2688 (fun h3 => (F_X12_homeOf h3 a1 (fun r6 h5 => (F_X12_restores h5 2688 (fun h7 => (F_X12_orNone h7 r6 (fun r10 h9 => Q r10 h9))))))))) ∧ (r2 = 0 → (F_X12_refuse h1 1 (fun r12 h11 => Q r12 h11))))))
set_option maxRecDepth 100000 in
set_option maxHeartbeats 4000000 in
theorem f_X12_homeIn {h : Mem} {a1 : Int} {Q : Int → Mem → Prop}  (hF : F_X12_homeIn h a1 Q) : Ct yX12_homeIn cX12_homeIn 3 (some .int) (9, 219) [vr 161, (0, a1)] h (qi Q) := by
  refine Ct.of np_RX12 (Nat.le_of_ble_eq_true rfl) ?_
  unfold F_X12_homeIn at hF
  show AW M_X12_homeIn 0 [(0, vr 161), (1, (0, a1))] [] h (qi Q)
  refine aw_aload_n (j := 0) (M := M_X12_homeIn) (pc := 0) dX12_homeIn_0 rfl rfl ?_
  refine aw_iload_n (j := 1) (M := M_X12_homeIn) (pc := 1) dX12_homeIn_1 rfl rfl ?_
  refine aw_cvi (as := [(0, a1)]) (st := []) (M := M_X12_homeIn) (pc := 2) (f_X12_isThing  hF) dX12_homeIn_2 rfl (Or.inl ⟨_, _, _, rfl, rfl⟩) cy_X12_isThing ml_X12_284 (by decide) (by decide) (Nat.le_of_ble_eq_true rfl) (fun r2 h1 hF => ?_)
  refine aw_if_ne (tgt := 14) (M := M_X12_homeIn) (pc := 5) dX12_homeIn_5 rfl (fun hc => ?_) (fun hc => ?_)
  · have hF := hF.1 hc
    refine aw_aload_n (j := 0) (M := M_X12_homeIn) (pc := 14) dX12_homeIn_14 rfl rfl ?_
    refine aw_sipush (M := M_X12_homeIn) (pc := 15) dX12_homeIn_15 ⟨rfl, ⟨by decide, by decide⟩⟩ ?_
    refine aw_cvv (as := [(0, 2688)]) (st := []) (M := M_X12_homeIn) (pc := 18) (f_X12_keeps  hF) dX12_homeIn_18 rfl (Or.inl ⟨_, _, _, rfl, rfl⟩) cy_X12_keeps ml_X12_350 (by decide) (by decide) (Nat.le_of_ble_eq_true rfl) (fun h3 hF => ?_)
    refine aw_aload_n (j := 0) (M := M_X12_homeIn) (pc := 21) dX12_homeIn_21 rfl rfl ?_
    refine aw_iload_n (j := 1) (M := M_X12_homeIn) (pc := 22) dX12_homeIn_22 rfl rfl ?_
    refine aw_cvi (as := [(0, a1)]) (st := []) (M := M_X12_homeIn) (pc := 23) (f_X12_homeOf  hF) dX12_homeIn_23 rfl (Or.inl ⟨_, _, _, rfl, rfl⟩) cy_X12_homeOf ml_X12_356 (by decide) (by decide) (Nat.le_of_ble_eq_true rfl) (fun r6 h5 hF => ?_)
    refine aw_istore_n (ls' := [(2, (0, r6)), (0, vr 161), (1, (0, a1))]) (M := M_X12_homeIn) (pc := 26) dX12_homeIn_26 rfl (by decide) rfl ?_
    refine aw_aload_n (j := 1) (M := M_X12_homeIn) (pc := 27) dX12_homeIn_27 rfl rfl ?_
    refine aw_sipush (M := M_X12_homeIn) (pc := 28) dX12_homeIn_28 ⟨rfl, ⟨by decide, by decide⟩⟩ ?_
    refine aw_cvv (as := [(0, 2688)]) (st := []) (M := M_X12_homeIn) (pc := 31) (f_X12_restores  hF) dX12_homeIn_31 rfl (Or.inl ⟨_, _, _, rfl, rfl⟩) cy_X12_restores ml_X12_353 (by decide) (by decide) (Nat.le_of_ble_eq_true rfl) (fun h7 hF => ?_)
    refine aw_aload_n (j := 1) (M := M_X12_homeIn) (pc := 34) dX12_homeIn_34 rfl rfl ?_
    refine aw_iload_n (j := 0) (M := M_X12_homeIn) (pc := 35) dX12_homeIn_35 rfl rfl ?_
    refine aw_cvi (as := [(0, r6)]) (st := []) (M := M_X12_homeIn) (pc := 36) (f_X12_orNone  hF) dX12_homeIn_36 rfl (Or.inl ⟨_, _, _, rfl, rfl⟩) cy_X12_orNone ml_X12_296 (by decide) (by decide) (Nat.le_of_ble_eq_true rfl) (fun r10 h9 hF => ?_)
    exact aw_ireti (M := M_X12_homeIn) (pc := 39) dX12_homeIn_39 rfl ⟨_, rfl, hF⟩
  · have hF := hF.2 hc
    refine aw_aload_n (j := 0) (M := M_X12_homeIn) (pc := 8) dX12_homeIn_8 rfl rfl ?_
    refine aw_iconst (M := M_X12_homeIn) (pc := 9) dX12_homeIn_9 ⟨by decide, by decide⟩ ?_
    refine aw_cvi (as := [(0, 1)]) (st := []) (M := M_X12_homeIn) (pc := 10) (f_X12_refuse  hF) dX12_homeIn_10 rfl (Or.inl ⟨_, _, _, rfl, rfl⟩) cy_X12_refuse ml_X12_91 (by decide) (by decide) (Nat.le_of_ble_eq_true rfl) (fun r12 h11 hF => ?_)
    exact aw_ireti (M := M_X12_homeIn) (pc := 13) dX12_homeIn_13 rfl ⟨_, rfl, hF⟩
abbrev M_X12_hour : Hd := (cX12_hour, 2, RX12, (some .int), (9, 220), sc0)
def F_X12_hour (h : Mem) (a1 : Int) (Q : Int → Mem → Prop) : Prop :=
  (F_X12_isFrom h a1 1 168 (fun r2 h1 => ((¬ (r2 = 0) → (InR ((h1 162 5) + a1) ∧ ((((h1 162 5) + a1) ≤ 9999 → (F_X12_hoursGo h1 a1 (fun r6 h5 => (F_X12_gives h5 r6 (fun r8 h7 => Q r8 h7))))) ∧ (¬ (((h1 162 5) + a1) ≤ 9999) → (F_X12_refuse h1 4 (fun r10 h9 => Q r10 h9)))))) ∧ (r2 = 0 → (F_X12_refuse h1 1 (fun r12 h11 => Q r12 h11))))))
set_option maxRecDepth 100000 in
set_option maxHeartbeats 4000000 in
theorem f_X12_hour {h : Mem} {a1 : Int} {Q : Int → Mem → Prop}  (hF : F_X12_hour h a1 Q) : Ct yX12_hour cX12_hour 2 (some .int) (9, 220) [vr 161, (0, a1)] h (qi Q) := by
  refine Ct.of np_RX12 (Nat.le_of_ble_eq_true rfl) ?_
  unfold F_X12_hour at hF
  show AW M_X12_hour 0 [(0, vr 161), (1, (0, a1))] [] h (qi Q)
  refine aw_iload_n (j := 1) (M := M_X12_hour) (pc := 0) dX12_hour_0 rfl rfl ?_
  refine aw_i2l (M := M_X12_hour) (pc := 1) dX12_hour_1 ?_
  refine aw_lconst (v := 1) (M := M_X12_hour) (pc := 2) dX12_hour_2 ⟨rfl, ⟨by decide, by decide⟩⟩ ?_
  refine aw_ldc2 (v := 168) (M := M_X12_hour) (pc := 3) dX12_hour_3 kl_X12_314 ⟨by decide, by decide⟩ ?_
  refine aw_csi (as := [(1, a1), (1, 1), (1, 168)]) (st := []) (M := M_X12_hour) (pc := 6) (f_X12_isFrom  hF) dX12_hour_6 rfl cy_X12_isFrom ml_X12_316 (by decide) (by decide) (Nat.le_of_ble_eq_true rfl) (fun r2 h1 hF => ?_)
  refine aw_if_ne (tgt := 18) (M := M_X12_hour) (pc := 9) dX12_hour_9 rfl (fun hc => ?_) (fun hc => ?_)
  · have hF := hF.1 hc
    refine aw_aload_n (j := 0) (M := M_X12_hour) (pc := 18) dX12_hour_18 rfl rfl ?_
    refine gf_X12_7 (M := M_X12_hour) (pc := 19) rfl dX12_hour_19 rfl (r := 162) rfl ?_
    refine aw_iconst (M := M_X12_hour) (pc := 22) dX12_hour_22 ⟨by decide, by decide⟩ ?_
    refine aw_iald (k := 5) (M := M_X12_hour) (pc := 23) dX12_hour_23 rfl ⟨by decide, by decide⟩ rfl ?_
    refine aw_iload_n (j := 1) (M := M_X12_hour) (pc := 24) dX12_hour_24 rfl rfl ?_
    obtain ⟨o4, hF⟩ := hF
    refine aw_iadd (M := M_X12_hour) (pc := 25) dX12_hour_25 rfl o4 ?_
    refine aw_sipush (M := M_X12_hour) (pc := 26) dX12_hour_26 ⟨rfl, ⟨by decide, by decide⟩⟩ ?_
    refine aw_icmp_le (tgt := 40) (M := M_X12_hour) (pc := 29) dX12_hour_29 rfl (fun hc => ?_) (fun hc => ?_)
    · have hF := hF.1 hc
      refine aw_aload_n (j := 0) (M := M_X12_hour) (pc := 40) dX12_hour_40 rfl rfl ?_
      refine aw_aload_n (j := 0) (M := M_X12_hour) (pc := 41) dX12_hour_41 rfl rfl ?_
      refine aw_iload_n (j := 1) (M := M_X12_hour) (pc := 42) dX12_hour_42 rfl rfl ?_
      refine aw_cvi (as := [(0, a1)]) (st := [vr 161]) (M := M_X12_hour) (pc := 43) (f_X12_hoursGo  hF) dX12_hour_43 rfl (Or.inl ⟨_, _, _, rfl, rfl⟩) cy_X12_hoursGo ml_X12_320 (by decide) (by decide) (Nat.le_of_ble_eq_true rfl) (fun r6 h5 hF => ?_)
      refine aw_cvi (as := [(0, r6)]) (st := []) (M := M_X12_hour) (pc := 46) (f_X12_gives  hF) dX12_hour_46 rfl (Or.inl ⟨_, _, _, rfl, rfl⟩) cy_X12_gives ml_X12_95 (by decide) (by decide) (Nat.le_of_ble_eq_true rfl) (fun r8 h7 hF => ?_)
      exact aw_ireti (M := M_X12_hour) (pc := 49) dX12_hour_49 rfl ⟨_, rfl, hF⟩
    · have hF := hF.2 hc
      refine aw_aload_n (j := 0) (M := M_X12_hour) (pc := 32) dX12_hour_32 rfl rfl ?_
      refine aw_iconst (M := M_X12_hour) (pc := 33) dX12_hour_33 ⟨by decide, by decide⟩ ?_
      refine aw_cvi (as := [(0, 4)]) (st := []) (M := M_X12_hour) (pc := 34) (f_X12_refuse  hF) dX12_hour_34 rfl (Or.inl ⟨_, _, _, rfl, rfl⟩) cy_X12_refuse ml_X12_91 (by decide) (by decide) (Nat.le_of_ble_eq_true rfl) (fun r10 h9 hF => ?_)
      refine aw_goto (tgt := 49) (M := M_X12_hour) (pc := 37) dX12_hour_37 rfl ?_
      exact aw_ireti (M := M_X12_hour) (pc := 49) dX12_hour_49 rfl ⟨_, rfl, hF⟩
  · have hF := hF.2 hc
    refine aw_aload_n (j := 0) (M := M_X12_hour) (pc := 12) dX12_hour_12 rfl rfl ?_
    refine aw_iconst (M := M_X12_hour) (pc := 13) dX12_hour_13 ⟨by decide, by decide⟩ ?_
    refine aw_cvi (as := [(0, 1)]) (st := []) (M := M_X12_hour) (pc := 14) (f_X12_refuse  hF) dX12_hour_14 rfl (Or.inl ⟨_, _, _, rfl, rfl⟩) cy_X12_refuse ml_X12_91 (by decide) (by decide) (Nat.le_of_ble_eq_true rfl) (fun r12 h11 hF => ?_)
    exact aw_ireti (M := M_X12_hour) (pc := 17) dX12_hour_17 rfl ⟨_, rfl, hF⟩
abbrev M_X12_laysRide : Hd := (cX12_laysRide, 4, RX12, none, (8, 197), sc0)
def L_X12_laysRide_19 (h : Mem) (v1 : Int) (v2 : Int) (v3 : Int) (Q : Mem → Prop) : Prop := AW M_X12_laysRide 19 [(0, vr 161), (1, (0, v1)), (2, (0, v2)), (3, (0, v3))] [] h (qv Q)
def J_X12_laysRide_58 (h : Mem) (v1 : Int) (v2 : Int) (v3 : Int) (Q : Mem → Prop) : Prop :=
  (((h 161 31) = (-1) → (F_X12_hourGoes h  (fun r12 h11 => (InR (v3 + 1) ∧ L_X12_laysRide_19 h11 v1 v2 (v3 + 1) Q)))) ∧ (¬ ((h 161 31) = (-1)) → ((¬ ((h 162 6) = v2) → (F_X12_hourGoes h  (fun r16 h15 => (InR (v3 + 1) ∧ L_X12_laysRide_19 h15 v1 v2 (v3 + 1) Q)))) ∧ ((h 162 6) = v2 → (∀ h18 : Mem, h18 = mset h 161 32 v3 → (F_X12_hourGoes h18  (fun r20 h19 => (InR (v3 + 1) ∧ L_X12_laysRide_19 h19 v1 v2 (v3 + 1) Q))))))))
set_option maxRecDepth 100000 in
set_option maxHeartbeats 4000000 in
theorem j_X12_laysRide_58 {h : Mem} {v1 : Int} {v2 : Int} {v3 : Int} {Q : Mem → Prop}  (hF : J_X12_laysRide_58 h v1 v2 v3 Q) : AW M_X12_laysRide 58 [(0, vr 161), (1, (0, v1)), (2, (0, v2)), (3, (0, v3))] [] h (qv Q) := by
  unfold J_X12_laysRide_58 at hF
  refine aw_aload_n (j := 0) (M := M_X12_laysRide) (pc := 58) dX12_laysRide_58 rfl rfl ?_
  refine gf_X12_415 (M := M_X12_laysRide) (pc := 59) rfl dX12_laysRide_59 rfl ?_
  refine aw_iconst (M := M_X12_laysRide) (pc := 62) dX12_laysRide_62 ⟨by decide, by decide⟩ ?_
  refine aw_icmp_eq (tgt := 82) (M := M_X12_laysRide) (pc := 63) dX12_laysRide_63 rfl (fun hc => ?_) (fun hc => ?_)
  · have hF := hF.1 hc
    refine aw_aload_n (j := 0) (M := M_X12_laysRide) (pc := 82) dX12_laysRide_82 rfl rfl ?_
    refine aw_cvi (as := []) (st := []) (M := M_X12_laysRide) (pc := 83) (f_X12_hourGoes  hF) dX12_laysRide_83 rfl (Or.inl ⟨_, _, _, rfl, rfl⟩) cy_X12_hourGoes ml_X12_311 (by decide) (by decide) (Nat.le_of_ble_eq_true rfl) (fun r12 h11 hF => ?_)
    refine aw_pop (M := M_X12_laysRide) (pc := 86) dX12_laysRide_86 rfl ?_
    obtain ⟨o13, hF⟩ := hF
    refine aw_iinc (j := 3) (x := v3) (r := v3 + 1) (ls' := [(3, (0, v3 + 1)), (0, vr 161), (1, (0, v1)), (2, (0, v2))]) (M := M_X12_laysRide) (pc := 87) dX12_laysRide_87 rfl rfl o13 (by decide) rfl ?_
    refine aw_goto (tgt := 19) (M := M_X12_laysRide) (pc := 90) dX12_laysRide_90 rfl ?_
    exact aw_ls [1, 2, 3, 0] rfl hF
  · have hF := hF.2 hc
    refine aw_aload_n (j := 0) (M := M_X12_laysRide) (pc := 66) dX12_laysRide_66 rfl rfl ?_
    refine gf_X12_7 (M := M_X12_laysRide) (pc := 67) rfl dX12_laysRide_67 rfl (r := 162) rfl ?_
    refine aw_bipush (M := M_X12_laysRide) (pc := 70) dX12_laysRide_70 ⟨rfl, ⟨by decide, by decide⟩⟩ ?_
    refine aw_iald (k := 6) (M := M_X12_laysRide) (pc := 72) dX12_laysRide_72 rfl ⟨by decide, by decide⟩ rfl ?_
    refine aw_iload_n (j := 2) (M := M_X12_laysRide) (pc := 73) dX12_laysRide_73 rfl rfl ?_
    refine aw_icmp_ne (tgt := 82) (M := M_X12_laysRide) (pc := 74) dX12_laysRide_74 rfl (fun hc => ?_) (fun hc => ?_)
    · have hF := hF.1 hc
      refine aw_aload_n (j := 0) (M := M_X12_laysRide) (pc := 82) dX12_laysRide_82 rfl rfl ?_
      refine aw_cvi (as := []) (st := []) (M := M_X12_laysRide) (pc := 83) (f_X12_hourGoes  hF) dX12_laysRide_83 rfl (Or.inl ⟨_, _, _, rfl, rfl⟩) cy_X12_hourGoes ml_X12_311 (by decide) (by decide) (Nat.le_of_ble_eq_true rfl) (fun r16 h15 hF => ?_)
      refine aw_pop (M := M_X12_laysRide) (pc := 86) dX12_laysRide_86 rfl ?_
      obtain ⟨o17, hF⟩ := hF
      refine aw_iinc (j := 3) (x := v3) (r := v3 + 1) (ls' := [(3, (0, v3 + 1)), (0, vr 161), (1, (0, v1)), (2, (0, v2))]) (M := M_X12_laysRide) (pc := 87) dX12_laysRide_87 rfl rfl o17 (by decide) rfl ?_
      refine aw_goto (tgt := 19) (M := M_X12_laysRide) (pc := 90) dX12_laysRide_90 rfl ?_
      exact aw_ls [1, 2, 3, 0] rfl hF
    · have hF := hF.2 hc
      refine aw_aload_n (j := 0) (M := M_X12_laysRide) (pc := 77) dX12_laysRide_77 rfl rfl ?_
      refine aw_iload_n (j := 3) (M := M_X12_laysRide) (pc := 78) dX12_laysRide_78 rfl rfl ?_
      refine pf_X12_418 (M := M_X12_laysRide) (pc := 79) rfl dX12_laysRide_79 rfl ?_
      obtain ⟨h18, eh18⟩ : ∃ y : Mem, y = mset h 161 32 v3 := ⟨_, rfl⟩
      have hF := hF h18 eh18
      rw [← eh18]
      refine aw_aload_n (j := 0) (M := M_X12_laysRide) (pc := 82) dX12_laysRide_82 rfl rfl ?_
      refine aw_cvi (as := []) (st := []) (M := M_X12_laysRide) (pc := 83) (f_X12_hourGoes  hF) dX12_laysRide_83 rfl (Or.inl ⟨_, _, _, rfl, rfl⟩) cy_X12_hourGoes ml_X12_311 (by decide) (by decide) (Nat.le_of_ble_eq_true rfl) (fun r20 h19 hF => ?_)
      refine aw_pop (M := M_X12_laysRide) (pc := 86) dX12_laysRide_86 rfl ?_
      obtain ⟨o21, hF⟩ := hF
      refine aw_iinc (j := 3) (x := v3) (r := v3 + 1) (ls' := [(3, (0, v3 + 1)), (0, vr 161), (1, (0, v1)), (2, (0, v2))]) (M := M_X12_laysRide) (pc := 87) dX12_laysRide_87 rfl rfl o21 (by decide) rfl ?_
      refine aw_goto (tgt := 19) (M := M_X12_laysRide) (pc := 90) dX12_laysRide_90 rfl ?_
      exact aw_ls [1, 2, 3, 0] rfl hF
def B_X12_laysRide_19 (h : Mem) (v1 : Int) (v2 : Int) (v3 : Int) (Q : Mem → Prop) : Prop :=
  ((400 < v3 → (F_X12_restores h 2688 (fun h5 => Q h5))) ∧ (¬ (400 < v3) → ((¬ ((h 161 32) = (-1)) → (F_X12_restores h 2688 (fun h7 => Q h7))) ∧ ((h 161 32) = (-1) → ((¬ ((h 161 31) = (-1)) → J_X12_laysRide_58 h v1 v2 v3 Q) ∧ ((h 161 31) = (-1) → ((¬ ((h 162 6) = v1) → J_X12_laysRide_58 h v1 v2 v3 Q) ∧ ((h 162 6) = v1 → (∀ h10 : Mem, h10 = mset h 161 31 v3 → J_X12_laysRide_58 h10 v1 v2 v3 Q)))))))))
set_option maxRecDepth 100000 in
set_option maxHeartbeats 4000000 in
theorem l_X12_laysRide_19 {h : Mem} {v1 : Int} {v2 : Int} {v3 : Int} {Q : Mem → Prop}  (hF : B_X12_laysRide_19 h v1 v2 v3 Q) : L_X12_laysRide_19 h v1 v2 v3 Q := by
  unfold B_X12_laysRide_19 at hF
  show AW M_X12_laysRide 19 [(0, vr 161), (1, (0, v1)), (2, (0, v2)), (3, (0, v3))] [] h (qv Q)
  refine aw_iload_n (j := 3) (M := M_X12_laysRide) (pc := 19) dX12_laysRide_19 rfl rfl ?_
  refine aw_sipush (M := M_X12_laysRide) (pc := 20) dX12_laysRide_20 ⟨rfl, ⟨by decide, by decide⟩⟩ ?_
  refine aw_icmp_gt (tgt := 93) (M := M_X12_laysRide) (pc := 23) dX12_laysRide_23 rfl (fun hc => ?_) (fun hc => ?_)
  · have hF := hF.1 hc
    refine aw_aload_n (j := 0) (M := M_X12_laysRide) (pc := 93) dX12_laysRide_93 rfl rfl ?_
    refine aw_sipush (M := M_X12_laysRide) (pc := 94) dX12_laysRide_94 ⟨rfl, ⟨by decide, by decide⟩⟩ ?_
    refine aw_cvv (as := [(0, 2688)]) (st := []) (M := M_X12_laysRide) (pc := 97) (f_X12_restores  hF) dX12_laysRide_97 rfl (Or.inl ⟨_, _, _, rfl, rfl⟩) cy_X12_restores ml_X12_353 (by decide) (by decide) (Nat.le_of_ble_eq_true rfl) (fun h5 hF => ?_)
    exact aw_ret (M := M_X12_laysRide) (pc := 100) dX12_laysRide_100 rfl ⟨rfl, hF⟩
  · have hF := hF.2 hc
    refine aw_aload_n (j := 0) (M := M_X12_laysRide) (pc := 26) dX12_laysRide_26 rfl rfl ?_
    refine gf_X12_418 (M := M_X12_laysRide) (pc := 27) rfl dX12_laysRide_27 rfl ?_
    refine aw_iconst (M := M_X12_laysRide) (pc := 30) dX12_laysRide_30 ⟨by decide, by decide⟩ ?_
    refine aw_icmp_ne (tgt := 93) (M := M_X12_laysRide) (pc := 31) dX12_laysRide_31 rfl (fun hc => ?_) (fun hc => ?_)
    · have hF := hF.1 hc
      refine aw_aload_n (j := 0) (M := M_X12_laysRide) (pc := 93) dX12_laysRide_93 rfl rfl ?_
      refine aw_sipush (M := M_X12_laysRide) (pc := 94) dX12_laysRide_94 ⟨rfl, ⟨by decide, by decide⟩⟩ ?_
      refine aw_cvv (as := [(0, 2688)]) (st := []) (M := M_X12_laysRide) (pc := 97) (f_X12_restores  hF) dX12_laysRide_97 rfl (Or.inl ⟨_, _, _, rfl, rfl⟩) cy_X12_restores ml_X12_353 (by decide) (by decide) (Nat.le_of_ble_eq_true rfl) (fun h7 hF => ?_)
      exact aw_ret (M := M_X12_laysRide) (pc := 100) dX12_laysRide_100 rfl ⟨rfl, hF⟩
    · have hF := hF.2 hc
      refine aw_aload_n (j := 0) (M := M_X12_laysRide) (pc := 34) dX12_laysRide_34 rfl rfl ?_
      refine gf_X12_415 (M := M_X12_laysRide) (pc := 35) rfl dX12_laysRide_35 rfl ?_
      refine aw_iconst (M := M_X12_laysRide) (pc := 38) dX12_laysRide_38 ⟨by decide, by decide⟩ ?_
      refine aw_icmp_ne (tgt := 58) (M := M_X12_laysRide) (pc := 39) dX12_laysRide_39 rfl (fun hc => ?_) (fun hc => ?_)
      · have hF := hF.1 hc
        exact aw_ls [0, 1, 2, 3] rfl (j_X12_laysRide_58  hF)
      · have hF := hF.2 hc
        refine aw_aload_n (j := 0) (M := M_X12_laysRide) (pc := 42) dX12_laysRide_42 rfl rfl ?_
        refine gf_X12_7 (M := M_X12_laysRide) (pc := 43) rfl dX12_laysRide_43 rfl (r := 162) rfl ?_
        refine aw_bipush (M := M_X12_laysRide) (pc := 46) dX12_laysRide_46 ⟨rfl, ⟨by decide, by decide⟩⟩ ?_
        refine aw_iald (k := 6) (M := M_X12_laysRide) (pc := 48) dX12_laysRide_48 rfl ⟨by decide, by decide⟩ rfl ?_
        refine aw_iload_n (j := 1) (M := M_X12_laysRide) (pc := 49) dX12_laysRide_49 rfl rfl ?_
        refine aw_icmp_ne (tgt := 58) (M := M_X12_laysRide) (pc := 50) dX12_laysRide_50 rfl (fun hc => ?_) (fun hc => ?_)
        · have hF := hF.1 hc
          exact aw_ls [0, 1, 2, 3] rfl (j_X12_laysRide_58  hF)
        · have hF := hF.2 hc
          refine aw_aload_n (j := 0) (M := M_X12_laysRide) (pc := 53) dX12_laysRide_53 rfl rfl ?_
          refine aw_iload_n (j := 3) (M := M_X12_laysRide) (pc := 54) dX12_laysRide_54 rfl rfl ?_
          refine pf_X12_415 (M := M_X12_laysRide) (pc := 55) rfl dX12_laysRide_55 rfl ?_
          obtain ⟨h10, eh10⟩ : ∃ y : Mem, y = mset h 161 31 v3 := ⟨_, rfl⟩
          have hF := hF h10 eh10
          rw [← eh10]
          exact aw_ls [0, 1, 2, 3] rfl (j_X12_laysRide_58  hF)
def F_X12_laysRide (h : Mem) (a1 : Int) (a2 : Int) (Q : Mem → Prop) : Prop :=
  (F_X12_keeps h 2688 (fun h1 => (∀ h3 : Mem, h3 = mset h1 161 31 (-1) → (∀ h4 : Mem, h4 = mset h3 161 32 (-1) → L_X12_laysRide_19 h4 a1 a2 0 Q))))
set_option maxRecDepth 100000 in
set_option maxHeartbeats 4000000 in
theorem f_X12_laysRide {h : Mem} {a1 : Int} {a2 : Int} {Q : Mem → Prop}  (hF : F_X12_laysRide h a1 a2 Q) : Ct yX12_laysRide cX12_laysRide 4 none (8, 197) [vr 161, (0, a1), (0, a2)] h (qv Q) := by
  refine Ct.of np_RX12 (Nat.le_of_ble_eq_true rfl) ?_
  unfold F_X12_laysRide at hF
  show AW M_X12_laysRide 0 [(0, vr 161), (1, (0, a1)), (2, (0, a2))] [] h (qv Q)
  refine aw_aload_n (j := 0) (M := M_X12_laysRide) (pc := 0) dX12_laysRide_0 rfl rfl ?_
  refine aw_sipush (M := M_X12_laysRide) (pc := 1) dX12_laysRide_1 ⟨rfl, ⟨by decide, by decide⟩⟩ ?_
  refine aw_cvv (as := [(0, 2688)]) (st := []) (M := M_X12_laysRide) (pc := 4) (f_X12_keeps  hF) dX12_laysRide_4 rfl (Or.inl ⟨_, _, _, rfl, rfl⟩) cy_X12_keeps ml_X12_350 (by decide) (by decide) (Nat.le_of_ble_eq_true rfl) (fun h1 hF => ?_)
  refine aw_aload_n (j := 0) (M := M_X12_laysRide) (pc := 7) dX12_laysRide_7 rfl rfl ?_
  refine aw_iconst (M := M_X12_laysRide) (pc := 8) dX12_laysRide_8 ⟨by decide, by decide⟩ ?_
  refine pf_X12_415 (M := M_X12_laysRide) (pc := 9) rfl dX12_laysRide_9 rfl ?_
  obtain ⟨h3, eh3⟩ : ∃ y : Mem, y = mset h1 161 31 (-1) := ⟨_, rfl⟩
  have hF := hF h3 eh3
  rw [← eh3]
  refine aw_aload_n (j := 0) (M := M_X12_laysRide) (pc := 12) dX12_laysRide_12 rfl rfl ?_
  refine aw_iconst (M := M_X12_laysRide) (pc := 13) dX12_laysRide_13 ⟨by decide, by decide⟩ ?_
  refine pf_X12_418 (M := M_X12_laysRide) (pc := 14) rfl dX12_laysRide_14 rfl ?_
  obtain ⟨h4, eh4⟩ : ∃ y : Mem, y = mset h3 161 32 (-1) := ⟨_, rfl⟩
  have hF := hF h4 eh4
  rw [← eh4]
  refine aw_iconst (M := M_X12_laysRide) (pc := 17) dX12_laysRide_17 ⟨by decide, by decide⟩ ?_
  refine aw_istore_n (ls' := [(3, (0, 0)), (0, vr 161), (1, (0, a1)), (2, (0, a2))]) (M := M_X12_laysRide) (pc := 18) dX12_laysRide_18 rfl (by decide) rfl ?_
  exact aw_ls [1, 2, 3, 0] rfl hF
abbrev M_X12_laysSoonest : Hd := (cX12_laysSoonest, 4, RX12, none, (9, 219), sc0)
def L_X12_laysSoonest_21 (h : Mem) (v1 : Int) (v2 : Int) (Q : Mem → Prop) : Prop := AW M_X12_laysSoonest 21 [(0, vr 161), (1, (0, v1)), (2, (0, v2))] [] h (qv Q)
def B_X12_laysSoonest_21 (h : Mem) (v1 : Int) (v2 : Int) (Q : Mem → Prop) : Prop :=
  (((h 162 2) ≤ v2 → Q h) ∧ (¬ ((h 162 2) ≤ v2) → (F_X12_tosses h v1 v2 (fun r7 h6 => (F_X12_homeOf h6 v1 (fun r9 h8 => (F_X12_restores h8 2688 (fun h10 => ((r9 = (-1) → (InR (v2 + 1) ∧ L_X12_laysSoonest_21 h10 v1 (v2 + 1) Q)) ∧ (¬ (r9 = (-1)) → ((r9 < (h10 161 25) → (∀ h13 : Mem, h13 = mset h10 161 25 r9 → (∀ h14 : Mem, h14 = mset h13 161 26 v2 → (InR (v2 + 1) ∧ L_X12_laysSoonest_21 h14 v1 (v2 + 1) Q)))) ∧ (¬ (r9 < (h10 161 25)) → (InR (v2 + 1) ∧ L_X12_laysSoonest_21 h10 v1 (v2 + 1) Q)))))))))))))
set_option maxRecDepth 100000 in
set_option maxHeartbeats 4000000 in
theorem l_X12_laysSoonest_21 {h : Mem} {v1 : Int} {v2 : Int} {Q : Mem → Prop}  (hF : B_X12_laysSoonest_21 h v1 v2 Q) : L_X12_laysSoonest_21 h v1 v2 Q := by
  unfold B_X12_laysSoonest_21 at hF
  show AW M_X12_laysSoonest 21 [(0, vr 161), (1, (0, v1)), (2, (0, v2))] [] h (qv Q)
  refine aw_iload_n (j := 2) (M := M_X12_laysSoonest) (pc := 21) dX12_laysSoonest_21 rfl rfl ?_
  refine aw_aload_n (j := 0) (M := M_X12_laysSoonest) (pc := 22) dX12_laysSoonest_22 rfl rfl ?_
  refine gf_X12_7 (M := M_X12_laysSoonest) (pc := 23) rfl dX12_laysSoonest_23 rfl (r := 162) rfl ?_
  refine aw_iconst (M := M_X12_laysSoonest) (pc := 26) dX12_laysSoonest_26 ⟨by decide, by decide⟩ ?_
  refine aw_iald (k := 2) (M := M_X12_laysSoonest) (pc := 27) dX12_laysSoonest_27 rfl ⟨by decide, by decide⟩ rfl ?_
  refine aw_icmp_ge (tgt := 83) (M := M_X12_laysSoonest) (pc := 28) dX12_laysSoonest_28 rfl (fun hc => ?_) (fun hc => ?_)
  · have hF := hF.1 hc
    exact aw_ret (M := M_X12_laysSoonest) (pc := 83) dX12_laysSoonest_83 rfl ⟨rfl, hF⟩
  · have hF := hF.2 hc
    refine aw_aload_n (j := 0) (M := M_X12_laysSoonest) (pc := 31) dX12_laysSoonest_31 rfl rfl ?_
    refine aw_iload_n (j := 1) (M := M_X12_laysSoonest) (pc := 32) dX12_laysSoonest_32 rfl rfl ?_
    refine aw_iload_n (j := 2) (M := M_X12_laysSoonest) (pc := 33) dX12_laysSoonest_33 rfl rfl ?_
    refine aw_cvi (as := [(0, v1), (0, v2)]) (st := []) (M := M_X12_laysSoonest) (pc := 34) (f_X12_tosses  hF) dX12_laysSoonest_34 rfl (Or.inl ⟨_, _, _, rfl, rfl⟩) cy_X12_tosses ml_X12_329 (by decide) (by decide) (Nat.le_of_ble_eq_true rfl) (fun r7 h6 hF => ?_)
    refine aw_pop (M := M_X12_laysSoonest) (pc := 37) dX12_laysSoonest_37 rfl ?_
    refine aw_aload_n (j := 0) (M := M_X12_laysSoonest) (pc := 38) dX12_laysSoonest_38 rfl rfl ?_
    refine aw_iload_n (j := 1) (M := M_X12_laysSoonest) (pc := 39) dX12_laysSoonest_39 rfl rfl ?_
    refine aw_cvi (as := [(0, v1)]) (st := []) (M := M_X12_laysSoonest) (pc := 40) (f_X12_homeOf  hF) dX12_laysSoonest_40 rfl (Or.inl ⟨_, _, _, rfl, rfl⟩) cy_X12_homeOf ml_X12_356 (by decide) (by decide) (Nat.le_of_ble_eq_true rfl) (fun r9 h8 hF => ?_)
    refine aw_istore_n (ls' := [(3, (0, r9)), (0, vr 161), (1, (0, v1)), (2, (0, v2))]) (M := M_X12_laysSoonest) (pc := 43) dX12_laysSoonest_43 rfl (by decide) rfl ?_
    refine aw_aload_n (j := 1) (M := M_X12_laysSoonest) (pc := 44) dX12_laysSoonest_44 rfl rfl ?_
    refine aw_sipush (M := M_X12_laysSoonest) (pc := 45) dX12_laysSoonest_45 ⟨rfl, ⟨by decide, by decide⟩⟩ ?_
    refine aw_cvv (as := [(0, 2688)]) (st := []) (M := M_X12_laysSoonest) (pc := 48) (f_X12_restores  hF) dX12_laysSoonest_48 rfl (Or.inl ⟨_, _, _, rfl, rfl⟩) cy_X12_restores ml_X12_353 (by decide) (by decide) (Nat.le_of_ble_eq_true rfl) (fun h10 hF => ?_)
    refine aw_iload_n (j := 0) (M := M_X12_laysSoonest) (pc := 51) dX12_laysSoonest_51 rfl rfl ?_
    refine aw_iconst (M := M_X12_laysSoonest) (pc := 52) dX12_laysSoonest_52 ⟨by decide, by decide⟩ ?_
    refine aw_icmp_eq (tgt := 77) (M := M_X12_laysSoonest) (pc := 53) dX12_laysSoonest_53 rfl (fun hc => ?_) (fun hc => ?_)
    · have hF := hF.1 hc
      obtain ⟨o12, hF⟩ := hF
      refine aw_iinc (j := 3) (x := v2) (r := v2 + 1) (ls' := [(2, (0, v2 + 1)), (3, (0, r9)), (0, vr 161), (1, (0, v1))]) (M := M_X12_laysSoonest) (pc := 77) dX12_laysSoonest_77 rfl rfl o12 (by decide) rfl ?_
      refine aw_goto (tgt := 21) (M := M_X12_laysSoonest) (pc := 80) dX12_laysSoonest_80 rfl ?_
      exact aw_ls [2, 3, 0] rfl hF
    · have hF := hF.2 hc
      refine aw_iload_n (j := 0) (M := M_X12_laysSoonest) (pc := 56) dX12_laysSoonest_56 rfl rfl ?_
      refine aw_aload_n (j := 1) (M := M_X12_laysSoonest) (pc := 57) dX12_laysSoonest_57 rfl rfl ?_
      refine gf_X12_374 (M := M_X12_laysSoonest) (pc := 58) rfl dX12_laysSoonest_58 rfl ?_
      refine aw_icmp_lt (tgt := 67) (M := M_X12_laysSoonest) (pc := 61) dX12_laysSoonest_61 rfl (fun hc => ?_) (fun hc => ?_)
      · have hF := hF.1 hc
        refine aw_aload_n (j := 1) (M := M_X12_laysSoonest) (pc := 67) dX12_laysSoonest_67 rfl rfl ?_
        refine aw_iload_n (j := 0) (M := M_X12_laysSoonest) (pc := 68) dX12_laysSoonest_68 rfl rfl ?_
        refine pf_X12_374 (M := M_X12_laysSoonest) (pc := 69) rfl dX12_laysSoonest_69 rfl ?_
        obtain ⟨h13, eh13⟩ : ∃ y : Mem, y = mset h10 161 25 r9 := ⟨_, rfl⟩
        have hF := hF h13 eh13
        rw [← eh13]
        refine aw_aload_n (j := 1) (M := M_X12_laysSoonest) (pc := 72) dX12_laysSoonest_72 rfl rfl ?_
        refine aw_iload_n (j := 3) (M := M_X12_laysSoonest) (pc := 73) dX12_laysSoonest_73 rfl rfl ?_
        refine pf_X12_377 (M := M_X12_laysSoonest) (pc := 74) rfl dX12_laysSoonest_74 rfl ?_
        obtain ⟨h14, eh14⟩ : ∃ y : Mem, y = mset h13 161 26 v2 := ⟨_, rfl⟩
        have hF := hF h14 eh14
        rw [← eh14]
        obtain ⟨o15, hF⟩ := hF
        refine aw_iinc (j := 3) (x := v2) (r := v2 + 1) (ls' := [(2, (0, v2 + 1)), (3, (0, r9)), (0, vr 161), (1, (0, v1))]) (M := M_X12_laysSoonest) (pc := 77) dX12_laysSoonest_77 rfl rfl o15 (by decide) rfl ?_
        refine aw_goto (tgt := 21) (M := M_X12_laysSoonest) (pc := 80) dX12_laysSoonest_80 rfl ?_
        exact aw_ls [2, 3, 0] rfl hF
      · have hF := hF.2 hc
        refine aw_goto (tgt := 77) (M := M_X12_laysSoonest) (pc := 64) dX12_laysSoonest_64 rfl ?_
        obtain ⟨o16, hF⟩ := hF
        refine aw_iinc (j := 3) (x := v2) (r := v2 + 1) (ls' := [(2, (0, v2 + 1)), (3, (0, r9)), (0, vr 161), (1, (0, v1))]) (M := M_X12_laysSoonest) (pc := 77) dX12_laysSoonest_77 rfl rfl o16 (by decide) rfl ?_
        refine aw_goto (tgt := 21) (M := M_X12_laysSoonest) (pc := 80) dX12_laysSoonest_80 rfl ?_
        exact aw_ls [2, 3, 0] rfl hF
def F_X12_laysSoonest (h : Mem) (a1 : Int) (Q : Mem → Prop) : Prop :=
  (F_X12_keeps h 2688 (fun h1 => (∀ h3 : Mem, h3 = mset h1 161 25 1000000 → (∀ h4 : Mem, h4 = mset h3 161 26 (-1) → L_X12_laysSoonest_21 h4 a1 0 Q))))
set_option maxRecDepth 100000 in
set_option maxHeartbeats 4000000 in
theorem f_X12_laysSoonest {h : Mem} {a1 : Int} {Q : Mem → Prop}  (hF : F_X12_laysSoonest h a1 Q) : Ct yX12_laysSoonest cX12_laysSoonest 4 none (9, 219) [vr 161, (0, a1)] h (qv Q) := by
  refine Ct.of np_RX12 (Nat.le_of_ble_eq_true rfl) ?_
  unfold F_X12_laysSoonest at hF
  show AW M_X12_laysSoonest 0 [(0, vr 161), (1, (0, a1))] [] h (qv Q)
  refine aw_aload_n (j := 0) (M := M_X12_laysSoonest) (pc := 0) dX12_laysSoonest_0 rfl rfl ?_
  refine aw_sipush (M := M_X12_laysSoonest) (pc := 1) dX12_laysSoonest_1 ⟨rfl, ⟨by decide, by decide⟩⟩ ?_
  refine aw_cvv (as := [(0, 2688)]) (st := []) (M := M_X12_laysSoonest) (pc := 4) (f_X12_keeps  hF) dX12_laysSoonest_4 rfl (Or.inl ⟨_, _, _, rfl, rfl⟩) cy_X12_keeps ml_X12_350 (by decide) (by decide) (Nat.le_of_ble_eq_true rfl) (fun h1 hF => ?_)
  refine aw_aload_n (j := 0) (M := M_X12_laysSoonest) (pc := 7) dX12_laysSoonest_7 rfl rfl ?_
  refine aw_ldcw (v := 1000000) (M := M_X12_laysSoonest) (pc := 8) dX12_laysSoonest_8 kc_X12_373 ⟨by decide, by decide⟩ ?_
  refine pf_X12_374 (M := M_X12_laysSoonest) (pc := 11) rfl dX12_laysSoonest_11 rfl ?_
  obtain ⟨h3, eh3⟩ : ∃ y : Mem, y = mset h1 161 25 1000000 := ⟨_, rfl⟩
  have hF := hF h3 eh3
  rw [← eh3]
  refine aw_aload_n (j := 0) (M := M_X12_laysSoonest) (pc := 14) dX12_laysSoonest_14 rfl rfl ?_
  refine aw_iconst (M := M_X12_laysSoonest) (pc := 15) dX12_laysSoonest_15 ⟨by decide, by decide⟩ ?_
  refine pf_X12_377 (M := M_X12_laysSoonest) (pc := 16) rfl dX12_laysSoonest_16 rfl ?_
  obtain ⟨h4, eh4⟩ : ∃ y : Mem, y = mset h3 161 26 (-1) := ⟨_, rfl⟩
  have hF := hF h4 eh4
  rw [← eh4]
  refine aw_iconst (M := M_X12_laysSoonest) (pc := 19) dX12_laysSoonest_19 ⟨by decide, by decide⟩ ?_
  refine aw_istore_n (ls' := [(2, (0, 0)), (0, vr 161), (1, (0, a1))]) (M := M_X12_laysSoonest) (pc := 20) dX12_laysSoonest_20 rfl (by decide) rfl ?_
  exact aw_ls [1, 2, 0] rfl hF
abbrev M_X12_lives : Hd := (cX12_lives, 4, RX12, none, (11, 264), sc0)
def L_X12_lives_12 (h : Mem) (v2 : Int) (Q : Mem → Prop) : Prop := AW M_X12_lives 12 [(0, vr 161), (2, (0, v2))] [] h (qv Q)
def L_X12_lives_32 (h : Mem) (v2 : Int) (Q : Mem → Prop) : Prop := AW M_X12_lives 32 [(0, vr 161), (2, (0, v2))] [] h (qv Q)
def J_X12_lives_140 (h : Mem) (v2 : Int) (v3 : Int) (Q : Mem → Prop) : Prop :=
  ((0 ≤ v3 ∧ v3 < 3008) ∧ (((h 162 (v3).toNat) < 1800 → (InR (v2 + 1) ∧ (F_X12_behindEnds h (v2 + 1) (fun r39 h38 => L_X12_lives_32 h38 r39 Q)))) ∧ (¬ ((h 162 (v3).toNat) < 1800) → (F_X12_holds h v3 (fun r41 h40 => ((¬ (r41 = 0) → (InR (v2 + 1) ∧ (F_X12_behindEnds h40 (v2 + 1) (fun r44 h43 => L_X12_lives_32 h43 r44 Q)))) ∧ (r41 = 0 → (InR (v3 + 4) ∧ ((0 ≤ (v3 + 4) ∧ (v3 + 4) < 3008) ∧ (InR ((h40 162 (v3 + 4).toNat) + 1) ∧ (F_X12_behindEnds h40 ((h40 162 (v3 + 4).toNat) + 1) (fun r50 h49 => L_X12_lives_32 h49 r50 Q))))))))))))
set_option maxRecDepth 100000 in
set_option maxHeartbeats 4000000 in
theorem j_X12_lives_140 {h : Mem} {v2 : Int} {v3 : Int} {Q : Mem → Prop}  (hF : J_X12_lives_140 h v2 v3 Q) : AW M_X12_lives 140 [(0, vr 161), (2, (0, v2)), (3, (0, v3))] [] h (qv Q) := by
  unfold J_X12_lives_140 at hF
  refine aw_aload_n (j := 0) (M := M_X12_lives) (pc := 140) dX12_lives_140 rfl rfl ?_
  refine aw_aload_n (j := 0) (M := M_X12_lives) (pc := 141) dX12_lives_141 rfl rfl ?_
  refine gf_X12_7 (M := M_X12_lives) (pc := 142) rfl dX12_lives_142 rfl (r := 162) rfl ?_
  refine aw_iload_n (j := 2) (M := M_X12_lives) (pc := 145) dX12_lives_145 rfl rfl ?_
  obtain ⟨o36, hF⟩ := hF
  refine aw_iald (k := (v3).toNat) (M := M_X12_lives) (pc := 146) dX12_lives_146 rfl o36 rfl ?_
  refine aw_sipush (M := M_X12_lives) (pc := 147) dX12_lives_147 ⟨rfl, ⟨by decide, by decide⟩⟩ ?_
  refine aw_icmp_lt (tgt := 174) (M := M_X12_lives) (pc := 150) dX12_lives_150 rfl (fun hc => ?_) (fun hc => ?_)
  · have hF := hF.1 hc
    refine aw_iload_n (j := 1) (M := M_X12_lives) (pc := 174) dX12_lives_174 rfl rfl ?_
    refine aw_iconst (M := M_X12_lives) (pc := 175) dX12_lives_175 ⟨by decide, by decide⟩ ?_
    obtain ⟨o37, hF⟩ := hF
    refine aw_iadd (M := M_X12_lives) (pc := 176) dX12_lives_176 rfl o37 ?_
    refine aw_cvi (as := [(0, v2 + 1)]) (st := []) (M := M_X12_lives) (pc := 177) (f_X12_behindEnds  hF) dX12_lives_177 rfl (Or.inl ⟨_, _, _, rfl, rfl⟩) cy_X12_behindEnds ml_X12_471 (by decide) (by decide) (Nat.le_of_ble_eq_true rfl) (fun r39 h38 hF => ?_)
    refine aw_istore_n (ls' := [(2, (0, r39)), (0, vr 161), (3, (0, v3))]) (M := M_X12_lives) (pc := 180) dX12_lives_180 rfl (by decide) rfl ?_
    refine aw_goto (tgt := 32) (M := M_X12_lives) (pc := 181) dX12_lives_181 rfl ?_
    exact aw_ls [1, 0] rfl hF
  · have hF := hF.2 hc
    refine aw_aload_n (j := 0) (M := M_X12_lives) (pc := 153) dX12_lives_153 rfl rfl ?_
    refine aw_iload_n (j := 2) (M := M_X12_lives) (pc := 154) dX12_lives_154 rfl rfl ?_
    refine aw_cvi (as := [(0, v3)]) (st := [vr 161]) (M := M_X12_lives) (pc := 155) (f_X12_holds  hF) dX12_lives_155 rfl (Or.inl ⟨_, _, _, rfl, rfl⟩) cy_X12_holds ml_X12_468 (by decide) (by decide) (Nat.le_of_ble_eq_true rfl) (fun r41 h40 hF => ?_)
    refine aw_if_ne (tgt := 174) (M := M_X12_lives) (pc := 158) dX12_lives_158 rfl (fun hc => ?_) (fun hc => ?_)
    · have hF := hF.1 hc
      refine aw_iload_n (j := 1) (M := M_X12_lives) (pc := 174) dX12_lives_174 rfl rfl ?_
      refine aw_iconst (M := M_X12_lives) (pc := 175) dX12_lives_175 ⟨by decide, by decide⟩ ?_
      obtain ⟨o42, hF⟩ := hF
      refine aw_iadd (M := M_X12_lives) (pc := 176) dX12_lives_176 rfl o42 ?_
      refine aw_cvi (as := [(0, v2 + 1)]) (st := []) (M := M_X12_lives) (pc := 177) (f_X12_behindEnds  hF) dX12_lives_177 rfl (Or.inl ⟨_, _, _, rfl, rfl⟩) cy_X12_behindEnds ml_X12_471 (by decide) (by decide) (Nat.le_of_ble_eq_true rfl) (fun r44 h43 hF => ?_)
      refine aw_istore_n (ls' := [(2, (0, r44)), (0, vr 161), (3, (0, v3))]) (M := M_X12_lives) (pc := 180) dX12_lives_180 rfl (by decide) rfl ?_
      refine aw_goto (tgt := 32) (M := M_X12_lives) (pc := 181) dX12_lives_181 rfl ?_
      exact aw_ls [1, 0] rfl hF
    · have hF := hF.2 hc
      refine aw_aload_n (j := 0) (M := M_X12_lives) (pc := 161) dX12_lives_161 rfl rfl ?_
      refine gf_X12_7 (M := M_X12_lives) (pc := 162) rfl dX12_lives_162 rfl (r := 162) rfl ?_
      refine aw_iload_n (j := 2) (M := M_X12_lives) (pc := 165) dX12_lives_165 rfl rfl ?_
      refine aw_iconst (M := M_X12_lives) (pc := 166) dX12_lives_166 ⟨by decide, by decide⟩ ?_
      obtain ⟨o45, hF⟩ := hF
      refine aw_iadd (M := M_X12_lives) (pc := 167) dX12_lives_167 rfl o45 ?_
      obtain ⟨o47, hF⟩ := hF
      refine aw_iald (k := (v3 + 4).toNat) (M := M_X12_lives) (pc := 168) dX12_lives_168 rfl o47 rfl ?_
      refine aw_iconst (M := M_X12_lives) (pc := 169) dX12_lives_169 ⟨by decide, by decide⟩ ?_
      obtain ⟨o48, hF⟩ := hF
      refine aw_iadd (M := M_X12_lives) (pc := 170) dX12_lives_170 rfl o48 ?_
      refine aw_goto (tgt := 177) (M := M_X12_lives) (pc := 171) dX12_lives_171 rfl ?_
      refine aw_cvi (as := [(0, (h40 162 (v3 + 4).toNat) + 1)]) (st := []) (M := M_X12_lives) (pc := 177) (f_X12_behindEnds  hF) dX12_lives_177 rfl (Or.inl ⟨_, _, _, rfl, rfl⟩) cy_X12_behindEnds ml_X12_471 (by decide) (by decide) (Nat.le_of_ble_eq_true rfl) (fun r50 h49 hF => ?_)
      refine aw_istore_n (ls' := [(2, (0, r50)), (0, vr 161), (3, (0, v3))]) (M := M_X12_lives) (pc := 180) dX12_lives_180 rfl (by decide) rfl ?_
      refine aw_goto (tgt := 32) (M := M_X12_lives) (pc := 181) dX12_lives_181 rfl ?_
      exact aw_ls [1, 0] rfl hF
def B_X12_lives_12 (h : Mem) (v2 : Int) (Q : Mem → Prop) : Prop :=
  ((5 ≤ v2 → L_X12_lives_32 h 0 Q) ∧ (¬ (5 ≤ v2) → ((0 ≤ v2 ∧ v2 < 5) ∧ (∀ h4 : Mem, h4 = mset h 179 (v2).toNat 0 → (InR (v2 + 1) ∧ L_X12_lives_12 h4 (v2 + 1) Q)))))
set_option maxRecDepth 100000 in
set_option maxHeartbeats 4000000 in
theorem l_X12_lives_12 {h : Mem} {v2 : Int} {Q : Mem → Prop}  (hF : B_X12_lives_12 h v2 Q) : L_X12_lives_12 h v2 Q := by
  unfold B_X12_lives_12 at hF
  show AW M_X12_lives 12 [(0, vr 161), (2, (0, v2))] [] h (qv Q)
  refine aw_iload_n (j := 1) (M := M_X12_lives) (pc := 12) dX12_lives_12 rfl rfl ?_
  refine aw_iconst (M := M_X12_lives) (pc := 13) dX12_lives_13 ⟨by decide, by decide⟩ ?_
  refine aw_icmp_ge (tgt := 30) (M := M_X12_lives) (pc := 14) dX12_lives_14 rfl (fun hc => ?_) (fun hc => ?_)
  · have hF := hF.1 hc
    refine aw_iconst (M := M_X12_lives) (pc := 30) dX12_lives_30 ⟨by decide, by decide⟩ ?_
    refine aw_istore_n (ls' := [(2, (0, 0)), (0, vr 161)]) (M := M_X12_lives) (pc := 31) dX12_lives_31 rfl (by decide) rfl ?_
    exact aw_ls [1, 0] rfl hF
  · have hF := hF.2 hc
    refine aw_aload_n (j := 0) (M := M_X12_lives) (pc := 17) dX12_lives_17 rfl rfl ?_
    refine gf_X12_75 (M := M_X12_lives) (pc := 18) rfl dX12_lives_18 rfl (r := 179) rfl ?_
    refine aw_iload_n (j := 1) (M := M_X12_lives) (pc := 21) dX12_lives_21 rfl rfl ?_
    refine aw_iconst (M := M_X12_lives) (pc := 22) dX12_lives_22 ⟨by decide, by decide⟩ ?_
    obtain ⟨o3, hF⟩ := hF
    refine aw_iast (k := (v2).toNat) (M := M_X12_lives) (pc := 23) dX12_lives_23 rfl o3 rfl ?_
    obtain ⟨h4, eh4⟩ : ∃ y : Mem, y = mset h 179 (v2).toNat 0 := ⟨_, rfl⟩
    have hF := hF h4 eh4
    rw [← eh4]
    obtain ⟨o5, hF⟩ := hF
    refine aw_iinc (j := 1) (x := v2) (r := v2 + 1) (ls' := [(2, (0, v2 + 1)), (0, vr 161)]) (M := M_X12_lives) (pc := 24) dX12_lives_24 rfl rfl o5 (by decide) rfl ?_
    refine aw_goto (tgt := 12) (M := M_X12_lives) (pc := 27) dX12_lives_27 rfl ?_
    exact aw_ls [1, 0] rfl hF
def B_X12_lives_32 (h : Mem) (v2 : Int) (Q : Mem → Prop) : Prop :=
  (((h 162 9) ≤ v2 → Q h) ∧ (¬ ((h 162 9) ≤ v2) → ((¬ ((h 161 38) = 300) → (InR (6 * v2) ∧ (InR (80 + (6 * v2)) ∧ (InR ((h 161 38) + 1) ∧ (∀ h10 : Mem, h10 = mset h 161 38 ((h 161 38) + 1) → ((0 ≤ (80 + (6 * v2)) ∧ (80 + (6 * v2)) < 3008) ∧ ((¬ ((h10 162 (80 + (6 * v2)).toNat) = 21) → (F_X12_does h10 (80 + (6 * v2)) (fun r15 h14 => ((r15 = 0 → (InR ((h10 179 0) + 1) ∧ (∀ h17 : Mem, h17 = mset h14 179 0 ((h10 179 0) + 1) → ((¬ ((h17 162 (80 + (6 * v2)).toNat) = 19) → J_X12_lives_140 h17 v2 (80 + (6 * v2)) Q) ∧ ((h17 162 (80 + (6 * v2)).toNat) = 19 → (InR ((80 + (6 * v2)) + 1) ∧ ((0 ≤ ((80 + (6 * v2)) + 1) ∧ ((80 + (6 * v2)) + 1) < 3008) ∧ (InR ((h17 162 ((80 + (6 * v2)) + 1).toNat) - 1) ∧ ((0 ≤ v2 ∧ v2 < 80) ∧ (∀ h24 : Mem, h24 = mset h17 178 (v2).toNat ((h17 162 ((80 + (6 * v2)) + 1).toNat) - 1) → J_X12_lives_140 h24 v2 (80 + (6 * v2)) Q)))))))))) ∧ (¬ (r15 = 0) → (InR (h10 179 0) ∧ (∀ h26 : Mem, h26 = mset h14 179 0 (h10 179 0) → ((¬ ((h26 162 (80 + (6 * v2)).toNat) = 19) → J_X12_lives_140 h26 v2 (80 + (6 * v2)) Q) ∧ ((h26 162 (80 + (6 * v2)).toNat) = 19 → (InR ((80 + (6 * v2)) + 1) ∧ ((0 ≤ ((80 + (6 * v2)) + 1) ∧ ((80 + (6 * v2)) + 1) < 3008) ∧ (InR ((h26 162 ((80 + (6 * v2)) + 1).toNat) - 1) ∧ ((0 ≤ v2 ∧ v2 < 80) ∧ (∀ h33 : Mem, h33 = mset h26 178 (v2).toNat ((h26 162 ((80 + (6 * v2)) + 1).toNat) - 1) → J_X12_lives_140 h33 v2 (80 + (6 * v2)) Q)))))))))))))) ∧ ((h10 162 (80 + (6 * v2)).toNat) = 21 → Q h10)))))))) ∧ ((h 161 38) = 300 → (∀ h34 : Mem, h34 = mset h 179 4 1 → Q h34)))))
set_option maxRecDepth 100000 in
set_option maxHeartbeats 4000000 in
theorem l_X12_lives_32 {h : Mem} {v2 : Int} {Q : Mem → Prop}  (hF : B_X12_lives_32 h v2 Q) : L_X12_lives_32 h v2 Q := by
  unfold B_X12_lives_32 at hF
  show AW M_X12_lives 32 [(0, vr 161), (2, (0, v2))] [] h (qv Q)
  refine aw_iload_n (j := 1) (M := M_X12_lives) (pc := 32) dX12_lives_32 rfl rfl ?_
  refine aw_aload_n (j := 0) (M := M_X12_lives) (pc := 33) dX12_lives_33 rfl rfl ?_
  refine gf_X12_7 (M := M_X12_lives) (pc := 34) rfl dX12_lives_34 rfl (r := 162) rfl ?_
  refine aw_bipush (M := M_X12_lives) (pc := 37) dX12_lives_37 ⟨rfl, ⟨by decide, by decide⟩⟩ ?_
  refine aw_iald (k := 9) (M := M_X12_lives) (pc := 39) dX12_lives_39 rfl ⟨by decide, by decide⟩ rfl ?_
  refine aw_icmp_ge (tgt := 184) (M := M_X12_lives) (pc := 40) dX12_lives_40 rfl (fun hc => ?_) (fun hc => ?_)
  · have hF := hF.1 hc
    exact aw_ret (M := M_X12_lives) (pc := 184) dX12_lives_184 rfl ⟨rfl, hF⟩
  · have hF := hF.2 hc
    refine aw_aload_n (j := 0) (M := M_X12_lives) (pc := 43) dX12_lives_43 rfl rfl ?_
    refine gf_X12_462 (M := M_X12_lives) (pc := 44) rfl dX12_lives_44 rfl ?_
    refine aw_sipush (M := M_X12_lives) (pc := 47) dX12_lives_47 ⟨rfl, ⟨by decide, by decide⟩⟩ ?_
    refine aw_icmp_ne (tgt := 61) (M := M_X12_lives) (pc := 50) dX12_lives_50 rfl (fun hc => ?_) (fun hc => ?_)
    · have hF := hF.1 hc
      refine aw_bipush (M := M_X12_lives) (pc := 61) dX12_lives_61 ⟨rfl, ⟨by decide, by decide⟩⟩ ?_
      refine aw_bipush (M := M_X12_lives) (pc := 63) dX12_lives_63 ⟨rfl, ⟨by decide, by decide⟩⟩ ?_
      refine aw_iload_n (j := 1) (M := M_X12_lives) (pc := 65) dX12_lives_65 rfl rfl ?_
      obtain ⟨o7, hF⟩ := hF
      refine aw_imul (M := M_X12_lives) (pc := 66) dX12_lives_66 rfl o7 ?_
      obtain ⟨o8, hF⟩ := hF
      refine aw_iadd (M := M_X12_lives) (pc := 67) dX12_lives_67 rfl o8 ?_
      refine aw_istore_n (ls' := [(3, (0, 80 + (6 * v2))), (0, vr 161), (2, (0, v2))]) (M := M_X12_lives) (pc := 68) dX12_lives_68 rfl (by decide) rfl ?_
      refine aw_aload_n (j := 1) (M := M_X12_lives) (pc := 69) dX12_lives_69 rfl rfl ?_
      refine aw_dup (M := M_X12_lives) (pc := 70) dX12_lives_70 rfl ?_
      refine gf_X12_462 (M := M_X12_lives) (pc := 71) rfl dX12_lives_71 rfl ?_
      refine aw_iconst (M := M_X12_lives) (pc := 74) dX12_lives_74 ⟨by decide, by decide⟩ ?_
      obtain ⟨o9, hF⟩ := hF
      refine aw_iadd (M := M_X12_lives) (pc := 75) dX12_lives_75 rfl o9 ?_
      refine pf_X12_462 (M := M_X12_lives) (pc := 76) rfl dX12_lives_76 rfl ?_
      obtain ⟨h10, eh10⟩ : ∃ y : Mem, y = mset h 161 38 ((h 161 38) + 1) := ⟨_, rfl⟩
      have hF := hF h10 eh10
      rw [← eh10]
      refine aw_aload_n (j := 1) (M := M_X12_lives) (pc := 79) dX12_lives_79 rfl rfl ?_
      refine gf_X12_7 (M := M_X12_lives) (pc := 80) rfl dX12_lives_80 rfl (r := 162) rfl ?_
      refine aw_iload_n (j := 0) (M := M_X12_lives) (pc := 83) dX12_lives_83 rfl rfl ?_
      obtain ⟨o12, hF⟩ := hF
      refine aw_iald (k := (80 + (6 * v2)).toNat) (M := M_X12_lives) (pc := 84) dX12_lives_84 rfl o12 rfl ?_
      refine aw_bipush (M := M_X12_lives) (pc := 85) dX12_lives_85 ⟨rfl, ⟨by decide, by decide⟩⟩ ?_
      refine aw_icmp_ne (tgt := 91) (M := M_X12_lives) (pc := 87) dX12_lives_87 rfl (fun hc => ?_) (fun hc => ?_)
      · have hF := hF.1 hc
        refine aw_aload_n (j := 1) (M := M_X12_lives) (pc := 91) dX12_lives_91 rfl rfl ?_
        refine gf_X12_75 (M := M_X12_lives) (pc := 92) rfl dX12_lives_92 rfl (r := 179) rfl ?_
        refine aw_iconst (M := M_X12_lives) (pc := 95) dX12_lives_95 ⟨by decide, by decide⟩ ?_
        refine aw_dup2 (M := M_X12_lives) (pc := 96) dX12_lives_96 rfl rfl ?_
        refine aw_iald (k := 0) (M := M_X12_lives) (pc := 97) dX12_lives_97 rfl ⟨by decide, by decide⟩ rfl ?_
        refine aw_aload_n (j := 1) (M := M_X12_lives) (pc := 98) dX12_lives_98 rfl rfl ?_
        refine aw_iload_n (j := 0) (M := M_X12_lives) (pc := 99) dX12_lives_99 rfl rfl ?_
        refine aw_cvi (as := [(0, 80 + (6 * v2))]) (st := [(0, h10 179 0), (0, 0), vr 179]) (M := M_X12_lives) (pc := 100) (f_X12_does  hF) dX12_lives_100 rfl (Or.inl ⟨_, _, _, rfl, rfl⟩) cy_X12_does ml_X12_465 (by decide) (by decide) (Nat.le_of_ble_eq_true rfl) (fun r15 h14 hF => ?_)
        refine aw_if_eq (tgt := 110) (M := M_X12_lives) (pc := 103) dX12_lives_103 rfl (fun hc => ?_) (fun hc => ?_)
        · have hF := hF.1 hc
          refine aw_iconst (M := M_X12_lives) (pc := 110) dX12_lives_110 ⟨by decide, by decide⟩ ?_
          obtain ⟨o16, hF⟩ := hF
          refine aw_iadd (M := M_X12_lives) (pc := 111) dX12_lives_111 rfl o16 ?_
          refine aw_iast (k := 0) (M := M_X12_lives) (pc := 112) dX12_lives_112 rfl ⟨by decide, by decide⟩ rfl ?_
          obtain ⟨h17, eh17⟩ : ∃ y : Mem, y = mset h14 179 0 ((h10 179 0) + 1) := ⟨_, rfl⟩
          have hF := hF h17 eh17
          rw [← eh17]
          refine aw_aload_n (j := 1) (M := M_X12_lives) (pc := 113) dX12_lives_113 rfl rfl ?_
          refine gf_X12_7 (M := M_X12_lives) (pc := 114) rfl dX12_lives_114 rfl (r := 162) rfl ?_
          refine aw_iload_n (j := 0) (M := M_X12_lives) (pc := 117) dX12_lives_117 rfl rfl ?_
          refine aw_iald (k := (80 + (6 * v2)).toNat) (M := M_X12_lives) (pc := 118) dX12_lives_118 rfl o12 rfl ?_
          refine aw_bipush (M := M_X12_lives) (pc := 119) dX12_lives_119 ⟨rfl, ⟨by decide, by decide⟩⟩ ?_
          refine aw_icmp_ne (tgt := 140) (M := M_X12_lives) (pc := 121) dX12_lives_121 rfl (fun hc => ?_) (fun hc => ?_)
          · have hF := hF.1 hc
            exact aw_ls [1, 2, 0] rfl (j_X12_lives_140  hF)
          · have hF := hF.2 hc
            refine aw_aload_n (j := 1) (M := M_X12_lives) (pc := 124) dX12_lives_124 rfl rfl ?_
            refine gf_X12_72 (M := M_X12_lives) (pc := 125) rfl dX12_lives_125 rfl (r := 178) rfl ?_
            refine aw_iload_n (j := 2) (M := M_X12_lives) (pc := 128) dX12_lives_128 rfl rfl ?_
            refine aw_aload_n (j := 1) (M := M_X12_lives) (pc := 129) dX12_lives_129 rfl rfl ?_
            refine gf_X12_7 (M := M_X12_lives) (pc := 130) rfl dX12_lives_130 rfl (r := 162) rfl ?_
            refine aw_iload_n (j := 0) (M := M_X12_lives) (pc := 133) dX12_lives_133 rfl rfl ?_
            refine aw_iconst (M := M_X12_lives) (pc := 134) dX12_lives_134 ⟨by decide, by decide⟩ ?_
            obtain ⟨o19, hF⟩ := hF
            refine aw_iadd (M := M_X12_lives) (pc := 135) dX12_lives_135 rfl o19 ?_
            obtain ⟨o21, hF⟩ := hF
            refine aw_iald (k := ((80 + (6 * v2)) + 1).toNat) (M := M_X12_lives) (pc := 136) dX12_lives_136 rfl o21 rfl ?_
            refine aw_iconst (M := M_X12_lives) (pc := 137) dX12_lives_137 ⟨by decide, by decide⟩ ?_
            obtain ⟨o22, hF⟩ := hF
            refine aw_isub (M := M_X12_lives) (pc := 138) dX12_lives_138 rfl o22 ?_
            obtain ⟨o23, hF⟩ := hF
            refine aw_iast (k := (v2).toNat) (M := M_X12_lives) (pc := 139) dX12_lives_139 rfl o23 rfl ?_
            obtain ⟨h24, eh24⟩ : ∃ y : Mem, y = mset h17 178 (v2).toNat ((h17 162 ((80 + (6 * v2)) + 1).toNat) - 1) := ⟨_, rfl⟩
            have hF := hF h24 eh24
            rw [← eh24]
            exact aw_ls [1, 2, 0] rfl (j_X12_lives_140  hF)
        · have hF := hF.2 hc
          refine aw_iconst (M := M_X12_lives) (pc := 106) dX12_lives_106 ⟨by decide, by decide⟩ ?_
          refine aw_goto (tgt := 111) (M := M_X12_lives) (pc := 107) dX12_lives_107 rfl ?_
          obtain ⟨o25, hF⟩ := hF
          refine aw_iadd (r := h10 179 0) (M := M_X12_lives) (pc := 111) dX12_lives_111 (Int.add_zero _) o25 ?_
          refine aw_iast (k := 0) (M := M_X12_lives) (pc := 112) dX12_lives_112 rfl ⟨by decide, by decide⟩ rfl ?_
          obtain ⟨h26, eh26⟩ : ∃ y : Mem, y = mset h14 179 0 (h10 179 0) := ⟨_, rfl⟩
          have hF := hF h26 eh26
          rw [← eh26]
          refine aw_aload_n (j := 1) (M := M_X12_lives) (pc := 113) dX12_lives_113 rfl rfl ?_
          refine gf_X12_7 (M := M_X12_lives) (pc := 114) rfl dX12_lives_114 rfl (r := 162) rfl ?_
          refine aw_iload_n (j := 0) (M := M_X12_lives) (pc := 117) dX12_lives_117 rfl rfl ?_
          refine aw_iald (k := (80 + (6 * v2)).toNat) (M := M_X12_lives) (pc := 118) dX12_lives_118 rfl o12 rfl ?_
          refine aw_bipush (M := M_X12_lives) (pc := 119) dX12_lives_119 ⟨rfl, ⟨by decide, by decide⟩⟩ ?_
          refine aw_icmp_ne (tgt := 140) (M := M_X12_lives) (pc := 121) dX12_lives_121 rfl (fun hc => ?_) (fun hc => ?_)
          · have hF := hF.1 hc
            exact aw_ls [1, 2, 0] rfl (j_X12_lives_140  hF)
          · have hF := hF.2 hc
            refine aw_aload_n (j := 1) (M := M_X12_lives) (pc := 124) dX12_lives_124 rfl rfl ?_
            refine gf_X12_72 (M := M_X12_lives) (pc := 125) rfl dX12_lives_125 rfl (r := 178) rfl ?_
            refine aw_iload_n (j := 2) (M := M_X12_lives) (pc := 128) dX12_lives_128 rfl rfl ?_
            refine aw_aload_n (j := 1) (M := M_X12_lives) (pc := 129) dX12_lives_129 rfl rfl ?_
            refine gf_X12_7 (M := M_X12_lives) (pc := 130) rfl dX12_lives_130 rfl (r := 162) rfl ?_
            refine aw_iload_n (j := 0) (M := M_X12_lives) (pc := 133) dX12_lives_133 rfl rfl ?_
            refine aw_iconst (M := M_X12_lives) (pc := 134) dX12_lives_134 ⟨by decide, by decide⟩ ?_
            obtain ⟨o28, hF⟩ := hF
            refine aw_iadd (M := M_X12_lives) (pc := 135) dX12_lives_135 rfl o28 ?_
            obtain ⟨o30, hF⟩ := hF
            refine aw_iald (k := ((80 + (6 * v2)) + 1).toNat) (M := M_X12_lives) (pc := 136) dX12_lives_136 rfl o30 rfl ?_
            refine aw_iconst (M := M_X12_lives) (pc := 137) dX12_lives_137 ⟨by decide, by decide⟩ ?_
            obtain ⟨o31, hF⟩ := hF
            refine aw_isub (M := M_X12_lives) (pc := 138) dX12_lives_138 rfl o31 ?_
            obtain ⟨o32, hF⟩ := hF
            refine aw_iast (k := (v2).toNat) (M := M_X12_lives) (pc := 139) dX12_lives_139 rfl o32 rfl ?_
            obtain ⟨h33, eh33⟩ : ∃ y : Mem, y = mset h26 178 (v2).toNat ((h26 162 ((80 + (6 * v2)) + 1).toNat) - 1) := ⟨_, rfl⟩
            have hF := hF h33 eh33
            rw [← eh33]
            exact aw_ls [1, 2, 0] rfl (j_X12_lives_140  hF)
      · have hF := hF.2 hc
        exact aw_ret (M := M_X12_lives) (pc := 90) dX12_lives_90 rfl ⟨rfl, hF⟩
    · have hF := hF.2 hc
      refine aw_aload_n (j := 0) (M := M_X12_lives) (pc := 53) dX12_lives_53 rfl rfl ?_
      refine gf_X12_75 (M := M_X12_lives) (pc := 54) rfl dX12_lives_54 rfl (r := 179) rfl ?_
      refine aw_iconst (M := M_X12_lives) (pc := 57) dX12_lives_57 ⟨by decide, by decide⟩ ?_
      refine aw_iconst (M := M_X12_lives) (pc := 58) dX12_lives_58 ⟨by decide, by decide⟩ ?_
      refine aw_iast (k := 4) (M := M_X12_lives) (pc := 59) dX12_lives_59 rfl ⟨by decide, by decide⟩ rfl ?_
      obtain ⟨h34, eh34⟩ : ∃ y : Mem, y = mset h 179 4 1 := ⟨_, rfl⟩
      have hF := hF h34 eh34
      rw [← eh34]
      exact aw_ret (M := M_X12_lives) (pc := 60) dX12_lives_60 rfl ⟨rfl, hF⟩
def F_X12_lives (h : Mem) (a1 : Int) (Q : Mem → Prop) : Prop :=
  (∀ h1 : Mem, h1 = mset h 161 37 a1 → (∀ h2 : Mem, h2 = mset h1 161 38 0 → L_X12_lives_12 h2 0 Q))
set_option maxRecDepth 100000 in
set_option maxHeartbeats 4000000 in
theorem f_X12_lives {h : Mem} {a1 : Int} {Q : Mem → Prop}  (hF : F_X12_lives h a1 Q) : Ct yX12_lives cX12_lives 4 none (11, 264) [vr 161, (0, a1)] h (qv Q) := by
  refine Ct.of np_RX12 (Nat.le_of_ble_eq_true rfl) ?_
  unfold F_X12_lives at hF
  show AW M_X12_lives 0 [(0, vr 161), (1, (0, a1))] [] h (qv Q)
  refine aw_aload_n (j := 0) (M := M_X12_lives) (pc := 0) dX12_lives_0 rfl rfl ?_
  refine aw_iload_n (j := 1) (M := M_X12_lives) (pc := 1) dX12_lives_1 rfl rfl ?_
  refine pf_X12_446 (M := M_X12_lives) (pc := 2) rfl dX12_lives_2 rfl ?_
  obtain ⟨h1, eh1⟩ : ∃ y : Mem, y = mset h 161 37 a1 := ⟨_, rfl⟩
  have hF := hF h1 eh1
  rw [← eh1]
  refine aw_aload_n (j := 0) (M := M_X12_lives) (pc := 5) dX12_lives_5 rfl rfl ?_
  refine aw_iconst (M := M_X12_lives) (pc := 6) dX12_lives_6 ⟨by decide, by decide⟩ ?_
  refine pf_X12_462 (M := M_X12_lives) (pc := 7) rfl dX12_lives_7 rfl ?_
  obtain ⟨h2, eh2⟩ : ∃ y : Mem, y = mset h1 161 38 0 := ⟨_, rfl⟩
  have hF := hF h2 eh2
  rw [← eh2]
  refine aw_iconst (M := M_X12_lives) (pc := 10) dX12_lives_10 ⟨by decide, by decide⟩ ?_
  refine aw_istore_n (ls' := [(2, (0, 0)), (0, vr 161), (1, (0, a1))]) (M := M_X12_lives) (pc := 11) dX12_lives_11 rfl (by decide) rfl ?_
  exact aw_ls [1, 0] rfl hF
abbrev M_X12_live : Hd := (cX12_live, 3, RX12, (some .int), (12, 287), sc0)
def L_X12_live_43 (h : Mem) (v2 : Int) (Q : Int → Mem → Prop) : Prop := AW M_X12_live 43 [(0, vr 161), (2, (0, v2))] [] h (qi Q)
def B_X12_live_43 (h : Mem) (v2 : Int) (Q : Int → Mem → Prop) : Prop :=
  ((5 ≤ v2 → (∀ h10 : Mem, h10 = mset h 161 42 1 → (F_X12_gives h10 (h10 161 38) (fun r12 h11 => Q r12 h11)))) ∧ (¬ (5 ≤ v2) → ((0 ≤ v2 ∧ v2 < 5) ∧ (∀ h15 : Mem, h15 = mset h 180 (v2).toNat (h 179 (v2).toNat) → (InR (v2 + 1) ∧ L_X12_live_43 h15 (v2 + 1) Q)))))
set_option maxRecDepth 100000 in
set_option maxHeartbeats 4000000 in
theorem l_X12_live_43 {h : Mem} {v2 : Int} {Q : Int → Mem → Prop}  (hF : B_X12_live_43 h v2 Q) : L_X12_live_43 h v2 Q := by
  unfold B_X12_live_43 at hF
  show AW M_X12_live 43 [(0, vr 161), (2, (0, v2))] [] h (qi Q)
  refine aw_iload_n (j := 1) (M := M_X12_live) (pc := 43) dX12_live_43 rfl rfl ?_
  refine aw_iconst (M := M_X12_live) (pc := 44) dX12_live_44 ⟨by decide, by decide⟩ ?_
  refine aw_icmp_ge (tgt := 66) (M := M_X12_live) (pc := 45) dX12_live_45 rfl (fun hc => ?_) (fun hc => ?_)
  · have hF := hF.1 hc
    refine aw_aload_n (j := 0) (M := M_X12_live) (pc := 66) dX12_live_66 rfl rfl ?_
    refine aw_iconst (M := M_X12_live) (pc := 67) dX12_live_67 ⟨by decide, by decide⟩ ?_
    refine pf_X12_479 (M := M_X12_live) (pc := 68) rfl dX12_live_68 rfl (Or.inr rfl) ?_
    obtain ⟨h10, eh10⟩ : ∃ y : Mem, y = mset h 161 42 1 := ⟨_, rfl⟩
    have hF := hF h10 eh10
    rw [← eh10]
    refine aw_aload_n (j := 0) (M := M_X12_live) (pc := 71) dX12_live_71 rfl rfl ?_
    refine aw_aload_n (j := 0) (M := M_X12_live) (pc := 72) dX12_live_72 rfl rfl ?_
    refine gf_X12_462 (M := M_X12_live) (pc := 73) rfl dX12_live_73 rfl ?_
    refine aw_cvi (as := [(0, h10 161 38)]) (st := []) (M := M_X12_live) (pc := 76) (f_X12_gives  hF) dX12_live_76 rfl (Or.inl ⟨_, _, _, rfl, rfl⟩) cy_X12_gives ml_X12_95 (by decide) (by decide) (Nat.le_of_ble_eq_true rfl) (fun r12 h11 hF => ?_)
    exact aw_ireti (M := M_X12_live) (pc := 79) dX12_live_79 rfl ⟨_, rfl, hF⟩
  · have hF := hF.2 hc
    refine aw_aload_n (j := 0) (M := M_X12_live) (pc := 48) dX12_live_48 rfl rfl ?_
    refine gf_X12_78 (M := M_X12_live) (pc := 49) rfl dX12_live_49 rfl (r := 180) rfl ?_
    refine aw_iload_n (j := 1) (M := M_X12_live) (pc := 52) dX12_live_52 rfl rfl ?_
    refine aw_aload_n (j := 0) (M := M_X12_live) (pc := 53) dX12_live_53 rfl rfl ?_
    refine gf_X12_75 (M := M_X12_live) (pc := 54) rfl dX12_live_54 rfl (r := 179) rfl ?_
    refine aw_iload_n (j := 1) (M := M_X12_live) (pc := 57) dX12_live_57 rfl rfl ?_
    obtain ⟨o14, hF⟩ := hF
    refine aw_iald (k := (v2).toNat) (M := M_X12_live) (pc := 58) dX12_live_58 rfl o14 rfl ?_
    refine aw_iast (k := (v2).toNat) (M := M_X12_live) (pc := 59) dX12_live_59 rfl o14 rfl ?_
    obtain ⟨h15, eh15⟩ : ∃ y : Mem, y = mset h 180 (v2).toNat (h 179 (v2).toNat) := ⟨_, rfl⟩
    have hF := hF h15 eh15
    rw [← eh15]
    obtain ⟨o16, hF⟩ := hF
    refine aw_iinc (j := 1) (x := v2) (r := v2 + 1) (ls' := [(2, (0, v2 + 1)), (0, vr 161)]) (M := M_X12_live) (pc := 60) dX12_live_60 rfl rfl o16 (by decide) rfl ?_
    refine aw_goto (tgt := 43) (M := M_X12_live) (pc := 63) dX12_live_63 rfl ?_
    exact aw_ls [1, 0] rfl hF
def F_X12_live (h : Mem) (a1 : Int) (Q : Int → Mem → Prop) : Prop :=
  (F_X12_isFrom h a1 0 9999 (fun r2 h1 => ((¬ (r2 = 0) → ((¬ ((h1 162 9) = (-1)) → (F_X12_lives h1 a1 (fun h4 => L_X12_live_43 h4 0 Q))) ∧ ((h1 162 9) = (-1) → (F_X12_refuse h1 6 (fun r7 h6 => Q r7 h6))))) ∧ (r2 = 0 → (F_X12_refuse h1 1 (fun r9 h8 => Q r9 h8))))))
set_option maxRecDepth 100000 in
set_option maxHeartbeats 4000000 in
theorem f_X12_live {h : Mem} {a1 : Int} {Q : Int → Mem → Prop}  (hF : F_X12_live h a1 Q) : Ct yX12_live cX12_live 3 (some .int) (12, 287) [vr 161, (0, a1)] h (qi Q) := by
  refine Ct.of np_RX12 (Nat.le_of_ble_eq_true rfl) ?_
  unfold F_X12_live at hF
  show AW M_X12_live 0 [(0, vr 161), (1, (0, a1))] [] h (qi Q)
  refine aw_iload_n (j := 1) (M := M_X12_live) (pc := 0) dX12_live_0 rfl rfl ?_
  refine aw_i2l (M := M_X12_live) (pc := 1) dX12_live_1 ?_
  refine aw_lconst (v := 0) (M := M_X12_live) (pc := 2) dX12_live_2 ⟨rfl, ⟨by decide, by decide⟩⟩ ?_
  refine aw_ldc2 (v := 9999) (M := M_X12_live) (pc := 3) dX12_live_3 kl_X12_474 ⟨by decide, by decide⟩ ?_
  refine aw_csi (as := [(1, a1), (1, 0), (1, 9999)]) (st := []) (M := M_X12_live) (pc := 6) (f_X12_isFrom  hF) dX12_live_6 rfl cy_X12_isFrom ml_X12_316 (by decide) (by decide) (Nat.le_of_ble_eq_true rfl) (fun r2 h1 hF => ?_)
  refine aw_if_ne (tgt := 18) (M := M_X12_live) (pc := 9) dX12_live_9 rfl (fun hc => ?_) (fun hc => ?_)
  · have hF := hF.1 hc
    refine aw_aload_n (j := 0) (M := M_X12_live) (pc := 18) dX12_live_18 rfl rfl ?_
    refine gf_X12_7 (M := M_X12_live) (pc := 19) rfl dX12_live_19 rfl (r := 162) rfl ?_
    refine aw_bipush (M := M_X12_live) (pc := 22) dX12_live_22 ⟨rfl, ⟨by decide, by decide⟩⟩ ?_
    refine aw_iald (k := 9) (M := M_X12_live) (pc := 24) dX12_live_24 rfl ⟨by decide, by decide⟩ rfl ?_
    refine aw_iconst (M := M_X12_live) (pc := 25) dX12_live_25 ⟨by decide, by decide⟩ ?_
    refine aw_icmp_ne (tgt := 36) (M := M_X12_live) (pc := 26) dX12_live_26 rfl (fun hc => ?_) (fun hc => ?_)
    · have hF := hF.1 hc
      refine aw_aload_n (j := 0) (M := M_X12_live) (pc := 36) dX12_live_36 rfl rfl ?_
      refine aw_iload_n (j := 1) (M := M_X12_live) (pc := 37) dX12_live_37 rfl rfl ?_
      refine aw_cvv (as := [(0, a1)]) (st := []) (M := M_X12_live) (pc := 38) (f_X12_lives  hF) dX12_live_38 rfl (Or.inl ⟨_, _, _, rfl, rfl⟩) cy_X12_lives ml_X12_476 (by decide) (by decide) (Nat.le_of_ble_eq_true rfl) (fun h4 hF => ?_)
      refine aw_iconst (M := M_X12_live) (pc := 41) dX12_live_41 ⟨by decide, by decide⟩ ?_
      refine aw_istore_n (ls' := [(2, (0, 0)), (0, vr 161), (1, (0, a1))]) (M := M_X12_live) (pc := 42) dX12_live_42 rfl (by decide) rfl ?_
      exact aw_ls [1, 0] rfl hF
    · have hF := hF.2 hc
      refine aw_aload_n (j := 0) (M := M_X12_live) (pc := 29) dX12_live_29 rfl rfl ?_
      refine aw_bipush (M := M_X12_live) (pc := 30) dX12_live_30 ⟨rfl, ⟨by decide, by decide⟩⟩ ?_
      refine aw_cvi (as := [(0, 6)]) (st := []) (M := M_X12_live) (pc := 32) (f_X12_refuse  hF) dX12_live_32 rfl (Or.inl ⟨_, _, _, rfl, rfl⟩) cy_X12_refuse ml_X12_91 (by decide) (by decide) (Nat.le_of_ble_eq_true rfl) (fun r7 h6 hF => ?_)
      exact aw_ireti (M := M_X12_live) (pc := 35) dX12_live_35 rfl ⟨_, rfl, hF⟩
  · have hF := hF.2 hc
    refine aw_aload_n (j := 0) (M := M_X12_live) (pc := 12) dX12_live_12 rfl rfl ?_
    refine aw_iconst (M := M_X12_live) (pc := 13) dX12_live_13 ⟨by decide, by decide⟩ ?_
    refine aw_cvi (as := [(0, 1)]) (st := []) (M := M_X12_live) (pc := 14) (f_X12_refuse  hF) dX12_live_14 rfl (Or.inl ⟨_, _, _, rfl, rfl⟩) cy_X12_refuse ml_X12_91 (by decide) (by decide) (Nat.le_of_ble_eq_true rfl) (fun r9 h8 hF => ?_)
    exact aw_ireti (M := M_X12_live) (pc := 17) dX12_live_17 rfl ⟨_, rfl, hF⟩
abbrev M_X12_lived : Hd := (cX12_lived, 2, RX12, (some .int), (2, 66), sc0)
def F_X12_lived (h : Mem) (a1 : Int) (Q : Int → Mem → Prop) : Prop :=
  ((a1 < 0 → (F_X12_refuse h 1 (fun r2 h1 => Q r2 h1))) ∧ (¬ (a1 < 0) → ((a1 ≤ 4 → (((h 161 42) = 0 → (F_X12_refuse h 6 (fun r4 h3 => Q r4 h3))) ∧ (¬ ((h 161 42) = 0) → ((0 ≤ a1 ∧ a1 < 5) ∧ (F_X12_gives h (h 180 (a1).toNat) (fun r8 h7 => Q r8 h7)))))) ∧ (¬ (a1 ≤ 4) → (F_X12_refuse h 1 (fun r10 h9 => Q r10 h9))))))
set_option maxRecDepth 100000 in
set_option maxHeartbeats 4000000 in
theorem f_X12_lived {h : Mem} {a1 : Int} {Q : Int → Mem → Prop}  (hF : F_X12_lived h a1 Q) : Ct yX12_lived cX12_lived 2 (some .int) (2, 66) [vr 161, (0, a1)] h (qi Q) := by
  refine Ct.of np_RX12 (Nat.le_of_ble_eq_true rfl) ?_
  unfold F_X12_lived at hF
  show AW M_X12_lived 0 [(0, vr 161), (1, (0, a1))] [] h (qi Q)
  refine aw_iload_n (j := 1) (M := M_X12_lived) (pc := 0) dX12_lived_0 rfl rfl ?_
  refine aw_if_lt (tgt := 9) (M := M_X12_lived) (pc := 1) dX12_lived_1 rfl (fun hc => ?_) (fun hc => ?_)
  · have hF := hF.1 hc
    refine aw_aload_n (j := 0) (M := M_X12_lived) (pc := 9) dX12_lived_9 rfl rfl ?_
    refine aw_iconst (M := M_X12_lived) (pc := 10) dX12_lived_10 ⟨by decide, by decide⟩ ?_
    refine aw_cvi (as := [(0, 1)]) (st := []) (M := M_X12_lived) (pc := 11) (f_X12_refuse  hF) dX12_lived_11 rfl (Or.inl ⟨_, _, _, rfl, rfl⟩) cy_X12_refuse ml_X12_91 (by decide) (by decide) (Nat.le_of_ble_eq_true rfl) (fun r2 h1 hF => ?_)
    refine aw_goto (tgt := 43) (M := M_X12_lived) (pc := 14) dX12_lived_14 rfl ?_
    exact aw_ireti (M := M_X12_lived) (pc := 43) dX12_lived_43 rfl ⟨_, rfl, hF⟩
  · have hF := hF.2 hc
    refine aw_iload_n (j := 1) (M := M_X12_lived) (pc := 4) dX12_lived_4 rfl rfl ?_
    refine aw_iconst (M := M_X12_lived) (pc := 5) dX12_lived_5 ⟨by decide, by decide⟩ ?_
    refine aw_icmp_le (tgt := 17) (M := M_X12_lived) (pc := 6) dX12_lived_6 rfl (fun hc => ?_) (fun hc => ?_)
    · have hF := hF.1 hc
      refine aw_aload_n (j := 0) (M := M_X12_lived) (pc := 17) dX12_lived_17 rfl rfl ?_
      refine gf_X12_479 (M := M_X12_lived) (pc := 18) rfl dX12_lived_18 rfl ?_
      refine aw_if_eq (tgt := 37) (M := M_X12_lived) (pc := 21) dX12_lived_21 rfl (fun hc => ?_) (fun hc => ?_)
      · have hF := hF.1 hc
        refine aw_aload_n (j := 0) (M := M_X12_lived) (pc := 37) dX12_lived_37 rfl rfl ?_
        refine aw_bipush (M := M_X12_lived) (pc := 38) dX12_lived_38 ⟨rfl, ⟨by decide, by decide⟩⟩ ?_
        refine aw_cvi (as := [(0, 6)]) (st := []) (M := M_X12_lived) (pc := 40) (f_X12_refuse  hF) dX12_lived_40 rfl (Or.inl ⟨_, _, _, rfl, rfl⟩) cy_X12_refuse ml_X12_91 (by decide) (by decide) (Nat.le_of_ble_eq_true rfl) (fun r4 h3 hF => ?_)
        exact aw_ireti (M := M_X12_lived) (pc := 43) dX12_lived_43 rfl ⟨_, rfl, hF⟩
      · have hF := hF.2 hc
        refine aw_aload_n (j := 0) (M := M_X12_lived) (pc := 24) dX12_lived_24 rfl rfl ?_
        refine aw_aload_n (j := 0) (M := M_X12_lived) (pc := 25) dX12_lived_25 rfl rfl ?_
        refine gf_X12_78 (M := M_X12_lived) (pc := 26) rfl dX12_lived_26 rfl (r := 180) rfl ?_
        refine aw_iload_n (j := 1) (M := M_X12_lived) (pc := 29) dX12_lived_29 rfl rfl ?_
        obtain ⟨o6, hF⟩ := hF
        refine aw_iald (k := (a1).toNat) (M := M_X12_lived) (pc := 30) dX12_lived_30 rfl o6 rfl ?_
        refine aw_cvi (as := [(0, h 180 (a1).toNat)]) (st := []) (M := M_X12_lived) (pc := 31) (f_X12_gives  hF) dX12_lived_31 rfl (Or.inl ⟨_, _, _, rfl, rfl⟩) cy_X12_gives ml_X12_95 (by decide) (by decide) (Nat.le_of_ble_eq_true rfl) (fun r8 h7 hF => ?_)
        refine aw_goto (tgt := 43) (M := M_X12_lived) (pc := 34) dX12_lived_34 rfl ?_
        exact aw_ireti (M := M_X12_lived) (pc := 43) dX12_lived_43 rfl ⟨_, rfl, hF⟩
    · have hF := hF.2 hc
      refine aw_aload_n (j := 0) (M := M_X12_lived) (pc := 9) dX12_lived_9 rfl rfl ?_
      refine aw_iconst (M := M_X12_lived) (pc := 10) dX12_lived_10 ⟨by decide, by decide⟩ ?_
      refine aw_cvi (as := [(0, 1)]) (st := []) (M := M_X12_lived) (pc := 11) (f_X12_refuse  hF) dX12_lived_11 rfl (Or.inl ⟨_, _, _, rfl, rfl⟩) cy_X12_refuse ml_X12_91 (by decide) (by decide) (Nat.le_of_ble_eq_true rfl) (fun r10 h9 hF => ?_)
      refine aw_goto (tgt := 43) (M := M_X12_lived) (pc := 14) dX12_lived_14 rfl ?_
      exact aw_ireti (M := M_X12_lived) (pc := 43) dX12_lived_43 rfl ⟨_, rfl, hF⟩
abbrev M_X12_make : Hd := (cX12_make, 6, RX12, (some .int), (2, 70), sc0)
def L_X12_make_76 (h : Mem) (v1 : Int) (v2 : Int) (v3 : Int) (v4 : Int) (v5 : Int) (Q : Int → Mem → Prop) : Prop := AW M_X12_make 76 [(0, vr 161), (1, (0, v1)), (2, (0, v2)), (3, (0, v3)), (4, (0, v4)), (5, (0, v5))] [] h (qi Q)
def B_X12_make_76 (h : Mem) (v1 : Int) (v2 : Int) (v3 : Int) (v4 : Int) (v5 : Int) (Q : Int → Mem → Prop) : Prop :=
  ((7 ≤ v5 → (F_X12_thingRow h v4 (fun r20 h19 => ((0 ≤ r20 ∧ r20 < 3008) ∧ (∀ h22 : Mem, h22 = mset h19 162 (r20).toNat v1 → (F_X12_thingRow h22 v4 (fun r24 h23 => (InR (r24 + 1) ∧ ((0 ≤ (r24 + 1) ∧ (r24 + 1) < 3008) ∧ (∀ h27 : Mem, h27 = mset h23 162 (r24 + 1).toNat v2 → (F_X12_thingRow h27 v4 (fun r29 h28 => (InR (r29 + 2) ∧ ((0 ≤ (r29 + 2) ∧ (r29 + 2) < 3008) ∧ (∀ h32 : Mem, h32 = mset h28 162 (r29 + 2).toNat v3 → ((0 ≤ v4 ∧ v4 < 72) ∧ (∀ h34 : Mem, h34 = mset h32 163 (v4).toNat 0 → (F_X12_gives h34 v4 (fun r36 h35 => Q r36 h35))))))))))))))))))) ∧ (¬ (7 ≤ v5) → (F_X12_thingRow h v4 (fun r38 h37 => (InR (r38 + v5) ∧ ((0 ≤ (r38 + v5) ∧ (r38 + v5) < 3008) ∧ (∀ h41 : Mem, h41 = mset h37 162 (r38 + v5).toNat 0 → (InR (v5 + 1) ∧ L_X12_make_76 h41 v1 v2 v3 v4 (v5 + 1) Q))))))))
set_option maxRecDepth 100000 in
set_option maxHeartbeats 4000000 in
theorem l_X12_make_76 {h : Mem} {v1 : Int} {v2 : Int} {v3 : Int} {v4 : Int} {v5 : Int} {Q : Int → Mem → Prop}  (hF : B_X12_make_76 h v1 v2 v3 v4 v5 Q) : L_X12_make_76 h v1 v2 v3 v4 v5 Q := by
  unfold B_X12_make_76 at hF
  show AW M_X12_make 76 [(0, vr 161), (1, (0, v1)), (2, (0, v2)), (3, (0, v3)), (4, (0, v4)), (5, (0, v5))] [] h (qi Q)
  refine aw_iload (j := 5) (M := M_X12_make) (pc := 76) dX12_make_76  rfl ?_
  refine aw_bipush (M := M_X12_make) (pc := 78) dX12_make_78 ⟨rfl, ⟨by decide, by decide⟩⟩ ?_
  refine aw_icmp_ge (tgt := 103) (M := M_X12_make) (pc := 80) dX12_make_80 rfl (fun hc => ?_) (fun hc => ?_)
  · have hF := hF.1 hc
    refine aw_aload_n (j := 0) (M := M_X12_make) (pc := 103) dX12_make_103 rfl rfl ?_
    refine gf_X12_7 (M := M_X12_make) (pc := 104) rfl dX12_make_104 rfl (r := 162) rfl ?_
    refine aw_iload (j := 4) (M := M_X12_make) (pc := 107) dX12_make_107  rfl ?_
    refine aw_csi (as := [(0, v4)]) (st := [vr 162]) (M := M_X12_make) (pc := 109) (f_X12_thingRow  hF) dX12_make_109 rfl cy_X12_thingRow ml_X12_203 (by decide) (by decide) (Nat.le_of_ble_eq_true rfl) (fun r20 h19 hF => ?_)
    refine aw_iload_n (j := 1) (M := M_X12_make) (pc := 112) dX12_make_112 rfl rfl ?_
    obtain ⟨o21, hF⟩ := hF
    refine aw_iast (k := (r20).toNat) (M := M_X12_make) (pc := 113) dX12_make_113 rfl o21 rfl ?_
    obtain ⟨h22, eh22⟩ : ∃ y : Mem, y = mset h19 162 (r20).toNat v1 := ⟨_, rfl⟩
    have hF := hF h22 eh22
    rw [← eh22]
    refine aw_aload_n (j := 0) (M := M_X12_make) (pc := 114) dX12_make_114 rfl rfl ?_
    refine gf_X12_7 (M := M_X12_make) (pc := 115) rfl dX12_make_115 rfl (r := 162) rfl ?_
    refine aw_iload (j := 4) (M := M_X12_make) (pc := 118) dX12_make_118  rfl ?_
    refine aw_csi (as := [(0, v4)]) (st := [vr 162]) (M := M_X12_make) (pc := 120) (f_X12_thingRow  hF) dX12_make_120 rfl cy_X12_thingRow ml_X12_203 (by decide) (by decide) (Nat.le_of_ble_eq_true rfl) (fun r24 h23 hF => ?_)
    refine aw_iconst (M := M_X12_make) (pc := 123) dX12_make_123 ⟨by decide, by decide⟩ ?_
    obtain ⟨o25, hF⟩ := hF
    refine aw_iadd (M := M_X12_make) (pc := 124) dX12_make_124 rfl o25 ?_
    refine aw_iload_n (j := 2) (M := M_X12_make) (pc := 125) dX12_make_125 rfl rfl ?_
    obtain ⟨o26, hF⟩ := hF
    refine aw_iast (k := (r24 + 1).toNat) (M := M_X12_make) (pc := 126) dX12_make_126 rfl o26 rfl ?_
    obtain ⟨h27, eh27⟩ : ∃ y : Mem, y = mset h23 162 (r24 + 1).toNat v2 := ⟨_, rfl⟩
    have hF := hF h27 eh27
    rw [← eh27]
    refine aw_aload_n (j := 0) (M := M_X12_make) (pc := 127) dX12_make_127 rfl rfl ?_
    refine gf_X12_7 (M := M_X12_make) (pc := 128) rfl dX12_make_128 rfl (r := 162) rfl ?_
    refine aw_iload (j := 4) (M := M_X12_make) (pc := 131) dX12_make_131  rfl ?_
    refine aw_csi (as := [(0, v4)]) (st := [vr 162]) (M := M_X12_make) (pc := 133) (f_X12_thingRow  hF) dX12_make_133 rfl cy_X12_thingRow ml_X12_203 (by decide) (by decide) (Nat.le_of_ble_eq_true rfl) (fun r29 h28 hF => ?_)
    refine aw_iconst (M := M_X12_make) (pc := 136) dX12_make_136 ⟨by decide, by decide⟩ ?_
    obtain ⟨o30, hF⟩ := hF
    refine aw_iadd (M := M_X12_make) (pc := 137) dX12_make_137 rfl o30 ?_
    refine aw_iload_n (j := 3) (M := M_X12_make) (pc := 138) dX12_make_138 rfl rfl ?_
    obtain ⟨o31, hF⟩ := hF
    refine aw_iast (k := (r29 + 2).toNat) (M := M_X12_make) (pc := 139) dX12_make_139 rfl o31 rfl ?_
    obtain ⟨h32, eh32⟩ : ∃ y : Mem, y = mset h28 162 (r29 + 2).toNat v3 := ⟨_, rfl⟩
    have hF := hF h32 eh32
    rw [← eh32]
    refine aw_aload_n (j := 0) (M := M_X12_make) (pc := 140) dX12_make_140 rfl rfl ?_
    refine gf_X12_13 (M := M_X12_make) (pc := 141) rfl dX12_make_141 rfl (r := 163) rfl ?_
    refine aw_iload (j := 4) (M := M_X12_make) (pc := 144) dX12_make_144  rfl ?_
    refine aw_lconst (v := 0) (M := M_X12_make) (pc := 146) dX12_make_146 ⟨rfl, ⟨by decide, by decide⟩⟩ ?_
    obtain ⟨o33, hF⟩ := hF
    refine aw_last (k := (v4).toNat) (M := M_X12_make) (pc := 147) dX12_make_147 rfl o33 rfl ?_
    obtain ⟨h34, eh34⟩ : ∃ y : Mem, y = mset h32 163 (v4).toNat 0 := ⟨_, rfl⟩
    have hF := hF h34 eh34
    rw [← eh34]
    refine aw_aload_n (j := 0) (M := M_X12_make) (pc := 148) dX12_make_148 rfl rfl ?_
    refine aw_iload (j := 4) (M := M_X12_make) (pc := 149) dX12_make_149  rfl ?_
    refine aw_cvi (as := [(0, v4)]) (st := []) (M := M_X12_make) (pc := 151) (f_X12_gives  hF) dX12_make_151 rfl (Or.inl ⟨_, _, _, rfl, rfl⟩) cy_X12_gives ml_X12_95 (by decide) (by decide) (Nat.le_of_ble_eq_true rfl) (fun r36 h35 hF => ?_)
    exact aw_ireti (M := M_X12_make) (pc := 154) dX12_make_154 rfl ⟨_, rfl, hF⟩
  · have hF := hF.2 hc
    refine aw_aload_n (j := 0) (M := M_X12_make) (pc := 83) dX12_make_83 rfl rfl ?_
    refine gf_X12_7 (M := M_X12_make) (pc := 84) rfl dX12_make_84 rfl (r := 162) rfl ?_
    refine aw_iload (j := 4) (M := M_X12_make) (pc := 87) dX12_make_87  rfl ?_
    refine aw_csi (as := [(0, v4)]) (st := [vr 162]) (M := M_X12_make) (pc := 89) (f_X12_thingRow  hF) dX12_make_89 rfl cy_X12_thingRow ml_X12_203 (by decide) (by decide) (Nat.le_of_ble_eq_true rfl) (fun r38 h37 hF => ?_)
    refine aw_iload (j := 5) (M := M_X12_make) (pc := 92) dX12_make_92  rfl ?_
    obtain ⟨o39, hF⟩ := hF
    refine aw_iadd (M := M_X12_make) (pc := 94) dX12_make_94 rfl o39 ?_
    refine aw_iconst (M := M_X12_make) (pc := 95) dX12_make_95 ⟨by decide, by decide⟩ ?_
    obtain ⟨o40, hF⟩ := hF
    refine aw_iast (k := (r38 + v5).toNat) (M := M_X12_make) (pc := 96) dX12_make_96 rfl o40 rfl ?_
    obtain ⟨h41, eh41⟩ : ∃ y : Mem, y = mset h37 162 (r38 + v5).toNat 0 := ⟨_, rfl⟩
    have hF := hF h41 eh41
    rw [← eh41]
    obtain ⟨o42, hF⟩ := hF
    refine aw_iinc (j := 5) (x := v5) (r := v5 + 1) (ls' := [(5, (0, v5 + 1)), (0, vr 161), (1, (0, v1)), (2, (0, v2)), (3, (0, v3)), (4, (0, v4))]) (M := M_X12_make) (pc := 97) dX12_make_97 rfl rfl o42 (by decide) rfl ?_
    refine aw_goto (tgt := 76) (M := M_X12_make) (pc := 100) dX12_make_100 rfl ?_
    exact aw_ls [1, 2, 3, 4, 5, 0] rfl hF
def F_X12_make (h : Mem) (a1 : Int) (a2 : Int) (a3 : Int) (Q : Int → Mem → Prop) : Prop :=
  (F_X12_isFrom h a1 0 9 (fun r2 h1 => ((r2 = 0 → (F_X12_refuse h1 1 (fun r4 h3 => Q r4 h3))) ∧ (¬ (r2 = 0) → (F_X12_isFrom h1 a2 1 24 (fun r6 h5 => ((r6 = 0 → (F_X12_refuse h5 1 (fun r8 h7 => Q r8 h7))) ∧ (¬ (r6 = 0) → (F_X12_isFrom h5 a3 1 24 (fun r10 h9 => ((¬ (r10 = 0) → ((¬ ((h9 162 0) = 8) → (InR ((h9 162 0) + 1) ∧ (∀ h14 : Mem, h14 = mset h9 162 0 ((h9 162 0) + 1) → L_X12_make_76 h14 a1 a2 a3 (h9 162 0) 0 Q))) ∧ ((h9 162 0) = 8 → (F_X12_refuse h9 4 (fun r16 h15 => Q r16 h15))))) ∧ (r10 = 0 → (F_X12_refuse h9 1 (fun r18 h17 => Q r18 h17))))))))))))))
set_option maxRecDepth 100000 in
set_option maxHeartbeats 4000000 in
theorem f_X12_make {h : Mem} {a1 : Int} {a2 : Int} {a3 : Int} {Q : Int → Mem → Prop}  (hF : F_X12_make h a1 a2 a3 Q) : Ct yX12_make cX12_make 6 (some .int) (2, 70) [vr 161, (0, a1), (0, a2), (0, a3)] h (qi Q) := by
  refine Ct.of np_RX12 (Nat.le_of_ble_eq_true rfl) ?_
  unfold F_X12_make at hF
  show AW M_X12_make 0 [(0, vr 161), (1, (0, a1)), (2, (0, a2)), (3, (0, a3))] [] h (qi Q)
  refine aw_iload_n (j := 1) (M := M_X12_make) (pc := 0) dX12_make_0 rfl rfl ?_
  refine aw_i2l (M := M_X12_make) (pc := 1) dX12_make_1 ?_
  refine aw_lconst (v := 0) (M := M_X12_make) (pc := 2) dX12_make_2 ⟨rfl, ⟨by decide, by decide⟩⟩ ?_
  refine aw_ldc2 (v := 9) (M := M_X12_make) (pc := 3) dX12_make_3 kl_X12_337 ⟨by decide, by decide⟩ ?_
  refine aw_csi (as := [(1, a1), (1, 0), (1, 9)]) (st := []) (M := M_X12_make) (pc := 6) (f_X12_isFrom  hF) dX12_make_6 rfl cy_X12_isFrom ml_X12_316 (by decide) (by decide) (Nat.le_of_ble_eq_true rfl) (fun r2 h1 hF => ?_)
  refine aw_if_eq (tgt := 36) (M := M_X12_make) (pc := 9) dX12_make_9 rfl (fun hc => ?_) (fun hc => ?_)
  · have hF := hF.1 hc
    refine aw_aload_n (j := 0) (M := M_X12_make) (pc := 36) dX12_make_36 rfl rfl ?_
    refine aw_iconst (M := M_X12_make) (pc := 37) dX12_make_37 ⟨by decide, by decide⟩ ?_
    refine aw_cvi (as := [(0, 1)]) (st := []) (M := M_X12_make) (pc := 38) (f_X12_refuse  hF) dX12_make_38 rfl (Or.inl ⟨_, _, _, rfl, rfl⟩) cy_X12_refuse ml_X12_91 (by decide) (by decide) (Nat.le_of_ble_eq_true rfl) (fun r4 h3 hF => ?_)
    exact aw_ireti (M := M_X12_make) (pc := 41) dX12_make_41 rfl ⟨_, rfl, hF⟩
  · have hF := hF.2 hc
    refine aw_iload_n (j := 2) (M := M_X12_make) (pc := 12) dX12_make_12 rfl rfl ?_
    refine aw_i2l (M := M_X12_make) (pc := 13) dX12_make_13 ?_
    refine aw_lconst (v := 1) (M := M_X12_make) (pc := 14) dX12_make_14 ⟨rfl, ⟨by decide, by decide⟩⟩ ?_
    refine aw_ldc2 (v := 24) (M := M_X12_make) (pc := 15) dX12_make_15 kl_X12_335 ⟨by decide, by decide⟩ ?_
    refine aw_csi (as := [(1, a2), (1, 1), (1, 24)]) (st := []) (M := M_X12_make) (pc := 18) (f_X12_isFrom  hF) dX12_make_18 rfl cy_X12_isFrom ml_X12_316 (by decide) (by decide) (Nat.le_of_ble_eq_true rfl) (fun r6 h5 hF => ?_)
    refine aw_if_eq (tgt := 36) (M := M_X12_make) (pc := 21) dX12_make_21 rfl (fun hc => ?_) (fun hc => ?_)
    · have hF := hF.1 hc
      refine aw_aload_n (j := 0) (M := M_X12_make) (pc := 36) dX12_make_36 rfl rfl ?_
      refine aw_iconst (M := M_X12_make) (pc := 37) dX12_make_37 ⟨by decide, by decide⟩ ?_
      refine aw_cvi (as := [(0, 1)]) (st := []) (M := M_X12_make) (pc := 38) (f_X12_refuse  hF) dX12_make_38 rfl (Or.inl ⟨_, _, _, rfl, rfl⟩) cy_X12_refuse ml_X12_91 (by decide) (by decide) (Nat.le_of_ble_eq_true rfl) (fun r8 h7 hF => ?_)
      exact aw_ireti (M := M_X12_make) (pc := 41) dX12_make_41 rfl ⟨_, rfl, hF⟩
    · have hF := hF.2 hc
      refine aw_iload_n (j := 3) (M := M_X12_make) (pc := 24) dX12_make_24 rfl rfl ?_
      refine aw_i2l (M := M_X12_make) (pc := 25) dX12_make_25 ?_
      refine aw_lconst (v := 1) (M := M_X12_make) (pc := 26) dX12_make_26 ⟨rfl, ⟨by decide, by decide⟩⟩ ?_
      refine aw_ldc2 (v := 24) (M := M_X12_make) (pc := 27) dX12_make_27 kl_X12_335 ⟨by decide, by decide⟩ ?_
      refine aw_csi (as := [(1, a3), (1, 1), (1, 24)]) (st := []) (M := M_X12_make) (pc := 30) (f_X12_isFrom  hF) dX12_make_30 rfl cy_X12_isFrom ml_X12_316 (by decide) (by decide) (Nat.le_of_ble_eq_true rfl) (fun r10 h9 hF => ?_)
      refine aw_if_ne (tgt := 42) (M := M_X12_make) (pc := 33) dX12_make_33 rfl (fun hc => ?_) (fun hc => ?_)
      · have hF := hF.1 hc
        refine aw_aload_n (j := 0) (M := M_X12_make) (pc := 42) dX12_make_42 rfl rfl ?_
        refine gf_X12_7 (M := M_X12_make) (pc := 43) rfl dX12_make_43 rfl (r := 162) rfl ?_
        refine aw_iconst (M := M_X12_make) (pc := 46) dX12_make_46 ⟨by decide, by decide⟩ ?_
        refine aw_iald (k := 0) (M := M_X12_make) (pc := 47) dX12_make_47 rfl ⟨by decide, by decide⟩ rfl ?_
        refine aw_istore (ls' := [(4, (0, h9 162 0)), (0, vr 161), (1, (0, a1)), (2, (0, a2)), (3, (0, a3))]) (M := M_X12_make) (pc := 48) dX12_make_48  (by decide) rfl ?_
        refine aw_iload (j := 0) (M := M_X12_make) (pc := 50) dX12_make_50  rfl ?_
        refine aw_bipush (M := M_X12_make) (pc := 52) dX12_make_52 ⟨rfl, ⟨by decide, by decide⟩⟩ ?_
        refine aw_icmp_ne (tgt := 63) (M := M_X12_make) (pc := 54) dX12_make_54 rfl (fun hc => ?_) (fun hc => ?_)
        · have hF := hF.1 hc
          refine aw_aload_n (j := 1) (M := M_X12_make) (pc := 63) dX12_make_63 rfl rfl ?_
          refine gf_X12_7 (M := M_X12_make) (pc := 64) rfl dX12_make_64 rfl (r := 162) rfl ?_
          refine aw_iconst (M := M_X12_make) (pc := 67) dX12_make_67 ⟨by decide, by decide⟩ ?_
          refine aw_dup2 (M := M_X12_make) (pc := 68) dX12_make_68 rfl rfl ?_
          refine aw_iald (k := 0) (M := M_X12_make) (pc := 69) dX12_make_69 rfl ⟨by decide, by decide⟩ rfl ?_
          refine aw_iconst (M := M_X12_make) (pc := 70) dX12_make_70 ⟨by decide, by decide⟩ ?_
          obtain ⟨o13, hF⟩ := hF
          refine aw_iadd (M := M_X12_make) (pc := 71) dX12_make_71 rfl o13 ?_
          refine aw_iast (k := 0) (M := M_X12_make) (pc := 72) dX12_make_72 rfl ⟨by decide, by decide⟩ rfl ?_
          obtain ⟨h14, eh14⟩ : ∃ y : Mem, y = mset h9 162 0 ((h9 162 0) + 1) := ⟨_, rfl⟩
          have hF := hF h14 eh14
          rw [← eh14]
          refine aw_iconst (M := M_X12_make) (pc := 73) dX12_make_73 ⟨by decide, by decide⟩ ?_
          refine aw_istore (ls' := [(5, (0, 0)), (4, (0, h9 162 0)), (0, vr 161), (1, (0, a1)), (2, (0, a2)), (3, (0, a3))]) (M := M_X12_make) (pc := 74) dX12_make_74  (by decide) rfl ?_
          exact aw_ls [2, 3, 4, 5, 1, 0] rfl hF
        · have hF := hF.2 hc
          refine aw_aload_n (j := 1) (M := M_X12_make) (pc := 57) dX12_make_57 rfl rfl ?_
          refine aw_iconst (M := M_X12_make) (pc := 58) dX12_make_58 ⟨by decide, by decide⟩ ?_
          refine aw_cvi (as := [(0, 4)]) (st := []) (M := M_X12_make) (pc := 59) (f_X12_refuse  hF) dX12_make_59 rfl (Or.inl ⟨_, _, _, rfl, rfl⟩) cy_X12_refuse ml_X12_91 (by decide) (by decide) (Nat.le_of_ble_eq_true rfl) (fun r16 h15 hF => ?_)
          exact aw_ireti (M := M_X12_make) (pc := 62) dX12_make_62 rfl ⟨_, rfl, hF⟩
      · have hF := hF.2 hc
        refine aw_aload_n (j := 0) (M := M_X12_make) (pc := 36) dX12_make_36 rfl rfl ?_
        refine aw_iconst (M := M_X12_make) (pc := 37) dX12_make_37 ⟨by decide, by decide⟩ ?_
        refine aw_cvi (as := [(0, 1)]) (st := []) (M := M_X12_make) (pc := 38) (f_X12_refuse  hF) dX12_make_38 rfl (Or.inl ⟨_, _, _, rfl, rfl⟩) cy_X12_refuse ml_X12_91 (by decide) (by decide) (Nat.le_of_ble_eq_true rfl) (fun r18 h17 hF => ?_)
        exact aw_ireti (M := M_X12_make) (pc := 41) dX12_make_41 rfl ⟨_, rfl, hF⟩
abbrev M_X12_mark : Hd := (cX12_mark, 1, RX12, (some .int), (2, 68), sc0)
def F_X12_mark (h : Mem)  (Q : Int → Mem → Prop) : Prop :=
  ((¬ ((h 161 43) = 3) → (InR ((h 161 43) + 1) ∧ (∀ h2 : Mem, h2 = mset h 161 43 ((h 161 43) + 1) → (F_X12_copies h2 0 (h2 161 43) (fun h3 => (F_X12_gives h3 (h3 161 43) (fun r6 h5 => Q r6 h5))))))) ∧ ((h 161 43) = 3 → (F_X12_refuse h 4 (fun r8 h7 => Q r8 h7))))
set_option maxRecDepth 100000 in
set_option maxHeartbeats 4000000 in
theorem f_X12_mark {h : Mem}  {Q : Int → Mem → Prop}  (hF : F_X12_mark h  Q) : Ct yX12_mark cX12_mark 1 (some .int) (2, 68) [vr 161] h (qi Q) := by
  refine Ct.of np_RX12 (Nat.le_of_ble_eq_true rfl) ?_
  unfold F_X12_mark at hF
  show AW M_X12_mark 0 [(0, vr 161)] [] h (qi Q)
  refine aw_aload_n (j := 0) (M := M_X12_mark) (pc := 0) dX12_mark_0 rfl rfl ?_
  refine gf_X12_483 (M := M_X12_mark) (pc := 1) rfl dX12_mark_1 rfl ?_
  refine aw_iconst (M := M_X12_mark) (pc := 4) dX12_mark_4 ⟨by decide, by decide⟩ ?_
  refine aw_icmp_ne (tgt := 14) (M := M_X12_mark) (pc := 5) dX12_mark_5 rfl (fun hc => ?_) (fun hc => ?_)
  · have hF := hF.1 hc
    refine aw_aload_n (j := 0) (M := M_X12_mark) (pc := 14) dX12_mark_14 rfl rfl ?_
    refine aw_dup (M := M_X12_mark) (pc := 15) dX12_mark_15 rfl ?_
    refine gf_X12_483 (M := M_X12_mark) (pc := 16) rfl dX12_mark_16 rfl ?_
    refine aw_iconst (M := M_X12_mark) (pc := 19) dX12_mark_19 ⟨by decide, by decide⟩ ?_
    obtain ⟨o1, hF⟩ := hF
    refine aw_iadd (M := M_X12_mark) (pc := 20) dX12_mark_20 rfl o1 ?_
    refine pf_X12_483 (M := M_X12_mark) (pc := 21) rfl dX12_mark_21 rfl ?_
    obtain ⟨h2, eh2⟩ : ∃ y : Mem, y = mset h 161 43 ((h 161 43) + 1) := ⟨_, rfl⟩
    have hF := hF h2 eh2
    rw [← eh2]
    refine aw_aload_n (j := 0) (M := M_X12_mark) (pc := 24) dX12_mark_24 rfl rfl ?_
    refine aw_iconst (M := M_X12_mark) (pc := 25) dX12_mark_25 ⟨by decide, by decide⟩ ?_
    refine aw_aload_n (j := 0) (M := M_X12_mark) (pc := 26) dX12_mark_26 rfl rfl ?_
    refine gf_X12_483 (M := M_X12_mark) (pc := 27) rfl dX12_mark_27 rfl ?_
    refine aw_cvv (as := [(0, 0), (0, h2 161 43)]) (st := []) (M := M_X12_mark) (pc := 30) (f_X12_copies  hF) dX12_mark_30 rfl (Or.inl ⟨_, _, _, rfl, rfl⟩) cy_X12_copies ml_X12_486 (by decide) (by decide) (Nat.le_of_ble_eq_true rfl) (fun h3 hF => ?_)
    refine aw_aload_n (j := 0) (M := M_X12_mark) (pc := 33) dX12_mark_33 rfl rfl ?_
    refine aw_aload_n (j := 0) (M := M_X12_mark) (pc := 34) dX12_mark_34 rfl rfl ?_
    refine gf_X12_483 (M := M_X12_mark) (pc := 35) rfl dX12_mark_35 rfl ?_
    refine aw_cvi (as := [(0, h3 161 43)]) (st := []) (M := M_X12_mark) (pc := 38) (f_X12_gives  hF) dX12_mark_38 rfl (Or.inl ⟨_, _, _, rfl, rfl⟩) cy_X12_gives ml_X12_95 (by decide) (by decide) (Nat.le_of_ble_eq_true rfl) (fun r6 h5 hF => ?_)
    exact aw_ireti (M := M_X12_mark) (pc := 41) dX12_mark_41 rfl ⟨_, rfl, hF⟩
  · have hF := hF.2 hc
    refine aw_aload_n (j := 0) (M := M_X12_mark) (pc := 8) dX12_mark_8 rfl rfl ?_
    refine aw_iconst (M := M_X12_mark) (pc := 9) dX12_mark_9 ⟨by decide, by decide⟩ ?_
    refine aw_cvi (as := [(0, 4)]) (st := []) (M := M_X12_mark) (pc := 10) (f_X12_refuse  hF) dX12_mark_10 rfl (Or.inl ⟨_, _, _, rfl, rfl⟩) cy_X12_refuse ml_X12_91 (by decide) (by decide) (Nat.le_of_ble_eq_true rfl) (fun r8 h7 hF => ?_)
    exact aw_ireti (M := M_X12_mark) (pc := 13) dX12_mark_13 rfl ⟨_, rfl, hF⟩
abbrev M_X12_tellsBy : Hd := (cX12_tellsBy, 11, RX12, (some .boolean), (2, 66), sc0)
def L_X12_tellsBy_6 (h : Mem) (v1 : Int) (v3 : Int) (v5 : Int) (v7 : Int) (Q : Int → Mem → Prop) : Prop := AW M_X12_tellsBy 6 [(0, vr 161), (1, (1, v1)), (3, (1, v3)), (5, (1, v5)), (7, (1, v7))] [] h (qi Q)
def B_X12_tellsBy_6 (h : Mem) (v1 : Int) (v3 : Int) (v5 : Int) (v7 : Int) (Q : Int → Mem → Prop) : Prop :=
  ((v7 = 0 → (v5 ≠ 0 ∧ InL ((v1 : Int).tdiv v5) ∧ (∀ h3 : Mem, h3 = mset h 161 3 ((v1 : Int).tdiv v5) → (InL ((v3 : Int).tdiv v5) ∧ (∀ h5 : Mem, h5 = mset h3 161 4 ((v3 : Int).tdiv v5) → (F_X12_is h5 0 (fun r7 h6 => (InZ r7 ∧ Q r7 h6)))))))) ∧ (¬ (v7 = 0) → (v7 ≠ 0 ∧ (∀ x9 : Int, x9 = (v5 : Int).tmod v7 → L_X12_tellsBy_6 h v1 v3 v7 x9 Q))))
set_option maxRecDepth 100000 in
set_option maxHeartbeats 4000000 in
theorem l_X12_tellsBy_6 {h : Mem} {v1 : Int} {v3 : Int} {v5 : Int} {v7 : Int} {Q : Int → Mem → Prop}  (hF : B_X12_tellsBy_6 h v1 v3 v5 v7 Q) : L_X12_tellsBy_6 h v1 v3 v5 v7 Q := by
  unfold B_X12_tellsBy_6 at hF
  show AW M_X12_tellsBy 6 [(0, vr 161), (1, (1, v1)), (3, (1, v3)), (5, (1, v5)), (7, (1, v7))] [] h (qi Q)
  refine aw_lload (j := 4) (M := M_X12_tellsBy) (pc := 6) dX12_tellsBy_6  rfl ?_
  refine aw_lconst (v := 0) (M := M_X12_tellsBy) (pc := 8) dX12_tellsBy_8 ⟨rfl, ⟨by decide, by decide⟩⟩ ?_
  refine aw_lcmp (M := M_X12_tellsBy) (pc := 9) dX12_tellsBy_9 ?_
  refine aw_if_eq (tgt := 31) (M := M_X12_tellsBy) (pc := 10) dX12_tellsBy_10 rfl (fun hc => ?_) (fun hc => ?_)
  · have hF := hF.1 (lc_eq.mp hc)
    refine aw_aload_n (j := 0) (M := M_X12_tellsBy) (pc := 31) dX12_tellsBy_31 rfl rfl ?_
    refine aw_lload_n (j := 1) (M := M_X12_tellsBy) (pc := 32) dX12_tellsBy_32 rfl rfl ?_
    refine aw_lload (j := 3) (M := M_X12_tellsBy) (pc := 33) dX12_tellsBy_33  rfl ?_
    obtain ⟨o1, hF⟩ := hF
    obtain ⟨o2, hF⟩ := hF
    refine aw_ldiv (M := M_X12_tellsBy) (pc := 35) dX12_tellsBy_35 o1 o2 ?_
    refine pf_X12_88 (M := M_X12_tellsBy) (pc := 36) rfl dX12_tellsBy_36 rfl ?_
    obtain ⟨h3, eh3⟩ : ∃ y : Mem, y = mset h 161 3 ((v1 : Int).tdiv v5) := ⟨_, rfl⟩
    have hF := hF h3 eh3
    rw [← eh3]
    refine aw_aload_n (j := 0) (M := M_X12_tellsBy) (pc := 39) dX12_tellsBy_39 rfl rfl ?_
    refine aw_lload_n (j := 2) (M := M_X12_tellsBy) (pc := 40) dX12_tellsBy_40 rfl rfl ?_
    refine aw_lload (j := 3) (M := M_X12_tellsBy) (pc := 41) dX12_tellsBy_41  rfl ?_
    obtain ⟨o4, hF⟩ := hF
    refine aw_ldiv (M := M_X12_tellsBy) (pc := 43) dX12_tellsBy_43 o1 o4 ?_
    refine pf_X12_17 (M := M_X12_tellsBy) (pc := 44) rfl dX12_tellsBy_44 rfl ?_
    obtain ⟨h5, eh5⟩ : ∃ y : Mem, y = mset h3 161 4 ((v3 : Int).tdiv v5) := ⟨_, rfl⟩
    have hF := hF h5 eh5
    rw [← eh5]
    refine aw_aload_n (j := 0) (M := M_X12_tellsBy) (pc := 47) dX12_tellsBy_47 rfl rfl ?_
    refine aw_iconst (M := M_X12_tellsBy) (pc := 48) dX12_tellsBy_48 ⟨by decide, by decide⟩ ?_
    refine aw_cvi (as := [(0, 0)]) (st := []) (M := M_X12_tellsBy) (pc := 49) (f_X12_is  hF) dX12_tellsBy_49 rfl (Or.inl ⟨_, _, _, rfl, rfl⟩) cy_X12_is ml_X12_98 (by decide) (by decide) (Nat.le_of_ble_eq_true rfl) (fun r7 h6 hF => ?_)
    exact aw_iretz (M := M_X12_tellsBy) (pc := 52) dX12_tellsBy_52 rfl hF.1 ⟨_, rfl, hF.2⟩
  · have hF := hF.2 (fun z => hc (lc_eq.mpr z))
    refine aw_lload (j := 3) (M := M_X12_tellsBy) (pc := 13) dX12_tellsBy_13  rfl ?_
    refine aw_lload (j := 4) (M := M_X12_tellsBy) (pc := 15) dX12_tellsBy_15  rfl ?_
    obtain ⟨o8, hF⟩ := hF
    refine aw_lrem (M := M_X12_tellsBy) (pc := 17) dX12_tellsBy_17 o8 ?_
    obtain ⟨x9, ex9⟩ : ∃ y : Int, y = (v5 : Int).tmod v7 := ⟨_, rfl⟩
    have hF := hF x9 ex9
    rw [← ex9]
    refine aw_lstore (ls' := [(9, (1, x9)), (0, vr 161), (1, (1, v1)), (3, (1, v3)), (5, (1, v5)), (7, (1, v7))]) (M := M_X12_tellsBy) (pc := 18) dX12_tellsBy_18  (by decide) rfl ?_
    refine aw_lload (j := 5) (M := M_X12_tellsBy) (pc := 20) dX12_tellsBy_20  rfl ?_
    refine aw_lstore (ls' := [(5, (1, v7)), (9, (1, x9)), (0, vr 161), (1, (1, v1)), (3, (1, v3)), (7, (1, v7))]) (M := M_X12_tellsBy) (pc := 22) dX12_tellsBy_22  (by decide) rfl ?_
    refine aw_lload (j := 1) (M := M_X12_tellsBy) (pc := 24) dX12_tellsBy_24  rfl ?_
    refine aw_lstore (ls' := [(7, (1, x9)), (5, (1, v7)), (9, (1, x9)), (0, vr 161), (1, (1, v1)), (3, (1, v3))]) (M := M_X12_tellsBy) (pc := 26) dX12_tellsBy_26  (by decide) rfl ?_
    refine aw_goto (tgt := 6) (M := M_X12_tellsBy) (pc := 28) dX12_tellsBy_28 rfl ?_
    exact aw_ls [3, 4, 5, 1, 0] rfl hF
def F_X12_tellsBy (h : Mem) (a1 : Int) (a2 : Int) (Q : Int → Mem → Prop) : Prop :=
  L_X12_tellsBy_6 h a1 a2 a1 a2 Q
set_option maxRecDepth 100000 in
set_option maxHeartbeats 4000000 in
theorem f_X12_tellsBy {h : Mem} {a1 : Int} {a2 : Int} {Q : Int → Mem → Prop}  (hF : F_X12_tellsBy h a1 a2 Q) : Ct yX12_tellsBy cX12_tellsBy 11 (some .boolean) (2, 66) [vr 161, (1, a1), (1, a2)] h (qi Q) := by
  refine Ct.of np_RX12 (Nat.le_of_ble_eq_true rfl) ?_
  unfold F_X12_tellsBy at hF
  show AW M_X12_tellsBy 0 [(0, vr 161), (1, (1, a1)), (3, (1, a2))] [] h (qi Q)
  refine aw_lload_n (j := 1) (M := M_X12_tellsBy) (pc := 0) dX12_tellsBy_0 rfl rfl ?_
  refine aw_lstore (ls' := [(5, (1, a1)), (0, vr 161), (1, (1, a1)), (3, (1, a2))]) (M := M_X12_tellsBy) (pc := 1) dX12_tellsBy_1  (by decide) rfl ?_
  refine aw_lload_n (j := 3) (M := M_X12_tellsBy) (pc := 3) dX12_tellsBy_3 rfl rfl ?_
  refine aw_lstore (ls' := [(7, (1, a2)), (5, (1, a1)), (0, vr 161), (1, (1, a1)), (3, (1, a2))]) (M := M_X12_tellsBy) (pc := 4) dX12_tellsBy_4  (by decide) rfl ?_
  exact aw_ls [2, 3, 4, 1, 0] rfl hF
abbrev M_X12_mean : Hd := (cX12_mean, 6, RX12, (some .boolean), (12, 287), sc0)
def L_X12_mean_71 (h : Mem) (v1 : Int) (v2 : Int) (v3 : Int) (v5 : Int) (Q : Int → Mem → Prop) : Prop := AW M_X12_mean 71 [(0, vr 161), (1, (0, v1)), (2, (0, v2)), (3, (1, v3)), (5, (0, v5))] [] h (qi Q)
def B_X12_mean_71 (h : Mem) (v1 : Int) (v2 : Int) (v3 : Int) (v5 : Int) (Q : Int → Mem → Prop) : Prop :=
  ((v2 ≤ v5 → (F_X12_tellsBy h v3 v2 (fun r19 h18 => (InZ r19 ∧ Q r19 h18)))) ∧ (¬ (v2 ≤ v5) → (InR (v1 + v5) ∧ (F_X12_lives h (v1 + v5) (fun h21 => (F_X12_allHomes h21  (fun r24 h23 => (InL (v3 + r24) ∧ (F_X12_restores h23 2240 (fun h26 => (InR (v5 + 1) ∧ L_X12_mean_71 h26 v1 v2 (v3 + r24) (v5 + 1) Q)))))))))))
set_option maxRecDepth 100000 in
set_option maxHeartbeats 4000000 in
theorem l_X12_mean_71 {h : Mem} {v1 : Int} {v2 : Int} {v3 : Int} {v5 : Int} {Q : Int → Mem → Prop}  (hF : B_X12_mean_71 h v1 v2 v3 v5 Q) : L_X12_mean_71 h v1 v2 v3 v5 Q := by
  unfold B_X12_mean_71 at hF
  show AW M_X12_mean 71 [(0, vr 161), (1, (0, v1)), (2, (0, v2)), (3, (1, v3)), (5, (0, v5))] [] h (qi Q)
  refine aw_iload (j := 4) (M := M_X12_mean) (pc := 71) dX12_mean_71  rfl ?_
  refine aw_iload_n (j := 2) (M := M_X12_mean) (pc := 73) dX12_mean_73 rfl rfl ?_
  refine aw_icmp_ge (tgt := 106) (M := M_X12_mean) (pc := 74) dX12_mean_74 rfl (fun hc => ?_) (fun hc => ?_)
  · have hF := hF.1 hc
    refine aw_aload_n (j := 0) (M := M_X12_mean) (pc := 106) dX12_mean_106 rfl rfl ?_
    refine aw_lload_n (j := 3) (M := M_X12_mean) (pc := 107) dX12_mean_107 rfl rfl ?_
    refine aw_iload_n (j := 2) (M := M_X12_mean) (pc := 108) dX12_mean_108 rfl rfl ?_
    refine aw_i2l (M := M_X12_mean) (pc := 109) dX12_mean_109 ?_
    refine aw_cvi (as := [(1, v3), (1, v2)]) (st := []) (M := M_X12_mean) (pc := 110) (f_X12_tellsBy  hF) dX12_mean_110 rfl (Or.inl ⟨_, _, _, rfl, rfl⟩) cy_X12_tellsBy ml_X12_440 (by decide) (by decide) (Nat.le_of_ble_eq_true rfl) (fun r19 h18 hF => ?_)
    exact aw_iretz (M := M_X12_mean) (pc := 113) dX12_mean_113 rfl hF.1 ⟨_, rfl, hF.2⟩
  · have hF := hF.2 hc
    refine aw_aload_n (j := 0) (M := M_X12_mean) (pc := 77) dX12_mean_77 rfl rfl ?_
    refine aw_iload_n (j := 1) (M := M_X12_mean) (pc := 78) dX12_mean_78 rfl rfl ?_
    refine aw_iload (j := 4) (M := M_X12_mean) (pc := 79) dX12_mean_79  rfl ?_
    obtain ⟨o20, hF⟩ := hF
    refine aw_iadd (M := M_X12_mean) (pc := 81) dX12_mean_81 rfl o20 ?_
    refine aw_cvv (as := [(0, v1 + v5)]) (st := []) (M := M_X12_mean) (pc := 82) (f_X12_lives  hF) dX12_mean_82 rfl (Or.inl ⟨_, _, _, rfl, rfl⟩) cy_X12_lives ml_X12_476 (by decide) (by decide) (Nat.le_of_ble_eq_true rfl) (fun h21 hF => ?_)
    refine aw_lload_n (j := 3) (M := M_X12_mean) (pc := 85) dX12_mean_85 rfl rfl ?_
    refine aw_aload_n (j := 0) (M := M_X12_mean) (pc := 86) dX12_mean_86 rfl rfl ?_
    refine aw_cvi (as := []) (st := [(1, v3)]) (M := M_X12_mean) (pc := 87) (f_X12_allHomes  hF) dX12_mean_87 rfl (Or.inl ⟨_, _, _, rfl, rfl⟩) cy_X12_allHomes ml_X12_450 (by decide) (by decide) (Nat.le_of_ble_eq_true rfl) (fun r24 h23 hF => ?_)
    refine aw_i2l (M := M_X12_mean) (pc := 90) dX12_mean_90 ?_
    obtain ⟨o25, hF⟩ := hF
    refine aw_ladd (M := M_X12_mean) (pc := 91) dX12_mean_91 rfl o25 ?_
    refine aw_lstore_n (ls' := [(3, (1, v3 + r24)), (0, vr 161), (1, (0, v1)), (2, (0, v2)), (5, (0, v5))]) (M := M_X12_mean) (pc := 92) dX12_mean_92 rfl (by decide) rfl ?_
    refine aw_aload_n (j := 1) (M := M_X12_mean) (pc := 93) dX12_mean_93 rfl rfl ?_
    refine aw_sipush (M := M_X12_mean) (pc := 94) dX12_mean_94 ⟨rfl, ⟨by decide, by decide⟩⟩ ?_
    refine aw_cvv (as := [(0, 2240)]) (st := []) (M := M_X12_mean) (pc := 97) (f_X12_restores  hF) dX12_mean_97 rfl (Or.inl ⟨_, _, _, rfl, rfl⟩) cy_X12_restores ml_X12_353 (by decide) (by decide) (Nat.le_of_ble_eq_true rfl) (fun h26 hF => ?_)
    obtain ⟨o28, hF⟩ := hF
    refine aw_iinc (j := 4) (x := v5) (r := v5 + 1) (ls' := [(5, (0, v5 + 1)), (3, (1, v3 + r24)), (0, vr 161), (1, (0, v1)), (2, (0, v2))]) (M := M_X12_mean) (pc := 100) dX12_mean_100 rfl rfl o28 (by decide) rfl ?_
    refine aw_goto (tgt := 71) (M := M_X12_mean) (pc := 103) dX12_mean_103 rfl ?_
    exact aw_ls [2, 3, 4, 1, 0] rfl hF
def F_X12_mean (h : Mem) (a1 : Int) (a2 : Int) (Q : Int → Mem → Prop) : Prop :=
  (F_X12_isFrom h a1 0 9999 (fun r2 h1 => ((r2 = 0 → (F_X12_is h1 1 (fun r4 h3 => (InZ r4 ∧ Q r4 h3)))) ∧ (¬ (r2 = 0) → (F_X12_isFrom h1 a2 1 20 (fun r6 h5 => ((r6 = 0 → (F_X12_is h5 1 (fun r8 h7 => (InZ r8 ∧ Q r8 h7)))) ∧ (¬ (r6 = 0) → (InR (a1 + a2) ∧ (InR ((a1 + a2) - 1) ∧ ((((a1 + a2) - 1) ≤ 9999 → ((¬ ((h5 162 9) = (-1)) → (F_X12_keeps h5 2240 (fun h12 => L_X12_mean_71 h12 a1 a2 0 0 Q))) ∧ ((h5 162 9) = (-1) → (F_X12_is h5 6 (fun r15 h14 => (InZ r15 ∧ Q r15 h14)))))) ∧ (¬ (((a1 + a2) - 1) ≤ 9999) → (F_X12_is h5 1 (fun r17 h16 => (InZ r17 ∧ Q r17 h16)))))))))))))))
set_option maxRecDepth 100000 in
set_option maxHeartbeats 4000000 in
theorem f_X12_mean {h : Mem} {a1 : Int} {a2 : Int} {Q : Int → Mem → Prop}  (hF : F_X12_mean h a1 a2 Q) : Ct yX12_mean cX12_mean 6 (some .boolean) (12, 287) [vr 161, (0, a1), (0, a2)] h (qi Q) := by
  refine Ct.of np_RX12 (Nat.le_of_ble_eq_true rfl) ?_
  unfold F_X12_mean at hF
  show AW M_X12_mean 0 [(0, vr 161), (1, (0, a1)), (2, (0, a2))] [] h (qi Q)
  refine aw_iload_n (j := 1) (M := M_X12_mean) (pc := 0) dX12_mean_0 rfl rfl ?_
  refine aw_i2l (M := M_X12_mean) (pc := 1) dX12_mean_1 ?_
  refine aw_lconst (v := 0) (M := M_X12_mean) (pc := 2) dX12_mean_2 ⟨rfl, ⟨by decide, by decide⟩⟩ ?_
  refine aw_ldc2 (v := 9999) (M := M_X12_mean) (pc := 3) dX12_mean_3 kl_X12_474 ⟨by decide, by decide⟩ ?_
  refine aw_csi (as := [(1, a1), (1, 0), (1, 9999)]) (st := []) (M := M_X12_mean) (pc := 6) (f_X12_isFrom  hF) dX12_mean_6 rfl cy_X12_isFrom ml_X12_316 (by decide) (by decide) (Nat.le_of_ble_eq_true rfl) (fun r2 h1 hF => ?_)
  refine aw_if_eq (tgt := 35) (M := M_X12_mean) (pc := 9) dX12_mean_9 rfl (fun hc => ?_) (fun hc => ?_)
  · have hF := hF.1 hc
    refine aw_aload_n (j := 0) (M := M_X12_mean) (pc := 35) dX12_mean_35 rfl rfl ?_
    refine aw_iconst (M := M_X12_mean) (pc := 36) dX12_mean_36 ⟨by decide, by decide⟩ ?_
    refine aw_cvi (as := [(0, 1)]) (st := []) (M := M_X12_mean) (pc := 37) (f_X12_is  hF) dX12_mean_37 rfl (Or.inl ⟨_, _, _, rfl, rfl⟩) cy_X12_is ml_X12_98 (by decide) (by decide) (Nat.le_of_ble_eq_true rfl) (fun r4 h3 hF => ?_)
    exact aw_iretz (M := M_X12_mean) (pc := 40) dX12_mean_40 rfl hF.1 ⟨_, rfl, hF.2⟩
  · have hF := hF.2 hc
    refine aw_iload_n (j := 2) (M := M_X12_mean) (pc := 12) dX12_mean_12 rfl rfl ?_
    refine aw_i2l (M := M_X12_mean) (pc := 13) dX12_mean_13 ?_
    refine aw_lconst (v := 1) (M := M_X12_mean) (pc := 14) dX12_mean_14 ⟨rfl, ⟨by decide, by decide⟩⟩ ?_
    refine aw_ldc2 (v := 20) (M := M_X12_mean) (pc := 15) dX12_mean_15 kl_X12_393 ⟨by decide, by decide⟩ ?_
    refine aw_csi (as := [(1, a2), (1, 1), (1, 20)]) (st := []) (M := M_X12_mean) (pc := 18) (f_X12_isFrom  hF) dX12_mean_18 rfl cy_X12_isFrom ml_X12_316 (by decide) (by decide) (Nat.le_of_ble_eq_true rfl) (fun r6 h5 hF => ?_)
    refine aw_if_eq (tgt := 35) (M := M_X12_mean) (pc := 21) dX12_mean_21 rfl (fun hc => ?_) (fun hc => ?_)
    · have hF := hF.1 hc
      refine aw_aload_n (j := 0) (M := M_X12_mean) (pc := 35) dX12_mean_35 rfl rfl ?_
      refine aw_iconst (M := M_X12_mean) (pc := 36) dX12_mean_36 ⟨by decide, by decide⟩ ?_
      refine aw_cvi (as := [(0, 1)]) (st := []) (M := M_X12_mean) (pc := 37) (f_X12_is  hF) dX12_mean_37 rfl (Or.inl ⟨_, _, _, rfl, rfl⟩) cy_X12_is ml_X12_98 (by decide) (by decide) (Nat.le_of_ble_eq_true rfl) (fun r8 h7 hF => ?_)
      exact aw_iretz (M := M_X12_mean) (pc := 40) dX12_mean_40 rfl hF.1 ⟨_, rfl, hF.2⟩
    · have hF := hF.2 hc
      refine aw_iload_n (j := 1) (M := M_X12_mean) (pc := 24) dX12_mean_24 rfl rfl ?_
      refine aw_iload_n (j := 2) (M := M_X12_mean) (pc := 25) dX12_mean_25 rfl rfl ?_
      obtain ⟨o9, hF⟩ := hF
      refine aw_iadd (M := M_X12_mean) (pc := 26) dX12_mean_26 rfl o9 ?_
      refine aw_iconst (M := M_X12_mean) (pc := 27) dX12_mean_27 ⟨by decide, by decide⟩ ?_
      obtain ⟨o10, hF⟩ := hF
      refine aw_isub (M := M_X12_mean) (pc := 28) dX12_mean_28 rfl o10 ?_
      refine aw_sipush (M := M_X12_mean) (pc := 29) dX12_mean_29 ⟨rfl, ⟨by decide, by decide⟩⟩ ?_
      refine aw_icmp_le (tgt := 41) (M := M_X12_mean) (pc := 32) dX12_mean_32 rfl (fun hc => ?_) (fun hc => ?_)
      · have hF := hF.1 hc
        refine aw_aload_n (j := 0) (M := M_X12_mean) (pc := 41) dX12_mean_41 rfl rfl ?_
        refine gf_X12_7 (M := M_X12_mean) (pc := 42) rfl dX12_mean_42 rfl (r := 162) rfl ?_
        refine aw_bipush (M := M_X12_mean) (pc := 45) dX12_mean_45 ⟨rfl, ⟨by decide, by decide⟩⟩ ?_
        refine aw_iald (k := 9) (M := M_X12_mean) (pc := 47) dX12_mean_47 rfl ⟨by decide, by decide⟩ rfl ?_
        refine aw_iconst (M := M_X12_mean) (pc := 48) dX12_mean_48 ⟨by decide, by decide⟩ ?_
        refine aw_icmp_ne (tgt := 59) (M := M_X12_mean) (pc := 49) dX12_mean_49 rfl (fun hc => ?_) (fun hc => ?_)
        · have hF := hF.1 hc
          refine aw_aload_n (j := 0) (M := M_X12_mean) (pc := 59) dX12_mean_59 rfl rfl ?_
          refine aw_sipush (M := M_X12_mean) (pc := 60) dX12_mean_60 ⟨rfl, ⟨by decide, by decide⟩⟩ ?_
          refine aw_cvv (as := [(0, 2240)]) (st := []) (M := M_X12_mean) (pc := 63) (f_X12_keeps  hF) dX12_mean_63 rfl (Or.inl ⟨_, _, _, rfl, rfl⟩) cy_X12_keeps ml_X12_350 (by decide) (by decide) (Nat.le_of_ble_eq_true rfl) (fun h12 hF => ?_)
          refine aw_lconst (v := 0) (M := M_X12_mean) (pc := 66) dX12_mean_66 ⟨rfl, ⟨by decide, by decide⟩⟩ ?_
          refine aw_lstore_n (ls' := [(3, (1, 0)), (0, vr 161), (1, (0, a1)), (2, (0, a2))]) (M := M_X12_mean) (pc := 67) dX12_mean_67 rfl (by decide) rfl ?_
          refine aw_iconst (M := M_X12_mean) (pc := 68) dX12_mean_68 ⟨by decide, by decide⟩ ?_
          refine aw_istore (ls' := [(5, (0, 0)), (3, (1, 0)), (0, vr 161), (1, (0, a1)), (2, (0, a2))]) (M := M_X12_mean) (pc := 69) dX12_mean_69  (by decide) rfl ?_
          exact aw_ls [2, 3, 4, 1, 0] rfl hF
        · have hF := hF.2 hc
          refine aw_aload_n (j := 0) (M := M_X12_mean) (pc := 52) dX12_mean_52 rfl rfl ?_
          refine aw_bipush (M := M_X12_mean) (pc := 53) dX12_mean_53 ⟨rfl, ⟨by decide, by decide⟩⟩ ?_
          refine aw_cvi (as := [(0, 6)]) (st := []) (M := M_X12_mean) (pc := 55) (f_X12_is  hF) dX12_mean_55 rfl (Or.inl ⟨_, _, _, rfl, rfl⟩) cy_X12_is ml_X12_98 (by decide) (by decide) (Nat.le_of_ble_eq_true rfl) (fun r15 h14 hF => ?_)
          exact aw_iretz (M := M_X12_mean) (pc := 58) dX12_mean_58 rfl hF.1 ⟨_, rfl, hF.2⟩
      · have hF := hF.2 hc
        refine aw_aload_n (j := 0) (M := M_X12_mean) (pc := 35) dX12_mean_35 rfl rfl ?_
        refine aw_iconst (M := M_X12_mean) (pc := 36) dX12_mean_36 ⟨by decide, by decide⟩ ?_
        refine aw_cvi (as := [(0, 1)]) (st := []) (M := M_X12_mean) (pc := 37) (f_X12_is  hF) dX12_mean_37 rfl (Or.inl ⟨_, _, _, rfl, rfl⟩) cy_X12_is ml_X12_98 (by decide) (by decide) (Nat.le_of_ble_eq_true rfl) (fun r17 h16 hF => ?_)
        exact aw_iretz (M := M_X12_mean) (pc := 40) dX12_mean_40 rfl hF.1 ⟨_, rfl, hF.2⟩
abbrev M_X12_mill : Hd := (cX12_mill, 3, RX12, (some .int), (3, 87), sc0)
def F_X12_mill (h : Mem) (a1 : Int) (a2 : Int) (Q : Int → Mem → Prop) : Prop :=
  (F_X12_isMill h a1 (fun r2 h1 => ((r2 = 0 → (F_X12_refuse h1 1 (fun r4 h3 => Q r4 h3))) ∧ (¬ (r2 = 0) → ((a2 < 0 → (F_X12_refuse h1 1 (fun r6 h5 => Q r6 h5))) ∧ (¬ (a2 < 0) → ((a2 ≤ 2 → (F_X12_millOf h1 a1 a2 (fun r8 h7 => (F_X12_gives h7 r8 (fun r10 h9 => Q r10 h9))))) ∧ (¬ (a2 ≤ 2) → (F_X12_refuse h1 1 (fun r12 h11 => Q r12 h11))))))))))
set_option maxRecDepth 100000 in
set_option maxHeartbeats 4000000 in
theorem f_X12_mill {h : Mem} {a1 : Int} {a2 : Int} {Q : Int → Mem → Prop}  (hF : F_X12_mill h a1 a2 Q) : Ct yX12_mill cX12_mill 3 (some .int) (3, 87) [vr 161, (0, a1), (0, a2)] h (qi Q) := by
  refine Ct.of np_RX12 (Nat.le_of_ble_eq_true rfl) ?_
  unfold F_X12_mill at hF
  show AW M_X12_mill 0 [(0, vr 161), (1, (0, a1)), (2, (0, a2))] [] h (qi Q)
  refine aw_aload_n (j := 0) (M := M_X12_mill) (pc := 0) dX12_mill_0 rfl rfl ?_
  refine aw_iload_n (j := 1) (M := M_X12_mill) (pc := 1) dX12_mill_1 rfl rfl ?_
  refine aw_cvi (as := [(0, a1)]) (st := []) (M := M_X12_mill) (pc := 2) (f_X12_isMill  hF) dX12_mill_2 rfl (Or.inl ⟨_, _, _, rfl, rfl⟩) cy_X12_isMill ml_X12_287 (by decide) (by decide) (Nat.le_of_ble_eq_true rfl) (fun r2 h1 hF => ?_)
  refine aw_if_eq (tgt := 17) (M := M_X12_mill) (pc := 5) dX12_mill_5 rfl (fun hc => ?_) (fun hc => ?_)
  · have hF := hF.1 hc
    refine aw_aload_n (j := 0) (M := M_X12_mill) (pc := 17) dX12_mill_17 rfl rfl ?_
    refine aw_iconst (M := M_X12_mill) (pc := 18) dX12_mill_18 ⟨by decide, by decide⟩ ?_
    refine aw_cvi (as := [(0, 1)]) (st := []) (M := M_X12_mill) (pc := 19) (f_X12_refuse  hF) dX12_mill_19 rfl (Or.inl ⟨_, _, _, rfl, rfl⟩) cy_X12_refuse ml_X12_91 (by decide) (by decide) (Nat.le_of_ble_eq_true rfl) (fun r4 h3 hF => ?_)
    exact aw_ireti (M := M_X12_mill) (pc := 22) dX12_mill_22 rfl ⟨_, rfl, hF⟩
  · have hF := hF.2 hc
    refine aw_iload_n (j := 2) (M := M_X12_mill) (pc := 8) dX12_mill_8 rfl rfl ?_
    refine aw_if_lt (tgt := 17) (M := M_X12_mill) (pc := 9) dX12_mill_9 rfl (fun hc => ?_) (fun hc => ?_)
    · have hF := hF.1 hc
      refine aw_aload_n (j := 0) (M := M_X12_mill) (pc := 17) dX12_mill_17 rfl rfl ?_
      refine aw_iconst (M := M_X12_mill) (pc := 18) dX12_mill_18 ⟨by decide, by decide⟩ ?_
      refine aw_cvi (as := [(0, 1)]) (st := []) (M := M_X12_mill) (pc := 19) (f_X12_refuse  hF) dX12_mill_19 rfl (Or.inl ⟨_, _, _, rfl, rfl⟩) cy_X12_refuse ml_X12_91 (by decide) (by decide) (Nat.le_of_ble_eq_true rfl) (fun r6 h5 hF => ?_)
      exact aw_ireti (M := M_X12_mill) (pc := 22) dX12_mill_22 rfl ⟨_, rfl, hF⟩
    · have hF := hF.2 hc
      refine aw_iload_n (j := 2) (M := M_X12_mill) (pc := 12) dX12_mill_12 rfl rfl ?_
      refine aw_iconst (M := M_X12_mill) (pc := 13) dX12_mill_13 ⟨by decide, by decide⟩ ?_
      refine aw_icmp_le (tgt := 23) (M := M_X12_mill) (pc := 14) dX12_mill_14 rfl (fun hc => ?_) (fun hc => ?_)
      · have hF := hF.1 hc
        refine aw_aload_n (j := 0) (M := M_X12_mill) (pc := 23) dX12_mill_23 rfl rfl ?_
        refine aw_aload_n (j := 0) (M := M_X12_mill) (pc := 24) dX12_mill_24 rfl rfl ?_
        refine aw_iload_n (j := 1) (M := M_X12_mill) (pc := 25) dX12_mill_25 rfl rfl ?_
        refine aw_iload_n (j := 2) (M := M_X12_mill) (pc := 26) dX12_mill_26 rfl rfl ?_
        refine aw_cvi (as := [(0, a1), (0, a2)]) (st := [vr 161]) (M := M_X12_mill) (pc := 27) (f_X12_millOf  hF) dX12_mill_27 rfl (Or.inl ⟨_, _, _, rfl, rfl⟩) cy_X12_millOf ml_X12_290 (by decide) (by decide) (Nat.le_of_ble_eq_true rfl) (fun r8 h7 hF => ?_)
        refine aw_cvi (as := [(0, r8)]) (st := []) (M := M_X12_mill) (pc := 30) (f_X12_gives  hF) dX12_mill_30 rfl (Or.inl ⟨_, _, _, rfl, rfl⟩) cy_X12_gives ml_X12_95 (by decide) (by decide) (Nat.le_of_ble_eq_true rfl) (fun r10 h9 hF => ?_)
        exact aw_ireti (M := M_X12_mill) (pc := 33) dX12_mill_33 rfl ⟨_, rfl, hF⟩
      · have hF := hF.2 hc
        refine aw_aload_n (j := 0) (M := M_X12_mill) (pc := 17) dX12_mill_17 rfl rfl ?_
        refine aw_iconst (M := M_X12_mill) (pc := 18) dX12_mill_18 ⟨by decide, by decide⟩ ?_
        refine aw_cvi (as := [(0, 1)]) (st := []) (M := M_X12_mill) (pc := 19) (f_X12_refuse  hF) dX12_mill_19 rfl (Or.inl ⟨_, _, _, rfl, rfl⟩) cy_X12_refuse ml_X12_91 (by decide) (by decide) (Nat.le_of_ble_eq_true rfl) (fun r12 h11 hF => ?_)
        exact aw_ireti (M := M_X12_mill) (pc := 22) dX12_mill_22 rfl ⟨_, rfl, hF⟩
abbrev M_X12_mind : Hd := (cX12_mind, 3, RX12, (some .boolean), (2, 70), sc0)
def F_X12_mind (h : Mem) (a1 : Int) (a2 : Int) (Q : Int → Mem → Prop) : Prop :=
  (F_X12_isThing h a1 (fun r2 h1 => ((r2 = 0 → (F_X12_is h1 1 (fun r4 h3 => (InZ r4 ∧ Q r4 h3)))) ∧ (¬ (r2 = 0) → (F_X12_isFrom h1 a2 1 24 (fun r6 h5 => ((¬ (r6 = 0) → (F_X12_thingRow h5 a1 (fun r8 h7 => (InR (r8 + 2) ∧ ((0 ≤ (r8 + 2) ∧ (r8 + 2) < 3008) ∧ (∀ h11 : Mem, h11 = mset h7 162 (r8 + 2).toNat a2 → (F_X12_is h11 0 (fun r13 h12 => (InZ r13 ∧ Q r13 h12))))))))) ∧ (r6 = 0 → (F_X12_is h5 1 (fun r15 h14 => (InZ r15 ∧ Q r15 h14)))))))))))
set_option maxRecDepth 100000 in
set_option maxHeartbeats 4000000 in
theorem f_X12_mind {h : Mem} {a1 : Int} {a2 : Int} {Q : Int → Mem → Prop}  (hF : F_X12_mind h a1 a2 Q) : Ct yX12_mind cX12_mind 3 (some .boolean) (2, 70) [vr 161, (0, a1), (0, a2)] h (qi Q) := by
  refine Ct.of np_RX12 (Nat.le_of_ble_eq_true rfl) ?_
  unfold F_X12_mind at hF
  show AW M_X12_mind 0 [(0, vr 161), (1, (0, a1)), (2, (0, a2))] [] h (qi Q)
  refine aw_aload_n (j := 0) (M := M_X12_mind) (pc := 0) dX12_mind_0 rfl rfl ?_
  refine aw_iload_n (j := 1) (M := M_X12_mind) (pc := 1) dX12_mind_1 rfl rfl ?_
  refine aw_cvi (as := [(0, a1)]) (st := []) (M := M_X12_mind) (pc := 2) (f_X12_isThing  hF) dX12_mind_2 rfl (Or.inl ⟨_, _, _, rfl, rfl⟩) cy_X12_isThing ml_X12_284 (by decide) (by decide) (Nat.le_of_ble_eq_true rfl) (fun r2 h1 hF => ?_)
  refine aw_if_eq (tgt := 20) (M := M_X12_mind) (pc := 5) dX12_mind_5 rfl (fun hc => ?_) (fun hc => ?_)
  · have hF := hF.1 hc
    refine aw_aload_n (j := 0) (M := M_X12_mind) (pc := 20) dX12_mind_20 rfl rfl ?_
    refine aw_iconst (M := M_X12_mind) (pc := 21) dX12_mind_21 ⟨by decide, by decide⟩ ?_
    refine aw_cvi (as := [(0, 1)]) (st := []) (M := M_X12_mind) (pc := 22) (f_X12_is  hF) dX12_mind_22 rfl (Or.inl ⟨_, _, _, rfl, rfl⟩) cy_X12_is ml_X12_98 (by decide) (by decide) (Nat.le_of_ble_eq_true rfl) (fun r4 h3 hF => ?_)
    exact aw_iretz (M := M_X12_mind) (pc := 25) dX12_mind_25 rfl hF.1 ⟨_, rfl, hF.2⟩
  · have hF := hF.2 hc
    refine aw_iload_n (j := 2) (M := M_X12_mind) (pc := 8) dX12_mind_8 rfl rfl ?_
    refine aw_i2l (M := M_X12_mind) (pc := 9) dX12_mind_9 ?_
    refine aw_lconst (v := 1) (M := M_X12_mind) (pc := 10) dX12_mind_10 ⟨rfl, ⟨by decide, by decide⟩⟩ ?_
    refine aw_ldc2 (v := 24) (M := M_X12_mind) (pc := 11) dX12_mind_11 kl_X12_335 ⟨by decide, by decide⟩ ?_
    refine aw_csi (as := [(1, a2), (1, 1), (1, 24)]) (st := []) (M := M_X12_mind) (pc := 14) (f_X12_isFrom  hF) dX12_mind_14 rfl cy_X12_isFrom ml_X12_316 (by decide) (by decide) (Nat.le_of_ble_eq_true rfl) (fun r6 h5 hF => ?_)
    refine aw_if_ne (tgt := 26) (M := M_X12_mind) (pc := 17) dX12_mind_17 rfl (fun hc => ?_) (fun hc => ?_)
    · have hF := hF.1 hc
      refine aw_aload_n (j := 0) (M := M_X12_mind) (pc := 26) dX12_mind_26 rfl rfl ?_
      refine gf_X12_7 (M := M_X12_mind) (pc := 27) rfl dX12_mind_27 rfl (r := 162) rfl ?_
      refine aw_iload_n (j := 1) (M := M_X12_mind) (pc := 30) dX12_mind_30 rfl rfl ?_
      refine aw_csi (as := [(0, a1)]) (st := [vr 162]) (M := M_X12_mind) (pc := 31) (f_X12_thingRow  hF) dX12_mind_31 rfl cy_X12_thingRow ml_X12_203 (by decide) (by decide) (Nat.le_of_ble_eq_true rfl) (fun r8 h7 hF => ?_)
      refine aw_iconst (M := M_X12_mind) (pc := 34) dX12_mind_34 ⟨by decide, by decide⟩ ?_
      obtain ⟨o9, hF⟩ := hF
      refine aw_iadd (M := M_X12_mind) (pc := 35) dX12_mind_35 rfl o9 ?_
      refine aw_iload_n (j := 2) (M := M_X12_mind) (pc := 36) dX12_mind_36 rfl rfl ?_
      obtain ⟨o10, hF⟩ := hF
      refine aw_iast (k := (r8 + 2).toNat) (M := M_X12_mind) (pc := 37) dX12_mind_37 rfl o10 rfl ?_
      obtain ⟨h11, eh11⟩ : ∃ y : Mem, y = mset h7 162 (r8 + 2).toNat a2 := ⟨_, rfl⟩
      have hF := hF h11 eh11
      rw [← eh11]
      refine aw_aload_n (j := 0) (M := M_X12_mind) (pc := 38) dX12_mind_38 rfl rfl ?_
      refine aw_iconst (M := M_X12_mind) (pc := 39) dX12_mind_39 ⟨by decide, by decide⟩ ?_
      refine aw_cvi (as := [(0, 0)]) (st := []) (M := M_X12_mind) (pc := 40) (f_X12_is  hF) dX12_mind_40 rfl (Or.inl ⟨_, _, _, rfl, rfl⟩) cy_X12_is ml_X12_98 (by decide) (by decide) (Nat.le_of_ble_eq_true rfl) (fun r13 h12 hF => ?_)
      exact aw_iretz (M := M_X12_mind) (pc := 43) dX12_mind_43 rfl hF.1 ⟨_, rfl, hF.2⟩
    · have hF := hF.2 hc
      refine aw_aload_n (j := 0) (M := M_X12_mind) (pc := 20) dX12_mind_20 rfl rfl ?_
      refine aw_iconst (M := M_X12_mind) (pc := 21) dX12_mind_21 ⟨by decide, by decide⟩ ?_
      refine aw_cvi (as := [(0, 1)]) (st := []) (M := M_X12_mind) (pc := 22) (f_X12_is  hF) dX12_mind_22 rfl (Or.inl ⟨_, _, _, rfl, rfl⟩) cy_X12_is ml_X12_98 (by decide) (by decide) (Nat.le_of_ble_eq_true rfl) (fun r15 h14 hF => ?_)
      exact aw_iretz (M := M_X12_mind) (pc := 25) dX12_mind_25 rfl hF.1 ⟨_, rfl, hF.2⟩
abbrev M_X12_minded : Hd := (cX12_minded, 5, RX12, (some .int), (9, 224), sc0)
def F_X12_minded (h : Mem) (a1 : Int) (a2 : Int) (a3 : Int) (Q : Int → Mem → Prop) : Prop :=
  (F_X12_wrongMinded h a1 a2 a3 (fun r2 h1 => ((r2 ≤ 0 → (F_X12_laysMinds h1 a1 a2 a3 (fun h3 => (F_X12_gives h3 (h3 161 30) (fun r6 h5 => Q r6 h5))))) ∧ (¬ (r2 ≤ 0) → (F_X12_refuse h1 r2 (fun r8 h7 => Q r8 h7))))))
set_option maxRecDepth 100000 in
set_option maxHeartbeats 4000000 in
theorem f_X12_minded {h : Mem} {a1 : Int} {a2 : Int} {a3 : Int} {Q : Int → Mem → Prop}  (hF : F_X12_minded h a1 a2 a3 Q) : Ct yX12_minded cX12_minded 5 (some .int) (9, 224) [vr 161, (0, a1), (0, a2), (0, a3)] h (qi Q) := by
  refine Ct.of np_RX12 (Nat.le_of_ble_eq_true rfl) ?_
  unfold F_X12_minded at hF
  show AW M_X12_minded 0 [(0, vr 161), (1, (0, a1)), (2, (0, a2)), (3, (0, a3))] [] h (qi Q)
  refine aw_aload_n (j := 0) (M := M_X12_minded) (pc := 0) dX12_minded_0 rfl rfl ?_
  refine aw_iload_n (j := 1) (M := M_X12_minded) (pc := 1) dX12_minded_1 rfl rfl ?_
  refine aw_iload_n (j := 2) (M := M_X12_minded) (pc := 2) dX12_minded_2 rfl rfl ?_
  refine aw_iload_n (j := 3) (M := M_X12_minded) (pc := 3) dX12_minded_3 rfl rfl ?_
  refine aw_cvi (as := [(0, a1), (0, a2), (0, a3)]) (st := []) (M := M_X12_minded) (pc := 4) (f_X12_wrongMinded  hF) dX12_minded_4 rfl (Or.inl ⟨_, _, _, rfl, rfl⟩) cy_X12_wrongMinded ml_X12_398 (by decide) (by decide) (Nat.le_of_ble_eq_true rfl) (fun r2 h1 hF => ?_)
  refine aw_istore (ls' := [(4, (0, r2)), (0, vr 161), (1, (0, a1)), (2, (0, a2)), (3, (0, a3))]) (M := M_X12_minded) (pc := 7) dX12_minded_7  (by decide) rfl ?_
  refine aw_iload (j := 0) (M := M_X12_minded) (pc := 9) dX12_minded_9  rfl ?_
  refine aw_if_le (tgt := 21) (M := M_X12_minded) (pc := 11) dX12_minded_11 rfl (fun hc => ?_) (fun hc => ?_)
  · have hF := hF.1 hc
    refine aw_aload_n (j := 1) (M := M_X12_minded) (pc := 21) dX12_minded_21 rfl rfl ?_
    refine aw_iload_n (j := 2) (M := M_X12_minded) (pc := 22) dX12_minded_22 rfl rfl ?_
    refine aw_iload_n (j := 3) (M := M_X12_minded) (pc := 23) dX12_minded_23 rfl rfl ?_
    refine aw_iload_n (j := 4) (M := M_X12_minded) (pc := 24) dX12_minded_24 rfl rfl ?_
    refine aw_cvv (as := [(0, a1), (0, a2), (0, a3)]) (st := []) (M := M_X12_minded) (pc := 25) (f_X12_laysMinds  hF) dX12_minded_25 rfl (Or.inl ⟨_, _, _, rfl, rfl⟩) cy_X12_laysMinds ml_X12_402 (by decide) (by decide) (Nat.le_of_ble_eq_true rfl) (fun h3 hF => ?_)
    refine aw_aload_n (j := 1) (M := M_X12_minded) (pc := 28) dX12_minded_28 rfl rfl ?_
    refine aw_aload_n (j := 1) (M := M_X12_minded) (pc := 29) dX12_minded_29 rfl rfl ?_
    refine gf_X12_395 (M := M_X12_minded) (pc := 30) rfl dX12_minded_30 rfl ?_
    refine aw_cvi (as := [(0, h3 161 30)]) (st := []) (M := M_X12_minded) (pc := 33) (f_X12_gives  hF) dX12_minded_33 rfl (Or.inl ⟨_, _, _, rfl, rfl⟩) cy_X12_gives ml_X12_95 (by decide) (by decide) (Nat.le_of_ble_eq_true rfl) (fun r6 h5 hF => ?_)
    exact aw_ireti (M := M_X12_minded) (pc := 36) dX12_minded_36 rfl ⟨_, rfl, hF⟩
  · have hF := hF.2 hc
    refine aw_aload_n (j := 1) (M := M_X12_minded) (pc := 14) dX12_minded_14 rfl rfl ?_
    refine aw_iload (j := 0) (M := M_X12_minded) (pc := 15) dX12_minded_15  rfl ?_
    refine aw_cvi (as := [(0, r2)]) (st := []) (M := M_X12_minded) (pc := 17) (f_X12_refuse  hF) dX12_minded_17 rfl (Or.inl ⟨_, _, _, rfl, rfl⟩) cy_X12_refuse ml_X12_91 (by decide) (by decide) (Nat.le_of_ble_eq_true rfl) (fun r8 h7 hF => ?_)
    exact aw_ireti (M := M_X12_minded) (pc := 20) dX12_minded_20 rfl ⟨_, rfl, hF⟩
abbrev M_X12_mindedAt : Hd := (cX12_mindedAt, 7, RX12, (some .int), (9, 224), sc0)
def L_X12_mindedAt_70 (h : Mem) (v4 : Int) (v6 : Int) (Q : Int → Mem → Prop) : Prop := AW M_X12_mindedAt 70 [(0, vr 161), (4, (0, v4)), (6, (0, v6))] [] h (qi Q)
def J_X12_mindedAt_11 (h : Mem) (v1 : Int) (v2 : Int) (v3 : Int) (v4 : Int) (Q : Int → Mem → Prop) : Prop :=
  (F_X12_refuse h 1 (fun r10 h9 => Q r10 h9))
set_option maxRecDepth 100000 in
set_option maxHeartbeats 4000000 in
theorem j_X12_mindedAt_11 {h : Mem} {v1 : Int} {v2 : Int} {v3 : Int} {v4 : Int} {Q : Int → Mem → Prop}  (hF : J_X12_mindedAt_11 h v1 v2 v3 v4 Q) : AW M_X12_mindedAt 11 [(0, vr 161), (1, (0, v1)), (2, (0, v2)), (3, (0, v3)), (4, (0, v4))] [] h (qi Q) := by
  unfold J_X12_mindedAt_11 at hF
  refine aw_iconst (M := M_X12_mindedAt) (pc := 11) dX12_mindedAt_11 ⟨by decide, by decide⟩ ?_
  refine aw_goto (tgt := 22) (M := M_X12_mindedAt) (pc := 12) dX12_mindedAt_12 rfl ?_
  refine aw_istore (ls' := [(5, (0, 1)), (0, vr 161), (1, (0, v1)), (2, (0, v2)), (3, (0, v3)), (4, (0, v4))]) (M := M_X12_mindedAt) (pc := 22) dX12_mindedAt_22  (by decide) rfl ?_
  refine aw_iload (j := 0) (M := M_X12_mindedAt) (pc := 24) dX12_mindedAt_24  rfl ?_
  refine aw_if_le (tgt := 36) (M := M_X12_mindedAt) (pc := 26) dX12_mindedAt_26 rfl (fun hc => absurd hc (by decide)) (fun hc => ?_)
  refine aw_aload_n (j := 1) (M := M_X12_mindedAt) (pc := 29) dX12_mindedAt_29 rfl rfl ?_
  refine aw_iload (j := 0) (M := M_X12_mindedAt) (pc := 30) dX12_mindedAt_30  rfl ?_
  refine aw_cvi (as := [(0, 1)]) (st := []) (M := M_X12_mindedAt) (pc := 32) (f_X12_refuse  hF) dX12_mindedAt_32 rfl (Or.inl ⟨_, _, _, rfl, rfl⟩) cy_X12_refuse ml_X12_91 (by decide) (by decide) (Nat.le_of_ble_eq_true rfl) (fun r10 h9 hF => ?_)
  exact aw_ireti (M := M_X12_mindedAt) (pc := 35) dX12_mindedAt_35 rfl ⟨_, rfl, hF⟩
def B_X12_mindedAt_70 (h : Mem) (v4 : Int) (v6 : Int) (Q : Int → Mem → Prop) : Prop :=
  ((0 ≤ v6 ∧ v6 < 25) ∧ ((¬ ((h 172 (v6).toNat) = 0) → (F_X12_gives h v6 (fun r14 h13 => Q r14 h13))) ∧ ((h 172 (v6).toNat) = 0 → ((¬ (v4 = 0) → (InR (v6 + (-1)) ∧ L_X12_mindedAt_70 h v4 (v6 + (-1)) Q)) ∧ (v4 = 0 → (InR (v6 + 1) ∧ L_X12_mindedAt_70 h v4 (v6 + 1) Q))))))
set_option maxRecDepth 100000 in
set_option maxHeartbeats 4000000 in
theorem l_X12_mindedAt_70 {h : Mem} {v4 : Int} {v6 : Int} {Q : Int → Mem → Prop}  (hF : B_X12_mindedAt_70 h v4 v6 Q) : L_X12_mindedAt_70 h v4 v6 Q := by
  unfold B_X12_mindedAt_70 at hF
  show AW M_X12_mindedAt 70 [(0, vr 161), (4, (0, v4)), (6, (0, v6))] [] h (qi Q)
  refine aw_aload_n (j := 0) (M := M_X12_mindedAt) (pc := 70) dX12_mindedAt_70 rfl rfl ?_
  refine gf_X12_53 (M := M_X12_mindedAt) (pc := 71) rfl dX12_mindedAt_71 rfl (r := 172) rfl ?_
  refine aw_iload (j := 2) (M := M_X12_mindedAt) (pc := 74) dX12_mindedAt_74  rfl ?_
  obtain ⟨o12, hF⟩ := hF
  refine aw_zald (k := (v6).toNat) (M := M_X12_mindedAt) (pc := 76) dX12_mindedAt_76 rfl o12 rfl ?_
  refine aw_if_ne (tgt := 98) (M := M_X12_mindedAt) (pc := 77) dX12_mindedAt_77 rfl (fun hc => ?_) (fun hc => ?_)
  · have hF := hF.1 hc
    refine aw_aload_n (j := 0) (M := M_X12_mindedAt) (pc := 98) dX12_mindedAt_98 rfl rfl ?_
    refine aw_iload (j := 2) (M := M_X12_mindedAt) (pc := 99) dX12_mindedAt_99  rfl ?_
    refine aw_cvi (as := [(0, v6)]) (st := []) (M := M_X12_mindedAt) (pc := 101) (f_X12_gives  hF) dX12_mindedAt_101 rfl (Or.inl ⟨_, _, _, rfl, rfl⟩) cy_X12_gives ml_X12_95 (by decide) (by decide) (Nat.le_of_ble_eq_true rfl) (fun r14 h13 hF => ?_)
    exact aw_ireti (M := M_X12_mindedAt) (pc := 104) dX12_mindedAt_104 rfl ⟨_, rfl, hF⟩
  · have hF := hF.2 hc
    refine aw_iload (j := 2) (M := M_X12_mindedAt) (pc := 80) dX12_mindedAt_80  rfl ?_
    refine aw_iload (j := 1) (M := M_X12_mindedAt) (pc := 82) dX12_mindedAt_82  rfl ?_
    refine aw_if_ne (tgt := 91) (M := M_X12_mindedAt) (pc := 84) dX12_mindedAt_84 rfl (fun hc => ?_) (fun hc => ?_)
    · have hF := hF.1 hc
      refine aw_iconst (M := M_X12_mindedAt) (pc := 91) dX12_mindedAt_91 ⟨by decide, by decide⟩ ?_
      obtain ⟨o15, hF⟩ := hF
      refine aw_iadd (M := M_X12_mindedAt) (pc := 92) dX12_mindedAt_92 rfl o15 ?_
      refine aw_istore (ls' := [(6, (0, v6 + (-1))), (0, vr 161), (4, (0, v4))]) (M := M_X12_mindedAt) (pc := 93) dX12_mindedAt_93  (by decide) rfl ?_
      refine aw_goto (tgt := 70) (M := M_X12_mindedAt) (pc := 95) dX12_mindedAt_95 rfl ?_
      exact aw_ls [1, 2, 0] rfl hF
    · have hF := hF.2 hc
      refine aw_iconst (M := M_X12_mindedAt) (pc := 87) dX12_mindedAt_87 ⟨by decide, by decide⟩ ?_
      refine aw_goto (tgt := 92) (M := M_X12_mindedAt) (pc := 88) dX12_mindedAt_88 rfl ?_
      obtain ⟨o16, hF⟩ := hF
      refine aw_iadd (M := M_X12_mindedAt) (pc := 92) dX12_mindedAt_92 rfl o16 ?_
      refine aw_istore (ls' := [(6, (0, v6 + 1)), (0, vr 161), (4, (0, v4))]) (M := M_X12_mindedAt) (pc := 93) dX12_mindedAt_93  (by decide) rfl ?_
      refine aw_goto (tgt := 70) (M := M_X12_mindedAt) (pc := 95) dX12_mindedAt_95 rfl ?_
      exact aw_ls [1, 2, 0] rfl hF
def F_X12_mindedAt (h : Mem) (a1 : Int) (a2 : Int) (a3 : Int) (a4 : Int) (Q : Int → Mem → Prop) : Prop :=
  ((a4 < 0 → J_X12_mindedAt_11 h a1 a2 a3 a4 Q) ∧ (¬ (a4 < 0) → ((a4 ≤ 1 → (F_X12_wrongMinded h a1 a2 a3 (fun r2 h1 => ((r2 ≤ 0 → (F_X12_laysMinds h1 a1 a2 a3 (fun h3 => ((¬ ((h3 161 30) = 0) → ((¬ (a4 = 0) → L_X12_mindedAt_70 h3 a4 24 Q) ∧ (a4 = 0 → L_X12_mindedAt_70 h3 a4 1 Q))) ∧ ((h3 161 30) = 0 → (F_X12_refuse h3 6 (fun r6 h5 => Q r6 h5))))))) ∧ (¬ (r2 ≤ 0) → (F_X12_refuse h1 r2 (fun r8 h7 => Q r8 h7))))))) ∧ (¬ (a4 ≤ 1) → J_X12_mindedAt_11 h a1 a2 a3 a4 Q))))
set_option maxRecDepth 100000 in
set_option maxHeartbeats 4000000 in
theorem f_X12_mindedAt {h : Mem} {a1 : Int} {a2 : Int} {a3 : Int} {a4 : Int} {Q : Int → Mem → Prop}  (hF : F_X12_mindedAt h a1 a2 a3 a4 Q) : Ct yX12_mindedAt cX12_mindedAt 7 (some .int) (9, 224) [vr 161, (0, a1), (0, a2), (0, a3), (0, a4)] h (qi Q) := by
  refine Ct.of np_RX12 (Nat.le_of_ble_eq_true rfl) ?_
  unfold F_X12_mindedAt at hF
  show AW M_X12_mindedAt 0 [(0, vr 161), (1, (0, a1)), (2, (0, a2)), (3, (0, a3)), (4, (0, a4))] [] h (qi Q)
  refine aw_iload (j := 4) (M := M_X12_mindedAt) (pc := 0) dX12_mindedAt_0  rfl ?_
  refine aw_if_lt (tgt := 11) (M := M_X12_mindedAt) (pc := 2) dX12_mindedAt_2 rfl (fun hc => ?_) (fun hc => ?_)
  · have hF := hF.1 hc
    exact aw_ls [0, 1, 2, 3, 4] rfl (j_X12_mindedAt_11  hF)
  · have hF := hF.2 hc
    refine aw_iload (j := 4) (M := M_X12_mindedAt) (pc := 5) dX12_mindedAt_5  rfl ?_
    refine aw_iconst (M := M_X12_mindedAt) (pc := 7) dX12_mindedAt_7 ⟨by decide, by decide⟩ ?_
    refine aw_icmp_le (tgt := 15) (M := M_X12_mindedAt) (pc := 8) dX12_mindedAt_8 rfl (fun hc => ?_) (fun hc => ?_)
    · have hF := hF.1 hc
      refine aw_aload_n (j := 0) (M := M_X12_mindedAt) (pc := 15) dX12_mindedAt_15 rfl rfl ?_
      refine aw_iload_n (j := 1) (M := M_X12_mindedAt) (pc := 16) dX12_mindedAt_16 rfl rfl ?_
      refine aw_iload_n (j := 2) (M := M_X12_mindedAt) (pc := 17) dX12_mindedAt_17 rfl rfl ?_
      refine aw_iload_n (j := 3) (M := M_X12_mindedAt) (pc := 18) dX12_mindedAt_18 rfl rfl ?_
      refine aw_cvi (as := [(0, a1), (0, a2), (0, a3)]) (st := []) (M := M_X12_mindedAt) (pc := 19) (f_X12_wrongMinded  hF) dX12_mindedAt_19 rfl (Or.inl ⟨_, _, _, rfl, rfl⟩) cy_X12_wrongMinded ml_X12_398 (by decide) (by decide) (Nat.le_of_ble_eq_true rfl) (fun r2 h1 hF => ?_)
      refine aw_istore (ls' := [(5, (0, r2)), (0, vr 161), (1, (0, a1)), (2, (0, a2)), (3, (0, a3)), (4, (0, a4))]) (M := M_X12_mindedAt) (pc := 22) dX12_mindedAt_22  (by decide) rfl ?_
      refine aw_iload (j := 0) (M := M_X12_mindedAt) (pc := 24) dX12_mindedAt_24  rfl ?_
      refine aw_if_le (tgt := 36) (M := M_X12_mindedAt) (pc := 26) dX12_mindedAt_26 rfl (fun hc => ?_) (fun hc => ?_)
      · have hF := hF.1 hc
        refine aw_aload_n (j := 1) (M := M_X12_mindedAt) (pc := 36) dX12_mindedAt_36 rfl rfl ?_
        refine aw_iload_n (j := 2) (M := M_X12_mindedAt) (pc := 37) dX12_mindedAt_37 rfl rfl ?_
        refine aw_iload_n (j := 3) (M := M_X12_mindedAt) (pc := 38) dX12_mindedAt_38 rfl rfl ?_
        refine aw_iload_n (j := 4) (M := M_X12_mindedAt) (pc := 39) dX12_mindedAt_39 rfl rfl ?_
        refine aw_cvv (as := [(0, a1), (0, a2), (0, a3)]) (st := []) (M := M_X12_mindedAt) (pc := 40) (f_X12_laysMinds  hF) dX12_mindedAt_40 rfl (Or.inl ⟨_, _, _, rfl, rfl⟩) cy_X12_laysMinds ml_X12_402 (by decide) (by decide) (Nat.le_of_ble_eq_true rfl) (fun h3 hF => ?_)
        refine aw_aload_n (j := 1) (M := M_X12_mindedAt) (pc := 43) dX12_mindedAt_43 rfl rfl ?_
        refine gf_X12_395 (M := M_X12_mindedAt) (pc := 44) rfl dX12_mindedAt_44 rfl ?_
        refine aw_if_ne (tgt := 57) (M := M_X12_mindedAt) (pc := 47) dX12_mindedAt_47 rfl (fun hc => ?_) (fun hc => ?_)
        · have hF := hF.1 hc
          refine aw_iload (j := 5) (M := M_X12_mindedAt) (pc := 57) dX12_mindedAt_57  rfl ?_
          refine aw_if_ne (tgt := 66) (M := M_X12_mindedAt) (pc := 59) dX12_mindedAt_59 rfl (fun hc => ?_) (fun hc => ?_)
          · have hF := hF.1 hc
            refine aw_bipush (M := M_X12_mindedAt) (pc := 66) dX12_mindedAt_66 ⟨rfl, ⟨by decide, by decide⟩⟩ ?_
            refine aw_istore (ls' := [(6, (0, 24)), (5, (0, r2)), (0, vr 161), (1, (0, a1)), (2, (0, a2)), (3, (0, a3)), (4, (0, a4))]) (M := M_X12_mindedAt) (pc := 68) dX12_mindedAt_68  (by decide) rfl ?_
            exact aw_ls [2, 6, 0] rfl hF
          · have hF := hF.2 hc
            refine aw_iconst (M := M_X12_mindedAt) (pc := 62) dX12_mindedAt_62 ⟨by decide, by decide⟩ ?_
            refine aw_goto (tgt := 68) (M := M_X12_mindedAt) (pc := 63) dX12_mindedAt_63 rfl ?_
            refine aw_istore (ls' := [(6, (0, 1)), (5, (0, r2)), (0, vr 161), (1, (0, a1)), (2, (0, a2)), (3, (0, a3)), (4, (0, a4))]) (M := M_X12_mindedAt) (pc := 68) dX12_mindedAt_68  (by decide) rfl ?_
            exact aw_ls [2, 6, 0] rfl hF
        · have hF := hF.2 hc
          refine aw_aload_n (j := 1) (M := M_X12_mindedAt) (pc := 50) dX12_mindedAt_50 rfl rfl ?_
          refine aw_bipush (M := M_X12_mindedAt) (pc := 51) dX12_mindedAt_51 ⟨rfl, ⟨by decide, by decide⟩⟩ ?_
          refine aw_cvi (as := [(0, 6)]) (st := []) (M := M_X12_mindedAt) (pc := 53) (f_X12_refuse  hF) dX12_mindedAt_53 rfl (Or.inl ⟨_, _, _, rfl, rfl⟩) cy_X12_refuse ml_X12_91 (by decide) (by decide) (Nat.le_of_ble_eq_true rfl) (fun r6 h5 hF => ?_)
          exact aw_ireti (M := M_X12_mindedAt) (pc := 56) dX12_mindedAt_56 rfl ⟨_, rfl, hF⟩
      · have hF := hF.2 hc
        refine aw_aload_n (j := 1) (M := M_X12_mindedAt) (pc := 29) dX12_mindedAt_29 rfl rfl ?_
        refine aw_iload (j := 0) (M := M_X12_mindedAt) (pc := 30) dX12_mindedAt_30  rfl ?_
        refine aw_cvi (as := [(0, r2)]) (st := []) (M := M_X12_mindedAt) (pc := 32) (f_X12_refuse  hF) dX12_mindedAt_32 rfl (Or.inl ⟨_, _, _, rfl, rfl⟩) cy_X12_refuse ml_X12_91 (by decide) (by decide) (Nat.le_of_ble_eq_true rfl) (fun r8 h7 hF => ?_)
        exact aw_ireti (M := M_X12_mindedAt) (pc := 35) dX12_mindedAt_35 rfl ⟨_, rfl, hF⟩
    · have hF := hF.2 hc
      exact aw_ls [0, 1, 2, 3, 4] rfl (j_X12_mindedAt_11  hF)
abbrev M_X12_moveOf : Hd := (cX12_moveOf, 6, RX12, (some .int), (10, 247), sc0)
def F_X12_moveOf (h : Mem) (a1 : Int) (a2 : Int) (a3 : Int) (a4 : Int) (Q : Int → Mem → Prop) : Prop :=
  (F_X12_areTwo h a1 a2 (fun r2 h1 => ((r2 = 0 → (F_X12_refuse h1 1 (fun r4 h3 => Q r4 h3))) ∧ (¬ (r2 = 0) → (F_X12_isFrom h1 a3 1 2 (fun r6 h5 => ((r6 = 0 → (F_X12_refuse h5 1 (fun r8 h7 => Q r8 h7))) ∧ (¬ (r6 = 0) → (F_X12_isFrom h5 a4 0 1 (fun r10 h9 => ((¬ (r10 = 0) → (F_X12_playing h9 a1 a2 a3 (fun r12 h11 => (InR ((h11 162 0) * (h11 162 2)) ∧ ((¬ ((h11 176 0) = ((h11 162 0) * (h11 162 2))) → ((¬ (a4 = 0) → ((h11 162 2) ≠ 0 ∧ (F_X12_gives h11 ((h11 176 0 : Int).tmod (h11 162 2)) (fun r20 h19 => Q r20 h19)))) ∧ (a4 = 0 → ((h11 162 2) ≠ 0 ∧ InR ((h11 176 0 : Int).tdiv (h11 162 2)) ∧ (F_X12_gives h11 ((h11 176 0 : Int).tdiv (h11 162 2)) (fun r25 h24 => Q r25 h24)))))) ∧ ((h11 176 0) = ((h11 162 0) * (h11 162 2)) → (F_X12_refuse h11 6 (fun r27 h26 => Q r27 h26)))))))) ∧ (r10 = 0 → (F_X12_refuse h9 1 (fun r29 h28 => Q r29 h28))))))))))))))
set_option maxRecDepth 100000 in
set_option maxHeartbeats 4000000 in
theorem f_X12_moveOf {h : Mem} {a1 : Int} {a2 : Int} {a3 : Int} {a4 : Int} {Q : Int → Mem → Prop}  (hF : F_X12_moveOf h a1 a2 a3 a4 Q) : Ct yX12_moveOf cX12_moveOf 6 (some .int) (10, 247) [vr 161, (0, a1), (0, a2), (0, a3), (0, a4)] h (qi Q) := by
  refine Ct.of np_RX12 (Nat.le_of_ble_eq_true rfl) ?_
  unfold F_X12_moveOf at hF
  show AW M_X12_moveOf 0 [(0, vr 161), (1, (0, a1)), (2, (0, a2)), (3, (0, a3)), (4, (0, a4))] [] h (qi Q)
  refine aw_aload_n (j := 0) (M := M_X12_moveOf) (pc := 0) dX12_moveOf_0 rfl rfl ?_
  refine aw_iload_n (j := 1) (M := M_X12_moveOf) (pc := 1) dX12_moveOf_1 rfl rfl ?_
  refine aw_iload_n (j := 2) (M := M_X12_moveOf) (pc := 2) dX12_moveOf_2 rfl rfl ?_
  refine aw_cvi (as := [(0, a1), (0, a2)]) (st := []) (M := M_X12_moveOf) (pc := 3) (f_X12_areTwo  hF) dX12_moveOf_3 rfl (Or.inl ⟨_, _, _, rfl, rfl⟩) cy_X12_areTwo ml_X12_434 (by decide) (by decide) (Nat.le_of_ble_eq_true rfl) (fun r2 h1 hF => ?_)
  refine aw_if_eq (tgt := 32) (M := M_X12_moveOf) (pc := 6) dX12_moveOf_6 rfl (fun hc => ?_) (fun hc => ?_)
  · have hF := hF.1 hc
    refine aw_aload_n (j := 0) (M := M_X12_moveOf) (pc := 32) dX12_moveOf_32 rfl rfl ?_
    refine aw_iconst (M := M_X12_moveOf) (pc := 33) dX12_moveOf_33 ⟨by decide, by decide⟩ ?_
    refine aw_cvi (as := [(0, 1)]) (st := []) (M := M_X12_moveOf) (pc := 34) (f_X12_refuse  hF) dX12_moveOf_34 rfl (Or.inl ⟨_, _, _, rfl, rfl⟩) cy_X12_refuse ml_X12_91 (by decide) (by decide) (Nat.le_of_ble_eq_true rfl) (fun r4 h3 hF => ?_)
    exact aw_ireti (M := M_X12_moveOf) (pc := 37) dX12_moveOf_37 rfl ⟨_, rfl, hF⟩
  · have hF := hF.2 hc
    refine aw_iload_n (j := 3) (M := M_X12_moveOf) (pc := 9) dX12_moveOf_9 rfl rfl ?_
    refine aw_i2l (M := M_X12_moveOf) (pc := 10) dX12_moveOf_10 ?_
    refine aw_lconst (v := 1) (M := M_X12_moveOf) (pc := 11) dX12_moveOf_11 ⟨rfl, ⟨by decide, by decide⟩⟩ ?_
    refine aw_ldc2 (v := 2) (M := M_X12_moveOf) (pc := 12) dX12_moveOf_12 kl_X12_339 ⟨by decide, by decide⟩ ?_
    refine aw_csi (as := [(1, a3), (1, 1), (1, 2)]) (st := []) (M := M_X12_moveOf) (pc := 15) (f_X12_isFrom  hF) dX12_moveOf_15 rfl cy_X12_isFrom ml_X12_316 (by decide) (by decide) (Nat.le_of_ble_eq_true rfl) (fun r6 h5 hF => ?_)
    refine aw_if_eq (tgt := 32) (M := M_X12_moveOf) (pc := 18) dX12_moveOf_18 rfl (fun hc => ?_) (fun hc => ?_)
    · have hF := hF.1 hc
      refine aw_aload_n (j := 0) (M := M_X12_moveOf) (pc := 32) dX12_moveOf_32 rfl rfl ?_
      refine aw_iconst (M := M_X12_moveOf) (pc := 33) dX12_moveOf_33 ⟨by decide, by decide⟩ ?_
      refine aw_cvi (as := [(0, 1)]) (st := []) (M := M_X12_moveOf) (pc := 34) (f_X12_refuse  hF) dX12_moveOf_34 rfl (Or.inl ⟨_, _, _, rfl, rfl⟩) cy_X12_refuse ml_X12_91 (by decide) (by decide) (Nat.le_of_ble_eq_true rfl) (fun r8 h7 hF => ?_)
      exact aw_ireti (M := M_X12_moveOf) (pc := 37) dX12_moveOf_37 rfl ⟨_, rfl, hF⟩
    · have hF := hF.2 hc
      refine aw_iload (j := 4) (M := M_X12_moveOf) (pc := 21) dX12_moveOf_21  rfl ?_
      refine aw_i2l (M := M_X12_moveOf) (pc := 23) dX12_moveOf_23 ?_
      refine aw_lconst (v := 0) (M := M_X12_moveOf) (pc := 24) dX12_moveOf_24 ⟨rfl, ⟨by decide, by decide⟩⟩ ?_
      refine aw_lconst (v := 1) (M := M_X12_moveOf) (pc := 25) dX12_moveOf_25 ⟨rfl, ⟨by decide, by decide⟩⟩ ?_
      refine aw_csi (as := [(1, a4), (1, 0), (1, 1)]) (st := []) (M := M_X12_moveOf) (pc := 26) (f_X12_isFrom  hF) dX12_moveOf_26 rfl cy_X12_isFrom ml_X12_316 (by decide) (by decide) (Nat.le_of_ble_eq_true rfl) (fun r10 h9 hF => ?_)
      refine aw_if_ne (tgt := 38) (M := M_X12_moveOf) (pc := 29) dX12_moveOf_29 rfl (fun hc => ?_) (fun hc => ?_)
      · have hF := hF.1 hc
        refine aw_aload_n (j := 0) (M := M_X12_moveOf) (pc := 38) dX12_moveOf_38 rfl rfl ?_
        refine aw_iload_n (j := 1) (M := M_X12_moveOf) (pc := 39) dX12_moveOf_39 rfl rfl ?_
        refine aw_iload_n (j := 2) (M := M_X12_moveOf) (pc := 40) dX12_moveOf_40 rfl rfl ?_
        refine aw_iload_n (j := 3) (M := M_X12_moveOf) (pc := 41) dX12_moveOf_41 rfl rfl ?_
        refine aw_cvi (as := [(0, a1), (0, a2), (0, a3)]) (st := []) (M := M_X12_moveOf) (pc := 42) (f_X12_playing  hF) dX12_moveOf_42 rfl (Or.inl ⟨_, _, _, rfl, rfl⟩) cy_X12_playing ml_X12_437 (by decide) (by decide) (Nat.le_of_ble_eq_true rfl) (fun r12 h11 hF => ?_)
        refine aw_pop (M := M_X12_moveOf) (pc := 45) dX12_moveOf_45 rfl ?_
        refine aw_aload_n (j := 0) (M := M_X12_moveOf) (pc := 46) dX12_moveOf_46 rfl rfl ?_
        refine gf_X12_66 (M := M_X12_moveOf) (pc := 47) rfl dX12_moveOf_47 rfl (r := 176) rfl ?_
        refine aw_iconst (M := M_X12_moveOf) (pc := 50) dX12_moveOf_50 ⟨by decide, by decide⟩ ?_
        refine aw_iald (k := 0) (M := M_X12_moveOf) (pc := 51) dX12_moveOf_51 rfl ⟨by decide, by decide⟩ rfl ?_
        refine aw_istore (ls' := [(5, (0, h11 176 0)), (0, vr 161), (1, (0, a1)), (2, (0, a2)), (3, (0, a3)), (4, (0, a4))]) (M := M_X12_moveOf) (pc := 52) dX12_moveOf_52  (by decide) rfl ?_
        refine aw_iload (j := 0) (M := M_X12_moveOf) (pc := 54) dX12_moveOf_54  rfl ?_
        refine aw_aload_n (j := 1) (M := M_X12_moveOf) (pc := 56) dX12_moveOf_56 rfl rfl ?_
        refine gf_X12_7 (M := M_X12_moveOf) (pc := 57) rfl dX12_moveOf_57 rfl (r := 162) rfl ?_
        refine aw_iconst (M := M_X12_moveOf) (pc := 60) dX12_moveOf_60 ⟨by decide, by decide⟩ ?_
        refine aw_iald (k := 0) (M := M_X12_moveOf) (pc := 61) dX12_moveOf_61 rfl ⟨by decide, by decide⟩ rfl ?_
        refine aw_aload_n (j := 1) (M := M_X12_moveOf) (pc := 62) dX12_moveOf_62 rfl rfl ?_
        refine gf_X12_7 (M := M_X12_moveOf) (pc := 63) rfl dX12_moveOf_63 rfl (r := 162) rfl ?_
        refine aw_iconst (M := M_X12_moveOf) (pc := 66) dX12_moveOf_66 ⟨by decide, by decide⟩ ?_
        refine aw_iald (k := 2) (M := M_X12_moveOf) (pc := 67) dX12_moveOf_67 rfl ⟨by decide, by decide⟩ rfl ?_
        obtain ⟨o16, hF⟩ := hF
        refine aw_imul (M := M_X12_moveOf) (pc := 68) dX12_moveOf_68 rfl o16 ?_
        refine aw_icmp_ne (tgt := 79) (M := M_X12_moveOf) (pc := 69) dX12_moveOf_69 rfl (fun hc => ?_) (fun hc => ?_)
        · have hF := hF.1 hc
          refine aw_aload_n (j := 1) (M := M_X12_moveOf) (pc := 79) dX12_moveOf_79 rfl rfl ?_
          refine aw_iload (j := 5) (M := M_X12_moveOf) (pc := 80) dX12_moveOf_80  rfl ?_
          refine aw_if_ne (tgt := 97) (M := M_X12_moveOf) (pc := 82) dX12_moveOf_82 rfl (fun hc => ?_) (fun hc => ?_)
          · have hF := hF.1 hc
            refine aw_iload (j := 0) (M := M_X12_moveOf) (pc := 97) dX12_moveOf_97  rfl ?_
            refine aw_aload_n (j := 1) (M := M_X12_moveOf) (pc := 99) dX12_moveOf_99 rfl rfl ?_
            refine gf_X12_7 (M := M_X12_moveOf) (pc := 100) rfl dX12_moveOf_100 rfl (r := 162) rfl ?_
            refine aw_iconst (M := M_X12_moveOf) (pc := 103) dX12_moveOf_103 ⟨by decide, by decide⟩ ?_
            refine aw_iald (k := 2) (M := M_X12_moveOf) (pc := 104) dX12_moveOf_104 rfl ⟨by decide, by decide⟩ rfl ?_
            obtain ⟨o18, hF⟩ := hF
            refine aw_irem (M := M_X12_moveOf) (pc := 105) dX12_moveOf_105 o18 ?_
            refine aw_cvi (as := [(0, (h11 176 0 : Int).tmod (h11 162 2))]) (st := []) (M := M_X12_moveOf) (pc := 106) (f_X12_gives  hF) dX12_moveOf_106 rfl (Or.inl ⟨_, _, _, rfl, rfl⟩) cy_X12_gives ml_X12_95 (by decide) (by decide) (Nat.le_of_ble_eq_true rfl) (fun r20 h19 hF => ?_)
            exact aw_ireti (M := M_X12_moveOf) (pc := 109) dX12_moveOf_109 rfl ⟨_, rfl, hF⟩
          · have hF := hF.2 hc
            refine aw_iload (j := 0) (M := M_X12_moveOf) (pc := 85) dX12_moveOf_85  rfl ?_
            refine aw_aload_n (j := 1) (M := M_X12_moveOf) (pc := 87) dX12_moveOf_87 rfl rfl ?_
            refine gf_X12_7 (M := M_X12_moveOf) (pc := 88) rfl dX12_moveOf_88 rfl (r := 162) rfl ?_
            refine aw_iconst (M := M_X12_moveOf) (pc := 91) dX12_moveOf_91 ⟨by decide, by decide⟩ ?_
            refine aw_iald (k := 2) (M := M_X12_moveOf) (pc := 92) dX12_moveOf_92 rfl ⟨by decide, by decide⟩ rfl ?_
            obtain ⟨o22, hF⟩ := hF
            obtain ⟨o23, hF⟩ := hF
            refine aw_idiv (M := M_X12_moveOf) (pc := 93) dX12_moveOf_93 o22 o23 ?_
            refine aw_goto (tgt := 106) (M := M_X12_moveOf) (pc := 94) dX12_moveOf_94 rfl ?_
            refine aw_cvi (as := [(0, (h11 176 0 : Int).tdiv (h11 162 2))]) (st := []) (M := M_X12_moveOf) (pc := 106) (f_X12_gives  hF) dX12_moveOf_106 rfl (Or.inl ⟨_, _, _, rfl, rfl⟩) cy_X12_gives ml_X12_95 (by decide) (by decide) (Nat.le_of_ble_eq_true rfl) (fun r25 h24 hF => ?_)
            exact aw_ireti (M := M_X12_moveOf) (pc := 109) dX12_moveOf_109 rfl ⟨_, rfl, hF⟩
        · have hF := hF.2 hc
          refine aw_aload_n (j := 1) (M := M_X12_moveOf) (pc := 72) dX12_moveOf_72 rfl rfl ?_
          refine aw_bipush (M := M_X12_moveOf) (pc := 73) dX12_moveOf_73 ⟨rfl, ⟨by decide, by decide⟩⟩ ?_
          refine aw_cvi (as := [(0, 6)]) (st := []) (M := M_X12_moveOf) (pc := 75) (f_X12_refuse  hF) dX12_moveOf_75 rfl (Or.inl ⟨_, _, _, rfl, rfl⟩) cy_X12_refuse ml_X12_91 (by decide) (by decide) (Nat.le_of_ble_eq_true rfl) (fun r27 h26 hF => ?_)
          exact aw_ireti (M := M_X12_moveOf) (pc := 78) dX12_moveOf_78 rfl ⟨_, rfl, hF⟩
      · have hF := hF.2 hc
        refine aw_aload_n (j := 0) (M := M_X12_moveOf) (pc := 32) dX12_moveOf_32 rfl rfl ?_
        refine aw_iconst (M := M_X12_moveOf) (pc := 33) dX12_moveOf_33 ⟨by decide, by decide⟩ ?_
        refine aw_cvi (as := [(0, 1)]) (st := []) (M := M_X12_moveOf) (pc := 34) (f_X12_refuse  hF) dX12_moveOf_34 rfl (Or.inl ⟨_, _, _, rfl, rfl⟩) cy_X12_refuse ml_X12_91 (by decide) (by decide) (Nat.le_of_ble_eq_true rfl) (fun r29 h28 hF => ?_)
        exact aw_ireti (M := M_X12_moveOf) (pc := 37) dX12_moveOf_37 rfl ⟨_, rfl, hF⟩
abbrev M_X12_pour : Hd := (cX12_pour, 8, RX12, (some .boolean), (2, 66), sc0)
def L_X12_pour_118 (h : Mem) (v1 : Int) (v2 : Int) (v3 : Int) (v4 : Int) (v5 : Int) (v6 : Int) (Q : Int → Mem → Prop) : Prop := AW M_X12_pour 118 [(0, vr 161), (1, (0, v1)), (2, (0, v2)), (3, (0, v3)), (4, (0, v4)), (5, (0, v5)), (6, (0, v6))] [] h (qi Q)
def B_X12_pour_118 (h : Mem) (v1 : Int) (v2 : Int) (v3 : Int) (v4 : Int) (v5 : Int) (v6 : Int) (Q : Int → Mem → Prop) : Prop :=
  ((v5 ≤ v6 → (F_X12_is h 0 (fun r36 h35 => (InZ r36 ∧ Q r36 h35)))) ∧ (¬ (v5 ≤ v6) → ((v4 ≤ v2 → (InR (60 * v3) ∧ (InR ((60 * v3) + v4) ∧ (InR (((60 * v3) + v4) + v6) ∧ (InR (60 * v1) ∧ (InR ((60 * v1) + v2) ∧ (InR (((60 * v1) + v2) + v6) ∧ ((0 ≤ (((60 * v1) + v2) + v6) ∧ (((60 * v1) + v2) + v6) < 240) ∧ ((0 ≤ (((60 * v3) + v4) + v6) ∧ (((60 * v3) + v4) + v6) < 240) ∧ (∀ h46 : Mem, h46 = mset h 166 (((60 * v3) + v4) + v6).toNat (h 166 (((60 * v1) + v2) + v6).toNat) → (InR (v6 + 1) ∧ L_X12_pour_118 h46 v1 v2 v3 v4 v5 (v6 + 1) Q))))))))))) ∧ (¬ (v4 ≤ v2) → (InR (v5 - 1) ∧ (InR ((v5 - 1) - v6) ∧ (InR (60 * v3) ∧ (InR ((60 * v3) + v4) ∧ (InR (((60 * v3) + v4) + ((v5 - 1) - v6)) ∧ (InR (60 * v1) ∧ (InR ((60 * v1) + v2) ∧ (InR (((60 * v1) + v2) + ((v5 - 1) - v6)) ∧ ((0 ≤ (((60 * v1) + v2) + ((v5 - 1) - v6)) ∧ (((60 * v1) + v2) + ((v5 - 1) - v6)) < 240) ∧ ((0 ≤ (((60 * v3) + v4) + ((v5 - 1) - v6)) ∧ (((60 * v3) + v4) + ((v5 - 1) - v6)) < 240) ∧ (∀ h59 : Mem, h59 = mset h 166 (((60 * v3) + v4) + ((v5 - 1) - v6)).toNat (h 166 (((60 * v1) + v2) + ((v5 - 1) - v6)).toNat) → (InR (v6 + 1) ∧ L_X12_pour_118 h59 v1 v2 v3 v4 v5 (v6 + 1) Q))))))))))))))))
set_option maxRecDepth 100000 in
set_option maxHeartbeats 4000000 in
theorem l_X12_pour_118 {h : Mem} {v1 : Int} {v2 : Int} {v3 : Int} {v4 : Int} {v5 : Int} {v6 : Int} {Q : Int → Mem → Prop}  (hF : B_X12_pour_118 h v1 v2 v3 v4 v5 v6 Q) : L_X12_pour_118 h v1 v2 v3 v4 v5 v6 Q := by
  unfold B_X12_pour_118 at hF
  show AW M_X12_pour 118 [(0, vr 161), (1, (0, v1)), (2, (0, v2)), (3, (0, v3)), (4, (0, v4)), (5, (0, v5)), (6, (0, v6))] [] h (qi Q)
  refine aw_iload (j := 6) (M := M_X12_pour) (pc := 118) dX12_pour_118  rfl ?_
  refine aw_iload (j := 5) (M := M_X12_pour) (pc := 120) dX12_pour_120  rfl ?_
  refine aw_icmp_ge (tgt := 180) (M := M_X12_pour) (pc := 122) dX12_pour_122 rfl (fun hc => ?_) (fun hc => ?_)
  · have hF := hF.1 hc
    refine aw_aload_n (j := 0) (M := M_X12_pour) (pc := 180) dX12_pour_180 rfl rfl ?_
    refine aw_iconst (M := M_X12_pour) (pc := 181) dX12_pour_181 ⟨by decide, by decide⟩ ?_
    refine aw_cvi (as := [(0, 0)]) (st := []) (M := M_X12_pour) (pc := 182) (f_X12_is  hF) dX12_pour_182 rfl (Or.inl ⟨_, _, _, rfl, rfl⟩) cy_X12_is ml_X12_98 (by decide) (by decide) (Nat.le_of_ble_eq_true rfl) (fun r36 h35 hF => ?_)
    exact aw_iretz (M := M_X12_pour) (pc := 185) dX12_pour_185 rfl hF.1 ⟨_, rfl, hF.2⟩
  · have hF := hF.2 hc
    refine aw_iload_n (j := 2) (M := M_X12_pour) (pc := 125) dX12_pour_125 rfl rfl ?_
    refine aw_iload (j := 4) (M := M_X12_pour) (pc := 126) dX12_pour_126  rfl ?_
    refine aw_icmp_ge (tgt := 141) (M := M_X12_pour) (pc := 128) dX12_pour_128 rfl (fun hc => ?_) (fun hc => ?_)
    · have hF := hF.1 hc
      refine aw_iload (j := 6) (M := M_X12_pour) (pc := 141) dX12_pour_141  rfl ?_
      refine aw_istore (ls' := [(7, (0, v6)), (0, vr 161), (1, (0, v1)), (2, (0, v2)), (3, (0, v3)), (4, (0, v4)), (5, (0, v5)), (6, (0, v6))]) (M := M_X12_pour) (pc := 143) dX12_pour_143  (by decide) rfl ?_
      refine aw_aload_n (j := 1) (M := M_X12_pour) (pc := 145) dX12_pour_145 rfl rfl ?_
      refine gf_X12_27 (M := M_X12_pour) (pc := 146) rfl dX12_pour_146 rfl (r := 166) rfl ?_
      refine aw_bipush (M := M_X12_pour) (pc := 149) dX12_pour_149 ⟨rfl, ⟨by decide, by decide⟩⟩ ?_
      refine aw_iload_n (j := 4) (M := M_X12_pour) (pc := 151) dX12_pour_151 rfl rfl ?_
      obtain ⟨o37, hF⟩ := hF
      refine aw_imul (M := M_X12_pour) (pc := 152) dX12_pour_152 rfl o37 ?_
      refine aw_iload (j := 5) (M := M_X12_pour) (pc := 153) dX12_pour_153  rfl ?_
      obtain ⟨o38, hF⟩ := hF
      refine aw_iadd (M := M_X12_pour) (pc := 155) dX12_pour_155 rfl o38 ?_
      refine aw_iload (j := 0) (M := M_X12_pour) (pc := 156) dX12_pour_156  rfl ?_
      obtain ⟨o39, hF⟩ := hF
      refine aw_iadd (M := M_X12_pour) (pc := 158) dX12_pour_158 rfl o39 ?_
      refine aw_aload_n (j := 1) (M := M_X12_pour) (pc := 159) dX12_pour_159 rfl rfl ?_
      refine gf_X12_27 (M := M_X12_pour) (pc := 160) rfl dX12_pour_160 rfl (r := 166) rfl ?_
      refine aw_bipush (M := M_X12_pour) (pc := 163) dX12_pour_163 ⟨rfl, ⟨by decide, by decide⟩⟩ ?_
      refine aw_iload_n (j := 2) (M := M_X12_pour) (pc := 165) dX12_pour_165 rfl rfl ?_
      obtain ⟨o40, hF⟩ := hF
      refine aw_imul (M := M_X12_pour) (pc := 166) dX12_pour_166 rfl o40 ?_
      refine aw_iload_n (j := 3) (M := M_X12_pour) (pc := 167) dX12_pour_167 rfl rfl ?_
      obtain ⟨o41, hF⟩ := hF
      refine aw_iadd (M := M_X12_pour) (pc := 168) dX12_pour_168 rfl o41 ?_
      refine aw_iload (j := 0) (M := M_X12_pour) (pc := 169) dX12_pour_169  rfl ?_
      obtain ⟨o42, hF⟩ := hF
      refine aw_iadd (M := M_X12_pour) (pc := 171) dX12_pour_171 rfl o42 ?_
      obtain ⟨o44, hF⟩ := hF
      refine aw_lald (k := (((60 * v1) + v2) + v6).toNat) (M := M_X12_pour) (pc := 172) dX12_pour_172 rfl o44 rfl ?_
      obtain ⟨o45, hF⟩ := hF
      refine aw_last (k := (((60 * v3) + v4) + v6).toNat) (M := M_X12_pour) (pc := 173) dX12_pour_173 rfl o45 rfl ?_
      obtain ⟨h46, eh46⟩ : ∃ y : Mem, y = mset h 166 (((60 * v3) + v4) + v6).toNat (h 166 (((60 * v1) + v2) + v6).toNat) := ⟨_, rfl⟩
      have hF := hF h46 eh46
      rw [← eh46]
      obtain ⟨o47, hF⟩ := hF
      refine aw_iinc (j := 7) (x := v6) (r := v6 + 1) (ls' := [(6, (0, v6 + 1)), (7, (0, v6)), (0, vr 161), (1, (0, v1)), (2, (0, v2)), (3, (0, v3)), (4, (0, v4)), (5, (0, v5))]) (M := M_X12_pour) (pc := 174) dX12_pour_174 rfl rfl o47 (by decide) rfl ?_
      refine aw_goto (tgt := 118) (M := M_X12_pour) (pc := 177) dX12_pour_177 rfl ?_
      exact aw_ls [2, 3, 4, 5, 6, 7, 0] rfl hF
    · have hF := hF.2 hc
      refine aw_iload (j := 5) (M := M_X12_pour) (pc := 131) dX12_pour_131  rfl ?_
      refine aw_iconst (M := M_X12_pour) (pc := 133) dX12_pour_133 ⟨by decide, by decide⟩ ?_
      obtain ⟨o48, hF⟩ := hF
      refine aw_isub (M := M_X12_pour) (pc := 134) dX12_pour_134 rfl o48 ?_
      refine aw_iload (j := 6) (M := M_X12_pour) (pc := 135) dX12_pour_135  rfl ?_
      obtain ⟨o49, hF⟩ := hF
      refine aw_isub (M := M_X12_pour) (pc := 137) dX12_pour_137 rfl o49 ?_
      refine aw_goto (tgt := 143) (M := M_X12_pour) (pc := 138) dX12_pour_138 rfl ?_
      refine aw_istore (ls' := [(7, (0, (v5 - 1) - v6)), (0, vr 161), (1, (0, v1)), (2, (0, v2)), (3, (0, v3)), (4, (0, v4)), (5, (0, v5)), (6, (0, v6))]) (M := M_X12_pour) (pc := 143) dX12_pour_143  (by decide) rfl ?_
      refine aw_aload_n (j := 1) (M := M_X12_pour) (pc := 145) dX12_pour_145 rfl rfl ?_
      refine gf_X12_27 (M := M_X12_pour) (pc := 146) rfl dX12_pour_146 rfl (r := 166) rfl ?_
      refine aw_bipush (M := M_X12_pour) (pc := 149) dX12_pour_149 ⟨rfl, ⟨by decide, by decide⟩⟩ ?_
      refine aw_iload_n (j := 4) (M := M_X12_pour) (pc := 151) dX12_pour_151 rfl rfl ?_
      obtain ⟨o50, hF⟩ := hF
      refine aw_imul (M := M_X12_pour) (pc := 152) dX12_pour_152 rfl o50 ?_
      refine aw_iload (j := 5) (M := M_X12_pour) (pc := 153) dX12_pour_153  rfl ?_
      obtain ⟨o51, hF⟩ := hF
      refine aw_iadd (M := M_X12_pour) (pc := 155) dX12_pour_155 rfl o51 ?_
      refine aw_iload (j := 0) (M := M_X12_pour) (pc := 156) dX12_pour_156  rfl ?_
      obtain ⟨o52, hF⟩ := hF
      refine aw_iadd (M := M_X12_pour) (pc := 158) dX12_pour_158 rfl o52 ?_
      refine aw_aload_n (j := 1) (M := M_X12_pour) (pc := 159) dX12_pour_159 rfl rfl ?_
      refine gf_X12_27 (M := M_X12_pour) (pc := 160) rfl dX12_pour_160 rfl (r := 166) rfl ?_
      refine aw_bipush (M := M_X12_pour) (pc := 163) dX12_pour_163 ⟨rfl, ⟨by decide, by decide⟩⟩ ?_
      refine aw_iload_n (j := 2) (M := M_X12_pour) (pc := 165) dX12_pour_165 rfl rfl ?_
      obtain ⟨o53, hF⟩ := hF
      refine aw_imul (M := M_X12_pour) (pc := 166) dX12_pour_166 rfl o53 ?_
      refine aw_iload_n (j := 3) (M := M_X12_pour) (pc := 167) dX12_pour_167 rfl rfl ?_
      obtain ⟨o54, hF⟩ := hF
      refine aw_iadd (M := M_X12_pour) (pc := 168) dX12_pour_168 rfl o54 ?_
      refine aw_iload (j := 0) (M := M_X12_pour) (pc := 169) dX12_pour_169  rfl ?_
      obtain ⟨o55, hF⟩ := hF
      refine aw_iadd (M := M_X12_pour) (pc := 171) dX12_pour_171 rfl o55 ?_
      obtain ⟨o57, hF⟩ := hF
      refine aw_lald (k := (((60 * v1) + v2) + ((v5 - 1) - v6)).toNat) (M := M_X12_pour) (pc := 172) dX12_pour_172 rfl o57 rfl ?_
      obtain ⟨o58, hF⟩ := hF
      refine aw_last (k := (((60 * v3) + v4) + ((v5 - 1) - v6)).toNat) (M := M_X12_pour) (pc := 173) dX12_pour_173 rfl o58 rfl ?_
      obtain ⟨h59, eh59⟩ : ∃ y : Mem, y = mset h 166 (((60 * v3) + v4) + ((v5 - 1) - v6)).toNat (h 166 (((60 * v1) + v2) + ((v5 - 1) - v6)).toNat) := ⟨_, rfl⟩
      have hF := hF h59 eh59
      rw [← eh59]
      obtain ⟨o60, hF⟩ := hF
      refine aw_iinc (j := 7) (x := v6) (r := v6 + 1) (ls' := [(6, (0, v6 + 1)), (7, (0, (v5 - 1) - v6)), (0, vr 161), (1, (0, v1)), (2, (0, v2)), (3, (0, v3)), (4, (0, v4)), (5, (0, v5))]) (M := M_X12_pour) (pc := 174) dX12_pour_174 rfl rfl o60 (by decide) rfl ?_
      refine aw_goto (tgt := 118) (M := M_X12_pour) (pc := 177) dX12_pour_177 rfl ?_
      exact aw_ls [2, 3, 4, 5, 6, 7, 0] rfl hF
def F_X12_pour (h : Mem) (a1 : Int) (a2 : Int) (a3 : Int) (a4 : Int) (a5 : Int) (Q : Int → Mem → Prop) : Prop :=
  (F_X12_isTray h a1 (fun r2 h1 => ((r2 = 0 → (F_X12_is h1 1 (fun r4 h3 => (InZ r4 ∧ Q r4 h3)))) ∧ (¬ (r2 = 0) → (F_X12_isTray h1 a3 (fun r6 h5 => ((r6 = 0 → (F_X12_is h5 1 (fun r8 h7 => (InZ r8 ∧ Q r8 h7)))) ∧ (¬ (r6 = 0) → ((a2 < 0 → (F_X12_is h5 1 (fun r10 h9 => (InZ r10 ∧ Q r10 h9)))) ∧ (¬ (a2 < 0) → ((a4 < 0 → (F_X12_is h5 1 (fun r12 h11 => (InZ r12 ∧ Q r12 h11)))) ∧ (¬ (a4 < 0) → ((0 ≤ a5 → ((0 ≤ a1 ∧ a1 < 4) ∧ (((h5 165 (a1).toNat) = (-1) → (F_X12_is h5 2 (fun r16 h15 => (InZ r16 ∧ Q r16 h15)))) ∧ (¬ ((h5 165 (a1).toNat) = (-1)) → ((0 ≤ a3 ∧ a3 < 4) ∧ ((¬ ((h5 165 (a3).toNat) = (-1)) → (((h5 164 (a1).toNat) = (h5 164 (a3).toNat) → (InR ((h5 165 (a1).toNat) - a2) ∧ ((((h5 165 (a1).toNat) - a2) < a5 → (F_X12_is h5 3 (fun r24 h23 => (InZ r24 ∧ Q r24 h23)))) ∧ (¬ (((h5 165 (a1).toNat) - a2) < a5) → (InR ((h5 165 (a3).toNat) - a4) ∧ ((a5 ≤ ((h5 165 (a3).toNat) - a4) → L_X12_pour_118 h5 a1 a2 a3 a4 a5 0 Q) ∧ (¬ (a5 ≤ ((h5 165 (a3).toNat) - a4)) → (F_X12_is h5 3 (fun r28 h27 => (InZ r28 ∧ Q r28 h27)))))))))) ∧ (¬ ((h5 164 (a1).toNat) = (h5 164 (a3).toNat)) → (F_X12_is h5 8 (fun r30 h29 => (InZ r30 ∧ Q r30 h29)))))) ∧ ((h5 165 (a3).toNat) = (-1) → (F_X12_is h5 2 (fun r32 h31 => (InZ r32 ∧ Q r32 h31)))))))))) ∧ (¬ (0 ≤ a5) → (F_X12_is h5 1 (fun r34 h33 => (InZ r34 ∧ Q r34 h33)))))))))))))))))
set_option maxRecDepth 100000 in
set_option maxHeartbeats 4000000 in
theorem f_X12_pour {h : Mem} {a1 : Int} {a2 : Int} {a3 : Int} {a4 : Int} {a5 : Int} {Q : Int → Mem → Prop}  (hF : F_X12_pour h a1 a2 a3 a4 a5 Q) : Ct yX12_pour cX12_pour 8 (some .boolean) (2, 66) [vr 161, (0, a1), (0, a2), (0, a3), (0, a4), (0, a5)] h (qi Q) := by
  refine Ct.of np_RX12 (Nat.le_of_ble_eq_true rfl) ?_
  unfold F_X12_pour at hF
  show AW M_X12_pour 0 [(0, vr 161), (1, (0, a1)), (2, (0, a2)), (3, (0, a3)), (4, (0, a4)), (5, (0, a5))] [] h (qi Q)
  refine aw_iload_n (j := 1) (M := M_X12_pour) (pc := 0) dX12_pour_0 rfl rfl ?_
  refine aw_csi (as := [(0, a1)]) (st := []) (M := M_X12_pour) (pc := 1) (f_X12_isTray  hF) dX12_pour_1 rfl cy_X12_isTray ml_X12_102 (by decide) (by decide) (Nat.le_of_ble_eq_true rfl) (fun r2 h1 hF => ?_)
  refine aw_if_eq (tgt := 28) (M := M_X12_pour) (pc := 4) dX12_pour_4 rfl (fun hc => ?_) (fun hc => ?_)
  · have hF := hF.1 hc
    refine aw_aload_n (j := 0) (M := M_X12_pour) (pc := 28) dX12_pour_28 rfl rfl ?_
    refine aw_iconst (M := M_X12_pour) (pc := 29) dX12_pour_29 ⟨by decide, by decide⟩ ?_
    refine aw_cvi (as := [(0, 1)]) (st := []) (M := M_X12_pour) (pc := 30) (f_X12_is  hF) dX12_pour_30 rfl (Or.inl ⟨_, _, _, rfl, rfl⟩) cy_X12_is ml_X12_98 (by decide) (by decide) (Nat.le_of_ble_eq_true rfl) (fun r4 h3 hF => ?_)
    exact aw_iretz (M := M_X12_pour) (pc := 33) dX12_pour_33 rfl hF.1 ⟨_, rfl, hF.2⟩
  · have hF := hF.2 hc
    refine aw_iload_n (j := 3) (M := M_X12_pour) (pc := 7) dX12_pour_7 rfl rfl ?_
    refine aw_csi (as := [(0, a3)]) (st := []) (M := M_X12_pour) (pc := 8) (f_X12_isTray  hF) dX12_pour_8 rfl cy_X12_isTray ml_X12_102 (by decide) (by decide) (Nat.le_of_ble_eq_true rfl) (fun r6 h5 hF => ?_)
    refine aw_if_eq (tgt := 28) (M := M_X12_pour) (pc := 11) dX12_pour_11 rfl (fun hc => ?_) (fun hc => ?_)
    · have hF := hF.1 hc
      refine aw_aload_n (j := 0) (M := M_X12_pour) (pc := 28) dX12_pour_28 rfl rfl ?_
      refine aw_iconst (M := M_X12_pour) (pc := 29) dX12_pour_29 ⟨by decide, by decide⟩ ?_
      refine aw_cvi (as := [(0, 1)]) (st := []) (M := M_X12_pour) (pc := 30) (f_X12_is  hF) dX12_pour_30 rfl (Or.inl ⟨_, _, _, rfl, rfl⟩) cy_X12_is ml_X12_98 (by decide) (by decide) (Nat.le_of_ble_eq_true rfl) (fun r8 h7 hF => ?_)
      exact aw_iretz (M := M_X12_pour) (pc := 33) dX12_pour_33 rfl hF.1 ⟨_, rfl, hF.2⟩
    · have hF := hF.2 hc
      refine aw_iload_n (j := 2) (M := M_X12_pour) (pc := 14) dX12_pour_14 rfl rfl ?_
      refine aw_if_lt (tgt := 28) (M := M_X12_pour) (pc := 15) dX12_pour_15 rfl (fun hc => ?_) (fun hc => ?_)
      · have hF := hF.1 hc
        refine aw_aload_n (j := 0) (M := M_X12_pour) (pc := 28) dX12_pour_28 rfl rfl ?_
        refine aw_iconst (M := M_X12_pour) (pc := 29) dX12_pour_29 ⟨by decide, by decide⟩ ?_
        refine aw_cvi (as := [(0, 1)]) (st := []) (M := M_X12_pour) (pc := 30) (f_X12_is  hF) dX12_pour_30 rfl (Or.inl ⟨_, _, _, rfl, rfl⟩) cy_X12_is ml_X12_98 (by decide) (by decide) (Nat.le_of_ble_eq_true rfl) (fun r10 h9 hF => ?_)
        exact aw_iretz (M := M_X12_pour) (pc := 33) dX12_pour_33 rfl hF.1 ⟨_, rfl, hF.2⟩
      · have hF := hF.2 hc
        refine aw_iload (j := 4) (M := M_X12_pour) (pc := 18) dX12_pour_18  rfl ?_
        refine aw_if_lt (tgt := 28) (M := M_X12_pour) (pc := 20) dX12_pour_20 rfl (fun hc => ?_) (fun hc => ?_)
        · have hF := hF.1 hc
          refine aw_aload_n (j := 0) (M := M_X12_pour) (pc := 28) dX12_pour_28 rfl rfl ?_
          refine aw_iconst (M := M_X12_pour) (pc := 29) dX12_pour_29 ⟨by decide, by decide⟩ ?_
          refine aw_cvi (as := [(0, 1)]) (st := []) (M := M_X12_pour) (pc := 30) (f_X12_is  hF) dX12_pour_30 rfl (Or.inl ⟨_, _, _, rfl, rfl⟩) cy_X12_is ml_X12_98 (by decide) (by decide) (Nat.le_of_ble_eq_true rfl) (fun r12 h11 hF => ?_)
          exact aw_iretz (M := M_X12_pour) (pc := 33) dX12_pour_33 rfl hF.1 ⟨_, rfl, hF.2⟩
        · have hF := hF.2 hc
          refine aw_iload (j := 5) (M := M_X12_pour) (pc := 23) dX12_pour_23  rfl ?_
          refine aw_if_ge (tgt := 34) (M := M_X12_pour) (pc := 25) dX12_pour_25 rfl (fun hc => ?_) (fun hc => ?_)
          · have hF := hF.1 hc
            refine aw_aload_n (j := 0) (M := M_X12_pour) (pc := 34) dX12_pour_34 rfl rfl ?_
            refine gf_X12_24 (M := M_X12_pour) (pc := 35) rfl dX12_pour_35 rfl (r := 165) rfl ?_
            refine aw_iload_n (j := 1) (M := M_X12_pour) (pc := 38) dX12_pour_38 rfl rfl ?_
            obtain ⟨o14, hF⟩ := hF
            refine aw_iald (k := (a1).toNat) (M := M_X12_pour) (pc := 39) dX12_pour_39 rfl o14 rfl ?_
            refine aw_iconst (M := M_X12_pour) (pc := 40) dX12_pour_40 ⟨by decide, by decide⟩ ?_
            refine aw_icmp_eq (tgt := 54) (M := M_X12_pour) (pc := 41) dX12_pour_41 rfl (fun hc => ?_) (fun hc => ?_)
            · have hF := hF.1 hc
              refine aw_aload_n (j := 0) (M := M_X12_pour) (pc := 54) dX12_pour_54 rfl rfl ?_
              refine aw_iconst (M := M_X12_pour) (pc := 55) dX12_pour_55 ⟨by decide, by decide⟩ ?_
              refine aw_cvi (as := [(0, 2)]) (st := []) (M := M_X12_pour) (pc := 56) (f_X12_is  hF) dX12_pour_56 rfl (Or.inl ⟨_, _, _, rfl, rfl⟩) cy_X12_is ml_X12_98 (by decide) (by decide) (Nat.le_of_ble_eq_true rfl) (fun r16 h15 hF => ?_)
              exact aw_iretz (M := M_X12_pour) (pc := 59) dX12_pour_59 rfl hF.1 ⟨_, rfl, hF.2⟩
            · have hF := hF.2 hc
              refine aw_aload_n (j := 0) (M := M_X12_pour) (pc := 44) dX12_pour_44 rfl rfl ?_
              refine gf_X12_24 (M := M_X12_pour) (pc := 45) rfl dX12_pour_45 rfl (r := 165) rfl ?_
              refine aw_iload_n (j := 3) (M := M_X12_pour) (pc := 48) dX12_pour_48 rfl rfl ?_
              obtain ⟨o18, hF⟩ := hF
              refine aw_iald (k := (a3).toNat) (M := M_X12_pour) (pc := 49) dX12_pour_49 rfl o18 rfl ?_
              refine aw_iconst (M := M_X12_pour) (pc := 50) dX12_pour_50 ⟨by decide, by decide⟩ ?_
              refine aw_icmp_ne (tgt := 60) (M := M_X12_pour) (pc := 51) dX12_pour_51 rfl (fun hc => ?_) (fun hc => ?_)
              · have hF := hF.1 hc
                refine aw_aload_n (j := 0) (M := M_X12_pour) (pc := 60) dX12_pour_60 rfl rfl ?_
                refine gf_X12_21 (M := M_X12_pour) (pc := 61) rfl dX12_pour_61 rfl (r := 164) rfl ?_
                refine aw_iload_n (j := 1) (M := M_X12_pour) (pc := 64) dX12_pour_64 rfl rfl ?_
                refine aw_iald (k := (a1).toNat) (M := M_X12_pour) (pc := 65) dX12_pour_65 rfl o14 rfl ?_
                refine aw_aload_n (j := 0) (M := M_X12_pour) (pc := 66) dX12_pour_66 rfl rfl ?_
                refine gf_X12_21 (M := M_X12_pour) (pc := 67) rfl dX12_pour_67 rfl (r := 164) rfl ?_
                refine aw_iload_n (j := 3) (M := M_X12_pour) (pc := 70) dX12_pour_70 rfl rfl ?_
                refine aw_iald (k := (a3).toNat) (M := M_X12_pour) (pc := 71) dX12_pour_71 rfl o18 rfl ?_
                refine aw_icmp_eq (tgt := 82) (M := M_X12_pour) (pc := 72) dX12_pour_72 rfl (fun hc => ?_) (fun hc => ?_)
                · have hF := hF.1 hc
                  refine aw_iload (j := 5) (M := M_X12_pour) (pc := 82) dX12_pour_82  rfl ?_
                  refine aw_aload_n (j := 0) (M := M_X12_pour) (pc := 84) dX12_pour_84 rfl rfl ?_
                  refine gf_X12_24 (M := M_X12_pour) (pc := 85) rfl dX12_pour_85 rfl (r := 165) rfl ?_
                  refine aw_iload_n (j := 1) (M := M_X12_pour) (pc := 88) dX12_pour_88 rfl rfl ?_
                  refine aw_iald (k := (a1).toNat) (M := M_X12_pour) (pc := 89) dX12_pour_89 rfl o14 rfl ?_
                  refine aw_iload_n (j := 2) (M := M_X12_pour) (pc := 90) dX12_pour_90 rfl rfl ?_
                  obtain ⟨o22, hF⟩ := hF
                  refine aw_isub (M := M_X12_pour) (pc := 91) dX12_pour_91 rfl o22 ?_
                  refine aw_icmp_gt (tgt := 109) (M := M_X12_pour) (pc := 92) dX12_pour_92 rfl (fun hc => ?_) (fun hc => ?_)
                  · have hF := hF.1 hc
                    refine aw_aload_n (j := 0) (M := M_X12_pour) (pc := 109) dX12_pour_109 rfl rfl ?_
                    refine aw_iconst (M := M_X12_pour) (pc := 110) dX12_pour_110 ⟨by decide, by decide⟩ ?_
                    refine aw_cvi (as := [(0, 3)]) (st := []) (M := M_X12_pour) (pc := 111) (f_X12_is  hF) dX12_pour_111 rfl (Or.inl ⟨_, _, _, rfl, rfl⟩) cy_X12_is ml_X12_98 (by decide) (by decide) (Nat.le_of_ble_eq_true rfl) (fun r24 h23 hF => ?_)
                    exact aw_iretz (M := M_X12_pour) (pc := 114) dX12_pour_114 rfl hF.1 ⟨_, rfl, hF.2⟩
                  · have hF := hF.2 hc
                    refine aw_iload (j := 5) (M := M_X12_pour) (pc := 95) dX12_pour_95  rfl ?_
                    refine aw_aload_n (j := 0) (M := M_X12_pour) (pc := 97) dX12_pour_97 rfl rfl ?_
                    refine gf_X12_24 (M := M_X12_pour) (pc := 98) rfl dX12_pour_98 rfl (r := 165) rfl ?_
                    refine aw_iload_n (j := 3) (M := M_X12_pour) (pc := 101) dX12_pour_101 rfl rfl ?_
                    refine aw_iald (k := (a3).toNat) (M := M_X12_pour) (pc := 102) dX12_pour_102 rfl o18 rfl ?_
                    refine aw_iload (j := 4) (M := M_X12_pour) (pc := 103) dX12_pour_103  rfl ?_
                    obtain ⟨o26, hF⟩ := hF
                    refine aw_isub (M := M_X12_pour) (pc := 105) dX12_pour_105 rfl o26 ?_
                    refine aw_icmp_le (tgt := 115) (M := M_X12_pour) (pc := 106) dX12_pour_106 rfl (fun hc => ?_) (fun hc => ?_)
                    · have hF := hF.1 hc
                      refine aw_iconst (M := M_X12_pour) (pc := 115) dX12_pour_115 ⟨by decide, by decide⟩ ?_
                      refine aw_istore (ls' := [(6, (0, 0)), (0, vr 161), (1, (0, a1)), (2, (0, a2)), (3, (0, a3)), (4, (0, a4)), (5, (0, a5))]) (M := M_X12_pour) (pc := 116) dX12_pour_116  (by decide) rfl ?_
                      exact aw_ls [1, 2, 3, 4, 5, 6, 0] rfl hF
                    · have hF := hF.2 hc
                      refine aw_aload_n (j := 0) (M := M_X12_pour) (pc := 109) dX12_pour_109 rfl rfl ?_
                      refine aw_iconst (M := M_X12_pour) (pc := 110) dX12_pour_110 ⟨by decide, by decide⟩ ?_
                      refine aw_cvi (as := [(0, 3)]) (st := []) (M := M_X12_pour) (pc := 111) (f_X12_is  hF) dX12_pour_111 rfl (Or.inl ⟨_, _, _, rfl, rfl⟩) cy_X12_is ml_X12_98 (by decide) (by decide) (Nat.le_of_ble_eq_true rfl) (fun r28 h27 hF => ?_)
                      exact aw_iretz (M := M_X12_pour) (pc := 114) dX12_pour_114 rfl hF.1 ⟨_, rfl, hF.2⟩
                · have hF := hF.2 hc
                  refine aw_aload_n (j := 0) (M := M_X12_pour) (pc := 75) dX12_pour_75 rfl rfl ?_
                  refine aw_bipush (M := M_X12_pour) (pc := 76) dX12_pour_76 ⟨rfl, ⟨by decide, by decide⟩⟩ ?_
                  refine aw_cvi (as := [(0, 8)]) (st := []) (M := M_X12_pour) (pc := 78) (f_X12_is  hF) dX12_pour_78 rfl (Or.inl ⟨_, _, _, rfl, rfl⟩) cy_X12_is ml_X12_98 (by decide) (by decide) (Nat.le_of_ble_eq_true rfl) (fun r30 h29 hF => ?_)
                  exact aw_iretz (M := M_X12_pour) (pc := 81) dX12_pour_81 rfl hF.1 ⟨_, rfl, hF.2⟩
              · have hF := hF.2 hc
                refine aw_aload_n (j := 0) (M := M_X12_pour) (pc := 54) dX12_pour_54 rfl rfl ?_
                refine aw_iconst (M := M_X12_pour) (pc := 55) dX12_pour_55 ⟨by decide, by decide⟩ ?_
                refine aw_cvi (as := [(0, 2)]) (st := []) (M := M_X12_pour) (pc := 56) (f_X12_is  hF) dX12_pour_56 rfl (Or.inl ⟨_, _, _, rfl, rfl⟩) cy_X12_is ml_X12_98 (by decide) (by decide) (Nat.le_of_ble_eq_true rfl) (fun r32 h31 hF => ?_)
                exact aw_iretz (M := M_X12_pour) (pc := 59) dX12_pour_59 rfl hF.1 ⟨_, rfl, hF.2⟩
          · have hF := hF.2 hc
            refine aw_aload_n (j := 0) (M := M_X12_pour) (pc := 28) dX12_pour_28 rfl rfl ?_
            refine aw_iconst (M := M_X12_pour) (pc := 29) dX12_pour_29 ⟨by decide, by decide⟩ ?_
            refine aw_cvi (as := [(0, 1)]) (st := []) (M := M_X12_pour) (pc := 30) (f_X12_is  hF) dX12_pour_30 rfl (Or.inl ⟨_, _, _, rfl, rfl⟩) cy_X12_is ml_X12_98 (by decide) (by decide) (Nat.le_of_ble_eq_true rfl) (fun r34 h33 hF => ?_)
            exact aw_iretz (M := M_X12_pour) (pc := 33) dX12_pour_33 rfl hF.1 ⟨_, rfl, hF.2⟩
abbrev M_X12_quietIn : Hd := (cX12_quietIn, 3, RX12, (some .int), (8, 197), sc0)
def L_X12_quietIn_9 (h : Mem) (v1 : Int) (Q : Int → Mem → Prop) : Prop := AW M_X12_quietIn 9 [(0, vr 161), (1, (0, v1))] [] h (qi Q)
def J_X12_quietIn_41 (h : Mem) (v1 : Int) (Q : Int → Mem → Prop) : Prop :=
  (F_X12_thingsThat h 1 (fun r11 h10 => (F_X12_thingsThat h10 2 (fun r13 h12 => ((¬ ((ior r11 r13) = 0) → (F_X12_restores h12 2688 (fun h14 => (F_X12_refuse h14 6 (fun r17 h16 => Q r17 h16))))) ∧ ((ior r11 r13) = 0 → (F_X12_restores h12 2688 (fun h18 => (F_X12_gives h18 v1 (fun r21 h20 => Q r21 h20))))))))))
set_option maxRecDepth 100000 in
set_option maxHeartbeats 4000000 in
theorem j_X12_quietIn_41 {h : Mem} {v1 : Int} {Q : Int → Mem → Prop}  (hF : J_X12_quietIn_41 h v1 Q) : AW M_X12_quietIn 41 [(0, vr 161), (1, (0, v1))] [] h (qi Q) := by
  unfold J_X12_quietIn_41 at hF
  refine aw_aload_n (j := 0) (M := M_X12_quietIn) (pc := 41) dX12_quietIn_41 rfl rfl ?_
  refine aw_iconst (M := M_X12_quietIn) (pc := 42) dX12_quietIn_42 ⟨by decide, by decide⟩ ?_
  refine aw_cvi (as := [(0, 1)]) (st := []) (M := M_X12_quietIn) (pc := 43) (f_X12_thingsThat  hF) dX12_quietIn_43 rfl (Or.inl ⟨_, _, _, rfl, rfl⟩) cy_X12_thingsThat ml_X12_278 (by decide) (by decide) (Nat.le_of_ble_eq_true rfl) (fun r11 h10 hF => ?_)
  refine aw_aload_n (j := 0) (M := M_X12_quietIn) (pc := 46) dX12_quietIn_46 rfl rfl ?_
  refine aw_iconst (M := M_X12_quietIn) (pc := 47) dX12_quietIn_47 ⟨by decide, by decide⟩ ?_
  refine aw_cvi (as := [(0, 2)]) (st := [(0, r11)]) (M := M_X12_quietIn) (pc := 48) (f_X12_thingsThat  hF) dX12_quietIn_48 rfl (Or.inl ⟨_, _, _, rfl, rfl⟩) cy_X12_thingsThat ml_X12_278 (by decide) (by decide) (Nat.le_of_ble_eq_true rfl) (fun r13 h12 hF => ?_)
  refine aw_ior (M := M_X12_quietIn) (pc := 51) dX12_quietIn_51 ?_
  refine aw_if_ne (tgt := 59) (M := M_X12_quietIn) (pc := 52) dX12_quietIn_52 rfl (fun hc => ?_) (fun hc => ?_)
  · have hF := hF.1 hc
    refine aw_iconst (M := M_X12_quietIn) (pc := 59) dX12_quietIn_59 ⟨by decide, by decide⟩ ?_
    refine aw_istore_n (ls' := [(2, (0, 0)), (0, vr 161), (1, (0, v1))]) (M := M_X12_quietIn) (pc := 60) dX12_quietIn_60 rfl (by decide) rfl ?_
    refine aw_aload_n (j := 1) (M := M_X12_quietIn) (pc := 61) dX12_quietIn_61 rfl rfl ?_
    refine aw_sipush (M := M_X12_quietIn) (pc := 62) dX12_quietIn_62 ⟨rfl, ⟨by decide, by decide⟩⟩ ?_
    refine aw_cvv (as := [(0, 2688)]) (st := []) (M := M_X12_quietIn) (pc := 65) (f_X12_restores  hF) dX12_quietIn_65 rfl (Or.inl ⟨_, _, _, rfl, rfl⟩) cy_X12_restores ml_X12_353 (by decide) (by decide) (Nat.le_of_ble_eq_true rfl) (fun h14 hF => ?_)
    refine aw_iload_n (j := 0) (M := M_X12_quietIn) (pc := 68) dX12_quietIn_68 rfl rfl ?_
    refine aw_if_eq (tgt := 80) (M := M_X12_quietIn) (pc := 69) dX12_quietIn_69 rfl (fun hc => ?_) (fun hc => absurd hc (by decide))
    refine aw_aload_n (j := 1) (M := M_X12_quietIn) (pc := 80) dX12_quietIn_80 rfl rfl ?_
    refine aw_bipush (M := M_X12_quietIn) (pc := 81) dX12_quietIn_81 ⟨rfl, ⟨by decide, by decide⟩⟩ ?_
    refine aw_cvi (as := [(0, 6)]) (st := []) (M := M_X12_quietIn) (pc := 83) (f_X12_refuse  hF) dX12_quietIn_83 rfl (Or.inl ⟨_, _, _, rfl, rfl⟩) cy_X12_refuse ml_X12_91 (by decide) (by decide) (Nat.le_of_ble_eq_true rfl) (fun r17 h16 hF => ?_)
    exact aw_ireti (M := M_X12_quietIn) (pc := 86) dX12_quietIn_86 rfl ⟨_, rfl, hF⟩
  · have hF := hF.2 hc
    refine aw_iconst (M := M_X12_quietIn) (pc := 55) dX12_quietIn_55 ⟨by decide, by decide⟩ ?_
    refine aw_goto (tgt := 60) (M := M_X12_quietIn) (pc := 56) dX12_quietIn_56 rfl ?_
    refine aw_istore_n (ls' := [(2, (0, 1)), (0, vr 161), (1, (0, v1))]) (M := M_X12_quietIn) (pc := 60) dX12_quietIn_60 rfl (by decide) rfl ?_
    refine aw_aload_n (j := 1) (M := M_X12_quietIn) (pc := 61) dX12_quietIn_61 rfl rfl ?_
    refine aw_sipush (M := M_X12_quietIn) (pc := 62) dX12_quietIn_62 ⟨rfl, ⟨by decide, by decide⟩⟩ ?_
    refine aw_cvv (as := [(0, 2688)]) (st := []) (M := M_X12_quietIn) (pc := 65) (f_X12_restores  hF) dX12_quietIn_65 rfl (Or.inl ⟨_, _, _, rfl, rfl⟩) cy_X12_restores ml_X12_353 (by decide) (by decide) (Nat.le_of_ble_eq_true rfl) (fun h18 hF => ?_)
    refine aw_iload_n (j := 0) (M := M_X12_quietIn) (pc := 68) dX12_quietIn_68 rfl rfl ?_
    refine aw_if_eq (tgt := 80) (M := M_X12_quietIn) (pc := 69) dX12_quietIn_69 rfl (fun hc => absurd hc (by decide)) (fun hc => ?_)
    refine aw_aload_n (j := 1) (M := M_X12_quietIn) (pc := 72) dX12_quietIn_72 rfl rfl ?_
    refine aw_iload_n (j := 2) (M := M_X12_quietIn) (pc := 73) dX12_quietIn_73 rfl rfl ?_
    refine aw_cvi (as := [(0, v1)]) (st := []) (M := M_X12_quietIn) (pc := 74) (f_X12_gives  hF) dX12_quietIn_74 rfl (Or.inl ⟨_, _, _, rfl, rfl⟩) cy_X12_gives ml_X12_95 (by decide) (by decide) (Nat.le_of_ble_eq_true rfl) (fun r21 h20 hF => ?_)
    refine aw_goto (tgt := 86) (M := M_X12_quietIn) (pc := 77) dX12_quietIn_77 rfl ?_
    exact aw_ireti (M := M_X12_quietIn) (pc := 86) dX12_quietIn_86 rfl ⟨_, rfl, hF⟩
def B_X12_quietIn_9 (h : Mem) (v1 : Int) (Q : Int → Mem → Prop) : Prop :=
  ((400 ≤ v1 → J_X12_quietIn_41 h v1 Q) ∧ (¬ (400 ≤ v1) → (F_X12_thingsThat h 1 (fun r4 h3 => (F_X12_thingsThat h3 2 (fun r6 h5 => (((ior r4 r6) = 0 → J_X12_quietIn_41 h5 v1 Q) ∧ (¬ ((ior r4 r6) = 0) → (F_X12_hourGoes h5  (fun r8 h7 => (InR (v1 + 1) ∧ L_X12_quietIn_9 h7 (v1 + 1) Q)))))))))))
set_option maxRecDepth 100000 in
set_option maxHeartbeats 4000000 in
theorem l_X12_quietIn_9 {h : Mem} {v1 : Int} {Q : Int → Mem → Prop}  (hF : B_X12_quietIn_9 h v1 Q) : L_X12_quietIn_9 h v1 Q := by
  unfold B_X12_quietIn_9 at hF
  show AW M_X12_quietIn 9 [(0, vr 161), (1, (0, v1))] [] h (qi Q)
  refine aw_iload_n (j := 1) (M := M_X12_quietIn) (pc := 9) dX12_quietIn_9 rfl rfl ?_
  refine aw_sipush (M := M_X12_quietIn) (pc := 10) dX12_quietIn_10 ⟨rfl, ⟨by decide, by decide⟩⟩ ?_
  refine aw_icmp_ge (tgt := 41) (M := M_X12_quietIn) (pc := 13) dX12_quietIn_13 rfl (fun hc => ?_) (fun hc => ?_)
  · have hF := hF.1 hc
    exact aw_ls [0, 1] rfl (j_X12_quietIn_41  hF)
  · have hF := hF.2 hc
    refine aw_aload_n (j := 0) (M := M_X12_quietIn) (pc := 16) dX12_quietIn_16 rfl rfl ?_
    refine aw_iconst (M := M_X12_quietIn) (pc := 17) dX12_quietIn_17 ⟨by decide, by decide⟩ ?_
    refine aw_cvi (as := [(0, 1)]) (st := []) (M := M_X12_quietIn) (pc := 18) (f_X12_thingsThat  hF) dX12_quietIn_18 rfl (Or.inl ⟨_, _, _, rfl, rfl⟩) cy_X12_thingsThat ml_X12_278 (by decide) (by decide) (Nat.le_of_ble_eq_true rfl) (fun r4 h3 hF => ?_)
    refine aw_aload_n (j := 0) (M := M_X12_quietIn) (pc := 21) dX12_quietIn_21 rfl rfl ?_
    refine aw_iconst (M := M_X12_quietIn) (pc := 22) dX12_quietIn_22 ⟨by decide, by decide⟩ ?_
    refine aw_cvi (as := [(0, 2)]) (st := [(0, r4)]) (M := M_X12_quietIn) (pc := 23) (f_X12_thingsThat  hF) dX12_quietIn_23 rfl (Or.inl ⟨_, _, _, rfl, rfl⟩) cy_X12_thingsThat ml_X12_278 (by decide) (by decide) (Nat.le_of_ble_eq_true rfl) (fun r6 h5 hF => ?_)
    refine aw_ior (M := M_X12_quietIn) (pc := 26) dX12_quietIn_26 ?_
    refine aw_if_eq (tgt := 41) (M := M_X12_quietIn) (pc := 27) dX12_quietIn_27 rfl (fun hc => ?_) (fun hc => ?_)
    · have hF := hF.1 hc
      exact aw_ls [0, 1] rfl (j_X12_quietIn_41  hF)
    · have hF := hF.2 hc
      refine aw_aload_n (j := 0) (M := M_X12_quietIn) (pc := 30) dX12_quietIn_30 rfl rfl ?_
      refine aw_cvi (as := []) (st := []) (M := M_X12_quietIn) (pc := 31) (f_X12_hourGoes  hF) dX12_quietIn_31 rfl (Or.inl ⟨_, _, _, rfl, rfl⟩) cy_X12_hourGoes ml_X12_311 (by decide) (by decide) (Nat.le_of_ble_eq_true rfl) (fun r8 h7 hF => ?_)
      refine aw_pop (M := M_X12_quietIn) (pc := 34) dX12_quietIn_34 rfl ?_
      obtain ⟨o9, hF⟩ := hF
      refine aw_iinc (j := 1) (x := v1) (r := v1 + 1) (ls' := [(1, (0, v1 + 1)), (0, vr 161)]) (M := M_X12_quietIn) (pc := 35) dX12_quietIn_35 rfl rfl o9 (by decide) rfl ?_
      refine aw_goto (tgt := 9) (M := M_X12_quietIn) (pc := 38) dX12_quietIn_38 rfl ?_
      exact aw_ls [1, 0] rfl hF
def F_X12_quietIn (h : Mem)  (Q : Int → Mem → Prop) : Prop :=
  (F_X12_keeps h 2688 (fun h1 => L_X12_quietIn_9 h1 0 Q))
set_option maxRecDepth 100000 in
set_option maxHeartbeats 4000000 in
theorem f_X12_quietIn {h : Mem}  {Q : Int → Mem → Prop}  (hF : F_X12_quietIn h  Q) : Ct yX12_quietIn cX12_quietIn 3 (some .int) (8, 197) [vr 161] h (qi Q) := by
  refine Ct.of np_RX12 (Nat.le_of_ble_eq_true rfl) ?_
  unfold F_X12_quietIn at hF
  show AW M_X12_quietIn 0 [(0, vr 161)] [] h (qi Q)
  refine aw_aload_n (j := 0) (M := M_X12_quietIn) (pc := 0) dX12_quietIn_0 rfl rfl ?_
  refine aw_sipush (M := M_X12_quietIn) (pc := 1) dX12_quietIn_1 ⟨rfl, ⟨by decide, by decide⟩⟩ ?_
  refine aw_cvv (as := [(0, 2688)]) (st := []) (M := M_X12_quietIn) (pc := 4) (f_X12_keeps  hF) dX12_quietIn_4 rfl (Or.inl ⟨_, _, _, rfl, rfl⟩) cy_X12_keeps ml_X12_350 (by decide) (by decide) (Nat.le_of_ble_eq_true rfl) (fun h1 hF => ?_)
  refine aw_iconst (M := M_X12_quietIn) (pc := 7) dX12_quietIn_7 ⟨by decide, by decide⟩ ?_
  refine aw_istore_n (ls' := [(1, (0, 0)), (0, vr 161)]) (M := M_X12_quietIn) (pc := 8) dX12_quietIn_8 rfl (by decide) rfl ?_
  exact aw_ls [1, 0] rfl hF
abbrev M_X12_rain : Hd := (cX12_rain, 8, RX12, (some .boolean), (3, 96), sc0)
def L_X12_rain_35 (h : Mem) (v1 : Int) (v2 : Int) (v3 : Int) (v5 : Int) (Q : Int → Mem → Prop) : Prop := AW M_X12_rain 35 [(0, vr 161), (1, (0, v1)), (2, (0, v2)), (3, (1, v3)), (5, (0, v5))] [] h (qi Q)
def L_X12_rain_68 (h : Mem) (v1 : Int) (v2 : Int) (v3 : Int) (v5 : Int) (Q : Int → Mem → Prop) : Prop := AW M_X12_rain 68 [(0, vr 161), (1, (0, v1)), (2, (0, v2)), (3, (1, v3)), (5, (0, v5))] [] h (qi Q)
def L_X12_rain_78 (h : Mem) (v1 : Int) (v2 : Int) (v3 : Int) (v5 : Int) (v6 : Int) (Q : Int → Mem → Prop) : Prop := AW M_X12_rain 78 [(0, vr 161), (1, (0, v1)), (2, (0, v2)), (3, (1, v3)), (5, (0, v5)), (6, (0, v6))] [] h (qi Q)
def L_X12_rain_159 (h : Mem) (v3 : Int) (v5 : Int) (v7 : Int) (Q : Int → Mem → Prop) : Prop := AW M_X12_rain 159 [(0, vr 161), (3, (1, v3)), (5, (1, v5)), (7, (0, v7))] [] h (qi Q)
def B_X12_rain_35 (h : Mem) (v1 : Int) (v2 : Int) (v3 : Int) (v5 : Int) (Q : Int → Mem → Prop) : Prop :=
  ((13 ≤ v5 → L_X12_rain_68 h v1 v2 v3 0 Q) ∧ (¬ (13 ≤ v5) → ((¬ (v5 = 0) → ((0 ≤ v5 ∧ v5 < 13) ∧ (∀ h10 : Mem, h10 = mset h 177 (v5).toNat 0 → (InR (v5 + 1) ∧ L_X12_rain_35 h10 v1 v2 v3 (v5 + 1) Q)))) ∧ (v5 = 0 → ((0 ≤ v5 ∧ v5 < 13) ∧ (∀ h13 : Mem, h13 = mset h 177 (v5).toNat 1 → (InR (v5 + 1) ∧ L_X12_rain_35 h13 v1 v2 v3 (v5 + 1) Q)))))))
set_option maxRecDepth 100000 in
set_option maxHeartbeats 4000000 in
theorem l_X12_rain_35 {h : Mem} {v1 : Int} {v2 : Int} {v3 : Int} {v5 : Int} {Q : Int → Mem → Prop}  (hF : B_X12_rain_35 h v1 v2 v3 v5 Q) : L_X12_rain_35 h v1 v2 v3 v5 Q := by
  unfold B_X12_rain_35 at hF
  show AW M_X12_rain 35 [(0, vr 161), (1, (0, v1)), (2, (0, v2)), (3, (1, v3)), (5, (0, v5))] [] h (qi Q)
  refine aw_iload (j := 4) (M := M_X12_rain) (pc := 35) dX12_rain_35  rfl ?_
  refine aw_bipush (M := M_X12_rain) (pc := 37) dX12_rain_37 ⟨rfl, ⟨by decide, by decide⟩⟩ ?_
  refine aw_icmp_ge (tgt := 65) (M := M_X12_rain) (pc := 39) dX12_rain_39 rfl (fun hc => ?_) (fun hc => ?_)
  · have hF := hF.1 hc
    refine aw_iconst (M := M_X12_rain) (pc := 65) dX12_rain_65 ⟨by decide, by decide⟩ ?_
    refine aw_istore (ls' := [(5, (0, 0)), (0, vr 161), (1, (0, v1)), (2, (0, v2)), (3, (1, v3))]) (M := M_X12_rain) (pc := 66) dX12_rain_66  (by decide) rfl ?_
    exact aw_ls [1, 2, 3, 4, 0] rfl hF
  · have hF := hF.2 hc
    refine aw_aload_n (j := 0) (M := M_X12_rain) (pc := 42) dX12_rain_42 rfl rfl ?_
    refine gf_X12_69 (M := M_X12_rain) (pc := 43) rfl dX12_rain_43 rfl (r := 177) rfl ?_
    refine aw_iload (j := 4) (M := M_X12_rain) (pc := 46) dX12_rain_46  rfl ?_
    refine aw_iload (j := 4) (M := M_X12_rain) (pc := 48) dX12_rain_48  rfl ?_
    refine aw_if_ne (tgt := 57) (M := M_X12_rain) (pc := 50) dX12_rain_50 rfl (fun hc => ?_) (fun hc => ?_)
    · have hF := hF.1 hc
      refine aw_lconst (v := 0) (M := M_X12_rain) (pc := 57) dX12_rain_57 ⟨rfl, ⟨by decide, by decide⟩⟩ ?_
      obtain ⟨o9, hF⟩ := hF
      refine aw_last (k := (v5).toNat) (M := M_X12_rain) (pc := 58) dX12_rain_58 rfl o9 rfl ?_
      obtain ⟨h10, eh10⟩ : ∃ y : Mem, y = mset h 177 (v5).toNat 0 := ⟨_, rfl⟩
      have hF := hF h10 eh10
      rw [← eh10]
      obtain ⟨o11, hF⟩ := hF
      refine aw_iinc (j := 4) (x := v5) (r := v5 + 1) (ls' := [(5, (0, v5 + 1)), (0, vr 161), (1, (0, v1)), (2, (0, v2)), (3, (1, v3))]) (M := M_X12_rain) (pc := 59) dX12_rain_59 rfl rfl o11 (by decide) rfl ?_
      refine aw_goto (tgt := 35) (M := M_X12_rain) (pc := 62) dX12_rain_62 rfl ?_
      exact aw_ls [1, 2, 3, 4, 0] rfl hF
    · have hF := hF.2 hc
      refine aw_lconst (v := 1) (M := M_X12_rain) (pc := 53) dX12_rain_53 ⟨rfl, ⟨by decide, by decide⟩⟩ ?_
      refine aw_goto (tgt := 58) (M := M_X12_rain) (pc := 54) dX12_rain_54 rfl ?_
      obtain ⟨o12, hF⟩ := hF
      refine aw_last (k := (v5).toNat) (M := M_X12_rain) (pc := 58) dX12_rain_58 rfl o12 rfl ?_
      obtain ⟨h13, eh13⟩ : ∃ y : Mem, y = mset h 177 (v5).toNat 1 := ⟨_, rfl⟩
      have hF := hF h13 eh13
      rw [← eh13]
      obtain ⟨o14, hF⟩ := hF
      refine aw_iinc (j := 4) (x := v5) (r := v5 + 1) (ls' := [(5, (0, v5 + 1)), (0, vr 161), (1, (0, v1)), (2, (0, v2)), (3, (1, v3))]) (M := M_X12_rain) (pc := 59) dX12_rain_59 rfl rfl o14 (by decide) rfl ?_
      refine aw_goto (tgt := 35) (M := M_X12_rain) (pc := 62) dX12_rain_62 rfl ?_
      exact aw_ls [1, 2, 3, 4, 0] rfl hF
def B_X12_rain_68 (h : Mem) (v1 : Int) (v2 : Int) (v3 : Int) (v5 : Int) (Q : Int → Mem → Prop) : Prop :=
  ((v1 ≤ v5 → L_X12_rain_159 h v3 0 v2 Q) ∧ (¬ (v1 ≤ v5) → L_X12_rain_78 h v1 v2 v3 v5 12 Q))
set_option maxRecDepth 100000 in
set_option maxHeartbeats 4000000 in
theorem l_X12_rain_68 {h : Mem} {v1 : Int} {v2 : Int} {v3 : Int} {v5 : Int} {Q : Int → Mem → Prop}  (hF : B_X12_rain_68 h v1 v2 v3 v5 Q) : L_X12_rain_68 h v1 v2 v3 v5 Q := by
  unfold B_X12_rain_68 at hF
  show AW M_X12_rain 68 [(0, vr 161), (1, (0, v1)), (2, (0, v2)), (3, (1, v3)), (5, (0, v5))] [] h (qi Q)
  refine aw_iload (j := 4) (M := M_X12_rain) (pc := 68) dX12_rain_68  rfl ?_
  refine aw_iload_n (j := 1) (M := M_X12_rain) (pc := 70) dX12_rain_70 rfl rfl ?_
  refine aw_icmp_ge (tgt := 153) (M := M_X12_rain) (pc := 71) dX12_rain_71 rfl (fun hc => ?_) (fun hc => ?_)
  · have hF := hF.1 hc
    refine aw_lconst (v := 0) (M := M_X12_rain) (pc := 153) dX12_rain_153 ⟨rfl, ⟨by decide, by decide⟩⟩ ?_
    refine aw_lstore (ls' := [(5, (1, 0)), (0, vr 161), (1, (0, v1)), (2, (0, v2)), (3, (1, v3))]) (M := M_X12_rain) (pc := 154) dX12_rain_154  (by decide) rfl ?_
    refine aw_iload_n (j := 3) (M := M_X12_rain) (pc := 156) dX12_rain_156 rfl rfl ?_
    refine aw_istore (ls' := [(7, (0, v2)), (5, (1, 0)), (0, vr 161), (1, (0, v1)), (2, (0, v2)), (3, (1, v3))]) (M := M_X12_rain) (pc := 157) dX12_rain_157  (by decide) rfl ?_
    exact aw_ls [2, 5, 1, 0] rfl hF
  · have hF := hF.2 hc
    refine aw_bipush (M := M_X12_rain) (pc := 74) dX12_rain_74 ⟨rfl, ⟨by decide, by decide⟩⟩ ?_
    refine aw_istore (ls' := [(6, (0, 12)), (0, vr 161), (1, (0, v1)), (2, (0, v2)), (3, (1, v3)), (5, (0, v5))]) (M := M_X12_rain) (pc := 76) dX12_rain_76  (by decide) rfl ?_
    exact aw_ls [1, 2, 3, 4, 5, 0] rfl hF
def B_X12_rain_78 (h : Mem) (v1 : Int) (v2 : Int) (v3 : Int) (v5 : Int) (v6 : Int) (Q : Int → Mem → Prop) : Prop :=
  ((v6 < 0 → (InL (v3 * 16) ∧ (InR (v5 + 1) ∧ L_X12_rain_68 h v1 v2 (v3 * 16) (v5 + 1) Q))) ∧ (¬ (v6 < 0) → ((0 ≤ v6 ∧ v6 < 13) ∧ (InR (16 - (h 162 4)) ∧ (InL ((h 177 (v6).toNat) * (16 - (h 162 4))) ∧ ((¬ (v6 = 0) → (InR (v6 - 1) ∧ ((0 ≤ (v6 - 1) ∧ (v6 - 1) < 13) ∧ (InL ((h 177 (v6 - 1).toNat) * (h 162 4)) ∧ (InL (((h 177 (v6).toNat) * (16 - (h 162 4))) + ((h 177 (v6 - 1).toNat) * (h 162 4))) ∧ (∀ h35 : Mem, h35 = mset h 177 (v6).toNat (((h 177 (v6).toNat) * (16 - (h 162 4))) + ((h 177 (v6 - 1).toNat) * (h 162 4))) → (InR (v6 + (-1)) ∧ L_X12_rain_78 h35 v1 v2 v3 v5 (v6 + (-1)) Q))))))) ∧ (v6 = 0 → (∀ h37 : Mem, h37 = mset h 177 (v6).toNat ((h 177 (v6).toNat) * (16 - (h 162 4))) → (InR (v6 + (-1)) ∧ L_X12_rain_78 h37 v1 v2 v3 v5 (v6 + (-1)) Q)))))))))
set_option maxRecDepth 100000 in
set_option maxHeartbeats 4000000 in
theorem l_X12_rain_78 {h : Mem} {v1 : Int} {v2 : Int} {v3 : Int} {v5 : Int} {v6 : Int} {Q : Int → Mem → Prop}  (hF : B_X12_rain_78 h v1 v2 v3 v5 v6 Q) : L_X12_rain_78 h v1 v2 v3 v5 v6 Q := by
  unfold B_X12_rain_78 at hF
  show AW M_X12_rain 78 [(0, vr 161), (1, (0, v1)), (2, (0, v2)), (3, (1, v3)), (5, (0, v5)), (6, (0, v6))] [] h (qi Q)
  refine aw_iload (j := 5) (M := M_X12_rain) (pc := 78) dX12_rain_78  rfl ?_
  refine aw_if_lt (tgt := 141) (M := M_X12_rain) (pc := 80) dX12_rain_80 rfl (fun hc => ?_) (fun hc => ?_)
  · have hF := hF.1 hc
    refine aw_lload_n (j := 3) (M := M_X12_rain) (pc := 141) dX12_rain_141 rfl rfl ?_
    refine aw_ldc2 (v := 16) (M := M_X12_rain) (pc := 142) dX12_rain_142 kl_X12_343 ⟨by decide, by decide⟩ ?_
    obtain ⟨o22, hF⟩ := hF
    refine aw_lmul (M := M_X12_rain) (pc := 145) dX12_rain_145 rfl o22 ?_
    refine aw_lstore_n (ls' := [(3, (1, v3 * 16)), (0, vr 161), (1, (0, v1)), (2, (0, v2)), (5, (0, v5)), (6, (0, v6))]) (M := M_X12_rain) (pc := 146) dX12_rain_146 rfl (by decide) rfl ?_
    obtain ⟨o23, hF⟩ := hF
    refine aw_iinc (j := 4) (x := v5) (r := v5 + 1) (ls' := [(5, (0, v5 + 1)), (3, (1, v3 * 16)), (0, vr 161), (1, (0, v1)), (2, (0, v2)), (6, (0, v6))]) (M := M_X12_rain) (pc := 147) dX12_rain_147 rfl rfl o23 (by decide) rfl ?_
    refine aw_goto (tgt := 68) (M := M_X12_rain) (pc := 150) dX12_rain_150 rfl ?_
    exact aw_ls [2, 3, 4, 1, 0] rfl hF
  · have hF := hF.2 hc
    refine aw_aload_n (j := 0) (M := M_X12_rain) (pc := 83) dX12_rain_83 rfl rfl ?_
    refine gf_X12_69 (M := M_X12_rain) (pc := 84) rfl dX12_rain_84 rfl (r := 177) rfl ?_
    refine aw_iload (j := 5) (M := M_X12_rain) (pc := 87) dX12_rain_87  rfl ?_
    refine aw_aload_n (j := 0) (M := M_X12_rain) (pc := 89) dX12_rain_89 rfl rfl ?_
    refine gf_X12_69 (M := M_X12_rain) (pc := 90) rfl dX12_rain_90 rfl (r := 177) rfl ?_
    refine aw_iload (j := 5) (M := M_X12_rain) (pc := 93) dX12_rain_93  rfl ?_
    obtain ⟨o25, hF⟩ := hF
    refine aw_lald (k := (v6).toNat) (M := M_X12_rain) (pc := 95) dX12_rain_95 rfl o25 rfl ?_
    refine aw_bipush (M := M_X12_rain) (pc := 96) dX12_rain_96 ⟨rfl, ⟨by decide, by decide⟩⟩ ?_
    refine aw_aload_n (j := 0) (M := M_X12_rain) (pc := 98) dX12_rain_98 rfl rfl ?_
    refine gf_X12_7 (M := M_X12_rain) (pc := 99) rfl dX12_rain_99 rfl (r := 162) rfl ?_
    refine aw_iconst (M := M_X12_rain) (pc := 102) dX12_rain_102 ⟨by decide, by decide⟩ ?_
    refine aw_iald (k := 4) (M := M_X12_rain) (pc := 103) dX12_rain_103 rfl ⟨by decide, by decide⟩ rfl ?_
    obtain ⟨o27, hF⟩ := hF
    refine aw_isub (M := M_X12_rain) (pc := 104) dX12_rain_104 rfl o27 ?_
    refine aw_i2l (M := M_X12_rain) (pc := 105) dX12_rain_105 ?_
    obtain ⟨o28, hF⟩ := hF
    refine aw_lmul (M := M_X12_rain) (pc := 106) dX12_rain_106 rfl o28 ?_
    refine aw_iload (j := 5) (M := M_X12_rain) (pc := 107) dX12_rain_107  rfl ?_
    refine aw_if_ne (tgt := 116) (M := M_X12_rain) (pc := 109) dX12_rain_109 rfl (fun hc => ?_) (fun hc => ?_)
    · have hF := hF.1 hc
      refine aw_aload_n (j := 0) (M := M_X12_rain) (pc := 116) dX12_rain_116 rfl rfl ?_
      refine gf_X12_69 (M := M_X12_rain) (pc := 117) rfl dX12_rain_117 rfl (r := 177) rfl ?_
      refine aw_iload (j := 5) (M := M_X12_rain) (pc := 120) dX12_rain_120  rfl ?_
      refine aw_iconst (M := M_X12_rain) (pc := 122) dX12_rain_122 ⟨by decide, by decide⟩ ?_
      obtain ⟨o29, hF⟩ := hF
      refine aw_isub (M := M_X12_rain) (pc := 123) dX12_rain_123 rfl o29 ?_
      obtain ⟨o31, hF⟩ := hF
      refine aw_lald (k := (v6 - 1).toNat) (M := M_X12_rain) (pc := 124) dX12_rain_124 rfl o31 rfl ?_
      refine aw_aload_n (j := 0) (M := M_X12_rain) (pc := 125) dX12_rain_125 rfl rfl ?_
      refine gf_X12_7 (M := M_X12_rain) (pc := 126) rfl dX12_rain_126 rfl (r := 162) rfl ?_
      refine aw_iconst (M := M_X12_rain) (pc := 129) dX12_rain_129 ⟨by decide, by decide⟩ ?_
      refine aw_iald (k := 4) (M := M_X12_rain) (pc := 130) dX12_rain_130 rfl ⟨by decide, by decide⟩ rfl ?_
      refine aw_i2l (M := M_X12_rain) (pc := 131) dX12_rain_131 ?_
      obtain ⟨o33, hF⟩ := hF
      refine aw_lmul (M := M_X12_rain) (pc := 132) dX12_rain_132 rfl o33 ?_
      obtain ⟨o34, hF⟩ := hF
      refine aw_ladd (M := M_X12_rain) (pc := 133) dX12_rain_133 rfl o34 ?_
      refine aw_last (k := (v6).toNat) (M := M_X12_rain) (pc := 134) dX12_rain_134 rfl o25 rfl ?_
      obtain ⟨h35, eh35⟩ : ∃ y : Mem, y = mset h 177 (v6).toNat (((h 177 (v6).toNat) * (16 - (h 162 4))) + ((h 177 (v6 - 1).toNat) * (h 162 4))) := ⟨_, rfl⟩
      have hF := hF h35 eh35
      rw [← eh35]
      obtain ⟨o36, hF⟩ := hF
      refine aw_iinc (j := 5) (x := v6) (r := v6 + (-1)) (ls' := [(6, (0, v6 + (-1))), (0, vr 161), (1, (0, v1)), (2, (0, v2)), (3, (1, v3)), (5, (0, v5))]) (M := M_X12_rain) (pc := 135) dX12_rain_135 rfl rfl o36 (by decide) rfl ?_
      refine aw_goto (tgt := 78) (M := M_X12_rain) (pc := 138) dX12_rain_138 rfl ?_
      exact aw_ls [1, 2, 3, 4, 5, 0] rfl hF
    · have hF := hF.2 hc
      refine aw_lconst (v := 0) (M := M_X12_rain) (pc := 112) dX12_rain_112 ⟨rfl, ⟨by decide, by decide⟩⟩ ?_
      refine aw_goto (tgt := 133) (M := M_X12_rain) (pc := 113) dX12_rain_113 rfl ?_
      refine aw_ladd (r := (h 177 (v6).toNat) * (16 - (h 162 4))) (M := M_X12_rain) (pc := 133) dX12_rain_133 (Int.add_zero _) o28 ?_
      refine aw_last (k := (v6).toNat) (M := M_X12_rain) (pc := 134) dX12_rain_134 rfl o25 rfl ?_
      obtain ⟨h37, eh37⟩ : ∃ y : Mem, y = mset h 177 (v6).toNat ((h 177 (v6).toNat) * (16 - (h 162 4))) := ⟨_, rfl⟩
      have hF := hF h37 eh37
      rw [← eh37]
      obtain ⟨o38, hF⟩ := hF
      refine aw_iinc (j := 5) (x := v6) (r := v6 + (-1)) (ls' := [(6, (0, v6 + (-1))), (0, vr 161), (1, (0, v1)), (2, (0, v2)), (3, (1, v3)), (5, (0, v5))]) (M := M_X12_rain) (pc := 135) dX12_rain_135 rfl rfl o38 (by decide) rfl ?_
      refine aw_goto (tgt := 78) (M := M_X12_rain) (pc := 138) dX12_rain_138 rfl ?_
      exact aw_ls [1, 2, 3, 4, 5, 0] rfl hF
def B_X12_rain_159 (h : Mem) (v3 : Int) (v5 : Int) (v7 : Int) (Q : Int → Mem → Prop) : Prop :=
  ((13 ≤ v7 → (F_X12_tellsBy h v5 v3 (fun r16 h15 => (InZ r16 ∧ Q r16 h15)))) ∧ (¬ (13 ≤ v7) → ((0 ≤ v7 ∧ v7 < 13) ∧ (InL (v5 + (h 177 (v7).toNat)) ∧ (∀ x20 : Int, x20 = v5 + (h 177 (v7).toNat) → (InR (v7 + 1) ∧ L_X12_rain_159 h v3 x20 (v7 + 1) Q))))))
set_option maxRecDepth 100000 in
set_option maxHeartbeats 4000000 in
theorem l_X12_rain_159 {h : Mem} {v3 : Int} {v5 : Int} {v7 : Int} {Q : Int → Mem → Prop}  (hF : B_X12_rain_159 h v3 v5 v7 Q) : L_X12_rain_159 h v3 v5 v7 Q := by
  unfold B_X12_rain_159 at hF
  show AW M_X12_rain 159 [(0, vr 161), (3, (1, v3)), (5, (1, v5)), (7, (0, v7))] [] h (qi Q)
  refine aw_iload (j := 3) (M := M_X12_rain) (pc := 159) dX12_rain_159  rfl ?_
  refine aw_bipush (M := M_X12_rain) (pc := 161) dX12_rain_161 ⟨rfl, ⟨by decide, by decide⟩⟩ ?_
  refine aw_icmp_ge (tgt := 184) (M := M_X12_rain) (pc := 163) dX12_rain_163 rfl (fun hc => ?_) (fun hc => ?_)
  · have hF := hF.1 hc
    refine aw_aload_n (j := 0) (M := M_X12_rain) (pc := 184) dX12_rain_184 rfl rfl ?_
    refine aw_lload (j := 2) (M := M_X12_rain) (pc := 185) dX12_rain_185  rfl ?_
    refine aw_lload_n (j := 1) (M := M_X12_rain) (pc := 187) dX12_rain_187 rfl rfl ?_
    refine aw_cvi (as := [(1, v5), (1, v3)]) (st := []) (M := M_X12_rain) (pc := 188) (f_X12_tellsBy  hF) dX12_rain_188 rfl (Or.inl ⟨_, _, _, rfl, rfl⟩) cy_X12_tellsBy ml_X12_440 (by decide) (by decide) (Nat.le_of_ble_eq_true rfl) (fun r16 h15 hF => ?_)
    exact aw_iretz (M := M_X12_rain) (pc := 191) dX12_rain_191 rfl hF.1 ⟨_, rfl, hF.2⟩
  · have hF := hF.2 hc
    refine aw_lload (j := 2) (M := M_X12_rain) (pc := 166) dX12_rain_166  rfl ?_
    refine aw_aload_n (j := 0) (M := M_X12_rain) (pc := 168) dX12_rain_168 rfl rfl ?_
    refine gf_X12_69 (M := M_X12_rain) (pc := 169) rfl dX12_rain_169 rfl (r := 177) rfl ?_
    refine aw_iload (j := 3) (M := M_X12_rain) (pc := 172) dX12_rain_172  rfl ?_
    obtain ⟨o18, hF⟩ := hF
    refine aw_lald (k := (v7).toNat) (M := M_X12_rain) (pc := 174) dX12_rain_174 rfl o18 rfl ?_
    obtain ⟨o19, hF⟩ := hF
    refine aw_ladd (M := M_X12_rain) (pc := 175) dX12_rain_175 rfl o19 ?_
    obtain ⟨x20, ex20⟩ : ∃ y : Int, y = v5 + (h 177 (v7).toNat) := ⟨_, rfl⟩
    have hF := hF x20 ex20
    rw [← ex20]
    refine aw_lstore (ls' := [(5, (1, x20)), (0, vr 161), (3, (1, v3)), (7, (0, v7))]) (M := M_X12_rain) (pc := 176) dX12_rain_176  (by decide) rfl ?_
    obtain ⟨o21, hF⟩ := hF
    refine aw_iinc (j := 3) (x := v7) (r := v7 + 1) (ls' := [(7, (0, v7 + 1)), (5, (1, x20)), (0, vr 161), (3, (1, v3))]) (M := M_X12_rain) (pc := 178) dX12_rain_178 rfl rfl o21 (by decide) rfl ?_
    refine aw_goto (tgt := 159) (M := M_X12_rain) (pc := 181) dX12_rain_181 rfl ?_
    exact aw_ls [2, 3, 1, 0] rfl hF
def F_X12_rain (h : Mem) (a1 : Int) (a2 : Int) (Q : Int → Mem → Prop) : Prop :=
  (F_X12_isFrom h a1 0 12 (fun r2 h1 => ((r2 = 0 → (F_X12_is h1 1 (fun r4 h3 => (InZ r4 ∧ Q r4 h3)))) ∧ (¬ (r2 = 0) → (F_X12_isFrom h1 a2 0 12 (fun r6 h5 => ((¬ (r6 = 0) → L_X12_rain_35 h5 a1 a2 1 0 Q) ∧ (r6 = 0 → (F_X12_is h5 1 (fun r8 h7 => (InZ r8 ∧ Q r8 h7)))))))))))
set_option maxRecDepth 100000 in
set_option maxHeartbeats 4000000 in
theorem f_X12_rain {h : Mem} {a1 : Int} {a2 : Int} {Q : Int → Mem → Prop}  (hF : F_X12_rain h a1 a2 Q) : Ct yX12_rain cX12_rain 8 (some .boolean) (3, 96) [vr 161, (0, a1), (0, a2)] h (qi Q) := by
  refine Ct.of np_RX12 (Nat.le_of_ble_eq_true rfl) ?_
  unfold F_X12_rain at hF
  show AW M_X12_rain 0 [(0, vr 161), (1, (0, a1)), (2, (0, a2))] [] h (qi Q)
  refine aw_iload_n (j := 1) (M := M_X12_rain) (pc := 0) dX12_rain_0 rfl rfl ?_
  refine aw_i2l (M := M_X12_rain) (pc := 1) dX12_rain_1 ?_
  refine aw_lconst (v := 0) (M := M_X12_rain) (pc := 2) dX12_rain_2 ⟨rfl, ⟨by decide, by decide⟩⟩ ?_
  refine aw_ldc2 (v := 12) (M := M_X12_rain) (pc := 3) dX12_rain_3 kl_X12_444 ⟨by decide, by decide⟩ ?_
  refine aw_csi (as := [(1, a1), (1, 0), (1, 12)]) (st := []) (M := M_X12_rain) (pc := 6) (f_X12_isFrom  hF) dX12_rain_6 rfl cy_X12_isFrom ml_X12_316 (by decide) (by decide) (Nat.le_of_ble_eq_true rfl) (fun r2 h1 hF => ?_)
  refine aw_if_eq (tgt := 24) (M := M_X12_rain) (pc := 9) dX12_rain_9 rfl (fun hc => ?_) (fun hc => ?_)
  · have hF := hF.1 hc
    refine aw_aload_n (j := 0) (M := M_X12_rain) (pc := 24) dX12_rain_24 rfl rfl ?_
    refine aw_iconst (M := M_X12_rain) (pc := 25) dX12_rain_25 ⟨by decide, by decide⟩ ?_
    refine aw_cvi (as := [(0, 1)]) (st := []) (M := M_X12_rain) (pc := 26) (f_X12_is  hF) dX12_rain_26 rfl (Or.inl ⟨_, _, _, rfl, rfl⟩) cy_X12_is ml_X12_98 (by decide) (by decide) (Nat.le_of_ble_eq_true rfl) (fun r4 h3 hF => ?_)
    exact aw_iretz (M := M_X12_rain) (pc := 29) dX12_rain_29 rfl hF.1 ⟨_, rfl, hF.2⟩
  · have hF := hF.2 hc
    refine aw_iload_n (j := 2) (M := M_X12_rain) (pc := 12) dX12_rain_12 rfl rfl ?_
    refine aw_i2l (M := M_X12_rain) (pc := 13) dX12_rain_13 ?_
    refine aw_lconst (v := 0) (M := M_X12_rain) (pc := 14) dX12_rain_14 ⟨rfl, ⟨by decide, by decide⟩⟩ ?_
    refine aw_ldc2 (v := 12) (M := M_X12_rain) (pc := 15) dX12_rain_15 kl_X12_444 ⟨by decide, by decide⟩ ?_
    refine aw_csi (as := [(1, a2), (1, 0), (1, 12)]) (st := []) (M := M_X12_rain) (pc := 18) (f_X12_isFrom  hF) dX12_rain_18 rfl cy_X12_isFrom ml_X12_316 (by decide) (by decide) (Nat.le_of_ble_eq_true rfl) (fun r6 h5 hF => ?_)
    refine aw_if_ne (tgt := 30) (M := M_X12_rain) (pc := 21) dX12_rain_21 rfl (fun hc => ?_) (fun hc => ?_)
    · have hF := hF.1 hc
      refine aw_lconst (v := 1) (M := M_X12_rain) (pc := 30) dX12_rain_30 ⟨rfl, ⟨by decide, by decide⟩⟩ ?_
      refine aw_lstore_n (ls' := [(3, (1, 1)), (0, vr 161), (1, (0, a1)), (2, (0, a2))]) (M := M_X12_rain) (pc := 31) dX12_rain_31 rfl (by decide) rfl ?_
      refine aw_iconst (M := M_X12_rain) (pc := 32) dX12_rain_32 ⟨by decide, by decide⟩ ?_
      refine aw_istore (ls' := [(5, (0, 0)), (3, (1, 1)), (0, vr 161), (1, (0, a1)), (2, (0, a2))]) (M := M_X12_rain) (pc := 33) dX12_rain_33  (by decide) rfl ?_
      exact aw_ls [2, 3, 4, 1, 0] rfl hF
    · have hF := hF.2 hc
      refine aw_aload_n (j := 0) (M := M_X12_rain) (pc := 24) dX12_rain_24 rfl rfl ?_
      refine aw_iconst (M := M_X12_rain) (pc := 25) dX12_rain_25 ⟨by decide, by decide⟩ ?_
      refine aw_cvi (as := [(0, 1)]) (st := []) (M := M_X12_rain) (pc := 26) (f_X12_is  hF) dX12_rain_26 rfl (Or.inl ⟨_, _, _, rfl, rfl⟩) cy_X12_is ml_X12_98 (by decide) (by decide) (Nat.le_of_ble_eq_true rfl) (fun r8 h7 hF => ?_)
      exact aw_iretz (M := M_X12_rain) (pc := 29) dX12_rain_29 rfl hF.1 ⟨_, rfl, hF.2⟩
abbrev M_X12_wrongPlace : Hd := (cX12_wrongPlace, 3, RX12, (some .int), (2, 65), sc0)
def F_X12_wrongPlace (h : Mem) (a1 : Int) (a2 : Int) (Q : Int → Mem → Prop) : Prop :=
  (F_X12_isTray h a1 (fun r2 h1 => ((¬ (r2 = 0) → ((0 ≤ a1 ∧ a1 < 4) ∧ ((¬ ((h1 165 (a1).toNat) = (-1)) → ((a2 < 0 → Q 3 h1) ∧ (¬ (a2 < 0) → ((a2 < (h1 165 (a1).toNat) → Q 0 h1) ∧ (¬ (a2 < (h1 165 (a1).toNat)) → Q 3 h1))))) ∧ ((h1 165 (a1).toNat) = (-1) → Q 2 h1)))) ∧ (r2 = 0 → Q 1 h1))))
set_option maxRecDepth 100000 in
set_option maxHeartbeats 4000000 in
theorem f_X12_wrongPlace {h : Mem} {a1 : Int} {a2 : Int} {Q : Int → Mem → Prop}  (hF : F_X12_wrongPlace h a1 a2 Q) : Ct yX12_wrongPlace cX12_wrongPlace 3 (some .int) (2, 65) [vr 161, (0, a1), (0, a2)] h (qi Q) := by
  refine Ct.of np_RX12 (Nat.le_of_ble_eq_true rfl) ?_
  unfold F_X12_wrongPlace at hF
  show AW M_X12_wrongPlace 0 [(0, vr 161), (1, (0, a1)), (2, (0, a2))] [] h (qi Q)
  refine aw_iload_n (j := 1) (M := M_X12_wrongPlace) (pc := 0) dX12_wrongPlace_0 rfl rfl ?_
  refine aw_csi (as := [(0, a1)]) (st := []) (M := M_X12_wrongPlace) (pc := 1) (f_X12_isTray  hF) dX12_wrongPlace_1 rfl cy_X12_isTray ml_X12_102 (by decide) (by decide) (Nat.le_of_ble_eq_true rfl) (fun r2 h1 hF => ?_)
  refine aw_if_ne (tgt := 11) (M := M_X12_wrongPlace) (pc := 4) dX12_wrongPlace_4 rfl (fun hc => ?_) (fun hc => ?_)
  · have hF := hF.1 hc
    refine aw_aload_n (j := 0) (M := M_X12_wrongPlace) (pc := 11) dX12_wrongPlace_11 rfl rfl ?_
    refine gf_X12_24 (M := M_X12_wrongPlace) (pc := 12) rfl dX12_wrongPlace_12 rfl (r := 165) rfl ?_
    refine aw_iload_n (j := 1) (M := M_X12_wrongPlace) (pc := 15) dX12_wrongPlace_15 rfl rfl ?_
    obtain ⟨o4, hF⟩ := hF
    refine aw_iald (k := (a1).toNat) (M := M_X12_wrongPlace) (pc := 16) dX12_wrongPlace_16 rfl o4 rfl ?_
    refine aw_iconst (M := M_X12_wrongPlace) (pc := 17) dX12_wrongPlace_17 ⟨by decide, by decide⟩ ?_
    refine aw_icmp_ne (tgt := 25) (M := M_X12_wrongPlace) (pc := 18) dX12_wrongPlace_18 rfl (fun hc => ?_) (fun hc => ?_)
    · have hF := hF.1 hc
      refine aw_iload_n (j := 2) (M := M_X12_wrongPlace) (pc := 25) dX12_wrongPlace_25 rfl rfl ?_
      refine aw_if_lt (tgt := 39) (M := M_X12_wrongPlace) (pc := 26) dX12_wrongPlace_26 rfl (fun hc => ?_) (fun hc => ?_)
      · have hF := hF.1 hc
        refine aw_iconst (M := M_X12_wrongPlace) (pc := 39) dX12_wrongPlace_39 ⟨by decide, by decide⟩ ?_
        refine aw_goto (tgt := 44) (M := M_X12_wrongPlace) (pc := 40) dX12_wrongPlace_40 rfl ?_
        exact aw_ireti (M := M_X12_wrongPlace) (pc := 44) dX12_wrongPlace_44 rfl ⟨_, rfl, hF⟩
      · have hF := hF.2 hc
        refine aw_iload_n (j := 2) (M := M_X12_wrongPlace) (pc := 29) dX12_wrongPlace_29 rfl rfl ?_
        refine aw_aload_n (j := 0) (M := M_X12_wrongPlace) (pc := 30) dX12_wrongPlace_30 rfl rfl ?_
        refine gf_X12_24 (M := M_X12_wrongPlace) (pc := 31) rfl dX12_wrongPlace_31 rfl (r := 165) rfl ?_
        refine aw_iload_n (j := 1) (M := M_X12_wrongPlace) (pc := 34) dX12_wrongPlace_34 rfl rfl ?_
        refine aw_iald (k := (a1).toNat) (M := M_X12_wrongPlace) (pc := 35) dX12_wrongPlace_35 rfl o4 rfl ?_
        refine aw_icmp_lt (tgt := 43) (M := M_X12_wrongPlace) (pc := 36) dX12_wrongPlace_36 rfl (fun hc => ?_) (fun hc => ?_)
        · have hF := hF.1 hc
          refine aw_iconst (M := M_X12_wrongPlace) (pc := 43) dX12_wrongPlace_43 ⟨by decide, by decide⟩ ?_
          exact aw_ireti (M := M_X12_wrongPlace) (pc := 44) dX12_wrongPlace_44 rfl ⟨_, rfl, hF⟩
        · have hF := hF.2 hc
          refine aw_iconst (M := M_X12_wrongPlace) (pc := 39) dX12_wrongPlace_39 ⟨by decide, by decide⟩ ?_
          refine aw_goto (tgt := 44) (M := M_X12_wrongPlace) (pc := 40) dX12_wrongPlace_40 rfl ?_
          exact aw_ireti (M := M_X12_wrongPlace) (pc := 44) dX12_wrongPlace_44 rfl ⟨_, rfl, hF⟩
    · have hF := hF.2 hc
      refine aw_iconst (M := M_X12_wrongPlace) (pc := 21) dX12_wrongPlace_21 ⟨by decide, by decide⟩ ?_
      refine aw_goto (tgt := 44) (M := M_X12_wrongPlace) (pc := 22) dX12_wrongPlace_22 rfl ?_
      exact aw_ireti (M := M_X12_wrongPlace) (pc := 44) dX12_wrongPlace_44 rfl ⟨_, rfl, hF⟩
  · have hF := hF.2 hc
    refine aw_iconst (M := M_X12_wrongPlace) (pc := 7) dX12_wrongPlace_7 ⟨by decide, by decide⟩ ?_
    refine aw_goto (tgt := 44) (M := M_X12_wrongPlace) (pc := 8) dX12_wrongPlace_8 rfl ?_
    exact aw_ireti (M := M_X12_wrongPlace) (pc := 44) dX12_wrongPlace_44 rfl ⟨_, rfl, hF⟩
abbrev M_X12_read : Hd := (cX12_read, 3, RX12, (some .long), (3, 87), sc0)
def F_X12_read (h : Mem) (a1 : Int) (a2 : Int) (Q : Int → Mem → Prop) : Prop :=
  (F_X12_wrongPlace h a1 a2 (fun r2 h1 => (∀ h3 : Mem, h3 = mset h1 161 2 r2 → (((h3 161 2) ≤ 0 → (InR (60 * a1) ∧ (InR ((60 * a1) + a2) ∧ ((0 ≤ ((60 * a1) + a2) ∧ ((60 * a1) + a2) < 240) ∧ Q (h3 166 ((60 * a1) + a2).toNat) h3)))) ∧ (¬ ((h3 161 2) ≤ 0) → Q (-1) h3)))))
set_option maxRecDepth 100000 in
set_option maxHeartbeats 4000000 in
theorem f_X12_read {h : Mem} {a1 : Int} {a2 : Int} {Q : Int → Mem → Prop}  (hF : F_X12_read h a1 a2 Q) : Ct yX12_read cX12_read 3 (some .long) (3, 87) [vr 161, (0, a1), (0, a2)] h (ql Q) := by
  refine Ct.of np_RX12 (Nat.le_of_ble_eq_true rfl) ?_
  unfold F_X12_read at hF
  show AW M_X12_read 0 [(0, vr 161), (1, (0, a1)), (2, (0, a2))] [] h (ql Q)
  refine aw_aload_n (j := 0) (M := M_X12_read) (pc := 0) dX12_read_0 rfl rfl ?_
  refine aw_aload_n (j := 0) (M := M_X12_read) (pc := 1) dX12_read_1 rfl rfl ?_
  refine aw_iload_n (j := 1) (M := M_X12_read) (pc := 2) dX12_read_2 rfl rfl ?_
  refine aw_iload_n (j := 2) (M := M_X12_read) (pc := 3) dX12_read_3 rfl rfl ?_
  refine aw_cvi (as := [(0, a1), (0, a2)]) (st := [vr 161]) (M := M_X12_read) (pc := 4) (f_X12_wrongPlace  hF) dX12_read_4 rfl (Or.inl ⟨_, _, _, rfl, rfl⟩) cy_X12_wrongPlace ml_X12_105 (by decide) (by decide) (Nat.le_of_ble_eq_true rfl) (fun r2 h1 hF => ?_)
  refine pf_X12_85 (M := M_X12_read) (pc := 7) rfl dX12_read_7 rfl ?_
  obtain ⟨h3, eh3⟩ : ∃ y : Mem, y = mset h1 161 2 r2 := ⟨_, rfl⟩
  have hF := hF h3 eh3
  rw [← eh3]
  refine aw_aload_n (j := 0) (M := M_X12_read) (pc := 10) dX12_read_10 rfl rfl ?_
  refine gf_X12_85 (M := M_X12_read) (pc := 11) rfl dX12_read_11 rfl ?_
  refine aw_if_le (tgt := 23) (M := M_X12_read) (pc := 14) dX12_read_14 rfl (fun hc => ?_) (fun hc => ?_)
  · have hF := hF.1 hc
    refine aw_aload_n (j := 0) (M := M_X12_read) (pc := 23) dX12_read_23 rfl rfl ?_
    refine gf_X12_27 (M := M_X12_read) (pc := 24) rfl dX12_read_24 rfl (r := 166) rfl ?_
    refine aw_bipush (M := M_X12_read) (pc := 27) dX12_read_27 ⟨rfl, ⟨by decide, by decide⟩⟩ ?_
    refine aw_iload_n (j := 1) (M := M_X12_read) (pc := 29) dX12_read_29 rfl rfl ?_
    obtain ⟨o4, hF⟩ := hF
    refine aw_imul (M := M_X12_read) (pc := 30) dX12_read_30 rfl o4 ?_
    refine aw_iload_n (j := 2) (M := M_X12_read) (pc := 31) dX12_read_31 rfl rfl ?_
    obtain ⟨o5, hF⟩ := hF
    refine aw_iadd (M := M_X12_read) (pc := 32) dX12_read_32 rfl o5 ?_
    obtain ⟨o7, hF⟩ := hF
    refine aw_lald (k := ((60 * a1) + a2).toNat) (M := M_X12_read) (pc := 33) dX12_read_33 rfl o7 rfl ?_
    exact aw_lret (M := M_X12_read) (pc := 34) dX12_read_34 rfl ⟨_, rfl, hF⟩
  · have hF := hF.2 hc
    refine aw_ldc2 (v := (-1)) (M := M_X12_read) (pc := 17) dX12_read_17 kl_X12_113 ⟨by decide, by decide⟩ ?_
    refine aw_goto (tgt := 34) (M := M_X12_read) (pc := 20) dX12_read_20 rfl ?_
    exact aw_lret (M := M_X12_read) (pc := 34) dX12_read_34 rfl ⟨_, rfl, hF⟩
abbrev M_X12_ride : Hd := (cX12_ride, 3, RX12, (some .int), (9, 220), sc0)
def F_X12_ride (h : Mem) (a1 : Int) (a2 : Int) (Q : Int → Mem → Prop) : Prop :=
  (F_X12_isCell h a1 (fun r2 h1 => ((r2 = 0 → (F_X12_refuse h1 1 (fun r4 h3 => Q r4 h3))) ∧ (¬ (r2 = 0) → (F_X12_isCell h1 a2 (fun r6 h5 => ((¬ (r6 = 0) → (F_X12_laysRide h5 a1 a2 (fun h7 => (F_X12_orNone h7 (h7 161 32) (fun r10 h9 => Q r10 h9))))) ∧ (r6 = 0 → (F_X12_refuse h5 1 (fun r12 h11 => Q r12 h11))))))))))
set_option maxRecDepth 100000 in
set_option maxHeartbeats 4000000 in
theorem f_X12_ride {h : Mem} {a1 : Int} {a2 : Int} {Q : Int → Mem → Prop}  (hF : F_X12_ride h a1 a2 Q) : Ct yX12_ride cX12_ride 3 (some .int) (9, 220) [vr 161, (0, a1), (0, a2)] h (qi Q) := by
  refine Ct.of np_RX12 (Nat.le_of_ble_eq_true rfl) ?_
  unfold F_X12_ride at hF
  show AW M_X12_ride 0 [(0, vr 161), (1, (0, a1)), (2, (0, a2))] [] h (qi Q)
  refine aw_aload_n (j := 0) (M := M_X12_ride) (pc := 0) dX12_ride_0 rfl rfl ?_
  refine aw_iload_n (j := 1) (M := M_X12_ride) (pc := 1) dX12_ride_1 rfl rfl ?_
  refine aw_cvi (as := [(0, a1)]) (st := []) (M := M_X12_ride) (pc := 2) (f_X12_isCell  hF) dX12_ride_2 rfl (Or.inl ⟨_, _, _, rfl, rfl⟩) cy_X12_isCell ml_X12_326 (by decide) (by decide) (Nat.le_of_ble_eq_true rfl) (fun r2 h1 hF => ?_)
  refine aw_if_eq (tgt := 16) (M := M_X12_ride) (pc := 5) dX12_ride_5 rfl (fun hc => ?_) (fun hc => ?_)
  · have hF := hF.1 hc
    refine aw_aload_n (j := 0) (M := M_X12_ride) (pc := 16) dX12_ride_16 rfl rfl ?_
    refine aw_iconst (M := M_X12_ride) (pc := 17) dX12_ride_17 ⟨by decide, by decide⟩ ?_
    refine aw_cvi (as := [(0, 1)]) (st := []) (M := M_X12_ride) (pc := 18) (f_X12_refuse  hF) dX12_ride_18 rfl (Or.inl ⟨_, _, _, rfl, rfl⟩) cy_X12_refuse ml_X12_91 (by decide) (by decide) (Nat.le_of_ble_eq_true rfl) (fun r4 h3 hF => ?_)
    exact aw_ireti (M := M_X12_ride) (pc := 21) dX12_ride_21 rfl ⟨_, rfl, hF⟩
  · have hF := hF.2 hc
    refine aw_aload_n (j := 0) (M := M_X12_ride) (pc := 8) dX12_ride_8 rfl rfl ?_
    refine aw_iload_n (j := 2) (M := M_X12_ride) (pc := 9) dX12_ride_9 rfl rfl ?_
    refine aw_cvi (as := [(0, a2)]) (st := []) (M := M_X12_ride) (pc := 10) (f_X12_isCell  hF) dX12_ride_10 rfl (Or.inl ⟨_, _, _, rfl, rfl⟩) cy_X12_isCell ml_X12_326 (by decide) (by decide) (Nat.le_of_ble_eq_true rfl) (fun r6 h5 hF => ?_)
    refine aw_if_ne (tgt := 22) (M := M_X12_ride) (pc := 13) dX12_ride_13 rfl (fun hc => ?_) (fun hc => ?_)
    · have hF := hF.1 hc
      refine aw_aload_n (j := 0) (M := M_X12_ride) (pc := 22) dX12_ride_22 rfl rfl ?_
      refine aw_iload_n (j := 1) (M := M_X12_ride) (pc := 23) dX12_ride_23 rfl rfl ?_
      refine aw_iload_n (j := 2) (M := M_X12_ride) (pc := 24) dX12_ride_24 rfl rfl ?_
      refine aw_cvv (as := [(0, a1), (0, a2)]) (st := []) (M := M_X12_ride) (pc := 25) (f_X12_laysRide  hF) dX12_ride_25 rfl (Or.inl ⟨_, _, _, rfl, rfl⟩) cy_X12_laysRide ml_X12_421 (by decide) (by decide) (Nat.le_of_ble_eq_true rfl) (fun h7 hF => ?_)
      refine aw_aload_n (j := 0) (M := M_X12_ride) (pc := 28) dX12_ride_28 rfl rfl ?_
      refine aw_aload_n (j := 0) (M := M_X12_ride) (pc := 29) dX12_ride_29 rfl rfl ?_
      refine gf_X12_418 (M := M_X12_ride) (pc := 30) rfl dX12_ride_30 rfl ?_
      refine aw_cvi (as := [(0, h7 161 32)]) (st := []) (M := M_X12_ride) (pc := 33) (f_X12_orNone  hF) dX12_ride_33 rfl (Or.inl ⟨_, _, _, rfl, rfl⟩) cy_X12_orNone ml_X12_296 (by decide) (by decide) (Nat.le_of_ble_eq_true rfl) (fun r10 h9 hF => ?_)
      exact aw_ireti (M := M_X12_ride) (pc := 36) dX12_ride_36 rfl ⟨_, rfl, hF⟩
    · have hF := hF.2 hc
      refine aw_aload_n (j := 0) (M := M_X12_ride) (pc := 16) dX12_ride_16 rfl rfl ?_
      refine aw_iconst (M := M_X12_ride) (pc := 17) dX12_ride_17 ⟨by decide, by decide⟩ ?_
      refine aw_cvi (as := [(0, 1)]) (st := []) (M := M_X12_ride) (pc := 18) (f_X12_refuse  hF) dX12_ride_18 rfl (Or.inl ⟨_, _, _, rfl, rfl⟩) cy_X12_refuse ml_X12_91 (by decide) (by decide) (Nat.le_of_ble_eq_true rfl) (fun r12 h11 hF => ?_)
      exact aw_ireti (M := M_X12_ride) (pc := 21) dX12_ride_21 rfl ⟨_, rfl, hF⟩
abbrev M_X12_stands : Hd := (cX12_stands, 5, RX12, none, (3, 87), sc0)
def L_X12_stands_30 (h : Mem) (v2 : Int) (v3 : Int) (Q : Mem → Prop) : Prop := AW M_X12_stands 30 [(0, vr 161), (2, (0, v2)), (3, (0, v3))] [] h (qv Q)
def B_X12_stands_30 (h : Mem) (v2 : Int) (v3 : Int) (Q : Mem → Prop) : Prop :=
  ((8 ≤ v3 → Q h) ∧ (¬ (8 ≤ v3) → (F_X12_thingOf h v3 3 (fun r9 h8 => (InR (v2 + 1) ∧ (InR (3 * v3) ∧ (InR ((v2 + 1) + (3 * v3)) ∧ ((0 ≤ ((v2 + 1) + (3 * v3)) ∧ ((v2 + 1) + (3 * v3)) < 5025) ∧ (∀ h14 : Mem, h14 = mset h8 170 ((v2 + 1) + (3 * v3)).toNat r9 → (InR (v2 + 2) ∧ (InR ((v2 + 2) + (3 * v3)) ∧ ((¬ (r9 = 1) → ((0 ≤ ((v2 + 2) + (3 * v3)) ∧ ((v2 + 2) + (3 * v3)) < 5025) ∧ (∀ h18 : Mem, h18 = mset h14 170 ((v2 + 2) + (3 * v3)).toNat (-1) → (InR (v2 + 3) ∧ (InR ((v2 + 3) + (3 * v3)) ∧ (F_X12_thingOf h18 v3 5 (fun r22 h21 => ((0 ≤ ((v2 + 3) + (3 * v3)) ∧ ((v2 + 3) + (3 * v3)) < 5025) ∧ (∀ h24 : Mem, h24 = mset h21 170 ((v2 + 3) + (3 * v3)).toNat r22 → (InR (v3 + 1) ∧ L_X12_stands_30 h24 v2 (v3 + 1) Q)))))))))) ∧ (r9 = 1 → (F_X12_thingOf h14 v3 4 (fun r27 h26 => ((0 ≤ ((v2 + 2) + (3 * v3)) ∧ ((v2 + 2) + (3 * v3)) < 5025) ∧ (∀ h29 : Mem, h29 = mset h26 170 ((v2 + 2) + (3 * v3)).toNat r27 → (InR (v2 + 3) ∧ (InR ((v2 + 3) + (3 * v3)) ∧ (F_X12_thingOf h29 v3 5 (fun r33 h32 => ((0 ≤ ((v2 + 3) + (3 * v3)) ∧ ((v2 + 3) + (3 * v3)) < 5025) ∧ (∀ h35 : Mem, h35 = mset h32 170 ((v2 + 3) + (3 * v3)).toNat r33 → (InR (v3 + 1) ∧ L_X12_stands_30 h35 v2 (v3 + 1) Q))))))))))))))))))))))))
set_option maxRecDepth 100000 in
set_option maxHeartbeats 4000000 in
theorem l_X12_stands_30 {h : Mem} {v2 : Int} {v3 : Int} {Q : Mem → Prop}  (hF : B_X12_stands_30 h v2 v3 Q) : L_X12_stands_30 h v2 v3 Q := by
  unfold B_X12_stands_30 at hF
  show AW M_X12_stands 30 [(0, vr 161), (2, (0, v2)), (3, (0, v3))] [] h (qv Q)
  refine aw_iload_n (j := 2) (M := M_X12_stands) (pc := 30) dX12_stands_30 rfl rfl ?_
  refine aw_bipush (M := M_X12_stands) (pc := 31) dX12_stands_31 ⟨rfl, ⟨by decide, by decide⟩⟩ ?_
  refine aw_icmp_ge (tgt := 110) (M := M_X12_stands) (pc := 33) dX12_stands_33 rfl (fun hc => ?_) (fun hc => ?_)
  · have hF := hF.1 hc
    exact aw_ret (M := M_X12_stands) (pc := 110) dX12_stands_110 rfl ⟨rfl, hF⟩
  · have hF := hF.2 hc
    refine aw_aload_n (j := 0) (M := M_X12_stands) (pc := 36) dX12_stands_36 rfl rfl ?_
    refine aw_iload_n (j := 2) (M := M_X12_stands) (pc := 37) dX12_stands_37 rfl rfl ?_
    refine aw_iconst (M := M_X12_stands) (pc := 38) dX12_stands_38 ⟨by decide, by decide⟩ ?_
    refine aw_cvi (as := [(0, v3), (0, 3)]) (st := []) (M := M_X12_stands) (pc := 39) (f_X12_thingOf  hF) dX12_stands_39 rfl (Or.inl ⟨_, _, _, rfl, rfl⟩) cy_X12_thingOf ml_X12_263 (by decide) (by decide) (Nat.le_of_ble_eq_true rfl) (fun r9 h8 hF => ?_)
    refine aw_istore (ls' := [(4, (0, r9)), (0, vr 161), (2, (0, v2)), (3, (0, v3))]) (M := M_X12_stands) (pc := 42) dX12_stands_42  (by decide) rfl ?_
    refine aw_aload_n (j := 1) (M := M_X12_stands) (pc := 44) dX12_stands_44 rfl rfl ?_
    refine gf_X12_47 (M := M_X12_stands) (pc := 45) rfl dX12_stands_45 rfl (r := 170) rfl ?_
    refine aw_iload_n (j := 2) (M := M_X12_stands) (pc := 48) dX12_stands_48 rfl rfl ?_
    refine aw_iconst (M := M_X12_stands) (pc := 49) dX12_stands_49 ⟨by decide, by decide⟩ ?_
    obtain ⟨o10, hF⟩ := hF
    refine aw_iadd (M := M_X12_stands) (pc := 50) dX12_stands_50 rfl o10 ?_
    refine aw_iconst (M := M_X12_stands) (pc := 51) dX12_stands_51 ⟨by decide, by decide⟩ ?_
    refine aw_iload_n (j := 3) (M := M_X12_stands) (pc := 52) dX12_stands_52 rfl rfl ?_
    obtain ⟨o11, hF⟩ := hF
    refine aw_imul (M := M_X12_stands) (pc := 53) dX12_stands_53 rfl o11 ?_
    obtain ⟨o12, hF⟩ := hF
    refine aw_iadd (M := M_X12_stands) (pc := 54) dX12_stands_54 rfl o12 ?_
    refine aw_iload (j := 0) (M := M_X12_stands) (pc := 55) dX12_stands_55  rfl ?_
    obtain ⟨o13, hF⟩ := hF
    refine aw_iast (k := ((v2 + 1) + (3 * v3)).toNat) (M := M_X12_stands) (pc := 57) dX12_stands_57 rfl o13 rfl ?_
    obtain ⟨h14, eh14⟩ : ∃ y : Mem, y = mset h8 170 ((v2 + 1) + (3 * v3)).toNat r9 := ⟨_, rfl⟩
    have hF := hF h14 eh14
    rw [← eh14]
    refine aw_aload_n (j := 1) (M := M_X12_stands) (pc := 58) dX12_stands_58 rfl rfl ?_
    refine gf_X12_47 (M := M_X12_stands) (pc := 59) rfl dX12_stands_59 rfl (r := 170) rfl ?_
    refine aw_iload_n (j := 2) (M := M_X12_stands) (pc := 62) dX12_stands_62 rfl rfl ?_
    refine aw_iconst (M := M_X12_stands) (pc := 63) dX12_stands_63 ⟨by decide, by decide⟩ ?_
    obtain ⟨o15, hF⟩ := hF
    refine aw_iadd (M := M_X12_stands) (pc := 64) dX12_stands_64 rfl o15 ?_
    refine aw_iconst (M := M_X12_stands) (pc := 65) dX12_stands_65 ⟨by decide, by decide⟩ ?_
    refine aw_iload_n (j := 3) (M := M_X12_stands) (pc := 66) dX12_stands_66 rfl rfl ?_
    refine aw_imul (M := M_X12_stands) (pc := 67) dX12_stands_67 rfl o11 ?_
    obtain ⟨o16, hF⟩ := hF
    refine aw_iadd (M := M_X12_stands) (pc := 68) dX12_stands_68 rfl o16 ?_
    refine aw_iload (j := 0) (M := M_X12_stands) (pc := 69) dX12_stands_69  rfl ?_
    refine aw_iconst (M := M_X12_stands) (pc := 71) dX12_stands_71 ⟨by decide, by decide⟩ ?_
    refine aw_icmp_ne (tgt := 84) (M := M_X12_stands) (pc := 72) dX12_stands_72 rfl (fun hc => ?_) (fun hc => ?_)
    · have hF := hF.1 hc
      refine aw_iconst (M := M_X12_stands) (pc := 84) dX12_stands_84 ⟨by decide, by decide⟩ ?_
      obtain ⟨o17, hF⟩ := hF
      refine aw_iast (k := ((v2 + 2) + (3 * v3)).toNat) (M := M_X12_stands) (pc := 85) dX12_stands_85 rfl o17 rfl ?_
      obtain ⟨h18, eh18⟩ : ∃ y : Mem, y = mset h14 170 ((v2 + 2) + (3 * v3)).toNat (-1) := ⟨_, rfl⟩
      have hF := hF h18 eh18
      rw [← eh18]
      refine aw_aload_n (j := 1) (M := M_X12_stands) (pc := 86) dX12_stands_86 rfl rfl ?_
      refine gf_X12_47 (M := M_X12_stands) (pc := 87) rfl dX12_stands_87 rfl (r := 170) rfl ?_
      refine aw_iload_n (j := 2) (M := M_X12_stands) (pc := 90) dX12_stands_90 rfl rfl ?_
      refine aw_iconst (M := M_X12_stands) (pc := 91) dX12_stands_91 ⟨by decide, by decide⟩ ?_
      obtain ⟨o19, hF⟩ := hF
      refine aw_iadd (M := M_X12_stands) (pc := 92) dX12_stands_92 rfl o19 ?_
      refine aw_iconst (M := M_X12_stands) (pc := 93) dX12_stands_93 ⟨by decide, by decide⟩ ?_
      refine aw_iload_n (j := 3) (M := M_X12_stands) (pc := 94) dX12_stands_94 rfl rfl ?_
      refine aw_imul (M := M_X12_stands) (pc := 95) dX12_stands_95 rfl o11 ?_
      obtain ⟨o20, hF⟩ := hF
      refine aw_iadd (M := M_X12_stands) (pc := 96) dX12_stands_96 rfl o20 ?_
      refine aw_aload_n (j := 1) (M := M_X12_stands) (pc := 97) dX12_stands_97 rfl rfl ?_
      refine aw_iload_n (j := 3) (M := M_X12_stands) (pc := 98) dX12_stands_98 rfl rfl ?_
      refine aw_iconst (M := M_X12_stands) (pc := 99) dX12_stands_99 ⟨by decide, by decide⟩ ?_
      refine aw_cvi (as := [(0, v3), (0, 5)]) (st := [(0, (v2 + 3) + (3 * v3)), vr 170]) (M := M_X12_stands) (pc := 100) (f_X12_thingOf  hF) dX12_stands_100 rfl (Or.inl ⟨_, _, _, rfl, rfl⟩) cy_X12_thingOf ml_X12_263 (by decide) (by decide) (Nat.le_of_ble_eq_true rfl) (fun r22 h21 hF => ?_)
      obtain ⟨o23, hF⟩ := hF
      refine aw_iast (k := ((v2 + 3) + (3 * v3)).toNat) (M := M_X12_stands) (pc := 103) dX12_stands_103 rfl o23 rfl ?_
      obtain ⟨h24, eh24⟩ : ∃ y : Mem, y = mset h21 170 ((v2 + 3) + (3 * v3)).toNat r22 := ⟨_, rfl⟩
      have hF := hF h24 eh24
      rw [← eh24]
      obtain ⟨o25, hF⟩ := hF
      refine aw_iinc (j := 3) (x := v3) (r := v3 + 1) (ls' := [(3, (0, v3 + 1)), (4, (0, r9)), (0, vr 161), (2, (0, v2))]) (M := M_X12_stands) (pc := 104) dX12_stands_104 rfl rfl o25 (by decide) rfl ?_
      refine aw_goto (tgt := 30) (M := M_X12_stands) (pc := 107) dX12_stands_107 rfl ?_
      exact aw_ls [2, 3, 0] rfl hF
    · have hF := hF.2 hc
      refine aw_aload_n (j := 1) (M := M_X12_stands) (pc := 75) dX12_stands_75 rfl rfl ?_
      refine aw_iload_n (j := 3) (M := M_X12_stands) (pc := 76) dX12_stands_76 rfl rfl ?_
      refine aw_iconst (M := M_X12_stands) (pc := 77) dX12_stands_77 ⟨by decide, by decide⟩ ?_
      refine aw_cvi (as := [(0, v3), (0, 4)]) (st := [(0, (v2 + 2) + (3 * v3)), vr 170]) (M := M_X12_stands) (pc := 78) (f_X12_thingOf  hF) dX12_stands_78 rfl (Or.inl ⟨_, _, _, rfl, rfl⟩) cy_X12_thingOf ml_X12_263 (by decide) (by decide) (Nat.le_of_ble_eq_true rfl) (fun r27 h26 hF => ?_)
      refine aw_goto (tgt := 85) (M := M_X12_stands) (pc := 81) dX12_stands_81 rfl ?_
      obtain ⟨o28, hF⟩ := hF
      refine aw_iast (k := ((v2 + 2) + (3 * v3)).toNat) (M := M_X12_stands) (pc := 85) dX12_stands_85 rfl o28 rfl ?_
      obtain ⟨h29, eh29⟩ : ∃ y : Mem, y = mset h26 170 ((v2 + 2) + (3 * v3)).toNat r27 := ⟨_, rfl⟩
      have hF := hF h29 eh29
      rw [← eh29]
      refine aw_aload_n (j := 1) (M := M_X12_stands) (pc := 86) dX12_stands_86 rfl rfl ?_
      refine gf_X12_47 (M := M_X12_stands) (pc := 87) rfl dX12_stands_87 rfl (r := 170) rfl ?_
      refine aw_iload_n (j := 2) (M := M_X12_stands) (pc := 90) dX12_stands_90 rfl rfl ?_
      refine aw_iconst (M := M_X12_stands) (pc := 91) dX12_stands_91 ⟨by decide, by decide⟩ ?_
      obtain ⟨o30, hF⟩ := hF
      refine aw_iadd (M := M_X12_stands) (pc := 92) dX12_stands_92 rfl o30 ?_
      refine aw_iconst (M := M_X12_stands) (pc := 93) dX12_stands_93 ⟨by decide, by decide⟩ ?_
      refine aw_iload_n (j := 3) (M := M_X12_stands) (pc := 94) dX12_stands_94 rfl rfl ?_
      refine aw_imul (M := M_X12_stands) (pc := 95) dX12_stands_95 rfl o11 ?_
      obtain ⟨o31, hF⟩ := hF
      refine aw_iadd (M := M_X12_stands) (pc := 96) dX12_stands_96 rfl o31 ?_
      refine aw_aload_n (j := 1) (M := M_X12_stands) (pc := 97) dX12_stands_97 rfl rfl ?_
      refine aw_iload_n (j := 3) (M := M_X12_stands) (pc := 98) dX12_stands_98 rfl rfl ?_
      refine aw_iconst (M := M_X12_stands) (pc := 99) dX12_stands_99 ⟨by decide, by decide⟩ ?_
      refine aw_cvi (as := [(0, v3), (0, 5)]) (st := [(0, (v2 + 3) + (3 * v3)), vr 170]) (M := M_X12_stands) (pc := 100) (f_X12_thingOf  hF) dX12_stands_100 rfl (Or.inl ⟨_, _, _, rfl, rfl⟩) cy_X12_thingOf ml_X12_263 (by decide) (by decide) (Nat.le_of_ble_eq_true rfl) (fun r33 h32 hF => ?_)
      obtain ⟨o34, hF⟩ := hF
      refine aw_iast (k := ((v2 + 3) + (3 * v3)).toNat) (M := M_X12_stands) (pc := 103) dX12_stands_103 rfl o34 rfl ?_
      obtain ⟨h35, eh35⟩ : ∃ y : Mem, y = mset h32 170 ((v2 + 3) + (3 * v3)).toNat r33 := ⟨_, rfl⟩
      have hF := hF h35 eh35
      rw [← eh35]
      obtain ⟨o36, hF⟩ := hF
      refine aw_iinc (j := 3) (x := v3) (r := v3 + 1) (ls' := [(3, (0, v3 + 1)), (4, (0, r9)), (0, vr 161), (2, (0, v2))]) (M := M_X12_stands) (pc := 104) dX12_stands_104 rfl rfl o36 (by decide) rfl ?_
      refine aw_goto (tgt := 30) (M := M_X12_stands) (pc := 107) dX12_stands_107 rfl ?_
      exact aw_ls [2, 3, 0] rfl hF
def F_X12_stands (h : Mem) (a1 : Int) (Q : Mem → Prop) : Prop :=
  (InR (25 * a1) ∧ (InR (2 * (h 162 6)) ∧ (InR ((2 * (h 162 6)) + (h 162 7)) ∧ ((0 ≤ (25 * a1) ∧ (25 * a1) < 5025) ∧ (∀ h7 : Mem, h7 = mset h 170 (25 * a1).toNat ((2 * (h 162 6)) + (h 162 7)) → L_X12_stands_30 h7 (25 * a1) 0 Q)))))
set_option maxRecDepth 100000 in
set_option maxHeartbeats 4000000 in
theorem f_X12_stands {h : Mem} {a1 : Int} {Q : Mem → Prop}  (hF : F_X12_stands h a1 Q) : Ct yX12_stands cX12_stands 5 none (3, 87) [vr 161, (0, a1)] h (qv Q) := by
  refine Ct.of np_RX12 (Nat.le_of_ble_eq_true rfl) ?_
  unfold F_X12_stands at hF
  show AW M_X12_stands 0 [(0, vr 161), (1, (0, a1))] [] h (qv Q)
  refine aw_bipush (M := M_X12_stands) (pc := 0) dX12_stands_0 ⟨rfl, ⟨by decide, by decide⟩⟩ ?_
  refine aw_iload_n (j := 1) (M := M_X12_stands) (pc := 2) dX12_stands_2 rfl rfl ?_
  obtain ⟨o1, hF⟩ := hF
  refine aw_imul (M := M_X12_stands) (pc := 3) dX12_stands_3 rfl o1 ?_
  refine aw_istore_n (ls' := [(2, (0, 25 * a1)), (0, vr 161), (1, (0, a1))]) (M := M_X12_stands) (pc := 4) dX12_stands_4 rfl (by decide) rfl ?_
  refine aw_aload_n (j := 1) (M := M_X12_stands) (pc := 5) dX12_stands_5 rfl rfl ?_
  refine gf_X12_47 (M := M_X12_stands) (pc := 6) rfl dX12_stands_6 rfl (r := 170) rfl ?_
  refine aw_iload_n (j := 0) (M := M_X12_stands) (pc := 9) dX12_stands_9 rfl rfl ?_
  refine aw_iconst (M := M_X12_stands) (pc := 10) dX12_stands_10 ⟨by decide, by decide⟩ ?_
  refine aw_aload_n (j := 1) (M := M_X12_stands) (pc := 11) dX12_stands_11 rfl rfl ?_
  refine gf_X12_7 (M := M_X12_stands) (pc := 12) rfl dX12_stands_12 rfl (r := 162) rfl ?_
  refine aw_bipush (M := M_X12_stands) (pc := 15) dX12_stands_15 ⟨rfl, ⟨by decide, by decide⟩⟩ ?_
  refine aw_iald (k := 6) (M := M_X12_stands) (pc := 17) dX12_stands_17 rfl ⟨by decide, by decide⟩ rfl ?_
  obtain ⟨o3, hF⟩ := hF
  refine aw_imul (M := M_X12_stands) (pc := 18) dX12_stands_18 rfl o3 ?_
  refine aw_aload_n (j := 1) (M := M_X12_stands) (pc := 19) dX12_stands_19 rfl rfl ?_
  refine gf_X12_7 (M := M_X12_stands) (pc := 20) rfl dX12_stands_20 rfl (r := 162) rfl ?_
  refine aw_bipush (M := M_X12_stands) (pc := 23) dX12_stands_23 ⟨rfl, ⟨by decide, by decide⟩⟩ ?_
  refine aw_iald (k := 7) (M := M_X12_stands) (pc := 25) dX12_stands_25 rfl ⟨by decide, by decide⟩ rfl ?_
  obtain ⟨o5, hF⟩ := hF
  refine aw_iadd (M := M_X12_stands) (pc := 26) dX12_stands_26 rfl o5 ?_
  obtain ⟨o6, hF⟩ := hF
  refine aw_iast (k := (25 * a1).toNat) (M := M_X12_stands) (pc := 27) dX12_stands_27 rfl o6 rfl ?_
  obtain ⟨h7, eh7⟩ : ∃ y : Mem, y = mset h 170 (25 * a1).toNat ((2 * (h 162 6)) + (h 162 7)) := ⟨_, rfl⟩
  have hF := hF h7 eh7
  rw [← eh7]
  refine aw_iconst (M := M_X12_stands) (pc := 28) dX12_stands_28 ⟨by decide, by decide⟩ ?_
  refine aw_istore_n (ls' := [(3, (0, 0)), (2, (0, 25 * a1)), (0, vr 161), (1, (0, a1))]) (M := M_X12_stands) (pc := 29) dX12_stands_29 rfl (by decide) rfl ?_
  exact aw_ls [2, 1, 0] rfl hF
abbrev M_X12_ringing : Hd := (cX12_ringing, 3, RX12, (some .int), (8, 197), sc0)
def L_X12_ringing_7 (h : Mem) (v1 : Int) (Q : Int → Mem → Prop) : Prop := AW M_X12_ringing 7 [(0, vr 161), (1, (0, v1))] [] h (qi Q)
def L_X12_ringing_26 (h : Mem) (v1 : Int) (v2 : Int) (Q : Int → Mem → Prop) : Prop := AW M_X12_ringing 26 [(0, vr 161), (1, (0, v1)), (2, (0, v2))] [] h (qi Q)
def B_X12_ringing_7 (h : Mem) (v1 : Int) (Q : Int → Mem → Prop) : Prop :=
  ((200 < v1 → Q (-1) h) ∧ (¬ (200 < v1) → (F_X12_hourGoes h  (fun r4 h3 => (F_X12_stands h3 v1 (fun h5 => L_X12_ringing_26 h5 v1 0 Q))))))
set_option maxRecDepth 100000 in
set_option maxHeartbeats 4000000 in
theorem l_X12_ringing_7 {h : Mem} {v1 : Int} {Q : Int → Mem → Prop}  (hF : B_X12_ringing_7 h v1 Q) : L_X12_ringing_7 h v1 Q := by
  unfold B_X12_ringing_7 at hF
  show AW M_X12_ringing 7 [(0, vr 161), (1, (0, v1))] [] h (qi Q)
  refine aw_iload_n (j := 1) (M := M_X12_ringing) (pc := 7) dX12_ringing_7 rfl rfl ?_
  refine aw_sipush (M := M_X12_ringing) (pc := 8) dX12_ringing_8 ⟨rfl, ⟨by decide, by decide⟩⟩ ?_
  refine aw_icmp_gt (tgt := 56) (M := M_X12_ringing) (pc := 11) dX12_ringing_11 rfl (fun hc => ?_) (fun hc => ?_)
  · have hF := hF.1 hc
    refine aw_iconst (M := M_X12_ringing) (pc := 56) dX12_ringing_56 ⟨by decide, by decide⟩ ?_
    exact aw_ireti (M := M_X12_ringing) (pc := 57) dX12_ringing_57 rfl ⟨_, rfl, hF⟩
  · have hF := hF.2 hc
    refine aw_aload_n (j := 0) (M := M_X12_ringing) (pc := 14) dX12_ringing_14 rfl rfl ?_
    refine aw_cvi (as := []) (st := []) (M := M_X12_ringing) (pc := 15) (f_X12_hourGoes  hF) dX12_ringing_15 rfl (Or.inl ⟨_, _, _, rfl, rfl⟩) cy_X12_hourGoes ml_X12_311 (by decide) (by decide) (Nat.le_of_ble_eq_true rfl) (fun r4 h3 hF => ?_)
    refine aw_pop (M := M_X12_ringing) (pc := 18) dX12_ringing_18 rfl ?_
    refine aw_aload_n (j := 0) (M := M_X12_ringing) (pc := 19) dX12_ringing_19 rfl rfl ?_
    refine aw_iload_n (j := 1) (M := M_X12_ringing) (pc := 20) dX12_ringing_20 rfl rfl ?_
    refine aw_cvv (as := [(0, v1)]) (st := []) (M := M_X12_ringing) (pc := 21) (f_X12_stands  hF) dX12_ringing_21 rfl (Or.inl ⟨_, _, _, rfl, rfl⟩) cy_X12_stands ml_X12_362 (by decide) (by decide) (Nat.le_of_ble_eq_true rfl) (fun h5 hF => ?_)
    refine aw_iconst (M := M_X12_ringing) (pc := 24) dX12_ringing_24 ⟨by decide, by decide⟩ ?_
    refine aw_istore_n (ls' := [(2, (0, 0)), (0, vr 161), (1, (0, v1))]) (M := M_X12_ringing) (pc := 25) dX12_ringing_25 rfl (by decide) rfl ?_
    exact aw_ls [1, 2, 0] rfl hF
def B_X12_ringing_26 (h : Mem) (v1 : Int) (v2 : Int) (Q : Int → Mem → Prop) : Prop :=
  ((v1 ≤ v2 → (InR (v1 + 1) ∧ L_X12_ringing_7 h (v1 + 1) Q)) ∧ (¬ (v1 ≤ v2) → (F_X12_areAlike h v2 v1 (fun r9 h8 => ((r9 = 0 → (InR (v2 + 1) ∧ L_X12_ringing_26 h8 v1 (v2 + 1) Q)) ∧ (¬ (r9 = 0) → (InR (v1 - v2) ∧ Q (v1 - v2) h8)))))))
set_option maxRecDepth 100000 in
set_option maxHeartbeats 4000000 in
theorem l_X12_ringing_26 {h : Mem} {v1 : Int} {v2 : Int} {Q : Int → Mem → Prop}  (hF : B_X12_ringing_26 h v1 v2 Q) : L_X12_ringing_26 h v1 v2 Q := by
  unfold B_X12_ringing_26 at hF
  show AW M_X12_ringing 26 [(0, vr 161), (1, (0, v1)), (2, (0, v2))] [] h (qi Q)
  refine aw_iload_n (j := 2) (M := M_X12_ringing) (pc := 26) dX12_ringing_26 rfl rfl ?_
  refine aw_iload_n (j := 1) (M := M_X12_ringing) (pc := 27) dX12_ringing_27 rfl rfl ?_
  refine aw_icmp_ge (tgt := 50) (M := M_X12_ringing) (pc := 28) dX12_ringing_28 rfl (fun hc => ?_) (fun hc => ?_)
  · have hF := hF.1 hc
    obtain ⟨o7, hF⟩ := hF
    refine aw_iinc (j := 1) (x := v1) (r := v1 + 1) (ls' := [(1, (0, v1 + 1)), (0, vr 161), (2, (0, v2))]) (M := M_X12_ringing) (pc := 50) dX12_ringing_50 rfl rfl o7 (by decide) rfl ?_
    refine aw_goto (tgt := 7) (M := M_X12_ringing) (pc := 53) dX12_ringing_53 rfl ?_
    exact aw_ls [1, 0] rfl hF
  · have hF := hF.2 hc
    refine aw_aload_n (j := 0) (M := M_X12_ringing) (pc := 31) dX12_ringing_31 rfl rfl ?_
    refine aw_iload_n (j := 2) (M := M_X12_ringing) (pc := 32) dX12_ringing_32 rfl rfl ?_
    refine aw_iload_n (j := 1) (M := M_X12_ringing) (pc := 33) dX12_ringing_33 rfl rfl ?_
    refine aw_cvi (as := [(0, v2), (0, v1)]) (st := []) (M := M_X12_ringing) (pc := 34) (f_X12_areAlike  hF) dX12_ringing_34 rfl (Or.inl ⟨_, _, _, rfl, rfl⟩) cy_X12_areAlike ml_X12_365 (by decide) (by decide) (Nat.le_of_ble_eq_true rfl) (fun r9 h8 hF => ?_)
    refine aw_if_eq (tgt := 44) (M := M_X12_ringing) (pc := 37) dX12_ringing_37 rfl (fun hc => ?_) (fun hc => ?_)
    · have hF := hF.1 hc
      obtain ⟨o10, hF⟩ := hF
      refine aw_iinc (j := 2) (x := v2) (r := v2 + 1) (ls' := [(2, (0, v2 + 1)), (0, vr 161), (1, (0, v1))]) (M := M_X12_ringing) (pc := 44) dX12_ringing_44 rfl rfl o10 (by decide) rfl ?_
      refine aw_goto (tgt := 26) (M := M_X12_ringing) (pc := 47) dX12_ringing_47 rfl ?_
      exact aw_ls [1, 2, 0] rfl hF
    · have hF := hF.2 hc
      refine aw_iload_n (j := 1) (M := M_X12_ringing) (pc := 40) dX12_ringing_40 rfl rfl ?_
      refine aw_iload_n (j := 2) (M := M_X12_ringing) (pc := 41) dX12_ringing_41 rfl rfl ?_
      obtain ⟨o11, hF⟩ := hF
      refine aw_isub (M := M_X12_ringing) (pc := 42) dX12_ringing_42 rfl o11 ?_
      exact aw_ireti (M := M_X12_ringing) (pc := 43) dX12_ringing_43 rfl ⟨_, rfl, hF⟩
def F_X12_ringing (h : Mem)  (Q : Int → Mem → Prop) : Prop :=
  (F_X12_stands h 0 (fun h1 => L_X12_ringing_7 h1 1 Q))
set_option maxRecDepth 100000 in
set_option maxHeartbeats 4000000 in
theorem f_X12_ringing {h : Mem}  {Q : Int → Mem → Prop}  (hF : F_X12_ringing h  Q) : Ct yX12_ringing cX12_ringing 3 (some .int) (8, 197) [vr 161] h (qi Q) := by
  refine Ct.of np_RX12 (Nat.le_of_ble_eq_true rfl) ?_
  unfold F_X12_ringing at hF
  show AW M_X12_ringing 0 [(0, vr 161)] [] h (qi Q)
  refine aw_aload_n (j := 0) (M := M_X12_ringing) (pc := 0) dX12_ringing_0 rfl rfl ?_
  refine aw_iconst (M := M_X12_ringing) (pc := 1) dX12_ringing_1 ⟨by decide, by decide⟩ ?_
  refine aw_cvv (as := [(0, 0)]) (st := []) (M := M_X12_ringing) (pc := 2) (f_X12_stands  hF) dX12_ringing_2 rfl (Or.inl ⟨_, _, _, rfl, rfl⟩) cy_X12_stands ml_X12_362 (by decide) (by decide) (Nat.le_of_ble_eq_true rfl) (fun h1 hF => ?_)
  refine aw_iconst (M := M_X12_ringing) (pc := 5) dX12_ringing_5 ⟨by decide, by decide⟩ ?_
  refine aw_istore_n (ls' := [(1, (0, 1)), (0, vr 161)]) (M := M_X12_ringing) (pc := 6) dX12_ringing_6 rfl (by decide) rfl ?_
  exact aw_ls [1, 0] rfl hF
abbrev M_X12_ring : Hd := (cX12_ring, 2, RX12, (some .int), (9, 219), sc0)
def F_X12_ring (h : Mem)  (Q : Int → Mem → Prop) : Prop :=
  (F_X12_keeps h 2688 (fun h1 => (F_X12_ringing h1  (fun r4 h3 => (F_X12_restores h3 2688 (fun h5 => (F_X12_orNone h5 r4 (fun r8 h7 => Q r8 h7))))))))
set_option maxRecDepth 100000 in
set_option maxHeartbeats 4000000 in
theorem f_X12_ring {h : Mem}  {Q : Int → Mem → Prop}  (hF : F_X12_ring h  Q) : Ct yX12_ring cX12_ring 2 (some .int) (9, 219) [vr 161] h (qi Q) := by
  refine Ct.of np_RX12 (Nat.le_of_ble_eq_true rfl) ?_
  unfold F_X12_ring at hF
  show AW M_X12_ring 0 [(0, vr 161)] [] h (qi Q)
  refine aw_aload_n (j := 0) (M := M_X12_ring) (pc := 0) dX12_ring_0 rfl rfl ?_
  refine aw_sipush (M := M_X12_ring) (pc := 1) dX12_ring_1 ⟨rfl, ⟨by decide, by decide⟩⟩ ?_
  refine aw_cvv (as := [(0, 2688)]) (st := []) (M := M_X12_ring) (pc := 4) (f_X12_keeps  hF) dX12_ring_4 rfl (Or.inl ⟨_, _, _, rfl, rfl⟩) cy_X12_keeps ml_X12_350 (by decide) (by decide) (Nat.le_of_ble_eq_true rfl) (fun h1 hF => ?_)
  refine aw_aload_n (j := 0) (M := M_X12_ring) (pc := 7) dX12_ring_7 rfl rfl ?_
  refine aw_cvi (as := []) (st := []) (M := M_X12_ring) (pc := 8) (f_X12_ringing  hF) dX12_ring_8 rfl (Or.inl ⟨_, _, _, rfl, rfl⟩) cy_X12_ringing ml_X12_368 (by decide) (by decide) (Nat.le_of_ble_eq_true rfl) (fun r4 h3 hF => ?_)
  refine aw_istore_n (ls' := [(1, (0, r4)), (0, vr 161)]) (M := M_X12_ring) (pc := 11) dX12_ring_11 rfl (by decide) rfl ?_
  refine aw_aload_n (j := 1) (M := M_X12_ring) (pc := 12) dX12_ring_12 rfl rfl ?_
  refine aw_sipush (M := M_X12_ring) (pc := 13) dX12_ring_13 ⟨rfl, ⟨by decide, by decide⟩⟩ ?_
  refine aw_cvv (as := [(0, 2688)]) (st := []) (M := M_X12_ring) (pc := 16) (f_X12_restores  hF) dX12_ring_16 rfl (Or.inl ⟨_, _, _, rfl, rfl⟩) cy_X12_restores ml_X12_353 (by decide) (by decide) (Nat.le_of_ble_eq_true rfl) (fun h5 hF => ?_)
  refine aw_aload_n (j := 1) (M := M_X12_ring) (pc := 19) dX12_ring_19 rfl rfl ?_
  refine aw_iload_n (j := 0) (M := M_X12_ring) (pc := 20) dX12_ring_20 rfl rfl ?_
  refine aw_cvi (as := [(0, r4)]) (st := []) (M := M_X12_ring) (pc := 21) (f_X12_orNone  hF) dX12_ring_21 rfl (Or.inl ⟨_, _, _, rfl, rfl⟩) cy_X12_orNone ml_X12_296 (by decide) (by decide) (Nat.le_of_ble_eq_true rfl) (fun r8 h7 hF => ?_)
  exact aw_ireti (M := M_X12_ring) (pc := 24) dX12_ring_24 rfl ⟨_, rfl, hF⟩
abbrev M_X12_rule : Hd := (cX12_rule, 3, RX12, (some .boolean), (2, 70), sc0)
def F_X12_rule (h : Mem) (a1 : Int) (a2 : Int) (Q : Int → Mem → Prop) : Prop :=
  ((a1 < 3 → (F_X12_is h 1 (fun r2 h1 => (InZ r2 ∧ Q r2 h1)))) ∧ (¬ (a1 < 3) → ((4 < a1 → (F_X12_is h 1 (fun r4 h3 => (InZ r4 ∧ Q r4 h3)))) ∧ (¬ (4 < a1) → ((¬ (a1 = 3) → ((¬ (a1 = 3) → (F_X12_isFrom h a2 0 16 (fun r6 h5 => ((¬ (r6 = 0) → ((0 ≤ a1 ∧ a1 < 3008) ∧ (∀ h8 : Mem, h8 = mset h5 162 (a1).toNat a2 → (F_X12_is h8 0 (fun r10 h9 => (InZ r10 ∧ Q r10 h9)))))) ∧ (r6 = 0 → (F_X12_is h5 1 (fun r12 h11 => (InZ r12 ∧ Q r12 h11)))))))) ∧ (a1 = 3 → (F_X12_isFrom h a2 0 40 (fun r14 h13 => ((¬ (r14 = 0) → ((0 ≤ a1 ∧ a1 < 3008) ∧ (∀ h16 : Mem, h16 = mset h13 162 (a1).toNat a2 → (F_X12_is h16 0 (fun r18 h17 => (InZ r18 ∧ Q r18 h17)))))) ∧ (r14 = 0 → (F_X12_is h13 1 (fun r20 h19 => (InZ r20 ∧ Q r20 h19)))))))))) ∧ (a1 = 3 → ((¬ (a1 = 3) → (F_X12_isFrom h a2 1 16 (fun r22 h21 => ((¬ (r22 = 0) → ((0 ≤ a1 ∧ a1 < 3008) ∧ (∀ h24 : Mem, h24 = mset h21 162 (a1).toNat a2 → (F_X12_is h24 0 (fun r26 h25 => (InZ r26 ∧ Q r26 h25)))))) ∧ (r22 = 0 → (F_X12_is h21 1 (fun r28 h27 => (InZ r28 ∧ Q r28 h27)))))))) ∧ (a1 = 3 → (F_X12_isFrom h a2 1 40 (fun r30 h29 => ((¬ (r30 = 0) → ((0 ≤ a1 ∧ a1 < 3008) ∧ (∀ h32 : Mem, h32 = mset h29 162 (a1).toNat a2 → (F_X12_is h32 0 (fun r34 h33 => (InZ r34 ∧ Q r34 h33)))))) ∧ (r30 = 0 → (F_X12_is h29 1 (fun r36 h35 => (InZ r36 ∧ Q r36 h35)))))))))))))))
set_option maxRecDepth 100000 in
set_option maxHeartbeats 4000000 in
theorem f_X12_rule {h : Mem} {a1 : Int} {a2 : Int} {Q : Int → Mem → Prop}  (hF : F_X12_rule h a1 a2 Q) : Ct yX12_rule cX12_rule 3 (some .boolean) (2, 70) [vr 161, (0, a1), (0, a2)] h (qi Q) := by
  refine Ct.of np_RX12 (Nat.le_of_ble_eq_true rfl) ?_
  unfold F_X12_rule at hF
  show AW M_X12_rule 0 [(0, vr 161), (1, (0, a1)), (2, (0, a2))] [] h (qi Q)
  refine aw_iload_n (j := 1) (M := M_X12_rule) (pc := 0) dX12_rule_0 rfl rfl ?_
  refine aw_iconst (M := M_X12_rule) (pc := 1) dX12_rule_1 ⟨by decide, by decide⟩ ?_
  refine aw_icmp_lt (tgt := 42) (M := M_X12_rule) (pc := 2) dX12_rule_2 rfl (fun hc => ?_) (fun hc => ?_)
  · have hF := hF.1 hc
    refine aw_aload_n (j := 0) (M := M_X12_rule) (pc := 42) dX12_rule_42 rfl rfl ?_
    refine aw_iconst (M := M_X12_rule) (pc := 43) dX12_rule_43 ⟨by decide, by decide⟩ ?_
    refine aw_cvi (as := [(0, 1)]) (st := []) (M := M_X12_rule) (pc := 44) (f_X12_is  hF) dX12_rule_44 rfl (Or.inl ⟨_, _, _, rfl, rfl⟩) cy_X12_is ml_X12_98 (by decide) (by decide) (Nat.le_of_ble_eq_true rfl) (fun r2 h1 hF => ?_)
    exact aw_iretz (M := M_X12_rule) (pc := 47) dX12_rule_47 rfl hF.1 ⟨_, rfl, hF.2⟩
  · have hF := hF.2 hc
    refine aw_iload_n (j := 1) (M := M_X12_rule) (pc := 5) dX12_rule_5 rfl rfl ?_
    refine aw_iconst (M := M_X12_rule) (pc := 6) dX12_rule_6 ⟨by decide, by decide⟩ ?_
    refine aw_icmp_gt (tgt := 42) (M := M_X12_rule) (pc := 7) dX12_rule_7 rfl (fun hc => ?_) (fun hc => ?_)
    · have hF := hF.1 hc
      refine aw_aload_n (j := 0) (M := M_X12_rule) (pc := 42) dX12_rule_42 rfl rfl ?_
      refine aw_iconst (M := M_X12_rule) (pc := 43) dX12_rule_43 ⟨by decide, by decide⟩ ?_
      refine aw_cvi (as := [(0, 1)]) (st := []) (M := M_X12_rule) (pc := 44) (f_X12_is  hF) dX12_rule_44 rfl (Or.inl ⟨_, _, _, rfl, rfl⟩) cy_X12_is ml_X12_98 (by decide) (by decide) (Nat.le_of_ble_eq_true rfl) (fun r4 h3 hF => ?_)
      exact aw_iretz (M := M_X12_rule) (pc := 47) dX12_rule_47 rfl hF.1 ⟨_, rfl, hF.2⟩
    · have hF := hF.2 hc
      refine aw_iload_n (j := 2) (M := M_X12_rule) (pc := 10) dX12_rule_10 rfl rfl ?_
      refine aw_i2l (M := M_X12_rule) (pc := 11) dX12_rule_11 ?_
      refine aw_iload_n (j := 1) (M := M_X12_rule) (pc := 12) dX12_rule_12 rfl rfl ?_
      refine aw_iconst (M := M_X12_rule) (pc := 13) dX12_rule_13 ⟨by decide, by decide⟩ ?_
      refine aw_icmp_ne (tgt := 21) (M := M_X12_rule) (pc := 14) dX12_rule_14 rfl (fun hc => ?_) (fun hc => ?_)
      · have hF := hF.1 hc
        refine aw_lconst (v := 0) (M := M_X12_rule) (pc := 21) dX12_rule_21 ⟨rfl, ⟨by decide, by decide⟩⟩ ?_
        refine aw_iload_n (j := 1) (M := M_X12_rule) (pc := 22) dX12_rule_22 rfl rfl ?_
        refine aw_iconst (M := M_X12_rule) (pc := 23) dX12_rule_23 ⟨by decide, by decide⟩ ?_
        refine aw_icmp_ne (tgt := 33) (M := M_X12_rule) (pc := 24) dX12_rule_24 rfl (fun hc => ?_) (fun hc => ?_)
        · have hF := hF.1 hc
          refine aw_ldc2 (v := 16) (M := M_X12_rule) (pc := 33) dX12_rule_33 kl_X12_343 ⟨by decide, by decide⟩ ?_
          refine aw_csi (as := [(1, a2), (1, 0), (1, 16)]) (st := []) (M := M_X12_rule) (pc := 36) (f_X12_isFrom  hF) dX12_rule_36 rfl cy_X12_isFrom ml_X12_316 (by decide) (by decide) (Nat.le_of_ble_eq_true rfl) (fun r6 h5 hF => ?_)
          refine aw_if_ne (tgt := 48) (M := M_X12_rule) (pc := 39) dX12_rule_39 rfl (fun hc => ?_) (fun hc => ?_)
          · have hF := hF.1 hc
            refine aw_aload_n (j := 0) (M := M_X12_rule) (pc := 48) dX12_rule_48 rfl rfl ?_
            refine gf_X12_7 (M := M_X12_rule) (pc := 49) rfl dX12_rule_49 rfl (r := 162) rfl ?_
            refine aw_iload_n (j := 1) (M := M_X12_rule) (pc := 52) dX12_rule_52 rfl rfl ?_
            refine aw_iload_n (j := 2) (M := M_X12_rule) (pc := 53) dX12_rule_53 rfl rfl ?_
            obtain ⟨o7, hF⟩ := hF
            refine aw_iast (k := (a1).toNat) (M := M_X12_rule) (pc := 54) dX12_rule_54 rfl o7 rfl ?_
            obtain ⟨h8, eh8⟩ : ∃ y : Mem, y = mset h5 162 (a1).toNat a2 := ⟨_, rfl⟩
            have hF := hF h8 eh8
            rw [← eh8]
            refine aw_aload_n (j := 0) (M := M_X12_rule) (pc := 55) dX12_rule_55 rfl rfl ?_
            refine aw_iconst (M := M_X12_rule) (pc := 56) dX12_rule_56 ⟨by decide, by decide⟩ ?_
            refine aw_cvi (as := [(0, 0)]) (st := []) (M := M_X12_rule) (pc := 57) (f_X12_is  hF) dX12_rule_57 rfl (Or.inl ⟨_, _, _, rfl, rfl⟩) cy_X12_is ml_X12_98 (by decide) (by decide) (Nat.le_of_ble_eq_true rfl) (fun r10 h9 hF => ?_)
            exact aw_iretz (M := M_X12_rule) (pc := 60) dX12_rule_60 rfl hF.1 ⟨_, rfl, hF.2⟩
          · have hF := hF.2 hc
            refine aw_aload_n (j := 0) (M := M_X12_rule) (pc := 42) dX12_rule_42 rfl rfl ?_
            refine aw_iconst (M := M_X12_rule) (pc := 43) dX12_rule_43 ⟨by decide, by decide⟩ ?_
            refine aw_cvi (as := [(0, 1)]) (st := []) (M := M_X12_rule) (pc := 44) (f_X12_is  hF) dX12_rule_44 rfl (Or.inl ⟨_, _, _, rfl, rfl⟩) cy_X12_is ml_X12_98 (by decide) (by decide) (Nat.le_of_ble_eq_true rfl) (fun r12 h11 hF => ?_)
            exact aw_iretz (M := M_X12_rule) (pc := 47) dX12_rule_47 rfl hF.1 ⟨_, rfl, hF.2⟩
        · have hF := hF.2 hc
          refine aw_ldc2 (v := 40) (M := M_X12_rule) (pc := 27) dX12_rule_27 kl_X12_341 ⟨by decide, by decide⟩ ?_
          refine aw_goto (tgt := 36) (M := M_X12_rule) (pc := 30) dX12_rule_30 rfl ?_
          refine aw_csi (as := [(1, a2), (1, 0), (1, 40)]) (st := []) (M := M_X12_rule) (pc := 36) (f_X12_isFrom  hF) dX12_rule_36 rfl cy_X12_isFrom ml_X12_316 (by decide) (by decide) (Nat.le_of_ble_eq_true rfl) (fun r14 h13 hF => ?_)
          refine aw_if_ne (tgt := 48) (M := M_X12_rule) (pc := 39) dX12_rule_39 rfl (fun hc => ?_) (fun hc => ?_)
          · have hF := hF.1 hc
            refine aw_aload_n (j := 0) (M := M_X12_rule) (pc := 48) dX12_rule_48 rfl rfl ?_
            refine gf_X12_7 (M := M_X12_rule) (pc := 49) rfl dX12_rule_49 rfl (r := 162) rfl ?_
            refine aw_iload_n (j := 1) (M := M_X12_rule) (pc := 52) dX12_rule_52 rfl rfl ?_
            refine aw_iload_n (j := 2) (M := M_X12_rule) (pc := 53) dX12_rule_53 rfl rfl ?_
            obtain ⟨o15, hF⟩ := hF
            refine aw_iast (k := (a1).toNat) (M := M_X12_rule) (pc := 54) dX12_rule_54 rfl o15 rfl ?_
            obtain ⟨h16, eh16⟩ : ∃ y : Mem, y = mset h13 162 (a1).toNat a2 := ⟨_, rfl⟩
            have hF := hF h16 eh16
            rw [← eh16]
            refine aw_aload_n (j := 0) (M := M_X12_rule) (pc := 55) dX12_rule_55 rfl rfl ?_
            refine aw_iconst (M := M_X12_rule) (pc := 56) dX12_rule_56 ⟨by decide, by decide⟩ ?_
            refine aw_cvi (as := [(0, 0)]) (st := []) (M := M_X12_rule) (pc := 57) (f_X12_is  hF) dX12_rule_57 rfl (Or.inl ⟨_, _, _, rfl, rfl⟩) cy_X12_is ml_X12_98 (by decide) (by decide) (Nat.le_of_ble_eq_true rfl) (fun r18 h17 hF => ?_)
            exact aw_iretz (M := M_X12_rule) (pc := 60) dX12_rule_60 rfl hF.1 ⟨_, rfl, hF.2⟩
          · have hF := hF.2 hc
            refine aw_aload_n (j := 0) (M := M_X12_rule) (pc := 42) dX12_rule_42 rfl rfl ?_
            refine aw_iconst (M := M_X12_rule) (pc := 43) dX12_rule_43 ⟨by decide, by decide⟩ ?_
            refine aw_cvi (as := [(0, 1)]) (st := []) (M := M_X12_rule) (pc := 44) (f_X12_is  hF) dX12_rule_44 rfl (Or.inl ⟨_, _, _, rfl, rfl⟩) cy_X12_is ml_X12_98 (by decide) (by decide) (Nat.le_of_ble_eq_true rfl) (fun r20 h19 hF => ?_)
            exact aw_iretz (M := M_X12_rule) (pc := 47) dX12_rule_47 rfl hF.1 ⟨_, rfl, hF.2⟩
      · have hF := hF.2 hc
        refine aw_lconst (v := 1) (M := M_X12_rule) (pc := 17) dX12_rule_17 ⟨rfl, ⟨by decide, by decide⟩⟩ ?_
        refine aw_goto (tgt := 22) (M := M_X12_rule) (pc := 18) dX12_rule_18 rfl ?_
        refine aw_iload_n (j := 1) (M := M_X12_rule) (pc := 22) dX12_rule_22 rfl rfl ?_
        refine aw_iconst (M := M_X12_rule) (pc := 23) dX12_rule_23 ⟨by decide, by decide⟩ ?_
        refine aw_icmp_ne (tgt := 33) (M := M_X12_rule) (pc := 24) dX12_rule_24 rfl (fun hc => ?_) (fun hc => ?_)
        · have hF := hF.1 hc
          refine aw_ldc2 (v := 16) (M := M_X12_rule) (pc := 33) dX12_rule_33 kl_X12_343 ⟨by decide, by decide⟩ ?_
          refine aw_csi (as := [(1, a2), (1, 1), (1, 16)]) (st := []) (M := M_X12_rule) (pc := 36) (f_X12_isFrom  hF) dX12_rule_36 rfl cy_X12_isFrom ml_X12_316 (by decide) (by decide) (Nat.le_of_ble_eq_true rfl) (fun r22 h21 hF => ?_)
          refine aw_if_ne (tgt := 48) (M := M_X12_rule) (pc := 39) dX12_rule_39 rfl (fun hc => ?_) (fun hc => ?_)
          · have hF := hF.1 hc
            refine aw_aload_n (j := 0) (M := M_X12_rule) (pc := 48) dX12_rule_48 rfl rfl ?_
            refine gf_X12_7 (M := M_X12_rule) (pc := 49) rfl dX12_rule_49 rfl (r := 162) rfl ?_
            refine aw_iload_n (j := 1) (M := M_X12_rule) (pc := 52) dX12_rule_52 rfl rfl ?_
            refine aw_iload_n (j := 2) (M := M_X12_rule) (pc := 53) dX12_rule_53 rfl rfl ?_
            obtain ⟨o23, hF⟩ := hF
            refine aw_iast (k := (a1).toNat) (M := M_X12_rule) (pc := 54) dX12_rule_54 rfl o23 rfl ?_
            obtain ⟨h24, eh24⟩ : ∃ y : Mem, y = mset h21 162 (a1).toNat a2 := ⟨_, rfl⟩
            have hF := hF h24 eh24
            rw [← eh24]
            refine aw_aload_n (j := 0) (M := M_X12_rule) (pc := 55) dX12_rule_55 rfl rfl ?_
            refine aw_iconst (M := M_X12_rule) (pc := 56) dX12_rule_56 ⟨by decide, by decide⟩ ?_
            refine aw_cvi (as := [(0, 0)]) (st := []) (M := M_X12_rule) (pc := 57) (f_X12_is  hF) dX12_rule_57 rfl (Or.inl ⟨_, _, _, rfl, rfl⟩) cy_X12_is ml_X12_98 (by decide) (by decide) (Nat.le_of_ble_eq_true rfl) (fun r26 h25 hF => ?_)
            exact aw_iretz (M := M_X12_rule) (pc := 60) dX12_rule_60 rfl hF.1 ⟨_, rfl, hF.2⟩
          · have hF := hF.2 hc
            refine aw_aload_n (j := 0) (M := M_X12_rule) (pc := 42) dX12_rule_42 rfl rfl ?_
            refine aw_iconst (M := M_X12_rule) (pc := 43) dX12_rule_43 ⟨by decide, by decide⟩ ?_
            refine aw_cvi (as := [(0, 1)]) (st := []) (M := M_X12_rule) (pc := 44) (f_X12_is  hF) dX12_rule_44 rfl (Or.inl ⟨_, _, _, rfl, rfl⟩) cy_X12_is ml_X12_98 (by decide) (by decide) (Nat.le_of_ble_eq_true rfl) (fun r28 h27 hF => ?_)
            exact aw_iretz (M := M_X12_rule) (pc := 47) dX12_rule_47 rfl hF.1 ⟨_, rfl, hF.2⟩
        · have hF := hF.2 hc
          refine aw_ldc2 (v := 40) (M := M_X12_rule) (pc := 27) dX12_rule_27 kl_X12_341 ⟨by decide, by decide⟩ ?_
          refine aw_goto (tgt := 36) (M := M_X12_rule) (pc := 30) dX12_rule_30 rfl ?_
          refine aw_csi (as := [(1, a2), (1, 1), (1, 40)]) (st := []) (M := M_X12_rule) (pc := 36) (f_X12_isFrom  hF) dX12_rule_36 rfl cy_X12_isFrom ml_X12_316 (by decide) (by decide) (Nat.le_of_ble_eq_true rfl) (fun r30 h29 hF => ?_)
          refine aw_if_ne (tgt := 48) (M := M_X12_rule) (pc := 39) dX12_rule_39 rfl (fun hc => ?_) (fun hc => ?_)
          · have hF := hF.1 hc
            refine aw_aload_n (j := 0) (M := M_X12_rule) (pc := 48) dX12_rule_48 rfl rfl ?_
            refine gf_X12_7 (M := M_X12_rule) (pc := 49) rfl dX12_rule_49 rfl (r := 162) rfl ?_
            refine aw_iload_n (j := 1) (M := M_X12_rule) (pc := 52) dX12_rule_52 rfl rfl ?_
            refine aw_iload_n (j := 2) (M := M_X12_rule) (pc := 53) dX12_rule_53 rfl rfl ?_
            obtain ⟨o31, hF⟩ := hF
            refine aw_iast (k := (a1).toNat) (M := M_X12_rule) (pc := 54) dX12_rule_54 rfl o31 rfl ?_
            obtain ⟨h32, eh32⟩ : ∃ y : Mem, y = mset h29 162 (a1).toNat a2 := ⟨_, rfl⟩
            have hF := hF h32 eh32
            rw [← eh32]
            refine aw_aload_n (j := 0) (M := M_X12_rule) (pc := 55) dX12_rule_55 rfl rfl ?_
            refine aw_iconst (M := M_X12_rule) (pc := 56) dX12_rule_56 ⟨by decide, by decide⟩ ?_
            refine aw_cvi (as := [(0, 0)]) (st := []) (M := M_X12_rule) (pc := 57) (f_X12_is  hF) dX12_rule_57 rfl (Or.inl ⟨_, _, _, rfl, rfl⟩) cy_X12_is ml_X12_98 (by decide) (by decide) (Nat.le_of_ble_eq_true rfl) (fun r34 h33 hF => ?_)
            exact aw_iretz (M := M_X12_rule) (pc := 60) dX12_rule_60 rfl hF.1 ⟨_, rfl, hF.2⟩
          · have hF := hF.2 hc
            refine aw_aload_n (j := 0) (M := M_X12_rule) (pc := 42) dX12_rule_42 rfl rfl ?_
            refine aw_iconst (M := M_X12_rule) (pc := 43) dX12_rule_43 ⟨by decide, by decide⟩ ?_
            refine aw_cvi (as := [(0, 1)]) (st := []) (M := M_X12_rule) (pc := 44) (f_X12_is  hF) dX12_rule_44 rfl (Or.inl ⟨_, _, _, rfl, rfl⟩) cy_X12_is ml_X12_98 (by decide) (by decide) (Nat.le_of_ble_eq_true rfl) (fun r36 h35 hF => ?_)
            exact aw_iretz (M := M_X12_rule) (pc := 47) dX12_rule_47 rfl hF.1 ⟨_, rfl, hF.2⟩
abbrev M_X12_share : Hd := (cX12_share, 4, RX12, (some .boolean), (3, 96), sc0)
def L_X12_share_18 (h : Mem) (v1 : Int) (v2 : Int) (v3 : Int) (Q : Int → Mem → Prop) : Prop := AW M_X12_share 18 [(0, vr 161), (1, (0, v1)), (2, (0, v2)), (3, (0, v3))] [] h (qi Q)
def B_X12_share_18 (h : Mem) (v1 : Int) (v2 : Int) (v3 : Int) (Q : Int → Mem → Prop) : Prop :=
  (((h 162 1) ≤ v3 → ((¬ (v2 = 0) → (F_X12_millOf h v1 2 (fun r7 h6 => (F_X12_tellsBy h6 r7 v2 (fun r9 h8 => (InZ r9 ∧ Q r9 h8)))))) ∧ (v2 = 0 → (F_X12_is h 6 (fun r11 h10 => (InZ r11 ∧ Q r11 h10)))))) ∧ (¬ ((h 162 1) ≤ v3) → (F_X12_millOf h v3 2 (fun r13 h12 => (InR (v2 + r13) ∧ (InR (v3 + 1) ∧ L_X12_share_18 h12 v1 (v2 + r13) (v3 + 1) Q))))))
set_option maxRecDepth 100000 in
set_option maxHeartbeats 4000000 in
theorem l_X12_share_18 {h : Mem} {v1 : Int} {v2 : Int} {v3 : Int} {Q : Int → Mem → Prop}  (hF : B_X12_share_18 h v1 v2 v3 Q) : L_X12_share_18 h v1 v2 v3 Q := by
  unfold B_X12_share_18 at hF
  show AW M_X12_share 18 [(0, vr 161), (1, (0, v1)), (2, (0, v2)), (3, (0, v3))] [] h (qi Q)
  refine aw_iload_n (j := 3) (M := M_X12_share) (pc := 18) dX12_share_18 rfl rfl ?_
  refine aw_aload_n (j := 0) (M := M_X12_share) (pc := 19) dX12_share_19 rfl rfl ?_
  refine gf_X12_7 (M := M_X12_share) (pc := 20) rfl dX12_share_20 rfl (r := 162) rfl ?_
  refine aw_iconst (M := M_X12_share) (pc := 23) dX12_share_23 ⟨by decide, by decide⟩ ?_
  refine aw_iald (k := 1) (M := M_X12_share) (pc := 24) dX12_share_24 rfl ⟨by decide, by decide⟩ rfl ?_
  refine aw_icmp_ge (tgt := 43) (M := M_X12_share) (pc := 25) dX12_share_25 rfl (fun hc => ?_) (fun hc => ?_)
  · have hF := hF.1 hc
    refine aw_iload_n (j := 2) (M := M_X12_share) (pc := 43) dX12_share_43 rfl rfl ?_
    refine aw_if_ne (tgt := 56) (M := M_X12_share) (pc := 44) dX12_share_44 rfl (fun hc => ?_) (fun hc => ?_)
    · have hF := hF.1 hc
      refine aw_aload_n (j := 0) (M := M_X12_share) (pc := 56) dX12_share_56 rfl rfl ?_
      refine aw_aload_n (j := 0) (M := M_X12_share) (pc := 57) dX12_share_57 rfl rfl ?_
      refine aw_iload_n (j := 1) (M := M_X12_share) (pc := 58) dX12_share_58 rfl rfl ?_
      refine aw_iconst (M := M_X12_share) (pc := 59) dX12_share_59 ⟨by decide, by decide⟩ ?_
      refine aw_cvi (as := [(0, v1), (0, 2)]) (st := [vr 161]) (M := M_X12_share) (pc := 60) (f_X12_millOf  hF) dX12_share_60 rfl (Or.inl ⟨_, _, _, rfl, rfl⟩) cy_X12_millOf ml_X12_290 (by decide) (by decide) (Nat.le_of_ble_eq_true rfl) (fun r7 h6 hF => ?_)
      refine aw_i2l (M := M_X12_share) (pc := 63) dX12_share_63 ?_
      refine aw_iload_n (j := 2) (M := M_X12_share) (pc := 64) dX12_share_64 rfl rfl ?_
      refine aw_i2l (M := M_X12_share) (pc := 65) dX12_share_65 ?_
      refine aw_cvi (as := [(1, r7), (1, v2)]) (st := []) (M := M_X12_share) (pc := 66) (f_X12_tellsBy  hF) dX12_share_66 rfl (Or.inl ⟨_, _, _, rfl, rfl⟩) cy_X12_tellsBy ml_X12_440 (by decide) (by decide) (Nat.le_of_ble_eq_true rfl) (fun r9 h8 hF => ?_)
      exact aw_iretz (M := M_X12_share) (pc := 69) dX12_share_69 rfl hF.1 ⟨_, rfl, hF.2⟩
    · have hF := hF.2 hc
      refine aw_aload_n (j := 0) (M := M_X12_share) (pc := 47) dX12_share_47 rfl rfl ?_
      refine aw_bipush (M := M_X12_share) (pc := 48) dX12_share_48 ⟨rfl, ⟨by decide, by decide⟩⟩ ?_
      refine aw_cvi (as := [(0, 6)]) (st := []) (M := M_X12_share) (pc := 50) (f_X12_is  hF) dX12_share_50 rfl (Or.inl ⟨_, _, _, rfl, rfl⟩) cy_X12_is ml_X12_98 (by decide) (by decide) (Nat.le_of_ble_eq_true rfl) (fun r11 h10 hF => ?_)
      refine aw_goto (tgt := 69) (M := M_X12_share) (pc := 53) dX12_share_53 rfl ?_
      exact aw_iretz (M := M_X12_share) (pc := 69) dX12_share_69 rfl hF.1 ⟨_, rfl, hF.2⟩
  · have hF := hF.2 hc
    refine aw_iload_n (j := 2) (M := M_X12_share) (pc := 28) dX12_share_28 rfl rfl ?_
    refine aw_aload_n (j := 0) (M := M_X12_share) (pc := 29) dX12_share_29 rfl rfl ?_
    refine aw_iload_n (j := 3) (M := M_X12_share) (pc := 30) dX12_share_30 rfl rfl ?_
    refine aw_iconst (M := M_X12_share) (pc := 31) dX12_share_31 ⟨by decide, by decide⟩ ?_
    refine aw_cvi (as := [(0, v3), (0, 2)]) (st := [(0, v2)]) (M := M_X12_share) (pc := 32) (f_X12_millOf  hF) dX12_share_32 rfl (Or.inl ⟨_, _, _, rfl, rfl⟩) cy_X12_millOf ml_X12_290 (by decide) (by decide) (Nat.le_of_ble_eq_true rfl) (fun r13 h12 hF => ?_)
    obtain ⟨o14, hF⟩ := hF
    refine aw_iadd (M := M_X12_share) (pc := 35) dX12_share_35 rfl o14 ?_
    refine aw_istore_n (ls' := [(2, (0, v2 + r13)), (0, vr 161), (1, (0, v1)), (3, (0, v3))]) (M := M_X12_share) (pc := 36) dX12_share_36 rfl (by decide) rfl ?_
    obtain ⟨o15, hF⟩ := hF
    refine aw_iinc (j := 3) (x := v3) (r := v3 + 1) (ls' := [(3, (0, v3 + 1)), (2, (0, v2 + r13)), (0, vr 161), (1, (0, v1))]) (M := M_X12_share) (pc := 37) dX12_share_37 rfl rfl o15 (by decide) rfl ?_
    refine aw_goto (tgt := 18) (M := M_X12_share) (pc := 40) dX12_share_40 rfl ?_
    exact aw_ls [2, 3, 1, 0] rfl hF
def F_X12_share (h : Mem) (a1 : Int) (Q : Int → Mem → Prop) : Prop :=
  (F_X12_isMill h a1 (fun r2 h1 => ((¬ (r2 = 0) → L_X12_share_18 h1 a1 0 0 Q) ∧ (r2 = 0 → (F_X12_is h1 1 (fun r4 h3 => (InZ r4 ∧ Q r4 h3)))))))
set_option maxRecDepth 100000 in
set_option maxHeartbeats 4000000 in
theorem f_X12_share {h : Mem} {a1 : Int} {Q : Int → Mem → Prop}  (hF : F_X12_share h a1 Q) : Ct yX12_share cX12_share 4 (some .boolean) (3, 96) [vr 161, (0, a1)] h (qi Q) := by
  refine Ct.of np_RX12 (Nat.le_of_ble_eq_true rfl) ?_
  unfold F_X12_share at hF
  show AW M_X12_share 0 [(0, vr 161), (1, (0, a1))] [] h (qi Q)
  refine aw_aload_n (j := 0) (M := M_X12_share) (pc := 0) dX12_share_0 rfl rfl ?_
  refine aw_iload_n (j := 1) (M := M_X12_share) (pc := 1) dX12_share_1 rfl rfl ?_
  refine aw_cvi (as := [(0, a1)]) (st := []) (M := M_X12_share) (pc := 2) (f_X12_isMill  hF) dX12_share_2 rfl (Or.inl ⟨_, _, _, rfl, rfl⟩) cy_X12_isMill ml_X12_287 (by decide) (by decide) (Nat.le_of_ble_eq_true rfl) (fun r2 h1 hF => ?_)
  refine aw_if_ne (tgt := 14) (M := M_X12_share) (pc := 5) dX12_share_5 rfl (fun hc => ?_) (fun hc => ?_)
  · have hF := hF.1 hc
    refine aw_iconst (M := M_X12_share) (pc := 14) dX12_share_14 ⟨by decide, by decide⟩ ?_
    refine aw_istore_n (ls' := [(2, (0, 0)), (0, vr 161), (1, (0, a1))]) (M := M_X12_share) (pc := 15) dX12_share_15 rfl (by decide) rfl ?_
    refine aw_iconst (M := M_X12_share) (pc := 16) dX12_share_16 ⟨by decide, by decide⟩ ?_
    refine aw_istore_n (ls' := [(3, (0, 0)), (2, (0, 0)), (0, vr 161), (1, (0, a1))]) (M := M_X12_share) (pc := 17) dX12_share_17 rfl (by decide) rfl ?_
    exact aw_ls [2, 3, 1, 0] rfl hF
  · have hF := hF.2 hc
    refine aw_aload_n (j := 0) (M := M_X12_share) (pc := 8) dX12_share_8 rfl rfl ?_
    refine aw_iconst (M := M_X12_share) (pc := 9) dX12_share_9 ⟨by decide, by decide⟩ ?_
    refine aw_cvi (as := [(0, 1)]) (st := []) (M := M_X12_share) (pc := 10) (f_X12_is  hF) dX12_share_10 rfl (Or.inl ⟨_, _, _, rfl, rfl⟩) cy_X12_is ml_X12_98 (by decide) (by decide) (Nat.le_of_ble_eq_true rfl) (fun r4 h3 hF => ?_)
    exact aw_iretz (M := M_X12_share) (pc := 13) dX12_share_13 rfl hF.1 ⟨_, rfl, hF.2⟩
abbrev M_X12_soonest : Hd := (cX12_soonest, 2, RX12, (some .int), (10, 242), sc0)
def F_X12_soonest (h : Mem) (a1 : Int) (Q : Int → Mem → Prop) : Prop :=
  (F_X12_isThing h a1 (fun r2 h1 => ((¬ (r2 = 0) → (F_X12_isFree h1 a1 (fun r4 h3 => ((¬ (r4 = 0) → (F_X12_laysSoonest h3 a1 (fun h5 => (F_X12_orNone h5 (h5 161 26) (fun r8 h7 => Q r8 h7))))) ∧ (r4 = 0 → (F_X12_refuse h3 7 (fun r10 h9 => Q r10 h9))))))) ∧ (r2 = 0 → (F_X12_refuse h1 1 (fun r12 h11 => Q r12 h11))))))
set_option maxRecDepth 100000 in
set_option maxHeartbeats 4000000 in
theorem f_X12_soonest {h : Mem} {a1 : Int} {Q : Int → Mem → Prop}  (hF : F_X12_soonest h a1 Q) : Ct yX12_soonest cX12_soonest 2 (some .int) (10, 242) [vr 161, (0, a1)] h (qi Q) := by
  refine Ct.of np_RX12 (Nat.le_of_ble_eq_true rfl) ?_
  unfold F_X12_soonest at hF
  show AW M_X12_soonest 0 [(0, vr 161), (1, (0, a1))] [] h (qi Q)
  refine aw_aload_n (j := 0) (M := M_X12_soonest) (pc := 0) dX12_soonest_0 rfl rfl ?_
  refine aw_iload_n (j := 1) (M := M_X12_soonest) (pc := 1) dX12_soonest_1 rfl rfl ?_
  refine aw_cvi (as := [(0, a1)]) (st := []) (M := M_X12_soonest) (pc := 2) (f_X12_isThing  hF) dX12_soonest_2 rfl (Or.inl ⟨_, _, _, rfl, rfl⟩) cy_X12_isThing ml_X12_284 (by decide) (by decide) (Nat.le_of_ble_eq_true rfl) (fun r2 h1 hF => ?_)
  refine aw_if_ne (tgt := 14) (M := M_X12_soonest) (pc := 5) dX12_soonest_5 rfl (fun hc => ?_) (fun hc => ?_)
  · have hF := hF.1 hc
    refine aw_aload_n (j := 0) (M := M_X12_soonest) (pc := 14) dX12_soonest_14 rfl rfl ?_
    refine aw_iload_n (j := 1) (M := M_X12_soonest) (pc := 15) dX12_soonest_15 rfl rfl ?_
    refine aw_cvi (as := [(0, a1)]) (st := []) (M := M_X12_soonest) (pc := 16) (f_X12_isFree  hF) dX12_soonest_16 rfl (Or.inl ⟨_, _, _, rfl, rfl⟩) cy_X12_isFree ml_X12_323 (by decide) (by decide) (Nat.le_of_ble_eq_true rfl) (fun r4 h3 hF => ?_)
    refine aw_if_ne (tgt := 29) (M := M_X12_soonest) (pc := 19) dX12_soonest_19 rfl (fun hc => ?_) (fun hc => ?_)
    · have hF := hF.1 hc
      refine aw_aload_n (j := 0) (M := M_X12_soonest) (pc := 29) dX12_soonest_29 rfl rfl ?_
      refine aw_iload_n (j := 1) (M := M_X12_soonest) (pc := 30) dX12_soonest_30 rfl rfl ?_
      refine aw_cvv (as := [(0, a1)]) (st := []) (M := M_X12_soonest) (pc := 31) (f_X12_laysSoonest  hF) dX12_soonest_31 rfl (Or.inl ⟨_, _, _, rfl, rfl⟩) cy_X12_laysSoonest ml_X12_380 (by decide) (by decide) (Nat.le_of_ble_eq_true rfl) (fun h5 hF => ?_)
      refine aw_aload_n (j := 0) (M := M_X12_soonest) (pc := 34) dX12_soonest_34 rfl rfl ?_
      refine aw_aload_n (j := 0) (M := M_X12_soonest) (pc := 35) dX12_soonest_35 rfl rfl ?_
      refine gf_X12_377 (M := M_X12_soonest) (pc := 36) rfl dX12_soonest_36 rfl ?_
      refine aw_cvi (as := [(0, h5 161 26)]) (st := []) (M := M_X12_soonest) (pc := 39) (f_X12_orNone  hF) dX12_soonest_39 rfl (Or.inl ⟨_, _, _, rfl, rfl⟩) cy_X12_orNone ml_X12_296 (by decide) (by decide) (Nat.le_of_ble_eq_true rfl) (fun r8 h7 hF => ?_)
      exact aw_ireti (M := M_X12_soonest) (pc := 42) dX12_soonest_42 rfl ⟨_, rfl, hF⟩
    · have hF := hF.2 hc
      refine aw_aload_n (j := 0) (M := M_X12_soonest) (pc := 22) dX12_soonest_22 rfl rfl ?_
      refine aw_bipush (M := M_X12_soonest) (pc := 23) dX12_soonest_23 ⟨rfl, ⟨by decide, by decide⟩⟩ ?_
      refine aw_cvi (as := [(0, 7)]) (st := []) (M := M_X12_soonest) (pc := 25) (f_X12_refuse  hF) dX12_soonest_25 rfl (Or.inl ⟨_, _, _, rfl, rfl⟩) cy_X12_refuse ml_X12_91 (by decide) (by decide) (Nat.le_of_ble_eq_true rfl) (fun r10 h9 hF => ?_)
      exact aw_ireti (M := M_X12_soonest) (pc := 28) dX12_soonest_28 rfl ⟨_, rfl, hF⟩
  · have hF := hF.2 hc
    refine aw_aload_n (j := 0) (M := M_X12_soonest) (pc := 8) dX12_soonest_8 rfl rfl ?_
    refine aw_iconst (M := M_X12_soonest) (pc := 9) dX12_soonest_9 ⟨by decide, by decide⟩ ?_
    refine aw_cvi (as := [(0, 1)]) (st := []) (M := M_X12_soonest) (pc := 10) (f_X12_refuse  hF) dX12_soonest_10 rfl (Or.inl ⟨_, _, _, rfl, rfl⟩) cy_X12_refuse ml_X12_91 (by decide) (by decide) (Nat.le_of_ble_eq_true rfl) (fun r12 h11 hF => ?_)
    exact aw_ireti (M := M_X12_soonest) (pc := 13) dX12_soonest_13 rfl ⟨_, rfl, hF⟩
abbrev M_X12_soonestIn : Hd := (cX12_soonestIn, 2, RX12, (some .int), (10, 242), sc0)
def F_X12_soonestIn (h : Mem) (a1 : Int) (Q : Int → Mem → Prop) : Prop :=
  (F_X12_isThing h a1 (fun r2 h1 => ((¬ (r2 = 0) → (F_X12_isFree h1 a1 (fun r4 h3 => ((¬ (r4 = 0) → (F_X12_laysSoonest h3 a1 (fun h5 => ((¬ ((h5 161 26) = (-1)) → (F_X12_gives h5 (h5 161 25) (fun r8 h7 => Q r8 h7))) ∧ ((h5 161 26) = (-1) → (F_X12_refuse h5 6 (fun r10 h9 => Q r10 h9))))))) ∧ (r4 = 0 → (F_X12_refuse h3 7 (fun r12 h11 => Q r12 h11))))))) ∧ (r2 = 0 → (F_X12_refuse h1 1 (fun r14 h13 => Q r14 h13))))))
set_option maxRecDepth 100000 in
set_option maxHeartbeats 4000000 in
theorem f_X12_soonestIn {h : Mem} {a1 : Int} {Q : Int → Mem → Prop}  (hF : F_X12_soonestIn h a1 Q) : Ct yX12_soonestIn cX12_soonestIn 2 (some .int) (10, 242) [vr 161, (0, a1)] h (qi Q) := by
  refine Ct.of np_RX12 (Nat.le_of_ble_eq_true rfl) ?_
  unfold F_X12_soonestIn at hF
  show AW M_X12_soonestIn 0 [(0, vr 161), (1, (0, a1))] [] h (qi Q)
  refine aw_aload_n (j := 0) (M := M_X12_soonestIn) (pc := 0) dX12_soonestIn_0 rfl rfl ?_
  refine aw_iload_n (j := 1) (M := M_X12_soonestIn) (pc := 1) dX12_soonestIn_1 rfl rfl ?_
  refine aw_cvi (as := [(0, a1)]) (st := []) (M := M_X12_soonestIn) (pc := 2) (f_X12_isThing  hF) dX12_soonestIn_2 rfl (Or.inl ⟨_, _, _, rfl, rfl⟩) cy_X12_isThing ml_X12_284 (by decide) (by decide) (Nat.le_of_ble_eq_true rfl) (fun r2 h1 hF => ?_)
  refine aw_if_ne (tgt := 14) (M := M_X12_soonestIn) (pc := 5) dX12_soonestIn_5 rfl (fun hc => ?_) (fun hc => ?_)
  · have hF := hF.1 hc
    refine aw_aload_n (j := 0) (M := M_X12_soonestIn) (pc := 14) dX12_soonestIn_14 rfl rfl ?_
    refine aw_iload_n (j := 1) (M := M_X12_soonestIn) (pc := 15) dX12_soonestIn_15 rfl rfl ?_
    refine aw_cvi (as := [(0, a1)]) (st := []) (M := M_X12_soonestIn) (pc := 16) (f_X12_isFree  hF) dX12_soonestIn_16 rfl (Or.inl ⟨_, _, _, rfl, rfl⟩) cy_X12_isFree ml_X12_323 (by decide) (by decide) (Nat.le_of_ble_eq_true rfl) (fun r4 h3 hF => ?_)
    refine aw_if_ne (tgt := 29) (M := M_X12_soonestIn) (pc := 19) dX12_soonestIn_19 rfl (fun hc => ?_) (fun hc => ?_)
    · have hF := hF.1 hc
      refine aw_aload_n (j := 0) (M := M_X12_soonestIn) (pc := 29) dX12_soonestIn_29 rfl rfl ?_
      refine aw_iload_n (j := 1) (M := M_X12_soonestIn) (pc := 30) dX12_soonestIn_30 rfl rfl ?_
      refine aw_cvv (as := [(0, a1)]) (st := []) (M := M_X12_soonestIn) (pc := 31) (f_X12_laysSoonest  hF) dX12_soonestIn_31 rfl (Or.inl ⟨_, _, _, rfl, rfl⟩) cy_X12_laysSoonest ml_X12_380 (by decide) (by decide) (Nat.le_of_ble_eq_true rfl) (fun h5 hF => ?_)
      refine aw_aload_n (j := 0) (M := M_X12_soonestIn) (pc := 34) dX12_soonestIn_34 rfl rfl ?_
      refine gf_X12_377 (M := M_X12_soonestIn) (pc := 35) rfl dX12_soonestIn_35 rfl ?_
      refine aw_iconst (M := M_X12_soonestIn) (pc := 38) dX12_soonestIn_38 ⟨by decide, by decide⟩ ?_
      refine aw_icmp_ne (tgt := 51) (M := M_X12_soonestIn) (pc := 39) dX12_soonestIn_39 rfl (fun hc => ?_) (fun hc => ?_)
      · have hF := hF.1 hc
        refine aw_aload_n (j := 0) (M := M_X12_soonestIn) (pc := 51) dX12_soonestIn_51 rfl rfl ?_
        refine aw_aload_n (j := 0) (M := M_X12_soonestIn) (pc := 52) dX12_soonestIn_52 rfl rfl ?_
        refine gf_X12_374 (M := M_X12_soonestIn) (pc := 53) rfl dX12_soonestIn_53 rfl ?_
        refine aw_cvi (as := [(0, h5 161 25)]) (st := []) (M := M_X12_soonestIn) (pc := 56) (f_X12_gives  hF) dX12_soonestIn_56 rfl (Or.inl ⟨_, _, _, rfl, rfl⟩) cy_X12_gives ml_X12_95 (by decide) (by decide) (Nat.le_of_ble_eq_true rfl) (fun r8 h7 hF => ?_)
        exact aw_ireti (M := M_X12_soonestIn) (pc := 59) dX12_soonestIn_59 rfl ⟨_, rfl, hF⟩
      · have hF := hF.2 hc
        refine aw_aload_n (j := 0) (M := M_X12_soonestIn) (pc := 42) dX12_soonestIn_42 rfl rfl ?_
        refine aw_bipush (M := M_X12_soonestIn) (pc := 43) dX12_soonestIn_43 ⟨rfl, ⟨by decide, by decide⟩⟩ ?_
        refine aw_cvi (as := [(0, 6)]) (st := []) (M := M_X12_soonestIn) (pc := 45) (f_X12_refuse  hF) dX12_soonestIn_45 rfl (Or.inl ⟨_, _, _, rfl, rfl⟩) cy_X12_refuse ml_X12_91 (by decide) (by decide) (Nat.le_of_ble_eq_true rfl) (fun r10 h9 hF => ?_)
        refine aw_goto (tgt := 59) (M := M_X12_soonestIn) (pc := 48) dX12_soonestIn_48 rfl ?_
        exact aw_ireti (M := M_X12_soonestIn) (pc := 59) dX12_soonestIn_59 rfl ⟨_, rfl, hF⟩
    · have hF := hF.2 hc
      refine aw_aload_n (j := 0) (M := M_X12_soonestIn) (pc := 22) dX12_soonestIn_22 rfl rfl ?_
      refine aw_bipush (M := M_X12_soonestIn) (pc := 23) dX12_soonestIn_23 ⟨rfl, ⟨by decide, by decide⟩⟩ ?_
      refine aw_cvi (as := [(0, 7)]) (st := []) (M := M_X12_soonestIn) (pc := 25) (f_X12_refuse  hF) dX12_soonestIn_25 rfl (Or.inl ⟨_, _, _, rfl, rfl⟩) cy_X12_refuse ml_X12_91 (by decide) (by decide) (Nat.le_of_ble_eq_true rfl) (fun r12 h11 hF => ?_)
      exact aw_ireti (M := M_X12_soonestIn) (pc := 28) dX12_soonestIn_28 rfl ⟨_, rfl, hF⟩
  · have hF := hF.2 hc
    refine aw_aload_n (j := 0) (M := M_X12_soonestIn) (pc := 8) dX12_soonestIn_8 rfl rfl ?_
    refine aw_iconst (M := M_X12_soonestIn) (pc := 9) dX12_soonestIn_9 ⟨by decide, by decide⟩ ?_
    refine aw_cvi (as := [(0, 1)]) (st := []) (M := M_X12_soonestIn) (pc := 10) (f_X12_refuse  hF) dX12_soonestIn_10 rfl (Or.inl ⟨_, _, _, rfl, rfl⟩) cy_X12_refuse ml_X12_91 (by decide) (by decide) (Nat.le_of_ble_eq_true rfl) (fun r14 h13 hF => ?_)
    exact aw_ireti (M := M_X12_soonestIn) (pc := 13) dX12_soonestIn_13 rfl ⟨_, rfl, hF⟩
abbrev M_X12_status : Hd := (cX12_status, 1, RX12, (some .int), (1, 45), sc0)
def F_X12_status (h : Mem)  (Q : Int → Mem → Prop) : Prop :=
  Q (h 161 2) h
set_option maxRecDepth 100000 in
set_option maxHeartbeats 4000000 in
theorem f_X12_status {h : Mem}  {Q : Int → Mem → Prop}  (hF : F_X12_status h  Q) : Ct yX12_status cX12_status 1 (some .int) (1, 45) [vr 161] h (qi Q) := by
  refine Ct.of np_RX12 (Nat.le_of_ble_eq_true rfl) ?_
  unfold F_X12_status at hF
  show AW M_X12_status 0 [(0, vr 161)] [] h (qi Q)
  refine aw_aload_n (j := 0) (M := M_X12_status) (pc := 0) dX12_status_0 rfl rfl ?_
  refine gf_X12_85 (M := M_X12_status) (pc := 1) rfl dX12_status_1 rfl ?_
  exact aw_ireti (M := M_X12_status) (pc := 4) dX12_status_4 rfl ⟨_, rfl, hF⟩
abbrev M_X12_thing : Hd := (cX12_thing, 3, RX12, (some .int), (3, 87), sc0)
def F_X12_thing (h : Mem) (a1 : Int) (a2 : Int) (Q : Int → Mem → Prop) : Prop :=
  (F_X12_isThing h a1 (fun r2 h1 => ((r2 = 0 → (F_X12_refuse h1 1 (fun r4 h3 => Q r4 h3))) ∧ (¬ (r2 = 0) → ((a2 < 0 → (F_X12_refuse h1 1 (fun r6 h5 => Q r6 h5))) ∧ (¬ (a2 < 0) → ((a2 ≤ 5 → ((a2 = 4 → (F_X12_thingOf h1 a1 5 (fun r8 h7 => (F_X12_gives h7 r8 (fun r10 h9 => Q r10 h9))))) ∧ ((a2 = 5 → (F_X12_thingOf h1 a1 6 (fun r12 h11 => (F_X12_gives h11 r12 (fun r14 h13 => Q r14 h13))))) ∧ ((¬ (a2 = 4) ∧ ¬ (a2 = 5)) → (F_X12_thingOf h1 a1 a2 (fun r16 h15 => (F_X12_gives h15 r16 (fun r18 h17 => Q r18 h17)))))))) ∧ (¬ (a2 ≤ 5) → (F_X12_refuse h1 1 (fun r20 h19 => Q r20 h19))))))))))
set_option maxRecDepth 100000 in
set_option maxHeartbeats 4000000 in
theorem f_X12_thing {h : Mem} {a1 : Int} {a2 : Int} {Q : Int → Mem → Prop}  (hF : F_X12_thing h a1 a2 Q) : Ct yX12_thing cX12_thing 3 (some .int) (3, 87) [vr 161, (0, a1), (0, a2)] h (qi Q) := by
  refine Ct.of np_RX12 (Nat.le_of_ble_eq_true rfl) ?_
  unfold F_X12_thing at hF
  show AW M_X12_thing 0 [(0, vr 161), (1, (0, a1)), (2, (0, a2))] [] h (qi Q)
  refine aw_aload_n (j := 0) (M := M_X12_thing) (pc := 0) dX12_thing_0 rfl rfl ?_
  refine aw_iload_n (j := 1) (M := M_X12_thing) (pc := 1) dX12_thing_1 rfl rfl ?_
  refine aw_cvi (as := [(0, a1)]) (st := []) (M := M_X12_thing) (pc := 2) (f_X12_isThing  hF) dX12_thing_2 rfl (Or.inl ⟨_, _, _, rfl, rfl⟩) cy_X12_isThing ml_X12_284 (by decide) (by decide) (Nat.le_of_ble_eq_true rfl) (fun r2 h1 hF => ?_)
  refine aw_if_eq (tgt := 17) (M := M_X12_thing) (pc := 5) dX12_thing_5 rfl (fun hc => ?_) (fun hc => ?_)
  · have hF := hF.1 hc
    refine aw_aload_n (j := 0) (M := M_X12_thing) (pc := 17) dX12_thing_17 rfl rfl ?_
    refine aw_iconst (M := M_X12_thing) (pc := 18) dX12_thing_18 ⟨by decide, by decide⟩ ?_
    refine aw_cvi (as := [(0, 1)]) (st := []) (M := M_X12_thing) (pc := 19) (f_X12_refuse  hF) dX12_thing_19 rfl (Or.inl ⟨_, _, _, rfl, rfl⟩) cy_X12_refuse ml_X12_91 (by decide) (by decide) (Nat.le_of_ble_eq_true rfl) (fun r4 h3 hF => ?_)
    exact aw_ireti (M := M_X12_thing) (pc := 22) dX12_thing_22 rfl ⟨_, rfl, hF⟩
  · have hF := hF.2 hc
    refine aw_iload_n (j := 2) (M := M_X12_thing) (pc := 8) dX12_thing_8 rfl rfl ?_
    refine aw_if_lt (tgt := 17) (M := M_X12_thing) (pc := 9) dX12_thing_9 rfl (fun hc => ?_) (fun hc => ?_)
    · have hF := hF.1 hc
      refine aw_aload_n (j := 0) (M := M_X12_thing) (pc := 17) dX12_thing_17 rfl rfl ?_
      refine aw_iconst (M := M_X12_thing) (pc := 18) dX12_thing_18 ⟨by decide, by decide⟩ ?_
      refine aw_cvi (as := [(0, 1)]) (st := []) (M := M_X12_thing) (pc := 19) (f_X12_refuse  hF) dX12_thing_19 rfl (Or.inl ⟨_, _, _, rfl, rfl⟩) cy_X12_refuse ml_X12_91 (by decide) (by decide) (Nat.le_of_ble_eq_true rfl) (fun r6 h5 hF => ?_)
      exact aw_ireti (M := M_X12_thing) (pc := 22) dX12_thing_22 rfl ⟨_, rfl, hF⟩
    · have hF := hF.2 hc
      refine aw_iload_n (j := 2) (M := M_X12_thing) (pc := 12) dX12_thing_12 rfl rfl ?_
      refine aw_iconst (M := M_X12_thing) (pc := 13) dX12_thing_13 ⟨by decide, by decide⟩ ?_
      refine aw_icmp_le (tgt := 23) (M := M_X12_thing) (pc := 14) dX12_thing_14 rfl (fun hc => ?_) (fun hc => ?_)
      · have hF := hF.1 hc
        refine aw_iload_n (j := 2) (M := M_X12_thing) (pc := 23) dX12_thing_23 rfl rfl ?_
        by_cases hc : a2 = 4
        · have hF := hF.1 hc
          refine aw_lookup (tgt := 52) (M := M_X12_thing) (pc := 24) dX12_thing_24 (by decide) (off := 28) (by rw [hc]; rfl) rfl ?_
          refine aw_aload_n (j := 0) (M := M_X12_thing) (pc := 52) dX12_thing_52 rfl rfl ?_
          refine aw_aload_n (j := 0) (M := M_X12_thing) (pc := 53) dX12_thing_53 rfl rfl ?_
          refine aw_iload_n (j := 1) (M := M_X12_thing) (pc := 54) dX12_thing_54 rfl rfl ?_
          refine aw_iconst (M := M_X12_thing) (pc := 55) dX12_thing_55 ⟨by decide, by decide⟩ ?_
          refine aw_cvi (as := [(0, a1), (0, 5)]) (st := [vr 161]) (M := M_X12_thing) (pc := 56) (f_X12_thingOf  hF) dX12_thing_56 rfl (Or.inl ⟨_, _, _, rfl, rfl⟩) cy_X12_thingOf ml_X12_263 (by decide) (by decide) (Nat.le_of_ble_eq_true rfl) (fun r8 h7 hF => ?_)
          refine aw_cvi (as := [(0, r8)]) (st := []) (M := M_X12_thing) (pc := 59) (f_X12_gives  hF) dX12_thing_59 rfl (Or.inl ⟨_, _, _, rfl, rfl⟩) cy_X12_gives ml_X12_95 (by decide) (by decide) (Nat.le_of_ble_eq_true rfl) (fun r10 h9 hF => ?_)
          exact aw_ireti (M := M_X12_thing) (pc := 62) dX12_thing_62 rfl ⟨_, rfl, hF⟩
        have hF := hF.2
        have hc0 := hc
        by_cases hc : a2 = 5
        · have hF := hF.1 hc
          refine aw_lookup (tgt := 63) (M := M_X12_thing) (pc := 24) dX12_thing_24 (by decide) (off := 39) (by rw [hc]; rfl) rfl ?_
          refine aw_aload_n (j := 0) (M := M_X12_thing) (pc := 63) dX12_thing_63 rfl rfl ?_
          refine aw_aload_n (j := 0) (M := M_X12_thing) (pc := 64) dX12_thing_64 rfl rfl ?_
          refine aw_iload_n (j := 1) (M := M_X12_thing) (pc := 65) dX12_thing_65 rfl rfl ?_
          refine aw_bipush (M := M_X12_thing) (pc := 66) dX12_thing_66 ⟨rfl, ⟨by decide, by decide⟩⟩ ?_
          refine aw_cvi (as := [(0, a1), (0, 6)]) (st := [vr 161]) (M := M_X12_thing) (pc := 68) (f_X12_thingOf  hF) dX12_thing_68 rfl (Or.inl ⟨_, _, _, rfl, rfl⟩) cy_X12_thingOf ml_X12_263 (by decide) (by decide) (Nat.le_of_ble_eq_true rfl) (fun r12 h11 hF => ?_)
          refine aw_cvi (as := [(0, r12)]) (st := []) (M := M_X12_thing) (pc := 71) (f_X12_gives  hF) dX12_thing_71 rfl (Or.inl ⟨_, _, _, rfl, rfl⟩) cy_X12_gives ml_X12_95 (by decide) (by decide) (Nat.le_of_ble_eq_true rfl) (fun r14 h13 hF => ?_)
          exact aw_ireti (M := M_X12_thing) (pc := 74) dX12_thing_74 rfl ⟨_, rfl, hF⟩
        have hF := hF.2
        have hc1 := hc
        have hF := hF ⟨hc0, hc1⟩
        refine aw_lookup (off := 51) (tgt := 75) (M := M_X12_thing) (pc := 24) dX12_thing_24 (by decide) (by simp [Op.lookupswitch.offset_cons, Op.lookupswitch.offset, hc0, Ne.symm hc0, hc1, Ne.symm hc1]) rfl ?_
        refine aw_aload_n (j := 0) (M := M_X12_thing) (pc := 75) dX12_thing_75 rfl rfl ?_
        refine aw_aload_n (j := 0) (M := M_X12_thing) (pc := 76) dX12_thing_76 rfl rfl ?_
        refine aw_iload_n (j := 1) (M := M_X12_thing) (pc := 77) dX12_thing_77 rfl rfl ?_
        refine aw_iload_n (j := 2) (M := M_X12_thing) (pc := 78) dX12_thing_78 rfl rfl ?_
        refine aw_cvi (as := [(0, a1), (0, a2)]) (st := [vr 161]) (M := M_X12_thing) (pc := 79) (f_X12_thingOf  hF) dX12_thing_79 rfl (Or.inl ⟨_, _, _, rfl, rfl⟩) cy_X12_thingOf ml_X12_263 (by decide) (by decide) (Nat.le_of_ble_eq_true rfl) (fun r16 h15 hF => ?_)
        refine aw_cvi (as := [(0, r16)]) (st := []) (M := M_X12_thing) (pc := 82) (f_X12_gives  hF) dX12_thing_82 rfl (Or.inl ⟨_, _, _, rfl, rfl⟩) cy_X12_gives ml_X12_95 (by decide) (by decide) (Nat.le_of_ble_eq_true rfl) (fun r18 h17 hF => ?_)
        exact aw_ireti (M := M_X12_thing) (pc := 85) dX12_thing_85 rfl ⟨_, rfl, hF⟩
      · have hF := hF.2 hc
        refine aw_aload_n (j := 0) (M := M_X12_thing) (pc := 17) dX12_thing_17 rfl rfl ?_
        refine aw_iconst (M := M_X12_thing) (pc := 18) dX12_thing_18 ⟨by decide, by decide⟩ ?_
        refine aw_cvi (as := [(0, 1)]) (st := []) (M := M_X12_thing) (pc := 19) (f_X12_refuse  hF) dX12_thing_19 rfl (Or.inl ⟨_, _, _, rfl, rfl⟩) cy_X12_refuse ml_X12_91 (by decide) (by decide) (Nat.le_of_ble_eq_true rfl) (fun r20 h19 hF => ?_)
        exact aw_ireti (M := M_X12_thing) (pc := 22) dX12_thing_22 rfl ⟨_, rfl, hF⟩
abbrev M_X12_told : Hd := (cX12_told, 2, RX12, (some .int), (5, 132), sc0)
def F_X12_told (h : Mem) (a1 : Int) (Q : Int → Mem → Prop) : Prop :=
  ((a1 < 0 → (F_X12_refuse h 1 (fun r2 h1 => Q r2 h1))) ∧ (¬ (a1 < 0) → ((a1 ≤ 14 → ((9 ≤ a1 → ((¬ (a1 = 14) → (InR (a1 - 9) ∧ (F_X12_thingsThat h (a1 - 9) (fun r5 h4 => (F_X12_gives h4 r5 (fun r7 h6 => Q r7 h6)))))) ∧ (a1 = 14 → (F_X12_thingsThat h 2 (fun r9 h8 => (F_X12_weightOf h8 r9 (fun r11 h10 => (F_X12_gives h10 r11 (fun r13 h12 => Q r13 h12))))))))) ∧ (¬ (9 ≤ a1) → ((0 ≤ a1 ∧ a1 < 3008) ∧ (F_X12_gives h (h 162 (a1).toNat) (fun r17 h16 => Q r17 h16)))))) ∧ (¬ (a1 ≤ 14) → (F_X12_refuse h 1 (fun r19 h18 => Q r19 h18))))))
set_option maxRecDepth 100000 in
set_option maxHeartbeats 4000000 in
theorem f_X12_told {h : Mem} {a1 : Int} {Q : Int → Mem → Prop}  (hF : F_X12_told h a1 Q) : Ct yX12_told cX12_told 2 (some .int) (5, 132) [vr 161, (0, a1)] h (qi Q) := by
  refine Ct.of np_RX12 (Nat.le_of_ble_eq_true rfl) ?_
  unfold F_X12_told at hF
  show AW M_X12_told 0 [(0, vr 161), (1, (0, a1))] [] h (qi Q)
  refine aw_iload_n (j := 1) (M := M_X12_told) (pc := 0) dX12_told_0 rfl rfl ?_
  refine aw_if_lt (tgt := 10) (M := M_X12_told) (pc := 1) dX12_told_1 rfl (fun hc => ?_) (fun hc => ?_)
  · have hF := hF.1 hc
    refine aw_aload_n (j := 0) (M := M_X12_told) (pc := 10) dX12_told_10 rfl rfl ?_
    refine aw_iconst (M := M_X12_told) (pc := 11) dX12_told_11 ⟨by decide, by decide⟩ ?_
    refine aw_cvi (as := [(0, 1)]) (st := []) (M := M_X12_told) (pc := 12) (f_X12_refuse  hF) dX12_told_12 rfl (Or.inl ⟨_, _, _, rfl, rfl⟩) cy_X12_refuse ml_X12_91 (by decide) (by decide) (Nat.le_of_ble_eq_true rfl) (fun r2 h1 hF => ?_)
    exact aw_ireti (M := M_X12_told) (pc := 15) dX12_told_15 rfl ⟨_, rfl, hF⟩
  · have hF := hF.2 hc
    refine aw_iload_n (j := 1) (M := M_X12_told) (pc := 4) dX12_told_4 rfl rfl ?_
    refine aw_bipush (M := M_X12_told) (pc := 5) dX12_told_5 ⟨rfl, ⟨by decide, by decide⟩⟩ ?_
    refine aw_icmp_le (tgt := 16) (M := M_X12_told) (pc := 7) dX12_told_7 rfl (fun hc => ?_) (fun hc => ?_)
    · have hF := hF.1 hc
      refine aw_iload_n (j := 1) (M := M_X12_told) (pc := 16) dX12_told_16 rfl rfl ?_
      refine aw_bipush (M := M_X12_told) (pc := 17) dX12_told_17 ⟨rfl, ⟨by decide, by decide⟩⟩ ?_
      refine aw_icmp_ge (tgt := 33) (M := M_X12_told) (pc := 19) dX12_told_19 rfl (fun hc => ?_) (fun hc => ?_)
      · have hF := hF.1 hc
        refine aw_aload_n (j := 0) (M := M_X12_told) (pc := 33) dX12_told_33 rfl rfl ?_
        refine aw_iload_n (j := 1) (M := M_X12_told) (pc := 34) dX12_told_34 rfl rfl ?_
        refine aw_bipush (M := M_X12_told) (pc := 35) dX12_told_35 ⟨rfl, ⟨by decide, by decide⟩⟩ ?_
        refine aw_icmp_ne (tgt := 52) (M := M_X12_told) (pc := 37) dX12_told_37 rfl (fun hc => ?_) (fun hc => ?_)
        · have hF := hF.1 hc
          refine aw_aload_n (j := 0) (M := M_X12_told) (pc := 52) dX12_told_52 rfl rfl ?_
          refine aw_iload_n (j := 1) (M := M_X12_told) (pc := 53) dX12_told_53 rfl rfl ?_
          refine aw_bipush (M := M_X12_told) (pc := 54) dX12_told_54 ⟨rfl, ⟨by decide, by decide⟩⟩ ?_
          obtain ⟨o3, hF⟩ := hF
          refine aw_isub (M := M_X12_told) (pc := 56) dX12_told_56 rfl o3 ?_
          refine aw_cvi (as := [(0, a1 - 9)]) (st := [vr 161]) (M := M_X12_told) (pc := 57) (f_X12_thingsThat  hF) dX12_told_57 rfl (Or.inl ⟨_, _, _, rfl, rfl⟩) cy_X12_thingsThat ml_X12_278 (by decide) (by decide) (Nat.le_of_ble_eq_true rfl) (fun r5 h4 hF => ?_)
          refine aw_cvi (as := [(0, r5)]) (st := []) (M := M_X12_told) (pc := 60) (f_X12_gives  hF) dX12_told_60 rfl (Or.inl ⟨_, _, _, rfl, rfl⟩) cy_X12_gives ml_X12_95 (by decide) (by decide) (Nat.le_of_ble_eq_true rfl) (fun r7 h6 hF => ?_)
          exact aw_ireti (M := M_X12_told) (pc := 63) dX12_told_63 rfl ⟨_, rfl, hF⟩
        · have hF := hF.2 hc
          refine aw_aload_n (j := 0) (M := M_X12_told) (pc := 40) dX12_told_40 rfl rfl ?_
          refine aw_aload_n (j := 0) (M := M_X12_told) (pc := 41) dX12_told_41 rfl rfl ?_
          refine aw_iconst (M := M_X12_told) (pc := 42) dX12_told_42 ⟨by decide, by decide⟩ ?_
          refine aw_cvi (as := [(0, 2)]) (st := [vr 161, vr 161]) (M := M_X12_told) (pc := 43) (f_X12_thingsThat  hF) dX12_told_43 rfl (Or.inl ⟨_, _, _, rfl, rfl⟩) cy_X12_thingsThat ml_X12_278 (by decide) (by decide) (Nat.le_of_ble_eq_true rfl) (fun r9 h8 hF => ?_)
          refine aw_cvi (as := [(0, r9)]) (st := [vr 161]) (M := M_X12_told) (pc := 46) (f_X12_weightOf  hF) dX12_told_46 rfl (Or.inl ⟨_, _, _, rfl, rfl⟩) cy_X12_weightOf ml_X12_281 (by decide) (by decide) (Nat.le_of_ble_eq_true rfl) (fun r11 h10 hF => ?_)
          refine aw_goto (tgt := 60) (M := M_X12_told) (pc := 49) dX12_told_49 rfl ?_
          refine aw_cvi (as := [(0, r11)]) (st := []) (M := M_X12_told) (pc := 60) (f_X12_gives  hF) dX12_told_60 rfl (Or.inl ⟨_, _, _, rfl, rfl⟩) cy_X12_gives ml_X12_95 (by decide) (by decide) (Nat.le_of_ble_eq_true rfl) (fun r13 h12 hF => ?_)
          exact aw_ireti (M := M_X12_told) (pc := 63) dX12_told_63 rfl ⟨_, rfl, hF⟩
      · have hF := hF.2 hc
        refine aw_aload_n (j := 0) (M := M_X12_told) (pc := 22) dX12_told_22 rfl rfl ?_
        refine aw_aload_n (j := 0) (M := M_X12_told) (pc := 23) dX12_told_23 rfl rfl ?_
        refine gf_X12_7 (M := M_X12_told) (pc := 24) rfl dX12_told_24 rfl (r := 162) rfl ?_
        refine aw_iload_n (j := 1) (M := M_X12_told) (pc := 27) dX12_told_27 rfl rfl ?_
        obtain ⟨o15, hF⟩ := hF
        refine aw_iald (k := (a1).toNat) (M := M_X12_told) (pc := 28) dX12_told_28 rfl o15 rfl ?_
        refine aw_cvi (as := [(0, h 162 (a1).toNat)]) (st := []) (M := M_X12_told) (pc := 29) (f_X12_gives  hF) dX12_told_29 rfl (Or.inl ⟨_, _, _, rfl, rfl⟩) cy_X12_gives ml_X12_95 (by decide) (by decide) (Nat.le_of_ble_eq_true rfl) (fun r17 h16 hF => ?_)
        exact aw_ireti (M := M_X12_told) (pc := 32) dX12_told_32 rfl ⟨_, rfl, hF⟩
    · have hF := hF.2 hc
      refine aw_aload_n (j := 0) (M := M_X12_told) (pc := 10) dX12_told_10 rfl rfl ?_
      refine aw_iconst (M := M_X12_told) (pc := 11) dX12_told_11 ⟨by decide, by decide⟩ ?_
      refine aw_cvi (as := [(0, 1)]) (st := []) (M := M_X12_told) (pc := 12) (f_X12_refuse  hF) dX12_told_12 rfl (Or.inl ⟨_, _, _, rfl, rfl⟩) cy_X12_refuse ml_X12_91 (by decide) (by decide) (Nat.le_of_ble_eq_true rfl) (fun r19 h18 hF => ?_)
      exact aw_ireti (M := M_X12_told) (pc := 15) dX12_told_15 rfl ⟨_, rfl, hF⟩
abbrev M_X12_top : Hd := (cX12_top, 1, RX12, (some .long), (1, 45), sc0)
def F_X12_top (h : Mem)  (Q : Int → Mem → Prop) : Prop :=
  Q (h 161 3) h
set_option maxRecDepth 100000 in
set_option maxHeartbeats 4000000 in
theorem f_X12_top {h : Mem}  {Q : Int → Mem → Prop}  (hF : F_X12_top h  Q) : Ct yX12_top cX12_top 1 (some .long) (1, 45) [vr 161] h (ql Q) := by
  refine Ct.of np_RX12 (Nat.le_of_ble_eq_true rfl) ?_
  unfold F_X12_top at hF
  show AW M_X12_top 0 [(0, vr 161)] [] h (ql Q)
  refine aw_aload_n (j := 0) (M := M_X12_top) (pc := 0) dX12_top_0 rfl rfl ?_
  refine gf_X12_88 (M := M_X12_top) (pc := 1) rfl dX12_top_1 rfl ?_
  exact aw_lret (M := M_X12_top) (pc := 4) dX12_top_4 rfl ⟨_, rfl, hF⟩
abbrev M_X12_toss : Hd := (cX12_toss, 3, RX12, (some .boolean), (5, 130), sc0)
def F_X12_toss (h : Mem) (a1 : Int) (a2 : Int) (Q : Int → Mem → Prop) : Prop :=
  (F_X12_isThing h a1 (fun r2 h1 => ((r2 = 0 → (F_X12_is h1 1 (fun r4 h3 => (InZ r4 ∧ Q r4 h3)))) ∧ (¬ (r2 = 0) → (F_X12_isCell h1 a2 (fun r6 h5 => ((¬ (r6 = 0) → (F_X12_tosses h5 a1 a2 (fun r8 h7 => ((r8 = 0 → (F_X12_is h7 7 (fun r10 h9 => (InZ r10 ∧ Q r10 h9)))) ∧ (¬ (r8 = 0) → (F_X12_is h7 0 (fun r12 h11 => (InZ r12 ∧ Q r12 h11)))))))) ∧ (r6 = 0 → (F_X12_is h5 1 (fun r14 h13 => (InZ r14 ∧ Q r14 h13)))))))))))
set_option maxRecDepth 100000 in
set_option maxHeartbeats 4000000 in
theorem f_X12_toss {h : Mem} {a1 : Int} {a2 : Int} {Q : Int → Mem → Prop}  (hF : F_X12_toss h a1 a2 Q) : Ct yX12_toss cX12_toss 3 (some .boolean) (5, 130) [vr 161, (0, a1), (0, a2)] h (qi Q) := by
  refine Ct.of np_RX12 (Nat.le_of_ble_eq_true rfl) ?_
  unfold F_X12_toss at hF
  show AW M_X12_toss 0 [(0, vr 161), (1, (0, a1)), (2, (0, a2))] [] h (qi Q)
  refine aw_aload_n (j := 0) (M := M_X12_toss) (pc := 0) dX12_toss_0 rfl rfl ?_
  refine aw_iload_n (j := 1) (M := M_X12_toss) (pc := 1) dX12_toss_1 rfl rfl ?_
  refine aw_cvi (as := [(0, a1)]) (st := []) (M := M_X12_toss) (pc := 2) (f_X12_isThing  hF) dX12_toss_2 rfl (Or.inl ⟨_, _, _, rfl, rfl⟩) cy_X12_isThing ml_X12_284 (by decide) (by decide) (Nat.le_of_ble_eq_true rfl) (fun r2 h1 hF => ?_)
  refine aw_if_eq (tgt := 16) (M := M_X12_toss) (pc := 5) dX12_toss_5 rfl (fun hc => ?_) (fun hc => ?_)
  · have hF := hF.1 hc
    refine aw_aload_n (j := 0) (M := M_X12_toss) (pc := 16) dX12_toss_16 rfl rfl ?_
    refine aw_iconst (M := M_X12_toss) (pc := 17) dX12_toss_17 ⟨by decide, by decide⟩ ?_
    refine aw_cvi (as := [(0, 1)]) (st := []) (M := M_X12_toss) (pc := 18) (f_X12_is  hF) dX12_toss_18 rfl (Or.inl ⟨_, _, _, rfl, rfl⟩) cy_X12_is ml_X12_98 (by decide) (by decide) (Nat.le_of_ble_eq_true rfl) (fun r4 h3 hF => ?_)
    exact aw_iretz (M := M_X12_toss) (pc := 21) dX12_toss_21 rfl hF.1 ⟨_, rfl, hF.2⟩
  · have hF := hF.2 hc
    refine aw_aload_n (j := 0) (M := M_X12_toss) (pc := 8) dX12_toss_8 rfl rfl ?_
    refine aw_iload_n (j := 2) (M := M_X12_toss) (pc := 9) dX12_toss_9 rfl rfl ?_
    refine aw_cvi (as := [(0, a2)]) (st := []) (M := M_X12_toss) (pc := 10) (f_X12_isCell  hF) dX12_toss_10 rfl (Or.inl ⟨_, _, _, rfl, rfl⟩) cy_X12_isCell ml_X12_326 (by decide) (by decide) (Nat.le_of_ble_eq_true rfl) (fun r6 h5 hF => ?_)
    refine aw_if_ne (tgt := 22) (M := M_X12_toss) (pc := 13) dX12_toss_13 rfl (fun hc => ?_) (fun hc => ?_)
    · have hF := hF.1 hc
      refine aw_aload_n (j := 0) (M := M_X12_toss) (pc := 22) dX12_toss_22 rfl rfl ?_
      refine aw_aload_n (j := 0) (M := M_X12_toss) (pc := 23) dX12_toss_23 rfl rfl ?_
      refine aw_iload_n (j := 1) (M := M_X12_toss) (pc := 24) dX12_toss_24 rfl rfl ?_
      refine aw_iload_n (j := 2) (M := M_X12_toss) (pc := 25) dX12_toss_25 rfl rfl ?_
      refine aw_cvi (as := [(0, a1), (0, a2)]) (st := [vr 161]) (M := M_X12_toss) (pc := 26) (f_X12_tosses  hF) dX12_toss_26 rfl (Or.inl ⟨_, _, _, rfl, rfl⟩) cy_X12_tosses ml_X12_329 (by decide) (by decide) (Nat.le_of_ble_eq_true rfl) (fun r8 h7 hF => ?_)
      refine aw_if_eq (tgt := 36) (M := M_X12_toss) (pc := 29) dX12_toss_29 rfl (fun hc => ?_) (fun hc => ?_)
      · have hF := hF.1 hc
        refine aw_bipush (M := M_X12_toss) (pc := 36) dX12_toss_36 ⟨rfl, ⟨by decide, by decide⟩⟩ ?_
        refine aw_cvi (as := [(0, 7)]) (st := []) (M := M_X12_toss) (pc := 38) (f_X12_is  hF) dX12_toss_38 rfl (Or.inl ⟨_, _, _, rfl, rfl⟩) cy_X12_is ml_X12_98 (by decide) (by decide) (Nat.le_of_ble_eq_true rfl) (fun r10 h9 hF => ?_)
        exact aw_iretz (M := M_X12_toss) (pc := 41) dX12_toss_41 rfl hF.1 ⟨_, rfl, hF.2⟩
      · have hF := hF.2 hc
        refine aw_iconst (M := M_X12_toss) (pc := 32) dX12_toss_32 ⟨by decide, by decide⟩ ?_
        refine aw_goto (tgt := 38) (M := M_X12_toss) (pc := 33) dX12_toss_33 rfl ?_
        refine aw_cvi (as := [(0, 0)]) (st := []) (M := M_X12_toss) (pc := 38) (f_X12_is  hF) dX12_toss_38 rfl (Or.inl ⟨_, _, _, rfl, rfl⟩) cy_X12_is ml_X12_98 (by decide) (by decide) (Nat.le_of_ble_eq_true rfl) (fun r12 h11 hF => ?_)
        exact aw_iretz (M := M_X12_toss) (pc := 41) dX12_toss_41 rfl hF.1 ⟨_, rfl, hF.2⟩
    · have hF := hF.2 hc
      refine aw_aload_n (j := 0) (M := M_X12_toss) (pc := 16) dX12_toss_16 rfl rfl ?_
      refine aw_iconst (M := M_X12_toss) (pc := 17) dX12_toss_17 ⟨by decide, by decide⟩ ?_
      refine aw_cvi (as := [(0, 1)]) (st := []) (M := M_X12_toss) (pc := 18) (f_X12_is  hF) dX12_toss_18 rfl (Or.inl ⟨_, _, _, rfl, rfl⟩) cy_X12_is ml_X12_98 (by decide) (by decide) (Nat.le_of_ble_eq_true rfl) (fun r14 h13 hF => ?_)
      exact aw_iretz (M := M_X12_toss) (pc := 21) dX12_toss_21 rfl hF.1 ⟨_, rfl, hF.2⟩
abbrev M_X12_tray : Hd := (cX12_tray, 5, RX12, (some .boolean), (2, 66), sc0)
def L_X12_tray_49 (h : Mem) (v1 : Int) (v3 : Int) (v4 : Int) (Q : Int → Mem → Prop) : Prop := AW M_X12_tray 49 [(0, vr 161), (1, (0, v1)), (3, (0, v3)), (4, (0, v4))] [] h (qi Q)
def B_X12_tray_49 (h : Mem) (v1 : Int) (v3 : Int) (v4 : Int) (Q : Int → Mem → Prop) : Prop :=
  ((v3 ≤ v4 → (F_X12_is h 0 (fun r17 h16 => (InZ r17 ∧ Q r17 h16)))) ∧ (¬ (v3 ≤ v4) → (InR (60 * v1) ∧ (InR ((60 * v1) + v4) ∧ ((0 ≤ ((60 * v1) + v4) ∧ ((60 * v1) + v4) < 240) ∧ (∀ h21 : Mem, h21 = mset h 166 ((60 * v1) + v4).toNat 0 → (InR (v4 + 1) ∧ L_X12_tray_49 h21 v1 v3 (v4 + 1) Q)))))))
set_option maxRecDepth 100000 in
set_option maxHeartbeats 4000000 in
theorem l_X12_tray_49 {h : Mem} {v1 : Int} {v3 : Int} {v4 : Int} {Q : Int → Mem → Prop}  (hF : B_X12_tray_49 h v1 v3 v4 Q) : L_X12_tray_49 h v1 v3 v4 Q := by
  unfold B_X12_tray_49 at hF
  show AW M_X12_tray 49 [(0, vr 161), (1, (0, v1)), (3, (0, v3)), (4, (0, v4))] [] h (qi Q)
  refine aw_iload (j := 3) (M := M_X12_tray) (pc := 49) dX12_tray_49  rfl ?_
  refine aw_iload_n (j := 2) (M := M_X12_tray) (pc := 51) dX12_tray_51 rfl rfl ?_
  refine aw_icmp_ge (tgt := 74) (M := M_X12_tray) (pc := 52) dX12_tray_52 rfl (fun hc => ?_) (fun hc => ?_)
  · have hF := hF.1 hc
    refine aw_aload_n (j := 0) (M := M_X12_tray) (pc := 74) dX12_tray_74 rfl rfl ?_
    refine aw_iconst (M := M_X12_tray) (pc := 75) dX12_tray_75 ⟨by decide, by decide⟩ ?_
    refine aw_cvi (as := [(0, 0)]) (st := []) (M := M_X12_tray) (pc := 76) (f_X12_is  hF) dX12_tray_76 rfl (Or.inl ⟨_, _, _, rfl, rfl⟩) cy_X12_is ml_X12_98 (by decide) (by decide) (Nat.le_of_ble_eq_true rfl) (fun r17 h16 hF => ?_)
    exact aw_iretz (M := M_X12_tray) (pc := 79) dX12_tray_79 rfl hF.1 ⟨_, rfl, hF.2⟩
  · have hF := hF.2 hc
    refine aw_aload_n (j := 0) (M := M_X12_tray) (pc := 55) dX12_tray_55 rfl rfl ?_
    refine gf_X12_27 (M := M_X12_tray) (pc := 56) rfl dX12_tray_56 rfl (r := 166) rfl ?_
    refine aw_bipush (M := M_X12_tray) (pc := 59) dX12_tray_59 ⟨rfl, ⟨by decide, by decide⟩⟩ ?_
    refine aw_iload_n (j := 1) (M := M_X12_tray) (pc := 61) dX12_tray_61 rfl rfl ?_
    obtain ⟨o18, hF⟩ := hF
    refine aw_imul (M := M_X12_tray) (pc := 62) dX12_tray_62 rfl o18 ?_
    refine aw_iload (j := 3) (M := M_X12_tray) (pc := 63) dX12_tray_63  rfl ?_
    obtain ⟨o19, hF⟩ := hF
    refine aw_iadd (M := M_X12_tray) (pc := 65) dX12_tray_65 rfl o19 ?_
    refine aw_lconst (v := 0) (M := M_X12_tray) (pc := 66) dX12_tray_66 ⟨rfl, ⟨by decide, by decide⟩⟩ ?_
    obtain ⟨o20, hF⟩ := hF
    refine aw_last (k := ((60 * v1) + v4).toNat) (M := M_X12_tray) (pc := 67) dX12_tray_67 rfl o20 rfl ?_
    obtain ⟨h21, eh21⟩ : ∃ y : Mem, y = mset h 166 ((60 * v1) + v4).toNat 0 := ⟨_, rfl⟩
    have hF := hF h21 eh21
    rw [← eh21]
    obtain ⟨o22, hF⟩ := hF
    refine aw_iinc (j := 3) (x := v4) (r := v4 + 1) (ls' := [(4, (0, v4 + 1)), (0, vr 161), (1, (0, v1)), (3, (0, v3))]) (M := M_X12_tray) (pc := 68) dX12_tray_68 rfl rfl o22 (by decide) rfl ?_
    refine aw_goto (tgt := 49) (M := M_X12_tray) (pc := 71) dX12_tray_71 rfl ?_
    exact aw_ls [1, 2, 3, 0] rfl hF
def F_X12_tray (h : Mem) (a1 : Int) (a2 : Int) (a3 : Int) (Q : Int → Mem → Prop) : Prop :=
  (F_X12_isTray h a1 (fun r2 h1 => ((r2 = 0 → (F_X12_is h1 1 (fun r4 h3 => (InZ r4 ∧ Q r4 h3)))) ∧ (¬ (r2 = 0) → ((a2 < 0 → (F_X12_is h1 1 (fun r6 h5 => (InZ r6 ∧ Q r6 h5)))) ∧ (¬ (a2 < 0) → ((3 < a2 → (F_X12_is h1 1 (fun r8 h7 => (InZ r8 ∧ Q r8 h7)))) ∧ (¬ (3 < a2) → ((a3 < 0 → (F_X12_is h1 1 (fun r10 h9 => (InZ r10 ∧ Q r10 h9)))) ∧ (¬ (a3 < 0) → ((a3 ≤ 60 → ((0 ≤ a1 ∧ a1 < 4) ∧ (∀ h12 : Mem, h12 = mset h1 164 (a1).toNat a2 → (∀ h13 : Mem, h13 = mset h12 165 (a1).toNat a3 → L_X12_tray_49 h13 a1 a3 0 Q)))) ∧ (¬ (a3 ≤ 60) → (F_X12_is h1 1 (fun r15 h14 => (InZ r15 ∧ Q r15 h14)))))))))))))))
set_option maxRecDepth 100000 in
set_option maxHeartbeats 4000000 in
theorem f_X12_tray {h : Mem} {a1 : Int} {a2 : Int} {a3 : Int} {Q : Int → Mem → Prop}  (hF : F_X12_tray h a1 a2 a3 Q) : Ct yX12_tray cX12_tray 5 (some .boolean) (2, 66) [vr 161, (0, a1), (0, a2), (0, a3)] h (qi Q) := by
  refine Ct.of np_RX12 (Nat.le_of_ble_eq_true rfl) ?_
  unfold F_X12_tray at hF
  show AW M_X12_tray 0 [(0, vr 161), (1, (0, a1)), (2, (0, a2)), (3, (0, a3))] [] h (qi Q)
  refine aw_iload_n (j := 1) (M := M_X12_tray) (pc := 0) dX12_tray_0 rfl rfl ?_
  refine aw_csi (as := [(0, a1)]) (st := []) (M := M_X12_tray) (pc := 1) (f_X12_isTray  hF) dX12_tray_1 rfl cy_X12_isTray ml_X12_102 (by decide) (by decide) (Nat.le_of_ble_eq_true rfl) (fun r2 h1 hF => ?_)
  refine aw_if_eq (tgt := 26) (M := M_X12_tray) (pc := 4) dX12_tray_4 rfl (fun hc => ?_) (fun hc => ?_)
  · have hF := hF.1 hc
    refine aw_aload_n (j := 0) (M := M_X12_tray) (pc := 26) dX12_tray_26 rfl rfl ?_
    refine aw_iconst (M := M_X12_tray) (pc := 27) dX12_tray_27 ⟨by decide, by decide⟩ ?_
    refine aw_cvi (as := [(0, 1)]) (st := []) (M := M_X12_tray) (pc := 28) (f_X12_is  hF) dX12_tray_28 rfl (Or.inl ⟨_, _, _, rfl, rfl⟩) cy_X12_is ml_X12_98 (by decide) (by decide) (Nat.le_of_ble_eq_true rfl) (fun r4 h3 hF => ?_)
    exact aw_iretz (M := M_X12_tray) (pc := 31) dX12_tray_31 rfl hF.1 ⟨_, rfl, hF.2⟩
  · have hF := hF.2 hc
    refine aw_iload_n (j := 2) (M := M_X12_tray) (pc := 7) dX12_tray_7 rfl rfl ?_
    refine aw_if_lt (tgt := 26) (M := M_X12_tray) (pc := 8) dX12_tray_8 rfl (fun hc => ?_) (fun hc => ?_)
    · have hF := hF.1 hc
      refine aw_aload_n (j := 0) (M := M_X12_tray) (pc := 26) dX12_tray_26 rfl rfl ?_
      refine aw_iconst (M := M_X12_tray) (pc := 27) dX12_tray_27 ⟨by decide, by decide⟩ ?_
      refine aw_cvi (as := [(0, 1)]) (st := []) (M := M_X12_tray) (pc := 28) (f_X12_is  hF) dX12_tray_28 rfl (Or.inl ⟨_, _, _, rfl, rfl⟩) cy_X12_is ml_X12_98 (by decide) (by decide) (Nat.le_of_ble_eq_true rfl) (fun r6 h5 hF => ?_)
      exact aw_iretz (M := M_X12_tray) (pc := 31) dX12_tray_31 rfl hF.1 ⟨_, rfl, hF.2⟩
    · have hF := hF.2 hc
      refine aw_iload_n (j := 2) (M := M_X12_tray) (pc := 11) dX12_tray_11 rfl rfl ?_
      refine aw_iconst (M := M_X12_tray) (pc := 12) dX12_tray_12 ⟨by decide, by decide⟩ ?_
      refine aw_icmp_gt (tgt := 26) (M := M_X12_tray) (pc := 13) dX12_tray_13 rfl (fun hc => ?_) (fun hc => ?_)
      · have hF := hF.1 hc
        refine aw_aload_n (j := 0) (M := M_X12_tray) (pc := 26) dX12_tray_26 rfl rfl ?_
        refine aw_iconst (M := M_X12_tray) (pc := 27) dX12_tray_27 ⟨by decide, by decide⟩ ?_
        refine aw_cvi (as := [(0, 1)]) (st := []) (M := M_X12_tray) (pc := 28) (f_X12_is  hF) dX12_tray_28 rfl (Or.inl ⟨_, _, _, rfl, rfl⟩) cy_X12_is ml_X12_98 (by decide) (by decide) (Nat.le_of_ble_eq_true rfl) (fun r8 h7 hF => ?_)
        exact aw_iretz (M := M_X12_tray) (pc := 31) dX12_tray_31 rfl hF.1 ⟨_, rfl, hF.2⟩
      · have hF := hF.2 hc
        refine aw_iload_n (j := 3) (M := M_X12_tray) (pc := 16) dX12_tray_16 rfl rfl ?_
        refine aw_if_lt (tgt := 26) (M := M_X12_tray) (pc := 17) dX12_tray_17 rfl (fun hc => ?_) (fun hc => ?_)
        · have hF := hF.1 hc
          refine aw_aload_n (j := 0) (M := M_X12_tray) (pc := 26) dX12_tray_26 rfl rfl ?_
          refine aw_iconst (M := M_X12_tray) (pc := 27) dX12_tray_27 ⟨by decide, by decide⟩ ?_
          refine aw_cvi (as := [(0, 1)]) (st := []) (M := M_X12_tray) (pc := 28) (f_X12_is  hF) dX12_tray_28 rfl (Or.inl ⟨_, _, _, rfl, rfl⟩) cy_X12_is ml_X12_98 (by decide) (by decide) (Nat.le_of_ble_eq_true rfl) (fun r10 h9 hF => ?_)
          exact aw_iretz (M := M_X12_tray) (pc := 31) dX12_tray_31 rfl hF.1 ⟨_, rfl, hF.2⟩
        · have hF := hF.2 hc
          refine aw_iload_n (j := 3) (M := M_X12_tray) (pc := 20) dX12_tray_20 rfl rfl ?_
          refine aw_bipush (M := M_X12_tray) (pc := 21) dX12_tray_21 ⟨rfl, ⟨by decide, by decide⟩⟩ ?_
          refine aw_icmp_le (tgt := 32) (M := M_X12_tray) (pc := 23) dX12_tray_23 rfl (fun hc => ?_) (fun hc => ?_)
          · have hF := hF.1 hc
            refine aw_aload_n (j := 0) (M := M_X12_tray) (pc := 32) dX12_tray_32 rfl rfl ?_
            refine gf_X12_21 (M := M_X12_tray) (pc := 33) rfl dX12_tray_33 rfl (r := 164) rfl ?_
            refine aw_iload_n (j := 1) (M := M_X12_tray) (pc := 36) dX12_tray_36 rfl rfl ?_
            refine aw_iload_n (j := 2) (M := M_X12_tray) (pc := 37) dX12_tray_37 rfl rfl ?_
            obtain ⟨o11, hF⟩ := hF
            refine aw_iast (k := (a1).toNat) (M := M_X12_tray) (pc := 38) dX12_tray_38 rfl o11 rfl ?_
            obtain ⟨h12, eh12⟩ : ∃ y : Mem, y = mset h1 164 (a1).toNat a2 := ⟨_, rfl⟩
            have hF := hF h12 eh12
            rw [← eh12]
            refine aw_aload_n (j := 0) (M := M_X12_tray) (pc := 39) dX12_tray_39 rfl rfl ?_
            refine gf_X12_24 (M := M_X12_tray) (pc := 40) rfl dX12_tray_40 rfl (r := 165) rfl ?_
            refine aw_iload_n (j := 1) (M := M_X12_tray) (pc := 43) dX12_tray_43 rfl rfl ?_
            refine aw_iload_n (j := 3) (M := M_X12_tray) (pc := 44) dX12_tray_44 rfl rfl ?_
            refine aw_iast (k := (a1).toNat) (M := M_X12_tray) (pc := 45) dX12_tray_45 rfl o11 rfl ?_
            obtain ⟨h13, eh13⟩ : ∃ y : Mem, y = mset h12 165 (a1).toNat a3 := ⟨_, rfl⟩
            have hF := hF h13 eh13
            rw [← eh13]
            refine aw_iconst (M := M_X12_tray) (pc := 46) dX12_tray_46 ⟨by decide, by decide⟩ ?_
            refine aw_istore (ls' := [(4, (0, 0)), (0, vr 161), (1, (0, a1)), (2, (0, a2)), (3, (0, a3))]) (M := M_X12_tray) (pc := 47) dX12_tray_47  (by decide) rfl ?_
            exact aw_ls [1, 2, 4, 0] rfl hF
          · have hF := hF.2 hc
            refine aw_aload_n (j := 0) (M := M_X12_tray) (pc := 26) dX12_tray_26 rfl rfl ?_
            refine aw_iconst (M := M_X12_tray) (pc := 27) dX12_tray_27 ⟨by decide, by decide⟩ ?_
            refine aw_cvi (as := [(0, 1)]) (st := []) (M := M_X12_tray) (pc := 28) (f_X12_is  hF) dX12_tray_28 rfl (Or.inl ⟨_, _, _, rfl, rfl⟩) cy_X12_is ml_X12_98 (by decide) (by decide) (Nat.le_of_ble_eq_true rfl) (fun r15 h14 hF => ?_)
            exact aw_iretz (M := M_X12_tray) (pc := 31) dX12_tray_31 rfl hF.1 ⟨_, rfl, hF.2⟩
abbrev M_X12_turnIn : Hd := (cX12_turnIn, 2, RX12, (some .int), (9, 219), sc0)
def F_X12_turnIn (h : Mem)  (Q : Int → Mem → Prop) : Prop :=
  (F_X12_keeps h 2688 (fun h1 => (F_X12_nextTurn h1 400 (fun r4 h3 => (F_X12_restores h3 2688 (fun h5 => (F_X12_orNone h5 r4 (fun r8 h7 => Q r8 h7))))))))
set_option maxRecDepth 100000 in
set_option maxHeartbeats 4000000 in
theorem f_X12_turnIn {h : Mem}  {Q : Int → Mem → Prop}  (hF : F_X12_turnIn h  Q) : Ct yX12_turnIn cX12_turnIn 2 (some .int) (9, 219) [vr 161] h (qi Q) := by
  refine Ct.of np_RX12 (Nat.le_of_ble_eq_true rfl) ?_
  unfold F_X12_turnIn at hF
  show AW M_X12_turnIn 0 [(0, vr 161)] [] h (qi Q)
  refine aw_aload_n (j := 0) (M := M_X12_turnIn) (pc := 0) dX12_turnIn_0 rfl rfl ?_
  refine aw_sipush (M := M_X12_turnIn) (pc := 1) dX12_turnIn_1 ⟨rfl, ⟨by decide, by decide⟩⟩ ?_
  refine aw_cvv (as := [(0, 2688)]) (st := []) (M := M_X12_turnIn) (pc := 4) (f_X12_keeps  hF) dX12_turnIn_4 rfl (Or.inl ⟨_, _, _, rfl, rfl⟩) cy_X12_keeps ml_X12_350 (by decide) (by decide) (Nat.le_of_ble_eq_true rfl) (fun h1 hF => ?_)
  refine aw_aload_n (j := 0) (M := M_X12_turnIn) (pc := 7) dX12_turnIn_7 rfl rfl ?_
  refine aw_sipush (M := M_X12_turnIn) (pc := 8) dX12_turnIn_8 ⟨rfl, ⟨by decide, by decide⟩⟩ ?_
  refine aw_cvi (as := [(0, 400)]) (st := []) (M := M_X12_turnIn) (pc := 11) (f_X12_nextTurn  hF) dX12_turnIn_11 rfl (Or.inl ⟨_, _, _, rfl, rfl⟩) cy_X12_nextTurn ml_X12_359 (by decide) (by decide) (Nat.le_of_ble_eq_true rfl) (fun r4 h3 hF => ?_)
  refine aw_istore_n (ls' := [(1, (0, r4)), (0, vr 161)]) (M := M_X12_turnIn) (pc := 14) dX12_turnIn_14 rfl (by decide) rfl ?_
  refine aw_aload_n (j := 1) (M := M_X12_turnIn) (pc := 15) dX12_turnIn_15 rfl rfl ?_
  refine aw_sipush (M := M_X12_turnIn) (pc := 16) dX12_turnIn_16 ⟨rfl, ⟨by decide, by decide⟩⟩ ?_
  refine aw_cvv (as := [(0, 2688)]) (st := []) (M := M_X12_turnIn) (pc := 19) (f_X12_restores  hF) dX12_turnIn_19 rfl (Or.inl ⟨_, _, _, rfl, rfl⟩) cy_X12_restores ml_X12_353 (by decide) (by decide) (Nat.le_of_ble_eq_true rfl) (fun h5 hF => ?_)
  refine aw_aload_n (j := 1) (M := M_X12_turnIn) (pc := 22) dX12_turnIn_22 rfl rfl ?_
  refine aw_iload_n (j := 0) (M := M_X12_turnIn) (pc := 23) dX12_turnIn_23 rfl rfl ?_
  refine aw_cvi (as := [(0, r4)]) (st := []) (M := M_X12_turnIn) (pc := 24) (f_X12_orNone  hF) dX12_turnIn_24 rfl (Or.inl ⟨_, _, _, rfl, rfl⟩) cy_X12_orNone ml_X12_296 (by decide) (by decide) (Nat.le_of_ble_eq_true rfl) (fun r8 h7 hF => ?_)
  exact aw_ireti (M := M_X12_turnIn) (pc := 27) dX12_turnIn_27 rfl ⟨_, rfl, hF⟩
abbrev M_X12_turnsIn : Hd := (cX12_turnsIn, 3, RX12, (some .int), (9, 220), sc0)
def F_X12_turnsIn (h : Mem) (a1 : Int) (Q : Int → Mem → Prop) : Prop :=
  (F_X12_isSpan h a1 (fun r2 h1 => ((¬ (r2 = 0) → (F_X12_keeps h1 2688 (fun h3 => (F_X12_hoursGo h3 a1 (fun r6 h5 => (F_X12_restores h5 2688 (fun h7 => (F_X12_gives h7 r6 (fun r10 h9 => Q r10 h9))))))))) ∧ (r2 = 0 → (F_X12_refuse h1 1 (fun r12 h11 => Q r12 h11))))))
set_option maxRecDepth 100000 in
set_option maxHeartbeats 4000000 in
theorem f_X12_turnsIn {h : Mem} {a1 : Int} {Q : Int → Mem → Prop}  (hF : F_X12_turnsIn h a1 Q) : Ct yX12_turnsIn cX12_turnsIn 3 (some .int) (9, 220) [vr 161, (0, a1)] h (qi Q) := by
  refine Ct.of np_RX12 (Nat.le_of_ble_eq_true rfl) ?_
  unfold F_X12_turnsIn at hF
  show AW M_X12_turnsIn 0 [(0, vr 161), (1, (0, a1))] [] h (qi Q)
  refine aw_iload_n (j := 1) (M := M_X12_turnsIn) (pc := 0) dX12_turnsIn_0 rfl rfl ?_
  refine aw_csi (as := [(0, a1)]) (st := []) (M := M_X12_turnsIn) (pc := 1) (f_X12_isSpan  hF) dX12_turnsIn_1 rfl cy_X12_isSpan ml_X12_347 (by decide) (by decide) (Nat.le_of_ble_eq_true rfl) (fun r2 h1 hF => ?_)
  refine aw_if_ne (tgt := 13) (M := M_X12_turnsIn) (pc := 4) dX12_turnsIn_4 rfl (fun hc => ?_) (fun hc => ?_)
  · have hF := hF.1 hc
    refine aw_aload_n (j := 0) (M := M_X12_turnsIn) (pc := 13) dX12_turnsIn_13 rfl rfl ?_
    refine aw_sipush (M := M_X12_turnsIn) (pc := 14) dX12_turnsIn_14 ⟨rfl, ⟨by decide, by decide⟩⟩ ?_
    refine aw_cvv (as := [(0, 2688)]) (st := []) (M := M_X12_turnsIn) (pc := 17) (f_X12_keeps  hF) dX12_turnsIn_17 rfl (Or.inl ⟨_, _, _, rfl, rfl⟩) cy_X12_keeps ml_X12_350 (by decide) (by decide) (Nat.le_of_ble_eq_true rfl) (fun h3 hF => ?_)
    refine aw_aload_n (j := 0) (M := M_X12_turnsIn) (pc := 20) dX12_turnsIn_20 rfl rfl ?_
    refine aw_iload_n (j := 1) (M := M_X12_turnsIn) (pc := 21) dX12_turnsIn_21 rfl rfl ?_
    refine aw_cvi (as := [(0, a1)]) (st := []) (M := M_X12_turnsIn) (pc := 22) (f_X12_hoursGo  hF) dX12_turnsIn_22 rfl (Or.inl ⟨_, _, _, rfl, rfl⟩) cy_X12_hoursGo ml_X12_320 (by decide) (by decide) (Nat.le_of_ble_eq_true rfl) (fun r6 h5 hF => ?_)
    refine aw_istore_n (ls' := [(2, (0, r6)), (0, vr 161), (1, (0, a1))]) (M := M_X12_turnsIn) (pc := 25) dX12_turnsIn_25 rfl (by decide) rfl ?_
    refine aw_aload_n (j := 1) (M := M_X12_turnsIn) (pc := 26) dX12_turnsIn_26 rfl rfl ?_
    refine aw_sipush (M := M_X12_turnsIn) (pc := 27) dX12_turnsIn_27 ⟨rfl, ⟨by decide, by decide⟩⟩ ?_
    refine aw_cvv (as := [(0, 2688)]) (st := []) (M := M_X12_turnsIn) (pc := 30) (f_X12_restores  hF) dX12_turnsIn_30 rfl (Or.inl ⟨_, _, _, rfl, rfl⟩) cy_X12_restores ml_X12_353 (by decide) (by decide) (Nat.le_of_ble_eq_true rfl) (fun h7 hF => ?_)
    refine aw_aload_n (j := 1) (M := M_X12_turnsIn) (pc := 33) dX12_turnsIn_33 rfl rfl ?_
    refine aw_iload_n (j := 0) (M := M_X12_turnsIn) (pc := 34) dX12_turnsIn_34 rfl rfl ?_
    refine aw_cvi (as := [(0, r6)]) (st := []) (M := M_X12_turnsIn) (pc := 35) (f_X12_gives  hF) dX12_turnsIn_35 rfl (Or.inl ⟨_, _, _, rfl, rfl⟩) cy_X12_gives ml_X12_95 (by decide) (by decide) (Nat.le_of_ble_eq_true rfl) (fun r10 h9 hF => ?_)
    exact aw_ireti (M := M_X12_turnsIn) (pc := 38) dX12_turnsIn_38 rfl ⟨_, rfl, hF⟩
  · have hF := hF.2 hc
    refine aw_aload_n (j := 0) (M := M_X12_turnsIn) (pc := 7) dX12_turnsIn_7 rfl rfl ?_
    refine aw_iconst (M := M_X12_turnsIn) (pc := 8) dX12_turnsIn_8 ⟨by decide, by decide⟩ ?_
    refine aw_cvi (as := [(0, 1)]) (st := []) (M := M_X12_turnsIn) (pc := 9) (f_X12_refuse  hF) dX12_turnsIn_9 rfl (Or.inl ⟨_, _, _, rfl, rfl⟩) cy_X12_refuse ml_X12_91 (by decide) (by decide) (Nat.le_of_ble_eq_true rfl) (fun r12 h11 hF => ?_)
    exact aw_ireti (M := M_X12_turnsIn) (pc := 12) dX12_turnsIn_12 rfl ⟨_, rfl, hF⟩
abbrev M_X12_undo : Hd := (cX12_undo, 1, RX12, (some .int), (2, 68), sc0)
def F_X12_undo (h : Mem)  (Q : Int → Mem → Prop) : Prop :=
  ((¬ ((h 161 43) = 0) → (F_X12_copies h (h 161 43) 0 (fun h1 => (InR ((h1 161 43) - 1) ∧ (∀ h4 : Mem, h4 = mset h1 161 43 ((h1 161 43) - 1) → (F_X12_gives h4 (h4 161 43) (fun r6 h5 => Q r6 h5))))))) ∧ ((h 161 43) = 0 → (F_X12_refuse h 6 (fun r8 h7 => Q r8 h7))))
set_option maxRecDepth 100000 in
set_option maxHeartbeats 4000000 in
theorem f_X12_undo {h : Mem}  {Q : Int → Mem → Prop}  (hF : F_X12_undo h  Q) : Ct yX12_undo cX12_undo 1 (some .int) (2, 68) [vr 161] h (qi Q) := by
  refine Ct.of np_RX12 (Nat.le_of_ble_eq_true rfl) ?_
  unfold F_X12_undo at hF
  show AW M_X12_undo 0 [(0, vr 161)] [] h (qi Q)
  refine aw_aload_n (j := 0) (M := M_X12_undo) (pc := 0) dX12_undo_0 rfl rfl ?_
  refine gf_X12_483 (M := M_X12_undo) (pc := 1) rfl dX12_undo_1 rfl ?_
  refine aw_if_ne (tgt := 14) (M := M_X12_undo) (pc := 4) dX12_undo_4 rfl (fun hc => ?_) (fun hc => ?_)
  · have hF := hF.1 hc
    refine aw_aload_n (j := 0) (M := M_X12_undo) (pc := 14) dX12_undo_14 rfl rfl ?_
    refine aw_aload_n (j := 0) (M := M_X12_undo) (pc := 15) dX12_undo_15 rfl rfl ?_
    refine gf_X12_483 (M := M_X12_undo) (pc := 16) rfl dX12_undo_16 rfl ?_
    refine aw_iconst (M := M_X12_undo) (pc := 19) dX12_undo_19 ⟨by decide, by decide⟩ ?_
    refine aw_cvv (as := [(0, h 161 43), (0, 0)]) (st := []) (M := M_X12_undo) (pc := 20) (f_X12_copies  hF) dX12_undo_20 rfl (Or.inl ⟨_, _, _, rfl, rfl⟩) cy_X12_copies ml_X12_486 (by decide) (by decide) (Nat.le_of_ble_eq_true rfl) (fun h1 hF => ?_)
    refine aw_aload_n (j := 0) (M := M_X12_undo) (pc := 23) dX12_undo_23 rfl rfl ?_
    refine aw_dup (M := M_X12_undo) (pc := 24) dX12_undo_24 rfl ?_
    refine gf_X12_483 (M := M_X12_undo) (pc := 25) rfl dX12_undo_25 rfl ?_
    refine aw_iconst (M := M_X12_undo) (pc := 28) dX12_undo_28 ⟨by decide, by decide⟩ ?_
    obtain ⟨o3, hF⟩ := hF
    refine aw_isub (M := M_X12_undo) (pc := 29) dX12_undo_29 rfl o3 ?_
    refine pf_X12_483 (M := M_X12_undo) (pc := 30) rfl dX12_undo_30 rfl ?_
    obtain ⟨h4, eh4⟩ : ∃ y : Mem, y = mset h1 161 43 ((h1 161 43) - 1) := ⟨_, rfl⟩
    have hF := hF h4 eh4
    rw [← eh4]
    refine aw_aload_n (j := 0) (M := M_X12_undo) (pc := 33) dX12_undo_33 rfl rfl ?_
    refine aw_aload_n (j := 0) (M := M_X12_undo) (pc := 34) dX12_undo_34 rfl rfl ?_
    refine gf_X12_483 (M := M_X12_undo) (pc := 35) rfl dX12_undo_35 rfl ?_
    refine aw_cvi (as := [(0, h4 161 43)]) (st := []) (M := M_X12_undo) (pc := 38) (f_X12_gives  hF) dX12_undo_38 rfl (Or.inl ⟨_, _, _, rfl, rfl⟩) cy_X12_gives ml_X12_95 (by decide) (by decide) (Nat.le_of_ble_eq_true rfl) (fun r6 h5 hF => ?_)
    exact aw_ireti (M := M_X12_undo) (pc := 41) dX12_undo_41 rfl ⟨_, rfl, hF⟩
  · have hF := hF.2 hc
    refine aw_aload_n (j := 0) (M := M_X12_undo) (pc := 7) dX12_undo_7 rfl rfl ?_
    refine aw_bipush (M := M_X12_undo) (pc := 8) dX12_undo_8 ⟨rfl, ⟨by decide, by decide⟩⟩ ?_
    refine aw_cvi (as := [(0, 6)]) (st := []) (M := M_X12_undo) (pc := 10) (f_X12_refuse  hF) dX12_undo_10 rfl (Or.inl ⟨_, _, _, rfl, rfl⟩) cy_X12_refuse ml_X12_91 (by decide) (by decide) (Nat.le_of_ble_eq_true rfl) (fun r8 h7 hF => ?_)
    exact aw_ireti (M := M_X12_undo) (pc := 13) dX12_undo_13 rfl ⟨_, rfl, hF⟩
abbrev M_X12_waits : Hd := (cX12_waits, 3, RX12, (some .int), (9, 220), sc0)
def F_X12_waits (h : Mem) (a1 : Int) (a2 : Int) (Q : Int → Mem → Prop) : Prop :=
  (F_X12_isCell h a1 (fun r2 h1 => ((r2 = 0 → (F_X12_refuse h1 1 (fun r4 h3 => Q r4 h3))) ∧ (¬ (r2 = 0) → (F_X12_isCell h1 a2 (fun r6 h5 => ((¬ (r6 = 0) → (F_X12_laysRide h5 a1 a2 (fun h7 => ((¬ ((h7 161 32) = (-1)) → (F_X12_gives h7 (h7 161 31) (fun r10 h9 => Q r10 h9))) ∧ ((h7 161 32) = (-1) → (F_X12_refuse h7 6 (fun r12 h11 => Q r12 h11))))))) ∧ (r6 = 0 → (F_X12_refuse h5 1 (fun r14 h13 => Q r14 h13))))))))))
set_option maxRecDepth 100000 in
set_option maxHeartbeats 4000000 in
theorem f_X12_waits {h : Mem} {a1 : Int} {a2 : Int} {Q : Int → Mem → Prop}  (hF : F_X12_waits h a1 a2 Q) : Ct yX12_waits cX12_waits 3 (some .int) (9, 220) [vr 161, (0, a1), (0, a2)] h (qi Q) := by
  refine Ct.of np_RX12 (Nat.le_of_ble_eq_true rfl) ?_
  unfold F_X12_waits at hF
  show AW M_X12_waits 0 [(0, vr 161), (1, (0, a1)), (2, (0, a2))] [] h (qi Q)
  refine aw_aload_n (j := 0) (M := M_X12_waits) (pc := 0) dX12_waits_0 rfl rfl ?_
  refine aw_iload_n (j := 1) (M := M_X12_waits) (pc := 1) dX12_waits_1 rfl rfl ?_
  refine aw_cvi (as := [(0, a1)]) (st := []) (M := M_X12_waits) (pc := 2) (f_X12_isCell  hF) dX12_waits_2 rfl (Or.inl ⟨_, _, _, rfl, rfl⟩) cy_X12_isCell ml_X12_326 (by decide) (by decide) (Nat.le_of_ble_eq_true rfl) (fun r2 h1 hF => ?_)
  refine aw_if_eq (tgt := 16) (M := M_X12_waits) (pc := 5) dX12_waits_5 rfl (fun hc => ?_) (fun hc => ?_)
  · have hF := hF.1 hc
    refine aw_aload_n (j := 0) (M := M_X12_waits) (pc := 16) dX12_waits_16 rfl rfl ?_
    refine aw_iconst (M := M_X12_waits) (pc := 17) dX12_waits_17 ⟨by decide, by decide⟩ ?_
    refine aw_cvi (as := [(0, 1)]) (st := []) (M := M_X12_waits) (pc := 18) (f_X12_refuse  hF) dX12_waits_18 rfl (Or.inl ⟨_, _, _, rfl, rfl⟩) cy_X12_refuse ml_X12_91 (by decide) (by decide) (Nat.le_of_ble_eq_true rfl) (fun r4 h3 hF => ?_)
    exact aw_ireti (M := M_X12_waits) (pc := 21) dX12_waits_21 rfl ⟨_, rfl, hF⟩
  · have hF := hF.2 hc
    refine aw_aload_n (j := 0) (M := M_X12_waits) (pc := 8) dX12_waits_8 rfl rfl ?_
    refine aw_iload_n (j := 2) (M := M_X12_waits) (pc := 9) dX12_waits_9 rfl rfl ?_
    refine aw_cvi (as := [(0, a2)]) (st := []) (M := M_X12_waits) (pc := 10) (f_X12_isCell  hF) dX12_waits_10 rfl (Or.inl ⟨_, _, _, rfl, rfl⟩) cy_X12_isCell ml_X12_326 (by decide) (by decide) (Nat.le_of_ble_eq_true rfl) (fun r6 h5 hF => ?_)
    refine aw_if_ne (tgt := 22) (M := M_X12_waits) (pc := 13) dX12_waits_13 rfl (fun hc => ?_) (fun hc => ?_)
    · have hF := hF.1 hc
      refine aw_aload_n (j := 0) (M := M_X12_waits) (pc := 22) dX12_waits_22 rfl rfl ?_
      refine aw_iload_n (j := 1) (M := M_X12_waits) (pc := 23) dX12_waits_23 rfl rfl ?_
      refine aw_iload_n (j := 2) (M := M_X12_waits) (pc := 24) dX12_waits_24 rfl rfl ?_
      refine aw_cvv (as := [(0, a1), (0, a2)]) (st := []) (M := M_X12_waits) (pc := 25) (f_X12_laysRide  hF) dX12_waits_25 rfl (Or.inl ⟨_, _, _, rfl, rfl⟩) cy_X12_laysRide ml_X12_421 (by decide) (by decide) (Nat.le_of_ble_eq_true rfl) (fun h7 hF => ?_)
      refine aw_aload_n (j := 0) (M := M_X12_waits) (pc := 28) dX12_waits_28 rfl rfl ?_
      refine gf_X12_418 (M := M_X12_waits) (pc := 29) rfl dX12_waits_29 rfl ?_
      refine aw_iconst (M := M_X12_waits) (pc := 32) dX12_waits_32 ⟨by decide, by decide⟩ ?_
      refine aw_icmp_ne (tgt := 45) (M := M_X12_waits) (pc := 33) dX12_waits_33 rfl (fun hc => ?_) (fun hc => ?_)
      · have hF := hF.1 hc
        refine aw_aload_n (j := 0) (M := M_X12_waits) (pc := 45) dX12_waits_45 rfl rfl ?_
        refine aw_aload_n (j := 0) (M := M_X12_waits) (pc := 46) dX12_waits_46 rfl rfl ?_
        refine gf_X12_415 (M := M_X12_waits) (pc := 47) rfl dX12_waits_47 rfl ?_
        refine aw_cvi (as := [(0, h7 161 31)]) (st := []) (M := M_X12_waits) (pc := 50) (f_X12_gives  hF) dX12_waits_50 rfl (Or.inl ⟨_, _, _, rfl, rfl⟩) cy_X12_gives ml_X12_95 (by decide) (by decide) (Nat.le_of_ble_eq_true rfl) (fun r10 h9 hF => ?_)
        exact aw_ireti (M := M_X12_waits) (pc := 53) dX12_waits_53 rfl ⟨_, rfl, hF⟩
      · have hF := hF.2 hc
        refine aw_aload_n (j := 0) (M := M_X12_waits) (pc := 36) dX12_waits_36 rfl rfl ?_
        refine aw_bipush (M := M_X12_waits) (pc := 37) dX12_waits_37 ⟨rfl, ⟨by decide, by decide⟩⟩ ?_
        refine aw_cvi (as := [(0, 6)]) (st := []) (M := M_X12_waits) (pc := 39) (f_X12_refuse  hF) dX12_waits_39 rfl (Or.inl ⟨_, _, _, rfl, rfl⟩) cy_X12_refuse ml_X12_91 (by decide) (by decide) (Nat.le_of_ble_eq_true rfl) (fun r12 h11 hF => ?_)
        refine aw_goto (tgt := 53) (M := M_X12_waits) (pc := 42) dX12_waits_42 rfl ?_
        exact aw_ireti (M := M_X12_waits) (pc := 53) dX12_waits_53 rfl ⟨_, rfl, hF⟩
    · have hF := hF.2 hc
      refine aw_aload_n (j := 0) (M := M_X12_waits) (pc := 16) dX12_waits_16 rfl rfl ?_
      refine aw_iconst (M := M_X12_waits) (pc := 17) dX12_waits_17 ⟨by decide, by decide⟩ ?_
      refine aw_cvi (as := [(0, 1)]) (st := []) (M := M_X12_waits) (pc := 18) (f_X12_refuse  hF) dX12_waits_18 rfl (Or.inl ⟨_, _, _, rfl, rfl⟩) cy_X12_refuse ml_X12_91 (by decide) (by decide) (Nat.le_of_ble_eq_true rfl) (fun r14 h13 hF => ?_)
      exact aw_ireti (M := M_X12_waits) (pc := 21) dX12_waits_21 rfl ⟨_, rfl, hF⟩
abbrev M_X12_write : Hd := (cX12_write, 6, RX12, (some .boolean), (3, 87), sc0)
def F_X12_write (h : Mem) (a1 : Int) (a2 : Int) (a3 : Int) (Q : Int → Mem → Prop) : Prop :=
  (F_X12_wrongPlace h a1 a2 (fun r2 h1 => ((¬ (r2 = 0) → (F_X12_is h1 r2 (fun r4 h3 => (InZ r4 ∧ Q r4 h3)))) ∧ (r2 = 0 → (InR (60 * a1) ∧ (InR ((60 * a1) + a2) ∧ ((0 ≤ a1 ∧ a1 < 4) ∧ (F_X12_cut h1 a3 (h1 164 (a1).toNat) (fun r10 h9 => ((0 ≤ ((60 * a1) + a2) ∧ ((60 * a1) + a2) < 240) ∧ (∀ h12 : Mem, h12 = mset h9 166 ((60 * a1) + a2).toNat r10 → (F_X12_is h12 r2 (fun r14 h13 => (InZ r14 ∧ Q r14 h13))))))))))))))
set_option maxRecDepth 100000 in
set_option maxHeartbeats 4000000 in
theorem f_X12_write {h : Mem} {a1 : Int} {a2 : Int} {a3 : Int} {Q : Int → Mem → Prop}  (hF : F_X12_write h a1 a2 a3 Q) : Ct yX12_write cX12_write 6 (some .boolean) (3, 87) [vr 161, (0, a1), (0, a2), (1, a3)] h (qi Q) := by
  refine Ct.of np_RX12 (Nat.le_of_ble_eq_true rfl) ?_
  unfold F_X12_write at hF
  show AW M_X12_write 0 [(0, vr 161), (1, (0, a1)), (2, (0, a2)), (3, (1, a3))] [] h (qi Q)
  refine aw_aload_n (j := 0) (M := M_X12_write) (pc := 0) dX12_write_0 rfl rfl ?_
  refine aw_iload_n (j := 1) (M := M_X12_write) (pc := 1) dX12_write_1 rfl rfl ?_
  refine aw_iload_n (j := 2) (M := M_X12_write) (pc := 2) dX12_write_2 rfl rfl ?_
  refine aw_cvi (as := [(0, a1), (0, a2)]) (st := []) (M := M_X12_write) (pc := 3) (f_X12_wrongPlace  hF) dX12_write_3 rfl (Or.inl ⟨_, _, _, rfl, rfl⟩) cy_X12_wrongPlace ml_X12_105 (by decide) (by decide) (Nat.le_of_ble_eq_true rfl) (fun r2 h1 hF => ?_)
  refine aw_istore (ls' := [(5, (0, r2)), (0, vr 161), (1, (0, a1)), (2, (0, a2)), (3, (1, a3))]) (M := M_X12_write) (pc := 6) dX12_write_6  (by decide) rfl ?_
  refine aw_iload (j := 0) (M := M_X12_write) (pc := 8) dX12_write_8  rfl ?_
  refine aw_if_ne (tgt := 34) (M := M_X12_write) (pc := 10) dX12_write_10 rfl (fun hc => ?_) (fun hc => ?_)
  · have hF := hF.1 hc
    refine aw_aload_n (j := 1) (M := M_X12_write) (pc := 34) dX12_write_34 rfl rfl ?_
    refine aw_iload (j := 0) (M := M_X12_write) (pc := 35) dX12_write_35  rfl ?_
    refine aw_cvi (as := [(0, r2)]) (st := []) (M := M_X12_write) (pc := 37) (f_X12_is  hF) dX12_write_37 rfl (Or.inl ⟨_, _, _, rfl, rfl⟩) cy_X12_is ml_X12_98 (by decide) (by decide) (Nat.le_of_ble_eq_true rfl) (fun r4 h3 hF => ?_)
    exact aw_iretz (M := M_X12_write) (pc := 40) dX12_write_40 rfl hF.1 ⟨_, rfl, hF.2⟩
  · have hF := hF.2 hc
    refine aw_aload_n (j := 1) (M := M_X12_write) (pc := 13) dX12_write_13 rfl rfl ?_
    refine gf_X12_27 (M := M_X12_write) (pc := 14) rfl dX12_write_14 rfl (r := 166) rfl ?_
    refine aw_bipush (M := M_X12_write) (pc := 17) dX12_write_17 ⟨rfl, ⟨by decide, by decide⟩⟩ ?_
    refine aw_iload_n (j := 2) (M := M_X12_write) (pc := 19) dX12_write_19 rfl rfl ?_
    obtain ⟨o5, hF⟩ := hF
    refine aw_imul (M := M_X12_write) (pc := 20) dX12_write_20 rfl o5 ?_
    refine aw_iload_n (j := 3) (M := M_X12_write) (pc := 21) dX12_write_21 rfl rfl ?_
    obtain ⟨o6, hF⟩ := hF
    refine aw_iadd (M := M_X12_write) (pc := 22) dX12_write_22 rfl o6 ?_
    refine aw_lload_n (j := 4) (M := M_X12_write) (pc := 23) dX12_write_23 rfl rfl ?_
    refine aw_aload_n (j := 1) (M := M_X12_write) (pc := 24) dX12_write_24 rfl rfl ?_
    refine gf_X12_21 (M := M_X12_write) (pc := 25) rfl dX12_write_25 rfl (r := 164) rfl ?_
    refine aw_iload_n (j := 2) (M := M_X12_write) (pc := 28) dX12_write_28 rfl rfl ?_
    obtain ⟨o8, hF⟩ := hF
    refine aw_iald (k := (a1).toNat) (M := M_X12_write) (pc := 29) dX12_write_29 rfl o8 rfl ?_
    refine aw_csl (as := [(1, a3), (0, h1 164 (a1).toNat)]) (st := [(0, (60 * a1) + a2), vr 166]) (M := M_X12_write) (pc := 30) (f_X12_cut  hF) dX12_write_30 rfl cy_X12_cut ml_X12_109 (by decide) (by decide) (Nat.le_of_ble_eq_true rfl) (fun r10 h9 hF => ?_)
    obtain ⟨o11, hF⟩ := hF
    refine aw_last (k := ((60 * a1) + a2).toNat) (M := M_X12_write) (pc := 33) dX12_write_33 rfl o11 rfl ?_
    obtain ⟨h12, eh12⟩ : ∃ y : Mem, y = mset h9 166 ((60 * a1) + a2).toNat r10 := ⟨_, rfl⟩
    have hF := hF h12 eh12
    rw [← eh12]
    refine aw_aload_n (j := 1) (M := M_X12_write) (pc := 34) dX12_write_34 rfl rfl ?_
    refine aw_iload (j := 0) (M := M_X12_write) (pc := 35) dX12_write_35  rfl ?_
    refine aw_cvi (as := [(0, r2)]) (st := []) (M := M_X12_write) (pc := 37) (f_X12_is  hF) dX12_write_37 rfl (Or.inl ⟨_, _, _, rfl, rfl⟩) cy_X12_is ml_X12_98 (by decide) (by decide) (Nat.le_of_ble_eq_true rfl) (fun r14 h13 hF => ?_)
    exact aw_iretz (M := M_X12_write) (pc := 40) dX12_write_40 rfl hF.1 ⟨_, rfl, hF.2⟩
