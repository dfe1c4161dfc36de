abbrev M_X11_accept : Hd := (cX11_accept, 1, RX11, (some .boolean), (1, 45), sc0)
def F_X11_accept (h : Mem)  (Q : Int → Mem → Prop) : Prop :=
  (∀ h1 : Mem, h1 = mset h 0 0 0 → Q 1 h1)
set_option maxRecDepth 100000 in
set_option maxHeartbeats 4000000 in
theorem f_X11_accept {h : Mem}  {Q : Int → Mem → Prop}  (hF : F_X11_accept h  Q) : Ct yX11_accept cX11_accept 1 (some .boolean) (1, 45) [vr 0] h (qi Q) := by
  refine Ct.of np_RX11 (Nat.le_of_ble_eq_true rfl) ?_
  unfold F_X11_accept at hF
  show AW M_X11_accept 0 [(0, vr 0)] [] h (qi Q)
  refine aw_aload_n (j := 0) (M := M_X11_accept) (pc := 0) dX11_accept_0 rfl rfl ?_
  refine aw_iconst (M := M_X11_accept) (pc := 1) dX11_accept_1 ⟨by decide, by decide⟩ ?_
  refine pf_X11_102 (M := M_X11_accept) (pc := 2) rfl dX11_accept_2 rfl ?_
  obtain ⟨h1, eh1⟩ : ∃ y : Mem, y = mset h 0 0 0 := ⟨_, rfl⟩
  have hF := hF h1 eh1
  rw [← eh1]
  refine aw_iconst (M := M_X11_accept) (pc := 5) dX11_accept_5 ⟨by decide, by decide⟩ ?_
  exact aw_iretz (M := M_X11_accept) (pc := 6) dX11_accept_6 rfl (Or.inr rfl) ⟨_, rfl, hF⟩
abbrev M_X11_given : Hd := (cX11_given, 2, RX11, (some .int), (1, 45), sc0)
def F_X11_given (h : Mem) (a1 : Int) (Q : Int → Mem → Prop) : Prop :=
  (∀ h1 : Mem, h1 = mset h 0 0 0 → Q a1 h1)
set_option maxRecDepth 100000 in
set_option maxHeartbeats 4000000 in
theorem f_X11_given {h : Mem} {a1 : Int} {Q : Int → Mem → Prop}  (hF : F_X11_given h a1 Q) : Ct yX11_given cX11_given 2 (some .int) (1, 45) [vr 0, (0, a1)] h (qi Q) := by
  refine Ct.of np_RX11 (Nat.le_of_ble_eq_true rfl) ?_
  unfold F_X11_given at hF
  show AW M_X11_given 0 [(0, vr 0), (1, (0, a1))] [] h (qi Q)
  refine aw_aload_n (j := 0) (M := M_X11_given) (pc := 0) dX11_given_0 rfl rfl ?_
  refine aw_iconst (M := M_X11_given) (pc := 1) dX11_given_1 ⟨by decide, by decide⟩ ?_
  refine pf_X11_102 (M := M_X11_given) (pc := 2) rfl dX11_given_2 rfl ?_
  obtain ⟨h1, eh1⟩ : ∃ y : Mem, y = mset h 0 0 0 := ⟨_, rfl⟩
  have hF := hF h1 eh1
  rw [← eh1]
  refine aw_iload_n (j := 1) (M := M_X11_given) (pc := 5) dX11_given_5 rfl rfl ?_
  exact aw_ireti (M := M_X11_given) (pc := 6) dX11_given_6 rfl ⟨_, rfl, hF⟩
abbrev M_X11_refused : Hd := (cX11_refused, 2, RX11, (some .int), (1, 45), sc0)
def F_X11_refused (h : Mem) (a1 : Int) (Q : Int → Mem → Prop) : Prop :=
  (∀ h1 : Mem, h1 = mset h 0 0 a1 → Q (-1) h1)
set_option maxRecDepth 100000 in
set_option maxHeartbeats 4000000 in
theorem f_X11_refused {h : Mem} {a1 : Int} {Q : Int → Mem → Prop}  (hF : F_X11_refused h a1 Q) : Ct yX11_refused cX11_refused 2 (some .int) (1, 45) [vr 0, (0, a1)] h (qi Q) := by
  refine Ct.of np_RX11 (Nat.le_of_ble_eq_true rfl) ?_
  unfold F_X11_refused at hF
  show AW M_X11_refused 0 [(0, vr 0), (1, (0, a1))] [] h (qi Q)
  refine aw_aload_n (j := 0) (M := M_X11_refused) (pc := 0) dX11_refused_0 rfl rfl ?_
  refine aw_iload_n (j := 1) (M := M_X11_refused) (pc := 1) dX11_refused_1 rfl rfl ?_
  refine pf_X11_102 (M := M_X11_refused) (pc := 2) rfl dX11_refused_2 rfl ?_
  obtain ⟨h1, eh1⟩ : ∃ y : Mem, y = mset h 0 0 a1 := ⟨_, rfl⟩
  have hF := hF h1 eh1
  rw [← eh1]
  refine aw_iconst (M := M_X11_refused) (pc := 5) dX11_refused_5 ⟨by decide, by decide⟩ ?_
  exact aw_ireti (M := M_X11_refused) (pc := 6) dX11_refused_6 rfl ⟨_, rfl, hF⟩
abbrev M_X11_givenOrNone : Hd := (cX11_givenOrNone, 2, RX11, (some .int), (2, 66), sc0)
def F_X11_givenOrNone (h : Mem) (a1 : Int) (Q : Int → Mem → Prop) : Prop :=
  ((¬ (a1 = (-1)) → (F_X11_given h a1 (fun r2 h1 => Q r2 h1))) ∧ (a1 = (-1) → (F_X11_refused h 6 (fun r4 h3 => Q r4 h3))))
set_option maxRecDepth 100000 in
set_option maxHeartbeats 4000000 in
theorem f_X11_givenOrNone {h : Mem} {a1 : Int} {Q : Int → Mem → Prop}  (hF : F_X11_givenOrNone h a1 Q) : Ct yX11_givenOrNone cX11_givenOrNone 2 (some .int) (2, 66) [vr 0, (0, a1)] h (qi Q) := by
  refine Ct.of np_RX11 (Nat.le_of_ble_eq_true rfl) ?_
  unfold F_X11_givenOrNone at hF
  show AW M_X11_givenOrNone 0 [(0, vr 0), (1, (0, a1))] [] h (qi Q)
  refine aw_iload_n (j := 1) (M := M_X11_givenOrNone) (pc := 0) dX11_givenOrNone_0 rfl rfl ?_
  refine aw_iconst (M := M_X11_givenOrNone) (pc := 1) dX11_givenOrNone_1 ⟨by decide, by decide⟩ ?_
  refine aw_icmp_ne (tgt := 14) (M := M_X11_givenOrNone) (pc := 2) dX11_givenOrNone_2 rfl (fun hc => ?_) (fun hc => ?_)
  · have hF := hF.1 hc
    refine aw_aload_n (j := 0) (M := M_X11_givenOrNone) (pc := 14) dX11_givenOrNone_14 rfl rfl ?_
    refine aw_iload_n (j := 1) (M := M_X11_givenOrNone) (pc := 15) dX11_givenOrNone_15 rfl rfl ?_
    refine aw_cvi (as := [(0, a1)]) (st := []) (M := M_X11_givenOrNone) (pc := 16) (f_X11_given  hF) dX11_givenOrNone_16 rfl (Or.inl ⟨_, _, _, rfl, rfl⟩) cy_X11_given ml_X11_193 (by decide) (by decide) (Nat.le_of_ble_eq_true rfl) (fun r2 h1 hF => ?_)
    exact aw_ireti (M := M_X11_givenOrNone) (pc := 19) dX11_givenOrNone_19 rfl ⟨_, rfl, hF⟩
  · have hF := hF.2 hc
    refine aw_aload_n (j := 0) (M := M_X11_givenOrNone) (pc := 5) dX11_givenOrNone_5 rfl rfl ?_
    refine aw_bipush (M := M_X11_givenOrNone) (pc := 6) dX11_givenOrNone_6 ⟨rfl, ⟨by decide, by decide⟩⟩ ?_
    refine aw_cvi (as := [(0, 6)]) (st := []) (M := M_X11_givenOrNone) (pc := 8) (f_X11_refused  hF) dX11_givenOrNone_8 rfl (Or.inl ⟨_, _, _, rfl, rfl⟩) cy_X11_refused ml_X11_163 (by decide) (by decide) (Nat.le_of_ble_eq_true rfl) (fun r4 h3 hF => ?_)
    refine aw_goto (tgt := 19) (M := M_X11_givenOrNone) (pc := 11) dX11_givenOrNone_11 rfl ?_
    exact aw_ireti (M := M_X11_givenOrNone) (pc := 19) dX11_givenOrNone_19 rfl ⟨_, rfl, hF⟩
abbrev M_X11_isThing : Hd := (cX11_isThing, 2, RX11, (some .boolean), (1, 45), sc0)
def F_X11_isThing (h : Mem) (a1 : Int) (Q : Int → Mem → Prop) : Prop :=
  ((a1 < 0 → Q 0 h) ∧ (¬ (a1 < 0) → (((h 13 0) ≤ a1 → Q 0 h) ∧ (¬ ((h 13 0) ≤ a1) → Q 1 h))))
set_option maxRecDepth 100000 in
set_option maxHeartbeats 4000000 in
theorem f_X11_isThing {h : Mem} {a1 : Int} {Q : Int → Mem → Prop}  (hF : F_X11_isThing h a1 Q) : Ct yX11_isThing cX11_isThing 2 (some .boolean) (1, 45) [vr 0, (0, a1)] h (qi Q) := by
  refine Ct.of np_RX11 (Nat.le_of_ble_eq_true rfl) ?_
  unfold F_X11_isThing at hF
  show AW M_X11_isThing 0 [(0, vr 0), (1, (0, a1))] [] h (qi Q)
  refine aw_iload_n (j := 1) (M := M_X11_isThing) (pc := 0) dX11_isThing_0 rfl rfl ?_
  refine aw_if_lt (tgt := 22) (M := M_X11_isThing) (pc := 1) dX11_isThing_1 rfl (fun hc => ?_) (fun hc => ?_)
  · have hF := hF.1 hc
    refine aw_iconst (M := M_X11_isThing) (pc := 22) dX11_isThing_22 ⟨by decide, by decide⟩ ?_
    exact aw_iretz (M := M_X11_isThing) (pc := 23) dX11_isThing_23 rfl (Or.inl rfl) ⟨_, rfl, hF⟩
  · have hF := hF.2 hc
    refine aw_iload_n (j := 1) (M := M_X11_isThing) (pc := 4) dX11_isThing_4 rfl rfl ?_
    refine aw_aload_n (j := 0) (M := M_X11_isThing) (pc := 5) dX11_isThing_5 rfl rfl ?_
    refine gf_X11_33 (M := M_X11_isThing) (pc := 6) rfl dX11_isThing_6 rfl (r := 12) rfl ?_
    refine gf_X11_184 (M := M_X11_isThing) (pc := 9) rfl dX11_isThing_9 rfl (r := 13) rfl ?_
    refine gf_X11_188 (M := M_X11_isThing) (pc := 12) rfl dX11_isThing_12 rfl ?_
    refine aw_icmp_ge (tgt := 22) (M := M_X11_isThing) (pc := 15) dX11_isThing_15 rfl (fun hc => ?_) (fun hc => ?_)
    · have hF := hF.1 hc
      refine aw_iconst (M := M_X11_isThing) (pc := 22) dX11_isThing_22 ⟨by decide, by decide⟩ ?_
      exact aw_iretz (M := M_X11_isThing) (pc := 23) dX11_isThing_23 rfl (Or.inl rfl) ⟨_, rfl, hF⟩
    · have hF := hF.2 hc
      refine aw_iconst (M := M_X11_isThing) (pc := 18) dX11_isThing_18 ⟨by decide, by decide⟩ ?_
      refine aw_goto (tgt := 23) (M := M_X11_isThing) (pc := 19) dX11_isThing_19 rfl ?_
      exact aw_iretz (M := M_X11_isThing) (pc := 23) dX11_isThing_23 rfl (Or.inr rfl) ⟨_, rfl, hF⟩
abbrev M_X11_outside : Hd := (cX11_outside, 3, RX11, (some .boolean), (1, 45), sc0)
def F_X11_outside (h : Mem) (a1 : Int) (a2 : Int) (a3 : Int) (Q : Int → Mem → Prop) : Prop :=
  ((a1 < a2 → Q 1 h) ∧ (¬ (a1 < a2) → ((a1 ≤ a3 → Q 0 h) ∧ (¬ (a1 ≤ a3) → Q 1 h))))
set_option maxRecDepth 100000 in
set_option maxHeartbeats 4000000 in
theorem f_X11_outside {h : Mem} {a1 : Int} {a2 : Int} {a3 : Int} {Q : Int → Mem → Prop}  (hF : F_X11_outside h a1 a2 a3 Q) : Ct yX11_outside cX11_outside 3 (some .boolean) (1, 45) [(0, a1), (0, a2), (0, a3)] h (qi Q) := by
  refine Ct.of np_RX11 (Nat.le_of_ble_eq_true rfl) ?_
  unfold F_X11_outside at hF
  show AW M_X11_outside 0 [(0, (0, a1)), (1, (0, a2)), (2, (0, a3))] [] h (qi Q)
  refine aw_iload_n (j := 0) (M := M_X11_outside) (pc := 0) dX11_outside_0 rfl rfl ?_
  refine aw_iload_n (j := 1) (M := M_X11_outside) (pc := 1) dX11_outside_1 rfl rfl ?_
  refine aw_icmp_lt (tgt := 10) (M := M_X11_outside) (pc := 2) dX11_outside_2 rfl (fun hc => ?_) (fun hc => ?_)
  · have hF := hF.1 hc
    refine aw_iconst (M := M_X11_outside) (pc := 10) dX11_outside_10 ⟨by decide, by decide⟩ ?_
    refine aw_goto (tgt := 15) (M := M_X11_outside) (pc := 11) dX11_outside_11 rfl ?_
    exact aw_iretz (M := M_X11_outside) (pc := 15) dX11_outside_15 rfl (Or.inr rfl) ⟨_, rfl, hF⟩
  · have hF := hF.2 hc
    refine aw_iload_n (j := 0) (M := M_X11_outside) (pc := 5) dX11_outside_5 rfl rfl ?_
    refine aw_iload_n (j := 2) (M := M_X11_outside) (pc := 6) dX11_outside_6 rfl rfl ?_
    refine aw_icmp_le (tgt := 14) (M := M_X11_outside) (pc := 7) dX11_outside_7 rfl (fun hc => ?_) (fun hc => ?_)
    · have hF := hF.1 hc
      refine aw_iconst (M := M_X11_outside) (pc := 14) dX11_outside_14 ⟨by decide, by decide⟩ ?_
      exact aw_iretz (M := M_X11_outside) (pc := 15) dX11_outside_15 rfl (Or.inl rfl) ⟨_, rfl, hF⟩
    · have hF := hF.2 hc
      refine aw_iconst (M := M_X11_outside) (pc := 10) dX11_outside_10 ⟨by decide, by decide⟩ ?_
      refine aw_goto (tgt := 15) (M := M_X11_outside) (pc := 11) dX11_outside_11 rfl ?_
      exact aw_iretz (M := M_X11_outside) (pc := 15) dX11_outside_15 rfl (Or.inr rfl) ⟨_, rfl, hF⟩
abbrev M_X11_aim : Hd := (cX11_aim, 3, RX11, (some .int), (6, 163), sc0)
def F_X11_aim (h : Mem) (a1 : Int) (a2 : Int) (Q : Int → Mem → Prop) : Prop :=
  (F_X11_isThing h a1 (fun r2 h1 => ((r2 = 0 → (F_X11_refused h1 1 (fun r4 h3 => Q r4 h3))) ∧ (¬ (r2 = 0) → (F_X11_outside h1 a2 0 60 (fun r6 h5 => ((r6 = 0 → (F_X9_isFree h5 13 a1 (fun r8 h7 => ((¬ (r8 = 0) → (F_X0_cellToTurnIn h7 12 146 a1 a2 (fun r10 h9 => (F_X11_givenOrNone h9 r10 (fun r12 h11 => Q r12 h11))))) ∧ (r8 = 0 → (F_X11_refused h7 7 (fun r14 h13 => Q r14 h13))))))) ∧ (¬ (r6 = 0) → (F_X11_refused h5 1 (fun r16 h15 => Q r16 h15))))))))))
set_option maxRecDepth 100000 in
set_option maxHeartbeats 4000000 in
theorem f_X11_aim {h : Mem} {a1 : Int} {a2 : Int} {Q : Int → Mem → Prop}  (hF : F_X11_aim h a1 a2 Q) : Ct yX11_aim cX11_aim 3 (some .int) (6, 163) [vr 0, (0, a1), (0, a2)] h (qi Q) := by
  refine Ct.of np_RX11 (Nat.le_of_ble_eq_true rfl) ?_
  unfold F_X11_aim at hF
  show AW M_X11_aim 0 [(0, vr 0), (1, (0, a1)), (2, (0, a2))] [] h (qi Q)
  refine aw_aload_n (j := 0) (M := M_X11_aim) (pc := 0) dX11_aim_0 rfl rfl ?_
  refine aw_iload_n (j := 1) (M := M_X11_aim) (pc := 1) dX11_aim_1 rfl rfl ?_
  refine aw_cvi (as := [(0, a1)]) (st := []) (M := M_X11_aim) (pc := 2) (f_X11_isThing  hF) dX11_aim_2 rfl (Or.inl ⟨_, _, _, rfl, rfl⟩) cy_X11_isThing ml_X11_252 (by decide) (by decide) (Nat.le_of_ble_eq_true rfl) (fun r2 h1 hF => ?_)
  refine aw_if_eq (tgt := 18) (M := M_X11_aim) (pc := 5) dX11_aim_5 rfl (fun hc => ?_) (fun hc => ?_)
  · have hF := hF.1 hc
    refine aw_aload_n (j := 0) (M := M_X11_aim) (pc := 18) dX11_aim_18 rfl rfl ?_
    refine aw_iconst (M := M_X11_aim) (pc := 19) dX11_aim_19 ⟨by decide, by decide⟩ ?_
    refine aw_cvi (as := [(0, 1)]) (st := []) (M := M_X11_aim) (pc := 20) (f_X11_refused  hF) dX11_aim_20 rfl (Or.inl ⟨_, _, _, rfl, rfl⟩) cy_X11_refused ml_X11_163 (by decide) (by decide) (Nat.le_of_ble_eq_true rfl) (fun r4 h3 hF => ?_)
    exact aw_ireti (M := M_X11_aim) (pc := 23) dX11_aim_23 rfl ⟨_, rfl, hF⟩
  · have hF := hF.2 hc
    refine aw_iload_n (j := 2) (M := M_X11_aim) (pc := 8) dX11_aim_8 rfl rfl ?_
    refine aw_iconst (M := M_X11_aim) (pc := 9) dX11_aim_9 ⟨by decide, by decide⟩ ?_
    refine aw_bipush (M := M_X11_aim) (pc := 10) dX11_aim_10 ⟨rfl, ⟨by decide, by decide⟩⟩ ?_
    refine aw_csi (as := [(0, a2), (0, 0), (0, 60)]) (st := []) (M := M_X11_aim) (pc := 12) (f_X11_outside  hF) dX11_aim_12 rfl cy_X11_outside ml_X11_105 (by decide) (by decide) (Nat.le_of_ble_eq_true rfl) (fun r6 h5 hF => ?_)
    refine aw_if_eq (tgt := 24) (M := M_X11_aim) (pc := 15) dX11_aim_15 rfl (fun hc => ?_) (fun hc => ?_)
    · have hF := hF.1 hc
      refine aw_aload_n (j := 0) (M := M_X11_aim) (pc := 24) dX11_aim_24 rfl rfl ?_
      refine gf_X11_33 (M := M_X11_aim) (pc := 25) rfl dX11_aim_25 rfl (r := 12) rfl ?_
      refine gf_X11_184 (M := M_X11_aim) (pc := 28) rfl dX11_aim_28 rfl (r := 13) rfl ?_
      refine aw_iload_n (j := 1) (M := M_X11_aim) (pc := 31) dX11_aim_31 rfl rfl ?_
      refine aw_cvi (as := [(0, a1)]) (st := []) (M := M_X11_aim) (pc := 32) (f_X9_isFree rfl hF) dX11_aim_32 rfl (Or.inl ⟨_, _, _, rfl, rfl⟩) cy_X9_isFree ml_X11_273 (by decide) (by decide) (Nat.le_of_ble_eq_true rfl) (fun r8 h7 hF => ?_)
      refine aw_if_ne (tgt := 45) (M := M_X11_aim) (pc := 35) dX11_aim_35 rfl (fun hc => ?_) (fun hc => ?_)
      · have hF := hF.1 hc
        refine aw_aload_n (j := 0) (M := M_X11_aim) (pc := 45) dX11_aim_45 rfl rfl ?_
        refine aw_aload_n (j := 0) (M := M_X11_aim) (pc := 46) dX11_aim_46 rfl rfl ?_
        refine gf_X11_64 (M := M_X11_aim) (pc := 47) rfl dX11_aim_47 rfl (r := 42) rfl ?_
        refine aw_aload_n (j := 0) (M := M_X11_aim) (pc := 50) dX11_aim_50 rfl rfl ?_
        refine gf_X11_33 (M := M_X11_aim) (pc := 51) rfl dX11_aim_51 rfl (r := 12) rfl ?_
        refine aw_aload_n (j := 0) (M := M_X11_aim) (pc := 54) dX11_aim_54 rfl rfl ?_
        refine gf_X11_44 (M := M_X11_aim) (pc := 55) rfl dX11_aim_55 rfl (r := 146) rfl ?_
        refine aw_iload_n (j := 1) (M := M_X11_aim) (pc := 58) dX11_aim_58 rfl rfl ?_
        refine aw_iload_n (j := 2) (M := M_X11_aim) (pc := 59) dX11_aim_59 rfl rfl ?_
        refine aw_cvi (as := [vr 12, vr 146, (0, a1), (0, a2)]) (st := [vr 0]) (M := M_X11_aim) (pc := 60) (f_X0_cellToTurnIn rfl rfl hF) dX11_aim_60 rfl (Or.inl ⟨_, _, _, rfl, rfl⟩) cy_X0_cellToTurnIn ml_X11_335 (by decide) (by decide) (Nat.le_of_ble_eq_true rfl) (fun r10 h9 hF => ?_)
        refine aw_cvi (as := [(0, r10)]) (st := []) (M := M_X11_aim) (pc := 63) (f_X11_givenOrNone  hF) dX11_aim_63 rfl (Or.inl ⟨_, _, _, rfl, rfl⟩) cy_X11_givenOrNone ml_X11_322 (by decide) (by decide) (Nat.le_of_ble_eq_true rfl) (fun r12 h11 hF => ?_)
        exact aw_ireti (M := M_X11_aim) (pc := 66) dX11_aim_66 rfl ⟨_, rfl, hF⟩
      · have hF := hF.2 hc
        refine aw_aload_n (j := 0) (M := M_X11_aim) (pc := 38) dX11_aim_38 rfl rfl ?_
        refine aw_bipush (M := M_X11_aim) (pc := 39) dX11_aim_39 ⟨rfl, ⟨by decide, by decide⟩⟩ ?_
        refine aw_cvi (as := [(0, 7)]) (st := []) (M := M_X11_aim) (pc := 41) (f_X11_refused  hF) dX11_aim_41 rfl (Or.inl ⟨_, _, _, rfl, rfl⟩) cy_X11_refused ml_X11_163 (by decide) (by decide) (Nat.le_of_ble_eq_true rfl) (fun r14 h13 hF => ?_)
        exact aw_ireti (M := M_X11_aim) (pc := 44) dX11_aim_44 rfl ⟨_, rfl, hF⟩
    · have hF := hF.2 hc
      refine aw_aload_n (j := 0) (M := M_X11_aim) (pc := 18) dX11_aim_18 rfl rfl ?_
      refine aw_iconst (M := M_X11_aim) (pc := 19) dX11_aim_19 ⟨by decide, by decide⟩ ?_
      refine aw_cvi (as := [(0, 1)]) (st := []) (M := M_X11_aim) (pc := 20) (f_X11_refused  hF) dX11_aim_20 rfl (Or.inl ⟨_, _, _, rfl, rfl⟩) cy_X11_refused ml_X11_163 (by decide) (by decide) (Nat.le_of_ble_eq_true rfl) (fun r16 h15 hF => ?_)
      exact aw_ireti (M := M_X11_aim) (pc := 23) dX11_aim_23 rfl ⟨_, rfl, hF⟩
abbrev M_X11_whyTooFew : Hd := (cX11_whyTooFew, 3, RX11, (some .int), (2, 66), sc0)
def F_X11_whyTooFew (h : Mem) (a1 : Int) (a2 : Int) (Q : Int → Mem → Prop) : Prop :=
  (F_X10_isTray h a1 (fun r2 h1 => ((¬ (r2 = 0) → (F_X10_isMissing h1 a1 (fun r4 h3 => ((r4 = 0 → ((0 ≤ a1 ∧ a1 < 4) ∧ ((a2 ≤ (h3 3 (a1).toNat) → Q 0 h3) ∧ (¬ (a2 ≤ (h3 3 (a1).toNat)) → Q 3 h3)))) ∧ (¬ (r4 = 0) → Q 2 h3))))) ∧ (r2 = 0 → Q 1 h1))))
set_option maxRecDepth 100000 in
set_option maxHeartbeats 4000000 in
theorem f_X11_whyTooFew {h : Mem} {a1 : Int} {a2 : Int} {Q : Int → Mem → Prop}  (hF : F_X11_whyTooFew h a1 a2 Q) : Ct yX11_whyTooFew cX11_whyTooFew 3 (some .int) (2, 66) [vr 0, (0, a1), (0, a2)] h (qi Q) := by
  refine Ct.of np_RX11 (Nat.le_of_ble_eq_true rfl) ?_
  unfold F_X11_whyTooFew at hF
  show AW M_X11_whyTooFew 0 [(0, vr 0), (1, (0, a1)), (2, (0, a2))] [] h (qi Q)
  refine aw_aload_n (j := 0) (M := M_X11_whyTooFew) (pc := 0) dX11_whyTooFew_0 rfl rfl ?_
  refine gf_X11_19 (M := M_X11_whyTooFew) (pc := 1) rfl dX11_whyTooFew_1 rfl (r := 1) rfl ?_
  refine aw_iload_n (j := 1) (M := M_X11_whyTooFew) (pc := 4) dX11_whyTooFew_4 rfl rfl ?_
  refine aw_cvi (as := [(0, a1)]) (st := []) (M := M_X11_whyTooFew) (pc := 5) (f_X10_isTray  hF) dX11_whyTooFew_5 rfl (Or.inl ⟨_, _, _, rfl, rfl⟩) cy_X10_isTray ml_X11_135 (by decide) (by decide) (Nat.le_of_ble_eq_true rfl) (fun r2 h1 hF => ?_)
  refine aw_if_ne (tgt := 13) (M := M_X11_whyTooFew) (pc := 8) dX11_whyTooFew_8 rfl (fun hc => ?_) (fun hc => ?_)
  · have hF := hF.1 hc
    refine aw_aload_n (j := 0) (M := M_X11_whyTooFew) (pc := 13) dX11_whyTooFew_13 rfl rfl ?_
    refine gf_X11_19 (M := M_X11_whyTooFew) (pc := 14) rfl dX11_whyTooFew_14 rfl (r := 1) rfl ?_
    refine aw_iload_n (j := 1) (M := M_X11_whyTooFew) (pc := 17) dX11_whyTooFew_17 rfl rfl ?_
    refine aw_cvi (as := [(0, a1)]) (st := []) (M := M_X11_whyTooFew) (pc := 18) (f_X10_isMissing  hF) dX11_whyTooFew_18 rfl (Or.inl ⟨_, _, _, rfl, rfl⟩) cy_X10_isMissing ml_X11_138 (by decide) (by decide) (Nat.le_of_ble_eq_true rfl) (fun r4 h3 hF => ?_)
    refine aw_if_eq (tgt := 26) (M := M_X11_whyTooFew) (pc := 21) dX11_whyTooFew_21 rfl (fun hc => ?_) (fun hc => ?_)
    · have hF := hF.1 hc
      refine aw_aload_n (j := 0) (M := M_X11_whyTooFew) (pc := 26) dX11_whyTooFew_26 rfl rfl ?_
      refine gf_X11_19 (M := M_X11_whyTooFew) (pc := 27) rfl dX11_whyTooFew_27 rfl (r := 1) rfl ?_
      refine gf_X11_144 (M := M_X11_whyTooFew) (pc := 30) rfl dX11_whyTooFew_30 rfl (r := 3) rfl ?_
      refine aw_iload_n (j := 1) (M := M_X11_whyTooFew) (pc := 33) dX11_whyTooFew_33 rfl rfl ?_
      obtain ⟨o6, hF⟩ := hF
      refine aw_iald (k := (a1).toNat) (M := M_X11_whyTooFew) (pc := 34) dX11_whyTooFew_34 rfl o6 rfl ?_
      refine aw_iload_n (j := 2) (M := M_X11_whyTooFew) (pc := 35) dX11_whyTooFew_35 rfl rfl ?_
      refine aw_icmp_ge (tgt := 43) (M := M_X11_whyTooFew) (pc := 36) dX11_whyTooFew_36 rfl (fun hc => ?_) (fun hc => ?_)
      · have hF := hF.1 hc
        refine aw_iconst (M := M_X11_whyTooFew) (pc := 43) dX11_whyTooFew_43 ⟨by decide, by decide⟩ ?_
        exact aw_ireti (M := M_X11_whyTooFew) (pc := 44) dX11_whyTooFew_44 rfl ⟨_, rfl, hF⟩
      · have hF := hF.2 hc
        refine aw_iconst (M := M_X11_whyTooFew) (pc := 39) dX11_whyTooFew_39 ⟨by decide, by decide⟩ ?_
        refine aw_goto (tgt := 44) (M := M_X11_whyTooFew) (pc := 40) dX11_whyTooFew_40 rfl ?_
        exact aw_ireti (M := M_X11_whyTooFew) (pc := 44) dX11_whyTooFew_44 rfl ⟨_, rfl, hF⟩
    · have hF := hF.2 hc
      refine aw_iconst (M := M_X11_whyTooFew) (pc := 24) dX11_whyTooFew_24 ⟨by decide, by decide⟩ ?_
      exact aw_ireti (M := M_X11_whyTooFew) (pc := 25) dX11_whyTooFew_25 rfl ⟨_, rfl, hF⟩
  · have hF := hF.2 hc
    refine aw_iconst (M := M_X11_whyTooFew) (pc := 11) dX11_whyTooFew_11 ⟨by decide, by decide⟩ ?_
    exact aw_ireti (M := M_X11_whyTooFew) (pc := 12) dX11_whyTooFew_12 rfl ⟨_, rfl, hF⟩
abbrev M_X11_whyNotMinded : Hd := (cX11_whyNotMinded, 5, RX11, (some .int), (5, 143), sc0)
def F_X11_whyNotMinded (h : Mem) (a1 : Int) (a2 : Int) (a3 : Int) (Q : Int → Mem → Prop) : Prop :=
  (F_X11_isThing h a1 (fun r2 h1 => ((r2 = 0 → Q 1 h1) ∧ (¬ (r2 = 0) → (F_X11_outside h1 a3 0 20 (fun r4 h3 => ((r4 = 0 → (InR (2 * a3) ∧ (F_X11_whyTooFew h3 a2 (2 * a3) (fun r7 h6 => ((r7 = 0 → ((0 ≤ a2 ∧ a2 < 4) ∧ (F_X0_canBeSeen h6 (4 + 1 + 1 * (a2).toNat) a3 (fun r10 h9 => ((¬ (r10 = 0) → (F_X0_findMinds h9 12 146 a1 (4 + 1 + 1 * (a2).toNat) a3 (fun h11 => Q 0 h11))) ∧ (r10 = 0 → Q 5 h9)))))) ∧ (¬ (r7 = 0) → Q r7 h6)))))) ∧ (¬ (r4 = 0) → Q 1 h3))))))))
set_option maxRecDepth 100000 in
set_option maxHeartbeats 4000000 in
theorem f_X11_whyNotMinded {h : Mem} {a1 : Int} {a2 : Int} {a3 : Int} {Q : Int → Mem → Prop}  (hF : F_X11_whyNotMinded h a1 a2 a3 Q) : Ct yX11_whyNotMinded cX11_whyNotMinded 5 (some .int) (5, 143) [vr 0, (0, a1), (0, a2), (0, a3)] h (qi Q) := by
  refine Ct.of np_RX11 (Nat.le_of_ble_eq_true rfl) ?_
  unfold F_X11_whyNotMinded at hF
  show AW M_X11_whyNotMinded 0 [(0, vr 0), (1, (0, a1)), (2, (0, a2)), (3, (0, a3))] [] h (qi Q)
  refine aw_aload_n (j := 0) (M := M_X11_whyNotMinded) (pc := 0) dX11_whyNotMinded_0 rfl rfl ?_
  refine aw_iload_n (j := 1) (M := M_X11_whyNotMinded) (pc := 1) dX11_whyNotMinded_1 rfl rfl ?_
  refine aw_cvi (as := [(0, a1)]) (st := []) (M := M_X11_whyNotMinded) (pc := 2) (f_X11_isThing  hF) dX11_whyNotMinded_2 rfl (Or.inl ⟨_, _, _, rfl, rfl⟩) cy_X11_isThing ml_X11_252 (by decide) (by decide) (Nat.le_of_ble_eq_true rfl) (fun r2 h1 hF => ?_)
  refine aw_if_eq (tgt := 18) (M := M_X11_whyNotMinded) (pc := 5) dX11_whyNotMinded_5 rfl (fun hc => ?_) (fun hc => ?_)
  · have hF := hF.1 hc
    refine aw_iconst (M := M_X11_whyNotMinded) (pc := 18) dX11_whyNotMinded_18 ⟨by decide, by decide⟩ ?_
    exact aw_ireti (M := M_X11_whyNotMinded) (pc := 19) dX11_whyNotMinded_19 rfl ⟨_, rfl, hF⟩
  · have hF := hF.2 hc
    refine aw_iload_n (j := 3) (M := M_X11_whyNotMinded) (pc := 8) dX11_whyNotMinded_8 rfl rfl ?_
    refine aw_iconst (M := M_X11_whyNotMinded) (pc := 9) dX11_whyNotMinded_9 ⟨by decide, by decide⟩ ?_
    refine aw_bipush (M := M_X11_whyNotMinded) (pc := 10) dX11_whyNotMinded_10 ⟨rfl, ⟨by decide, by decide⟩⟩ ?_
    refine aw_csi (as := [(0, a3), (0, 0), (0, 20)]) (st := []) (M := M_X11_whyNotMinded) (pc := 12) (f_X11_outside  hF) dX11_whyNotMinded_12 rfl cy_X11_outside ml_X11_105 (by decide) (by decide) (Nat.le_of_ble_eq_true rfl) (fun r4 h3 hF => ?_)
    refine aw_if_eq (tgt := 20) (M := M_X11_whyNotMinded) (pc := 15) dX11_whyNotMinded_15 rfl (fun hc => ?_) (fun hc => ?_)
    · have hF := hF.1 hc
      refine aw_aload_n (j := 0) (M := M_X11_whyNotMinded) (pc := 20) dX11_whyNotMinded_20 rfl rfl ?_
      refine aw_iload_n (j := 2) (M := M_X11_whyNotMinded) (pc := 21) dX11_whyNotMinded_21 rfl rfl ?_
      refine aw_iconst (M := M_X11_whyNotMinded) (pc := 22) dX11_whyNotMinded_22 ⟨by decide, by decide⟩ ?_
      refine aw_iload_n (j := 3) (M := M_X11_whyNotMinded) (pc := 23) dX11_whyNotMinded_23 rfl rfl ?_
      obtain ⟨o5, hF⟩ := hF
      refine aw_imul (M := M_X11_whyNotMinded) (pc := 24) dX11_whyNotMinded_24 rfl o5 ?_
      refine aw_cvi (as := [(0, a2), (0, 2 * a3)]) (st := []) (M := M_X11_whyNotMinded) (pc := 25) (f_X11_whyTooFew  hF) dX11_whyNotMinded_25 rfl (Or.inl ⟨_, _, _, rfl, rfl⟩) cy_X11_whyTooFew ml_X11_412 (by decide) (by decide) (Nat.le_of_ble_eq_true rfl) (fun r7 h6 hF => ?_)
      refine aw_istore (ls' := [(4, (0, r7)), (0, vr 0), (1, (0, a1)), (2, (0, a2)), (3, (0, a3))]) (M := M_X11_whyNotMinded) (pc := 28) dX11_whyNotMinded_28  (by decide) rfl ?_
      refine aw_iload (j := 0) (M := M_X11_whyNotMinded) (pc := 30) dX11_whyNotMinded_30  rfl ?_
      refine aw_if_eq (tgt := 38) (M := M_X11_whyNotMinded) (pc := 32) dX11_whyNotMinded_32 rfl (fun hc => ?_) (fun hc => ?_)
      · have hF := hF.1 hc
        refine aw_aload_n (j := 1) (M := M_X11_whyNotMinded) (pc := 38) dX11_whyNotMinded_38 rfl rfl ?_
        refine gf_X11_19 (M := M_X11_whyNotMinded) (pc := 39) rfl dX11_whyNotMinded_39 rfl (r := 1) rfl ?_
        refine gf_X11_129 (M := M_X11_whyNotMinded) (pc := 42) rfl dX11_whyNotMinded_42 rfl (r := 4) rfl ?_
        refine aw_iload_n (j := 3) (M := M_X11_whyNotMinded) (pc := 45) dX11_whyNotMinded_45 rfl rfl ?_
        obtain ⟨o8, hF⟩ := hF
        refine aw_ald7 (M := M_X11_whyNotMinded) (pc := 46) dX11_whyNotMinded_46 rfl o8 ?_
        refine aw_iload_n (j := 4) (M := M_X11_whyNotMinded) (pc := 47) dX11_whyNotMinded_47 rfl rfl ?_
        refine aw_csi (as := [vr (4 + 1 + 1 * (a2).toNat), (0, a3)]) (st := []) (M := M_X11_whyNotMinded) (pc := 48) (f_X0_canBeSeen (le_7 o8) hF) dX11_whyNotMinded_48 rfl cy_X0_canBeSeen ml_X11_443 (by decide) (by decide) (Nat.le_of_ble_eq_true rfl) (fun r10 h9 hF => ?_)
        refine aw_if_ne (tgt := 56) (M := M_X11_whyNotMinded) (pc := 51) dX11_whyNotMinded_51 rfl (fun hc => ?_) (fun hc => ?_)
        · have hF := hF.1 hc
          refine aw_aload_n (j := 1) (M := M_X11_whyNotMinded) (pc := 56) dX11_whyNotMinded_56 rfl rfl ?_
          refine gf_X11_64 (M := M_X11_whyNotMinded) (pc := 57) rfl dX11_whyNotMinded_57 rfl (r := 42) rfl ?_
          refine aw_aload_n (j := 1) (M := M_X11_whyNotMinded) (pc := 60) dX11_whyNotMinded_60 rfl rfl ?_
          refine gf_X11_33 (M := M_X11_whyNotMinded) (pc := 61) rfl dX11_whyNotMinded_61 rfl (r := 12) rfl ?_
          refine aw_aload_n (j := 1) (M := M_X11_whyNotMinded) (pc := 64) dX11_whyNotMinded_64 rfl rfl ?_
          refine gf_X11_44 (M := M_X11_whyNotMinded) (pc := 65) rfl dX11_whyNotMinded_65 rfl (r := 146) rfl ?_
          refine aw_iload_n (j := 2) (M := M_X11_whyNotMinded) (pc := 68) dX11_whyNotMinded_68 rfl rfl ?_
          refine aw_aload_n (j := 1) (M := M_X11_whyNotMinded) (pc := 69) dX11_whyNotMinded_69 rfl rfl ?_
          refine gf_X11_19 (M := M_X11_whyNotMinded) (pc := 70) rfl dX11_whyNotMinded_70 rfl (r := 1) rfl ?_
          refine gf_X11_129 (M := M_X11_whyNotMinded) (pc := 73) rfl dX11_whyNotMinded_73 rfl (r := 4) rfl ?_
          refine aw_iload_n (j := 3) (M := M_X11_whyNotMinded) (pc := 76) dX11_whyNotMinded_76 rfl rfl ?_
          refine aw_ald7 (M := M_X11_whyNotMinded) (pc := 77) dX11_whyNotMinded_77 rfl o8 ?_
          refine aw_iload_n (j := 4) (M := M_X11_whyNotMinded) (pc := 78) dX11_whyNotMinded_78 rfl rfl ?_
          refine aw_cvv (as := [vr 12, vr 146, (0, a1), vr (4 + 1 + 1 * (a2).toNat), (0, a3)]) (st := []) (M := M_X11_whyNotMinded) (pc := 79) (f_X0_findMinds rfl rfl (le_7 o8) hF) dX11_whyNotMinded_79 rfl (Or.inl ⟨_, _, _, rfl, rfl⟩) cy_X0_findMinds ml_X11_447 (by decide) (by decide) (Nat.le_of_ble_eq_true rfl) (fun h11 hF => ?_)
          refine aw_iconst (M := M_X11_whyNotMinded) (pc := 82) dX11_whyNotMinded_82 ⟨by decide, by decide⟩ ?_
          exact aw_ireti (M := M_X11_whyNotMinded) (pc := 83) dX11_whyNotMinded_83 rfl ⟨_, rfl, hF⟩
        · have hF := hF.2 hc
          refine aw_iconst (M := M_X11_whyNotMinded) (pc := 54) dX11_whyNotMinded_54 ⟨by decide, by decide⟩ ?_
          exact aw_ireti (M := M_X11_whyNotMinded) (pc := 55) dX11_whyNotMinded_55 rfl ⟨_, rfl, hF⟩
      · have hF := hF.2 hc
        refine aw_iload (j := 0) (M := M_X11_whyNotMinded) (pc := 35) dX11_whyNotMinded_35  rfl ?_
        exact aw_ireti (M := M_X11_whyNotMinded) (pc := 37) dX11_whyNotMinded_37 rfl ⟨_, rfl, hF⟩
    · have hF := hF.2 hc
      refine aw_iconst (M := M_X11_whyNotMinded) (pc := 18) dX11_whyNotMinded_18 ⟨by decide, by decide⟩ ?_
      exact aw_ireti (M := M_X11_whyNotMinded) (pc := 19) dX11_whyNotMinded_19 rfl ⟨_, rfl, hF⟩
abbrev M_X11_ask : Hd := (cX11_ask, 5, RX11, (some .int), (6, 167), sc0)
def F_X11_ask (h : Mem) (a1 : Int) (a2 : Int) (a3 : Int) (Q : Int → Mem → Prop) : Prop :=
  (F_X11_whyNotMinded h a1 a2 a3 (fun r2 h1 => ((r2 = 0 → (F_X0_bestQuestion h1  (fun r4 h3 => (F_X11_givenOrNone h3 r4 (fun r6 h5 => Q r6 h5))))) ∧ (¬ (r2 = 0) → (F_X11_refused h1 r2 (fun r8 h7 => Q r8 h7))))))
set_option maxRecDepth 100000 in
set_option maxHeartbeats 4000000 in
theorem f_X11_ask {h : Mem} {a1 : Int} {a2 : Int} {a3 : Int} {Q : Int → Mem → Prop}  (hF : F_X11_ask h a1 a2 a3 Q) : Ct yX11_ask cX11_ask 5 (some .int) (6, 167) [vr 0, (0, a1), (0, a2), (0, a3)] h (qi Q) := by
  refine Ct.of np_RX11 (Nat.le_of_ble_eq_true rfl) ?_
  unfold F_X11_ask at hF
  show AW M_X11_ask 0 [(0, vr 0), (1, (0, a1)), (2, (0, a2)), (3, (0, a3))] [] h (qi Q)
  refine aw_aload_n (j := 0) (M := M_X11_ask) (pc := 0) dX11_ask_0 rfl rfl ?_
  refine aw_iload_n (j := 1) (M := M_X11_ask) (pc := 1) dX11_ask_1 rfl rfl ?_
  refine aw_iload_n (j := 2) (M := M_X11_ask) (pc := 2) dX11_ask_2 rfl rfl ?_
  refine aw_iload_n (j := 3) (M := M_X11_ask) (pc := 3) dX11_ask_3 rfl rfl ?_
  refine aw_cvi (as := [(0, a1), (0, a2), (0, a3)]) (st := []) (M := M_X11_ask) (pc := 4) (f_X11_whyNotMinded  hF) dX11_ask_4 rfl (Or.inl ⟨_, _, _, rfl, rfl⟩) cy_X11_whyNotMinded ml_X11_355 (by decide) (by decide) (Nat.le_of_ble_eq_true rfl) (fun r2 h1 hF => ?_)
  refine aw_istore (ls' := [(4, (0, r2)), (0, vr 0), (1, (0, a1)), (2, (0, a2)), (3, (0, a3))]) (M := M_X11_ask) (pc := 7) dX11_ask_7  (by decide) rfl ?_
  refine aw_iload (j := 0) (M := M_X11_ask) (pc := 9) dX11_ask_9  rfl ?_
  refine aw_if_eq (tgt := 21) (M := M_X11_ask) (pc := 11) dX11_ask_11 rfl (fun hc => ?_) (fun hc => ?_)
  · have hF := hF.1 hc
    refine aw_aload_n (j := 1) (M := M_X11_ask) (pc := 21) dX11_ask_21 rfl rfl ?_
    refine aw_aload_n (j := 1) (M := M_X11_ask) (pc := 22) dX11_ask_22 rfl rfl ?_
    refine gf_X11_64 (M := M_X11_ask) (pc := 23) rfl dX11_ask_23 rfl (r := 42) rfl ?_
    refine aw_cvi (as := []) (st := [vr 0]) (M := M_X11_ask) (pc := 26) (f_X0_bestQuestion  hF) dX11_ask_26 rfl (Or.inl ⟨_, _, _, rfl, rfl⟩) cy_X0_bestQuestion ml_X11_368 (by decide) (by decide) (Nat.le_of_ble_eq_true rfl) (fun r4 h3 hF => ?_)
    refine aw_cvi (as := [(0, r4)]) (st := []) (M := M_X11_ask) (pc := 29) (f_X11_givenOrNone  hF) dX11_ask_29 rfl (Or.inl ⟨_, _, _, rfl, rfl⟩) cy_X11_givenOrNone ml_X11_322 (by decide) (by decide) (Nat.le_of_ble_eq_true rfl) (fun r6 h5 hF => ?_)
    exact aw_ireti (M := M_X11_ask) (pc := 32) dX11_ask_32 rfl ⟨_, rfl, hF⟩
  · have hF := hF.2 hc
    refine aw_aload_n (j := 1) (M := M_X11_ask) (pc := 14) dX11_ask_14 rfl rfl ?_
    refine aw_iload (j := 0) (M := M_X11_ask) (pc := 15) dX11_ask_15  rfl ?_
    refine aw_cvi (as := [(0, r2)]) (st := []) (M := M_X11_ask) (pc := 17) (f_X11_refused  hF) dX11_ask_17 rfl (Or.inl ⟨_, _, _, rfl, rfl⟩) cy_X11_refused ml_X11_163 (by decide) (by decide) (Nat.le_of_ble_eq_true rfl) (fun r8 h7 hF => ?_)
    exact aw_ireti (M := M_X11_ask) (pc := 20) dX11_ask_20 rfl ⟨_, rfl, hF⟩
abbrev M_X11_atIn : Hd := (cX11_atIn, 2, RX11, (some .int), (5, 139), sc0)
def F_X11_atIn (h : Mem) (a1 : Int) (Q : Int → Mem → Prop) : Prop :=
  (F_X11_outside h a1 0 400 (fun r2 h1 => ((r2 = 0 → (F_X4_copyFrom h1 146 12 (fun h3 => (F_X4_passHours h3 146 a1 (fun r6 h5 => (F_X11_given h5 (h5 146 3) (fun r8 h7 => Q r8 h7))))))) ∧ (¬ (r2 = 0) → (F_X11_refused h1 1 (fun r10 h9 => Q r10 h9))))))
set_option maxRecDepth 100000 in
set_option maxHeartbeats 4000000 in
theorem f_X11_atIn {h : Mem} {a1 : Int} {Q : Int → Mem → Prop}  (hF : F_X11_atIn h a1 Q) : Ct yX11_atIn cX11_atIn 2 (some .int) (5, 139) [vr 0, (0, a1)] h (qi Q) := by
  refine Ct.of np_RX11 (Nat.le_of_ble_eq_true rfl) ?_
  unfold F_X11_atIn at hF
  show AW M_X11_atIn 0 [(0, vr 0), (1, (0, a1))] [] h (qi Q)
  refine aw_iload_n (j := 1) (M := M_X11_atIn) (pc := 0) dX11_atIn_0 rfl rfl ?_
  refine aw_iconst (M := M_X11_atIn) (pc := 1) dX11_atIn_1 ⟨by decide, by decide⟩ ?_
  refine aw_sipush (M := M_X11_atIn) (pc := 2) dX11_atIn_2 ⟨rfl, ⟨by decide, by decide⟩⟩ ?_
  refine aw_csi (as := [(0, a1), (0, 0), (0, 400)]) (st := []) (M := M_X11_atIn) (pc := 5) (f_X11_outside  hF) dX11_atIn_5 rfl cy_X11_outside ml_X11_105 (by decide) (by decide) (Nat.le_of_ble_eq_true rfl) (fun r2 h1 hF => ?_)
  refine aw_if_eq (tgt := 17) (M := M_X11_atIn) (pc := 8) dX11_atIn_8 rfl (fun hc => ?_) (fun hc => ?_)
  · have hF := hF.1 hc
    refine aw_aload_n (j := 0) (M := M_X11_atIn) (pc := 17) dX11_atIn_17 rfl rfl ?_
    refine gf_X11_44 (M := M_X11_atIn) (pc := 18) rfl dX11_atIn_18 rfl (r := 146) rfl ?_
    refine aw_aload_n (j := 0) (M := M_X11_atIn) (pc := 21) dX11_atIn_21 rfl rfl ?_
    refine gf_X11_33 (M := M_X11_atIn) (pc := 22) rfl dX11_atIn_22 rfl (r := 12) rfl ?_
    refine aw_cvv (as := [vr 12]) (st := []) (M := M_X11_atIn) (pc := 25) (f_X4_copyFrom rfl rfl hF) dX11_atIn_25 rfl (Or.inl ⟨_, _, _, rfl, rfl⟩) cy_X4_copyFrom ml_X11_177 (by decide) (by decide) (Nat.le_of_ble_eq_true rfl) (fun h3 hF => ?_)
    refine aw_aload_n (j := 0) (M := M_X11_atIn) (pc := 28) dX11_atIn_28 rfl rfl ?_
    refine gf_X11_44 (M := M_X11_atIn) (pc := 29) rfl dX11_atIn_29 rfl (r := 146) rfl ?_
    refine aw_iload_n (j := 1) (M := M_X11_atIn) (pc := 32) dX11_atIn_32 rfl rfl ?_
    refine aw_cvi (as := [(0, a1)]) (st := []) (M := M_X11_atIn) (pc := 33) (f_X4_passHours rfl hF) dX11_atIn_33 rfl (Or.inl ⟨_, _, _, rfl, rfl⟩) cy_X4_passHours ml_X11_298 (by decide) (by decide) (Nat.le_of_ble_eq_true rfl) (fun r6 h5 hF => ?_)
    refine aw_pop (M := M_X11_atIn) (pc := 36) dX11_atIn_36 rfl ?_
    refine aw_aload_n (j := 0) (M := M_X11_atIn) (pc := 37) dX11_atIn_37 rfl rfl ?_
    refine aw_aload_n (j := 0) (M := M_X11_atIn) (pc := 38) dX11_atIn_38 rfl rfl ?_
    refine gf_X11_44 (M := M_X11_atIn) (pc := 39) rfl dX11_atIn_39 rfl (r := 146) rfl ?_
    refine gf_X11_233 (M := M_X11_atIn) (pc := 42) rfl dX11_atIn_42 rfl ?_
    refine aw_cvi (as := [(0, h5 146 3)]) (st := []) (M := M_X11_atIn) (pc := 45) (f_X11_given  hF) dX11_atIn_45 rfl (Or.inl ⟨_, _, _, rfl, rfl⟩) cy_X11_given ml_X11_193 (by decide) (by decide) (Nat.le_of_ble_eq_true rfl) (fun r8 h7 hF => ?_)
    exact aw_ireti (M := M_X11_atIn) (pc := 48) dX11_atIn_48 rfl ⟨_, rfl, hF⟩
  · have hF := hF.2 hc
    refine aw_aload_n (j := 0) (M := M_X11_atIn) (pc := 11) dX11_atIn_11 rfl rfl ?_
    refine aw_iconst (M := M_X11_atIn) (pc := 12) dX11_atIn_12 ⟨by decide, by decide⟩ ?_
    refine aw_cvi (as := [(0, 1)]) (st := []) (M := M_X11_atIn) (pc := 13) (f_X11_refused  hF) dX11_atIn_13 rfl (Or.inl ⟨_, _, _, rfl, rfl⟩) cy_X11_refused ml_X11_163 (by decide) (by decide) (Nat.le_of_ble_eq_true rfl) (fun r10 h9 hF => ?_)
    exact aw_ireti (M := M_X11_atIn) (pc := 16) dX11_atIn_16 rfl ⟨_, rfl, hF⟩
abbrev M_X11_bottom : Hd := (cX11_bottom, 1, RX11, (some .long), (1, 45), sc0)
def F_X11_bottom (h : Mem)  (Q : Int → Mem → Prop) : Prop :=
  Q (h 0 2) h
set_option maxRecDepth 100000 in
set_option maxHeartbeats 4000000 in
theorem f_X11_bottom {h : Mem}  {Q : Int → Mem → Prop}  (hF : F_X11_bottom h  Q) : Ct yX11_bottom cX11_bottom 1 (some .long) (1, 45) [vr 0] h (ql Q) := by
  refine Ct.of np_RX11 (Nat.le_of_ble_eq_true rfl) ?_
  unfold F_X11_bottom at hF
  show AW M_X11_bottom 0 [(0, vr 0)] [] h (ql Q)
  refine aw_aload_n (j := 0) (M := M_X11_bottom) (pc := 0) dX11_bottom_0 rfl rfl ?_
  refine gf_X11_13 (M := M_X11_bottom) (pc := 1) rfl dX11_bottom_1 rfl ?_
  exact aw_lret (M := M_X11_bottom) (pc := 4) dX11_bottom_4 rfl ⟨_, rfl, hF⟩
abbrev M_X11_isCell : Hd := (cX11_isCell, 2, RX11, (some .boolean), (1, 45), sc0)
def F_X11_isCell (h : Mem) (a1 : Int) (Q : Int → Mem → Prop) : Prop :=
  ((a1 < 0 → Q 0 h) ∧ (¬ (a1 < 0) → (((h 12 0) ≤ a1 → Q 0 h) ∧ (¬ ((h 12 0) ≤ a1) → Q 1 h))))
set_option maxRecDepth 100000 in
set_option maxHeartbeats 4000000 in
theorem f_X11_isCell {h : Mem} {a1 : Int} {Q : Int → Mem → Prop}  (hF : F_X11_isCell h a1 Q) : Ct yX11_isCell cX11_isCell 2 (some .boolean) (1, 45) [vr 0, (0, a1)] h (qi Q) := by
  refine Ct.of np_RX11 (Nat.le_of_ble_eq_true rfl) ?_
  unfold F_X11_isCell at hF
  show AW M_X11_isCell 0 [(0, vr 0), (1, (0, a1))] [] h (qi Q)
  refine aw_iload_n (j := 1) (M := M_X11_isCell) (pc := 0) dX11_isCell_0 rfl rfl ?_
  refine aw_if_lt (tgt := 19) (M := M_X11_isCell) (pc := 1) dX11_isCell_1 rfl (fun hc => ?_) (fun hc => ?_)
  · have hF := hF.1 hc
    refine aw_iconst (M := M_X11_isCell) (pc := 19) dX11_isCell_19 ⟨by decide, by decide⟩ ?_
    exact aw_iretz (M := M_X11_isCell) (pc := 20) dX11_isCell_20 rfl (Or.inl rfl) ⟨_, rfl, hF⟩
  · have hF := hF.2 hc
    refine aw_iload_n (j := 1) (M := M_X11_isCell) (pc := 4) dX11_isCell_4 rfl rfl ?_
    refine aw_aload_n (j := 0) (M := M_X11_isCell) (pc := 5) dX11_isCell_5 rfl rfl ?_
    refine gf_X11_33 (M := M_X11_isCell) (pc := 6) rfl dX11_isCell_6 rfl (r := 12) rfl ?_
    refine gf_X11_221 (M := M_X11_isCell) (pc := 9) rfl dX11_isCell_9 rfl ?_
    refine aw_icmp_ge (tgt := 19) (M := M_X11_isCell) (pc := 12) dX11_isCell_12 rfl (fun hc => ?_) (fun hc => ?_)
    · have hF := hF.1 hc
      refine aw_iconst (M := M_X11_isCell) (pc := 19) dX11_isCell_19 ⟨by decide, by decide⟩ ?_
      exact aw_iretz (M := M_X11_isCell) (pc := 20) dX11_isCell_20 rfl (Or.inl rfl) ⟨_, rfl, hF⟩
    · have hF := hF.2 hc
      refine aw_iconst (M := M_X11_isCell) (pc := 15) dX11_isCell_15 ⟨by decide, by decide⟩ ?_
      refine aw_goto (tgt := 20) (M := M_X11_isCell) (pc := 16) dX11_isCell_16 rfl ?_
      exact aw_iretz (M := M_X11_isCell) (pc := 20) dX11_isCell_20 rfl (Or.inr rfl) ⟨_, rfl, hF⟩
abbrev M_X11_build : Hd := (cX11_build, 3, RX11, (some .int), (2, 69), sc0)
def F_X11_build (h : Mem) (a1 : Int) (a2 : Int) (Q : Int → Mem → Prop) : Prop :=
  (F_X11_isCell h a1 (fun r2 h1 => ((r2 = 0 → (F_X11_refused h1 1 (fun r4 h3 => Q r4 h3))) ∧ (¬ (r2 = 0) → (F_X11_outside h1 a2 0 2 (fun r6 h5 => ((r6 = 0 → (((h5 22 0) < 4 → (F_X7_addMill h5 22 0 a1 a2 (fun r8 h7 => (F_X11_given h7 r8 (fun r10 h9 => Q r10 h9))))) ∧ (¬ ((h5 22 0) < 4) → (F_X11_refused h5 4 (fun r12 h11 => Q r12 h11))))) ∧ (¬ (r6 = 0) → (F_X11_refused h5 1 (fun r14 h13 => Q r14 h13))))))))))
set_option maxRecDepth 100000 in
set_option maxHeartbeats 4000000 in
theorem f_X11_build {h : Mem} {a1 : Int} {a2 : Int} {Q : Int → Mem → Prop}  (hF : F_X11_build h a1 a2 Q) : Ct yX11_build cX11_build 3 (some .int) (2, 69) [vr 0, (0, a1), (0, a2)] h (qi Q) := by
  refine Ct.of np_RX11 (Nat.le_of_ble_eq_true rfl) ?_
  unfold F_X11_build at hF
  show AW M_X11_build 0 [(0, vr 0), (1, (0, a1)), (2, (0, a2))] [] h (qi Q)
  refine aw_aload_n (j := 0) (M := M_X11_build) (pc := 0) dX11_build_0 rfl rfl ?_
  refine aw_iload_n (j := 1) (M := M_X11_build) (pc := 1) dX11_build_1 rfl rfl ?_
  refine aw_cvi (as := [(0, a1)]) (st := []) (M := M_X11_build) (pc := 2) (f_X11_isCell  hF) dX11_build_2 rfl (Or.inl ⟨_, _, _, rfl, rfl⟩) cy_X11_isCell ml_X11_301 (by decide) (by decide) (Nat.le_of_ble_eq_true rfl) (fun r2 h1 hF => ?_)
  refine aw_if_eq (tgt := 17) (M := M_X11_build) (pc := 5) dX11_build_5 rfl (fun hc => ?_) (fun hc => ?_)
  · have hF := hF.1 hc
    refine aw_aload_n (j := 0) (M := M_X11_build) (pc := 17) dX11_build_17 rfl rfl ?_
    refine aw_iconst (M := M_X11_build) (pc := 18) dX11_build_18 ⟨by decide, by decide⟩ ?_
    refine aw_cvi (as := [(0, 1)]) (st := []) (M := M_X11_build) (pc := 19) (f_X11_refused  hF) dX11_build_19 rfl (Or.inl ⟨_, _, _, rfl, rfl⟩) cy_X11_refused ml_X11_163 (by decide) (by decide) (Nat.le_of_ble_eq_true rfl) (fun r4 h3 hF => ?_)
    exact aw_ireti (M := M_X11_build) (pc := 22) dX11_build_22 rfl ⟨_, rfl, hF⟩
  · have hF := hF.2 hc
    refine aw_iload_n (j := 2) (M := M_X11_build) (pc := 8) dX11_build_8 rfl rfl ?_
    refine aw_iconst (M := M_X11_build) (pc := 9) dX11_build_9 ⟨by decide, by decide⟩ ?_
    refine aw_iconst (M := M_X11_build) (pc := 10) dX11_build_10 ⟨by decide, by decide⟩ ?_
    refine aw_csi (as := [(0, a2), (0, 0), (0, 2)]) (st := []) (M := M_X11_build) (pc := 11) (f_X11_outside  hF) dX11_build_11 rfl cy_X11_outside ml_X11_105 (by decide) (by decide) (Nat.le_of_ble_eq_true rfl) (fun r6 h5 hF => ?_)
    refine aw_if_eq (tgt := 23) (M := M_X11_build) (pc := 14) dX11_build_14 rfl (fun hc => ?_) (fun hc => ?_)
    · have hF := hF.1 hc
      refine aw_aload_n (j := 0) (M := M_X11_build) (pc := 23) dX11_build_23 rfl rfl ?_
      refine gf_X11_33 (M := M_X11_build) (pc := 24) rfl dX11_build_24 rfl (r := 12) rfl ?_
      refine gf_X11_214 (M := M_X11_build) (pc := 27) rfl dX11_build_27 rfl (r := 22) rfl ?_
      refine gf_X11_218 (M := M_X11_build) (pc := 30) rfl dX11_build_30 rfl ?_
      refine aw_iconst (M := M_X11_build) (pc := 33) dX11_build_33 ⟨by decide, by decide⟩ ?_
      refine aw_icmp_lt (tgt := 43) (M := M_X11_build) (pc := 34) dX11_build_34 rfl (fun hc => ?_) (fun hc => ?_)
      · have hF := hF.1 hc
        refine aw_aload_n (j := 0) (M := M_X11_build) (pc := 43) dX11_build_43 rfl rfl ?_
        refine aw_aload_n (j := 0) (M := M_X11_build) (pc := 44) dX11_build_44 rfl rfl ?_
        refine gf_X11_33 (M := M_X11_build) (pc := 45) rfl dX11_build_45 rfl (r := 12) rfl ?_
        refine gf_X11_214 (M := M_X11_build) (pc := 48) rfl dX11_build_48 rfl (r := 22) rfl ?_
        refine aw_lconst (v := 0) (M := M_X11_build) (pc := 51) dX11_build_51 ⟨rfl, ⟨by decide, by decide⟩⟩ ?_
        refine aw_iload_n (j := 1) (M := M_X11_build) (pc := 52) dX11_build_52 rfl rfl ?_
        refine aw_iload_n (j := 2) (M := M_X11_build) (pc := 53) dX11_build_53 rfl rfl ?_
        refine aw_cvi (as := [(1, 0), (0, a1), (0, a2)]) (st := [vr 0]) (M := M_X11_build) (pc := 54) (f_X7_addMill rfl hF) dX11_build_54 rfl (Or.inl ⟨_, _, _, rfl, rfl⟩) cy_X7_addMill ml_X11_315 (by decide) (by decide) (Nat.le_of_ble_eq_true rfl) (fun r8 h7 hF => ?_)
        refine aw_cvi (as := [(0, r8)]) (st := []) (M := M_X11_build) (pc := 57) (f_X11_given  hF) dX11_build_57 rfl (Or.inl ⟨_, _, _, rfl, rfl⟩) cy_X11_given ml_X11_193 (by decide) (by decide) (Nat.le_of_ble_eq_true rfl) (fun r10 h9 hF => ?_)
        exact aw_ireti (M := M_X11_build) (pc := 60) dX11_build_60 rfl ⟨_, rfl, hF⟩
      · have hF := hF.2 hc
        refine aw_aload_n (j := 0) (M := M_X11_build) (pc := 37) dX11_build_37 rfl rfl ?_
        refine aw_iconst (M := M_X11_build) (pc := 38) dX11_build_38 ⟨by decide, by decide⟩ ?_
        refine aw_cvi (as := [(0, 4)]) (st := []) (M := M_X11_build) (pc := 39) (f_X11_refused  hF) dX11_build_39 rfl (Or.inl ⟨_, _, _, rfl, rfl⟩) cy_X11_refused ml_X11_163 (by decide) (by decide) (Nat.le_of_ble_eq_true rfl) (fun r12 h11 hF => ?_)
        exact aw_ireti (M := M_X11_build) (pc := 42) dX11_build_42 rfl ⟨_, rfl, hF⟩
    · have hF := hF.2 hc
      refine aw_aload_n (j := 0) (M := M_X11_build) (pc := 17) dX11_build_17 rfl rfl ?_
      refine aw_iconst (M := M_X11_build) (pc := 18) dX11_build_18 ⟨by decide, by decide⟩ ?_
      refine aw_cvi (as := [(0, 1)]) (st := []) (M := M_X11_build) (pc := 19) (f_X11_refused  hF) dX11_build_19 rfl (Or.inl ⟨_, _, _, rfl, rfl⟩) cy_X11_refused ml_X11_163 (by decide) (by decide) (Nat.le_of_ble_eq_true rfl) (fun r14 h13 hF => ?_)
      exact aw_ireti (M := M_X11_build) (pc := 22) dX11_build_22 rfl ⟨_, rfl, hF⟩
abbrev M_X11_carriedIn : Hd := (cX11_carriedIn, 2, RX11, (some .int), (5, 139), sc0)
def F_X11_carriedIn (h : Mem) (a1 : Int) (Q : Int → Mem → Prop) : Prop :=
  (F_X11_outside h a1 0 400 (fun r2 h1 => ((r2 = 0 → (F_X4_copyFrom h1 146 12 (fun h3 => (F_X4_passHours h3 146 a1 (fun r6 h5 => (F_X9_setThatIs h5 147 2 (fun r8 h7 => (F_X11_given h7 r8 (fun r10 h9 => Q r10 h9))))))))) ∧ (¬ (r2 = 0) → (F_X11_refused h1 1 (fun r12 h11 => Q r12 h11))))))
set_option maxRecDepth 100000 in
set_option maxHeartbeats 4000000 in
theorem f_X11_carriedIn {h : Mem} {a1 : Int} {Q : Int → Mem → Prop}  (hF : F_X11_carriedIn h a1 Q) : Ct yX11_carriedIn cX11_carriedIn 2 (some .int) (5, 139) [vr 0, (0, a1)] h (qi Q) := by
  refine Ct.of np_RX11 (Nat.le_of_ble_eq_true rfl) ?_
  unfold F_X11_carriedIn at hF
  show AW M_X11_carriedIn 0 [(0, vr 0), (1, (0, a1))] [] h (qi Q)
  refine aw_iload_n (j := 1) (M := M_X11_carriedIn) (pc := 0) dX11_carriedIn_0 rfl rfl ?_
  refine aw_iconst (M := M_X11_carriedIn) (pc := 1) dX11_carriedIn_1 ⟨by decide, by decide⟩ ?_
  refine aw_sipush (M := M_X11_carriedIn) (pc := 2) dX11_carriedIn_2 ⟨rfl, ⟨by decide, by decide⟩⟩ ?_
  refine aw_csi (as := [(0, a1), (0, 0), (0, 400)]) (st := []) (M := M_X11_carriedIn) (pc := 5) (f_X11_outside  hF) dX11_carriedIn_5 rfl cy_X11_outside ml_X11_105 (by decide) (by decide) (Nat.le_of_ble_eq_true rfl) (fun r2 h1 hF => ?_)
  refine aw_if_eq (tgt := 17) (M := M_X11_carriedIn) (pc := 8) dX11_carriedIn_8 rfl (fun hc => ?_) (fun hc => ?_)
  · have hF := hF.1 hc
    refine aw_aload_n (j := 0) (M := M_X11_carriedIn) (pc := 17) dX11_carriedIn_17 rfl rfl ?_
    refine gf_X11_44 (M := M_X11_carriedIn) (pc := 18) rfl dX11_carriedIn_18 rfl (r := 146) rfl ?_
    refine aw_aload_n (j := 0) (M := M_X11_carriedIn) (pc := 21) dX11_carriedIn_21 rfl rfl ?_
    refine gf_X11_33 (M := M_X11_carriedIn) (pc := 22) rfl dX11_carriedIn_22 rfl (r := 12) rfl ?_
    refine aw_cvv (as := [vr 12]) (st := []) (M := M_X11_carriedIn) (pc := 25) (f_X4_copyFrom rfl rfl hF) dX11_carriedIn_25 rfl (Or.inl ⟨_, _, _, rfl, rfl⟩) cy_X4_copyFrom ml_X11_177 (by decide) (by decide) (Nat.le_of_ble_eq_true rfl) (fun h3 hF => ?_)
    refine aw_aload_n (j := 0) (M := M_X11_carriedIn) (pc := 28) dX11_carriedIn_28 rfl rfl ?_
    refine gf_X11_44 (M := M_X11_carriedIn) (pc := 29) rfl dX11_carriedIn_29 rfl (r := 146) rfl ?_
    refine aw_iload_n (j := 1) (M := M_X11_carriedIn) (pc := 32) dX11_carriedIn_32 rfl rfl ?_
    refine aw_cvi (as := [(0, a1)]) (st := []) (M := M_X11_carriedIn) (pc := 33) (f_X4_passHours rfl hF) dX11_carriedIn_33 rfl (Or.inl ⟨_, _, _, rfl, rfl⟩) cy_X4_passHours ml_X11_298 (by decide) (by decide) (Nat.le_of_ble_eq_true rfl) (fun r6 h5 hF => ?_)
    refine aw_pop (M := M_X11_carriedIn) (pc := 36) dX11_carriedIn_36 rfl ?_
    refine aw_aload_n (j := 0) (M := M_X11_carriedIn) (pc := 37) dX11_carriedIn_37 rfl rfl ?_
    refine aw_aload_n (j := 0) (M := M_X11_carriedIn) (pc := 38) dX11_carriedIn_38 rfl rfl ?_
    refine gf_X11_44 (M := M_X11_carriedIn) (pc := 39) rfl dX11_carriedIn_39 rfl (r := 146) rfl ?_
    refine gf_X11_184 (M := M_X11_carriedIn) (pc := 42) rfl dX11_carriedIn_42 rfl (r := 147) rfl ?_
    refine aw_iconst (M := M_X11_carriedIn) (pc := 45) dX11_carriedIn_45 ⟨by decide, by decide⟩ ?_
    refine aw_cvi (as := [(0, 2)]) (st := [vr 0]) (M := M_X11_carriedIn) (pc := 46) (f_X9_setThatIs rfl hF) dX11_carriedIn_46 rfl (Or.inl ⟨_, _, _, rfl, rfl⟩) cy_X9_setThatIs ml_X11_242 (by decide) (by decide) (Nat.le_of_ble_eq_true rfl) (fun r8 h7 hF => ?_)
    refine aw_cvi (as := [(0, r8)]) (st := []) (M := M_X11_carriedIn) (pc := 49) (f_X11_given  hF) dX11_carriedIn_49 rfl (Or.inl ⟨_, _, _, rfl, rfl⟩) cy_X11_given ml_X11_193 (by decide) (by decide) (Nat.le_of_ble_eq_true rfl) (fun r10 h9 hF => ?_)
    exact aw_ireti (M := M_X11_carriedIn) (pc := 52) dX11_carriedIn_52 rfl ⟨_, rfl, hF⟩
  · have hF := hF.2 hc
    refine aw_aload_n (j := 0) (M := M_X11_carriedIn) (pc := 11) dX11_carriedIn_11 rfl rfl ?_
    refine aw_iconst (M := M_X11_carriedIn) (pc := 12) dX11_carriedIn_12 ⟨by decide, by decide⟩ ?_
    refine aw_cvi (as := [(0, 1)]) (st := []) (M := M_X11_carriedIn) (pc := 13) (f_X11_refused  hF) dX11_carriedIn_13 rfl (Or.inl ⟨_, _, _, rfl, rfl⟩) cy_X11_refused ml_X11_163 (by decide) (by decide) (Nat.le_of_ble_eq_true rfl) (fun r12 h11 hF => ?_)
    exact aw_ireti (M := M_X11_carriedIn) (pc := 16) dX11_carriedIn_16 rfl ⟨_, rfl, hF⟩
abbrev M_X11_cellOf : Hd := (cX11_cellOf, 2, RX11, (some .int), (2, 66), sc0)
def F_X11_cellOf (h : Mem) (a1 : Int) (Q : Int → Mem → Prop) : Prop :=
  (F_X11_isThing h a1 (fun r2 h1 => ((¬ (r2 = 0) → (F_X9_isFree h1 13 a1 (fun r4 h3 => ((r4 = 0 → (F_X9_isLying h3 13 a1 (fun r6 h5 => ((r6 = 0 → (F_X11_given h5 (h5 12 3) (fun r8 h7 => Q r8 h7))) ∧ (¬ (r6 = 0) → ((0 ≤ a1 ∧ a1 < 8) ∧ (F_X11_given h5 (h5 19 (a1).toNat) (fun r12 h11 => Q r12 h11)))))))) ∧ (¬ (r4 = 0) → (F_X11_refused h3 6 (fun r14 h13 => Q r14 h13))))))) ∧ (r2 = 0 → (F_X11_refused h1 1 (fun r16 h15 => Q r16 h15))))))
set_option maxRecDepth 100000 in
set_option maxHeartbeats 4000000 in
theorem f_X11_cellOf {h : Mem} {a1 : Int} {Q : Int → Mem → Prop}  (hF : F_X11_cellOf h a1 Q) : Ct yX11_cellOf cX11_cellOf 2 (some .int) (2, 66) [vr 0, (0, a1)] h (qi Q) := by
  refine Ct.of np_RX11 (Nat.le_of_ble_eq_true rfl) ?_
  unfold F_X11_cellOf at hF
  show AW M_X11_cellOf 0 [(0, vr 0), (1, (0, a1))] [] h (qi Q)
  refine aw_aload_n (j := 0) (M := M_X11_cellOf) (pc := 0) dX11_cellOf_0 rfl rfl ?_
  refine aw_iload_n (j := 1) (M := M_X11_cellOf) (pc := 1) dX11_cellOf_1 rfl rfl ?_
  refine aw_cvi (as := [(0, a1)]) (st := []) (M := M_X11_cellOf) (pc := 2) (f_X11_isThing  hF) dX11_cellOf_2 rfl (Or.inl ⟨_, _, _, rfl, rfl⟩) cy_X11_isThing ml_X11_252 (by decide) (by decide) (Nat.le_of_ble_eq_true rfl) (fun r2 h1 hF => ?_)
  refine aw_if_ne (tgt := 14) (M := M_X11_cellOf) (pc := 5) dX11_cellOf_5 rfl (fun hc => ?_) (fun hc => ?_)
  · have hF := hF.1 hc
    refine aw_aload_n (j := 0) (M := M_X11_cellOf) (pc := 14) dX11_cellOf_14 rfl rfl ?_
    refine gf_X11_33 (M := M_X11_cellOf) (pc := 15) rfl dX11_cellOf_15 rfl (r := 12) rfl ?_
    refine gf_X11_184 (M := M_X11_cellOf) (pc := 18) rfl dX11_cellOf_18 rfl (r := 13) rfl ?_
    refine aw_iload_n (j := 1) (M := M_X11_cellOf) (pc := 21) dX11_cellOf_21 rfl rfl ?_
    refine aw_cvi (as := [(0, a1)]) (st := []) (M := M_X11_cellOf) (pc := 22) (f_X9_isFree rfl hF) dX11_cellOf_22 rfl (Or.inl ⟨_, _, _, rfl, rfl⟩) cy_X9_isFree ml_X11_273 (by decide) (by decide) (Nat.le_of_ble_eq_true rfl) (fun r4 h3 hF => ?_)
    refine aw_if_eq (tgt := 35) (M := M_X11_cellOf) (pc := 25) dX11_cellOf_25 rfl (fun hc => ?_) (fun hc => ?_)
    · have hF := hF.1 hc
      refine aw_aload_n (j := 0) (M := M_X11_cellOf) (pc := 35) dX11_cellOf_35 rfl rfl ?_
      refine aw_aload_n (j := 0) (M := M_X11_cellOf) (pc := 36) dX11_cellOf_36 rfl rfl ?_
      refine gf_X11_33 (M := M_X11_cellOf) (pc := 37) rfl dX11_cellOf_37 rfl (r := 12) rfl ?_
      refine gf_X11_184 (M := M_X11_cellOf) (pc := 40) rfl dX11_cellOf_40 rfl (r := 13) rfl ?_
      refine aw_iload_n (j := 1) (M := M_X11_cellOf) (pc := 43) dX11_cellOf_43 rfl rfl ?_
      refine aw_cvi (as := [(0, a1)]) (st := [vr 0]) (M := M_X11_cellOf) (pc := 44) (f_X9_isLying rfl hF) dX11_cellOf_44 rfl (Or.inl ⟨_, _, _, rfl, rfl⟩) cy_X9_isLying ml_X11_276 (by decide) (by decide) (Nat.le_of_ble_eq_true rfl) (fun r6 h5 hF => ?_)
      refine aw_if_eq (tgt := 65) (M := M_X11_cellOf) (pc := 47) dX11_cellOf_47 rfl (fun hc => ?_) (fun hc => ?_)
      · have hF := hF.1 hc
        refine aw_aload_n (j := 0) (M := M_X11_cellOf) (pc := 65) dX11_cellOf_65 rfl rfl ?_
        refine gf_X11_33 (M := M_X11_cellOf) (pc := 66) rfl dX11_cellOf_66 rfl (r := 12) rfl ?_
        refine gf_X11_233 (M := M_X11_cellOf) (pc := 69) rfl dX11_cellOf_69 rfl ?_
        refine aw_cvi (as := [(0, h5 12 3)]) (st := []) (M := M_X11_cellOf) (pc := 72) (f_X11_given  hF) dX11_cellOf_72 rfl (Or.inl ⟨_, _, _, rfl, rfl⟩) cy_X11_given ml_X11_193 (by decide) (by decide) (Nat.le_of_ble_eq_true rfl) (fun r8 h7 hF => ?_)
        exact aw_ireti (M := M_X11_cellOf) (pc := 75) dX11_cellOf_75 rfl ⟨_, rfl, hF⟩
      · have hF := hF.2 hc
        refine aw_aload_n (j := 0) (M := M_X11_cellOf) (pc := 50) dX11_cellOf_50 rfl rfl ?_
        refine gf_X11_33 (M := M_X11_cellOf) (pc := 51) rfl dX11_cellOf_51 rfl (r := 12) rfl ?_
        refine gf_X11_184 (M := M_X11_cellOf) (pc := 54) rfl dX11_cellOf_54 rfl (r := 13) rfl ?_
        refine gf_X11_279 (M := M_X11_cellOf) (pc := 57) rfl dX11_cellOf_57 rfl (r := 19) rfl ?_
        refine aw_iload_n (j := 1) (M := M_X11_cellOf) (pc := 60) dX11_cellOf_60 rfl rfl ?_
        obtain ⟨o10, hF⟩ := hF
        refine aw_iald (k := (a1).toNat) (M := M_X11_cellOf) (pc := 61) dX11_cellOf_61 rfl o10 rfl ?_
        refine aw_goto (tgt := 72) (M := M_X11_cellOf) (pc := 62) dX11_cellOf_62 rfl ?_
        refine aw_cvi (as := [(0, h5 19 (a1).toNat)]) (st := []) (M := M_X11_cellOf) (pc := 72) (f_X11_given  hF) dX11_cellOf_72 rfl (Or.inl ⟨_, _, _, rfl, rfl⟩) cy_X11_given ml_X11_193 (by decide) (by decide) (Nat.le_of_ble_eq_true rfl) (fun r12 h11 hF => ?_)
        exact aw_ireti (M := M_X11_cellOf) (pc := 75) dX11_cellOf_75 rfl ⟨_, rfl, hF⟩
    · have hF := hF.2 hc
      refine aw_aload_n (j := 0) (M := M_X11_cellOf) (pc := 28) dX11_cellOf_28 rfl rfl ?_
      refine aw_bipush (M := M_X11_cellOf) (pc := 29) dX11_cellOf_29 ⟨rfl, ⟨by decide, by decide⟩⟩ ?_
      refine aw_cvi (as := [(0, 6)]) (st := []) (M := M_X11_cellOf) (pc := 31) (f_X11_refused  hF) dX11_cellOf_31 rfl (Or.inl ⟨_, _, _, rfl, rfl⟩) cy_X11_refused ml_X11_163 (by decide) (by decide) (Nat.le_of_ble_eq_true rfl) (fun r14 h13 hF => ?_)
      exact aw_ireti (M := M_X11_cellOf) (pc := 34) dX11_cellOf_34 rfl ⟨_, rfl, hF⟩
  · have hF := hF.2 hc
    refine aw_aload_n (j := 0) (M := M_X11_cellOf) (pc := 8) dX11_cellOf_8 rfl rfl ?_
    refine aw_iconst (M := M_X11_cellOf) (pc := 9) dX11_cellOf_9 ⟨by decide, by decide⟩ ?_
    refine aw_cvi (as := [(0, 1)]) (st := []) (M := M_X11_cellOf) (pc := 10) (f_X11_refused  hF) dX11_cellOf_10 rfl (Or.inl ⟨_, _, _, rfl, rfl⟩) cy_X11_refused ml_X11_163 (by decide) (by decide) (Nat.le_of_ble_eq_true rfl) (fun r16 h15 hF => ?_)
    exact aw_ireti (M := M_X11_cellOf) (pc := 13) dX11_cellOf_13 rfl ⟨_, rfl, hF⟩
abbrev M_X11_commonDivisor : Hd := (cX11_commonDivisor, 11, RX11, (some .long), (1, 45), sc0)
def L_X11_commonDivisor_9 (h : Mem) (v4 : Int) (v6 : Int) (v8 : Int) (Q : Int → Mem → Prop) : Prop := AW M_X11_commonDivisor 9 [(4, (1, v4)), (6, (1, v6)), (8, (0, v8))] [] h (ql Q)
def B_X11_commonDivisor_9 (h : Mem) (v4 : Int) (v6 : Int) (v8 : Int) (Q : Int → Mem → Prop) : Prop :=
  ((200 ≤ v8 → Q v4 h) ∧ (¬ (200 ≤ v8) → ((v6 = 0 → Q v4 h) ∧ (¬ (v6 = 0) → (v6 ≠ 0 ∧ (∀ x2 : Int, x2 = (v4 : Int).tmod v6 → (InR (v8 + 1) ∧ L_X11_commonDivisor_9 h v6 x2 (v8 + 1) Q)))))))
set_option maxRecDepth 100000 in
set_option maxHeartbeats 4000000 in
theorem l_X11_commonDivisor_9 {h : Mem} {v4 : Int} {v6 : Int} {v8 : Int} {Q : Int → Mem → Prop}  (hF : B_X11_commonDivisor_9 h v4 v6 v8 Q) : L_X11_commonDivisor_9 h v4 v6 v8 Q := by
  unfold B_X11_commonDivisor_9 at hF
  show AW M_X11_commonDivisor 9 [(4, (1, v4)), (6, (1, v6)), (8, (0, v8))] [] h (ql Q)
  refine aw_iload (j := 2) (M := M_X11_commonDivisor) (pc := 9) dX11_commonDivisor_9  rfl ?_
  refine aw_sipush (M := M_X11_commonDivisor) (pc := 11) dX11_commonDivisor_11 ⟨rfl, ⟨by decide, by decide⟩⟩ ?_
  refine aw_icmp_ge (tgt := 45) (M := M_X11_commonDivisor) (pc := 14) dX11_commonDivisor_14 rfl (fun hc => ?_) (fun hc => ?_)
  · have hF := hF.1 hc
    refine aw_lload (j := 0) (M := M_X11_commonDivisor) (pc := 45) dX11_commonDivisor_45  rfl ?_
    exact aw_lret (M := M_X11_commonDivisor) (pc := 47) dX11_commonDivisor_47 rfl ⟨_, rfl, hF⟩
  · have hF := hF.2 hc
    refine aw_lload (j := 1) (M := M_X11_commonDivisor) (pc := 17) dX11_commonDivisor_17  rfl ?_
    refine aw_lconst (v := 0) (M := M_X11_commonDivisor) (pc := 19) dX11_commonDivisor_19 ⟨rfl, ⟨by decide, by decide⟩⟩ ?_
    refine aw_lcmp (M := M_X11_commonDivisor) (pc := 20) dX11_commonDivisor_20 ?_
    refine aw_if_eq (tgt := 45) (M := M_X11_commonDivisor) (pc := 21) dX11_commonDivisor_21 rfl (fun hc => ?_) (fun hc => ?_)
    · have hF := hF.1 (lc_eq.mp hc)
      refine aw_lload (j := 0) (M := M_X11_commonDivisor) (pc := 45) dX11_commonDivisor_45  rfl ?_
      exact aw_lret (M := M_X11_commonDivisor) (pc := 47) dX11_commonDivisor_47 rfl ⟨_, rfl, hF⟩
    · have hF := hF.2 (fun z => hc (lc_eq.mpr z))
      refine aw_lload (j := 0) (M := M_X11_commonDivisor) (pc := 24) dX11_commonDivisor_24  rfl ?_
      refine aw_lload (j := 1) (M := M_X11_commonDivisor) (pc := 26) dX11_commonDivisor_26  rfl ?_
      obtain ⟨o1, hF⟩ := hF
      refine aw_lrem (M := M_X11_commonDivisor) (pc := 28) dX11_commonDivisor_28 o1 ?_
      obtain ⟨x2, ex2⟩ : ∃ y : Int, y = (v4 : Int).tmod v6 := ⟨_, rfl⟩
      have hF := hF x2 ex2
      rw [← ex2]
      refine aw_lstore (ls' := [(9, (1, x2)), (4, (1, v4)), (6, (1, v6)), (8, (0, v8))]) (M := M_X11_commonDivisor) (pc := 29) dX11_commonDivisor_29  (by decide) rfl ?_
      refine aw_lload (j := 2) (M := M_X11_commonDivisor) (pc := 31) dX11_commonDivisor_31  rfl ?_
      refine aw_lstore (ls' := [(4, (1, v6)), (9, (1, x2)), (6, (1, v6)), (8, (0, v8))]) (M := M_X11_commonDivisor) (pc := 33) dX11_commonDivisor_33  (by decide) rfl ?_
      refine aw_lload (j := 1) (M := M_X11_commonDivisor) (pc := 35) dX11_commonDivisor_35  rfl ?_
      refine aw_lstore (ls' := [(6, (1, x2)), (4, (1, v6)), (9, (1, x2)), (8, (0, v8))]) (M := M_X11_commonDivisor) (pc := 37) dX11_commonDivisor_37  (by decide) rfl ?_
      obtain ⟨o3, hF⟩ := hF
      refine aw_iinc (j := 3) (x := v8) (r := v8 + 1) (ls' := [(8, (0, v8 + 1)), (6, (1, x2)), (4, (1, v6)), (9, (1, x2))]) (M := M_X11_commonDivisor) (pc := 39) dX11_commonDivisor_39 rfl rfl o3 (by decide) rfl ?_
      refine aw_goto (tgt := 9) (M := M_X11_commonDivisor) (pc := 42) dX11_commonDivisor_42 rfl ?_
      exact aw_ls [2, 1, 0] rfl hF
def F_X11_commonDivisor (h : Mem) (a1 : Int) (a2 : Int) (Q : Int → Mem → Prop) : Prop :=
  L_X11_commonDivisor_9 h a2 a1 0 Q
set_option maxRecDepth 100000 in
set_option maxHeartbeats 4000000 in
theorem f_X11_commonDivisor {h : Mem} {a1 : Int} {a2 : Int} {Q : Int → Mem → Prop}  (hF : F_X11_commonDivisor h a1 a2 Q) : Ct yX11_commonDivisor cX11_commonDivisor 11 (some .long) (1, 45) [(1, a1), (1, a2)] h (ql Q) := by
  refine Ct.of np_RX11 (Nat.le_of_ble_eq_true rfl) ?_
  unfold F_X11_commonDivisor at hF
  show AW M_X11_commonDivisor 0 [(0, (1, a1)), (2, (1, a2))] [] h (ql Q)
  refine aw_lload_n (j := 1) (M := M_X11_commonDivisor) (pc := 0) dX11_commonDivisor_0 rfl rfl ?_
  refine aw_lstore (ls' := [(4, (1, a2)), (0, (1, a1)), (2, (1, a2))]) (M := M_X11_commonDivisor) (pc := 1) dX11_commonDivisor_1  (by decide) rfl ?_
  refine aw_lload_n (j := 1) (M := M_X11_commonDivisor) (pc := 3) dX11_commonDivisor_3 rfl rfl ?_
  refine aw_lstore (ls' := [(6, (1, a1)), (4, (1, a2)), (0, (1, a1)), (2, (1, a2))]) (M := M_X11_commonDivisor) (pc := 4) dX11_commonDivisor_4  (by decide) rfl ?_
  refine aw_iconst (M := M_X11_commonDivisor) (pc := 6) dX11_commonDivisor_6 ⟨by decide, by decide⟩ ?_
  refine aw_istore (ls' := [(8, (0, 0)), (6, (1, a1)), (4, (1, a2)), (0, (1, a1)), (2, (1, a2))]) (M := M_X11_commonDivisor) (pc := 7) dX11_commonDivisor_7  (by decide) rfl ?_
  exact aw_ls [2, 1, 0] rfl hF
abbrev M_X11_copyHours : Hd := (cX11_copyHours, 5, RX11, (some .int), (3, 91), sc0)
def L_X11_copyHours_31 (h : Mem) (v1 : Int) (v2 : Int) (v4 : Int) (Q : Int → Mem → Prop) : Prop := AW M_X11_copyHours 31 [(0, vr 0), (1, (0, v1)), (2, (0, v2)), (4, (0, v4))] [] h (qi Q)
def B_X11_copyHours_31 (h : Mem) (v1 : Int) (v2 : Int) (v4 : Int) (Q : Int → Mem → Prop) : Prop :=
  ((v2 ≤ v4 → (F_X11_given h v2 (fun r6 h5 => Q r6 h5))) ∧ (¬ (v2 ≤ v4) → ((0 ≤ v4 ∧ v4 < 8) ∧ (F_X10_put h v1 v4 (h 20 (v4).toNat) (fun h9 => (InR (v4 + 1) ∧ L_X11_copyHours_31 h9 v1 v2 (v4 + 1) Q))))))
set_option maxRecDepth 100000 in
set_option maxHeartbeats 4000000 in
theorem l_X11_copyHours_31 {h : Mem} {v1 : Int} {v2 : Int} {v4 : Int} {Q : Int → Mem → Prop}  (hF : B_X11_copyHours_31 h v1 v2 v4 Q) : L_X11_copyHours_31 h v1 v2 v4 Q := by
  unfold B_X11_copyHours_31 at hF
  show AW M_X11_copyHours 31 [(0, vr 0), (1, (0, v1)), (2, (0, v2)), (4, (0, v4))] [] h (qi Q)
  refine aw_iload (j := 3) (M := M_X11_copyHours) (pc := 31) dX11_copyHours_31  rfl ?_
  refine aw_iload_n (j := 2) (M := M_X11_copyHours) (pc := 33) dX11_copyHours_33 rfl rfl ?_
  refine aw_icmp_ge (tgt := 67) (M := M_X11_copyHours) (pc := 34) dX11_copyHours_34 rfl (fun hc => ?_) (fun hc => ?_)
  · have hF := hF.1 hc
    refine aw_aload_n (j := 0) (M := M_X11_copyHours) (pc := 67) dX11_copyHours_67 rfl rfl ?_
    refine aw_iload_n (j := 2) (M := M_X11_copyHours) (pc := 68) dX11_copyHours_68 rfl rfl ?_
    refine aw_cvi (as := [(0, v2)]) (st := []) (M := M_X11_copyHours) (pc := 69) (f_X11_given  hF) dX11_copyHours_69 rfl (Or.inl ⟨_, _, _, rfl, rfl⟩) cy_X11_given ml_X11_193 (by decide) (by decide) (Nat.le_of_ble_eq_true rfl) (fun r6 h5 hF => ?_)
    exact aw_ireti (M := M_X11_copyHours) (pc := 72) dX11_copyHours_72 rfl ⟨_, rfl, hF⟩
  · have hF := hF.2 hc
    refine aw_aload_n (j := 0) (M := M_X11_copyHours) (pc := 37) dX11_copyHours_37 rfl rfl ?_
    refine gf_X11_19 (M := M_X11_copyHours) (pc := 38) rfl dX11_copyHours_38 rfl (r := 1) rfl ?_
    refine aw_iload_n (j := 1) (M := M_X11_copyHours) (pc := 41) dX11_copyHours_41 rfl rfl ?_
    refine aw_iload (j := 3) (M := M_X11_copyHours) (pc := 42) dX11_copyHours_42  rfl ?_
    refine aw_aload_n (j := 0) (M := M_X11_copyHours) (pc := 44) dX11_copyHours_44 rfl rfl ?_
    refine gf_X11_33 (M := M_X11_copyHours) (pc := 45) rfl dX11_copyHours_45 rfl (r := 12) rfl ?_
    refine gf_X11_184 (M := M_X11_copyHours) (pc := 48) rfl dX11_copyHours_48 rfl (r := 13) rfl ?_
    refine gf_X11_267 (M := M_X11_copyHours) (pc := 51) rfl dX11_copyHours_51 rfl (r := 20) rfl ?_
    refine aw_iload (j := 3) (M := M_X11_copyHours) (pc := 54) dX11_copyHours_54  rfl ?_
    obtain ⟨o8, hF⟩ := hF
    refine aw_iald (k := (v4).toNat) (M := M_X11_copyHours) (pc := 56) dX11_copyHours_56 rfl o8 rfl ?_
    refine aw_i2l (M := M_X11_copyHours) (pc := 57) dX11_copyHours_57 ?_
    refine aw_cvv (as := [(0, v1), (0, v4), (1, h 20 (v4).toNat)]) (st := []) (M := M_X11_copyHours) (pc := 58) (f_X10_put  hF) dX11_copyHours_58 rfl (Or.inl ⟨_, _, _, rfl, rfl⟩) cy_X10_put ml_X11_125 (by decide) (by decide) (Nat.le_of_ble_eq_true rfl) (fun h9 hF => ?_)
    obtain ⟨o11, hF⟩ := hF
    refine aw_iinc (j := 3) (x := v4) (r := v4 + 1) (ls' := [(4, (0, v4 + 1)), (0, vr 0), (1, (0, v1)), (2, (0, v2))]) (M := M_X11_copyHours) (pc := 61) dX11_copyHours_61 rfl rfl o11 (by decide) rfl ?_
    refine aw_goto (tgt := 31) (M := M_X11_copyHours) (pc := 64) dX11_copyHours_64 rfl ?_
    exact aw_ls [1, 2, 3, 0] rfl hF
def F_X11_copyHours (h : Mem) (a1 : Int) (Q : Int → Mem → Prop) : Prop :=
  (F_X11_whyTooFew h a1 (h 13 0) (fun r2 h1 => ((r2 = 0 → L_X11_copyHours_31 h1 a1 (h 13 0) 0 Q) ∧ (¬ (r2 = 0) → (F_X11_refused h1 r2 (fun r4 h3 => Q r4 h3))))))
set_option maxRecDepth 100000 in
set_option maxHeartbeats 4000000 in
theorem f_X11_copyHours {h : Mem} {a1 : Int} {Q : Int → Mem → Prop}  (hF : F_X11_copyHours h a1 Q) : Ct yX11_copyHours cX11_copyHours 5 (some .int) (3, 91) [vr 0, (0, a1)] h (qi Q) := by
  refine Ct.of np_RX11 (Nat.le_of_ble_eq_true rfl) ?_
  unfold F_X11_copyHours at hF
  show AW M_X11_copyHours 0 [(0, vr 0), (1, (0, a1))] [] h (qi Q)
  refine aw_aload_n (j := 0) (M := M_X11_copyHours) (pc := 0) dX11_copyHours_0 rfl rfl ?_
  refine gf_X11_33 (M := M_X11_copyHours) (pc := 1) rfl dX11_copyHours_1 rfl (r := 12) rfl ?_
  refine gf_X11_184 (M := M_X11_copyHours) (pc := 4) rfl dX11_copyHours_4 rfl (r := 13) rfl ?_
  refine gf_X11_188 (M := M_X11_copyHours) (pc := 7) rfl dX11_copyHours_7 rfl ?_
  refine aw_istore_n (ls' := [(2, (0, h 13 0)), (0, vr 0), (1, (0, a1))]) (M := M_X11_copyHours) (pc := 10) dX11_copyHours_10 rfl (by decide) rfl ?_
  refine aw_aload_n (j := 1) (M := M_X11_copyHours) (pc := 11) dX11_copyHours_11 rfl rfl ?_
  refine aw_iload_n (j := 2) (M := M_X11_copyHours) (pc := 12) dX11_copyHours_12 rfl rfl ?_
  refine aw_iload_n (j := 0) (M := M_X11_copyHours) (pc := 13) dX11_copyHours_13 rfl rfl ?_
  refine aw_cvi (as := [(0, a1), (0, h 13 0)]) (st := []) (M := M_X11_copyHours) (pc := 14) (f_X11_whyTooFew  hF) dX11_copyHours_14 rfl (Or.inl ⟨_, _, _, rfl, rfl⟩) cy_X11_whyTooFew ml_X11_412 (by decide) (by decide) (Nat.le_of_ble_eq_true rfl) (fun r2 h1 hF => ?_)
  refine aw_istore_n (ls' := [(3, (0, r2)), (2, (0, h 13 0)), (0, vr 0), (1, (0, a1))]) (M := M_X11_copyHours) (pc := 17) dX11_copyHours_17 rfl (by decide) rfl ?_
  refine aw_iload_n (j := 0) (M := M_X11_copyHours) (pc := 18) dX11_copyHours_18 rfl rfl ?_
  refine aw_if_eq (tgt := 28) (M := M_X11_copyHours) (pc := 19) dX11_copyHours_19 rfl (fun hc => ?_) (fun hc => ?_)
  · have hF := hF.1 hc
    refine aw_iconst (M := M_X11_copyHours) (pc := 28) dX11_copyHours_28 ⟨by decide, by decide⟩ ?_
    refine aw_istore (ls' := [(4, (0, 0)), (3, (0, r2)), (2, (0, h 13 0)), (0, vr 0), (1, (0, a1))]) (M := M_X11_copyHours) (pc := 29) dX11_copyHours_29  (by decide) rfl ?_
    exact aw_ls [3, 4, 2, 0] rfl hF
  · have hF := hF.2 hc
    refine aw_aload_n (j := 2) (M := M_X11_copyHours) (pc := 22) dX11_copyHours_22 rfl rfl ?_
    refine aw_iload_n (j := 0) (M := M_X11_copyHours) (pc := 23) dX11_copyHours_23 rfl rfl ?_
    refine aw_cvi (as := [(0, r2)]) (st := []) (M := M_X11_copyHours) (pc := 24) (f_X11_refused  hF) dX11_copyHours_24 rfl (Or.inl ⟨_, _, _, rfl, rfl⟩) cy_X11_refused ml_X11_163 (by decide) (by decide) (Nat.le_of_ble_eq_true rfl) (fun r4 h3 hF => ?_)
    exact aw_ireti (M := M_X11_copyHours) (pc := 27) dX11_copyHours_27 rfl ⟨_, rfl, hF⟩
abbrev M_X11_days : Hd := (cX11_days, 2, RX11, (some .int), (8, 202), sc0)
def F_X11_days (h : Mem) (a1 : Int) (Q : Int → Mem → Prop) : Prop :=
  (F_X11_outside h a1 0 (imin (h 9 1) 300) (fun r2 h1 => ((r2 = 0 → (F_X8_open h1 a1 (fun h3 => (F_X2_readFor h3 12 (fun h5 => (((h5 9 9) = 0 → (F_X1_copyFrom h5 27 35 (fun h7 => (F_X11_given h7 (h7 27 1) (fun r10 h9 => Q r10 h9))))) ∧ (¬ ((h5 9 9) = 0) → (F_X11_refused h5 9 (fun r12 h11 => Q r12 h11))))))))) ∧ (¬ (r2 = 0) → (F_X11_refused h1 1 (fun r14 h13 => Q r14 h13))))))
set_option maxRecDepth 100000 in
set_option maxHeartbeats 4000000 in
theorem f_X11_days {h : Mem} {a1 : Int} {Q : Int → Mem → Prop}  (hF : F_X11_days h a1 Q) : Ct yX11_days cX11_days 2 (some .int) (8, 202) [vr 0, (0, a1)] h (qi Q) := by
  refine Ct.of np_RX11 (Nat.le_of_ble_eq_true rfl) ?_
  unfold F_X11_days at hF
  show AW M_X11_days 0 [(0, vr 0), (1, (0, a1))] [] h (qi Q)
  refine aw_iload_n (j := 1) (M := M_X11_days) (pc := 0) dX11_days_0 rfl rfl ?_
  refine aw_iconst (M := M_X11_days) (pc := 1) dX11_days_1 ⟨by decide, by decide⟩ ?_
  refine aw_aload_n (j := 0) (M := M_X11_days) (pc := 2) dX11_days_2 rfl rfl ?_
  refine gf_X11_26 (M := M_X11_days) (pc := 3) rfl dX11_days_3 rfl (r := 9) rfl ?_
  refine gf_X11_160 (M := M_X11_days) (pc := 6) rfl dX11_days_6 rfl ?_
  refine aw_sipush (M := M_X11_days) (pc := 9) dX11_days_9 ⟨rfl, ⟨by decide, by decide⟩⟩ ?_
  refine aw_mmin (M := M_X11_days) (pc := 12) ml_X11_196 dX11_days_12 (by decide) (Nat.le_of_ble_eq_true rfl) ?_
  refine aw_csi (as := [(0, a1), (0, 0), (0, imin (h 9 1) 300)]) (st := []) (M := M_X11_days) (pc := 15) (f_X11_outside  hF) dX11_days_15 rfl cy_X11_outside ml_X11_105 (by decide) (by decide) (Nat.le_of_ble_eq_true rfl) (fun r2 h1 hF => ?_)
  refine aw_if_eq (tgt := 27) (M := M_X11_days) (pc := 18) dX11_days_18 rfl (fun hc => ?_) (fun hc => ?_)
  · have hF := hF.1 hc
    refine aw_aload_n (j := 0) (M := M_X11_days) (pc := 27) dX11_days_27 rfl rfl ?_
    refine gf_X11_26 (M := M_X11_days) (pc := 28) rfl dX11_days_28 rfl (r := 9) rfl ?_
    refine aw_iload_n (j := 1) (M := M_X11_days) (pc := 31) dX11_days_31 rfl rfl ?_
    refine aw_cvv (as := [(0, a1)]) (st := []) (M := M_X11_days) (pc := 32) (f_X8_open  hF) dX11_days_32 rfl (Or.inl ⟨_, _, _, rfl, rfl⟩) cy_X8_open ml_X11_167 (by decide) (by decide) (Nat.le_of_ble_eq_true rfl) (fun h3 hF => ?_)
    refine aw_aload_n (j := 0) (M := M_X11_days) (pc := 35) dX11_days_35 rfl rfl ?_
    refine gf_X11_57 (M := M_X11_days) (pc := 36) rfl dX11_days_36 rfl (r := 34) rfl ?_
    refine aw_aload_n (j := 0) (M := M_X11_days) (pc := 39) dX11_days_39 rfl rfl ?_
    refine gf_X11_33 (M := M_X11_days) (pc := 40) rfl dX11_days_40 rfl (r := 12) rfl ?_
    refine aw_aload_n (j := 0) (M := M_X11_days) (pc := 43) dX11_days_43 rfl rfl ?_
    refine gf_X11_26 (M := M_X11_days) (pc := 44) rfl dX11_days_44 rfl (r := 9) rfl ?_
    refine aw_cvv (as := [vr 12, vr 9]) (st := []) (M := M_X11_days) (pc := 47) (f_X2_readFor rfl hF) dX11_days_47 rfl (Or.inl ⟨_, _, _, rfl, rfl⟩) cy_X2_readFor ml_X11_201 (by decide) (by decide) (Nat.le_of_ble_eq_true rfl) (fun h5 hF => ?_)
    refine aw_aload_n (j := 0) (M := M_X11_days) (pc := 50) dX11_days_50 rfl rfl ?_
    refine gf_X11_26 (M := M_X11_days) (pc := 51) rfl dX11_days_51 rfl (r := 9) rfl ?_
    refine gf_X11_174 (M := M_X11_days) (pc := 54) rfl dX11_days_54 rfl ?_
    refine aw_if_eq (tgt := 67) (M := M_X11_days) (pc := 57) dX11_days_57 rfl (fun hc => ?_) (fun hc => ?_)
    · have hF := hF.1 hc
      refine aw_aload_n (j := 0) (M := M_X11_days) (pc := 67) dX11_days_67 rfl rfl ?_
      refine gf_X11_40 (M := M_X11_days) (pc := 68) rfl dX11_days_68 rfl (r := 27) rfl ?_
      refine aw_aload_n (j := 0) (M := M_X11_days) (pc := 71) dX11_days_71 rfl rfl ?_
      refine gf_X11_57 (M := M_X11_days) (pc := 72) rfl dX11_days_72 rfl (r := 34) rfl ?_
      refine gf_X11_204 (M := M_X11_days) (pc := 75) rfl dX11_days_75 rfl (r := 35) rfl ?_
      refine aw_cvv (as := [vr 35]) (st := []) (M := M_X11_days) (pc := 78) (f_X1_copyFrom rfl rfl hF) dX11_days_78 rfl (Or.inl ⟨_, _, _, rfl, rfl⟩) cy_X1_copyFrom ml_X11_205 (by decide) (by decide) (Nat.le_of_ble_eq_true rfl) (fun h7 hF => ?_)
      refine aw_aload_n (j := 0) (M := M_X11_days) (pc := 81) dX11_days_81 rfl rfl ?_
      refine aw_aload_n (j := 0) (M := M_X11_days) (pc := 82) dX11_days_82 rfl rfl ?_
      refine gf_X11_40 (M := M_X11_days) (pc := 83) rfl dX11_days_83 rfl (r := 27) rfl ?_
      refine gf_X11_208 (M := M_X11_days) (pc := 86) rfl dX11_days_86 rfl ?_
      refine aw_cvi (as := [(0, h7 27 1)]) (st := []) (M := M_X11_days) (pc := 89) (f_X11_given  hF) dX11_days_89 rfl (Or.inl ⟨_, _, _, rfl, rfl⟩) cy_X11_given ml_X11_193 (by decide) (by decide) (Nat.le_of_ble_eq_true rfl) (fun r10 h9 hF => ?_)
      exact aw_ireti (M := M_X11_days) (pc := 92) dX11_days_92 rfl ⟨_, rfl, hF⟩
    · have hF := hF.2 hc
      refine aw_aload_n (j := 0) (M := M_X11_days) (pc := 60) dX11_days_60 rfl rfl ?_
      refine aw_bipush (M := M_X11_days) (pc := 61) dX11_days_61 ⟨rfl, ⟨by decide, by decide⟩⟩ ?_
      refine aw_cvi (as := [(0, 9)]) (st := []) (M := M_X11_days) (pc := 63) (f_X11_refused  hF) dX11_days_63 rfl (Or.inl ⟨_, _, _, rfl, rfl⟩) cy_X11_refused ml_X11_163 (by decide) (by decide) (Nat.le_of_ble_eq_true rfl) (fun r12 h11 hF => ?_)
      exact aw_ireti (M := M_X11_days) (pc := 66) dX11_days_66 rfl ⟨_, rfl, hF⟩
  · have hF := hF.2 hc
    refine aw_aload_n (j := 0) (M := M_X11_days) (pc := 21) dX11_days_21 rfl rfl ?_
    refine aw_iconst (M := M_X11_days) (pc := 22) dX11_days_22 ⟨by decide, by decide⟩ ?_
    refine aw_cvi (as := [(0, 1)]) (st := []) (M := M_X11_days) (pc := 23) (f_X11_refused  hF) dX11_days_23 rfl (Or.inl ⟨_, _, _, rfl, rfl⟩) cy_X11_refused ml_X11_163 (by decide) (by decide) (Nat.le_of_ble_eq_true rfl) (fun r14 h13 hF => ?_)
    exact aw_ireti (M := M_X11_days) (pc := 26) dX11_days_26 rfl ⟨_, rfl, hF⟩
abbrev M_X11_isMill : Hd := (cX11_isMill, 2, RX11, (some .boolean), (1, 45), sc0)
def F_X11_isMill (h : Mem) (a1 : Int) (Q : Int → Mem → Prop) : Prop :=
  ((a1 < 0 → Q 0 h) ∧ (¬ (a1 < 0) → (((h 22 0) ≤ a1 → Q 0 h) ∧ (¬ ((h 22 0) ≤ a1) → Q 1 h))))
set_option maxRecDepth 100000 in
set_option maxHeartbeats 4000000 in
theorem f_X11_isMill {h : Mem} {a1 : Int} {Q : Int → Mem → Prop}  (hF : F_X11_isMill h a1 Q) : Ct yX11_isMill cX11_isMill 2 (some .boolean) (1, 45) [vr 0, (0, a1)] h (qi Q) := by
  refine Ct.of np_RX11 (Nat.le_of_ble_eq_true rfl) ?_
  unfold F_X11_isMill at hF
  show AW M_X11_isMill 0 [(0, vr 0), (1, (0, a1))] [] h (qi Q)
  refine aw_iload_n (j := 1) (M := M_X11_isMill) (pc := 0) dX11_isMill_0 rfl rfl ?_
  refine aw_if_lt (tgt := 22) (M := M_X11_isMill) (pc := 1) dX11_isMill_1 rfl (fun hc => ?_) (fun hc => ?_)
  · have hF := hF.1 hc
    refine aw_iconst (M := M_X11_isMill) (pc := 22) dX11_isMill_22 ⟨by decide, by decide⟩ ?_
    exact aw_iretz (M := M_X11_isMill) (pc := 23) dX11_isMill_23 rfl (Or.inl rfl) ⟨_, rfl, hF⟩
  · have hF := hF.2 hc
    refine aw_iload_n (j := 1) (M := M_X11_isMill) (pc := 4) dX11_isMill_4 rfl rfl ?_
    refine aw_aload_n (j := 0) (M := M_X11_isMill) (pc := 5) dX11_isMill_5 rfl rfl ?_
    refine gf_X11_33 (M := M_X11_isMill) (pc := 6) rfl dX11_isMill_6 rfl (r := 12) rfl ?_
    refine gf_X11_214 (M := M_X11_isMill) (pc := 9) rfl dX11_isMill_9 rfl (r := 22) rfl ?_
    refine gf_X11_218 (M := M_X11_isMill) (pc := 12) rfl dX11_isMill_12 rfl ?_
    refine aw_icmp_ge (tgt := 22) (M := M_X11_isMill) (pc := 15) dX11_isMill_15 rfl (fun hc => ?_) (fun hc => ?_)
    · have hF := hF.1 hc
      refine aw_iconst (M := M_X11_isMill) (pc := 22) dX11_isMill_22 ⟨by decide, by decide⟩ ?_
      exact aw_iretz (M := M_X11_isMill) (pc := 23) dX11_isMill_23 rfl (Or.inl rfl) ⟨_, rfl, hF⟩
    · have hF := hF.2 hc
      refine aw_iconst (M := M_X11_isMill) (pc := 18) dX11_isMill_18 ⟨by decide, by decide⟩ ?_
      refine aw_goto (tgt := 23) (M := M_X11_isMill) (pc := 19) dX11_isMill_19 rfl ?_
      exact aw_iretz (M := M_X11_isMill) (pc := 23) dX11_isMill_23 rfl (Or.inr rfl) ⟨_, rfl, hF⟩
abbrev M_X11_whyNotDriven : Hd := (cX11_whyNotDriven, 5, RX11, (some .int), (6, 168), sc0)
def F_X11_whyNotDriven (h : Mem) (a1 : Int) (a2 : Int) (a3 : Int) (a4 : Int) (Q : Int → Mem → Prop) : Prop :=
  (F_X11_isMill h a1 (fun r2 h1 => ((r2 = 0 → Q 1 h1) ∧ (¬ (r2 = 0) → (F_X11_isThing h1 a2 (fun r4 h3 => ((r4 = 0 → Q 1 h3) ∧ (¬ (r4 = 0) → (F_X11_isThing h3 a3 (fun r6 h5 => ((r6 = 0 → Q 1 h5) ∧ (¬ (r6 = 0) → ((a2 = a3 → Q 1 h5) ∧ (¬ (a2 = a3) → (F_X11_outside h5 a4 0 48 (fun r8 h7 => ((r8 = 0 → (F_X9_isFree h7 13 a2 (fun r10 h9 => ((r10 = 0 → Q 7 h9) ∧ (¬ (r10 = 0) → (F_X9_isFree h9 13 a3 (fun r12 h11 => ((¬ (r12 = 0) → (F_X0_findDrive h11 12 146 a1 a2 a3 a4 (fun h13 => Q 0 h13))) ∧ (r12 = 0 → Q 7 h11))))))))) ∧ (¬ (r8 = 0) → Q 1 h7))))))))))))))))))
set_option maxRecDepth 100000 in
set_option maxHeartbeats 4000000 in
theorem f_X11_whyNotDriven {h : Mem} {a1 : Int} {a2 : Int} {a3 : Int} {a4 : Int} {Q : Int → Mem → Prop}  (hF : F_X11_whyNotDriven h a1 a2 a3 a4 Q) : Ct yX11_whyNotDriven cX11_whyNotDriven 5 (some .int) (6, 168) [vr 0, (0, a1), (0, a2), (0, a3), (0, a4)] h (qi Q) := by
  refine Ct.of np_RX11 (Nat.le_of_ble_eq_true rfl) ?_
  unfold F_X11_whyNotDriven at hF
  show AW M_X11_whyNotDriven 0 [(0, vr 0), (1, (0, a1)), (2, (0, a2)), (3, (0, a3)), (4, (0, a4))] [] h (qi Q)
  refine aw_aload_n (j := 0) (M := M_X11_whyNotDriven) (pc := 0) dX11_whyNotDriven_0 rfl rfl ?_
  refine aw_iload_n (j := 1) (M := M_X11_whyNotDriven) (pc := 1) dX11_whyNotDriven_1 rfl rfl ?_
  refine aw_cvi (as := [(0, a1)]) (st := []) (M := M_X11_whyNotDriven) (pc := 2) (f_X11_isMill  hF) dX11_whyNotDriven_2 rfl (Or.inl ⟨_, _, _, rfl, rfl⟩) cy_X11_isMill ml_X11_282 (by decide) (by decide) (Nat.le_of_ble_eq_true rfl) (fun r2 h1 hF => ?_)
  refine aw_if_eq (tgt := 40) (M := M_X11_whyNotDriven) (pc := 5) dX11_whyNotDriven_5 rfl (fun hc => ?_) (fun hc => ?_)
  · have hF := hF.1 hc
    refine aw_iconst (M := M_X11_whyNotDriven) (pc := 40) dX11_whyNotDriven_40 ⟨by decide, by decide⟩ ?_
    exact aw_ireti (M := M_X11_whyNotDriven) (pc := 41) dX11_whyNotDriven_41 rfl ⟨_, rfl, hF⟩
  · have hF := hF.2 hc
    refine aw_aload_n (j := 0) (M := M_X11_whyNotDriven) (pc := 8) dX11_whyNotDriven_8 rfl rfl ?_
    refine aw_iload_n (j := 2) (M := M_X11_whyNotDriven) (pc := 9) dX11_whyNotDriven_9 rfl rfl ?_
    refine aw_cvi (as := [(0, a2)]) (st := []) (M := M_X11_whyNotDriven) (pc := 10) (f_X11_isThing  hF) dX11_whyNotDriven_10 rfl (Or.inl ⟨_, _, _, rfl, rfl⟩) cy_X11_isThing ml_X11_252 (by decide) (by decide) (Nat.le_of_ble_eq_true rfl) (fun r4 h3 hF => ?_)
    refine aw_if_eq (tgt := 40) (M := M_X11_whyNotDriven) (pc := 13) dX11_whyNotDriven_13 rfl (fun hc => ?_) (fun hc => ?_)
    · have hF := hF.1 hc
      refine aw_iconst (M := M_X11_whyNotDriven) (pc := 40) dX11_whyNotDriven_40 ⟨by decide, by decide⟩ ?_
      exact aw_ireti (M := M_X11_whyNotDriven) (pc := 41) dX11_whyNotDriven_41 rfl ⟨_, rfl, hF⟩
    · have hF := hF.2 hc
      refine aw_aload_n (j := 0) (M := M_X11_whyNotDriven) (pc := 16) dX11_whyNotDriven_16 rfl rfl ?_
      refine aw_iload_n (j := 3) (M := M_X11_whyNotDriven) (pc := 17) dX11_whyNotDriven_17 rfl rfl ?_
      refine aw_cvi (as := [(0, a3)]) (st := []) (M := M_X11_whyNotDriven) (pc := 18) (f_X11_isThing  hF) dX11_whyNotDriven_18 rfl (Or.inl ⟨_, _, _, rfl, rfl⟩) cy_X11_isThing ml_X11_252 (by decide) (by decide) (Nat.le_of_ble_eq_true rfl) (fun r6 h5 hF => ?_)
      refine aw_if_eq (tgt := 40) (M := M_X11_whyNotDriven) (pc := 21) dX11_whyNotDriven_21 rfl (fun hc => ?_) (fun hc => ?_)
      · have hF := hF.1 hc
        refine aw_iconst (M := M_X11_whyNotDriven) (pc := 40) dX11_whyNotDriven_40 ⟨by decide, by decide⟩ ?_
        exact aw_ireti (M := M_X11_whyNotDriven) (pc := 41) dX11_whyNotDriven_41 rfl ⟨_, rfl, hF⟩
      · have hF := hF.2 hc
        refine aw_iload_n (j := 2) (M := M_X11_whyNotDriven) (pc := 24) dX11_whyNotDriven_24 rfl rfl ?_
        refine aw_iload_n (j := 3) (M := M_X11_whyNotDriven) (pc := 25) dX11_whyNotDriven_25 rfl rfl ?_
        refine aw_icmp_eq (tgt := 40) (M := M_X11_whyNotDriven) (pc := 26) dX11_whyNotDriven_26 rfl (fun hc => ?_) (fun hc => ?_)
        · have hF := hF.1 hc
          refine aw_iconst (M := M_X11_whyNotDriven) (pc := 40) dX11_whyNotDriven_40 ⟨by decide, by decide⟩ ?_
          exact aw_ireti (M := M_X11_whyNotDriven) (pc := 41) dX11_whyNotDriven_41 rfl ⟨_, rfl, hF⟩
        · have hF := hF.2 hc
          refine aw_iload (j := 4) (M := M_X11_whyNotDriven) (pc := 29) dX11_whyNotDriven_29  rfl ?_
          refine aw_iconst (M := M_X11_whyNotDriven) (pc := 31) dX11_whyNotDriven_31 ⟨by decide, by decide⟩ ?_
          refine aw_bipush (M := M_X11_whyNotDriven) (pc := 32) dX11_whyNotDriven_32 ⟨rfl, ⟨by decide, by decide⟩⟩ ?_
          refine aw_csi (as := [(0, a4), (0, 0), (0, 48)]) (st := []) (M := M_X11_whyNotDriven) (pc := 34) (f_X11_outside  hF) dX11_whyNotDriven_34 rfl cy_X11_outside ml_X11_105 (by decide) (by decide) (Nat.le_of_ble_eq_true rfl) (fun r8 h7 hF => ?_)
          refine aw_if_eq (tgt := 42) (M := M_X11_whyNotDriven) (pc := 37) dX11_whyNotDriven_37 rfl (fun hc => ?_) (fun hc => ?_)
          · have hF := hF.1 hc
            refine aw_aload_n (j := 0) (M := M_X11_whyNotDriven) (pc := 42) dX11_whyNotDriven_42 rfl rfl ?_
            refine gf_X11_33 (M := M_X11_whyNotDriven) (pc := 43) rfl dX11_whyNotDriven_43 rfl (r := 12) rfl ?_
            refine gf_X11_184 (M := M_X11_whyNotDriven) (pc := 46) rfl dX11_whyNotDriven_46 rfl (r := 13) rfl ?_
            refine aw_iload_n (j := 2) (M := M_X11_whyNotDriven) (pc := 49) dX11_whyNotDriven_49 rfl rfl ?_
            refine aw_cvi (as := [(0, a2)]) (st := []) (M := M_X11_whyNotDriven) (pc := 50) (f_X9_isFree rfl hF) dX11_whyNotDriven_50 rfl (Or.inl ⟨_, _, _, rfl, rfl⟩) cy_X9_isFree ml_X11_273 (by decide) (by decide) (Nat.le_of_ble_eq_true rfl) (fun r10 h9 hF => ?_)
            refine aw_if_eq (tgt := 70) (M := M_X11_whyNotDriven) (pc := 53) dX11_whyNotDriven_53 rfl (fun hc => ?_) (fun hc => ?_)
            · have hF := hF.1 hc
              refine aw_bipush (M := M_X11_whyNotDriven) (pc := 70) dX11_whyNotDriven_70 ⟨rfl, ⟨by decide, by decide⟩⟩ ?_
              exact aw_ireti (M := M_X11_whyNotDriven) (pc := 72) dX11_whyNotDriven_72 rfl ⟨_, rfl, hF⟩
            · have hF := hF.2 hc
              refine aw_aload_n (j := 0) (M := M_X11_whyNotDriven) (pc := 56) dX11_whyNotDriven_56 rfl rfl ?_
              refine gf_X11_33 (M := M_X11_whyNotDriven) (pc := 57) rfl dX11_whyNotDriven_57 rfl (r := 12) rfl ?_
              refine gf_X11_184 (M := M_X11_whyNotDriven) (pc := 60) rfl dX11_whyNotDriven_60 rfl (r := 13) rfl ?_
              refine aw_iload_n (j := 3) (M := M_X11_whyNotDriven) (pc := 63) dX11_whyNotDriven_63 rfl rfl ?_
              refine aw_cvi (as := [(0, a3)]) (st := []) (M := M_X11_whyNotDriven) (pc := 64) (f_X9_isFree rfl hF) dX11_whyNotDriven_64 rfl (Or.inl ⟨_, _, _, rfl, rfl⟩) cy_X9_isFree ml_X11_273 (by decide) (by decide) (Nat.le_of_ble_eq_true rfl) (fun r12 h11 hF => ?_)
              refine aw_if_ne (tgt := 73) (M := M_X11_whyNotDriven) (pc := 67) dX11_whyNotDriven_67 rfl (fun hc => ?_) (fun hc => ?_)
              · have hF := hF.1 hc
                refine aw_aload_n (j := 0) (M := M_X11_whyNotDriven) (pc := 73) dX11_whyNotDriven_73 rfl rfl ?_
                refine gf_X11_64 (M := M_X11_whyNotDriven) (pc := 74) rfl dX11_whyNotDriven_74 rfl (r := 42) rfl ?_
                refine aw_aload_n (j := 0) (M := M_X11_whyNotDriven) (pc := 77) dX11_whyNotDriven_77 rfl rfl ?_
                refine gf_X11_33 (M := M_X11_whyNotDriven) (pc := 78) rfl dX11_whyNotDriven_78 rfl (r := 12) rfl ?_
                refine aw_aload_n (j := 0) (M := M_X11_whyNotDriven) (pc := 81) dX11_whyNotDriven_81 rfl rfl ?_
                refine gf_X11_44 (M := M_X11_whyNotDriven) (pc := 82) rfl dX11_whyNotDriven_82 rfl (r := 146) rfl ?_
                refine aw_iload_n (j := 1) (M := M_X11_whyNotDriven) (pc := 85) dX11_whyNotDriven_85 rfl rfl ?_
                refine aw_iload_n (j := 2) (M := M_X11_whyNotDriven) (pc := 86) dX11_whyNotDriven_86 rfl rfl ?_
                refine aw_iload_n (j := 3) (M := M_X11_whyNotDriven) (pc := 87) dX11_whyNotDriven_87 rfl rfl ?_
                refine aw_iload (j := 4) (M := M_X11_whyNotDriven) (pc := 88) dX11_whyNotDriven_88  rfl ?_
                refine aw_cvv (as := [vr 12, vr 146, (0, a1), (0, a2), (0, a3), (0, a4)]) (st := []) (M := M_X11_whyNotDriven) (pc := 90) (f_X0_findDrive rfl rfl hF) dX11_whyNotDriven_90 rfl (Or.inl ⟨_, _, _, rfl, rfl⟩) cy_X0_findDrive ml_X11_439 (by decide) (by decide) (Nat.le_of_ble_eq_true rfl) (fun h13 hF => ?_)
                refine aw_iconst (M := M_X11_whyNotDriven) (pc := 93) dX11_whyNotDriven_93 ⟨by decide, by decide⟩ ?_
                exact aw_ireti (M := M_X11_whyNotDriven) (pc := 94) dX11_whyNotDriven_94 rfl ⟨_, rfl, hF⟩
              · have hF := hF.2 hc
                refine aw_bipush (M := M_X11_whyNotDriven) (pc := 70) dX11_whyNotDriven_70 ⟨rfl, ⟨by decide, by decide⟩⟩ ?_
                exact aw_ireti (M := M_X11_whyNotDriven) (pc := 72) dX11_whyNotDriven_72 rfl ⟨_, rfl, hF⟩
          · have hF := hF.2 hc
            refine aw_iconst (M := M_X11_whyNotDriven) (pc := 40) dX11_whyNotDriven_40 ⟨by decide, by decide⟩ ?_
            exact aw_ireti (M := M_X11_whyNotDriven) (pc := 41) dX11_whyNotDriven_41 rfl ⟨_, rfl, hF⟩
abbrev M_X11_drive : Hd := (cX11_drive, 6, RX11, (some .int), (7, 192), sc0)
def F_X11_drive (h : Mem) (a1 : Int) (a2 : Int) (a3 : Int) (a4 : Int) (Q : Int → Mem → Prop) : Prop :=
  (F_X11_whyNotDriven h a1 a2 a3 a4 (fun r2 h1 => ((¬ (r2 = 0) → (F_X11_refused h1 r2 (fun r4 h3 => Q r4 h3))) ∧ (r2 = 0 → (F_X11_given h1 (h1 42 0) (fun r6 h5 => Q r6 h5))))))
set_option maxRecDepth 100000 in
set_option maxHeartbeats 4000000 in
theorem f_X11_drive {h : Mem} {a1 : Int} {a2 : Int} {a3 : Int} {a4 : Int} {Q : Int → Mem → Prop}  (hF : F_X11_drive h a1 a2 a3 a4 Q) : Ct yX11_drive cX11_drive 6 (some .int) (7, 192) [vr 0, (0, a1), (0, a2), (0, a3), (0, a4)] h (qi Q) := by
  refine Ct.of np_RX11 (Nat.le_of_ble_eq_true rfl) ?_
  unfold F_X11_drive at hF
  show AW M_X11_drive 0 [(0, vr 0), (1, (0, a1)), (2, (0, a2)), (3, (0, a3)), (4, (0, a4))] [] h (qi Q)
  refine aw_aload_n (j := 0) (M := M_X11_drive) (pc := 0) dX11_drive_0 rfl rfl ?_
  refine aw_iload_n (j := 1) (M := M_X11_drive) (pc := 1) dX11_drive_1 rfl rfl ?_
  refine aw_iload_n (j := 2) (M := M_X11_drive) (pc := 2) dX11_drive_2 rfl rfl ?_
  refine aw_iload_n (j := 3) (M := M_X11_drive) (pc := 3) dX11_drive_3 rfl rfl ?_
  refine aw_iload (j := 4) (M := M_X11_drive) (pc := 4) dX11_drive_4  rfl ?_
  refine aw_cvi (as := [(0, a1), (0, a2), (0, a3), (0, a4)]) (st := []) (M := M_X11_drive) (pc := 6) (f_X11_whyNotDriven  hF) dX11_drive_6 rfl (Or.inl ⟨_, _, _, rfl, rfl⟩) cy_X11_whyNotDriven ml_X11_348 (by decide) (by decide) (Nat.le_of_ble_eq_true rfl) (fun r2 h1 hF => ?_)
  refine aw_istore (ls' := [(5, (0, r2)), (0, vr 0), (1, (0, a1)), (2, (0, a2)), (3, (0, a3)), (4, (0, a4))]) (M := M_X11_drive) (pc := 9) dX11_drive_9  (by decide) rfl ?_
  refine aw_iload (j := 0) (M := M_X11_drive) (pc := 11) dX11_drive_11  rfl ?_
  refine aw_if_ne (tgt := 30) (M := M_X11_drive) (pc := 13) dX11_drive_13 rfl (fun hc => ?_) (fun hc => ?_)
  · have hF := hF.1 hc
    refine aw_aload_n (j := 1) (M := M_X11_drive) (pc := 30) dX11_drive_30 rfl rfl ?_
    refine aw_iload (j := 0) (M := M_X11_drive) (pc := 31) dX11_drive_31  rfl ?_
    refine aw_cvi (as := [(0, r2)]) (st := []) (M := M_X11_drive) (pc := 33) (f_X11_refused  hF) dX11_drive_33 rfl (Or.inl ⟨_, _, _, rfl, rfl⟩) cy_X11_refused ml_X11_163 (by decide) (by decide) (Nat.le_of_ble_eq_true rfl) (fun r4 h3 hF => ?_)
    exact aw_ireti (M := M_X11_drive) (pc := 36) dX11_drive_36 rfl ⟨_, rfl, hF⟩
  · have hF := hF.2 hc
    refine aw_aload_n (j := 1) (M := M_X11_drive) (pc := 16) dX11_drive_16 rfl rfl ?_
    refine aw_aload_n (j := 1) (M := M_X11_drive) (pc := 17) dX11_drive_17 rfl rfl ?_
    refine gf_X11_64 (M := M_X11_drive) (pc := 18) rfl dX11_drive_18 rfl (r := 42) rfl ?_
    refine gf_X11_345 (M := M_X11_drive) (pc := 21) rfl dX11_drive_21 rfl ?_
    refine aw_cvi (as := [(0, h1 42 0)]) (st := []) (M := M_X11_drive) (pc := 24) (f_X11_given  hF) dX11_drive_24 rfl (Or.inl ⟨_, _, _, rfl, rfl⟩) cy_X11_given ml_X11_193 (by decide) (by decide) (Nat.le_of_ble_eq_true rfl) (fun r6 h5 hF => ?_)
    refine aw_goto (tgt := 36) (M := M_X11_drive) (pc := 27) dX11_drive_27 rfl ?_
    exact aw_ireti (M := M_X11_drive) (pc := 36) dX11_drive_36 rfl ⟨_, rfl, hF⟩
abbrev M_X11_driveCell : Hd := (cX11_driveCell, 7, RX11, (some .int), (7, 192), sc0)
def F_X11_driveCell (h : Mem) (a1 : Int) (a2 : Int) (a3 : Int) (a4 : Int) (a5 : Int) (Q : Int → Mem → Prop) : Prop :=
  (F_X11_outside h a5 0 1 (fun r2 h1 => ((r2 = 0 → (F_X11_whyNotDriven h1 a1 a2 a3 a4 (fun r4 h3 => ((r4 = 0 → ((¬ (a5 = 0) → (F_X11_given h3 (h3 42 2) (fun r6 h5 => Q r6 h5))) ∧ (a5 = 0 → (F_X11_given h3 (h3 42 1) (fun r8 h7 => Q r8 h7))))) ∧ (¬ (r4 = 0) → (F_X11_refused h3 r4 (fun r10 h9 => Q r10 h9))))))) ∧ (¬ (r2 = 0) → (F_X11_refused h1 1 (fun r12 h11 => Q r12 h11))))))
set_option maxRecDepth 100000 in
set_option maxHeartbeats 4000000 in
theorem f_X11_driveCell {h : Mem} {a1 : Int} {a2 : Int} {a3 : Int} {a4 : Int} {a5 : Int} {Q : Int → Mem → Prop}  (hF : F_X11_driveCell h a1 a2 a3 a4 a5 Q) : Ct yX11_driveCell cX11_driveCell 7 (some .int) (7, 192) [vr 0, (0, a1), (0, a2), (0, a3), (0, a4), (0, a5)] h (qi Q) := by
  refine Ct.of np_RX11 (Nat.le_of_ble_eq_true rfl) ?_
  unfold F_X11_driveCell at hF
  show AW M_X11_driveCell 0 [(0, vr 0), (1, (0, a1)), (2, (0, a2)), (3, (0, a3)), (4, (0, a4)), (5, (0, a5))] [] h (qi Q)
  refine aw_iload (j := 5) (M := M_X11_driveCell) (pc := 0) dX11_driveCell_0  rfl ?_
  refine aw_iconst (M := M_X11_driveCell) (pc := 2) dX11_driveCell_2 ⟨by decide, by decide⟩ ?_
  refine aw_iconst (M := M_X11_driveCell) (pc := 3) dX11_driveCell_3 ⟨by decide, by decide⟩ ?_
  refine aw_csi (as := [(0, a5), (0, 0), (0, 1)]) (st := []) (M := M_X11_driveCell) (pc := 4) (f_X11_outside  hF) dX11_driveCell_4 rfl cy_X11_outside ml_X11_105 (by decide) (by decide) (Nat.le_of_ble_eq_true rfl) (fun r2 h1 hF => ?_)
  refine aw_if_eq (tgt := 16) (M := M_X11_driveCell) (pc := 7) dX11_driveCell_7 rfl (fun hc => ?_) (fun hc => ?_)
  · have hF := hF.1 hc
    refine aw_aload_n (j := 0) (M := M_X11_driveCell) (pc := 16) dX11_driveCell_16 rfl rfl ?_
    refine aw_iload_n (j := 1) (M := M_X11_driveCell) (pc := 17) dX11_driveCell_17 rfl rfl ?_
    refine aw_iload_n (j := 2) (M := M_X11_driveCell) (pc := 18) dX11_driveCell_18 rfl rfl ?_
    refine aw_iload_n (j := 3) (M := M_X11_driveCell) (pc := 19) dX11_driveCell_19 rfl rfl ?_
    refine aw_iload (j := 4) (M := M_X11_driveCell) (pc := 20) dX11_driveCell_20  rfl ?_
    refine aw_cvi (as := [(0, a1), (0, a2), (0, a3), (0, a4)]) (st := []) (M := M_X11_driveCell) (pc := 22) (f_X11_whyNotDriven  hF) dX11_driveCell_22 rfl (Or.inl ⟨_, _, _, rfl, rfl⟩) cy_X11_whyNotDriven ml_X11_348 (by decide) (by decide) (Nat.le_of_ble_eq_true rfl) (fun r4 h3 hF => ?_)
    refine aw_istore (ls' := [(6, (0, r4)), (0, vr 0), (1, (0, a1)), (2, (0, a2)), (3, (0, a3)), (4, (0, a4)), (5, (0, a5))]) (M := M_X11_driveCell) (pc := 25) dX11_driveCell_25  (by decide) rfl ?_
    refine aw_iload (j := 0) (M := M_X11_driveCell) (pc := 27) dX11_driveCell_27  rfl ?_
    refine aw_if_eq (tgt := 39) (M := M_X11_driveCell) (pc := 29) dX11_driveCell_29 rfl (fun hc => ?_) (fun hc => ?_)
    · have hF := hF.1 hc
      refine aw_aload_n (j := 1) (M := M_X11_driveCell) (pc := 39) dX11_driveCell_39 rfl rfl ?_
      refine aw_iload (j := 6) (M := M_X11_driveCell) (pc := 40) dX11_driveCell_40  rfl ?_
      refine aw_if_ne (tgt := 55) (M := M_X11_driveCell) (pc := 42) dX11_driveCell_42 rfl (fun hc => ?_) (fun hc => ?_)
      · have hF := hF.1 hc
        refine aw_aload_n (j := 1) (M := M_X11_driveCell) (pc := 55) dX11_driveCell_55 rfl rfl ?_
        refine gf_X11_64 (M := M_X11_driveCell) (pc := 56) rfl dX11_driveCell_56 rfl (r := 42) rfl ?_
        refine gf_X11_352 (M := M_X11_driveCell) (pc := 59) rfl dX11_driveCell_59 rfl ?_
        refine aw_cvi (as := [(0, h3 42 2)]) (st := []) (M := M_X11_driveCell) (pc := 62) (f_X11_given  hF) dX11_driveCell_62 rfl (Or.inl ⟨_, _, _, rfl, rfl⟩) cy_X11_given ml_X11_193 (by decide) (by decide) (Nat.le_of_ble_eq_true rfl) (fun r6 h5 hF => ?_)
        exact aw_ireti (M := M_X11_driveCell) (pc := 65) dX11_driveCell_65 rfl ⟨_, rfl, hF⟩
      · have hF := hF.2 hc
        refine aw_aload_n (j := 1) (M := M_X11_driveCell) (pc := 45) dX11_driveCell_45 rfl rfl ?_
        refine gf_X11_64 (M := M_X11_driveCell) (pc := 46) rfl dX11_driveCell_46 rfl (r := 42) rfl ?_
        refine gf_X11_342 (M := M_X11_driveCell) (pc := 49) rfl dX11_driveCell_49 rfl ?_
        refine aw_goto (tgt := 62) (M := M_X11_driveCell) (pc := 52) dX11_driveCell_52 rfl ?_
        refine aw_cvi (as := [(0, h3 42 1)]) (st := []) (M := M_X11_driveCell) (pc := 62) (f_X11_given  hF) dX11_driveCell_62 rfl (Or.inl ⟨_, _, _, rfl, rfl⟩) cy_X11_given ml_X11_193 (by decide) (by decide) (Nat.le_of_ble_eq_true rfl) (fun r8 h7 hF => ?_)
        exact aw_ireti (M := M_X11_driveCell) (pc := 65) dX11_driveCell_65 rfl ⟨_, rfl, hF⟩
    · have hF := hF.2 hc
      refine aw_aload_n (j := 1) (M := M_X11_driveCell) (pc := 32) dX11_driveCell_32 rfl rfl ?_
      refine aw_iload (j := 0) (M := M_X11_driveCell) (pc := 33) dX11_driveCell_33  rfl ?_
      refine aw_cvi (as := [(0, r4)]) (st := []) (M := M_X11_driveCell) (pc := 35) (f_X11_refused  hF) dX11_driveCell_35 rfl (Or.inl ⟨_, _, _, rfl, rfl⟩) cy_X11_refused ml_X11_163 (by decide) (by decide) (Nat.le_of_ble_eq_true rfl) (fun r10 h9 hF => ?_)
      exact aw_ireti (M := M_X11_driveCell) (pc := 38) dX11_driveCell_38 rfl ⟨_, rfl, hF⟩
  · have hF := hF.2 hc
    refine aw_aload_n (j := 0) (M := M_X11_driveCell) (pc := 10) dX11_driveCell_10 rfl rfl ?_
    refine aw_iconst (M := M_X11_driveCell) (pc := 11) dX11_driveCell_11 ⟨by decide, by decide⟩ ?_
    refine aw_cvi (as := [(0, 1)]) (st := []) (M := M_X11_driveCell) (pc := 12) (f_X11_refused  hF) dX11_driveCell_12 rfl (Or.inl ⟨_, _, _, rfl, rfl⟩) cy_X11_refused ml_X11_163 (by decide) (by decide) (Nat.le_of_ble_eq_true rfl) (fun r12 h11 hF => ?_)
    exact aw_ireti (M := M_X11_driveCell) (pc := 15) dX11_driveCell_15 rfl ⟨_, rfl, hF⟩
abbrev M_X11_fault : Hd := (cX11_fault, 2, RX11, (some .int), (1, 45), sc0)
def F_X11_fault (h : Mem) (a1 : Int) (Q : Int → Mem → Prop) : Prop :=
  ((¬ (a1 = 0) → ((¬ (a1 = 1) → Q (-1) h) ∧ (a1 = 1 → Q (h 9 10) h))) ∧ (a1 = 0 → Q (h 9 9) h))
set_option maxRecDepth 100000 in
set_option maxHeartbeats 4000000 in
theorem f_X11_fault {h : Mem} {a1 : Int} {Q : Int → Mem → Prop}  (hF : F_X11_fault h a1 Q) : Ct yX11_fault cX11_fault 2 (some .int) (1, 45) [vr 0, (0, a1)] h (qi Q) := by
  refine Ct.of np_RX11 (Nat.le_of_ble_eq_true rfl) ?_
  unfold F_X11_fault at hF
  show AW M_X11_fault 0 [(0, vr 0), (1, (0, a1))] [] h (qi Q)
  refine aw_iload_n (j := 1) (M := M_X11_fault) (pc := 0) dX11_fault_0 rfl rfl ?_
  refine aw_if_ne (tgt := 12) (M := M_X11_fault) (pc := 1) dX11_fault_1 rfl (fun hc => ?_) (fun hc => ?_)
  · have hF := hF.1 hc
    refine aw_iload_n (j := 1) (M := M_X11_fault) (pc := 12) dX11_fault_12 rfl rfl ?_
    refine aw_iconst (M := M_X11_fault) (pc := 13) dX11_fault_13 ⟨by decide, by decide⟩ ?_
    refine aw_icmp_ne (tgt := 27) (M := M_X11_fault) (pc := 14) dX11_fault_14 rfl (fun hc => ?_) (fun hc => ?_)
    · have hF := hF.1 hc
      refine aw_iconst (M := M_X11_fault) (pc := 27) dX11_fault_27 ⟨by decide, by decide⟩ ?_
      exact aw_ireti (M := M_X11_fault) (pc := 28) dX11_fault_28 rfl ⟨_, rfl, hF⟩
    · have hF := hF.2 hc
      refine aw_aload_n (j := 0) (M := M_X11_fault) (pc := 17) dX11_fault_17 rfl rfl ?_
      refine gf_X11_26 (M := M_X11_fault) (pc := 18) rfl dX11_fault_18 rfl (r := 9) rfl ?_
      refine gf_X11_211 (M := M_X11_fault) (pc := 21) rfl dX11_fault_21 rfl ?_
      refine aw_goto (tgt := 28) (M := M_X11_fault) (pc := 24) dX11_fault_24 rfl ?_
      exact aw_ireti (M := M_X11_fault) (pc := 28) dX11_fault_28 rfl ⟨_, rfl, hF⟩
  · have hF := hF.2 hc
    refine aw_aload_n (j := 0) (M := M_X11_fault) (pc := 4) dX11_fault_4 rfl rfl ?_
    refine gf_X11_26 (M := M_X11_fault) (pc := 5) rfl dX11_fault_5 rfl (r := 9) rfl ?_
    refine gf_X11_174 (M := M_X11_fault) (pc := 8) rfl dX11_fault_8 rfl ?_
    exact aw_ireti (M := M_X11_fault) (pc := 11) dX11_fault_11 rfl ⟨_, rfl, hF⟩
abbrev M_X11_feed : Hd := (cX11_feed, 6, RX11, (some .int), (2, 67), sc0)
def F_X11_feed (h : Mem) (a1 : Int) (a2 : Int) (a3 : Int) (a4 : Int) (a5 : Int) (Q : Int → Mem → Prop) : Prop :=
  (F_X8_hasRoomFor h 20 (fun r2 h1 => ((¬ (r2 = 0) → (F_X8_append h1 a1 (fun h3 => (F_X8_append h3 a2 (fun h5 => (F_X8_append h5 a3 (fun h7 => (F_X8_append h7 a4 (fun h9 => (F_X8_append h9 a5 (fun h11 => Q (h11 9 1) h11))))))))))) ∧ (r2 = 0 → Q (-1) h1))))
set_option maxRecDepth 100000 in
set_option maxHeartbeats 4000000 in
theorem f_X11_feed {h : Mem} {a1 : Int} {a2 : Int} {a3 : Int} {a4 : Int} {a5 : Int} {Q : Int → Mem → Prop}  (hF : F_X11_feed h a1 a2 a3 a4 a5 Q) : Ct yX11_feed cX11_feed 6 (some .int) (2, 67) [vr 0, (0, a1), (0, a2), (0, a3), (0, a4), (0, a5)] h (qi Q) := by
  refine Ct.of np_RX11 (Nat.le_of_ble_eq_true rfl) ?_
  unfold F_X11_feed at hF
  show AW M_X11_feed 0 [(0, vr 0), (1, (0, a1)), (2, (0, a2)), (3, (0, a3)), (4, (0, a4)), (5, (0, a5))] [] h (qi Q)
  refine aw_aload_n (j := 0) (M := M_X11_feed) (pc := 0) dX11_feed_0 rfl rfl ?_
  refine gf_X11_26 (M := M_X11_feed) (pc := 1) rfl dX11_feed_1 rfl (r := 9) rfl ?_
  refine aw_bipush (M := M_X11_feed) (pc := 4) dX11_feed_4 ⟨rfl, ⟨by decide, by decide⟩⟩ ?_
  refine aw_cvi (as := [(0, 20)]) (st := []) (M := M_X11_feed) (pc := 6) (f_X8_hasRoomFor  hF) dX11_feed_6 rfl (Or.inl ⟨_, _, _, rfl, rfl⟩) cy_X8_hasRoomFor ml_X11_153 (by decide) (by decide) (Nat.le_of_ble_eq_true rfl) (fun r2 h1 hF => ?_)
  refine aw_if_ne (tgt := 14) (M := M_X11_feed) (pc := 9) dX11_feed_9 rfl (fun hc => ?_) (fun hc => ?_)
  · have hF := hF.1 hc
    refine aw_aload_n (j := 0) (M := M_X11_feed) (pc := 14) dX11_feed_14 rfl rfl ?_
    refine gf_X11_26 (M := M_X11_feed) (pc := 15) rfl dX11_feed_15 rfl (r := 9) rfl ?_
    refine aw_iload_n (j := 1) (M := M_X11_feed) (pc := 18) dX11_feed_18 rfl rfl ?_
    refine aw_cvv (as := [(0, a1)]) (st := []) (M := M_X11_feed) (pc := 19) (f_X8_append  hF) dX11_feed_19 rfl (Or.inl ⟨_, _, _, rfl, rfl⟩) cy_X8_append ml_X11_156 (by decide) (by decide) (Nat.le_of_ble_eq_true rfl) (fun h3 hF => ?_)
    refine aw_aload_n (j := 0) (M := M_X11_feed) (pc := 22) dX11_feed_22 rfl rfl ?_
    refine gf_X11_26 (M := M_X11_feed) (pc := 23) rfl dX11_feed_23 rfl (r := 9) rfl ?_
    refine aw_iload_n (j := 2) (M := M_X11_feed) (pc := 26) dX11_feed_26 rfl rfl ?_
    refine aw_cvv (as := [(0, a2)]) (st := []) (M := M_X11_feed) (pc := 27) (f_X8_append  hF) dX11_feed_27 rfl (Or.inl ⟨_, _, _, rfl, rfl⟩) cy_X8_append ml_X11_156 (by decide) (by decide) (Nat.le_of_ble_eq_true rfl) (fun h5 hF => ?_)
    refine aw_aload_n (j := 0) (M := M_X11_feed) (pc := 30) dX11_feed_30 rfl rfl ?_
    refine gf_X11_26 (M := M_X11_feed) (pc := 31) rfl dX11_feed_31 rfl (r := 9) rfl ?_
    refine aw_iload_n (j := 3) (M := M_X11_feed) (pc := 34) dX11_feed_34 rfl rfl ?_
    refine aw_cvv (as := [(0, a3)]) (st := []) (M := M_X11_feed) (pc := 35) (f_X8_append  hF) dX11_feed_35 rfl (Or.inl ⟨_, _, _, rfl, rfl⟩) cy_X8_append ml_X11_156 (by decide) (by decide) (Nat.le_of_ble_eq_true rfl) (fun h7 hF => ?_)
    refine aw_aload_n (j := 0) (M := M_X11_feed) (pc := 38) dX11_feed_38 rfl rfl ?_
    refine gf_X11_26 (M := M_X11_feed) (pc := 39) rfl dX11_feed_39 rfl (r := 9) rfl ?_
    refine aw_iload (j := 4) (M := M_X11_feed) (pc := 42) dX11_feed_42  rfl ?_
    refine aw_cvv (as := [(0, a4)]) (st := []) (M := M_X11_feed) (pc := 44) (f_X8_append  hF) dX11_feed_44 rfl (Or.inl ⟨_, _, _, rfl, rfl⟩) cy_X8_append ml_X11_156 (by decide) (by decide) (Nat.le_of_ble_eq_true rfl) (fun h9 hF => ?_)
    refine aw_aload_n (j := 0) (M := M_X11_feed) (pc := 47) dX11_feed_47 rfl rfl ?_
    refine gf_X11_26 (M := M_X11_feed) (pc := 48) rfl dX11_feed_48 rfl (r := 9) rfl ?_
    refine aw_iload (j := 5) (M := M_X11_feed) (pc := 51) dX11_feed_51  rfl ?_
    refine aw_cvv (as := [(0, a5)]) (st := []) (M := M_X11_feed) (pc := 53) (f_X8_append  hF) dX11_feed_53 rfl (Or.inl ⟨_, _, _, rfl, rfl⟩) cy_X8_append ml_X11_156 (by decide) (by decide) (Nat.le_of_ble_eq_true rfl) (fun h11 hF => ?_)
    refine aw_aload_n (j := 0) (M := M_X11_feed) (pc := 56) dX11_feed_56 rfl rfl ?_
    refine gf_X11_26 (M := M_X11_feed) (pc := 57) rfl dX11_feed_57 rfl (r := 9) rfl ?_
    refine gf_X11_160 (M := M_X11_feed) (pc := 60) rfl dX11_feed_60 rfl ?_
    exact aw_ireti (M := M_X11_feed) (pc := 63) dX11_feed_63 rfl ⟨_, rfl, hF⟩
  · have hF := hF.2 hc
    refine aw_iconst (M := M_X11_feed) (pc := 12) dX11_feed_12 ⟨by decide, by decide⟩ ?_
    exact aw_ireti (M := M_X11_feed) (pc := 13) dX11_feed_13 rfl ⟨_, rfl, hF⟩
abbrev M_X11_fetch : Hd := (cX11_fetch, 3, RX11, (some .int), (3, 89), sc0)
def F_X11_fetch (h : Mem) (a1 : Int) (Q : Int → Mem → Prop) : Prop :=
  (F_X11_isThing h a1 (fun r2 h1 => ((¬ (r2 = 0) → (F_X9_isLying h1 13 a1 (fun r4 h3 => ((¬ (r4 = 0) → ((0 ≤ a1 ∧ a1 < 8) ∧ (∀ x7 : Int, x7 = h3 19 (a1).toNat → (F_X9_bringAshore h3 13 a1 (fun h8 => (F_X11_given h8 x7 (fun r11 h10 => Q r11 h10))))))) ∧ (r4 = 0 → (F_X11_refused h3 7 (fun r13 h12 => Q r13 h12))))))) ∧ (r2 = 0 → (F_X11_refused h1 1 (fun r15 h14 => Q r15 h14))))))
set_option maxRecDepth 100000 in
set_option maxHeartbeats 4000000 in
theorem f_X11_fetch {h : Mem} {a1 : Int} {Q : Int → Mem → Prop}  (hF : F_X11_fetch h a1 Q) : Ct yX11_fetch cX11_fetch 3 (some .int) (3, 89) [vr 0, (0, a1)] h (qi Q) := by
  refine Ct.of np_RX11 (Nat.le_of_ble_eq_true rfl) ?_
  unfold F_X11_fetch at hF
  show AW M_X11_fetch 0 [(0, vr 0), (1, (0, a1))] [] h (qi Q)
  refine aw_aload_n (j := 0) (M := M_X11_fetch) (pc := 0) dX11_fetch_0 rfl rfl ?_
  refine aw_iload_n (j := 1) (M := M_X11_fetch) (pc := 1) dX11_fetch_1 rfl rfl ?_
  refine aw_cvi (as := [(0, a1)]) (st := []) (M := M_X11_fetch) (pc := 2) (f_X11_isThing  hF) dX11_fetch_2 rfl (Or.inl ⟨_, _, _, rfl, rfl⟩) cy_X11_isThing ml_X11_252 (by decide) (by decide) (Nat.le_of_ble_eq_true rfl) (fun r2 h1 hF => ?_)
  refine aw_if_ne (tgt := 14) (M := M_X11_fetch) (pc := 5) dX11_fetch_5 rfl (fun hc => ?_) (fun hc => ?_)
  · have hF := hF.1 hc
    refine aw_aload_n (j := 0) (M := M_X11_fetch) (pc := 14) dX11_fetch_14 rfl rfl ?_
    refine gf_X11_33 (M := M_X11_fetch) (pc := 15) rfl dX11_fetch_15 rfl (r := 12) rfl ?_
    refine gf_X11_184 (M := M_X11_fetch) (pc := 18) rfl dX11_fetch_18 rfl (r := 13) rfl ?_
    refine aw_iload_n (j := 1) (M := M_X11_fetch) (pc := 21) dX11_fetch_21 rfl rfl ?_
    refine aw_cvi (as := [(0, a1)]) (st := []) (M := M_X11_fetch) (pc := 22) (f_X9_isLying rfl hF) dX11_fetch_22 rfl (Or.inl ⟨_, _, _, rfl, rfl⟩) cy_X9_isLying ml_X11_276 (by decide) (by decide) (Nat.le_of_ble_eq_true rfl) (fun r4 h3 hF => ?_)
    refine aw_if_ne (tgt := 35) (M := M_X11_fetch) (pc := 25) dX11_fetch_25 rfl (fun hc => ?_) (fun hc => ?_)
    · have hF := hF.1 hc
      refine aw_aload_n (j := 0) (M := M_X11_fetch) (pc := 35) dX11_fetch_35 rfl rfl ?_
      refine gf_X11_33 (M := M_X11_fetch) (pc := 36) rfl dX11_fetch_36 rfl (r := 12) rfl ?_
      refine gf_X11_184 (M := M_X11_fetch) (pc := 39) rfl dX11_fetch_39 rfl (r := 13) rfl ?_
      refine gf_X11_279 (M := M_X11_fetch) (pc := 42) rfl dX11_fetch_42 rfl (r := 19) rfl ?_
      refine aw_iload_n (j := 1) (M := M_X11_fetch) (pc := 45) dX11_fetch_45 rfl rfl ?_
      obtain ⟨o6, hF⟩ := hF
      refine aw_iald (k := (a1).toNat) (M := M_X11_fetch) (pc := 46) dX11_fetch_46 rfl o6 rfl ?_
      obtain ⟨x7, ex7⟩ : ∃ y : Int, y = h3 19 (a1).toNat := ⟨_, rfl⟩
      have hF := hF x7 ex7
      rw [← ex7]
      refine aw_istore_n (ls' := [(2, (0, x7)), (0, vr 0), (1, (0, a1))]) (M := M_X11_fetch) (pc := 47) dX11_fetch_47 rfl (by decide) rfl ?_
      refine aw_aload_n (j := 1) (M := M_X11_fetch) (pc := 48) dX11_fetch_48 rfl rfl ?_
      refine gf_X11_33 (M := M_X11_fetch) (pc := 49) rfl dX11_fetch_49 rfl (r := 12) rfl ?_
      refine gf_X11_184 (M := M_X11_fetch) (pc := 52) rfl dX11_fetch_52 rfl (r := 13) rfl ?_
      refine aw_iload_n (j := 2) (M := M_X11_fetch) (pc := 55) dX11_fetch_55 rfl rfl ?_
      refine aw_cvv (as := [(0, a1)]) (st := []) (M := M_X11_fetch) (pc := 56) (f_X9_bringAshore rfl hF) dX11_fetch_56 rfl (Or.inl ⟨_, _, _, rfl, rfl⟩) cy_X9_bringAshore ml_X11_308 (by decide) (by decide) (Nat.le_of_ble_eq_true rfl) (fun h8 hF => ?_)
      refine aw_aload_n (j := 1) (M := M_X11_fetch) (pc := 59) dX11_fetch_59 rfl rfl ?_
      refine aw_iload_n (j := 0) (M := M_X11_fetch) (pc := 60) dX11_fetch_60 rfl rfl ?_
      refine aw_cvi (as := [(0, x7)]) (st := []) (M := M_X11_fetch) (pc := 61) (f_X11_given  hF) dX11_fetch_61 rfl (Or.inl ⟨_, _, _, rfl, rfl⟩) cy_X11_given ml_X11_193 (by decide) (by decide) (Nat.le_of_ble_eq_true rfl) (fun r11 h10 hF => ?_)
      exact aw_ireti (M := M_X11_fetch) (pc := 64) dX11_fetch_64 rfl ⟨_, rfl, hF⟩
    · have hF := hF.2 hc
      refine aw_aload_n (j := 0) (M := M_X11_fetch) (pc := 28) dX11_fetch_28 rfl rfl ?_
      refine aw_bipush (M := M_X11_fetch) (pc := 29) dX11_fetch_29 ⟨rfl, ⟨by decide, by decide⟩⟩ ?_
      refine aw_cvi (as := [(0, 7)]) (st := []) (M := M_X11_fetch) (pc := 31) (f_X11_refused  hF) dX11_fetch_31 rfl (Or.inl ⟨_, _, _, rfl, rfl⟩) cy_X11_refused ml_X11_163 (by decide) (by decide) (Nat.le_of_ble_eq_true rfl) (fun r13 h12 hF => ?_)
      exact aw_ireti (M := M_X11_fetch) (pc := 34) dX11_fetch_34 rfl ⟨_, rfl, hF⟩
  · have hF := hF.2 hc
    refine aw_aload_n (j := 0) (M := M_X11_fetch) (pc := 8) dX11_fetch_8 rfl rfl ?_
    refine aw_iconst (M := M_X11_fetch) (pc := 9) dX11_fetch_9 ⟨by decide, by decide⟩ ?_
    refine aw_cvi (as := [(0, 1)]) (st := []) (M := M_X11_fetch) (pc := 10) (f_X11_refused  hF) dX11_fetch_10 rfl (Or.inl ⟨_, _, _, rfl, rfl⟩) cy_X11_refused ml_X11_163 (by decide) (by decide) (Nat.le_of_ble_eq_true rfl) (fun r15 h14 hF => ?_)
    exact aw_ireti (M := M_X11_fetch) (pc := 13) dX11_fetch_13 rfl ⟨_, rfl, hF⟩
abbrev M_X11_game : Hd := (cX11_game, 4, RX11, (some .int), (8, 212), sc0)
def F_X11_game (h : Mem) (a1 : Int) (a2 : Int) (a3 : Int) (Q : Int → Mem → Prop) : Prop :=
  (F_X11_isMill h a1 (fun r2 h1 => ((r2 = 0 → (F_X11_refused h1 1 (fun r4 h3 => Q r4 h3))) ∧ (¬ (r2 = 0) → (F_X11_isMill h1 a2 (fun r6 h5 => ((r6 = 0 → (F_X11_refused h5 1 (fun r8 h7 => Q r8 h7))) ∧ (¬ (r6 = 0) → ((a1 = a2 → (F_X11_refused h5 1 (fun r10 h9 => Q r10 h9))) ∧ (¬ (a1 = a2) → (F_X11_outside h5 a3 0 2 (fun r12 h11 => ((r12 = 0 → (F_X3_play h11 12 a1 a2 a3 (fun h13 => (F_X11_given h13 (h13 47 0) (fun r16 h15 => Q r16 h15))))) ∧ (¬ (r12 = 0) → (F_X11_refused h11 1 (fun r18 h17 => Q r18 h17))))))))))))))))
set_option maxRecDepth 100000 in
set_option maxHeartbeats 4000000 in
theorem f_X11_game {h : Mem} {a1 : Int} {a2 : Int} {a3 : Int} {Q : Int → Mem → Prop}  (hF : F_X11_game h a1 a2 a3 Q) : Ct yX11_game cX11_game 4 (some .int) (8, 212) [vr 0, (0, a1), (0, a2), (0, a3)] h (qi Q) := by
  refine Ct.of np_RX11 (Nat.le_of_ble_eq_true rfl) ?_
  unfold F_X11_game at hF
  show AW M_X11_game 0 [(0, vr 0), (1, (0, a1)), (2, (0, a2)), (3, (0, a3))] [] h (qi Q)
  refine aw_aload_n (j := 0) (M := M_X11_game) (pc := 0) dX11_game_0 rfl rfl ?_
  refine aw_iload_n (j := 1) (M := M_X11_game) (pc := 1) dX11_game_1 rfl rfl ?_
  refine aw_cvi (as := [(0, a1)]) (st := []) (M := M_X11_game) (pc := 2) (f_X11_isMill  hF) dX11_game_2 rfl (Or.inl ⟨_, _, _, rfl, rfl⟩) cy_X11_isMill ml_X11_282 (by decide) (by decide) (Nat.le_of_ble_eq_true rfl) (fun r2 h1 hF => ?_)
  refine aw_if_eq (tgt := 30) (M := M_X11_game) (pc := 5) dX11_game_5 rfl (fun hc => ?_) (fun hc => ?_)
  · have hF := hF.1 hc
    refine aw_aload_n (j := 0) (M := M_X11_game) (pc := 30) dX11_game_30 rfl rfl ?_
    refine aw_iconst (M := M_X11_game) (pc := 31) dX11_game_31 ⟨by decide, by decide⟩ ?_
    refine aw_cvi (as := [(0, 1)]) (st := []) (M := M_X11_game) (pc := 32) (f_X11_refused  hF) dX11_game_32 rfl (Or.inl ⟨_, _, _, rfl, rfl⟩) cy_X11_refused ml_X11_163 (by decide) (by decide) (Nat.le_of_ble_eq_true rfl) (fun r4 h3 hF => ?_)
    exact aw_ireti (M := M_X11_game) (pc := 35) dX11_game_35 rfl ⟨_, rfl, hF⟩
  · have hF := hF.2 hc
    refine aw_aload_n (j := 0) (M := M_X11_game) (pc := 8) dX11_game_8 rfl rfl ?_
    refine aw_iload_n (j := 2) (M := M_X11_game) (pc := 9) dX11_game_9 rfl rfl ?_
    refine aw_cvi (as := [(0, a2)]) (st := []) (M := M_X11_game) (pc := 10) (f_X11_isMill  hF) dX11_game_10 rfl (Or.inl ⟨_, _, _, rfl, rfl⟩) cy_X11_isMill ml_X11_282 (by decide) (by decide) (Nat.le_of_ble_eq_true rfl) (fun r6 h5 hF => ?_)
    refine aw_if_eq (tgt := 30) (M := M_X11_game) (pc := 13) dX11_game_13 rfl (fun hc => ?_) (fun hc => ?_)
    · have hF := hF.1 hc
      refine aw_aload_n (j := 0) (M := M_X11_game) (pc := 30) dX11_game_30 rfl rfl ?_
      refine aw_iconst (M := M_X11_game) (pc := 31) dX11_game_31 ⟨by decide, by decide⟩ ?_
      refine aw_cvi (as := [(0, 1)]) (st := []) (M := M_X11_game) (pc := 32) (f_X11_refused  hF) dX11_game_32 rfl (Or.inl ⟨_, _, _, rfl, rfl⟩) cy_X11_refused ml_X11_163 (by decide) (by decide) (Nat.le_of_ble_eq_true rfl) (fun r8 h7 hF => ?_)
      exact aw_ireti (M := M_X11_game) (pc := 35) dX11_game_35 rfl ⟨_, rfl, hF⟩
    · have hF := hF.2 hc
      refine aw_iload_n (j := 1) (M := M_X11_game) (pc := 16) dX11_game_16 rfl rfl ?_
      refine aw_iload_n (j := 2) (M := M_X11_game) (pc := 17) dX11_game_17 rfl rfl ?_
      refine aw_icmp_eq (tgt := 30) (M := M_X11_game) (pc := 18) dX11_game_18 rfl (fun hc => ?_) (fun hc => ?_)
      · have hF := hF.1 hc
        refine aw_aload_n (j := 0) (M := M_X11_game) (pc := 30) dX11_game_30 rfl rfl ?_
        refine aw_iconst (M := M_X11_game) (pc := 31) dX11_game_31 ⟨by decide, by decide⟩ ?_
        refine aw_cvi (as := [(0, 1)]) (st := []) (M := M_X11_game) (pc := 32) (f_X11_refused  hF) dX11_game_32 rfl (Or.inl ⟨_, _, _, rfl, rfl⟩) cy_X11_refused ml_X11_163 (by decide) (by decide) (Nat.le_of_ble_eq_true rfl) (fun r10 h9 hF => ?_)
        exact aw_ireti (M := M_X11_game) (pc := 35) dX11_game_35 rfl ⟨_, rfl, hF⟩
      · have hF := hF.2 hc
        refine aw_iload_n (j := 3) (M := M_X11_game) (pc := 21) dX11_game_21 rfl rfl ?_
        refine aw_iconst (M := M_X11_game) (pc := 22) dX11_game_22 ⟨by decide, by decide⟩ ?_
        refine aw_iconst (M := M_X11_game) (pc := 23) dX11_game_23 ⟨by decide, by decide⟩ ?_
        refine aw_csi (as := [(0, a3), (0, 0), (0, 2)]) (st := []) (M := M_X11_game) (pc := 24) (f_X11_outside  hF) dX11_game_24 rfl cy_X11_outside ml_X11_105 (by decide) (by decide) (Nat.le_of_ble_eq_true rfl) (fun r12 h11 hF => ?_)
        refine aw_if_eq (tgt := 36) (M := M_X11_game) (pc := 27) dX11_game_27 rfl (fun hc => ?_) (fun hc => ?_)
        · have hF := hF.1 hc
          refine aw_aload_n (j := 0) (M := M_X11_game) (pc := 36) dX11_game_36 rfl rfl ?_
          refine gf_X11_71 (M := M_X11_game) (pc := 37) rfl dX11_game_37 rfl (r := 47) rfl ?_
          refine aw_aload_n (j := 0) (M := M_X11_game) (pc := 40) dX11_game_40 rfl rfl ?_
          refine gf_X11_33 (M := M_X11_game) (pc := 41) rfl dX11_game_41 rfl (r := 12) rfl ?_
          refine aw_iload_n (j := 1) (M := M_X11_game) (pc := 44) dX11_game_44 rfl rfl ?_
          refine aw_iload_n (j := 2) (M := M_X11_game) (pc := 45) dX11_game_45 rfl rfl ?_
          refine aw_iload_n (j := 3) (M := M_X11_game) (pc := 46) dX11_game_46 rfl rfl ?_
          refine aw_cvv (as := [vr 12, (0, a1), (0, a2), (0, a3)]) (st := []) (M := M_X11_game) (pc := 47) (f_X3_play rfl hF) dX11_game_47 rfl (Or.inl ⟨_, _, _, rfl, rfl⟩) cy_X3_play ml_X11_384 (by decide) (by decide) (Nat.le_of_ble_eq_true rfl) (fun h13 hF => ?_)
          refine aw_aload_n (j := 0) (M := M_X11_game) (pc := 50) dX11_game_50 rfl rfl ?_
          refine aw_aload_n (j := 0) (M := M_X11_game) (pc := 51) dX11_game_51 rfl rfl ?_
          refine gf_X11_71 (M := M_X11_game) (pc := 52) rfl dX11_game_52 rfl (r := 47) rfl ?_
          refine gf_X11_388 (M := M_X11_game) (pc := 55) rfl dX11_game_55 rfl ?_
          refine aw_cvi (as := [(0, h13 47 0)]) (st := []) (M := M_X11_game) (pc := 58) (f_X11_given  hF) dX11_game_58 rfl (Or.inl ⟨_, _, _, rfl, rfl⟩) cy_X11_given ml_X11_193 (by decide) (by decide) (Nat.le_of_ble_eq_true rfl) (fun r16 h15 hF => ?_)
          exact aw_ireti (M := M_X11_game) (pc := 61) dX11_game_61 rfl ⟨_, rfl, hF⟩
        · have hF := hF.2 hc
          refine aw_aload_n (j := 0) (M := M_X11_game) (pc := 30) dX11_game_30 rfl rfl ?_
          refine aw_iconst (M := M_X11_game) (pc := 31) dX11_game_31 ⟨by decide, by decide⟩ ?_
          refine aw_cvi (as := [(0, 1)]) (st := []) (M := M_X11_game) (pc := 32) (f_X11_refused  hF) dX11_game_32 rfl (Or.inl ⟨_, _, _, rfl, rfl⟩) cy_X11_refused ml_X11_163 (by decide) (by decide) (Nat.le_of_ble_eq_true rfl) (fun r18 h17 hF => ?_)
          exact aw_ireti (M := M_X11_game) (pc := 35) dX11_game_35 rfl ⟨_, rfl, hF⟩
abbrev M_X11_glen : Hd := (cX11_glen, 2, RX11, (some .int), (8, 203), sc0)
def F_X11_glen (h : Mem) (a1 : Int) (Q : Int → Mem → Prop) : Prop :=
  (F_X11_outside h a1 0 (h 9 1) (fun r2 h1 => ((r2 = 0 → (F_X8_open h1 a1 (fun h3 => (F_X5_readInto h3 146 (fun h5 => (((h5 9 9) = 0 → (F_X4_copyFrom h5 12 146 (fun h7 => (F_X1_clear h7 27 (fun h9 => (F_X11_given h9 (h9 13 0) (fun r12 h11 => Q r12 h11))))))) ∧ (¬ ((h5 9 9) = 0) → (F_X11_refused h5 9 (fun r14 h13 => Q r14 h13))))))))) ∧ (¬ (r2 = 0) → (F_X11_refused h1 1 (fun r16 h15 => Q r16 h15))))))
set_option maxRecDepth 100000 in
set_option maxHeartbeats 4000000 in
theorem f_X11_glen {h : Mem} {a1 : Int} {Q : Int → Mem → Prop}  (hF : F_X11_glen h a1 Q) : Ct yX11_glen cX11_glen 2 (some .int) (8, 203) [vr 0, (0, a1)] h (qi Q) := by
  refine Ct.of np_RX11 (Nat.le_of_ble_eq_true rfl) ?_
  unfold F_X11_glen at hF
  show AW M_X11_glen 0 [(0, vr 0), (1, (0, a1))] [] h (qi Q)
  refine aw_iload_n (j := 1) (M := M_X11_glen) (pc := 0) dX11_glen_0 rfl rfl ?_
  refine aw_iconst (M := M_X11_glen) (pc := 1) dX11_glen_1 ⟨by decide, by decide⟩ ?_
  refine aw_aload_n (j := 0) (M := M_X11_glen) (pc := 2) dX11_glen_2 rfl rfl ?_
  refine gf_X11_26 (M := M_X11_glen) (pc := 3) rfl dX11_glen_3 rfl (r := 9) rfl ?_
  refine gf_X11_160 (M := M_X11_glen) (pc := 6) rfl dX11_glen_6 rfl ?_
  refine aw_csi (as := [(0, a1), (0, 0), (0, h 9 1)]) (st := []) (M := M_X11_glen) (pc := 9) (f_X11_outside  hF) dX11_glen_9 rfl cy_X11_outside ml_X11_105 (by decide) (by decide) (Nat.le_of_ble_eq_true rfl) (fun r2 h1 hF => ?_)
  refine aw_if_eq (tgt := 21) (M := M_X11_glen) (pc := 12) dX11_glen_12 rfl (fun hc => ?_) (fun hc => ?_)
  · have hF := hF.1 hc
    refine aw_aload_n (j := 0) (M := M_X11_glen) (pc := 21) dX11_glen_21 rfl rfl ?_
    refine gf_X11_26 (M := M_X11_glen) (pc := 22) rfl dX11_glen_22 rfl (r := 9) rfl ?_
    refine aw_iload_n (j := 1) (M := M_X11_glen) (pc := 25) dX11_glen_25 rfl rfl ?_
    refine aw_cvv (as := [(0, a1)]) (st := []) (M := M_X11_glen) (pc := 26) (f_X8_open  hF) dX11_glen_26 rfl (Or.inl ⟨_, _, _, rfl, rfl⟩) cy_X8_open ml_X11_167 (by decide) (by decide) (Nat.le_of_ble_eq_true rfl) (fun h3 hF => ?_)
    refine aw_aload_n (j := 0) (M := M_X11_glen) (pc := 29) dX11_glen_29 rfl rfl ?_
    refine gf_X11_50 (M := M_X11_glen) (pc := 30) rfl dX11_glen_30 rfl (r := 33) rfl ?_
    refine aw_aload_n (j := 0) (M := M_X11_glen) (pc := 33) dX11_glen_33 rfl rfl ?_
    refine gf_X11_44 (M := M_X11_glen) (pc := 34) rfl dX11_glen_34 rfl (r := 146) rfl ?_
    refine aw_aload_n (j := 0) (M := M_X11_glen) (pc := 37) dX11_glen_37 rfl rfl ?_
    refine gf_X11_26 (M := M_X11_glen) (pc := 38) rfl dX11_glen_38 rfl (r := 9) rfl ?_
    refine aw_cvv (as := [vr 146, vr 9]) (st := []) (M := M_X11_glen) (pc := 41) (f_X5_readInto rfl hF) dX11_glen_41 rfl (Or.inl ⟨_, _, _, rfl, rfl⟩) cy_X5_readInto ml_X11_170 (by decide) (by decide) (Nat.le_of_ble_eq_true rfl) (fun h5 hF => ?_)
    refine aw_aload_n (j := 0) (M := M_X11_glen) (pc := 44) dX11_glen_44 rfl rfl ?_
    refine gf_X11_26 (M := M_X11_glen) (pc := 45) rfl dX11_glen_45 rfl (r := 9) rfl ?_
    refine gf_X11_174 (M := M_X11_glen) (pc := 48) rfl dX11_glen_48 rfl ?_
    refine aw_if_eq (tgt := 61) (M := M_X11_glen) (pc := 51) dX11_glen_51 rfl (fun hc => ?_) (fun hc => ?_)
    · have hF := hF.1 hc
      refine aw_aload_n (j := 0) (M := M_X11_glen) (pc := 61) dX11_glen_61 rfl rfl ?_
      refine gf_X11_33 (M := M_X11_glen) (pc := 62) rfl dX11_glen_62 rfl (r := 12) rfl ?_
      refine aw_aload_n (j := 0) (M := M_X11_glen) (pc := 65) dX11_glen_65 rfl rfl ?_
      refine gf_X11_44 (M := M_X11_glen) (pc := 66) rfl dX11_glen_66 rfl (r := 146) rfl ?_
      refine aw_cvv (as := [vr 146]) (st := []) (M := M_X11_glen) (pc := 69) (f_X4_copyFrom rfl rfl hF) dX11_glen_69 rfl (Or.inl ⟨_, _, _, rfl, rfl⟩) cy_X4_copyFrom ml_X11_177 (by decide) (by decide) (Nat.le_of_ble_eq_true rfl) (fun h7 hF => ?_)
      refine aw_aload_n (j := 0) (M := M_X11_glen) (pc := 72) dX11_glen_72 rfl rfl ?_
      refine gf_X11_40 (M := M_X11_glen) (pc := 73) rfl dX11_glen_73 rfl (r := 27) rfl ?_
      refine aw_cvv (as := []) (st := []) (M := M_X11_glen) (pc := 76) (f_X1_clear rfl hF) dX11_glen_76 rfl (Or.inl ⟨_, _, _, rfl, rfl⟩) cy_X1_clear ml_X11_181 (by decide) (by decide) (Nat.le_of_ble_eq_true rfl) (fun h9 hF => ?_)
      refine aw_aload_n (j := 0) (M := M_X11_glen) (pc := 79) dX11_glen_79 rfl rfl ?_
      refine aw_aload_n (j := 0) (M := M_X11_glen) (pc := 80) dX11_glen_80 rfl rfl ?_
      refine gf_X11_33 (M := M_X11_glen) (pc := 81) rfl dX11_glen_81 rfl (r := 12) rfl ?_
      refine gf_X11_184 (M := M_X11_glen) (pc := 84) rfl dX11_glen_84 rfl (r := 13) rfl ?_
      refine gf_X11_188 (M := M_X11_glen) (pc := 87) rfl dX11_glen_87 rfl ?_
      refine aw_cvi (as := [(0, h9 13 0)]) (st := []) (M := M_X11_glen) (pc := 90) (f_X11_given  hF) dX11_glen_90 rfl (Or.inl ⟨_, _, _, rfl, rfl⟩) cy_X11_given ml_X11_193 (by decide) (by decide) (Nat.le_of_ble_eq_true rfl) (fun r12 h11 hF => ?_)
      exact aw_ireti (M := M_X11_glen) (pc := 93) dX11_glen_93 rfl ⟨_, rfl, hF⟩
    · have hF := hF.2 hc
      refine aw_aload_n (j := 0) (M := M_X11_glen) (pc := 54) dX11_glen_54 rfl rfl ?_
      refine aw_bipush (M := M_X11_glen) (pc := 55) dX11_glen_55 ⟨rfl, ⟨by decide, by decide⟩⟩ ?_
      refine aw_cvi (as := [(0, 9)]) (st := []) (M := M_X11_glen) (pc := 57) (f_X11_refused  hF) dX11_glen_57 rfl (Or.inl ⟨_, _, _, rfl, rfl⟩) cy_X11_refused ml_X11_163 (by decide) (by decide) (Nat.le_of_ble_eq_true rfl) (fun r14 h13 hF => ?_)
      exact aw_ireti (M := M_X11_glen) (pc := 60) dX11_glen_60 rfl ⟨_, rfl, hF⟩
  · have hF := hF.2 hc
    refine aw_aload_n (j := 0) (M := M_X11_glen) (pc := 15) dX11_glen_15 rfl rfl ?_
    refine aw_iconst (M := M_X11_glen) (pc := 16) dX11_glen_16 ⟨by decide, by decide⟩ ?_
    refine aw_cvi (as := [(0, 1)]) (st := []) (M := M_X11_glen) (pc := 17) (f_X11_refused  hF) dX11_glen_17 rfl (Or.inl ⟨_, _, _, rfl, rfl⟩) cy_X11_refused ml_X11_163 (by decide) (by decide) (Nat.le_of_ble_eq_true rfl) (fun r16 h15 hF => ?_)
    exact aw_ireti (M := M_X11_glen) (pc := 20) dX11_glen_20 rfl ⟨_, rfl, hF⟩
abbrev M_X11_goal : Hd := (cX11_goal, 1, RX11, (some .int), (2, 68), sc0)
def F_X11_goal (h : Mem)  (Q : Int → Mem → Prop) : Prop :=
  (F_X9_longestRemembered h 13 (fun r2 h1 => (F_X4_goalCell h1 12 r2 (fun r4 h3 => (F_X11_given h3 r4 (fun r6 h5 => Q r6 h5))))))
set_option maxRecDepth 100000 in
set_option maxHeartbeats 4000000 in
theorem f_X11_goal {h : Mem}  {Q : Int → Mem → Prop}  (hF : F_X11_goal h  Q) : Ct yX11_goal cX11_goal 1 (some .int) (2, 68) [vr 0] h (qi Q) := by
  refine Ct.of np_RX11 (Nat.le_of_ble_eq_true rfl) ?_
  unfold F_X11_goal at hF
  show AW M_X11_goal 0 [(0, vr 0)] [] h (qi Q)
  refine aw_aload_n (j := 0) (M := M_X11_goal) (pc := 0) dX11_goal_0 rfl rfl ?_
  refine aw_aload_n (j := 0) (M := M_X11_goal) (pc := 1) dX11_goal_1 rfl rfl ?_
  refine gf_X11_33 (M := M_X11_goal) (pc := 2) rfl dX11_goal_2 rfl (r := 12) rfl ?_
  refine aw_aload_n (j := 0) (M := M_X11_goal) (pc := 5) dX11_goal_5 rfl rfl ?_
  refine gf_X11_33 (M := M_X11_goal) (pc := 6) rfl dX11_goal_6 rfl (r := 12) rfl ?_
  refine gf_X11_184 (M := M_X11_goal) (pc := 9) rfl dX11_goal_9 rfl (r := 13) rfl ?_
  refine aw_cvi (as := []) (st := [vr 12, vr 0]) (M := M_X11_goal) (pc := 12) (f_X9_longestRemembered rfl hF) dX11_goal_12 rfl (Or.inl ⟨_, _, _, rfl, rfl⟩) cy_X9_longestRemembered ml_X11_292 (by decide) (by decide) (Nat.le_of_ble_eq_true rfl) (fun r2 h1 hF => ?_)
  refine aw_cvi (as := [(0, r2)]) (st := [vr 0]) (M := M_X11_goal) (pc := 15) (f_X4_goalCell rfl hF) dX11_goal_15 rfl (Or.inl ⟨_, _, _, rfl, rfl⟩) cy_X4_goalCell ml_X11_295 (by decide) (by decide) (Nat.le_of_ble_eq_true rfl) (fun r4 h3 hF => ?_)
  refine aw_cvi (as := [(0, r4)]) (st := []) (M := M_X11_goal) (pc := 18) (f_X11_given  hF) dX11_goal_18 rfl (Or.inl ⟨_, _, _, rfl, rfl⟩) cy_X11_given ml_X11_193 (by decide) (by decide) (Nat.le_of_ble_eq_true rfl) (fun r6 h5 hF => ?_)
  exact aw_ireti (M := M_X11_goal) (pc := 21) dX11_goal_21 rfl ⟨_, rfl, hF⟩
abbrev M_X11_goalThing : Hd := (cX11_goalThing, 2, RX11, (some .int), (2, 68), sc0)
def F_X11_goalThing (h : Mem)  (Q : Int → Mem → Prop) : Prop :=
  (F_X9_longestRemembered h 13 (fun r2 h1 => ((¬ (r2 = (-1)) → (F_X11_given h1 r2 (fun r4 h3 => Q r4 h3))) ∧ (r2 = (-1) → (F_X11_refused h1 6 (fun r6 h5 => Q r6 h5))))))
set_option maxRecDepth 100000 in
set_option maxHeartbeats 4000000 in
theorem f_X11_goalThing {h : Mem}  {Q : Int → Mem → Prop}  (hF : F_X11_goalThing h  Q) : Ct yX11_goalThing cX11_goalThing 2 (some .int) (2, 68) [vr 0] h (qi Q) := by
  refine Ct.of np_RX11 (Nat.le_of_ble_eq_true rfl) ?_
  unfold F_X11_goalThing at hF
  show AW M_X11_goalThing 0 [(0, vr 0)] [] h (qi Q)
  refine aw_aload_n (j := 0) (M := M_X11_goalThing) (pc := 0) dX11_goalThing_0 rfl rfl ?_
  refine gf_X11_33 (M := M_X11_goalThing) (pc := 1) rfl dX11_goalThing_1 rfl (r := 12) rfl ?_
  refine gf_X11_184 (M := M_X11_goalThing) (pc := 4) rfl dX11_goalThing_4 rfl (r := 13) rfl ?_
  refine aw_cvi (as := []) (st := []) (M := M_X11_goalThing) (pc := 7) (f_X9_longestRemembered rfl hF) dX11_goalThing_7 rfl (Or.inl ⟨_, _, _, rfl, rfl⟩) cy_X9_longestRemembered ml_X11_292 (by decide) (by decide) (Nat.le_of_ble_eq_true rfl) (fun r2 h1 hF => ?_)
  refine aw_istore_n (ls' := [(1, (0, r2)), (0, vr 0)]) (M := M_X11_goalThing) (pc := 10) dX11_goalThing_10 rfl (by decide) rfl ?_
  refine aw_iload_n (j := 0) (M := M_X11_goalThing) (pc := 11) dX11_goalThing_11 rfl rfl ?_
  refine aw_iconst (M := M_X11_goalThing) (pc := 12) dX11_goalThing_12 ⟨by decide, by decide⟩ ?_
  refine aw_icmp_ne (tgt := 25) (M := M_X11_goalThing) (pc := 13) dX11_goalThing_13 rfl (fun hc => ?_) (fun hc => ?_)
  · have hF := hF.1 hc
    refine aw_aload_n (j := 1) (M := M_X11_goalThing) (pc := 25) dX11_goalThing_25 rfl rfl ?_
    refine aw_iload_n (j := 0) (M := M_X11_goalThing) (pc := 26) dX11_goalThing_26 rfl rfl ?_
    refine aw_cvi (as := [(0, r2)]) (st := []) (M := M_X11_goalThing) (pc := 27) (f_X11_given  hF) dX11_goalThing_27 rfl (Or.inl ⟨_, _, _, rfl, rfl⟩) cy_X11_given ml_X11_193 (by decide) (by decide) (Nat.le_of_ble_eq_true rfl) (fun r4 h3 hF => ?_)
    exact aw_ireti (M := M_X11_goalThing) (pc := 30) dX11_goalThing_30 rfl ⟨_, rfl, hF⟩
  · have hF := hF.2 hc
    refine aw_aload_n (j := 1) (M := M_X11_goalThing) (pc := 16) dX11_goalThing_16 rfl rfl ?_
    refine aw_bipush (M := M_X11_goalThing) (pc := 17) dX11_goalThing_17 ⟨rfl, ⟨by decide, by decide⟩⟩ ?_
    refine aw_cvi (as := [(0, 6)]) (st := []) (M := M_X11_goalThing) (pc := 19) (f_X11_refused  hF) dX11_goalThing_19 rfl (Or.inl ⟨_, _, _, rfl, rfl⟩) cy_X11_refused ml_X11_163 (by decide) (by decide) (Nat.le_of_ble_eq_true rfl) (fun r6 h5 hF => ?_)
    refine aw_goto (tgt := 30) (M := M_X11_goalThing) (pc := 22) dX11_goalThing_22 rfl ?_
    exact aw_ireti (M := M_X11_goalThing) (pc := 30) dX11_goalThing_30 rfl ⟨_, rfl, hF⟩
abbrev M_X11_refuse : Hd := (cX11_refuse, 2, RX11, (some .boolean), (1, 45), sc0)
def F_X11_refuse (h : Mem) (a1 : Int) (Q : Int → Mem → Prop) : Prop :=
  (∀ h1 : Mem, h1 = mset h 0 0 a1 → Q 0 h1)
set_option maxRecDepth 100000 in
set_option maxHeartbeats 4000000 in
theorem f_X11_refuse {h : Mem} {a1 : Int} {Q : Int → Mem → Prop}  (hF : F_X11_refuse h a1 Q) : Ct yX11_refuse cX11_refuse 2 (some .boolean) (1, 45) [vr 0, (0, a1)] h (qi Q) := by
  refine Ct.of np_RX11 (Nat.le_of_ble_eq_true rfl) ?_
  unfold F_X11_refuse at hF
  show AW M_X11_refuse 0 [(0, vr 0), (1, (0, a1))] [] h (qi Q)
  refine aw_aload_n (j := 0) (M := M_X11_refuse) (pc := 0) dX11_refuse_0 rfl rfl ?_
  refine aw_iload_n (j := 1) (M := M_X11_refuse) (pc := 1) dX11_refuse_1 rfl rfl ?_
  refine pf_X11_102 (M := M_X11_refuse) (pc := 2) rfl dX11_refuse_2 rfl ?_
  obtain ⟨h1, eh1⟩ : ∃ y : Mem, y = mset h 0 0 a1 := ⟨_, rfl⟩
  have hF := hF h1 eh1
  rw [← eh1]
  refine aw_iconst (M := M_X11_refuse) (pc := 5) dX11_refuse_5 ⟨by decide, by decide⟩ ?_
  exact aw_iretz (M := M_X11_refuse) (pc := 6) dX11_refuse_6 rfl (Or.inl rfl) ⟨_, rfl, hF⟩
abbrev M_X11_grip : Hd := (cX11_grip, 3, RX11, (some .boolean), (2, 67), sc0)
def F_X11_grip (h : Mem) (a1 : Int) (a2 : Int) (Q : Int → Mem → Prop) : Prop :=
  (F_X11_isThing h a1 (fun r2 h1 => ((r2 = 0 → (F_X11_refuse h1 1 (fun r4 h3 => (InZ r4 ∧ Q r4 h3)))) ∧ (¬ (r2 = 0) → (F_X11_outside h1 a2 1 24 (fun r6 h5 => ((r6 = 0 → ((0 ≤ a1 ∧ a1 < 8) ∧ (∀ h8 : Mem, h8 = mset h5 16 (a1).toNat a2 → (F_X11_accept h8  (fun r10 h9 => (InZ r10 ∧ Q r10 h9)))))) ∧ (¬ (r6 = 0) → (F_X11_refuse h5 1 (fun r12 h11 => (InZ r12 ∧ Q r12 h11)))))))))))
set_option maxRecDepth 100000 in
set_option maxHeartbeats 4000000 in
theorem f_X11_grip {h : Mem} {a1 : Int} {a2 : Int} {Q : Int → Mem → Prop}  (hF : F_X11_grip h a1 a2 Q) : Ct yX11_grip cX11_grip 3 (some .boolean) (2, 67) [vr 0, (0, a1), (0, a2)] h (qi Q) := by
  refine Ct.of np_RX11 (Nat.le_of_ble_eq_true rfl) ?_
  unfold F_X11_grip at hF
  show AW M_X11_grip 0 [(0, vr 0), (1, (0, a1)), (2, (0, a2))] [] h (qi Q)
  refine aw_aload_n (j := 0) (M := M_X11_grip) (pc := 0) dX11_grip_0 rfl rfl ?_
  refine aw_iload_n (j := 1) (M := M_X11_grip) (pc := 1) dX11_grip_1 rfl rfl ?_
  refine aw_cvi (as := [(0, a1)]) (st := []) (M := M_X11_grip) (pc := 2) (f_X11_isThing  hF) dX11_grip_2 rfl (Or.inl ⟨_, _, _, rfl, rfl⟩) cy_X11_isThing ml_X11_252 (by decide) (by decide) (Nat.le_of_ble_eq_true rfl) (fun r2 h1 hF => ?_)
  refine aw_if_eq (tgt := 18) (M := M_X11_grip) (pc := 5) dX11_grip_5 rfl (fun hc => ?_) (fun hc => ?_)
  · have hF := hF.1 hc
    refine aw_aload_n (j := 0) (M := M_X11_grip) (pc := 18) dX11_grip_18 rfl rfl ?_
    refine aw_iconst (M := M_X11_grip) (pc := 19) dX11_grip_19 ⟨by decide, by decide⟩ ?_
    refine aw_cvi (as := [(0, 1)]) (st := []) (M := M_X11_grip) (pc := 20) (f_X11_refuse  hF) dX11_grip_20 rfl (Or.inl ⟨_, _, _, rfl, rfl⟩) cy_X11_refuse ml_X11_109 (by decide) (by decide) (Nat.le_of_ble_eq_true rfl) (fun r4 h3 hF => ?_)
    exact aw_iretz (M := M_X11_grip) (pc := 23) dX11_grip_23 rfl hF.1 ⟨_, rfl, hF.2⟩
  · have hF := hF.2 hc
    refine aw_iload_n (j := 2) (M := M_X11_grip) (pc := 8) dX11_grip_8 rfl rfl ?_
    refine aw_iconst (M := M_X11_grip) (pc := 9) dX11_grip_9 ⟨by decide, by decide⟩ ?_
    refine aw_bipush (M := M_X11_grip) (pc := 10) dX11_grip_10 ⟨rfl, ⟨by decide, by decide⟩⟩ ?_
    refine aw_csi (as := [(0, a2), (0, 1), (0, 24)]) (st := []) (M := M_X11_grip) (pc := 12) (f_X11_outside  hF) dX11_grip_12 rfl cy_X11_outside ml_X11_105 (by decide) (by decide) (Nat.le_of_ble_eq_true rfl) (fun r6 h5 hF => ?_)
    refine aw_if_eq (tgt := 24) (M := M_X11_grip) (pc := 15) dX11_grip_15 rfl (fun hc => ?_) (fun hc => ?_)
    · have hF := hF.1 hc
      refine aw_aload_n (j := 0) (M := M_X11_grip) (pc := 24) dX11_grip_24 rfl rfl ?_
      refine gf_X11_33 (M := M_X11_grip) (pc := 25) rfl dX11_grip_25 rfl (r := 12) rfl ?_
      refine gf_X11_184 (M := M_X11_grip) (pc := 28) rfl dX11_grip_28 rfl (r := 13) rfl ?_
      refine gf_X11_258 (M := M_X11_grip) (pc := 31) rfl dX11_grip_31 rfl (r := 16) rfl ?_
      refine aw_iload_n (j := 1) (M := M_X11_grip) (pc := 34) dX11_grip_34 rfl rfl ?_
      refine aw_iload_n (j := 2) (M := M_X11_grip) (pc := 35) dX11_grip_35 rfl rfl ?_
      obtain ⟨o7, hF⟩ := hF
      refine aw_iast (k := (a1).toNat) (M := M_X11_grip) (pc := 36) dX11_grip_36 rfl o7 rfl ?_
      obtain ⟨h8, eh8⟩ : ∃ y : Mem, y = mset h5 16 (a1).toNat a2 := ⟨_, rfl⟩
      have hF := hF h8 eh8
      rw [← eh8]
      refine aw_aload_n (j := 0) (M := M_X11_grip) (pc := 37) dX11_grip_37 rfl rfl ?_
      refine aw_cvi (as := []) (st := []) (M := M_X11_grip) (pc := 38) (f_X11_accept  hF) dX11_grip_38 rfl (Or.inl ⟨_, _, _, rfl, rfl⟩) cy_X11_accept ml_X11_117 (by decide) (by decide) (Nat.le_of_ble_eq_true rfl) (fun r10 h9 hF => ?_)
      exact aw_iretz (M := M_X11_grip) (pc := 41) dX11_grip_41 rfl hF.1 ⟨_, rfl, hF.2⟩
    · have hF := hF.2 hc
      refine aw_aload_n (j := 0) (M := M_X11_grip) (pc := 18) dX11_grip_18 rfl rfl ?_
      refine aw_iconst (M := M_X11_grip) (pc := 19) dX11_grip_19 ⟨by decide, by decide⟩ ?_
      refine aw_cvi (as := [(0, 1)]) (st := []) (M := M_X11_grip) (pc := 20) (f_X11_refuse  hF) dX11_grip_20 rfl (Or.inl ⟨_, _, _, rfl, rfl⟩) cy_X11_refuse ml_X11_109 (by decide) (by decide) (Nat.le_of_ble_eq_true rfl) (fun r12 h11 hF => ?_)
      exact aw_iretz (M := M_X11_grip) (pc := 23) dX11_grip_23 rfl hF.1 ⟨_, rfl, hF.2⟩
abbrev M_X11_groundIn : Hd := (cX11_groundIn, 3, RX11, (some .int), (5, 139), sc0)
def F_X11_groundIn (h : Mem) (a1 : Int) (a2 : Int) (Q : Int → Mem → Prop) : Prop :=
  (F_X11_isMill h a1 (fun r2 h1 => ((r2 = 0 → (F_X11_refused h1 1 (fun r4 h3 => Q r4 h3))) ∧ (¬ (r2 = 0) → (F_X11_outside h1 a2 0 400 (fun r6 h5 => ((r6 = 0 → (F_X4_copyFrom h5 146 12 (fun h7 => (F_X4_passHours h7 146 a2 (fun r10 h9 => ((0 ≤ a1 ∧ a1 < 4) ∧ (InR ((h9 160 (a1).toNat) - (h9 26 (a1).toNat)) ∧ (F_X11_given h9 ((h9 160 (a1).toNat) - (h9 26 (a1).toNat)) (fun r16 h15 => Q r16 h15))))))))) ∧ (¬ (r6 = 0) → (F_X11_refused h5 1 (fun r18 h17 => Q r18 h17))))))))))
set_option maxRecDepth 100000 in
set_option maxHeartbeats 4000000 in
theorem f_X11_groundIn {h : Mem} {a1 : Int} {a2 : Int} {Q : Int → Mem → Prop}  (hF : F_X11_groundIn h a1 a2 Q) : Ct yX11_groundIn cX11_groundIn 3 (some .int) (5, 139) [vr 0, (0, a1), (0, a2)] h (qi Q) := by
  refine Ct.of np_RX11 (Nat.le_of_ble_eq_true rfl) ?_
  unfold F_X11_groundIn at hF
  show AW M_X11_groundIn 0 [(0, vr 0), (1, (0, a1)), (2, (0, a2))] [] h (qi Q)
  refine aw_aload_n (j := 0) (M := M_X11_groundIn) (pc := 0) dX11_groundIn_0 rfl rfl ?_
  refine aw_iload_n (j := 1) (M := M_X11_groundIn) (pc := 1) dX11_groundIn_1 rfl rfl ?_
  refine aw_cvi (as := [(0, a1)]) (st := []) (M := M_X11_groundIn) (pc := 2) (f_X11_isMill  hF) dX11_groundIn_2 rfl (Or.inl ⟨_, _, _, rfl, rfl⟩) cy_X11_isMill ml_X11_282 (by decide) (by decide) (Nat.le_of_ble_eq_true rfl) (fun r2 h1 hF => ?_)
  refine aw_if_eq (tgt := 19) (M := M_X11_groundIn) (pc := 5) dX11_groundIn_5 rfl (fun hc => ?_) (fun hc => ?_)
  · have hF := hF.1 hc
    refine aw_aload_n (j := 0) (M := M_X11_groundIn) (pc := 19) dX11_groundIn_19 rfl rfl ?_
    refine aw_iconst (M := M_X11_groundIn) (pc := 20) dX11_groundIn_20 ⟨by decide, by decide⟩ ?_
    refine aw_cvi (as := [(0, 1)]) (st := []) (M := M_X11_groundIn) (pc := 21) (f_X11_refused  hF) dX11_groundIn_21 rfl (Or.inl ⟨_, _, _, rfl, rfl⟩) cy_X11_refused ml_X11_163 (by decide) (by decide) (Nat.le_of_ble_eq_true rfl) (fun r4 h3 hF => ?_)
    exact aw_ireti (M := M_X11_groundIn) (pc := 24) dX11_groundIn_24 rfl ⟨_, rfl, hF⟩
  · have hF := hF.2 hc
    refine aw_iload_n (j := 2) (M := M_X11_groundIn) (pc := 8) dX11_groundIn_8 rfl rfl ?_
    refine aw_iconst (M := M_X11_groundIn) (pc := 9) dX11_groundIn_9 ⟨by decide, by decide⟩ ?_
    refine aw_sipush (M := M_X11_groundIn) (pc := 10) dX11_groundIn_10 ⟨rfl, ⟨by decide, by decide⟩⟩ ?_
    refine aw_csi (as := [(0, a2), (0, 0), (0, 400)]) (st := []) (M := M_X11_groundIn) (pc := 13) (f_X11_outside  hF) dX11_groundIn_13 rfl cy_X11_outside ml_X11_105 (by decide) (by decide) (Nat.le_of_ble_eq_true rfl) (fun r6 h5 hF => ?_)
    refine aw_if_eq (tgt := 25) (M := M_X11_groundIn) (pc := 16) dX11_groundIn_16 rfl (fun hc => ?_) (fun hc => ?_)
    · have hF := hF.1 hc
      refine aw_aload_n (j := 0) (M := M_X11_groundIn) (pc := 25) dX11_groundIn_25 rfl rfl ?_
      refine gf_X11_44 (M := M_X11_groundIn) (pc := 26) rfl dX11_groundIn_26 rfl (r := 146) rfl ?_
      refine aw_aload_n (j := 0) (M := M_X11_groundIn) (pc := 29) dX11_groundIn_29 rfl rfl ?_
      refine gf_X11_33 (M := M_X11_groundIn) (pc := 30) rfl dX11_groundIn_30 rfl (r := 12) rfl ?_
      refine aw_cvv (as := [vr 12]) (st := []) (M := M_X11_groundIn) (pc := 33) (f_X4_copyFrom rfl rfl hF) dX11_groundIn_33 rfl (Or.inl ⟨_, _, _, rfl, rfl⟩) cy_X4_copyFrom ml_X11_177 (by decide) (by decide) (Nat.le_of_ble_eq_true rfl) (fun h7 hF => ?_)
      refine aw_aload_n (j := 0) (M := M_X11_groundIn) (pc := 36) dX11_groundIn_36 rfl rfl ?_
      refine gf_X11_44 (M := M_X11_groundIn) (pc := 37) rfl dX11_groundIn_37 rfl (r := 146) rfl ?_
      refine aw_iload_n (j := 2) (M := M_X11_groundIn) (pc := 40) dX11_groundIn_40 rfl rfl ?_
      refine aw_cvi (as := [(0, a2)]) (st := []) (M := M_X11_groundIn) (pc := 41) (f_X4_passHours rfl hF) dX11_groundIn_41 rfl (Or.inl ⟨_, _, _, rfl, rfl⟩) cy_X4_passHours ml_X11_298 (by decide) (by decide) (Nat.le_of_ble_eq_true rfl) (fun r10 h9 hF => ?_)
      refine aw_pop (M := M_X11_groundIn) (pc := 44) dX11_groundIn_44 rfl ?_
      refine aw_aload_n (j := 0) (M := M_X11_groundIn) (pc := 45) dX11_groundIn_45 rfl rfl ?_
      refine aw_aload_n (j := 0) (M := M_X11_groundIn) (pc := 46) dX11_groundIn_46 rfl rfl ?_
      refine gf_X11_44 (M := M_X11_groundIn) (pc := 47) rfl dX11_groundIn_47 rfl (r := 146) rfl ?_
      refine gf_X11_214 (M := M_X11_groundIn) (pc := 50) rfl dX11_groundIn_50 rfl (r := 156) rfl ?_
      refine gf_X11_289 (M := M_X11_groundIn) (pc := 53) rfl dX11_groundIn_53 rfl (r := 160) rfl ?_
      refine aw_iload_n (j := 1) (M := M_X11_groundIn) (pc := 56) dX11_groundIn_56 rfl rfl ?_
      obtain ⟨o12, hF⟩ := hF
      refine aw_iald (k := (a1).toNat) (M := M_X11_groundIn) (pc := 57) dX11_groundIn_57 rfl o12 rfl ?_
      refine aw_aload_n (j := 0) (M := M_X11_groundIn) (pc := 58) dX11_groundIn_58 rfl rfl ?_
      refine gf_X11_33 (M := M_X11_groundIn) (pc := 59) rfl dX11_groundIn_59 rfl (r := 12) rfl ?_
      refine gf_X11_214 (M := M_X11_groundIn) (pc := 62) rfl dX11_groundIn_62 rfl (r := 22) rfl ?_
      refine gf_X11_289 (M := M_X11_groundIn) (pc := 65) rfl dX11_groundIn_65 rfl (r := 26) rfl ?_
      refine aw_iload_n (j := 1) (M := M_X11_groundIn) (pc := 68) dX11_groundIn_68 rfl rfl ?_
      refine aw_iald (k := (a1).toNat) (M := M_X11_groundIn) (pc := 69) dX11_groundIn_69 rfl o12 rfl ?_
      obtain ⟨o14, hF⟩ := hF
      refine aw_isub (M := M_X11_groundIn) (pc := 70) dX11_groundIn_70 rfl o14 ?_
      refine aw_cvi (as := [(0, (h9 160 (a1).toNat) - (h9 26 (a1).toNat))]) (st := []) (M := M_X11_groundIn) (pc := 71) (f_X11_given  hF) dX11_groundIn_71 rfl (Or.inl ⟨_, _, _, rfl, rfl⟩) cy_X11_given ml_X11_193 (by decide) (by decide) (Nat.le_of_ble_eq_true rfl) (fun r16 h15 hF => ?_)
      exact aw_ireti (M := M_X11_groundIn) (pc := 74) dX11_groundIn_74 rfl ⟨_, rfl, hF⟩
    · have hF := hF.2 hc
      refine aw_aload_n (j := 0) (M := M_X11_groundIn) (pc := 19) dX11_groundIn_19 rfl rfl ?_
      refine aw_iconst (M := M_X11_groundIn) (pc := 20) dX11_groundIn_20 ⟨by decide, by decide⟩ ?_
      refine aw_cvi (as := [(0, 1)]) (st := []) (M := M_X11_groundIn) (pc := 21) (f_X11_refused  hF) dX11_groundIn_21 rfl (Or.inl ⟨_, _, _, rfl, rfl⟩) cy_X11_refused ml_X11_163 (by decide) (by decide) (Nat.le_of_ble_eq_true rfl) (fun r18 h17 hF => ?_)
      exact aw_ireti (M := M_X11_groundIn) (pc := 24) dX11_groundIn_24 rfl ⟨_, rfl, hF⟩
abbrev M_X11_heaviest : Hd := (cX11_heaviest, 1, RX11, (some .int), (3, 95), sc0)
def F_X11_heaviest (h : Mem)  (Q : Int → Mem → Prop) : Prop :=
  (F_X4_heaviestSet h 12 (fun r2 h1 => (F_X11_given h1 r2 (fun r4 h3 => Q r4 h3))))
set_option maxRecDepth 100000 in
set_option maxHeartbeats 4000000 in
theorem f_X11_heaviest {h : Mem}  {Q : Int → Mem → Prop}  (hF : F_X11_heaviest h  Q) : Ct yX11_heaviest cX11_heaviest 1 (some .int) (3, 95) [vr 0] h (qi Q) := by
  refine Ct.of np_RX11 (Nat.le_of_ble_eq_true rfl) ?_
  unfold F_X11_heaviest at hF
  show AW M_X11_heaviest 0 [(0, vr 0)] [] h (qi Q)
  refine aw_aload_n (j := 0) (M := M_X11_heaviest) (pc := 0) dX11_heaviest_0 rfl rfl ?_
  refine aw_aload_n (j := 0) (M := M_X11_heaviest) (pc := 1) dX11_heaviest_1 rfl rfl ?_
  refine gf_X11_33 (M := M_X11_heaviest) (pc := 2) rfl dX11_heaviest_2 rfl (r := 12) rfl ?_
  refine aw_cvi (as := []) (st := [vr 0]) (M := M_X11_heaviest) (pc := 5) (f_X4_heaviestSet rfl hF) dX11_heaviest_5 rfl (Or.inl ⟨_, _, _, rfl, rfl⟩) cy_X4_heaviestSet ml_X11_371 (by decide) (by decide) (Nat.le_of_ble_eq_true rfl) (fun r2 h1 hF => ?_)
  refine aw_cvi (as := [(0, r2)]) (st := []) (M := M_X11_heaviest) (pc := 8) (f_X11_given  hF) dX11_heaviest_8 rfl (Or.inl ⟨_, _, _, rfl, rfl⟩) cy_X11_given ml_X11_193 (by decide) (by decide) (Nat.le_of_ble_eq_true rfl) (fun r4 h3 hF => ?_)
  exact aw_ireti (M := M_X11_heaviest) (pc := 11) dX11_heaviest_11 rfl ⟨_, rfl, hF⟩
abbrev M_X11_heaviestWeight : Hd := (cX11_heaviestWeight, 1, RX11, (some .int), (3, 95), sc0)
def F_X11_heaviestWeight (h : Mem)  (Q : Int → Mem → Prop) : Prop :=
  (F_X4_heaviestSet h 12 (fun r2 h1 => (F_X9_weightOf h1 13 r2 (fun r4 h3 => (F_X11_given h3 r4 (fun r6 h5 => Q r6 h5))))))
set_option maxRecDepth 100000 in
set_option maxHeartbeats 4000000 in
theorem f_X11_heaviestWeight {h : Mem}  {Q : Int → Mem → Prop}  (hF : F_X11_heaviestWeight h  Q) : Ct yX11_heaviestWeight cX11_heaviestWeight 1 (some .int) (3, 95) [vr 0] h (qi Q) := by
  refine Ct.of np_RX11 (Nat.le_of_ble_eq_true rfl) ?_
  unfold F_X11_heaviestWeight at hF
  show AW M_X11_heaviestWeight 0 [(0, vr 0)] [] h (qi Q)
  refine aw_aload_n (j := 0) (M := M_X11_heaviestWeight) (pc := 0) dX11_heaviestWeight_0 rfl rfl ?_
  refine aw_aload_n (j := 0) (M := M_X11_heaviestWeight) (pc := 1) dX11_heaviestWeight_1 rfl rfl ?_
  refine gf_X11_33 (M := M_X11_heaviestWeight) (pc := 2) rfl dX11_heaviestWeight_2 rfl (r := 12) rfl ?_
  refine gf_X11_184 (M := M_X11_heaviestWeight) (pc := 5) rfl dX11_heaviestWeight_5 rfl (r := 13) rfl ?_
  refine aw_aload_n (j := 0) (M := M_X11_heaviestWeight) (pc := 8) dX11_heaviestWeight_8 rfl rfl ?_
  refine gf_X11_33 (M := M_X11_heaviestWeight) (pc := 9) rfl dX11_heaviestWeight_9 rfl (r := 12) rfl ?_
  refine aw_cvi (as := []) (st := [vr 13, vr 0]) (M := M_X11_heaviestWeight) (pc := 12) (f_X4_heaviestSet rfl hF) dX11_heaviestWeight_12 rfl (Or.inl ⟨_, _, _, rfl, rfl⟩) cy_X4_heaviestSet ml_X11_371 (by decide) (by decide) (Nat.le_of_ble_eq_true rfl) (fun r2 h1 hF => ?_)
  refine aw_cvi (as := [(0, r2)]) (st := [vr 0]) (M := M_X11_heaviestWeight) (pc := 15) (f_X9_weightOf rfl hF) dX11_heaviestWeight_15 rfl (Or.inl ⟨_, _, _, rfl, rfl⟩) cy_X9_weightOf ml_X11_374 (by decide) (by decide) (Nat.le_of_ble_eq_true rfl) (fun r4 h3 hF => ?_)
  refine aw_cvi (as := [(0, r4)]) (st := []) (M := M_X11_heaviestWeight) (pc := 18) (f_X11_given  hF) dX11_heaviestWeight_18 rfl (Or.inl ⟨_, _, _, rfl, rfl⟩) cy_X11_given ml_X11_193 (by decide) (by decide) (Nat.le_of_ble_eq_true rfl) (fun r6 h5 hF => ?_)
  exact aw_ireti (M := M_X11_heaviestWeight) (pc := 21) dX11_heaviestWeight_21 rfl ⟨_, rfl, hF⟩
abbrev M_X11_homeIn : Hd := (cX11_homeIn, 2, RX11, (some .int), (5, 139), sc0)
def F_X11_homeIn (h : Mem) (a1 : Int) (Q : Int → Mem → Prop) : Prop :=
  (F_X11_isThing h a1 (fun r2 h1 => ((¬ (r2 = 0) → (F_X4_copyFrom h1 146 12 (fun h3 => (F_X4_hoursTillHome h3 146 a1 400 (fun r6 h5 => (F_X11_givenOrNone h5 r6 (fun r8 h7 => Q r8 h7))))))) ∧ (r2 = 0 → (F_X11_refused h1 1 (fun r10 h9 => Q r10 h9))))))
set_option maxRecDepth 100000 in
set_option maxHeartbeats 4000000 in
theorem f_X11_homeIn {h : Mem} {a1 : Int} {Q : Int → Mem → Prop}  (hF : F_X11_homeIn h a1 Q) : Ct yX11_homeIn cX11_homeIn 2 (some .int) (5, 139) [vr 0, (0, a1)] h (qi Q) := by
  refine Ct.of np_RX11 (Nat.le_of_ble_eq_true rfl) ?_
  unfold F_X11_homeIn at hF
  show AW M_X11_homeIn 0 [(0, vr 0), (1, (0, a1))] [] h (qi Q)
  refine aw_aload_n (j := 0) (M := M_X11_homeIn) (pc := 0) dX11_homeIn_0 rfl rfl ?_
  refine aw_iload_n (j := 1) (M := M_X11_homeIn) (pc := 1) dX11_homeIn_1 rfl rfl ?_
  refine aw_cvi (as := [(0, a1)]) (st := []) (M := M_X11_homeIn) (pc := 2) (f_X11_isThing  hF) dX11_homeIn_2 rfl (Or.inl ⟨_, _, _, rfl, rfl⟩) cy_X11_isThing ml_X11_252 (by decide) (by decide) (Nat.le_of_ble_eq_true rfl) (fun r2 h1 hF => ?_)
  refine aw_if_ne (tgt := 14) (M := M_X11_homeIn) (pc := 5) dX11_homeIn_5 rfl (fun hc => ?_) (fun hc => ?_)
  · have hF := hF.1 hc
    refine aw_aload_n (j := 0) (M := M_X11_homeIn) (pc := 14) dX11_homeIn_14 rfl rfl ?_
    refine gf_X11_44 (M := M_X11_homeIn) (pc := 15) rfl dX11_homeIn_15 rfl (r := 146) rfl ?_
    refine aw_aload_n (j := 0) (M := M_X11_homeIn) (pc := 18) dX11_homeIn_18 rfl rfl ?_
    refine gf_X11_33 (M := M_X11_homeIn) (pc := 19) rfl dX11_homeIn_19 rfl (r := 12) rfl ?_
    refine aw_cvv (as := [vr 12]) (st := []) (M := M_X11_homeIn) (pc := 22) (f_X4_copyFrom rfl rfl hF) dX11_homeIn_22 rfl (Or.inl ⟨_, _, _, rfl, rfl⟩) cy_X4_copyFrom ml_X11_177 (by decide) (by decide) (Nat.le_of_ble_eq_true rfl) (fun h3 hF => ?_)
    refine aw_aload_n (j := 0) (M := M_X11_homeIn) (pc := 25) dX11_homeIn_25 rfl rfl ?_
    refine aw_aload_n (j := 0) (M := M_X11_homeIn) (pc := 26) dX11_homeIn_26 rfl rfl ?_
    refine gf_X11_44 (M := M_X11_homeIn) (pc := 27) rfl dX11_homeIn_27 rfl (r := 146) rfl ?_
    refine aw_iload_n (j := 1) (M := M_X11_homeIn) (pc := 30) dX11_homeIn_30 rfl rfl ?_
    refine aw_sipush (M := M_X11_homeIn) (pc := 31) dX11_homeIn_31 ⟨rfl, ⟨by decide, by decide⟩⟩ ?_
    refine aw_cvi (as := [(0, a1), (0, 400)]) (st := [vr 0]) (M := M_X11_homeIn) (pc := 34) (f_X4_hoursTillHome rfl hF) dX11_homeIn_34 rfl (Or.inl ⟨_, _, _, rfl, rfl⟩) cy_X4_hoursTillHome ml_X11_319 (by decide) (by decide) (Nat.le_of_ble_eq_true rfl) (fun r6 h5 hF => ?_)
    refine aw_cvi (as := [(0, r6)]) (st := []) (M := M_X11_homeIn) (pc := 37) (f_X11_givenOrNone  hF) dX11_homeIn_37 rfl (Or.inl ⟨_, _, _, rfl, rfl⟩) cy_X11_givenOrNone ml_X11_322 (by decide) (by decide) (Nat.le_of_ble_eq_true rfl) (fun r8 h7 hF => ?_)
    exact aw_ireti (M := M_X11_homeIn) (pc := 40) dX11_homeIn_40 rfl ⟨_, rfl, hF⟩
  · have hF := hF.2 hc
    refine aw_aload_n (j := 0) (M := M_X11_homeIn) (pc := 8) dX11_homeIn_8 rfl rfl ?_
    refine aw_iconst (M := M_X11_homeIn) (pc := 9) dX11_homeIn_9 ⟨by decide, by decide⟩ ?_
    refine aw_cvi (as := [(0, 1)]) (st := []) (M := M_X11_homeIn) (pc := 10) (f_X11_refused  hF) dX11_homeIn_10 rfl (Or.inl ⟨_, _, _, rfl, rfl⟩) cy_X11_refused ml_X11_163 (by decide) (by decide) (Nat.le_of_ble_eq_true rfl) (fun r10 h9 hF => ?_)
    exact aw_ireti (M := M_X11_homeIn) (pc := 13) dX11_homeIn_13 rfl ⟨_, rfl, hF⟩
abbrev M_X11_hour : Hd := (cX11_hour, 2, RX11, (some .int), (5, 139), sc0)
def F_X11_hour (h : Mem) (a1 : Int) (Q : Int → Mem → Prop) : Prop :=
  (F_X11_outside h a1 1 168 (fun r2 h1 => ((r2 = 0 → (InR ((h1 12 5) + a1) ∧ ((((h1 12 5) + a1) ≤ 9999 → (F_X4_passHours h1 12 a1 (fun r5 h4 => (F_X11_given h4 r5 (fun r7 h6 => Q r7 h6))))) ∧ (¬ (((h1 12 5) + a1) ≤ 9999) → (F_X11_refused h1 4 (fun r9 h8 => Q r9 h8)))))) ∧ (¬ (r2 = 0) → (F_X11_refused h1 1 (fun r11 h10 => Q r11 h10))))))
set_option maxRecDepth 100000 in
set_option maxHeartbeats 4000000 in
theorem f_X11_hour {h : Mem} {a1 : Int} {Q : Int → Mem → Prop}  (hF : F_X11_hour h a1 Q) : Ct yX11_hour cX11_hour 2 (some .int) (5, 139) [vr 0, (0, a1)] h (qi Q) := by
  refine Ct.of np_RX11 (Nat.le_of_ble_eq_true rfl) ?_
  unfold F_X11_hour at hF
  show AW M_X11_hour 0 [(0, vr 0), (1, (0, a1))] [] h (qi Q)
  refine aw_iload_n (j := 1) (M := M_X11_hour) (pc := 0) dX11_hour_0 rfl rfl ?_
  refine aw_iconst (M := M_X11_hour) (pc := 1) dX11_hour_1 ⟨by decide, by decide⟩ ?_
  refine aw_sipush (M := M_X11_hour) (pc := 2) dX11_hour_2 ⟨rfl, ⟨by decide, by decide⟩⟩ ?_
  refine aw_csi (as := [(0, a1), (0, 1), (0, 168)]) (st := []) (M := M_X11_hour) (pc := 5) (f_X11_outside  hF) dX11_hour_5 rfl cy_X11_outside ml_X11_105 (by decide) (by decide) (Nat.le_of_ble_eq_true rfl) (fun r2 h1 hF => ?_)
  refine aw_if_eq (tgt := 17) (M := M_X11_hour) (pc := 8) dX11_hour_8 rfl (fun hc => ?_) (fun hc => ?_)
  · have hF := hF.1 hc
    refine aw_aload_n (j := 0) (M := M_X11_hour) (pc := 17) dX11_hour_17 rfl rfl ?_
    refine gf_X11_33 (M := M_X11_hour) (pc := 18) rfl dX11_hour_18 rfl (r := 12) rfl ?_
    refine gf_X11_230 (M := M_X11_hour) (pc := 21) rfl dX11_hour_21 rfl ?_
    refine aw_iload_n (j := 1) (M := M_X11_hour) (pc := 24) dX11_hour_24 rfl rfl ?_
    obtain ⟨o3, hF⟩ := hF
    refine aw_iadd (M := M_X11_hour) (pc := 25) dX11_hour_25 rfl o3 ?_
    refine aw_sipush (M := M_X11_hour) (pc := 26) dX11_hour_26 ⟨rfl, ⟨by decide, by decide⟩⟩ ?_
    refine aw_icmp_le (tgt := 38) (M := M_X11_hour) (pc := 29) dX11_hour_29 rfl (fun hc => ?_) (fun hc => ?_)
    · have hF := hF.1 hc
      refine aw_aload_n (j := 0) (M := M_X11_hour) (pc := 38) dX11_hour_38 rfl rfl ?_
      refine aw_aload_n (j := 0) (M := M_X11_hour) (pc := 39) dX11_hour_39 rfl rfl ?_
      refine gf_X11_33 (M := M_X11_hour) (pc := 40) rfl dX11_hour_40 rfl (r := 12) rfl ?_
      refine aw_iload_n (j := 1) (M := M_X11_hour) (pc := 43) dX11_hour_43 rfl rfl ?_
      refine aw_cvi (as := [(0, a1)]) (st := [vr 0]) (M := M_X11_hour) (pc := 44) (f_X4_passHours rfl hF) dX11_hour_44 rfl (Or.inl ⟨_, _, _, rfl, rfl⟩) cy_X4_passHours ml_X11_298 (by decide) (by decide) (Nat.le_of_ble_eq_true rfl) (fun r5 h4 hF => ?_)
      refine aw_cvi (as := [(0, r5)]) (st := []) (M := M_X11_hour) (pc := 47) (f_X11_given  hF) dX11_hour_47 rfl (Or.inl ⟨_, _, _, rfl, rfl⟩) cy_X11_given ml_X11_193 (by decide) (by decide) (Nat.le_of_ble_eq_true rfl) (fun r7 h6 hF => ?_)
      exact aw_ireti (M := M_X11_hour) (pc := 50) dX11_hour_50 rfl ⟨_, rfl, hF⟩
    · have hF := hF.2 hc
      refine aw_aload_n (j := 0) (M := M_X11_hour) (pc := 32) dX11_hour_32 rfl rfl ?_
      refine aw_iconst (M := M_X11_hour) (pc := 33) dX11_hour_33 ⟨by decide, by decide⟩ ?_
      refine aw_cvi (as := [(0, 4)]) (st := []) (M := M_X11_hour) (pc := 34) (f_X11_refused  hF) dX11_hour_34 rfl (Or.inl ⟨_, _, _, rfl, rfl⟩) cy_X11_refused ml_X11_163 (by decide) (by decide) (Nat.le_of_ble_eq_true rfl) (fun r9 h8 hF => ?_)
      exact aw_ireti (M := M_X11_hour) (pc := 37) dX11_hour_37 rfl ⟨_, rfl, hF⟩
  · have hF := hF.2 hc
    refine aw_aload_n (j := 0) (M := M_X11_hour) (pc := 11) dX11_hour_11 rfl rfl ?_
    refine aw_iconst (M := M_X11_hour) (pc := 12) dX11_hour_12 ⟨by decide, by decide⟩ ?_
    refine aw_cvi (as := [(0, 1)]) (st := []) (M := M_X11_hour) (pc := 13) (f_X11_refused  hF) dX11_hour_13 rfl (Or.inl ⟨_, _, _, rfl, rfl⟩) cy_X11_refused ml_X11_163 (by decide) (by decide) (Nat.le_of_ble_eq_true rfl) (fun r11 h10 hF => ?_)
    exact aw_ireti (M := M_X11_hour) (pc := 16) dX11_hour_16 rfl ⟨_, rfl, hF⟩
abbrev M_X11_live : Hd := (cX11_live, 5, RX11, (some .int), (8, 207), sc0)
def F_X11_live (h : Mem) (a1 : Int) (Q : Int → Mem → Prop) : Prop :=
  (F_X11_outside h a1 0 9999 (fun r2 h1 => ((r2 = 0 → ((¬ ((h1 27 0) = 0) → (F_X9_homesInAll h1 13 (fun r4 h3 => (F_X6_liveThrough h3 12 27 a1 (fun h5 => (∀ h7 : Mem, h7 = mset h5 145 0 (h5 78 1) → (InR ((h7 12 5) - (h1 12 5)) ∧ (∀ h9 : Mem, h9 = mset h7 145 1 ((h7 12 5) - (h1 12 5)) → (InR ((h9 12 6) - (h1 12 6)) ∧ (∀ h11 : Mem, h11 = mset h9 145 2 ((h9 12 6) - (h1 12 6)) → (F_X9_homesInAll h11 13 (fun r13 h12 => (InR (r13 - r4) ∧ (∀ h15 : Mem, h15 = mset h12 145 3 (r13 - r4) → (∀ h16 : Mem, h16 = mset h15 145 4 (h15 78 2) → (∀ h17 : Mem, h17 = mset h16 0 16 1 → (F_X11_given h17 (h17 78 0) (fun r19 h18 => Q r19 h18)))))))))))))))))) ∧ ((h1 27 0) = 0 → (F_X11_refused h1 6 (fun r21 h20 => Q r21 h20))))) ∧ (¬ (r2 = 0) → (F_X11_refused h1 1 (fun r23 h22 => Q r23 h22))))))
set_option maxRecDepth 100000 in
set_option maxHeartbeats 4000000 in
theorem f_X11_live {h : Mem} {a1 : Int} {Q : Int → Mem → Prop}  (hF : F_X11_live h a1 Q) : Ct yX11_live cX11_live 5 (some .int) (8, 207) [vr 0, (0, a1)] h (qi Q) := by
  refine Ct.of np_RX11 (Nat.le_of_ble_eq_true rfl) ?_
  unfold F_X11_live at hF
  show AW M_X11_live 0 [(0, vr 0), (1, (0, a1))] [] h (qi Q)
  refine aw_iload_n (j := 1) (M := M_X11_live) (pc := 0) dX11_live_0 rfl rfl ?_
  refine aw_iconst (M := M_X11_live) (pc := 1) dX11_live_1 ⟨by decide, by decide⟩ ?_
  refine aw_sipush (M := M_X11_live) (pc := 2) dX11_live_2 ⟨rfl, ⟨by decide, by decide⟩⟩ ?_
  refine aw_csi (as := [(0, a1), (0, 0), (0, 9999)]) (st := []) (M := M_X11_live) (pc := 5) (f_X11_outside  hF) dX11_live_5 rfl cy_X11_outside ml_X11_105 (by decide) (by decide) (Nat.le_of_ble_eq_true rfl) (fun r2 h1 hF => ?_)
  refine aw_if_eq (tgt := 17) (M := M_X11_live) (pc := 8) dX11_live_8 rfl (fun hc => ?_) (fun hc => ?_)
  · have hF := hF.1 hc
    refine aw_aload_n (j := 0) (M := M_X11_live) (pc := 17) dX11_live_17 rfl rfl ?_
    refine gf_X11_40 (M := M_X11_live) (pc := 18) rfl dX11_live_18 rfl (r := 27) rfl ?_
    refine gf_X11_415 (M := M_X11_live) (pc := 21) rfl dX11_live_21 rfl ?_
    refine aw_if_ne (tgt := 34) (M := M_X11_live) (pc := 24) dX11_live_24 rfl (fun hc => ?_) (fun hc => ?_)
    · have hF := hF.1 hc
      refine aw_aload_n (j := 0) (M := M_X11_live) (pc := 34) dX11_live_34 rfl rfl ?_
      refine gf_X11_33 (M := M_X11_live) (pc := 35) rfl dX11_live_35 rfl (r := 12) rfl ?_
      refine gf_X11_230 (M := M_X11_live) (pc := 38) rfl dX11_live_38 rfl ?_
      refine aw_istore_n (ls' := [(2, (0, h1 12 5)), (0, vr 0), (1, (0, a1))]) (M := M_X11_live) (pc := 41) dX11_live_41 rfl (by decide) rfl ?_
      refine aw_aload_n (j := 1) (M := M_X11_live) (pc := 42) dX11_live_42 rfl rfl ?_
      refine gf_X11_33 (M := M_X11_live) (pc := 43) rfl dX11_live_43 rfl (r := 12) rfl ?_
      refine gf_X11_239 (M := M_X11_live) (pc := 46) rfl dX11_live_46 rfl ?_
      refine aw_istore_n (ls' := [(3, (0, h1 12 6)), (2, (0, h1 12 5)), (0, vr 0), (1, (0, a1))]) (M := M_X11_live) (pc := 49) dX11_live_49 rfl (by decide) rfl ?_
      refine aw_aload_n (j := 2) (M := M_X11_live) (pc := 50) dX11_live_50 rfl rfl ?_
      refine gf_X11_33 (M := M_X11_live) (pc := 51) rfl dX11_live_51 rfl (r := 12) rfl ?_
      refine gf_X11_184 (M := M_X11_live) (pc := 54) rfl dX11_live_54 rfl (r := 13) rfl ?_
      refine aw_cvi (as := []) (st := []) (M := M_X11_live) (pc := 57) (f_X9_homesInAll rfl hF) dX11_live_57 rfl (Or.inl ⟨_, _, _, rfl, rfl⟩) cy_X9_homesInAll ml_X11_418 (by decide) (by decide) (Nat.le_of_ble_eq_true rfl) (fun r4 h3 hF => ?_)
      refine aw_istore (ls' := [(4, (0, r4)), (3, (0, h1 12 6)), (2, (0, h1 12 5)), (0, vr 0), (1, (0, a1))]) (M := M_X11_live) (pc := 60) dX11_live_60  (by decide) rfl ?_
      refine aw_aload_n (j := 3) (M := M_X11_live) (pc := 62) dX11_live_62 rfl rfl ?_
      refine gf_X11_78 (M := M_X11_live) (pc := 63) rfl dX11_live_63 rfl (r := 78) rfl ?_
      refine aw_aload_n (j := 3) (M := M_X11_live) (pc := 66) dX11_live_66 rfl rfl ?_
      refine gf_X11_33 (M := M_X11_live) (pc := 67) rfl dX11_live_67 rfl (r := 12) rfl ?_
      refine aw_aload_n (j := 3) (M := M_X11_live) (pc := 70) dX11_live_70 rfl rfl ?_
      refine gf_X11_40 (M := M_X11_live) (pc := 71) rfl dX11_live_71 rfl (r := 27) rfl ?_
      refine aw_iload_n (j := 4) (M := M_X11_live) (pc := 74) dX11_live_74 rfl rfl ?_
      refine aw_cvv (as := [vr 12, vr 27, (0, a1)]) (st := []) (M := M_X11_live) (pc := 75) (f_X6_liveThrough rfl rfl hF) dX11_live_75 rfl (Or.inl ⟨_, _, _, rfl, rfl⟩) cy_X6_liveThrough ml_X11_421 (by decide) (by decide) (Nat.le_of_ble_eq_true rfl) (fun h5 hF => ?_)
      refine aw_aload_n (j := 3) (M := M_X11_live) (pc := 78) dX11_live_78 rfl rfl ?_
      refine gf_X11_94 (M := M_X11_live) (pc := 79) rfl dX11_live_79 rfl (r := 145) rfl ?_
      refine aw_iconst (M := M_X11_live) (pc := 82) dX11_live_82 ⟨by decide, by decide⟩ ?_
      refine aw_aload_n (j := 3) (M := M_X11_live) (pc := 83) dX11_live_83 rfl rfl ?_
      refine gf_X11_78 (M := M_X11_live) (pc := 84) rfl dX11_live_84 rfl (r := 78) rfl ?_
      refine gf_X11_425 (M := M_X11_live) (pc := 87) rfl dX11_live_87 rfl ?_
      refine aw_iast (k := 0) (M := M_X11_live) (pc := 90) dX11_live_90 rfl ⟨by decide, by decide⟩ rfl ?_
      obtain ⟨h7, eh7⟩ : ∃ y : Mem, y = mset h5 145 0 (h5 78 1) := ⟨_, rfl⟩
      have hF := hF h7 eh7
      rw [← eh7]
      refine aw_aload_n (j := 3) (M := M_X11_live) (pc := 91) dX11_live_91 rfl rfl ?_
      refine gf_X11_94 (M := M_X11_live) (pc := 92) rfl dX11_live_92 rfl (r := 145) rfl ?_
      refine aw_iconst (M := M_X11_live) (pc := 95) dX11_live_95 ⟨by decide, by decide⟩ ?_
      refine aw_aload_n (j := 3) (M := M_X11_live) (pc := 96) dX11_live_96 rfl rfl ?_
      refine gf_X11_33 (M := M_X11_live) (pc := 97) rfl dX11_live_97 rfl (r := 12) rfl ?_
      refine gf_X11_230 (M := M_X11_live) (pc := 100) rfl dX11_live_100 rfl ?_
      refine aw_iload_n (j := 2) (M := M_X11_live) (pc := 103) dX11_live_103 rfl rfl ?_
      obtain ⟨o8, hF⟩ := hF
      refine aw_isub (M := M_X11_live) (pc := 104) dX11_live_104 rfl o8 ?_
      refine aw_iast (k := 1) (M := M_X11_live) (pc := 105) dX11_live_105 rfl ⟨by decide, by decide⟩ rfl ?_
      obtain ⟨h9, eh9⟩ : ∃ y : Mem, y = mset h7 145 1 ((h7 12 5) - (h1 12 5)) := ⟨_, rfl⟩
      have hF := hF h9 eh9
      rw [← eh9]
      refine aw_aload_n (j := 3) (M := M_X11_live) (pc := 106) dX11_live_106 rfl rfl ?_
      refine gf_X11_94 (M := M_X11_live) (pc := 107) rfl dX11_live_107 rfl (r := 145) rfl ?_
      refine aw_iconst (M := M_X11_live) (pc := 110) dX11_live_110 ⟨by decide, by decide⟩ ?_
      refine aw_aload_n (j := 3) (M := M_X11_live) (pc := 111) dX11_live_111 rfl rfl ?_
      refine gf_X11_33 (M := M_X11_live) (pc := 112) rfl dX11_live_112 rfl (r := 12) rfl ?_
      refine gf_X11_239 (M := M_X11_live) (pc := 115) rfl dX11_live_115 rfl ?_
      refine aw_iload_n (j := 1) (M := M_X11_live) (pc := 118) dX11_live_118 rfl rfl ?_
      obtain ⟨o10, hF⟩ := hF
      refine aw_isub (M := M_X11_live) (pc := 119) dX11_live_119 rfl o10 ?_
      refine aw_iast (k := 2) (M := M_X11_live) (pc := 120) dX11_live_120 rfl ⟨by decide, by decide⟩ rfl ?_
      obtain ⟨h11, eh11⟩ : ∃ y : Mem, y = mset h9 145 2 ((h9 12 6) - (h1 12 6)) := ⟨_, rfl⟩
      have hF := hF h11 eh11
      rw [← eh11]
      refine aw_aload_n (j := 3) (M := M_X11_live) (pc := 121) dX11_live_121 rfl rfl ?_
      refine gf_X11_94 (M := M_X11_live) (pc := 122) rfl dX11_live_122 rfl (r := 145) rfl ?_
      refine aw_iconst (M := M_X11_live) (pc := 125) dX11_live_125 ⟨by decide, by decide⟩ ?_
      refine aw_aload_n (j := 3) (M := M_X11_live) (pc := 126) dX11_live_126 rfl rfl ?_
      refine gf_X11_33 (M := M_X11_live) (pc := 127) rfl dX11_live_127 rfl (r := 12) rfl ?_
      refine gf_X11_184 (M := M_X11_live) (pc := 130) rfl dX11_live_130 rfl (r := 13) rfl ?_
      refine aw_cvi (as := []) (st := [(0, 3), vr 145]) (M := M_X11_live) (pc := 133) (f_X9_homesInAll rfl hF) dX11_live_133 rfl (Or.inl ⟨_, _, _, rfl, rfl⟩) cy_X9_homesInAll ml_X11_418 (by decide) (by decide) (Nat.le_of_ble_eq_true rfl) (fun r13 h12 hF => ?_)
      refine aw_iload (j := 0) (M := M_X11_live) (pc := 136) dX11_live_136  rfl ?_
      obtain ⟨o14, hF⟩ := hF
      refine aw_isub (M := M_X11_live) (pc := 138) dX11_live_138 rfl o14 ?_
      refine aw_iast (k := 3) (M := M_X11_live) (pc := 139) dX11_live_139 rfl ⟨by decide, by decide⟩ rfl ?_
      obtain ⟨h15, eh15⟩ : ∃ y : Mem, y = mset h12 145 3 (r13 - r4) := ⟨_, rfl⟩
      have hF := hF h15 eh15
      rw [← eh15]
      refine aw_aload_n (j := 3) (M := M_X11_live) (pc := 140) dX11_live_140 rfl rfl ?_
      refine gf_X11_94 (M := M_X11_live) (pc := 141) rfl dX11_live_141 rfl (r := 145) rfl ?_
      refine aw_iconst (M := M_X11_live) (pc := 144) dX11_live_144 ⟨by decide, by decide⟩ ?_
      refine aw_aload_n (j := 3) (M := M_X11_live) (pc := 145) dX11_live_145 rfl rfl ?_
      refine gf_X11_78 (M := M_X11_live) (pc := 146) rfl dX11_live_146 rfl (r := 78) rfl ?_
      refine gf_X11_428 (M := M_X11_live) (pc := 149) rfl dX11_live_149 rfl ?_
      refine aw_iast (k := 4) (M := M_X11_live) (pc := 152) dX11_live_152 rfl ⟨by decide, by decide⟩ rfl ?_
      obtain ⟨h16, eh16⟩ : ∃ y : Mem, y = mset h15 145 4 (h15 78 2) := ⟨_, rfl⟩
      have hF := hF h16 eh16
      rw [← eh16]
      refine aw_aload_n (j := 3) (M := M_X11_live) (pc := 153) dX11_live_153 rfl rfl ?_
      refine aw_iconst (M := M_X11_live) (pc := 154) dX11_live_154 ⟨by decide, by decide⟩ ?_
      refine pf_X11_98 (M := M_X11_live) (pc := 155) rfl dX11_live_155 rfl (Or.inr rfl) ?_
      obtain ⟨h17, eh17⟩ : ∃ y : Mem, y = mset h16 0 16 1 := ⟨_, rfl⟩
      have hF := hF h17 eh17
      rw [← eh17]
      refine aw_aload_n (j := 3) (M := M_X11_live) (pc := 158) dX11_live_158 rfl rfl ?_
      refine aw_aload_n (j := 3) (M := M_X11_live) (pc := 159) dX11_live_159 rfl rfl ?_
      refine gf_X11_78 (M := M_X11_live) (pc := 160) rfl dX11_live_160 rfl (r := 78) rfl ?_
      refine gf_X11_431 (M := M_X11_live) (pc := 163) rfl dX11_live_163 rfl ?_
      refine aw_cvi (as := [(0, h17 78 0)]) (st := []) (M := M_X11_live) (pc := 166) (f_X11_given  hF) dX11_live_166 rfl (Or.inl ⟨_, _, _, rfl, rfl⟩) cy_X11_given ml_X11_193 (by decide) (by decide) (Nat.le_of_ble_eq_true rfl) (fun r19 h18 hF => ?_)
      exact aw_ireti (M := M_X11_live) (pc := 169) dX11_live_169 rfl ⟨_, rfl, hF⟩
    · have hF := hF.2 hc
      refine aw_aload_n (j := 0) (M := M_X11_live) (pc := 27) dX11_live_27 rfl rfl ?_
      refine aw_bipush (M := M_X11_live) (pc := 28) dX11_live_28 ⟨rfl, ⟨by decide, by decide⟩⟩ ?_
      refine aw_cvi (as := [(0, 6)]) (st := []) (M := M_X11_live) (pc := 30) (f_X11_refused  hF) dX11_live_30 rfl (Or.inl ⟨_, _, _, rfl, rfl⟩) cy_X11_refused ml_X11_163 (by decide) (by decide) (Nat.le_of_ble_eq_true rfl) (fun r21 h20 hF => ?_)
      exact aw_ireti (M := M_X11_live) (pc := 33) dX11_live_33 rfl ⟨_, rfl, hF⟩
  · have hF := hF.2 hc
    refine aw_aload_n (j := 0) (M := M_X11_live) (pc := 11) dX11_live_11 rfl rfl ?_
    refine aw_iconst (M := M_X11_live) (pc := 12) dX11_live_12 ⟨by decide, by decide⟩ ?_
    refine aw_cvi (as := [(0, 1)]) (st := []) (M := M_X11_live) (pc := 13) (f_X11_refused  hF) dX11_live_13 rfl (Or.inl ⟨_, _, _, rfl, rfl⟩) cy_X11_refused ml_X11_163 (by decide) (by decide) (Nat.le_of_ble_eq_true rfl) (fun r23 h22 hF => ?_)
    exact aw_ireti (M := M_X11_live) (pc := 16) dX11_live_16 rfl ⟨_, rfl, hF⟩
abbrev M_X11_lived : Hd := (cX11_lived, 2, RX11, (some .int), (2, 67), sc0)
def F_X11_lived (h : Mem) (a1 : Int) (Q : Int → Mem → Prop) : Prop :=
  (InR (((5 : Nat) : Int) - 1) ∧ (F_X11_outside h a1 0 (((5 : Nat) : Int) - 1) (fun r3 h2 => ((r3 = 0 → (((h2 0 16) = 0 → (F_X11_refused h2 6 (fun r5 h4 => Q r5 h4))) ∧ (¬ ((h2 0 16) = 0) → ((0 ≤ a1 ∧ a1 < 5) ∧ (F_X11_given h2 (h2 145 (a1).toNat) (fun r9 h8 => Q r9 h8)))))) ∧ (¬ (r3 = 0) → (F_X11_refused h2 1 (fun r11 h10 => Q r11 h10)))))))
set_option maxRecDepth 100000 in
set_option maxHeartbeats 4000000 in
theorem f_X11_lived {h : Mem} {a1 : Int} {Q : Int → Mem → Prop}  (hF : F_X11_lived h a1 Q) : Ct yX11_lived cX11_lived 2 (some .int) (2, 67) [vr 0, (0, a1)] h (qi Q) := by
  refine Ct.of np_RX11 (Nat.le_of_ble_eq_true rfl) ?_
  unfold F_X11_lived at hF
  show AW M_X11_lived 0 [(0, vr 0), (1, (0, a1))] [] h (qi Q)
  refine aw_iload_n (j := 1) (M := M_X11_lived) (pc := 0) dX11_lived_0 rfl rfl ?_
  refine aw_iconst (M := M_X11_lived) (pc := 1) dX11_lived_1 ⟨by decide, by decide⟩ ?_
  refine aw_aload_n (j := 0) (M := M_X11_lived) (pc := 2) dX11_lived_2 rfl rfl ?_
  refine gf_X11_94 (M := M_X11_lived) (pc := 3) rfl dX11_lived_3 rfl (r := 145) rfl ?_
  refine aw_alen (M := M_X11_lived) (pc := 6) dX11_lived_6 rfl ?_
  refine aw_iconst (M := M_X11_lived) (pc := 7) dX11_lived_7 ⟨by decide, by decide⟩ ?_
  obtain ⟨o1, hF⟩ := hF
  refine aw_isub (M := M_X11_lived) (pc := 8) dX11_lived_8 rfl o1 ?_
  refine aw_csi (as := [(0, a1), (0, 0), (0, ((5 : Nat) : Int) - 1)]) (st := []) (M := M_X11_lived) (pc := 9) (f_X11_outside  hF) dX11_lived_9 rfl cy_X11_outside ml_X11_105 (by decide) (by decide) (Nat.le_of_ble_eq_true rfl) (fun r3 h2 hF => ?_)
  refine aw_if_eq (tgt := 21) (M := M_X11_lived) (pc := 12) dX11_lived_12 rfl (fun hc => ?_) (fun hc => ?_)
  · have hF := hF.1 hc
    refine aw_aload_n (j := 0) (M := M_X11_lived) (pc := 21) dX11_lived_21 rfl rfl ?_
    refine gf_X11_98 (M := M_X11_lived) (pc := 22) rfl dX11_lived_22 rfl ?_
    refine aw_if_eq (tgt := 41) (M := M_X11_lived) (pc := 25) dX11_lived_25 rfl (fun hc => ?_) (fun hc => ?_)
    · have hF := hF.1 hc
      refine aw_aload_n (j := 0) (M := M_X11_lived) (pc := 41) dX11_lived_41 rfl rfl ?_
      refine aw_bipush (M := M_X11_lived) (pc := 42) dX11_lived_42 ⟨rfl, ⟨by decide, by decide⟩⟩ ?_
      refine aw_cvi (as := [(0, 6)]) (st := []) (M := M_X11_lived) (pc := 44) (f_X11_refused  hF) dX11_lived_44 rfl (Or.inl ⟨_, _, _, rfl, rfl⟩) cy_X11_refused ml_X11_163 (by decide) (by decide) (Nat.le_of_ble_eq_true rfl) (fun r5 h4 hF => ?_)
      exact aw_ireti (M := M_X11_lived) (pc := 47) dX11_lived_47 rfl ⟨_, rfl, hF⟩
    · have hF := hF.2 hc
      refine aw_aload_n (j := 0) (M := M_X11_lived) (pc := 28) dX11_lived_28 rfl rfl ?_
      refine aw_aload_n (j := 0) (M := M_X11_lived) (pc := 29) dX11_lived_29 rfl rfl ?_
      refine gf_X11_94 (M := M_X11_lived) (pc := 30) rfl dX11_lived_30 rfl (r := 145) rfl ?_
      refine aw_iload_n (j := 1) (M := M_X11_lived) (pc := 33) dX11_lived_33 rfl rfl ?_
      obtain ⟨o7, hF⟩ := hF
      refine aw_iald (k := (a1).toNat) (M := M_X11_lived) (pc := 34) dX11_lived_34 rfl o7 rfl ?_
      refine aw_cvi (as := [(0, h2 145 (a1).toNat)]) (st := []) (M := M_X11_lived) (pc := 35) (f_X11_given  hF) dX11_lived_35 rfl (Or.inl ⟨_, _, _, rfl, rfl⟩) cy_X11_given ml_X11_193 (by decide) (by decide) (Nat.le_of_ble_eq_true rfl) (fun r9 h8 hF => ?_)
      refine aw_goto (tgt := 47) (M := M_X11_lived) (pc := 38) dX11_lived_38 rfl ?_
      exact aw_ireti (M := M_X11_lived) (pc := 47) dX11_lived_47 rfl ⟨_, rfl, hF⟩
  · have hF := hF.2 hc
    refine aw_aload_n (j := 0) (M := M_X11_lived) (pc := 15) dX11_lived_15 rfl rfl ?_
    refine aw_iconst (M := M_X11_lived) (pc := 16) dX11_lived_16 ⟨by decide, by decide⟩ ?_
    refine aw_cvi (as := [(0, 1)]) (st := []) (M := M_X11_lived) (pc := 17) (f_X11_refused  hF) dX11_lived_17 rfl (Or.inl ⟨_, _, _, rfl, rfl⟩) cy_X11_refused ml_X11_163 (by decide) (by decide) (Nat.le_of_ble_eq_true rfl) (fun r11 h10 hF => ?_)
    exact aw_ireti (M := M_X11_lived) (pc := 20) dX11_lived_20 rfl ⟨_, rfl, hF⟩
abbrev M_X11_make : Hd := (cX11_make, 4, RX11, (some .int), (4, 114), sc0)
def F_X11_make (h : Mem) (a1 : Int) (a2 : Int) (a3 : Int) (Q : Int → Mem → Prop) : Prop :=
  (F_X11_outside h a1 0 9 (fun r2 h1 => ((¬ (r2 = 0) → (F_X11_refused h1 1 (fun r4 h3 => Q r4 h3))) ∧ (r2 = 0 → (F_X11_outside h1 a2 1 24 (fun r6 h5 => ((¬ (r6 = 0) → (F_X11_refused h5 1 (fun r8 h7 => Q r8 h7))) ∧ (r6 = 0 → (F_X11_outside h5 a3 1 24 (fun r10 h9 => ((r10 = 0 → (((h9 13 0) < 8 → (F_X9_addThing h9 13 0 a1 a2 a3 (fun r12 h11 => (F_X11_given h11 r12 (fun r14 h13 => Q r14 h13))))) ∧ (¬ ((h9 13 0) < 8) → (F_X11_refused h9 4 (fun r16 h15 => Q r16 h15))))) ∧ (¬ (r10 = 0) → (F_X11_refused h9 1 (fun r18 h17 => Q r18 h17))))))))))))))
set_option maxRecDepth 100000 in
set_option maxHeartbeats 4000000 in
theorem f_X11_make {h : Mem} {a1 : Int} {a2 : Int} {a3 : Int} {Q : Int → Mem → Prop}  (hF : F_X11_make h a1 a2 a3 Q) : Ct yX11_make cX11_make 4 (some .int) (4, 114) [vr 0, (0, a1), (0, a2), (0, a3)] h (qi Q) := by
  refine Ct.of np_RX11 (Nat.le_of_ble_eq_true rfl) ?_
  unfold F_X11_make at hF
  show AW M_X11_make 0 [(0, vr 0), (1, (0, a1)), (2, (0, a2)), (3, (0, a3))] [] h (qi Q)
  refine aw_iload_n (j := 1) (M := M_X11_make) (pc := 0) dX11_make_0 rfl rfl ?_
  refine aw_iconst (M := M_X11_make) (pc := 1) dX11_make_1 ⟨by decide, by decide⟩ ?_
  refine aw_bipush (M := M_X11_make) (pc := 2) dX11_make_2 ⟨rfl, ⟨by decide, by decide⟩⟩ ?_
  refine aw_csi (as := [(0, a1), (0, 0), (0, 9)]) (st := []) (M := M_X11_make) (pc := 4) (f_X11_outside  hF) dX11_make_4 rfl cy_X11_outside ml_X11_105 (by decide) (by decide) (Nat.le_of_ble_eq_true rfl) (fun r2 h1 hF => ?_)
  refine aw_if_ne (tgt := 30) (M := M_X11_make) (pc := 7) dX11_make_7 rfl (fun hc => ?_) (fun hc => ?_)
  · have hF := hF.1 hc
    refine aw_aload_n (j := 0) (M := M_X11_make) (pc := 30) dX11_make_30 rfl rfl ?_
    refine aw_iconst (M := M_X11_make) (pc := 31) dX11_make_31 ⟨by decide, by decide⟩ ?_
    refine aw_cvi (as := [(0, 1)]) (st := []) (M := M_X11_make) (pc := 32) (f_X11_refused  hF) dX11_make_32 rfl (Or.inl ⟨_, _, _, rfl, rfl⟩) cy_X11_refused ml_X11_163 (by decide) (by decide) (Nat.le_of_ble_eq_true rfl) (fun r4 h3 hF => ?_)
    exact aw_ireti (M := M_X11_make) (pc := 35) dX11_make_35 rfl ⟨_, rfl, hF⟩
  · have hF := hF.2 hc
    refine aw_iload_n (j := 2) (M := M_X11_make) (pc := 10) dX11_make_10 rfl rfl ?_
    refine aw_iconst (M := M_X11_make) (pc := 11) dX11_make_11 ⟨by decide, by decide⟩ ?_
    refine aw_bipush (M := M_X11_make) (pc := 12) dX11_make_12 ⟨rfl, ⟨by decide, by decide⟩⟩ ?_
    refine aw_csi (as := [(0, a2), (0, 1), (0, 24)]) (st := []) (M := M_X11_make) (pc := 14) (f_X11_outside  hF) dX11_make_14 rfl cy_X11_outside ml_X11_105 (by decide) (by decide) (Nat.le_of_ble_eq_true rfl) (fun r6 h5 hF => ?_)
    refine aw_if_ne (tgt := 30) (M := M_X11_make) (pc := 17) dX11_make_17 rfl (fun hc => ?_) (fun hc => ?_)
    · have hF := hF.1 hc
      refine aw_aload_n (j := 0) (M := M_X11_make) (pc := 30) dX11_make_30 rfl rfl ?_
      refine aw_iconst (M := M_X11_make) (pc := 31) dX11_make_31 ⟨by decide, by decide⟩ ?_
      refine aw_cvi (as := [(0, 1)]) (st := []) (M := M_X11_make) (pc := 32) (f_X11_refused  hF) dX11_make_32 rfl (Or.inl ⟨_, _, _, rfl, rfl⟩) cy_X11_refused ml_X11_163 (by decide) (by decide) (Nat.le_of_ble_eq_true rfl) (fun r8 h7 hF => ?_)
      exact aw_ireti (M := M_X11_make) (pc := 35) dX11_make_35 rfl ⟨_, rfl, hF⟩
    · have hF := hF.2 hc
      refine aw_iload_n (j := 3) (M := M_X11_make) (pc := 20) dX11_make_20 rfl rfl ?_
      refine aw_iconst (M := M_X11_make) (pc := 21) dX11_make_21 ⟨by decide, by decide⟩ ?_
      refine aw_bipush (M := M_X11_make) (pc := 22) dX11_make_22 ⟨rfl, ⟨by decide, by decide⟩⟩ ?_
      refine aw_csi (as := [(0, a3), (0, 1), (0, 24)]) (st := []) (M := M_X11_make) (pc := 24) (f_X11_outside  hF) dX11_make_24 rfl cy_X11_outside ml_X11_105 (by decide) (by decide) (Nat.le_of_ble_eq_true rfl) (fun r10 h9 hF => ?_)
      refine aw_if_eq (tgt := 36) (M := M_X11_make) (pc := 27) dX11_make_27 rfl (fun hc => ?_) (fun hc => ?_)
      · have hF := hF.1 hc
        refine aw_aload_n (j := 0) (M := M_X11_make) (pc := 36) dX11_make_36 rfl rfl ?_
        refine gf_X11_33 (M := M_X11_make) (pc := 37) rfl dX11_make_37 rfl (r := 12) rfl ?_
        refine gf_X11_184 (M := M_X11_make) (pc := 40) rfl dX11_make_40 rfl (r := 13) rfl ?_
        refine gf_X11_188 (M := M_X11_make) (pc := 43) rfl dX11_make_43 rfl ?_
        refine aw_bipush (M := M_X11_make) (pc := 46) dX11_make_46 ⟨rfl, ⟨by decide, by decide⟩⟩ ?_
        refine aw_icmp_lt (tgt := 57) (M := M_X11_make) (pc := 48) dX11_make_48 rfl (fun hc => ?_) (fun hc => ?_)
        · have hF := hF.1 hc
          refine aw_aload_n (j := 0) (M := M_X11_make) (pc := 57) dX11_make_57 rfl rfl ?_
          refine aw_aload_n (j := 0) (M := M_X11_make) (pc := 58) dX11_make_58 rfl rfl ?_
          refine gf_X11_33 (M := M_X11_make) (pc := 59) rfl dX11_make_59 rfl (r := 12) rfl ?_
          refine gf_X11_184 (M := M_X11_make) (pc := 62) rfl dX11_make_62 rfl (r := 13) rfl ?_
          refine aw_lconst (v := 0) (M := M_X11_make) (pc := 65) dX11_make_65 ⟨rfl, ⟨by decide, by decide⟩⟩ ?_
          refine aw_iload_n (j := 1) (M := M_X11_make) (pc := 66) dX11_make_66 rfl rfl ?_
          refine aw_iload_n (j := 2) (M := M_X11_make) (pc := 67) dX11_make_67 rfl rfl ?_
          refine aw_iload_n (j := 3) (M := M_X11_make) (pc := 68) dX11_make_68 rfl rfl ?_
          refine aw_cvi (as := [(1, 0), (0, a1), (0, a2), (0, a3)]) (st := [vr 0]) (M := M_X11_make) (pc := 69) (f_X9_addThing rfl hF) dX11_make_69 rfl (Or.inl ⟨_, _, _, rfl, rfl⟩) cy_X9_addThing ml_X11_311 (by decide) (by decide) (Nat.le_of_ble_eq_true rfl) (fun r12 h11 hF => ?_)
          refine aw_cvi (as := [(0, r12)]) (st := []) (M := M_X11_make) (pc := 72) (f_X11_given  hF) dX11_make_72 rfl (Or.inl ⟨_, _, _, rfl, rfl⟩) cy_X11_given ml_X11_193 (by decide) (by decide) (Nat.le_of_ble_eq_true rfl) (fun r14 h13 hF => ?_)
          exact aw_ireti (M := M_X11_make) (pc := 75) dX11_make_75 rfl ⟨_, rfl, hF⟩
        · have hF := hF.2 hc
          refine aw_aload_n (j := 0) (M := M_X11_make) (pc := 51) dX11_make_51 rfl rfl ?_
          refine aw_iconst (M := M_X11_make) (pc := 52) dX11_make_52 ⟨by decide, by decide⟩ ?_
          refine aw_cvi (as := [(0, 4)]) (st := []) (M := M_X11_make) (pc := 53) (f_X11_refused  hF) dX11_make_53 rfl (Or.inl ⟨_, _, _, rfl, rfl⟩) cy_X11_refused ml_X11_163 (by decide) (by decide) (Nat.le_of_ble_eq_true rfl) (fun r16 h15 hF => ?_)
          exact aw_ireti (M := M_X11_make) (pc := 56) dX11_make_56 rfl ⟨_, rfl, hF⟩
      · have hF := hF.2 hc
        refine aw_aload_n (j := 0) (M := M_X11_make) (pc := 30) dX11_make_30 rfl rfl ?_
        refine aw_iconst (M := M_X11_make) (pc := 31) dX11_make_31 ⟨by decide, by decide⟩ ?_
        refine aw_cvi (as := [(0, 1)]) (st := []) (M := M_X11_make) (pc := 32) (f_X11_refused  hF) dX11_make_32 rfl (Or.inl ⟨_, _, _, rfl, rfl⟩) cy_X11_refused ml_X11_163 (by decide) (by decide) (Nat.le_of_ble_eq_true rfl) (fun r18 h17 hF => ?_)
        exact aw_ireti (M := M_X11_make) (pc := 35) dX11_make_35 rfl ⟨_, rfl, hF⟩
abbrev M_X11_mark : Hd := (cX11_mark, 1, RX11, (some .int), (4, 108), sc0)
def F_X11_mark (h : Mem)  (Q : Int → Mem → Prop) : Prop :=
  (((h 0 12) < 3 → ((0 ≤ (h 0 12) ∧ (h 0 12) < 3) ∧ (F_X4_copyFrom h (80 + 1 + 15 * (h 0 12).toNat) 12 (fun h2 => ((0 ≤ (h2 0 12) ∧ (h2 0 12) < 3) ∧ (F_X1_copyFrom h2 (126 + 1 + 6 * (h2 0 12).toNat) 27 (fun h5 => (InR ((h5 0 12) + 1) ∧ (∀ h8 : Mem, h8 = mset h5 0 12 ((h5 0 12) + 1) → (F_X11_given h8 (h8 0 12) (fun r10 h9 => Q r10 h9))))))))))) ∧ (¬ ((h 0 12) < 3) → (F_X11_refused h 4 (fun r12 h11 => Q r12 h11))))
set_option maxRecDepth 100000 in
set_option maxHeartbeats 4000000 in
theorem f_X11_mark {h : Mem}  {Q : Int → Mem → Prop}  (hF : F_X11_mark h  Q) : Ct yX11_mark cX11_mark 1 (some .int) (4, 108) [vr 0] h (qi Q) := by
  refine Ct.of np_RX11 (Nat.le_of_ble_eq_true rfl) ?_
  unfold F_X11_mark at hF
  show AW M_X11_mark 0 [(0, vr 0)] [] h (qi Q)
  refine aw_aload_n (j := 0) (M := M_X11_mark) (pc := 0) dX11_mark_0 rfl rfl ?_
  refine gf_X11_82 (M := M_X11_mark) (pc := 1) rfl dX11_mark_1 rfl ?_
  refine aw_iconst (M := M_X11_mark) (pc := 4) dX11_mark_4 ⟨by decide, by decide⟩ ?_
  refine aw_icmp_lt (tgt := 14) (M := M_X11_mark) (pc := 5) dX11_mark_5 rfl (fun hc => ?_) (fun hc => ?_)
  · have hF := hF.1 hc
    refine aw_aload_n (j := 0) (M := M_X11_mark) (pc := 14) dX11_mark_14 rfl rfl ?_
    refine gf_X11_86 (M := M_X11_mark) (pc := 15) rfl dX11_mark_15 rfl (r := 80) rfl ?_
    refine aw_aload_n (j := 0) (M := M_X11_mark) (pc := 18) dX11_mark_18 rfl rfl ?_
    refine gf_X11_82 (M := M_X11_mark) (pc := 19) rfl dX11_mark_19 rfl ?_
    obtain ⟨o1, hF⟩ := hF
    refine aw_ald5 (M := M_X11_mark) (pc := 22) dX11_mark_22 rfl o1 ?_
    refine aw_aload_n (j := 0) (M := M_X11_mark) (pc := 23) dX11_mark_23 rfl rfl ?_
    refine gf_X11_33 (M := M_X11_mark) (pc := 24) rfl dX11_mark_24 rfl (r := 12) rfl ?_
    refine aw_cvv (as := [vr 12]) (st := []) (M := M_X11_mark) (pc := 27) (f_X4_copyFrom (le_5 o1) rfl hF) dX11_mark_27 rfl (Or.inl ⟨_, _, _, (le_5 o1), rfl⟩) cy_X4_copyFrom ml_X11_177 (by decide) (by decide) (Nat.le_of_ble_eq_true rfl) (fun h2 hF => ?_)
    refine aw_aload_n (j := 0) (M := M_X11_mark) (pc := 30) dX11_mark_30 rfl rfl ?_
    refine gf_X11_90 (M := M_X11_mark) (pc := 31) rfl dX11_mark_31 rfl (r := 126) rfl ?_
    refine aw_aload_n (j := 0) (M := M_X11_mark) (pc := 34) dX11_mark_34 rfl rfl ?_
    refine gf_X11_82 (M := M_X11_mark) (pc := 35) rfl dX11_mark_35 rfl ?_
    obtain ⟨o4, hF⟩ := hF
    refine aw_ald6 (M := M_X11_mark) (pc := 38) dX11_mark_38 rfl o4 ?_
    refine aw_aload_n (j := 0) (M := M_X11_mark) (pc := 39) dX11_mark_39 rfl rfl ?_
    refine gf_X11_40 (M := M_X11_mark) (pc := 40) rfl dX11_mark_40 rfl (r := 27) rfl ?_
    refine aw_cvv (as := [vr 27]) (st := []) (M := M_X11_mark) (pc := 43) (f_X1_copyFrom (le_6 o4) rfl hF) dX11_mark_43 rfl (Or.inl ⟨_, _, _, (le_6 o4), rfl⟩) cy_X1_copyFrom ml_X11_205 (by decide) (by decide) (Nat.le_of_ble_eq_true rfl) (fun h5 hF => ?_)
    refine aw_aload_n (j := 0) (M := M_X11_mark) (pc := 46) dX11_mark_46 rfl rfl ?_
    refine aw_dup (M := M_X11_mark) (pc := 47) dX11_mark_47 rfl ?_
    refine gf_X11_82 (M := M_X11_mark) (pc := 48) rfl dX11_mark_48 rfl ?_
    refine aw_iconst (M := M_X11_mark) (pc := 51) dX11_mark_51 ⟨by decide, by decide⟩ ?_
    obtain ⟨o7, hF⟩ := hF
    refine aw_iadd (M := M_X11_mark) (pc := 52) dX11_mark_52 rfl o7 ?_
    refine pf_X11_82 (M := M_X11_mark) (pc := 53) rfl dX11_mark_53 rfl ?_
    obtain ⟨h8, eh8⟩ : ∃ y : Mem, y = mset h5 0 12 ((h5 0 12) + 1) := ⟨_, rfl⟩
    have hF := hF h8 eh8
    rw [← eh8]
    refine aw_aload_n (j := 0) (M := M_X11_mark) (pc := 56) dX11_mark_56 rfl rfl ?_
    refine aw_aload_n (j := 0) (M := M_X11_mark) (pc := 57) dX11_mark_57 rfl rfl ?_
    refine gf_X11_82 (M := M_X11_mark) (pc := 58) rfl dX11_mark_58 rfl ?_
    refine aw_cvi (as := [(0, h8 0 12)]) (st := []) (M := M_X11_mark) (pc := 61) (f_X11_given  hF) dX11_mark_61 rfl (Or.inl ⟨_, _, _, rfl, rfl⟩) cy_X11_given ml_X11_193 (by decide) (by decide) (Nat.le_of_ble_eq_true rfl) (fun r10 h9 hF => ?_)
    exact aw_ireti (M := M_X11_mark) (pc := 64) dX11_mark_64 rfl ⟨_, rfl, hF⟩
  · have hF := hF.2 hc
    refine aw_aload_n (j := 0) (M := M_X11_mark) (pc := 8) dX11_mark_8 rfl rfl ?_
    refine aw_iconst (M := M_X11_mark) (pc := 9) dX11_mark_9 ⟨by decide, by decide⟩ ?_
    refine aw_cvi (as := [(0, 4)]) (st := []) (M := M_X11_mark) (pc := 10) (f_X11_refused  hF) dX11_mark_10 rfl (Or.inl ⟨_, _, _, rfl, rfl⟩) cy_X11_refused ml_X11_163 (by decide) (by decide) (Nat.le_of_ble_eq_true rfl) (fun r12 h11 hF => ?_)
    exact aw_ireti (M := M_X11_mark) (pc := 13) dX11_mark_13 rfl ⟨_, rfl, hF⟩
abbrev M_X11_tellFraction : Hd := (cX11_tellFraction, 7, RX11, (some .boolean), (2, 75), sc0)
def F_X11_tellFraction (h : Mem) (a1 : Int) (a2 : Int) (Q : Int → Mem → Prop) : Prop :=
  (F_X11_commonDivisor h a1 a2 (fun r2 h1 => ((r2 ≤ 0 → (F_X11_accept h1  (fun r4 h3 => (InZ r4 ∧ Q r4 h3)))) ∧ (¬ (r2 ≤ 0) → (r2 ≠ 0 ∧ InL ((a1 : Int).tdiv r2) ∧ (∀ h7 : Mem, h7 = mset h1 0 1 ((a1 : Int).tdiv r2) → (InL ((a2 : Int).tdiv r2) ∧ (∀ h9 : Mem, h9 = mset h7 0 2 ((a2 : Int).tdiv r2) → (F_X11_accept h9  (fun r11 h10 => (InZ r11 ∧ Q r11 h10)))))))))))
set_option maxRecDepth 100000 in
set_option maxHeartbeats 4000000 in
theorem f_X11_tellFraction {h : Mem} {a1 : Int} {a2 : Int} {Q : Int → Mem → Prop}  (hF : F_X11_tellFraction h a1 a2 Q) : Ct yX11_tellFraction cX11_tellFraction 7 (some .boolean) (2, 75) [vr 0, (1, a1), (1, a2)] h (qi Q) := by
  refine Ct.of np_RX11 (Nat.le_of_ble_eq_true rfl) ?_
  unfold F_X11_tellFraction at hF
  show AW M_X11_tellFraction 0 [(0, vr 0), (1, (1, a1)), (3, (1, a2))] [] h (qi Q)
  refine aw_lload_n (j := 1) (M := M_X11_tellFraction) (pc := 0) dX11_tellFraction_0 rfl rfl ?_
  refine aw_lload_n (j := 2) (M := M_X11_tellFraction) (pc := 1) dX11_tellFraction_1 rfl rfl ?_
  refine aw_csl (as := [(1, a1), (1, a2)]) (st := []) (M := M_X11_tellFraction) (pc := 2) (f_X11_commonDivisor  hF) dX11_tellFraction_2 rfl cy_X11_commonDivisor ml_X11_451 (by decide) (by decide) (Nat.le_of_ble_eq_true rfl) (fun r2 h1 hF => ?_)
  refine aw_lstore (ls' := [(5, (1, r2)), (0, vr 0), (1, (1, a1)), (3, (1, a2))]) (M := M_X11_tellFraction) (pc := 5) dX11_tellFraction_5  (by decide) rfl ?_
  refine aw_lload (j := 0) (M := M_X11_tellFraction) (pc := 7) dX11_tellFraction_7  rfl ?_
  refine aw_lconst (v := 0) (M := M_X11_tellFraction) (pc := 9) dX11_tellFraction_9 ⟨rfl, ⟨by decide, by decide⟩⟩ ?_
  refine aw_lcmp (M := M_X11_tellFraction) (pc := 10) dX11_tellFraction_10 ?_
  refine aw_if_le (tgt := 30) (M := M_X11_tellFraction) (pc := 11) dX11_tellFraction_11 rfl (fun hc => ?_) (fun hc => ?_)
  · have hF := hF.1 (lc_le.mp hc)
    refine aw_aload_n (j := 1) (M := M_X11_tellFraction) (pc := 30) dX11_tellFraction_30 rfl rfl ?_
    refine aw_cvi (as := []) (st := []) (M := M_X11_tellFraction) (pc := 31) (f_X11_accept  hF) dX11_tellFraction_31 rfl (Or.inl ⟨_, _, _, rfl, rfl⟩) cy_X11_accept ml_X11_117 (by decide) (by decide) (Nat.le_of_ble_eq_true rfl) (fun r4 h3 hF => ?_)
    exact aw_iretz (M := M_X11_tellFraction) (pc := 34) dX11_tellFraction_34 rfl hF.1 ⟨_, rfl, hF.2⟩
  · have hF := hF.2 (fun z => hc (lc_le.mpr z))
    refine aw_aload_n (j := 1) (M := M_X11_tellFraction) (pc := 14) dX11_tellFraction_14 rfl rfl ?_
    refine aw_lload_n (j := 2) (M := M_X11_tellFraction) (pc := 15) dX11_tellFraction_15 rfl rfl ?_
    refine aw_lload (j := 0) (M := M_X11_tellFraction) (pc := 16) dX11_tellFraction_16  rfl ?_
    obtain ⟨o5, hF⟩ := hF
    obtain ⟨o6, hF⟩ := hF
    refine aw_ldiv (M := M_X11_tellFraction) (pc := 18) dX11_tellFraction_18 o5 o6 ?_
    refine pf_X11_7 (M := M_X11_tellFraction) (pc := 19) rfl dX11_tellFraction_19 rfl ?_
    obtain ⟨h7, eh7⟩ : ∃ y : Mem, y = mset h1 0 1 ((a1 : Int).tdiv r2) := ⟨_, rfl⟩
    have hF := hF h7 eh7
    rw [← eh7]
    refine aw_aload_n (j := 1) (M := M_X11_tellFraction) (pc := 22) dX11_tellFraction_22 rfl rfl ?_
    refine aw_lload_n (j := 3) (M := M_X11_tellFraction) (pc := 23) dX11_tellFraction_23 rfl rfl ?_
    refine aw_lload (j := 0) (M := M_X11_tellFraction) (pc := 24) dX11_tellFraction_24  rfl ?_
    obtain ⟨o8, hF⟩ := hF
    refine aw_ldiv (M := M_X11_tellFraction) (pc := 26) dX11_tellFraction_26 o5 o8 ?_
    refine pf_X11_13 (M := M_X11_tellFraction) (pc := 27) rfl dX11_tellFraction_27 rfl ?_
    obtain ⟨h9, eh9⟩ : ∃ y : Mem, y = mset h7 0 2 ((a2 : Int).tdiv r2) := ⟨_, rfl⟩
    have hF := hF h9 eh9
    rw [← eh9]
    refine aw_aload_n (j := 1) (M := M_X11_tellFraction) (pc := 30) dX11_tellFraction_30 rfl rfl ?_
    refine aw_cvi (as := []) (st := []) (M := M_X11_tellFraction) (pc := 31) (f_X11_accept  hF) dX11_tellFraction_31 rfl (Or.inl ⟨_, _, _, rfl, rfl⟩) cy_X11_accept ml_X11_117 (by decide) (by decide) (Nat.le_of_ble_eq_true rfl) (fun r11 h10 hF => ?_)
    exact aw_iretz (M := M_X11_tellFraction) (pc := 34) dX11_tellFraction_34 rfl hF.1 ⟨_, rfl, hF.2⟩
abbrev M_X11_mean : Hd := (cX11_mean, 6, RX11, (some .boolean), (8, 207), sc0)
def L_X11_mean_77 (h : Mem) (v1 : Int) (v3 : Int) (v4 : Int) (v5 : Int) (Q : Int → Mem → Prop) : Prop := AW M_X11_mean 77 [(0, vr 0), (1, (0, v1)), (3, (0, v3)), (4, (0, v4)), (5, (0, v5))] [] h (qi Q)
def B_X11_mean_77 (h : Mem) (v1 : Int) (v3 : Int) (v4 : Int) (v5 : Int) (Q : Int → Mem → Prop) : Prop :=
  ((v3 ≤ v5 → (F_X11_tellFraction h v4 v3 (fun r18 h17 => (InZ r18 ∧ Q r18 h17)))) ∧ (¬ (v3 ≤ v5) → (F_X4_copyFrom h 146 12 (fun h19 => (InR (v1 + v5) ∧ (F_X6_liveThrough h19 146 27 (v1 + v5) (fun h22 => (F_X9_homesInAll h22 147 (fun r25 h24 => (InR (v4 + r25) ∧ (InR (v5 + 1) ∧ L_X11_mean_77 h24 v1 v3 (v4 + r25) (v5 + 1) Q)))))))))))
set_option maxRecDepth 100000 in
set_option maxHeartbeats 4000000 in
theorem l_X11_mean_77 {h : Mem} {v1 : Int} {v3 : Int} {v4 : Int} {v5 : Int} {Q : Int → Mem → Prop}  (hF : B_X11_mean_77 h v1 v3 v4 v5 Q) : L_X11_mean_77 h v1 v3 v4 v5 Q := by
  unfold B_X11_mean_77 at hF
  show AW M_X11_mean 77 [(0, vr 0), (1, (0, v1)), (3, (0, v3)), (4, (0, v4)), (5, (0, v5))] [] h (qi Q)
  refine aw_iload (j := 4) (M := M_X11_mean) (pc := 77) dX11_mean_77  rfl ?_
  refine aw_iload_n (j := 2) (M := M_X11_mean) (pc := 79) dX11_mean_79 rfl rfl ?_
  refine aw_icmp_ge (tgt := 134) (M := M_X11_mean) (pc := 80) dX11_mean_80 rfl (fun hc => ?_) (fun hc => ?_)
  · have hF := hF.1 hc
    refine aw_aload_n (j := 0) (M := M_X11_mean) (pc := 134) dX11_mean_134 rfl rfl ?_
    refine aw_iload (j := 3) (M := M_X11_mean) (pc := 135) dX11_mean_135  rfl ?_
    refine aw_i2l (M := M_X11_mean) (pc := 137) dX11_mean_137 ?_
    refine aw_iload_n (j := 2) (M := M_X11_mean) (pc := 138) dX11_mean_138 rfl rfl ?_
    refine aw_i2l (M := M_X11_mean) (pc := 139) dX11_mean_139 ?_
    refine aw_cvi (as := [(1, v4), (1, v3)]) (st := []) (M := M_X11_mean) (pc := 140) (f_X11_tellFraction  hF) dX11_mean_140 rfl (Or.inl ⟨_, _, _, rfl, rfl⟩) cy_X11_tellFraction ml_X11_398 (by decide) (by decide) (Nat.le_of_ble_eq_true rfl) (fun r18 h17 hF => ?_)
    exact aw_iretz (M := M_X11_mean) (pc := 143) dX11_mean_143 rfl hF.1 ⟨_, rfl, hF.2⟩
  · have hF := hF.2 hc
    refine aw_aload_n (j := 0) (M := M_X11_mean) (pc := 83) dX11_mean_83 rfl rfl ?_
    refine gf_X11_44 (M := M_X11_mean) (pc := 84) rfl dX11_mean_84 rfl (r := 146) rfl ?_
    refine aw_aload_n (j := 0) (M := M_X11_mean) (pc := 87) dX11_mean_87 rfl rfl ?_
    refine gf_X11_33 (M := M_X11_mean) (pc := 88) rfl dX11_mean_88 rfl (r := 12) rfl ?_
    refine aw_cvv (as := [vr 12]) (st := []) (M := M_X11_mean) (pc := 91) (f_X4_copyFrom rfl rfl hF) dX11_mean_91 rfl (Or.inl ⟨_, _, _, rfl, rfl⟩) cy_X4_copyFrom ml_X11_177 (by decide) (by decide) (Nat.le_of_ble_eq_true rfl) (fun h19 hF => ?_)
    refine aw_aload_n (j := 0) (M := M_X11_mean) (pc := 94) dX11_mean_94 rfl rfl ?_
    refine gf_X11_78 (M := M_X11_mean) (pc := 95) rfl dX11_mean_95 rfl (r := 78) rfl ?_
    refine aw_aload_n (j := 0) (M := M_X11_mean) (pc := 98) dX11_mean_98 rfl rfl ?_
    refine gf_X11_44 (M := M_X11_mean) (pc := 99) rfl dX11_mean_99 rfl (r := 146) rfl ?_
    refine aw_aload_n (j := 0) (M := M_X11_mean) (pc := 102) dX11_mean_102 rfl rfl ?_
    refine gf_X11_40 (M := M_X11_mean) (pc := 103) rfl dX11_mean_103 rfl (r := 27) rfl ?_
    refine aw_iload_n (j := 1) (M := M_X11_mean) (pc := 106) dX11_mean_106 rfl rfl ?_
    refine aw_iload (j := 4) (M := M_X11_mean) (pc := 107) dX11_mean_107  rfl ?_
    obtain ⟨o21, hF⟩ := hF
    refine aw_iadd (M := M_X11_mean) (pc := 109) dX11_mean_109 rfl o21 ?_
    refine aw_cvv (as := [vr 146, vr 27, (0, v1 + v5)]) (st := []) (M := M_X11_mean) (pc := 110) (f_X6_liveThrough rfl rfl hF) dX11_mean_110 rfl (Or.inl ⟨_, _, _, rfl, rfl⟩) cy_X6_liveThrough ml_X11_421 (by decide) (by decide) (Nat.le_of_ble_eq_true rfl) (fun h22 hF => ?_)
    refine aw_iload (j := 3) (M := M_X11_mean) (pc := 113) dX11_mean_113  rfl ?_
    refine aw_aload_n (j := 0) (M := M_X11_mean) (pc := 115) dX11_mean_115 rfl rfl ?_
    refine gf_X11_44 (M := M_X11_mean) (pc := 116) rfl dX11_mean_116 rfl (r := 146) rfl ?_
    refine gf_X11_184 (M := M_X11_mean) (pc := 119) rfl dX11_mean_119 rfl (r := 147) rfl ?_
    refine aw_cvi (as := []) (st := [(0, v4)]) (M := M_X11_mean) (pc := 122) (f_X9_homesInAll rfl hF) dX11_mean_122 rfl (Or.inl ⟨_, _, _, rfl, rfl⟩) cy_X9_homesInAll ml_X11_418 (by decide) (by decide) (Nat.le_of_ble_eq_true rfl) (fun r25 h24 hF => ?_)
    obtain ⟨o26, hF⟩ := hF
    refine aw_iadd (M := M_X11_mean) (pc := 125) dX11_mean_125 rfl o26 ?_
    refine aw_istore (ls' := [(4, (0, v4 + r25)), (0, vr 0), (1, (0, v1)), (3, (0, v3)), (5, (0, v5))]) (M := M_X11_mean) (pc := 126) dX11_mean_126  (by decide) rfl ?_
    obtain ⟨o27, hF⟩ := hF
    refine aw_iinc (j := 4) (x := v5) (r := v5 + 1) (ls' := [(5, (0, v5 + 1)), (4, (0, v4 + r25)), (0, vr 0), (1, (0, v1)), (3, (0, v3))]) (M := M_X11_mean) (pc := 128) dX11_mean_128 rfl rfl o27 (by decide) rfl ?_
    refine aw_goto (tgt := 77) (M := M_X11_mean) (pc := 131) dX11_mean_131 rfl ?_
    exact aw_ls [2, 3, 4, 1, 0] rfl hF
def F_X11_mean (h : Mem) (a1 : Int) (a2 : Int) (Q : Int → Mem → Prop) : Prop :=
  (F_X11_outside h a1 0 9999 (fun r2 h1 => ((¬ (r2 = 0) → (F_X11_refuse h1 1 (fun r4 h3 => (InZ r4 ∧ Q r4 h3)))) ∧ (r2 = 0 → (F_X11_outside h1 a2 1 20 (fun r6 h5 => ((¬ (r6 = 0) → (F_X11_refuse h5 1 (fun r8 h7 => (InZ r8 ∧ Q r8 h7)))) ∧ (r6 = 0 → (InR (a1 + a2) ∧ (InR ((a1 + a2) - 1) ∧ ((((a1 + a2) - 1) ≤ 9999 → ((¬ ((h5 27 0) = 0) → (F_X1_drawsLots h5 27 (fun r12 h11 => ((r12 = 0 → L_X11_mean_77 h11 a1 1 0 0 Q) ∧ (¬ (r12 = 0) → L_X11_mean_77 h11 a1 a2 0 0 Q))))) ∧ ((h5 27 0) = 0 → (F_X11_refuse h5 6 (fun r14 h13 => (InZ r14 ∧ Q r14 h13)))))) ∧ (¬ (((a1 + a2) - 1) ≤ 9999) → (F_X11_refuse h5 1 (fun r16 h15 => (InZ r16 ∧ Q r16 h15)))))))))))))))
set_option maxRecDepth 100000 in
set_option maxHeartbeats 4000000 in
theorem f_X11_mean {h : Mem} {a1 : Int} {a2 : Int} {Q : Int → Mem → Prop}  (hF : F_X11_mean h a1 a2 Q) : Ct yX11_mean cX11_mean 6 (some .boolean) (8, 207) [vr 0, (0, a1), (0, a2)] h (qi Q) := by
  refine Ct.of np_RX11 (Nat.le_of_ble_eq_true rfl) ?_
  unfold F_X11_mean at hF
  show AW M_X11_mean 0 [(0, vr 0), (1, (0, a1)), (2, (0, a2))] [] h (qi Q)
  refine aw_iload_n (j := 1) (M := M_X11_mean) (pc := 0) dX11_mean_0 rfl rfl ?_
  refine aw_iconst (M := M_X11_mean) (pc := 1) dX11_mean_1 ⟨by decide, by decide⟩ ?_
  refine aw_sipush (M := M_X11_mean) (pc := 2) dX11_mean_2 ⟨rfl, ⟨by decide, by decide⟩⟩ ?_
  refine aw_csi (as := [(0, a1), (0, 0), (0, 9999)]) (st := []) (M := M_X11_mean) (pc := 5) (f_X11_outside  hF) dX11_mean_5 rfl cy_X11_outside ml_X11_105 (by decide) (by decide) (Nat.le_of_ble_eq_true rfl) (fun r2 h1 hF => ?_)
  refine aw_if_ne (tgt := 32) (M := M_X11_mean) (pc := 8) dX11_mean_8 rfl (fun hc => ?_) (fun hc => ?_)
  · have hF := hF.1 hc
    refine aw_aload_n (j := 0) (M := M_X11_mean) (pc := 32) dX11_mean_32 rfl rfl ?_
    refine aw_iconst (M := M_X11_mean) (pc := 33) dX11_mean_33 ⟨by decide, by decide⟩ ?_
    refine aw_cvi (as := [(0, 1)]) (st := []) (M := M_X11_mean) (pc := 34) (f_X11_refuse  hF) dX11_mean_34 rfl (Or.inl ⟨_, _, _, rfl, rfl⟩) cy_X11_refuse ml_X11_109 (by decide) (by decide) (Nat.le_of_ble_eq_true rfl) (fun r4 h3 hF => ?_)
    exact aw_iretz (M := M_X11_mean) (pc := 37) dX11_mean_37 rfl hF.1 ⟨_, rfl, hF.2⟩
  · have hF := hF.2 hc
    refine aw_iload_n (j := 2) (M := M_X11_mean) (pc := 11) dX11_mean_11 rfl rfl ?_
    refine aw_iconst (M := M_X11_mean) (pc := 12) dX11_mean_12 ⟨by decide, by decide⟩ ?_
    refine aw_bipush (M := M_X11_mean) (pc := 13) dX11_mean_13 ⟨rfl, ⟨by decide, by decide⟩⟩ ?_
    refine aw_csi (as := [(0, a2), (0, 1), (0, 20)]) (st := []) (M := M_X11_mean) (pc := 15) (f_X11_outside  hF) dX11_mean_15 rfl cy_X11_outside ml_X11_105 (by decide) (by decide) (Nat.le_of_ble_eq_true rfl) (fun r6 h5 hF => ?_)
    refine aw_if_ne (tgt := 32) (M := M_X11_mean) (pc := 18) dX11_mean_18 rfl (fun hc => ?_) (fun hc => ?_)
    · have hF := hF.1 hc
      refine aw_aload_n (j := 0) (M := M_X11_mean) (pc := 32) dX11_mean_32 rfl rfl ?_
      refine aw_iconst (M := M_X11_mean) (pc := 33) dX11_mean_33 ⟨by decide, by decide⟩ ?_
      refine aw_cvi (as := [(0, 1)]) (st := []) (M := M_X11_mean) (pc := 34) (f_X11_refuse  hF) dX11_mean_34 rfl (Or.inl ⟨_, _, _, rfl, rfl⟩) cy_X11_refuse ml_X11_109 (by decide) (by decide) (Nat.le_of_ble_eq_true rfl) (fun r8 h7 hF => ?_)
      exact aw_iretz (M := M_X11_mean) (pc := 37) dX11_mean_37 rfl hF.1 ⟨_, rfl, hF.2⟩
    · have hF := hF.2 hc
      refine aw_iload_n (j := 1) (M := M_X11_mean) (pc := 21) dX11_mean_21 rfl rfl ?_
      refine aw_iload_n (j := 2) (M := M_X11_mean) (pc := 22) dX11_mean_22 rfl rfl ?_
      obtain ⟨o9, hF⟩ := hF
      refine aw_iadd (M := M_X11_mean) (pc := 23) dX11_mean_23 rfl o9 ?_
      refine aw_iconst (M := M_X11_mean) (pc := 24) dX11_mean_24 ⟨by decide, by decide⟩ ?_
      obtain ⟨o10, hF⟩ := hF
      refine aw_isub (M := M_X11_mean) (pc := 25) dX11_mean_25 rfl o10 ?_
      refine aw_sipush (M := M_X11_mean) (pc := 26) dX11_mean_26 ⟨rfl, ⟨by decide, by decide⟩⟩ ?_
      refine aw_icmp_le (tgt := 38) (M := M_X11_mean) (pc := 29) dX11_mean_29 rfl (fun hc => ?_) (fun hc => ?_)
      · have hF := hF.1 hc
        refine aw_aload_n (j := 0) (M := M_X11_mean) (pc := 38) dX11_mean_38 rfl rfl ?_
        refine gf_X11_40 (M := M_X11_mean) (pc := 39) rfl dX11_mean_39 rfl (r := 27) rfl ?_
        refine gf_X11_415 (M := M_X11_mean) (pc := 42) rfl dX11_mean_42 rfl ?_
        refine aw_if_ne (tgt := 55) (M := M_X11_mean) (pc := 45) dX11_mean_45 rfl (fun hc => ?_) (fun hc => ?_)
        · have hF := hF.1 hc
          refine aw_aload_n (j := 0) (M := M_X11_mean) (pc := 55) dX11_mean_55 rfl rfl ?_
          refine gf_X11_40 (M := M_X11_mean) (pc := 56) rfl dX11_mean_56 rfl (r := 27) rfl ?_
          refine aw_cvi (as := []) (st := []) (M := M_X11_mean) (pc := 59) (f_X1_drawsLots rfl hF) dX11_mean_59 rfl (Or.inl ⟨_, _, _, rfl, rfl⟩) cy_X1_drawsLots ml_X11_432 (by decide) (by decide) (Nat.le_of_ble_eq_true rfl) (fun r12 h11 hF => ?_)
          refine aw_if_eq (tgt := 69) (M := M_X11_mean) (pc := 62) dX11_mean_62 rfl (fun hc => ?_) (fun hc => ?_)
          · have hF := hF.1 hc
            refine aw_iconst (M := M_X11_mean) (pc := 69) dX11_mean_69 ⟨by decide, by decide⟩ ?_
            refine aw_istore_n (ls' := [(3, (0, 1)), (0, vr 0), (1, (0, a1)), (2, (0, a2))]) (M := M_X11_mean) (pc := 70) dX11_mean_70 rfl (by decide) rfl ?_
            refine aw_iconst (M := M_X11_mean) (pc := 71) dX11_mean_71 ⟨by decide, by decide⟩ ?_
            refine aw_istore (ls' := [(4, (0, 0)), (3, (0, 1)), (0, vr 0), (1, (0, a1)), (2, (0, a2))]) (M := M_X11_mean) (pc := 72) dX11_mean_72  (by decide) rfl ?_
            refine aw_iconst (M := M_X11_mean) (pc := 74) dX11_mean_74 ⟨by decide, by decide⟩ ?_
            refine aw_istore (ls' := [(5, (0, 0)), (4, (0, 0)), (3, (0, 1)), (0, vr 0), (1, (0, a1)), (2, (0, a2))]) (M := M_X11_mean) (pc := 75) dX11_mean_75  (by decide) rfl ?_
            exact aw_ls [3, 4, 2, 1, 0] rfl hF
          · have hF := hF.2 hc
            refine aw_iload_n (j := 2) (M := M_X11_mean) (pc := 65) dX11_mean_65 rfl rfl ?_
            refine aw_goto (tgt := 70) (M := M_X11_mean) (pc := 66) dX11_mean_66 rfl ?_
            refine aw_istore_n (ls' := [(3, (0, a2)), (0, vr 0), (1, (0, a1)), (2, (0, a2))]) (M := M_X11_mean) (pc := 70) dX11_mean_70 rfl (by decide) rfl ?_
            refine aw_iconst (M := M_X11_mean) (pc := 71) dX11_mean_71 ⟨by decide, by decide⟩ ?_
            refine aw_istore (ls' := [(4, (0, 0)), (3, (0, a2)), (0, vr 0), (1, (0, a1)), (2, (0, a2))]) (M := M_X11_mean) (pc := 72) dX11_mean_72  (by decide) rfl ?_
            refine aw_iconst (M := M_X11_mean) (pc := 74) dX11_mean_74 ⟨by decide, by decide⟩ ?_
            refine aw_istore (ls' := [(5, (0, 0)), (4, (0, 0)), (3, (0, a2)), (0, vr 0), (1, (0, a1)), (2, (0, a2))]) (M := M_X11_mean) (pc := 75) dX11_mean_75  (by decide) rfl ?_
            exact aw_ls [3, 4, 2, 1, 0] rfl hF
        · have hF := hF.2 hc
          refine aw_aload_n (j := 0) (M := M_X11_mean) (pc := 48) dX11_mean_48 rfl rfl ?_
          refine aw_bipush (M := M_X11_mean) (pc := 49) dX11_mean_49 ⟨rfl, ⟨by decide, by decide⟩⟩ ?_
          refine aw_cvi (as := [(0, 6)]) (st := []) (M := M_X11_mean) (pc := 51) (f_X11_refuse  hF) dX11_mean_51 rfl (Or.inl ⟨_, _, _, rfl, rfl⟩) cy_X11_refuse ml_X11_109 (by decide) (by decide) (Nat.le_of_ble_eq_true rfl) (fun r14 h13 hF => ?_)
          exact aw_iretz (M := M_X11_mean) (pc := 54) dX11_mean_54 rfl hF.1 ⟨_, rfl, hF.2⟩
      · have hF := hF.2 hc
        refine aw_aload_n (j := 0) (M := M_X11_mean) (pc := 32) dX11_mean_32 rfl rfl ?_
        refine aw_iconst (M := M_X11_mean) (pc := 33) dX11_mean_33 ⟨by decide, by decide⟩ ?_
        refine aw_cvi (as := [(0, 1)]) (st := []) (M := M_X11_mean) (pc := 34) (f_X11_refuse  hF) dX11_mean_34 rfl (Or.inl ⟨_, _, _, rfl, rfl⟩) cy_X11_refuse ml_X11_109 (by decide) (by decide) (Nat.le_of_ble_eq_true rfl) (fun r16 h15 hF => ?_)
        exact aw_iretz (M := M_X11_mean) (pc := 37) dX11_mean_37 rfl hF.1 ⟨_, rfl, hF.2⟩
theorem so_X11_mill_15 {x : Int} (h0 : ¬ x = 0) (h1 : ¬ x = 1) (h2 : ¬ x = 2) : x < 0 ∨ 2 < x := by omega
abbrev M_X11_mill : Hd := (cX11_mill, 3, RX11, (some .int), (2, 66), sc0)
def F_X11_mill (h : Mem) (a1 : Int) (a2 : Int) (Q : Int → Mem → Prop) : Prop :=
  (F_X11_isMill h a1 (fun r2 h1 => ((¬ (r2 = 0) → ((a2 = 0 → ((0 ≤ a1 ∧ a1 < 4) ∧ (F_X11_given h1 (h1 24 (a1).toNat) (fun r6 h5 => Q r6 h5)))) ∧ ((a2 = 1 → ((0 ≤ a1 ∧ a1 < 4) ∧ (F_X11_given h1 (h1 25 (a1).toNat) (fun r10 h9 => Q r10 h9)))) ∧ ((a2 = 2 → ((0 ≤ a1 ∧ a1 < 4) ∧ (F_X11_given h1 (h1 26 (a1).toNat) (fun r14 h13 => Q r14 h13)))) ∧ ((a2 < 0 ∨ 2 < a2) → (F_X11_refused h1 1 (fun r16 h15 => Q r16 h15))))))) ∧ (r2 = 0 → (F_X11_refused h1 1 (fun r18 h17 => Q r18 h17))))))
set_option maxRecDepth 100000 in
set_option maxHeartbeats 4000000 in
theorem f_X11_mill {h : Mem} {a1 : Int} {a2 : Int} {Q : Int → Mem → Prop}  (hF : F_X11_mill h a1 a2 Q) : Ct yX11_mill cX11_mill 3 (some .int) (2, 66) [vr 0, (0, a1), (0, a2)] h (qi Q) := by
  refine Ct.of np_RX11 (Nat.le_of_ble_eq_true rfl) ?_
  unfold F_X11_mill at hF
  show AW M_X11_mill 0 [(0, vr 0), (1, (0, a1)), (2, (0, a2))] [] h (qi Q)
  refine aw_aload_n (j := 0) (M := M_X11_mill) (pc := 0) dX11_mill_0 rfl rfl ?_
  refine aw_iload_n (j := 1) (M := M_X11_mill) (pc := 1) dX11_mill_1 rfl rfl ?_
  refine aw_cvi (as := [(0, a1)]) (st := []) (M := M_X11_mill) (pc := 2) (f_X11_isMill  hF) dX11_mill_2 rfl (Or.inl ⟨_, _, _, rfl, rfl⟩) cy_X11_isMill ml_X11_282 (by decide) (by decide) (Nat.le_of_ble_eq_true rfl) (fun r2 h1 hF => ?_)
  refine aw_if_ne (tgt := 14) (M := M_X11_mill) (pc := 5) dX11_mill_5 rfl (fun hc => ?_) (fun hc => ?_)
  · have hF := hF.1 hc
    refine aw_iload_n (j := 2) (M := M_X11_mill) (pc := 14) dX11_mill_14 rfl rfl ?_
    by_cases hc : a2 = 0
    · have hF := hF.1 hc
      refine aw_tableIn (tgt := 40) (M := M_X11_mill) (pc := 15) dX11_mill_15 (by rw [hc]; decide) (by rw [hc]; decide) (off := 25) (by rw [hc]; rfl) rfl ?_
      refine aw_aload_n (j := 0) (M := M_X11_mill) (pc := 40) dX11_mill_40 rfl rfl ?_
      refine aw_aload_n (j := 0) (M := M_X11_mill) (pc := 41) dX11_mill_41 rfl rfl ?_
      refine gf_X11_33 (M := M_X11_mill) (pc := 42) rfl dX11_mill_42 rfl (r := 12) rfl ?_
      refine gf_X11_214 (M := M_X11_mill) (pc := 45) rfl dX11_mill_45 rfl (r := 22) rfl ?_
      refine gf_X11_285 (M := M_X11_mill) (pc := 48) rfl dX11_mill_48 rfl (r := 24) rfl ?_
      refine aw_iload_n (j := 1) (M := M_X11_mill) (pc := 51) dX11_mill_51 rfl rfl ?_
      obtain ⟨o4, hF⟩ := hF
      refine aw_iald (k := (a1).toNat) (M := M_X11_mill) (pc := 52) dX11_mill_52 rfl o4 rfl ?_
      refine aw_cvi (as := [(0, h1 24 (a1).toNat)]) (st := []) (M := M_X11_mill) (pc := 53) (f_X11_given  hF) dX11_mill_53 rfl (Or.inl ⟨_, _, _, rfl, rfl⟩) cy_X11_given ml_X11_193 (by decide) (by decide) (Nat.le_of_ble_eq_true rfl) (fun r6 h5 hF => ?_)
      exact aw_ireti (M := M_X11_mill) (pc := 56) dX11_mill_56 rfl ⟨_, rfl, hF⟩
    have hF := hF.2
    have hc0 := hc
    by_cases hc : a2 = 1
    · have hF := hF.1 hc
      refine aw_tableIn (tgt := 57) (M := M_X11_mill) (pc := 15) dX11_mill_15 (by rw [hc]; decide) (by rw [hc]; decide) (off := 42) (by rw [hc]; rfl) rfl ?_
      refine aw_aload_n (j := 0) (M := M_X11_mill) (pc := 57) dX11_mill_57 rfl rfl ?_
      refine aw_aload_n (j := 0) (M := M_X11_mill) (pc := 58) dX11_mill_58 rfl rfl ?_
      refine gf_X11_33 (M := M_X11_mill) (pc := 59) rfl dX11_mill_59 rfl (r := 12) rfl ?_
      refine gf_X11_214 (M := M_X11_mill) (pc := 62) rfl dX11_mill_62 rfl (r := 22) rfl ?_
      refine gf_X11_286 (M := M_X11_mill) (pc := 65) rfl dX11_mill_65 rfl (r := 25) rfl ?_
      refine aw_iload_n (j := 1) (M := M_X11_mill) (pc := 68) dX11_mill_68 rfl rfl ?_
      obtain ⟨o8, hF⟩ := hF
      refine aw_iald (k := (a1).toNat) (M := M_X11_mill) (pc := 69) dX11_mill_69 rfl o8 rfl ?_
      refine aw_cvi (as := [(0, h1 25 (a1).toNat)]) (st := []) (M := M_X11_mill) (pc := 70) (f_X11_given  hF) dX11_mill_70 rfl (Or.inl ⟨_, _, _, rfl, rfl⟩) cy_X11_given ml_X11_193 (by decide) (by decide) (Nat.le_of_ble_eq_true rfl) (fun r10 h9 hF => ?_)
      exact aw_ireti (M := M_X11_mill) (pc := 73) dX11_mill_73 rfl ⟨_, rfl, hF⟩
    have hF := hF.2
    have hc1 := hc
    by_cases hc : a2 = 2
    · have hF := hF.1 hc
      refine aw_tableIn (tgt := 74) (M := M_X11_mill) (pc := 15) dX11_mill_15 (by rw [hc]; decide) (by rw [hc]; decide) (off := 59) (by rw [hc]; rfl) rfl ?_
      refine aw_aload_n (j := 0) (M := M_X11_mill) (pc := 74) dX11_mill_74 rfl rfl ?_
      refine aw_aload_n (j := 0) (M := M_X11_mill) (pc := 75) dX11_mill_75 rfl rfl ?_
      refine gf_X11_33 (M := M_X11_mill) (pc := 76) rfl dX11_mill_76 rfl (r := 12) rfl ?_
      refine gf_X11_214 (M := M_X11_mill) (pc := 79) rfl dX11_mill_79 rfl (r := 22) rfl ?_
      refine gf_X11_289 (M := M_X11_mill) (pc := 82) rfl dX11_mill_82 rfl (r := 26) rfl ?_
      refine aw_iload_n (j := 1) (M := M_X11_mill) (pc := 85) dX11_mill_85 rfl rfl ?_
      obtain ⟨o12, hF⟩ := hF
      refine aw_iald (k := (a1).toNat) (M := M_X11_mill) (pc := 86) dX11_mill_86 rfl o12 rfl ?_
      refine aw_cvi (as := [(0, h1 26 (a1).toNat)]) (st := []) (M := M_X11_mill) (pc := 87) (f_X11_given  hF) dX11_mill_87 rfl (Or.inl ⟨_, _, _, rfl, rfl⟩) cy_X11_given ml_X11_193 (by decide) (by decide) (Nat.le_of_ble_eq_true rfl) (fun r14 h13 hF => ?_)
      exact aw_ireti (M := M_X11_mill) (pc := 90) dX11_mill_90 rfl ⟨_, rfl, hF⟩
    have hF := hF.2
    have hc2 := hc
    have hc : a2 < 0 ∨ 2 < a2 := so_X11_mill_15 hc0 hc1 hc2
    have hF := hF hc
    refine aw_tableOut (tgt := 91) (M := M_X11_mill) (pc := 15) dX11_mill_15 hc rfl ?_
    refine aw_aload_n (j := 0) (M := M_X11_mill) (pc := 91) dX11_mill_91 rfl rfl ?_
    refine aw_iconst (M := M_X11_mill) (pc := 92) dX11_mill_92 ⟨by decide, by decide⟩ ?_
    refine aw_cvi (as := [(0, 1)]) (st := []) (M := M_X11_mill) (pc := 93) (f_X11_refused  hF) dX11_mill_93 rfl (Or.inl ⟨_, _, _, rfl, rfl⟩) cy_X11_refused ml_X11_163 (by decide) (by decide) (Nat.le_of_ble_eq_true rfl) (fun r16 h15 hF => ?_)
    exact aw_ireti (M := M_X11_mill) (pc := 96) dX11_mill_96 rfl ⟨_, rfl, hF⟩
  · have hF := hF.2 hc
    refine aw_aload_n (j := 0) (M := M_X11_mill) (pc := 8) dX11_mill_8 rfl rfl ?_
    refine aw_iconst (M := M_X11_mill) (pc := 9) dX11_mill_9 ⟨by decide, by decide⟩ ?_
    refine aw_cvi (as := [(0, 1)]) (st := []) (M := M_X11_mill) (pc := 10) (f_X11_refused  hF) dX11_mill_10 rfl (Or.inl ⟨_, _, _, rfl, rfl⟩) cy_X11_refused ml_X11_163 (by decide) (by decide) (Nat.le_of_ble_eq_true rfl) (fun r18 h17 hF => ?_)
    exact aw_ireti (M := M_X11_mill) (pc := 13) dX11_mill_13 rfl ⟨_, rfl, hF⟩
abbrev M_X11_mind : Hd := (cX11_mind, 3, RX11, (some .boolean), (2, 67), sc0)
def F_X11_mind (h : Mem) (a1 : Int) (a2 : Int) (Q : Int → Mem → Prop) : Prop :=
  (F_X11_isThing h a1 (fun r2 h1 => ((r2 = 0 → (F_X11_refuse h1 1 (fun r4 h3 => (InZ r4 ∧ Q r4 h3)))) ∧ (¬ (r2 = 0) → (F_X11_outside h1 a2 1 24 (fun r6 h5 => ((r6 = 0 → ((0 ≤ a1 ∧ a1 < 8) ∧ (∀ h8 : Mem, h8 = mset h5 17 (a1).toNat a2 → (F_X11_accept h8  (fun r10 h9 => (InZ r10 ∧ Q r10 h9)))))) ∧ (¬ (r6 = 0) → (F_X11_refuse h5 1 (fun r12 h11 => (InZ r12 ∧ Q r12 h11)))))))))))
set_option maxRecDepth 100000 in
set_option maxHeartbeats 4000000 in
theorem f_X11_mind {h : Mem} {a1 : Int} {a2 : Int} {Q : Int → Mem → Prop}  (hF : F_X11_mind h a1 a2 Q) : Ct yX11_mind cX11_mind 3 (some .boolean) (2, 67) [vr 0, (0, a1), (0, a2)] h (qi Q) := by
  refine Ct.of np_RX11 (Nat.le_of_ble_eq_true rfl) ?_
  unfold F_X11_mind at hF
  show AW M_X11_mind 0 [(0, vr 0), (1, (0, a1)), (2, (0, a2))] [] h (qi Q)
  refine aw_aload_n (j := 0) (M := M_X11_mind) (pc := 0) dX11_mind_0 rfl rfl ?_
  refine aw_iload_n (j := 1) (M := M_X11_mind) (pc := 1) dX11_mind_1 rfl rfl ?_
  refine aw_cvi (as := [(0, a1)]) (st := []) (M := M_X11_mind) (pc := 2) (f_X11_isThing  hF) dX11_mind_2 rfl (Or.inl ⟨_, _, _, rfl, rfl⟩) cy_X11_isThing ml_X11_252 (by decide) (by decide) (Nat.le_of_ble_eq_true rfl) (fun r2 h1 hF => ?_)
  refine aw_if_eq (tgt := 18) (M := M_X11_mind) (pc := 5) dX11_mind_5 rfl (fun hc => ?_) (fun hc => ?_)
  · have hF := hF.1 hc
    refine aw_aload_n (j := 0) (M := M_X11_mind) (pc := 18) dX11_mind_18 rfl rfl ?_
    refine aw_iconst (M := M_X11_mind) (pc := 19) dX11_mind_19 ⟨by decide, by decide⟩ ?_
    refine aw_cvi (as := [(0, 1)]) (st := []) (M := M_X11_mind) (pc := 20) (f_X11_refuse  hF) dX11_mind_20 rfl (Or.inl ⟨_, _, _, rfl, rfl⟩) cy_X11_refuse ml_X11_109 (by decide) (by decide) (Nat.le_of_ble_eq_true rfl) (fun r4 h3 hF => ?_)
    exact aw_iretz (M := M_X11_mind) (pc := 23) dX11_mind_23 rfl hF.1 ⟨_, rfl, hF.2⟩
  · have hF := hF.2 hc
    refine aw_iload_n (j := 2) (M := M_X11_mind) (pc := 8) dX11_mind_8 rfl rfl ?_
    refine aw_iconst (M := M_X11_mind) (pc := 9) dX11_mind_9 ⟨by decide, by decide⟩ ?_
    refine aw_bipush (M := M_X11_mind) (pc := 10) dX11_mind_10 ⟨rfl, ⟨by decide, by decide⟩⟩ ?_
    refine aw_csi (as := [(0, a2), (0, 1), (0, 24)]) (st := []) (M := M_X11_mind) (pc := 12) (f_X11_outside  hF) dX11_mind_12 rfl cy_X11_outside ml_X11_105 (by decide) (by decide) (Nat.le_of_ble_eq_true rfl) (fun r6 h5 hF => ?_)
    refine aw_if_eq (tgt := 24) (M := M_X11_mind) (pc := 15) dX11_mind_15 rfl (fun hc => ?_) (fun hc => ?_)
    · have hF := hF.1 hc
      refine aw_aload_n (j := 0) (M := M_X11_mind) (pc := 24) dX11_mind_24 rfl rfl ?_
      refine gf_X11_33 (M := M_X11_mind) (pc := 25) rfl dX11_mind_25 rfl (r := 12) rfl ?_
      refine gf_X11_184 (M := M_X11_mind) (pc := 28) rfl dX11_mind_28 rfl (r := 13) rfl ?_
      refine gf_X11_261 (M := M_X11_mind) (pc := 31) rfl dX11_mind_31 rfl (r := 17) rfl ?_
      refine aw_iload_n (j := 1) (M := M_X11_mind) (pc := 34) dX11_mind_34 rfl rfl ?_
      refine aw_iload_n (j := 2) (M := M_X11_mind) (pc := 35) dX11_mind_35 rfl rfl ?_
      obtain ⟨o7, hF⟩ := hF
      refine aw_iast (k := (a1).toNat) (M := M_X11_mind) (pc := 36) dX11_mind_36 rfl o7 rfl ?_
      obtain ⟨h8, eh8⟩ : ∃ y : Mem, y = mset h5 17 (a1).toNat a2 := ⟨_, rfl⟩
      have hF := hF h8 eh8
      rw [← eh8]
      refine aw_aload_n (j := 0) (M := M_X11_mind) (pc := 37) dX11_mind_37 rfl rfl ?_
      refine aw_cvi (as := []) (st := []) (M := M_X11_mind) (pc := 38) (f_X11_accept  hF) dX11_mind_38 rfl (Or.inl ⟨_, _, _, rfl, rfl⟩) cy_X11_accept ml_X11_117 (by decide) (by decide) (Nat.le_of_ble_eq_true rfl) (fun r10 h9 hF => ?_)
      exact aw_iretz (M := M_X11_mind) (pc := 41) dX11_mind_41 rfl hF.1 ⟨_, rfl, hF.2⟩
    · have hF := hF.2 hc
      refine aw_aload_n (j := 0) (M := M_X11_mind) (pc := 18) dX11_mind_18 rfl rfl ?_
      refine aw_iconst (M := M_X11_mind) (pc := 19) dX11_mind_19 ⟨by decide, by decide⟩ ?_
      refine aw_cvi (as := [(0, 1)]) (st := []) (M := M_X11_mind) (pc := 20) (f_X11_refuse  hF) dX11_mind_20 rfl (Or.inl ⟨_, _, _, rfl, rfl⟩) cy_X11_refuse ml_X11_109 (by decide) (by decide) (Nat.le_of_ble_eq_true rfl) (fun r12 h11 hF => ?_)
      exact aw_iretz (M := M_X11_mind) (pc := 23) dX11_mind_23 rfl hF.1 ⟨_, rfl, hF.2⟩
abbrev M_X11_minded : Hd := (cX11_minded, 5, RX11, (some .int), (6, 167), sc0)
def F_X11_minded (h : Mem) (a1 : Int) (a2 : Int) (a3 : Int) (Q : Int → Mem → Prop) : Prop :=
  (F_X11_whyNotMinded h a1 a2 a3 (fun r2 h1 => ((¬ (r2 = 0) → (F_X11_refused h1 r2 (fun r4 h3 => Q r4 h3))) ∧ (r2 = 0 → (F_X0_countMinds h1  (fun r6 h5 => (F_X11_given h5 r6 (fun r8 h7 => Q r8 h7))))))))
set_option maxRecDepth 100000 in
set_option maxHeartbeats 4000000 in
theorem f_X11_minded {h : Mem} {a1 : Int} {a2 : Int} {a3 : Int} {Q : Int → Mem → Prop}  (hF : F_X11_minded h a1 a2 a3 Q) : Ct yX11_minded cX11_minded 5 (some .int) (6, 167) [vr 0, (0, a1), (0, a2), (0, a3)] h (qi Q) := by
  refine Ct.of np_RX11 (Nat.le_of_ble_eq_true rfl) ?_
  unfold F_X11_minded at hF
  show AW M_X11_minded 0 [(0, vr 0), (1, (0, a1)), (2, (0, a2)), (3, (0, a3))] [] h (qi Q)
  refine aw_aload_n (j := 0) (M := M_X11_minded) (pc := 0) dX11_minded_0 rfl rfl ?_
  refine aw_iload_n (j := 1) (M := M_X11_minded) (pc := 1) dX11_minded_1 rfl rfl ?_
  refine aw_iload_n (j := 2) (M := M_X11_minded) (pc := 2) dX11_minded_2 rfl rfl ?_
  refine aw_iload_n (j := 3) (M := M_X11_minded) (pc := 3) dX11_minded_3 rfl rfl ?_
  refine aw_cvi (as := [(0, a1), (0, a2), (0, a3)]) (st := []) (M := M_X11_minded) (pc := 4) (f_X11_whyNotMinded  hF) dX11_minded_4 rfl (Or.inl ⟨_, _, _, rfl, rfl⟩) cy_X11_whyNotMinded ml_X11_355 (by decide) (by decide) (Nat.le_of_ble_eq_true rfl) (fun r2 h1 hF => ?_)
  refine aw_istore (ls' := [(4, (0, r2)), (0, vr 0), (1, (0, a1)), (2, (0, a2)), (3, (0, a3))]) (M := M_X11_minded) (pc := 7) dX11_minded_7  (by decide) rfl ?_
  refine aw_iload (j := 0) (M := M_X11_minded) (pc := 9) dX11_minded_9  rfl ?_
  refine aw_if_ne (tgt := 28) (M := M_X11_minded) (pc := 11) dX11_minded_11 rfl (fun hc => ?_) (fun hc => ?_)
  · have hF := hF.1 hc
    refine aw_aload_n (j := 1) (M := M_X11_minded) (pc := 28) dX11_minded_28 rfl rfl ?_
    refine aw_iload (j := 0) (M := M_X11_minded) (pc := 29) dX11_minded_29  rfl ?_
    refine aw_cvi (as := [(0, r2)]) (st := []) (M := M_X11_minded) (pc := 31) (f_X11_refused  hF) dX11_minded_31 rfl (Or.inl ⟨_, _, _, rfl, rfl⟩) cy_X11_refused ml_X11_163 (by decide) (by decide) (Nat.le_of_ble_eq_true rfl) (fun r4 h3 hF => ?_)
    exact aw_ireti (M := M_X11_minded) (pc := 34) dX11_minded_34 rfl ⟨_, rfl, hF⟩
  · have hF := hF.2 hc
    refine aw_aload_n (j := 1) (M := M_X11_minded) (pc := 14) dX11_minded_14 rfl rfl ?_
    refine aw_aload_n (j := 1) (M := M_X11_minded) (pc := 15) dX11_minded_15 rfl rfl ?_
    refine gf_X11_64 (M := M_X11_minded) (pc := 16) rfl dX11_minded_16 rfl (r := 42) rfl ?_
    refine aw_cvi (as := []) (st := [vr 0]) (M := M_X11_minded) (pc := 19) (f_X0_countMinds  hF) dX11_minded_19 rfl (Or.inl ⟨_, _, _, rfl, rfl⟩) cy_X0_countMinds ml_X11_359 (by decide) (by decide) (Nat.le_of_ble_eq_true rfl) (fun r6 h5 hF => ?_)
    refine aw_cvi (as := [(0, r6)]) (st := []) (M := M_X11_minded) (pc := 22) (f_X11_given  hF) dX11_minded_22 rfl (Or.inl ⟨_, _, _, rfl, rfl⟩) cy_X11_given ml_X11_193 (by decide) (by decide) (Nat.le_of_ble_eq_true rfl) (fun r8 h7 hF => ?_)
    refine aw_goto (tgt := 34) (M := M_X11_minded) (pc := 25) dX11_minded_25 rfl ?_
    exact aw_ireti (M := M_X11_minded) (pc := 34) dX11_minded_34 rfl ⟨_, rfl, hF⟩
abbrev M_X11_mindedAt : Hd := (cX11_mindedAt, 6, RX11, (some .int), (6, 167), sc0)
def F_X11_mindedAt (h : Mem) (a1 : Int) (a2 : Int) (a3 : Int) (a4 : Int) (Q : Int → Mem → Prop) : Prop :=
  (F_X11_outside h a4 0 1 (fun r2 h1 => ((r2 = 0 → (F_X11_whyNotMinded h1 a1 a2 a3 (fun r4 h3 => ((r4 = 0 → ((¬ (a4 = 0) → (F_X0_greatestMind h3  (fun r6 h5 => (F_X11_givenOrNone h5 r6 (fun r8 h7 => Q r8 h7))))) ∧ (a4 = 0 → (F_X0_leastMind h3  (fun r10 h9 => (F_X11_givenOrNone h9 r10 (fun r12 h11 => Q r12 h11))))))) ∧ (¬ (r4 = 0) → (F_X11_refused h3 r4 (fun r14 h13 => Q r14 h13))))))) ∧ (¬ (r2 = 0) → (F_X11_refused h1 1 (fun r16 h15 => Q r16 h15))))))
set_option maxRecDepth 100000 in
set_option maxHeartbeats 4000000 in
theorem f_X11_mindedAt {h : Mem} {a1 : Int} {a2 : Int} {a3 : Int} {a4 : Int} {Q : Int → Mem → Prop}  (hF : F_X11_mindedAt h a1 a2 a3 a4 Q) : Ct yX11_mindedAt cX11_mindedAt 6 (some .int) (6, 167) [vr 0, (0, a1), (0, a2), (0, a3), (0, a4)] h (qi Q) := by
  refine Ct.of np_RX11 (Nat.le_of_ble_eq_true rfl) ?_
  unfold F_X11_mindedAt at hF
  show AW M_X11_mindedAt 0 [(0, vr 0), (1, (0, a1)), (2, (0, a2)), (3, (0, a3)), (4, (0, a4))] [] h (qi Q)
  refine aw_iload (j := 4) (M := M_X11_mindedAt) (pc := 0) dX11_mindedAt_0  rfl ?_
  refine aw_iconst (M := M_X11_mindedAt) (pc := 2) dX11_mindedAt_2 ⟨by decide, by decide⟩ ?_
  refine aw_iconst (M := M_X11_mindedAt) (pc := 3) dX11_mindedAt_3 ⟨by decide, by decide⟩ ?_
  refine aw_csi (as := [(0, a4), (0, 0), (0, 1)]) (st := []) (M := M_X11_mindedAt) (pc := 4) (f_X11_outside  hF) dX11_mindedAt_4 rfl cy_X11_outside ml_X11_105 (by decide) (by decide) (Nat.le_of_ble_eq_true rfl) (fun r2 h1 hF => ?_)
  refine aw_if_eq (tgt := 16) (M := M_X11_mindedAt) (pc := 7) dX11_mindedAt_7 rfl (fun hc => ?_) (fun hc => ?_)
  · have hF := hF.1 hc
    refine aw_aload_n (j := 0) (M := M_X11_mindedAt) (pc := 16) dX11_mindedAt_16 rfl rfl ?_
    refine aw_iload_n (j := 1) (M := M_X11_mindedAt) (pc := 17) dX11_mindedAt_17 rfl rfl ?_
    refine aw_iload_n (j := 2) (M := M_X11_mindedAt) (pc := 18) dX11_mindedAt_18 rfl rfl ?_
    refine aw_iload_n (j := 3) (M := M_X11_mindedAt) (pc := 19) dX11_mindedAt_19 rfl rfl ?_
    refine aw_cvi (as := [(0, a1), (0, a2), (0, a3)]) (st := []) (M := M_X11_mindedAt) (pc := 20) (f_X11_whyNotMinded  hF) dX11_mindedAt_20 rfl (Or.inl ⟨_, _, _, rfl, rfl⟩) cy_X11_whyNotMinded ml_X11_355 (by decide) (by decide) (Nat.le_of_ble_eq_true rfl) (fun r4 h3 hF => ?_)
    refine aw_istore (ls' := [(5, (0, r4)), (0, vr 0), (1, (0, a1)), (2, (0, a2)), (3, (0, a3)), (4, (0, a4))]) (M := M_X11_mindedAt) (pc := 23) dX11_mindedAt_23  (by decide) rfl ?_
    refine aw_iload (j := 0) (M := M_X11_mindedAt) (pc := 25) dX11_mindedAt_25  rfl ?_
    refine aw_if_eq (tgt := 37) (M := M_X11_mindedAt) (pc := 27) dX11_mindedAt_27 rfl (fun hc => ?_) (fun hc => ?_)
    · have hF := hF.1 hc
      refine aw_aload_n (j := 1) (M := M_X11_mindedAt) (pc := 37) dX11_mindedAt_37 rfl rfl ?_
      refine aw_iload (j := 5) (M := M_X11_mindedAt) (pc := 38) dX11_mindedAt_38  rfl ?_
      refine aw_if_ne (tgt := 53) (M := M_X11_mindedAt) (pc := 40) dX11_mindedAt_40 rfl (fun hc => ?_) (fun hc => ?_)
      · have hF := hF.1 hc
        refine aw_aload_n (j := 1) (M := M_X11_mindedAt) (pc := 53) dX11_mindedAt_53 rfl rfl ?_
        refine gf_X11_64 (M := M_X11_mindedAt) (pc := 54) rfl dX11_mindedAt_54 rfl (r := 42) rfl ?_
        refine aw_cvi (as := []) (st := [vr 0]) (M := M_X11_mindedAt) (pc := 57) (f_X0_greatestMind  hF) dX11_mindedAt_57 rfl (Or.inl ⟨_, _, _, rfl, rfl⟩) cy_X0_greatestMind ml_X11_365 (by decide) (by decide) (Nat.le_of_ble_eq_true rfl) (fun r6 h5 hF => ?_)
        refine aw_cvi (as := [(0, r6)]) (st := []) (M := M_X11_mindedAt) (pc := 60) (f_X11_givenOrNone  hF) dX11_mindedAt_60 rfl (Or.inl ⟨_, _, _, rfl, rfl⟩) cy_X11_givenOrNone ml_X11_322 (by decide) (by decide) (Nat.le_of_ble_eq_true rfl) (fun r8 h7 hF => ?_)
        exact aw_ireti (M := M_X11_mindedAt) (pc := 63) dX11_mindedAt_63 rfl ⟨_, rfl, hF⟩
      · have hF := hF.2 hc
        refine aw_aload_n (j := 1) (M := M_X11_mindedAt) (pc := 43) dX11_mindedAt_43 rfl rfl ?_
        refine gf_X11_64 (M := M_X11_mindedAt) (pc := 44) rfl dX11_mindedAt_44 rfl (r := 42) rfl ?_
        refine aw_cvi (as := []) (st := [vr 0]) (M := M_X11_mindedAt) (pc := 47) (f_X0_leastMind  hF) dX11_mindedAt_47 rfl (Or.inl ⟨_, _, _, rfl, rfl⟩) cy_X0_leastMind ml_X11_362 (by decide) (by decide) (Nat.le_of_ble_eq_true rfl) (fun r10 h9 hF => ?_)
        refine aw_goto (tgt := 60) (M := M_X11_mindedAt) (pc := 50) dX11_mindedAt_50 rfl ?_
        refine aw_cvi (as := [(0, r10)]) (st := []) (M := M_X11_mindedAt) (pc := 60) (f_X11_givenOrNone  hF) dX11_mindedAt_60 rfl (Or.inl ⟨_, _, _, rfl, rfl⟩) cy_X11_givenOrNone ml_X11_322 (by decide) (by decide) (Nat.le_of_ble_eq_true rfl) (fun r12 h11 hF => ?_)
        exact aw_ireti (M := M_X11_mindedAt) (pc := 63) dX11_mindedAt_63 rfl ⟨_, rfl, hF⟩
    · have hF := hF.2 hc
      refine aw_aload_n (j := 1) (M := M_X11_mindedAt) (pc := 30) dX11_mindedAt_30 rfl rfl ?_
      refine aw_iload (j := 0) (M := M_X11_mindedAt) (pc := 31) dX11_mindedAt_31  rfl ?_
      refine aw_cvi (as := [(0, r4)]) (st := []) (M := M_X11_mindedAt) (pc := 33) (f_X11_refused  hF) dX11_mindedAt_33 rfl (Or.inl ⟨_, _, _, rfl, rfl⟩) cy_X11_refused ml_X11_163 (by decide) (by decide) (Nat.le_of_ble_eq_true rfl) (fun r14 h13 hF => ?_)
      exact aw_ireti (M := M_X11_mindedAt) (pc := 36) dX11_mindedAt_36 rfl ⟨_, rfl, hF⟩
  · have hF := hF.2 hc
    refine aw_aload_n (j := 0) (M := M_X11_mindedAt) (pc := 10) dX11_mindedAt_10 rfl rfl ?_
    refine aw_iconst (M := M_X11_mindedAt) (pc := 11) dX11_mindedAt_11 ⟨by decide, by decide⟩ ?_
    refine aw_cvi (as := [(0, 1)]) (st := []) (M := M_X11_mindedAt) (pc := 12) (f_X11_refused  hF) dX11_mindedAt_12 rfl (Or.inl ⟨_, _, _, rfl, rfl⟩) cy_X11_refused ml_X11_163 (by decide) (by decide) (Nat.le_of_ble_eq_true rfl) (fun r16 h15 hF => ?_)
    exact aw_ireti (M := M_X11_mindedAt) (pc := 15) dX11_mindedAt_15 rfl ⟨_, rfl, hF⟩
abbrev M_X11_moveOf : Hd := (cX11_moveOf, 5, RX11, (some .int), (8, 212), sc0)
def F_X11_moveOf (h : Mem) (a1 : Int) (a2 : Int) (a3 : Int) (a4 : Int) (Q : Int → Mem → Prop) : Prop :=
  (F_X11_isMill h a1 (fun r2 h1 => ((r2 = 0 → (F_X11_refused h1 1 (fun r4 h3 => Q r4 h3))) ∧ (¬ (r2 = 0) → (F_X11_isMill h1 a2 (fun r6 h5 => ((r6 = 0 → (F_X11_refused h5 1 (fun r8 h7 => Q r8 h7))) ∧ (¬ (r6 = 0) → ((a1 = a2 → (F_X11_refused h5 1 (fun r10 h9 => Q r10 h9))) ∧ (¬ (a1 = a2) → (F_X11_outside h5 a3 1 2 (fun r12 h11 => ((¬ (r12 = 0) → (F_X11_refused h11 1 (fun r14 h13 => Q r14 h13))) ∧ (r12 = 0 → (F_X11_outside h11 a4 0 1 (fun r16 h15 => ((r16 = 0 → (F_X3_play h15 12 a1 a2 a3 (fun h17 => ((¬ (a4 = 0) → (F_X11_givenOrNone h17 (h17 47 2) (fun r20 h19 => Q r20 h19))) ∧ (a4 = 0 → (F_X11_givenOrNone h17 (h17 47 1) (fun r22 h21 => Q r22 h21))))))) ∧ (¬ (r16 = 0) → (F_X11_refused h15 1 (fun r24 h23 => Q r24 h23))))))))))))))))))))
set_option maxRecDepth 100000 in
set_option maxHeartbeats 4000000 in
theorem f_X11_moveOf {h : Mem} {a1 : Int} {a2 : Int} {a3 : Int} {a4 : Int} {Q : Int → Mem → Prop}  (hF : F_X11_moveOf h a1 a2 a3 a4 Q) : Ct yX11_moveOf cX11_moveOf 5 (some .int) (8, 212) [vr 0, (0, a1), (0, a2), (0, a3), (0, a4)] h (qi Q) := by
  refine Ct.of np_RX11 (Nat.le_of_ble_eq_true rfl) ?_
  unfold F_X11_moveOf at hF
  show AW M_X11_moveOf 0 [(0, vr 0), (1, (0, a1)), (2, (0, a2)), (3, (0, a3)), (4, (0, a4))] [] h (qi Q)
  refine aw_aload_n (j := 0) (M := M_X11_moveOf) (pc := 0) dX11_moveOf_0 rfl rfl ?_
  refine aw_iload_n (j := 1) (M := M_X11_moveOf) (pc := 1) dX11_moveOf_1 rfl rfl ?_
  refine aw_cvi (as := [(0, a1)]) (st := []) (M := M_X11_moveOf) (pc := 2) (f_X11_isMill  hF) dX11_moveOf_2 rfl (Or.inl ⟨_, _, _, rfl, rfl⟩) cy_X11_isMill ml_X11_282 (by decide) (by decide) (Nat.le_of_ble_eq_true rfl) (fun r2 h1 hF => ?_)
  refine aw_if_eq (tgt := 40) (M := M_X11_moveOf) (pc := 5) dX11_moveOf_5 rfl (fun hc => ?_) (fun hc => ?_)
  · have hF := hF.1 hc
    refine aw_aload_n (j := 0) (M := M_X11_moveOf) (pc := 40) dX11_moveOf_40 rfl rfl ?_
    refine aw_iconst (M := M_X11_moveOf) (pc := 41) dX11_moveOf_41 ⟨by decide, by decide⟩ ?_
    refine aw_cvi (as := [(0, 1)]) (st := []) (M := M_X11_moveOf) (pc := 42) (f_X11_refused  hF) dX11_moveOf_42 rfl (Or.inl ⟨_, _, _, rfl, rfl⟩) cy_X11_refused ml_X11_163 (by decide) (by decide) (Nat.le_of_ble_eq_true rfl) (fun r4 h3 hF => ?_)
    exact aw_ireti (M := M_X11_moveOf) (pc := 45) dX11_moveOf_45 rfl ⟨_, rfl, hF⟩
  · have hF := hF.2 hc
    refine aw_aload_n (j := 0) (M := M_X11_moveOf) (pc := 8) dX11_moveOf_8 rfl rfl ?_
    refine aw_iload_n (j := 2) (M := M_X11_moveOf) (pc := 9) dX11_moveOf_9 rfl rfl ?_
    refine aw_cvi (as := [(0, a2)]) (st := []) (M := M_X11_moveOf) (pc := 10) (f_X11_isMill  hF) dX11_moveOf_10 rfl (Or.inl ⟨_, _, _, rfl, rfl⟩) cy_X11_isMill ml_X11_282 (by decide) (by decide) (Nat.le_of_ble_eq_true rfl) (fun r6 h5 hF => ?_)
    refine aw_if_eq (tgt := 40) (M := M_X11_moveOf) (pc := 13) dX11_moveOf_13 rfl (fun hc => ?_) (fun hc => ?_)
    · have hF := hF.1 hc
      refine aw_aload_n (j := 0) (M := M_X11_moveOf) (pc := 40) dX11_moveOf_40 rfl rfl ?_
      refine aw_iconst (M := M_X11_moveOf) (pc := 41) dX11_moveOf_41 ⟨by decide, by decide⟩ ?_
      refine aw_cvi (as := [(0, 1)]) (st := []) (M := M_X11_moveOf) (pc := 42) (f_X11_refused  hF) dX11_moveOf_42 rfl (Or.inl ⟨_, _, _, rfl, rfl⟩) cy_X11_refused ml_X11_163 (by decide) (by decide) (Nat.le_of_ble_eq_true rfl) (fun r8 h7 hF => ?_)
      exact aw_ireti (M := M_X11_moveOf) (pc := 45) dX11_moveOf_45 rfl ⟨_, rfl, hF⟩
    · have hF := hF.2 hc
      refine aw_iload_n (j := 1) (M := M_X11_moveOf) (pc := 16) dX11_moveOf_16 rfl rfl ?_
      refine aw_iload_n (j := 2) (M := M_X11_moveOf) (pc := 17) dX11_moveOf_17 rfl rfl ?_
      refine aw_icmp_eq (tgt := 40) (M := M_X11_moveOf) (pc := 18) dX11_moveOf_18 rfl (fun hc => ?_) (fun hc => ?_)
      · have hF := hF.1 hc
        refine aw_aload_n (j := 0) (M := M_X11_moveOf) (pc := 40) dX11_moveOf_40 rfl rfl ?_
        refine aw_iconst (M := M_X11_moveOf) (pc := 41) dX11_moveOf_41 ⟨by decide, by decide⟩ ?_
        refine aw_cvi (as := [(0, 1)]) (st := []) (M := M_X11_moveOf) (pc := 42) (f_X11_refused  hF) dX11_moveOf_42 rfl (Or.inl ⟨_, _, _, rfl, rfl⟩) cy_X11_refused ml_X11_163 (by decide) (by decide) (Nat.le_of_ble_eq_true rfl) (fun r10 h9 hF => ?_)
        exact aw_ireti (M := M_X11_moveOf) (pc := 45) dX11_moveOf_45 rfl ⟨_, rfl, hF⟩
      · have hF := hF.2 hc
        refine aw_iload_n (j := 3) (M := M_X11_moveOf) (pc := 21) dX11_moveOf_21 rfl rfl ?_
        refine aw_iconst (M := M_X11_moveOf) (pc := 22) dX11_moveOf_22 ⟨by decide, by decide⟩ ?_
        refine aw_iconst (M := M_X11_moveOf) (pc := 23) dX11_moveOf_23 ⟨by decide, by decide⟩ ?_
        refine aw_csi (as := [(0, a3), (0, 1), (0, 2)]) (st := []) (M := M_X11_moveOf) (pc := 24) (f_X11_outside  hF) dX11_moveOf_24 rfl cy_X11_outside ml_X11_105 (by decide) (by decide) (Nat.le_of_ble_eq_true rfl) (fun r12 h11 hF => ?_)
        refine aw_if_ne (tgt := 40) (M := M_X11_moveOf) (pc := 27) dX11_moveOf_27 rfl (fun hc => ?_) (fun hc => ?_)
        · have hF := hF.1 hc
          refine aw_aload_n (j := 0) (M := M_X11_moveOf) (pc := 40) dX11_moveOf_40 rfl rfl ?_
          refine aw_iconst (M := M_X11_moveOf) (pc := 41) dX11_moveOf_41 ⟨by decide, by decide⟩ ?_
          refine aw_cvi (as := [(0, 1)]) (st := []) (M := M_X11_moveOf) (pc := 42) (f_X11_refused  hF) dX11_moveOf_42 rfl (Or.inl ⟨_, _, _, rfl, rfl⟩) cy_X11_refused ml_X11_163 (by decide) (by decide) (Nat.le_of_ble_eq_true rfl) (fun r14 h13 hF => ?_)
          exact aw_ireti (M := M_X11_moveOf) (pc := 45) dX11_moveOf_45 rfl ⟨_, rfl, hF⟩
        · have hF := hF.2 hc
          refine aw_iload (j := 4) (M := M_X11_moveOf) (pc := 30) dX11_moveOf_30  rfl ?_
          refine aw_iconst (M := M_X11_moveOf) (pc := 32) dX11_moveOf_32 ⟨by decide, by decide⟩ ?_
          refine aw_iconst (M := M_X11_moveOf) (pc := 33) dX11_moveOf_33 ⟨by decide, by decide⟩ ?_
          refine aw_csi (as := [(0, a4), (0, 0), (0, 1)]) (st := []) (M := M_X11_moveOf) (pc := 34) (f_X11_outside  hF) dX11_moveOf_34 rfl cy_X11_outside ml_X11_105 (by decide) (by decide) (Nat.le_of_ble_eq_true rfl) (fun r16 h15 hF => ?_)
          refine aw_if_eq (tgt := 46) (M := M_X11_moveOf) (pc := 37) dX11_moveOf_37 rfl (fun hc => ?_) (fun hc => ?_)
          · have hF := hF.1 hc
            refine aw_aload_n (j := 0) (M := M_X11_moveOf) (pc := 46) dX11_moveOf_46 rfl rfl ?_
            refine gf_X11_71 (M := M_X11_moveOf) (pc := 47) rfl dX11_moveOf_47 rfl (r := 47) rfl ?_
            refine aw_aload_n (j := 0) (M := M_X11_moveOf) (pc := 50) dX11_moveOf_50 rfl rfl ?_
            refine gf_X11_33 (M := M_X11_moveOf) (pc := 51) rfl dX11_moveOf_51 rfl (r := 12) rfl ?_
            refine aw_iload_n (j := 1) (M := M_X11_moveOf) (pc := 54) dX11_moveOf_54 rfl rfl ?_
            refine aw_iload_n (j := 2) (M := M_X11_moveOf) (pc := 55) dX11_moveOf_55 rfl rfl ?_
            refine aw_iload_n (j := 3) (M := M_X11_moveOf) (pc := 56) dX11_moveOf_56 rfl rfl ?_
            refine aw_cvv (as := [vr 12, (0, a1), (0, a2), (0, a3)]) (st := []) (M := M_X11_moveOf) (pc := 57) (f_X3_play rfl hF) dX11_moveOf_57 rfl (Or.inl ⟨_, _, _, rfl, rfl⟩) cy_X3_play ml_X11_384 (by decide) (by decide) (Nat.le_of_ble_eq_true rfl) (fun h17 hF => ?_)
            refine aw_aload_n (j := 0) (M := M_X11_moveOf) (pc := 60) dX11_moveOf_60 rfl rfl ?_
            refine aw_iload (j := 4) (M := M_X11_moveOf) (pc := 61) dX11_moveOf_61  rfl ?_
            refine aw_if_ne (tgt := 76) (M := M_X11_moveOf) (pc := 63) dX11_moveOf_63 rfl (fun hc => ?_) (fun hc => ?_)
            · have hF := hF.1 hc
              refine aw_aload_n (j := 0) (M := M_X11_moveOf) (pc := 76) dX11_moveOf_76 rfl rfl ?_
              refine gf_X11_71 (M := M_X11_moveOf) (pc := 77) rfl dX11_moveOf_77 rfl (r := 47) rfl ?_
              refine gf_X11_392 (M := M_X11_moveOf) (pc := 80) rfl dX11_moveOf_80 rfl ?_
              refine aw_cvi (as := [(0, h17 47 2)]) (st := []) (M := M_X11_moveOf) (pc := 83) (f_X11_givenOrNone  hF) dX11_moveOf_83 rfl (Or.inl ⟨_, _, _, rfl, rfl⟩) cy_X11_givenOrNone ml_X11_322 (by decide) (by decide) (Nat.le_of_ble_eq_true rfl) (fun r20 h19 hF => ?_)
              exact aw_ireti (M := M_X11_moveOf) (pc := 86) dX11_moveOf_86 rfl ⟨_, rfl, hF⟩
            · have hF := hF.2 hc
              refine aw_aload_n (j := 0) (M := M_X11_moveOf) (pc := 66) dX11_moveOf_66 rfl rfl ?_
              refine gf_X11_71 (M := M_X11_moveOf) (pc := 67) rfl dX11_moveOf_67 rfl (r := 47) rfl ?_
              refine gf_X11_389 (M := M_X11_moveOf) (pc := 70) rfl dX11_moveOf_70 rfl ?_
              refine aw_goto (tgt := 83) (M := M_X11_moveOf) (pc := 73) dX11_moveOf_73 rfl ?_
              refine aw_cvi (as := [(0, h17 47 1)]) (st := []) (M := M_X11_moveOf) (pc := 83) (f_X11_givenOrNone  hF) dX11_moveOf_83 rfl (Or.inl ⟨_, _, _, rfl, rfl⟩) cy_X11_givenOrNone ml_X11_322 (by decide) (by decide) (Nat.le_of_ble_eq_true rfl) (fun r22 h21 hF => ?_)
              exact aw_ireti (M := M_X11_moveOf) (pc := 86) dX11_moveOf_86 rfl ⟨_, rfl, hF⟩
          · have hF := hF.2 hc
            refine aw_aload_n (j := 0) (M := M_X11_moveOf) (pc := 40) dX11_moveOf_40 rfl rfl ?_
            refine aw_iconst (M := M_X11_moveOf) (pc := 41) dX11_moveOf_41 ⟨by decide, by decide⟩ ?_
            refine aw_cvi (as := [(0, 1)]) (st := []) (M := M_X11_moveOf) (pc := 42) (f_X11_refused  hF) dX11_moveOf_42 rfl (Or.inl ⟨_, _, _, rfl, rfl⟩) cy_X11_refused ml_X11_163 (by decide) (by decide) (Nat.le_of_ble_eq_true rfl) (fun r24 h23 hF => ?_)
            exact aw_ireti (M := M_X11_moveOf) (pc := 45) dX11_moveOf_45 rfl ⟨_, rfl, hF⟩
abbrev M_X11_pour : Hd := (cX11_pour, 6, RX11, (some .boolean), (2, 66), sc0)
def F_X11_pour (h : Mem) (a1 : Int) (a2 : Int) (a3 : Int) (a4 : Int) (a5 : Int) (Q : Int → Mem → Prop) : Prop :=
  (F_X10_isTray h a1 (fun r2 h1 => ((r2 = 0 → (F_X11_refuse h1 1 (fun r4 h3 => (InZ r4 ∧ Q r4 h3)))) ∧ (¬ (r2 = 0) → (F_X10_isTray h1 a3 (fun r6 h5 => ((r6 = 0 → (F_X11_refuse h5 1 (fun r8 h7 => (InZ r8 ∧ Q r8 h7)))) ∧ (¬ (r6 = 0) → ((a2 < 0 → (F_X11_refuse h5 1 (fun r10 h9 => (InZ r10 ∧ Q r10 h9)))) ∧ (¬ (a2 < 0) → ((a4 < 0 → (F_X11_refuse h5 1 (fun r12 h11 => (InZ r12 ∧ Q r12 h11)))) ∧ (¬ (a4 < 0) → ((0 ≤ a5 → (F_X10_isMissing h5 a1 (fun r14 h13 => ((¬ (r14 = 0) → (F_X11_refuse h13 2 (fun r16 h15 => (InZ r16 ∧ Q r16 h15)))) ∧ (r14 = 0 → (F_X10_isMissing h13 a3 (fun r18 h17 => ((r18 = 0 → ((0 ≤ a1 ∧ a1 < 4) ∧ ((0 ≤ a3 ∧ a3 < 4) ∧ (((h17 2 (a1).toNat) = (h17 2 (a3).toNat) → (InL (a2 + a5) ∧ (((h17 3 (a1).toNat) < (a2 + a5) → (F_X11_refuse h17 3 (fun r26 h25 => (InZ r26 ∧ Q r26 h25)))) ∧ (¬ ((h17 3 (a1).toNat) < (a2 + a5)) → (InL (a4 + a5) ∧ (((a4 + a5) ≤ (h17 3 (a3).toNat) → (((0 : Int) ≤ a2 ∧ (0 : Int) ≤ a4 ∧ (0 : Int) ≤ a5 ∧ a2 + a5 ≤ 60 ∧ a4 + a5 ≤ 60) ∧ (∀ h29 : Mem, h29 = mcpy h17 (4 + 1 + 1 * (a1).toNat) (a2).toNat (4 + 1 + 1 * (a3).toNat) (a4).toNat (a5).toNat → (F_X11_accept h29  (fun r32 h31 => (InZ r32 ∧ Q r32 h31)))))) ∧ (¬ ((a4 + a5) ≤ (h17 3 (a3).toNat)) → (F_X11_refuse h17 3 (fun r34 h33 => (InZ r34 ∧ Q r34 h33)))))))))) ∧ (¬ ((h17 2 (a1).toNat) = (h17 2 (a3).toNat)) → (F_X11_refuse h17 8 (fun r36 h35 => (InZ r36 ∧ Q r36 h35)))))))) ∧ (¬ (r18 = 0) → (F_X11_refuse h17 2 (fun r38 h37 => (InZ r38 ∧ Q r38 h37)))))))))))) ∧ (¬ (0 ≤ a5) → (F_X11_refuse h5 1 (fun r40 h39 => (InZ r40 ∧ Q r40 h39)))))))))))))))))
set_option maxRecDepth 100000 in
set_option maxHeartbeats 4000000 in
theorem f_X11_pour {h : Mem} {a1 : Int} {a2 : Int} {a3 : Int} {a4 : Int} {a5 : Int} {Q : Int → Mem → Prop}  (hF : F_X11_pour h a1 a2 a3 a4 a5 Q) : Ct yX11_pour cX11_pour 6 (some .boolean) (2, 66) [vr 0, (0, a1), (0, a2), (0, a3), (0, a4), (0, a5)] h (qi Q) := by
  refine Ct.of np_RX11 (Nat.le_of_ble_eq_true rfl) ?_
  unfold F_X11_pour at hF
  show AW M_X11_pour 0 [(0, vr 0), (1, (0, a1)), (2, (0, a2)), (3, (0, a3)), (4, (0, a4)), (5, (0, a5))] [] h (qi Q)
  refine aw_aload_n (j := 0) (M := M_X11_pour) (pc := 0) dX11_pour_0 rfl rfl ?_
  refine gf_X11_19 (M := M_X11_pour) (pc := 1) rfl dX11_pour_1 rfl (r := 1) rfl ?_
  refine aw_iload_n (j := 1) (M := M_X11_pour) (pc := 4) dX11_pour_4 rfl rfl ?_
  refine aw_cvi (as := [(0, a1)]) (st := []) (M := M_X11_pour) (pc := 5) (f_X10_isTray  hF) dX11_pour_5 rfl (Or.inl ⟨_, _, _, rfl, rfl⟩) cy_X10_isTray ml_X11_135 (by decide) (by decide) (Nat.le_of_ble_eq_true rfl) (fun r2 h1 hF => ?_)
  refine aw_if_eq (tgt := 36) (M := M_X11_pour) (pc := 8) dX11_pour_8 rfl (fun hc => ?_) (fun hc => ?_)
  · have hF := hF.1 hc
    refine aw_aload_n (j := 0) (M := M_X11_pour) (pc := 36) dX11_pour_36 rfl rfl ?_
    refine aw_iconst (M := M_X11_pour) (pc := 37) dX11_pour_37 ⟨by decide, by decide⟩ ?_
    refine aw_cvi (as := [(0, 1)]) (st := []) (M := M_X11_pour) (pc := 38) (f_X11_refuse  hF) dX11_pour_38 rfl (Or.inl ⟨_, _, _, rfl, rfl⟩) cy_X11_refuse ml_X11_109 (by decide) (by decide) (Nat.le_of_ble_eq_true rfl) (fun r4 h3 hF => ?_)
    exact aw_iretz (M := M_X11_pour) (pc := 41) dX11_pour_41 rfl hF.1 ⟨_, rfl, hF.2⟩
  · have hF := hF.2 hc
    refine aw_aload_n (j := 0) (M := M_X11_pour) (pc := 11) dX11_pour_11 rfl rfl ?_
    refine gf_X11_19 (M := M_X11_pour) (pc := 12) rfl dX11_pour_12 rfl (r := 1) rfl ?_
    refine aw_iload_n (j := 3) (M := M_X11_pour) (pc := 15) dX11_pour_15 rfl rfl ?_
    refine aw_cvi (as := [(0, a3)]) (st := []) (M := M_X11_pour) (pc := 16) (f_X10_isTray  hF) dX11_pour_16 rfl (Or.inl ⟨_, _, _, rfl, rfl⟩) cy_X10_isTray ml_X11_135 (by decide) (by decide) (Nat.le_of_ble_eq_true rfl) (fun r6 h5 hF => ?_)
    refine aw_if_eq (tgt := 36) (M := M_X11_pour) (pc := 19) dX11_pour_19 rfl (fun hc => ?_) (fun hc => ?_)
    · have hF := hF.1 hc
      refine aw_aload_n (j := 0) (M := M_X11_pour) (pc := 36) dX11_pour_36 rfl rfl ?_
      refine aw_iconst (M := M_X11_pour) (pc := 37) dX11_pour_37 ⟨by decide, by decide⟩ ?_
      refine aw_cvi (as := [(0, 1)]) (st := []) (M := M_X11_pour) (pc := 38) (f_X11_refuse  hF) dX11_pour_38 rfl (Or.inl ⟨_, _, _, rfl, rfl⟩) cy_X11_refuse ml_X11_109 (by decide) (by decide) (Nat.le_of_ble_eq_true rfl) (fun r8 h7 hF => ?_)
      exact aw_iretz (M := M_X11_pour) (pc := 41) dX11_pour_41 rfl hF.1 ⟨_, rfl, hF.2⟩
    · have hF := hF.2 hc
      refine aw_iload_n (j := 2) (M := M_X11_pour) (pc := 22) dX11_pour_22 rfl rfl ?_
      refine aw_if_lt (tgt := 36) (M := M_X11_pour) (pc := 23) dX11_pour_23 rfl (fun hc => ?_) (fun hc => ?_)
      · have hF := hF.1 hc
        refine aw_aload_n (j := 0) (M := M_X11_pour) (pc := 36) dX11_pour_36 rfl rfl ?_
        refine aw_iconst (M := M_X11_pour) (pc := 37) dX11_pour_37 ⟨by decide, by decide⟩ ?_
        refine aw_cvi (as := [(0, 1)]) (st := []) (M := M_X11_pour) (pc := 38) (f_X11_refuse  hF) dX11_pour_38 rfl (Or.inl ⟨_, _, _, rfl, rfl⟩) cy_X11_refuse ml_X11_109 (by decide) (by decide) (Nat.le_of_ble_eq_true rfl) (fun r10 h9 hF => ?_)
        exact aw_iretz (M := M_X11_pour) (pc := 41) dX11_pour_41 rfl hF.1 ⟨_, rfl, hF.2⟩
      · have hF := hF.2 hc
        refine aw_iload (j := 4) (M := M_X11_pour) (pc := 26) dX11_pour_26  rfl ?_
        refine aw_if_lt (tgt := 36) (M := M_X11_pour) (pc := 28) dX11_pour_28 rfl (fun hc => ?_) (fun hc => ?_)
        · have hF := hF.1 hc
          refine aw_aload_n (j := 0) (M := M_X11_pour) (pc := 36) dX11_pour_36 rfl rfl ?_
          refine aw_iconst (M := M_X11_pour) (pc := 37) dX11_pour_37 ⟨by decide, by decide⟩ ?_
          refine aw_cvi (as := [(0, 1)]) (st := []) (M := M_X11_pour) (pc := 38) (f_X11_refuse  hF) dX11_pour_38 rfl (Or.inl ⟨_, _, _, rfl, rfl⟩) cy_X11_refuse ml_X11_109 (by decide) (by decide) (Nat.le_of_ble_eq_true rfl) (fun r12 h11 hF => ?_)
          exact aw_iretz (M := M_X11_pour) (pc := 41) dX11_pour_41 rfl hF.1 ⟨_, rfl, hF.2⟩
        · have hF := hF.2 hc
          refine aw_iload (j := 5) (M := M_X11_pour) (pc := 31) dX11_pour_31  rfl ?_
          refine aw_if_ge (tgt := 42) (M := M_X11_pour) (pc := 33) dX11_pour_33 rfl (fun hc => ?_) (fun hc => ?_)
          · have hF := hF.1 hc
            refine aw_aload_n (j := 0) (M := M_X11_pour) (pc := 42) dX11_pour_42 rfl rfl ?_
            refine gf_X11_19 (M := M_X11_pour) (pc := 43) rfl dX11_pour_43 rfl (r := 1) rfl ?_
            refine aw_iload_n (j := 1) (M := M_X11_pour) (pc := 46) dX11_pour_46 rfl rfl ?_
            refine aw_cvi (as := [(0, a1)]) (st := []) (M := M_X11_pour) (pc := 47) (f_X10_isMissing  hF) dX11_pour_47 rfl (Or.inl ⟨_, _, _, rfl, rfl⟩) cy_X10_isMissing ml_X11_138 (by decide) (by decide) (Nat.le_of_ble_eq_true rfl) (fun r14 h13 hF => ?_)
            refine aw_if_ne (tgt := 64) (M := M_X11_pour) (pc := 50) dX11_pour_50 rfl (fun hc => ?_) (fun hc => ?_)
            · have hF := hF.1 hc
              refine aw_aload_n (j := 0) (M := M_X11_pour) (pc := 64) dX11_pour_64 rfl rfl ?_
              refine aw_iconst (M := M_X11_pour) (pc := 65) dX11_pour_65 ⟨by decide, by decide⟩ ?_
              refine aw_cvi (as := [(0, 2)]) (st := []) (M := M_X11_pour) (pc := 66) (f_X11_refuse  hF) dX11_pour_66 rfl (Or.inl ⟨_, _, _, rfl, rfl⟩) cy_X11_refuse ml_X11_109 (by decide) (by decide) (Nat.le_of_ble_eq_true rfl) (fun r16 h15 hF => ?_)
              exact aw_iretz (M := M_X11_pour) (pc := 69) dX11_pour_69 rfl hF.1 ⟨_, rfl, hF.2⟩
            · have hF := hF.2 hc
              refine aw_aload_n (j := 0) (M := M_X11_pour) (pc := 53) dX11_pour_53 rfl rfl ?_
              refine gf_X11_19 (M := M_X11_pour) (pc := 54) rfl dX11_pour_54 rfl (r := 1) rfl ?_
              refine aw_iload_n (j := 3) (M := M_X11_pour) (pc := 57) dX11_pour_57 rfl rfl ?_
              refine aw_cvi (as := [(0, a3)]) (st := []) (M := M_X11_pour) (pc := 58) (f_X10_isMissing  hF) dX11_pour_58 rfl (Or.inl ⟨_, _, _, rfl, rfl⟩) cy_X10_isMissing ml_X11_138 (by decide) (by decide) (Nat.le_of_ble_eq_true rfl) (fun r18 h17 hF => ?_)
              refine aw_if_eq (tgt := 70) (M := M_X11_pour) (pc := 61) dX11_pour_61 rfl (fun hc => ?_) (fun hc => ?_)
              · have hF := hF.1 hc
                refine aw_aload_n (j := 0) (M := M_X11_pour) (pc := 70) dX11_pour_70 rfl rfl ?_
                refine gf_X11_19 (M := M_X11_pour) (pc := 71) rfl dX11_pour_71 rfl (r := 1) rfl ?_
                refine gf_X11_141 (M := M_X11_pour) (pc := 74) rfl dX11_pour_74 rfl (r := 2) rfl ?_
                refine aw_iload_n (j := 1) (M := M_X11_pour) (pc := 77) dX11_pour_77 rfl rfl ?_
                obtain ⟨o20, hF⟩ := hF
                refine aw_iald (k := (a1).toNat) (M := M_X11_pour) (pc := 78) dX11_pour_78 rfl o20 rfl ?_
                refine aw_aload_n (j := 0) (M := M_X11_pour) (pc := 79) dX11_pour_79 rfl rfl ?_
                refine gf_X11_19 (M := M_X11_pour) (pc := 80) rfl dX11_pour_80 rfl (r := 1) rfl ?_
                refine gf_X11_141 (M := M_X11_pour) (pc := 83) rfl dX11_pour_83 rfl (r := 2) rfl ?_
                refine aw_iload_n (j := 3) (M := M_X11_pour) (pc := 86) dX11_pour_86 rfl rfl ?_
                obtain ⟨o22, hF⟩ := hF
                refine aw_iald (k := (a3).toNat) (M := M_X11_pour) (pc := 87) dX11_pour_87 rfl o22 rfl ?_
                refine aw_icmp_eq (tgt := 98) (M := M_X11_pour) (pc := 88) dX11_pour_88 rfl (fun hc => ?_) (fun hc => ?_)
                · have hF := hF.1 hc
                  refine aw_iload_n (j := 2) (M := M_X11_pour) (pc := 98) dX11_pour_98 rfl rfl ?_
                  refine aw_i2l (M := M_X11_pour) (pc := 99) dX11_pour_99 ?_
                  refine aw_iload (j := 5) (M := M_X11_pour) (pc := 100) dX11_pour_100  rfl ?_
                  refine aw_i2l (M := M_X11_pour) (pc := 102) dX11_pour_102 ?_
                  obtain ⟨o23, hF⟩ := hF
                  refine aw_ladd (M := M_X11_pour) (pc := 103) dX11_pour_103 rfl o23 ?_
                  refine aw_aload_n (j := 0) (M := M_X11_pour) (pc := 104) dX11_pour_104 rfl rfl ?_
                  refine gf_X11_19 (M := M_X11_pour) (pc := 105) rfl dX11_pour_105 rfl (r := 1) rfl ?_
                  refine gf_X11_144 (M := M_X11_pour) (pc := 108) rfl dX11_pour_108 rfl (r := 3) rfl ?_
                  refine aw_iload_n (j := 1) (M := M_X11_pour) (pc := 111) dX11_pour_111 rfl rfl ?_
                  refine aw_iald (k := (a1).toNat) (M := M_X11_pour) (pc := 112) dX11_pour_112 rfl o20 rfl ?_
                  refine aw_i2l (M := M_X11_pour) (pc := 113) dX11_pour_113 ?_
                  refine aw_lcmp (M := M_X11_pour) (pc := 114) dX11_pour_114 ?_
                  refine aw_if_gt (tgt := 139) (M := M_X11_pour) (pc := 115) dX11_pour_115 rfl (fun hc => ?_) (fun hc => ?_)
                  · have hF := hF.1 (lc_gt.mp hc)
                    refine aw_aload_n (j := 0) (M := M_X11_pour) (pc := 139) dX11_pour_139 rfl rfl ?_
                    refine aw_iconst (M := M_X11_pour) (pc := 140) dX11_pour_140 ⟨by decide, by decide⟩ ?_
                    refine aw_cvi (as := [(0, 3)]) (st := []) (M := M_X11_pour) (pc := 141) (f_X11_refuse  hF) dX11_pour_141 rfl (Or.inl ⟨_, _, _, rfl, rfl⟩) cy_X11_refuse ml_X11_109 (by decide) (by decide) (Nat.le_of_ble_eq_true rfl) (fun r26 h25 hF => ?_)
                    exact aw_iretz (M := M_X11_pour) (pc := 144) dX11_pour_144 rfl hF.1 ⟨_, rfl, hF.2⟩
                  · have hF := hF.2 (fun z => hc (lc_gt.mpr z))
                    refine aw_iload (j := 4) (M := M_X11_pour) (pc := 118) dX11_pour_118  rfl ?_
                    refine aw_i2l (M := M_X11_pour) (pc := 120) dX11_pour_120 ?_
                    refine aw_iload (j := 5) (M := M_X11_pour) (pc := 121) dX11_pour_121  rfl ?_
                    refine aw_i2l (M := M_X11_pour) (pc := 123) dX11_pour_123 ?_
                    obtain ⟨o27, hF⟩ := hF
                    refine aw_ladd (M := M_X11_pour) (pc := 124) dX11_pour_124 rfl o27 ?_
                    refine aw_aload_n (j := 0) (M := M_X11_pour) (pc := 125) dX11_pour_125 rfl rfl ?_
                    refine gf_X11_19 (M := M_X11_pour) (pc := 126) rfl dX11_pour_126 rfl (r := 1) rfl ?_
                    refine gf_X11_144 (M := M_X11_pour) (pc := 129) rfl dX11_pour_129 rfl (r := 3) rfl ?_
                    refine aw_iload_n (j := 3) (M := M_X11_pour) (pc := 132) dX11_pour_132 rfl rfl ?_
                    refine aw_iald (k := (a3).toNat) (M := M_X11_pour) (pc := 133) dX11_pour_133 rfl o22 rfl ?_
                    refine aw_i2l (M := M_X11_pour) (pc := 134) dX11_pour_134 ?_
                    refine aw_lcmp (M := M_X11_pour) (pc := 135) dX11_pour_135 ?_
                    refine aw_if_le (tgt := 145) (M := M_X11_pour) (pc := 136) dX11_pour_136 rfl (fun hc => ?_) (fun hc => ?_)
                    · have hF := hF.1 (lc_le.mp hc)
                      refine aw_aload_n (j := 0) (M := M_X11_pour) (pc := 145) dX11_pour_145 rfl rfl ?_
                      refine gf_X11_19 (M := M_X11_pour) (pc := 146) rfl dX11_pour_146 rfl (r := 1) rfl ?_
                      refine gf_X11_129 (M := M_X11_pour) (pc := 149) rfl dX11_pour_149 rfl (r := 4) rfl ?_
                      refine aw_iload_n (j := 1) (M := M_X11_pour) (pc := 152) dX11_pour_152 rfl rfl ?_
                      refine aw_ald7 (M := M_X11_pour) (pc := 153) dX11_pour_153 rfl o20 ?_
                      refine aw_iload_n (j := 2) (M := M_X11_pour) (pc := 154) dX11_pour_154 rfl rfl ?_
                      refine aw_aload_n (j := 0) (M := M_X11_pour) (pc := 155) dX11_pour_155 rfl rfl ?_
                      refine gf_X11_19 (M := M_X11_pour) (pc := 156) rfl dX11_pour_156 rfl (r := 1) rfl ?_
                      refine gf_X11_129 (M := M_X11_pour) (pc := 159) rfl dX11_pour_159 rfl (r := 4) rfl ?_
                      refine aw_iload_n (j := 3) (M := M_X11_pour) (pc := 162) dX11_pour_162 rfl rfl ?_
                      refine aw_ald7 (M := M_X11_pour) (pc := 163) dX11_pour_163 rfl o22 ?_
                      refine aw_iload (j := 4) (M := M_X11_pour) (pc := 164) dX11_pour_164  rfl ?_
                      refine aw_iload (j := 5) (M := M_X11_pour) (pc := 166) dX11_pour_166  rfl ?_
                      obtain ⟨o30, hF⟩ := hF
                      refine aw_copyl (M := M_X11_pour) (pc := 168) dX11_pour_168 ml_X11_147 (le_7 o20) (le_7 o22) o30 (by decide) (Nat.le_of_ble_eq_true rfl) (k1 := (a2).toNat) (k2 := (a4).toNat) (k3 := (a5).toNat) ⟨rfl, rfl, rfl⟩ ?_
                      obtain ⟨h29, eh29⟩ : ∃ y : Mem, y = mcpy h17 (4 + 1 + 1 * (a1).toNat) (a2).toNat (4 + 1 + 1 * (a3).toNat) (a4).toNat (a5).toNat := ⟨_, rfl⟩
                      have hF := hF h29 eh29
                      rw [← eh29]
                      refine aw_aload_n (j := 0) (M := M_X11_pour) (pc := 171) dX11_pour_171 rfl rfl ?_
                      refine aw_cvi (as := []) (st := []) (M := M_X11_pour) (pc := 172) (f_X11_accept  hF) dX11_pour_172 rfl (Or.inl ⟨_, _, _, rfl, rfl⟩) cy_X11_accept ml_X11_117 (by decide) (by decide) (Nat.le_of_ble_eq_true rfl) (fun r32 h31 hF => ?_)
                      exact aw_iretz (M := M_X11_pour) (pc := 175) dX11_pour_175 rfl hF.1 ⟨_, rfl, hF.2⟩
                    · have hF := hF.2 (fun z => hc (lc_le.mpr z))
                      refine aw_aload_n (j := 0) (M := M_X11_pour) (pc := 139) dX11_pour_139 rfl rfl ?_
                      refine aw_iconst (M := M_X11_pour) (pc := 140) dX11_pour_140 ⟨by decide, by decide⟩ ?_
                      refine aw_cvi (as := [(0, 3)]) (st := []) (M := M_X11_pour) (pc := 141) (f_X11_refuse  hF) dX11_pour_141 rfl (Or.inl ⟨_, _, _, rfl, rfl⟩) cy_X11_refuse ml_X11_109 (by decide) (by decide) (Nat.le_of_ble_eq_true rfl) (fun r34 h33 hF => ?_)
                      exact aw_iretz (M := M_X11_pour) (pc := 144) dX11_pour_144 rfl hF.1 ⟨_, rfl, hF.2⟩
                · have hF := hF.2 hc
                  refine aw_aload_n (j := 0) (M := M_X11_pour) (pc := 91) dX11_pour_91 rfl rfl ?_
                  refine aw_bipush (M := M_X11_pour) (pc := 92) dX11_pour_92 ⟨rfl, ⟨by decide, by decide⟩⟩ ?_
                  refine aw_cvi (as := [(0, 8)]) (st := []) (M := M_X11_pour) (pc := 94) (f_X11_refuse  hF) dX11_pour_94 rfl (Or.inl ⟨_, _, _, rfl, rfl⟩) cy_X11_refuse ml_X11_109 (by decide) (by decide) (Nat.le_of_ble_eq_true rfl) (fun r36 h35 hF => ?_)
                  exact aw_iretz (M := M_X11_pour) (pc := 97) dX11_pour_97 rfl hF.1 ⟨_, rfl, hF.2⟩
              · have hF := hF.2 hc
                refine aw_aload_n (j := 0) (M := M_X11_pour) (pc := 64) dX11_pour_64 rfl rfl ?_
                refine aw_iconst (M := M_X11_pour) (pc := 65) dX11_pour_65 ⟨by decide, by decide⟩ ?_
                refine aw_cvi (as := [(0, 2)]) (st := []) (M := M_X11_pour) (pc := 66) (f_X11_refuse  hF) dX11_pour_66 rfl (Or.inl ⟨_, _, _, rfl, rfl⟩) cy_X11_refuse ml_X11_109 (by decide) (by decide) (Nat.le_of_ble_eq_true rfl) (fun r38 h37 hF => ?_)
                exact aw_iretz (M := M_X11_pour) (pc := 69) dX11_pour_69 rfl hF.1 ⟨_, rfl, hF.2⟩
          · have hF := hF.2 hc
            refine aw_aload_n (j := 0) (M := M_X11_pour) (pc := 36) dX11_pour_36 rfl rfl ?_
            refine aw_iconst (M := M_X11_pour) (pc := 37) dX11_pour_37 ⟨by decide, by decide⟩ ?_
            refine aw_cvi (as := [(0, 1)]) (st := []) (M := M_X11_pour) (pc := 38) (f_X11_refuse  hF) dX11_pour_38 rfl (Or.inl ⟨_, _, _, rfl, rfl⟩) cy_X11_refuse ml_X11_109 (by decide) (by decide) (Nat.le_of_ble_eq_true rfl) (fun r40 h39 hF => ?_)
            exact aw_iretz (M := M_X11_pour) (pc := 41) dX11_pour_41 rfl hF.1 ⟨_, rfl, hF.2⟩
abbrev M_X11_power : Hd := (cX11_power, 6, RX11, (some .long), (1, 45), sc0)
def L_X11_power_5 (h : Mem) (v0 : Int) (v2 : Int) (v3 : Int) (v5 : Int) (Q : Int → Mem → Prop) : Prop := AW M_X11_power 5 [(0, (1, v0)), (2, (0, v2)), (3, (1, v3)), (5, (0, v5))] [] h (ql Q)
def B_X11_power_5 (h : Mem) (v0 : Int) (v2 : Int) (v3 : Int) (v5 : Int) (Q : Int → Mem → Prop) : Prop :=
  ((v2 ≤ v5 → Q v3 h) ∧ (¬ (v2 ≤ v5) → (InL (v3 * v0) ∧ (InR (v5 + 1) ∧ L_X11_power_5 h v0 v2 (v3 * v0) (v5 + 1) Q))))
set_option maxRecDepth 100000 in
set_option maxHeartbeats 4000000 in
theorem l_X11_power_5 {h : Mem} {v0 : Int} {v2 : Int} {v3 : Int} {v5 : Int} {Q : Int → Mem → Prop}  (hF : B_X11_power_5 h v0 v2 v3 v5 Q) : L_X11_power_5 h v0 v2 v3 v5 Q := by
  unfold B_X11_power_5 at hF
  show AW M_X11_power 5 [(0, (1, v0)), (2, (0, v2)), (3, (1, v3)), (5, (0, v5))] [] h (ql Q)
  refine aw_iload (j := 3) (M := M_X11_power) (pc := 5) dX11_power_5  rfl ?_
  refine aw_iload_n (j := 1) (M := M_X11_power) (pc := 7) dX11_power_7 rfl rfl ?_
  refine aw_icmp_ge (tgt := 21) (M := M_X11_power) (pc := 8) dX11_power_8 rfl (fun hc => ?_) (fun hc => ?_)
  · have hF := hF.1 hc
    refine aw_lload_n (j := 2) (M := M_X11_power) (pc := 21) dX11_power_21 rfl rfl ?_
    exact aw_lret (M := M_X11_power) (pc := 22) dX11_power_22 rfl ⟨_, rfl, hF⟩
  · have hF := hF.2 hc
    refine aw_lload_n (j := 2) (M := M_X11_power) (pc := 11) dX11_power_11 rfl rfl ?_
    refine aw_lload_n (j := 0) (M := M_X11_power) (pc := 12) dX11_power_12 rfl rfl ?_
    obtain ⟨o1, hF⟩ := hF
    refine aw_lmul (M := M_X11_power) (pc := 13) dX11_power_13 rfl o1 ?_
    refine aw_lstore_n (ls' := [(3, (1, v3 * v0)), (0, (1, v0)), (2, (0, v2)), (5, (0, v5))]) (M := M_X11_power) (pc := 14) dX11_power_14 rfl (by decide) rfl ?_
    obtain ⟨o2, hF⟩ := hF
    refine aw_iinc (j := 3) (x := v5) (r := v5 + 1) (ls' := [(5, (0, v5 + 1)), (3, (1, v3 * v0)), (0, (1, v0)), (2, (0, v2))]) (M := M_X11_power) (pc := 15) dX11_power_15 rfl rfl o2 (by decide) rfl ?_
    refine aw_goto (tgt := 5) (M := M_X11_power) (pc := 18) dX11_power_18 rfl ?_
    exact aw_ls [2, 3, 1, 0] rfl hF
def F_X11_power (h : Mem) (a1 : Int) (a2 : Int) (Q : Int → Mem → Prop) : Prop :=
  L_X11_power_5 h a1 a2 1 0 Q
set_option maxRecDepth 100000 in
set_option maxHeartbeats 4000000 in
theorem f_X11_power {h : Mem} {a1 : Int} {a2 : Int} {Q : Int → Mem → Prop}  (hF : F_X11_power h a1 a2 Q) : Ct yX11_power cX11_power 6 (some .long) (1, 45) [(1, a1), (0, a2)] h (ql Q) := by
  refine Ct.of np_RX11 (Nat.le_of_ble_eq_true rfl) ?_
  unfold F_X11_power at hF
  show AW M_X11_power 0 [(0, (1, a1)), (2, (0, a2))] [] h (ql Q)
  refine aw_lconst (v := 1) (M := M_X11_power) (pc := 0) dX11_power_0 ⟨rfl, ⟨by decide, by decide⟩⟩ ?_
  refine aw_lstore_n (ls' := [(3, (1, 1)), (0, (1, a1)), (2, (0, a2))]) (M := M_X11_power) (pc := 1) dX11_power_1 rfl (by decide) rfl ?_
  refine aw_iconst (M := M_X11_power) (pc := 2) dX11_power_2 ⟨by decide, by decide⟩ ?_
  refine aw_istore (ls' := [(5, (0, 0)), (3, (1, 1)), (0, (1, a1)), (2, (0, a2))]) (M := M_X11_power) (pc := 3) dX11_power_3  (by decide) rfl ?_
  exact aw_ls [2, 3, 1, 0] rfl hF
abbrev M_X11_quietIn : Hd := (cX11_quietIn, 1, RX11, (some .int), (5, 138), sc0)
def F_X11_quietIn (h : Mem)  (Q : Int → Mem → Prop) : Prop :=
  (F_X4_copyFrom h 146 12 (fun h1 => (F_X4_hoursTillQuiet h1 146 400 (fun r4 h3 => (F_X11_givenOrNone h3 r4 (fun r6 h5 => Q r6 h5))))))
set_option maxRecDepth 100000 in
set_option maxHeartbeats 4000000 in
theorem f_X11_quietIn {h : Mem}  {Q : Int → Mem → Prop}  (hF : F_X11_quietIn h  Q) : Ct yX11_quietIn cX11_quietIn 1 (some .int) (5, 138) [vr 0] h (qi Q) := by
  refine Ct.of np_RX11 (Nat.le_of_ble_eq_true rfl) ?_
  unfold F_X11_quietIn at hF
  show AW M_X11_quietIn 0 [(0, vr 0)] [] h (qi Q)
  refine aw_aload_n (j := 0) (M := M_X11_quietIn) (pc := 0) dX11_quietIn_0 rfl rfl ?_
  refine gf_X11_44 (M := M_X11_quietIn) (pc := 1) rfl dX11_quietIn_1 rfl (r := 146) rfl ?_
  refine aw_aload_n (j := 0) (M := M_X11_quietIn) (pc := 4) dX11_quietIn_4 rfl rfl ?_
  refine gf_X11_33 (M := M_X11_quietIn) (pc := 5) rfl dX11_quietIn_5 rfl (r := 12) rfl ?_
  refine aw_cvv (as := [vr 12]) (st := []) (M := M_X11_quietIn) (pc := 8) (f_X4_copyFrom rfl rfl hF) dX11_quietIn_8 rfl (Or.inl ⟨_, _, _, rfl, rfl⟩) cy_X4_copyFrom ml_X11_177 (by decide) (by decide) (Nat.le_of_ble_eq_true rfl) (fun h1 hF => ?_)
  refine aw_aload_n (j := 0) (M := M_X11_quietIn) (pc := 11) dX11_quietIn_11 rfl rfl ?_
  refine aw_aload_n (j := 0) (M := M_X11_quietIn) (pc := 12) dX11_quietIn_12 rfl rfl ?_
  refine gf_X11_44 (M := M_X11_quietIn) (pc := 13) rfl dX11_quietIn_13 rfl (r := 146) rfl ?_
  refine aw_sipush (M := M_X11_quietIn) (pc := 16) dX11_quietIn_16 ⟨rfl, ⟨by decide, by decide⟩⟩ ?_
  refine aw_cvi (as := [(0, 400)]) (st := [vr 0]) (M := M_X11_quietIn) (pc := 19) (f_X4_hoursTillQuiet rfl hF) dX11_quietIn_19 rfl (Or.inl ⟨_, _, _, rfl, rfl⟩) cy_X4_hoursTillQuiet ml_X11_328 (by decide) (by decide) (Nat.le_of_ble_eq_true rfl) (fun r4 h3 hF => ?_)
  refine aw_cvi (as := [(0, r4)]) (st := []) (M := M_X11_quietIn) (pc := 22) (f_X11_givenOrNone  hF) dX11_quietIn_22 rfl (Or.inl ⟨_, _, _, rfl, rfl⟩) cy_X11_givenOrNone ml_X11_322 (by decide) (by decide) (Nat.le_of_ble_eq_true rfl) (fun r6 h5 hF => ?_)
  exact aw_ireti (M := M_X11_quietIn) (pc := 25) dX11_quietIn_25 rfl ⟨_, rfl, hF⟩
abbrev M_X11_wetWays : Hd := (cX11_wetWays, 8, RX11, (some .long), (2, 70), sc0)
def L_X11_wetWays_8 (h : Mem) (v0 : Int) (v1 : Int) (v2 : Int) (v3 : Int) (v5 : Int) (v7 : Int) (Q : Int → Mem → Prop) : Prop := AW M_X11_wetWays 8 [(0, (0, v0)), (1, (0, v1)), (2, (0, v2)), (3, (1, v3)), (5, (1, v5)), (7, (0, v7))] [] h (ql Q)
def J_X11_wetWays_46 (h : Mem) (v0 : Int) (v1 : Int) (v2 : Int) (v3 : Int) (v5 : Int) (v7 : Int) (Q : Int → Mem → Prop) : Prop :=
  (InR (v0 - v7) ∧ (InL (v5 * (v0 - v7)) ∧ (InR (v7 + 1) ∧ ((v7 + 1) ≠ 0 ∧ InL ((v5 * (v0 - v7) : Int).tdiv (v7 + 1)) ∧ (∀ x16 : Int, x16 = (v5 * (v0 - v7) : Int).tdiv (v7 + 1) → L_X11_wetWays_8 h v0 v1 v2 v3 x16 (v7 + 1) Q)))))
set_option maxRecDepth 100000 in
set_option maxHeartbeats 4000000 in
theorem j_X11_wetWays_46 {h : Mem} {v0 : Int} {v1 : Int} {v2 : Int} {v3 : Int} {v5 : Int} {v7 : Int} {Q : Int → Mem → Prop}  (hF : J_X11_wetWays_46 h v0 v1 v2 v3 v5 v7 Q) : AW M_X11_wetWays 46 [(0, (0, v0)), (1, (0, v1)), (2, (0, v2)), (3, (1, v3)), (5, (1, v5)), (7, (0, v7))] [] h (ql Q) := by
  unfold J_X11_wetWays_46 at hF
  refine aw_lload (j := 4) (M := M_X11_wetWays) (pc := 46) dX11_wetWays_46  rfl ?_
  refine aw_iload_n (j := 0) (M := M_X11_wetWays) (pc := 48) dX11_wetWays_48 rfl rfl ?_
  refine aw_iload (j := 5) (M := M_X11_wetWays) (pc := 49) dX11_wetWays_49  rfl ?_
  obtain ⟨o11, hF⟩ := hF
  refine aw_isub (M := M_X11_wetWays) (pc := 51) dX11_wetWays_51 rfl o11 ?_
  refine aw_i2l (M := M_X11_wetWays) (pc := 52) dX11_wetWays_52 ?_
  obtain ⟨o12, hF⟩ := hF
  refine aw_lmul (M := M_X11_wetWays) (pc := 53) dX11_wetWays_53 rfl o12 ?_
  refine aw_iload (j := 5) (M := M_X11_wetWays) (pc := 54) dX11_wetWays_54  rfl ?_
  refine aw_iconst (M := M_X11_wetWays) (pc := 56) dX11_wetWays_56 ⟨by decide, by decide⟩ ?_
  obtain ⟨o13, hF⟩ := hF
  refine aw_iadd (M := M_X11_wetWays) (pc := 57) dX11_wetWays_57 rfl o13 ?_
  refine aw_i2l (M := M_X11_wetWays) (pc := 58) dX11_wetWays_58 ?_
  obtain ⟨o14, hF⟩ := hF
  obtain ⟨o15, hF⟩ := hF
  refine aw_ldiv (M := M_X11_wetWays) (pc := 59) dX11_wetWays_59 o14 o15 ?_
  obtain ⟨x16, ex16⟩ : ∃ y : Int, y = (v5 * (v0 - v7) : Int).tdiv (v7 + 1) := ⟨_, rfl⟩
  have hF := hF x16 ex16
  rw [← ex16]
  refine aw_lstore (ls' := [(5, (1, x16)), (0, (0, v0)), (1, (0, v1)), (2, (0, v2)), (3, (1, v3)), (7, (0, v7))]) (M := M_X11_wetWays) (pc := 60) dX11_wetWays_60  (by decide) rfl ?_
  refine aw_iinc (j := 5) (x := v7) (r := v7 + 1) (ls' := [(7, (0, v7 + 1)), (5, (1, x16)), (0, (0, v0)), (1, (0, v1)), (2, (0, v2)), (3, (1, v3))]) (M := M_X11_wetWays) (pc := 62) dX11_wetWays_62 rfl rfl o13 (by decide) rfl ?_
  refine aw_goto (tgt := 8) (M := M_X11_wetWays) (pc := 65) dX11_wetWays_65 rfl ?_
  exact aw_ls [2, 3, 4, 5, 1, 0] rfl hF
def B_X11_wetWays_8 (h : Mem) (v0 : Int) (v1 : Int) (v2 : Int) (v3 : Int) (v5 : Int) (v7 : Int) (Q : Int → Mem → Prop) : Prop :=
  ((v0 < v7 → Q v3 h) ∧ (¬ (v0 < v7) → ((v7 < v1 → J_X11_wetWays_46 h v0 v1 v2 v3 v5 v7 Q) ∧ (¬ (v7 < v1) → (F_X11_power h v2 v7 (fun r2 h1 => (InL (v5 * r2) ∧ (InR (16 - v2) ∧ (InR (v0 - v7) ∧ (F_X11_power h1 (16 - v2) (v0 - v7) (fun r7 h6 => (InL ((v5 * r2) * r7) ∧ (InL (v3 + ((v5 * r2) * r7)) ∧ (∀ x10 : Int, x10 = v3 + ((v5 * r2) * r7) → J_X11_wetWays_46 h6 v0 v1 v2 x10 v5 v7 Q))))))))))))))
set_option maxRecDepth 100000 in
set_option maxHeartbeats 4000000 in
theorem l_X11_wetWays_8 {h : Mem} {v0 : Int} {v1 : Int} {v2 : Int} {v3 : Int} {v5 : Int} {v7 : Int} {Q : Int → Mem → Prop}  (hF : B_X11_wetWays_8 h v0 v1 v2 v3 v5 v7 Q) : L_X11_wetWays_8 h v0 v1 v2 v3 v5 v7 Q := by
  unfold B_X11_wetWays_8 at hF
  show AW M_X11_wetWays 8 [(0, (0, v0)), (1, (0, v1)), (2, (0, v2)), (3, (1, v3)), (5, (1, v5)), (7, (0, v7))] [] h (ql Q)
  refine aw_iload (j := 5) (M := M_X11_wetWays) (pc := 8) dX11_wetWays_8  rfl ?_
  refine aw_iload_n (j := 0) (M := M_X11_wetWays) (pc := 10) dX11_wetWays_10 rfl rfl ?_
  refine aw_icmp_gt (tgt := 68) (M := M_X11_wetWays) (pc := 11) dX11_wetWays_11 rfl (fun hc => ?_) (fun hc => ?_)
  · have hF := hF.1 hc
    refine aw_lload_n (j := 3) (M := M_X11_wetWays) (pc := 68) dX11_wetWays_68 rfl rfl ?_
    exact aw_lret (M := M_X11_wetWays) (pc := 69) dX11_wetWays_69 rfl ⟨_, rfl, hF⟩
  · have hF := hF.2 hc
    refine aw_iload (j := 5) (M := M_X11_wetWays) (pc := 14) dX11_wetWays_14  rfl ?_
    refine aw_iload_n (j := 1) (M := M_X11_wetWays) (pc := 16) dX11_wetWays_16 rfl rfl ?_
    refine aw_icmp_lt (tgt := 46) (M := M_X11_wetWays) (pc := 17) dX11_wetWays_17 rfl (fun hc => ?_) (fun hc => ?_)
    · have hF := hF.1 hc
      exact aw_ls [0, 1, 2, 3, 4, 5] rfl (j_X11_wetWays_46  hF)
    · have hF := hF.2 hc
      refine aw_lload_n (j := 3) (M := M_X11_wetWays) (pc := 20) dX11_wetWays_20 rfl rfl ?_
      refine aw_lload (j := 4) (M := M_X11_wetWays) (pc := 21) dX11_wetWays_21  rfl ?_
      refine aw_iload_n (j := 2) (M := M_X11_wetWays) (pc := 23) dX11_wetWays_23 rfl rfl ?_
      refine aw_i2l (M := M_X11_wetWays) (pc := 24) dX11_wetWays_24 ?_
      refine aw_iload (j := 5) (M := M_X11_wetWays) (pc := 25) dX11_wetWays_25  rfl ?_
      refine aw_csl (as := [(1, v2), (0, v7)]) (st := [(1, v5), (1, v3)]) (M := M_X11_wetWays) (pc := 27) (f_X11_power  hF) dX11_wetWays_27 rfl cy_X11_power ml_X11_408 (by decide) (by decide) (Nat.le_of_ble_eq_true rfl) (fun r2 h1 hF => ?_)
      obtain ⟨o3, hF⟩ := hF
      refine aw_lmul (M := M_X11_wetWays) (pc := 30) dX11_wetWays_30 rfl o3 ?_
      refine aw_bipush (M := M_X11_wetWays) (pc := 31) dX11_wetWays_31 ⟨rfl, ⟨by decide, by decide⟩⟩ ?_
      refine aw_iload_n (j := 2) (M := M_X11_wetWays) (pc := 33) dX11_wetWays_33 rfl rfl ?_
      obtain ⟨o4, hF⟩ := hF
      refine aw_isub (M := M_X11_wetWays) (pc := 34) dX11_wetWays_34 rfl o4 ?_
      refine aw_i2l (M := M_X11_wetWays) (pc := 35) dX11_wetWays_35 ?_
      refine aw_iload_n (j := 0) (M := M_X11_wetWays) (pc := 36) dX11_wetWays_36 rfl rfl ?_
      refine aw_iload (j := 5) (M := M_X11_wetWays) (pc := 37) dX11_wetWays_37  rfl ?_
      obtain ⟨o5, hF⟩ := hF
      refine aw_isub (M := M_X11_wetWays) (pc := 39) dX11_wetWays_39 rfl o5 ?_
      refine aw_csl (as := [(1, 16 - v2), (0, v0 - v7)]) (st := [(1, v5 * r2), (1, v3)]) (M := M_X11_wetWays) (pc := 40) (f_X11_power  hF) dX11_wetWays_40 rfl cy_X11_power ml_X11_408 (by decide) (by decide) (Nat.le_of_ble_eq_true rfl) (fun r7 h6 hF => ?_)
      obtain ⟨o8, hF⟩ := hF
      refine aw_lmul (M := M_X11_wetWays) (pc := 43) dX11_wetWays_43 rfl o8 ?_
      obtain ⟨o9, hF⟩ := hF
      refine aw_ladd (M := M_X11_wetWays) (pc := 44) dX11_wetWays_44 rfl o9 ?_
      obtain ⟨x10, ex10⟩ : ∃ y : Int, y = v3 + ((v5 * r2) * r7) := ⟨_, rfl⟩
      have hF := hF x10 ex10
      rw [← ex10]
      refine aw_lstore_n (ls' := [(3, (1, x10)), (0, (0, v0)), (1, (0, v1)), (2, (0, v2)), (5, (1, v5)), (7, (0, v7))]) (M := M_X11_wetWays) (pc := 45) dX11_wetWays_45 rfl (by decide) rfl ?_
      exact aw_ls [1, 2, 3, 0, 4, 5] rfl (j_X11_wetWays_46  hF)
def F_X11_wetWays (h : Mem) (a1 : Int) (a2 : Int) (a3 : Int) (Q : Int → Mem → Prop) : Prop :=
  L_X11_wetWays_8 h a1 a2 a3 0 1 0 Q
set_option maxRecDepth 100000 in
set_option maxHeartbeats 4000000 in
theorem f_X11_wetWays {h : Mem} {a1 : Int} {a2 : Int} {a3 : Int} {Q : Int → Mem → Prop}  (hF : F_X11_wetWays h a1 a2 a3 Q) : Ct yX11_wetWays cX11_wetWays 8 (some .long) (2, 70) [(0, a1), (0, a2), (0, a3)] h (ql Q) := by
  refine Ct.of np_RX11 (Nat.le_of_ble_eq_true rfl) ?_
  unfold F_X11_wetWays at hF
  show AW M_X11_wetWays 0 [(0, (0, a1)), (1, (0, a2)), (2, (0, a3))] [] h (ql Q)
  refine aw_lconst (v := 0) (M := M_X11_wetWays) (pc := 0) dX11_wetWays_0 ⟨rfl, ⟨by decide, by decide⟩⟩ ?_
  refine aw_lstore_n (ls' := [(3, (1, 0)), (0, (0, a1)), (1, (0, a2)), (2, (0, a3))]) (M := M_X11_wetWays) (pc := 1) dX11_wetWays_1 rfl (by decide) rfl ?_
  refine aw_lconst (v := 1) (M := M_X11_wetWays) (pc := 2) dX11_wetWays_2 ⟨rfl, ⟨by decide, by decide⟩⟩ ?_
  refine aw_lstore (ls' := [(5, (1, 1)), (3, (1, 0)), (0, (0, a1)), (1, (0, a2)), (2, (0, a3))]) (M := M_X11_wetWays) (pc := 3) dX11_wetWays_3  (by decide) rfl ?_
  refine aw_iconst (M := M_X11_wetWays) (pc := 5) dX11_wetWays_5 ⟨by decide, by decide⟩ ?_
  refine aw_istore (ls' := [(7, (0, 0)), (5, (1, 1)), (3, (1, 0)), (0, (0, a1)), (1, (0, a2)), (2, (0, a3))]) (M := M_X11_wetWays) (pc := 6) dX11_wetWays_6  (by decide) rfl ?_
  exact aw_ls [3, 4, 5, 2, 1, 0] rfl hF
abbrev M_X11_rain : Hd := (cX11_rain, 3, RX11, (some .boolean), (3, 101), sc0)
def F_X11_rain (h : Mem) (a1 : Int) (a2 : Int) (Q : Int → Mem → Prop) : Prop :=
  (F_X11_outside h a1 0 12 (fun r2 h1 => ((¬ (r2 = 0) → (F_X11_refuse h1 1 (fun r4 h3 => (InZ r4 ∧ Q r4 h3)))) ∧ (r2 = 0 → (F_X11_outside h1 a2 0 12 (fun r6 h5 => ((r6 = 0 → (F_X11_wetWays h5 a1 a2 (h5 12 2) (fun r8 h7 => (F_X11_power h7 16 a1 (fun r10 h9 => (F_X11_tellFraction h9 r8 r10 (fun r12 h11 => (InZ r12 ∧ Q r12 h11)))))))) ∧ (¬ (r6 = 0) → (F_X11_refuse h5 1 (fun r14 h13 => (InZ r14 ∧ Q r14 h13)))))))))))
set_option maxRecDepth 100000 in
set_option maxHeartbeats 4000000 in
theorem f_X11_rain {h : Mem} {a1 : Int} {a2 : Int} {Q : Int → Mem → Prop}  (hF : F_X11_rain h a1 a2 Q) : Ct yX11_rain cX11_rain 3 (some .boolean) (3, 101) [vr 0, (0, a1), (0, a2)] h (qi Q) := by
  refine Ct.of np_RX11 (Nat.le_of_ble_eq_true rfl) ?_
  unfold F_X11_rain at hF
  show AW M_X11_rain 0 [(0, vr 0), (1, (0, a1)), (2, (0, a2))] [] h (qi Q)
  refine aw_iload_n (j := 1) (M := M_X11_rain) (pc := 0) dX11_rain_0 rfl rfl ?_
  refine aw_iconst (M := M_X11_rain) (pc := 1) dX11_rain_1 ⟨by decide, by decide⟩ ?_
  refine aw_bipush (M := M_X11_rain) (pc := 2) dX11_rain_2 ⟨rfl, ⟨by decide, by decide⟩⟩ ?_
  refine aw_csi (as := [(0, a1), (0, 0), (0, 12)]) (st := []) (M := M_X11_rain) (pc := 4) (f_X11_outside  hF) dX11_rain_4 rfl cy_X11_outside ml_X11_105 (by decide) (by decide) (Nat.le_of_ble_eq_true rfl) (fun r2 h1 hF => ?_)
  refine aw_if_ne (tgt := 20) (M := M_X11_rain) (pc := 7) dX11_rain_7 rfl (fun hc => ?_) (fun hc => ?_)
  · have hF := hF.1 hc
    refine aw_aload_n (j := 0) (M := M_X11_rain) (pc := 20) dX11_rain_20 rfl rfl ?_
    refine aw_iconst (M := M_X11_rain) (pc := 21) dX11_rain_21 ⟨by decide, by decide⟩ ?_
    refine aw_cvi (as := [(0, 1)]) (st := []) (M := M_X11_rain) (pc := 22) (f_X11_refuse  hF) dX11_rain_22 rfl (Or.inl ⟨_, _, _, rfl, rfl⟩) cy_X11_refuse ml_X11_109 (by decide) (by decide) (Nat.le_of_ble_eq_true rfl) (fun r4 h3 hF => ?_)
    exact aw_iretz (M := M_X11_rain) (pc := 25) dX11_rain_25 rfl hF.1 ⟨_, rfl, hF.2⟩
  · have hF := hF.2 hc
    refine aw_iload_n (j := 2) (M := M_X11_rain) (pc := 10) dX11_rain_10 rfl rfl ?_
    refine aw_iconst (M := M_X11_rain) (pc := 11) dX11_rain_11 ⟨by decide, by decide⟩ ?_
    refine aw_bipush (M := M_X11_rain) (pc := 12) dX11_rain_12 ⟨rfl, ⟨by decide, by decide⟩⟩ ?_
    refine aw_csi (as := [(0, a2), (0, 0), (0, 12)]) (st := []) (M := M_X11_rain) (pc := 14) (f_X11_outside  hF) dX11_rain_14 rfl cy_X11_outside ml_X11_105 (by decide) (by decide) (Nat.le_of_ble_eq_true rfl) (fun r6 h5 hF => ?_)
    refine aw_if_eq (tgt := 26) (M := M_X11_rain) (pc := 17) dX11_rain_17 rfl (fun hc => ?_) (fun hc => ?_)
    · have hF := hF.1 hc
      refine aw_aload_n (j := 0) (M := M_X11_rain) (pc := 26) dX11_rain_26 rfl rfl ?_
      refine aw_iload_n (j := 1) (M := M_X11_rain) (pc := 27) dX11_rain_27 rfl rfl ?_
      refine aw_iload_n (j := 2) (M := M_X11_rain) (pc := 28) dX11_rain_28 rfl rfl ?_
      refine aw_aload_n (j := 0) (M := M_X11_rain) (pc := 29) dX11_rain_29 rfl rfl ?_
      refine gf_X11_33 (M := M_X11_rain) (pc := 30) rfl dX11_rain_30 rfl (r := 12) rfl ?_
      refine gf_X11_227 (M := M_X11_rain) (pc := 33) rfl dX11_rain_33 rfl ?_
      refine aw_csl (as := [(0, a1), (0, a2), (0, h5 12 2)]) (st := [vr 0]) (M := M_X11_rain) (pc := 36) (f_X11_wetWays  hF) dX11_rain_36 rfl cy_X11_wetWays ml_X11_402 (by decide) (by decide) (Nat.le_of_ble_eq_true rfl) (fun r8 h7 hF => ?_)
      refine aw_ldc2 (v := 16) (M := M_X11_rain) (pc := 39) dX11_rain_39 kl_X11_406 ⟨by decide, by decide⟩ ?_
      refine aw_iload_n (j := 1) (M := M_X11_rain) (pc := 42) dX11_rain_42 rfl rfl ?_
      refine aw_csl (as := [(1, 16), (0, a1)]) (st := [(1, r8), vr 0]) (M := M_X11_rain) (pc := 43) (f_X11_power  hF) dX11_rain_43 rfl cy_X11_power ml_X11_408 (by decide) (by decide) (Nat.le_of_ble_eq_true rfl) (fun r10 h9 hF => ?_)
      refine aw_cvi (as := [(1, r8), (1, r10)]) (st := []) (M := M_X11_rain) (pc := 46) (f_X11_tellFraction  hF) dX11_rain_46 rfl (Or.inl ⟨_, _, _, rfl, rfl⟩) cy_X11_tellFraction ml_X11_398 (by decide) (by decide) (Nat.le_of_ble_eq_true rfl) (fun r12 h11 hF => ?_)
      exact aw_iretz (M := M_X11_rain) (pc := 49) dX11_rain_49 rfl hF.1 ⟨_, rfl, hF.2⟩
    · have hF := hF.2 hc
      refine aw_aload_n (j := 0) (M := M_X11_rain) (pc := 20) dX11_rain_20 rfl rfl ?_
      refine aw_iconst (M := M_X11_rain) (pc := 21) dX11_rain_21 ⟨by decide, by decide⟩ ?_
      refine aw_cvi (as := [(0, 1)]) (st := []) (M := M_X11_rain) (pc := 22) (f_X11_refuse  hF) dX11_rain_22 rfl (Or.inl ⟨_, _, _, rfl, rfl⟩) cy_X11_refuse ml_X11_109 (by decide) (by decide) (Nat.le_of_ble_eq_true rfl) (fun r14 h13 hF => ?_)
      exact aw_iretz (M := M_X11_rain) (pc := 25) dX11_rain_25 rfl hF.1 ⟨_, rfl, hF.2⟩
abbrev M_X11_whyNoPlace : Hd := (cX11_whyNoPlace, 3, RX11, (some .int), (2, 66), sc0)
def F_X11_whyNoPlace (h : Mem) (a1 : Int) (a2 : Int) (Q : Int → Mem → Prop) : Prop :=
  (F_X10_isTray h a1 (fun r2 h1 => ((¬ (r2 = 0) → (F_X10_isMissing h1 a1 (fun r4 h3 => ((r4 = 0 → ((a2 < 0 → Q 3 h3) ∧ (¬ (a2 < 0) → ((0 ≤ a1 ∧ a1 < 4) ∧ ((a2 < (h3 3 (a1).toNat) → Q 0 h3) ∧ (¬ (a2 < (h3 3 (a1).toNat)) → Q 3 h3)))))) ∧ (¬ (r4 = 0) → Q 2 h3))))) ∧ (r2 = 0 → Q 1 h1))))
set_option maxRecDepth 100000 in
set_option maxHeartbeats 4000000 in
theorem f_X11_whyNoPlace {h : Mem} {a1 : Int} {a2 : Int} {Q : Int → Mem → Prop}  (hF : F_X11_whyNoPlace h a1 a2 Q) : Ct yX11_whyNoPlace cX11_whyNoPlace 3 (some .int) (2, 66) [vr 0, (0, a1), (0, a2)] h (qi Q) := by
  refine Ct.of np_RX11 (Nat.le_of_ble_eq_true rfl) ?_
  unfold F_X11_whyNoPlace at hF
  show AW M_X11_whyNoPlace 0 [(0, vr 0), (1, (0, a1)), (2, (0, a2))] [] h (qi Q)
  refine aw_aload_n (j := 0) (M := M_X11_whyNoPlace) (pc := 0) dX11_whyNoPlace_0 rfl rfl ?_
  refine gf_X11_19 (M := M_X11_whyNoPlace) (pc := 1) rfl dX11_whyNoPlace_1 rfl (r := 1) rfl ?_
  refine aw_iload_n (j := 1) (M := M_X11_whyNoPlace) (pc := 4) dX11_whyNoPlace_4 rfl rfl ?_
  refine aw_cvi (as := [(0, a1)]) (st := []) (M := M_X11_whyNoPlace) (pc := 5) (f_X10_isTray  hF) dX11_whyNoPlace_5 rfl (Or.inl ⟨_, _, _, rfl, rfl⟩) cy_X10_isTray ml_X11_135 (by decide) (by decide) (Nat.le_of_ble_eq_true rfl) (fun r2 h1 hF => ?_)
  refine aw_if_ne (tgt := 13) (M := M_X11_whyNoPlace) (pc := 8) dX11_whyNoPlace_8 rfl (fun hc => ?_) (fun hc => ?_)
  · have hF := hF.1 hc
    refine aw_aload_n (j := 0) (M := M_X11_whyNoPlace) (pc := 13) dX11_whyNoPlace_13 rfl rfl ?_
    refine gf_X11_19 (M := M_X11_whyNoPlace) (pc := 14) rfl dX11_whyNoPlace_14 rfl (r := 1) rfl ?_
    refine aw_iload_n (j := 1) (M := M_X11_whyNoPlace) (pc := 17) dX11_whyNoPlace_17 rfl rfl ?_
    refine aw_cvi (as := [(0, a1)]) (st := []) (M := M_X11_whyNoPlace) (pc := 18) (f_X10_isMissing  hF) dX11_whyNoPlace_18 rfl (Or.inl ⟨_, _, _, rfl, rfl⟩) cy_X10_isMissing ml_X11_138 (by decide) (by decide) (Nat.le_of_ble_eq_true rfl) (fun r4 h3 hF => ?_)
    refine aw_if_eq (tgt := 26) (M := M_X11_whyNoPlace) (pc := 21) dX11_whyNoPlace_21 rfl (fun hc => ?_) (fun hc => ?_)
    · have hF := hF.1 hc
      refine aw_iload_n (j := 2) (M := M_X11_whyNoPlace) (pc := 26) dX11_whyNoPlace_26 rfl rfl ?_
      refine aw_if_lt (tgt := 43) (M := M_X11_whyNoPlace) (pc := 27) dX11_whyNoPlace_27 rfl (fun hc => ?_) (fun hc => ?_)
      · have hF := hF.1 hc
        refine aw_iconst (M := M_X11_whyNoPlace) (pc := 43) dX11_whyNoPlace_43 ⟨by decide, by decide⟩ ?_
        refine aw_goto (tgt := 48) (M := M_X11_whyNoPlace) (pc := 44) dX11_whyNoPlace_44 rfl ?_
        exact aw_ireti (M := M_X11_whyNoPlace) (pc := 48) dX11_whyNoPlace_48 rfl ⟨_, rfl, hF⟩
      · have hF := hF.2 hc
        refine aw_iload_n (j := 2) (M := M_X11_whyNoPlace) (pc := 30) dX11_whyNoPlace_30 rfl rfl ?_
        refine aw_aload_n (j := 0) (M := M_X11_whyNoPlace) (pc := 31) dX11_whyNoPlace_31 rfl rfl ?_
        refine gf_X11_19 (M := M_X11_whyNoPlace) (pc := 32) rfl dX11_whyNoPlace_32 rfl (r := 1) rfl ?_
        refine gf_X11_144 (M := M_X11_whyNoPlace) (pc := 35) rfl dX11_whyNoPlace_35 rfl (r := 3) rfl ?_
        refine aw_iload_n (j := 1) (M := M_X11_whyNoPlace) (pc := 38) dX11_whyNoPlace_38 rfl rfl ?_
        obtain ⟨o6, hF⟩ := hF
        refine aw_iald (k := (a1).toNat) (M := M_X11_whyNoPlace) (pc := 39) dX11_whyNoPlace_39 rfl o6 rfl ?_
        refine aw_icmp_lt (tgt := 47) (M := M_X11_whyNoPlace) (pc := 40) dX11_whyNoPlace_40 rfl (fun hc => ?_) (fun hc => ?_)
        · have hF := hF.1 hc
          refine aw_iconst (M := M_X11_whyNoPlace) (pc := 47) dX11_whyNoPlace_47 ⟨by decide, by decide⟩ ?_
          exact aw_ireti (M := M_X11_whyNoPlace) (pc := 48) dX11_whyNoPlace_48 rfl ⟨_, rfl, hF⟩
        · have hF := hF.2 hc
          refine aw_iconst (M := M_X11_whyNoPlace) (pc := 43) dX11_whyNoPlace_43 ⟨by decide, by decide⟩ ?_
          refine aw_goto (tgt := 48) (M := M_X11_whyNoPlace) (pc := 44) dX11_whyNoPlace_44 rfl ?_
          exact aw_ireti (M := M_X11_whyNoPlace) (pc := 48) dX11_whyNoPlace_48 rfl ⟨_, rfl, hF⟩
    · have hF := hF.2 hc
      refine aw_iconst (M := M_X11_whyNoPlace) (pc := 24) dX11_whyNoPlace_24 ⟨by decide, by decide⟩ ?_
      exact aw_ireti (M := M_X11_whyNoPlace) (pc := 25) dX11_whyNoPlace_25 rfl ⟨_, rfl, hF⟩
  · have hF := hF.2 hc
    refine aw_iconst (M := M_X11_whyNoPlace) (pc := 11) dX11_whyNoPlace_11 ⟨by decide, by decide⟩ ?_
    exact aw_ireti (M := M_X11_whyNoPlace) (pc := 12) dX11_whyNoPlace_12 rfl ⟨_, rfl, hF⟩
abbrev M_X11_read : Hd := (cX11_read, 4, RX11, (some .long), (3, 88), sc0)
def F_X11_read (h : Mem) (a1 : Int) (a2 : Int) (Q : Int → Mem → Prop) : Prop :=
  (F_X11_whyNoPlace h a1 a2 (fun r2 h1 => (∀ h3 : Mem, h3 = mset h1 0 0 r2 → ((¬ (r2 = 0) → Q (-1) h3) ∧ (r2 = 0 → ((0 ≤ a1 ∧ a1 < 4) ∧ ((0 ≤ a2 ∧ a2 < 60) ∧ Q (h3 (4 + 1 + 1 * (a1).toNat) (a2).toNat) h3)))))))
set_option maxRecDepth 100000 in
set_option maxHeartbeats 4000000 in
theorem f_X11_read {h : Mem} {a1 : Int} {a2 : Int} {Q : Int → Mem → Prop}  (hF : F_X11_read h a1 a2 Q) : Ct yX11_read cX11_read 4 (some .long) (3, 88) [vr 0, (0, a1), (0, a2)] h (ql Q) := by
  refine Ct.of np_RX11 (Nat.le_of_ble_eq_true rfl) ?_
  unfold F_X11_read at hF
  show AW M_X11_read 0 [(0, vr 0), (1, (0, a1)), (2, (0, a2))] [] h (ql Q)
  refine aw_aload_n (j := 0) (M := M_X11_read) (pc := 0) dX11_read_0 rfl rfl ?_
  refine aw_iload_n (j := 1) (M := M_X11_read) (pc := 1) dX11_read_1 rfl rfl ?_
  refine aw_iload_n (j := 2) (M := M_X11_read) (pc := 2) dX11_read_2 rfl rfl ?_
  refine aw_cvi (as := [(0, a1), (0, a2)]) (st := []) (M := M_X11_read) (pc := 3) (f_X11_whyNoPlace  hF) dX11_read_3 rfl (Or.inl ⟨_, _, _, rfl, rfl⟩) cy_X11_whyNoPlace ml_X11_121 (by decide) (by decide) (Nat.le_of_ble_eq_true rfl) (fun r2 h1 hF => ?_)
  refine aw_istore_n (ls' := [(3, (0, r2)), (0, vr 0), (1, (0, a1)), (2, (0, a2))]) (M := M_X11_read) (pc := 6) dX11_read_6 rfl (by decide) rfl ?_
  refine aw_aload_n (j := 1) (M := M_X11_read) (pc := 7) dX11_read_7 rfl rfl ?_
  refine aw_iload_n (j := 0) (M := M_X11_read) (pc := 8) dX11_read_8 rfl rfl ?_
  refine pf_X11_102 (M := M_X11_read) (pc := 9) rfl dX11_read_9 rfl ?_
  obtain ⟨h3, eh3⟩ : ∃ y : Mem, y = mset h1 0 0 r2 := ⟨_, rfl⟩
  have hF := hF h3 eh3
  rw [← eh3]
  refine aw_iload_n (j := 0) (M := M_X11_read) (pc := 12) dX11_read_12 rfl rfl ?_
  refine aw_if_ne (tgt := 30) (M := M_X11_read) (pc := 13) dX11_read_13 rfl (fun hc => ?_) (fun hc => ?_)
  · have hF := hF.1 hc
    refine aw_ldc2 (v := (-1)) (M := M_X11_read) (pc := 30) dX11_read_30 kl_X11_133 ⟨by decide, by decide⟩ ?_
    exact aw_lret (M := M_X11_read) (pc := 33) dX11_read_33 rfl ⟨_, rfl, hF⟩
  · have hF := hF.2 hc
    refine aw_aload_n (j := 1) (M := M_X11_read) (pc := 16) dX11_read_16 rfl rfl ?_
    refine gf_X11_19 (M := M_X11_read) (pc := 17) rfl dX11_read_17 rfl (r := 1) rfl ?_
    refine gf_X11_129 (M := M_X11_read) (pc := 20) rfl dX11_read_20 rfl (r := 4) rfl ?_
    refine aw_iload_n (j := 2) (M := M_X11_read) (pc := 23) dX11_read_23 rfl rfl ?_
    obtain ⟨o4, hF⟩ := hF
    refine aw_ald7 (M := M_X11_read) (pc := 24) dX11_read_24 rfl o4 ?_
    refine aw_iload_n (j := 3) (M := M_X11_read) (pc := 25) dX11_read_25 rfl rfl ?_
    obtain ⟨o6, hF⟩ := hF
    refine aw_lald (k := (a2).toNat) (M := M_X11_read) (pc := 26) dX11_read_26 (le_7 o4) o6 rfl ?_
    refine aw_goto (tgt := 33) (M := M_X11_read) (pc := 27) dX11_read_27 rfl ?_
    exact aw_lret (M := M_X11_read) (pc := 33) dX11_read_33 rfl ⟨_, rfl, hF⟩
abbrev M_X11_ride : Hd := (cX11_ride, 3, RX11, (some .int), (5, 140), sc0)
def F_X11_ride (h : Mem) (a1 : Int) (a2 : Int) (Q : Int → Mem → Prop) : Prop :=
  (F_X11_isCell h a1 (fun r2 h1 => ((r2 = 0 → (F_X11_refused h1 1 (fun r4 h3 => Q r4 h3))) ∧ (¬ (r2 = 0) → (F_X11_isCell h1 a2 (fun r6 h5 => ((¬ (r6 = 0) → (F_X4_copyFrom h5 146 12 (fun h7 => (F_X0_sail h7 146 a1 a2 (fun h9 => (F_X11_givenOrNone h9 (h9 42 0) (fun r12 h11 => Q r12 h11))))))) ∧ (r6 = 0 → (F_X11_refused h5 1 (fun r14 h13 => Q r14 h13))))))))))
set_option maxRecDepth 100000 in
set_option maxHeartbeats 4000000 in
theorem f_X11_ride {h : Mem} {a1 : Int} {a2 : Int} {Q : Int → Mem → Prop}  (hF : F_X11_ride h a1 a2 Q) : Ct yX11_ride cX11_ride 3 (some .int) (5, 140) [vr 0, (0, a1), (0, a2)] h (qi Q) := by
  refine Ct.of np_RX11 (Nat.le_of_ble_eq_true rfl) ?_
  unfold F_X11_ride at hF
  show AW M_X11_ride 0 [(0, vr 0), (1, (0, a1)), (2, (0, a2))] [] h (qi Q)
  refine aw_aload_n (j := 0) (M := M_X11_ride) (pc := 0) dX11_ride_0 rfl rfl ?_
  refine aw_iload_n (j := 1) (M := M_X11_ride) (pc := 1) dX11_ride_1 rfl rfl ?_
  refine aw_cvi (as := [(0, a1)]) (st := []) (M := M_X11_ride) (pc := 2) (f_X11_isCell  hF) dX11_ride_2 rfl (Or.inl ⟨_, _, _, rfl, rfl⟩) cy_X11_isCell ml_X11_301 (by decide) (by decide) (Nat.le_of_ble_eq_true rfl) (fun r2 h1 hF => ?_)
  refine aw_if_eq (tgt := 16) (M := M_X11_ride) (pc := 5) dX11_ride_5 rfl (fun hc => ?_) (fun hc => ?_)
  · have hF := hF.1 hc
    refine aw_aload_n (j := 0) (M := M_X11_ride) (pc := 16) dX11_ride_16 rfl rfl ?_
    refine aw_iconst (M := M_X11_ride) (pc := 17) dX11_ride_17 ⟨by decide, by decide⟩ ?_
    refine aw_cvi (as := [(0, 1)]) (st := []) (M := M_X11_ride) (pc := 18) (f_X11_refused  hF) dX11_ride_18 rfl (Or.inl ⟨_, _, _, rfl, rfl⟩) cy_X11_refused ml_X11_163 (by decide) (by decide) (Nat.le_of_ble_eq_true rfl) (fun r4 h3 hF => ?_)
    exact aw_ireti (M := M_X11_ride) (pc := 21) dX11_ride_21 rfl ⟨_, rfl, hF⟩
  · have hF := hF.2 hc
    refine aw_aload_n (j := 0) (M := M_X11_ride) (pc := 8) dX11_ride_8 rfl rfl ?_
    refine aw_iload_n (j := 2) (M := M_X11_ride) (pc := 9) dX11_ride_9 rfl rfl ?_
    refine aw_cvi (as := [(0, a2)]) (st := []) (M := M_X11_ride) (pc := 10) (f_X11_isCell  hF) dX11_ride_10 rfl (Or.inl ⟨_, _, _, rfl, rfl⟩) cy_X11_isCell ml_X11_301 (by decide) (by decide) (Nat.le_of_ble_eq_true rfl) (fun r6 h5 hF => ?_)
    refine aw_if_ne (tgt := 22) (M := M_X11_ride) (pc := 13) dX11_ride_13 rfl (fun hc => ?_) (fun hc => ?_)
    · have hF := hF.1 hc
      refine aw_aload_n (j := 0) (M := M_X11_ride) (pc := 22) dX11_ride_22 rfl rfl ?_
      refine gf_X11_44 (M := M_X11_ride) (pc := 23) rfl dX11_ride_23 rfl (r := 146) rfl ?_
      refine aw_aload_n (j := 0) (M := M_X11_ride) (pc := 26) dX11_ride_26 rfl rfl ?_
      refine gf_X11_33 (M := M_X11_ride) (pc := 27) rfl dX11_ride_27 rfl (r := 12) rfl ?_
      refine aw_cvv (as := [vr 12]) (st := []) (M := M_X11_ride) (pc := 30) (f_X4_copyFrom rfl rfl hF) dX11_ride_30 rfl (Or.inl ⟨_, _, _, rfl, rfl⟩) cy_X4_copyFrom ml_X11_177 (by decide) (by decide) (Nat.le_of_ble_eq_true rfl) (fun h7 hF => ?_)
      refine aw_aload_n (j := 0) (M := M_X11_ride) (pc := 33) dX11_ride_33 rfl rfl ?_
      refine gf_X11_64 (M := M_X11_ride) (pc := 34) rfl dX11_ride_34 rfl (r := 42) rfl ?_
      refine aw_aload_n (j := 0) (M := M_X11_ride) (pc := 37) dX11_ride_37 rfl rfl ?_
      refine gf_X11_44 (M := M_X11_ride) (pc := 38) rfl dX11_ride_38 rfl (r := 146) rfl ?_
      refine aw_iload_n (j := 1) (M := M_X11_ride) (pc := 41) dX11_ride_41 rfl rfl ?_
      refine aw_iload_n (j := 2) (M := M_X11_ride) (pc := 42) dX11_ride_42 rfl rfl ?_
      refine aw_cvv (as := [vr 146, (0, a1), (0, a2)]) (st := []) (M := M_X11_ride) (pc := 43) (f_X0_sail rfl hF) dX11_ride_43 rfl (Or.inl ⟨_, _, _, rfl, rfl⟩) cy_X0_sail ml_X11_377 (by decide) (by decide) (Nat.le_of_ble_eq_true rfl) (fun h9 hF => ?_)
      refine aw_aload_n (j := 0) (M := M_X11_ride) (pc := 46) dX11_ride_46 rfl rfl ?_
      refine aw_aload_n (j := 0) (M := M_X11_ride) (pc := 47) dX11_ride_47 rfl rfl ?_
      refine gf_X11_64 (M := M_X11_ride) (pc := 48) rfl dX11_ride_48 rfl (r := 42) rfl ?_
      refine gf_X11_345 (M := M_X11_ride) (pc := 51) rfl dX11_ride_51 rfl ?_
      refine aw_cvi (as := [(0, h9 42 0)]) (st := []) (M := M_X11_ride) (pc := 54) (f_X11_givenOrNone  hF) dX11_ride_54 rfl (Or.inl ⟨_, _, _, rfl, rfl⟩) cy_X11_givenOrNone ml_X11_322 (by decide) (by decide) (Nat.le_of_ble_eq_true rfl) (fun r12 h11 hF => ?_)
      exact aw_ireti (M := M_X11_ride) (pc := 57) dX11_ride_57 rfl ⟨_, rfl, hF⟩
    · have hF := hF.2 hc
      refine aw_aload_n (j := 0) (M := M_X11_ride) (pc := 16) dX11_ride_16 rfl rfl ?_
      refine aw_iconst (M := M_X11_ride) (pc := 17) dX11_ride_17 ⟨by decide, by decide⟩ ?_
      refine aw_cvi (as := [(0, 1)]) (st := []) (M := M_X11_ride) (pc := 18) (f_X11_refused  hF) dX11_ride_18 rfl (Or.inl ⟨_, _, _, rfl, rfl⟩) cy_X11_refused ml_X11_163 (by decide) (by decide) (Nat.le_of_ble_eq_true rfl) (fun r14 h13 hF => ?_)
      exact aw_ireti (M := M_X11_ride) (pc := 21) dX11_ride_21 rfl ⟨_, rfl, hF⟩
abbrev M_X11_ring : Hd := (cX11_ring, 1, RX11, (some .int), (5, 139), sc0)
def F_X11_ring (h : Mem)  (Q : Int → Mem → Prop) : Prop :=
  (F_X4_copyFrom h 146 12 (fun h1 => (F_X0_ringOf h1 146 (fun r4 h3 => (F_X11_givenOrNone h3 r4 (fun r6 h5 => Q r6 h5))))))
set_option maxRecDepth 100000 in
set_option maxHeartbeats 4000000 in
theorem f_X11_ring {h : Mem}  {Q : Int → Mem → Prop}  (hF : F_X11_ring h  Q) : Ct yX11_ring cX11_ring 1 (some .int) (5, 139) [vr 0] h (qi Q) := by
  refine Ct.of np_RX11 (Nat.le_of_ble_eq_true rfl) ?_
  unfold F_X11_ring at hF
  show AW M_X11_ring 0 [(0, vr 0)] [] h (qi Q)
  refine aw_aload_n (j := 0) (M := M_X11_ring) (pc := 0) dX11_ring_0 rfl rfl ?_
  refine gf_X11_44 (M := M_X11_ring) (pc := 1) rfl dX11_ring_1 rfl (r := 146) rfl ?_
  refine aw_aload_n (j := 0) (M := M_X11_ring) (pc := 4) dX11_ring_4 rfl rfl ?_
  refine gf_X11_33 (M := M_X11_ring) (pc := 5) rfl dX11_ring_5 rfl (r := 12) rfl ?_
  refine aw_cvv (as := [vr 12]) (st := []) (M := M_X11_ring) (pc := 8) (f_X4_copyFrom rfl rfl hF) dX11_ring_8 rfl (Or.inl ⟨_, _, _, rfl, rfl⟩) cy_X4_copyFrom ml_X11_177 (by decide) (by decide) (Nat.le_of_ble_eq_true rfl) (fun h1 hF => ?_)
  refine aw_aload_n (j := 0) (M := M_X11_ring) (pc := 11) dX11_ring_11 rfl rfl ?_
  refine aw_aload_n (j := 0) (M := M_X11_ring) (pc := 12) dX11_ring_12 rfl rfl ?_
  refine gf_X11_64 (M := M_X11_ring) (pc := 13) rfl dX11_ring_13 rfl (r := 42) rfl ?_
  refine aw_aload_n (j := 0) (M := M_X11_ring) (pc := 16) dX11_ring_16 rfl rfl ?_
  refine gf_X11_44 (M := M_X11_ring) (pc := 17) rfl dX11_ring_17 rfl (r := 146) rfl ?_
  refine aw_cvi (as := [vr 146]) (st := [vr 0]) (M := M_X11_ring) (pc := 20) (f_X0_ringOf rfl hF) dX11_ring_20 rfl (Or.inl ⟨_, _, _, rfl, rfl⟩) cy_X0_ringOf ml_X11_331 (by decide) (by decide) (Nat.le_of_ble_eq_true rfl) (fun r4 h3 hF => ?_)
  refine aw_cvi (as := [(0, r4)]) (st := []) (M := M_X11_ring) (pc := 23) (f_X11_givenOrNone  hF) dX11_ring_23 rfl (Or.inl ⟨_, _, _, rfl, rfl⟩) cy_X11_givenOrNone ml_X11_322 (by decide) (by decide) (Nat.le_of_ble_eq_true rfl) (fun r6 h5 hF => ?_)
  exact aw_ireti (M := M_X11_ring) (pc := 26) dX11_ring_26 rfl ⟨_, rfl, hF⟩
abbrev M_X11_rule : Hd := (cX11_rule, 3, RX11, (some .boolean), (2, 67), sc0)
def J_X11_rule_28 (h : Mem) (v1 : Int) (v2 : Int) (Q : Int → Mem → Prop) : Prop :=
  ((¬ (v1 = 4) → (F_X11_refuse h 1 (fun r7 h6 => (InZ r7 ∧ Q r7 h6)))) ∧ (v1 = 4 → (F_X11_outside h v2 0 16 (fun r9 h8 => ((¬ (r9 = 0) → (F_X11_refuse h8 1 (fun r11 h10 => (InZ r11 ∧ Q r11 h10)))) ∧ (r9 = 0 → (∀ h12 : Mem, h12 = mset h8 12 2 v2 → (F_X11_accept h12  (fun r14 h13 => (InZ r14 ∧ Q r14 h13))))))))))
set_option maxRecDepth 100000 in
set_option maxHeartbeats 4000000 in
theorem j_X11_rule_28 {h : Mem} {v1 : Int} {v2 : Int} {Q : Int → Mem → Prop}  (hF : J_X11_rule_28 h v1 v2 Q) : AW M_X11_rule 28 [(0, vr 0), (1, (0, v1)), (2, (0, v2))] [] h (qi Q) := by
  unfold J_X11_rule_28 at hF
  refine aw_iload_n (j := 1) (M := M_X11_rule) (pc := 28) dX11_rule_28 rfl rfl ?_
  refine aw_iconst (M := M_X11_rule) (pc := 29) dX11_rule_29 ⟨by decide, by decide⟩ ?_
  refine aw_icmp_ne (tgt := 56) (M := M_X11_rule) (pc := 30) dX11_rule_30 rfl (fun hc => ?_) (fun hc => ?_)
  · have hF := hF.1 hc
    refine aw_aload_n (j := 0) (M := M_X11_rule) (pc := 56) dX11_rule_56 rfl rfl ?_
    refine aw_iconst (M := M_X11_rule) (pc := 57) dX11_rule_57 ⟨by decide, by decide⟩ ?_
    refine aw_cvi (as := [(0, 1)]) (st := []) (M := M_X11_rule) (pc := 58) (f_X11_refuse  hF) dX11_rule_58 rfl (Or.inl ⟨_, _, _, rfl, rfl⟩) cy_X11_refuse ml_X11_109 (by decide) (by decide) (Nat.le_of_ble_eq_true rfl) (fun r7 h6 hF => ?_)
    exact aw_iretz (M := M_X11_rule) (pc := 61) dX11_rule_61 rfl hF.1 ⟨_, rfl, hF.2⟩
  · have hF := hF.2 hc
    refine aw_iload_n (j := 2) (M := M_X11_rule) (pc := 33) dX11_rule_33 rfl rfl ?_
    refine aw_iconst (M := M_X11_rule) (pc := 34) dX11_rule_34 ⟨by decide, by decide⟩ ?_
    refine aw_bipush (M := M_X11_rule) (pc := 35) dX11_rule_35 ⟨rfl, ⟨by decide, by decide⟩⟩ ?_
    refine aw_csi (as := [(0, v2), (0, 0), (0, 16)]) (st := []) (M := M_X11_rule) (pc := 37) (f_X11_outside  hF) dX11_rule_37 rfl cy_X11_outside ml_X11_105 (by decide) (by decide) (Nat.le_of_ble_eq_true rfl) (fun r9 h8 hF => ?_)
    refine aw_if_ne (tgt := 56) (M := M_X11_rule) (pc := 40) dX11_rule_40 rfl (fun hc => ?_) (fun hc => ?_)
    · have hF := hF.1 hc
      refine aw_aload_n (j := 0) (M := M_X11_rule) (pc := 56) dX11_rule_56 rfl rfl ?_
      refine aw_iconst (M := M_X11_rule) (pc := 57) dX11_rule_57 ⟨by decide, by decide⟩ ?_
      refine aw_cvi (as := [(0, 1)]) (st := []) (M := M_X11_rule) (pc := 58) (f_X11_refuse  hF) dX11_rule_58 rfl (Or.inl ⟨_, _, _, rfl, rfl⟩) cy_X11_refuse ml_X11_109 (by decide) (by decide) (Nat.le_of_ble_eq_true rfl) (fun r11 h10 hF => ?_)
      exact aw_iretz (M := M_X11_rule) (pc := 61) dX11_rule_61 rfl hF.1 ⟨_, rfl, hF.2⟩
    · have hF := hF.2 hc
      refine aw_aload_n (j := 0) (M := M_X11_rule) (pc := 43) dX11_rule_43 rfl rfl ?_
      refine gf_X11_33 (M := M_X11_rule) (pc := 44) rfl dX11_rule_44 rfl (r := 12) rfl ?_
      refine aw_iload_n (j := 2) (M := M_X11_rule) (pc := 47) dX11_rule_47 rfl rfl ?_
      refine pf_X11_227 (M := M_X11_rule) (pc := 48) rfl dX11_rule_48 rfl ?_
      obtain ⟨h12, eh12⟩ : ∃ y : Mem, y = mset h8 12 2 v2 := ⟨_, rfl⟩
      have hF := hF h12 eh12
      rw [← eh12]
      refine aw_aload_n (j := 0) (M := M_X11_rule) (pc := 51) dX11_rule_51 rfl rfl ?_
      refine aw_cvi (as := []) (st := []) (M := M_X11_rule) (pc := 52) (f_X11_accept  hF) dX11_rule_52 rfl (Or.inl ⟨_, _, _, rfl, rfl⟩) cy_X11_accept ml_X11_117 (by decide) (by decide) (Nat.le_of_ble_eq_true rfl) (fun r14 h13 hF => ?_)
      exact aw_iretz (M := M_X11_rule) (pc := 55) dX11_rule_55 rfl hF.1 ⟨_, rfl, hF.2⟩
def F_X11_rule (h : Mem) (a1 : Int) (a2 : Int) (Q : Int → Mem → Prop) : Prop :=
  ((¬ (a1 = 3) → J_X11_rule_28 h a1 a2 Q) ∧ (a1 = 3 → (F_X11_outside h a2 1 40 (fun r2 h1 => ((¬ (r2 = 0) → J_X11_rule_28 h1 a1 a2 Q) ∧ (r2 = 0 → (∀ h3 : Mem, h3 = mset h1 12 1 a2 → (F_X11_accept h3  (fun r5 h4 => (InZ r5 ∧ Q r5 h4))))))))))
set_option maxRecDepth 100000 in
set_option maxHeartbeats 4000000 in
theorem f_X11_rule {h : Mem} {a1 : Int} {a2 : Int} {Q : Int → Mem → Prop}  (hF : F_X11_rule h a1 a2 Q) : Ct yX11_rule cX11_rule 3 (some .boolean) (2, 67) [vr 0, (0, a1), (0, a2)] h (qi Q) := by
  refine Ct.of np_RX11 (Nat.le_of_ble_eq_true rfl) ?_
  unfold F_X11_rule at hF
  show AW M_X11_rule 0 [(0, vr 0), (1, (0, a1)), (2, (0, a2))] [] h (qi Q)
  refine aw_iload_n (j := 1) (M := M_X11_rule) (pc := 0) dX11_rule_0 rfl rfl ?_
  refine aw_iconst (M := M_X11_rule) (pc := 1) dX11_rule_1 ⟨by decide, by decide⟩ ?_
  refine aw_icmp_ne (tgt := 28) (M := M_X11_rule) (pc := 2) dX11_rule_2 rfl (fun hc => ?_) (fun hc => ?_)
  · have hF := hF.1 hc
    exact aw_ls [0, 1, 2] rfl (j_X11_rule_28  hF)
  · have hF := hF.2 hc
    refine aw_iload_n (j := 2) (M := M_X11_rule) (pc := 5) dX11_rule_5 rfl rfl ?_
    refine aw_iconst (M := M_X11_rule) (pc := 6) dX11_rule_6 ⟨by decide, by decide⟩ ?_
    refine aw_bipush (M := M_X11_rule) (pc := 7) dX11_rule_7 ⟨rfl, ⟨by decide, by decide⟩⟩ ?_
    refine aw_csi (as := [(0, a2), (0, 1), (0, 40)]) (st := []) (M := M_X11_rule) (pc := 9) (f_X11_outside  hF) dX11_rule_9 rfl cy_X11_outside ml_X11_105 (by decide) (by decide) (Nat.le_of_ble_eq_true rfl) (fun r2 h1 hF => ?_)
    refine aw_if_ne (tgt := 28) (M := M_X11_rule) (pc := 12) dX11_rule_12 rfl (fun hc => ?_) (fun hc => ?_)
    · have hF := hF.1 hc
      exact aw_ls [0, 1, 2] rfl (j_X11_rule_28  hF)
    · have hF := hF.2 hc
      refine aw_aload_n (j := 0) (M := M_X11_rule) (pc := 15) dX11_rule_15 rfl rfl ?_
      refine gf_X11_33 (M := M_X11_rule) (pc := 16) rfl dX11_rule_16 rfl (r := 12) rfl ?_
      refine aw_iload_n (j := 2) (M := M_X11_rule) (pc := 19) dX11_rule_19 rfl rfl ?_
      refine pf_X11_224 (M := M_X11_rule) (pc := 20) rfl dX11_rule_20 rfl ?_
      obtain ⟨h3, eh3⟩ : ∃ y : Mem, y = mset h1 12 1 a2 := ⟨_, rfl⟩
      have hF := hF h3 eh3
      rw [← eh3]
      refine aw_aload_n (j := 0) (M := M_X11_rule) (pc := 23) dX11_rule_23 rfl rfl ?_
      refine aw_cvi (as := []) (st := []) (M := M_X11_rule) (pc := 24) (f_X11_accept  hF) dX11_rule_24 rfl (Or.inl ⟨_, _, _, rfl, rfl⟩) cy_X11_accept ml_X11_117 (by decide) (by decide) (Nat.le_of_ble_eq_true rfl) (fun r5 h4 hF => ?_)
      exact aw_iretz (M := M_X11_rule) (pc := 27) dX11_rule_27 rfl hF.1 ⟨_, rfl, hF.2⟩
abbrev M_X11_share : Hd := (cX11_share, 3, RX11, (some .boolean), (3, 101), sc0)
def F_X11_share (h : Mem) (a1 : Int) (Q : Int → Mem → Prop) : Prop :=
  (F_X11_isMill h a1 (fun r2 h1 => ((¬ (r2 = 0) → (F_X7_groundInAll h1 22 (fun r4 h3 => ((¬ (r4 = 0) → ((0 ≤ a1 ∧ a1 < 4) ∧ (F_X11_tellFraction h3 (h3 26 (a1).toNat) r4 (fun r8 h7 => (InZ r8 ∧ Q r8 h7))))) ∧ (r4 = 0 → (F_X11_refuse h3 6 (fun r10 h9 => (InZ r10 ∧ Q r10 h9)))))))) ∧ (r2 = 0 → (F_X11_refuse h1 1 (fun r12 h11 => (InZ r12 ∧ Q r12 h11)))))))
set_option maxRecDepth 100000 in
set_option maxHeartbeats 4000000 in
theorem f_X11_share {h : Mem} {a1 : Int} {Q : Int → Mem → Prop}  (hF : F_X11_share h a1 Q) : Ct yX11_share cX11_share 3 (some .boolean) (3, 101) [vr 0, (0, a1)] h (qi Q) := by
  refine Ct.of np_RX11 (Nat.le_of_ble_eq_true rfl) ?_
  unfold F_X11_share at hF
  show AW M_X11_share 0 [(0, vr 0), (1, (0, a1))] [] h (qi Q)
  refine aw_aload_n (j := 0) (M := M_X11_share) (pc := 0) dX11_share_0 rfl rfl ?_
  refine aw_iload_n (j := 1) (M := M_X11_share) (pc := 1) dX11_share_1 rfl rfl ?_
  refine aw_cvi (as := [(0, a1)]) (st := []) (M := M_X11_share) (pc := 2) (f_X11_isMill  hF) dX11_share_2 rfl (Or.inl ⟨_, _, _, rfl, rfl⟩) cy_X11_isMill ml_X11_282 (by decide) (by decide) (Nat.le_of_ble_eq_true rfl) (fun r2 h1 hF => ?_)
  refine aw_if_ne (tgt := 14) (M := M_X11_share) (pc := 5) dX11_share_5 rfl (fun hc => ?_) (fun hc => ?_)
  · have hF := hF.1 hc
    refine aw_aload_n (j := 0) (M := M_X11_share) (pc := 14) dX11_share_14 rfl rfl ?_
    refine gf_X11_33 (M := M_X11_share) (pc := 15) rfl dX11_share_15 rfl (r := 12) rfl ?_
    refine gf_X11_214 (M := M_X11_share) (pc := 18) rfl dX11_share_18 rfl (r := 22) rfl ?_
    refine aw_cvi (as := []) (st := []) (M := M_X11_share) (pc := 21) (f_X7_groundInAll rfl hF) dX11_share_21 rfl (Or.inl ⟨_, _, _, rfl, rfl⟩) cy_X7_groundInAll ml_X11_395 (by decide) (by decide) (Nat.le_of_ble_eq_true rfl) (fun r4 h3 hF => ?_)
    refine aw_istore_n (ls' := [(2, (0, r4)), (0, vr 0), (1, (0, a1))]) (M := M_X11_share) (pc := 24) dX11_share_24 rfl (by decide) rfl ?_
    refine aw_iload_n (j := 0) (M := M_X11_share) (pc := 25) dX11_share_25 rfl rfl ?_
    refine aw_if_ne (tgt := 36) (M := M_X11_share) (pc := 26) dX11_share_26 rfl (fun hc => ?_) (fun hc => ?_)
    · have hF := hF.1 hc
      refine aw_aload_n (j := 1) (M := M_X11_share) (pc := 36) dX11_share_36 rfl rfl ?_
      refine aw_aload_n (j := 1) (M := M_X11_share) (pc := 37) dX11_share_37 rfl rfl ?_
      refine gf_X11_33 (M := M_X11_share) (pc := 38) rfl dX11_share_38 rfl (r := 12) rfl ?_
      refine gf_X11_214 (M := M_X11_share) (pc := 41) rfl dX11_share_41 rfl (r := 22) rfl ?_
      refine gf_X11_289 (M := M_X11_share) (pc := 44) rfl dX11_share_44 rfl (r := 26) rfl ?_
      refine aw_iload_n (j := 2) (M := M_X11_share) (pc := 47) dX11_share_47 rfl rfl ?_
      obtain ⟨o6, hF⟩ := hF
      refine aw_iald (k := (a1).toNat) (M := M_X11_share) (pc := 48) dX11_share_48 rfl o6 rfl ?_
      refine aw_i2l (M := M_X11_share) (pc := 49) dX11_share_49 ?_
      refine aw_iload_n (j := 0) (M := M_X11_share) (pc := 50) dX11_share_50 rfl rfl ?_
      refine aw_i2l (M := M_X11_share) (pc := 51) dX11_share_51 ?_
      refine aw_cvi (as := [(1, h3 26 (a1).toNat), (1, r4)]) (st := []) (M := M_X11_share) (pc := 52) (f_X11_tellFraction  hF) dX11_share_52 rfl (Or.inl ⟨_, _, _, rfl, rfl⟩) cy_X11_tellFraction ml_X11_398 (by decide) (by decide) (Nat.le_of_ble_eq_true rfl) (fun r8 h7 hF => ?_)
      exact aw_iretz (M := M_X11_share) (pc := 55) dX11_share_55 rfl hF.1 ⟨_, rfl, hF.2⟩
    · have hF := hF.2 hc
      refine aw_aload_n (j := 1) (M := M_X11_share) (pc := 29) dX11_share_29 rfl rfl ?_
      refine aw_bipush (M := M_X11_share) (pc := 30) dX11_share_30 ⟨rfl, ⟨by decide, by decide⟩⟩ ?_
      refine aw_cvi (as := [(0, 6)]) (st := []) (M := M_X11_share) (pc := 32) (f_X11_refuse  hF) dX11_share_32 rfl (Or.inl ⟨_, _, _, rfl, rfl⟩) cy_X11_refuse ml_X11_109 (by decide) (by decide) (Nat.le_of_ble_eq_true rfl) (fun r10 h9 hF => ?_)
      exact aw_iretz (M := M_X11_share) (pc := 35) dX11_share_35 rfl hF.1 ⟨_, rfl, hF.2⟩
  · have hF := hF.2 hc
    refine aw_aload_n (j := 0) (M := M_X11_share) (pc := 8) dX11_share_8 rfl rfl ?_
    refine aw_iconst (M := M_X11_share) (pc := 9) dX11_share_9 ⟨by decide, by decide⟩ ?_
    refine aw_cvi (as := [(0, 1)]) (st := []) (M := M_X11_share) (pc := 10) (f_X11_refuse  hF) dX11_share_10 rfl (Or.inl ⟨_, _, _, rfl, rfl⟩) cy_X11_refuse ml_X11_109 (by decide) (by decide) (Nat.le_of_ble_eq_true rfl) (fun r12 h11 hF => ?_)
    exact aw_iretz (M := M_X11_share) (pc := 13) dX11_share_13 rfl hF.1 ⟨_, rfl, hF.2⟩
abbrev M_X11_whyNotSoonest : Hd := (cX11_whyNotSoonest, 2, RX11, (some .int), (6, 164), sc0)
def F_X11_whyNotSoonest (h : Mem) (a1 : Int) (Q : Int → Mem → Prop) : Prop :=
  (F_X11_isThing h a1 (fun r2 h1 => ((¬ (r2 = 0) → (F_X9_isFree h1 13 a1 (fun r4 h3 => ((¬ (r4 = 0) → (F_X0_findSoonest h3 12 146 a1 (fun h5 => ((¬ ((h5 42 0) = (-1)) → Q 0 h5) ∧ ((h5 42 0) = (-1) → Q 6 h5))))) ∧ (r4 = 0 → Q 7 h3))))) ∧ (r2 = 0 → Q 1 h1))))
set_option maxRecDepth 100000 in
set_option maxHeartbeats 4000000 in
theorem f_X11_whyNotSoonest {h : Mem} {a1 : Int} {Q : Int → Mem → Prop}  (hF : F_X11_whyNotSoonest h a1 Q) : Ct yX11_whyNotSoonest cX11_whyNotSoonest 2 (some .int) (6, 164) [vr 0, (0, a1)] h (qi Q) := by
  refine Ct.of np_RX11 (Nat.le_of_ble_eq_true rfl) ?_
  unfold F_X11_whyNotSoonest at hF
  show AW M_X11_whyNotSoonest 0 [(0, vr 0), (1, (0, a1))] [] h (qi Q)
  refine aw_aload_n (j := 0) (M := M_X11_whyNotSoonest) (pc := 0) dX11_whyNotSoonest_0 rfl rfl ?_
  refine aw_iload_n (j := 1) (M := M_X11_whyNotSoonest) (pc := 1) dX11_whyNotSoonest_1 rfl rfl ?_
  refine aw_cvi (as := [(0, a1)]) (st := []) (M := M_X11_whyNotSoonest) (pc := 2) (f_X11_isThing  hF) dX11_whyNotSoonest_2 rfl (Or.inl ⟨_, _, _, rfl, rfl⟩) cy_X11_isThing ml_X11_252 (by decide) (by decide) (Nat.le_of_ble_eq_true rfl) (fun r2 h1 hF => ?_)
  refine aw_if_ne (tgt := 10) (M := M_X11_whyNotSoonest) (pc := 5) dX11_whyNotSoonest_5 rfl (fun hc => ?_) (fun hc => ?_)
  · have hF := hF.1 hc
    refine aw_aload_n (j := 0) (M := M_X11_whyNotSoonest) (pc := 10) dX11_whyNotSoonest_10 rfl rfl ?_
    refine gf_X11_33 (M := M_X11_whyNotSoonest) (pc := 11) rfl dX11_whyNotSoonest_11 rfl (r := 12) rfl ?_
    refine gf_X11_184 (M := M_X11_whyNotSoonest) (pc := 14) rfl dX11_whyNotSoonest_14 rfl (r := 13) rfl ?_
    refine aw_iload_n (j := 1) (M := M_X11_whyNotSoonest) (pc := 17) dX11_whyNotSoonest_17 rfl rfl ?_
    refine aw_cvi (as := [(0, a1)]) (st := []) (M := M_X11_whyNotSoonest) (pc := 18) (f_X9_isFree rfl hF) dX11_whyNotSoonest_18 rfl (Or.inl ⟨_, _, _, rfl, rfl⟩) cy_X9_isFree ml_X11_273 (by decide) (by decide) (Nat.le_of_ble_eq_true rfl) (fun r4 h3 hF => ?_)
    refine aw_if_ne (tgt := 27) (M := M_X11_whyNotSoonest) (pc := 21) dX11_whyNotSoonest_21 rfl (fun hc => ?_) (fun hc => ?_)
    · have hF := hF.1 hc
      refine aw_aload_n (j := 0) (M := M_X11_whyNotSoonest) (pc := 27) dX11_whyNotSoonest_27 rfl rfl ?_
      refine gf_X11_64 (M := M_X11_whyNotSoonest) (pc := 28) rfl dX11_whyNotSoonest_28 rfl (r := 42) rfl ?_
      refine aw_aload_n (j := 0) (M := M_X11_whyNotSoonest) (pc := 31) dX11_whyNotSoonest_31 rfl rfl ?_
      refine gf_X11_33 (M := M_X11_whyNotSoonest) (pc := 32) rfl dX11_whyNotSoonest_32 rfl (r := 12) rfl ?_
      refine aw_aload_n (j := 0) (M := M_X11_whyNotSoonest) (pc := 35) dX11_whyNotSoonest_35 rfl rfl ?_
      refine gf_X11_44 (M := M_X11_whyNotSoonest) (pc := 36) rfl dX11_whyNotSoonest_36 rfl (r := 146) rfl ?_
      refine aw_iload_n (j := 1) (M := M_X11_whyNotSoonest) (pc := 39) dX11_whyNotSoonest_39 rfl rfl ?_
      refine aw_cvv (as := [vr 12, vr 146, (0, a1)]) (st := []) (M := M_X11_whyNotSoonest) (pc := 40) (f_X0_findSoonest rfl rfl hF) dX11_whyNotSoonest_40 rfl (Or.inl ⟨_, _, _, rfl, rfl⟩) cy_X0_findSoonest ml_X11_435 (by decide) (by decide) (Nat.le_of_ble_eq_true rfl) (fun h5 hF => ?_)
      refine aw_aload_n (j := 0) (M := M_X11_whyNotSoonest) (pc := 43) dX11_whyNotSoonest_43 rfl rfl ?_
      refine gf_X11_64 (M := M_X11_whyNotSoonest) (pc := 44) rfl dX11_whyNotSoonest_44 rfl (r := 42) rfl ?_
      refine gf_X11_345 (M := M_X11_whyNotSoonest) (pc := 47) rfl dX11_whyNotSoonest_47 rfl ?_
      refine aw_iconst (M := M_X11_whyNotSoonest) (pc := 50) dX11_whyNotSoonest_50 ⟨by decide, by decide⟩ ?_
      refine aw_icmp_ne (tgt := 59) (M := M_X11_whyNotSoonest) (pc := 51) dX11_whyNotSoonest_51 rfl (fun hc => ?_) (fun hc => ?_)
      · have hF := hF.1 hc
        refine aw_iconst (M := M_X11_whyNotSoonest) (pc := 59) dX11_whyNotSoonest_59 ⟨by decide, by decide⟩ ?_
        exact aw_ireti (M := M_X11_whyNotSoonest) (pc := 60) dX11_whyNotSoonest_60 rfl ⟨_, rfl, hF⟩
      · have hF := hF.2 hc
        refine aw_bipush (M := M_X11_whyNotSoonest) (pc := 54) dX11_whyNotSoonest_54 ⟨rfl, ⟨by decide, by decide⟩⟩ ?_
        refine aw_goto (tgt := 60) (M := M_X11_whyNotSoonest) (pc := 56) dX11_whyNotSoonest_56 rfl ?_
        exact aw_ireti (M := M_X11_whyNotSoonest) (pc := 60) dX11_whyNotSoonest_60 rfl ⟨_, rfl, hF⟩
    · have hF := hF.2 hc
      refine aw_bipush (M := M_X11_whyNotSoonest) (pc := 24) dX11_whyNotSoonest_24 ⟨rfl, ⟨by decide, by decide⟩⟩ ?_
      exact aw_ireti (M := M_X11_whyNotSoonest) (pc := 26) dX11_whyNotSoonest_26 rfl ⟨_, rfl, hF⟩
  · have hF := hF.2 hc
    refine aw_iconst (M := M_X11_whyNotSoonest) (pc := 8) dX11_whyNotSoonest_8 ⟨by decide, by decide⟩ ?_
    exact aw_ireti (M := M_X11_whyNotSoonest) (pc := 9) dX11_whyNotSoonest_9 rfl ⟨_, rfl, hF⟩
abbrev M_X11_soonest : Hd := (cX11_soonest, 3, RX11, (some .int), (7, 185), sc0)
def F_X11_soonest (h : Mem) (a1 : Int) (Q : Int → Mem → Prop) : Prop :=
  (F_X11_whyNotSoonest h a1 (fun r2 h1 => ((¬ (r2 = 0) → (F_X11_refused h1 r2 (fun r4 h3 => Q r4 h3))) ∧ (r2 = 0 → (F_X11_given h1 (h1 42 1) (fun r6 h5 => Q r6 h5))))))
set_option maxRecDepth 100000 in
set_option maxHeartbeats 4000000 in
theorem f_X11_soonest {h : Mem} {a1 : Int} {Q : Int → Mem → Prop}  (hF : F_X11_soonest h a1 Q) : Ct yX11_soonest cX11_soonest 3 (some .int) (7, 185) [vr 0, (0, a1)] h (qi Q) := by
  refine Ct.of np_RX11 (Nat.le_of_ble_eq_true rfl) ?_
  unfold F_X11_soonest at hF
  show AW M_X11_soonest 0 [(0, vr 0), (1, (0, a1))] [] h (qi Q)
  refine aw_aload_n (j := 0) (M := M_X11_soonest) (pc := 0) dX11_soonest_0 rfl rfl ?_
  refine aw_iload_n (j := 1) (M := M_X11_soonest) (pc := 1) dX11_soonest_1 rfl rfl ?_
  refine aw_cvi (as := [(0, a1)]) (st := []) (M := M_X11_soonest) (pc := 2) (f_X11_whyNotSoonest  hF) dX11_soonest_2 rfl (Or.inl ⟨_, _, _, rfl, rfl⟩) cy_X11_whyNotSoonest ml_X11_339 (by decide) (by decide) (Nat.le_of_ble_eq_true rfl) (fun r2 h1 hF => ?_)
  refine aw_istore_n (ls' := [(2, (0, r2)), (0, vr 0), (1, (0, a1))]) (M := M_X11_soonest) (pc := 5) dX11_soonest_5 rfl (by decide) rfl ?_
  refine aw_iload_n (j := 0) (M := M_X11_soonest) (pc := 6) dX11_soonest_6 rfl rfl ?_
  refine aw_if_ne (tgt := 24) (M := M_X11_soonest) (pc := 7) dX11_soonest_7 rfl (fun hc => ?_) (fun hc => ?_)
  · have hF := hF.1 hc
    refine aw_aload_n (j := 1) (M := M_X11_soonest) (pc := 24) dX11_soonest_24 rfl rfl ?_
    refine aw_iload_n (j := 0) (M := M_X11_soonest) (pc := 25) dX11_soonest_25 rfl rfl ?_
    refine aw_cvi (as := [(0, r2)]) (st := []) (M := M_X11_soonest) (pc := 26) (f_X11_refused  hF) dX11_soonest_26 rfl (Or.inl ⟨_, _, _, rfl, rfl⟩) cy_X11_refused ml_X11_163 (by decide) (by decide) (Nat.le_of_ble_eq_true rfl) (fun r4 h3 hF => ?_)
    exact aw_ireti (M := M_X11_soonest) (pc := 29) dX11_soonest_29 rfl ⟨_, rfl, hF⟩
  · have hF := hF.2 hc
    refine aw_aload_n (j := 1) (M := M_X11_soonest) (pc := 10) dX11_soonest_10 rfl rfl ?_
    refine aw_aload_n (j := 1) (M := M_X11_soonest) (pc := 11) dX11_soonest_11 rfl rfl ?_
    refine gf_X11_64 (M := M_X11_soonest) (pc := 12) rfl dX11_soonest_12 rfl (r := 42) rfl ?_
    refine gf_X11_342 (M := M_X11_soonest) (pc := 15) rfl dX11_soonest_15 rfl ?_
    refine aw_cvi (as := [(0, h1 42 1)]) (st := []) (M := M_X11_soonest) (pc := 18) (f_X11_given  hF) dX11_soonest_18 rfl (Or.inl ⟨_, _, _, rfl, rfl⟩) cy_X11_given ml_X11_193 (by decide) (by decide) (Nat.le_of_ble_eq_true rfl) (fun r6 h5 hF => ?_)
    refine aw_goto (tgt := 29) (M := M_X11_soonest) (pc := 21) dX11_soonest_21 rfl ?_
    exact aw_ireti (M := M_X11_soonest) (pc := 29) dX11_soonest_29 rfl ⟨_, rfl, hF⟩
abbrev M_X11_soonestIn : Hd := (cX11_soonestIn, 3, RX11, (some .int), (7, 185), sc0)
def F_X11_soonestIn (h : Mem) (a1 : Int) (Q : Int → Mem → Prop) : Prop :=
  (F_X11_whyNotSoonest h a1 (fun r2 h1 => ((¬ (r2 = 0) → (F_X11_refused h1 r2 (fun r4 h3 => Q r4 h3))) ∧ (r2 = 0 → (F_X11_given h1 (h1 42 0) (fun r6 h5 => Q r6 h5))))))
set_option maxRecDepth 100000 in
set_option maxHeartbeats 4000000 in
theorem f_X11_soonestIn {h : Mem} {a1 : Int} {Q : Int → Mem → Prop}  (hF : F_X11_soonestIn h a1 Q) : Ct yX11_soonestIn cX11_soonestIn 3 (some .int) (7, 185) [vr 0, (0, a1)] h (qi Q) := by
  refine Ct.of np_RX11 (Nat.le_of_ble_eq_true rfl) ?_
  unfold F_X11_soonestIn at hF
  show AW M_X11_soonestIn 0 [(0, vr 0), (1, (0, a1))] [] h (qi Q)
  refine aw_aload_n (j := 0) (M := M_X11_soonestIn) (pc := 0) dX11_soonestIn_0 rfl rfl ?_
  refine aw_iload_n (j := 1) (M := M_X11_soonestIn) (pc := 1) dX11_soonestIn_1 rfl rfl ?_
  refine aw_cvi (as := [(0, a1)]) (st := []) (M := M_X11_soonestIn) (pc := 2) (f_X11_whyNotSoonest  hF) dX11_soonestIn_2 rfl (Or.inl ⟨_, _, _, rfl, rfl⟩) cy_X11_whyNotSoonest ml_X11_339 (by decide) (by decide) (Nat.le_of_ble_eq_true rfl) (fun r2 h1 hF => ?_)
  refine aw_istore_n (ls' := [(2, (0, r2)), (0, vr 0), (1, (0, a1))]) (M := M_X11_soonestIn) (pc := 5) dX11_soonestIn_5 rfl (by decide) rfl ?_
  refine aw_iload_n (j := 0) (M := M_X11_soonestIn) (pc := 6) dX11_soonestIn_6 rfl rfl ?_
  refine aw_if_ne (tgt := 24) (M := M_X11_soonestIn) (pc := 7) dX11_soonestIn_7 rfl (fun hc => ?_) (fun hc => ?_)
  · have hF := hF.1 hc
    refine aw_aload_n (j := 1) (M := M_X11_soonestIn) (pc := 24) dX11_soonestIn_24 rfl rfl ?_
    refine aw_iload_n (j := 0) (M := M_X11_soonestIn) (pc := 25) dX11_soonestIn_25 rfl rfl ?_
    refine aw_cvi (as := [(0, r2)]) (st := []) (M := M_X11_soonestIn) (pc := 26) (f_X11_refused  hF) dX11_soonestIn_26 rfl (Or.inl ⟨_, _, _, rfl, rfl⟩) cy_X11_refused ml_X11_163 (by decide) (by decide) (Nat.le_of_ble_eq_true rfl) (fun r4 h3 hF => ?_)
    exact aw_ireti (M := M_X11_soonestIn) (pc := 29) dX11_soonestIn_29 rfl ⟨_, rfl, hF⟩
  · have hF := hF.2 hc
    refine aw_aload_n (j := 1) (M := M_X11_soonestIn) (pc := 10) dX11_soonestIn_10 rfl rfl ?_
    refine aw_aload_n (j := 1) (M := M_X11_soonestIn) (pc := 11) dX11_soonestIn_11 rfl rfl ?_
    refine gf_X11_64 (M := M_X11_soonestIn) (pc := 12) rfl dX11_soonestIn_12 rfl (r := 42) rfl ?_
    refine gf_X11_345 (M := M_X11_soonestIn) (pc := 15) rfl dX11_soonestIn_15 rfl ?_
    refine aw_cvi (as := [(0, h1 42 0)]) (st := []) (M := M_X11_soonestIn) (pc := 18) (f_X11_given  hF) dX11_soonestIn_18 rfl (Or.inl ⟨_, _, _, rfl, rfl⟩) cy_X11_given ml_X11_193 (by decide) (by decide) (Nat.le_of_ble_eq_true rfl) (fun r6 h5 hF => ?_)
    refine aw_goto (tgt := 29) (M := M_X11_soonestIn) (pc := 21) dX11_soonestIn_21 rfl ?_
    exact aw_ireti (M := M_X11_soonestIn) (pc := 29) dX11_soonestIn_29 rfl ⟨_, rfl, hF⟩
abbrev M_X11_status : Hd := (cX11_status, 1, RX11, (some .int), (1, 45), sc0)
def F_X11_status (h : Mem)  (Q : Int → Mem → Prop) : Prop :=
  Q (h 0 0) h
set_option maxRecDepth 100000 in
set_option maxHeartbeats 4000000 in
theorem f_X11_status {h : Mem}  {Q : Int → Mem → Prop}  (hF : F_X11_status h  Q) : Ct yX11_status cX11_status 1 (some .int) (1, 45) [vr 0] h (qi Q) := by
  refine Ct.of np_RX11 (Nat.le_of_ble_eq_true rfl) ?_
  unfold F_X11_status at hF
  show AW M_X11_status 0 [(0, vr 0)] [] h (qi Q)
  refine aw_aload_n (j := 0) (M := M_X11_status) (pc := 0) dX11_status_0 rfl rfl ?_
  refine gf_X11_102 (M := M_X11_status) (pc := 1) rfl dX11_status_1 rfl ?_
  exact aw_ireti (M := M_X11_status) (pc := 4) dX11_status_4 rfl ⟨_, rfl, hF⟩
theorem so_X11_thing_15 {x : Int} (h0 : ¬ x = 0) (h1 : ¬ x = 1) (h2 : ¬ x = 2) (h3 : ¬ x = 3) (h4 : ¬ x = 4) (h5 : ¬ x = 5) : x < 0 ∨ 5 < x := by omega
abbrev M_X11_thing : Hd := (cX11_thing, 3, RX11, (some .int), (2, 66), sc0)
def F_X11_thing (h : Mem) (a1 : Int) (a2 : Int) (Q : Int → Mem → Prop) : Prop :=
  (F_X11_isThing h a1 (fun r2 h1 => ((¬ (r2 = 0) → ((a2 = 0 → ((0 ≤ a1 ∧ a1 < 8) ∧ (F_X11_given h1 (h1 15 (a1).toNat) (fun r6 h5 => Q r6 h5)))) ∧ ((a2 = 1 → ((0 ≤ a1 ∧ a1 < 8) ∧ (F_X11_given h1 (h1 16 (a1).toNat) (fun r10 h9 => Q r10 h9)))) ∧ ((a2 = 2 → ((0 ≤ a1 ∧ a1 < 8) ∧ (F_X11_given h1 (h1 17 (a1).toNat) (fun r14 h13 => Q r14 h13)))) ∧ ((a2 = 3 → ((0 ≤ a1 ∧ a1 < 8) ∧ (F_X11_given h1 (h1 18 (a1).toNat) (fun r18 h17 => Q r18 h17)))) ∧ ((a2 = 4 → ((0 ≤ a1 ∧ a1 < 8) ∧ (F_X11_given h1 (h1 20 (a1).toNat) (fun r22 h21 => Q r22 h21)))) ∧ ((a2 = 5 → ((0 ≤ a1 ∧ a1 < 8) ∧ (F_X11_given h1 (h1 21 (a1).toNat) (fun r26 h25 => Q r26 h25)))) ∧ ((a2 < 0 ∨ 5 < a2) → (F_X11_refused h1 1 (fun r28 h27 => Q r28 h27)))))))))) ∧ (r2 = 0 → (F_X11_refused h1 1 (fun r30 h29 => Q r30 h29))))))
set_option maxRecDepth 100000 in
set_option maxHeartbeats 4000000 in
theorem f_X11_thing {h : Mem} {a1 : Int} {a2 : Int} {Q : Int → Mem → Prop}  (hF : F_X11_thing h a1 a2 Q) : Ct yX11_thing cX11_thing 3 (some .int) (2, 66) [vr 0, (0, a1), (0, a2)] h (qi Q) := by
  refine Ct.of np_RX11 (Nat.le_of_ble_eq_true rfl) ?_
  unfold F_X11_thing at hF
  show AW M_X11_thing 0 [(0, vr 0), (1, (0, a1)), (2, (0, a2))] [] h (qi Q)
  refine aw_aload_n (j := 0) (M := M_X11_thing) (pc := 0) dX11_thing_0 rfl rfl ?_
  refine aw_iload_n (j := 1) (M := M_X11_thing) (pc := 1) dX11_thing_1 rfl rfl ?_
  refine aw_cvi (as := [(0, a1)]) (st := []) (M := M_X11_thing) (pc := 2) (f_X11_isThing  hF) dX11_thing_2 rfl (Or.inl ⟨_, _, _, rfl, rfl⟩) cy_X11_isThing ml_X11_252 (by decide) (by decide) (Nat.le_of_ble_eq_true rfl) (fun r2 h1 hF => ?_)
  refine aw_if_ne (tgt := 14) (M := M_X11_thing) (pc := 5) dX11_thing_5 rfl (fun hc => ?_) (fun hc => ?_)
  · have hF := hF.1 hc
    refine aw_iload_n (j := 2) (M := M_X11_thing) (pc := 14) dX11_thing_14 rfl rfl ?_
    by_cases hc : a2 = 0
    · have hF := hF.1 hc
      refine aw_tableIn (tgt := 52) (M := M_X11_thing) (pc := 15) dX11_thing_15 (by rw [hc]; decide) (by rw [hc]; decide) (off := 37) (by rw [hc]; rfl) rfl ?_
      refine aw_aload_n (j := 0) (M := M_X11_thing) (pc := 52) dX11_thing_52 rfl rfl ?_
      refine aw_aload_n (j := 0) (M := M_X11_thing) (pc := 53) dX11_thing_53 rfl rfl ?_
      refine gf_X11_33 (M := M_X11_thing) (pc := 54) rfl dX11_thing_54 rfl (r := 12) rfl ?_
      refine gf_X11_184 (M := M_X11_thing) (pc := 57) rfl dX11_thing_57 rfl (r := 13) rfl ?_
      refine gf_X11_255 (M := M_X11_thing) (pc := 60) rfl dX11_thing_60 rfl (r := 15) rfl ?_
      refine aw_iload_n (j := 1) (M := M_X11_thing) (pc := 63) dX11_thing_63 rfl rfl ?_
      obtain ⟨o4, hF⟩ := hF
      refine aw_iald (k := (a1).toNat) (M := M_X11_thing) (pc := 64) dX11_thing_64 rfl o4 rfl ?_
      refine aw_cvi (as := [(0, h1 15 (a1).toNat)]) (st := []) (M := M_X11_thing) (pc := 65) (f_X11_given  hF) dX11_thing_65 rfl (Or.inl ⟨_, _, _, rfl, rfl⟩) cy_X11_given ml_X11_193 (by decide) (by decide) (Nat.le_of_ble_eq_true rfl) (fun r6 h5 hF => ?_)
      exact aw_ireti (M := M_X11_thing) (pc := 68) dX11_thing_68 rfl ⟨_, rfl, hF⟩
    have hF := hF.2
    have hc0 := hc
    by_cases hc : a2 = 1
    · have hF := hF.1 hc
      refine aw_tableIn (tgt := 69) (M := M_X11_thing) (pc := 15) dX11_thing_15 (by rw [hc]; decide) (by rw [hc]; decide) (off := 54) (by rw [hc]; rfl) rfl ?_
      refine aw_aload_n (j := 0) (M := M_X11_thing) (pc := 69) dX11_thing_69 rfl rfl ?_
      refine aw_aload_n (j := 0) (M := M_X11_thing) (pc := 70) dX11_thing_70 rfl rfl ?_
      refine gf_X11_33 (M := M_X11_thing) (pc := 71) rfl dX11_thing_71 rfl (r := 12) rfl ?_
      refine gf_X11_184 (M := M_X11_thing) (pc := 74) rfl dX11_thing_74 rfl (r := 13) rfl ?_
      refine gf_X11_258 (M := M_X11_thing) (pc := 77) rfl dX11_thing_77 rfl (r := 16) rfl ?_
      refine aw_iload_n (j := 1) (M := M_X11_thing) (pc := 80) dX11_thing_80 rfl rfl ?_
      obtain ⟨o8, hF⟩ := hF
      refine aw_iald (k := (a1).toNat) (M := M_X11_thing) (pc := 81) dX11_thing_81 rfl o8 rfl ?_
      refine aw_cvi (as := [(0, h1 16 (a1).toNat)]) (st := []) (M := M_X11_thing) (pc := 82) (f_X11_given  hF) dX11_thing_82 rfl (Or.inl ⟨_, _, _, rfl, rfl⟩) cy_X11_given ml_X11_193 (by decide) (by decide) (Nat.le_of_ble_eq_true rfl) (fun r10 h9 hF => ?_)
      exact aw_ireti (M := M_X11_thing) (pc := 85) dX11_thing_85 rfl ⟨_, rfl, hF⟩
    have hF := hF.2
    have hc1 := hc
    by_cases hc : a2 = 2
    · have hF := hF.1 hc
      refine aw_tableIn (tgt := 86) (M := M_X11_thing) (pc := 15) dX11_thing_15 (by rw [hc]; decide) (by rw [hc]; decide) (off := 71) (by rw [hc]; rfl) rfl ?_
      refine aw_aload_n (j := 0) (M := M_X11_thing) (pc := 86) dX11_thing_86 rfl rfl ?_
      refine aw_aload_n (j := 0) (M := M_X11_thing) (pc := 87) dX11_thing_87 rfl rfl ?_
      refine gf_X11_33 (M := M_X11_thing) (pc := 88) rfl dX11_thing_88 rfl (r := 12) rfl ?_
      refine gf_X11_184 (M := M_X11_thing) (pc := 91) rfl dX11_thing_91 rfl (r := 13) rfl ?_
      refine gf_X11_261 (M := M_X11_thing) (pc := 94) rfl dX11_thing_94 rfl (r := 17) rfl ?_
      refine aw_iload_n (j := 1) (M := M_X11_thing) (pc := 97) dX11_thing_97 rfl rfl ?_
      obtain ⟨o12, hF⟩ := hF
      refine aw_iald (k := (a1).toNat) (M := M_X11_thing) (pc := 98) dX11_thing_98 rfl o12 rfl ?_
      refine aw_cvi (as := [(0, h1 17 (a1).toNat)]) (st := []) (M := M_X11_thing) (pc := 99) (f_X11_given  hF) dX11_thing_99 rfl (Or.inl ⟨_, _, _, rfl, rfl⟩) cy_X11_given ml_X11_193 (by decide) (by decide) (Nat.le_of_ble_eq_true rfl) (fun r14 h13 hF => ?_)
      exact aw_ireti (M := M_X11_thing) (pc := 102) dX11_thing_102 rfl ⟨_, rfl, hF⟩
    have hF := hF.2
    have hc2 := hc
    by_cases hc : a2 = 3
    · have hF := hF.1 hc
      refine aw_tableIn (tgt := 103) (M := M_X11_thing) (pc := 15) dX11_thing_15 (by rw [hc]; decide) (by rw [hc]; decide) (off := 88) (by rw [hc]; rfl) rfl ?_
      refine aw_aload_n (j := 0) (M := M_X11_thing) (pc := 103) dX11_thing_103 rfl rfl ?_
      refine aw_aload_n (j := 0) (M := M_X11_thing) (pc := 104) dX11_thing_104 rfl rfl ?_
      refine gf_X11_33 (M := M_X11_thing) (pc := 105) rfl dX11_thing_105 rfl (r := 12) rfl ?_
      refine gf_X11_184 (M := M_X11_thing) (pc := 108) rfl dX11_thing_108 rfl (r := 13) rfl ?_
      refine gf_X11_264 (M := M_X11_thing) (pc := 111) rfl dX11_thing_111 rfl (r := 18) rfl ?_
      refine aw_iload_n (j := 1) (M := M_X11_thing) (pc := 114) dX11_thing_114 rfl rfl ?_
      obtain ⟨o16, hF⟩ := hF
      refine aw_iald (k := (a1).toNat) (M := M_X11_thing) (pc := 115) dX11_thing_115 rfl o16 rfl ?_
      refine aw_cvi (as := [(0, h1 18 (a1).toNat)]) (st := []) (M := M_X11_thing) (pc := 116) (f_X11_given  hF) dX11_thing_116 rfl (Or.inl ⟨_, _, _, rfl, rfl⟩) cy_X11_given ml_X11_193 (by decide) (by decide) (Nat.le_of_ble_eq_true rfl) (fun r18 h17 hF => ?_)
      exact aw_ireti (M := M_X11_thing) (pc := 119) dX11_thing_119 rfl ⟨_, rfl, hF⟩
    have hF := hF.2
    have hc3 := hc
    by_cases hc : a2 = 4
    · have hF := hF.1 hc
      refine aw_tableIn (tgt := 120) (M := M_X11_thing) (pc := 15) dX11_thing_15 (by rw [hc]; decide) (by rw [hc]; decide) (off := 105) (by rw [hc]; rfl) rfl ?_
      refine aw_aload_n (j := 0) (M := M_X11_thing) (pc := 120) dX11_thing_120 rfl rfl ?_
      refine aw_aload_n (j := 0) (M := M_X11_thing) (pc := 121) dX11_thing_121 rfl rfl ?_
      refine gf_X11_33 (M := M_X11_thing) (pc := 122) rfl dX11_thing_122 rfl (r := 12) rfl ?_
      refine gf_X11_184 (M := M_X11_thing) (pc := 125) rfl dX11_thing_125 rfl (r := 13) rfl ?_
      refine gf_X11_267 (M := M_X11_thing) (pc := 128) rfl dX11_thing_128 rfl (r := 20) rfl ?_
      refine aw_iload_n (j := 1) (M := M_X11_thing) (pc := 131) dX11_thing_131 rfl rfl ?_
      obtain ⟨o20, hF⟩ := hF
      refine aw_iald (k := (a1).toNat) (M := M_X11_thing) (pc := 132) dX11_thing_132 rfl o20 rfl ?_
      refine aw_cvi (as := [(0, h1 20 (a1).toNat)]) (st := []) (M := M_X11_thing) (pc := 133) (f_X11_given  hF) dX11_thing_133 rfl (Or.inl ⟨_, _, _, rfl, rfl⟩) cy_X11_given ml_X11_193 (by decide) (by decide) (Nat.le_of_ble_eq_true rfl) (fun r22 h21 hF => ?_)
      exact aw_ireti (M := M_X11_thing) (pc := 136) dX11_thing_136 rfl ⟨_, rfl, hF⟩
    have hF := hF.2
    have hc4 := hc
    by_cases hc : a2 = 5
    · have hF := hF.1 hc
      refine aw_tableIn (tgt := 137) (M := M_X11_thing) (pc := 15) dX11_thing_15 (by rw [hc]; decide) (by rw [hc]; decide) (off := 122) (by rw [hc]; rfl) rfl ?_
      refine aw_aload_n (j := 0) (M := M_X11_thing) (pc := 137) dX11_thing_137 rfl rfl ?_
      refine aw_aload_n (j := 0) (M := M_X11_thing) (pc := 138) dX11_thing_138 rfl rfl ?_
      refine gf_X11_33 (M := M_X11_thing) (pc := 139) rfl dX11_thing_139 rfl (r := 12) rfl ?_
      refine gf_X11_184 (M := M_X11_thing) (pc := 142) rfl dX11_thing_142 rfl (r := 13) rfl ?_
      refine gf_X11_270 (M := M_X11_thing) (pc := 145) rfl dX11_thing_145 rfl (r := 21) rfl ?_
      refine aw_iload_n (j := 1) (M := M_X11_thing) (pc := 148) dX11_thing_148 rfl rfl ?_
      obtain ⟨o24, hF⟩ := hF
      refine aw_iald (k := (a1).toNat) (M := M_X11_thing) (pc := 149) dX11_thing_149 rfl o24 rfl ?_
      refine aw_cvi (as := [(0, h1 21 (a1).toNat)]) (st := []) (M := M_X11_thing) (pc := 150) (f_X11_given  hF) dX11_thing_150 rfl (Or.inl ⟨_, _, _, rfl, rfl⟩) cy_X11_given ml_X11_193 (by decide) (by decide) (Nat.le_of_ble_eq_true rfl) (fun r26 h25 hF => ?_)
      exact aw_ireti (M := M_X11_thing) (pc := 153) dX11_thing_153 rfl ⟨_, rfl, hF⟩
    have hF := hF.2
    have hc5 := hc
    have hc : a2 < 0 ∨ 5 < a2 := so_X11_thing_15 hc0 hc1 hc2 hc3 hc4 hc5
    have hF := hF hc
    refine aw_tableOut (tgt := 154) (M := M_X11_thing) (pc := 15) dX11_thing_15 hc rfl ?_
    refine aw_aload_n (j := 0) (M := M_X11_thing) (pc := 154) dX11_thing_154 rfl rfl ?_
    refine aw_iconst (M := M_X11_thing) (pc := 155) dX11_thing_155 ⟨by decide, by decide⟩ ?_
    refine aw_cvi (as := [(0, 1)]) (st := []) (M := M_X11_thing) (pc := 156) (f_X11_refused  hF) dX11_thing_156 rfl (Or.inl ⟨_, _, _, rfl, rfl⟩) cy_X11_refused ml_X11_163 (by decide) (by decide) (Nat.le_of_ble_eq_true rfl) (fun r28 h27 hF => ?_)
    exact aw_ireti (M := M_X11_thing) (pc := 159) dX11_thing_159 rfl ⟨_, rfl, hF⟩
  · have hF := hF.2 hc
    refine aw_aload_n (j := 0) (M := M_X11_thing) (pc := 8) dX11_thing_8 rfl rfl ?_
    refine aw_iconst (M := M_X11_thing) (pc := 9) dX11_thing_9 ⟨by decide, by decide⟩ ?_
    refine aw_cvi (as := [(0, 1)]) (st := []) (M := M_X11_thing) (pc := 10) (f_X11_refused  hF) dX11_thing_10 rfl (Or.inl ⟨_, _, _, rfl, rfl⟩) cy_X11_refused ml_X11_163 (by decide) (by decide) (Nat.le_of_ble_eq_true rfl) (fun r30 h29 hF => ?_)
    exact aw_ireti (M := M_X11_thing) (pc := 13) dX11_thing_13 rfl ⟨_, rfl, hF⟩
theorem so_X11_told_1 {x : Int} (h0 : ¬ x = 0) (h1 : ¬ x = 1) (h2 : ¬ x = 2) (h3 : ¬ x = 3) (h4 : ¬ x = 4) (h5 : ¬ x = 5) (h6 : ¬ x = 6) (h7 : ¬ x = 7) (h8 : ¬ x = 8) (h9 : ¬ x = 9) (h10 : ¬ x = 10) (h11 : ¬ x = 11) (h12 : ¬ x = 12) (h13 : ¬ x = 13) (h14 : ¬ x = 14) : x < 0 ∨ 14 < x := by omega
abbrev M_X11_told : Hd := (cX11_told, 2, RX11, (some .int), (3, 88), sc0)
def F_X11_told (h : Mem) (a1 : Int) (Q : Int → Mem → Prop) : Prop :=
  ((a1 = 0 → (F_X11_given h (h 13 0) (fun r2 h1 => Q r2 h1))) ∧ ((a1 = 1 → (F_X11_given h (h 22 0) (fun r4 h3 => Q r4 h3))) ∧ ((a1 = 2 → (F_X11_given h (h 12 0) (fun r6 h5 => Q r6 h5))) ∧ ((a1 = 3 → (F_X11_given h (h 12 1) (fun r8 h7 => Q r8 h7))) ∧ ((a1 = 4 → (F_X11_given h (h 12 2) (fun r10 h9 => Q r10 h9))) ∧ ((a1 = 5 → (F_X11_given h (h 12 5) (fun r12 h11 => Q r12 h11))) ∧ ((a1 = 6 → (F_X11_given h (h 12 3) (fun r14 h13 => Q r14 h13))) ∧ ((a1 = 7 → (F_X11_given h (h 12 4) (fun r16 h15 => Q r16 h15))) ∧ ((a1 = 8 → (F_X11_given h (h 12 6) (fun r18 h17 => Q r18 h17))) ∧ ((a1 = 9 → (F_X9_setThatIs h 13 0 (fun r20 h19 => (F_X11_given h19 r20 (fun r22 h21 => Q r22 h21))))) ∧ ((a1 = 10 → (F_X9_setThatIs h 13 1 (fun r24 h23 => (F_X11_given h23 r24 (fun r26 h25 => Q r26 h25))))) ∧ ((a1 = 11 → (F_X9_setThatIs h 13 2 (fun r28 h27 => (F_X11_given h27 r28 (fun r30 h29 => Q r30 h29))))) ∧ ((a1 = 12 → (F_X9_setThatIs h 13 3 (fun r32 h31 => (F_X11_given h31 r32 (fun r34 h33 => Q r34 h33))))) ∧ ((a1 = 13 → (F_X9_setRemembered h 13 (fun r36 h35 => (F_X11_given h35 r36 (fun r38 h37 => Q r38 h37))))) ∧ ((a1 = 14 → (F_X9_carriedWeight h 13 (fun r40 h39 => (F_X11_given h39 r40 (fun r42 h41 => Q r42 h41))))) ∧ ((a1 < 0 ∨ 14 < a1) → (F_X11_refused h 1 (fun r44 h43 => Q r44 h43))))))))))))))))))
set_option maxRecDepth 100000 in
set_option maxHeartbeats 4000000 in
theorem f_X11_told {h : Mem} {a1 : Int} {Q : Int → Mem → Prop}  (hF : F_X11_told h a1 Q) : Ct yX11_told cX11_told 2 (some .int) (3, 88) [vr 0, (0, a1)] h (qi Q) := by
  refine Ct.of np_RX11 (Nat.le_of_ble_eq_true rfl) ?_
  unfold F_X11_told at hF
  show AW M_X11_told 0 [(0, vr 0), (1, (0, a1))] [] h (qi Q)
  refine aw_iload_n (j := 1) (M := M_X11_told) (pc := 0) dX11_told_0 rfl rfl ?_
  by_cases hc : a1 = 0
  · have hF := hF.1 hc
    refine aw_tableIn (tgt := 76) (M := M_X11_told) (pc := 1) dX11_told_1 (by rw [hc]; decide) (by rw [hc]; decide) (off := 75) (by rw [hc]; rfl) rfl ?_
    refine aw_aload_n (j := 0) (M := M_X11_told) (pc := 76) dX11_told_76 rfl rfl ?_
    refine aw_aload_n (j := 0) (M := M_X11_told) (pc := 77) dX11_told_77 rfl rfl ?_
    refine gf_X11_33 (M := M_X11_told) (pc := 78) rfl dX11_told_78 rfl (r := 12) rfl ?_
    refine gf_X11_184 (M := M_X11_told) (pc := 81) rfl dX11_told_81 rfl (r := 13) rfl ?_
    refine gf_X11_188 (M := M_X11_told) (pc := 84) rfl dX11_told_84 rfl ?_
    refine aw_cvi (as := [(0, h 13 0)]) (st := []) (M := M_X11_told) (pc := 87) (f_X11_given  hF) dX11_told_87 rfl (Or.inl ⟨_, _, _, rfl, rfl⟩) cy_X11_given ml_X11_193 (by decide) (by decide) (Nat.le_of_ble_eq_true rfl) (fun r2 h1 hF => ?_)
    exact aw_ireti (M := M_X11_told) (pc := 90) dX11_told_90 rfl ⟨_, rfl, hF⟩
  have hF := hF.2
  have hc0 := hc
  by_cases hc : a1 = 1
  · have hF := hF.1 hc
    refine aw_tableIn (tgt := 91) (M := M_X11_told) (pc := 1) dX11_told_1 (by rw [hc]; decide) (by rw [hc]; decide) (off := 90) (by rw [hc]; rfl) rfl ?_
    refine aw_aload_n (j := 0) (M := M_X11_told) (pc := 91) dX11_told_91 rfl rfl ?_
    refine aw_aload_n (j := 0) (M := M_X11_told) (pc := 92) dX11_told_92 rfl rfl ?_
    refine gf_X11_33 (M := M_X11_told) (pc := 93) rfl dX11_told_93 rfl (r := 12) rfl ?_
    refine gf_X11_214 (M := M_X11_told) (pc := 96) rfl dX11_told_96 rfl (r := 22) rfl ?_
    refine gf_X11_218 (M := M_X11_told) (pc := 99) rfl dX11_told_99 rfl ?_
    refine aw_cvi (as := [(0, h 22 0)]) (st := []) (M := M_X11_told) (pc := 102) (f_X11_given  hF) dX11_told_102 rfl (Or.inl ⟨_, _, _, rfl, rfl⟩) cy_X11_given ml_X11_193 (by decide) (by decide) (Nat.le_of_ble_eq_true rfl) (fun r4 h3 hF => ?_)
    exact aw_ireti (M := M_X11_told) (pc := 105) dX11_told_105 rfl ⟨_, rfl, hF⟩
  have hF := hF.2
  have hc1 := hc
  by_cases hc : a1 = 2
  · have hF := hF.1 hc
    refine aw_tableIn (tgt := 106) (M := M_X11_told) (pc := 1) dX11_told_1 (by rw [hc]; decide) (by rw [hc]; decide) (off := 105) (by rw [hc]; rfl) rfl ?_
    refine aw_aload_n (j := 0) (M := M_X11_told) (pc := 106) dX11_told_106 rfl rfl ?_
    refine aw_aload_n (j := 0) (M := M_X11_told) (pc := 107) dX11_told_107 rfl rfl ?_
    refine gf_X11_33 (M := M_X11_told) (pc := 108) rfl dX11_told_108 rfl (r := 12) rfl ?_
    refine gf_X11_221 (M := M_X11_told) (pc := 111) rfl dX11_told_111 rfl ?_
    refine aw_cvi (as := [(0, h 12 0)]) (st := []) (M := M_X11_told) (pc := 114) (f_X11_given  hF) dX11_told_114 rfl (Or.inl ⟨_, _, _, rfl, rfl⟩) cy_X11_given ml_X11_193 (by decide) (by decide) (Nat.le_of_ble_eq_true rfl) (fun r6 h5 hF => ?_)
    exact aw_ireti (M := M_X11_told) (pc := 117) dX11_told_117 rfl ⟨_, rfl, hF⟩
  have hF := hF.2
  have hc2 := hc
  by_cases hc : a1 = 3
  · have hF := hF.1 hc
    refine aw_tableIn (tgt := 118) (M := M_X11_told) (pc := 1) dX11_told_1 (by rw [hc]; decide) (by rw [hc]; decide) (off := 117) (by rw [hc]; rfl) rfl ?_
    refine aw_aload_n (j := 0) (M := M_X11_told) (pc := 118) dX11_told_118 rfl rfl ?_
    refine aw_aload_n (j := 0) (M := M_X11_told) (pc := 119) dX11_told_119 rfl rfl ?_
    refine gf_X11_33 (M := M_X11_told) (pc := 120) rfl dX11_told_120 rfl (r := 12) rfl ?_
    refine gf_X11_224 (M := M_X11_told) (pc := 123) rfl dX11_told_123 rfl ?_
    refine aw_cvi (as := [(0, h 12 1)]) (st := []) (M := M_X11_told) (pc := 126) (f_X11_given  hF) dX11_told_126 rfl (Or.inl ⟨_, _, _, rfl, rfl⟩) cy_X11_given ml_X11_193 (by decide) (by decide) (Nat.le_of_ble_eq_true rfl) (fun r8 h7 hF => ?_)
    exact aw_ireti (M := M_X11_told) (pc := 129) dX11_told_129 rfl ⟨_, rfl, hF⟩
  have hF := hF.2
  have hc3 := hc
  by_cases hc : a1 = 4
  · have hF := hF.1 hc
    refine aw_tableIn (tgt := 130) (M := M_X11_told) (pc := 1) dX11_told_1 (by rw [hc]; decide) (by rw [hc]; decide) (off := 129) (by rw [hc]; rfl) rfl ?_
    refine aw_aload_n (j := 0) (M := M_X11_told) (pc := 130) dX11_told_130 rfl rfl ?_
    refine aw_aload_n (j := 0) (M := M_X11_told) (pc := 131) dX11_told_131 rfl rfl ?_
    refine gf_X11_33 (M := M_X11_told) (pc := 132) rfl dX11_told_132 rfl (r := 12) rfl ?_
    refine gf_X11_227 (M := M_X11_told) (pc := 135) rfl dX11_told_135 rfl ?_
    refine aw_cvi (as := [(0, h 12 2)]) (st := []) (M := M_X11_told) (pc := 138) (f_X11_given  hF) dX11_told_138 rfl (Or.inl ⟨_, _, _, rfl, rfl⟩) cy_X11_given ml_X11_193 (by decide) (by decide) (Nat.le_of_ble_eq_true rfl) (fun r10 h9 hF => ?_)
    exact aw_ireti (M := M_X11_told) (pc := 141) dX11_told_141 rfl ⟨_, rfl, hF⟩
  have hF := hF.2
  have hc4 := hc
  by_cases hc : a1 = 5
  · have hF := hF.1 hc
    refine aw_tableIn (tgt := 142) (M := M_X11_told) (pc := 1) dX11_told_1 (by rw [hc]; decide) (by rw [hc]; decide) (off := 141) (by rw [hc]; rfl) rfl ?_
    refine aw_aload_n (j := 0) (M := M_X11_told) (pc := 142) dX11_told_142 rfl rfl ?_
    refine aw_aload_n (j := 0) (M := M_X11_told) (pc := 143) dX11_told_143 rfl rfl ?_
    refine gf_X11_33 (M := M_X11_told) (pc := 144) rfl dX11_told_144 rfl (r := 12) rfl ?_
    refine gf_X11_230 (M := M_X11_told) (pc := 147) rfl dX11_told_147 rfl ?_
    refine aw_cvi (as := [(0, h 12 5)]) (st := []) (M := M_X11_told) (pc := 150) (f_X11_given  hF) dX11_told_150 rfl (Or.inl ⟨_, _, _, rfl, rfl⟩) cy_X11_given ml_X11_193 (by decide) (by decide) (Nat.le_of_ble_eq_true rfl) (fun r12 h11 hF => ?_)
    exact aw_ireti (M := M_X11_told) (pc := 153) dX11_told_153 rfl ⟨_, rfl, hF⟩
  have hF := hF.2
  have hc5 := hc
  by_cases hc : a1 = 6
  · have hF := hF.1 hc
    refine aw_tableIn (tgt := 154) (M := M_X11_told) (pc := 1) dX11_told_1 (by rw [hc]; decide) (by rw [hc]; decide) (off := 153) (by rw [hc]; rfl) rfl ?_
    refine aw_aload_n (j := 0) (M := M_X11_told) (pc := 154) dX11_told_154 rfl rfl ?_
    refine aw_aload_n (j := 0) (M := M_X11_told) (pc := 155) dX11_told_155 rfl rfl ?_
    refine gf_X11_33 (M := M_X11_told) (pc := 156) rfl dX11_told_156 rfl (r := 12) rfl ?_
    refine gf_X11_233 (M := M_X11_told) (pc := 159) rfl dX11_told_159 rfl ?_
    refine aw_cvi (as := [(0, h 12 3)]) (st := []) (M := M_X11_told) (pc := 162) (f_X11_given  hF) dX11_told_162 rfl (Or.inl ⟨_, _, _, rfl, rfl⟩) cy_X11_given ml_X11_193 (by decide) (by decide) (Nat.le_of_ble_eq_true rfl) (fun r14 h13 hF => ?_)
    exact aw_ireti (M := M_X11_told) (pc := 165) dX11_told_165 rfl ⟨_, rfl, hF⟩
  have hF := hF.2
  have hc6 := hc
  by_cases hc : a1 = 7
  · have hF := hF.1 hc
    refine aw_tableIn (tgt := 166) (M := M_X11_told) (pc := 1) dX11_told_1 (by rw [hc]; decide) (by rw [hc]; decide) (off := 165) (by rw [hc]; rfl) rfl ?_
    refine aw_aload_n (j := 0) (M := M_X11_told) (pc := 166) dX11_told_166 rfl rfl ?_
    refine aw_aload_n (j := 0) (M := M_X11_told) (pc := 167) dX11_told_167 rfl rfl ?_
    refine gf_X11_33 (M := M_X11_told) (pc := 168) rfl dX11_told_168 rfl (r := 12) rfl ?_
    refine gf_X11_236 (M := M_X11_told) (pc := 171) rfl dX11_told_171 rfl ?_
    refine aw_cvi (as := [(0, h 12 4)]) (st := []) (M := M_X11_told) (pc := 174) (f_X11_given  hF) dX11_told_174 rfl (Or.inl ⟨_, _, _, rfl, rfl⟩) cy_X11_given ml_X11_193 (by decide) (by decide) (Nat.le_of_ble_eq_true rfl) (fun r16 h15 hF => ?_)
    exact aw_ireti (M := M_X11_told) (pc := 177) dX11_told_177 rfl ⟨_, rfl, hF⟩
  have hF := hF.2
  have hc7 := hc
  by_cases hc : a1 = 8
  · have hF := hF.1 hc
    refine aw_tableIn (tgt := 178) (M := M_X11_told) (pc := 1) dX11_told_1 (by rw [hc]; decide) (by rw [hc]; decide) (off := 177) (by rw [hc]; rfl) rfl ?_
    refine aw_aload_n (j := 0) (M := M_X11_told) (pc := 178) dX11_told_178 rfl rfl ?_
    refine aw_aload_n (j := 0) (M := M_X11_told) (pc := 179) dX11_told_179 rfl rfl ?_
    refine gf_X11_33 (M := M_X11_told) (pc := 180) rfl dX11_told_180 rfl (r := 12) rfl ?_
    refine gf_X11_239 (M := M_X11_told) (pc := 183) rfl dX11_told_183 rfl ?_
    refine aw_cvi (as := [(0, h 12 6)]) (st := []) (M := M_X11_told) (pc := 186) (f_X11_given  hF) dX11_told_186 rfl (Or.inl ⟨_, _, _, rfl, rfl⟩) cy_X11_given ml_X11_193 (by decide) (by decide) (Nat.le_of_ble_eq_true rfl) (fun r18 h17 hF => ?_)
    exact aw_ireti (M := M_X11_told) (pc := 189) dX11_told_189 rfl ⟨_, rfl, hF⟩
  have hF := hF.2
  have hc8 := hc
  by_cases hc : a1 = 9
  · have hF := hF.1 hc
    refine aw_tableIn (tgt := 190) (M := M_X11_told) (pc := 1) dX11_told_1 (by rw [hc]; decide) (by rw [hc]; decide) (off := 189) (by rw [hc]; rfl) rfl ?_
    refine aw_aload_n (j := 0) (M := M_X11_told) (pc := 190) dX11_told_190 rfl rfl ?_
    refine aw_aload_n (j := 0) (M := M_X11_told) (pc := 191) dX11_told_191 rfl rfl ?_
    refine gf_X11_33 (M := M_X11_told) (pc := 192) rfl dX11_told_192 rfl (r := 12) rfl ?_
    refine gf_X11_184 (M := M_X11_told) (pc := 195) rfl dX11_told_195 rfl (r := 13) rfl ?_
    refine aw_iconst (M := M_X11_told) (pc := 198) dX11_told_198 ⟨by decide, by decide⟩ ?_
    refine aw_cvi (as := [(0, 0)]) (st := [vr 0]) (M := M_X11_told) (pc := 199) (f_X9_setThatIs rfl hF) dX11_told_199 rfl (Or.inl ⟨_, _, _, rfl, rfl⟩) cy_X9_setThatIs ml_X11_242 (by decide) (by decide) (Nat.le_of_ble_eq_true rfl) (fun r20 h19 hF => ?_)
    refine aw_cvi (as := [(0, r20)]) (st := []) (M := M_X11_told) (pc := 202) (f_X11_given  hF) dX11_told_202 rfl (Or.inl ⟨_, _, _, rfl, rfl⟩) cy_X11_given ml_X11_193 (by decide) (by decide) (Nat.le_of_ble_eq_true rfl) (fun r22 h21 hF => ?_)
    exact aw_ireti (M := M_X11_told) (pc := 205) dX11_told_205 rfl ⟨_, rfl, hF⟩
  have hF := hF.2
  have hc9 := hc
  by_cases hc : a1 = 10
  · have hF := hF.1 hc
    refine aw_tableIn (tgt := 206) (M := M_X11_told) (pc := 1) dX11_told_1 (by rw [hc]; decide) (by rw [hc]; decide) (off := 205) (by rw [hc]; rfl) rfl ?_
    refine aw_aload_n (j := 0) (M := M_X11_told) (pc := 206) dX11_told_206 rfl rfl ?_
    refine aw_aload_n (j := 0) (M := M_X11_told) (pc := 207) dX11_told_207 rfl rfl ?_
    refine gf_X11_33 (M := M_X11_told) (pc := 208) rfl dX11_told_208 rfl (r := 12) rfl ?_
    refine gf_X11_184 (M := M_X11_told) (pc := 211) rfl dX11_told_211 rfl (r := 13) rfl ?_
    refine aw_iconst (M := M_X11_told) (pc := 214) dX11_told_214 ⟨by decide, by decide⟩ ?_
    refine aw_cvi (as := [(0, 1)]) (st := [vr 0]) (M := M_X11_told) (pc := 215) (f_X9_setThatIs rfl hF) dX11_told_215 rfl (Or.inl ⟨_, _, _, rfl, rfl⟩) cy_X9_setThatIs ml_X11_242 (by decide) (by decide) (Nat.le_of_ble_eq_true rfl) (fun r24 h23 hF => ?_)
    refine aw_cvi (as := [(0, r24)]) (st := []) (M := M_X11_told) (pc := 218) (f_X11_given  hF) dX11_told_218 rfl (Or.inl ⟨_, _, _, rfl, rfl⟩) cy_X11_given ml_X11_193 (by decide) (by decide) (Nat.le_of_ble_eq_true rfl) (fun r26 h25 hF => ?_)
    exact aw_ireti (M := M_X11_told) (pc := 221) dX11_told_221 rfl ⟨_, rfl, hF⟩
  have hF := hF.2
  have hc10 := hc
  by_cases hc : a1 = 11
  · have hF := hF.1 hc
    refine aw_tableIn (tgt := 222) (M := M_X11_told) (pc := 1) dX11_told_1 (by rw [hc]; decide) (by rw [hc]; decide) (off := 221) (by rw [hc]; rfl) rfl ?_
    refine aw_aload_n (j := 0) (M := M_X11_told) (pc := 222) dX11_told_222 rfl rfl ?_
    refine aw_aload_n (j := 0) (M := M_X11_told) (pc := 223) dX11_told_223 rfl rfl ?_
    refine gf_X11_33 (M := M_X11_told) (pc := 224) rfl dX11_told_224 rfl (r := 12) rfl ?_
    refine gf_X11_184 (M := M_X11_told) (pc := 227) rfl dX11_told_227 rfl (r := 13) rfl ?_
    refine aw_iconst (M := M_X11_told) (pc := 230) dX11_told_230 ⟨by decide, by decide⟩ ?_
    refine aw_cvi (as := [(0, 2)]) (st := [vr 0]) (M := M_X11_told) (pc := 231) (f_X9_setThatIs rfl hF) dX11_told_231 rfl (Or.inl ⟨_, _, _, rfl, rfl⟩) cy_X9_setThatIs ml_X11_242 (by decide) (by decide) (Nat.le_of_ble_eq_true rfl) (fun r28 h27 hF => ?_)
    refine aw_cvi (as := [(0, r28)]) (st := []) (M := M_X11_told) (pc := 234) (f_X11_given  hF) dX11_told_234 rfl (Or.inl ⟨_, _, _, rfl, rfl⟩) cy_X11_given ml_X11_193 (by decide) (by decide) (Nat.le_of_ble_eq_true rfl) (fun r30 h29 hF => ?_)
    exact aw_ireti (M := M_X11_told) (pc := 237) dX11_told_237 rfl ⟨_, rfl, hF⟩
  have hF := hF.2
  have hc11 := hc
  by_cases hc : a1 = 12
  · have hF := hF.1 hc
    refine aw_tableIn (tgt := 238) (M := M_X11_told) (pc := 1) dX11_told_1 (by rw [hc]; decide) (by rw [hc]; decide) (off := 237) (by rw [hc]; rfl) rfl ?_
    refine aw_aload_n (j := 0) (M := M_X11_told) (pc := 238) dX11_told_238 rfl rfl ?_
    refine aw_aload_n (j := 0) (M := M_X11_told) (pc := 239) dX11_told_239 rfl rfl ?_
    refine gf_X11_33 (M := M_X11_told) (pc := 240) rfl dX11_told_240 rfl (r := 12) rfl ?_
    refine gf_X11_184 (M := M_X11_told) (pc := 243) rfl dX11_told_243 rfl (r := 13) rfl ?_
    refine aw_iconst (M := M_X11_told) (pc := 246) dX11_told_246 ⟨by decide, by decide⟩ ?_
    refine aw_cvi (as := [(0, 3)]) (st := [vr 0]) (M := M_X11_told) (pc := 247) (f_X9_setThatIs rfl hF) dX11_told_247 rfl (Or.inl ⟨_, _, _, rfl, rfl⟩) cy_X9_setThatIs ml_X11_242 (by decide) (by decide) (Nat.le_of_ble_eq_true rfl) (fun r32 h31 hF => ?_)
    refine aw_cvi (as := [(0, r32)]) (st := []) (M := M_X11_told) (pc := 250) (f_X11_given  hF) dX11_told_250 rfl (Or.inl ⟨_, _, _, rfl, rfl⟩) cy_X11_given ml_X11_193 (by decide) (by decide) (Nat.le_of_ble_eq_true rfl) (fun r34 h33 hF => ?_)
    exact aw_ireti (M := M_X11_told) (pc := 253) dX11_told_253 rfl ⟨_, rfl, hF⟩
  have hF := hF.2
  have hc12 := hc
  by_cases hc : a1 = 13
  · have hF := hF.1 hc
    refine aw_tableIn (tgt := 254) (M := M_X11_told) (pc := 1) dX11_told_1 (by rw [hc]; decide) (by rw [hc]; decide) (off := 253) (by rw [hc]; rfl) rfl ?_
    refine aw_aload_n (j := 0) (M := M_X11_told) (pc := 254) dX11_told_254 rfl rfl ?_
    refine aw_aload_n (j := 0) (M := M_X11_told) (pc := 255) dX11_told_255 rfl rfl ?_
    refine gf_X11_33 (M := M_X11_told) (pc := 256) rfl dX11_told_256 rfl (r := 12) rfl ?_
    refine gf_X11_184 (M := M_X11_told) (pc := 259) rfl dX11_told_259 rfl (r := 13) rfl ?_
    refine aw_cvi (as := []) (st := [vr 0]) (M := M_X11_told) (pc := 262) (f_X9_setRemembered rfl hF) dX11_told_262 rfl (Or.inl ⟨_, _, _, rfl, rfl⟩) cy_X9_setRemembered ml_X11_245 (by decide) (by decide) (Nat.le_of_ble_eq_true rfl) (fun r36 h35 hF => ?_)
    refine aw_cvi (as := [(0, r36)]) (st := []) (M := M_X11_told) (pc := 265) (f_X11_given  hF) dX11_told_265 rfl (Or.inl ⟨_, _, _, rfl, rfl⟩) cy_X11_given ml_X11_193 (by decide) (by decide) (Nat.le_of_ble_eq_true rfl) (fun r38 h37 hF => ?_)
    exact aw_ireti (M := M_X11_told) (pc := 268) dX11_told_268 rfl ⟨_, rfl, hF⟩
  have hF := hF.2
  have hc13 := hc
  by_cases hc : a1 = 14
  · have hF := hF.1 hc
    refine aw_tableIn (tgt := 269) (M := M_X11_told) (pc := 1) dX11_told_1 (by rw [hc]; decide) (by rw [hc]; decide) (off := 268) (by rw [hc]; rfl) rfl ?_
    refine aw_aload_n (j := 0) (M := M_X11_told) (pc := 269) dX11_told_269 rfl rfl ?_
    refine aw_aload_n (j := 0) (M := M_X11_told) (pc := 270) dX11_told_270 rfl rfl ?_
    refine gf_X11_33 (M := M_X11_told) (pc := 271) rfl dX11_told_271 rfl (r := 12) rfl ?_
    refine gf_X11_184 (M := M_X11_told) (pc := 274) rfl dX11_told_274 rfl (r := 13) rfl ?_
    refine aw_cvi (as := []) (st := [vr 0]) (M := M_X11_told) (pc := 277) (f_X9_carriedWeight rfl hF) dX11_told_277 rfl (Or.inl ⟨_, _, _, rfl, rfl⟩) cy_X9_carriedWeight ml_X11_249 (by decide) (by decide) (Nat.le_of_ble_eq_true rfl) (fun r40 h39 hF => ?_)
    refine aw_cvi (as := [(0, r40)]) (st := []) (M := M_X11_told) (pc := 280) (f_X11_given  hF) dX11_told_280 rfl (Or.inl ⟨_, _, _, rfl, rfl⟩) cy_X11_given ml_X11_193 (by decide) (by decide) (Nat.le_of_ble_eq_true rfl) (fun r42 h41 hF => ?_)
    exact aw_ireti (M := M_X11_told) (pc := 283) dX11_told_283 rfl ⟨_, rfl, hF⟩
  have hF := hF.2
  have hc14 := hc
  have hc : a1 < 0 ∨ 14 < a1 := so_X11_told_1 hc0 hc1 hc2 hc3 hc4 hc5 hc6 hc7 hc8 hc9 hc10 hc11 hc12 hc13 hc14
  have hF := hF hc
  refine aw_tableOut (tgt := 284) (M := M_X11_told) (pc := 1) dX11_told_1 hc rfl ?_
  refine aw_aload_n (j := 0) (M := M_X11_told) (pc := 284) dX11_told_284 rfl rfl ?_
  refine aw_iconst (M := M_X11_told) (pc := 285) dX11_told_285 ⟨by decide, by decide⟩ ?_
  refine aw_cvi (as := [(0, 1)]) (st := []) (M := M_X11_told) (pc := 286) (f_X11_refused  hF) dX11_told_286 rfl (Or.inl ⟨_, _, _, rfl, rfl⟩) cy_X11_refused ml_X11_163 (by decide) (by decide) (Nat.le_of_ble_eq_true rfl) (fun r44 h43 hF => ?_)
  exact aw_ireti (M := M_X11_told) (pc := 289) dX11_told_289 rfl ⟨_, rfl, hF⟩
abbrev M_X11_top : Hd := (cX11_top, 1, RX11, (some .long), (1, 45), sc0)
def F_X11_top (h : Mem)  (Q : Int → Mem → Prop) : Prop :=
  Q (h 0 1) h
set_option maxRecDepth 100000 in
set_option maxHeartbeats 4000000 in
theorem f_X11_top {h : Mem}  {Q : Int → Mem → Prop}  (hF : F_X11_top h  Q) : Ct yX11_top cX11_top 1 (some .long) (1, 45) [vr 0] h (ql Q) := by
  refine Ct.of np_RX11 (Nat.le_of_ble_eq_true rfl) ?_
  unfold F_X11_top at hF
  show AW M_X11_top 0 [(0, vr 0)] [] h (ql Q)
  refine aw_aload_n (j := 0) (M := M_X11_top) (pc := 0) dX11_top_0 rfl rfl ?_
  refine gf_X11_7 (M := M_X11_top) (pc := 1) rfl dX11_top_1 rfl ?_
  exact aw_lret (M := M_X11_top) (pc := 4) dX11_top_4 rfl ⟨_, rfl, hF⟩
abbrev M_X11_toss : Hd := (cX11_toss, 3, RX11, (some .boolean), (3, 90), sc0)
def F_X11_toss (h : Mem) (a1 : Int) (a2 : Int) (Q : Int → Mem → Prop) : Prop :=
  (F_X11_isThing h a1 (fun r2 h1 => ((r2 = 0 → (F_X11_refuse h1 1 (fun r4 h3 => (InZ r4 ∧ Q r4 h3)))) ∧ (¬ (r2 = 0) → (F_X11_isCell h1 a2 (fun r6 h5 => ((¬ (r6 = 0) → (F_X9_isFree h5 13 a1 (fun r8 h7 => ((¬ (r8 = 0) → (F_X9_throwInto h7 13 a1 a2 (fun h9 => (F_X11_accept h9  (fun r12 h11 => (InZ r12 ∧ Q r12 h11)))))) ∧ (r8 = 0 → (F_X11_refuse h7 7 (fun r14 h13 => (InZ r14 ∧ Q r14 h13)))))))) ∧ (r6 = 0 → (F_X11_refuse h5 1 (fun r16 h15 => (InZ r16 ∧ Q r16 h15)))))))))))
set_option maxRecDepth 100000 in
set_option maxHeartbeats 4000000 in
theorem f_X11_toss {h : Mem} {a1 : Int} {a2 : Int} {Q : Int → Mem → Prop}  (hF : F_X11_toss h a1 a2 Q) : Ct yX11_toss cX11_toss 3 (some .boolean) (3, 90) [vr 0, (0, a1), (0, a2)] h (qi Q) := by
  refine Ct.of np_RX11 (Nat.le_of_ble_eq_true rfl) ?_
  unfold F_X11_toss at hF
  show AW M_X11_toss 0 [(0, vr 0), (1, (0, a1)), (2, (0, a2))] [] h (qi Q)
  refine aw_aload_n (j := 0) (M := M_X11_toss) (pc := 0) dX11_toss_0 rfl rfl ?_
  refine aw_iload_n (j := 1) (M := M_X11_toss) (pc := 1) dX11_toss_1 rfl rfl ?_
  refine aw_cvi (as := [(0, a1)]) (st := []) (M := M_X11_toss) (pc := 2) (f_X11_isThing  hF) dX11_toss_2 rfl (Or.inl ⟨_, _, _, rfl, rfl⟩) cy_X11_isThing ml_X11_252 (by decide) (by decide) (Nat.le_of_ble_eq_true rfl) (fun r2 h1 hF => ?_)
  refine aw_if_eq (tgt := 16) (M := M_X11_toss) (pc := 5) dX11_toss_5 rfl (fun hc => ?_) (fun hc => ?_)
  · have hF := hF.1 hc
    refine aw_aload_n (j := 0) (M := M_X11_toss) (pc := 16) dX11_toss_16 rfl rfl ?_
    refine aw_iconst (M := M_X11_toss) (pc := 17) dX11_toss_17 ⟨by decide, by decide⟩ ?_
    refine aw_cvi (as := [(0, 1)]) (st := []) (M := M_X11_toss) (pc := 18) (f_X11_refuse  hF) dX11_toss_18 rfl (Or.inl ⟨_, _, _, rfl, rfl⟩) cy_X11_refuse ml_X11_109 (by decide) (by decide) (Nat.le_of_ble_eq_true rfl) (fun r4 h3 hF => ?_)
    exact aw_iretz (M := M_X11_toss) (pc := 21) dX11_toss_21 rfl hF.1 ⟨_, rfl, hF.2⟩
  · have hF := hF.2 hc
    refine aw_aload_n (j := 0) (M := M_X11_toss) (pc := 8) dX11_toss_8 rfl rfl ?_
    refine aw_iload_n (j := 2) (M := M_X11_toss) (pc := 9) dX11_toss_9 rfl rfl ?_
    refine aw_cvi (as := [(0, a2)]) (st := []) (M := M_X11_toss) (pc := 10) (f_X11_isCell  hF) dX11_toss_10 rfl (Or.inl ⟨_, _, _, rfl, rfl⟩) cy_X11_isCell ml_X11_301 (by decide) (by decide) (Nat.le_of_ble_eq_true rfl) (fun r6 h5 hF => ?_)
    refine aw_if_ne (tgt := 22) (M := M_X11_toss) (pc := 13) dX11_toss_13 rfl (fun hc => ?_) (fun hc => ?_)
    · have hF := hF.1 hc
      refine aw_aload_n (j := 0) (M := M_X11_toss) (pc := 22) dX11_toss_22 rfl rfl ?_
      refine gf_X11_33 (M := M_X11_toss) (pc := 23) rfl dX11_toss_23 rfl (r := 12) rfl ?_
      refine gf_X11_184 (M := M_X11_toss) (pc := 26) rfl dX11_toss_26 rfl (r := 13) rfl ?_
      refine aw_iload_n (j := 1) (M := M_X11_toss) (pc := 29) dX11_toss_29 rfl rfl ?_
      refine aw_cvi (as := [(0, a1)]) (st := []) (M := M_X11_toss) (pc := 30) (f_X9_isFree rfl hF) dX11_toss_30 rfl (Or.inl ⟨_, _, _, rfl, rfl⟩) cy_X9_isFree ml_X11_273 (by decide) (by decide) (Nat.le_of_ble_eq_true rfl) (fun r8 h7 hF => ?_)
      refine aw_if_ne (tgt := 43) (M := M_X11_toss) (pc := 33) dX11_toss_33 rfl (fun hc => ?_) (fun hc => ?_)
      · have hF := hF.1 hc
        refine aw_aload_n (j := 0) (M := M_X11_toss) (pc := 43) dX11_toss_43 rfl rfl ?_
        refine gf_X11_33 (M := M_X11_toss) (pc := 44) rfl dX11_toss_44 rfl (r := 12) rfl ?_
        refine gf_X11_184 (M := M_X11_toss) (pc := 47) rfl dX11_toss_47 rfl (r := 13) rfl ?_
        refine aw_iload_n (j := 1) (M := M_X11_toss) (pc := 50) dX11_toss_50 rfl rfl ?_
        refine aw_iload_n (j := 2) (M := M_X11_toss) (pc := 51) dX11_toss_51 rfl rfl ?_
        refine aw_cvv (as := [(0, a1), (0, a2)]) (st := []) (M := M_X11_toss) (pc := 52) (f_X9_throwInto rfl hF) dX11_toss_52 rfl (Or.inl ⟨_, _, _, rfl, rfl⟩) cy_X9_throwInto ml_X11_304 (by decide) (by decide) (Nat.le_of_ble_eq_true rfl) (fun h9 hF => ?_)
        refine aw_aload_n (j := 0) (M := M_X11_toss) (pc := 55) dX11_toss_55 rfl rfl ?_
        refine aw_cvi (as := []) (st := []) (M := M_X11_toss) (pc := 56) (f_X11_accept  hF) dX11_toss_56 rfl (Or.inl ⟨_, _, _, rfl, rfl⟩) cy_X11_accept ml_X11_117 (by decide) (by decide) (Nat.le_of_ble_eq_true rfl) (fun r12 h11 hF => ?_)
        exact aw_iretz (M := M_X11_toss) (pc := 59) dX11_toss_59 rfl hF.1 ⟨_, rfl, hF.2⟩
      · have hF := hF.2 hc
        refine aw_aload_n (j := 0) (M := M_X11_toss) (pc := 36) dX11_toss_36 rfl rfl ?_
        refine aw_bipush (M := M_X11_toss) (pc := 37) dX11_toss_37 ⟨rfl, ⟨by decide, by decide⟩⟩ ?_
        refine aw_cvi (as := [(0, 7)]) (st := []) (M := M_X11_toss) (pc := 39) (f_X11_refuse  hF) dX11_toss_39 rfl (Or.inl ⟨_, _, _, rfl, rfl⟩) cy_X11_refuse ml_X11_109 (by decide) (by decide) (Nat.le_of_ble_eq_true rfl) (fun r14 h13 hF => ?_)
        exact aw_iretz (M := M_X11_toss) (pc := 42) dX11_toss_42 rfl hF.1 ⟨_, rfl, hF.2⟩
    · have hF := hF.2 hc
      refine aw_aload_n (j := 0) (M := M_X11_toss) (pc := 16) dX11_toss_16 rfl rfl ?_
      refine aw_iconst (M := M_X11_toss) (pc := 17) dX11_toss_17 ⟨by decide, by decide⟩ ?_
      refine aw_cvi (as := [(0, 1)]) (st := []) (M := M_X11_toss) (pc := 18) (f_X11_refuse  hF) dX11_toss_18 rfl (Or.inl ⟨_, _, _, rfl, rfl⟩) cy_X11_refuse ml_X11_109 (by decide) (by decide) (Nat.le_of_ble_eq_true rfl) (fun r16 h15 hF => ?_)
      exact aw_iretz (M := M_X11_toss) (pc := 21) dX11_toss_21 rfl hF.1 ⟨_, rfl, hF.2⟩
abbrev M_X11_tray : Hd := (cX11_tray, 4, RX11, (some .boolean), (2, 69), sc0)
def F_X11_tray (h : Mem) (a1 : Int) (a2 : Int) (a3 : Int) (Q : Int → Mem → Prop) : Prop :=
  (F_X11_outside h a1 0 3 (fun r2 h1 => ((¬ (r2 = 0) → (F_X11_refuse h1 1 (fun r4 h3 => (InZ r4 ∧ Q r4 h3)))) ∧ (r2 = 0 → (F_X11_outside h1 a2 0 3 (fun r6 h5 => ((¬ (r6 = 0) → (F_X11_refuse h5 1 (fun r8 h7 => (InZ r8 ∧ Q r8 h7)))) ∧ (r6 = 0 → (F_X11_outside h5 a3 0 60 (fun r10 h9 => ((r10 = 0 → (F_X10_lay h9 a1 a2 a3 (fun h11 => (F_X11_accept h11  (fun r14 h13 => (InZ r14 ∧ Q r14 h13)))))) ∧ (¬ (r10 = 0) → (F_X11_refuse h9 1 (fun r16 h15 => (InZ r16 ∧ Q r16 h15)))))))))))))))
set_option maxRecDepth 100000 in
set_option maxHeartbeats 4000000 in
theorem f_X11_tray {h : Mem} {a1 : Int} {a2 : Int} {a3 : Int} {Q : Int → Mem → Prop}  (hF : F_X11_tray h a1 a2 a3 Q) : Ct yX11_tray cX11_tray 4 (some .boolean) (2, 69) [vr 0, (0, a1), (0, a2), (0, a3)] h (qi Q) := by
  refine Ct.of np_RX11 (Nat.le_of_ble_eq_true rfl) ?_
  unfold F_X11_tray at hF
  show AW M_X11_tray 0 [(0, vr 0), (1, (0, a1)), (2, (0, a2)), (3, (0, a3))] [] h (qi Q)
  refine aw_iload_n (j := 1) (M := M_X11_tray) (pc := 0) dX11_tray_0 rfl rfl ?_
  refine aw_iconst (M := M_X11_tray) (pc := 1) dX11_tray_1 ⟨by decide, by decide⟩ ?_
  refine aw_iconst (M := M_X11_tray) (pc := 2) dX11_tray_2 ⟨by decide, by decide⟩ ?_
  refine aw_csi (as := [(0, a1), (0, 0), (0, 3)]) (st := []) (M := M_X11_tray) (pc := 3) (f_X11_outside  hF) dX11_tray_3 rfl cy_X11_outside ml_X11_105 (by decide) (by decide) (Nat.le_of_ble_eq_true rfl) (fun r2 h1 hF => ?_)
  refine aw_if_ne (tgt := 28) (M := M_X11_tray) (pc := 6) dX11_tray_6 rfl (fun hc => ?_) (fun hc => ?_)
  · have hF := hF.1 hc
    refine aw_aload_n (j := 0) (M := M_X11_tray) (pc := 28) dX11_tray_28 rfl rfl ?_
    refine aw_iconst (M := M_X11_tray) (pc := 29) dX11_tray_29 ⟨by decide, by decide⟩ ?_
    refine aw_cvi (as := [(0, 1)]) (st := []) (M := M_X11_tray) (pc := 30) (f_X11_refuse  hF) dX11_tray_30 rfl (Or.inl ⟨_, _, _, rfl, rfl⟩) cy_X11_refuse ml_X11_109 (by decide) (by decide) (Nat.le_of_ble_eq_true rfl) (fun r4 h3 hF => ?_)
    exact aw_iretz (M := M_X11_tray) (pc := 33) dX11_tray_33 rfl hF.1 ⟨_, rfl, hF.2⟩
  · have hF := hF.2 hc
    refine aw_iload_n (j := 2) (M := M_X11_tray) (pc := 9) dX11_tray_9 rfl rfl ?_
    refine aw_iconst (M := M_X11_tray) (pc := 10) dX11_tray_10 ⟨by decide, by decide⟩ ?_
    refine aw_iconst (M := M_X11_tray) (pc := 11) dX11_tray_11 ⟨by decide, by decide⟩ ?_
    refine aw_csi (as := [(0, a2), (0, 0), (0, 3)]) (st := []) (M := M_X11_tray) (pc := 12) (f_X11_outside  hF) dX11_tray_12 rfl cy_X11_outside ml_X11_105 (by decide) (by decide) (Nat.le_of_ble_eq_true rfl) (fun r6 h5 hF => ?_)
    refine aw_if_ne (tgt := 28) (M := M_X11_tray) (pc := 15) dX11_tray_15 rfl (fun hc => ?_) (fun hc => ?_)
    · have hF := hF.1 hc
      refine aw_aload_n (j := 0) (M := M_X11_tray) (pc := 28) dX11_tray_28 rfl rfl ?_
      refine aw_iconst (M := M_X11_tray) (pc := 29) dX11_tray_29 ⟨by decide, by decide⟩ ?_
      refine aw_cvi (as := [(0, 1)]) (st := []) (M := M_X11_tray) (pc := 30) (f_X11_refuse  hF) dX11_tray_30 rfl (Or.inl ⟨_, _, _, rfl, rfl⟩) cy_X11_refuse ml_X11_109 (by decide) (by decide) (Nat.le_of_ble_eq_true rfl) (fun r8 h7 hF => ?_)
      exact aw_iretz (M := M_X11_tray) (pc := 33) dX11_tray_33 rfl hF.1 ⟨_, rfl, hF.2⟩
    · have hF := hF.2 hc
      refine aw_iload_n (j := 3) (M := M_X11_tray) (pc := 18) dX11_tray_18 rfl rfl ?_
      refine aw_iconst (M := M_X11_tray) (pc := 19) dX11_tray_19 ⟨by decide, by decide⟩ ?_
      refine aw_bipush (M := M_X11_tray) (pc := 20) dX11_tray_20 ⟨rfl, ⟨by decide, by decide⟩⟩ ?_
      refine aw_csi (as := [(0, a3), (0, 0), (0, 60)]) (st := []) (M := M_X11_tray) (pc := 22) (f_X11_outside  hF) dX11_tray_22 rfl cy_X11_outside ml_X11_105 (by decide) (by decide) (Nat.le_of_ble_eq_true rfl) (fun r10 h9 hF => ?_)
      refine aw_if_eq (tgt := 34) (M := M_X11_tray) (pc := 25) dX11_tray_25 rfl (fun hc => ?_) (fun hc => ?_)
      · have hF := hF.1 hc
        refine aw_aload_n (j := 0) (M := M_X11_tray) (pc := 34) dX11_tray_34 rfl rfl ?_
        refine gf_X11_19 (M := M_X11_tray) (pc := 35) rfl dX11_tray_35 rfl (r := 1) rfl ?_
        refine aw_iload_n (j := 1) (M := M_X11_tray) (pc := 38) dX11_tray_38 rfl rfl ?_
        refine aw_iload_n (j := 2) (M := M_X11_tray) (pc := 39) dX11_tray_39 rfl rfl ?_
        refine aw_iload_n (j := 3) (M := M_X11_tray) (pc := 40) dX11_tray_40 rfl rfl ?_
        refine aw_cvv (as := [(0, a1), (0, a2), (0, a3)]) (st := []) (M := M_X11_tray) (pc := 41) (f_X10_lay  hF) dX11_tray_41 rfl (Or.inl ⟨_, _, _, rfl, rfl⟩) cy_X10_lay ml_X11_113 (by decide) (by decide) (Nat.le_of_ble_eq_true rfl) (fun h11 hF => ?_)
        refine aw_aload_n (j := 0) (M := M_X11_tray) (pc := 44) dX11_tray_44 rfl rfl ?_
        refine aw_cvi (as := []) (st := []) (M := M_X11_tray) (pc := 45) (f_X11_accept  hF) dX11_tray_45 rfl (Or.inl ⟨_, _, _, rfl, rfl⟩) cy_X11_accept ml_X11_117 (by decide) (by decide) (Nat.le_of_ble_eq_true rfl) (fun r14 h13 hF => ?_)
        exact aw_iretz (M := M_X11_tray) (pc := 48) dX11_tray_48 rfl hF.1 ⟨_, rfl, hF.2⟩
      · have hF := hF.2 hc
        refine aw_aload_n (j := 0) (M := M_X11_tray) (pc := 28) dX11_tray_28 rfl rfl ?_
        refine aw_iconst (M := M_X11_tray) (pc := 29) dX11_tray_29 ⟨by decide, by decide⟩ ?_
        refine aw_cvi (as := [(0, 1)]) (st := []) (M := M_X11_tray) (pc := 30) (f_X11_refuse  hF) dX11_tray_30 rfl (Or.inl ⟨_, _, _, rfl, rfl⟩) cy_X11_refuse ml_X11_109 (by decide) (by decide) (Nat.le_of_ble_eq_true rfl) (fun r16 h15 hF => ?_)
        exact aw_iretz (M := M_X11_tray) (pc := 33) dX11_tray_33 rfl hF.1 ⟨_, rfl, hF.2⟩
abbrev M_X11_turnIn : Hd := (cX11_turnIn, 1, RX11, (some .int), (5, 138), sc0)
def F_X11_turnIn (h : Mem)  (Q : Int → Mem → Prop) : Prop :=
  (F_X4_copyFrom h 146 12 (fun h1 => (F_X4_hoursTillTurn h1 146 400 (fun r4 h3 => (F_X11_givenOrNone h3 r4 (fun r6 h5 => Q r6 h5))))))
set_option maxRecDepth 100000 in
set_option maxHeartbeats 4000000 in
theorem f_X11_turnIn {h : Mem}  {Q : Int → Mem → Prop}  (hF : F_X11_turnIn h  Q) : Ct yX11_turnIn cX11_turnIn 1 (some .int) (5, 138) [vr 0] h (qi Q) := by
  refine Ct.of np_RX11 (Nat.le_of_ble_eq_true rfl) ?_
  unfold F_X11_turnIn at hF
  show AW M_X11_turnIn 0 [(0, vr 0)] [] h (qi Q)
  refine aw_aload_n (j := 0) (M := M_X11_turnIn) (pc := 0) dX11_turnIn_0 rfl rfl ?_
  refine gf_X11_44 (M := M_X11_turnIn) (pc := 1) rfl dX11_turnIn_1 rfl (r := 146) rfl ?_
  refine aw_aload_n (j := 0) (M := M_X11_turnIn) (pc := 4) dX11_turnIn_4 rfl rfl ?_
  refine gf_X11_33 (M := M_X11_turnIn) (pc := 5) rfl dX11_turnIn_5 rfl (r := 12) rfl ?_
  refine aw_cvv (as := [vr 12]) (st := []) (M := M_X11_turnIn) (pc := 8) (f_X4_copyFrom rfl rfl hF) dX11_turnIn_8 rfl (Or.inl ⟨_, _, _, rfl, rfl⟩) cy_X4_copyFrom ml_X11_177 (by decide) (by decide) (Nat.le_of_ble_eq_true rfl) (fun h1 hF => ?_)
  refine aw_aload_n (j := 0) (M := M_X11_turnIn) (pc := 11) dX11_turnIn_11 rfl rfl ?_
  refine aw_aload_n (j := 0) (M := M_X11_turnIn) (pc := 12) dX11_turnIn_12 rfl rfl ?_
  refine gf_X11_44 (M := M_X11_turnIn) (pc := 13) rfl dX11_turnIn_13 rfl (r := 146) rfl ?_
  refine aw_sipush (M := M_X11_turnIn) (pc := 16) dX11_turnIn_16 ⟨rfl, ⟨by decide, by decide⟩⟩ ?_
  refine aw_cvi (as := [(0, 400)]) (st := [vr 0]) (M := M_X11_turnIn) (pc := 19) (f_X4_hoursTillTurn rfl hF) dX11_turnIn_19 rfl (Or.inl ⟨_, _, _, rfl, rfl⟩) cy_X4_hoursTillTurn ml_X11_325 (by decide) (by decide) (Nat.le_of_ble_eq_true rfl) (fun r4 h3 hF => ?_)
  refine aw_cvi (as := [(0, r4)]) (st := []) (M := M_X11_turnIn) (pc := 22) (f_X11_givenOrNone  hF) dX11_turnIn_22 rfl (Or.inl ⟨_, _, _, rfl, rfl⟩) cy_X11_givenOrNone ml_X11_322 (by decide) (by decide) (Nat.le_of_ble_eq_true rfl) (fun r6 h5 hF => ?_)
  exact aw_ireti (M := M_X11_turnIn) (pc := 25) dX11_turnIn_25 rfl ⟨_, rfl, hF⟩
abbrev M_X11_turnsIn : Hd := (cX11_turnsIn, 2, RX11, (some .int), (5, 139), sc0)
def F_X11_turnsIn (h : Mem) (a1 : Int) (Q : Int → Mem → Prop) : Prop :=
  (F_X11_outside h a1 0 400 (fun r2 h1 => ((r2 = 0 → (F_X4_copyFrom h1 146 12 (fun h3 => (F_X4_passHours h3 146 a1 (fun r6 h5 => (F_X11_given h5 r6 (fun r8 h7 => Q r8 h7))))))) ∧ (¬ (r2 = 0) → (F_X11_refused h1 1 (fun r10 h9 => Q r10 h9))))))
set_option maxRecDepth 100000 in
set_option maxHeartbeats 4000000 in
theorem f_X11_turnsIn {h : Mem} {a1 : Int} {Q : Int → Mem → Prop}  (hF : F_X11_turnsIn h a1 Q) : Ct yX11_turnsIn cX11_turnsIn 2 (some .int) (5, 139) [vr 0, (0, a1)] h (qi Q) := by
  refine Ct.of np_RX11 (Nat.le_of_ble_eq_true rfl) ?_
  unfold F_X11_turnsIn at hF
  show AW M_X11_turnsIn 0 [(0, vr 0), (1, (0, a1))] [] h (qi Q)
  refine aw_iload_n (j := 1) (M := M_X11_turnsIn) (pc := 0) dX11_turnsIn_0 rfl rfl ?_
  refine aw_iconst (M := M_X11_turnsIn) (pc := 1) dX11_turnsIn_1 ⟨by decide, by decide⟩ ?_
  refine aw_sipush (M := M_X11_turnsIn) (pc := 2) dX11_turnsIn_2 ⟨rfl, ⟨by decide, by decide⟩⟩ ?_
  refine aw_csi (as := [(0, a1), (0, 0), (0, 400)]) (st := []) (M := M_X11_turnsIn) (pc := 5) (f_X11_outside  hF) dX11_turnsIn_5 rfl cy_X11_outside ml_X11_105 (by decide) (by decide) (Nat.le_of_ble_eq_true rfl) (fun r2 h1 hF => ?_)
  refine aw_if_eq (tgt := 17) (M := M_X11_turnsIn) (pc := 8) dX11_turnsIn_8 rfl (fun hc => ?_) (fun hc => ?_)
  · have hF := hF.1 hc
    refine aw_aload_n (j := 0) (M := M_X11_turnsIn) (pc := 17) dX11_turnsIn_17 rfl rfl ?_
    refine gf_X11_44 (M := M_X11_turnsIn) (pc := 18) rfl dX11_turnsIn_18 rfl (r := 146) rfl ?_
    refine aw_aload_n (j := 0) (M := M_X11_turnsIn) (pc := 21) dX11_turnsIn_21 rfl rfl ?_
    refine gf_X11_33 (M := M_X11_turnsIn) (pc := 22) rfl dX11_turnsIn_22 rfl (r := 12) rfl ?_
    refine aw_cvv (as := [vr 12]) (st := []) (M := M_X11_turnsIn) (pc := 25) (f_X4_copyFrom rfl rfl hF) dX11_turnsIn_25 rfl (Or.inl ⟨_, _, _, rfl, rfl⟩) cy_X4_copyFrom ml_X11_177 (by decide) (by decide) (Nat.le_of_ble_eq_true rfl) (fun h3 hF => ?_)
    refine aw_aload_n (j := 0) (M := M_X11_turnsIn) (pc := 28) dX11_turnsIn_28 rfl rfl ?_
    refine aw_aload_n (j := 0) (M := M_X11_turnsIn) (pc := 29) dX11_turnsIn_29 rfl rfl ?_
    refine gf_X11_44 (M := M_X11_turnsIn) (pc := 30) rfl dX11_turnsIn_30 rfl (r := 146) rfl ?_
    refine aw_iload_n (j := 1) (M := M_X11_turnsIn) (pc := 33) dX11_turnsIn_33 rfl rfl ?_
    refine aw_cvi (as := [(0, a1)]) (st := [vr 0]) (M := M_X11_turnsIn) (pc := 34) (f_X4_passHours rfl hF) dX11_turnsIn_34 rfl (Or.inl ⟨_, _, _, rfl, rfl⟩) cy_X4_passHours ml_X11_298 (by decide) (by decide) (Nat.le_of_ble_eq_true rfl) (fun r6 h5 hF => ?_)
    refine aw_cvi (as := [(0, r6)]) (st := []) (M := M_X11_turnsIn) (pc := 37) (f_X11_given  hF) dX11_turnsIn_37 rfl (Or.inl ⟨_, _, _, rfl, rfl⟩) cy_X11_given ml_X11_193 (by decide) (by decide) (Nat.le_of_ble_eq_true rfl) (fun r8 h7 hF => ?_)
    exact aw_ireti (M := M_X11_turnsIn) (pc := 40) dX11_turnsIn_40 rfl ⟨_, rfl, hF⟩
  · have hF := hF.2 hc
    refine aw_aload_n (j := 0) (M := M_X11_turnsIn) (pc := 11) dX11_turnsIn_11 rfl rfl ?_
    refine aw_iconst (M := M_X11_turnsIn) (pc := 12) dX11_turnsIn_12 ⟨by decide, by decide⟩ ?_
    refine aw_cvi (as := [(0, 1)]) (st := []) (M := M_X11_turnsIn) (pc := 13) (f_X11_refused  hF) dX11_turnsIn_13 rfl (Or.inl ⟨_, _, _, rfl, rfl⟩) cy_X11_refused ml_X11_163 (by decide) (by decide) (Nat.le_of_ble_eq_true rfl) (fun r10 h9 hF => ?_)
    exact aw_ireti (M := M_X11_turnsIn) (pc := 16) dX11_turnsIn_16 rfl ⟨_, rfl, hF⟩
abbrev M_X11_undo : Hd := (cX11_undo, 1, RX11, (some .int), (4, 108), sc0)
def F_X11_undo (h : Mem)  (Q : Int → Mem → Prop) : Prop :=
  ((0 < (h 0 12) → (InR ((h 0 12) - 1) ∧ (∀ h2 : Mem, h2 = mset h 0 12 ((h 0 12) - 1) → ((0 ≤ (h2 0 12) ∧ (h2 0 12) < 3) ∧ (F_X4_copyFrom h2 12 (80 + 1 + 15 * (h2 0 12).toNat) (fun h4 => ((0 ≤ (h4 0 12) ∧ (h4 0 12) < 3) ∧ (F_X1_copyFrom h4 27 (126 + 1 + 6 * (h4 0 12).toNat) (fun h7 => (F_X11_given h7 (h7 0 12) (fun r10 h9 => Q r10 h9))))))))))) ∧ (¬ (0 < (h 0 12)) → (F_X11_refused h 6 (fun r12 h11 => Q r12 h11))))
set_option maxRecDepth 100000 in
set_option maxHeartbeats 4000000 in
theorem f_X11_undo {h : Mem}  {Q : Int → Mem → Prop}  (hF : F_X11_undo h  Q) : Ct yX11_undo cX11_undo 1 (some .int) (4, 108) [vr 0] h (qi Q) := by
  refine Ct.of np_RX11 (Nat.le_of_ble_eq_true rfl) ?_
  unfold F_X11_undo at hF
  show AW M_X11_undo 0 [(0, vr 0)] [] h (qi Q)
  refine aw_aload_n (j := 0) (M := M_X11_undo) (pc := 0) dX11_undo_0 rfl rfl ?_
  refine gf_X11_82 (M := M_X11_undo) (pc := 1) rfl dX11_undo_1 rfl ?_
  refine aw_if_gt (tgt := 14) (M := M_X11_undo) (pc := 4) dX11_undo_4 rfl (fun hc => ?_) (fun hc => ?_)
  · have hF := hF.1 hc
    refine aw_aload_n (j := 0) (M := M_X11_undo) (pc := 14) dX11_undo_14 rfl rfl ?_
    refine aw_dup (M := M_X11_undo) (pc := 15) dX11_undo_15 rfl ?_
    refine gf_X11_82 (M := M_X11_undo) (pc := 16) rfl dX11_undo_16 rfl ?_
    refine aw_iconst (M := M_X11_undo) (pc := 19) dX11_undo_19 ⟨by decide, by decide⟩ ?_
    obtain ⟨o1, hF⟩ := hF
    refine aw_isub (M := M_X11_undo) (pc := 20) dX11_undo_20 rfl o1 ?_
    refine pf_X11_82 (M := M_X11_undo) (pc := 21) rfl dX11_undo_21 rfl ?_
    obtain ⟨h2, eh2⟩ : ∃ y : Mem, y = mset h 0 12 ((h 0 12) - 1) := ⟨_, rfl⟩
    have hF := hF h2 eh2
    rw [← eh2]
    refine aw_aload_n (j := 0) (M := M_X11_undo) (pc := 24) dX11_undo_24 rfl rfl ?_
    refine gf_X11_33 (M := M_X11_undo) (pc := 25) rfl dX11_undo_25 rfl (r := 12) rfl ?_
    refine aw_aload_n (j := 0) (M := M_X11_undo) (pc := 28) dX11_undo_28 rfl rfl ?_
    refine gf_X11_86 (M := M_X11_undo) (pc := 29) rfl dX11_undo_29 rfl (r := 80) rfl ?_
    refine aw_aload_n (j := 0) (M := M_X11_undo) (pc := 32) dX11_undo_32 rfl rfl ?_
    refine gf_X11_82 (M := M_X11_undo) (pc := 33) rfl dX11_undo_33 rfl ?_
    obtain ⟨o3, hF⟩ := hF
    refine aw_ald5 (M := M_X11_undo) (pc := 36) dX11_undo_36 rfl o3 ?_
    refine aw_cvv (as := [vr (80 + 1 + 15 * (h2 0 12).toNat)]) (st := []) (M := M_X11_undo) (pc := 37) (f_X4_copyFrom rfl (le_5 o3) hF) dX11_undo_37 rfl (Or.inl ⟨_, _, _, rfl, rfl⟩) cy_X4_copyFrom ml_X11_177 (by decide) (by decide) (Nat.le_of_ble_eq_true rfl) (fun h4 hF => ?_)
    refine aw_aload_n (j := 0) (M := M_X11_undo) (pc := 40) dX11_undo_40 rfl rfl ?_
    refine gf_X11_40 (M := M_X11_undo) (pc := 41) rfl dX11_undo_41 rfl (r := 27) rfl ?_
    refine aw_aload_n (j := 0) (M := M_X11_undo) (pc := 44) dX11_undo_44 rfl rfl ?_
    refine gf_X11_90 (M := M_X11_undo) (pc := 45) rfl dX11_undo_45 rfl (r := 126) rfl ?_
    refine aw_aload_n (j := 0) (M := M_X11_undo) (pc := 48) dX11_undo_48 rfl rfl ?_
    refine gf_X11_82 (M := M_X11_undo) (pc := 49) rfl dX11_undo_49 rfl ?_
    obtain ⟨o6, hF⟩ := hF
    refine aw_ald6 (M := M_X11_undo) (pc := 52) dX11_undo_52 rfl o6 ?_
    refine aw_cvv (as := [vr (126 + 1 + 6 * (h4 0 12).toNat)]) (st := []) (M := M_X11_undo) (pc := 53) (f_X1_copyFrom rfl (le_6 o6) hF) dX11_undo_53 rfl (Or.inl ⟨_, _, _, rfl, rfl⟩) cy_X1_copyFrom ml_X11_205 (by decide) (by decide) (Nat.le_of_ble_eq_true rfl) (fun h7 hF => ?_)
    refine aw_aload_n (j := 0) (M := M_X11_undo) (pc := 56) dX11_undo_56 rfl rfl ?_
    refine aw_aload_n (j := 0) (M := M_X11_undo) (pc := 57) dX11_undo_57 rfl rfl ?_
    refine gf_X11_82 (M := M_X11_undo) (pc := 58) rfl dX11_undo_58 rfl ?_
    refine aw_cvi (as := [(0, h7 0 12)]) (st := []) (M := M_X11_undo) (pc := 61) (f_X11_given  hF) dX11_undo_61 rfl (Or.inl ⟨_, _, _, rfl, rfl⟩) cy_X11_given ml_X11_193 (by decide) (by decide) (Nat.le_of_ble_eq_true rfl) (fun r10 h9 hF => ?_)
    exact aw_ireti (M := M_X11_undo) (pc := 64) dX11_undo_64 rfl ⟨_, rfl, hF⟩
  · have hF := hF.2 hc
    refine aw_aload_n (j := 0) (M := M_X11_undo) (pc := 7) dX11_undo_7 rfl rfl ?_
    refine aw_bipush (M := M_X11_undo) (pc := 8) dX11_undo_8 ⟨rfl, ⟨by decide, by decide⟩⟩ ?_
    refine aw_cvi (as := [(0, 6)]) (st := []) (M := M_X11_undo) (pc := 10) (f_X11_refused  hF) dX11_undo_10 rfl (Or.inl ⟨_, _, _, rfl, rfl⟩) cy_X11_refused ml_X11_163 (by decide) (by decide) (Nat.le_of_ble_eq_true rfl) (fun r12 h11 hF => ?_)
    exact aw_ireti (M := M_X11_undo) (pc := 13) dX11_undo_13 rfl ⟨_, rfl, hF⟩
abbrev M_X11_waits : Hd := (cX11_waits, 3, RX11, (some .int), (5, 140), sc0)
def F_X11_waits (h : Mem) (a1 : Int) (a2 : Int) (Q : Int → Mem → Prop) : Prop :=
  (F_X11_isCell h a1 (fun r2 h1 => ((r2 = 0 → (F_X11_refused h1 1 (fun r4 h3 => Q r4 h3))) ∧ (¬ (r2 = 0) → (F_X11_isCell h1 a2 (fun r6 h5 => ((¬ (r6 = 0) → (F_X4_copyFrom h5 146 12 (fun h7 => (F_X0_sail h7 146 a1 a2 (fun h9 => ((¬ ((h9 42 0) = (-1)) → (F_X11_given h9 (h9 42 3) (fun r12 h11 => Q r12 h11))) ∧ ((h9 42 0) = (-1) → (F_X11_refused h9 6 (fun r14 h13 => Q r14 h13))))))))) ∧ (r6 = 0 → (F_X11_refused h5 1 (fun r16 h15 => Q r16 h15))))))))))
set_option maxRecDepth 100000 in
set_option maxHeartbeats 4000000 in
theorem f_X11_waits {h : Mem} {a1 : Int} {a2 : Int} {Q : Int → Mem → Prop}  (hF : F_X11_waits h a1 a2 Q) : Ct yX11_waits cX11_waits 3 (some .int) (5, 140) [vr 0, (0, a1), (0, a2)] h (qi Q) := by
  refine Ct.of np_RX11 (Nat.le_of_ble_eq_true rfl) ?_
  unfold F_X11_waits at hF
  show AW M_X11_waits 0 [(0, vr 0), (1, (0, a1)), (2, (0, a2))] [] h (qi Q)
  refine aw_aload_n (j := 0) (M := M_X11_waits) (pc := 0) dX11_waits_0 rfl rfl ?_
  refine aw_iload_n (j := 1) (M := M_X11_waits) (pc := 1) dX11_waits_1 rfl rfl ?_
  refine aw_cvi (as := [(0, a1)]) (st := []) (M := M_X11_waits) (pc := 2) (f_X11_isCell  hF) dX11_waits_2 rfl (Or.inl ⟨_, _, _, rfl, rfl⟩) cy_X11_isCell ml_X11_301 (by decide) (by decide) (Nat.le_of_ble_eq_true rfl) (fun r2 h1 hF => ?_)
  refine aw_if_eq (tgt := 16) (M := M_X11_waits) (pc := 5) dX11_waits_5 rfl (fun hc => ?_) (fun hc => ?_)
  · have hF := hF.1 hc
    refine aw_aload_n (j := 0) (M := M_X11_waits) (pc := 16) dX11_waits_16 rfl rfl ?_
    refine aw_iconst (M := M_X11_waits) (pc := 17) dX11_waits_17 ⟨by decide, by decide⟩ ?_
    refine aw_cvi (as := [(0, 1)]) (st := []) (M := M_X11_waits) (pc := 18) (f_X11_refused  hF) dX11_waits_18 rfl (Or.inl ⟨_, _, _, rfl, rfl⟩) cy_X11_refused ml_X11_163 (by decide) (by decide) (Nat.le_of_ble_eq_true rfl) (fun r4 h3 hF => ?_)
    exact aw_ireti (M := M_X11_waits) (pc := 21) dX11_waits_21 rfl ⟨_, rfl, hF⟩
  · have hF := hF.2 hc
    refine aw_aload_n (j := 0) (M := M_X11_waits) (pc := 8) dX11_waits_8 rfl rfl ?_
    refine aw_iload_n (j := 2) (M := M_X11_waits) (pc := 9) dX11_waits_9 rfl rfl ?_
    refine aw_cvi (as := [(0, a2)]) (st := []) (M := M_X11_waits) (pc := 10) (f_X11_isCell  hF) dX11_waits_10 rfl (Or.inl ⟨_, _, _, rfl, rfl⟩) cy_X11_isCell ml_X11_301 (by decide) (by decide) (Nat.le_of_ble_eq_true rfl) (fun r6 h5 hF => ?_)
    refine aw_if_ne (tgt := 22) (M := M_X11_waits) (pc := 13) dX11_waits_13 rfl (fun hc => ?_) (fun hc => ?_)
    · have hF := hF.1 hc
      refine aw_aload_n (j := 0) (M := M_X11_waits) (pc := 22) dX11_waits_22 rfl rfl ?_
      refine gf_X11_44 (M := M_X11_waits) (pc := 23) rfl dX11_waits_23 rfl (r := 146) rfl ?_
      refine aw_aload_n (j := 0) (M := M_X11_waits) (pc := 26) dX11_waits_26 rfl rfl ?_
      refine gf_X11_33 (M := M_X11_waits) (pc := 27) rfl dX11_waits_27 rfl (r := 12) rfl ?_
      refine aw_cvv (as := [vr 12]) (st := []) (M := M_X11_waits) (pc := 30) (f_X4_copyFrom rfl rfl hF) dX11_waits_30 rfl (Or.inl ⟨_, _, _, rfl, rfl⟩) cy_X4_copyFrom ml_X11_177 (by decide) (by decide) (Nat.le_of_ble_eq_true rfl) (fun h7 hF => ?_)
      refine aw_aload_n (j := 0) (M := M_X11_waits) (pc := 33) dX11_waits_33 rfl rfl ?_
      refine gf_X11_64 (M := M_X11_waits) (pc := 34) rfl dX11_waits_34 rfl (r := 42) rfl ?_
      refine aw_aload_n (j := 0) (M := M_X11_waits) (pc := 37) dX11_waits_37 rfl rfl ?_
      refine gf_X11_44 (M := M_X11_waits) (pc := 38) rfl dX11_waits_38 rfl (r := 146) rfl ?_
      refine aw_iload_n (j := 1) (M := M_X11_waits) (pc := 41) dX11_waits_41 rfl rfl ?_
      refine aw_iload_n (j := 2) (M := M_X11_waits) (pc := 42) dX11_waits_42 rfl rfl ?_
      refine aw_cvv (as := [vr 146, (0, a1), (0, a2)]) (st := []) (M := M_X11_waits) (pc := 43) (f_X0_sail rfl hF) dX11_waits_43 rfl (Or.inl ⟨_, _, _, rfl, rfl⟩) cy_X0_sail ml_X11_377 (by decide) (by decide) (Nat.le_of_ble_eq_true rfl) (fun h9 hF => ?_)
      refine aw_aload_n (j := 0) (M := M_X11_waits) (pc := 46) dX11_waits_46 rfl rfl ?_
      refine gf_X11_64 (M := M_X11_waits) (pc := 47) rfl dX11_waits_47 rfl (r := 42) rfl ?_
      refine gf_X11_345 (M := M_X11_waits) (pc := 50) rfl dX11_waits_50 rfl ?_
      refine aw_iconst (M := M_X11_waits) (pc := 53) dX11_waits_53 ⟨by decide, by decide⟩ ?_
      refine aw_icmp_ne (tgt := 66) (M := M_X11_waits) (pc := 54) dX11_waits_54 rfl (fun hc => ?_) (fun hc => ?_)
      · have hF := hF.1 hc
        refine aw_aload_n (j := 0) (M := M_X11_waits) (pc := 66) dX11_waits_66 rfl rfl ?_
        refine aw_aload_n (j := 0) (M := M_X11_waits) (pc := 67) dX11_waits_67 rfl rfl ?_
        refine gf_X11_64 (M := M_X11_waits) (pc := 68) rfl dX11_waits_68 rfl (r := 42) rfl ?_
        refine gf_X11_381 (M := M_X11_waits) (pc := 71) rfl dX11_waits_71 rfl ?_
        refine aw_cvi (as := [(0, h9 42 3)]) (st := []) (M := M_X11_waits) (pc := 74) (f_X11_given  hF) dX11_waits_74 rfl (Or.inl ⟨_, _, _, rfl, rfl⟩) cy_X11_given ml_X11_193 (by decide) (by decide) (Nat.le_of_ble_eq_true rfl) (fun r12 h11 hF => ?_)
        exact aw_ireti (M := M_X11_waits) (pc := 77) dX11_waits_77 rfl ⟨_, rfl, hF⟩
      · have hF := hF.2 hc
        refine aw_aload_n (j := 0) (M := M_X11_waits) (pc := 57) dX11_waits_57 rfl rfl ?_
        refine aw_bipush (M := M_X11_waits) (pc := 58) dX11_waits_58 ⟨rfl, ⟨by decide, by decide⟩⟩ ?_
        refine aw_cvi (as := [(0, 6)]) (st := []) (M := M_X11_waits) (pc := 60) (f_X11_refused  hF) dX11_waits_60 rfl (Or.inl ⟨_, _, _, rfl, rfl⟩) cy_X11_refused ml_X11_163 (by decide) (by decide) (Nat.le_of_ble_eq_true rfl) (fun r14 h13 hF => ?_)
        refine aw_goto (tgt := 77) (M := M_X11_waits) (pc := 63) dX11_waits_63 rfl ?_
        exact aw_ireti (M := M_X11_waits) (pc := 77) dX11_waits_77 rfl ⟨_, rfl, hF⟩
    · have hF := hF.2 hc
      refine aw_aload_n (j := 0) (M := M_X11_waits) (pc := 16) dX11_waits_16 rfl rfl ?_
      refine aw_iconst (M := M_X11_waits) (pc := 17) dX11_waits_17 ⟨by decide, by decide⟩ ?_
      refine aw_cvi (as := [(0, 1)]) (st := []) (M := M_X11_waits) (pc := 18) (f_X11_refused  hF) dX11_waits_18 rfl (Or.inl ⟨_, _, _, rfl, rfl⟩) cy_X11_refused ml_X11_163 (by decide) (by decide) (Nat.le_of_ble_eq_true rfl) (fun r16 h15 hF => ?_)
      exact aw_ireti (M := M_X11_waits) (pc := 21) dX11_waits_21 rfl ⟨_, rfl, hF⟩
abbrev M_X11_write : Hd := (cX11_write, 6, RX11, (some .boolean), (3, 91), sc0)
def F_X11_write (h : Mem) (a1 : Int) (a2 : Int) (a3 : Int) (Q : Int → Mem → Prop) : Prop :=
  (F_X11_whyNoPlace h a1 a2 (fun r2 h1 => ((r2 = 0 → (F_X10_put h1 a1 a2 a3 (fun h3 => (F_X11_accept h3  (fun r6 h5 => (InZ r6 ∧ Q r6 h5)))))) ∧ (¬ (r2 = 0) → (F_X11_refuse h1 r2 (fun r8 h7 => (InZ r8 ∧ Q r8 h7)))))))
set_option maxRecDepth 100000 in
set_option maxHeartbeats 4000000 in
theorem f_X11_write {h : Mem} {a1 : Int} {a2 : Int} {a3 : Int} {Q : Int → Mem → Prop}  (hF : F_X11_write h a1 a2 a3 Q) : Ct yX11_write cX11_write 6 (some .boolean) (3, 91) [vr 0, (0, a1), (0, a2), (1, a3)] h (qi Q) := by
  refine Ct.of np_RX11 (Nat.le_of_ble_eq_true rfl) ?_
  unfold F_X11_write at hF
  show AW M_X11_write 0 [(0, vr 0), (1, (0, a1)), (2, (0, a2)), (3, (1, a3))] [] h (qi Q)
  refine aw_aload_n (j := 0) (M := M_X11_write) (pc := 0) dX11_write_0 rfl rfl ?_
  refine aw_iload_n (j := 1) (M := M_X11_write) (pc := 1) dX11_write_1 rfl rfl ?_
  refine aw_iload_n (j := 2) (M := M_X11_write) (pc := 2) dX11_write_2 rfl rfl ?_
  refine aw_cvi (as := [(0, a1), (0, a2)]) (st := []) (M := M_X11_write) (pc := 3) (f_X11_whyNoPlace  hF) dX11_write_3 rfl (Or.inl ⟨_, _, _, rfl, rfl⟩) cy_X11_whyNoPlace ml_X11_121 (by decide) (by decide) (Nat.le_of_ble_eq_true rfl) (fun r2 h1 hF => ?_)
  refine aw_istore (ls' := [(5, (0, r2)), (0, vr 0), (1, (0, a1)), (2, (0, a2)), (3, (1, a3))]) (M := M_X11_write) (pc := 6) dX11_write_6  (by decide) rfl ?_
  refine aw_iload (j := 0) (M := M_X11_write) (pc := 8) dX11_write_8  rfl ?_
  refine aw_if_eq (tgt := 20) (M := M_X11_write) (pc := 10) dX11_write_10 rfl (fun hc => ?_) (fun hc => ?_)
  · have hF := hF.1 hc
    refine aw_aload_n (j := 1) (M := M_X11_write) (pc := 20) dX11_write_20 rfl rfl ?_
    refine gf_X11_19 (M := M_X11_write) (pc := 21) rfl dX11_write_21 rfl (r := 1) rfl ?_
    refine aw_iload_n (j := 2) (M := M_X11_write) (pc := 24) dX11_write_24 rfl rfl ?_
    refine aw_iload_n (j := 3) (M := M_X11_write) (pc := 25) dX11_write_25 rfl rfl ?_
    refine aw_lload_n (j := 4) (M := M_X11_write) (pc := 26) dX11_write_26 rfl rfl ?_
    refine aw_cvv (as := [(0, a1), (0, a2), (1, a3)]) (st := []) (M := M_X11_write) (pc := 27) (f_X10_put  hF) dX11_write_27 rfl (Or.inl ⟨_, _, _, rfl, rfl⟩) cy_X10_put ml_X11_125 (by decide) (by decide) (Nat.le_of_ble_eq_true rfl) (fun h3 hF => ?_)
    refine aw_aload_n (j := 1) (M := M_X11_write) (pc := 30) dX11_write_30 rfl rfl ?_
    refine aw_cvi (as := []) (st := []) (M := M_X11_write) (pc := 31) (f_X11_accept  hF) dX11_write_31 rfl (Or.inl ⟨_, _, _, rfl, rfl⟩) cy_X11_accept ml_X11_117 (by decide) (by decide) (Nat.le_of_ble_eq_true rfl) (fun r6 h5 hF => ?_)
    exact aw_iretz (M := M_X11_write) (pc := 34) dX11_write_34 rfl hF.1 ⟨_, rfl, hF.2⟩
  · have hF := hF.2 hc
    refine aw_aload_n (j := 1) (M := M_X11_write) (pc := 13) dX11_write_13 rfl rfl ?_
    refine aw_iload (j := 0) (M := M_X11_write) (pc := 14) dX11_write_14  rfl ?_
    refine aw_cvi (as := [(0, r2)]) (st := []) (M := M_X11_write) (pc := 16) (f_X11_refuse  hF) dX11_write_16 rfl (Or.inl ⟨_, _, _, rfl, rfl⟩) cy_X11_refuse ml_X11_109 (by decide) (by decide) (Nat.le_of_ble_eq_true rfl) (fun r8 h7 hF => ?_)
    exact aw_iretz (M := M_X11_write) (pc := 19) dX11_write_19 rfl hF.1 ⟨_, rfl, hF.2⟩
