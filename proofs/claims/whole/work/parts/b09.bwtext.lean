/-! BW: calls that change nothing; the text's own methods -/
def KQ (h : BM) (P : Int → Prop) : PostB := fun rv u => ∃ x, rv = some (0, x) ∧ u = h ∧ P x
def KL (h : BM) (P : Int → Prop) : PostB := fun rv u => ∃ x, rv = some (1, x) ∧ u = h ∧ P x
def KV (h : BM) : PostB := fun rv u => rv = none ∧ u = h
section BKC
variable {M : Hd} {pc : Nat} {ls : LoS} {h : BM} {Q : PostB}
theorem bw_kV {y : MethodName} {b : ByteArray} {nL idx : Nat} {d' : Nat × Nat} {ret : Option FieldType} {as st st0 : List Vl} {a : Nat} {P : Int → Prop} (f : ∀ S g, BCt y b nL ret d' (vr a :: as) (S, g, 0, 0) (KQ (S, g, 0, 0) P)) (hd : decode M.1 pc = .ok (.invokevirtual idx, 3)) (hst : as.reverse ++ vr a :: st = st0) (hrc : Rcv y.cls a) (hy : CY y b nL ret as.length) (hlk : Cond.methodLink M.2.2.1 idx y ∈ lw_g) (hdd : d'.1 + 1 ≤ M.2.2.2.2.1.1) (hnl : 8 + (nL + 11) + d'.2 ≤ M.2.2.2.2.1.2) (hs8 : (st.map wdV).sum ≤ 8) (kk : ∀ x, P x → BW M (pc + 3) ls ((0, x) :: st) h Q) : BW M pc ls st0 h Q :=
  bw_callV (mc := 0) (ms := 0) (f h.1 h.2.1) hd hst hrc hy hlk hdd hnl hs8 ⟨Nat.zero_le _, Nat.zero_le _⟩ (fun rv b1 q _ => by obtain ⟨x, rfl, rfl, hx⟩ := q; exact kk x hx)
theorem bw_kS {y : MethodName} {b : ByteArray} {nL idx : Nat} {d' : Nat × Nat} {ret : Option FieldType} {as st st0 : List Vl} {P : Int → Prop} (f : ∀ S g, BCt y b nL ret d' as (S, g, 0, 0) (KQ (S, g, 0, 0) P)) (hd : decode M.1 pc = .ok (.invokestatic idx, 3)) (hst : as.reverse ++ st = st0) (hy : CYs y b nL ret as.length) (hlk : Cond.methodLink M.2.2.1 idx y ∈ lw_g) (hdd : d'.1 + 1 ≤ M.2.2.2.2.1.1) (hnl : 8 + (nL + 11) + d'.2 ≤ M.2.2.2.2.1.2) (hs8 : (st.map wdV).sum ≤ 8) (kk : ∀ x, P x → BW M (pc + 3) ls ((0, x) :: st) h Q) : BW M pc ls st0 h Q :=
  bw_callS (mc := 0) (ms := 0) (f h.1 h.2.1) hd hst hy hlk hdd hnl hs8 ⟨Nat.zero_le _, Nat.zero_le _⟩ (fun rv b1 q _ => by obtain ⟨x, rfl, rfl, hx⟩ := q; exact kk x hx)
theorem bw_kSl {y : MethodName} {b : ByteArray} {nL idx : Nat} {d' : Nat × Nat} {ret : Option FieldType} {as st st0 : List Vl} {P : Int → Prop} (f : ∀ S g, BCt y b nL ret d' as (S, g, 0, 0) (KL (S, g, 0, 0) P)) (hd : decode M.1 pc = .ok (.invokestatic idx, 3)) (hst : as.reverse ++ st = st0) (hy : CYs y b nL ret as.length) (hlk : Cond.methodLink M.2.2.1 idx y ∈ lw_g) (hdd : d'.1 + 1 ≤ M.2.2.2.2.1.1) (hnl : 8 + (nL + 11) + d'.2 ≤ M.2.2.2.2.1.2) (hs8 : (st.map wdV).sum ≤ 8) (kk : ∀ x, P x → BW M (pc + 3) ls ((1, x) :: st) h Q) : BW M pc ls st0 h Q :=
  bw_callS (mc := 0) (ms := 0) (f h.1 h.2.1) hd hst hy hlk hdd hnl hs8 ⟨Nat.zero_le _, Nat.zero_le _⟩ (fun rv b1 q _ => by obtain ⟨x, rfl, rfl, hx⟩ := q; exact kk x hx)
theorem bw_kSv {y : MethodName} {b : ByteArray} {nL idx : Nat} {d' : Nat × Nat} {ret : Option FieldType} {as st st0 : List Vl} (f : ∀ S g, BCt y b nL ret d' as (S, g, 0, 0) (KV (S, g, 0, 0))) (hd : decode M.1 pc = .ok (.invokestatic idx, 3)) (hst : as.reverse ++ st = st0) (hy : CYs y b nL ret as.length) (hlk : Cond.methodLink M.2.2.1 idx y ∈ lw_g) (hdd : d'.1 + 1 ≤ M.2.2.2.2.1.1) (hnl : 8 + (nL + 11) + d'.2 ≤ M.2.2.2.2.1.2) (hs8 : (st.map wdV).sum ≤ 8) (kk : BW M (pc + 3) ls st h Q) : BW M pc ls st0 h Q :=
  bw_callS (mc := 0) (ms := 0) (f h.1 h.2.1) hd hst hy hlk hdd hnl hs8 ⟨Nat.zero_le _, Nat.zero_le _⟩ (fun rv b1 q _ => by obtain ⟨rfl, rfl⟩ := q; exact kk)
theorem bw_pop {v : Vl} {st : List Vl} (hd : decode M.1 pc = .ok (.pop, 1)) (hv : wdV v = 1) (kk : BW M (pc + 1) ls (st) h Q) : BW M pc ls (v :: st) h Q := by
  intro p l e R s m args below meth c H locs cells slots Z D α τ A hF hN hC hE h1 h2 hs hl L hL
  exact lv_pop hF.1 hF.2.1 hd ((cat_enc v).trans hv) (kk p l e R s m args below meth c H locs cells slots Z D α τ A hF hN hC hE h1 h2 (bok_t hs) hl L hL)
end BKC
def kwN : Nat := strL.getD 0 0
/-- the char at j of x's text of words -/
def kwC (j : Nat) : Int := i2c (iand (((strB.getD 0 []).getD j 0).toInt) 255)
theorem kwC_in : ∀ j, j < kwN → 0 ≤ kwC j ∧ kwC j < 65536 := by decide +kernel
set_option maxRecDepth 100000 in
theorem gs_latin {S : List Nat} {g : Mem} : BCt yJ0_isLatin1_aae02 cJ0_isLatin1_aae02 1 (some .boolean) (1, 45) [vr 182] (S, g, 0, 0) (KQ (S, g, 0, 0) (fun x => x = 1)) := by
  refine BCt.of (Or.inl rfl) np_RJ0 (Nat.le_of_ble_eq_true rfl) ?_
  show BW M_J0_isLatin1_aae02 0 [(0, vr 182)] [] (S, g, 0, 0) _
  refine bw_compact (M := M_J0_isLatin1_aae02) (pc := 0) dJ0_isLatin1_aae02_0 fl_J0_38 ?_
  refine bw_if_eq (tgt := 17) (M := M_J0_isLatin1_aae02) (pc := 3) dJ0_isLatin1_aae02_3 rfl (fun hc => absurd hc (by decide)) (fun hc => ?_)
  refine bw_aload_n (j := 0) (M := M_J0_isLatin1_aae02) (pc := 6) dJ0_isLatin1_aae02_6 rfl rfl ?_
  refine bw_scoder (i := 0) (M := M_J0_isLatin1_aae02) (pc := 7) (by decide) dJ0_isLatin1_aae02_7 fl_J0_15 ?_
  refine bw_if_ne (tgt := 17) (M := M_J0_isLatin1_aae02) (pc := 10) dJ0_isLatin1_aae02_10 rfl (fun hc => absurd hc (by decide)) (fun hc => ?_)
  refine bw_iconst (M := M_J0_isLatin1_aae02) (pc := 13) dJ0_isLatin1_aae02_13 ⟨by decide, by decide⟩ ?_
  refine bw_goto (tgt := 18) (M := M_J0_isLatin1_aae02) (pc := 14) dJ0_isLatin1_aae02_14 rfl ?_
  exact bw_iretz (M := M_J0_isLatin1_aae02) (pc := 18) dJ0_isLatin1_aae02_18 rfl (Or.inr rfl) ⟨_, rfl, rfl, rfl⟩
set_option maxRecDepth 100000 in
theorem gs_chk3 {S : List Nat} {g : Mem} {a1 a2 a3 : Int} (h0 : 0 ≤ a1) (h1 : a1 < a2) : BCt yJ3_checkIndex_8e157 cJ3_checkIndex_8e157 3 (some .int) (1, 45) [(0, a1), (0, a2), (2, a3)] (S, g, 0, 0) (KQ (S, g, 0, 0) (fun _ => True)) := by
  refine BCt.of (Or.inl rfl) np_RJ3 (Nat.le_of_ble_eq_true rfl) ?_
  show BW M_J3_checkIndex_8e157 0 [(0, (0, a1)), (1, (0, a2)), (2, (2, a3))] [] (S, g, 0, 0) _
  refine bw_iload_n (j := 0) (M := M_J3_checkIndex_8e157) (pc := 0) dJ3_checkIndex_8e157_0 rfl rfl ?_
  refine bw_if_lt (tgt := 9) (M := M_J3_checkIndex_8e157) (pc := 1) dJ3_checkIndex_8e157_1 rfl (fun hc => ?_) (fun hc => ?_)
  · skip
    refine bw_aloadz_n (j := 2) (M := M_J3_checkIndex_8e157) (pc := 9) dJ3_checkIndex_8e157_9 rfl rfl ?_
    refine bw_iload_n (j := 0) (M := M_J3_checkIndex_8e157) (pc := 10) dJ3_checkIndex_8e157_10 rfl rfl ?_
    refine bw_iload_n (j := 1) (M := M_J3_checkIndex_8e157) (pc := 11) dJ3_checkIndex_8e157_11 rfl rfl ?_
    exact absurd hc (by omega)
  · skip
    refine bw_iload_n (j := 0) (M := M_J3_checkIndex_8e157) (pc := 4) dJ3_checkIndex_8e157_4 rfl rfl ?_
    refine bw_iload_n (j := 1) (M := M_J3_checkIndex_8e157) (pc := 5) dJ3_checkIndex_8e157_5 rfl rfl ?_
    refine bw_icmp_lt (tgt := 16) (M := M_J3_checkIndex_8e157) (pc := 6) dJ3_checkIndex_8e157_6 rfl (fun hc => ?_) (fun hc => ?_)
    · skip
      refine bw_iload_n (j := 0) (M := M_J3_checkIndex_8e157) (pc := 16) dJ3_checkIndex_8e157_16 rfl rfl ?_
      exact bw_ireti (M := M_J3_checkIndex_8e157) (pc := 17) dJ3_checkIndex_8e157_17 rfl ⟨_, rfl, rfl, trivial⟩
    · skip
      refine bw_aloadz_n (j := 2) (M := M_J3_checkIndex_8e157) (pc := 9) dJ3_checkIndex_8e157_9 rfl rfl ?_
      refine bw_iload_n (j := 0) (M := M_J3_checkIndex_8e157) (pc := 10) dJ3_checkIndex_8e157_10 rfl rfl ?_
      refine bw_iload_n (j := 1) (M := M_J3_checkIndex_8e157) (pc := 11) dJ3_checkIndex_8e157_11 rfl rfl ?_
      exact absurd hc (by omega)
set_option maxRecDepth 100000 in
theorem gs_chk {S : List Nat} {g : Mem} {a1 a2 : Int} (h0 : 0 ≤ a1) (h1 : a1 < a2) : BCt yJ0_checkIndex_df160 cJ0_checkIndex_df160 2 none (2, 67) [(0, a1), (0, a2)] (S, g, 0, 0) (KV (S, g, 0, 0)) := by
  refine BCt.of (Or.inl rfl) np_RJ0 (Nat.le_of_ble_eq_true rfl) ?_
  show BW M_J0_checkIndex_df160 0 [(0, (0, a1)), (1, (0, a2))] [] (S, g, 0, 0) _
  refine bw_iload_n (j := 0) (M := M_J0_checkIndex_df160) (pc := 0) dJ0_checkIndex_df160_0 rfl rfl ?_
  refine bw_iload_n (j := 1) (M := M_J0_checkIndex_df160) (pc := 1) dJ0_checkIndex_df160_1 rfl rfl ?_
  refine bw_sioobe (M := M_J0_checkIndex_df160) (pc := 2) dJ0_checkIndex_df160_2 fl_J0_1053 (fun z1 => ?_)
  refine bw_kS (as := [(0, a1), (0, a2), (2, z1)]) (st := []) (M := M_J0_checkIndex_df160) (pc := 5) (fun S g => gs_chk3 h0 h1) dJ0_checkIndex_df160_5 rfl cy_J3_checkIndex_8e157 ml_J0_1059 (by decide) (by decide) (Nat.le_of_ble_eq_true rfl) (fun r3 hr3 => ?_)
  refine bw_pop (M := M_J0_checkIndex_df160) (pc := 8) dJ0_checkIndex_df160_8 rfl ?_
  exact bw_ret (M := M_J0_checkIndex_df160) (pc := 9) dJ0_checkIndex_df160_9 rfl ⟨rfl, rfl⟩
set_option maxRecDepth 100000 in
theorem gs_char1 {S : List Nat} {g : Mem} {j : Nat} (hj : j < kwN) : BCt yJ1_charAt_3b067 cJ1_charAt_3b067 2 (some .char) (3, 88) [vr 184, (0, (j : Int))] (S, g, 0, 0) (KQ (S, g, 0, 0) (fun x => x = kwC j)) := by
  refine BCt.of (Or.inl rfl) np_RJ1 (Nat.le_of_ble_eq_true rfl) ?_
  show BW M_J1_charAt_3b067 0 [(0, vr 184), (1, (0, (j : Int)))] [] (S, g, 0, 0) _
  refine bw_iload_n (j := 1) (M := M_J1_charAt_3b067) (pc := 0) dJ1_charAt_3b067_0 rfl rfl ?_
  refine bw_aload_n (j := 0) (M := M_J1_charAt_3b067) (pc := 1) dJ1_charAt_3b067_1 rfl rfl ?_
  refine bw_slen (i := 0) (M := M_J1_charAt_3b067) (pc := 2) (by decide) dJ1_charAt_3b067_2 ?_
  refine bw_kSv (as := [(0, (j : Int)), (0, ((strL.getD 0 0 : Nat) : Int))]) (st := []) (M := M_J1_charAt_3b067) (pc := 3) (fun S g => gs_chk (by omega) (by unfold kwN at hj; omega)) dJ1_charAt_3b067_3 rfl cy_J0_checkIndex_df160 ml_J1_9 (by decide) (by decide) (Nat.le_of_ble_eq_true rfl) ?_
  refine bw_aload_n (j := 0) (M := M_J1_charAt_3b067) (pc := 6) dJ1_charAt_3b067_6 rfl rfl ?_
  refine bw_iload_n (j := 1) (M := M_J1_charAt_3b067) (pc := 7) dJ1_charAt_3b067_7 rfl rfl ?_
  refine bw_sbyte (i := 0) (M := M_J1_charAt_3b067) (pc := 8) (by decide) dJ1_charAt_3b067_8 ⟨by omega, by unfold kwN at hj; omega⟩ ?_
  refine bw_sipush (M := M_J1_charAt_3b067) (pc := 9) dJ1_charAt_3b067_9 ⟨rfl, ⟨by decide, by decide⟩⟩ ?_
  refine bw_iand (M := M_J1_charAt_3b067) (pc := 12) dJ1_charAt_3b067_12 ?_
  refine bw_i2c (M := M_J1_charAt_3b067) (pc := 13) dJ1_charAt_3b067_13 ?_
  exact bw_iretc (M := M_J1_charAt_3b067) (pc := 14) dJ1_charAt_3b067_14 rfl (by have := kwC_in j hj; unfold kwC at this; rw [Int.toNat_natCast]; exact this) ⟨_, rfl, rfl, by unfold kwC; rw [Int.toNat_natCast]⟩
set_option maxRecDepth 100000 in
theorem gs_char {S : List Nat} {g : Mem} {j : Nat} (hj : j < kwN) : BCt yJ0_charAt_5068e cJ0_charAt_5068e 2 (some .char) (4, 109) [vr 182, (0, (j : Int))] (S, g, 0, 0) (KQ (S, g, 0, 0) (fun x => x = kwC j)) := by
  refine BCt.of (Or.inl rfl) np_RJ0 (Nat.le_of_ble_eq_true rfl) ?_
  show BW M_J0_charAt_5068e 0 [(0, vr 182), (1, (0, (j : Int)))] [] (S, g, 0, 0) _
  refine bw_aload_n (j := 0) (M := M_J0_charAt_5068e) (pc := 0) dJ0_charAt_5068e_0 rfl rfl ?_
  refine bw_kV (as := []) (st := []) (M := M_J0_charAt_5068e) (pc := 1) (fun S g => gs_latin) dJ0_charAt_5068e_1 rfl (Or.inr ⟨rfl, Or.inl rfl⟩) cy_J0_isLatin1_aae02 ml_J0_492 (by decide) (by decide) (Nat.le_of_ble_eq_true rfl) (fun r2 hr2 => ?_)
  refine bw_if_eq (tgt := 16) (M := M_J0_charAt_5068e) (pc := 4) dJ0_charAt_5068e_4 rfl (fun hc => ?_) (fun hc => ?_)
  · skip
    refine bw_aload_n (j := 0) (M := M_J0_charAt_5068e) (pc := 16) dJ0_charAt_5068e_16 rfl rfl ?_
    refine bw_svalue (i := 0) (M := M_J0_charAt_5068e) (pc := 17) (by decide) dJ0_charAt_5068e_17 fl_J0_9 ?_
    refine bw_iload_n (j := 1) (M := M_J0_charAt_5068e) (pc := 20) dJ0_charAt_5068e_20 rfl rfl ?_
    exact absurd (hr2.symm.trans hc) (by decide)
  · skip
    refine bw_aload_n (j := 0) (M := M_J0_charAt_5068e) (pc := 7) dJ0_charAt_5068e_7 rfl rfl ?_
    refine bw_svalue (i := 0) (M := M_J0_charAt_5068e) (pc := 8) (by decide) dJ0_charAt_5068e_8 fl_J0_9 ?_
    refine bw_iload_n (j := 1) (M := M_J0_charAt_5068e) (pc := 11) dJ0_charAt_5068e_11 rfl rfl ?_
    refine bw_kS (as := [vr 184, (0, (j : Int))]) (st := []) (M := M_J0_charAt_5068e) (pc := 12) (fun S g => gs_char1 hj) dJ0_charAt_5068e_12 rfl cy_J1_charAt_3b067 ml_J0_495 (by decide) (by decide) (Nat.le_of_ble_eq_true rfl) (fun r4 hr4 => ?_)
    exact bw_iretc (M := M_J0_charAt_5068e) (pc := 15) dJ0_charAt_5068e_15 rfl (by rw [hr4]; exact kwC_in j hj) ⟨_, rfl, rfl, hr4⟩
set_option maxRecDepth 100000 in
theorem gs_coder {S : List Nat} {g : Mem} : BCt yJ0_coder_7d493 cJ0_coder_7d493 1 (some .byte) (1, 45) [vr 182] (S, g, 0, 0) (KQ (S, g, 0, 0) (fun x => x = 0)) := by
  refine BCt.of (Or.inl rfl) np_RJ0 (Nat.le_of_ble_eq_true rfl) ?_
  show BW M_J0_coder_7d493 0 [(0, vr 182)] [] (S, g, 0, 0) _
  refine bw_compact (M := M_J0_coder_7d493) (pc := 0) dJ0_coder_7d493_0 fl_J0_38 ?_
  refine bw_if_eq (tgt := 13) (M := M_J0_coder_7d493) (pc := 3) dJ0_coder_7d493_3 rfl (fun hc => absurd hc (by decide)) (fun hc => ?_)
  refine bw_aload_n (j := 0) (M := M_J0_coder_7d493) (pc := 6) dJ0_coder_7d493_6 rfl rfl ?_
  refine bw_scoder (i := 0) (M := M_J0_coder_7d493) (pc := 7) (by decide) dJ0_coder_7d493_7 fl_J0_15 ?_
  refine bw_goto (tgt := 14) (M := M_J0_coder_7d493) (pc := 10) dJ0_coder_7d493_10 rfl ?_
  exact bw_iretb (M := M_J0_coder_7d493) (pc := 14) dJ0_coder_7d493_14 rfl ⟨by decide, by decide⟩ ⟨_, rfl, rfl, rfl⟩
set_option maxRecDepth 100000 in
theorem gs_length {S : List Nat} {g : Mem} : BCt yJ0_length_8abf5 cJ0_length_8abf5 1 (some .int) (2, 65) [vr 182] (S, g, 0, 0) (KQ (S, g, 0, 0) (fun x => x = ((kwN : Nat) : Int))) := by
  refine BCt.of (Or.inl rfl) np_RJ0 (Nat.le_of_ble_eq_true rfl) ?_
  show BW M_J0_length_8abf5 0 [(0, vr 182)] [] (S, g, 0, 0) _
  refine bw_aload_n (j := 0) (M := M_J0_length_8abf5) (pc := 0) dJ0_length_8abf5_0 rfl rfl ?_
  refine bw_svalue (i := 0) (M := M_J0_length_8abf5) (pc := 1) (by decide) dJ0_length_8abf5_1 fl_J0_9 ?_
  refine bw_slen (i := 0) (M := M_J0_length_8abf5) (pc := 4) (by decide) dJ0_length_8abf5_4 ?_
  refine bw_aload_n (j := 0) (M := M_J0_length_8abf5) (pc := 5) dJ0_length_8abf5_5 rfl rfl ?_
  refine bw_kV (as := []) (st := [(0, ((strL.getD 0 0 : Nat) : Int))]) (M := M_J0_length_8abf5) (pc := 6) (fun S g => gs_coder) dJ0_length_8abf5_6 rfl (Or.inr ⟨rfl, Or.inl rfl⟩) cy_J0_coder_7d493 ml_J0_335 (by decide) (by decide) (Nat.le_of_ble_eq_true rfl) (fun r2 hr2 => ?_)
  refine bw_ishr (M := M_J0_length_8abf5) (pc := 9) dJ0_length_8abf5_9 ?_
  exact bw_ireti (M := M_J0_length_8abf5) (pc := 10) dJ0_length_8abf5_10 rfl ⟨_, rfl, rfl, by rw [hr2]; decide +kernel⟩
set_option maxRecDepth 100000 in
theorem gs_letter {S : List Nat} {g : Mem} {a1 a2 : Int} (h2 : 97 ≤ a2 ∧ a2 ≤ 122) : BCt yX8_withLetter cX8_withLetter 3 (some .long) (1, 45) [(1, a1), (0, a2)] (S, g, 0, 0) (KL (S, g, 0, 0) (fun x => x = llor (lshl a1 5) ((a2 - 97) + 1))) := by
  refine BCt.of (Or.inl rfl) np_RX8 (Nat.le_of_ble_eq_true rfl) ?_
  show BW M_X8_withLetter 0 [(0, (1, a1)), (2, (0, a2))] [] (S, g, 0, 0) _
  refine bw_lload_n (j := 0) (M := M_X8_withLetter) (pc := 0) dX8_withLetter_0 rfl rfl ?_
  refine bw_iconst (M := M_X8_withLetter) (pc := 1) dX8_withLetter_1 ⟨by decide, by decide⟩ ?_
  refine bw_lshl (M := M_X8_withLetter) (pc := 2) dX8_withLetter_2 ?_
  refine bw_iload_n (j := 1) (M := M_X8_withLetter) (pc := 3) dX8_withLetter_3 rfl rfl ?_
  refine bw_bipush (M := M_X8_withLetter) (pc := 4) dX8_withLetter_4 ⟨rfl, ⟨by decide, by decide⟩⟩ ?_
  refine bw_isub (M := M_X8_withLetter) (pc := 6) dX8_withLetter_6 rfl ⟨by omega, by omega⟩ ?_
  refine bw_iconst (M := M_X8_withLetter) (pc := 7) dX8_withLetter_7 ⟨by decide, by decide⟩ ?_
  refine bw_iadd (M := M_X8_withLetter) (pc := 8) dX8_withLetter_8 rfl ⟨by omega, by omega⟩ ?_
  refine bw_i2l (M := M_X8_withLetter) (pc := 9) dX8_withLetter_9 ?_
  refine bw_lor (M := M_X8_withLetter) (pc := 10) dX8_withLetter_10 ?_
  exact bw_lret (M := M_X8_withLetter) (pc := 11) dX8_withLetter_11 rfl ⟨_, rfl, rfl, rfl⟩
