/-! the constructors -/
abbrev M_X9_init : Hd := (cX9_init, 1, RX9, none, (1, 45), sc1)
set_option maxRecDepth 100000 in
set_option maxHeartbeats 4000000 in
theorem bc_X9_init {o : Nat} {S0 : List Nat} {h0 : Mem} (ho : lay o = (0, 9)) (fr : ∀ i, o < i → i < o + 9 → i ∉ S0) : BCt yX9_init cX9_init 1 none (1, 45) [vr o] (S0, h0, 8, 64) (CP o 9 S0 h0 (fun u => True)) := by
  refine BCt.of (Or.inr ⟨rfl, rfl⟩) np_RX9 (Nat.le_of_ble_eq_true rfl) ?_
  show BW M_X9_init 0 [(0, vr o)] [] (S0, h0, 8, 64) _
  refine bw_aload_n (j := 0) (M := M_X9_init) (pc := 0) dX9_init_0 rfl rfl ?_
  refine bw_objInit (st := []) (M := M_X9_init) (pc := 1) dX9_init_1 ml_X9_3 ⟨Nat.le_of_ble_eq_true rfl, Nat.le_of_ble_eq_true rfl⟩ (by decide) ?_
  refine bw_aload_n (j := 0) (M := M_X9_init) (pc := 4) dX9_init_4 rfl rfl ?_
  refine bw_iconst (M := M_X9_init) (pc := 5) dX9_init_5 ⟨by decide, by decide⟩ ?_
  refine bw_puti (a := o) (x := 0) clk_9 (M := M_X9_init) (pc := 6) dX9_init_6 ho (k := 0) (by decide) fl_X9_9 rfl rfl rfl ?_
  show BW M_X9_init 9 [(0, vr o)] [] (S0, mset h0 o 0 0, 8, 64) _
  generalize eh1 : mset h0 o 0 0 = h1
  refine bw_aload_n (j := 0) (M := M_X9_init) (pc := 9) dX9_init_9 rfl rfl ?_
  refine bw_bipush (M := M_X9_init) (pc := 10) dX9_init_10 ⟨rfl, ⟨by decide, by decide⟩⟩ ?_
  refine bw_newl (n := 8) (n0 := o + 1) (M := M_X9_init) (pc := 12) dX9_init_12 ac_long (ly_9_1 ho) rfl (fr _ (by omega) (by omega)) ⟨Nat.le_of_ble_eq_true rfl, Nat.le_of_ble_eq_true rfl⟩ (Nat.le_of_ble_eq_true rfl) ?_
  show BW M_X9_init 14 [(0, vr o)] [vr (o + 1), vr o] (S0 ++ [o + 1], mz h1 (o + 1), 7, 56) _
  generalize eh2 : mz h1 (o + 1) = h2
  generalize eS1 : S0 ++ [o + 1] = S1
  have m1 : ∀ i, i ∈ S1 ↔ i ∈ S0 ∨ i = o + 1 := fun i => by rw [← eS1, List.mem_append, List.mem_singleton]
  refine bw_putF (a := o) (b := o + 1) (q := 1) (M := M_X9_init) (pc := 14) clk_9 rfl dX9_init_14 ho (k := 1) (by decide) fl_X9_15 rfl rfl (fun a => rfl) (fun a => rfl) rfl rfl ?_
  show BW M_X9_init 17 [(0, vr o)] [] (S1, mset h2 o 1 1, 7, 56) _
  generalize eh3 : mset h2 o 1 1 = h3
  refine bw_aload_n (j := 0) (M := M_X9_init) (pc := 17) dX9_init_17 rfl rfl ?_
  refine bw_bipush (M := M_X9_init) (pc := 18) dX9_init_18 ⟨rfl, ⟨by decide, by decide⟩⟩ ?_
  refine bw_newi (n := 8) (n0 := o + 2) (M := M_X9_init) (pc := 20) dX9_init_20 ac_int (ly_9_2 ho) rfl (fun z => by rw [m1] at z; rcases z with z | z <;> first | exact fr _ (by omega) (by omega) z | omega) ⟨Nat.le_of_ble_eq_true rfl, Nat.le_of_ble_eq_true rfl⟩ (Nat.le_of_ble_eq_true rfl) ?_
  show BW M_X9_init 22 [(0, vr o)] [vr (o + 2), vr o] (S1 ++ [o + 2], mz h3 (o + 2), 6, 48) _
  generalize eh4 : mz h3 (o + 2) = h4
  generalize eS2 : S1 ++ [o + 2] = S2
  have m2 : ∀ i, i ∈ S2 ↔ i ∈ S1 ∨ i = o + 2 := fun i => by rw [← eS2, List.mem_append, List.mem_singleton]
  refine bw_putF (a := o) (b := o + 2) (q := 2) (M := M_X9_init) (pc := 22) clk_9 rfl dX9_init_22 ho (k := 2) (by decide) fl_X9_19 rfl rfl (fun a => rfl) (fun a => rfl) rfl rfl ?_
  show BW M_X9_init 25 [(0, vr o)] [] (S2, mset h4 o 2 1, 6, 48) _
  generalize eh5 : mset h4 o 2 1 = h5
  refine bw_aload_n (j := 0) (M := M_X9_init) (pc := 25) dX9_init_25 rfl rfl ?_
  refine bw_bipush (M := M_X9_init) (pc := 26) dX9_init_26 ⟨rfl, ⟨by decide, by decide⟩⟩ ?_
  refine bw_newi (n := 8) (n0 := o + 3) (M := M_X9_init) (pc := 28) dX9_init_28 ac_int (ly_9_3 ho) rfl (fun z => by rw [m2, m1] at z; rcases z with (z | z) | z <;> first | exact fr _ (by omega) (by omega) z | omega) ⟨Nat.le_of_ble_eq_true rfl, Nat.le_of_ble_eq_true rfl⟩ (Nat.le_of_ble_eq_true rfl) ?_
  show BW M_X9_init 30 [(0, vr o)] [vr (o + 3), vr o] (S2 ++ [o + 3], mz h5 (o + 3), 5, 40) _
  generalize eh6 : mz h5 (o + 3) = h6
  generalize eS3 : S2 ++ [o + 3] = S3
  have m3 : ∀ i, i ∈ S3 ↔ i ∈ S2 ∨ i = o + 3 := fun i => by rw [← eS3, List.mem_append, List.mem_singleton]
  refine bw_putF (a := o) (b := o + 3) (q := 3) (M := M_X9_init) (pc := 30) clk_9 rfl dX9_init_30 ho (k := 3) (by decide) fl_X9_23 rfl rfl (fun a => rfl) (fun a => rfl) rfl rfl ?_
  show BW M_X9_init 33 [(0, vr o)] [] (S3, mset h6 o 3 1, 5, 40) _
  generalize eh7 : mset h6 o 3 1 = h7
  refine bw_aload_n (j := 0) (M := M_X9_init) (pc := 33) dX9_init_33 rfl rfl ?_
  refine bw_bipush (M := M_X9_init) (pc := 34) dX9_init_34 ⟨rfl, ⟨by decide, by decide⟩⟩ ?_
  refine bw_newi (n := 8) (n0 := o + 4) (M := M_X9_init) (pc := 36) dX9_init_36 ac_int (ly_9_4 ho) rfl (fun z => by rw [m3, m2, m1] at z; rcases z with ((z | z) | z) | z <;> first | exact fr _ (by omega) (by omega) z | omega) ⟨Nat.le_of_ble_eq_true rfl, Nat.le_of_ble_eq_true rfl⟩ (Nat.le_of_ble_eq_true rfl) ?_
  show BW M_X9_init 38 [(0, vr o)] [vr (o + 4), vr o] (S3 ++ [o + 4], mz h7 (o + 4), 4, 32) _
  generalize eh8 : mz h7 (o + 4) = h8
  generalize eS4 : S3 ++ [o + 4] = S4
  have m4 : ∀ i, i ∈ S4 ↔ i ∈ S3 ∨ i = o + 4 := fun i => by rw [← eS4, List.mem_append, List.mem_singleton]
  refine bw_putF (a := o) (b := o + 4) (q := 4) (M := M_X9_init) (pc := 38) clk_9 rfl dX9_init_38 ho (k := 4) (by decide) fl_X9_26 rfl rfl (fun a => rfl) (fun a => rfl) rfl rfl ?_
  show BW M_X9_init 41 [(0, vr o)] [] (S4, mset h8 o 4 1, 4, 32) _
  generalize eh9 : mset h8 o 4 1 = h9
  refine bw_aload_n (j := 0) (M := M_X9_init) (pc := 41) dX9_init_41 rfl rfl ?_
  refine bw_bipush (M := M_X9_init) (pc := 42) dX9_init_42 ⟨rfl, ⟨by decide, by decide⟩⟩ ?_
  refine bw_newi (n := 8) (n0 := o + 5) (M := M_X9_init) (pc := 44) dX9_init_44 ac_int (ly_9_5 ho) rfl (fun z => by rw [m4, m3, m2, m1] at z; rcases z with (((z | z) | z) | z) | z <;> first | exact fr _ (by omega) (by omega) z | omega) ⟨Nat.le_of_ble_eq_true rfl, Nat.le_of_ble_eq_true rfl⟩ (Nat.le_of_ble_eq_true rfl) ?_
  show BW M_X9_init 46 [(0, vr o)] [vr (o + 5), vr o] (S4 ++ [o + 5], mz h9 (o + 5), 3, 24) _
  generalize eh10 : mz h9 (o + 5) = h10
  generalize eS5 : S4 ++ [o + 5] = S5
  have m5 : ∀ i, i ∈ S5 ↔ i ∈ S4 ∨ i = o + 5 := fun i => by rw [← eS5, List.mem_append, List.mem_singleton]
  refine bw_putF (a := o) (b := o + 5) (q := 5) (M := M_X9_init) (pc := 46) clk_9 rfl dX9_init_46 ho (k := 5) (by decide) fl_X9_29 rfl rfl (fun a => rfl) (fun a => rfl) rfl rfl ?_
  show BW M_X9_init 49 [(0, vr o)] [] (S5, mset h10 o 5 1, 3, 24) _
  generalize eh11 : mset h10 o 5 1 = h11
  refine bw_aload_n (j := 0) (M := M_X9_init) (pc := 49) dX9_init_49 rfl rfl ?_
  refine bw_bipush (M := M_X9_init) (pc := 50) dX9_init_50 ⟨rfl, ⟨by decide, by decide⟩⟩ ?_
  refine bw_newi (n := 8) (n0 := o + 6) (M := M_X9_init) (pc := 52) dX9_init_52 ac_int (ly_9_6 ho) rfl (fun z => by rw [m5, m4, m3, m2, m1] at z; rcases z with ((((z | z) | z) | z) | z) | z <;> first | exact fr _ (by omega) (by omega) z | omega) ⟨Nat.le_of_ble_eq_true rfl, Nat.le_of_ble_eq_true rfl⟩ (Nat.le_of_ble_eq_true rfl) ?_
  show BW M_X9_init 54 [(0, vr o)] [vr (o + 6), vr o] (S5 ++ [o + 6], mz h11 (o + 6), 2, 16) _
  generalize eh12 : mz h11 (o + 6) = h12
  generalize eS6 : S5 ++ [o + 6] = S6
  have m6 : ∀ i, i ∈ S6 ↔ i ∈ S5 ∨ i = o + 6 := fun i => by rw [← eS6, List.mem_append, List.mem_singleton]
  refine bw_putF (a := o) (b := o + 6) (q := 6) (M := M_X9_init) (pc := 54) clk_9 rfl dX9_init_54 ho (k := 6) (by decide) fl_X9_32 rfl rfl (fun a => rfl) (fun a => rfl) rfl rfl ?_
  show BW M_X9_init 57 [(0, vr o)] [] (S6, mset h12 o 6 1, 2, 16) _
  generalize eh13 : mset h12 o 6 1 = h13
  refine bw_aload_n (j := 0) (M := M_X9_init) (pc := 57) dX9_init_57 rfl rfl ?_
  refine bw_bipush (M := M_X9_init) (pc := 58) dX9_init_58 ⟨rfl, ⟨by decide, by decide⟩⟩ ?_
  refine bw_newi (n := 8) (n0 := o + 7) (M := M_X9_init) (pc := 60) dX9_init_60 ac_int (ly_9_7 ho) rfl (fun z => by rw [m6, m5, m4, m3, m2, m1] at z; rcases z with (((((z | z) | z) | z) | z) | z) | z <;> first | exact fr _ (by omega) (by omega) z | omega) ⟨Nat.le_of_ble_eq_true rfl, Nat.le_of_ble_eq_true rfl⟩ (Nat.le_of_ble_eq_true rfl) ?_
  show BW M_X9_init 62 [(0, vr o)] [vr (o + 7), vr o] (S6 ++ [o + 7], mz h13 (o + 7), 1, 8) _
  generalize eh14 : mz h13 (o + 7) = h14
  generalize eS7 : S6 ++ [o + 7] = S7
  have m7 : ∀ i, i ∈ S7 ↔ i ∈ S6 ∨ i = o + 7 := fun i => by rw [← eS7, List.mem_append, List.mem_singleton]
  refine bw_putF (a := o) (b := o + 7) (q := 7) (M := M_X9_init) (pc := 62) clk_9 rfl dX9_init_62 ho (k := 7) (by decide) fl_X9_35 rfl rfl (fun a => rfl) (fun a => rfl) rfl rfl ?_
  show BW M_X9_init 65 [(0, vr o)] [] (S7, mset h14 o 7 1, 1, 8) _
  generalize eh15 : mset h14 o 7 1 = h15
  refine bw_aload_n (j := 0) (M := M_X9_init) (pc := 65) dX9_init_65 rfl rfl ?_
  refine bw_bipush (M := M_X9_init) (pc := 66) dX9_init_66 ⟨rfl, ⟨by decide, by decide⟩⟩ ?_
  refine bw_newi (n := 8) (n0 := o + 8) (M := M_X9_init) (pc := 68) dX9_init_68 ac_int (ly_9_8 ho) rfl (fun z => by rw [m7, m6, m5, m4, m3, m2, m1] at z; rcases z with ((((((z | z) | z) | z) | z) | z) | z) | z <;> first | exact fr _ (by omega) (by omega) z | omega) ⟨Nat.le_of_ble_eq_true rfl, Nat.le_of_ble_eq_true rfl⟩ (Nat.le_of_ble_eq_true rfl) ?_
  show BW M_X9_init 70 [(0, vr o)] [vr (o + 8), vr o] (S7 ++ [o + 8], mz h15 (o + 8), 0, 0) _
  generalize eh16 : mz h15 (o + 8) = h16
  generalize eS8 : S7 ++ [o + 8] = S8
  have m8 : ∀ i, i ∈ S8 ↔ i ∈ S7 ∨ i = o + 8 := fun i => by rw [← eS8, List.mem_append, List.mem_singleton]
  refine bw_putF (a := o) (b := o + 8) (q := 8) (M := M_X9_init) (pc := 70) clk_9 rfl dX9_init_70 ho (k := 8) (by decide) fl_X9_38 rfl rfl (fun a => rfl) (fun a => rfl) rfl rfl ?_
  show BW M_X9_init 73 [(0, vr o)] [] (S8, mset h16 o 8 1, 0, 0) _
  generalize eh17 : mset h16 o 8 1 = h17
  refine bw_ret (M := M_X9_init) (pc := 73) dX9_init_73 rfl ?_
  refine ⟨rfl, fun i => ?_, fun i hi k => ?_, fun i i1 i2 => ?_, ?_⟩
  · show i ∈ S8 ↔ i ∈ S0 ∨ (o < i ∧ i < o + 9)
    rw [m8, m7, m6, m5, m4, m3, m2, m1]
    by_cases z : i ∈ S0
    · simp [z]
    · simp only [z, false_or]; omega
  · show h17 i k = h0 i k
    rw [← eh17, mset_o (by omega), ← eh16, mz_o (by omega), ← eh15, mset_o (by omega), ← eh14, mz_o (by omega), ← eh13, mset_o (by omega), ← eh12, mz_o (by omega), ← eh11, mset_o (by omega), ← eh10, mz_o (by omega), ← eh9, mset_o (by omega), ← eh8, mz_o (by omega), ← eh7, mset_o (by omega), ← eh6, mz_o (by omega), ← eh5, mset_o (by omega), ← eh4, mz_o (by omega), ← eh3, mset_o (by omega), ← eh2, mz_o (by omega), ← eh1, mset_o (by omega)]
  · show FlagOK h17 i
    rcases (show i = o ∨ i = o + 1 ∨ i = o + 2 ∨ i = o + 3 ∨ i = o + 4 ∨ i = o + 5 ∨ i = o + 6 ∨ i = o + 7 ∨ i = o + 8 by omega) with y | y | y | y | y | y | y | y | y
    · rw [y]
      refine flag_ob ho (fun k hk h4 => ?_)
      have hk : k < 9 := hk
      rcases (show k = 0 ∨ k = 1 ∨ k = 2 ∨ k = 3 ∨ k = 4 ∨ k = 5 ∨ k = 6 ∨ k = 7 ∨ k = 8 by omega) with rfl | rfl | rfl | rfl | rfl | rfl | rfl | rfl | rfl
      · exact absurd h4 (by decide)
      · exact (show h17 o 1 = 1 from by rw [← eh17, mset_o (by omega), ← eh16, mz_o (by omega), ← eh15, mset_o (by omega), ← eh14, mz_o (by omega), ← eh13, mset_o (by omega), ← eh12, mz_o (by omega), ← eh11, mset_o (by omega), ← eh10, mz_o (by omega), ← eh9, mset_o (by omega), ← eh8, mz_o (by omega), ← eh7, mset_o (by omega), ← eh6, mz_o (by omega), ← eh5, mset_o (by omega), ← eh4, mz_o (by omega), ← eh3, mset_at])
      · exact (show h17 o 2 = 1 from by rw [← eh17, mset_o (by omega), ← eh16, mz_o (by omega), ← eh15, mset_o (by omega), ← eh14, mz_o (by omega), ← eh13, mset_o (by omega), ← eh12, mz_o (by omega), ← eh11, mset_o (by omega), ← eh10, mz_o (by omega), ← eh9, mset_o (by omega), ← eh8, mz_o (by omega), ← eh7, mset_o (by omega), ← eh6, mz_o (by omega), ← eh5, mset_at])
      · exact (show h17 o 3 = 1 from by rw [← eh17, mset_o (by omega), ← eh16, mz_o (by omega), ← eh15, mset_o (by omega), ← eh14, mz_o (by omega), ← eh13, mset_o (by omega), ← eh12, mz_o (by omega), ← eh11, mset_o (by omega), ← eh10, mz_o (by omega), ← eh9, mset_o (by omega), ← eh8, mz_o (by omega), ← eh7, mset_at])
      · exact (show h17 o 4 = 1 from by rw [← eh17, mset_o (by omega), ← eh16, mz_o (by omega), ← eh15, mset_o (by omega), ← eh14, mz_o (by omega), ← eh13, mset_o (by omega), ← eh12, mz_o (by omega), ← eh11, mset_o (by omega), ← eh10, mz_o (by omega), ← eh9, mset_at])
      · exact (show h17 o 5 = 1 from by rw [← eh17, mset_o (by omega), ← eh16, mz_o (by omega), ← eh15, mset_o (by omega), ← eh14, mz_o (by omega), ← eh13, mset_o (by omega), ← eh12, mz_o (by omega), ← eh11, mset_at])
      · exact (show h17 o 6 = 1 from by rw [← eh17, mset_o (by omega), ← eh16, mz_o (by omega), ← eh15, mset_o (by omega), ← eh14, mz_o (by omega), ← eh13, mset_at])
      · exact (show h17 o 7 = 1 from by rw [← eh17, mset_o (by omega), ← eh16, mz_o (by omega), ← eh15, mset_at])
      · exact (show h17 o 8 = 1 from by rw [← eh17, mset_at])
    · rw [y]; exact flag_arr (ly_9_1 ho) (by omega)
    · rw [y]; exact flag_arr (ly_9_2 ho) (by omega)
    · rw [y]; exact flag_arr (ly_9_3 ho) (by omega)
    · rw [y]; exact flag_arr (ly_9_4 ho) (by omega)
    · rw [y]; exact flag_arr (ly_9_5 ho) (by omega)
    · rw [y]; exact flag_arr (ly_9_6 ho) (by omega)
    · rw [y]; exact flag_arr (ly_9_7 ho) (by omega)
    · rw [y]; exact flag_arr (ly_9_8 ho) (by omega)
  · exact trivial
abbrev M_X7_init : Hd := (cX7_init, 1, RX7, none, (1, 45), sc1)
set_option maxRecDepth 100000 in
set_option maxHeartbeats 4000000 in
theorem bc_X7_init {o : Nat} {S0 : List Nat} {h0 : Mem} (ho : lay o = (0, 7)) (fr : ∀ i, o < i → i < o + 5 → i ∉ S0) : BCt yX7_init cX7_init 1 none (1, 45) [vr o] (S0, h0, 4, 16) (CP o 5 S0 h0 (fun u => True)) := by
  refine BCt.of (Or.inr ⟨rfl, rfl⟩) np_RX7 (Nat.le_of_ble_eq_true rfl) ?_
  show BW M_X7_init 0 [(0, vr o)] [] (S0, h0, 4, 16) _
  refine bw_aload_n (j := 0) (M := M_X7_init) (pc := 0) dX7_init_0 rfl rfl ?_
  refine bw_objInit (st := []) (M := M_X7_init) (pc := 1) dX7_init_1 ml_X7_3 ⟨Nat.le_of_ble_eq_true rfl, Nat.le_of_ble_eq_true rfl⟩ (by decide) ?_
  refine bw_aload_n (j := 0) (M := M_X7_init) (pc := 4) dX7_init_4 rfl rfl ?_
  refine bw_iconst (M := M_X7_init) (pc := 5) dX7_init_5 ⟨by decide, by decide⟩ ?_
  refine bw_puti (a := o) (x := 0) clk_7 (M := M_X7_init) (pc := 6) dX7_init_6 ho (k := 0) (by decide) fl_X7_9 rfl rfl rfl ?_
  show BW M_X7_init 9 [(0, vr o)] [] (S0, mset h0 o 0 0, 4, 16) _
  generalize eh1 : mset h0 o 0 0 = h1
  refine bw_aload_n (j := 0) (M := M_X7_init) (pc := 9) dX7_init_9 rfl rfl ?_
  refine bw_iconst (M := M_X7_init) (pc := 10) dX7_init_10 ⟨by decide, by decide⟩ ?_
  refine bw_newl (n := 4) (n0 := o + 1) (M := M_X7_init) (pc := 11) dX7_init_11 ac_long (ly_7_1 ho) rfl (fr _ (by omega) (by omega)) ⟨Nat.le_of_ble_eq_true rfl, Nat.le_of_ble_eq_true rfl⟩ (Nat.le_of_ble_eq_true rfl) ?_
  show BW M_X7_init 13 [(0, vr o)] [vr (o + 1), vr o] (S0 ++ [o + 1], mz h1 (o + 1), 3, 12) _
  generalize eh2 : mz h1 (o + 1) = h2
  generalize eS1 : S0 ++ [o + 1] = S1
  have m1 : ∀ i, i ∈ S1 ↔ i ∈ S0 ∨ i = o + 1 := fun i => by rw [← eS1, List.mem_append, List.mem_singleton]
  refine bw_putF (a := o) (b := o + 1) (q := 1) (M := M_X7_init) (pc := 13) clk_7 rfl dX7_init_13 ho (k := 1) (by decide) fl_X7_15 rfl rfl (fun a => rfl) (fun a => rfl) rfl rfl ?_
  show BW M_X7_init 16 [(0, vr o)] [] (S1, mset h2 o 1 1, 3, 12) _
  generalize eh3 : mset h2 o 1 1 = h3
  refine bw_aload_n (j := 0) (M := M_X7_init) (pc := 16) dX7_init_16 rfl rfl ?_
  refine bw_iconst (M := M_X7_init) (pc := 17) dX7_init_17 ⟨by decide, by decide⟩ ?_
  refine bw_newi (n := 4) (n0 := o + 2) (M := M_X7_init) (pc := 18) dX7_init_18 ac_int (ly_7_2 ho) rfl (fun z => by rw [m1] at z; rcases z with z | z <;> first | exact fr _ (by omega) (by omega) z | omega) ⟨Nat.le_of_ble_eq_true rfl, Nat.le_of_ble_eq_true rfl⟩ (Nat.le_of_ble_eq_true rfl) ?_
  show BW M_X7_init 20 [(0, vr o)] [vr (o + 2), vr o] (S1 ++ [o + 2], mz h3 (o + 2), 2, 8) _
  generalize eh4 : mz h3 (o + 2) = h4
  generalize eS2 : S1 ++ [o + 2] = S2
  have m2 : ∀ i, i ∈ S2 ↔ i ∈ S1 ∨ i = o + 2 := fun i => by rw [← eS2, List.mem_append, List.mem_singleton]
  refine bw_putF (a := o) (b := o + 2) (q := 2) (M := M_X7_init) (pc := 20) clk_7 rfl dX7_init_20 ho (k := 2) (by decide) fl_X7_19 rfl rfl (fun a => rfl) (fun a => rfl) rfl rfl ?_
  show BW M_X7_init 23 [(0, vr o)] [] (S2, mset h4 o 2 1, 2, 8) _
  generalize eh5 : mset h4 o 2 1 = h5
  refine bw_aload_n (j := 0) (M := M_X7_init) (pc := 23) dX7_init_23 rfl rfl ?_
  refine bw_iconst (M := M_X7_init) (pc := 24) dX7_init_24 ⟨by decide, by decide⟩ ?_
  refine bw_newi (n := 4) (n0 := o + 3) (M := M_X7_init) (pc := 25) dX7_init_25 ac_int (ly_7_3 ho) rfl (fun z => by rw [m2, m1] at z; rcases z with (z | z) | z <;> first | exact fr _ (by omega) (by omega) z | omega) ⟨Nat.le_of_ble_eq_true rfl, Nat.le_of_ble_eq_true rfl⟩ (Nat.le_of_ble_eq_true rfl) ?_
  show BW M_X7_init 27 [(0, vr o)] [vr (o + 3), vr o] (S2 ++ [o + 3], mz h5 (o + 3), 1, 4) _
  generalize eh6 : mz h5 (o + 3) = h6
  generalize eS3 : S2 ++ [o + 3] = S3
  have m3 : ∀ i, i ∈ S3 ↔ i ∈ S2 ∨ i = o + 3 := fun i => by rw [← eS3, List.mem_append, List.mem_singleton]
  refine bw_putF (a := o) (b := o + 3) (q := 3) (M := M_X7_init) (pc := 27) clk_7 rfl dX7_init_27 ho (k := 3) (by decide) fl_X7_23 rfl rfl (fun a => rfl) (fun a => rfl) rfl rfl ?_
  show BW M_X7_init 30 [(0, vr o)] [] (S3, mset h6 o 3 1, 1, 4) _
  generalize eh7 : mset h6 o 3 1 = h7
  refine bw_aload_n (j := 0) (M := M_X7_init) (pc := 30) dX7_init_30 rfl rfl ?_
  refine bw_iconst (M := M_X7_init) (pc := 31) dX7_init_31 ⟨by decide, by decide⟩ ?_
  refine bw_newi (n := 4) (n0 := o + 4) (M := M_X7_init) (pc := 32) dX7_init_32 ac_int (ly_7_4 ho) rfl (fun z => by rw [m3, m2, m1] at z; rcases z with ((z | z) | z) | z <;> first | exact fr _ (by omega) (by omega) z | omega) ⟨Nat.le_of_ble_eq_true rfl, Nat.le_of_ble_eq_true rfl⟩ (Nat.le_of_ble_eq_true rfl) ?_
  show BW M_X7_init 34 [(0, vr o)] [vr (o + 4), vr o] (S3 ++ [o + 4], mz h7 (o + 4), 0, 0) _
  generalize eh8 : mz h7 (o + 4) = h8
  generalize eS4 : S3 ++ [o + 4] = S4
  have m4 : ∀ i, i ∈ S4 ↔ i ∈ S3 ∨ i = o + 4 := fun i => by rw [← eS4, List.mem_append, List.mem_singleton]
  refine bw_putF (a := o) (b := o + 4) (q := 4) (M := M_X7_init) (pc := 34) clk_7 rfl dX7_init_34 ho (k := 4) (by decide) fl_X7_26 rfl rfl (fun a => rfl) (fun a => rfl) rfl rfl ?_
  show BW M_X7_init 37 [(0, vr o)] [] (S4, mset h8 o 4 1, 0, 0) _
  generalize eh9 : mset h8 o 4 1 = h9
  refine bw_ret (M := M_X7_init) (pc := 37) dX7_init_37 rfl ?_
  refine ⟨rfl, fun i => ?_, fun i hi k => ?_, fun i i1 i2 => ?_, ?_⟩
  · show i ∈ S4 ↔ i ∈ S0 ∨ (o < i ∧ i < o + 5)
    rw [m4, m3, m2, m1]
    by_cases z : i ∈ S0
    · simp [z]
    · simp only [z, false_or]; omega
  · show h9 i k = h0 i k
    rw [← eh9, mset_o (by omega), ← eh8, mz_o (by omega), ← eh7, mset_o (by omega), ← eh6, mz_o (by omega), ← eh5, mset_o (by omega), ← eh4, mz_o (by omega), ← eh3, mset_o (by omega), ← eh2, mz_o (by omega), ← eh1, mset_o (by omega)]
  · show FlagOK h9 i
    rcases (show i = o ∨ i = o + 1 ∨ i = o + 2 ∨ i = o + 3 ∨ i = o + 4 by omega) with y | y | y | y | y
    · rw [y]
      refine flag_ob ho (fun k hk h4 => ?_)
      have hk : k < 5 := hk
      rcases (show k = 0 ∨ k = 1 ∨ k = 2 ∨ k = 3 ∨ k = 4 by omega) with rfl | rfl | rfl | rfl | rfl
      · exact absurd h4 (by decide)
      · exact (show h9 o 1 = 1 from by rw [← eh9, mset_o (by omega), ← eh8, mz_o (by omega), ← eh7, mset_o (by omega), ← eh6, mz_o (by omega), ← eh5, mset_o (by omega), ← eh4, mz_o (by omega), ← eh3, mset_at])
      · exact (show h9 o 2 = 1 from by rw [← eh9, mset_o (by omega), ← eh8, mz_o (by omega), ← eh7, mset_o (by omega), ← eh6, mz_o (by omega), ← eh5, mset_at])
      · exact (show h9 o 3 = 1 from by rw [← eh9, mset_o (by omega), ← eh8, mz_o (by omega), ← eh7, mset_at])
      · exact (show h9 o 4 = 1 from by rw [← eh9, mset_at])
    · rw [y]; exact flag_arr (ly_7_1 ho) (by omega)
    · rw [y]; exact flag_arr (ly_7_2 ho) (by omega)
    · rw [y]; exact flag_arr (ly_7_3 ho) (by omega)
    · rw [y]; exact flag_arr (ly_7_4 ho) (by omega)
  · exact trivial
abbrev M_bX4_clear : Hd := (cX4_clear, 1, RX4, none, (1, 45), sc0)
set_option maxRecDepth 100000 in
theorem bm_X4_clear {o : Nat} {S : List Nat} {h : Mem} (ho : lay o = (0, 4)) (h7_ : h o 7 = 1) (h8_ : h o 8 = 1) : BCt yX4_clear cX4_clear 1 none (1, 45) [vr o] (S, h, 0, 0) (fun rv b => rv = none ∧ b.1 = S ∧ (∀ i k, ¬ (i = o ∧ k < 7) → ¬ (i = o + 1 ∧ k = 0) → ¬ (i = o + 10 ∧ k = 0) → b.2.1 i k = h i k) ∧ (∀ i, FlagOK h i → FlagOK b.2.1 i) ∧ (fun u : Mem => u o 0 = 8 ∧ u o 1 = 10 ∧ u o 2 = 4 ∧ u o 3 = 0 ∧ u o 4 = 1 ∧ u o 5 = 0 ∧ u o 6 = 0 ∧ u (o + 1) 0 = 0 ∧ u (o + 10) 0 = 0) b.2.1) := by
  obtain ⟨S0, eS0⟩ : ∃ y, y = S := ⟨_, rfl⟩
  obtain ⟨h0, eh0⟩ : ∃ y, y = h := ⟨_, rfl⟩
  subst eS0 eh0
  refine BCt.of (Or.inl rfl) np_RX4 (Nat.le_of_ble_eq_true rfl) ?_
  show BW M_bX4_clear 0 [(0, vr o)] [] (S0, h0, 0, 0) _
  refine bw_aload_n (j := 0) (M := M_bX4_clear) (pc := 0) dX4_clear_0 rfl rfl ?_
  refine bw_bipush (M := M_bX4_clear) (pc := 1) dX4_clear_1 ⟨rfl, ⟨by decide, by decide⟩⟩ ?_
  refine bw_puti (a := o) (x := 8) clk_4 (M := M_bX4_clear) (pc := 3) dX4_clear_3 ho (k := 0) (by decide) fl_X4_28 rfl rfl rfl ?_
  show BW M_bX4_clear 6 [(0, vr o)] [] (S0, mset h0 o 0 8, 0, 0) _
  generalize eh1 : mset h0 o 0 8 = h1
  refine bw_aload_n (j := 0) (M := M_bX4_clear) (pc := 6) dX4_clear_6 rfl rfl ?_
  refine bw_bipush (M := M_bX4_clear) (pc := 7) dX4_clear_7 ⟨rfl, ⟨by decide, by decide⟩⟩ ?_
  refine bw_puti (a := o) (x := 10) clk_4 (M := M_bX4_clear) (pc := 9) dX4_clear_9 ho (k := 1) (by decide) fl_X4_32 rfl rfl rfl ?_
  show BW M_bX4_clear 12 [(0, vr o)] [] (S0, mset h1 o 1 10, 0, 0) _
  generalize eh2 : mset h1 o 1 10 = h2
  refine bw_aload_n (j := 0) (M := M_bX4_clear) (pc := 12) dX4_clear_12 rfl rfl ?_
  refine bw_iconst (M := M_bX4_clear) (pc := 13) dX4_clear_13 ⟨by decide, by decide⟩ ?_
  refine bw_puti (a := o) (x := 4) clk_4 (M := M_bX4_clear) (pc := 14) dX4_clear_14 ho (k := 2) (by decide) fl_X4_35 rfl rfl rfl ?_
  show BW M_bX4_clear 17 [(0, vr o)] [] (S0, mset h2 o 2 4, 0, 0) _
  generalize eh3 : mset h2 o 2 4 = h3
  refine bw_aload_n (j := 0) (M := M_bX4_clear) (pc := 17) dX4_clear_17 rfl rfl ?_
  refine bw_iconst (M := M_bX4_clear) (pc := 18) dX4_clear_18 ⟨by decide, by decide⟩ ?_
  refine bw_puti (a := o) (x := 0) clk_4 (M := M_bX4_clear) (pc := 19) dX4_clear_19 ho (k := 3) (by decide) fl_X4_38 rfl rfl rfl ?_
  show BW M_bX4_clear 22 [(0, vr o)] [] (S0, mset h3 o 3 0, 0, 0) _
  generalize eh4 : mset h3 o 3 0 = h4
  refine bw_aload_n (j := 0) (M := M_bX4_clear) (pc := 22) dX4_clear_22 rfl rfl ?_
  refine bw_iconst (M := M_bX4_clear) (pc := 23) dX4_clear_23 ⟨by decide, by decide⟩ ?_
  refine bw_puti (a := o) (x := 1) clk_4 (M := M_bX4_clear) (pc := 24) dX4_clear_24 ho (k := 4) (by decide) fl_X4_41 rfl rfl rfl ?_
  show BW M_bX4_clear 27 [(0, vr o)] [] (S0, mset h4 o 4 1, 0, 0) _
  generalize eh5 : mset h4 o 4 1 = h5
  refine bw_aload_n (j := 0) (M := M_bX4_clear) (pc := 27) dX4_clear_27 rfl rfl ?_
  refine bw_iconst (M := M_bX4_clear) (pc := 28) dX4_clear_28 ⟨by decide, by decide⟩ ?_
  refine bw_puti (a := o) (x := 0) clk_4 (M := M_bX4_clear) (pc := 29) dX4_clear_29 ho (k := 5) (by decide) fl_X4_44 rfl rfl rfl ?_
  show BW M_bX4_clear 32 [(0, vr o)] [] (S0, mset h5 o 5 0, 0, 0) _
  generalize eh6 : mset h5 o 5 0 = h6
  refine bw_aload_n (j := 0) (M := M_bX4_clear) (pc := 32) dX4_clear_32 rfl rfl ?_
  refine bw_iconst (M := M_bX4_clear) (pc := 33) dX4_clear_33 ⟨by decide, by decide⟩ ?_
  refine bw_puti (a := o) (x := 0) clk_4 (M := M_bX4_clear) (pc := 34) dX4_clear_34 ho (k := 6) (by decide) fl_X4_47 rfl rfl rfl ?_
  show BW M_bX4_clear 37 [(0, vr o)] [] (S0, mset h6 o 6 0, 0, 0) _
  generalize eh7 : mset h6 o 6 0 = h7
  refine bw_aload_n (j := 0) (M := M_bX4_clear) (pc := 37) dX4_clear_37 rfl rfl ?_
  refine bw_gf4 (a := o) (q := 1) clk_4 (M := M_bX4_clear) (pc := 38) dX4_clear_38 ho (k := 7) (by decide) fl_X4_12 rfl (show h7 o 7 = 1 from by rw [← eh7, mset_o (by omega), ← eh6, mset_o (by omega), ← eh5, mset_o (by omega), ← eh4, mset_o (by omega), ← eh3, mset_o (by omega), ← eh2, mset_o (by omega), ← eh1, mset_o (by omega)]; exact h7_) ?_
  show BW M_bX4_clear 41 [(0, vr o)] [vr (o + 1)] (S0, h7, 0, 0) _
  refine bw_iconst (M := M_bX4_clear) (pc := 41) dX4_clear_41 ⟨by decide, by decide⟩ ?_
  refine bw_puti (a := o + 1) (x := 0) clk_9 (M := M_bX4_clear) (pc := 42) dX4_clear_42 (ly_4_1 ho) (k := 0) (by decide) fl_X4_50 rfl rfl rfl ?_
  show BW M_bX4_clear 45 [(0, vr o)] [] (S0, mset h7 (o + 1) 0 0, 0, 0) _
  generalize eh8 : mset h7 (o + 1) 0 0 = h8
  refine bw_aload_n (j := 0) (M := M_bX4_clear) (pc := 45) dX4_clear_45 rfl rfl ?_
  refine bw_gf4 (a := o) (q := 10) clk_4 (M := M_bX4_clear) (pc := 46) dX4_clear_46 ho (k := 8) (by decide) fl_X4_21 rfl (show h8 o 8 = 1 from by rw [← eh8, mset_o (by omega), ← eh7, mset_o (by omega), ← eh6, mset_o (by omega), ← eh5, mset_o (by omega), ← eh4, mset_o (by omega), ← eh3, mset_o (by omega), ← eh2, mset_o (by omega), ← eh1, mset_o (by omega)]; exact h8_) ?_
  show BW M_bX4_clear 49 [(0, vr o)] [vr (o + 10)] (S0, h8, 0, 0) _
  refine bw_iconst (M := M_bX4_clear) (pc := 49) dX4_clear_49 ⟨by decide, by decide⟩ ?_
  refine bw_puti (a := o + 10) (x := 0) clk_7 (M := M_bX4_clear) (pc := 50) dX4_clear_50 (ly_4_10 ho) (k := 0) (by decide) fl_X4_53 rfl rfl rfl ?_
  show BW M_bX4_clear 53 [(0, vr o)] [] (S0, mset h8 (o + 10) 0 0, 0, 0) _
  generalize eh9 : mset h8 (o + 10) 0 0 = h9
  refine bw_ret (M := M_bX4_clear) (pc := 53) dX4_clear_53 rfl ?_
  refine ⟨rfl, rfl, fun i k c1 c2 c3 => ?_, fun i fl => ?_, ?_⟩
  · show h9 i k = h0 i k
    rw [← eh9, mset_o (by omega), ← eh8, mset_o (by omega), ← eh7, mset_o (by omega), ← eh6, mset_o (by omega), ← eh5, mset_o (by omega), ← eh4, mset_o (by omega), ← eh3, mset_o (by omega), ← eh2, mset_o (by omega), ← eh1, mset_o (by omega)]
  · show FlagOK h9 i
    have cells : ∀ k, ¬ (i = o ∧ k < 7) → ¬ (i = o + 1 ∧ k = 0) → ¬ (i = o + 10 ∧ k = 0) → h9 i k = h0 i k := fun k c1 c2 c3 => by rw [← eh9, mset_o (by omega), ← eh8, mset_o (by omega), ← eh7, mset_o (by omega), ← eh6, mset_o (by omega), ← eh5, mset_o (by omega), ← eh4, mset_o (by omega), ← eh3, mset_o (by omega), ← eh2, mset_o (by omega), ← eh1, mset_o (by omega)]
    refine ⟨fun c hc k hk h4 => ?_, fun t n ht h5 k hk => ?_⟩
    · refine (cells k (fun z => ?_) (fun z => ?_) (fun z => ?_)).trans (fl.1 c hc k hk h4)
      · rw [z.1, ho] at hc; cases hc; rcases (show k = 0 ∨ k = 1 ∨ k = 2 ∨ k = 3 ∨ k = 4 ∨ k = 5 ∨ k = 6 by omega) with rfl | rfl | rfl | rfl | rfl | rfl | rfl <;> exact absurd h4 (by decide)
      · rw [z.1, ly_4_1 ho] at hc; cases hc; rw [z.2] at h4; exact absurd h4 (by decide)
      · rw [z.1, ly_4_10 ho] at hc; cases hc; rw [z.2] at h4; exact absurd h4 (by decide)
    · refine (cells k (fun z => ?_) (fun z => ?_) (fun z => ?_)).trans (fl.2 t n ht h5 k hk)
      · rw [z.1, ho] at ht; cases ht; omega
      · rw [z.1, ly_4_1 ho] at ht; cases ht; omega
      · rw [z.1, ly_4_10 ho] at ht; cases ht; omega
  · exact ⟨(show h9 o 0 = 8 from by rw [← eh9, mset_o (by omega), ← eh8, mset_o (by omega), ← eh7, mset_o (by omega), ← eh6, mset_o (by omega), ← eh5, mset_o (by omega), ← eh4, mset_o (by omega), ← eh3, mset_o (by omega), ← eh2, mset_o (by omega), ← eh1, mset_at]), (show h9 o 1 = 10 from by rw [← eh9, mset_o (by omega), ← eh8, mset_o (by omega), ← eh7, mset_o (by omega), ← eh6, mset_o (by omega), ← eh5, mset_o (by omega), ← eh4, mset_o (by omega), ← eh3, mset_o (by omega), ← eh2, mset_at]), (show h9 o 2 = 4 from by rw [← eh9, mset_o (by omega), ← eh8, mset_o (by omega), ← eh7, mset_o (by omega), ← eh6, mset_o (by omega), ← eh5, mset_o (by omega), ← eh4, mset_o (by omega), ← eh3, mset_at]), (show h9 o 3 = 0 from by rw [← eh9, mset_o (by omega), ← eh8, mset_o (by omega), ← eh7, mset_o (by omega), ← eh6, mset_o (by omega), ← eh5, mset_o (by omega), ← eh4, mset_at]), (show h9 o 4 = 1 from by rw [← eh9, mset_o (by omega), ← eh8, mset_o (by omega), ← eh7, mset_o (by omega), ← eh6, mset_o (by omega), ← eh5, mset_at]), (show h9 o 5 = 0 from by rw [← eh9, mset_o (by omega), ← eh8, mset_o (by omega), ← eh7, mset_o (by omega), ← eh6, mset_at]), (show h9 o 6 = 0 from by rw [← eh9, mset_o (by omega), ← eh8, mset_o (by omega), ← eh7, mset_at]), (show h9 (o + 1) 0 = 0 from by rw [← eh9, mset_o (by omega), ← eh8, mset_at]), (show h9 (o + 10) 0 = 0 from by rw [← eh9, mset_at])⟩
abbrev M_X4_init : Hd := (cX4_init, 1, RX4, none, (2, 65), sc1)
set_option maxRecDepth 100000 in
set_option maxHeartbeats 4000000 in
theorem bc_X4_init {o : Nat} {S0 : List Nat} {h0 : Mem} (ho : lay o = (0, 4)) (fr : ∀ i, o < i → i < o + 15 → i ∉ S0) : BCt yX4_init cX4_init 1 none (2, 65) [vr o] (S0, h0, 14, 94) (CP o 15 S0 h0 (fun u => u o 0 = 8 ∧ u o 1 = 10 ∧ u o 2 = 4 ∧ u o 3 = 0 ∧ u o 4 = 1 ∧ u o 5 = 0 ∧ u o 6 = 0 ∧ u (o + 1) 0 = 0 ∧ u (o + 10) 0 = 0)) := by
  refine BCt.of (Or.inr ⟨rfl, rfl⟩) np_RX4 (Nat.le_of_ble_eq_true rfl) ?_
  show BW M_X4_init 0 [(0, vr o)] [] (S0, h0, 14, 94) _
  refine bw_aload_n (j := 0) (M := M_X4_init) (pc := 0) dX4_init_0 rfl rfl ?_
  refine bw_objInit (st := []) (M := M_X4_init) (pc := 1) dX4_init_1 ml_X4_3 ⟨Nat.le_of_ble_eq_true rfl, Nat.le_of_ble_eq_true rfl⟩ (by decide) ?_
  refine bw_aload_n (j := 0) (M := M_X4_init) (pc := 4) dX4_init_4 rfl rfl ?_
  refine bw_new (n0 := o + 1) clk_9 (M := M_X4_init) (pc := 5) dX4_init_5 cll_X4_9 ins_X9 ini_X9 (ly_4_1 ho) (fr _ (by omega) (by omega)) dv_9 ⟨Nat.le_of_ble_eq_true rfl, Nat.le_of_ble_eq_true rfl⟩ ?_
  show BW M_X4_init 8 [(0, vr o)] [vr (o + 1), vr o] (S0 ++ [o + 1], mz h0 (o + 1), 13, 85) _
  generalize eh1 : mz h0 (o + 1) = h1
  generalize eS1 : S0 ++ [o + 1] = S1
  have m1 : ∀ i, i ∈ S1 ↔ i ∈ S0 ∨ i = o + 1 := fun i => by rw [← eS1, List.mem_append, List.mem_singleton]
  refine bw_dup (M := M_X4_init) (pc := 8) dX4_init_8 rfl ?_
  refine bw_callIN (as := []) (st := [vr (o + 1), vr o]) (mc := 8) (ms := 64) (M := M_X4_init) (pc := 9) (bc_X9_init (ly_4_1 ho) (fun i i1 i2 => (fun z => by rw [m1] at z; rcases z with z | z <;> first | exact fr _ (by omega) (by omega) z | omega))) dX4_init_9 rfl cyi_X9_init nst_X4_11 (by decide) (by decide) (Nat.le_of_ble_eq_true rfl) ⟨Nat.le_of_ble_eq_true rfl, Nat.le_of_ble_eq_true rfl⟩ (fun rv b1 q _ => ?_)
  obtain ⟨S2, h2, x1, x2⟩ := b1
  obtain ⟨rfl, m2, f2, g2, p2⟩ := q
  have m2 : ∀ i, i ∈ S2 ↔ i ∈ S1 ∨ (o + 1 < i ∧ i < o + 1 + 9) := m2
  have f2 : ∀ i, ¬ (o + 1 ≤ i ∧ i < o + 1 + 9) → ∀ k, h2 i k = h1 i k := f2
  have g2 : ∀ i, o + 1 ≤ i → i < o + 1 + 9 → FlagOK h2 i := g2
  show BW M_X4_init 12 [(0, vr o)] [vr (o + 1), vr o] (S2, h2, 5, 21) _
  refine bw_putF (a := o) (b := o + 1) (q := 1) (M := M_X4_init) (pc := 12) clk_4 rfl dX4_init_12 ho (k := 7) (by decide) fl_X4_12 rfl rfl (fun a => rfl) (fun a => rfl) rfl rfl ?_
  show BW M_X4_init 15 [(0, vr o)] [] (S2, mset h2 o 7 1, 5, 21) _
  generalize eh3 : mset h2 o 7 1 = h3
  refine bw_aload_n (j := 0) (M := M_X4_init) (pc := 15) dX4_init_15 rfl rfl ?_
  refine bw_new (n0 := o + 10) clk_7 (M := M_X4_init) (pc := 16) dX4_init_16 cll_X4_18 ins_X7 ini_X7 (ly_4_10 ho) (fun z => by rw [m2, m1] at z; rcases z with (z | z) | z <;> first | exact fr _ (by omega) (by omega) z | omega) dv_7 ⟨Nat.le_of_ble_eq_true rfl, Nat.le_of_ble_eq_true rfl⟩ ?_
  show BW M_X4_init 19 [(0, vr o)] [vr (o + 10), vr o] (S2 ++ [o + 10], mz h3 (o + 10), 4, 16) _
  generalize eh4 : mz h3 (o + 10) = h4
  generalize eS3 : S2 ++ [o + 10] = S3
  have m3 : ∀ i, i ∈ S3 ↔ i ∈ S2 ∨ i = o + 10 := fun i => by rw [← eS3, List.mem_append, List.mem_singleton]
  refine bw_dup (M := M_X4_init) (pc := 19) dX4_init_19 rfl ?_
  refine bw_callIN (as := []) (st := [vr (o + 10), vr o]) (mc := 4) (ms := 16) (M := M_X4_init) (pc := 20) (bc_X7_init (ly_4_10 ho) (fun i i1 i2 => (fun z => by rw [m3, m2, m1] at z; rcases z with ((z | z) | z) | z <;> first | exact fr _ (by omega) (by omega) z | omega))) dX4_init_20 rfl cyi_X7_init nst_X4_20 (by decide) (by decide) (Nat.le_of_ble_eq_true rfl) ⟨Nat.le_of_ble_eq_true rfl, Nat.le_of_ble_eq_true rfl⟩ (fun rv b1 q _ => ?_)
  obtain ⟨S4, h5, x1, x2⟩ := b1
  obtain ⟨rfl, m4, f5, g5, p5⟩ := q
  have m4 : ∀ i, i ∈ S4 ↔ i ∈ S3 ∨ (o + 10 < i ∧ i < o + 10 + 5) := m4
  have f5 : ∀ i, ¬ (o + 10 ≤ i ∧ i < o + 10 + 5) → ∀ k, h5 i k = h4 i k := f5
  have g5 : ∀ i, o + 10 ≤ i → i < o + 10 + 5 → FlagOK h5 i := g5
  show BW M_X4_init 23 [(0, vr o)] [vr (o + 10), vr o] (S4, h5, 0, 0) _
  refine bw_putF (a := o) (b := o + 10) (q := 10) (M := M_X4_init) (pc := 23) clk_4 rfl dX4_init_23 ho (k := 8) (by decide) fl_X4_21 rfl rfl (fun a => rfl) (fun a => rfl) rfl rfl ?_
  show BW M_X4_init 26 [(0, vr o)] [] (S4, mset h5 o 8 1, 0, 0) _
  generalize eh6 : mset h5 o 8 1 = h6
  refine bw_aload_n (j := 0) (M := M_X4_init) (pc := 26) dX4_init_26 rfl rfl ?_
  refine bw_callV (as := []) (st := []) (mc := 0) (ms := 0) (M := M_X4_init) (pc := 27) (bm_X4_clear (S := S4) (h := h6) ho (show h6 o 7 = 1 from by rw [← eh6, mset_o (by omega), f5 o (by omega) 7, ← eh4, mz_o (by omega), ← eh3, mset_at]) (show h6 o 8 = 1 from by rw [← eh6, mset_at])) dX4_init_27 rfl (Or.inl ⟨_, _, _, ho, rfl⟩) cy_X4_clear ml_X4_25 (by decide) (by decide) (Nat.le_of_ble_eq_true rfl) ⟨Nat.zero_le _, Nat.zero_le _⟩ (fun rv b1 q _ => ?_)
  obtain ⟨Sx, h7, x1, x2⟩ := b1
  obtain ⟨rfl, eSx, f7, gc7, p7⟩ := q
  have eSx : S4 = Sx := eSx.symm
  subst eSx
  obtain ⟨pp7_0, pp7_1, pp7_2, pp7_3, pp7_4, pp7_5, pp7_6, pp7_7, pp7_8⟩ := p7
  have pp7_0 : h7 o 0 = 8 := pp7_0
  have pp7_1 : h7 o 1 = 10 := pp7_1
  have pp7_2 : h7 o 2 = 4 := pp7_2
  have pp7_3 : h7 o 3 = 0 := pp7_3
  have pp7_4 : h7 o 4 = 1 := pp7_4
  have pp7_5 : h7 o 5 = 0 := pp7_5
  have pp7_6 : h7 o 6 = 0 := pp7_6
  have pp7_7 : h7 (o + 1) 0 = 0 := pp7_7
  have pp7_8 : h7 (o + 10) 0 = 0 := pp7_8
  have f7 : ∀ i k, ¬ (i = o ∧ k < 7) → ¬ (i = o + 1 ∧ k = 0) → ¬ (i = o + 10 ∧ k = 0) → h7 i k = h6 i k := f7
  have gc7 : ∀ i, FlagOK h6 i → FlagOK h7 i := gc7
  show BW M_X4_init 30 [(0, vr o)] [] (S4, h7, 0, 0) _
  refine bw_ret (M := M_X4_init) (pc := 30) dX4_init_30 rfl ?_
  refine ⟨rfl, fun i => ?_, fun i hi k => ?_, fun i i1 i2 => ?_, ?_⟩
  · show i ∈ S4 ↔ i ∈ S0 ∨ (o < i ∧ i < o + 15)
    rw [m4, m3, m2, m1]
    by_cases z : i ∈ S0
    · simp [z]
    · simp only [z, false_or]; omega
  · show h7 i k = h0 i k
    rw [f7 i k (by omega) (by omega) (by omega), ← eh6, mset_o (by omega), f5 i (by omega) k, ← eh4, mz_o (by omega), ← eh3, mset_o (by omega), f2 i (by omega) k, ← eh1, mz_o (by omega)]
  · show FlagOK h7 i
    rcases (show i = o ∨ (o + 1 ≤ i ∧ i < o + 1 + 9) ∨ (o + 10 ≤ i ∧ i < o + 10 + 5) by omega) with y | y | y
    · rw [y]
      refine flag_ob ho (fun k hk h4 => ?_)
      have hk : k < 9 := hk
      rcases (show k = 0 ∨ k = 1 ∨ k = 2 ∨ k = 3 ∨ k = 4 ∨ k = 5 ∨ k = 6 ∨ k = 7 ∨ k = 8 by omega) with rfl | rfl | rfl | rfl | rfl | rfl | rfl | rfl | rfl
      · exact absurd h4 (by decide)
      · exact absurd h4 (by decide)
      · exact absurd h4 (by decide)
      · exact absurd h4 (by decide)
      · exact absurd h4 (by decide)
      · exact absurd h4 (by decide)
      · exact absurd h4 (by decide)
      · exact (show h7 o 7 = 1 from by rw [f7 o 7 (by omega) (by omega) (by omega), ← eh6, mset_o (by omega), f5 o (by omega) 7, ← eh4, mz_o (by omega), ← eh3, mset_at])
      · exact (show h7 o 8 = 1 from by rw [f7 o 8 (by omega) (by omega) (by omega), ← eh6, mset_at])
    · exact gc7 i ((g2 i (by omega) (by omega)).fr (fun k => by rw [← eh6, mset_o (by omega), f5 i (by omega) k, ← eh4, mz_o (by omega), ← eh3, mset_o (by omega)]))
    · exact gc7 i ((g5 i (by omega) (by omega)).fr (fun k => by rw [← eh6, mset_o (by omega)]))
  · exact ⟨(show h7 o 0 = 8 from pp7_0), (show h7 o 1 = 10 from pp7_1), (show h7 o 2 = 4 from pp7_2), (show h7 o 3 = 0 from pp7_3), (show h7 o 4 = 1 from pp7_4), (show h7 o 5 = 0 from pp7_5), (show h7 o 6 = 0 from pp7_6), (show h7 (o + 1) 0 = 0 from pp7_7), (show h7 (o + 10) 0 = 0 from pp7_8)⟩
abbrev M_X1_init : Hd := (cX1_init, 1, RX1, none, (1, 45), sc1)
set_option maxRecDepth 100000 in
set_option maxHeartbeats 4000000 in
theorem bc_X1_init {o : Nat} {S0 : List Nat} {h0 : Mem} (ho : lay o = (0, 1)) (fr : ∀ i, o < i → i < o + 6 → i ∉ S0) : BCt yX1_init cX1_init 1 none (1, 45) [vr o] (S0, h0, 5, 300) (CP o 6 S0 h0 (fun u => u o 0 = 0 ∧ u o 1 = 0 ∧ u o 2 = 0)) := by
  refine BCt.of (Or.inr ⟨rfl, rfl⟩) np_RX1 (Nat.le_of_ble_eq_true rfl) ?_
  show BW M_X1_init 0 [(0, vr o)] [] (S0, h0, 5, 300) _
  refine bw_aload_n (j := 0) (M := M_X1_init) (pc := 0) dX1_init_0 rfl rfl ?_
  refine bw_objInit (st := []) (M := M_X1_init) (pc := 1) dX1_init_1 ml_X1_1 ⟨Nat.le_of_ble_eq_true rfl, Nat.le_of_ble_eq_true rfl⟩ (by decide) ?_
  refine bw_aload_n (j := 0) (M := M_X1_init) (pc := 4) dX1_init_4 rfl rfl ?_
  refine bw_iconst (M := M_X1_init) (pc := 5) dX1_init_5 ⟨by decide, by decide⟩ ?_
  refine bw_putz (a := o) (x := 0) clk_1 (M := M_X1_init) (pc := 6) dX1_init_6 ho (k := 0) (by decide) fl_X1_7 rfl rfl rfl (Or.inl rfl) ?_
  show BW M_X1_init 9 [(0, vr o)] [] (S0, mset h0 o 0 0, 5, 300) _
  generalize eh1 : mset h0 o 0 0 = h1
  refine bw_aload_n (j := 0) (M := M_X1_init) (pc := 9) dX1_init_9 rfl rfl ?_
  refine bw_iconst (M := M_X1_init) (pc := 10) dX1_init_10 ⟨by decide, by decide⟩ ?_
  refine bw_puti (a := o) (x := 0) clk_1 (M := M_X1_init) (pc := 11) dX1_init_11 ho (k := 1) (by decide) fl_X1_13 rfl rfl rfl ?_
  show BW M_X1_init 14 [(0, vr o)] [] (S0, mset h1 o 1 0, 5, 300) _
  generalize eh2 : mset h1 o 1 0 = h2
  refine bw_aload_n (j := 0) (M := M_X1_init) (pc := 14) dX1_init_14 rfl rfl ?_
  refine bw_iconst (M := M_X1_init) (pc := 15) dX1_init_15 ⟨by decide, by decide⟩ ?_
  refine bw_puti (a := o) (x := 0) clk_1 (M := M_X1_init) (pc := 16) dX1_init_16 ho (k := 2) (by decide) fl_X1_17 rfl rfl rfl ?_
  show BW M_X1_init 19 [(0, vr o)] [] (S0, mset h2 o 2 0, 5, 300) _
  generalize eh3 : mset h2 o 2 0 = h3
  refine bw_aload_n (j := 0) (M := M_X1_init) (pc := 19) dX1_init_19 rfl rfl ?_
  refine bw_bipush (M := M_X1_init) (pc := 20) dX1_init_20 ⟨rfl, ⟨by decide, by decide⟩⟩ ?_
  refine bw_newi (n := 60) (n0 := o + 1) (M := M_X1_init) (pc := 22) dX1_init_22 ac_int (ly_1_1 ho) rfl (fr _ (by omega) (by omega)) ⟨Nat.le_of_ble_eq_true rfl, Nat.le_of_ble_eq_true rfl⟩ (Nat.le_of_ble_eq_true rfl) ?_
  show BW M_X1_init 24 [(0, vr o)] [vr (o + 1), vr o] (S0 ++ [o + 1], mz h3 (o + 1), 4, 240) _
  generalize eh4 : mz h3 (o + 1) = h4
  generalize eS1 : S0 ++ [o + 1] = S1
  have m1 : ∀ i, i ∈ S1 ↔ i ∈ S0 ∨ i = o + 1 := fun i => by rw [← eS1, List.mem_append, List.mem_singleton]
  refine bw_putF (a := o) (b := o + 1) (q := 1) (M := M_X1_init) (pc := 24) clk_1 rfl dX1_init_24 ho (k := 3) (by decide) fl_X1_20 rfl rfl (fun a => rfl) (fun a => rfl) rfl rfl ?_
  show BW M_X1_init 27 [(0, vr o)] [] (S1, mset h4 o 3 1, 4, 240) _
  generalize eh5 : mset h4 o 3 1 = h5
  refine bw_aload_n (j := 0) (M := M_X1_init) (pc := 27) dX1_init_27 rfl rfl ?_
  refine bw_bipush (M := M_X1_init) (pc := 28) dX1_init_28 ⟨rfl, ⟨by decide, by decide⟩⟩ ?_
  refine bw_newi (n := 60) (n0 := o + 2) (M := M_X1_init) (pc := 30) dX1_init_30 ac_int (ly_1_2 ho) rfl (fun z => by rw [m1] at z; rcases z with z | z <;> first | exact fr _ (by omega) (by omega) z | omega) ⟨Nat.le_of_ble_eq_true rfl, Nat.le_of_ble_eq_true rfl⟩ (Nat.le_of_ble_eq_true rfl) ?_
  show BW M_X1_init 32 [(0, vr o)] [vr (o + 2), vr o] (S1 ++ [o + 2], mz h5 (o + 2), 3, 180) _
  generalize eh6 : mz h5 (o + 2) = h6
  generalize eS2 : S1 ++ [o + 2] = S2
  have m2 : ∀ i, i ∈ S2 ↔ i ∈ S1 ∨ i = o + 2 := fun i => by rw [← eS2, List.mem_append, List.mem_singleton]
  refine bw_putF (a := o) (b := o + 2) (q := 2) (M := M_X1_init) (pc := 32) clk_1 rfl dX1_init_32 ho (k := 4) (by decide) fl_X1_24 rfl rfl (fun a => rfl) (fun a => rfl) rfl rfl ?_
  show BW M_X1_init 35 [(0, vr o)] [] (S2, mset h6 o 4 1, 3, 180) _
  generalize eh7 : mset h6 o 4 1 = h7
  refine bw_aload_n (j := 0) (M := M_X1_init) (pc := 35) dX1_init_35 rfl rfl ?_
  refine bw_bipush (M := M_X1_init) (pc := 36) dX1_init_36 ⟨rfl, ⟨by decide, by decide⟩⟩ ?_
  refine bw_newi (n := 60) (n0 := o + 3) (M := M_X1_init) (pc := 38) dX1_init_38 ac_int (ly_1_3 ho) rfl (fun z => by rw [m2, m1] at z; rcases z with (z | z) | z <;> first | exact fr _ (by omega) (by omega) z | omega) ⟨Nat.le_of_ble_eq_true rfl, Nat.le_of_ble_eq_true rfl⟩ (Nat.le_of_ble_eq_true rfl) ?_
  show BW M_X1_init 40 [(0, vr o)] [vr (o + 3), vr o] (S2 ++ [o + 3], mz h7 (o + 3), 2, 120) _
  generalize eh8 : mz h7 (o + 3) = h8
  generalize eS3 : S2 ++ [o + 3] = S3
  have m3 : ∀ i, i ∈ S3 ↔ i ∈ S2 ∨ i = o + 3 := fun i => by rw [← eS3, List.mem_append, List.mem_singleton]
  refine bw_putF (a := o) (b := o + 3) (q := 3) (M := M_X1_init) (pc := 40) clk_1 rfl dX1_init_40 ho (k := 5) (by decide) fl_X1_27 rfl rfl (fun a => rfl) (fun a => rfl) rfl rfl ?_
  show BW M_X1_init 43 [(0, vr o)] [] (S3, mset h8 o 5 1, 2, 120) _
  generalize eh9 : mset h8 o 5 1 = h9
  refine bw_aload_n (j := 0) (M := M_X1_init) (pc := 43) dX1_init_43 rfl rfl ?_
  refine bw_bipush (M := M_X1_init) (pc := 44) dX1_init_44 ⟨rfl, ⟨by decide, by decide⟩⟩ ?_
  refine bw_newi (n := 60) (n0 := o + 4) (M := M_X1_init) (pc := 46) dX1_init_46 ac_int (ly_1_4 ho) rfl (fun z => by rw [m3, m2, m1] at z; rcases z with ((z | z) | z) | z <;> first | exact fr _ (by omega) (by omega) z | omega) ⟨Nat.le_of_ble_eq_true rfl, Nat.le_of_ble_eq_true rfl⟩ (Nat.le_of_ble_eq_true rfl) ?_
  show BW M_X1_init 48 [(0, vr o)] [vr (o + 4), vr o] (S3 ++ [o + 4], mz h9 (o + 4), 1, 60) _
  generalize eh10 : mz h9 (o + 4) = h10
  generalize eS4 : S3 ++ [o + 4] = S4
  have m4 : ∀ i, i ∈ S4 ↔ i ∈ S3 ∨ i = o + 4 := fun i => by rw [← eS4, List.mem_append, List.mem_singleton]
  refine bw_putF (a := o) (b := o + 4) (q := 4) (M := M_X1_init) (pc := 48) clk_1 rfl dX1_init_48 ho (k := 6) (by decide) fl_X1_30 rfl rfl (fun a => rfl) (fun a => rfl) rfl rfl ?_
  show BW M_X1_init 51 [(0, vr o)] [] (S4, mset h10 o 6 1, 1, 60) _
  generalize eh11 : mset h10 o 6 1 = h11
  refine bw_aload_n (j := 0) (M := M_X1_init) (pc := 51) dX1_init_51 rfl rfl ?_
  refine bw_bipush (M := M_X1_init) (pc := 52) dX1_init_52 ⟨rfl, ⟨by decide, by decide⟩⟩ ?_
  refine bw_newi (n := 60) (n0 := o + 5) (M := M_X1_init) (pc := 54) dX1_init_54 ac_int (ly_1_5 ho) rfl (fun z => by rw [m4, m3, m2, m1] at z; rcases z with (((z | z) | z) | z) | z <;> first | exact fr _ (by omega) (by omega) z | omega) ⟨Nat.le_of_ble_eq_true rfl, Nat.le_of_ble_eq_true rfl⟩ (Nat.le_of_ble_eq_true rfl) ?_
  show BW M_X1_init 56 [(0, vr o)] [vr (o + 5), vr o] (S4 ++ [o + 5], mz h11 (o + 5), 0, 0) _
  generalize eh12 : mz h11 (o + 5) = h12
  generalize eS5 : S4 ++ [o + 5] = S5
  have m5 : ∀ i, i ∈ S5 ↔ i ∈ S4 ∨ i = o + 5 := fun i => by rw [← eS5, List.mem_append, List.mem_singleton]
  refine bw_putF (a := o) (b := o + 5) (q := 5) (M := M_X1_init) (pc := 56) clk_1 rfl dX1_init_56 ho (k := 7) (by decide) fl_X1_33 rfl rfl (fun a => rfl) (fun a => rfl) rfl rfl ?_
  show BW M_X1_init 59 [(0, vr o)] [] (S5, mset h12 o 7 1, 0, 0) _
  generalize eh13 : mset h12 o 7 1 = h13
  refine bw_ret (M := M_X1_init) (pc := 59) dX1_init_59 rfl ?_
  refine ⟨rfl, fun i => ?_, fun i hi k => ?_, fun i i1 i2 => ?_, ?_⟩
  · show i ∈ S5 ↔ i ∈ S0 ∨ (o < i ∧ i < o + 6)
    rw [m5, m4, m3, m2, m1]
    by_cases z : i ∈ S0
    · simp [z]
    · simp only [z, false_or]; omega
  · show h13 i k = h0 i k
    rw [← eh13, mset_o (by omega), ← eh12, mz_o (by omega), ← eh11, mset_o (by omega), ← eh10, mz_o (by omega), ← eh9, mset_o (by omega), ← eh8, mz_o (by omega), ← eh7, mset_o (by omega), ← eh6, mz_o (by omega), ← eh5, mset_o (by omega), ← eh4, mz_o (by omega), ← eh3, mset_o (by omega), ← eh2, mset_o (by omega), ← eh1, mset_o (by omega)]
  · show FlagOK h13 i
    rcases (show i = o ∨ i = o + 1 ∨ i = o + 2 ∨ i = o + 3 ∨ i = o + 4 ∨ i = o + 5 by omega) with y | y | y | y | y | y
    · rw [y]
      refine flag_ob ho (fun k hk h4 => ?_)
      have hk : k < 8 := hk
      rcases (show k = 0 ∨ k = 1 ∨ k = 2 ∨ k = 3 ∨ k = 4 ∨ k = 5 ∨ k = 6 ∨ k = 7 by omega) with rfl | rfl | rfl | rfl | rfl | rfl | rfl | rfl
      · exact absurd h4 (by decide)
      · exact absurd h4 (by decide)
      · exact absurd h4 (by decide)
      · exact (show h13 o 3 = 1 from by rw [← eh13, mset_o (by omega), ← eh12, mz_o (by omega), ← eh11, mset_o (by omega), ← eh10, mz_o (by omega), ← eh9, mset_o (by omega), ← eh8, mz_o (by omega), ← eh7, mset_o (by omega), ← eh6, mz_o (by omega), ← eh5, mset_at])
      · exact (show h13 o 4 = 1 from by rw [← eh13, mset_o (by omega), ← eh12, mz_o (by omega), ← eh11, mset_o (by omega), ← eh10, mz_o (by omega), ← eh9, mset_o (by omega), ← eh8, mz_o (by omega), ← eh7, mset_at])
      · exact (show h13 o 5 = 1 from by rw [← eh13, mset_o (by omega), ← eh12, mz_o (by omega), ← eh11, mset_o (by omega), ← eh10, mz_o (by omega), ← eh9, mset_at])
      · exact (show h13 o 6 = 1 from by rw [← eh13, mset_o (by omega), ← eh12, mz_o (by omega), ← eh11, mset_at])
      · exact (show h13 o 7 = 1 from by rw [← eh13, mset_at])
    · rw [y]; exact flag_arr (ly_1_1 ho) (by omega)
    · rw [y]; exact flag_arr (ly_1_2 ho) (by omega)
    · rw [y]; exact flag_arr (ly_1_3 ho) (by omega)
    · rw [y]; exact flag_arr (ly_1_4 ho) (by omega)
    · rw [y]; exact flag_arr (ly_1_5 ho) (by omega)
  · exact ⟨(show h13 o 0 = 0 from by rw [← eh13, mset_o (by omega), ← eh12, mz_o (by omega), ← eh11, mset_o (by omega), ← eh10, mz_o (by omega), ← eh9, mset_o (by omega), ← eh8, mz_o (by omega), ← eh7, mset_o (by omega), ← eh6, mz_o (by omega), ← eh5, mset_o (by omega), ← eh4, mz_o (by omega), ← eh3, mset_o (by omega), ← eh2, mset_o (by omega), ← eh1, mset_at]), (show h13 o 1 = 0 from by rw [← eh13, mset_o (by omega), ← eh12, mz_o (by omega), ← eh11, mset_o (by omega), ← eh10, mz_o (by omega), ← eh9, mset_o (by omega), ← eh8, mz_o (by omega), ← eh7, mset_o (by omega), ← eh6, mz_o (by omega), ← eh5, mset_o (by omega), ← eh4, mz_o (by omega), ← eh3, mset_o (by omega), ← eh2, mset_at]), (show h13 o 2 = 0 from by rw [← eh13, mset_o (by omega), ← eh12, mz_o (by omega), ← eh11, mset_o (by omega), ← eh10, mz_o (by omega), ← eh9, mset_o (by omega), ← eh8, mz_o (by omega), ← eh7, mset_o (by omega), ← eh6, mz_o (by omega), ← eh5, mset_o (by omega), ← eh4, mz_o (by omega), ← eh3, mset_at])⟩
abbrev M_X2_init : Hd := (cX2_init, 1, RX2, none, (2, 65), sc1)
set_option maxRecDepth 100000 in
set_option maxHeartbeats 4000000 in
theorem bc_X2_init {o : Nat} {S0 : List Nat} {h0 : Mem} (ho : lay o = (0, 2)) (fr : ∀ i, o < i → i < o + 8 → i ∉ S0) : BCt yX2_init cX2_init 1 none (2, 65) [vr o] (S0, h0, 7, 311) (CP o 8 S0 h0 (fun u => True)) := by
  refine BCt.of (Or.inr ⟨rfl, rfl⟩) np_RX2 (Nat.le_of_ble_eq_true rfl) ?_
  show BW M_X2_init 0 [(0, vr o)] [] (S0, h0, 7, 311) _
  refine bw_aload_n (j := 0) (M := M_X2_init) (pc := 0) dX2_init_0 rfl rfl ?_
  refine bw_objInit (st := []) (M := M_X2_init) (pc := 1) dX2_init_1 ml_X2_3 ⟨Nat.le_of_ble_eq_true rfl, Nat.le_of_ble_eq_true rfl⟩ (by decide) ?_
  refine bw_aload_n (j := 0) (M := M_X2_init) (pc := 4) dX2_init_4 rfl rfl ?_
  refine bw_new (n0 := o + 1) clk_1 (M := M_X2_init) (pc := 5) dX2_init_5 cll_X2_9 ins_X1 ini_X1 (ly_2_1 ho) (fr _ (by omega) (by omega)) dv_1 ⟨Nat.le_of_ble_eq_true rfl, Nat.le_of_ble_eq_true rfl⟩ ?_
  show BW M_X2_init 8 [(0, vr o)] [vr (o + 1), vr o] (S0 ++ [o + 1], mz h0 (o + 1), 6, 303) _
  generalize eh1 : mz h0 (o + 1) = h1
  generalize eS1 : S0 ++ [o + 1] = S1
  have m1 : ∀ i, i ∈ S1 ↔ i ∈ S0 ∨ i = o + 1 := fun i => by rw [← eS1, List.mem_append, List.mem_singleton]
  refine bw_dup (M := M_X2_init) (pc := 8) dX2_init_8 rfl ?_
  refine bw_callIN (as := []) (st := [vr (o + 1), vr o]) (mc := 5) (ms := 300) (M := M_X2_init) (pc := 9) (bc_X1_init (ly_2_1 ho) (fun i i1 i2 => (fun z => by rw [m1] at z; rcases z with z | z <;> first | exact fr _ (by omega) (by omega) z | omega))) dX2_init_9 rfl cyi_X1_init nst_X2_11 (by decide) (by decide) (Nat.le_of_ble_eq_true rfl) ⟨Nat.le_of_ble_eq_true rfl, Nat.le_of_ble_eq_true rfl⟩ (fun rv b1 q _ => ?_)
  obtain ⟨S2, h2, x1, x2⟩ := b1
  obtain ⟨rfl, m2, f2, g2, p2⟩ := q
  have m2 : ∀ i, i ∈ S2 ↔ i ∈ S1 ∨ (o + 1 < i ∧ i < o + 1 + 6) := m2
  have f2 : ∀ i, ¬ (o + 1 ≤ i ∧ i < o + 1 + 6) → ∀ k, h2 i k = h1 i k := f2
  have g2 : ∀ i, o + 1 ≤ i → i < o + 1 + 6 → FlagOK h2 i := g2
  obtain ⟨pp2_0, pp2_1, pp2_2⟩ := p2
  have pp2_0 : h2 (o + 1) 0 = 0 := pp2_0
  have pp2_1 : h2 (o + 1) 1 = 0 := pp2_1
  have pp2_2 : h2 (o + 1) 2 = 0 := pp2_2
  show BW M_X2_init 12 [(0, vr o)] [vr (o + 1), vr o] (S2, h2, 1, 3) _
  refine bw_putF (a := o) (b := o + 1) (q := 1) (M := M_X2_init) (pc := 12) clk_2 rfl dX2_init_12 ho (k := 0) (by decide) fl_X2_12 rfl rfl (fun a => rfl) (fun a => rfl) rfl rfl ?_
  show BW M_X2_init 15 [(0, vr o)] [] (S2, mset h2 o 0 1, 1, 3) _
  generalize eh3 : mset h2 o 0 1 = h3
  refine bw_aload_n (j := 0) (M := M_X2_init) (pc := 15) dX2_init_15 rfl rfl ?_
  refine bw_iconst (M := M_X2_init) (pc := 16) dX2_init_16 ⟨by decide, by decide⟩ ?_
  refine bw_newi (n := 3) (n0 := o + 7) (M := M_X2_init) (pc := 17) dX2_init_17 ac_int (ly_2_7 ho) rfl (fun z => by rw [m2, m1] at z; rcases z with (z | z) | z <;> first | exact fr _ (by omega) (by omega) z | omega) ⟨Nat.le_of_ble_eq_true rfl, Nat.le_of_ble_eq_true rfl⟩ (Nat.le_of_ble_eq_true rfl) ?_
  show BW M_X2_init 19 [(0, vr o)] [vr (o + 7), vr o] (S2 ++ [o + 7], mz h3 (o + 7), 0, 0) _
  generalize eh4 : mz h3 (o + 7) = h4
  generalize eS3 : S2 ++ [o + 7] = S3
  have m3 : ∀ i, i ∈ S3 ↔ i ∈ S2 ∨ i = o + 7 := fun i => by rw [← eS3, List.mem_append, List.mem_singleton]
  refine bw_putF (a := o) (b := o + 7) (q := 7) (M := M_X2_init) (pc := 19) clk_2 rfl dX2_init_19 ho (k := 3) (by decide) fl_X2_18 rfl rfl (fun a => rfl) (fun a => rfl) rfl rfl ?_
  show BW M_X2_init 22 [(0, vr o)] [] (S3, mset h4 o 3 1, 0, 0) _
  generalize eh5 : mset h4 o 3 1 = h5
  refine bw_ret (M := M_X2_init) (pc := 22) dX2_init_22 rfl ?_
  refine ⟨rfl, fun i => ?_, fun i hi k => ?_, fun i i1 i2 => ?_, ?_⟩
  · show i ∈ S3 ↔ i ∈ S0 ∨ (o < i ∧ i < o + 8)
    rw [m3, m2, m1]
    by_cases z : i ∈ S0
    · simp [z]
    · simp only [z, false_or]; omega
  · show h5 i k = h0 i k
    rw [← eh5, mset_o (by omega), ← eh4, mz_o (by omega), ← eh3, mset_o (by omega), f2 i (by omega) k, ← eh1, mz_o (by omega)]
  · show FlagOK h5 i
    rcases (show i = o ∨ (o + 1 ≤ i ∧ i < o + 1 + 6) ∨ i = o + 7 by omega) with y | y | y
    · rw [y]
      refine flag_ob ho (fun k hk h4 => ?_)
      have hk : k < 5 := hk
      rcases (show k = 0 ∨ k = 1 ∨ k = 2 ∨ k = 3 ∨ k = 4 by omega) with rfl | rfl | rfl | rfl | rfl
      · exact (show h5 o 0 = 1 from by rw [← eh5, mset_o (by omega), ← eh4, mz_o (by omega), ← eh3, mset_at])
      · exact absurd h4 (by decide)
      · exact absurd h4 (by decide)
      · exact (show h5 o 3 = 1 from by rw [← eh5, mset_at])
      · exact absurd h4 (by decide)
    · exact ((g2 i (by omega) (by omega)).fr (fun k => by rw [← eh5, mset_o (by omega), ← eh4, mz_o (by omega), ← eh3, mset_o (by omega)]))
    · rw [y]; exact flag_arr (ly_2_7 ho) (by omega)
  · exact trivial
abbrev M_X3_init : Hd := (cX3_init, 1, RX3, none, (3, 85), sc1)
set_option maxRecDepth 100000 in
set_option maxHeartbeats 4000000 in
theorem bc_X3_init {o : Nat} {S0 : List Nat} {h0 : Mem} (ho : lay o = (0, 3)) (fr : ∀ i, o < i → i < o + 31 → i ∉ S0) : BCt yX3_init cX3_init 1 none (3, 85) [vr o] (S0, h0, 30, 206) (CP o 31 S0 h0 (fun u => True)) := by
  refine BCt.of (Or.inr ⟨rfl, rfl⟩) np_RX3 (Nat.le_of_ble_eq_true rfl) ?_
  show BW M_X3_init 0 [(0, vr o)] [] (S0, h0, 30, 206) _
  refine bw_aload_n (j := 0) (M := M_X3_init) (pc := 0) dX3_init_0 rfl rfl ?_
  refine bw_objInit (st := []) (M := M_X3_init) (pc := 1) dX3_init_1 ml_X3_3 ⟨Nat.le_of_ble_eq_true rfl, Nat.le_of_ble_eq_true rfl⟩ (by decide) ?_
  refine bw_aload_n (j := 0) (M := M_X3_init) (pc := 4) dX3_init_4 rfl rfl ?_
  refine bw_new (n0 := o + 1) clk_4 (M := M_X3_init) (pc := 5) dX3_init_5 cll_X3_9 ins_X4 ini_X4 (ly_3_1 ho) (fr _ (by omega) (by omega)) dv_4 ⟨Nat.le_of_ble_eq_true rfl, Nat.le_of_ble_eq_true rfl⟩ ?_
  show BW M_X3_init 8 [(0, vr o)] [vr (o + 1), vr o] (S0 ++ [o + 1], mz h0 (o + 1), 29, 197) _
  generalize eh1 : mz h0 (o + 1) = h1
  generalize eS1 : S0 ++ [o + 1] = S1
  have m1 : ∀ i, i ∈ S1 ↔ i ∈ S0 ∨ i = o + 1 := fun i => by rw [← eS1, List.mem_append, List.mem_singleton]
  refine bw_dup (M := M_X3_init) (pc := 8) dX3_init_8 rfl ?_
  refine bw_callI (as := []) (st := [vr (o + 1), vr o]) (mc := 14) (ms := 94) (M := M_X3_init) (pc := 9) (bc_X4_init (ly_3_1 ho) (fun i i1 i2 => (fun z => by rw [m1] at z; rcases z with z | z <;> first | exact fr _ (by omega) (by omega) z | omega))) dX3_init_9 rfl cyi_X4_init ml_X3_11 (by decide) (by decide) (Nat.le_of_ble_eq_true rfl) ⟨Nat.le_of_ble_eq_true rfl, Nat.le_of_ble_eq_true rfl⟩ (fun rv b1 q _ => ?_)
  obtain ⟨S2, h2, x1, x2⟩ := b1
  obtain ⟨rfl, m2, f2, g2, p2⟩ := q
  have m2 : ∀ i, i ∈ S2 ↔ i ∈ S1 ∨ (o + 1 < i ∧ i < o + 1 + 15) := m2
  have f2 : ∀ i, ¬ (o + 1 ≤ i ∧ i < o + 1 + 15) → ∀ k, h2 i k = h1 i k := f2
  have g2 : ∀ i, o + 1 ≤ i → i < o + 1 + 15 → FlagOK h2 i := g2
  obtain ⟨pp2_0, pp2_1, pp2_2, pp2_3, pp2_4, pp2_5, pp2_6, pp2_7, pp2_8⟩ := p2
  have pp2_0 : h2 (o + 1) 0 = 8 := pp2_0
  have pp2_1 : h2 (o + 1) 1 = 10 := pp2_1
  have pp2_2 : h2 (o + 1) 2 = 4 := pp2_2
  have pp2_3 : h2 (o + 1) 3 = 0 := pp2_3
  have pp2_4 : h2 (o + 1) 4 = 1 := pp2_4
  have pp2_5 : h2 (o + 1) 5 = 0 := pp2_5
  have pp2_6 : h2 (o + 1) 6 = 0 := pp2_6
  have pp2_7 : h2 (o + 2) 0 = 0 := pp2_7
  have pp2_8 : h2 (o + 11) 0 = 0 := pp2_8
  show BW M_X3_init 12 [(0, vr o)] [vr (o + 1), vr o] (S2, h2, 15, 103) _
  refine bw_putF (a := o) (b := o + 1) (q := 1) (M := M_X3_init) (pc := 12) clk_3 rfl dX3_init_12 ho (k := 7) (by decide) fl_X3_12 rfl rfl (fun a => rfl) (fun a => rfl) rfl rfl ?_
  show BW M_X3_init 15 [(0, vr o)] [] (S2, mset h2 o 7 1, 15, 103) _
  generalize eh3 : mset h2 o 7 1 = h3
  refine bw_aload_n (j := 0) (M := M_X3_init) (pc := 15) dX3_init_15 rfl rfl ?_
  refine bw_new (n0 := o + 16) clk_4 (M := M_X3_init) (pc := 16) dX3_init_16 cll_X3_9 ins_X4 ini_X4 (ly_3_16 ho) (fun z => by rw [m2, m1] at z; rcases z with (z | z) | z <;> first | exact fr _ (by omega) (by omega) z | omega) dv_4 ⟨Nat.le_of_ble_eq_true rfl, Nat.le_of_ble_eq_true rfl⟩ ?_
  show BW M_X3_init 19 [(0, vr o)] [vr (o + 16), vr o] (S2 ++ [o + 16], mz h3 (o + 16), 14, 94) _
  generalize eh4 : mz h3 (o + 16) = h4
  generalize eS3 : S2 ++ [o + 16] = S3
  have m3 : ∀ i, i ∈ S3 ↔ i ∈ S2 ∨ i = o + 16 := fun i => by rw [← eS3, List.mem_append, List.mem_singleton]
  refine bw_dup (M := M_X3_init) (pc := 19) dX3_init_19 rfl ?_
  refine bw_callI (as := []) (st := [vr (o + 16), vr o]) (mc := 14) (ms := 94) (M := M_X3_init) (pc := 20) (bc_X4_init (ly_3_16 ho) (fun i i1 i2 => (fun z => by rw [m3, m2, m1] at z; rcases z with ((z | z) | z) | z <;> first | exact fr _ (by omega) (by omega) z | omega))) dX3_init_20 rfl cyi_X4_init ml_X3_11 (by decide) (by decide) (Nat.le_of_ble_eq_true rfl) ⟨Nat.le_of_ble_eq_true rfl, Nat.le_of_ble_eq_true rfl⟩ (fun rv b1 q _ => ?_)
  obtain ⟨S4, h5, x1, x2⟩ := b1
  obtain ⟨rfl, m4, f5, g5, p5⟩ := q
  have m4 : ∀ i, i ∈ S4 ↔ i ∈ S3 ∨ (o + 16 < i ∧ i < o + 16 + 15) := m4
  have f5 : ∀ i, ¬ (o + 16 ≤ i ∧ i < o + 16 + 15) → ∀ k, h5 i k = h4 i k := f5
  have g5 : ∀ i, o + 16 ≤ i → i < o + 16 + 15 → FlagOK h5 i := g5
  obtain ⟨pp5_0, pp5_1, pp5_2, pp5_3, pp5_4, pp5_5, pp5_6, pp5_7, pp5_8⟩ := p5
  have pp5_0 : h5 (o + 16) 0 = 8 := pp5_0
  have pp5_1 : h5 (o + 16) 1 = 10 := pp5_1
  have pp5_2 : h5 (o + 16) 2 = 4 := pp5_2
  have pp5_3 : h5 (o + 16) 3 = 0 := pp5_3
  have pp5_4 : h5 (o + 16) 4 = 1 := pp5_4
  have pp5_5 : h5 (o + 16) 5 = 0 := pp5_5
  have pp5_6 : h5 (o + 16) 6 = 0 := pp5_6
  have pp5_7 : h5 (o + 17) 0 = 0 := pp5_7
  have pp5_8 : h5 (o + 26) 0 = 0 := pp5_8
  show BW M_X3_init 23 [(0, vr o)] [vr (o + 16), vr o] (S4, h5, 0, 0) _
  refine bw_putF (a := o) (b := o + 16) (q := 16) (M := M_X3_init) (pc := 23) clk_3 rfl dX3_init_23 ho (k := 8) (by decide) fl_X3_18 rfl rfl (fun a => rfl) (fun a => rfl) rfl rfl ?_
  show BW M_X3_init 26 [(0, vr o)] [] (S4, mset h5 o 8 1, 0, 0) _
  generalize eh6 : mset h5 o 8 1 = h6
  refine bw_ret (M := M_X3_init) (pc := 26) dX3_init_26 rfl ?_
  refine ⟨rfl, fun i => ?_, fun i hi k => ?_, fun i i1 i2 => ?_, ?_⟩
  · show i ∈ S4 ↔ i ∈ S0 ∨ (o < i ∧ i < o + 31)
    rw [m4, m3, m2, m1]
    by_cases z : i ∈ S0
    · simp [z]
    · simp only [z, false_or]; omega
  · show h6 i k = h0 i k
    rw [← eh6, mset_o (by omega), f5 i (by omega) k, ← eh4, mz_o (by omega), ← eh3, mset_o (by omega), f2 i (by omega) k, ← eh1, mz_o (by omega)]
  · show FlagOK h6 i
    rcases (show i = o ∨ (o + 1 ≤ i ∧ i < o + 1 + 15) ∨ (o + 16 ≤ i ∧ i < o + 16 + 15) by omega) with y | y | y
    · rw [y]
      refine flag_ob ho (fun k hk h4 => ?_)
      have hk : k < 9 := hk
      rcases (show k = 0 ∨ k = 1 ∨ k = 2 ∨ k = 3 ∨ k = 4 ∨ k = 5 ∨ k = 6 ∨ k = 7 ∨ k = 8 by omega) with rfl | rfl | rfl | rfl | rfl | rfl | rfl | rfl | rfl
      · exact absurd h4 (by decide)
      · exact absurd h4 (by decide)
      · exact absurd h4 (by decide)
      · exact absurd h4 (by decide)
      · exact absurd h4 (by decide)
      · exact absurd h4 (by decide)
      · exact absurd h4 (by decide)
      · exact (show h6 o 7 = 1 from by rw [← eh6, mset_o (by omega), f5 o (by omega) 7, ← eh4, mz_o (by omega), ← eh3, mset_at])
      · exact (show h6 o 8 = 1 from by rw [← eh6, mset_at])
    · exact ((g2 i (by omega) (by omega)).fr (fun k => by rw [← eh6, mset_o (by omega), f5 i (by omega) k, ← eh4, mz_o (by omega), ← eh3, mset_o (by omega)]))
    · exact ((g5 i (by omega) (by omega)).fr (fun k => by rw [← eh6, mset_o (by omega)]))
  · exact trivial
abbrev M_X5_init : Hd := (cX5_init, 1, RX5, none, (1, 45), sc1)
set_option maxRecDepth 100000 in
set_option maxHeartbeats 4000000 in
theorem bc_X5_init {o : Nat} {S0 : List Nat} {h0 : Mem} (ho : lay o = (0, 5)) (fr : ∀ i, o < i → i < o + 1 → i ∉ S0) : BCt yX5_init cX5_init 1 none (1, 45) [vr o] (S0, h0, 0, 0) (CP o 1 S0 h0 (fun u => True)) := by
  refine BCt.of (Or.inr ⟨rfl, rfl⟩) np_RX5 (Nat.le_of_ble_eq_true rfl) ?_
  show BW M_X5_init 0 [(0, vr o)] [] (S0, h0, 0, 0) _
  refine bw_aload_n (j := 0) (M := M_X5_init) (pc := 0) dX5_init_0 rfl rfl ?_
  refine bw_objInit (st := []) (M := M_X5_init) (pc := 1) dX5_init_1 ml_X5_3 ⟨Nat.le_of_ble_eq_true rfl, Nat.le_of_ble_eq_true rfl⟩ (by decide) ?_
  refine bw_ret (M := M_X5_init) (pc := 4) dX5_init_4 rfl ?_
  refine ⟨rfl, fun i => ?_, fun i hi k => ?_, fun i i1 i2 => ?_, ?_⟩
  · show i ∈ S0 ↔ i ∈ S0 ∨ (o < i ∧ i < o + 1)
    by_cases z : i ∈ S0
    · simp [z]
    · exact ⟨fun y => absurd y z, fun y => y.elim (fun y => absurd y z) (fun y => absurd y (by omega))⟩
  · show h0 i k = h0 i k
    rfl
  · show FlagOK h0 i
    rcases (show i = o by omega) with y
    · rw [y]
      refine flag_ob ho (fun k hk h4 => ?_)
      have hk : k < 3 := hk
      rcases (show k = 0 ∨ k = 1 ∨ k = 2 by omega) with rfl | rfl | rfl
      · exact absurd h4 (by decide)
      · exact absurd h4 (by decide)
      · exact absurd h4 (by decide)
  · exact trivial
abbrev M_X6_init : Hd := (cX6_init, 1, RX6, none, (1, 45), sc1)
set_option maxRecDepth 100000 in
set_option maxHeartbeats 4000000 in
theorem bc_X6_init {o : Nat} {S0 : List Nat} {h0 : Mem} (ho : lay o = (0, 6)) (fr : ∀ i, o < i → i < o + 2 → i ∉ S0) : BCt yX6_init cX6_init 1 none (1, 45) [vr o] (S0, h0, 1, 60) (CP o 2 S0 h0 (fun u => True)) := by
  refine BCt.of (Or.inr ⟨rfl, rfl⟩) np_RX6 (Nat.le_of_ble_eq_true rfl) ?_
  show BW M_X6_init 0 [(0, vr o)] [] (S0, h0, 1, 60) _
  refine bw_aload_n (j := 0) (M := M_X6_init) (pc := 0) dX6_init_0 rfl rfl ?_
  refine bw_objInit (st := []) (M := M_X6_init) (pc := 1) dX6_init_1 ml_X6_3 ⟨Nat.le_of_ble_eq_true rfl, Nat.le_of_ble_eq_true rfl⟩ (by decide) ?_
  refine bw_aload_n (j := 0) (M := M_X6_init) (pc := 4) dX6_init_4 rfl rfl ?_
  refine bw_bipush (M := M_X6_init) (pc := 5) dX6_init_5 ⟨rfl, ⟨by decide, by decide⟩⟩ ?_
  refine bw_newi (n := 60) (n0 := o + 1) (M := M_X6_init) (pc := 7) dX6_init_7 ac_int (ly_6_1 ho) rfl (fr _ (by omega) (by omega)) ⟨Nat.le_of_ble_eq_true rfl, Nat.le_of_ble_eq_true rfl⟩ (Nat.le_of_ble_eq_true rfl) ?_
  show BW M_X6_init 9 [(0, vr o)] [vr (o + 1), vr o] (S0 ++ [o + 1], mz h0 (o + 1), 0, 0) _
  generalize eh1 : mz h0 (o + 1) = h1
  generalize eS1 : S0 ++ [o + 1] = S1
  have m1 : ∀ i, i ∈ S1 ↔ i ∈ S0 ∨ i = o + 1 := fun i => by rw [← eS1, List.mem_append, List.mem_singleton]
  refine bw_putF (a := o) (b := o + 1) (q := 1) (M := M_X6_init) (pc := 9) clk_6 rfl dX6_init_9 ho (k := 6) (by decide) fl_X6_11 rfl rfl (fun a => rfl) (fun a => rfl) rfl rfl ?_
  show BW M_X6_init 12 [(0, vr o)] [] (S1, mset h1 o 6 1, 0, 0) _
  generalize eh2 : mset h1 o 6 1 = h2
  refine bw_ret (M := M_X6_init) (pc := 12) dX6_init_12 rfl ?_
  refine ⟨rfl, fun i => ?_, fun i hi k => ?_, fun i i1 i2 => ?_, ?_⟩
  · show i ∈ S1 ↔ i ∈ S0 ∨ (o < i ∧ i < o + 2)
    rw [m1]
    by_cases z : i ∈ S0
    · simp [z]
    · simp only [z, false_or]; omega
  · show h2 i k = h0 i k
    rw [← eh2, mset_o (by omega), ← eh1, mz_o (by omega)]
  · show FlagOK h2 i
    rcases (show i = o ∨ i = o + 1 by omega) with y | y
    · rw [y]
      refine flag_ob ho (fun k hk h4 => ?_)
      have hk : k < 7 := hk
      rcases (show k = 0 ∨ k = 1 ∨ k = 2 ∨ k = 3 ∨ k = 4 ∨ k = 5 ∨ k = 6 by omega) with rfl | rfl | rfl | rfl | rfl | rfl | rfl
      · exact absurd h4 (by decide)
      · exact absurd h4 (by decide)
      · exact absurd h4 (by decide)
      · exact absurd h4 (by decide)
      · exact absurd h4 (by decide)
      · exact absurd h4 (by decide)
      · exact (show h2 o 6 = 1 from by rw [← eh2, mset_at])
    · rw [y]; exact flag_arr (ly_6_1 ho) (by omega)
  · exact trivial
abbrev M_X0_init : Hd := (cX0_init, 1, RX0, none, (1, 45), sc1)
set_option maxRecDepth 100000 in
set_option maxHeartbeats 4000000 in
theorem bc_X0_init {o : Nat} {S0 : List Nat} {h0 : Mem} (ho : lay o = (0, 0)) (fr : ∀ i, o < i → i < o + 5 → i ∉ S0) : BCt yX0_init cX0_init 1 none (1, 45) [vr o] (S0, h0, 4, 452) (CP o 5 S0 h0 (fun u => True)) := by
  refine BCt.of (Or.inr ⟨rfl, rfl⟩) np_RX0 (Nat.le_of_ble_eq_true rfl) ?_
  show BW M_X0_init 0 [(0, vr o)] [] (S0, h0, 4, 452) _
  refine bw_aload_n (j := 0) (M := M_X0_init) (pc := 0) dX0_init_0 rfl rfl ?_
  refine bw_objInit (st := []) (M := M_X0_init) (pc := 1) dX0_init_1 ml_X0_3 ⟨Nat.le_of_ble_eq_true rfl, Nat.le_of_ble_eq_true rfl⟩ (by decide) ?_
  refine bw_aload_n (j := 0) (M := M_X0_init) (pc := 4) dX0_init_4 rfl rfl ?_
  refine bw_sipush (M := M_X0_init) (pc := 5) dX0_init_5 ⟨rfl, ⟨by decide, by decide⟩⟩ ?_
  refine bw_newl (n := 201) (n0 := o + 1) (M := M_X0_init) (pc := 8) dX0_init_8 ac_long (ly_0_1 ho) rfl (fr _ (by omega) (by omega)) ⟨Nat.le_of_ble_eq_true rfl, Nat.le_of_ble_eq_true rfl⟩ (Nat.le_of_ble_eq_true rfl) ?_
  show BW M_X0_init 10 [(0, vr o)] [vr (o + 1), vr o] (S0 ++ [o + 1], mz h0 (o + 1), 3, 251) _
  generalize eh1 : mz h0 (o + 1) = h1
  generalize eS1 : S0 ++ [o + 1] = S1
  have m1 : ∀ i, i ∈ S1 ↔ i ∈ S0 ∨ i = o + 1 := fun i => by rw [← eS1, List.mem_append, List.mem_singleton]
  refine bw_putF (a := o) (b := o + 1) (q := 1) (M := M_X0_init) (pc := 10) clk_0 rfl dX0_init_10 ho (k := 4) (by decide) fl_X0_11 rfl rfl (fun a => rfl) (fun a => rfl) rfl rfl ?_
  show BW M_X0_init 13 [(0, vr o)] [] (S1, mset h1 o 4 1, 3, 251) _
  generalize eh2 : mset h1 o 4 1 = h2
  refine bw_aload_n (j := 0) (M := M_X0_init) (pc := 13) dX0_init_13 rfl rfl ?_
  refine bw_sipush (M := M_X0_init) (pc := 14) dX0_init_14 ⟨rfl, ⟨by decide, by decide⟩⟩ ?_
  refine bw_newl (n := 201) (n0 := o + 2) (M := M_X0_init) (pc := 17) dX0_init_17 ac_long (ly_0_2 ho) rfl (fun z => by rw [m1] at z; rcases z with z | z <;> first | exact fr _ (by omega) (by omega) z | omega) ⟨Nat.le_of_ble_eq_true rfl, Nat.le_of_ble_eq_true rfl⟩ (Nat.le_of_ble_eq_true rfl) ?_
  show BW M_X0_init 19 [(0, vr o)] [vr (o + 2), vr o] (S1 ++ [o + 2], mz h2 (o + 2), 2, 50) _
  generalize eh3 : mz h2 (o + 2) = h3
  generalize eS2 : S1 ++ [o + 2] = S2
  have m2 : ∀ i, i ∈ S2 ↔ i ∈ S1 ∨ i = o + 2 := fun i => by rw [← eS2, List.mem_append, List.mem_singleton]
  refine bw_putF (a := o) (b := o + 2) (q := 2) (M := M_X0_init) (pc := 19) clk_0 rfl dX0_init_19 ho (k := 5) (by decide) fl_X0_15 rfl rfl (fun a => rfl) (fun a => rfl) rfl rfl ?_
  show BW M_X0_init 22 [(0, vr o)] [] (S2, mset h3 o 5 1, 2, 50) _
  generalize eh4 : mset h3 o 5 1 = h4
  refine bw_aload_n (j := 0) (M := M_X0_init) (pc := 22) dX0_init_22 rfl rfl ?_
  refine bw_bipush (M := M_X0_init) (pc := 23) dX0_init_23 ⟨rfl, ⟨by decide, by decide⟩⟩ ?_
  refine bw_newl (n := 25) (n0 := o + 3) (M := M_X0_init) (pc := 25) dX0_init_25 ac_long (ly_0_3 ho) rfl (fun z => by rw [m2, m1] at z; rcases z with (z | z) | z <;> first | exact fr _ (by omega) (by omega) z | omega) ⟨Nat.le_of_ble_eq_true rfl, Nat.le_of_ble_eq_true rfl⟩ (Nat.le_of_ble_eq_true rfl) ?_
  show BW M_X0_init 27 [(0, vr o)] [vr (o + 3), vr o] (S2 ++ [o + 3], mz h4 (o + 3), 1, 25) _
  generalize eh5 : mz h4 (o + 3) = h5
  generalize eS3 : S2 ++ [o + 3] = S3
  have m3 : ∀ i, i ∈ S3 ↔ i ∈ S2 ∨ i = o + 3 := fun i => by rw [← eS3, List.mem_append, List.mem_singleton]
  refine bw_putF (a := o) (b := o + 3) (q := 3) (M := M_X0_init) (pc := 27) clk_0 rfl dX0_init_27 ho (k := 6) (by decide) fl_X0_18 rfl rfl (fun a => rfl) (fun a => rfl) rfl rfl ?_
  show BW M_X0_init 30 [(0, vr o)] [] (S3, mset h5 o 6 1, 1, 25) _
  generalize eh6 : mset h5 o 6 1 = h6
  refine bw_aload_n (j := 0) (M := M_X0_init) (pc := 30) dX0_init_30 rfl rfl ?_
  refine bw_bipush (M := M_X0_init) (pc := 31) dX0_init_31 ⟨rfl, ⟨by decide, by decide⟩⟩ ?_
  refine bw_newz (n := 25) (n0 := o + 4) (M := M_X0_init) (pc := 33) dX0_init_33 ac_boolean (ly_0_4 ho) rfl (fun z => by rw [m3, m2, m1] at z; rcases z with ((z | z) | z) | z <;> first | exact fr _ (by omega) (by omega) z | omega) ⟨Nat.le_of_ble_eq_true rfl, Nat.le_of_ble_eq_true rfl⟩ (Nat.le_of_ble_eq_true rfl) ?_
  show BW M_X0_init 35 [(0, vr o)] [vr (o + 4), vr o] (S3 ++ [o + 4], mz h6 (o + 4), 0, 0) _
  generalize eh7 : mz h6 (o + 4) = h7
  generalize eS4 : S3 ++ [o + 4] = S4
  have m4 : ∀ i, i ∈ S4 ↔ i ∈ S3 ∨ i = o + 4 := fun i => by rw [← eS4, List.mem_append, List.mem_singleton]
  refine bw_putF (a := o) (b := o + 4) (q := 4) (M := M_X0_init) (pc := 35) clk_0 rfl dX0_init_35 ho (k := 7) (by decide) fl_X0_21 rfl rfl (fun a => rfl) (fun a => rfl) rfl rfl ?_
  show BW M_X0_init 38 [(0, vr o)] [] (S4, mset h7 o 7 1, 0, 0) _
  generalize eh8 : mset h7 o 7 1 = h8
  refine bw_ret (M := M_X0_init) (pc := 38) dX0_init_38 rfl ?_
  refine ⟨rfl, fun i => ?_, fun i hi k => ?_, fun i i1 i2 => ?_, ?_⟩
  · show i ∈ S4 ↔ i ∈ S0 ∨ (o < i ∧ i < o + 5)
    rw [m4, m3, m2, m1]
    by_cases z : i ∈ S0
    · simp [z]
    · simp only [z, false_or]; omega
  · show h8 i k = h0 i k
    rw [← eh8, mset_o (by omega), ← eh7, mz_o (by omega), ← eh6, mset_o (by omega), ← eh5, mz_o (by omega), ← eh4, mset_o (by omega), ← eh3, mz_o (by omega), ← eh2, mset_o (by omega), ← eh1, mz_o (by omega)]
  · show FlagOK h8 i
    rcases (show i = o ∨ i = o + 1 ∨ i = o + 2 ∨ i = o + 3 ∨ i = o + 4 by omega) with y | y | y | y | y
    · rw [y]
      refine flag_ob ho (fun k hk h4 => ?_)
      have hk : k < 8 := hk
      rcases (show k = 0 ∨ k = 1 ∨ k = 2 ∨ k = 3 ∨ k = 4 ∨ k = 5 ∨ k = 6 ∨ k = 7 by omega) with rfl | rfl | rfl | rfl | rfl | rfl | rfl | rfl
      · exact absurd h4 (by decide)
      · exact absurd h4 (by decide)
      · exact absurd h4 (by decide)
      · exact absurd h4 (by decide)
      · exact (show h8 o 4 = 1 from by rw [← eh8, mset_o (by omega), ← eh7, mz_o (by omega), ← eh6, mset_o (by omega), ← eh5, mz_o (by omega), ← eh4, mset_o (by omega), ← eh3, mz_o (by omega), ← eh2, mset_at])
      · exact (show h8 o 5 = 1 from by rw [← eh8, mset_o (by omega), ← eh7, mz_o (by omega), ← eh6, mset_o (by omega), ← eh5, mz_o (by omega), ← eh4, mset_at])
      · exact (show h8 o 6 = 1 from by rw [← eh8, mset_o (by omega), ← eh7, mz_o (by omega), ← eh6, mset_at])
      · exact (show h8 o 7 = 1 from by rw [← eh8, mset_at])
    · rw [y]; exact flag_arr (ly_0_1 ho) (by omega)
    · rw [y]; exact flag_arr (ly_0_2 ho) (by omega)
    · rw [y]; exact flag_arr (ly_0_3 ho) (by omega)
    · rw [y]; exact flag_arr (ly_0_4 ho) (by omega)
  · exact trivial
abbrev M_X10_init : Hd := (cX10_init, 1, RX10, none, (1, 45), sc1)
set_option maxRecDepth 100000 in
set_option maxHeartbeats 4000000 in
theorem bc_X10_init {o : Nat} {S0 : List Nat} {h0 : Mem} (ho : lay o = (0, 10)) (fr : ∀ i, o < i → i < o + 8 → i ∉ S0) : BCt yX10_init cX10_init 1 none (1, 45) [vr o] (S0, h0, 7, 252) (CP o 8 S0 h0 (fun u => u (o + 1) 0 = (-1) ∧ u (o + 1) 1 = (-1) ∧ u (o + 1) 2 = (-1) ∧ u (o + 1) 3 = (-1))) := by
  refine BCt.of (Or.inr ⟨rfl, rfl⟩) np_RX10 (Nat.le_of_ble_eq_true rfl) ?_
  show BW M_X10_init 0 [(0, vr o)] [] (S0, h0, 7, 252) _
  refine bw_aload_n (j := 0) (M := M_X10_init) (pc := 0) dX10_init_0 rfl rfl ?_
  refine bw_objInit (st := []) (M := M_X10_init) (pc := 1) dX10_init_1 ml_X10_1 ⟨Nat.le_of_ble_eq_true rfl, Nat.le_of_ble_eq_true rfl⟩ (by decide) ?_
  refine bw_aload_n (j := 0) (M := M_X10_init) (pc := 4) dX10_init_4 rfl rfl ?_
  refine bw_iconst (M := M_X10_init) (pc := 5) dX10_init_5 ⟨by decide, by decide⟩ ?_
  refine bw_newi (n := 4) (n0 := o + 1) (M := M_X10_init) (pc := 6) dX10_init_6 ac_int (ly_10_1 ho) rfl (fr _ (by omega) (by omega)) ⟨Nat.le_of_ble_eq_true rfl, Nat.le_of_ble_eq_true rfl⟩ (Nat.le_of_ble_eq_true rfl) ?_
  show BW M_X10_init 8 [(0, vr o)] [vr (o + 1), vr o] (S0 ++ [o + 1], mz h0 (o + 1), 6, 248) _
  generalize eh1 : mz h0 (o + 1) = h1
  generalize eS1 : S0 ++ [o + 1] = S1
  have m1 : ∀ i, i ∈ S1 ↔ i ∈ S0 ∨ i = o + 1 := fun i => by rw [← eS1, List.mem_append, List.mem_singleton]
  refine bw_dup (M := M_X10_init) (pc := 8) dX10_init_8 rfl ?_
  refine bw_iconst (M := M_X10_init) (pc := 9) dX10_init_9 ⟨by decide, by decide⟩ ?_
  refine bw_iconst (M := M_X10_init) (pc := 10) dX10_init_10 ⟨by decide, by decide⟩ ?_
  refine bw_iast (b := o + 1) (n := 4) (k := 0) (M := M_X10_init) (pc := 11) dX10_init_11 (ly_10_1 ho) ⟨by decide, by decide⟩ rfl ?_
  show BW M_X10_init 12 [(0, vr o)] [vr (o + 1), vr o] (S1, mset h1 (o + 1) 0 (-1), 6, 248) _
  generalize eh2 : mset h1 (o + 1) 0 (-1) = h2
  refine bw_dup (M := M_X10_init) (pc := 12) dX10_init_12 rfl ?_
  refine bw_iconst (M := M_X10_init) (pc := 13) dX10_init_13 ⟨by decide, by decide⟩ ?_
  refine bw_iconst (M := M_X10_init) (pc := 14) dX10_init_14 ⟨by decide, by decide⟩ ?_
  refine bw_iast (b := o + 1) (n := 4) (k := 1) (M := M_X10_init) (pc := 15) dX10_init_15 (ly_10_1 ho) ⟨by decide, by decide⟩ rfl ?_
  show BW M_X10_init 16 [(0, vr o)] [vr (o + 1), vr o] (S1, mset h2 (o + 1) 1 (-1), 6, 248) _
  generalize eh3 : mset h2 (o + 1) 1 (-1) = h3
  refine bw_dup (M := M_X10_init) (pc := 16) dX10_init_16 rfl ?_
  refine bw_iconst (M := M_X10_init) (pc := 17) dX10_init_17 ⟨by decide, by decide⟩ ?_
  refine bw_iconst (M := M_X10_init) (pc := 18) dX10_init_18 ⟨by decide, by decide⟩ ?_
  refine bw_iast (b := o + 1) (n := 4) (k := 2) (M := M_X10_init) (pc := 19) dX10_init_19 (ly_10_1 ho) ⟨by decide, by decide⟩ rfl ?_
  show BW M_X10_init 20 [(0, vr o)] [vr (o + 1), vr o] (S1, mset h3 (o + 1) 2 (-1), 6, 248) _
  generalize eh4 : mset h3 (o + 1) 2 (-1) = h4
  refine bw_dup (M := M_X10_init) (pc := 20) dX10_init_20 rfl ?_
  refine bw_iconst (M := M_X10_init) (pc := 21) dX10_init_21 ⟨by decide, by decide⟩ ?_
  refine bw_iconst (M := M_X10_init) (pc := 22) dX10_init_22 ⟨by decide, by decide⟩ ?_
  refine bw_iast (b := o + 1) (n := 4) (k := 3) (M := M_X10_init) (pc := 23) dX10_init_23 (ly_10_1 ho) ⟨by decide, by decide⟩ rfl ?_
  show BW M_X10_init 24 [(0, vr o)] [vr (o + 1), vr o] (S1, mset h4 (o + 1) 3 (-1), 6, 248) _
  generalize eh5 : mset h4 (o + 1) 3 (-1) = h5
  refine bw_putF (a := o) (b := o + 1) (q := 1) (M := M_X10_init) (pc := 24) clk_10 rfl dX10_init_24 ho (k := 0) (by decide) fl_X10_9 rfl rfl (fun a => rfl) (fun a => rfl) rfl rfl ?_
  show BW M_X10_init 27 [(0, vr o)] [] (S1, mset h5 o 0 1, 6, 248) _
  generalize eh6 : mset h5 o 0 1 = h6
  refine bw_aload_n (j := 0) (M := M_X10_init) (pc := 27) dX10_init_27 rfl rfl ?_
  refine bw_iconst (M := M_X10_init) (pc := 28) dX10_init_28 ⟨by decide, by decide⟩ ?_
  refine bw_newi (n := 4) (n0 := o + 2) (M := M_X10_init) (pc := 29) dX10_init_29 ac_int (ly_10_2 ho) rfl (fun z => by rw [m1] at z; rcases z with z | z <;> first | exact fr _ (by omega) (by omega) z | omega) ⟨Nat.le_of_ble_eq_true rfl, Nat.le_of_ble_eq_true rfl⟩ (Nat.le_of_ble_eq_true rfl) ?_
  show BW M_X10_init 31 [(0, vr o)] [vr (o + 2), vr o] (S1 ++ [o + 2], mz h6 (o + 2), 5, 244) _
  generalize eh7 : mz h6 (o + 2) = h7
  generalize eS2 : S1 ++ [o + 2] = S2
  have m2 : ∀ i, i ∈ S2 ↔ i ∈ S1 ∨ i = o + 2 := fun i => by rw [← eS2, List.mem_append, List.mem_singleton]
  refine bw_putF (a := o) (b := o + 2) (q := 2) (M := M_X10_init) (pc := 31) clk_10 rfl dX10_init_31 ho (k := 1) (by decide) fl_X10_13 rfl rfl (fun a => rfl) (fun a => rfl) rfl rfl ?_
  show BW M_X10_init 34 [(0, vr o)] [] (S2, mset h7 o 1 1, 5, 244) _
  generalize eh8 : mset h7 o 1 1 = h8
  refine bw_aload_n (j := 0) (M := M_X10_init) (pc := 34) dX10_init_34 rfl rfl ?_
  refine bw_iconst (M := M_X10_init) (pc := 35) dX10_init_35 ⟨by decide, by decide⟩ ?_
  refine bw_bipush (M := M_X10_init) (pc := 36) dX10_init_36 ⟨rfl, ⟨by decide, by decide⟩⟩ ?_
  refine bw_multi (n0 := o + 3) (M := M_X10_init) (pc := 38) dX10_init_38 cll_X10_16 ac_long (ly_10_3 ho) (fun j hj => by rcases (show j = 0 ∨ j = 1 ∨ j = 2 ∨ j = 3 by omega) with rfl | rfl | rfl | rfl <;> first | exact ly_10_4 ho | exact ly_10_5 ho | exact ly_10_6 ho | exact ly_10_7 ho) (fun j hj => (fun z => by rw [m2, m1] at z; rcases z with (z | z) | z <;> first | exact fr _ (by omega) (by omega) z | omega)) ⟨Nat.le_of_ble_eq_true rfl, Nat.le_of_ble_eq_true rfl⟩ ?_
  show BW M_X10_init 42 [(0, vr o)] [vr (o + 3), vr o] (S2 ++ [o + 3, o + 3 + 1, o + 3 + 2, o + 3 + 3, o + 3 + 4], mq h8 (o + 3), 0, 0) _
  generalize eh9 : mq h8 (o + 3) = h9
  generalize eS3 : S2 ++ [o + 3, o + 3 + 1, o + 3 + 2, o + 3 + 3, o + 3 + 4] = S3
  have m3 : ∀ i, i ∈ S3 ↔ i ∈ S2 ∨ (o + 3 ≤ i ∧ i < o + 3 + 5) := fun i => by rw [← eS3, List.mem_append]; simp only [List.mem_cons, List.not_mem_nil, or_false]; constructor <;> intro z <;> rcases z with z | z <;> first | exact Or.inl z | exact Or.inr (by omega)
  refine bw_putF (a := o) (b := o + 3) (q := 3) (M := M_X10_init) (pc := 42) clk_10 rfl dX10_init_42 ho (k := 2) (by decide) fl_X10_18 rfl rfl (fun a => rfl) (fun a => rfl) rfl rfl ?_
  show BW M_X10_init 45 [(0, vr o)] [] (S3, mset h9 o 2 1, 0, 0) _
  generalize eh10 : mset h9 o 2 1 = h10
  refine bw_ret (M := M_X10_init) (pc := 45) dX10_init_45 rfl ?_
  refine ⟨rfl, fun i => ?_, fun i hi k => ?_, fun i i1 i2 => ?_, ?_⟩
  · show i ∈ S3 ↔ i ∈ S0 ∨ (o < i ∧ i < o + 8)
    rw [m3, m2, m1]
    by_cases z : i ∈ S0
    · simp [z]
    · simp only [z, false_or]; omega
  · show h10 i k = h0 i k
    rw [← eh10, mset_o (by omega), ← eh9, mq_o (by omega), ← eh8, mset_o (by omega), ← eh7, mz_o (by omega), ← eh6, mset_o (by omega), ← eh5, mset_o (by omega), ← eh4, mset_o (by omega), ← eh3, mset_o (by omega), ← eh2, mset_o (by omega), ← eh1, mz_o (by omega)]
  · show FlagOK h10 i
    rcases (show i = o ∨ i = o + 1 ∨ i = o + 2 ∨ i = o + 3 ∨ i = o + 4 ∨ i = o + 5 ∨ i = o + 6 ∨ i = o + 7 by omega) with y | y | y | y | y | y | y | y
    · rw [y]
      refine flag_ob ho (fun k hk h4 => ?_)
      have hk : k < 3 := hk
      rcases (show k = 0 ∨ k = 1 ∨ k = 2 by omega) with rfl | rfl | rfl
      · exact (show h10 o 0 = 1 from by rw [← eh10, mset_o (by omega), ← eh9, mq_o (by omega), ← eh8, mset_o (by omega), ← eh7, mz_o (by omega), ← eh6, mset_at])
      · exact (show h10 o 1 = 1 from by rw [← eh10, mset_o (by omega), ← eh9, mq_o (by omega), ← eh8, mset_at])
      · exact (show h10 o 2 = 1 from by rw [← eh10, mset_at])
    · rw [y]; exact flag_arr (ly_10_1 ho) (by omega)
    · rw [y]; exact flag_arr (ly_10_2 ho) (by omega)
    · rw [y]
      refine flag_row (ly_10_3 ho) (by omega) (fun k hk => ?_)
      rw [← eh10, mset_o (by omega), ← eh9, mq_0, if_pos hk]
    · rw [y]; exact flag_arr (ly_10_4 ho) (by omega)
    · rw [y]; exact flag_arr (ly_10_5 ho) (by omega)
    · rw [y]; exact flag_arr (ly_10_6 ho) (by omega)
    · rw [y]; exact flag_arr (ly_10_7 ho) (by omega)
  · exact ⟨(show h10 (o + 1) 0 = (-1) from by rw [← eh10, mset_o (by omega), ← eh9, mq_o (by omega), ← eh8, mset_o (by omega), ← eh7, mz_o (by omega), ← eh6, mset_o (by omega), ← eh5, mset_o (by omega), ← eh4, mset_o (by omega), ← eh3, mset_o (by omega), ← eh2, mset_at]), (show h10 (o + 1) 1 = (-1) from by rw [← eh10, mset_o (by omega), ← eh9, mq_o (by omega), ← eh8, mset_o (by omega), ← eh7, mz_o (by omega), ← eh6, mset_o (by omega), ← eh5, mset_o (by omega), ← eh4, mset_o (by omega), ← eh3, mset_at]), (show h10 (o + 1) 2 = (-1) from by rw [← eh10, mset_o (by omega), ← eh9, mq_o (by omega), ← eh8, mset_o (by omega), ← eh7, mz_o (by omega), ← eh6, mset_o (by omega), ← eh5, mset_o (by omega), ← eh4, mset_at]), (show h10 (o + 1) 3 = (-1) from by rw [← eh10, mset_o (by omega), ← eh9, mq_o (by omega), ← eh8, mset_o (by omega), ← eh7, mz_o (by omega), ← eh6, mset_o (by omega), ← eh5, mset_at])⟩
