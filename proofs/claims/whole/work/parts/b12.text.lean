/-! Text's constructor: the words out of the text of words -/
def kwK : Nat → Nat → Nat → Nat → Bool
  | 0, _, w, _ => decide (w = 24)
  | m + 1, j, w, v => decide (w < 24) && (if kwC j = 32 then decide (v = KW w) && kwK m (j + 1) (w + 1) 0 else decide (97 ≤ kwC j) && decide (kwC j ≤ 122) && decide (v < 1099511627776) && kwK m (j + 1) w (2 ^ 5 * v + (kwC j - 96).toNat))
theorem kwK_ok : kwK kwN 0 0 0 = true := by decide +kernel
theorem kwN_lt : kwN < 200 := by decide +kernel
section BWT
variable {M : Hd} {pc : Nat} {ls : LoS} {st : List Vl} {h : BM} {Q : PostB}
theorem bw_ls {ls' : LoS} (ks : List Nat) (hk : ks.filterMap (fun k => ls[k]?) = ls') (kk : BW M pc ls' st h Q) : BW M pc ls st h Q := by
  subst hk
  intro p l e R s m args below meth c H locs cells slots Z D α τ A hF hN hC hE h1 h2 hs hl L hL
  refine kk p l e R s m args below meth c H locs cells slots Z D α τ A hF hN hC hE h1 h2 hs (fun q hq => ?_) L (lv_sub hL ks ?_)
  · obtain ⟨k, -, hk⟩ := List.mem_filterMap.mp hq
    exact hl q (List.mem_of_getElem? hk)
  · unfold lv_pick lsE
    rw [List.map_filterMap]
    congr 1
    funext k
    rw [List.getElem?_map]
end BWT
theorem ml_X8_3 : Cond.methodLink RX8 3 Lib.objectInit ∈ lw_g := mg1 57 rfl rfl
theorem ac_byte : Cond.arrayClass .byte ∈ lw_g := mg1 149 rfl rfl
theorem ly_8_1 {o : Nat} (h : lay o = (0, 8)) : lay (o + 1) = (3, 900) := by
  have key : ∀ i, i < nOb → lay i = (0, 8) → lay (i + 1) = (3, 900) := by decide +kernel
  exact key o (lay_lt h (by omega)) h
theorem ly_8_2 {o : Nat} (h : lay o = (0, 8)) : lay (o + 2) = (2, 24) := by
  have key : ∀ i, i < nOb → lay i = (0, 8) → lay (i + 2) = (2, 24) := by decide +kernel
  exact key o (lay_lt h (by omega)) h
theorem ml_X8_50 : Cond.methodLink RX8 50 yJ0_length_8abf5 ∈ lw_g := mg1 59 rfl rfl
theorem ml_X8_55 : Cond.methodLink RX8 55 yJ0_charAt_5068e ∈ lw_g := mg1 69 rfl rfl
abbrev M_X8_init : Hd := (cX8_init, 6, RX8, none, (5, 130), sc1)
set_option maxRecDepth 100000 in
theorem t_loop {o : Nat} {S : List Nat} {Q : PostB} {h0 : Mem} {kc ks : Nat} (ho : lay o = (0, 8)) (hfl : h0 o 2 = 1) (hQ : ∀ h' : Mem, (∀ i, i < 24 → h' (o + 2) i = ((KW i : Nat) : Int)) → (∀ i, i ≠ o + 2 → ∀ k, h' i k = h0 i k) → Q none (S, h', kc, ks)) :
    ∀ (m j w v : Nat) (h : Mem), j + m = kwN → kwK m j w v = true → (∀ i, i < w → h (o + 2) i = ((KW i : Nat) : Int)) → (∀ i, i ≠ o + 2 → ∀ k, h i k = h0 i k) → BW M_X8_init 73 [(4, (0, (j : Int))), (3, (0, (w : Int))), (1, (1, (v : Int))), (0, vr o)] [] (S, h, kc, ks) Q := by
  have hl2 : lay (o + 2) = (2, 24) := ly_8_2 ho
  have kn := kwN_lt
  intro m
  induction m with
  | zero =>
    intro j w v h hj hk hw hf
    have w24 : w = 24 := of_decide_eq_true hk
    refine bw_iload (j := 0) (M := M_X8_init) (pc := 73) dX8_init_73 rfl ?_
    refine bw_ldcX (M := M_X8_init) (pc := 75) rfl dX8_init_75 ?_
    refine bw_kV (as := []) (st := [(0, (j : Int))]) (M := M_X8_init) (pc := 77) (fun S g => gs_length) dX8_init_77 rfl (Or.inr ⟨rfl, Or.inl rfl⟩) cy_J0_length_8abf5 ml_X8_50 (by decide) (by decide) (Nat.le_of_ble_eq_true rfl) (fun x hx => ?_)
    subst hx
    refine bw_icmp_ge (tgt := 133) (M := M_X8_init) (pc := 80) dX8_init_80 rfl (fun hc => ?_) (fun hc => absurd (by omega) hc)
    exact bw_ret (M := M_X8_init) (pc := 133) dX8_init_133 rfl (hQ h (by rw [← w24]; exact hw) hf)
  | succ m ih =>
    intro j w v h hj hk hw hf
    have hk' : (decide (w < 24) && (if kwC j = 32 then decide (v = KW w) && kwK m (j + 1) (w + 1) 0 else decide (97 ≤ kwC j) && decide (kwC j ≤ 122) && decide (v < 1099511627776) && kwK m (j + 1) w (2 ^ 5 * v + (kwC j - 96).toNat))) = true := hk
    obtain ⟨w24, hk2⟩ := Bool.and_eq_true_iff.mp hk'
    have w24 : w < 24 := of_decide_eq_true w24
    have fl2 : h o 2 = 1 := by rw [hf o (by omega)]; exact hfl
    have cin := kwC_in j (by omega)
    refine bw_iload (j := 0) (M := M_X8_init) (pc := 73) dX8_init_73 rfl ?_
    refine bw_ldcX (M := M_X8_init) (pc := 75) rfl dX8_init_75 ?_
    refine bw_kV (as := []) (st := [(0, (j : Int))]) (M := M_X8_init) (pc := 77) (fun S g => gs_length) dX8_init_77 rfl (Or.inr ⟨rfl, Or.inl rfl⟩) cy_J0_length_8abf5 ml_X8_50 (by decide) (by decide) (Nat.le_of_ble_eq_true rfl) (fun x hx => ?_)
    subst hx
    refine bw_icmp_ge (tgt := 133) (M := M_X8_init) (pc := 80) dX8_init_80 rfl (fun hc => absurd hc (by omega)) (fun hc => ?_)
    refine bw_iload_n (j := 1) (M := M_X8_init) (pc := 83) dX8_init_83 rfl rfl ?_
    refine bw_bipush (M := M_X8_init) (pc := 84) dX8_init_84 ⟨rfl, ⟨by decide, by decide⟩⟩ ?_
    refine bw_icmp_ge (tgt := 133) (M := M_X8_init) (pc := 86) dX8_init_86 rfl (fun hc => absurd hc (by omega)) (fun hc => ?_)
    refine bw_ldcX (M := M_X8_init) (pc := 89) rfl dX8_init_89 ?_
    refine bw_iload (j := 0) (M := M_X8_init) (pc := 91) dX8_init_91 rfl ?_
    refine bw_kV (as := [(0, (j : Int))]) (st := []) (M := M_X8_init) (pc := 93) (fun S g => gs_char (by omega)) dX8_init_93 rfl (Or.inr ⟨rfl, Or.inl rfl⟩) cy_J0_charAt_5068e ml_X8_55 (by decide) (by decide) (Nat.le_of_ble_eq_true rfl) (fun x hx => ?_)
    subst hx
    generalize hcc : kwC j = cc at hk2 cin
    refine bw_istore (ls' := [(5, (0, cc)), (4, (0, (j : Int))), (3, (0, (w : Int))), (1, (1, (v : Int))), (0, vr o)]) (M := M_X8_init) (pc := 96) dX8_init_96 (by decide) rfl ?_
    refine bw_iload (j := 0) (M := M_X8_init) (pc := 98) dX8_init_98 rfl ?_
    refine bw_bipush (M := M_X8_init) (pc := 100) dX8_init_100 ⟨rfl, ⟨by decide, by decide⟩⟩ ?_
    refine bw_icmp_ne (tgt := 120) (M := M_X8_init) (pc := 102) dX8_init_102 rfl (fun hc => ?_) (fun hc => ?_)
    · rw [if_neg hc] at hk2
      obtain ⟨k1, k4⟩ := Bool.and_eq_true_iff.mp hk2
      obtain ⟨k1, k3⟩ := Bool.and_eq_true_iff.mp k1
      obtain ⟨k1, k2⟩ := Bool.and_eq_true_iff.mp k1
      have k1 : 97 ≤ cc := of_decide_eq_true k1
      have k2 : cc ≤ 122 := of_decide_eq_true k2
      have k3 : v < 1099511627776 := of_decide_eq_true k3
      refine bw_lload_n (j := 3) (M := M_X8_init) (pc := 120) dX8_init_120 rfl rfl ?_
      refine bw_iload (j := 0) (M := M_X8_init) (pc := 121) dX8_init_121 rfl ?_
      refine bw_kSl (as := [(1, (v : Int)), (0, cc)]) (st := []) (M := M_X8_init) (pc := 123) (fun S g => gs_letter ⟨k1, k2⟩) dX8_init_123 rfl cy_X8_withLetter ml_X8_59 (by decide) (by decide) (Nat.le_of_ble_eq_true rfl) (fun x hx => ?_)
      have ev : x = ((2 ^ 5 * v + (cc - 96).toNat : Nat) : Int) := by
        rw [hx]
        have e1 : lshl (v : Int) 5 = ((2 ^ 5 * v : Nat) : Int) := l_shl (k := 5) (by omega) (by omega)
        rw [e1, show cc - 97 + 1 = (((cc - 96).toNat : Nat) : Int) by omega, l_or (k := 5) (by omega) (by omega)]
      subst ev
      refine bw_lstore_n (ls' := [(1, (1, ((2 ^ 5 * v + (cc - 96).toNat : Nat) : Int))), (5, (0, cc)), (4, (0, (j : Int))), (3, (0, (w : Int))), (0, vr o)]) (M := M_X8_init) (pc := 126) dX8_init_126 rfl (by decide) rfl ?_
      refine bw_iinc (j := 2) (x := (j : Int)) (r := ((j + 1 : Nat) : Int)) (ls' := [(4, (0, ((j + 1 : Nat) : Int))), (1, (1, ((2 ^ 5 * v + (cc - 96).toNat : Nat) : Int))), (5, (0, cc)), (3, (0, (w : Int))), (0, vr o)]) (M := M_X8_init) (pc := 127) dX8_init_127 rfl (by omega) ⟨by omega, by omega⟩ (by decide) rfl ?_
      refine bw_goto (tgt := 73) (M := M_X8_init) (pc := 130) dX8_init_130 rfl ?_
      refine bw_ls [0, 3, 1, 4] rfl ?_
      exact ih (j + 1) w _ h (by omega) (by rw [← hcc] at k4; rw [← hcc]; exact k4) hw hf
    · rw [if_pos hc] at hk2
      obtain ⟨k1, k4⟩ := Bool.and_eq_true_iff.mp hk2
      have k1 : v = KW w := of_decide_eq_true k1
      refine bw_aload_n (j := 4) (M := M_X8_init) (pc := 105) dX8_init_105 rfl rfl ?_
      refine bw_gf4 (a := o) (q := 2) clk_8 (M := M_X8_init) (pc := 106) dX8_init_106 ho (k := 2) (by decide) fl_X8_19 rfl fl2 ?_
      refine bw_iload_n (j := 2) (M := M_X8_init) (pc := 109) dX8_init_109 rfl rfl ?_
      refine bw_lload_n (j := 3) (M := M_X8_init) (pc := 110) dX8_init_110 rfl rfl ?_
      refine bw_last (b := o + 2) (n := 24) (k := w) (M := M_X8_init) (pc := 111) dX8_init_111 hl2 ⟨by omega, by omega⟩ (Int.toNat_natCast w) ?_
      show BW M_X8_init 112 [(5, (0, cc)), (4, (0, (j : Int))), (3, (0, (w : Int))), (1, (1, (v : Int))), (0, vr o)] [] (S, mset h (o + 2) w (v : Int), kc, ks) Q
      refine bw_iinc (j := 2) (x := (w : Int)) (r := ((w + 1 : Nat) : Int)) (ls' := [(3, (0, ((w + 1 : Nat) : Int))), (5, (0, cc)), (4, (0, (j : Int))), (1, (1, (v : Int))), (0, vr o)]) (M := M_X8_init) (pc := 112) dX8_init_112 rfl (by omega) ⟨by omega, by omega⟩ (by decide) rfl ?_
      refine bw_lconst (v := ((0 : Nat) : Int)) (M := M_X8_init) (pc := 115) dX8_init_115 ⟨rfl, ⟨by decide, by decide⟩⟩ ?_
      refine bw_lstore_n (ls' := [(1, (1, ((0 : Nat) : Int))), (3, (0, ((w + 1 : Nat) : Int))), (5, (0, cc)), (4, (0, (j : Int))), (0, vr o)]) (M := M_X8_init) (pc := 116) dX8_init_116 rfl (by decide) rfl ?_
      refine bw_goto (tgt := 127) (M := M_X8_init) (pc := 117) dX8_init_117 rfl ?_
      refine bw_iinc (j := 3) (x := (j : Int)) (r := ((j + 1 : Nat) : Int)) (ls' := [(4, (0, ((j + 1 : Nat) : Int))), (1, (1, ((0 : Nat) : Int))), (3, (0, ((w + 1 : Nat) : Int))), (5, (0, cc)), (0, vr o)]) (M := M_X8_init) (pc := 127) dX8_init_127 rfl (by omega) ⟨by omega, by omega⟩ (by decide) rfl ?_
      refine bw_goto (tgt := 73) (M := M_X8_init) (pc := 130) dX8_init_130 rfl ?_
      refine bw_ls [0, 2, 1, 4] rfl ?_
      refine ih (j + 1) (w + 1) 0 _ (by omega) k4 (fun i hi => ?_) (fun i hi k => by rw [mset_i _ hi]; exact hf i hi k)
      by_cases e : i = w
      · rw [e, mset_at, k1]
      · rw [mset_k e]; exact hw i (by omega)
set_option maxRecDepth 100000 in
set_option maxHeartbeats 4000000 in
theorem bc_X8_init {o : Nat} {S0 : List Nat} {h0 : Mem} (ho : lay o = (0, 8)) (fr : ∀ i, o < i → i < o + 3 → i ∉ S0) : BCt yX8_init cX8_init 6 none (5, 130) [vr o] (S0, h0, 2, 924) (CP o 3 S0 h0 (fun u => u o 1 = 0 ∧ u o 9 = -1 ∧ u o 10 = -1 ∧ ∀ i, i < 24 → u (o + 2) i = ((KW i : Nat) : Int))) := by
  refine BCt.of (Or.inr ⟨rfl, rfl⟩) np_RX8 (Nat.le_of_ble_eq_true rfl) ?_
  show BW M_X8_init 0 [(0, vr o)] [] (S0, h0, 2, 924) _
  refine bw_aload_n (j := 0) (M := M_X8_init) (pc := 0) dX8_init_0 rfl rfl ?_
  refine bw_objInit (st := []) (M := M_X8_init) (pc := 1) dX8_init_1 ml_X8_3 ⟨Nat.le_of_ble_eq_true rfl, Nat.le_of_ble_eq_true rfl⟩ (by decide) ?_
  refine bw_aload_n (j := 0) (M := M_X8_init) (pc := 4) dX8_init_4 rfl rfl ?_
  refine bw_sipush (M := M_X8_init) (pc := 5) dX8_init_5 ⟨rfl, ⟨by decide, by decide⟩⟩ ?_
  refine bw_newb (n := 900) (n0 := o + 1) (M := M_X8_init) (pc := 8) dX8_init_8 ac_byte (ly_8_1 ho) rfl (fr _ (by omega) (by omega)) ⟨Nat.le_of_ble_eq_true rfl, Nat.le_of_ble_eq_true rfl⟩ (Nat.le_of_ble_eq_true rfl) ?_
  show BW M_X8_init 10 [(0, vr o)] [vr (o + 1), vr o] (S0 ++ [o + 1], mz h0 (o + 1), 1, 24) _
  generalize eh1 : mz h0 (o + 1) = h1
  generalize eS1 : S0 ++ [o + 1] = S1
  have m1 : ∀ i, i ∈ S1 ↔ i ∈ S0 ∨ i = o + 1 := fun i => by rw [← eS1, List.mem_append, List.mem_singleton]
  refine bw_putF (a := o) (b := o + 1) (q := 1) (M := M_X8_init) (pc := 10) clk_8 rfl dX8_init_10 ho (k := 0) (by decide) fl_X8_11 rfl rfl (fun a => rfl) (fun a => rfl) rfl rfl ?_
  show BW M_X8_init 13 [(0, vr o)] [] (S1, mset h1 o 0 1, 1, 24) _
  generalize eh2 : mset h1 o 0 1 = h2
  refine bw_aload_n (j := 0) (M := M_X8_init) (pc := 13) dX8_init_13 rfl rfl ?_
  refine bw_iconst (M := M_X8_init) (pc := 14) dX8_init_14 ⟨by decide, by decide⟩ ?_
  refine bw_puti (a := o) (x := 0) clk_8 (M := M_X8_init) (pc := 15) dX8_init_15 ho (k := 1) (by decide) fl_X8_15 rfl rfl rfl ?_
  show BW M_X8_init 18 [(0, vr o)] [] (S1, mset h2 o 1 0, 1, 24) _
  generalize eh3 : mset h2 o 1 0 = h3
  refine bw_aload_n (j := 0) (M := M_X8_init) (pc := 18) dX8_init_18 rfl rfl ?_
  refine bw_bipush (M := M_X8_init) (pc := 19) dX8_init_19 ⟨rfl, ⟨by decide, by decide⟩⟩ ?_
  refine bw_newl (n := 24) (n0 := o + 2) (M := M_X8_init) (pc := 21) dX8_init_21 ac_long (ly_8_2 ho) rfl (fun z => by rw [m1] at z; rcases z with z | z <;> first | exact fr _ (by omega) (by omega) z | omega) ⟨Nat.le_of_ble_eq_true rfl, Nat.le_of_ble_eq_true rfl⟩ (Nat.le_of_ble_eq_true rfl) ?_
  show BW M_X8_init 23 [(0, vr o)] [vr (o + 2), vr o] (S1 ++ [o + 2], mz h3 (o + 2), 0, 0) _
  generalize eh4 : mz h3 (o + 2) = h4
  generalize eS2 : S1 ++ [o + 2] = S2
  have m2 : ∀ i, i ∈ S2 ↔ i ∈ S1 ∨ i = o + 2 := fun i => by rw [← eS2, List.mem_append, List.mem_singleton]
  refine bw_putF (a := o) (b := o + 2) (q := 2) (M := M_X8_init) (pc := 23) clk_8 rfl dX8_init_23 ho (k := 2) (by decide) fl_X8_19 rfl rfl (fun a => rfl) (fun a => rfl) rfl rfl ?_
  show BW M_X8_init 26 [(0, vr o)] [] (S2, mset h4 o 2 1, 0, 0) _
  generalize eh5 : mset h4 o 2 1 = h5
  refine bw_aload_n (j := 0) (M := M_X8_init) (pc := 26) dX8_init_26 rfl rfl ?_
  refine bw_iconst (M := M_X8_init) (pc := 27) dX8_init_27 ⟨by decide, by decide⟩ ?_
  refine bw_puti (a := o) (x := 0) clk_8 (M := M_X8_init) (pc := 28) dX8_init_28 ho (k := 3) (by decide) fl_X8_23 rfl rfl rfl ?_
  show BW M_X8_init 31 [(0, vr o)] [] (S2, mset h5 o 3 0, 0, 0) _
  generalize eh6 : mset h5 o 3 0 = h6
  refine bw_aload_n (j := 0) (M := M_X8_init) (pc := 31) dX8_init_31 rfl rfl ?_
  refine bw_iconst (M := M_X8_init) (pc := 32) dX8_init_32 ⟨by decide, by decide⟩ ?_
  refine bw_puti (a := o) (x := 0) clk_8 (M := M_X8_init) (pc := 33) dX8_init_33 ho (k := 4) (by decide) fl_X8_26 rfl rfl rfl ?_
  show BW M_X8_init 36 [(0, vr o)] [] (S2, mset h6 o 4 0, 0, 0) _
  generalize eh7 : mset h6 o 4 0 = h7
  refine bw_aload_n (j := 0) (M := M_X8_init) (pc := 36) dX8_init_36 rfl rfl ?_
  refine bw_iconst (M := M_X8_init) (pc := 37) dX8_init_37 ⟨by decide, by decide⟩ ?_
  refine bw_puti (a := o) (x := 0) clk_8 (M := M_X8_init) (pc := 38) dX8_init_38 ho (k := 5) (by decide) fl_X8_29 rfl rfl rfl ?_
  show BW M_X8_init 41 [(0, vr o)] [] (S2, mset h7 o 5 0, 0, 0) _
  generalize eh8 : mset h7 o 5 0 = h8
  refine bw_aload_n (j := 0) (M := M_X8_init) (pc := 41) dX8_init_41 rfl rfl ?_
  refine bw_iconst (M := M_X8_init) (pc := 42) dX8_init_42 ⟨by decide, by decide⟩ ?_
  refine bw_puti (a := o) (x := 0) clk_8 (M := M_X8_init) (pc := 43) dX8_init_43 ho (k := 6) (by decide) fl_X8_32 rfl rfl rfl ?_
  show BW M_X8_init 46 [(0, vr o)] [] (S2, mset h8 o 6 0, 0, 0) _
  generalize eh9 : mset h8 o 6 0 = h9
  refine bw_aload_n (j := 0) (M := M_X8_init) (pc := 46) dX8_init_46 rfl rfl ?_
  refine bw_iconst (M := M_X8_init) (pc := 47) dX8_init_47 ⟨by decide, by decide⟩ ?_
  refine bw_puti (a := o) (x := (-1)) clk_8 (M := M_X8_init) (pc := 48) dX8_init_48 ho (k := 7) (by decide) fl_X8_35 rfl rfl rfl ?_
  show BW M_X8_init 51 [(0, vr o)] [] (S2, mset h9 o 7 (-1), 0, 0) _
  generalize eh10 : mset h9 o 7 (-1) = h10
  refine bw_aload_n (j := 0) (M := M_X8_init) (pc := 51) dX8_init_51 rfl rfl ?_
  refine bw_lconst (v := 0) (M := M_X8_init) (pc := 52) dX8_init_52 ⟨rfl, ⟨by decide, by decide⟩⟩ ?_
  refine bw_putl (a := o) (x := 0) clk_8 (M := M_X8_init) (pc := 53) dX8_init_53 ho (k := 8) (by decide) fl_X8_38 rfl rfl rfl ?_
  show BW M_X8_init 56 [(0, vr o)] [] (S2, mset h10 o 8 0, 0, 0) _
  generalize eh11 : mset h10 o 8 0 = h11
  refine bw_aload_n (j := 0) (M := M_X8_init) (pc := 56) dX8_init_56 rfl rfl ?_
  refine bw_iconst (M := M_X8_init) (pc := 57) dX8_init_57 ⟨by decide, by decide⟩ ?_
  refine bw_puti (a := o) (x := (-1)) clk_8 (M := M_X8_init) (pc := 58) dX8_init_58 ho (k := 9) (by decide) fl_X8_42 rfl rfl rfl ?_
  show BW M_X8_init 61 [(0, vr o)] [] (S2, mset h11 o 9 (-1), 0, 0) _
  generalize eh12 : mset h11 o 9 (-1) = h12
  refine bw_aload_n (j := 0) (M := M_X8_init) (pc := 61) dX8_init_61 rfl rfl ?_
  refine bw_iconst (M := M_X8_init) (pc := 62) dX8_init_62 ⟨by decide, by decide⟩ ?_
  refine bw_puti (a := o) (x := (-1)) clk_8 (M := M_X8_init) (pc := 63) dX8_init_63 ho (k := 10) (by decide) fl_X8_45 rfl rfl rfl ?_
  show BW M_X8_init 66 [(0, vr o)] [] (S2, mset h12 o 10 (-1), 0, 0) _
  generalize eh13 : mset h12 o 10 (-1) = h13
  refine bw_lconst (v := ((0 : Nat) : Int)) (M := M_X8_init) (pc := 66) dX8_init_66 ⟨rfl, ⟨by decide, by decide⟩⟩ ?_
  refine bw_lstore_n (ls' := [(1, (1, ((0 : Nat) : Int))), (0, vr o)]) (M := M_X8_init) (pc := 67) dX8_init_67 rfl (by decide) rfl ?_
  refine bw_iconst (n := ((0 : Nat) : Int)) (M := M_X8_init) (pc := 68) dX8_init_68 ⟨by decide, by decide⟩ ?_
  refine bw_istore_n (ls' := [(3, (0, ((0 : Nat) : Int))), (1, (1, ((0 : Nat) : Int))), (0, vr o)]) (M := M_X8_init) (pc := 69) dX8_init_69 rfl (by decide) rfl ?_
  refine bw_iconst (n := ((0 : Nat) : Int)) (M := M_X8_init) (pc := 70) dX8_init_70 ⟨by decide, by decide⟩ ?_
  refine bw_istore (ls' := [(4, (0, ((0 : Nat) : Int))), (3, (0, ((0 : Nat) : Int))), (1, (1, ((0 : Nat) : Int))), (0, vr o)]) (M := M_X8_init) (pc := 71) dX8_init_71 (by decide) rfl ?_
  refine t_loop ho (show h13 o 2 = 1 from by rw [← eh13, mset_o (by omega), ← eh12, mset_o (by omega), ← eh11, mset_o (by omega), ← eh10, mset_o (by omega), ← eh9, mset_o (by omega), ← eh8, mset_o (by omega), ← eh7, mset_o (by omega), ← eh6, mset_o (by omega), ← eh5, mset_at]) (fun hL kw hf => ?_) kwN 0 0 0 h13 (Nat.zero_add _) kwK_ok (fun i hi => absurd hi (Nat.not_lt_zero _)) (fun _ _ _ => rfl)
  refine ⟨rfl, fun i => ?_, fun i hi k => ?_, fun i i1 i2 => ?_, ?_⟩
  · show i ∈ S2 ↔ i ∈ S0 ∨ (o < i ∧ i < o + 3)
    rw [m2, m1]
    by_cases z : i ∈ S0
    · simp [z]
    · simp only [z, false_or]; omega
  · show hL i k = h0 i k
    rw [hf i (by omega) k, ← eh13, mset_o (by omega), ← eh12, mset_o (by omega), ← eh11, mset_o (by omega), ← eh10, mset_o (by omega), ← eh9, mset_o (by omega), ← eh8, mset_o (by omega), ← eh7, mset_o (by omega), ← eh6, mset_o (by omega), ← eh5, mset_o (by omega), ← eh4, mz_o (by omega), ← eh3, mset_o (by omega), ← eh2, mset_o (by omega), ← eh1, mz_o (by omega)]
  · show FlagOK hL i
    have fin : FlagOK h13 i := by
      rcases (show i = o ∨ i = o + 1 ∨ i = o + 2 by omega) with y | y | y
      · rw [y]
        refine flag_ob ho (fun k hk h4 => ?_)
        have hk : k < 11 := hk
        rcases (show k = 0 ∨ k = 1 ∨ k = 2 ∨ k = 3 ∨ k = 4 ∨ k = 5 ∨ k = 6 ∨ k = 7 ∨ k = 8 ∨ k = 9 ∨ k = 10 by omega) with rfl | rfl | rfl | rfl | rfl | rfl | rfl | rfl | rfl | rfl | rfl
        · exact (show h13 o 0 = 1 from by rw [← eh13, mset_o (by omega), ← eh12, mset_o (by omega), ← eh11, mset_o (by omega), ← eh10, mset_o (by omega), ← eh9, mset_o (by omega), ← eh8, mset_o (by omega), ← eh7, mset_o (by omega), ← eh6, mset_o (by omega), ← eh5, mset_o (by omega), ← eh4, mz_o (by omega), ← eh3, mset_o (by omega), ← eh2, mset_at])
        · exact absurd h4 (by decide)
        · exact (show h13 o 2 = 1 from by rw [← eh13, mset_o (by omega), ← eh12, mset_o (by omega), ← eh11, mset_o (by omega), ← eh10, mset_o (by omega), ← eh9, mset_o (by omega), ← eh8, mset_o (by omega), ← eh7, mset_o (by omega), ← eh6, mset_o (by omega), ← eh5, mset_at])
        · exact absurd h4 (by decide)
        · exact absurd h4 (by decide)
        · exact absurd h4 (by decide)
        · exact absurd h4 (by decide)
        · exact absurd h4 (by decide)
        · exact absurd h4 (by decide)
        · exact absurd h4 (by decide)
        · exact absurd h4 (by decide)
      · rw [y]; exact flag_arr (ly_8_1 ho) (by omega)
      · rw [y]; exact flag_arr (ly_8_2 ho) (by omega)
    by_cases c : i = o + 2
    · rw [c]; exact flag_arr (ly_8_2 ho) (by omega)
    · exact fin.fr (fun k => hf i c k)
  · exact ⟨by show hL o 1 = 0; rw [hf o (by omega)]; exact (show h13 o 1 = 0 from by rw [← eh13, mset_o (by omega), ← eh12, mset_o (by omega), ← eh11, mset_o (by omega), ← eh10, mset_o (by omega), ← eh9, mset_o (by omega), ← eh8, mset_o (by omega), ← eh7, mset_o (by omega), ← eh6, mset_o (by omega), ← eh5, mset_o (by omega), ← eh4, mz_o (by omega), ← eh3, mset_at]), by show hL o 9 = (-1); rw [hf o (by omega)]; exact (show h13 o 9 = (-1) from by rw [← eh13, mset_o (by omega), ← eh12, mset_at]), by show hL o 10 = (-1); rw [hf o (by omega)]; exact (show h13 o 10 = (-1) from by rw [← eh13, mset_at]), kw⟩
