/-! facts of the tables, by their places; rules for each field, each class -/
theorem mg0 {w : Cond} (i : Nat) (hi : (k2_sels lw_privs)[i]? = some w) (hg : goodWord w = true) : w ∈ lw_g := List.mem_filter.mpr ⟨List.mem_append_left _ (List.mem_of_getElem? hi), hg⟩
theorem mgT {w : Cond} (hi : w ∈ tables_1) (hg : goodWord w = true) : w ∈ lw_g := List.mem_filter.mpr ⟨List.mem_append_right _ hi, hg⟩
theorem mg1 {w : Cond} (i : Nat) (hi : tables_1_1[i]? = some w) (hg : goodWord w = true) : w ∈ lw_g := mgT (by unfold tables_1; exact (List.mem_append_left _ (List.mem_of_getElem? hi))) hg
theorem mg2 {w : Cond} (i : Nat) (hi : tables_1_2[i]? = some w) (hg : goodWord w = true) : w ∈ lw_g := mgT (by unfold tables_1; exact (List.mem_append_right _ (List.mem_append_left _ (List.mem_of_getElem? hi)))) hg
theorem mg3 {w : Cond} (i : Nat) (hi : tables_1_3[i]? = some w) (hg : goodWord w = true) : w ∈ lw_g := mgT (by unfold tables_1; exact (List.mem_append_right _ (List.mem_append_right _ (List.mem_append_left _ (List.mem_of_getElem? hi))))) hg
theorem mg4 {w : Cond} (i : Nat) (hi : tables_1_4[i]? = some w) (hg : goodWord w = true) : w ∈ lw_g := mgT (by unfold tables_1; exact (List.mem_append_right _ (List.mem_append_right _ (List.mem_append_right _ (List.mem_append_left _ (List.mem_of_getElem? hi)))))) hg
theorem mg5 {w : Cond} (i : Nat) (hi : tables_1_5[i]? = some w) (hg : goodWord w = true) : w ∈ lw_g := mgT (by unfold tables_1; exact (List.mem_append_right _ (List.mem_append_right _ (List.mem_append_right _ (List.mem_append_right _ (List.mem_append_left _ (List.mem_of_getElem? hi))))))) hg
theorem mg6 {w : Cond} (i : Nat) (hi : tables_1_6[i]? = some w) (hg : goodWord w = true) : w ∈ lw_g := mgT (by unfold tables_1; exact (List.mem_append_right _ (List.mem_append_right _ (List.mem_append_right _ (List.mem_append_right _ (List.mem_append_right _ (List.mem_append_left _ (List.mem_of_getElem? hi)))))))) hg
theorem mg7 {w : Cond} (i : Nat) (hi : tables_1_7[i]? = some w) (hg : goodWord w = true) : w ∈ lw_g := mgT (by unfold tables_1; exact (List.mem_append_right _ (List.mem_append_right _ (List.mem_append_right _ (List.mem_append_right _ (List.mem_append_right _ (List.mem_append_right _ (List.mem_append_left _ (List.mem_of_getElem? hi))))))))) hg
theorem mg8 {w : Cond} (i : Nat) (hi : tables_1_8[i]? = some w) (hg : goodWord w = true) : w ∈ lw_g := mgT (by unfold tables_1; exact (List.mem_append_right _ (List.mem_append_right _ (List.mem_append_right _ (List.mem_append_right _ (List.mem_append_right _ (List.mem_append_right _ (List.mem_append_right _ (List.mem_append_left _ (List.mem_of_getElem? hi)))))))))) hg
theorem mg9 {w : Cond} (i : Nat) (hi : tables_1_9[i]? = some w) (hg : goodWord w = true) : w ∈ lw_g := mgT (by unfold tables_1; exact (List.mem_append_right _ (List.mem_append_right _ (List.mem_append_right _ (List.mem_append_right _ (List.mem_append_right _ (List.mem_append_right _ (List.mem_append_right _ (List.mem_append_right _ ((List.mem_of_getElem? hi))))))))))) hg
def imax (x y : Int) : Int := if x < y then y else x
def imin (x y : Int) : Int := if y < x then y else x
def qi (Q : Int → Mem → Prop) : PostV := fun r u => ∃ x : Int, r = some (0, x) ∧ Q x u
def ql (Q : Int → Mem → Prop) : PostV := fun r u => ∃ x : Int, r = some (1, x) ∧ Q x u
def qv (Q : Mem → Prop) : PostV := fun r u => r = none ∧ Q u
theorem lay181 {o : Nat} {q : Nat} (h : lay o = (0, q)) : o < 181 := lay_lt h (by omega)
theorem lc_lt {a b : Int} : lcmpI a b < 0 ↔ a < b := by
  unfold lcmpI
  split
  · omega
  · split <;> omega
theorem lc_ge {a b : Int} : 0 ≤ lcmpI a b ↔ b ≤ a := by
  unfold lcmpI
  split
  · omega
  · split <;> omega
theorem lc_gt {a b : Int} : 0 < lcmpI a b ↔ b < a := by
  unfold lcmpI
  split
  · omega
  · split <;> omega
theorem lc_le {a b : Int} : lcmpI a b ≤ 0 ↔ a ≤ b := by
  unfold lcmpI
  split
  · omega
  · split <;> omega
theorem lc_eq {a b : Int} : lcmpI a b = 0 ↔ a = b := by
  unfold lcmpI
  split
  · omega
  · split <;> omega
theorem le_5 {i : Int} (h : 0 ≤ i ∧ i < 3) : lay (80 + 1 + 15 * i.toNat) = (0, 4) := by
  have : i.toNat = 0 ∨ i.toNat = 1 ∨ i.toNat = 2 := by omega
  rcases this with q | q | q <;> rw [q] <;> rfl
theorem le_6 {i : Int} (h : 0 ≤ i ∧ i < 3) : lay (126 + 1 + 6 * i.toNat) = (0, 1) := by
  have : i.toNat = 0 ∨ i.toNat = 1 ∨ i.toNat = 2 := by omega
  rcases this with q | q | q <;> rw [q] <;> rfl
theorem le_7 {i : Int} (h : 0 ≤ i ∧ i < 4) : lay (4 + 1 + 1 * i.toNat) = (2, 60) := by
  have : i.toNat = 0 ∨ i.toNat = 1 ∨ i.toNat = 2 ∨ i.toNat = 3 := by omega
  rcases this with q | q | q | q <;> rw [q] <;> rfl
section QC
variable {M : Hd} {pc : Nat} {ls : LoS} {h : Mem} {Q : PostV}
theorem aw_cvi {y : MethodName} {b : ByteArray} {nL idx : Nat} {d' : Nat × Nat} {ret : Option FieldType} {as st st0 : List Vl} {a : Nat} {Q1 : Int → Mem → Prop} (f : Ct y b nL ret d' (vr a :: as) h (qi Q1)) (hd : decode M.1 pc = .ok (.invokevirtual idx, 3)) (hst : as.reverse ++ vr a :: st = st0) (hrc : Rcv y.cls a) (hy : CY y b nL ret as.length) (hlk : Cond.methodLink M.2.2.1 idx y ∈ lw_g) (hdd : d'.1 + 1 ≤ M.2.2.2.2.1.1) (hnl : 8 + (nL + 11) + d'.2 ≤ M.2.2.2.2.1.2) (hs8 : (st.map wdV).sum ≤ 8) (kk : ∀ (r : Int) (u : Mem), Q1 r u → AW M (pc + 3) ls ((0, r) :: st) u Q) : AW M pc ls st0 h Q := by
  refine aw_callV f hd hst hrc hy hlk hdd hnl hs8 (fun rv u hq => ?_)
  obtain ⟨x, rfl, hx⟩ := hq
  exact kk x u hx
theorem aw_csi {y : MethodName} {b : ByteArray} {nL idx : Nat} {d' : Nat × Nat} {ret : Option FieldType} {as st st0 : List Vl} {Q1 : Int → Mem → Prop} (f : Ct y b nL ret d' as h (qi Q1)) (hd : decode M.1 pc = .ok (.invokestatic idx, 3)) (hst : as.reverse ++ st = st0) (hy : CYs y b nL ret as.length) (hlk : Cond.methodLink M.2.2.1 idx y ∈ lw_g) (hdd : d'.1 + 1 ≤ M.2.2.2.2.1.1) (hnl : 8 + (nL + 11) + d'.2 ≤ M.2.2.2.2.1.2) (hs8 : (st.map wdV).sum ≤ 8) (kk : ∀ (r : Int) (u : Mem), Q1 r u → AW M (pc + 3) ls ((0, r) :: st) u Q) : AW M pc ls st0 h Q := by
  refine aw_callS f hd hst hy hlk hdd hnl hs8 (fun rv u hq => ?_)
  obtain ⟨x, rfl, hx⟩ := hq
  exact kk x u hx
theorem aw_cvl {y : MethodName} {b : ByteArray} {nL idx : Nat} {d' : Nat × Nat} {ret : Option FieldType} {as st st0 : List Vl} {a : Nat} {Q1 : Int → Mem → Prop} (f : Ct y b nL ret d' (vr a :: as) h (ql Q1)) (hd : decode M.1 pc = .ok (.invokevirtual idx, 3)) (hst : as.reverse ++ vr a :: st = st0) (hrc : Rcv y.cls a) (hy : CY y b nL ret as.length) (hlk : Cond.methodLink M.2.2.1 idx y ∈ lw_g) (hdd : d'.1 + 1 ≤ M.2.2.2.2.1.1) (hnl : 8 + (nL + 11) + d'.2 ≤ M.2.2.2.2.1.2) (hs8 : (st.map wdV).sum ≤ 8) (kk : ∀ (r : Int) (u : Mem), Q1 r u → AW M (pc + 3) ls ((1, r) :: st) u Q) : AW M pc ls st0 h Q := by
  refine aw_callV f hd hst hrc hy hlk hdd hnl hs8 (fun rv u hq => ?_)
  obtain ⟨x, rfl, hx⟩ := hq
  exact kk x u hx
theorem aw_csl {y : MethodName} {b : ByteArray} {nL idx : Nat} {d' : Nat × Nat} {ret : Option FieldType} {as st st0 : List Vl} {Q1 : Int → Mem → Prop} (f : Ct y b nL ret d' as h (ql Q1)) (hd : decode M.1 pc = .ok (.invokestatic idx, 3)) (hst : as.reverse ++ st = st0) (hy : CYs y b nL ret as.length) (hlk : Cond.methodLink M.2.2.1 idx y ∈ lw_g) (hdd : d'.1 + 1 ≤ M.2.2.2.2.1.1) (hnl : 8 + (nL + 11) + d'.2 ≤ M.2.2.2.2.1.2) (hs8 : (st.map wdV).sum ≤ 8) (kk : ∀ (r : Int) (u : Mem), Q1 r u → AW M (pc + 3) ls ((1, r) :: st) u Q) : AW M pc ls st0 h Q := by
  refine aw_callS f hd hst hy hlk hdd hnl hs8 (fun rv u hq => ?_)
  obtain ⟨x, rfl, hx⟩ := hq
  exact kk x u hx
theorem aw_cvv {y : MethodName} {b : ByteArray} {nL idx : Nat} {d' : Nat × Nat} {ret : Option FieldType} {as st st0 : List Vl} {a : Nat} {Q1 : Mem → Prop} (f : Ct y b nL ret d' (vr a :: as) h (qv Q1)) (hd : decode M.1 pc = .ok (.invokevirtual idx, 3)) (hst : as.reverse ++ vr a :: st = st0) (hrc : Rcv y.cls a) (hy : CY y b nL ret as.length) (hlk : Cond.methodLink M.2.2.1 idx y ∈ lw_g) (hdd : d'.1 + 1 ≤ M.2.2.2.2.1.1) (hnl : 8 + (nL + 11) + d'.2 ≤ M.2.2.2.2.1.2) (hs8 : (st.map wdV).sum ≤ 8) (kk : ∀ u : Mem, Q1 u → AW M (pc + 3) ls st u Q) : AW M pc ls st0 h Q := by
  refine aw_callV f hd hst hrc hy hlk hdd hnl hs8 (fun rv u hq => ?_)
  obtain ⟨rfl, hx⟩ := hq
  exact kk u hx
theorem aw_csv {y : MethodName} {b : ByteArray} {nL idx : Nat} {d' : Nat × Nat} {ret : Option FieldType} {as st st0 : List Vl} {Q1 : Mem → Prop} (f : Ct y b nL ret d' as h (qv Q1)) (hd : decode M.1 pc = .ok (.invokestatic idx, 3)) (hst : as.reverse ++ st = st0) (hy : CYs y b nL ret as.length) (hlk : Cond.methodLink M.2.2.1 idx y ∈ lw_g) (hdd : d'.1 + 1 ≤ M.2.2.2.2.1.1) (hnl : 8 + (nL + 11) + d'.2 ≤ M.2.2.2.2.1.2) (hs8 : (st.map wdV).sum ≤ 8) (kk : ∀ u : Mem, Q1 u → AW M (pc + 3) ls st u Q) : AW M pc ls st0 h Q := by
  refine aw_callS f hd hst hy hlk hdd hnl hs8 (fun rv u hq => ?_)
  obtain ⟨rfl, hx⟩ := hq
  exact kk u hx
theorem aw_ref {a : Nat} {x : Int} {st : List Vl} (e : x = (a : Int)) (kk : AW M pc ls (vr a :: st) h Q) : AW M pc ls ((2, x) :: st) h Q := by
  subst e
  exact kk
theorem aw_aloadz_n {k : Fin 4} {i j : Nat} {x : Int} {st : List Vl} (hd : decode M.1 pc = .ok (.aload_n k, 1)) (hi : (k : Nat) = i) (hj : ls[j]? = some (i, (2, x))) (kk : AW M (pc + 1) ls ((2, x) :: st) h Q) : AW M pc ls st h Q := by
  intro p l e R s m args below meth c H locs cells slots Z D α τ A hF hC hE h1 h2 hs hl L hL
  have kk2 := kk p l e R s m args below meth c H locs cells slots Z D α τ A hF hC hE h1 h2 (ok_c trivial hs) hl L hL
  cases x with
  | ofNat a => exact lv_aload_n hF.1 hF.2.1 hd hi (ls_at hL hj) kk2
  | negSucc a => exact lv_aload_nN hF.1 hF.2.1 hd hi (ls_at hL hj) kk2
theorem mm_st1 : Cond.static Lib.Math.max.name ∈ lw_g := mg3 162 rfl rfl
theorem mm_st2 : Cond.static Lib.Math.min.name ∈ lw_g := mg3 159 rfl rfl
theorem mm_ini : Cond.initialized "java/lang/Math" ∈ lw_g := mg1 19 rfl rfl
theorem mm_c1 : Cond.code Lib.Math.max.name Lib.Math.max.code 2 (some .int) ∈ lw_g := mg3 163 rfl rfl
theorem mm_c2 : Cond.code Lib.Math.min.name Lib.Math.min.code 2 (some .int) ∈ lw_g := mg3 160 rfl rfl
theorem aw_mmax {idx : Nat} {x y : Int} {st : List Vl} (hlk : Cond.methodLink M.2.2.1 idx Lib.Math.max.name ∈ lw_g) (hd : decode M.1 pc = .ok (.invokestatic idx, 3)) (hfr : 1 ≤ M.2.2.2.2.1.1 ∧ 45 ≤ M.2.2.2.2.1.2) (hs8 : (st.map wdV).sum ≤ 8) (kk : AW M (pc + 3) ls ((0, imax x y) :: st) h Q) : AW M pc ls ((0, y) :: (0, x) :: st) h Q := by
  intro p l e R s m args below meth c H locs cells slots Z D α τ A hF hC hE h1 h2 hs hl L hL
  have hts := hF.2.2.2.2.1
  have hy : InR y := ok_h hs
  have hx : InR x := ok_h (ok_t hs)
  refine va_mmax hF.1 hF.2.1 (hF.2.2.1.trans hL.1.symm) hF.2.2.2.1 (hts _ hlk) (hts _ mm_st1) (hts _ mm_ini) (hts _ mm_c1) (Nat.le_trans hfr.1 hF.2.2.2.2.2.2.1) (by rw [sum_wd]; have e1 := hF.2.2.2.2.2.2.2.1; have e3 := hfr.2; omega) h1 h2 hd ?_
  have ee : (if Int32.ofInt x < Int32.ofInt y then Int32.ofInt y else Int32.ofInt x) = Int32.ofInt (imax x y) := by
    unfold imax
    by_cases c : x < y
    · rw [if_pos c, if_pos ((i32_lt hx hy).mpr c)]
    · rw [if_neg c, if_neg (fun z => c ((i32_lt hx hy).mp z))]
  rw [ee]
  exact kk p l e R s m args below meth c H locs cells slots Z D α τ A hF hC hE h1 h2 (ok_c (show InR (imax x y) by unfold imax; split; exact hy; exact hx) (ok_t (ok_t hs))) hl L hL
theorem aw_mmin {idx : Nat} {x y : Int} {st : List Vl} (hlk : Cond.methodLink M.2.2.1 idx Lib.Math.min.name ∈ lw_g) (hd : decode M.1 pc = .ok (.invokestatic idx, 3)) (hfr : 1 ≤ M.2.2.2.2.1.1 ∧ 45 ≤ M.2.2.2.2.1.2) (hs8 : (st.map wdV).sum ≤ 8) (kk : AW M (pc + 3) ls ((0, imin x y) :: st) h Q) : AW M pc ls ((0, y) :: (0, x) :: st) h Q := by
  intro p l e R s m args below meth c H locs cells slots Z D α τ A hF hC hE h1 h2 hs hl L hL
  have hts := hF.2.2.2.2.1
  have hy : InR y := ok_h hs
  have hx : InR x := ok_h (ok_t hs)
  refine va_mmin hF.1 hF.2.1 (hF.2.2.1.trans hL.1.symm) hF.2.2.2.1 (hts _ hlk) (hts _ mm_st2) (hts _ mm_ini) (hts _ mm_c2) (Nat.le_trans hfr.1 hF.2.2.2.2.2.2.1) (by rw [sum_wd]; have e1 := hF.2.2.2.2.2.2.2.1; have e3 := hfr.2; omega) h1 h2 hd ?_
  have ee : (if Int32.ofInt y < Int32.ofInt x then Int32.ofInt y else Int32.ofInt x) = Int32.ofInt (imin x y) := by
    unfold imin
    by_cases c : y < x
    · rw [if_pos c, if_pos ((i32_lt hy hx).mpr c)]
    · rw [if_neg c, if_neg (fun z => c ((i32_lt hy hx).mp z))]
  rw [ee]
  exact kk p l e R s m args below meth c H locs cells slots Z D α τ A hF hC hE h1 h2 (ok_c (show InR (imin x y) by unfold imin; split; exact hy; exact hx) (ok_t (ok_t hs))) hl L hL
end QC
theorem clk_0 : ClK 0 RX0 TX0 8 tyX0 := ⟨rfl, by decide +kernel, tyX0_ok, nmX0, rfl⟩
theorem clk_1 : ClK 1 RX1 TX1 8 tyX1 := ⟨rfl, by decide +kernel, tyX1_ok, nmX1, rfl⟩
theorem clk_2 : ClK 2 RX2 TX2 5 tyX2 := ⟨rfl, by decide +kernel, tyX2_ok, nmX2, rfl⟩
theorem clk_3 : ClK 3 RX3 TX3 9 tyX3 := ⟨rfl, by decide +kernel, tyX3_ok, nmX3, rfl⟩
theorem clk_4 : ClK 4 RX4 TX4 9 tyX4 := ⟨rfl, by decide +kernel, tyX4_ok, nmX4, rfl⟩
theorem clk_5 : ClK 5 RX5 TX5 3 tyX5 := ⟨rfl, by decide +kernel, tyX5_ok, nmX5, rfl⟩
theorem clk_6 : ClK 6 RX6 TX6 7 tyX6 := ⟨rfl, by decide +kernel, tyX6_ok, nmX6, rfl⟩
theorem clk_7 : ClK 7 RX7 TX7 5 tyX7 := ⟨rfl, by decide +kernel, tyX7_ok, nmX7, rfl⟩
theorem clk_8 : ClK 8 RX8 TX8 11 tyX8 := ⟨rfl, by decide +kernel, tyX8_ok, nmX8, rfl⟩
theorem clk_9 : ClK 9 RX9 TX9 9 tyX9 := ⟨rfl, by decide +kernel, tyX9_ok, nmX9, rfl⟩
theorem clk_10 : ClK 10 RX10 TX10 3 tyX10 := ⟨rfl, by decide +kernel, tyX10_ok, nmX10, rfl⟩
theorem clk_11 : ClK 11 RX11 TX11 18 tyX11 := ⟨rfl, by decide +kernel, tyX11_ok, nmX11, rfl⟩
theorem clk_12 : ClK 12 RX12 TX12 44 tyX12 := ⟨rfl, by decide +kernel, tyX12_ok, nmX12, rfl⟩
theorem kc_X6_38 : Cond.constant RX6 38 (Int32.ofInt 1000000) ∈ lw_g := mg6 85 rfl rfl
theorem kc_X6_112 : Cond.constant RX6 112 (Int32.ofInt 65536) ∈ lw_g := mg6 119 rfl rfl
theorem kc_X12_145 : Cond.constant RX12 145 (Int32.ofInt 100000) ∈ lw_g := mg7 127 rfl rfl
theorem kc_X12_373 : Cond.constant RX12 373 (Int32.ofInt 1000000) ∈ lw_g := mg8 228 rfl rfl
theorem kc_X12_449 : Cond.constant RX12 449 (Int32.ofInt 65536) ∈ lw_g := mg9 132 rfl rfl
theorem kc_J6_265 : Cond.constant RJ6 265 (Int32.ofInt 1431655765) ∈ lw_g := mg5 226 rfl rfl
theorem kc_J6_266 : Cond.constant RJ6 266 (Int32.ofInt 858993459) ∈ lw_g := mg5 227 rfl rfl
theorem kc_J6_267 : Cond.constant RJ6 267 (Int32.ofInt 252645135) ∈ lw_g := mg5 228 rfl rfl
theorem kl_X11_133 : Cond.constantLong RX11 133 (Int64.ofInt (-1)) ∈ lw_g := mg3 126 rfl rfl
theorem kl_X11_406 : Cond.constantLong RX11 406 (Int64.ofInt 16) ∈ lw_g := mg6 68 rfl rfl
theorem kl_X0_92 : Cond.constantLong RX0 92 (Int64.ofInt 60) ∈ lw_g := mg5 172 rfl rfl
theorem kl_X12_113 : Cond.constantLong RX12 113 (Int64.ofInt (-1)) ∈ lw_g := mg7 88 rfl rfl
theorem kl_X12_314 : Cond.constantLong RX12 314 (Int64.ofInt 168) ∈ lw_g := mg8 74 rfl rfl
theorem kl_X12_335 : Cond.constantLong RX12 335 (Int64.ofInt 24) ∈ lw_g := mg8 130 rfl rfl
theorem kl_X12_337 : Cond.constantLong RX12 337 (Int64.ofInt 9) ∈ lw_g := mg8 139 rfl rfl
theorem kl_X12_339 : Cond.constantLong RX12 339 (Int64.ofInt 2) ∈ lw_g := mg8 144 rfl rfl
theorem kl_X12_341 : Cond.constantLong RX12 341 (Int64.ofInt 40) ∈ lw_g := mg8 149 rfl rfl
theorem kl_X12_343 : Cond.constantLong RX12 343 (Int64.ofInt 16) ∈ lw_g := mg8 150 rfl rfl
theorem kl_X12_345 : Cond.constantLong RX12 345 (Int64.ofInt 400) ∈ lw_g := mg8 158 rfl rfl
theorem kl_X12_371 : Cond.constantLong RX12 371 (Int64.ofInt 60) ∈ lw_g := mg8 219 rfl rfl
theorem kl_X12_383 : Cond.constantLong RX12 383 (Int64.ofInt 48) ∈ lw_g := mg9 1 rfl rfl
theorem kl_X12_393 : Cond.constantLong RX12 393 (Int64.ofInt 20) ∈ lw_g := mg9 18 rfl rfl
theorem kl_X12_444 : Cond.constantLong RX12 444 (Int64.ofInt 12) ∈ lw_g := mg9 98 rfl rfl
theorem kl_X12_474 : Cond.constantLong RX12 474 (Int64.ofInt 9999) ∈ lw_g := mg9 107 rfl rfl
theorem fl_J0_9 : Cond.fieldLink RJ0 9 "java/lang/String" "value" "[B" ∈ lw_g := mg9 162 rfl rfl
theorem fl_J0_15 : Cond.fieldLink RJ0 15 "java/lang/String" "coder" "B" ∈ lw_g := mg9 163 rfl rfl
theorem fl_J0_38 : Cond.fieldLink RJ0 38 "java/lang/String" "COMPACT_STRINGS" "Z" ∈ lw_g := mg1 67 rfl rfl
theorem fl_J0_1053 : Cond.fieldLink RJ0 1053 "jdk/internal/util/Preconditions" "SIOOBE_FORMATTER" "Ljava/util/function/BiFunction;" ∈ lw_g := mg1 83 rfl rfl
theorem ll_1_3 {o : Nat} (h : lay o = (0, 1)) : lay (o + 1) = (1, 60) := by
  have key : ∀ i, i < nOb → lay i = (0, 1) → lay (i + 1) = (1, 60) := by decide +kernel
  exact key o (lay_lt h (by omega)) h
theorem ll_1_4 {o : Nat} (h : lay o = (0, 1)) : lay (o + 2) = (1, 60) := by
  have key : ∀ i, i < nOb → lay i = (0, 1) → lay (i + 2) = (1, 60) := by decide +kernel
  exact key o (lay_lt h (by omega)) h
theorem ll_1_5 {o : Nat} (h : lay o = (0, 1)) : lay (o + 3) = (1, 60) := by
  have key : ∀ i, i < nOb → lay i = (0, 1) → lay (i + 3) = (1, 60) := by decide +kernel
  exact key o (lay_lt h (by omega)) h
theorem ll_1_6 {o : Nat} (h : lay o = (0, 1)) : lay (o + 4) = (1, 60) := by
  have key : ∀ i, i < nOb → lay i = (0, 1) → lay (i + 4) = (1, 60) := by decide +kernel
  exact key o (lay_lt h (by omega)) h
theorem ll_1_7 {o : Nat} (h : lay o = (0, 1)) : lay (o + 5) = (1, 60) := by
  have key : ∀ i, i < nOb → lay i = (0, 1) → lay (i + 5) = (1, 60) := by decide +kernel
  exact key o (lay_lt h (by omega)) h
theorem ll_4_7 {o : Nat} (h : lay o = (0, 4)) : lay (o + 1) = (0, 9) := by
  have key : ∀ i, i < nOb → lay i = (0, 4) → lay (i + 1) = (0, 9) := by decide +kernel
  exact key o (lay_lt h (by omega)) h
theorem ll_4_8 {o : Nat} (h : lay o = (0, 4)) : lay (o + 10) = (0, 7) := by
  have key : ∀ i, i < nOb → lay i = (0, 4) → lay (i + 10) = (0, 7) := by decide +kernel
  exact key o (lay_lt h (by omega)) h
theorem ll_7_1 {o : Nat} (h : lay o = (0, 7)) : lay (o + 1) = (2, 4) := by
  have key : ∀ i, i < nOb → lay i = (0, 7) → lay (i + 1) = (2, 4) := by decide +kernel
  exact key o (lay_lt h (by omega)) h
theorem ll_7_2 {o : Nat} (h : lay o = (0, 7)) : lay (o + 2) = (1, 4) := by
  have key : ∀ i, i < nOb → lay i = (0, 7) → lay (i + 2) = (1, 4) := by decide +kernel
  exact key o (lay_lt h (by omega)) h
theorem ll_7_3 {o : Nat} (h : lay o = (0, 7)) : lay (o + 3) = (1, 4) := by
  have key : ∀ i, i < nOb → lay i = (0, 7) → lay (i + 3) = (1, 4) := by decide +kernel
  exact key o (lay_lt h (by omega)) h
theorem ll_7_4 {o : Nat} (h : lay o = (0, 7)) : lay (o + 4) = (1, 4) := by
  have key : ∀ i, i < nOb → lay i = (0, 7) → lay (i + 4) = (1, 4) := by decide +kernel
  exact key o (lay_lt h (by omega)) h
theorem ll_9_1 {o : Nat} (h : lay o = (0, 9)) : lay (o + 1) = (2, 8) := by
  have key : ∀ i, i < nOb → lay i = (0, 9) → lay (i + 1) = (2, 8) := by decide +kernel
  exact key o (lay_lt h (by omega)) h
theorem ll_9_2 {o : Nat} (h : lay o = (0, 9)) : lay (o + 2) = (1, 8) := by
  have key : ∀ i, i < nOb → lay i = (0, 9) → lay (i + 2) = (1, 8) := by decide +kernel
  exact key o (lay_lt h (by omega)) h
theorem ll_9_3 {o : Nat} (h : lay o = (0, 9)) : lay (o + 3) = (1, 8) := by
  have key : ∀ i, i < nOb → lay i = (0, 9) → lay (i + 3) = (1, 8) := by decide +kernel
  exact key o (lay_lt h (by omega)) h
theorem ll_9_4 {o : Nat} (h : lay o = (0, 9)) : lay (o + 4) = (1, 8) := by
  have key : ∀ i, i < nOb → lay i = (0, 9) → lay (i + 4) = (1, 8) := by decide +kernel
  exact key o (lay_lt h (by omega)) h
theorem ll_9_5 {o : Nat} (h : lay o = (0, 9)) : lay (o + 5) = (1, 8) := by
  have key : ∀ i, i < nOb → lay i = (0, 9) → lay (i + 5) = (1, 8) := by decide +kernel
  exact key o (lay_lt h (by omega)) h
theorem ll_9_6 {o : Nat} (h : lay o = (0, 9)) : lay (o + 6) = (1, 8) := by
  have key : ∀ i, i < nOb → lay i = (0, 9) → lay (i + 6) = (1, 8) := by decide +kernel
  exact key o (lay_lt h (by omega)) h
theorem ll_9_7 {o : Nat} (h : lay o = (0, 9)) : lay (o + 7) = (1, 8) := by
  have key : ∀ i, i < nOb → lay i = (0, 9) → lay (i + 7) = (1, 8) := by decide +kernel
  exact key o (lay_lt h (by omega)) h
theorem ll_9_8 {o : Nat} (h : lay o = (0, 9)) : lay (o + 8) = (1, 8) := by
  have key : ∀ i, i < nOb → lay i = (0, 9) → lay (i + 8) = (1, 8) := by decide +kernel
  exact key o (lay_lt h (by omega)) h
theorem fl_X11_7 : Cond.fieldLink RX11 7 (TX11 1).1 (TX11 1).2.1 (TX11 1).2.2.1 ∈ lw_g := mg3 14 rfl rfl
theorem gf_X11_7 {M : Hd} {pc : Nat} {ls : LoS} {st : List Vl} {h : Mem} {Q : PostV} {a : Nat} (ho : M.2.2.1 = RX11) (hd : decode M.1 pc = .ok (.getfield 7, 3)) (ha : lay a = (0, 11)) (kk : AW M (pc + 3) ls ((1, h a 1) :: st) h Q) : AW M pc ls (vr a :: st) h Q := aw_getf clk_11 hd ha (k := 1) (by decide) (by rw [ho]; exact fl_X11_7) rfl kk
theorem pf_X11_7 {M : Hd} {pc : Nat} {ls : LoS} {st : List Vl} {h : Mem} {Q : PostV} {a : Nat} {x : Int} (ho : M.2.2.1 = RX11) (hd : decode M.1 pc = .ok (.putfield 7, 3)) (ha : lay a = (0, 11)) (kk : AW M (pc + 3) ls st (mset h a 1 x) Q) : AW M pc ls ((1, x) :: vr a :: st) h Q := aw_putl clk_11 hd ha (k := 1) (by decide) (by rw [ho]; exact fl_X11_7) rfl rfl rfl kk
theorem fl_X11_13 : Cond.fieldLink RX11 13 (TX11 2).1 (TX11 2).2.1 (TX11 2).2.2.1 ∈ lw_g := mg3 15 rfl rfl
theorem gf_X11_13 {M : Hd} {pc : Nat} {ls : LoS} {st : List Vl} {h : Mem} {Q : PostV} {a : Nat} (ho : M.2.2.1 = RX11) (hd : decode M.1 pc = .ok (.getfield 13, 3)) (ha : lay a = (0, 11)) (kk : AW M (pc + 3) ls ((1, h a 2) :: st) h Q) : AW M pc ls (vr a :: st) h Q := aw_getf clk_11 hd ha (k := 2) (by decide) (by rw [ho]; exact fl_X11_13) rfl kk
theorem pf_X11_13 {M : Hd} {pc : Nat} {ls : LoS} {st : List Vl} {h : Mem} {Q : PostV} {a : Nat} {x : Int} (ho : M.2.2.1 = RX11) (hd : decode M.1 pc = .ok (.putfield 13, 3)) (ha : lay a = (0, 11)) (kk : AW M (pc + 3) ls st (mset h a 2 x) Q) : AW M pc ls ((1, x) :: vr a :: st) h Q := aw_putl clk_11 hd ha (k := 2) (by decide) (by rw [ho]; exact fl_X11_13) rfl rfl rfl kk
theorem fl_X11_19 : Cond.fieldLink RX11 19 (TX11 3).1 (TX11 3).2.1 (TX11 3).2.2.1 ∈ lw_g := mg3 16 rfl rfl
theorem gf_X11_19 {M : Hd} {pc : Nat} {ls : LoS} {st : List Vl} {h : Mem} {Q : PostV} {a : Nat} (ho : M.2.2.1 = RX11) (hd : decode M.1 pc = .ok (.getfield 19, 3)) (ha : lay a = (0, 11)) {r : Nat} (hr : a + 1 = r) (kk : AW M (pc + 3) ls (vr r :: st) h Q) : AW M pc ls (vr a :: st) h Q := aw_getf clk_11 hd ha (k := 3) (by decide) (by rw [ho]; exact fl_X11_19) (by rw [← hr]; rfl) kk
theorem fl_X11_26 : Cond.fieldLink RX11 26 (TX11 4).1 (TX11 4).2.1 (TX11 4).2.2.1 ∈ lw_g := mg3 17 rfl rfl
theorem gf_X11_26 {M : Hd} {pc : Nat} {ls : LoS} {st : List Vl} {h : Mem} {Q : PostV} {a : Nat} (ho : M.2.2.1 = RX11) (hd : decode M.1 pc = .ok (.getfield 26, 3)) (ha : lay a = (0, 11)) {r : Nat} (hr : a + 9 = r) (kk : AW M (pc + 3) ls (vr r :: st) h Q) : AW M pc ls (vr a :: st) h Q := aw_getf clk_11 hd ha (k := 4) (by decide) (by rw [ho]; exact fl_X11_26) (by rw [← hr]; rfl) kk
theorem fl_X11_33 : Cond.fieldLink RX11 33 (TX11 5).1 (TX11 5).2.1 (TX11 5).2.2.1 ∈ lw_g := mg3 18 rfl rfl
theorem gf_X11_33 {M : Hd} {pc : Nat} {ls : LoS} {st : List Vl} {h : Mem} {Q : PostV} {a : Nat} (ho : M.2.2.1 = RX11) (hd : decode M.1 pc = .ok (.getfield 33, 3)) (ha : lay a = (0, 11)) {r : Nat} (hr : a + 12 = r) (kk : AW M (pc + 3) ls (vr r :: st) h Q) : AW M pc ls (vr a :: st) h Q := aw_getf clk_11 hd ha (k := 5) (by decide) (by rw [ho]; exact fl_X11_33) (by rw [← hr]; rfl) kk
theorem fl_X11_40 : Cond.fieldLink RX11 40 (TX11 6).1 (TX11 6).2.1 (TX11 6).2.2.1 ∈ lw_g := mg3 19 rfl rfl
theorem gf_X11_40 {M : Hd} {pc : Nat} {ls : LoS} {st : List Vl} {h : Mem} {Q : PostV} {a : Nat} (ho : M.2.2.1 = RX11) (hd : decode M.1 pc = .ok (.getfield 40, 3)) (ha : lay a = (0, 11)) {r : Nat} (hr : a + 27 = r) (kk : AW M (pc + 3) ls (vr r :: st) h Q) : AW M pc ls (vr a :: st) h Q := aw_getf clk_11 hd ha (k := 6) (by decide) (by rw [ho]; exact fl_X11_40) (by rw [← hr]; rfl) kk
theorem fl_X11_44 : Cond.fieldLink RX11 44 (TX11 17).1 (TX11 17).2.1 (TX11 17).2.2.1 ∈ lw_g := mg3 30 rfl rfl
theorem gf_X11_44 {M : Hd} {pc : Nat} {ls : LoS} {st : List Vl} {h : Mem} {Q : PostV} {a : Nat} (ho : M.2.2.1 = RX11) (hd : decode M.1 pc = .ok (.getfield 44, 3)) (ha : lay a = (0, 11)) {r : Nat} (hr : a + 146 = r) (kk : AW M (pc + 3) ls (vr r :: st) h Q) : AW M pc ls (vr a :: st) h Q := aw_getf clk_11 hd ha (k := 17) (by decide) (by rw [ho]; exact fl_X11_44) (by rw [← hr]; rfl) kk
theorem fl_X11_50 : Cond.fieldLink RX11 50 (TX11 7).1 (TX11 7).2.1 (TX11 7).2.2.1 ∈ lw_g := mg3 20 rfl rfl
theorem gf_X11_50 {M : Hd} {pc : Nat} {ls : LoS} {st : List Vl} {h : Mem} {Q : PostV} {a : Nat} (ho : M.2.2.1 = RX11) (hd : decode M.1 pc = .ok (.getfield 50, 3)) (ha : lay a = (0, 11)) {r : Nat} (hr : a + 33 = r) (kk : AW M (pc + 3) ls (vr r :: st) h Q) : AW M pc ls (vr a :: st) h Q := aw_getf clk_11 hd ha (k := 7) (by decide) (by rw [ho]; exact fl_X11_50) (by rw [← hr]; rfl) kk
theorem fl_X11_57 : Cond.fieldLink RX11 57 (TX11 8).1 (TX11 8).2.1 (TX11 8).2.2.1 ∈ lw_g := mg3 21 rfl rfl
theorem gf_X11_57 {M : Hd} {pc : Nat} {ls : LoS} {st : List Vl} {h : Mem} {Q : PostV} {a : Nat} (ho : M.2.2.1 = RX11) (hd : decode M.1 pc = .ok (.getfield 57, 3)) (ha : lay a = (0, 11)) {r : Nat} (hr : a + 34 = r) (kk : AW M (pc + 3) ls (vr r :: st) h Q) : AW M pc ls (vr a :: st) h Q := aw_getf clk_11 hd ha (k := 8) (by decide) (by rw [ho]; exact fl_X11_57) (by rw [← hr]; rfl) kk
theorem fl_X11_64 : Cond.fieldLink RX11 64 (TX11 9).1 (TX11 9).2.1 (TX11 9).2.2.1 ∈ lw_g := mg3 22 rfl rfl
theorem gf_X11_64 {M : Hd} {pc : Nat} {ls : LoS} {st : List Vl} {h : Mem} {Q : PostV} {a : Nat} (ho : M.2.2.1 = RX11) (hd : decode M.1 pc = .ok (.getfield 64, 3)) (ha : lay a = (0, 11)) {r : Nat} (hr : a + 42 = r) (kk : AW M (pc + 3) ls (vr r :: st) h Q) : AW M pc ls (vr a :: st) h Q := aw_getf clk_11 hd ha (k := 9) (by decide) (by rw [ho]; exact fl_X11_64) (by rw [← hr]; rfl) kk
theorem fl_X11_71 : Cond.fieldLink RX11 71 (TX11 10).1 (TX11 10).2.1 (TX11 10).2.2.1 ∈ lw_g := mg3 23 rfl rfl
theorem gf_X11_71 {M : Hd} {pc : Nat} {ls : LoS} {st : List Vl} {h : Mem} {Q : PostV} {a : Nat} (ho : M.2.2.1 = RX11) (hd : decode M.1 pc = .ok (.getfield 71, 3)) (ha : lay a = (0, 11)) {r : Nat} (hr : a + 47 = r) (kk : AW M (pc + 3) ls (vr r :: st) h Q) : AW M pc ls (vr a :: st) h Q := aw_getf clk_11 hd ha (k := 10) (by decide) (by rw [ho]; exact fl_X11_71) (by rw [← hr]; rfl) kk
theorem fl_X11_78 : Cond.fieldLink RX11 78 (TX11 11).1 (TX11 11).2.1 (TX11 11).2.2.1 ∈ lw_g := mg3 24 rfl rfl
theorem gf_X11_78 {M : Hd} {pc : Nat} {ls : LoS} {st : List Vl} {h : Mem} {Q : PostV} {a : Nat} (ho : M.2.2.1 = RX11) (hd : decode M.1 pc = .ok (.getfield 78, 3)) (ha : lay a = (0, 11)) {r : Nat} (hr : a + 78 = r) (kk : AW M (pc + 3) ls (vr r :: st) h Q) : AW M pc ls (vr a :: st) h Q := aw_getf clk_11 hd ha (k := 11) (by decide) (by rw [ho]; exact fl_X11_78) (by rw [← hr]; rfl) kk
theorem fl_X11_82 : Cond.fieldLink RX11 82 (TX11 12).1 (TX11 12).2.1 (TX11 12).2.2.1 ∈ lw_g := mg3 25 rfl rfl
theorem gf_X11_82 {M : Hd} {pc : Nat} {ls : LoS} {st : List Vl} {h : Mem} {Q : PostV} {a : Nat} (ho : M.2.2.1 = RX11) (hd : decode M.1 pc = .ok (.getfield 82, 3)) (ha : lay a = (0, 11)) (kk : AW M (pc + 3) ls ((0, h a 12) :: st) h Q) : AW M pc ls (vr a :: st) h Q := aw_getf clk_11 hd ha (k := 12) (by decide) (by rw [ho]; exact fl_X11_82) rfl kk
theorem pf_X11_82 {M : Hd} {pc : Nat} {ls : LoS} {st : List Vl} {h : Mem} {Q : PostV} {a : Nat} {x : Int} (ho : M.2.2.1 = RX11) (hd : decode M.1 pc = .ok (.putfield 82, 3)) (ha : lay a = (0, 11)) (kk : AW M (pc + 3) ls st (mset h a 12 x) Q) : AW M pc ls ((0, x) :: vr a :: st) h Q := aw_puti clk_11 hd ha (k := 12) (by decide) (by rw [ho]; exact fl_X11_82) rfl rfl rfl kk
theorem fl_X11_86 : Cond.fieldLink RX11 86 (TX11 13).1 (TX11 13).2.1 (TX11 13).2.2.1 ∈ lw_g := mg3 26 rfl rfl
theorem gf_X11_86 {M : Hd} {pc : Nat} {ls : LoS} {st : List Vl} {h : Mem} {Q : PostV} {a : Nat} (ho : M.2.2.1 = RX11) (hd : decode M.1 pc = .ok (.getfield 86, 3)) (ha : lay a = (0, 11)) {r : Nat} (hr : a + 80 = r) (kk : AW M (pc + 3) ls (vr r :: st) h Q) : AW M pc ls (vr a :: st) h Q := aw_getf clk_11 hd ha (k := 13) (by decide) (by rw [ho]; exact fl_X11_86) (by rw [← hr]; rfl) kk
theorem fl_X11_90 : Cond.fieldLink RX11 90 (TX11 14).1 (TX11 14).2.1 (TX11 14).2.2.1 ∈ lw_g := mg3 27 rfl rfl
theorem gf_X11_90 {M : Hd} {pc : Nat} {ls : LoS} {st : List Vl} {h : Mem} {Q : PostV} {a : Nat} (ho : M.2.2.1 = RX11) (hd : decode M.1 pc = .ok (.getfield 90, 3)) (ha : lay a = (0, 11)) {r : Nat} (hr : a + 126 = r) (kk : AW M (pc + 3) ls (vr r :: st) h Q) : AW M pc ls (vr a :: st) h Q := aw_getf clk_11 hd ha (k := 14) (by decide) (by rw [ho]; exact fl_X11_90) (by rw [← hr]; rfl) kk
theorem fl_X11_94 : Cond.fieldLink RX11 94 (TX11 15).1 (TX11 15).2.1 (TX11 15).2.2.1 ∈ lw_g := mg3 28 rfl rfl
theorem gf_X11_94 {M : Hd} {pc : Nat} {ls : LoS} {st : List Vl} {h : Mem} {Q : PostV} {a : Nat} (ho : M.2.2.1 = RX11) (hd : decode M.1 pc = .ok (.getfield 94, 3)) (ha : lay a = (0, 11)) {r : Nat} (hr : a + 145 = r) (kk : AW M (pc + 3) ls (vr r :: st) h Q) : AW M pc ls (vr a :: st) h Q := aw_getf clk_11 hd ha (k := 15) (by decide) (by rw [ho]; exact fl_X11_94) (by rw [← hr]; rfl) kk
theorem fl_X11_98 : Cond.fieldLink RX11 98 (TX11 16).1 (TX11 16).2.1 (TX11 16).2.2.1 ∈ lw_g := mg3 29 rfl rfl
theorem gf_X11_98 {M : Hd} {pc : Nat} {ls : LoS} {st : List Vl} {h : Mem} {Q : PostV} {a : Nat} (ho : M.2.2.1 = RX11) (hd : decode M.1 pc = .ok (.getfield 98, 3)) (ha : lay a = (0, 11)) (kk : AW M (pc + 3) ls ((0, h a 16) :: st) h Q) : AW M pc ls (vr a :: st) h Q := aw_getf clk_11 hd ha (k := 16) (by decide) (by rw [ho]; exact fl_X11_98) rfl kk
theorem pf_X11_98 {M : Hd} {pc : Nat} {ls : LoS} {st : List Vl} {h : Mem} {Q : PostV} {a : Nat} {x : Int} (ho : M.2.2.1 = RX11) (hd : decode M.1 pc = .ok (.putfield 98, 3)) (ha : lay a = (0, 11)) (hz : InZ x) (kk : AW M (pc + 3) ls st (mset h a 16 x) Q) : AW M pc ls ((0, x) :: vr a :: st) h Q := aw_putz clk_11 hd ha (k := 16) (by decide) (by rw [ho]; exact fl_X11_98) rfl rfl rfl hz kk
theorem fl_X11_102 : Cond.fieldLink RX11 102 (TX11 0).1 (TX11 0).2.1 (TX11 0).2.2.1 ∈ lw_g := mg3 13 rfl rfl
theorem gf_X11_102 {M : Hd} {pc : Nat} {ls : LoS} {st : List Vl} {h : Mem} {Q : PostV} {a : Nat} (ho : M.2.2.1 = RX11) (hd : decode M.1 pc = .ok (.getfield 102, 3)) (ha : lay a = (0, 11)) (kk : AW M (pc + 3) ls ((0, h a 0) :: st) h Q) : AW M pc ls (vr a :: st) h Q := aw_getf clk_11 hd ha (k := 0) (by decide) (by rw [ho]; exact fl_X11_102) rfl kk
theorem pf_X11_102 {M : Hd} {pc : Nat} {ls : LoS} {st : List Vl} {h : Mem} {Q : PostV} {a : Nat} {x : Int} (ho : M.2.2.1 = RX11) (hd : decode M.1 pc = .ok (.putfield 102, 3)) (ha : lay a = (0, 11)) (kk : AW M (pc + 3) ls st (mset h a 0 x) Q) : AW M pc ls ((0, x) :: vr a :: st) h Q := aw_puti clk_11 hd ha (k := 0) (by decide) (by rw [ho]; exact fl_X11_102) rfl rfl rfl kk
theorem fl_X11_129 : Cond.fieldLink RX11 129 (TX10 2).1 (TX10 2).2.1 (TX10 2).2.2.1 ∈ lw_g := mg1 42 rfl rfl
theorem gf_X11_129 {M : Hd} {pc : Nat} {ls : LoS} {st : List Vl} {h : Mem} {Q : PostV} {a : Nat} (ho : M.2.2.1 = RX11) (hd : decode M.1 pc = .ok (.getfield 129, 3)) (ha : lay a = (0, 10)) {r : Nat} (hr : a + 3 = r) (kk : AW M (pc + 3) ls (vr r :: st) h Q) : AW M pc ls (vr a :: st) h Q := aw_getf clk_10 hd ha (k := 2) (by decide) (by rw [ho]; exact fl_X11_129) (by rw [← hr]; rfl) kk
theorem fl_X11_141 : Cond.fieldLink RX11 141 (TX10 0).1 (TX10 0).2.1 (TX10 0).2.2.1 ∈ lw_g := mg1 38 rfl rfl
theorem gf_X11_141 {M : Hd} {pc : Nat} {ls : LoS} {st : List Vl} {h : Mem} {Q : PostV} {a : Nat} (ho : M.2.2.1 = RX11) (hd : decode M.1 pc = .ok (.getfield 141, 3)) (ha : lay a = (0, 10)) {r : Nat} (hr : a + 1 = r) (kk : AW M (pc + 3) ls (vr r :: st) h Q) : AW M pc ls (vr a :: st) h Q := aw_getf clk_10 hd ha (k := 0) (by decide) (by rw [ho]; exact fl_X11_141) (by rw [← hr]; rfl) kk
theorem fl_X11_144 : Cond.fieldLink RX11 144 (TX10 1).1 (TX10 1).2.1 (TX10 1).2.2.1 ∈ lw_g := mg1 40 rfl rfl
theorem gf_X11_144 {M : Hd} {pc : Nat} {ls : LoS} {st : List Vl} {h : Mem} {Q : PostV} {a : Nat} (ho : M.2.2.1 = RX11) (hd : decode M.1 pc = .ok (.getfield 144, 3)) (ha : lay a = (0, 10)) {r : Nat} (hr : a + 2 = r) (kk : AW M (pc + 3) ls (vr r :: st) h Q) : AW M pc ls (vr a :: st) h Q := aw_getf clk_10 hd ha (k := 1) (by decide) (by rw [ho]; exact fl_X11_144) (by rw [← hr]; rfl) kk
theorem fl_X11_160 : Cond.fieldLink RX11 160 (TX8 1).1 (TX8 1).2.1 (TX8 1).2.2.1 ∈ lw_g := mg1 112 rfl rfl
theorem gf_X11_160 {M : Hd} {pc : Nat} {ls : LoS} {st : List Vl} {h : Mem} {Q : PostV} {a : Nat} (ho : M.2.2.1 = RX11) (hd : decode M.1 pc = .ok (.getfield 160, 3)) (ha : lay a = (0, 8)) (kk : AW M (pc + 3) ls ((0, h a 1) :: st) h Q) : AW M pc ls (vr a :: st) h Q := aw_getf clk_8 hd ha (k := 1) (by decide) (by rw [ho]; exact fl_X11_160) rfl kk
theorem fl_X11_174 : Cond.fieldLink RX11 174 (TX8 9).1 (TX8 9).2.1 (TX8 9).2.2.1 ∈ lw_g := mg1 123 rfl rfl
theorem gf_X11_174 {M : Hd} {pc : Nat} {ls : LoS} {st : List Vl} {h : Mem} {Q : PostV} {a : Nat} (ho : M.2.2.1 = RX11) (hd : decode M.1 pc = .ok (.getfield 174, 3)) (ha : lay a = (0, 8)) (kk : AW M (pc + 3) ls ((0, h a 9) :: st) h Q) : AW M pc ls (vr a :: st) h Q := aw_getf clk_8 hd ha (k := 9) (by decide) (by rw [ho]; exact fl_X11_174) rfl kk
theorem fl_X11_184 : Cond.fieldLink RX11 184 (TX4 7).1 (TX4 7).2.1 (TX4 7).2.2.1 ∈ lw_g := mg2 35 rfl rfl
theorem gf_X11_184 {M : Hd} {pc : Nat} {ls : LoS} {st : List Vl} {h : Mem} {Q : PostV} {a : Nat} (ho : M.2.2.1 = RX11) (hd : decode M.1 pc = .ok (.getfield 184, 3)) (ha : lay a = (0, 4)) {r : Nat} (hr : a + 1 = r) (kk : AW M (pc + 3) ls (vr r :: st) h Q) : AW M pc ls (vr a :: st) h Q := aw_getf clk_4 hd ha (k := 7) (by decide) (by rw [ho]; exact fl_X11_184) (by rw [← hr]; rfl) kk
theorem fl_X11_188 : Cond.fieldLink RX11 188 (TX9 0).1 (TX9 0).2.1 (TX9 0).2.2.1 ∈ lw_g := mg1 167 rfl rfl
theorem gf_X11_188 {M : Hd} {pc : Nat} {ls : LoS} {st : List Vl} {h : Mem} {Q : PostV} {a : Nat} (ho : M.2.2.1 = RX11) (hd : decode M.1 pc = .ok (.getfield 188, 3)) (ha : lay a = (0, 9)) (kk : AW M (pc + 3) ls ((0, h a 0) :: st) h Q) : AW M pc ls (vr a :: st) h Q := aw_getf clk_9 hd ha (k := 0) (by decide) (by rw [ho]; exact fl_X11_188) rfl kk
theorem fl_X11_204 : Cond.fieldLink RX11 204 (TX2 0).1 (TX2 0).2.1 (TX2 0).2.2.1 ∈ lw_g := mg2 129 rfl rfl
theorem gf_X11_204 {M : Hd} {pc : Nat} {ls : LoS} {st : List Vl} {h : Mem} {Q : PostV} {a : Nat} (ho : M.2.2.1 = RX11) (hd : decode M.1 pc = .ok (.getfield 204, 3)) (ha : lay a = (0, 2)) {r : Nat} (hr : a + 1 = r) (kk : AW M (pc + 3) ls (vr r :: st) h Q) : AW M pc ls (vr a :: st) h Q := aw_getf clk_2 hd ha (k := 0) (by decide) (by rw [ho]; exact fl_X11_204) (by rw [← hr]; rfl) kk
theorem fl_X11_208 : Cond.fieldLink RX11 208 (TX1 1).1 (TX1 1).2.1 (TX1 1).2.2.1 ∈ lw_g := mg2 74 rfl rfl
theorem gf_X11_208 {M : Hd} {pc : Nat} {ls : LoS} {st : List Vl} {h : Mem} {Q : PostV} {a : Nat} (ho : M.2.2.1 = RX11) (hd : decode M.1 pc = .ok (.getfield 208, 3)) (ha : lay a = (0, 1)) (kk : AW M (pc + 3) ls ((0, h a 1) :: st) h Q) : AW M pc ls (vr a :: st) h Q := aw_getf clk_1 hd ha (k := 1) (by decide) (by rw [ho]; exact fl_X11_208) rfl kk
theorem fl_X11_211 : Cond.fieldLink RX11 211 (TX8 10).1 (TX8 10).2.1 (TX8 10).2.2.1 ∈ lw_g := mg1 125 rfl rfl
theorem gf_X11_211 {M : Hd} {pc : Nat} {ls : LoS} {st : List Vl} {h : Mem} {Q : PostV} {a : Nat} (ho : M.2.2.1 = RX11) (hd : decode M.1 pc = .ok (.getfield 211, 3)) (ha : lay a = (0, 8)) (kk : AW M (pc + 3) ls ((0, h a 10) :: st) h Q) : AW M pc ls (vr a :: st) h Q := aw_getf clk_8 hd ha (k := 10) (by decide) (by rw [ho]; exact fl_X11_211) rfl kk
theorem fl_X11_214 : Cond.fieldLink RX11 214 (TX4 8).1 (TX4 8).2.1 (TX4 8).2.2.1 ∈ lw_g := mg2 43 rfl rfl
theorem gf_X11_214 {M : Hd} {pc : Nat} {ls : LoS} {st : List Vl} {h : Mem} {Q : PostV} {a : Nat} (ho : M.2.2.1 = RX11) (hd : decode M.1 pc = .ok (.getfield 214, 3)) (ha : lay a = (0, 4)) {r : Nat} (hr : a + 10 = r) (kk : AW M (pc + 3) ls (vr r :: st) h Q) : AW M pc ls (vr a :: st) h Q := aw_getf clk_4 hd ha (k := 8) (by decide) (by rw [ho]; exact fl_X11_214) (by rw [← hr]; rfl) kk
theorem fl_X11_218 : Cond.fieldLink RX11 218 (TX7 0).1 (TX7 0).2.1 (TX7 0).2.2.1 ∈ lw_g := mg1 216 rfl rfl
theorem gf_X11_218 {M : Hd} {pc : Nat} {ls : LoS} {st : List Vl} {h : Mem} {Q : PostV} {a : Nat} (ho : M.2.2.1 = RX11) (hd : decode M.1 pc = .ok (.getfield 218, 3)) (ha : lay a = (0, 7)) (kk : AW M (pc + 3) ls ((0, h a 0) :: st) h Q) : AW M pc ls (vr a :: st) h Q := aw_getf clk_7 hd ha (k := 0) (by decide) (by rw [ho]; exact fl_X11_218) rfl kk
theorem fl_X11_221 : Cond.fieldLink RX11 221 (TX4 0).1 (TX4 0).2.1 (TX4 0).2.2.1 ∈ lw_g := mg2 8 rfl rfl
theorem gf_X11_221 {M : Hd} {pc : Nat} {ls : LoS} {st : List Vl} {h : Mem} {Q : PostV} {a : Nat} (ho : M.2.2.1 = RX11) (hd : decode M.1 pc = .ok (.getfield 221, 3)) (ha : lay a = (0, 4)) (kk : AW M (pc + 3) ls ((0, h a 0) :: st) h Q) : AW M pc ls (vr a :: st) h Q := aw_getf clk_4 hd ha (k := 0) (by decide) (by rw [ho]; exact fl_X11_221) rfl kk
theorem fl_X11_224 : Cond.fieldLink RX11 224 (TX4 1).1 (TX4 1).2.1 (TX4 1).2.2.1 ∈ lw_g := mg2 11 rfl rfl
theorem gf_X11_224 {M : Hd} {pc : Nat} {ls : LoS} {st : List Vl} {h : Mem} {Q : PostV} {a : Nat} (ho : M.2.2.1 = RX11) (hd : decode M.1 pc = .ok (.getfield 224, 3)) (ha : lay a = (0, 4)) (kk : AW M (pc + 3) ls ((0, h a 1) :: st) h Q) : AW M pc ls (vr a :: st) h Q := aw_getf clk_4 hd ha (k := 1) (by decide) (by rw [ho]; exact fl_X11_224) rfl kk
theorem pf_X11_224 {M : Hd} {pc : Nat} {ls : LoS} {st : List Vl} {h : Mem} {Q : PostV} {a : Nat} {x : Int} (ho : M.2.2.1 = RX11) (hd : decode M.1 pc = .ok (.putfield 224, 3)) (ha : lay a = (0, 4)) (kk : AW M (pc + 3) ls st (mset h a 1 x) Q) : AW M pc ls ((0, x) :: vr a :: st) h Q := aw_puti clk_4 hd ha (k := 1) (by decide) (by rw [ho]; exact fl_X11_224) rfl rfl rfl kk
theorem fl_X11_227 : Cond.fieldLink RX11 227 (TX4 2).1 (TX4 2).2.1 (TX4 2).2.2.1 ∈ lw_g := mg2 14 rfl rfl
theorem gf_X11_227 {M : Hd} {pc : Nat} {ls : LoS} {st : List Vl} {h : Mem} {Q : PostV} {a : Nat} (ho : M.2.2.1 = RX11) (hd : decode M.1 pc = .ok (.getfield 227, 3)) (ha : lay a = (0, 4)) (kk : AW M (pc + 3) ls ((0, h a 2) :: st) h Q) : AW M pc ls (vr a :: st) h Q := aw_getf clk_4 hd ha (k := 2) (by decide) (by rw [ho]; exact fl_X11_227) rfl kk
theorem pf_X11_227 {M : Hd} {pc : Nat} {ls : LoS} {st : List Vl} {h : Mem} {Q : PostV} {a : Nat} {x : Int} (ho : M.2.2.1 = RX11) (hd : decode M.1 pc = .ok (.putfield 227, 3)) (ha : lay a = (0, 4)) (kk : AW M (pc + 3) ls st (mset h a 2 x) Q) : AW M pc ls ((0, x) :: vr a :: st) h Q := aw_puti clk_4 hd ha (k := 2) (by decide) (by rw [ho]; exact fl_X11_227) rfl rfl rfl kk
theorem fl_X11_230 : Cond.fieldLink RX11 230 (TX4 5).1 (TX4 5).2.1 (TX4 5).2.2.1 ∈ lw_g := mg2 27 rfl rfl
theorem gf_X11_230 {M : Hd} {pc : Nat} {ls : LoS} {st : List Vl} {h : Mem} {Q : PostV} {a : Nat} (ho : M.2.2.1 = RX11) (hd : decode M.1 pc = .ok (.getfield 230, 3)) (ha : lay a = (0, 4)) (kk : AW M (pc + 3) ls ((0, h a 5) :: st) h Q) : AW M pc ls (vr a :: st) h Q := aw_getf clk_4 hd ha (k := 5) (by decide) (by rw [ho]; exact fl_X11_230) rfl kk
theorem fl_X11_233 : Cond.fieldLink RX11 233 (TX4 3).1 (TX4 3).2.1 (TX4 3).2.2.1 ∈ lw_g := mg2 19 rfl rfl
theorem gf_X11_233 {M : Hd} {pc : Nat} {ls : LoS} {st : List Vl} {h : Mem} {Q : PostV} {a : Nat} (ho : M.2.2.1 = RX11) (hd : decode M.1 pc = .ok (.getfield 233, 3)) (ha : lay a = (0, 4)) (kk : AW M (pc + 3) ls ((0, h a 3) :: st) h Q) : AW M pc ls (vr a :: st) h Q := aw_getf clk_4 hd ha (k := 3) (by decide) (by rw [ho]; exact fl_X11_233) rfl kk
theorem fl_X11_236 : Cond.fieldLink RX11 236 (TX4 4).1 (TX4 4).2.1 (TX4 4).2.2.1 ∈ lw_g := mg2 24 rfl rfl
theorem gf_X11_236 {M : Hd} {pc : Nat} {ls : LoS} {st : List Vl} {h : Mem} {Q : PostV} {a : Nat} (ho : M.2.2.1 = RX11) (hd : decode M.1 pc = .ok (.getfield 236, 3)) (ha : lay a = (0, 4)) (kk : AW M (pc + 3) ls ((0, h a 4) :: st) h Q) : AW M pc ls (vr a :: st) h Q := aw_getf clk_4 hd ha (k := 4) (by decide) (by rw [ho]; exact fl_X11_236) rfl kk
theorem fl_X11_239 : Cond.fieldLink RX11 239 (TX4 6).1 (TX4 6).2.1 (TX4 6).2.2.1 ∈ lw_g := mg2 29 rfl rfl
theorem gf_X11_239 {M : Hd} {pc : Nat} {ls : LoS} {st : List Vl} {h : Mem} {Q : PostV} {a : Nat} (ho : M.2.2.1 = RX11) (hd : decode M.1 pc = .ok (.getfield 239, 3)) (ha : lay a = (0, 4)) (kk : AW M (pc + 3) ls ((0, h a 6) :: st) h Q) : AW M pc ls (vr a :: st) h Q := aw_getf clk_4 hd ha (k := 6) (by decide) (by rw [ho]; exact fl_X11_239) rfl kk
theorem fl_X11_255 : Cond.fieldLink RX11 255 (TX9 2).1 (TX9 2).2.1 (TX9 2).2.2.1 ∈ lw_g := mg1 170 rfl rfl
theorem gf_X11_255 {M : Hd} {pc : Nat} {ls : LoS} {st : List Vl} {h : Mem} {Q : PostV} {a : Nat} (ho : M.2.2.1 = RX11) (hd : decode M.1 pc = .ok (.getfield 255, 3)) (ha : lay a = (0, 9)) {r : Nat} (hr : a + 2 = r) (kk : AW M (pc + 3) ls (vr r :: st) h Q) : AW M pc ls (vr a :: st) h Q := aw_getf clk_9 hd ha (k := 2) (by decide) (by rw [ho]; exact fl_X11_255) (by rw [← hr]; rfl) kk
theorem fl_X11_258 : Cond.fieldLink RX11 258 (TX9 3).1 (TX9 3).2.1 (TX9 3).2.2.1 ∈ lw_g := mg1 172 rfl rfl
theorem gf_X11_258 {M : Hd} {pc : Nat} {ls : LoS} {st : List Vl} {h : Mem} {Q : PostV} {a : Nat} (ho : M.2.2.1 = RX11) (hd : decode M.1 pc = .ok (.getfield 258, 3)) (ha : lay a = (0, 9)) {r : Nat} (hr : a + 3 = r) (kk : AW M (pc + 3) ls (vr r :: st) h Q) : AW M pc ls (vr a :: st) h Q := aw_getf clk_9 hd ha (k := 3) (by decide) (by rw [ho]; exact fl_X11_258) (by rw [← hr]; rfl) kk
theorem fl_X11_261 : Cond.fieldLink RX11 261 (TX9 4).1 (TX9 4).2.1 (TX9 4).2.2.1 ∈ lw_g := mg1 176 rfl rfl
theorem gf_X11_261 {M : Hd} {pc : Nat} {ls : LoS} {st : List Vl} {h : Mem} {Q : PostV} {a : Nat} (ho : M.2.2.1 = RX11) (hd : decode M.1 pc = .ok (.getfield 261, 3)) (ha : lay a = (0, 9)) {r : Nat} (hr : a + 4 = r) (kk : AW M (pc + 3) ls (vr r :: st) h Q) : AW M pc ls (vr a :: st) h Q := aw_getf clk_9 hd ha (k := 4) (by decide) (by rw [ho]; exact fl_X11_261) (by rw [← hr]; rfl) kk
theorem fl_X11_264 : Cond.fieldLink RX11 264 (TX9 5).1 (TX9 5).2.1 (TX9 5).2.2.1 ∈ lw_g := mg1 179 rfl rfl
theorem gf_X11_264 {M : Hd} {pc : Nat} {ls : LoS} {st : List Vl} {h : Mem} {Q : PostV} {a : Nat} (ho : M.2.2.1 = RX11) (hd : decode M.1 pc = .ok (.getfield 264, 3)) (ha : lay a = (0, 9)) {r : Nat} (hr : a + 5 = r) (kk : AW M (pc + 3) ls (vr r :: st) h Q) : AW M pc ls (vr a :: st) h Q := aw_getf clk_9 hd ha (k := 5) (by decide) (by rw [ho]; exact fl_X11_264) (by rw [← hr]; rfl) kk
theorem fl_X11_267 : Cond.fieldLink RX11 267 (TX9 7).1 (TX9 7).2.1 (TX9 7).2.2.1 ∈ lw_g := mg1 184 rfl rfl
theorem gf_X11_267 {M : Hd} {pc : Nat} {ls : LoS} {st : List Vl} {h : Mem} {Q : PostV} {a : Nat} (ho : M.2.2.1 = RX11) (hd : decode M.1 pc = .ok (.getfield 267, 3)) (ha : lay a = (0, 9)) {r : Nat} (hr : a + 7 = r) (kk : AW M (pc + 3) ls (vr r :: st) h Q) : AW M pc ls (vr a :: st) h Q := aw_getf clk_9 hd ha (k := 7) (by decide) (by rw [ho]; exact fl_X11_267) (by rw [← hr]; rfl) kk
theorem fl_X11_270 : Cond.fieldLink RX11 270 (TX9 8).1 (TX9 8).2.1 (TX9 8).2.2.1 ∈ lw_g := mg1 186 rfl rfl
theorem gf_X11_270 {M : Hd} {pc : Nat} {ls : LoS} {st : List Vl} {h : Mem} {Q : PostV} {a : Nat} (ho : M.2.2.1 = RX11) (hd : decode M.1 pc = .ok (.getfield 270, 3)) (ha : lay a = (0, 9)) {r : Nat} (hr : a + 8 = r) (kk : AW M (pc + 3) ls (vr r :: st) h Q) : AW M pc ls (vr a :: st) h Q := aw_getf clk_9 hd ha (k := 8) (by decide) (by rw [ho]; exact fl_X11_270) (by rw [← hr]; rfl) kk
theorem fl_X11_279 : Cond.fieldLink RX11 279 (TX9 6).1 (TX9 6).2.1 (TX9 6).2.2.1 ∈ lw_g := mg1 182 rfl rfl
theorem gf_X11_279 {M : Hd} {pc : Nat} {ls : LoS} {st : List Vl} {h : Mem} {Q : PostV} {a : Nat} (ho : M.2.2.1 = RX11) (hd : decode M.1 pc = .ok (.getfield 279, 3)) (ha : lay a = (0, 9)) {r : Nat} (hr : a + 6 = r) (kk : AW M (pc + 3) ls (vr r :: st) h Q) : AW M pc ls (vr a :: st) h Q := aw_getf clk_9 hd ha (k := 6) (by decide) (by rw [ho]; exact fl_X11_279) (by rw [← hr]; rfl) kk
theorem fl_X11_285 : Cond.fieldLink RX11 285 (TX7 2).1 (TX7 2).2.1 (TX7 2).2.2.1 ∈ lw_g := mg1 219 rfl rfl
theorem gf_X11_285 {M : Hd} {pc : Nat} {ls : LoS} {st : List Vl} {h : Mem} {Q : PostV} {a : Nat} (ho : M.2.2.1 = RX11) (hd : decode M.1 pc = .ok (.getfield 285, 3)) (ha : lay a = (0, 7)) {r : Nat} (hr : a + 2 = r) (kk : AW M (pc + 3) ls (vr r :: st) h Q) : AW M pc ls (vr a :: st) h Q := aw_getf clk_7 hd ha (k := 2) (by decide) (by rw [ho]; exact fl_X11_285) (by rw [← hr]; rfl) kk
theorem fl_X11_286 : Cond.fieldLink RX11 286 (TX7 3).1 (TX7 3).2.1 (TX7 3).2.2.1 ∈ lw_g := mg1 221 rfl rfl
theorem gf_X11_286 {M : Hd} {pc : Nat} {ls : LoS} {st : List Vl} {h : Mem} {Q : PostV} {a : Nat} (ho : M.2.2.1 = RX11) (hd : decode M.1 pc = .ok (.getfield 286, 3)) (ha : lay a = (0, 7)) {r : Nat} (hr : a + 3 = r) (kk : AW M (pc + 3) ls (vr r :: st) h Q) : AW M pc ls (vr a :: st) h Q := aw_getf clk_7 hd ha (k := 3) (by decide) (by rw [ho]; exact fl_X11_286) (by rw [← hr]; rfl) kk
theorem fl_X11_289 : Cond.fieldLink RX11 289 (TX7 4).1 (TX7 4).2.1 (TX7 4).2.2.1 ∈ lw_g := mg1 226 rfl rfl
theorem gf_X11_289 {M : Hd} {pc : Nat} {ls : LoS} {st : List Vl} {h : Mem} {Q : PostV} {a : Nat} (ho : M.2.2.1 = RX11) (hd : decode M.1 pc = .ok (.getfield 289, 3)) (ha : lay a = (0, 7)) {r : Nat} (hr : a + 4 = r) (kk : AW M (pc + 3) ls (vr r :: st) h Q) : AW M pc ls (vr a :: st) h Q := aw_getf clk_7 hd ha (k := 4) (by decide) (by rw [ho]; exact fl_X11_289) (by rw [← hr]; rfl) kk
theorem fl_X11_342 : Cond.fieldLink RX11 342 (TX0 1).1 (TX0 1).2.1 (TX0 1).2.2.1 ∈ lw_g := mg2 154 rfl rfl
theorem gf_X11_342 {M : Hd} {pc : Nat} {ls : LoS} {st : List Vl} {h : Mem} {Q : PostV} {a : Nat} (ho : M.2.2.1 = RX11) (hd : decode M.1 pc = .ok (.getfield 342, 3)) (ha : lay a = (0, 0)) (kk : AW M (pc + 3) ls ((0, h a 1) :: st) h Q) : AW M pc ls (vr a :: st) h Q := aw_getf clk_0 hd ha (k := 1) (by decide) (by rw [ho]; exact fl_X11_342) rfl kk
theorem fl_X11_345 : Cond.fieldLink RX11 345 (TX0 0).1 (TX0 0).2.1 (TX0 0).2.2.1 ∈ lw_g := mg2 152 rfl rfl
theorem gf_X11_345 {M : Hd} {pc : Nat} {ls : LoS} {st : List Vl} {h : Mem} {Q : PostV} {a : Nat} (ho : M.2.2.1 = RX11) (hd : decode M.1 pc = .ok (.getfield 345, 3)) (ha : lay a = (0, 0)) (kk : AW M (pc + 3) ls ((0, h a 0) :: st) h Q) : AW M pc ls (vr a :: st) h Q := aw_getf clk_0 hd ha (k := 0) (by decide) (by rw [ho]; exact fl_X11_345) rfl kk
theorem fl_X11_352 : Cond.fieldLink RX11 352 (TX0 2).1 (TX0 2).2.1 (TX0 2).2.2.1 ∈ lw_g := mg2 156 rfl rfl
theorem gf_X11_352 {M : Hd} {pc : Nat} {ls : LoS} {st : List Vl} {h : Mem} {Q : PostV} {a : Nat} (ho : M.2.2.1 = RX11) (hd : decode M.1 pc = .ok (.getfield 352, 3)) (ha : lay a = (0, 0)) (kk : AW M (pc + 3) ls ((0, h a 2) :: st) h Q) : AW M pc ls (vr a :: st) h Q := aw_getf clk_0 hd ha (k := 2) (by decide) (by rw [ho]; exact fl_X11_352) rfl kk
theorem fl_X11_381 : Cond.fieldLink RX11 381 (TX0 3).1 (TX0 3).2.1 (TX0 3).2.2.1 ∈ lw_g := mg2 158 rfl rfl
theorem gf_X11_381 {M : Hd} {pc : Nat} {ls : LoS} {st : List Vl} {h : Mem} {Q : PostV} {a : Nat} (ho : M.2.2.1 = RX11) (hd : decode M.1 pc = .ok (.getfield 381, 3)) (ha : lay a = (0, 0)) (kk : AW M (pc + 3) ls ((0, h a 3) :: st) h Q) : AW M pc ls (vr a :: st) h Q := aw_getf clk_0 hd ha (k := 3) (by decide) (by rw [ho]; exact fl_X11_381) rfl kk
theorem fl_X11_388 : Cond.fieldLink RX11 388 (TX3 0).1 (TX3 0).2.1 (TX3 0).2.2.1 ∈ lw_g := mg2 190 rfl rfl
theorem gf_X11_388 {M : Hd} {pc : Nat} {ls : LoS} {st : List Vl} {h : Mem} {Q : PostV} {a : Nat} (ho : M.2.2.1 = RX11) (hd : decode M.1 pc = .ok (.getfield 388, 3)) (ha : lay a = (0, 3)) (kk : AW M (pc + 3) ls ((0, h a 0) :: st) h Q) : AW M pc ls (vr a :: st) h Q := aw_getf clk_3 hd ha (k := 0) (by decide) (by rw [ho]; exact fl_X11_388) rfl kk
theorem fl_X11_389 : Cond.fieldLink RX11 389 (TX3 1).1 (TX3 1).2.1 (TX3 1).2.2.1 ∈ lw_g := mg2 192 rfl rfl
theorem gf_X11_389 {M : Hd} {pc : Nat} {ls : LoS} {st : List Vl} {h : Mem} {Q : PostV} {a : Nat} (ho : M.2.2.1 = RX11) (hd : decode M.1 pc = .ok (.getfield 389, 3)) (ha : lay a = (0, 3)) (kk : AW M (pc + 3) ls ((0, h a 1) :: st) h Q) : AW M pc ls (vr a :: st) h Q := aw_getf clk_3 hd ha (k := 1) (by decide) (by rw [ho]; exact fl_X11_389) rfl kk
theorem fl_X11_392 : Cond.fieldLink RX11 392 (TX3 2).1 (TX3 2).2.1 (TX3 2).2.2.1 ∈ lw_g := mg2 194 rfl rfl
theorem gf_X11_392 {M : Hd} {pc : Nat} {ls : LoS} {st : List Vl} {h : Mem} {Q : PostV} {a : Nat} (ho : M.2.2.1 = RX11) (hd : decode M.1 pc = .ok (.getfield 392, 3)) (ha : lay a = (0, 3)) (kk : AW M (pc + 3) ls ((0, h a 2) :: st) h Q) : AW M pc ls (vr a :: st) h Q := aw_getf clk_3 hd ha (k := 2) (by decide) (by rw [ho]; exact fl_X11_392) rfl kk
theorem fl_X11_415 : Cond.fieldLink RX11 415 (TX1 0).1 (TX1 0).2.1 (TX1 0).2.2.1 ∈ lw_g := mg2 71 rfl rfl
theorem gf_X11_415 {M : Hd} {pc : Nat} {ls : LoS} {st : List Vl} {h : Mem} {Q : PostV} {a : Nat} (ho : M.2.2.1 = RX11) (hd : decode M.1 pc = .ok (.getfield 415, 3)) (ha : lay a = (0, 1)) (kk : AW M (pc + 3) ls ((0, h a 0) :: st) h Q) : AW M pc ls (vr a :: st) h Q := aw_getf clk_1 hd ha (k := 0) (by decide) (by rw [ho]; exact fl_X11_415) rfl kk
theorem fl_X11_425 : Cond.fieldLink RX11 425 (TX6 1).1 (TX6 1).2.1 (TX6 1).2.2.1 ∈ lw_g := mg2 229 rfl rfl
theorem gf_X11_425 {M : Hd} {pc : Nat} {ls : LoS} {st : List Vl} {h : Mem} {Q : PostV} {a : Nat} (ho : M.2.2.1 = RX11) (hd : decode M.1 pc = .ok (.getfield 425, 3)) (ha : lay a = (0, 6)) (kk : AW M (pc + 3) ls ((0, h a 1) :: st) h Q) : AW M pc ls (vr a :: st) h Q := aw_getf clk_6 hd ha (k := 1) (by decide) (by rw [ho]; exact fl_X11_425) rfl kk
theorem fl_X11_428 : Cond.fieldLink RX11 428 (TX6 2).1 (TX6 2).2.1 (TX6 2).2.2.1 ∈ lw_g := mg2 231 rfl rfl
theorem gf_X11_428 {M : Hd} {pc : Nat} {ls : LoS} {st : List Vl} {h : Mem} {Q : PostV} {a : Nat} (ho : M.2.2.1 = RX11) (hd : decode M.1 pc = .ok (.getfield 428, 3)) (ha : lay a = (0, 6)) (kk : AW M (pc + 3) ls ((0, h a 2) :: st) h Q) : AW M pc ls (vr a :: st) h Q := aw_getf clk_6 hd ha (k := 2) (by decide) (by rw [ho]; exact fl_X11_428) rfl kk
theorem fl_X11_431 : Cond.fieldLink RX11 431 (TX6 0).1 (TX6 0).2.1 (TX6 0).2.2.1 ∈ lw_g := mg2 227 rfl rfl
theorem gf_X11_431 {M : Hd} {pc : Nat} {ls : LoS} {st : List Vl} {h : Mem} {Q : PostV} {a : Nat} (ho : M.2.2.1 = RX11) (hd : decode M.1 pc = .ok (.getfield 431, 3)) (ha : lay a = (0, 6)) (kk : AW M (pc + 3) ls ((0, h a 0) :: st) h Q) : AW M pc ls (vr a :: st) h Q := aw_getf clk_6 hd ha (k := 0) (by decide) (by rw [ho]; exact fl_X11_431) rfl kk
theorem fl_X0_11 : Cond.fieldLink RX0 11 (TX0 4).1 (TX0 4).2.1 (TX0 4).2.2.1 ∈ lw_g := mg2 159 rfl rfl
theorem gf_X0_11 {M : Hd} {pc : Nat} {ls : LoS} {st : List Vl} {h : Mem} {Q : PostV} {a : Nat} (ho : M.2.2.1 = RX0) (hd : decode M.1 pc = .ok (.getfield 11, 3)) (ha : lay a = (0, 0)) {r : Nat} (hr : a + 1 = r) (kk : AW M (pc + 3) ls (vr r :: st) h Q) : AW M pc ls (vr a :: st) h Q := aw_getf clk_0 hd ha (k := 4) (by decide) (by rw [ho]; exact fl_X0_11) (by rw [← hr]; rfl) kk
theorem fl_X0_15 : Cond.fieldLink RX0 15 (TX0 5).1 (TX0 5).2.1 (TX0 5).2.2.1 ∈ lw_g := mg2 160 rfl rfl
theorem gf_X0_15 {M : Hd} {pc : Nat} {ls : LoS} {st : List Vl} {h : Mem} {Q : PostV} {a : Nat} (ho : M.2.2.1 = RX0) (hd : decode M.1 pc = .ok (.getfield 15, 3)) (ha : lay a = (0, 0)) {r : Nat} (hr : a + 2 = r) (kk : AW M (pc + 3) ls (vr r :: st) h Q) : AW M pc ls (vr a :: st) h Q := aw_getf clk_0 hd ha (k := 5) (by decide) (by rw [ho]; exact fl_X0_15) (by rw [← hr]; rfl) kk
theorem fl_X0_18 : Cond.fieldLink RX0 18 (TX0 6).1 (TX0 6).2.1 (TX0 6).2.2.1 ∈ lw_g := mg2 161 rfl rfl
theorem gf_X0_18 {M : Hd} {pc : Nat} {ls : LoS} {st : List Vl} {h : Mem} {Q : PostV} {a : Nat} (ho : M.2.2.1 = RX0) (hd : decode M.1 pc = .ok (.getfield 18, 3)) (ha : lay a = (0, 0)) {r : Nat} (hr : a + 3 = r) (kk : AW M (pc + 3) ls (vr r :: st) h Q) : AW M pc ls (vr a :: st) h Q := aw_getf clk_0 hd ha (k := 6) (by decide) (by rw [ho]; exact fl_X0_18) (by rw [← hr]; rfl) kk
theorem fl_X0_21 : Cond.fieldLink RX0 21 (TX0 7).1 (TX0 7).2.1 (TX0 7).2.2.1 ∈ lw_g := mg2 162 rfl rfl
theorem gf_X0_21 {M : Hd} {pc : Nat} {ls : LoS} {st : List Vl} {h : Mem} {Q : PostV} {a : Nat} (ho : M.2.2.1 = RX0) (hd : decode M.1 pc = .ok (.getfield 21, 3)) (ha : lay a = (0, 0)) {r : Nat} (hr : a + 4 = r) (kk : AW M (pc + 3) ls (vr r :: st) h Q) : AW M pc ls (vr a :: st) h Q := aw_getf clk_0 hd ha (k := 7) (by decide) (by rw [ho]; exact fl_X0_21) (by rw [← hr]; rfl) kk
theorem fl_X0_25 : Cond.fieldLink RX0 25 (TX4 7).1 (TX4 7).2.1 (TX4 7).2.2.1 ∈ lw_g := mg2 31 rfl rfl
theorem gf_X0_25 {M : Hd} {pc : Nat} {ls : LoS} {st : List Vl} {h : Mem} {Q : PostV} {a : Nat} (ho : M.2.2.1 = RX0) (hd : decode M.1 pc = .ok (.getfield 25, 3)) (ha : lay a = (0, 4)) {r : Nat} (hr : a + 1 = r) (kk : AW M (pc + 3) ls (vr r :: st) h Q) : AW M pc ls (vr a :: st) h Q := aw_getf clk_4 hd ha (k := 7) (by decide) (by rw [ho]; exact fl_X0_25) (by rw [← hr]; rfl) kk
theorem fl_X0_37 : Cond.fieldLink RX0 37 (TX4 3).1 (TX4 3).2.1 (TX4 3).2.2.1 ∈ lw_g := mg2 16 rfl rfl
theorem gf_X0_37 {M : Hd} {pc : Nat} {ls : LoS} {st : List Vl} {h : Mem} {Q : PostV} {a : Nat} (ho : M.2.2.1 = RX0) (hd : decode M.1 pc = .ok (.getfield 37, 3)) (ha : lay a = (0, 4)) (kk : AW M (pc + 3) ls ((0, h a 3) :: st) h Q) : AW M pc ls (vr a :: st) h Q := aw_getf clk_4 hd ha (k := 3) (by decide) (by rw [ho]; exact fl_X0_37) rfl kk
theorem fl_X0_41 : Cond.fieldLink RX0 41 (TX4 4).1 (TX4 4).2.1 (TX4 4).2.2.1 ∈ lw_g := mg2 21 rfl rfl
theorem gf_X0_41 {M : Hd} {pc : Nat} {ls : LoS} {st : List Vl} {h : Mem} {Q : PostV} {a : Nat} (ho : M.2.2.1 = RX0) (hd : decode M.1 pc = .ok (.getfield 41, 3)) (ha : lay a = (0, 4)) (kk : AW M (pc + 3) ls ((0, h a 4) :: st) h Q) : AW M pc ls (vr a :: st) h Q := aw_getf clk_4 hd ha (k := 4) (by decide) (by rw [ho]; exact fl_X0_41) rfl kk
theorem fl_X0_52 : Cond.fieldLink RX0 52 (TX4 0).1 (TX4 0).2.1 (TX4 0).2.2.1 ∈ lw_g := mg2 4 rfl rfl
theorem gf_X0_52 {M : Hd} {pc : Nat} {ls : LoS} {st : List Vl} {h : Mem} {Q : PostV} {a : Nat} (ho : M.2.2.1 = RX0) (hd : decode M.1 pc = .ok (.getfield 52, 3)) (ha : lay a = (0, 4)) (kk : AW M (pc + 3) ls ((0, h a 0) :: st) h Q) : AW M pc ls (vr a :: st) h Q := aw_getf clk_4 hd ha (k := 0) (by decide) (by rw [ho]; exact fl_X0_52) rfl kk
theorem fl_X0_66 : Cond.fieldLink RX0 66 (TX0 0).1 (TX0 0).2.1 (TX0 0).2.2.1 ∈ lw_g := mg2 151 rfl rfl
theorem gf_X0_66 {M : Hd} {pc : Nat} {ls : LoS} {st : List Vl} {h : Mem} {Q : PostV} {a : Nat} (ho : M.2.2.1 = RX0) (hd : decode M.1 pc = .ok (.getfield 66, 3)) (ha : lay a = (0, 0)) (kk : AW M (pc + 3) ls ((0, h a 0) :: st) h Q) : AW M pc ls (vr a :: st) h Q := aw_getf clk_0 hd ha (k := 0) (by decide) (by rw [ho]; exact fl_X0_66) rfl kk
theorem pf_X0_66 {M : Hd} {pc : Nat} {ls : LoS} {st : List Vl} {h : Mem} {Q : PostV} {a : Nat} {x : Int} (ho : M.2.2.1 = RX0) (hd : decode M.1 pc = .ok (.putfield 66, 3)) (ha : lay a = (0, 0)) (kk : AW M (pc + 3) ls st (mset h a 0 x) Q) : AW M pc ls ((0, x) :: vr a :: st) h Q := aw_puti clk_0 hd ha (k := 0) (by decide) (by rw [ho]; exact fl_X0_66) rfl rfl rfl kk
theorem fl_X0_69 : Cond.fieldLink RX0 69 (TX0 1).1 (TX0 1).2.1 (TX0 1).2.2.1 ∈ lw_g := mg2 153 rfl rfl
theorem pf_X0_69 {M : Hd} {pc : Nat} {ls : LoS} {st : List Vl} {h : Mem} {Q : PostV} {a : Nat} {x : Int} (ho : M.2.2.1 = RX0) (hd : decode M.1 pc = .ok (.putfield 69, 3)) (ha : lay a = (0, 0)) (kk : AW M (pc + 3) ls st (mset h a 1 x) Q) : AW M pc ls ((0, x) :: vr a :: st) h Q := aw_puti clk_0 hd ha (k := 1) (by decide) (by rw [ho]; exact fl_X0_69) rfl rfl rfl kk
theorem fl_X0_79 : Cond.fieldLink RX0 79 (TX4 8).1 (TX4 8).2.1 (TX4 8).2.2.1 ∈ lw_g := mg2 39 rfl rfl
theorem gf_X0_79 {M : Hd} {pc : Nat} {ls : LoS} {st : List Vl} {h : Mem} {Q : PostV} {a : Nat} (ho : M.2.2.1 = RX0) (hd : decode M.1 pc = .ok (.getfield 79, 3)) (ha : lay a = (0, 4)) {r : Nat} (hr : a + 10 = r) (kk : AW M (pc + 3) ls (vr r :: st) h Q) : AW M pc ls (vr a :: st) h Q := aw_getf clk_4 hd ha (k := 8) (by decide) (by rw [ho]; exact fl_X0_79) (by rw [← hr]; rfl) kk
theorem fl_X0_83 : Cond.fieldLink RX0 83 (TX7 4).1 (TX7 4).2.1 (TX7 4).2.2.1 ∈ lw_g := mg1 224 rfl rfl
theorem gf_X0_83 {M : Hd} {pc : Nat} {ls : LoS} {st : List Vl} {h : Mem} {Q : PostV} {a : Nat} (ho : M.2.2.1 = RX0) (hd : decode M.1 pc = .ok (.getfield 83, 3)) (ha : lay a = (0, 7)) {r : Nat} (hr : a + 4 = r) (kk : AW M (pc + 3) ls (vr r :: st) h Q) : AW M pc ls (vr a :: st) h Q := aw_getf clk_7 hd ha (k := 4) (by decide) (by rw [ho]; exact fl_X0_83) (by rw [← hr]; rfl) kk
theorem fl_X0_89 : Cond.fieldLink RX0 89 (TX0 2).1 (TX0 2).2.1 (TX0 2).2.2.1 ∈ lw_g := mg2 155 rfl rfl
theorem pf_X0_89 {M : Hd} {pc : Nat} {ls : LoS} {st : List Vl} {h : Mem} {Q : PostV} {a : Nat} {x : Int} (ho : M.2.2.1 = RX0) (hd : decode M.1 pc = .ok (.putfield 89, 3)) (ha : lay a = (0, 0)) (kk : AW M (pc + 3) ls st (mset h a 2 x) Q) : AW M pc ls ((0, x) :: vr a :: st) h Q := aw_puti clk_0 hd ha (k := 2) (by decide) (by rw [ho]; exact fl_X0_89) rfl rfl rfl kk
theorem fl_X0_94 : Cond.fieldLink RX0 94 (TX9 4).1 (TX9 4).2.1 (TX9 4).2.2.1 ∈ lw_g := mg1 175 rfl rfl
theorem gf_X0_94 {M : Hd} {pc : Nat} {ls : LoS} {st : List Vl} {h : Mem} {Q : PostV} {a : Nat} (ho : M.2.2.1 = RX0) (hd : decode M.1 pc = .ok (.getfield 94, 3)) (ha : lay a = (0, 9)) {r : Nat} (hr : a + 4 = r) (kk : AW M (pc + 3) ls (vr r :: st) h Q) : AW M pc ls (vr a :: st) h Q := aw_getf clk_9 hd ha (k := 4) (by decide) (by rw [ho]; exact fl_X0_94) (by rw [← hr]; rfl) kk
theorem fl_X0_113 : Cond.fieldLink RX0 113 (TX0 3).1 (TX0 3).2.1 (TX0 3).2.2.1 ∈ lw_g := mg2 157 rfl rfl
theorem gf_X0_113 {M : Hd} {pc : Nat} {ls : LoS} {st : List Vl} {h : Mem} {Q : PostV} {a : Nat} (ho : M.2.2.1 = RX0) (hd : decode M.1 pc = .ok (.getfield 113, 3)) (ha : lay a = (0, 0)) (kk : AW M (pc + 3) ls ((0, h a 3) :: st) h Q) : AW M pc ls (vr a :: st) h Q := aw_getf clk_0 hd ha (k := 3) (by decide) (by rw [ho]; exact fl_X0_113) rfl kk
theorem pf_X0_113 {M : Hd} {pc : Nat} {ls : LoS} {st : List Vl} {h : Mem} {Q : PostV} {a : Nat} {x : Int} (ho : M.2.2.1 = RX0) (hd : decode M.1 pc = .ok (.putfield 113, 3)) (ha : lay a = (0, 0)) (kk : AW M (pc + 3) ls st (mset h a 3 x) Q) : AW M pc ls ((0, x) :: vr a :: st) h Q := aw_puti clk_0 hd ha (k := 3) (by decide) (by rw [ho]; exact fl_X0_113) rfl rfl rfl kk
theorem fl_X1_7 : Cond.fieldLink RX1 7 (TX1 0).1 (TX1 0).2.1 (TX1 0).2.2.1 ∈ lw_g := mg2 69 rfl rfl
theorem gf_X1_7 {M : Hd} {pc : Nat} {ls : LoS} {st : List Vl} {h : Mem} {Q : PostV} {a : Nat} (ho : M.2.2.1 = RX1) (hd : decode M.1 pc = .ok (.getfield 7, 3)) (ha : lay a = (0, 1)) (kk : AW M (pc + 3) ls ((0, h a 0) :: st) h Q) : AW M pc ls (vr a :: st) h Q := aw_getf clk_1 hd ha (k := 0) (by decide) (by rw [ho]; exact fl_X1_7) rfl kk
theorem pf_X1_7 {M : Hd} {pc : Nat} {ls : LoS} {st : List Vl} {h : Mem} {Q : PostV} {a : Nat} {x : Int} (ho : M.2.2.1 = RX1) (hd : decode M.1 pc = .ok (.putfield 7, 3)) (ha : lay a = (0, 1)) (hz : InZ x) (kk : AW M (pc + 3) ls st (mset h a 0 x) Q) : AW M pc ls ((0, x) :: vr a :: st) h Q := aw_putz clk_1 hd ha (k := 0) (by decide) (by rw [ho]; exact fl_X1_7) rfl rfl rfl hz kk
theorem fl_X1_13 : Cond.fieldLink RX1 13 (TX1 1).1 (TX1 1).2.1 (TX1 1).2.2.1 ∈ lw_g := mg2 72 rfl rfl
theorem gf_X1_13 {M : Hd} {pc : Nat} {ls : LoS} {st : List Vl} {h : Mem} {Q : PostV} {a : Nat} (ho : M.2.2.1 = RX1) (hd : decode M.1 pc = .ok (.getfield 13, 3)) (ha : lay a = (0, 1)) (kk : AW M (pc + 3) ls ((0, h a 1) :: st) h Q) : AW M pc ls (vr a :: st) h Q := aw_getf clk_1 hd ha (k := 1) (by decide) (by rw [ho]; exact fl_X1_13) rfl kk
theorem pf_X1_13 {M : Hd} {pc : Nat} {ls : LoS} {st : List Vl} {h : Mem} {Q : PostV} {a : Nat} {x : Int} (ho : M.2.2.1 = RX1) (hd : decode M.1 pc = .ok (.putfield 13, 3)) (ha : lay a = (0, 1)) (kk : AW M (pc + 3) ls st (mset h a 1 x) Q) : AW M pc ls ((0, x) :: vr a :: st) h Q := aw_puti clk_1 hd ha (k := 1) (by decide) (by rw [ho]; exact fl_X1_13) rfl rfl rfl kk
theorem fl_X1_17 : Cond.fieldLink RX1 17 (TX1 2).1 (TX1 2).2.1 (TX1 2).2.2.1 ∈ lw_g := mg2 75 rfl rfl
theorem gf_X1_17 {M : Hd} {pc : Nat} {ls : LoS} {st : List Vl} {h : Mem} {Q : PostV} {a : Nat} (ho : M.2.2.1 = RX1) (hd : decode M.1 pc = .ok (.getfield 17, 3)) (ha : lay a = (0, 1)) (kk : AW M (pc + 3) ls ((0, h a 2) :: st) h Q) : AW M pc ls (vr a :: st) h Q := aw_getf clk_1 hd ha (k := 2) (by decide) (by rw [ho]; exact fl_X1_17) rfl kk
theorem pf_X1_17 {M : Hd} {pc : Nat} {ls : LoS} {st : List Vl} {h : Mem} {Q : PostV} {a : Nat} {x : Int} (ho : M.2.2.1 = RX1) (hd : decode M.1 pc = .ok (.putfield 17, 3)) (ha : lay a = (0, 1)) (kk : AW M (pc + 3) ls st (mset h a 2 x) Q) : AW M pc ls ((0, x) :: vr a :: st) h Q := aw_puti clk_1 hd ha (k := 2) (by decide) (by rw [ho]; exact fl_X1_17) rfl rfl rfl kk
theorem fl_X1_20 : Cond.fieldLink RX1 20 (TX1 3).1 (TX1 3).2.1 (TX1 3).2.2.1 ∈ lw_g := mg2 77 rfl rfl
theorem gf_X1_20 {M : Hd} {pc : Nat} {ls : LoS} {st : List Vl} {h : Mem} {Q : PostV} {a : Nat} (ho : M.2.2.1 = RX1) (hd : decode M.1 pc = .ok (.getfield 20, 3)) (ha : lay a = (0, 1)) {r : Nat} (hr : a + 1 = r) (kk : AW M (pc + 3) ls (vr r :: st) h Q) : AW M pc ls (vr a :: st) h Q := aw_getf clk_1 hd ha (k := 3) (by decide) (by rw [ho]; exact fl_X1_20) (by rw [← hr]; rfl) kk
theorem fl_X1_24 : Cond.fieldLink RX1 24 (TX1 4).1 (TX1 4).2.1 (TX1 4).2.2.1 ∈ lw_g := mg2 79 rfl rfl
theorem gf_X1_24 {M : Hd} {pc : Nat} {ls : LoS} {st : List Vl} {h : Mem} {Q : PostV} {a : Nat} (ho : M.2.2.1 = RX1) (hd : decode M.1 pc = .ok (.getfield 24, 3)) (ha : lay a = (0, 1)) {r : Nat} (hr : a + 2 = r) (kk : AW M (pc + 3) ls (vr r :: st) h Q) : AW M pc ls (vr a :: st) h Q := aw_getf clk_1 hd ha (k := 4) (by decide) (by rw [ho]; exact fl_X1_24) (by rw [← hr]; rfl) kk
theorem fl_X1_27 : Cond.fieldLink RX1 27 (TX1 5).1 (TX1 5).2.1 (TX1 5).2.2.1 ∈ lw_g := mg2 81 rfl rfl
theorem gf_X1_27 {M : Hd} {pc : Nat} {ls : LoS} {st : List Vl} {h : Mem} {Q : PostV} {a : Nat} (ho : M.2.2.1 = RX1) (hd : decode M.1 pc = .ok (.getfield 27, 3)) (ha : lay a = (0, 1)) {r : Nat} (hr : a + 3 = r) (kk : AW M (pc + 3) ls (vr r :: st) h Q) : AW M pc ls (vr a :: st) h Q := aw_getf clk_1 hd ha (k := 5) (by decide) (by rw [ho]; exact fl_X1_27) (by rw [← hr]; rfl) kk
theorem fl_X1_30 : Cond.fieldLink RX1 30 (TX1 6).1 (TX1 6).2.1 (TX1 6).2.2.1 ∈ lw_g := mg2 83 rfl rfl
theorem gf_X1_30 {M : Hd} {pc : Nat} {ls : LoS} {st : List Vl} {h : Mem} {Q : PostV} {a : Nat} (ho : M.2.2.1 = RX1) (hd : decode M.1 pc = .ok (.getfield 30, 3)) (ha : lay a = (0, 1)) {r : Nat} (hr : a + 4 = r) (kk : AW M (pc + 3) ls (vr r :: st) h Q) : AW M pc ls (vr a :: st) h Q := aw_getf clk_1 hd ha (k := 6) (by decide) (by rw [ho]; exact fl_X1_30) (by rw [← hr]; rfl) kk
theorem fl_X1_33 : Cond.fieldLink RX1 33 (TX1 7).1 (TX1 7).2.1 (TX1 7).2.2.1 ∈ lw_g := mg2 85 rfl rfl
theorem gf_X1_33 {M : Hd} {pc : Nat} {ls : LoS} {st : List Vl} {h : Mem} {Q : PostV} {a : Nat} (ho : M.2.2.1 = RX1) (hd : decode M.1 pc = .ok (.getfield 33, 3)) (ha : lay a = (0, 1)) {r : Nat} (hr : a + 5 = r) (kk : AW M (pc + 3) ls (vr r :: st) h Q) : AW M pc ls (vr a :: st) h Q := aw_getf clk_1 hd ha (k := 7) (by decide) (by rw [ho]; exact fl_X1_33) (by rw [← hr]; rfl) kk
theorem fl_X2_12 : Cond.fieldLink RX2 12 (TX2 0).1 (TX2 0).2.1 (TX2 0).2.2.1 ∈ lw_g := mg2 128 rfl rfl
theorem gf_X2_12 {M : Hd} {pc : Nat} {ls : LoS} {st : List Vl} {h : Mem} {Q : PostV} {a : Nat} (ho : M.2.2.1 = RX2) (hd : decode M.1 pc = .ok (.getfield 12, 3)) (ha : lay a = (0, 2)) {r : Nat} (hr : a + 1 = r) (kk : AW M (pc + 3) ls (vr r :: st) h Q) : AW M pc ls (vr a :: st) h Q := aw_getf clk_2 hd ha (k := 0) (by decide) (by rw [ho]; exact fl_X2_12) (by rw [← hr]; rfl) kk
theorem fl_X2_18 : Cond.fieldLink RX2 18 (TX2 3).1 (TX2 3).2.1 (TX2 3).2.2.1 ∈ lw_g := mg2 132 rfl rfl
theorem gf_X2_18 {M : Hd} {pc : Nat} {ls : LoS} {st : List Vl} {h : Mem} {Q : PostV} {a : Nat} (ho : M.2.2.1 = RX2) (hd : decode M.1 pc = .ok (.getfield 18, 3)) (ha : lay a = (0, 2)) {r : Nat} (hr : a + 7 = r) (kk : AW M (pc + 3) ls (vr r :: st) h Q) : AW M pc ls (vr a :: st) h Q := aw_getf clk_2 hd ha (k := 3) (by decide) (by rw [ho]; exact fl_X2_18) (by rw [← hr]; rfl) kk
theorem fl_X2_22 : Cond.fieldLink RX2 22 (TX2 1).1 (TX2 1).2.1 (TX2 1).2.2.1 ∈ lw_g := mg2 130 rfl rfl
theorem gf_X2_22 {M : Hd} {pc : Nat} {ls : LoS} {st : List Vl} {h : Mem} {Q : PostV} {a : Nat} (ho : M.2.2.1 = RX2) (hd : decode M.1 pc = .ok (.getfield 22, 3)) (ha : lay a = (0, 2)) (kk : AW M (pc + 3) ls ((2, h a 1) :: st) h Q) : AW M pc ls (vr a :: st) h Q := aw_getf clk_2 hd ha (k := 1) (by decide) (by rw [ho]; exact fl_X2_22) rfl kk
theorem pf_X2_22 {M : Hd} {pc : Nat} {ls : LoS} {st : List Vl} {h : Mem} {Q : PostV} {a : Nat} {b : Nat} (ho : M.2.2.1 = RX2) (hd : decode M.1 pc = .ok (.putfield 22, 3)) (ha : lay a = (0, 2)) (hb : b < 181) (kk : AW M (pc + 3) ls st (mset h a 1 (b : Int)) Q) : AW M pc ls (vr b :: vr a :: st) h Q := aw_putr (E := "ForgetStream$Text") clk_2 hd ha (k := 1) (by decide) (by rw [ho]; exact fl_X2_22) rfl rfl rfl hb kk
theorem fl_X2_26 : Cond.fieldLink RX2 26 (TX2 2).1 (TX2 2).2.1 (TX2 2).2.2.1 ∈ lw_g := mg2 131 rfl rfl
theorem gf_X2_26 {M : Hd} {pc : Nat} {ls : LoS} {st : List Vl} {h : Mem} {Q : PostV} {a : Nat} (ho : M.2.2.1 = RX2) (hd : decode M.1 pc = .ok (.getfield 26, 3)) (ha : lay a = (0, 2)) (kk : AW M (pc + 3) ls ((2, h a 2) :: st) h Q) : AW M pc ls (vr a :: st) h Q := aw_getf clk_2 hd ha (k := 2) (by decide) (by rw [ho]; exact fl_X2_26) rfl kk
theorem pf_X2_26 {M : Hd} {pc : Nat} {ls : LoS} {st : List Vl} {h : Mem} {Q : PostV} {a : Nat} {b : Nat} (ho : M.2.2.1 = RX2) (hd : decode M.1 pc = .ok (.putfield 26, 3)) (ha : lay a = (0, 2)) (hb : b < 181) (kk : AW M (pc + 3) ls st (mset h a 2 (b : Int)) Q) : AW M pc ls (vr b :: vr a :: st) h Q := aw_putr (E := "ForgetStream$Glen") clk_2 hd ha (k := 2) (by decide) (by rw [ho]; exact fl_X2_26) rfl rfl rfl hb kk
theorem fl_X2_30 : Cond.fieldLink RX2 30 (TX2 4).1 (TX2 4).2.1 (TX2 4).2.2.1 ∈ lw_g := mg2 133 rfl rfl
theorem gf_X2_30 {M : Hd} {pc : Nat} {ls : LoS} {st : List Vl} {h : Mem} {Q : PostV} {a : Nat} (ho : M.2.2.1 = RX2) (hd : decode M.1 pc = .ok (.getfield 30, 3)) (ha : lay a = (0, 2)) (kk : AW M (pc + 3) ls ((0, h a 4) :: st) h Q) : AW M pc ls (vr a :: st) h Q := aw_getf clk_2 hd ha (k := 4) (by decide) (by rw [ho]; exact fl_X2_30) rfl kk
theorem pf_X2_30 {M : Hd} {pc : Nat} {ls : LoS} {st : List Vl} {h : Mem} {Q : PostV} {a : Nat} {x : Int} (ho : M.2.2.1 = RX2) (hd : decode M.1 pc = .ok (.putfield 30, 3)) (ha : lay a = (0, 2)) (kk : AW M (pc + 3) ls st (mset h a 4 x) Q) : AW M pc ls ((0, x) :: vr a :: st) h Q := aw_puti clk_2 hd ha (k := 4) (by decide) (by rw [ho]; exact fl_X2_30) rfl rfl rfl kk
theorem fl_X2_37 : Cond.fieldLink RX2 37 (TX1 0).1 (TX1 0).2.1 (TX1 0).2.2.1 ∈ lw_g := mg2 70 rfl rfl
theorem pf_X2_37 {M : Hd} {pc : Nat} {ls : LoS} {st : List Vl} {h : Mem} {Q : PostV} {a : Nat} {x : Int} (ho : M.2.2.1 = RX2) (hd : decode M.1 pc = .ok (.putfield 37, 3)) (ha : lay a = (0, 1)) (hz : InZ x) (kk : AW M (pc + 3) ls st (mset h a 0 x) Q) : AW M pc ls ((0, x) :: vr a :: st) h Q := aw_putz clk_1 hd ha (k := 0) (by decide) (by rw [ho]; exact fl_X2_37) rfl rfl rfl hz kk
theorem fl_X2_86 : Cond.fieldLink RX2 86 (TX1 1).1 (TX1 1).2.1 (TX1 1).2.2.1 ∈ lw_g := mg2 73 rfl rfl
theorem gf_X2_86 {M : Hd} {pc : Nat} {ls : LoS} {st : List Vl} {h : Mem} {Q : PostV} {a : Nat} (ho : M.2.2.1 = RX2) (hd : decode M.1 pc = .ok (.getfield 86, 3)) (ha : lay a = (0, 1)) (kk : AW M (pc + 3) ls ((0, h a 1) :: st) h Q) : AW M pc ls (vr a :: st) h Q := aw_getf clk_1 hd ha (k := 1) (by decide) (by rw [ho]; exact fl_X2_86) rfl kk
theorem pf_X2_86 {M : Hd} {pc : Nat} {ls : LoS} {st : List Vl} {h : Mem} {Q : PostV} {a : Nat} {x : Int} (ho : M.2.2.1 = RX2) (hd : decode M.1 pc = .ok (.putfield 86, 3)) (ha : lay a = (0, 1)) (kk : AW M (pc + 3) ls st (mset h a 1 x) Q) : AW M pc ls ((0, x) :: vr a :: st) h Q := aw_puti clk_1 hd ha (k := 1) (by decide) (by rw [ho]; exact fl_X2_86) rfl rfl rfl kk
theorem fl_X2_99 : Cond.fieldLink RX2 99 (TX4 0).1 (TX4 0).2.1 (TX4 0).2.2.1 ∈ lw_g := mg2 7 rfl rfl
theorem gf_X2_99 {M : Hd} {pc : Nat} {ls : LoS} {st : List Vl} {h : Mem} {Q : PostV} {a : Nat} (ho : M.2.2.1 = RX2) (hd : decode M.1 pc = .ok (.getfield 99, 3)) (ha : lay a = (0, 4)) (kk : AW M (pc + 3) ls ((0, h a 0) :: st) h Q) : AW M pc ls (vr a :: st) h Q := aw_getf clk_4 hd ha (k := 0) (by decide) (by rw [ho]; exact fl_X2_99) rfl kk
theorem fl_X2_119 : Cond.fieldLink RX2 119 (TX4 7).1 (TX4 7).2.1 (TX4 7).2.2.1 ∈ lw_g := mg2 36 rfl rfl
theorem gf_X2_119 {M : Hd} {pc : Nat} {ls : LoS} {st : List Vl} {h : Mem} {Q : PostV} {a : Nat} (ho : M.2.2.1 = RX2) (hd : decode M.1 pc = .ok (.getfield 119, 3)) (ha : lay a = (0, 4)) {r : Nat} (hr : a + 1 = r) (kk : AW M (pc + 3) ls (vr r :: st) h Q) : AW M pc ls (vr a :: st) h Q := aw_getf clk_4 hd ha (k := 7) (by decide) (by rw [ho]; exact fl_X2_119) (by rw [← hr]; rfl) kk
theorem fl_X2_133 : Cond.fieldLink RX2 133 (TX4 8).1 (TX4 8).2.1 (TX4 8).2.2.1 ∈ lw_g := mg2 42 rfl rfl
theorem gf_X2_133 {M : Hd} {pc : Nat} {ls : LoS} {st : List Vl} {h : Mem} {Q : PostV} {a : Nat} (ho : M.2.2.1 = RX2) (hd : decode M.1 pc = .ok (.getfield 133, 3)) (ha : lay a = (0, 4)) {r : Nat} (hr : a + 10 = r) (kk : AW M (pc + 3) ls (vr r :: st) h Q) : AW M pc ls (vr a :: st) h Q := aw_getf clk_4 hd ha (k := 8) (by decide) (by rw [ho]; exact fl_X2_133) (by rw [← hr]; rfl) kk
theorem fl_X2_140 : Cond.fieldLink RX2 140 (TX8 7).1 (TX8 7).2.1 (TX8 7).2.2.1 ∈ lw_g := mg1 120 rfl rfl
theorem gf_X2_140 {M : Hd} {pc : Nat} {ls : LoS} {st : List Vl} {h : Mem} {Q : PostV} {a : Nat} (ho : M.2.2.1 = RX2) (hd : decode M.1 pc = .ok (.getfield 140, 3)) (ha : lay a = (0, 8)) (kk : AW M (pc + 3) ls ((0, h a 7) :: st) h Q) : AW M pc ls (vr a :: st) h Q := aw_getf clk_8 hd ha (k := 7) (by decide) (by rw [ho]; exact fl_X2_140) rfl kk
theorem fl_X2_143 : Cond.fieldLink RX2 143 (TX8 5).1 (TX8 5).2.1 (TX8 5).2.2.1 ∈ lw_g := mg1 117 rfl rfl
theorem gf_X2_143 {M : Hd} {pc : Nat} {ls : LoS} {st : List Vl} {h : Mem} {Q : PostV} {a : Nat} (ho : M.2.2.1 = RX2) (hd : decode M.1 pc = .ok (.getfield 143, 3)) (ha : lay a = (0, 8)) (kk : AW M (pc + 3) ls ((0, h a 5) :: st) h Q) : AW M pc ls (vr a :: st) h Q := aw_getf clk_8 hd ha (k := 5) (by decide) (by rw [ho]; exact fl_X2_143) rfl kk
theorem fl_X3_12 : Cond.fieldLink RX3 12 (TX3 7).1 (TX3 7).2.1 (TX3 7).2.2.1 ∈ lw_g := mg2 199 rfl rfl
theorem gf_X3_12 {M : Hd} {pc : Nat} {ls : LoS} {st : List Vl} {h : Mem} {Q : PostV} {a : Nat} (ho : M.2.2.1 = RX3) (hd : decode M.1 pc = .ok (.getfield 12, 3)) (ha : lay a = (0, 3)) {r : Nat} (hr : a + 1 = r) (kk : AW M (pc + 3) ls (vr r :: st) h Q) : AW M pc ls (vr a :: st) h Q := aw_getf clk_3 hd ha (k := 7) (by decide) (by rw [ho]; exact fl_X3_12) (by rw [← hr]; rfl) kk
theorem fl_X3_18 : Cond.fieldLink RX3 18 (TX3 8).1 (TX3 8).2.1 (TX3 8).2.2.1 ∈ lw_g := mg2 200 rfl rfl
theorem gf_X3_18 {M : Hd} {pc : Nat} {ls : LoS} {st : List Vl} {h : Mem} {Q : PostV} {a : Nat} (ho : M.2.2.1 = RX3) (hd : decode M.1 pc = .ok (.getfield 18, 3)) (ha : lay a = (0, 3)) {r : Nat} (hr : a + 16 = r) (kk : AW M (pc + 3) ls (vr r :: st) h Q) : AW M pc ls (vr a :: st) h Q := aw_getf clk_3 hd ha (k := 8) (by decide) (by rw [ho]; exact fl_X3_18) (by rw [← hr]; rfl) kk
theorem fl_X3_21 : Cond.fieldLink RX3 21 (TX3 3).1 (TX3 3).2.1 (TX3 3).2.2.1 ∈ lw_g := mg2 195 rfl rfl
theorem gf_X3_21 {M : Hd} {pc : Nat} {ls : LoS} {st : List Vl} {h : Mem} {Q : PostV} {a : Nat} (ho : M.2.2.1 = RX3) (hd : decode M.1 pc = .ok (.getfield 21, 3)) (ha : lay a = (0, 3)) (kk : AW M (pc + 3) ls ((2, h a 3) :: st) h Q) : AW M pc ls (vr a :: st) h Q := aw_getf clk_3 hd ha (k := 3) (by decide) (by rw [ho]; exact fl_X3_21) rfl kk
theorem pf_X3_21 {M : Hd} {pc : Nat} {ls : LoS} {st : List Vl} {h : Mem} {Q : PostV} {a : Nat} {b : Nat} (ho : M.2.2.1 = RX3) (hd : decode M.1 pc = .ok (.putfield 21, 3)) (ha : lay a = (0, 3)) (hb : b < 181) (kk : AW M (pc + 3) ls st (mset h a 3 (b : Int)) Q) : AW M pc ls (vr b :: vr a :: st) h Q := aw_putr (E := "ForgetStream$Glen") clk_3 hd ha (k := 3) (by decide) (by rw [ho]; exact fl_X3_21) rfl rfl rfl hb kk
theorem fl_X3_24 : Cond.fieldLink RX3 24 (TX3 4).1 (TX3 4).2.1 (TX3 4).2.2.1 ∈ lw_g := mg2 196 rfl rfl
theorem gf_X3_24 {M : Hd} {pc : Nat} {ls : LoS} {st : List Vl} {h : Mem} {Q : PostV} {a : Nat} (ho : M.2.2.1 = RX3) (hd : decode M.1 pc = .ok (.getfield 24, 3)) (ha : lay a = (0, 3)) (kk : AW M (pc + 3) ls ((0, h a 4) :: st) h Q) : AW M pc ls (vr a :: st) h Q := aw_getf clk_3 hd ha (k := 4) (by decide) (by rw [ho]; exact fl_X3_24) rfl kk
theorem pf_X3_24 {M : Hd} {pc : Nat} {ls : LoS} {st : List Vl} {h : Mem} {Q : PostV} {a : Nat} {x : Int} (ho : M.2.2.1 = RX3) (hd : decode M.1 pc = .ok (.putfield 24, 3)) (ha : lay a = (0, 3)) (kk : AW M (pc + 3) ls st (mset h a 4 x) Q) : AW M pc ls ((0, x) :: vr a :: st) h Q := aw_puti clk_3 hd ha (k := 4) (by decide) (by rw [ho]; exact fl_X3_24) rfl rfl rfl kk
theorem fl_X3_28 : Cond.fieldLink RX3 28 (TX3 5).1 (TX3 5).2.1 (TX3 5).2.2.1 ∈ lw_g := mg2 197 rfl rfl
theorem gf_X3_28 {M : Hd} {pc : Nat} {ls : LoS} {st : List Vl} {h : Mem} {Q : PostV} {a : Nat} (ho : M.2.2.1 = RX3) (hd : decode M.1 pc = .ok (.getfield 28, 3)) (ha : lay a = (0, 3)) (kk : AW M (pc + 3) ls ((0, h a 5) :: st) h Q) : AW M pc ls (vr a :: st) h Q := aw_getf clk_3 hd ha (k := 5) (by decide) (by rw [ho]; exact fl_X3_28) rfl kk
theorem pf_X3_28 {M : Hd} {pc : Nat} {ls : LoS} {st : List Vl} {h : Mem} {Q : PostV} {a : Nat} {x : Int} (ho : M.2.2.1 = RX3) (hd : decode M.1 pc = .ok (.putfield 28, 3)) (ha : lay a = (0, 3)) (kk : AW M (pc + 3) ls st (mset h a 5 x) Q) : AW M pc ls ((0, x) :: vr a :: st) h Q := aw_puti clk_3 hd ha (k := 5) (by decide) (by rw [ho]; exact fl_X3_28) rfl rfl rfl kk
theorem fl_X3_31 : Cond.fieldLink RX3 31 (TX3 6).1 (TX3 6).2.1 (TX3 6).2.2.1 ∈ lw_g := mg2 198 rfl rfl
theorem gf_X3_31 {M : Hd} {pc : Nat} {ls : LoS} {st : List Vl} {h : Mem} {Q : PostV} {a : Nat} (ho : M.2.2.1 = RX3) (hd : decode M.1 pc = .ok (.getfield 31, 3)) (ha : lay a = (0, 3)) (kk : AW M (pc + 3) ls ((0, h a 6) :: st) h Q) : AW M pc ls (vr a :: st) h Q := aw_getf clk_3 hd ha (k := 6) (by decide) (by rw [ho]; exact fl_X3_31) rfl kk
theorem pf_X3_31 {M : Hd} {pc : Nat} {ls : LoS} {st : List Vl} {h : Mem} {Q : PostV} {a : Nat} {x : Int} (ho : M.2.2.1 = RX3) (hd : decode M.1 pc = .ok (.putfield 31, 3)) (ha : lay a = (0, 3)) (kk : AW M (pc + 3) ls st (mset h a 6 x) Q) : AW M pc ls ((0, x) :: vr a :: st) h Q := aw_puti clk_3 hd ha (k := 6) (by decide) (by rw [ho]; exact fl_X3_31) rfl rfl rfl kk
theorem fl_X3_34 : Cond.fieldLink RX3 34 (TX3 0).1 (TX3 0).2.1 (TX3 0).2.2.1 ∈ lw_g := mg2 189 rfl rfl
theorem gf_X3_34 {M : Hd} {pc : Nat} {ls : LoS} {st : List Vl} {h : Mem} {Q : PostV} {a : Nat} (ho : M.2.2.1 = RX3) (hd : decode M.1 pc = .ok (.getfield 34, 3)) (ha : lay a = (0, 3)) (kk : AW M (pc + 3) ls ((0, h a 0) :: st) h Q) : AW M pc ls (vr a :: st) h Q := aw_getf clk_3 hd ha (k := 0) (by decide) (by rw [ho]; exact fl_X3_34) rfl kk
theorem pf_X3_34 {M : Hd} {pc : Nat} {ls : LoS} {st : List Vl} {h : Mem} {Q : PostV} {a : Nat} {x : Int} (ho : M.2.2.1 = RX3) (hd : decode M.1 pc = .ok (.putfield 34, 3)) (ha : lay a = (0, 3)) (kk : AW M (pc + 3) ls st (mset h a 0 x) Q) : AW M pc ls ((0, x) :: vr a :: st) h Q := aw_puti clk_3 hd ha (k := 0) (by decide) (by rw [ho]; exact fl_X3_34) rfl rfl rfl kk
theorem fl_X3_37 : Cond.fieldLink RX3 37 (TX3 1).1 (TX3 1).2.1 (TX3 1).2.2.1 ∈ lw_g := mg2 191 rfl rfl
theorem pf_X3_37 {M : Hd} {pc : Nat} {ls : LoS} {st : List Vl} {h : Mem} {Q : PostV} {a : Nat} {x : Int} (ho : M.2.2.1 = RX3) (hd : decode M.1 pc = .ok (.putfield 37, 3)) (ha : lay a = (0, 3)) (kk : AW M (pc + 3) ls st (mset h a 1 x) Q) : AW M pc ls ((0, x) :: vr a :: st) h Q := aw_puti clk_3 hd ha (k := 1) (by decide) (by rw [ho]; exact fl_X3_37) rfl rfl rfl kk
theorem fl_X3_40 : Cond.fieldLink RX3 40 (TX3 2).1 (TX3 2).2.1 (TX3 2).2.2.1 ∈ lw_g := mg2 193 rfl rfl
theorem pf_X3_40 {M : Hd} {pc : Nat} {ls : LoS} {st : List Vl} {h : Mem} {Q : PostV} {a : Nat} {x : Int} (ho : M.2.2.1 = RX3) (hd : decode M.1 pc = .ok (.putfield 40, 3)) (ha : lay a = (0, 3)) (kk : AW M (pc + 3) ls st (mset h a 2 x) Q) : AW M pc ls ((0, x) :: vr a :: st) h Q := aw_puti clk_3 hd ha (k := 2) (by decide) (by rw [ho]; exact fl_X3_40) rfl rfl rfl kk
theorem fl_X3_47 : Cond.fieldLink RX3 47 (TX4 7).1 (TX4 7).2.1 (TX4 7).2.2.1 ∈ lw_g := mg2 32 rfl rfl
theorem gf_X3_47 {M : Hd} {pc : Nat} {ls : LoS} {st : List Vl} {h : Mem} {Q : PostV} {a : Nat} (ho : M.2.2.1 = RX3) (hd : decode M.1 pc = .ok (.getfield 47, 3)) (ha : lay a = (0, 4)) {r : Nat} (hr : a + 1 = r) (kk : AW M (pc + 3) ls (vr r :: st) h Q) : AW M pc ls (vr a :: st) h Q := aw_getf clk_4 hd ha (k := 7) (by decide) (by rw [ho]; exact fl_X3_47) (by rw [← hr]; rfl) kk
theorem fl_X3_51 : Cond.fieldLink RX3 51 (TX9 0).1 (TX9 0).2.1 (TX9 0).2.2.1 ∈ lw_g := mg1 164 rfl rfl
theorem gf_X3_51 {M : Hd} {pc : Nat} {ls : LoS} {st : List Vl} {h : Mem} {Q : PostV} {a : Nat} (ho : M.2.2.1 = RX3) (hd : decode M.1 pc = .ok (.getfield 51, 3)) (ha : lay a = (0, 9)) (kk : AW M (pc + 3) ls ((0, h a 0) :: st) h Q) : AW M pc ls (vr a :: st) h Q := aw_getf clk_9 hd ha (k := 0) (by decide) (by rw [ho]; exact fl_X3_51) rfl kk
theorem fl_X3_56 : Cond.fieldLink RX3 56 (TX4 0).1 (TX4 0).2.1 (TX4 0).2.2.1 ∈ lw_g := mg2 3 rfl rfl
theorem gf_X3_56 {M : Hd} {pc : Nat} {ls : LoS} {st : List Vl} {h : Mem} {Q : PostV} {a : Nat} (ho : M.2.2.1 = RX3) (hd : decode M.1 pc = .ok (.getfield 56, 3)) (ha : lay a = (0, 4)) (kk : AW M (pc + 3) ls ((0, h a 0) :: st) h Q) : AW M pc ls (vr a :: st) h Q := aw_getf clk_4 hd ha (k := 0) (by decide) (by rw [ho]; exact fl_X3_56) rfl kk
theorem fl_X3_89 : Cond.fieldLink RX3 89 (TX4 8).1 (TX4 8).2.1 (TX4 8).2.2.1 ∈ lw_g := mg2 38 rfl rfl
theorem gf_X3_89 {M : Hd} {pc : Nat} {ls : LoS} {st : List Vl} {h : Mem} {Q : PostV} {a : Nat} (ho : M.2.2.1 = RX3) (hd : decode M.1 pc = .ok (.getfield 89, 3)) (ha : lay a = (0, 4)) {r : Nat} (hr : a + 10 = r) (kk : AW M (pc + 3) ls (vr r :: st) h Q) : AW M pc ls (vr a :: st) h Q := aw_getf clk_4 hd ha (k := 8) (by decide) (by rw [ho]; exact fl_X3_89) (by rw [← hr]; rfl) kk
theorem fl_X3_93 : Cond.fieldLink RX3 93 (TX7 4).1 (TX7 4).2.1 (TX7 4).2.2.1 ∈ lw_g := mg1 223 rfl rfl
theorem gf_X3_93 {M : Hd} {pc : Nat} {ls : LoS} {st : List Vl} {h : Mem} {Q : PostV} {a : Nat} (ho : M.2.2.1 = RX3) (hd : decode M.1 pc = .ok (.getfield 93, 3)) (ha : lay a = (0, 7)) {r : Nat} (hr : a + 4 = r) (kk : AW M (pc + 3) ls (vr r :: st) h Q) : AW M pc ls (vr a :: st) h Q := aw_getf clk_7 hd ha (k := 4) (by decide) (by rw [ho]; exact fl_X3_93) (by rw [← hr]; rfl) kk
theorem fl_X3_108 : Cond.fieldLink RX3 108 (TX9 4).1 (TX9 4).2.1 (TX9 4).2.2.1 ∈ lw_g := mg1 174 rfl rfl
theorem gf_X3_108 {M : Hd} {pc : Nat} {ls : LoS} {st : List Vl} {h : Mem} {Q : PostV} {a : Nat} (ho : M.2.2.1 = RX3) (hd : decode M.1 pc = .ok (.getfield 108, 3)) (ha : lay a = (0, 9)) {r : Nat} (hr : a + 4 = r) (kk : AW M (pc + 3) ls (vr r :: st) h Q) : AW M pc ls (vr a :: st) h Q := aw_getf clk_9 hd ha (k := 4) (by decide) (by rw [ho]; exact fl_X3_108) (by rw [← hr]; rfl) kk
theorem fl_X4_12 : Cond.fieldLink RX4 12 (TX4 7).1 (TX4 7).2.1 (TX4 7).2.2.1 ∈ lw_g := mg2 30 rfl rfl
theorem gf_X4_12 {M : Hd} {pc : Nat} {ls : LoS} {st : List Vl} {h : Mem} {Q : PostV} {a : Nat} (ho : M.2.2.1 = RX4) (hd : decode M.1 pc = .ok (.getfield 12, 3)) (ha : lay a = (0, 4)) {r : Nat} (hr : a + 1 = r) (kk : AW M (pc + 3) ls (vr r :: st) h Q) : AW M pc ls (vr a :: st) h Q := aw_getf clk_4 hd ha (k := 7) (by decide) (by rw [ho]; exact fl_X4_12) (by rw [← hr]; rfl) kk
theorem fl_X4_21 : Cond.fieldLink RX4 21 (TX4 8).1 (TX4 8).2.1 (TX4 8).2.2.1 ∈ lw_g := mg2 37 rfl rfl
theorem gf_X4_21 {M : Hd} {pc : Nat} {ls : LoS} {st : List Vl} {h : Mem} {Q : PostV} {a : Nat} (ho : M.2.2.1 = RX4) (hd : decode M.1 pc = .ok (.getfield 21, 3)) (ha : lay a = (0, 4)) {r : Nat} (hr : a + 10 = r) (kk : AW M (pc + 3) ls (vr r :: st) h Q) : AW M pc ls (vr a :: st) h Q := aw_getf clk_4 hd ha (k := 8) (by decide) (by rw [ho]; exact fl_X4_21) (by rw [← hr]; rfl) kk
theorem fl_X4_28 : Cond.fieldLink RX4 28 (TX4 0).1 (TX4 0).2.1 (TX4 0).2.2.1 ∈ lw_g := mg2 2 rfl rfl
theorem gf_X4_28 {M : Hd} {pc : Nat} {ls : LoS} {st : List Vl} {h : Mem} {Q : PostV} {a : Nat} (ho : M.2.2.1 = RX4) (hd : decode M.1 pc = .ok (.getfield 28, 3)) (ha : lay a = (0, 4)) (kk : AW M (pc + 3) ls ((0, h a 0) :: st) h Q) : AW M pc ls (vr a :: st) h Q := aw_getf clk_4 hd ha (k := 0) (by decide) (by rw [ho]; exact fl_X4_28) rfl kk
theorem pf_X4_28 {M : Hd} {pc : Nat} {ls : LoS} {st : List Vl} {h : Mem} {Q : PostV} {a : Nat} {x : Int} (ho : M.2.2.1 = RX4) (hd : decode M.1 pc = .ok (.putfield 28, 3)) (ha : lay a = (0, 4)) (kk : AW M (pc + 3) ls st (mset h a 0 x) Q) : AW M pc ls ((0, x) :: vr a :: st) h Q := aw_puti clk_4 hd ha (k := 0) (by decide) (by rw [ho]; exact fl_X4_28) rfl rfl rfl kk
theorem fl_X4_32 : Cond.fieldLink RX4 32 (TX4 1).1 (TX4 1).2.1 (TX4 1).2.2.1 ∈ lw_g := mg2 9 rfl rfl
theorem gf_X4_32 {M : Hd} {pc : Nat} {ls : LoS} {st : List Vl} {h : Mem} {Q : PostV} {a : Nat} (ho : M.2.2.1 = RX4) (hd : decode M.1 pc = .ok (.getfield 32, 3)) (ha : lay a = (0, 4)) (kk : AW M (pc + 3) ls ((0, h a 1) :: st) h Q) : AW M pc ls (vr a :: st) h Q := aw_getf clk_4 hd ha (k := 1) (by decide) (by rw [ho]; exact fl_X4_32) rfl kk
theorem pf_X4_32 {M : Hd} {pc : Nat} {ls : LoS} {st : List Vl} {h : Mem} {Q : PostV} {a : Nat} {x : Int} (ho : M.2.2.1 = RX4) (hd : decode M.1 pc = .ok (.putfield 32, 3)) (ha : lay a = (0, 4)) (kk : AW M (pc + 3) ls st (mset h a 1 x) Q) : AW M pc ls ((0, x) :: vr a :: st) h Q := aw_puti clk_4 hd ha (k := 1) (by decide) (by rw [ho]; exact fl_X4_32) rfl rfl rfl kk
theorem fl_X4_35 : Cond.fieldLink RX4 35 (TX4 2).1 (TX4 2).2.1 (TX4 2).2.2.1 ∈ lw_g := mg2 12 rfl rfl
theorem gf_X4_35 {M : Hd} {pc : Nat} {ls : LoS} {st : List Vl} {h : Mem} {Q : PostV} {a : Nat} (ho : M.2.2.1 = RX4) (hd : decode M.1 pc = .ok (.getfield 35, 3)) (ha : lay a = (0, 4)) (kk : AW M (pc + 3) ls ((0, h a 2) :: st) h Q) : AW M pc ls (vr a :: st) h Q := aw_getf clk_4 hd ha (k := 2) (by decide) (by rw [ho]; exact fl_X4_35) rfl kk
theorem pf_X4_35 {M : Hd} {pc : Nat} {ls : LoS} {st : List Vl} {h : Mem} {Q : PostV} {a : Nat} {x : Int} (ho : M.2.2.1 = RX4) (hd : decode M.1 pc = .ok (.putfield 35, 3)) (ha : lay a = (0, 4)) (kk : AW M (pc + 3) ls st (mset h a 2 x) Q) : AW M pc ls ((0, x) :: vr a :: st) h Q := aw_puti clk_4 hd ha (k := 2) (by decide) (by rw [ho]; exact fl_X4_35) rfl rfl rfl kk
theorem fl_X4_38 : Cond.fieldLink RX4 38 (TX4 3).1 (TX4 3).2.1 (TX4 3).2.2.1 ∈ lw_g := mg2 15 rfl rfl
theorem gf_X4_38 {M : Hd} {pc : Nat} {ls : LoS} {st : List Vl} {h : Mem} {Q : PostV} {a : Nat} (ho : M.2.2.1 = RX4) (hd : decode M.1 pc = .ok (.getfield 38, 3)) (ha : lay a = (0, 4)) (kk : AW M (pc + 3) ls ((0, h a 3) :: st) h Q) : AW M pc ls (vr a :: st) h Q := aw_getf clk_4 hd ha (k := 3) (by decide) (by rw [ho]; exact fl_X4_38) rfl kk
theorem pf_X4_38 {M : Hd} {pc : Nat} {ls : LoS} {st : List Vl} {h : Mem} {Q : PostV} {a : Nat} {x : Int} (ho : M.2.2.1 = RX4) (hd : decode M.1 pc = .ok (.putfield 38, 3)) (ha : lay a = (0, 4)) (kk : AW M (pc + 3) ls st (mset h a 3 x) Q) : AW M pc ls ((0, x) :: vr a :: st) h Q := aw_puti clk_4 hd ha (k := 3) (by decide) (by rw [ho]; exact fl_X4_38) rfl rfl rfl kk
theorem fl_X4_41 : Cond.fieldLink RX4 41 (TX4 4).1 (TX4 4).2.1 (TX4 4).2.2.1 ∈ lw_g := mg2 20 rfl rfl
theorem gf_X4_41 {M : Hd} {pc : Nat} {ls : LoS} {st : List Vl} {h : Mem} {Q : PostV} {a : Nat} (ho : M.2.2.1 = RX4) (hd : decode M.1 pc = .ok (.getfield 41, 3)) (ha : lay a = (0, 4)) (kk : AW M (pc + 3) ls ((0, h a 4) :: st) h Q) : AW M pc ls (vr a :: st) h Q := aw_getf clk_4 hd ha (k := 4) (by decide) (by rw [ho]; exact fl_X4_41) rfl kk
theorem pf_X4_41 {M : Hd} {pc : Nat} {ls : LoS} {st : List Vl} {h : Mem} {Q : PostV} {a : Nat} {x : Int} (ho : M.2.2.1 = RX4) (hd : decode M.1 pc = .ok (.putfield 41, 3)) (ha : lay a = (0, 4)) (kk : AW M (pc + 3) ls st (mset h a 4 x) Q) : AW M pc ls ((0, x) :: vr a :: st) h Q := aw_puti clk_4 hd ha (k := 4) (by decide) (by rw [ho]; exact fl_X4_41) rfl rfl rfl kk
theorem fl_X4_44 : Cond.fieldLink RX4 44 (TX4 5).1 (TX4 5).2.1 (TX4 5).2.2.1 ∈ lw_g := mg2 25 rfl rfl
theorem gf_X4_44 {M : Hd} {pc : Nat} {ls : LoS} {st : List Vl} {h : Mem} {Q : PostV} {a : Nat} (ho : M.2.2.1 = RX4) (hd : decode M.1 pc = .ok (.getfield 44, 3)) (ha : lay a = (0, 4)) (kk : AW M (pc + 3) ls ((0, h a 5) :: st) h Q) : AW M pc ls (vr a :: st) h Q := aw_getf clk_4 hd ha (k := 5) (by decide) (by rw [ho]; exact fl_X4_44) rfl kk
theorem pf_X4_44 {M : Hd} {pc : Nat} {ls : LoS} {st : List Vl} {h : Mem} {Q : PostV} {a : Nat} {x : Int} (ho : M.2.2.1 = RX4) (hd : decode M.1 pc = .ok (.putfield 44, 3)) (ha : lay a = (0, 4)) (kk : AW M (pc + 3) ls st (mset h a 5 x) Q) : AW M pc ls ((0, x) :: vr a :: st) h Q := aw_puti clk_4 hd ha (k := 5) (by decide) (by rw [ho]; exact fl_X4_44) rfl rfl rfl kk
theorem fl_X4_47 : Cond.fieldLink RX4 47 (TX4 6).1 (TX4 6).2.1 (TX4 6).2.2.1 ∈ lw_g := mg2 28 rfl rfl
theorem gf_X4_47 {M : Hd} {pc : Nat} {ls : LoS} {st : List Vl} {h : Mem} {Q : PostV} {a : Nat} (ho : M.2.2.1 = RX4) (hd : decode M.1 pc = .ok (.getfield 47, 3)) (ha : lay a = (0, 4)) (kk : AW M (pc + 3) ls ((0, h a 6) :: st) h Q) : AW M pc ls (vr a :: st) h Q := aw_getf clk_4 hd ha (k := 6) (by decide) (by rw [ho]; exact fl_X4_47) rfl kk
theorem pf_X4_47 {M : Hd} {pc : Nat} {ls : LoS} {st : List Vl} {h : Mem} {Q : PostV} {a : Nat} {x : Int} (ho : M.2.2.1 = RX4) (hd : decode M.1 pc = .ok (.putfield 47, 3)) (ha : lay a = (0, 4)) (kk : AW M (pc + 3) ls st (mset h a 6 x) Q) : AW M pc ls ((0, x) :: vr a :: st) h Q := aw_puti clk_4 hd ha (k := 6) (by decide) (by rw [ho]; exact fl_X4_47) rfl rfl rfl kk
theorem fl_X4_50 : Cond.fieldLink RX4 50 (TX9 0).1 (TX9 0).2.1 (TX9 0).2.2.1 ∈ lw_g := mg1 163 rfl rfl
theorem pf_X4_50 {M : Hd} {pc : Nat} {ls : LoS} {st : List Vl} {h : Mem} {Q : PostV} {a : Nat} {x : Int} (ho : M.2.2.1 = RX4) (hd : decode M.1 pc = .ok (.putfield 50, 3)) (ha : lay a = (0, 9)) (kk : AW M (pc + 3) ls st (mset h a 0 x) Q) : AW M pc ls ((0, x) :: vr a :: st) h Q := aw_puti clk_9 hd ha (k := 0) (by decide) (by rw [ho]; exact fl_X4_50) rfl rfl rfl kk
theorem fl_X4_53 : Cond.fieldLink RX4 53 (TX7 0).1 (TX7 0).2.1 (TX7 0).2.2.1 ∈ lw_g := mg1 213 rfl rfl
theorem pf_X4_53 {M : Hd} {pc : Nat} {ls : LoS} {st : List Vl} {h : Mem} {Q : PostV} {a : Nat} {x : Int} (ho : M.2.2.1 = RX4) (hd : decode M.1 pc = .ok (.putfield 53, 3)) (ha : lay a = (0, 7)) (kk : AW M (pc + 3) ls st (mset h a 0 x) Q) : AW M pc ls ((0, x) :: vr a :: st) h Q := aw_puti clk_7 hd ha (k := 0) (by decide) (by rw [ho]; exact fl_X4_53) rfl rfl rfl kk
theorem fl_X4_67 : Cond.fieldLink RX4 67 (TX9 6).1 (TX9 6).2.1 (TX9 6).2.2.1 ∈ lw_g := mg1 181 rfl rfl
theorem gf_X4_67 {M : Hd} {pc : Nat} {ls : LoS} {st : List Vl} {h : Mem} {Q : PostV} {a : Nat} (ho : M.2.2.1 = RX4) (hd : decode M.1 pc = .ok (.getfield 67, 3)) (ha : lay a = (0, 9)) {r : Nat} (hr : a + 6 = r) (kk : AW M (pc + 3) ls (vr r :: st) h Q) : AW M pc ls (vr a :: st) h Q := aw_getf clk_9 hd ha (k := 6) (by decide) (by rw [ho]; exact fl_X4_67) (by rw [← hr]; rfl) kk
theorem fl_X4_97 : Cond.fieldLink RX4 97 (TX9 5).1 (TX9 5).2.1 (TX9 5).2.2.1 ∈ lw_g := mg1 178 rfl rfl
theorem gf_X4_97 {M : Hd} {pc : Nat} {ls : LoS} {st : List Vl} {h : Mem} {Q : PostV} {a : Nat} (ho : M.2.2.1 = RX4) (hd : decode M.1 pc = .ok (.getfield 97, 3)) (ha : lay a = (0, 9)) {r : Nat} (hr : a + 5 = r) (kk : AW M (pc + 3) ls (vr r :: st) h Q) : AW M pc ls (vr a :: st) h Q := aw_getf clk_9 hd ha (k := 5) (by decide) (by rw [ho]; exact fl_X4_97) (by rw [← hr]; rfl) kk
theorem fl_X5_9 : Cond.fieldLink RX5 9 (TX5 0).1 (TX5 0).2.1 (TX5 0).2.2.1 ∈ lw_g := mg2 110 rfl rfl
theorem gf_X5_9 {M : Hd} {pc : Nat} {ls : LoS} {st : List Vl} {h : Mem} {Q : PostV} {a : Nat} (ho : M.2.2.1 = RX5) (hd : decode M.1 pc = .ok (.getfield 9, 3)) (ha : lay a = (0, 5)) (kk : AW M (pc + 3) ls ((2, h a 0) :: st) h Q) : AW M pc ls (vr a :: st) h Q := aw_getf clk_5 hd ha (k := 0) (by decide) (by rw [ho]; exact fl_X5_9) rfl kk
theorem pf_X5_9 {M : Hd} {pc : Nat} {ls : LoS} {st : List Vl} {h : Mem} {Q : PostV} {a : Nat} {b : Nat} (ho : M.2.2.1 = RX5) (hd : decode M.1 pc = .ok (.putfield 9, 3)) (ha : lay a = (0, 5)) (hb : b < 181) (kk : AW M (pc + 3) ls st (mset h a 0 (b : Int)) Q) : AW M pc ls (vr b :: vr a :: st) h Q := aw_putr (E := "ForgetStream$Text") clk_5 hd ha (k := 0) (by decide) (by rw [ho]; exact fl_X5_9) rfl rfl rfl hb kk
theorem fl_X5_15 : Cond.fieldLink RX5 15 (TX5 1).1 (TX5 1).2.1 (TX5 1).2.2.1 ∈ lw_g := mg2 111 rfl rfl
theorem gf_X5_15 {M : Hd} {pc : Nat} {ls : LoS} {st : List Vl} {h : Mem} {Q : PostV} {a : Nat} (ho : M.2.2.1 = RX5) (hd : decode M.1 pc = .ok (.getfield 15, 3)) (ha : lay a = (0, 5)) (kk : AW M (pc + 3) ls ((2, h a 1) :: st) h Q) : AW M pc ls (vr a :: st) h Q := aw_getf clk_5 hd ha (k := 1) (by decide) (by rw [ho]; exact fl_X5_15) rfl kk
theorem pf_X5_15 {M : Hd} {pc : Nat} {ls : LoS} {st : List Vl} {h : Mem} {Q : PostV} {a : Nat} {b : Nat} (ho : M.2.2.1 = RX5) (hd : decode M.1 pc = .ok (.putfield 15, 3)) (ha : lay a = (0, 5)) (hb : b < 181) (kk : AW M (pc + 3) ls st (mset h a 1 (b : Int)) Q) : AW M pc ls (vr b :: vr a :: st) h Q := aw_putr (E := "ForgetStream$Glen") clk_5 hd ha (k := 1) (by decide) (by rw [ho]; exact fl_X5_15) rfl rfl rfl hb kk
theorem fl_X5_19 : Cond.fieldLink RX5 19 (TX5 2).1 (TX5 2).2.1 (TX5 2).2.2.1 ∈ lw_g := mg2 112 rfl rfl
theorem gf_X5_19 {M : Hd} {pc : Nat} {ls : LoS} {st : List Vl} {h : Mem} {Q : PostV} {a : Nat} (ho : M.2.2.1 = RX5) (hd : decode M.1 pc = .ok (.getfield 19, 3)) (ha : lay a = (0, 5)) (kk : AW M (pc + 3) ls ((0, h a 2) :: st) h Q) : AW M pc ls (vr a :: st) h Q := aw_getf clk_5 hd ha (k := 2) (by decide) (by rw [ho]; exact fl_X5_19) rfl kk
theorem pf_X5_19 {M : Hd} {pc : Nat} {ls : LoS} {st : List Vl} {h : Mem} {Q : PostV} {a : Nat} {x : Int} (ho : M.2.2.1 = RX5) (hd : decode M.1 pc = .ok (.putfield 19, 3)) (ha : lay a = (0, 5)) (kk : AW M (pc + 3) ls st (mset h a 2 x) Q) : AW M pc ls ((0, x) :: vr a :: st) h Q := aw_puti clk_5 hd ha (k := 2) (by decide) (by rw [ho]; exact fl_X5_19) rfl rfl rfl kk
theorem fl_X5_52 : Cond.fieldLink RX5 52 (TX4 1).1 (TX4 1).2.1 (TX4 1).2.2.1 ∈ lw_g := mg2 10 rfl rfl
theorem pf_X5_52 {M : Hd} {pc : Nat} {ls : LoS} {st : List Vl} {h : Mem} {Q : PostV} {a : Nat} {x : Int} (ho : M.2.2.1 = RX5) (hd : decode M.1 pc = .ok (.putfield 52, 3)) (ha : lay a = (0, 4)) (kk : AW M (pc + 3) ls st (mset h a 1 x) Q) : AW M pc ls ((0, x) :: vr a :: st) h Q := aw_puti clk_4 hd ha (k := 1) (by decide) (by rw [ho]; exact fl_X5_52) rfl rfl rfl kk
theorem fl_X5_55 : Cond.fieldLink RX5 55 (TX4 2).1 (TX4 2).2.1 (TX4 2).2.2.1 ∈ lw_g := mg2 13 rfl rfl
theorem pf_X5_55 {M : Hd} {pc : Nat} {ls : LoS} {st : List Vl} {h : Mem} {Q : PostV} {a : Nat} {x : Int} (ho : M.2.2.1 = RX5) (hd : decode M.1 pc = .ok (.putfield 55, 3)) (ha : lay a = (0, 4)) (kk : AW M (pc + 3) ls st (mset h a 2 x) Q) : AW M pc ls ((0, x) :: vr a :: st) h Q := aw_puti clk_4 hd ha (k := 2) (by decide) (by rw [ho]; exact fl_X5_55) rfl rfl rfl kk
theorem fl_X5_80 : Cond.fieldLink RX5 80 (TX4 7).1 (TX4 7).2.1 (TX4 7).2.2.1 ∈ lw_g := mg2 34 rfl rfl
theorem gf_X5_80 {M : Hd} {pc : Nat} {ls : LoS} {st : List Vl} {h : Mem} {Q : PostV} {a : Nat} (ho : M.2.2.1 = RX5) (hd : decode M.1 pc = .ok (.getfield 80, 3)) (ha : lay a = (0, 4)) {r : Nat} (hr : a + 1 = r) (kk : AW M (pc + 3) ls (vr r :: st) h Q) : AW M pc ls (vr a :: st) h Q := aw_getf clk_4 hd ha (k := 7) (by decide) (by rw [ho]; exact fl_X5_80) (by rw [← hr]; rfl) kk
theorem fl_X5_84 : Cond.fieldLink RX5 84 (TX9 0).1 (TX9 0).2.1 (TX9 0).2.2.1 ∈ lw_g := mg1 166 rfl rfl
theorem gf_X5_84 {M : Hd} {pc : Nat} {ls : LoS} {st : List Vl} {h : Mem} {Q : PostV} {a : Nat} (ho : M.2.2.1 = RX5) (hd : decode M.1 pc = .ok (.getfield 84, 3)) (ha : lay a = (0, 9)) (kk : AW M (pc + 3) ls ((0, h a 0) :: st) h Q) : AW M pc ls (vr a :: st) h Q := aw_getf clk_9 hd ha (k := 0) (by decide) (by rw [ho]; exact fl_X5_84) rfl kk
theorem fl_X5_89 : Cond.fieldLink RX5 89 (TX4 8).1 (TX4 8).2.1 (TX4 8).2.2.1 ∈ lw_g := mg2 40 rfl rfl
theorem gf_X5_89 {M : Hd} {pc : Nat} {ls : LoS} {st : List Vl} {h : Mem} {Q : PostV} {a : Nat} (ho : M.2.2.1 = RX5) (hd : decode M.1 pc = .ok (.getfield 89, 3)) (ha : lay a = (0, 4)) {r : Nat} (hr : a + 10 = r) (kk : AW M (pc + 3) ls (vr r :: st) h Q) : AW M pc ls (vr a :: st) h Q := aw_getf clk_4 hd ha (k := 8) (by decide) (by rw [ho]; exact fl_X5_89) (by rw [← hr]; rfl) kk
theorem fl_X5_93 : Cond.fieldLink RX5 93 (TX7 0).1 (TX7 0).2.1 (TX7 0).2.2.1 ∈ lw_g := mg1 214 rfl rfl
theorem gf_X5_93 {M : Hd} {pc : Nat} {ls : LoS} {st : List Vl} {h : Mem} {Q : PostV} {a : Nat} (ho : M.2.2.1 = RX5) (hd : decode M.1 pc = .ok (.getfield 93, 3)) (ha : lay a = (0, 7)) (kk : AW M (pc + 3) ls ((0, h a 0) :: st) h Q) : AW M pc ls (vr a :: st) h Q := aw_getf clk_7 hd ha (k := 0) (by decide) (by rw [ho]; exact fl_X5_93) rfl kk
theorem fl_X5_96 : Cond.fieldLink RX5 96 (TX4 0).1 (TX4 0).2.1 (TX4 0).2.2.1 ∈ lw_g := mg2 5 rfl rfl
theorem gf_X5_96 {M : Hd} {pc : Nat} {ls : LoS} {st : List Vl} {h : Mem} {Q : PostV} {a : Nat} (ho : M.2.2.1 = RX5) (hd : decode M.1 pc = .ok (.getfield 96, 3)) (ha : lay a = (0, 4)) (kk : AW M (pc + 3) ls ((0, h a 0) :: st) h Q) : AW M pc ls (vr a :: st) h Q := aw_getf clk_4 hd ha (k := 0) (by decide) (by rw [ho]; exact fl_X5_96) rfl kk
theorem pf_X5_96 {M : Hd} {pc : Nat} {ls : LoS} {st : List Vl} {h : Mem} {Q : PostV} {a : Nat} {x : Int} (ho : M.2.2.1 = RX5) (hd : decode M.1 pc = .ok (.putfield 96, 3)) (ha : lay a = (0, 4)) (kk : AW M (pc + 3) ls st (mset h a 0 x) Q) : AW M pc ls ((0, x) :: vr a :: st) h Q := aw_puti clk_4 hd ha (k := 0) (by decide) (by rw [ho]; exact fl_X5_96) rfl rfl rfl kk
theorem fl_X5_99 : Cond.fieldLink RX5 99 (TX4 3).1 (TX4 3).2.1 (TX4 3).2.2.1 ∈ lw_g := mg2 17 rfl rfl
theorem pf_X5_99 {M : Hd} {pc : Nat} {ls : LoS} {st : List Vl} {h : Mem} {Q : PostV} {a : Nat} {x : Int} (ho : M.2.2.1 = RX5) (hd : decode M.1 pc = .ok (.putfield 99, 3)) (ha : lay a = (0, 4)) (kk : AW M (pc + 3) ls st (mset h a 3 x) Q) : AW M pc ls ((0, x) :: vr a :: st) h Q := aw_puti clk_4 hd ha (k := 3) (by decide) (by rw [ho]; exact fl_X5_99) rfl rfl rfl kk
theorem fl_X5_105 : Cond.fieldLink RX5 105 (TX4 4).1 (TX4 4).2.1 (TX4 4).2.2.1 ∈ lw_g := mg2 22 rfl rfl
theorem pf_X5_105 {M : Hd} {pc : Nat} {ls : LoS} {st : List Vl} {h : Mem} {Q : PostV} {a : Nat} {x : Int} (ho : M.2.2.1 = RX5) (hd : decode M.1 pc = .ok (.putfield 105, 3)) (ha : lay a = (0, 4)) (kk : AW M (pc + 3) ls st (mset h a 4 x) Q) : AW M pc ls ((0, x) :: vr a :: st) h Q := aw_puti clk_4 hd ha (k := 4) (by decide) (by rw [ho]; exact fl_X5_105) rfl rfl rfl kk
theorem fl_X6_11 : Cond.fieldLink RX6 11 (TX6 6).1 (TX6 6).2.1 (TX6 6).2.2.1 ∈ lw_g := mg2 235 rfl rfl
theorem gf_X6_11 {M : Hd} {pc : Nat} {ls : LoS} {st : List Vl} {h : Mem} {Q : PostV} {a : Nat} (ho : M.2.2.1 = RX6) (hd : decode M.1 pc = .ok (.getfield 11, 3)) (ha : lay a = (0, 6)) {r : Nat} (hr : a + 1 = r) (kk : AW M (pc + 3) ls (vr r :: st) h Q) : AW M pc ls (vr a :: st) h Q := aw_getf clk_6 hd ha (k := 6) (by decide) (by rw [ho]; exact fl_X6_11) (by rw [← hr]; rfl) kk
theorem fl_X6_17 : Cond.fieldLink RX6 17 (TX6 4).1 (TX6 4).2.1 (TX6 4).2.2.1 ∈ lw_g := mg2 233 rfl rfl
theorem gf_X6_17 {M : Hd} {pc : Nat} {ls : LoS} {st : List Vl} {h : Mem} {Q : PostV} {a : Nat} (ho : M.2.2.1 = RX6) (hd : decode M.1 pc = .ok (.getfield 17, 3)) (ha : lay a = (0, 6)) (kk : AW M (pc + 3) ls ((2, h a 4) :: st) h Q) : AW M pc ls (vr a :: st) h Q := aw_getf clk_6 hd ha (k := 4) (by decide) (by rw [ho]; exact fl_X6_17) rfl kk
theorem pf_X6_17 {M : Hd} {pc : Nat} {ls : LoS} {st : List Vl} {h : Mem} {Q : PostV} {a : Nat} {b : Nat} (ho : M.2.2.1 = RX6) (hd : decode M.1 pc = .ok (.putfield 17, 3)) (ha : lay a = (0, 6)) (hb : b < 181) (kk : AW M (pc + 3) ls st (mset h a 4 (b : Int)) Q) : AW M pc ls (vr b :: vr a :: st) h Q := aw_putr (E := "ForgetStream$Glen") clk_6 hd ha (k := 4) (by decide) (by rw [ho]; exact fl_X6_17) rfl rfl rfl hb kk
theorem fl_X6_21 : Cond.fieldLink RX6 21 (TX6 5).1 (TX6 5).2.1 (TX6 5).2.2.1 ∈ lw_g := mg2 234 rfl rfl
theorem gf_X6_21 {M : Hd} {pc : Nat} {ls : LoS} {st : List Vl} {h : Mem} {Q : PostV} {a : Nat} (ho : M.2.2.1 = RX6) (hd : decode M.1 pc = .ok (.getfield 21, 3)) (ha : lay a = (0, 6)) (kk : AW M (pc + 3) ls ((2, h a 5) :: st) h Q) : AW M pc ls (vr a :: st) h Q := aw_getf clk_6 hd ha (k := 5) (by decide) (by rw [ho]; exact fl_X6_21) rfl kk
theorem pf_X6_21 {M : Hd} {pc : Nat} {ls : LoS} {st : List Vl} {h : Mem} {Q : PostV} {a : Nat} {b : Nat} (ho : M.2.2.1 = RX6) (hd : decode M.1 pc = .ok (.putfield 21, 3)) (ha : lay a = (0, 6)) (hb : b < 181) (kk : AW M (pc + 3) ls st (mset h a 5 (b : Int)) Q) : AW M pc ls (vr b :: vr a :: st) h Q := aw_putr (E := "ForgetStream$Days") clk_6 hd ha (k := 5) (by decide) (by rw [ho]; exact fl_X6_21) rfl rfl rfl hb kk
theorem fl_X6_25 : Cond.fieldLink RX6 25 (TX6 3).1 (TX6 3).2.1 (TX6 3).2.2.1 ∈ lw_g := mg2 232 rfl rfl
theorem gf_X6_25 {M : Hd} {pc : Nat} {ls : LoS} {st : List Vl} {h : Mem} {Q : PostV} {a : Nat} (ho : M.2.2.1 = RX6) (hd : decode M.1 pc = .ok (.getfield 25, 3)) (ha : lay a = (0, 6)) (kk : AW M (pc + 3) ls ((0, h a 3) :: st) h Q) : AW M pc ls (vr a :: st) h Q := aw_getf clk_6 hd ha (k := 3) (by decide) (by rw [ho]; exact fl_X6_25) rfl kk
theorem pf_X6_25 {M : Hd} {pc : Nat} {ls : LoS} {st : List Vl} {h : Mem} {Q : PostV} {a : Nat} {x : Int} (ho : M.2.2.1 = RX6) (hd : decode M.1 pc = .ok (.putfield 25, 3)) (ha : lay a = (0, 6)) (kk : AW M (pc + 3) ls st (mset h a 3 x) Q) : AW M pc ls ((0, x) :: vr a :: st) h Q := aw_puti clk_6 hd ha (k := 3) (by decide) (by rw [ho]; exact fl_X6_25) rfl rfl rfl kk
theorem fl_X6_29 : Cond.fieldLink RX6 29 (TX6 0).1 (TX6 0).2.1 (TX6 0).2.2.1 ∈ lw_g := mg2 226 rfl rfl
theorem gf_X6_29 {M : Hd} {pc : Nat} {ls : LoS} {st : List Vl} {h : Mem} {Q : PostV} {a : Nat} (ho : M.2.2.1 = RX6) (hd : decode M.1 pc = .ok (.getfield 29, 3)) (ha : lay a = (0, 6)) (kk : AW M (pc + 3) ls ((0, h a 0) :: st) h Q) : AW M pc ls (vr a :: st) h Q := aw_getf clk_6 hd ha (k := 0) (by decide) (by rw [ho]; exact fl_X6_29) rfl kk
theorem pf_X6_29 {M : Hd} {pc : Nat} {ls : LoS} {st : List Vl} {h : Mem} {Q : PostV} {a : Nat} {x : Int} (ho : M.2.2.1 = RX6) (hd : decode M.1 pc = .ok (.putfield 29, 3)) (ha : lay a = (0, 6)) (kk : AW M (pc + 3) ls st (mset h a 0 x) Q) : AW M pc ls ((0, x) :: vr a :: st) h Q := aw_puti clk_6 hd ha (k := 0) (by decide) (by rw [ho]; exact fl_X6_29) rfl rfl rfl kk
theorem fl_X6_32 : Cond.fieldLink RX6 32 (TX6 1).1 (TX6 1).2.1 (TX6 1).2.2.1 ∈ lw_g := mg2 228 rfl rfl
theorem gf_X6_32 {M : Hd} {pc : Nat} {ls : LoS} {st : List Vl} {h : Mem} {Q : PostV} {a : Nat} (ho : M.2.2.1 = RX6) (hd : decode M.1 pc = .ok (.getfield 32, 3)) (ha : lay a = (0, 6)) (kk : AW M (pc + 3) ls ((0, h a 1) :: st) h Q) : AW M pc ls (vr a :: st) h Q := aw_getf clk_6 hd ha (k := 1) (by decide) (by rw [ho]; exact fl_X6_32) rfl kk
theorem pf_X6_32 {M : Hd} {pc : Nat} {ls : LoS} {st : List Vl} {h : Mem} {Q : PostV} {a : Nat} {x : Int} (ho : M.2.2.1 = RX6) (hd : decode M.1 pc = .ok (.putfield 32, 3)) (ha : lay a = (0, 6)) (kk : AW M (pc + 3) ls st (mset h a 1 x) Q) : AW M pc ls ((0, x) :: vr a :: st) h Q := aw_puti clk_6 hd ha (k := 1) (by decide) (by rw [ho]; exact fl_X6_32) rfl rfl rfl kk
theorem fl_X6_35 : Cond.fieldLink RX6 35 (TX6 2).1 (TX6 2).2.1 (TX6 2).2.2.1 ∈ lw_g := mg2 230 rfl rfl
theorem pf_X6_35 {M : Hd} {pc : Nat} {ls : LoS} {st : List Vl} {h : Mem} {Q : PostV} {a : Nat} {x : Int} (ho : M.2.2.1 = RX6) (hd : decode M.1 pc = .ok (.putfield 35, 3)) (ha : lay a = (0, 6)) (kk : AW M (pc + 3) ls st (mset h a 2 x) Q) : AW M pc ls ((0, x) :: vr a :: st) h Q := aw_puti clk_6 hd ha (k := 2) (by decide) (by rw [ho]; exact fl_X6_35) rfl rfl rfl kk
theorem fl_X6_39 : Cond.fieldLink RX6 39 (TX1 2).1 (TX1 2).2.1 (TX1 2).2.2.1 ∈ lw_g := mg2 76 rfl rfl
theorem gf_X6_39 {M : Hd} {pc : Nat} {ls : LoS} {st : List Vl} {h : Mem} {Q : PostV} {a : Nat} (ho : M.2.2.1 = RX6) (hd : decode M.1 pc = .ok (.getfield 39, 3)) (ha : lay a = (0, 1)) (kk : AW M (pc + 3) ls ((0, h a 2) :: st) h Q) : AW M pc ls (vr a :: st) h Q := aw_getf clk_1 hd ha (k := 2) (by decide) (by rw [ho]; exact fl_X6_39) rfl kk
theorem fl_X6_42 : Cond.fieldLink RX6 42 (TX1 3).1 (TX1 3).2.1 (TX1 3).2.2.1 ∈ lw_g := mg2 78 rfl rfl
theorem gf_X6_42 {M : Hd} {pc : Nat} {ls : LoS} {st : List Vl} {h : Mem} {Q : PostV} {a : Nat} (ho : M.2.2.1 = RX6) (hd : decode M.1 pc = .ok (.getfield 42, 3)) (ha : lay a = (0, 1)) {r : Nat} (hr : a + 1 = r) (kk : AW M (pc + 3) ls (vr r :: st) h Q) : AW M pc ls (vr a :: st) h Q := aw_getf clk_1 hd ha (k := 3) (by decide) (by rw [ho]; exact fl_X6_42) (by rw [← hr]; rfl) kk
theorem fl_X6_52 : Cond.fieldLink RX6 52 (TX1 7).1 (TX1 7).2.1 (TX1 7).2.2.1 ∈ lw_g := mg2 86 rfl rfl
theorem gf_X6_52 {M : Hd} {pc : Nat} {ls : LoS} {st : List Vl} {h : Mem} {Q : PostV} {a : Nat} (ho : M.2.2.1 = RX6) (hd : decode M.1 pc = .ok (.getfield 52, 3)) (ha : lay a = (0, 1)) {r : Nat} (hr : a + 5 = r) (kk : AW M (pc + 3) ls (vr r :: st) h Q) : AW M pc ls (vr a :: st) h Q := aw_getf clk_1 hd ha (k := 7) (by decide) (by rw [ho]; exact fl_X6_52) (by rw [← hr]; rfl) kk
theorem fl_X6_55 : Cond.fieldLink RX6 55 (TX1 4).1 (TX1 4).2.1 (TX1 4).2.2.1 ∈ lw_g := mg2 80 rfl rfl
theorem gf_X6_55 {M : Hd} {pc : Nat} {ls : LoS} {st : List Vl} {h : Mem} {Q : PostV} {a : Nat} (ho : M.2.2.1 = RX6) (hd : decode M.1 pc = .ok (.getfield 55, 3)) (ha : lay a = (0, 1)) {r : Nat} (hr : a + 2 = r) (kk : AW M (pc + 3) ls (vr r :: st) h Q) : AW M pc ls (vr a :: st) h Q := aw_getf clk_1 hd ha (k := 4) (by decide) (by rw [ho]; exact fl_X6_55) (by rw [← hr]; rfl) kk
theorem fl_X6_62 : Cond.fieldLink RX6 62 (TX1 5).1 (TX1 5).2.1 (TX1 5).2.2.1 ∈ lw_g := mg2 82 rfl rfl
theorem gf_X6_62 {M : Hd} {pc : Nat} {ls : LoS} {st : List Vl} {h : Mem} {Q : PostV} {a : Nat} (ho : M.2.2.1 = RX6) (hd : decode M.1 pc = .ok (.getfield 62, 3)) (ha : lay a = (0, 1)) {r : Nat} (hr : a + 3 = r) (kk : AW M (pc + 3) ls (vr r :: st) h Q) : AW M pc ls (vr a :: st) h Q := aw_getf clk_1 hd ha (k := 5) (by decide) (by rw [ho]; exact fl_X6_62) (by rw [← hr]; rfl) kk
theorem fl_X6_79 : Cond.fieldLink RX6 79 (TX4 5).1 (TX4 5).2.1 (TX4 5).2.2.1 ∈ lw_g := mg2 26 rfl rfl
theorem gf_X6_79 {M : Hd} {pc : Nat} {ls : LoS} {st : List Vl} {h : Mem} {Q : PostV} {a : Nat} (ho : M.2.2.1 = RX6) (hd : decode M.1 pc = .ok (.getfield 79, 3)) (ha : lay a = (0, 4)) (kk : AW M (pc + 3) ls ((0, h a 5) :: st) h Q) : AW M pc ls (vr a :: st) h Q := aw_getf clk_4 hd ha (k := 5) (by decide) (by rw [ho]; exact fl_X6_79) rfl kk
theorem fl_X6_87 : Cond.fieldLink RX6 87 (TX4 7).1 (TX4 7).2.1 (TX4 7).2.2.1 ∈ lw_g := mg2 33 rfl rfl
theorem gf_X6_87 {M : Hd} {pc : Nat} {ls : LoS} {st : List Vl} {h : Mem} {Q : PostV} {a : Nat} (ho : M.2.2.1 = RX6) (hd : decode M.1 pc = .ok (.getfield 87, 3)) (ha : lay a = (0, 4)) {r : Nat} (hr : a + 1 = r) (kk : AW M (pc + 3) ls (vr r :: st) h Q) : AW M pc ls (vr a :: st) h Q := aw_getf clk_4 hd ha (k := 7) (by decide) (by rw [ho]; exact fl_X6_87) (by rw [← hr]; rfl) kk
theorem fl_X6_91 : Cond.fieldLink RX6 91 (TX9 0).1 (TX9 0).2.1 (TX9 0).2.2.1 ∈ lw_g := mg1 165 rfl rfl
theorem gf_X6_91 {M : Hd} {pc : Nat} {ls : LoS} {st : List Vl} {h : Mem} {Q : PostV} {a : Nat} (ho : M.2.2.1 = RX6) (hd : decode M.1 pc = .ok (.getfield 91, 3)) (ha : lay a = (0, 9)) (kk : AW M (pc + 3) ls ((0, h a 0) :: st) h Q) : AW M pc ls (vr a :: st) h Q := aw_getf clk_9 hd ha (k := 0) (by decide) (by rw [ho]; exact fl_X6_91) rfl kk
theorem fl_X6_109 : Cond.fieldLink RX6 109 (TX4 0).1 (TX4 0).2.1 (TX4 0).2.2.1 ∈ lw_g := mg2 6 rfl rfl
theorem gf_X6_109 {M : Hd} {pc : Nat} {ls : LoS} {st : List Vl} {h : Mem} {Q : PostV} {a : Nat} (ho : M.2.2.1 = RX6) (hd : decode M.1 pc = .ok (.getfield 109, 3)) (ha : lay a = (0, 4)) (kk : AW M (pc + 3) ls ((0, h a 0) :: st) h Q) : AW M pc ls (vr a :: st) h Q := aw_getf clk_4 hd ha (k := 0) (by decide) (by rw [ho]; exact fl_X6_109) rfl kk
theorem fl_X6_113 : Cond.fieldLink RX6 113 (TX4 4).1 (TX4 4).2.1 (TX4 4).2.2.1 ∈ lw_g := mg2 23 rfl rfl
theorem gf_X6_113 {M : Hd} {pc : Nat} {ls : LoS} {st : List Vl} {h : Mem} {Q : PostV} {a : Nat} (ho : M.2.2.1 = RX6) (hd : decode M.1 pc = .ok (.getfield 113, 3)) (ha : lay a = (0, 4)) (kk : AW M (pc + 3) ls ((0, h a 4) :: st) h Q) : AW M pc ls (vr a :: st) h Q := aw_getf clk_4 hd ha (k := 4) (by decide) (by rw [ho]; exact fl_X6_113) rfl kk
theorem fl_X6_116 : Cond.fieldLink RX6 116 (TX4 3).1 (TX4 3).2.1 (TX4 3).2.2.1 ∈ lw_g := mg2 18 rfl rfl
theorem gf_X6_116 {M : Hd} {pc : Nat} {ls : LoS} {st : List Vl} {h : Mem} {Q : PostV} {a : Nat} (ho : M.2.2.1 = RX6) (hd : decode M.1 pc = .ok (.getfield 116, 3)) (ha : lay a = (0, 4)) (kk : AW M (pc + 3) ls ((0, h a 3) :: st) h Q) : AW M pc ls (vr a :: st) h Q := aw_getf clk_4 hd ha (k := 3) (by decide) (by rw [ho]; exact fl_X6_116) rfl kk
theorem fl_X6_119 : Cond.fieldLink RX6 119 (TX1 6).1 (TX1 6).2.1 (TX1 6).2.2.1 ∈ lw_g := mg2 84 rfl rfl
theorem gf_X6_119 {M : Hd} {pc : Nat} {ls : LoS} {st : List Vl} {h : Mem} {Q : PostV} {a : Nat} (ho : M.2.2.1 = RX6) (hd : decode M.1 pc = .ok (.getfield 119, 3)) (ha : lay a = (0, 1)) {r : Nat} (hr : a + 4 = r) (kk : AW M (pc + 3) ls (vr r :: st) h Q) : AW M pc ls (vr a :: st) h Q := aw_getf clk_1 hd ha (k := 6) (by decide) (by rw [ho]; exact fl_X6_119) (by rw [← hr]; rfl) kk
theorem fl_X6_126 : Cond.fieldLink RX6 126 (TX4 8).1 (TX4 8).2.1 (TX4 8).2.2.1 ∈ lw_g := mg2 41 rfl rfl
theorem gf_X6_126 {M : Hd} {pc : Nat} {ls : LoS} {st : List Vl} {h : Mem} {Q : PostV} {a : Nat} (ho : M.2.2.1 = RX6) (hd : decode M.1 pc = .ok (.getfield 126, 3)) (ha : lay a = (0, 4)) {r : Nat} (hr : a + 10 = r) (kk : AW M (pc + 3) ls (vr r :: st) h Q) : AW M pc ls (vr a :: st) h Q := aw_getf clk_4 hd ha (k := 8) (by decide) (by rw [ho]; exact fl_X6_126) (by rw [← hr]; rfl) kk
theorem fl_X6_130 : Cond.fieldLink RX6 130 (TX7 0).1 (TX7 0).2.1 (TX7 0).2.2.1 ∈ lw_g := mg1 215 rfl rfl
theorem gf_X6_130 {M : Hd} {pc : Nat} {ls : LoS} {st : List Vl} {h : Mem} {Q : PostV} {a : Nat} (ho : M.2.2.1 = RX6) (hd : decode M.1 pc = .ok (.getfield 130, 3)) (ha : lay a = (0, 7)) (kk : AW M (pc + 3) ls ((0, h a 0) :: st) h Q) : AW M pc ls (vr a :: st) h Q := aw_getf clk_7 hd ha (k := 0) (by decide) (by rw [ho]; exact fl_X6_130) rfl kk
theorem fl_X6_133 : Cond.fieldLink RX6 133 (TX7 4).1 (TX7 4).2.1 (TX7 4).2.2.1 ∈ lw_g := mg1 225 rfl rfl
theorem gf_X6_133 {M : Hd} {pc : Nat} {ls : LoS} {st : List Vl} {h : Mem} {Q : PostV} {a : Nat} (ho : M.2.2.1 = RX6) (hd : decode M.1 pc = .ok (.getfield 133, 3)) (ha : lay a = (0, 7)) {r : Nat} (hr : a + 4 = r) (kk : AW M (pc + 3) ls (vr r :: st) h Q) : AW M pc ls (vr a :: st) h Q := aw_getf clk_7 hd ha (k := 4) (by decide) (by rw [ho]; exact fl_X6_133) (by rw [← hr]; rfl) kk
theorem fl_X7_9 : Cond.fieldLink RX7 9 (TX7 0).1 (TX7 0).2.1 (TX7 0).2.2.1 ∈ lw_g := mg1 212 rfl rfl
theorem gf_X7_9 {M : Hd} {pc : Nat} {ls : LoS} {st : List Vl} {h : Mem} {Q : PostV} {a : Nat} (ho : M.2.2.1 = RX7) (hd : decode M.1 pc = .ok (.getfield 9, 3)) (ha : lay a = (0, 7)) (kk : AW M (pc + 3) ls ((0, h a 0) :: st) h Q) : AW M pc ls (vr a :: st) h Q := aw_getf clk_7 hd ha (k := 0) (by decide) (by rw [ho]; exact fl_X7_9) rfl kk
theorem pf_X7_9 {M : Hd} {pc : Nat} {ls : LoS} {st : List Vl} {h : Mem} {Q : PostV} {a : Nat} {x : Int} (ho : M.2.2.1 = RX7) (hd : decode M.1 pc = .ok (.putfield 9, 3)) (ha : lay a = (0, 7)) (kk : AW M (pc + 3) ls st (mset h a 0 x) Q) : AW M pc ls ((0, x) :: vr a :: st) h Q := aw_puti clk_7 hd ha (k := 0) (by decide) (by rw [ho]; exact fl_X7_9) rfl rfl rfl kk
theorem fl_X7_15 : Cond.fieldLink RX7 15 (TX7 1).1 (TX7 1).2.1 (TX7 1).2.2.1 ∈ lw_g := mg1 217 rfl rfl
theorem gf_X7_15 {M : Hd} {pc : Nat} {ls : LoS} {st : List Vl} {h : Mem} {Q : PostV} {a : Nat} (ho : M.2.2.1 = RX7) (hd : decode M.1 pc = .ok (.getfield 15, 3)) (ha : lay a = (0, 7)) {r : Nat} (hr : a + 1 = r) (kk : AW M (pc + 3) ls (vr r :: st) h Q) : AW M pc ls (vr a :: st) h Q := aw_getf clk_7 hd ha (k := 1) (by decide) (by rw [ho]; exact fl_X7_15) (by rw [← hr]; rfl) kk
theorem fl_X7_19 : Cond.fieldLink RX7 19 (TX7 2).1 (TX7 2).2.1 (TX7 2).2.2.1 ∈ lw_g := mg1 218 rfl rfl
theorem gf_X7_19 {M : Hd} {pc : Nat} {ls : LoS} {st : List Vl} {h : Mem} {Q : PostV} {a : Nat} (ho : M.2.2.1 = RX7) (hd : decode M.1 pc = .ok (.getfield 19, 3)) (ha : lay a = (0, 7)) {r : Nat} (hr : a + 2 = r) (kk : AW M (pc + 3) ls (vr r :: st) h Q) : AW M pc ls (vr a :: st) h Q := aw_getf clk_7 hd ha (k := 2) (by decide) (by rw [ho]; exact fl_X7_19) (by rw [← hr]; rfl) kk
theorem fl_X7_23 : Cond.fieldLink RX7 23 (TX7 3).1 (TX7 3).2.1 (TX7 3).2.2.1 ∈ lw_g := mg1 220 rfl rfl
theorem gf_X7_23 {M : Hd} {pc : Nat} {ls : LoS} {st : List Vl} {h : Mem} {Q : PostV} {a : Nat} (ho : M.2.2.1 = RX7) (hd : decode M.1 pc = .ok (.getfield 23, 3)) (ha : lay a = (0, 7)) {r : Nat} (hr : a + 3 = r) (kk : AW M (pc + 3) ls (vr r :: st) h Q) : AW M pc ls (vr a :: st) h Q := aw_getf clk_7 hd ha (k := 3) (by decide) (by rw [ho]; exact fl_X7_23) (by rw [← hr]; rfl) kk
theorem fl_X7_26 : Cond.fieldLink RX7 26 (TX7 4).1 (TX7 4).2.1 (TX7 4).2.2.1 ∈ lw_g := mg1 222 rfl rfl
theorem gf_X7_26 {M : Hd} {pc : Nat} {ls : LoS} {st : List Vl} {h : Mem} {Q : PostV} {a : Nat} (ho : M.2.2.1 = RX7) (hd : decode M.1 pc = .ok (.getfield 26, 3)) (ha : lay a = (0, 7)) {r : Nat} (hr : a + 4 = r) (kk : AW M (pc + 3) ls (vr r :: st) h Q) : AW M pc ls (vr a :: st) h Q := aw_getf clk_7 hd ha (k := 4) (by decide) (by rw [ho]; exact fl_X7_26) (by rw [← hr]; rfl) kk
theorem fl_X8_11 : Cond.fieldLink RX8 11 (TX8 0).1 (TX8 0).2.1 (TX8 0).2.2.1 ∈ lw_g := mg1 110 rfl rfl
theorem gf_X8_11 {M : Hd} {pc : Nat} {ls : LoS} {st : List Vl} {h : Mem} {Q : PostV} {a : Nat} (ho : M.2.2.1 = RX8) (hd : decode M.1 pc = .ok (.getfield 11, 3)) (ha : lay a = (0, 8)) {r : Nat} (hr : a + 1 = r) (kk : AW M (pc + 3) ls (vr r :: st) h Q) : AW M pc ls (vr a :: st) h Q := aw_getf clk_8 hd ha (k := 0) (by decide) (by rw [ho]; exact fl_X8_11) (by rw [← hr]; rfl) kk
theorem fl_X8_15 : Cond.fieldLink RX8 15 (TX8 1).1 (TX8 1).2.1 (TX8 1).2.2.1 ∈ lw_g := mg1 111 rfl rfl
theorem gf_X8_15 {M : Hd} {pc : Nat} {ls : LoS} {st : List Vl} {h : Mem} {Q : PostV} {a : Nat} (ho : M.2.2.1 = RX8) (hd : decode M.1 pc = .ok (.getfield 15, 3)) (ha : lay a = (0, 8)) (kk : AW M (pc + 3) ls ((0, h a 1) :: st) h Q) : AW M pc ls (vr a :: st) h Q := aw_getf clk_8 hd ha (k := 1) (by decide) (by rw [ho]; exact fl_X8_15) rfl kk
theorem pf_X8_15 {M : Hd} {pc : Nat} {ls : LoS} {st : List Vl} {h : Mem} {Q : PostV} {a : Nat} {x : Int} (ho : M.2.2.1 = RX8) (hd : decode M.1 pc = .ok (.putfield 15, 3)) (ha : lay a = (0, 8)) (kk : AW M (pc + 3) ls st (mset h a 1 x) Q) : AW M pc ls ((0, x) :: vr a :: st) h Q := aw_puti clk_8 hd ha (k := 1) (by decide) (by rw [ho]; exact fl_X8_15) rfl rfl rfl kk
theorem fl_X8_19 : Cond.fieldLink RX8 19 (TX8 2).1 (TX8 2).2.1 (TX8 2).2.2.1 ∈ lw_g := mg1 113 rfl rfl
theorem gf_X8_19 {M : Hd} {pc : Nat} {ls : LoS} {st : List Vl} {h : Mem} {Q : PostV} {a : Nat} (ho : M.2.2.1 = RX8) (hd : decode M.1 pc = .ok (.getfield 19, 3)) (ha : lay a = (0, 8)) {r : Nat} (hr : a + 2 = r) (kk : AW M (pc + 3) ls (vr r :: st) h Q) : AW M pc ls (vr a :: st) h Q := aw_getf clk_8 hd ha (k := 2) (by decide) (by rw [ho]; exact fl_X8_19) (by rw [← hr]; rfl) kk
theorem fl_X8_23 : Cond.fieldLink RX8 23 (TX8 3).1 (TX8 3).2.1 (TX8 3).2.2.1 ∈ lw_g := mg1 114 rfl rfl
theorem gf_X8_23 {M : Hd} {pc : Nat} {ls : LoS} {st : List Vl} {h : Mem} {Q : PostV} {a : Nat} (ho : M.2.2.1 = RX8) (hd : decode M.1 pc = .ok (.getfield 23, 3)) (ha : lay a = (0, 8)) (kk : AW M (pc + 3) ls ((0, h a 3) :: st) h Q) : AW M pc ls (vr a :: st) h Q := aw_getf clk_8 hd ha (k := 3) (by decide) (by rw [ho]; exact fl_X8_23) rfl kk
theorem pf_X8_23 {M : Hd} {pc : Nat} {ls : LoS} {st : List Vl} {h : Mem} {Q : PostV} {a : Nat} {x : Int} (ho : M.2.2.1 = RX8) (hd : decode M.1 pc = .ok (.putfield 23, 3)) (ha : lay a = (0, 8)) (kk : AW M (pc + 3) ls st (mset h a 3 x) Q) : AW M pc ls ((0, x) :: vr a :: st) h Q := aw_puti clk_8 hd ha (k := 3) (by decide) (by rw [ho]; exact fl_X8_23) rfl rfl rfl kk
theorem fl_X8_26 : Cond.fieldLink RX8 26 (TX8 4).1 (TX8 4).2.1 (TX8 4).2.2.1 ∈ lw_g := mg1 115 rfl rfl
theorem gf_X8_26 {M : Hd} {pc : Nat} {ls : LoS} {st : List Vl} {h : Mem} {Q : PostV} {a : Nat} (ho : M.2.2.1 = RX8) (hd : decode M.1 pc = .ok (.getfield 26, 3)) (ha : lay a = (0, 8)) (kk : AW M (pc + 3) ls ((0, h a 4) :: st) h Q) : AW M pc ls (vr a :: st) h Q := aw_getf clk_8 hd ha (k := 4) (by decide) (by rw [ho]; exact fl_X8_26) rfl kk
theorem pf_X8_26 {M : Hd} {pc : Nat} {ls : LoS} {st : List Vl} {h : Mem} {Q : PostV} {a : Nat} {x : Int} (ho : M.2.2.1 = RX8) (hd : decode M.1 pc = .ok (.putfield 26, 3)) (ha : lay a = (0, 8)) (kk : AW M (pc + 3) ls st (mset h a 4 x) Q) : AW M pc ls ((0, x) :: vr a :: st) h Q := aw_puti clk_8 hd ha (k := 4) (by decide) (by rw [ho]; exact fl_X8_26) rfl rfl rfl kk
theorem fl_X8_29 : Cond.fieldLink RX8 29 (TX8 5).1 (TX8 5).2.1 (TX8 5).2.2.1 ∈ lw_g := mg1 116 rfl rfl
theorem gf_X8_29 {M : Hd} {pc : Nat} {ls : LoS} {st : List Vl} {h : Mem} {Q : PostV} {a : Nat} (ho : M.2.2.1 = RX8) (hd : decode M.1 pc = .ok (.getfield 29, 3)) (ha : lay a = (0, 8)) (kk : AW M (pc + 3) ls ((0, h a 5) :: st) h Q) : AW M pc ls (vr a :: st) h Q := aw_getf clk_8 hd ha (k := 5) (by decide) (by rw [ho]; exact fl_X8_29) rfl kk
theorem pf_X8_29 {M : Hd} {pc : Nat} {ls : LoS} {st : List Vl} {h : Mem} {Q : PostV} {a : Nat} {x : Int} (ho : M.2.2.1 = RX8) (hd : decode M.1 pc = .ok (.putfield 29, 3)) (ha : lay a = (0, 8)) (kk : AW M (pc + 3) ls st (mset h a 5 x) Q) : AW M pc ls ((0, x) :: vr a :: st) h Q := aw_puti clk_8 hd ha (k := 5) (by decide) (by rw [ho]; exact fl_X8_29) rfl rfl rfl kk
theorem fl_X8_32 : Cond.fieldLink RX8 32 (TX8 6).1 (TX8 6).2.1 (TX8 6).2.2.1 ∈ lw_g := mg1 118 rfl rfl
theorem gf_X8_32 {M : Hd} {pc : Nat} {ls : LoS} {st : List Vl} {h : Mem} {Q : PostV} {a : Nat} (ho : M.2.2.1 = RX8) (hd : decode M.1 pc = .ok (.getfield 32, 3)) (ha : lay a = (0, 8)) (kk : AW M (pc + 3) ls ((0, h a 6) :: st) h Q) : AW M pc ls (vr a :: st) h Q := aw_getf clk_8 hd ha (k := 6) (by decide) (by rw [ho]; exact fl_X8_32) rfl kk
theorem pf_X8_32 {M : Hd} {pc : Nat} {ls : LoS} {st : List Vl} {h : Mem} {Q : PostV} {a : Nat} {x : Int} (ho : M.2.2.1 = RX8) (hd : decode M.1 pc = .ok (.putfield 32, 3)) (ha : lay a = (0, 8)) (kk : AW M (pc + 3) ls st (mset h a 6 x) Q) : AW M pc ls ((0, x) :: vr a :: st) h Q := aw_puti clk_8 hd ha (k := 6) (by decide) (by rw [ho]; exact fl_X8_32) rfl rfl rfl kk
theorem fl_X8_35 : Cond.fieldLink RX8 35 (TX8 7).1 (TX8 7).2.1 (TX8 7).2.2.1 ∈ lw_g := mg1 119 rfl rfl
theorem gf_X8_35 {M : Hd} {pc : Nat} {ls : LoS} {st : List Vl} {h : Mem} {Q : PostV} {a : Nat} (ho : M.2.2.1 = RX8) (hd : decode M.1 pc = .ok (.getfield 35, 3)) (ha : lay a = (0, 8)) (kk : AW M (pc + 3) ls ((0, h a 7) :: st) h Q) : AW M pc ls (vr a :: st) h Q := aw_getf clk_8 hd ha (k := 7) (by decide) (by rw [ho]; exact fl_X8_35) rfl kk
theorem pf_X8_35 {M : Hd} {pc : Nat} {ls : LoS} {st : List Vl} {h : Mem} {Q : PostV} {a : Nat} {x : Int} (ho : M.2.2.1 = RX8) (hd : decode M.1 pc = .ok (.putfield 35, 3)) (ha : lay a = (0, 8)) (kk : AW M (pc + 3) ls st (mset h a 7 x) Q) : AW M pc ls ((0, x) :: vr a :: st) h Q := aw_puti clk_8 hd ha (k := 7) (by decide) (by rw [ho]; exact fl_X8_35) rfl rfl rfl kk
theorem fl_X8_38 : Cond.fieldLink RX8 38 (TX8 8).1 (TX8 8).2.1 (TX8 8).2.2.1 ∈ lw_g := mg1 121 rfl rfl
theorem gf_X8_38 {M : Hd} {pc : Nat} {ls : LoS} {st : List Vl} {h : Mem} {Q : PostV} {a : Nat} (ho : M.2.2.1 = RX8) (hd : decode M.1 pc = .ok (.getfield 38, 3)) (ha : lay a = (0, 8)) (kk : AW M (pc + 3) ls ((1, h a 8) :: st) h Q) : AW M pc ls (vr a :: st) h Q := aw_getf clk_8 hd ha (k := 8) (by decide) (by rw [ho]; exact fl_X8_38) rfl kk
theorem pf_X8_38 {M : Hd} {pc : Nat} {ls : LoS} {st : List Vl} {h : Mem} {Q : PostV} {a : Nat} {x : Int} (ho : M.2.2.1 = RX8) (hd : decode M.1 pc = .ok (.putfield 38, 3)) (ha : lay a = (0, 8)) (kk : AW M (pc + 3) ls st (mset h a 8 x) Q) : AW M pc ls ((1, x) :: vr a :: st) h Q := aw_putl clk_8 hd ha (k := 8) (by decide) (by rw [ho]; exact fl_X8_38) rfl rfl rfl kk
theorem fl_X8_42 : Cond.fieldLink RX8 42 (TX8 9).1 (TX8 9).2.1 (TX8 9).2.2.1 ∈ lw_g := mg1 122 rfl rfl
theorem gf_X8_42 {M : Hd} {pc : Nat} {ls : LoS} {st : List Vl} {h : Mem} {Q : PostV} {a : Nat} (ho : M.2.2.1 = RX8) (hd : decode M.1 pc = .ok (.getfield 42, 3)) (ha : lay a = (0, 8)) (kk : AW M (pc + 3) ls ((0, h a 9) :: st) h Q) : AW M pc ls (vr a :: st) h Q := aw_getf clk_8 hd ha (k := 9) (by decide) (by rw [ho]; exact fl_X8_42) rfl kk
theorem pf_X8_42 {M : Hd} {pc : Nat} {ls : LoS} {st : List Vl} {h : Mem} {Q : PostV} {a : Nat} {x : Int} (ho : M.2.2.1 = RX8) (hd : decode M.1 pc = .ok (.putfield 42, 3)) (ha : lay a = (0, 8)) (kk : AW M (pc + 3) ls st (mset h a 9 x) Q) : AW M pc ls ((0, x) :: vr a :: st) h Q := aw_puti clk_8 hd ha (k := 9) (by decide) (by rw [ho]; exact fl_X8_42) rfl rfl rfl kk
theorem fl_X8_45 : Cond.fieldLink RX8 45 (TX8 10).1 (TX8 10).2.1 (TX8 10).2.2.1 ∈ lw_g := mg1 124 rfl rfl
theorem pf_X8_45 {M : Hd} {pc : Nat} {ls : LoS} {st : List Vl} {h : Mem} {Q : PostV} {a : Nat} {x : Int} (ho : M.2.2.1 = RX8) (hd : decode M.1 pc = .ok (.putfield 45, 3)) (ha : lay a = (0, 8)) (kk : AW M (pc + 3) ls st (mset h a 10 x) Q) : AW M pc ls ((0, x) :: vr a :: st) h Q := aw_puti clk_8 hd ha (k := 10) (by decide) (by rw [ho]; exact fl_X8_45) rfl rfl rfl kk
theorem fl_X9_9 : Cond.fieldLink RX9 9 (TX9 0).1 (TX9 0).2.1 (TX9 0).2.2.1 ∈ lw_g := mg1 162 rfl rfl
theorem gf_X9_9 {M : Hd} {pc : Nat} {ls : LoS} {st : List Vl} {h : Mem} {Q : PostV} {a : Nat} (ho : M.2.2.1 = RX9) (hd : decode M.1 pc = .ok (.getfield 9, 3)) (ha : lay a = (0, 9)) (kk : AW M (pc + 3) ls ((0, h a 0) :: st) h Q) : AW M pc ls (vr a :: st) h Q := aw_getf clk_9 hd ha (k := 0) (by decide) (by rw [ho]; exact fl_X9_9) rfl kk
theorem pf_X9_9 {M : Hd} {pc : Nat} {ls : LoS} {st : List Vl} {h : Mem} {Q : PostV} {a : Nat} {x : Int} (ho : M.2.2.1 = RX9) (hd : decode M.1 pc = .ok (.putfield 9, 3)) (ha : lay a = (0, 9)) (kk : AW M (pc + 3) ls st (mset h a 0 x) Q) : AW M pc ls ((0, x) :: vr a :: st) h Q := aw_puti clk_9 hd ha (k := 0) (by decide) (by rw [ho]; exact fl_X9_9) rfl rfl rfl kk
theorem fl_X9_15 : Cond.fieldLink RX9 15 (TX9 1).1 (TX9 1).2.1 (TX9 1).2.2.1 ∈ lw_g := mg1 168 rfl rfl
theorem gf_X9_15 {M : Hd} {pc : Nat} {ls : LoS} {st : List Vl} {h : Mem} {Q : PostV} {a : Nat} (ho : M.2.2.1 = RX9) (hd : decode M.1 pc = .ok (.getfield 15, 3)) (ha : lay a = (0, 9)) {r : Nat} (hr : a + 1 = r) (kk : AW M (pc + 3) ls (vr r :: st) h Q) : AW M pc ls (vr a :: st) h Q := aw_getf clk_9 hd ha (k := 1) (by decide) (by rw [ho]; exact fl_X9_15) (by rw [← hr]; rfl) kk
theorem fl_X9_19 : Cond.fieldLink RX9 19 (TX9 2).1 (TX9 2).2.1 (TX9 2).2.2.1 ∈ lw_g := mg1 169 rfl rfl
theorem gf_X9_19 {M : Hd} {pc : Nat} {ls : LoS} {st : List Vl} {h : Mem} {Q : PostV} {a : Nat} (ho : M.2.2.1 = RX9) (hd : decode M.1 pc = .ok (.getfield 19, 3)) (ha : lay a = (0, 9)) {r : Nat} (hr : a + 2 = r) (kk : AW M (pc + 3) ls (vr r :: st) h Q) : AW M pc ls (vr a :: st) h Q := aw_getf clk_9 hd ha (k := 2) (by decide) (by rw [ho]; exact fl_X9_19) (by rw [← hr]; rfl) kk
theorem fl_X9_23 : Cond.fieldLink RX9 23 (TX9 3).1 (TX9 3).2.1 (TX9 3).2.2.1 ∈ lw_g := mg1 171 rfl rfl
theorem gf_X9_23 {M : Hd} {pc : Nat} {ls : LoS} {st : List Vl} {h : Mem} {Q : PostV} {a : Nat} (ho : M.2.2.1 = RX9) (hd : decode M.1 pc = .ok (.getfield 23, 3)) (ha : lay a = (0, 9)) {r : Nat} (hr : a + 3 = r) (kk : AW M (pc + 3) ls (vr r :: st) h Q) : AW M pc ls (vr a :: st) h Q := aw_getf clk_9 hd ha (k := 3) (by decide) (by rw [ho]; exact fl_X9_23) (by rw [← hr]; rfl) kk
theorem fl_X9_26 : Cond.fieldLink RX9 26 (TX9 4).1 (TX9 4).2.1 (TX9 4).2.2.1 ∈ lw_g := mg1 173 rfl rfl
theorem gf_X9_26 {M : Hd} {pc : Nat} {ls : LoS} {st : List Vl} {h : Mem} {Q : PostV} {a : Nat} (ho : M.2.2.1 = RX9) (hd : decode M.1 pc = .ok (.getfield 26, 3)) (ha : lay a = (0, 9)) {r : Nat} (hr : a + 4 = r) (kk : AW M (pc + 3) ls (vr r :: st) h Q) : AW M pc ls (vr a :: st) h Q := aw_getf clk_9 hd ha (k := 4) (by decide) (by rw [ho]; exact fl_X9_26) (by rw [← hr]; rfl) kk
theorem fl_X9_29 : Cond.fieldLink RX9 29 (TX9 5).1 (TX9 5).2.1 (TX9 5).2.2.1 ∈ lw_g := mg1 177 rfl rfl
theorem gf_X9_29 {M : Hd} {pc : Nat} {ls : LoS} {st : List Vl} {h : Mem} {Q : PostV} {a : Nat} (ho : M.2.2.1 = RX9) (hd : decode M.1 pc = .ok (.getfield 29, 3)) (ha : lay a = (0, 9)) {r : Nat} (hr : a + 5 = r) (kk : AW M (pc + 3) ls (vr r :: st) h Q) : AW M pc ls (vr a :: st) h Q := aw_getf clk_9 hd ha (k := 5) (by decide) (by rw [ho]; exact fl_X9_29) (by rw [← hr]; rfl) kk
theorem fl_X9_32 : Cond.fieldLink RX9 32 (TX9 6).1 (TX9 6).2.1 (TX9 6).2.2.1 ∈ lw_g := mg1 180 rfl rfl
theorem gf_X9_32 {M : Hd} {pc : Nat} {ls : LoS} {st : List Vl} {h : Mem} {Q : PostV} {a : Nat} (ho : M.2.2.1 = RX9) (hd : decode M.1 pc = .ok (.getfield 32, 3)) (ha : lay a = (0, 9)) {r : Nat} (hr : a + 6 = r) (kk : AW M (pc + 3) ls (vr r :: st) h Q) : AW M pc ls (vr a :: st) h Q := aw_getf clk_9 hd ha (k := 6) (by decide) (by rw [ho]; exact fl_X9_32) (by rw [← hr]; rfl) kk
theorem fl_X9_35 : Cond.fieldLink RX9 35 (TX9 7).1 (TX9 7).2.1 (TX9 7).2.2.1 ∈ lw_g := mg1 183 rfl rfl
theorem gf_X9_35 {M : Hd} {pc : Nat} {ls : LoS} {st : List Vl} {h : Mem} {Q : PostV} {a : Nat} (ho : M.2.2.1 = RX9) (hd : decode M.1 pc = .ok (.getfield 35, 3)) (ha : lay a = (0, 9)) {r : Nat} (hr : a + 7 = r) (kk : AW M (pc + 3) ls (vr r :: st) h Q) : AW M pc ls (vr a :: st) h Q := aw_getf clk_9 hd ha (k := 7) (by decide) (by rw [ho]; exact fl_X9_35) (by rw [← hr]; rfl) kk
theorem fl_X9_38 : Cond.fieldLink RX9 38 (TX9 8).1 (TX9 8).2.1 (TX9 8).2.2.1 ∈ lw_g := mg1 185 rfl rfl
theorem gf_X9_38 {M : Hd} {pc : Nat} {ls : LoS} {st : List Vl} {h : Mem} {Q : PostV} {a : Nat} (ho : M.2.2.1 = RX9) (hd : decode M.1 pc = .ok (.getfield 38, 3)) (ha : lay a = (0, 9)) {r : Nat} (hr : a + 8 = r) (kk : AW M (pc + 3) ls (vr r :: st) h Q) : AW M pc ls (vr a :: st) h Q := aw_getf clk_9 hd ha (k := 8) (by decide) (by rw [ho]; exact fl_X9_38) (by rw [← hr]; rfl) kk
theorem fl_X10_9 : Cond.fieldLink RX10 9 (TX10 0).1 (TX10 0).2.1 (TX10 0).2.2.1 ∈ lw_g := mg1 37 rfl rfl
theorem gf_X10_9 {M : Hd} {pc : Nat} {ls : LoS} {st : List Vl} {h : Mem} {Q : PostV} {a : Nat} (ho : M.2.2.1 = RX10) (hd : decode M.1 pc = .ok (.getfield 9, 3)) (ha : lay a = (0, 10)) {r : Nat} (hr : a + 1 = r) (kk : AW M (pc + 3) ls (vr r :: st) h Q) : AW M pc ls (vr a :: st) h Q := aw_getf clk_10 hd ha (k := 0) (by decide) (by rw [ho]; exact fl_X10_9) (by rw [← hr]; rfl) kk
theorem fl_X10_13 : Cond.fieldLink RX10 13 (TX10 1).1 (TX10 1).2.1 (TX10 1).2.2.1 ∈ lw_g := mg1 39 rfl rfl
theorem gf_X10_13 {M : Hd} {pc : Nat} {ls : LoS} {st : List Vl} {h : Mem} {Q : PostV} {a : Nat} (ho : M.2.2.1 = RX10) (hd : decode M.1 pc = .ok (.getfield 13, 3)) (ha : lay a = (0, 10)) {r : Nat} (hr : a + 2 = r) (kk : AW M (pc + 3) ls (vr r :: st) h Q) : AW M pc ls (vr a :: st) h Q := aw_getf clk_10 hd ha (k := 1) (by decide) (by rw [ho]; exact fl_X10_13) (by rw [← hr]; rfl) kk
theorem fl_X10_18 : Cond.fieldLink RX10 18 (TX10 2).1 (TX10 2).2.1 (TX10 2).2.2.1 ∈ lw_g := mg1 41 rfl rfl
theorem gf_X10_18 {M : Hd} {pc : Nat} {ls : LoS} {st : List Vl} {h : Mem} {Q : PostV} {a : Nat} (ho : M.2.2.1 = RX10) (hd : decode M.1 pc = .ok (.getfield 18, 3)) (ha : lay a = (0, 10)) {r : Nat} (hr : a + 3 = r) (kk : AW M (pc + 3) ls (vr r :: st) h Q) : AW M pc ls (vr a :: st) h Q := aw_getf clk_10 hd ha (k := 2) (by decide) (by rw [ho]; exact fl_X10_18) (by rw [← hr]; rfl) kk
theorem fl_X12_7 : Cond.fieldLink RX12 7 (TX12 0).1 (TX12 0).2.1 (TX12 0).2.2.1 ∈ lw_g := mg6 157 rfl rfl
theorem gf_X12_7 {M : Hd} {pc : Nat} {ls : LoS} {st : List Vl} {h : Mem} {Q : PostV} {a : Nat} (ho : M.2.2.1 = RX12) (hd : decode M.1 pc = .ok (.getfield 7, 3)) (ha : lay a = (0, 12)) {r : Nat} (hr : a + 1 = r) (kk : AW M (pc + 3) ls (vr r :: st) h Q) : AW M pc ls (vr a :: st) h Q := aw_getf clk_12 hd ha (k := 0) (by decide) (by rw [ho]; exact fl_X12_7) (by rw [← hr]; rfl) kk
theorem fl_X12_13 : Cond.fieldLink RX12 13 (TX12 1).1 (TX12 1).2.1 (TX12 1).2.2.1 ∈ lw_g := mg6 158 rfl rfl
theorem gf_X12_13 {M : Hd} {pc : Nat} {ls : LoS} {st : List Vl} {h : Mem} {Q : PostV} {a : Nat} (ho : M.2.2.1 = RX12) (hd : decode M.1 pc = .ok (.getfield 13, 3)) (ha : lay a = (0, 12)) {r : Nat} (hr : a + 2 = r) (kk : AW M (pc + 3) ls (vr r :: st) h Q) : AW M pc ls (vr a :: st) h Q := aw_getf clk_12 hd ha (k := 1) (by decide) (by rw [ho]; exact fl_X12_13) (by rw [← hr]; rfl) kk
theorem fl_X12_17 : Cond.fieldLink RX12 17 (TX12 4).1 (TX12 4).2.1 (TX12 4).2.2.1 ∈ lw_g := mg6 161 rfl rfl
theorem gf_X12_17 {M : Hd} {pc : Nat} {ls : LoS} {st : List Vl} {h : Mem} {Q : PostV} {a : Nat} (ho : M.2.2.1 = RX12) (hd : decode M.1 pc = .ok (.getfield 17, 3)) (ha : lay a = (0, 12)) (kk : AW M (pc + 3) ls ((1, h a 4) :: st) h Q) : AW M pc ls (vr a :: st) h Q := aw_getf clk_12 hd ha (k := 4) (by decide) (by rw [ho]; exact fl_X12_17) rfl kk
theorem pf_X12_17 {M : Hd} {pc : Nat} {ls : LoS} {st : List Vl} {h : Mem} {Q : PostV} {a : Nat} {x : Int} (ho : M.2.2.1 = RX12) (hd : decode M.1 pc = .ok (.putfield 17, 3)) (ha : lay a = (0, 12)) (kk : AW M (pc + 3) ls st (mset h a 4 x) Q) : AW M pc ls ((1, x) :: vr a :: st) h Q := aw_putl clk_12 hd ha (k := 4) (by decide) (by rw [ho]; exact fl_X12_17) rfl rfl rfl kk
theorem fl_X12_21 : Cond.fieldLink RX12 21 (TX12 5).1 (TX12 5).2.1 (TX12 5).2.2.1 ∈ lw_g := mg6 162 rfl rfl
theorem gf_X12_21 {M : Hd} {pc : Nat} {ls : LoS} {st : List Vl} {h : Mem} {Q : PostV} {a : Nat} (ho : M.2.2.1 = RX12) (hd : decode M.1 pc = .ok (.getfield 21, 3)) (ha : lay a = (0, 12)) {r : Nat} (hr : a + 3 = r) (kk : AW M (pc + 3) ls (vr r :: st) h Q) : AW M pc ls (vr a :: st) h Q := aw_getf clk_12 hd ha (k := 5) (by decide) (by rw [ho]; exact fl_X12_21) (by rw [← hr]; rfl) kk
theorem fl_X12_24 : Cond.fieldLink RX12 24 (TX12 6).1 (TX12 6).2.1 (TX12 6).2.2.1 ∈ lw_g := mg6 163 rfl rfl
theorem gf_X12_24 {M : Hd} {pc : Nat} {ls : LoS} {st : List Vl} {h : Mem} {Q : PostV} {a : Nat} (ho : M.2.2.1 = RX12) (hd : decode M.1 pc = .ok (.getfield 24, 3)) (ha : lay a = (0, 12)) {r : Nat} (hr : a + 4 = r) (kk : AW M (pc + 3) ls (vr r :: st) h Q) : AW M pc ls (vr a :: st) h Q := aw_getf clk_12 hd ha (k := 6) (by decide) (by rw [ho]; exact fl_X12_24) (by rw [← hr]; rfl) kk
theorem fl_X12_27 : Cond.fieldLink RX12 27 (TX12 7).1 (TX12 7).2.1 (TX12 7).2.2.1 ∈ lw_g := mg6 164 rfl rfl
theorem gf_X12_27 {M : Hd} {pc : Nat} {ls : LoS} {st : List Vl} {h : Mem} {Q : PostV} {a : Nat} (ho : M.2.2.1 = RX12) (hd : decode M.1 pc = .ok (.getfield 27, 3)) (ha : lay a = (0, 12)) {r : Nat} (hr : a + 5 = r) (kk : AW M (pc + 3) ls (vr r :: st) h Q) : AW M pc ls (vr a :: st) h Q := aw_getf clk_12 hd ha (k := 7) (by decide) (by rw [ho]; exact fl_X12_27) (by rw [← hr]; rfl) kk
theorem fl_X12_30 : Cond.fieldLink RX12 30 (TX12 8).1 (TX12 8).2.1 (TX12 8).2.2.1 ∈ lw_g := mg6 165 rfl rfl
theorem gf_X12_30 {M : Hd} {pc : Nat} {ls : LoS} {st : List Vl} {h : Mem} {Q : PostV} {a : Nat} (ho : M.2.2.1 = RX12) (hd : decode M.1 pc = .ok (.getfield 30, 3)) (ha : lay a = (0, 12)) {r : Nat} (hr : a + 6 = r) (kk : AW M (pc + 3) ls (vr r :: st) h Q) : AW M pc ls (vr a :: st) h Q := aw_getf clk_12 hd ha (k := 8) (by decide) (by rw [ho]; exact fl_X12_30) (by rw [← hr]; rfl) kk
theorem fl_X12_34 : Cond.fieldLink RX12 34 (TX12 9).1 (TX12 9).2.1 (TX12 9).2.2.1 ∈ lw_g := mg6 166 rfl rfl
theorem gf_X12_34 {M : Hd} {pc : Nat} {ls : LoS} {st : List Vl} {h : Mem} {Q : PostV} {a : Nat} (ho : M.2.2.1 = RX12) (hd : decode M.1 pc = .ok (.getfield 34, 3)) (ha : lay a = (0, 12)) {r : Nat} (hr : a + 7 = r) (kk : AW M (pc + 3) ls (vr r :: st) h Q) : AW M pc ls (vr a :: st) h Q := aw_getf clk_12 hd ha (k := 9) (by decide) (by rw [ho]; exact fl_X12_34) (by rw [← hr]; rfl) kk
theorem fl_X12_37 : Cond.fieldLink RX12 37 (TX12 16).1 (TX12 16).2.1 (TX12 16).2.2.1 ∈ lw_g := mg6 173 rfl rfl
theorem gf_X12_37 {M : Hd} {pc : Nat} {ls : LoS} {st : List Vl} {h : Mem} {Q : PostV} {a : Nat} (ho : M.2.2.1 = RX12) (hd : decode M.1 pc = .ok (.getfield 37, 3)) (ha : lay a = (0, 12)) (kk : AW M (pc + 3) ls ((0, h a 16) :: st) h Q) : AW M pc ls (vr a :: st) h Q := aw_getf clk_12 hd ha (k := 16) (by decide) (by rw [ho]; exact fl_X12_37) rfl kk
theorem pf_X12_37 {M : Hd} {pc : Nat} {ls : LoS} {st : List Vl} {h : Mem} {Q : PostV} {a : Nat} {x : Int} (ho : M.2.2.1 = RX12) (hd : decode M.1 pc = .ok (.putfield 37, 3)) (ha : lay a = (0, 12)) (kk : AW M (pc + 3) ls st (mset h a 16 x) Q) : AW M pc ls ((0, x) :: vr a :: st) h Q := aw_puti clk_12 hd ha (k := 16) (by decide) (by rw [ho]; exact fl_X12_37) rfl rfl rfl kk
theorem fl_X12_41 : Cond.fieldLink RX12 41 (TX12 17).1 (TX12 17).2.1 (TX12 17).2.2.1 ∈ lw_g := mg6 174 rfl rfl
theorem gf_X12_41 {M : Hd} {pc : Nat} {ls : LoS} {st : List Vl} {h : Mem} {Q : PostV} {a : Nat} (ho : M.2.2.1 = RX12) (hd : decode M.1 pc = .ok (.getfield 41, 3)) (ha : lay a = (0, 12)) (kk : AW M (pc + 3) ls ((0, h a 17) :: st) h Q) : AW M pc ls (vr a :: st) h Q := aw_getf clk_12 hd ha (k := 17) (by decide) (by rw [ho]; exact fl_X12_41) rfl kk
theorem pf_X12_41 {M : Hd} {pc : Nat} {ls : LoS} {st : List Vl} {h : Mem} {Q : PostV} {a : Nat} {x : Int} (ho : M.2.2.1 = RX12) (hd : decode M.1 pc = .ok (.putfield 41, 3)) (ha : lay a = (0, 12)) (kk : AW M (pc + 3) ls st (mset h a 17 x) Q) : AW M pc ls ((0, x) :: vr a :: st) h Q := aw_puti clk_12 hd ha (k := 17) (by decide) (by rw [ho]; exact fl_X12_41) rfl rfl rfl kk
theorem fl_X12_44 : Cond.fieldLink RX12 44 (TX12 21).1 (TX12 21).2.1 (TX12 21).2.2.1 ∈ lw_g := mg6 178 rfl rfl
theorem gf_X12_44 {M : Hd} {pc : Nat} {ls : LoS} {st : List Vl} {h : Mem} {Q : PostV} {a : Nat} (ho : M.2.2.1 = RX12) (hd : decode M.1 pc = .ok (.getfield 44, 3)) (ha : lay a = (0, 12)) {r : Nat} (hr : a + 8 = r) (kk : AW M (pc + 3) ls (vr r :: st) h Q) : AW M pc ls (vr a :: st) h Q := aw_getf clk_12 hd ha (k := 21) (by decide) (by rw [ho]; exact fl_X12_44) (by rw [← hr]; rfl) kk
theorem fl_X12_47 : Cond.fieldLink RX12 47 (TX12 24).1 (TX12 24).2.1 (TX12 24).2.2.1 ∈ lw_g := mg6 181 rfl rfl
theorem gf_X12_47 {M : Hd} {pc : Nat} {ls : LoS} {st : List Vl} {h : Mem} {Q : PostV} {a : Nat} (ho : M.2.2.1 = RX12) (hd : decode M.1 pc = .ok (.getfield 47, 3)) (ha : lay a = (0, 12)) {r : Nat} (hr : a + 9 = r) (kk : AW M (pc + 3) ls (vr r :: st) h Q) : AW M pc ls (vr a :: st) h Q := aw_getf clk_12 hd ha (k := 24) (by decide) (by rw [ho]; exact fl_X12_47) (by rw [← hr]; rfl) kk
theorem fl_X12_50 : Cond.fieldLink RX12 50 (TX12 27).1 (TX12 27).2.1 (TX12 27).2.2.1 ∈ lw_g := mg6 184 rfl rfl
theorem gf_X12_50 {M : Hd} {pc : Nat} {ls : LoS} {st : List Vl} {h : Mem} {Q : PostV} {a : Nat} (ho : M.2.2.1 = RX12) (hd : decode M.1 pc = .ok (.getfield 50, 3)) (ha : lay a = (0, 12)) {r : Nat} (hr : a + 10 = r) (kk : AW M (pc + 3) ls (vr r :: st) h Q) : AW M pc ls (vr a :: st) h Q := aw_getf clk_12 hd ha (k := 27) (by decide) (by rw [ho]; exact fl_X12_50) (by rw [← hr]; rfl) kk
theorem fl_X12_53 : Cond.fieldLink RX12 53 (TX12 28).1 (TX12 28).2.1 (TX12 28).2.2.1 ∈ lw_g := mg6 185 rfl rfl
theorem gf_X12_53 {M : Hd} {pc : Nat} {ls : LoS} {st : List Vl} {h : Mem} {Q : PostV} {a : Nat} (ho : M.2.2.1 = RX12) (hd : decode M.1 pc = .ok (.getfield 53, 3)) (ha : lay a = (0, 12)) {r : Nat} (hr : a + 11 = r) (kk : AW M (pc + 3) ls (vr r :: st) h Q) : AW M pc ls (vr a :: st) h Q := aw_getf clk_12 hd ha (k := 28) (by decide) (by rw [ho]; exact fl_X12_53) (by rw [← hr]; rfl) kk
theorem fl_X12_57 : Cond.fieldLink RX12 57 (TX12 29).1 (TX12 29).2.1 (TX12 29).2.2.1 ∈ lw_g := mg6 186 rfl rfl
theorem gf_X12_57 {M : Hd} {pc : Nat} {ls : LoS} {st : List Vl} {h : Mem} {Q : PostV} {a : Nat} (ho : M.2.2.1 = RX12) (hd : decode M.1 pc = .ok (.getfield 57, 3)) (ha : lay a = (0, 12)) {r : Nat} (hr : a + 12 = r) (kk : AW M (pc + 3) ls (vr r :: st) h Q) : AW M pc ls (vr a :: st) h Q := aw_getf clk_12 hd ha (k := 29) (by decide) (by rw [ho]; exact fl_X12_57) (by rw [← hr]; rfl) kk
theorem fl_X12_60 : Cond.fieldLink RX12 60 (TX12 33).1 (TX12 33).2.1 (TX12 33).2.2.1 ∈ lw_g := mg6 190 rfl rfl
theorem gf_X12_60 {M : Hd} {pc : Nat} {ls : LoS} {st : List Vl} {h : Mem} {Q : PostV} {a : Nat} (ho : M.2.2.1 = RX12) (hd : decode M.1 pc = .ok (.getfield 60, 3)) (ha : lay a = (0, 12)) {r : Nat} (hr : a + 13 = r) (kk : AW M (pc + 3) ls (vr r :: st) h Q) : AW M pc ls (vr a :: st) h Q := aw_getf clk_12 hd ha (k := 33) (by decide) (by rw [ho]; exact fl_X12_60) (by rw [← hr]; rfl) kk
theorem fl_X12_63 : Cond.fieldLink RX12 63 (TX12 34).1 (TX12 34).2.1 (TX12 34).2.2.1 ∈ lw_g := mg6 191 rfl rfl
theorem gf_X12_63 {M : Hd} {pc : Nat} {ls : LoS} {st : List Vl} {h : Mem} {Q : PostV} {a : Nat} (ho : M.2.2.1 = RX12) (hd : decode M.1 pc = .ok (.getfield 63, 3)) (ha : lay a = (0, 12)) {r : Nat} (hr : a + 14 = r) (kk : AW M (pc + 3) ls (vr r :: st) h Q) : AW M pc ls (vr a :: st) h Q := aw_getf clk_12 hd ha (k := 34) (by decide) (by rw [ho]; exact fl_X12_63) (by rw [← hr]; rfl) kk
theorem fl_X12_66 : Cond.fieldLink RX12 66 (TX12 35).1 (TX12 35).2.1 (TX12 35).2.2.1 ∈ lw_g := mg6 192 rfl rfl
theorem gf_X12_66 {M : Hd} {pc : Nat} {ls : LoS} {st : List Vl} {h : Mem} {Q : PostV} {a : Nat} (ho : M.2.2.1 = RX12) (hd : decode M.1 pc = .ok (.getfield 66, 3)) (ha : lay a = (0, 12)) {r : Nat} (hr : a + 15 = r) (kk : AW M (pc + 3) ls (vr r :: st) h Q) : AW M pc ls (vr a :: st) h Q := aw_getf clk_12 hd ha (k := 35) (by decide) (by rw [ho]; exact fl_X12_66) (by rw [← hr]; rfl) kk
theorem fl_X12_69 : Cond.fieldLink RX12 69 (TX12 36).1 (TX12 36).2.1 (TX12 36).2.2.1 ∈ lw_g := mg6 193 rfl rfl
theorem gf_X12_69 {M : Hd} {pc : Nat} {ls : LoS} {st : List Vl} {h : Mem} {Q : PostV} {a : Nat} (ho : M.2.2.1 = RX12) (hd : decode M.1 pc = .ok (.getfield 69, 3)) (ha : lay a = (0, 12)) {r : Nat} (hr : a + 16 = r) (kk : AW M (pc + 3) ls (vr r :: st) h Q) : AW M pc ls (vr a :: st) h Q := aw_getf clk_12 hd ha (k := 36) (by decide) (by rw [ho]; exact fl_X12_69) (by rw [← hr]; rfl) kk
theorem fl_X12_72 : Cond.fieldLink RX12 72 (TX12 39).1 (TX12 39).2.1 (TX12 39).2.2.1 ∈ lw_g := mg6 196 rfl rfl
theorem gf_X12_72 {M : Hd} {pc : Nat} {ls : LoS} {st : List Vl} {h : Mem} {Q : PostV} {a : Nat} (ho : M.2.2.1 = RX12) (hd : decode M.1 pc = .ok (.getfield 72, 3)) (ha : lay a = (0, 12)) {r : Nat} (hr : a + 17 = r) (kk : AW M (pc + 3) ls (vr r :: st) h Q) : AW M pc ls (vr a :: st) h Q := aw_getf clk_12 hd ha (k := 39) (by decide) (by rw [ho]; exact fl_X12_72) (by rw [← hr]; rfl) kk
theorem fl_X12_75 : Cond.fieldLink RX12 75 (TX12 40).1 (TX12 40).2.1 (TX12 40).2.2.1 ∈ lw_g := mg6 197 rfl rfl
theorem gf_X12_75 {M : Hd} {pc : Nat} {ls : LoS} {st : List Vl} {h : Mem} {Q : PostV} {a : Nat} (ho : M.2.2.1 = RX12) (hd : decode M.1 pc = .ok (.getfield 75, 3)) (ha : lay a = (0, 12)) {r : Nat} (hr : a + 18 = r) (kk : AW M (pc + 3) ls (vr r :: st) h Q) : AW M pc ls (vr a :: st) h Q := aw_getf clk_12 hd ha (k := 40) (by decide) (by rw [ho]; exact fl_X12_75) (by rw [← hr]; rfl) kk
theorem fl_X12_78 : Cond.fieldLink RX12 78 (TX12 41).1 (TX12 41).2.1 (TX12 41).2.2.1 ∈ lw_g := mg6 198 rfl rfl
theorem gf_X12_78 {M : Hd} {pc : Nat} {ls : LoS} {st : List Vl} {h : Mem} {Q : PostV} {a : Nat} (ho : M.2.2.1 = RX12) (hd : decode M.1 pc = .ok (.getfield 78, 3)) (ha : lay a = (0, 12)) {r : Nat} (hr : a + 19 = r) (kk : AW M (pc + 3) ls (vr r :: st) h Q) : AW M pc ls (vr a :: st) h Q := aw_getf clk_12 hd ha (k := 41) (by decide) (by rw [ho]; exact fl_X12_78) (by rw [← hr]; rfl) kk
theorem fl_X12_85 : Cond.fieldLink RX12 85 (TX12 2).1 (TX12 2).2.1 (TX12 2).2.2.1 ∈ lw_g := mg6 159 rfl rfl
theorem gf_X12_85 {M : Hd} {pc : Nat} {ls : LoS} {st : List Vl} {h : Mem} {Q : PostV} {a : Nat} (ho : M.2.2.1 = RX12) (hd : decode M.1 pc = .ok (.getfield 85, 3)) (ha : lay a = (0, 12)) (kk : AW M (pc + 3) ls ((0, h a 2) :: st) h Q) : AW M pc ls (vr a :: st) h Q := aw_getf clk_12 hd ha (k := 2) (by decide) (by rw [ho]; exact fl_X12_85) rfl kk
theorem pf_X12_85 {M : Hd} {pc : Nat} {ls : LoS} {st : List Vl} {h : Mem} {Q : PostV} {a : Nat} {x : Int} (ho : M.2.2.1 = RX12) (hd : decode M.1 pc = .ok (.putfield 85, 3)) (ha : lay a = (0, 12)) (kk : AW M (pc + 3) ls st (mset h a 2 x) Q) : AW M pc ls ((0, x) :: vr a :: st) h Q := aw_puti clk_12 hd ha (k := 2) (by decide) (by rw [ho]; exact fl_X12_85) rfl rfl rfl kk
theorem fl_X12_88 : Cond.fieldLink RX12 88 (TX12 3).1 (TX12 3).2.1 (TX12 3).2.2.1 ∈ lw_g := mg6 160 rfl rfl
theorem gf_X12_88 {M : Hd} {pc : Nat} {ls : LoS} {st : List Vl} {h : Mem} {Q : PostV} {a : Nat} (ho : M.2.2.1 = RX12) (hd : decode M.1 pc = .ok (.getfield 88, 3)) (ha : lay a = (0, 12)) (kk : AW M (pc + 3) ls ((1, h a 3) :: st) h Q) : AW M pc ls (vr a :: st) h Q := aw_getf clk_12 hd ha (k := 3) (by decide) (by rw [ho]; exact fl_X12_88) rfl kk
theorem pf_X12_88 {M : Hd} {pc : Nat} {ls : LoS} {st : List Vl} {h : Mem} {Q : PostV} {a : Nat} {x : Int} (ho : M.2.2.1 = RX12) (hd : decode M.1 pc = .ok (.putfield 88, 3)) (ha : lay a = (0, 12)) (kk : AW M (pc + 3) ls st (mset h a 3 x) Q) : AW M pc ls ((1, x) :: vr a :: st) h Q := aw_putl clk_12 hd ha (k := 3) (by decide) (by rw [ho]; exact fl_X12_88) rfl rfl rfl kk
theorem fl_X12_115 : Cond.fieldLink RX12 115 (TX12 10).1 (TX12 10).2.1 (TX12 10).2.2.1 ∈ lw_g := mg6 167 rfl rfl
theorem gf_X12_115 {M : Hd} {pc : Nat} {ls : LoS} {st : List Vl} {h : Mem} {Q : PostV} {a : Nat} (ho : M.2.2.1 = RX12) (hd : decode M.1 pc = .ok (.getfield 115, 3)) (ha : lay a = (0, 12)) (kk : AW M (pc + 3) ls ((0, h a 10) :: st) h Q) : AW M pc ls (vr a :: st) h Q := aw_getf clk_12 hd ha (k := 10) (by decide) (by rw [ho]; exact fl_X12_115) rfl kk
theorem pf_X12_115 {M : Hd} {pc : Nat} {ls : LoS} {st : List Vl} {h : Mem} {Q : PostV} {a : Nat} {x : Int} (ho : M.2.2.1 = RX12) (hd : decode M.1 pc = .ok (.putfield 115, 3)) (ha : lay a = (0, 12)) (kk : AW M (pc + 3) ls st (mset h a 10 x) Q) : AW M pc ls ((0, x) :: vr a :: st) h Q := aw_puti clk_12 hd ha (k := 10) (by decide) (by rw [ho]; exact fl_X12_115) rfl rfl rfl kk
theorem fl_X12_121 : Cond.fieldLink RX12 121 (TX12 11).1 (TX12 11).2.1 (TX12 11).2.2.1 ∈ lw_g := mg6 168 rfl rfl
theorem gf_X12_121 {M : Hd} {pc : Nat} {ls : LoS} {st : List Vl} {h : Mem} {Q : PostV} {a : Nat} (ho : M.2.2.1 = RX12) (hd : decode M.1 pc = .ok (.getfield 121, 3)) (ha : lay a = (0, 12)) (kk : AW M (pc + 3) ls ((0, h a 11) :: st) h Q) : AW M pc ls (vr a :: st) h Q := aw_getf clk_12 hd ha (k := 11) (by decide) (by rw [ho]; exact fl_X12_121) rfl kk
theorem pf_X12_121 {M : Hd} {pc : Nat} {ls : LoS} {st : List Vl} {h : Mem} {Q : PostV} {a : Nat} {x : Int} (ho : M.2.2.1 = RX12) (hd : decode M.1 pc = .ok (.putfield 121, 3)) (ha : lay a = (0, 12)) (kk : AW M (pc + 3) ls st (mset h a 11 x) Q) : AW M pc ls ((0, x) :: vr a :: st) h Q := aw_puti clk_12 hd ha (k := 11) (by decide) (by rw [ho]; exact fl_X12_121) rfl rfl rfl kk
theorem fl_X12_124 : Cond.fieldLink RX12 124 (TX12 14).1 (TX12 14).2.1 (TX12 14).2.2.1 ∈ lw_g := mg6 171 rfl rfl
theorem gf_X12_124 {M : Hd} {pc : Nat} {ls : LoS} {st : List Vl} {h : Mem} {Q : PostV} {a : Nat} (ho : M.2.2.1 = RX12) (hd : decode M.1 pc = .ok (.getfield 124, 3)) (ha : lay a = (0, 12)) (kk : AW M (pc + 3) ls ((0, h a 14) :: st) h Q) : AW M pc ls (vr a :: st) h Q := aw_getf clk_12 hd ha (k := 14) (by decide) (by rw [ho]; exact fl_X12_124) rfl kk
theorem pf_X12_124 {M : Hd} {pc : Nat} {ls : LoS} {st : List Vl} {h : Mem} {Q : PostV} {a : Nat} {x : Int} (ho : M.2.2.1 = RX12) (hd : decode M.1 pc = .ok (.putfield 124, 3)) (ha : lay a = (0, 12)) (kk : AW M (pc + 3) ls st (mset h a 14 x) Q) : AW M pc ls ((0, x) :: vr a :: st) h Q := aw_puti clk_12 hd ha (k := 14) (by decide) (by rw [ho]; exact fl_X12_124) rfl rfl rfl kk
theorem fl_X12_130 : Cond.fieldLink RX12 130 (TX12 13).1 (TX12 13).2.1 (TX12 13).2.2.1 ∈ lw_g := mg6 170 rfl rfl
theorem gf_X12_130 {M : Hd} {pc : Nat} {ls : LoS} {st : List Vl} {h : Mem} {Q : PostV} {a : Nat} (ho : M.2.2.1 = RX12) (hd : decode M.1 pc = .ok (.getfield 130, 3)) (ha : lay a = (0, 12)) (kk : AW M (pc + 3) ls ((0, h a 13) :: st) h Q) : AW M pc ls (vr a :: st) h Q := aw_getf clk_12 hd ha (k := 13) (by decide) (by rw [ho]; exact fl_X12_130) rfl kk
theorem pf_X12_130 {M : Hd} {pc : Nat} {ls : LoS} {st : List Vl} {h : Mem} {Q : PostV} {a : Nat} {x : Int} (ho : M.2.2.1 = RX12) (hd : decode M.1 pc = .ok (.putfield 130, 3)) (ha : lay a = (0, 12)) (kk : AW M (pc + 3) ls st (mset h a 13 x) Q) : AW M pc ls ((0, x) :: vr a :: st) h Q := aw_puti clk_12 hd ha (k := 13) (by decide) (by rw [ho]; exact fl_X12_130) rfl rfl rfl kk
theorem fl_X12_133 : Cond.fieldLink RX12 133 (TX12 15).1 (TX12 15).2.1 (TX12 15).2.2.1 ∈ lw_g := mg6 172 rfl rfl
theorem gf_X12_133 {M : Hd} {pc : Nat} {ls : LoS} {st : List Vl} {h : Mem} {Q : PostV} {a : Nat} (ho : M.2.2.1 = RX12) (hd : decode M.1 pc = .ok (.getfield 133, 3)) (ha : lay a = (0, 12)) (kk : AW M (pc + 3) ls ((0, h a 15) :: st) h Q) : AW M pc ls (vr a :: st) h Q := aw_getf clk_12 hd ha (k := 15) (by decide) (by rw [ho]; exact fl_X12_133) rfl kk
theorem pf_X12_133 {M : Hd} {pc : Nat} {ls : LoS} {st : List Vl} {h : Mem} {Q : PostV} {a : Nat} {x : Int} (ho : M.2.2.1 = RX12) (hd : decode M.1 pc = .ok (.putfield 133, 3)) (ha : lay a = (0, 12)) (kk : AW M (pc + 3) ls st (mset h a 15 x) Q) : AW M pc ls ((0, x) :: vr a :: st) h Q := aw_puti clk_12 hd ha (k := 15) (by decide) (by rw [ho]; exact fl_X12_133) rfl rfl rfl kk
theorem fl_X12_136 : Cond.fieldLink RX12 136 (TX12 12).1 (TX12 12).2.1 (TX12 12).2.2.1 ∈ lw_g := mg6 169 rfl rfl
theorem gf_X12_136 {M : Hd} {pc : Nat} {ls : LoS} {st : List Vl} {h : Mem} {Q : PostV} {a : Nat} (ho : M.2.2.1 = RX12) (hd : decode M.1 pc = .ok (.getfield 136, 3)) (ha : lay a = (0, 12)) (kk : AW M (pc + 3) ls ((0, h a 12) :: st) h Q) : AW M pc ls (vr a :: st) h Q := aw_getf clk_12 hd ha (k := 12) (by decide) (by rw [ho]; exact fl_X12_136) rfl kk
theorem pf_X12_136 {M : Hd} {pc : Nat} {ls : LoS} {st : List Vl} {h : Mem} {Q : PostV} {a : Nat} {x : Int} (ho : M.2.2.1 = RX12) (hd : decode M.1 pc = .ok (.putfield 136, 3)) (ha : lay a = (0, 12)) (kk : AW M (pc + 3) ls st (mset h a 12 x) Q) : AW M pc ls ((0, x) :: vr a :: st) h Q := aw_puti clk_12 hd ha (k := 12) (by decide) (by rw [ho]; exact fl_X12_136) rfl rfl rfl kk
theorem fl_X12_161 : Cond.fieldLink RX12 161 (TX12 18).1 (TX12 18).2.1 (TX12 18).2.2.1 ∈ lw_g := mg6 175 rfl rfl
theorem gf_X12_161 {M : Hd} {pc : Nat} {ls : LoS} {st : List Vl} {h : Mem} {Q : PostV} {a : Nat} (ho : M.2.2.1 = RX12) (hd : decode M.1 pc = .ok (.getfield 161, 3)) (ha : lay a = (0, 12)) (kk : AW M (pc + 3) ls ((0, h a 18) :: st) h Q) : AW M pc ls (vr a :: st) h Q := aw_getf clk_12 hd ha (k := 18) (by decide) (by rw [ho]; exact fl_X12_161) rfl kk
theorem pf_X12_161 {M : Hd} {pc : Nat} {ls : LoS} {st : List Vl} {h : Mem} {Q : PostV} {a : Nat} {x : Int} (ho : M.2.2.1 = RX12) (hd : decode M.1 pc = .ok (.putfield 161, 3)) (ha : lay a = (0, 12)) (kk : AW M (pc + 3) ls st (mset h a 18 x) Q) : AW M pc ls ((0, x) :: vr a :: st) h Q := aw_puti clk_12 hd ha (k := 18) (by decide) (by rw [ho]; exact fl_X12_161) rfl rfl rfl kk
theorem fl_X12_164 : Cond.fieldLink RX12 164 (TX12 19).1 (TX12 19).2.1 (TX12 19).2.2.1 ∈ lw_g := mg6 176 rfl rfl
theorem pf_X12_164 {M : Hd} {pc : Nat} {ls : LoS} {st : List Vl} {h : Mem} {Q : PostV} {a : Nat} {x : Int} (ho : M.2.2.1 = RX12) (hd : decode M.1 pc = .ok (.putfield 164, 3)) (ha : lay a = (0, 12)) (kk : AW M (pc + 3) ls st (mset h a 19 x) Q) : AW M pc ls ((0, x) :: vr a :: st) h Q := aw_puti clk_12 hd ha (k := 19) (by decide) (by rw [ho]; exact fl_X12_164) rfl rfl rfl kk
theorem fl_X12_216 : Cond.fieldLink RX12 216 (TX12 20).1 (TX12 20).2.1 (TX12 20).2.2.1 ∈ lw_g := mg6 177 rfl rfl
theorem gf_X12_216 {M : Hd} {pc : Nat} {ls : LoS} {st : List Vl} {h : Mem} {Q : PostV} {a : Nat} (ho : M.2.2.1 = RX12) (hd : decode M.1 pc = .ok (.getfield 216, 3)) (ha : lay a = (0, 12)) (kk : AW M (pc + 3) ls ((0, h a 20) :: st) h Q) : AW M pc ls (vr a :: st) h Q := aw_getf clk_12 hd ha (k := 20) (by decide) (by rw [ho]; exact fl_X12_216) rfl kk
theorem pf_X12_216 {M : Hd} {pc : Nat} {ls : LoS} {st : List Vl} {h : Mem} {Q : PostV} {a : Nat} {x : Int} (ho : M.2.2.1 = RX12) (hd : decode M.1 pc = .ok (.putfield 216, 3)) (ha : lay a = (0, 12)) (kk : AW M (pc + 3) ls st (mset h a 20 x) Q) : AW M pc ls ((0, x) :: vr a :: st) h Q := aw_puti clk_12 hd ha (k := 20) (by decide) (by rw [ho]; exact fl_X12_216) rfl rfl rfl kk
theorem fl_X12_251 : Cond.fieldLink RX12 251 (TX12 22).1 (TX12 22).2.1 (TX12 22).2.2.1 ∈ lw_g := mg6 179 rfl rfl
theorem gf_X12_251 {M : Hd} {pc : Nat} {ls : LoS} {st : List Vl} {h : Mem} {Q : PostV} {a : Nat} (ho : M.2.2.1 = RX12) (hd : decode M.1 pc = .ok (.getfield 251, 3)) (ha : lay a = (0, 12)) (kk : AW M (pc + 3) ls ((0, h a 22) :: st) h Q) : AW M pc ls (vr a :: st) h Q := aw_getf clk_12 hd ha (k := 22) (by decide) (by rw [ho]; exact fl_X12_251) rfl kk
theorem pf_X12_251 {M : Hd} {pc : Nat} {ls : LoS} {st : List Vl} {h : Mem} {Q : PostV} {a : Nat} {x : Int} (ho : M.2.2.1 = RX12) (hd : decode M.1 pc = .ok (.putfield 251, 3)) (ha : lay a = (0, 12)) (kk : AW M (pc + 3) ls st (mset h a 22 x) Q) : AW M pc ls ((0, x) :: vr a :: st) h Q := aw_puti clk_12 hd ha (k := 22) (by decide) (by rw [ho]; exact fl_X12_251) rfl rfl rfl kk
theorem fl_X12_254 : Cond.fieldLink RX12 254 (TX12 23).1 (TX12 23).2.1 (TX12 23).2.2.1 ∈ lw_g := mg6 180 rfl rfl
theorem gf_X12_254 {M : Hd} {pc : Nat} {ls : LoS} {st : List Vl} {h : Mem} {Q : PostV} {a : Nat} (ho : M.2.2.1 = RX12) (hd : decode M.1 pc = .ok (.getfield 254, 3)) (ha : lay a = (0, 12)) (kk : AW M (pc + 3) ls ((0, h a 23) :: st) h Q) : AW M pc ls (vr a :: st) h Q := aw_getf clk_12 hd ha (k := 23) (by decide) (by rw [ho]; exact fl_X12_254) rfl kk
theorem pf_X12_254 {M : Hd} {pc : Nat} {ls : LoS} {st : List Vl} {h : Mem} {Q : PostV} {a : Nat} {x : Int} (ho : M.2.2.1 = RX12) (hd : decode M.1 pc = .ok (.putfield 254, 3)) (ha : lay a = (0, 12)) (kk : AW M (pc + 3) ls st (mset h a 23 x) Q) : AW M pc ls ((0, x) :: vr a :: st) h Q := aw_puti clk_12 hd ha (k := 23) (by decide) (by rw [ho]; exact fl_X12_254) rfl rfl rfl kk
theorem fl_X12_374 : Cond.fieldLink RX12 374 (TX12 25).1 (TX12 25).2.1 (TX12 25).2.2.1 ∈ lw_g := mg6 182 rfl rfl
theorem gf_X12_374 {M : Hd} {pc : Nat} {ls : LoS} {st : List Vl} {h : Mem} {Q : PostV} {a : Nat} (ho : M.2.2.1 = RX12) (hd : decode M.1 pc = .ok (.getfield 374, 3)) (ha : lay a = (0, 12)) (kk : AW M (pc + 3) ls ((0, h a 25) :: st) h Q) : AW M pc ls (vr a :: st) h Q := aw_getf clk_12 hd ha (k := 25) (by decide) (by rw [ho]; exact fl_X12_374) rfl kk
theorem pf_X12_374 {M : Hd} {pc : Nat} {ls : LoS} {st : List Vl} {h : Mem} {Q : PostV} {a : Nat} {x : Int} (ho : M.2.2.1 = RX12) (hd : decode M.1 pc = .ok (.putfield 374, 3)) (ha : lay a = (0, 12)) (kk : AW M (pc + 3) ls st (mset h a 25 x) Q) : AW M pc ls ((0, x) :: vr a :: st) h Q := aw_puti clk_12 hd ha (k := 25) (by decide) (by rw [ho]; exact fl_X12_374) rfl rfl rfl kk
theorem fl_X12_377 : Cond.fieldLink RX12 377 (TX12 26).1 (TX12 26).2.1 (TX12 26).2.2.1 ∈ lw_g := mg6 183 rfl rfl
theorem gf_X12_377 {M : Hd} {pc : Nat} {ls : LoS} {st : List Vl} {h : Mem} {Q : PostV} {a : Nat} (ho : M.2.2.1 = RX12) (hd : decode M.1 pc = .ok (.getfield 377, 3)) (ha : lay a = (0, 12)) (kk : AW M (pc + 3) ls ((0, h a 26) :: st) h Q) : AW M pc ls (vr a :: st) h Q := aw_getf clk_12 hd ha (k := 26) (by decide) (by rw [ho]; exact fl_X12_377) rfl kk
theorem pf_X12_377 {M : Hd} {pc : Nat} {ls : LoS} {st : List Vl} {h : Mem} {Q : PostV} {a : Nat} {x : Int} (ho : M.2.2.1 = RX12) (hd : decode M.1 pc = .ok (.putfield 377, 3)) (ha : lay a = (0, 12)) (kk : AW M (pc + 3) ls st (mset h a 26 x) Q) : AW M pc ls ((0, x) :: vr a :: st) h Q := aw_puti clk_12 hd ha (k := 26) (by decide) (by rw [ho]; exact fl_X12_377) rfl rfl rfl kk
theorem fl_X12_395 : Cond.fieldLink RX12 395 (TX12 30).1 (TX12 30).2.1 (TX12 30).2.2.1 ∈ lw_g := mg6 187 rfl rfl
theorem gf_X12_395 {M : Hd} {pc : Nat} {ls : LoS} {st : List Vl} {h : Mem} {Q : PostV} {a : Nat} (ho : M.2.2.1 = RX12) (hd : decode M.1 pc = .ok (.getfield 395, 3)) (ha : lay a = (0, 12)) (kk : AW M (pc + 3) ls ((0, h a 30) :: st) h Q) : AW M pc ls (vr a :: st) h Q := aw_getf clk_12 hd ha (k := 30) (by decide) (by rw [ho]; exact fl_X12_395) rfl kk
theorem pf_X12_395 {M : Hd} {pc : Nat} {ls : LoS} {st : List Vl} {h : Mem} {Q : PostV} {a : Nat} {x : Int} (ho : M.2.2.1 = RX12) (hd : decode M.1 pc = .ok (.putfield 395, 3)) (ha : lay a = (0, 12)) (kk : AW M (pc + 3) ls st (mset h a 30 x) Q) : AW M pc ls ((0, x) :: vr a :: st) h Q := aw_puti clk_12 hd ha (k := 30) (by decide) (by rw [ho]; exact fl_X12_395) rfl rfl rfl kk
theorem fl_X12_415 : Cond.fieldLink RX12 415 (TX12 31).1 (TX12 31).2.1 (TX12 31).2.2.1 ∈ lw_g := mg6 188 rfl rfl
theorem gf_X12_415 {M : Hd} {pc : Nat} {ls : LoS} {st : List Vl} {h : Mem} {Q : PostV} {a : Nat} (ho : M.2.2.1 = RX12) (hd : decode M.1 pc = .ok (.getfield 415, 3)) (ha : lay a = (0, 12)) (kk : AW M (pc + 3) ls ((0, h a 31) :: st) h Q) : AW M pc ls (vr a :: st) h Q := aw_getf clk_12 hd ha (k := 31) (by decide) (by rw [ho]; exact fl_X12_415) rfl kk
theorem pf_X12_415 {M : Hd} {pc : Nat} {ls : LoS} {st : List Vl} {h : Mem} {Q : PostV} {a : Nat} {x : Int} (ho : M.2.2.1 = RX12) (hd : decode M.1 pc = .ok (.putfield 415, 3)) (ha : lay a = (0, 12)) (kk : AW M (pc + 3) ls st (mset h a 31 x) Q) : AW M pc ls ((0, x) :: vr a :: st) h Q := aw_puti clk_12 hd ha (k := 31) (by decide) (by rw [ho]; exact fl_X12_415) rfl rfl rfl kk
theorem fl_X12_418 : Cond.fieldLink RX12 418 (TX12 32).1 (TX12 32).2.1 (TX12 32).2.2.1 ∈ lw_g := mg6 189 rfl rfl
theorem gf_X12_418 {M : Hd} {pc : Nat} {ls : LoS} {st : List Vl} {h : Mem} {Q : PostV} {a : Nat} (ho : M.2.2.1 = RX12) (hd : decode M.1 pc = .ok (.getfield 418, 3)) (ha : lay a = (0, 12)) (kk : AW M (pc + 3) ls ((0, h a 32) :: st) h Q) : AW M pc ls (vr a :: st) h Q := aw_getf clk_12 hd ha (k := 32) (by decide) (by rw [ho]; exact fl_X12_418) rfl kk
theorem pf_X12_418 {M : Hd} {pc : Nat} {ls : LoS} {st : List Vl} {h : Mem} {Q : PostV} {a : Nat} {x : Int} (ho : M.2.2.1 = RX12) (hd : decode M.1 pc = .ok (.putfield 418, 3)) (ha : lay a = (0, 12)) (kk : AW M (pc + 3) ls st (mset h a 32 x) Q) : AW M pc ls ((0, x) :: vr a :: st) h Q := aw_puti clk_12 hd ha (k := 32) (by decide) (by rw [ho]; exact fl_X12_418) rfl rfl rfl kk
theorem fl_X12_446 : Cond.fieldLink RX12 446 (TX12 37).1 (TX12 37).2.1 (TX12 37).2.2.1 ∈ lw_g := mg6 194 rfl rfl
theorem gf_X12_446 {M : Hd} {pc : Nat} {ls : LoS} {st : List Vl} {h : Mem} {Q : PostV} {a : Nat} (ho : M.2.2.1 = RX12) (hd : decode M.1 pc = .ok (.getfield 446, 3)) (ha : lay a = (0, 12)) (kk : AW M (pc + 3) ls ((0, h a 37) :: st) h Q) : AW M pc ls (vr a :: st) h Q := aw_getf clk_12 hd ha (k := 37) (by decide) (by rw [ho]; exact fl_X12_446) rfl kk
theorem pf_X12_446 {M : Hd} {pc : Nat} {ls : LoS} {st : List Vl} {h : Mem} {Q : PostV} {a : Nat} {x : Int} (ho : M.2.2.1 = RX12) (hd : decode M.1 pc = .ok (.putfield 446, 3)) (ha : lay a = (0, 12)) (kk : AW M (pc + 3) ls st (mset h a 37 x) Q) : AW M pc ls ((0, x) :: vr a :: st) h Q := aw_puti clk_12 hd ha (k := 37) (by decide) (by rw [ho]; exact fl_X12_446) rfl rfl rfl kk
theorem fl_X12_462 : Cond.fieldLink RX12 462 (TX12 38).1 (TX12 38).2.1 (TX12 38).2.2.1 ∈ lw_g := mg6 195 rfl rfl
theorem gf_X12_462 {M : Hd} {pc : Nat} {ls : LoS} {st : List Vl} {h : Mem} {Q : PostV} {a : Nat} (ho : M.2.2.1 = RX12) (hd : decode M.1 pc = .ok (.getfield 462, 3)) (ha : lay a = (0, 12)) (kk : AW M (pc + 3) ls ((0, h a 38) :: st) h Q) : AW M pc ls (vr a :: st) h Q := aw_getf clk_12 hd ha (k := 38) (by decide) (by rw [ho]; exact fl_X12_462) rfl kk
theorem pf_X12_462 {M : Hd} {pc : Nat} {ls : LoS} {st : List Vl} {h : Mem} {Q : PostV} {a : Nat} {x : Int} (ho : M.2.2.1 = RX12) (hd : decode M.1 pc = .ok (.putfield 462, 3)) (ha : lay a = (0, 12)) (kk : AW M (pc + 3) ls st (mset h a 38 x) Q) : AW M pc ls ((0, x) :: vr a :: st) h Q := aw_puti clk_12 hd ha (k := 38) (by decide) (by rw [ho]; exact fl_X12_462) rfl rfl rfl kk
theorem fl_X12_479 : Cond.fieldLink RX12 479 (TX12 42).1 (TX12 42).2.1 (TX12 42).2.2.1 ∈ lw_g := mg6 199 rfl rfl
theorem gf_X12_479 {M : Hd} {pc : Nat} {ls : LoS} {st : List Vl} {h : Mem} {Q : PostV} {a : Nat} (ho : M.2.2.1 = RX12) (hd : decode M.1 pc = .ok (.getfield 479, 3)) (ha : lay a = (0, 12)) (kk : AW M (pc + 3) ls ((0, h a 42) :: st) h Q) : AW M pc ls (vr a :: st) h Q := aw_getf clk_12 hd ha (k := 42) (by decide) (by rw [ho]; exact fl_X12_479) rfl kk
theorem pf_X12_479 {M : Hd} {pc : Nat} {ls : LoS} {st : List Vl} {h : Mem} {Q : PostV} {a : Nat} {x : Int} (ho : M.2.2.1 = RX12) (hd : decode M.1 pc = .ok (.putfield 479, 3)) (ha : lay a = (0, 12)) (hz : InZ x) (kk : AW M (pc + 3) ls st (mset h a 42 x) Q) : AW M pc ls ((0, x) :: vr a :: st) h Q := aw_putz clk_12 hd ha (k := 42) (by decide) (by rw [ho]; exact fl_X12_479) rfl rfl rfl hz kk
theorem fl_X12_483 : Cond.fieldLink RX12 483 (TX12 43).1 (TX12 43).2.1 (TX12 43).2.2.1 ∈ lw_g := mg6 200 rfl rfl
theorem gf_X12_483 {M : Hd} {pc : Nat} {ls : LoS} {st : List Vl} {h : Mem} {Q : PostV} {a : Nat} (ho : M.2.2.1 = RX12) (hd : decode M.1 pc = .ok (.getfield 483, 3)) (ha : lay a = (0, 12)) (kk : AW M (pc + 3) ls ((0, h a 43) :: st) h Q) : AW M pc ls (vr a :: st) h Q := aw_getf clk_12 hd ha (k := 43) (by decide) (by rw [ho]; exact fl_X12_483) rfl kk
theorem pf_X12_483 {M : Hd} {pc : Nat} {ls : LoS} {st : List Vl} {h : Mem} {Q : PostV} {a : Nat} {x : Int} (ho : M.2.2.1 = RX12) (hd : decode M.1 pc = .ok (.putfield 483, 3)) (ha : lay a = (0, 12)) (kk : AW M (pc + 3) ls st (mset h a 43 x) Q) : AW M pc ls ((0, x) :: vr a :: st) h Q := aw_puti clk_12 hd ha (k := 43) (by decide) (by rw [ho]; exact fl_X12_483) rfl rfl rfl kk
theorem ml_X11_105 : Cond.methodLink RX11 105 yX11_outside ∈ lw_g := mg3 84 rfl rfl
theorem ml_X11_109 : Cond.methodLink RX11 109 yX11_refuse ∈ lw_g := mg3 87 rfl rfl
theorem ml_X11_113 : Cond.methodLink RX11 113 yX10_lay ∈ lw_g := mg3 91 rfl rfl
theorem ml_X11_117 : Cond.methodLink RX11 117 yX11_accept ∈ lw_g := mg3 95 rfl rfl
theorem ml_X11_121 : Cond.methodLink RX11 121 yX11_whyNoPlace ∈ lw_g := mg3 103 rfl rfl
theorem ml_X11_125 : Cond.methodLink RX11 125 yX10_put ∈ lw_g := mg3 115 rfl rfl
theorem ml_X11_135 : Cond.methodLink RX11 135 yX10_isTray ∈ lw_g := mg3 107 rfl rfl
theorem ml_X11_138 : Cond.methodLink RX11 138 yX10_isMissing ∈ lw_g := mg3 111 rfl rfl
theorem ml_X11_147 : Cond.methodLink RX11 147 arraycopyName ∈ lw_g := mg3 131 rfl rfl
theorem ml_X11_153 : Cond.methodLink RX11 153 yX8_hasRoomFor ∈ lw_g := mg3 138 rfl rfl
theorem ml_X11_156 : Cond.methodLink RX11 156 yX8_append ∈ lw_g := mg3 142 rfl rfl
theorem ml_X11_163 : Cond.methodLink RX11 163 yX11_refused ∈ lw_g := mg3 150 rfl rfl
theorem ml_X11_167 : Cond.methodLink RX11 167 yX8_open ∈ lw_g := mg3 154 rfl rfl
theorem ml_X11_170 : Cond.methodLink RX11 170 yX5_readInto ∈ lw_g := mg3 182 rfl rfl
theorem ml_X11_177 : Cond.methodLink RX11 177 yX4_copyFrom ∈ lw_g := mg4 46 rfl rfl
theorem ml_X11_181 : Cond.methodLink RX11 181 yX1_clear ∈ lw_g := mg4 68 rfl rfl
theorem ml_X11_193 : Cond.methodLink RX11 193 yX11_given ∈ lw_g := mg4 72 rfl rfl
theorem ml_X11_196 : Cond.methodLink RX11 196 yJ9_min_7cf53 ∈ lw_g := mg4 80 rfl rfl
theorem ml_X11_201 : Cond.methodLink RX11 201 yX2_readFor ∈ lw_g := mg4 81 rfl rfl
theorem ml_X11_205 : Cond.methodLink RX11 205 yX1_copyFrom ∈ lw_g := mg4 148 rfl rfl
theorem ml_X11_242 : Cond.methodLink RX11 242 yX9_setThatIs ∈ lw_g := mg4 161 rfl rfl
theorem ml_X11_245 : Cond.methodLink RX11 245 yX9_setRemembered ∈ lw_g := mg4 165 rfl rfl
theorem ml_X11_249 : Cond.methodLink RX11 249 yX9_carriedWeight ∈ lw_g := mg4 173 rfl rfl
theorem ml_X11_252 : Cond.methodLink RX11 252 yX11_isThing ∈ lw_g := mg4 181 rfl rfl
theorem ml_X11_273 : Cond.methodLink RX11 273 yX9_isFree ∈ lw_g := mg4 189 rfl rfl
theorem ml_X11_276 : Cond.methodLink RX11 276 yX9_isLying ∈ lw_g := mg4 193 rfl rfl
theorem ml_X11_282 : Cond.methodLink RX11 282 yX11_isMill ∈ lw_g := mg4 201 rfl rfl
theorem ml_X11_292 : Cond.methodLink RX11 292 yX9_longestRemembered ∈ lw_g := mg4 209 rfl rfl
theorem ml_X11_295 : Cond.methodLink RX11 295 yX4_goalCell ∈ lw_g := mg4 213 rfl rfl
theorem ml_X11_298 : Cond.methodLink RX11 298 yX4_passHours ∈ lw_g := mg4 225 rfl rfl
theorem ml_X11_301 : Cond.methodLink RX11 301 yX11_isCell ∈ lw_g := mg5 12 rfl rfl
theorem ml_X11_304 : Cond.methodLink RX11 304 yX9_throwInto ∈ lw_g := mg5 16 rfl rfl
theorem ml_X11_308 : Cond.methodLink RX11 308 yX9_bringAshore ∈ lw_g := mg5 21 rfl rfl
theorem ml_X11_311 : Cond.methodLink RX11 311 yX9_addThing ∈ lw_g := mg5 34 rfl rfl
theorem ml_X11_315 : Cond.methodLink RX11 315 yX7_addMill ∈ lw_g := mg5 39 rfl rfl
theorem ml_X11_319 : Cond.methodLink RX11 319 yX4_hoursTillHome ∈ lw_g := mg5 56 rfl rfl
theorem ml_X11_322 : Cond.methodLink RX11 322 yX11_givenOrNone ∈ lw_g := mg5 60 rfl rfl
theorem ml_X11_325 : Cond.methodLink RX11 325 yX4_hoursTillTurn ∈ lw_g := mg5 72 rfl rfl
theorem ml_X11_328 : Cond.methodLink RX11 328 yX4_hoursTillQuiet ∈ lw_g := mg5 84 rfl rfl
theorem ml_X11_331 : Cond.methodLink RX11 331 yX0_ringOf ∈ lw_g := mg5 97 rfl rfl
theorem ml_X11_335 : Cond.methodLink RX11 335 yX0_cellToTurnIn ∈ lw_g := mg5 110 rfl rfl
theorem ml_X11_339 : Cond.methodLink RX11 339 yX11_whyNotSoonest ∈ lw_g := mg5 127 rfl rfl
theorem ml_X11_348 : Cond.methodLink RX11 348 yX11_whyNotDriven ∈ lw_g := mg5 144 rfl rfl
theorem ml_X11_355 : Cond.methodLink RX11 355 yX11_whyNotMinded ∈ lw_g := mg5 161 rfl rfl
theorem ml_X11_359 : Cond.methodLink RX11 359 yX0_countMinds ∈ lw_g := mg5 180 rfl rfl
theorem ml_X11_362 : Cond.methodLink RX11 362 yX0_leastMind ∈ lw_g := mg5 188 rfl rfl
theorem ml_X11_365 : Cond.methodLink RX11 365 yX0_greatestMind ∈ lw_g := mg5 192 rfl rfl
theorem ml_X11_368 : Cond.methodLink RX11 368 yX0_bestQuestion ∈ lw_g := mg5 200 rfl rfl
theorem ml_X11_371 : Cond.methodLink RX11 371 yX4_heaviestSet ∈ lw_g := mg5 214 rfl rfl
theorem ml_X11_374 : Cond.methodLink RX11 374 yX9_weightOf ∈ lw_g := mg5 233 rfl rfl
theorem ml_X11_377 : Cond.methodLink RX11 377 yX0_sail ∈ lw_g := mg5 238 rfl rfl
theorem ml_X11_384 : Cond.methodLink RX11 384 yX3_play ∈ lw_g := mg6 10 rfl rfl
theorem ml_X11_395 : Cond.methodLink RX11 395 yX7_groundInAll ∈ lw_g := mg6 47 rfl rfl
theorem ml_X11_398 : Cond.methodLink RX11 398 yX11_tellFraction ∈ lw_g := mg6 51 rfl rfl
theorem ml_X11_402 : Cond.methodLink RX11 402 yX11_wetWays ∈ lw_g := mg6 62 rfl rfl
theorem ml_X11_408 : Cond.methodLink RX11 408 yX11_power ∈ lw_g := mg6 65 rfl rfl
theorem ml_X11_412 : Cond.methodLink RX11 412 yX11_whyTooFew ∈ lw_g := mg5 165 rfl rfl
theorem ml_X11_418 : Cond.methodLink RX11 418 yX9_homesInAll ∈ lw_g := mg6 77 rfl rfl
theorem ml_X11_421 : Cond.methodLink RX11 421 yX6_liveThrough ∈ lw_g := mg6 81 rfl rfl
theorem ml_X11_432 : Cond.methodLink RX11 432 yX1_drawsLots ∈ lw_g := mg6 135 rfl rfl
theorem ml_X11_435 : Cond.methodLink RX11 435 yX0_findSoonest ∈ lw_g := mg5 131 rfl rfl
theorem ml_X11_439 : Cond.methodLink RX11 439 yX0_findDrive ∈ lw_g := mg5 148 rfl rfl
theorem ml_X11_443 : Cond.methodLink RX11 443 yX0_canBeSeen ∈ lw_g := mg5 169 rfl rfl
theorem ml_X11_447 : Cond.methodLink RX11 447 yX0_findMinds ∈ lw_g := mg5 173 rfl rfl
theorem ml_X11_451 : Cond.methodLink RX11 451 yX11_commonDivisor ∈ lw_g := mg6 55 rfl rfl
theorem ml_X0_31 : Cond.methodLink RX0 31 yX9_pictureFrom ∈ lw_g := mg5 101 rfl rfl
theorem ml_X0_44 : Cond.methodLink RX0 44 yX4_passHour ∈ lw_g := mg5 105 rfl rfl
theorem ml_X0_48 : Cond.methodLink RX0 48 yX4_copyFrom ∈ lw_g := mg5 114 rfl rfl
theorem ml_X0_55 : Cond.methodLink RX0 55 yX4_goBackTo ∈ lw_g := mg5 115 rfl rfl
theorem ml_X0_58 : Cond.methodLink RX0 58 yX9_throwInto ∈ lw_g := mg5 121 rfl rfl
theorem ml_X0_62 : Cond.methodLink RX0 62 yX4_hoursTillTurn ∈ lw_g := mg5 122 rfl rfl
theorem ml_X0_72 : Cond.methodLink RX0 72 yX4_hoursTillHome ∈ lw_g := mg5 135 rfl rfl
theorem ml_X0_76 : Cond.methodLink RX0 76 yX4_passHours ∈ lw_g := mg5 152 rfl rfl
theorem ml_X0_97 : Cond.methodLink RX0 97 yX0_fitsAll ∈ lw_g := mg5 177 rfl rfl
theorem ml_X0_101 : Cond.methodLink RX0 101 yX0_countMinds ∈ lw_g := mg5 204 rfl rfl
theorem ml_X0_105 : Cond.methodLink RX0 105 yX0_countTurning ∈ lw_g := mg5 205 rfl rfl
theorem ml_X0_108 : Cond.methodLink RX0 108 yJ9_max_7cf53 ∈ lw_g := mg5 209 rfl rfl
theorem ml_X1_36 : Cond.methodLink RX1 36 arraycopyName ∈ lw_g := mg4 152 rfl rfl
theorem ml_X2_34 : Cond.methodLink RX2 34 yX1_clear ∈ lw_g := mg4 85 rfl rfl
theorem ml_X2_41 : Cond.methodLink RX2 41 yX8_isGoingOn ∈ lw_g := mg4 86 rfl rfl
theorem ml_X2_47 : Cond.methodLink RX2 47 yX8_keyword ∈ lw_g := mg4 87 rfl rfl
theorem ml_X2_51 : Cond.methodLink RX2 51 yX8_advance ∈ lw_g := mg4 88 rfl rfl
theorem ml_X2_54 : Cond.methodLink RX2 54 yX2_closeLatest ∈ lw_g := mg4 89 rfl rfl
theorem ml_X2_57 : Cond.methodLink RX2 57 yX2_lookAtStep ∈ lw_g := mg4 101 rfl rfl
theorem ml_X2_61 : Cond.methodLink RX2 61 yX2_readRest ∈ lw_g := mg4 112 rfl rfl
theorem ml_X2_65 : Cond.methodLink RX2 65 yX2_addStep ∈ lw_g := mg4 143 rfl rfl
theorem ml_X2_69 : Cond.methodLink RX2 69 yX8_takeSemicolon ∈ lw_g := mg4 147 rfl rfl
theorem ml_X2_72 : Cond.methodLink RX2 72 yX8_fail ∈ lw_g := mg4 108 rfl rfl
theorem ml_X2_75 : Cond.methodLink RX2 75 yX1_addEntry ∈ lw_g := mg4 93 rfl rfl
theorem ml_X2_79 : Cond.methodLink RX2 79 yX1_pair ∈ lw_g := mg4 97 rfl rfl
theorem ml_X2_82 : Cond.methodLink RX2 82 yX2_isStep ∈ lw_g := mg4 105 rfl rfl
theorem ml_X2_89 : Cond.methodLink RX2 89 yX2_opens ∈ lw_g := mg4 109 rfl rfl
theorem ml_X2_92 : Cond.methodLink RX2 92 yX8_takeNumberOf ∈ lw_g := mg4 116 rfl rfl
theorem ml_X2_96 : Cond.methodLink RX2 96 yX2_takeThing ∈ lw_g := mg4 117 rfl rfl
theorem ml_X2_104 : Cond.methodLink RX2 104 yX2_readTest ∈ lw_g := mg4 123 rfl rfl
theorem ml_X2_107 : Cond.methodLink RX2 107 yX2_isTest ∈ lw_g := mg4 127 rfl rfl
theorem ml_X2_110 : Cond.methodLink RX2 110 yX2_takeWay ∈ lw_g := mg4 130 rfl rfl
theorem ml_X2_113 : Cond.methodLink RX2 113 yX2_takeMill ∈ lw_g := mg4 134 rfl rfl
theorem ml_X2_116 : Cond.methodLink RX2 116 yX2_takeCompares ∈ lw_g := mg4 139 rfl rfl
theorem ml_X2_123 : Cond.methodLink RX2 123 yX8_nameHere ∈ lw_g := mg4 121 rfl rfl
theorem ml_X2_127 : Cond.methodLink RX2 127 yX9_numberOf ∈ lw_g := mg4 122 rfl rfl
theorem ml_X2_137 : Cond.methodLink RX2 137 yX7_numberOf ∈ lw_g := mg4 138 rfl rfl
theorem ml_X3_43 : Cond.methodLink RX3 43 yX4_copyFrom ∈ lw_g := mg6 14 rfl rfl
theorem ml_X3_59 : Cond.methodLink RX3 59 yX9_isFree ∈ lw_g := mg6 15 rfl rfl
theorem ml_X3_63 : Cond.methodLink RX3 63 yX3_weighMove ∈ lw_g := mg6 16 rfl rfl
theorem ml_X3_67 : Cond.methodLink RX3 67 yX3_takeTurn ∈ lw_g := mg6 20 rfl rfl
theorem ml_X3_71 : Cond.methodLink RX3 71 yX3_leadIn ∈ lw_g := mg6 26 rfl rfl
theorem ml_X3_75 : Cond.methodLink RX3 75 yX3_worstReply ∈ lw_g := mg6 30 rfl rfl
theorem ml_X3_79 : Cond.methodLink RX3 79 yX4_goBackTo ∈ lw_g := mg6 23 rfl rfl
theorem ml_X3_82 : Cond.methodLink RX3 82 yX9_throwInto ∈ lw_g := mg6 24 rfl rfl
theorem ml_X3_85 : Cond.methodLink RX3 85 yX4_passHour ∈ lw_g := mg6 25 rfl rfl
theorem ml_X3_99 : Cond.methodLink RX3 99 yX3_comesToMindTooLate ∈ lw_g := mg6 34 rfl rfl
theorem ml_X3_102 : Cond.methodLink RX3 102 yJ9_min_7cf53 ∈ lw_g := mg6 38 rfl rfl
theorem ml_X4_54 : Cond.methodLink RX4 54 yX9_copyFrom ∈ lw_g := mg4 50 rfl rfl
theorem ml_X4_58 : Cond.methodLink RX4 58 yX7_copyFrom ∈ lw_g := mg4 59 rfl rfl
theorem ml_X4_61 : Cond.methodLink RX4 61 yX9_copyPlacesFrom ∈ lw_g := mg5 119 rfl rfl
theorem ml_X4_64 : Cond.methodLink RX4 64 yX7_copyGroundFrom ∈ lw_g := mg5 120 rfl rfl
theorem ml_X4_71 : Cond.methodLink RX4 71 yX9_longestRemembered ∈ lw_g := mg4 233 rfl rfl
theorem ml_X4_75 : Cond.methodLink RX4 75 yX4_goalCell ∈ lw_g := mg4 234 rfl rfl
theorem ml_X4_79 : Cond.methodLink RX4 79 yX7_grindAt ∈ lw_g := mg4 235 rfl rfl
theorem ml_X4_83 : Cond.methodLink RX4 83 yX9_carriedWeight ∈ lw_g := mg4 239 rfl rfl
theorem ml_X4_86 : Cond.methodLink RX4 86 yX9_takeUp ∈ lw_g := mg5 0 rfl rfl
theorem ml_X4_89 : Cond.methodLink RX4 89 yX9_growOlder ∈ lw_g := mg5 4 rfl rfl
theorem ml_X4_93 : Cond.methodLink RX4 93 yX4_passHour ∈ lw_g := mg4 229 rfl rfl
theorem ml_X4_100 : Cond.methodLink RX4 100 yX9_areQuiet ∈ lw_g := mg5 88 rfl rfl
theorem ml_X4_103 : Cond.methodLink RX4 103 yX9_setThatIs ∈ lw_g := mg5 218 rfl rfl
theorem ml_X4_106 : Cond.methodLink RX4 106 yX9_weightOf ∈ lw_g := mg5 219 rfl rfl
theorem ml_X4_109 : Cond.methodLink RX4 109 yJ6_bitCount_0f7a4 ∈ lw_g := mg5 223 rfl rfl
theorem ml_X5_23 : Cond.methodLink RX5 23 yX4_clear ∈ lw_g := mg3 186 rfl rfl
theorem ml_X5_30 : Cond.methodLink RX5 30 yX8_isGoingOn ∈ lw_g := mg3 187 rfl rfl
theorem ml_X5_34 : Cond.methodLink RX5 34 yX5_readPart ∈ lw_g := mg3 191 rfl rfl
theorem ml_X5_37 : Cond.methodLink RX5 37 yX8_keyword ∈ lw_g := mg3 195 rfl rfl
theorem ml_X5_41 : Cond.methodLink RX5 41 yX5_readLong ∈ lw_g := mg3 199 rfl rfl
theorem ml_X5_44 : Cond.methodLink RX5 44 yX5_takeOnce ∈ lw_g := mg3 211 rfl rfl
theorem ml_X5_48 : Cond.methodLink RX5 48 yX8_takeNumberOf ∈ lw_g := mg3 216 rfl rfl
theorem ml_X5_58 : Cond.methodLink RX5 58 yX5_readStream ∈ lw_g := mg3 221 rfl rfl
theorem ml_X5_61 : Cond.methodLink RX5 61 yX5_readThing ∈ lw_g := mg3 229 rfl rfl
theorem ml_X5_64 : Cond.methodLink RX5 64 yX5_readMill ∈ lw_g := mg4 30 rfl rfl
theorem ml_X5_67 : Cond.methodLink RX5 67 yX8_fail ∈ lw_g := mg3 207 rfl rfl
theorem ml_X5_70 : Cond.methodLink RX5 70 yX8_takeSemicolon ∈ lw_g := mg4 42 rfl rfl
theorem ml_X5_73 : Cond.methodLink RX5 73 yX5_wasTold ∈ lw_g := mg3 203 rfl rfl
theorem ml_X5_77 : Cond.methodLink RX5 77 yX8_advance ∈ lw_g := mg3 215 rfl rfl
theorem ml_X5_102 : Cond.methodLink RX5 102 yX8_isWord ∈ lw_g := mg3 225 rfl rfl
theorem ml_X5_108 : Cond.methodLink RX5 108 yX8_takeKeyword ∈ lw_g := mg3 233 rfl rfl
theorem ml_X5_111 : Cond.methodLink RX5 111 yX5_takeNewName ∈ lw_g := mg3 238 rfl rfl
theorem ml_X5_115 : Cond.methodLink RX5 115 yX9_addThing ∈ lw_g := mg4 14 rfl rfl
theorem ml_X5_119 : Cond.methodLink RX5 119 yX9_throwInto ∈ lw_g := mg4 26 rfl rfl
theorem ml_X5_123 : Cond.methodLink RX5 123 yX5_takeKind ∈ lw_g := mg4 34 rfl rfl
theorem ml_X5_126 : Cond.methodLink RX5 126 yX7_addMill ∈ lw_g := mg4 38 rfl rfl
theorem ml_X5_130 : Cond.methodLink RX5 130 yX8_nameHere ∈ lw_g := mg4 2 rfl rfl
theorem ml_X5_133 : Cond.methodLink RX5 133 yX9_numberOf ∈ lw_g := mg4 6 rfl rfl
theorem ml_X5_137 : Cond.methodLink RX5 137 yX7_numberOf ∈ lw_g := mg4 10 rfl rfl
theorem ml_X6_45 : Cond.methodLink RX6 45 yX6_behindEnd ∈ lw_g := mg6 86 rfl rfl
theorem ml_X6_49 : Cond.methodLink RX6 49 yX6_behindStep ∈ lw_g := mg6 90 rfl rfl
theorem ml_X6_58 : Cond.methodLink RX6 58 yX6_letPass ∈ lw_g := mg6 94 rfl rfl
theorem ml_X6_65 : Cond.methodLink RX6 65 yX6_throwThing ∈ lw_g := mg6 99 rfl rfl
theorem ml_X6_69 : Cond.methodLink RX6 69 yX6_fetchThing ∈ lw_g := mg6 105 rfl rfl
theorem ml_X6_72 : Cond.methodLink RX6 72 yX6_throwAny ∈ lw_g := mg6 111 rfl rfl
theorem ml_X6_75 : Cond.methodLink RX6 75 yX6_holds ∈ lw_g := mg6 120 rfl rfl
theorem ml_X6_84 : Cond.methodLink RX6 84 yX4_passHours ∈ lw_g := mg6 98 rfl rfl
theorem ml_X6_94 : Cond.methodLink RX6 94 yX9_isFree ∈ lw_g := mg6 103 rfl rfl
theorem ml_X6_97 : Cond.methodLink RX6 97 yX9_throwInto ∈ lw_g := mg6 104 rfl rfl
theorem ml_X6_100 : Cond.methodLink RX6 100 yX9_isLying ∈ lw_g := mg6 109 rfl rfl
theorem ml_X6_103 : Cond.methodLink RX6 103 yX9_bringAshore ∈ lw_g := mg6 110 rfl rfl
theorem ml_X6_106 : Cond.methodLink RX6 106 yX6_draw ∈ lw_g := mg6 115 rfl rfl
theorem ml_X6_122 : Cond.methodLink RX6 122 yX6_compares ∈ lw_g := mg6 124 rfl rfl
theorem ml_X7_29 : Cond.methodLink RX7 29 arraycopyName ∈ lw_g := mg4 63 rfl rfl
theorem ml_X7_35 : Cond.methodLink RX7 35 yX7_copyGroundFrom ∈ lw_g := mg4 64 rfl rfl
theorem ml_X8_59 : Cond.methodLink RX8 59 yX8_withLetter ∈ lw_g := mg1 107 rfl rfl
theorem ml_X8_63 : Cond.methodLink RX8 63 yJ9_min_7cf53 ∈ lw_g := mg3 158 rfl rfl
theorem ml_X8_69 : Cond.methodLink RX8 69 yJ9_max_7cf53 ∈ lw_g := mg3 161 rfl rfl
theorem ml_X8_72 : Cond.methodLink RX8 72 yX8_advance ∈ lw_g := mg3 164 rfl rfl
theorem ml_X8_75 : Cond.methodLink RX8 75 yX8_isLetter ∈ lw_g := mg3 168 rfl rfl
theorem ml_X8_79 : Cond.methodLink RX8 79 yX8_takeWord ∈ lw_g := mg3 171 rfl rfl
theorem ml_X8_82 : Cond.methodLink RX8 82 yX8_isDigit ∈ lw_g := mg3 175 rfl rfl
theorem ml_X8_85 : Cond.methodLink RX8 85 yX8_takeNumber ∈ lw_g := mg3 178 rfl rfl
theorem ml_X8_88 : Cond.methodLink RX8 88 yX8_isWord ∈ lw_g := mg3 237 rfl rfl
theorem ml_X8_91 : Cond.methodLink RX8 91 yX8_fail ∈ lw_g := mg3 220 rfl rfl
theorem ml_X9_41 : Cond.methodLink RX9 41 arraycopyName ∈ lw_g := mg4 54 rfl rfl
theorem ml_X9_47 : Cond.methodLink RX9 47 yX9_copyPlacesFrom ∈ lw_g := mg4 55 rfl rfl
theorem ml_X9_51 : Cond.methodLink RX9 51 yX9_bringAshore ∈ lw_g := mg4 18 rfl rfl
theorem ml_X9_55 : Cond.methodLink RX9 55 yX9_place ∈ lw_g := mg4 22 rfl rfl
theorem ml_X9_59 : Cond.methodLink RX9 59 yX9_isRemembered ∈ lw_g := mg4 169 rfl rfl
theorem ml_X9_63 : Cond.methodLink RX9 63 yX9_isFree ∈ lw_g := mg5 92 rfl rfl
theorem ml_X10_21 : Cond.methodLink RX10 21 yX10_cut ∈ lw_g := mg3 119 rfl rfl
theorem ml_X12_81 : Cond.methodLink RX12 81 yX12_plain ∈ lw_g := mg6 153 rfl rfl
theorem ml_X12_91 : Cond.methodLink RX12 91 yX12_refuse ∈ lw_g := mg7 129 rfl rfl
theorem ml_X12_95 : Cond.methodLink RX12 95 yX12_gives ∈ lw_g := mg7 210 rfl rfl
theorem ml_X12_98 : Cond.methodLink RX12 98 yX12_is ∈ lw_g := mg7 69 rfl rfl
theorem ml_X12_102 : Cond.methodLink RX12 102 yX12_isTray ∈ lw_g := mg7 66 rfl rfl
theorem ml_X12_105 : Cond.methodLink RX12 105 yX12_wrongPlace ∈ lw_g := mg7 77 rfl rfl
theorem ml_X12_109 : Cond.methodLink RX12 109 yX12_cut ∈ lw_g := mg7 81 rfl rfl
theorem ml_X12_118 : Cond.methodLink RX12 118 yX12_four ∈ lw_g := mg7 97 rfl rfl
theorem ml_X12_127 : Cond.methodLink RX12 127 yX12_byteAt ∈ lw_g := mg7 117 rfl rfl
theorem ml_X12_139 : Cond.methodLink RX12 139 yX12_isSmall ∈ lw_g := mg7 121 rfl rfl
theorem ml_X12_142 : Cond.methodLink RX12 142 yX12_isDigit ∈ lw_g := mg7 124 rfl rfl
theorem ml_X12_146 : Cond.methodLink RX12 146 yJ9_min_7cf53 ∈ lw_g := mg7 128 rfl rfl
theorem ml_X12_151 : Cond.methodLink RX12 151 yJ0_length_8abf5 ∈ lw_g := mg7 142 rfl rfl
theorem ml_X12_157 : Cond.methodLink RX12 157 yJ0_charAt_5068e ∈ lw_g := mg7 143 rfl rfl
theorem ml_X12_167 : Cond.methodLink RX12 167 yX12_ahead ∈ lw_g := mg7 113 rfl rfl
theorem ml_X12_170 : Cond.methodLink RX12 170 yX12_isSign ∈ lw_g := mg7 202 rfl rfl
theorem ml_X12_173 : Cond.methodLink RX12 173 yX12_fails ∈ lw_g := mg7 144 rfl rfl
theorem ml_X12_176 : Cond.methodLink RX12 176 yX12_inWords ∈ lw_g := mg7 138 rfl rfl
theorem ml_X12_180 : Cond.methodLink RX12 180 yX12_nameHere ∈ lw_g := mg7 183 rfl rfl
theorem ml_X12_186 : Cond.methodLink RX12 186 yX12_isName ∈ lw_g := mg7 175 rfl rfl
theorem ml_X12_190 : Cond.methodLink RX12 190 yX12_findHere ∈ lw_g := mg7 179 rfl rfl
theorem ml_X12_193 : Cond.methodLink RX12 193 yX12_number ∈ lw_g := mg7 148 rfl rfl
theorem ml_X12_197 : Cond.methodLink RX12 197 yX12_newCell ∈ lw_g := mg7 156 rfl rfl
theorem ml_X12_200 : Cond.methodLink RX12 200 yX12_isThere ∈ lw_g := mg7 160 rfl rfl
theorem ml_X12_203 : Cond.methodLink RX12 203 yX12_thingRow ∈ lw_g := mg7 168 rfl rfl
theorem ml_X12_206 : Cond.methodLink RX12 206 yX12_newOne ∈ lw_g := mg7 171 rfl rfl
theorem ml_X12_209 : Cond.methodLink RX12 209 yX12_wantWord ∈ lw_g := mg7 187 rfl rfl
theorem ml_X12_213 : Cond.methodLink RX12 213 yX12_millRow ∈ lw_g := mg7 195 rfl rfl
theorem ml_X12_219 : Cond.methodLink RX12 219 yX12_aStream ∈ lw_g := mg7 152 rfl rfl
theorem ml_X12_223 : Cond.methodLink RX12 223 yX12_aThing ∈ lw_g := mg7 164 rfl rfl
theorem ml_X12_226 : Cond.methodLink RX12 226 yX12_aMill ∈ lw_g := mg7 191 rfl rfl
theorem ml_X12_229 : Cond.methodLink RX12 229 yX12_wantSign ∈ lw_g := mg7 198 rfl rfl
theorem ml_X12_232 : Cond.methodLink RX12 232 yX12_begins ∈ lw_g := mg7 109 rfl rfl
theorem ml_X12_236 : Cond.methodLink RX12 236 yX12_glenPart ∈ lw_g := mg7 133 rfl rfl
theorem ml_X12_239 : Cond.methodLink RX12 239 yX12_taken ∈ lw_g := mg7 206 rfl rfl
theorem ml_X12_242 : Cond.methodLink RX12 242 yX12_oldOne ∈ lw_g := mg7 230 rfl rfl
theorem ml_X12_245 : Cond.methodLink RX12 245 yX12_thingTo ∈ lw_g := mg7 226 rfl rfl
theorem ml_X12_248 : Cond.methodLink RX12 248 yX12_test ∈ lw_g := mg7 234 rfl rfl
theorem ml_X12_257 : Cond.methodLink RX12 257 yX12_dayOrder ∈ lw_g := mg7 222 rfl rfl
theorem ml_X12_260 : Cond.methodLink RX12 260 yX12_dayStep ∈ lw_g := mg7 218 rfl rfl
theorem ml_X12_263 : Cond.methodLink RX12 263 yX12_thingOf ∈ lw_g := mg8 10 rfl rfl
theorem ml_X12_266 : Cond.methodLink RX12 266 yX12_isRemembered ∈ lw_g := mg8 6 rfl rfl
theorem ml_X12_269 : Cond.methodLink RX12 269 yX12_mindedMost ∈ lw_g := mg8 54 rfl rfl
theorem ml_X12_272 : Cond.methodLink RX12 272 yX12_sea ∈ lw_g := mg8 58 rfl rfl
theorem ml_X12_275 : Cond.methodLink RX12 275 yX12_isIn ∈ lw_g := mg8 18 rfl rfl
theorem ml_X12_278 : Cond.methodLink RX12 278 yX12_thingsThat ∈ lw_g := mg8 2 rfl rfl
theorem ml_X12_281 : Cond.methodLink RX12 281 yX12_weightOf ∈ lw_g := mg8 14 rfl rfl
theorem ml_X12_284 : Cond.methodLink RX12 284 yX12_isThing ∈ lw_g := mg8 26 rfl rfl
theorem ml_X12_287 : Cond.methodLink RX12 287 yX12_isMill ∈ lw_g := mg8 38 rfl rfl
theorem ml_X12_290 : Cond.methodLink RX12 290 yX12_millOf ∈ lw_g := mg8 42 rfl rfl
theorem ml_X12_293 : Cond.methodLink RX12 293 yX12_goalNow ∈ lw_g := mg8 50 rfl rfl
theorem ml_X12_296 : Cond.methodLink RX12 296 yX12_orNone ∈ lw_g := mg8 66 rfl rfl
theorem ml_X12_299 : Cond.methodLink RX12 299 yX12_goes ∈ lw_g := mg8 86 rfl rfl
theorem ml_X12_302 : Cond.methodLink RX12 302 yX12_takesUp ∈ lw_g := mg8 90 rfl rfl
theorem ml_X12_305 : Cond.methodLink RX12 305 yX12_comesHome ∈ lw_g := mg8 94 rfl rfl
theorem ml_X12_308 : Cond.methodLink RX12 308 yX12_lasts ∈ lw_g := mg8 98 rfl rfl
theorem ml_X12_311 : Cond.methodLink RX12 311 yX12_hourGoes ∈ lw_g := mg8 82 rfl rfl
theorem ml_X12_316 : Cond.methodLink RX12 316 yX12_isFrom ∈ lw_g := mg8 75 rfl rfl
theorem ml_X12_320 : Cond.methodLink RX12 320 yX12_hoursGo ∈ lw_g := mg8 78 rfl rfl
theorem ml_X12_323 : Cond.methodLink RX12 323 yX12_isFree ∈ lw_g := mg8 114 rfl rfl
theorem ml_X12_326 : Cond.methodLink RX12 326 yX12_isCell ∈ lw_g := mg8 106 rfl rfl
theorem ml_X12_329 : Cond.methodLink RX12 329 yX12_tosses ∈ lw_g := mg8 110 rfl rfl
theorem ml_X12_332 : Cond.methodLink RX12 332 yX12_fetches ∈ lw_g := mg8 122 rfl rfl
theorem ml_X12_347 : Cond.methodLink RX12 347 yX12_isSpan ∈ lw_g := mg8 155 rfl rfl
theorem ml_X12_350 : Cond.methodLink RX12 350 yX12_keeps ∈ lw_g := mg8 159 rfl rfl
theorem ml_X12_353 : Cond.methodLink RX12 353 yX12_restores ∈ lw_g := mg8 163 rfl rfl
theorem ml_X12_356 : Cond.methodLink RX12 356 yX12_homeOf ∈ lw_g := mg8 175 rfl rfl
theorem ml_X12_359 : Cond.methodLink RX12 359 yX12_nextTurn ∈ lw_g := mg8 187 rfl rfl
theorem ml_X12_362 : Cond.methodLink RX12 362 yX12_stands ∈ lw_g := mg8 207 rfl rfl
theorem ml_X12_365 : Cond.methodLink RX12 365 yX12_areAlike ∈ lw_g := mg8 211 rfl rfl
theorem ml_X12_368 : Cond.methodLink RX12 368 yX12_ringing ∈ lw_g := mg8 203 rfl rfl
theorem ml_X12_380 : Cond.methodLink RX12 380 yX12_laysSoonest ∈ lw_g := mg8 224 rfl rfl
theorem ml_X12_385 : Cond.methodLink RX12 385 yX12_wrongDrive ∈ lw_g := mg8 237 rfl rfl
theorem ml_X12_389 : Cond.methodLink RX12 389 yX12_laysDrive ∈ lw_g := mg9 2 rfl rfl
theorem ml_X12_398 : Cond.methodLink RX12 398 yX12_wrongMinded ∈ lw_g := mg9 14 rfl rfl
theorem ml_X12_402 : Cond.methodLink RX12 402 yX12_laysMinds ∈ lw_g := mg9 19 rfl rfl
theorem ml_X12_406 : Cond.methodLink RX12 406 yJ9_max_7cf53 ∈ lw_g := mg9 31 rfl rfl
theorem ml_X12_409 : Cond.methodLink RX12 409 yX12_bits ∈ lw_g := mg9 40 rfl rfl
theorem ml_X12_412 : Cond.methodLink RX12 412 yX12_heaviestOf ∈ lw_g := mg9 36 rfl rfl
theorem ml_X12_421 : Cond.methodLink RX12 421 yX12_laysRide ∈ lw_g := mg9 51 rfl rfl
theorem ml_X12_425 : Cond.methodLink RX12 425 yX12_groundMore ∈ lw_g := mg9 71 rfl rfl
theorem ml_X12_428 : Cond.methodLink RX12 428 yX12_levelAt ∈ lw_g := mg9 75 rfl rfl
theorem ml_X12_431 : Cond.methodLink RX12 431 yX12_settles ∈ lw_g := mg9 78 rfl rfl
theorem ml_X12_434 : Cond.methodLink RX12 434 yX12_areTwo ∈ lw_g := mg9 63 rfl rfl
theorem ml_X12_437 : Cond.methodLink RX12 437 yX12_playing ∈ lw_g := mg9 67 rfl rfl
theorem ml_X12_440 : Cond.methodLink RX12 440 yX12_tellsBy ∈ lw_g := mg9 90 rfl rfl
theorem ml_X12_450 : Cond.methodLink RX12 450 yX12_allHomes ∈ lw_g := mg9 120 rfl rfl
theorem ml_X12_453 : Cond.methodLink RX12 453 yX12_draw ∈ lw_g := mg9 128 rfl rfl
theorem ml_X12_456 : Cond.methodLink RX12 456 yX12_hoursBy ∈ lw_g := mg9 116 rfl rfl
theorem ml_X12_459 : Cond.methodLink RX12 459 yX12_throwsAny ∈ lw_g := mg9 124 rfl rfl
theorem ml_X12_465 : Cond.methodLink RX12 465 yX12_does ∈ lw_g := mg9 112 rfl rfl
theorem ml_X12_468 : Cond.methodLink RX12 468 yX12_holds ∈ lw_g := mg9 133 rfl rfl
theorem ml_X12_471 : Cond.methodLink RX12 471 yX12_behindEnds ∈ lw_g := mg9 137 rfl rfl
theorem ml_X12_476 : Cond.methodLink RX12 476 yX12_lives ∈ lw_g := mg9 108 rfl rfl
theorem ml_X12_486 : Cond.methodLink RX12 486 yX12_copies ∈ lw_g := mg9 153 rfl rfl
theorem ml_J0_335 : Cond.methodLink RJ0 335 yJ0_coder_7d493 ∈ lw_g := mg1 63 rfl rfl
theorem ml_J0_492 : Cond.methodLink RJ0 492 yJ0_isLatin1_aae02 ∈ lw_g := mg1 73 rfl rfl
theorem ml_J0_495 : Cond.methodLink RJ0 495 yJ1_charAt_3b067 ∈ lw_g := mg1 77 rfl rfl
theorem ml_J0_1059 : Cond.methodLink RJ0 1059 yJ3_checkIndex_8e157 ∈ lw_g := mg1 85 rfl rfl
theorem ml_J1_9 : Cond.methodLink RJ1 9 yJ0_checkIndex_df160 ∈ lw_g := mg1 80 rfl rfl
theorem pd_0 : (parseMethodDescriptor "()Z").map (fun d => d.parameters.length) = some 0 := by decide +kernel
theorem nc_RJ0 : RJ0 ≠ "java/lang/invoke/MethodHandle" ∧ RJ0 ≠ "java/lang/invoke/VarHandle" := by decide +kernel
theorem np_RJ0 : plainName RJ0 = true := by decide +kernel
theorem pd_1 : (parseMethodDescriptor "(IILjava/util/function/BiFunction;)I").map (fun d => d.parameters.length) = some 3 := by decide +kernel
theorem nc_RJ3 : RJ3 ≠ "java/lang/invoke/MethodHandle" ∧ RJ3 ≠ "java/lang/invoke/VarHandle" := by decide +kernel
theorem np_RJ3 : plainName RJ3 = true := by decide +kernel
theorem pd_2 : (parseMethodDescriptor "(II)V").map (fun d => d.parameters.length) = some 2 := by decide +kernel
theorem pd_3 : (parseMethodDescriptor "([BI)C").map (fun d => d.parameters.length) = some 2 := by decide +kernel
theorem nc_RJ1 : RJ1 ≠ "java/lang/invoke/MethodHandle" ∧ RJ1 ≠ "java/lang/invoke/VarHandle" := by decide +kernel
theorem np_RJ1 : plainName RJ1 = true := by decide +kernel
theorem pd_4 : (parseMethodDescriptor "(I)C").map (fun d => d.parameters.length) = some 1 := by decide +kernel
theorem pd_5 : (parseMethodDescriptor "()B").map (fun d => d.parameters.length) = some 0 := by decide +kernel
theorem pd_6 : (parseMethodDescriptor "()I").map (fun d => d.parameters.length) = some 0 := by decide +kernel
theorem pd_7 : (parseMethodDescriptor "(I)I").map (fun d => d.parameters.length) = some 1 := by decide +kernel
theorem nc_RJ6 : RJ6 ≠ "java/lang/invoke/MethodHandle" ∧ RJ6 ≠ "java/lang/invoke/VarHandle" := by decide +kernel
theorem np_RJ6 : plainName RJ6 = true := by decide +kernel
theorem nc_RX0 : RX0 ≠ "java/lang/invoke/MethodHandle" ∧ RX0 ≠ "java/lang/invoke/VarHandle" := by decide +kernel
theorem np_RX0 : plainName RX0 = true := by decide +kernel
theorem pd_8 : (parseMethodDescriptor "([JI)Z").map (fun d => d.parameters.length) = some 2 := by decide +kernel
theorem pd_9 : (parseMethodDescriptor "(LForgetStream$Mills;)V").map (fun d => d.parameters.length) = some 1 := by decide +kernel
theorem nc_RX7 : RX7 ≠ "java/lang/invoke/MethodHandle" ∧ RX7 ≠ "java/lang/invoke/VarHandle" := by decide +kernel
theorem np_RX7 : plainName RX7 = true := by decide +kernel
theorem pd_10 : (parseMethodDescriptor "(LForgetStream$Things;)V").map (fun d => d.parameters.length) = some 1 := by decide +kernel
theorem nc_RX9 : RX9 ≠ "java/lang/invoke/MethodHandle" ∧ RX9 ≠ "java/lang/invoke/VarHandle" := by decide +kernel
theorem np_RX9 : plainName RX9 = true := by decide +kernel
theorem pd_11 : (parseMethodDescriptor "(LForgetStream$Glen;)V").map (fun d => d.parameters.length) = some 1 := by decide +kernel
theorem nc_RX4 : RX4 ≠ "java/lang/invoke/MethodHandle" ∧ RX4 ≠ "java/lang/invoke/VarHandle" := by decide +kernel
theorem np_RX4 : plainName RX4 = true := by decide +kernel
theorem pd_12 : (parseMethodDescriptor "(III)V").map (fun d => d.parameters.length) = some 3 := by decide +kernel
theorem pd_13 : (parseMethodDescriptor "(IZ)V").map (fun d => d.parameters.length) = some 2 := by decide +kernel
theorem pd_14 : (parseMethodDescriptor "(LForgetStream$Glen;LForgetStream$Glen;II)I").map (fun d => d.parameters.length) = some 4 := by decide +kernel
theorem pd_15 : (parseMethodDescriptor "(LForgetStream$Glen;LForgetStream$Glen;IIII)V").map (fun d => d.parameters.length) = some 6 := by decide +kernel
theorem pd_16 : (parseMethodDescriptor "(J[JI)Z").map (fun d => d.parameters.length) = some 3 := by decide +kernel
theorem pd_17 : (parseMethodDescriptor "(LForgetStream$Glen;LForgetStream$Glen;I[JI)V").map (fun d => d.parameters.length) = some 5 := by decide +kernel
theorem pd_18 : (parseMethodDescriptor "(II)I").map (fun d => d.parameters.length) = some 2 := by decide +kernel
theorem pd_19 : (parseMethodDescriptor "(LForgetStream$Glen;LForgetStream$Glen;I)V").map (fun d => d.parameters.length) = some 3 := by decide +kernel
theorem pd_20 : (parseMethodDescriptor "(I)J").map (fun d => d.parameters.length) = some 1 := by decide +kernel
theorem pd_21 : (parseMethodDescriptor "(LForgetStream$Glen;)I").map (fun d => d.parameters.length) = some 1 := by decide +kernel
theorem pd_22 : (parseMethodDescriptor "(LForgetStream$Glen;II)V").map (fun d => d.parameters.length) = some 3 := by decide +kernel
theorem pd_23 : (parseMethodDescriptor "(IIII)I").map (fun d => d.parameters.length) = some 4 := by decide +kernel
theorem nc_RX1 : RX1 ≠ "java/lang/invoke/MethodHandle" ∧ RX1 ≠ "java/lang/invoke/VarHandle" := by decide +kernel
theorem np_RX1 : plainName RX1 = true := by decide +kernel
theorem pd_24 : (parseMethodDescriptor "()V").map (fun d => d.parameters.length) = some 0 := by decide +kernel
theorem pd_25 : (parseMethodDescriptor "(LForgetStream$Days;)V").map (fun d => d.parameters.length) = some 1 := by decide +kernel
theorem pd_26 : (parseMethodDescriptor "(I)Z").map (fun d => d.parameters.length) = some 1 := by decide +kernel
theorem nc_RX2 : RX2 ≠ "java/lang/invoke/MethodHandle" ∧ RX2 ≠ "java/lang/invoke/VarHandle" := by decide +kernel
theorem np_RX2 : plainName RX2 = true := by decide +kernel
theorem pd_27 : (parseMethodDescriptor "(I)V").map (fun d => d.parameters.length) = some 1 := by decide +kernel
theorem nc_RX8 : RX8 ≠ "java/lang/invoke/MethodHandle" ∧ RX8 ≠ "java/lang/invoke/VarHandle" := by decide +kernel
theorem np_RX8 : plainName RX8 = true := by decide +kernel
theorem pd_28 : (parseMethodDescriptor "(JI)J").map (fun d => d.parameters.length) = some 2 := by decide +kernel
theorem pd_29 : (parseMethodDescriptor "(J)I").map (fun d => d.parameters.length) = some 1 := by decide +kernel
theorem pd_30 : (parseMethodDescriptor "()J").map (fun d => d.parameters.length) = some 0 := by decide +kernel
theorem pd_31 : (parseMethodDescriptor "(LForgetStream$Glen;LForgetStream$Text;)V").map (fun d => d.parameters.length) = some 2 := by decide +kernel
theorem nc_RX3 : RX3 ≠ "java/lang/invoke/MethodHandle" ∧ RX3 ≠ "java/lang/invoke/VarHandle" := by decide +kernel
theorem np_RX3 : plainName RX3 = true := by decide +kernel
theorem pd_32 : (parseMethodDescriptor "(LForgetStream$Glen;LForgetStream$Glen;II)V").map (fun d => d.parameters.length) = some 4 := by decide +kernel
theorem pd_33 : (parseMethodDescriptor "(LForgetStream$Glen;III)V").map (fun d => d.parameters.length) = some 4 := by decide +kernel
theorem nc_RX5 : RX5 ≠ "java/lang/invoke/MethodHandle" ∧ RX5 ≠ "java/lang/invoke/VarHandle" := by decide +kernel
theorem np_RX5 : plainName RX5 = true := by decide +kernel
theorem pd_34 : (parseMethodDescriptor "(JII)I").map (fun d => d.parameters.length) = some 3 := by decide +kernel
theorem pd_35 : (parseMethodDescriptor "(JIII)I").map (fun d => d.parameters.length) = some 4 := by decide +kernel
theorem nc_RX6 : RX6 ≠ "java/lang/invoke/MethodHandle" ∧ RX6 ≠ "java/lang/invoke/VarHandle" := by decide +kernel
theorem np_RX6 : plainName RX6 = true := by decide +kernel
theorem pd_36 : (parseMethodDescriptor "(III)Z").map (fun d => d.parameters.length) = some 3 := by decide +kernel
theorem pd_37 : (parseMethodDescriptor "(LForgetStream$Glen;LForgetStream$Days;I)V").map (fun d => d.parameters.length) = some 3 := by decide +kernel
theorem pd_38 : (parseMethodDescriptor "(IJ)J").map (fun d => d.parameters.length) = some 2 := by decide +kernel
theorem nc_RX10 : RX10 ≠ "java/lang/invoke/MethodHandle" ∧ RX10 ≠ "java/lang/invoke/VarHandle" := by decide +kernel
theorem np_RX10 : plainName RX10 = true := by decide +kernel
theorem pd_39 : (parseMethodDescriptor "(IIJ)V").map (fun d => d.parameters.length) = some 3 := by decide +kernel
theorem nc_RX11 : RX11 ≠ "java/lang/invoke/MethodHandle" ∧ RX11 ≠ "java/lang/invoke/VarHandle" := by decide +kernel
theorem np_RX11 : plainName RX11 = true := by decide +kernel
theorem pd_40 : (parseMethodDescriptor "(III)I").map (fun d => d.parameters.length) = some 3 := by decide +kernel
theorem pd_41 : (parseMethodDescriptor "(JJ)J").map (fun d => d.parameters.length) = some 2 := by decide +kernel
theorem pd_42 : (parseMethodDescriptor "(IIIII)I").map (fun d => d.parameters.length) = some 5 := by decide +kernel
theorem pd_43 : (parseMethodDescriptor "(II)Z").map (fun d => d.parameters.length) = some 2 := by decide +kernel
theorem pd_44 : (parseMethodDescriptor "(JJ)Z").map (fun d => d.parameters.length) = some 2 := by decide +kernel
theorem pd_45 : (parseMethodDescriptor "(IIIII)Z").map (fun d => d.parameters.length) = some 5 := by decide +kernel
theorem pd_46 : (parseMethodDescriptor "(III)J").map (fun d => d.parameters.length) = some 3 := by decide +kernel
theorem pd_47 : (parseMethodDescriptor "(II)J").map (fun d => d.parameters.length) = some 2 := by decide +kernel
theorem pd_48 : (parseMethodDescriptor "(IIJ)Z").map (fun d => d.parameters.length) = some 3 := by decide +kernel
theorem nc_RX12 : RX12 ≠ "java/lang/invoke/MethodHandle" ∧ RX12 ≠ "java/lang/invoke/VarHandle" := by decide +kernel
theorem np_RX12 : plainName RX12 = true := by decide +kernel
theorem pd_49 : (parseMethodDescriptor "(Ljava/lang/String;)I").map (fun d => d.parameters.length) = some 1 := by decide +kernel
theorem pd_50 : (parseMethodDescriptor "(Ljava/lang/String;)Z").map (fun d => d.parameters.length) = some 1 := by decide +kernel
theorem pd_51 : (parseMethodDescriptor "(Ljava/lang/String;I)Z").map (fun d => d.parameters.length) = some 2 := by decide +kernel
theorem pd_52 : (parseMethodDescriptor "(JJJ)Z").map (fun d => d.parameters.length) = some 3 := by decide +kernel
theorem pd_53 : (parseMethodDescriptor "(IIII)V").map (fun d => d.parameters.length) = some 4 := by decide +kernel
theorem cy_J0_isLatin1_aae02 : CY yJ0_isLatin1_aae02 cJ0_isLatin1_aae02 1 (some .boolean) 0 := ⟨mg1 74 rfl rfl, mg1 75 rfl rfl, mg1 4 rfl rfl, mg1 76 rfl rfl, nc_RJ0.1, nc_RJ0.2, pd_0⟩
theorem cy_J3_checkIndex_8e157 : CYs yJ3_checkIndex_8e157 cJ3_checkIndex_8e157 3 (some .int) 3 := ⟨mg1 86 rfl rfl, mg1 6 rfl rfl, mg1 87 rfl rfl, nc_RJ3.1, nc_RJ3.2, pd_1⟩
theorem cy_J0_checkIndex_df160 : CYs yJ0_checkIndex_df160 cJ0_checkIndex_df160 2 none 2 := ⟨mg1 81 rfl rfl, mg1 4 rfl rfl, mg1 82 rfl rfl, nc_RJ0.1, nc_RJ0.2, pd_2⟩
theorem cy_J1_charAt_3b067 : CYs yJ1_charAt_3b067 cJ1_charAt_3b067 2 (some .char) 2 := ⟨mg1 78 rfl rfl, mg1 5 rfl rfl, mg1 79 rfl rfl, nc_RJ1.1, nc_RJ1.2, pd_3⟩
theorem cy_J0_charAt_5068e : CY yJ0_charAt_5068e cJ0_charAt_5068e 2 (some .char) 1 := ⟨mg1 70 rfl rfl, mg1 71 rfl rfl, mg1 4 rfl rfl, mg1 72 rfl rfl, nc_RJ0.1, nc_RJ0.2, pd_4⟩
theorem cy_J0_coder_7d493 : CY yJ0_coder_7d493 cJ0_coder_7d493 1 (some .byte) 0 := ⟨mg1 64 rfl rfl, mg1 65 rfl rfl, mg1 4 rfl rfl, mg1 66 rfl rfl, nc_RJ0.1, nc_RJ0.2, pd_5⟩
theorem cy_J0_length_8abf5 : CY yJ0_length_8abf5 cJ0_length_8abf5 1 (some .int) 0 := ⟨mg1 60 rfl rfl, mg1 61 rfl rfl, mg1 4 rfl rfl, mg1 62 rfl rfl, nc_RJ0.1, nc_RJ0.2, pd_6⟩
theorem cy_J6_bitCount_0f7a4 : CYs yJ6_bitCount_0f7a4 cJ6_bitCount_0f7a4 1 (some .int) 1 := ⟨mg5 224 rfl rfl, mg1 20 rfl rfl, mg5 225 rfl rfl, nc_RJ6.1, nc_RJ6.2, pd_7⟩
theorem cy_X0_countMinds : CY yX0_countMinds cX0_countMinds 3 (some .int) 0 := ⟨mg5 181 rfl rfl, mg5 182 rfl rfl, mg1 14 rfl rfl, mg5 183 rfl rfl, nc_RX0.1, nc_RX0.2, pd_6⟩
theorem cy_X0_countTurning : CY yX0_countTurning cX0_countTurning 4 (some .int) 1 := ⟨mg5 207 rfl rfl, mg0 34 rfl rfl, mg1 14 rfl rfl, mg5 208 rfl rfl, nc_RX0.1, nc_RX0.2, pd_7⟩
theorem cy_X0_bestQuestion : CY yX0_bestQuestion cX0_bestQuestion 7 (some .int) 0 := ⟨mg5 201 rfl rfl, mg5 202 rfl rfl, mg1 14 rfl rfl, mg5 203 rfl rfl, nc_RX0.1, nc_RX0.2, pd_6⟩
theorem cy_X0_canBeSeen : CYs yX0_canBeSeen cX0_canBeSeen 7 (some .boolean) 2 := ⟨mg5 170 rfl rfl, mg1 14 rfl rfl, mg5 171 rfl rfl, nc_RX0.1, nc_RX0.2, pd_8⟩
theorem cy_X7_copyGroundFrom : CY yX7_copyGroundFrom cX7_copyGroundFrom 2 none 1 := ⟨mg4 65 rfl rfl, mg4 66 rfl rfl, mg1 10 rfl rfl, mg4 67 rfl rfl, nc_RX7.1, nc_RX7.2, pd_9⟩
theorem cy_X7_copyFrom : CY yX7_copyFrom cX7_copyFrom 2 none 1 := ⟨mg4 60 rfl rfl, mg4 61 rfl rfl, mg1 10 rfl rfl, mg4 62 rfl rfl, nc_RX7.1, nc_RX7.2, pd_9⟩
theorem cy_X9_copyPlacesFrom : CY yX9_copyPlacesFrom cX9_copyPlacesFrom 2 none 1 := ⟨mg4 56 rfl rfl, mg4 57 rfl rfl, mg1 9 rfl rfl, mg4 58 rfl rfl, nc_RX9.1, nc_RX9.2, pd_10⟩
theorem cy_X9_copyFrom : CY yX9_copyFrom cX9_copyFrom 2 none 1 := ⟨mg4 51 rfl rfl, mg4 52 rfl rfl, mg1 9 rfl rfl, mg4 53 rfl rfl, nc_RX9.1, nc_RX9.2, pd_10⟩
theorem cy_X4_copyFrom : CY yX4_copyFrom cX4_copyFrom 2 none 1 := ⟨mg4 47 rfl rfl, mg4 48 rfl rfl, mg1 8 rfl rfl, mg4 49 rfl rfl, nc_RX4.1, nc_RX4.2, pd_11⟩
theorem cy_X4_goBackTo : CY yX4_goBackTo cX4_goBackTo 2 none 1 := ⟨mg5 116 rfl rfl, mg5 117 rfl rfl, mg1 8 rfl rfl, mg5 118 rfl rfl, nc_RX4.1, nc_RX4.2, pd_11⟩
theorem cy_X4_goalCell : CY yX4_goalCell cX4_goalCell 2 (some .int) 1 := ⟨mg4 214 rfl rfl, mg4 215 rfl rfl, mg1 8 rfl rfl, mg4 216 rfl rfl, nc_RX4.1, nc_RX4.2, pd_7⟩
theorem cy_X7_grindAt : CY yX7_grindAt cX7_grindAt 4 none 2 := ⟨mg4 236 rfl rfl, mg4 237 rfl rfl, mg1 10 rfl rfl, mg4 238 rfl rfl, nc_RX7.1, nc_RX7.2, pd_2⟩
theorem cy_X9_carriedWeight : CY yX9_carriedWeight cX9_carriedWeight 3 (some .int) 0 := ⟨mg4 174 rfl rfl, mg4 175 rfl rfl, mg1 9 rfl rfl, mg4 176 rfl rfl, nc_RX9.1, nc_RX9.2, pd_6⟩
theorem cy_X9_place : CY yX9_place cX9_place 4 none 3 := ⟨mg4 24 rfl rfl, mg0 13 rfl rfl, mg1 9 rfl rfl, mg4 25 rfl rfl, nc_RX9.1, nc_RX9.2, pd_12⟩
theorem cy_X9_growOlder : CY yX9_growOlder cX9_growOlder 4 none 2 := ⟨mg5 5 rfl rfl, mg5 6 rfl rfl, mg1 9 rfl rfl, mg5 7 rfl rfl, nc_RX9.1, nc_RX9.2, pd_13⟩
theorem cy_X9_longestRemembered : CY yX9_longestRemembered cX9_longestRemembered 4 (some .int) 0 := ⟨mg4 210 rfl rfl, mg4 211 rfl rfl, mg1 9 rfl rfl, mg4 212 rfl rfl, nc_RX9.1, nc_RX9.2, pd_6⟩
theorem cy_X9_takeUp : CY yX9_takeUp cX9_takeUp 5 none 2 := ⟨mg5 1 rfl rfl, mg5 2 rfl rfl, mg1 9 rfl rfl, mg5 3 rfl rfl, nc_RX9.1, nc_RX9.2, pd_2⟩
theorem cy_X4_passHour : CY yX4_passHour cX4_passHour 5 (some .boolean) 0 := ⟨mg4 230 rfl rfl, mg4 231 rfl rfl, mg1 8 rfl rfl, mg4 232 rfl rfl, nc_RX4.1, nc_RX4.2, pd_0⟩
theorem cy_X4_hoursTillTurn : CY yX4_hoursTillTurn cX4_hoursTillTurn 3 (some .int) 1 := ⟨mg5 73 rfl rfl, mg5 74 rfl rfl, mg1 8 rfl rfl, mg5 75 rfl rfl, nc_RX4.1, nc_RX4.2, pd_7⟩
theorem cy_X9_throwInto : CY yX9_throwInto cX9_throwInto 3 none 2 := ⟨mg4 27 rfl rfl, mg4 28 rfl rfl, mg1 9 rfl rfl, mg4 29 rfl rfl, nc_RX9.1, nc_RX9.2, pd_2⟩
theorem cy_X0_cellToTurnIn : CY yX0_cellToTurnIn cX0_cellToTurnIn 6 (some .int) 4 := ⟨mg5 111 rfl rfl, mg5 112 rfl rfl, mg1 14 rfl rfl, mg5 113 rfl rfl, nc_RX0.1, nc_RX0.2, pd_14⟩
theorem cy_X4_passHours : CY yX4_passHours cX4_passHours 4 (some .int) 1 := ⟨mg4 226 rfl rfl, mg4 227 rfl rfl, mg1 8 rfl rfl, mg4 228 rfl rfl, nc_RX4.1, nc_RX4.2, pd_7⟩
theorem cy_X0_findDrive : CY yX0_findDrive cX0_findDrive 10 none 6 := ⟨mg5 149 rfl rfl, mg5 150 rfl rfl, mg1 14 rfl rfl, mg5 151 rfl rfl, nc_RX0.1, nc_RX0.2, pd_15⟩
theorem cy_X0_fitsAll : CYs yX0_fitsAll cX0_fitsAll 5 (some .boolean) 3 := ⟨mg5 178 rfl rfl, mg1 14 rfl rfl, mg5 179 rfl rfl, nc_RX0.1, nc_RX0.2, pd_16⟩
theorem cy_X0_findMinds : CY yX0_findMinds cX0_findMinds 8 none 5 := ⟨mg5 174 rfl rfl, mg5 175 rfl rfl, mg1 14 rfl rfl, mg5 176 rfl rfl, nc_RX0.1, nc_RX0.2, pd_17⟩
theorem cy_X4_hoursTillHome : CY yX4_hoursTillHome cX4_hoursTillHome 4 (some .int) 2 := ⟨mg5 57 rfl rfl, mg5 58 rfl rfl, mg1 8 rfl rfl, mg5 59 rfl rfl, nc_RX4.1, nc_RX4.2, pd_18⟩
theorem cy_X0_findSoonest : CY yX0_findSoonest cX0_findSoonest 6 none 3 := ⟨mg5 132 rfl rfl, mg5 133 rfl rfl, mg1 14 rfl rfl, mg5 134 rfl rfl, nc_RX0.1, nc_RX0.2, pd_19⟩
theorem cy_X0_greatestMind : CY yX0_greatestMind cX0_greatestMind 2 (some .int) 0 := ⟨mg5 193 rfl rfl, mg5 194 rfl rfl, mg1 14 rfl rfl, mg5 195 rfl rfl, nc_RX0.1, nc_RX0.2, pd_6⟩
theorem cy_X0_leastMind : CY yX0_leastMind cX0_leastMind 2 (some .int) 0 := ⟨mg5 189 rfl rfl, mg5 190 rfl rfl, mg1 14 rfl rfl, mg5 191 rfl rfl, nc_RX0.1, nc_RX0.2, pd_6⟩
theorem cy_X9_pictureFrom : CY yX9_pictureFrom cX9_pictureFrom 5 (some .long) 1 := ⟨mg5 102 rfl rfl, mg5 103 rfl rfl, mg1 9 rfl rfl, mg5 104 rfl rfl, nc_RX9.1, nc_RX9.2, pd_20⟩
theorem cy_X0_ringOf : CY yX0_ringOf cX0_ringOf 4 (some .int) 1 := ⟨mg5 98 rfl rfl, mg5 99 rfl rfl, mg1 14 rfl rfl, mg5 100 rfl rfl, nc_RX0.1, nc_RX0.2, pd_21⟩
theorem cy_X0_sail : CY yX0_sail cX0_sail 5 none 3 := ⟨mg5 239 rfl rfl, mg6 0 rfl rfl, mg1 14 rfl rfl, mg6 1 rfl rfl, nc_RX0.1, nc_RX0.2, pd_22⟩
theorem cy_X1_addEntry : CY yX1_addEntry cX1_addEntry 5 (some .int) 4 := ⟨mg4 94 rfl rfl, mg4 95 rfl rfl, mg1 11 rfl rfl, mg4 96 rfl rfl, nc_RX1.1, nc_RX1.2, pd_23⟩
theorem cy_X1_clear : CY yX1_clear cX1_clear 1 none 0 := ⟨mg4 69 rfl rfl, mg4 70 rfl rfl, mg1 11 rfl rfl, mg4 71 rfl rfl, nc_RX1.1, nc_RX1.2, pd_24⟩
theorem cy_X1_copyFrom : CY yX1_copyFrom cX1_copyFrom 2 none 1 := ⟨mg4 149 rfl rfl, mg4 150 rfl rfl, mg1 11 rfl rfl, mg4 151 rfl rfl, nc_RX1.1, nc_RX1.2, pd_25⟩
theorem cy_X1_drawsLots : CY yX1_drawsLots cX1_drawsLots 2 (some .boolean) 0 := ⟨mg6 136 rfl rfl, mg6 137 rfl rfl, mg1 11 rfl rfl, mg6 138 rfl rfl, nc_RX1.1, nc_RX1.2, pd_0⟩
theorem cy_X1_pair : CY yX1_pair cX1_pair 3 none 2 := ⟨mg4 98 rfl rfl, mg4 99 rfl rfl, mg1 11 rfl rfl, mg4 100 rfl rfl, nc_RX1.1, nc_RX1.2, pd_2⟩
theorem cy_X2_opens : CYs yX2_opens cX2_opens 1 (some .boolean) 1 := ⟨mg4 110 rfl rfl, mg1 13 rfl rfl, mg4 111 rfl rfl, nc_RX2.1, nc_RX2.2, pd_26⟩
theorem cy_X2_addStep : CY yX2_addStep cX2_addStep 3 none 2 := ⟨mg4 145 rfl rfl, mg0 25 rfl rfl, mg1 13 rfl rfl, mg4 146 rfl rfl, nc_RX2.1, nc_RX2.2, pd_2⟩
theorem cy_X2_closeLatest : CY yX2_closeLatest cX2_closeLatest 1 none 0 := ⟨mg4 91 rfl rfl, mg0 17 rfl rfl, mg1 13 rfl rfl, mg4 92 rfl rfl, nc_RX2.1, nc_RX2.2, pd_24⟩
theorem cy_X2_isStep : CYs yX2_isStep cX2_isStep 1 (some .boolean) 1 := ⟨mg4 106 rfl rfl, mg1 13 rfl rfl, mg4 107 rfl rfl, nc_RX2.1, nc_RX2.2, pd_26⟩
theorem cy_X2_isTest : CYs yX2_isTest cX2_isTest 1 (some .boolean) 1 := ⟨mg4 128 rfl rfl, mg1 13 rfl rfl, mg4 129 rfl rfl, nc_RX2.1, nc_RX2.2, pd_26⟩
theorem cy_X8_fail : CY yX8_fail cX8_fail 2 none 1 := ⟨mg3 208 rfl rfl, mg3 209 rfl rfl, mg1 3 rfl rfl, mg3 210 rfl rfl, nc_RX8.1, nc_RX8.2, pd_27⟩
theorem cy_X2_lookAtStep : CY yX2_lookAtStep cX2_lookAtStep 2 none 1 := ⟨mg4 103 rfl rfl, mg0 18 rfl rfl, mg1 13 rfl rfl, mg4 104 rfl rfl, nc_RX2.1, nc_RX2.2, pd_27⟩
theorem cy_X8_isDigit : CYs yX8_isDigit cX8_isDigit 1 (some .boolean) 1 := ⟨mg3 176 rfl rfl, mg1 3 rfl rfl, mg3 177 rfl rfl, nc_RX8.1, nc_RX8.2, pd_26⟩
theorem cy_X8_isLetter : CYs yX8_isLetter cX8_isLetter 1 (some .boolean) 1 := ⟨mg3 169 rfl rfl, mg1 3 rfl rfl, mg3 170 rfl rfl, nc_RX8.1, nc_RX8.2, pd_26⟩
theorem cy_X8_takeNumber : CY yX8_takeNumber cX8_takeNumber 2 none 0 := ⟨mg3 180 rfl rfl, mg0 5 rfl rfl, mg1 3 rfl rfl, mg3 181 rfl rfl, nc_RX8.1, nc_RX8.2, pd_24⟩
theorem cy_X8_withLetter : CYs yX8_withLetter cX8_withLetter 3 (some .long) 2 := ⟨mg1 108 rfl rfl, mg1 3 rfl rfl, mg1 109 rfl rfl, nc_RX8.1, nc_RX8.2, pd_28⟩
theorem cy_X8_takeWord : CY yX8_takeWord cX8_takeWord 4 none 0 := ⟨mg3 173 rfl rfl, mg0 4 rfl rfl, mg1 3 rfl rfl, mg3 174 rfl rfl, nc_RX8.1, nc_RX8.2, pd_24⟩
theorem cy_X8_advance : CY yX8_advance cX8_advance 2 none 0 := ⟨mg3 165 rfl rfl, mg3 166 rfl rfl, mg1 3 rfl rfl, mg3 167 rfl rfl, nc_RX8.1, nc_RX8.2, pd_24⟩
theorem cy_X2_takeCompares : CY yX2_takeCompares cX2_takeCompares 2 (some .int) 0 := ⟨mg4 141 rfl rfl, mg0 24 rfl rfl, mg1 13 rfl rfl, mg4 142 rfl rfl, nc_RX2.1, nc_RX2.2, pd_6⟩
theorem cy_X7_numberOf : CY yX7_numberOf cX7_numberOf 4 (some .int) 1 := ⟨mg4 11 rfl rfl, mg4 12 rfl rfl, mg1 10 rfl rfl, mg4 13 rfl rfl, nc_RX7.1, nc_RX7.2, pd_29⟩
theorem cy_X8_nameHere : CY yX8_nameHere cX8_nameHere 1 (some .long) 0 := ⟨mg4 3 rfl rfl, mg4 4 rfl rfl, mg1 3 rfl rfl, mg4 5 rfl rfl, nc_RX8.1, nc_RX8.2, pd_30⟩
theorem cy_X2_takeMill : CY yX2_takeMill cX2_takeMill 2 (some .int) 0 := ⟨mg4 136 rfl rfl, mg0 23 rfl rfl, mg1 13 rfl rfl, mg4 137 rfl rfl, nc_RX2.1, nc_RX2.2, pd_6⟩
theorem cy_X9_numberOf : CY yX9_numberOf cX9_numberOf 4 (some .int) 1 := ⟨mg4 7 rfl rfl, mg4 8 rfl rfl, mg1 9 rfl rfl, mg4 9 rfl rfl, nc_RX9.1, nc_RX9.2, pd_29⟩
theorem cy_X2_takeThing : CY yX2_takeThing cX2_takeThing 2 (some .int) 0 := ⟨mg4 119 rfl rfl, mg0 20 rfl rfl, mg1 13 rfl rfl, mg4 120 rfl rfl, nc_RX2.1, nc_RX2.2, pd_6⟩
theorem cy_X8_keyword : CY yX8_keyword cX8_keyword 1 (some .int) 0 := ⟨mg3 196 rfl rfl, mg3 197 rfl rfl, mg1 3 rfl rfl, mg3 198 rfl rfl, nc_RX8.1, nc_RX8.2, pd_6⟩
theorem cy_X2_takeWay : CY yX2_takeWay cX2_takeWay 2 (some .int) 0 := ⟨mg4 132 rfl rfl, mg0 22 rfl rfl, mg1 13 rfl rfl, mg4 133 rfl rfl, nc_RX2.1, nc_RX2.2, pd_6⟩
theorem cy_X8_takeNumberOf : CY yX8_takeNumberOf cX8_takeNumberOf 4 (some .int) 2 := ⟨mg3 217 rfl rfl, mg3 218 rfl rfl, mg1 3 rfl rfl, mg3 219 rfl rfl, nc_RX8.1, nc_RX8.2, pd_18⟩
theorem cy_X2_readTest : CY yX2_readTest cX2_readTest 4 (some .int) 0 := ⟨mg4 125 rfl rfl, mg0 21 rfl rfl, mg1 13 rfl rfl, mg4 126 rfl rfl, nc_RX2.1, nc_RX2.2, pd_6⟩
theorem cy_X2_readRest : CY yX2_readRest cX2_readRest 2 (some .int) 1 := ⟨mg4 114 rfl rfl, mg0 19 rfl rfl, mg1 13 rfl rfl, mg4 115 rfl rfl, nc_RX2.1, nc_RX2.2, pd_7⟩
theorem cy_X8_isGoingOn : CY yX8_isGoingOn cX8_isGoingOn 1 (some .boolean) 0 := ⟨mg3 188 rfl rfl, mg3 189 rfl rfl, mg1 3 rfl rfl, mg3 190 rfl rfl, nc_RX8.1, nc_RX8.2, pd_0⟩
theorem cy_X8_takeSemicolon : CY yX8_takeSemicolon cX8_takeSemicolon 1 none 0 := ⟨mg4 43 rfl rfl, mg4 44 rfl rfl, mg1 3 rfl rfl, mg4 45 rfl rfl, nc_RX8.1, nc_RX8.2, pd_24⟩
theorem cy_X2_readFor : CY yX2_readFor cX2_readFor 5 none 2 := ⟨mg4 82 rfl rfl, mg4 83 rfl rfl, mg1 13 rfl rfl, mg4 84 rfl rfl, nc_RX2.1, nc_RX2.2, pd_31⟩
theorem cy_X3_comesToMindTooLate : CY yX3_comesToMindTooLate cX3_comesToMindTooLate 2 (some .boolean) 1 := ⟨mg6 36 rfl rfl, mg0 38 rfl rfl, mg1 15 rfl rfl, mg6 37 rfl rfl, nc_RX3.1, nc_RX3.2, pd_26⟩
theorem cy_X3_leadIn : CY yX3_leadIn cX3_leadIn 4 (some .int) 1 := ⟨mg6 28 rfl rfl, mg0 36 rfl rfl, mg1 15 rfl rfl, mg6 29 rfl rfl, nc_RX3.1, nc_RX3.2, pd_21⟩
theorem cy_X3_takeTurn : CYs yX3_takeTurn cX3_takeTurn 5 none 4 := ⟨mg6 21 rfl rfl, mg1 15 rfl rfl, mg6 22 rfl rfl, nc_RX3.1, nc_RX3.2, pd_32⟩
theorem cy_X9_isFree : CY yX9_isFree cX9_isFree 2 (some .boolean) 1 := ⟨mg4 190 rfl rfl, mg4 191 rfl rfl, mg1 9 rfl rfl, mg4 192 rfl rfl, nc_RX9.1, nc_RX9.2, pd_26⟩
theorem cy_X3_worstReply : CY yX3_worstReply cX3_worstReply 4 (some .int) 0 := ⟨mg6 32 rfl rfl, mg0 37 rfl rfl, mg1 15 rfl rfl, mg6 33 rfl rfl, nc_RX3.1, nc_RX3.2, pd_6⟩
theorem cy_X3_weighMove : CY yX3_weighMove cX3_weighMove 4 none 2 := ⟨mg6 18 rfl rfl, mg0 35 rfl rfl, mg1 15 rfl rfl, mg6 19 rfl rfl, nc_RX3.1, nc_RX3.2, pd_2⟩
theorem cy_X3_play : CY yX3_play cX3_play 7 none 4 := ⟨mg6 11 rfl rfl, mg6 12 rfl rfl, mg1 15 rfl rfl, mg6 13 rfl rfl, nc_RX3.1, nc_RX3.2, pd_33⟩
theorem cy_X4_clear : CY yX4_clear cX4_clear 1 none 0 := ⟨mg1 239 rfl rfl, mg2 0 rfl rfl, mg1 8 rfl rfl, mg2 1 rfl rfl, nc_RX4.1, nc_RX4.2, pd_24⟩
theorem cy_X9_setThatIs : CY yX9_setThatIs cX9_setThatIs 4 (some .int) 1 := ⟨mg4 162 rfl rfl, mg4 163 rfl rfl, mg1 9 rfl rfl, mg4 164 rfl rfl, nc_RX9.1, nc_RX9.2, pd_7⟩
theorem cy_X9_weightOf : CY yX9_weightOf cX9_weightOf 4 (some .int) 1 := ⟨mg5 220 rfl rfl, mg5 221 rfl rfl, mg1 9 rfl rfl, mg5 222 rfl rfl, nc_RX9.1, nc_RX9.2, pd_7⟩
theorem cy_X4_heaviestSet : CY yX4_heaviestSet cX4_heaviestSet 8 (some .int) 0 := ⟨mg5 215 rfl rfl, mg5 216 rfl rfl, mg1 8 rfl rfl, mg5 217 rfl rfl, nc_RX4.1, nc_RX4.2, pd_6⟩
theorem cy_X9_areQuiet : CY yX9_areQuiet cX9_areQuiet 2 (some .boolean) 0 := ⟨mg5 89 rfl rfl, mg5 90 rfl rfl, mg1 9 rfl rfl, mg5 91 rfl rfl, nc_RX9.1, nc_RX9.2, pd_0⟩
theorem cy_X4_hoursTillQuiet : CY yX4_hoursTillQuiet cX4_hoursTillQuiet 3 (some .int) 1 := ⟨mg5 85 rfl rfl, mg5 86 rfl rfl, mg1 8 rfl rfl, mg5 87 rfl rfl, nc_RX4.1, nc_RX4.2, pd_7⟩
theorem cy_X5_wasTold : CY yX5_wasTold cX5_wasTold 2 (some .boolean) 1 := ⟨mg3 205 rfl rfl, mg0 8 rfl rfl, mg1 12 rfl rfl, mg3 206 rfl rfl, nc_RX5.1, nc_RX5.2, pd_26⟩
theorem cy_X5_takeOnce : CY yX5_takeOnce cX5_takeOnce 2 none 1 := ⟨mg3 213 rfl rfl, mg0 9 rfl rfl, mg1 12 rfl rfl, mg3 214 rfl rfl, nc_RX5.1, nc_RX5.2, pd_27⟩
theorem cy_X5_readLong : CY yX5_readLong cX5_readLong 1 none 0 := ⟨mg3 201 rfl rfl, mg0 7 rfl rfl, mg1 12 rfl rfl, mg3 202 rfl rfl, nc_RX5.1, nc_RX5.2, pd_24⟩
theorem cy_X5_takeKind : CY yX5_takeKind cX5_takeKind 2 (some .int) 0 := ⟨mg4 36 rfl rfl, mg0 15 rfl rfl, mg1 12 rfl rfl, mg4 37 rfl rfl, nc_RX5.1, nc_RX5.2, pd_6⟩
theorem cy_X5_takeNewName : CY yX5_takeNewName cX5_takeNewName 3 (some .long) 0 := ⟨mg4 0 rfl rfl, mg0 12 rfl rfl, mg1 12 rfl rfl, mg4 1 rfl rfl, nc_RX5.1, nc_RX5.2, pd_30⟩
theorem cy_X7_addMill : CY yX7_addMill cX7_addMill 5 (some .int) 3 := ⟨mg4 39 rfl rfl, mg4 40 rfl rfl, mg1 10 rfl rfl, mg4 41 rfl rfl, nc_RX7.1, nc_RX7.2, pd_34⟩
theorem cy_X8_isWord : CY yX8_isWord cX8_isWord 2 (some .boolean) 1 := ⟨mg3 226 rfl rfl, mg3 227 rfl rfl, mg1 3 rfl rfl, mg3 228 rfl rfl, nc_RX8.1, nc_RX8.2, pd_26⟩
theorem cy_X8_takeKeyword : CY yX8_takeKeyword cX8_takeKeyword 2 none 1 := ⟨mg3 234 rfl rfl, mg3 235 rfl rfl, mg1 3 rfl rfl, mg3 236 rfl rfl, nc_RX8.1, nc_RX8.2, pd_27⟩
theorem cy_X5_readMill : CY yX5_readMill cX5_readMill 4 none 0 := ⟨mg4 32 rfl rfl, mg0 14 rfl rfl, mg1 12 rfl rfl, mg4 33 rfl rfl, nc_RX5.1, nc_RX5.2, pd_24⟩
theorem cy_X5_readStream : CY yX5_readStream cX5_readStream 1 none 0 := ⟨mg3 223 rfl rfl, mg0 10 rfl rfl, mg1 12 rfl rfl, mg3 224 rfl rfl, nc_RX5.1, nc_RX5.2, pd_24⟩
theorem cy_X9_bringAshore : CY yX9_bringAshore cX9_bringAshore 2 none 1 := ⟨mg4 19 rfl rfl, mg4 20 rfl rfl, mg1 9 rfl rfl, mg4 21 rfl rfl, nc_RX9.1, nc_RX9.2, pd_27⟩
theorem cy_X9_addThing : CY yX9_addThing cX9_addThing 6 (some .int) 4 := ⟨mg4 15 rfl rfl, mg4 16 rfl rfl, mg1 9 rfl rfl, mg4 17 rfl rfl, nc_RX9.1, nc_RX9.2, pd_35⟩
theorem cy_X5_readThing : CY yX5_readThing cX5_readThing 7 none 0 := ⟨mg3 231 rfl rfl, mg0 11 rfl rfl, mg1 12 rfl rfl, mg3 232 rfl rfl, nc_RX5.1, nc_RX5.2, pd_24⟩
theorem cy_X5_readPart : CY yX5_readPart cX5_readPart 1 none 0 := ⟨mg3 193 rfl rfl, mg0 6 rfl rfl, mg1 12 rfl rfl, mg3 194 rfl rfl, nc_RX5.1, nc_RX5.2, pd_24⟩
theorem cy_X5_readInto : CY yX5_readInto cX5_readInto 4 none 2 := ⟨mg3 183 rfl rfl, mg3 184 rfl rfl, mg1 12 rfl rfl, mg3 185 rfl rfl, nc_RX5.1, nc_RX5.2, pd_31⟩
theorem cy_X6_behindEnd : CY yX6_behindEnd cX6_behindEnd 3 (some .int) 1 := ⟨mg6 88 rfl rfl, mg0 40 rfl rfl, mg1 16 rfl rfl, mg6 89 rfl rfl, nc_RX6.1, nc_RX6.2, pd_7⟩
theorem cy_X9_isLying : CY yX9_isLying cX9_isLying 2 (some .boolean) 1 := ⟨mg4 194 rfl rfl, mg4 195 rfl rfl, mg1 9 rfl rfl, mg4 196 rfl rfl, nc_RX9.1, nc_RX9.2, pd_26⟩
theorem cy_X6_fetchThing : CY yX6_fetchThing cX6_fetchThing 2 none 1 := ⟨mg6 107 rfl rfl, mg0 44 rfl rfl, mg1 16 rfl rfl, mg6 108 rfl rfl, nc_RX6.1, nc_RX6.2, pd_27⟩
theorem cy_X6_compares : CYs yX6_compares cX6_compares 3 (some .boolean) 3 := ⟨mg6 125 rfl rfl, mg1 16 rfl rfl, mg6 126 rfl rfl, nc_RX6.1, nc_RX6.2, pd_36⟩
theorem cy_X6_holds : CY yX6_holds cX6_holds 3 (some .boolean) 1 := ⟨mg6 122 rfl rfl, mg0 47 rfl rfl, mg1 16 rfl rfl, mg6 123 rfl rfl, nc_RX6.1, nc_RX6.2, pd_26⟩
theorem cy_X6_letPass : CY yX6_letPass cX6_letPass 2 none 1 := ⟨mg6 96 rfl rfl, mg0 42 rfl rfl, mg1 16 rfl rfl, mg6 97 rfl rfl, nc_RX6.1, nc_RX6.2, pd_27⟩
theorem cy_X6_draw : CY yX6_draw cX6_draw 2 (some .int) 1 := ⟨mg6 117 rfl rfl, mg0 46 rfl rfl, mg1 16 rfl rfl, mg6 118 rfl rfl, nc_RX6.1, nc_RX6.2, pd_7⟩
theorem cy_X6_throwThing : CY yX6_throwThing cX6_throwThing 3 none 2 := ⟨mg6 101 rfl rfl, mg0 43 rfl rfl, mg1 16 rfl rfl, mg6 102 rfl rfl, nc_RX6.1, nc_RX6.2, pd_2⟩
theorem cy_X6_throwAny : CY yX6_throwAny cX6_throwAny 3 none 0 := ⟨mg6 113 rfl rfl, mg0 45 rfl rfl, mg1 16 rfl rfl, mg6 114 rfl rfl, nc_RX6.1, nc_RX6.2, pd_24⟩
theorem cy_X6_behindStep : CY yX6_behindStep cX6_behindStep 3 (some .int) 1 := ⟨mg6 92 rfl rfl, mg0 41 rfl rfl, mg1 16 rfl rfl, mg6 93 rfl rfl, nc_RX6.1, nc_RX6.2, pd_7⟩
theorem cy_X6_liveThrough : CY yX6_liveThrough cX6_liveThrough 6 none 3 := ⟨mg6 82 rfl rfl, mg6 83 rfl rfl, mg1 16 rfl rfl, mg6 84 rfl rfl, nc_RX6.1, nc_RX6.2, pd_37⟩
theorem cy_X7_groundInAll : CY yX7_groundInAll cX7_groundInAll 3 (some .int) 0 := ⟨mg6 48 rfl rfl, mg6 49 rfl rfl, mg1 10 rfl rfl, mg6 50 rfl rfl, nc_RX7.1, nc_RX7.2, pd_6⟩
theorem cy_X8_append : CY yX8_append cX8_append 3 none 1 := ⟨mg3 143 rfl rfl, mg3 144 rfl rfl, mg1 3 rfl rfl, mg3 145 rfl rfl, nc_RX8.1, nc_RX8.2, pd_27⟩
theorem cy_X8_hasRoomFor : CY yX8_hasRoomFor cX8_hasRoomFor 2 (some .boolean) 1 := ⟨mg3 139 rfl rfl, mg3 140 rfl rfl, mg1 3 rfl rfl, mg3 141 rfl rfl, nc_RX8.1, nc_RX8.2, pd_26⟩
theorem cy_X8_open : CY yX8_open cX8_open 2 none 1 := ⟨mg3 155 rfl rfl, mg3 156 rfl rfl, mg1 3 rfl rfl, mg3 157 rfl rfl, nc_RX8.1, nc_RX8.2, pd_27⟩
theorem cy_X9_homesInAll : CY yX9_homesInAll cX9_homesInAll 3 (some .int) 0 := ⟨mg6 78 rfl rfl, mg6 79 rfl rfl, mg1 9 rfl rfl, mg6 80 rfl rfl, nc_RX9.1, nc_RX9.2, pd_6⟩
theorem cy_X9_isRemembered : CY yX9_isRemembered cX9_isRemembered 2 (some .boolean) 1 := ⟨mg4 170 rfl rfl, mg4 171 rfl rfl, mg1 9 rfl rfl, mg4 172 rfl rfl, nc_RX9.1, nc_RX9.2, pd_26⟩
theorem cy_X9_setRemembered : CY yX9_setRemembered cX9_setRemembered 3 (some .int) 0 := ⟨mg4 166 rfl rfl, mg4 167 rfl rfl, mg1 9 rfl rfl, mg4 168 rfl rfl, nc_RX9.1, nc_RX9.2, pd_6⟩
theorem cy_X10_cut : CYs yX10_cut cX10_cut 3 (some .long) 2 := ⟨mg3 120 rfl rfl, mg1 2 rfl rfl, mg3 121 rfl rfl, nc_RX10.1, nc_RX10.2, pd_38⟩
theorem cy_X10_isMissing : CY yX10_isMissing cX10_isMissing 2 (some .boolean) 1 := ⟨mg3 112 rfl rfl, mg3 113 rfl rfl, mg1 2 rfl rfl, mg3 114 rfl rfl, nc_RX10.1, nc_RX10.2, pd_26⟩
theorem cy_X10_isTray : CY yX10_isTray cX10_isTray 2 (some .boolean) 1 := ⟨mg3 108 rfl rfl, mg3 109 rfl rfl, mg1 2 rfl rfl, mg3 110 rfl rfl, nc_RX10.1, nc_RX10.2, pd_26⟩
theorem cy_X10_lay : CY yX10_lay cX10_lay 5 none 3 := ⟨mg3 92 rfl rfl, mg3 93 rfl rfl, mg1 2 rfl rfl, mg3 94 rfl rfl, nc_RX10.1, nc_RX10.2, pd_12⟩
theorem cy_X10_put : CY yX10_put cX10_put 5 none 3 := ⟨mg3 116 rfl rfl, mg3 117 rfl rfl, mg1 2 rfl rfl, mg3 118 rfl rfl, nc_RX10.1, nc_RX10.2, pd_39⟩
theorem cy_X11_accept : CY yX11_accept cX11_accept 1 (some .boolean) 0 := ⟨mg3 97 rfl rfl, mg0 1 rfl rfl, mg1 1 rfl rfl, mg3 98 rfl rfl, nc_RX11.1, nc_RX11.2, pd_0⟩
theorem cy_X11_given : CY yX11_given cX11_given 2 (some .int) 1 := ⟨mg4 74 rfl rfl, mg0 16 rfl rfl, mg1 1 rfl rfl, mg4 75 rfl rfl, nc_RX11.1, nc_RX11.2, pd_7⟩
theorem cy_X11_refused : CY yX11_refused cX11_refused 2 (some .int) 1 := ⟨mg3 152 rfl rfl, mg0 3 rfl rfl, mg1 1 rfl rfl, mg3 153 rfl rfl, nc_RX11.1, nc_RX11.2, pd_7⟩
theorem cy_X11_givenOrNone : CY yX11_givenOrNone cX11_givenOrNone 2 (some .int) 1 := ⟨mg5 62 rfl rfl, mg0 29 rfl rfl, mg1 1 rfl rfl, mg5 63 rfl rfl, nc_RX11.1, nc_RX11.2, pd_7⟩
theorem cy_X11_isThing : CY yX11_isThing cX11_isThing 2 (some .boolean) 1 := ⟨mg4 183 rfl rfl, mg0 26 rfl rfl, mg1 1 rfl rfl, mg4 184 rfl rfl, nc_RX11.1, nc_RX11.2, pd_26⟩
theorem cy_X11_outside : CYs yX11_outside cX11_outside 3 (some .boolean) 3 := ⟨mg3 85 rfl rfl, mg1 1 rfl rfl, mg3 86 rfl rfl, nc_RX11.1, nc_RX11.2, pd_36⟩
theorem cy_X11_aim : CY yX11_aim cX11_aim 3 (some .int) 2 := ⟨mg5 107 rfl rfl, mg5 108 rfl rfl, mg1 1 rfl rfl, mg5 109 rfl rfl, nc_RX11.1, nc_RX11.2, pd_18⟩
theorem cy_X11_whyTooFew : CY yX11_whyTooFew cX11_whyTooFew 3 (some .int) 2 := ⟨mg5 167 rfl rfl, mg0 33 rfl rfl, mg1 1 rfl rfl, mg5 168 rfl rfl, nc_RX11.1, nc_RX11.2, pd_18⟩
theorem cy_X11_whyNotMinded : CY yX11_whyNotMinded cX11_whyNotMinded 5 (some .int) 3 := ⟨mg5 163 rfl rfl, mg0 32 rfl rfl, mg1 1 rfl rfl, mg5 164 rfl rfl, nc_RX11.1, nc_RX11.2, pd_40⟩
theorem cy_X11_ask : CY yX11_ask cX11_ask 5 (some .int) 3 := ⟨mg5 197 rfl rfl, mg5 198 rfl rfl, mg1 1 rfl rfl, mg5 199 rfl rfl, nc_RX11.1, nc_RX11.2, pd_40⟩
theorem cy_X11_atIn : CY yX11_atIn cX11_atIn 2 (some .int) 1 := ⟨mg5 45 rfl rfl, mg5 46 rfl rfl, mg1 1 rfl rfl, mg5 47 rfl rfl, nc_RX11.1, nc_RX11.2, pd_7⟩
theorem cy_X11_bottom : CY yX11_bottom cX11_bottom 1 (some .long) 0 := ⟨mg3 77 rfl rfl, mg3 78 rfl rfl, mg1 1 rfl rfl, mg3 79 rfl rfl, nc_RX11.1, nc_RX11.2, pd_30⟩
theorem cy_X11_isCell : CY yX11_isCell cX11_isCell 2 (some .boolean) 1 := ⟨mg5 14 rfl rfl, mg0 28 rfl rfl, mg1 1 rfl rfl, mg5 15 rfl rfl, nc_RX11.1, nc_RX11.2, pd_26⟩
theorem cy_X11_build : CY yX11_build cX11_build 3 (some .int) 2 := ⟨mg5 36 rfl rfl, mg5 37 rfl rfl, mg1 1 rfl rfl, mg5 38 rfl rfl, nc_RX11.1, nc_RX11.2, pd_18⟩
theorem cy_X11_carriedIn : CY yX11_carriedIn cX11_carriedIn 2 (some .int) 1 := ⟨mg5 49 rfl rfl, mg5 50 rfl rfl, mg1 1 rfl rfl, mg5 51 rfl rfl, nc_RX11.1, nc_RX11.2, pd_7⟩
theorem cy_X11_cellOf : CY yX11_cellOf cX11_cellOf 2 (some .int) 1 := ⟨mg4 186 rfl rfl, mg4 187 rfl rfl, mg1 1 rfl rfl, mg4 188 rfl rfl, nc_RX11.1, nc_RX11.2, pd_7⟩
theorem cy_X11_commonDivisor : CYs yX11_commonDivisor cX11_commonDivisor 11 (some .long) 2 := ⟨mg6 56 rfl rfl, mg1 1 rfl rfl, mg6 57 rfl rfl, nc_RX11.1, nc_RX11.2, pd_41⟩
theorem cy_X11_copyHours : CY yX11_copyHours cX11_copyHours 5 (some .int) 1 := ⟨mg6 70 rfl rfl, mg6 71 rfl rfl, mg1 1 rfl rfl, mg6 72 rfl rfl, nc_RX11.1, nc_RX11.2, pd_7⟩
theorem cy_X11_days : CY yX11_days cX11_days 2 (some .int) 1 := ⟨mg4 77 rfl rfl, mg4 78 rfl rfl, mg1 1 rfl rfl, mg4 79 rfl rfl, nc_RX11.1, nc_RX11.2, pd_7⟩
theorem cy_X11_isMill : CY yX11_isMill cX11_isMill 2 (some .boolean) 1 := ⟨mg4 203 rfl rfl, mg0 27 rfl rfl, mg1 1 rfl rfl, mg4 204 rfl rfl, nc_RX11.1, nc_RX11.2, pd_26⟩
theorem cy_X11_whyNotDriven : CY yX11_whyNotDriven cX11_whyNotDriven 5 (some .int) 4 := ⟨mg5 146 rfl rfl, mg0 31 rfl rfl, mg1 1 rfl rfl, mg5 147 rfl rfl, nc_RX11.1, nc_RX11.2, pd_23⟩
theorem cy_X11_drive : CY yX11_drive cX11_drive 6 (some .int) 4 := ⟨mg5 141 rfl rfl, mg5 142 rfl rfl, mg1 1 rfl rfl, mg5 143 rfl rfl, nc_RX11.1, nc_RX11.2, pd_23⟩
theorem cy_X11_driveCell : CY yX11_driveCell cX11_driveCell 7 (some .int) 5 := ⟨mg5 154 rfl rfl, mg5 155 rfl rfl, mg1 1 rfl rfl, mg5 156 rfl rfl, nc_RX11.1, nc_RX11.2, pd_42⟩
theorem cy_X11_fault : CY yX11_fault cX11_fault 2 (some .int) 1 := ⟨mg4 154 rfl rfl, mg4 155 rfl rfl, mg1 1 rfl rfl, mg4 156 rfl rfl, nc_RX11.1, nc_RX11.2, pd_7⟩
theorem cy_X11_feed : CY yX11_feed cX11_feed 6 (some .int) 5 := ⟨mg3 135 rfl rfl, mg3 136 rfl rfl, mg1 1 rfl rfl, mg3 137 rfl rfl, nc_RX11.1, nc_RX11.2, pd_42⟩
theorem cy_X11_fetch : CY yX11_fetch cX11_fetch 3 (some .int) 1 := ⟨mg5 18 rfl rfl, mg5 19 rfl rfl, mg1 1 rfl rfl, mg5 20 rfl rfl, nc_RX11.1, nc_RX11.2, pd_7⟩
theorem cy_X11_game : CY yX11_game cX11_game 4 (some .int) 3 := ⟨mg6 7 rfl rfl, mg6 8 rfl rfl, mg1 1 rfl rfl, mg6 9 rfl rfl, nc_RX11.1, nc_RX11.2, pd_40⟩
theorem cy_X11_glen : CY yX11_glen cX11_glen 2 (some .int) 1 := ⟨mg3 147 rfl rfl, mg3 148 rfl rfl, mg1 1 rfl rfl, mg3 149 rfl rfl, nc_RX11.1, nc_RX11.2, pd_7⟩
theorem cy_X11_goal : CY yX11_goal cX11_goal 1 (some .int) 0 := ⟨mg4 206 rfl rfl, mg4 207 rfl rfl, mg1 1 rfl rfl, mg4 208 rfl rfl, nc_RX11.1, nc_RX11.2, pd_6⟩
theorem cy_X11_goalThing : CY yX11_goalThing cX11_goalThing 2 (some .int) 0 := ⟨mg4 218 rfl rfl, mg4 219 rfl rfl, mg1 1 rfl rfl, mg4 220 rfl rfl, nc_RX11.1, nc_RX11.2, pd_6⟩
theorem cy_X11_refuse : CY yX11_refuse cX11_refuse 2 (some .boolean) 1 := ⟨mg3 89 rfl rfl, mg0 0 rfl rfl, mg1 1 rfl rfl, mg3 90 rfl rfl, nc_RX11.1, nc_RX11.2, pd_26⟩
theorem cy_X11_grip : CY yX11_grip cX11_grip 3 (some .boolean) 2 := ⟨mg5 23 rfl rfl, mg5 24 rfl rfl, mg1 1 rfl rfl, mg5 25 rfl rfl, nc_RX11.1, nc_RX11.2, pd_43⟩
theorem cy_X11_groundIn : CY yX11_groundIn cX11_groundIn 3 (some .int) 2 := ⟨mg5 77 rfl rfl, mg5 78 rfl rfl, mg1 1 rfl rfl, mg5 79 rfl rfl, nc_RX11.1, nc_RX11.2, pd_18⟩
theorem cy_X11_heaviest : CY yX11_heaviest cX11_heaviest 1 (some .int) 0 := ⟨mg5 211 rfl rfl, mg5 212 rfl rfl, mg1 1 rfl rfl, mg5 213 rfl rfl, nc_RX11.1, nc_RX11.2, pd_6⟩
theorem cy_X11_heaviestWeight : CY yX11_heaviestWeight cX11_heaviestWeight 1 (some .int) 0 := ⟨mg5 230 rfl rfl, mg5 231 rfl rfl, mg1 1 rfl rfl, mg5 232 rfl rfl, nc_RX11.1, nc_RX11.2, pd_6⟩
theorem cy_X11_homeIn : CY yX11_homeIn cX11_homeIn 2 (some .int) 1 := ⟨mg5 53 rfl rfl, mg5 54 rfl rfl, mg1 1 rfl rfl, mg5 55 rfl rfl, nc_RX11.1, nc_RX11.2, pd_7⟩
theorem cy_X11_hour : CY yX11_hour cX11_hour 2 (some .int) 1 := ⟨mg4 222 rfl rfl, mg4 223 rfl rfl, mg1 1 rfl rfl, mg4 224 rfl rfl, nc_RX11.1, nc_RX11.2, pd_7⟩
theorem cy_X11_live : CY yX11_live cX11_live 5 (some .int) 1 := ⟨mg6 74 rfl rfl, mg6 75 rfl rfl, mg1 1 rfl rfl, mg6 76 rfl rfl, nc_RX11.1, nc_RX11.2, pd_7⟩
theorem cy_X11_lived : CY yX11_lived cX11_lived 2 (some .int) 1 := ⟨mg6 128 rfl rfl, mg6 129 rfl rfl, mg1 1 rfl rfl, mg6 130 rfl rfl, nc_RX11.1, nc_RX11.2, pd_7⟩
theorem cy_X11_make : CY yX11_make cX11_make 4 (some .int) 3 := ⟨mg5 31 rfl rfl, mg5 32 rfl rfl, mg1 1 rfl rfl, mg5 33 rfl rfl, nc_RX11.1, nc_RX11.2, pd_40⟩
theorem cy_X11_mark : CY yX11_mark cX11_mark 1 (some .int) 0 := ⟨mg6 140 rfl rfl, mg6 141 rfl rfl, mg1 1 rfl rfl, mg6 142 rfl rfl, nc_RX11.1, nc_RX11.2, pd_6⟩
theorem cy_X11_tellFraction : CY yX11_tellFraction cX11_tellFraction 7 (some .boolean) 2 := ⟨mg6 53 rfl rfl, mg0 39 rfl rfl, mg1 1 rfl rfl, mg6 54 rfl rfl, nc_RX11.1, nc_RX11.2, pd_44⟩
theorem cy_X11_mean : CY yX11_mean cX11_mean 6 (some .boolean) 2 := ⟨mg6 132 rfl rfl, mg6 133 rfl rfl, mg1 1 rfl rfl, mg6 134 rfl rfl, nc_RX11.1, nc_RX11.2, pd_43⟩
theorem cy_X11_mill : CY yX11_mill cX11_mill 3 (some .int) 2 := ⟨mg4 198 rfl rfl, mg4 199 rfl rfl, mg1 1 rfl rfl, mg4 200 rfl rfl, nc_RX11.1, nc_RX11.2, pd_18⟩
theorem cy_X11_mind : CY yX11_mind cX11_mind 3 (some .boolean) 2 := ⟨mg5 27 rfl rfl, mg5 28 rfl rfl, mg1 1 rfl rfl, mg5 29 rfl rfl, nc_RX11.1, nc_RX11.2, pd_43⟩
theorem cy_X11_minded : CY yX11_minded cX11_minded 5 (some .int) 3 := ⟨mg5 158 rfl rfl, mg5 159 rfl rfl, mg1 1 rfl rfl, mg5 160 rfl rfl, nc_RX11.1, nc_RX11.2, pd_40⟩
theorem cy_X11_mindedAt : CY yX11_mindedAt cX11_mindedAt 6 (some .int) 4 := ⟨mg5 185 rfl rfl, mg5 186 rfl rfl, mg1 1 rfl rfl, mg5 187 rfl rfl, nc_RX11.1, nc_RX11.2, pd_23⟩
theorem cy_X11_moveOf : CY yX11_moveOf cX11_moveOf 5 (some .int) 4 := ⟨mg6 40 rfl rfl, mg6 41 rfl rfl, mg1 1 rfl rfl, mg6 42 rfl rfl, nc_RX11.1, nc_RX11.2, pd_23⟩
theorem cy_X11_pour : CY yX11_pour cX11_pour 6 (some .boolean) 5 := ⟨mg3 128 rfl rfl, mg3 129 rfl rfl, mg1 1 rfl rfl, mg3 130 rfl rfl, nc_RX11.1, nc_RX11.2, pd_45⟩
theorem cy_X11_power : CYs yX11_power cX11_power 6 (some .long) 2 := ⟨mg6 66 rfl rfl, mg1 1 rfl rfl, mg6 67 rfl rfl, nc_RX11.1, nc_RX11.2, pd_28⟩
theorem cy_X11_quietIn : CY yX11_quietIn cX11_quietIn 1 (some .int) 0 := ⟨mg5 81 rfl rfl, mg5 82 rfl rfl, mg1 1 rfl rfl, mg5 83 rfl rfl, nc_RX11.1, nc_RX11.2, pd_6⟩
theorem cy_X11_wetWays : CYs yX11_wetWays cX11_wetWays 8 (some .long) 3 := ⟨mg6 63 rfl rfl, mg1 1 rfl rfl, mg6 64 rfl rfl, nc_RX11.1, nc_RX11.2, pd_46⟩
theorem cy_X11_rain : CY yX11_rain cX11_rain 3 (some .boolean) 2 := ⟨mg6 59 rfl rfl, mg6 60 rfl rfl, mg1 1 rfl rfl, mg6 61 rfl rfl, nc_RX11.1, nc_RX11.2, pd_43⟩
theorem cy_X11_whyNoPlace : CY yX11_whyNoPlace cX11_whyNoPlace 3 (some .int) 2 := ⟨mg3 105 rfl rfl, mg0 2 rfl rfl, mg1 1 rfl rfl, mg3 106 rfl rfl, nc_RX11.1, nc_RX11.2, pd_18⟩
theorem cy_X11_read : CY yX11_read cX11_read 4 (some .long) 2 := ⟨mg3 123 rfl rfl, mg3 124 rfl rfl, mg1 1 rfl rfl, mg3 125 rfl rfl, nc_RX11.1, nc_RX11.2, pd_47⟩
theorem cy_X11_ride : CY yX11_ride cX11_ride 3 (some .int) 2 := ⟨mg5 235 rfl rfl, mg5 236 rfl rfl, mg1 1 rfl rfl, mg5 237 rfl rfl, nc_RX11.1, nc_RX11.2, pd_18⟩
theorem cy_X11_ring : CY yX11_ring cX11_ring 1 (some .int) 0 := ⟨mg5 94 rfl rfl, mg5 95 rfl rfl, mg1 1 rfl rfl, mg5 96 rfl rfl, nc_RX11.1, nc_RX11.2, pd_6⟩
theorem cy_X11_rule : CY yX11_rule cX11_rule 3 (some .boolean) 2 := ⟨mg5 41 rfl rfl, mg5 42 rfl rfl, mg1 1 rfl rfl, mg5 43 rfl rfl, nc_RX11.1, nc_RX11.2, pd_43⟩
theorem cy_X11_share : CY yX11_share cX11_share 3 (some .boolean) 1 := ⟨mg6 44 rfl rfl, mg6 45 rfl rfl, mg1 1 rfl rfl, mg6 46 rfl rfl, nc_RX11.1, nc_RX11.2, pd_26⟩
theorem cy_X11_whyNotSoonest : CY yX11_whyNotSoonest cX11_whyNotSoonest 2 (some .int) 1 := ⟨mg5 129 rfl rfl, mg0 30 rfl rfl, mg1 1 rfl rfl, mg5 130 rfl rfl, nc_RX11.1, nc_RX11.2, pd_7⟩
theorem cy_X11_soonest : CY yX11_soonest cX11_soonest 3 (some .int) 1 := ⟨mg5 124 rfl rfl, mg5 125 rfl rfl, mg1 1 rfl rfl, mg5 126 rfl rfl, nc_RX11.1, nc_RX11.2, pd_7⟩
theorem cy_X11_soonestIn : CY yX11_soonestIn cX11_soonestIn 3 (some .int) 1 := ⟨mg5 137 rfl rfl, mg5 138 rfl rfl, mg1 1 rfl rfl, mg5 139 rfl rfl, nc_RX11.1, nc_RX11.2, pd_7⟩
theorem cy_X11_status : CY yX11_status cX11_status 1 (some .int) 0 := ⟨mg3 69 rfl rfl, mg3 70 rfl rfl, mg1 1 rfl rfl, mg3 71 rfl rfl, nc_RX11.1, nc_RX11.2, pd_6⟩
theorem cy_X11_thing : CY yX11_thing cX11_thing 3 (some .int) 2 := ⟨mg4 178 rfl rfl, mg4 179 rfl rfl, mg1 1 rfl rfl, mg4 180 rfl rfl, nc_RX11.1, nc_RX11.2, pd_18⟩
theorem cy_X11_told : CY yX11_told cX11_told 2 (some .int) 1 := ⟨mg4 158 rfl rfl, mg4 159 rfl rfl, mg1 1 rfl rfl, mg4 160 rfl rfl, nc_RX11.1, nc_RX11.2, pd_7⟩
theorem cy_X11_top : CY yX11_top cX11_top 1 (some .long) 0 := ⟨mg3 73 rfl rfl, mg3 74 rfl rfl, mg1 1 rfl rfl, mg3 75 rfl rfl, nc_RX11.1, nc_RX11.2, pd_30⟩
theorem cy_X11_toss : CY yX11_toss cX11_toss 3 (some .boolean) 2 := ⟨mg5 9 rfl rfl, mg5 10 rfl rfl, mg1 1 rfl rfl, mg5 11 rfl rfl, nc_RX11.1, nc_RX11.2, pd_43⟩
theorem cy_X11_tray : CY yX11_tray cX11_tray 4 (some .boolean) 3 := ⟨mg3 81 rfl rfl, mg3 82 rfl rfl, mg1 1 rfl rfl, mg3 83 rfl rfl, nc_RX11.1, nc_RX11.2, pd_36⟩
theorem cy_X11_turnIn : CY yX11_turnIn cX11_turnIn 1 (some .int) 0 := ⟨mg5 69 rfl rfl, mg5 70 rfl rfl, mg1 1 rfl rfl, mg5 71 rfl rfl, nc_RX11.1, nc_RX11.2, pd_6⟩
theorem cy_X11_turnsIn : CY yX11_turnsIn cX11_turnsIn 2 (some .int) 1 := ⟨mg5 65 rfl rfl, mg5 66 rfl rfl, mg1 1 rfl rfl, mg5 67 rfl rfl, nc_RX11.1, nc_RX11.2, pd_7⟩
theorem cy_X11_undo : CY yX11_undo cX11_undo 1 (some .int) 0 := ⟨mg6 144 rfl rfl, mg6 145 rfl rfl, mg1 1 rfl rfl, mg6 146 rfl rfl, nc_RX11.1, nc_RX11.2, pd_6⟩
theorem cy_X11_waits : CY yX11_waits cX11_waits 3 (some .int) 2 := ⟨mg6 3 rfl rfl, mg6 4 rfl rfl, mg1 1 rfl rfl, mg6 5 rfl rfl, nc_RX11.1, nc_RX11.2, pd_18⟩
theorem cy_X11_write : CY yX11_write cX11_write 6 (some .boolean) 3 := ⟨mg3 100 rfl rfl, mg3 101 rfl rfl, mg1 1 rfl rfl, mg3 102 rfl rfl, nc_RX11.1, nc_RX11.2, pd_48⟩
theorem cy_X12_byteAt : CY yX12_byteAt cX12_byteAt 2 (some .int) 1 := ⟨mg7 119 rfl rfl, mg0 54 rfl rfl, mg1 17 rfl rfl, mg7 120 rfl rfl, nc_RX12.1, nc_RX12.2, pd_7⟩
theorem cy_X12_isDigit : CYs yX12_isDigit cX12_isDigit 1 (some .boolean) 1 := ⟨mg7 125 rfl rfl, mg1 17 rfl rfl, mg7 126 rfl rfl, nc_RX12.1, nc_RX12.2, pd_26⟩
theorem cy_X12_isSmall : CYs yX12_isSmall cX12_isSmall 1 (some .boolean) 1 := ⟨mg7 122 rfl rfl, mg1 17 rfl rfl, mg7 123 rfl rfl, nc_RX12.1, nc_RX12.2, pd_26⟩
theorem cy_X12_ahead : CY yX12_ahead cX12_ahead 2 none 0 := ⟨mg7 115 rfl rfl, mg0 53 rfl rfl, mg1 17 rfl rfl, mg7 116 rfl rfl, nc_RX12.1, nc_RX12.2, pd_24⟩
theorem cy_X12_fails : CY yX12_fails cX12_fails 2 (some .boolean) 1 := ⟨mg7 146 rfl rfl, mg0 58 rfl rfl, mg1 17 rfl rfl, mg7 147 rfl rfl, nc_RX12.1, nc_RX12.2, pd_26⟩
theorem cy_X12_inWords : CY yX12_inWords cX12_inWords 7 (some .int) 1 := ⟨mg7 140 rfl rfl, mg0 57 rfl rfl, mg1 17 rfl rfl, mg7 141 rfl rfl, nc_RX12.1, nc_RX12.2, pd_49⟩
theorem cy_X12_millRow : CYs yX12_millRow cX12_millRow 1 (some .int) 1 := ⟨mg7 196 rfl rfl, mg1 17 rfl rfl, mg7 197 rfl rfl, nc_RX12.1, nc_RX12.2, pd_7⟩
theorem cy_X12_number : CY yX12_number cX12_number 4 (some .boolean) 3 := ⟨mg7 150 rfl rfl, mg0 59 rfl rfl, mg1 17 rfl rfl, mg7 151 rfl rfl, nc_RX12.1, nc_RX12.2, pd_36⟩
theorem cy_X12_newCell : CY yX12_newCell cX12_newCell 2 (some .boolean) 1 := ⟨mg7 158 rfl rfl, mg0 61 rfl rfl, mg1 17 rfl rfl, mg7 159 rfl rfl, nc_RX12.1, nc_RX12.2, pd_26⟩
theorem cy_X12_nameHere : CY yX12_nameHere cX12_nameHere 4 (some .long) 0 := ⟨mg7 185 rfl rfl, mg0 67 rfl rfl, mg1 17 rfl rfl, mg7 186 rfl rfl, nc_RX12.1, nc_RX12.2, pd_30⟩
theorem cy_X12_findHere : CY yX12_findHere cX12_findHere 4 (some .int) 2 := ⟨mg7 181 rfl rfl, mg0 66 rfl rfl, mg1 17 rfl rfl, mg7 182 rfl rfl, nc_RX12.1, nc_RX12.2, pd_18⟩
theorem cy_X12_isName : CY yX12_isName cX12_isName 2 (some .boolean) 1 := ⟨mg7 177 rfl rfl, mg0 65 rfl rfl, mg1 17 rfl rfl, mg7 178 rfl rfl, nc_RX12.1, nc_RX12.2, pd_50⟩
theorem cy_X12_newOne : CY yX12_newOne cX12_newOne 4 (some .boolean) 3 := ⟨mg7 173 rfl rfl, mg0 64 rfl rfl, mg1 17 rfl rfl, mg7 174 rfl rfl, nc_RX12.1, nc_RX12.2, pd_36⟩
theorem cy_X12_wantWord : CY yX12_wantWord cX12_wantWord 3 (some .boolean) 2 := ⟨mg7 189 rfl rfl, mg0 68 rfl rfl, mg1 17 rfl rfl, mg7 190 rfl rfl, nc_RX12.1, nc_RX12.2, pd_51⟩
theorem cy_X12_aMill : CY yX12_aMill cX12_aMill 3 (some .boolean) 0 := ⟨mg7 193 rfl rfl, mg0 69 rfl rfl, mg1 17 rfl rfl, mg7 194 rfl rfl, nc_RX12.1, nc_RX12.2, pd_0⟩
theorem cy_X12_isThere : CY yX12_isThere cX12_isThere 2 (some .boolean) 1 := ⟨mg7 162 rfl rfl, mg0 62 rfl rfl, mg1 17 rfl rfl, mg7 163 rfl rfl, nc_RX12.1, nc_RX12.2, pd_26⟩
theorem cy_X12_aStream : CY yX12_aStream cX12_aStream 1 (some .boolean) 0 := ⟨mg7 154 rfl rfl, mg0 60 rfl rfl, mg1 17 rfl rfl, mg7 155 rfl rfl, nc_RX12.1, nc_RX12.2, pd_0⟩
theorem cy_X12_thingRow : CYs yX12_thingRow cX12_thingRow 1 (some .int) 1 := ⟨mg7 169 rfl rfl, mg1 17 rfl rfl, mg7 170 rfl rfl, nc_RX12.1, nc_RX12.2, pd_7⟩
theorem cy_X12_aThing : CY yX12_aThing cX12_aThing 2 (some .boolean) 0 := ⟨mg7 166 rfl rfl, mg0 63 rfl rfl, mg1 17 rfl rfl, mg7 167 rfl rfl, nc_RX12.1, nc_RX12.2, pd_0⟩
theorem cy_X12_thingOf : CY yX12_thingOf cX12_thingOf 3 (some .int) 2 := ⟨mg8 12 rfl rfl, mg0 81 rfl rfl, mg1 17 rfl rfl, mg8 13 rfl rfl, nc_RX12.1, nc_RX12.2, pd_18⟩
theorem cy_X12_isFree : CY yX12_isFree cX12_isFree 2 (some .boolean) 1 := ⟨mg8 116 rfl rfl, mg0 99 rfl rfl, mg1 17 rfl rfl, mg8 117 rfl rfl, nc_RX12.1, nc_RX12.2, pd_26⟩
theorem cy_X12_isFrom : CYs yX12_isFrom cX12_isFrom 6 (some .boolean) 3 := ⟨mg8 76 rfl rfl, mg1 17 rfl rfl, mg8 77 rfl rfl, nc_RX12.1, nc_RX12.2, pd_52⟩
theorem cy_X12_isThing : CY yX12_isThing cX12_isThing 2 (some .boolean) 1 := ⟨mg8 28 rfl rfl, mg0 84 rfl rfl, mg1 17 rfl rfl, mg8 29 rfl rfl, nc_RX12.1, nc_RX12.2, pd_26⟩
theorem cy_X12_keeps : CY yX12_keeps cX12_keeps 3 none 1 := ⟨mg8 161 rfl rfl, mg0 101 rfl rfl, mg1 17 rfl rfl, mg8 162 rfl rfl, nc_RX12.1, nc_RX12.2, pd_27⟩
theorem cy_X12_comesHome : CY yX12_comesHome cX12_comesHome 2 none 1 := ⟨mg8 96 rfl rfl, mg0 95 rfl rfl, mg1 17 rfl rfl, mg8 97 rfl rfl, nc_RX12.1, nc_RX12.2, pd_27⟩
theorem cy_X12_isRemembered : CY yX12_isRemembered cX12_isRemembered 2 (some .boolean) 1 := ⟨mg8 8 rfl rfl, mg0 80 rfl rfl, mg1 17 rfl rfl, mg8 9 rfl rfl, nc_RX12.1, nc_RX12.2, pd_26⟩
theorem cy_X12_mindedMost : CY yX12_mindedMost cX12_mindedMost 3 (some .int) 0 := ⟨mg8 56 rfl rfl, mg0 88 rfl rfl, mg1 17 rfl rfl, mg8 57 rfl rfl, nc_RX12.1, nc_RX12.2, pd_6⟩
theorem cy_X12_sea : CY yX12_sea cX12_sea 1 (some .int) 0 := ⟨mg8 60 rfl rfl, mg0 89 rfl rfl, mg1 17 rfl rfl, mg8 61 rfl rfl, nc_RX12.1, nc_RX12.2, pd_6⟩
theorem cy_X12_goalNow : CY yX12_goalNow cX12_goalNow 2 (some .int) 0 := ⟨mg8 52 rfl rfl, mg0 87 rfl rfl, mg1 17 rfl rfl, mg8 53 rfl rfl, nc_RX12.1, nc_RX12.2, pd_6⟩
theorem cy_X12_millOf : CY yX12_millOf cX12_millOf 3 (some .int) 2 := ⟨mg8 44 rfl rfl, mg0 86 rfl rfl, mg1 17 rfl rfl, mg8 45 rfl rfl, nc_RX12.1, nc_RX12.2, pd_18⟩
theorem cy_X12_goes : CY yX12_goes cX12_goes 5 none 0 := ⟨mg8 88 rfl rfl, mg0 93 rfl rfl, mg1 17 rfl rfl, mg8 89 rfl rfl, nc_RX12.1, nc_RX12.2, pd_24⟩
theorem cy_X12_lasts : CY yX12_lasts cX12_lasts 3 none 1 := ⟨mg8 100 rfl rfl, mg0 96 rfl rfl, mg1 17 rfl rfl, mg8 101 rfl rfl, nc_RX12.1, nc_RX12.2, pd_27⟩
theorem cy_X12_thingsThat : CY yX12_thingsThat cX12_thingsThat 5 (some .int) 1 := ⟨mg8 4 rfl rfl, mg0 79 rfl rfl, mg1 17 rfl rfl, mg8 5 rfl rfl, nc_RX12.1, nc_RX12.2, pd_7⟩
theorem cy_X12_isIn : CY yX12_isIn cX12_isIn 3 (some .boolean) 2 := ⟨mg8 20 rfl rfl, mg0 83 rfl rfl, mg1 17 rfl rfl, mg8 21 rfl rfl, nc_RX12.1, nc_RX12.2, pd_43⟩
theorem cy_X12_weightOf : CY yX12_weightOf cX12_weightOf 4 (some .int) 1 := ⟨mg8 16 rfl rfl, mg0 82 rfl rfl, mg1 17 rfl rfl, mg8 17 rfl rfl, nc_RX12.1, nc_RX12.2, pd_7⟩
theorem cy_X12_takesUp : CY yX12_takesUp cX12_takesUp 2 none 0 := ⟨mg8 92 rfl rfl, mg0 94 rfl rfl, mg1 17 rfl rfl, mg8 93 rfl rfl, nc_RX12.1, nc_RX12.2, pd_24⟩
theorem cy_X12_hourGoes : CY yX12_hourGoes cX12_hourGoes 3 (some .boolean) 0 := ⟨mg8 84 rfl rfl, mg0 92 rfl rfl, mg1 17 rfl rfl, mg8 85 rfl rfl, nc_RX12.1, nc_RX12.2, pd_0⟩
theorem cy_X12_nextTurn : CY yX12_nextTurn cX12_nextTurn 3 (some .int) 1 := ⟨mg8 189 rfl rfl, mg0 104 rfl rfl, mg1 17 rfl rfl, mg8 190 rfl rfl, nc_RX12.1, nc_RX12.2, pd_7⟩
theorem cy_X12_gives : CY yX12_gives cX12_gives 2 (some .int) 1 := ⟨mg7 212 rfl rfl, mg0 73 rfl rfl, mg1 17 rfl rfl, mg7 213 rfl rfl, nc_RX12.1, nc_RX12.2, pd_7⟩
theorem cy_X12_refuse : CY yX12_refuse cX12_refuse 2 (some .int) 1 := ⟨mg7 131 rfl rfl, mg0 55 rfl rfl, mg1 17 rfl rfl, mg7 132 rfl rfl, nc_RX12.1, nc_RX12.2, pd_7⟩
theorem cy_X12_orNone : CY yX12_orNone cX12_orNone 2 (some .int) 1 := ⟨mg8 68 rfl rfl, mg0 90 rfl rfl, mg1 17 rfl rfl, mg8 69 rfl rfl, nc_RX12.1, nc_RX12.2, pd_7⟩
theorem cy_X12_restores : CY yX12_restores cX12_restores 3 none 1 := ⟨mg8 165 rfl rfl, mg0 102 rfl rfl, mg1 17 rfl rfl, mg8 166 rfl rfl, nc_RX12.1, nc_RX12.2, pd_27⟩
theorem cy_X12_tosses : CY yX12_tosses cX12_tosses 3 (some .boolean) 2 := ⟨mg8 112 rfl rfl, mg0 98 rfl rfl, mg1 17 rfl rfl, mg8 113 rfl rfl, nc_RX12.1, nc_RX12.2, pd_43⟩
theorem cy_X12_aim : CY yX12_aim cX12_aim 5 (some .int) 2 := ⟨mg8 216 rfl rfl, mg8 217 rfl rfl, mg1 17 rfl rfl, mg8 218 rfl rfl, nc_RX12.1, nc_RX12.2, pd_18⟩
theorem cy_X12_allHomes : CY yX12_allHomes cX12_allHomes 3 (some .int) 0 := ⟨mg9 122 rfl rfl, mg0 123 rfl rfl, mg1 17 rfl rfl, mg9 123 rfl rfl, nc_RX12.1, nc_RX12.2, pd_6⟩
theorem cy_X12_areAlike : CY yX12_areAlike cX12_areAlike 4 (some .boolean) 2 := ⟨mg8 213 rfl rfl, mg0 107 rfl rfl, mg1 17 rfl rfl, mg8 214 rfl rfl, nc_RX12.1, nc_RX12.2, pd_43⟩
theorem cy_X12_isMill : CY yX12_isMill cX12_isMill 2 (some .boolean) 1 := ⟨mg8 40 rfl rfl, mg0 85 rfl rfl, mg1 17 rfl rfl, mg8 41 rfl rfl, nc_RX12.1, nc_RX12.2, pd_26⟩
theorem cy_X12_areTwo : CY yX12_areTwo cX12_areTwo 3 (some .boolean) 2 := ⟨mg9 65 rfl rfl, mg0 115 rfl rfl, mg1 17 rfl rfl, mg9 66 rfl rfl, nc_RX12.1, nc_RX12.2, pd_43⟩
theorem cy_X12_laysMinds : CY yX12_laysMinds cX12_laysMinds 8 none 3 := ⟨mg9 21 rfl rfl, mg0 112 rfl rfl, mg1 17 rfl rfl, mg9 22 rfl rfl, nc_RX12.1, nc_RX12.2, pd_12⟩
theorem cy_X12_isTray : CYs yX12_isTray cX12_isTray 1 (some .boolean) 1 := ⟨mg7 67 rfl rfl, mg1 17 rfl rfl, mg7 68 rfl rfl, nc_RX12.1, nc_RX12.2, pd_26⟩
theorem cy_X12_wrongMinded : CY yX12_wrongMinded cX12_wrongMinded 6 (some .int) 3 := ⟨mg9 16 rfl rfl, mg0 111 rfl rfl, mg1 17 rfl rfl, mg9 17 rfl rfl, nc_RX12.1, nc_RX12.2, pd_40⟩
theorem cy_X12_ask : CY yX12_ask cX12_ask 10 (some .int) 3 := ⟨mg9 28 rfl rfl, mg9 29 rfl rfl, mg1 17 rfl rfl, mg9 30 rfl rfl, nc_RX12.1, nc_RX12.2, pd_40⟩
theorem cy_X12_hoursGo : CY yX12_hoursGo cX12_hoursGo 4 (some .int) 1 := ⟨mg8 80 rfl rfl, mg0 91 rfl rfl, mg1 17 rfl rfl, mg8 81 rfl rfl, nc_RX12.1, nc_RX12.2, pd_7⟩
theorem cy_X12_isSpan : CYs yX12_isSpan cX12_isSpan 1 (some .boolean) 1 := ⟨mg8 156 rfl rfl, mg1 17 rfl rfl, mg8 157 rfl rfl, nc_RX12.1, nc_RX12.2, pd_26⟩
theorem cy_X12_atIn : CY yX12_atIn cX12_atIn 3 (some .int) 1 := ⟨mg8 152 rfl rfl, mg8 153 rfl rfl, mg1 17 rfl rfl, mg8 154 rfl rfl, nc_RX12.1, nc_RX12.2, pd_7⟩
theorem cy_X12_begins : CY yX12_begins cX12_begins 4 (some .boolean) 2 := ⟨mg7 111 rfl rfl, mg0 52 rfl rfl, mg1 17 rfl rfl, mg7 112 rfl rfl, nc_RX12.1, nc_RX12.2, pd_43⟩
theorem cy_X12_behindEnds : CY yX12_behindEnds cX12_behindEnds 5 (some .int) 1 := ⟨mg9 139 rfl rfl, mg0 127 rfl rfl, mg1 17 rfl rfl, mg9 140 rfl rfl, nc_RX12.1, nc_RX12.2, pd_7⟩
theorem cy_X12_bits : CYs yX12_bits cX12_bits 3 (some .int) 1 := ⟨mg9 41 rfl rfl, mg1 17 rfl rfl, mg9 42 rfl rfl, nc_RX12.1, nc_RX12.2, pd_7⟩
theorem cy_X12_bottom : CY yX12_bottom cX12_bottom 1 (some .long) 0 := ⟨mg7 59 rfl rfl, mg7 60 rfl rfl, mg1 17 rfl rfl, mg7 61 rfl rfl, nc_RX12.1, nc_RX12.2, pd_30⟩
theorem cy_X12_isCell : CY yX12_isCell cX12_isCell 2 (some .boolean) 1 := ⟨mg8 108 rfl rfl, mg0 97 rfl rfl, mg1 17 rfl rfl, mg8 109 rfl rfl, nc_RX12.1, nc_RX12.2, pd_26⟩
theorem cy_X12_build : CY yX12_build cX12_build 4 (some .int) 2 := ⟨mg8 141 rfl rfl, mg8 142 rfl rfl, mg1 17 rfl rfl, mg8 143 rfl rfl, nc_RX12.1, nc_RX12.2, pd_18⟩
theorem cy_X12_carriedIn : CY yX12_carriedIn cX12_carriedIn 3 (some .int) 1 := ⟨mg8 168 rfl rfl, mg8 169 rfl rfl, mg1 17 rfl rfl, mg8 170 rfl rfl, nc_RX12.1, nc_RX12.2, pd_7⟩
theorem cy_X12_cellOf : CY yX12_cellOf cX12_cellOf 3 (some .int) 1 := ⟨mg8 31 rfl rfl, mg8 32 rfl rfl, mg1 17 rfl rfl, mg8 33 rfl rfl, nc_RX12.1, nc_RX12.2, pd_7⟩
theorem cy_X12_copies : CY yX12_copies cX12_copies 4 none 2 := ⟨mg9 155 rfl rfl, mg0 128 rfl rfl, mg1 17 rfl rfl, mg9 156 rfl rfl, nc_RX12.1, nc_RX12.2, pd_2⟩
theorem cy_X12_cut : CYs yX12_cut cX12_cut 3 (some .long) 2 := ⟨mg7 82 rfl rfl, mg1 17 rfl rfl, mg7 83 rfl rfl, nc_RX12.1, nc_RX12.2, pd_28⟩
theorem cy_X12_copyHours : CY yX12_copyHours cX12_copyHours 3 (some .int) 1 := ⟨mg9 100 rfl rfl, mg9 101 rfl rfl, mg1 17 rfl rfl, mg9 102 rfl rfl, nc_RX12.1, nc_RX12.2, pd_7⟩
theorem cy_X12_isSign : CY yX12_isSign cX12_isSign 2 (some .boolean) 1 := ⟨mg7 204 rfl rfl, mg0 71 rfl rfl, mg1 17 rfl rfl, mg7 205 rfl rfl, nc_RX12.1, nc_RX12.2, pd_26⟩
theorem cy_X12_oldOne : CY yX12_oldOne cX12_oldOne 4 (some .boolean) 3 := ⟨mg7 232 rfl rfl, mg0 77 rfl rfl, mg1 17 rfl rfl, mg7 233 rfl rfl, nc_RX12.1, nc_RX12.2, pd_36⟩
theorem cy_X12_thingTo : CY yX12_thingTo cX12_thingTo 2 (some .boolean) 1 := ⟨mg7 228 rfl rfl, mg0 76 rfl rfl, mg1 17 rfl rfl, mg7 229 rfl rfl, nc_RX12.1, nc_RX12.2, pd_26⟩
theorem cy_X12_test : CY yX12_test cX12_test 4 (some .boolean) 1 := ⟨mg7 236 rfl rfl, mg0 78 rfl rfl, mg1 17 rfl rfl, mg7 237 rfl rfl, nc_RX12.1, nc_RX12.2, pd_26⟩
theorem cy_X12_dayOrder : CY yX12_dayOrder cX12_dayOrder 3 (some .boolean) 2 := ⟨mg7 224 rfl rfl, mg0 75 rfl rfl, mg1 17 rfl rfl, mg7 225 rfl rfl, nc_RX12.1, nc_RX12.2, pd_43⟩
theorem cy_X12_wantSign : CY yX12_wantSign cX12_wantSign 2 (some .boolean) 1 := ⟨mg7 200 rfl rfl, mg0 70 rfl rfl, mg1 17 rfl rfl, mg7 201 rfl rfl, nc_RX12.1, nc_RX12.2, pd_26⟩
theorem cy_X12_dayStep : CY yX12_dayStep cX12_dayStep 6 (some .boolean) 0 := ⟨mg7 220 rfl rfl, mg0 74 rfl rfl, mg1 17 rfl rfl, mg7 221 rfl rfl, nc_RX12.1, nc_RX12.2, pd_0⟩
theorem cy_X12_taken : CY yX12_taken cX12_taken 2 (some .int) 1 := ⟨mg7 208 rfl rfl, mg0 72 rfl rfl, mg1 17 rfl rfl, mg7 209 rfl rfl, nc_RX12.1, nc_RX12.2, pd_7⟩
theorem cy_X12_days : CY yX12_days cX12_days 4 (some .int) 1 := ⟨mg7 215 rfl rfl, mg7 216 rfl rfl, mg1 17 rfl rfl, mg7 217 rfl rfl, nc_RX12.1, nc_RX12.2, pd_7⟩
theorem cy_X12_fetches : CY yX12_fetches cX12_fetches 2 (some .boolean) 1 := ⟨mg8 124 rfl rfl, mg0 100 rfl rfl, mg1 17 rfl rfl, mg8 125 rfl rfl, nc_RX12.1, nc_RX12.2, pd_26⟩
theorem cy_X12_hoursBy : CY yX12_hoursBy cX12_hoursBy 3 (some .boolean) 1 := ⟨mg9 118 rfl rfl, mg0 122 rfl rfl, mg1 17 rfl rfl, mg9 119 rfl rfl, nc_RX12.1, nc_RX12.2, pd_26⟩
theorem cy_X12_draw : CY yX12_draw cX12_draw 2 (some .int) 1 := ⟨mg9 130 rfl rfl, mg0 125 rfl rfl, mg1 17 rfl rfl, mg9 131 rfl rfl, nc_RX12.1, nc_RX12.2, pd_7⟩
theorem cy_X12_throwsAny : CY yX12_throwsAny cX12_throwsAny 2 (some .boolean) 0 := ⟨mg9 126 rfl rfl, mg0 124 rfl rfl, mg1 17 rfl rfl, mg9 127 rfl rfl, nc_RX12.1, nc_RX12.2, pd_0⟩
theorem cy_X12_does : CY yX12_does cX12_does 3 (some .boolean) 1 := ⟨mg9 114 rfl rfl, mg0 121 rfl rfl, mg1 17 rfl rfl, mg9 115 rfl rfl, nc_RX12.1, nc_RX12.2, pd_26⟩
theorem cy_X12_laysDrive : CY yX12_laysDrive cX12_laysDrive 9 none 4 := ⟨mg9 4 rfl rfl, mg0 110 rfl rfl, mg1 17 rfl rfl, mg9 5 rfl rfl, nc_RX12.1, nc_RX12.2, pd_53⟩
theorem cy_X12_wrongDrive : CY yX12_wrongDrive cX12_wrongDrive 5 (some .int) 4 := ⟨mg8 239 rfl rfl, mg0 109 rfl rfl, mg1 17 rfl rfl, mg9 0 rfl rfl, nc_RX12.1, nc_RX12.2, pd_23⟩
theorem cy_X12_drive : CY yX12_drive cX12_drive 6 (some .int) 4 := ⟨mg8 234 rfl rfl, mg8 235 rfl rfl, mg1 17 rfl rfl, mg8 236 rfl rfl, nc_RX12.1, nc_RX12.2, pd_23⟩
theorem cy_X12_driveCell : CY yX12_driveCell cX12_driveCell 7 (some .int) 5 := ⟨mg9 7 rfl rfl, mg9 8 rfl rfl, mg1 17 rfl rfl, mg9 9 rfl rfl, nc_RX12.1, nc_RX12.2, pd_42⟩
theorem cy_X12_fault : CY yX12_fault cX12_fault 2 (some .int) 1 := ⟨mg7 102 rfl rfl, mg7 103 rfl rfl, mg1 17 rfl rfl, mg7 104 rfl rfl, nc_RX12.1, nc_RX12.2, pd_7⟩
theorem cy_X12_four : CY yX12_four cX12_four 3 none 1 := ⟨mg7 99 rfl rfl, mg0 51 rfl rfl, mg1 17 rfl rfl, mg7 100 rfl rfl, nc_RX12.1, nc_RX12.2, pd_27⟩
theorem cy_X12_feed : CY yX12_feed cX12_feed 6 (some .int) 5 := ⟨mg7 94 rfl rfl, mg7 95 rfl rfl, mg1 17 rfl rfl, mg7 96 rfl rfl, nc_RX12.1, nc_RX12.2, pd_42⟩
theorem cy_X12_fetch : CY yX12_fetch cX12_fetch 2 (some .int) 1 := ⟨mg8 119 rfl rfl, mg8 120 rfl rfl, mg1 17 rfl rfl, mg8 121 rfl rfl, nc_RX12.1, nc_RX12.2, pd_7⟩
theorem cy_X12_groundMore : CY yX12_groundMore cX12_groundMore 3 (some .int) 2 := ⟨mg9 73 rfl rfl, mg0 117 rfl rfl, mg1 17 rfl rfl, mg9 74 rfl rfl, nc_RX12.1, nc_RX12.2, pd_18⟩
theorem cy_X12_levelAt : CYs yX12_levelAt cX12_levelAt 1 (some .int) 1 := ⟨mg9 76 rfl rfl, mg1 17 rfl rfl, mg9 77 rfl rfl, nc_RX12.1, nc_RX12.2, pd_7⟩
theorem cy_X12_settles : CY yX12_settles cX12_settles 4 none 2 := ⟨mg9 80 rfl rfl, mg0 118 rfl rfl, mg1 17 rfl rfl, mg9 81 rfl rfl, nc_RX12.1, nc_RX12.2, pd_2⟩
theorem cy_X12_playing : CY yX12_playing cX12_playing 8 (some .int) 3 := ⟨mg9 69 rfl rfl, mg0 116 rfl rfl, mg1 17 rfl rfl, mg9 70 rfl rfl, nc_RX12.1, nc_RX12.2, pd_40⟩
theorem cy_X12_game : CY yX12_game cX12_game 4 (some .int) 3 := ⟨mg9 60 rfl rfl, mg9 61 rfl rfl, mg1 17 rfl rfl, mg9 62 rfl rfl, nc_RX12.1, nc_RX12.2, pd_40⟩
theorem cy_X12_glenPart : CY yX12_glenPart cX12_glenPart 3 (some .boolean) 0 := ⟨mg7 135 rfl rfl, mg0 56 rfl rfl, mg1 17 rfl rfl, mg7 136 rfl rfl, nc_RX12.1, nc_RX12.2, pd_0⟩
theorem cy_X12_plain : CY yX12_plain cX12_plain 3 none 1 := ⟨mg6 155 rfl rfl, mg0 48 rfl rfl, mg1 17 rfl rfl, mg6 156 rfl rfl, nc_RX12.1, nc_RX12.2, pd_27⟩
theorem cy_X12_glen : CY yX12_glen cX12_glen 4 (some .int) 1 := ⟨mg7 106 rfl rfl, mg7 107 rfl rfl, mg1 17 rfl rfl, mg7 108 rfl rfl, nc_RX12.1, nc_RX12.2, pd_7⟩
theorem cy_X12_goal : CY yX12_goal cX12_goal 1 (some .int) 0 := ⟨mg8 47 rfl rfl, mg8 48 rfl rfl, mg1 17 rfl rfl, mg8 49 rfl rfl, nc_RX12.1, nc_RX12.2, pd_6⟩
theorem cy_X12_goalThing : CY yX12_goalThing cX12_goalThing 1 (some .int) 0 := ⟨mg8 63 rfl rfl, mg8 64 rfl rfl, mg1 17 rfl rfl, mg8 65 rfl rfl, nc_RX12.1, nc_RX12.2, pd_6⟩
theorem cy_X12_is : CY yX12_is cX12_is 2 (some .boolean) 1 := ⟨mg7 71 rfl rfl, mg0 49 rfl rfl, mg1 17 rfl rfl, mg7 72 rfl rfl, nc_RX12.1, nc_RX12.2, pd_26⟩
theorem cy_X12_grip : CY yX12_grip cX12_grip 3 (some .boolean) 2 := ⟨mg8 127 rfl rfl, mg8 128 rfl rfl, mg1 17 rfl rfl, mg8 129 rfl rfl, nc_RX12.1, nc_RX12.2, pd_43⟩
theorem cy_X12_groundIn : CY yX12_groundIn cX12_groundIn 5 (some .int) 2 := ⟨mg8 192 rfl rfl, mg8 193 rfl rfl, mg1 17 rfl rfl, mg8 194 rfl rfl, nc_RX12.1, nc_RX12.2, pd_18⟩
theorem cy_X12_heaviestOf : CY yX12_heaviestOf cX12_heaviestOf 5 (some .int) 0 := ⟨mg9 38 rfl rfl, mg0 113 rfl rfl, mg1 17 rfl rfl, mg9 39 rfl rfl, nc_RX12.1, nc_RX12.2, pd_6⟩
theorem cy_X12_heaviest : CY yX12_heaviest cX12_heaviest 1 (some .int) 0 := ⟨mg9 33 rfl rfl, mg9 34 rfl rfl, mg1 17 rfl rfl, mg9 35 rfl rfl, nc_RX12.1, nc_RX12.2, pd_6⟩
theorem cy_X12_heaviestWeight : CY yX12_heaviestWeight cX12_heaviestWeight 1 (some .int) 0 := ⟨mg9 44 rfl rfl, mg9 45 rfl rfl, mg1 17 rfl rfl, mg9 46 rfl rfl, nc_RX12.1, nc_RX12.2, pd_6⟩
theorem cy_X12_holds : CY yX12_holds cX12_holds 5 (some .boolean) 1 := ⟨mg9 135 rfl rfl, mg0 126 rfl rfl, mg1 17 rfl rfl, mg9 136 rfl rfl, nc_RX12.1, nc_RX12.2, pd_26⟩
theorem cy_X12_homeOf : CY yX12_homeOf cX12_homeOf 3 (some .int) 1 := ⟨mg8 177 rfl rfl, mg0 103 rfl rfl, mg1 17 rfl rfl, mg8 178 rfl rfl, nc_RX12.1, nc_RX12.2, pd_7⟩
theorem cy_X12_homeIn : CY yX12_homeIn cX12_homeIn 3 (some .int) 1 := ⟨mg8 172 rfl rfl, mg8 173 rfl rfl, mg1 17 rfl rfl, mg8 174 rfl rfl, nc_RX12.1, nc_RX12.2, pd_7⟩
theorem cy_X12_hour : CY yX12_hour cX12_hour 2 (some .int) 1 := ⟨mg8 71 rfl rfl, mg8 72 rfl rfl, mg1 17 rfl rfl, mg8 73 rfl rfl, nc_RX12.1, nc_RX12.2, pd_7⟩
theorem cy_X12_laysRide : CY yX12_laysRide cX12_laysRide 4 none 2 := ⟨mg9 53 rfl rfl, mg0 114 rfl rfl, mg1 17 rfl rfl, mg9 54 rfl rfl, nc_RX12.1, nc_RX12.2, pd_2⟩
theorem cy_X12_laysSoonest : CY yX12_laysSoonest cX12_laysSoonest 4 none 1 := ⟨mg8 226 rfl rfl, mg0 108 rfl rfl, mg1 17 rfl rfl, mg8 227 rfl rfl, nc_RX12.1, nc_RX12.2, pd_27⟩
theorem cy_X12_lives : CY yX12_lives cX12_lives 4 none 1 := ⟨mg9 110 rfl rfl, mg0 120 rfl rfl, mg1 17 rfl rfl, mg9 111 rfl rfl, nc_RX12.1, nc_RX12.2, pd_27⟩
theorem cy_X12_live : CY yX12_live cX12_live 3 (some .int) 1 := ⟨mg9 104 rfl rfl, mg9 105 rfl rfl, mg1 17 rfl rfl, mg9 106 rfl rfl, nc_RX12.1, nc_RX12.2, pd_7⟩
theorem cy_X12_lived : CY yX12_lived cX12_lived 2 (some .int) 1 := ⟨mg9 142 rfl rfl, mg9 143 rfl rfl, mg1 17 rfl rfl, mg9 144 rfl rfl, nc_RX12.1, nc_RX12.2, pd_7⟩
theorem cy_X12_make : CY yX12_make cX12_make 6 (some .int) 3 := ⟨mg8 136 rfl rfl, mg8 137 rfl rfl, mg1 17 rfl rfl, mg8 138 rfl rfl, nc_RX12.1, nc_RX12.2, pd_40⟩
theorem cy_X12_mark : CY yX12_mark cX12_mark 1 (some .int) 0 := ⟨mg9 150 rfl rfl, mg9 151 rfl rfl, mg1 17 rfl rfl, mg9 152 rfl rfl, nc_RX12.1, nc_RX12.2, pd_6⟩
theorem cy_X12_tellsBy : CY yX12_tellsBy cX12_tellsBy 11 (some .boolean) 2 := ⟨mg9 92 rfl rfl, mg0 119 rfl rfl, mg1 17 rfl rfl, mg9 93 rfl rfl, nc_RX12.1, nc_RX12.2, pd_44⟩
theorem cy_X12_mean : CY yX12_mean cX12_mean 6 (some .boolean) 2 := ⟨mg9 146 rfl rfl, mg9 147 rfl rfl, mg1 17 rfl rfl, mg9 148 rfl rfl, nc_RX12.1, nc_RX12.2, pd_43⟩
theorem cy_X12_mill : CY yX12_mill cX12_mill 3 (some .int) 2 := ⟨mg8 35 rfl rfl, mg8 36 rfl rfl, mg1 17 rfl rfl, mg8 37 rfl rfl, nc_RX12.1, nc_RX12.2, pd_18⟩
theorem cy_X12_mind : CY yX12_mind cX12_mind 3 (some .boolean) 2 := ⟨mg8 132 rfl rfl, mg8 133 rfl rfl, mg1 17 rfl rfl, mg8 134 rfl rfl, nc_RX12.1, nc_RX12.2, pd_43⟩
theorem cy_X12_minded : CY yX12_minded cX12_minded 5 (some .int) 3 := ⟨mg9 11 rfl rfl, mg9 12 rfl rfl, mg1 17 rfl rfl, mg9 13 rfl rfl, nc_RX12.1, nc_RX12.2, pd_40⟩
theorem cy_X12_mindedAt : CY yX12_mindedAt cX12_mindedAt 7 (some .int) 4 := ⟨mg9 24 rfl rfl, mg9 25 rfl rfl, mg1 17 rfl rfl, mg9 26 rfl rfl, nc_RX12.1, nc_RX12.2, pd_23⟩
theorem cy_X12_moveOf : CY yX12_moveOf cX12_moveOf 6 (some .int) 4 := ⟨mg9 83 rfl rfl, mg9 84 rfl rfl, mg1 17 rfl rfl, mg9 85 rfl rfl, nc_RX12.1, nc_RX12.2, pd_23⟩
theorem cy_X12_pour : CY yX12_pour cX12_pour 8 (some .boolean) 5 := ⟨mg7 90 rfl rfl, mg7 91 rfl rfl, mg1 17 rfl rfl, mg7 92 rfl rfl, nc_RX12.1, nc_RX12.2, pd_45⟩
theorem cy_X12_quietIn : CY yX12_quietIn cX12_quietIn 3 (some .int) 0 := ⟨mg8 196 rfl rfl, mg8 197 rfl rfl, mg1 17 rfl rfl, mg8 198 rfl rfl, nc_RX12.1, nc_RX12.2, pd_6⟩
theorem cy_X12_rain : CY yX12_rain cX12_rain 8 (some .boolean) 2 := ⟨mg9 95 rfl rfl, mg9 96 rfl rfl, mg1 17 rfl rfl, mg9 97 rfl rfl, nc_RX12.1, nc_RX12.2, pd_43⟩
theorem cy_X12_wrongPlace : CY yX12_wrongPlace cX12_wrongPlace 3 (some .int) 2 := ⟨mg7 79 rfl rfl, mg0 50 rfl rfl, mg1 17 rfl rfl, mg7 80 rfl rfl, nc_RX12.1, nc_RX12.2, pd_18⟩
theorem cy_X12_read : CY yX12_read cX12_read 3 (some .long) 2 := ⟨mg7 85 rfl rfl, mg7 86 rfl rfl, mg1 17 rfl rfl, mg7 87 rfl rfl, nc_RX12.1, nc_RX12.2, pd_47⟩
theorem cy_X12_ride : CY yX12_ride cX12_ride 3 (some .int) 2 := ⟨mg9 48 rfl rfl, mg9 49 rfl rfl, mg1 17 rfl rfl, mg9 50 rfl rfl, nc_RX12.1, nc_RX12.2, pd_18⟩
theorem cy_X12_stands : CY yX12_stands cX12_stands 5 none 1 := ⟨mg8 209 rfl rfl, mg0 106 rfl rfl, mg1 17 rfl rfl, mg8 210 rfl rfl, nc_RX12.1, nc_RX12.2, pd_27⟩
theorem cy_X12_ringing : CY yX12_ringing cX12_ringing 3 (some .int) 0 := ⟨mg8 205 rfl rfl, mg0 105 rfl rfl, mg1 17 rfl rfl, mg8 206 rfl rfl, nc_RX12.1, nc_RX12.2, pd_6⟩
theorem cy_X12_ring : CY yX12_ring cX12_ring 2 (some .int) 0 := ⟨mg8 200 rfl rfl, mg8 201 rfl rfl, mg1 17 rfl rfl, mg8 202 rfl rfl, nc_RX12.1, nc_RX12.2, pd_6⟩
theorem cy_X12_rule : CY yX12_rule cX12_rule 3 (some .boolean) 2 := ⟨mg8 146 rfl rfl, mg8 147 rfl rfl, mg1 17 rfl rfl, mg8 148 rfl rfl, nc_RX12.1, nc_RX12.2, pd_43⟩
theorem cy_X12_share : CY yX12_share cX12_share 4 (some .boolean) 1 := ⟨mg9 87 rfl rfl, mg9 88 rfl rfl, mg1 17 rfl rfl, mg9 89 rfl rfl, nc_RX12.1, nc_RX12.2, pd_26⟩
theorem cy_X12_soonest : CY yX12_soonest cX12_soonest 2 (some .int) 1 := ⟨mg8 221 rfl rfl, mg8 222 rfl rfl, mg1 17 rfl rfl, mg8 223 rfl rfl, nc_RX12.1, nc_RX12.2, pd_7⟩
theorem cy_X12_soonestIn : CY yX12_soonestIn cX12_soonestIn 2 (some .int) 1 := ⟨mg8 230 rfl rfl, mg8 231 rfl rfl, mg1 17 rfl rfl, mg8 232 rfl rfl, nc_RX12.1, nc_RX12.2, pd_7⟩
theorem cy_X12_status : CY yX12_status cX12_status 1 (some .int) 0 := ⟨mg7 51 rfl rfl, mg7 52 rfl rfl, mg1 17 rfl rfl, mg7 53 rfl rfl, nc_RX12.1, nc_RX12.2, pd_6⟩
theorem cy_X12_thing : CY yX12_thing cX12_thing 3 (some .int) 2 := ⟨mg8 23 rfl rfl, mg8 24 rfl rfl, mg1 17 rfl rfl, mg8 25 rfl rfl, nc_RX12.1, nc_RX12.2, pd_18⟩
theorem cy_X12_told : CY yX12_told cX12_told 2 (some .int) 1 := ⟨mg7 239 rfl rfl, mg8 0 rfl rfl, mg1 17 rfl rfl, mg8 1 rfl rfl, nc_RX12.1, nc_RX12.2, pd_7⟩
theorem cy_X12_top : CY yX12_top cX12_top 1 (some .long) 0 := ⟨mg7 55 rfl rfl, mg7 56 rfl rfl, mg1 17 rfl rfl, mg7 57 rfl rfl, nc_RX12.1, nc_RX12.2, pd_30⟩
theorem cy_X12_toss : CY yX12_toss cX12_toss 3 (some .boolean) 2 := ⟨mg8 103 rfl rfl, mg8 104 rfl rfl, mg1 17 rfl rfl, mg8 105 rfl rfl, nc_RX12.1, nc_RX12.2, pd_43⟩
theorem cy_X12_tray : CY yX12_tray cX12_tray 5 (some .boolean) 3 := ⟨mg7 63 rfl rfl, mg7 64 rfl rfl, mg1 17 rfl rfl, mg7 65 rfl rfl, nc_RX12.1, nc_RX12.2, pd_36⟩
theorem cy_X12_turnIn : CY yX12_turnIn cX12_turnIn 2 (some .int) 0 := ⟨mg8 184 rfl rfl, mg8 185 rfl rfl, mg1 17 rfl rfl, mg8 186 rfl rfl, nc_RX12.1, nc_RX12.2, pd_6⟩
theorem cy_X12_turnsIn : CY yX12_turnsIn cX12_turnsIn 3 (some .int) 1 := ⟨mg8 180 rfl rfl, mg8 181 rfl rfl, mg1 17 rfl rfl, mg8 182 rfl rfl, nc_RX12.1, nc_RX12.2, pd_7⟩
theorem cy_X12_undo : CY yX12_undo cX12_undo 1 (some .int) 0 := ⟨mg9 158 rfl rfl, mg9 159 rfl rfl, mg1 17 rfl rfl, mg9 160 rfl rfl, nc_RX12.1, nc_RX12.2, pd_6⟩
theorem cy_X12_waits : CY yX12_waits cX12_waits 3 (some .int) 2 := ⟨mg9 56 rfl rfl, mg9 57 rfl rfl, mg1 17 rfl rfl, mg9 58 rfl rfl, nc_RX12.1, nc_RX12.2, pd_18⟩
theorem cy_X12_write : CY yX12_write cX12_write 6 (some .boolean) 3 := ⟨mg7 74 rfl rfl, mg7 75 rfl rfl, mg1 17 rfl rfl, mg7 76 rfl rfl, nc_RX12.1, nc_RX12.2, pd_48⟩
