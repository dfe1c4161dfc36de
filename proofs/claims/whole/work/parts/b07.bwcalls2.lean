/-- a constructor's facts -/
def CYi (y : MethodName) (b : ByteArray) (nL : Nat) (n : Nat) : Prop :=
  Cond.instanceMethod y ∈ lw_g ∧ Cond.initialized y.cls ∈ lw_g ∧ Cond.code y b nL none ∈ lw_g ∧ y.name = "<init>" ∧ y.cls ≠ "java/lang/invoke/MethodHandle" ∧ y.cls ≠ "java/lang/invoke/VarHandle" ∧ (parseMethodDescriptor y.desc).map (fun d => d.parameters.length) = some n
theorem oi_1 : Cond.instanceMethod Lib.objectInit ∈ lw_g := by decide +kernel
theorem oi_2 : Cond.code Lib.objectInit ⟨#[0xb1]⟩ 1 none ∈ lw_g := by decide +kernel
section BWC
variable {M : Hd} {pc : Nat} {ls : LoS} {h : BM} {Q : PostB}
theorem bw_objInit {idx a : Nat} {st : List Vl} (hd : decode M.1 pc = .ok (.invokespecial idx, 3)) (hlk : Cond.methodLink M.2.2.1 idx Lib.objectInit ∈ lw_g) (hfr : 1 ≤ M.2.2.2.2.1.1 ∧ 20 ≤ M.2.2.2.2.1.2) (hs8 : (st.map wdV).sum ≤ 8) (kk : BW M (pc + 3) ls st h Q) : BW M pc ls (vr a :: st) h Q := by
  intro p l e R s m args below meth c H locs cells slots Z D α τ A hF hN hC hE h1 h2 hs hl L hL
  have f1 := hF.2.2.2.2.2.2.1
  have f2 := hF.2.2.2.2.2.2.2.1
  refine W.objInit (a := α a) (rest := stE α st) hF.1 hF.2.1 hF.2.2.2.1 (hF.2.2.2.2.1 _ hlk) (hF.2.2.2.2.1 _ oi_1) (hF.2.2.2.2.1 _ oi_2) rfl (hL.1.trans hF.2.2.1.symm) rfl hd (by omega) ?_ ?_
  · have e : ((stE α st).map fun v => v.category).sum = (st.map wdV).sum := sum_wd st
    show 2 * (F0 m pc L _).monitorRoom + ((stE α st).map fun v => v.category).sum + 12 ≤ R.locals
    rw [e]
    have : (F0 m pc L (stE α (vr a :: st))).monitorRoom = 0 := rfl
    omega
  · exact kk p l e R s m args below meth c H locs cells slots Z D α τ A hF hN hC hE h1 h2 (bok_t hs) hl L hL
theorem bargs_split {S : List Nat} {as st st0 : List Vl} {v : Vl} (hst : as.reverse ++ v :: st = st0) (hs : ∀ u ∈ st0, okB S u) : (∀ u ∈ v :: as, okB S u) ∧ ∀ u ∈ st, okB S u := by
  subst hst
  refine ⟨fun u hu => hs u ?_, fun u hu => hs u ?_⟩
  · rcases List.mem_cons.mp hu with rfl | hu
    · exact List.mem_append_right _ List.mem_cons_self
    · exact List.mem_append_left _ (List.mem_reverse.mpr hu)
  · exact List.mem_append_right _ (List.mem_cons_of_mem _ hu)
theorem bw_callI {y : MethodName} {b : ByteArray} {nL idx : Nat} {d' : Nat × Nat} {as st st0 : List Vl} {a mc ms : Nat} {Q1 : PostB} (f : BCt y b nL none d' (vr a :: as) (h.1, h.2.1, mc, ms) Q1) (hd : decode M.1 pc = .ok (.invokespecial idx, 3)) (hst : as.reverse ++ vr a :: st = st0) (hy : CYi y b nL as.length) (hlk : Cond.methodLink M.2.2.1 idx y ∈ lw_g) (hdd : d'.1 + 1 ≤ M.2.2.2.2.1.1) (hnl : 8 + (nL + 11) + d'.2 ≤ M.2.2.2.2.1.2) (hs8 : (st.map wdV).sum ≤ 8) (hb : mc ≤ h.2.2.1 ∧ ms ≤ h.2.2.2)
    (kk : ∀ rv b1, Q1 rv b1 → (∀ i ∈ h.1, i ∈ b1.1) → BW M (pc + 3) ls (rv.toList ++ st) (b1.1, b1.2.1, h.2.2.1 - mc, h.2.2.2 - ms) Q) : BW M pc ls st0 h Q := by
  intro p l e R s m args below meth c H locs cells slots Z D α τ A hF hN hC hE h1 h2 hs hl L hL
  obtain ⟨as1, as2⟩ := bargs_split hst hs
  subst hst
  obtain ⟨y1, y3, y4, yn, y5, y6, y7⟩ := hy
  have hA := hF.2.2.2.2.2.2.2.2.2.2.1
  have hts := hF.2.2.2.2.1
  have hfr := hF.2.2.2.2.2.2.1
  have hlo := hF.2.2.2.2.2.2.2.1
  have hw : ∀ w ∈ Cond.code y b nL none :: lw_g, w ∈ lw_g := fun w hw => by
    rcases List.mem_cons.mp hw with rfl | hw
    · exact y4
    · exact hw
  have cw := cwI (R := R) (s := s) (args := args) (own := M.2.2.1) (index := idx) (y := y) (bytes := b) (maxL := nL) (rm := rmB d' mc ms) (mc := mc) (ms := ms) as.length hts (goodSub hw) rfl rfl rfl (hts _ y3) (hts _ hlk) (hts _ y1) yn ⟨y5, y6, y7⟩ ⟨Nat.le_trans hdd hfr, Nat.le_trans hnl hlo⟩
  have hp : PreS s H (Pgb D α τ H.size (vr a :: as) (h.1, h.2.1, mc, ms)) (.ref (α a) :: stE α as) := ⟨Pgb.blind, fun U hU hW => ⟨rfl, by rw [hU], by rw [hU]; exact hC.1, hF.2.2.2.2.2.1.moved hW.alike, hC.2.1.weaken (fun _ _ _ _ => trivial), hC.2.2.2, as1, hF.2.2.2.2.2.2.2.2.2.2.2.next hW (fun q g1 g2 => by rw [hU]; exact hC.2.2.1.2.1 q g1 g2) (bA_sub hA hC), hN.2.warm hW⟩⟩
  refine bcall_go (mc := mc) (ms := ms) (b0 := (h.1, h.2.1, mc, ms)) ⟨rfl, rfl⟩ (va_runI (mc := mc) (ms := ms) (As := stE α as) (rest := stE α st) (b := α a) ⟨hF.1, hF.2.1, hF.2.2.1, hF.2.2.2.1, hts⟩ (f l D α τ H.size) cw hp rfl (by simp) hL.1 (by simp [stE, List.map_append, List.map_reverse]; rfl) (lv_room (by rw [sum_wd]; exact hs8)) hd ⟨by omega, by omega⟩) hA hC (fun β rv u H1 locs1 q1 g1 g2 q2 q3 => ?_)
  have := bw_grow (S1 := u.1) (g := u.2.1) hF hN hE h1 h2 hl hL g1 g2 q3 hb (by
    cases rv with
    | none => exact okB_sub as2 g2
    | some v => exact bok_c (q2 v rfl) (okB_sub as2 g2)) (kk rv u q1 g2)
  have e4 : stE β (rv.toList ++ st) = stE β rv.toList ++ stE α st := by
    rw [← stE_al as2 g1]
    simp [stE]
  rw [e4] at this
  exact this
theorem bw_callIN {y : MethodName} {b : ByteArray} {nL idx : Nat} {d' : Nat × Nat} {as st st0 : List Vl} {a mc ms : Nat} {Q1 : PostB} (f : BCt y b nL none d' (vr a :: as) (h.1, h.2.1, mc, ms) Q1) (hd : decode M.1 pc = .ok (.invokespecial idx, 3)) (hst : as.reverse ++ vr a :: st = st0) (hy : CYi y b nL as.length) {host : String} (hlk : (M.2.2.1, idx, y, host) ∈ nestL) (hdd : d'.1 + 1 ≤ M.2.2.2.2.1.1) (hnl : 8 + (nL + 11) + d'.2 ≤ M.2.2.2.2.1.2) (hs8 : (st.map wdV).sum ≤ 8) (hb : mc ≤ h.2.2.1 ∧ ms ≤ h.2.2.2)
    (kk : ∀ rv b1, Q1 rv b1 → (∀ i ∈ h.1, i ∈ b1.1) → BW M (pc + 3) ls (rv.toList ++ st) (b1.1, b1.2.1, h.2.2.1 - mc, h.2.2.2 - ms) Q) : BW M pc ls st0 h Q := by
  intro p l e R s m args below meth c H locs cells slots Z D α τ A hF hN hC hE h1 h2 hs hl L hL
  obtain ⟨as1, as2⟩ := bargs_split hst hs
  subst hst
  obtain ⟨y1, y3, y4, yn, y5, y6, y7⟩ := hy
  have hA := hF.2.2.2.2.2.2.2.2.2.2.1
  have hts := hF.2.2.2.2.1
  have hfr := hF.2.2.2.2.2.2.1
  have hlo := hF.2.2.2.2.2.2.2.1
  have hw : ∀ w ∈ Cond.code y b nL none :: lw_g, w ∈ lw_g := fun w hw => by
    rcases List.mem_cons.mp hw with rfl | hw
    · exact y4
    · exact hw
  have cw : va_CN R s args M.2.2.1 idx y host b nL none (Cond.code y b nL none :: lw_g) (rmB d' mc ms) mc ms as.length ∧ y.name = "<init>" ∧ (Cond.instanceMethod y).before args s = true := ⟨va_cnB as.length hts (goodSub hw) rfl rfl rfl (hN.2.1 _ hlk) (hts _ y3) ⟨y5, y6, y7⟩ ⟨Nat.le_trans hdd hfr, Nat.le_trans hnl hlo⟩, yn, hts _ y1⟩
  have hp : PreS s H (Pgb D α τ H.size (vr a :: as) (h.1, h.2.1, mc, ms)) (.ref (α a) :: stE α as) := ⟨Pgb.blind, fun U hU hW => ⟨rfl, by rw [hU], by rw [hU]; exact hC.1, hF.2.2.2.2.2.1.moved hW.alike, hC.2.1.weaken (fun _ _ _ _ => trivial), hC.2.2.2, as1, hF.2.2.2.2.2.2.2.2.2.2.2.next hW (fun q g1 g2 => by rw [hU]; exact hC.2.2.1.2.1 q g1 g2) (bA_sub hA hC), hN.2.warm hW⟩⟩
  refine bcall_go (mc := mc) (ms := ms) (b0 := (h.1, h.2.1, mc, ms)) ⟨rfl, rfl⟩ (va_runIN (mc := mc) (ms := ms) (As := stE α as) (rest := stE α st) (b := α a) ⟨hF.1, hF.2.1, hF.2.2.1, hF.2.2.2.1, hts⟩ (f l D α τ H.size) cw hp rfl (by simp) hL.1 (by simp [stE, List.map_append, List.map_reverse]; rfl) (lv_room (by rw [sum_wd]; exact hs8)) hd ⟨by omega, by omega⟩) hA hC (fun β rv u H1 locs1 q1 g1 g2 q2 q3 => ?_)
  have := bw_grow (S1 := u.1) (g := u.2.1) hF hN hE h1 h2 hl hL g1 g2 q3 hb (by
    cases rv with
    | none => exact okB_sub as2 g2
    | some v => exact bok_c (q2 v rfl) (okB_sub as2 g2)) (kk rv u q1 g2)
  have e4 : stE β (rv.toList ++ st) = stE β rv.toList ++ stE α st := by
    rw [← stE_al as2 g1]
    simp [stE]
  rw [e4] at this
  exact this
theorem bw_callV {y : MethodName} {b : ByteArray} {nL idx : Nat} {d' : Nat × Nat} {ret : Option FieldType} {as st st0 : List Vl} {a mc ms : Nat} {Q1 : PostB} (f : BCt y b nL ret d' (vr a :: as) (h.1, h.2.1, mc, ms) Q1) (hd : decode M.1 pc = .ok (.invokevirtual idx, 3)) (hst : as.reverse ++ vr a :: st = st0) (hrc : Rcv y.cls a) (hy : CY y b nL ret as.length) (hlk : Cond.methodLink M.2.2.1 idx y ∈ lw_g) (hdd : d'.1 + 1 ≤ M.2.2.2.2.1.1) (hnl : 8 + (nL + 11) + d'.2 ≤ M.2.2.2.2.1.2) (hs8 : (st.map wdV).sum ≤ 8) (hb : mc ≤ h.2.2.1 ∧ ms ≤ h.2.2.2)
    (kk : ∀ rv b1, Q1 rv b1 → (∀ i ∈ h.1, i ∈ b1.1) → BW M (pc + 3) ls (rv.toList ++ st) (b1.1, b1.2.1, h.2.2.1 - mc, h.2.2.2 - ms) Q) : BW M pc ls st0 h Q := by
  intro p l e R s m args below meth c H locs cells slots Z D α τ A hF hN hC hE h1 h2 hs hl L hL
  obtain ⟨as1, as2⟩ := bargs_split hst hs
  subst hst
  obtain ⟨y1, y2, y3, y4, y5, y6, y7⟩ := hy
  have hA := hF.2.2.2.2.2.2.2.2.2.2.1
  have hts := hF.2.2.2.2.1
  have hfr := hF.2.2.2.2.2.2.1
  have hlo := hF.2.2.2.2.2.2.2.1
  have hw : ∀ w ∈ wsV M.2.2.1 idx y.cls y (Cond.code y b nL ret :: lw_g), w ∈ lw_g := by
    intro w hw
    simp only [wsV, List.cons_append, List.nil_append, List.mem_cons] at hw
    rcases hw with rfl | rfl | rfl | rfl | rfl | hw
    · exact hlk
    · exact y1
    · exact y2
    · exact y3
    · exact y4
    · exact hw
  have cw : CallW R s args M.2.2.1 y.cls idx y b nL ret (Cond.code y b nL ret :: lw_g) (rmB d' mc ms) mc ms as.length := cwV as.length hts (goodSub hw) rfl rfl rfl ⟨rfl, y5, y6, y7⟩ ⟨Nat.le_trans hdd hfr, Nat.le_trans hnl hlo⟩
  have hrcv : ∃ cell : Cell, H[α a]? = some cell ∧ cell.vm.isStatics = false ∧ s.vm.findClass y.cls = some cell.cls := by
    rcases hrc with ⟨ci, T, N, r1, r2⟩ | ⟨r1, r2⟩
    · obtain ⟨q0, hq, hw⟩ := wdS_mem (α := α) (τ := τ) (h := h.2.1) (bin_S (as1 _ List.mem_cons_self) r1 (by omega))
      exact va_recv (q := (y.cls, T, N)) (q0 := q0) hF.2.2.2.2.2.1 hC.1 r2 (by rw [hw, entB_ob r1])
    · rw [r1]
      rcases r2 with rfl | rfl
      · exact vk_recv (i := 0) hF.2.2.2.2.2.2.2.2.2.2.2.1 (by omega) hC.2.2.1
      · exact vk_recv (i := 1) hF.2.2.2.2.2.2.2.2.2.2.2.1 (by omega) hC.2.2.1
  have hp : PreV s H y.cls (α a) (Pgb D α τ H.size (vr a :: as) (h.1, h.2.1, mc, ms)) (stE α as) := ⟨Pgb.blind, hrcv, fun U hU hW => ⟨rfl, by rw [hU], by rw [hU]; exact hC.1, hF.2.2.2.2.2.1.moved hW.alike, hC.2.1.weaken (fun _ _ _ _ => trivial), hC.2.2.2, as1, hF.2.2.2.2.2.2.2.2.2.2.2.next hW (fun q g1 g2 => by rw [hU]; exact hC.2.2.1.2.1 q g1 g2) (bA_sub hA hC), hN.2.warm hW⟩⟩
  refine bcall_go (mc := mc) (ms := ms) (b0 := (h.1, h.2.1, mc, ms)) ⟨rfl, rfl⟩ (va_runV (mc := mc) (ms := ms) (As := stE α as) (rest := stE α st) (b := α a) ⟨hF.1, hF.2.1, hF.2.2.1, hF.2.2.2.1, hts⟩ (f l D α τ H.size) cw hp rfl (by simp) hL.1 (by simp [stE, List.map_append, List.map_reverse]; rfl) (lv_room (by rw [sum_wd]; exact hs8)) hd ⟨by omega, by omega⟩) hA hC (fun β rv u H1 locs1 q1 g1 g2 q2 q3 => ?_)
  have := bw_grow (S1 := u.1) (g := u.2.1) hF hN hE h1 h2 hl hL g1 g2 q3 hb (by
    cases rv with
    | none => exact okB_sub as2 g2
    | some v => exact bok_c (q2 v rfl) (okB_sub as2 g2)) (kk rv u q1 g2)
  have e4 : stE β (rv.toList ++ st) = stE β rv.toList ++ stE α st := by
    rw [← stE_al as2 g1]
    simp [stE]
  rw [e4] at this
  exact this
theorem bw_callS {y : MethodName} {b : ByteArray} {nL idx : Nat} {d' : Nat × Nat} {ret : Option FieldType} {as st st0 : List Vl} {mc ms : Nat} {Q1 : PostB} (f : BCt y b nL ret d' as (h.1, h.2.1, mc, ms) Q1) (hd : decode M.1 pc = .ok (.invokestatic idx, 3)) (hst : as.reverse ++ st = st0) (hy : CYs y b nL ret as.length) (hlk : Cond.methodLink M.2.2.1 idx y ∈ lw_g) (hdd : d'.1 + 1 ≤ M.2.2.2.2.1.1) (hnl : 8 + (nL + 11) + d'.2 ≤ M.2.2.2.2.1.2) (hs8 : (st.map wdV).sum ≤ 8) (hb : mc ≤ h.2.2.1 ∧ ms ≤ h.2.2.2)
    (kk : ∀ rv b1, Q1 rv b1 → (∀ i ∈ h.1, i ∈ b1.1) → BW M (pc + 3) ls (rv.toList ++ st) (b1.1, b1.2.1, h.2.2.1 - mc, h.2.2.2 - ms) Q) : BW M pc ls st0 h Q := by
  intro p l e R s m args below meth c H locs cells slots Z D α τ A hF hN hC hE h1 h2 hs hl L hL
  subst hst
  have as1 : ∀ u ∈ as, okB h.1 u := fun u hu => hs u (List.mem_append_left _ (List.mem_reverse.mpr hu))
  have as2 : ∀ u ∈ st, okB h.1 u := fun u hu => hs u (List.mem_append_right _ hu)
  obtain ⟨y1, y3, y4, y5, y6, y7⟩ := hy
  have hA := hF.2.2.2.2.2.2.2.2.2.2.1
  have hts := hF.2.2.2.2.1
  have hfr := hF.2.2.2.2.2.2.1
  have hlo := hF.2.2.2.2.2.2.2.1
  have hw : ∀ w ∈ va_wsS M.2.2.1 idx y (Cond.code y b nL ret :: lw_g), w ∈ lw_g := by
    intro w hw
    simp only [va_wsS, List.cons_append, List.nil_append, List.mem_cons] at hw
    rcases hw with rfl | rfl | rfl | rfl | hw
    · exact hlk
    · exact y1
    · exact y3
    · exact y4
    · exact hw
  have cw := va_cwS (R := R) (s := s) (args := args) (own := M.2.2.1) (index := idx) (y := y) (bytes := b) (maxL := nL) (ret := ret) (rm := rmB d' mc ms) as.length hts (goodSub hw) rfl rfl rfl ⟨y5, y6, y7⟩ ⟨Nat.le_trans hdd hfr, Nat.le_trans hnl hlo⟩
  have hp : PreS s H (Pgb D α τ H.size as (h.1, h.2.1, mc, ms)) (stE α as) := ⟨Pgb.blind, fun U hU hW => ⟨rfl, by rw [hU], by rw [hU]; exact hC.1, hF.2.2.2.2.2.1.moved hW.alike, hC.2.1.weaken (fun _ _ _ _ => trivial), hC.2.2.2, as1, hF.2.2.2.2.2.2.2.2.2.2.2.next hW (fun q g1 g2 => by rw [hU]; exact hC.2.2.1.2.1 q g1 g2) (bA_sub hA hC), hN.2.warm hW⟩⟩
  refine bcall_go (mc := mc) (ms := ms) (b0 := (h.1, h.2.1, mc, ms)) ⟨rfl, rfl⟩ (va_runS (mc := mc) (ms := ms) (As := stE α as) (rest := stE α st) ⟨hF.1, hF.2.1, hF.2.2.1, hF.2.2.2.1, hts⟩ (f l D α τ H.size) cw hp rfl (by simp) hL.1 (by simp [stE, List.map_append, List.map_reverse]) (lv_room (by rw [sum_wd]; exact hs8)) hd ⟨by omega, by omega⟩) hA hC (fun β rv u H1 locs1 q1 g1 g2 q2 q3 => ?_)
  have := bw_grow (S1 := u.1) (g := u.2.1) hF hN hE h1 h2 hl hL g1 g2 q3 hb (by
    cases rv with
    | none => exact okB_sub as2 g2
    | some v => exact bok_c (q2 v rfl) (okB_sub as2 g2)) (kk rv u q1 g2)
  have e4 : stE β (rv.toList ++ st) = stE β rv.toList ++ stE α st := by
    rw [← stE_al as2 g1]
    simp [stE]
  rw [e4] at this
  exact this
end BWC
