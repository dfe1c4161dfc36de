/-! arraycopy, arrays of references, lengths, the script, the texts, two statics -/
theorem ent_5 {α : Nat → Nat} {τ : Nat → ClassId} {h : Mem} {b n : Nat} (hb : lay b = (5, n)) : ent α τ h b = .inl (τ 4, n, .inr (.inr (.inr (.inr (fun j => some (α (b + 1 + 15 * j))))))) := by unfold ent; rw [hb]; rfl
theorem ent_6 {α : Nat → Nat} {τ : Nat → ClassId} {h : Mem} {b n : Nat} (hb : lay b = (6, n)) : ent α τ h b = .inl (τ 5, n, .inr (.inr (.inr (.inr (fun j => some (α (b + 1 + 6 * j))))))) := by unfold ent; rw [hb]; rfl
theorem ent_7 {α : Nat → Nat} {τ : Nat → ClassId} {h : Mem} {b n : Nat} (hb : lay b = (7, n)) : ent α τ h b = .inl (τ 6, n, .inr (.inr (.inr (.inr (fun j => some (α (b + 1 + 1 * j))))))) := by unfold ent; rw [hb]; rfl
section AWQ
variable {M : Hd} {pc : Nat} {ls : LoS} {st : List Vl} {h : Mem} {Q : PostV}
theorem aw_ald5 {b n : Nat} {i : Int} (hd : decode M.1 pc = .ok (.aaload, 1)) (hb : lay b = (5, n)) (hi : 0 ≤ i ∧ i < (n : Int)) (kk : AW M (pc + 1) ls (vr (b + 1 + 15 * i.toNat) :: st) h Q) : AW M pc ls ((0, i) :: vr b :: st) h Q := by
  intro p l e R s m args below meth c H locs cells slots Z D α τ A hF hC hE h1 h2 hs hl L hL
  obtain ⟨g1, g2⟩ := i32_in hi (lay_small hb)
  refine va_aldq (C := RX4) hF.1 hF.2.1 hF.2.2.2.2.2.1 hC.1 b 4 (by rw [wd_get (lay_lt hb (by omega)), ent_5 hb]) rfl g1 hd ?_
  rw [g2]
  exact kk p l e R s m args below meth c H locs cells slots Z D α τ A hF hC hE h1 h2 (ok_c trivial (ok_t (ok_t hs))) hl L hL
theorem aw_ald6 {b n : Nat} {i : Int} (hd : decode M.1 pc = .ok (.aaload, 1)) (hb : lay b = (6, n)) (hi : 0 ≤ i ∧ i < (n : Int)) (kk : AW M (pc + 1) ls (vr (b + 1 + 6 * i.toNat) :: st) h Q) : AW M pc ls ((0, i) :: vr b :: st) h Q := by
  intro p l e R s m args below meth c H locs cells slots Z D α τ A hF hC hE h1 h2 hs hl L hL
  obtain ⟨g1, g2⟩ := i32_in hi (lay_small hb)
  refine va_aldq (C := RX1) hF.1 hF.2.1 hF.2.2.2.2.2.1 hC.1 b 5 (by rw [wd_get (lay_lt hb (by omega)), ent_6 hb]) rfl g1 hd ?_
  rw [g2]
  exact kk p l e R s m args below meth c H locs cells slots Z D α τ A hF hC hE h1 h2 (ok_c trivial (ok_t (ok_t hs))) hl L hL
theorem aw_ald7 {b n : Nat} {i : Int} (hd : decode M.1 pc = .ok (.aaload, 1)) (hb : lay b = (7, n)) (hi : 0 ≤ i ∧ i < (n : Int)) (kk : AW M (pc + 1) ls (vr (b + 1 + 1 * i.toNat) :: st) h Q) : AW M pc ls ((0, i) :: vr b :: st) h Q := by
  intro p l e R s m args below meth c H locs cells slots Z D α τ A hF hC hE h1 h2 hs hl L hL
  obtain ⟨g1, g2⟩ := i32_in hi (lay_small hb)
  have hlt : (Int32.ofInt i).toNatClampNeg < n := Nat.not_le.mp fun q => g1 (Or.inr q)
  have ha : (wd α τ h)[b]? = some (α b, .inl (τ 6, n, .inr (.inr (.inr (.inr (fun j => some (α (b + 1 + 1 * j)))))))) := by rw [wd_get (lay_lt hb (by omega)), ent_7 hb]
  refine W.aald (v := .ref (α (b + 1 + 1 * i.toNat))) (ty := .array .long) hF.1 hF.2.1 (hC.1 b _ ha) ((hF.2.2.2.2.2.1.2 6 _ rfl).1 n (fun j => va_rf (some (α (b + 1 + 1 * j))))) rfl (fun q => by cases q) (by show ¬ (Int32.ofInt i < 0 ∨ (arrV _ _ _).slots.size ≤ _); rw [arrV_size]; exact g1) (by show (arrV _ _ _).slots[_]? = _; rw [arrV_read _ _ hlt, g2]; rfl) rfl rfl hd ?_
  exact kk p l e R s m args below meth c H locs cells slots Z D α τ A hF hC hE h1 h2 (ok_c trivial (ok_t (ok_t hs))) hl L hL
theorem aw_alen {b n : Nat} (hd : decode M.1 pc = .ok (.arraylength, 1)) (hb : lay b = (1, n)) (kk : AW M (pc + 1) ls ((0, (n : Int)) :: st) h Q) : AW M pc ls (vr b :: st) h Q := by
  intro p l e R s m args below meth c H locs cells slots Z D α τ A hF hC hE h1 h2 hs hl L hL
  have hsm := lay_small hb
  exact va_alen (ty := .int) (x := (n, .inl (fun j => Int32.ofInt (h b j)))) (v := Int32.ofInt (n : Int)) hF.1 hF.2.1 hF.2.2.2.2.2.1 hC.1 b 0 (by rw [wd_get (lay_lt hb (by omega)), ent_i hb]) rfl (Int32.ofInt_eq_ofNat.symm) hd (kk p l e R s m args below meth c H locs cells slots Z D α τ A hF hC hE h1 h2 (ok_c (show InR (n : Int) from ⟨by omega, by omega⟩) (ok_t hs)) hl L hL)
theorem aw_copyi {a b na nb idx k1 k2 k3 : Nat} {sp dp n : Int} (hd : decode M.1 pc = .ok (.invokestatic idx, 3)) (hlk : Cond.methodLink M.2.2.1 idx arraycopyName ∈ lw_g) (ha : lay a = (1, na)) (hb : lay b = (1, nb)) (h3 : 0 ≤ sp ∧ 0 ≤ dp ∧ 0 ≤ n ∧ sp + n ≤ (na : Int) ∧ dp + n ≤ (nb : Int)) (hfr : 1 ≤ M.2.2.2.2.1.1 ∧ 45 ≤ M.2.2.2.2.1.2) (hs8 : (st.map wdV).sum ≤ 8) (hk : sp.toNat = k1 ∧ dp.toNat = k2 ∧ n.toNat = k3) (kk : AW M (pc + 3) ls st (mcpy h a k1 b k2 k3) Q) : AW M pc ls ((0, n) :: (0, dp) :: vr b :: (0, sp) :: vr a :: st) h Q := by
  intro p l e R s m args below meth c H locs cells slots Z D α τ A hF hC hE h1 h2 hs hl L hL
  obtain ⟨rfl, rfl, rfl⟩ := hk
  have hn := cp_n (x := n) h3.2.2.1 (ok_h hs)
  have hdp := cp_n (x := dp) h3.2.1 (ok_h (ok_t hs))
  have hsp := cp_n (x := sp) h3.1 (ok_h (ok_t (ok_t (ok_t hs))))
  have hbo : b < nOb := lay_lt hb (by omega)
  have hts := hF.2.2.2.2.1
  refine va_copyi (ty := .int) hF.1 hF.2.1 (hF.2.2.1.trans hL.1.symm) hF.2.2.2.1 (hts _ hlk) (hts _ arr_nat) (hts _ arr_sta) (hts _ arr_ini) hF.2.2.2.2.2.1 hC.1 hC.2.1 hC.2.2.1 a b 0 0 (by rw [wd_get (lay_lt ha (by omega)), ent_i ha]) (by rw [wd_get hbo, ent_i hb]) rfl rfl rfl hsp.1 hdp.1 hn.1 (by rw [hsp.2, hn.2]; omega) (by rw [hdp.2, hn.2]; omega) (fun i hi => rfl) (Nat.le_trans hfr.1 hF.2.2.2.2.2.2.1) ?_ hd (fun H1 locs1 p1 p2 p3 => ?_)
  · rw [sum_wd]
    have e1 := hF.2.2.2.2.2.2.2.1
    have e2 : nativeFrameWords "java/lang/System" "arraycopy" 5 ≤ 26 := by decide +kernel
    have e3 := hfr.2
    omega
  · rw [hsp.2, hdp.2, hn.2, cpy_i, wd_set hbo (ent_i hb) (fun i j hij => mcpy_i j hij)] at p1 p2
    exact kk p l e R s m args below meth c H1 locs1 cells slots Z D α τ A hF ⟨p1, p2, p3, ok_mcpy hC.2.2.2 (fun j k x hx => by rw [skd_a ha (k := 0) _ (by omega) rfl] at hx; rw [skd_a hb (k := 0) _ (by omega) rfl]; exact hx)⟩ hE h1 h2 (ok_t (ok_t (ok_t (ok_t (ok_t hs))))) hl L hL
theorem aw_copyl {a b na nb idx k1 k2 k3 : Nat} {sp dp n : Int} (hd : decode M.1 pc = .ok (.invokestatic idx, 3)) (hlk : Cond.methodLink M.2.2.1 idx arraycopyName ∈ lw_g) (ha : lay a = (2, na)) (hb : lay b = (2, nb)) (h3 : 0 ≤ sp ∧ 0 ≤ dp ∧ 0 ≤ n ∧ sp + n ≤ (na : Int) ∧ dp + n ≤ (nb : Int)) (hfr : 1 ≤ M.2.2.2.2.1.1 ∧ 45 ≤ M.2.2.2.2.1.2) (hs8 : (st.map wdV).sum ≤ 8) (hk : sp.toNat = k1 ∧ dp.toNat = k2 ∧ n.toNat = k3) (kk : AW M (pc + 3) ls st (mcpy h a k1 b k2 k3) Q) : AW M pc ls ((0, n) :: (0, dp) :: vr b :: (0, sp) :: vr a :: st) h Q := by
  intro p l e R s m args below meth c H locs cells slots Z D α τ A hF hC hE h1 h2 hs hl L hL
  obtain ⟨rfl, rfl, rfl⟩ := hk
  have hn := cp_n (x := n) h3.2.2.1 (ok_h hs)
  have hdp := cp_n (x := dp) h3.2.1 (ok_h (ok_t hs))
  have hsp := cp_n (x := sp) h3.1 (ok_h (ok_t (ok_t (ok_t hs))))
  have hbo : b < nOb := lay_lt hb (by omega)
  have hts := hF.2.2.2.2.1
  refine va_copyl (ty := .long) hF.1 hF.2.1 (hF.2.2.1.trans hL.1.symm) hF.2.2.2.1 (hts _ hlk) (hts _ arr_nat) (hts _ arr_sta) (hts _ arr_ini) hF.2.2.2.2.2.1 hC.1 hC.2.1 hC.2.2.1 a b 1 1 (by rw [wd_get (lay_lt ha (by omega)), ent_l ha]) (by rw [wd_get hbo, ent_l hb]) rfl rfl rfl hsp.1 hdp.1 hn.1 (by rw [hsp.2, hn.2]; omega) (by rw [hdp.2, hn.2]; omega) (fun i hi => rfl) (Nat.le_trans hfr.1 hF.2.2.2.2.2.2.1) ?_ hd (fun H1 locs1 p1 p2 p3 => ?_)
  · rw [sum_wd]
    have e1 := hF.2.2.2.2.2.2.2.1
    have e2 : nativeFrameWords "java/lang/System" "arraycopy" 5 ≤ 26 := by decide +kernel
    have e3 := hfr.2
    omega
  · rw [hsp.2, hdp.2, hn.2, cpy_l, wd_set hbo (ent_l hb) (fun i j hij => mcpy_i j hij)] at p1 p2
    exact kk p l e R s m args below meth c H1 locs1 cells slots Z D α τ A hF ⟨p1, p2, p3, ok_mcpy hC.2.2.2 (fun j k x hx => by rw [skd_a ha (k := 1) _ (by omega) rfl] at hx; rw [skd_a hb (k := 1) _ (by omega) rfl]; exact hx)⟩ hE h1 h2 (ok_t (ok_t (ok_t (ok_t (ok_t hs))))) hl L hL
/-! the script: object 181 -/
theorem aw_sld {i : Int} (hd : decode M.1 pc = .ok (.iaload, 1)) (hi : 0 ≤ i ∧ i < (M.2.2.2.2.2.1 : Int)) (kk : AW M (pc + 1) ls ((0, M.2.2.2.2.2.2 i.toNat) :: st) h Q) : AW M pc ls ((0, i) :: vr 181 :: st) h Q := by
  intro p l e R s m args below meth c H locs cells slots Z D α τ A hF hC hE h1 h2 hs hl L hL
  obtain ⟨x1, x2, x3, x4, x5⟩ := hF.2.2.2.2.2.2.2.2.2.2.2.2.2.2.2.2 (by omega)
  obtain ⟨g1, g2⟩ := i32_in hi (by omega)
  refine va_sld hF.1 hF.2.1 x1 x2 x3 hC.2.2.1 g1 hd ?_
  rw [g2]
  exact kk p l e R s m args below meth c H locs cells slots Z D α τ A hF hC hE h1 h2 (ok_c (x5 _) (ok_t (ok_t hs))) hl L hL
/-! texts -/
theorem aw_ldcX (hown : M.2.2.1 = RX8) (hd : decode M.1 pc = .ok (.ldc 48, 2)) (kk : AW M (pc + 2) ls (vr 182 :: st) h Q) : AW M pc ls st h Q := by
  intro p l e R s m args below meth c H locs cells slots Z D α τ A hF hC hE h1 h2 hs hl L hL
  exact va_ldcS hF.1 hF.2.1 (own := RX8) (by rw [← hown]; exact hF.2.2.2.1) hF.2.2.2.2.2.2.2.2.2.2.2.2.2.2.1 hd (kk p l e R s m args below meth c H locs cells slots Z D α τ A hF hC hE h1 h2 (ok_c trivial hs) hl L hL)
theorem aw_ldcM (hown : M.2.2.1 = RX12) (hd : decode M.1 pc = .ok (.ldc 184, 2)) (kk : AW M (pc + 2) ls (vr 183 :: st) h Q) : AW M pc ls st h Q := by
  intro p l e R s m args below meth c H locs cells slots Z D α τ A hF hC hE h1 h2 hs hl L hL
  exact va_ldcS hF.1 hF.2.1 (own := RX12) (by rw [← hown]; exact hF.2.2.2.1) hF.2.2.2.2.2.2.2.2.2.2.2.2.2.2.2.1 hd (kk p l e R s m args below meth c H locs cells slots Z D α τ A hF hC hE h1 h2 (ok_c trivial hs) hl L hL)
theorem aw_scoder {i idx : Nat} (hi : i < 2) (hd : decode M.1 pc = .ok (.getfield idx, 3)) (hlk : Cond.fieldLink M.2.2.1 idx "java/lang/String" "coder" "B" ∈ lw_g) (kk : AW M (pc + 3) ls ((0, 0) :: st) h Q) : AW M pc ls (vr (182 + i) :: st) h Q := by
  intro p l e R s m args below meth c H locs cells slots Z D α τ A hF hC hE h1 h2 hs hl L hL
  exact vk_getf hF.1 hF.2.1 (hF.2.2.2.2.2.2.2.2.2.2.2.1.1 i hi).2.1 hC.2.2.1 hF.2.2.2.1 (hF.2.2.2.2.1 _ hlk) (fun x hx => hx) hd (kk p l e R s m args below meth c H locs cells slots Z D α τ A hF hC hE h1 h2 (ok_c z0 (ok_t hs)) hl L hL)
theorem aw_svalue {i idx : Nat} (hi : i < 2) (hd : decode M.1 pc = .ok (.getfield idx, 3)) (hlk : Cond.fieldLink M.2.2.1 idx "java/lang/String" "value" "[B" ∈ lw_g) (kk : AW M (pc + 3) ls (vr (184 + i) :: st) h Q) : AW M pc ls (vr (182 + i) :: st) h Q := by
  intro p l e R s m args below meth c H locs cells slots Z D α τ A hF hC hE h1 h2 hs hl L hL
  exact vk_getf hF.1 hF.2.1 (hF.2.2.2.2.2.2.2.2.2.2.2.1.1 i hi).2.2.1 hC.2.2.1 hF.2.2.2.1 (hF.2.2.2.2.1 _ hlk) (fun x hx => hx) hd (kk p l e R s m args below meth c H locs cells slots Z D α τ A hF hC hE h1 h2 (ok_c trivial (ok_t hs)) hl L hL)
theorem aw_slen {i : Nat} (hi : i < 2) (hd : decode M.1 pc = .ok (.arraylength, 1)) (kk : AW M (pc + 1) ls ((0, ((strL.getD i 0 : Nat) : Int)) :: st) h Q) : AW M pc ls (vr (184 + i) :: st) h Q := by
  intro p l e R s m args below meth c H locs cells slots Z D α τ A hF hC hE h1 h2 hs hl L hL
  have hb : strL.getD i 0 < 200 := by
    have : ∀ i, i < 2 → strL.getD i 0 < 200 := by decide +kernel
    exact this i hi
  exact va_tlen hF.1 hF.2.1 (hF.2.2.2.2.2.2.2.2.2.2.2.1.1 i hi).2.2.2 hC.2.2.1 (Int32.ofInt_eq_ofNat.symm) hd (kk p l e R s m args below meth c H locs cells slots Z D α τ A hF hC hE h1 h2 (ok_c (show InR _ from ⟨by omega, by omega⟩) (ok_t hs)) hl L hL)
theorem aw_sbyte {i : Nat} {j : Int} (hi : i < 2) (hd : decode M.1 pc = .ok (.baload, 1)) (hj : 0 ≤ j ∧ j < ((strL.getD i 0 : Nat) : Int)) (kk : AW M (pc + 1) ls ((0, ((strB.getD i []).getD j.toNat 0).toInt) :: st) h Q) : AW M pc ls ((0, j) :: vr (184 + i) :: st) h Q := by
  intro p l e R s m args below meth c H locs cells slots Z D α τ A hF hC hE h1 h2 hs hl L hL
  have hb : strL.getD i 0 < 200 := by
    have : ∀ i, i < 2 → strL.getD i 0 < 200 := by decide +kernel
    exact this i hi
  obtain ⟨g1, g2⟩ := i32_in hj (by omega)
  refine va_tb hF.1 hF.2.1 (hF.2.2.2.2.2.2.2.2.2.2.2.1.1 i hi).2.2.2 hC.2.2.1 g1 (v := .int (Int32.ofInt ((strB.getD i []).getD j.toNat 0).toInt)) (by rw [g2, Int32.ofInt_toInt]) hd ?_
  exact kk p l e R s m args below meth c H locs cells slots Z D α τ A hF hC hE h1 h2 (ok_c (ir32 _) (ok_t (ok_t hs))) hl L hL
theorem aw_compact {idx : Nat} (hd : decode M.1 pc = .ok (.getstatic idx, 3)) (hlk : Cond.fieldLink M.2.2.1 idx "java/lang/String" "COMPACT_STRINGS" "Z" ∈ lw_g) (kk : AW M (pc + 3) ls ((0, 1) :: st) h Q) : AW M pc ls st h Q := by
  intro p l e R s m args below meth c H locs cells slots Z D α τ A hF hC hE h1 h2 hs hl L hL
  exact va_gets hF.1 hF.2.1 hF.2.2.2.2.2.2.2.2.2.2.2.2.1 hC.2.2.1 hF.2.2.2.1 (hF.2.2.2.2.1 _ hlk) (fun x hx => hx) hd (kk p l e R s m args below meth c H locs cells slots Z D α τ A hF hC hE h1 h2 (ok_c (show InR 1 from ⟨by decide, by decide⟩) hs) hl L hL)
theorem aw_sioobe {idx : Nat} (hd : decode M.1 pc = .ok (.getstatic idx, 3)) (hlk : Cond.fieldLink M.2.2.1 idx "jdk/internal/util/Preconditions" "SIOOBE_FORMATTER" "Ljava/util/function/BiFunction;" ∈ lw_g) (kk : ∀ z : Int, AW M (pc + 3) ls ((2, z) :: st) h Q) : AW M pc ls st h Q := by
  intro p l e R s m args below meth c H locs cells slots Z D α τ A hF hC hE h1 h2 hs hl L hL
  rcases hF.2.2.2.2.2.2.2.2.2.2.2.2.2.1 with g | g
  · exact va_gets hF.1 hF.2.1 g hC.2.2.1 hF.2.2.2.1 (hF.2.2.2.2.1 _ hlk) (fun x hx => hx) hd (kk (Int.negSucc 0) p l e R s m args below meth c H locs cells slots Z D α τ A hF hC hE h1 h2 (ok_c trivial hs) hl L hL)
  · exact va_gets hF.1 hF.2.1 g hC.2.2.1 hF.2.2.2.1 (hF.2.2.2.2.1 _ hlk) (fun x hx => hx) hd (kk 186 p l e R s m args below meth c H locs cells slots Z D α τ A hF hC hE h1 h2 (ok_c trivial hs) hl L hL)
/-- locals in another order, or fewer -/
theorem aw_ls {ls' : LoS} (ks : List Nat) (hk : ks.filterMap (fun k => ls[k]?) = ls') (kk : AW M pc ls' st h Q) : AW M pc ls st h Q := by
  subst hk
  intro p l e R s m args below meth c H locs cells slots Z D α τ A hF hC hE h1 h2 hs hl L hL
  refine kk p l e R s m args below meth c H locs cells slots Z D α τ A hF hC hE h1 h2 hs (fun q hq => ?_) L (lv_sub hL ks ?_)
  · obtain ⟨k, -, hk⟩ := List.mem_filterMap.mp hq
    exact hl q (List.mem_of_getElem? hk)
  · unfold lv_pick lsE
    rw [List.map_filterMap]
    congr 1
    funext k
    rw [List.getElem?_map]
end AWQ
