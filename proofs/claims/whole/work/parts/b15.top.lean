/-! what the start gives -/
theorem mt1 {w : Cond} (i : Nat) (hi : tables_1_1[i]? = some w) : w ∈ lw_tbl := List.mem_append_right _ (by unfold tables_1; exact List.mem_append_left _ (List.mem_of_getElem? hi))
theorem mt2 {w : Cond} (i : Nat) (hi : tables_1_2[i]? = some w) : w ∈ lw_tbl := List.mem_append_right _ (by unfold tables_1; exact List.mem_append_right _ (List.mem_append_left _ (List.mem_of_getElem? hi)))
theorem mt3 {w : Cond} (i : Nat) (hi : tables_1_3[i]? = some w) : w ∈ lw_tbl := List.mem_append_right _ (by unfold tables_1; exact List.mem_append_right _ (List.mem_append_right _ (List.mem_append_left _ (List.mem_of_getElem? hi))))
theorem mt4 {w : Cond} (i : Nat) (hi : tables_1_4[i]? = some w) : w ∈ lw_tbl := List.mem_append_right _ (by unfold tables_1; exact List.mem_append_right _ (List.mem_append_right _ (List.mem_append_right _ (List.mem_append_left _ (List.mem_of_getElem? hi)))))
theorem mt5 {w : Cond} (i : Nat) (hi : tables_1_5[i]? = some w) : w ∈ lw_tbl := List.mem_append_right _ (by unfold tables_1; exact List.mem_append_right _ (List.mem_append_right _ (List.mem_append_right _ (List.mem_append_right _ (List.mem_append_left _ (List.mem_of_getElem? hi))))))
theorem mt6 {w : Cond} (i : Nat) (hi : tables_1_6[i]? = some w) : w ∈ lw_tbl := List.mem_append_right _ (by unfold tables_1; exact List.mem_append_right _ (List.mem_append_right _ (List.mem_append_right _ (List.mem_append_right _ (List.mem_append_right _ (List.mem_append_left _ (List.mem_of_getElem? hi)))))))
theorem mt7 {w : Cond} (i : Nat) (hi : tables_1_7[i]? = some w) : w ∈ lw_tbl := List.mem_append_right _ (by unfold tables_1; exact List.mem_append_right _ (List.mem_append_right _ (List.mem_append_right _ (List.mem_append_right _ (List.mem_append_right _ (List.mem_append_right _ (List.mem_append_left _ (List.mem_of_getElem? hi))))))))
theorem mt8 {w : Cond} (i : Nat) (hi : tables_1_8[i]? = some w) : w ∈ lw_tbl := List.mem_append_right _ (by unfold tables_1; exact List.mem_append_right _ (List.mem_append_right _ (List.mem_append_right _ (List.mem_append_right _ (List.mem_append_right _ (List.mem_append_right _ (List.mem_append_right _ (List.mem_append_left _ (List.mem_of_getElem? hi)))))))))
theorem mt9 {w : Cond} (i : Nat) (hi : tables_1_9[i]? = some w) : w ∈ lw_tbl := List.mem_append_right _ (by unfold tables_1; exact List.mem_append_right _ (List.mem_append_right _ (List.mem_append_right _ (List.mem_append_right _ (List.mem_append_right _ (List.mem_append_right _ (List.mem_append_right _ (List.mem_append_right _ (List.mem_of_getElem? hi)))))))))
section TOP
variable {args : Array Value} {s : State}
theorem hts_g (hts : ∀ w ∈ lw_tbl, w.before args s = true) : ∀ w ∈ lw_g, w.before args s = true := fun w hw => hts w (List.mem_filter.mp hw).1
theorem nw_all : ∀ q ∈ nestL, Cond.methodLinkNest q.1 q.2.1 q.2.2.1 q.2.2.2 ∈ lw_tbl := List.forall_mem_cons.mpr ⟨mt1 31 rfl, List.forall_mem_cons.mpr ⟨mt1 158 rfl, List.forall_mem_cons.mpr ⟨mt1 208 rfl, List.forall_mem_cons.mpr ⟨mt2 65 rfl, List.forall_mem_cons.mpr ⟨mt2 106 rfl, List.forall_mem_cons.mpr ⟨mt2 122 rfl, List.forall_mem_cons.mpr ⟨mt2 127 rfl, List.forall_mem_cons.mpr ⟨mt2 147 rfl, List.forall_mem_cons.mpr ⟨mt2 183 rfl, List.forall_mem_cons.mpr ⟨mt2 222 rfl, fun _ h => absurd h List.not_mem_nil⟩⟩⟩⟩⟩⟩⟩⟩⟩⟩
theorem NW.top (hts : ∀ w ∈ lw_tbl, w.before args s = true) : NW s := ⟨fun q hq => va_Nw.of rfl (hts _ (nw_all q hq)), over_spec (hts (Cond.arrayOver (.array .long)) (mt1 36 rfl)), va_AO.of (hts (Cond.arrayOver (.object RX4)) (mt3 11 rfl)), va_AO.of (hts (Cond.arrayOver (.object RX1)) (mt3 12 rfl))⟩
theorem K_ex (hts : ∀ w ∈ lw_tbl, w.before args s = true) : ∃ (D : va_G) (τ : Nat → ClassId), va_K D vwCl (tyl τ) s := by
  have hg := hts_g hts
  obtain ⟨c0, f0, k0⟩ := u_known (C := RX0) (T := TX0) (N := 8) hts (fun w hw => (List.mem_filter.mp (clk_0.2.1 w hw)).1) (hts (Cond.instantiable RX0 8) (mt2 146 rfl))
  obtain ⟨c1, f1, k1⟩ := u_known (C := RX1) (T := TX1) (N := 8) hts (fun w hw => (List.mem_filter.mp (clk_1.2.1 w hw)).1) (hts (Cond.instantiable RX1 8) (mt2 64 rfl))
  obtain ⟨c2, f2, k2⟩ := u_known (C := RX2) (T := TX2) (N := 5) hts (fun w hw => (List.mem_filter.mp (clk_2.2.1 w hw)).1) (hts (Cond.instantiable RX2 5) (mt2 121 rfl))
  obtain ⟨c3, f3, k3⟩ := u_known (C := RX3) (T := TX3) (N := 9) hts (fun w hw => (List.mem_filter.mp (clk_3.2.1 w hw)).1) (hts (Cond.instantiable RX3 9) (mt2 182 rfl))
  obtain ⟨c4, f4, k4⟩ := u_known (C := RX4) (T := TX4) (N := 9) hts (fun w hw => (List.mem_filter.mp (clk_4.2.1 w hw)).1) (hts (Cond.instantiable RX4 9) (mt1 151 rfl))
  obtain ⟨c5, f5, k5⟩ := u_known (C := RX5) (T := TX5) (N := 3) hts (fun w hw => (List.mem_filter.mp (clk_5.2.1 w hw)).1) (hts (Cond.instantiable RX5 3) (mt2 105 rfl))
  obtain ⟨c6, f6, k6⟩ := u_known (C := RX6) (T := TX6) (N := 7) hts (fun w hw => (List.mem_filter.mp (clk_6.2.1 w hw)).1) (hts (Cond.instantiable RX6 7) (mt2 221 rfl))
  obtain ⟨c7, f7, k7⟩ := u_known (C := RX7) (T := TX7) (N := 5) hts (fun w hw => (List.mem_filter.mp (clk_7.2.1 w hw)).1) (hts (Cond.instantiable RX7 5) (mt1 207 rfl))
  obtain ⟨c8, f8, k8⟩ := u_known (C := RX8) (T := TX8) (N := 11) hts (fun w hw => (List.mem_filter.mp (clk_8.2.1 w hw)).1) (hts (Cond.instantiable RX8 11) (mt1 53 rfl))
  obtain ⟨c9, f9, k9⟩ := u_known (C := RX9) (T := TX9) (N := 9) hts (fun w hw => (List.mem_filter.mp (clk_9.2.1 w hw)).1) (hts (Cond.instantiable RX9 9) (mt1 157 rfl))
  obtain ⟨c10, f10, k10⟩ := u_known (C := RX10) (T := TX10) (N := 3) hts (fun w hw => (List.mem_filter.mp (clk_10.2.1 w hw)).1) (hts (Cond.instantiable RX10 3) (mt1 30 rfl))
  obtain ⟨c11, f11, k11⟩ := u_known (C := RX11) (T := TX11) (N := 18) hts (fun w hw => (List.mem_filter.mp (clk_11.2.1 w hw)).1) (hts (Cond.instantiable RX11 18) (mt1 22 rfl))
  obtain ⟨c12, f12, k12⟩ := u_known (C := RX12) (T := TX12) (N := 44) hts (fun w hw => (List.mem_filter.mp (clk_12.2.1 w hw)).1) (hts (Cond.instantiable RX12 44) (mt6 148 rfl))
  obtain ⟨t0, z0, p0, a0, d0, e0⟩ := Cond.arrayClass_spec (hts (Cond.arrayClass .int) (mt1 50 rfl))
  obtain ⟨t1, z1, p1, a1, d1, e1⟩ := Cond.arrayClass_spec (hts (Cond.arrayClass .long) (mt1 51 rfl))
  obtain ⟨t2, z2, p2, a2, d2, e2⟩ := Cond.arrayClass_spec (hts (Cond.arrayClass .byte) (mt1 149 rfl))
  obtain ⟨t3, z3, p3, a3, d3, e3⟩ := Cond.arrayClass_spec (hts (Cond.arrayClass .boolean) (mt2 180 rfl))
  obtain ⟨p4, t4, z4, a4, x4, d4, e4, g4⟩ := Cond.arrayOver_spec (hts (Cond.arrayOver (.object RX4)) (mt3 11 rfl))
  obtain ⟨p5, t5, z5, a5, x5, d5, e5, g5⟩ := Cond.arrayOver_spec (hts (Cond.arrayOver (.object RX1)) (mt3 12 rfl))
  obtain ⟨p6, t6, z6, a6, d6, e6, g6⟩ := over_spec (hts (Cond.arrayOver (.array .long)) (mt1 36 rfl))
  refine ⟨(fun c => [c0, c1, c2, c3, c4, c5, c6, c7, c8, c9, c10, c11, c12].getD c c0, fun c => [f0, f1, f2, f3, f4, f5, f6, f7, f8, f9, f10, f11, f12].getD c f0), fun i => [t0, t1, t2, t3, t4, t5, t6].getD i t0, fun c q hq => ?_, fun k q hq => ?_⟩
  · have lt : c < 13 := (List.getElem?_eq_some_iff.mp hq).1
    rcases (show c = 0 ∨ c = 1 ∨ c = 2 ∨ c = 3 ∨ c = 4 ∨ c = 5 ∨ c = 6 ∨ c = 7 ∨ c = 8 ∨ c = 9 ∨ c = 10 ∨ c = 11 ∨ c = 12 by omega) with rfl | rfl | rfl | rfl | rfl | rfl | rfl | rfl | rfl | rfl | rfl | rfl | rfl
    · cases hq; exact k0
    · cases hq; exact k1
    · cases hq; exact k2
    · cases hq; exact k3
    · cases hq; exact k4
    · cases hq; exact k5
    · cases hq; exact k6
    · cases hq; exact k7
    · cases hq; exact k8
    · cases hq; exact k9
    · cases hq; exact k10
    · cases hq; exact k11
    · cases hq; exact k12
  · have lt : k < 7 := (List.getElem?_eq_some_iff.mp hq).1
    rcases (show k = 0 ∨ k = 1 ∨ k = 2 ∨ k = 3 ∨ k = 4 ∨ k = 5 ∨ k = 6 by omega) with rfl | rfl | rfl | rfl | rfl | rfl | rfl
    · cases hq; exact ⟨fun n z => ⟨fun k h => (by cases h), z0, d0, p0, e0⟩, a0⟩
    · cases hq; exact ⟨fun n z => ⟨fun k h => (by cases h), z1, d1, p1, e1⟩, a1⟩
    · cases hq; exact ⟨fun n z => ⟨fun k h => (by cases h), z2, d2, p2, e2⟩, a2⟩
    · cases hq; exact ⟨fun n z => ⟨fun k h => (by cases h), z3, d3, p3, e3⟩, a3⟩
    · cases hq; exact ⟨fun n z => ⟨fun k h => (by cases h), z4, d4, p4, e4⟩, z4, p4, d4, e4, a4, g4⟩
    · cases hq; exact ⟨fun n z => ⟨fun k h => (by cases h), z5, d5, p5, e5⟩, z5, p5, d5, e5, a5, g5⟩
    · cases hq; exact ⟨fun n z => ⟨fun k h => (by cases h), z6, d6, p6, e6⟩, g6⟩
def fl1 : List Cond := flatC (Jvm.Cond.and given_1 narrow_1)
def tmS (i : Nat) : Term := if i = 0 then .string RX8 48 else .string RX12 184
def elS (i j : Nat) : Cond := Cond.eq (.elem (.field (tmS i) "java/lang/String" "value" "[B") (.int (Int32.ofNat j))) (.int ((strB.getD i []).getD j 0))
theorem el_0 : ∀ j, j < 125 → fl1[39 + j]? = some (elS 0 j) := by decide +kernel
theorem el_1 : ∀ j, j < 126 → fl1[168 + j]? = some (elS 1 j) := by decide +kernel
theorem sl_0 : strL.getD 0 0 = 125 := by decide +kernel
theorem sl_1 : strL.getD 1 0 = 126 := by decide +kernel
theorem exS_0 : fl1[35]? = some (Cond.exactly (tmS 0) "java/lang/String") := by decide +kernel
theorem coS_0 : fl1[36]? = some (Cond.eq (.field (tmS 0) "java/lang/String" "coder" "B") (.int 0)) := by decide +kernel
theorem arS_0 : fl1[37]? = some (Cond.arrayOf (.field (tmS 0) "java/lang/String" "value" "[B") .byte) := by decide +kernel
theorem leS_0 : fl1[38]? = some (Cond.eq (.length (.field (tmS 0) "java/lang/String" "value" "[B")) (.int (Int32.ofNat (strL.getD 0 0)))) := by decide +kernel
theorem exS_1 : fl1[164]? = some (Cond.exactly (tmS 1) "java/lang/String") := by decide +kernel
theorem coS_1 : fl1[165]? = some (Cond.eq (.field (tmS 1) "java/lang/String" "coder" "B") (.int 0)) := by decide +kernel
theorem arS_1 : fl1[166]? = some (Cond.arrayOf (.field (tmS 1) "java/lang/String" "value" "[B") .byte) := by decide +kernel
theorem leS_1 : fl1[167]? = some (Cond.eq (.length (.field (tmS 1) "java/lang/String" "value" "[B")) (.int (Int32.ofNat (strL.getD 1 0)))) := by decide +kernel
theorem neS : fl1[294]? = some (Cond.not (Cond.eq (tmS 0) (tmS 1))) := by decide +kernel
theorem csS : fl1[4]? = some (Cond.eq (.static "java/lang/String" "COMPACT_STRINGS" "Z") (.int 1)) := by decide +kernel
theorem siS : fl1[5]? = some (Cond.isRef (.static "jdk/internal/util/Preconditions" "SIOOBE_FORMATTER" "Ljava/util/function/BiFunction;")) := by decide +kernel
theorem X_ex {b L : Nat} {xs : Nat → Int32} (hts : ∀ w ∈ lw_tbl, w.before args s = true) (hgv : (Jvm.Cond.and given_1 narrow_1).before args s = true) (hX : va_X b L xs s s.heap) (hbl : b < s.heap.size) (hL : L ≤ 3072) : ∃ α : Nat → Nat, α 181 = b ∧ Xf (L, fun j => (xs j).toInt) α (fun q => s.heap.size ≤ q) s := by
  have hs := flat_of_before _ hgv
  have hf : ∀ {i : Nat} {w : Cond}, fl1[i]? = some w → w.before args s = true := fun h => hs _ (List.mem_of_getElem? h)
  have hA : ∀ a : Nat, a < s.heap.size → ¬ (s.heap.size ≤ a) := fun a h1 h2 => by omega
  have two : ∀ {P : Nat → Prop}, P 0 → P 1 → ∀ i, i < 2 → P i := fun h0 h1 i hi => by
    rcases (show i = 0 ∨ i = 1 by omega) with rfl | rfl
    · exact h0
    · exact h1
  obtain ⟨adK, adV, hS, hT⟩ := vk_Sof (args := args) (s := s) (N := 2) (tm := tmS) (len := strL) (byt := strB) (A := fun q => s.heap.size ≤ q) (two (by rw [sl_0]; decide) (by rw [sl_1]; decide)) (two (hf exS_0) (hf exS_1)) (two (hf coS_0) (hf coS_1)) (two (hf arS_0) (hf arS_1)) (two (hf leS_0) (hf leS_1)) (two (fun j hj => hf (el_0 j (by rw [sl_0] at hj; exact hj))) (fun j hj => hf (el_1 j (by rw [sl_1] at hj; exact hj)))) (fun i j hi hj hij => by
      rcases (show (i = 0 ∧ j = 1) ∨ (i = 1 ∧ j = 0) by omega) with ⟨rfl, rfl⟩ | ⟨rfl, rfl⟩
      · exact Or.inl (hf neS)
      · exact Or.inr (hf neS)) hA
  have hC : va_Z "java/lang/String" "COMPACT_STRINGS" "Z" (.int 1) (fun q => s.heap.size ≤ q) s s.heap := va_Zof (hts _ (mt1 68 rfl)) (hts _ (mt1 4 rfl)) (va_eqt (hf csS)) hA
  have hP : va_Zq "jdk/internal/util/Preconditions" "SIOOBE_FORMATTER" "Ljava/util/function/BiFunction;" (fun q => s.heap.size ≤ q) s s.heap := va_Zqof (hts _ (mt1 84 rfl)) (hts _ (mt1 6 rfl)) (hf siS) hA
  obtain ⟨zr, hz⟩ : ∃ zr : Nat, va_Z "jdk/internal/util/Preconditions" "SIOOBE_FORMATTER" "Ljava/util/function/BiFunction;" .null (fun q => s.heap.size ≤ q) s s.heap ∨ va_Z "jdk/internal/util/Preconditions" "SIOOBE_FORMATTER" "Ljava/util/function/BiFunction;" (.ref zr) (fun q => s.heap.size ≤ q) s s.heap := by
    rcases hP with h | ⟨t, h⟩
    · exact ⟨0, Or.inl h⟩
    · exact ⟨t, Or.inr h⟩
  refine ⟨fun i => if i = 181 then b else if i = 182 then adK 0 else if i = 183 then adK 1 else if i = 184 then adV 0 else if i = 185 then adV 1 else zr, rfl, ?_, hC, hz, vk_R.of (hts _ (mt1 58 rfl)) (hT 0 (by omega)), vk_R.of (hts _ (mt7 137 rfl)) (hT 1 (by omega)), fun _ => ⟨?_, hbl, hA b hbl, by omega, fun j => ir32 _⟩⟩
  · refine ⟨two (hS.1 0 (by omega)) (hS.1 1 (by omega)), fun i j hi hj => ?_⟩
    rcases (show i = 0 ∨ i = 1 by omega) with rfl | rfl <;> rcases (show j = 0 ∨ j = 1 by omega) with rfl | rfl
    · exact fun _ => rfl
    · exact hS.2 0 1 (by omega) (by omega)
    · exact hS.2 1 0 (by omega) (by omega)
    · exact fun _ => rfl
  · show va_X b L (fun j => Int32.ofInt ((xs j).toInt)) s s.heap
    rw [show (fun j => Int32.ofInt ((xs j).toInt)) = xs from funext (fun j => Int32.ofInt_toInt _)]
    exact hX
end TOP
