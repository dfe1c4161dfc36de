def bI (f : Int32 → Int32 → Int32) (a b : Int) : Int := (f (Int32.ofInt a) (Int32.ofInt b)).toInt
def bL (f : Int64 → Int64 → Int64) (a b : Int) : Int := (f (Int64.ofInt a) (Int64.ofInt b)).toInt
def iand (a b : Int) : Int := (Int32.ofInt a &&& Int32.ofInt b).toInt
def ior (a b : Int) : Int := (Int32.ofInt a ||| Int32.ofInt b).toInt
def ixor (a b : Int) : Int := (Int32.ofInt a ^^^ Int32.ofInt b).toInt
def ishl (a b : Int) : Int := (Int32.ofInt a <<< (Int32.ofInt b &&& 31)).toInt
def ishr (a b : Int) : Int := (Int32.ofInt a >>> (Int32.ofInt b &&& 31)).toInt
def iushr (a b : Int) : Int := ((Int32.ofInt a).toUInt32 >>> ((Int32.ofInt b).toUInt32 &&& Int32.toUInt32 31)).toInt32.toInt
def land (a b : Int) : Int := (Int64.ofInt a &&& Int64.ofInt b).toInt
def llor (a b : Int) : Int := (Int64.ofInt a ||| Int64.ofInt b).toInt
def lshl (a b : Int) : Int := (Int64.ofInt a <<< ((Int32.ofInt b).toInt64 &&& 63)).toInt
def lshr (a b : Int) : Int := (Int64.ofInt a >>> ((Int32.ofInt b).toInt64 &&& 63)).toInt
def i2b (a : Int) : Int := (Int32.ofInt a).toInt8.toInt32.toInt
def i2s (a : Int) : Int := (Int32.ofInt a).toInt16.toInt32.toInt
def i2c (a : Int) : Int := ((Int32.ofInt a).toUInt32 % 65536).toInt32.toInt
def l2i (a : Int) : Int := (Int64.ofInt a).toInt32.toInt
def lcmpI (a b : Int) : Int := if b < a then 1 else if a = b then 0 else -1
theorem ir32 (x : Int32) : InR x.toInt := by
  have h1 := Int32.le_toInt x
  have h2 := Int32.toInt_lt x
  exact ⟨by omega, by omega⟩
theorem ir64 (x : Int64) : InL x.toInt := by
  have h1 := Int64.le_toInt x
  have h2 := Int64.toInt_lt x
  exact ⟨by omega, by omega⟩
theorem i64_lt {a b : Int} (ha : InL a) (hb : InL b) : Int64.ofInt a < Int64.ofInt b ↔ a < b := by
  rw [Int64.lt_iff_toInt_lt, i64_ti ha, i64_ti hb]
theorem i64_eq {a b : Int} (ha : InL a) (hb : InL b) : Int64.ofInt a = Int64.ofInt b ↔ a = b := by
  rw [← Int64.toInt_inj, i64_ti ha, i64_ti hb]
theorem e_cmp {a b : Int} (ha : InL a) (hb : InL b) : lg_cmp (Int64.ofInt a) (Int64.ofInt b) = Int32.ofInt (lcmpI a b) := by
  unfold lg_cmp lcmpI
  by_cases h : b < a
  · rw [if_pos (show Int64.ofInt a > Int64.ofInt b from (i64_lt hb ha).mpr h), if_pos h]; rfl
  · rw [if_neg (show ¬ Int64.ofInt a > Int64.ofInt b from fun q => h ((i64_lt hb ha).mp q)), if_neg h]
    by_cases h2 : a = b
    · rw [if_pos (by rw [h2]), if_pos h2]; rfl
    · rw [if_neg (fun q => h2 ((i64_eq ha hb).mp q)), if_neg h2]; rfl
theorem ok_cmp (a b : Int) : InR (lcmpI a b) := by
  unfold lcmpI
  split
  · exact ⟨by decide, by decide⟩
  · split <;> exact ⟨by decide, by decide⟩
theorem e_idiv {a b : Int} (ha : InR a) (hb : InR b) : Int32.ofInt a / Int32.ofInt b = Int32.ofInt (a.tdiv b) := (Int32.ofInt_tdiv (by rw [show Int32.minValue.toInt = -2147483648 from rfl]; exact ha.1) (by rw [show Int32.maxValue.toInt = 2147483647 from rfl]; exact ha.2) (by rw [show Int32.minValue.toInt = -2147483648 from rfl]; exact hb.1) (by rw [show Int32.maxValue.toInt = 2147483647 from rfl]; exact hb.2)).symm
theorem e_ldiv {a b : Int} (ha : InL a) (hb : InL b) : Int64.ofInt a / Int64.ofInt b = Int64.ofInt (a.tdiv b) := (Int64.ofInt_tdiv (by rw [show Int64.minValue.toInt = -9223372036854775808 from rfl]; exact ha.1) (by rw [show Int64.maxValue.toInt = 9223372036854775807 from rfl]; exact ha.2) (by rw [show Int64.minValue.toInt = -9223372036854775808 from rfl]; exact hb.1) (by rw [show Int64.maxValue.toInt = 9223372036854775807 from rfl]; exact hb.2)).symm
theorem tmodE (a b : Int) : a - a.tdiv b * b = a.tmod b := by rw [Int.mul_comm, ← Int.tmod_def]
theorem n0_32 {b : Int} (hb : InR b) (h : b ≠ 0) : ¬ Int32.ofInt b = 0 := fun q => h ((i32_eq hb (by exact ⟨by decide, by decide⟩)).mp (show Int32.ofInt b = Int32.ofInt 0 from q))
theorem n0_64 {b : Int} (hb : InL b) (h : b ≠ 0) : ¬ Int64.ofInt b = 0 := fun q => h ((i64_eq hb (by exact ⟨by decide, by decide⟩)).mp (show Int64.ofInt b = Int64.ofInt 0 from q))
theorem tmod_in32 {a b : Int} (ha : InR a) : InR (a.tmod b) := by
  have h1 := Int.natAbs_tmod a b
  have h3 := Nat.mod_le a.natAbs b.natAbs
  unfold InR at *
  rcases Int.le_total 0 a with h0 | h0
  · have h4 := Int.tmod_nonneg b h0
    omega
  · have h4 : a.tmod b ≤ 0 := by
      have h5 := Int.tmod_nonneg (a := -a) b (by omega)
      rw [Int.neg_tmod] at h5
      omega
    omega
theorem tmod_in64 {a b : Int} (ha : InL a) : InL (a.tmod b) := by
  have h1 := Int.natAbs_tmod a b
  have h3 := Nat.mod_le a.natAbs b.natAbs
  unfold InL at *
  rcases Int.le_total 0 a with h0 | h0
  · have h4 := Int.tmod_nonneg b h0
    omega
  · have h4 : a.tmod b ≤ 0 := by
      have h5 := Int.tmod_nonneg (a := -a) b (by omega)
      rw [Int.neg_tmod] at h5
      omega
    omega
theorem e_i2l {a : Int} (ha : InR a) : (Int32.ofInt a).toInt64 = Int64.ofInt a := by
  apply Int64.toInt_inj.mp
  rw [Int32.toInt_toInt64, i32_ti ha, i64_ti (by unfold InR at ha; unfold InL; omega)]
section AWO
variable {M : Hd} {pc : Nat} {ls : LoS} {st : List Vl} {h : Mem} {Q : PostV}
theorem aw_iadd {a b : Int} (hd : decode M.1 pc = .ok (.iadd, 1)) {r : Int} (he : a + b = r) (hr : InR r) (kk : AW M (pc + 1) ls ((0, r) :: st) h Q) : AW M pc ls ((0, b) :: (0, a) :: st) h Q := by
  intro p l e R s m args below meth c H locs cells slots Z D α τ A hF hC hE h1 h2 hs hl L hL
  have hb := ok_h hs
  have ha := ok_h (ok_t hs)
  refine lv_iadd hF.1 hF.2.1 hd ?_
  rw [← Int32.ofInt_add, he]
  exact kk p l e R s m args below meth c H locs cells slots Z D α τ A hF hC hE h1 h2 (ok_c (hr) (ok_t (ok_t hs))) hl L hL
theorem aw_isub {a b : Int} (hd : decode M.1 pc = .ok (.isub, 1)) {r : Int} (he : a - b = r) (hr : InR r) (kk : AW M (pc + 1) ls ((0, r) :: st) h Q) : AW M pc ls ((0, b) :: (0, a) :: st) h Q := by
  intro p l e R s m args below meth c H locs cells slots Z D α τ A hF hC hE h1 h2 hs hl L hL
  have hb := ok_h hs
  have ha := ok_h (ok_t hs)
  refine lv_isub hF.1 hF.2.1 hd ?_
  rw [← Int32.ofInt_sub, he]
  exact kk p l e R s m args below meth c H locs cells slots Z D α τ A hF hC hE h1 h2 (ok_c (hr) (ok_t (ok_t hs))) hl L hL
theorem aw_imul {a b : Int} (hd : decode M.1 pc = .ok (.imul, 1)) {r : Int} (he : a * b = r) (hr : InR r) (kk : AW M (pc + 1) ls ((0, r) :: st) h Q) : AW M pc ls ((0, b) :: (0, a) :: st) h Q := by
  intro p l e R s m args below meth c H locs cells slots Z D α τ A hF hC hE h1 h2 hs hl L hL
  have hb := ok_h hs
  have ha := ok_h (ok_t hs)
  refine lv_imul hF.1 hF.2.1 hd ?_
  rw [← Int32.ofInt_mul, he]
  exact kk p l e R s m args below meth c H locs cells slots Z D α τ A hF hC hE h1 h2 (ok_c (hr) (ok_t (ok_t hs))) hl L hL
theorem aw_ladd {a b : Int} (hd : decode M.1 pc = .ok (.ladd, 1)) {r : Int} (he : a + b = r) (hr : InL r) (kk : AW M (pc + 1) ls ((1, r) :: st) h Q) : AW M pc ls ((1, b) :: (1, a) :: st) h Q := by
  intro p l e R s m args below meth c H locs cells slots Z D α τ A hF hC hE h1 h2 hs hl L hL
  have hb := ok_h hs
  have ha := ok_h (ok_t hs)
  refine lv_ladd hF.1 hF.2.1 hd ?_
  rw [← Int64.ofInt_add, he]
  exact kk p l e R s m args below meth c H locs cells slots Z D α τ A hF hC hE h1 h2 (ok_c (hr) (ok_t (ok_t hs))) hl L hL
theorem aw_lsub {a b : Int} (hd : decode M.1 pc = .ok (.lsub, 1)) {r : Int} (he : a - b = r) (hr : InL r) (kk : AW M (pc + 1) ls ((1, r) :: st) h Q) : AW M pc ls ((1, b) :: (1, a) :: st) h Q := by
  intro p l e R s m args below meth c H locs cells slots Z D α τ A hF hC hE h1 h2 hs hl L hL
  have hb := ok_h hs
  have ha := ok_h (ok_t hs)
  refine lv_lsub hF.1 hF.2.1 hd ?_
  rw [← Int64.ofInt_sub, he]
  exact kk p l e R s m args below meth c H locs cells slots Z D α τ A hF hC hE h1 h2 (ok_c (hr) (ok_t (ok_t hs))) hl L hL
theorem aw_lmul {a b : Int} (hd : decode M.1 pc = .ok (.lmul, 1)) {r : Int} (he : a * b = r) (hr : InL r) (kk : AW M (pc + 1) ls ((1, r) :: st) h Q) : AW M pc ls ((1, b) :: (1, a) :: st) h Q := by
  intro p l e R s m args below meth c H locs cells slots Z D α τ A hF hC hE h1 h2 hs hl L hL
  have hb := ok_h hs
  have ha := ok_h (ok_t hs)
  refine lv_lmul hF.1 hF.2.1 hd ?_
  rw [← Int64.ofInt_mul, he]
  exact kk p l e R s m args below meth c H locs cells slots Z D α τ A hF hC hE h1 h2 (ok_c (hr) (ok_t (ok_t hs))) hl L hL
theorem aw_idiv {a b : Int} (hd : decode M.1 pc = .ok (.idiv, 1)) (hz : b ≠ 0) (hr : InR (a.tdiv b)) (kk : AW M (pc + 1) ls ((0, a.tdiv b) :: st) h Q) : AW M pc ls ((0, b) :: (0, a) :: st) h Q := by
  intro p l e R s m args below meth c H locs cells slots Z D α τ A hF hC hE h1 h2 hs hl L hL
  have hb := ok_h hs
  have ha := ok_h (ok_t hs)
  refine lv_idiv hF.1 hF.2.1 hd (n0_32 hb hz) ?_
  rw [e_idiv ha hb]
  exact kk p l e R s m args below meth c H locs cells slots Z D α τ A hF hC hE h1 h2 (ok_c (hr) (ok_t (ok_t hs))) hl L hL
theorem aw_ldiv {a b : Int} (hd : decode M.1 pc = .ok (.ldiv, 1)) (hz : b ≠ 0) (hr : InL (a.tdiv b)) (kk : AW M (pc + 1) ls ((1, a.tdiv b) :: st) h Q) : AW M pc ls ((1, b) :: (1, a) :: st) h Q := by
  intro p l e R s m args below meth c H locs cells slots Z D α τ A hF hC hE h1 h2 hs hl L hL
  have hb := ok_h hs
  have ha := ok_h (ok_t hs)
  refine lv_ldiv hF.1 hF.2.1 hd (n0_64 hb hz) ?_
  rw [e_ldiv ha hb]
  exact kk p l e R s m args below meth c H locs cells slots Z D α τ A hF hC hE h1 h2 (ok_c (hr) (ok_t (ok_t hs))) hl L hL
theorem aw_irem {a b : Int} (hd : decode M.1 pc = .ok (.irem, 1)) (hz : b ≠ 0) (kk : AW M (pc + 1) ls ((0, a.tmod b) :: st) h Q) : AW M pc ls ((0, b) :: (0, a) :: st) h Q := by
  intro p l e R s m args below meth c H locs cells slots Z D α τ A hF hC hE h1 h2 hs hl L hL
  have hb := ok_h hs
  have ha := ok_h (ok_t hs)
  refine lv_irem hF.1 hF.2.1 hd (n0_32 hb hz) ?_
  rw [e_idiv ha hb, ← Int32.ofInt_mul, ← Int32.ofInt_sub, tmodE]
  exact kk p l e R s m args below meth c H locs cells slots Z D α τ A hF hC hE h1 h2 (ok_c (tmod_in32 ha) (ok_t (ok_t hs))) hl L hL
theorem aw_lrem {a b : Int} (hd : decode M.1 pc = .ok (.lrem, 1)) (hz : b ≠ 0) (kk : AW M (pc + 1) ls ((1, a.tmod b) :: st) h Q) : AW M pc ls ((1, b) :: (1, a) :: st) h Q := by
  intro p l e R s m args below meth c H locs cells slots Z D α τ A hF hC hE h1 h2 hs hl L hL
  have hb := ok_h hs
  have ha := ok_h (ok_t hs)
  refine lv_lrem hF.1 hF.2.1 hd (n0_64 hb hz) ?_
  rw [e_ldiv ha hb, ← Int64.ofInt_mul, ← Int64.ofInt_sub, tmodE]
  exact kk p l e R s m args below meth c H locs cells slots Z D α τ A hF hC hE h1 h2 (ok_c (tmod_in64 ha) (ok_t (ok_t hs))) hl L hL
theorem aw_iand {a b : Int} (hd : decode M.1 pc = .ok (.iand, 1))  (kk : AW M (pc + 1) ls ((0, iand a b) :: st) h Q) : AW M pc ls ((0, b) :: (0, a) :: st) h Q := by
  intro p l e R s m args below meth c H locs cells slots Z D α τ A hF hC hE h1 h2 hs hl L hL
  have hb := ok_h hs
  have ha := ok_h (ok_t hs)
  refine lv_iand hF.1 hF.2.1 hd ?_
  rw [show Int32.ofInt a &&& Int32.ofInt b = Int32.ofInt (iand a b) from (Int32.ofInt_toInt _).symm]
  exact kk p l e R s m args below meth c H locs cells slots Z D α τ A hF hC hE h1 h2 (ok_c (ir32 _) (ok_t (ok_t hs))) hl L hL
theorem aw_ior {a b : Int} (hd : decode M.1 pc = .ok (.ior, 1))  (kk : AW M (pc + 1) ls ((0, ior a b) :: st) h Q) : AW M pc ls ((0, b) :: (0, a) :: st) h Q := by
  intro p l e R s m args below meth c H locs cells slots Z D α τ A hF hC hE h1 h2 hs hl L hL
  have hb := ok_h hs
  have ha := ok_h (ok_t hs)
  refine lv_ior hF.1 hF.2.1 hd ?_
  rw [show Int32.ofInt a ||| Int32.ofInt b = Int32.ofInt (ior a b) from (Int32.ofInt_toInt _).symm]
  exact kk p l e R s m args below meth c H locs cells slots Z D α τ A hF hC hE h1 h2 (ok_c (ir32 _) (ok_t (ok_t hs))) hl L hL
theorem aw_ixor {a b : Int} (hd : decode M.1 pc = .ok (.ixor, 1))  (kk : AW M (pc + 1) ls ((0, ixor a b) :: st) h Q) : AW M pc ls ((0, b) :: (0, a) :: st) h Q := by
  intro p l e R s m args below meth c H locs cells slots Z D α τ A hF hC hE h1 h2 hs hl L hL
  have hb := ok_h hs
  have ha := ok_h (ok_t hs)
  refine lv_ixor hF.1 hF.2.1 hd ?_
  rw [show Int32.ofInt a ^^^ Int32.ofInt b = Int32.ofInt (ixor a b) from (Int32.ofInt_toInt _).symm]
  exact kk p l e R s m args below meth c H locs cells slots Z D α τ A hF hC hE h1 h2 (ok_c (ir32 _) (ok_t (ok_t hs))) hl L hL
theorem aw_ishl {a b : Int} (hd : decode M.1 pc = .ok (.ishl, 1))  (kk : AW M (pc + 1) ls ((0, ishl a b) :: st) h Q) : AW M pc ls ((0, b) :: (0, a) :: st) h Q := by
  intro p l e R s m args below meth c H locs cells slots Z D α τ A hF hC hE h1 h2 hs hl L hL
  have hb := ok_h hs
  have ha := ok_h (ok_t hs)
  refine lv_ishl hF.1 hF.2.1 hd ?_
  rw [show Int32.ofInt a <<< (Int32.ofInt b &&& 31) = Int32.ofInt (ishl a b) from (Int32.ofInt_toInt _).symm]
  exact kk p l e R s m args below meth c H locs cells slots Z D α τ A hF hC hE h1 h2 (ok_c (ir32 _) (ok_t (ok_t hs))) hl L hL
theorem aw_ishr {a b : Int} (hd : decode M.1 pc = .ok (.ishr, 1))  (kk : AW M (pc + 1) ls ((0, ishr a b) :: st) h Q) : AW M pc ls ((0, b) :: (0, a) :: st) h Q := by
  intro p l e R s m args below meth c H locs cells slots Z D α τ A hF hC hE h1 h2 hs hl L hL
  have hb := ok_h hs
  have ha := ok_h (ok_t hs)
  refine lv_ishr hF.1 hF.2.1 hd ?_
  rw [show Int32.ofInt a >>> (Int32.ofInt b &&& 31) = Int32.ofInt (ishr a b) from (Int32.ofInt_toInt _).symm]
  exact kk p l e R s m args below meth c H locs cells slots Z D α τ A hF hC hE h1 h2 (ok_c (ir32 _) (ok_t (ok_t hs))) hl L hL
theorem aw_iushr {a b : Int} (hd : decode M.1 pc = .ok (.iushr, 1)) (kk : AW M (pc + 1) ls ((0, iushr a b) :: st) h Q) : AW M pc ls ((0, b) :: (0, a) :: st) h Q := by
  intro p l e R s m args below meth c H locs cells slots Z D α τ A hF hC hE h1 h2 hs hl L hL
  exact lv_iushr hF.1 hF.2.1 hd (Int32.ofInt_toInt _).symm (kk p l e R s m args below meth c H locs cells slots Z D α τ A hF hC hE h1 h2 (ok_c (ir32 _) (ok_t (ok_t hs))) hl L hL)
theorem aw_land {a b : Int} (hd : decode M.1 pc = .ok (.land, 1))  (kk : AW M (pc + 1) ls ((1, land a b) :: st) h Q) : AW M pc ls ((1, b) :: (1, a) :: st) h Q := by
  intro p l e R s m args below meth c H locs cells slots Z D α τ A hF hC hE h1 h2 hs hl L hL
  have hb := ok_h hs
  have ha := ok_h (ok_t hs)
  refine lv_land hF.1 hF.2.1 hd ?_
  rw [show Int64.ofInt a &&& Int64.ofInt b = Int64.ofInt (land a b) from (Int64.ofInt_toInt _).symm]
  exact kk p l e R s m args below meth c H locs cells slots Z D α τ A hF hC hE h1 h2 (ok_c (ir64 _) (ok_t (ok_t hs))) hl L hL
theorem aw_lor {a b : Int} (hd : decode M.1 pc = .ok (.lor, 1))  (kk : AW M (pc + 1) ls ((1, llor a b) :: st) h Q) : AW M pc ls ((1, b) :: (1, a) :: st) h Q := by
  intro p l e R s m args below meth c H locs cells slots Z D α τ A hF hC hE h1 h2 hs hl L hL
  have hb := ok_h hs
  have ha := ok_h (ok_t hs)
  refine lv_lor hF.1 hF.2.1 hd ?_
  rw [show Int64.ofInt a ||| Int64.ofInt b = Int64.ofInt (llor a b) from (Int64.ofInt_toInt _).symm]
  exact kk p l e R s m args below meth c H locs cells slots Z D α τ A hF hC hE h1 h2 (ok_c (ir64 _) (ok_t (ok_t hs))) hl L hL
theorem aw_lshl {a b : Int} (hd : decode M.1 pc = .ok (.lshl, 1)) (kk : AW M (pc + 1) ls ((1, lshl a b) :: st) h Q) : AW M pc ls ((0, b) :: (1, a) :: st) h Q := by
  intro p l e R s m args below meth c H locs cells slots Z D α τ A hF hC hE h1 h2 hs hl L hL
  exact lv_lshl hF.1 hF.2.1 hd (Int64.ofInt_toInt _).symm (kk p l e R s m args below meth c H locs cells slots Z D α τ A hF hC hE h1 h2 (ok_c (ir64 _) (ok_t (ok_t hs))) hl L hL)
theorem aw_lshr {a b : Int} (hd : decode M.1 pc = .ok (.lshr, 1)) (kk : AW M (pc + 1) ls ((1, lshr a b) :: st) h Q) : AW M pc ls ((0, b) :: (1, a) :: st) h Q := by
  intro p l e R s m args below meth c H locs cells slots Z D α τ A hF hC hE h1 h2 hs hl L hL
  exact lv_lshr hF.1 hF.2.1 hd (Int64.ofInt_toInt _).symm (kk p l e R s m args below meth c H locs cells slots Z D α τ A hF hC hE h1 h2 (ok_c (ir64 _) (ok_t (ok_t hs))) hl L hL)
theorem aw_ineg {a : Int} (hd : decode M.1 pc = .ok (.ineg, 1)) (hr : InR (-a)) (kk : AW M (pc + 1) ls ((0, -a) :: st) h Q) : AW M pc ls ((0, a) :: st) h Q := by
  intro p l e R s m args below meth c H locs cells slots Z D α τ A hF hC hE h1 h2 hs hl L hL
  refine lv_ineg hF.1 hF.2.1 hd ?_
  rw [← Int32.ofInt_neg]
  exact kk p l e R s m args below meth c H locs cells slots Z D α τ A hF hC hE h1 h2 (ok_c hr (ok_t hs)) hl L hL
theorem aw_i2l {a : Int} (hd : decode M.1 pc = .ok (.i2l, 1)) (kk : AW M (pc + 1) ls ((1, a) :: st) h Q) : AW M pc ls ((0, a) :: st) h Q := by
  intro p l e R s m args below meth c H locs cells slots Z D α τ A hF hC hE h1 h2 hs hl L hL
  have ha : InR a := ok_h hs
  exact lv_i2l hF.1 hF.2.1 hd (e_i2l ha) (kk p l e R s m args below meth c H locs cells slots Z D α τ A hF hC hE h1 h2 (ok_c (show InL a by unfold InR at ha; unfold InL; omega) (ok_t hs)) hl L hL)
theorem aw_l2i {a : Int} (hd : decode M.1 pc = .ok (.l2i, 1)) (kk : AW M (pc + 1) ls ((0, l2i a) :: st) h Q) : AW M pc ls ((1, a) :: st) h Q := by
  intro p l e R s m args below meth c H locs cells slots Z D α τ A hF hC hE h1 h2 hs hl L hL
  exact lv_l2i hF.1 hF.2.1 hd (Int32.ofInt_toInt _).symm (kk p l e R s m args below meth c H locs cells slots Z D α τ A hF hC hE h1 h2 (ok_c (ir32 _) (ok_t hs)) hl L hL)
theorem aw_i2b {a : Int} (hd : decode M.1 pc = .ok (.i2b, 1)) (kk : AW M (pc + 1) ls ((0, i2b a) :: st) h Q) : AW M pc ls ((0, a) :: st) h Q := by
  intro p l e R s m args below meth c H locs cells slots Z D α τ A hF hC hE h1 h2 hs hl L hL
  exact lv_i2b hF.1 hF.2.1 hd (Int32.ofInt_toInt _).symm (kk p l e R s m args below meth c H locs cells slots Z D α τ A hF hC hE h1 h2 (ok_c (ir32 _) (ok_t hs)) hl L hL)
theorem aw_i2s {a : Int} (hd : decode M.1 pc = .ok (.i2s, 1)) (kk : AW M (pc + 1) ls ((0, i2s a) :: st) h Q) : AW M pc ls ((0, a) :: st) h Q := by
  intro p l e R s m args below meth c H locs cells slots Z D α τ A hF hC hE h1 h2 hs hl L hL
  exact lv_i2s hF.1 hF.2.1 hd (Int32.ofInt_toInt _).symm (kk p l e R s m args below meth c H locs cells slots Z D α τ A hF hC hE h1 h2 (ok_c (ir32 _) (ok_t hs)) hl L hL)
theorem aw_i2c {a : Int} (hd : decode M.1 pc = .ok (.i2c, 1)) (kk : AW M (pc + 1) ls ((0, i2c a) :: st) h Q) : AW M pc ls ((0, a) :: st) h Q := by
  intro p l e R s m args below meth c H locs cells slots Z D α τ A hF hC hE h1 h2 hs hl L hL
  exact lv_i2c hF.1 hF.2.1 hd (Int32.ofInt_toInt _).symm (kk p l e R s m args below meth c H locs cells slots Z D α τ A hF hC hE h1 h2 (ok_c (ir32 _) (ok_t hs)) hl L hL)
theorem aw_lcmp {a b : Int} (hd : decode M.1 pc = .ok (.lcmp, 1)) (kk : AW M (pc + 1) ls ((0, lcmpI a b) :: st) h Q) : AW M pc ls ((1, b) :: (1, a) :: st) h Q := by
  intro p l e R s m args below meth c H locs cells slots Z D α τ A hF hC hE h1 h2 hs hl L hL
  have hb := ok_h hs
  have ha := ok_h (ok_t hs)
  refine W.lcmp hF.1 hF.2.1 hd ?_
  rw [e_cmp ha hb]
  exact kk p l e R s m args below meth c H locs cells slots Z D α τ A hF hC hE h1 h2 (ok_c (ok_cmp a b) (ok_t (ok_t hs))) hl L hL
theorem aw_dup {v : Vl} (hd : decode M.1 pc = .ok (.dup, 1)) (hv : wdV v = 1) (kk : AW M (pc + 1) ls (v :: v :: st) h Q) : AW M pc ls (v :: st) h Q := by
  intro p l e R s m args below meth c H locs cells slots Z D α τ A hF hC hE h1 h2 hs hl L hL
  exact lv_dup hF.1 hF.2.1 hd ((cat_enc v).trans hv) (kk p l e R s m args below meth c H locs cells slots Z D α τ A hF hC hE h1 h2 (ok_c (ok_h hs) hs) hl L hL)
theorem aw_pop {v : Vl} (hd : decode M.1 pc = .ok (.pop, 1)) (hv : wdV v = 1) (kk : AW M (pc + 1) ls (st) h Q) : AW M pc ls (v :: st) h Q := by
  intro p l e R s m args below meth c H locs cells slots Z D α τ A hF hC hE h1 h2 hs hl L hL
  exact lv_pop hF.1 hF.2.1 hd ((cat_enc v).trans hv) (kk p l e R s m args below meth c H locs cells slots Z D α τ A hF hC hE h1 h2 (ok_t hs) hl L hL)
theorem aw_dup_x1 {v w : Vl} (hd : decode M.1 pc = .ok (.dup_x1, 1)) (hv : wdV v = 1) (hw : wdV w = 1) (kk : AW M (pc + 1) ls (v :: w :: v :: st) h Q) : AW M pc ls (v :: w :: st) h Q := by
  intro p l e R s m args below meth c H locs cells slots Z D α τ A hF hC hE h1 h2 hs hl L hL
  exact lv_dup_x1 hF.1 hF.2.1 hd ((cat_enc v).trans hv) ((cat_enc w).trans hw) (kk p l e R s m args below meth c H locs cells slots Z D α τ A hF hC hE h1 h2 (ok_c (ok_h hs) (ok_c (ok_h (ok_t hs)) (ok_c (ok_h hs) (ok_t (ok_t hs))))) hl L hL)
theorem aw_dup2 {v w : Vl} (hd : decode M.1 pc = .ok (.dup2, 1)) (hv : wdV v = 1) (hw : wdV w = 1) (kk : AW M (pc + 1) ls (v :: w :: v :: w :: st) h Q) : AW M pc ls (v :: w :: st) h Q := by
  intro p l e R s m args below meth c H locs cells slots Z D α τ A hF hC hE h1 h2 hs hl L hL
  exact lv_dup2_11 hF.1 hF.2.1 hd ((cat_enc v).trans hv) ((cat_enc w).trans hw) (kk p l e R s m args below meth c H locs cells slots Z D α τ A hF hC hE h1 h2 (ok_c (ok_h hs) (ok_c (ok_h (ok_t hs)) hs)) hl L hL)
theorem aw_dup2l {v : Vl} (hd : decode M.1 pc = .ok (.dup2, 1)) (hv : wdV v = 2) (kk : AW M (pc + 1) ls (v :: v :: st) h Q) : AW M pc ls (v :: st) h Q := by
  intro p l e R s m args below meth c H locs cells slots Z D α τ A hF hC hE h1 h2 hs hl L hL
  exact lv_dup2_2 hF.1 hF.2.1 hd ((cat_enc v).trans hv) (kk p l e R s m args below meth c H locs cells slots Z D α τ A hF hC hE h1 h2 (ok_c (ok_h hs) hs) hl L hL)
theorem aw_goto {off : Int} {tgt : Nat} (hd : decode M.1 pc = .ok (.goto off, 3)) (ht : (pc : Int) + off = (tgt : Int)) (kk : AW M tgt ls st h Q) : AW M pc ls st h Q := by
  intro p l e R s m args below meth c H locs cells slots Z D α τ A hF hC hE h1 h2 hs hl L hL
  exact lv_goto hF.1 hF.2.1 hd ht (kk p l e R s m args below meth c H locs cells slots Z D α τ A hF hC hE h1 h2 hs hl L hL)
theorem z0 : InR 0 := ⟨by decide, by decide⟩
theorem aw_if_eq {x off : Int} {tgt : Nat} (hd : decode M.1 pc = .ok (.ifCond .eq off, 3)) (ht : (pc : Int) + off = (tgt : Int)) (kt : x = 0 → AW M tgt ls st h Q) (kf : ¬ (x = 0) → AW M (pc + 3) ls st h Q) : AW M pc ls ((0, x) :: st) h Q := by
  intro p l e R s m args below meth c H locs cells slots Z D α τ A hF hC hE h1 h2 hs hl L hL
  have hx : InR x := ok_h hs
  have ee := i32_eq hx z0
  exact lv_if_eq hF.1 hF.2.1 hd ht (fun q => kt (ee.mp q) p l e R s m args below meth c H locs cells slots Z D α τ A hF hC hE h1 h2 (ok_t hs) hl L hL) (fun q => kf (fun z => q (ee.mpr z)) p l e R s m args below meth c H locs cells slots Z D α τ A hF hC hE h1 h2 (ok_t hs) hl L hL)
theorem aw_if_ne {x off : Int} {tgt : Nat} (hd : decode M.1 pc = .ok (.ifCond .ne off, 3)) (ht : (pc : Int) + off = (tgt : Int)) (kt : ¬ x = 0 → AW M tgt ls st h Q) (kf : x = 0 → AW M (pc + 3) ls st h Q) : AW M pc ls ((0, x) :: st) h Q := by
  intro p l e R s m args below meth c H locs cells slots Z D α τ A hF hC hE h1 h2 hs hl L hL
  have hx : InR x := ok_h hs
  have ee := i32_eq hx z0
  exact lv_if_ne hF.1 hF.2.1 hd ht (fun q => kt (fun z => q (ee.mpr z)) p l e R s m args below meth c H locs cells slots Z D α τ A hF hC hE h1 h2 (ok_t hs) hl L hL) (fun q => kf (ee.mp q) p l e R s m args below meth c H locs cells slots Z D α τ A hF hC hE h1 h2 (ok_t hs) hl L hL)
theorem aw_if_lt {x off : Int} {tgt : Nat} (hd : decode M.1 pc = .ok (.ifCond .lt off, 3)) (ht : (pc : Int) + off = (tgt : Int)) (kt : x < 0 → AW M tgt ls st h Q) (kf : ¬ (x < 0) → AW M (pc + 3) ls st h Q) : AW M pc ls ((0, x) :: st) h Q := by
  intro p l e R s m args below meth c H locs cells slots Z D α τ A hF hC hE h1 h2 hs hl L hL
  have hx : InR x := ok_h hs
  have ee := i32_lt hx z0
  exact lv_if_lt hF.1 hF.2.1 hd ht (fun q => kt (ee.mp q) p l e R s m args below meth c H locs cells slots Z D α τ A hF hC hE h1 h2 (ok_t hs) hl L hL) (fun q => kf (fun z => q (ee.mpr z)) p l e R s m args below meth c H locs cells slots Z D α τ A hF hC hE h1 h2 (ok_t hs) hl L hL)
theorem aw_if_ge {x off : Int} {tgt : Nat} (hd : decode M.1 pc = .ok (.ifCond .ge off, 3)) (ht : (pc : Int) + off = (tgt : Int)) (kt : 0 ≤ x → AW M tgt ls st h Q) (kf : ¬ (0 ≤ x) → AW M (pc + 3) ls st h Q) : AW M pc ls ((0, x) :: st) h Q := by
  intro p l e R s m args below meth c H locs cells slots Z D α τ A hF hC hE h1 h2 hs hl L hL
  have hx : InR x := ok_h hs
  have ee := i32_le z0 hx
  exact lv_if_ge hF.1 hF.2.1 hd ht (fun q => kt (ee.mp q) p l e R s m args below meth c H locs cells slots Z D α τ A hF hC hE h1 h2 (ok_t hs) hl L hL) (fun q => kf (fun z => q (ee.mpr z)) p l e R s m args below meth c H locs cells slots Z D α τ A hF hC hE h1 h2 (ok_t hs) hl L hL)
theorem aw_if_gt {x off : Int} {tgt : Nat} (hd : decode M.1 pc = .ok (.ifCond .gt off, 3)) (ht : (pc : Int) + off = (tgt : Int)) (kt : 0 < x → AW M tgt ls st h Q) (kf : ¬ (0 < x) → AW M (pc + 3) ls st h Q) : AW M pc ls ((0, x) :: st) h Q := by
  intro p l e R s m args below meth c H locs cells slots Z D α τ A hF hC hE h1 h2 hs hl L hL
  have hx : InR x := ok_h hs
  have ee := i32_lt z0 hx
  exact lv_if_gt hF.1 hF.2.1 hd ht (fun q => kt (ee.mp q) p l e R s m args below meth c H locs cells slots Z D α τ A hF hC hE h1 h2 (ok_t hs) hl L hL) (fun q => kf (fun z => q (ee.mpr z)) p l e R s m args below meth c H locs cells slots Z D α τ A hF hC hE h1 h2 (ok_t hs) hl L hL)
theorem aw_if_le {x off : Int} {tgt : Nat} (hd : decode M.1 pc = .ok (.ifCond .le off, 3)) (ht : (pc : Int) + off = (tgt : Int)) (kt : x ≤ 0 → AW M tgt ls st h Q) (kf : ¬ (x ≤ 0) → AW M (pc + 3) ls st h Q) : AW M pc ls ((0, x) :: st) h Q := by
  intro p l e R s m args below meth c H locs cells slots Z D α τ A hF hC hE h1 h2 hs hl L hL
  have hx : InR x := ok_h hs
  have ee := i32_le hx z0
  exact lv_if_le hF.1 hF.2.1 hd ht (fun q => kt (ee.mp q) p l e R s m args below meth c H locs cells slots Z D α τ A hF hC hE h1 h2 (ok_t hs) hl L hL) (fun q => kf (fun z => q (ee.mpr z)) p l e R s m args below meth c H locs cells slots Z D α τ A hF hC hE h1 h2 (ok_t hs) hl L hL)
theorem aw_icmp_eq {x y off : Int} {tgt : Nat} (hd : decode M.1 pc = .ok (.if_icmp .eq off, 3)) (ht : (pc : Int) + off = (tgt : Int)) (kt : x = y → AW M tgt ls st h Q) (kf : ¬ (x = y) → AW M (pc + 3) ls st h Q) : AW M pc ls ((0, y) :: (0, x) :: st) h Q := by
  intro p l e R s m args below meth c H locs cells slots Z D α τ A hF hC hE h1 h2 hs hl L hL
  have hy : InR y := ok_h hs
  have hx : InR x := ok_h (ok_t hs)
  have ee := i32_eq hx hy
  exact lv_icmp_eq hF.1 hF.2.1 hd ht (fun q => kt (ee.mp q) p l e R s m args below meth c H locs cells slots Z D α τ A hF hC hE h1 h2 (ok_t (ok_t hs)) hl L hL) (fun q => kf (fun z => q (ee.mpr z)) p l e R s m args below meth c H locs cells slots Z D α τ A hF hC hE h1 h2 (ok_t (ok_t hs)) hl L hL)
theorem aw_icmp_ne {x y off : Int} {tgt : Nat} (hd : decode M.1 pc = .ok (.if_icmp .ne off, 3)) (ht : (pc : Int) + off = (tgt : Int)) (kt : ¬ x = y → AW M tgt ls st h Q) (kf : x = y → AW M (pc + 3) ls st h Q) : AW M pc ls ((0, y) :: (0, x) :: st) h Q := by
  intro p l e R s m args below meth c H locs cells slots Z D α τ A hF hC hE h1 h2 hs hl L hL
  have hy : InR y := ok_h hs
  have hx : InR x := ok_h (ok_t hs)
  have ee := i32_eq hx hy
  exact lv_icmp_ne hF.1 hF.2.1 hd ht (fun q => kt (fun z => q (ee.mpr z)) p l e R s m args below meth c H locs cells slots Z D α τ A hF hC hE h1 h2 (ok_t (ok_t hs)) hl L hL) (fun q => kf (ee.mp q) p l e R s m args below meth c H locs cells slots Z D α τ A hF hC hE h1 h2 (ok_t (ok_t hs)) hl L hL)
theorem aw_icmp_lt {x y off : Int} {tgt : Nat} (hd : decode M.1 pc = .ok (.if_icmp .lt off, 3)) (ht : (pc : Int) + off = (tgt : Int)) (kt : x < y → AW M tgt ls st h Q) (kf : ¬ (x < y) → AW M (pc + 3) ls st h Q) : AW M pc ls ((0, y) :: (0, x) :: st) h Q := by
  intro p l e R s m args below meth c H locs cells slots Z D α τ A hF hC hE h1 h2 hs hl L hL
  have hy : InR y := ok_h hs
  have hx : InR x := ok_h (ok_t hs)
  have ee := i32_lt hx hy
  exact lv_icmp_lt hF.1 hF.2.1 hd ht (fun q => kt (ee.mp q) p l e R s m args below meth c H locs cells slots Z D α τ A hF hC hE h1 h2 (ok_t (ok_t hs)) hl L hL) (fun q => kf (fun z => q (ee.mpr z)) p l e R s m args below meth c H locs cells slots Z D α τ A hF hC hE h1 h2 (ok_t (ok_t hs)) hl L hL)
theorem aw_icmp_ge {x y off : Int} {tgt : Nat} (hd : decode M.1 pc = .ok (.if_icmp .ge off, 3)) (ht : (pc : Int) + off = (tgt : Int)) (kt : y ≤ x → AW M tgt ls st h Q) (kf : ¬ (y ≤ x) → AW M (pc + 3) ls st h Q) : AW M pc ls ((0, y) :: (0, x) :: st) h Q := by
  intro p l e R s m args below meth c H locs cells slots Z D α τ A hF hC hE h1 h2 hs hl L hL
  have hy : InR y := ok_h hs
  have hx : InR x := ok_h (ok_t hs)
  have ee := i32_le hy hx
  exact lv_icmp_ge hF.1 hF.2.1 hd ht (fun q => kt (ee.mp q) p l e R s m args below meth c H locs cells slots Z D α τ A hF hC hE h1 h2 (ok_t (ok_t hs)) hl L hL) (fun q => kf (fun z => q (ee.mpr z)) p l e R s m args below meth c H locs cells slots Z D α τ A hF hC hE h1 h2 (ok_t (ok_t hs)) hl L hL)
theorem aw_icmp_gt {x y off : Int} {tgt : Nat} (hd : decode M.1 pc = .ok (.if_icmp .gt off, 3)) (ht : (pc : Int) + off = (tgt : Int)) (kt : y < x → AW M tgt ls st h Q) (kf : ¬ (y < x) → AW M (pc + 3) ls st h Q) : AW M pc ls ((0, y) :: (0, x) :: st) h Q := by
  intro p l e R s m args below meth c H locs cells slots Z D α τ A hF hC hE h1 h2 hs hl L hL
  have hy : InR y := ok_h hs
  have hx : InR x := ok_h (ok_t hs)
  have ee := i32_lt hy hx
  exact lv_icmp_gt hF.1 hF.2.1 hd ht (fun q => kt (ee.mp q) p l e R s m args below meth c H locs cells slots Z D α τ A hF hC hE h1 h2 (ok_t (ok_t hs)) hl L hL) (fun q => kf (fun z => q (ee.mpr z)) p l e R s m args below meth c H locs cells slots Z D α τ A hF hC hE h1 h2 (ok_t (ok_t hs)) hl L hL)
theorem aw_icmp_le {x y off : Int} {tgt : Nat} (hd : decode M.1 pc = .ok (.if_icmp .le off, 3)) (ht : (pc : Int) + off = (tgt : Int)) (kt : x ≤ y → AW M tgt ls st h Q) (kf : ¬ (x ≤ y) → AW M (pc + 3) ls st h Q) : AW M pc ls ((0, y) :: (0, x) :: st) h Q := by
  intro p l e R s m args below meth c H locs cells slots Z D α τ A hF hC hE h1 h2 hs hl L hL
  have hy : InR y := ok_h hs
  have hx : InR x := ok_h (ok_t hs)
  have ee := i32_le hx hy
  exact lv_icmp_le hF.1 hF.2.1 hd ht (fun q => kt (ee.mp q) p l e R s m args below meth c H locs cells slots Z D α τ A hF hC hE h1 h2 (ok_t (ok_t hs)) hl L hL) (fun q => kf (fun z => q (ee.mpr z)) p l e R s m args below meth c H locs cells slots Z D α τ A hF hC hE h1 h2 (ok_t (ok_t hs)) hl L hL)
theorem aw_tableIn {dflt lo hi : Int} {offs : Array Int} {len : Nat} {x off : Int} {tgt : Nat} (hd : decode M.1 pc = .ok (.tableswitch dflt lo hi offs, len)) (h1 : lo ≤ x) (h2 : x ≤ hi) (ho : offs[(x - lo).toNat]? = some off) (ht : (pc : Int) + off = (tgt : Int)) (kk : AW M tgt ls st h Q) : AW M pc ls ((0, x) :: st) h Q := by
  intro p l e R s m args below meth c H locs cells slots Z D α τ A hF hC hE g1 g2 hs hl L hL
  have hx : InR x := ok_h hs
  exact lv_tableIn hF.1 hF.2.1 hd (by rw [i32_ti hx]; omega) (by rw [i32_ti hx]; omega) (by rw [i32_ti hx]; exact ho) ht (kk p l e R s m args below meth c H locs cells slots Z D α τ A hF hC hE g1 g2 (ok_t hs) hl L hL)
theorem aw_tableOut {dflt lo hi : Int} {offs : Array Int} {len : Nat} {x : Int} {tgt : Nat} (hd : decode M.1 pc = .ok (.tableswitch dflt lo hi offs, len)) (h1 : x < lo ∨ hi < x) (ht : (pc : Int) + dflt = (tgt : Int)) (kk : AW M tgt ls st h Q) : AW M pc ls ((0, x) :: st) h Q := by
  intro p l e R s m args below meth c H locs cells slots Z D α τ A hF hC hE g1 g2 hs hl L hL
  have hx : InR x := ok_h hs
  exact lv_tableOut hF.1 hF.2.1 hd (by rw [i32_ti hx]; exact h1) ht (kk p l e R s m args below meth c H locs cells slots Z D α τ A hF hC hE g1 g2 (ok_t hs) hl L hL)
theorem aw_lookup {dflt : Int} {ps : Array (Int × Int)} {len : Nat} {x off : Int} {tgt : Nat} (hd : decode M.1 pc = .ok (.lookupswitch dflt ps, len)) (hp : (ps.toList.zip (ps.toList.drop 1)).all (fun (a, next) => a.1 < next.1) = true) (ho : Op.lookupswitch.offset ps.toList dflt x = off) (ht : (pc : Int) + off = (tgt : Int)) (kk : AW M tgt ls st h Q) : AW M pc ls ((0, x) :: st) h Q := by
  intro p l e R s m args below meth c H locs cells slots Z D α τ A hF hC hE g1 g2 hs hl L hL
  have hx : InR x := ok_h hs
  exact lv_lookup hF.1 hF.2.1 hd hp (by rw [i32_ti hx]; exact ho) ht (kk p l e R s m args below meth c H locs cells slots Z D α τ A hF hC hE g1 g2 (ok_t hs) hl L hL)
end AWO
