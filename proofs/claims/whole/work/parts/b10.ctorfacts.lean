/-! facts for the constructors -/
theorem pd_v0 : (parseMethodDescriptor "()V").map (fun d => d.parameters.length) = some 0 := by decide +kernel
/-- every final field, every row of references is filled -/
def FlagOK (h : Mem) (i : Nat) : Prop := (∀ c, lay i = (0, c) → ∀ k, k < nfl c → 4 ≤ (fk c k).1 → h i k = 1) ∧ ∀ t n, lay i = (t, n) → 5 ≤ t → ∀ k, k < n → h i k = 1
theorem FlagOK.fr {h u : Mem} {i : Nat} (f : FlagOK h i) (e : ∀ k, u i k = h i k) : FlagOK u i := ⟨fun c a k b d => by rw [e]; exact f.1 c a k b d, fun t n a b k d => by rw [e]; exact f.2 t n a b k d⟩
theorem flag_arr {h : Mem} {i t n : Nat} (hl : lay i = (t, n)) (ht : 1 ≤ t ∧ t ≤ 4) : FlagOK h i := ⟨fun c a => by rw [hl] at a; have : t = 0 := congrArg Prod.fst a; omega, fun t2 n2 a b => by rw [hl] at a; have : t = t2 := congrArg Prod.fst a; omega⟩
theorem flag_ob {h : Mem} {i c : Nat} (hl : lay i = (0, c)) (hf : ∀ k, k < nfl c → 4 ≤ (fk c k).1 → h i k = 1) : FlagOK h i := ⟨fun c2 a => by rw [hl] at a; have : c = c2 := congrArg Prod.snd a; subst this; exact hf, fun t2 n2 a b => by rw [hl] at a; have : 0 = t2 := congrArg Prod.fst a; omega⟩
theorem flag_row {h : Mem} {i t n : Nat} (hl : lay i = (t, n)) (ht : 5 ≤ t) (hf : ∀ k, k < n → h i k = 1) : FlagOK h i := ⟨fun c a => by rw [hl] at a; have : t = 0 := congrArg Prod.fst a; omega, fun t2 n2 a b => by rw [hl] at a; have : n = n2 := congrArg Prod.snd a; subst this; exact hf⟩
/-- what a constructor leaves: its tree is there and filled, nothing else is changed -/
def CP (o len : Nat) (S : List Nat) (h : Mem) (F : Mem → Prop) : PostB := fun rv b => rv = none ∧ (∀ i, i ∈ b.1 ↔ i ∈ S ∨ (o < i ∧ i < o + len)) ∧ (∀ i, ¬ (o ≤ i ∧ i < o + len) → ∀ k, b.2.1 i k = h i k) ∧ (∀ i, o ≤ i → i < o + len → FlagOK b.2.1 i) ∧ F b.2.1
/-- and a method that makes nothing -/
def CN (S : List Nat) (h : Mem) (lo hi : Nat) (F : Mem → Prop) : PostB := fun rv b => rv = none ∧ b.1 = S ∧ (∀ i, ¬ (lo ≤ i ∧ i < hi) → ∀ k, b.2.1 i k = h i k) ∧ F b.2.1
theorem ml_X9_3 : Cond.methodLink RX9 3 Lib.objectInit ∈ lw_g := mg1 161 rfl rfl
theorem ac_long : Cond.arrayClass .long ∈ lw_g := mg1 51 rfl rfl
theorem ly_9_1 {o : Nat} (h : lay o = (0, 9)) : lay (o + 1) = (2, 8) := by
  have key : ∀ i, i < nOb → lay i = (0, 9) → lay (i + 1) = (2, 8) := by decide +kernel
  exact key o (lay_lt h (by omega)) h
theorem ac_int : Cond.arrayClass .int ∈ lw_g := mg1 50 rfl rfl
theorem ly_9_2 {o : Nat} (h : lay o = (0, 9)) : lay (o + 2) = (1, 8) := by
  have key : ∀ i, i < nOb → lay i = (0, 9) → lay (i + 2) = (1, 8) := by decide +kernel
  exact key o (lay_lt h (by omega)) h
theorem ly_9_3 {o : Nat} (h : lay o = (0, 9)) : lay (o + 3) = (1, 8) := by
  have key : ∀ i, i < nOb → lay i = (0, 9) → lay (i + 3) = (1, 8) := by decide +kernel
  exact key o (lay_lt h (by omega)) h
theorem ly_9_4 {o : Nat} (h : lay o = (0, 9)) : lay (o + 4) = (1, 8) := by
  have key : ∀ i, i < nOb → lay i = (0, 9) → lay (i + 4) = (1, 8) := by decide +kernel
  exact key o (lay_lt h (by omega)) h
theorem ly_9_5 {o : Nat} (h : lay o = (0, 9)) : lay (o + 5) = (1, 8) := by
  have key : ∀ i, i < nOb → lay i = (0, 9) → lay (i + 5) = (1, 8) := by decide +kernel
  exact key o (lay_lt h (by omega)) h
theorem ly_9_6 {o : Nat} (h : lay o = (0, 9)) : lay (o + 6) = (1, 8) := by
  have key : ∀ i, i < nOb → lay i = (0, 9) → lay (i + 6) = (1, 8) := by decide +kernel
  exact key o (lay_lt h (by omega)) h
theorem ly_9_7 {o : Nat} (h : lay o = (0, 9)) : lay (o + 7) = (1, 8) := by
  have key : ∀ i, i < nOb → lay i = (0, 9) → lay (i + 7) = (1, 8) := by decide +kernel
  exact key o (lay_lt h (by omega)) h
theorem ly_9_8 {o : Nat} (h : lay o = (0, 9)) : lay (o + 8) = (1, 8) := by
  have key : ∀ i, i < nOb → lay i = (0, 9) → lay (i + 8) = (1, 8) := by decide +kernel
  exact key o (lay_lt h (by omega)) h
theorem ml_X7_3 : Cond.methodLink RX7 3 Lib.objectInit ∈ lw_g := mg1 211 rfl rfl
theorem ly_7_1 {o : Nat} (h : lay o = (0, 7)) : lay (o + 1) = (2, 4) := by
  have key : ∀ i, i < nOb → lay i = (0, 7) → lay (i + 1) = (2, 4) := by decide +kernel
  exact key o (lay_lt h (by omega)) h
theorem ly_7_2 {o : Nat} (h : lay o = (0, 7)) : lay (o + 2) = (1, 4) := by
  have key : ∀ i, i < nOb → lay i = (0, 7) → lay (i + 2) = (1, 4) := by decide +kernel
  exact key o (lay_lt h (by omega)) h
theorem ly_7_3 {o : Nat} (h : lay o = (0, 7)) : lay (o + 3) = (1, 4) := by
  have key : ∀ i, i < nOb → lay i = (0, 7) → lay (i + 3) = (1, 4) := by decide +kernel
  exact key o (lay_lt h (by omega)) h
theorem ly_7_4 {o : Nat} (h : lay o = (0, 7)) : lay (o + 4) = (1, 4) := by
  have key : ∀ i, i < nOb → lay i = (0, 7) → lay (i + 4) = (1, 4) := by decide +kernel
  exact key o (lay_lt h (by omega)) h
theorem ly_4_1 {o : Nat} (h : lay o = (0, 4)) : lay (o + 1) = (0, 9) := by
  have key : ∀ i, i < nOb → lay i = (0, 4) → lay (i + 1) = (0, 9) := by decide +kernel
  exact key o (lay_lt h (by omega)) h
theorem ly_4_10 {o : Nat} (h : lay o = (0, 4)) : lay (o + 10) = (0, 7) := by
  have key : ∀ i, i < nOb → lay i = (0, 4) → lay (i + 10) = (0, 7) := by decide +kernel
  exact key o (lay_lt h (by omega)) h
theorem ml_X4_3 : Cond.methodLink RX4 3 Lib.objectInit ∈ lw_g := mg1 155 rfl rfl
theorem cll_X4_9 : Cond.classLink RX4 9 RX9 ∈ lw_g := mg1 156 rfl rfl
theorem ins_X9 : Cond.instantiable RX9 9 ∈ lw_g := mg1 157 rfl rfl
theorem ini_X9 : Cond.initialized RX9 ∈ lw_g := mg1 9 rfl rfl
theorem dv_9 : ∀ j, j < 9 → defaultValue (tyX9 j) = dvl (fk 9 j).1 := fun j hj => by
  rcases (show j = 0 ∨ j = 1 ∨ j = 2 ∨ j = 3 ∨ j = 4 ∨ j = 5 ∨ j = 6 ∨ j = 7 ∨ j = 8 by omega) with rfl | rfl | rfl | rfl | rfl | rfl | rfl | rfl | rfl <;> rfl
theorem cyi_X9_init : CYi yX9_init cX9_init 1 0 := ⟨mg1 159 rfl rfl, mg1 9 rfl rfl, mg1 160 rfl rfl, rfl, nc_RX9.1, nc_RX9.2, pd_v0⟩
theorem nst_X4_11 : (RX4, 11, yX9_init, RX11) ∈ nestL := List.mem_of_getElem? (i := 1) rfl
theorem cll_X4_18 : Cond.classLink RX4 18 RX7 ∈ lw_g := mg1 206 rfl rfl
theorem ins_X7 : Cond.instantiable RX7 5 ∈ lw_g := mg1 207 rfl rfl
theorem ini_X7 : Cond.initialized RX7 ∈ lw_g := mg1 10 rfl rfl
theorem dv_7 : ∀ j, j < 5 → defaultValue (tyX7 j) = dvl (fk 7 j).1 := fun j hj => by
  rcases (show j = 0 ∨ j = 1 ∨ j = 2 ∨ j = 3 ∨ j = 4 by omega) with rfl | rfl | rfl | rfl | rfl <;> rfl
theorem cyi_X7_init : CYi yX7_init cX7_init 1 0 := ⟨mg1 209 rfl rfl, mg1 10 rfl rfl, mg1 210 rfl rfl, rfl, nc_RX7.1, nc_RX7.2, pd_v0⟩
theorem nst_X4_20 : (RX4, 20, yX7_init, RX11) ∈ nestL := List.mem_of_getElem? (i := 2) rfl
theorem ml_X4_25 : Cond.methodLink RX4 25 yX4_clear ∈ lw_g := mg1 238 rfl rfl
theorem ml_X1_1 : Cond.methodLink RX1 1 Lib.objectInit ∈ lw_g := mg2 68 rfl rfl
theorem ly_1_1 {o : Nat} (h : lay o = (0, 1)) : lay (o + 1) = (1, 60) := by
  have key : ∀ i, i < nOb → lay i = (0, 1) → lay (i + 1) = (1, 60) := by decide +kernel
  exact key o (lay_lt h (by omega)) h
theorem ly_1_2 {o : Nat} (h : lay o = (0, 1)) : lay (o + 2) = (1, 60) := by
  have key : ∀ i, i < nOb → lay i = (0, 1) → lay (i + 2) = (1, 60) := by decide +kernel
  exact key o (lay_lt h (by omega)) h
theorem ly_1_3 {o : Nat} (h : lay o = (0, 1)) : lay (o + 3) = (1, 60) := by
  have key : ∀ i, i < nOb → lay i = (0, 1) → lay (i + 3) = (1, 60) := by decide +kernel
  exact key o (lay_lt h (by omega)) h
theorem ly_1_4 {o : Nat} (h : lay o = (0, 1)) : lay (o + 4) = (1, 60) := by
  have key : ∀ i, i < nOb → lay i = (0, 1) → lay (i + 4) = (1, 60) := by decide +kernel
  exact key o (lay_lt h (by omega)) h
theorem ly_1_5 {o : Nat} (h : lay o = (0, 1)) : lay (o + 5) = (1, 60) := by
  have key : ∀ i, i < nOb → lay i = (0, 1) → lay (i + 5) = (1, 60) := by decide +kernel
  exact key o (lay_lt h (by omega)) h
theorem ml_X2_3 : Cond.methodLink RX2 3 Lib.objectInit ∈ lw_g := mg2 125 rfl rfl
theorem cll_X2_9 : Cond.classLink RX2 9 RX1 ∈ lw_g := mg2 126 rfl rfl
theorem ins_X1 : Cond.instantiable RX1 8 ∈ lw_g := mg2 64 rfl rfl
theorem ini_X1 : Cond.initialized RX1 ∈ lw_g := mg1 11 rfl rfl
theorem ly_2_1 {o : Nat} (h : lay o = (0, 2)) : lay (o + 1) = (0, 1) := by
  have key : ∀ i, i < nOb → lay i = (0, 2) → lay (i + 1) = (0, 1) := by decide +kernel
  exact key o (lay_lt h (by omega)) h
theorem dv_1 : ∀ j, j < 8 → defaultValue (tyX1 j) = dvl (fk 1 j).1 := fun j hj => by
  rcases (show j = 0 ∨ j = 1 ∨ j = 2 ∨ j = 3 ∨ j = 4 ∨ j = 5 ∨ j = 6 ∨ j = 7 by omega) with rfl | rfl | rfl | rfl | rfl | rfl | rfl | rfl <;> rfl
theorem cyi_X1_init : CYi yX1_init cX1_init 1 0 := ⟨mg2 66 rfl rfl, mg1 11 rfl rfl, mg2 67 rfl rfl, rfl, nc_RX1.1, nc_RX1.2, pd_v0⟩
theorem nst_X2_11 : (RX2, 11, yX1_init, RX11) ∈ nestL := List.mem_of_getElem? (i := 6) rfl
theorem ly_2_7 {o : Nat} (h : lay o = (0, 2)) : lay (o + 7) = (1, 3) := by
  have key : ∀ i, i < nOb → lay i = (0, 2) → lay (i + 7) = (1, 3) := by decide +kernel
  exact key o (lay_lt h (by omega)) h
theorem ml_X3_3 : Cond.methodLink RX3 3 Lib.objectInit ∈ lw_g := mg2 186 rfl rfl
theorem cll_X3_9 : Cond.classLink RX3 9 RX4 ∈ lw_g := mg2 187 rfl rfl
theorem ins_X4 : Cond.instantiable RX4 9 ∈ lw_g := mg1 151 rfl rfl
theorem ini_X4 : Cond.initialized RX4 ∈ lw_g := mg1 8 rfl rfl
theorem ly_3_1 {o : Nat} (h : lay o = (0, 3)) : lay (o + 1) = (0, 4) := by
  have key : ∀ i, i < nOb → lay i = (0, 3) → lay (i + 1) = (0, 4) := by decide +kernel
  exact key o (lay_lt h (by omega)) h
theorem dv_4 : ∀ j, j < 9 → defaultValue (tyX4 j) = dvl (fk 4 j).1 := fun j hj => by
  rcases (show j = 0 ∨ j = 1 ∨ j = 2 ∨ j = 3 ∨ j = 4 ∨ j = 5 ∨ j = 6 ∨ j = 7 ∨ j = 8 by omega) with rfl | rfl | rfl | rfl | rfl | rfl | rfl | rfl | rfl <;> rfl
theorem cyi_X4_init : CYi yX4_init cX4_init 1 0 := ⟨mg1 153 rfl rfl, mg1 8 rfl rfl, mg1 154 rfl rfl, rfl, nc_RX4.1, nc_RX4.2, pd_v0⟩
theorem ml_X3_11 : Cond.methodLink RX3 11 yX4_init ∈ lw_g := mg2 188 rfl rfl
theorem ly_3_16 {o : Nat} (h : lay o = (0, 3)) : lay (o + 16) = (0, 4) := by
  have key : ∀ i, i < nOb → lay i = (0, 3) → lay (i + 16) = (0, 4) := by decide +kernel
  exact key o (lay_lt h (by omega)) h
theorem ml_X5_3 : Cond.methodLink RX5 3 Lib.objectInit ∈ lw_g := mg2 109 rfl rfl
theorem ml_X6_3 : Cond.methodLink RX6 3 Lib.objectInit ∈ lw_g := mg2 225 rfl rfl
theorem ly_6_1 {o : Nat} (h : lay o = (0, 6)) : lay (o + 1) = (1, 60) := by
  have key : ∀ i, i < nOb → lay i = (0, 6) → lay (i + 1) = (1, 60) := by decide +kernel
  exact key o (lay_lt h (by omega)) h
theorem ml_X0_3 : Cond.methodLink RX0 3 Lib.objectInit ∈ lw_g := mg2 150 rfl rfl
theorem ly_0_1 {o : Nat} (h : lay o = (0, 0)) : lay (o + 1) = (2, 201) := by
  have key : ∀ i, i < nOb → lay i = (0, 0) → lay (i + 1) = (2, 201) := by decide +kernel
  exact key o (lay_lt h (by omega)) h
theorem ly_0_2 {o : Nat} (h : lay o = (0, 0)) : lay (o + 2) = (2, 201) := by
  have key : ∀ i, i < nOb → lay i = (0, 0) → lay (i + 2) = (2, 201) := by decide +kernel
  exact key o (lay_lt h (by omega)) h
theorem ly_0_3 {o : Nat} (h : lay o = (0, 0)) : lay (o + 3) = (2, 25) := by
  have key : ∀ i, i < nOb → lay i = (0, 0) → lay (i + 3) = (2, 25) := by decide +kernel
  exact key o (lay_lt h (by omega)) h
theorem ac_boolean : Cond.arrayClass .boolean ∈ lw_g := mg2 180 rfl rfl
theorem ly_0_4 {o : Nat} (h : lay o = (0, 0)) : lay (o + 4) = (4, 25) := by
  have key : ∀ i, i < nOb → lay i = (0, 0) → lay (i + 4) = (4, 25) := by decide +kernel
  exact key o (lay_lt h (by omega)) h
theorem ml_X10_1 : Cond.methodLink RX10 1 Lib.objectInit ∈ lw_g := mg1 34 rfl rfl
theorem ly_10_1 {o : Nat} (h : lay o = (0, 10)) : lay (o + 1) = (1, 4) := by
  have key : ∀ i, i < nOb → lay i = (0, 10) → lay (i + 1) = (1, 4) := by decide +kernel
  exact key o (lay_lt h (by omega)) h
theorem ly_10_2 {o : Nat} (h : lay o = (0, 10)) : lay (o + 2) = (1, 4) := by
  have key : ∀ i, i < nOb → lay i = (0, 10) → lay (i + 2) = (1, 4) := by decide +kernel
  exact key o (lay_lt h (by omega)) h
theorem ly_10_4 {o : Nat} (h : lay o = (0, 10)) : lay (o + 4) = (2, 60) := by
  have key : ∀ i, i < nOb → lay i = (0, 10) → lay (i + 4) = (2, 60) := by decide +kernel
  exact key o (lay_lt h (by omega)) h
theorem ly_10_5 {o : Nat} (h : lay o = (0, 10)) : lay (o + 5) = (2, 60) := by
  have key : ∀ i, i < nOb → lay i = (0, 10) → lay (i + 5) = (2, 60) := by decide +kernel
  exact key o (lay_lt h (by omega)) h
theorem ly_10_6 {o : Nat} (h : lay o = (0, 10)) : lay (o + 6) = (2, 60) := by
  have key : ∀ i, i < nOb → lay i = (0, 10) → lay (i + 6) = (2, 60) := by decide +kernel
  exact key o (lay_lt h (by omega)) h
theorem ly_10_7 {o : Nat} (h : lay o = (0, 10)) : lay (o + 7) = (2, 60) := by
  have key : ∀ i, i < nOb → lay i = (0, 10) → lay (i + 7) = (2, 60) := by decide +kernel
  exact key o (lay_lt h (by omega)) h
theorem cll_X10_16 : Cond.classLink RX10 16 "[[J" ∈ lw_g := mg1 35 rfl rfl
theorem ly_10_3 {o : Nat} (h : lay o = (0, 10)) : lay (o + 3) = (7, 4) := by
  have key : ∀ i, i < nOb → lay i = (0, 10) → lay (i + 3) = (7, 4) := by decide +kernel
  exact key o (lay_lt h (by omega)) h
