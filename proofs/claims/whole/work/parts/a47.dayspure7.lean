/-- what entries say, in terms of a glen -/
def DE0 (g : Gs) (d : Dy) : Prop := ∀ k, k < dn d → (d 1 k = 10) ∨ ∃ w : Int, EnOk g w (d 1 k, d 2 k, d 3 k, d 4 k)
theorem de_one {g : Gs} {d : Dy} {k0 : Int} {e0 : En} (v : DE0 g d) (p : 0 ≤ d 0 2) (h : EnOk g k0 e0) : DE0 g (oneE d k0 e0) := by
  intro k hk
  have a2 : oneE d k0 e0 0 2 = d 0 2 + 1 := by
    have a2 : stpE (addE d e0) 0 2 = d 0 2 + 1 := by rw [stpE_o (by omega)]; unfold addE; rw [if_pos ⟨rfl, rfl⟩]
    unfold oneE
    by_cases c : opn k0 = true ∧ d 0 3 < 3
    · rw [if_pos c, psh_o (by omega) (by omega)]; exact a2
    · rw [if_neg c]; exact a2
  have n1 : dn (oneE d k0 e0) = dn d + 1 := by unfold dn; rw [a2]; omega
  by_cases c : k = dn d
  · right
    refine ⟨k0, ?_⟩
    rw [ent_1 (f := 1) (by omega), ent_1 (f := 2) (by omega), ent_1 (f := 3) (by omega), ent_1 (f := 4) (by omega), if_pos c, if_pos c, if_pos c, if_pos c]
    exact h
  · rw [ent_1 (f := 1) (by omega), ent_1 (f := 2) (by omega), ent_1 (f := 3) (by omega), ent_1 (f := 4) (by omega), if_neg c, if_neg c, if_neg c, if_neg c]
    exact v k (by omega)
theorem cls_f {d : Dy} {f k : Nat} (hf : 1 ≤ f ∧ f ≤ 4) (hk : k ≠ dn d) : clsE d f k = d f k := by
  unfold clsE
  rw [pairE_o (by omega), addE_o (by omega) (by rw [dn_same (popE_o (by omega))]; omega), popE_o (by omega)]
theorem de_cls {g : Gs} {d : Dy} (v : DE0 g d) (p : 0 ≤ d 0 2) : DE0 g (clsE d) := by
  intro k hk
  rw [cls_2 p] at hk
  by_cases c : k = dn d
  · left; rw [cls_1, if_pos c]
  · rw [cls_f (f := 1) (by omega) c, cls_f (f := 2) (by omega) c, cls_f (f := 3) (by omega) c, cls_f (f := 4) (by omega) c]
    exact v k (by omega)
theorem en_op {g : Gs} {k : Int} {e : En} (h : EnOk g k e) : ((4 ≤ e.1 ∧ e.1 ≤ 8) ↔ opn k = true) ∧ e.1 ≠ 10 ∧ 0 ≤ e.1 ∧ e.1 ≤ 9 := by
  rw [opn_is]
  unfold EnOk at h
  omega
