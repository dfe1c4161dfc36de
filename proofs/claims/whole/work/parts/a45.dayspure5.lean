/-! days half read: openers on the stack wait for their ends -/
def onS (d : Dy) (k : Nat) : Prop := ∃ i, i < dd d ∧ d 6 i = (k : Int)
def DV (d : Dy) : Prop := (∀ i, i < dd d → ∃ o : Nat, d 6 i = (o : Int) ∧ o < dn d ∧ isOp d o) ∧ (∀ i j, i < j → j < dd d → d 6 i < d 6 j)
  ∧ (∀ k, k < dn d → isOp d k → ¬ onS d k → ∃ e : Nat, d 5 k = (e : Int) ∧ k < e ∧ e < dn d ∧ d 1 e = 10 ∧ d 5 e = (k : Int))
  ∧ (∀ k, k < dn d → d 1 k = 10 → ∃ q : Nat, d 5 k = (q : Int) ∧ q < k ∧ isOp d q ∧ d 5 q = (k : Int) ∧ ¬ onS d q)
  ∧ (∀ k, k + 1 < dn d → isOp d k → d 1 (k + 1) = 10 → d 5 (k + 1) = (k : Int))
  ∧ (∀ o p, o < dn d → p < dn d → isOp d o → isOp d p → ¬ onS d o → ¬ onS d p → o < p → (p : Int) < d 5 o → d 5 p < d 5 o)
  ∧ (∀ o q, o < dn d → q < o → onS d o → isOp d q → ¬ onS d q → d 5 q < (o : Int))
section DE
variable {d : Dy}
theorem cls_1 {k : Nat} : clsE d 1 k = if k = dn d then 10 else d 1 k := by
  unfold clsE
  rw [pairE_o (by omega)]
  unfold addE
  rw [if_neg (by omega), dn_same (popE_o (by omega))]
  by_cases c : k = dn d
  · rw [if_pos ⟨c, by omega, by omega⟩, if_pos rfl, if_pos c]
  · rw [if_neg (fun z => c z.1), if_neg c, popE_o (by omega)]
theorem cls_2 (p : 0 ≤ d 0 2) : dn (clsE d) = dn d + 1 := by
  have e : clsE d 0 2 = d 0 2 + 1 := by
    unfold clsE; rw [pairE_o (by omega)]
    unfold addE; rw [if_pos ⟨rfl, rfl⟩, popE_o (by omega)]
  unfold dn; rw [e]; omega
theorem cls_3 (p : 1 ≤ d 0 3) : dd (clsE d) + 1 = dd d := by
  have e : clsE d 0 3 = d 0 3 - 1 := by
    unfold clsE; rw [pairE_o (by omega), addE_o (by omega) (by omega)]
    unfold popE; rw [if_pos ⟨rfl, rfl⟩]
  unfold dd; rw [e]; omega
theorem cls_6 {i : Nat} : clsE d 6 i = d 6 i := by
  unfold clsE; rw [pairE_o (by omega), addE_o (by omega) (by omega), popE_o (by omega)]
theorem cls_5 {o k : Nat} (ho : d 6 (dd d - 1) = (o : Int)) (p : 0 ≤ d 0 2) : clsE d 5 k = if k = dn d then (o : Int) else if k = o then (dn d : Int) else d 5 k := by
  have e2 : (d 0 2).toNat = dn d := rfl
  have e3 : d 0 2 = (dn d : Int) := by unfold dn; omega
  unfold clsE
  rw [ho]
  unfold pairE
  rw [e2, Int.toNat_natCast]
  by_cases c : k = dn d
  · rw [if_pos ⟨rfl, c⟩, if_pos c]
  · rw [if_neg (fun z => c z.2), if_neg c]
    by_cases b : k = o
    · rw [if_pos ⟨rfl, b⟩, if_pos b, e3]
    · rw [if_neg (fun z => b z.2), if_neg b, addE_o (by omega) (by rw [dn_same (popE_o (by omega))]; omega), popE_o (by omega)]
theorem dv_cls (v : DV d) (p : 0 ≤ d 0 2) (q : 1 ≤ d 0 3) : DV (clsE d) := by
  obtain ⟨v1, v2, v3, v4, v5, v6, v7⟩ := v
  have c3 := cls_3 q
  have n1 := cls_2 p
  obtain ⟨o, ho, ol, oo⟩ := v1 (dd d - 1) (by omega)
  have c5 : ∀ k, clsE d 5 k = if k = dn d then (o : Int) else if k = o then (dn d : Int) else d 5 k := fun k => cls_5 ho p
  have c1 : ∀ k, k < dn d → clsE d 1 k = d 1 k := fun k hk => by rw [cls_1, if_neg (by omega)]
  have cN : clsE d 1 (dn d) = 10 := by rw [cls_1, if_pos rfl]
  have op : ∀ k, isOp (clsE d) k → k < dn d + 1 → k < dn d ∧ isOp d k := fun k hk hl => by
    unfold isOp at hk
    by_cases c : k = dn d
    · subst c; rw [cN] at hk; omega
    · rw [c1 k (by omega)] at hk; exact ⟨by omega, hk⟩
  have po : ∀ k, k < dn d → isOp d k → isOp (clsE d) k := fun k hk h => by unfold isOp; rw [c1 k hk]; exact h
  have s1 : ∀ k, onS (clsE d) k → onS d k ∧ k < o := fun k ⟨i, hi, e⟩ => by
    rw [cls_6] at e
    have := v2 i (dd d - 1) (by omega) (by omega)
    exact ⟨⟨i, by omega, e⟩, by omega⟩
  have s2 : ∀ k, ¬ onS (clsE d) k → k ≠ o → ¬ onS d k := fun k nk ne ⟨i, hi, e⟩ => by
    by_cases c : i = dd d - 1
    · subst c; omega
    · exact nk ⟨i, by omega, by rw [cls_6]; exact e⟩
  have so : onS d o := ⟨dd d - 1, by omega, ho⟩
  have no : ¬ onS (clsE d) o := fun z => by have := (s1 o z).2; omega
  refine ⟨fun i hi => ?_, fun i j h1 h2 => ?_, fun k hk hop hs => ?_, fun k hk h10 => ?_, fun k hk hop h10 => ?_, fun a b ha hb oa ob na nb hab hlt => ?_, fun a b ha hb sa ob nb => ?_⟩
  · obtain ⟨x, x1, x2, x3⟩ := v1 i (by omega)
    exact ⟨x, by rw [cls_6]; exact x1, by omega, po x x2 x3⟩
  · rw [cls_6, cls_6]; exact v2 i j h1 (by omega)
  · rw [n1] at hk
    obtain ⟨kl, ko⟩ := op k hop hk
    by_cases c : k = o
    · subst c
      exact ⟨dn d, by rw [c5, if_neg (by omega), if_pos rfl], kl, by omega, cN, by rw [c5, if_pos rfl]⟩
    · obtain ⟨e, e1, e2, e3, e4, e5⟩ := v3 k kl ko (s2 k hs c)
      have eo : e ≠ o := fun z => by subst z; unfold isOp at oo; omega
      exact ⟨e, by rw [c5, if_neg (by omega), if_neg c]; exact e1, e2, by omega, by rw [c1 e e3]; exact e4, by rw [c5, if_neg (by omega), if_neg eo]; exact e5⟩
  · rw [n1] at hk
    by_cases c : k = dn d
    · subst c
      exact ⟨o, by rw [c5, if_pos rfl], ol, po o ol oo, by rw [c5, if_neg (by omega), if_pos rfl], no⟩
    · rw [c1 k (by omega)] at h10
      obtain ⟨x, x1, x2, x3, x4, x5⟩ := v4 k (by omega) h10
      have xo : x ≠ o := fun z => by subst z; exact x5 so
      have ko : k ≠ o := fun z => by subst z; unfold isOp at oo; omega
      exact ⟨x, by rw [c5, if_neg c, if_neg ko]; exact x1, x2, po x (by omega) x3, by rw [c5, if_neg (by omega), if_neg xo]; exact x4, fun z => x5 (s1 x z).1⟩
  · rw [n1] at hk
    obtain ⟨kl, ko⟩ := op k hop (by omega)
    by_cases c : k + 1 = dn d
    · have ks : onS d k := by
        by_cases z : onS d k
        · exact z
        · obtain ⟨e, e1, e2, e3, _⟩ := v3 k kl ko z
          omega
      obtain ⟨i, hi, ei⟩ := ks
      have : k = o := by
        by_cases z : i = dd d - 1
        · subst z; omega
        · have := v2 i (dd d - 1) (by omega) (by omega); omega
      rw [c5, if_pos c, this]
    · rw [c1 (k + 1) (by omega)] at h10
      have k1o : k + 1 ≠ o := fun z => by rw [z] at h10; unfold isOp at oo; omega
      rw [c5, if_neg c, if_neg k1o]
      exact v5 k (by omega) ko h10
  · rw [n1] at ha hb
    obtain ⟨al, ao⟩ := op a oa ha
    obtain ⟨bl, bo⟩ := op b ob hb
    rw [c5 a, if_neg (show a ≠ dn d by omega)] at hlt
    rw [c5 b, c5 a, if_neg (show b ≠ dn d by omega), if_neg (show a ≠ dn d by omega)]
    by_cases cb : b = o
    · rw [if_neg (show a ≠ o by omega)] at hlt
      have := v7 o a ol (by omega) so ao (s2 a na (by omega))
      subst cb
      omega
    · have nb' := s2 b nb cb
      obtain ⟨e, e1, e2, e3, _⟩ := v3 b bl bo nb'
      rw [if_neg cb]
      by_cases ca : a = o
      · rw [if_pos ca]; omega
      · rw [if_neg ca] at hlt ⊢
        exact v6 a b al bl ao bo (s2 a na ca) nb' hab hlt
  · rw [n1] at ha
    obtain ⟨sa1, sa2⟩ := s1 a sa
    obtain ⟨bl, bo⟩ := op b ob (by omega)
    have cb : b ≠ o := by omega
    rw [c5, if_neg (by omega), if_neg cb]
    exact v7 a b (by omega) hb sa1 bo (s2 b nb cb)
end DE
