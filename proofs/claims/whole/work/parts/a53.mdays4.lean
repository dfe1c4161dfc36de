/-! the reference's days while they are read -/
section MD4
variable {h : Mem} {B : Nat → Int} {n s : Nat} {g : Gs} {d : Dy} {k0 : Int} {e0 : En}
theorem one_1 : oneE d k0 e0 0 1 = d 0 1 + 1 := by
  have a : stpE (addE d e0) 0 1 = d 0 1 + 1 := by unfold stpE; rw [if_pos ⟨rfl, rfl⟩, addE_o (by omega) (by omega)]
  unfold oneE
  by_cases c : opn k0 = true ∧ d 0 3 < 3
  · rw [if_pos c, psh_o (by omega) (by omega)]; exact a
  · rw [if_neg c]; exact a
theorem one_2 : oneE d k0 e0 0 2 = d 0 2 + 1 := by
  have a2 : stpE (addE d e0) 0 2 = d 0 2 + 1 := by rw [stpE_o (by omega)]; unfold addE; rw [if_pos ⟨rfl, rfl⟩]
  unfold oneE
  by_cases c : opn k0 = true ∧ d 0 3 < 3
  · rw [if_pos c, psh_o (by omega) (by omega)]; exact a2
  · rw [if_neg c]; exact a2
theorem one_3 (hop : opn k0 = true → d 0 3 < 3) : oneE d k0 e0 0 3 = if opn k0 = true then d 0 3 + 1 else d 0 3 := by
  have a3 : stpE (addE d e0) 0 3 = d 0 3 := by rw [stpE_o (by omega), addE_o (by omega) (by omega)]
  unfold oneE
  by_cases c : opn k0 = true
  · rw [if_pos ⟨c, hop c⟩, if_pos c]; unfold psh; rw [if_pos ⟨rfl, rfl⟩, a3]
  · rw [if_neg (fun z => c z.1), if_neg c]; exact a3
theorem one_6 (hop : opn k0 = true → d 0 3 < 3) {i : Nat} : oneE d k0 e0 6 i = if opn k0 = true ∧ i = dd d then d 0 2 else d 6 i := by
  have a3 : stpE (addE d e0) 0 3 = d 0 3 := by rw [stpE_o (by omega), addE_o (by omega) (by omega)]
  have a6 : ∀ i, stpE (addE d e0) 6 i = d 6 i := fun i => by rw [stpE_o (by omega), addE_o (by omega) (by omega)]
  unfold oneE
  by_cases c : opn k0 = true
  · rw [if_pos ⟨c, hop c⟩]
    by_cases b : i = dd d
    · rw [if_pos ⟨c, b⟩]; unfold psh; rw [if_neg (by omega), if_pos ⟨rfl, b.trans (dd_same a3).symm⟩]
    · rw [if_neg (fun z => b z.2), psh_o (by omega) (by rw [dd_same a3]; omega)]; exact a6 i
  · rw [if_neg (fun z => c z.1), if_neg (fun z => c z.1)]; exact a6 i
theorem cls_new {f : Nat} (hf : 2 ≤ f ∧ f ≤ 4) : clsE d f (dn d) = 0 := by
  unfold clsE
  rw [pairE_o (by omega)]
  unfold addE
  rw [if_neg (by omega), if_pos ⟨(dn_same (popE_o (by omega))).symm, by omega, by omega⟩, if_neg (by omega)]
  split
  · rfl
  · split
    · rfl
    · rw [if_pos (by omega)]
theorem cls_01 : clsE d 0 1 = d 0 1 := by
  unfold clsE; rw [pairE_o (by omega), addE_o (by omega) (by omega), popE_o (by omega)]
theorem cls_02 : clsE d 0 2 = d 0 2 + 1 := by
  unfold clsE; rw [pairE_o (by omega)]
  unfold addE; rw [if_pos ⟨rfl, rfl⟩, popE_o (by omega)]
theorem cls_03 : clsE d 0 3 = d 0 3 - 1 := by
  unfold clsE; rw [pairE_o (by omega), addE_o (by omega) (by omega)]
  unfold popE; rw [if_pos ⟨rfl, rfl⟩]
/-- the reference's rows -/
def RDw (h : Mem) (d : Dy) : Prop := h 161 22 = d 0 3 ∧ h 161 23 = d 0 1 ∧ h 162 1801 = d 0 2 ∧ (∀ i, i < dd d → h 169 i = d 6 i) ∧ ∀ k, k < dn d → EW h (1872 + 6 * k) (d 1 k, d 2 k, d 3 k, d 4 k) ∧ (4 ≤ d 1 k → d 1 k ≠ 9 → ¬ onS d k → h 162 (1872 + 6 * k + 4) = d 5 k)
theorem EW.fr {u : Mem} {r : Nat} {e : En} (w : EW h r e) (f : ∀ k, r ≤ k → k < r + 6 → u 162 k = h 162 k) : EW u r e := by
  obtain ⟨a, b, c, z⟩ := w
  exact ⟨by rw [f _ (by omega) (by omega)]; exact a, fun q => by rw [f _ (by omega) (by omega)]; exact b q, by rw [f _ (by omega) (by omega)]; exact c, by rw [f _ (by omega) (by omega)]; exact z⟩
theorem RDw.fr {u : Mem} (r : RDw h d) (f1 : u 161 22 = h 161 22) (f2 : u 161 23 = h 161 23) (f3 : u 162 1801 = h 162 1801) (f4 : ∀ i, u 169 i = h 169 i) (f5 : ∀ k, 1872 ≤ k → k < 1872 + 6 * dn d → u 162 k = h 162 k) : RDw u d := by
  obtain ⟨r1, r2, r3, r4, r5⟩ := r
  refine ⟨by rw [f1]; exact r1, by rw [f2]; exact r2, by rw [f3]; exact r3, fun i hi => by rw [f4]; exact r4 i hi, fun k hk => ⟨(r5 k hk).1.fr (fun j j1 j2 => f5 j (by omega) (by omega)), fun q1 q2 q3 => ?_⟩⟩
  rw [f5 _ (by omega) (by omega)]; exact (r5 k hk).2 q1 q2 q3
theorem rdw_one {u : Mem} (r : RDw h d) (p : DN d) (hop : opn k0 = true → d 0 3 < 3) (hk : (4 ≤ e0.1 ∧ e0.1 ≤ 8) ↔ opn k0 = true) (h10 : e0.1 ≠ 10) (h9 : e0.1 ≤ 9)
    (f1 : u 161 22 = oneE d k0 e0 0 3) (f2 : u 161 23 = d 0 1 + 1) (f3 : u 162 1801 = d 0 2 + 1) (f4 : ∀ i, i < dd d → u 169 i = h 169 i) (f5 : ∀ k, 1872 ≤ k → k < 1872 + 6 * dn d → u 162 k = h 162 k) (f6 : opn k0 = true → u 169 (dd d) = d 0 2) (f7 : EW u (1872 + 6 * dn d) e0) : RDw u (oneE d k0 e0) := by
  obtain ⟨r1, r2, r3, r4, r5⟩ := r
  obtain ⟨p1, p2, p3, p4, p5, p6, p7⟩ := p
  have n1 : dn (oneE d k0 e0) = dn d + 1 := by unfold dn; rw [one_2]; omega
  have dlt : (dn d : Int) = d 0 2 := by unfold dn; omega
  have d3 : dd (oneE d k0 e0) = if opn k0 = true then dd d + 1 else dd d := by
    unfold dd; rw [one_3 hop]; split <;> omega
  have oS : ∀ k, onS d k → onS (oneE d k0 e0) k := fun k ⟨i, hi, q⟩ => ⟨i, by rw [d3]; split <;> omega, by rw [one_6 hop, if_neg (by omega)]; exact q⟩
  refine ⟨f1, by rw [f2, one_1], by rw [f3, one_2], fun i hi => ?_, fun k hk1 => ?_⟩
  · rw [one_6 hop]
    by_cases c : opn k0 = true ∧ i = dd d
    · rw [if_pos c, c.2]; exact f6 c.1
    · rw [if_neg c]
      rw [d3] at hi
      have lt : i < dd d := by
        by_cases b : opn k0 = true
        · rw [if_pos b] at hi
          have : i ≠ dd d := fun z => c ⟨b, z⟩
          omega
        · rw [if_neg b] at hi; exact hi
      rw [f4 i lt]; exact r4 i lt
  · by_cases c : k = dn d
    · subst c
      have e1 : oneE d k0 e0 1 (dn d) = e0.1 := by rw [ent_1 (by omega), if_pos rfl, if_pos rfl]
      have e2 : oneE d k0 e0 2 (dn d) = e0.2.1 := by rw [ent_1 (by omega), if_pos rfl, if_neg (by decide), if_pos rfl]
      have e3 : oneE d k0 e0 3 (dn d) = e0.2.2.1 := by rw [ent_1 (by omega), if_pos rfl, if_neg (by decide), if_neg (by decide), if_pos rfl]
      have e4 : oneE d k0 e0 4 (dn d) = e0.2.2.2 := by rw [ent_1 (by omega), if_pos rfl, if_neg (by decide), if_neg (by decide), if_neg (by decide), if_pos rfl]
      rw [e1, e2, e3, e4]
      refine ⟨f7, fun q1 q2 q3 => absurd ?_ q3⟩
      have o := hk.mp (by omega)
      exact ⟨dd d, by rw [d3, if_pos o]; omega, by rw [one_6 hop, if_pos ⟨o, rfl⟩]; exact dlt.symm⟩
    · have lt : k < dn d := by omega
      have eo : ∀ f, 1 ≤ f ∧ f ≤ 5 → oneE d k0 e0 f k = d f k := fun f hf => by rw [ent_1 hf, if_neg c]
      rw [eo 1 (by omega), eo 2 (by omega), eo 3 (by omega), eo 4 (by omega), eo 5 (by omega)]
      refine ⟨(r5 k lt).1.fr (fun j j1 j2 => f5 j (by omega) (by omega)), fun q1 q2 q3 => ?_⟩
      rw [f5 _ (by omega) (by omega)]; exact (r5 k lt).2 q1 q2 (fun z => q3 (oS k z))
theorem rdw_cls {u : Mem} {o : Nat} (r : RDw h d) (p : DN d) (v : DV d) (q : 1 ≤ d 0 3) (ho : d 6 (dd d - 1) = (o : Int)) (hl : o < dn d)
    (f1 : u 161 22 = d 0 3 - 1) (f2 : u 161 23 = d 0 1) (f3 : u 162 1801 = d 0 2 + 1) (f4 : ∀ i, u 169 i = h 169 i) (f5 : ∀ k, 1872 ≤ k → k < 1872 + 6 * dn d → k ≠ 1872 + 6 * o + 4 → u 162 k = h 162 k) (f6 : u 162 (1872 + 6 * o + 4) = d 0 2) (f7 : EW u (1872 + 6 * dn d) (10, 0, 0, 0)) (f8 : u 162 (1872 + 6 * dn d + 4) = (o : Int)) : RDw u (clsE d) := by
  obtain ⟨r1, r2, r3, r4, r5⟩ := r
  obtain ⟨p1, p2, p3, p4, p5, p6, p7⟩ := p
  have n1 := cls_2 p3
  have n3 := cls_3 q
  have dlt : (dn d : Int) = d 0 2 := by unfold dn; omega
  refine ⟨by rw [f1, cls_03], by rw [f2, cls_01], by rw [f3, cls_02], fun i hi => by rw [f4, cls_6]; exact r4 i (by omega), fun k hk1 => ?_⟩
  by_cases c : k = dn d
  · subst c
    rw [cls_1, if_pos rfl, cls_new (by omega), cls_new (by omega), cls_new (by omega)]
    exact ⟨f7, fun _ _ _ => by rw [f8, cls_5 ho p3, if_pos rfl]⟩
  · have lt : k < dn d := by omega
    rw [cls_f (by omega) c, cls_f (by omega) c, cls_f (by omega) c, cls_f (by omega) c, cls_5 ho p3, if_neg c]
    obtain ⟨w, w2⟩ := r5 k lt
    refine ⟨?_, fun q1 q2 q3 => ?_⟩
    · obtain ⟨a, b, c2, z⟩ := w
      exact ⟨by rw [f5 _ (by omega) (by omega) (by omega)]; exact a, fun q => by rw [f5 _ (by omega) (by omega) (by omega)]; exact b q, by rw [f5 _ (by omega) (by omega) (by omega)]; exact c2, by rw [f5 _ (by omega) (by omega) (by omega)]; exact z⟩
    · by_cases b : k = o
      · subst b; rw [if_pos rfl, f6, dlt]
      · rw [if_neg b, f5 _ (by omega) (by omega) (by omega)]
        refine w2 q1 q2 (fun ⟨i, hi, e⟩ => q3 ⟨i, ?_, by rw [cls_6]; exact e⟩)
        by_cases t : i = dd d - 1
        · subst t; rw [ho] at e; exact absurd (by omega) b
        · omega
end MD4
