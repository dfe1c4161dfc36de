section DF
variable {d : Dy} {k0 : Int} {e0 : En}
theorem ent_1 {f k : Nat} (hf : 1 ≤ f ∧ f ≤ 5) : oneE d k0 e0 f k = if k = dn d then (if f = 1 then e0.1 else if f = 2 then e0.2.1 else if f = 3 then e0.2.2.1 else if f = 4 then e0.2.2.2 else d 0 2) else d f k := by
  have base : stpE (addE d e0) f k = if k = dn d then (if f = 1 then e0.1 else if f = 2 then e0.2.1 else if f = 3 then e0.2.2.1 else if f = 4 then e0.2.2.2 else d 0 2) else d f k := by
    rw [stpE_o (by omega)]
    unfold addE
    rw [if_neg (by omega)]
    by_cases c : k = dn d
    · rw [if_pos ⟨c, hf⟩, if_pos c]
    · rw [if_neg (fun z => c z.1), if_neg c]
  unfold oneE
  by_cases c : opn k0 = true ∧ d 0 3 < 3
  · rw [if_pos c, psh_o (by omega) (by omega)]; exact base
  · rw [if_neg c]; exact base
theorem dv_one (v : DV d) (p : DN d) (hop : opn k0 = true → d 0 3 < 3) (hk : (4 ≤ e0.1 ∧ e0.1 ≤ 8) ↔ opn k0 = true) (h10 : e0.1 ≠ 10) : DV (oneE d k0 e0) := by
  obtain ⟨p1, p2, p3, p4, p5, p6, p7⟩ := p
  obtain ⟨v1, v2, v3, v4, v5, v6, v7⟩ := v
  have a2 : stpE (addE d e0) 0 2 = d 0 2 + 1 := by rw [stpE_o (by omega)]; unfold addE; rw [if_pos ⟨rfl, rfl⟩]
  have a3 : stpE (addE d e0) 0 3 = d 0 3 := by rw [stpE_o (by omega), addE_o (by omega) (by omega)]
  have a6 : ∀ i, stpE (addE d e0) 6 i = d 6 i := fun i => by rw [stpE_o (by omega), addE_o (by omega) (by omega)]
  have o1 : ∀ k, k < dn d → oneE d k0 e0 1 k = d 1 k := fun k h => by rw [ent_1 (by omega), if_neg (by omega)]
  have o5 : ∀ k, k < dn d → oneE d k0 e0 5 k = d 5 k := fun k h => by rw [ent_1 (by omega), if_neg (by omega)]
  have oN : oneE d k0 e0 1 (dn d) = e0.1 := by rw [ent_1 (by omega), if_pos rfl, if_pos rfl]
  have n2 : oneE d k0 e0 0 2 = d 0 2 + 1 := by
    unfold oneE
    by_cases c : opn k0 = true ∧ d 0 3 < 3
    · rw [if_pos c, psh_o (by omega) (by omega)]; exact a2
    · rw [if_neg c]; exact a2
  have n1 : dn (oneE d k0 e0) = dn d + 1 := by unfold dn; rw [n2]; omega
  have dlt : (dn d : Int) = d 0 2 := by unfold dn; omega
  -- the stack
  have stk : (opn k0 = true ∧ dd (oneE d k0 e0) = dd d + 1 ∧ oneE d k0 e0 6 (dd d) = (dn d : Int) ∧ ∀ i, i < dd d → oneE d k0 e0 6 i = d 6 i) ∨ (opn k0 ≠ true ∧ dd (oneE d k0 e0) = dd d ∧ ∀ i, i < dd d → oneE d k0 e0 6 i = d 6 i) := by
    unfold oneE
    by_cases c : opn k0 = true
    · left
      rw [if_pos ⟨c, hop c⟩]
      have e3 : psh (stpE (addE d e0)) (d 0 2) 0 3 = d 0 3 + 1 := by unfold psh; rw [if_pos ⟨rfl, rfl⟩, a3]
      refine ⟨c, by unfold dd; rw [e3]; omega, ?_, fun i hi => ?_⟩
      · unfold psh; rw [if_neg (by omega), if_pos ⟨rfl, (dd_same a3).symm⟩]; omega
      · rw [psh_o (by omega) (by rw [dd_same a3]; omega)]; exact a6 i
    · right
      rw [if_neg (fun z => c z.1)]
      exact ⟨c, dd_same a3, fun i _ => a6 i⟩
  have opO : ∀ k, k < dn d → (isOp (oneE d k0 e0) k ↔ isOp d k) := fun k h => by unfold isOp; rw [o1 k h]
  have opN : isOp (oneE d k0 e0) (dn d) ↔ opn k0 = true := by unfold isOp; rw [oN]; exact hk
  have onO : ∀ k, k < dn d → (onS (oneE d k0 e0) k ↔ onS d k) := fun k h => by
    unfold onS
    rcases stk with ⟨_, s1, s2, s3⟩ | ⟨_, s1, s3⟩
    · rw [s1]
      refine ⟨fun ⟨i, hi, e⟩ => ?_, fun ⟨i, hi, e⟩ => ⟨i, by omega, by rw [s3 i hi]; exact e⟩⟩
      by_cases c : i = dd d
      · subst c; rw [s2] at e; omega
      · exact ⟨i, by omega, by rw [← s3 i (by omega)]; exact e⟩
    · rw [s1]
      exact ⟨fun ⟨i, hi, e⟩ => ⟨i, hi, by rw [← s3 i hi]; exact e⟩, fun ⟨i, hi, e⟩ => ⟨i, hi, by rw [s3 i hi]; exact e⟩⟩
  have onN : opn k0 = true → onS (oneE d k0 e0) (dn d) := fun c => by
    rcases stk with ⟨_, s1, s2, s3⟩ | ⟨nc, _⟩
    · exact ⟨dd d, by omega, s2⟩
    · exact absurd c nc
  have lt : ∀ i, i < dd d → d 6 i < (dn d : Int) := fun i hi => by
    obtain ⟨o, q1, q2, _⟩ := v1 i hi
    omega
  refine ⟨fun i hi => ?_, fun i j h1 h2 => ?_, fun k hk2 hop2 hs => ?_, fun k hk2 h => ?_, fun k hk2 hop2 h => ?_, fun a b ha hb oa ob na nb hab hlt => ?_, fun a b ha hb sa ob nb => ?_⟩
  · rcases stk with ⟨c, s1, s2, s3⟩ | ⟨c, s1, s3⟩
    · by_cases z : i = dd d
      · subst z; exact ⟨dn d, s2, by omega, opN.mpr c⟩
      · obtain ⟨o, q1, q2, q3⟩ := v1 i (by omega)
        exact ⟨o, by rw [s3 i (by omega)]; exact q1, by omega, (opO o q2).mpr q3⟩
    · obtain ⟨o, q1, q2, q3⟩ := v1 i (by omega)
      exact ⟨o, by rw [s3 i (by omega)]; exact q1, by omega, (opO o q2).mpr q3⟩
  · rcases stk with ⟨c, s1, s2, s3⟩ | ⟨c, s1, s3⟩
    · by_cases z : j = dd d
      · subst z; rw [s2, s3 i h1]; exact lt i h1
      · rw [s3 i (by omega), s3 j (by omega)]; exact v2 i j h1 (by omega)
    · rw [s3 i (by omega), s3 j (by omega)]; exact v2 i j h1 (by omega)
  · by_cases c : k = dn d
    · subst c; exact absurd (onN (opN.mp hop2)) hs
    · have kl : k < dn d := by omega
      obtain ⟨e, e1, e2, e3, e4, e5⟩ := v3 k kl ((opO k kl).mp hop2) (fun z => hs ((onO k kl).mpr z))
      exact ⟨e, by rw [o5 k kl]; exact e1, e2, by omega, by rw [o1 e e3]; exact e4, by rw [o5 e e3]; exact e5⟩
  · by_cases c : k = dn d
    · subst c; rw [oN] at h; exact absurd h h10
    · have kl : k < dn d := by omega
      rw [o1 k kl] at h
      obtain ⟨x, x1, x2, x3, x4, x5⟩ := v4 k kl h
      exact ⟨x, by rw [o5 k kl]; exact x1, x2, (opO x (by omega)).mpr x3, by rw [o5 x (by omega)]; exact x4, fun z => x5 ((onO x (by omega)).mp z)⟩
  · by_cases c : k + 1 = dn d
    · rw [c, oN] at h; exact absurd h h10
    · have kl : k + 1 < dn d := by omega
      rw [o1 _ kl] at h
      rw [o5 _ kl]; exact v5 k kl ((opO k (by omega)).mp hop2) h
  · have al : a < dn d := by omega
    by_cases c : b = dn d
    · subst c; exact absurd (onN (opN.mp ob)) nb
    · have bl : b < dn d := by omega
      rw [o5 a al] at hlt
      rw [o5 a al, o5 b bl]
      exact v6 a b al bl ((opO a al).mp oa) ((opO b bl).mp ob) (fun z => na ((onO a al).mpr z)) (fun z => nb ((onO b bl).mpr z)) hab hlt
  · have bl : b < dn d := by omega
    have ob' := (opO b bl).mp ob
    have nb' : ¬ onS d b := fun z => nb ((onO b bl).mpr z)
    rw [o5 b bl]
    by_cases c : a = dn d
    · subst c
      obtain ⟨e, e1, e2, e3, _⟩ := v3 b bl ob' nb'
      omega
    · have al : a < dn d := by omega
      exact v7 a b al hb ((onO a al).mp sa) ob' nb'
end DF
