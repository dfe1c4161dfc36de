/-! write -/
def cutI (k v : Int) : Int := if k = 0 then i2b (l2i v) else if k = 1 then i2s (l2i v) else if k = 2 then l2i v else v
theorem s_cut {h : Mem} {k v : Int} {Q : Int → Mem → Prop} (hQ : Q (cutI k v) h) : F_X10_cut h k v Q := by
  unfold F_X10_cut
  unfold cutI at hQ
  refine ⟨fun c => ?_, fun c => ?_, fun c => ?_, fun c => ?_⟩
  · rw [if_pos c] at hQ; exact hQ
  · rw [if_neg (by omega), if_pos c] at hQ; exact hQ
  · rw [if_neg (by omega), if_neg (by omega), if_pos c] at hQ; exact hQ
  · rw [if_neg (by omega), if_neg (by omega), if_neg (by omega)] at hQ; exact hQ
theorem q_cut {h : Mem} {k v : Int} {Q : Int → Mem → Prop} (hQ : Q (cutI k v) h) : F_X12_cut h v k Q := by
  unfold F_X12_cut
  unfold cutI at hQ
  refine ⟨fun c => ⟨fun c1 => ⟨fun c2 => ?_, fun c2 => ?_⟩, fun c1 => ?_⟩, fun c => ?_⟩
  · rw [if_neg c, if_neg c1, if_neg c2] at hQ; exact hQ
  · rw [if_neg c, if_neg c1, if_pos c2] at hQ; exact hQ
  · rw [if_neg c, if_pos c1] at hQ; exact hQ
  · rw [if_pos c] at hQ; exact hQ
theorem TR.wr {h : Mem} {a b : Nat} {v : Int} (t : TR h) (ha : a < 4) (hb : b < 60) : TR (mset (mset (mset (mset h (5 + a) b v) 0 0 0) 166 (60 * a + b) v) 161 2 0) := by
  intro i hi
  have e : ∀ k : Nat, k = 2 ∨ k = 3 ∨ k = 164 ∨ k = 165 → mset (mset (mset (mset h (5 + a) b v) 0 0 0) 166 (60 * a + b) v) 161 2 0 k i = h k i := fun k hk => by
    rw [mset_i _ (by omega), mset_i _ (by omega), mset_i _ (by omega), mset_i _ (by omega)]
  rw [e 2 (by omega), e 3 (by omega), e 164 (by omega), e 165 (by omega)]
  rcases t i hi with z | ⟨z1, z2, z3, z4, z5, z6, z⟩
  · exact Or.inl z
  · refine Or.inr ⟨z1, z2, z3, z4, z5, z6, fun j hj => ?_⟩
    rw [mset_i (i := 5 + i) _ (by omega), mset_i (i := 5 + i) _ (by omega), mset_i (i := 5 + i) _ (by omega), mset_i (i := 166) _ (show 166 ≠ 161 by omega)]
    by_cases c : i = a ∧ j = b
    · obtain ⟨rfl, rfl⟩ := c
      rw [mset_at, mset_at]
    · have l : mset h (5 + a) b v (5 + i) j = h (5 + i) j := by unfold mset; rw [if_neg (by omega)]
      rw [l, mset_k (by omega), mset_i _ (by omega), mset_i _ (by omega)]
      exact z j hj
theorem TR.ss {h : Mem} {x y : Int} (t : TR h) : TR (mset (mset h 0 0 x) 161 2 y) := by
  intro i hi
  have e : ∀ k : Nat, k ≠ 0 → k ≠ 161 → ∀ j, mset (mset h 0 0 x) 161 2 y k j = h k j := fun k h0 h1 j => by rw [mset_i _ h1, mset_i _ h0]
  rw [e 2 (by omega) (by omega), e 3 (by omega) (by omega), e 164 (by omega) (by omega), e 165 (by omega) (by omega)]
  rcases t i hi with z | ⟨z1, z2, z3, z4, z5, z6, z⟩
  · exact Or.inl z
  · refine Or.inr ⟨z1, z2, z3, z4, z5, z6, fun j hj => ?_⟩
    rw [e (5 + i) (by omega) (by omega), e 166 (by omega) (by omega)]
    exact z j hj
theorem k_write {h : Mem} {a b c : Int} (t : TR h) {Q : Int → Int → Mem → Prop} (hQ : ∀ r u1 u, TR u → u 0 0 = u 161 2 → TX h u1 → TM u1 u → Q r r u) : F_X11_write h a b c (fun r1 h1 => F_X12_write h1 a b c (fun r2 h2 => Q r1 r2 h2)) := by
  unfold F_X11_write
  obtain ⟨w0, w1⟩ := whyT_in (h := h) (a := a) (b := b)
  refine s_whyT ⟨fun z => ?_, fun z h2 e2 => ⟨Or.inl rfl, ?_⟩⟩
  · obtain ⟨q1, q2, q3, q4, q5⟩ := w1 z
    have ti := t a.toNat (by omega)
    obtain ⟨i, rfl⟩ : ∃ k : Nat, a = k := ⟨a.toNat, by omega⟩
    obtain ⟨j, rfl⟩ : ∃ k : Nat, b = k := ⟨b.toNat, by omega⟩
    rw [Int.toNat_natCast] at ti q3 q5
    unfold F_X10_put
    refine ⟨⟨by omega, by omega⟩, s_cut ⟨⟨by omega, by omega⟩, fun h6 e6 h7 e7 => ⟨Or.inr rfl, ?_⟩⟩⟩
    have ez : 4 + 1 + 1 * (i : Int).toNat = 5 + i := by omega
    rw [ez, Int.toNat_natCast, Int.toNat_natCast] at e6
    unfold F_X12_write
    have u165 : ∀ k, h7 165 k = h 165 k := fun k => by rw [e7, mset_i _ (by omega), e6, mset_i _ (by omega)]
    have u164 : ∀ k, h7 164 k = h 164 k := fun k => by rw [e7, mset_i _ (by omega), e6, mset_i _ (by omega)]
    refine q_whyT t u165 ⟨fun d => absurd z d, fun _ => ⟨⟨by omega, by omega⟩, ⟨by omega, by omega⟩, ⟨by omega, by omega⟩, q_cut ⟨⟨by omega, by omega⟩, fun h8 e8 h9 e9 => ?_⟩⟩⟩
    have ez2 : (60 * (i : Int) + (j : Int)).toNat = 60 * i + j := by omega
    have e164 : h 164 i = h 2 i := by
      rcases ti with ⟨y, _⟩ | ⟨_, _, y, _⟩
      · exact absurd y q3
      · exact y
    rw [ez2, Int.toNat_natCast, u164, e164] at e8
    rw [z] at e9
    have eu : h9 = mset (mset (mset (mset h (5 + i) j (cutI (h 2 i) c)) 0 0 0) 166 (60 * i + j) (cutI (h 2 i) c)) 161 2 0 := by rw [e9, e8, e7, e6]
    have fin : Q 1 1 h9 := by
      refine hQ 1 h7 h9 ?_ ?_ (fun x y y1 y2 => ?_) (fun x y y1 y2 => ?_)
      · rw [eu]; exact t.wr (by omega) (by omega)
      · rw [e9, mset_at, mset_i _ (by omega), e8, mset_i _ (by omega), e7, mset_at]
      · rw [e7, e6]; unfold mset; rw [if_neg (by omega), if_neg (by omega)]
      · rw [e9, e8]; unfold mset; rw [if_neg (by omega), if_neg (by omega)]
    exact ⟨fun d => absurd z d, fun _ => ⟨Or.inr rfl, fin⟩⟩
  · unfold F_X12_write
    refine q_whyT t (fun k => by rw [e2, mset_i _ (by omega)]) ⟨fun d h9 e9 => ?_, fun d => absurd d z⟩
    have fin : Q 0 0 h9 := by
      refine hQ 0 h2 h9 ?_ ?_ (fun x y y1 y2 => ?_) (fun x y y1 y2 => ?_)
      · rw [e9, e2]; exact t.ss
      · rw [e9, mset_at, mset_i _ (by omega), e2, mset_at]
      · rw [e2]; unfold mset; rw [if_neg y1]
      · rw [e9]; unfold mset; rw [if_neg y1]
    exact ⟨fun _ => ⟨Or.inl rfl, fin⟩, fun d2 => absurd d2 d⟩
