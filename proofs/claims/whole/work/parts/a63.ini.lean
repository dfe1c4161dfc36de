/-! what the constructors leave -/
def XI (u : Mem) : Prop := u 0 0 = 0 ∧ u 0 1 = 0 ∧ u 0 2 = 1 ∧ u 0 12 = 0 ∧ u 0 16 = 0 ∧ (∀ i, i < 4 → u 2 i = -1) ∧ RC u 12 g0 ∧ (u 27 0 = 0 ∧ u 27 1 = 0 ∧ u 27 2 = 0) ∧ (u 9 1 = 0 ∧ u 9 9 = -1 ∧ u 9 10 = -1) ∧ KWE u
def MI (u : Mem) : Prop := u 161 2 = 0 ∧ u 161 3 = 0 ∧ u 161 4 = 1 ∧ u 161 10 = 0 ∧ u 161 16 = -1 ∧ u 161 17 = -1 ∧ u 161 42 = 0 ∧ u 161 43 = 0 ∧ (∀ i, i < 4 → u 165 i = -1) ∧ (u 162 0 = 0 ∧ u 162 1 = 0 ∧ u 162 2 = 8 ∧ u 162 3 = 10 ∧ u 162 4 = 4 ∧ u 162 5 = 0 ∧ u 162 6 = 0 ∧ u 162 7 = 1 ∧ u 162 8 = 0 ∧ u 162 9 = -1)
theorem iv_ini {u : Mem} (a : XI u) (b : MI u) : Iv u := by
  obtain ⟨a1, a2, a3, a4, a5, a6, a7, ⟨d0, d1, d2⟩, ⟨t1, t2, t3⟩, kw⟩ := a
  obtain ⟨b1, b2, b3, b4, b5, b6, b7, b8, b9, ⟨m0, m1, m2, m3, m4, m5, m6, m7, m8, m9⟩⟩ := b
  have z : ∀ t : Nat, t < gn g0 → False := fun t h => absurd h (by show ¬ (t < 0); omega)
  have z2 : ∀ t : Nat, t < gm g0 → False := fun t h => absurd h (by show ¬ (t < 0); omega)
  refine ⟨g0, dNo, 0, fun _ => g0, fun _ => dNo, ⟨wf_up wf_g0, a7, ⟨⟨fun i h1 h2 => ?_, fun t k h _ _ => (z t h).elim, fun t k h _ => (z2 t h).elim⟩, m5⟩, ⟨fun t h => (z t h).elim, fun t h => (z2 t h).elim⟩, by rw [a1, b1]⟩, fun i hi => Or.inl ⟨a6 i hi, b9 i hi⟩, ⟨by rw [a2, b2], by rw [a3, b3]⟩, ⟨by rw [a5, b7], fun q => absurd a5 q⟩, ⟨⟨d0, d1, d2, fun k hk => absurd hk (by show ¬ (k < 0); omega)⟩, ?_, fun k hk => absurd hk (by show ¬ (k < 0); omega)⟩, wfd_no, ⟨by omega, a4, b8, fun i hi => absurd hi (by omega)⟩, ⟨0, by omega, t1, b4, fun k hk => absurd hk (by omega)⟩, ⟨by rw [t2, b5], by rw [t3, b6]⟩, kw⟩
  · have h9 : i = 0 ∨ i = 1 ∨ i = 2 ∨ i = 3 ∨ i = 4 ∨ i = 6 ∨ i = 7 ∨ i = 8 := by omega
    rcases h9 with rfl | rfl | rfl | rfl | rfl | rfl | rfl | rfl
    · exact m0
    · exact m1
    · exact m2
    · exact m3
    · exact m4
    · exact m6
    · exact m7
    · exact m8
  · show u 162 (0 + 9) = (if (0 : Int) = 0 then -1 else 0)
    rw [if_pos rfl]; exact m9
