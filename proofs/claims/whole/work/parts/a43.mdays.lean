/-! the reference reads days -/
section MD
variable {h : Mem} {B : Nat → Int} {n s : Nat}
theorem q_oldOne {base many aN : Nat} {a1 a2 a3 : Int} {f : Nat → Int} {Q : Int → Mem → Prop} (x : MS h B n s) (h1 : a1 = base) (h2 : a2 = many) (h3 : a3 = aN) (hN : aN < 3008) (hm : base + many ≤ 72) (hn : ∀ t, t < many → h 163 (base + t) = c8 (f t) ∧ nmR (f t))
    (hok : ∀ s' u, bnd (pNm B n s) (fun _ => if nf f (tlt B n s) many 0 = -1 then (flt B n s 3 : Er) else .ok (nx B n s)) = .ok s' → FTf (mset h 162 aN (nf f (tlt B n s) many 0)) u → MS u B n s' → Q 1 u)
    (hno : ∀ e u, bnd (pNm B n s) (fun _ => if nf f (tlt B n s) many 0 = -1 then (flt B n s 3 : Er) else .ok (nx B n s)) = .error e → (∀ i k, ¬ (i = 161 ∧ 12 ≤ k ∧ k ≤ 18 ∧ k ≠ 16) → ¬ (i = 162 ∧ k = aN) → u i k = h i k) → ME u e → Q 0 u) : F_X12_oldOne h a1 a2 a3 Q := by
  subst h3
  unfold F_X12_oldOne
  refine mx_isName x (fun hp => ⟨fun _ => ?_, fun z => absurd z (by decide)⟩) (fun e hp he => ⟨fun z => absurd rfl z, fun _ => mx_failsZ x (by decide) (fun v e2 ee fv mv => hno e2 v ?_ (fun i k p _ => fv i k p) mv)⟩)
  · refine mx_findHere (f := f) x hp h1 h2 hm hn ?_
    rw [Int.toNat_natCast]
    refine ⟨⟨by omega, by omega⟩, fun h6 e6 => ?_⟩
    have c6 : h6 162 aN = nf f (tlt B n s) many 0 := by rw [e6, mset_at]
    have m6 : MS h6 B n s := by rw [e6]; exact x.fr (fun i k q => mset_o (by omega))
    have k1 := (pNm_ok hp).2.1
    rw [c6]
    refine ⟨fun q => mx_ahead m6 (by omega) (fun v fv mv => hok _ v ?_ (by rw [← e6]; exact fv) mv), fun q => mx_failsZ m6 (by decide) (fun v e2 ee fv mv => hno e2 v ?_ (fun i k p p2 => by rw [fv i k p, e6, mset_o p2]) mv)⟩
    · rw [hp, bnd_y, if_neg q]
    · rw [hp, bnd_y, if_pos q]; exact ee
  · rw [hp, bnd_n, ← ee, he]
end MD
