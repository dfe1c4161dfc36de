theorem ft_ch {h u H : Mem} {j k : Nat} {v : Int} (F : ∀ i l, i ≠ 161 → h i l = H i l) (f : FTf (mset h j k v) u) : ∀ i l, i ≠ 161 → u i l = mset H j k v i l := fun i l hi => by
  rw [f i l (by omega)]
  unfold mset
  split
  · rfl
  · exact F i l hi
theorem ft_id {h u H : Mem} (F : ∀ i l, i ≠ 161 → h i l = H i l) (f : FTf h u) : ∀ i l, i ≠ 161 → u i l = H i l := fun i l hi => by rw [f i l (by omega)]; exact F i l hi
section MG
variable {h : Mem} {B : Nat → Int} {n s : Nat} {g : Gs} {T : Nat}
theorem mx_num {aN : Nat} {a lo hi : Int} {Q : Int → Mem → Prop} (x : MS h B n s) (ha : a = (aN : Int)) (hl : aN < 3008) (hok : ∀ s' u, pNo B n lo hi s = .ok s' → FTf (mset h 162 aN (tke_v B n s)) u → MS u B n s' → Q 1 u) (hno : ∀ e u, pNo B n lo hi s = .error e → FTf h u → ME u e → Q 0 u) : F_X12_number h a lo hi Q := by
  subst ha
  exact mx_number x (by omega) (by rw [Int.toNat_natCast]; exact hok) hno
theorem mx_newCell {aN : Nat} {a z : Int} {Q : Int → Mem → Prop} (x : MS h B n s) (ha : a = (aN : Int)) (hl : aN < 3008) (hz : h 162 1794 = z) (z1 : 2 ≤ z ∧ z ≤ 16) (hok : ∀ s' u, pNo B n 0 (z - 1) s = .ok s' → FTf (mset h 162 aN (tke_v B n s)) u → MS u B n s' → Q 1 u) (hno : ∀ e u, pNo B n 0 (z - 1) s = .error e → FTf h u → ME u e → Q 0 u) : F_X12_newCell h a Q := by
  subst hz
  unfold F_X12_newCell
  exact ⟨⟨by omega, by omega⟩, mx_num x ha hl (fun s' u a b c => ⟨by unfold InZ; omega, hok s' u a b c⟩) (fun e u a b c => ⟨by unfold InZ; omega, hno e u a b c⟩)⟩
theorem q_newOne {kx aN cnt most : Nat} {a1 a2 a3 : Int} {b3 : Nat} {Q : Int → Mem → Prop} (x : MS h B n s) (r : RW h g) (w : WF 0 g) (nt : ∀ t, t < gn g → nmR (g 11 t)) (nm : ∀ m, m < gm g → nmR (g 12 m)) (kw : tke B n s = 1 ∧ tke_v B n s = (kx : Int)) (ha1 : 1792 + a1 = (aN : Int)) (hN : aN = 1792 ∨ aN = 1793) (hc : h 162 aN = (cnt : Int)) (hm : cnt ≤ most) (ha2 : a2 = (most : Int)) (ha3 : a3 = (b3 : Int)) (hb : b3 + most ≤ 12)
    (hok : ∀ s1 s2 u, cnt < most → pKw B n kx s = .ok s1 → pNew B n g s1 = .ok s2 → FTf (mset h 163 (48 + b3 + cnt) (c8 (tlt B n s1))) u → MS u B n s2 → Q 1 u) (hno : ∀ e u, bnd (pFul B n (decide (most ≤ cnt)) s) (fun a => bnd (pKw B n kx a) (pNew B n g)) = .error e → FTf h u → ME u e → Q 0 u) : F_X12_newOne h a1 a2 a3 Q := by
  have n8 := gn8 w
  have n4 := gm4 w
  subst ha2 ha3
  unfold F_X12_newOne
  rw [ha1, Int.toNat_natCast, hc]
  refine ⟨⟨by omega, by omega⟩, ⟨by omega, by omega⟩, fun q => ?_, fun q => ?_⟩
  · have lt : cnt < most := by omega
    have ef : pFul B n (decide (most ≤ cnt)) s = .ok s := by unfold pFul; rw [show decide (most ≤ cnt) = false from decide_eq_false (by omega)]; rfl
    have ek : pKw B n kx s = .ok (nx B n s) := by unfold pKw; rw [if_pos kw]
    refine mx_ahead x (by omega) (fun u f m => ?_)
    have E : bnd (pFul B n (decide (most ≤ cnt)) s) (fun a => bnd (pKw B n kx a) (pNew B n g)) = pNew B n g (nx B n s) := by rw [ef, bnd_y, ek, bnd_y]
    rw [E] at hno
    have hu : ∀ i l, i ≠ 161 → u i l = h i l := fun i l hi => f i l (by omega)
    have c0 : u 162 1792 = (gn g : Int) := by rw [hu _ _ (by omega), n8.2]; exact r.1 0 (by omega)
    have c1 : u 162 1793 = (gm g : Int) := by rw [hu _ _ (by omega), n4.2]; exact r.1 1 (by omega)
    have cN : u 162 aN = (cnt : Int) := by rw [hu _ _ (by omega)]; exact hc
    refine mx_isName m (fun hp => ⟨fun _ => ?_, fun z => absurd z (by decide)⟩) (fun e hp he => ⟨fun z => absurd rfl z, fun _ => mx_failsZ m (by decide) (fun v e2 ee fv mv => hno e2 v ?_ (f.tr fv) mv)⟩)
    · have bad : ¬ (nf (g 11) (tlt B n (nx B n s)) (gn g) 0 = -1 ∧ nf (g 12) (tlt B n (nx B n s)) (gm g) 0 = -1) → F_X12_fails u 3 (fun r12 h11 => (InZ r12 ∧ Q r12 h11)) := fun nb => by
        refine mx_failsZ m (by decide) (fun v e ee fv mv => hno e v ?_ (f.tr fv) mv)
        unfold pNew
        rw [hp, bnd_y, if_neg nb]; exact ee
      refine mx_findHere (base := 48) (many := gn g) (f := g 11) m hp rfl c0 (by omega) (fun t ht => ⟨by rw [hu _ _ (by omega)]; exact r.2.2.2.1 t ht, nt t ht⟩) ⟨fun q1 => bad (fun z => q1 z.1), fun q1 => ?_⟩
      refine mx_findHere (base := 56) (many := gm g) (f := g 12) m hp rfl c1 (by omega) (fun t ht => ⟨by rw [hu _ _ (by omega)]; exact r.2.2.2.2.1 t ht, nm t ht⟩) ⟨fun q2 => ?_, fun q2 => bad (fun z => q2 z.2)⟩
      rw [cN]
      refine ⟨⟨by omega, by omega⟩, ⟨by omega, by omega⟩, mx_nameHere m hp (fun nmr => ⟨⟨by omega, by omega⟩, fun h22 e22 => ?_⟩)⟩
      have m22 : MS h22 B n (nx B n s) := by rw [e22]; exact m.fr (fun i k q => mset_o (by omega))
      have kt1 := (pNm_ok hp).2.1
      refine mx_ahead m22 (by omega) (fun v fv mv => hok (nx B n s) (nx B n (nx B n s)) v lt ek ?_ ?_ mv)
      · unfold pNew
        rw [hp, bnd_y, if_pos ⟨q1, q2⟩]
      · intro i k p
        rw [fv i k p, e22, show (48 + (b3 : Int) + (cnt : Int)).toNat = 48 + b3 + cnt by omega]
        unfold mset
        split
        · rfl
        · exact f i k p
    · unfold pNew
      rw [hp, bnd_n, ← ee, he]
  · refine mx_failsZ x (by decide) (fun v e ee fv mv => hno e v ?_ fv mv)
    unfold pFul
    rw [show decide (most ≤ cnt) = true from decide_eq_true (by omega), if_pos rfl]
    have e2 : (flt B n s 6 : Er) = .error e := ee
    rw [e2, bnd_n]
theorem q_aStream {b : Bool} {s1 : Nat} {Q : Int → Mem → Prop} (x : MS h B n s1) (r : RW h g) (w : WF 0 g) (E : pOn B n b s = .ok s1)
    (hok : ∀ s' g' u, pStream B n g b s = .ok (s', g') → FNf h u → MS u B n s' → RW u g' → u 161 20 = h 161 20 → Q 1 u) (hno : ∀ e u, pStream B n g b s = .error e → FNf h u → ME u e → Q 0 u) : F_X12_aStream h Q := by
  have n84 : gn g ≤ 8 ∧ gm g ≤ 4 := ⟨(gn8 w).1, (gm4 w).1⟩
  have ws := w.1
  unfold WFs at ws
  unfold pStream at hok hno
  rw [E, bnd_y] at hok hno
  unfold F_X12_aStream
  refine mx_newCell (aN := 1798) (z := g 0 2) x rfl (by omega) (r.1 2 (by omega)) (by omega) (fun s2 u e2 f m => ⟨fun _ => ?_, fun z => absurd z (by decide)⟩) (fun e u e2 f m => ⟨fun z => absurd rfl z, fun _ => hno e u (by rw [e2, bnd_n]) (FNf.of f) m⟩)
  rw [e2, bnd_y] at hok hno
  have ru : RW u (sset g 6 (tke_v B n s1)) := by
    have := RW.setS (i := 6) (v := tke_v B n s1) (x := 1798) n84 r (by omega) rfl
    exact RW.same (by rw [(ks_names (g := g) (i := 6) (v := tke_v B n s1) (by omega)).1, (ks_names (g := g) (i := 6) (v := tke_v B n s1) (by omega)).2.1]; exact n84) this (fun i k q => f i k (by omega))
  have fu : FNf h u := (FNf.rf.st (by omega)).tr (FNf.of f)
  have eT : u 161 20 = h 161 20 := by rw [f 161 20 (by omega), mset_i _ (by omega)]
  refine mx_isThere (k := 4) m (by omega) rfl (fun v c fv mv => ⟨fun z => absurd z (by decide), fun _ h5 e5 => ?_⟩) (fun c => ⟨fun _ => ?_, fun z => absurd rfl z⟩)
  · have c' : tke B n s2 = 1 ∧ tke_v B n s2 = 4 := c
    rw [if_pos c'] at hok
    refine hok _ _ h5 rfl ?_ ?_ ?_ ?_
    · rw [e5]; exact (fu.tr (FNf.of fv)).st (by omega)
    · rw [e5]; exact mv.fr (fun i k q => mset_o (by omega))
    · rw [e5]
      have n84' : gn (sset g 6 (tke_v B n s1)) ≤ 8 ∧ gm (sset g 6 (tke_v B n s1)) ≤ 4 := by rw [(ks_names (g := g) (i := 6) (v := tke_v B n s1) (by omega)).1, (ks_names (g := g) (i := 6) (v := tke_v B n s1) (by omega)).2.1]; exact n84
      exact RW.setS (i := 7) (v := 0) (x := 1799) n84' (RW.same n84' ru (fun i k q => fv i k (by omega))) (by omega) rfl
    · rw [e5, mset_i _ (by omega), fv 161 20 (by omega)]; exact eT
  · have c' : ¬ (tke B n s2 = 1 ∧ tke_v B n s2 = 4) := c
    rw [if_neg c'] at hok
    exact hok _ _ u rfl fu m ru eT
end MG
