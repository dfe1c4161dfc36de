/-! what holds between calls -/
def IV (h : Mem) (g : Gs) (d : Dy) (m : Nat) (mg : Nat → Gs) (md : Nat → Dy) : Prop := G2 h g ∧ TR h ∧ FrE h ∧ LvE h ∧ DR h d ∧ WFD d (g 0 0) (g 0 1) (g 0 2) ∧ MK h m mg md ∧ TE h ∧ FE h ∧ KWE h
section IVS
variable {h u1 u : Mem} {g g' : Gs} {d d' : Dy} {m m' : Nat} {mg mg' : Nat → Gs} {md md' : Nat → Dy}
theorem IV.s (v : IV h g d m mg md) : G2 h g := v.1
theorem IV.tr (v : IV h g d m mg md) : TR h := v.2.1
theorem IV.fr (v : IV h g d m mg md) : FrE h := v.2.2.1
theorem IV.lv (v : IV h g d m mg md) : LvE h := v.2.2.2.1
theorem IV.dr (v : IV h g d m mg md) : DR h d := v.2.2.2.2.1
theorem IV.wd (v : IV h g d m mg md) : WFD d (g 0 0) (g 0 1) (g 0 2) := v.2.2.2.2.2.1
theorem IV.mk (v : IV h g d m mg md) : MK h m mg md := v.2.2.2.2.2.2.1
theorem IV.te (v : IV h g d m mg md) : TE h := v.2.2.2.2.2.2.2.1
theorem IV.fe (v : IV h g d m mg md) : FE h := v.2.2.2.2.2.2.2.2.1
theorem IV.kw (v : IV h g d m mg md) : KWE h := v.2.2.2.2.2.2.2.2.2
theorem TR.fr (t : TR h) (f : ∀ i k, (2 ≤ i ∧ i < 9) ∨ (164 ≤ i ∧ i < 167) → u i k = h i k) : TR u := by
  intro i hi
  have e2 := f 2 i (by omega)
  have e3 := f 3 i (by omega)
  have e4 := f 164 i (by omega)
  have e5 := f 165 i (by omega)
  rcases t i hi with ⟨a, b⟩ | ⟨a, b, c, x, y, z, w⟩
  · exact Or.inl ⟨by rw [e2]; exact a, by rw [e5]; exact b⟩
  · refine Or.inr ⟨by rw [e2]; exact a, by rw [e2]; exact b, by rw [e4, e2]; exact c, by rw [e3]; exact x, by rw [e3]; exact y, by rw [e5, e3]; exact z, fun j hj => ?_⟩
    rw [f (5 + i) j (by omega), f 166 _ (by omega)]
    rw [e3] at hj
    exact w j hj
theorem FrE.fr (t : FrE h) (f : ∀ i k, (i = 0 ∧ (k = 1 ∨ k = 2)) ∨ (i = 161 ∧ (k = 3 ∨ k = 4)) → u i k = h i k) : FrE u := ⟨by rw [f 0 1 (by omega), f 161 3 (by omega)]; exact t.1, by rw [f 0 2 (by omega), f 161 4 (by omega)]; exact t.2⟩
theorem LvE.fr (t : LvE h) (f : ∀ i k, (i = 0 ∧ k = 16) ∨ (i = 161 ∧ k = 42) ∨ i = 145 ∨ i = 180 → u i k = h i k) : LvE u := ⟨by rw [f 0 16 (by omega), f 161 42 (by omega)]; exact t.1, fun q i hi => by
  rw [f 0 16 (by omega)] at q
  rw [f 145 i (by omega), f 180 i (by omega)]; exact t.2 q i hi⟩
theorem DR.fr (t : DR h d) (d60 : dn d ≤ 60) (f : ∀ i k, (27 ≤ i ∧ i < 33) ∨ (i = 162 ∧ (k = 9 ∨ (80 ≤ k ∧ k < 440))) → u i k = h i k) : DR u d := ⟨t.1.fr (fun i i1 i2 k => f i k (by omega)), t.2.fr d60 (fun k hk => f 162 k (by omega))⟩
theorem MK.fr (t : MK h m mg md) (f : ∀ i k, (i = 0 ∧ k = 12) ∨ (i = 161 ∧ k = 43) ∨ (81 ≤ i ∧ i < 126) ∨ (127 ≤ i ∧ i < 145) ∨ (i = 162 ∧ 448 ≤ k ∧ k < 1792) ∨ (i = 163 ∧ 12 ≤ k ∧ k < 48) → u i k = h i k) : MK u m mg md := by
  obtain ⟨m3, a, b, c⟩ := t
  exact ⟨m3, by rw [f 0 12 (by omega)]; exact a, by rw [f 161 43 (by omega)]; exact b, fun i hi => (c i hi).fr (by omega) (fun j j1 j2 k => f j k (by omega)) (fun j j1 j2 k => f j k (by omega)) (fun k k1 k2 => f 162 k (by omega)) (fun k k1 k2 => f 163 k (by omega))⟩
theorem TE.fr (t : TE h) (f : ∀ i k, (i = 9 ∧ k = 1) ∨ (i = 161 ∧ k = 10) ∨ i = 10 ∨ i = 167 → u i k = h i k) : TE u := by
  obtain ⟨n, n9, a, b, c⟩ := t
  exact ⟨n, n9, by rw [f 9 1 (by omega)]; exact a, by rw [f 161 10 (by omega)]; exact b, fun k hk => by rw [f 10 k (by omega), f 167 k (by omega)]; exact c k hk⟩
theorem FE.fr (t : FE h) (f : ∀ i k, (i = 9 ∧ (k = 9 ∨ k = 10)) ∨ (i = 161 ∧ (k = 16 ∨ k = 17)) → u i k = h i k) : FE u := ⟨by rw [f 9 9 (by omega), f 161 16 (by omega)]; exact t.1, by rw [f 9 10 (by omega), f 161 17 (by omega)]; exact t.2⟩
theorem KWE.fr (t : KWE h) (f : ∀ k, u 11 k = h 11 k) : KWE u := fun i hi => by rw [f]; exact t i hi
theorem G2.fr (t : G2 h g) (f : ∀ i k, (i = 0 ∧ k = 0) ∨ (i = 161 ∧ k = 2) ∨ (12 ≤ i ∧ i < 27) ∨ (i = 162 ∧ k < 80) ∨ (i = 163 ∧ k < 12) → u i k = h i k) : G2 u g := by
  obtain ⟨w, rc, rx, rn', est⟩ := t
  have n8 := (gn8 w).1
  have n4 := (gm4 w).1
  exact ⟨w, rc_same rc (fun i k p1 p2 => f i k (by omega)), rx.fr n8 n4 (fun k hk => f 162 k (by omega)), ⟨fun t ht => by rw [f 163 t (by omega)]; exact rn'.1 t ht, fun t ht => by rw [f 163 _ (by omega)]; exact rn'.2 t ht⟩, by rw [f 0 0 (by omega), f 161 2 (by omega)]; exact est⟩
theorem IV.d60 (v : IV h g d m mg md) : dn d ≤ 60 := by have := v.wd.2.2.2.2.1; unfold dn; omega
theorem kv_UX (v : IV h g d m mg md) (s' : G2 u g') (mo : Mo g g') (a : UX h u1) (b : UM u1 u) : IV u g' d m mg md := by
  have wd : WFD d (g' 0 0) (g' 0 1) (g' 0 2) := by rw [mo.2.2]; exact v.wd.mono mo.1 mo.2.1
  exact ⟨s', v.tr.fr (fun i k p => by rw [b i k (by omega) (by omega) (by omega) (by omega), a i k (by omega) (by omega) (by omega) (by omega)]), v.fr.fr (fun i k p => by rw [b i k (by omega) (by omega) (by omega) (by omega), a i k (by omega) (by omega) (by omega) (by omega)]), v.lv.fr (fun i k p => by rw [b i k (by omega) (by omega) (by omega) (by omega), a i k (by omega) (by omega) (by omega) (by omega)]), v.dr.fr v.d60 (fun i k p => by rw [b i k (by omega) (by omega) (by omega) (by omega), a i k (by omega) (by omega) (by omega) (by omega)]), wd, v.mk.fr (fun i k p => by rw [b i k (by omega) (by omega) (by omega) (by omega), a i k (by omega) (by omega) (by omega) (by omega)]), v.te.fr (fun i k p => by rw [b i k (by omega) (by omega) (by omega) (by omega), a i k (by omega) (by omega) (by omega) (by omega)]), v.fe.fr (fun i k p => by rw [b i k (by omega) (by omega) (by omega) (by omega), a i k (by omega) (by omega) (by omega) (by omega)]), v.kw.fr (fun k => by rw [b 11 k (by omega) (by omega) (by omega) (by omega), a 11 k (by omega) (by omega) (by omega) (by omega)])⟩
theorem kv_UXf (v : IV h g d m mg md) (s' : G2 u g') (mo : Mo g g') (fr : FrE u) (a : UXf h u1) (b : UMf u1 u) : IV u g' d m mg md := by
  have wd : WFD d (g' 0 0) (g' 0 1) (g' 0 2) := by rw [mo.2.2]; exact v.wd.mono mo.1 mo.2.1
  exact ⟨s', v.tr.fr (fun i k p => by rw [b i k (by omega) (by omega) (by omega) (by omega), a i k (by omega) (by omega) (by omega) (by omega)]), fr, v.lv.fr (fun i k p => by rw [b i k (by omega) (by omega) (by omega) (by omega), a i k (by omega) (by omega) (by omega) (by omega)]), v.dr.fr v.d60 (fun i k p => by rw [b i k (by omega) (by omega) (by omega) (by omega), a i k (by omega) (by omega) (by omega) (by omega)]), wd, v.mk.fr (fun i k p => by rw [b i k (by omega) (by omega) (by omega) (by omega), a i k (by omega) (by omega) (by omega) (by omega)]), v.te.fr (fun i k p => by rw [b i k (by omega) (by omega) (by omega) (by omega), a i k (by omega) (by omega) (by omega) (by omega)]), v.fe.fr (fun i k p => by rw [b i k (by omega) (by omega) (by omega) (by omega), a i k (by omega) (by omega) (by omega) (by omega)]), v.kw.fr (fun k => by rw [b 11 k (by omega) (by omega) (by omega) (by omega), a 11 k (by omega) (by omega) (by omega) (by omega)])⟩
theorem kv_UXl (v : IV h g d m mg md) (s' : G2 u g') (mo : Mo g g') (lv : LvE u) (a : UXl h u1) (b : UMl u1 u) : IV u g' d m mg md := by
  have wd : WFD d (g' 0 0) (g' 0 1) (g' 0 2) := by rw [mo.2.2]; exact v.wd.mono mo.1 mo.2.1
  exact ⟨s', v.tr.fr (fun i k p => by rw [b i k (by omega) (by omega) (by omega) (by omega), a i k (by omega) (by omega) (by omega) (by omega)]), v.fr.fr (fun i k p => by rw [b i k (by omega) (by omega) (by omega) (by omega), a i k (by omega) (by omega) (by omega) (by omega)]), lv, v.dr.fr v.d60 (fun i k p => by rw [b i k (by omega) (by omega) (by omega) (by omega), a i k (by omega) (by omega) (by omega) (by omega)]), wd, v.mk.fr (fun i k p => by rw [b i k (by omega) (by omega) (by omega) (by omega), a i k (by omega) (by omega) (by omega) (by omega)]), v.te.fr (fun i k p => by rw [b i k (by omega) (by omega) (by omega) (by omega), a i k (by omega) (by omega) (by omega) (by omega)]), v.fe.fr (fun i k p => by rw [b i k (by omega) (by omega) (by omega) (by omega), a i k (by omega) (by omega) (by omega) (by omega)]), v.kw.fr (fun k => by rw [b 11 k (by omega) (by omega) (by omega) (by omega), a 11 k (by omega) (by omega) (by omega) (by omega)])⟩
theorem kv_TX (v : IV h g d m mg md) (s' : G2 u g) (tr : TR u) (a : TX h u1) (b : TM u1 u) : IV u g d m mg md := by
  exact ⟨s', tr, v.fr.fr (fun i k p => by rw [b i k (by omega) (by omega), a i k (by omega) (by omega)]), v.lv.fr (fun i k p => by rw [b i k (by omega) (by omega), a i k (by omega) (by omega)]), v.dr.fr v.d60 (fun i k p => by rw [b i k (by omega) (by omega), a i k (by omega) (by omega)]), v.wd, v.mk.fr (fun i k p => by rw [b i k (by omega) (by omega), a i k (by omega) (by omega)]), v.te.fr (fun i k p => by rw [b i k (by omega) (by omega), a i k (by omega) (by omega)]), v.fe.fr (fun i k p => by rw [b i k (by omega) (by omega), a i k (by omega) (by omega)]), v.kw.fr (fun k => by rw [b 11 k (by omega) (by omega), a 11 k (by omega) (by omega)])⟩
theorem kv_FXk (v : IV h g d m mg md) (s' : G2 u g) (dr : DR u d) (mk : MK u m' mg' md') (a : FXk h u1) (b : FMk u1 u) : IV u g d m' mg' md' := by
  exact ⟨s', v.tr.fr (fun i k p => by rw [b i k (by omega) (by omega) (by omega), a i k (by omega) (by omega) (by omega)]), v.fr.fr (fun i k p => by rw [b i k (by omega) (by omega) (by omega), a i k (by omega) (by omega) (by omega)]), v.lv.fr (fun i k p => by rw [b i k (by omega) (by omega) (by omega), a i k (by omega) (by omega) (by omega)]), dr, v.wd, mk, v.te.fr (fun i k p => by rw [b i k (by omega) (by omega) (by omega), a i k (by omega) (by omega) (by omega)]), v.fe.fr (fun i k p => by rw [b i k (by omega) (by omega) (by omega), a i k (by omega) (by omega) (by omega)]), v.kw.fr (fun k => by rw [b 11 k (by omega) (by omega) (by omega), a 11 k (by omega) (by omega) (by omega)])⟩
theorem kv_FXu (v : IV h g d m mg md) (s' : G2 u g') (dr : DR u d') (wd : WFD d' (g' 0 0) (g' 0 1) (g' 0 2)) (mk : MK u m' mg md) (a : FXu h u1) (b : FMu u1 u) : IV u g' d' m' mg md := by
  exact ⟨s', v.tr.fr (fun i k p => by rw [b i k (by omega) (by omega) (by omega), a i k (by omega) (by omega)]), v.fr.fr (fun i k p => by rw [b i k (by omega) (by omega) (by omega), a i k (by omega) (by omega)]), v.lv.fr (fun i k p => by rw [b i k (by omega) (by omega) (by omega), a i k (by omega) (by omega)]), dr, wd, mk, v.te.fr (fun i k p => by rw [b i k (by omega) (by omega) (by omega), a i k (by omega) (by omega)]), v.fe.fr (fun i k p => by rw [b i k (by omega) (by omega) (by omega), a i k (by omega) (by omega)]), v.kw.fr (fun k => by rw [b 11 k (by omega) (by omega) (by omega), a 11 k (by omega) (by omega)])⟩
theorem kv_FXt (v : IV h g d m mg md) (te : TE u) (a : FXt h u1) (b : FMt u1 u) : IV u g d m mg md := by
  exact ⟨v.s.fr (fun i k p => by rw [b i k (by omega) (by omega), a i k (by omega) (by omega)]), v.tr.fr (fun i k p => by rw [b i k (by omega) (by omega), a i k (by omega) (by omega)]), v.fr.fr (fun i k p => by rw [b i k (by omega) (by omega), a i k (by omega) (by omega)]), v.lv.fr (fun i k p => by rw [b i k (by omega) (by omega), a i k (by omega) (by omega)]), v.dr.fr v.d60 (fun i k p => by rw [b i k (by omega) (by omega), a i k (by omega) (by omega)]), v.wd, v.mk.fr (fun i k p => by rw [b i k (by omega) (by omega), a i k (by omega) (by omega)]), te, v.fe.fr (fun i k p => by rw [b i k (by omega) (by omega), a i k (by omega) (by omega)]), v.kw.fr (fun k => by rw [b 11 k (by omega) (by omega), a 11 k (by omega) (by omega)])⟩
theorem kv_FXg (v : IV h g d m mg md) (s' : G2 u g') (dr : DR u d') (wd : WFD d' (g' 0 0) (g' 0 1) (g' 0 2)) (te : TE u) (fe : FE u) (a : FXg h u1) (b : FMg u1 u) : IV u g' d' m mg md := by
  exact ⟨s', v.tr.fr (fun i k p => by rw [b i k (by omega) (by omega) (by omega) (by omega), a i k (by omega) (by omega) (by omega) (by omega) (by omega)]), v.fr.fr (fun i k p => by rw [b i k (by omega) (by omega) (by omega) (by omega), a i k (by omega) (by omega) (by omega) (by omega) (by omega)]), v.lv.fr (fun i k p => by rw [b i k (by omega) (by omega) (by omega) (by omega), a i k (by omega) (by omega) (by omega) (by omega) (by omega)]), dr, wd, v.mk.fr (fun i k p => by rw [b i k (by omega) (by omega) (by omega) (by omega), a i k (by omega) (by omega) (by omega) (by omega) (by omega)]), te, fe, v.kw.fr (fun k => by rw [b 11 k (by omega) (by omega) (by omega) (by omega), a 11 k (by omega) (by omega) (by omega) (by omega) (by omega)])⟩
theorem kv_FXd (v : IV h g d m mg md) (s' : G2 u g) (dr : DR u d') (wd : WFD d' (g 0 0) (g 0 1) (g 0 2)) (te : TE u) (fe : FE u) (a : FXd h u1) (b : FMd u1 u) : IV u g d' m mg md := by
  exact ⟨s', v.tr.fr (fun i k p => by rw [b i k (by omega) (by omega) (by omega) (by omega), a i k (by omega) (by omega) (by omega)]), v.fr.fr (fun i k p => by rw [b i k (by omega) (by omega) (by omega) (by omega), a i k (by omega) (by omega) (by omega)]), v.lv.fr (fun i k p => by rw [b i k (by omega) (by omega) (by omega) (by omega), a i k (by omega) (by omega) (by omega)]), dr, wd, v.mk.fr (fun i k p => by rw [b i k (by omega) (by omega) (by omega) (by omega), a i k (by omega) (by omega) (by omega)]), te, fe, v.kw.fr (fun k => by rw [b 11 k (by omega) (by omega) (by omega) (by omega), a 11 k (by omega) (by omega) (by omega)])⟩
theorem kv_rd {x : Int} (v : IV h g d m mg md) : IV (mset (mset h 0 0 x) 161 2 x) g d m mg md := by
  have a : TX h (mset h 0 0 x) := fun i k p _ => mset_o p
  have b : TM (mset h 0 0 x) (mset (mset h 0 0 x) 161 2 x) := fun i k p _ => mset_o p
  exact kv_TX v (v.s.tr a b (by rw [mset_i _ (by omega), mset_at, mset_at])) v.tr.ss a b
end IVS
def Iv (h : Mem) : Prop := ∃ g d m mg md, IV h g d m mg md
