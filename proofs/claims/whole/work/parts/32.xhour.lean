/-! x's hour -/
theorem gn8 {B : Int} {g : Gs} (w : WF B g) : gn g ≤ 8 ∧ (gn g : Int) = g 0 0 := by
  obtain ⟨w, -, -⟩ := w
  unfold WFs at w
  unfold gn
  omega
theorem gm4 {B : Int} {g : Gs} (w : WF B g) : gm g ≤ 4 ∧ (gm g : Int) = g 0 1 := by
  obtain ⟨w, -, -⟩ := w
  unfold WFs at w
  unfold gm
  omega
theorem lr_ok {B : Int} {g : Gs} (w : WF B g) : ∀ k, k ≤ gn g → (lr g k = (-1, 0) ∧ ∀ t, t < k → ¬ (g 4 t = 1 ∧ g 3 t ≤ g 6 t)) ∨ ∃ t, t < k ∧ lr g k = ((t : Int), g 6 t) ∧ g 4 t = 1 ∧ g 3 t ≤ g 6 t ∧ 0 < g 6 t := by
  intro k
  induction k with
  | zero => intro _; exact Or.inl ⟨rfl, fun t h => absurd h (Nat.not_lt_zero t)⟩
  | succ k ih =>
    intro hk
    have wt := w.2.1 k (by omega)
    unfold WFt at wt
    unfold lr
    by_cases c : g 4 k = 1 ∧ g 3 k ≤ g 6 k ∧ (lr g k).2 < g 6 k
    · rw [if_pos c]
      exact Or.inr ⟨k, by omega, rfl, c.1, c.2.1, by omega⟩
    · rw [if_neg c]
      rcases ih (by omega) with ⟨e, h⟩ | ⟨t, h1, h2⟩
      · left
        refine ⟨e, fun t ht => ?_⟩
        rcases Nat.lt_or_ge t k with q | q
        · exact h t q
        · have : t = k := by omega
          subst this
          intro z
          apply c
          rw [e]
          exact ⟨z.1, z.2, by show (0 : Int) < _; omega⟩
      · exact Or.inr ⟨t, by omega, h2⟩
theorem s_lr {h : Mem} {o : Nat} {g : Gs} {B : Int} {Q : Int → Mem → Prop} (hl : lay o = (0, 9)) (hR : RT h o g) (hW : WF B g) (hQ : Q (gT g) h) : F_X9_longestRemembered h o Q := by
  obtain ⟨n8, nc⟩ := gn8 hW
  have key : ∀ (m i : Nat) (x : Int), x = (i : Int) → i + m = gn g → L_X9_longestRemembered_6 h o (lr g i).1 (lr g i).2 x Q := by
    intro m
    induction m with
    | zero =>
      intro i x hx hi
      subst hx
      refine l_X9_longestRemembered_6 hl ?_
      unfold B_X9_longestRemembered_6
      rw [hR.1]
      have : i = gn g := by omega
      subst this
      exact ⟨fun _ => hQ, fun c => absurd (by omega) c⟩
    | succ m ih =>
      intro i x hx hi
      subst hx
      have ihn := ih (i + 1) ((i : Int) + 1) (by omega) (by omega)
      obtain ⟨-, e2, e3, e4, e5, e6, e7, e8⟩ := hR.2 i (by omega)
      refine l_X9_longestRemembered_6 hl ?_
      unfold B_X9_longestRemembered_6
      have ir : InR ((i : Int) + 1) := ⟨by omega, by omega⟩
      rw [hR.1, Int.toNat_natCast, e5, e7, e4]
      refine ⟨fun c => absurd c (by omega), fun c => ⟨⟨by omega, by omega⟩, fun c1 => ⟨ir, ?_⟩, fun c1 => ⟨fun c2 => ⟨ir, ?_⟩, fun c2 => ⟨fun c3 => ⟨ir, ?_⟩, fun c3 y hy => ⟨ir, ?_⟩⟩⟩⟩⟩
      · unfold lr at ihn
        rw [if_neg (fun z => c1 z.1)] at ihn
        exact ihn
      · unfold lr at ihn
        rw [if_neg (fun z => by omega)] at ihn
        exact ihn
      · unfold lr at ihn
        rw [if_neg (fun z => by omega)] at ihn
        exact ihn
      · unfold lr at ihn
        rw [if_pos ⟨c1, by omega, by omega⟩] at ihn
        rw [hy]
        exact ihn
  exact key (gn g) 0 0 rfl (by omega)
theorem cw_in {B : Int} {g : Gs} (w : WF B g) : ∀ k, k ≤ gn g → 0 ≤ cw g k ∧ cw g k ≤ 9 * k := by
  intro k
  induction k with
  | zero => intro _; exact ⟨Int.le_refl 0, Int.le_refl 0⟩
  | succ k ih =>
    intro hk
    have wt := w.2.1 k (by omega)
    unfold WFt at wt
    have := ih (by omega)
    unfold cw
    split <;> omega
theorem s_cw {h : Mem} {o : Nat} {g : Gs} {B : Int} {Q : Int → Mem → Prop} (hl : lay o = (0, 9)) (hR : RT h o g) (hW : WF B g) (hQ : Q (cw g (gn g)) h) : F_X9_carriedWeight h o Q := by
  obtain ⟨n8, nc⟩ := gn8 hW
  have key : ∀ (m i : Nat) (x : Int), x = (i : Int) → i + m = gn g → L_X9_carriedWeight_4 h o (cw g i) x Q := by
    intro m
    induction m with
    | zero =>
      intro i x hx hi
      subst hx
      refine l_X9_carriedWeight_4 hl ?_
      unfold B_X9_carriedWeight_4
      rw [hR.1]
      have : i = gn g := by omega
      subst this
      exact ⟨fun _ => hQ, fun c => absurd (by omega) c⟩
    | succ m ih =>
      intro i x hx hi
      subst hx
      have ihn := ih (i + 1) ((i : Int) + 1) (by omega) (by omega)
      obtain ⟨-, e2, e3, e4, e5, e6, e7, e8⟩ := hR.2 i (by omega)
      have c0 := cw_in hW i (by omega)
      have wt := hW.2.1 i (by omega)
      unfold WFt at wt
      refine l_X9_carriedWeight_4 hl ?_
      unfold B_X9_carriedWeight_4
      have ir : InR ((i : Int) + 1) := ⟨by omega, by omega⟩
      rw [hR.1, Int.toNat_natCast, e5, e2]
      refine ⟨fun c => absurd c (by omega), fun c => ⟨⟨by omega, by omega⟩, fun c1 => ⟨ir, ?_⟩, fun c1 => ⟨⟨by omega, by omega⟩, fun y hy => ⟨ir, ?_⟩⟩⟩⟩
      · unfold cw at ihn
        rw [if_neg c1] at ihn
        exact ihn
      · unfold cw at ihn
        rw [if_pos c1] at ihn
        rw [hy]
        exact ihn
  exact key (gn g) 0 0 rfl (by omega)
/-- one place of a thing's numbers is written -/
def tset (g : Gs) (t : Nat) (a b c : Int) : Gs := fun f i => if i = t ∧ f = 4 then a else if i = t ∧ f = 5 then b else if i = t ∧ f = 6 then c else g f i
theorem gn_tset {g : Gs} {t : Nat} {a b c : Int} : gn (tset g t a b c) = gn g := by simp [gn, tset]
theorem s_place {h : Mem} {o t : Nat} {g : Gs} {a b : Int} {x : Int} {Q : Mem → Prop} (hx : x = (t : Int)) (ht : t < 8) (hR : RT h o g) (hQ : ∀ u, RT u o (tset g t a b 0) → Fr (o + 5) (o + 8) h u → Q u) : F_X9_place h o x a b Q := by
  subst hx
  unfold F_X9_place
  refine ⟨⟨by omega, by omega⟩, fun h1 e1 h2 e2 h3 e3 => hQ h3 ?_ ?_⟩
  · rw [Int.toNat_natCast] at e1 e2 e3
    subst e3 e2 e1
    refine ⟨?_, fun i hi => ?_⟩
    · rw [mset_i _ (by omega), mset_i _ (by omega), mset_i _ (by omega), hR.1]
      simp [tset]
    · rw [gn_tset] at hi
      obtain ⟨e1, e2, e3, e4, e5, e6, e7, e8⟩ := hR.2 i hi
      refine ⟨?_, ?_, ?_, ?_, ?_, ?_, ?_, ?_⟩
      · rw [mset_i _ (by omega), mset_i _ (by omega), mset_i _ (by omega), e1]; simp [tset]
      · rw [mset_i _ (by omega), mset_i _ (by omega), mset_i _ (by omega), e2]; simp [tset]
      · rw [mset_i _ (by omega), mset_i _ (by omega), mset_i _ (by omega), e3]; simp [tset]
      · rw [mset_i _ (by omega), mset_i _ (by omega), mset_i _ (by omega), e4]; simp [tset]
      · rw [mset_i _ (by omega), mset_i _ (by omega)]
        by_cases c : i = t
        · subst c; rw [mset_at]; simp [tset]
        · rw [mset_k c, e5]; simp [tset, c]
      · rw [mset_i _ (by omega)]
        by_cases c : i = t
        · subst c; rw [mset_at]; simp [tset]
        · rw [mset_k c, mset_i _ (by omega), e6]; simp [tset, c]
      · by_cases c : i = t
        · subst c; rw [mset_at]; simp [tset]
        · rw [mset_k c, mset_i _ (by omega), mset_i _ (by omega), e7]; simp [tset, c]
      · rw [mset_i _ (by omega), mset_i _ (by omega), mset_i _ (by omega), e8]; simp [tset]
  · rw [Int.toNat_natCast] at e1 e2 e3
    subst e3 e2 e1
    exact ((Fr.rf.st (by omega) (by omega)).st (by omega) (by omega)).st (by omega) (by omega)
theorem RT.cg2 {h : Mem} {T : Nat} {g g' : Gs} (r : RT h T g) (e0 : g' 0 0 = g 0 0) (e : ∀ f t, t < gn g → 1 ≤ f → (f ≤ 7 ∨ f = 11) → g' f t = g f t) : RT h T g' := by
  refine ⟨by rw [e0]; exact r.1, fun t ht => ?_⟩
  have ht' : t < gn g := by unfold gn at ht ⊢; rw [← e0]; exact ht
  rw [e 11 t ht' (by omega) (by omega), e 1 t ht' (by omega) (by omega), e 2 t ht' (by omega) (by omega), e 3 t ht' (by omega) (by omega), e 4 t ht' (by omega) (by omega), e 5 t ht' (by omega) (by omega), e 6 t ht' (by omega) (by omega), e 7 t ht' (by omega) (by omega)]
  exact r.2 t ht'
theorem RT.cg {h : Mem} {T : Nat} {g g' : Gs} (r : RT h T g) (e0 : g' 0 0 = g 0 0) (e : ∀ f t, t < gn g → 1 ≤ f → g' f t = g f t) : RT h T g' := r.cg2 e0 (fun f t ht hf _ => e f t ht hf)
theorem upTo0 {k : Nat} {F : Nat → Nat → Int} {g : Gs} {i : Nat} : upTo k F g 0 i = g 0 i := by simp [upTo]
theorem upTo_lo {k : Nat} {F : Nat → Nat → Int} {g : Gs} {f i : Nat} (hf : f ≤ 3 ∨ 8 ≤ f) : upTo k F g f i = g f i := by
  unfold upTo
  rw [if_neg (by omega)]
theorem upTo_ge {k : Nat} {F : Nat → Nat → Int} {g : Gs} {f i : Nat} (hi : k ≤ i) : upTo k F g f i = g f i := by
  unfold upTo
  rw [if_neg (by omega)]
theorem upTo_in {k : Nat} {F : Nat → Nat → Int} {g : Gs} {f i : Nat} (h1 : 4 ≤ f) (h2 : f ≤ 7) (hi : i < k) : upTo k F g f i = F f i := by
  unfold upTo
  rw [if_pos ⟨h1, h2, hi⟩]
theorem gn_upTo {k : Nat} {F : Nat → Nat → Int} {g : Gs} : gn (upTo k F g) = gn g := by simp [gn, upTo]
/-- one thing more is as F says -/
theorem upTo_s {F : Nat → Nat → Int} {g : Gs} {k f t : Nat} (h : t ≠ k ∨ f ≤ 3 ∨ 8 ≤ f) : upTo (k + 1) F g f t = upTo k F g f t := by
  unfold upTo
  by_cases c : 4 ≤ f ∧ f ≤ 7 ∧ t < k
  · rw [if_pos c, if_pos ⟨c.1, c.2.1, by omega⟩]
  · rw [if_neg c, if_neg (by omega)]
theorem upTo_k {F : Nat → Nat → Int} {g : Gs} {k f : Nat} (h1 : 4 ≤ f) (h2 : f ≤ 7) : upTo (k + 1) F g f k = F f k := upTo_in h1 h2 (by omega)
theorem fl_in {B : Int} {g : Gs} (w : WF B g) {at_ fr : Int} : ∀ k, k ≤ gn g → fr - 9 * k ≤ fl g at_ fr k ∧ fl g at_ fr k ≤ fr := by
  intro k
  induction k with
  | zero => intro _; unfold fl; omega
  | succ k ih =>
    intro hk
    have wt := w.2.1 k (by omega)
    unfold WFt at wt
    have := ih (by omega)
    unfold fl
    split <;> omega
theorem s_takeUp {h : Mem} {o : Nat} {g : Gs} {B at_ fr : Int} {Q : Mem → Prop} (hl : lay o = (0, 9)) (hR : RT h o g) (hW : WF B g) (hfr : -1000 ≤ fr ∧ fr ≤ 1000) (hQ : ∀ u, RT u o (upTo (gn g) (takeF g at_ fr) g) → Fr (o + 5) (o + 8) h u → Q u) : F_X9_takeUp h o at_ fr Q := by
  obtain ⟨n8, nc⟩ := gn8 hW
  have key : ∀ (m i : Nat) (x : Int) (u : Mem), x = (i : Int) → i + m = gn g → RT u o (upTo i (takeF g at_ fr) g) → Fr (o + 5) (o + 8) h u → L_X9_takeUp_5 u o at_ (fl g at_ fr i) x Q := by
    intro m
    induction m with
    | zero =>
      intro i x u hx hi hr hf
      subst hx
      refine l_X9_takeUp_5 hl ?_
      unfold B_X9_takeUp_5
      rw [hr.1, upTo0]
      have : i = gn g := by omega
      subst this
      exact ⟨fun _ => hQ u hr hf, fun c => absurd (by omega) c⟩
    | succ m ih =>
      intro i x u hx hi hr hf
      subst hx
      have ihn := fun u => ih (i + 1) ((i : Int) + 1) u (by omega) (by omega)
      obtain ⟨-, e2, e3, e4, e5, e6, e7, e8⟩ := hr.2 i (by rw [gn_upTo]; omega)
      rw [upTo_lo (by omega)] at e2 e4
      rw [upTo_ge (by omega)] at e5 e6 e7
      have wt := hW.2.1 i (by omega)
      unfold WFt at wt
      have fi := fl_in hW (at_ := at_) (fr := fr) i (by omega)
      refine l_X9_takeUp_5 hl ?_
      unfold B_X9_takeUp_5
      have ir : InR ((i : Int) + 1) := ⟨by omega, by omega⟩
      rw [hr.1, upTo0, Int.toNat_natCast, e5, e6, e7, e4, e2]
      have no : ¬ (g 4 i = 1 ∧ g 5 i = at_ ∧ g 3 i ≤ g 6 i ∧ g 1 i ≤ fl g at_ fr i) → L_X9_takeUp_5 u o at_ (fl g at_ fr i) ((i : Int) + 1) Q := by
        intro c
        have := ihn u (hr.cg (by rw [upTo0, upTo0]) (fun f t ht hf => ?_)) hf
        · unfold fl at this
          rw [if_neg c] at this
          exact this
        · by_cases z : t ≠ i ∨ f ≤ 3 ∨ 8 ≤ f
          · exact upTo_s z
          · have ez : t = i := by omega
            subst ez
            rw [upTo_k (by omega) (by omega), upTo_ge (by omega)]
            unfold takeF
            rw [if_neg c]
      refine ⟨fun c => absurd c (by omega), fun c => ⟨⟨by omega, by omega⟩, fun c1 => ⟨ir, no (fun z => c1 z.1)⟩, fun c1 => ⟨fun c2 => ⟨ir, no (fun z => c2 z.2.1)⟩, fun c2 => ⟨fun c3 => ⟨ir, no (fun z => by omega)⟩, fun c3 => ⟨fun c4 => ⟨ir, no (fun z => by omega)⟩, fun c4 => ⟨⟨by omega, by omega⟩, fun y hy => ?_⟩⟩⟩⟩⟩⟩
      have cc : g 4 i = 1 ∧ g 5 i = at_ ∧ g 3 i ≤ g 6 i ∧ g 1 i ≤ fl g at_ fr i := ⟨c1, c2, by omega, by omega⟩
      refine s_place rfl (by omega) hr (fun v r1 f1 => ⟨ir, ?_⟩)
      have := ihn v (r1.cg (by simp [upTo, tset]) (fun f t ht hf => ?_)) (hf.tr f1)
      · unfold fl at this
        rw [if_pos cc] at this
        rw [hy]
        exact this
      · by_cases z : t ≠ i ∨ f ≤ 3 ∨ 8 ≤ f
        · rw [upTo_s z]
          unfold tset
          rw [if_neg (by omega), if_neg (by omega), if_neg (by omega)]
        · have ez : t = i := by omega
          subst ez
          rw [upTo_k (by omega) (by omega)]
          unfold takeF tset
          rw [if_pos cc]
          by_cases f4 : f = 4
          · subst f4; simp
          · by_cases f5 : f = 5
            · subst f5; simp
            · by_cases f6 : f = 6
              · subst f6; simp
              · have f7 : f = 7 := by omega
                subst f7
                simp [upTo]
  exact key (gn g) 0 0 h rfl (by omega) (hR.cg (by rw [upTo0]) (fun f t ht hf => upTo_ge (by omega))) Fr.rf
