/-! mean -/
theorem lvA_lt {d : Dy} {k : Nat} {g : Gs} {lt lt' : Nat} (h : d 1 k ≠ 3) : (lvA d k g lt).1 = (lvA d k g lt').1 ∧ (lvA d k g lt).2.1 = (lvA d k g lt').2.1 := by
  unfold lvA
  by_cases c0 : d 1 k = 0
  · rw [if_pos c0, if_pos c0]; split <;> exact ⟨rfl, rfl⟩
  · rw [if_neg c0, if_neg c0]
    by_cases c1 : d 1 k = 1
    · rw [if_pos c1, if_pos c1]; split <;> exact ⟨rfl, rfl⟩
    · rw [if_neg c1, if_neg c1]
      by_cases c2 : d 1 k = 2
      · rw [if_pos c2, if_pos c2]; split <;> exact ⟨rfl, rfl⟩
      · rw [if_neg c2, if_neg c2, if_neg h, if_neg h]
        exact ⟨rfl, rfl⟩
theorem lvq_lt {d : Dy} (h3 : ∀ k, k < dn d → d 1 k ≠ 3) : ∀ (f k : Nat) (g : Gs) (R : Nat → Int) (st ms : Int) (lt lt' : Nat), lv d f k g R st ms lt = lv d f k g R st ms lt' := by
  intro f
  induction f with
  | zero => intro k g R st ms lt lt'; rfl
  | succ f ih =>
    intro k g R st ms lt lt'
    by_cases c1 : dn d ≤ k
    · rw [lv_over c1, lv_over c1]
    · by_cases c2 : d 1 k = 10
      · show (if dn d ≤ k then (g, st, ms, 0)
          else if d 1 k = 10 then
            (if d 1 (d 5 k).toNat = 8 then (if 1 < R (d 5 k).toNat then lv d f ((d 5 k).toNat + 1) g (rset R (d 5 k).toNat (R (d 5 k).toNat - 1)) st ms lt else lv d f (k + 1) g (rset R (d 5 k).toNat (R (d 5 k).toNat - 1)) st ms lt)
             else lv d f (k + 1) g R st ms lt)
          else if st = 300 then (g, st, ms, 1)
          else if d 1 k = 9 then (g, st + 1, ms, 0)
          else lv d f (lvN d k (lvA d k g lt).1) (lvA d k g lt).1 (if d 1 k = 8 then rset R k (d 2 k) else R) (st + 1) (ms + (1 - (lvA d k g lt).2.1)) (lvA d k g lt).2.2)
         = (if dn d ≤ k then (g, st, ms, 0)
          else if d 1 k = 10 then
            (if d 1 (d 5 k).toNat = 8 then (if 1 < R (d 5 k).toNat then lv d f ((d 5 k).toNat + 1) g (rset R (d 5 k).toNat (R (d 5 k).toNat - 1)) st ms lt' else lv d f (k + 1) g (rset R (d 5 k).toNat (R (d 5 k).toNat - 1)) st ms lt')
             else lv d f (k + 1) g R st ms lt')
          else if st = 300 then (g, st, ms, 1)
          else if d 1 k = 9 then (g, st + 1, ms, 0)
          else lv d f (lvN d k (lvA d k g lt').1) (lvA d k g lt').1 (if d 1 k = 8 then rset R k (d 2 k) else R) (st + 1) (ms + (1 - (lvA d k g lt').2.1)) (lvA d k g lt').2.2)
        rw [if_neg c1, if_pos c2, if_neg c1, if_pos c2, ih _ _ _ _ _ lt lt', ih (k + 1) g (rset R (d 5 k).toNat (R (d 5 k).toNat - 1)) st ms lt lt', ih (k + 1) g R st ms lt lt']
      · by_cases c3 : st = 300
        · rw [lv_300 (by omega) c2 c3, lv_300 (by omega) c2 c3]
        · by_cases c4 : d 1 k = 9
          · rw [lv_stop (by omega) c3 c4, lv_stop (by omega) c3 c4]
          · rw [lv_go (by omega) c2 c3 c4, lv_go (by omega) c2 c3 c4]
            obtain ⟨e1, e2⟩ := lvA_lt (d := d) (k := k) (g := g) (lt := lt) (lt' := lt') (h3 k (by omega))
            rw [e1, e2]
            exact ih _ _ _ _ _ _ _
/-- how often all things come home behind the days, by the first m seeds from a on -/
def mnS (d : Dy) (g : Gs) (a : Nat) : Nat → Int
  | 0 => 0
  | m + 1 => mnS d g a m + hs (lvRun d g (a + m)).1
theorem s_draws {h : Mem} {d : Dy} {a b c : Int} {Q : Int → Mem → Prop} (wd : WFD d a b c) (rd : RD h 27 d) (h1 : (∃ k, k < dn d ∧ d 1 k = 3) → Q 1 h) (h0 : (∀ k, k < dn d → d 1 k ≠ 3) → Q 0 h) : F_X1_drawsLots h 27 Q := by
  have d60 : (dn d : Int) ≤ 60 ∧ (dn d : Int) = d 0 2 := by
    have q1 := wd.2.2.2.1
    have q2 := wd.2.2.2.2.1
    unfold dn
    omega
  unfold F_X1_drawsLots
  have key : ∀ (m i : Nat) (z : Int), z = (i : Int) → i + m = dn d → (∀ k, k < i → d 1 k ≠ 3) → L_X1_drawsLots_2 h 27 z Q := by
    intro m
    induction m with
    | zero =>
      intro i z hz hi row
      subst hz
      refine l_X1_drawsLots_2 rfl ?_
      unfold B_X1_drawsLots_2
      rw [rd.2.2.1]
      have e : i = dn d := by omega
      subst e
      exact ⟨fun _ => h0 row, fun q => absurd (by omega) q⟩
    | succ m ih =>
      intro i z hz hi row
      subst hz
      refine l_X1_drawsLots_2 rfl ?_
      unfold B_X1_drawsLots_2
      have e1 : h (27 + 1) i = d 1 i := (rd.2.2.2 i (by omega)).1
      rw [rd.2.2.1, Int.toNat_natCast, e1]
      refine ⟨fun q => absurd q (by omega), fun _ => ⟨⟨by omega, by omega⟩, fun n => ⟨⟨by omega, by omega⟩, ih (i + 1) _ (by omega) (by omega) (fun k hk => ?_)⟩, fun y => h1 ⟨i, by omega, y⟩⟩⟩
      by_cases ck : k = i
      · subst ck; exact n
      · exact row k (by omega)
  exact key (dn d) 0 0 rfl (by omega) (fun k hk => absurd hk (by omega))
theorem mnS_in {d : Dy} {g : Gs} {a : Nat} (hw : ∀ m, WF 9999 (lvRun d g (a + m)).1) : ∀ m, 0 ≤ mnS d g a m ∧ mnS d g a m ≤ 79992 * m := by
  intro m
  induction m with
  | zero => exact ⟨Int.le_refl _, Int.le_refl _⟩
  | succ m ih =>
    have i := hs_in (hw m)
    unfold mnS
    omega
theorem lvA_wf {d : Dy} {a b c : Int} {k : Nat} {g : Gs} {lt : Nat} (wd : WFD d a b c) (w : WF 9999 g) (sg : stG3 a b c g) (hk : k < dn d) : WF 9999 (lvA d k g lt).1 ∧ stG3 a b c (lvA d k g lt).1 := by
  obtain ⟨n8, nc⟩ := gn8 w
  have ws := w.1
  unfold WFs at ws
  have we := wd.2.2.2.2.2.2.1 k hk
  have sg' := sg
  unfold stG3 at sg'
  have tsm : ∀ (t : Nat) (x y : Int), stG3 a b c (tset g t x y 0) := fun t x y => sg.mo (Mo.eq (fun i _ => tset_n (by omega)))
  unfold lvA
  by_cases c0 : d 1 k = 0
  · rw [if_pos c0]
    have rg := we.2.2.1 c0
    split
    · have w0' : WF (g 0 5) g := w.wd (by omega)
      have wk := WF.passN (d 2 k).toNat w0'
      exact ⟨wk.wd (by have := wk.1; unfold WFs at this; omega), sg.mo (Mo.pN _ _)⟩
    · exact ⟨w, sg⟩
  · rw [if_neg c0]
    by_cases c1 : d 1 k = 1
    · rw [if_pos c1]
      have rg := we.2.2.2.1 c1
      split
      · exact ⟨w.th (Or.inr (Or.inl rfl)) ⟨by omega, by omega⟩ (fun q => absurd rfl q), tsm _ _ _⟩
      · exact ⟨w, sg⟩
    · rw [if_neg c1]
      by_cases c2 : d 1 k = 2
      · rw [if_pos c2]
        split
        · exact ⟨w.th (Or.inl rfl) ⟨by omega, by omega⟩ (fun _ => rfl), tsm _ _ _⟩
        · exact ⟨w, sg⟩
      · rw [if_neg c2]
        by_cases c3 : d 1 k = 3
        · rw [if_pos c3]
          split
          · exact ⟨w, sg⟩
          · split
            · have ci := Nat.mod_lt (drL (drL lt) / 8) (show 0 < (g 0 2).toNat by omega)
              generalize drL (drL lt) / 8 % (g 0 2).toNat = C at ci
              exact ⟨w.th (Or.inr (Or.inl rfl)) ⟨by omega, by omega⟩ (fun q => absurd rfl q), tsm _ _ _⟩
            · exact ⟨w, sg⟩
        · rw [if_neg c3]
          exact ⟨w, sg⟩
theorem lvq_wf {d : Dy} {a b c : Int} (wd : WFD d a b c) : ∀ (f k : Nat) (g : Gs) (R : Nat → Int) (st ms : Int) (lt : Nat), WF 9999 g → stG3 a b c g → WF 9999 (lv d f k g R st ms lt).1 := by
  intro f
  induction f with
  | zero => intro k g R st ms lt w sg; exact w
  | succ f ih =>
    intro k g R st ms lt w sg
    by_cases c1 : dn d ≤ k
    · rw [lv_over c1]; exact w
    · by_cases c2 : d 1 k = 10
      · obtain ⟨q, x1, x2, x3, x4⟩ := (wd.2.2.2.2.2.2.1 k (by omega)).2.2.2.2.2.2.2.2.2.2.1 c2
        rw [lv_endE (by omega) c2 x1]
        split
        · split
          · exact ih _ _ _ _ _ _ w sg
          · exact ih _ _ _ _ _ _ w sg
        · exact ih _ _ _ _ _ _ w sg
      · by_cases c3 : st = 300
        · rw [lv_300 (by omega) c2 c3]; exact w
        · by_cases c4 : d 1 k = 9
          · rw [lv_stop (by omega) c3 c4]; exact w
          · rw [lv_go (by omega) c2 c3 c4]
            obtain ⟨w2, s2⟩ := lvA_wf (lt := lt) wd w sg (show k < dn d by omega)
            exact ih _ _ _ _ _ _ w2 s2
theorem k_mean {h : Mem} {g : Gs} {d : Dy} {a b : Int} (s : G2 h g) (fe : FrE h) (dr : DR h d) (wd : WFD d (g 0 0) (g 0 1) (g 0 2)) {Q : Int → Int → Mem → Prop} (hQ : ∀ r u1 u g', G2 u g' → Mo g g' → FrE u → UXf h u1 → UMf u1 u → Q r r u) (ia : InR a) (ib : InR b) : F_X11_mean h a b (fun r1 h1 => F_X12_mean h1 a b (fun r2 h2 => Q r1 r2 h2)) := by
  have w := s.1
  have ws := w.1
  unfold WFs at ws
  have e27 : h 27 0 = d 0 0 := dr.1.1
  have e9 : h 162 9 = (if d 0 0 = 0 then -1 else d 0 2) := by have q := dr.2.1; rw [Nat.zero_add] at q; exact q
  have d60 : dn d ≤ 60 := by have := wd.2.2.2.2.1; unfold dn; omega
  have sg : stG3 (g 0 0) (g 0 1) (g 0 2) g := ⟨Int.le_refl _, Int.le_refl _, rfl⟩
  have keepX : ∀ {st : Int} {Q : Int → Mem → Prop}, (∀ u, RC u 12 g → u 0 0 = st → u 0 1 = h 0 1 → u 0 2 = h 0 2 → UXf h u → Q 0 u) → F_X11_refuse h st (fun r u => InZ r ∧ Q r u) := fun {st Q} hQ => x_no UX.rf s.2.1 (fun u a b f => hQ u a b (f 0 1 (by omega) (by omega) (by omega) (by omega)) (f 0 2 (by omega) (by omega) (by omega) (by omega)) f.f)
  have keepM : ∀ {h1 : Mem} {st : Int} {Q : Int → Mem → Prop}, st ≠ 0 → RXh h1 g → RN h1 g → h1 161 3 = h 161 3 → h1 161 4 = h 161 4 → (∀ u, RXh u g → RN u g → u 161 2 = st → u 161 3 = h 0 1 → u 161 4 = h 0 2 → UMf h1 u → Q 0 u) → F_X12_is h1 st (fun r u => InZ r ∧ Q r u) := fun {h1 st Q} h0 rx rn e3 e4 hQ => m_no h0 UM.rf w.nm rx rn (fun u a b c f => hQ u a b c (by rw [f 161 3 (by omega) (by omega) (by omega) (by omega), e3, fe.1]) (by rw [f 161 4 (by omega) (by omega) (by omega) (by omega), e4, fe.2]) f.f)
  -- a refusal, both sides, what 162 9 is kept
  have no : ∀ st : Int, st ≠ 0 → (∀ Q : Int → Mem → Prop, F_X11_refuse h st (fun r u => InZ r ∧ Q r u) → F_X11_mean h a b Q) → (∀ h1, h1 162 9 = h 162 9 → ∀ Q : Int → Mem → Prop, F_X12_is h1 st (fun r u => InZ r ∧ Q r u) → F_X12_mean h1 a b Q) → F_X11_mean h a b (fun r1 h1 => F_X12_mean h1 a b (fun r2 h2 => Q r1 r2 h2)) := fun st hs X M => by
    refine X _ (keepX (fun u1 rc1 e1 p1 q1 f1 => M u1 (f1 162 9 (by omega) (by omega) (by omega) (by omega)) _ (keepM hs (s.2.2.1.fr w.nm.1 w.nm.2 (fun k _ => f1 162 k (by omega) (by omega) (by omega) (by omega))) (s.2.2.2.1.fr (fun k => f1 163 k (by omega) (by omega) (by omega) (by omega))) (f1 161 3 (by omega) (by omega) (by omega) (by omega)) (f1 161 4 (by omega) (by omega) (by omega) (by omega)) (fun u rx2 rn2 e2 p2 q2 f2 => hQ 0 u1 u g ⟨w, rc1.umf f2, rx2, rn2, ?_⟩ Mo.rf ⟨?_, ?_⟩ f1 f2))))
    · rw [f2 0 0 (by omega) (by omega) (by omega) (by omega), e1, e2]
    · rw [f2 0 1 (by omega) (by omega) (by omega) (by omega), p1, p2]
    · rw [f2 0 2 (by omega) (by omega) (by omega) (by omega), q1, q2]
  by_cases c : (0 ≤ a ∧ a ≤ 9999) ∧ (1 ≤ b ∧ b ≤ 20) ∧ a + b - 1 ≤ 9999
  · obtain ⟨ca, cb, cc⟩ := c
    by_cases t : d 0 0 = 0
    · refine no 6 (by decide) (fun Q q => ?_) (fun h1 f9 Q q => ?_)
      · unfold F_X11_mean
        refine x_outside (fun z => absurd ca z) (fun _ => ⟨fun z => absurd rfl z, fun _ => x_outside (fun z => absurd cb z) (fun _ => ⟨fun z => absurd rfl z, fun _ => ⟨⟨by omega, by omega⟩, ⟨by omega, by omega⟩, fun _ => ?_, fun z => absurd cc z⟩⟩)⟩)
        rw [e27]
        exact ⟨fun z => absurd t z, fun _ => q⟩
      · unfold F_X12_mean
        refine m_isFrom (fun z => absurd ca z) (fun _ => ⟨fun z => absurd z (by decide), fun _ => m_isFrom (fun z => absurd cb z) (fun _ => ⟨fun z => absurd z (by decide), fun _ => ⟨⟨by omega, by omega⟩, ⟨by omega, by omega⟩, fun _ => ?_, fun z => absurd cc z⟩⟩)⟩)
        rw [f9, e9, if_pos t]
        exact ⟨fun z => absurd rfl z, fun _ => q⟩
    · obtain ⟨lt, rfl⟩ : ∃ k : Nat, a = k := ⟨a.toNat, by omega⟩
      obtain ⟨many, rfl⟩ : ∃ k : Nat, b = k := ⟨b.toNat, by omega⟩
      have d1 : d 0 0 = 1 := by have := wd.1; omega
      have hw : ∀ m, WF 9999 (lvRun d g (lt + m)).1 := fun m => lvq_wf wd lvF 0 g (fun _ => 0) 0 0 (lt + m) w sg
      -- x: the first runs seeds
      have xs : ∀ (runs : Nat) (Q : Int → Mem → Prop), 1 ≤ runs → runs ≤ many → (∀ u, RC u 12 g → UX h u → F_X11_tellFraction u (mnS d g lt runs) (runs : Int) (fun r18 h17 => InZ r18 ∧ Q r18 h17)) → L_X11_mean_77 h (lt : Int) (runs : Int) 0 0 Q := by
        intro runs Q h1 h2 K
        have key : ∀ (m i : Nat) (z : Int) (u : Mem), z = (i : Int) → i + m = runs → RC u 12 g → UX h u → L_X11_mean_77 u (lt : Int) (runs : Int) (mnS d g lt i) z Q := by
          intro m
          induction m with
          | zero =>
            intro i z u hz hi r f
            subst hz
            obtain rfl : i = runs := by omega
            refine l_X11_mean_77 ?_
            unfold B_X11_mean_77
            exact ⟨fun _ => K u r f, fun q => absurd (by omega) q⟩
          | succ m ih =>
            intro i z u hz hi r f
            subst hz
            refine l_X11_mean_77 ?_
            unfold B_X11_mean_77
            have es : (lt : Int) + (i : Int) = ((lt + i : Nat) : Int) := by omega
            have i0 := mnS_in hw i
            have i1 := mnS_in hw (i + 1)
            refine ⟨fun q => absurd q (by omega), fun _ => x_try w r (fun v rv r2 fv => ⟨⟨by omega, by omega⟩, ?_⟩)⟩
            rw [es]
            have rdv : RD v 27 d := dr.1.fr (fun i q1 q2 k => (fv i k (by omega) (by omega) (by omega) (by omega)).trans (f i k (by omega) (by omega) (by omega) (by omega)))
            refine s_liveThrough wd rdv (Or.inr rfl) w sg rv (by omega) (fun y ry wy fy y0 y1 y2 => ?_)
            have ry2 : RT y 147 (lvRun d g (lt + i)).1 := ry.1.2.1
            refine s_homes wy rfl ry2 ⟨?_, ⟨by omega, by omega⟩, ?_⟩
            · show InR (mnS d g lt (i + 1))
              exact ⟨by omega, by omega⟩
            · refine ih (i + 1) _ y (by omega) (by omega) (r2.eq (fun i q1 q2 k => fy i k (by omega) (by omega) (by omega))) ((f.tr fv).tr (fun i k q1 q2 q3 q4 => fy i k (by omega) (by omega) (by omega)))
        exact key runs 0 0 h rfl (by omega) s.2.1 UX.rf
      -- the reference: all seeds
      have ms : ∀ (h1 : Mem) (Q : Int → Mem → Prop), RXh h1 g → RDm h1 0 d → (∀ u, RXh u g → UM h1 u → (∀ k, u 163 k = h1 163 k) → F_X12_tellsBy u (mnS d g lt many) (many : Int) (fun r19 h18 => InZ r19 ∧ Q r19 h18)) → F_X12_keeps h1 2240 (fun h12 => L_X12_mean_71 h12 (lt : Int) (many : Int) 0 0 Q) := by
        intro h1 Q rx rdm K
        refine q_keeps (to := 2240) rfl (by omega) (fun u0 ku fu => ?_)
        have key : ∀ (m i : Nat) (z : Int) (u : Mem), z = (i : Int) → i + m = many → RXh u g → UM h1 u → (∀ k, u 163 k = h1 163 k) → (∀ k, k < 80 → u 162 (2240 + k) = h1 162 k) → L_X12_mean_71 u (lt : Int) (many : Int) (mnS d g lt i) z Q := by
          intro m
          induction m with
          | zero =>
            intro i z u hz hi r f n kk
            subst hz
            obtain rfl : i = many := by omega
            refine l_X12_mean_71 ?_
            unfold B_X12_mean_71
            exact ⟨fun _ => K u r f n, fun q => absurd (by omega) q⟩
          | succ m ih =>
            intro i z u hz hi r f n kk
            subst hz
            refine l_X12_mean_71 ?_
            unfold B_X12_mean_71
            have es : (lt : Int) + (i : Int) = ((lt + i : Nat) : Int) := by omega
            have i0 := mnS_in hw i
            have i1 := mnS_in hw (i + 1)
            have rdu : RDm u 0 d := rdm.fr d60 (fun k hk => f 162 k (by omega) (by omega) (by omega) (by omega))
            rw [es]
            refine ⟨fun q => absurd q (by omega), fun _ => ⟨⟨by omega, by omega⟩, q_livesAll wd rdu d1 w sg r (by omega) (fun v lt' wv zv => ?_)⟩⟩
            have fv := zv.2.2.2.2.2.2.2.2
            refine q_homes wv zv.1 ⟨?_, ?_⟩
            · show InL (mnS d g lt (i + 1))
              exact ⟨by omega, by omega⟩
            · refine q_restores (fr := 2240) rfl (by omega) ?_ (fun y ky fy => ⟨⟨by omega, by omega⟩, ih (i + 1) _ y (by omega) (by omega) (rx.fr w.nm.1 w.nm.2 (fun k hk => ?_)) ((f.tr fv.um).tr (UM.fm fy)) (fun k => ?_) (fun k hk => ?_)⟩)
              · rw [fv 162 (2240 + 9) (by omega) (by omega) (by omega) (by omega), kk 9 (by omega), fv 162 9 (by omega) (by omega) (by omega) (by omega), f 162 9 (by omega) (by omega) (by omega) (by omega)]
              · rw [ky k hk, fv 162 _ (by omega) (by omega) (by omega) (by omega), kk k hk]
              · rw [fy 163 k (by omega), fv 163 k (by omega) (by omega) (by omega) (by omega)]; exact n k
              · rw [fy 162 _ (by omega), fv 162 _ (by omega) (by omega) (by omega) (by omega)]; exact kk k hk
        exact key many 0 0 u0 rfl (by omega) (rx.fr w.nm.1 w.nm.2 (fun k _ => fu 162 k (by omega))) (UM.fk fu (by omega)) (fun k => fu 163 k (by omega)) ku
      have all := mnS_in hw many
      obtain ⟨S, hS⟩ : ∃ k : Nat, mnS d g lt many = k := ⟨(mnS d g lt many).toNat, by omega⟩
      have fin : ∀ (runs : Nat), 1 ≤ runs → runs ≤ many → (∃ p q : Int, (∀ (u : Mem) (Q : Int → Mem → Prop), (∀ v, v 0 1 = p → v 0 2 = q → v 0 0 = 0 → (∀ i k, ¬ (i = 0 ∧ k ≤ 2) → v i k = u i k) → Q 1 v) → F_X11_tellFraction u (mnS d g lt runs) (runs : Int) (fun r u => InZ r ∧ Q r u)) ∧ (∀ (u : Mem) (Q : Int → Mem → Prop), (∀ v, v 161 3 = p → v 161 4 = q → v 161 2 = 0 → (∀ i k, ¬ (i = 161 ∧ 2 ≤ k ∧ k ≤ 4) → v i k = u i k) → Q 1 v) → F_X12_tellsBy u (mnS d g lt many) (many : Int) (fun r u => InZ r ∧ Q r u))) → (∀ Q : Int → Mem → Prop, L_X11_mean_77 h (lt : Int) (runs : Int) 0 0 Q → F_X11_mean h (lt : Int) (many : Int) Q) → F_X11_mean h (lt : Int) (many : Int) (fun r1 h1 => F_X12_mean h1 (lt : Int) (many : Int) (fun r2 h2 => Q r1 r2 h2)) := by
        intro runs r1 r2 hpq X
        obtain ⟨p, q, hp, hq⟩ := hpq
        refine X _ (xs runs _ r1 r2 (fun u ru fu => hp u _ (fun v v1 v2 v0 vf => ?_)))
        have uxf : UXf h v := fun i k q1 q2 q3 q4 => (vf i k q1).trans (fu i k (by omega) q2 q3 q4)
        have rv : RC v 12 g := ru.fr (lo := 0) (hi := 1) (fun i hi k => vf i k (by omega)) (by omega)
        have rxv : RXh v g := s.2.2.1.fr w.nm.1 w.nm.2 (fun k _ => uxf 162 k (by omega) (by omega) (by omega) (by omega))
        have rnv : RN v g := s.2.2.2.1.fr (fun k => uxf 163 k (by omega) (by omega) (by omega) (by omega))
        have rdv : RDm v 0 d := dr.2.fr d60 (fun k _ => uxf 162 k (by omega) (by omega) (by omega) (by omega))
        unfold F_X12_mean
        refine m_isFrom (fun z => absurd ca z) (fun _ => ⟨fun z => absurd z (by decide), fun _ => m_isFrom (fun z => absurd cb z) (fun _ => ⟨fun z => absurd z (by decide), fun _ => ⟨⟨by omega, by omega⟩, ⟨by omega, by omega⟩, fun _ => ?_, fun z => absurd cc z⟩⟩)⟩)
        rw [uxf 162 9 (by omega) (by omega) (by omega) (by omega), e9, if_neg t]
        have c0 := wd.2.2.2.1
        refine ⟨fun _ => ms v _ rxv rdv (fun y ry fy ny => hq y _ (fun z z1 z2 z0 zf => ?_)), fun z => absurd z (by omega)⟩
        have umf : UMf v z := fun i k q1 q2 q3 q4 => (zf i k (by omega)).trans (fy i k (by omega) q2 q3 q4)
        refine hQ 1 v z g ⟨w, rv.umf umf, ry.fr w.nm.1 w.nm.2 (fun k _ => zf 162 k (by omega)), rnv.fr (fun k => (zf 163 k (by omega)).trans (ny k)), ?_⟩ Mo.rf ⟨?_, ?_⟩ uxf umf
        · rw [umf 0 0 (by omega) (by omega) (by omega) (by omega), v0, z0]
        · rw [umf 0 1 (by omega) (by omega) (by omega) (by omega), v1, z1]
        · rw [umf 0 2 (by omega) (by omega) (by omega) (by omega), v2, z2]
      have enter : ∀ (runs : Nat), ((∃ k, k < dn d ∧ d 1 k = 3) → runs = many) → ((∀ k, k < dn d → d 1 k ≠ 3) → runs = 1) → ∀ Q : Int → Mem → Prop, L_X11_mean_77 h (lt : Int) (runs : Int) 0 0 Q → F_X11_mean h (lt : Int) (many : Int) Q := fun runs q1 q2 Q q => by
        unfold F_X11_mean
        refine x_outside (fun z => absurd ca z) (fun _ => ⟨fun z => absurd rfl z, fun _ => x_outside (fun z => absurd cb z) (fun _ => ⟨fun z => absurd rfl z, fun _ => ⟨⟨by omega, by omega⟩, ⟨by omega, by omega⟩, fun _ => ?_, fun z => absurd cc z⟩⟩)⟩)
        rw [e27]
        refine ⟨fun _ => s_draws wd dr.1 (fun y => ⟨fun z => absurd z (by decide), fun _ => ?_⟩) (fun y => ⟨fun _ => ?_, fun z => absurd rfl z⟩), fun z => absurd z t⟩
        · rw [q1 y] at q; exact q
        · rw [q2 y] at q; exact q
      rcases Classical.em (∃ k, k < dn d ∧ d 1 k = 3) with y | y
      · refine fin many (by omega) (Nat.le_refl _) ⟨((S / Nat.gcd S many : Nat) : Int), ((many / Nat.gcd S many : Nat) : Int), fun u Q K => ?_, fun u Q K => ?_⟩ (enter many (fun _ => rfl) (fun z => by obtain ⟨k, k1, k2⟩ := y; exact absurd k2 (z k k1)))
        · rw [hS]
          exact s_tell (by omega) (by omega) (fun v p1 p2 p0 f => ⟨Or.inr rfl, K v p1 p2 p0 f⟩)
        · rw [hS]
          exact q_tell (by omega) (by omega) (fun v p1 p2 p0 f => ⟨Or.inr rfl, K v p1 p2 p0 f⟩)
      · have n3 : ∀ k, k < dn d → d 1 k ≠ 3 := fun k hk e => y ⟨k, hk, e⟩
        have same : ∀ m, mnS d g lt m = m * hs (lvRun d g lt).1 := by
          intro m
          induction m with
          | zero => show (0 : Int) = ((0 : Nat) : Int) * _; rw [Int.natCast_zero, Int.zero_mul]
          | succ m ih =>
            have e : lvRun d g (lt + m) = lvRun d g lt := lvq_lt n3 lvF 0 g (fun _ => 0) 0 0 (lt + m) lt
            show mnS d g lt m + hs (lvRun d g (lt + m)).1 = _
            rw [e, ih, Int.natCast_add, Int.add_mul, Int.natCast_one, Int.one_mul]
        have h0 := hs_in (hw 0)
        rw [Nat.add_zero] at h0
        obtain ⟨H, hH⟩ : ∃ k : Nat, hs (lvRun d g lt).1 = k := ⟨(hs (lvRun d g lt).1).toNat, by omega⟩
        have eS : S = many * H := by
          have q := same many
          rw [hS, hH] at q
          exact Int.natCast_inj.mp (q.trans (Int.natCast_mul _ _).symm)
        have hm : 0 < many := by omega
        refine fin 1 (Nat.le_refl _) (by omega) ⟨(H : Int), 1, fun u Q K => ?_, fun u Q K => ?_⟩ (enter 1 (fun z => absurd z y) (fun _ => rfl))
        · have e1 : mnS d g lt 1 = (H : Int) := by rw [same 1, hH, Int.natCast_one, Int.one_mul]
          rw [e1]
          refine s_tell (b := 1) (by omega) (by omega) (fun v p1 p2 p0 f => ⟨Or.inr rfl, K v ?_ ?_ p0 f⟩)
          · rw [p1, Nat.gcd_one_right, Nat.div_one]
          · rw [p2, Nat.gcd_one_right, Nat.div_one]; rfl
        · rw [hS]
          have ge : Nat.gcd S many = many := by rw [eS]; exact Nat.gcd_eq_right (Nat.dvd_mul_right _ _)
          refine q_tell (by omega) (by omega) (fun v p1 p2 p0 f => ⟨Or.inr rfl, K v ?_ ?_ p0 f⟩)
          · rw [p1, ge, eS, Nat.mul_div_cancel_left _ hm]
          · rw [p2, ge, Nat.div_self hm]; rfl
  · refine no 1 (by decide) (fun Q q => ?_) (fun h1 f9 Q q => ?_)
    · unfold F_X11_mean
      exact x_outside (fun _ => ⟨fun _ => q, fun z => absurd z (by decide)⟩) (fun q1 => ⟨fun z => absurd rfl z, fun _ => x_outside (fun _ => ⟨fun _ => q, fun z => absurd z (by decide)⟩) (fun q2 => ⟨fun z => absurd rfl z, fun _ => ⟨⟨by omega, by omega⟩, ⟨by omega, by omega⟩, fun q3 => absurd ⟨q1, q2, q3⟩ c, fun _ => q⟩⟩)⟩)
    · unfold F_X12_mean
      exact m_isFrom (fun _ => ⟨fun _ => q, fun z => absurd rfl z⟩) (fun q1 => ⟨fun z => absurd z (by decide), fun _ => m_isFrom (fun _ => ⟨fun _ => q, fun z => absurd rfl z⟩) (fun q2 => ⟨fun z => absurd z (by decide), fun _ => ⟨⟨by omega, by omega⟩, ⟨by omega, by omega⟩, fun q3 => absurd ⟨q1, q2, q3⟩ c, fun _ => q⟩⟩)⟩)
