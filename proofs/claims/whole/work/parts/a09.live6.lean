/-! live, lived: the calls -/
def lvF : Nat := 100000
def lvRun (d : Dy) (g : Gs) (lt : Nat) : Gs × Int × Int × Int := lv d lvF 0 g (fun _ => 0) 0 0 lt
theorem eS_0 {d : Dy} {R : Nat → Int} : ∀ n, eS d 0 R n = 0 := by
  intro n
  induction n with
  | zero => rfl
  | succ n ih =>
    unfold eS
    rw [if_neg (fun q => by have := (enclB_iff.mp q).1; omega)]
    exact ih
theorem lvM_0 {d : Dy} {R : Nat → Int} : lvM d 0 R 0 < lvF := by
  have q := qk_le (d := d) (k := 0)
  have e : lvM d 0 R 0 = 60000 + qk d 0 := by
    unfold lvM
    rw [eS_0]
    rfl
  rw [e]
  unfold lvF
  omega
theorem okR_0 {d : Dy} {R : Nat → Int} : okR d 0 R := fun o h => absurd h.1 (by omega)
theorem lv_same {d : Dy} : ∀ (f k : Nat) (g : Gs) (R : Nat → Int) (st ms : Int) (lt : Nat), SameF g (lv d f k g R st ms lt).1 := by
  intro f
  induction f with
  | zero => intro k g R st ms lt; exact SameF.rf
  | succ f ih =>
    intro k g R st ms lt
    show SameF g (if dn d ≤ k then (g, st, ms, 0)
      else if d 1 k = 10 then
        (if d 1 (d 5 k).toNat = 8 then (if 1 < R (d 5 k).toNat then lv d f ((d 5 k).toNat + 1) g (rset R (d 5 k).toNat (R (d 5 k).toNat - 1)) st ms lt else lv d f (k + 1) g (rset R (d 5 k).toNat (R (d 5 k).toNat - 1)) st ms lt)
         else lv d f (k + 1) g R st ms lt)
      else if st = 300 then (g, st, ms, 1)
      else if d 1 k = 9 then (g, st + 1, ms, 0)
      else lv d f (lvN d k (lvA d k g lt).1) (lvA d k g lt).1 (if d 1 k = 8 then rset R k (d 2 k) else R) (st + 1) (ms + (1 - (lvA d k g lt).2.1)) (lvA d k g lt).2.2).1
    have act : SameF g (lvA d k g lt).1 := by
      unfold lvA
      split
      · split
        · exact SameF.pN _ _ SameF.rf
        · exact SameF.rf
      · split
        · split
          · exact SameF.rf.ts
          · exact SameF.rf
        · split
          · split
            · exact SameF.rf.ts
            · exact SameF.rf
          · split
            · split
              · exact SameF.rf
              · split
                · exact SameF.rf.ts
                · exact SameF.rf
            · exact SameF.rf
    split
    · exact SameF.rf
    · split
      · split
        · split
          · exact ih _ _ _ _ _ _
          · exact ih _ _ _ _ _ _
        · exact ih _ _ _ _ _ _
      · split
        · exact SameF.rf
        · split
          · exact SameF.rf
          · exact act.tr (ih _ _ _ _ _ _)
theorem s_liveThrough {h : Mem} {o lt : Nat} {d : Dy} {a b c : Int} {g : Gs} {Q : Mem → Prop} (wd : WFD d a b c) (rd : RD h 27 d) (ho : okO o) (w : WF 9999 g) (sg : stG3 a b c g) (r : RC h o g) (hl : lt < 65536) (hQ : ∀ u, RC u o (lvRun d g lt).1 → WF 9999 (lvRun d g lt).1 → LX o h u → u 78 0 = (lvRun d g lt).2.1 → u 78 1 = (lvRun d g lt).2.2.1 → u 78 2 = (lvRun d g lt).2.2.2 → Q u) : F_X6_liveThrough h o 27 (lt : Int) Q := by
  unfold F_X6_liveThrough
  intro h1 e1 h2 e2 h3 e3 h4 e4 h5 e5 h6 e6
  have f6 : LX o h h6 := by
    rw [e6, e5, e4, e3, e2, e1]
    exact (((((LX.rf.st (Or.inl rfl)).st (Or.inl rfl)).st (Or.inl rfl)).st (Or.inl rfl)).st (Or.inl rfl)).st (Or.inl rfl)
  have l6 : LW h6 o 0 0 0 lt := by
    rw [e6, e5, e4, e3, e2, e1]
    refine ⟨?_, ?_, mset_at, ?_, ?_, ?_⟩
    · rw [mset_k (by omega), mset_k (by omega), mset_at]
    · rw [mset_k (by omega), mset_at]
    · rw [mset_k (by omega), mset_k (by omega), mset_k (by omega), mset_at]
    · rw [mset_k (by omega), mset_k (by omega), mset_k (by omega), mset_k (by omega), mset_k (by omega), mset_at]
    · rw [mset_k (by omega), mset_k (by omega), mset_k (by omega), mset_k (by omega), mset_at]; rfl
  have r6 : RC h6 o g := by
    have fr : Fr 78 79 h h6 := by
      rw [e6, e5, e4, e3, e2, e1]
      exact (((((Fr.rf.st (by omega) (by omega)).st (by omega) (by omega)).st (by omega) (by omega)).st (by omega) (by omega)).st (by omega) (by omega)).st (by omega) (by omega)
    exact r.fr fr (by unfold okO at ho; omega)
  exact s_lv wd rd ho lvF 0 0 0 h6 g (fun _ => 0) 0 0 lt rfl (by omega) (by unfold lvF; omega) (Nat.zero_le _) w sg r6 f6 l6 hl (by omega) (by omega) okR_0 (fun q hq => absurd hq.1 (by omega)) lvM_0 (fun u lt' ru wu fu lu => hQ u ru wu fu lu.1 lu.2.1 lu.2.2.1)
theorem q_livesAll {h : Mem} {lt : Nat} {d : Dy} {a b c : Int} {g : Gs} {Q : Mem → Prop} (wd : WFD d a b c) (rd : RDm h 0 d) (d1 : d 0 0 = 1) (w : WF 9999 g) (sg : stG3 a b c g) (r : RXh h g) (hl : lt < 65536) (hQ : ∀ u lt', WF 9999 (lvRun d g lt).1 → ZM h g u (lvRun d g lt).1 (lvRun d g lt).2.1 (lvRun d g lt).2.2.1 (lvRun d g lt).2.2.2 lt' → Q u) : F_X12_lives h (lt : Int) Q := by
  unfold F_X12_lives
  intro h1 e1 h2 e2
  have r2 : RXh h2 g := by rw [e2, e1]; exact (r.sto w.nm (by omega)).sto w.nm (by omega)
  have f2 : LMf h h2 := by rw [e2, e1]; exact (LMf.rf.st (by omega)).st (by omega)
  have a37 : h2 161 37 = (lt : Int) := by rw [e2, mset_k (by omega), e1, mset_at]
  have a38 : h2 161 38 = 0 := by rw [e2, mset_at]
  have key : ∀ (m i : Nat) (z : Int) (v : Mem), z = (i : Int) → i + m = 5 → RXh v g → LMf h v → v 161 37 = (lt : Int) → v 161 38 = 0 → (∀ k, k < i → v 179 k = 0) → L_X12_lives_12 v z Q := by
    intro m
    induction m with
    | zero =>
      intro i z v hz hi rv fv v37 v38 zs
      subst hz
      obtain rfl : i = 5 := by omega
      refine l_X12_lives_12 ?_
      unfold B_X12_lives_12
      refine ⟨fun _ => ?_, fun q => absurd (by omega) q⟩
      have zm : ZM h g v g 0 0 0 lt := by
        refine ⟨rv, v37, v38, zs 0 (by omega), ?_, ?_, ?_, zs 4 (by omega), fv⟩
        · rw [zs 1 (by omega)]; omega
        · rw [zs 2 (by omega)]; omega
        · rw [zs 3 (by omega)]; omega
      refine (q_lv w wd rd d1 lvF 0 0 v g (fun _ => 0) 0 0 lt rfl (Nat.zero_le _) w sg zm hl (by omega) (by omega) okR_0 (fun q hq => absurd hq.1 (by omega)) lvM_0 hQ).1 (fun hd h10 => ?_)
      obtain ⟨q, x1, x2, x3, x4⟩ := (wd.2.2.2.2.2.2.1 0 hd).2.2.2.2.2.2.2.2.2.2.1 h10
      omega
    | succ m ih =>
      intro i z v hz hi rv fv v37 v38 zs
      subst hz
      refine l_X12_lives_12 ?_
      unfold B_X12_lives_12
      rw [Int.toNat_natCast]
      refine ⟨fun q => absurd q (by omega), fun _ => ⟨⟨by omega, by omega⟩, fun h4 e4 => ⟨⟨by omega, by omega⟩, ?_⟩⟩⟩
      subst e4
      refine ih (i + 1) _ _ (by omega) (by omega) (rv.sto w.nm (by omega)) (fv.st (by omega)) ((mset_i _ (by omega)).trans v37) ((mset_i _ (by omega)).trans v38) (fun k hk => ?_)
      by_cases c : k = i
      · subst c; rw [mset_at]
      · rw [mset_k c]; exact zs k (by omega)
  exact key 5 0 0 h2 rfl (by omega) r2 f2 a37 a38 (fun k hk => absurd hk (by omega))
/-- the days on both sides -/
def DR (h : Mem) (d : Dy) : Prop := RD h 27 d ∧ RDm h 0 d
def LvE (h : Mem) : Prop := h 0 16 = h 161 42 ∧ (h 0 16 ≠ 0 → ∀ i, i < 5 → h 145 i = h 180 i)
def UXl (h u : Mem) : Prop := ∀ i k, ¬ (i = 0 ∧ (k = 0 ∨ k = 16)) → ¬ (12 ≤ i ∧ i < 27) → ¬ (42 ≤ i ∧ i < 80) → ¬ (145 ≤ i ∧ i < 161) → u i k = h i k
def UMl (h u : Mem) : Prop := ∀ i k, ¬ (i = 161 ∧ (k = 2 ∨ (25 ≤ k ∧ k ≤ 26) ∨ (30 ≤ k ∧ k ≤ 32) ∨ (37 ≤ k ∧ k ≤ 38) ∨ k = 42)) → ¬ (i = 162 ∧ ((k < 80 ∧ k ≠ 9) ∨ 2240 ≤ k)) → ¬ (i = 163 ∧ k < 12) → ¬ (170 ≤ i) → u i k = h i k
theorem UX.l {h u : Mem} (f : UX h u) : UXl h u := fun i k p q r s => f i k (by omega) q r (by omega)
theorem UM.l {h u : Mem} (f : UM h u) : UMl h u := fun i k p q r s => f i k (by omega) q r (by omega)
theorem RN.same {h u : Mem} {g g' : Gs} (r : RN h g) (s : SameF g g') (f : ∀ k, u 163 k = h 163 k) : RN u g' := by
  have n1 : gn g' = gn g := by unfold gn; rw [s.1 0 (by omega)]
  have n2 : gm g' = gm g := by unfold gm; rw [s.1 1 (by omega)]
  exact ⟨fun t ht => by rw [f, s.2 11 t (by omega)]; exact r.1 t (by omega), fun t ht => by rw [f, s.2 12 t (by omega)]; exact r.2 t (by omega)⟩
theorem LvE.keep {h u1 u : Mem} (l : LvE h) (a : UX h u1) (b : UM u1 u) : LvE u := by
  have e : ∀ i k, (i = 0 ∧ k = 16) ∨ (i = 161 ∧ k = 42) ∨ i = 145 ∨ i = 180 → u i k = h i k := fun i k q => (b i k (by omega) (by omega) (by omega) (by omega)).trans (a i k (by omega) (by omega) (by omega) (by omega))
  unfold LvE
  rw [e 0 16 (by omega), e 161 42 (by omega)]
  exact ⟨l.1, fun n i hi => by rw [e 145 i (by omega), e 180 i (by omega)]; exact l.2 n i hi⟩
theorem k_live {h : Mem} {g : Gs} {d : Dy} {a : Int} (s : G2 h g) (dr : DR h d) (wd : WFD d (g 0 0) (g 0 1) (g 0 2)) (le : LvE h) {Q : Int → Int → Mem → Prop} (hQ : ∀ r u1 u g', G2 u g' → Mo g g' → LvE u → UXl h u1 → UMl u1 u → Q r r u) : F_X11_live h a (fun r1 h1 => F_X12_live h1 a (fun r2 h2 => Q r1 r2 h2)) := by
  have w := s.1
  have ws := w.1
  unfold WFs at ws
  have e27 : h 27 0 = d 0 0 := dr.1.1
  have e9 : h 162 9 = (if d 0 0 = 0 then -1 else d 0 2) := by have q := dr.2.1; rw [Nat.zero_add] at q; exact q
  have d60 : dn d ≤ 60 := by have := wd.2.2.2.2.1; unfold dn; omega
  have no : ∀ st : Int, st ≠ 0 → (∀ Q : Int → Mem → Prop, F_X11_refused h st Q → F_X11_live h a Q) → (∀ h1, UX h h1 → ∀ Q : Int → Mem → Prop, F_X12_refuse h1 st Q → F_X12_live h1 a Q) → F_X11_live h a (fun r1 h1 => F_X12_live h1 a (fun r2 h2 => Q r1 r2 h2)) := fun st hs X M =>
    Kp.mk3 (FX := F_X11_live h a) (FM := fun h1 => F_X12_live h1 a) (g' := g) (st := st) (r := -1) s w (fun Q hQ => X Q (x_refused UX.rf s.2.1 hQ)) (fun h1 f1 rx rn Q hQ => M h1 f1 Q (m_refuse UM.rf w.nm rx rn hQ)) (fun r u1 u g' a b c d => hQ r u1 u g' a b (le.keep c d) c.l d.l)
  by_cases c : 0 ≤ a ∧ a ≤ 9999
  · by_cases t : d 0 0 = 0
    · refine no 6 (by decide) (fun Q q => ?_) (fun h1 f1 Q q => ?_)
      · unfold F_X11_live
        refine x_outside (fun z => absurd c z) (fun _ => ⟨fun _ => ?_, fun z => absurd rfl z⟩)
        rw [e27]
        exact ⟨fun z => absurd t z, fun _ => q⟩
      · unfold F_X12_live
        refine m_isFrom (fun z => absurd c z) (fun _ => ⟨fun _ => ?_, fun z => absurd z (by decide)⟩)
        rw [f1 162 9 (by omega) (by omega) (by omega) (by omega), e9, if_pos t]
        exact ⟨fun z => absurd rfl z, fun _ => q⟩
    · obtain ⟨lt, rfl⟩ : ∃ k : Nat, a = k := ⟨a.toNat, by omega⟩
      have d1 : d 0 0 = 1 := by have := wd.1; omega
      have sg : stG3 (g 0 0) (g 0 1) (g 0 2) g := ⟨Int.le_refl _, Int.le_refl _, rfl⟩
      unfold F_X11_live
      refine x_outside (fun z => absurd c z) (fun _ => ⟨fun _ => ?_, fun z => absurd rfl z⟩)
      rw [e27]
      refine ⟨fun _ => s_homes w rfl s.2.1.1.2.1 (s_liveThrough wd dr.1 (Or.inl rfl) w sg s.2.1 (by omega) (fun u ru wu fu u0 u1 u2 h7 e7 => ?_)), fun z => absurd z t⟩
      have sm : SameF g (lvRun d g lt).1 := lv_same lvF 0 g (fun _ => 0) 0 0 lt
      have hi := hs_in wu
      have hi0 := hs_in w
      have ws2 := wu.1
      unfold WFs at ws2
      have c7 : h7 12 5 = (lvRun d g lt).1 0 5 := by rw [e7, mset_i _ (by omega)]; exact ru.2
      rw [c7, s.2.1.2]
      refine ⟨⟨by omega, by omega⟩, fun h9 e9' => ?_⟩
      have c9 : h9 12 6 = (lvRun d g lt).1 0 8 := by rw [e9', mset_i _ (by omega), e7, mset_i _ (by omega)]; exact ru.1.1.2.2.2.2.2
      rw [c9, s.2.1.1.1.2.2.2.2.2]
      refine ⟨⟨by omega, by omega⟩, fun h11 e11 => ?_⟩
      have r11 : RC h11 12 (lvRun d g lt).1 := by rw [e11, e9', e7]; exact ((ru.sto (by omega)).sto (by omega)).sto (by omega)
      refine s_homes wu rfl r11.1.2.1 ⟨⟨by omega, by omega⟩, fun h15 e15 h16 e16 h17 e17 => ?_⟩
      have r17 : RC h17 12 (lvRun d g lt).1 := by rw [e17, e16, e15]; exact ((r11.sto (by omega)).sto (by omega)).sto (by omega)
      have f17 : ∀ i k, i ≠ 145 → ¬ (i = 0 ∧ k = 16) → h17 i k = u i k := fun i k q1 q2 => by
        have : mset h16 0 16 1 i k = h16 i k := by unfold mset; rw [if_neg q2]
        rw [e17, this, e16, mset_i _ q1, e15, mset_i _ q1, e11, mset_i _ q1, e9', mset_i _ q1, e7, mset_i _ q1]
      have k78 : h17 78 0 = (lvRun d g lt).2.1 := (f17 78 0 (by omega) (by omega)).trans u0
      rw [k78]
      intro h18 e18
      have k15 : h15 78 2 = (lvRun d g lt).2.2.2 := by rw [e15, mset_i _ (by omega), e11, mset_i _ (by omega), e9', mset_i _ (by omega), e7, mset_i _ (by omega)]; exact u2
      have t145 : h18 145 0 = (lvRun d g lt).2.2.1 ∧ h18 145 1 = (lvRun d g lt).1 0 5 - g 0 5 ∧ h18 145 2 = (lvRun d g lt).1 0 8 - g 0 8 ∧ h18 145 3 = hs (lvRun d g lt).1 - hs g ∧ h18 145 4 = (lvRun d g lt).2.2.2 := by
        rw [e18, mset_i _ (by omega), mset_i _ (by omega), mset_i _ (by omega), mset_i _ (by omega), mset_i _ (by omega), e17, mset_i _ (by omega), mset_i _ (by omega), mset_i _ (by omega), mset_i _ (by omega), mset_i _ (by omega), e16]
        refine ⟨?_, ?_, ?_, ?_, ?_⟩
        · rw [mset_k (by omega), e15, mset_k (by omega), e11, mset_k (by omega), e9', mset_k (by omega), e7, mset_at]; exact u1
        · rw [mset_k (by omega), e15, mset_k (by omega), e11, mset_k (by omega), e9', mset_at]
        · rw [mset_k (by omega), e15, mset_k (by omega), e11, mset_at]
        · rw [mset_k (by omega), e15, mset_at]
        · rw [mset_at]; exact k15
      have uxl : UXl h h18 := fun i k q1 q2 q3 q4 => by
        have : mset h17 0 0 0 i k = h17 i k := by unfold mset; rw [if_neg (by omega)]
        rw [e18, this, f17 i k (by omega) (by omega)]
        exact fu i k (by omega) (by omega) (by omega)
      have rx18 : RXh h18 g := s.2.2.1.fr w.nm.1 w.nm.2 (fun k _ => uxl 162 k (by omega) (by omega) (by omega) (by omega))
      have rn18 : RN h18 g := s.2.2.2.1.fr (fun k => uxl 163 k (by omega) (by omega) (by omega) (by omega))
      have rd18 : RDm h18 0 d := dr.2.fr d60 (fun k _ => uxl 162 k (by omega) (by omega) (by omega) (by omega))
      have r18 : RC h18 12 (lvRun d g lt).1 := by rw [e18]; exact r17.fr (lo := 0) (hi := 1) (Fr.rf.st (by omega) (by omega)) (by omega)
      have m9 : h18 162 9 = d 0 2 := by rw [uxl 162 9 (by omega) (by omega) (by omega) (by omega), e9, if_neg t]
      have s18 : h18 0 0 = 0 := by rw [e18, mset_at]
      have l18 : h18 0 16 = 1 := by rw [e18, mset_k (by omega), e17, mset_at]
      unfold F_X12_live
      refine m_isFrom (fun z => absurd c z) (fun _ => ⟨fun _ => ?_, fun z => absurd z (by decide)⟩)
      rw [m9]
      have c0 := wd.2.2.2.1
      refine ⟨fun _ => q_livesAll wd rd18 d1 w sg rx18 (by omega) (fun v lt' wv zv => ?_), fun z => absurd z (by omega)⟩
      obtain ⟨z0, z1, z2, z3, z4, z5, z6, z7, z8⟩ := zv
      have copy : ∀ (m i : Nat) (z : Int) (x : Mem), z = (i : Int) → i + m = 5 → (∀ k, k < i → x 180 k = v 179 k) → (∀ i k, i ≠ 180 → x i k = v i k) → L_X12_live_43 x z (fun r2 h2 => Q (lvRun d g lt).2.1 r2 h2) := by
        intro m
        induction m with
        | zero =>
          intro i z x hz hi row fx
          subst hz
          obtain rfl : i = 5 := by omega
          refine l_X12_live_43 ?_
          unfold B_X12_live_43
          refine ⟨fun _ h10 e10 => ?_, fun q => absurd (by omega) q⟩
          have k38 : h10 161 38 = (lvRun d g lt).2.1 := by rw [e10, mset_k (by omega), fx 161 38 (by omega)]; exact z2
          rw [k38]
          intro h11' e11'
          have f11 : ∀ i k, i ≠ 180 → ¬ (i = 161 ∧ (k = 2 ∨ k = 42)) → h11' i k = v i k := fun i k q1 q2 => by
            have e1 : mset h10 161 2 0 i k = h10 i k := by unfold mset; rw [if_neg (by omega)]
            have e2 : mset x 161 42 1 i k = x i k := by unfold mset; rw [if_neg (by omega)]
            rw [e11', e1, e10, e2, fx i k q1]
          have uml : UMl h18 h11' := fun i k q1 q2 q3 q4 => by
            rw [f11 i k (by omega) (by omega)]
            exact z8 i k (by omega) (by omega) (by omega) (by omega)
          refine hQ _ h18 h11' (lvRun d g lt).1 ⟨wu, ?_, z0.fr wv.nm.1 wv.nm.2 (fun k _ => f11 162 k (by omega) (by omega)), rn18.same sm (fun k => (f11 163 k (by omega) (by omega)).trans (z8 163 k (by omega) (by omega) (by omega) (by omega))), ?_⟩ (Mo.eq (fun i hi => sm.1 i (by omega))) ⟨?_, fun _ i hi2 => ?_⟩ uxl uml
          · exact r18.eq (fun i q1 q2 k => uml i k (by omega) (by omega) (by omega) (by omega))
          · rw [uml 0 0 (by omega) (by omega) (by omega) (by omega), s18, e11', mset_at]
          · rw [uml 0 16 (by omega) (by omega) (by omega) (by omega), l18, e11', mset_k (by omega), e10, mset_at]
          · have e145 : h11' 145 i = h18 145 i := uml 145 i (by omega) (by omega) (by omega) (by omega)
            have e180 : h11' 180 i = v 179 i := by
              rw [e11', mset_i _ (by omega), e10, mset_i _ (by omega)]
              exact row i hi2
            rw [e145, e180]
            obtain ⟨t0, t1, t2, t3, t4⟩ := t145
            have ci : i = 0 ∨ i = 1 ∨ i = 2 ∨ i = 3 ∨ i = 4 := by omega
            rcases ci with rfl | rfl | rfl | rfl | rfl
            · exact t0.trans z3.symm
            · exact t1.trans z4.symm
            · exact t2.trans z5.symm
            · exact t3.trans z6.symm
            · exact t4.trans z7.symm
        | succ m ih =>
          intro i z x hz hi row fx
          subst hz
          refine l_X12_live_43 ?_
          unfold B_X12_live_43
          rw [Int.toNat_natCast]
          refine ⟨fun q => absurd q (by omega), fun _ => ⟨⟨by omega, by omega⟩, fun h15' e15' => ⟨⟨by omega, by omega⟩, ?_⟩⟩⟩
          subst e15'
          refine ih (i + 1) _ _ (by omega) (by omega) (fun k hk => ?_) (fun i k q => (mset_i k q).trans (fx i k q))
          by_cases ck : k = i
          · subst ck; rw [mset_at]; exact fx 179 k (by omega)
          · rw [mset_k ck]; exact row k (by omega)
      exact copy 5 0 0 v rfl (by omega) (fun k hk => absurd hk (by omega)) (fun _ _ _ => rfl)
  · refine no 1 (by decide) (fun Q q => ?_) (fun h1 f1 Q q => ?_)
    · unfold F_X11_live
      exact x_outside (fun _ => ⟨fun z => absurd z (by decide), fun _ => q⟩) (fun z => absurd z c)
    · unfold F_X12_live
      exact m_isFrom (fun _ => ⟨fun z => absurd rfl z, fun _ => q⟩) (fun z => absurd z c)
theorem k_lived {h : Mem} {g : Gs} {a : Int} (s : G2 h g) (le : LvE h) {Q : Int → Int → Mem → Prop} (hQ : ∀ r u1 u g', G2 u g' → Mo g g' → UX h u1 → UM u1 u → Q r r u) : F_X11_lived h a (fun r1 h1 => F_X12_lived h1 a (fun r2 h2 => Q r1 r2 h2)) := by
  have w := s.1
  have e4 : ((5 : Nat) : Int) - 1 = 4 := rfl
  by_cases c : 0 ≤ a ∧ a ≤ 4
  · by_cases l : h 0 16 = 0
    · refine Kp.mk3 (FX := F_X11_lived h a) (FM := fun h1 => F_X12_lived h1 a) (g' := g) (st := 6) (r := -1) s w (fun Q hQ => ?_) (fun h1 f1 rx rn Q hQ => ?_) hQ
      · unfold F_X11_lived
        rw [e4]
        exact ⟨⟨by omega, by omega⟩, x_outside (fun z => absurd c z) (fun _ => ⟨fun _ => ⟨fun _ => x_refused UX.rf s.2.1 hQ, fun z => absurd l z⟩, fun z => absurd rfl z⟩)⟩
      · unfold F_X12_lived
        rw [f1 161 42 (by omega) (by omega) (by omega) (by omega), ← le.1]
        exact ⟨fun z => absurd z (by omega), fun _ => ⟨fun _ => ⟨fun _ => m_refuse UM.rf w.nm rx rn hQ, fun z => absurd l z⟩, fun z => absurd c.2 z⟩⟩
    · refine Kp.mk3 (FX := F_X11_lived h a) (FM := fun h1 => F_X12_lived h1 a) (g' := g) (st := 0) (r := h 145 a.toNat) s w (fun Q hQ => ?_) (fun h1 f1 rx rn Q hQ => ?_) hQ
      · unfold F_X11_lived
        rw [e4]
        exact ⟨⟨by omega, by omega⟩, x_outside (fun z => absurd c z) (fun _ => ⟨fun _ => ⟨fun z => absurd z l, fun _ => ⟨⟨by omega, by omega⟩, x_given UX.rf s.2.1 hQ⟩⟩, fun z => absurd rfl z⟩)⟩
      · unfold F_X12_lived
        rw [f1 161 42 (by omega) (by omega) (by omega) (by omega), ← le.1, f1 180 a.toNat (by omega) (by omega) (by omega) (by omega), ← le.2 l a.toNat (by omega)]
        exact ⟨fun z => absurd z (by omega), fun _ => ⟨fun _ => ⟨fun z => absurd z l, fun _ => ⟨⟨by omega, by omega⟩, m_gives UM.rf w.nm rx rn hQ⟩⟩, fun z => absurd c.2 z⟩⟩
  · refine Kp.mk3 (FX := F_X11_lived h a) (FM := fun h1 => F_X12_lived h1 a) (g' := g) (st := 1) (r := -1) s w (fun Q hQ => ?_) (fun h1 f1 rx rn Q hQ => ?_) hQ
    · unfold F_X11_lived
      rw [e4]
      exact ⟨⟨by omega, by omega⟩, x_outside (fun _ => ⟨fun z => absurd z (by decide), fun _ => x_refused UX.rf s.2.1 hQ⟩) (fun z => absurd z c)⟩
    · have no : F_X12_refuse h1 1 Q := m_refuse UM.rf w.nm rx rn hQ
      unfold F_X12_lived
      exact ⟨fun _ => no, fun q1 => ⟨fun q2 => absurd ⟨by omega, q2⟩ c, fun _ => no⟩⟩
