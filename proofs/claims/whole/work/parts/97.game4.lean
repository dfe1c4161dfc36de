/-! game: x plays -/
def gV (g : Gs) (a b : Nat) (T : Int) (w : Nat) : Int := if T = 1 then ld a b g (gaf g w) else R2 g (gaf g w) a b
theorem pass_10u {g : Gs} {m : Nat} : ∀ (k : Nat) (g : Gs), passN k g 10 m ≤ g 10 m + k := by
  intro k
  induction k with
  | zero => intro g; show g 10 m ≤ g 10 m + ((0 : Nat) : Int); omega
  | succ k ih =>
    intro g
    have q1 := ih (pass g)
    have q2 := pass_10 (g := g) (m := m)
    show passN k (pass g) 10 m ≤ g 10 m + ((k + 1 : Nat) : Int)
    omega
theorem gaf_10 {g : Gs} {w m : Nat} : g 10 m ≤ gaf g w 10 m ∧ gaf g w 10 m ≤ g 10 m + 6 := by
  have e : gmv g w 10 m = g 10 m := by
    unfold gmv
    split
    · exact tset_n (by omega)
    · rfl
  have q1 := passN_10 (m := m) 6 (gmv g w)
  have q2 := pass_10u (g := g) (m := m) 6 (gmv g w)
  rw [e] at q1 q2
  exact ⟨q1, q2⟩
theorem gV_lo {g : Gs} {a b : Nat} {T : Int} {w : Nat} : -100 < gV g a b T w := by
  have a1 := gaf_10 (g := g) (w := w) (m := a)
  have b1 := gaf_10 (g := g) (w := w) (m := b)
  unfold gV
  by_cases c : T = 1
  · rw [if_pos c]
    unfold ld
    omega
  · rw [if_neg c]
    obtain ⟨⟨x, x1, x2, x3⟩, -⟩ := R2_is g (gaf g w) a b
    rw [x3]
    have a2 := gaf_10 (g := gaf g w) (w := x) (m := a)
    have b2 := gaf_10 (g := gaf g w) (w := x) (m := b)
    unfold val2 ld
    omega
def cR (g : Gs) (p q r : Int) (s : Int × Int) : Prop := (s.2 = -1 ∧ p = -100 ∧ q = -1 ∧ r = -1) ∨ ∃ w : Nat, w ≤ gW g ∧ s.2 = (w : Int) ∧ p = s.1 ∧ ((w < gW g ∧ q = ((w / (g 0 2).toNat : Nat) : Int) ∧ r = ((w % (g 0 2).toNat : Nat) : Int)) ∨ (w = gW g ∧ q = -1 ∧ r = -1))
def atW (g : Gs) (w : Nat) (x y : Int) : Prop := (w < gW g ∧ x = ((w / (g 0 2).toNat : Nat) : Int) ∧ y = ((w % (g 0 2).toNat : Nat) : Int)) ∨ (w = gW g ∧ x = -1 ∧ y = -1)
theorem cR_step {g : Gs} {a b : Nat} {T : Int} {w : Nat} {p q r p' q' r' x y : Int} {s : Int × Int} (c : cR g p q r s) (ok : gokB g w = true) (hw : atW g w x y) (h1 : gV g a b T w ≤ p → p' = p ∧ q' = q ∧ r' = r) (h2 : p < gV g a b T w → p' = gV g a b T w ∧ q' = x ∧ r' = y) : cR g p' q' r' (fS 0 (gV g a b T) (gokB g) w s) := by
  have lo := gV_lo (g := g) (a := a) (b := b) (T := T) (w := w)
  have wl : w ≤ gW g := by unfold atW at hw; omega
  by_cases z : gV g a b T w ≤ p
  · obtain ⟨e1, e2, e3⟩ := h1 z
    rcases c with ⟨c1, c2, c3⟩ | ⟨v, c1, c2, c3, c4⟩
    · omega
    · have e : fS 0 (gV g a b T) (gokB g) w s = s := by
        unfold fS
        rw [if_neg (by rintro ⟨-, k | k | k⟩ <;> omega)]
      rw [e, e1, e2, e3]
      exact Or.inr ⟨v, c1, c2, c3, c4⟩
  · obtain ⟨e1, e2, e3⟩ := h2 (by omega)
    have e : fS 0 (gV g a b T) (gokB g) w s = (gV g a b T w, (w : Int)) := by
      unfold fS
      refine if_pos ⟨ok, ?_⟩
      rcases c with ⟨c1, c2, c3⟩ | ⟨v, c1, c2, c3, c4⟩
      · exact Or.inl c1
      · exact Or.inr (Or.inl ⟨rfl, by omega⟩)
    rw [e, e1, e2, e3]
    exact Or.inr ⟨w, wl, rfl, rfl, hw⟩
def GP (h : Mem) (g : Gs) (a b : Nat) (T : Int) (v : Mem) (s : Int × Int) : Prop := RC v 12 g ∧ UX h v ∧ (∃ g1, RC v 48 g1 ∧ SameF g g1) ∧ (∃ g2, RC v 63 g2 ∧ SameF g g2) ∧ GO v a b T ∧ cR g (v 47 0) (v 47 1) (v 47 2) s
theorem s_weighMove {h v : Mem} {g : Gs} {a b w0 : Nat} {T x y : Int} {s : Int × Int} {Q : Mem → Prop} (w : WF 9999 g) (ha : a < gm g) (hb : b < gm g) (hT : T = 1 ∨ T = 2) (gp : GP h g a b T v s) (ok : gokB g w0 = true) (hw : atW g w0 x y) (hQ : ∀ u, GP h g a b T u (fS 0 (gV g a b T) (gokB g) w0 s) → Q u) : F_X3_weighMove v x y Q := by
  obtain ⟨r12, fx, ⟨g1, r48, s48⟩, ⟨g2, r63, s63⟩, go, cr⟩ := gp
  have fin : ∀ (z : Mem) (r : Int) (g3 : Gs), RC z 12 g → UX h z → RC z 48 (gaf g w0) → RC z 63 g3 → SameF g g3 → GO z a b T → (∀ k, z 47 k = v 47 k) → (v 47 0 < gV g a b T w0 → r = gV g a b T w0) → (gV g a b T w0 ≤ v 47 0 → r ≤ v 47 0) →
      ((r ≤ z 47 0 → Q z) ∧ (¬ (r ≤ z 47 0) → (∀ h6 : Mem, h6 = mset z 47 0 r → (∀ h7 : Mem, h7 = mset h6 47 1 x → (∀ h8 : Mem, h8 = mset h7 47 2 y → Q h8))))) := by
    intro z r g3 z12 zx z48 z63 zs zo e47 v1 v2
    rw [e47 0]
    refine ⟨fun c => hQ z ⟨z12, zx, ⟨_, z48, gaf_same⟩, ⟨g3, z63, zs⟩, zo, ?_⟩, fun c h6 e6 h7 e7 h8 e8 => hQ h8 ?_⟩
    · rw [e47 0, e47 1, e47 2]
      exact cR_step cr ok hw (fun _ => ⟨rfl, rfl, rfl⟩) (fun q => by have := v1 q; omega)
    · have c2 : v 47 0 < gV g a b T w0 := by
        rcases Int.lt_or_le (v 47 0) (gV g a b T w0) with q | q
        · exact q
        · exact absurd (v2 q) c
      have er := v1 c2
      subst e8 e7 e6
      refine ⟨((z12.sto (by omega)).sto (by omega)).sto (by omega), ((zx.sto (by omega)).sto (by omega)).sto (by omega), ⟨_, ((z48.sto (by omega)).sto (by omega)).sto (by omega), gaf_same⟩, ⟨g3, ((z63.sto (by omega)).sto (by omega)).sto (by omega), zs⟩, ?_, ?_⟩
      · exact zo.fr (fun k hk => by rw [mset_k (by omega), mset_k (by omega), mset_k (by omega)])
      · rw [mset_k (by omega), mset_k (by omega), mset_at, mset_k (by omega), mset_at, mset_at]
        exact cR_step cr ok hw (fun q => absurd c2 (by omega)) (fun _ => ⟨er, rfl, rfl⟩)
  unfold F_X3_weighMove
  refine ⟨12, go.1, rfl, s_takeTurn (p := 12) (q := 48) (w := w0) (by omega) rfl w (by omega) s48 r48 r12 (by unfold atW at hw; unfold gW at hw; omega) (fun u ru fu => ?_)⟩
  have u12 : RC u 12 g := r12.fr fu (by omega)
  have ux : UX h u := fx.tr (UX.fr fu (by omega))
  have u63 : RC u 63 g2 := r63.fr fu (by omega)
  have uo : GO u a b T := go.fr (fun k _ => fu 47 (by omega) k)
  have wg := WF.afd (w := w0) w
  have eg : gm (gaf g w0) = gm g := by
    have q := gaf_same (g := g) (w := w0)
    unfold gm
    rw [q.1 1 (by omega)]
  have u6 : u 47 6 = T := uo.2.2.2
  rw [u6]
  refine ⟨fun c => ?_, fun c => ?_⟩
  · refine s_worstReply w (wg.wd (by have := wg.1; unfold WFs at this; omega)) gaf_same ha hb uo u12 ru u63 (gaf_same.two s63) (fun r z g3 z63 zs fz v1 v2 => ?_)
    have eV : gV g a b T w0 = R2 g (gaf g w0) a b := by unfold gV; rw [if_neg c]
    have e47 : ∀ k, z 47 k = v 47 k := fun k => (fz 47 (by omega) k).trans (fu 47 (by omega) k)
    rw [← eV] at v1 v2
    rw [fu 47 (by omega) 0] at v1 v2
    exact fin z r g3 (u12.fr fz (by omega)) (ux.tr (UX.fr fz (by omega))) (ru.fr fz (by omega)) z63 (gaf_same.tr zs) (uo.fr (fun k _ => fz 47 (by omega) k)) e47 v1 v2
  · refine s_leadIn uo w wg (by omega) eg u12 ru ha hb ?_
    have eV : gV g a b T w0 = ld a b g (gaf g w0) := by unfold gV; rw [if_pos c]
    rw [← eV]
    exact fin u (gV g a b T w0) g2 u12 ux ru u63 s63 uo (fun k => fu 47 (by omega) k) (fun _ => rfl) (fun q => q)
theorem s_play {h : Mem} {g : Gs} {a b : Nat} {T : Int} {Q : Mem → Prop} (w : WF 9999 g) (ha : a < gm g) (hb : b < gm g) (hT : T = 0 ∨ T = 1 ∨ T = 2) (r12 : RC h 12 g) (hQ : ∀ u, RC u 12 g → UX h u → (T = 0 → u 47 0 = 0) → (T ≠ 0 → cR g (u 47 0) (u 47 1) (u 47 2) (fG 0 (gV g a b T) (gokB g) (gW g + 1) 0 (0, -1))) → Q u) : F_X3_play h 12 (a : Int) (b : Int) T Q := by
  obtain ⟨n8, nc⟩ := gn8 w
  have ws := w.1
  unfold WFs at ws
  have hL : 0 < (g 0 2).toNat := by omega
  unfold F_X3_play
  intro h1 e1 h2 e2 h3 e3 h4 e4
  refine ⟨fun c h5 e5 h6 e6 h7 e7 => ⟨fun _ => ?_, fun q => absurd q c⟩, fun c h14 e14 h15 e15 h16 e16 => ⟨fun q => absurd c q, fun _ => ?_⟩⟩
  · have hT2 : T = 1 ∨ T = 2 := by omega
    generalize hRe : fG 0 (gV g a b T) (gokB g) (gW g + 1) 0 (0, -1) = R at hQ
    have inner : ∀ (t : Nat), t < gn g → ∀ (d c : Nat) (z : Int) (v : Mem) (s : Int × Int), z = (c : Int) → (c : Int) + d = g 0 2 → GP h g a b T v s → fG 0 (gV g a b T) (gokB g) (gW g + 1 - (c + t * (g 0 2).toNat)) (c + t * (g 0 2).toNat) s = R →
        (∀ v s, GP h g a b T v s → fG 0 (gV g a b T) (gokB g) (gW g + 1 - (t + 1) * (g 0 2).toNat) ((t + 1) * (g 0 2).toNat) s = R → L_X3_play_77 v ((t : Int) + 1) Q) → L_X3_play_95 v (t : Int) z Q := by
      intro t ht d
      induction d with
      | zero =>
        intro c z v s hz hi gp hp K
        subst hz
        refine l_X3_play_95 ?_
        unfold B_X3_play_95
        have e0 : v 12 0 = g 0 2 := gp.1.1.1.1
        have es : (t + 1) * (g 0 2).toNat = t * (g 0 2).toNat + (g 0 2).toNat := Nat.succ_mul _ _
        have ec : c + t * (g 0 2).toNat = (t + 1) * (g 0 2).toNat := by omega
        rw [ec] at hp
        exact ⟨12, gp.2.2.2.2.1.1, rfl, fun _ => ⟨⟨by omega, by omega⟩, K v s gp hp⟩, fun q => absurd (by omega) q⟩
      | succ d ih =>
        intro c z v s hz hi gp hp K
        subst hz
        refine l_X3_play_95 ?_
        unfold B_X3_play_95
        have e0 : v 12 0 = g 0 2 := gp.1.1.1.1
        obtain ⟨p1, p2, p3, p4, p5⟩ := gpos (g := g) (t := t) (c := c) hL (by omega) ht
        refine ⟨12, gp.2.2.2.2.1.1, rfl, fun q => absurd q (by omega), fun _ => ⟨12, gp.2.2.2.2.1.1, rfl, s_isFree (o := 13) gp.1.1.2.1 rfl ht n8 (fun fr => ⟨fun q => absurd q (by decide), fun _ => ?_⟩) (fun fr => ⟨fun _ => ⟨⟨by omega, by omega⟩, K v s gp ?_⟩, fun q => absurd rfl q⟩)⟩⟩
        · have ok := (gok_in (g := g) (t := t) (c := c) hL (by omega) ht).mpr fr
          refine s_weighMove w ha hb hT2 gp ok (Or.inl ⟨p3, by rw [p1], by rw [p2]⟩) (fun u gu => ⟨⟨by omega, by omega⟩, ih (c + 1) _ u _ (by omega) (by omega) gu ?_ K⟩)
          have ek : gW g + 1 - (c + t * (g 0 2).toNat) = (gW g + 1 - (c + 1 + t * (g 0 2).toNat)) + 1 := by omega
          rw [ek] at hp
          have hp2 : fG 0 (gV g a b T) (gokB g) (gW g + 1 - (c + 1 + t * (g 0 2).toNat)) (c + t * (g 0 2).toNat + 1) (fS 0 (gV g a b T) (gokB g) (c + t * (g 0 2).toNat) s) = R := hp
          rw [show c + t * (g 0 2).toNat + 1 = c + 1 + t * (g 0 2).toNat by omega] at hp2
          exact hp2
        · have ek : gW g + 1 - (c + t * (g 0 2).toNat) = (d + 1) + (gW g + 1 - (t + 1) * (g 0 2).toNat) := by omega
          rw [ek, fG_app, fG_skip (d + 1) _ s (fun x x1 x2 => ?_)] at hp
          · rw [show c + t * (g 0 2).toNat + (d + 1) = (t + 1) * (g 0 2).toNat by omega] at hp
            exact hp
          · obtain ⟨c2, hc2, rfl⟩ : ∃ c2, c2 < (g 0 2).toNat ∧ x = c2 + t * (g 0 2).toNat := ⟨x - t * (g 0 2).toNat, by omega, by omega⟩
            have no : ¬ gokB g (c2 + t * (g 0 2).toNat) = true := fun q => fr ((gok_in hL hc2 ht).mp q)
            cases hk : gokB g (c2 + t * (g 0 2).toNat) with
            | false => rfl
            | true => exact absurd hk no
    have outer : ∀ (d t : Nat) (z : Int) (v : Mem) (s : Int × Int), z = (t : Int) → t + d = gn g → GP h g a b T v s → fG 0 (gV g a b T) (gokB g) (gW g + 1 - t * (g 0 2).toNat) (t * (g 0 2).toNat) s = R → L_X3_play_77 v z Q := by
      intro d
      induction d with
      | zero =>
        intro t z v s hz hi gp hp
        subst hz
        refine l_X3_play_77 ?_
        unfold B_X3_play_77
        have e0 : v (12 + 1) 0 = g 0 0 := gp.1.1.2.1.1
        have et : t = gn g := by omega
        subst et
        have ek : gW g + 1 - gn g * (g 0 2).toNat = 1 := by show gW g + 1 - gW g = 1; omega
        rw [ek] at hp
        have hp2 : fS 0 (gV g a b T) (gokB g) (gW g) s = R := hp
        refine ⟨12, gp.2.2.2.2.1.1, rfl, fun _ => s_weighMove w ha hb hT2 gp (gok_end (Nat.le_refl _)) (Or.inr ⟨rfl, rfl, rfl⟩) (fun u gu => ?_), fun q => absurd (by omega) q⟩
        rw [hp2] at gu
        exact hQ u gu.1 gu.2.1 (fun q => absurd q c) (fun _ => gu.2.2.2.2.2)
      | succ d ih =>
        intro t z v s hz hi gp hp
        subst hz
        refine l_X3_play_77 ?_
        unfold B_X3_play_77
        have e0 : v (12 + 1) 0 = g 0 0 := gp.1.1.2.1.1
        exact ⟨12, gp.2.2.2.2.1.1, rfl, fun q => absurd q (by omega), fun _ => inner t (by omega) (g 0 2).toNat 0 0 v s rfl (by omega) gp (by rw [Nat.zero_add]; exact hp) (fun v2 s2 gp2 hp2 => ih (t + 1) _ v2 s2 (by omega) (by omega) gp2 hp2)⟩
    have r7 : RC h7 12 g := by
      rw [e7, e6, e5, e4, e3, e2, e1]
      exact ((((((r12.sto (by omega)).sto (by omega)).sto (by omega)).sto (by omega)).sto (by omega)).sto (by omega)).sto (by omega)
    have x7 : UX h h7 := by
      rw [e7, e6, e5, e4, e3, e2, e1]
      exact ((((((UX.rf.sto (by omega)).sto (by omega)).sto (by omega)).sto (by omega)).sto (by omega)).sto (by omega)).sto (by omega)
    have o7 : GO h7 a b T := by
      unfold GO
      rw [e7, e6, e5, e4, e3, e2, e1]
      refine ⟨?_, ?_, ?_, ?_⟩
      · rw [mset_k (by omega), mset_k (by omega), mset_k (by omega), mset_k (by omega), mset_k (by omega), mset_k (by omega), mset_at]; rfl
      · rw [mset_k (by omega), mset_k (by omega), mset_k (by omega), mset_k (by omega), mset_k (by omega), mset_at]
      · rw [mset_k (by omega), mset_k (by omega), mset_k (by omega), mset_k (by omega), mset_at]
      · rw [mset_k (by omega), mset_k (by omega), mset_k (by omega), mset_at]
    have c7 : h7 47 0 = -100 ∧ h7 47 1 = -1 ∧ h7 47 2 = -1 := by
      rw [e7, e6, e5]
      refine ⟨?_, ?_, mset_at⟩
      · rw [mset_k (by omega), mset_k (by omega), mset_at]
      · rw [mset_k (by omega), mset_at]
    refine ⟨12, o7.1, rfl, s_copyG (o := 48) (p := 12) (by omega) r7 w.nm.1 w.nm.2 (fun v1 rv1 fv1 => ⟨12, (fv1 47 (by omega) 3).trans o7.1, rfl, s_copyG (o := 63) (p := 12) (by omega) (r7.fr fv1 (by omega)) w.nm.1 w.nm.2 (fun v2 rv2 fv2 => ?_)⟩)⟩
    refine outer (gn g) 0 0 v2 (0, -1) rfl (by omega) ⟨(r7.fr fv1 (by omega)).fr fv2 (by omega), (x7.tr (UX.fr fv1 (by omega))).tr (UX.fr fv2 (by omega)), ⟨g, rv1.fr fv2 (by omega), SameF.rf⟩, ⟨g, rv2, SameF.rf⟩, o7.fr (fun k _ => (fv2 47 (by omega) k).trans (fv1 47 (by omega) k)), Or.inl ⟨rfl, ?_, ?_, ?_⟩⟩ (by rw [Nat.zero_mul]; exact hRe)
    · rw [fv2 47 (by omega), fv1 47 (by omega)]; exact c7.1
    · rw [fv2 47 (by omega), fv1 47 (by omega)]; exact c7.2.1
    · rw [fv2 47 (by omega), fv1 47 (by omega)]; exact c7.2.2
  · have r7 : RC h16 12 g := by
      rw [e16, e15, e14, e4, e3, e2, e1]
      exact ((((((r12.sto (by omega)).sto (by omega)).sto (by omega)).sto (by omega)).sto (by omega)).sto (by omega)).sto (by omega)
    have x7 : UX h h16 := by
      rw [e16, e15, e14, e4, e3, e2, e1]
      exact ((((((UX.rf.sto (by omega)).sto (by omega)).sto (by omega)).sto (by omega)).sto (by omega)).sto (by omega)).sto (by omega)
    exact hQ h16 r7 x7 (fun _ => by rw [e16, e15, e14, mset_k (by omega), mset_k (by omega), mset_at]) (fun q => absurd c q)
