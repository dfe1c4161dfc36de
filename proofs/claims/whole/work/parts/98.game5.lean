/-! game: the reference plays -/
def Sn (g : Gs) (l : Nat) (v : Mem) : Prop := ∀ z : Mem, (∀ k, k < 80 → z 162 k = v 162 (2688 + 80 * l + k)) → RXh z g
theorem Sn.fr {g : Gs} {l : Nat} {v u : Mem} (s : Sn g l v) (f : ∀ k, 2688 + 80 * l ≤ k → k < 2768 + 80 * l → u 162 k = v 162 k) : Sn g l u := fun z hz => s z (fun k hk => by rw [hz k hk, f _ (by omega) (by omega)])
theorem q_lev {h : Mem} {l : Nat} {x : Int} {Q : Int → Mem → Prop} (hx : x = (l : Int)) (hl : l ≤ 2) (hQ : Q ((2688 + 80 * l : Nat) : Int) h) : F_X12_levelAt h x Q := by
  subst hx
  unfold F_X12_levelAt
  have e : 2688 + 80 * (l : Int) = ((2688 + 80 * l : Nat) : Int) := by omega
  rw [e]
  exact ⟨⟨by omega, by omega⟩, ⟨by omega, by omega⟩, hQ⟩
def rlS (l : Nat) (v : Mem) (s : Int × Int) : Prop := v 176 l = s.2 ∧ (s.2 ≠ -1 → v 175 l = s.1)
theorem q_settles {h : Mem} {l w : Nat} {x its : Int} {v : Nat → Int} {o : Nat → Bool} {s : Int × Int} {Q : Mem → Prop} (hx : x = (l : Int)) (hl : l = 0 ∨ l = 1) (r : rlS l h s) (e174 : h 174 l = (w : Int)) (ok : o w = true) (hv : its = v w) (hQ : ∀ u, rlS l u (fS l v o w s) → (∀ i k, ¬ ((i = 175 ∨ i = 176) ∧ k = l) → u i k = h i k) → Q u) : F_X12_settles h x its Q := by
  subst hx hv
  have yes : (s.2 = -1 ∨ (l = 0 ∧ s.1 < v w) ∨ (l ≠ 0 ∧ v w < s.1)) → J_X12_settles_50 h (l : Int) (v w) Q := fun c => by
    unfold J_X12_settles_50
    refine ⟨⟨by omega, by omega⟩, fun h6 e6 h8 e8 => ?_⟩
    rw [Int.toNat_natCast] at e6 e8
    have q : h6 174 l = (w : Int) := by rw [e6, mset_i _ (by omega)]; exact e174
    rw [q] at e8
    have e : fS l v o w s = (v w, (w : Int)) := by unfold fS; rw [if_pos ⟨ok, c⟩]
    refine hQ h8 ⟨?_, fun _ => ?_⟩ (fun i k c => ?_)
    · rw [e, e8, mset_at]
    · rw [e, e8, mset_i _ (by omega), e6, mset_at]
    · rw [e8, e6]
      unfold mset
      rw [if_neg (by omega), if_neg (by omega)]
  have no : ¬ (s.2 = -1 ∨ (l = 0 ∧ s.1 < v w) ∨ (l ≠ 0 ∧ v w < s.1)) → Q h := fun c => by
    have e : fS l v o w s = s := by unfold fS; rw [if_neg (fun z => c z.2)]
    exact hQ h (by rw [e]; exact r) (fun _ _ _ => rfl)
  unfold F_X12_settles
  rw [Int.toNat_natCast, r.1]
  refine ⟨⟨by omega, by omega⟩, fun c => ?_, fun c => yes (Or.inl c)⟩
  rw [r.2 c]
  rcases hl with rfl | rfl
  · have e : (((0 : Nat) : Int) : Int).tmod 2 = 0 := rfl
    rw [e]
    exact ⟨fun z => absurd rfl z, fun _ => ⟨fun c2 => yes (Or.inr (Or.inl ⟨rfl, c2⟩)), fun c2 => no (by omega)⟩⟩
  · have e : (((1 : Nat) : Int) : Int).tmod 2 = 1 := rfl
    rw [e]
    exact ⟨fun _ => ⟨fun c2 => yes (Or.inr (Or.inr ⟨by omega, c2⟩)), fun c2 => no (by omega)⟩, fun z => absurd z (by decide)⟩
theorem q_tossesNo {h : Mem} {g : Gs} {t : Nat} {x b : Int} {Q : Int → Mem → Prop} (rx : RXh h g) (hx : x = (t : Int)) (ht : t < gn g) (n8 : gn g ≤ 8) (d : ¬ (g 4 t = 0 ∨ g 4 t = 3)) (hQ : Q 0 h) : F_X12_tosses h x b Q := by
  subst hx
  unfold F_X12_tosses
  exact q_isFree rx.1 rfl ht n8 (fun q => absurd q d) (fun _ => ⟨fun q => absurd rfl q, fun _ => hQ⟩)
theorem q_turn {v : Mem} {g : Gs} {B a b T old l : Int} {w : Nat} {Q : Int → Mem → Prop} (wf : WF B g) (r : RXh v g) (hw : w ≤ gW g) (Kno : gokB g w = false → L_X12_playing_54 v a b T old ((gW g : Nat) : Int) l Q) (Kyes : gokB g w = true → ∀ u, RXh u (gmv g w) → FMh v u → J_X12_playing_154 u a b T old ((gW g : Nat) : Int) l Q) :
    ((((gW g : Nat) : Int) ≤ (w : Int) → J_X12_playing_154 v a b T old ((gW g : Nat) : Int) l Q) ∧ (¬ (((gW g : Nat) : Int) ≤ (w : Int)) → ((v 162 2) ≠ 0 ∧ InR (((w : Int) : Int).tdiv (v 162 2)) ∧ (F_X12_tosses v (((w : Int) : Int).tdiv (v 162 2)) (((w : Int) : Int).tmod (v 162 2)) (fun r28 h27 => ((¬ (r28 = 0) → J_X12_playing_154 h27 a b T old ((gW g : Nat) : Int) l Q) ∧ (r28 = 0 → L_X12_playing_54 h27 a b T old ((gW g : Nat) : Int) l Q))))))) := by
  obtain ⟨n8, nc⟩ := gn8 wf
  have ws := wf.1
  unfold WFs at ws
  have hL : 0 < (g 0 2).toNat := by omega
  refine ⟨fun c => ?_, fun c => ?_⟩
  · have e : gmv g w = g := by unfold gmv; rw [if_neg (by show ¬ w < gW g; omega)]
    exact Kyes (gok_end (by omega)) v (by rw [e]; exact r) FMh.rf
  · have e2 : v 162 2 = (((g 0 2).toNat : Nat) : Int) := by rw [r.1.1 2 (by omega) (by omega)]; omega
    have hlt : w < gn g * (g 0 2).toNat := by show w < gW g; omega
    have ht : w / (g 0 2).toNat < gn g := Nat.div_lt_of_lt_mul (by rw [Nat.mul_comm]; exact hlt)
    rw [e2, ← Int.ofNat_tdiv, ← Int.ofNat_tmod]
    have hz : ∀ n : Nat, n < 100 → InR (n : Int) := fun n hn => ⟨by omega, by omega⟩
    refine ⟨by omega, hz _ (by omega), ?_⟩
    by_cases fr : g 4 (w / (g 0 2).toNat) = 0 ∨ g 4 (w / (g 0 2).toNat) = 3
    · have ok : gokB g w = true := by unfold gokB; exact decide_eq_true (fun _ => fr)
      refine q_tosses r rfl ht n8 wf.nm.2 fr (fun u ru fu => ⟨fun _ => Kyes ok u ?_ fu, fun q => absurd q (by decide)⟩)
      have e : gmv g w = tset g (w / (g 0 2).toNat) 1 ((w % (g 0 2).toNat : Nat) : Int) 0 := by unfold gmv; rw [if_pos hlt]
      rw [e]
      exact ru
    · have ok : gokB g w = false := by unfold gokB; exact decide_eq_false (fun q => fr (q hlt))
      exact q_tossesNo r rfl ht n8 fr ⟨fun q => absurd rfl q, fun _ => Kno ok⟩
theorem q_more {h : Mem} {g : Gs} {B : Int} {a b : Nat} {Q : Int → Mem → Prop} (w : WF B g) (hB : B ≤ 20000) (r : RXh h g) (ha : a < gm g) (hb : b < gm g) (hQ : Q (g 10 a - g 10 b) h) : F_X12_groundMore h (a : Int) (b : Int) Q := by
  have m4 := w.nm.2
  have wa := w.2.2 a ha
  have wb := w.2.2 b hb
  have ws := w.1
  unfold WFm at wa wb
  unfold WFs at ws
  unfold F_X12_groundMore
  refine q_millOf (t := a) (k := 2) rfl rfl (by omega) (by omega) (q_millOf (t := b) (k := 2) rfl rfl (by omega) (by omega) ?_)
  have ea : h 162 (68 + 3 * a + 2) = g 10 a := r.1.2.2 a 2 ha (by omega)
  have eb : h 162 (68 + 3 * b + 2) = g 10 b := r.1.2.2 b 2 hb (by omega)
  rw [ea, eb]
  exact ⟨⟨by omega, by omega⟩, hQ⟩
theorem KP.rs {h0 v u : Mem} (a : KP h0 v) (f : FMh v u) : KP h0 u := a.fm f
theorem q_level1 {h0 v0 : Mem} {g g1 : Gs} {a b : Nat} {Q : Int → Mem → Prop} (w : WF 9999 g) (w1 : WF 10010 g1) (em : gm g1 = gm g) (ha : a < gm g) (hb : b < gm g)
    (K : ∀ u, KP h0 u → (∀ o, 174 ≤ o → o ≤ 176 → u o 0 = v0 o 0) → u 175 1 = R2 g g1 a b → F_X12_settles u 0 (R2 g g1 a b) (fun h33 => L_X12_playing_54 h33 (a : Int) (b : Int) 2 (g 10 a - g 10 b) ((gW g1 : Nat) : Int) 0 Q)) :
    ∀ (d w : Nat) (v : Mem) (s : Int × Int), w + d = gW g1 + 1 → KP h0 v → v 162 2777 = h0 162 9 → Sn g1 1 v → (∀ o, 174 ≤ o → o ≤ 176 → v o 0 = v0 o 0) → v 174 1 = (w : Int) - 1 → rlS 1 v s → fG 1 (val2 g g1 a b) (gokB g1) d w s = fG 1 (val2 g g1 a b) (gokB g1) (gW g1 + 1) 0 (0, -1) → L_X12_playing_54 v (a : Int) (b : Int) 2 (g 10 a - g 10 b) ((gW g1 : Nat) : Int) 1 Q := by
  have wa := w.2.2 a ha
  have wb := w.2.2 b hb
  have ws := w.1
  unfold WFm at wa wb
  unfold WFs at ws
  have W128 : gW g1 ≤ 128 := by
    have ws1 := w1.1
    unfold WFs at ws1
    have q := Nat.mul_le_mul w1.nm.1 (show (g1 0 2).toNat ≤ 16 by omega)
    show gn g1 * (g1 0 2).toNat ≤ 128
    omega
  have last : (fG 1 (val2 g g1 a b) (gokB g1) (gW g1 + 1) 0 (0, -1)).2 ≠ -1 := (fG_is (l := 1) (v := val2 g g1 a b) (o := gokB g1) (gW g1 + 1) 0 (0, -1)).2.2 (gW g1) (by omega) (by omega) (gok_end (Nat.le_refl _))
  intro d
  induction d with
  | zero =>
    intro w v s hw kp s9 sn e0 e174 rs hf
    have hs : s = fG 1 (val2 g g1 a b) (gokB g1) (gW g1 + 1) 0 (0, -1) := hf
    refine l_X12_playing_54 ?_
    unfold B_X12_playing_54
    refine q_lev (l := 1) rfl (by omega) (q_restores (fr := 2768) rfl (by omega) (by rw [s9, kp.2.2 162 9 (by omega) (by omega) (by omega) (by omega)]) (fun u ku fu => ?_))
    have eu : u 174 1 = (w : Int) - 1 := (fu 174 1 (by omega)).trans e174
    have t1 : ((1 : Int)).toNat = 1 := rfl
    rw [t1, eu]
    refine ⟨⟨by omega, by omega⟩, ⟨by omega, by omega⟩, fun h20 e20 x22 e22 => ?_⟩
    have ex : x22 = (w : Int) := by rw [e22, e20, mset_at]; omega
    refine ⟨fun c => absurd c (by omega), fun _ => ⟨fun _ => ⟨⟨by decide, by decide⟩, ⟨by decide, by decide⟩, ⟨by decide, by decide⟩, ?_⟩, fun c => absurd c (by decide)⟩⟩
    have z1 : ((1 : Int) + (-1)) = 0 := rfl
    have z2 : ((0 : Int) + 1).toNat = 1 := rfl
    rw [z1, z2]
    have e5 : h20 175 1 = R2 g g1 a b := by
      rw [e20, mset_i _ (by omega), fu 175 1 (by omega)]
      have := rs.2 (by rw [hs]; exact last)
      rw [this, hs]
      rfl
    rw [e5]
    refine K h20 (by rw [e20]; exact (kp.fm fu).sto (by omega)) (fun o o1 o2 => ?_) e5
    have : h20 o 0 = u o 0 := by rw [e20]; unfold mset; rw [if_neg (by omega)]
    rw [this, fu o 0 (by omega)]
    exact e0 o o1 o2
  | succ d ih =>
    intro w v s hw kp s9 sn e0 e174 rs hf
    have hf2 : fG 1 (val2 g g1 a b) (gokB g1) d (w + 1) (fS 1 (val2 g g1 a b) (gokB g1) w s) = fG 1 (val2 g g1 a b) (gokB g1) (gW g1 + 1) 0 (0, -1) := hf
    refine l_X12_playing_54 ?_
    unfold B_X12_playing_54
    refine q_lev (l := 1) rfl (by omega) (q_restores (fr := 2768) rfl (by omega) (by rw [s9, kp.2.2 162 9 (by omega) (by omega) (by omega) (by omega)]) (fun u ku fu => ?_))
    have eu : u 174 1 = (w : Int) - 1 := (fu 174 1 (by omega)).trans e174
    have t1 : ((1 : Int)).toNat = 1 := rfl
    rw [t1, eu]
    refine ⟨⟨by omega, by omega⟩, ⟨by omega, by omega⟩, fun h20 e20 x22 e22 => ?_⟩
    have ew : (w : Int) - 1 + 1 = (w : Int) := by omega
    rw [ew] at e20
    have ex : x22 = (w : Int) := by rw [e22, e20, mset_at]
    subst ex
    have ru : RXh u g1 := sn u (fun k hk => ku k hk)
    have r20 : RXh h20 g1 := by rw [e20]; exact ru.sto w1.nm (by omega)
    have k20 : KP h0 h20 := by rw [e20]; exact (kp.fm fu).sto (by omega)
    have s20 : Sn g1 1 h20 := sn.fr (fun k k1 k2 => by rw [e20, mset_i _ (by omega), fu 162 k (by omega)])
    have z20 : ∀ o, 174 ≤ o → o ≤ 176 → h20 o 0 = v0 o 0 := fun o o1 o2 => by
      have : h20 o 0 = u o 0 := by rw [e20]; unfold mset; rw [if_neg (by omega)]
      rw [this, fu o 0 (by omega)]
      exact e0 o o1 o2
    have l20 : rlS 1 h20 s := by
      refine ⟨?_, fun c => ?_⟩
      · rw [e20, mset_i _ (by omega), fu 176 1 (by omega)]; exact rs.1
      · rw [e20, mset_i _ (by omega), fu 175 1 (by omega)]; exact rs.2 c
    have c20 : h20 174 1 = (w : Int) := by rw [e20, mset_at]
    refine ⟨fun _ => q_turn w1 r20 (by omega) (fun no => ?_) (fun ok u2 ru2 fu2 => ?_), fun c => absurd (by omega) c⟩
    · have hs := fS_no (l := 1) (v := val2 g g1 a b) (s := s) no
      rw [hs] at hf2
      exact ih (w + 1) h20 s (by omega) k20 (by rw [e20, mset_i _ (by omega), fu 162 2777 (by omega)]; exact s9) s20 z20 (by rw [c20]; omega) l20 hf2
    · unfold J_X12_playing_154
      refine q_hoursGo (k := 6) (B := 10010) rfl ru2 (WF.mvd w1) (by omega) (by omega) (fun u3 r3 f3 => ⟨⟨by decide, by decide⟩, fun c => absurd rfl c, fun _ => ?_⟩)
      have w3 : WF (10010 + ((6 : Nat) : Int)) (gaf g1 w) := WF.afd w1
      have r3' : RXh u3 (gaf g1 w) := r3
      have e3 : gm (gaf g1 w) = gm g := by
        have q := gaf_same (g := g1) (w := w)
        rw [← em]
        unfold gm
        rw [q.1 1 (by omega)]
      have va := w3.2.2 a (by omega)
      have vb := w3.2.2 b (by omega)
      have vs := w3.1
      unfold WFm at va vb
      unfold WFs at vs
      have f23 : FMh h20 u3 := fu2.tr f3
      refine q_more w3 (by omega) r3' (by omega) (by omega) ⟨⟨by omega, by omega⟩, q_settles (l := 1) (w := w) (v := val2 g g1 a b) (o := gokB g1) (s := s) rfl (Or.inr rfl) ?_ ?_ ok rfl (fun u4 r4 f4 => ?_)⟩
      · refine ⟨?_, fun c => ?_⟩
        · rw [f23 176 1 (by omega)]; exact l20.1
        · rw [f23 175 1 (by omega)]; exact l20.2 c
      · rw [f23 174 1 (by omega)]; exact c20
      · have k4 : KP h0 u4 := ⟨fun k hk => by rw [f4 162 _ (by omega)]; exact (k20.fm f23).1 k hk, fun k => by rw [f4 163 k (by omega)]; exact (k20.fm f23).2.1 k, (k20.fm f23).2.2.tr (fun i k q1 q2 q3 q4 => f4 i k (by omega))⟩
        refine ih (w + 1) u4 _ (by omega) k4 (by rw [f4 162 2777 (by omega), f23 162 2777 (by omega), e20, mset_i _ (by omega), fu 162 2777 (by omega)]; exact s9) (s20.fr (fun k k1 k2 => by rw [f4 162 k (by omega), f23 162 k (by omega)])) (fun o o1 o2 => ?_) ?_ r4 hf2
        · rw [f4 o 0 (by omega), f23 o 0 (by omega)]; exact z20 o o1 o2
        · rw [f4 174 1 (by omega), f23 174 1 (by omega), c20]; omega
theorem q_playing {h : Mem} {g : Gs} {a b : Nat} {T : Int} {Q : Int → Mem → Prop} (w : WF 9999 g) (ha : a < gm g) (hb : b < gm g) (hT : T = 0 ∨ T = 1 ∨ T = 2) (rx : RXh h g) (hQ0 : T = 0 → Q 0 h) (hQ : T ≠ 0 → ∀ u, RXh u g → KP h u → u 176 0 = (fG 0 (gV g a b T) (gokB g) (gW g + 1) 0 (0, -1)).2 → Q (fG 0 (gV g a b T) (gokB g) (gW g + 1) 0 (0, -1)).1 u) : F_X12_playing h (a : Int) (b : Int) T Q := by
  obtain ⟨n8, nc⟩ := gn8 w
  have wa := w.2.2 a ha
  have wb := w.2.2 b hb
  have ws := w.1
  unfold WFm at wa wb
  unfold WFs at ws
  have W128 : gW g ≤ 128 := by
    have q := Nat.mul_le_mul n8 (show (g 0 2).toNat ≤ 16 by omega)
    show gn g * (g 0 2).toNat ≤ 128
    omega
  have eW : (gn g : Int) * g 0 2 = ((gW g : Nat) : Int) := by
    show (gn g : Int) * g 0 2 = ((gn g * (g 0 2).toNat : Nat) : Int)
    rw [Int.natCast_mul, Int.toNat_of_nonneg (by omega)]
  unfold F_X12_playing
  refine q_more w (by omega) rx ha hb ⟨fun c => ?_, fun c => hQ0 c⟩
  rw [rx.1.1 0 (by omega) (by omega), rx.1.1 2 (by omega) (by omega), ← nc, eW]
  refine ⟨⟨by omega, by omega⟩, fun x6 e6 => q_lev (l := 0) rfl (by omega) (m_keep2 w rx (fun u ru ku h11 e11 h12 e12 => ?_))⟩
  subst e6
  have hq := hQ c
  generalize hRe : fG 0 (gV g a b T) (gokB g) (gW g + 1) 0 (0, -1) = R at hq
  have last : R.2 ≠ -1 := by
    rw [← hRe]
    exact (fG_is (l := 0) (v := gV g a b T) (o := gokB g) (gW g + 1) 0 (0, -1)).2.2 (gW g) (by omega) (by omega) (gok_end (Nat.le_refl _))
  have key : ∀ (d w0 : Nat) (v : Mem) (s : Int × Int), w0 + d = gW g + 1 → KP h v → v 174 0 = (w0 : Int) - 1 → rlS 0 v s → fG 0 (gV g a b T) (gokB g) d w0 s = R → L_X12_playing_54 v (a : Int) (b : Int) T (g 10 a - g 10 b) ((gW g : Nat) : Int) 0 Q := by
    intro d
    induction d with
    | zero =>
      intro w0 v s hw kp e174 rs hf
      have hs : s = R := hf
      subst hs
      refine l_X12_playing_54 ?_
      unfold B_X12_playing_54
      refine q_lev (l := 0) rfl (by omega) (m_rest w rx kp (fun u1 ru1 ku1 fu1 => ?_))
      have eu : u1 174 0 = (w0 : Int) - 1 := (fu1 174 0 (by omega)).trans e174
      have t1 : ((0 : Int)).toNat = 0 := rfl
      rw [t1, eu]
      refine ⟨⟨by omega, by omega⟩, ⟨by omega, by omega⟩, fun h20 e20 x22 e22 => ?_⟩
      have ex : x22 = (w0 : Int) := by rw [e22, e20, mset_at]; omega
      have k20 : KP h h20 := by rw [e20]; exact ku1.sto (by omega)
      refine ⟨fun c => absurd c (by omega), fun _ => ⟨fun c => absurd rfl c, fun _ => q_lev (l := 0) rfl (by omega) (m_rest w rx k20 (fun z rz kz fz => ?_))⟩⟩
      have e5 : z 175 0 = s.1 := by
        rw [fz 175 0 (by omega), e20, mset_i _ (by omega), fu1 175 0 (by omega)]
        exact rs.2 last
      rw [e5]
      refine hq z rz kz ?_
      rw [fz 176 0 (by omega), e20, mset_i _ (by omega), fu1 176 0 (by omega)]
      exact rs.1
    | succ d ih =>
      intro w0 v s hw kp e174 rs hf
      have hf2 : fG 0 (gV g a b T) (gokB g) d (w0 + 1) (fS 0 (gV g a b T) (gokB g) w0 s) = R := hf
      refine l_X12_playing_54 ?_
      unfold B_X12_playing_54
      refine q_lev (l := 0) rfl (by omega) (m_rest w rx kp (fun u1 ru1 ku1 fu1 => ?_))
      have eu : u1 174 0 = (w0 : Int) - 1 := (fu1 174 0 (by omega)).trans e174
      have t1 : ((0 : Int)).toNat = 0 := rfl
      rw [t1, eu]
      refine ⟨⟨by omega, by omega⟩, ⟨by omega, by omega⟩, fun h20 e20 x22 e22 => ?_⟩
      have ew : (w0 : Int) - 1 + 1 = (w0 : Int) := by omega
      rw [ew] at e20
      have ex : x22 = (w0 : Int) := by rw [e22, e20, mset_at]
      subst ex
      have r20 : RXh h20 g := by rw [e20]; exact ru1.sto w.nm (by omega)
      have k20 : KP h h20 := by rw [e20]; exact ku1.sto (by omega)
      have l20 : rlS 0 h20 s := by
        refine ⟨?_, fun c => ?_⟩
        · rw [e20, mset_i _ (by omega), fu1 176 0 (by omega)]; exact rs.1
        · rw [e20, mset_i _ (by omega), fu1 175 0 (by omega)]; exact rs.2 c
      have c20 : h20 174 0 = (w0 : Int) := by rw [e20, mset_at]
      refine ⟨fun _ => q_turn w r20 (by omega) (fun no => ?_) (fun ok u2 ru2 fu2 => ?_), fun c => absurd (by omega) c⟩
      · have hs := fS_no (l := 0) (v := gV g a b T) (s := s) no
        rw [hs] at hf2
        exact ih (w0 + 1) h20 s (by omega) k20 (by rw [c20]; omega) l20 hf2
      · unfold J_X12_playing_154
        refine q_hoursGo (k := 6) (B := 9999) rfl ru2 (WF.mvd w) (by omega) (by omega) (fun u3 r3 f3 => ⟨⟨by decide, by decide⟩, fun c2 => ?_, fun c2 => ?_⟩)
        · have T2 : T = 2 := by omega
          subst T2
          have f23 : FMh h20 u3 := fu2.tr f3
          have w3 : WF (9999 + ((6 : Nat) : Int)) (gaf g w0) := WF.afd w
          have w3' : WF 10010 (gaf g w0) := w3.wd (by have := w3.1; unfold WFs at this; omega)
          have r3' : RXh u3 (gaf g w0) := r3
          have q := gaf_same (g := g) (w := w0)
          have e3 : gm (gaf g w0) = gm g := by unfold gm; rw [q.1 1 (by omega)]
          have eW2 : gW (gaf g w0) = gW g := by unfold gW gn; rw [q.1 0 (by omega), q.1 2 (by omega)]
          have z0 : ((0 : Int) + 1) = 1 := rfl
          rw [z0]
          refine q_lev (l := 1) rfl (by omega) (q_keeps (to := 2768) rfl (by omega) (fun u4 k4 f4 => ⟨⟨by decide, by decide⟩, fun h48 e48 h49 e49 => ?_⟩))
          have t2 : ((1 : Int)).toNat = 1 := rfl
          rw [t2] at e48 e49
          subst e49 e48
          have kp4 : KP h u4 := ⟨fun k hk => by rw [f4 162 _ (by omega)]; exact (k20.fm f23).1 k hk, fun k => by rw [f4 163 k (by omega)]; exact (k20.fm f23).2.1 k, (k20.fm f23).2.2.tr (UM.fk f4 (by omega))⟩
          have sn4 : Sn (gaf g w0) 1 u4 := fun z hz => r3'.fr w3.nm.1 w3.nm.2 (fun k hk => by rw [hz k hk]; exact k4 k hk)
          have z4 : ∀ o, 174 ≤ o → o ≤ 176 → u4 o 0 = h20 o 0 := fun o o1 o2 => (f4 o 0 (by omega)).trans (f23 o 0 (by omega))
          have lv := q_level1 (h0 := h) (v0 := h20) (g := g) (g1 := gaf g w0) (a := a) (b := b) (Q := Q) w w3' e3 ha hb (fun u5 k5 z5 e5 => ?_) (gW (gaf g w0) + 1) 0 (mset (mset u4 174 1 (-1)) 176 1 (-1)) (0, -1) (by omega) ((kp4.sto (by omega)).sto (by omega)) (by rw [mset_i _ (by omega), mset_i _ (by omega), show 2777 = 2768 + 9 from rfl, k4 9 (by omega), f23 162 9 (by omega), k20.2.2 162 9 (by omega) (by omega) (by omega) (by omega)]) (sn4.fr (fun k _ _ => by rw [mset_i _ (by omega), mset_i _ (by omega)])) (fun o o1 o2 => by
            have : mset (mset u4 174 1 (-1)) 176 1 (-1) o 0 = u4 o 0 := by unfold mset; rw [if_neg (by omega), if_neg (by omega)]
            rw [this]
            exact z4 o o1 o2) (by rw [mset_i _ (by omega), mset_at]; omega) ⟨mset_at, fun z => absurd rfl z⟩ rfl
          · rw [eW2] at lv
            exact lv
          · rw [eW2]
            have eV : R2 g (gaf g w0) a b = gV g a b 2 w0 := by unfold gV; rw [if_neg (by decide)]
            refine q_settles (l := 0) (w := w0) (v := gV g a b 2) (o := gokB g) (s := s) rfl (Or.inl rfl) ⟨?_, fun c3 => ?_⟩ ?_ ok eV (fun u6 r6 f6 => ?_)
            · rw [z5 176 (by omega) (by omega)]; exact l20.1
            · rw [z5 175 (by omega) (by omega)]; exact l20.2 c3
            · rw [z5 174 (by omega) (by omega)]; exact c20
            · have k6 : KP h u6 := ⟨fun k hk => by rw [f6 162 _ (by omega)]; exact k5.1 k hk, fun k => by rw [f6 163 k (by omega)]; exact k5.2.1 k, k5.2.2.tr (fun i k q1 q2 q3 q4 => f6 i k (by omega))⟩
              exact ih (w0 + 1) u6 _ (by omega) k6 (by rw [f6 174 0 (by omega), z5 174 (by omega) (by omega), c20]; omega) r6 hf2
        · have T1 : T = 1 := by omega
          subst T1
          have f23 : FMh h20 u3 := fu2.tr f3
          have w3 : WF (9999 + ((6 : Nat) : Int)) (gaf g w0) := WF.afd w
          have r3' : RXh u3 (gaf g w0) := r3
          have q := gaf_same (g := g) (w := w0)
          have e3 : gm (gaf g w0) = gm g := by unfold gm; rw [q.1 1 (by omega)]
          have va := w3.2.2 a (by omega)
          have vb := w3.2.2 b (by omega)
          have vs := w3.1
          unfold WFm at va vb
          unfold WFs at vs
          have eV : gaf g w0 10 a - gaf g w0 10 b - (g 10 a - g 10 b) = gV g a b 1 w0 := by unfold gV; rw [if_pos rfl]; rfl
          refine q_more w3 (by omega) r3' (by omega) (by omega) ⟨⟨by omega, by omega⟩, q_settles (l := 0) (w := w0) (v := gV g a b 1) (o := gokB g) (s := s) rfl (Or.inl rfl) ⟨?_, fun c3 => ?_⟩ ?_ ok eV (fun u6 r6 f6 => ?_)⟩
          · rw [f23 176 0 (by omega)]; exact l20.1
          · rw [f23 175 0 (by omega)]; exact l20.2 c3
          · rw [f23 174 0 (by omega)]; exact c20
          · have k6 : KP h u6 := ⟨fun k hk => by rw [f6 162 _ (by omega)]; exact (k20.fm f23).1 k hk, fun k => by rw [f6 163 k (by omega)]; exact (k20.fm f23).2.1 k, (k20.fm f23).2.2.tr (fun i k q1 q2 q3 q4 => f6 i k (by omega))⟩
            exact ih (w0 + 1) u6 _ (by omega) k6 (by rw [f6 174 0 (by omega), f23 174 0 (by omega), c20]; omega) r6 hf2
  subst e12 e11
  exact key (gW g + 1) 0 _ (0, -1) (by omega) ((ku.sto (by omega)).sto (by omega)) (by rw [mset_i _ (by omega), mset_at]; omega) ⟨mset_at, fun z => absurd rfl z⟩ hRe
