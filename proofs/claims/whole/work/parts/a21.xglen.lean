/-! x reads a glen -/
def pos2 (p : Except (Int × Nat) (Nat × Gs)) : Er := bnd p (fun q => .ok q.1)
def X33 (h : Mem) (T : Nat) : Prop := h 33 0 = 9 ∧ h 33 1 = ((146 : Nat) : Int) ∧ h 33 2 = (T : Int)
def FGf (h u : Mem) : Prop := ∀ i k, ¬ (i = 9 ∧ 4 ≤ k ∧ k ≤ 10) → i ≠ 33 → ¬ (146 ≤ i ∧ i < 161) → u i k = h i k
def FQf (h u : Mem) : Prop := ∀ i k, ¬ (i = 9 ∧ 4 ≤ k ∧ k ≤ 10) → ¬ (i = 33 ∧ k = 2) → u i k = h i k
theorem FGf.rf {h : Mem} : FGf h h := fun _ _ _ _ _ => rfl
theorem FGf.tr {h h1 h2 : Mem} (a : FGf h h1) (b : FGf h1 h2) : FGf h h2 := fun i k p q r => (b i k p q r).trans (a i k p q r)
theorem FGf.of {h u : Mem} (a : F9f h u) : FGf h u := fun i k p _ _ => a i k p
theorem FGf.oq {h u : Mem} (a : FQf h u) : FGf h u := fun i k p q _ => a i k p (by omega)
theorem FGf.st {h u : Mem} {i k : Nat} {v : Int} (a : FGf h u) (hi : 146 ≤ i ∧ i < 161) : FGf h (mset u i k v) := fun j l p q r => (mset_o (by omega)).trans (a j l p q r)
theorem FGf.fr {h u u2 : Mem} {lo hi : Nat} (a : FGf h u) (f : Fr lo hi u u2) (h1 : 146 ≤ lo ∧ hi ≤ 161) : FGf h u2 := fun j l p q r => (f j (by omega) l).trans (a j l p q r)
theorem FQf.of {h u : Mem} (a : F9f h u) : FQf h u := fun i k p _ => a i k p
theorem FQf.tr {h h1 h2 : Mem} (a : FQf h h1) (b : FQf h1 h2) : FQf h h2 := fun i k p q => (b i k p q).trans (a i k p q)
theorem rc_same {h u : Mem} {o : Nat} {g : Gs} (r : RC h o g) (f : ∀ i k, o ≤ i → i < o + 15 → u i k = h i k) : RC u o g := by
  obtain ⟨⟨⟨r0, r1, r2, r3, r4, r6⟩, ⟨t0, t1⟩, m0, m1⟩, r5⟩ := r
  refine ⟨⟨⟨?_, ?_, ?_, ?_, ?_, ?_⟩, ⟨?_, fun t ht => ?_⟩, ?_, fun m hm => ?_⟩, ?_⟩
  · rw [f o _ (by omega) (by omega)]; exact r0
  · rw [f o _ (by omega) (by omega)]; exact r1
  · rw [f o _ (by omega) (by omega)]; exact r2
  · rw [f o _ (by omega) (by omega)]; exact r3
  · rw [f o _ (by omega) (by omega)]; exact r4
  · rw [f o _ (by omega) (by omega)]; exact r6
  · rw [f (o + 1) _ (by omega) (by omega)]; exact t0
  · rw [f (o + 1 + 1) _ (by omega) (by omega), f (o + 1 + 2) _ (by omega) (by omega), f (o + 1 + 3) _ (by omega) (by omega), f (o + 1 + 4) _ (by omega) (by omega), f (o + 1 + 5) _ (by omega) (by omega), f (o + 1 + 6) _ (by omega) (by omega), f (o + 1 + 7) _ (by omega) (by omega), f (o + 1 + 8) _ (by omega) (by omega)]
    exact t1 t ht
  · rw [f (o + 10) _ (by omega) (by omega)]; exact m0
  · rw [f (o + 10 + 1) _ (by omega) (by omega), f (o + 10 + 2) _ (by omega) (by omega), f (o + 10 + 3) _ (by omega) (by omega), f (o + 10 + 4) _ (by omega) (by omega)]
    exact m1 m hm
  · rw [f o _ (by omega) (by omega)]; exact r5
theorem rc_set {h : Mem} {o i k : Nat} {g : Gs} {v : Int} (r : RC h o g) (e : (k = 0 ∧ i = 2) ∨ (k = 1 ∧ i = 3) ∨ (k = 2 ∧ i = 4) ∨ (k = 3 ∧ i = 6) ∨ (k = 4 ∧ i = 7)) : RC (mset h o k v) o (sset g i v) := by
  obtain ⟨⟨⟨r0, r1, r2, r3, r4, r6⟩, ⟨t0, t1⟩, m0, m1⟩, r5⟩ := r
  have es : ∀ j, sset g i v 0 j = if j = i then v else g 0 j := fun j => by unfold sset; by_cases c : j = i <;> simp [c]
  have eo : ∀ f j, f ≠ 0 → sset g i v f j = g f j := fun f j hf => by unfold sset; rw [if_neg (by omega)]
  have e0 : gn (sset g i v) = gn g := by unfold gn; rw [es, if_neg (by omega)]
  have e1 : gm (sset g i v) = gm g := by unfold gm; rw [es, if_neg (by omega)]
  have cell : ∀ a b, h o a = g 0 b → (a = k ↔ b = i) → mset h o k v o a = sset g i v 0 b := fun a b hab q => by
    rw [es]
    by_cases c : a = k
    · subst c; rw [mset_at, if_pos (q.mp rfl)]
    · rw [mset_k c, if_neg (fun z => c (q.mpr z))]; exact hab
  refine ⟨⟨⟨cell _ _ r0 (by omega), cell _ _ r1 (by omega), cell _ _ r2 (by omega), cell _ _ r3 (by omega), cell _ _ r4 (by omega), cell _ _ r6 (by omega)⟩, ⟨?_, fun t ht => ?_⟩, ?_, fun m hm => ?_⟩, cell _ _ r5 (by omega)⟩
  · rw [mset_i _ (by omega), es, if_neg (by omega)]; exact t0
  · rw [e0] at ht
    rw [mset_i _ (by omega), mset_i _ (by omega), mset_i _ (by omega), mset_i _ (by omega), mset_i _ (by omega), mset_i _ (by omega), mset_i _ (by omega), mset_i _ (by omega), eo _ _ (by decide), eo _ _ (by decide), eo _ _ (by decide), eo _ _ (by decide), eo _ _ (by decide), eo _ _ (by decide), eo _ _ (by decide), eo _ _ (by decide)]
    exact t1 t ht
  · rw [mset_i _ (by omega), es, if_neg (by omega)]; exact m0
  · rw [e1] at hm
    rw [mset_i _ (by omega), mset_i _ (by omega), mset_i _ (by omega), mset_i _ (by omega), eo _ _ (by decide), eo _ _ (by decide), eo _ _ (by decide), eo _ _ (by decide)]
    exact m1 m hm
theorem told_x : ∀ T : Nat, T < 16 → ∀ k : Nat, k < 4 → (iand (ishr (T : Int) (k : Int)) 1 = 1 ↔ T.testBit k = true) ∧ ior (T : Int) (ishl 1 (k : Int)) = ((sT T k : Nat) : Int) ∧ sT T k < 16 := by decide +kernel
section XR
variable {h : Mem} {B : Nat → Int} {n : Nat} {c : Er} {g : Gs} {T : Nat}
theorem s_wasTold {k : Nat} {a : Int} {Q : Int → Mem → Prop} (x3 : X33 h T) (hT : T < 16) (hk : k < 4) (ha : a = (k : Int)) (hQ : Q (if T.testBit k = true then 1 else 0) h) : F_X5_wasTold h a Q := by
  subst ha
  obtain ⟨e1, e2, e3⟩ := told_x T hT k hk
  unfold F_X5_wasTold
  rw [x3.2.2]
  refine ⟨fun q => ?_, fun q => ?_⟩
  · rw [if_neg (fun z => q (e1.mpr z))] at hQ; exact hQ
  · rw [if_pos (e1.mp q)] at hQ; exact hQ
theorem s_takeOnce {k : Nat} {a : Int} {Q : Mem → Prop} (x : XS h B n c) (x3 : X33 h T) (hT : T < 16) (hk : k < 4) (ha : a = (k : Int)) (hQ : ∀ u, FQf h u → XS u B n (bnd c (pOn B n (T.testBit k))) → X33 u (sT T k) → Q u) : F_X5_takeOnce h a Q := by
  have ha' := ha
  subst ha
  obtain ⟨e1, e2, e3⟩ := told_x T hT k hk
  have tail : ∀ (u : Mem) (c' : Er), F9f h u → XS u B n c' → (bnd c' (fun s => .ok (nx B n s)) : Er) = bnd c (pOn B n (T.testBit k)) → J_X5_takeOnce_16 u (k : Int) Q := fun u c' f xu ec => by
    unfold J_X5_takeOnce_16
    intro h6 e6
    rw [f 33 2 (by omega), x3.2.2, e2] at e6
    have x6 : XS h6 B n c' := by rw [e6]; exact xu.fr (fun i k p => mset_o (by omega))
    refine ⟨by rw [e6, mset_k (by omega), f 33 0 (by omega)]; exact x3.1, sx_advance x6 (fun v fv xv => hQ v ?_ (by rw [← ec]; exact xv) ⟨?_, ?_, ?_⟩)⟩
    · intro i j p q
      rw [fv i j p, e6, mset_o q]; exact f i j p
    · rw [fv 33 0 (by omega), e6, mset_k (by omega), f 33 0 (by omega)]; exact x3.1
    · rw [fv 33 1 (by omega), e6, mset_k (by omega), f 33 1 (by omega)]; exact x3.2.1
    · rw [fv 33 2 (by omega), e6, mset_at]
  unfold F_X5_takeOnce
  refine s_wasTold x3 hT hk rfl ⟨fun q => ?_, fun q => ⟨x3.1, ?_⟩⟩
  · have nb : T.testBit k = false := by
      cases d : T.testBit k with
      | false => rfl
      | true => rw [d] at q; exact absurd q (by decide)
    refine tail h c F9f.rf x ?_
    rw [nb]; rfl
  · have nb : T.testBit k = true := by
      cases d : T.testBit k with
      | true => rfl
      | false => rw [d] at q; exact absurd rfl q
    refine sx_fail x (w := 5) (by decide) (fun u f xu => tail u _ f xu ?_)
    rw [nb]
    cases c with
    | ok s => rfl
    | error e => rfl
/-- what has come of a part: p what it is -/
def XP (h u : Mem) (B : Nat → Int) (n T : Nat) (p : Except (Int × Nat) (Nat × Gs)) : Prop := XS u B n (pos2 p) ∧ (∀ s' g', p = .ok (s', g') → RC u 146 g') ∧ X33 u T ∧ FGf h u
theorem lay_33 : lay 146 = (0, 4) := by decide +kernel
theorem s_scal {s i k : Nat} {lo hi : Int} {b : Bool} {u : Mem} {c' : Er} {T' : Nat} {Q : Mem → Prop} (r : RC h 146 g) (fu : FQf h u) (xu : XS u B n c') (ec : c' = pOn B n b s) (x3 : X33 u T') (hl : lo ≤ hi) (e : (k = 0 ∧ i = 2) ∨ (k = 1 ∧ i = 3) ∨ (k = 2 ∧ i = 4) ∨ (k = 3 ∧ i = 6) ∨ (k = 4 ∧ i = 7)) (hQ : ∀ v, XP h v B n T' (pScal B n g b i lo hi s) → Q v) : F_X8_takeNumberOf u lo hi (fun r13 h12 => ∀ h14 : Mem, h14 = mset h12 146 k r13 → Q h14) := by
  subst ec
  refine sx_takeNumberOf xu hl (fun r13 h12 f12 x12 r12 v12 h14 e14 => ?_)
  subst e14
  refine hQ _ ⟨?_, fun s' g' hp => ?_, ⟨?_, ?_, ?_⟩, ?_⟩
  · have e2 : pos2 (pScal B n g b i lo hi s) = bnd (pOn B n b s) (pNo B n lo hi) := by
      unfold pos2 pScal
      cases pOn B n b s with
      | error e => rfl
      | ok s1 =>
        show bnd (bnd (pNo B n lo hi s1) _) _ = pNo B n lo hi s1
        cases pNo B n lo hi s1 with
        | error e => rfl
        | ok s2 => rfl
    rw [e2]
    exact x12.fr (fun i k p => mset_o (by omega))
  · unfold pScal at hp
    obtain ⟨s1, h1, hp⟩ := bnd_ok hp
    obtain ⟨s2, h2, hp⟩ := bnd_ok hp
    cases hp
    rw [v12 s1 h1 _ h2]
    refine rc_set (rc_same r (fun i k q1 q2 => ?_)) e
    rw [f12 i k (by omega), fu i k (by omega) (by omega)]
  · rw [mset_i _ (by omega), f12 33 0 (by omega)]; exact x3.1
  · rw [mset_i _ (by omega), f12 33 1 (by omega)]; exact x3.2.1
  · rw [mset_i _ (by omega), f12 33 2 (by omega)]; exact x3.2.2
  · exact (((FGf.oq fu).tr (FGf.of f12)).st (by omega))
theorem s_readLong {s : Nat} {Q : Mem → Prop} (x : XS h B n (.ok s)) (x3 : X33 h T) (hT : T < 16) (r : RC h 146 g) (w : WF 0 g) (hQ : ∀ u, XP h u B n (sT T 0) (pScal B n g (longB g T) 2 2 16 s) → Q u) : F_X5_readLong h Q := by
  have n8 := gn8 w
  have n4 := gm4 w
  have j42 : ∀ (u : Mem) (c' : Er), F9f h u → XS u B n c' → bnd c' (pOn B n (T.testBit 0)) = pOn B n (longB g T) s → J_X5_readLong_42 u Q := fun u c' f xu ec => by
    have xu3 : X33 u T := ⟨by rw [f 33 0 (by omega)]; exact x3.1, by rw [f 33 1 (by omega)]; exact x3.2.1, by rw [f 33 2 (by omega)]; exact x3.2.2⟩
    unfold J_X5_readLong_42
    refine s_takeOnce (k := 0) xu xu3 hT (by omega) rfl (fun v fv xv xv3 => ?_)
    exact ⟨146, xv3.2.1, lay_33, xv3.1, s_scal r ((FQf.of f).tr fv) xv ec xv3 (by omega) (by omega) hQ⟩
  have bad : longB g T = true → J_X5_readLong_34 h Q := fun lb => by
    unfold J_X5_readLong_34
    refine ⟨x3.1, sx_fail x (w := 5) (by decide) (fun u f xu => j42 u _ f xu ?_)⟩
    rw [lb]; rfl
  unfold F_X5_readLong
  refine s_wasTold (k := 3) x3 hT (by omega) rfl ⟨fun q => bad ?_, fun q => ⟨146, x3.2.1, lay_33, ?_, fun q2 => ⟨146, x3.2.1, lay_33, ?_, ?_⟩⟩⟩
  · unfold longB
    cases d : T.testBit 3 with
    | true => simp
    | false => rw [d] at q; exact absurd rfl q
  · intro q2
    refine bad ?_
    have e : h (146 + 1) 0 = g 0 0 := r.1.2.1.1
    rw [e] at q2
    unfold longB
    rw [show decide (0 < gn g) = true from decide_eq_true (by omega)]; simp
  · intro q3
    refine j42 h (.ok s) F9f.rf x ?_
    have e : h (146 + 1) 0 = g 0 0 := r.1.2.1.1
    have e2 : h (146 + 10) 0 = g 0 1 := r.1.2.2.1
    rw [e] at q2
    rw [e2] at q3
    have nb : T.testBit 3 = false := by
      cases d : T.testBit 3 with
      | false => rfl
      | true => rw [d] at q; exact absurd q (by decide)
    unfold longB
    rw [nb, show decide (0 < gn g) = false from decide_eq_false (by omega), show decide (0 < gm g) = false from decide_eq_false (by omega)]
    simp [bnd]
  · intro q3
    refine bad ?_
    have e2 : h (146 + 10) 0 = g 0 1 := r.1.2.2.1
    rw [e2] at q3
    unfold longB
    rw [show decide (0 < gm g) = true from decide_eq_true (by omega)]; simp
theorem s_readStream {s : Nat} {Q : Mem → Prop} (x : XS h B n (.ok s)) (x3 : X33 h T) (hT : T < 16) (r : RC h 146 g) (w : WF 0 g) (hQ : ∀ u, XP h u B n (sT T 3) (pStream B n g (T.testBit 3) s) → Q u) : F_X5_readStream h Q := by
  have ws := w.1
  unfold WFs at ws
  unfold F_X5_readStream
  refine s_takeOnce (k := 3) x x3 hT (by omega) rfl (fun v fv xv xv3 => ?_)
  have rv : RC v 146 g := rc_same r (fun i k q1 q2 => fv i k (by omega) (by omega))
  have e0 : v 146 0 = g 0 2 := rv.1.1.1
  refine ⟨146, xv3.2.1, lay_33, xv3.1, 146, xv3.2.1, lay_33, by rw [e0]; exact ⟨by omega, by omega⟩, ?_⟩
  rw [e0]
  refine sx_takeNumberOf xv (by omega) (fun r8 h7 f7 x7 r7 v7 h9 e9 => ?_)
  have x9 : XS h9 B n (bnd (bnd (.ok s) (pOn B n (T.testBit 3))) (pNo B n 0 (g 0 2 - 1))) := by rw [e9]; exact x7.fr (fun i k p => mset_o (by omega))
  have y3 : X33 h9 (sT T 3) := by
    rw [e9]
    exact ⟨by rw [mset_i _ (by omega), f7 33 0 (by omega)]; exact xv3.1, by rw [mset_i _ (by omega), f7 33 1 (by omega)]; exact xv3.2.1, by rw [mset_i _ (by omega), f7 33 2 (by omega)]; exact xv3.2.2⟩
  have r9 : RC h9 146 (sset g 6 r8) := by rw [e9]; exact rc_set (rc_same rv (fun i k q1 q2 => f7 i k (by omega))) (by omega)
  have fg : FGf h h9 := by rw [e9]; exact ((FGf.oq fv).tr (FGf.of f7)).st (by omega)
  refine ⟨y3.1, ?_⟩
  refine sx_isWord x9 (fun r12 a1 a2 => ⟨fun q => hQ h9 ⟨?_, ?_, y3, fg⟩, fun q => ⟨146, y3.2.1, lay_33, fun h14 e14 => ?_⟩⟩)
  · unfold pos2 pStream
    revert x9 a1
    show XS h9 B n (bnd (pOn B n (T.testBit 3) s) (pNo B n 0 (g 0 2 - 1))) → (∀ s', bnd (pOn B n (T.testBit 3) s) (pNo B n 0 (g 0 2 - 1)) = .ok s' → _) → _
    cases pOn B n (T.testBit 3) s with
    | error e => intro x9 _; exact x9
    | ok s1 =>
      show XS h9 B n (pNo B n 0 (g 0 2 - 1) s1) → (∀ s', pNo B n 0 (g 0 2 - 1) s1 = .ok s' → _) → XS h9 B n (bnd (bnd (pNo B n 0 (g 0 2 - 1) s1) _) _)
      cases pNo B n 0 (g 0 2 - 1) s1 with
      | error e => intro x9 _; exact x9
      | ok s2 =>
        intro x9 a1
        have c2 : ¬ (tke B n s2 = 1 ∧ tke_v B n s2 = 4) := fun z => by rw [a1 s2 rfl, if_pos z] at q; exact absurd q (by decide)
        show XS h9 B n (bnd (if tke B n s2 = 1 ∧ tke_v B n s2 = 4 then _ else _) _)
        rw [if_neg c2]; exact x9
  · intro s' g' hp
    unfold pStream at hp
    obtain ⟨s1, h1, hp⟩ := bnd_ok hp
    obtain ⟨s2, h2, hp⟩ := bnd_ok hp
    have c1 : bnd (bnd (.ok s) (pOn B n (T.testBit 3))) (pNo B n 0 (g 0 2 - 1)) = .ok s2 := by
      show bnd (pOn B n (T.testBit 3) s) _ = _
      rw [h1]; exact h2
    have c2 : ¬ (tke B n s2 = 1 ∧ tke_v B n s2 = 4) := fun z => by rw [a1 s2 c1, if_pos z] at q; exact absurd q (by decide)
    rw [if_neg c2] at hp
    cases hp
    rw [← v7 s1 h1 _ h2]; exact r9
  · have ex : ∃ s2, bnd (bnd (.ok s) (pOn B n (T.testBit 3))) (pNo B n 0 (g 0 2 - 1)) = .ok s2 := by
      cases d : bnd (bnd (.ok s) (pOn B n (T.testBit 3))) (pNo B n 0 (g 0 2 - 1)) with
      | ok s2 => exact ⟨s2, rfl⟩
      | error e => exact absurd (a2 e d) q
    obtain ⟨s2, hs2⟩ := ex
    obtain ⟨s1, hs1, hs2'⟩ := bnd_ok hs2
    have hs1' : pOn B n (T.testBit 3) s = .ok s1 := hs1
    have c2 : tke B n s2 = 1 ∧ tke_v B n s2 = 4 := by
      by_cases z : tke B n s2 = 1 ∧ tke_v B n s2 = 4
      · exact z
      · exact absurd ((a1 s2 hs2).trans (if_neg z)) q
    have ep : pStream B n g (T.testBit 3) s = .ok (nx B n s2, sset (sset g 6 (tke_v B n s1)) 7 0) := by
      unfold pStream
      rw [hs1']
      show bnd (pNo B n 0 (g 0 2 - 1) s1) _ = _
      rw [hs2']
      show (if tke B n s2 = 1 ∧ tke_v B n s2 = 4 then _ else _) = _
      rw [if_pos c2]
    rw [hs2] at x9
    have x14 : XS h14 B n (.ok s2) := by rw [e14]; exact x9.fr (fun i k p => mset_o (by omega))
    refine ⟨by rw [e14, mset_i _ (by omega)]; exact y3.1, sx_advance x14 (fun u fu xu => hQ u ?_)⟩
    rw [ep]
    refine ⟨xu, fun s' g' hp => ?_, ⟨?_, ?_, ?_⟩, ?_⟩
    · cases hp
      rw [← v7 s1 hs1' _ hs2']
      refine rc_same (h := h14) ?_ (fun i k q1 q2 => fu i k (by omega))
      rw [e14]; exact rc_set r9 (by omega)
    · rw [fu 33 0 (by omega), e14, mset_i _ (by omega)]; exact y3.1
    · rw [fu 33 1 (by omega), e14, mset_i _ (by omega)]; exact y3.2.1
    · rw [fu 33 2 (by omega), e14, mset_i _ (by omega)]; exact y3.2.2
    · refine FGf.tr ?_ (FGf.of fu)
      rw [e14]; exact fg.st (by omega)
end XR
