section MD3
variable {h : Mem} {B : Nat → Int} {n s : Nat} {g : Gs}
theorem q_test {rN : Nat} {a : Int} {Q : Int → Mem → Prop} (x : MS h B n s) (gr : GMr h g) (ha : a = (rN : Int)) (r1 : 1872 ≤ rN) (r2 : rN + 6 ≤ 3008) (z1 : h 162 (rN + 1) = 0) (z2 : h 162 (rN + 2) = 0) (z5 : h 162 (rN + 5) = 0)
    (hok : ∀ s' e u, pTest B n g s = .ok (s', e) → FRr rN h u → MS u B n s' → EW u rN e → Q 1 u) (hno : ∀ e u, pTest B n g s = .error e → FRr rN h u → ME u e → Q 0 u) : F_X12_test h a Q := by
  subst ha
  have w12 : wk B n s = 12 ↔ xk B n s = 11 := wkx (k := 11) (by omega) rfl
  have w13 : wk B n s = 13 ↔ xk B n s = 13 := wkx (k := 13) (by omega) rfl
  have w22 : wk B n s = 22 ↔ xk B n s = 19 := wkx (k := 19) (by omega) rfl
  have w23 : wk B n s = 23 ↔ xk B n s = 20 := wkx (k := 20) (by omega) rfl
  have le := wk_le (B := B) (n := n) (s := s)
  have E : pTest B n g s = pTest B n g s := rfl
  conv at E => rhs; unfold pTest
  have go : xk B n s = 11 ∨ xk B n s = 19 ∨ xk B n s = 13 ∨ xk B n s = 20 → J_X12_test_31 h (rN : Int) (wk B n s) Q := fun c => by
    have tk : tke B n s = 1 := (xk_kw (by omega)).1
    have pt : pTst B n s = .ok (nx B n s) := by unfold pTst; rw [if_pos c]
    rw [pt, bnd_y] at E
    unfold J_X12_test_31
    refine ⟨⟨by omega, by omega⟩, ⟨by omega, by omega⟩, fun h7 e7 => ?_⟩
    rw [Int.toNat_natCast] at e7
    have m7 : MS h7 B n s := by rw [e7]; exact x.fr (fun i k q => mset_o (by omega))
    have C7 : ∀ i l, i ≠ 161 → h7 i l = mset h 162 rN (1800 + wk B n s) i l := fun i l _ => by rw [e7]
    have F7 : FRr rN h h7 := by rw [e7]; exact (FRr.of FTf.rf).st (by omega)
    refine mx_ahead m7 (by omega) (fun h8 f8 m8 => ?_)
    have C8 := ft_id C7 f8
    have F8 := F7.tr (FRr.of f8)
    have gm8 := gr.rr r1 F8
    refine ⟨fun n12 => ⟨fun n22 => ⟨fun n23 => ?_, fun y23 => ?_⟩, fun y22 => ?_⟩, fun y12 => ?_⟩
    · have x13 : xk B n s = 13 := by omega
      rw [if_neg (by omega), if_neg (by omega), if_neg (by omega)] at E
      refine q_t135 (hi := 15) m8 rfl r2 (Or.inl ⟨w13.mpr x13, rfl⟩) (fun s2 s3 u p2 p3 C F m => ?_) (fun e u p F m => hno e u ?_ (F8.tr F) m)
      · rw [p2, bnd_y] at E
        rw [p3, bnd_y] at E
        refine hok _ _ u E (F8.tr F) m ⟨?_, fun z => absurd rfl z, ?_, ?_⟩
        · rw [C _ _ (by omega), mset_k (by omega), mset_k (by omega), C8 _ _ (by omega), mset_at, w13.mpr x13]; rfl
        · rw [C _ _ (by omega), mset_at]
        · rw [C _ _ (by omega), mset_k (by omega), mset_at]
      · rw [E]
        cases p2 : pCmp B n (nx B n s) with
        | error e2 => rw [p2, bnd_n] at p; rw [bnd_n]; cases p; rfl
        | ok s2 => rw [p2, bnd_y] at p; rw [bnd_y, p, bnd_n]
    · have x20 : xk B n s = 20 := w23.mp y23
      rw [if_neg (by omega), if_neg (by omega), if_pos x20] at E
      obtain ⟨g1, g2, g3, g4, g5, g6, g7, g8⟩ := gm8
      refine ⟨⟨by omega, by omega⟩, ?_⟩
      refine q_oldOne (base := 8) (many := gm g) (f := g 12) (aN := rN + 1) m8 rfl g2 (by omega) (by omega) (by omega) g5 (fun s2 u p f m => ⟨fun _ => ?_, fun z => absurd z (by decide)⟩) (fun e u p f m => ⟨fun z => absurd rfl z, fun _ => hno e u ?_ (F8.tr (fun i k q1 q2 => f i k q1 (by omega))) m⟩)
      · have p2 : pMil B n g (nx B n s) = .ok s2 := p
        rw [p2, bnd_y] at E
        have C9 := ft_ch C8 f
        have F9 : FRr rN h u := (F8.st (by omega)).tr (FRr.of f)
        refine q_t135 (hi := 9999) m rfl r2 (Or.inr ⟨by omega, rfl⟩) (fun s3 s4 v p3 p4 C F mv => ?_) (fun e v p F mv => hno e v ?_ (F9.tr F) mv)
        · rw [p3, bnd_y] at E
          rw [p4, bnd_y] at E
          refine hok _ _ v E (F9.tr F) mv ⟨?_, fun _ => ?_, ?_, ?_⟩
          · rw [C _ _ (by omega), mset_k (by omega), mset_k (by omega), C9 _ _ (by omega), mset_k (by omega), mset_at, y23]; rfl
          · rw [C _ _ (by omega), mset_k (by omega), mset_k (by omega), C9 _ _ (by omega), mset_at]; rfl
          · rw [C _ _ (by omega), mset_at]
          · rw [C _ _ (by omega), mset_k (by omega), mset_at]
        · rw [E]
          cases p3 : pCmp B n s2 with
          | error e2 => rw [p3, bnd_n] at p; rw [bnd_n]; cases p; rfl
          | ok s3 => rw [p3, bnd_y] at p; rw [bnd_y, p, bnd_n]
      · have p2 : pMil B n g (nx B n s) = .error e := p
        rw [E, p2, bnd_n]
    · have x19 : xk B n s = 19 := w22.mp y22
      rw [if_neg (by omega), if_pos x19] at E
      have w6 : wk B n (nx B n s) = 6 ↔ xk B n (nx B n s) = 4 := wkx (k := 4) (by omega) rfl
      have w7 : wk B n (nx B n s) = 7 ↔ xk B n (nx B n s) = 5 := wkx (k := 5) (by omega) rfl
      have ok : xk B n (nx B n s) = 4 ∨ xk B n (nx B n s) = 5 → J_X12_test_91 h8 (rN : Int) (wk B n (nx B n s)) Q := fun c2 => by
        have tk2 : tke B n (nx B n s) = 1 := (xk_kw (by omega)).1
        have pw : pWay B n (nx B n s) = .ok (nx B n (nx B n s)) := by unfold pWay; rw [if_pos c2]
        rw [pw, bnd_y] at E
        unfold J_X12_test_91
        refine ⟨⟨by omega, by omega⟩, ⟨by omega, by omega⟩, ⟨by omega, by omega⟩, fun h32 e32 => ?_⟩
        rw [show ((rN : Int) + 1).toNat = rN + 1 by omega] at e32
        have m32 : MS h32 B n (nx B n s) := by rw [e32]; exact m8.fr (fun i k q => mset_o (by omega))
        have C32 : ∀ i l, i ≠ 161 → h32 i l = mset (mset h 162 rN (1800 + wk B n s)) 162 (rN + 1) (wk B n (nx B n s) - 6) i l := ft_ch C8 (by rw [e32]; exact FTf.rf)
        have F32 : FRr rN h h32 := by rw [e32]; exact F8.st (by omega)
        refine mx_ahead m32 (by omega) (fun u f m => ?_)
        have C := ft_id C32 f
        refine hok _ _ u E (F32.tr (FRr.of f)) m ⟨?_, fun _ => ?_, ?_, ?_⟩
        · rw [C _ _ (by omega), mset_k (by omega), mset_at, y22]; rfl
        · rw [C _ _ (by omega), mset_at]
          show wk B n (nx B n s) - 6 = if _ then _ else _
          split <;> omega
        · rw [C _ _ (by omega), mset_k (by omega), mset_k (by omega)]; exact z2
        · rw [C _ _ (by omega), mset_k (by omega), mset_k (by omega)]; exact z5
      refine q_inWords m8.1 ⟨fun q => ok (by omega), fun q => ⟨fun q2 => ok (by omega), fun q2 => ?_⟩⟩
      refine mx_failsZ m8 (by decide) (fun u e ee f m => hno e u ?_ (F8.tr (FRr.of f)) m)
      have pw : pWay B n (nx B n s) = .error e := by unfold pWay; rw [if_neg (by omega)]; exact ee
      rw [E, pw, bnd_n]
    · have x11 : xk B n s = 11 := w12.mp y12
      rw [if_pos x11] at E
      refine ⟨⟨by omega, by omega⟩, q_thg (aN := rN + 1) m8 gm8 (by omega) (by omega) (fun s2 u p f m => ⟨by unfold InZ; omega, ?_⟩) (fun e u p f m => ⟨by unfold InZ; omega, hno e u ?_ (F8.tr (fun i k q1 q2 => f i k q1 (by omega))) m⟩)⟩
      · rw [p, bnd_y] at E
        have C := ft_ch C8 f
        refine hok _ _ u E ((F8.st (by omega)).tr (FRr.of f)) m ⟨?_, fun _ => ?_, ?_, ?_⟩
        · rw [C _ _ (by omega), mset_k (by omega), mset_at, y12]; rfl
        · rw [C _ _ (by omega), mset_at]
        · rw [C _ _ (by omega), mset_k (by omega), mset_k (by omega)]; exact z2
        · rw [C _ _ (by omega), mset_k (by omega), mset_k (by omega)]; exact z5
      · rw [E, p, bnd_n]
  unfold F_X12_test
  refine q_inWords x.1 ⟨fun q => go (by omega), fun q1 => ⟨fun q => go (by omega), fun q2 => ⟨fun q => go (by omega), fun q3 => ?_⟩⟩⟩
  refine mx_failsZ x (by decide) (fun u e ee f m => hno e u ?_ (FRr.of f) m)
  have pt : pTst B n s = .error e := by unfold pTst; rw [if_neg (by omega)]; exact ee
  rw [E, pt, bnd_n]
/-- an order behind its word; k is x's number of the word -/
theorem q_dayOrder {rN : Nat} {k a1 a : Int} {Q : Int → Mem → Prop} (x : MS h B n s) (gr : GMr h g) (ha : a = (rN : Int)) (r1 : 1872 ≤ rN) (r2 : rN + 6 ≤ 3008) (hk : (a1 = k ∧ 14 ≤ k ∧ k ≤ 18) ∨ (a1 = 19 ∧ k = 21) ∨ (a1 = 21 ∧ k = 23)) (z0 : h 162 rN = a1) (z1 : h 162 (rN + 1) = 0) (z2 : h 162 (rN + 2) = 0) (z5 : h 162 (rN + 5) = 0)
    (hok : ∀ s' e u, pRest B n g k s = .ok (s', e) → FRr rN h u → MS u B n s' → EW u rN e → Q 1 u) (hno : ∀ e u, pRest B n g k s = .error e → FRr rN h u → ME u e → Q 0 u) : F_X12_dayOrder h a1 a Q := by
  subst ha
  have E : pRest B n g k s = pRest B n g k s := rfl
  conv at E => rhs; unfold pRest
  have C0 : ∀ i l, i ≠ 161 → h i l = h i l := fun _ _ _ => rfl
  unfold F_X12_dayOrder
  refine ⟨fun q => ?_, fun q => ?_, fun q => ?_, fun q => ?_, fun q => ?_, fun q => ?_, fun q => ?_⟩
  · rw [if_pos (by omega)] at E
    refine ⟨⟨by omega, by omega⟩, mx_num (aN := rN + 1) x (by omega) (by omega) (fun s2 u p f m => ⟨by unfold InZ; omega, ?_⟩) (fun e u p f m => ⟨by unfold InZ; omega, hno e u ?_ (FRr.of f) m⟩)⟩
    · rw [p, bnd_y] at E
      have C := ft_ch C0 f
      refine hok _ _ u E (((FRr.of FTf.rf).st (by omega)).tr (FRr.of f)) m ⟨?_, fun _ => ?_, ?_, ?_⟩
      · rw [C _ _ (by omega), mset_k (by omega), z0, q]; rfl
      · rw [C _ _ (by omega), mset_at]
      · rw [C _ _ (by omega), mset_k (by omega)]; exact z2
      · rw [C _ _ (by omega), mset_k (by omega)]; exact z5
    · rw [E, p, bnd_n]
  · rw [if_neg (by omega), if_pos (by omega)] at E
    refine ⟨⟨by omega, by omega⟩, q_thg (aN := rN + 1) x gr (by omega) (by omega) (fun s2 u p f m => ⟨fun z => absurd z (by decide), fun _ => ?_⟩) (fun e u p f m => ⟨fun _ => hno e u ?_ (fun i k q1 q2 => f i k q1 (by omega)) m, fun z => absurd rfl z⟩)⟩
    · rw [p, bnd_y] at E
      have C := ft_ch C0 f
      have F : FRr rN h u := ((FRr.of FTf.rf).st (by omega)).tr (FRr.of f)
      obtain ⟨g1, g2, g3, g4, g5, g6, g7, g8, g9⟩ := gr.rr r1 F
      rw [g3]
      refine ⟨⟨by omega, by omega⟩, ⟨by omega, by omega⟩, mx_num (aN := rN + 2) m (by omega) (by omega) (fun s3 v p3 fv mv => ⟨fun z => absurd z (by decide), fun _ => ?_⟩) (fun e v p3 fv mv => ⟨fun _ => hno e v ?_ (F.tr (FRr.of fv)) mv, fun z => absurd rfl z⟩)⟩
      · rw [p3, bnd_y] at E
        have D := ft_ch C fv
        refine hok _ _ v E ((F.st (by omega)).tr (FRr.of fv)) mv ⟨?_, fun _ => ?_, ?_, ?_⟩
        · rw [D _ _ (by omega), mset_k (by omega), mset_k (by omega), z0, q]; rfl
        · rw [D _ _ (by omega), mset_k (by omega), mset_at]
        · rw [D _ _ (by omega), mset_at]
        · rw [D _ _ (by omega), mset_k (by omega), mset_k (by omega)]; exact z5
      · rw [E, p3, bnd_n]
    · rw [E, p, bnd_n]
  · rw [if_neg (by omega), if_neg (by omega), if_pos (by omega)] at E
    refine ⟨⟨by omega, by omega⟩, q_thg (aN := rN + 1) x gr (by omega) (by omega) (fun s2 u p f m => ⟨by unfold InZ; omega, ?_⟩) (fun e u p f m => ⟨by unfold InZ; omega, hno e u ?_ (fun i k q1 q2 => f i k q1 (by omega)) m⟩)⟩
    · rw [p, bnd_y] at E
      have C := ft_ch C0 f
      refine hok _ _ u E (((FRr.of FTf.rf).st (by omega)).tr (FRr.of f)) m ⟨?_, fun _ => ?_, ?_, ?_⟩
      · rw [C _ _ (by omega), mset_k (by omega), z0, q]; rfl
      · rw [C _ _ (by omega), mset_at]
      · rw [C _ _ (by omega), mset_k (by omega)]; exact z2
      · rw [C _ _ (by omega), mset_k (by omega)]; exact z5
    · rw [E, p, bnd_n]
  · rw [if_neg (by omega), if_neg (by omega), if_neg (by omega), if_pos (by omega)] at E
    exact hok _ _ h E (FRr.of FTf.rf) x ⟨by rw [z0, q]; rfl, fun _ => z1, z2, z5⟩
  · rw [if_neg (by omega), if_neg (by omega), if_neg (by omega), if_neg (by omega), if_pos (by omega)] at E
    rw [E] at hok hno
    exact q_test x gr rfl r1 r2 z1 z2 z5 (fun s' e u p f m w => ⟨by unfold InZ; omega, hok s' e u p f m w⟩) (fun e u p f m => ⟨by unfold InZ; omega, hno e u p f m⟩)
  · rw [if_neg (by omega), if_neg (by omega), if_neg (by omega), if_neg (by omega), if_neg (by omega), if_pos (by omega)] at E
    refine ⟨⟨by omega, by omega⟩, mx_num (aN := rN + 1) x (by omega) (by omega) (fun s2 u p f m => ⟨by unfold InZ; omega, ?_⟩) (fun e u p f m => ⟨by unfold InZ; omega, hno e u ?_ (FRr.of f) m⟩)⟩
    · rw [p, bnd_y] at E
      have C := ft_ch C0 f
      refine hok _ _ u E (((FRr.of FTf.rf).st (by omega)).tr (FRr.of f)) m ⟨?_, fun _ => ?_, ?_, ?_⟩
      · rw [C _ _ (by omega), mset_k (by omega), z0, q]; rfl
      · rw [C _ _ (by omega), mset_at]
      · rw [C _ _ (by omega), mset_k (by omega)]; exact z2
      · rw [C _ _ (by omega), mset_k (by omega)]; exact z5
    · rw [E, p, bnd_n]
  · rw [if_neg (by omega), if_neg (by omega), if_neg (by omega), if_neg (by omega), if_neg (by omega), if_neg (by omega)] at E
    exact hok _ _ h E (FRr.of FTf.rf) x ⟨by rw [z0, show a1 = 21 by omega]; rfl, fun _ => z1, z2, z5⟩
end MD3
