/-! x reads a glen, all of it -/
def semi (B : Nat → Int) (n : Nat) (p : Except (Int × Nat) (Nat × Gs)) : Except (Int × Nat) (Nat × Gs) := bnd p (fun q => bnd (pSg B n 59 q.1) (fun s' => .ok (s', q.2)))
section XG
variable {h : Mem} {B : Nat → Int} {n : Nat} {g : Gs} {T : Nat}
theorem xp_semi {u : Mem} {T' : Nat} {p : Except (Int × Nat) (Nat × Gs)} {Q : Mem → Prop} (x : XP h u B n T' p) (hQ : ∀ v, XP h v B n T' (semi B n p) → Q v) : u 33 0 = (9 : Int) ∧ (F_X8_takeSemicolon u (fun h7 => Q h7)) := by
  obtain ⟨xu, rc, x3, fg⟩ := x
  refine ⟨x3.1, sx_takeSemicolon xu (fun v fv xv => hQ v ⟨?_, fun s' g' hp => ?_, x3.f9 fv, fg.tr (FGf.of fv)⟩)⟩
  · unfold semi
    cases p with
    | error e => exact xv
    | ok q =>
      have xv' : XS v B n (pSg B n 59 q.1) := xv
      show XS v B n (pos2 (bnd (pSg B n 59 q.1) _))
      cases d : pSg B n 59 q.1 with
      | error e => rw [d] at xv'; exact xv'
      | ok s' => rw [d] at xv'; exact xv'
  · obtain ⟨q, h1, hp⟩ := bnd_ok hp
    obtain ⟨s2, h2, hp⟩ := bnd_ok hp
    cases hp
    exact (rc q.1 q.2 h1).f9 fv
theorem s_readPart {s : Nat} {Q : Mem → Prop} (x : XS h B n (.ok s)) (x3 : X33 h T) (hT : T < 16) (r : RC h 146 g) (w : WF 0 g) (hQ : ∀ u, XP h u B n (toldN B n T s) (semi B n (pPart B n g T s)) → Q u) : F_X5_readPart h Q := by
  unfold F_X5_readPart
  refine ⟨x3.1, sx_keyword x (fun r3 hr => ?_)⟩
  have e3 := hr s rfl
  subst e3
  have bad : ¬ (0 ≤ xk B n s ∧ xk B n s ≤ 3) → xk B n s ≠ 7 → xk B n s ≠ 12 → h 33 0 = (9 : Int) ∧ (F_X8_fail h 2 (fun h35 => h35 33 0 = (9 : Int) ∧ (F_X8_takeSemicolon h35 (fun h38 => Q h38)))) := fun c1 c7 c12 => by
    refine ⟨x3.1, sx_fail x (w := 2) (by decide) (fun u fu xu => xp_semi (p := flt B n s 2) ⟨xu, fun s' g' hp => ?_, x3.f9 fu, FGf.of fu⟩ (fun v xv => hQ v ?_))⟩
    · cases hp
    · have ep : pPart B n g T s = flt B n s 2 := by
        unfold pPart
        rw [if_neg (by omega), if_neg (by omega), if_neg (by omega), if_neg (by omega), if_neg c7, if_neg c12]
      have et : toldN B n T s = T := by unfold toldN; rw [if_neg c1]
      rw [ep, et]; exact xv
  have tn : ∀ k : Nat, k < 4 → xk B n s = (k : Int) → toldN B n T s = sT T k := fun k hk e => by
    unfold toldN
    rw [if_pos (by omega), e, Int.toNat_natCast]
  refine ⟨fun q => ?_, fun q => ?_, fun q => ?_, fun q => ?_, fun q => bad (by omega) (by omega) (by omega), fun q => bad (by omega) (by omega) (by omega), fun q => bad (by omega) (by omega) (by omega), fun q => ?_, fun q => bad (by omega) (by omega) (by omega), fun q => bad (by omega) (by omega) (by omega), fun q => bad (by omega) (by omega) (by omega), fun q => bad (by omega) (by omega) (by omega), fun q => ?_, fun q => bad (by omega) (by omega) (by omega)⟩
  · rw [tn 0 (by omega) q] at hQ
    have ep : pPart B n g T s = pScal B n g (longB g T) 2 2 16 s := by unfold pPart; rw [if_pos q]
    rw [ep] at hQ
    exact s_readLong x x3 hT r w (fun u xu => xp_semi xu hQ)
  · rw [tn 1 (by omega) q] at hQ
    have ep : pPart B n g T s = pScal B n g (T.testBit 1) 3 1 40 s := by unfold pPart; rw [if_neg (by omega), if_pos q]
    rw [ep] at hQ
    refine s_takeOnce (k := 1) x x3 hT (by omega) rfl (fun v fv xv xv3 => ⟨146, xv3.2.1, lay_33, xv3.1, ?_⟩)
    exact s_scal (i := 3) r fv xv rfl xv3 (by omega) (by omega) (fun u xu => xp_semi xu hQ)
  · rw [tn 2 (by omega) q] at hQ
    have ep : pPart B n g T s = pScal B n g (T.testBit 2) 4 0 16 s := by unfold pPart; rw [if_neg (by omega), if_neg (by omega), if_pos q]
    rw [ep] at hQ
    refine s_takeOnce (k := 2) x x3 hT (by omega) rfl (fun v fv xv xv3 => ⟨146, xv3.2.1, lay_33, xv3.1, ?_⟩)
    exact s_scal (i := 4) r fv xv rfl xv3 (by omega) (by omega) (fun u xu => xp_semi xu hQ)
  · rw [tn 3 (by omega) q] at hQ
    have ep : pPart B n g T s = pStream B n g (T.testBit 3) s := by unfold pPart; rw [if_neg (by omega), if_neg (by omega), if_neg (by omega), if_pos q]
    rw [ep] at hQ
    exact s_readStream x x3 hT r w (fun u xu => xp_semi xu hQ)
  · have et : toldN B n T s = T := by unfold toldN; rw [if_neg (by omega)]
    have ep : pPart B n g T s = pThing B n g s := by unfold pPart; rw [if_neg (by omega), if_neg (by omega), if_neg (by omega), if_neg (by omega), if_pos q]
    rw [et, ep] at hQ
    exact s_readThing x x3 r w (fun u xu => xp_semi xu hQ)
  · have et : toldN B n T s = T := by unfold toldN; rw [if_neg (by omega)]
    have ep : pPart B n g T s = pMill B n g s := by unfold pPart; rw [if_neg (by omega), if_neg (by omega), if_neg (by omega), if_neg (by omega), if_neg (by omega), if_pos q]
    rw [et, ep] at hQ
    exact s_readMill x x3 r w (fun u xu => xp_semi xu hQ)
/-- what has come of the text -/
def XR2 (h u : Mem) (r : Except (Int × Nat) Gs) : Prop := (∀ g, r = .ok g → (u 9 9 = 0 ∧ u 9 10 = -1) ∧ RC u 146 g) ∧ (∀ e, r = .error e → u 9 9 = e.1 ∧ e.1 ≠ 0 ∧ u 9 10 = (e.2 : Int)) ∧ FGf h u
theorem s_readLoop {h0 : Mem} {Q : Mem → Prop} (hn : n ≤ 900) : ∀ (k i : Nat) (z : Int) (h : Mem) (T : Nat) (p : Except (Int × Nat) (Nat × Gs)), z = (i : Int) → i + k = 900 → XP h0 h B n T p → (∀ s g, p = .ok (s, g) → GPp B n g T s) → (∀ u, XR2 h0 u (bnd p (fun q => pGlen B n k q.2 T q.1)) → Q u) → L_X5_readInto_24 h z Q := by
  intro k
  induction k with
  | zero =>
    intro i z h T p hz hi x gp hQ
    subst hz
    refine l_X5_readInto_24 ?_
    unfold B_X5_readInto_24
    refine ⟨fun _ => hQ h ⟨fun g hg => ?_, fun e he => ?_, x.2.2.2⟩, fun c => absurd (by omega) c⟩
    · obtain ⟨⟨s1, g1⟩, h1, h2⟩ := bnd_ok hg
      cases h2
      have xs := x.1
      rw [h1] at xs
      exact ⟨xs.2, x.2.1 s1 g1 h1⟩
    · have xs := x.1
      cases p with
      | ok q => cases he
      | error e2 => cases he; exact ⟨xs.2.1, xs.2.2.1, xs.2.2.2⟩
  | succ k ih =>
    intro i z h T p hz hi x gp hQ
    subst hz
    obtain ⟨xs, rc, x3, fg⟩ := x
    refine l_X5_readInto_24 ?_
    unfold B_X5_readInto_24
    refine ⟨fun c => absurd c (by omega), fun _ => ⟨x3.1, sx_isGoingOn xs (fun r9 a1 a2 => ⟨fun q => hQ h ?_, fun q => ?_⟩)⟩⟩
    · cases p with
      | error e =>
        refine ⟨fun g hg => (by cases hg), fun e2 he => ?_, fg⟩
        cases he; exact ⟨xs.2.1, xs.2.2.1, xs.2.2.2⟩
      | ok q2 =>
        obtain ⟨s, g⟩ := q2
        have t0 : tke B n s = 0 := by
          by_cases c : tke B n s = 0
          · exact c
          · exact absurd ((a1 s rfl).symm.trans q) (by rw [if_neg c]; decide)
        have e : bnd (.ok (s, g)) (fun q => pGlen B n (k + 1) q.2 T q.1) = .ok g := by
          show pGlen B n (k + 1) g T s = .ok g
          unfold pGlen
          rw [if_pos t0]
        rw [e]
        exact ⟨fun g2 hg => (by cases hg; exact ⟨xs.2, rc s g rfl⟩), fun e2 he => (by cases he), fg⟩
    · cases p with
      | error e => exact absurd (a2 e rfl) q
      | ok q2 =>
        obtain ⟨s, g⟩ := q2
        have gps := gp s g rfl
        have t0 : tke B n s ≠ 0 := fun c => q ((a1 s rfl).trans (by rw [if_pos c]))
        have e : bnd (.ok (s, g)) (fun q => pGlen B n (k + 1) q.2 T q.1) = bnd (semi B n (pPart B n g T s)) (fun q => pGlen B n k q.2 (toldN B n T s) q.1) := by
          show pGlen B n (k + 1) g T s = _
          conv => lhs; unfold pGlen
          rw [if_neg t0]
          unfold semi
          cases pPart B n g T s with
          | error e => rfl
          | ok q3 =>
            show bnd (pSg B n 59 q3.1) _ = bnd (bnd (pSg B n 59 q3.1) _) _
            cases pSg B n 59 q3.1 with
            | error e => rfl
            | ok s3 => rfl
        rw [e] at hQ
        refine s_readPart xs x3 gps.2.2.1 (rc s g rfl) gps.1 (fun u xu => ⟨⟨by omega, by omega⟩, ih (i + 1) _ u _ _ (by omega) (by omega) ⟨xu.1, xu.2.1, xu.2.2.1, fg.tr xu.2.2.2⟩ (fun s' g' hp => ?_) hQ⟩)
        unfold semi at hp
        obtain ⟨⟨s1, g1⟩, h1, hp⟩ := bnd_ok hp
        obtain ⟨s2, h2, hp⟩ := bnd_ok hp
        obtain ⟨p1, l1⟩ := gp_part gps h1
        obtain ⟨e2, k2⟩ := pSg_ok h2
        have a2 := nx_w p1.2.1 (Or.inr (Or.inr k2))
        obtain ⟨w, sn, r⟩ := p1
        cases hp
        exact ⟨w, by rw [e2]; exact a2.2, r⟩
theorem gp_g0 {s : Nat} (hs : s ≤ n) : GPp B n g0 0 s := ⟨wf_g0, hs, by omega, fun _ => rfl, fun t ht => absurd ht (by show ¬ (t < 0); omega), fun m hm => absurd hm (by show ¬ (m < 0); omega)⟩
theorem s_readInto {s : Nat} {Q : Mem → Prop} (x : XS h B n (.ok s)) (hQ : ∀ u, XR2 h u (pGlen B n 900 g0 0 s) → Q u) : F_X5_readInto h 146 Q := by
  have n9 := x.1.1.1
  unfold F_X5_readInto
  intro h1 e1 h2 e2 h3 e3
  have y0 : h3 33 0 = 9 := by rw [e3, mset_k (by omega), e2, mset_k (by omega), e1, mset_at]; rfl
  have y1 : h3 33 1 = ((146 : Nat) : Int) := by rw [e3, mset_k (by omega), e2, mset_at]
  have y2 : h3 33 2 = 0 := by rw [e3, mset_at]
  have f3 : ∀ i k, i ≠ 33 → h3 i k = h i k := fun i k hi => by rw [e3, mset_i _ hi, e2, mset_i _ hi, e1, mset_i _ hi]
  refine ⟨146, y1, lay_33, ?_⟩
  unfold F_X4_clear
  intro c1 d1 c2 d2 c3 d3 c4 d4 c5 d5 c6 d6 c7 d7 c8 d8 c9 d9
  have f9 : ∀ i k, ¬ (146 ≤ i ∧ i < 161) → c9 i k = h3 i k := fun i k hi => by
    rw [d9, mset_i _ (by omega), d8, mset_i _ (by omega), d7, mset_i _ (by omega), d6, mset_i _ (by omega), d5, mset_i _ (by omega), d4, mset_i _ (by omega), d3, mset_i _ (by omega), d2, mset_i _ (by omega), d1, mset_i _ (by omega)]
  refine s_readLoop n9 900 0 0 c9 0 (.ok (s, g0)) rfl rfl ⟨?_, fun s' g' hp => ?_, ⟨?_, ?_, ?_⟩, ?_⟩ (fun s' g' hp => ?_) hQ
  · exact XS.fr (c := .ok s) x (fun i k p => by rw [f9 i k (by omega), f3 i k (by omega)])
  · cases hp
    refine ⟨⟨⟨?_, ?_, ?_, ?_, ?_, ?_⟩, ⟨?_, fun t ht => absurd ht (by show ¬ (t < 0); omega)⟩, ?_, fun m hm => absurd hm (by show ¬ (m < 0); omega)⟩, ?_⟩ <;> rw [d9, d8, d7, d6, d5, d4, d3, d2, d1] <;> simp [mset, g0]
  · rw [f9 33 0 (by omega)]; exact y0
  · rw [f9 33 1 (by omega)]; exact y1
  · rw [f9 33 2 (by omega)]; exact y2
  · intro i k p q r
    rw [f9 i k r, f3 i k q]
  · cases hp
    exact gp_g0 x.1.2.1
end XG
