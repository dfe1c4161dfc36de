section XD6
variable {h : Mem} {B : Nat → Int} {n : Nat} {g : Gs}
theorem s_dayLoop {h0 : Mem} {Q : Mem → Prop} (rc0 : RC h0 12 g) (wl : 2 ≤ g 0 2 ∧ g 0 2 ≤ 16) (n8 : gn g ≤ 8 ∧ (gn g : Int) = g 0 0) (n4 : gm g ≤ 4 ∧ (gm g : Int) = g 0 1) : ∀ (k i : Nat) (z : Int) (h : Mem) (p : Except (Int × Nat) (Nat × Dy)), z = (i : Int) → i + k = 300 → XDP h0 h B n p → (∀ s d, p = .ok (s, d) → DN d) → (∀ u, XDR h0 u (bnd p (fun q => pDays B n g k q.2 q.1)) → Q u) → L_X2_readFor_32 h z Q := by
  intro k
  induction k with
  | zero =>
    intro i z h p hz hi x dn hQ
    subst hz
    refine l_X2_readFor_32 ?_
    unfold B_X2_readFor_32
    exact ⟨fun _ => xd_fin x hQ, fun c => absurd (by omega) c⟩
  | succ k ih =>
    intro i z h p hz hi x dn hQ
    subst hz
    have x' := x
    obtain ⟨xs, rd, x3, fd⟩ := x'
    refine l_X2_readFor_32 ?_
    unfold B_X2_readFor_32
    refine ⟨fun c => absurd c (by omega), fun _ => ⟨x3.1, sx_isGoingOn xs (fun r12 a1 a2 => ⟨fun q => ?_, fun q => ⟨x3.1, ?_⟩⟩)⟩⟩
    · refine xd_fin x (fun u xu => hQ u ?_)
      cases p with
      | error e => exact xu
      | ok q2 =>
        obtain ⟨s, d⟩ := q2
        have t0 : tke B n s = 0 := by
          by_cases c : tke B n s = 0
          · exact c
          · exact absurd ((a1 s rfl).symm.trans q) (by rw [if_neg c]; decide)
        have e : bnd (.ok (s, d)) (fun q => pDays B n g (k + 1) q.2 q.1) = endD B n d s := by
          show pDays B n g (k + 1) d s = _
          unfold pDays
          rw [if_pos t0]
        rw [e]; exact xu
    · cases p with
      | error e => exact absurd (a2 e rfl) q
      | ok q2 =>
        obtain ⟨s, d⟩ := q2
        have r := rd s d rfl
        have dd1 := dn s d rfl
        have t0 : tke B n s ≠ 0 := fun c => q ((a1 s rfl).trans (by rw [if_pos c]))
        have e : bnd (.ok (s, d)) (fun q => pDays B n g (k + 1) q.2 q.1) = bnd (semiD B n (pStep B n g d s)) (fun q => pDays B n g k q.2 q.1) := by
          show pDays B n g (k + 1) d s = _
          conv => lhs; unfold pDays
          rw [if_neg t0]
          unfold semiD
          cases pStep B n g d s with
          | error e => rfl
          | ok q3 =>
            show bnd (pSg B n 59 q3.1) _ = bnd (bnd (pSg B n 59 q3.1) _) _
            cases pSg B n 59 q3.1 with
            | error e => rfl
            | ok s3 => rfl
        rw [e] at hQ
        have xs' : XS h B n (.ok s) := xs
        have e4 := r.2.2.2.1
        have rc : RC h 12 g := rc_same rc0 (fun a b q1 q2 => fd a b (by omega) (by omega))
        have next : ∀ (v : Mem), XDP h0 v B n (pStep B n g d s) → (∀ s' d', pStep B n g d s = .ok (s', d') → DN d') → v 34 1 = (9 : Int) ∧ (F_X8_takeSemicolon v (fun h38 => InR ((i : Int) + 1) ∧ L_X2_readFor_32 h38 ((i : Int) + 1) Q)) := fun v xv dv => by
          refine xd_semi xv (fun w xw => ⟨⟨by omega, by omega⟩, ih (i + 1) _ w _ (by omega) (by omega) xw (fun s' d' hp => ?_) hQ⟩)
          unfold semiD at hp
          obtain ⟨⟨s1, d1⟩, h1, hp⟩ := bnd_ok hp
          obtain ⟨s2, h2, hp⟩ := bnd_ok hp
          cases hp
          exact dv s1 _ h1
        have j86 : ¬ (xk B n s = 22 ∧ 0 < d 0 3) → J_X2_readFor_86 h (i : Int) (xk B n s) Q := fun nc => by
          have ep : pStep B n g d s = bnd (pLook B n d s) fun s1 => bnd (pRest B n g (xk B n s) s1) fun q => .ok (q.1, oneE d (xk B n s) q.2) := by unfold pStep; rw [if_neg nc]
          have dvs : ∀ s' d', pStep B n g d s = .ok (s', d') → DN d' := fun s' d' hp => by
            rw [ep] at hp
            obtain ⟨s1, h1, hp⟩ := bnd_ok hp
            obtain ⟨q3, h2, hp⟩ := bnd_ok hp
            cases hp
            exact dn_one dd1 (pLook_ok h1).2.1
          unfold J_X2_readFor_86
          refine s_lookAtStep xs' x3 r (fun u fu ⟨c', xu, ec⟩ => ⟨(x3.f9 fu).1, sx_advance xu (fun v fv xv => ?_)⟩)
          rw [ec] at xv
          have F := fu.tr fv
          refine s_readRest xv (x3.f9 F) (rc.f9o F) wl n8 n4 (r.f9 F) ⟨dd1.2.2.1, by have := dd1; unfold DN at this; omega⟩ (fun r34 w xe => ?_)
          obtain ⟨xw, ew, fw⟩ := xe
          have w1 : w 35 1 = d 0 1 := by rw [fw 35 1 (by omega) (by omega) (by omega), F 35 1 (by omega)]; exact r.2.1
          have w4 : w 34 4 = d 0 3 := by rw [fw 34 4 (by omega) (by omega) (by omega), F 34 4 (by omega)]; exact e4
          refine s_addStep w1 w4 ⟨dd1.1, dd1.2.1⟩ dd1.2.2.2.1 (fun y ry fy => next y ⟨?_, fun s' d' hp => ?_, ?_, ?_⟩ dvs)
          · have xy : XS y B n (pos4 (bnd (pLook B n d s) (pRest B n g (xk B n s)))) := xw.fr (fun a b q => fy a b (by omega) (by omega) (by omega))
            rw [ep]
            cases h1 : pLook B n d s with
            | error e => rw [h1] at xy; exact xy
            | ok s1 =>
              rw [h1] at xy
              have xy2 : XS y B n (pos4 (pRest B n g (xk B n s) s1)) := xy
              show XS y B n (pos5 (bnd (pRest B n g (xk B n s) s1) _))
              cases h2 : pRest B n g (xk B n s) s1 with
              | error e => rw [h2] at xy2; exact xy2
              | ok q3 => rw [h2] at xy2; exact xy2
          · rw [ep] at hp
            obtain ⟨s1, h1, hp⟩ := bnd_ok hp
            obtain ⟨q3, h2, hp⟩ := bnd_ok hp
            have l30 := (pLook_ok h1).2.1
            have en := ew (by have := dd1; unfold DN at this; omega) q3.1 q3.2 (by rw [h1, bnd_y]; exact h2)
            cases hp
            exact ry q3.2 en.1 en.2
          · refine ⟨?_, ?_⟩
            · rw [fy 34 1 (by omega) (by omega) (by omega), fw 34 1 (by omega) (by omega) (by omega), F 34 1 (by omega)]; exact x3.1
            · rw [fy 34 2 (by omega) (by omega) (by omega), fw 34 2 (by omega) (by omega) (by omega), F 34 2 (by omega)]; exact x3.2
          · exact ((fd.tr (FDf.of F)).tr (FDf.o35 fw)).tr (fun a b q1 q2 => fy a b (by omega) (by omega) (by omega))
        refine sx_keyword xs' (fun r18 hr => ?_)
        have e18 := hr s rfl
        subst e18
        refine ⟨fun q1 => j86 (fun z => q1 z.1), fun q1 => ⟨fun q2 => j86 (fun z => by omega), fun q2 => ⟨x3.1, sx_advance xs' (fun u fu xu => ?_)⟩⟩⟩
        have ep : pStep B n g d s = .ok (nx B n s, clsE d) := by unfold pStep; rw [if_pos ⟨q1, by omega⟩]
        refine s_closeLatest (r.f9 fu) dd1 (by omega) (fun v rv fv => next v ?_ (fun s' d' hp => ?_))
        · rw [ep]
          refine ⟨?_, fun s' d' hp => ?_, ⟨?_, ?_⟩, ?_⟩
          · exact XS.fr (c := .ok (nx B n s)) xu (fun a b q => fv a b (by omega) (by omega))
          · cases hp; exact rv
          · rw [fv 34 1 (by omega) (by omega), fu 34 1 (by omega)]; exact x3.1
          · rw [fv 34 2 (by omega) (by omega), fu 34 2 (by omega)]; exact x3.2
          · exact (fd.tr (FDf.of fu)).tr (fun a b q1 q2 => fv a b (by omega) (by omega))
        · rw [ep] at hp
          cases hp
          exact dn_cls dd1 (by omega)
end XD6
