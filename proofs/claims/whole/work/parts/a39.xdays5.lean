def pos5 (p : Except (Int × Nat) (Nat × Dy)) : Er := bnd p (fun q => .ok q.1)
def semiD (B : Nat → Int) (n : Nat) (p : Except (Int × Nat) (Nat × Dy)) : Except (Int × Nat) (Nat × Dy) := bnd p (fun q => bnd (pSg B n 59 q.1) (fun s' => .ok (s', q.2)))
def XDP (h u : Mem) (B : Nat → Int) (n : Nat) (p : Except (Int × Nat) (Nat × Dy)) : Prop := XS u B n (pos5 p) ∧ (∀ s d, p = .ok (s, d) → RDr u d) ∧ X34 u ∧ FDf h u
def XDR (h u : Mem) (r : Except (Int × Nat) Dy) : Prop := (∀ d, r = .ok d → (u 9 9 = 0 ∧ u 9 10 = -1) ∧ RDr u d) ∧ (∀ e, r = .error e → u 9 9 = e.1 ∧ e.1 ≠ 0 ∧ u 9 10 = (e.2 : Int)) ∧ FDf h u
section XD5
variable {h h0 : Mem} {B : Nat → Int} {n : Nat} {g : Gs} {d : Dy}
theorem pLook_ok {s s' : Nat} (e : pLook B n d s = .ok s') : s' = nx B n s ∧ d 0 1 < 30 ∧ tke B n s = 1 := by
  unfold pLook at e
  by_cases c1 : stp (xk B n s) = false
  · rw [if_pos c1] at e; cases e
  · rw [if_neg c1] at e
    have k1 : stp (xk B n s) = true := by simpa using c1
    have kk := stp_is.mp k1
    have t1 := (xk_kw (B := B) (n := n) (s := s) (by omega)).1
    by_cases c2 : 30 ≤ d 0 1
    · rw [if_pos c2] at e; cases e
    · rw [if_neg c2] at e
      by_cases c3 : opn (xk B n s) = true ∧ 3 ≤ d 0 3
      · rw [if_pos c3] at e; cases e
      · rw [if_neg c3] at e; cases e
        exact ⟨rfl, by omega, t1⟩
theorem xd_fin {p : Except (Int × Nat) (Nat × Dy)} {Q : Mem → Prop} (x : XDP h0 h B n p) (hQ : ∀ u, XDR h0 u (bnd p (fun q => endD B n q.2 q.1)) → Q u) : ((h 34 4) ≤ 0 → Q h) ∧ (¬ ((h 34 4) ≤ 0) → (h 34 1 = (9 : Int) ∧ (F_X8_fail h 2 (fun h8 => Q h8)))) := by
  obtain ⟨xs, rd, x3, fd⟩ := x
  cases p with
  | error e =>
    have stay : ∀ u, XS u B n (.error e) → FDf h0 u → Q u := fun u xu fu => hQ u ⟨fun d hd => (by cases hd), fun e2 he => (by cases he; exact ⟨xu.2.1, xu.2.2.1, xu.2.2.2⟩), fu⟩
    exact ⟨fun _ => stay h xs fd, fun _ => ⟨x3.1, sx_fail xs (w := 2) (by decide) (fun u fu xu => stay u xu (fd.tr (FDf.of fu)))⟩⟩
  | ok q =>
    obtain ⟨s, d⟩ := q
    have r := rd s d rfl
    have e4 := r.2.2.2.1
    have ee : bnd (.ok (s, d)) (fun q => endD B n q.2 q.1) = endD B n d s := rfl
    rw [ee] at hQ
    refine ⟨fun q => hQ h ?_, fun q => ⟨x3.1, sx_fail xs (w := 2) (by decide) (fun u fu xu => hQ u ?_)⟩⟩
    · unfold endD
      rw [if_neg (by omega)]
      exact ⟨fun d2 hd => (by cases hd; exact ⟨xs.2, r⟩), fun e2 he => (by cases he), fd⟩
    · unfold endD
      rw [if_pos (by omega)]
      have xu' : XS u B n (flt B n s 2) := xu
      refine ⟨fun d2 hd => (by cases hd), fun e2 he => ?_, fd.tr (FDf.of fu)⟩
      have : (flt B n s 2 : Er) = .error e2 := by unfold flt at he ⊢; cases he; rfl
      rw [this] at xu'
      exact ⟨xu'.2.1, xu'.2.2.1, xu'.2.2.2⟩
theorem xd_semi {u : Mem} {p : Except (Int × Nat) (Nat × Dy)} {Q : Mem → Prop} (x : XDP h u B n p) (hQ : ∀ v, XDP h v B n (semiD B n p) → Q v) : u 34 1 = (9 : Int) ∧ (F_X8_takeSemicolon u (fun h7 => Q h7)) := by
  obtain ⟨xu, rc, x3, fg⟩ := x
  refine ⟨x3.1, sx_takeSemicolon xu (fun v fv xv => hQ v ⟨?_, fun s' g' hp => ?_, x3.f9 fv, fg.tr (FDf.of fv)⟩)⟩
  · unfold semiD
    cases p with
    | error e => exact xv
    | ok q =>
      have xv' : XS v B n (pSg B n 59 q.1) := xv
      show XS v B n (pos5 (bnd (pSg B n 59 q.1) _))
      cases d : pSg B n 59 q.1 with
      | error e => rw [d] at xv'; exact xv'
      | ok s' => rw [d] at xv'; exact xv'
  · obtain ⟨q, h1, hp⟩ := bnd_ok hp
    obtain ⟨s2, h2, hp⟩ := bnd_ok hp
    cases hp
    exact (rc q.1 q.2 h1).f9 fv
end XD5
