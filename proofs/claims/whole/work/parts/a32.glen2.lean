theorem k_glen {h : Mem} {g : Gs} {d : Dy} {a : Int} (s : G2 h g) (t : TE h) (fe : FE h) (kw : KWE h) (dr : DR h d) (wd : WFD d (g 0 0) (g 0 1) (g 0 2)) {Q : Int → Int → Mem → Prop} (hQ : ∀ r u1 u g' d', G2 u g' → DR u d' → WFD d' (g' 0 0) (g' 0 1) (g' 0 2) → TE u → FE u → FXg h u1 → FMg u1 u → Q r r u) : F_X11_glen h a (fun r1 h1 => F_X12_glen h1 a (fun r2 h2 => Q r1 r2 h2)) := by
  obtain ⟨w, rc, rx, rn', est⟩ := s
  obtain ⟨q, q9, t1, t2, t3⟩ := t
  have n8 := gn8 w
  have n4 := gm4 w
  have d60 : dn d ≤ 60 := by have := wd.2.2.2.2.1; unfold dn; omega
  have keepD : ∀ u : Mem, (∀ i, 27 ≤ i → i < 33 → ∀ k, u i k = h i k) → (∀ k, k < 448 → u 162 k = h 162 k) → DR u d := fun u f1 f2 => by
    refine ⟨dr.1.fr (fun i i1 i2 k => f1 i i1 i2 k), ?_, fun k hk => ?_⟩
    · rw [f2 (0 + 9) (by omega)]; exact dr.2.1
    · rw [f2 _ (by omega), f2 _ (by omega), f2 _ (by omega), f2 _ (by omega), f2 _ (by omega)]
      exact dr.2.2 k hk
  by_cases c : 0 ≤ a ∧ a ≤ (q : Int)
  · obtain ⟨n, rfl⟩ : ∃ n : Nat, a = n := ⟨a.toNat, by omega⟩
    have eqB : ∀ u1 : Mem, FXg h u1 → ∀ k, u1 167 k = (fun k => h 167 k) k := fun u1 f k => f 167 k (by omega) (by omega) (by omega) (by omega) (by omega)
    refine x_glen (B := fun k => h 167 k) q9 t1 rfl (by omega) (fun k hk => t3 k (by omega)) kw rc (fun u1 g' hp w' r1 y27 y27' y27'' y0 y9 yA y91 fx => ?_) (fun u1 e hp r1 y27 y0 y9 yA y91 fx => ?_)
    · have rx1 : RXh u1 g := rx.fr n8.1 n4.1 (fun k hk => fx 162 k (by omega) (by omega) (by omega) (by omega) (by omega))
      have rn1 : RN u1 g := ⟨fun t ht => by rw [fx 163 t (by omega) (by omega) (by omega) (by omega) (by omega)]; exact rn'.1 t ht, fun t ht => by rw [fx 163 _ (by omega) (by omega) (by omega) (by omega) (by omega)]; exact rn'.2 t ht⟩
      refine m_glen (B := fun k => h 167 k) q9 (by rw [fx 161 10 (by omega) (by omega) (by omega) (by omega) (by omega)]; exact t2) rfl (by omega) (eqB u1 fx) ⟨n8.1, n4.1⟩ rx1 rn1 (fun u g2 hp2 rx2 rn2 z9 z2 z16 z17 z10 fm => ?_) (fun u e hp2 => ?_)
      · have eg : g2 = g' := by rw [hp] at hp2; cases hp2; rfl
        subst eg
        have up : ∀ i k, i < 161 → u i k = u1 i k := fun i k hi => fm i k (by omega) (by omega) (by omega) (by omega)
        refine hQ _ u1 u g2 dNo ⟨wf_up w', rc_same r1 (fun i k p1 p2 => up i k (by omega)), rx2, rn2, ?_⟩ ⟨⟨?_, ?_, ?_, fun k hk => absurd hk (by show ¬ (k < 0); omega)⟩, ?_, fun k hk => absurd hk (by show ¬ (k < 0); omega)⟩ wfd_no ⟨0, by omega, ?_, z10, fun k hk => absurd hk (by omega)⟩ ⟨?_, ?_⟩ fx fm
        · rw [up 0 0 (by omega), y0, z2]
        · rw [up 27 0 (by omega)]; exact y27
        · rw [up 27 1 (by omega)]; exact y27'
        · rw [up 27 2 (by omega)]; exact y27''
        · show u 162 (0 + 9) = (if (0 : Int) = 0 then -1 else 0)
          rw [if_pos rfl]; exact z9
        · rw [up 9 1 (by omega)]; exact y91
        · rw [up 9 9 (by omega), y9, z16]
        · rw [up 9 10 (by omega), yA, z17]
      · rw [hp] at hp2; cases hp2
    · have rx1 : RXh u1 g := rx.fr n8.1 n4.1 (fun k hk => fx 162 k (by omega) (by omega) (by omega) (by omega) (by omega))
      have rn1 : RN u1 g := ⟨fun t ht => by rw [fx 163 t (by omega) (by omega) (by omega) (by omega) (by omega)]; exact rn'.1 t ht, fun t ht => by rw [fx 163 _ (by omega) (by omega) (by omega) (by omega) (by omega)]; exact rn'.2 t ht⟩
      refine m_glen (B := fun k => h 167 k) q9 (by rw [fx 161 10 (by omega) (by omega) (by omega) (by omega) (by omega)]; exact t2) rfl (by omega) (eqB u1 fx) ⟨n8.1, n4.1⟩ rx1 rn1 (fun u g2 hp2 => ?_) (fun u e2 hp2 rx2 rn2 zk z2 z16 z17 z10 fm => ?_)
      · rw [hp] at hp2; cases hp2
      · have ee : e2 = e := by rw [hp] at hp2; cases hp2; rfl
        subst ee
        have up : ∀ i k, i < 161 → u i k = u1 i k := fun i k hi => fm i k (by omega) (by omega) (by omega) (by omega)
        refine hQ _ u1 u g d ⟨w, rc_same r1 (fun i k p1 p2 => up i k (by omega)), rx2, rn2, ?_⟩ (keepD u (fun i i1 i2 k => by rw [up i k (by omega)]; exact y27 i i1 i2 k) (fun k hk => by rw [zk k hk, fx 162 k (by omega) (by omega) (by omega) (by omega) (by omega)])) wd ⟨0, by omega, ?_, z10, fun k hk => absurd hk (by omega)⟩ ⟨?_, ?_⟩ fx fm
        · rw [up 0 0 (by omega), y0, z2]
        · rw [up 9 1 (by omega)]; exact y91
        · rw [up 9 9 (by omega), y9, z16]
        · rw [up 9 10 (by omega), yA, z17]
  · have back : F_X11_refused h 1 (fun r14 h13 => F_X12_glen h13 a (fun r2 h2 => Q r14 r2 h2)) := by
      unfold F_X11_refused
      intro u1 e1
      have r2 : F_X12_refuse u1 1 (fun r7 h6 => Q (-1) r7 h6) := by
        unfold F_X12_refuse
        intro u e
        have f : ∀ i k, ¬ (i = 0 ∧ k = 0) → ¬ (i = 161 ∧ k = 2) → u i k = h i k := fun i k p1 p2 => by rw [e, mset_o p2, e1, mset_o p1]
        refine hQ _ u1 u g d ⟨w, rc_same rc (fun i k p1 p2 => f i k (by omega) (by omega)), rx.fr n8.1 n4.1 (fun k hk => f 162 k (by omega) (by omega)), ⟨fun t ht => by rw [f 163 t (by omega) (by omega)]; exact rn'.1 t ht, fun t ht => by rw [f 163 _ (by omega) (by omega)]; exact rn'.2 t ht⟩, ?_⟩ (keepD u (fun i i1 i2 k => f i k (by omega) (by omega)) (fun k hk => f 162 k (by omega) (by omega))) wd ⟨q, q9, by rw [f 9 1 (by omega) (by omega)]; exact t1, by rw [f 161 10 (by omega) (by omega)]; exact t2, fun k hk => by rw [f 10 k (by omega) (by omega), f 167 k (by omega) (by omega)]; exact t3 k hk⟩ ⟨?_, ?_⟩ (fun i k p1 p2 p3 p4 p5 => by rw [e1, mset_o p1]) (fun i k p1 p2 p3 p4 => by rw [e, mset_o (by omega)])
        · rw [e, mset_at, mset_i _ (by omega), e1, mset_at]
        · rw [f 9 9 (by omega) (by omega), f 161 16 (by omega) (by omega)]; exact fe.1
        · rw [f 9 10 (by omega) (by omega), f 161 17 (by omega) (by omega)]; exact fe.2
      have e10 : u1 161 10 = (q : Int) := by rw [e1, mset_i _ (by omega)]; exact t2
      unfold F_X12_glen F_X12_begins
      rw [e10]
      exact ⟨fun _ => ⟨fun z => absurd rfl z, fun _ => r2⟩, fun _ => ⟨fun _ => ⟨fun z => absurd rfl z, fun _ => r2⟩, fun z => absurd ⟨by omega, by omega⟩ c⟩⟩
    unfold F_X11_glen F_X11_outside
    rw [t1]
    exact ⟨fun _ => ⟨fun z => absurd z (by decide), fun _ => back⟩, fun _ => ⟨fun z => absurd ⟨by omega, z⟩ c, fun _ => ⟨fun z => absurd z (by decide), fun _ => back⟩⟩⟩
