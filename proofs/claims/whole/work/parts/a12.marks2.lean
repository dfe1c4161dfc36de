/-! mark, undo: the calls -/
def FXk (h u : Mem) : Prop := ∀ i k, ¬ (i = 0 ∧ (k = 0 ∨ k = 12)) → ¬ (81 ≤ i ∧ i < 126) → ¬ (127 ≤ i ∧ i < 145) → u i k = h i k
def FMk (h u : Mem) : Prop := ∀ i k, ¬ (i = 161 ∧ (k = 2 ∨ k = 43)) → ¬ (i = 162 ∧ 448 ≤ k ∧ k < 1792) → ¬ (i = 163 ∧ 12 ≤ k ∧ k < 48) → u i k = h i k
def FXu (h u : Mem) : Prop := ∀ i k, ¬ (i = 0 ∧ (k = 0 ∨ k = 12)) → ¬ (12 ≤ i ∧ i < 33) → u i k = h i k
def FMu (h u : Mem) : Prop := ∀ i k, ¬ (i = 161 ∧ (k = 2 ∨ k = 43)) → ¬ (i = 162 ∧ k < 448) → ¬ (i = 163 ∧ k < 12) → u i k = h i k
theorem mset_o {h : Mem} {a b i k : Nat} {x : Int} (n : ¬ (i = a ∧ k = b)) : mset h a b x i k = h i k := by unfold mset; rw [if_neg n]
theorem k_mark {h : Mem} {g : Gs} {d : Dy} {m : Nat} {mg : Nat → Gs} {md : Nat → Dy} (s : G2 h g) (dr : DR h d) (wd : WFD d (g 0 0) (g 0 1) (g 0 2)) (mk : MK h m mg md) {Q : Int → Int → Mem → Prop} (hQ : ∀ r u1 u m' mg' md', G2 u g → DR u d → MK u m' mg' md' → FXk h u1 → FMk u1 u → Q r r u) : F_X11_mark h (fun r1 h1 => F_X12_mark h1 (fun r2 h2 => Q r1 r2 h2)) := by
  have w := s.1
  have d60 : dn d ≤ 60 := by have := wd.2.2.2.2.1; unfold dn; omega
  obtain ⟨m3, m12, m43, mi⟩ := mk
  unfold F_X11_mark
  rw [m12, Int.toNat_natCast]
  refine ⟨fun lt => ⟨⟨by omega, by omega⟩, ?_⟩, fun ge h1 e1 => ?_⟩
  · have e81 : 80 + 1 + 15 * m = 81 + 15 * m := by omega
    rw [e81]
    refine s_copyG (o := 81 + 15 * m) (p := 12) (by omega) s.2.1 w.nm.1 w.nm.2 (fun h2 r2 f2 => ?_)
    have q12 : h2 0 12 = (m : Int) := (f2 0 (by omega) 12).trans m12
    have e127 : 126 + 1 + 6 * m = 127 + 6 * m := by omega
    rw [q12, Int.toNat_natCast, e127]
    refine ⟨⟨by omega, by omega⟩, s_copyD (o := 127 + 6 * m) (p := 27) (by omega) (dr.1.fr (fun i i1 i2 k => f2 i (by omega) k)) wd (fun h5 r5 f5 => ?_)⟩
    have q5 : h5 0 12 = (m : Int) := (f5 0 (by omega) 12).trans q12
    rw [q5]
    refine ⟨⟨by omega, by omega⟩, fun h8 e8 => ?_⟩
    have q8 : h8 0 12 = (m : Int) + 1 := by rw [e8, mset_at]
    rw [q8]
    intro u1 e1
    have x1 : ∀ i k, ¬ (i = 0 ∧ (k = 0 ∨ k = 12)) → u1 i k = h5 i k := fun i k q => by rw [e1, mset_o (by omega), e8, mset_o (by omega)]
    have fx : FXk h u1 := fun i k q1 q2 q3 => by rw [x1 i k q1, f5 i (by omega), f2 i (by omega)]
    have u12 : u1 0 12 = (m : Int) + 1 := by rw [e1, mset_k (by omega)]; exact q8
    have u00 : u1 0 0 = 0 := by rw [e1, mset_at]
    show F_X12_mark u1 (fun r2 h2 => Q ((m : Int) + 1) r2 h2)
    unfold F_X12_mark
    rw [fx 161 43 (by omega) (by omega) (by omega), m43]
    refine ⟨fun _ => ⟨⟨by omega, by omega⟩, fun h2' e2' => ?_⟩, fun q => absurd q (by omega)⟩
    have y2 : h2' 161 43 = ((m + 1 : Nat) : Int) := by rw [e2', mset_at]; omega
    rw [y2]
    refine q_copies (a := 0) (b := m + 1) rfl rfl (by omega) (by omega) (by omega) (fun h3 c1 c2 c3 => ?_)
    rw [c3 161 43 (by omega) (by omega), y2]
    intro u e2
    have z1 : ∀ i k, ¬ (i = 161 ∧ (k = 2 ∨ k = 43)) → u i k = h3 i k := fun i k q => by rw [e2, mset_o (by omega)]
    have z2 : ∀ i k, ¬ (i = 161 ∧ (k = 2 ∨ k = 43)) → h2' i k = u1 i k := fun i k q => by rw [e2', mset_o (by omega)]
    have fm : FMk u1 u := fun i k q1 q2 q3 => by rw [z1 i k q1, c3 i k (by omega) (by omega), z2 i k q1]
    have er : (m : Int) + 1 = ((m + 1 : Nat) : Int) := by omega
    rw [er]
    have all : ∀ i k, ¬ (i = 0 ∧ (k = 0 ∨ k = 12)) → ¬ (81 ≤ i ∧ i < 126) → ¬ (127 ≤ i ∧ i < 145) → ¬ (i = 161 ∧ (k = 2 ∨ k = 43)) → ¬ (i = 162 ∧ 448 ≤ k ∧ k < 1792) → ¬ (i = 163 ∧ 12 ≤ k ∧ k < 48) → u i k = h i k := fun i k q1 q2 q3 q4 q5 q6 => (fm i k q4 q5 q6).trans (fx i k q1 q2 q3)
    refine hQ _ u1 u (m + 1) (fun i => if i = m then g else mg i) (fun i => if i = m then d else md i) ⟨w, s.2.1.eq (fun i i1 i2 k => all i k (by omega) (by omega) (by omega) (by omega) (by omega) (by omega)), s.2.2.1.fr w.nm.1 w.nm.2 (fun k hk => all 162 k (by omega) (by omega) (by omega) (by omega) (by omega) (by omega)), ⟨fun t ht => ?_, fun t ht => ?_⟩, ?_⟩ ⟨dr.1.fr (fun i i1 i2 k => all i k (by omega) (by omega) (by omega) (by omega) (by omega) (by omega)), dr.2.fr d60 (fun k hk => all 162 k (by omega) (by omega) (by omega) (by omega) (by omega) (by omega))⟩ ⟨by omega, ?_, ?_, fun i hi => ?_⟩ fx fm
    · have := w.nm.1
      rw [all 163 t (by omega) (by omega) (by omega) (by omega) (by omega) (by omega)]; exact s.2.2.2.1.1 t ht
    · have := w.nm.2
      rw [all 163 (8 + t) (by omega) (by omega) (by omega) (by omega) (by omega) (by omega)]; exact s.2.2.2.1.2 t ht
    · rw [fm 0 0 (by omega) (by omega) (by omega), u00, e2, mset_at]
    · rw [fm 0 12 (by omega) (by omega) (by omega), u12]; omega
    · rw [e2, mset_k (by omega), c3 161 43 (by omega) (by omega), y2]
    · by_cases ci : i = m
      · subst ci
        show MkI u i (if i = i then g else mg i) (if i = i then d else md i)
        rw [if_pos rfl, if_pos rfl]
        have rc8 : RC u1 (81 + 15 * i) g := by
          have r5' : RC h5 (81 + 15 * i) g := r2.fr f5 (by omega)
          rw [e1, e8]
          exact (r5'.fr (lo := 0) (hi := 1) (Fr.rf.st (by omega) (by omega)) (by omega)).fr (lo := 0) (hi := 1) (Fr.rf.st (by omega) (by omega)) (by omega)
        have rd8 : RD u1 (127 + 6 * i) d := r5.fr (fun j j1 j2 k => x1 j k (by omega))
        have rcu : RC u (81 + 15 * i) g := by
          have q : Fr 161 10000 u1 (fun j k => if j < 161 then u j k else u1 j k) := fun j hj k => by
            by_cases c : j < 161
            · show (if j < 161 then u j k else u1 j k) = u1 j k
              rw [if_pos c]; exact fm j k (by omega) (by omega) (by omega)
            · show (if j < 161 then u j k else u1 j k) = u1 j k
              rw [if_neg c]
          have e : u = (fun j k => u j k) := rfl
          have eqv : ∀ j, j < 161 → ∀ k, u j k = u1 j k := fun j hj k => fm j k (by omega) (by omega) (by omega)
          obtain ⟨⟨⟨a1, a2, a3, a4, a5, a6⟩, ⟨t0, tr⟩, b0, mr⟩, a7⟩ := rc8
          refine ⟨⟨⟨?_, ?_, ?_, ?_, ?_, ?_⟩, ⟨?_, fun t ht => ?_⟩, ?_, fun t ht => ?_⟩, ?_⟩
          · rw [eqv _ (by omega)]; exact a1
          · rw [eqv _ (by omega)]; exact a2
          · rw [eqv _ (by omega)]; exact a3
          · rw [eqv _ (by omega)]; exact a4
          · rw [eqv _ (by omega)]; exact a5
          · rw [eqv _ (by omega)]; exact a6
          · rw [eqv _ (by omega)]; exact t0
          · rw [eqv _ (by omega), eqv _ (by omega), eqv _ (by omega), eqv _ (by omega), eqv _ (by omega), eqv _ (by omega), eqv _ (by omega), eqv _ (by omega)]; exact tr t ht
          · rw [eqv _ (by omega)]; exact b0
          · rw [eqv _ (by omega), eqv _ (by omega), eqv _ (by omega), eqv _ (by omega)]; exact mr t ht
          · rw [eqv _ (by omega)]; exact a7
        have n8 := w.nm
        have cell : ∀ k, k < 448 → u 162 (448 * (i + 1) + k) = h 162 k := fun k hk => by
          rw [z1 162 _ (by omega), c1 k hk, z2 162 _ (by omega), fx 162 _ (by omega) (by omega) (by omega)]
          congr 1
          omega
        have name : ∀ k, k < 12 → u 163 (12 * (i + 1) + k) = h 163 k := fun k hk => by
          rw [z1 163 _ (by omega), c2 k hk, z2 163 _ (by omega), fx 163 _ (by omega) (by omega) (by omega)]
          congr 1
          omega
        refine ⟨w, rcu, rd8.fr (fun j j1 j2 k => fm j k (by omega) (by omega) (by omega)), wd, fun z hz => s.2.2.1.fr w.nm.1 w.nm.2 (fun k hk => by rw [hz k hk, cell k (by omega)]), ⟨?_, fun k hk => ?_⟩, fun t ht => ?_, fun t ht => ?_⟩
        · have q := dr.2.1
          rw [Nat.zero_add] at q
          rw [cell 9 (by omega)]; exact q
        · have q := dr.2.2 k hk
          rw [Nat.zero_add, Nat.zero_add, Nat.zero_add, Nat.zero_add, Nat.zero_add] at q
          rw [cell _ (by omega), cell _ (by omega), cell _ (by omega), cell _ (by omega), cell _ (by omega)]
          exact q
        · rw [name t (by omega)]; exact s.2.2.2.1.1 t ht
        · rw [name (8 + t) (by omega)]; exact s.2.2.2.1.2 t ht
      · show MkI u i (if i = m then g else mg i) (if i = m then d else md i)
        rw [if_neg ci, if_neg ci]
        refine (mi i (by omega)).fr (by omega) (fun j j1 j2 k => ?_) (fun j j1 j2 k => ?_) (fun k k1 k2 => ?_) (fun k k1 k2 => ?_)
        · rw [fm j k (by omega) (by omega) (by omega), x1 j k (by omega), f5 j (by omega), f2 j (by omega)]
        · rw [fm j k (by omega) (by omega) (by omega), x1 j k (by omega), f5 j (by omega), f2 j (by omega)]
        · rw [z1 162 k (by omega), c3 162 k (by omega) (by omega), z2 162 k (by omega), fx 162 k (by omega) (by omega) (by omega)]
        · rw [z1 163 k (by omega), c3 163 k (by omega) (by omega), z2 163 k (by omega), fx 163 k (by omega) (by omega) (by omega)]
  · have e3 : m = 3 := by omega
    have fx : FXk h h1 := fun i k q1 q2 q3 => by rw [e1, mset_o (by omega)]
    show F_X12_mark h1 (fun r2 h2 => Q (-1) r2 h2)
    unfold F_X12_mark
    rw [fx 161 43 (by omega) (by omega) (by omega), m43]
    refine ⟨fun q => absurd (by omega) q, fun _ u e2 => ?_⟩
    have fm : FMk h1 u := fun i k q1 q2 q3 => by rw [e2, mset_o (by omega)]
    have all : ∀ i k, ¬ (i = 0 ∧ k = 0) → ¬ (i = 161 ∧ k = 2) → u i k = h i k := fun i k q1 q2 => by rw [e2, mset_o q2, e1, mset_o q1]
    refine hQ _ h1 u m mg md ⟨w, s.2.1.eq (fun i i1 i2 k => all i k (by omega) (by omega)), s.2.2.1.fr w.nm.1 w.nm.2 (fun k hk => all 162 k (by omega) (by omega)), s.2.2.2.1.fr (fun k => all 163 k (by omega) (by omega)), ?_⟩ ⟨dr.1.fr (fun i i1 i2 k => all i k (by omega) (by omega)), dr.2.fr d60 (fun k hk => all 162 k (by omega) (by omega))⟩ ⟨m3, ?_, ?_, fun i hi => (mi i hi).fr (by omega) (fun j j1 j2 k => all j k (by omega) (by omega)) (fun j j1 j2 k => all j k (by omega) (by omega)) (fun k _ _ => all 162 k (by omega) (by omega)) (fun k _ _ => all 163 k (by omega) (by omega))⟩ fx fm
    · rw [e2, mset_at, mset_i _ (by omega), e1, mset_at]
    · rw [all 0 12 (by omega) (by omega)]; exact m12
    · rw [all 161 43 (by omega) (by omega)]; exact m43
theorem k_undo {h : Mem} {g : Gs} {d : Dy} {m : Nat} {mg : Nat → Gs} {md : Nat → Dy} (s : G2 h g) (dr : DR h d) (wd : WFD d (g 0 0) (g 0 1) (g 0 2)) (mk : MK h m mg md) {Q : Int → Int → Mem → Prop} (hQ : ∀ r u1 u g' d' m', G2 u g' → DR u d' → WFD d' (g' 0 0) (g' 0 1) (g' 0 2) → MK u m' mg md → FXu h u1 → FMu u1 u → Q r r u) : F_X11_undo h (fun r1 h1 => F_X12_undo h1 (fun r2 h2 => Q r1 r2 h2)) := by
  have w := s.1
  have d60 : dn d ≤ 60 := by have := wd.2.2.2.2.1; unfold dn; omega
  obtain ⟨m3, m12, m43, mi⟩ := mk
  unfold F_X11_undo
  rw [m12]
  refine ⟨fun lt => ⟨⟨by omega, by omega⟩, fun h2 e2 => ?_⟩, fun ge h1 e1 => ?_⟩
  · obtain ⟨n, rfl⟩ : ∃ n, m = n + 1 := ⟨m - 1, by omega⟩
    have mn := mi n (by omega)
    obtain ⟨wn, rcn, rdn, wdn, sbn, rmn, rnn⟩ := id mn
    have dn60 : dn (md n) ≤ 60 := by have := wdn.2.2.2.2.1; unfold dn; omega
    have q2 : h2 0 12 = (n : Int) := by rw [e2, mset_at]; omega
    have f02 : Fr 0 1 h h2 := by rw [e2]; exact Fr.rf.st (by omega) (by omega)
    have e81 : 80 + 1 + 15 * n = 81 + 15 * n := by omega
    rw [q2, Int.toNat_natCast, e81]
    refine ⟨⟨by omega, by omega⟩, s_copyG (o := 12) (p := 81 + 15 * n) (by omega) (rcn.fr f02 (by omega)) wn.nm.1 wn.nm.2 (fun h4 r4 f4 => ?_)⟩
    have q4 : h4 0 12 = (n : Int) := (f4 0 (by omega) 12).trans q2
    have e127 : 126 + 1 + 6 * n = 127 + 6 * n := by omega
    rw [q4, Int.toNat_natCast, e127]
    refine ⟨⟨by omega, by omega⟩, s_copyD (o := 27) (p := 127 + 6 * n) (by omega) (rdn.fr (fun i i1 i2 k => (f4 i (by omega) k).trans (f02 i (by omega) k))) wdn (fun h7 r7 f7 => ?_)⟩
    have q7 : h7 0 12 = (n : Int) := (f7 0 (by omega) 12).trans q4
    rw [q7]
    intro u1 e1
    have x1 : ∀ i k, ¬ (i = 0 ∧ k = 0) → u1 i k = h7 i k := fun i k q => by rw [e1, mset_o q]
    have fx : FXu h u1 := fun i k q1 q2 => by rw [x1 i k (by omega), f7 i (by omega), f4 i (by omega), e2, mset_o (by omega)]
    have u00 : u1 0 0 = 0 := by rw [e1, mset_at]
    have u12 : u1 0 12 = (n : Int) := (x1 0 12 (by omega)).trans q7
    have rcu1 : RC u1 12 (mg n) := by rw [e1]; exact (r4.fr f7 (by omega)).fr (lo := 0) (hi := 1) (Fr.rf.st (by omega) (by omega)) (by omega)
    have rdu1 : RD u1 27 (md n) := r7.fr (fun i i1 i2 k => x1 i k (by omega))
    show F_X12_undo u1 (fun r2 h2 => Q (n : Int) r2 h2)
    unfold F_X12_undo
    rw [fx 161 43 (by omega) (by omega), m43]
    refine ⟨fun _ => q_copies (a := n + 1) (b := 0) rfl rfl (by omega) (by omega) (by omega) (fun h1 c1 c2 c3 => ?_), fun q => absurd q (by omega)⟩
    have y43 : h1 161 43 = ((n + 1 : Nat) : Int) := by rw [c3 161 43 (by omega) (by omega), fx 161 43 (by omega) (by omega)]; exact m43
    rw [y43]
    refine ⟨⟨by omega, by omega⟩, fun h4' e4' => ?_⟩
    have z43 : h4' 161 43 = (n : Int) := by rw [e4', mset_at]; omega
    rw [z43]
    intro u e5
    have z1 : ∀ i k, ¬ (i = 161 ∧ (k = 2 ∨ k = 43)) → u i k = h1 i k := fun i k q => by rw [e5, mset_o (by omega), e4', mset_o (by omega)]
    have fm : FMu u1 u := fun i k q1 q2 q3 => by rw [z1 i k q1, c3 i k (by omega) (by omega)]
    have cell : ∀ k, k < 448 → u 162 k = h 162 (448 * (n + 1) + k) := fun k hk => by
      have q := c1 k hk
      rw [show 448 * 0 + k = k by omega] at q
      rw [z1 162 _ (by omega), q, fx 162 _ (by omega) (by omega)]
    have name : ∀ k, k < 12 → u 163 k = h 163 (12 * (n + 1) + k) := fun k hk => by
      have q := c2 k hk
      rw [show 12 * 0 + k = k by omega] at q
      rw [z1 163 _ (by omega), q, fx 163 _ (by omega) (by omega)]
    have nm := wn.nm
    refine hQ _ u1 u (mg n) (md n) n ⟨wn, rcu1.eq (fun i i1 i2 k => fm i k (by omega) (by omega) (by omega)), sbn u (fun k hk => cell k (by omega)), ⟨fun t ht => ?_, fun t ht => ?_⟩, ?_⟩ ⟨rdu1.fr (fun i i1 i2 k => fm i k (by omega) (by omega) (by omega)), ?_, fun k hk => ?_⟩ wdn ⟨by omega, ?_, ?_, fun i hi => (mi i (by omega)).fr (by omega) (fun j j1 j2 k => ?_) (fun j j1 j2 k => ?_) (fun k k1 k2 => ?_) (fun k k1 k2 => ?_)⟩ fx fm
    · rw [name t (by omega)]; exact rnn.1 t ht
    · rw [name (8 + t) (by omega)]; exact rnn.2 t ht
    · rw [fm 0 0 (by omega) (by omega) (by omega), u00, e5, mset_at]
    · rw [Nat.zero_add, cell 9 (by omega)]; exact rmn.1
    · rw [Nat.zero_add, Nat.zero_add, Nat.zero_add, Nat.zero_add, Nat.zero_add, cell _ (by omega), cell _ (by omega), cell _ (by omega), cell _ (by omega), cell _ (by omega)]
      exact rmn.2 k hk
    · rw [fm 0 12 (by omega) (by omega) (by omega), u12]
    · rw [e5, mset_k (by omega), z43]
    · rw [fm j k (by omega) (by omega) (by omega), fx j k (by omega) (by omega)]
    · rw [fm j k (by omega) (by omega) (by omega), fx j k (by omega) (by omega)]
    · rw [fm 162 k (by omega) (by omega) (by omega), fx 162 k (by omega) (by omega)]
    · rw [fm 163 k (by omega) (by omega) (by omega), fx 163 k (by omega) (by omega)]
  · have e3 : m = 0 := by omega
    have fx : FXu h h1 := fun i k q1 q2 => by rw [e1, mset_o (by omega)]
    show F_X12_undo h1 (fun r2 h2 => Q (-1) r2 h2)
    unfold F_X12_undo
    rw [fx 161 43 (by omega) (by omega), m43]
    refine ⟨fun q => absurd (by omega) q, fun _ u e2 => ?_⟩
    have fm : FMu h1 u := fun i k q1 q2 q3 => by rw [e2, mset_o (by omega)]
    have all : ∀ i k, ¬ (i = 0 ∧ k = 0) → ¬ (i = 161 ∧ k = 2) → u i k = h i k := fun i k q1 q2 => by rw [e2, mset_o q2, e1, mset_o q1]
    refine hQ _ h1 u g d m ⟨w, s.2.1.eq (fun i i1 i2 k => all i k (by omega) (by omega)), s.2.2.1.fr w.nm.1 w.nm.2 (fun k hk => all 162 k (by omega) (by omega)), s.2.2.2.1.fr (fun k => all 163 k (by omega) (by omega)), ?_⟩ ⟨dr.1.fr (fun i i1 i2 k => all i k (by omega) (by omega)), dr.2.fr d60 (fun k hk => all 162 k (by omega) (by omega))⟩ wd ⟨m3, ?_, ?_, fun i hi => (mi i hi).fr (by omega) (fun j j1 j2 k => all j k (by omega) (by omega)) (fun j j1 j2 k => all j k (by omega) (by omega)) (fun k _ _ => all 162 k (by omega) (by omega)) (fun k _ _ => all 163 k (by omega) (by omega))⟩ fx fm
    · rw [e2, mset_at, mset_i _ (by omega), e1, mset_at]
    · rw [all 0 12 (by omega) (by omega)]; exact m12
    · rw [all 161 43 (by omega) (by omega)]; exact m43
