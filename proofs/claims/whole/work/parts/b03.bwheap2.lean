section BWH2
variable {M : Hd} {pc : Nat} {ls : LoS} {st : List Vl} {h : BM} {Q : PostB}
theorem bin_S {S : List Nat} {a t n : Nat} (hv : okB S (vr a)) (ha : lay a = (t, n)) (ht : t < 9) : a ∈ S := by
  rcases hv with q | q
  · exact q
  · exact absurd (lay_lt ha ht) (by show ¬ (a < 181); omega)
theorem bw_gf4 {idx ci k a q N : Nat} {C : String} {T : u_T} {ty : Nat → FieldType} (hK : ClK ci C T N ty) (hd : decode M.1 pc = .ok (.getfield idx, 3)) (ha : lay a = (0, ci)) (hk : k < N) (hlink : Cond.fieldLink M.2.2.1 idx (T k).1 (T k).2.1 (T k).2.2.1 ∈ lw_g) (hf : fk ci k = (4, q)) (hfl : h.2.1 a k = 1) (kk : BW M (pc + 3) ls (vr (a + q) :: st) h Q) : BW M pc ls (vr a :: st) h Q := by
  intro p l e R s m args below meth c H locs cells slots Z D α τ A hF hN hC hE h1 h2 hs hl L hL
  obtain ⟨k1, k2, k3, k4, k5⟩ := hK
  have haS := bin_S (bok_h hs) ha (by omega)
  obtain ⟨q0, hq, hw⟩ := wdS_mem (α := α) (τ := τ) (h := h.2.1) haS
  rw [entB_ob ha] at hw
  have ev : fvalB α h.2.1 a ci k = .ref (α (a + q)) := by
    unfold fvalB
    rw [hf]
    show (if h.2.1 a k = 1 then Value.ref (α (a + q)) else .null) = _
    rw [if_pos hfl]
  have inS : a + q ∈ h.1 := by
    have := hC.2.2.2.2.2 a haS k
    rw [tg_ref ha hf hfl] at this
    exact this
  exact va_get (C := C) (T := T) (N := N) (index := idx) (ref := (T k).1) hF.1 hF.2.1 hF.2.2.2.2.1 k2 hF.2.2.2.1 hF.2.2.2.2.2.1 hC.1 q0 hw k1 k hk (hF.2.2.2.2.1 _ hlink) (fun x hx => hx) ((fsB_get (by omega)).trans (by rw [ev]; rfl)) hd
    (kk p l e R s m args below meth c H locs cells slots Z D α τ A hF hN hC hE h1 h2 (bok_c (Or.inl inS) (bok_t hs)) hl L hL)
theorem bput_ob {idx ci k a N : Nat} {C : String} {T : u_T} {ty : Nat → FieldType} {v : Vl} {x : Int} (hK : ClK ci C T N ty) (hd : decode M.1 pc = .ok (.putfield idx, 3)) (ha : lay a = (0, ci)) (hk : k < N) (hlink : Cond.fieldLink M.2.2.1 idx (T k).1 (T k).2.1 (T k).2.2.1 ∈ lw_g) (hfin : (T k).2.2.2 = false) (hn : ∀ α : Nat → Nat, narrow (ty k) (enc α v) = enc α v) (hfit : ∀ α : Nat → Nat, fits (ty k) (enc α v) = true) (hv : ∀ (α : Nat → Nat) (g : Mem), g a k = x → fvalB α g a ci k = enc α v) (ho : okv (fk ci k).1 x) (ht : (fk ci k).1 ≤ 2) (kk : BW M (pc + 3) ls st (h.1, mset h.2.1 a k x, h.2.2) Q) : BW M pc ls (v :: vr a :: st) h Q := by
  intro p l e R s m args below meth c H locs cells slots Z D α τ A hF hN hC hE h1 h2 hs hl L hL
  obtain ⟨k1, k2, k3, k4, k5⟩ := hK
  have haS := bin_S (bok_h (bok_t hs)) ha (by omega)
  obtain ⟨q0, hq, hw⟩ := wdS_mem (α := α) (τ := τ) (h := h.2.1) haS
  rw [entB_ob ha] at hw
  refine va_put (C := C) (T := T) (N := N) (index := idx) (ref := (T k).1) hF.1 hF.2.1 hF.2.2.2.2.1 k2 ty k3 k4 hF.2.2.2.1 hF.2.2.2.2.2.1 hC.1 hC.2.1 hC.2.2.1 q0 hw k1 k hk (hF.2.2.2.2.1 _ hlink) (fun x hx => hx) hfin (k3 k hk) (hn α) (hfit α) (by simp; omega) hd (fun H1 locs1 p1 p2 p3 => ?_)
  have e1 : (wdS α τ h.1 h.2.1).set q0 (α a, .inr (ci, ((List.range (nfl ci)).map (fun j => fvalB α h.2.1 a ci j)).set k (enc α v))) = wdS α τ h.1 (mset h.2.1 a k x) := by
    refine wdS_set hC.2.1 hq ?_ (fun i j hij => mset_i j hij)
    rw [entB_ob ha, fsB_set (by omega) (hv α _ mset_at)]
  rw [e1] at p1 p2
  exact kk p l e R s m args below meth c H1 locs1 cells slots Z D α τ A hF hN ⟨p1, p2, p3, hC.2.2.2.1.set (by rw [skd_ob ha]; exact ho), hC.2.2.2.2.1, hC.2.2.2.2.2.prim (fun g => tg_prim ha ht)⟩ hE h1 h2 (bok_t (bok_t hs)) hl L hL
theorem bw_puti {idx ci k a N : Nat} {C : String} {T : u_T} {ty : Nat → FieldType} {x : Int} (hK : ClK ci C T N ty) (hd : decode M.1 pc = .ok (.putfield idx, 3)) (ha : lay a = (0, ci)) (hk : k < N) (hlink : Cond.fieldLink M.2.2.1 idx (T k).1 (T k).2.1 (T k).2.2.1 ∈ lw_g) (hfin : (T k).2.2.2 = false) (hty : ty k = .int) (hf : fk ci k = (0, 0)) (kk : BW M (pc + 3) ls st (h.1, mset h.2.1 a k x, h.2.2) Q) : BW M pc ls ((0, x) :: vr a :: st) h Q := by
  intro p l e R s m args below meth c H locs cells slots Z D α τ A hF hN hC hE h1 h2 hs hl L hL
  have hx : InR x := bok_h hs
  exact bput_ob (x := x) hK hd ha hk hlink hfin (fun α => by rw [hty]; rfl) (fun α => by rw [hty]; rfl) (fun α g hg => by unfold fvalB; rw [hf]; show Value.int (Int32.ofInt (g a k)) = _; rw [hg]; rfl) (by rw [hf]; exact hx) (by rw [hf]; omega) kk p l e R s m args below meth c H locs cells slots Z D α τ A hF hN hC hE h1 h2 hs hl L hL
theorem bw_putl {idx ci k a N : Nat} {C : String} {T : u_T} {ty : Nat → FieldType} {x : Int} (hK : ClK ci C T N ty) (hd : decode M.1 pc = .ok (.putfield idx, 3)) (ha : lay a = (0, ci)) (hk : k < N) (hlink : Cond.fieldLink M.2.2.1 idx (T k).1 (T k).2.1 (T k).2.2.1 ∈ lw_g) (hfin : (T k).2.2.2 = false) (hty : ty k = .long) (hf : fk ci k = (1, 0)) (kk : BW M (pc + 3) ls st (h.1, mset h.2.1 a k x, h.2.2) Q) : BW M pc ls ((1, x) :: vr a :: st) h Q := by
  intro p l e R s m args below meth c H locs cells slots Z D α τ A hF hN hC hE h1 h2 hs hl L hL
  have hx : InL x := bok_h hs
  exact bput_ob (x := x) hK hd ha hk hlink hfin (fun α => by rw [hty]; rfl) (fun α => by rw [hty]; rfl) (fun α g hg => by unfold fvalB; rw [hf]; show Value.long (Int64.ofInt (g a k)) = _; rw [hg]; rfl) (by rw [hf]; exact hx) (by rw [hf]; omega) kk p l e R s m args below meth c H locs cells slots Z D α τ A hF hN hC hE h1 h2 hs hl L hL
theorem bw_putz {idx ci k a N : Nat} {C : String} {T : u_T} {ty : Nat → FieldType} {x : Int} (hK : ClK ci C T N ty) (hd : decode M.1 pc = .ok (.putfield idx, 3)) (ha : lay a = (0, ci)) (hk : k < N) (hlink : Cond.fieldLink M.2.2.1 idx (T k).1 (T k).2.1 (T k).2.2.1 ∈ lw_g) (hfin : (T k).2.2.2 = false) (hty : ty k = .boolean) (hf : fk ci k = (2, 0)) (hz : InZ x) (kk : BW M (pc + 3) ls st (h.1, mset h.2.1 a k x, h.2.2) Q) : BW M pc ls ((0, x) :: vr a :: st) h Q := by
  intro p l e R s m args below meth c H locs cells slots Z D α τ A hF hN hC hE h1 h2 hs hl L hL
  exact bput_ob (x := x) hK hd ha hk hlink hfin (fun α => by rw [hty]; rcases hz with rfl | rfl <;> rfl) (fun α => by rw [hty]; rcases hz with rfl | rfl <;> rfl) (fun α g hg => by unfold fvalB; rw [hf]; show Value.int (Int32.ofInt (g a k)) = _; rw [hg]; rfl) (by rw [hf]; exact hz) (by rw [hf]; omega) kk p l e R s m args below meth c H locs cells slots Z D α τ A hF hN hC hE h1 h2 hs hl L hL
/-- a final field that holds an object's own part -/
theorem bw_putF {idx ci k a b q N : Nat} {C : String} {T : u_T} {ty : Nat → FieldType} (hK : ClK ci C T N ty) (hi : M.2.2.2.2.2.2 0 = 1) (hd : decode M.1 pc = .ok (.putfield idx, 3)) (ha : lay a = (0, ci)) (hk : k < N) (hlink : Cond.fieldLink M.2.2.1 idx (T k).1 (T k).2.1 (T k).2.2.1 ∈ lw_g) (hfin : (T k).2.2.2 = true) (hdecl : (T k).1 = M.2.2.1) (hn : ∀ a : Nat, narrow (ty k) (.ref a) = .ref a) (hfit : ∀ a : Nat, fits (ty k) (.ref a) = true) (hf : fk ci k = (4, q)) (hb : a + q = b) (kk : BW M (pc + 3) ls st (h.1, mset h.2.1 a k 1, h.2.2) Q) : BW M pc ls (vr b :: vr a :: st) h Q := by
  subst hb
  intro p l e R s m args below meth c H locs cells slots Z D α τ A hF hN hC hE h1 h2 hs hl L hL
  obtain ⟨k1, k2, k3, k4, k5⟩ := hK
  have haS := bin_S (bok_h (bok_t hs)) ha (by omega)
  obtain ⟨q0, hq, hw⟩ := wdS_mem (α := α) (τ := τ) (h := h.2.1) haS
  rw [entB_ob ha] at hw
  have tgt : tg (mset h.2.1 a k 1) a k ∈ h.1 := by
    rw [tg_ref ha hf mset_at]
    rcases bok_h hs with z | z
    · exact z
    · have e1 : ∀ i c k q, i < nOb → lay i = (0, c) → fk c k = (4, q) → i + q < 181 := by
        have key : ∀ i, i < nOb → ∀ k, k < 64 → (lay i).1 = 0 → (fk (lay i).2 k).1 = 4 → i + (fk (lay i).2 k).2 < 181 := by decide +kernel
        intro i c k q hi hl hf
        have hk30 : k < 64 := by
          rcases Nat.lt_or_ge k 64 with y | y
          · exact y
          · have : fk c k = (9, 0) := by
              have hz : ∀ c, c < fkT.length → (fkT.getD c []).length ≤ 64 := by decide +kernel
              unfold fk
              rw [List.getD_eq_getElem?_getD]
              rcases Nat.lt_or_ge c fkT.length with w | w
              · rw [List.getElem?_eq_none (Nat.le_trans (hz c w) y)]; rfl
              · rw [List.getElem?_eq_none (by rw [List.getD_eq_getElem?_getD, List.getElem?_eq_none w]; exact Nat.zero_le _)]; rfl
            rw [hf] at this
            cases this
        have := key i hi k hk30 (by rw [hl]) (by rw [hl]; show (fk c k).1 = 4; rw [hf])
        rw [hl] at this
        have this : i + (fk c k).2 < 181 := this
        rw [hf] at this
        exact this
      have := e1 a ci k q (lay_lt ha (by omega)) ha hf
      omega
  refine va_putF (C := C) (T := T) (N := N) (index := idx) (ref := (T k).1) (own := M.2.2.1) hF.1 hF.2.1 hF.2.2.2.2.1 k2 ty k3 k4 hF.2.2.2.1 hF.2.2.2.2.2.1 hC.1 hC.2.1 hC.2.2.1 q0 hw k1 k hk (hF.2.2.2.2.1 _ hlink) (fun x hx => hx) hfin (hN.1 hi) hdecl (k3 k hk) (hn _) (hfit _) (by simp; omega) hd (fun H1 locs1 p1 p2 p3 => ?_)
  have e1 : (wdS α τ h.1 h.2.1).set q0 (α a, .inr (ci, ((List.range (nfl ci)).map (fun j => fvalB α h.2.1 a ci j)).set k (enc α (vr (a + q))))) = wdS α τ h.1 (mset h.2.1 a k 1) := by
    refine wdS_set hC.2.1 hq ?_ (fun i j hij => mset_i j hij)
    rw [entB_ob ha, fsB_set (v := enc α (vr (a + q))) (by omega) ?_]
    unfold fvalB
    rw [hf]
    show (if mset h.2.1 a k 1 a k = 1 then Value.ref (α (a + q)) else .null) = _
    rw [if_pos mset_at]
    rfl
  rw [e1] at p1 p2
  exact kk p l e R s m args below meth c H1 locs1 cells slots Z D α τ A hF hN ⟨p1, p2, p3, hC.2.2.2.1.set (by rw [skd_ob ha, hf]; trivial), hC.2.2.2.2.1, hC.2.2.2.2.2.at tgt⟩ hE h1 h2 (bok_t (bok_t hs)) hl L hL
theorem bw_iast {b n k : Nat} {i x : Int} (hd : decode M.1 pc = .ok (.iastore, 1)) (hb : lay b = (1, n)) (hi : 0 ≤ i ∧ i < (n : Int)) (hk : i.toNat = k) (kk : BW M (pc + 1) ls st (h.1, mset h.2.1 b k x, h.2.2) Q) : BW M pc ls ((0, x) :: (0, i) :: vr b :: st) h Q := by
  intro p l e R s m args below meth c H locs cells slots Z D α τ A hF hN hC hE h1 h2 hs hl L hL
  subst hk
  obtain ⟨g1, g2⟩ := i32_in hi (lay_small hb)
  have haS := bin_S (bok_h (bok_t (bok_t hs))) hb (by omega)
  obtain ⟨q0, hq, hw⟩ := wdS_mem (α := α) (τ := τ) (h := h.2.1) haS
  refine va_iast hF.1 hF.2.1 hF.2.2.2.2.2.1 hC.1 hC.2.1 hC.2.2.1 q0 0 (by rw [hw, entB_i hb]) rfl g1 hd (fun H1 locs1 p1 p2 p3 => ?_)
  rw [g2, upd_m, wdS_set hC.2.1 hq (entB_i hb) (fun i j hij => mset_i j hij)] at p1 p2
  exact kk p l e R s m args below meth c H1 locs1 cells slots Z D α τ A hF hN ⟨p1, p2, p3, hC.2.2.2.1.set (by rw [skd_a hb (k := 0) _ (by omega) rfl]; exact bok_h hs), hC.2.2.2.2.1, hC.2.2.2.2.2.prim (fun g => tg_arr hb (by omega))⟩ hE h1 h2 (bok_t (bok_t (bok_t hs))) hl L hL
theorem bw_last {b n k : Nat} {i x : Int} (hd : decode M.1 pc = .ok (.lastore, 1)) (hb : lay b = (2, n)) (hi : 0 ≤ i ∧ i < (n : Int)) (hk : i.toNat = k) (kk : BW M (pc + 1) ls st (h.1, mset h.2.1 b k x, h.2.2) Q) : BW M pc ls ((1, x) :: (0, i) :: vr b :: st) h Q := by
  intro p l e R s m args below meth c H locs cells slots Z D α τ A hF hN hC hE h1 h2 hs hl L hL
  subst hk
  obtain ⟨g1, g2⟩ := i32_in hi (lay_small hb)
  have haS := bin_S (bok_h (bok_t (bok_t hs))) hb (by omega)
  obtain ⟨q0, hq, hw⟩ := wdS_mem (α := α) (τ := τ) (h := h.2.1) haS
  refine va_last hF.1 hF.2.1 hF.2.2.2.2.2.1 hC.1 hC.2.1 hC.2.2.1 q0 1 (by rw [hw, entB_l hb]) rfl g1 hd (fun H1 locs1 p1 p2 p3 => ?_)
  rw [g2, updL_m, wdS_set hC.2.1 hq (entB_l hb) (fun i j hij => mset_i j hij)] at p1 p2
  exact kk p l e R s m args below meth c H1 locs1 cells slots Z D α τ A hF hN ⟨p1, p2, p3, hC.2.2.2.1.set (by rw [skd_a hb (k := 1) _ (by omega) rfl]; exact bok_h hs), hC.2.2.2.2.1, hC.2.2.2.2.2.prim (fun g => tg_arr hb (by omega))⟩ hE h1 h2 (bok_t (bok_t (bok_t hs))) hl L hL
end BWH2
