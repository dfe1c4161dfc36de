/-! fields, arrays -/
def fv (h : Mem) (i c k : Nat) : Vl := match fk c k with
  | (0, _) => (0, h i k)
  | (1, _) => (1, h i k)
  | (2, _) => (0, h i k)
  | (3, _) => (2, h i k)
  | (_, q) => vr (i + q)
theorem fval_fv {α : Nat → Nat} {h : Mem} {i c k : Nat} : fval α h i c k = enc α (fv h i c k) := by
  unfold fval fv
  generalize fk c k = q
  obtain ⟨t, y⟩ := q
  match t with
  | 0 => rfl
  | 1 => rfl
  | 2 => rfl
  | 3 => rfl
  | _ + 4 => rfl
theorem skd_ob {a c k : Nat} (ha : lay a = (0, c)) : skd a k = (fk c k).1 := by
  unfold skd
  rw [ha]
  rfl
theorem ok_fv {h : Mem} (hR : Rg h) {a c k : Nat} (ha : lay a = (0, c)) : okV (fv h a c k) := by
  have h1 := hR a k
  rw [skd_ob ha] at h1
  unfold fv
  generalize hq : fk c k = q at h1 ⊢
  obtain ⟨t, y⟩ := q
  match t with
  | 0 => exact h1
  | 1 => exact h1
  | 2 =>
    show InR _
    rcases h1 with h1 | h1 <;> rw [h1] <;> exact ⟨by decide, by decide⟩
  | 3 => trivial
  | _ + 4 => trivial
theorem ent_ob {α : Nat → Nat} {τ : Nat → ClassId} {h : Mem} {a c : Nat} (ha : lay a = (0, c)) : ent α τ h a = .inr (c, (List.range (nfl c)).map (fun k => fval α h a c k)) := by
  unfold ent
  rw [ha]
  rfl
theorem fs_get {α : Nat → Nat} {h : Mem} {a c k n : Nat} (hn : nfl c = n) (hk : k < n) : ((List.range (nfl c)).map (fun k => fval α h a c k))[k]? = some (enc α (fv h a c k)) := by
  rw [List.getElem?_map, List.getElem?_range (by omega)]
  show some (fval α h a c k) = _
  rw [fval_fv]
theorem fs_set {α : Nat → Nat} {h : Mem} {a c k : Nat} {x : Int} {v : Value} (hk : k < nfl c) (hv : fval α (mset h a k x) a c k = v) : (List.range (nfl c)).map (fun j => fval α (mset h a k x) a c j) = ((List.range (nfl c)).map (fun j => fval α h a c j)).set k v := by
  apply List.ext_getElem?
  intro j
  by_cases hj : j = k
  · subst hj
    rw [List.getElem?_set_self (by simp; exact hk), List.getElem?_map, List.getElem?_range hk]
    show some (fval α (mset h a j x) a c j) = _
    rw [hv]
  · rw [List.getElem?_set_ne (fun q => hj q.symm), List.getElem?_map, List.getElem?_map]
    rcases Nat.lt_or_ge j (nfl c) with q | q
    · rw [List.getElem?_range q]
      show some (fval α (mset h a k x) a c j) = some (fval α h a c j)
      unfold fval
      rw [mset_k hj]
    · rw [List.getElem?_eq_none (by simp; exact q)]
      rfl
/-- what is known of a class -/
def ClK (ci : Nat) (C : String) (T : u_T) (N : Nat) (ty : Nat → FieldType) : Prop :=
  vwCl[ci]? = some (C, T, N) ∧ (∀ w ∈ u_ws C T N, w ∈ lw_g) ∧ (∀ k, k < N → parseFieldDescriptor (T k).2.2.1 = some (ty k)) ∧ (∀ a, a < N → ∀ b, b < N → a ≠ b → (T a).2.1 ≠ (T b).2.1) ∧ nfl ci = N
section AWH
variable {M : Hd} {pc : Nat} {ls : LoS} {st : List Vl} {h : Mem} {Q : PostV}
theorem aw_getf {idx ci k a N : Nat} {C : String} {T : u_T} {ty : Nat → FieldType} {v : Vl} (hK : ClK ci C T N ty) (hd : decode M.1 pc = .ok (.getfield idx, 3)) (ha : lay a = (0, ci)) (hk : k < N) (hlink : Cond.fieldLink M.2.2.1 idx (T k).1 (T k).2.1 (T k).2.2.1 ∈ lw_g) (hv : fv h a ci k = v) (kk : AW M (pc + 3) ls (v :: st) h Q) : AW M pc ls (vr a :: st) h Q := by
  subst hv
  intro p l e R s m args below meth c H locs cells slots Z D α τ A hF hC hE h1 h2 hs hl L hL
  obtain ⟨k1, k2, k3, k4, k5⟩ := hK
  exact va_get (C := C) (T := T) (N := N) (index := idx) (ref := (T k).1) hF.1 hF.2.1 hF.2.2.2.2.1 k2 hF.2.2.2.1 hF.2.2.2.2.2.1 hC.1 a (by rw [wd_get (lay_lt ha (by omega)), ent_ob ha]) k1 k hk (hF.2.2.2.2.1 _ hlink) (fun x hx => hx) (fs_get k5 hk) hd
    (kk p l e R s m args below meth c H locs cells slots Z D α τ A hF hC hE h1 h2 (ok_c (ok_fv hC.2.2.2 ha) (ok_t hs)) hl L hL)
theorem put_ob {idx ci k a N : Nat} {C : String} {T : u_T} {ty : Nat → FieldType} {v : Vl} {x : Int} (hK : ClK ci C T N ty) (hd : decode M.1 pc = .ok (.putfield idx, 3)) (ha : lay a = (0, ci)) (hk : k < N) (hlink : Cond.fieldLink M.2.2.1 idx (T k).1 (T k).2.1 (T k).2.2.1 ∈ lw_g) (hfin : (T k).2.2.2 = false) (hn : ∀ α : Nat → Nat, narrow (ty k) (enc α v) = enc α v) (hfit : ∀ α : Nat → Nat, fits (ty k) (enc α v) = true) (hv : fv (mset h a k x) a ci k = v) (ho : okv (fk ci k).1 x) (kk : AW M (pc + 3) ls st (mset h a k x) Q) : AW M pc ls (v :: vr a :: st) h Q := by
  subst hv
  intro p l e R s m args below meth c H locs cells slots Z D α τ A hF hC hE h1 h2 hs hl L hL
  obtain ⟨k1, k2, k3, k4, k5⟩ := hK
  have hao : a < nOb := lay_lt ha (by omega)
  refine va_put (C := C) (T := T) (N := N) (index := idx) (ref := (T k).1) hF.1 hF.2.1 hF.2.2.2.2.1 k2 ty k3 k4 hF.2.2.2.1 hF.2.2.2.2.2.1 hC.1 hC.2.1 hC.2.2.1 a (by rw [wd_get hao, ent_ob ha]) k1 k hk (hF.2.2.2.2.1 _ hlink) (fun x hx => hx) hfin (k3 k hk) (hn α) (hfit α) (by simp; omega) hd (fun H1 locs1 p1 p2 p3 => ?_)
  have e1 : (wd α τ h).set a (α a, .inr (ci, ((List.range (nfl ci)).map (fun j => fval α h a ci j)).set k (enc α (fv (mset h a k x) a ci k)))) = wd α τ (mset h a k x) := by
    refine wd_set hao ?_ (fun i j hij => mset_i j hij)
    rw [ent_ob ha, fs_set (by omega) fval_fv]
  rw [e1] at p1 p2
  exact kk p l e R s m args below meth c H1 locs1 cells slots Z D α τ A hF ⟨p1, p2, p3, hC.2.2.2.set (by rw [skd_ob ha]; exact ho)⟩ hE h1 h2 (ok_t (ok_t hs)) hl L hL
theorem aw_puti {idx ci k a N : Nat} {C : String} {T : u_T} {ty : Nat → FieldType} {x : Int} (hK : ClK ci C T N ty) (hd : decode M.1 pc = .ok (.putfield idx, 3)) (ha : lay a = (0, ci)) (hk : k < N) (hlink : Cond.fieldLink M.2.2.1 idx (T k).1 (T k).2.1 (T k).2.2.1 ∈ lw_g) (hfin : (T k).2.2.2 = false) (hty : ty k = .int) (hf : fk ci k = (0, 0)) (kk : AW M (pc + 3) ls st (mset h a k x) Q) : AW M pc ls ((0, x) :: vr a :: st) h Q := by
  intro p l e R s m args below meth c H locs cells slots Z D α τ A hF hC hE h1 h2 hs hl L hL
  have hx : InR x := ok_h hs
  exact put_ob (x := x) hK hd ha hk hlink hfin (fun α => by rw [hty]; rfl) (fun α => by rw [hty]; rfl) (by unfold fv; rw [hf]; show ((0, mset h a k x a k) : Vl) = _; rw [mset_at]) (by rw [hf]; exact hx) kk p l e R s m args below meth c H locs cells slots Z D α τ A hF hC hE h1 h2 hs hl L hL
theorem aw_putl {idx ci k a N : Nat} {C : String} {T : u_T} {ty : Nat → FieldType} {x : Int} (hK : ClK ci C T N ty) (hd : decode M.1 pc = .ok (.putfield idx, 3)) (ha : lay a = (0, ci)) (hk : k < N) (hlink : Cond.fieldLink M.2.2.1 idx (T k).1 (T k).2.1 (T k).2.2.1 ∈ lw_g) (hfin : (T k).2.2.2 = false) (hty : ty k = .long) (hf : fk ci k = (1, 0)) (kk : AW M (pc + 3) ls st (mset h a k x) Q) : AW M pc ls ((1, x) :: vr a :: st) h Q := by
  intro p l e R s m args below meth c H locs cells slots Z D α τ A hF hC hE h1 h2 hs hl L hL
  have hx : InL x := ok_h hs
  exact put_ob (x := x) hK hd ha hk hlink hfin (fun α => by rw [hty]; rfl) (fun α => by rw [hty]; rfl) (by unfold fv; rw [hf]; show ((1, mset h a k x a k) : Vl) = _; rw [mset_at]) (by rw [hf]; exact hx) kk p l e R s m args below meth c H locs cells slots Z D α τ A hF hC hE h1 h2 hs hl L hL
theorem aw_putz {idx ci k a N : Nat} {C : String} {T : u_T} {ty : Nat → FieldType} {x : Int} (hK : ClK ci C T N ty) (hd : decode M.1 pc = .ok (.putfield idx, 3)) (ha : lay a = (0, ci)) (hk : k < N) (hlink : Cond.fieldLink M.2.2.1 idx (T k).1 (T k).2.1 (T k).2.2.1 ∈ lw_g) (hfin : (T k).2.2.2 = false) (hty : ty k = .boolean) (hf : fk ci k = (2, 0)) (hz : InZ x) (kk : AW M (pc + 3) ls st (mset h a k x) Q) : AW M pc ls ((0, x) :: vr a :: st) h Q := by
  intro p l e R s m args below meth c H locs cells slots Z D α τ A hF hC hE h1 h2 hs hl L hL
  exact put_ob (x := x) hK hd ha hk hlink hfin (fun α => by rw [hty]; rcases hz with rfl | rfl <;> rfl) (fun α => by rw [hty]; rcases hz with rfl | rfl <;> rfl) (by unfold fv; rw [hf]; show ((0, mset h a k x a k) : Vl) = _; rw [mset_at]) (by rw [hf]; exact hz) kk p l e R s m args below meth c H locs cells slots Z D α τ A hF hC hE h1 h2 hs hl L hL
theorem aw_putr {idx ci k a b N : Nat} {C E : String} {T : u_T} {ty : Nat → FieldType} (hK : ClK ci C T N ty) (hd : decode M.1 pc = .ok (.putfield idx, 3)) (ha : lay a = (0, ci)) (hk : k < N) (hlink : Cond.fieldLink M.2.2.1 idx (T k).1 (T k).2.1 (T k).2.2.1 ∈ lw_g) (hfin : (T k).2.2.2 = false) (hty : ty k = .object E) (hf : fk ci k = (3, 0)) (hb : b < 181) (kk : AW M (pc + 3) ls st (mset h a k (b : Int)) Q) : AW M pc ls (vr b :: vr a :: st) h Q := by
  intro p l e R s m args below meth c H locs cells slots Z D α τ A hF hC hE h1 h2 hs hl L hL
  exact put_ob (x := (b : Int)) hK hd ha hk hlink hfin (fun α => by rw [hty]; rfl) (fun α => by rw [hty]; rfl) (by unfold fv; rw [hf]; show ((2, mset h a k (b : Int) a k) : Vl) = _; rw [mset_at]; rfl) (by rw [hf]; exact ⟨by omega, by omega⟩) kk p l e R s m args below meth c H locs cells slots Z D α τ A hF hC hE h1 h2 hs hl L hL
theorem ent_i {α : Nat → Nat} {τ : Nat → ClassId} {h : Mem} {b n : Nat} (hb : lay b = (1, n)) : ent α τ h b = .inl (τ 0, n, .inl (fun j => Int32.ofInt (h b j))) := by unfold ent; rw [hb]; rfl
theorem ent_l {α : Nat → Nat} {τ : Nat → ClassId} {h : Mem} {b n : Nat} (hb : lay b = (2, n)) : ent α τ h b = .inl (τ 1, n, .inr (.inl (fun j => Int64.ofInt (h b j)))) := by unfold ent; rw [hb]; rfl
theorem ent_b {α : Nat → Nat} {τ : Nat → ClassId} {h : Mem} {b n : Nat} (hb : lay b = (3, n)) : ent α τ h b = .inl (τ 2, n, .inl (fun j => Int32.ofInt (h b j))) := by unfold ent; rw [hb]; rfl
theorem ent_z {α : Nat → Nat} {τ : Nat → ClassId} {h : Mem} {b n : Nat} (hb : lay b = (4, n)) : ent α τ h b = .inl (τ 3, n, .inl (fun j => Int32.ofInt (h b j))) := by unfold ent; rw [hb]; rfl
theorem rg_i {h : Mem} (hR : Rg h) {b n : Nat} (hb : lay b = (1, n)) (k : Nat) : InR (h b k) := by
  have h1 := hR b k
  unfold skd at h1
  rw [hb] at h1
  exact h1
theorem rg_l {h : Mem} (hR : Rg h) {b n : Nat} (hb : lay b = (2, n)) (k : Nat) : InL (h b k) := by
  have h1 := hR b k
  unfold skd at h1
  rw [hb] at h1
  exact h1
theorem rg_b {h : Mem} (hR : Rg h) {b n : Nat} (hb : lay b = (3, n)) (k : Nat) : InR (h b k) := by
  have h1 := hR b k
  unfold skd at h1
  rw [hb] at h1
  have h2 : InB (h b k) := h1
  unfold InB at h2
  unfold InR
  omega
theorem rg_z {h : Mem} (hR : Rg h) {b n : Nat} (hb : lay b = (4, n)) (k : Nat) : InR (h b k) := by
  have h1 := hR b k
  unfold skd at h1
  rw [hb] at h1
  have h2 : InZ (h b k) := h1
  unfold InZ at h2
  unfold InR
  omega
theorem aw_iald {b n k : Nat} {i : Int} (hd : decode M.1 pc = .ok (.iaload, 1)) (hb : lay b = (1, n)) (hi : 0 ≤ i ∧ i < (n : Int)) (hk : i.toNat = k) (kk : AW M (pc + 1) ls ((0, h b k) :: st) h Q) : AW M pc ls ((0, i) :: vr b :: st) h Q := by
  intro p l e R s m args below meth c H locs cells slots Z D α τ A hF hC hE h1 h2 hs hl L hL
  subst hk
  obtain ⟨g1, g2⟩ := i32_in hi (lay_small hb)
  refine va_iald hF.1 hF.2.1 hF.2.2.2.2.2.1 hC.1 b 0 (by rw [wd_get (lay_lt hb (by omega)), ent_i hb]) rfl g1 hd ?_
  rw [g2]
  exact kk p l e R s m args below meth c H locs cells slots Z D α τ A hF hC hE h1 h2 (ok_c (rg_i hC.2.2.2 hb _) (ok_t (ok_t hs))) hl L hL
theorem aw_lald {b n k : Nat} {i : Int} (hd : decode M.1 pc = .ok (.laload, 1)) (hb : lay b = (2, n)) (hi : 0 ≤ i ∧ i < (n : Int)) (hk : i.toNat = k) (kk : AW M (pc + 1) ls ((1, h b k) :: st) h Q) : AW M pc ls ((0, i) :: vr b :: st) h Q := by
  intro p l e R s m args below meth c H locs cells slots Z D α τ A hF hC hE h1 h2 hs hl L hL
  subst hk
  obtain ⟨g1, g2⟩ := i32_in hi (lay_small hb)
  refine va_lald hF.1 hF.2.1 hF.2.2.2.2.2.1 hC.1 b 1 (by rw [wd_get (lay_lt hb (by omega)), ent_l hb]) rfl g1 hd ?_
  rw [g2]
  exact kk p l e R s m args below meth c H locs cells slots Z D α τ A hF hC hE h1 h2 (ok_c (rg_l hC.2.2.2 hb _) (ok_t (ok_t hs))) hl L hL
theorem aw_bald {b n k : Nat} {i : Int} (hd : decode M.1 pc = .ok (.baload, 1)) (hb : lay b = (3, n)) (hi : 0 ≤ i ∧ i < (n : Int)) (hk : i.toNat = k) (kk : AW M (pc + 1) ls ((0, h b k) :: st) h Q) : AW M pc ls ((0, i) :: vr b :: st) h Q := by
  intro p l e R s m args below meth c H locs cells slots Z D α τ A hF hC hE h1 h2 hs hl L hL
  subst hk
  obtain ⟨g1, g2⟩ := i32_in hi (lay_small hb)
  refine va_bald hF.1 hF.2.1 hF.2.2.2.2.2.1 hC.1 b 2 (by rw [wd_get (lay_lt hb (by omega)), ent_b hb]) rfl g1 hd ?_
  rw [g2]
  exact kk p l e R s m args below meth c H locs cells slots Z D α τ A hF hC hE h1 h2 (ok_c (rg_b hC.2.2.2 hb _) (ok_t (ok_t hs))) hl L hL
theorem aw_zald {b n k : Nat} {i : Int} (hd : decode M.1 pc = .ok (.baload, 1)) (hb : lay b = (4, n)) (hi : 0 ≤ i ∧ i < (n : Int)) (hk : i.toNat = k) (kk : AW M (pc + 1) ls ((0, h b k) :: st) h Q) : AW M pc ls ((0, i) :: vr b :: st) h Q := by
  intro p l e R s m args below meth c H locs cells slots Z D α τ A hF hC hE h1 h2 hs hl L hL
  subst hk
  obtain ⟨g1, g2⟩ := i32_in hi (lay_small hb)
  refine va_zald hF.1 hF.2.1 hF.2.2.2.2.2.1 hC.1 b 3 (by rw [wd_get (lay_lt hb (by omega)), ent_z hb]) rfl g1 hd ?_
  rw [g2]
  exact kk p l e R s m args below meth c H locs cells slots Z D α τ A hF hC hE h1 h2 (ok_c (rg_z hC.2.2.2 hb _) (ok_t (ok_t hs))) hl L hL
theorem skd_a {b k n t : Nat} (hb : lay b = (t, n)) (j : Nat) (ht : t = 1 ∨ t = 2 ∨ t = 3 ∨ t = 4) (hk : k = if t = 1 then 0 else if t = 2 then 1 else if t = 3 then 5 else 2) : skd b j = k := by
  unfold skd
  rw [hb, hk]
  rcases ht with rfl | rfl | rfl | rfl <;> rfl
theorem upd_m {h : Mem} {b k : Nat} {x : Int} : upd (fun j => Int32.ofInt (h b j)) k (Int32.ofInt x) = fun j => Int32.ofInt (mset h b k x b j) := by
  funext j
  unfold upd mset
  by_cases e : j = k
  · rw [if_pos e, if_pos ⟨rfl, e⟩]
  · rw [if_neg e, if_neg (fun q => e q.2)]
theorem updL_m {h : Mem} {b k : Nat} {x : Int} : vp_updL (fun j => Int64.ofInt (h b j)) k (Int64.ofInt x) = fun j => Int64.ofInt (mset h b k x b j) := by
  funext j
  unfold vp_updL mset
  by_cases e : j = k
  · rw [if_pos e, if_pos ⟨rfl, e⟩]
  · rw [if_neg e, if_neg (fun q => e q.2)]
theorem aw_iast {b n k : Nat} {i x : Int} (hd : decode M.1 pc = .ok (.iastore, 1)) (hb : lay b = (1, n)) (hi : 0 ≤ i ∧ i < (n : Int)) (hk : i.toNat = k) (kk : AW M (pc + 1) ls st (mset h b k x) Q) : AW M pc ls ((0, x) :: (0, i) :: vr b :: st) h Q := by
  intro p l e R s m args below meth c H locs cells slots Z D α τ A hF hC hE h1 h2 hs hl L hL
  subst hk
  obtain ⟨g1, g2⟩ := i32_in hi (lay_small hb)
  have hbo : b < nOb := lay_lt hb (by omega)
  refine va_iast hF.1 hF.2.1 hF.2.2.2.2.2.1 hC.1 hC.2.1 hC.2.2.1 b 0 (by rw [wd_get hbo, ent_i hb]) rfl g1 hd (fun H1 locs1 p1 p2 p3 => ?_)
  rw [g2, upd_m, wd_set hbo (ent_i hb) (fun i j hij => mset_i j hij)] at p1 p2
  exact kk p l e R s m args below meth c H1 locs1 cells slots Z D α τ A hF ⟨p1, p2, p3, hC.2.2.2.set (by rw [skd_a hb (k := 0) _ (by omega) rfl]; exact ok_h hs)⟩ hE h1 h2 (ok_t (ok_t (ok_t hs))) hl L hL
theorem aw_last {b n k : Nat} {i x : Int} (hd : decode M.1 pc = .ok (.lastore, 1)) (hb : lay b = (2, n)) (hi : 0 ≤ i ∧ i < (n : Int)) (hk : i.toNat = k) (kk : AW M (pc + 1) ls st (mset h b k x) Q) : AW M pc ls ((1, x) :: (0, i) :: vr b :: st) h Q := by
  intro p l e R s m args below meth c H locs cells slots Z D α τ A hF hC hE h1 h2 hs hl L hL
  subst hk
  obtain ⟨g1, g2⟩ := i32_in hi (lay_small hb)
  have hbo : b < nOb := lay_lt hb (by omega)
  refine va_last hF.1 hF.2.1 hF.2.2.2.2.2.1 hC.1 hC.2.1 hC.2.2.1 b 1 (by rw [wd_get hbo, ent_l hb]) rfl g1 hd (fun H1 locs1 p1 p2 p3 => ?_)
  rw [g2, updL_m, wd_set hbo (ent_l hb) (fun i j hij => mset_i j hij)] at p1 p2
  exact kk p l e R s m args below meth c H1 locs1 cells slots Z D α τ A hF ⟨p1, p2, p3, hC.2.2.2.set (by rw [skd_a hb (k := 1) _ (by omega) rfl]; exact ok_h hs)⟩ hE h1 h2 (ok_t (ok_t (ok_t hs))) hl L hL
theorem i2b_in (x : Int) : InB (i2b x) := by
  unfold i2b
  rw [show ((Int32.ofInt x).toInt8.toInt32).toInt = (Int32.ofInt x).toInt8.toInt from by simp]
  have h1 := Int8.le_toInt (Int32.ofInt x).toInt8
  have h2 := Int8.toInt_lt (Int32.ofInt x).toInt8
  exact ⟨by omega, by omega⟩
theorem nar_b (x : Int) : vp_nar .byte (Int32.ofInt x) = Int32.ofInt (i2b x) := (Int32.ofInt_toInt _).symm
theorem nar_z {x : Int} (hz : InZ x) : vp_nar .boolean (Int32.ofInt x) = Int32.ofInt x := by rcases hz with rfl | rfl <;> rfl
theorem aw_bast {b n k : Nat} {i x : Int} (hd : decode M.1 pc = .ok (.bastore, 1)) (hb : lay b = (3, n)) (hi : 0 ≤ i ∧ i < (n : Int)) (hk : i.toNat = k) (kk : AW M (pc + 1) ls st (mset h b k (i2b x)) Q) : AW M pc ls ((0, x) :: (0, i) :: vr b :: st) h Q := by
  intro p l e R s m args below meth c H locs cells slots Z D α τ A hF hC hE h1 h2 hs hl L hL
  subst hk
  obtain ⟨g1, g2⟩ := i32_in hi (lay_small hb)
  have hbo : b < nOb := lay_lt hb (by omega)
  refine va_bast hF.1 hF.2.1 hF.2.2.2.2.2.1 hC.1 hC.2.1 hC.2.2.1 b 2 (by rw [wd_get hbo, ent_b hb]) rfl g1 hd (fun H1 locs1 p1 p2 p3 => ?_)
  rw [g2, nar_b, upd_m, wd_set hbo (ent_b hb) (fun i j hij => mset_i j hij)] at p1 p2
  exact kk p l e R s m args below meth c H1 locs1 cells slots Z D α τ A hF ⟨p1, p2, p3, hC.2.2.2.set (by rw [skd_a hb (k := 5) _ (by omega) rfl]; exact i2b_in x)⟩ hE h1 h2 (ok_t (ok_t (ok_t hs))) hl L hL
theorem aw_zast {b n k : Nat} {i x : Int} (hd : decode M.1 pc = .ok (.bastore, 1)) (hb : lay b = (4, n)) (hi : 0 ≤ i ∧ i < (n : Int)) (hk : i.toNat = k) (hz : InZ x) (kk : AW M (pc + 1) ls st (mset h b k x) Q) : AW M pc ls ((0, x) :: (0, i) :: vr b :: st) h Q := by
  intro p l e R s m args below meth c H locs cells slots Z D α τ A hF hC hE h1 h2 hs hl L hL
  subst hk
  obtain ⟨g1, g2⟩ := i32_in hi (lay_small hb)
  have hbo : b < nOb := lay_lt hb (by omega)
  refine va_zast hF.1 hF.2.1 hF.2.2.2.2.2.1 hC.1 hC.2.1 hC.2.2.1 b 3 (by rw [wd_get hbo, ent_z hb]) rfl g1 hd (fun H1 locs1 p1 p2 p3 => ?_)
  rw [g2, nar_z hz, upd_m, wd_set hbo (ent_z hb) (fun i j hij => mset_i j hij)] at p1 p2
  exact kk p l e R s m args below meth c H1 locs1 cells slots Z D α τ A hF ⟨p1, p2, p3, hC.2.2.2.set (by rw [skd_a hb (k := 2) _ (by omega) rfl]; exact hz)⟩ hE h1 h2 (ok_t (ok_t (ok_t hs))) hl L hL
end AWH
