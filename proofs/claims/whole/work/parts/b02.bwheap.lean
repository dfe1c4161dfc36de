/-! BW: fields, arrays, what is made -/
section BWH1
variable {α β : Nat → Nat} {τ : Nat → ClassId} {S : List Nat} {h h1 : Mem}
theorem wdS_mem {i : Nat} (hi : i ∈ S) : ∃ k : Nat, S[k]? = some i ∧ (wdS α τ S h)[k]? = some (α i, entB α τ h i) := by
  obtain ⟨k, hk⟩ := List.getElem?_of_mem hi
  exact ⟨k, hk, by unfold wdS; rw [List.getElem?_map, hk]; rfl⟩
theorem wdS_at {k : Nat} {q : Nat × va_E} (hk : (wdS α τ S h)[k]? = some q) : ∃ i : Nat, S[k]? = some i ∧ q = (α i, entB α τ h i) := by
  unfold wdS at hk
  rw [List.getElem?_map] at hk
  cases e : S[k]? with
  | none => rw [e] at hk; cases hk
  | some i => rw [e] at hk; exact ⟨i, rfl, (Option.some.inj hk).symm⟩
theorem entB_other {i : Nat} (e : ∀ k, h1 i k = h i k) : entB α τ h1 i = entB α τ h i := by
  unfold entB fvalB
  simp only [e]
theorem wdS_set {A : Nat → Prop} (hD : va_D A (wdS α τ S h)) {k a : Nat} {E : va_E} (hk : S[k]? = some a) (hE : entB α τ h1 a = E) (ho : ∀ i j, i ≠ a → h1 i j = h i j) : (wdS α τ S h).set k (α a, E) = wdS α τ S h1 := by
  apply List.ext_getElem?
  intro j
  by_cases e : j = k
  · subst e
    have hl : j < (wdS α τ S h).length := by unfold wdS; rw [List.length_map]; exact (List.getElem?_eq_some_iff.mp hk).1
    rw [List.getElem?_set_self hl]
    unfold wdS; rw [List.getElem?_map, hk, ← hE]; rfl
  · rw [List.getElem?_set_ne (fun q => e q.symm)]
    cases q : S[j]? with
    | none => unfold wdS; rw [List.getElem?_map, List.getElem?_map, q]; rfl
    | some i =>
      have ne : i ≠ a := fun z => by
        subst z
        exact e (hD.1 j k _ _ (by unfold wdS; rw [List.getElem?_map, q]; rfl) (by unfold wdS; rw [List.getElem?_map, hk]; rfl) rfl)
      unfold wdS; rw [List.getElem?_map, List.getElem?_map, q]
      show some (α i, entB α τ h i) = some (α i, entB α τ h1 i)
      rw [entB_other (fun k => ho i k ne)]
theorem tg_o {i k : Nat} (e : h1 i k = h i k) : tg h1 i k = tg h i k := by unfold tg tgF; rw [e]
theorem tg_ob {i c k : Nat} (hl : lay i = (0, c)) : tg h i k = tgF h i c k := by unfold tg; rw [hl]; rfl
theorem Cls.prim {a k : Nat} {x : Int} (c : Cls S h) (hp : ∀ g : Mem, tg g a k = a) : Cls S (mset h a k x) := fun i hi j => by
  by_cases e : i = a ∧ j = k
  · rw [e.1, e.2, hp]; rw [e.1] at hi; exact hi
  · rw [tg_o (mset_o e)]; exact c i hi j
theorem Cls.at {a k : Nat} {x : Int} (c : Cls S h) (hp : tg (mset h a k x) a k ∈ S) : Cls S (mset h a k x) := fun i hi j => by
  by_cases e : i = a ∧ j = k
  · rw [e.1, e.2]; exact hp
  · rw [tg_o (mset_o e)]; exact c i hi j
theorem tg_prim {g : Mem} {a k ci : Nat} (ha : lay a = (0, ci)) (ht : (fk ci k).1 ≤ 2) : tg g a k = a := by
  rw [tg_ob ha]
  unfold tgF
  generalize fk ci k = q at ht ⊢
  obtain ⟨t, y⟩ := q
  match t, ht with
  | 0, _ => rfl
  | 1, _ => rfl
  | 2, _ => rfl
  | n + 3, ht => exact absurd (show n + 3 ≤ 2 from ht) (by omega)
theorem tg_ref {g : Mem} {a k ci q : Nat} (ha : lay a = (0, ci)) (hf : fk ci k = (4, q)) (h1 : g a k = 1) : tg g a k = a + q := by
  rw [tg_ob ha]
  unfold tgF
  rw [hf]
  show (if g a k = 1 then a + q else a) = a + q
  rw [if_pos h1]
theorem tg_arr {g : Mem} {a k t n : Nat} (ha : lay a = (t, n)) (ht : t = 1 ∨ t = 2 ∨ t = 3 ∨ t = 4) : tg g a k = a := by
  unfold tg
  rw [ha]
  rcases ht with rfl | rfl | rfl | rfl <;> rfl
theorem entB_ob {a c : Nat} (ha : lay a = (0, c)) : entB α τ h a = .inr (c, (List.range (nfl c)).map (fun k => fvalB α h a c k)) := by
  unfold entB
  rw [ha]
  rfl
theorem entB_i {b n : Nat} (hb : lay b = (1, n)) : entB α τ h b = .inl (τ 0, n, .inl (fun j => Int32.ofInt (h b j))) := by unfold entB; rw [hb]; rfl
theorem entB_l {b n : Nat} (hb : lay b = (2, n)) : entB α τ h b = .inl (τ 1, n, .inr (.inl (fun j => Int64.ofInt (h b j)))) := by unfold entB; rw [hb]; rfl
theorem entB_b {b n : Nat} (hb : lay b = (3, n)) : entB α τ h b = .inl (τ 2, n, .inl (fun j => Int32.ofInt (h b j))) := by unfold entB; rw [hb]; rfl
theorem entB_z {b n : Nat} (hb : lay b = (4, n)) : entB α τ h b = .inl (τ 3, n, .inl (fun j => Int32.ofInt (h b j))) := by unfold entB; rw [hb]; rfl
theorem entB_5 {b n : Nat} (hb : lay b = (5, n)) : entB α τ h b = .inl (τ 4, n, .inr (.inr (.inr (.inr (fun j => if h b j = 1 then some (α (b + 1 + 15 * j)) else none))))) := by unfold entB; rw [hb]; rfl
theorem entB_6 {b n : Nat} (hb : lay b = (6, n)) : entB α τ h b = .inl (τ 5, n, .inr (.inr (.inr (.inr (fun j => if h b j = 1 then some (α (b + 1 + 6 * j)) else none))))) := by unfold entB; rw [hb]; rfl
theorem entB_7 {b n : Nat} (hb : lay b = (7, n)) : entB α τ h b = .inl (τ 6, n, .inr (.inr (.inr (.inr (fun j => if h b j = 1 then some (α (b + 1 + 1 * j)) else none))))) := by unfold entB; rw [hb]; rfl
theorem fsB_get {a c k : Nat} (hk : k < nfl c) : ((List.range (nfl c)).map (fun k => fvalB α h a c k))[k]? = some (fvalB α h a c k) := by
  rw [List.getElem?_map, List.getElem?_range hk]
  rfl
theorem fsB_set {a c k : Nat} {x : Int} {v : Value} (hk : k < nfl c) (hv : fvalB α (mset h a k x) a c k = v) : (List.range (nfl c)).map (fun j => fvalB α (mset h a k x) a c j) = ((List.range (nfl c)).map (fun j => fvalB α h a c j)).set k v := by
  apply List.ext_getElem?
  intro j
  by_cases hj : j = k
  · subst hj
    rw [List.getElem?_set_self (by simp; exact hk), List.getElem?_map, List.getElem?_range hk]
    show some (fvalB α (mset h a j x) a c j) = _
    rw [hv]
  · rw [List.getElem?_set_ne (fun q => hj q.symm), List.getElem?_map, List.getElem?_map]
    rcases Nat.lt_or_ge j (nfl c) with q | q
    · rw [List.getElem?_range q]
      show some (fvalB α (mset h a k x) a c j) = some (fvalB α h a c j)
      unfold fvalB
      rw [mset_k hj]
    · rw [List.getElem?_eq_none (by simp; exact q)]
      rfl
theorem fvalB_al {i c k : Nat} (hl : lay i = (0, c)) (e : β (tg h i k) = α (tg h i k)) : fvalB β h i c k = fvalB α h i c k := by
  rw [tg_ob hl] at e
  unfold tgF at e
  unfold fvalB
  generalize fk c k = q at e ⊢
  obtain ⟨t, y⟩ := q
  match t with
  | 0 => rfl
  | 1 => rfl
  | 2 => rfl
  | 3 =>
    have e : β (if h i k < 0 then i else (h i k).toNat) = α (if h i k < 0 then i else (h i k).toNat) := e
    show enc β (2, h i k) = enc α (2, h i k)
    cases hx : h i k with
    | ofNat a =>
      rw [hx, if_neg (by show ¬ ((a : Int) < 0); omega)] at e
      show Value.ref (β a) = Value.ref (α a)
      have e : β a = α a := e
      rw [e]
    | negSucc a => rfl
  | n + 4 =>
    have e : β (if h i k = 1 then i + y else i) = α (if h i k = 1 then i + y else i) := e
    show (if h i k = 1 then Value.ref (β (i + y)) else .null) = (if h i k = 1 then Value.ref (α (i + y)) else .null)
    by_cases c : h i k = 1
    · rw [if_pos c] at e
      rw [if_pos c, if_pos c, e]
    · rw [if_neg c, if_neg c]
theorem entB_al {i : Nat} (e : ∀ k, β (tg h i k) = α (tg h i k)) : entB β τ h i = entB α τ h i := by
  cases hl : lay i with
  | mk t n =>
    have arr : ∀ (b : Nat → Nat), (∀ k, tg h i k = if h i k = 1 then b k else i) → (fun j => if h i j = 1 then some (β (b j)) else none) = (fun j => if h i j = 1 then some (α (b j)) else none) := fun b hb => by
      funext j
      have e := e j
      rw [hb] at e
      by_cases c : h i j = 1
      · rw [if_pos c] at e; rw [if_pos c, if_pos c, e]
      · rw [if_neg c, if_neg c]
    match t with
    | 0 =>
      rw [entB_ob hl, entB_ob hl]
      have : (fun k => fvalB β h i n k) = (fun k => fvalB α h i n k) := funext (fun k => fvalB_al hl (e k))
      rw [this]
    | 1 => rw [entB_i hl, entB_i hl]
    | 2 => rw [entB_l hl, entB_l hl]
    | 3 => rw [entB_b hl, entB_b hl]
    | 4 => rw [entB_z hl, entB_z hl]
    | 5 => rw [entB_5 hl, entB_5 hl, arr (fun j => i + 1 + 15 * j) (fun k => by unfold tg; rw [hl]; rfl)]
    | 6 => rw [entB_6 hl, entB_6 hl, arr (fun j => i + 1 + 6 * j) (fun k => by unfold tg; rw [hl]; rfl)]
    | u + 7 =>
      unfold entB
      rw [hl]
      show (Sum.inl (τ 6, n, .inr (.inr (.inr (.inr (fun j => if h i j = 1 then some (β (i + 1 + 1 * j)) else none))))) : va_E) = .inl (τ 6, n, .inr (.inr (.inr (.inr (fun j => if h i j = 1 then some (α (i + 1 + 1 * j)) else none)))))
      rw [arr (fun j => i + 1 + 1 * j) (fun k => by unfold tg; rw [hl]; rfl)]
theorem enc_al {v : Vl} (hv : okB S v) (e : ∀ i, i ∈ S ∨ 181 ≤ i → β i = α i) : enc β v = enc α v := by
  obtain ⟨t, x⟩ := v
  match t with
  | 0 => rfl
  | 1 => rfl
  | t + 2 =>
    cases x with
    | ofNat a => show Value.ref (β a) = Value.ref (α a); rw [e a hv]
    | negSucc a => rfl
theorem stE_al {st : List Vl} (hs : ∀ v ∈ st, okB S v) (e : ∀ i, i ∈ S ∨ 181 ≤ i → β i = α i) : stE β st = stE α st := List.map_congr_left (fun v hv => enc_al (hs v hv) e)
theorem lsE_al {ls : LoS} (hs : ∀ q ∈ ls, okB S q.2) (e : ∀ i, i ∈ S ∨ 181 ≤ i → β i = α i) : lsE β ls = lsE α ls := List.map_congr_left (fun q hq => by rw [enc_al (hs q hq) e])
theorem Xf.al {sc : Nat × (Nat → Int)} {A : Nat → Prop} {s : State} (x : Xf sc α A s) (e : ∀ i, 181 ≤ i → β i = α i) : Xf sc β A s := by
  have e1 : (fun i => β (182 + i)) = fun i => α (182 + i) := funext (fun i => e _ (by omega))
  have e2 : (fun i => β (184 + i)) = fun i => α (184 + i) := funext (fun i => e _ (by omega))
  unfold Xf at x ⊢
  rw [e1, e2, e 186 (by omega), e 182 (by omega), e 183 (by omega), e 181 (by omega)]
  exact x
theorem Fx.al {M : Hd} {p : Program} {R : Room} {s : State} {m : MethodId} {args : Array Value} {meth : Method} {c : Code} {D : va_G} {A : Nat → Prop} (x : Fx M p R s m args meth c D α τ A) (e : ∀ i, 181 ≤ i → β i = α i) : Fx M p R s m args meth c D β τ A := by
  obtain ⟨a1, a2, a3, a4, a5, a6, a7, a8, a9, aA, aB, aC⟩ := x
  exact ⟨a1, a2, a3, a4, a5, a6, a7, a8, a9, aA, aB, aC.al e⟩
/-- a new object's cells -/
def dfl (i k : Nat) : Int := if skd i k = 3 then -1 else 0
def mz (h : Mem) (n : Nat) : Mem := fun i j => if i = n then dfl n j else h i j
theorem mz_o {n i j : Nat} (e : i ≠ n) : mz h n i j = h i j := by unfold mz; rw [if_neg e]
theorem mz_at {n j : Nat} : mz h n n j = dfl n j := by unfold mz; rw [if_pos rfl]
theorem dfl_ok (t : Nat) : okv t (if t = 3 then -1 else 0) := by
  match t with
  | 0 => exact ⟨by decide, by decide⟩
  | 1 => exact ⟨by decide, by decide⟩
  | 2 => exact Or.inl rfl
  | 3 => exact ⟨by decide, by decide⟩
  | 4 => trivial
  | 5 => exact ⟨by decide, by decide⟩
  | n + 6 => trivial
theorem Rg.mz {n : Nat} (g : Rg h) : Rg (mz h n) := fun i k => by
  by_cases e : i = n
  · rw [e, mz_at]; exact dfl_ok _
  · rw [mz_o e]; exact g i k
theorem tg_mz {n k : Nat} : tg (mz h n) n k = n := by
  have d : mz h n n k = dfl n k := mz_at
  cases hl : lay n with
  | mk t c =>
    match t with
    | 0 =>
      rw [tg_ob hl]
      unfold tgF
      rw [d]
      unfold dfl
      rw [skd_ob hl]
      cases fk c k with
      | mk u y =>
        match u with
        | 0 => rfl
        | 1 => rfl
        | 2 => rfl
        | 3 => rfl
        | u + 4 => exact if_neg (by show ¬ ((if u + 4 = 3 then (-1 : Int) else 0) = 1); rw [if_neg (by omega)]; decide)
    | 1 => exact tg_arr hl (by omega)
    | 2 => exact tg_arr hl (by omega)
    | 3 => exact tg_arr hl (by omega)
    | 4 => exact tg_arr hl (by omega)
    | u + 5 =>
      have z : dfl n k = 0 := by
        unfold dfl skd
        rw [hl]
        match u with
        | 0 => rfl
        | 1 => rfl
        | u + 2 => rfl
      unfold tg
      rw [hl, d, z]
      match u with
      | 0 => rfl
      | 1 => rfl
      | u + 2 => rfl
theorem Cls.mz {n : Nat} (c : Cls S h) (hn : n ∉ S) : Cls (S ++ [n]) (mz h n) := fun i hi k => by
  by_cases e : i = n
  · rw [e, tg_mz]; exact List.mem_append_right _ List.mem_cons_self
  · rcases List.mem_append.mp hi with q | q
    · rw [tg_o (mz_o e)]; exact List.mem_append_left _ (c i q k)
    · exact absurd (List.mem_singleton.mp q) e
def upa (α : Nat → Nat) (n q : Nat) : Nat → Nat := fun i => if i = n then q else α i
theorem upa_o {n q i : Nat} (e : i ≠ n) : upa α n q i = α i := by unfold upa; rw [if_neg e]
theorem upa_at {n q : Nat} : upa α n q n = q := by unfold upa; rw [if_pos rfl]
theorem wdS_new {n q : Nat} {E : va_E} (c : Cls S h) (hn : n ∉ S) (hE : entB (upa α n q) τ (mz h n) n = E) : wdS α τ S h ++ [(q, E)] = wdS (upa α n q) τ (S ++ [n]) (mz h n) := by
  have e1 : wdS (upa α n q) τ (S ++ [n]) (mz h n) = wdS (upa α n q) τ S (mz h n) ++ [(q, E)] := by
    unfold wdS
    rw [List.map_append]
    show _ ++ [(upa α n q n, entB (upa α n q) τ (mz h n) n)] = _
    rw [upa_at, hE]
  rw [e1]
  congr 1
  unfold wdS
  refine List.map_congr_left (fun i hi => ?_)
  have ne : i ≠ n := fun z => hn (z ▸ hi)
  have ea : entB (upa α n q) τ h i = entB α τ h i := entB_al (fun k => upa_o (fun z => hn (by rw [← z]; exact c i hi k)))
  rw [upa_o ne, entB_other (h := h) (fun k => mz_o ne), ea]
end BWH1
