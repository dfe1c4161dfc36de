def dvl : Nat → Value
  | 0 => .int 0
  | 1 => .long 0
  | 2 => .int 0
  | _ => .null
section BWN
variable {M : Hd} {pc : Nat} {ls : LoS} {st : List Vl} {h : BM} {Q : PostB}
theorem fvalB_mz {α : Nat → Nat} {g : Mem} {n c k : Nat} (hl : lay n = (0, c)) : fvalB α (mz g n) n c k = dvl (fk c k).1 := by
  have d : mz g n n k = (if (fk c k).1 = 3 then -1 else 0) := by rw [mz_at]; unfold dfl; rw [skd_ob hl]
  unfold fvalB
  rw [d]
  generalize fk c k = q
  obtain ⟨t, y⟩ := q
  match t with
  | 0 => rfl
  | 1 => rfl
  | 2 => rfl
  | 3 => rfl
  | t + 4 =>
    show (if (if t + 4 = 3 then (-1 : Int) else 0) = 1 then Value.ref (α (n + y)) else .null) = .null
    rw [if_neg (show ¬ (t + 4 = 3) by omega), if_neg (by decide)]
/-- what follows when one object more is there -/
theorem bw_more {n0 nn q : Nat} {E : va_E} {p : Program} {l : Launch} {e : Env} {R : Room} {s : State} {m : MethodId} {args : Array Value} {below : List Frame} {meth : Method} {c : Code} {H H1 : Heap} {locs : List Loc} {cells slots : Nat} {Z : State → Prop} {D : va_G} {α : Nat → Nat} {τ : Nat → ClassId} {A : Nat → Prop} {pc2 : Nat} {st2 : List Vl}
    (hF : Fx M p R s m args meth c D α τ A) (hN : (M.2.2.2.2.2.2 0 = 1 → meth.name = "<init>") ∧ NW s) (hC : BCx s D α τ A H locs h) (hE : BEnds M p l e R s m args below meth c cells slots Z D α τ A h Q) (h1 : cells + h.2.2.1 ≤ R.cells) (h2 : slots + h.2.2.2 ≤ R.slots) (hs : ∀ v ∈ st2, okB h.1 v) (hl : ∀ q ∈ ls, okB h.1 q.2) {L : Array Slot} (hL : lv_has L M.2.1 (lsE α ls))
    (hlt : n0 < nOb) (hnew : n0 ∉ h.1) (hb : 1 ≤ h.2.2.1 ∧ nn ≤ h.2.2.2) (hEn : entB (upa α n0 q) τ (mz h.2.1 n0) n0 = E) (kk : BW M pc2 ls (vr n0 :: st2) (h.1 ++ [n0], mz h.2.1 n0, h.2.2.1 - 1, h.2.2.2 - nn) Q)
    (p1 : va_P D vwCl (wdS α τ h.1 h.2.1 ++ [(q, E)]) H1) (p2 : va_D A (wdS α τ h.1 h.2.1 ++ [(q, E)])) (p3 : va_S A s.heap H1 locs) : W p l e R s m args below meth c H1 locs (cells + 1) (slots + nn) Z (F0 m pc2 L (.ref q :: stE α st2)) := by
  have big : ∀ i, i ∈ h.1 ∨ 181 ≤ i → upa α n0 q i = α i := fun i hi => by
    refine upa_o (fun z => ?_)
    rcases hi with y | y
    · exact hnew (z ▸ y)
    · have : n0 < 181 := hlt
      omega
  rw [wdS_new hC.2.2.2.2.2 hnew hEn] at p1 p2
  have k2 := kk p l e R s m args below meth c H1 locs (cells + 1) (slots + nn) Z D (upa α n0 q) τ A (hF.al (fun i hi => big i (Or.inr hi))) hN
    ⟨p1, p2, p3, hC.2.2.2.1.mz, fun i hi => by
      rcases List.mem_append.mp hi with y | y
      · exact hC.2.2.2.2.1 i y
      · rw [List.mem_singleton.mp y]; exact hlt, hC.2.2.2.2.2.mz hnew⟩
    (fun γ rv b1 H1 locs1 k1 n1 g1 g2 g3 g4 => hE γ rv b1 H1 locs1 k1 n1 (fun i hi => (g1 i (hi.imp (fun y => List.mem_append_left _ y) id)).trans (big i hi)) (fun i hi => g2 i (List.mem_append_left _ hi)) (by have g3 : k1 + b1.2.2.1 ≤ cells + 1 + (h.2.2.1 - 1) := g3; omega) (by have g4 : n1 + b1.2.2.2 ≤ slots + nn + (h.2.2.2 - nn) := g4; omega))
    (show cells + 1 + (h.2.2.1 - 1) ≤ R.cells by omega) (show slots + nn + (h.2.2.2 - nn) ≤ R.slots by omega)
    (bok_c (Or.inl (List.mem_append_right _ List.mem_cons_self)) (fun v hv => by
      have y := hs v hv
      obtain ⟨t, x⟩ := v
      match t with
      | 0 => exact y
      | 1 => exact y
      | t + 2 =>
        cases x with
        | ofNat a => exact y.imp (fun z => List.mem_append_left _ z) id
        | negSucc a => exact trivial))
    (fun v hv => by
      have y := hl v hv
      obtain ⟨i0, t, x⟩ := v
      match t with
      | 0 => exact y
      | 1 => exact y
      | t + 2 =>
        cases x with
        | ofNat a => exact y.imp (fun z => List.mem_append_left _ z) id
        | negSucc a => exact trivial) L (by rw [lsE_al hl big]; exact hL)
  have e2 : stE (upa α n0 q) (vr n0 :: st2) = .ref q :: stE α st2 := by
    show Value.ref (upa α n0 q n0) :: stE (upa α n0 q) st2 = _
    rw [upa_at, stE_al hs big]
  rw [e2] at k2
  exact k2
theorem bw_new {idx ci n0 N : Nat} {C : String} {T : u_T} {ty : Nat → FieldType} (hK : ClK ci C T N ty) (hd : decode M.1 pc = .ok (.new idx, 3)) (hcl : Cond.classLink M.2.2.1 idx C ∈ lw_g) (hin : Cond.instantiable C N ∈ lw_g) (hini : Cond.initialized C ∈ lw_g) (hl0 : lay n0 = (0, ci)) (hnew : n0 ∉ h.1) (hdv : ∀ j, j < N → defaultValue (ty j) = dvl (fk ci j).1) (hb : 1 ≤ h.2.2.1 ∧ N ≤ h.2.2.2) (kk : BW M (pc + 3) ls (vr n0 :: st) (h.1 ++ [n0], mz h.2.1 n0, h.2.2.1 - 1, h.2.2.2 - N) Q) : BW M pc ls st h Q := by
  intro p l e R s m args below meth c H locs cells slots Z D α τ A hF hN hC hE h1 h2 hs hl L hL
  obtain ⟨k1, k2, k3, k4, k5⟩ := hK
  refine va_new (ci := ci) (fs := (List.range (nfl ci)).map (fun k => dvl (fk ci k).1)) (C := C) (T := T) (N := N) hF.1 hF.2.1 hF.2.2.2.2.1 k2 ty k3 hF.2.2.2.1 (hF.2.2.2.2.1 _ hcl) (hF.2.2.2.2.1 _ hin) (hF.2.2.2.2.1 _ hini) hF.2.2.2.2.2.1 hC.1 hC.2.1 hC.2.2.1 hF.2.2.2.2.2.2.2.2.2.2.1 k1 (fun j hj => ?_) (by omega) (by omega) hd (fun q H1 p1 p2 p3 => ?_)
  · rw [hdv j hj]
    unfold vp_V
    rw [List.getD_eq_getElem?_getD, List.getElem?_map, List.getElem?_range (by omega)]
    rfl
  · refine bw_more hF hN hC hE h1 h2 hs hl hL (lay_lt hl0 (by omega)) hnew hb ?_ kk p1 p2 p3
    rw [entB_ob hl0]
    have : (fun k => fvalB (upa α n0 q) (mz h.2.1 n0) n0 ci k) = fun k => dvl (fk ci k).1 := funext (fun k => fvalB_mz hl0)
    rw [this]
theorem bw_newa {idt ix n n0 : Nat} {atype : ArrayType} {ty : FieldType} {x : Int} {a0 : (Nat → Int32) ⊕ (Nat → Int64) ⊕ (Nat → UInt32) ⊕ (Nat → UInt64) ⊕ (Nat → Option Nat)} (hd : decode M.1 pc = .ok (.newarray atype, 2)) (hty : newarray.typeOf atype = ty) (harr : Cond.arrayClass (newarray.typeOf atype) ∈ lw_g) (hl0 : lay n0 = (idt, n)) (h9 : idt < 9) (hx : x = (n : Int)) (hnew : n0 ∉ h.1) (hb : 1 ≤ h.2.2.1 ∧ n ≤ h.2.2.2) (hby : n * componentBytes ty ≤ 536870912)
    (htl : ∀ τ : Nat → ClassId, (tyl τ)[ix]? = some (τ ix, ty)) (hra : ∀ (U : State) (cA : ClassId), va_RA U cA ty → U.vm.findClass ("[" ++ ty.toString) = some cA) (ha : ∀ cA : ClassId, vp_cell cA (n, a0) = arrV cA n (fun _ => defaultValue ty)) (hen : ∀ (β : Nat → Nat) (τ : Nat → ClassId) (g : Mem), (∀ k, g n0 k = 0) → entB β τ g n0 = .inl (τ ix, n, a0)) (hz : ∀ k, dfl n0 k = 0)
    (kk : BW M (pc + 2) ls (vr n0 :: st) (h.1 ++ [n0], mz h.2.1 n0, h.2.2.1 - 1, h.2.2.2 - n) Q) : BW M pc ls ((0, x) :: st) h Q := by
  intro p l e R s m args below meth c H locs cells slots Z D α τ A hF hN hC hE h1 h2 hs hl L hL
  have hn := lay_small hl0
  subst hx
  have hn1 : Int32.ofInt (n : Int) = Int32.ofNat n := Int32.ofInt_eq_ofNat
  have hcp := cp_n (x := (n : Int)) (by omega) ⟨by omega, by omega⟩
  refine va_newa (a0 := (n, a0)) (N' := n) hF.1 hF.2.1 (hF.2.2.2.2.1 _ harr) hty hF.2.2.2.2.2.1 hC.1 hC.2.1 hC.2.2.1 hF.2.2.2.2.2.2.2.2.2.2.1 ha hcp.1 (by rw [hcp.2, Int.toNat_natCast]) hby (by omega) (by omega) hd (fun q cA H1 pK p1 p2 p3 => ?_)
  have eA : cA = τ ix := by
    have r1 := hra s cA (pK.2 (tyl τ).length (cA, ty) (by rw [List.getElem?_append_right (Nat.le_refl _), Nat.sub_self]; rfl)).2
    have r2 := hra s (τ ix) (hF.2.2.2.2.2.1.2 ix (τ ix, ty) (htl τ)).2
    exact Option.some.inj (r1.symm.trans r2)
  subst eA
  exact bw_more hF hN hC hE h1 h2 (bok_t hs) hl hL (lay_lt hl0 h9) hnew hb (hen _ _ _ (fun k => by rw [mz_at]; exact hz k)) kk p1 p2 p3
theorem dfl_arr {i t n : Nat} (hl : lay i = (t, n)) (ht : 1 ≤ t) (k : Nat) : dfl i k = 0 := by
  unfold dfl skd
  rw [hl]
  match t, ht with
  | 1, _ => rfl
  | 2, _ => rfl
  | 3, _ => rfl
  | 4, _ => rfl
  | t + 5, _ => rfl
theorem bw_newi {n n0 : Nat} {x : Int} (hd : decode M.1 pc = .ok (.newarray .int, 2)) (harr : Cond.arrayClass .int ∈ lw_g) (hl0 : lay n0 = (1, n)) (hx : x = (n : Int)) (hnew : n0 ∉ h.1) (hb : 1 ≤ h.2.2.1 ∧ n ≤ h.2.2.2) (hby : n ≤ 100000) (kk : BW M (pc + 2) ls (vr n0 :: st) (h.1 ++ [n0], mz h.2.1 n0, h.2.2.1 - 1, h.2.2.2 - n) Q) : BW M pc ls ((0, x) :: st) h Q :=
  bw_newa (atype := .int) (ty := .int) (ix := 0) (a0 := .inl (fun _ => 0)) hd rfl harr hl0 (by omega) hx hnew hb (by show n * 4 ≤ _; omega) (fun τ => rfl) (fun U cA q => q) (fun cA => rfl) (fun β τ g hg => by rw [entB_i hl0, show (fun j => Int32.ofInt (g n0 j)) = fun _ => 0 from funext (fun j => by rw [hg]; rfl)]) (dfl_arr hl0 (by omega)) kk
theorem bw_newl {n n0 : Nat} {x : Int} (hd : decode M.1 pc = .ok (.newarray .long, 2)) (harr : Cond.arrayClass .long ∈ lw_g) (hl0 : lay n0 = (2, n)) (hx : x = (n : Int)) (hnew : n0 ∉ h.1) (hb : 1 ≤ h.2.2.1 ∧ n ≤ h.2.2.2) (hby : n ≤ 100000) (kk : BW M (pc + 2) ls (vr n0 :: st) (h.1 ++ [n0], mz h.2.1 n0, h.2.2.1 - 1, h.2.2.2 - n) Q) : BW M pc ls ((0, x) :: st) h Q :=
  bw_newa (atype := .long) (ty := .long) (ix := 1) (a0 := .inr (.inl (fun _ => 0))) hd rfl harr hl0 (by omega) hx hnew hb (by show n * 8 ≤ _; omega) (fun τ => rfl) (fun U cA q => q) (fun cA => rfl) (fun β τ g hg => by rw [entB_l hl0, show (fun j => Int64.ofInt (g n0 j)) = fun _ => 0 from funext (fun j => by rw [hg]; rfl)]) (dfl_arr hl0 (by omega)) kk
theorem bw_newb {n n0 : Nat} {x : Int} (hd : decode M.1 pc = .ok (.newarray .byte, 2)) (harr : Cond.arrayClass .byte ∈ lw_g) (hl0 : lay n0 = (3, n)) (hx : x = (n : Int)) (hnew : n0 ∉ h.1) (hb : 1 ≤ h.2.2.1 ∧ n ≤ h.2.2.2) (hby : n ≤ 100000) (kk : BW M (pc + 2) ls (vr n0 :: st) (h.1 ++ [n0], mz h.2.1 n0, h.2.2.1 - 1, h.2.2.2 - n) Q) : BW M pc ls ((0, x) :: st) h Q :=
  bw_newa (atype := .byte) (ty := .byte) (ix := 2) (a0 := .inl (fun _ => 0)) hd rfl harr hl0 (by omega) hx hnew hb (by show n * 1 ≤ _; omega) (fun τ => rfl) (fun U cA q => q) (fun cA => rfl) (fun β τ g hg => by rw [entB_b hl0, show (fun j => Int32.ofInt (g n0 j)) = fun _ => 0 from funext (fun j => by rw [hg]; rfl)]) (dfl_arr hl0 (by omega)) kk
theorem bw_newz {n n0 : Nat} {x : Int} (hd : decode M.1 pc = .ok (.newarray .boolean, 2)) (harr : Cond.arrayClass .boolean ∈ lw_g) (hl0 : lay n0 = (4, n)) (hx : x = (n : Int)) (hnew : n0 ∉ h.1) (hb : 1 ≤ h.2.2.1 ∧ n ≤ h.2.2.2) (hby : n ≤ 100000) (kk : BW M (pc + 2) ls (vr n0 :: st) (h.1 ++ [n0], mz h.2.1 n0, h.2.2.1 - 1, h.2.2.2 - n) Q) : BW M pc ls ((0, x) :: st) h Q :=
  bw_newa (atype := .boolean) (ty := .boolean) (ix := 3) (a0 := .inl (fun _ => 0)) hd rfl harr hl0 (by omega) hx hnew hb (by show n * 1 ≤ _; omega) (fun τ => rfl) (fun U cA q => q) (fun cA => rfl) (fun β τ g hg => by rw [entB_z hl0, show (fun j => Int32.ofInt (g n0 j)) = fun _ => 0 from funext (fun j => by rw [hg]; rfl)]) (dfl_arr hl0 (by omega)) kk
end BWN
