/-! BW: calls -/
def Qgb (D : va_G) (α : Nat → Nat) (τ : Nat → ClassId) (b : BM) (Q : PostB) (A : Nat → Prop) : Array Value → State → Outcome → State → Prop := fun _ st oc t =>
  (∃ (β : Nat → Nat) (rv : Option Vl) (b1 : BM), oc = .returned (rv.map (enc β)) ∧ Q rv b1 ∧ (∀ i, i ∈ b.1 ∨ 181 ≤ i → β i = α i) ∧ (∀ i ∈ b.1, i ∈ b1.1) ∧ (∀ v, rv = some v → okB b1.1 v) ∧ Rg b1.2.1 ∧ (∀ i ∈ b1.1, i < nOb) ∧ Cls b1.1 b1.2.1 ∧ va_P D vwCl (wdS β τ b1.1 b1.2.1) t.heap ∧ va_D A (wdS β τ b1.1 b1.2.1)) ∧ va_F A st t
def rmB (d : Nat × Nat) (k n : Nat) : Room := { frames := d.1, cells := k, slots := n, locals := d.2 }
def Pgb (D : va_G) (α : Nat → Nat) (τ : Nat → ClassId) (sz : Nat) (as : List Vl) (b : BM) : Array Value → State → Prop :=
  va_Pc (stE α as) (fun U => U.heap.size = sz ∧ va_P D vwCl (wdS α τ b.1 b.2.1) U.heap ∧ va_K D vwCl (tyl τ) U ∧ va_D (fun _ => True) (wdS α τ b.1 b.2.1) ∧ (Rg b.2.1 ∧ (∀ i ∈ b.1, i < nOb) ∧ Cls b.1 b.2.1) ∧ (∀ v ∈ as, okB b.1 v) ∧ Xf sc0 α (va_A (wdS α τ b.1 b.2.1) sz) U ∧ NW U)
def BCt (y : MethodName) (b : ByteArray) (nL : Nat) (ret : Option FieldType) (d : Nat × Nat) (as : List Vl) (bm : BM) (Q : PostB) : Prop :=
  ∀ (l : Launch) (D : va_G) (α : Nat → Nat) (τ : Nat → ClassId) (sz : Nat), Met l y (Cond.code y b nL ret :: lw_g) (rmB d bm.2.2.1 bm.2.2.2) (Pgb D α τ sz as bm) (Qgb D α τ bm Q (va_A (wdS α τ bm.1 bm.2.1) sz)) bm.2.2.1 bm.2.2.2 (va_A (wdS α τ bm.1 bm.2.1) sz)
def sc1 : Nat × (Nat → Int) := (0, fun _ => 1)
theorem bla_ok {S : List Nat} : ∀ (as : List Vl) (i : Nat), (∀ v ∈ as, okB S v) → ∀ q ∈ la i as, okB S q.2 := by
  intro as
  induction as with
  | nil => intro i _ q hq; cases hq
  | cons v vs ih =>
    intro i h q hq
    rcases List.mem_cons.mp hq with rfl | hq
    · exact h v List.mem_cons_self
    · exact ih _ (fun u hu => h u (List.mem_cons_of_mem _ hu)) q hq
theorem BCt.of {y : MethodName} {b : ByteArray} {nL : Nat} {ret : Option FieldType} {d : Nat × Nat} {as : List Vl} {bm : BM} {Q : PostB} {sc : Nat × (Nat → Int)} (hsc : (sc = sc0) ∨ (sc = sc1 ∧ y.name = "<init>")) (hy : plainName y.cls = true) (hn : (as.map wdV).sum ≤ nL) (k : BW (b, nL, y.cls, ret, d, sc) 0 (la 0 as) [] bm Q) : BCt y b nL ret d as bm Q := by
  intro l D α τ sz
  refine Met.ofW (cc := b) (maxL := nL) (ret := ret) hy rfl ?_
  intro p e s m args below meth c s₁ B hml hv
  obtain ⟨rfl, hsz, hP, hK, hD0, hR, hok, hX, hNW⟩ := hv
  subst hsz
  have hts := atoms_spec (ws := Cond.code y b nL ret :: lw_g) B.pre
  have hl := lv_entry (stE α as) (n := nL) (by rw [sl_len]; exact hn)
  rw [lg_entry_eq]
  generalize (lg_sl (stE α as) ++ List.replicate (nL - (lg_sl (stE α as)).length) Slot.unset).toArray = L at hl ⊢
  rw [la_eq] at hl
  have hX2 : Xf sc α (va_A (wdS α τ bm.1 bm.2.1) s.heap.size) s := by
    rcases hsc with q | q
    · rw [q]; exact hX
    · rw [q.1]
      obtain ⟨x1, x2, x3, x4, x5, -⟩ := hX
      exact ⟨x1, x2, x3, x4, x5, fun z => absurd z (Nat.lt_irrefl 0)⟩
  refine k p l e (headSpec (Cond.code y b nL ret :: lw_g) (rmB d bm.2.2.1 bm.2.2.2)).room s m _ below meth c s.heap [] 0 0 _ D α τ (va_A (wdS α τ bm.1 bm.2.1) s.heap.size) ?_ ?_ ?_ ?_ (by rw [Nat.zero_add]; exact Nat.le_refl _) (by rw [Nat.zero_add]; exact Nat.le_refl _) (fun v hv => by cases hv) (bla_ok as 0 hok) L hl
  · exact ⟨B.exec, B.bytes, hml, findClass_of_methodNamed B.named, fun w hw => hts w (List.mem_cons_of_mem _ hw), hK, Nat.le_refl _, Nat.le_refl _, B.returns, B.notSynchronized, fun q hq => Or.inr hq, hX2⟩
  · refine ⟨fun q => ?_, hNW⟩
    rcases hsc with z | z
    · rw [z] at q; exact absurd (show (0 : Int) = 1 from q) (by decide)
    · rw [← z.2]; exact (name_of_methodNamed B.named B.method).1
  · exact ⟨hP, hD0.self, va_S.rf, hR⟩
  · intro β rv b1 H1 locs1 k1 n1 g1 g2 g3 g4 hC hok1 hret hQ pc L hd
    have hq : ∀ t : State, t.heap = H1 → Qgb D α τ bm Q (va_A (wdS α τ bm.1 bm.2.1) s.heap.size) (stE α as).toArray s (.returned (rv.map (enc β))) t := fun t ht =>
      ⟨⟨β, rv, b1, rfl, hQ, g1, g2, hok1, hC.2.2.2.1, hC.2.2.2.2.1, hC.2.2.2.2.2, by rw [ht]; exact hC.1, hC.2.1⟩, hC.2.2.1.F ht⟩
    have hf := hC.2.2.1.2.2
    refine W.widen (k := bm.2.2.1) (n := bm.2.2.2) (by omega) (by omega) ?_
    match rv, hret with
    | none, hret =>
      exact W.vret B.exec B.bytes (B.returns.trans hret) (fun t ht _ => hq t ht) hf hd
    | some (0, x), hret =>
      have hx : InR x := hok1 _ rfl
      rcases hret with r | ⟨r, z⟩ | ⟨r, z⟩ | ⟨r, z⟩
      · exact W.zret (ty := .int) B.exec B.bytes (B.returns.trans r) rfl (fun t ht _ => hq t ht) hf hd
      · exact W.zret (ty := .boolean) B.exec B.bytes (B.returns.trans r) (by rcases z with rfl | rfl <;> rfl) (fun t ht _ => hq t ht) hf hd
      · refine W.zret (ty := .char) B.exec B.bytes (B.returns.trans r) ?_ (fun t ht _ => hq t ht) hf hd
        obtain ⟨n, rfl⟩ : ∃ n : Nat, x = n := ⟨x.toNat, by omega⟩
        rw [show Int32.ofInt (n : Int) = nI n from Int32.ofInt_eq_ofNat]
        exact (pk_charN (by omega)).1
      · refine W.zret (ty := .byte) B.exec B.bytes (B.returns.trans r) ?_ (fun t ht _ => hq t ht) hf hd
        show Value.int _ = Value.int _
        congr 1
        apply Int32.toInt_inj.mp
        show (vp_nar .byte (Int32.ofInt x)).toInt = _
        rw [vp_nar_byte, i32_ti hx]
        simp
        unfold InB at z
        exact Int.bmod_eq_of_le (by have : (Int8.size : Int) = 256 := rfl; omega) (by have : (Int8.size : Int) = 256 := rfl; omega)
    | some (1, x), hret =>
      exact W.lret B.exec B.bytes (B.returns.trans hret) (fun t ht _ => hq t ht) hf hd
/-- what follows when more objects are there -/
theorem bw_grow {M : Hd} {ls : LoS} {h : BM} {Q : PostB} {S1 : List Nat} {g : Mem} {nc ns k9 n9 : Nat} {p : Program} {l : Launch} {e : Env} {R : Room} {s : State} {m : MethodId} {args : Array Value} {below : List Frame} {meth : Method} {c : Code} {H1 : Heap} {locs1 : List Loc} {cells slots : Nat} {Z : State → Prop} {D : va_G} {α β : Nat → Nat} {τ : Nat → ClassId} {A : Nat → Prop} {pc2 : Nat} {st3 : List Vl}
    (hF : Fx M p R s m args meth c D α τ A) (hN : (M.2.2.2.2.2.2 0 = 1 → meth.name = "<init>") ∧ NW s) (hE : BEnds M p l e R s m args below meth c cells slots Z D α τ A h Q) (h1 : cells + h.2.2.1 ≤ R.cells) (h2 : slots + h.2.2.2 ≤ R.slots) (hl : ∀ q ∈ ls, okB h.1 q.2) {L : Array Slot} (hL : lv_has L M.2.1 (lsE α ls))
    (big : ∀ i, i ∈ h.1 ∨ 181 ≤ i → β i = α i) (sub : ∀ i ∈ h.1, i ∈ S1) (hC1 : BCx s D β τ A H1 locs1 (S1, g, k9, n9)) (hb : nc ≤ h.2.2.1 ∧ ns ≤ h.2.2.2) (hst : ∀ v ∈ st3, okB S1 v) (kk : BW M pc2 ls st3 (S1, g, h.2.2.1 - nc, h.2.2.2 - ns) Q) : W p l e R s m args below meth c H1 locs1 (cells + nc) (slots + ns) Z (F0 m pc2 L (stE β st3)) := by
  refine kk p l e R s m args below meth c H1 locs1 (cells + nc) (slots + ns) Z D β τ A (hF.al (fun i hi => big i (Or.inr hi))) hN hC1
    (fun γ rv b1 H1 locs1 k1 n1 g1 g2 g3 g4 => hE γ rv b1 H1 locs1 k1 n1 (fun i hi => (g1 i (hi.imp (sub i) id)).trans (big i hi)) (fun i hi => g2 i (sub i hi)) (by have g3 : k1 + b1.2.2.1 ≤ cells + nc + (h.2.2.1 - nc) := g3; omega) (by have g4 : n1 + b1.2.2.2 ≤ slots + ns + (h.2.2.2 - ns) := g4; omega))
    (show cells + nc + (h.2.2.1 - nc) ≤ R.cells by omega) (show slots + ns + (h.2.2.2 - ns) ≤ R.slots by omega) hst (fun v hv => ?_) L (by rw [lsE_al hl big]; exact hL)
  have y := hl v hv
  obtain ⟨i0, t, x⟩ := v
  match t with
  | 0 => exact y
  | 1 => exact y
  | t + 2 =>
    cases x with
    | ofNat a => exact y.imp (sub a) id
    | negSucc a => exact trivial
theorem okB_sub {S S1 : List Nat} {st : List Vl} (hs : ∀ v ∈ st, okB S v) (sub : ∀ i ∈ S, i ∈ S1) : ∀ v ∈ st, okB S1 v := fun v hv => by
  have y := hs v hv
  obtain ⟨t, x⟩ := v
  match t with
  | 0 => exact y
  | 1 => exact y
  | t + 2 =>
    cases x with
    | ofNat a => exact y.imp (sub a) id
    | negSucc a => exact trivial
theorem Pgb.blind {D : va_G} {α : Nat → Nat} {τ : Nat → ClassId} {sz : Nat} {as : List Vl} {b : BM} : FrameBlind (Pgb D α τ sz as b) := by
  intro a U g mk q
  obtain ⟨q0, q1, qP, qK, qD, qR, qo, qX, qN⟩ := q
  exact ⟨q0, q1, qP, va_K.moved (u := U) (U := U.calling g mk a) (Vm.Alike.refl U.vm) qK, qD, qR, qo, qX.call, qN.call⟩
theorem bA_sub {s : State} {D : va_G} {α : Nat → Nat} {τ : Nat → ClassId} {A : Nat → Prop} {H : Heap} {locs : List Loc} {b : BM} (hA : ∀ q, s.heap.size ≤ q → A q) (hC : BCx s D α τ A H locs b) : ∀ q, va_A (wdS α τ b.1 b.2.1) H.size q → A q := by
  intro q hq
  rcases hq with ⟨k, e, hk⟩ | hq
  · exact hC.2.1.2 k (q, e) hk
  · exact hA q (Nat.le_trans hC.2.2.1.1 hq)
theorem bcall_go {p : Program} {l : Launch} {e : Env} {R : Room} {s : State} {m : MethodId} {args : Array Value} {below : List Frame} {meth : Method} {c : Code} {H : Heap} {locs : List Loc} {cells slots mc ms : Nat} {Z : State → Prop} {D : va_G} {α : Nat → Nat} {τ : Nat → ClassId} {A : Nat → Prop} {b b0 : BM} {Q1 : PostB} {pc : Nat} {L : Array Slot} {st0 rest : List Value} {a : Array Value} (e0 : b0.1 = b.1 ∧ b0.2.1 = b.2.1)
    (hr : va_Run p l e R s m args below meth c H locs cells slots mc ms (F0 m pc L st0) rest (Qgb D α τ b0 Q1 (va_A (wdS α τ b.1 b.2.1) H.size) a) (va_A (wdS α τ b.1 b.2.1) H.size)) (hA : ∀ q, s.heap.size ≤ q → A q) (hC : BCx s D α τ A H locs b)
    (kk : ∀ (β : Nat → Nat) (rv : Option Vl) (b1 : BM) (H1 : Heap) (locs1 : List Loc), Q1 rv b1 → (∀ i, i ∈ b.1 ∨ 181 ≤ i → β i = α i) → (∀ i ∈ b.1, i ∈ b1.1) → (∀ v, rv = some v → okB b1.1 v) → BCx s D β τ A H1 locs1 b1 → W p l e R s m args below meth c H1 locs1 (cells + mc) (slots + ms) Z (F0 m (pc + 3) L (stE β rv.toList ++ rest))) : W p l e R s m args below meth c H locs cells slots Z (F0 m pc L st0) := by
  intro T hT X
  obtain ⟨v, st₀, t, T', L', h0, X', hL, e1, e2, ⟨⟨β, rv, b1, hv, hq, hbig, hsub, hok, hR, hlt, hcl, hP1, hD1⟩, hz, hk⟩, stp⟩ := hr T hT X
  have hs := bA_sub hA hC
  have hv2 : v = rv.map (enc β) := by
    injection hv
  subst hv2
  rw [h0] at hz hk
  rw [e0.1] at hbig hsub
  have e3 : (rv.map (enc β)).toList = stE β rv.toList := by cases rv <;> rfl
  rw [e3] at stp
  obtain ⟨t2, a1, b1'⟩ := kk β rv b1 T'.heap (locs ++ L') hq hbig hsub hok ⟨by rw [e1]; exact hP1, hD1.weaken (fun k q _ hq => hs _ hq), ⟨Nat.le_trans hC.2.2.1.1 (by rw [e1]; exact hz), fun q g1 g2 => by rw [e1, hk q (Nat.lt_of_lt_of_le g1 hC.2.2.1.1) (fun z => g2 (hs q z))]; exact hC.2.2.1.2.1 q g1 g2, fun q hq => by
      rcases List.mem_append.mp hq with g | g
      · exact hC.2.2.1.2.2 q g
      · exact hs _ (hL q g)⟩, hR, hlt, hcl⟩ T' rfl X'
  exact ⟨t2, stp t2 a1, b1'⟩
