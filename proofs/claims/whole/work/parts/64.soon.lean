/-! soonest, soonestIn: the two calls -/
theorem k_soonest {h : Mem} {g : Gs} {a : Int} (s : G2 h g) {Q : Int → Int → Mem → Prop} (hQ : ∀ r u1 u g', G2 u g' → Mo g g' → UX h u1 → UM u1 u → Q r r u) : F_X11_soonest h a (fun r1 h1 => F_X12_soonest h1 a (fun r2 h2 => Q r1 r2 h2)) :=
  k_soonG (FX := F_X11_soonest h a) (FM := fun h1 => F_X12_soonest h1 a) s (fun p => p.2) (fun _ _ e => e) (fun _ z => z) (fun h1 Q z => by
    unfold F_X12_soonest F_X12_orNone
    exact z) hQ
theorem k_soonestIn {h : Mem} {g : Gs} {a : Int} (s : G2 h g) {Q : Int → Int → Mem → Prop} (hQ : ∀ r u1 u g', G2 u g' → Mo g g' → UX h u1 → UM u1 u → Q r r u) : F_X11_soonestIn h a (fun r1 h1 => F_X12_soonestIn h1 a (fun r2 h2 => Q r1 r2 h2)) :=
  k_soonG (FX := F_X11_soonestIn h a) (FM := fun h1 => F_X12_soonestIn h1 a) s (fun p => p.1) (fun _ e _ => e) (fun _ z => z) (fun _ _ z => z) hQ
