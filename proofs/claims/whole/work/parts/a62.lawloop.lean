/-! the law's loop comes to its end with 1 -/
theorem law_loop {sc : Nat × (Nat → Int)} (h0 : 0 < sc.1) (hL : sc.1 ≤ 3072) (hr : ∀ j, InR (sc.2 j)) : ∀ (k i : Nat) (h : Mem) (z : Int), z = (i : Int) → sc.1 ≤ i + k → Iv h → L_L_law_18 sc h z (fun r _ => r = 1) := by
  intro k
  induction k with
  | zero =>
    intro i h z hz hk iv
    subst hz
    refine l_L_law_18 h0 ?_
    unfold B_L_law_18
    exact ⟨⟨by omega, by omega⟩, fun _ => rfl, fun q => absurd (by omega) q⟩
  | succ k ih =>
    intro i h z hz hk iv
    subst hz
    refine l_L_law_18 h0 ?_
    unfold B_L_law_18
    refine ⟨⟨by omega, by omega⟩, fun _ => rfl, fun q => ⟨⟨by omega, by omega⟩, ?_⟩⟩
    have go : ∀ u : Mem, Iv u → InR ((i : Int) + 6) ∧ L_L_law_18 sc u ((i : Int) + 6) (fun r _ => r = 1) := fun u v => ⟨⟨by omega, by omega⟩, ih (i + 6) u _ (by omega) (by omega) v⟩
    refine ⟨fun _ => ?_, ?_⟩
    · repeat (refine ⟨⟨by omega, by omega⟩, ?_⟩)
      exact v_status iv (fun r u v => ⟨fun _ => go u v, fun z => absurd rfl z⟩)
    refine ⟨fun _ => ?_, ?_⟩
    · repeat (refine ⟨⟨by omega, by omega⟩, ?_⟩)
      exact v_top iv (fun r u v => ⟨fun _ => go u v, fun z => absurd rfl z⟩)
    refine ⟨fun _ => ?_, ?_⟩
    · repeat (refine ⟨⟨by omega, by omega⟩, ?_⟩)
      exact v_bottom iv (fun r u v => ⟨fun _ => go u v, fun z => absurd rfl z⟩)
    refine ⟨fun _ => ?_, ?_⟩
    · repeat (refine ⟨⟨by omega, by omega⟩, ?_⟩)
      exact v_tray iv (fun r u v => ⟨fun _ => go u v, fun z => absurd rfl z⟩)
    refine ⟨fun _ => ?_, ?_⟩
    · repeat (refine ⟨⟨by omega, by omega⟩, ?_⟩)
      exact v_write iv (fun r u v => ⟨fun _ => go u v, fun z => absurd rfl z⟩)
    refine ⟨fun _ => ?_, ?_⟩
    · repeat (refine ⟨⟨by omega, by omega⟩, ?_⟩)
      exact v_read iv (fun r u v => ⟨fun _ => go u v, fun z => absurd rfl z⟩)
    refine ⟨fun _ => ?_, ?_⟩
    · repeat (refine ⟨⟨by omega, by omega⟩, ?_⟩)
      exact v_pour iv (hr _) (hr _) (hr _) (fun r u v => ⟨fun _ => go u v, fun z => absurd rfl z⟩)
    refine ⟨fun _ => ?_, ?_⟩
    · repeat (refine ⟨⟨by omega, by omega⟩, ?_⟩)
      exact v_feed iv (fun r u v => ⟨fun _ => go u v, fun z => absurd rfl z⟩)
    refine ⟨fun _ => ?_, ?_⟩
    · repeat (refine ⟨⟨by omega, by omega⟩, ?_⟩)
      exact v_glen iv (fun r u v => ⟨fun _ => go u v, fun z => absurd rfl z⟩)
    refine ⟨fun _ => ?_, ?_⟩
    · repeat (refine ⟨⟨by omega, by omega⟩, ?_⟩)
      exact v_days iv (fun r u v => ⟨fun _ => go u v, fun z => absurd rfl z⟩)
    refine ⟨fun _ => ?_, ?_⟩
    · repeat (refine ⟨⟨by omega, by omega⟩, ?_⟩)
      exact v_fault iv (fun r u v => ⟨fun _ => go u v, fun z => absurd rfl z⟩)
    refine ⟨fun _ => ?_, ?_⟩
    · repeat (refine ⟨⟨by omega, by omega⟩, ?_⟩)
      exact v_told iv (fun r u v => ⟨fun _ => go u v, fun z => absurd rfl z⟩)
    refine ⟨fun _ => ?_, ?_⟩
    · repeat (refine ⟨⟨by omega, by omega⟩, ?_⟩)
      exact v_thing iv (fun r u v => ⟨fun _ => go u v, fun z => absurd rfl z⟩)
    refine ⟨fun _ => ?_, ?_⟩
    · repeat (refine ⟨⟨by omega, by omega⟩, ?_⟩)
      exact v_cellOf iv (fun r u v => ⟨fun _ => go u v, fun z => absurd rfl z⟩)
    refine ⟨fun _ => ?_, ?_⟩
    · repeat (refine ⟨⟨by omega, by omega⟩, ?_⟩)
      exact v_mill iv (fun r u v => ⟨fun _ => go u v, fun z => absurd rfl z⟩)
    refine ⟨fun _ => ?_, ?_⟩
    · repeat (refine ⟨⟨by omega, by omega⟩, ?_⟩)
      exact v_goal iv (fun r u v => ⟨fun _ => go u v, fun z => absurd rfl z⟩)
    refine ⟨fun _ => ?_, ?_⟩
    · repeat (refine ⟨⟨by omega, by omega⟩, ?_⟩)
      exact v_goalThing iv (fun r u v => ⟨fun _ => go u v, fun z => absurd rfl z⟩)
    refine ⟨fun _ => ?_, ?_⟩
    · repeat (refine ⟨⟨by omega, by omega⟩, ?_⟩)
      exact v_hour iv (fun r u v => ⟨fun _ => go u v, fun z => absurd rfl z⟩)
    refine ⟨fun _ => ?_, ?_⟩
    · repeat (refine ⟨⟨by omega, by omega⟩, ?_⟩)
      exact v_toss iv (fun r u v => ⟨fun _ => go u v, fun z => absurd rfl z⟩)
    refine ⟨fun _ => ?_, ?_⟩
    · repeat (refine ⟨⟨by omega, by omega⟩, ?_⟩)
      exact v_fetch iv (fun r u v => ⟨fun _ => go u v, fun z => absurd rfl z⟩)
    refine ⟨fun _ => ?_, ?_⟩
    · repeat (refine ⟨⟨by omega, by omega⟩, ?_⟩)
      exact v_grip iv (fun r u v => ⟨fun _ => go u v, fun z => absurd rfl z⟩)
    refine ⟨fun _ => ?_, ?_⟩
    · repeat (refine ⟨⟨by omega, by omega⟩, ?_⟩)
      exact v_mind iv (fun r u v => ⟨fun _ => go u v, fun z => absurd rfl z⟩)
    refine ⟨fun _ => ?_, ?_⟩
    · repeat (refine ⟨⟨by omega, by omega⟩, ?_⟩)
      exact v_make iv (fun r u v => ⟨fun _ => go u v, fun z => absurd rfl z⟩)
    refine ⟨fun _ => ?_, ?_⟩
    · repeat (refine ⟨⟨by omega, by omega⟩, ?_⟩)
      exact v_build iv (fun r u v => ⟨fun _ => go u v, fun z => absurd rfl z⟩)
    refine ⟨fun _ => ?_, ?_⟩
    · repeat (refine ⟨⟨by omega, by omega⟩, ?_⟩)
      exact v_rule iv (fun r u v => ⟨fun _ => go u v, fun z => absurd rfl z⟩)
    refine ⟨fun _ => ?_, ?_⟩
    · repeat (refine ⟨⟨by omega, by omega⟩, ?_⟩)
      exact v_atIn iv (fun r u v => ⟨fun _ => go u v, fun z => absurd rfl z⟩)
    refine ⟨fun _ => ?_, ?_⟩
    · repeat (refine ⟨⟨by omega, by omega⟩, ?_⟩)
      exact v_carriedIn iv (fun r u v => ⟨fun _ => go u v, fun z => absurd rfl z⟩)
    refine ⟨fun _ => ?_, ?_⟩
    · repeat (refine ⟨⟨by omega, by omega⟩, ?_⟩)
      exact v_homeIn iv (fun r u v => ⟨fun _ => go u v, fun z => absurd rfl z⟩)
    refine ⟨fun _ => ?_, ?_⟩
    · repeat (refine ⟨⟨by omega, by omega⟩, ?_⟩)
      exact v_turnsIn iv (fun r u v => ⟨fun _ => go u v, fun z => absurd rfl z⟩)
    refine ⟨fun _ => ?_, ?_⟩
    · repeat (refine ⟨⟨by omega, by omega⟩, ?_⟩)
      exact v_turnIn iv (fun r u v => ⟨fun _ => go u v, fun z => absurd rfl z⟩)
    refine ⟨fun _ => ?_, ?_⟩
    · repeat (refine ⟨⟨by omega, by omega⟩, ?_⟩)
      exact v_groundIn iv (fun r u v => ⟨fun _ => go u v, fun z => absurd rfl z⟩)
    refine ⟨fun _ => ?_, ?_⟩
    · repeat (refine ⟨⟨by omega, by omega⟩, ?_⟩)
      exact v_quietIn iv (fun r u v => ⟨fun _ => go u v, fun z => absurd rfl z⟩)
    refine ⟨fun _ => ?_, ?_⟩
    · repeat (refine ⟨⟨by omega, by omega⟩, ?_⟩)
      exact v_ring iv (fun r u v => ⟨fun _ => go u v, fun z => absurd rfl z⟩)
    refine ⟨fun _ => ?_, ?_⟩
    · repeat (refine ⟨⟨by omega, by omega⟩, ?_⟩)
      exact v_aim iv (fun r u v => ⟨fun _ => go u v, fun z => absurd rfl z⟩)
    refine ⟨fun _ => ?_, ?_⟩
    · repeat (refine ⟨⟨by omega, by omega⟩, ?_⟩)
      exact v_soonest iv (fun r u v => ⟨fun _ => go u v, fun z => absurd rfl z⟩)
    refine ⟨fun _ => ?_, ?_⟩
    · repeat (refine ⟨⟨by omega, by omega⟩, ?_⟩)
      exact v_soonestIn iv (fun r u v => ⟨fun _ => go u v, fun z => absurd rfl z⟩)
    refine ⟨fun _ => ?_, ?_⟩
    · repeat (refine ⟨⟨by omega, by omega⟩, ?_⟩)
      exact v_drive iv (fun r u v => ⟨fun _ => go u v, fun z => absurd rfl z⟩)
    refine ⟨fun _ => ?_, ?_⟩
    · repeat (refine ⟨⟨by omega, by omega⟩, ?_⟩)
      exact v_driveCell iv (fun r u v => ⟨fun _ => go u v, fun z => absurd rfl z⟩)
    refine ⟨fun _ => ?_, ?_⟩
    · repeat (refine ⟨⟨by omega, by omega⟩, ?_⟩)
      exact v_minded iv (fun r u v => ⟨fun _ => go u v, fun z => absurd rfl z⟩)
    refine ⟨fun _ => ?_, ?_⟩
    · repeat (refine ⟨⟨by omega, by omega⟩, ?_⟩)
      exact v_mindedAt iv (fun r u v => ⟨fun _ => go u v, fun z => absurd rfl z⟩)
    refine ⟨fun _ => ?_, ?_⟩
    · repeat (refine ⟨⟨by omega, by omega⟩, ?_⟩)
      exact v_ask iv (fun r u v => ⟨fun _ => go u v, fun z => absurd rfl z⟩)
    refine ⟨fun _ => ?_, ?_⟩
    · repeat (refine ⟨⟨by omega, by omega⟩, ?_⟩)
      exact v_heaviest iv (fun r u v => ⟨fun _ => go u v, fun z => absurd rfl z⟩)
    refine ⟨fun _ => ?_, ?_⟩
    · repeat (refine ⟨⟨by omega, by omega⟩, ?_⟩)
      exact v_heaviestWeight iv (fun r u v => ⟨fun _ => go u v, fun z => absurd rfl z⟩)
    refine ⟨fun _ => ?_, ?_⟩
    · repeat (refine ⟨⟨by omega, by omega⟩, ?_⟩)
      exact v_ride iv (fun r u v => ⟨fun _ => go u v, fun z => absurd rfl z⟩)
    refine ⟨fun _ => ?_, ?_⟩
    · repeat (refine ⟨⟨by omega, by omega⟩, ?_⟩)
      exact v_waits iv (fun r u v => ⟨fun _ => go u v, fun z => absurd rfl z⟩)
    refine ⟨fun _ => ?_, ?_⟩
    · repeat (refine ⟨⟨by omega, by omega⟩, ?_⟩)
      exact v_game iv (fun r u v => ⟨fun _ => go u v, fun z => absurd rfl z⟩)
    refine ⟨fun _ => ?_, ?_⟩
    · repeat (refine ⟨⟨by omega, by omega⟩, ?_⟩)
      exact v_moveOf iv (fun r u v => ⟨fun _ => go u v, fun z => absurd rfl z⟩)
    refine ⟨fun _ => ?_, ?_⟩
    · repeat (refine ⟨⟨by omega, by omega⟩, ?_⟩)
      exact v_share iv (fun r u v => ⟨fun _ => go u v, fun z => absurd rfl z⟩)
    refine ⟨fun _ => ?_, ?_⟩
    · repeat (refine ⟨⟨by omega, by omega⟩, ?_⟩)
      exact v_rain iv (fun r u v => ⟨fun _ => go u v, fun z => absurd rfl z⟩)
    refine ⟨fun _ => ?_, ?_⟩
    · repeat (refine ⟨⟨by omega, by omega⟩, ?_⟩)
      exact v_copyHours iv (fun r u v => ⟨fun _ => go u v, fun z => absurd rfl z⟩)
    refine ⟨fun _ => ?_, ?_⟩
    · repeat (refine ⟨⟨by omega, by omega⟩, ?_⟩)
      exact v_live iv (fun r u v => ⟨fun _ => go u v, fun z => absurd rfl z⟩)
    refine ⟨fun _ => ?_, ?_⟩
    · refine ⟨⟨by omega, by omega⟩, ⟨by omega, by omega⟩, ?_⟩
      exact v_lived iv (fun r u v => ⟨fun _ => go u v, fun z => absurd rfl z⟩)
    refine ⟨fun _ => ?_, ?_⟩
    · repeat (refine ⟨⟨by omega, by omega⟩, ?_⟩)
      exact v_mean iv (hr _) (hr _) (fun r u v => ⟨fun _ => go u v, fun z => absurd rfl z⟩)
    refine ⟨fun _ => ?_, ?_⟩
    · repeat (refine ⟨⟨by omega, by omega⟩, ?_⟩)
      exact v_mark iv (fun r u v => ⟨fun _ => go u v, fun z => absurd rfl z⟩)
    refine ⟨fun _ => ?_, ?_⟩
    · repeat (refine ⟨⟨by omega, by omega⟩, ?_⟩)
      exact v_undo iv (fun r u v => ⟨fun _ => go u v, fun z => absurd rfl z⟩)
    exact fun _ => go h iv
