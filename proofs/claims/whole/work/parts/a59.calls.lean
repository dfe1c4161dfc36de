/-! every call keeps what holds between calls, and both answer alike -/
section IVC
variable {h : Mem}
theorem v_goal (v : Iv h) {Q : Int → Int → Mem → Prop} (hQ : ∀ r u, Iv u → Q r r u) : F_X11_goal h (fun r1 h1 => F_X12_goal h1 (fun r2 h2 => Q r1 r2 h2)) := by
  obtain ⟨g, dy, m, mg, md, v⟩ := v
  exact k_goal v.s (fun r u1 u g2 s2 mo fa fb => hQ r u ⟨g2, dy, m, mg, md, kv_UX v s2 mo fa fb⟩)
theorem v_goalThing (v : Iv h) {Q : Int → Int → Mem → Prop} (hQ : ∀ r u, Iv u → Q r r u) : F_X11_goalThing h (fun r1 h1 => F_X12_goalThing h1 (fun r2 h2 => Q r1 r2 h2)) := by
  obtain ⟨g, dy, m, mg, md, v⟩ := v
  exact k_goalThing v.s (fun r u1 u g2 s2 mo fa fb => hQ r u ⟨g2, dy, m, mg, md, kv_UX v s2 mo fa fb⟩)
theorem v_thing {a b : Int} (v : Iv h) {Q : Int → Int → Mem → Prop} (hQ : ∀ r u, Iv u → Q r r u) : F_X11_thing h a b (fun r1 h1 => F_X12_thing h1 a b (fun r2 h2 => Q r1 r2 h2)) := by
  obtain ⟨g, dy, m, mg, md, v⟩ := v
  exact k_thing v.s (fun r u1 u g2 s2 mo fa fb => hQ r u ⟨g2, dy, m, mg, md, kv_UX v s2 mo fa fb⟩)
theorem v_atIn {a : Int} (v : Iv h) {Q : Int → Int → Mem → Prop} (hQ : ∀ r u, Iv u → Q r r u) : F_X11_atIn h a (fun r1 h1 => F_X12_atIn h1 a (fun r2 h2 => Q r1 r2 h2)) := by
  obtain ⟨g, dy, m, mg, md, v⟩ := v
  exact k_atIn v.s (fun r u1 u g2 s2 mo fa fb => hQ r u ⟨g2, dy, m, mg, md, kv_UX v s2 mo fa fb⟩)
theorem v_turnsIn {a : Int} (v : Iv h) {Q : Int → Int → Mem → Prop} (hQ : ∀ r u, Iv u → Q r r u) : F_X11_turnsIn h a (fun r1 h1 => F_X12_turnsIn h1 a (fun r2 h2 => Q r1 r2 h2)) := by
  obtain ⟨g, dy, m, mg, md, v⟩ := v
  exact k_turnsIn v.s (fun r u1 u g2 s2 mo fa fb => hQ r u ⟨g2, dy, m, mg, md, kv_UX v s2 mo fa fb⟩)
theorem v_turnIn (v : Iv h) {Q : Int → Int → Mem → Prop} (hQ : ∀ r u, Iv u → Q r r u) : F_X11_turnIn h (fun r1 h1 => F_X12_turnIn h1 (fun r2 h2 => Q r1 r2 h2)) := by
  obtain ⟨g, dy, m, mg, md, v⟩ := v
  exact k_turnIn v.s (fun r u1 u g2 s2 mo fa fb => hQ r u ⟨g2, dy, m, mg, md, kv_UX v s2 mo fa fb⟩)
theorem v_homeIn {a : Int} (v : Iv h) {Q : Int → Int → Mem → Prop} (hQ : ∀ r u, Iv u → Q r r u) : F_X11_homeIn h a (fun r1 h1 => F_X12_homeIn h1 a (fun r2 h2 => Q r1 r2 h2)) := by
  obtain ⟨g, dy, m, mg, md, v⟩ := v
  exact k_homeIn v.s (fun r u1 u g2 s2 mo fa fb => hQ r u ⟨g2, dy, m, mg, md, kv_UX v s2 mo fa fb⟩)
theorem v_carriedIn {a : Int} (v : Iv h) {Q : Int → Int → Mem → Prop} (hQ : ∀ r u, Iv u → Q r r u) : F_X11_carriedIn h a (fun r1 h1 => F_X12_carriedIn h1 a (fun r2 h2 => Q r1 r2 h2)) := by
  obtain ⟨g, dy, m, mg, md, v⟩ := v
  exact k_carriedIn v.s (fun r u1 u g2 s2 mo fa fb => hQ r u ⟨g2, dy, m, mg, md, kv_UX v s2 mo fa fb⟩)
theorem v_groundIn {a b : Int} (v : Iv h) {Q : Int → Int → Mem → Prop} (hQ : ∀ r u, Iv u → Q r r u) : F_X11_groundIn h a b (fun r1 h1 => F_X12_groundIn h1 a b (fun r2 h2 => Q r1 r2 h2)) := by
  obtain ⟨g, dy, m, mg, md, v⟩ := v
  exact k_groundIn v.s (fun r u1 u g2 s2 mo fa fb => hQ r u ⟨g2, dy, m, mg, md, kv_UX v s2 mo fa fb⟩)
theorem v_hour {a : Int} (v : Iv h) {Q : Int → Int → Mem → Prop} (hQ : ∀ r u, Iv u → Q r r u) : F_X11_hour h a (fun r1 h1 => F_X12_hour h1 a (fun r2 h2 => Q r1 r2 h2)) := by
  obtain ⟨g, dy, m, mg, md, v⟩ := v
  exact k_hour v.s (fun r u1 u g2 s2 mo fa fb => hQ r u ⟨g2, dy, m, mg, md, kv_UX v s2 mo fa fb⟩)
theorem v_toss {a b : Int} (v : Iv h) {Q : Int → Int → Mem → Prop} (hQ : ∀ r u, Iv u → Q r r u) : F_X11_toss h a b (fun r1 h1 => F_X12_toss h1 a b (fun r2 h2 => Q r1 r2 h2)) := by
  obtain ⟨g, dy, m, mg, md, v⟩ := v
  exact k_toss v.s (fun r u1 u g2 s2 mo fa fb => hQ r u ⟨g2, dy, m, mg, md, kv_UX v s2 mo fa fb⟩)
theorem v_fetch {a : Int} (v : Iv h) {Q : Int → Int → Mem → Prop} (hQ : ∀ r u, Iv u → Q r r u) : F_X11_fetch h a (fun r1 h1 => F_X12_fetch h1 a (fun r2 h2 => Q r1 r2 h2)) := by
  obtain ⟨g, dy, m, mg, md, v⟩ := v
  exact k_fetch v.s (fun r u1 u g2 s2 mo fa fb => hQ r u ⟨g2, dy, m, mg, md, kv_UX v s2 mo fa fb⟩)
theorem v_grip {a b : Int} (v : Iv h) {Q : Int → Int → Mem → Prop} (hQ : ∀ r u, Iv u → Q r r u) : F_X11_grip h a b (fun r1 h1 => F_X12_grip h1 a b (fun r2 h2 => Q r1 r2 h2)) := by
  obtain ⟨g, dy, m, mg, md, v⟩ := v
  exact k_grip v.s (fun r u1 u g2 s2 mo fa fb => hQ r u ⟨g2, dy, m, mg, md, kv_UX v s2 mo fa fb⟩)
theorem v_mind {a b : Int} (v : Iv h) {Q : Int → Int → Mem → Prop} (hQ : ∀ r u, Iv u → Q r r u) : F_X11_mind h a b (fun r1 h1 => F_X12_mind h1 a b (fun r2 h2 => Q r1 r2 h2)) := by
  obtain ⟨g, dy, m, mg, md, v⟩ := v
  exact k_mind v.s (fun r u1 u g2 s2 mo fa fb => hQ r u ⟨g2, dy, m, mg, md, kv_UX v s2 mo fa fb⟩)
theorem v_cellOf {a : Int} (v : Iv h) {Q : Int → Int → Mem → Prop} (hQ : ∀ r u, Iv u → Q r r u) : F_X11_cellOf h a (fun r1 h1 => F_X12_cellOf h1 a (fun r2 h2 => Q r1 r2 h2)) := by
  obtain ⟨g, dy, m, mg, md, v⟩ := v
  exact k_cellOf v.s (fun r u1 u g2 s2 mo fa fb => hQ r u ⟨g2, dy, m, mg, md, kv_UX v s2 mo fa fb⟩)
theorem v_mill {a b : Int} (v : Iv h) {Q : Int → Int → Mem → Prop} (hQ : ∀ r u, Iv u → Q r r u) : F_X11_mill h a b (fun r1 h1 => F_X12_mill h1 a b (fun r2 h2 => Q r1 r2 h2)) := by
  obtain ⟨g, dy, m, mg, md, v⟩ := v
  exact k_mill v.s (fun r u1 u g2 s2 mo fa fb => hQ r u ⟨g2, dy, m, mg, md, kv_UX v s2 mo fa fb⟩)
theorem v_rule {a b : Int} (v : Iv h) {Q : Int → Int → Mem → Prop} (hQ : ∀ r u, Iv u → Q r r u) : F_X11_rule h a b (fun r1 h1 => F_X12_rule h1 a b (fun r2 h2 => Q r1 r2 h2)) := by
  obtain ⟨g, dy, m, mg, md, v⟩ := v
  exact k_rule v.s (fun r u1 u g2 s2 mo fa fb => hQ r u ⟨g2, dy, m, mg, md, kv_UX v s2 mo fa fb⟩)
theorem v_told {a : Int} (v : Iv h) {Q : Int → Int → Mem → Prop} (hQ : ∀ r u, Iv u → Q r r u) : F_X11_told h a (fun r1 h1 => F_X12_told h1 a (fun r2 h2 => Q r1 r2 h2)) := by
  obtain ⟨g, dy, m, mg, md, v⟩ := v
  exact k_told v.s (fun r u1 u g2 s2 mo fa fb => hQ r u ⟨g2, dy, m, mg, md, kv_UX v s2 mo fa fb⟩)
theorem v_make {a b c : Int} (v : Iv h) {Q : Int → Int → Mem → Prop} (hQ : ∀ r u, Iv u → Q r r u) : F_X11_make h a b c (fun r1 h1 => F_X12_make h1 a b c (fun r2 h2 => Q r1 r2 h2)) := by
  obtain ⟨g, dy, m, mg, md, v⟩ := v
  exact k_make v.s (fun r u1 u g2 s2 mo fa fb => hQ r u ⟨g2, dy, m, mg, md, kv_UX v s2 mo fa fb⟩)
theorem v_build {a b : Int} (v : Iv h) {Q : Int → Int → Mem → Prop} (hQ : ∀ r u, Iv u → Q r r u) : F_X11_build h a b (fun r1 h1 => F_X12_build h1 a b (fun r2 h2 => Q r1 r2 h2)) := by
  obtain ⟨g, dy, m, mg, md, v⟩ := v
  exact k_build v.s (fun r u1 u g2 s2 mo fa fb => hQ r u ⟨g2, dy, m, mg, md, kv_UX v s2 mo fa fb⟩)
theorem v_quietIn (v : Iv h) {Q : Int → Int → Mem → Prop} (hQ : ∀ r u, Iv u → Q r r u) : F_X11_quietIn h (fun r1 h1 => F_X12_quietIn h1 (fun r2 h2 => Q r1 r2 h2)) := by
  obtain ⟨g, dy, m, mg, md, v⟩ := v
  exact k_quietIn v.s (fun r u1 u g2 s2 mo fa fb => hQ r u ⟨g2, dy, m, mg, md, kv_UX v s2 mo fa fb⟩)
theorem v_aim {a b : Int} (v : Iv h) {Q : Int → Int → Mem → Prop} (hQ : ∀ r u, Iv u → Q r r u) : F_X11_aim h a b (fun r1 h1 => F_X12_aim h1 a b (fun r2 h2 => Q r1 r2 h2)) := by
  obtain ⟨g, dy, m, mg, md, v⟩ := v
  exact k_aim v.s (fun r u1 u g2 s2 mo fa fb => hQ r u ⟨g2, dy, m, mg, md, kv_UX v s2 mo fa fb⟩)
theorem v_soonest {a : Int} (v : Iv h) {Q : Int → Int → Mem → Prop} (hQ : ∀ r u, Iv u → Q r r u) : F_X11_soonest h a (fun r1 h1 => F_X12_soonest h1 a (fun r2 h2 => Q r1 r2 h2)) := by
  obtain ⟨g, dy, m, mg, md, v⟩ := v
  exact k_soonest v.s (fun r u1 u g2 s2 mo fa fb => hQ r u ⟨g2, dy, m, mg, md, kv_UX v s2 mo fa fb⟩)
theorem v_soonestIn {a : Int} (v : Iv h) {Q : Int → Int → Mem → Prop} (hQ : ∀ r u, Iv u → Q r r u) : F_X11_soonestIn h a (fun r1 h1 => F_X12_soonestIn h1 a (fun r2 h2 => Q r1 r2 h2)) := by
  obtain ⟨g, dy, m, mg, md, v⟩ := v
  exact k_soonestIn v.s (fun r u1 u g2 s2 mo fa fb => hQ r u ⟨g2, dy, m, mg, md, kv_UX v s2 mo fa fb⟩)
theorem v_ride {a b : Int} (v : Iv h) {Q : Int → Int → Mem → Prop} (hQ : ∀ r u, Iv u → Q r r u) : F_X11_ride h a b (fun r1 h1 => F_X12_ride h1 a b (fun r2 h2 => Q r1 r2 h2)) := by
  obtain ⟨g, dy, m, mg, md, v⟩ := v
  exact k_ride v.s (fun r u1 u g2 s2 mo fa fb => hQ r u ⟨g2, dy, m, mg, md, kv_UX v s2 mo fa fb⟩)
theorem v_waits {a b : Int} (v : Iv h) {Q : Int → Int → Mem → Prop} (hQ : ∀ r u, Iv u → Q r r u) : F_X11_waits h a b (fun r1 h1 => F_X12_waits h1 a b (fun r2 h2 => Q r1 r2 h2)) := by
  obtain ⟨g, dy, m, mg, md, v⟩ := v
  exact k_waits v.s (fun r u1 u g2 s2 mo fa fb => hQ r u ⟨g2, dy, m, mg, md, kv_UX v s2 mo fa fb⟩)
theorem v_heaviest (v : Iv h) {Q : Int → Int → Mem → Prop} (hQ : ∀ r u, Iv u → Q r r u) : F_X11_heaviest h (fun r1 h1 => F_X12_heaviest h1 (fun r2 h2 => Q r1 r2 h2)) := by
  obtain ⟨g, dy, m, mg, md, v⟩ := v
  exact k_heaviest v.s (fun r u1 u g2 s2 mo fa fb => hQ r u ⟨g2, dy, m, mg, md, kv_UX v s2 mo fa fb⟩)
theorem v_heaviestWeight (v : Iv h) {Q : Int → Int → Mem → Prop} (hQ : ∀ r u, Iv u → Q r r u) : F_X11_heaviestWeight h (fun r1 h1 => F_X12_heaviestWeight h1 (fun r2 h2 => Q r1 r2 h2)) := by
  obtain ⟨g, dy, m, mg, md, v⟩ := v
  exact k_heaviestWeight v.s (fun r u1 u g2 s2 mo fa fb => hQ r u ⟨g2, dy, m, mg, md, kv_UX v s2 mo fa fb⟩)
theorem v_drive {a b c d : Int} (v : Iv h) {Q : Int → Int → Mem → Prop} (hQ : ∀ r u, Iv u → Q r r u) : F_X11_drive h a b c d (fun r1 h1 => F_X12_drive h1 a b c d (fun r2 h2 => Q r1 r2 h2)) := by
  obtain ⟨g, dy, m, mg, md, v⟩ := v
  exact k_drive v.s (fun r u1 u g2 s2 mo fa fb => hQ r u ⟨g2, dy, m, mg, md, kv_UX v s2 mo fa fb⟩)
theorem v_driveCell {a b c d e : Int} (v : Iv h) {Q : Int → Int → Mem → Prop} (hQ : ∀ r u, Iv u → Q r r u) : F_X11_driveCell h a b c d e (fun r1 h1 => F_X12_driveCell h1 a b c d e (fun r2 h2 => Q r1 r2 h2)) := by
  obtain ⟨g, dy, m, mg, md, v⟩ := v
  exact k_driveCell v.s (fun r u1 u g2 s2 mo fa fb => hQ r u ⟨g2, dy, m, mg, md, kv_UX v s2 mo fa fb⟩)
theorem v_ring (v : Iv h) {Q : Int → Int → Mem → Prop} (hQ : ∀ r u, Iv u → Q r r u) : F_X11_ring h (fun r1 h1 => F_X12_ring h1 (fun r2 h2 => Q r1 r2 h2)) := by
  obtain ⟨g, dy, m, mg, md, v⟩ := v
  exact k_ring v.s (fun r u1 u g2 s2 mo fa fb => hQ r u ⟨g2, dy, m, mg, md, kv_UX v s2 mo fa fb⟩)
theorem v_game {a b c : Int} (v : Iv h) {Q : Int → Int → Mem → Prop} (hQ : ∀ r u, Iv u → Q r r u) : F_X11_game h a b c (fun r1 h1 => F_X12_game h1 a b c (fun r2 h2 => Q r1 r2 h2)) := by
  obtain ⟨g, dy, m, mg, md, v⟩ := v
  exact k_game v.s (fun r u1 u g2 s2 mo fa fb => hQ r u ⟨g2, dy, m, mg, md, kv_UX v s2 mo fa fb⟩)
theorem v_moveOf {a b c d : Int} (v : Iv h) {Q : Int → Int → Mem → Prop} (hQ : ∀ r u, Iv u → Q r r u) : F_X11_moveOf h a b c d (fun r1 h1 => F_X12_moveOf h1 a b c d (fun r2 h2 => Q r1 r2 h2)) := by
  obtain ⟨g, dy, m, mg, md, v⟩ := v
  exact k_moveOf v.s (fun r u1 u g2 s2 mo fa fb => hQ r u ⟨g2, dy, m, mg, md, kv_UX v s2 mo fa fb⟩)
theorem v_minded {a b c : Int} (v : Iv h) {Q : Int → Int → Mem → Prop} (hQ : ∀ r u, Iv u → Q r r u) : F_X11_minded h a b c (fun r1 h1 => F_X12_minded h1 a b c (fun r2 h2 => Q r1 r2 h2)) := by
  obtain ⟨g, dy, m, mg, md, v⟩ := v
  exact k_minded v.s v.tr (fun r u1 u g2 s2 mo fa fb => hQ r u ⟨g2, dy, m, mg, md, kv_UX v s2 mo fa fb⟩)
theorem v_mindedAt {a b c d : Int} (v : Iv h) {Q : Int → Int → Mem → Prop} (hQ : ∀ r u, Iv u → Q r r u) : F_X11_mindedAt h a b c d (fun r1 h1 => F_X12_mindedAt h1 a b c d (fun r2 h2 => Q r1 r2 h2)) := by
  obtain ⟨g, dy, m, mg, md, v⟩ := v
  exact k_mindedAt v.s v.tr (fun r u1 u g2 s2 mo fa fb => hQ r u ⟨g2, dy, m, mg, md, kv_UX v s2 mo fa fb⟩)
theorem v_ask {a b c : Int} (v : Iv h) {Q : Int → Int → Mem → Prop} (hQ : ∀ r u, Iv u → Q r r u) : F_X11_ask h a b c (fun r1 h1 => F_X12_ask h1 a b c (fun r2 h2 => Q r1 r2 h2)) := by
  obtain ⟨g, dy, m, mg, md, v⟩ := v
  exact k_ask v.s v.tr (fun r u1 u g2 s2 mo fa fb => hQ r u ⟨g2, dy, m, mg, md, kv_UX v s2 mo fa fb⟩)
theorem v_lived {a : Int} (v : Iv h) {Q : Int → Int → Mem → Prop} (hQ : ∀ r u, Iv u → Q r r u) : F_X11_lived h a (fun r1 h1 => F_X12_lived h1 a (fun r2 h2 => Q r1 r2 h2)) := by
  obtain ⟨g, dy, m, mg, md, v⟩ := v
  exact k_lived v.s v.lv (fun r u1 u g2 s2 mo fa fb => hQ r u ⟨g2, dy, m, mg, md, kv_UX v s2 mo fa fb⟩)
theorem v_share {a : Int} (v : Iv h) {Q : Int → Int → Mem → Prop} (hQ : ∀ r u, Iv u → Q r r u) : F_X11_share h a (fun r1 h1 => F_X12_share h1 a (fun r2 h2 => Q r1 r2 h2)) := by
  obtain ⟨g, dy, m, mg, md, v⟩ := v
  exact k_share v.s v.fr (fun r u1 u g2 s2 mo fr fa fb => hQ r u ⟨g2, dy, m, mg, md, kv_UXf v s2 mo fr fa fb⟩)
theorem v_rain {a b : Int} (v : Iv h) {Q : Int → Int → Mem → Prop} (hQ : ∀ r u, Iv u → Q r r u) : F_X11_rain h a b (fun r1 h1 => F_X12_rain h1 a b (fun r2 h2 => Q r1 r2 h2)) := by
  obtain ⟨g, dy, m, mg, md, v⟩ := v
  exact k_rain v.s v.fr (fun r u1 u g2 s2 mo fr fa fb => hQ r u ⟨g2, dy, m, mg, md, kv_UXf v s2 mo fr fa fb⟩)
theorem v_mean {a b : Int} (v : Iv h) (ia : InR a) (ib : InR b) {Q : Int → Int → Mem → Prop} (hQ : ∀ r u, Iv u → Q r r u) : F_X11_mean h a b (fun r1 h1 => F_X12_mean h1 a b (fun r2 h2 => Q r1 r2 h2)) := by
  obtain ⟨g, dy, m, mg, md, v⟩ := v
  exact k_mean v.s v.fr v.dr v.wd (fun r u1 u g2 s2 mo fr fa fb => hQ r u ⟨g2, dy, m, mg, md, kv_UXf v s2 mo fr fa fb⟩) ia ib
theorem v_live {a : Int} (v : Iv h) {Q : Int → Int → Mem → Prop} (hQ : ∀ r u, Iv u → Q r r u) : F_X11_live h a (fun r1 h1 => F_X12_live h1 a (fun r2 h2 => Q r1 r2 h2)) := by
  obtain ⟨g, dy, m, mg, md, v⟩ := v
  exact k_live v.s v.dr v.wd v.lv (fun r u1 u g2 s2 mo lv fa fb => hQ r u ⟨g2, dy, m, mg, md, kv_UXl v s2 mo lv fa fb⟩)
theorem v_write {a b c : Int} (v : Iv h) {Q : Int → Int → Mem → Prop} (hQ : ∀ r u, Iv u → Q r r u) : F_X11_write h a b c (fun r1 h1 => F_X12_write h1 a b c (fun r2 h2 => Q r1 r2 h2)) := by
  obtain ⟨g, dy, m, mg, md, v⟩ := v
  exact k_write v.tr (fun r u1 u tr e fa fb => hQ r u ⟨g, dy, m, mg, md, kv_TX v (v.s.tr fa fb e) tr fa fb⟩)
theorem v_tray {a b c : Int} (v : Iv h) {Q : Int → Int → Mem → Prop} (hQ : ∀ r u, Iv u → Q r r u) : F_X11_tray h a b c (fun r1 h1 => F_X12_tray h1 a b c (fun r2 h2 => Q r1 r2 h2)) := by
  obtain ⟨g, dy, m, mg, md, v⟩ := v
  exact k_tray v.tr (fun r u1 u tr e fa fb => hQ r u ⟨g, dy, m, mg, md, kv_TX v (v.s.tr fa fb e) tr fa fb⟩)
theorem v_copyHours {a : Int} (v : Iv h) {Q : Int → Int → Mem → Prop} (hQ : ∀ r u, Iv u → Q r r u) : F_X11_copyHours h a (fun r1 h1 => F_X12_copyHours h1 a (fun r2 h2 => Q r1 r2 h2)) := by
  obtain ⟨g, dy, m, mg, md, v⟩ := v
  exact k_copyHours v.s v.tr (fun r u1 u s2 tr fa fb => hQ r u ⟨g, dy, m, mg, md, kv_TX v s2 tr fa fb⟩)
theorem v_pour {a b c d e : Int} (v : Iv h) (ib : InR b) (ic : InR d) (ie : InR e) {Q : Int → Int → Mem → Prop} (hQ : ∀ r u, Iv u → Q r r u) : F_X11_pour h a b c d e (fun r1 h1 => F_X12_pour h1 a b c d e (fun r2 h2 => Q r1 r2 h2)) := by
  obtain ⟨g, dy, m, mg, md, v⟩ := v
  exact k_pour v.s v.tr ib ic ie (fun r u1 u s2 tr fa fb => hQ r u ⟨g, dy, m, mg, md, kv_TX v s2 tr fa fb⟩)
theorem v_read {a b : Int} (v : Iv h) {Q : Int → Int → Mem → Prop} (hQ : ∀ r u, Iv u → Q r r u) : F_X11_read h a b (fun r1 h1 => F_X12_read h1 a b (fun r2 h2 => Q r1 r2 h2)) := by
  obtain ⟨g, dy, m, mg, md, v⟩ := v
  exact k_read v.tr (fun r => hQ r _ ⟨g, dy, m, mg, md, kv_rd v⟩)
theorem v_mark (v : Iv h) {Q : Int → Int → Mem → Prop} (hQ : ∀ r u, Iv u → Q r r u) : F_X11_mark h (fun r1 h1 => F_X12_mark h1 (fun r2 h2 => Q r1 r2 h2)) := by
  obtain ⟨g, dy, m, mg, md, v⟩ := v
  exact k_mark v.s v.dr v.wd v.mk (fun r u1 u m2 mg2 md2 s2 dr mk fa fb => hQ r u ⟨g, dy, m2, mg2, md2, kv_FXk v s2 dr mk fa fb⟩)
theorem v_undo (v : Iv h) {Q : Int → Int → Mem → Prop} (hQ : ∀ r u, Iv u → Q r r u) : F_X11_undo h (fun r1 h1 => F_X12_undo h1 (fun r2 h2 => Q r1 r2 h2)) := by
  obtain ⟨g, dy, m, mg, md, v⟩ := v
  exact k_undo v.s v.dr v.wd v.mk (fun r u1 u g2 d2 m2 s2 dr wd mk fa fb => hQ r u ⟨g2, d2, m2, mg, md, kv_FXu v s2 dr wd mk fa fb⟩)
theorem v_feed {a b c d e : Int} (v : Iv h) {Q : Int → Int → Mem → Prop} (hQ : ∀ r u, Iv u → Q r r u) : F_X11_feed h a b c d e (fun r1 h1 => F_X12_feed h1 a b c d e (fun r2 h2 => Q r1 r2 h2)) := by
  obtain ⟨g, dy, m, mg, md, v⟩ := v
  exact k_feed v.te (fun r u1 u te fa fb => hQ r u ⟨g, dy, m, mg, md, kv_FXt v te fa fb⟩)
theorem v_fault {a : Int} (v : Iv h) {Q : Int → Int → Mem → Prop} (hQ : ∀ r u, Iv u → Q r r u) : F_X11_fault h a (fun r1 h1 => F_X12_fault h1 a (fun r2 h2 => Q r1 r2 h2)) := by
  obtain ⟨g, dy, m, mg, md, v⟩ := v
  exact k_fault v.fe (fun r => hQ r _ ⟨g, dy, m, mg, md, v⟩)
theorem v_status (v : Iv h) {Q : Int → Int → Mem → Prop} (hQ : ∀ r u, Iv u → Q r r u) : F_X11_status h (fun r1 h1 => F_X12_status h1 (fun r2 h2 => Q r1 r2 h2)) := by
  obtain ⟨g, dy, m, mg, md, v⟩ := v
  exact k_status v.s (fun r => hQ r _ ⟨g, dy, m, mg, md, v⟩)
theorem v_top (v : Iv h) {Q : Int → Int → Mem → Prop} (hQ : ∀ r u, Iv u → Q r r u) : F_X11_top h (fun r1 h1 => F_X12_top h1 (fun r2 h2 => Q r1 r2 h2)) := by
  obtain ⟨g, dy, m, mg, md, v⟩ := v
  exact k_top v.fr (fun r => hQ r _ ⟨g, dy, m, mg, md, v⟩)
theorem v_bottom (v : Iv h) {Q : Int → Int → Mem → Prop} (hQ : ∀ r u, Iv u → Q r r u) : F_X11_bottom h (fun r1 h1 => F_X12_bottom h1 (fun r2 h2 => Q r1 r2 h2)) := by
  obtain ⟨g, dy, m, mg, md, v⟩ := v
  exact k_bottom v.fr (fun r => hQ r _ ⟨g, dy, m, mg, md, v⟩)
theorem v_glen {a : Int} (v : Iv h) {Q : Int → Int → Mem → Prop} (hQ : ∀ r u, Iv u → Q r r u) : F_X11_glen h a (fun r1 h1 => F_X12_glen h1 a (fun r2 h2 => Q r1 r2 h2)) := by
  obtain ⟨g, dy, m, mg, md, v⟩ := v
  exact k_glen v.s v.te v.fe v.kw v.dr v.wd (fun r u1 u g2 d2 s2 dr wd te fe fa fb => hQ r u ⟨g2, d2, m, mg, md, kv_FXg v s2 dr wd te fe fa fb⟩)
theorem v_days {a : Int} (v : Iv h) {Q : Int → Int → Mem → Prop} (hQ : ∀ r u, Iv u → Q r r u) : F_X11_days h a (fun r1 h1 => F_X12_days h1 a (fun r2 h2 => Q r1 r2 h2)) := by
  obtain ⟨g, dy, m, mg, md, v⟩ := v
  exact k_days v.s v.te v.fe v.kw v.dr v.wd (fun r u1 u d2 s2 dr wd te fe fa fb => hQ r u ⟨g, d2, m, mg, md, kv_FXd v s2 dr wd te fe fa fb⟩)
end IVC
