/-! ===== a new barge ===== -/
section BJ
theorem t_X8_init : Ct m_X8_init X0 [.ref 0] [.inr (.inr (4, [.null, .null, .null, .int 0, .null]))] (fun rv h => rv = none ∧ h = hB2) := by
  refine ⟨ok_X8_init, ?_⟩
  refine Rch.go rfl ?_
  refine Rch.oi rfl (by decide +kernel) rfl rfl rfl ?_
  refine Rch.go rfl ?_
  refine Rch.new (N := 1) (o := 1) (cc' := 1) (cs' := 1) (C := RX6) (T := TX6) (fs := [.null]) rfl rfl rfl rfl rfl rfl rfl rfl rfl rfl (by decide) (by decide) rfl ?_
  refine Rch.go rfl ?_
  refine Rch.callG 3 t_X6_init rfl rfl g_X8_9 om_X6_init rfl (fun _ _ _ q => q) rfl rfl rfl rfl (cc' := 2) (cs' := 163) rfl rfl (by decide) (by decide) rfl rfl (fun rv9 h9 q9 => ?_)
  obtain ⟨rfl, rfl⟩ := q9
  refine Rch.go rfl ?_
  refine Rch.new (N := 3) (o := 3) (cc' := 3) (cs' := 166) (C := RX0) (T := TX0) (fs := [.null, .int 0, .int 0]) rfl rfl rfl rfl rfl rfl rfl rfl rfl rfl (by decide) (by decide) rfl ?_
  refine Rch.go rfl ?_
  refine Rch.callG 4 t_X0_init rfl rfl g_X8_18 om_X0_init rfl (fun _ _ _ q => q) rfl rfl rfl rfl (cc' := 8) (cs' := 818) rfl rfl (by decide) (by decide) rfl rfl (fun rv9 h9 q9 => ?_)
  obtain ⟨rfl, rfl⟩ := q9
  refine Rch.go rfl ?_
  refine Rch.newa (N := 162) (o := 9) (cc' := 9) (cs' := 980) (ty := .int) rfl rfl rfl (by decide +kernel) rfl (by decide) (by decide) rfl rfl rfl rfl rfl rfl rfl (by decide) (by decide) ?_
  refine Rch.go rfl ?_
  refine Rch.new (N := 6) (o := 10) (cc' := 10) (cs' := 986) (C := RX3) (T := TX3) (fs := [.null, .int 0, .null, .null, .int 0, .int 0]) rfl rfl rfl rfl rfl rfl rfl rfl rfl rfl (by decide) (by decide) rfl ?_
  refine Rch.go rfl ?_
  refine Rch.callG 4 t_X3_init rfl rfl g_X8_29 om_X3_init rfl (fun _ _ _ q => q) rfl rfl rfl rfl (cc' := 13) (cs' := 1166) rfl rfl (by decide) (by decide) rfl rfl (fun rv9 h9 q9 => ?_)
  obtain ⟨rfl, rfl⟩ := q9
  refine Rch.go rfl ?_
  exact Rch.rv rfl rfl (by decide) (by decide) ⟨rfl, rfl⟩
end BJ
