/-! ===== the law's start ===== -/
section LZ
theorem L_start {n : Nat} {f : FA} : Rch m_L_law (XL n f) (0, [(0, .ref 1007)], [], [], 0, 0) (LI n 0 []) := by
  refine Rch.new (N := 5) (o := 0) (cc' := 1) (cs' := 5) (C := RX8) (T := TX8) (fs := [.null, .null, .null, .int 0, .null]) rfl rfl rfl rfl rfl rfl rfl rfl rfl rfl (by decide) (by decide) rfl ?_
  refine Rch.go rfl ?_
  refine Rch.callG 3 t_X8_init rfl rfl g_L_9 om_X8_init rfl (XL_sub n f) rfl rfl rfl rfl (cc' := 14) (cs' := 1171) rfl rfl (by decide) (by decide) rfl rfl (fun rv9 h9 q9 => ?_)
  obtain ⟨rfl, rfl⟩ := q9
  refine Rch.go rfl ?_
  refine Rch.new (N := 11) (o := 14) (cc' := 15) (cs' := 1182) (C := RX9) (T := TX9) (fs := [.null, .null, .int 0, .null, .int 0, .null, .int 0, .int 0, .int 0, .int 0, .int 0]) rfl rfl rfl rfl rfl rfl rfl rfl rfl rfl (by decide) (by decide) rfl ?_
  refine Rch.go rfl ?_
  refine Rch.callG 3 t_X9_init rfl rfl g_L_12 om_X9_init rfl (XL_sub n f) rfl rfl rfl rfl (cc' := 19) (cs' := 2220) rfl rfl (by decide) (by decide) rfl rfl (fun rv9 h9 q9 => ?_)
  obtain ⟨rfl, rfl⟩ := q9
  refine Rch.go rfl (Rch.rf ⟨iS 3, fun _ => z9, 0, 0, z9, 0, z9, 0, z9, z9, 0, 0, s0, z9, z9, 0, z9, (0, 0, 0, 0), 19, 2220, ⟨⟨0, RR_0⟩, by decide, by decide, fun j hj => absurd hj (by omega), Or.inl ⟨rfl, rfl⟩, by decide, fun j hj => absurd hj (by omega)⟩, by decide, by decide, ?_⟩)
  rfl
end LZ
