/-! ===== how she begins: the text ===== -/
def z9 : FA := fun _ => 0
/-- the barge's objects, before the text is made; f: the barge's fields -/
abbrev hB (f : List Value) : AH := [.inr (.inr (4, f)), .inr (.inr (2, [.ref 2])), .inl (.int, 162, iS 3), .inr (.inr (0, [.ref 4, .int 0, .int 0])), .inr (.inl (4, fun i => 5 + i)), .inl (.int, 162, z9), .inl (.int, 162, z9), .inl (.int, 162, z9), .inl (.int, 162, z9), .inl (.int, 162, z9)]
abbrev hB2 : AH := [.inr (.inr (4, [.ref 1, .ref 3, .ref 9, .int 0, .ref 10])), .inr (.inr (2, [.ref 2])), .inl (.int, 162, iS 3), .inr (.inr (0, [.ref 4, .int 0, .int 0])), .inr (.inl (4, fun i => 5 + i)), .inl (.int, 162, z9), .inl (.int, 162, z9), .inl (.int, 162, z9), .inl (.int, 162, z9), .inl (.int, 162, z9), .inr (.inr (1, [.ref 11, .int 0, .ref 12, .ref 13, .int 0, .int 0])), .inl (.char, 60, z9), .inl (.int, 60, z9), .inl (.int, 60, z9)]
def K0 : KS := (fun _ => z9, 0, 0, z9, 0, z9, 0, z9, z9, 0, 0)
def L0 : LS9 := (z9, 0, z9, 0, z9, 0, 0, 0, 0, 0)
section BH
theorem t_X3_init : Ct m_X3_init X0 [.ref 10] (hB [.ref 1, .ref 3, .ref 9, .int 0, .null] ++ [.inr (.inr (1, [.null, .int 0, .null, .null, .int 0, .int 0]))]) (fun rv h => rv = none ∧ h = hB [.ref 1, .ref 3, .ref 9, .int 0, .null] ++ [.inr (.inr (1, [.ref 11, .int 0, .ref 12, .ref 13, .int 0, .int 0])), .inl (.char, 60, z9), .inl (.int, 60, z9), .inl (.int, 60, z9)]) := by
  refine ⟨ok_X3_init, ?_⟩
  refine Rch.go rfl ?_
  refine Rch.oi rfl (by decide +kernel) rfl rfl rfl ?_
  refine Rch.go rfl ?_
  refine Rch.newa (N := 60) (o := 11) (cc' := 1) (cs' := 60) (ty := .char) rfl rfl rfl (by decide +kernel) rfl (by decide) (by decide) rfl rfl rfl rfl rfl rfl rfl (by decide) (by decide) ?_
  refine Rch.go rfl ?_
  refine Rch.newa (N := 60) (o := 12) (cc' := 2) (cs' := 120) (ty := .int) rfl rfl rfl (by decide +kernel) rfl (by decide) (by decide) rfl rfl rfl rfl rfl rfl rfl (by decide) (by decide) ?_
  refine Rch.go rfl ?_
  refine Rch.newa (N := 60) (o := 13) (cc' := 3) (cs' := 180) (ty := .int) rfl rfl rfl (by decide +kernel) rfl (by decide) (by decide) rfl rfl rfl rfl rfl rfl rfl (by decide) (by decide) ?_
  refine Rch.go rfl ?_
  exact Rch.rv rfl rfl (by decide) (by decide) ⟨rfl, rfl⟩
end BH
