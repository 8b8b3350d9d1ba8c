/-! ===== how both begin: the text, the reference ===== -/
def z9 : FA := fun _ => 0
/-- the barge's objects, before the text is made; f: the barge's fields -/
abbrev hB (f : List Value) : AH := [.inr (.inr (4, f)), .inr (.inr (2, [.ref 2])), .inl (.int, 162, iS 3), .inr (.inr (0, [.ref 4, .int 0, .int 0])), .inr (.inl (4, fun i => 5 + i)), .inl (.int, 162, z9), .inl (.int, 162, z9), .inl (.int, 162, z9), .inl (.int, 162, z9), .inl (.int, 162, z9)]
abbrev hB2 : AH := [.inr (.inr (4, [.ref 1, .ref 3, .ref 9, .int 0, .ref 10])), .inr (.inr (2, [.ref 2])), .inl (.int, 162, iS 3), .inr (.inr (0, [.ref 4, .int 0, .int 0])), .inr (.inl (4, fun i => 5 + i)), .inl (.int, 162, z9), .inl (.int, 162, z9), .inl (.int, 162, z9), .inl (.int, 162, z9), .inl (.int, 162, z9), .inr (.inr (1, [.ref 11, .int 0, .ref 12, .ref 13, .int 0, .int 0])), .inl (.char, 60, z9), .inl (.int, 60, z9), .inl (.int, 60, z9)]
def K0 : KS := (fun _ => z9, 0, 0, z9, 0, z9, 0, z9, z9, 0, 0)
def L0 : LS9 := (z9, 0, z9, 0, z9, 0, 0, 0, 0, 0)
section BH
theorem t_X3_init : Ct m_X3_init X0 [.ref 10] (hB [.ref 1, .ref 3, .ref 9, .int 0, .null] ++ [.inr (.inr (1, [.null, .int 0, .null, .null, .int 0, .int 0]))]) (fun rv h => rv = none ∧ h = hB [.ref 1, .ref 3, .ref 9, .int 0, .null] ++ [.inr (.inr (1, [.ref 11, .int 0, .ref 12, .ref 13, .int 0, .int 0])), .inl (.char, 60, z9), .inl (.int, 60, z9), .inl (.int, 60, z9)]) := by
  refine ⟨ok_X3_init, ?_⟩
  refine Rch.go rfl ?_
  refine Rch.oi rfl (by decide +kernel) rfl rfl rfl ?_
  refine Rch.go rfl ?_
  refine Rch.newa (N := 60) (o := 11) (cc' := 1) (cs' := 60) (ty := .char) rfl rfl rfl (by decide +kernel) rfl (by decide) (by decide) rfl rfl rfl rfl rfl rfl rfl (by decide) (by decide) ?_
  refine Rch.go rfl ?_
  refine Rch.newa (N := 60) (o := 12) (cc' := 2) (cs' := 120) (ty := .int) rfl rfl rfl (by decide +kernel) rfl (by decide) (by decide) rfl rfl rfl rfl rfl rfl rfl (by decide) (by decide) ?_
  refine Rch.go rfl ?_
  refine Rch.newa (N := 60) (o := 13) (cc' := 3) (cs' := 180) (ty := .int) rfl rfl rfl (by decide +kernel) rfl (by decide) (by decide) rfl rfl rfl rfl rfl rfl rfl (by decide) (by decide) ?_
  refine Rch.go rfl ?_
  exact Rch.rv rfl rfl (by decide) (by decide) ⟨rfl, rfl⟩
theorem gT_3 : ∀ n, n < 4 → (3 : Int32) <<< ((2 * nI n) &&& 31) = gT n := by decide
abbrev hM (s : FA) : AH := hB2 ++ [.inr (.inr (5, [.ref 15, .ref 16, .int 0, .ref 17, .int 0, .ref 18, .int 0, .int 0, .int 0, .int 0, .int 0])), .inl (.int, 163, s), .inl (.int, 652, z9), .inl (.int, 163, z9), .inl (.int, 60, z9)]
theorem t_X9_init : Ct m_X9_init X0 [.ref 14] (hB2 ++ [.inr (.inr (5, [.null, .null, .int 0, .null, .int 0, .null, .int 0, .int 0, .int 0, .int 0, .int 0]))]) (fun rv h => rv = none ∧ h = HP (iS 3) K0 s0 L0 []) := by
  refine ⟨ok_X9_init, ?_⟩
  refine Rch.go rfl ?_
  refine Rch.oi rfl (by decide +kernel) rfl rfl rfl ?_
  refine Rch.go rfl ?_
  refine Rch.newa (N := 163) (o := 15) (cc' := 1) (cs' := 163) (ty := .int) rfl rfl rfl (by decide +kernel) rfl (by decide) (by decide) rfl rfl rfl rfl rfl rfl rfl (by decide) (by decide) ?_
  refine Rch.go rfl ?_
  refine Rch.newa (N := 652) (o := 16) (cc' := 2) (cs' := 815) (ty := .int) rfl rfl rfl (by decide +kernel) rfl (by decide) (by decide) rfl rfl rfl rfl rfl rfl rfl (by decide) (by decide) ?_
  refine Rch.go rfl ?_
  refine Rch.newa (N := 163) (o := 17) (cc' := 3) (cs' := 978) (ty := .int) rfl rfl rfl (by decide +kernel) rfl (by decide) (by decide) rfl rfl rfl rfl rfl rfl rfl (by decide) (by decide) ?_
  refine Rch.go rfl ?_
  refine Rch.newa (N := 60) (o := 18) (cc' := 4) (cs' := 1038) (ty := .int) rfl rfl rfl (by decide +kernel) rfl (by decide) (by decide) rfl rfl rfl rfl rfl rfl rfl (by decide) (by decide) ?_
  refine Rch.go rfl ?_
  refine Rch.eq (τ := (44, [(0, .ref 14), (1, .int (nI 0))], [.int 8, .int (nI 0)], hM (iW 0), 4, 1038)) (by unfold iW; rw [cpf_0]; rfl) ?_
  refine Rch.for 8 (fun n => (44, [(0, .ref 14), (1, .int (nI n))], [.int 8, .int (nI n)], hM (iW n), 4, 1038)) (fun n hn => ?_) ?_ 0 (by omega)
  · refine Rch.i_ge rfl (fun z => absurd z (lo_in hn (by decide))) (fun _ => ?_)
    refine Rch.go rfl ?_
    refine Rch.ias rfl rfl (nI_add 0 n) (by omega) (by decide) ?_
    refine Rch.go rfl (Rch.rf ?_)
    rw [nI_1, show iW (n + 1) = _ from (cpf_s _ _ _ _ _).symm]
    rfl
  refine Rch.i_ge rfl (fun _ => ?_) (fun z => absurd (lo_out (by decide)) z)
  refine Rch.go rfl ?_
  refine Rch.eq (τ := (67, [(0, .ref 14), (1, .int (nI 0))], [.int 5, .int (nI 0)], hM (iG 38 0), 4, 1038)) (by unfold iG; rw [cpf_0]; rfl) ?_
  refine Rch.for 5 (fun n => (67, [(0, .ref 14), (1, .int (nI n))], [.int 5, .int (nI n)], hM (iG 38 n), 4, 1038)) (fun n hn => ?_) ?_ 0 (by omega)
  · refine Rch.i_ge rfl (fun z => absurd z (lo_in hn (by decide))) (fun _ => ?_)
    refine Rch.go rfl ?_
    refine Rch.i_ge rfl (fun z => ?_) (fun z => ?_)
    · have e4 : n = 4 := by have := (nI_leI (a := 4) (by decide) (by omega)).mp z; omega
      subst e4
      refine Rch.go rfl ?_
      refine Rch.ias rfl rfl (nI_add 38 4) (by omega) (by decide) ?_
      refine Rch.go rfl (Rch.rf ?_)
      rw [show iG 38 (4 + 1) = _ from (cpf_s _ _ _ _ _).symm, Nat.zero_add]
      rfl
    · have e4 : n < 4 := Nat.not_le.mp (fun q => z ((nI_leI (a := 4) (by decide) (by omega)).mpr q))
      refine Rch.go rfl ?_
      rw [gT_3 n e4]
      refine Rch.ias rfl rfl (nI_add 38 n) (by omega) (by decide) ?_
      refine Rch.go rfl (Rch.rf ?_)
      rw [nI_1, show iG 38 (n + 1) = _ from (cpf_s _ _ _ _ _).symm, Nat.zero_add]
      rfl
  refine Rch.i_ge rfl (fun _ => ?_) (fun z => absurd (lo_out (by decide)) z)
  refine Rch.go rfl ?_
  refine Rch.ias (j := 48) rfl rfl rfl (by decide) (by decide) ?_
  refine Rch.go rfl ?_
  refine Rch.ias (j := 49) rfl rfl rfl (by decide) (by decide) ?_
  refine Rch.go rfl ?_
  refine Rch.ias (j := 50) rfl rfl rfl (by decide) (by decide) ?_
  exact Rch.rv rfl rfl (by decide) (by decide) ⟨rfl, rfl⟩
end BH
