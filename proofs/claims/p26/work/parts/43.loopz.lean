/-! ===== the law's loop, and its start ===== -/
section LZ
theorem Lz_loop {n : Nat} {f : FA} (hn : n ≤ 260) : ∀ (d e : Nat), e + d = 56 → ∀ τ, LIz e τ → Rc0 m_L_law (XL n f) τ (RetP m_L_law (fun rv _ => rv = some (.int 1))) := by
  intro d
  induction d with
  | zero =>
    intro e he τ hτ
    obtain rfl : e = 56 := by omega
    obtain ⟨c, r, nx, q, K, cc, cs, hG, hnx, hq, hcc, hcs, rfl⟩ := hτ
    refine Rch.z ?_
    refine Rch.i_ge rfl (fun _ => ?_) (fun z => absurd (lo_out (by decide)) z)
    refine Rch.st 1 rfl ?_
    exact Rch.ri rfl rfl (by decide +kernel) (by show cc ≤ 600000; omega) (by show cs ≤ 7302250; omega) rfl
  | succ d ih =>
    intro e he τ hτ
    refine (Lz_1 hn (by omega) hτ).z.tr ?_
    rintro τ1 ⟨v, a, b, g, y, h1⟩
    refine (Lz_2 (by omega) h1).z.tr ?_
    rintro τ2 ⟨e9, he9, c, r, nx, q, K, cc, cs, hG, hnx, hq, hcc, hcs, rfl⟩
    have g := (Lz_3 (n := n) (f := f) (e := e) (τ := (158, lsY e v a b g y, [], hZZ c r nx q K [], cc, cs)) (by omega) ⟨c, r, nx, q, K, cc, cs, hG, hnx, hq, hcc, hcs, rfl⟩).z.tr (fun τ3 h3 => ih (e + 1) (by omega) τ3 h3)
    exact Rc0.drop (h := hZZ c r nx q K []) (e9 := e9) rfl rfl rfl g
theorem Gdz_0 : Gdz 0 (iS 3) := by
  refine ⟨?_, by unfold Wbz; decide +kernel, ⟨0, by decide, by decide, fun p hp => absurd hp (by omega)⟩, ⟨0, by decide, by decide⟩, 0, by decide, by decide⟩
  unfold Rgz
  decide +kernel
theorem Lz_start {n : Nat} {f : FA} : Rch m_L_law (XL n f) (0, [(0, .ref 1007)], [], [], 0, 0) (LIz 0) := by
  refine Rch.new (N := 5) (o := 0) (cc' := 1) (cs' := 5) (C := RX8) (T := TX8) (fs := [.null, .null, .null, .int 0, .null]) rfl rfl rfl rfl rfl rfl rfl rfl rfl rfl (by decide) (by decide) rfl ?_
  refine Rch.go rfl ?_
  refine Rch.callG 3 t_X8_init rfl rfl g_L_77 om_X8_init rfl (XL_sub n f) rfl rfl rfl rfl (cc' := 14) (cs' := 1171) rfl rfl (by decide) (by decide) rfl rfl (fun rv9 h9 q9 => ?_)
  obtain ⟨rfl, rfl⟩ := q9
  refine Rch.go rfl (Rch.rf ⟨iS 3, fun _ => z9, 0, 0, (z9, 0, z9, 0, z9, z9, 0, 0), 14, 1171, Gdz_0, by decide, by decide, by decide, by decide, ?_⟩)
  rfl
theorem Lz_all {n : Nat} {f : FA} (hn : n ≤ 260) : Rc0 m_L_law (XL n f) (0, [(0, .ref 1007)], [], [], 0, 0) (RetP m_L_law (fun rv _ => rv = some (.int 1))) :=
  (Lz_start (n := n) (f := f)).z.tr (fun τ hτ => Lz_loop hn 56 0 (by omega) τ hτ)
end LZ
