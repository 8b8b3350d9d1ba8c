/-! ===== a round of the law ===== -/
section LL
theorem L_default {n i : Nat} {f : FA} {h : AH} {cc cs : Nat} : Rch m_L_law (XL n f) (767, lsL i, [], h, cc, cs) (fun τ => τ = (23, lsL (i + 1), [.int (nI n - 4), .int (nI (4 * (i + 1)))], h, cc, cs)) := by
  have n4 : nI (4 * i) + 4 = nI (4 * (i + 1)) := by rw [show nI (4 * i) + 4 = nI (4 * i + 4) from nI_add _ 4, Nat.mul_succ]
  refine Rch.go rfl (Rch.rf ?_)
  unfold lsL
  rw [← n4]
  rfl
theorem L_round {n i : Nat} {f : FA} (hi : 4 * i + 4 ≤ n) (hn : n ≤ 2048) {τ : AS} (h : LI n i [] τ) : Rch m_L_law (XL n f) τ (fun τ => ∃ e, (e = [] ∨ ∃ U, e = uO U) ∧ LI n (i + 1) e τ) := by
  obtain ⟨c, r, nx, q, sn, hs, sg, t, kd, bb, od, ex, s, bf, kp, ik, tx, F, cc, cs, hI, hcc, hcs, rfl⟩ := h
  have e4 : nI n - 4 = nI (n - 4) := nI_sub (b := 4) (by omega)
  refine Rch.i_gt rfl (fun z => absurd ((nI_ltI (by omega) (by omega)).mp (show nI (n - 4) < nI (4 * i) by rw [← e4]; exact z)) (by omega)) (fun _ => ?_)
  refine Rch.go rfl ?_
  refine Rch.xa rfl rfl rfl rfl (by omega) (by omega) ?_
  refine Rch.go rfl ?_
  by_cases hw : 0 ≤ (f (4 * i) &&& 31) ∧ (f (4 * i) &&& 31) ≤ 22
  rotate_left
  · refine Rch.sw (t := 767) rfl (if_pos (outr hw)) ?_
    refine Rch.mono L_default (fun τ hτ => ⟨[], Or.inl rfl, c, r, nx, q, sn, hs, sg, t, kd, bb, od, ex, s, bf, kp, ik, tx, F, cc, cs, hI.mono (by omega), by omega, by omega, hτ⟩)
  obtain ⟨y, hy, ey⟩ := rng (n := 22) rfl (by decide) hw
  rw [ey]
  match y, hy with
  | 0, _ => exact Rch.sw (t := 140) rfl rfl (Rch.mono (L_load hi hn hI hcc hcs) (fun τ hτ => ⟨[], Or.inl rfl, hτ⟩))
  | 1, _ => exact Rch.sw (t := 183) rfl rfl (Rch.mono (L_leak hi hn hI hcc hcs) (fun τ hτ => ⟨[], Or.inl rfl, hτ⟩))
  | 2, _ => exact Rch.sw (t := 216) rfl rfl (Rch.mono (L_setGroup hi hn hI hcc hcs) (fun τ hτ => ⟨[], Or.inl rfl, hτ⟩))
  | 3, _ => exact Rch.sw (t := 249) rfl rfl (Rch.mono (L_set hi hn hI hcc hcs) (fun τ hτ => ⟨[], Or.inl rfl, hτ⟩))
  | 4, _ => exact Rch.sw (t := 282) rfl rfl (Rch.mono (L_order hi hn hI hcc hcs) (fun τ hτ => ⟨[], Or.inl rfl, hτ⟩))
  | 5, _ => exact Rch.sw (t := 315) rfl rfl (Rch.mono (L_orderAll hi hn hI hcc hcs) (fun τ hτ => ⟨[], Or.inl rfl, hτ⟩))
  | 6, _ => exact Rch.sw (t := 328) rfl rfl (Rch.mono (L_strike hi hn hI hcc hcs) (fun τ hτ => ⟨[], Or.inl rfl, hτ⟩))
  | 7, _ => exact Rch.sw (t := 351) rfl rfl (Rch.mono (L_work hi hn hI hcc hcs) (fun τ hτ => ⟨[], Or.inl rfl, hτ⟩))
  | 8, _ => exact Rch.sw (t := 374) rfl rfl (Rch.mono (L_pass hi hn hI hcc hcs) (fun τ hτ => ⟨[], Or.inl rfl, hτ⟩))
  | 9, _ => exact Rch.sw (t := 397) rfl rfl (Rch.mono (L_sound hi hn hI hcc hcs) (fun τ hτ => ⟨[], Or.inl rfl, hτ⟩))
  | 10, _ => exact Rch.sw (t := 420) rfl rfl (Rch.mono (L_type hi hn hI hcc hcs) (fun τ hτ => ⟨[], Or.inl rfl, hτ⟩))
  | 11, _ => exact Rch.sw (t := 445) rfl rfl (Rch.mono (L_clearText hi hn hI hcc hcs) (fun τ hτ => ⟨[], Or.inl rfl, hτ⟩))
  | 12, _ => exact Rch.sw (t := 458) rfl rfl (Rch.mono (L_undo hi hn hI hcc hcs) (fun τ hτ => ⟨[], Or.inl rfl, hτ⟩))
  | 13, _ => exact Rch.sw (t := 471) rfl rfl (Rch.mono (L_keep hi hn hI hcc hcs) (fun τ hτ => ⟨[], Or.inl rfl, hτ⟩))
  | 14, _ => exact Rch.sw (t := 484) rfl rfl (Rch.mono (L_restore hi hn hI hcc hcs) (fun τ hτ => ⟨[], Or.inl rfl, hτ⟩))
  | 15, _ => exact Rch.sw (t := 497) rfl rfl (Rch.mono (L_tank hi hn hI hcc hcs) (fun τ hτ => ⟨[], Or.inl rfl, hτ⟩))
  | 16, _ => exact Rch.sw (t := 530) rfl rfl (Rch.mono (L_sounding hi hn hI hcc hcs) (fun τ hτ => ⟨[], Or.inl rfl, hτ⟩))
  | 17, _ => exact Rch.sw (t := 589) rfl rfl (Rch.mono (L_hold hi hn hI hcc hcs) (fun τ hτ => ⟨[], Or.inl rfl, hτ⟩))
  | 18, _ => exact Rch.sw (t := 622) rfl rfl (Rch.mono (L_group hi hn hI hcc hcs) (fun τ hτ => ⟨[], Or.inl rfl, hτ⟩))
  | 19, _ => exact Rch.sw (t := 655) rfl rfl (Rch.mono (L_waiting hi hn hI hcc hcs) (fun τ hτ => ⟨[], Or.inl rfl, hτ⟩))
  | 20, _ => exact Rch.sw (t := 688) rfl rfl (Rch.mono (L_trimMoment hi hn hI hcc hcs) (fun τ hτ => ⟨[], Or.inl rfl, hτ⟩))
  | 21, _ => exact Rch.sw (t := 711) rfl rfl (L_upright hi hn hI hcc hcs)
  | 22, _ => exact Rch.sw (t := 744) rfl rfl (Rch.mono (L_count hi hn hI hcc hcs) (fun τ hτ => ⟨[], Or.inl rfl, hτ⟩))
  | y + 23, hy => exact absurd hy (by omega)
end LL
