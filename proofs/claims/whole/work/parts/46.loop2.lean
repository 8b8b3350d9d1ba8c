/-! ===== the law's loop ===== -/
section LO
theorem L_out {n i : Nat} (hi : 4 * i ≤ n) (h4 : ¬ 4 * i + 4 ≤ n) (hn : n ≤ 2048) : nI n - 4 < nI (4 * i) := by
  by_cases q : 4 ≤ n
  · rw [show nI n - 4 = nI (n - 4) from nI_sub (b := 4) q]
    exact (nI_ltI (by omega) (by omega)).mpr (by omega)
  · obtain rfl : i = 0 := by omega
    match n, q with
    | 0, _ => decide
    | 1, _ => decide
    | 2, _ => decide
    | 3, _ => decide
    | n + 4, q => exact absurd (by omega) q
theorem L_loop {n : Nat} {f : FA} (hn : n ≤ 2048) : ∀ (d i : Nat), n - 4 * i < d → 4 * i ≤ n → ∀ τ, LI n i [] τ → Rc0 m_L_law (XL n f) τ (RetP m_L_law (fun rv _ => rv = some (.int 1))) := by
  intro d
  induction d with
  | zero => intro i h; omega
  | succ d ih =>
    intro i hd hi τ hτ
    by_cases h4 : 4 * i + 4 ≤ n
    · refine (L_round h4 hn hτ).z.tr ?_
      rintro τ' ⟨e, he, c, r, nx, q, sn, hs, sg, t, kd, bb, od, ex, s, bf, kp, ik, tx, F, cc, cs, hI, hcc, hcs, rfl⟩
      have g := ih (i + 1) (by omega) (by omega) _ ⟨c, r, nx, q, sn, hs, sg, t, kd, bb, od, ex, s, bf, kp, ik, tx, F, cc, cs, hI, hcc, hcs, rfl⟩
      exact Rc0.drop (h := HP c (r, nI nx, nI q, sn, hs, sg, nI t, kd, bb, od, ex) s (bf, nI q, kp, ik, tx, nI t, F) []) (e9 := e) rfl rfl rfl g
    · obtain ⟨c, r, nx, q, sn, hs, sg, t, kd, bb, od, ex, s, bf, kp, ik, tx, F, cc, cs, hI, hcc, hcs, rfl⟩ := hτ
      refine Rch.z ?_
      refine Rch.i_gt rfl (fun _ => ?_) (fun z => absurd (L_out hi h4 hn) z)
      refine Rch.st 1 rfl ?_
      exact Rch.ri rfl rfl (by decide +kernel) (by show cc ≤ 600000; omega) (by show cs ≤ 7302250; omega) rfl
end LO
