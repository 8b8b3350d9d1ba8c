/-! ===== a round of the law ===== -/
section LL
theorem L_default {n i : Nat} {f : FA} {h : AH} {cc cs : Nat} : Rch m_L_law (XL n f) (767, lsL i, [], h, cc, cs) (fun τ => τ = (23, lsL (i + 1), [.int (nI n - 4), .int (nI (4 * (i + 1)))], h, cc, cs)) := by
  have n4 : nI (4 * i) + 4 = nI (4 * (i + 1)) := by rw [show nI (4 * i) + 4 = nI (4 * i + 4) from nI_add _ 4, Nat.mul_succ]
  refine Rch.go rfl (Rch.rf ?_)
  unfold lsL
  rw [← n4]
  rfl
end LL
