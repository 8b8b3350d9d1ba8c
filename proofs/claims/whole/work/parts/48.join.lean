/-! ===== the law's run ===== -/
section LX
theorem L_all {n : Nat} {f : FA} (hn : n ≤ 2048) : Rc0 m_L_law (XL n f) (0, [(0, .ref 1007)], [], [], 0, 0) (RetP m_L_law (fun rv _ => rv = some (.int 1))) :=
  (L_start (n := n) (f := f)).z.tr (fun τ hτ => L_loop hn (n + 1) 0 (by omega) (by omega) τ hτ)
end LX
