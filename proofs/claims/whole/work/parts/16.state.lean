/-- the set of the open tanks, of the first n groups -/
def opn (c : FA) : Nat → Int32
  | 0 => 0
  | n + 1 => if c (123 + n) = 1 then opn c n ||| c (118 + n) else opn c n
theorem t_X6_openTanks (c : FA) (K : KS) (s : FA) (L : LS9) (e : AH) : Ct m_X6_openTanks X0 [.ref 1] (HP c K s L e) (fun rv h => rv = some (.int (opn c 5)) ∧ h = HP c K s L e) := by
  refine ⟨ok_X6_openTanks, ?_⟩
  refine Rch.go rfl ?_
  refine Rch.for 5 (fun n => (6, [(0, .ref 1), (1, .int (opn c n)), (2, .int (nI n))], [.int 5, .int (nI n)], HP c K s L e, 0, 0)) (fun n hn => ?_) ?_ 0 (by omega)
  · refine Rch.i_ge rfl (fun z => absurd z (lo_in hn (by decide))) (fun _ => ?_)
    refine Rch.go rfl ?_
    refine Rch.ia rfl rfl rfl (nI_add 123 n) (by omega) (by decide) ?_
    refine Rch.go rfl ?_
    refine Rch.i_ne rfl (fun z => ?_) (fun z => ?_)
    · refine Rch.go rfl ?_
      refine Rch.ia rfl rfl rfl (nI_add 118 n) (by omega) (by decide) ?_
      refine Rch.go rfl (Rch.rf ?_)
      rw [nI_1, ← show opn c (n + 1) = _ from if_pos z]
      rfl
    · refine Rch.go rfl (Rch.rf ?_)
      rw [nI_1, ← show opn c (n + 1) = _ from if_neg z]
      rfl
  · refine Rch.i_ge rfl (fun _ => ?_) (fun z => absurd (lo_out (by decide)) z)
    refine Rch.go rfl ?_
    exact Rch.ri rfl rfl rfl (by decide) (by decide) ⟨rfl, rfl⟩
