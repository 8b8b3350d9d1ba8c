/-! ===== how she begins ===== -/
abbrev gT : FA := fun j => [(3 : Int32), 12, 48, 192, 255].getD j 0
abbrev sT : FA := fun j => [(4 : Int32), 12, 120].getD j 0
def cpfz (src dst : FA) (so d0 n : Nat) : FA := fun i => if d0 ≤ i ∧ i < d0 + n then src (i - d0 + so) else dst i
theorem cpfz_0 (src dst : FA) (so d0 : Nat) : cpfz src dst so d0 0 = dst := by
  funext i
  unfold cpfz
  rw [if_neg (by omega)]
theorem cpfz_s (src dst : FA) (so d0 n : Nat) : upd (cpfz src dst so d0 n) (d0 + n) (src (so + n)) = cpfz src dst so d0 (n + 1) := by
  funext i
  by_cases e : i = d0 + n
  · subst e
    rw [pk_us]
    unfold cpfz
    rw [if_pos (by omega), show d0 + n - d0 + so = so + n by omega]
  · rw [pk_un e]
    unfold cpfz
    by_cases g : d0 ≤ i ∧ i < d0 + n
    · rw [if_pos g, if_pos (by omega)]
    · rw [if_neg g, if_neg (by omega)]
def iW (n : Nat) : FA := cpfz (fun _ => 20) (fun _ => 0) 0 0 n
def iG (d n : Nat) : FA := cpfz gT (iW 8) 0 d n
def iS (n : Nat) : FA := cpfz sT (iG 118 5) 0 128 n
section BG
theorem t_X6_init : Ct m_X6_init X0 [.ref 1] [.inr (.inr (4, [.null, .null, .null, .int 0, .null])), .inr (.inr (2, [.null]))] (fun rv h => rv = none ∧ h = [.inr (.inr (4, [.null, .null, .null, .int 0, .null])), .inr (.inr (2, [.ref 2])), .inl (.int, 162, iS 3)]) := by
  refine ⟨ok_X6_init, ?_⟩
  refine Rch.go rfl ?_
  refine Rch.oi rfl (by decide +kernel) rfl rfl rfl ?_
  refine Rch.go rfl ?_
  refine Rch.newa (N := 162) (o := 2) (cc' := 1) (cs' := 162) (ty := .int) rfl rfl rfl (by decide +kernel) rfl (by decide) (by decide) rfl rfl rfl rfl rfl rfl rfl (by decide) (by decide) ?_
  refine Rch.go rfl ?_
  refine Rch.eq (τ := (18, [(0, .ref 1), (1, .int (nI 0))], [.int 8, .int (nI 0)], [.inr (.inr (4, [.null, .null, .null, .int 0, .null])), .inr (.inr (2, [.ref 2])), .inl (.int, 162, iW 0)], 1, 162)) (by unfold iW; rw [cpfz_0]; rfl) ?_
  refine Rch.for 8 (fun n => (18, [(0, .ref 1), (1, .int (nI n))], [.int 8, .int (nI n)], [.inr (.inr (4, [.null, .null, .null, .int 0, .null])), .inr (.inr (2, [.ref 2])), .inl (.int, 162, iW n)], 1, 162)) (fun n hn => ?_) ?_ 0 (by omega)
  · refine Rch.i_ge rfl (fun z => absurd z (lo_in hn (by decide))) (fun _ => ?_)
    refine Rch.go rfl ?_
    refine Rch.ias rfl rfl (nI_add 0 n) (by omega) (by decide) ?_
    refine Rch.go rfl (Rch.rf ?_)
    rw [nI_1, show iW (n + 1) = _ from (cpfz_s _ _ _ _ _).symm]
    rfl
  refine Rch.i_ge rfl (fun _ => ?_) (fun z => absurd (lo_out (by decide)) z)
  refine Rch.go rfl ?_
  refine Rch.eq (τ := (41, [(0, .ref 1), (1, .int (nI 0))], [.int 5, .int (nI 0)], [.inr (.inr (4, [.null, .null, .null, .int 0, .null])), .inr (.inr (2, [.ref 2])), .inl (.int, 162, iG 118 0)], 1, 162)) (by unfold iG; rw [cpfz_0]; rfl) ?_
  refine Rch.for 5 (fun n => (41, [(0, .ref 1), (1, .int (nI n))], [.int 5, .int (nI n)], [.inr (.inr (4, [.null, .null, .null, .int 0, .null])), .inr (.inr (2, [.ref 2])), .inl (.int, 162, iG 118 n)], 1, 162)) (fun n hn => ?_) ?_ 0 (by omega)
  · refine Rch.i_ge rfl (fun z => absurd z (lo_in hn (by decide))) (fun _ => ?_)
    refine Rch.go rfl ?_
    refine Rch.xa rfl rfl rfl rfl (by omega) (by decide) ?_
    refine Rch.ias rfl rfl (nI_add 118 n) (by omega) (by decide) ?_
    refine Rch.go rfl (Rch.rf ?_)
    rw [nI_1, show iG 118 (n + 1) = _ from (cpfz_s _ _ _ _ _).symm, Nat.zero_add]
    rfl
  refine Rch.i_ge rfl (fun _ => ?_) (fun z => absurd (lo_out (by decide)) z)
  refine Rch.go rfl ?_
  refine Rch.eq (τ := (68, [(0, .ref 1), (1, .int (nI 0))], [.int 3, .int (nI 0)], [.inr (.inr (4, [.null, .null, .null, .int 0, .null])), .inr (.inr (2, [.ref 2])), .inl (.int, 162, iS 0)], 1, 162)) (by unfold iS; rw [cpfz_0]; rfl) ?_
  refine Rch.for 3 (fun n => (68, [(0, .ref 1), (1, .int (nI n))], [.int 3, .int (nI n)], [.inr (.inr (4, [.null, .null, .null, .int 0, .null])), .inr (.inr (2, [.ref 2])), .inl (.int, 162, iS n)], 1, 162)) (fun n hn => ?_) ?_ 0 (by omega)
  · refine Rch.i_ge rfl (fun z => absurd z (lo_in hn (by decide))) (fun _ => ?_)
    refine Rch.go rfl ?_
    refine Rch.xa rfl rfl rfl rfl (by omega) (by decide) ?_
    refine Rch.ias rfl rfl (nI_add 128 n) (by omega) (by decide) ?_
    refine Rch.go rfl (Rch.rf ?_)
    rw [nI_1, show iS (n + 1) = _ from (cpfz_s _ _ _ _ _).symm, Nat.zero_add]
    rfl
  refine Rch.i_ge rfl (fun _ => ?_) (fun z => absurd (lo_out (by decide)) z)
  exact Rch.rv rfl rfl (by decide) (by decide) ⟨rfl, rfl⟩
end BG
