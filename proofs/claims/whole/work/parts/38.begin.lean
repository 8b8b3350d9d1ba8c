/-! ===== how both begin ===== -/
abbrev gT : FA := fun j => [(3 : Int32), 12, 48, 192, 255].getD j 0
abbrev sT : FA := fun j => [(4 : Int32), 12, 120].getD j 0
def iW (n : Nat) : FA := cpf (fun _ => 20) (fun _ => 0) 0 0 n
def iG (d n : Nat) : FA := cpf gT (iW 8) 0 d n
def iS (n : Nat) : FA := cpf sT (iG 118 5) 0 128 n
def s0 : FA := upd (upd (upd (iG 38 5) 48 4) 49 12) 50 120
theorem RR_0 : RR 0 0 0 (iS 3) s0 := by
  have a1 : ∀ i, i < 24 → s0 i = iS 3 i := by decide
  have a2 : ∀ i, i < 51 → 32 ≤ i → s0 i = iS 3 (i + 80) := by decide
  have a5 : ∀ t, t < 8 → s0 (83 + 10 * t) = iS 3 (32 + t) ∧ ∀ b, b < 3 → s0 (83 + 10 * t + 1 + 3 * b) = iS 3 (40 + (t * 3 + b)) ∧ s0 (83 + 10 * t + 1 + 3 * b + 1) = iS 3 (64 + (t * 3 + b)) := by decide
  have a6 : ∀ t, t < 8 → iS 3 (32 + t) = nI 0 ∧ iS 3 (24 + t) = nI 0 ∧ iS 3 (88 + (t * 3 + 0)) = nI 0 := by decide
  have b1 : ∀ t, t < 8 → iS 3 t = nI 20 ∧ iS 3 (8 + t) = nI 0 := by decide
  have b2 : ∀ t, t < 3 → iS 3 (112 + t) = nI 0 ∧ iS 3 (115 + t) = 0 := by decide
  refine ⟨a1, fun i h1 h2 => a2 i h2 h1, by unfold R3d; decide, ⟨⟨by decide, by decide, fun p hp => absurd hp (by omega)⟩, by decide, fun p hp => absurd hp (by omega)⟩, a5, fun t ht => ?_, fun t ht => ⟨20, by decide, (b1 t ht).1⟩, fun t ht => ⟨0, by decide, (b1 t ht).2⟩, fun t ht => ⟨0, by decide, (b2 t ht).1⟩, fun t ht => by rw [(b2 t ht).2]; decide, ⟨4, by decide, by decide⟩⟩
  obtain ⟨h1, h2, h3⟩ := a6 t ht
  exact ⟨0, 0, 0, by decide, h1, by decide, by decide, h2, h3, fun q => absurd q (by decide), fun q => absurd q (by decide)⟩
section BG
theorem t_X6_init : Ct m_X6_init X0 [.ref 1] [.inr (.inr (4, [.null, .null, .null, .int 0, .null])), .inr (.inr (2, [.null]))] (fun rv h => rv = none ∧ h = [.inr (.inr (4, [.null, .null, .null, .int 0, .null])), .inr (.inr (2, [.ref 2])), .inl (.int, 162, iS 3)]) := by
  refine ⟨ok_X6_init, ?_⟩
  refine Rch.go rfl ?_
  refine Rch.oi rfl (by decide +kernel) rfl rfl rfl ?_
  refine Rch.go rfl ?_
  refine Rch.newa (N := 162) (o := 2) (cc' := 1) (cs' := 162) (ty := .int) rfl rfl rfl (by decide +kernel) rfl (by decide) (by decide) rfl rfl rfl rfl rfl rfl rfl (by decide) (by decide) ?_
  refine Rch.go rfl ?_
  refine Rch.eq (τ := (18, [(0, .ref 1), (1, .int (nI 0))], [.int 8, .int (nI 0)], [.inr (.inr (4, [.null, .null, .null, .int 0, .null])), .inr (.inr (2, [.ref 2])), .inl (.int, 162, iW 0)], 1, 162)) (by unfold iW; rw [cpf_0]; rfl) ?_
  refine Rch.for 8 (fun n => (18, [(0, .ref 1), (1, .int (nI n))], [.int 8, .int (nI n)], [.inr (.inr (4, [.null, .null, .null, .int 0, .null])), .inr (.inr (2, [.ref 2])), .inl (.int, 162, iW n)], 1, 162)) (fun n hn => ?_) ?_ 0 (by omega)
  · refine Rch.i_ge rfl (fun z => absurd z (lo_in hn (by decide))) (fun _ => ?_)
    refine Rch.go rfl ?_
    refine Rch.ias rfl rfl (nI_add 0 n) (by omega) (by decide) ?_
    refine Rch.go rfl (Rch.rf ?_)
    rw [nI_1, show iW (n + 1) = _ from (cpf_s _ _ _ _ _).symm]
    rfl
  refine Rch.i_ge rfl (fun _ => ?_) (fun z => absurd (lo_out (by decide)) z)
  refine Rch.go rfl ?_
  refine Rch.eq (τ := (41, [(0, .ref 1), (1, .int (nI 0))], [.int 5, .int (nI 0)], [.inr (.inr (4, [.null, .null, .null, .int 0, .null])), .inr (.inr (2, [.ref 2])), .inl (.int, 162, iG 118 0)], 1, 162)) (by unfold iG; rw [cpf_0]; rfl) ?_
  refine Rch.for 5 (fun n => (41, [(0, .ref 1), (1, .int (nI n))], [.int 5, .int (nI n)], [.inr (.inr (4, [.null, .null, .null, .int 0, .null])), .inr (.inr (2, [.ref 2])), .inl (.int, 162, iG 118 n)], 1, 162)) (fun n hn => ?_) ?_ 0 (by omega)
  · refine Rch.i_ge rfl (fun z => absurd z (lo_in hn (by decide))) (fun _ => ?_)
    refine Rch.go rfl ?_
    refine Rch.xa rfl rfl rfl rfl (by omega) (by decide) ?_
    refine Rch.ias rfl rfl (nI_add 118 n) (by omega) (by decide) ?_
    refine Rch.go rfl (Rch.rf ?_)
    rw [nI_1, show iG 118 (n + 1) = _ from (cpf_s _ _ _ _ _).symm, Nat.zero_add]
    rfl
  refine Rch.i_ge rfl (fun _ => ?_) (fun z => absurd (lo_out (by decide)) z)
  refine Rch.go rfl ?_
  refine Rch.eq (τ := (68, [(0, .ref 1), (1, .int (nI 0))], [.int 3, .int (nI 0)], [.inr (.inr (4, [.null, .null, .null, .int 0, .null])), .inr (.inr (2, [.ref 2])), .inl (.int, 162, iS 0)], 1, 162)) (by unfold iS; rw [cpf_0]; rfl) ?_
  refine Rch.for 3 (fun n => (68, [(0, .ref 1), (1, .int (nI n))], [.int 3, .int (nI n)], [.inr (.inr (4, [.null, .null, .null, .int 0, .null])), .inr (.inr (2, [.ref 2])), .inl (.int, 162, iS n)], 1, 162)) (fun n hn => ?_) ?_ 0 (by omega)
  · refine Rch.i_ge rfl (fun z => absurd z (lo_in hn (by decide))) (fun _ => ?_)
    refine Rch.go rfl ?_
    refine Rch.xa rfl rfl rfl rfl (by omega) (by decide) ?_
    refine Rch.ias rfl rfl (nI_add 128 n) (by omega) (by decide) ?_
    refine Rch.go rfl (Rch.rf ?_)
    rw [nI_1, show iS (n + 1) = _ from (cpf_s _ _ _ _ _).symm, Nat.zero_add]
    rfl
  refine Rch.i_ge rfl (fun _ => ?_) (fun z => absurd (lo_out (by decide)) z)
  exact Rch.rv rfl rfl (by decide) (by decide) ⟨rfl, rfl⟩
end BG
