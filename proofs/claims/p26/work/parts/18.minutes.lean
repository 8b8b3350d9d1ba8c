/-! ===== minutes ===== -/
def ndB : List Nat → Bool
  | [] => true
  | x :: t => (t.all fun y => !Nat.beq x y) && ndB t
theorem ndB_of : ∀ {l : List Nat}, ndB l = true → l.Nodup
  | [], _ => List.nodup_nil
  | x :: t, h => by
    unfold ndB at h
    simp only [Bool.and_eq_true] at h
    refine List.nodup_cons.mpr ⟨fun hm => ?_, ndB_of h.2⟩
    have := List.all_eq_true.mp h.1 x hm
    simp at this
/-- fewer locals, by their places -/
theorem Rch.wp {M : MI} {X : AX} {Ψ : AS → Prop} {pc : Nat} {ls ls' : AL} {st : List Value} {h : AH} {cc cs : Nat} (ks : List Nat) (hs : ks.filterMap (fun k => nth ls k) = ls') (hn : ndB (ls'.map Prod.fst) = true) (k : Rch M X (pc, ls', st, h, cc, cs) Ψ) : Rch M X (pc, ls, st, h, cc, cs) Ψ := by
  refine Rch.wl (fun q hq => ?_) (ndB_of hn) k
  rw [← hs] at hq
  obtain ⟨k2, -, hk⟩ := List.mem_filterMap.mp hq
  exact List.mem_of_getElem? (nth_some hk)
section MI9
theorem t_X1_leakOut (c : FA) (K : KS) (s : FA) (L : LS9) (e : AH) : Ct m_X1_leakOut X0 [.ref 1] (HP c K s L e) (fun rv h => rv = none ∧ h = HP (lk c 8) K s L e) := by
  refine ⟨ok_X1_leakOut, ?_⟩
  refine Rch.go rfl ?_
  refine Rch.for 8 (fun n => (5, [(0, .ref 1), (1, .int (nI n))], [.int 8, .int (nI n)], HP (lk c n) K s L e, 0, 0)) (fun n hn => ?_) ?_ 0 (by omega)
  · refine Rch.i_ge rfl (fun z => absurd z (lo_in hn (by decide))) (fun _ => ?_)
    refine Rch.go rfl ?_
    refine Rch.call 0 (t_X6_at _ K s L e (nI_add 8 n) (by omega)) rfl rfl g_X1_15 om_X6_at rfl (fun _ _ _ q => q) rfl rfl rfl rfl ⟨rfl, rfl⟩ ⟨by decide, by decide⟩ (fun _ _ q => by obtain ⟨_, rfl⟩ := q; first | with_reducible rfl | rw [HP_len, HP_len]) (fun rv9 h9 q9 => ?_)
    obtain ⟨rfl, rfl⟩ := q9
    refine Rch.go rfl ?_
    refine Rch.call 0 (t_X6_at _ K s L e (zadd n) (by omega)) rfl rfl g_X1_15 om_X6_at rfl (fun _ _ _ q => q) rfl rfl rfl rfl ⟨rfl, rfl⟩ ⟨by decide, by decide⟩ (fun _ _ q => by obtain ⟨_, rfl⟩ := q; first | with_reducible rfl | rw [HP_len, HP_len]) (fun rv9 h9 q9 => ?_)
    obtain ⟨rfl, rfl⟩ := q9
    refine Rch.min rfl (by decide +kernel) rfl rfl rfl (by decide) (by decide) ?_
    refine Rch.go rfl ?_
    refine Rch.call 0 (t_X6_add _ K s L e _ (zadd n) (by omega)) rfl rfl g_X1_19 om_X6_add rfl (fun _ _ _ q => q) rfl rfl rfl rfl ⟨rfl, rfl⟩ ⟨by decide, by decide⟩ (fun _ _ q => by obtain ⟨_, rfl⟩ := q; first | with_reducible rfl | rw [HP_len, HP_len]) (fun rv9 h9 q9 => ?_)
    obtain ⟨rfl, rfl⟩ := q9
    refine Rch.go rfl ?_
    refine Rch.call 0 (t_X6_add _ K s L e _ (nI_add 16 n) (by omega)) rfl rfl g_X1_19 om_X6_add rfl (fun _ _ _ q => q) rfl rfl rfl rfl ⟨rfl, rfl⟩ ⟨by decide, by decide⟩ (fun _ _ q => by obtain ⟨_, rfl⟩ := q; first | with_reducible rfl | rw [HP_len, HP_len]) (fun rv9 h9 q9 => ?_)
    obtain ⟨rfl, rfl⟩ := q9
    refine Rch.go rfl ?_
    refine Rch.wp [0, 1] rfl rfl (Rch.rf ?_)
    rw [nI_1]
    rfl
  · refine Rch.i_ge rfl (fun _ => ?_) (fun z => absurd (lo_out (by decide)) z)
    refine Rch.go rfl ?_
    exact Rch.rv rfl rfl (by decide) (by decide) ⟨rfl, rfl⟩
theorem t_X1_shiftCargo (c : FA) (K : KS) (s : FA) (L : LS9) (e : AH) : Ct m_X1_shiftCargo X0 [.ref 1] (HP c K s L e) (fun rv h => rv = none ∧ h = HP (shf c) K s L e) := by
  refine ⟨ok_X1_shiftCargo, ?_⟩
  refine Rch.go rfl ?_
  refine Rch.call 0 (t_X6_list c K s L e) rfl rfl g_X1_44 om_X6_list rfl (fun _ _ _ q => q) rfl rfl rfl rfl ⟨rfl, rfl⟩ ⟨by decide, by decide⟩ (fun _ _ q => by obtain ⟨_, rfl⟩ := q; first | with_reducible rfl | rw [HP_len, HP_len]) (fun rv9 h9 q9 => ?_)
  obtain ⟨rfl, rfl⟩ := q9
  refine Rch.go rfl ?_
  refine Rch.abs rfl (by decide +kernel) rfl rfl rfl (by decide) (by decide) ?_
  refine Rch.go rfl ?_
  refine Rch.call 0 (t_X6_at c K s L e (j := 129) rfl (by decide)) rfl rfl g_X1_15 om_X6_at rfl (fun _ _ _ q => q) rfl rfl rfl rfl ⟨rfl, rfl⟩ ⟨by decide, by decide⟩ (fun _ _ q => by obtain ⟨_, rfl⟩ := q; first | with_reducible rfl | rw [HP_len, HP_len]) (fun rv9 h9 q9 => ?_)
  obtain ⟨rfl, rfl⟩ := q9
  refine Rch.i_gt rfl (fun z => ?_) (fun z => ?_)
  · have e1 : shf c = shl c (if 0 ≤ lst c then 1 else -1) 3 := if_pos z
    rw [e1]
    have key : ∀ st : Int32, Rch m_X1_shiftCargo X0 (34, [(0, .ref 1), (1, .int (lst c)), (2, .int st), (3, .int 0)], [.int 3, .int 0], HP c K s L e, 0, 0) (RetP m_X1_shiftCargo (fun rv h => rv = none ∧ h = HP (shl c st 3) K s L e)) := by
      intro st
      refine Rch.for 3 (fun n => (34, [(0, .ref 1), (1, .int (lst c)), (2, .int st), (3, .int (nI n))], [.int 3, .int (nI n)], HP (shl c st n) K s L e, 0, 0)) (fun n hn => ?_) ?_ 0 (by omega)
      · refine Rch.i_ge rfl (fun z => absurd z (lo_in hn (by decide))) (fun _ => ?_)
        refine Rch.go rfl ?_
        refine Rch.call 0 (t_X6_at _ K s L e (nI_add 115 n) (by omega)) rfl rfl g_X1_15 om_X6_at rfl (fun _ _ _ q => q) rfl rfl rfl rfl ⟨rfl, rfl⟩ ⟨by decide, by decide⟩ (fun _ _ q => by obtain ⟨_, rfl⟩ := q; first | with_reducible rfl | rw [HP_len, HP_len]) (fun rv9 h9 q9 => ?_)
        obtain ⟨rfl, rfl⟩ := q9
        refine Rch.go rfl ?_
        refine Rch.call 0 (t_X6_at _ K s L e (nI_add 112 n) (by omega)) rfl rfl g_X1_15 om_X6_at rfl (fun _ _ _ q => q) rfl rfl rfl rfl ⟨rfl, rfl⟩ ⟨by decide, by decide⟩ (fun _ _ q => by obtain ⟨_, rfl⟩ := q; first | with_reducible rfl | rw [HP_len, HP_len]) (fun rv9 h9 q9 => ?_)
        obtain ⟨rfl, rfl⟩ := q9
        refine Rch.z_le rfl (fun w => ?_) (fun w => ?_)
        · refine Rch.go rfl ?_
          refine Rch.wp [0, 1, 2, 3] rfl rfl (Rch.rf ?_)
          rw [nI_1, ← show shl c st (n + 1) = _ from if_neg (fun q => Int32.not_lt.mpr w q.1)]
          rfl
        · refine Rch.go rfl ?_
          refine Rch.abs rfl (by decide +kernel) rfl rfl rfl (by decide) (by decide) ?_
          refine Rch.go rfl ?_
          refine Rch.i_gt rfl (fun w2 => ?_) (fun w2 => ?_)
          · refine Rch.go rfl ?_
            refine Rch.wp [0, 1, 2, 3] rfl rfl (Rch.rf ?_)
            rw [nI_1, ← show shl c st (n + 1) = _ from if_neg (fun q => Int32.not_le.mpr w2 q.2)]
            rfl
          · refine Rch.go rfl ?_
            refine Rch.call 0 (t_X6_put _ K s L e _ (nI_add 115 n) (by omega)) rfl rfl g_X1_50 om_X6_put rfl (fun _ _ _ q => q) rfl rfl rfl rfl ⟨rfl, rfl⟩ ⟨by decide, by decide⟩ (fun _ _ q => by obtain ⟨_, rfl⟩ := q; first | with_reducible rfl | rw [HP_len, HP_len]) (fun rv9 h9 q9 => ?_)
            obtain ⟨rfl, rfl⟩ := q9
            refine Rch.go rfl ?_
            refine Rch.call 0 (t_X6_add _ K s L e (j := 161) _ rfl (by decide)) rfl rfl g_X1_19 om_X6_add rfl (fun _ _ _ q => q) rfl rfl rfl rfl ⟨rfl, rfl⟩ ⟨by decide, by decide⟩ (fun _ _ q => by obtain ⟨_, rfl⟩ := q; first | with_reducible rfl | rw [HP_len, HP_len]) (fun rv9 h9 q9 => ?_)
            obtain ⟨rfl, rfl⟩ := q9
            refine Rch.go rfl ?_
            refine Rch.wp [0, 1, 2, 3] rfl rfl (Rch.rf ?_)
            rw [nI_1, show shl c st (n + 1) = _ from if_pos ⟨nle_lt w, nlt_le w2⟩]
            rfl
      · refine Rch.i_ge rfl (fun _ => ?_) (fun z => absurd (lo_out (by decide)) z)
        refine Rch.go rfl ?_
        exact Rch.rv rfl rfl (by decide) (by decide) ⟨rfl, rfl⟩
    refine Rch.go rfl ?_
    refine Rch.z_ge rfl (fun w => ?_) (fun w => ?_)
    · refine Rch.go rfl ?_
      rw [if_pos w]
      exact key 1
    · refine Rch.go rfl ?_
      rw [if_neg w]
      exact key (-1)
  · have e1 : shf c = c := if_neg z
    rw [e1]
    exact Rch.rv rfl rfl (by decide) (by decide) ⟨rfl, rfl⟩
theorem run_units (c : FA) (K : KS) (s : FA) (L : LS9) (e : AH) (m x : Int32) (r : Nat) (hr : r < 2 ^ 31) (a2 a5 : Value) : ∀ (d u : Nat) (c : FA), u + d = r → Rch m_X1_run X0 (41, [(0, .ref 1), (1, .int m), (2, a2), (3, .int x), (4, .int (nI r)), (5, a5), (6, .int 1), (7, .int (nI u))], [.int (nI r), .int (nI u)], HP c K s L e, 0, 0) (fun τ => ∃ v w : Int32, τ = (67, [(0, .ref 1), (1, .int m), (2, a2), (3, .int x), (4, .int (nI r)), (5, a5), (6, .int v), (7, .int w)], [.int 156, .ref 1], HP (pmp m x d c) K s L e, 0, 0)) := by
  intro d
  induction d with
  | zero =>
    intro u c hu
    obtain rfl : u = r := by omega
    refine Rch.i_ge rfl (fun _ => ?_) (fun z => absurd (lo_out hr) z)
    exact Rch.go rfl (Rch.rf ⟨_, _, rfl⟩)
  | succ d ih =>
    intro u c hu
    refine Rch.i_ge rfl (fun z => absurd z (lo_in (by omega) hr)) (fun _ => ?_)
    refine Rch.go rfl ?_
    refine Rch.z_eq rfl (fun z => absurd z (by decide)) (fun _ => ?_)
    refine Rch.go rfl ?_
    refine Rch.call 1 (t_X4_moveUnit c K s L e m x) rfl rfl g_X1_23 om_X4_moveUnit rfl (fun _ _ _ q => q) rfl rfl rfl rfl ⟨rfl, rfl⟩ ⟨by decide, by decide⟩ (fun _ _ q => by obtain ⟨_, rfl⟩ := q; first | with_reducible rfl | rw [HP_len, HP_len]) (fun rv9 h9 q9 => ?_)
    obtain ⟨rfl, rfl⟩ := q9
    cases hv : mvu m c x with
    | none =>
      have e1 : pmp m x (d + 1) c = c := by show (match mvu m c x with | some c' => pmp m x d c' | none => c) = c; rw [hv]
      rw [e1]
      refine Rch.go rfl ?_
      refine Rch.i_ge rfl (fun _ => ?_) (fun _ => ?_)
      · exact Rch.go rfl (Rch.rf ⟨_, _, rfl⟩)
      · refine Rch.go rfl ?_
        refine Rch.z_eq rfl (fun _ => ?_) (fun z => absurd rfl z)
        exact Rch.go rfl (Rch.rf ⟨_, _, rfl⟩)
    | some c' =>
      have e1 : pmp m x (d + 1) c = pmp m x d c' := by show (match mvu m c x with | some c' => pmp m x d c' | none => c) = _; rw [hv]
      rw [e1]
      refine Rch.go rfl ?_
      refine Rch.eq (τ := (41, [(0, .ref 1), (1, .int m), (2, a2), (3, .int x), (4, .int (nI r)), (5, a5), (6, .int 1), (7, .int (nI (u + 1)))], [.int (nI r), .int (nI (u + 1))], HP c' K s L e, 0, 0)) ?_ (ih (u + 1) c' (by omega))
      rw [← nI_1]
      rfl
theorem t_X1_run (c : FA) (K : KS) (s : FA) (L : LS9) (e : AH) (m : Int32) {N r : Nat} (hN : N < 2 ^ 31) (hr : c 128 = nI r) (hr2 : r < 2 ^ 31) : Ct m_X1_run X0 [.ref 1, .int m, .int (nI N)] (HP c K s L e) (fun rv h => rv = none ∧ h = HP (mns m (opn c 5) r c N) K s L e) := by
  refine ⟨ok_X1_run, ?_⟩
  refine Rch.go rfl ?_
  refine Rch.call 0 (t_X6_openTanks c K s L e) rfl rfl g_X1_9 om_X6_openTanks rfl (fun _ _ _ q => q) rfl rfl rfl rfl ⟨rfl, rfl⟩ ⟨by decide, by decide⟩ (fun _ _ q => by obtain ⟨_, rfl⟩ := q; first | with_reducible rfl | rw [HP_len, HP_len]) (fun rv9 h9 q9 => ?_)
  obtain ⟨rfl, rfl⟩ := q9
  refine Rch.go rfl ?_
  refine Rch.call 0 (t_X6_at c K s L e (j := 128) rfl (by decide)) rfl rfl g_X1_15 om_X6_at rfl (fun _ _ _ q => q) rfl rfl rfl rfl ⟨rfl, rfl⟩ ⟨by decide, by decide⟩ (fun _ _ q => by obtain ⟨_, rfl⟩ := q; first | with_reducible rfl | rw [HP_len, HP_len]) (fun rv9 h9 q9 => ?_)
  obtain ⟨rfl, rfl⟩ := q9
  rw [hr]
  refine Rch.go rfl ?_
  refine Rch.for N (fun n => (20, [(0, .ref 1), (1, .int m), (2, .int (nI N)), (3, .int (opn c 5)), (4, .int (nI r)), (5, .int (nI n))], [.int (nI N), .int (nI n)], HP (mns m (opn c 5) r c n) K s L e, 0, 0)) (fun n hn => ?_) ?_ 0 (by omega)
  · refine Rch.i_ge rfl (fun z => absurd z (lo_in hn hN)) (fun _ => ?_)
    refine Rch.go rfl ?_
    refine Rch.call 0 (t_X6_add _ K s L e (j := 156) 1 rfl (by decide)) rfl rfl g_X1_19 om_X6_add rfl (fun _ _ _ q => q) rfl rfl rfl rfl ⟨rfl, rfl⟩ ⟨by decide, by decide⟩ (fun _ _ q => by obtain ⟨_, rfl⟩ := q; first | with_reducible rfl | rw [HP_len, HP_len]) (fun rv9 h9 q9 => ?_)
    obtain ⟨rfl, rfl⟩ := q9
    refine Rch.go rfl ?_
    refine Rch.tr (run_units c K s L e m (opn c 5) r hr2 _ _ r 0 _ (by omega)) ?_
    rintro τ ⟨v, w, rfl⟩
    refine Rch.call 0 (t_X6_at _ K s L e (j := 156) rfl (by decide)) rfl rfl g_X1_15 om_X6_at rfl (fun _ _ _ q => q) rfl rfl rfl rfl ⟨rfl, rfl⟩ ⟨by decide, by decide⟩ (fun _ _ q => by obtain ⟨_, rfl⟩ := q; first | with_reducible rfl | rw [HP_len, HP_len]) (fun rv9 h9 q9 => ?_)
    obtain ⟨rfl, rfl⟩ := q9
    refine Rch.go rfl ?_
    refine Rch.z_ne rfl (fun z => ?_) (fun z => ?_)
    · refine Rch.go rfl ?_
      refine Rch.call 1 (t_X1_leakOut _ K s L e) rfl rfl g_X1_29 om_X1_leakOut rfl (fun _ _ _ q => q) rfl rfl rfl rfl ⟨rfl, rfl⟩ ⟨by decide, by decide⟩ (fun _ _ q => by obtain ⟨_, rfl⟩ := q; first | with_reducible rfl | rw [HP_len, HP_len]) (fun rv9 h9 q9 => ?_)
      obtain ⟨rfl, rfl⟩ := q9
      refine Rch.go rfl ?_
      refine Rch.call 1 (t_X1_shiftCargo _ K s L e) rfl rfl g_X1_35 om_X1_shiftCargo rfl (fun _ _ _ q => q) rfl rfl rfl rfl ⟨rfl, rfl⟩ ⟨by decide, by decide⟩ (fun _ _ q => by obtain ⟨_, rfl⟩ := q; first | with_reducible rfl | rw [HP_len, HP_len]) (fun rv9 h9 q9 => ?_)
      obtain ⟨rfl, rfl⟩ := q9
      refine Rch.go rfl ?_
      refine Rch.wp [0, 1, 2, 3, 4, 5] rfl rfl (Rch.rf ?_)
      rw [nI_1]
      show (_, _) = (_, _)
      rw [show mns m (opn c 5) r c (n + 1) = shf (lk (pmp m (opn c 5) r (ad (mns m (opn c 5) r c n) 156 1)) 8) from congrArg shf (if_pos z)]
      rfl
    · refine Rch.go rfl ?_
      refine Rch.call 1 (t_X1_shiftCargo _ K s L e) rfl rfl g_X1_35 om_X1_shiftCargo rfl (fun _ _ _ q => q) rfl rfl rfl rfl ⟨rfl, rfl⟩ ⟨by decide, by decide⟩ (fun _ _ q => by obtain ⟨_, rfl⟩ := q; first | with_reducible rfl | rw [HP_len, HP_len]) (fun rv9 h9 q9 => ?_)
      obtain ⟨rfl, rfl⟩ := q9
      refine Rch.go rfl ?_
      refine Rch.wp [0, 1, 2, 3, 4, 5] rfl rfl (Rch.rf ?_)
      rw [nI_1]
      show (_, _) = (_, _)
      rw [show mns m (opn c 5) r c (n + 1) = shf (pmp m (opn c 5) r (ad (mns m (opn c 5) r c n) 156 1)) from congrArg shf (if_neg z)]
      rfl
  · refine Rch.i_ge rfl (fun _ => ?_) (fun z => absurd (lo_out hN) z)
    refine Rch.go rfl ?_
    exact Rch.rv rfl rfl (by decide) (by decide) ⟨rfl, rfl⟩
end MI9
