/-! ===== the tank that would set her upright ===== -/
abbrev US : Type := Int32 × Int32 × Int32
def uO (U : US) : AH := [.inr (.inr (3, [.int U.1, .int U.2.1, .int U.2.2]))]
theorem uO_len (U : US) : (uO U).length = 1 := rfl
def uP (A U : US) : AH := [.inr (.inr (3, [.int A.1, .int A.2.1, .int A.2.2])), .inr (.inr (3, [.int U.1, .int U.2.1, .int U.2.2]))]
def uQ (A B U : US) : AH := [.inr (.inr (3, [.int A.1, .int A.2.1, .int A.2.2])), .inr (.inr (3, [.int B.1, .int B.2.1, .int B.2.2])), .inr (.inr (3, [.int U.1, .int U.2.1, .int U.2.2]))]
def bet (U : US) (t ch li : Int32) : US := if abi li < abi U.2.2 then (t, ch, li) else U
def up1 (c : FA) (u t : Nat) (U : US) : US := if c t + nI u ≤ 100 then bet U (nI t) (nI u) (lof (lmo c + nI u * sidA (t % 2)) (wgt c + nI u)) else U
def up2 (c : FA) (u t : Nat) (U : US) : US := if c t - nI u < 0 then U else bet U (nI t) (-(nI u)) (lof (lmo c - nI u * sidA (t % 2)) (wgt c - nI u))
def upi (c : FA) (u : Nat) (U : US) : Nat → US
  | 0 => U
  | t + 1 => up2 c u t (up1 c u t (upi c u U t))
def upo (c : FA) : Nat → US
  | 0 => (0, 0, lst c)
  | n + 1 => upi c (n + 1) (upo c n) 8
section UP
theorem t_X7_takeIfBetter__0 (A B : US) (c : FA) (K : KS) (s : FA) (L : LS9) (U : US) (t ch li : Int32) : Ct m_X7_takeIfBetter X0 [.ref 14, .int t, .int ch, .int li] (HP c K s L (uO U)) (fun rv h => rv = none ∧ h = HP c K s L (uO (bet U t ch li))) := by
  refine ⟨ok_X7_takeIfBetter, ?_⟩
  refine Rch.go rfl ?_
  refine Rch.abs rfl (by decide +kernel) rfl rfl rfl (by decide) (by decide) ?_
  refine Rch.go rfl ?_
  refine Rch.abs rfl (by decide +kernel) rfl rfl rfl (by decide) (by decide) ?_
  refine Rch.i_ge rfl (fun z => ?_) (fun z => ?_)
  · rw [show bet U t ch li = U from if_neg (Int32.not_lt.mpr z)]
    exact Rch.rv rfl rfl (by decide) (by decide) ⟨rfl, rfl⟩
  · rw [show bet U t ch li = _ from if_pos (nle_lt z)]
    refine Rch.go rfl ?_
    exact Rch.rv rfl rfl (by decide) (by decide) ⟨rfl, rfl⟩
theorem t_X7_init__0 (A B : US) (c : FA) (K : KS) (s : FA) (L : LS9) {N : Nat} (hN : N ≤ 100) : Ct m_X7_init X0 [.ref 14, .ref 1, .int (nI N)] (HP c K s L (uO (0, 0, 0))) (fun rv h => rv = none ∧ h = HP c K s L (uO (upo c N))) := by
  refine ⟨ok_X7_init, ?_⟩
  refine Rch.go rfl ?_
  refine Rch.oi rfl (by decide +kernel) rfl rfl rfl ?_
  refine Rch.go rfl ?_
  refine Rch.call 0 (t_X6_listMoment c K s L _) rfl rfl g_X7_9 om_X6_listMoment rfl (fun _ _ _ q => q) rfl rfl rfl rfl ⟨rfl, rfl⟩ ⟨by decide, by decide⟩ (fun _ _ q => by obtain ⟨_, rfl⟩ := q; first | with_reducible rfl | (rw [HP_len, HP_len]; done) | rfl) (fun rv9 h9 q9 => ?_)
  obtain ⟨rfl, rfl⟩ := q9
  refine Rch.go rfl ?_
  refine Rch.call 0 (t_X6_weight c K s L _) rfl rfl g_X7_15 om_X6_weight rfl (fun _ _ _ q => q) rfl rfl rfl rfl ⟨rfl, rfl⟩ ⟨by decide, by decide⟩ (fun _ _ q => by obtain ⟨_, rfl⟩ := q; first | with_reducible rfl | (rw [HP_len, HP_len]; done) | rfl) (fun rv9 h9 q9 => ?_)
  obtain ⟨rfl, rfl⟩ := q9
  refine Rch.go rfl ?_
  refine Rch.call 1 (t_X6_listOf _ _ _) rfl rfl g_X7_18 om_X6_listOf rfl (fun _ _ _ q => q) rfl rfl rfl rfl ⟨rfl, rfl⟩ ⟨by decide, by decide⟩ (fun _ _ q => by obtain ⟨_, rfl⟩ := q; first | with_reducible rfl | (rw [HP_len, HP_len]; done) | rfl) (fun rv9 h9 q9 => ?_)
  obtain ⟨rfl, rfl⟩ := q9
  refine Rch.go rfl ?_
  refine Rch.for N (fun n => (31, [(0, .ref 14), (1, .ref 1), (2, .int (nI N)), (3, .int (lmo c)), (4, .int (wgt c)), (5, .int (nI (n + 1)))], [.int (nI N), .int (nI (n + 1))], HP c K s L (uO (upo c n)), 0, 0)) (fun n hn => ?_) ?_ 0 (by omega)
  · refine Rch.i_gt rfl (fun z => absurd z (nI_nlt (by omega) (by omega))) (fun _ => ?_)
    refine Rch.go rfl ?_
    refine Rch.tr (Ψ := fun τ => ∃ ls, τ = (41, (0, .ref 14) :: (1, .ref 1) :: (2, .int (nI N)) :: (3, .int (lmo c)) :: (4, .int (wgt c)) :: (5, .int (nI (n + 1))) :: ls, [.int 8, .int 8], HP c K s L (uO (upi c (n + 1) (upo c n) 8)), 0, 0) ∧ ls = [(6, .int 8)]) ?_ ?_
    · refine Rch.for 8 (fun t => (41, [(0, .ref 14), (1, .ref 1), (2, .int (nI N)), (3, .int (lmo c)), (4, .int (wgt c)), (5, .int (nI (n + 1))), (6, .int (nI t))], [.int 8, .int (nI t)], HP c K s L (uO (upi c (n + 1) (upo c n) t)), 0, 0)) (fun t ht => ?_) ?_ 0 (by omega)
      · refine Rch.i_ge rfl (fun z => absurd z (lo_in ht (by decide))) (fun _ => ?_)
        refine Rch.go rfl ?_
        refine Rch.call 0 (t_X6_at c K s L _ (zadd t) (by omega)) rfl rfl g_X7_28 om_X6_at rfl (fun _ _ _ q => q) rfl rfl rfl rfl ⟨rfl, rfl⟩ ⟨by decide, by decide⟩ (fun _ _ q => by obtain ⟨_, rfl⟩ := q; first | with_reducible rfl | (rw [HP_len, HP_len]; done) | rfl) (fun rv9 h9 q9 => ?_)
        obtain ⟨rfl, rfl⟩ := q9
        refine Rch.go rfl ?_
        refine Rch.xa rfl rfl rfl (nI_rem (d := 2) (by omega) (by decide)) (by omega) (by decide) ?_
        refine Rch.go rfl ?_
        have k2 : ∀ U : US, Rch m_X7_init X0 (102, [(0, .ref 14), (1, .ref 1), (2, .int (nI N)), (3, .int (lmo c)), (4, .int (wgt c)), (5, .int (nI (n + 1))), (6, .int (nI t)), (7, .int (c t)), (8, .int (nI (n + 1) * sidA (t % 2)))], [.int (c t - nI (n + 1))], HP c K s L (uO U), 0, 0) (fun τ => τ = (41, [(0, .ref 14), (1, .ref 1), (2, .int (nI N)), (3, .int (lmo c)), (4, .int (wgt c)), (5, .int (nI (n + 1))), (6, .int (nI (t + 1)))], [.int 8, .int (nI (t + 1))], HP c K s L (uO (up2 c (n + 1) t U)), 0, 0)) := by
          intro U
          refine Rch.z_lt rfl (fun z => ?_) (fun z => ?_)
          · rw [show up2 c (n + 1) t U = _ from if_pos z]
            refine Rch.go rfl ?_
            refine Rch.wp [0, 1, 2, 3, 4, 5, 6] rfl rfl (Rch.rf ?_)
            rw [nI_1]
            rfl
          · rw [show up2 c (n + 1) t U = _ from if_neg z]
            refine Rch.go rfl ?_
            refine Rch.call 1 (t_X6_listOf _ _ _) rfl rfl g_X7_18 om_X6_listOf rfl (fun _ _ _ q => q) rfl rfl rfl rfl ⟨rfl, rfl⟩ ⟨by decide, by decide⟩ (fun _ _ q => by obtain ⟨_, rfl⟩ := q; first | with_reducible rfl | (rw [HP_len, HP_len]; done) | rfl) (fun rv9 h9 q9 => ?_)
            obtain ⟨rfl, rfl⟩ := q9
            refine Rch.call 0 (t_X7_takeIfBetter__0 A B c K s L U _ _ _) rfl rfl g_X7_36 om_X7_takeIfBetter rfl (fun _ _ _ q => q) rfl rfl rfl rfl ⟨rfl, rfl⟩ ⟨by decide, by decide⟩ (fun _ _ q => by obtain ⟨_, rfl⟩ := q; first | with_reducible rfl | (rw [HP_len, HP_len]; done) | rfl) (fun rv9 h9 q9 => ?_)
            obtain ⟨rfl, rfl⟩ := q9
            refine Rch.go rfl ?_
            refine Rch.wp [0, 1, 2, 3, 4, 5, 6] rfl rfl (Rch.rf ?_)
            rw [nI_1]
            rfl
        refine Rch.i_gt rfl (fun z => ?_) (fun z => ?_)
        · refine Rch.go rfl ?_
          have e1 : up1 c (n + 1) t (upi c (n + 1) (upo c n) t) = upi c (n + 1) (upo c n) t := if_neg (Int32.not_le.mpr z)
          refine Rch.mono (k2 (upi c (n + 1) (upo c n) t)) (fun τ hτ => ?_)
          rw [hτ, show upi c (n + 1) (upo c n) (t + 1) = up2 c (n + 1) t (up1 c (n + 1) t (upi c (n + 1) (upo c n) t)) from rfl, e1]
        · have e1 : up1 c (n + 1) t (upi c (n + 1) (upo c n) t) = _ := if_pos (nlt_le z)
          refine Rch.go rfl ?_
          refine Rch.call 1 (t_X6_listOf _ _ _) rfl rfl g_X7_18 om_X6_listOf rfl (fun _ _ _ q => q) rfl rfl rfl rfl ⟨rfl, rfl⟩ ⟨by decide, by decide⟩ (fun _ _ q => by obtain ⟨_, rfl⟩ := q; first | with_reducible rfl | (rw [HP_len, HP_len]; done) | rfl) (fun rv9 h9 q9 => ?_)
          obtain ⟨rfl, rfl⟩ := q9
          refine Rch.call 0 (t_X7_takeIfBetter__0 A B c K s L _ _ _ _) rfl rfl g_X7_36 om_X7_takeIfBetter rfl (fun _ _ _ q => q) rfl rfl rfl rfl ⟨rfl, rfl⟩ ⟨by decide, by decide⟩ (fun _ _ q => by obtain ⟨_, rfl⟩ := q; first | with_reducible rfl | (rw [HP_len, HP_len]; done) | rfl) (fun rv9 h9 q9 => ?_)
          obtain ⟨rfl, rfl⟩ := q9
          refine Rch.go rfl ?_
          refine Rch.mono (k2 _) (fun τ hτ => ?_)
          rw [hτ, show upi c (n + 1) (upo c n) (t + 1) = up2 c (n + 1) t (up1 c (n + 1) t (upi c (n + 1) (upo c n) t)) from rfl, e1]
          rfl
      · exact Rch.rf ⟨_, rfl, rfl⟩
    · rintro τ ⟨ls, rfl, rfl⟩
      refine Rch.i_ge rfl (fun _ => ?_) (fun z => absurd (by decide) z)
      refine Rch.go rfl ?_
      refine Rch.wp [0, 1, 2, 3, 4, 5] rfl rfl (Rch.rf ?_)
      rw [nI_1]
      rfl
  · refine Rch.i_gt rfl (fun _ => ?_) (fun z => absurd (nI_lt (by omega) (by omega)) z)
    exact Rch.rv rfl rfl (by decide) (by decide) ⟨rfl, rfl⟩
theorem t_X7_takeIfBetter__1 (A B : US) (c : FA) (K : KS) (s : FA) (L : LS9) (U : US) (t ch li : Int32) : Ct m_X7_takeIfBetter X0 [.ref 15, .int t, .int ch, .int li] (HP c K s L (uP A U)) (fun rv h => rv = none ∧ h = HP c K s L (uP A (bet U t ch li))) := by
  refine ⟨ok_X7_takeIfBetter, ?_⟩
  refine Rch.go rfl ?_
  refine Rch.abs rfl (by decide +kernel) rfl rfl rfl (by decide) (by decide) ?_
  refine Rch.go rfl ?_
  refine Rch.abs rfl (by decide +kernel) rfl rfl rfl (by decide) (by decide) ?_
  refine Rch.i_ge rfl (fun z => ?_) (fun z => ?_)
  · rw [show bet U t ch li = U from if_neg (Int32.not_lt.mpr z)]
    exact Rch.rv rfl rfl (by decide) (by decide) ⟨rfl, rfl⟩
  · rw [show bet U t ch li = _ from if_pos (nle_lt z)]
    refine Rch.go rfl ?_
    exact Rch.rv rfl rfl (by decide) (by decide) ⟨rfl, rfl⟩
theorem t_X7_init__1 (A B : US) (c : FA) (K : KS) (s : FA) (L : LS9) {N : Nat} (hN : N ≤ 100) : Ct m_X7_init X0 [.ref 15, .ref 1, .int (nI N)] (HP c K s L (uP A (0, 0, 0))) (fun rv h => rv = none ∧ h = HP c K s L (uP A (upo c N))) := by
  refine ⟨ok_X7_init, ?_⟩
  refine Rch.go rfl ?_
  refine Rch.oi rfl (by decide +kernel) rfl rfl rfl ?_
  refine Rch.go rfl ?_
  refine Rch.call 0 (t_X6_listMoment c K s L _) rfl rfl g_X7_9 om_X6_listMoment rfl (fun _ _ _ q => q) rfl rfl rfl rfl ⟨rfl, rfl⟩ ⟨by decide, by decide⟩ (fun _ _ q => by obtain ⟨_, rfl⟩ := q; first | with_reducible rfl | (rw [HP_len, HP_len]; done) | rfl) (fun rv9 h9 q9 => ?_)
  obtain ⟨rfl, rfl⟩ := q9
  refine Rch.go rfl ?_
  refine Rch.call 0 (t_X6_weight c K s L _) rfl rfl g_X7_15 om_X6_weight rfl (fun _ _ _ q => q) rfl rfl rfl rfl ⟨rfl, rfl⟩ ⟨by decide, by decide⟩ (fun _ _ q => by obtain ⟨_, rfl⟩ := q; first | with_reducible rfl | (rw [HP_len, HP_len]; done) | rfl) (fun rv9 h9 q9 => ?_)
  obtain ⟨rfl, rfl⟩ := q9
  refine Rch.go rfl ?_
  refine Rch.call 1 (t_X6_listOf _ _ _) rfl rfl g_X7_18 om_X6_listOf rfl (fun _ _ _ q => q) rfl rfl rfl rfl ⟨rfl, rfl⟩ ⟨by decide, by decide⟩ (fun _ _ q => by obtain ⟨_, rfl⟩ := q; first | with_reducible rfl | (rw [HP_len, HP_len]; done) | rfl) (fun rv9 h9 q9 => ?_)
  obtain ⟨rfl, rfl⟩ := q9
  refine Rch.go rfl ?_
  refine Rch.for N (fun n => (31, [(0, .ref 15), (1, .ref 1), (2, .int (nI N)), (3, .int (lmo c)), (4, .int (wgt c)), (5, .int (nI (n + 1)))], [.int (nI N), .int (nI (n + 1))], HP c K s L (uP A (upo c n)), 0, 0)) (fun n hn => ?_) ?_ 0 (by omega)
  · refine Rch.i_gt rfl (fun z => absurd z (nI_nlt (by omega) (by omega))) (fun _ => ?_)
    refine Rch.go rfl ?_
    refine Rch.tr (Ψ := fun τ => ∃ ls, τ = (41, (0, .ref 15) :: (1, .ref 1) :: (2, .int (nI N)) :: (3, .int (lmo c)) :: (4, .int (wgt c)) :: (5, .int (nI (n + 1))) :: ls, [.int 8, .int 8], HP c K s L (uP A (upi c (n + 1) (upo c n) 8)), 0, 0) ∧ ls = [(6, .int 8)]) ?_ ?_
    · refine Rch.for 8 (fun t => (41, [(0, .ref 15), (1, .ref 1), (2, .int (nI N)), (3, .int (lmo c)), (4, .int (wgt c)), (5, .int (nI (n + 1))), (6, .int (nI t))], [.int 8, .int (nI t)], HP c K s L (uP A (upi c (n + 1) (upo c n) t)), 0, 0)) (fun t ht => ?_) ?_ 0 (by omega)
      · refine Rch.i_ge rfl (fun z => absurd z (lo_in ht (by decide))) (fun _ => ?_)
        refine Rch.go rfl ?_
        refine Rch.call 0 (t_X6_at c K s L _ (zadd t) (by omega)) rfl rfl g_X7_28 om_X6_at rfl (fun _ _ _ q => q) rfl rfl rfl rfl ⟨rfl, rfl⟩ ⟨by decide, by decide⟩ (fun _ _ q => by obtain ⟨_, rfl⟩ := q; first | with_reducible rfl | (rw [HP_len, HP_len]; done) | rfl) (fun rv9 h9 q9 => ?_)
        obtain ⟨rfl, rfl⟩ := q9
        refine Rch.go rfl ?_
        refine Rch.xa rfl rfl rfl (nI_rem (d := 2) (by omega) (by decide)) (by omega) (by decide) ?_
        refine Rch.go rfl ?_
        have k2 : ∀ U : US, Rch m_X7_init X0 (102, [(0, .ref 15), (1, .ref 1), (2, .int (nI N)), (3, .int (lmo c)), (4, .int (wgt c)), (5, .int (nI (n + 1))), (6, .int (nI t)), (7, .int (c t)), (8, .int (nI (n + 1) * sidA (t % 2)))], [.int (c t - nI (n + 1))], HP c K s L (uP A U), 0, 0) (fun τ => τ = (41, [(0, .ref 15), (1, .ref 1), (2, .int (nI N)), (3, .int (lmo c)), (4, .int (wgt c)), (5, .int (nI (n + 1))), (6, .int (nI (t + 1)))], [.int 8, .int (nI (t + 1))], HP c K s L (uP A (up2 c (n + 1) t U)), 0, 0)) := by
          intro U
          refine Rch.z_lt rfl (fun z => ?_) (fun z => ?_)
          · rw [show up2 c (n + 1) t U = _ from if_pos z]
            refine Rch.go rfl ?_
            refine Rch.wp [0, 1, 2, 3, 4, 5, 6] rfl rfl (Rch.rf ?_)
            rw [nI_1]
            rfl
          · rw [show up2 c (n + 1) t U = _ from if_neg z]
            refine Rch.go rfl ?_
            refine Rch.call 1 (t_X6_listOf _ _ _) rfl rfl g_X7_18 om_X6_listOf rfl (fun _ _ _ q => q) rfl rfl rfl rfl ⟨rfl, rfl⟩ ⟨by decide, by decide⟩ (fun _ _ q => by obtain ⟨_, rfl⟩ := q; first | with_reducible rfl | (rw [HP_len, HP_len]; done) | rfl) (fun rv9 h9 q9 => ?_)
            obtain ⟨rfl, rfl⟩ := q9
            refine Rch.call 0 (t_X7_takeIfBetter__1 A B c K s L U _ _ _) rfl rfl g_X7_36 om_X7_takeIfBetter rfl (fun _ _ _ q => q) rfl rfl rfl rfl ⟨rfl, rfl⟩ ⟨by decide, by decide⟩ (fun _ _ q => by obtain ⟨_, rfl⟩ := q; first | with_reducible rfl | (rw [HP_len, HP_len]; done) | rfl) (fun rv9 h9 q9 => ?_)
            obtain ⟨rfl, rfl⟩ := q9
            refine Rch.go rfl ?_
            refine Rch.wp [0, 1, 2, 3, 4, 5, 6] rfl rfl (Rch.rf ?_)
            rw [nI_1]
            rfl
        refine Rch.i_gt rfl (fun z => ?_) (fun z => ?_)
        · refine Rch.go rfl ?_
          have e1 : up1 c (n + 1) t (upi c (n + 1) (upo c n) t) = upi c (n + 1) (upo c n) t := if_neg (Int32.not_le.mpr z)
          refine Rch.mono (k2 (upi c (n + 1) (upo c n) t)) (fun τ hτ => ?_)
          rw [hτ, show upi c (n + 1) (upo c n) (t + 1) = up2 c (n + 1) t (up1 c (n + 1) t (upi c (n + 1) (upo c n) t)) from rfl, e1]
        · have e1 : up1 c (n + 1) t (upi c (n + 1) (upo c n) t) = _ := if_pos (nlt_le z)
          refine Rch.go rfl ?_
          refine Rch.call 1 (t_X6_listOf _ _ _) rfl rfl g_X7_18 om_X6_listOf rfl (fun _ _ _ q => q) rfl rfl rfl rfl ⟨rfl, rfl⟩ ⟨by decide, by decide⟩ (fun _ _ q => by obtain ⟨_, rfl⟩ := q; first | with_reducible rfl | (rw [HP_len, HP_len]; done) | rfl) (fun rv9 h9 q9 => ?_)
          obtain ⟨rfl, rfl⟩ := q9
          refine Rch.call 0 (t_X7_takeIfBetter__1 A B c K s L _ _ _ _) rfl rfl g_X7_36 om_X7_takeIfBetter rfl (fun _ _ _ q => q) rfl rfl rfl rfl ⟨rfl, rfl⟩ ⟨by decide, by decide⟩ (fun _ _ q => by obtain ⟨_, rfl⟩ := q; first | with_reducible rfl | (rw [HP_len, HP_len]; done) | rfl) (fun rv9 h9 q9 => ?_)
          obtain ⟨rfl, rfl⟩ := q9
          refine Rch.go rfl ?_
          refine Rch.mono (k2 _) (fun τ hτ => ?_)
          rw [hτ, show upi c (n + 1) (upo c n) (t + 1) = up2 c (n + 1) t (up1 c (n + 1) t (upi c (n + 1) (upo c n) t)) from rfl, e1]
          rfl
      · exact Rch.rf ⟨_, rfl, rfl⟩
    · rintro τ ⟨ls, rfl, rfl⟩
      refine Rch.i_ge rfl (fun _ => ?_) (fun z => absurd (by decide) z)
      refine Rch.go rfl ?_
      refine Rch.wp [0, 1, 2, 3, 4, 5] rfl rfl (Rch.rf ?_)
      rw [nI_1]
      rfl
  · refine Rch.i_gt rfl (fun _ => ?_) (fun z => absurd (nI_lt (by omega) (by omega)) z)
    exact Rch.rv rfl rfl (by decide) (by decide) ⟨rfl, rfl⟩
theorem t_X7_takeIfBetter__2 (A B : US) (c : FA) (K : KS) (s : FA) (L : LS9) (U : US) (t ch li : Int32) : Ct m_X7_takeIfBetter X0 [.ref 16, .int t, .int ch, .int li] (HP c K s L (uQ A B U)) (fun rv h => rv = none ∧ h = HP c K s L (uQ A B (bet U t ch li))) := by
  refine ⟨ok_X7_takeIfBetter, ?_⟩
  refine Rch.go rfl ?_
  refine Rch.abs rfl (by decide +kernel) rfl rfl rfl (by decide) (by decide) ?_
  refine Rch.go rfl ?_
  refine Rch.abs rfl (by decide +kernel) rfl rfl rfl (by decide) (by decide) ?_
  refine Rch.i_ge rfl (fun z => ?_) (fun z => ?_)
  · rw [show bet U t ch li = U from if_neg (Int32.not_lt.mpr z)]
    exact Rch.rv rfl rfl (by decide) (by decide) ⟨rfl, rfl⟩
  · rw [show bet U t ch li = _ from if_pos (nle_lt z)]
    refine Rch.go rfl ?_
    exact Rch.rv rfl rfl (by decide) (by decide) ⟨rfl, rfl⟩
theorem t_X7_init__2 (A B : US) (c : FA) (K : KS) (s : FA) (L : LS9) {N : Nat} (hN : N ≤ 100) : Ct m_X7_init X0 [.ref 16, .ref 1, .int (nI N)] (HP c K s L (uQ A B (0, 0, 0))) (fun rv h => rv = none ∧ h = HP c K s L (uQ A B (upo c N))) := by
  refine ⟨ok_X7_init, ?_⟩
  refine Rch.go rfl ?_
  refine Rch.oi rfl (by decide +kernel) rfl rfl rfl ?_
  refine Rch.go rfl ?_
  refine Rch.call 0 (t_X6_listMoment c K s L _) rfl rfl g_X7_9 om_X6_listMoment rfl (fun _ _ _ q => q) rfl rfl rfl rfl ⟨rfl, rfl⟩ ⟨by decide, by decide⟩ (fun _ _ q => by obtain ⟨_, rfl⟩ := q; first | with_reducible rfl | (rw [HP_len, HP_len]; done) | rfl) (fun rv9 h9 q9 => ?_)
  obtain ⟨rfl, rfl⟩ := q9
  refine Rch.go rfl ?_
  refine Rch.call 0 (t_X6_weight c K s L _) rfl rfl g_X7_15 om_X6_weight rfl (fun _ _ _ q => q) rfl rfl rfl rfl ⟨rfl, rfl⟩ ⟨by decide, by decide⟩ (fun _ _ q => by obtain ⟨_, rfl⟩ := q; first | with_reducible rfl | (rw [HP_len, HP_len]; done) | rfl) (fun rv9 h9 q9 => ?_)
  obtain ⟨rfl, rfl⟩ := q9
  refine Rch.go rfl ?_
  refine Rch.call 1 (t_X6_listOf _ _ _) rfl rfl g_X7_18 om_X6_listOf rfl (fun _ _ _ q => q) rfl rfl rfl rfl ⟨rfl, rfl⟩ ⟨by decide, by decide⟩ (fun _ _ q => by obtain ⟨_, rfl⟩ := q; first | with_reducible rfl | (rw [HP_len, HP_len]; done) | rfl) (fun rv9 h9 q9 => ?_)
  obtain ⟨rfl, rfl⟩ := q9
  refine Rch.go rfl ?_
  refine Rch.for N (fun n => (31, [(0, .ref 16), (1, .ref 1), (2, .int (nI N)), (3, .int (lmo c)), (4, .int (wgt c)), (5, .int (nI (n + 1)))], [.int (nI N), .int (nI (n + 1))], HP c K s L (uQ A B (upo c n)), 0, 0)) (fun n hn => ?_) ?_ 0 (by omega)
  · refine Rch.i_gt rfl (fun z => absurd z (nI_nlt (by omega) (by omega))) (fun _ => ?_)
    refine Rch.go rfl ?_
    refine Rch.tr (Ψ := fun τ => ∃ ls, τ = (41, (0, .ref 16) :: (1, .ref 1) :: (2, .int (nI N)) :: (3, .int (lmo c)) :: (4, .int (wgt c)) :: (5, .int (nI (n + 1))) :: ls, [.int 8, .int 8], HP c K s L (uQ A B (upi c (n + 1) (upo c n) 8)), 0, 0) ∧ ls = [(6, .int 8)]) ?_ ?_
    · refine Rch.for 8 (fun t => (41, [(0, .ref 16), (1, .ref 1), (2, .int (nI N)), (3, .int (lmo c)), (4, .int (wgt c)), (5, .int (nI (n + 1))), (6, .int (nI t))], [.int 8, .int (nI t)], HP c K s L (uQ A B (upi c (n + 1) (upo c n) t)), 0, 0)) (fun t ht => ?_) ?_ 0 (by omega)
      · refine Rch.i_ge rfl (fun z => absurd z (lo_in ht (by decide))) (fun _ => ?_)
        refine Rch.go rfl ?_
        refine Rch.call 0 (t_X6_at c K s L _ (zadd t) (by omega)) rfl rfl g_X7_28 om_X6_at rfl (fun _ _ _ q => q) rfl rfl rfl rfl ⟨rfl, rfl⟩ ⟨by decide, by decide⟩ (fun _ _ q => by obtain ⟨_, rfl⟩ := q; first | with_reducible rfl | (rw [HP_len, HP_len]; done) | rfl) (fun rv9 h9 q9 => ?_)
        obtain ⟨rfl, rfl⟩ := q9
        refine Rch.go rfl ?_
        refine Rch.xa rfl rfl rfl (nI_rem (d := 2) (by omega) (by decide)) (by omega) (by decide) ?_
        refine Rch.go rfl ?_
        have k2 : ∀ U : US, Rch m_X7_init X0 (102, [(0, .ref 16), (1, .ref 1), (2, .int (nI N)), (3, .int (lmo c)), (4, .int (wgt c)), (5, .int (nI (n + 1))), (6, .int (nI t)), (7, .int (c t)), (8, .int (nI (n + 1) * sidA (t % 2)))], [.int (c t - nI (n + 1))], HP c K s L (uQ A B U), 0, 0) (fun τ => τ = (41, [(0, .ref 16), (1, .ref 1), (2, .int (nI N)), (3, .int (lmo c)), (4, .int (wgt c)), (5, .int (nI (n + 1))), (6, .int (nI (t + 1)))], [.int 8, .int (nI (t + 1))], HP c K s L (uQ A B (up2 c (n + 1) t U)), 0, 0)) := by
          intro U
          refine Rch.z_lt rfl (fun z => ?_) (fun z => ?_)
          · rw [show up2 c (n + 1) t U = _ from if_pos z]
            refine Rch.go rfl ?_
            refine Rch.wp [0, 1, 2, 3, 4, 5, 6] rfl rfl (Rch.rf ?_)
            rw [nI_1]
            rfl
          · rw [show up2 c (n + 1) t U = _ from if_neg z]
            refine Rch.go rfl ?_
            refine Rch.call 1 (t_X6_listOf _ _ _) rfl rfl g_X7_18 om_X6_listOf rfl (fun _ _ _ q => q) rfl rfl rfl rfl ⟨rfl, rfl⟩ ⟨by decide, by decide⟩ (fun _ _ q => by obtain ⟨_, rfl⟩ := q; first | with_reducible rfl | (rw [HP_len, HP_len]; done) | rfl) (fun rv9 h9 q9 => ?_)
            obtain ⟨rfl, rfl⟩ := q9
            refine Rch.call 0 (t_X7_takeIfBetter__2 A B c K s L U _ _ _) rfl rfl g_X7_36 om_X7_takeIfBetter rfl (fun _ _ _ q => q) rfl rfl rfl rfl ⟨rfl, rfl⟩ ⟨by decide, by decide⟩ (fun _ _ q => by obtain ⟨_, rfl⟩ := q; first | with_reducible rfl | (rw [HP_len, HP_len]; done) | rfl) (fun rv9 h9 q9 => ?_)
            obtain ⟨rfl, rfl⟩ := q9
            refine Rch.go rfl ?_
            refine Rch.wp [0, 1, 2, 3, 4, 5, 6] rfl rfl (Rch.rf ?_)
            rw [nI_1]
            rfl
        refine Rch.i_gt rfl (fun z => ?_) (fun z => ?_)
        · refine Rch.go rfl ?_
          have e1 : up1 c (n + 1) t (upi c (n + 1) (upo c n) t) = upi c (n + 1) (upo c n) t := if_neg (Int32.not_le.mpr z)
          refine Rch.mono (k2 (upi c (n + 1) (upo c n) t)) (fun τ hτ => ?_)
          rw [hτ, show upi c (n + 1) (upo c n) (t + 1) = up2 c (n + 1) t (up1 c (n + 1) t (upi c (n + 1) (upo c n) t)) from rfl, e1]
        · have e1 : up1 c (n + 1) t (upi c (n + 1) (upo c n) t) = _ := if_pos (nlt_le z)
          refine Rch.go rfl ?_
          refine Rch.call 1 (t_X6_listOf _ _ _) rfl rfl g_X7_18 om_X6_listOf rfl (fun _ _ _ q => q) rfl rfl rfl rfl ⟨rfl, rfl⟩ ⟨by decide, by decide⟩ (fun _ _ q => by obtain ⟨_, rfl⟩ := q; first | with_reducible rfl | (rw [HP_len, HP_len]; done) | rfl) (fun rv9 h9 q9 => ?_)
          obtain ⟨rfl, rfl⟩ := q9
          refine Rch.call 0 (t_X7_takeIfBetter__2 A B c K s L _ _ _ _) rfl rfl g_X7_36 om_X7_takeIfBetter rfl (fun _ _ _ q => q) rfl rfl rfl rfl ⟨rfl, rfl⟩ ⟨by decide, by decide⟩ (fun _ _ q => by obtain ⟨_, rfl⟩ := q; first | with_reducible rfl | (rw [HP_len, HP_len]; done) | rfl) (fun rv9 h9 q9 => ?_)
          obtain ⟨rfl, rfl⟩ := q9
          refine Rch.go rfl ?_
          refine Rch.mono (k2 _) (fun τ hτ => ?_)
          rw [hτ, show upi c (n + 1) (upo c n) (t + 1) = up2 c (n + 1) t (up1 c (n + 1) t (upi c (n + 1) (upo c n) t)) from rfl, e1]
          rfl
      · exact Rch.rf ⟨_, rfl, rfl⟩
    · rintro τ ⟨ls, rfl, rfl⟩
      refine Rch.i_ge rfl (fun _ => ?_) (fun z => absurd (by decide) z)
      refine Rch.go rfl ?_
      refine Rch.wp [0, 1, 2, 3, 4, 5] rfl rfl (Rch.rf ?_)
      rw [nI_1]
      rfl
  · refine Rch.i_gt rfl (fun _ => ?_) (fun z => absurd (nI_lt (by omega) (by omega)) z)
    exact Rch.rv rfl rfl (by decide) (by decide) ⟨rfl, rfl⟩
end UP
