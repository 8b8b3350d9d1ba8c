/-! ===== the law: the barge is so ===== -/
section LB
theorem t_L_isBargeSo (c : FA) (K : KS) (s : FA) (L : LS9) {B : Nat} (h : Gdz B c) : Ct m_L_isBargeSo X0 [.ref 0] (HP c K s L []) (fun rv h9 => rv = some (.int 1) ∧ h9 = HP c K s L []) := by
  have hR := h.1
  refine ⟨ok_L_isBargeSo, ?_⟩
  refine Rch.go rfl ?_
  refine Rch.for 8 (fun n => (22, [(0, .ref 0), (1, .int (fs 0 c n)), (2, .int (fs 0 (fun t => c (16 + t)) n)), (3, .int (lz3 c n)), (4, .int (lz4 c n)), (5, .int (ozz (opn c 5) n)), (6, .int 1), (7, .int (nI n))], [.int 8, .int (nI n)], HP c K s L [], 0, 0)) (fun n hn => ?_) ?_ 0 (by omega)
  · refine Rch.i_ge rfl (fun z => absurd z (lo_in hn (by decide))) (fun _ => ?_)
    refine Rch.go rfl ?_
    refine Rch.call 0 (t_X8_tank c K s L [] _ _) rfl rfl g_L_45 om_X8_tank rfl (fun _ _ _ q => q) rfl rfl rfl rfl ⟨rfl, rfl⟩ ⟨by decide, by decide⟩ (fun _ _ q => by obtain ⟨_, rfl⟩ := q; first | with_reducible rfl | (rw [HP_len, HP_len]; done) | rfl) (fun rv9 h9 q9 => ?_)
    obtain ⟨rfl, rfl⟩ := q9
    rw [tnk_0 hn]
    refine Rch.go rfl ?_
    refine Rch.eq (τ := (46, [(0, .ref 0), (1, .int (fs 0 c n)), (2, .int (fs 0 (fun t => c (16 + t)) n)), (3, .int (lz3 c n)), (4, .int (lz4 c n)), (5, .int (ozz (opn c 5) n)), (6, .int 1), (7, .int (nI n)), (8, .int (c n)), (9, .int (grw c (nI n) 0)), (10, .int (if bt (opn c 0) n then 1 else 0)), (11, .int (nI 0))], [.int 5, .int (nI 0)], HP c K s L [], 0, 0)) (by rw [show opn c 0 = 0 from rfl, if_neg (bt_0 hn)]; rfl) ?_
    refine Rch.for 5 (fun g => (46, [(0, .ref 0), (1, .int (fs 0 c n)), (2, .int (fs 0 (fun t => c (16 + t)) n)), (3, .int (lz3 c n)), (4, .int (lz4 c n)), (5, .int (ozz (opn c 5) n)), (6, .int 1), (7, .int (nI n)), (8, .int (c n)), (9, .int (grw c (nI n) g)), (10, .int (if bt (opn c g) n then 1 else 0)), (11, .int (nI g))], [.int 5, .int (nI g)], HP c K s L [], 0, 0)) (fun g hg => ?_) ?_ 0 (by omega)
    · refine Rch.i_ge rfl (fun z => absurd z (lo_in hg (by decide))) (fun _ => ?_)
      refine Rch.go rfl ?_
      refine Rch.call 0 (t_X8_group c K s L [] _ _) rfl rfl g_L_48 om_X8_group rfl (fun _ _ _ q => q) rfl rfl rfl rfl ⟨rfl, rfl⟩ ⟨by decide, by decide⟩ (fun _ _ q => by obtain ⟨_, rfl⟩ := q; first | with_reducible rfl | (rw [HP_len, HP_len]; done) | rfl) (fun rv9 h9 q9 => ?_)
      obtain ⟨rfl, rfl⟩ := q9
      rw [grp_0 hg]
      refine Rch.go rfl ?_
      have ob := opn_bt (c := c) g n
      have fin : ∀ (gv : Int32) (v10 : Int32) (v12 : Int32), gv = grw c (nI n) (g + 1) → v10 = (if bt (opn c (g + 1)) n then 1 else 0) → Rch m_L_isBargeSo X0 (116, [(0, .ref 0), (1, .int (fs 0 c n)), (2, .int (fs 0 (fun t => c (16 + t)) n)), (3, .int (lz3 c n)), (4, .int (lz4 c n)), (5, .int (ozz (opn c 5) n)), (6, .int 1), (7, .int (nI n)), (8, .int (c n)), (9, .int gv), (10, .int (if bt (opn c g) n then 1 else 0)), (11, .int (nI g)), (12, .int v12)], [.int v10], HP c K s L [], 0, 0) (fun τ => τ = (46, [(0, .ref 0), (1, .int (fs 0 c n)), (2, .int (fs 0 (fun t => c (16 + t)) n)), (3, .int (lz3 c n)), (4, .int (lz4 c n)), (5, .int (ozz (opn c 5) n)), (6, .int 1), (7, .int (nI n)), (8, .int (c n)), (9, .int (grw c (nI n) (g + 1))), (10, .int (if bt (opn c (g + 1)) n then 1 else 0)), (11, .int (nI (g + 1)))], [.int 5, .int (nI (g + 1))], HP c K s L [], 0, 0)) := by
        intro gv v10 v12 e1 e2
        subst e1
        subst e2
        refine Rch.go rfl ?_
        refine Rch.wp [0, 1, 2, 3, 4, 5, 6, 7, 8, 9, 10, 11] rfl rfl (Rch.rf ?_)
        rw [nI_1]
        rfl
      refine Rch.i_ne rfl (fun z => ?_) (fun z => ?_)
      · have eg : grw c (nI n) g ||| (1 <<< (nI g &&& 31)) = grw c (nI n) (g + 1) := (if_pos z).symm
        refine Rch.go rfl ?_
        refine Rch.z_eq rfl (fun q => absurd q (by decide)) (fun _ => ?_)
        refine Rch.go rfl ?_
        by_cases y : bt (opn c g) n
        · refine Rch.z_ne rfl (fun q => absurd y (i0 q)) (fun _ => ?_)
          refine Rch.st 2 rfl ?_
          exact fin _ _ _ eg (if_pos (ob.mpr (Or.inl y))).symm
        · refine Rch.z_ne rfl (fun _ => ?_) (fun q => absurd (i1 q) y)
          refine Rch.go rfl ?_
          refine Rch.z_eq rfl (fun q => absurd q (by decide)) (fun _ => ?_)
          refine Rch.go rfl ?_
          refine Rch.call 0 (t_X8_group c K s L [] _ _) rfl rfl g_L_48 om_X8_group rfl (fun _ _ _ q => q) rfl rfl rfl rfl ⟨rfl, rfl⟩ ⟨by decide, by decide⟩ (fun _ _ q => by obtain ⟨_, rfl⟩ := q; first | with_reducible rfl | (rw [HP_len, HP_len]; done) | rfl) (fun rv9 h9 q9 => ?_)
          obtain ⟨rfl, rfl⟩ := q9
          rw [grp_1 hg]
          refine Rch.go rfl ?_
          refine Rch.i_ne rfl (fun o => ?_) (fun o => ?_)
          · refine Rch.st 2 rfl ?_
            exact fin _ _ _ eg (if_pos (ob.mpr (Or.inr ⟨o, z⟩))).symm
          · refine Rch.st 1 rfl ?_
            exact fin _ _ _ eg (if_neg (fun q => (ob.mp q).elim y (fun q => o q.1))).symm
      · have eg : grw c (nI n) g ||| 0 = grw c (nI n) (g + 1) := by rw [or_0z]; exact (if_neg z).symm
        refine Rch.go rfl ?_
        refine Rch.z_eq rfl (fun _ => ?_) (fun q => absurd rfl q)
        refine Rch.go rfl ?_
        by_cases y : bt (opn c g) n
        · refine Rch.z_ne rfl (fun q => absurd y (i0 q)) (fun _ => ?_)
          refine Rch.st 2 rfl ?_
          exact fin _ _ _ eg (if_pos (ob.mpr (Or.inl y))).symm
        · refine Rch.z_ne rfl (fun _ => ?_) (fun q => absurd (i1 q) y)
          refine Rch.go rfl ?_
          refine Rch.z_eq rfl (fun _ => ?_) (fun q => absurd rfl q)
          refine Rch.st 1 rfl ?_
          exact fin _ _ _ eg (if_neg (fun q => (ob.mp q).elim y (fun q => z q.2))).symm
    · refine Rch.i_ge rfl (fun _ => ?_) (fun z => absurd (lo_out (by decide)) z)
      refine Rch.go rfl ?_
      refine Rch.call 0 (t_X8_tank c K s L [] _ _) rfl rfl g_L_45 om_X8_tank rfl (fun _ _ _ q => q) rfl rfl rfl rfl ⟨rfl, rfl⟩ ⟨by decide, by decide⟩ (fun _ _ q => by obtain ⟨_, rfl⟩ := q; first | with_reducible rfl | (rw [HP_len, HP_len]; done) | rfl) (fun rv9 h9 q9 => ?_)
      obtain ⟨rfl, rfl⟩ := q9
      rw [tnk_6 hn]
      refine Rch.go rfl ?_
      have hw := hR.w hn
      have hs := hR.s hn
      have fin : ∀ w : Int32, ozz (opn c 5) n ||| w = ozz (opn c 5) (n + 1) → Rch m_L_isBargeSo X0 (155, [(0, .ref 0), (1, .int (fs 0 c n + c n)), (2, .int (fs 0 (fun t => c (16 + t)) n + c (16 + n))), (3, .int (lz3 c n)), (4, .int (lz4 c n)), (5, .int (ozz (opn c 5) n)), (6, .int 1), (7, .int (nI n)), (8, .int (c n)), (9, .int (grw c (nI n) 5)), (10, .int (if bt (opn c 5) n then 1 else 0)), (11, .int (nI 5))], [.int w, .int (ozz (opn c 5) n)], HP c K s L [], 0, 0) (fun τ => τ = (22, [(0, .ref 0), (1, .int (fs 0 c (n + 1))), (2, .int (fs 0 (fun t => c (16 + t)) (n + 1))), (3, .int (lz3 c (n + 1))), (4, .int (lz4 c (n + 1))), (5, .int (ozz (opn c 5) (n + 1))), (6, .int 1), (7, .int (nI (n + 1)))], [.int 8, .int (nI (n + 1))], HP c K s L [], 0, 0)) := by
        intro w e1
        refine Rch.go rfl ?_
        rw [e1]
        refine Rch.div rfl (by decide) ?_
        refine Rch.go rfl ?_
        refine Rch.z_eq rfl (fun q => absurd q (by decide)) (fun _ => ?_)
        refine Rch.go rfl ?_
        refine Rch.z_lt rfl (fun q => absurd (pzlt.mp q) (by rw [show (0 : Int32).toInt = 0 from rfl]; omega)) (fun _ => ?_)
        refine Rch.go rfl ?_
        refine Rch.i_gt rfl (fun q => absurd (pzlt.mp q) (by rw [show (100 : Int32).toInt = 100 from rfl]; omega)) (fun _ => ?_)
        refine Rch.go rfl ?_
        refine Rch.call 0 (t_X8_tank c K s L [] _ _) rfl rfl g_L_45 om_X8_tank rfl (fun _ _ _ q => q) rfl rfl rfl rfl ⟨rfl, rfl⟩ ⟨by decide, by decide⟩ (fun _ _ q => by obtain ⟨_, rfl⟩ := q; first | with_reducible rfl | (rw [HP_len, HP_len]; done) | rfl) (fun rv9 h9 q9 => ?_)
        obtain ⟨rfl, rfl⟩ := q9
        rw [tnk_3 hn]
        refine Rch.go rfl ?_
        refine Rch.i_ne rfl (fun _ => ?_) (fun q => absurd rfl q)
        refine Rch.go rfl ?_
        refine Rch.call 0 (t_X8_tank c K s L [] _ _) rfl rfl g_L_45 om_X8_tank rfl (fun _ _ _ q => q) rfl rfl rfl rfl ⟨rfl, rfl⟩ ⟨by decide, by decide⟩ (fun _ _ q => by obtain ⟨_, rfl⟩ := q; first | with_reducible rfl | (rw [HP_len, HP_len]; done) | rfl) (fun rv9 h9 q9 => ?_)
        obtain ⟨rfl, rfl⟩ := q9
        rw [tnk_2 hn]
        refine Rch.go rfl ?_
        have go : ∀ v : Int32, v = (if bt (opn c 5) n then 1 else 0) → Rch m_L_isBargeSo X0 (236, [(0, .ref 0), (1, .int (fs 0 c n + c n)), (2, .int (fs 0 (fun t => c (16 + t)) n + c (16 + n))), (3, .int (lz3 c n + c n * (20 * (nI n / 2) - 30))), (4, .int (lz4 c n + c n * (8 * (nI n - nI n / 2 * 2) - 4))), (5, .int (ozz (opn c 5) (n + 1))), (6, .int 1), (7, .int (nI n)), (8, .int (c n)), (9, .int (grw c (nI n) 5)), (10, .int (if bt (opn c 5) n then 1 else 0)), (11, .int (nI 5))], [.int v], HP c K s L [], 0, 0) (fun τ => τ = (22, [(0, .ref 0), (1, .int (fs 0 c (n + 1))), (2, .int (fs 0 (fun t => c (16 + t)) (n + 1))), (3, .int (lz3 c (n + 1))), (4, .int (lz4 c (n + 1))), (5, .int (ozz (opn c 5) (n + 1))), (6, .int 1), (7, .int (nI (n + 1)))], [.int 8, .int (nI (n + 1))], HP c K s L [], 0, 0)) := by
          intro v e2
          refine Rch.go rfl ?_
          refine Rch.i_ne rfl (fun _ => ?_) (fun q => absurd e2 q)
          refine Rch.go rfl ?_
          refine Rch.call 0 (t_X8_tank c K s L [] _ _) rfl rfl g_L_45 om_X8_tank rfl (fun _ _ _ q => q) rfl rfl rfl rfl ⟨rfl, rfl⟩ ⟨by decide, by decide⟩ (fun _ _ q => by obtain ⟨_, rfl⟩ := q; first | with_reducible rfl | (rw [HP_len, HP_len]; done) | rfl) (fun rv9 h9 q9 => ?_)
          obtain ⟨rfl, rfl⟩ := q9
          rw [tnk_4 hn]
          refine Rch.go rfl ?_
          refine Rch.i_gt rfl (fun q => absurd (pzlt.mp q) (by rw [show (3 : Int32).toInt = 3 from rfl]; omega)) (fun _ => ?_)
          refine Rch.go rfl ?_
          refine Rch.wp [0, 1, 2, 3, 4, 5, 6, 7] rfl rfl (Rch.rf ?_)
          rw [nI_1]
          rfl
        by_cases y : bt (opn c 5) n
        · refine Rch.i_ne rfl (fun _ => ?_) (fun q => absurd (if_pos y) q)
          refine Rch.st 2 rfl ?_
          exact go 1 (if_pos y).symm
        · refine Rch.i_ne rfl (fun q => absurd ((if_neg y).symm.trans q) (by decide)) (fun _ => ?_)
          refine Rch.st 1 rfl ?_
          exact go 0 (if_neg y).symm
      by_cases y : bt (opn c 5) n
      · refine Rch.z_eq rfl (fun q => absurd y (i0 q)) (fun _ => ?_)
        refine Rch.st 4 rfl ?_
        exact fin _ (by show _ = ozz (opn c 5) n ||| (if bt (opn c 5) n then 1 <<< (nI n &&& 31) else 0); rw [if_pos y])
      · refine Rch.z_eq rfl (fun _ => ?_) (fun q => absurd (i1 q) y)
        refine Rch.st 1 rfl ?_
        exact fin _ (by show _ = ozz (opn c 5) n ||| (if bt (opn c 5) n then 1 <<< (nI n &&& 31) else 0); rw [if_neg y])
  · refine Rch.i_ge rfl (fun _ => ?_) (fun z => absurd (lo_out (by decide)) z)
    refine Rch.go rfl ?_
    refine Rch.for 3 (fun n => (278, [(0, .ref 0), (1, .int (fs 0 c 8)), (2, .int (fs 0 (fun t => c (16 + t)) 8)), (3, .int (lh3 c n)), (4, .int (lh4 c n)), (5, .int (ozz (opn c 5) 8)), (6, .int 1), (7, .int (lh7 c n)), (8, .int (nI n))], [.int 3, .int (nI n)], HP c K s L [], 0, 0)) (fun n hn => ?_) ?_ 0 (by omega)
    · refine Rch.i_ge rfl (fun z => absurd z (lo_in hn (by decide))) (fun _ => ?_)
      have hf := hR.f hn
      refine Rch.go rfl ?_
      refine Rch.call 0 (t_X8_hold c K s L [] _ _) rfl rfl g_L_51 om_X8_hold rfl (fun _ _ _ q => q) rfl rfl rfl rfl ⟨rfl, rfl⟩ ⟨by decide, by decide⟩ (fun _ _ q => by obtain ⟨_, rfl⟩ := q; first | with_reducible rfl | (rw [HP_len, HP_len]; done) | rfl) (fun rv9 h9 q9 => ?_)
      obtain ⟨rfl, rfl⟩ := q9
      rw [hld_0 hn]
      refine Rch.go rfl ?_
      refine Rch.call 0 (t_X8_hold c K s L [] _ _) rfl rfl g_L_51 om_X8_hold rfl (fun _ _ _ q => q) rfl rfl rfl rfl ⟨rfl, rfl⟩ ⟨by decide, by decide⟩ (fun _ _ q => by obtain ⟨_, rfl⟩ := q; first | with_reducible rfl | (rw [HP_len, HP_len]; done) | rfl) (fun rv9 h9 q9 => ?_)
      obtain ⟨rfl, rfl⟩ := q9
      rw [hld_1 hn]
      refine Rch.go rfl ?_
      refine Rch.z_eq rfl (fun q => absurd q (by decide)) (fun _ => ?_)
      refine Rch.go rfl ?_
      refine Rch.call 0 (t_X8_hold c K s L [] _ _) rfl rfl g_L_51 om_X8_hold rfl (fun _ _ _ q => q) rfl rfl rfl rfl ⟨rfl, rfl⟩ ⟨by decide, by decide⟩ (fun _ _ q => by obtain ⟨_, rfl⟩ := q; first | with_reducible rfl | (rw [HP_len, HP_len]; done) | rfl) (fun rv9 h9 q9 => ?_)
      obtain ⟨rfl, rfl⟩ := q9
      rw [hld_1 hn]
      refine Rch.call 1 (t_L_size _ _) rfl rfl g_L_54 om_L_size rfl (fun _ _ _ q => q) rfl rfl rfl rfl ⟨rfl, rfl⟩ ⟨by decide, by decide⟩ (fun _ _ q => by obtain ⟨_, rfl⟩ := q; first | with_reducible rfl | (rw [HP_len, HP_len]; done) | rfl) (fun rv9 h9 q9 => ?_)
      obtain ⟨rfl, rfl⟩ := q9
      refine Rch.go rfl ?_
      refine Rch.i_gt rfl (fun q => absurd (pzlt.mp q) (by rw [abi_in _ (by omega), show (3 : Int32).toInt = 3 from rfl]; split <;> omega)) (fun _ => ?_)
      refine Rch.go rfl ?_
      refine Rch.wp [0, 1, 2, 3, 4, 5, 6, 7, 8] rfl rfl (Rch.rf ?_)
      rw [nI_1]
      rfl
    · refine Rch.i_ge rfl (fun _ => ?_) (fun z => absurd (lo_out (by decide)) z)
      obtain ⟨N, hN⟩ := h.2.2.1
      rw [lh7_e, lh3_e c 0, lh4_e, ozz_opn hR]
      refine Rch.go rfl ?_
      refine Rch.z_eq rfl (fun q => absurd q (by decide)) (fun _ => ?_)
      refine Rch.go rfl ?_
      refine Rch.call 0 (t_X8_count c K s L [] _) rfl rfl g_L_57 om_X8_count rfl (fun _ _ _ q => q) rfl rfl rfl rfl ⟨rfl, rfl⟩ ⟨by decide, by decide⟩ (fun _ _ q => by obtain ⟨_, rfl⟩ := q; first | with_reducible rfl | (rw [HP_len, HP_len]; done) | rfl) (fun rv9 h9 q9 => ?_)
      obtain ⟨rfl, rfl⟩ := q9
      refine Rch.i_ne rfl (fun _ => ?_) (fun q => absurd (cou_6 c _ _).symm q)
      refine Rch.go rfl ?_
      refine Rch.call 0 (t_X8_count c K s L [] _) rfl rfl g_L_57 om_X8_count rfl (fun _ _ _ q => q) rfl rfl rfl rfl ⟨rfl, rfl⟩ ⟨by decide, by decide⟩ (fun _ _ q => by obtain ⟨_, rfl⟩ := q; first | with_reducible rfl | (rw [HP_len, HP_len]; done) | rfl) (fun rv9 h9 q9 => ?_)
      obtain ⟨rfl, rfl⟩ := q9
      refine Rch.i_ne rfl (fun _ => ?_) (fun q => absurd (cou_0 c _ _).symm q)
      refine Rch.go rfl ?_
      refine Rch.call 0 (t_X8_count c K s L [] _) rfl rfl g_L_57 om_X8_count rfl (fun _ _ _ q => q) rfl rfl rfl rfl ⟨rfl, rfl⟩ ⟨by decide, by decide⟩ (fun _ _ q => by obtain ⟨_, rfl⟩ := q; first | with_reducible rfl | (rw [HP_len, HP_len]; done) | rfl) (fun rv9 h9 q9 => ?_)
      obtain ⟨rfl, rfl⟩ := q9
      refine Rch.i_ne rfl (fun _ => ?_) (fun q => absurd (cou_4 c _ _).symm q)
      refine Rch.go rfl ?_
      refine Rch.call 0 (t_X8_count c K s L [] _) rfl rfl g_L_57 om_X8_count rfl (fun _ _ _ q => q) rfl rfl rfl rfl ⟨rfl, rfl⟩ ⟨by decide, by decide⟩ (fun _ _ q => by obtain ⟨_, rfl⟩ := q; first | with_reducible rfl | (rw [HP_len, HP_len]; done) | rfl) (fun rv9 h9 q9 => ?_)
      obtain ⟨rfl, rfl⟩ := q9
      refine Rch.i_ne rfl (fun _ => ?_) (fun q => absurd (cou_5 c _ _).symm q)
      refine Rch.go rfl ?_
      refine Rch.call 0 (t_X8_count c K s L [] _) rfl rfl g_L_57 om_X8_count rfl (fun _ _ _ q => q) rfl rfl rfl rfl ⟨rfl, rfl⟩ ⟨by decide, by decide⟩ (fun _ _ q => by obtain ⟨_, rfl⟩ := q; first | with_reducible rfl | (rw [HP_len, HP_len]; done) | rfl) (fun rv9 h9 q9 => ?_)
      obtain ⟨rfl, rfl⟩ := q9
      refine Rch.go rfl ?_
      refine Rch.div rfl (by decide) ?_
      refine Rch.i_ne rfl (fun _ => ?_) (fun q => absurd (cou_1 c _ _) q)
      refine Rch.go rfl ?_
      refine Rch.call 0 (t_X8_count c K s L [] _) rfl rfl g_L_57 om_X8_count rfl (fun _ _ _ q => q) rfl rfl rfl rfl ⟨rfl, rfl⟩ ⟨by decide, by decide⟩ (fun _ _ q => by obtain ⟨_, rfl⟩ := q; first | with_reducible rfl | (rw [HP_len, HP_len]; done) | rfl) (fun rv9 h9 q9 => ?_)
      obtain ⟨rfl, rfl⟩ := q9
      refine Rch.go rfl ?_
      refine Rch.div rfl (wgt_ne hR) ?_
      refine Rch.i_ne rfl (fun _ => ?_) (fun q => absurd ((cou_2 c _ _).trans (lst_e hR)) q)
      refine Rch.go rfl ?_
      refine Rch.call 0 (t_X8_count c K s L [] _) rfl rfl g_L_57 om_X8_count rfl (fun _ _ _ q => q) rfl rfl rfl rfl ⟨rfl, rfl⟩ ⟨by decide, by decide⟩ (fun _ _ q => by obtain ⟨_, rfl⟩ := q; first | with_reducible rfl | (rw [HP_len, HP_len]; done) | rfl) (fun rv9 h9 q9 => ?_)
      obtain ⟨rfl, rfl⟩ := q9
      refine Rch.go rfl ?_
      refine Rch.div rfl (by decide) ?_
      refine Rch.i_ne rfl (fun _ => ?_) (fun q => absurd (cou_3 c _ _) q)
      refine Rch.go rfl ?_
      refine Rch.call 0 (t_X8_count c K s L [] _) rfl rfl g_L_57 om_X8_count rfl (fun _ _ _ q => q) rfl rfl rfl rfl ⟨rfl, rfl⟩ ⟨by decide, by decide⟩ (fun _ _ q => by obtain ⟨_, rfl⟩ := q; first | with_reducible rfl | (rw [HP_len, HP_len]; done) | rfl) (fun rv9 h9 q9 => ?_)
      obtain ⟨rfl, rfl⟩ := q9
      refine Rch.i_ne rfl (fun _ => ?_) (fun q => absurd (cou_14 c _ _).symm q)
      refine Rch.go rfl ?_
      refine Rch.z_eq rfl (fun q => absurd q (by decide)) (fun _ => ?_)
      refine Rch.go rfl ?_
      refine Rch.call 0 (t_X8_count c K s L [] _) rfl rfl g_L_57 om_X8_count rfl (fun _ _ _ q => q) rfl rfl rfl rfl ⟨rfl, rfl⟩ ⟨by decide, by decide⟩ (fun _ _ q => by obtain ⟨_, rfl⟩ := q; first | with_reducible rfl | (rw [HP_len, HP_len]; done) | rfl) (fun rv9 h9 q9 => ?_)
      obtain ⟨rfl, rfl⟩ := q9
      rw [cou_8]
      refine Rch.go rfl ?_
      refine Rch.call 0 (t_X8_count c K s L [] _) rfl rfl g_L_57 om_X8_count rfl (fun _ _ _ q => q) rfl rfl rfl rfl ⟨rfl, rfl⟩ ⟨by decide, by decide⟩ (fun _ _ q => by obtain ⟨_, rfl⟩ := q; first | with_reducible rfl | (rw [HP_len, HP_len]; done) | rfl) (fun rv9 h9 q9 => ?_)
      obtain ⟨rfl, rfl⟩ := q9
      rw [cou_9]
      refine Rch.go rfl ?_
      refine Rch.call 0 (t_X8_count c K s L [] _) rfl rfl g_L_57 om_X8_count rfl (fun _ _ _ q => q) rfl rfl rfl rfl ⟨rfl, rfl⟩ ⟨by decide, by decide⟩ (fun _ _ q => by obtain ⟨_, rfl⟩ := q; first | with_reducible rfl | (rw [HP_len, HP_len]; done) | rfl) (fun rv9 h9 q9 => ?_)
      obtain ⟨rfl, rfl⟩ := q9
      rw [cou_10]
      refine Rch.st 1 rfl ?_
      refine Rch.i_ne rfl (fun _ => ?_) (fun q => absurd h.2.1.e q)
      refine Rch.go rfl ?_
      refine Rch.call 0 (t_X8_count c K s L [] _) rfl rfl g_L_57 om_X8_count rfl (fun _ _ _ q => q) rfl rfl rfl rfl ⟨rfl, rfl⟩ ⟨by decide, by decide⟩ (fun _ _ q => by obtain ⟨_, rfl⟩ := q; first | with_reducible rfl | (rw [HP_len, HP_len]; done) | rfl) (fun rv9 h9 q9 => ?_)
      obtain ⟨rfl, rfl⟩ := q9
      refine Rch.i_ne rfl (fun _ => ?_) (fun q => absurd (cou_10 c _ _).symm q)
      refine Rch.go rfl ?_
      refine Rch.call 0 (t_X8_trimMoment c K s L [] _) rfl rfl g_L_60 om_X8_trimMoment rfl (fun _ _ _ q => q) rfl rfl rfl rfl ⟨rfl, rfl⟩ ⟨by decide, by decide⟩ (fun _ _ q => by obtain ⟨_, rfl⟩ := q; first | with_reducible rfl | (rw [HP_len, HP_len]; done) | rfl) (fun rv9 h9 q9 => ?_)
      obtain ⟨rfl, rfl⟩ := q9
      refine Rch.go rfl ?_
      refine Rch.i_ne rfl (fun _ => ?_) (fun q => absurd (show tri c 0 = tmo c 0 from if_neg (fun q => q (by decide))) q)
      refine Rch.go rfl ?_
      refine Rch.call 0 (t_X8_trimMoment c K s L [] _) rfl rfl g_L_60 om_X8_trimMoment rfl (fun _ _ _ q => q) rfl rfl rfl rfl ⟨rfl, rfl⟩ ⟨by decide, by decide⟩ (fun _ _ q => by obtain ⟨_, rfl⟩ := q; first | with_reducible rfl | (rw [HP_len, HP_len]; done) | rfl) (fun rv9 h9 q9 => ?_)
      obtain ⟨rfl, rfl⟩ := q9
      refine Rch.go rfl ?_
      refine Rch.i_ne rfl (fun _ => ?_) (fun q => absurd ((show tri c (-37) = tmo c (-37) from if_neg (fun q => q (by decide))).trans ((tmo_z c _).trans (tmo_z c _).symm)) q)
      refine Rch.go rfl ?_
      refine Rch.call 0 (t_X8_trimMoment c K s L [] _) rfl rfl g_L_60 om_X8_trimMoment rfl (fun _ _ _ q => q) rfl rfl rfl rfl ⟨rfl, rfl⟩ ⟨by decide, by decide⟩ (fun _ _ q => by obtain ⟨_, rfl⟩ := q; first | with_reducible rfl | (rw [HP_len, HP_len]; done) | rfl) (fun rv9 h9 q9 => ?_)
      obtain ⟨rfl, rfl⟩ := q9
      refine Rch.go rfl ?_
      refine Rch.i_ne rfl (fun _ => ?_) (fun q => absurd ((show tri c 50 = tmo c 50 from if_neg (fun q => q (by decide))).trans ((tmo_z c _).trans (tmo_z c _).symm)) q)
      refine Rch.go rfl ?_
      refine Rch.call 0 (t_X8_count c K s L [] _) rfl rfl g_L_57 om_X8_count rfl (fun _ _ _ q => q) rfl rfl rfl rfl ⟨rfl, rfl⟩ ⟨by decide, by decide⟩ (fun _ _ q => by obtain ⟨_, rfl⟩ := q; first | with_reducible rfl | (rw [HP_len, HP_len]; done) | rfl) (fun rv9 h9 q9 => ?_)
      obtain ⟨rfl, rfl⟩ := q9
      rw [cou_12, hN.1]
      refine Rch.go rfl ?_
      refine Rch.i_gt rfl (fun q => absurd ((nI_ltI (a := 12) (by decide) (by have := hN.2.1; omega)).mp q) (by have := hN.2.1; omega)) (fun _ => ?_)
      refine Rch.go rfl ?_
      exact Rch.ri rfl rfl rfl (by decide) (by decide) ⟨rfl, rfl⟩
end LB
