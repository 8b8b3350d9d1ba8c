/-! ===== the law's other rounds ===== -/
theorem ch_nar (x : Int32) : vp_nar .char ((x.toUInt32 % 65536).toInt32) = (x.toUInt32 % 65536).toInt32 := by
  show ((x.toUInt32 % 65536).toInt32.toUInt32 % 65536).toInt32 = _
  rw [UInt32.toUInt32_toInt32]
  congr 1
  apply UInt32.toNat_inj.mp
  rw [UInt32.toNat_mod, UInt32.toNat_mod]
  exact Nat.mod_mod _ _
section LB
theorem L_keep {n i : Nat} {f : FA} (hi : 4 * i + 4 ≤ n) (hn : n ≤ 2048) {c : FA} {r : Nat → FA} {nx q : Nat} {sn : FA} {hs : Int32} {sg : FA} {t : Nat} {kd bb : FA} {od ex : Int32} {s bf kp : FA} {ik : Int32} {tx : FA} {F : F4} {cc cs : Nat} (h : INV (13000 * i) c r nx q sn hs sg t s bf kp ik tx) (hcc : cc ≤ 19 + i) (hcs : cs ≤ 2220 + 3 * i) : Rch m_L_law (XL n f) (471, lsL i, [], HP c (r, nI nx, nI q, sn, hs, sg, nI t, kd, bb, od, ex) s (bf, nI q, kp, ik, tx, nI t, F) [], cc, cs) (LI n (i + 1) []) := by
  have hC : cc ≤ mC m_L_law ∧ cs ≤ mS m_L_law := ⟨Nat.le_trans hcc (by show 19 + i ≤ 600000; omega), Nat.le_trans hcs (by show 2220 + 3 * i ≤ 7302250; omega)⟩
  obtain ⟨N, hR⟩ := h.1
  have n4 : nI (4 * i) + 4 = nI (4 * (i + 1)) := by rw [show nI (4 * i) + 4 = nI (4 * i + 4) from nI_add _ 4, Nat.mul_succ]
  refine Rch.go rfl ?_
  refine Rch.call 0 (t_X8_keep c r (nI nx) (nI q) sn hs (sg, nI t, kd, bb, od, ex) s (bf, nI q, kp, ik, tx, nI t, F)) rfl rfl g_L_70 om_X8_keep rfl (XL_sub n f) rfl rfl rfl rfl ⟨rfl, rfl⟩ hC (fun _ _ q => by obtain ⟨_, rfl⟩ := q; rfl) (fun rv9 h9 q9 => ?_)
  obtain ⟨rfl, rfl⟩ := q9
  refine Rch.go rfl ?_
  refine Rch.call 0 (t_X9_keep (c, (r, nI nx, nI q, cp c sn, 1, sg, nI t, kd, bb, od, ex)) s bf kp (nI q) ik (tx, nI t, F) []) rfl rfl g_L_73 om_X9_keep rfl (XL_sub n f) rfl rfl rfl rfl ⟨rfl, rfl⟩ hC (fun _ _ q => by obtain ⟨_, rfl⟩ := q; rfl) (fun rv9 h9 q9 => ?_)
  obtain ⟨rfl, rfl⟩ := q9
  have e51 : s 51 = c 156 := by have := hR.2.2.1.1; rwa [Int32.add_zero] at this
  rw [e51]
  refine Rch.i_eq rfl (fun _ => ?_) (fun q => absurd rfl q)
  have g9 : INV (13000 * i + 13000) c r nx q (cp c sn) 1 sg t s bf (cpf s kp 0 0 163) 1 tx := by
    obtain ⟨a1, a2, a3, a4, a5, a6, a7⟩ := h.mono (B' := 13000 * i + 13000) (by omega)
    refine ⟨a1, a2, a3, a4, Or.inr ⟨rfl, rfl, N, (hR.mono (by omega)).congr (fun j hj => if_pos hj) (fun j hj => ?_)⟩, a6, a7⟩
    unfold cpf
    rw [if_pos (by omega)]
    exact congrArg s (by omega)
  refine Rch.go rfl (Rch.rf ⟨c, r, nx, q, cp c sn, 1, sg, t, kd, bb, od, ex, s, bf, cpf s kp 0 0 163, 1, tx, F, cc, cs, by rw [Nat.mul_succ]; exact g9, by omega, by omega, ?_⟩)
  unfold lsL
  rw [← n4]
  rfl
theorem L_clearText {n i : Nat} {f : FA} (hi : 4 * i + 4 ≤ n) (hn : n ≤ 2048) {c : FA} {r : Nat → FA} {nx q : Nat} {sn : FA} {hs : Int32} {sg : FA} {t : Nat} {kd bb : FA} {od ex : Int32} {s bf kp : FA} {ik : Int32} {tx : FA} {F : F4} {cc cs : Nat} (h : INV (13000 * i) c r nx q sn hs sg t s bf kp ik tx) (hcc : cc ≤ 19 + i) (hcs : cs ≤ 2220 + 3 * i) : Rch m_L_law (XL n f) (445, lsL i, [], HP c (r, nI nx, nI q, sn, hs, sg, nI t, kd, bb, od, ex) s (bf, nI q, kp, ik, tx, nI t, F) [], cc, cs) (LI n (i + 1) []) := by
  have hC : cc ≤ mC m_L_law ∧ cs ≤ mS m_L_law := ⟨Nat.le_trans hcc (by show 19 + i ≤ 600000; omega), Nat.le_trans hcs (by show 2220 + 3 * i ≤ 7302250; omega)⟩
  obtain ⟨N, hR⟩ := h.1
  have n4 : nI (4 * i) + 4 = nI (4 * (i + 1)) := by rw [show nI (4 * i) + 4 = nI (4 * i + 4) from nI_add _ 4, Nat.mul_succ]
  refine Rch.go rfl ?_
  refine Rch.call 0 (t_X8_clearText c r (nI nx) (nI q) sn hs sg (nI t) kd bb od ex s (bf, nI q, kp, ik, tx, nI t, F)) rfl rfl g_L_62 om_X8_clearText rfl (XL_sub n f) rfl rfl rfl rfl ⟨rfl, rfl⟩ hC (fun _ _ q => by obtain ⟨_, rfl⟩ := q; rfl) (fun rv9 h9 q9 => ?_)
  obtain ⟨rfl, rfl⟩ := q9
  refine Rch.go rfl ?_
  refine Rch.call 0 (t_X9_clearText (c, (r, nI nx, nI q, sn, hs, sg, 0, kd, bb, od, ex)) s bf kp tx (nI q) ik (nI t) F []) rfl rfl g_L_65 om_X9_clearText rfl (XL_sub n f) rfl rfl rfl rfl ⟨rfl, rfl⟩ hC (fun _ _ q => by obtain ⟨_, rfl⟩ := q; rfl) (fun rv9 h9 q9 => ?_)
  obtain ⟨rfl, rfl⟩ := q9
  refine Rch.i_eq rfl (fun _ => ?_) (fun q => absurd rfl q)
  have g9 : INV (13000 * i + 13000) c r nx q sn hs sg 0 s bf kp ik tx := by
    obtain ⟨a1, a2, a3, a4, a5, a6, a7⟩ := h.mono (B' := 13000 * i + 13000) (by omega)
    exact ⟨a1, a2, a3, a4, a5, by omega, fun j hj => absurd hj (by omega)⟩
  refine Rch.go rfl (Rch.rf ⟨c, r, nx, q, sn, hs, sg, 0, kd, bb, od, ex, s, bf, kp, ik, tx, F, cc, cs, by rw [Nat.mul_succ]; exact g9, by omega, by omega, ?_⟩)
  unfold lsL
  rw [← n4]
  rfl
theorem L_undo {n i : Nat} {f : FA} (hi : 4 * i + 4 ≤ n) (hn : n ≤ 2048) {c : FA} {r : Nat → FA} {nx q : Nat} {sn : FA} {hs : Int32} {sg : FA} {t : Nat} {kd bb : FA} {od ex : Int32} {s bf kp : FA} {ik : Int32} {tx : FA} {F : F4} {cc cs : Nat} (h : INV (13000 * i) c r nx q sn hs sg t s bf kp ik tx) (hcc : cc ≤ 19 + i) (hcs : cs ≤ 2220 + 3 * i) : Rch m_L_law (XL n f) (458, lsL i, [], HP c (r, nI nx, nI q, sn, hs, sg, nI t, kd, bb, od, ex) s (bf, nI q, kp, ik, tx, nI t, F) [], cc, cs) (LI n (i + 1) []) := by
  have hC : cc ≤ mC m_L_law ∧ cs ≤ mS m_L_law := ⟨Nat.le_trans hcc (by show 19 + i ≤ 600000; omega), Nat.le_trans hcs (by show 2220 + 3 * i ≤ 7302250; omega)⟩
  obtain ⟨N, hR⟩ := h.1
  have n4 : nI (4 * i) + 4 = nI (4 * (i + 1)) := by rw [show nI (4 * i) + 4 = nI (4 * i + 4) from nI_add _ 4, Nat.mul_succ]
  by_cases q0 : q = 0
  · refine Rch.go rfl ?_
    refine Rch.call 0 (t_X8_undo c r _ s _ h.2.1 h.2.2.1) rfl rfl g_L_66 om_X8_undo rfl (XL_sub n f) rfl rfl rfl rfl ⟨rfl, rfl⟩ hC (fun _ _ q => by obtain ⟨_, rfl⟩ := q; rw [HP_len, HP_len]) (fun rv9 h9 q9 => ?_)
    obtain ⟨rfl, rfl⟩ := q9
    rw [if_pos q0, if_pos q0, if_pos q0]
    refine Rch.go rfl ?_
    refine Rch.call 0 (t_X9_undo (c, (r, nI nx, nI q, sn, hs, sg, nI t, kd, bb, od, ex)) s bf (kp, ik, tx, nI t, F) [] h.2.2.1) rfl rfl g_L_69 om_X9_undo rfl (XL_sub n f) rfl rfl rfl rfl ⟨rfl, rfl⟩ hC (fun _ _ q => by obtain ⟨_, rfl⟩ := q; rw [HP_len, HP_len]) (fun rv9 h9 q9 => ?_)
    obtain ⟨rfl, rfl⟩ := q9
    rw [if_pos q0, if_pos q0]
    have eq9 : q - 1 = q := by omega
    rw [eq9]
    refine Rch.i_eq rfl (fun _ => ?_) (fun q => absurd rfl q)
    refine Rch.go rfl (Rch.rf ⟨c, r, nx, q, sn, hs, sg, t, kd, bb, od, ex, s, bf, kp, ik, tx, F, cc, cs, by rw [Nat.mul_succ]; exact h.mono (by omega), by omega, by omega, ?_⟩)
    unfold lsL
    rw [← n4]
    rfl
  · refine Rch.go rfl ?_
    refine Rch.call 0 (t_X8_undo c r _ s _ h.2.1 h.2.2.1) rfl rfl g_L_66 om_X8_undo rfl (XL_sub n f) rfl rfl rfl rfl ⟨rfl, rfl⟩ hC (fun _ _ q => by obtain ⟨_, rfl⟩ := q; rw [HP_len, HP_len]) (fun rv9 h9 q9 => ?_)
    obtain ⟨rfl, rfl⟩ := q9
    rw [if_neg q0, if_neg q0, if_neg q0]
    refine Rch.go rfl ?_
    refine Rch.call 0 (t_X9_undo (cp (r ((nx + 3) % 4)) c, (r, nI ((nx + 3) % 4), nI (q - 1), sn, hs, sg, nI t, kd, bb, od, ex)) s bf (kp, ik, tx, nI t, F) [] h.2.2.1) rfl rfl g_L_69 om_X9_undo rfl (XL_sub n f) rfl rfl rfl rfl ⟨rfl, rfl⟩ hC (fun _ _ q => by obtain ⟨_, rfl⟩ := q; rw [HP_len, HP_len]) (fun rv9 h9 q9 => ?_)
    obtain ⟨rfl, rfl⟩ := q9
    rw [if_neg q0, if_neg q0]
    refine Rch.i_eq rfl (fun _ => ?_) (fun q => absurd rfl q)
    refine Rch.go rfl (Rch.rf ⟨_, r, _, _, sn, hs, sg, t, kd, bb, od, ex, _, bf, kp, ik, tx, F, cc, cs, by rw [Nat.mul_succ]; exact (h.back q0).mono (by omega), by omega, by omega, ?_⟩)
    unfold lsL
    rw [← n4]
    rfl
theorem L_restore {n i : Nat} {f : FA} (hi : 4 * i + 4 ≤ n) (hn : n ≤ 2048) {c : FA} {r : Nat → FA} {nx q : Nat} {sn : FA} {hs : Int32} {sg : FA} {t : Nat} {kd bb : FA} {od ex : Int32} {s bf kp : FA} {ik : Int32} {tx : FA} {F : F4} {cc cs : Nat} (h : INV (13000 * i) c r nx q sn hs sg t s bf kp ik tx) (hcc : cc ≤ 19 + i) (hcs : cs ≤ 2220 + 3 * i) : Rch m_L_law (XL n f) (484, lsL i, [], HP c (r, nI nx, nI q, sn, hs, sg, nI t, kd, bb, od, ex) s (bf, nI q, kp, ik, tx, nI t, F) [], cc, cs) (LI n (i + 1) []) := by
  have hC : cc ≤ mC m_L_law ∧ cs ≤ mS m_L_law := ⟨Nat.le_trans hcc (by show 19 + i ≤ 600000; omega), Nat.le_trans hcs (by show 2220 + 3 * i ≤ 7302250; omega)⟩
  obtain ⟨N, hR⟩ := h.1
  have n4 : nI (4 * i) + 4 = nI (4 * (i + 1)) := by rw [show nI (4 * i) + 4 = nI (4 * i + 4) from nI_add _ 4, Nat.mul_succ]
  obtain ⟨h1, h2, h3, h4, h5, h6, h7⟩ := h
  rcases h5 with ⟨rfl, rfl⟩ | ⟨rfl, rfl, N2, hR2⟩
  · refine Rch.go rfl ?_
    refine Rch.call 0 (t_X8_restore c r sn 0 (sg, nI t, kd, bb, od, ex) s _ h2 h3) rfl rfl g_L_74 om_X8_restore rfl (XL_sub n f) rfl rfl rfl rfl ⟨rfl, rfl⟩ hC (fun _ _ q => by obtain ⟨_, rfl⟩ := q; exact hA_len _) (fun rv9 h9 q9 => ?_)
    obtain ⟨rfl, rfl⟩ := q9
    rw [if_pos (rfl : (0 : Int32) = 0), if_pos (rfl : (0 : Int32) = 0), hA_K]
    refine Rch.go rfl ?_
    refine Rch.call 0 (t_X9_restore (Kof c r nx q (sn, 0, sg, nI t, kd, bb, od, ex) (none)) s bf kp 0 (tx, nI t, F) [] h3) rfl rfl g_L_77 om_X9_restore rfl (XL_sub n f) rfl rfl rfl rfl ⟨rfl, rfl⟩ hC (fun _ _ q => by obtain ⟨_, rfl⟩ := q; first | (rw [if_pos rfl]; done) | (rw [if_neg (by decide), HP_len, HP_len]; done) | rfl) (fun rv9 h9 q9 => ?_)
    obtain ⟨rfl, rfl⟩ := q9
    rw [if_pos (rfl : (0 : Int32) = 0), if_pos (rfl : (0 : Int32) = 0)]
    refine Rch.i_eq rfl (fun _ => ?_) (fun q => absurd rfl q)
    refine Rch.go rfl (Rch.rf ⟨c, r, nx, q, sn, 0, sg, t, kd, bb, od, ex, s, bf, kp, 0, tx, F, cc, cs, by rw [Nat.mul_succ]; exact INV.mono ⟨h1, h2, h3, h4, Or.inl ⟨rfl, rfl⟩, h6, h7⟩ (by omega), by omega, by omega, ?_⟩)
    unfold lsL
    rw [← n4]
    rfl
  · refine Rch.go rfl ?_
    refine Rch.call 0 (t_X8_restore c r sn 1 (sg, nI t, kd, bb, od, ex) s _ h2 h3) rfl rfl g_L_74 om_X8_restore rfl (XL_sub n f) rfl rfl rfl rfl ⟨rfl, rfl⟩ hC (fun _ _ q => by obtain ⟨_, rfl⟩ := q; exact hA_len _) (fun rv9 h9 q9 => ?_)
    obtain ⟨rfl, rfl⟩ := q9
    rw [if_neg (show ¬ (1 : Int32) = 0 by decide), if_neg (show ¬ (1 : Int32) = 0 by decide), hA_K]
    refine Rch.go rfl ?_
    refine Rch.call 0 (t_X9_restore (Kof c r nx q (sn, 1, sg, nI t, kd, bb, od, ex) (some (cp sn c))) s bf kp 1 (tx, nI t, F) [] h3) rfl rfl g_L_77 om_X9_restore rfl (XL_sub n f) rfl rfl rfl rfl ⟨rfl, rfl⟩ hC (fun _ _ q => by obtain ⟨_, rfl⟩ := q; first | (rw [if_pos rfl]; done) | (rw [if_neg (by decide), HP_len, HP_len]; done) | rfl) (fun rv9 h9 q9 => ?_)
    obtain ⟨rfl, rfl⟩ := q9
    rw [if_neg (show ¬ (1 : Int32) = 0 by decide), if_neg (show ¬ (1 : Int32) = 0 by decide)]
    have g9 : RR 0 (13000 * i) N2 (cp sn c) (cpf kp s 0 0 163) := hR2.congr (fun j hj => if_pos hj) (fun j hj => by
      unfold cpf
      rw [if_pos (by omega)]
      exact congrArg kp (by omega))
    have e51 : cpf kp s 0 0 163 51 = cp sn c 156 := by have := g9.2.2.1.1; rwa [Int32.add_zero] at this
    rw [e51]
    refine Rch.i_eq rfl (fun _ => ?_) (fun q => absurd rfl q)
    refine Rch.go rfl (Rch.rf ⟨_, _, _, _, sn, 1, sg, t, kd, bb, od, ex, _, _, kp, 1, tx, F, cc, cs, by rw [Nat.mul_succ]; exact (INV.act ⟨h1, h2, h3, h4, Or.inr ⟨rfl, rfl, N2, hR2⟩, h6, h7⟩ g9 (Nat.le_refl _)).mono (by omega), by omega, by omega, ?_⟩)
    unfold lsL
    rw [← n4]
    rfl
theorem L_order {n i : Nat} {f : FA} (hi : 4 * i + 4 ≤ n) (hn : n ≤ 2048) {c : FA} {r : Nat → FA} {nx q : Nat} {sn : FA} {hs : Int32} {sg : FA} {t : Nat} {kd bb : FA} {od ex : Int32} {s bf kp : FA} {ik : Int32} {tx : FA} {F : F4} {cc cs : Nat} (h : INV (13000 * i) c r nx q sn hs sg t s bf kp ik tx) (hcc : cc ≤ 19 + i) (hcs : cs ≤ 2220 + 3 * i) : Rch m_L_law (XL n f) (282, lsL i, [], HP c (r, nI nx, nI q, sn, hs, sg, nI t, kd, bb, od, ex) s (bf, nI q, kp, ik, tx, nI t, F) [], cc, cs) (LI n (i + 1) []) := by
  have hC : cc ≤ mC m_L_law ∧ cs ≤ mS m_L_law := ⟨Nat.le_trans hcc (by show 19 + i ≤ 600000; omega), Nat.le_trans hcs (by show 2220 + 3 * i ≤ 7302250; omega)⟩
  obtain ⟨N, hR⟩ := h.1
  have n4 : nI (4 * i) + 4 = nI (4 * (i + 1)) := by rw [show nI (4 * i) + 4 = nI (4 * i + 4) from nI_add _ 4, Nat.mul_succ]
  refine Rch.go rfl ?_
  refine Rch.xa rfl rfl rfl (nI_add (4 * i) 1) (by omega) (by omega) ?_
  refine Rch.go rfl ?_
  refine Rch.xa rfl rfl rfl (nI_add (4 * i) 2) (by omega) (by omega) ?_
  refine Rch.call 0 (t_X8_order c r _ s _ h.2.1 h.2.2.1 (f (4 * i + 1)) (f (4 * i + 2)) hR.2.2.2.1.1.1 hR.2.2.2.1.1.2.1) rfl rfl g_L_31 om_X8_order rfl (XL_sub n f) rfl rfl rfl rfl ⟨rfl, rfl⟩ hC (fun _ _ q => by by_cases v : ((0 ≤ f (4 * i + 1) ∧ f (4 * i + 1) ≤ 4) ∧ rby (f (4 * i + 1)) (f (4 * i + 2))); exact (congrArg List.length (q.1 v).2).trans (hA_len _); exact congrArg List.length (q.2 v).2) (fun rv9 h9 q9 => ?_)
  obtain ⟨qa, qb⟩ := q9
  by_cases v : ((0 ≤ f (4 * i + 1) ∧ f (4 * i + 1) ≤ 4) ∧ rby (f (4 * i + 1)) (f (4 * i + 2)))
  · obtain ⟨rfl, rfl⟩ := qa v
    rw [hA_K]
    refine Rch.go rfl ?_
    refine Rch.xa rfl rfl rfl (nI_add (4 * i) 1) (by omega) (by omega) ?_
    refine Rch.go rfl ?_
    refine Rch.xa rfl rfl rfl (nI_add (4 * i) 2) (by omega) (by omega) ?_
    refine Rch.call 0 (t_X9_order c _ s bf kp ik tx (nI t) F [] h.2.2.1 hR (by omega) (f (4 * i + 1)) (f (4 * i + 2))) rfl rfl g_L_34 om_X9_order rfl (XL_sub n f) rfl rfl rfl rfl ⟨rfl, rfl⟩ hC (fun _ _ q => by by_cases v : ((0 ≤ f (4 * i + 1) ∧ f (4 * i + 1) ≤ 4) ∧ rby (f (4 * i + 1)) (f (4 * i + 2))); exact (RA_len (q.1 v)).trans (HP_len _ _ _ _ _).symm; exact (RA_len (q.2 v)).trans (HP_len _ _ _ _ _).symm) (fun rv9 h9 q9 => ?_)
    obtain ⟨rfl, c1, r1, n1, q1, s1, bf1, F1, g, rfl⟩ := act_inv h (q9.1 v)
    refine Rch.i_eq rfl (fun _ => ?_) (fun q => absurd rfl q)
    refine Rch.go rfl (Rch.rf ⟨c1, r1, n1, q1, sn, hs, sg, t, kd, bb, od, ex, s1, bf1, kp, ik, tx, F1, cc, cs, by rw [Nat.mul_succ]; exact g, by omega, by omega, ?_⟩)
    unfold lsL
    rw [← n4]
    rfl
  · obtain ⟨rfl, rfl⟩ := qb v
    refine Rch.go rfl ?_
    refine Rch.xa rfl rfl rfl (nI_add (4 * i) 1) (by omega) (by omega) ?_
    refine Rch.go rfl ?_
    refine Rch.xa rfl rfl rfl (nI_add (4 * i) 2) (by omega) (by omega) ?_
    refine Rch.call 0 (t_X9_order c (c, (r, nI nx, nI q, sn, hs, sg, nI t, kd, bb, od, ex)) s bf kp ik tx (nI t) F [] h.2.2.1 hR (by omega) (f (4 * i + 1)) (f (4 * i + 2))) rfl rfl g_L_34 om_X9_order rfl (XL_sub n f) rfl rfl rfl rfl ⟨rfl, rfl⟩ hC (fun _ _ q => by by_cases v : ((0 ≤ f (4 * i + 1) ∧ f (4 * i + 1) ≤ 4) ∧ rby (f (4 * i + 1)) (f (4 * i + 2))); exact (RA_len (q.1 v)).trans (HP_len _ _ _ _ _).symm; exact (RA_len (q.2 v)).trans (HP_len _ _ _ _ _).symm) (fun rv9 h9 q9 => ?_)
    obtain ⟨rfl, c1, r1, n1, q1, s1, bf1, F1, g, rfl⟩ := act_inv (S := (-1002, none)) h (q9.2 v)
    refine Rch.i_eq rfl (fun _ => ?_) (fun q => absurd rfl q)
    refine Rch.go rfl (Rch.rf ⟨c1, r1, n1, q1, sn, hs, sg, t, kd, bb, od, ex, s1, bf1, kp, ik, tx, F1, cc, cs, by rw [Nat.mul_succ]; exact g, by omega, by omega, ?_⟩)
    unfold lsL
    rw [← n4]
    rfl
theorem L_orderAll {n i : Nat} {f : FA} (hi : 4 * i + 4 ≤ n) (hn : n ≤ 2048) {c : FA} {r : Nat → FA} {nx q : Nat} {sn : FA} {hs : Int32} {sg : FA} {t : Nat} {kd bb : FA} {od ex : Int32} {s bf kp : FA} {ik : Int32} {tx : FA} {F : F4} {cc cs : Nat} (h : INV (13000 * i) c r nx q sn hs sg t s bf kp ik tx) (hcc : cc ≤ 19 + i) (hcs : cs ≤ 2220 + 3 * i) : Rch m_L_law (XL n f) (315, lsL i, [], HP c (r, nI nx, nI q, sn, hs, sg, nI t, kd, bb, od, ex) s (bf, nI q, kp, ik, tx, nI t, F) [], cc, cs) (LI n (i + 1) []) := by
  have hC : cc ≤ mC m_L_law ∧ cs ≤ mS m_L_law := ⟨Nat.le_trans hcc (by show 19 + i ≤ 600000; omega), Nat.le_trans hcs (by show 2220 + 3 * i ≤ 7302250; omega)⟩
  obtain ⟨N, hR⟩ := h.1
  have n4 : nI (4 * i) + 4 = nI (4 * (i + 1)) := by rw [show nI (4 * i) + 4 = nI (4 * i + 4) from nI_add _ 4, Nat.mul_succ]
  refine Rch.go rfl ?_
  refine Rch.call 0 (t_X8_orderAll c r sn hs sg kd bb od ex s _ h.2.1 h.2.2.1 h.2.2.2.2.2.1 hR.2.2.2.1.1.1 hR.2.2.2.1.1.2.1) rfl rfl g_L_35 om_X8_orderAll rfl (XL_sub n f) rfl rfl rfl rfl ⟨rfl, rfl⟩ hC (fun _ _ q => by obtain ⟨_, rfl⟩ := q; exact hA_len _) (fun rv9 h9 q9 => ?_)
  obtain ⟨rfl, rfl⟩ := q9
  rw [hA_K]
  refine Rch.go rfl ?_
  refine Rch.call 0 (t_X9_orderAll c _ s bf kp ik tx F [] h.2.2.1 hR (by omega) kd bb h.2.2.2.2.2.1 h.2.2.2.2.2.2) rfl rfl g_L_39 om_X9_orderAll rfl (XL_sub n f) rfl rfl rfl rfl ⟨rfl, rfl⟩ hC (fun _ _ q => (RA_len q).trans (HP_len _ _ _ _ _).symm) (fun rv9 h9 q9 => ?_)
  obtain ⟨rfl, c1, r1, n1, q1, s1, bf1, F1, g, rfl⟩ := act_inv h q9
  refine Rch.i_eq rfl (fun _ => ?_) (fun q => absurd rfl q)
  refine Rch.go rfl (Rch.rf ⟨c1, r1, n1, q1, sn, hs, sg, t, (rdf sg t 0 (kd, bb, 0, 0)).1.1, (rdf sg t 0 (kd, bb, 0, 0)).1.2.1, nI (rdf sg t 0 (kd, bb, 0, 0)).1.2.2.1, nI (rdf sg t 0 (kd, bb, 0, 0)).1.2.2.2, s1, bf1, kp, ik, tx, F1, cc, cs, by rw [Nat.mul_succ]; exact g, by omega, by omega, ?_⟩)
  unfold lsL
  rw [← n4]
  rfl
theorem L_upright {n i : Nat} {f : FA} (hi : 4 * i + 4 ≤ n) (hn : n ≤ 2048) {c : FA} {r : Nat → FA} {nx q : Nat} {sn : FA} {hs : Int32} {sg : FA} {t : Nat} {kd bb : FA} {od ex : Int32} {s bf kp : FA} {ik : Int32} {tx : FA} {F : F4} {cc cs : Nat} (h : INV (13000 * i) c r nx q sn hs sg t s bf kp ik tx) (hcc : cc ≤ 19 + i) (hcs : cs ≤ 2220 + 3 * i) : Rch m_L_law (XL n f) (711, lsL i, [], HP c (r, nI nx, nI q, sn, hs, sg, nI t, kd, bb, od, ex) s (bf, nI q, kp, ik, tx, nI t, F) [], cc, cs) (fun τ => ∃ e, (e = [] ∨ ∃ U, e = uO U) ∧ LI n (i + 1) e τ) := by
  have hC : cc ≤ mC m_L_law ∧ cs ≤ mS m_L_law := ⟨Nat.le_trans hcc (by show 19 + i ≤ 600000; omega), Nat.le_trans hcs (by show 2220 + 3 * i ≤ 7302250; omega)⟩
  obtain ⟨N, hR⟩ := h.1
  have n4 : nI (4 * i) + 4 = nI (4 * (i + 1)) := by rw [show nI (4 * i) + 4 = nI (4 * i + 4) from nI_add _ 4, Nat.mul_succ]
  refine Rch.go rfl ?_
  refine Rch.xa rfl rfl rfl (nI_add (4 * i) 1) (by omega) (by omega) ?_
  refine Rch.go rfl ?_
  refine Rch.xa rfl rfl rfl (nI_add (4 * i) 2) (by omega) (by omega) ?_
  refine Rch.callG 0 (t_X8_upright c (r, nI nx, nI q, sn, hs, sg, nI t, kd, bb, od, ex) s (bf, nI q, kp, ik, tx, nI t, F) (f (4 * i + 1)) (f (4 * i + 2))) rfl rfl g_L_103 om_X8_upright rfl (XL_sub n f) rfl rfl rfl rfl (cc' := cc + 1) (cs' := cs + 3) rfl rfl (Nat.le_trans (Nat.succ_le_succ hcc) (by show 19 + i + 1 ≤ 600000; omega)) (Nat.le_trans (Nat.add_le_add_right hcs 3) (by show 2220 + 3 * i + 3 ≤ 7302250; omega)) rfl rfl (fun rv9 h9 q9 => ?_)
  have hC : cc + 1 ≤ mC m_L_law ∧ cs + 3 ≤ mS m_L_law := ⟨by show cc + 1 ≤ 600000; omega, by show cs + 3 ≤ 7302250; omega⟩
  obtain ⟨rfl, he⟩ := q9
  obtain ⟨e9, he9, rfl⟩ : ∃ e9 : AH, (e9 = [] ∨ ∃ U, e9 = uO U) ∧ h9 = HP c (r, nI nx, nI q, sn, hs, sg, nI t, kd, bb, od, ex) s (bf, nI q, kp, ik, tx, nI t, F) e9 := by
    rcases he with rfl | ⟨U, rfl⟩
    · exact ⟨_, Or.inl rfl, rfl⟩
    · exact ⟨_, Or.inr ⟨U, rfl⟩, rfl⟩
  refine Rch.go rfl ?_
  refine Rch.xa rfl rfl rfl (nI_add (4 * i) 1) (by omega) (by omega) ?_
  refine Rch.go rfl ?_
  refine Rch.xa rfl rfl rfl (nI_add (4 * i) 2) (by omega) (by omega) ?_
  refine Rch.call 0 (t_X9_upright c (c, (r, nI nx, nI q, sn, hs, sg, nI t, kd, bb, od, ex)) s (bf, nI q, kp, ik, tx, nI t, F) e9 (f (4 * i + 1)) (f (4 * i + 2)) hR) rfl rfl g_L_106 om_X9_upright rfl (XL_sub n f) rfl rfl rfl rfl ⟨rfl, rfl⟩ hC (fun _ _ q => by obtain ⟨_, rfl⟩ := q; rfl) (fun rv9 h9 q9 => ?_)
  obtain ⟨rfl, rfl⟩ := q9
  refine Rch.i_eq rfl (fun _ => ?_) (fun q => absurd rfl q)
  refine Rch.go rfl (Rch.rf ⟨e9, he9, c, r, nx, q, sn, hs, sg, t, kd, bb, od, ex, s, bf, kp, ik, tx, F, cc + 1, cs + 3, by rw [Nat.mul_succ]; exact h.mono (by omega), by omega, by omega, ?_⟩)
  unfold lsL
  rw [← n4]
  rfl
theorem L_sounding {n i : Nat} {f : FA} (hi : 4 * i + 4 ≤ n) (hn : n ≤ 2048) {c : FA} {r : Nat → FA} {nx q : Nat} {sn : FA} {hs : Int32} {sg : FA} {t : Nat} {kd bb : FA} {od ex : Int32} {s bf kp : FA} {ik : Int32} {tx : FA} {F : F4} {cc cs : Nat} (h : INV (13000 * i) c r nx q sn hs sg t s bf kp ik tx) (hcc : cc ≤ 19 + i) (hcs : cs ≤ 2220 + 3 * i) : Rch m_L_law (XL n f) (530, lsL i, [], HP c (r, nI nx, nI q, sn, hs, sg, nI t, kd, bb, od, ex) s (bf, nI q, kp, ik, tx, nI t, F) [], cc, cs) (LI n (i + 1) []) := by
  have hC : cc ≤ mC m_L_law ∧ cs ≤ mS m_L_law := ⟨Nat.le_trans hcc (by show 19 + i ≤ 600000; omega), Nat.le_trans hcs (by show 2220 + 3 * i ≤ 7302250; omega)⟩
  obtain ⟨N, hR⟩ := h.1
  have n4 : nI (4 * i) + 4 = nI (4 * (i + 1)) := by rw [show nI (4 * i) + 4 = nI (4 * i + 4) from nI_add _ 4, Nat.mul_succ]
  have hc3 : ∀ j, j < 8 → ∃ k, k ≤ 3 ∧ c (32 + j) = nI k := fun j hj => by obtain ⟨k, _, _, a1, a2, _⟩ := hR.2.2.2.2.2.1 j hj; exact ⟨k, a1, a2⟩
  by_cases z0 : f (4 * i + 3) = 0
  · refine Rch.go rfl ?_
    refine Rch.xa rfl rfl rfl (nI_add (4 * i) 1) (by omega) (by omega) ?_
    refine Rch.go rfl ?_
    refine Rch.xa rfl rfl rfl (nI_add (4 * i) 2) (by omega) (by omega) ?_
    refine Rch.go rfl ?_
    refine Rch.xa rfl rfl rfl (nI_add (4 * i) 3) (by omega) (by omega) ?_
    refine Rch.z_eq rfl (fun _ => ?_) (fun q => ?_)
    rotate_left
    · exact absurd z0 q
    refine Rch.go rfl ?_
    refine Rch.call 0 (t_X8_sounding c (r, nI nx, nI q, sn, hs, sg, nI t, kd, bb, od, ex) s (bf, nI q, kp, ik, tx, nI t, F) [] (f (4 * i + 1)) (f (4 * i + 2)) 0 hc3) rfl rfl g_L_82 om_X8_sounding rfl (XL_sub n f) rfl rfl rfl rfl ⟨rfl, rfl⟩ hC (fun _ _ q => by obtain ⟨_, rfl⟩ := q; rfl) (fun rv9 h9 q9 => ?_)
    obtain ⟨rfl, rfl⟩ := q9
    refine Rch.go rfl ?_
    refine Rch.xa rfl rfl rfl (nI_add (4 * i) 1) (by omega) (by omega) ?_
    refine Rch.go rfl ?_
    refine Rch.xa rfl rfl rfl (nI_add (4 * i) 2) (by omega) (by omega) ?_
    refine Rch.go rfl ?_
    refine Rch.xa rfl rfl rfl (nI_add (4 * i) 3) (by omega) (by omega) ?_
    refine Rch.z_eq rfl (fun _ => ?_) (fun q => ?_)
    rotate_left
    · exact absurd z0 q
    refine Rch.go rfl ?_
    refine Rch.call 0 (t_X9_sounding c (c, (r, nI nx, nI q, sn, hs, sg, nI t, kd, bb, od, ex)) s (bf, nI q, kp, ik, tx, nI t, F) [] (f (4 * i + 1)) (f (4 * i + 2)) 0 hR) rfl rfl g_L_86 om_X9_sounding rfl (XL_sub n f) rfl rfl rfl rfl ⟨rfl, rfl⟩ hC (fun _ _ q => by obtain ⟨_, rfl⟩ := q; rfl) (fun rv9 h9 q9 => ?_)
    obtain ⟨rfl, rfl⟩ := q9
    refine Rch.i_eq rfl (fun _ => ?_) (fun q => absurd rfl q)
    refine Rch.go rfl (Rch.rf ⟨c, r, nx, q, sn, hs, sg, t, kd, bb, od, ex, s, bf, kp, ik, tx, F, cc, cs, by rw [Nat.mul_succ]; exact h.mono (by omega), by omega, by omega, ?_⟩)
    unfold lsL
    rw [← n4]
    rfl
  · refine Rch.go rfl ?_
    refine Rch.xa rfl rfl rfl (nI_add (4 * i) 1) (by omega) (by omega) ?_
    refine Rch.go rfl ?_
    refine Rch.xa rfl rfl rfl (nI_add (4 * i) 2) (by omega) (by omega) ?_
    refine Rch.go rfl ?_
    refine Rch.xa rfl rfl rfl (nI_add (4 * i) 3) (by omega) (by omega) ?_
    refine Rch.z_eq rfl (fun q => ?_) (fun _ => ?_)
    · exact absurd q z0
    refine Rch.go rfl ?_
    refine Rch.call 0 (t_X8_sounding c (r, nI nx, nI q, sn, hs, sg, nI t, kd, bb, od, ex) s (bf, nI q, kp, ik, tx, nI t, F) [] (f (4 * i + 1)) (f (4 * i + 2)) 1 hc3) rfl rfl g_L_82 om_X8_sounding rfl (XL_sub n f) rfl rfl rfl rfl ⟨rfl, rfl⟩ hC (fun _ _ q => by obtain ⟨_, rfl⟩ := q; rfl) (fun rv9 h9 q9 => ?_)
    obtain ⟨rfl, rfl⟩ := q9
    refine Rch.go rfl ?_
    refine Rch.xa rfl rfl rfl (nI_add (4 * i) 1) (by omega) (by omega) ?_
    refine Rch.go rfl ?_
    refine Rch.xa rfl rfl rfl (nI_add (4 * i) 2) (by omega) (by omega) ?_
    refine Rch.go rfl ?_
    refine Rch.xa rfl rfl rfl (nI_add (4 * i) 3) (by omega) (by omega) ?_
    refine Rch.z_eq rfl (fun q => ?_) (fun _ => ?_)
    · exact absurd q z0
    refine Rch.go rfl ?_
    refine Rch.call 0 (t_X9_sounding c (c, (r, nI nx, nI q, sn, hs, sg, nI t, kd, bb, od, ex)) s (bf, nI q, kp, ik, tx, nI t, F) [] (f (4 * i + 1)) (f (4 * i + 2)) 1 hR) rfl rfl g_L_86 om_X9_sounding rfl (XL_sub n f) rfl rfl rfl rfl ⟨rfl, rfl⟩ hC (fun _ _ q => by obtain ⟨_, rfl⟩ := q; rfl) (fun rv9 h9 q9 => ?_)
    obtain ⟨rfl, rfl⟩ := q9
    refine Rch.i_eq rfl (fun _ => ?_) (fun q => absurd rfl q)
    refine Rch.go rfl (Rch.rf ⟨c, r, nx, q, sn, hs, sg, t, kd, bb, od, ex, s, bf, kp, ik, tx, F, cc, cs, by rw [Nat.mul_succ]; exact h.mono (by omega), by omega, by omega, ?_⟩)
    unfold lsL
    rw [← n4]
    rfl
theorem L_type {n i : Nat} {f : FA} (hi : 4 * i + 4 ≤ n) (hn : n ≤ 2048) {c : FA} {r : Nat → FA} {nx q : Nat} {sn : FA} {hs : Int32} {sg : FA} {t : Nat} {kd bb : FA} {od ex : Int32} {s bf kp : FA} {ik : Int32} {tx : FA} {F : F4} {cc cs : Nat} (h : INV (13000 * i) c r nx q sn hs sg t s bf kp ik tx) (hcc : cc ≤ 19 + i) (hcs : cs ≤ 2220 + 3 * i) : Rch m_L_law (XL n f) (420, lsL i, [], HP c (r, nI nx, nI q, sn, hs, sg, nI t, kd, bb, od, ex) s (bf, nI q, kp, ik, tx, nI t, F) [], cc, cs) (LI n (i + 1) []) := by
  have hC : cc ≤ mC m_L_law ∧ cs ≤ mS m_L_law := ⟨Nat.le_trans hcc (by show 19 + i ≤ 600000; omega), Nat.le_trans hcs (by show 2220 + 3 * i ≤ 7302250; omega)⟩
  obtain ⟨N, hR⟩ := h.1
  have n4 : nI (4 * i) + 4 = nI (4 * (i + 1)) := by rw [show nI (4 * i) + 4 = nI (4 * i + 4) from nI_add _ 4, Nat.mul_succ]
  have ht := h.2.2.2.2.2.1
  by_cases t0 : t < 60
  · refine Rch.go rfl ?_
    refine Rch.xa rfl rfl rfl (nI_add (4 * i) 1) (by omega) (by omega) ?_
    refine Rch.go rfl ?_
    refine Rch.call 0 (t_X8_type c r (nI nx) (nI q) sn hs sg kd bb od ex s (bf, nI q, kp, ik, tx, nI t, F) (((f (4 * i + 1)).toUInt32 % 65536).toInt32) ht) rfl rfl g_L_57 om_X8_type rfl (XL_sub n f) rfl rfl rfl rfl ⟨rfl, rfl⟩ hC (fun _ _ q => by obtain ⟨_, rfl⟩ := q; rw [HP_len, HP_len]) (fun rv9 h9 q9 => ?_)
    obtain ⟨rfl, rfl⟩ := q9
    rw [if_pos t0, if_pos t0]
    refine Rch.go rfl ?_
    refine Rch.xa rfl rfl rfl (nI_add (4 * i) 1) (by omega) (by omega) ?_
    refine Rch.go rfl ?_
    refine Rch.call 0 (t_X9_type (c, (r, nI nx, nI q, sn, hs, upd sg t (vp_nar .char (((f (4 * i + 1)).toUInt32 % 65536).toInt32)), nI t + 1, kd, bb, od, ex)) s bf kp tx (nI q) ik F [] (((f (4 * i + 1)).toUInt32 % 65536).toInt32) ht) rfl rfl g_L_61 om_X9_type rfl (XL_sub n f) rfl rfl rfl rfl ⟨rfl, rfl⟩ hC (fun _ _ q => by obtain ⟨_, rfl⟩ := q; rw [HP_len, HP_len]) (fun rv9 h9 q9 => ?_)
    obtain ⟨rfl, rfl⟩ := q9
    rw [if_pos t0, if_pos t0]
    have g9 : INV (13000 * i + 13000) c r nx q sn hs (upd sg t (vp_nar .char (((f (4 * i + 1)).toUInt32 % 65536).toInt32))) (t + 1) s bf kp ik (upd tx t (((f (4 * i + 1)).toUInt32 % 65536).toInt32)) := by
      obtain ⟨a1, a2, a3, a4, a5, a6, a7⟩ := h.mono (B' := 13000 * i + 13000) (by omega)
      refine ⟨a1, a2, a3, a4, a5, by omega, fun j hj => ?_⟩
      by_cases e : j = t
      · subst e; rw [pk_us, pk_us, ch_nar]
      · rw [pk_un e, pk_un e]; exact a7 j (by omega)
    refine Rch.i_eq rfl (fun _ => ?_) (fun q => absurd rfl q)
    refine Rch.go rfl (Rch.rf ⟨c, r, nx, q, sn, hs, _, t + 1, kd, bb, od, ex, s, bf, kp, ik, _, F, cc, cs, by rw [Nat.mul_succ]; exact g9, by omega, by omega, ?_⟩)
    unfold lsL
    rw [← n4, ← nI_1 t]
    rfl
  · refine Rch.go rfl ?_
    refine Rch.xa rfl rfl rfl (nI_add (4 * i) 1) (by omega) (by omega) ?_
    refine Rch.go rfl ?_
    refine Rch.call 0 (t_X8_type c r (nI nx) (nI q) sn hs sg kd bb od ex s (bf, nI q, kp, ik, tx, nI t, F) (((f (4 * i + 1)).toUInt32 % 65536).toInt32) ht) rfl rfl g_L_57 om_X8_type rfl (XL_sub n f) rfl rfl rfl rfl ⟨rfl, rfl⟩ hC (fun _ _ q => by obtain ⟨_, rfl⟩ := q; rw [HP_len, HP_len]) (fun rv9 h9 q9 => ?_)
    obtain ⟨rfl, rfl⟩ := q9
    rw [if_neg t0, if_neg t0]
    refine Rch.go rfl ?_
    refine Rch.xa rfl rfl rfl (nI_add (4 * i) 1) (by omega) (by omega) ?_
    refine Rch.go rfl ?_
    refine Rch.call 0 (t_X9_type (c, (r, nI nx, nI q, sn, hs, sg, nI t, kd, bb, od, ex)) s bf kp tx (nI q) ik F [] (((f (4 * i + 1)).toUInt32 % 65536).toInt32) ht) rfl rfl g_L_61 om_X9_type rfl (XL_sub n f) rfl rfl rfl rfl ⟨rfl, rfl⟩ hC (fun _ _ q => by obtain ⟨_, rfl⟩ := q; rw [HP_len, HP_len]) (fun rv9 h9 q9 => ?_)
    obtain ⟨rfl, rfl⟩ := q9
    rw [if_neg t0, if_neg t0]
    refine Rch.i_eq rfl (fun _ => ?_) (fun q => absurd rfl q)
    refine Rch.go rfl (Rch.rf ⟨c, r, nx, q, sn, hs, sg, t, kd, bb, od, ex, s, bf, kp, ik, tx, F, cc, cs, by rw [Nat.mul_succ]; exact h.mono (by omega), by omega, by omega, ?_⟩)
    unfold lsL
    rw [← n4]
    rfl
end LB
