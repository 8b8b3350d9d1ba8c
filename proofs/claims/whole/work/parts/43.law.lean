/-! ===== the law, call by call ===== -/
def XL (n : Nat) (f : FA) : AX := fun k => match k with
  | 7 => some (n, f)
  | k => X0 k
theorem XL_sub (n : Nat) (f : FA) : ∀ k n' f', X0 k = some (n', f') → XL n f k = some (n', f') := by
  intro k n' f' h
  unfold XL
  split
  · exact absurd h (by show ¬ none = _; intro q; cases q)
  · exact h
def Kof (c : FA) (r : Nat → FA) (n q : Nat) (K : KR) (o : Option FA) : FA × KS := match o with
  | none => (c, (r, nI n, nI q, K))
  | some c' => (c', rc9 c (r, nI n, nI q, K) n q)
theorem hA_K (c : FA) (r : Nat → FA) (n q : Nat) (K : KR) (s : FA) (L : LS9) (o : Option FA) : hA c r n q K s L o = HP (Kof c r n q K o).1 (Kof c r n q K o).2 s L [] := by
  cases o <;> rfl
theorem act_inv {B : Nat} {c : FA} {r : Nat → FA} {n q : Nat} {sn : FA} {hs : Int32} {sg : FA} {t : Nat} {kd bb : FA} {od ex : Int32} {s bf kp : FA} {ik : Int32} {tx : FA} {S : Int32 × Option FA} {rv : Option Value} {h9 : AH} (h : INV B c r n q sn hs sg t s bf kp ik tx) (g : RA (Kof c r n q (sn, hs, sg, nI t, kd, bb, od, ex) S.2) s bf kp ik tx (nI t) [] q B S rv h9) :
    rv = some (.int S.1) ∧ ∃ (c1 : FA) (r1 : Nat → FA) (n1 q1 : Nat) (s1 bf1 : FA) (F1 : F4), INV (B + 13000) c1 r1 n1 q1 sn hs sg t s1 bf1 kp ik tx ∧ h9 = HP c1 (r1, nI n1, nI q1, sn, hs, sg, nI t, kd, bb, od, ex) s1 (bf1, nI q1, kp, ik, tx, nI t, F1) [] := by
  obtain ⟨rfl, F', g⟩ := g
  refine ⟨rfl, ?_⟩
  obtain ⟨v, o⟩ := S
  rcases g with ⟨g1, rfl⟩ | ⟨c', N', s', g1, g2, rfl⟩
  · obtain rfl : o = none := g1
    exact ⟨c, r, n, q, s, bf, F', h.mono (by omega), rfl⟩
  · obtain rfl : o = some c' := g1
    exact ⟨c', _, _, _, s', _, F', h.act g2 (by omega), rfl⟩
abbrev lsL (i : Nat) : AL := [(0, .ref 1007), (1, .ref 0), (2, .ref 14), (3, .int (nI (4 * i)))]
/-- the law's place after its i-th round; e: what nothing names any more -/
def LI (n i : Nat) (e : AH) (τ : AS) : Prop := ∃ (c : FA) (r : Nat → FA) (nx q : Nat) (sn : FA) (hs : Int32) (sg : FA) (t : Nat) (kd bb : FA) (od ex : Int32) (s bf kp : FA) (ik : Int32) (tx : FA) (F : F4) (cc cs : Nat), INV (13000 * i) c r nx q sn hs sg t s bf kp ik tx ∧ cc ≤ 19 + i ∧ cs ≤ 2220 + 3 * i ∧ τ = (23, lsL i, [.int (nI n - 4), .int (nI (4 * i))], HP c (r, nI nx, nI q, sn, hs, sg, nI t, kd, bb, od, ex) s (bf, nI q, kp, ik, tx, nI t, F) e, cc, cs)
section LA
theorem L_leak {n i : Nat} {f : FA} (hi : 4 * i + 4 ≤ n) (hn : n ≤ 2048) {c : FA} {r : Nat → FA} {nx q : Nat} {sn : FA} {hs : Int32} {sg : FA} {t : Nat} {kd bb : FA} {od ex : Int32} {s bf kp : FA} {ik : Int32} {tx : FA} {F : F4} {cc cs : Nat} (h : INV (13000 * i) c r nx q sn hs sg t s bf kp ik tx) (hcc : cc ≤ 19 + i) (hcs : cs ≤ 2220 + 3 * i) : Rch m_L_law (XL n f) (183, lsL i, [], HP c (r, nI nx, nI q, sn, hs, sg, nI t, kd, bb, od, ex) s (bf, nI q, kp, ik, tx, nI t, F) [], cc, cs) (LI n (i + 1) []) := by
  have hC : cc ≤ mC m_L_law ∧ cs ≤ mS m_L_law := ⟨Nat.le_trans hcc (by show 19 + i ≤ 600000; omega), Nat.le_trans hcs (by show 2220 + 3 * i ≤ 7302250; omega)⟩
  obtain ⟨N, hR⟩ := h.1
  have n4 : nI (4 * i) + 4 = nI (4 * (i + 1)) := by rw [show nI (4 * i) + 4 = nI (4 * i + 4) from nI_add _ 4, Nat.mul_succ]
  refine Rch.go rfl ?_
  refine Rch.xa rfl rfl rfl (nI_add (4 * i) 1) (by omega) (by omega) ?_
  refine Rch.go rfl ?_
  refine Rch.xa rfl rfl rfl (nI_add (4 * i) 2) (by omega) (by omega) ?_
  refine Rch.call 0 (t_X8_leak c r _ s _ h.2.1 h.2.2.1 (f (4 * i + 1)) (f (4 * i + 2))) rfl rfl g_L_18 om_X8_leak rfl (XL_sub n f) rfl rfl rfl rfl ⟨rfl, rfl⟩ hC (fun _ _ q => by obtain ⟨_, rfl⟩ := q; exact hA_len _) (fun rv9 h9 q9 => ?_)
  obtain ⟨rfl, rfl⟩ := q9
  rw [hA_K]
  refine Rch.go rfl ?_
  refine Rch.xa rfl rfl rfl (nI_add (4 * i) 1) (by omega) (by omega) ?_
  refine Rch.go rfl ?_
  refine Rch.xa rfl rfl rfl (nI_add (4 * i) 2) (by omega) (by omega) ?_
  refine Rch.call 0 (t_X9_leak c _ s bf kp ik tx (nI t) F [] h.2.2.1 hR (by omega) (f (4 * i + 1)) (f (4 * i + 2))) rfl rfl g_L_22 om_X9_leak rfl (XL_sub n f) rfl rfl rfl rfl ⟨rfl, rfl⟩ hC (fun _ _ q => (RA_len q).trans (HP_len _ _ _ _ _).symm) (fun rv9 h9 q9 => ?_)
  obtain ⟨rfl, c1, r1, n1, q1, s1, bf1, F1, g, rfl⟩ := act_inv h q9
  refine Rch.i_eq rfl (fun _ => ?_) (fun q => absurd rfl q)
  refine Rch.go rfl (Rch.rf ⟨c1, r1, n1, q1, sn, hs, sg, t, kd, bb, od, ex, s1, bf1, kp, ik, tx, F1, cc, cs, by rw [Nat.mul_succ]; exact g, by omega, by omega, ?_⟩)
  unfold lsL
  rw [← n4]
  rfl
theorem L_setGroup {n i : Nat} {f : FA} (hi : 4 * i + 4 ≤ n) (hn : n ≤ 2048) {c : FA} {r : Nat → FA} {nx q : Nat} {sn : FA} {hs : Int32} {sg : FA} {t : Nat} {kd bb : FA} {od ex : Int32} {s bf kp : FA} {ik : Int32} {tx : FA} {F : F4} {cc cs : Nat} (h : INV (13000 * i) c r nx q sn hs sg t s bf kp ik tx) (hcc : cc ≤ 19 + i) (hcs : cs ≤ 2220 + 3 * i) : Rch m_L_law (XL n f) (216, lsL i, [], HP c (r, nI nx, nI q, sn, hs, sg, nI t, kd, bb, od, ex) s (bf, nI q, kp, ik, tx, nI t, F) [], cc, cs) (LI n (i + 1) []) := by
  have hC : cc ≤ mC m_L_law ∧ cs ≤ mS m_L_law := ⟨Nat.le_trans hcc (by show 19 + i ≤ 600000; omega), Nat.le_trans hcs (by show 2220 + 3 * i ≤ 7302250; omega)⟩
  obtain ⟨N, hR⟩ := h.1
  have n4 : nI (4 * i) + 4 = nI (4 * (i + 1)) := by rw [show nI (4 * i) + 4 = nI (4 * i + 4) from nI_add _ 4, Nat.mul_succ]
  refine Rch.go rfl ?_
  refine Rch.xa rfl rfl rfl (nI_add (4 * i) 1) (by omega) (by omega) ?_
  refine Rch.go rfl ?_
  refine Rch.xa rfl rfl rfl (nI_add (4 * i) 2) (by omega) (by omega) ?_
  refine Rch.call 0 (t_X8_setGroup c r _ s _ h.2.1 h.2.2.1 (f (4 * i + 1)) (f (4 * i + 2))) rfl rfl g_L_23 om_X8_setGroup rfl (XL_sub n f) rfl rfl rfl rfl ⟨rfl, rfl⟩ hC (fun _ _ q => by obtain ⟨_, rfl⟩ := q; exact hA_len _) (fun rv9 h9 q9 => ?_)
  obtain ⟨rfl, rfl⟩ := q9
  rw [hA_K]
  refine Rch.go rfl ?_
  refine Rch.xa rfl rfl rfl (nI_add (4 * i) 1) (by omega) (by omega) ?_
  refine Rch.go rfl ?_
  refine Rch.xa rfl rfl rfl (nI_add (4 * i) 2) (by omega) (by omega) ?_
  refine Rch.call 0 (t_X9_setGroup c _ s bf kp ik tx (nI t) F [] h.2.2.1 hR (by omega) (f (4 * i + 1)) (f (4 * i + 2))) rfl rfl g_L_26 om_X9_setGroup rfl (XL_sub n f) rfl rfl rfl rfl ⟨rfl, rfl⟩ hC (fun _ _ q => (RA_len q).trans (HP_len _ _ _ _ _).symm) (fun rv9 h9 q9 => ?_)
  obtain ⟨rfl, c1, r1, n1, q1, s1, bf1, F1, g, rfl⟩ := act_inv h q9
  refine Rch.i_eq rfl (fun _ => ?_) (fun q => absurd rfl q)
  refine Rch.go rfl (Rch.rf ⟨c1, r1, n1, q1, sn, hs, sg, t, kd, bb, od, ex, s1, bf1, kp, ik, tx, F1, cc, cs, by rw [Nat.mul_succ]; exact g, by omega, by omega, ?_⟩)
  unfold lsL
  rw [← n4]
  rfl
theorem L_set {n i : Nat} {f : FA} (hi : 4 * i + 4 ≤ n) (hn : n ≤ 2048) {c : FA} {r : Nat → FA} {nx q : Nat} {sn : FA} {hs : Int32} {sg : FA} {t : Nat} {kd bb : FA} {od ex : Int32} {s bf kp : FA} {ik : Int32} {tx : FA} {F : F4} {cc cs : Nat} (h : INV (13000 * i) c r nx q sn hs sg t s bf kp ik tx) (hcc : cc ≤ 19 + i) (hcs : cs ≤ 2220 + 3 * i) : Rch m_L_law (XL n f) (249, lsL i, [], HP c (r, nI nx, nI q, sn, hs, sg, nI t, kd, bb, od, ex) s (bf, nI q, kp, ik, tx, nI t, F) [], cc, cs) (LI n (i + 1) []) := by
  have hC : cc ≤ mC m_L_law ∧ cs ≤ mS m_L_law := ⟨Nat.le_trans hcc (by show 19 + i ≤ 600000; omega), Nat.le_trans hcs (by show 2220 + 3 * i ≤ 7302250; omega)⟩
  obtain ⟨N, hR⟩ := h.1
  have n4 : nI (4 * i) + 4 = nI (4 * (i + 1)) := by rw [show nI (4 * i) + 4 = nI (4 * i + 4) from nI_add _ 4, Nat.mul_succ]
  refine Rch.go rfl ?_
  refine Rch.xa rfl rfl rfl (nI_add (4 * i) 1) (by omega) (by omega) ?_
  refine Rch.go rfl ?_
  refine Rch.xa rfl rfl rfl (nI_add (4 * i) 2) (by omega) (by omega) ?_
  refine Rch.call 0 (t_X8_set c r _ s _ h.2.1 h.2.2.1 (f (4 * i + 1)) (f (4 * i + 2))) rfl rfl g_L_27 om_X8_set rfl (XL_sub n f) rfl rfl rfl rfl ⟨rfl, rfl⟩ hC (fun _ _ q => by obtain ⟨_, rfl⟩ := q; exact hA_len _) (fun rv9 h9 q9 => ?_)
  obtain ⟨rfl, rfl⟩ := q9
  rw [hA_K]
  refine Rch.go rfl ?_
  refine Rch.xa rfl rfl rfl (nI_add (4 * i) 1) (by omega) (by omega) ?_
  refine Rch.go rfl ?_
  refine Rch.xa rfl rfl rfl (nI_add (4 * i) 2) (by omega) (by omega) ?_
  refine Rch.call 0 (t_X9_set c _ s bf kp ik tx (nI t) F [] h.2.2.1 hR (by omega) (f (4 * i + 1)) (f (4 * i + 2))) rfl rfl g_L_30 om_X9_set rfl (XL_sub n f) rfl rfl rfl rfl ⟨rfl, rfl⟩ hC (fun _ _ q => (RA_len q).trans (HP_len _ _ _ _ _).symm) (fun rv9 h9 q9 => ?_)
  obtain ⟨rfl, c1, r1, n1, q1, s1, bf1, F1, g, rfl⟩ := act_inv h q9
  refine Rch.i_eq rfl (fun _ => ?_) (fun q => absurd rfl q)
  refine Rch.go rfl (Rch.rf ⟨c1, r1, n1, q1, sn, hs, sg, t, kd, bb, od, ex, s1, bf1, kp, ik, tx, F1, cc, cs, by rw [Nat.mul_succ]; exact g, by omega, by omega, ?_⟩)
  unfold lsL
  rw [← n4]
  rfl
theorem L_load {n i : Nat} {f : FA} (hi : 4 * i + 4 ≤ n) (hn : n ≤ 2048) {c : FA} {r : Nat → FA} {nx q : Nat} {sn : FA} {hs : Int32} {sg : FA} {t : Nat} {kd bb : FA} {od ex : Int32} {s bf kp : FA} {ik : Int32} {tx : FA} {F : F4} {cc cs : Nat} (h : INV (13000 * i) c r nx q sn hs sg t s bf kp ik tx) (hcc : cc ≤ 19 + i) (hcs : cs ≤ 2220 + 3 * i) : Rch m_L_law (XL n f) (140, lsL i, [], HP c (r, nI nx, nI q, sn, hs, sg, nI t, kd, bb, od, ex) s (bf, nI q, kp, ik, tx, nI t, F) [], cc, cs) (LI n (i + 1) []) := by
  have hC : cc ≤ mC m_L_law ∧ cs ≤ mS m_L_law := ⟨Nat.le_trans hcc (by show 19 + i ≤ 600000; omega), Nat.le_trans hcs (by show 2220 + 3 * i ≤ 7302250; omega)⟩
  obtain ⟨N, hR⟩ := h.1
  have n4 : nI (4 * i) + 4 = nI (4 * (i + 1)) := by rw [show nI (4 * i) + 4 = nI (4 * i + 4) from nI_add _ 4, Nat.mul_succ]
  refine Rch.go rfl ?_
  refine Rch.xa rfl rfl rfl (nI_add (4 * i) 1) (by omega) (by omega) ?_
  refine Rch.go rfl ?_
  refine Rch.xa rfl rfl rfl (nI_add (4 * i) 2) (by omega) (by omega) ?_
  refine Rch.go rfl ?_
  refine Rch.xa rfl rfl rfl (nI_add (4 * i) 3) (by omega) (by omega) ?_
  refine Rch.call 0 (t_X8_load c r _ s _ h.2.1 h.2.2.1 (f (4 * i + 1)) (f (4 * i + 2)) (f (4 * i + 3))) rfl rfl g_L_13 om_X8_load rfl (XL_sub n f) rfl rfl rfl rfl ⟨rfl, rfl⟩ hC (fun _ _ q => by obtain ⟨_, rfl⟩ := q; exact hA_len _) (fun rv9 h9 q9 => ?_)
  obtain ⟨rfl, rfl⟩ := q9
  rw [hA_K]
  refine Rch.go rfl ?_
  refine Rch.xa rfl rfl rfl (nI_add (4 * i) 1) (by omega) (by omega) ?_
  refine Rch.go rfl ?_
  refine Rch.xa rfl rfl rfl (nI_add (4 * i) 2) (by omega) (by omega) ?_
  refine Rch.go rfl ?_
  refine Rch.xa rfl rfl rfl (nI_add (4 * i) 3) (by omega) (by omega) ?_
  refine Rch.call 0 (t_X9_load c _ s bf kp ik tx (nI t) F [] h.2.2.1 hR (by omega) (f (4 * i + 1)) (f (4 * i + 2)) (f (4 * i + 3))) rfl rfl g_L_17 om_X9_load rfl (XL_sub n f) rfl rfl rfl rfl ⟨rfl, rfl⟩ hC (fun _ _ q => (RA_len q).trans (HP_len _ _ _ _ _).symm) (fun rv9 h9 q9 => ?_)
  obtain ⟨rfl, c1, r1, n1, q1, s1, bf1, F1, g, rfl⟩ := act_inv h q9
  refine Rch.i_eq rfl (fun _ => ?_) (fun q => absurd rfl q)
  refine Rch.go rfl (Rch.rf ⟨c1, r1, n1, q1, sn, hs, sg, t, kd, bb, od, ex, s1, bf1, kp, ik, tx, F1, cc, cs, by rw [Nat.mul_succ]; exact g, by omega, by omega, ?_⟩)
  unfold lsL
  rw [← n4]
  rfl
theorem L_strike {n i : Nat} {f : FA} (hi : 4 * i + 4 ≤ n) (hn : n ≤ 2048) {c : FA} {r : Nat → FA} {nx q : Nat} {sn : FA} {hs : Int32} {sg : FA} {t : Nat} {kd bb : FA} {od ex : Int32} {s bf kp : FA} {ik : Int32} {tx : FA} {F : F4} {cc cs : Nat} (h : INV (13000 * i) c r nx q sn hs sg t s bf kp ik tx) (hcc : cc ≤ 19 + i) (hcs : cs ≤ 2220 + 3 * i) : Rch m_L_law (XL n f) (328, lsL i, [], HP c (r, nI nx, nI q, sn, hs, sg, nI t, kd, bb, od, ex) s (bf, nI q, kp, ik, tx, nI t, F) [], cc, cs) (LI n (i + 1) []) := by
  have hC : cc ≤ mC m_L_law ∧ cs ≤ mS m_L_law := ⟨Nat.le_trans hcc (by show 19 + i ≤ 600000; omega), Nat.le_trans hcs (by show 2220 + 3 * i ≤ 7302250; omega)⟩
  obtain ⟨N, hR⟩ := h.1
  have n4 : nI (4 * i) + 4 = nI (4 * (i + 1)) := by rw [show nI (4 * i) + 4 = nI (4 * i + 4) from nI_add _ 4, Nat.mul_succ]
  refine Rch.go rfl ?_
  refine Rch.xa rfl rfl rfl (nI_add (4 * i) 1) (by omega) (by omega) ?_
  refine Rch.call 0 (t_X8_strike c r _ s _ h.2.1 h.2.2.1 (f (4 * i + 1)) hR.2.2.2.1.1.1 hR.2.2.2.1.1.2.1) rfl rfl g_L_40 om_X8_strike rfl (XL_sub n f) rfl rfl rfl rfl ⟨rfl, rfl⟩ hC (fun _ _ q => by obtain ⟨_, rfl⟩ := q; exact hA_len _) (fun rv9 h9 q9 => ?_)
  obtain ⟨rfl, rfl⟩ := q9
  rw [hA_K]
  refine Rch.go rfl ?_
  refine Rch.xa rfl rfl rfl (nI_add (4 * i) 1) (by omega) (by omega) ?_
  refine Rch.call 0 (t_X9_strike c _ s bf kp ik tx (nI t) F [] h.2.2.1 hR (by omega) (f (4 * i + 1))) rfl rfl g_L_44 om_X9_strike rfl (XL_sub n f) rfl rfl rfl rfl ⟨rfl, rfl⟩ hC (fun _ _ q => (RA_len q).trans (HP_len _ _ _ _ _).symm) (fun rv9 h9 q9 => ?_)
  obtain ⟨rfl, c1, r1, n1, q1, s1, bf1, F1, g, rfl⟩ := act_inv h q9
  refine Rch.i_eq rfl (fun _ => ?_) (fun q => absurd rfl q)
  refine Rch.go rfl (Rch.rf ⟨c1, r1, n1, q1, sn, hs, sg, t, kd, bb, od, ex, s1, bf1, kp, ik, tx, F1, cc, cs, by rw [Nat.mul_succ]; exact g, by omega, by omega, ?_⟩)
  unfold lsL
  rw [← n4]
  rfl
theorem L_sound {n i : Nat} {f : FA} (hi : 4 * i + 4 ≤ n) (hn : n ≤ 2048) {c : FA} {r : Nat → FA} {nx q : Nat} {sn : FA} {hs : Int32} {sg : FA} {t : Nat} {kd bb : FA} {od ex : Int32} {s bf kp : FA} {ik : Int32} {tx : FA} {F : F4} {cc cs : Nat} (h : INV (13000 * i) c r nx q sn hs sg t s bf kp ik tx) (hcc : cc ≤ 19 + i) (hcs : cs ≤ 2220 + 3 * i) : Rch m_L_law (XL n f) (397, lsL i, [], HP c (r, nI nx, nI q, sn, hs, sg, nI t, kd, bb, od, ex) s (bf, nI q, kp, ik, tx, nI t, F) [], cc, cs) (LI n (i + 1) []) := by
  have hC : cc ≤ mC m_L_law ∧ cs ≤ mS m_L_law := ⟨Nat.le_trans hcc (by show 19 + i ≤ 600000; omega), Nat.le_trans hcs (by show 2220 + 3 * i ≤ 7302250; omega)⟩
  obtain ⟨N, hR⟩ := h.1
  have n4 : nI (4 * i) + 4 = nI (4 * (i + 1)) := by rw [show nI (4 * i) + 4 = nI (4 * i + 4) from nI_add _ 4, Nat.mul_succ]
  refine Rch.go rfl ?_
  refine Rch.xa rfl rfl rfl (nI_add (4 * i) 1) (by omega) (by omega) ?_
  refine Rch.call 0 (t_X8_sound c r _ s _ h.2.1 h.2.2.1 (f (4 * i + 1))) rfl rfl g_L_53 om_X8_sound rfl (XL_sub n f) rfl rfl rfl rfl ⟨rfl, rfl⟩ hC (fun _ _ q => by obtain ⟨_, rfl⟩ := q; exact hA_len _) (fun rv9 h9 q9 => ?_)
  obtain ⟨rfl, rfl⟩ := q9
  rw [hA_K]
  refine Rch.go rfl ?_
  refine Rch.xa rfl rfl rfl (nI_add (4 * i) 1) (by omega) (by omega) ?_
  refine Rch.call 0 (t_X9_sound c _ s bf kp ik tx (nI t) F [] h.2.2.1 hR (by omega) (f (4 * i + 1))) rfl rfl g_L_56 om_X9_sound rfl (XL_sub n f) rfl rfl rfl rfl ⟨rfl, rfl⟩ hC (fun _ _ q => (RA_len q).trans (HP_len _ _ _ _ _).symm) (fun rv9 h9 q9 => ?_)
  obtain ⟨rfl, c1, r1, n1, q1, s1, bf1, F1, g, rfl⟩ := act_inv h q9
  refine Rch.i_eq rfl (fun _ => ?_) (fun q => absurd rfl q)
  refine Rch.go rfl (Rch.rf ⟨c1, r1, n1, q1, sn, hs, sg, t, kd, bb, od, ex, s1, bf1, kp, ik, tx, F1, cc, cs, by rw [Nat.mul_succ]; exact g, by omega, by omega, ?_⟩)
  unfold lsL
  rw [← n4]
  rfl
theorem L_work {n i : Nat} {f : FA} (hi : 4 * i + 4 ≤ n) (hn : n ≤ 2048) {c : FA} {r : Nat → FA} {nx q : Nat} {sn : FA} {hs : Int32} {sg : FA} {t : Nat} {kd bb : FA} {od ex : Int32} {s bf kp : FA} {ik : Int32} {tx : FA} {F : F4} {cc cs : Nat} (h : INV (13000 * i) c r nx q sn hs sg t s bf kp ik tx) (hcc : cc ≤ 19 + i) (hcs : cs ≤ 2220 + 3 * i) : Rch m_L_law (XL n f) (351, lsL i, [], HP c (r, nI nx, nI q, sn, hs, sg, nI t, kd, bb, od, ex) s (bf, nI q, kp, ik, tx, nI t, F) [], cc, cs) (LI n (i + 1) []) := by
  have hC : cc ≤ mC m_L_law ∧ cs ≤ mS m_L_law := ⟨Nat.le_trans hcc (by show 19 + i ≤ 600000; omega), Nat.le_trans hcs (by show 2220 + 3 * i ≤ 7302250; omega)⟩
  obtain ⟨N, hR⟩ := h.1
  obtain ⟨R, r1, r2⟩ := hR.2.2.2.2.2.2.2.2.2.2
  have n4 : nI (4 * i) + 4 = nI (4 * (i + 1)) := by rw [show nI (4 * i) + 4 = nI (4 * i + 4) from nI_add _ 4, Nat.mul_succ]
  refine Rch.go rfl ?_
  refine Rch.xa rfl rfl rfl (nI_add (4 * i) 1) (by omega) (by omega) ?_
  refine Rch.call 0 (t_X8_work c r _ s _ h.2.1 h.2.2.1 (f (4 * i + 1)) hR.2.2.2.1.1 r2 (by omega)) rfl rfl g_L_45 om_X8_work rfl (XL_sub n f) rfl rfl rfl rfl ⟨rfl, rfl⟩ hC (fun _ _ q => by obtain ⟨_, rfl⟩ := q; exact hA_len _) (fun rv9 h9 q9 => ?_)
  obtain ⟨rfl, rfl⟩ := q9
  rw [hA_K]
  refine Rch.go rfl ?_
  refine Rch.xa rfl rfl rfl (nI_add (4 * i) 1) (by omega) (by omega) ?_
  refine Rch.call 0 (t_X9_work c _ s bf kp ik tx (nI t) F [] h.2.2.1 hR (by omega) (f (4 * i + 1))) rfl rfl g_L_48 om_X9_work rfl (XL_sub n f) rfl rfl rfl rfl ⟨rfl, rfl⟩ hC (fun _ _ q => (RA_len q).trans (HP_len _ _ _ _ _).symm) (fun rv9 h9 q9 => ?_)
  obtain ⟨rfl, c1, r1, n1, q1, s1, bf1, F1, g, rfl⟩ := act_inv h q9
  refine Rch.i_eq rfl (fun _ => ?_) (fun q => absurd rfl q)
  refine Rch.go rfl (Rch.rf ⟨c1, r1, n1, q1, sn, hs, sg, t, kd, bb, od, ex, s1, bf1, kp, ik, tx, F1, cc, cs, by rw [Nat.mul_succ]; exact g, by omega, by omega, ?_⟩)
  unfold lsL
  rw [← n4]
  rfl
theorem L_pass {n i : Nat} {f : FA} (hi : 4 * i + 4 ≤ n) (hn : n ≤ 2048) {c : FA} {r : Nat → FA} {nx q : Nat} {sn : FA} {hs : Int32} {sg : FA} {t : Nat} {kd bb : FA} {od ex : Int32} {s bf kp : FA} {ik : Int32} {tx : FA} {F : F4} {cc cs : Nat} (h : INV (13000 * i) c r nx q sn hs sg t s bf kp ik tx) (hcc : cc ≤ 19 + i) (hcs : cs ≤ 2220 + 3 * i) : Rch m_L_law (XL n f) (374, lsL i, [], HP c (r, nI nx, nI q, sn, hs, sg, nI t, kd, bb, od, ex) s (bf, nI q, kp, ik, tx, nI t, F) [], cc, cs) (LI n (i + 1) []) := by
  have hC : cc ≤ mC m_L_law ∧ cs ≤ mS m_L_law := ⟨Nat.le_trans hcc (by show 19 + i ≤ 600000; omega), Nat.le_trans hcs (by show 2220 + 3 * i ≤ 7302250; omega)⟩
  obtain ⟨N, hR⟩ := h.1
  obtain ⟨R, r1, r2⟩ := hR.2.2.2.2.2.2.2.2.2.2
  have n4 : nI (4 * i) + 4 = nI (4 * (i + 1)) := by rw [show nI (4 * i) + 4 = nI (4 * i + 4) from nI_add _ 4, Nat.mul_succ]
  refine Rch.go rfl ?_
  refine Rch.xa rfl rfl rfl (nI_add (4 * i) 1) (by omega) (by omega) ?_
  refine Rch.call 0 (t_X8_pass c r _ s _ h.2.1 h.2.2.1 (f (4 * i + 1)) r2 (by omega)) rfl rfl g_L_49 om_X8_pass rfl (XL_sub n f) rfl rfl rfl rfl ⟨rfl, rfl⟩ hC (fun _ _ q => by obtain ⟨_, rfl⟩ := q; exact hA_len _) (fun rv9 h9 q9 => ?_)
  obtain ⟨rfl, rfl⟩ := q9
  rw [hA_K]
  refine Rch.go rfl ?_
  refine Rch.xa rfl rfl rfl (nI_add (4 * i) 1) (by omega) (by omega) ?_
  refine Rch.call 0 (t_X9_pass c _ s bf kp ik tx (nI t) F [] h.2.2.1 hR (by omega) (f (4 * i + 1)) r2 r1) rfl rfl g_L_52 om_X9_pass rfl (XL_sub n f) rfl rfl rfl rfl ⟨rfl, rfl⟩ hC (fun _ _ q => (RA_len q).trans (HP_len _ _ _ _ _).symm) (fun rv9 h9 q9 => ?_)
  obtain ⟨rfl, c1, r1, n1, q1, s1, bf1, F1, g, rfl⟩ := act_inv h q9
  refine Rch.i_eq rfl (fun _ => ?_) (fun q => absurd rfl q)
  refine Rch.go rfl (Rch.rf ⟨c1, r1, n1, q1, sn, hs, sg, t, kd, bb, od, ex, s1, bf1, kp, ik, tx, F1, cc, cs, by rw [Nat.mul_succ]; exact g, by omega, by omega, ?_⟩)
  unfold lsL
  rw [← n4]
  rfl
theorem L_tank {n i : Nat} {f : FA} (hi : 4 * i + 4 ≤ n) (hn : n ≤ 2048) {c : FA} {r : Nat → FA} {nx q : Nat} {sn : FA} {hs : Int32} {sg : FA} {t : Nat} {kd bb : FA} {od ex : Int32} {s bf kp : FA} {ik : Int32} {tx : FA} {F : F4} {cc cs : Nat} (h : INV (13000 * i) c r nx q sn hs sg t s bf kp ik tx) (hcc : cc ≤ 19 + i) (hcs : cs ≤ 2220 + 3 * i) : Rch m_L_law (XL n f) (497, lsL i, [], HP c (r, nI nx, nI q, sn, hs, sg, nI t, kd, bb, od, ex) s (bf, nI q, kp, ik, tx, nI t, F) [], cc, cs) (LI n (i + 1) []) := by
  have hC : cc ≤ mC m_L_law ∧ cs ≤ mS m_L_law := ⟨Nat.le_trans hcc (by show 19 + i ≤ 600000; omega), Nat.le_trans hcs (by show 2220 + 3 * i ≤ 7302250; omega)⟩
  obtain ⟨N, hR⟩ := h.1
  have n4 : nI (4 * i) + 4 = nI (4 * (i + 1)) := by rw [show nI (4 * i) + 4 = nI (4 * i + 4) from nI_add _ 4, Nat.mul_succ]
  refine Rch.go rfl ?_
  refine Rch.xa rfl rfl rfl (nI_add (4 * i) 1) (by omega) (by omega) ?_
  refine Rch.go rfl ?_
  refine Rch.xa rfl rfl rfl (nI_add (4 * i) 2) (by omega) (by omega) ?_
  refine Rch.call 0 (t_X8_tank c (r, nI nx, nI q, sn, hs, sg, nI t, kd, bb, od, ex) s (bf, nI q, kp, ik, tx, nI t, F) [] (f (4 * i + 1)) (f (4 * i + 2))) rfl rfl g_L_78 om_X8_tank rfl (XL_sub n f) rfl rfl rfl rfl ⟨rfl, rfl⟩ hC (fun _ _ q => by obtain ⟨_, rfl⟩ := q; rfl) (fun rv9 h9 q9 => ?_)
  obtain ⟨rfl, rfl⟩ := q9
  refine Rch.go rfl ?_
  refine Rch.xa rfl rfl rfl (nI_add (4 * i) 1) (by omega) (by omega) ?_
  refine Rch.go rfl ?_
  refine Rch.xa rfl rfl rfl (nI_add (4 * i) 2) (by omega) (by omega) ?_
  refine Rch.call 0 (t_X9_tank c (c, (r, nI nx, nI q, sn, hs, sg, nI t, kd, bb, od, ex)) s (bf, nI q, kp, ik, tx, nI t, F) [] (f (4 * i + 1)) (f (4 * i + 2)) hR (by omega)) rfl rfl g_L_81 om_X9_tank rfl (XL_sub n f) rfl rfl rfl rfl ⟨rfl, rfl⟩ hC (fun _ _ q => by obtain ⟨_, rfl⟩ := q; rfl) (fun rv9 h9 q9 => ?_)
  obtain ⟨rfl, rfl⟩ := q9
  refine Rch.i_eq rfl (fun _ => ?_) (fun q => absurd rfl q)
  refine Rch.go rfl (Rch.rf ⟨c, r, nx, q, sn, hs, sg, t, kd, bb, od, ex, s, bf, kp, ik, tx, F, cc, cs, by rw [Nat.mul_succ]; exact h.mono (by omega), by omega, by omega, ?_⟩)
  unfold lsL
  rw [← n4]
  rfl
theorem L_hold {n i : Nat} {f : FA} (hi : 4 * i + 4 ≤ n) (hn : n ≤ 2048) {c : FA} {r : Nat → FA} {nx q : Nat} {sn : FA} {hs : Int32} {sg : FA} {t : Nat} {kd bb : FA} {od ex : Int32} {s bf kp : FA} {ik : Int32} {tx : FA} {F : F4} {cc cs : Nat} (h : INV (13000 * i) c r nx q sn hs sg t s bf kp ik tx) (hcc : cc ≤ 19 + i) (hcs : cs ≤ 2220 + 3 * i) : Rch m_L_law (XL n f) (589, lsL i, [], HP c (r, nI nx, nI q, sn, hs, sg, nI t, kd, bb, od, ex) s (bf, nI q, kp, ik, tx, nI t, F) [], cc, cs) (LI n (i + 1) []) := by
  have hC : cc ≤ mC m_L_law ∧ cs ≤ mS m_L_law := ⟨Nat.le_trans hcc (by show 19 + i ≤ 600000; omega), Nat.le_trans hcs (by show 2220 + 3 * i ≤ 7302250; omega)⟩
  obtain ⟨N, hR⟩ := h.1
  have n4 : nI (4 * i) + 4 = nI (4 * (i + 1)) := by rw [show nI (4 * i) + 4 = nI (4 * i + 4) from nI_add _ 4, Nat.mul_succ]
  refine Rch.go rfl ?_
  refine Rch.xa rfl rfl rfl (nI_add (4 * i) 1) (by omega) (by omega) ?_
  refine Rch.go rfl ?_
  refine Rch.xa rfl rfl rfl (nI_add (4 * i) 2) (by omega) (by omega) ?_
  refine Rch.call 0 (t_X8_hold c (r, nI nx, nI q, sn, hs, sg, nI t, kd, bb, od, ex) s (bf, nI q, kp, ik, tx, nI t, F) [] (f (4 * i + 1)) (f (4 * i + 2))) rfl rfl g_L_87 om_X8_hold rfl (XL_sub n f) rfl rfl rfl rfl ⟨rfl, rfl⟩ hC (fun _ _ q => by obtain ⟨_, rfl⟩ := q; rfl) (fun rv9 h9 q9 => ?_)
  obtain ⟨rfl, rfl⟩ := q9
  refine Rch.go rfl ?_
  refine Rch.xa rfl rfl rfl (nI_add (4 * i) 1) (by omega) (by omega) ?_
  refine Rch.go rfl ?_
  refine Rch.xa rfl rfl rfl (nI_add (4 * i) 2) (by omega) (by omega) ?_
  refine Rch.call 0 (t_X9_hold c (c, (r, nI nx, nI q, sn, hs, sg, nI t, kd, bb, od, ex)) s (bf, nI q, kp, ik, tx, nI t, F) [] (f (4 * i + 1)) (f (4 * i + 2)) hR.2.1) rfl rfl g_L_90 om_X9_hold rfl (XL_sub n f) rfl rfl rfl rfl ⟨rfl, rfl⟩ hC (fun _ _ q => by obtain ⟨_, rfl⟩ := q; rfl) (fun rv9 h9 q9 => ?_)
  obtain ⟨rfl, rfl⟩ := q9
  refine Rch.i_eq rfl (fun _ => ?_) (fun q => absurd rfl q)
  refine Rch.go rfl (Rch.rf ⟨c, r, nx, q, sn, hs, sg, t, kd, bb, od, ex, s, bf, kp, ik, tx, F, cc, cs, by rw [Nat.mul_succ]; exact h.mono (by omega), by omega, by omega, ?_⟩)
  unfold lsL
  rw [← n4]
  rfl
theorem L_group {n i : Nat} {f : FA} (hi : 4 * i + 4 ≤ n) (hn : n ≤ 2048) {c : FA} {r : Nat → FA} {nx q : Nat} {sn : FA} {hs : Int32} {sg : FA} {t : Nat} {kd bb : FA} {od ex : Int32} {s bf kp : FA} {ik : Int32} {tx : FA} {F : F4} {cc cs : Nat} (h : INV (13000 * i) c r nx q sn hs sg t s bf kp ik tx) (hcc : cc ≤ 19 + i) (hcs : cs ≤ 2220 + 3 * i) : Rch m_L_law (XL n f) (622, lsL i, [], HP c (r, nI nx, nI q, sn, hs, sg, nI t, kd, bb, od, ex) s (bf, nI q, kp, ik, tx, nI t, F) [], cc, cs) (LI n (i + 1) []) := by
  have hC : cc ≤ mC m_L_law ∧ cs ≤ mS m_L_law := ⟨Nat.le_trans hcc (by show 19 + i ≤ 600000; omega), Nat.le_trans hcs (by show 2220 + 3 * i ≤ 7302250; omega)⟩
  obtain ⟨N, hR⟩ := h.1
  have n4 : nI (4 * i) + 4 = nI (4 * (i + 1)) := by rw [show nI (4 * i) + 4 = nI (4 * i + 4) from nI_add _ 4, Nat.mul_succ]
  refine Rch.go rfl ?_
  refine Rch.xa rfl rfl rfl (nI_add (4 * i) 1) (by omega) (by omega) ?_
  refine Rch.go rfl ?_
  refine Rch.xa rfl rfl rfl (nI_add (4 * i) 2) (by omega) (by omega) ?_
  refine Rch.call 0 (t_X8_group c (r, nI nx, nI q, sn, hs, sg, nI t, kd, bb, od, ex) s (bf, nI q, kp, ik, tx, nI t, F) [] (f (4 * i + 1)) (f (4 * i + 2))) rfl rfl g_L_91 om_X8_group rfl (XL_sub n f) rfl rfl rfl rfl ⟨rfl, rfl⟩ hC (fun _ _ q => by obtain ⟨_, rfl⟩ := q; rfl) (fun rv9 h9 q9 => ?_)
  obtain ⟨rfl, rfl⟩ := q9
  refine Rch.go rfl ?_
  refine Rch.xa rfl rfl rfl (nI_add (4 * i) 1) (by omega) (by omega) ?_
  refine Rch.go rfl ?_
  refine Rch.xa rfl rfl rfl (nI_add (4 * i) 2) (by omega) (by omega) ?_
  refine Rch.call 0 (t_X9_group c (c, (r, nI nx, nI q, sn, hs, sg, nI t, kd, bb, od, ex)) s (bf, nI q, kp, ik, tx, nI t, F) [] (f (4 * i + 1)) (f (4 * i + 2)) hR.1 hR.2.1) rfl rfl g_L_94 om_X9_group rfl (XL_sub n f) rfl rfl rfl rfl ⟨rfl, rfl⟩ hC (fun _ _ q => by obtain ⟨_, rfl⟩ := q; rfl) (fun rv9 h9 q9 => ?_)
  obtain ⟨rfl, rfl⟩ := q9
  refine Rch.i_eq rfl (fun _ => ?_) (fun q => absurd rfl q)
  refine Rch.go rfl (Rch.rf ⟨c, r, nx, q, sn, hs, sg, t, kd, bb, od, ex, s, bf, kp, ik, tx, F, cc, cs, by rw [Nat.mul_succ]; exact h.mono (by omega), by omega, by omega, ?_⟩)
  unfold lsL
  rw [← n4]
  rfl
theorem L_waiting {n i : Nat} {f : FA} (hi : 4 * i + 4 ≤ n) (hn : n ≤ 2048) {c : FA} {r : Nat → FA} {nx q : Nat} {sn : FA} {hs : Int32} {sg : FA} {t : Nat} {kd bb : FA} {od ex : Int32} {s bf kp : FA} {ik : Int32} {tx : FA} {F : F4} {cc cs : Nat} (h : INV (13000 * i) c r nx q sn hs sg t s bf kp ik tx) (hcc : cc ≤ 19 + i) (hcs : cs ≤ 2220 + 3 * i) : Rch m_L_law (XL n f) (655, lsL i, [], HP c (r, nI nx, nI q, sn, hs, sg, nI t, kd, bb, od, ex) s (bf, nI q, kp, ik, tx, nI t, F) [], cc, cs) (LI n (i + 1) []) := by
  have hC : cc ≤ mC m_L_law ∧ cs ≤ mS m_L_law := ⟨Nat.le_trans hcc (by show 19 + i ≤ 600000; omega), Nat.le_trans hcs (by show 2220 + 3 * i ≤ 7302250; omega)⟩
  obtain ⟨N, hR⟩ := h.1
  have n4 : nI (4 * i) + 4 = nI (4 * (i + 1)) := by rw [show nI (4 * i) + 4 = nI (4 * i + 4) from nI_add _ 4, Nat.mul_succ]
  refine Rch.go rfl ?_
  refine Rch.xa rfl rfl rfl (nI_add (4 * i) 1) (by omega) (by omega) ?_
  refine Rch.go rfl ?_
  refine Rch.xa rfl rfl rfl (nI_add (4 * i) 2) (by omega) (by omega) ?_
  refine Rch.call 0 (t_X8_waiting c (r, nI nx, nI q, sn, hs, sg, nI t, kd, bb, od, ex) s (bf, nI q, kp, ik, tx, nI t, F) [] (f (4 * i + 1)) (f (4 * i + 2)) hR.2.2.2.1.1) rfl rfl g_L_95 om_X8_waiting rfl (XL_sub n f) rfl rfl rfl rfl ⟨rfl, rfl⟩ hC (fun _ _ q => by obtain ⟨_, rfl⟩ := q; rfl) (fun rv9 h9 q9 => ?_)
  obtain ⟨rfl, rfl⟩ := q9
  refine Rch.go rfl ?_
  refine Rch.xa rfl rfl rfl (nI_add (4 * i) 1) (by omega) (by omega) ?_
  refine Rch.go rfl ?_
  refine Rch.xa rfl rfl rfl (nI_add (4 * i) 2) (by omega) (by omega) ?_
  refine Rch.call 0 (t_X9_waiting c (c, (r, nI nx, nI q, sn, hs, sg, nI t, kd, bb, od, ex)) s (bf, nI q, kp, ik, tx, nI t, F) [] (f (4 * i + 1)) (f (4 * i + 2)) hR) rfl rfl g_L_98 om_X9_waiting rfl (XL_sub n f) rfl rfl rfl rfl ⟨rfl, rfl⟩ hC (fun _ _ q => by obtain ⟨_, rfl⟩ := q; rfl) (fun rv9 h9 q9 => ?_)
  obtain ⟨rfl, rfl⟩ := q9
  refine Rch.i_eq rfl (fun _ => ?_) (fun q => absurd rfl q)
  refine Rch.go rfl (Rch.rf ⟨c, r, nx, q, sn, hs, sg, t, kd, bb, od, ex, s, bf, kp, ik, tx, F, cc, cs, by rw [Nat.mul_succ]; exact h.mono (by omega), by omega, by omega, ?_⟩)
  unfold lsL
  rw [← n4]
  rfl
theorem L_trimMoment {n i : Nat} {f : FA} (hi : 4 * i + 4 ≤ n) (hn : n ≤ 2048) {c : FA} {r : Nat → FA} {nx q : Nat} {sn : FA} {hs : Int32} {sg : FA} {t : Nat} {kd bb : FA} {od ex : Int32} {s bf kp : FA} {ik : Int32} {tx : FA} {F : F4} {cc cs : Nat} (h : INV (13000 * i) c r nx q sn hs sg t s bf kp ik tx) (hcc : cc ≤ 19 + i) (hcs : cs ≤ 2220 + 3 * i) : Rch m_L_law (XL n f) (688, lsL i, [], HP c (r, nI nx, nI q, sn, hs, sg, nI t, kd, bb, od, ex) s (bf, nI q, kp, ik, tx, nI t, F) [], cc, cs) (LI n (i + 1) []) := by
  have hC : cc ≤ mC m_L_law ∧ cs ≤ mS m_L_law := ⟨Nat.le_trans hcc (by show 19 + i ≤ 600000; omega), Nat.le_trans hcs (by show 2220 + 3 * i ≤ 7302250; omega)⟩
  obtain ⟨N, hR⟩ := h.1
  have n4 : nI (4 * i) + 4 = nI (4 * (i + 1)) := by rw [show nI (4 * i) + 4 = nI (4 * i + 4) from nI_add _ 4, Nat.mul_succ]
  refine Rch.go rfl ?_
  refine Rch.xa rfl rfl rfl (nI_add (4 * i) 1) (by omega) (by omega) ?_
  refine Rch.call 0 (t_X8_trimMoment c (r, nI nx, nI q, sn, hs, sg, nI t, kd, bb, od, ex) s (bf, nI q, kp, ik, tx, nI t, F) [] (f (4 * i + 1))) rfl rfl g_L_99 om_X8_trimMoment rfl (XL_sub n f) rfl rfl rfl rfl ⟨rfl, rfl⟩ hC (fun _ _ q => by obtain ⟨_, rfl⟩ := q; rfl) (fun rv9 h9 q9 => ?_)
  obtain ⟨rfl, rfl⟩ := q9
  refine Rch.go rfl ?_
  refine Rch.xa rfl rfl rfl (nI_add (4 * i) 1) (by omega) (by omega) ?_
  refine Rch.call 0 (t_X9_trimMoment c (c, (r, nI nx, nI q, sn, hs, sg, nI t, kd, bb, od, ex)) s (bf, nI q, kp, ik, tx, nI t, F) [] (f (4 * i + 1)) hR.1 hR.2.1) rfl rfl g_L_102 om_X9_trimMoment rfl (XL_sub n f) rfl rfl rfl rfl ⟨rfl, rfl⟩ hC (fun _ _ q => by obtain ⟨_, rfl⟩ := q; rfl) (fun rv9 h9 q9 => ?_)
  obtain ⟨rfl, rfl⟩ := q9
  refine Rch.i_eq rfl (fun _ => ?_) (fun q => absurd rfl q)
  refine Rch.go rfl (Rch.rf ⟨c, r, nx, q, sn, hs, sg, t, kd, bb, od, ex, s, bf, kp, ik, tx, F, cc, cs, by rw [Nat.mul_succ]; exact h.mono (by omega), by omega, by omega, ?_⟩)
  unfold lsL
  rw [← n4]
  rfl
theorem L_count {n i : Nat} {f : FA} (hi : 4 * i + 4 ≤ n) (hn : n ≤ 2048) {c : FA} {r : Nat → FA} {nx q : Nat} {sn : FA} {hs : Int32} {sg : FA} {t : Nat} {kd bb : FA} {od ex : Int32} {s bf kp : FA} {ik : Int32} {tx : FA} {F : F4} {cc cs : Nat} (h : INV (13000 * i) c r nx q sn hs sg t s bf kp ik tx) (hcc : cc ≤ 19 + i) (hcs : cs ≤ 2220 + 3 * i) : Rch m_L_law (XL n f) (744, lsL i, [], HP c (r, nI nx, nI q, sn, hs, sg, nI t, kd, bb, od, ex) s (bf, nI q, kp, ik, tx, nI t, F) [], cc, cs) (LI n (i + 1) []) := by
  have hC : cc ≤ mC m_L_law ∧ cs ≤ mS m_L_law := ⟨Nat.le_trans hcc (by show 19 + i ≤ 600000; omega), Nat.le_trans hcs (by show 2220 + 3 * i ≤ 7302250; omega)⟩
  obtain ⟨N, hR⟩ := h.1
  have n4 : nI (4 * i) + 4 = nI (4 * (i + 1)) := by rw [show nI (4 * i) + 4 = nI (4 * i + 4) from nI_add _ 4, Nat.mul_succ]
  refine Rch.go rfl ?_
  refine Rch.xa rfl rfl rfl (nI_add (4 * i) 1) (by omega) (by omega) ?_
  refine Rch.call 0 (t_X8_count c (r, nI nx, nI q, sn, hs, sg, nI t, kd, bb, od, ex) s (bf, nI q, kp, ik, tx, nI t, F) [] (f (4 * i + 1))) rfl rfl g_L_107 om_X8_count rfl (XL_sub n f) rfl rfl rfl rfl ⟨rfl, rfl⟩ hC (fun _ _ q => by obtain ⟨_, rfl⟩ := q; rfl) (fun rv9 h9 q9 => ?_)
  obtain ⟨rfl, rfl⟩ := q9
  refine Rch.go rfl ?_
  refine Rch.xa rfl rfl rfl (nI_add (4 * i) 1) (by omega) (by omega) ?_
  refine Rch.call 0 (t_X9_count c (c, (r, nI nx, nI q, sn, hs, sg, nI t, kd, bb, od, ex)) s (bf, nI q, kp, ik, tx, nI t, F) [] (f (4 * i + 1)) hR) rfl rfl g_L_110 om_X9_count rfl (XL_sub n f) rfl rfl rfl rfl ⟨rfl, rfl⟩ hC (fun _ _ q => by obtain ⟨_, rfl⟩ := q; rfl) (fun rv9 h9 q9 => ?_)
  obtain ⟨rfl, rfl⟩ := q9
  refine Rch.i_eq rfl (fun _ => ?_) (fun q => absurd rfl q)
  refine Rch.go rfl (Rch.rf ⟨c, r, nx, q, sn, hs, sg, t, kd, bb, od, ex, s, bf, kp, ik, tx, F, cc, cs, by rw [Nat.mul_succ]; exact h.mono (by omega), by omega, by omega, ?_⟩)
  unfold lsL
  rw [← n4]
  rfl
end LA
