/-! ===== the law: work is so ===== -/
def BKz (c : FA) (n : Nat) (K : KR) (s : FA) (L : LS9) (rv : Option Value) (h9 : AH) : Prop := rv = some (.int 1) ∧ ∃ (c' : FA) (r' : Nat → FA) (q' : Nat), q' ≤ 4 ∧ (∀ j, j < 162 → c' j = c j) ∧ h9 = HP c' (r', nI n, nI q', K) s L []
theorem wkz {B N R : Nat} {c : FA} (h : Gdz B c) (hN : RowOk c N) (h0 : 0 < N) (hR : c 128 = nI R) (hR9 : R ≤ 9) : ∃ (k b : Nat) (d : FA), k < 5 ∧ (k < 2 → b < 5) ∧ b ≤ 60 ∧ wrk c 1 = (d 160 - c 160, some d) ∧ wai c 0 0 = nI k ∧ wai c 0 1 = nI b ∧ wai c 0 2 = rsn c k b ∧ RowOk d (N - 1) ∧ wai d 0 1 = wai c 1 1 ∧ d 156 = c 156 + (if rsn c k b = 0 ∧ 2 ≤ k then nI b else 0) ∧ d 160 - c 160 = (if rsn c k b = 0 then 0 else 1) ∧ (k < 2 → d (123 + b) = if k = 0 then 1 else 0) ∧ (k = 4 → pzT d + lostS d = pzT c + lostS c) ∧ (k = 2 → dpz c → dpz d) := by
  have hN12 := hN.2.1
  obtain ⟨k, b, e1, e2, e3, e4, e5, e6⟩ := hN.2.2 0 h0
  have e1 : c 131 = nI k := e1
  have e2 : c 143 = nI b := e2
  have n1 : ix (c 155) = N := by rw [hN.1]; exact ix_nI (by omega)
  have n2 : ix (c 131) = k := by rw [e1]; exact ix_nI (by omega)
  have n3 : ix (c 143) = b := by rw [e2]; exact ix_nI (by omega)
  have n4 : ix (c 128) = R := by rw [hR]; exact ix_nI (by omega)
  have c0 : ¬ c 155 ≤ 0 := by
    rw [hN.1]
    intro q
    have := (nI_leI (b := 0) (by omega) (by decide)).mp q
    omega
  have cz : ¬ c 155 = 0 := fun q => c0 (by rw [q]; exact Int32.le_refl _)
  have ew : wf c = wof c N k b R := by unfold wf; rw [n1, if_neg (by omega), n2, n3, n4]
  have i0 : ix (0 : Int32) = 0 := ix_nI (j := 0) (by decide)
  have i1 : ix (1 : Int32) = 1 := ix_nI (j := 1) (by decide)
  have wa : ∀ w : Int32, 0 ≤ w ∧ w ≤ 2 → wai c 0 w = if w = 0 then nI k else if w = 1 then nI b else rsn c k b := by
    intro w hw
    unfold wai
    rw [if_neg (fun q => q.elim (by decide) (fun q => q hw)), if_neg c0, i0, show 131 + 0 = 131 from rfl, show 143 + 0 = 143 from rfl, n2, n3, e1, e2]
  obtain ⟨a1, a2, a3, a4, a5, a6, a7, a8⟩ := wof_A (r := R) h hN h0 e3 e4 e6
  refine ⟨k, b, wof c N k b R, e3, e4, e6, ?_, ?_, ?_, ?_, a2, ?_, a3, ?_, a6, a7, a8⟩
  · unfold wrk
    rw [if_neg (by decide), if_neg cz, i1, show wfs c 1 = wf c from rfl, ew]
  · rw [wa 0 (by decide), if_pos rfl]
  · rw [wa 1 (by decide), if_neg (by decide), if_pos rfl]
  · rw [wa 2 (by decide), if_neg (by decide), if_neg (by decide)]
  · have g1 : ∀ D : FA, wai D 0 1 = if D 155 ≤ 0 then -1005 else D 143 := by
      intro D
      unfold wai
      rw [if_neg (by decide), i0, if_neg (show ¬ (1 : Int32) = 0 by decide), if_pos (show (1 : Int32) = 1 from rfl)]
    have g2 : wai c 1 1 = if c 155 ≤ 1 then -1005 else c 144 := by
      unfold wai
      rw [if_neg (by decide), i1, if_neg (show ¬ (1 : Int32) = 0 by decide), if_pos (show (1 : Int32) = 1 from rfl)]
    have p1 : wof c N k b R 155 ≤ 0 ↔ N = 1 := by
      rw [a2.1]
      exact ⟨fun q => by have := (nI_leI (b := 0) (by omega) (by decide)).mp q; omega, fun q => (nI_leI (b := 0) (by omega) (by decide)).mpr (by omega)⟩
    have p2 : c 155 ≤ 1 ↔ N = 1 := by
      rw [hN.1]
      exact ⟨fun q => by have := (nI_leI (b := 1) (by omega) (by decide)).mp q; omega, fun q => (nI_leI (b := 1) (by omega) (by decide)).mpr (by omega)⟩
    rw [g1, g2]
    by_cases y : N = 1
    · rw [if_pos (p1.mpr y), if_pos (p2.mpr y)]
    · rw [if_neg (fun q => y (p1.mp q)), if_neg (fun q => y (p2.mp q)), wof_fx hN12 e4 (by omega)]
      unfold tko
      rw [pk_un (by omega), tkf_at c _ _ (by omega), if_pos (by omega)]
  · rw [a5]
    grind
section LW
theorem t_L_isWorkSo (c : FA) (r : Nat → FA) (K : KR) (s : FA) (L : LS9) {n q : Nat} (hn : n < 4) (hq : q ≤ 4) {B : Nat} (h : Gdz B c) : Ct m_L_isWorkSo X0 [.ref 0] (HP c (r, nI n, nI q, K) s L []) (BKz c n K s L) := by
  obtain ⟨N, hN⟩ := h.2.2.1
  have hN12 := hN.2.1
  obtain ⟨R, hR9, hR⟩ := h.rate
  refine ⟨ok_L_isWorkSo, ?_⟩
  refine Rch.go rfl ?_
  refine Rch.call 0 (t_X8_waiting c _ s L [] _ _ hN) rfl rfl g_L_63 om_X8_waiting rfl (fun _ _ _ q => q) rfl rfl rfl rfl ⟨rfl, rfl⟩ ⟨by decide, by decide⟩ (fun _ _ q => by obtain ⟨_, rfl⟩ := q; first | with_reducible rfl | (rw [HP_len, HP_len]; done) | rfl) (fun rv9 h9 q9 => ?_)
  obtain ⟨rfl, rfl⟩ := q9
  refine Rch.go rfl ?_
  refine Rch.call 0 (t_X8_count c _ s L [] _) rfl rfl g_L_57 om_X8_count rfl (fun _ _ _ q => q) rfl rfl rfl rfl ⟨rfl, rfl⟩ ⟨by decide, by decide⟩ (fun _ _ q => by obtain ⟨_, rfl⟩ := q; first | with_reducible rfl | (rw [HP_len, HP_len]; done) | rfl) (fun rv9 h9 q9 => ?_)
  obtain ⟨rfl, rfl⟩ := q9
  rw [cou_12, hN.1]
  refine Rch.go rfl ?_
  refine Rch.call 0 (t_X8_count c _ s L [] _) rfl rfl g_L_57 om_X8_count rfl (fun _ _ _ q => q) rfl rfl rfl rfl ⟨rfl, rfl⟩ ⟨by decide, by decide⟩ (fun _ _ q => by obtain ⟨_, rfl⟩ := q; first | with_reducible rfl | (rw [HP_len, HP_len]; done) | rfl) (fun rv9 h9 q9 => ?_)
  obtain ⟨rfl, rfl⟩ := q9
  rw [cou_13]
  refine Rch.go rfl ?_
  refine Rch.call 0 (t_X8_count c _ s L [] _) rfl rfl g_L_57 om_X8_count rfl (fun _ _ _ q => q) rfl rfl rfl rfl ⟨rfl, rfl⟩ ⟨by decide, by decide⟩ (fun _ _ q => by obtain ⟨_, rfl⟩ := q; first | with_reducible rfl | (rw [HP_len, HP_len]; done) | rfl) (fun rv9 h9 q9 => ?_)
  obtain ⟨rfl, rfl⟩ := q9
  rw [cou_7]
  refine Rch.go rfl ?_
  by_cases h0 : N = 0
  · subst h0
    refine Rch.z_ne rfl (fun _ => ?_) (fun q => absurd rfl q)
    have z0 : c 155 = 0 := hN.1
    have e1 : wai c 0 2 = -1005 := by
      unfold wai
      rw [if_neg (by decide), if_pos (by rw [z0]; exact Int32.le_refl _)]
    have e2 : wrk c 1 = (-1005, none) := by
      unfold wrk
      rw [if_neg (by decide), if_pos z0]
    rw [e1]
    refine Rch.go rfl ?_
    refine Rch.i_ne rfl (fun _ => ?_) (fun q => absurd rfl q)
    refine Rch.go rfl ?_
    refine Rch.call 0 (t_X8_work c r K s L hn hq 1 hN hR (by omega)) rfl rfl g_L_36 om_X8_work rfl (fun _ _ _ q => q) rfl rfl rfl rfl ⟨rfl, rfl⟩ ⟨by decide, by decide⟩ (fun _ _ q => by obtain ⟨_, rfl⟩ := q; exact hA_len _) (fun rv9 h9 q9 => ?_)
    obtain ⟨rfl, rfl⟩ := q9
    rw [e2]
    refine Rch.go rfl ?_
    refine Rch.i_ne rfl (fun _ => ?_) (fun q => absurd rfl q)
    refine Rch.go rfl ?_
    exact Rch.ri rfl rfl rfl (by decide) (by decide) (⟨rfl, c, r, q, hq, fun _ _ => rfl, rfl⟩)
  refine Rch.z_ne rfl (fun q => absurd q (nI_ne0 (by omega) (by omega))) (fun _ => ?_)
  obtain ⟨k, b, d, e3, e4, e6, w1, w2, w3, w4, f1, f2, f3, f4, f5, f6, f7⟩ := wkz h hN (by omega) hR hR9
  rw [w4]
  refine Rch.go rfl ?_
  refine Rch.call 0 (t_X8_waiting c _ s L [] _ _ hN) rfl rfl g_L_63 om_X8_waiting rfl (fun _ _ _ q => q) rfl rfl rfl rfl ⟨rfl, rfl⟩ ⟨by decide, by decide⟩ (fun _ _ q => by obtain ⟨_, rfl⟩ := q; first | with_reducible rfl | (rw [HP_len, HP_len]; done) | rfl) (fun rv9 h9 q9 => ?_)
  obtain ⟨rfl, rfl⟩ := q9
  rw [w2]
  refine Rch.go rfl ?_
  refine Rch.call 0 (t_X8_waiting c _ s L [] _ _ hN) rfl rfl g_L_63 om_X8_waiting rfl (fun _ _ _ q => q) rfl rfl rfl rfl ⟨rfl, rfl⟩ ⟨by decide, by decide⟩ (fun _ _ q => by obtain ⟨_, rfl⟩ := q; first | with_reducible rfl | (rw [HP_len, HP_len]; done) | rfl) (fun rv9 h9 q9 => ?_)
  obtain ⟨rfl, rfl⟩ := q9
  rw [w3]
  refine Rch.go rfl ?_
  refine Rch.call 0 (t_X8_waiting c _ s L [] _ _ hN) rfl rfl g_L_63 om_X8_waiting rfl (fun _ _ _ q => q) rfl rfl rfl rfl ⟨rfl, rfl⟩ ⟨by decide, by decide⟩ (fun _ _ q => by obtain ⟨_, rfl⟩ := q; first | with_reducible rfl | (rw [HP_len, HP_len]; done) | rfl) (fun rv9 h9 q9 => ?_)
  obtain ⟨rfl, rfl⟩ := q9
  refine Rch.go rfl ?_
  refine Rch.call 0 (t_X8_count c _ s L [] _) rfl rfl g_L_57 om_X8_count rfl (fun _ _ _ q => q) rfl rfl rfl rfl ⟨rfl, rfl⟩ ⟨by decide, by decide⟩ (fun _ _ q => by obtain ⟨_, rfl⟩ := q; first | with_reducible rfl | (rw [HP_len, HP_len]; done) | rfl) (fun rv9 h9 q9 => ?_)
  obtain ⟨rfl, rfl⟩ := q9
  rw [cou_6]
  refine Rch.go rfl ?_
  refine Rch.call 0 (t_X8_count c _ s L [] _) rfl rfl g_L_57 om_X8_count rfl (fun _ _ _ q => q) rfl rfl rfl rfl ⟨rfl, rfl⟩ ⟨by decide, by decide⟩ (fun _ _ q => by obtain ⟨_, rfl⟩ := q; first | with_reducible rfl | (rw [HP_len, HP_len]; done) | rfl) (fun rv9 h9 q9 => ?_)
  obtain ⟨rfl, rfl⟩ := q9
  rw [cou_10]
  refine Rch.go rfl ?_
  refine Rch.call 0 (t_X8_count c _ s L [] _) rfl rfl g_L_57 om_X8_count rfl (fun _ _ _ q => q) rfl rfl rfl rfl ⟨rfl, rfl⟩ ⟨by decide, by decide⟩ (fun _ _ q => by obtain ⟨_, rfl⟩ := q; first | with_reducible rfl | (rw [HP_len, HP_len]; done) | rfl) (fun rv9 h9 q9 => ?_)
  obtain ⟨rfl, rfl⟩ := q9
  rw [cou_3]
  refine Rch.go rfl ?_
  refine Rch.call 0 (t_X8_count c _ s L [] _) rfl rfl g_L_57 om_X8_count rfl (fun _ _ _ q => q) rfl rfl rfl rfl ⟨rfl, rfl⟩ ⟨by decide, by decide⟩ (fun _ _ q => by obtain ⟨_, rfl⟩ := q; first | with_reducible rfl | (rw [HP_len, HP_len]; done) | rfl) (fun rv9 h9 q9 => ?_)
  obtain ⟨rfl, rfl⟩ := q9
  rw [cou_18]
  have fin : ∀ v10 : Int32, (v10 = 0 → dpz c) → Rch m_L_isWorkSo X0 (114, [(0, .ref 0), (1, .int (rsn c k b)), (2, .int (nI N)), (3, .int (c 160)), (4, .int (c 156)), (5, .int (nI k)), (6, .int (nI b)), (7, .int (wai c 1 1)), (8, .int (pzT c)), (9, .int (lostS c))], [.int v10], HP c (r, nI n, nI q, K) s L [], 0, 0) (RetP m_L_isWorkSo (BKz c n K s L)) := by
    intro v10 hv10
    have q1 : (if q < 4 then q + 1 else 4) ≤ 4 ∧ 0 < (if q < 4 then q + 1 else 4) := by split <;> omega
    have q2 : ¬ (if q < 4 then q + 1 else 4) = 0 := by omega
    have en : ((n + 1) % 4 + 3) % 4 = n := by omega
    have ec : ∀ j, j < 162 → cp (vup r n (cp c (r n)) n) d j = c j := by
      intro j hj
      have g1 : vup r n (cp c (r n)) n = cp c (r n) := if_pos rfl
      rw [g1]
      show (if j < 162 then (if j < 162 then c j else r n j) else d j) = c j
      rw [if_pos hj, if_pos hj]
    have fin6 : Rch m_L_isWorkSo X0 (285, [(0, .ref 0), (1, .int (rsn c k b)), (2, .int (nI N)), (3, .int (c 160)), (4, .int (c 156)), (5, .int (nI k)), (6, .int (nI b)), (7, .int (wai c 1 1)), (8, .int (pzT c)), (9, .int (lostS c)), (10, .int (v10)), (11, .int (d 160 - c 160)), (12, .int (1))], [], HP d (vup r n (cp c (r n)), nI ((n + 1) % 4), nI (if q < 4 then q + 1 else 4), K) s L [], 0, 0) (RetP m_L_isWorkSo (BKz c n K s L)) := by
      refine Rch.go rfl ?_
      refine Rch.call 0 (t_X8_undo d _ K s L (Nat.mod_lt _ (by decide)) q1.1) rfl rfl g_L_66 om_X8_undo rfl (fun _ _ _ q => q) rfl rfl rfl rfl ⟨rfl, rfl⟩ ⟨by decide, by decide⟩ (fun _ _ q => by obtain ⟨_, rfl⟩ := q; first | with_reducible rfl | (rw [HP_len, HP_len]; done) | rfl) (fun rv9 h9 q9 => ?_)
      obtain ⟨rfl, rfl⟩ := q9
      rw [if_neg q2, if_neg q2, if_neg q2, en]
      refine Rch.go rfl ?_
      refine Rch.z_eq rfl (fun q => absurd q (by decide)) (fun _ => ?_)
      refine Rch.go rfl ?_
      refine Rch.z_lt rfl (fun z => absurd z (nI_pos (by omega))) (fun _ => ?_)
      refine Rch.go rfl ?_
      refine Rch.call 0 (t_X8_count _ _ s L [] _) rfl rfl g_L_57 om_X8_count rfl (fun _ _ _ q => q) rfl rfl rfl rfl ⟨rfl, rfl⟩ ⟨by decide, by decide⟩ (fun _ _ q => by obtain ⟨_, rfl⟩ := q; first | with_reducible rfl | (rw [HP_len, HP_len]; done) | rfl) (fun rv9 h9 q9 => ?_)
      obtain ⟨rfl, rfl⟩ := q9
      rw [cou_12, ec 155 (by decide), hN.1]
      refine Rch.go rfl ?_
      refine Rch.i_ne rfl (fun _ => ?_) (fun q => absurd rfl q)
      refine Rch.go rfl ?_
      exact Rch.ri rfl rfl rfl (by decide) (by decide) (⟨rfl, _, _, _, by omega, ec, rfl⟩)
    have fin5 : Rch m_L_isWorkSo X0 (260, [(0, .ref 0), (1, .int (rsn c k b)), (2, .int (nI N)), (3, .int (c 160)), (4, .int (c 156)), (5, .int (nI k)), (6, .int (nI b)), (7, .int (wai c 1 1)), (8, .int (pzT c)), (9, .int (lostS c)), (10, .int (v10)), (11, .int (d 160 - c 160)), (12, .int (1))], [], HP d (vup r n (cp c (r n)), nI ((n + 1) % 4), nI (if q < 4 then q + 1 else 4), K) s L [], 0, 0) (RetP m_L_isWorkSo (BKz c n K s L)) := by
      refine Rch.go rfl ?_
      refine Rch.i_ne rfl (fun z => ?_) (fun z => ?_)
      · have hk : k = 2 := (nI_eq (b := 2) (by omega) (by decide)).mp z
        refine Rch.go rfl ?_
        refine Rch.z_ne rfl (fun z2 => ?_) (fun z2 => ?_)
        · refine Rch.go rfl ?_
          refine Rch.call 0 (t_X8_count d _ s L [] _) rfl rfl g_L_57 om_X8_count rfl (fun _ _ _ q => q) rfl rfl rfl rfl ⟨rfl, rfl⟩ ⟨by decide, by decide⟩ (fun _ _ q => by obtain ⟨_, rfl⟩ := q; first | with_reducible rfl | (rw [HP_len, HP_len]; done) | rfl) (fun rv9 h9 q9 => ?_)
          obtain ⟨rfl, rfl⟩ := q9
          rw [cou_3]
          refine Rch.go rfl ?_
          refine Rch.call 0 (t_X8_count d _ s L [] _) rfl rfl g_L_57 om_X8_count rfl (fun _ _ _ q => q) rfl rfl rfl rfl ⟨rfl, rfl⟩ ⟨by decide, by decide⟩ (fun _ _ q => by obtain ⟨_, rfl⟩ := q; first | with_reducible rfl | (rw [HP_len, HP_len]; done) | rfl) (fun rv9 h9 q9 => ?_)
          obtain ⟨rfl, rfl⟩ := q9
          rw [cou_18]
          refine Rch.i_gt rfl (fun q => absurd (f7 hk (hv10 z2)) (Int32.not_le.mpr q)) (fun _ => ?_)
          exact fin6
        · exact fin6
      · exact fin6
    have fin4 : Rch m_L_isWorkSo X0 (233, [(0, .ref 0), (1, .int (rsn c k b)), (2, .int (nI N)), (3, .int (c 160)), (4, .int (c 156)), (5, .int (nI k)), (6, .int (nI b)), (7, .int (wai c 1 1)), (8, .int (pzT c)), (9, .int (lostS c)), (10, .int (v10)), (11, .int (d 160 - c 160)), (12, .int (1))], [], HP d (vup r n (cp c (r n)), nI ((n + 1) % 4), nI (if q < 4 then q + 1 else 4), K) s L [], 0, 0) (RetP m_L_isWorkSo (BKz c n K s L)) := by
      refine Rch.go rfl ?_
      refine Rch.i_ne rfl (fun z => ?_) (fun z => ?_)
      · have hk : k = 4 := (nI_eq (b := 4) (by omega) (by decide)).mp z
        refine Rch.go rfl ?_
        refine Rch.call 0 (t_X8_count d _ s L [] _) rfl rfl g_L_57 om_X8_count rfl (fun _ _ _ q => q) rfl rfl rfl rfl ⟨rfl, rfl⟩ ⟨by decide, by decide⟩ (fun _ _ q => by obtain ⟨_, rfl⟩ := q; first | with_reducible rfl | (rw [HP_len, HP_len]; done) | rfl) (fun rv9 h9 q9 => ?_)
        obtain ⟨rfl, rfl⟩ := q9
        rw [cou_6]
        refine Rch.go rfl ?_
        refine Rch.call 0 (t_X8_count d _ s L [] _) rfl rfl g_L_57 om_X8_count rfl (fun _ _ _ q => q) rfl rfl rfl rfl ⟨rfl, rfl⟩ ⟨by decide, by decide⟩ (fun _ _ q => by obtain ⟨_, rfl⟩ := q; first | with_reducible rfl | (rw [HP_len, HP_len]; done) | rfl) (fun rv9 h9 q9 => ?_)
        obtain ⟨rfl, rfl⟩ := q9
        rw [cou_10]
        refine Rch.go rfl ?_
        refine Rch.i_ne rfl (fun _ => ?_) (fun q => absurd (f6 hk) q)
        exact fin5
      · exact fin5
    have fin3 : ∀ w : Int32, w = (if rsn c k b = 0 ∧ 2 ≤ k then nI b else 0) → Rch m_L_isWorkSo X0 (209, [(0, .ref 0), (1, .int (rsn c k b)), (2, .int (nI N)), (3, .int (c 160)), (4, .int (c 156)), (5, .int (nI k)), (6, .int (nI b)), (7, .int (wai c 1 1)), (8, .int (pzT c)), (9, .int (lostS c)), (10, .int (v10)), (11, .int (d 160 - c 160)), (12, .int (1))], [.int w, .int (c 156), .int (d 156)], HP d (vup r n (cp c (r n)), nI ((n + 1) % 4), nI (if q < 4 then q + 1 else 4), K) s L [], 0, 0) (RetP m_L_isWorkSo (BKz c n K s L)) := by
      intro w hw
      subst hw
      refine Rch.st 1 rfl ?_
      refine Rch.i_ne rfl (fun _ => ?_) (fun q => absurd f3 q)
      refine Rch.go rfl ?_
      refine Rch.i_gt rfl (fun z => ?_) (fun z => ?_)
      · exact fin4
      · have hk : k < 2 := Nat.not_le.mp (fun q => z ((nI_ltI (a := 1) (by decide) (by omega)).mpr (by omega)))
        refine Rch.go rfl ?_
        refine Rch.call 0 (t_X8_group d _ s L [] _ _) rfl rfl g_L_48 om_X8_group rfl (fun _ _ _ q => q) rfl rfl rfl rfl ⟨rfl, rfl⟩ ⟨by decide, by decide⟩ (fun _ _ q => by obtain ⟨_, rfl⟩ := q; first | with_reducible rfl | (rw [HP_len, HP_len]; done) | rfl) (fun rv9 h9 q9 => ?_)
        obtain ⟨rfl, rfl⟩ := q9
        rw [grp_1 (e4 hk)]
        refine Rch.go rfl ?_
        refine Rch.i_ne rfl (fun _ => ?_) (fun q => absurd ?_ q)
        · exact fin4
        · rw [f5 hk]
          match k, hk with
          | 0, _ => decide
          | 1, _ => decide
          | k + 2, q => exact absurd q (by omega)
    have fin2 : ∀ w : Int32, w = d 160 - c 160 → Rch m_L_isWorkSo X0 (134, [(0, .ref 0), (1, .int (rsn c k b)), (2, .int (nI N)), (3, .int (c 160)), (4, .int (c 156)), (5, .int (nI k)), (6, .int (nI b)), (7, .int (wai c 1 1)), (8, .int (pzT c)), (9, .int (lostS c)), (10, .int (v10)), (11, .int (d 160 - c 160))], [.int w, .int (d 160 - c 160)], HP d (vup r n (cp c (r n)), nI ((n + 1) % 4), nI (if q < 4 then q + 1 else 4), K) s L [], 0, 0) (RetP m_L_isWorkSo (BKz c n K s L)) := by
      intro w hw
      refine Rch.i_ne rfl (fun _ => ?_) (fun q => absurd hw.symm q)
      refine Rch.go rfl ?_
      refine Rch.call 0 (t_X8_count d _ s L [] _) rfl rfl g_L_57 om_X8_count rfl (fun _ _ _ q => q) rfl rfl rfl rfl ⟨rfl, rfl⟩ ⟨by decide, by decide⟩ (fun _ _ q => by obtain ⟨_, rfl⟩ := q; first | with_reducible rfl | (rw [HP_len, HP_len]; done) | rfl) (fun rv9 h9 q9 => ?_)
      obtain ⟨rfl, rfl⟩ := q9
      rw [cou_12, f1.1]
      refine Rch.go rfl ?_
      refine Rch.i_ne rfl (fun _ => ?_) (fun q => absurd (nI_sub (b := 1) (by omega)).symm q)
      refine Rch.go rfl ?_
      refine Rch.call 0 (t_X8_count d _ s L [] _) rfl rfl g_L_57 om_X8_count rfl (fun _ _ _ q => q) rfl rfl rfl rfl ⟨rfl, rfl⟩ ⟨by decide, by decide⟩ (fun _ _ q => by obtain ⟨_, rfl⟩ := q; first | with_reducible rfl | (rw [HP_len, HP_len]; done) | rfl) (fun rv9 h9 q9 => ?_)
      obtain ⟨rfl, rfl⟩ := q9
      rw [cou_13]
      refine Rch.go rfl ?_
      refine Rch.i_ne rfl (fun _ => ?_) (fun q => absurd (by grind) q)
      refine Rch.go rfl ?_
      refine Rch.call 0 (t_X8_waiting d _ s L [] _ _ f1) rfl rfl g_L_63 om_X8_waiting rfl (fun _ _ _ q => q) rfl rfl rfl rfl ⟨rfl, rfl⟩ ⟨by decide, by decide⟩ (fun _ _ q => by obtain ⟨_, rfl⟩ := q; first | with_reducible rfl | (rw [HP_len, HP_len]; done) | rfl) (fun rv9 h9 q9 => ?_)
      obtain ⟨rfl, rfl⟩ := q9
      refine Rch.go rfl ?_
      refine Rch.i_ne rfl (fun _ => ?_) (fun q => absurd f2 q)
      refine Rch.go rfl ?_
      refine Rch.z_eq rfl (fun q => absurd q (by decide)) (fun _ => ?_)
      refine Rch.go rfl ?_
      refine Rch.call 0 (t_X8_count d _ s L [] _) rfl rfl g_L_57 om_X8_count rfl (fun _ _ _ q => q) rfl rfl rfl rfl ⟨rfl, rfl⟩ ⟨by decide, by decide⟩ (fun _ _ q => by obtain ⟨_, rfl⟩ := q; first | with_reducible rfl | (rw [HP_len, HP_len]; done) | rfl) (fun rv9 h9 q9 => ?_)
      obtain ⟨rfl, rfl⟩ := q9
      rw [cou_7]
      refine Rch.go rfl ?_
      refine Rch.i_le rfl (fun z => ?_) (fun z => ?_)
      · have hk : ¬ (rsn c k b = 0 ∧ 2 ≤ k) := fun q => by
          have := (nI_leI (b := 1) (by omega) (by decide)).mp z
          omega
        refine Rch.st 1 rfl ?_
        exact fin3 0 (if_neg hk).symm
      · have hk : 2 ≤ k := Nat.not_lt.mp (fun q => z ((nI_leI (b := 1) (by omega) (by decide)).mpr (by omega)))
        refine Rch.go rfl ?_
        refine Rch.z_ne rfl (fun z2 => ?_) (fun z2 => ?_)
        · refine Rch.st 2 rfl ?_
          exact fin3 _ (if_pos ⟨z2, hk⟩).symm
        · refine Rch.st 1 rfl ?_
          exact fin3 0 (if_neg (fun q => z2 q.1)).symm
    refine Rch.go rfl ?_
    refine Rch.call 0 (t_X8_work c r K s L hn hq 1 hN hR (by omega)) rfl rfl g_L_36 om_X8_work rfl (fun _ _ _ q => q) rfl rfl rfl rfl ⟨rfl, rfl⟩ ⟨by decide, by decide⟩ (fun _ _ q => by obtain ⟨_, rfl⟩ := q; exact hA_len _) (fun rv9 h9 q9 => ?_)
    obtain ⟨rfl, rfl⟩ := q9
    rw [w1]
    refine Rch.st 3 rfl ?_
    have hb := rsn_bd c k b
    by_cases z : rsn c k b = 0
    · refine Rch.z_le rfl (fun _ => ?_) (fun q => absurd (by rw [z]; exact Int32.le_refl _) q)
      refine Rch.st 1 rfl ?_
      exact fin2 0 (by rw [f4, if_pos z])
    · refine Rch.z_le rfl (fun q => absurd (pzE (by have := pzle q; rw [show (0 : Int32).toInt = 0 from rfl] at this ⊢; omega)) z) (fun _ => ?_)
      refine Rch.st 2 rfl ?_
      exact fin2 1 (by rw [f4, if_neg z])
  refine Rch.i_le rfl (fun z => ?_) (fun z => ?_)
  · refine Rch.st 1 rfl ?_
    exact fin 0 (fun _ => z)
  · refine Rch.st 2 rfl ?_
    exact fin 1 (fun q => absurd q (by decide))
end LW
