/-! ===== the law's rounds ===== -/
def L00 : LS9 := (z9, 0, z9, 0, z9, 0, 0, 0, 0, 0)
abbrev hZZ (c : FA) (r : Nat → FA) (n q : Nat) (K : KR) (e : AH) : AH := HP c (r, nI n, nI q, K) z9 L00 e
abbrev lsZ (e : Nat) : AL := [(0, .ref 1007), (1, .ref 0), (2, .int (nI e))]
abbrev lsY (e : Nat) (v a b g y : Int32) : AL := [(0, .ref 1007), (1, .ref 0), (2, .int (nI e)), (3, .int v), (4, .int a), (5, .int b), (6, .int g), (7, .int y)]
/-- the law's place before its round e -/
def LIz (e : Nat) (τ : AS) : Prop := ∃ (c : FA) (r : Nat → FA) (nx q : Nat) (K : KR) (cc cs : Nat), Gdz (720 * e) c ∧ nx < 4 ∧ q ≤ 4 ∧ cc ≤ 14 + 3 * e ∧ cs ≤ 1171 + 9 * e ∧ τ = (13, lsZ e, [.int 56, .int (nI e)], hZZ c r nx q K [], cc, cs)
/-- within round e, at pc, nothing on the stack; e9: what nothing names any more -/
def LMz (e d pc : Nat) (v a b g y : Int32) (e9 : AH) (τ : AS) : Prop := ∃ (c : FA) (r : Nat → FA) (nx q : Nat) (K : KR) (cc cs : Nat), Gdz (720 * (e + 1)) c ∧ nx < 4 ∧ q ≤ 4 ∧ cc ≤ 14 + 3 * (e + d) ∧ cs ≤ 1171 + 9 * (e + d) ∧ τ = (pc, lsY e v a b g y, [], hZZ c r nx q K e9, cc, cs)
theorem hA_z {B : Nat} {c : FA} {r : Nat → FA} {n q : Nat} {K : KR} {s : FA} {L : LS9} {S : Int32 × Option FA} (h : Gdz B c) (hn : n < 4) (hq : q ≤ 4) (hS : AOz B c S) : ∃ (c1 : FA) (r1 : Nat → FA) (n1 q1 : Nat), hA c r n q K s L S.2 = HP c1 (r1, nI n1, nI q1, K) s L [] ∧ n1 < 4 ∧ q1 ≤ 4 ∧ Gdz (B + 720) c1 ∧ ∃ k l : Nat, k ≤ 720 ∧ l ≤ 2160 ∧ c1 156 = c 156 + nI k ∧ c1 161 = c 161 + nI l := by
  obtain ⟨v, o⟩ := S
  cases o with
  | none => exact ⟨c, r, n, q, rfl, hn, hq, h.mono (by omega), 0, 0, by decide, by decide, (Int32.add_zero _).symm, (Int32.add_zero _).symm⟩
  | some d =>
    obtain ⟨g1, g2⟩ := hS.2 d rfl
    exact ⟨d, vup r n (cp c (r n)), (n + 1) % 4, if q < 4 then q + 1 else 4, rfl, Nat.mod_lt _ (by decide), by split <;> omega, g1, g2⟩
section LR
theorem Lz_1 {n e : Nat} {f : FA} (hn : n ≤ 260) (he : e < 56) {τ : AS} (h : LIz e τ) : Rch m_L_law (XL n f) τ (fun τ => ∃ v a b g y : Int32, LMz e 0 132 v a b g y [] τ) := by
  obtain ⟨c, r, nx, q, K, cc, cs, hG, hnx, hq, hcc, hcs, rfl⟩ := h
  have hC : cc ≤ mC m_L_law ∧ cs ≤ mS m_L_law := ⟨Nat.le_trans hcc (by show 14 + 3 * e ≤ 600000; omega), Nat.le_trans hcs (by show 1171 + 9 * e ≤ 7302250; omega)⟩
  refine Rch.i_ge rfl (fun z => absurd z (lo_in he (by decide))) (fun _ => ?_)
  refine Rch.go rfl ?_
  refine Rch.call 1 (t_L_cell _ hn he) rfl rfl g_L_78 om_L_cell rfl (fun _ _ _ q => q) rfl rfl rfl rfl ⟨rfl, rfl⟩ hC (fun _ _ q => by obtain ⟨_, rfl⟩ := q; rfl) (fun rv9 h9 q9 => ?_)
  obtain ⟨⟨v, rfl⟩, rfl⟩ := q9
  refine Rch.go rfl ?_
  refine Rch.call 0 (t_X8_count c _ z9 L00 [] 7) rfl rfl g_L_57 om_X8_count rfl (XL_sub n f) rfl rfl rfl rfl ⟨rfl, rfl⟩ hC (fun _ _ q => by obtain ⟨_, rfl⟩ := q; rfl) (fun rv9 h9 q9 => ?_)
  obtain ⟨rfl, rfl⟩ := q9
  rw [cou_7]
  refine Rch.go rfl ?_
  refine Rch.call 0 (t_X8_count c _ z9 L00 [] 15) rfl rfl g_L_57 om_X8_count rfl (XL_sub n f) rfl rfl rfl rfl ⟨rfl, rfl⟩ hC (fun _ _ q => by obtain ⟨_, rfl⟩ := q; rfl) (fun rv9 h9 q9 => ?_)
  obtain ⟨rfl, rfl⟩ := q9
  rw [cou_15]
  refine Rch.go rfl ?_
  refine Rch.call 1 (t_L_does c r K z9 L00 hnx hq hG v) rfl rfl g_L_82 om_L_does rfl (XL_sub n f) rfl rfl rfl rfl ⟨rfl, rfl⟩ hC (fun _ _ q => by obtain ⟨_, _, _, rfl⟩ := q; exact hA_len _) (fun rv9 h9 q9 => ?_)
  obtain ⟨S, hS, rfl, rfl⟩ := q9
  obtain ⟨c1, r1, n1, q1, eA, hn1, hq1, hG1, k, l, hk, hl, e156, e161⟩ := hA_z (r := r) (n := nx) (q := q) (K := K) (s := z9) (L := L00) hG hnx hq hS
  rw [eA]
  have e720 : 720 * e + 720 = 720 * (e + 1) := by omega
  rw [e720] at hG1
  obtain ⟨N1, hN1⟩ := hG1.2.2.1
  obtain ⟨M, hM, eM⟩ := hG.2.2.2.1
  obtain ⟨T, hT, eT⟩ := hG.2.2.2.2
  have a1 : ¬ c1 156 < c 156 := by
    rw [e156, eM, nI_add]
    intro q
    have := (nI_ltI (by omega) (by omega)).mp q
    omega
  have a2 : ¬ c1 161 < c 161 := by
    rw [e161, eT, nI_add]
    intro q
    have := (nI_ltI (by omega) (by omega)).mp q
    omega
  refine Rch.go rfl ?_
  have fin : Rch m_L_law (XL n f) (82, [(0, .ref 1007), (1, .ref 0), (2, .int (nI e)), (3, .int v), (4, .int (c 156)), (5, .int (c 161)), (6, .int S.1)], [.int 0], HP c1 (r1, nI n1, nI q1, K) z9 L00 [], cc, cs) (fun τ => ∃ v a b g y : Int32, LMz e 0 132 v a b g y [] τ) := by
    refine Rch.go rfl ?_
    refine Rch.z_ne rfl (fun _ => ?_) (fun q => absurd rfl q)
    refine Rch.go rfl ?_
    refine Rch.call 0 (t_X8_count c1 _ z9 L00 [] 7) rfl rfl g_L_57 om_X8_count rfl (XL_sub n f) rfl rfl rfl rfl ⟨rfl, rfl⟩ hC (fun _ _ q => by obtain ⟨_, rfl⟩ := q; rfl) (fun rv9 h9 q9 => ?_)
    obtain ⟨rfl, rfl⟩ := q9
    rw [cou_7]
    refine Rch.go rfl ?_
    refine Rch.i_lt rfl (fun q => absurd q a1) (fun _ => ?_)
    refine Rch.go rfl ?_
    refine Rch.call 0 (t_X8_count c1 _ z9 L00 [] 15) rfl rfl g_L_57 om_X8_count rfl (XL_sub n f) rfl rfl rfl rfl ⟨rfl, rfl⟩ hC (fun _ _ q => by obtain ⟨_, rfl⟩ := q; rfl) (fun rv9 h9 q9 => ?_)
    obtain ⟨rfl, rfl⟩ := q9
    rw [cou_15]
    refine Rch.go rfl ?_
    refine Rch.i_lt rfl (fun q => absurd q a2) (fun _ => ?_)
    refine Rch.go rfl ?_
    refine Rch.call 1 (t_L_isBargeSo c1 (r1, nI n1, nI q1, K) z9 L00 hG1) rfl rfl g_L_86 om_L_isBargeSo rfl (XL_sub n f) rfl rfl rfl rfl ⟨rfl, rfl⟩ hC (fun _ _ q => by obtain ⟨_, rfl⟩ := q; rfl) (fun rv9 h9 q9 => ?_)
    obtain ⟨rfl, rfl⟩ := q9
    refine Rch.z_eq rfl (fun q => absurd q (by decide)) (fun _ => ?_)
    refine Rch.go rfl ?_
    refine Rch.i_ne rfl (fun z => ?_) (fun z => ?_)
    · refine Rch.go rfl ?_
      refine Rch.call 1 (t_L_isWorkSo c1 r1 K z9 L00 hn1 hq1 hG1) rfl rfl g_L_90 om_L_isWorkSo rfl (XL_sub n f) rfl rfl rfl rfl ⟨rfl, rfl⟩ hC (fun _ _ q => by obtain ⟨_, _, _, _, _, _, rfl⟩ := q; rfl) (fun rv9 h9 q9 => ?_)
      obtain ⟨rfl, c2, r2, q2, hq2, h2, rfl⟩ := q9
      refine Rch.z_eq rfl (fun q => absurd q (by decide)) (fun _ => ?_)
      exact Rch.rf ⟨v, c 156, c 161, S.1, 0, c2, r2, n1, q2, K, cc, cs, hG1.cg h2, hn1, hq2, by omega, by omega, rfl⟩
    · exact Rch.rf ⟨v, c 156, c 161, S.1, 0, c1, r1, n1, q1, K, cc, cs, hG1, hn1, hq1, by omega, by omega, rfl⟩
  refine Rch.i_ge rfl (fun z => ?_) (fun z => ?_)
  · exact Rch.st 1 rfl fin
  · refine Rch.go rfl ?_
    refine Rch.i_eq rfl (fun z1 => ?_) (fun z1 => ?_)
    · exact Rch.st 1 rfl fin
    · refine Rch.go rfl ?_
      refine Rch.i_eq rfl (fun z2 => ?_) (fun z2 => ?_)
      · exact Rch.st 1 rfl fin
      · refine Rch.go rfl ?_
        refine Rch.i_eq rfl (fun z3 => ?_) (fun z3 => ?_)
        · exact Rch.st 1 rfl fin
        · exfalso
          rcases hS.1 with y | y | y | y
          · exact z (Int32.le_iff_toInt_le.mpr y)
          · exact z2 y
          · exact z3 y
          · exact z1 y
theorem Lz_up {n e : Nat} {f : FA} (he : e < 56) {v a b g y : Int32} {c : FA} {r : Nat → FA} {nx q : Nat} {K : KR} {cc cs : Nat} (hG : Gdz (720 * (e + 1)) c) (hnx : nx < 4) (hq : q ≤ 4) (hcc : cc ≤ 14 + 3 * e) (hcs : cs ≤ 1171 + 9 * e) : Rch m_L_law (XL n f) (132, lsY e v a b g y, [], hZZ c r nx q K [], cc, cs) (fun τ => ∃ e9 : AH, (e9 = [] ∨ ∃ U : US, e9 = uQ U U U) ∧ LMz e 1 158 v a b g y e9 τ) := by
  have hC : cc ≤ mC m_L_law ∧ cs ≤ mS m_L_law := ⟨Nat.le_trans hcc (by show 14 + 3 * e ≤ 600000; omega), Nat.le_trans hcs (by show 1171 + 9 * e ≤ 7302250; omega)⟩
  refine Rch.go rfl ?_
  refine Rch.i_ne rfl (fun z => ?_) (fun z => ?_)
  · refine Rch.go rfl ?_
    refine Rch.call 1 (t_L_low _ (n := 20) _ (by decide) (by decide)) rfl rfl g_L_8 om_L_low rfl (XL_sub n f) rfl rfl rfl rfl ⟨rfl, rfl⟩ hC (fun _ _ q => by obtain ⟨_, rfl⟩ := q; rfl) (fun rv9 h9 q9 => ?_)
    obtain ⟨⟨k1, hk1, rfl⟩, rfl⟩ := q9
    refine Rch.go rfl ?_
    rw [show (1 : Int32) + nI k1 = nI (1 + k1) from nI_add 1 k1]
    refine Rch.callG 1 (t_L_isUprightSo c (r, nI nx, nI q, K) z9 L00 hG (by omega) (by omega)) rfl rfl g_L_93 om_L_isUprightSo rfl (XL_sub n f) rfl rfl rfl rfl (cc' := cc + 3) (cs' := cs + 9) rfl rfl (by show _ ≤ 600000; omega) (by show _ ≤ 7302250; omega) rfl rfl (fun rv9 h9 q9 => ?_)
    obtain ⟨rfl, U, rfl⟩ := q9
    refine Rch.z_eq rfl (fun q => absurd q (by decide)) (fun _ => ?_)
    exact Rch.rf ⟨uQ U U U, Or.inr ⟨U, rfl⟩, c, r, nx, q, K, cc + 3, cs + 9, hG, hnx, hq, by omega, by omega, rfl⟩
  · exact Rch.rf ⟨[], Or.inl rfl, c, r, nx, q, K, cc, cs, hG, hnx, hq, by omega, by omega, rfl⟩
theorem Lz_2 {n e : Nat} {f : FA} (he : e < 56) {v a b g y : Int32} {τ : AS} (h : LMz e 0 132 v a b g y [] τ) : Rch m_L_law (XL n f) τ (fun τ => ∃ e9 : AH, (e9 = [] ∨ ∃ U : US, e9 = uQ U U U) ∧ LMz e 1 158 v a b g y e9 τ) := by
  obtain ⟨c, r, nx, q, K, cc, cs, hG, hnx, hq, hcc, hcs, rfl⟩ := h
  exact Lz_up he hG hnx hq hcc hcs
theorem Lz_3 {n e : Nat} {f : FA} (he : e < 56) {v a b g y : Int32} {τ : AS} (h : LMz e 1 158 v a b g y [] τ) : Rch m_L_law (XL n f) τ (LIz (e + 1)) := by
  obtain ⟨c, r, nx, q, K, cc, cs, hG, hnx, hq, hcc, hcs, rfl⟩ := h
  have hC : cc ≤ mC m_L_law ∧ cs ≤ mS m_L_law := ⟨Nat.le_trans hcc (by show 14 + 3 * (e + 1) ≤ 600000; omega), Nat.le_trans hcs (by show 1171 + 9 * (e + 1) ≤ 7302250; omega)⟩
  have fin : ∀ (c : FA) (r : Nat → FA) (q : Nat), Gdz (720 * (e + 1)) c → q ≤ 4 → Rch m_L_law (XL n f) (193, lsY e v a b g y, [], hZZ c r nx q K [], cc, cs) (LIz (e + 1)) := by
    intro c r q hG hq
    refine Rch.go rfl ?_
    refine Rch.wp [0, 1, 2] rfl rfl (Rch.rf ⟨c, r, nx, q, K, cc, cs, hG, hnx, hq, hcc, hcs, ?_⟩)
    rw [nI_1]
    rfl
  refine Rch.go rfl ?_
  refine Rch.i_ne rfl (fun z => ?_) (fun z => ?_)
  · refine Rch.go rfl ?_
    refine Rch.call 1 (t_L_low _ (n := 8) _ (by decide) (by decide)) rfl rfl g_L_8 om_L_low rfl (XL_sub n f) rfl rfl rfl rfl ⟨rfl, rfl⟩ hC (fun _ _ q => by obtain ⟨_, rfl⟩ := q; rfl) (fun rv9 h9 q9 => ?_)
    obtain ⟨⟨k1, hk1, rfl⟩, rfl⟩ := q9
    refine Rch.go rfl ?_
    refine Rch.call 1 (t_L_low _ (n := 25) _ (by decide) (by decide)) rfl rfl g_L_8 om_L_low rfl (XL_sub n f) rfl rfl rfl rfl ⟨rfl, rfl⟩ hC (fun _ _ q => by obtain ⟨_, rfl⟩ := q; rfl) (fun rv9 h9 q9 => ?_)
    obtain ⟨⟨k2, hk2, rfl⟩, rfl⟩ := q9
    refine Rch.go rfl ?_
    rw [show (1 : Int32) + nI k2 = nI (1 + k2) from nI_add 1 k2]
    refine Rch.call 1 (t_L_isSoundSo c r K z9 L00 hnx hq hG hk1 (by omega) (by omega)) rfl rfl g_L_97 om_L_isSoundSo rfl (XL_sub n f) rfl rfl rfl rfl ⟨rfl, rfl⟩ hC (fun _ _ q => by obtain ⟨_, _, _, _, _, _, rfl⟩ := q; rfl) (fun rv9 h9 q9 => ?_)
    obtain ⟨rfl, c2, r2, q2, hq2, h2, rfl⟩ := q9
    refine Rch.z_ne rfl (fun q => absurd q (by decide)) (fun _ => ?_)
    exact fin c2 r2 q2 (hG.cg h2) hq2
  · exact fin c r q hG hq
end LR
