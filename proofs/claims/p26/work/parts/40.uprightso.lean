/-! ===== the law: what would set her upright is so ===== -/
theorem bez.none {c : FA} {P : Nat → Int32 → Prop} {N : Nat} {U : US} (h : bez c P N U) (hN : N < 2 ^ 31) (z : U.2.1 = 0) : U.1 = 0 ∧ U.2.2 = lst c := by
  rcases h.2.2 with ⟨a, _, b⟩ | ⟨t, u, ch, h1, h2, h3, h4, rfl⟩
  · exact ⟨a, b⟩
  · exfalso
    have z : ch = 0 := z
    have hk : (nI u).toInt = u := nI_toInt (by omega)
    rcases h4 with e | e
    · rw [← e, z, show (0 : Int32).toInt = 0 from rfl] at hk; omega
    · have hn : (-(nI u)).toInt = -u := by rw [pzNg (by omega), hk]
      rw [← e, z, show (0 : Int32).toInt = 0 from rfl] at hn; omega
theorem bez.lez {c : FA} {P : Nat → Int32 → Prop} {N : Nat} {U : US} (h : bez c P N U) (hN : N < 2 ^ 31) : (abi U.2.1).toInt ≤ N := by
  rcases h.2.2 with ⟨_, a, _⟩ | ⟨t, u, ch, h1, h2, h3, h4, rfl⟩
  · rw [a]; show (0 : Int) ≤ N; omega
  · show (abi ch).toInt ≤ N
    have hk : (nI u).toInt = u := nI_toInt (by omega)
    have hn : (-(nI u)).toInt = -u := by rw [pzNg (by omega), hk]
    rcases h4 with rfl | rfl
    · rw [abi_in _ (by omega)]; split <;> omega
    · rw [abi_in _ (by omega)]; split <;> omega
theorem bez.is {c : FA} {P : Nat → Int32 → Prop} {N t : Nat} {ch : Int32} {U : US} (h : bez c P N U) (ht : t < 8) (h0 : ¬ ch = 0) (e1 : nI t = U.1) (e2 : ch = U.2.1) : wdz c t ch = U.2.2 := by
  rcases h.2.2 with ⟨_, a, _⟩ | ⟨t', u, ch', h1, h2, h3, h4, rfl⟩
  · exact absurd (e2.trans a) h0
  · have e1 : nI t = nI t' := e1
    have e2 : ch = ch' := e2
    have e : t = t' := (nI_eq (by omega) (by omega)).mp e1
    subst e
    subst e2
    rfl
section LU
theorem t_L_isUprightSo (c : FA) (K : KS) (s : FA) (L : LS9) {B u : Nat} (h : Gdz B c) (h1 : 1 ≤ u) (hu : u ≤ 20) : Ct m_L_isUprightSo X0 [.ref 0, .int (nI u)] (HP c K s L []) (fun rv h9 => rv = some (.int 1) ∧ ∃ U : US, h9 = HP c K s L (uQ U U U)) := by
  have hR := h.1
  refine ⟨ok_L_isUprightSo, ?_⟩
  refine Rch.go rfl ?_
  refine Rch.callG 0 (t_X8_upright__0 (0, 0, 0) (0, 0, 0) c K s L 0 h1 (by omega) (by decide)) rfl rfl g_L_70 om_X8_upright rfl (fun _ _ _ q => q) rfl rfl rfl rfl (cc' := 1) (cs' := 3) rfl rfl (by decide) (by decide) rfl rfl (fun rv9 h9 q9 => ?_)
  obtain ⟨rfl, rfl⟩ := q9
  rw [if_pos rfl]
  refine Rch.go rfl ?_
  refine Rch.callG 0 (t_X8_upright__1 (upo c u) (0, 0, 0) c K s L 1 h1 (by omega) (by decide)) rfl rfl g_L_70 om_X8_upright rfl (fun _ _ _ q => q) rfl rfl rfl rfl (cc' := 2) (cs' := 6) rfl rfl (by decide) (by decide) rfl rfl (fun rv9 h9 q9 => ?_)
  obtain ⟨rfl, rfl⟩ := q9
  rw [if_neg (by decide), if_pos rfl]
  refine Rch.go rfl ?_
  refine Rch.callG 0 (t_X8_upright__2 (upo c u) (upo c u) c K s L 2 h1 (by omega) (by decide)) rfl rfl g_L_70 om_X8_upright rfl (fun _ _ _ q => q) rfl rfl rfl rfl (cc' := 3) (cs' := 9) rfl rfl (by decide) (by decide) rfl rfl (fun rv9 h9 q9 => ?_)
  obtain ⟨rfl, rfl⟩ := q9
  rw [if_neg (by decide), if_neg (by decide)]
  have hb := upo_A hR (N := u) (by omega) u (Nat.le_refl u)
  generalize upo c u = U at *
  refine Rch.go rfl ?_
  refine Rch.call 0 (t_X8_count c K s L _ _) rfl rfl g_L_57 om_X8_count rfl (fun _ _ _ q => q) rfl rfl rfl rfl ⟨rfl, rfl⟩ ⟨by decide, by decide⟩ (fun _ _ q => by obtain ⟨_, rfl⟩ := q; first | with_reducible rfl | (rw [HP_len, HP_len]; done) | rfl) (fun rv9 h9 q9 => ?_)
  obtain ⟨rfl, rfl⟩ := q9
  rw [cou_0]
  refine Rch.go rfl ?_
  refine Rch.call 1 (t_L_size _ _) rfl rfl g_L_54 om_L_size rfl (fun _ _ _ q => q) rfl rfl rfl rfl ⟨rfl, rfl⟩ ⟨by decide, by decide⟩ (fun _ _ q => by obtain ⟨_, rfl⟩ := q; first | with_reducible rfl | (rw [HP_len, HP_len]; done) | rfl) (fun rv9 h9 q9 => ?_)
  obtain ⟨rfl, rfl⟩ := q9
  refine Rch.go rfl ?_
  refine Rch.call 0 (t_X8_count c K s L _ _) rfl rfl g_L_57 om_X8_count rfl (fun _ _ _ q => q) rfl rfl rfl rfl ⟨rfl, rfl⟩ ⟨by decide, by decide⟩ (fun _ _ q => by obtain ⟨_, rfl⟩ := q; first | with_reducible rfl | (rw [HP_len, HP_len]; done) | rfl) (fun rv9 h9 q9 => ?_)
  obtain ⟨rfl, rfl⟩ := q9
  rw [cou_2]
  refine Rch.call 1 (t_L_size _ _) rfl rfl g_L_54 om_L_size rfl (fun _ _ _ q => q) rfl rfl rfl rfl ⟨rfl, rfl⟩ ⟨by decide, by decide⟩ (fun _ _ q => by obtain ⟨_, rfl⟩ := q; first | with_reducible rfl | (rw [HP_len, HP_len]; done) | rfl) (fun rv9 h9 q9 => ?_)
  obtain ⟨rfl, rfl⟩ := q9
  refine Rch.i_gt rfl (fun q => absurd (pzlt.mp q) (by have := hb.1; omega)) (fun _ => ?_)
  refine Rch.go rfl ?_
  refine Rch.call 1 (t_L_size _ _) rfl rfl g_L_54 om_L_size rfl (fun _ _ _ q => q) rfl rfl rfl rfl ⟨rfl, rfl⟩ ⟨by decide, by decide⟩ (fun _ _ q => by obtain ⟨_, rfl⟩ := q; first | with_reducible rfl | (rw [HP_len, HP_len]; done) | rfl) (fun rv9 h9 q9 => ?_)
  obtain ⟨rfl, rfl⟩ := q9
  refine Rch.go rfl ?_
  refine Rch.i_gt rfl (fun q => absurd (pzlt.mp q) (by have := hb.lez (by omega); rw [nI_toInt (by omega)]; omega)) (fun _ => ?_)
  refine Rch.go rfl ?_
  have fin : Rch m_L_isUprightSo X0 (71, [(0, .ref 0), (1, .int (nI u)), (2, .int (U.1)), (3, .int (U.2.1)), (4, .int (U.2.2)), (5, .int (wgt c))], [], HP c K s L (uQ U U U), 3, 9) (RetP m_L_isUprightSo (fun rv h9 => rv = some (.int 1) ∧ ∃ U : US, h9 = HP c K s L (uQ U U U))) := by
    refine Rch.go rfl ?_
    refine Rch.for 8 (fun n => (85, [(0, .ref 0), (1, .int (nI u)), (2, .int (U.1)), (3, .int (U.2.1)), (4, .int (U.2.2)), (5, .int (wgt c)), (6, .int (1)), (7, .int (nI n))], [.int 8, .int (nI n)], HP c K s L (uQ U U U), 3, 9)) (fun n hn => ?_) ?_ 0 (by omega)
    · refine Rch.i_ge rfl (fun z => absurd z (lo_in hn (by decide))) (fun _ => ?_)
      refine Rch.go rfl ?_
      refine Rch.for u (fun i => (94, [(0, .ref 0), (1, .int (nI u)), (2, .int (U.1)), (3, .int (U.2.1)), (4, .int (U.2.2)), (5, .int (wgt c)), (6, .int (1)), (7, .int (nI n)), (8, .int (nI (i + 1)))], [.int (nI u), .int (nI (i + 1))], HP c K s L (uQ U U U), 3, 9)) (fun i hi => ?_) ?_ 0 (by omega)
      · refine Rch.i_gt rfl (fun z => absurd ((nI_ltI (by omega) (by omega)).mp z) (by omega)) (fun _ => ?_)
        have hk : (nI (i + 1)).toInt = ((i + 1 : Nat) : Int) := nI_toInt (by omega)
        have body : ∀ kk : Int32, kk * nI (i + 1) = nI (i + 1) ∨ kk * nI (i + 1) = -(nI (i + 1)) → Rch m_L_isUprightSo X0 (106, [(0, .ref 0), (1, .int (nI u)), (2, .int (U.1)), (3, .int (U.2.1)), (4, .int (U.2.2)), (5, .int (wgt c)), (6, .int (1)), (7, .int (nI n)), (8, .int (nI (i + 1))), (9, .int kk)], [], HP c K s L (uQ U U U), 3, 9) (fun τ => τ = (103, [(0, .ref 0), (1, .int (nI u)), (2, .int (U.1)), (3, .int (U.2.1)), (4, .int (U.2.2)), (5, .int (wgt c)), (6, .int (1)), (7, .int (nI n)), (8, .int (nI (i + 1))), (9, .int (kk + 2))], [.int 2, .int (kk + 2)], HP c K s L (uQ U U U), 3, 9)) := by
          intro kk hc
          have hne := (lof_wd hR hn (show i + 1 ≤ 100 by omega) _ hc).2
          have h0 : ¬ kk * nI (i + 1) = 0 := by
            intro e
            have hn2 : (-(nI (i + 1))).toInt = -((i + 1 : Nat) : Int) := by rw [pzNg (by omega), hk]
            rcases hc with q | q
            · rw [← q, e, show (0 : Int32).toInt = 0 from rfl] at hk; omega
            · rw [← q, e, show (0 : Int32).toInt = 0 from rfl] at hn2; omega
          refine Rch.go rfl ?_
          refine Rch.call 0 (t_X8_tank c K s L _ _ _) rfl rfl g_L_45 om_X8_tank rfl (fun _ _ _ q => q) rfl rfl rfl rfl ⟨rfl, rfl⟩ ⟨by decide, by decide⟩ (fun _ _ q => by obtain ⟨_, rfl⟩ := q; first | with_reducible rfl | (rw [HP_len, HP_len]; done) | rfl) (fun rv9 h9 q9 => ?_)
          obtain ⟨rfl, rfl⟩ := q9
          rw [tnk_0 hn]
          refine Rch.go rfl ?_
          refine Rch.call 0 (t_X8_count c K s L _ _) rfl rfl g_L_57 om_X8_count rfl (fun _ _ _ q => q) rfl rfl rfl rfl ⟨rfl, rfl⟩ ⟨by decide, by decide⟩ (fun _ _ q => by obtain ⟨_, rfl⟩ := q; first | with_reducible rfl | (rw [HP_len, HP_len]; done) | rfl) (fun rv9 h9 q9 => ?_)
          obtain ⟨rfl, rfl⟩ := q9
          rw [cou_5]
          refine Rch.go rfl ?_
          refine Rch.div rfl hne ?_
          refine Rch.go rfl ?_
          refine Rch.z_eq rfl (fun q => absurd q (by decide)) (fun _ => ?_)
          have f208 : Rch m_L_isUprightSo X0 (208, [(0, .ref 0), (1, .int (nI u)), (2, .int (U.1)), (3, .int (U.2.1)), (4, .int (U.2.2)), (5, .int (wgt c)), (6, .int (1)), (7, .int (nI n)), (8, .int (nI (i + 1))), (9, .int kk), (10, .int (c n + kk * nI (i + 1))), (11, .int (wdz c n (kk * nI (i + 1))))], [], HP c K s L (uQ U U U), 3, 9) (fun τ => τ = (103, [(0, .ref 0), (1, .int (nI u)), (2, .int (U.1)), (3, .int (U.2.1)), (4, .int (U.2.2)), (5, .int (wgt c)), (6, .int (1)), (7, .int (nI n)), (8, .int (nI (i + 1))), (9, .int (kk + 2))], [.int 2, .int (kk + 2)], HP c K s L (uQ U U U), 3, 9)) := by
            refine Rch.go rfl ?_
            refine Rch.wp [0, 1, 2, 3, 4, 5, 6, 7, 8, 9] rfl rfl (Rch.rf ?_)
            rfl
          have f186 : Rch m_L_isUprightSo X0 (186, [(0, .ref 0), (1, .int (nI u)), (2, .int (U.1)), (3, .int (U.2.1)), (4, .int (U.2.2)), (5, .int (wgt c)), (6, .int (1)), (7, .int (nI n)), (8, .int (nI (i + 1))), (9, .int kk), (10, .int (c n + kk * nI (i + 1))), (11, .int (wdz c n (kk * nI (i + 1))))], [], HP c K s L (uQ U U U), 3, 9) (fun τ => τ = (103, [(0, .ref 0), (1, .int (nI u)), (2, .int (U.1)), (3, .int (U.2.1)), (4, .int (U.2.2)), (5, .int (wgt c)), (6, .int (1)), (7, .int (nI n)), (8, .int (nI (i + 1))), (9, .int (kk + 2))], [.int 2, .int (kk + 2)], HP c K s L (uQ U U U), 3, 9)) := by
            refine Rch.go rfl ?_
            refine Rch.i_ne rfl (fun z => ?_) (fun z => ?_)
            · refine Rch.go rfl ?_
              refine Rch.i_ne rfl (fun z2 => ?_) (fun z2 => ?_)
              · refine Rch.go rfl ?_
                refine Rch.i_ne rfl (fun _ => ?_) (fun q => absurd (hb.is hn h0 z z2) q)
                exact f208
              · exact f208
            · exact f208
          refine Rch.go rfl ?_
          refine Rch.z_lt rfl (fun z => ?_) (fun z => ?_)
          · exact f186
          · refine Rch.go rfl ?_
            refine Rch.i_gt rfl (fun z2 => ?_) (fun z2 => ?_)
            · exact f186
            · refine Rch.go rfl ?_
              refine Rch.call 1 (t_L_size _ _) rfl rfl g_L_54 om_L_size rfl (fun _ _ _ q => q) rfl rfl rfl rfl ⟨rfl, rfl⟩ ⟨by decide, by decide⟩ (fun _ _ q => by obtain ⟨_, rfl⟩ := q; first | with_reducible rfl | (rw [HP_len, HP_len]; done) | rfl) (fun rv9 h9 q9 => ?_)
              obtain ⟨rfl, rfl⟩ := q9
              refine Rch.go rfl ?_
              refine Rch.call 1 (t_L_size _ _) rfl rfl g_L_54 om_L_size rfl (fun _ _ _ q => q) rfl rfl rfl rfl ⟨rfl, rfl⟩ ⟨by decide, by decide⟩ (fun _ _ q => by obtain ⟨_, rfl⟩ := q; first | with_reducible rfl | (rw [HP_len, HP_len]; done) | rfl) (fun rv9 h9 q9 => ?_)
              obtain ⟨rfl, rfl⟩ := q9
              refine Rch.i_lt rfl (fun q => absurd (pzlt.mp q) ?_) (fun _ => ?_)
              · have g := hb.2.1 n (kk * nI (i + 1)) hn ⟨i + 1, by omega, by omega, hc⟩ ⟨z, Int32.not_lt.mp z2⟩
                exact Int.not_lt.mpr g
              · exact f186
        refine Rch.go rfl ?_
        refine Rch.i_ge rfl (fun z => absurd z (by decide)) (fun _ => ?_)
        refine Rch.tr (body (-1) (Or.inr (by grind))) (fun τ hτ => ?_)
        rw [hτ]
        refine Rch.i_ge rfl (fun z => absurd z (by decide)) (fun _ => ?_)
        refine Rch.tr (body (-1 + 2) (Or.inl (by rw [show (-1 + 2 : Int32) = 1 by decide]; grind))) (fun τ hτ => ?_)
        rw [hτ]
        refine Rch.i_ge rfl (fun _ => ?_) (fun z => absurd (by decide) z)
        refine Rch.go rfl ?_
        refine Rch.wp [0, 1, 2, 3, 4, 5, 6, 7, 8] rfl rfl (Rch.rf ?_)
        rw [nI_1]
        rfl
      · refine Rch.i_gt rfl (fun _ => ?_) (fun z => absurd ((nI_ltI (by omega) (by omega)).mpr (by omega)) z)
        refine Rch.go rfl ?_
        refine Rch.wp [0, 1, 2, 3, 4, 5, 6, 7] rfl rfl (Rch.rf ?_)
        rw [nI_1]
        rfl
    · refine Rch.i_ge rfl (fun _ => ?_) (fun z => absurd (lo_out (by decide)) z)
      refine Rch.go rfl ?_
      exact Rch.ri rfl rfl rfl (by decide) (by decide) (⟨rfl, U, rfl⟩)
  refine Rch.z_ne rfl (fun z => ?_) (fun z => ?_)
  · obtain ⟨q1, q2⟩ := hb.none (by omega) z
    refine Rch.go rfl ?_
    refine Rch.z_ne rfl (fun _ => ?_) (fun q => absurd q1 q)
    refine Rch.go rfl ?_
    refine Rch.call 0 (t_X8_count c K s L _ _) rfl rfl g_L_57 om_X8_count rfl (fun _ _ _ q => q) rfl rfl rfl rfl ⟨rfl, rfl⟩ ⟨by decide, by decide⟩ (fun _ _ q => by obtain ⟨_, rfl⟩ := q; first | with_reducible rfl | (rw [HP_len, HP_len]; done) | rfl) (fun rv9 h9 q9 => ?_)
    obtain ⟨rfl, rfl⟩ := q9
    rw [cou_2]
    refine Rch.i_ne rfl (fun _ => ?_) (fun q => absurd q2 q)
    exact fin
  · exact fin
end LU
