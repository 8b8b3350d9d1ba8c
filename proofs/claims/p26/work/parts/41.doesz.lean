/-! ===== the law: what it does ===== -/
theorem Ct.mono {M : MI} {X : AX} {a : List Value} {h0 : AH} {Φ Ψ : Option Value → AH → Prop} (h : Ct M X a h0 Φ) (k : ∀ rv h', Φ rv h' → Ψ rv h') : Ct M X a h0 Ψ :=
  ⟨h.1, h.2.mono (fun τ q => ⟨q.1, q.2.1, q.2.2.choose, q.2.2.choose_spec.1, k _ _ q.2.2.choose_spec.2⟩)⟩
theorem inz {k a b : Nat} (h1 : a ≤ k) (h2 : k ≤ b) (hb : b < 2 ^ 31) : nI a ≤ nI k ∧ nI k ≤ nI b := ⟨(nI_leI (by omega) (by omega)).mpr h1, (nI_leI (by omega) hb).mpr h2⟩
section LD
theorem t_X8_order__z (c : FA) (r : Nat → FA) (K : KR) (s : FA) (L : LS9) {n q : Nat} (hn : n < 4) (hq : q ≤ 4) {N k b : Nat} (hN : RowOk c N) (hk : k < 5) (hb : k < 2 → b < 5) (h1 : 2 ≤ k → 1 ≤ b) (h6 : b ≤ 60) : Ct m_X8_order X0 [.ref 0, .int (nI k), .int (nI b)] (HP c (r, nI n, nI q, K) s L []) (fun rv h9 => rv = some (.int (ord c (nI k) (nI b) N).1) ∧ h9 = hA c r n q K s L (ord c (nI k) (nI b) N).2) := by
  refine (t_X8_order c r K s L hn hq (nI k) (nI b) hN.1 hN.2.1).mono (fun rv h9 q9 => q9.1 ⟨in4z hk, ?_⟩)
  unfold rby
  have e0 : (nI k = 0 ∨ nI k = 1) ↔ k < 2 := by
    rw [show (nI k = 0) = (nI k = nI 0) from rfl, show (nI k = 1) = (nI k = nI 1) from rfl, nI_eq (by omega) (by decide), nI_eq (by omega) (by decide)]
    omega
  by_cases z : k < 2
  · rw [if_pos (e0.mpr z)]
    exact in4z (hb z)
  · rw [if_neg (fun q => z (e0.mp q))]
    exact inz (a := 1) (b := 60) (h1 (by omega)) h6 (by decide)
theorem t_L_does (c : FA) (r : Nat → FA) (K : KR) (s : FA) (L : LS9) {n q : Nat} (hn : n < 4) (hq : q ≤ 4) {B : Nat} (h : Gdz B c) (v : Int32) : Ct m_L_does X0 [.ref 0, .int v] (HP c (r, nI n, nI q, K) s L []) (fun rv h9 => ∃ S : Int32 × Option FA, AOz B c S ∧ rv = some (.int S.1) ∧ h9 = hA c r n q K s L S.2) := by
  obtain ⟨N, hN⟩ := h.2.2.1
  have hN12 := hN.2.1
  obtain ⟨R, hR9, hR⟩ := h.rate
  have hR2 : R < 2 ^ 31 := by omega
  refine ⟨ok_L_does, ?_⟩
  refine Rch.go rfl ?_
  by_cases hw : 0 ≤ (v &&& 15) ∧ (v &&& 15) ≤ 12
  rotate_left
  · refine Rch.sw (t := 331) rfl (if_pos (outr hw)) ?_
    refine Rch.go rfl ?_
    refine Rch.call 1 (t_L_low (n := 15) _ _ (by decide) (by decide)) rfl rfl g_L_8 om_L_low rfl (fun _ _ _ q => q) rfl rfl rfl rfl ⟨rfl, rfl⟩ ⟨by decide, by decide⟩ (fun _ _ q => by obtain ⟨_, rfl⟩ := q; first | with_reducible rfl | (rw [HP_len, HP_len]; done) | rfl) (fun rv9 h9 q9 => ?_)
    obtain ⟨⟨k1, hk1, rfl⟩, rfl⟩ := q9
    refine Rch.go rfl ?_
    rw [show (1 : Int32) + nI k1 = nI (1 + k1) from nI_add 1 k1]
    refine Rch.call 0 (t_X8_pass c r K s L hn hq _ hR hR2) rfl rfl g_L_42 om_X8_pass rfl (fun _ _ _ q => q) rfl rfl rfl rfl ⟨rfl, rfl⟩ ⟨by decide, by decide⟩ (fun _ _ q => by obtain ⟨_, rfl⟩ := q; exact hA_len _) (fun rv9 h9 q9 => ?_)
    obtain ⟨rfl, rfl⟩ := q9
    exact Rch.ri rfl rfl rfl (by decide) (by decide) (⟨_, pas_A h (inz (a := 1) (b := 200) (by omega) (by omega) (by decide)), rfl, rfl⟩)
  obtain ⟨y, hy, ey⟩ := rng (n := 12) rfl (by decide) hw
  rw [ey]
  match y, hy with
  | 0, _ =>
    refine Rch.sw (t := 72) rfl rfl ?_
    refine Rch.go rfl ?_
    refine Rch.call 1 (t_L_low (n := 3) _ _ (by decide) (by decide)) rfl rfl g_L_8 om_L_low rfl (fun _ _ _ q => q) rfl rfl rfl rfl ⟨rfl, rfl⟩ ⟨by decide, by decide⟩ (fun _ _ q => by obtain ⟨_, rfl⟩ := q; first | with_reducible rfl | (rw [HP_len, HP_len]; done) | rfl) (fun rv9 h9 q9 => ?_)
    obtain ⟨⟨k1, hk1, rfl⟩, rfl⟩ := q9
    refine Rch.go rfl ?_
    refine Rch.call 1 (t_L_low (n := 301) _ _ (by decide) (by decide)) rfl rfl g_L_8 om_L_low rfl (fun _ _ _ q => q) rfl rfl rfl rfl ⟨rfl, rfl⟩ ⟨by decide, by decide⟩ (fun _ _ q => by obtain ⟨_, rfl⟩ := q; first | with_reducible rfl | (rw [HP_len, HP_len]; done) | rfl) (fun rv9 h9 q9 => ?_)
    obtain ⟨⟨k2, hk2, rfl⟩, rfl⟩ := q9
    refine Rch.go rfl ?_
    refine Rch.call 1 (t_L_low (n := 7) _ _ (by decide) (by decide)) rfl rfl g_L_8 om_L_low rfl (fun _ _ _ q => q) rfl rfl rfl rfl ⟨rfl, rfl⟩ ⟨by decide, by decide⟩ (fun _ _ q => by obtain ⟨_, rfl⟩ := q; first | with_reducible rfl | (rw [HP_len, HP_len]; done) | rfl) (fun rv9 h9 q9 => ?_)
    obtain ⟨⟨k3, hk3, rfl⟩, rfl⟩ := q9
    refine Rch.go rfl ?_
    refine Rch.call 0 (t_X8_load c r K s L hn hq _ _ _) rfl rfl g_L_14 om_X8_load rfl (fun _ _ _ q => q) rfl rfl rfl rfl ⟨rfl, rfl⟩ ⟨by decide, by decide⟩ (fun _ _ q => by obtain ⟨_, rfl⟩ := q; exact hA_len _) (fun rv9 h9 q9 => ?_)
    obtain ⟨rfl, rfl⟩ := q9
    exact Rch.ri rfl rfl rfl (by decide) (by decide) (⟨_, lod_A h (in2z hk1) (inz (a := 0) (b := 300) (by omega) (by omega) (by decide)) ((by decide : ∀ k, k < 7 → (-3 : Int32) ≤ nI k - 3 ∧ nI k - 3 ≤ 3) k3 hk3), rfl, rfl⟩)
  | 1, _ =>
    refine Rch.sw (t := 105) rfl rfl ?_
    refine Rch.go rfl ?_
    refine Rch.call 1 (t_L_low (n := 8) _ _ (by decide) (by decide)) rfl rfl g_L_8 om_L_low rfl (fun _ _ _ q => q) rfl rfl rfl rfl ⟨rfl, rfl⟩ ⟨by decide, by decide⟩ (fun _ _ q => by obtain ⟨_, rfl⟩ := q; first | with_reducible rfl | (rw [HP_len, HP_len]; done) | rfl) (fun rv9 h9 q9 => ?_)
    obtain ⟨⟨k1, hk1, rfl⟩, rfl⟩ := q9
    refine Rch.go rfl ?_
    refine Rch.call 1 (t_L_low (n := 10) _ _ (by decide) (by decide)) rfl rfl g_L_8 om_L_low rfl (fun _ _ _ q => q) rfl rfl rfl rfl ⟨rfl, rfl⟩ ⟨by decide, by decide⟩ (fun _ _ q => by obtain ⟨_, rfl⟩ := q; first | with_reducible rfl | (rw [HP_len, HP_len]; done) | rfl) (fun rv9 h9 q9 => ?_)
    obtain ⟨⟨k2, hk2, rfl⟩, rfl⟩ := q9
    refine Rch.call 0 (t_X8_leak c r K s L hn hq _ _) rfl rfl g_L_20 om_X8_leak rfl (fun _ _ _ q => q) rfl rfl rfl rfl ⟨rfl, rfl⟩ ⟨by decide, by decide⟩ (fun _ _ q => by obtain ⟨_, rfl⟩ := q; exact hA_len _) (fun rv9 h9 q9 => ?_)
    obtain ⟨rfl, rfl⟩ := q9
    exact Rch.ri rfl rfl rfl (by decide) (by decide) (⟨_, lek_A h (in7z hk1) (inz (a := 0) (b := 9) (by omega) (by omega) (by decide)), rfl, rfl⟩)
  | 2, _ =>
    refine Rch.sw (t := 127) rfl rfl ?_
    refine Rch.go rfl ?_
    refine Rch.call 1 (t_L_low (n := 5) _ _ (by decide) (by decide)) rfl rfl g_L_8 om_L_low rfl (fun _ _ _ q => q) rfl rfl rfl rfl ⟨rfl, rfl⟩ ⟨by decide, by decide⟩ (fun _ _ q => by obtain ⟨_, rfl⟩ := q; first | with_reducible rfl | (rw [HP_len, HP_len]; done) | rfl) (fun rv9 h9 q9 => ?_)
    obtain ⟨⟨k1, hk1, rfl⟩, rfl⟩ := q9
    refine Rch.go rfl ?_
    refine Rch.call 1 (t_L_low (n := 255) _ _ (by decide) (by decide)) rfl rfl g_L_8 om_L_low rfl (fun _ _ _ q => q) rfl rfl rfl rfl ⟨rfl, rfl⟩ ⟨by decide, by decide⟩ (fun _ _ q => by obtain ⟨_, rfl⟩ := q; first | with_reducible rfl | (rw [HP_len, HP_len]; done) | rfl) (fun rv9 h9 q9 => ?_)
    obtain ⟨⟨k2, hk2, rfl⟩, rfl⟩ := q9
    refine Rch.go rfl ?_
    rw [show (1 : Int32) + nI k2 = nI (1 + k2) from nI_add 1 k2]
    refine Rch.call 0 (t_X8_setGroup c r K s L hn hq _ _) rfl rfl g_L_23 om_X8_setGroup rfl (fun _ _ _ q => q) rfl rfl rfl rfl ⟨rfl, rfl⟩ ⟨by decide, by decide⟩ (fun _ _ q => by obtain ⟨_, rfl⟩ := q; exact hA_len _) (fun rv9 h9 q9 => ?_)
    obtain ⟨rfl, rfl⟩ := q9
    exact Rch.ri rfl rfl rfl (by decide) (by decide) (⟨_, sgr_A h (in4z hk1) (inz (a := 1) (b := 255) (by omega) (by omega) (by decide)), rfl, rfl⟩)
  | 3, _ =>
    refine Rch.sw (t := 151) rfl rfl ?_
    refine Rch.go rfl ?_
    refine Rch.call 1 (t_L_low (n := 3) _ _ (by decide) (by decide)) rfl rfl g_L_8 om_L_low rfl (fun _ _ _ q => q) rfl rfl rfl rfl ⟨rfl, rfl⟩ ⟨by decide, by decide⟩ (fun _ _ q => by obtain ⟨_, rfl⟩ := q; first | with_reducible rfl | (rw [HP_len, HP_len]; done) | rfl) (fun rv9 h9 q9 => ?_)
    obtain ⟨⟨k1, hk1, rfl⟩, rfl⟩ := q9
    refine Rch.go rfl ?_
    match k1, hk1 with
    | 0, _ =>
      refine Rch.z_ne rfl (fun _ => ?_) (fun q => absurd rfl q)
      refine Rch.go rfl ?_
      refine Rch.call 1 (t_L_low (n := 9) _ _ (by decide) (by decide)) rfl rfl g_L_8 om_L_low rfl (fun _ _ _ q => q) rfl rfl rfl rfl ⟨rfl, rfl⟩ ⟨by decide, by decide⟩ (fun _ _ q => by obtain ⟨_, rfl⟩ := q; first | with_reducible rfl | (rw [HP_len, HP_len]; done) | rfl) (fun rv9 h9 q9 => ?_)
      obtain ⟨⟨k2, hk2, rfl⟩, rfl⟩ := q9
      refine Rch.go rfl ?_
      rw [show (1 : Int32) + nI k2 = nI (1 + k2) from nI_add 1 k2]
      refine Rch.call 0 (t_X8_set c r K s L hn hq _ _) rfl rfl g_L_26 om_X8_set rfl (fun _ _ _ q => q) rfl rfl rfl rfl ⟨rfl, rfl⟩ ⟨by decide, by decide⟩ (fun _ _ q => by obtain ⟨_, rfl⟩ := q; exact hA_len _) (fun rv9 h9 q9 => ?_)
      obtain ⟨rfl, rfl⟩ := q9
      exact Rch.ri rfl rfl rfl (by decide) (by decide) (⟨_, stt_A h (j := 0) (by decide) (inz (a := 1) (b := 9) (by omega) (by omega) (by decide)), rfl, rfl⟩)
    | 1, _ =>
      refine Rch.z_ne rfl (fun q => absurd q (by decide)) (fun _ => ?_)
      refine Rch.go rfl ?_
      refine Rch.i_ne rfl (fun _ => ?_) (fun q => absurd rfl q)
      refine Rch.go rfl ?_
      refine Rch.call 1 (t_L_low (n := 30) _ _ (by decide) (by decide)) rfl rfl g_L_8 om_L_low rfl (fun _ _ _ q => q) rfl rfl rfl rfl ⟨rfl, rfl⟩ ⟨by decide, by decide⟩ (fun _ _ q => by obtain ⟨_, rfl⟩ := q; first | with_reducible rfl | (rw [HP_len, HP_len]; done) | rfl) (fun rv9 h9 q9 => ?_)
      obtain ⟨⟨k2, hk2, rfl⟩, rfl⟩ := q9
      refine Rch.go rfl ?_
      rw [show (2 : Int32) + nI k2 = nI (2 + k2) from nI_add 2 k2]
      refine Rch.call 0 (t_X8_set c r K s L hn hq _ _) rfl rfl g_L_26 om_X8_set rfl (fun _ _ _ q => q) rfl rfl rfl rfl ⟨rfl, rfl⟩ ⟨by decide, by decide⟩ (fun _ _ q => by obtain ⟨_, rfl⟩ := q; exact hA_len _) (fun rv9 h9 q9 => ?_)
      obtain ⟨rfl, rfl⟩ := q9
      exact Rch.ri rfl rfl rfl (by decide) (by decide) (⟨_, stt_A h (j := 1) (by decide) (inz (a := 2) (b := 99) (by omega) (by omega) (by decide)), rfl, rfl⟩)
    | 2, _ =>
      refine Rch.z_ne rfl (fun q => absurd q (by decide)) (fun _ => ?_)
      refine Rch.go rfl ?_
      refine Rch.i_ne rfl (fun q => absurd q (by decide)) (fun _ => ?_)
      refine Rch.go rfl ?_
      refine Rch.call 1 (t_L_low (n := 90) _ _ (by decide) (by decide)) rfl rfl g_L_8 om_L_low rfl (fun _ _ _ q => q) rfl rfl rfl rfl ⟨rfl, rfl⟩ ⟨by decide, by decide⟩ (fun _ _ q => by obtain ⟨_, rfl⟩ := q; first | with_reducible rfl | (rw [HP_len, HP_len]; done) | rfl) (fun rv9 h9 q9 => ?_)
      obtain ⟨⟨k2, hk2, rfl⟩, rfl⟩ := q9
      refine Rch.go rfl ?_
      rw [show (60 : Int32) + nI k2 = nI (60 + k2) from nI_add 60 k2]
      refine Rch.call 0 (t_X8_set c r K s L hn hq _ _) rfl rfl g_L_26 om_X8_set rfl (fun _ _ _ q => q) rfl rfl rfl rfl ⟨rfl, rfl⟩ ⟨by decide, by decide⟩ (fun _ _ q => by obtain ⟨_, rfl⟩ := q; exact hA_len _) (fun rv9 h9 q9 => ?_)
      obtain ⟨rfl, rfl⟩ := q9
      exact Rch.ri rfl rfl rfl (by decide) (by decide) (⟨_, stt_A h (j := 2) (by decide) (inz (a := 50) (b := 200) (by omega) (by omega) (by decide)), rfl, rfl⟩)
    | k1 + 3, q => exact absurd q (by omega)
  | 4, _ =>
    refine Rch.sw (t := 214) rfl rfl ?_
    refine Rch.go rfl ?_
    refine Rch.call 1 (t_L_low (n := 5) _ _ (by decide) (by decide)) rfl rfl g_L_8 om_L_low rfl (fun _ _ _ q => q) rfl rfl rfl rfl ⟨rfl, rfl⟩ ⟨by decide, by decide⟩ (fun _ _ q => by obtain ⟨_, rfl⟩ := q; first | with_reducible rfl | (rw [HP_len, HP_len]; done) | rfl) (fun rv9 h9 q9 => ?_)
    obtain ⟨⟨k1, hk1, rfl⟩, rfl⟩ := q9
    refine Rch.call 0 (t_X8_order__z c r K s L hn hq (k := 0) (b := k1) hN (by decide) (fun _ => hk1) (fun q => absurd q (by decide)) (by omega)) rfl rfl g_L_29 om_X8_order rfl (fun _ _ _ q => q) rfl rfl rfl rfl ⟨rfl, rfl⟩ ⟨by decide, by decide⟩ (fun _ _ q => by obtain ⟨_, rfl⟩ := q; exact hA_len _) (fun rv9 h9 q9 => ?_)
    obtain ⟨rfl, rfl⟩ := q9
    exact Rch.ri rfl rfl rfl (by decide) (by decide) (⟨_, ord_A h hN ⟨by decide, fun _ => hk1, fun q => absurd q (by decide), by omega⟩, rfl, rfl⟩)
  | 5, _ =>
    refine Rch.sw (t := 214) rfl rfl ?_
    refine Rch.go rfl ?_
    refine Rch.call 1 (t_L_low (n := 5) _ _ (by decide) (by decide)) rfl rfl g_L_8 om_L_low rfl (fun _ _ _ q => q) rfl rfl rfl rfl ⟨rfl, rfl⟩ ⟨by decide, by decide⟩ (fun _ _ q => by obtain ⟨_, rfl⟩ := q; first | with_reducible rfl | (rw [HP_len, HP_len]; done) | rfl) (fun rv9 h9 q9 => ?_)
    obtain ⟨⟨k1, hk1, rfl⟩, rfl⟩ := q9
    refine Rch.call 0 (t_X8_order__z c r K s L hn hq (k := 0) (b := k1) hN (by decide) (fun _ => hk1) (fun q => absurd q (by decide)) (by omega)) rfl rfl g_L_29 om_X8_order rfl (fun _ _ _ q => q) rfl rfl rfl rfl ⟨rfl, rfl⟩ ⟨by decide, by decide⟩ (fun _ _ q => by obtain ⟨_, rfl⟩ := q; exact hA_len _) (fun rv9 h9 q9 => ?_)
    obtain ⟨rfl, rfl⟩ := q9
    exact Rch.ri rfl rfl rfl (by decide) (by decide) (⟨_, ord_A h hN ⟨by decide, fun _ => hk1, fun q => absurd q (by decide), by omega⟩, rfl, rfl⟩)
  | 6, _ =>
    refine Rch.sw (t := 227) rfl rfl ?_
    refine Rch.go rfl ?_
    refine Rch.call 1 (t_L_low (n := 5) _ _ (by decide) (by decide)) rfl rfl g_L_8 om_L_low rfl (fun _ _ _ q => q) rfl rfl rfl rfl ⟨rfl, rfl⟩ ⟨by decide, by decide⟩ (fun _ _ q => by obtain ⟨_, rfl⟩ := q; first | with_reducible rfl | (rw [HP_len, HP_len]; done) | rfl) (fun rv9 h9 q9 => ?_)
    obtain ⟨⟨k1, hk1, rfl⟩, rfl⟩ := q9
    refine Rch.call 0 (t_X8_order__z c r K s L hn hq (k := 1) (b := k1) hN (by decide) (fun _ => hk1) (fun q => absurd q (by decide)) (by omega)) rfl rfl g_L_29 om_X8_order rfl (fun _ _ _ q => q) rfl rfl rfl rfl ⟨rfl, rfl⟩ ⟨by decide, by decide⟩ (fun _ _ q => by obtain ⟨_, rfl⟩ := q; exact hA_len _) (fun rv9 h9 q9 => ?_)
    obtain ⟨rfl, rfl⟩ := q9
    exact Rch.ri rfl rfl rfl (by decide) (by decide) (⟨_, ord_A h hN ⟨by decide, fun _ => hk1, fun q => absurd q (by decide), by omega⟩, rfl, rfl⟩)
  | 7, _ =>
    refine Rch.sw (t := 240) rfl rfl ?_
    refine Rch.go rfl ?_
    refine Rch.call 1 (t_L_low (n := 3) _ _ (by decide) (by decide)) rfl rfl g_L_8 om_L_low rfl (fun _ _ _ q => q) rfl rfl rfl rfl ⟨rfl, rfl⟩ ⟨by decide, by decide⟩ (fun _ _ q => by obtain ⟨_, rfl⟩ := q; first | with_reducible rfl | (rw [HP_len, HP_len]; done) | rfl) (fun rv9 h9 q9 => ?_)
    obtain ⟨⟨k1, hk1, rfl⟩, rfl⟩ := q9
    refine Rch.go rfl ?_
    refine Rch.call 1 (t_L_low (n := 30) _ _ (by decide) (by decide)) rfl rfl g_L_8 om_L_low rfl (fun _ _ _ q => q) rfl rfl rfl rfl ⟨rfl, rfl⟩ ⟨by decide, by decide⟩ (fun _ _ q => by obtain ⟨_, rfl⟩ := q; first | with_reducible rfl | (rw [HP_len, HP_len]; done) | rfl) (fun rv9 h9 q9 => ?_)
    obtain ⟨⟨k2, hk2, rfl⟩, rfl⟩ := q9
    refine Rch.go rfl ?_
    rw [show (1 : Int32) + nI k2 = nI (1 + k2) from nI_add 1 k2, show (2 : Int32) + nI k1 = nI (2 + k1) from nI_add 2 k1]
    refine Rch.call 0 (t_X8_order__z c r K s L hn hq (k := 2 + k1) (b := 1 + k2) hN (by omega) (fun q => by omega) (fun q => by omega) (by omega)) rfl rfl g_L_29 om_X8_order rfl (fun _ _ _ q => q) rfl rfl rfl rfl ⟨rfl, rfl⟩ ⟨by decide, by decide⟩ (fun _ _ q => by obtain ⟨_, rfl⟩ := q; exact hA_len _) (fun rv9 h9 q9 => ?_)
    obtain ⟨rfl, rfl⟩ := q9
    exact Rch.ri rfl rfl rfl (by decide) (by decide) (⟨_, ord_A h hN ⟨by omega, fun q => by omega, fun q => by omega, by omega⟩, rfl, rfl⟩)
  | 8, _ =>
    refine Rch.sw (t := 240) rfl rfl ?_
    refine Rch.go rfl ?_
    refine Rch.call 1 (t_L_low (n := 3) _ _ (by decide) (by decide)) rfl rfl g_L_8 om_L_low rfl (fun _ _ _ q => q) rfl rfl rfl rfl ⟨rfl, rfl⟩ ⟨by decide, by decide⟩ (fun _ _ q => by obtain ⟨_, rfl⟩ := q; first | with_reducible rfl | (rw [HP_len, HP_len]; done) | rfl) (fun rv9 h9 q9 => ?_)
    obtain ⟨⟨k1, hk1, rfl⟩, rfl⟩ := q9
    refine Rch.go rfl ?_
    refine Rch.call 1 (t_L_low (n := 30) _ _ (by decide) (by decide)) rfl rfl g_L_8 om_L_low rfl (fun _ _ _ q => q) rfl rfl rfl rfl ⟨rfl, rfl⟩ ⟨by decide, by decide⟩ (fun _ _ q => by obtain ⟨_, rfl⟩ := q; first | with_reducible rfl | (rw [HP_len, HP_len]; done) | rfl) (fun rv9 h9 q9 => ?_)
    obtain ⟨⟨k2, hk2, rfl⟩, rfl⟩ := q9
    refine Rch.go rfl ?_
    rw [show (1 : Int32) + nI k2 = nI (1 + k2) from nI_add 1 k2, show (2 : Int32) + nI k1 = nI (2 + k1) from nI_add 2 k1]
    refine Rch.call 0 (t_X8_order__z c r K s L hn hq (k := 2 + k1) (b := 1 + k2) hN (by omega) (fun q => by omega) (fun q => by omega) (by omega)) rfl rfl g_L_29 om_X8_order rfl (fun _ _ _ q => q) rfl rfl rfl rfl ⟨rfl, rfl⟩ ⟨by decide, by decide⟩ (fun _ _ q => by obtain ⟨_, rfl⟩ := q; exact hA_len _) (fun rv9 h9 q9 => ?_)
    obtain ⟨rfl, rfl⟩ := q9
    exact Rch.ri rfl rfl rfl (by decide) (by decide) (⟨_, ord_A h hN ⟨by omega, fun q => by omega, fun q => by omega, by omega⟩, rfl, rfl⟩)
  | 9, _ =>
    refine Rch.sw (t := 265) rfl rfl ?_
    refine Rch.go rfl ?_
    refine Rch.z_ne rfl (fun z => ?_) (fun z => ?_)
    · refine Rch.go rfl ?_
      refine Rch.call 1 (t_L_low (n := 5) _ _ (by decide) (by decide)) rfl rfl g_L_8 om_L_low rfl (fun _ _ _ q => q) rfl rfl rfl rfl ⟨rfl, rfl⟩ ⟨by decide, by decide⟩ (fun _ _ q => by obtain ⟨_, rfl⟩ := q; first | with_reducible rfl | (rw [HP_len, HP_len]; done) | rfl) (fun rv9 h9 q9 => ?_)
      obtain ⟨⟨k1, hk1, rfl⟩, rfl⟩ := q9
      refine Rch.call 0 (t_X8_strike c r K s L hn hq _ hN.1 hN12) rfl rfl g_L_32 om_X8_strike rfl (fun _ _ _ q => q) rfl rfl rfl rfl ⟨rfl, rfl⟩ ⟨by decide, by decide⟩ (fun _ _ q => by obtain ⟨_, rfl⟩ := q; exact hA_len _) (fun rv9 h9 q9 => ?_)
      obtain ⟨rfl, rfl⟩ := q9
      refine Rch.go rfl ?_
      exact Rch.ri rfl rfl rfl (by decide) (by decide) (⟨_, stq_A h hN (in4z hk1), rfl, rfl⟩)
    · refine Rch.go rfl ?_
      refine Rch.call 1 (t_L_low (n := 3) _ _ (by decide) (by decide)) rfl rfl g_L_8 om_L_low rfl (fun _ _ _ q => q) rfl rfl rfl rfl ⟨rfl, rfl⟩ ⟨by decide, by decide⟩ (fun _ _ q => by obtain ⟨_, rfl⟩ := q; first | with_reducible rfl | (rw [HP_len, HP_len]; done) | rfl) (fun rv9 h9 q9 => ?_)
      obtain ⟨⟨k1, hk1, rfl⟩, rfl⟩ := q9
      refine Rch.go rfl ?_
      rw [show (1 : Int32) + nI k1 = nI (1 + k1) from nI_add 1 k1]
      refine Rch.call 0 (t_X8_work c r K s L hn hq _ hN hR hR2) rfl rfl g_L_36 om_X8_work rfl (fun _ _ _ q => q) rfl rfl rfl rfl ⟨rfl, rfl⟩ ⟨by decide, by decide⟩ (fun _ _ q => by obtain ⟨_, rfl⟩ := q; exact hA_len _) (fun rv9 h9 q9 => ?_)
      obtain ⟨rfl, rfl⟩ := q9
      exact Rch.ri rfl rfl rfl (by decide) (by decide) (⟨_, wrk_A h hN (inz (a := 1) (b := 12) (by omega) (by omega) (by decide)), rfl, rfl⟩)
  | 10, _ =>
    refine Rch.sw (t := 303) rfl rfl ?_
    refine Rch.go rfl ?_
    refine Rch.call 1 (t_L_low (n := 12) _ _ (by decide) (by decide)) rfl rfl g_L_8 om_L_low rfl (fun _ _ _ q => q) rfl rfl rfl rfl ⟨rfl, rfl⟩ ⟨by decide, by decide⟩ (fun _ _ q => by obtain ⟨_, rfl⟩ := q; first | with_reducible rfl | (rw [HP_len, HP_len]; done) | rfl) (fun rv9 h9 q9 => ?_)
    obtain ⟨⟨k1, hk1, rfl⟩, rfl⟩ := q9
    refine Rch.go rfl ?_
    rw [show (1 : Int32) + nI k1 = nI (1 + k1) from nI_add 1 k1]
    refine Rch.call 0 (t_X8_work c r K s L hn hq _ hN hR hR2) rfl rfl g_L_36 om_X8_work rfl (fun _ _ _ q => q) rfl rfl rfl rfl ⟨rfl, rfl⟩ ⟨by decide, by decide⟩ (fun _ _ q => by obtain ⟨_, rfl⟩ := q; exact hA_len _) (fun rv9 h9 q9 => ?_)
    obtain ⟨rfl, rfl⟩ := q9
    exact Rch.ri rfl rfl rfl (by decide) (by decide) (⟨_, wrk_A h hN (inz (a := 1) (b := 12) (by omega) (by omega) (by decide)), rfl, rfl⟩)
  | 11, _ =>
    refine Rch.sw (t := 303) rfl rfl ?_
    refine Rch.go rfl ?_
    refine Rch.call 1 (t_L_low (n := 12) _ _ (by decide) (by decide)) rfl rfl g_L_8 om_L_low rfl (fun _ _ _ q => q) rfl rfl rfl rfl ⟨rfl, rfl⟩ ⟨by decide, by decide⟩ (fun _ _ q => by obtain ⟨_, rfl⟩ := q; first | with_reducible rfl | (rw [HP_len, HP_len]; done) | rfl) (fun rv9 h9 q9 => ?_)
    obtain ⟨⟨k1, hk1, rfl⟩, rfl⟩ := q9
    refine Rch.go rfl ?_
    rw [show (1 : Int32) + nI k1 = nI (1 + k1) from nI_add 1 k1]
    refine Rch.call 0 (t_X8_work c r K s L hn hq _ hN hR hR2) rfl rfl g_L_36 om_X8_work rfl (fun _ _ _ q => q) rfl rfl rfl rfl ⟨rfl, rfl⟩ ⟨by decide, by decide⟩ (fun _ _ q => by obtain ⟨_, rfl⟩ := q; exact hA_len _) (fun rv9 h9 q9 => ?_)
    obtain ⟨rfl, rfl⟩ := q9
    exact Rch.ri rfl rfl rfl (by decide) (by decide) (⟨_, wrk_A h hN (inz (a := 1) (b := 12) (by omega) (by omega) (by decide)), rfl, rfl⟩)
  | 12, _ =>
    refine Rch.sw (t := 318) rfl rfl ?_
    refine Rch.go rfl ?_
    refine Rch.call 1 (t_L_low (n := 8) _ _ (by decide) (by decide)) rfl rfl g_L_8 om_L_low rfl (fun _ _ _ q => q) rfl rfl rfl rfl ⟨rfl, rfl⟩ ⟨by decide, by decide⟩ (fun _ _ q => by obtain ⟨_, rfl⟩ := q; first | with_reducible rfl | (rw [HP_len, HP_len]; done) | rfl) (fun rv9 h9 q9 => ?_)
    obtain ⟨⟨k1, hk1, rfl⟩, rfl⟩ := q9
    refine Rch.call 0 (t_X8_sound c r K s L hn hq _) rfl rfl g_L_39 om_X8_sound rfl (fun _ _ _ q => q) rfl rfl rfl rfl ⟨rfl, rfl⟩ ⟨by decide, by decide⟩ (fun _ _ q => by obtain ⟨_, rfl⟩ := q; exact hA_len _) (fun rv9 h9 q9 => ?_)
    obtain ⟨rfl, rfl⟩ := q9
    exact Rch.ri rfl rfl rfl (by decide) (by decide) (⟨_, sou_A h (in7z hk1), rfl, rfl⟩)
  | y + 13, hy => exact absurd hy (by omega)
end LD
