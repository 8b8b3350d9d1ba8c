/-! ===== the law: soundings are so ===== -/
theorem Gdz.snd {B : Nat} {c : FA} (h : Gdz B c) : ∀ j, j < 8 → ∃ k, k ≤ 3 ∧ c (32 + j) = nI k := by
  intro j hj
  have b := h.1.s hj
  obtain ⟨k, e1, e2, e3⟩ := pzK (a := c (32 + j)) (by omega)
  exact ⟨k, by omega, e1⟩
theorem snd_up {c : FA} (h : Rgz c) {j : Nat} (hj : j < 8) : (snd9 c j (32 + j)).toInt = if 3 ≤ (c (32 + j)).toInt then 3 else (c (32 + j)).toInt + 1 := by
  have b := h.s hj
  have i1 : (1 : Int32).toInt = 1 := rfl
  have e1 : (c (32 + j) + 1).toInt = (c (32 + j)).toInt + 1 := by rw [pzA (by omega) (by omega), i1]
  rw [snd_ks hj]
  by_cases z : 3 < c (32 + j) + 1
  · rw [if_pos z]
    rw [Int32.lt_iff_toInt_lt, e1, show (3 : Int32).toInt = 3 from rfl] at z
    rw [if_pos (by omega)]
    rfl
  · rw [if_neg z]
    rw [Int32.lt_iff_toInt_lt, e1, show (3 : Int32).toInt = 3 from rfl] at z
    rw [if_neg (by omega), e1]
theorem sng_z {c : FA} {j b : Nat} (z : Int32) (hj : j < 8) (hb : b < 2) (h2 : 2 ≤ (c (32 + j)).toInt) : sng c (nI j) (nI b) z = if z = 0 then c (64 + (j * 3 + b)) else c (40 + (j * 3 + b)) := by
  have hb2 : (nI b).toInt = b := nI_toInt (by omega)
  unfold sng
  rw [if_neg (fun q => q (in7z hj)), if_neg (nI_pos (by omega)), ix_nI (by omega), ix_nI (by omega), if_neg (by rw [Int32.le_iff_toInt_le, hb2]; omega)]
theorem soz {B : Nat} {c : FA} (h : Gdz B c) {j : Nat} (hj : j < 8) (x : Int32) (R i : Nat) {c1 c2 c3 : FA} (e1 : c1 = snd9 c j) (e2 : c2 = mns (-1) x R c1 i) (e3 : c3 = snd9 c2 j) :
    c3 j = c1 j - (c2 (16 + j) - c1 (16 + j)) ∧ tnk c3 (nI j) 5 = c2 (16 + j) - c1 (16 + j) ∧ sng c3 (nI j) 0 0 = c1 j - (c2 (16 + j) - c1 (16 + j)) ∧ sng c3 (nI j) 1 0 = c1 j ∧ sng c3 (nI j) 1 1 = c1 156 ∧ sng c3 (nI j) 0 1 = c1 156 + nI i ∧ lst c3 = lst c2 ∧ c1 156 = c 156 := by
  have G1 : Gdz B c1 := by rw [e1]; exact snd_G h hj
  have G2 : Gdz (B + i) c2 := by rw [e2]; exact mns_G G1 i
  have k1 : 1 ≤ (c1 (32 + j)).toInt := by
    rw [e1, snd_up h.1 hj]
    have := h.1.s hj
    split <;> omega
  have k2 : c2 (32 + j) = c1 (32 + j) := by rw [e2]; exact mns_off_un (by omega) (by omega) i
  have k3 : 2 ≤ (c3 (32 + j)).toInt := by
    rw [e3, snd_up G2.1 hj, k2]
    split <;> omega
  have hl : c2 j + c2 (16 + j) = c1 j + c1 (16 + j) := by rw [e2]; exact mns_wl hj i
  have a0 : c3 j = c2 j := by rw [e3]; exact snd_lo hj (by omega)
  have aw : c1 j = c j := by rw [e1]; exact snd_lo hj (by omega)
  have am : c1 156 = c 156 := by rw [e1]; exact snd_lo hj (by omega)
  obtain ⟨b1, b2, b3⟩ := snd_0 (c := c2) hj
  obtain ⟨b4, b5, b6⟩ := snd_1 (c := c2) hj
  obtain ⟨d1, d2, d3⟩ := snd_0 (c := c) hj
  rw [← e3] at b1 b2 b3 b4 b5 b6
  rw [← e1] at d1 d2 d3
  have m1 : c2 (40 + (j * 3 + 0)) = c1 (40 + (j * 3 + 0)) := by rw [e2]; exact mns_off_un (by omega) (by omega) i
  have m2 : c2 (64 + (j * 3 + 0)) = c1 (64 + (j * 3 + 0)) := by rw [e2]; exact mns_off_un (by omega) (by omega) i
  have m3 : c2 (88 + (j * 3 + 0)) = c1 (88 + (j * 3 + 0)) := by rw [e2]; exact mns_off_un (by omega) (by omega) i
  have m4 : c2 (24 + j) = c1 (24 + j) := by rw [e2]; exact mns_off_un (by omega) (by omega) i
  have m5 : c1 (24 + j) = c (24 + j) := by rw [e1]; exact snd_lo hj (by omega)
  have m6 : c2 156 = c1 156 + nI i := by rw [e2]; exact mns_156 _ _ _ _ i
  have hd : c2 j = c1 j - (c2 (16 + j) - c1 (16 + j)) := by grind
  refine ⟨a0.trans hd, ?_, ?_, ?_, ?_, ?_, ?_, am⟩
  · rw [tnk_5 hj, if_pos ⟨by rw [Int32.le_iff_toInt_le, show (2 : Int32).toInt = 2 from rfl]; exact k3, by rw [b3, b6, m3, d3, m4, m5]⟩]
    unfold los
    rw [b5, m2, d2, b2, hd, ← aw]
    grind
  · rw [show sng c3 (nI j) 0 0 = _ from sng_z (b := 0) 0 hj (by decide) k3, if_pos rfl, b2]
    exact hd
  · rw [show sng c3 (nI j) 1 0 = _ from sng_z (b := 1) 0 hj (by decide) k3, if_pos rfl, b5, m2, d2, aw]
  · rw [show sng c3 (nI j) 1 1 = _ from sng_z (b := 1) 1 hj (by decide) k3, if_neg (by decide), b4, m1, d1, am]
  · rw [show sng c3 (nI j) 0 1 = _ from sng_z (b := 0) 1 hj (by decide) k3, if_neg (by decide), b1, m6]
  · have hu : ∀ i, i < 32 ∨ 112 ≤ i → c3 i = c2 i := fun i hi => by rw [e3]; exact snd_lo hj hi
    have el : lmo c3 = lmo c2 := by
      unfold lmo
      rw [show fs 0 (fun t => c3 t * sidA (t % 2)) 8 = fs 0 (fun t => c2 t * sidA (t % 2)) 8 from fs_cong 8 (fun k hk => by show c3 k * sidA (k % 2) = c2 k * sidA (k % 2); rw [hu k (by omega)])]
      exact fs_cong 3 (fun k hk => by show c3 (112 + k) * c3 (115 + k) = c2 (112 + k) * c2 (115 + k); rw [hu (112 + k) (by omega), hu (115 + k) (by omega)])
    have ew : wgt c3 = wgt c2 := by
      rw [wgt_pz, wgt_pz, show pzT c3 = pzT c2 from fs_cong 8 (fun k hk => hu k (by omega)), show pzL c3 = pzL c2 from fs_cong 3 (fun k hk => hu (112 + k) (by omega))]
    unfold lst
    rw [el, ew]
/-- three acts and three undos bring back what was -/
theorem un3z {c c1 c2 c3 : FA} {r : Nat → FA} {n : Nat} (hn : n < 4) {r1 r2 r3 : Nat → FA} {n1 n2 : Nat} (hn1 : n1 = (n + 1) % 4) (hn2 : n2 = (n1 + 1) % 4) (h1 : r1 = vup r n (cp c (r n))) (h2 : r2 = vup r1 n1 (cp c1 (r1 n1))) (h3 : r3 = vup r2 n2 (cp c2 (r2 n2))) (j : Nat) (hj : j < 162) :
    cp (r3 n) (cp (r3 n1) (cp (r3 n2) c3)) j = c j := by
  have e1 : r3 n = cp c (r n) := by
    rw [h3, show vup r2 n2 (cp c2 (r2 n2)) n = r2 n from if_neg (by omega), h2, show vup r1 n1 (cp c1 (r1 n1)) n = r1 n from if_neg (by omega), h1]
    exact if_pos rfl
  rw [e1]
  show (if j < 162 then (if j < 162 then c j else r n j) else _) = c j
  rw [if_pos hj, if_pos hj]
section LN
theorem t_L_isSoundSo (c : FA) (r : Nat → FA) (K : KR) (s : FA) (L : LS9) {n q : Nat} (hn : n < 4) (hq : q ≤ 4) {B j i : Nat} (h : Gdz B c) (hj : j < 8) (hi1 : 1 ≤ i) (hi : i ≤ 25) : Ct m_L_isSoundSo X0 [.ref 0, .int (nI j), .int (nI i)] (HP c (r, nI n, nI q, K) s L []) (BKz c n K s L) := by
  obtain ⟨R, hR9, hR⟩ := h.rate
  have hR2 : R < 2 ^ 31 := by omega
  have hs1 : sou c (nI j) = (snd9 c j j, some (snd9 c j)) := by
    unfold sou
    rw [if_neg (fun q => q (in7z hj)), ix_nI (by omega)]
  have hs2 : ∀ d : FA, sou d (nI j) = (snd9 d j j, some (snd9 d j)) := by
    intro d
    unfold sou
    rw [if_neg (fun q => q (in7z hj)), ix_nI (by omega)]
  have hp : ∀ d : FA, pas d (nI i) R = (lst (mns (-1) (opn d 5) R d i), some (mns (-1) (opn d 5) R d i)) := by
    intro d
    unfold pas
    rw [if_neg (fun q => q ⟨(nI_leI (a := 1) (by decide) (by omega)).mpr hi1, (nI_leI (b := 200) (by omega) (by decide)).mpr (by omega)⟩), ix_nI (by omega)]
  obtain ⟨c1, e1⟩ : ∃ c1, c1 = snd9 c j := ⟨_, rfl⟩
  obtain ⟨c2, e2⟩ : ∃ c2, c2 = mns (-1) (opn c1 5) R c1 i := ⟨_, rfl⟩
  obtain ⟨c3, e3⟩ : ∃ c3, c3 = snd9 c2 j := ⟨_, rfl⟩
  have G1 : Gdz B c1 := by rw [e1]; exact snd_G h hj
  have G2 : Gdz (B + i) c2 := by rw [e2]; exact mns_G G1 i
  have G3 : Gdz (B + i) c3 := by rw [e3]; exact snd_G G2 hj
  have hR1 : c1 128 = nI R := by rw [e1, snd_lo hj (by omega)]; exact hR
  obtain ⟨s1, s2, s3, s4, s5, s6, s7, s8⟩ := soz h hj (opn c1 5) R i e1 e2 e3
  have hs1 : sou c (nI j) = (c1 j, some c1) := by rw [e1]; exact hs1
  have hp : pas c1 (nI i) R = (lst c2, some c2) := by rw [e2]; exact hp c1
  have hs2 : sou c2 (nI j) = (c3 j, some c3) := by rw [e3]; exact hs2 c2
  clear e1 e2 e3
  obtain ⟨n1, f1⟩ : ∃ n1, n1 = (n + 1) % 4 := ⟨_, rfl⟩
  obtain ⟨n2, f2⟩ : ∃ n2, n2 = (n1 + 1) % 4 := ⟨_, rfl⟩
  obtain ⟨n3, f3⟩ : ∃ n3, n3 = (n2 + 1) % 4 := ⟨_, rfl⟩
  obtain ⟨q1, g1⟩ : ∃ q1, q1 = (if q < 4 then q + 1 else 4) := ⟨_, rfl⟩
  obtain ⟨q2, g2⟩ : ∃ q2, q2 = (if q1 < 4 then q1 + 1 else 4) := ⟨_, rfl⟩
  obtain ⟨q3, g3⟩ : ∃ q3, q3 = (if q2 < 4 then q2 + 1 else 4) := ⟨_, rfl⟩
  obtain ⟨r1, p1⟩ : ∃ r1, r1 = vup r n (cp c (r n)) := ⟨_, rfl⟩
  obtain ⟨r2, p2⟩ : ∃ r2, r2 = vup r1 n1 (cp c1 (r1 n1)) := ⟨_, rfl⟩
  obtain ⟨r3, p3⟩ : ∃ r3, r3 = vup r2 n2 (cp c2 (r2 n2)) := ⟨_, rfl⟩
  have hq1 : q1 ≤ 4 ∧ 1 ≤ q1 := by rw [g1]; split <;> omega
  have hq2 : q2 ≤ 4 ∧ 2 ≤ q2 := by rw [g2]; split <;> omega
  have hq3 : q3 ≤ 4 ∧ 3 ≤ q3 := by rw [g3]; split <;> omega
  have b1 : hA c r n q K s L (some c1) = HP c1 (r1, nI n1, nI q1, K) s L [] := by rw [p1, f1, g1]; rfl
  have b2 : hA c1 r1 n1 q1 K s L (some c2) = HP c2 (r2, nI n2, nI q2, K) s L [] := by rw [p2, f2, g2]; rfl
  have b3 : hA c2 r2 n2 q2 K s L (some c3) = HP c3 (r3, nI n3, nI q3, K) s L [] := by rw [p3, f3, g3]; rfl
  have ec := un3z (c3 := c3) hn f1 f2 p1 p2 p3
  have t3 : (n3 + 3) % 4 = n2 := by omega
  have t2 : (n2 + 3) % 4 = n1 := by omega
  have t1 : (n1 + 3) % 4 = n := by omega
  clear g1 g2 g3 p1 p2 p3
  refine ⟨ok_L_isSoundSo, ?_⟩
  refine Rch.go rfl ?_
  refine Rch.call 0 (t_X8_sound c r K s L hn hq _) rfl rfl g_L_39 om_X8_sound rfl (fun _ _ _ q => q) rfl rfl rfl rfl ⟨rfl, rfl⟩ ⟨by decide, by decide⟩ (fun _ _ q => by obtain ⟨_, rfl⟩ := q; exact hA_len _) (fun rv9 h9 q9 => ?_)
  obtain ⟨rfl, rfl⟩ := q9
  rw [hs1, b1]
  refine Rch.go rfl ?_
  refine Rch.call 0 (t_X8_tank c1 _ s L [] _ _) rfl rfl g_L_45 om_X8_tank rfl (fun _ _ _ q => q) rfl rfl rfl rfl ⟨rfl, rfl⟩ ⟨by decide, by decide⟩ (fun _ _ q => by obtain ⟨_, rfl⟩ := q; first | with_reducible rfl | (rw [HP_len, HP_len]; done) | rfl) (fun rv9 h9 q9 => ?_)
  obtain ⟨rfl, rfl⟩ := q9
  rw [tnk_6 hj]
  refine Rch.go rfl ?_
  refine Rch.call 0 (t_X8_count c1 _ s L [] _) rfl rfl g_L_57 om_X8_count rfl (fun _ _ _ q => q) rfl rfl rfl rfl ⟨rfl, rfl⟩ ⟨by decide, by decide⟩ (fun _ _ q => by obtain ⟨_, rfl⟩ := q; first | with_reducible rfl | (rw [HP_len, HP_len]; done) | rfl) (fun rv9 h9 q9 => ?_)
  obtain ⟨rfl, rfl⟩ := q9
  rw [cou_7]
  refine Rch.go rfl ?_
  refine Rch.call 0 (t_X8_pass c1 r1 K s L (by omega) hq1.1 _ hR1 hR2) rfl rfl g_L_42 om_X8_pass rfl (fun _ _ _ q => q) rfl rfl rfl rfl ⟨rfl, rfl⟩ ⟨by decide, by decide⟩ (fun _ _ q => by obtain ⟨_, rfl⟩ := q; exact hA_len _) (fun rv9 h9 q9 => ?_)
  obtain ⟨rfl, rfl⟩ := q9
  rw [hp, b2]
  refine Rch.go rfl ?_
  refine Rch.call 0 (t_X8_tank c2 _ s L [] _ _) rfl rfl g_L_45 om_X8_tank rfl (fun _ _ _ q => q) rfl rfl rfl rfl ⟨rfl, rfl⟩ ⟨by decide, by decide⟩ (fun _ _ q => by obtain ⟨_, rfl⟩ := q; first | with_reducible rfl | (rw [HP_len, HP_len]; done) | rfl) (fun rv9 h9 q9 => ?_)
  obtain ⟨rfl, rfl⟩ := q9
  rw [tnk_6 hj]
  refine Rch.go rfl ?_
  refine Rch.call 0 (t_X8_sound c2 r2 K s L (by omega) hq2.1 _) rfl rfl g_L_39 om_X8_sound rfl (fun _ _ _ q => q) rfl rfl rfl rfl ⟨rfl, rfl⟩ ⟨by decide, by decide⟩ (fun _ _ q => by obtain ⟨_, rfl⟩ := q; exact hA_len _) (fun rv9 h9 q9 => ?_)
  obtain ⟨rfl, rfl⟩ := q9
  rw [hs2, b3]
  refine Rch.go rfl ?_
  refine Rch.i_ne rfl (fun _ => ?_) (fun q => absurd s1 q)
  refine Rch.go rfl ?_
  refine Rch.call 0 (t_X8_tank c3 _ s L [] _ _) rfl rfl g_L_45 om_X8_tank rfl (fun _ _ _ q => q) rfl rfl rfl rfl ⟨rfl, rfl⟩ ⟨by decide, by decide⟩ (fun _ _ q => by obtain ⟨_, rfl⟩ := q; first | with_reducible rfl | (rw [HP_len, HP_len]; done) | rfl) (fun rv9 h9 q9 => ?_)
  obtain ⟨rfl, rfl⟩ := q9
  refine Rch.go rfl ?_
  refine Rch.i_ne rfl (fun _ => ?_) (fun q => absurd s2 q)
  refine Rch.go rfl ?_
  refine Rch.call 0 (t_X8_sounding c3 _ s L [] _ _ _ G3.snd) rfl rfl g_L_73 om_X8_sounding rfl (fun _ _ _ q => q) rfl rfl rfl rfl ⟨rfl, rfl⟩ ⟨by decide, by decide⟩ (fun _ _ q => by obtain ⟨_, rfl⟩ := q; first | with_reducible rfl | (rw [HP_len, HP_len]; done) | rfl) (fun rv9 h9 q9 => ?_)
  obtain ⟨rfl, rfl⟩ := q9
  refine Rch.go rfl ?_
  refine Rch.i_ne rfl (fun _ => ?_) (fun q => absurd s3 q)
  refine Rch.go rfl ?_
  refine Rch.call 0 (t_X8_sounding c3 _ s L [] _ _ _ G3.snd) rfl rfl g_L_73 om_X8_sounding rfl (fun _ _ _ q => q) rfl rfl rfl rfl ⟨rfl, rfl⟩ ⟨by decide, by decide⟩ (fun _ _ q => by obtain ⟨_, rfl⟩ := q; first | with_reducible rfl | (rw [HP_len, HP_len]; done) | rfl) (fun rv9 h9 q9 => ?_)
  obtain ⟨rfl, rfl⟩ := q9
  refine Rch.go rfl ?_
  refine Rch.i_ne rfl (fun _ => ?_) (fun q => absurd s4 q)
  refine Rch.go rfl ?_
  refine Rch.call 0 (t_X8_sounding c3 _ s L [] _ _ _ G3.snd) rfl rfl g_L_73 om_X8_sounding rfl (fun _ _ _ q => q) rfl rfl rfl rfl ⟨rfl, rfl⟩ ⟨by decide, by decide⟩ (fun _ _ q => by obtain ⟨_, rfl⟩ := q; first | with_reducible rfl | (rw [HP_len, HP_len]; done) | rfl) (fun rv9 h9 q9 => ?_)
  obtain ⟨rfl, rfl⟩ := q9
  refine Rch.go rfl ?_
  refine Rch.i_ne rfl (fun _ => ?_) (fun q => absurd s5 q)
  refine Rch.go rfl ?_
  refine Rch.call 0 (t_X8_sounding c3 _ s L [] _ _ _ G3.snd) rfl rfl g_L_73 om_X8_sounding rfl (fun _ _ _ q => q) rfl rfl rfl rfl ⟨rfl, rfl⟩ ⟨by decide, by decide⟩ (fun _ _ q => by obtain ⟨_, rfl⟩ := q; first | with_reducible rfl | (rw [HP_len, HP_len]; done) | rfl) (fun rv9 h9 q9 => ?_)
  obtain ⟨rfl, rfl⟩ := q9
  refine Rch.go rfl ?_
  refine Rch.i_ne rfl (fun _ => ?_) (fun q => absurd s6 q)
  refine Rch.go rfl ?_
  refine Rch.call 0 (t_X8_count c3 _ s L [] _) rfl rfl g_L_57 om_X8_count rfl (fun _ _ _ q => q) rfl rfl rfl rfl ⟨rfl, rfl⟩ ⟨by decide, by decide⟩ (fun _ _ q => by obtain ⟨_, rfl⟩ := q; first | with_reducible rfl | (rw [HP_len, HP_len]; done) | rfl) (fun rv9 h9 q9 => ?_)
  obtain ⟨rfl, rfl⟩ := q9
  rw [cou_2]
  refine Rch.go rfl ?_
  refine Rch.i_ne rfl (fun _ => ?_) (fun q => absurd s7 q)
  refine Rch.go rfl ?_
  refine Rch.call 0 (t_X8_undo c3 r3 K s L (by omega) hq3.1) rfl rfl g_L_66 om_X8_undo rfl (fun _ _ _ q => q) rfl rfl rfl rfl ⟨rfl, rfl⟩ ⟨by decide, by decide⟩ (fun _ _ q => by obtain ⟨_, rfl⟩ := q; first | with_reducible rfl | (rw [HP_len, HP_len]; done) | rfl) (fun rv9 h9 q9 => ?_)
  obtain ⟨rfl, rfl⟩ := q9
  rw [if_neg (show ¬ q3 = 0 by omega), if_neg (show ¬ q3 = 0 by omega), if_neg (show ¬ q3 = 0 by omega), t3]
  refine Rch.go rfl ?_
  refine Rch.call 0 (t_X8_undo _ r3 K s L (by omega) (by omega)) rfl rfl g_L_66 om_X8_undo rfl (fun _ _ _ q => q) rfl rfl rfl rfl ⟨rfl, rfl⟩ ⟨by decide, by decide⟩ (fun _ _ q => by obtain ⟨_, rfl⟩ := q; first | with_reducible rfl | (rw [HP_len, HP_len]; done) | rfl) (fun rv9 h9 q9 => ?_)
  obtain ⟨rfl, rfl⟩ := q9
  rw [if_neg (show ¬ q3 - 1 = 0 by omega), if_neg (show ¬ q3 - 1 = 0 by omega), if_neg (show ¬ q3 - 1 = 0 by omega), t2]
  refine Rch.go rfl ?_
  refine Rch.call 0 (t_X8_undo _ r3 K s L (by omega) (by omega)) rfl rfl g_L_66 om_X8_undo rfl (fun _ _ _ q => q) rfl rfl rfl rfl ⟨rfl, rfl⟩ ⟨by decide, by decide⟩ (fun _ _ q => by obtain ⟨_, rfl⟩ := q; first | with_reducible rfl | (rw [HP_len, HP_len]; done) | rfl) (fun rv9 h9 q9 => ?_)
  obtain ⟨rfl, rfl⟩ := q9
  rw [if_neg (show ¬ q3 - 1 - 1 = 0 by omega), if_neg (show ¬ q3 - 1 - 1 = 0 by omega), if_neg (show ¬ q3 - 1 - 1 = 0 by omega), t1]
  refine Rch.go rfl ?_
  refine Rch.z_eq rfl (fun q => absurd q (by decide)) (fun _ => ?_)
  refine Rch.go rfl ?_
  refine Rch.z_lt rfl (fun z => absurd z (nI_pos (by omega))) (fun _ => ?_)
  refine Rch.go rfl ?_
  refine Rch.call 0 (t_X8_count _ _ s L [] _) rfl rfl g_L_57 om_X8_count rfl (fun _ _ _ q => q) rfl rfl rfl rfl ⟨rfl, rfl⟩ ⟨by decide, by decide⟩ (fun _ _ q => by obtain ⟨_, rfl⟩ := q; first | with_reducible rfl | (rw [HP_len, HP_len]; done) | rfl) (fun rv9 h9 q9 => ?_)
  obtain ⟨rfl, rfl⟩ := q9
  rw [cou_7, ec 156 (by decide)]
  refine Rch.go rfl ?_
  refine Rch.i_ne rfl (fun _ => ?_) (fun q => absurd s8.symm q)
  refine Rch.go rfl ?_
  exact Rch.ri rfl rfl rfl (by decide) (by decide) (⟨rfl, _, _, _, by omega, ec, rfl⟩)
end LN
