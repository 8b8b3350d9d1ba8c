/-! ===== what the reference tells ===== -/
theorem and1 (y : Int32) : y &&& 1 = if y &&& 1 = 1 then 1 else 0 := by
  by_cases h : y &&& 1 = 1
  · rw [if_pos h]; exact h
  · rw [if_neg h]
    apply Int32.toBitVec_inj.mp
    have e : (y &&& 1).toBitVec = BitVec.setWidth 32 (BitVec.ofBool (y.toBitVec.getLsbD 0)) := by
      rw [Int32.toBitVec_and]
      exact BitVec.and_one_eq_setWidth_ofBool_getLsbD
    cases hb : y.toBitVec.getLsbD 0 with
    | true =>
      rw [hb] at e
      exact absurd (Int32.toBitVec_inj.mp (e.trans (by decide))) h
    | false =>
      rw [hb] at e
      exact e.trans (by decide)
theorem oO (a b : Int32) : a - b = -(b - a) := by rw [Int32.neg_sub]
section MH
theorem t_X9_groupsOf (c : FA) (K : FA × KS) (s : FA) (L : LS9) (e : AH) {t : Int32} (h2 : R2 c s) : Ct m_X9_groupsOf X0 [.ref 14, .int t] (HP K.1 K.2 s L e) (fun rv h => rv = some (.int (grw c t 5)) ∧ h = HP K.1 K.2 s L e) := by
  refine ⟨ok_X9_groupsOf, ?_⟩
  refine Rch.go rfl ?_
  refine Rch.for 5 (fun n => (6, [(0, .ref 14), (1, .int t), (2, .int (grw c t n)), (3, .int (nI n))], [.int 5, .int (nI n)], HP K.1 K.2 s L e, 0, 0)) (fun n hn => ?_) ?_ 0 (by omega)
  · have e4 : s (38 + n) = c (118 + n) := by rw [h2 (38 + n) (by omega) (by omega), show 38 + n + 80 = 118 + n by omega]
    refine Rch.i_ge rfl (fun z => absurd z (lo_in hn (by decide))) (fun _ => ?_)
    refine Rch.go rfl ?_
    refine Rch.ia rfl rfl rfl (nI_add 38 n) (by omega) (by decide) ?_
    rw [e4]
    refine Rch.go rfl (Rch.rf ?_)
    have e5 : grw c t n ||| ((c (118 + n) >>> (t &&& 31) &&& 1) <<< (nI n &&& 31)) = grw c t (n + 1) := by
      by_cases q : (c (118 + n) >>> (t &&& 31)) &&& 1 = 1
      · rw [show grw c t (n + 1) = _ from if_pos q, q]
      · rw [show grw c t (n + 1) = _ from if_neg q, and1, if_neg q, Int32.zero_shiftLeft, Int32.or_zero]
    rw [nI_1, ← e5]
    rfl
  · refine Rch.i_ge rfl (fun _ => ?_) (fun z => absurd (lo_out (by decide)) z)
    refine Rch.go rfl ?_
    exact Rch.ri rfl rfl rfl (by decide) (by decide) ⟨rfl, rfl⟩
theorem t_X9_waterOf (c : FA) (K : FA × KS) (s : FA) (L : LS9) (e : AH) {g : Int32} {j : Nat} (hg : g = nI j) (hj : j < 5) (h1 : R1 c s) (h2 : R2 c s) : Ct m_X9_waterOf X0 [.ref 14, .int g] (HP K.1 K.2 s L e) (fun rv h => rv = some (.int (wti c (c (118 + j)))) ∧ h = HP K.1 K.2 s L e) := by
  subst hg
  refine ⟨ok_X9_waterOf, ?_⟩
  have e4 : s (38 + j) = c (118 + j) := by rw [h2 (38 + j) (by omega) (by omega), show 38 + j + 80 = 118 + j by omega]
  refine Rch.go rfl ?_
  refine Rch.for 8 (fun n => (7, [(0, .ref 14), (1, .int (nI j)), (2, .int (fs 0 (fun t => if bt (c (118 + j)) t then c t else 0) n)), (3, .int (nI n))], [.int 8, .int (nI n)], HP K.1 K.2 s L e, 0, 0)) (fun n hn => ?_) ?_ 0 (by omega)
  · refine Rch.i_ge rfl (fun z => absurd z (lo_in hn (by decide))) (fun _ => ?_)
    refine Rch.go rfl ?_
    refine Rch.ia rfl rfl rfl (nI_add 38 j) (by omega) (by decide) ?_
    rw [e4]
    refine Rch.go rfl ?_
    refine Rch.ia rfl rfl rfl (zadd n) (by omega) (by decide) ?_
    rw [h1 n (by omega)]
    refine Rch.go rfl (Rch.rf ?_)
    have e5 : (c (118 + j) >>> (nI n &&& 31) &&& 1) * c n = if bt (c (118 + j)) n then c n else 0 := by
      by_cases q : bt (c (118 + j)) n
      · rw [if_pos q, show (c (118 + j) >>> (nI n &&& 31)) &&& 1 = 1 from q, Int32.one_mul]
      · rw [if_neg q, and1, if_neg q, Int32.zero_mul]
    rw [nI_1, e5]
    rfl
  · refine Rch.i_ge rfl (fun _ => ?_) (fun z => absurd (lo_out (by decide)) z)
    refine Rch.go rfl ?_
    exact Rch.ri rfl rfl rfl (by decide) (by decide) ⟨rfl, rfl⟩
theorem told_eq {B : Nat} {c s : FA} (h5 : R5 c s) (h6 : R6 B c s) {t : Nat} (ht : t < 8) (hB : B < 2 ^ 30) (h2 : 1 < s (83 + 10 * t)) : s (83 + 10 * t + 3) = 0 ↔ c (88 + (t * 3 + 0)) = c (88 + (t * 3 + 1)) := by
  obtain ⟨k, p, p0, a1, a2, a3, a4, a5, a6, a7, a8⟩ := h6 t ht
  rw [(h5 t ht).1, a2] at h2
  exact a8 (by have := (nI_ltI (a := 1) (by decide) (by omega)).mp h2; omega)
theorem lt_12 {k : Nat} (hk : k ≤ 3) : (1 : Int32) < nI k ↔ 2 ≤ nI k := by
  match k, hk with
  | 0, _ => decide
  | 1, _ => decide
  | 2, _ => decide
  | 3, _ => decide
theorem t_X9_toldLoss (c : FA) (K : FA × KS) (s : FA) (L : LS9) (e : AH) {B : Nat} {i : Int32} {t : Nat} (hi : i = nI t) (ht : t < 8) (h5 : R5 c s) (h6 : R6 B c s) (hB : B < 2 ^ 30) : Ct m_X9_toldLoss X0 [.ref 14, .int i] (HP K.1 K.2 s L e) (fun rv h => rv = some (.int (if 2 ≤ c (32 + t) ∧ c (88 + (t * 3 + 0)) = c (88 + (t * 3 + 1)) then los c t else -1005)) ∧ h = HP K.1 K.2 s L e) := by
  subst hi
  refine ⟨ok_X9_toldLoss, ?_⟩
  obtain ⟨k, p, p0, a1, a2, -⟩ := h6 t ht
  have es : s (83 + 10 * t) = nI k := (h5 t ht).1.trans a2
  refine Rch.go rfl ?_
  refine Rch.ia rfl rfl rfl (i83 t) (by omega) (by decide) ?_
  refine Rch.go rfl ?_
  refine Rch.i_le rfl (fun z => ?_) (fun z => ?_)
  · have hn : ¬ (2 ≤ c (32 + t) ∧ c (88 + (t * 3 + 0)) = c (88 + (t * 3 + 1))) := fun q => Int32.not_lt.mpr z (by rw [es, lt_12 a1, ← a2]; exact q.1)
    rw [if_neg hn]
    refine Rch.go rfl ?_
    refine Rch.z_eq rfl (fun _ => ?_) (fun q => absurd rfl q)
    refine Rch.go rfl ?_
    exact Rch.ri rfl rfl rfl (by decide) (by decide) ⟨rfl, rfl⟩
  · have z2 := nle_lt z
    have hk2 := told_eq h5 h6 ht hB z2
    rw [es, lt_12 a1, ← a2] at z2
    refine Rch.go rfl ?_
    refine Rch.call 1 (t_X9_place t 0 2 rfl rfl rfl _) rfl rfl g_X9_110 om_X9_place rfl (fun _ _ _ q => q) rfl rfl rfl rfl ⟨rfl, rfl⟩ ⟨by decide, by decide⟩ (fun _ _ q => by obtain ⟨_, rfl⟩ := q; first | with_reducible rfl | (rw [HP_len, HP_len]; done) | rw [HP_len, HP_len, uO_len, uO_len]) (fun rv9 h9 q9 => ?_)
    obtain ⟨rfl, rfl⟩ := q9
    refine Rch.ia rfl rfl rfl ((show nI (83 + 10 * t + 1 + 3 * 0 + 2) = nI (83 + 10 * t + 3) by congr 1)) (by omega) (by decide) ?_
    refine Rch.z_ne rfl (fun w => ?_) (fun w => ?_)
    · rw [if_pos ⟨z2, hk2.mp w⟩]
      refine Rch.go rfl ?_
      refine Rch.z_eq rfl (fun q => absurd (show (1 : Int32) = 0 from q) (by decide)) (fun _ => ?_)
      refine Rch.go rfl ?_
      refine Rch.call 1 (t_X9_place t 1 1 rfl rfl rfl _) rfl rfl g_X9_110 om_X9_place rfl (fun _ _ _ q => q) rfl rfl rfl rfl ⟨rfl, rfl⟩ ⟨by decide, by decide⟩ (fun _ _ q => by obtain ⟨_, rfl⟩ := q; first | with_reducible rfl | (rw [HP_len, HP_len]; done) | rw [HP_len, HP_len, uO_len, uO_len]) (fun rv9 h9 q9 => ?_)
      obtain ⟨rfl, rfl⟩ := q9
      refine Rch.ia rfl rfl rfl ((show nI (83 + 10 * t + 1 + 3 * 1 + 1) = nI (83 + 10 * t + 1 + 3 * 1 + 1) from rfl)) (by omega) (by decide) ?_
      rw [((h5 t ht).2 1 (by decide)).2]
      refine Rch.go rfl ?_
      refine Rch.call 1 (t_X9_place t 0 1 rfl rfl rfl _) rfl rfl g_X9_110 om_X9_place rfl (fun _ _ _ q => q) rfl rfl rfl rfl ⟨rfl, rfl⟩ ⟨by decide, by decide⟩ (fun _ _ q => by obtain ⟨_, rfl⟩ := q; first | with_reducible rfl | (rw [HP_len, HP_len]; done) | rw [HP_len, HP_len, uO_len, uO_len]) (fun rv9 h9 q9 => ?_)
      obtain ⟨rfl, rfl⟩ := q9
      refine Rch.ia rfl rfl rfl ((show nI (83 + 10 * t + 1 + 3 * 0 + 1) = nI (83 + 10 * t + 1 + 3 * 0 + 1) from rfl)) (by omega) (by decide) ?_
      rw [((h5 t ht).2 0 (by decide)).2]
      refine Rch.go rfl ?_
      exact Rch.ri rfl rfl rfl (by decide) (by decide) ⟨rfl, rfl⟩
    · rw [if_neg (fun q => w (hk2.mpr q.2))]
      refine Rch.go rfl ?_
      refine Rch.z_eq rfl (fun _ => ?_) (fun q => absurd rfl q)
      refine Rch.go rfl ?_
      exact Rch.ri rfl rfl rfl (by decide) (by decide) ⟨rfl, rfl⟩
theorem t_X9_tank (c : FA) (K : FA × KS) (s : FA) (L : LS9) (e : AH) (t w : Int32) {B N : Nat} (h : RR 0 B N c s) (hB : B < 2 ^ 30) : Ct m_X9_tank X0 [.ref 14, .int t, .int w] (HP K.1 K.2 s L e) (fun rv h => rv = some (.int (tnk c t w)) ∧ h = HP K.1 K.2 s L e) := by
  refine ⟨ok_X9_tank, ?_⟩
  refine Rch.go rfl ?_
  refine Rch.call 1 (t_X9_isTank _ _) rfl rfl g_X9_82 om_X9_isTank rfl (fun _ _ _ q => q) rfl rfl rfl rfl ⟨rfl, rfl⟩ ⟨by decide, by decide⟩ (fun _ _ q => by obtain ⟨_, rfl⟩ := q; first | with_reducible rfl | (rw [HP_len, HP_len]; done) | rw [HP_len, HP_len, uO_len, uO_len]) (fun rv9 h9 q9 => ?_)
  obtain ⟨rfl, rfl⟩ := q9
  refine Rch.z_ne rfl (fun z => ?_) (fun z => ?_)
  · rw [show tnk c t w = _ from if_pos (i0 z)]
    refine Rch.go rfl ?_
    exact Rch.ri rfl rfl rfl (by decide) (by decide) ⟨rfl, rfl⟩
  have h1 := i1 z
  obtain ⟨j, hj, rfl⟩ := rng (n := 7) rfl (by decide) h1
  have ej : ix (nI j) = j := ix_nI (by omega)
  refine Rch.go rfl ?_
  by_cases hw : 0 ≤ w ∧ w ≤ 6
  rotate_left
  · rw [show tnk c (nI j) w = -1002 by unfold tnk; rw [if_neg (fun q => q h1), if_neg hw]]
    refine Rch.sw (t := 119) rfl (if_pos (outr hw)) ?_
    refine Rch.go rfl ?_
    exact Rch.ri rfl rfl rfl (by decide) (by decide) ⟨rfl, rfl⟩
  obtain ⟨i, hi, rfl⟩ := rng (n := 6) rfl (by decide) hw
  rw [show tnk c (nI j) (nI i) = tnJ c j i by unfold tnk; rw [if_neg (fun q => q h1), if_pos hw, ej, ix_nI (by omega)]]
  match i, hi with
  | 0, _ =>
    refine Rch.sw (t := 56) rfl rfl ?_
    refine Rch.go rfl ?_
    refine Rch.ia rfl rfl rfl (zadd j) (by omega) (by decide) ?_
    exact Rch.ri rfl rfl rfl (by decide) (by decide) ⟨by rw [h.1 j (by omega)]; rfl, rfl⟩
  | 1, _ =>
    refine Rch.sw (t := 65) rfl rfl ?_
    refine Rch.go rfl ?_
    refine Rch.ia rfl rfl rfl (nI_add 8 j) (by omega) (by decide) ?_
    exact Rch.ri rfl rfl rfl (by decide) (by decide) ⟨by rw [h.1 (8 + j) (by omega)]; rfl, rfl⟩
  | 2, _ =>
    refine Rch.sw (t := 75) rfl rfl ?_
    refine Rch.go rfl ?_
    refine Rch.call 0 (t_X9_openTanks c K s L e h.2.1) rfl rfl g_X9_44 om_X9_openTanks rfl (fun _ _ _ q => q) rfl rfl rfl rfl ⟨rfl, rfl⟩ ⟨by decide, by decide⟩ (fun _ _ q => by obtain ⟨_, rfl⟩ := q; first | with_reducible rfl | (rw [HP_len, HP_len]; done) | rw [HP_len, HP_len, uO_len, uO_len]) (fun rv9 h9 q9 => ?_)
    obtain ⟨rfl, rfl⟩ := q9
    refine Rch.go rfl ?_
    exact Rch.ri rfl rfl rfl (by decide) (by decide) ⟨by rw [and1]; rfl, rfl⟩
  | 3, _ =>
    refine Rch.sw (t := 84) rfl rfl ?_
    refine Rch.go rfl ?_
    refine Rch.call 0 (t_X9_groupsOf c K s L e h.2.1) rfl rfl g_X9_142 om_X9_groupsOf rfl (fun _ _ _ q => q) rfl rfl rfl rfl ⟨rfl, rfl⟩ ⟨by decide, by decide⟩ (fun _ _ q => by obtain ⟨_, rfl⟩ := q; first | with_reducible rfl | (rw [HP_len, HP_len]; done) | rw [HP_len, HP_len, uO_len, uO_len]) (fun rv9 h9 q9 => ?_)
    obtain ⟨rfl, rfl⟩ := q9
    exact Rch.ri rfl rfl rfl (by decide) (by decide) ⟨rfl, rfl⟩
  | 4, _ =>
    refine Rch.sw (t := 90) rfl rfl ?_
    refine Rch.go rfl ?_
    refine Rch.ia rfl rfl rfl (i83 j) (by omega) (by decide) ?_
    exact Rch.ri rfl rfl rfl (by decide) (by decide) ⟨by rw [(h.2.2.2.2.1 j (by omega)).1]; rfl, rfl⟩
  | 5, _ =>
    refine Rch.sw (t := 103) rfl rfl ?_
    refine Rch.go rfl ?_
    refine Rch.call 0 (t_X9_toldLoss c K s L e rfl (by omega) h.2.2.2.2.1 h.2.2.2.2.2.1 hB) rfl rfl g_X9_145 om_X9_toldLoss rfl (fun _ _ _ q => q) rfl rfl rfl rfl ⟨rfl, rfl⟩ ⟨by decide, by decide⟩ (fun _ _ q => by obtain ⟨_, rfl⟩ := q; first | with_reducible rfl | (rw [HP_len, HP_len]; done) | rw [HP_len, HP_len, uO_len, uO_len]) (fun rv9 h9 q9 => ?_)
    obtain ⟨rfl, rfl⟩ := q9
    exact Rch.ri rfl rfl rfl (by decide) (by decide) ⟨rfl, rfl⟩
  | 6, _ =>
    refine Rch.sw (t := 109) rfl rfl ?_
    refine Rch.go rfl ?_
    refine Rch.ia rfl rfl rfl (nI_add 16 j) (by omega) (by decide) ?_
    exact Rch.ri rfl rfl rfl (by decide) (by decide) ⟨by rw [h.1 (16 + j) (by omega)]; rfl, rfl⟩
theorem t_X9_sounding (c : FA) (K : FA × KS) (s : FA) (L : LS9) (e : AH) (t b z : Int32) {B N : Nat} (h : RR 0 B N c s) : Ct m_X9_sounding X0 [.ref 14, .int t, .int b, .int z] (HP K.1 K.2 s L e) (fun rv h => rv = some (.int (sng c t b z)) ∧ h = HP K.1 K.2 s L e) := by
  refine ⟨ok_X9_sounding, ?_⟩
  refine Rch.go rfl ?_
  refine Rch.call 1 (t_X9_isTank _ _) rfl rfl g_X9_82 om_X9_isTank rfl (fun _ _ _ q => q) rfl rfl rfl rfl ⟨rfl, rfl⟩ ⟨by decide, by decide⟩ (fun _ _ q => by obtain ⟨_, rfl⟩ := q; first | with_reducible rfl | (rw [HP_len, HP_len]; done) | rw [HP_len, HP_len, uO_len, uO_len]) (fun rv9 h9 q9 => ?_)
  obtain ⟨rfl, rfl⟩ := q9
  refine Rch.z_ne rfl (fun z1 => ?_) (fun z1 => ?_)
  · rw [show sng c t b z = _ from if_pos (i0 z1)]
    refine Rch.go rfl ?_
    exact Rch.ri rfl rfl rfl (by decide) (by decide) ⟨rfl, rfl⟩
  have h1 := i1 z1
  obtain ⟨j, hj, rfl⟩ := rng (n := 7) rfl (by decide) h1
  have ej : ix (nI j) = j := ix_nI (by omega)
  refine Rch.go rfl ?_
  refine Rch.z_ge rfl (fun z2 => ?_) (fun z2 => ?_)
  rotate_left
  · rw [show sng c (nI j) b z = -1002 by unfold sng; rw [if_neg (fun q => q h1), if_pos (nle_lt z2)]]
    refine Rch.go rfl ?_
    exact Rch.ri rfl rfl rfl (by decide) (by decide) ⟨rfl, rfl⟩
  have h2 := Int32.not_lt.mpr z2
  have h5 := h.2.2.2.2.1 j (by omega)
  refine Rch.go rfl ?_
  refine Rch.ia rfl rfl rfl (i83 j) (by omega) (by decide) ?_
  rw [h5.1]
  refine Rch.i_ge rfl (fun z3 => ?_) (fun z3 => ?_)
  · rw [show sng c (nI j) b z = -1005 by unfold sng; rw [if_neg (fun q => q h1), if_neg h2, ej, if_pos z3]]
    refine Rch.go rfl ?_
    exact Rch.ri rfl rfl rfl (by decide) (by decide) ⟨rfl, rfl⟩
  obtain ⟨k, p, p0, hk, ek, -⟩ := h.2.2.2.2.2.1 j (by omega)
  have z4 := nle_lt z3
  obtain ⟨b', hb', rfl⟩ : ∃ b', b' < 3 ∧ b = nI b' := by
    rw [ek] at z4
    obtain ⟨b', hb, rfl⟩ := nI_of h2
    exact ⟨b', by have := (nI_ltI hb (by omega)).mp z4; omega, rfl⟩
  have eb : ix (nI b') = b' := ix_nI (by omega)
  rw [show sng c (nI j) (nI b') z = if z = 0 then c (64 + (j * 3 + b')) else c (40 + (j * 3 + b')) by unfold sng; rw [if_neg (fun q => q h1), if_neg h2, ej, eb, if_neg z3]]
  refine Rch.go rfl ?_
  refine Rch.z_eq rfl (fun z5 => ?_) (fun z5 => ?_)
  · rw [if_pos z5]
    refine Rch.go rfl ?_
    refine Rch.call 1 (t_X9_place j b' 1 rfl rfl rfl _) rfl rfl g_X9_110 om_X9_place rfl (fun _ _ _ q => q) rfl rfl rfl rfl ⟨rfl, rfl⟩ ⟨by decide, by decide⟩ (fun _ _ q => by obtain ⟨_, rfl⟩ := q; first | with_reducible rfl | (rw [HP_len, HP_len]; done) | rw [HP_len, HP_len, uO_len, uO_len]) (fun rv9 h9 q9 => ?_)
    obtain ⟨rfl, rfl⟩ := q9
    refine Rch.ia rfl rfl rfl (rfl) (by omega) (by decide) ?_
    rw [(h5.2 b' hb').2]
    refine Rch.go rfl ?_
    exact Rch.ri rfl rfl rfl (by decide) (by decide) ⟨rfl, rfl⟩
  · rw [if_neg z5]
    refine Rch.go rfl ?_
    refine Rch.call 1 (t_X9_place j b' 0 rfl rfl rfl _) rfl rfl g_X9_110 om_X9_place rfl (fun _ _ _ q => q) rfl rfl rfl rfl ⟨rfl, rfl⟩ ⟨by decide, by decide⟩ (fun _ _ q => by obtain ⟨_, rfl⟩ := q; first | with_reducible rfl | (rw [HP_len, HP_len]; done) | rw [HP_len, HP_len, uO_len, uO_len]) (fun rv9 h9 q9 => ?_)
    obtain ⟨rfl, rfl⟩ := q9
    refine Rch.ia rfl rfl rfl (rfl) (by omega) (by decide) ?_
    rw [show 83 + 10 * j + 1 + 3 * b' + 0 = 83 + 10 * j + 1 + 3 * b' from rfl, (h5.2 b' hb').1]
    refine Rch.go rfl ?_
    exact Rch.ri rfl rfl rfl (by decide) (by decide) ⟨rfl, rfl⟩
theorem t_X9_hold (c : FA) (K : FA × KS) (s : FA) (L : LS9) (e : AH) (t w : Int32) (h2 : R2 c s) : Ct m_X9_hold X0 [.ref 14, .int t, .int w] (HP K.1 K.2 s L e) (fun rv h => rv = some (.int (hld c t w)) ∧ h = HP K.1 K.2 s L e) := by
  refine ⟨ok_X9_hold, ?_⟩
  refine Rch.go rfl ?_
  refine Rch.call 1 (t_X9_isHold _ _) rfl rfl g_X9_75 om_X9_isHold rfl (fun _ _ _ q => q) rfl rfl rfl rfl ⟨rfl, rfl⟩ ⟨by decide, by decide⟩ (fun _ _ q => by obtain ⟨_, rfl⟩ := q; first | with_reducible rfl | (rw [HP_len, HP_len]; done) | rw [HP_len, HP_len, uO_len, uO_len]) (fun rv9 h9 q9 => ?_)
  obtain ⟨rfl, rfl⟩ := q9
  refine Rch.z_ne rfl (fun z => ?_) (fun z => ?_)
  · rw [show hld c t w = _ from if_pos (i0 z)]
    refine Rch.go rfl ?_
    exact Rch.ri rfl rfl rfl (by decide) (by decide) ⟨rfl, rfl⟩
  have h1 := i1 z
  obtain ⟨j, hj, rfl⟩ := rng (n := 2) rfl (by decide) h1
  have ej : ix (nI j) = j := ix_nI (by omega)
  rw [show hld c (nI j) w = if w = 0 then c (112 + j) else if w = 1 then c (115 + j) else -1002 by unfold hld; rw [if_neg (fun q => q h1), ej]]
  refine Rch.go rfl ?_
  refine Rch.z_ne rfl (fun w0 => ?_) (fun w0 => ?_)
  · rw [if_pos w0]
    refine Rch.go rfl ?_
    refine Rch.ia rfl rfl rfl (nI_add 32 j) (by omega) (by decide) ?_
    refine Rch.go rfl ?_
    exact Rch.ri rfl rfl rfl (by decide) (by decide) ⟨by rw [h2 (32 + j) (by omega) (by omega), show 32 + j + 80 = 112 + j by omega], rfl⟩
  rw [if_neg w0]
  refine Rch.go rfl ?_
  refine Rch.i_ne rfl (fun w1 => ?_) (fun w1 => ?_)
  · rw [if_pos w1]
    refine Rch.go rfl ?_
    refine Rch.ia rfl rfl rfl (nI_add 35 j) (by omega) (by decide) ?_
    refine Rch.go rfl ?_
    exact Rch.ri rfl rfl rfl (by decide) (by decide) ⟨by rw [h2 (35 + j) (by omega) (by omega), show 35 + j + 80 = 115 + j by omega], rfl⟩
  rw [if_neg w1]
  refine Rch.go rfl ?_
  exact Rch.ri rfl rfl rfl (by decide) (by decide) ⟨rfl, rfl⟩
theorem t_X9_group (c : FA) (K : FA × KS) (s : FA) (L : LS9) (e : AH) (t w : Int32) (hh1 : R1 c s) (h2 : R2 c s) : Ct m_X9_group X0 [.ref 14, .int t, .int w] (HP K.1 K.2 s L e) (fun rv h => rv = some (.int (grp c t w)) ∧ h = HP K.1 K.2 s L e) := by
  refine ⟨ok_X9_group, ?_⟩
  refine Rch.go rfl ?_
  refine Rch.call 1 (t_X9_isGroup _ _) rfl rfl g_X9_89 om_X9_isGroup rfl (fun _ _ _ q => q) rfl rfl rfl rfl ⟨rfl, rfl⟩ ⟨by decide, by decide⟩ (fun _ _ q => by obtain ⟨_, rfl⟩ := q; first | with_reducible rfl | (rw [HP_len, HP_len]; done) | rw [HP_len, HP_len, uO_len, uO_len]) (fun rv9 h9 q9 => ?_)
  obtain ⟨rfl, rfl⟩ := q9
  refine Rch.z_ne rfl (fun z => ?_) (fun z => ?_)
  · rw [show grp c t w = _ from if_pos (i0 z)]
    refine Rch.go rfl ?_
    exact Rch.ri rfl rfl rfl (by decide) (by decide) ⟨rfl, rfl⟩
  have h1 := i1 z
  obtain ⟨j, hj, rfl⟩ := rng (n := 4) rfl (by decide) h1
  have ej : ix (nI j) = j := ix_nI (by omega)
  refine Rch.go rfl ?_
  refine Rch.z_ne rfl (fun w0 => ?_) (fun w0 => ?_)
  · subst w0
    rw [show grp c (nI j) 0 = c (118 + j) by unfold grp; rw [if_neg (fun q => q h1), if_pos (by decide), ej]; rfl]
    refine Rch.go rfl ?_
    refine Rch.ia rfl rfl rfl (nI_add 38 j) (by omega) (by decide) ?_
    refine Rch.go rfl ?_
    exact Rch.ri rfl rfl rfl (by decide) (by decide) ⟨by rw [h2 (38 + j) (by omega) (by omega), show 38 + j + 80 = 118 + j by omega], rfl⟩
  refine Rch.go rfl ?_
  refine Rch.i_ne rfl (fun w1 => ?_) (fun w1 => ?_)
  · subst w1
    rw [show grp c (nI j) 1 = c (123 + j) by unfold grp; rw [if_neg (fun q => q h1), if_pos (by decide), ej]; rfl]
    refine Rch.go rfl ?_
    refine Rch.ia rfl rfl rfl (nI_add 43 j) (by omega) (by decide) ?_
    refine Rch.go rfl ?_
    exact Rch.ri rfl rfl rfl (by decide) (by decide) ⟨by rw [h2 (43 + j) (by omega) (by omega), show 43 + j + 80 = 123 + j by omega], rfl⟩
  refine Rch.go rfl ?_
  refine Rch.i_ne rfl (fun w2 => ?_) (fun w2 => ?_)
  · subst w2
    rw [show grp c (nI j) 2 = wti c (c (118 + j)) by unfold grp; rw [if_neg (fun q => q h1), if_pos (by decide), ej]; rfl]
    refine Rch.go rfl ?_
    refine Rch.call 0 (t_X9_waterOf c K s L e rfl (by omega) hh1 h2) rfl rfl g_X9_148 om_X9_waterOf rfl (fun _ _ _ q => q) rfl rfl rfl rfl ⟨rfl, rfl⟩ ⟨by decide, by decide⟩ (fun _ _ q => by obtain ⟨_, rfl⟩ := q; first | with_reducible rfl | (rw [HP_len, HP_len]; done) | rw [HP_len, HP_len, uO_len, uO_len]) (fun rv9 h9 q9 => ?_)
    obtain ⟨rfl, rfl⟩ := q9
    refine Rch.go rfl ?_
    exact Rch.ri rfl rfl rfl (by decide) (by decide) ⟨rfl, rfl⟩
  have hw : ¬ (0 ≤ w ∧ w ≤ 2) := by
    intro q
    obtain ⟨i, hi, rfl⟩ := rng (n := 2) rfl (by decide) q
    match i, hi with
    | 0, _ => exact w0 rfl
    | 1, _ => exact w1 rfl
    | 2, _ => exact w2 rfl
  rw [show grp c (nI j) w = -1002 by unfold grp; rw [if_neg (fun q => q h1), if_neg hw]]
  refine Rch.go rfl ?_
  exact Rch.ri rfl rfl rfl (by decide) (by decide) ⟨rfl, rfl⟩
theorem t_X9_waiting (c : FA) (K : FA × KS) (s : FA) (L : LS9) (e : AH) (p w : Int32) {B N : Nat} (h : RR 0 B N c s) : Ct m_X9_waiting X0 [.ref 14, .int p, .int w] (HP K.1 K.2 s L e) (fun rv h => rv = some (.int (wai c p w)) ∧ h = HP K.1 K.2 s L e) := by
  have h4 := h.2.2.2.1
  have hN := h4.1.2.1
  refine ⟨ok_X9_waiting, ?_⟩
  refine Rch.go rfl ?_
  refine Rch.z_lt rfl (fun z => ?_) (fun z => ?_)
  · rw [show wai c p w = _ from if_pos (Or.inl z)]
    refine Rch.go rfl ?_
    exact Rch.ri rfl rfl rfl (by decide) (by decide) ⟨rfl, rfl⟩
  refine Rch.go rfl ?_
  refine Rch.call 1 (t_X9_in _ _ _ _) rfl rfl g_X9_22 om_X9_in rfl (fun _ _ _ q => q) rfl rfl rfl rfl ⟨rfl, rfl⟩ ⟨by decide, by decide⟩ (fun _ _ q => by obtain ⟨_, rfl⟩ := q; first | with_reducible rfl | (rw [HP_len, HP_len]; done) | rw [HP_len, HP_len, uO_len, uO_len]) (fun rv9 h9 q9 => ?_)
  obtain ⟨rfl, rfl⟩ := q9
  refine Rch.z_ne rfl (fun z1 => ?_) (fun z1 => ?_)
  · rw [show wai c p w = _ from if_pos (Or.inr (i0 z1))]
    refine Rch.go rfl ?_
    exact Rch.ri rfl rfl rfl (by decide) (by decide) ⟨rfl, rfl⟩
  have h1 := i1 z1
  have h0 : ¬ (p < 0 ∨ ¬ (0 ≤ w ∧ w ≤ 2)) := fun q => q.elim z (fun q => q h1)
  refine Rch.go rfl ?_
  refine Rch.ia (j := 58) rfl rfl rfl rfl (by decide) (by decide) ?_
  rw [h4.2.1, ← h4.1.1]
  refine Rch.i_lt rfl (fun z3 => ?_) (fun z3 => ?_)
  rotate_left
  · rw [show wai c p w = -1005 by unfold wai; rw [if_neg h0, if_pos (nlt_le z3)]]
    refine Rch.go rfl ?_
    exact Rch.ri rfl rfl rfl (by decide) (by decide) ⟨rfl, rfl⟩
  obtain ⟨j, hj, rfl⟩ : ∃ b', b' < N ∧ p = nI b' := by
    rw [h4.1.1] at z3
    obtain ⟨b', hb, rfl⟩ := nI_of z
    exact ⟨b', (nI_ltI hb (by omega)).mp z3, rfl⟩
  have ej : ix (nI j) = j := ix_nI (by omega)
  obtain ⟨k, b, e1, e2, e3, e4, e5, e6⟩ := h4.1.2.2 j hj
  obtain ⟨f1, f2⟩ := h4.2.2 j hj
  rw [show wai c (nI j) w = if w = 0 then c (131 + j) else if w = 1 then c (143 + j) else rsn c k b by unfold wai; rw [if_neg h0, if_neg (Int32.not_le.mpr z3), ej, e1, e2, ix_nI (by omega), ix_nI (by omega)]]
  obtain ⟨i, hi, rfl⟩ := rng (n := 2) rfl (by decide) h1
  refine Rch.go rfl ?_
  match i, hi with
  | 0, _ =>
    rw [if_pos (show nI 0 = 0 from rfl)]
    refine Rch.i_ge rfl (fun q => absurd (show (2 : Int32) ≤ nI 0 from q) (by decide)) (fun _ => ?_)
    refine Rch.go rfl ?_
    refine Rch.ia rfl rfl rfl ((show 59 + 2 * nI j + nI 0 = nI (59 + 2 * j) by rw [i59, nI_add]; rfl)) (by omega) (by decide) ?_
    refine Rch.go rfl ?_
    exact Rch.ri rfl rfl rfl (by decide) (by decide) ⟨by rw [f1], rfl⟩
  | 1, _ =>
    rw [if_neg (show ¬ nI 1 = 0 by decide), if_pos (show nI 1 = 1 from rfl)]
    refine Rch.i_ge rfl (fun q => absurd (show (2 : Int32) ≤ nI 1 from q) (by decide)) (fun _ => ?_)
    refine Rch.go rfl ?_
    refine Rch.ia rfl rfl rfl ((show 59 + 2 * nI j + nI 1 = nI (59 + 2 * j + 1) by rw [i59, nI_add])) (by omega) (by decide) ?_
    refine Rch.go rfl ?_
    exact Rch.ri rfl rfl rfl (by decide) (by decide) ⟨by rw [f2], rfl⟩
  | 2, _ =>
    rw [if_neg (show ¬ nI 2 = 0 by decide), if_neg (show ¬ nI 2 = 1 by decide)]
    refine Rch.i_ge rfl (fun _ => ?_) (fun q => absurd (show (2 : Int32) ≤ nI 2 by decide) q)
    refine Rch.go rfl ?_
    refine Rch.ia rfl rfl rfl (i59 j) (by omega) (by decide) ?_
    refine Rch.go rfl ?_
    refine Rch.ia rfl rfl rfl (i60 j) (by omega) (by decide) ?_
    rw [f1, f2, e1, e2]
    refine Rch.call 0 (t_X9_reason c K s L e h.1 h.2.1 e3 e4) rfl rfl g_X9_101 om_X9_reason rfl (fun _ _ _ q => q) rfl rfl rfl rfl ⟨rfl, rfl⟩ ⟨by decide, by decide⟩ (fun _ _ q => by obtain ⟨_, rfl⟩ := q; first | with_reducible rfl | (rw [HP_len, HP_len]; done) | rw [HP_len, HP_len, uO_len, uO_len]) (fun rv9 h9 q9 => ?_)
    obtain ⟨rfl, rfl⟩ := q9
    exact Rch.ri rfl rfl rfl (by decide) (by decide) ⟨rfl, rfl⟩
theorem t_X9_trimMoment (c : FA) (K : FA × KS) (s : FA) (L : LS9) (e : AH) (p : Int32) (h1 : R1 c s) (h2 : R2 c s) : Ct m_X9_trimMoment X0 [.ref 14, .int p] (HP K.1 K.2 s L e) (fun rv h => rv = some (.int (tri c p)) ∧ h = HP K.1 K.2 s L e) := by
  refine ⟨ok_X9_trimMoment, ?_⟩
  refine Rch.go rfl ?_
  refine Rch.call 1 (t_X9_in _ _ _ _) rfl rfl g_X9_22 om_X9_in rfl (fun _ _ _ q => q) rfl rfl rfl rfl ⟨rfl, rfl⟩ ⟨by decide, by decide⟩ (fun _ _ q => by obtain ⟨_, rfl⟩ := q; first | with_reducible rfl | (rw [HP_len, HP_len]; done) | rw [HP_len, HP_len, uO_len, uO_len]) (fun rv9 h9 q9 => ?_)
  obtain ⟨rfl, rfl⟩ := q9
  refine Rch.z_eq rfl (fun z => ?_) (fun z => ?_)
  · rw [show tri c p = _ from if_pos (i0 z)]
    refine Rch.go rfl ?_
    exact Rch.ri rfl rfl rfl (by decide) (by decide) ⟨rfl, rfl⟩
  have h3 := i1 z
  rw [show tri c p = _ from if_neg (fun q => q h3)]
  refine Rch.go rfl ?_
  refine Rch.call 0 (t_X9_trimAbout c K s L e _ h1 h2) rfl rfl g_X9_151 om_X9_trimAbout rfl (fun _ _ _ q => q) rfl rfl rfl rfl ⟨rfl, rfl⟩ ⟨by decide, by decide⟩ (fun _ _ q => by obtain ⟨_, rfl⟩ := q; first | with_reducible rfl | (rw [HP_len, HP_len]; done) | rw [HP_len, HP_len, uO_len, uO_len]) (fun rv9 h9 q9 => ?_)
  obtain ⟨rfl, rfl⟩ := q9
  refine Rch.go rfl ?_
  exact Rch.ri rfl rfl rfl (by decide) (by decide) ⟨rfl, rfl⟩
theorem t_X9_count (c : FA) (K : FA × KS) (s : FA) (L : LS9) (e : AH) (w : Int32) {B N : Nat} (h : RR 0 B N c s) : Ct m_X9_count X0 [.ref 14, .int w] (HP K.1 K.2 s L e) (fun rv h => rv = some (.int (cou c L.2.1 L.2.2.2.2.2.1 w)) ∧ h = HP K.1 K.2 s L e) := by
  refine ⟨ok_X9_count, ?_⟩
  obtain ⟨h1, h2, ⟨g1, g2, g3, g4, g5, g6, g7⟩, h4, h5, h6, h7⟩ := h
  rw [Int32.add_zero] at g1
  refine Rch.go rfl ?_
  by_cases hw : 0 ≤ w ∧ w ≤ 20
  rotate_left
  · rw [show cou c L.2.1 L.2.2.2.2.2.1 w = -1002 from if_neg hw]
    refine Rch.sw (t := 208) rfl (if_pos (outr hw)) ?_
    refine Rch.go rfl ?_
    exact Rch.ri rfl rfl rfl (by decide) (by decide) ⟨rfl, rfl⟩
  obtain ⟨i, hi, rfl⟩ := rng (n := 20) rfl (by decide) hw
  rw [show cou c L.2.1 L.2.2.2.2.2.1 (nI i) = coJ c L.2.1 L.2.2.2.2.2.1 i by unfold cou; rw [if_pos hw, ix_nI (by omega)]]
  match i, hi with
  | 0, _ =>
    refine Rch.sw (t := 100) rfl rfl ?_
    refine Rch.go rfl ?_
    refine Rch.call 0 (t_X9_weight c K s L e h1 h2) rfl rfl g_X9_34 om_X9_weight rfl (fun _ _ _ q => q) rfl rfl rfl rfl ⟨rfl, rfl⟩ ⟨by decide, by decide⟩ (fun _ _ q => by obtain ⟨_, rfl⟩ := q; first | with_reducible rfl | (rw [HP_len, HP_len]; done) | rw [HP_len, HP_len, uO_len, uO_len]) (fun rv9 h9 q9 => ?_)
    obtain ⟨rfl, rfl⟩ := q9
    exact Rch.ri rfl rfl rfl (by decide) (by decide) ⟨rfl, rfl⟩
  | 1, _ =>
    refine Rch.sw (t := 105) rfl rfl ?_
    refine Rch.go rfl ?_
    refine Rch.call 0 (t_X9_trimAbout c K s L e _ h1 h2) rfl rfl g_X9_151 om_X9_trimAbout rfl (fun _ _ _ q => q) rfl rfl rfl rfl ⟨rfl, rfl⟩ ⟨by decide, by decide⟩ (fun _ _ q => by obtain ⟨_, rfl⟩ := q; first | with_reducible rfl | (rw [HP_len, HP_len]; done) | rw [HP_len, HP_len, uO_len, uO_len]) (fun rv9 h9 q9 => ?_)
    obtain ⟨rfl, rfl⟩ := q9
    refine Rch.go rfl ?_
    refine Rch.div rfl (by decide) ?_
    exact Rch.ri rfl rfl rfl (by decide) (by decide) ⟨rfl, rfl⟩
  | 2, _ =>
    refine Rch.sw (t := 114) rfl rfl ?_
    refine Rch.go rfl ?_
    refine Rch.call 0 (t_X9_list c K s L e h1 h2 h7) rfl rfl g_X9_69 om_X9_list rfl (fun _ _ _ q => q) rfl rfl rfl rfl ⟨rfl, rfl⟩ ⟨by decide, by decide⟩ (fun _ _ q => by obtain ⟨_, rfl⟩ := q; first | with_reducible rfl | (rw [HP_len, HP_len]; done) | rw [HP_len, HP_len, uO_len, uO_len]) (fun rv9 h9 q9 => ?_)
    obtain ⟨rfl, rfl⟩ := q9
    exact Rch.ri rfl rfl rfl (by decide) (by decide) ⟨rfl, rfl⟩
  | 3, _ =>
    refine Rch.sw (t := 119) rfl rfl ?_
    refine Rch.go rfl ?_
    refine Rch.call 0 (t_X9_weight c K s L e h1 h2) rfl rfl g_X9_34 om_X9_weight rfl (fun _ _ _ q => q) rfl rfl rfl rfl ⟨rfl, rfl⟩ ⟨by decide, by decide⟩ (fun _ _ q => by obtain ⟨_, rfl⟩ := q; first | with_reducible rfl | (rw [HP_len, HP_len]; done) | rw [HP_len, HP_len, uO_len, uO_len]) (fun rv9 h9 q9 => ?_)
    obtain ⟨rfl, rfl⟩ := q9
    refine Rch.go rfl ?_
    refine Rch.div rfl (by decide) ?_
    exact Rch.ri rfl rfl rfl (by decide) (by decide) ⟨rfl, rfl⟩
  | 4, _ =>
    refine Rch.sw (t := 127) rfl rfl ?_
    refine Rch.go rfl ?_
    refine Rch.call 0 (t_X9_trimAbout c K s L e _ h1 h2) rfl rfl g_X9_151 om_X9_trimAbout rfl (fun _ _ _ q => q) rfl rfl rfl rfl ⟨rfl, rfl⟩ ⟨by decide, by decide⟩ (fun _ _ q => by obtain ⟨_, rfl⟩ := q; first | with_reducible rfl | (rw [HP_len, HP_len]; done) | rw [HP_len, HP_len, uO_len, uO_len]) (fun rv9 h9 q9 => ?_)
    obtain ⟨rfl, rfl⟩ := q9
    exact Rch.ri rfl rfl rfl (by decide) (by decide) ⟨rfl, rfl⟩
  | 5, _ =>
    refine Rch.sw (t := 133) rfl rfl ?_
    refine Rch.go rfl ?_
    refine Rch.call 0 (t_X9_listMoment c K s L e h1 h2) rfl rfl g_X9_41 om_X9_listMoment rfl (fun _ _ _ q => q) rfl rfl rfl rfl ⟨rfl, rfl⟩ ⟨by decide, by decide⟩ (fun _ _ q => by obtain ⟨_, rfl⟩ := q; first | with_reducible rfl | (rw [HP_len, HP_len]; done) | rw [HP_len, HP_len, uO_len, uO_len]) (fun rv9 h9 q9 => ?_)
    obtain ⟨rfl, rfl⟩ := q9
    exact Rch.ri rfl rfl rfl (by decide) (by decide) ⟨rfl, rfl⟩
  | 6, _ =>
    refine Rch.sw (t := 138) rfl rfl ?_
    refine Rch.go rfl ?_
    refine Rch.call 0 (t_X9_allWater c K s L e) rfl rfl g_X9_30 om_X9_allWater rfl (fun _ _ _ q => q) rfl rfl rfl rfl ⟨rfl, rfl⟩ ⟨by decide, by decide⟩ (fun _ _ q => by obtain ⟨_, rfl⟩ := q; first | with_reducible rfl | (rw [HP_len, HP_len]; done) | rw [HP_len, HP_len, uO_len, uO_len]) (fun rv9 h9 q9 => ?_)
    obtain ⟨rfl, rfl⟩ := q9
    have e6 : fs 0 s 8 = wti c 255 := by
      refine fs_congr (fun t ht => ?_)
      have hb : bt 255 t := by
        match t, ht with
        | 0, _ => decide
        | 1, _ => decide
        | 2, _ => decide
        | 3, _ => decide
        | 4, _ => decide
        | 5, _ => decide
        | 6, _ => decide
        | 7, _ => decide
      rw [if_pos hb]
      exact h1 t (by omega)
    exact Rch.ri rfl rfl rfl (by decide) (by decide) ⟨by rw [e6]; rfl, rfl⟩
  | 7, _ =>
    refine Rch.sw (t := 143) rfl rfl ?_
    refine Rch.go rfl ?_
    refine Rch.ia (j := 51) rfl rfl rfl (show (51 : Int32) + nI 7 - 7 = nI 51 by decide) (by decide) (by decide) ?_
    exact Rch.ri rfl rfl rfl (by decide) (by decide) ⟨by rw [g1]; rfl, rfl⟩
  | 8, _ =>
    refine Rch.sw (t := 143) rfl rfl ?_
    refine Rch.go rfl ?_
    refine Rch.ia (j := 52) rfl rfl rfl (show (51 : Int32) + nI 8 - 7 = nI 52 by decide) (by decide) (by decide) ?_
    exact Rch.ri rfl rfl rfl (by decide) (by decide) ⟨by rw [g2]; rfl, rfl⟩
  | 9, _ =>
    refine Rch.sw (t := 143) rfl rfl ?_
    refine Rch.go rfl ?_
    refine Rch.ia (j := 53) rfl rfl rfl (show (51 : Int32) + nI 9 - 7 = nI 53 by decide) (by decide) (by decide) ?_
    exact Rch.ri rfl rfl rfl (by decide) (by decide) ⟨by rw [g3]; rfl, rfl⟩
  | 10, _ =>
    refine Rch.sw (t := 143) rfl rfl ?_
    refine Rch.go rfl ?_
    refine Rch.ia (j := 54) rfl rfl rfl (show (51 : Int32) + nI 10 - 7 = nI 54 by decide) (by decide) (by decide) ?_
    exact Rch.ri rfl rfl rfl (by decide) (by decide) ⟨by rw [g4]; rfl, rfl⟩
  | 11, _ =>
    refine Rch.sw (t := 143) rfl rfl ?_
    refine Rch.go rfl ?_
    refine Rch.ia (j := 55) rfl rfl rfl (show (51 : Int32) + nI 11 - 7 = nI 55 by decide) (by decide) (by decide) ?_
    exact Rch.ri rfl rfl rfl (by decide) (by decide) ⟨by rw [g5]; rfl, rfl⟩
  | 12, _ =>
    refine Rch.sw (t := 156) rfl rfl ?_
    refine Rch.go rfl ?_
    refine Rch.ia (j := 58) rfl rfl rfl rfl (by decide) (by decide) ?_
    exact Rch.ri rfl rfl rfl (by decide) (by decide) ⟨by rw [h4.2.1, ← h4.1.1]; rfl, rfl⟩
  | 13, _ =>
    refine Rch.sw (t := 164) rfl rfl ?_
    refine Rch.go rfl ?_
    refine Rch.ia (j := 56) rfl rfl rfl rfl (by decide) (by decide) ?_
    exact Rch.ri rfl rfl rfl (by decide) (by decide) ⟨by rw [g6]; rfl, rfl⟩
  | 14, _ =>
    refine Rch.sw (t := 172) rfl rfl ?_
    refine Rch.go rfl ?_
    refine Rch.call 0 (t_X9_openTanks c K s L e h2) rfl rfl g_X9_44 om_X9_openTanks rfl (fun _ _ _ q => q) rfl rfl rfl rfl ⟨rfl, rfl⟩ ⟨by decide, by decide⟩ (fun _ _ q => by obtain ⟨_, rfl⟩ := q; first | with_reducible rfl | (rw [HP_len, HP_len]; done) | rw [HP_len, HP_len, uO_len, uO_len]) (fun rv9 h9 q9 => ?_)
    obtain ⟨rfl, rfl⟩ := q9
    exact Rch.ri rfl rfl rfl (by decide) (by decide) ⟨rfl, rfl⟩
  | 15, _ =>
    refine Rch.sw (t := 177) rfl rfl ?_
    refine Rch.go rfl ?_
    refine Rch.ia (j := 57) rfl rfl rfl rfl (by decide) (by decide) ?_
    exact Rch.ri rfl rfl rfl (by decide) (by decide) ⟨by rw [g7]; rfl, rfl⟩
  | 16, _ =>
    refine Rch.sw (t := 185) rfl rfl ?_
    refine Rch.go rfl ?_
    refine Rch.ia (j := 48) rfl rfl rfl (show (48 : Int32) + nI 16 - 16 = nI 48 by decide) (by decide) (by decide) ?_
    exact Rch.ri rfl rfl rfl (by decide) (by decide) ⟨by rw [h2 48 (by decide) (by decide)]; rfl, rfl⟩
  | 17, _ =>
    refine Rch.sw (t := 185) rfl rfl ?_
    refine Rch.go rfl ?_
    refine Rch.ia (j := 49) rfl rfl rfl (show (48 : Int32) + nI 17 - 16 = nI 49 by decide) (by decide) (by decide) ?_
    exact Rch.ri rfl rfl rfl (by decide) (by decide) ⟨by rw [h2 49 (by decide) (by decide)]; rfl, rfl⟩
  | 18, _ =>
    refine Rch.sw (t := 185) rfl rfl ?_
    refine Rch.go rfl ?_
    refine Rch.ia (j := 50) rfl rfl rfl (show (48 : Int32) + nI 18 - 16 = nI 50 by decide) (by decide) (by decide) ?_
    exact Rch.ri rfl rfl rfl (by decide) (by decide) ⟨by rw [h2 50 (by decide) (by decide)]; rfl, rfl⟩
  | 19, _ =>
    refine Rch.sw (t := 198) rfl rfl ?_
    refine Rch.go rfl ?_
    exact Rch.ri rfl rfl rfl (by decide) (by decide) ⟨rfl, rfl⟩
  | 20, _ =>
    refine Rch.sw (t := 203) rfl rfl ?_
    refine Rch.go rfl ?_
    exact Rch.ri rfl rfl rfl (by decide) (by decide) ⟨rfl, rfl⟩
  | i + 21, hi => exact absurd hi (by omega)
end MH
