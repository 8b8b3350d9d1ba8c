/-! ===== the reference: how its row s and the barge's cells c belong together; what it reckons ===== -/
def R1 (c s : FA) : Prop := ∀ i, i < 24 → s i = c i
def R2 (c s : FA) : Prop := ∀ i, 32 ≤ i → i < 51 → s i = c (i + 80)
def R3 (c s : FA) : Prop := s 51 = c 156 ∧ s 52 = c 157 ∧ s 53 = c 158 ∧ s 54 = lostS c ∧ s 55 = c 159 ∧ s 56 = c 160 ∧ s 57 = c 161
def R4 (c s : FA) (N : Nat) : Prop := RowOk c N ∧ s 58 = nI N ∧ ∀ p, p < N → s (59 + 2 * p) = c (131 + p) ∧ s (59 + 2 * p + 1) = c (143 + p)
def R5 (c s : FA) : Prop := ∀ t, t < 8 → s (83 + 10 * t) = c (32 + t) ∧ ∀ b, b < 3 → s (83 + 10 * t + 1 + 3 * b) = c (40 + (t * 3 + b)) ∧ s (83 + 10 * t + 1 + 3 * b + 1) = c (64 + (t * 3 + b))
def R6 (B : Nat) (c s : FA) : Prop := ∀ t, t < 8 → ∃ k p p0 : Nat, k ≤ 3 ∧ c (32 + t) = nI k ∧ p ≤ B ∧ p0 ≤ p ∧ c (24 + t) = nI p ∧ c (88 + (t * 3 + 0)) = nI p0 ∧ (1 ≤ k → (s (24 + t) = 0 ↔ p = p0)) ∧ (2 ≤ k → (s (83 + 10 * t + 3) = 0 ↔ c (88 + (t * 3 + 0)) = c (88 + (t * 3 + 1))))
def V9 (c : FA) : Prop := (∀ t, t < 8 → ∃ k, k ≤ 100 ∧ c t = nI k) ∧ (∀ t, t < 8 → ∃ k, k ≤ 9 ∧ c (8 + t) = nI k) ∧ (∀ h, h < 3 → ∃ k, k ≤ 300 ∧ c (112 + h) = nI k) ∧ (∀ h, h < 3 → -3 ≤ c (115 + h) ∧ c (115 + h) ≤ 3) ∧ ∃ r, r ≤ 9 ∧ c 128 = nI r
theorem fs_congr {a : Int32} {f g : Nat → Int32} : ∀ {n : Nat}, (∀ t, t < n → f t = g t) → fs a f n = fs a g n
  | 0, _ => rfl
  | n + 1, h => by
    show fs a f n + f n = fs a g n + g n
    rw [fs_congr (fun t ht => h t (by omega)), h n (by omega)]
theorem fs_nI {f : Nat → Int32} {M a : Nat} : ∀ n, (∀ t, t < n → ∃ k, k ≤ M ∧ f t = nI k) → ∃ W, a ≤ W ∧ W ≤ a + n * M ∧ fs (nI a) f n = nI W
  | 0, _ => ⟨a, Nat.le_refl _, by omega, rfl⟩
  | n + 1, h => by
    obtain ⟨W, h1, h2, h3⟩ := fs_nI (a := a) n (fun t ht => h t (by omega))
    obtain ⟨k, h4, h5⟩ := h n (by omega)
    refine ⟨W + k, by omega, by rw [Nat.succ_mul]; omega, ?_⟩
    show fs (nI a) f n + f n = _
    rw [h3, h5, nI_add]
theorem wgt_nI {c : FA} (h : V9 c) : ∃ W, 400 ≤ W ∧ W ≤ 2100 ∧ wgt c = nI W := by
  obtain ⟨W, h1, h2, h3⟩ := fs_nI (a := 400) 8 h.1
  obtain ⟨W2, h4, h5, h6⟩ := fs_nI (a := W) 3 h.2.2.1
  refine ⟨W2, by omega, by omega, ?_⟩
  show fs (fs (nI 400) c 8) (fun h => c (112 + h)) 3 = _
  rw [h3, h6]
theorem lst_eq {c : FA} (h : V9 c) : lst c = 10 * lmo c / wgt c ∧ ¬ wgt c = 0 := by
  obtain ⟨W, h1, h2, h3⟩ := wgt_nI h
  refine ⟨?_, ?_⟩
  · show (if wgt c ≤ 0 then 0 else 10 * lmo c / wgt c) = _
    rw [if_neg]
    rw [h3]
    exact nI_nle (by omega) (by omega)
  · rw [h3]
    exact nI_ne0 (by omega) (by omega)
def oM (o : Option Nat) : Int32 := match o with
  | none => -1005
  | some k => nI k
theorem nI_ne5 {k : Nat} (h : k < 2 ^ 31) : ¬ nI k = -1005 := by
  intro e
  have := nI_pos h
  rw [e] at this
  exact absurd this (by decide)
section MR
theorem t_X9_in (v lo hi : Int32) (h0 : AH) : Ct m_X9_in X0 [.int v, .int lo, .int hi] h0 (fun rv h => rv = some (.int (if lo ≤ v ∧ v ≤ hi then 1 else 0)) ∧ h = h0) := by
  refine ⟨ok_X9_in, ?_⟩
  refine Rch.go rfl ?_
  refine Rch.i_lt rfl (fun z => ?_) (fun z => ?_)
  · refine Rch.go rfl ?_
    exact Rch.ri rfl rfl rfl (by decide) (by decide) ⟨by rw [if_neg (fun q => Int32.not_le.mpr z q.1)], rfl⟩
  · refine Rch.go rfl ?_
    refine Rch.i_gt rfl (fun z2 => ?_) (fun z2 => ?_)
    · refine Rch.go rfl ?_
      exact Rch.ri rfl rfl rfl (by decide) (by decide) ⟨by rw [if_neg (fun q => Int32.not_le.mpr z2 q.2)], rfl⟩
    · refine Rch.go rfl ?_
      exact Rch.ri rfl rfl rfl (by decide) (by decide) ⟨by rw [if_pos ⟨nlt_le z, nlt_le z2⟩], rfl⟩
theorem ite_nar (p : Prop) [Decidable p] : narrow .boolean (.int (if p then 1 else 0)) = .int (if p then 1 else 0) := by
  by_cases h : p
  · rw [if_pos h]; decide +kernel
  · rw [if_neg h]; decide +kernel
theorem t_X9_isTank (v : Int32) (h0 : AH) : Ct m_X9_isTank X0 [.int v] h0 (fun rv h => rv = some (.int (if 0 ≤ v ∧ v ≤ 7 then 1 else 0)) ∧ h = h0) := by
  refine ⟨ok_X9_isTank, ?_⟩
  refine Rch.go rfl ?_
  refine Rch.call 1 (t_X9_in _ _ _ _) rfl rfl g_X9_22 om_X9_in rfl (fun _ _ _ q => q) rfl rfl rfl rfl ⟨rfl, rfl⟩ ⟨by decide, by decide⟩ (fun _ _ q => by obtain ⟨_, rfl⟩ := q; first | with_reducible rfl | (rw [HP_len, HP_len]; done) | rw [HP_len, HP_len, uO_len, uO_len]) (fun rv9 h9 q9 => ?_)
  obtain ⟨rfl, rfl⟩ := q9
  exact Rch.ri rfl rfl (ite_nar _) (by decide) (by decide) ⟨rfl, rfl⟩
theorem t_X9_isGroup (v : Int32) (h0 : AH) : Ct m_X9_isGroup X0 [.int v] h0 (fun rv h => rv = some (.int (if 0 ≤ v ∧ v ≤ 4 then 1 else 0)) ∧ h = h0) := by
  refine ⟨ok_X9_isGroup, ?_⟩
  refine Rch.go rfl ?_
  refine Rch.call 1 (t_X9_in _ _ _ _) rfl rfl g_X9_22 om_X9_in rfl (fun _ _ _ q => q) rfl rfl rfl rfl ⟨rfl, rfl⟩ ⟨by decide, by decide⟩ (fun _ _ q => by obtain ⟨_, rfl⟩ := q; first | with_reducible rfl | (rw [HP_len, HP_len]; done) | rw [HP_len, HP_len, uO_len, uO_len]) (fun rv9 h9 q9 => ?_)
  obtain ⟨rfl, rfl⟩ := q9
  exact Rch.ri rfl rfl (ite_nar _) (by decide) (by decide) ⟨rfl, rfl⟩
theorem t_X9_isHold (v : Int32) (h0 : AH) : Ct m_X9_isHold X0 [.int v] h0 (fun rv h => rv = some (.int (if 0 ≤ v ∧ v ≤ 2 then 1 else 0)) ∧ h = h0) := by
  refine ⟨ok_X9_isHold, ?_⟩
  refine Rch.go rfl ?_
  refine Rch.call 1 (t_X9_in _ _ _ _) rfl rfl g_X9_22 om_X9_in rfl (fun _ _ _ q => q) rfl rfl rfl rfl ⟨rfl, rfl⟩ ⟨by decide, by decide⟩ (fun _ _ q => by obtain ⟨_, rfl⟩ := q; first | with_reducible rfl | (rw [HP_len, HP_len]; done) | rw [HP_len, HP_len, uO_len, uO_len]) (fun rv9 h9 q9 => ?_)
  obtain ⟨rfl, rfl⟩ := q9
  exact Rch.ri rfl rfl (ite_nar _) (by decide) (by decide) ⟨rfl, rfl⟩
theorem t_X9_allWater (c : FA) (K : FA × KS) (s : FA) (L : LS9) (e : AH) : Ct m_X9_allWater X0 [.ref 14] (HP K.1 K.2 s L e) (fun rv h => rv = some (.int (fs 0 s 8)) ∧ h = HP K.1 K.2 s L e) := by
  refine ⟨ok_X9_allWater, ?_⟩
  refine Rch.go rfl ?_
  refine Rch.for 8 (fun n => (7, [(0, .ref 14), (1, .int (fs 0 s n)), (2, .int (nI n))], [.int 8, .int (nI n)], HP K.1 K.2 s L e, 0, 0)) (fun n hn => ?_) ?_ 0 (by omega)
  · refine Rch.i_ge rfl (fun z => absurd z (lo_in hn (by decide))) (fun _ => ?_)
    refine Rch.go rfl ?_
    refine Rch.ia rfl rfl rfl (zadd n) (by omega) (by decide) ?_
    refine Rch.go rfl (Rch.rf ?_)
    rw [nI_1]
    rfl
  · refine Rch.i_ge rfl (fun _ => ?_) (fun z => absurd (lo_out (by decide)) z)
    refine Rch.go rfl ?_
    exact Rch.ri rfl rfl rfl (by decide) (by decide) ⟨rfl, rfl⟩
theorem fs_off (a b : Int32) (f : Nat → Int32) : ∀ n, fs (a + b) f n = a + fs b f n
  | 0 => rfl
  | n + 1 => by
    show fs (a + b) f n + f n = a + (fs b f n + f n)
    rw [fs_off a b f n, Int32.add_assoc]
theorem wgt_s {c s : FA} (h1 : R1 c s) (h2 : R2 c s) : 400 + fs 0 s 8 + s 32 + s 33 + s 34 = wgt c := by
  have e1 : fs (400 : Int32) c 8 = 400 + fs 0 s 8 := by
    rw [← fs_off, fs_congr (fun t ht => (h1 t (by omega)).symm)]
    rfl
  show _ = fs (fs 400 c 8) (fun h => c (112 + h)) 3
  rw [e1, h2 32 (by decide) (by decide), h2 33 (by decide) (by decide), h2 34 (by decide) (by decide)]
  rfl
theorem t_X9_weight (c : FA) (K : FA × KS) (s : FA) (L : LS9) (e : AH) (h1 : R1 c s) (h2 : R2 c s) : Ct m_X9_weight X0 [.ref 14] (HP K.1 K.2 s L e) (fun rv h => rv = some (.int (wgt c)) ∧ h = HP K.1 K.2 s L e) := by
  refine ⟨ok_X9_weight, ?_⟩
  refine Rch.go rfl ?_
  refine Rch.call 0 (t_X9_allWater c K s L e) rfl rfl g_X9_30 om_X9_allWater rfl (fun _ _ _ q => q) rfl rfl rfl rfl ⟨rfl, rfl⟩ ⟨by decide, by decide⟩ (fun _ _ q => by obtain ⟨_, rfl⟩ := q; first | with_reducible rfl | (rw [HP_len, HP_len]; done) | rw [HP_len, HP_len, uO_len, uO_len]) (fun rv9 h9 q9 => ?_)
  obtain ⟨rfl, rfl⟩ := q9
  refine Rch.go rfl ?_
  refine Rch.ia (j := 32) rfl rfl rfl rfl (by decide) (by decide) ?_
  refine Rch.go rfl ?_
  refine Rch.ia (j := 33) rfl rfl rfl rfl (by decide) (by decide) ?_
  refine Rch.go rfl ?_
  refine Rch.ia (j := 34) rfl rfl rfl rfl (by decide) (by decide) ?_
  refine Rch.go rfl ?_
  exact Rch.ri rfl rfl rfl (by decide) (by decide) ⟨by rw [← wgt_s h1 h2], rfl⟩
theorem t_X9_armOf {t : Nat} (ht : t < 8) (h0 : AH) : Ct m_X9_armOf X0 [.int (nI t)] h0 (fun rv h => rv = some (.int (secA (t / 2))) ∧ h = h0) := by
  refine ⟨ok_X9_armOf, ?_⟩
  refine Rch.go rfl ?_
  refine Rch.div rfl (by decide) ?_
  have e1 : 20 * (nI t / 2) - 30 = secA (t / 2) := by
    match t, ht with
    | 0, _ => decide
    | 1, _ => decide
    | 2, _ => decide
    | 3, _ => decide
    | 4, _ => decide
    | 5, _ => decide
    | 6, _ => decide
    | 7, _ => decide
  refine Rch.go rfl ?_
  exact Rch.ri rfl rfl rfl (by decide) (by decide) ⟨by rw [← e1], rfl⟩
theorem t_X9_trimAbout (c : FA) (K : FA × KS) (s : FA) (L : LS9) (e : AH) (p : Int32) (h1 : R1 c s) (h2 : R2 c s) : Ct m_X9_trimAbout X0 [.ref 14, .int p] (HP K.1 K.2 s L e) (fun rv h => rv = some (.int (tmo c p)) ∧ h = HP K.1 K.2 s L e) := by
  refine ⟨ok_X9_trimAbout, ?_⟩
  refine Rch.go rfl ?_
  refine Rch.call 0 (t_X9_weight c K s L e h1 h2) rfl rfl g_X9_34 om_X9_weight rfl (fun _ _ _ q => q) rfl rfl rfl rfl ⟨rfl, rfl⟩ ⟨by decide, by decide⟩ (fun _ _ q => by obtain ⟨_, rfl⟩ := q; first | with_reducible rfl | (rw [HP_len, HP_len]; done) | rw [HP_len, HP_len, uO_len, uO_len]) (fun rv9 h9 q9 => ?_)
  obtain ⟨rfl, rfl⟩ := q9
  refine Rch.go rfl ?_
  refine Rch.for 8 (fun n => (16, [(0, .ref 14), (1, .int p), (2, .int (fs (p * (wgt c - 400)) (fun t => c t * (secA (t / 2) - p)) n)), (3, .int (nI n))], [.int 8, .int (nI n)], HP K.1 K.2 s L e, 0, 0)) (fun n hn => ?_) ?_ 0 (by omega)
  · refine Rch.i_ge rfl (fun z => absurd z (lo_in hn (by decide))) (fun _ => ?_)
    refine Rch.go rfl ?_
    refine Rch.ia rfl rfl rfl (zadd n) (by omega) (by decide) ?_
    refine Rch.go rfl ?_
    refine Rch.call 1 (t_X9_armOf hn _) rfl rfl g_X9_37 om_X9_armOf rfl (fun _ _ _ q => q) rfl rfl rfl rfl ⟨rfl, rfl⟩ ⟨by decide, by decide⟩ (fun _ _ q => by obtain ⟨_, rfl⟩ := q; first | with_reducible rfl | (rw [HP_len, HP_len]; done) | rw [HP_len, HP_len, uO_len, uO_len]) (fun rv9 h9 q9 => ?_)
    obtain ⟨rfl, rfl⟩ := q9
    refine Rch.go rfl (Rch.rf ?_)
    rw [nI_1, h1 n (by omega)]
    rfl
  · refine Rch.i_ge rfl (fun _ => ?_) (fun z => absurd (lo_out (by decide)) z)
    refine Rch.go rfl ?_
    refine Rch.for 3 (fun n => (47, [(0, .ref 14), (1, .int p), (2, .int (fs (fs (p * (wgt c - 400)) (fun t => c t * (secA (t / 2) - p)) 8) (fun h => c (112 + h) * (hldA h - p)) n)), (3, .int (nI n))], [.int 3, .int (nI n)], HP K.1 K.2 s L e, 0, 0)) (fun n hn => ?_) ?_ 0 (by omega)
    · refine Rch.i_ge rfl (fun z => absurd z (lo_in hn (by decide))) (fun _ => ?_)
      refine Rch.go rfl ?_
      refine Rch.ia rfl rfl rfl (nI_add 32 n) (by omega) (by decide) ?_
      refine Rch.go rfl (Rch.rf ?_)
      have e1 : 20 * nI n - 20 = hldA n := by
        match n, hn with
        | 0, _ => decide
        | 1, _ => decide
        | 2, _ => decide
      rw [nI_1, e1, h2 (32 + n) (by omega) (by omega), show 32 + n + 80 = 112 + n by omega]
      rfl
    · refine Rch.i_ge rfl (fun _ => ?_) (fun z => absurd (lo_out (by decide)) z)
      refine Rch.go rfl ?_
      exact Rch.ri rfl rfl rfl (by decide) (by decide) ⟨rfl, rfl⟩
theorem t_X9_listMoment (c : FA) (K : FA × KS) (s : FA) (L : LS9) (e : AH) (h1 : R1 c s) (h2 : R2 c s) : Ct m_X9_listMoment X0 [.ref 14] (HP K.1 K.2 s L e) (fun rv h => rv = some (.int (lmo c)) ∧ h = HP K.1 K.2 s L e) := by
  refine ⟨ok_X9_listMoment, ?_⟩
  refine Rch.go rfl ?_
  refine Rch.for 8 (fun n => (7, [(0, .ref 14), (1, .int (fs 0 (fun t => c t * sidA (t % 2)) n)), (2, .int (nI n))], [.int 8, .int (nI n)], HP K.1 K.2 s L e, 0, 0)) (fun n hn => ?_) ?_ 0 (by omega)
  · refine Rch.i_ge rfl (fun z => absurd z (lo_in hn (by decide))) (fun _ => ?_)
    refine Rch.go rfl ?_
    refine Rch.ia rfl rfl rfl (zadd n) (by omega) (by decide) ?_
    refine Rch.go rfl ?_
    have er : nI n - nI n / 2 * 2 = nI (n % 2) := nI_rem (d := 2) (by omega) (by decide)
    rw [er]
    have hm : n % 2 = 0 ∨ n % 2 = 1 := by omega
    rcases hm with hm | hm
    · rw [hm]
      refine Rch.z_ne rfl (fun _ => ?_) (fun q => absurd rfl q)
      refine Rch.go rfl (Rch.rf ?_)
      rw [nI_1, h1 n (by omega), show (-4 : Int32) = sidA (n % 2) by rw [hm]; rfl]
      rfl
    · rw [hm]
      refine Rch.z_ne rfl (fun q => absurd q (by decide)) (fun _ => ?_)
      refine Rch.go rfl (Rch.rf ?_)
      rw [nI_1, h1 n (by omega), show (4 : Int32) = sidA (n % 2) by rw [hm]; rfl]
      rfl
  · refine Rch.i_ge rfl (fun _ => ?_) (fun z => absurd (lo_out (by decide)) z)
    refine Rch.go rfl ?_
    refine Rch.for 3 (fun n => (44, [(0, .ref 14), (1, .int (fs (fs 0 (fun t => c t * sidA (t % 2)) 8) (fun h => c (112 + h) * c (115 + h)) n)), (2, .int (nI n))], [.int 3, .int (nI n)], HP K.1 K.2 s L e, 0, 0)) (fun n hn => ?_) ?_ 0 (by omega)
    · refine Rch.i_ge rfl (fun z => absurd z (lo_in hn (by decide))) (fun _ => ?_)
      refine Rch.go rfl ?_
      refine Rch.ia rfl rfl rfl (nI_add 32 n) (by omega) (by decide) ?_
      refine Rch.go rfl ?_
      refine Rch.ia rfl rfl rfl (nI_add 35 n) (by omega) (by decide) ?_
      refine Rch.go rfl (Rch.rf ?_)
      rw [nI_1, h2 (32 + n) (by omega) (by omega), h2 (35 + n) (by omega) (by omega), show 32 + n + 80 = 112 + n by omega, show 35 + n + 80 = 115 + n by omega]
      rfl
    · refine Rch.i_ge rfl (fun _ => ?_) (fun z => absurd (lo_out (by decide)) z)
      refine Rch.go rfl ?_
      exact Rch.ri rfl rfl rfl (by decide) (by decide) ⟨rfl, rfl⟩
theorem t_X9_list (c : FA) (K : FA × KS) (s : FA) (L : LS9) (e : AH) (h1 : R1 c s) (h2 : R2 c s) (hv : V9 c) : Ct m_X9_list X0 [.ref 14] (HP K.1 K.2 s L e) (fun rv h => rv = some (.int (lst c)) ∧ h = HP K.1 K.2 s L e) := by
  refine ⟨ok_X9_list, ?_⟩
  refine Rch.go rfl ?_
  refine Rch.call 0 (t_X9_listMoment c K s L e h1 h2) rfl rfl g_X9_41 om_X9_listMoment rfl (fun _ _ _ q => q) rfl rfl rfl rfl ⟨rfl, rfl⟩ ⟨by decide, by decide⟩ (fun _ _ q => by obtain ⟨_, rfl⟩ := q; first | with_reducible rfl | (rw [HP_len, HP_len]; done) | rw [HP_len, HP_len, uO_len, uO_len]) (fun rv9 h9 q9 => ?_)
  obtain ⟨rfl, rfl⟩ := q9
  refine Rch.go rfl ?_
  refine Rch.call 0 (t_X9_weight c K s L e h1 h2) rfl rfl g_X9_34 om_X9_weight rfl (fun _ _ _ q => q) rfl rfl rfl rfl ⟨rfl, rfl⟩ ⟨by decide, by decide⟩ (fun _ _ q => by obtain ⟨_, rfl⟩ := q; first | with_reducible rfl | (rw [HP_len, HP_len]; done) | rw [HP_len, HP_len, uO_len, uO_len]) (fun rv9 h9 q9 => ?_)
  obtain ⟨rfl, rfl⟩ := q9
  refine Rch.div rfl (lst_eq hv).2 ?_
  exact Rch.ri rfl rfl rfl (by decide) (by decide) ⟨by rw [(lst_eq hv).1], rfl⟩
theorem t_X9_size (v : Int32) (h0 : AH) : Ct m_X9_size X0 [.int v] h0 (fun rv h => rv = some (.int (abi v)) ∧ h = h0) := by
  refine ⟨ok_X9_size, ?_⟩
  refine Rch.go rfl ?_
  refine Rch.z_ge rfl (fun z => ?_) (fun z => ?_)
  · refine Rch.go rfl ?_
    exact Rch.ri rfl rfl rfl (by decide) (by decide) ⟨by rw [show abi v = v from if_pos z], rfl⟩
  · refine Rch.go rfl ?_
    exact Rch.ri rfl rfl rfl (by decide) (by decide) ⟨by rw [show abi v = 0 - v from if_neg z, Int32.zero_sub], rfl⟩
theorem t_X9_openTanks (c : FA) (K : FA × KS) (s : FA) (L : LS9) (e : AH) (h2 : R2 c s) : Ct m_X9_openTanks X0 [.ref 14] (HP K.1 K.2 s L e) (fun rv h => rv = some (.int (opn c 5)) ∧ h = HP K.1 K.2 s L e) := by
  refine ⟨ok_X9_openTanks, ?_⟩
  refine Rch.go rfl ?_
  refine Rch.for 5 (fun n => (6, [(0, .ref 14), (1, .int (opn c n)), (2, .int (nI n))], [.int 5, .int (nI n)], HP K.1 K.2 s L e, 0, 0)) (fun n hn => ?_) ?_ 0 (by omega)
  · have e3 : s (43 + n) = c (123 + n) := by rw [h2 (43 + n) (by omega) (by omega), show 43 + n + 80 = 123 + n by omega]
    have e4 : s (38 + n) = c (118 + n) := by rw [h2 (38 + n) (by omega) (by omega), show 38 + n + 80 = 118 + n by omega]
    refine Rch.i_ge rfl (fun z => absurd z (lo_in hn (by decide))) (fun _ => ?_)
    refine Rch.go rfl ?_
    refine Rch.ia rfl rfl rfl (nI_add 43 n) (by omega) (by decide) ?_
    refine Rch.go rfl ?_
    refine Rch.i_ne rfl (fun z => ?_) (fun z => ?_)
    · refine Rch.go rfl ?_
      refine Rch.ia rfl rfl rfl (nI_add 38 n) (by omega) (by decide) ?_
      refine Rch.go rfl (Rch.rf ?_)
      rw [e3] at z
      rw [nI_1, e4, ← show opn c (n + 1) = _ from if_pos z]
      rfl
    · refine Rch.go rfl (Rch.rf ?_)
      rw [e3] at z
      rw [nI_1, Int32.or_zero, ← show opn c (n + 1) = _ from if_neg z]
      rfl
  · refine Rch.i_ge rfl (fun _ => ?_) (fun z => absurd (lo_out (by decide)) z)
    refine Rch.go rfl ?_
    exact Rch.ri rfl rfl rfl (by decide) (by decide) ⟨rfl, rfl⟩
theorem out_tail (c : FA) (K : FA × KS) (s : FA) (L : LS9) (e : AH) (mo9 x : Int32) (n : Nat) (hn : n < 8) (o o' : Option Nat) (b : Int32) (hb : b = 0 ∨ b = 1) (ho : o' = if bt x n then (if b = 1 then some n else o) else o) : Rch m_X9_outermost X0 (80, [(0, .ref 14), (1, .int mo9), (2, .int x), (3, .int (oM o)), (4, .int (nI n)), (5, .int b)], [], HP K.1 K.2 s L e, 0, 0) (fun τ => τ = (16, [(0, .ref 14), (1, .int mo9), (2, .int x), (3, .int (oM o')), (4, .int (nI (n + 1)))], [.int 8, .int (nI (n + 1))], HP K.1 K.2 s L e, 0, 0)) := by
  subst ho
  refine Rch.go rfl ?_
  refine Rch.i_ne rfl (fun z => ?_) (fun z => ?_)
  · have e1 : bt x n := z
    rw [if_pos e1]
    refine Rch.go rfl ?_
    rcases hb with rfl | rfl
    · refine Rch.z_eq rfl (fun _ => ?_) (fun q => absurd rfl q)
      refine Rch.go rfl ?_
      refine Rch.wp [0, 1, 2, 3, 4] rfl rfl (Rch.rf ?_)
      rw [nI_1]
      rfl
    · refine Rch.z_eq rfl (fun q => absurd q (by decide)) (fun _ => ?_)
      refine Rch.go rfl ?_
      refine Rch.wp [0, 1, 2, 3, 4] rfl rfl (Rch.rf ?_)
      rw [nI_1]
      rfl
  · have e1 : ¬ bt x n := z
    rw [if_neg e1]
    refine Rch.go rfl ?_
    refine Rch.wp [0, 1, 2, 3, 4] rfl rfl (Rch.rf ?_)
    rw [nI_1]
    rfl
theorem t_X9_outermost__0 (c : FA) (K : FA × KS) (s : FA) (L : LS9) (e : AH) (h1 : R1 c s) (h2 : R2 c s) : Ct m_X9_outermost X0 [.ref 14, .int 0] (HP K.1 K.2 s L e) (fun rv h => rv = some (.int (oM (emp c (opn c 5) 8))) ∧ h = HP K.1 K.2 s L e) := by
  refine ⟨ok_X9_outermost, ?_⟩
  refine Rch.go rfl ?_
  refine Rch.call 0 (t_X9_openTanks c K s L e h2) rfl rfl g_X9_44 om_X9_openTanks rfl (fun _ _ _ q => q) rfl rfl rfl rfl ⟨rfl, rfl⟩ ⟨by decide, by decide⟩ (fun _ _ q => by obtain ⟨_, rfl⟩ := q; first | with_reducible rfl | (rw [HP_len, HP_len]; done) | rw [HP_len, HP_len, uO_len, uO_len]) (fun rv9 h9 q9 => ?_)
  obtain ⟨rfl, rfl⟩ := q9
  generalize opn c 5 = x
  refine Rch.go rfl ?_
  refine Rch.for 8 (fun n => (16, [(0, .ref 14), (1, .int 0), (2, .int x), (3, .int (oM (emp c x n))), (4, .int (nI n))], [.int 8, .int (nI n)], HP K.1 K.2 s L e, 0, 0)) (fun n hn => ?_) ?_ 0 (by omega)
  · refine Rch.i_ge rfl (fun z => absurd z (lo_in hn (by decide))) (fun _ => ?_)
    refine Rch.go rfl ?_
    cases hk : emp c x n with
    | none =>
      refine Rch.i_eq rfl (fun _ => ?_) (fun q => absurd rfl q)
      refine Rch.st 3 rfl ?_
      exact out_tail c K s L e 0 x n hn none _ 1 (Or.inr rfl) (by show (if bt x n then (match emp c x n with | none => some n | some k => if c k ≤ c n then some k else some n) else emp c x n) = _; rw [hk]; rfl)
    | some k =>
      have hlt := emp_lt hk
      refine Rch.i_eq rfl (fun q => absurd q (nI_ne5 (by omega))) (fun _ => ?_)
      refine Rch.go rfl ?_
      refine Rch.z_eq rfl (fun _ => ?_) (fun q => absurd rfl q)
      refine Rch.go rfl ?_
      refine Rch.ia rfl rfl rfl (zadd n) (by omega) (by decide) ?_
      refine Rch.go rfl ?_
      refine Rch.ia rfl rfl rfl (zadd k) (by omega) (by decide) ?_
      rw [h1 n (by omega), h1 k (by omega)]
      have e1 : emp c x (n + 1) = if bt x n then (if c k ≤ c n then some k else some n) else some k := by
        show (if bt x n then (match emp c x n with | none => some n | some k => if c k ≤ c n then some k else some n) else emp c x n) = _
        rw [hk]
      refine Rch.i_ge rfl (fun w => ?_) (fun w => ?_)
      · refine Rch.st 2 rfl ?_
        exact out_tail c K s L e 0 x n hn (some k) _ 0 (Or.inl rfl) (by rw [e1, if_pos w]; rfl)
      · refine Rch.st 3 rfl ?_
        exact out_tail c K s L e 0 x n hn (some k) _ 1 (Or.inr rfl) (by rw [e1, if_neg w]; rfl)
  · refine Rch.i_ge rfl (fun _ => ?_) (fun z => absurd (lo_out (by decide)) z)
    refine Rch.go rfl ?_
    exact Rch.ri rfl rfl rfl (by decide) (by decide) ⟨rfl, rfl⟩
theorem t_X9_outermost__1 (c : FA) (K : FA × KS) (s : FA) (L : LS9) (e : AH) (h1 : R1 c s) (h2 : R2 c s) : Ct m_X9_outermost X0 [.ref 14, .int 1] (HP K.1 K.2 s L e) (fun rv h => rv = some (.int (oM (ful c (opn c 5) 8))) ∧ h = HP K.1 K.2 s L e) := by
  refine ⟨ok_X9_outermost, ?_⟩
  refine Rch.go rfl ?_
  refine Rch.call 0 (t_X9_openTanks c K s L e h2) rfl rfl g_X9_44 om_X9_openTanks rfl (fun _ _ _ q => q) rfl rfl rfl rfl ⟨rfl, rfl⟩ ⟨by decide, by decide⟩ (fun _ _ q => by obtain ⟨_, rfl⟩ := q; first | with_reducible rfl | (rw [HP_len, HP_len]; done) | rw [HP_len, HP_len, uO_len, uO_len]) (fun rv9 h9 q9 => ?_)
  obtain ⟨rfl, rfl⟩ := q9
  generalize opn c 5 = x
  refine Rch.go rfl ?_
  refine Rch.for 8 (fun n => (16, [(0, .ref 14), (1, .int 1), (2, .int x), (3, .int (oM (ful c x n))), (4, .int (nI n))], [.int 8, .int (nI n)], HP K.1 K.2 s L e, 0, 0)) (fun n hn => ?_) ?_ 0 (by omega)
  · refine Rch.i_ge rfl (fun z => absurd z (lo_in hn (by decide))) (fun _ => ?_)
    refine Rch.go rfl ?_
    cases hk : ful c x n with
    | none =>
      refine Rch.i_eq rfl (fun _ => ?_) (fun q => absurd rfl q)
      refine Rch.st 3 rfl ?_
      exact out_tail c K s L e 1 x n hn none _ 1 (Or.inr rfl) (by show (if bt x n then (match ful c x n with | none => some n | some k => if c n ≤ c k then some k else some n) else ful c x n) = _; rw [hk]; rfl)
    | some k =>
      have hlt := ful_lt hk
      refine Rch.i_eq rfl (fun q => absurd q (nI_ne5 (by omega))) (fun _ => ?_)
      refine Rch.go rfl ?_
      refine Rch.z_eq rfl (fun q => absurd q (by decide)) (fun _ => ?_)
      refine Rch.go rfl ?_
      refine Rch.ia rfl rfl rfl (zadd n) (by omega) (by decide) ?_
      refine Rch.go rfl ?_
      refine Rch.ia rfl rfl rfl (zadd k) (by omega) (by decide) ?_
      rw [h1 n (by omega), h1 k (by omega)]
      have e1 : ful c x (n + 1) = if bt x n then (if c n ≤ c k then some k else some n) else some k := by
        show (if bt x n then (match ful c x n with | none => some n | some k => if c n ≤ c k then some k else some n) else ful c x n) = _
        rw [hk]
      refine Rch.i_le rfl (fun w => ?_) (fun w => ?_)
      · refine Rch.st 2 rfl ?_
        exact out_tail c K s L e 1 x n hn (some k) _ 0 (Or.inl rfl) (by rw [e1, if_pos w]; rfl)
      · refine Rch.st 4 rfl ?_
        exact out_tail c K s L e 1 x n hn (some k) _ 1 (Or.inr rfl) (by rw [e1, if_neg w]; rfl)
  · refine Rch.i_ge rfl (fun _ => ?_) (fun z => absurd (lo_out (by decide)) z)
    refine Rch.go rfl ?_
    exact Rch.ri rfl rfl rfl (by decide) (by decide) ⟨rfl, rfl⟩
def oN9 (o : Option Nat) : Int32 := match o with
  | none => 0
  | some _ => 1
theorem t_X9_canFill (c : FA) (K : FA × KS) (s : FA) (L : LS9) (e : AH) (h1 : R1 c s) (h2 : R2 c s) : Ct m_X9_canFill X0 [.ref 14] (HP K.1 K.2 s L e) (fun rv h => rv = some (.int (oN9 (tfi c (opn c 5)))) ∧ h = HP K.1 K.2 s L e) := by
  refine ⟨ok_X9_canFill, ?_⟩
  refine Rch.go rfl ?_
  refine Rch.call 0 (t_X9_outermost__0 c K s L e h1 h2) rfl rfl g_X9_47 om_X9_outermost rfl (fun _ _ _ q => q) rfl rfl rfl rfl ⟨rfl, rfl⟩ ⟨by decide, by decide⟩ (fun _ _ q => by obtain ⟨_, rfl⟩ := q; first | with_reducible rfl | (rw [HP_len, HP_len]; done) | rw [HP_len, HP_len, uO_len, uO_len]) (fun rv9 h9 q9 => ?_)
  obtain ⟨rfl, rfl⟩ := q9
  generalize opn c 5 = x
  refine Rch.go rfl ?_
  cases hk : emp c x 8 with
  | none =>
    have e1 : tfi c x = none := by unfold tfi; rw [hk]
    rw [e1]
    refine Rch.i_eq rfl (fun _ => ?_) (fun q => absurd rfl q)
    refine Rch.go rfl ?_
    exact Rch.ri rfl rfl rfl (by decide) (by decide) ⟨rfl, rfl⟩
  | some k =>
    have hlt := emp_lt hk
    have e1 : tfi c x = if c k < 100 then (if (wgt c + 1) / 10 ≤ c 130 then some k else none) else none := by unfold tfi; rw [hk]
    refine Rch.i_eq rfl (fun q => absurd q (nI_ne5 (by omega))) (fun _ => ?_)
    refine Rch.go rfl ?_
    refine Rch.ia rfl rfl rfl (zadd k) (by omega) (by decide) ?_
    refine Rch.go rfl ?_
    rw [h1 k (by omega)]
    refine Rch.i_ge rfl (fun z => ?_) (fun z => ?_)
    · rw [if_neg (Int32.not_lt.mpr z)] at e1
      rw [e1]
      refine Rch.go rfl ?_
      exact Rch.ri rfl rfl rfl (by decide) (by decide) ⟨rfl, rfl⟩
    · rw [if_pos (nle_lt z)] at e1
      refine Rch.go rfl ?_
      refine Rch.call 0 (t_X9_weight c K s L e h1 h2) rfl rfl g_X9_34 om_X9_weight rfl (fun _ _ _ q => q) rfl rfl rfl rfl ⟨rfl, rfl⟩ ⟨by decide, by decide⟩ (fun _ _ q => by obtain ⟨_, rfl⟩ := q; first | with_reducible rfl | (rw [HP_len, HP_len]; done) | rw [HP_len, HP_len, uO_len, uO_len]) (fun rv9 h9 q9 => ?_)
      obtain ⟨rfl, rfl⟩ := q9
      refine Rch.go rfl ?_
      refine Rch.div rfl (by decide) ?_
      refine Rch.go rfl ?_
      refine Rch.ia (j := 50) rfl rfl rfl rfl (by decide) (by decide) ?_
      rw [h2 50 (by decide) (by decide)]
      refine Rch.i_gt rfl (fun w => ?_) (fun w => ?_)
      · rw [if_neg (Int32.not_le.mpr w)] at e1
        rw [e1]
        refine Rch.go rfl ?_
        exact Rch.ri rfl rfl rfl (by decide) (by decide) ⟨rfl, rfl⟩
      · rw [if_pos (nlt_le w)] at e1
        rw [e1]
        refine Rch.go rfl ?_
        exact Rch.ri rfl rfl rfl (by decide) (by decide) ⟨rfl, rfl⟩
theorem t_X9_canEmpty (c : FA) (K : FA × KS) (s : FA) (L : LS9) (e : AH) (h1 : R1 c s) (h2 : R2 c s) : Ct m_X9_canEmpty X0 [.ref 14] (HP K.1 K.2 s L e) (fun rv h => rv = some (.int (oN9 (tem c (opn c 5)))) ∧ h = HP K.1 K.2 s L e) := by
  refine ⟨ok_X9_canEmpty, ?_⟩
  refine Rch.go rfl ?_
  refine Rch.call 0 (t_X9_outermost__1 c K s L e h1 h2) rfl rfl g_X9_47 om_X9_outermost rfl (fun _ _ _ q => q) rfl rfl rfl rfl ⟨rfl, rfl⟩ ⟨by decide, by decide⟩ (fun _ _ q => by obtain ⟨_, rfl⟩ := q; first | with_reducible rfl | (rw [HP_len, HP_len]; done) | rw [HP_len, HP_len, uO_len, uO_len]) (fun rv9 h9 q9 => ?_)
  obtain ⟨rfl, rfl⟩ := q9
  generalize opn c 5 = x
  refine Rch.go rfl ?_
  cases hk : ful c x 8 with
  | none =>
    have e1 : tem c x = none := by unfold tem; rw [hk]
    rw [e1]
    refine Rch.i_eq rfl (fun _ => ?_) (fun q => absurd rfl q)
    refine Rch.go rfl ?_
    exact Rch.ri rfl rfl rfl (by decide) (by decide) ⟨rfl, rfl⟩
  | some k =>
    have hlt := ful_lt hk
    have e1 : tem c x = if 0 < c k then some k else none := by unfold tem; rw [hk]
    refine Rch.i_eq rfl (fun q => absurd q (nI_ne5 (by omega))) (fun _ => ?_)
    refine Rch.go rfl ?_
    refine Rch.ia rfl rfl rfl (zadd k) (by omega) (by decide) ?_
    rw [h1 k (by omega)]
    refine Rch.z_le rfl (fun z => ?_) (fun z => ?_)
    · rw [if_neg (Int32.not_lt.mpr z)] at e1
      rw [e1]
      refine Rch.go rfl ?_
      exact Rch.ri rfl rfl rfl (by decide) (by decide) ⟨rfl, rfl⟩
    · rw [if_pos (nle_lt z)] at e1
      rw [e1]
      refine Rch.go rfl ?_
      exact Rch.ri rfl rfl rfl (by decide) (by decide) ⟨rfl, rfl⟩
theorem ful_emp {c : FA} {x : Int32} : ∀ n, ful c x n = none ↔ emp c x n = none
  | 0 => by simp [ful, emp]
  | n + 1 => by
    have ih := ful_emp (c := c) (x := x) n
    unfold ful emp
    by_cases hb : bt x n
    · rw [if_pos hb, if_pos hb]
      constructor
      · intro h
        split at h
        · cases h
        · split at h <;> cases h
      · intro h
        split at h
        · cases h
        · split at h <;> cases h
    · rw [if_neg hb, if_neg hb]
      exact ih
theorem t_X9_canLevel (c : FA) (K : FA × KS) (s : FA) (L : LS9) (e : AH) (h1 : R1 c s) (h2 : R2 c s) : Ct m_X9_canLevel X0 [.ref 14] (HP K.1 K.2 s L e) (fun rv h => rv = some (.int (oN9 (tlo c (opn c 5)))) ∧ h = HP K.1 K.2 s L e) := by
  refine ⟨ok_X9_canLevel, ?_⟩
  refine Rch.go rfl ?_
  refine Rch.call 0 (t_X9_outermost__1 c K s L e h1 h2) rfl rfl g_X9_47 om_X9_outermost rfl (fun _ _ _ q => q) rfl rfl rfl rfl ⟨rfl, rfl⟩ ⟨by decide, by decide⟩ (fun _ _ q => by obtain ⟨_, rfl⟩ := q; first | with_reducible rfl | (rw [HP_len, HP_len]; done) | rw [HP_len, HP_len, uO_len, uO_len]) (fun rv9 h9 q9 => ?_)
  obtain ⟨rfl, rfl⟩ := q9
  refine Rch.go rfl ?_
  cases hf : ful c (opn c 5) 8 with
  | none =>
    have e1 : tlo c (opn c 5) = none := by unfold tlo; rw [hf]
    rw [e1]
    refine Rch.i_eq rfl (fun _ => ?_) (fun q => absurd rfl q)
    refine Rch.go rfl ?_
    exact Rch.ri rfl rfl rfl (by decide) (by decide) ⟨rfl, rfl⟩
  | some f =>
    have hlf := ful_lt hf
    refine Rch.i_eq rfl (fun q => absurd q (nI_ne5 (by omega))) (fun _ => ?_)
    refine Rch.go rfl ?_
    refine Rch.call 0 (t_X9_outermost__1 c K s L e h1 h2) rfl rfl g_X9_47 om_X9_outermost rfl (fun _ _ _ q => q) rfl rfl rfl rfl ⟨rfl, rfl⟩ ⟨by decide, by decide⟩ (fun _ _ q => by obtain ⟨_, rfl⟩ := q; first | with_reducible rfl | (rw [HP_len, HP_len]; done) | rw [HP_len, HP_len, uO_len, uO_len]) (fun rv9 h9 q9 => ?_)
    obtain ⟨rfl, rfl⟩ := q9
    refine Rch.go rfl ?_
    rw [hf]
    refine Rch.ia rfl rfl rfl (zadd f) (by omega) (by decide) ?_
    refine Rch.go rfl ?_
    refine Rch.call 0 (t_X9_outermost__0 c K s L e h1 h2) rfl rfl g_X9_47 om_X9_outermost rfl (fun _ _ _ q => q) rfl rfl rfl rfl ⟨rfl, rfl⟩ ⟨by decide, by decide⟩ (fun _ _ q => by obtain ⟨_, rfl⟩ := q; first | with_reducible rfl | (rw [HP_len, HP_len]; done) | rw [HP_len, HP_len, uO_len, uO_len]) (fun rv9 h9 q9 => ?_)
    obtain ⟨rfl, rfl⟩ := q9
    cases hk : emp c (opn c 5) 8 with
    | none => exact absurd ((ful_emp 8).mpr hk) (by rw [hf]; exact fun q => by cases q)
    | some k =>
      have hlt := emp_lt hk
      have e1 : tlo c (opn c 5) = if c f - c k < 2 then none else some f := by unfold tlo; rw [hf, hk]
      refine Rch.go rfl ?_
      refine Rch.ia rfl rfl rfl (zadd k) (by omega) (by decide) ?_
      rw [h1 f (by omega), h1 k (by omega)]
      refine Rch.go rfl ?_
      refine Rch.i_lt rfl (fun z => ?_) (fun z => ?_)
      · rw [if_pos z] at e1
        rw [e1]
        refine Rch.go rfl ?_
        exact Rch.ri rfl rfl rfl (by decide) (by decide) ⟨rfl, rfl⟩
      · rw [if_neg z] at e1
        rw [e1]
        refine Rch.go rfl ?_
        exact Rch.ri rfl rfl rfl (by decide) (by decide) ⟨rfl, rfl⟩
end MR
