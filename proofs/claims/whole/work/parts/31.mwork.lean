/-! ===== the reference works orders off and lets time pass ===== -/
theorem emp_congr {c d : FA} {x : Int32} (h : ∀ t, t < 8 → d t = c t) : ∀ n, n ≤ 8 → emp d x n = emp c x n
  | 0, _ => rfl
  | n + 1, hn => by
    have ih := emp_congr (x := x) h n (by omega)
    unfold emp
    rw [ih]
    by_cases hb : bt x n
    · rw [if_pos hb, if_pos hb]
      cases hk : emp c x n with
      | none => rfl
      | some k => have := emp_lt hk; dsimp only; rw [h k (by omega), h n (by omega)]
    · rw [if_neg hb, if_neg hb]
theorem ful_congr {c d : FA} {x : Int32} (h : ∀ t, t < 8 → d t = c t) : ∀ n, n ≤ 8 → ful d x n = ful c x n
  | 0, _ => rfl
  | n + 1, hn => by
    have ih := ful_congr (x := x) h n (by omega)
    unfold ful
    rw [ih]
    by_cases hb : bt x n
    · rw [if_pos hb, if_pos hb]
      cases hk : ful c x n with
      | none => rfl
      | some k => have := ful_lt hk; dsimp only; rw [h k (by omega), h n (by omega)]
    · rw [if_neg hb, if_neg hb]
theorem wgt_congr {c d : FA} (h : ∀ j, j < 131 → d j = c j) : wgt d = wgt c := by
  unfold wgt
  rw [fs_congr (fun t ht => h t (by omega)), fs_congr (n := 3) (fun t ht => h (112 + t) (by omega))]
theorem rsn_congr {c d : FA} (h : ∀ j, j < 131 → d j = c j) {k b : Nat} (hb : k < 2 → b < 5) : rsn d k b = rsn c k b := by
  have h8 : ∀ t, t < 8 → d t = c t := fun t ht => h t (by omega)
  have e1 : opn d 5 = opn c 5 := opn_congr (fun j h1 h2 => h j (by omega)) 5 (Nat.le_refl 5)
  have e2 : ∀ x, tfi d x = tfi c x := by
    intro x
    unfold tfi
    rw [emp_congr h8 8 (Nat.le_refl 8)]
    cases hk : emp c x 8 with
    | none => rfl
    | some k => have := emp_lt hk; dsimp only; rw [h k (by omega), h 130 (by omega), wgt_congr h]
  have e3 : ∀ x, tem d x = tem c x := by
    intro x
    unfold tem
    rw [ful_congr h8 8 (Nat.le_refl 8)]
    cases hk : ful c x 8 with
    | none => rfl
    | some k => have := ful_lt hk; dsimp only; rw [h k (by omega)]
  have e4 : ∀ x, tlo d x = tlo c x := by
    intro x
    unfold tlo
    rw [ful_congr h8 8 (Nat.le_refl 8), emp_congr h8 8 (Nat.le_refl 8)]
    cases hf : ful c x 8 with
    | none => rfl
    | some f =>
      have := ful_lt hf
      cases hk : emp c x 8 with
      | none => rfl
      | some k => have := emp_lt hk; dsimp only; rw [h k (by omega), h f (by omega)]
  unfold rsn
  rw [e1, e2, e3, e4]
  by_cases h2 : k < 2
  · rw [if_pos h2, if_pos h2, h (123 + b) (by have := hb h2; omega)]
  · rw [if_neg h2, if_neg h2]
theorem rsn_le {c : FA} {k b : Nat} (h : rsn c k b ≤ 0) : rsn c k b = 0 := by
  revert h
  unfold rsn
  repeat' split
  all_goals decide
theorem on9 {o : Option Nat} (h : ∀ k, o = some k → k < 8) : oN9 o = 0 ↔ oI o = -1 := by
  cases o with
  | none => exact ⟨fun _ => rfl, fun _ => rfl⟩
  | some k => exact ⟨fun q => absurd (show (1 : Int32) = 0 from q) (by decide), fun q => absurd q (nI_ne1 (by have := h k rfl; omega))⟩
theorem tel9 (a b e : Int32) : (a - b) + (e - a) = e - b := by
  rw [Int32.add_comm, Int32.sub_eq_add_neg a b, ← Int32.add_assoc, Int32.sub_add_cancel, ← Int32.sub_eq_add_neg]
theorem RR.off1 {d : Int32} {B N : Nat} {c s : FA} (h : RR d B (N + 1) c s) : RR d B N (tko c (N + 1)) (sAt s N 0) := by
  have h4 := h.2.2.2.1
  have hN := h4.1.2.1
  refine h.row (fun j hj => tko_fx hN hj) (fun i hi => sAt_o (by omega) hi) ⟨rowok_tko h4.1 (by omega), by unfold sAt sAm; rw [if_pos rfl], fun p hp => ?_⟩
  unfold tko
  rw [pk_un (by omega), pk_un (by omega), tkf_at c _ _ (by omega), tkf_at c _ _ (by omega), if_pos (by omega), if_pos (by omega)]
  unfold sAt sAm
  rw [if_neg (by omega), if_pos (by omega), if_neg (by omega), if_pos (by omega)]
  exact h4.2.2 (p + 1) (by omega)
theorem wfs_end {c : FA} {N : Nat} (h : RowOk c N) : ∀ d, wfs c (N + d) = wfs c N
  | 0 => rfl
  | d + 1 => by
    have h1 := (wfs_ok h (N + d)).1
    have n1 : ix (wfs c (N + d) 155) = 0 := by rw [h1.1, show N - (N + d) = 0 by omega]; exact ix_nI (by decide)
    show wf (wfs c (N + d)) = _
    rw [← wfs_end h d]
    unfold wf
    rw [if_pos n1]
theorem mnt_off (x : Int32) (r : Nat) (c : FA) : mnt (-1) x r c = mnt 0 x r c := by
  have e : ∀ d c', pmp (-1) x d c' = pmp 0 x d c' := by
    intro d c'
    cases d with
    | zero => rfl
    | succ d => rfl
  unfold mnt
  rw [e]
theorem mns_off (x : Int32) (r : Nat) (c : FA) : ∀ n, mns (-1) x r c n = mns 0 x r c n
  | 0 => rfl
  | n + 1 => by
    show mnt (-1) x r (mns (-1) x r c n) = mnt 0 x r (mns 0 x r c n)
    rw [mns_off x r c n, mnt_off]
section MF
theorem t_X9_reason (c : FA) (K : FA × KS) (s : FA) (L : LS9) (e : AH) {k b : Nat} (h1 : R1 c s) (h2 : R2 c s) (hk : k < 5) (hb : k < 2 → b < 5) : Ct m_X9_reason X0 [.ref 14, .int (nI k), .int (nI b)] (HP K.1 K.2 s L e) (fun rv h => rv = some (.int (rsn c k b)) ∧ h = HP K.1 K.2 s L e) := by
  refine ⟨ok_X9_reason, ?_⟩
  have hv : ∀ w : Int32, k < 2 → rsn c k b = (if c (123 + b) = w then 1 else 0) → 1 - nI k = w → Rch m_X9_reason X0 (13, [(0, .ref 14), (1, .int (nI k)), (2, .int (nI b))], [.int (43 + nI b), .ref 15], HP K.1 K.2 s L e, 0, 0) (RetP m_X9_reason (fun rv h => rv = some (.int (rsn c k b)) ∧ h = HP K.1 K.2 s L e)) := by
    intro w hk2 e1 e2
    have hb2 := hb hk2
    rw [e1]
    refine Rch.ia rfl rfl rfl (nI_add 43 b) (by omega) (by decide) ?_
    rw [h2 (43 + b) (by omega) (by omega), show 43 + b + 80 = 123 + b by omega]
    refine Rch.go rfl ?_
    rw [e2]
    refine Rch.i_ne rfl (fun z => ?_) (fun z => ?_)
    · rw [if_pos z]
      refine Rch.go rfl ?_
      exact Rch.ri rfl rfl rfl (by decide) (by decide) ⟨rfl, rfl⟩
    · rw [if_neg z]
      refine Rch.go rfl ?_
      exact Rch.ri rfl rfl rfl (by decide) (by decide) ⟨rfl, rfl⟩
  refine Rch.go rfl ?_
  match k, hk, hv with
  | 0, _, hv =>
    refine Rch.i_ge rfl (fun z => absurd (show (2 : Int32) ≤ nI 0 from z) (by decide)) (fun _ => ?_)
    refine Rch.go rfl ?_
    exact hv 1 (by decide) rfl (by decide)
  | 1, _, hv =>
    refine Rch.i_ge rfl (fun z => absurd (show (2 : Int32) ≤ nI 1 from z) (by decide)) (fun _ => ?_)
    refine Rch.go rfl ?_
    exact hv 0 (by decide) rfl (by decide)
  | 2, _, _ =>
    have e1 : rsn c 2 b = if opn c 5 = 0 then 2 else (if oI (tfi c (opn c 5)) = -1 then 3 else 0) := rfl
    rw [e1]
    refine Rch.i_ge rfl (fun _ => ?_) (fun z => absurd (show (2 : Int32) ≤ nI 2 by decide) z)
    refine Rch.go rfl ?_
    refine Rch.call 0 (t_X9_openTanks c K s L e h2) rfl rfl g_X9_44 om_X9_openTanks rfl (fun _ _ _ q => q) rfl rfl rfl rfl ⟨rfl, rfl⟩ ⟨by decide, by decide⟩ (fun _ _ q => by obtain ⟨_, rfl⟩ := q; first | with_reducible rfl | (rw [HP_len, HP_len]; done) | rw [HP_len, HP_len, uO_len, uO_len]) (fun rv9 h9 q9 => ?_)
    obtain ⟨rfl, rfl⟩ := q9
    refine Rch.z_ne rfl (fun z => ?_) (fun z => ?_)
    · rw [if_pos z]
      refine Rch.go rfl ?_
      exact Rch.ri rfl rfl rfl (by decide) (by decide) ⟨rfl, rfl⟩
    rw [if_neg z]
    refine Rch.go rfl ?_
    refine Rch.i_ne rfl (fun _ => ?_) (fun q => absurd rfl q)
    refine Rch.go rfl ?_
    refine Rch.call 0 (t_X9_canFill c K s L e h1 h2) rfl rfl g_X9_51 om_X9_canFill rfl (fun _ _ _ q => q) rfl rfl rfl rfl ⟨rfl, rfl⟩ ⟨by decide, by decide⟩ (fun _ _ q => by obtain ⟨_, rfl⟩ := q; first | with_reducible rfl | (rw [HP_len, HP_len]; done) | rw [HP_len, HP_len, uO_len, uO_len]) (fun rv9 h9 q9 => ?_)
    obtain ⟨rfl, rfl⟩ := q9
    refine Rch.z_ne rfl (fun w => ?_) (fun w => ?_)
    · rw [if_pos ((on9 (fun k hk => tfi_lt hk)).mp w)]
      refine Rch.go rfl ?_
      exact Rch.ri rfl rfl rfl (by decide) (by decide) ⟨rfl, rfl⟩
    · rw [if_neg (fun q => w ((on9 (fun k hk => tfi_lt hk)).mpr q))]
      refine Rch.go rfl ?_
      refine Rch.i_ne rfl (fun q => absurd (show nI 2 = 3 from q) (by decide)) (fun _ => ?_)
      refine Rch.go rfl ?_
      refine Rch.i_ne rfl (fun q => absurd (show nI 2 = 4 from q) (by decide)) (fun _ => ?_)
      refine Rch.go rfl ?_
      exact Rch.ri rfl rfl rfl (by decide) (by decide) ⟨rfl, rfl⟩
  | 3, _, _ =>
    have e1 : rsn c 3 b = if opn c 5 = 0 then 2 else (if oI (tem c (opn c 5)) = -1 then 4 else 0) := rfl
    rw [e1]
    refine Rch.i_ge rfl (fun _ => ?_) (fun z => absurd (show (2 : Int32) ≤ nI 3 by decide) z)
    refine Rch.go rfl ?_
    refine Rch.call 0 (t_X9_openTanks c K s L e h2) rfl rfl g_X9_44 om_X9_openTanks rfl (fun _ _ _ q => q) rfl rfl rfl rfl ⟨rfl, rfl⟩ ⟨by decide, by decide⟩ (fun _ _ q => by obtain ⟨_, rfl⟩ := q; first | with_reducible rfl | (rw [HP_len, HP_len]; done) | rw [HP_len, HP_len, uO_len, uO_len]) (fun rv9 h9 q9 => ?_)
    obtain ⟨rfl, rfl⟩ := q9
    refine Rch.z_ne rfl (fun z => ?_) (fun z => ?_)
    · rw [if_pos z]
      refine Rch.go rfl ?_
      exact Rch.ri rfl rfl rfl (by decide) (by decide) ⟨rfl, rfl⟩
    rw [if_neg z]
    refine Rch.go rfl ?_
    refine Rch.i_ne rfl (fun q => absurd (show nI 3 = 2 from q) (by decide)) (fun _ => ?_)
    refine Rch.go rfl ?_
    refine Rch.i_ne rfl (fun _ => ?_) (fun q => absurd rfl q)
    refine Rch.go rfl ?_
    refine Rch.call 0 (t_X9_canEmpty c K s L e h1 h2) rfl rfl g_X9_59 om_X9_canEmpty rfl (fun _ _ _ q => q) rfl rfl rfl rfl ⟨rfl, rfl⟩ ⟨by decide, by decide⟩ (fun _ _ q => by obtain ⟨_, rfl⟩ := q; first | with_reducible rfl | (rw [HP_len, HP_len]; done) | rw [HP_len, HP_len, uO_len, uO_len]) (fun rv9 h9 q9 => ?_)
    obtain ⟨rfl, rfl⟩ := q9
    refine Rch.z_ne rfl (fun w => ?_) (fun w => ?_)
    · rw [if_pos ((on9 (fun k hk => tem_lt hk)).mp w)]
      refine Rch.go rfl ?_
      exact Rch.ri rfl rfl rfl (by decide) (by decide) ⟨rfl, rfl⟩
    · rw [if_neg (fun q => w ((on9 (fun k hk => tem_lt hk)).mpr q))]
      refine Rch.go rfl ?_
      refine Rch.i_ne rfl (fun q => absurd (show nI 3 = 4 from q) (by decide)) (fun _ => ?_)
      refine Rch.go rfl ?_
      exact Rch.ri rfl rfl rfl (by decide) (by decide) ⟨rfl, rfl⟩
  | 4, _, _ =>
    have e1 : rsn c 4 b = if opn c 5 = 0 then 2 else (if oI (tlo c (opn c 5)) = -1 then 5 else 0) := rfl
    rw [e1]
    refine Rch.i_ge rfl (fun _ => ?_) (fun z => absurd (show (2 : Int32) ≤ nI 4 by decide) z)
    refine Rch.go rfl ?_
    refine Rch.call 0 (t_X9_openTanks c K s L e h2) rfl rfl g_X9_44 om_X9_openTanks rfl (fun _ _ _ q => q) rfl rfl rfl rfl ⟨rfl, rfl⟩ ⟨by decide, by decide⟩ (fun _ _ q => by obtain ⟨_, rfl⟩ := q; first | with_reducible rfl | (rw [HP_len, HP_len]; done) | rw [HP_len, HP_len, uO_len, uO_len]) (fun rv9 h9 q9 => ?_)
    obtain ⟨rfl, rfl⟩ := q9
    refine Rch.z_ne rfl (fun z => ?_) (fun z => ?_)
    · rw [if_pos z]
      refine Rch.go rfl ?_
      exact Rch.ri rfl rfl rfl (by decide) (by decide) ⟨rfl, rfl⟩
    rw [if_neg z]
    refine Rch.go rfl ?_
    refine Rch.i_ne rfl (fun q => absurd (show nI 4 = 2 from q) (by decide)) (fun _ => ?_)
    refine Rch.go rfl ?_
    refine Rch.i_ne rfl (fun q => absurd (show nI 4 = 3 from q) (by decide)) (fun _ => ?_)
    refine Rch.go rfl ?_
    refine Rch.i_ne rfl (fun _ => ?_) (fun q => absurd rfl q)
    refine Rch.go rfl ?_
    refine Rch.call 0 (t_X9_canLevel c K s L e h1 h2) rfl rfl g_X9_62 om_X9_canLevel rfl (fun _ _ _ q => q) rfl rfl rfl rfl ⟨rfl, rfl⟩ ⟨by decide, by decide⟩ (fun _ _ q => by obtain ⟨_, rfl⟩ := q; first | with_reducible rfl | (rw [HP_len, HP_len]; done) | rw [HP_len, HP_len, uO_len, uO_len]) (fun rv9 h9 q9 => ?_)
    obtain ⟨rfl, rfl⟩ := q9
    refine Rch.z_ne rfl (fun w => ?_) (fun w => ?_)
    · rw [if_pos ((on9 (fun k hk => tlo_lt hk)).mp w)]
      refine Rch.go rfl ?_
      exact Rch.ri rfl rfl rfl (by decide) (by decide) ⟨rfl, rfl⟩
    · rw [if_neg (fun q => w ((on9 (fun k hk => tlo_lt hk)).mpr q))]
      refine Rch.go rfl ?_
      exact Rch.ri rfl rfl rfl (by decide) (by decide) ⟨rfl, rfl⟩
theorem t_X9_workOne (c : FA) (K : FA × KS) (s : FA) (L : LS9) (e : AH) {B N : Nat} (h : RR 0 B (N + 1) c s) (hB : B < 2 ^ 27 + 20000) : Ct m_X9_workOne X0 [.ref 14] (HP K.1 K.2 s L e) (fun rv h9 => (wf c 160 - c 160 = 0 ∨ wf c 160 - c 160 = 1) ∧ rv = some (.int (wf c 160 - c 160)) ∧ ∃ s', RR 0 (B + 1080) N (wf c) s' ∧ h9 = HP K.1 K.2 s' L e) := by
  have h4 := h.2.2.2.1
  have hN := h4.1.2.1
  obtain ⟨k, b, e1, e2, e3, e4, e5, e6⟩ := h4.1.2.2 0 (by omega)
  obtain ⟨r, r1, r2⟩ := h.2.2.2.2.2.2.2.2.2.2
  have n1 : ix (c 155) = N + 1 := by rw [h4.1.1]; exact ix_nI (by omega)
  have n2 : ix (c 131) = k := by rw [show c 131 = nI k from e1]; exact ix_nI (by omega)
  have n3 : ix (c 143) = b := by rw [show c 143 = nI b from e2]; exact ix_nI (by omega)
  have n4 : ix (c 128) = r := by rw [r2]; exact ix_nI (by omega)
  have ew : wf c = wof c (N + 1) k b r := by unfold wf; rw [n1, if_neg (by omega), n2, n3, n4]
  have hs1 : s 59 = nI k := (h4.2.2 0 (by omega)).1.trans e1
  have hs2 : s 60 = nI b := (h4.2.2 0 (by omega)).2.trans e2
  have er : rsn (tko c (N + 1)) k b = rsn c k b := rsn_congr (fun j hj => tko_fx hN (Or.inl hj)) e4
  have h160 : tko c (N + 1) 160 = c 160 := tko_fx hN (Or.inr (by decide))
  have ht := h.off1
  rw [ew]
  refine ⟨ok_X9_workOne, ?_⟩
  refine Rch.go rfl ?_
  refine Rch.ia (j := 59) rfl rfl rfl rfl (by decide) (by decide) ?_
  rw [hs1]
  refine Rch.go rfl ?_
  refine Rch.ia (j := 60) rfl rfl rfl rfl (by decide) (by decide) ?_
  rw [hs2]
  refine Rch.go rfl ?_
  refine Rch.call 0 (t_X9_reason c K s L e h.1 h.2.1 e3 e4) rfl rfl g_X9_101 om_X9_reason rfl (fun _ _ _ q => q) rfl rfl rfl rfl ⟨rfl, rfl⟩ ⟨by decide, by decide⟩ (fun _ _ q => by obtain ⟨_, rfl⟩ := q; first | with_reducible rfl | (rw [HP_len, HP_len]; done) | rw [HP_len, HP_len, uO_len, uO_len]) (fun rv9 h9 q9 => ?_)
  obtain ⟨rfl, rfl⟩ := q9
  refine Rch.z_le rfl (fun z => ?_) (fun z => ?_)
  · have z := rsn_le z
    have ef : wof c (N + 1) k b r = if k < 2 then upd (tko c (N + 1)) (123 + b) (if k = 0 then 1 else 0) else mns (nI k) (opn (tko c (N + 1)) 5) r (tko c (N + 1)) b := if_pos (er.trans z)
    rw [ef]
    refine Rch.go rfl ?_
    refine Rch.call 0 (t_X9_strikeAt c K s L e (p := 0) rfl h4.2.1 (by omega) (by omega)) rfl rfl g_X9_98 om_X9_strikeAt rfl (fun _ _ _ q => q) rfl rfl rfl rfl ⟨rfl, rfl⟩ ⟨by decide, by decide⟩ (fun _ _ q => by obtain ⟨_, rfl⟩ := q; first | with_reducible rfl | (rw [HP_len, HP_len]; done) | rw [HP_len, HP_len, uO_len, uO_len]) (fun rv9 h9 q9 => ?_)
    obtain ⟨rfl, rfl⟩ := q9
    refine Rch.go rfl ?_
    refine Rch.z_eq rfl (fun _ => ?_) (fun q => absurd rfl q)
    refine Rch.go rfl ?_
    by_cases h2 : k < 2
    · rw [if_pos h2]
      have hb2 := e4 h2
      refine Rch.i_ge rfl (fun z => absurd ((nI_leI (a := 2) (by decide) (by omega)).mp z) (by omega)) (fun _ => ?_)
      refine Rch.go rfl ?_
      refine Rch.ias rfl rfl (nI_add 43 b) (by omega) (by decide) ?_
      refine Rch.go rfl ?_
      have e160 : upd (tko c (N + 1)) (123 + b) (if k = 0 then 1 else 0) 160 - c 160 = 0 := by rw [pk_un (by omega), h160, Int32.sub_self]
      rw [e160]
      have ev : (1 : Int32) - nI k = if k = 0 then 1 else 0 := by
        match k, h2 with
        | 0, _ => decide
        | 1, _ => decide
      have g := (ht.put2 (i := 43 + b) (if k = 0 then 1 else 0) (by omega) (ht.2.2.2.2.2.2.upd9 (by omega) (by omega) (by omega) (by omega) (by omega))).mono (B' := B + 1080) (by omega)
      rw [show 43 + b + 80 = 123 + b by omega] at g
      exact Rch.ri rfl rfl rfl (by decide) (by decide) (⟨Or.inl rfl, rfl, _, g, by rw [← ev]; rfl⟩)
    · rw [if_neg h2]
      refine Rch.i_ge rfl (fun _ => ?_) (fun q => absurd ((nI_leI (a := 2) (by decide) (by omega)).mpr (by omega)) q)
      refine Rch.go rfl ?_
      have e160 : mns (nI k) (opn (tko c (N + 1)) 5) r (tko c (N + 1)) b 160 - c 160 = 0 := by rw [mns_fx (Or.inr (Or.inr (Or.inr rfl))), h160, Int32.sub_self]
      rw [e160]
      have hr : tko c (N + 1) 128 = nI r := by rw [tko_fx hN (Or.inl (by decide))]; exact r2
      have hB2 := ht
      generalize tko c (N + 1) = d at ht hr ⊢
      refine Rch.forE b (fun i τ => ∃ s', RR 0 (B + 18 * i) N (mns (nI k) (opn d 5) r d i) s' ∧ τ = (80, [(0, .ref 14), (1, .int (nI k)), (2, .int (nI b)), (3, .int 0), (4, .int (nI i))], [.int (nI b), .int (nI i)], HP K.1 K.2 s' L e, 0, 0)) ?_ ?_ 0 (by omega) _ ⟨_, ht, rfl⟩
      · rintro i hi τ ⟨s', g, rfl⟩
        refine Rch.i_ge rfl (fun z => absurd z (lo_in hi (by omega))) (fun _ => ?_)
        refine Rch.go rfl ?_
        refine Rch.call 0 (t_X9_minute _ K s' L e (nI k) g ((mns_fx (by unfold fx; omega) i).trans hr) r1 (by omega)) rfl rfl g_X9_104 om_X9_minute rfl (fun _ _ _ q => q) rfl rfl rfl rfl ⟨rfl, rfl⟩ ⟨by decide, by decide⟩ (fun _ _ q => by first | (obtain ⟨_, _, _, rfl⟩ := q; rw [HP_len, HP_len]; done) | (obtain ⟨_, _, _, _, rfl⟩ := q; rw [HP_len, HP_len]; done)) (fun rv9 h9 q9 => ?_)
        obtain ⟨rfl, s2, g2, rfl⟩ := q9
        rw [opn_congr (c := d) (fun j h1 h2 => mns_fx (by unfold fx; omega) i) 5 (Nat.le_refl 5)] at g2
        refine Rch.go rfl (Rch.rf ⟨s2, g2, ?_⟩)
        rw [nI_1]
        rfl
      · rintro τ ⟨s', g, rfl⟩
        refine Rch.i_ge rfl (fun _ => ?_) (fun z => absurd (lo_out (by omega)) z)
        refine Rch.go rfl ?_
        exact Rch.ri rfl rfl rfl (by decide) (by decide) (⟨Or.inl rfl, rfl, _, g.mono (by omega), rfl⟩)
  · have z' : ¬ rsn (tko c (N + 1)) k b = 0 := fun q => z (by rw [← er, q]; exact Int32.le_refl _)
    have ef : wof c (N + 1) k b r = ad (tko c (N + 1)) 160 1 := if_neg z'
    rw [ef]
    have e160 : ad (tko c (N + 1)) 160 1 160 - c 160 = 1 := by unfold ad; rw [pk_us, h160, Int32.add_comm, Int32.add_sub_cancel]
    rw [e160]
    refine Rch.go rfl ?_
    refine Rch.call 0 (t_X9_strikeAt c K s L e (p := 0) rfl h4.2.1 (by omega) (by omega)) rfl rfl g_X9_98 om_X9_strikeAt rfl (fun _ _ _ q => q) rfl rfl rfl rfl ⟨rfl, rfl⟩ ⟨by decide, by decide⟩ (fun _ _ q => by obtain ⟨_, rfl⟩ := q; first | with_reducible rfl | (rw [HP_len, HP_len]; done) | rw [HP_len, HP_len, uO_len, uO_len]) (fun rv9 h9 q9 => ?_)
    obtain ⟨rfl, rfl⟩ := q9
    refine Rch.go rfl ?_
    refine Rch.z_eq rfl (fun q => absurd (show (1 : Int32) = 0 from q) (by decide)) (fun _ => ?_)
    refine Rch.go rfl ?_
    refine Rch.ia (j := 56) rfl rfl rfl rfl (by decide) (by decide) ?_
    refine Rch.go rfl ?_
    refine Rch.ias (j := 56) rfl rfl rfl (by decide) (by decide) ?_
    refine Rch.go rfl ?_
    exact Rch.ri rfl rfl rfl (by decide) (by decide) (⟨Or.inr rfl, rfl, _, (ht.c56 1).mono (by omega), rfl⟩)
theorem t_X9_work (c : FA) (K : FA × KS) (s bf kp : FA) (ik : Int32) (tx : FA) (ty : Int32) (F : F4) (e : AH) {q : Nat} (hq : q ≤ 4) {B N : Nat} (h : RR 0 B N c s) (hB : B < 2 ^ 27) (o : Int32) : Ct m_X9_work X0 [.ref 14, .int o] (HP K.1 K.2 s (bf, nI q, kp, ik, tx, ty, F) e) (RA K s bf kp ik tx ty e q B (wrk c o)) := by
  have h4 := h.2.2.2.1
  have hN := h4.1.2.1
  refine ⟨ok_X9_work, ?_⟩
  refine Rch.go rfl ?_
  refine Rch.call 1 (t_X9_in _ _ _ _) rfl rfl g_X9_22 om_X9_in rfl (fun _ _ _ q => q) rfl rfl rfl rfl ⟨rfl, rfl⟩ ⟨by decide, by decide⟩ (fun _ _ q => by obtain ⟨_, rfl⟩ := q; first | with_reducible rfl | (rw [HP_len, HP_len]; done) | rw [HP_len, HP_len, uO_len, uO_len]) (fun rv9 h9 q9 => ?_)
  obtain ⟨rfl, rfl⟩ := q9
  refine Rch.z_ne rfl (fun z => ?_) (fun z => ?_)
  · rw [show wrk c o = _ from if_pos (i0 z)]
    refine Rch.go rfl ?_
    exact Rch.ri rfl rfl rfl (by decide) (by decide) ⟨rfl, F, Or.inl ⟨rfl, rfl⟩⟩
  have w := i1 z
  obtain ⟨j, hj, rfl⟩ := rng (n := 12) rfl (by decide) ⟨Int32.le_trans (by decide) w.1, w.2⟩
  have ej : ix (nI j) = j := ix_nI (by omega)
  refine Rch.go rfl ?_
  refine Rch.ia (j := 58) rfl rfl rfl rfl (by decide) (by decide) ?_
  rw [h4.2.1, ← h4.1.1]
  refine Rch.z_ne rfl (fun z1 => ?_) (fun z1 => ?_)
  · rw [show wrk c (nI j) = (-1005, none) by unfold wrk; rw [if_neg (fun q => q w), if_pos z1]]
    refine Rch.go rfl ?_
    exact Rch.ri rfl rfl rfl (by decide) (by decide) ⟨rfl, F, Or.inl ⟨rfl, rfl⟩⟩
  rw [show wrk c (nI j) = _ by unfold wrk; rw [if_neg (fun q => q w), if_neg z1, ej]]
  refine Rch.go rfl ?_
  refine Rch.call 0 (t_X9_know K s bf (kp, ik, tx, ty, F) e hq) rfl rfl g_X9_79 om_X9_know rfl (fun _ _ _ q => q) rfl rfl rfl rfl ⟨rfl, rfl⟩ ⟨by decide, by decide⟩ (fun _ _ q => by obtain ⟨_, rfl⟩ := q; first | with_reducible rfl | (rw [HP_len, HP_len]; done) | rw [HP_len, HP_len, uO_len, uO_len]) (fun rv9 h9 q9 => ?_)
  obtain ⟨rfl, rfl⟩ := q9
  refine Rch.go rfl ?_
  have em : wfs c (min j N) = wfs c j := by
    by_cases q : j ≤ N
    · rw [Nat.min_eq_left q]
    · have := wfs_end h4.1 (j - N)
      rw [Nat.min_eq_right (by omega), ← this, show N + (j - N) = j by omega]
  refine Rch.forE (min j N) (fun i τ => ∃ s', RR 0 (B + 1080 * i) (N - i) (wfs c i) s' ∧ τ = (38, [(0, .ref 14), (1, .int (nI j)), (2, .int (wfs c i 160 - c 160)), (3, .int (nI i))], [.int (nI j), .int (nI i)], HP K.1 K.2 s' (knb s bf q, nI (kq q), kp, ik, tx, ty, F) e, 0, 0)) ?_ ?_ 0 (by omega) _ ⟨s, h, by rw [show wfs c 0 160 - c 160 = 0 from Int32.sub_self (c 160)]; rfl⟩
  · rintro i hi τ ⟨s', g, rfl⟩
    refine Rch.i_ge rfl (fun z => absurd z (lo_in (by omega) (by omega))) (fun _ => ?_)
    refine Rch.go rfl ?_
    refine Rch.ia (j := 58) rfl rfl rfl rfl (by decide) (by decide) ?_
    rw [g.2.2.2.1.2.1]
    refine Rch.z_le rfl (fun z => absurd ((nI_leI (b := 0) (by omega) (by decide)).mp z) (by omega)) (fun _ => ?_)
    refine Rch.go rfl ?_
    rw [show N - i = N - (i + 1) + 1 by omega] at g
    refine Rch.call 0 (t_X9_workOne _ K s' _ e g (by omega)) rfl rfl g_X9_107 om_X9_workOne rfl (fun _ _ _ q => q) rfl rfl rfl rfl ⟨rfl, rfl⟩ ⟨by decide, by decide⟩ (fun _ _ q => by first | (obtain ⟨_, _, _, rfl⟩ := q; rw [HP_len, HP_len]; done) | (obtain ⟨_, _, _, _, rfl⟩ := q; rw [HP_len, HP_len]; done)) (fun rv9 h9 q9 => ?_)
    obtain ⟨hd, rfl, s2, g2, rfl⟩ := q9
    have et : wfs c i 160 - c 160 + (wf (wfs c i) 160 - wfs c i 160) = wfs c (i + 1) 160 - c 160 := tel9 _ _ _
    have g3 : RR 0 (B + 1080 * (i + 1)) (N - (i + 1)) (wfs c (i + 1)) s2 := g2.mono (by omega)
    rw [← et]
    rcases hd with hd | hd
    · rw [hd]
      refine Rch.z_eq rfl (fun _ => ?_) (fun q => absurd rfl q)
      refine Rch.go rfl (Rch.rf ⟨s2, g3, ?_⟩)
      rw [nI_1]
      rfl
    · rw [hd]
      refine Rch.z_eq rfl (fun q => absurd (show (1 : Int32) = 0 from q) (by decide)) (fun _ => ?_)
      refine Rch.go rfl (Rch.rf ⟨s2, g3, ?_⟩)
      rw [nI_1]
      rfl
  · rintro τ ⟨s', g, rfl⟩
    rw [em] at g ⊢
    have g9 := g.mono (B' := B + 13000) (by omega)
    by_cases q : j ≤ N
    · rw [Nat.min_eq_left q]
      refine Rch.i_ge rfl (fun _ => ?_) (fun z => absurd (lo_out (by omega)) z)
      refine Rch.go rfl ?_
      exact Rch.ri rfl rfl rfl (by decide) (by decide) ⟨rfl, F, Or.inr ⟨_, _, _, rfl, g9, rfl⟩⟩
    · rw [Nat.min_eq_right (by omega)] at g ⊢
      refine Rch.i_ge rfl (fun z => absurd z (lo_in (by omega) (by omega))) (fun _ => ?_)
      refine Rch.go rfl ?_
      refine Rch.ia (j := 58) rfl rfl rfl rfl (by decide) (by decide) ?_
      rw [g.2.2.2.1.2.1, Nat.sub_self]
      refine Rch.z_le rfl (fun _ => ?_) (fun z => absurd (by decide) z)
      refine Rch.go rfl ?_
      exact Rch.ri rfl rfl rfl (by decide) (by decide) ⟨rfl, F, Or.inr ⟨_, _, _, rfl, g9, rfl⟩⟩
theorem t_X9_pass (c : FA) (K : FA × KS) (s bf kp : FA) (ik : Int32) (tx : FA) (ty : Int32) (F : F4) (e : AH) {q : Nat} (hq : q ≤ 4) {B N : Nat} (h : RR 0 B N c s) (hB : B < 2 ^ 27) (m : Int32) {R : Nat} (hR : c 128 = nI R) (hR2 : R ≤ 9) : Ct m_X9_pass X0 [.ref 14, .int m] (HP K.1 K.2 s (bf, nI q, kp, ik, tx, ty, F) e) (RA K s bf kp ik tx ty e q B (pas c m R)) := by
  refine ⟨ok_X9_pass, ?_⟩
  refine Rch.go rfl ?_
  refine Rch.call 1 (t_X9_in _ _ _ _) rfl rfl g_X9_22 om_X9_in rfl (fun _ _ _ q => q) rfl rfl rfl rfl ⟨rfl, rfl⟩ ⟨by decide, by decide⟩ (fun _ _ q => by obtain ⟨_, rfl⟩ := q; first | with_reducible rfl | (rw [HP_len, HP_len]; done) | rw [HP_len, HP_len, uO_len, uO_len]) (fun rv9 h9 q9 => ?_)
  obtain ⟨rfl, rfl⟩ := q9
  refine Rch.z_ne rfl (fun z => ?_) (fun z => ?_)
  · rw [show pas c m R = _ from if_pos (i0 z)]
    refine Rch.go rfl ?_
    exact Rch.ri rfl rfl rfl (by decide) (by decide) ⟨rfl, F, Or.inl ⟨rfl, rfl⟩⟩
  have w := i1 z
  obtain ⟨j, hj, rfl⟩ := rng (n := 200) rfl (by decide) ⟨Int32.le_trans (by decide) w.1, w.2⟩
  have ej : ix (nI j) = j := ix_nI (by omega)
  rw [show pas c (nI j) R = _ by unfold pas; rw [if_neg (fun q => q w), ej]]
  refine Rch.go rfl ?_
  refine Rch.call 0 (t_X9_know K s bf (kp, ik, tx, ty, F) e hq) rfl rfl g_X9_79 om_X9_know rfl (fun _ _ _ q => q) rfl rfl rfl rfl ⟨rfl, rfl⟩ ⟨by decide, by decide⟩ (fun _ _ q => by obtain ⟨_, rfl⟩ := q; first | with_reducible rfl | (rw [HP_len, HP_len]; done) | rw [HP_len, HP_len, uO_len, uO_len]) (fun rv9 h9 q9 => ?_)
  obtain ⟨rfl, rfl⟩ := q9
  rw [mns_off]
  refine Rch.go rfl ?_
  refine Rch.forE j (fun i τ => ∃ s', RR 0 (B + 18 * i) N (mns 0 (opn c 5) R c i) s' ∧ τ = (23, [(0, .ref 14), (1, .int (nI j)), (2, .int (nI i))], [.int (nI j), .int (nI i)], HP K.1 K.2 s' (knb s bf q, nI (kq q), kp, ik, tx, ty, F) e, 0, 0)) ?_ ?_ 0 (by omega) _ ⟨s, h, rfl⟩
  · rintro i hi τ ⟨s', g, rfl⟩
    refine Rch.i_ge rfl (fun z => absurd z (lo_in hi (by omega))) (fun _ => ?_)
    refine Rch.go rfl ?_
    refine Rch.call 0 (t_X9_minute _ K s' _ e 0 g ((mns_fx (by unfold fx; omega) i).trans hR) hR2 (by omega)) rfl rfl g_X9_104 om_X9_minute rfl (fun _ _ _ q => q) rfl rfl rfl rfl ⟨rfl, rfl⟩ ⟨by decide, by decide⟩ (fun _ _ q => by first | (obtain ⟨_, _, _, rfl⟩ := q; rw [HP_len, HP_len]; done) | (obtain ⟨_, _, _, _, rfl⟩ := q; rw [HP_len, HP_len]; done)) (fun rv9 h9 q9 => ?_)
    obtain ⟨rfl, s2, g2, rfl⟩ := q9
    rw [opn_congr (c := c) (fun j h1 h2 => mns_fx (by unfold fx; omega) i) 5 (Nat.le_refl 5)] at g2
    refine Rch.go rfl (Rch.rf ⟨s2, g2, ?_⟩)
    rw [nI_1]
    rfl
  · rintro τ ⟨s', g, rfl⟩
    refine Rch.i_ge rfl (fun _ => ?_) (fun z => absurd (lo_out (by omega)) z)
    refine Rch.go rfl ?_
    refine Rch.call 0 (t_X9_list _ K s' _ e g.1 g.2.1 g.2.2.2.2.2.2) rfl rfl g_X9_69 om_X9_list rfl (fun _ _ _ q => q) rfl rfl rfl rfl ⟨rfl, rfl⟩ ⟨by decide, by decide⟩ (fun _ _ q => by obtain ⟨_, rfl⟩ := q; first | with_reducible rfl | (rw [HP_len, HP_len]; done) | rw [HP_len, HP_len, uO_len, uO_len]) (fun rv9 h9 q9 => ?_)
    obtain ⟨rfl, rfl⟩ := q9
    exact Rch.ri rfl rfl rfl (by decide) (by decide) ⟨rfl, F, Or.inr ⟨_, _, _, rfl, (g.mono (by omega)), rfl⟩⟩
end MF
