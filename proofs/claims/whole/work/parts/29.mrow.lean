/-! ===== the reference's row of orders ===== -/
theorem Rch.forE {M : MI} {X : AX} {Ψ : AS → Prop} (N : Nat) (I : Nat → AS → Prop) (step : ∀ n, n < N → ∀ τ, I n τ → Rch M X τ (I (n + 1))) (k : ∀ τ, I N τ → Rch M X τ Ψ) : ∀ n, n ≤ N → ∀ τ, I n τ → Rch M X τ Ψ := by
  intro n hn
  obtain ⟨d, hd⟩ : ∃ d, N = n + d := ⟨N - n, by omega⟩
  induction d generalizing n with
  | zero =>
    obtain rfl : N = n := by omega
    exact k
  | succ d ih => exact fun τ hτ => (step n (by omega) τ hτ).tr (fun τ' h' => ih (n + 1) (by omega) (by omega) τ' h')
theorem RR.row {d : Int32} {B N N' : Nat} {c s c' s' : FA} (h : RR d B N c s) (hc : ∀ j, j < 131 ∨ 155 < j → c' j = c j) (hs : ∀ i, i < 58 ∨ 82 < i → s' i = s i) (h4 : R4 c' s' N') : RR d B N' c' s' := by
  obtain ⟨h1, h2, ⟨g1, g2, g3, g4, g5, g6, g7⟩, -, h5, h6, h7⟩ := h
  refine ⟨fun i hi => by rw [hs _ (by omega), hc _ (by omega)]; exact h1 i hi, fun i hi hi2 => by rw [hs _ (by omega), hc _ (by omega)]; exact h2 i hi hi2, ⟨by rw [hs _ (by omega), hc _ (by omega)]; exact g1, by rw [hs _ (by omega), hc _ (by omega)]; exact g2, by rw [hs _ (by omega), hc _ (by omega)]; exact g3, by rw [hs _ (by omega), g4]; exact (lostS_congr fun t ht => hc _ (by omega)).symm, by rw [hs _ (by omega), hc _ (by omega)]; exact g5, by rw [hs _ (by omega), hc _ (by omega)]; exact g6, by rw [hs _ (by omega), hc _ (by omega)]; exact g7⟩, h4, fun t ht => ⟨by rw [hs _ (by omega), hc _ (by omega)]; exact (h5 t ht).1, fun b hb => ⟨by rw [hs _ (by omega), hc _ (by omega)]; exact ((h5 t ht).2 b hb).1, by rw [hs _ (by omega), hc _ (by omega)]; exact ((h5 t ht).2 b hb).2⟩⟩, fun t ht => by rw [hs _ (by omega), hs _ (by omega), hc _ (by omega), hc _ (by omega), hc _ (by omega), hc _ (by omega)]; exact h6 t ht, fun t ht => by rw [hc _ (by omega)]; exact h7.1 t ht, fun t ht => by rw [hc _ (by omega)]; exact h7.2.1 t ht, fun t ht => by rw [hc _ (by omega)]; exact h7.2.2.1 t ht, fun t ht => by rw [hc _ (by omega)]; exact h7.2.2.2.1 t ht, by rw [hc _ (by omega)]; exact h7.2.2.2.2⟩
theorem i59 (N : Nat) : (59 : Int32) + 2 * nI N = nI (59 + 2 * N) := by
  rw [show (2 : Int32) * nI N = nI 2 * nI N from rfl, nI_mul]
  exact nI_add 59 _
theorem i60 (N : Nat) : (59 : Int32) + 2 * nI N + 1 = nI (59 + 2 * N + 1) := by rw [i59, nI_1]
def wts (s : FA) (N : Nat) (k b : Int32) : FA := upd (upd (upd s (59 + 2 * N) k) (59 + 2 * N + 1) b) 58 (nI N + 1)
theorem R4.wait {c s : FA} {N : Nat} {k b : Int32} (h : R4 c s N) (hN : N < 12) (hg : ∃ k' b' : Nat, k = nI k' ∧ b = nI b' ∧ k' < 5 ∧ (k' < 2 → b' < 5) ∧ (2 ≤ k' → 1 ≤ b') ∧ b' ≤ 60) : R4 (upd (pat c N k b) 155 (nI N + 1)) (wts s N k b) (N + 1) := by
  obtain ⟨⟨h1, h2, h3⟩, h4, h5⟩ := h
  unfold pat
  have a1 : ∀ p, p < N → upd (upd (upd c (131 + N) k) (143 + N) b) 155 (nI N + 1) (131 + p) = c (131 + p) := fun p hp => by rw [pk_un (by omega), pk_un (by omega), pk_un (by omega)]
  have a2 : ∀ p, p < N → upd (upd (upd c (131 + N) k) (143 + N) b) 155 (nI N + 1) (143 + p) = c (143 + p) := fun p hp => by rw [pk_un (by omega), pk_un (by omega), pk_un (by omega)]
  have a3 : upd (upd (upd c (131 + N) k) (143 + N) b) 155 (nI N + 1) (131 + N) = k := by rw [pk_un (by omega), pk_un (by omega), pk_us]
  have a4 : upd (upd (upd c (131 + N) k) (143 + N) b) 155 (nI N + 1) (143 + N) = b := by rw [pk_un (by omega), pk_us]
  refine ⟨⟨by rw [pk_us, nI_1], by omega, fun p hp => ?_⟩, by unfold wts; rw [pk_us, nI_1], fun p hp => ?_⟩
  · by_cases e : p = N
    · subst e; rw [a3, a4]; exact hg
    · rw [a1 p (by omega), a2 p (by omega)]; exact h3 p (by omega)
  · unfold wts
    by_cases e : p = N
    · subst e; rw [a3, a4]
      exact ⟨by rw [pk_un (by omega), pk_un (by omega), pk_us], by rw [pk_un (by omega), pk_us]⟩
    · rw [a1 p (by omega), a2 p (by omega), pk_un (by omega), pk_un (by omega), pk_un (by omega), pk_un (by omega), pk_un (by omega), pk_un (by omega)]
      exact h5 p (by omega)
theorem RR.wait {d : Int32} {B N : Nat} {c s : FA} {k b : Int32} (h : RR d B N c s) (hN : N < 12) (hg : ∃ k' b' : Nat, k = nI k' ∧ b = nI b' ∧ k' < 5 ∧ (k' < 2 → b' < 5) ∧ (2 ≤ k' → 1 ≤ b') ∧ b' ≤ 60) : RR d B (N + 1) (upd (pat c N k b) 155 (nI N + 1)) (wts s N k b) := by
  refine h.row (fun j hj => ?_) (fun i hi => ?_) (h.2.2.2.1.wait hN hg)
  · unfold pat; rw [pk_un (by omega), pk_un (by omega), pk_un (by omega)]
  · unfold wts; rw [pk_un (by omega), pk_un (by omega), pk_un (by omega)]
def sAm (s : FA) (N p m : Nat) : FA := fun i => if i = 58 then nI N else if 59 + 2 * p ≤ i ∧ i < 59 + 2 * p + m then s (i + 2) else s i
theorem sAm_s (s : FA) (N p m : Nat) : upd (sAm s N p m) (59 + (2 * p + m)) (s (59 + (2 * p + m) + 2)) = sAm s N p (m + 1) := by
  funext i
  by_cases e : i = 59 + (2 * p + m)
  · subst e
    rw [pk_us]
    unfold sAm
    rw [if_neg (by omega), if_pos (by omega)]
  · rw [pk_un e]
    unfold sAm
    by_cases g : i = 58
    · rw [if_pos g, if_pos g]
    · rw [if_neg g, if_neg g]
      by_cases g2 : 59 + 2 * p ≤ i ∧ i < 59 + 2 * p + m
      · rw [if_pos g2, if_pos (by omega)]
      · rw [if_neg g2, if_neg (by omega)]
theorem sAm_0 {s : FA} (N p : Nat) : upd s 58 (nI N) = sAm s N p 0 := by
  funext i
  unfold sAm upd
  by_cases e : i = 58
  · rw [if_pos e, if_pos e]
  · rw [if_neg e, if_neg e, if_neg (by omega)]
def sAt (s : FA) (N p : Nat) : FA := sAm s N p (2 * N - 2 * p)
section MD
theorem t_X9_waits (c : FA) (K : FA × KS) (s : FA) (L : LS9) (e : AH) {N : Nat} (k b : Int32) (hN : s 58 = nI N) (h12 : N < 12) : Ct m_X9_waits X0 [.ref 14, .int k, .int b] (HP K.1 K.2 s L e) (fun rv h => rv = some (.int (nI N + 1)) ∧ h = HP K.1 K.2 (wts s N k b) L e) := by
  have e1 : upd s (59 + 2 * N) k 58 = nI N := by rw [pk_un (by omega)]; exact hN
  have e2 : upd (upd s (59 + 2 * N) k) (59 + 2 * N + 1) b 58 = nI N := by rw [pk_un (by omega)]; exact e1
  refine ⟨ok_X9_waits, ?_⟩
  refine Rch.go rfl ?_
  refine Rch.ia (j := 58) rfl rfl rfl rfl (by decide) (by decide) ?_
  rw [hN]
  refine Rch.go rfl ?_
  refine Rch.ias rfl rfl (i59 N) (by omega) (by decide) ?_
  refine Rch.go rfl ?_
  refine Rch.ia (j := 58) rfl rfl rfl rfl (by decide) (by decide) ?_
  rw [e1]
  refine Rch.go rfl ?_
  refine Rch.ias rfl rfl (i60 N) (by omega) (by decide) ?_
  refine Rch.go rfl ?_
  refine Rch.ia (j := 58) rfl rfl rfl rfl (by decide) (by decide) ?_
  rw [e2]
  refine Rch.go rfl ?_
  refine Rch.ias (j := 58) rfl rfl rfl (by decide) (by decide) ?_
  refine Rch.go rfl ?_
  refine Rch.ia (j := 58) rfl rfl rfl rfl (by decide) (by decide) ?_
  refine Rch.go rfl ?_
  rw [pk_us]
  exact Rch.ri rfl rfl rfl (by decide) (by decide) ⟨rfl, rfl⟩
theorem t_X9_strikeAt (c : FA) (K : FA × KS) (s : FA) (L : LS9) (e : AH) {i : Int32} {N p : Nat} (hi : i = nI p) (hN : s 58 = nI (N + 1)) (hp : p ≤ N) (h12 : N < 12) : Ct m_X9_strikeAt X0 [.ref 14, .int i] (HP K.1 K.2 s L e) (fun rv h => rv = none ∧ h = HP K.1 K.2 (sAt s N p) L e) := by
  subst hi
  refine ⟨ok_X9_strikeAt, ?_⟩
  refine Rch.go rfl ?_
  refine Rch.ia (j := 58) rfl rfl rfl rfl (by decide) (by decide) ?_
  rw [hN]
  refine Rch.go rfl ?_
  refine Rch.ias (j := 58) rfl rfl rfl (by decide) (by decide) ?_
  rw [show nI (N + 1) - 1 = nI N from nI_pred N, sAm_0 N p]
  have e2 : (2 : Int32) * nI p = nI (2 * p) := by rw [show (2 : Int32) * nI p = nI 2 * nI p from rfl, nI_mul]
  have e3 : (2 : Int32) * nI N = nI (2 * N) := by rw [show (2 : Int32) * nI N = nI 2 * nI N from rfl, nI_mul]
  refine Rch.go rfl ?_
  rw [e2]
  refine Rch.for (2 * N - 2 * p) (fun m => (23, [(0, .ref 14), (1, .int (nI p)), (2, .int (nI (2 * p + m)))], [.int 58, .ref 15, .int 2, .int (nI (2 * p + m))], HP K.1 K.2 (sAm s N p m) L e, 0, 0)) (fun m hm => ?_) ?_ 0 (by omega)
  · refine Rch.ia (j := 58) rfl rfl rfl rfl (by decide) (by decide) ?_
    rw [show sAm s N p m 58 = nI N from if_pos rfl]
    refine Rch.go rfl ?_
    rw [e3]
    refine Rch.i_ge rfl (fun z => absurd z (lo_in (by omega) (by omega))) (fun _ => ?_)
    refine Rch.go rfl ?_
    refine Rch.ia rfl rfl rfl ((show 59 + nI (2 * p + m) + 2 = nI (59 + (2 * p + m) + 2) by rw [show (59 : Int32) + nI (2 * p + m) = nI (59 + (2 * p + m)) from nI_add 59 _]; exact nI_add _ 2)) (by omega) (by decide) ?_
    refine Rch.ias rfl rfl (nI_add 59 (2 * p + m)) (by omega) (by decide) ?_
    refine Rch.go rfl (Rch.rf ?_)
    rw [nI_1, ← sAm_s, show s (59 + (2 * p + m) + 2) = sAm s N p m (59 + (2 * p + m) + 2) by unfold sAm; rw [if_neg (by omega), if_neg (by omega)]]
    rfl
  · refine Rch.ia (j := 58) rfl rfl rfl rfl (by decide) (by decide) ?_
    rw [show sAm s N p (2 * N - 2 * p) 58 = nI N from if_pos rfl]
    refine Rch.go rfl ?_
    rw [e3, show 2 * p + (2 * N - 2 * p) = 2 * N by omega]
    refine Rch.i_ge rfl (fun _ => ?_) (fun z => absurd (lo_out (by omega)) z)
    exact Rch.rv rfl rfl (by decide) (by decide) ⟨rfl, rfl⟩
theorem rby_good {k b : Int32} (w : 0 ≤ k ∧ k ≤ 4) (hb : rby k b) : ∃ k' b' : Nat, k = nI k' ∧ b = nI b' ∧ k' < 5 ∧ (k' < 2 → b' < 5) ∧ (2 ≤ k' → 1 ≤ b') ∧ b' ≤ 60 := by
  obtain ⟨k', hk, rfl⟩ := rng (n := 4) rfl (by decide) w
  have ev : (nI k' = 0 ∨ nI k' = 1) ↔ k' < 2 := by
    rw [show (nI k' = 0) = (nI k' = nI 0) from rfl, show (nI k' = 1) = (nI k' = nI 1) from rfl, nI_eq (by omega) (by decide), nI_eq (by omega) (by decide)]
    omega
  unfold rby at hb
  by_cases h2 : k' < 2
  · rw [if_pos (ev.mpr h2)] at hb
    obtain ⟨b', hb', rfl⟩ := rng (n := 4) rfl (by decide) hb
    exact ⟨k', b', rfl, rfl, by omega, by omega, by omega, by omega⟩
  · rw [if_neg (fun q => h2 (ev.mp q))] at hb
    obtain ⟨b', hb', rfl⟩ := rng (n := 60) rfl (by decide) ⟨Int32.le_trans (by decide) hb.1, hb.2⟩
    have h1 : 1 ≤ b' := (nI_leI (by decide) (by omega)).mp (show nI 1 ≤ nI b' from hb.1)
    exact ⟨k', b', rfl, rfl, by omega, by omega, by omega, by omega⟩
theorem t_X9_order (c : FA) (K : FA × KS) (s bf kp : FA) (ik : Int32) (tx : FA) (ty : Int32) (F : F4) (e : AH) {q : Nat} (hq : q ≤ 4) {B N : Nat} (h : RR 0 B N c s) (hB : B < 2 ^ 27) (k b : Int32) : Ct m_X9_order X0 [.ref 14, .int k, .int b] (HP K.1 K.2 s (bf, nI q, kp, ik, tx, ty, F) e) (fun rv h9 => ((0 ≤ k ∧ k ≤ 4) ∧ rby k b → RA K s bf kp ik tx ty e q B (ord c k b N) rv h9) ∧ (¬ ((0 ≤ k ∧ k ≤ 4) ∧ rby k b) → RA K s bf kp ik tx ty e q B (-1002, none) rv h9)) := by
  have hN := h.2.2.2.1.1.2.1
  refine ⟨ok_X9_order, ?_⟩
  refine Rch.go rfl ?_
  refine Rch.call 1 (t_X9_in _ _ _ _) rfl rfl g_X9_22 om_X9_in rfl (fun _ _ _ q => q) rfl rfl rfl rfl ⟨rfl, rfl⟩ ⟨by decide, by decide⟩ (fun _ _ q => by obtain ⟨_, rfl⟩ := q; first | with_reducible rfl | (rw [HP_len, HP_len]; done) | rw [HP_len, HP_len, uO_len, uO_len]) (fun rv9 h9 q9 => ?_)
  obtain ⟨rfl, rfl⟩ := q9
  refine Rch.z_eq rfl (fun z => ?_) (fun z => ?_)
  · refine Rch.go rfl ?_
    exact Rch.ri rfl rfl rfl (by decide) (by decide) (⟨fun q => absurd q.1 (i0 z), fun _ => ⟨rfl, F, Or.inl ⟨rfl, rfl⟩⟩⟩)
  have w := i1 z
  have bad : ¬ rby k b → Rch m_X9_order X0 (34, [(0, .ref 14), (1, .int k), (2, .int b)], [], HP K.1 K.2 s (bf, nI q, kp, ik, tx, ty, F) e, 0, 0) (RetP m_X9_order (fun rv h9 => ((0 ≤ k ∧ k ≤ 4) ∧ rby k b → RA K s bf kp ik tx ty e q B (ord c k b N) rv h9) ∧ (¬ ((0 ≤ k ∧ k ≤ 4) ∧ rby k b) → RA K s bf kp ik tx ty e q B (-1002, none) rv h9))) := by
    intro hb
    refine Rch.go rfl ?_
    exact Rch.ri rfl rfl rfl (by decide) (by decide) (⟨fun q => absurd q.2 hb, fun _ => ⟨rfl, F, Or.inl ⟨rfl, rfl⟩⟩⟩)
  have good : rby k b → Rch m_X9_order X0 (38, [(0, .ref 14), (1, .int k), (2, .int b)], [], HP K.1 K.2 s (bf, nI q, kp, ik, tx, ty, F) e, 0, 0) (RetP m_X9_order (fun rv h9 => ((0 ≤ k ∧ k ≤ 4) ∧ rby k b → RA K s bf kp ik tx ty e q B (ord c k b N) rv h9) ∧ (¬ ((0 ≤ k ∧ k ≤ 4) ∧ rby k b) → RA K s bf kp ik tx ty e q B (-1002, none) rv h9))) := by
    intro hb
    refine Rch.go rfl ?_
    refine Rch.ia (j := 58) rfl rfl rfl rfl (by decide) (by decide) ?_
    rw [h.2.2.2.1.2.1]
    refine Rch.go rfl ?_
    refine Rch.i_ne rfl (fun z => ?_) (fun z => ?_)
    · have e12 : N = 12 := (nI_eq (by omega) (by decide)).mp (show nI N = nI 12 from z)
      refine Rch.go rfl ?_
      exact Rch.ri rfl rfl rfl (by decide) (by decide) (⟨fun _ => by rw [show ord c k b N = _ from if_pos (by omega)]; exact ⟨rfl, F, Or.inl ⟨rfl, rfl⟩⟩, fun q => absurd ⟨w, hb⟩ q⟩)
    · have e12 : N < 12 := by
        have : ¬ N = 12 := fun q => z ((nI_eq (a := N) (b := 12) (by omega) (by decide)).mpr q : nI N = nI 12)
        omega
      refine Rch.go rfl ?_
      refine Rch.call 0 (t_X9_know K s bf (kp, ik, tx, ty, F) e hq) rfl rfl g_X9_79 om_X9_know rfl (fun _ _ _ q => q) rfl rfl rfl rfl ⟨rfl, rfl⟩ ⟨by decide, by decide⟩ (fun _ _ q => by obtain ⟨_, rfl⟩ := q; first | with_reducible rfl | (rw [HP_len, HP_len]; done) | rw [HP_len, HP_len, uO_len, uO_len]) (fun rv9 h9 q9 => ?_)
      obtain ⟨rfl, rfl⟩ := q9
      refine Rch.go rfl ?_
      refine Rch.call 0 (t_X9_waits c K s _ e k b h.2.2.2.1.2.1 e12) rfl rfl g_X9_92 om_X9_waits rfl (fun _ _ _ q => q) rfl rfl rfl rfl ⟨rfl, rfl⟩ ⟨by decide, by decide⟩ (fun _ _ q => by obtain ⟨_, rfl⟩ := q; first | with_reducible rfl | (rw [HP_len, HP_len]; done) | rw [HP_len, HP_len, uO_len, uO_len]) (fun rv9 h9 q9 => ?_)
      obtain ⟨rfl, rfl⟩ := q9
      exact Rch.ri rfl rfl rfl (by decide) (by decide) (⟨fun _ => by rw [show ord c k b N = _ from if_neg (by omega)]; exact ⟨rfl, F, Or.inr ⟨_, _, _, rfl, (h.wait e12 (rby_good w hb)).mono (by omega), rfl⟩⟩, fun q => absurd ⟨w, hb⟩ q⟩)
  refine Rch.go rfl ?_
  refine Rch.i_ge rfl (fun z2 => ?_) (fun z2 => ?_)
  · have e2 : ¬ (k = 0 ∨ k = 1) := by
      rintro (rfl | rfl) <;> exact absurd z2 (by decide)
    have e1 : rby k b = (1 ≤ b ∧ b ≤ 60) := if_neg e2
    refine Rch.go rfl ?_
    refine Rch.call 1 (t_X9_in _ _ _ _) rfl rfl g_X9_22 om_X9_in rfl (fun _ _ _ q => q) rfl rfl rfl rfl ⟨rfl, rfl⟩ ⟨by decide, by decide⟩ (fun _ _ q => by obtain ⟨_, rfl⟩ := q; first | with_reducible rfl | (rw [HP_len, HP_len]; done) | rw [HP_len, HP_len, uO_len, uO_len]) (fun rv9 h9 q9 => ?_)
    obtain ⟨rfl, rfl⟩ := q9
    refine Rch.z_ne rfl (fun z3 => ?_) (fun z3 => ?_)
    · exact bad (by rw [e1]; exact i0 z3)
    · exact good (by rw [e1]; exact i1 z3)
  · have e2 : k = 0 ∨ k = 1 := by
      obtain ⟨j, hj, rfl⟩ := rng (n := 4) rfl (by decide) w
      have : j < 2 := Nat.not_le.mp (fun q => z2 ((nI_leI (by decide) (by omega)).mpr q : nI 2 ≤ nI j))
      match j, this with
      | 0, _ => exact Or.inl rfl
      | 1, _ => exact Or.inr rfl
    have e1 : rby k b = (0 ≤ b ∧ b ≤ 4) := if_pos e2
    refine Rch.go rfl ?_
    refine Rch.call 1 (t_X9_isGroup _ _) rfl rfl g_X9_89 om_X9_isGroup rfl (fun _ _ _ q => q) rfl rfl rfl rfl ⟨rfl, rfl⟩ ⟨by decide, by decide⟩ (fun _ _ q => by obtain ⟨_, rfl⟩ := q; first | with_reducible rfl | (rw [HP_len, HP_len]; done) | rw [HP_len, HP_len, uO_len, uO_len]) (fun rv9 h9 q9 => ?_)
    obtain ⟨rfl, rfl⟩ := q9
    refine Rch.z_ne rfl (fun z3 => ?_) (fun z3 => ?_)
    · refine Rch.st 1 rfl ?_
      exact bad (by rw [e1]; exact i0 z3)
    · exact good (by rw [e1]; exact i1 z3)
end MD
