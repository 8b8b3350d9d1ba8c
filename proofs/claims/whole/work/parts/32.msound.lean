/-! ===== the reference sounds a tank; what it knows, keeps, and types ===== -/
theorem RR.snd {d : Int32} {B N : Nat} {c s c' s' : FA} (h : RR d B N c s) (hc : ∀ j, j < 32 ∨ 112 ≤ j → c' j = c j) (hs : ∀ i, i < 24 ∨ (32 ≤ i ∧ i < 83) → s' i = s i) (h5 : R5 c' s') (h6 : R6 B c' s') : RR d B N c' s' := by
  obtain ⟨h1, h2, ⟨g1, g2, g3, g4, g5, g6, g7⟩, h4, -, -, h7⟩ := h
  have hN := h4.1.2.1
  refine ⟨fun i hi => by rw [hs _ (by omega), hc _ (by omega)]; exact h1 i hi, fun i hi hi2 => by rw [hs _ (by omega), hc _ (by omega)]; exact h2 i hi hi2, ⟨by rw [hs _ (by omega), hc _ (by omega)]; exact g1, by rw [hs _ (by omega), hc _ (by omega)]; exact g2, by rw [hs _ (by omega), hc _ (by omega)]; exact g3, by rw [hs _ (by omega), g4]; exact (lostS_congr fun t ht => hc _ (by omega)).symm, by rw [hs _ (by omega), hc _ (by omega)]; exact g5, by rw [hs _ (by omega), hc _ (by omega)]; exact g6, by rw [hs _ (by omega), hc _ (by omega)]; exact g7⟩, ⟨h4.1.congr fun j q1 q2 => hc j (by omega), by rw [hs _ (by omega)]; exact h4.2.1, fun p hp => by rw [hs _ (by omega), hs _ (by omega), hc _ (by omega), hc _ (by omega)]; exact h4.2.2 p hp⟩, h5, h6, fun t ht => by rw [hc _ (by omega)]; exact h7.1 t ht, fun t ht => by rw [hc _ (by omega)]; exact h7.2.1 t ht, fun t ht => by rw [hc _ (by omega)]; exact h7.2.2.1 t ht, fun t ht => by rw [hc _ (by omega)]; exact h7.2.2.2.1 t ht, by rw [hc _ (by omega)]; exact h7.2.2.2.2⟩
theorem RR.congr {d : Int32} {B N : Nat} {c s c' s' : FA} (h : RR d B N c s) (hc : ∀ j, j < 162 → c' j = c j) (hs : ∀ i, i < 163 → s' i = s i) : RR d B N c' s' := by
  obtain ⟨h1, h2, ⟨g1, g2, g3, g4, g5, g6, g7⟩, h4, h5, h6, h7⟩ := h
  have hN := h4.1.2.1
  refine ⟨fun i hi => by rw [hs _ (by omega), hc _ (by omega)]; exact h1 i hi, fun i hi hi2 => by rw [hs _ (by omega), hc _ (by omega)]; exact h2 i hi hi2, ⟨by rw [hs _ (by omega), hc _ (by omega)]; exact g1, by rw [hs _ (by omega), hc _ (by omega)]; exact g2, by rw [hs _ (by omega), hc _ (by omega)]; exact g3, by rw [hs _ (by omega), g4]; exact (lostS_congr fun t ht => hc _ (by omega)).symm, by rw [hs _ (by omega), hc _ (by omega)]; exact g5, by rw [hs _ (by omega), hc _ (by omega)]; exact g6, by rw [hs _ (by omega), hc _ (by omega)]; exact g7⟩, ⟨h4.1.congr fun j q1 q2 => hc j (by omega), by rw [hs _ (by omega)]; exact h4.2.1, fun p hp => by rw [hs _ (by omega), hs _ (by omega), hc _ (by omega), hc _ (by omega)]; exact h4.2.2 p hp⟩, fun t ht => ⟨by rw [hs _ (by omega), hc _ (by omega)]; exact (h5 t ht).1, fun b hb => ⟨by rw [hs _ (by omega), hc _ (by omega)]; exact ((h5 t ht).2 b hb).1, by rw [hs _ (by omega), hc _ (by omega)]; exact ((h5 t ht).2 b hb).2⟩⟩, fun t ht => by rw [hs _ (by omega), hs _ (by omega), hc _ (by omega), hc _ (by omega), hc _ (by omega), hc _ (by omega)]; exact h6 t ht, fun t ht => by rw [hc _ (by omega)]; exact h7.1 t ht, fun t ht => by rw [hc _ (by omega)]; exact h7.2.1 t ht, fun t ht => by rw [hc _ (by omega)]; exact h7.2.2.1 t ht, fun t ht => by rw [hc _ (by omega)]; exact h7.2.2.2.1 t ht, by rw [hc _ (by omega)]; exact h7.2.2.2.2⟩
theorem snd9_o {c : FA} {t j : Nat} (ht : t < 8) (hj : j < 32 ∨ 112 ≤ j ∨ (j ≠ 32 + t ∧ (j < 40 ∨ (∀ b, b < 3 → j ≠ 40 + (t * 3 + b) ∧ j ≠ 64 + (t * 3 + b) ∧ j ≠ 88 + (t * 3 + b))))) : snd9 c t j = c j := by
  have k : j ≠ 32 + t ∧ (∀ b, b < 3 → j ≠ 40 + (t * 3 + b) ∧ j ≠ 64 + (t * 3 + b) ∧ j ≠ 88 + (t * 3 + b)) := by
    rcases hj with q | q | ⟨q, q2 | q2⟩
    · exact ⟨by omega, fun b hb => by omega⟩
    · exact ⟨by omega, fun b hb => by omega⟩
    · exact ⟨by omega, fun b hb => by omega⟩
    · exact ⟨q, q2⟩
  obtain ⟨k0, k1⟩ := k
  obtain ⟨a1, a2, a3⟩ := k1 0 (by omega)
  obtain ⟨b1, b2, b3⟩ := k1 1 (by omega)
  obtain ⟨d1, d2, d3⟩ := k1 2 (by omega)
  simp (disch := omega) only [snd9, sn3, sn2, sn1, sq, pk_un]
theorem snd9_32 (c : FA) {t : Nat} (ht : t < 8) : snd9 c t (32 + t) = if 3 < c (32 + t) + 1 then 3 else c (32 + t) + 1 := by
  simp (disch := omega) only [snd9, sn3, sn2, sn1, sq, pk_un, pk_us]
theorem snd9_40 (c : FA) {t : Nat} (ht : t < 8) : snd9 c t (40 + (t * 3 + 0)) = c 156 ∧ snd9 c t (40 + (t * 3 + 1)) = c (40 + (t * 3 + 0)) ∧ snd9 c t (40 + (t * 3 + 2)) = c (40 + (t * 3 + 1)) := by
  refine ⟨?_, ?_, ?_⟩
  · simp (disch := omega) only [snd9, sn3, sn2, sn1, sq, pk_un, pk_us]
  · simp (disch := omega) only [snd9, sn3, sn2, sn1, sq, pk_un, pk_us]
  · simp (disch := omega) only [snd9, sn3, sn2, sn1, sq, pk_un, pk_us]
theorem snd9_64 (c : FA) {t : Nat} (ht : t < 8) : snd9 c t (64 + (t * 3 + 0)) = c t ∧ snd9 c t (64 + (t * 3 + 1)) = c (64 + (t * 3 + 0)) ∧ snd9 c t (64 + (t * 3 + 2)) = c (64 + (t * 3 + 1)) := by
  refine ⟨?_, ?_, ?_⟩
  · simp (disch := omega) only [snd9, sn3, sn2, sn1, sq, pk_un, pk_us]
  · simp (disch := omega) only [snd9, sn3, sn2, sn1, sq, pk_un, pk_us]
  · simp (disch := omega) only [snd9, sn3, sn2, sn1, sq, pk_un, pk_us]
theorem snd9_88 (c : FA) {t : Nat} (ht : t < 8) : snd9 c t (88 + (t * 3 + 0)) = c (24 + t) ∧ snd9 c t (88 + (t * 3 + 1)) = c (88 + (t * 3 + 0)) ∧ snd9 c t (88 + (t * 3 + 2)) = c (88 + (t * 3 + 1)) := by
  refine ⟨?_, ?_, ?_⟩
  · simp (disch := omega) only [snd9, sn3, sn2, sn1, sq, pk_un, pk_us]
  · simp (disch := omega) only [snd9, sn3, sn2, sn1, sq, pk_un, pk_us]
  · simp (disch := omega) only [snd9, sn3, sn2, sn1, sq, pk_un, pk_us]
def sdm (s : FA) (t m : Nat) : FA := fun i => if 93 + 10 * t ≤ i + m ∧ i < 93 + 10 * t then s (i - 3) else s i
theorem sdm_s (s : FA) {t m : Nat} (hm : m < 6) : upd (sdm s t m) (92 + 10 * t - m) (s (92 + 10 * t - m - 3)) = sdm s t (m + 1) := by
  funext i
  by_cases e : i = 92 + 10 * t - m
  · subst e
    rw [pk_us]
    unfold sdm
    rw [if_pos (by omega)]
  · rw [pk_un e]
    unfold sdm
    by_cases g : 93 + 10 * t ≤ i + m ∧ i < 93 + 10 * t
    · rw [if_pos g, if_pos (by omega)]
    · rw [if_neg g, if_neg (by omega)]
theorem sdm_0 (s : FA) (t : Nat) : sdm s t 0 = s := by
  funext i
  exact if_neg (by omega)
def sd1 (s : FA) (t : Nat) : FA := upd (upd (upd (upd (sdm s t 6) (84 + 10 * t) (s 51)) (84 + 10 * t + 1) (s t)) (84 + 10 * t + 2) (s (24 + t))) (24 + t) 0
def sdF (s : FA) (t : Nat) : FA := upd (sd1 s t) (83 + 10 * t) (s (83 + 10 * t) + if s (83 + 10 * t) < 3 then 1 else 0)
theorem sdm_o {s : FA} {t i : Nat} (h : i < 87 + 10 * t ∨ 93 + 10 * t ≤ i) : sdm s t 6 i = s i := if_neg (by omega)
theorem sdm_i {s : FA} {t i : Nat} (h : 87 + 10 * t ≤ i) (h2 : i < 93 + 10 * t) : sdm s t 6 i = s (i - 3) := if_pos (by omega)
theorem sdF_o {s : FA} {t i : Nat} (h : i < 83 + 10 * t ∨ 93 + 10 * t ≤ i) (h2 : i ≠ 24 + t) : sdF s t i = s i := by
  unfold sdF sd1
  rw [pk_un (by omega), pk_un (by omega), pk_un (by omega), pk_un (by omega), pk_un (by omega), sdm_o (by omega)]
theorem add3 {k : Nat} (hk : k ≤ 3) : nI k + (if nI k < 3 then 1 else 0) = (if 3 < nI k + 1 then 3 else nI k + 1) ∧ (if 3 < nI k + 1 then 3 else nI k + 1) = nI (if k < 3 then k + 1 else 3) := by
  match k, hk with
  | 0, _ => decide
  | 1, _ => decide
  | 2, _ => decide
  | 3, _ => decide
theorem RR.sound {B N : Nat} {c s : FA} (h : RR 0 B N c s) {t : Nat} (ht : t < 8) (hB : B < 2 ^ 30) : RR 0 B N (snd9 c t) (sdF s t) := by
  have h5 := h.2.2.2.2.1
  have h6 := h.2.2.2.2.2.1
  obtain ⟨k, p, p0, a1, a2, a3, a4, a5, a6, a7, a8⟩ := h6 t ht
  have e51 : s 51 = c 156 := by have := h.2.2.1.1; rwa [Int32.add_zero] at this
  have es : s (83 + 10 * t) = nI k := (h5 t ht).1.trans a2
  have f0 : sdF s t (83 + 10 * t) = snd9 c t (32 + t) := by
    rw [snd9_32 c ht, a2]
    unfold sdF
    rw [pk_us, es]
    exact (add3 a1).1
  have f1 : sdF s t (83 + 10 * t + 1) = s 51 := by
    unfold sdF sd1
    rw [pk_un (by omega), pk_un (by omega), pk_un (by omega), pk_un (by omega), show 83 + 10 * t + 1 = 84 + 10 * t by omega, pk_us]
  have f2 : sdF s t (83 + 10 * t + 1 + 1) = s t := by
    unfold sdF sd1
    rw [pk_un (by omega), pk_un (by omega), pk_un (by omega), show 83 + 10 * t + 1 + 1 = 84 + 10 * t + 1 by omega, pk_us]
  have f3 : sdF s t (83 + 10 * t + 3) = s (24 + t) := by
    unfold sdF sd1
    rw [pk_un (by omega), pk_un (by omega), show 83 + 10 * t + 3 = 84 + 10 * t + 2 by omega, pk_us]
  have f4 : ∀ x, 4 ≤ x → x < 10 → sdF s t (83 + 10 * t + x) = s (83 + 10 * t + (x - 3)) := by
    intro x h1 h2
    unfold sdF sd1
    rw [pk_un (by omega), pk_un (by omega), pk_un (by omega), pk_un (by omega), pk_un (by omega), sdm_i (by omega) (by omega), show 83 + 10 * t + x - 3 = 83 + 10 * t + (x - 3) by omega]
  have f5 : sdF s t (24 + t) = 0 := by
    unfold sdF sd1
    rw [pk_un (by omega), pk_us]
  refine h.snd (fun j hj => snd9_o ht (by omega)) (fun i hi => sdF_o (by omega) (by omega)) (fun t' ht' => ?_) (fun t' ht' => ?_)
  · by_cases e : t' = t
    · subst e
      refine ⟨f0, fun b hb => ?_⟩
      obtain ⟨u1, u2⟩ := (h5 t' ht').2 0 (by omega)
      obtain ⟨v1, v2⟩ := (h5 t' ht').2 1 (by omega)
      match b, hb with
      | 0, _ => exact ⟨by rw [(snd9_40 c ht).1, ← e51]; exact f1, by rw [(snd9_64 c ht).1, ← h.1 t' (by omega)]; exact f2⟩
      | 1, _ => exact ⟨by rw [(snd9_40 c ht).2.1, ← u1]; exact f4 4 (by omega) (by omega), by rw [(snd9_64 c ht).2.1, ← u2]; exact f4 5 (by omega) (by omega)⟩
      | 2, _ => exact ⟨by rw [(snd9_40 c ht).2.2, ← v1]; exact f4 7 (by omega) (by omega), by rw [(snd9_64 c ht).2.2, ← v2]; exact f4 8 (by omega) (by omega)⟩
    · refine ⟨by rw [sdF_o (by omega) (by omega), snd9_o ht (by omega)]; exact (h5 t' ht').1, fun b hb => ?_⟩
      rw [sdF_o (by omega) (by omega), sdF_o (by omega) (by omega), snd9_o ht (Or.inr (Or.inr ⟨by omega, Or.inr (fun b' hb' => by omega)⟩)), snd9_o ht (Or.inr (Or.inr ⟨by omega, Or.inr (fun b' hb' => by omega)⟩))]
      exact (h5 t' ht').2 b hb
  · by_cases e : t' = t
    · subst e
      have c24 : snd9 c t' (24 + t') = c (24 + t') := snd9_o ht (by omega)
      refine ⟨if k < 3 then k + 1 else 3, p, p, by split <;> omega, by rw [snd9_32 c ht, a2]; exact (add3 a1).2, a3, Nat.le_refl p, by rw [c24]; exact a5, by rw [(snd9_88 c ht).1]; exact a5, fun _ => ⟨fun _ => rfl, fun _ => f5⟩, fun hk => ?_⟩
      have hk1 : 1 ≤ k := by
        by_cases q : k < 3
        · rw [if_pos q] at hk; omega
        · omega
      rw [f3, (snd9_88 c ht).1, (snd9_88 c ht).2.1, a5, a6, a7 hk1]
      exact (nI_eq (by omega) (by omega)).symm
    · have g := h6 t' ht'
      rw [sdF_o (by omega) (by omega), sdF_o (by omega) (by omega), snd9_o ht (by omega), snd9_o ht (by omega), snd9_o ht (Or.inr (Or.inr ⟨by omega, Or.inr (fun b' hb' => by omega)⟩)), snd9_o ht (Or.inr (Or.inr ⟨by omega, Or.inr (fun b' hb' => by omega)⟩))]
      exact g
theorem i83 (t : Nat) : (83 : Int32) + 10 * nI t = nI (83 + 10 * t) := by
  rw [show (10 : Int32) * nI t = nI 10 * nI t from rfl, nI_mul]
  exact nI_add 83 _
theorem i84 (t x : Nat) : (83 : Int32) + 10 * nI t + 1 + nI x = nI (84 + 10 * t + x) := by
  rw [i83, nI_1, nI_add, show 83 + 10 * t + 1 + x = 84 + 10 * t + x by omega]
section MG
theorem t_X9_place (t b w : Nat) {i j k : Int32} (hi : i = nI t) (hj : j = nI b) (hk : k = nI w) (h0 : AH) : Ct m_X9_place X0 [.int i, .int j, .int k] h0 (fun rv h => rv = some (.int (nI (83 + 10 * t + 1 + 3 * b + w))) ∧ h = h0) := by
  subst hi hj hk
  refine ⟨ok_X9_place, ?_⟩
  refine Rch.go rfl ?_
  exact Rch.ri rfl rfl rfl (by decide) (by decide) ⟨by rw [i83, nI_1, show (3 : Int32) * nI b = nI 3 * nI b from rfl, nI_mul, nI_add, nI_add], rfl⟩
theorem t_X9_sound (c : FA) (K : FA × KS) (s bf kp : FA) (ik : Int32) (tx : FA) (ty : Int32) (F : F4) (e : AH) {q : Nat} (hq : q ≤ 4) {B N : Nat} (h : RR 0 B N c s) (hB : B < 2 ^ 27) (t : Int32) : Ct m_X9_sound X0 [.ref 14, .int t] (HP K.1 K.2 s (bf, nI q, kp, ik, tx, ty, F) e) (RA K s bf kp ik tx ty e q B (sou c t)) := by
  refine ⟨ok_X9_sound, ?_⟩
  refine Rch.go rfl ?_
  refine Rch.call 1 (t_X9_isTank _ _) rfl rfl g_X9_82 om_X9_isTank rfl (fun _ _ _ q => q) rfl rfl rfl rfl ⟨rfl, rfl⟩ ⟨by decide, by decide⟩ (fun _ _ q => by obtain ⟨_, rfl⟩ := q; first | with_reducible rfl | (rw [HP_len, HP_len]; done) | rw [HP_len, HP_len, uO_len, uO_len]) (fun rv9 h9 q9 => ?_)
  obtain ⟨rfl, rfl⟩ := q9
  refine Rch.z_ne rfl (fun z => ?_) (fun z => ?_)
  · rw [show sou c t = _ from if_pos (i0 z)]
    refine Rch.go rfl ?_
    exact Rch.ri rfl rfl rfl (by decide) (by decide) ⟨rfl, F, Or.inl ⟨rfl, rfl⟩⟩
  have w := i1 z
  obtain ⟨j, hj, rfl⟩ := rng (n := 7) rfl (by decide) w
  have ej : ix (nI j) = j := ix_nI (by omega)
  have ev : snd9 c j j = s j := by rw [snd9_o (by omega) (by omega)]; exact (h.1 j (by omega)).symm
  rw [show sou c (nI j) = (s j, some (snd9 c j)) by unfold sou; rw [if_neg (fun q => q w), ej, ev]]
  refine Rch.go rfl ?_
  refine Rch.call 0 (t_X9_know K s bf (kp, ik, tx, ty, F) e hq) rfl rfl g_X9_79 om_X9_know rfl (fun _ _ _ q => q) rfl rfl rfl rfl ⟨rfl, rfl⟩ ⟨by decide, by decide⟩ (fun _ _ q => by obtain ⟨_, rfl⟩ := q; first | with_reducible rfl | (rw [HP_len, HP_len]; done) | rw [HP_len, HP_len, uO_len, uO_len]) (fun rv9 h9 q9 => ?_)
  obtain ⟨rfl, rfl⟩ := q9
  refine Rch.go rfl ?_
  refine Rch.eq (τ := (20, [(0, .ref 14), (1, .int (nI j)), (2, .int 8)], [.int 3, .int 8], HP K.1 K.2 (sdm s j 0) (knb s bf q, nI (kq q), kp, ik, tx, ty, F) e, 0, 0)) (by rw [sdm_0]; rfl) ?_
  refine Rch.for 6 (fun m => (20, [(0, .ref 14), (1, .int (nI j)), (2, .int (nI (8 - m)))], [.int 3, .int (nI (8 - m))], HP K.1 K.2 (sdm s j m) (knb s bf q, nI (kq q), kp, ik, tx, ty, F) e, 0, 0)) (fun m hm => ?_) ?_ 0 (by omega)
  · refine Rch.i_lt rfl (fun z => absurd ((nI_ltI (b := 3) (by omega) (by decide)).mp z) (by omega)) (fun _ => ?_)
    refine Rch.go rfl ?_
    have e3 : (83 : Int32) + 10 * nI j + 1 + nI (8 - m) - 3 = nI (92 + 10 * j - m - 3) := by
      rw [i84, show nI (84 + 10 * j + (8 - m)) - 3 = nI (84 + 10 * j + (8 - m)) - nI 3 from rfl, nI_sub (by omega)]
      congr 1; omega
    refine Rch.ia rfl rfl rfl (e3) (by omega) (by decide) ?_
    refine Rch.ias rfl rfl (show _ = nI (92 + 10 * j - m) by rw [i84]; congr 1; omega) (by omega) (by decide) ?_
    refine Rch.go rfl (Rch.rf ?_)
    rw [← sdm_s s hm, show nI (8 - (m + 1)) = nI (8 - m) + -1 by rw [show 8 - m = 8 - (m + 1) + 1 by omega, ← Int32.sub_eq_add_neg, nI_pred], show s (92 + 10 * j - m - 3) = sdm s j m (92 + 10 * j - m - 3) from (if_neg (by omega)).symm]
    rfl
  · refine Rch.i_lt rfl (fun _ => ?_) (fun z => absurd (by decide) z)
    refine Rch.go rfl ?_
    refine Rch.call 1 (t_X9_place j 0 0 rfl rfl rfl _) rfl rfl g_X9_110 om_X9_place rfl (fun _ _ _ q => q) rfl rfl rfl rfl ⟨rfl, rfl⟩ ⟨by decide, by decide⟩ (fun _ _ q => by obtain ⟨_, rfl⟩ := q; first | with_reducible rfl | (rw [HP_len, HP_len]; done) | rw [HP_len, HP_len, uO_len, uO_len]) (fun rv9 h9 q9 => ?_)
    obtain ⟨rfl, rfl⟩ := q9
    refine Rch.go rfl ?_
    refine Rch.ia (j := 51) rfl rfl rfl rfl (by decide) (by decide) ?_
    refine Rch.ias rfl rfl (show _ = nI (84 + 10 * j) by congr 1; omega) (by omega) (by decide) ?_
    rw [sdm_o (i := 51) (by omega)]
    refine Rch.go rfl ?_
    refine Rch.call 1 (t_X9_place j 0 1 rfl rfl rfl _) rfl rfl g_X9_110 om_X9_place rfl (fun _ _ _ q => q) rfl rfl rfl rfl ⟨rfl, rfl⟩ ⟨by decide, by decide⟩ (fun _ _ q => by obtain ⟨_, rfl⟩ := q; first | with_reducible rfl | (rw [HP_len, HP_len]; done) | rw [HP_len, HP_len, uO_len, uO_len]) (fun rv9 h9 q9 => ?_)
    obtain ⟨rfl, rfl⟩ := q9
    refine Rch.go rfl ?_
    refine Rch.ia rfl rfl rfl (zadd j) (by omega) (by decide) ?_
    refine Rch.ias rfl rfl (show _ = nI (84 + 10 * j + 1) by congr 1; omega) (by omega) (by decide) ?_
    rw [pk_un (j := j) (by omega), sdm_o (i := j) (by omega)]
    refine Rch.go rfl ?_
    refine Rch.call 1 (t_X9_place j 0 2 rfl rfl rfl _) rfl rfl g_X9_110 om_X9_place rfl (fun _ _ _ q => q) rfl rfl rfl rfl ⟨rfl, rfl⟩ ⟨by decide, by decide⟩ (fun _ _ q => by obtain ⟨_, rfl⟩ := q; first | with_reducible rfl | (rw [HP_len, HP_len]; done) | rw [HP_len, HP_len, uO_len, uO_len]) (fun rv9 h9 q9 => ?_)
    obtain ⟨rfl, rfl⟩ := q9
    refine Rch.go rfl ?_
    refine Rch.ia rfl rfl rfl (nI_add 24 j) (by omega) (by decide) ?_
    refine Rch.ias rfl rfl (show _ = nI (84 + 10 * j + 2) by congr 1; omega) (by omega) (by decide) ?_
    rw [pk_un (j := 24 + j) (by omega), pk_un (j := 24 + j) (by omega), sdm_o (i := 24 + j) (by omega)]
    refine Rch.go rfl ?_
    refine Rch.ias rfl rfl (nI_add 24 j) (by omega) (by decide) ?_
    refine Rch.go rfl ?_
    have e83 : sd1 s j (83 + 10 * j) = s (83 + 10 * j) := by unfold sd1; rw [pk_un (by omega), pk_un (by omega), pk_un (by omega), pk_un (by omega), sdm_o (by omega)]
    have ej2 : sdF s j j = s j := sdF_o (by omega) (by omega)
    show Rch _ _ (142, _, _, HP K.1 K.2 (sd1 s j) (knb s bf q, nI (kq q), kp, ik, tx, ty, F) e, 0, 0) _
    refine Rch.ia rfl rfl rfl (i83 j) (by omega) (by decide) ?_
    refine Rch.go rfl ?_
    refine Rch.ia rfl rfl rfl (i83 j) (by omega) (by decide) ?_
    rw [e83]
    refine Rch.go rfl ?_
    refine Rch.i_ge rfl (fun z4 => ?_) (fun z4 => ?_)
    · refine Rch.go rfl ?_
      refine Rch.ias rfl rfl (i83 j) (by omega) (by decide) ?_
      refine Rch.eq (τ := (166, [(0, .ref 14), (1, .int (nI j)), (2, .int (nI (8 - 6)))], [], HP K.1 K.2 (sdF s j) (knb s bf q, nI (kq q), kp, ik, tx, ty, F) e, 0, 0)) (by unfold sdF; rw [if_neg (Int32.not_lt.mpr z4)]; rfl) ?_
      refine Rch.go rfl ?_
      refine Rch.ia rfl rfl rfl (zadd j) (by omega) (by decide) ?_
      rw [ej2]
      exact Rch.ri rfl rfl rfl (by decide) (by decide) ⟨rfl, F, Or.inr ⟨_, _, _, rfl, (h.sound (by omega) (by omega)).mono (by omega), rfl⟩⟩
    · refine Rch.go rfl ?_
      refine Rch.ias rfl rfl (i83 j) (by omega) (by decide) ?_
      refine Rch.eq (τ := (166, [(0, .ref 14), (1, .int (nI j)), (2, .int (nI (8 - 6)))], [], HP K.1 K.2 (sdF s j) (knb s bf q, nI (kq q), kp, ik, tx, ty, F) e, 0, 0)) (by unfold sdF; rw [if_pos (nle_lt z4)]; rfl) ?_
      refine Rch.go rfl ?_
      refine Rch.ia rfl rfl rfl (zadd j) (by omega) (by decide) ?_
      rw [ej2]
      exact Rch.ri rfl rfl rfl (by decide) (by decide) ⟨rfl, F, Or.inr ⟨_, _, _, rfl, (h.sound (by omega) (by omega)).mono (by omega), rfl⟩⟩
theorem t_X9_undo (K : FA × KS) (s bf : FA) (T : FA × Int32 × FA × Int32 × F4) (e : AH) {q : Nat} (hq : q ≤ 4) : Ct m_X9_undo X0 [.ref 14] (HP K.1 K.2 s (bf, nI q, T) e) (fun rv h => rv = some (.int (if q = 0 then -1005 else nI (q - 1))) ∧ h = HP K.1 K.2 (if q = 0 then s else cpf bf s (163 * (q - 1)) 0 163) (bf, nI (q - 1), T) e) := by
  refine ⟨ok_X9_undo, ?_⟩
  refine Rch.go rfl ?_
  by_cases h0 : q = 0
  · subst h0
    refine Rch.z_ne rfl (fun _ => ?_) (fun q => absurd rfl q)
    refine Rch.go rfl ?_
    exact Rch.ri rfl rfl rfl (by decide) (by decide) ⟨rfl, rfl⟩
  · rw [if_neg h0, if_neg h0]
    refine Rch.z_ne rfl (fun q9 => absurd q9 (nI_ne0 (by omega) (by omega))) (fun _ => ?_)
    refine Rch.st 6 rfl ?_
    have e1 : nI q - 1 = nI (q - 1) := nI_sub (b := 1) (by omega)
    have hp : q - 1 ≤ 3 := by omega
    generalize q - 1 = p at e1 hp ⊢
    refine Rch.eq (τ := (21, [(0, .ref 14)], [], HP K.1 K.2 s (bf, nI p, T) e, 0, 0)) (by rw [← e1]; rfl) ?_
    refine Rch.go rfl ?_
    refine Rch.eq (τ := (27, [(0, .ref 14), (1, .int 0)], [.int 163, .int 0], HP K.1 K.2 (cpf bf s (163 * p) 0 0) (bf, nI p, T) e, 0, 0)) (by rw [cpf_0]; rfl) ?_
    refine Rch.for 163 (fun n => (27, [(0, .ref 14), (1, .int (nI n))], [.int 163, .int (nI n)], HP K.1 K.2 (cpf bf s (163 * p) 0 n) (bf, nI p, T) e, 0, 0)) (fun n hn => ?_) ?_ 0 (by omega)
    · refine Rch.i_ge rfl (fun z => absurd z (lo_in hn (by decide))) (fun _ => ?_)
      refine Rch.go rfl ?_
      refine Rch.ia rfl rfl rfl ((show 163 * nI p + nI n = nI (163 * p + n) by rw [show (163 : Int32) * nI p = nI 163 * nI p from rfl, nI_mul, nI_add])) (by omega) (by decide) ?_
      refine Rch.ias rfl rfl (show nI n = nI (0 + n) by rw [Nat.zero_add]) (by omega) (by decide) ?_
      refine Rch.go rfl (Rch.rf ?_)
      rw [nI_1, ← cpf_s]
      rfl
    · refine Rch.i_ge rfl (fun _ => ?_) (fun z => absurd (lo_out (by decide)) z)
      refine Rch.go rfl ?_
      exact Rch.ri rfl rfl rfl (by decide) (by decide) ⟨rfl, rfl⟩
theorem t_X9_keep (K : FA × KS) (s bf kp : FA) (kn ik : Int32) (T : FA × Int32 × F4) (e : AH) : Ct m_X9_keep X0 [.ref 14] (HP K.1 K.2 s (bf, kn, kp, ik, T) e) (fun rv h => rv = some (.int (s 51)) ∧ h = HP K.1 K.2 s (bf, kn, cpf s kp 0 0 163, 1, T) e) := by
  refine ⟨ok_X9_keep, ?_⟩
  refine Rch.go rfl ?_
  have e0 : (bf, kn, kp, ik, T) = (bf, kn, cpf s kp 0 0 0, ik, T) := by rw [cpf_0]
  rw [e0]
  refine Rch.for 163 (fun n => (6, [(0, .ref 14), (1, .int (nI n))], [.int 163, .int (nI n)], HP K.1 K.2 s (bf, kn, cpf s kp 0 0 n, ik, T) e, 0, 0)) (fun n hn => ?_) ?_ 0 (by omega)
  · refine Rch.i_ge rfl (fun z => absurd z (lo_in hn (by decide))) (fun _ => ?_)
    refine Rch.go rfl ?_
    refine Rch.ia rfl rfl rfl (rfl) (by omega) (by decide) ?_
    refine Rch.ias rfl rfl (show nI n = nI (0 + n) by rw [Nat.zero_add]) (by omega) (by decide) ?_
    refine Rch.go rfl (Rch.rf ?_)
    rw [nI_1, ← cpf_s, Nat.zero_add]
    rfl
  · refine Rch.i_ge rfl (fun _ => ?_) (fun z => absurd (lo_out (by decide)) z)
    refine Rch.go rfl ?_
    refine Rch.ia (j := 51) rfl rfl rfl rfl (by decide) (by decide) ?_
    exact Rch.ri rfl rfl rfl (by decide) (by decide) ⟨rfl, rfl⟩
theorem t_X9_restore (K : FA × KS) (s bf kp : FA) (ik : Int32) (T : FA × Int32 × F4) (e : AH) {q : Nat} (hq : q ≤ 4) : Ct m_X9_restore X0 [.ref 14] (HP K.1 K.2 s (bf, nI q, kp, ik, T) e) (fun rv h => rv = some (.int (if ik = 0 then -1005 else cpf kp s 0 0 163 51)) ∧ h = if ik = 0 then HP K.1 K.2 s (bf, nI q, kp, ik, T) e else HP K.1 K.2 (cpf kp s 0 0 163) (knb s bf q, nI (kq q), kp, ik, T) e) := by
  refine ⟨ok_X9_restore, ?_⟩
  refine Rch.go rfl ?_
  by_cases h0 : ik = 0
  · rw [if_pos h0, if_pos h0]
    refine Rch.z_ne rfl (fun _ => ?_) (fun q => absurd h0 q)
    refine Rch.go rfl ?_
    exact Rch.ri rfl rfl rfl (by decide) (by decide) ⟨rfl, rfl⟩
  · rw [if_neg h0, if_neg h0]
    refine Rch.z_ne rfl (fun q9 => absurd q9 h0) (fun _ => ?_)
    refine Rch.go rfl ?_
    refine Rch.call 0 (t_X9_know K s bf (kp, ik, T) e hq) rfl rfl g_X9_79 om_X9_know rfl (fun _ _ _ q => q) rfl rfl rfl rfl ⟨rfl, rfl⟩ ⟨by decide, by decide⟩ (fun _ _ q => by obtain ⟨_, rfl⟩ := q; first | with_reducible rfl | (rw [HP_len, HP_len]; done) | rw [HP_len, HP_len, uO_len, uO_len]) (fun rv9 h9 q9 => ?_)
    obtain ⟨rfl, rfl⟩ := q9
    refine Rch.go rfl ?_
    generalize knb s bf q = bf2
    refine Rch.eq (τ := (21, [(0, .ref 14), (1, .int 0)], [.int 163, .int 0], HP K.1 K.2 (cpf kp s 0 0 0) (bf2, nI (kq q), kp, ik, T) e, 0, 0)) (by rw [cpf_0]; rfl) ?_
    refine Rch.for 163 (fun n => (21, [(0, .ref 14), (1, .int (nI n))], [.int 163, .int (nI n)], HP K.1 K.2 (cpf kp s 0 0 n) (bf2, nI (kq q), kp, ik, T) e, 0, 0)) (fun n hn => ?_) ?_ 0 (by omega)
    · refine Rch.i_ge rfl (fun z => absurd z (lo_in hn (by decide))) (fun _ => ?_)
      refine Rch.go rfl ?_
      refine Rch.ia rfl rfl rfl (rfl) (by omega) (by decide) ?_
      refine Rch.ias rfl rfl (show nI n = nI (0 + n) by rw [Nat.zero_add]) (by omega) (by decide) ?_
      refine Rch.go rfl (Rch.rf ?_)
      rw [nI_1, ← cpf_s, Nat.zero_add]
      rfl
    · refine Rch.i_ge rfl (fun _ => ?_) (fun z => absurd (lo_out (by decide)) z)
      refine Rch.go rfl ?_
      refine Rch.ia (j := 51) rfl rfl rfl rfl (by decide) (by decide) ?_
      exact Rch.ri rfl rfl rfl (by decide) (by decide) ⟨rfl, rfl⟩
theorem t_X9_type (K : FA × KS) (s bf kp tx : FA) (kn ik : Int32) (F : F4) (e : AH) {t : Nat} (g : Int32) (ht : t ≤ 60) : Ct m_X9_type X0 [.ref 14, .int g] (HP K.1 K.2 s (bf, kn, kp, ik, tx, nI t, F) e) (fun rv h => rv = some (.int (if t < 60 then nI t + 1 else -1003)) ∧ h = HP K.1 K.2 s (bf, kn, kp, ik, if t < 60 then (upd tx t g, nI t + 1, F) else (tx, nI t, F)) e) := by
  refine ⟨ok_X9_type, ?_⟩
  refine Rch.go rfl ?_
  by_cases h0 : t < 60
  · rw [if_pos h0, if_pos h0]
    refine Rch.i_ne rfl (fun z => absurd ((nI_eq (by omega) (by decide)).mp (show nI t = nI 60 from z)) (by omega)) (fun _ => ?_)
    refine Rch.go rfl ?_
    refine Rch.ias rfl rfl rfl h0 (by decide) ?_
    refine Rch.go rfl ?_
    exact Rch.ri rfl rfl rfl (by decide) (by decide) ⟨rfl, rfl⟩
  · obtain rfl : t = 60 := by omega
    refine Rch.i_ne rfl (fun _ => ?_) (fun z => absurd rfl z)
    refine Rch.go rfl ?_
    exact Rch.ri rfl rfl rfl (by decide) (by decide) ⟨rfl, rfl⟩
theorem t_X9_clearText (K : FA × KS) (s bf kp tx : FA) (kn ik ty : Int32) (F : F4) (e : AH) : Ct m_X9_clearText X0 [.ref 14] (HP K.1 K.2 s (bf, kn, kp, ik, tx, ty, F) e) (fun rv h => rv = some (.int ty) ∧ h = HP K.1 K.2 s (bf, kn, kp, ik, tx, 0, F) e) := by
  refine ⟨ok_X9_clearText, ?_⟩
  refine Rch.go rfl ?_
  exact Rch.ri rfl rfl rfl (by decide) (by decide) ⟨rfl, rfl⟩
end MG
