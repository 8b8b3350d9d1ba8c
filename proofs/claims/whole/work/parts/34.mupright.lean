/-! ===== the reference's upright ===== -/
theorem fs_one {f g : Nat → Int32} {t : Nat} {δ : Int32} (h : ∀ i, i ≠ t → g i = f i) (ht : g t = f t + δ) (a : Int32) : ∀ n, (t < n → fs a g n = fs a f n + δ) ∧ (n ≤ t → fs a g n = fs a f n)
  | 0 => ⟨fun q => absurd q (by omega), fun _ => rfl⟩
  | n + 1 => by
    obtain ⟨i1, i2⟩ := fs_one h ht a n
    refine ⟨fun q => ?_, fun q => ?_⟩
    · show fs a g n + g n = fs a f n + f n + δ
      by_cases e : n = t
      · subst e
        rw [i2 (Nat.le_refl _), ht, Int32.add_assoc]
      · rw [i1 (by omega), h n e, Int32.add_assoc, Int32.add_comm δ, ← Int32.add_assoc]
    · show fs a g n + g n = fs a f n + f n
      rw [i2 (by omega), h n (by omega)]
theorem fs_off2 (b δ : Int32) (f : Nat → Int32) (n : Nat) : fs (b + δ) f n = fs b f n + δ := by
  rw [Int32.add_comm b, fs_off, Int32.add_comm]
theorem wgt_upd (c : FA) {t : Nat} (v : Int32) (ht : t < 8) : wgt (upd c t (c t + v)) = wgt c + v := by
  unfold wgt
  rw [(fs_one (f := c) (g := upd c t (c t + v)) (fun i hi => pk_un hi) pk_us 400 8).1 ht, fs_off2]
  rw [fs_congr (n := 3) (fun h hh => (pk_un (by omega) : upd c t (c t + v) (112 + h) = c (112 + h)))]
theorem lmo_upd (c : FA) {t : Nat} (v : Int32) (ht : t < 8) : lmo (upd c t (c t + v)) = lmo c + v * sidA (t % 2) := by
  unfold lmo
  rw [(fs_one (f := fun t => c t * sidA (t % 2)) (g := fun i => upd c t (c t + v) i * sidA (i % 2)) (t := t) (δ := v * sidA (t % 2)) (fun i hi => by rw [pk_un hi]) (by rw [pk_us, Int32.add_mul]) 0 8).1 ht, fs_off2]
  rw [fs_congr (n := 3) (f := fun h => upd c t (c t + v) (112 + h) * upd c t (c t + v) (115 + h)) (g := fun h => c (112 + h) * c (115 + h)) (fun h hh => (by show upd c t (c t + v) (112 + h) * upd c t (c t + v) (115 + h) = c (112 + h) * c (115 + h); rw [pk_un (by omega), pk_un (by omega)]))]
theorem upd_back (s : FA) (t : Nat) (v : Int32) : upd (upd s t (s t + v)) t (s t + v - v) = s := by
  funext i
  by_cases e : i = t
  · subst e; rw [pk_us, Int32.add_sub_cancel]
  · rw [pk_un e, pk_un e]
theorem neg_100 : ∀ m : Nat, m < 101 → 0 < m → -(nI m) < 0 := by decide
def hup (c : FA) (t : Nat) (v : Int32) (U : US) : US := if 0 ≤ c t + v ∧ c t + v ≤ 100 then bet U (nI t) v (lof (lmo c + v * sidA (t % 2)) (wgt c + v)) else U
theorem hup1 {c : FA} {t u : Nat} (hc : ∃ k, k ≤ 100 ∧ c t = nI k) (hu : u ≤ 100) (U : US) : hup c t (nI u) U = up1 c u t U := by
  obtain ⟨k, hk, e⟩ := hc
  have h0 : 0 ≤ c t + nI u := by
    rw [e, nI_add]
    exact (nI_leI (a := 0) (by decide) (by omega)).mpr (by omega)
  unfold hup up1
  by_cases q : c t + nI u ≤ 100
  · rw [if_pos ⟨h0, q⟩, if_pos q]
  · rw [if_neg (fun z => q z.2), if_neg q]
theorem hup2 {c : FA} {t u : Nat} (hc : ∃ k, k ≤ 100 ∧ c t = nI k) (hu : u ≤ 100) (U : US) : hup c t (-(nI u)) U = up2 c u t U := by
  obtain ⟨k, hk, e⟩ := hc
  unfold hup up2
  rw [← Int32.sub_eq_add_neg, Int32.neg_mul, ← Int32.sub_eq_add_neg, ← Int32.sub_eq_add_neg]
  by_cases q : u ≤ k
  · have e1 : c t - nI u = nI (k - u) := by rw [e, nI_sub q]
    have h0 : 0 ≤ nI (k - u) := (nI_leI (a := 0) (by decide) (by omega)).mpr (by omega)
    rw [e1, if_pos ⟨h0, (nI_leI (b := 100) (by omega) (by decide)).mpr (by omega)⟩, if_neg (Int32.not_lt.mpr h0)]
  · have e1 : c t - nI u = -(nI (u - k)) := by rw [← nI_sub (show k ≤ u by omega), Int32.neg_sub, e]
    have h0 : -(nI (u - k)) < 0 := neg_100 _ (by omega) (by omega)
    rw [e1, if_neg (fun z => Int32.not_le.mpr h0 z.1), if_pos h0]
section MU
theorem half9 (c : FA) (K : FA × KS) (s : FA) (L : LS9) (e : AH) {B M N : Nat} (w : Int32) (h : RR 0 B M c s) {t k n : Nat} (ht : t < 8) (v : Int32) (U : US) : Rch m_X9_upright X0 (84, [(0, .ref 14), (1, .int (nI N)), (2, .int w), (3, .int U.1), (4, .int U.2.1), (5, .int U.2.2), (6, .int (nI n)), (7, .int (nI k)), (8, .int (nI t)), (9, .int v)], [.int (0 + nI t), .ref 15], HP K.1 K.2 s L e, 0, 0) (fun τ => τ = (50, [(0, .ref 14), (1, .int (nI N)), (2, .int w), (3, .int (hup c t v U).1), (4, .int (hup c t v U).2.1), (5, .int (hup c t v U).2.2), (6, .int (nI n)), (7, .int (nI (k + 1)))], [.int 16, .int (nI (k + 1))], HP K.1 K.2 s L e, 0, 0)) := by
  have es : s t = c t := h.1 t (by omega)
  refine Rch.ia rfl rfl rfl (zadd t) (by omega) (by decide) ?_
  refine Rch.go rfl ?_
  refine Rch.call 1 (t_X9_in _ _ _ _) rfl rfl g_X9_22 om_X9_in rfl (fun _ _ _ q => q) rfl rfl rfl rfl ⟨rfl, rfl⟩ ⟨by decide, by decide⟩ (fun _ _ q => by obtain ⟨_, rfl⟩ := q; first | with_reducible rfl | (rw [HP_len, HP_len]; done) | rw [HP_len, HP_len, uO_len, uO_len]) (fun rv9 h9 q9 => ?_)
  obtain ⟨rfl, rfl⟩ := q9
  rw [es]
  refine Rch.z_eq rfl (fun z => ?_) (fun z => ?_)
  · rw [show hup c t v U = U from if_neg (i0 z)]
    refine Rch.go rfl ?_
    refine Rch.wp [0, 1, 2, 3, 4, 5, 6, 7] rfl rfl (Rch.rf ?_)
    rw [nI_1]
    rfl
  have hin := i1 z
  obtain ⟨x, hx1, hx2⟩ := rng (n := 100) rfl (by decide) hin
  have hV := h.2.2.2.2.2.2.upd9 (i := t) (v := c t + v) (fun _ => ⟨x, hx1, hx2⟩) (by omega) (by omega) (by omega) (by omega)
  have g := h.put1 (c t + v) (by omega) hV
  have el : lst (upd c t (c t + v)) = lof (lmo c + v * sidA (t % 2)) (wgt c + v) := by
    unfold lst
    rw [lmo_upd c v ht, wgt_upd c v ht]
  rw [show hup c t v U = _ from if_pos hin]
  refine Rch.go rfl ?_
  refine Rch.ia rfl rfl rfl (zadd t) (by omega) (by decide) ?_
  rw [es]
  refine Rch.go rfl ?_
  refine Rch.ias rfl rfl (zadd t) (by omega) (by decide) ?_
  show Rch _ _ (111, _, _, HP K.1 K.2 (upd s t (c t + v)) L e, 0, 0) _
  refine Rch.go rfl ?_
  refine Rch.call 0 (t_X9_list (upd c t (c t + v)) K (upd s t (c t + v)) L e g.1 g.2.1 hV) rfl rfl g_X9_69 om_X9_list rfl (fun _ _ _ q => q) rfl rfl rfl rfl ⟨rfl, rfl⟩ ⟨by decide, by decide⟩ (fun _ _ q => by obtain ⟨_, rfl⟩ := q; first | with_reducible rfl | (rw [HP_len, HP_len]; done) | rw [HP_len, HP_len, uO_len, uO_len]) (fun rv9 h9 q9 => ?_)
  obtain ⟨rfl, rfl⟩ := q9
  rw [el]
  generalize lof (lmo c + v * sidA (t % 2)) (wgt c + v) = li
  refine Rch.go rfl ?_
  refine Rch.ia rfl rfl rfl (zadd t) (by omega) (by decide) ?_
  rw [pk_us]
  refine Rch.go rfl ?_
  refine Rch.ias rfl rfl (zadd t) (by omega) (by decide) ?_
  refine Rch.eq (τ := (131, [(0, .ref 14), (1, .int (nI N)), (2, .int w), (3, .int U.1), (4, .int U.2.1), (5, .int U.2.2), (6, .int (nI n)), (7, .int (nI k)), (8, .int (nI t)), (9, .int v), (10, .int li)], [], HP K.1 K.2 s L e, 0, 0)) (by
    have e1 : upd (upd s t (c t + v)) t (c t + v - v) = s := by rw [← es]; exact upd_back s t v
    show ((131, [(0, .ref 14), (1, .int (nI N)), (2, .int w), (3, .int U.1), (4, .int U.2.1), (5, .int U.2.2), (6, .int (nI n)), (7, .int (nI k)), (8, .int (nI t)), (9, .int v), (10, .int li)], [], HP K.1 K.2 s L e, 0, 0) : AS) = (131, [(0, .ref 14), (1, .int (nI N)), (2, .int w), (3, .int U.1), (4, .int U.2.1), (5, .int U.2.2), (6, .int (nI n)), (7, .int (nI k)), (8, .int (nI t)), (9, .int v), (10, .int li)], [], HP K.1 K.2 (upd (upd s t (c t + v)) t (c t + v - v)) L e, 0, 0)
    rw [e1]) ?_
  refine Rch.go rfl ?_
  refine Rch.call 1 (t_X9_size _ _) rfl rfl g_X9_72 om_X9_size rfl (fun _ _ _ q => q) rfl rfl rfl rfl ⟨rfl, rfl⟩ ⟨by decide, by decide⟩ (fun _ _ q => by obtain ⟨_, rfl⟩ := q; first | with_reducible rfl | (rw [HP_len, HP_len]; done) | rw [HP_len, HP_len, uO_len, uO_len]) (fun rv9 h9 q9 => ?_)
  obtain ⟨rfl, rfl⟩ := q9
  refine Rch.go rfl ?_
  refine Rch.call 1 (t_X9_size _ _) rfl rfl g_X9_72 om_X9_size rfl (fun _ _ _ q => q) rfl rfl rfl rfl ⟨rfl, rfl⟩ ⟨by decide, by decide⟩ (fun _ _ q => by obtain ⟨_, rfl⟩ := q; first | with_reducible rfl | (rw [HP_len, HP_len]; done) | rw [HP_len, HP_len, uO_len, uO_len]) (fun rv9 h9 q9 => ?_)
  obtain ⟨rfl, rfl⟩ := q9
  refine Rch.i_ge rfl (fun z2 => ?_) (fun z2 => ?_)
  · rw [show bet U (nI t) v li = U from if_neg (Int32.not_lt.mpr z2)]
    refine Rch.go rfl ?_
    refine Rch.z_eq rfl (fun _ => ?_) (fun q => absurd rfl q)
    refine Rch.go rfl ?_
    refine Rch.z_eq rfl (fun _ => ?_) (fun q => absurd rfl q)
    refine Rch.go rfl ?_
    refine Rch.z_eq rfl (fun _ => ?_) (fun q => absurd rfl q)
    refine Rch.go rfl ?_
    refine Rch.wp [0, 1, 2, 3, 4, 5, 6, 7] rfl rfl (Rch.rf ?_)
    rw [nI_1]
    rfl
  · rw [show bet U (nI t) v li = _ from if_pos (nle_lt z2)]
    refine Rch.go rfl ?_
    refine Rch.z_eq rfl (fun q => absurd (show (1 : Int32) = 0 from q) (by decide)) (fun _ => ?_)
    refine Rch.go rfl ?_
    refine Rch.z_eq rfl (fun q => absurd (show (1 : Int32) = 0 from q) (by decide)) (fun _ => ?_)
    refine Rch.go rfl ?_
    refine Rch.z_eq rfl (fun q => absurd (show (1 : Int32) = 0 from q) (by decide)) (fun _ => ?_)
    refine Rch.go rfl ?_
    refine Rch.wp [0, 1, 2, 3, 4, 5, 6, 7] rfl rfl (Rch.rf ?_)
    rw [nI_1]
    rfl
theorem t_X9_upright (c : FA) (K : FA × KS) (s : FA) (L : LS9) (e : AH) (u w : Int32) {B M : Nat} (h : RR 0 B M c s) : Ct m_X9_upright X0 [.ref 14, .int u, .int w] (HP K.1 K.2 s L e) (fun rv h => rv = some (.int (upr c u w)) ∧ h = HP K.1 K.2 s L e) := by
  refine ⟨ok_X9_upright, ?_⟩
  have hV := h.2.2.2.2.2.2
  refine Rch.go rfl ?_
  refine Rch.call 1 (t_X9_in _ _ _ _) rfl rfl g_X9_22 om_X9_in rfl (fun _ _ _ q => q) rfl rfl rfl rfl ⟨rfl, rfl⟩ ⟨by decide, by decide⟩ (fun _ _ q => by obtain ⟨_, rfl⟩ := q; first | with_reducible rfl | (rw [HP_len, HP_len]; done) | rw [HP_len, HP_len, uO_len, uO_len]) (fun rv9 h9 q9 => ?_)
  obtain ⟨rfl, rfl⟩ := q9
  refine Rch.z_eq rfl (fun z => ?_) (fun z => ?_)
  · rw [show upr c u w = _ from if_pos (Or.inl (i0 z))]
    refine Rch.go rfl ?_
    exact Rch.ri rfl rfl rfl (by decide) (by decide) ⟨rfl, rfl⟩
  have h1 := i1 z
  refine Rch.go rfl ?_
  refine Rch.call 1 (t_X9_in _ _ _ _) rfl rfl g_X9_22 om_X9_in rfl (fun _ _ _ q => q) rfl rfl rfl rfl ⟨rfl, rfl⟩ ⟨by decide, by decide⟩ (fun _ _ q => by obtain ⟨_, rfl⟩ := q; first | with_reducible rfl | (rw [HP_len, HP_len]; done) | rw [HP_len, HP_len, uO_len, uO_len]) (fun rv9 h9 q9 => ?_)
  obtain ⟨rfl, rfl⟩ := q9
  refine Rch.z_ne rfl (fun z1 => ?_) (fun z1 => ?_)
  · rw [show upr c u w = _ from if_pos (Or.inr (i0 z1))]
    refine Rch.go rfl ?_
    exact Rch.ri rfl rfl rfl (by decide) (by decide) ⟨rfl, rfl⟩
  have h2 := i1 z1
  obtain ⟨N, hN, rfl⟩ := rng (n := 100) rfl (by decide) ⟨Int32.le_trans (by decide) h1.1, h1.2⟩
  have ej : ix (nI N) = N := ix_nI (by omega)
  rw [show upr c (nI N) w = if w = 0 then (upo c N).1 else if w = 1 then (upo c N).2.1 else (upo c N).2.2 by unfold upr; rw [if_neg (fun q => q.elim (fun q => q h1) (fun q => q h2)), ej]]
  refine Rch.go rfl ?_
  refine Rch.call 0 (t_X9_list c K s L e h.1 h.2.1 hV) rfl rfl g_X9_69 om_X9_list rfl (fun _ _ _ q => q) rfl rfl rfl rfl ⟨rfl, rfl⟩ ⟨by decide, by decide⟩ (fun _ _ q => by obtain ⟨_, rfl⟩ := q; first | with_reducible rfl | (rw [HP_len, HP_len]; done) | rw [HP_len, HP_len, uO_len, uO_len]) (fun rv9 h9 q9 => ?_)
  obtain ⟨rfl, rfl⟩ := q9
  refine Rch.go rfl ?_
  refine Rch.for N (fun n => (40, [(0, .ref 14), (1, .int (nI N)), (2, .int w), (3, .int (upo c n).1), (4, .int (upo c n).2.1), (5, .int (upo c n).2.2), (6, .int (nI (n + 1)))], [.int (nI N), .int (nI (n + 1))], HP K.1 K.2 s L e, 0, 0)) (fun n hn => ?_) ?_ 0 (by omega)
  · refine Rch.i_gt rfl (fun z => absurd z (nI_nlt (by omega) (by omega))) (fun _ => ?_)
    refine Rch.go rfl ?_
    refine Rch.for 8 (fun t => (50, [(0, .ref 14), (1, .int (nI N)), (2, .int w), (3, .int (upi c (n + 1) (upo c n) t).1), (4, .int (upi c (n + 1) (upo c n) t).2.1), (5, .int (upi c (n + 1) (upo c n) t).2.2), (6, .int (nI (n + 1))), (7, .int (nI (2 * t)))], [.int 16, .int (nI (2 * t))], HP K.1 K.2 s L e, 0, 0)) (fun t ht => ?_) ?_ 0 (by omega)
    · have d1 : nI (2 * t) / 2 = nI t := by rw [show nI (2 * t) / 2 = nI (2 * t) / nI 2 from rfl, nI_div (by omega) (by decide), show 2 * t / 2 = t by omega]
      have d2 : nI (2 * t + 1) / 2 = nI t := by rw [show nI (2 * t + 1) / 2 = nI (2 * t + 1) / nI 2 from rfl, nI_div (by omega) (by decide), show (2 * t + 1) / 2 = t by omega]
      have m1 : nI (2 * t) - nI (2 * t) / 2 * 2 = 0 := by rw [show nI (2 * t) - nI (2 * t) / 2 * 2 = nI (2 * t % 2) from nI_rem (d := 2) (by omega) (by decide), show 2 * t % 2 = 0 by omega]; rfl
      have m2 : nI (2 * t + 1) - nI (2 * t + 1) / 2 * 2 = 1 := by rw [show nI (2 * t + 1) - nI (2 * t + 1) / 2 * 2 = nI ((2 * t + 1) % 2) from nI_rem (d := 2) (by omega) (by decide), show (2 * t + 1) % 2 = 1 by omega]; rfl
      refine Rch.i_ge rfl (fun z => absurd z (lo_in (N := 16) (by omega) (by decide))) (fun _ => ?_)
      refine Rch.go rfl ?_
      refine Rch.div rfl (by decide) ?_
      rw [d1]
      refine Rch.go rfl ?_
      rw [m1]
      refine Rch.z_ne rfl (fun _ => ?_) (fun q => absurd rfl q)
      refine Rch.go rfl ?_
      refine Rch.tr (half9 c K s L e w h ht (nI (n + 1)) _) ?_
      rintro τ rfl
      rw [hup1 (hV.1 t ht) (by omega)]
      refine Rch.i_ge rfl (fun z => absurd z (lo_in (N := 16) (by omega) (by decide))) (fun _ => ?_)
      refine Rch.go rfl ?_
      refine Rch.div rfl (by decide) ?_
      rw [d2]
      refine Rch.go rfl ?_
      rw [m2]
      refine Rch.z_ne rfl (fun q => absurd (show (1 : Int32) = 0 from q) (by decide)) (fun _ => ?_)
      refine Rch.go rfl ?_
      refine Rch.mono (half9 c K s L e w h ht (-(nI (n + 1))) _) ?_
      rintro τ rfl
      rw [hup2 (hV.1 t ht) (by omega)]
      rfl
    · refine Rch.i_ge rfl (fun _ => ?_) (fun z => absurd (lo_out (by decide)) z)
      refine Rch.go rfl ?_
      refine Rch.wp [0, 1, 2, 3, 4, 5, 6] rfl rfl (Rch.rf ?_)
      rw [nI_1]
      rfl
  · refine Rch.i_gt rfl (fun _ => ?_) (fun z => absurd (nI_lt (by omega) (by omega)) z)
    refine Rch.go rfl ?_
    refine Rch.z_ne rfl (fun w0 => ?_) (fun w0 => ?_)
    · rw [if_pos w0]
      refine Rch.go rfl ?_
      exact Rch.ri rfl rfl rfl (by decide) (by decide) ⟨rfl, rfl⟩
    rw [if_neg w0]
    refine Rch.go rfl ?_
    refine Rch.i_ne rfl (fun w1 => ?_) (fun w1 => ?_)
    · rw [if_pos w1]
      refine Rch.go rfl ?_
      exact Rch.ri rfl rfl rfl (by decide) (by decide) ⟨rfl, rfl⟩
    rw [if_neg w1]
    refine Rch.go rfl ?_
    exact Rch.ri rfl rfl rfl (by decide) (by decide) ⟨rfl, rfl⟩
end MU
