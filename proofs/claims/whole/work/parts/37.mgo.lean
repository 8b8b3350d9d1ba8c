/-! ===== the reference goes through the text ===== -/
theorem tkS_le {g : Int32} {S S' : TS} (h : tkS g S = some S') : S.2.2.1 ≤ S'.2.2.1 := by
  have hF : ∀ lo hi x, tkF g lo hi x S = some S' → S.2.2.1 ≤ S'.2.2.1 := by
    intro lo hi x hs
    unfold tkF at hs
    split at hs
    · cases hs; exact Nat.le_refl _
    · cases hs
  have hE : tkE g S = some S' → S.2.2.1 ≤ S'.2.2.1 := by
    intro hs
    unfold tkE at hs
    split at hs
    · cases hs; exact Nat.le_refl _
    · cases hs
  unfold tkS at h
  split at h
  · unfold tkL at h
    split at h
    · cases h
    · split at h
      · cases h; exact Nat.le_succ _
      · cases h
  · exact hF _ _ _ h
  · exact hF _ _ _ h
  · split at h
    · next he => cases h; exact hE he
    · unfold tkN at h
      split at h
      · cases h; exact Nat.le_refl _
      · cases h
  · exact hE h
theorem rdf_le {sg : FA} : ∀ (d u : Nat) (S : TS), S.2.2.1 ≤ (rdf sg d u S).1.2.2.1
  | 0, _, _ => Nat.le_refl _
  | d + 1, u, S => by
    unfold rdf
    split
    · exact Nat.le_refl _
    · next S' hS => exact Nat.le_trans (tkS_le hS) (rdf_le d (u + 1) S')
theorem apl_congr {c : FA} {N : Nat} {S S' : TS} : ∀ p, (∀ i, i < p → S.1 i = S'.1 i ∧ S.2.1 i = S'.2.1 i) → apl c N S p = apl c N S' p
  | 0, _ => rfl
  | p + 1, h => by
    show upd (pat (apl c N S p) (N + p) (S.1 p) (S.2.1 p)) 155 (nI (N + p) + 1) = upd (pat (apl c N S' p) (N + p) (S'.1 p) (S'.2.1 p)) 155 (nI (N + p) + 1)
    rw [apl_congr p (fun i hi => h i (by omega)), (h p (by omega)).1, (h p (by omega)).2]
theorem apl_one (c : FA) (N : Nat) (kd bb : FA) (m x y : Nat) (k b : Int32) : apl c N (upd kd m k, upd bb m b, m + 1, x) (m + 1) = upd (pat (apl c N (kd, bb, m, y) m) (N + m) k b) 155 (nI (N + m) + 1) := by
  show upd (pat (apl c N (upd kd m k, upd bb m b, m + 1, x) m) (N + m) (upd kd m k m) (upd bb m b m)) 155 (nI (N + m) + 1) = _
  rw [pk_us, pk_us, apl_congr m (S' := (kd, bb, m, y)) (fun i hi => ⟨pk_un (by omega), pk_un (by omega)⟩)]
section MO
theorem go_ret (K : FA × KS) (s bf kp tx : FA) (kn ik : Int32) (e : AH) (n : Nat) (F : F4) (dn v : Int32) (Φ : Option Value → AH → Prop) (h : Φ (some (.int v)) (HP K.1 K.2 s (bf, kn, kp, ik, tx, nI n, F) e)) : Rch m_X9_go X0 (65, [(0, .ref 14), (1, .int dn), (2, .int v), (3, .int 1)], [], HP K.1 K.2 s (bf, kn, kp, ik, tx, nI n, F) e, 0, 0) (RetP m_X9_go Φ) := by
  refine Rch.go rfl ?_
  refine Rch.z_eq rfl (fun _ => ?_) (fun q => absurd rfl q)
  refine Rch.go rfl ?_
  refine Rch.z_eq rfl (fun _ => ?_) (fun q => absurd rfl q)
  refine Rch.go rfl ?_
  exact Rch.ri rfl rfl rfl (by decide) (by decide) h
/-- from the place after an order was read: what is left to do -/
theorem go_tail (K : FA × KS) (s bf kp tx : FA) (kn ik : Int32) (e : AH) {n a' : Nat} (k b dn v : Int32) (hn : n ≤ 60) (ha : a' ≤ n) (Φ : Option Value → AH → Prop)
    (h1 : a' = n → Φ (some (.int v)) (HP K.1 K.2 s (bf, kn, kp, ik, tx, nI n, nI a', 0, k, b) e))
    (h2 : a' < n → ¬ tx a' = 59 → Φ (some (.int v)) (HP K.1 K.2 s (bf, kn, kp, ik, tx, nI n, nI a', 1, k, b) e))
    (h3 : a' < n → tx a' = 59 → Rch m_X9_go X0 (15, [(0, .ref 14), (1, .int dn), (2, .int v), (3, .int 1)], [.int 1], HP K.1 K.2 s (bf, kn, kp, ik, tx, nI n, nI (a' + 1), 0, k, b) e, 0, 0) (RetP m_X9_go Φ)) :
    Rch m_X9_go X0 (43, [(0, .ref 14), (1, .int dn), (2, .int v), (3, .int 1)], [], HP K.1 K.2 s (bf, kn, kp, ik, tx, nI n, nI a', 0, k, b) e, 0, 0) (RetP m_X9_go Φ) := by
  refine Rch.go rfl ?_
  refine Rch.z_ne rfl (fun _ => ?_) (fun q => absurd rfl q)
  refine Rch.go rfl ?_
  refine Rch.i_ge rfl (fun z => ?_) (fun z => ?_)
  · have hl : a' = n := by have := (nI_leI (a := n) (b := a') (by omega) (by omega)).mp z; omega
    exact go_ret K s bf kp tx kn ik e n _ dn v Φ (h1 hl)
  have hl : a' < n := Nat.not_le.mp (fun q => z ((nI_leI (by omega) (by omega)).mpr q))
  refine Rch.go rfl ?_
  refine Rch.z_eq rfl (fun q => absurd (show (1 : Int32) = 0 from q) (by decide)) (fun _ => ?_)
  refine Rch.go rfl ?_
  refine Rch.call 0 (t_X9_sign K s bf kp tx kn ik e 0 59 59 k b hn ha (Or.inl rfl)) rfl rfl g_X9_127 om_X9_sign rfl (fun _ _ _ q => q) rfl rfl rfl rfl ⟨rfl, rfl⟩ ⟨by decide, by decide⟩ (fun _ _ q => by obtain ⟨_, rfl⟩ := q; first | with_reducible rfl | (rw [HP_len, HP_len]; done) | rw [HP_len, HP_len, uO_len, uO_len]) (fun rv9 h9 q9 => ?_)
  obtain ⟨rfl, rfl⟩ := q9
  have ec : cAt tx n a' = tx a' := if_pos hl
  by_cases q : tx a' = 59
  · rw [show sgP tx n a' 0 59 59 k b = (nI (a' + 1), 0, k, b) from if_pos ⟨rfl, by rw [ec, q]; decide, by rw [ec, q]; decide⟩]
    refine Rch.go rfl ?_
    refine Rch.z_ne rfl (fun _ => ?_) (fun q => absurd rfl q)
    refine Rch.go rfl ?_
    exact Rch.wp [0, 1, 2, 3] rfl rfl (h3 hl q)
  · have hne : ¬ (59 ≤ tx a' ∧ tx a' ≤ 59) := fun z => q (Int32.toInt_inj.mp (by
      have z1 := Int32.le_iff_toInt_le.mp z.1
      have z2 := Int32.le_iff_toInt_le.mp z.2
      omega))
    rw [show sgP tx n a' 0 59 59 k b = (nI a', 1, k, b) from if_neg (fun z => hne (by rw [← ec]; exact z.2))]
    refine Rch.go rfl ?_
    refine Rch.z_ne rfl (fun q => absurd (show (1 : Int32) = 0 from q) (by decide)) (fun _ => ?_)
    refine Rch.go rfl ?_
    refine Rch.z_eq rfl (fun _ => ?_) (fun q => absurd rfl q)
    refine Rch.go rfl ?_
    exact Rch.ri rfl rfl rfl (by decide) (by decide) (h2 hl q)
def GoF (K : FA × KS) (s bf kp tx : FA) (kn ik : Int32) (e : AH) (n : Nat) (Q : TS × Option Nat) (rv : Option Value) (h : AH) : Prop :=
  ∃ F : F4, h = HP K.1 K.2 s (bf, kn, kp, ik, tx, nI n, F) e ∧ ((flt (nI n) Q = -1 ∧ F.2.1 = 0 ∧ rv = some (.int (nI Q.1.2.2.1))) ∨ ∃ f, f ≤ n ∧ flt (nI n) Q = nI f ∧ F.2.1 = 1 ∧ F.1 = nI f ∧ ∃ x, rv = some (.int x))
theorem go_f (K : FA × KS) (s bf kp tx : FA) (kn ik : Int32) (e : AH) {n : Nat} {sg : FA} (hn : n ≤ 60) (hs : ∀ i, i < n → sg i = tx i) : ∀ (D a m : Nat) (kd bb : FA) (k0 b0 : Int32), n - a < D → a ≤ n → m ≤ a → m < 60 → Rch m_X9_go X0 (15, [(0, .ref 14), (1, .int 0), (2, .int (nI m)), (3, .int 1)], [.int 1], HP K.1 K.2 s (bf, kn, kp, ik, tx, nI n, nI a, 0, k0, b0) e, 0, 0) (RetP m_X9_go (GoF K s bf kp tx kn ik e n (rdf sg (n - a) a (kd, bb, m, 0)))) := by
  intro D
  induction D with
  | zero => intro a m kd bb k0 b0 h; omega
  | succ D ih =>
    intro a m kd bb k0 b0 hD ha hm hm2
    refine Rch.z_eq rfl (fun q => absurd (show (1 : Int32) = 0 from q) (by decide)) (fun _ => ?_)
    refine Rch.go rfl ?_
    refine Rch.call 0 (t_X9_read K s bf kp tx kn ik e k0 b0 hn ha) rfl rfl g_X9_133 om_X9_read rfl (fun _ _ _ q => q) rfl rfl rfl rfl ⟨rfl, rfl⟩ ⟨by decide, by decide⟩ (fun _ _ q => by first | (obtain ⟨_, _, _, rfl⟩ := q; rw [HP_len, HP_len]; done) | (obtain ⟨_, _, _, _, rfl⟩ := q; rw [HP_len, HP_len]; done)) (fun rv9 h9 q9 => ?_)
    obtain ⟨rfl, F, hF, rfl⟩ := q9
    refine Rch.go rfl ?_
    refine Rch.z_eq rfl (fun _ => ?_) (fun q => absurd rfl q)
    rcases rdf_one (kd := kd) (bb := bb) hs ha hm2 hF with ⟨f, f1, f2, f3, f4⟩ | ⟨k, b, a', g1, rfl, g3, g4, g5, g6, g7⟩
    · obtain ⟨F1, F2, F3⟩ := F
      obtain rfl : F1 = nI f := f2
      obtain rfl : F2 = 1 := f3
      refine Rch.go rfl ?_
      refine Rch.z_ne rfl (fun q => absurd (show (1 : Int32) = 0 from q) (by decide)) (fun _ => ?_)
      exact go_ret K s bf kp tx kn ik e n _ 0 (nI m + 1) _ ⟨_, rfl, Or.inr ⟨f, f1, f4, rfl, rfl, _, rfl⟩⟩
    · refine Rch.st 1 rfl ?_
      refine go_tail K s bf kp tx kn ik e (nI k) b 0 (nI m + 1) hn g4 _ (fun q => ?_) (fun q h => ?_) (fun q h => ?_)
      · obtain ⟨h1, x, h2⟩ := g5 q
        exact ⟨_, rfl, Or.inl ⟨h1, rfl, by rw [h2, nI_1]⟩⟩
      · exact ⟨_, rfl, Or.inr ⟨a', g4, g7 q h, rfl, rfl, _, rfl⟩⟩
      · rw [g6 q h, nI_1]
        exact ih (a' + 1) (m + 1) _ _ _ _ (by omega) (by omega) (by omega) (by omega)
theorem go_t (K : FA × KS) (bf kp tx : FA) (kn ik : Int32) (e : AH) (c : FA) {n N B : Nat} {sg : FA} (hn : n ≤ 60) (hs : ∀ i, i < n → sg i = tx i) : ∀ (D a m : Nat) (kd bb s : FA) (k0 b0 : Int32), n - a < D → a ≤ n → m ≤ a → m < 60 → flt (nI n) (rdf sg (n - a) a (kd, bb, m, 0)) = -1 → N + (rdf sg (n - a) a (kd, bb, m, 0)).1.2.2.1 ≤ 12 → RR 0 B (N + m) (apl c N (kd, bb, m, 0) m) s → Rch m_X9_go X0 (15, [(0, .ref 14), (1, .int 1), (2, .int (nI m)), (3, .int 1)], [.int 1], HP K.1 K.2 s (bf, kn, kp, ik, tx, nI n, nI a, 0, k0, b0) e, 0, 0) (RetP m_X9_go (fun rv h => rv = some (.int (nI (rdf sg (n - a) a (kd, bb, m, 0)).1.2.2.1)) ∧ ∃ (F : F4) (s' : FA), RR 0 B (N + (rdf sg (n - a) a (kd, bb, m, 0)).1.2.2.1) (apl c N (rdf sg (n - a) a (kd, bb, m, 0)).1 (rdf sg (n - a) a (kd, bb, m, 0)).1.2.2.1) s' ∧ h = HP K.1 K.2 s' (bf, kn, kp, ik, tx, nI n, F) e)) := by
  intro D
  induction D with
  | zero => intro a m kd bb s k0 b0 h; omega
  | succ D ih =>
    intro a m kd bb s k0 b0 hD ha hm hm2 hfl h12 hR
    refine Rch.z_eq rfl (fun q => absurd (show (1 : Int32) = 0 from q) (by decide)) (fun _ => ?_)
    refine Rch.go rfl ?_
    refine Rch.call 0 (t_X9_read K s bf kp tx kn ik e k0 b0 hn ha) rfl rfl g_X9_133 om_X9_read rfl (fun _ _ _ q => q) rfl rfl rfl rfl ⟨rfl, rfl⟩ ⟨by decide, by decide⟩ (fun _ _ q => by first | (obtain ⟨_, _, _, rfl⟩ := q; rw [HP_len, HP_len]; done) | (obtain ⟨_, _, _, _, rfl⟩ := q; rw [HP_len, HP_len]; done)) (fun rv9 h9 q9 => ?_)
    obtain ⟨rfl, F, hF, rfl⟩ := q9
    refine Rch.go rfl ?_
    refine Rch.z_eq rfl (fun q => absurd (show (1 : Int32) = 0 from q) (by decide)) (fun _ => ?_)
    rcases rdf_one (kd := kd) (bb := bb) hs ha hm2 hF with ⟨f, f1, f2, f3, f4⟩ | ⟨k, b, a', g1, rfl, g3, g4, g5, g6, g7⟩
    · exact absurd (f4.symm.trans hfl) (nI_ne1 (by omega))
    · have hlt : N + m < 12 := by
        by_cases q : a' = n
        · obtain ⟨h1, x, h2⟩ := g5 q
          rw [h2] at h12
          have h12' : N + (m + 1) ≤ 12 := h12
          omega
        · by_cases h : tx a' = 59
          · rw [g6 (by omega) h] at h12
            have := rdf_le (sg := sg) (n - (a' + 1)) (a' + 1) (upd kd m (nI k), upd bb m b, m + 1, 0)
            have this' : m + 1 ≤ (rdf sg (n - (a' + 1)) (a' + 1) (upd kd m (nI k), upd bb m b, m + 1, 0)).1.2.2.1 := this
            omega
          · exact absurd ((g7 (by omega) h).symm.trans hfl) (nI_ne1 (by omega))
      have hw := hR.wait (k := nI k) (b := b) hlt g1
      refine Rch.go rfl ?_
      refine Rch.call 0 (t_X9_waits c K s _ e (nI k) b hR.2.2.2.1.2.1 hlt) rfl rfl g_X9_92 om_X9_waits rfl (fun _ _ _ q => q) rfl rfl rfl rfl ⟨rfl, rfl⟩ ⟨by decide, by decide⟩ (fun _ _ q => by obtain ⟨_, rfl⟩ := q; first | with_reducible rfl | (rw [HP_len, HP_len]; done) | rw [HP_len, HP_len, uO_len, uO_len]) (fun rv9 h9 q9 => ?_)
      obtain ⟨rfl, rfl⟩ := q9
      refine Rch.st 2 rfl ?_
      refine Rch.wp [0, 1, 2, 3] rfl rfl ?_
      refine go_tail K _ bf kp tx kn ik e (nI k) b 1 (nI m + 1) hn g4 _ (fun q => ?_) (fun q h => ?_) (fun q h => ?_)
      · obtain ⟨h1, x, h2⟩ := g5 q
        rw [h2]
        refine ⟨by rw [nI_1], _, _, ?_, rfl⟩
        show RR 0 B (N + (m + 1)) (apl c N (upd kd m (nI k), upd bb m b, m + 1, x) (m + 1)) _
        rw [apl_one c N kd bb m x 0]
        exact hw
      · exact absurd ((g7 q h).symm.trans hfl) (nI_ne1 (by omega))
      · rw [g6 q h] at hfl h12 ⊢
        rw [nI_1]
        refine ih (a' + 1) (m + 1) _ _ _ _ _ (by omega) (by omega) (by omega) (by omega) hfl h12 ?_
        rw [apl_one c N kd bb m 0 0]
        exact hw
theorem t_X9_orderAll (c : FA) (K : FA × KS) (s bf kp : FA) (ik : Int32) (tx : FA) (F : F4) (e : AH) {q : Nat} (hq : q ≤ 4) {B N n : Nat} (h : RR 0 B N c s) (hB : B < 2 ^ 27) {sg : FA} (kd bb : FA) (hn : n ≤ 60) (hs : ∀ i, i < n → sg i = tx i) : Ct m_X9_orderAll X0 [.ref 14] (HP K.1 K.2 s (bf, nI q, kp, ik, tx, nI n, F) e) (RA K s bf kp ik tx (nI n) e q B (ora c N (flt (nI n) (rdf sg n 0 (kd, bb, 0, 0))) (rdf sg n 0 (kd, bb, 0, 0)).1)) := by
  have h4 := h.2.2.2.1
  have hN := h4.1.2.1
  have cg : ∀ (bf : FA) (kn : Int32) (F : F4), Ct m_X9_go X0 [.ref 14, .int 0] (HP K.1 K.2 s (bf, kn, kp, ik, tx, nI n, F) e) (GoF K s bf kp tx kn ik e n (rdf sg n 0 (kd, bb, 0, 0))) := by
    intro bf kn F
    refine ⟨ok_X9_go, ?_⟩
    refine Rch.go rfl ?_
    exact go_f K s bf kp tx kn ik e hn hs (n + 1) 0 0 kd bb F.2.2.1 F.2.2.2 (by omega) (by omega) (by omega) (by omega)
  have hT := rdf_ok (sg := sg) n 0 (kd, bb, 0, 0) ⟨by show 0 ≤ 60; decide, by show 0 < 5; decide⟩
  have hm60 : (rdf sg n 0 (kd, bb, 0, 0)).1.2.2.1 ≤ 60 := hT.1
  refine ⟨ok_X9_orderAll, ?_⟩
  refine Rch.go rfl ?_
  refine Rch.call 0 (cg bf (nI q) F) rfl rfl g_X9_136 om_X9_go rfl (fun _ _ _ q => q) rfl rfl rfl rfl ⟨rfl, rfl⟩ ⟨by decide, by decide⟩ (fun _ _ q => by obtain ⟨_, rfl, _⟩ := q; rw [HP_len, HP_len]) (fun rv9 h9 q9 => ?_)
  obtain ⟨F', rfl, ⟨g1, g2, rfl⟩ | ⟨f, f1, f2, f3, f4, x, rfl⟩⟩ := q9
  · obtain ⟨F1, F2, F3⟩ := F'
    obtain rfl : F2 = 0 := g2
    rw [g1]
    refine Rch.go rfl ?_
    refine Rch.z_eq rfl (fun _ => ?_) (fun q => absurd rfl q)
    refine Rch.go rfl ?_
    refine Rch.ia (j := 58) rfl rfl rfl rfl (by decide) (by decide) ?_
    rw [h4.2.1]
    refine Rch.go rfl ?_
    rw [nI_add]
    refine Rch.i_le rfl (fun z => ?_) (fun z => ?_)
    rotate_left
    · have hl : 12 < N + (rdf sg n 0 (kd, bb, 0, 0)).1.2.2.1 := Nat.not_le.mp (fun q => z ((nI_leI (b := 12) (by omega) (by decide)).mpr q))
      rw [show ora c N (-1) (rdf sg n 0 (kd, bb, 0, 0)).1 = (-1003, none) by unfold ora; rw [if_neg (fun q => q rfl), if_pos hl]]
      refine Rch.go rfl ?_
      exact Rch.ri rfl rfl rfl (by decide) (by decide) ⟨rfl, _, Or.inl ⟨rfl, rfl⟩⟩
    have hl : N + (rdf sg n 0 (kd, bb, 0, 0)).1.2.2.1 ≤ 12 := (nI_leI (b := 12) (by omega) (by decide)).mp z
    rw [show ora c N (-1) (rdf sg n 0 (kd, bb, 0, 0)).1 = _ by unfold ora; rw [if_neg (fun q => q rfl), if_neg (by omega)]]
    refine Rch.go rfl ?_
    refine Rch.call 0 (t_X9_know K s bf (kp, ik, tx, nI n, F1, 0, F3) e hq) rfl rfl g_X9_79 om_X9_know rfl (fun _ _ _ q => q) rfl rfl rfl rfl ⟨rfl, rfl⟩ ⟨by decide, by decide⟩ (fun _ _ q => by obtain ⟨_, rfl⟩ := q; first | with_reducible rfl | (rw [HP_len, HP_len]; done) | rw [HP_len, HP_len, uO_len, uO_len]) (fun rv9 h9 q9 => ?_)
    obtain ⟨rfl, rfl⟩ := q9
    refine Rch.go rfl ?_
    have cg2 : Ct m_X9_go X0 [.ref 14, .int 1] (HP K.1 K.2 s (knb s bf q, nI (kq q), kp, ik, tx, nI n, F1, 0, F3) e) (fun rv h => rv = some (.int (nI (rdf sg n 0 (kd, bb, 0, 0)).1.2.2.1)) ∧ ∃ (F : F4) (s' : FA), RR 0 B (N + (rdf sg n 0 (kd, bb, 0, 0)).1.2.2.1) (apl c N (rdf sg n 0 (kd, bb, 0, 0)).1 (rdf sg n 0 (kd, bb, 0, 0)).1.2.2.1) s' ∧ h = HP K.1 K.2 s' (knb s bf q, nI (kq q), kp, ik, tx, nI n, F) e) := by
      refine ⟨ok_X9_go, ?_⟩
      refine Rch.go rfl ?_
      exact go_t K (knb s bf q) kp tx (nI (kq q)) ik e c hn hs (n + 1) 0 0 kd bb s F3.1 F3.2 (by omega) (by omega) (by omega) (by omega) g1 hl h
    refine Rch.call 0 cg2 rfl rfl g_X9_136 om_X9_go rfl (fun _ _ _ q => q) rfl rfl rfl rfl ⟨rfl, rfl⟩ ⟨by decide, by decide⟩ (fun _ _ q => by obtain ⟨_, _, _, _, rfl⟩ := q; rw [HP_len, HP_len]) (fun rv9 h9 q9 => ?_)
    obtain ⟨rfl, F5, s', gR, rfl⟩ := q9
    exact Rch.ri rfl rfl rfl (by decide) (by decide) ⟨rfl, F5, Or.inr ⟨_, _, _, rfl, gR.mono (by omega), rfl⟩⟩
  · obtain ⟨F1, F2, F3⟩ := F'
    obtain rfl : F1 = nI f := f4
    obtain rfl : F2 = 1 := f3
    rw [f2, show ora c N (nI f) (rdf sg n 0 (kd, bb, 0, 0)).1 = (-2000 - nI f, none) from if_pos (nI_ne1 (by omega))]
    refine Rch.go rfl ?_
    refine Rch.z_eq rfl (fun q => absurd (show (1 : Int32) = 0 from q) (by decide)) (fun _ => ?_)
    refine Rch.go rfl ?_
    exact Rch.ri rfl rfl rfl (by decide) (by decide) ⟨rfl, _, Or.inl ⟨rfl, rfl⟩⟩
end MO
