/-! ===== the reference reads an order ===== -/
def cAt (tx : FA) (n a : Nat) : Int32 := if a < n then tx a else 0
def loK (k : Nat) : Int32 := if k < 2 then 48 else 49
def hiK (k : Nat) : Int32 := if k < 2 then 52 else 57
def by2 (tx : FA) (n a : Nat) : Int32 := 10 * (cAt tx n (a + 1) - 48) + tx (a + 2) - 48
abbrev go9 (tx : FA) (n a k : Nat) : Prop := ¬ k < 2 ∧ a + 2 < n ∧ (48 ≤ tx (a + 2) ∧ tx (a + 2) ≤ 57) ∧ by2 tx n a ≤ 60
def RdP (tx : FA) (n a : Nat) (F : F4) : Prop := match klN (cAt tx n a) with
  | none => F.1 = nI a ∧ F.2.1 = 1
  | some k => if loK k ≤ cAt tx n (a + 1) ∧ cAt tx n (a + 1) ≤ hiK k then (if go9 tx n a k then F = (nI (a + 3), 0, nI k, by2 tx n a) else F = (nI (a + 2), 0, nI k, cAt tx n (a + 1) - 48)) else F.1 = nI (a + 1) ∧ F.2.1 = 1
def sgP (tx : FA) (n a : Nat) (w lo hi k b : Int32) : F4 := if w = 0 ∧ lo ≤ cAt tx n a ∧ cAt tx n a ≤ hi then (nI (a + 1), 0, k, b) else (nI a, 1, k, b)
theorem klN_0 : klN 0 = none := by decide
section MS
theorem t_X9_sign (K : FA × KS) (s bf kp tx : FA) (kn ik : Int32) (e : AH) {n a : Nat} (w lo hi k b : Int32) (hn : n ≤ 60) (ha : a ≤ n) (hw : w = 0 ∨ w = 1) : Ct m_X9_sign X0 [.ref 14, .int lo, .int hi] (HP K.1 K.2 s (bf, kn, kp, ik, tx, nI n, nI a, w, k, b) e) (fun rv h => rv = some (.int (cAt tx n a)) ∧ h = HP K.1 K.2 s (bf, kn, kp, ik, tx, nI n, sgP tx n a w lo hi k b) e) := by
  refine ⟨ok_X9_sign, ?_⟩
  have key : ∀ g, g = cAt tx n a → Rch m_X9_sign X0 (24, [(0, .ref 14), (1, .int lo), (2, .int hi)], [.int g], HP K.1 K.2 s (bf, kn, kp, ik, tx, nI n, nI a, w, k, b) e, 0, 0) (RetP m_X9_sign (fun rv h => rv = some (.int (cAt tx n a)) ∧ h = HP K.1 K.2 s (bf, kn, kp, ik, tx, nI n, sgP tx n a w lo hi k b) e)) := by
    rintro g rfl
    have bad : ¬ (w = 0 ∧ lo ≤ cAt tx n a ∧ cAt tx n a ≤ hi) → Rch m_X9_sign X0 (42, [(0, .ref 14), (1, .int lo), (2, .int hi), (3, .int (cAt tx n a))], [.ref 14], HP K.1 K.2 s (bf, kn, kp, ik, tx, nI n, nI a, w, k, b) e, 0, 0) (RetP m_X9_sign (fun rv h => rv = some (.int (cAt tx n a)) ∧ h = HP K.1 K.2 s (bf, kn, kp, ik, tx, nI n, sgP tx n a w lo hi k b) e)) := by
      intro hb
      rw [show sgP tx n a w lo hi k b = _ from if_neg hb]
      refine Rch.go rfl ?_
      refine Rch.z_eq rfl (fun q => absurd (show (1 : Int32) = 0 from q) (by decide)) (fun _ => ?_)
      refine Rch.go rfl ?_
      exact Rch.ri rfl rfl rfl (by decide) (by decide) (⟨rfl, by show HP K.1 K.2 s (bf, kn, kp, ik, tx, nI n, nI a + 0, 1, k, b) e = _; rw [Int32.add_zero]⟩)
    refine Rch.go rfl ?_
    rcases hw with rfl | rfl
    · refine Rch.z_ne rfl (fun _ => ?_) (fun q => absurd rfl q)
      refine Rch.go rfl ?_
      refine Rch.call 1 (t_X9_in _ _ _ _) rfl rfl g_X9_22 om_X9_in rfl (fun _ _ _ q => q) rfl rfl rfl rfl ⟨rfl, rfl⟩ ⟨by decide, by decide⟩ (fun _ _ q => by obtain ⟨_, rfl⟩ := q; first | with_reducible rfl | (rw [HP_len, HP_len]; done) | rw [HP_len, HP_len, uO_len, uO_len]) (fun rv9 h9 q9 => ?_)
      obtain ⟨rfl, rfl⟩ := q9
      refine Rch.z_ne rfl (fun z => ?_) (fun z => ?_)
      · exact bad (fun q => i0 z q.2)
      · rw [show sgP tx n a 0 lo hi k b = _ from if_pos ⟨rfl, i1 z⟩]
        refine Rch.go rfl ?_
        refine Rch.z_eq rfl (fun _ => ?_) (fun q => absurd rfl q)
        refine Rch.go rfl ?_
        exact Rch.ri rfl rfl rfl (by decide) (by decide) (⟨rfl, by rw [← nI_1]; rfl⟩)
    · refine Rch.z_ne rfl (fun q => absurd (show (1 : Int32) = 0 from q) (by decide)) (fun _ => ?_)
      exact bad (fun q => absurd (show (1 : Int32) = 0 from q.1) (by decide))
  refine Rch.go rfl ?_
  refine Rch.i_ge rfl (fun z => ?_) (fun z => ?_)
  · have hl : ¬ a < n := fun q => absurd z (lo_in q (by omega))
    refine Rch.st 1 rfl ?_
    exact key 0 (if_neg hl).symm
  · have hl : a < n := Nat.not_le.mp (fun q => z ((nI_leI (by omega) (by omega)).mpr q))
    refine Rch.go rfl ?_
    refine Rch.ia rfl rfl rfl (rfl) (by omega) (by decide) ?_
    refine Rch.st 1 rfl ?_
    exact key _ (if_pos hl).symm
theorem read_end (K : FA × KS) (s bf kp tx : FA) (kn ik : Int32) (e : AH) {n : Nat} (F : F4) (g : Int32) (Φ : Option Value → AH → Prop) (h : Φ none (HP K.1 K.2 s (bf, kn, kp, ik, tx, nI n, F) e)) : Rch m_X9_read X0 (240, [(0, .ref 14), (1, .int g)], [], HP K.1 K.2 s (bf, kn, kp, ik, tx, nI n, F) e, 0, 0) (RetP m_X9_read Φ) := by
  refine Rch.go rfl ?_
  refine Rch.z_eq rfl (fun _ => ?_) (fun q => absurd rfl q)
  refine Rch.go rfl ?_
  exact Rch.rv rfl rfl (by decide) (by decide) h
theorem t_X9_read (K : FA × KS) (s bf kp tx : FA) (kn ik : Int32) (e : AH) {n a : Nat} (k0 b0 : Int32) (hn : n ≤ 60) (ha : a ≤ n) : Ct m_X9_read X0 [.ref 14] (HP K.1 K.2 s (bf, kn, kp, ik, tx, nI n, nI a, 0, k0, b0) e) (fun rv h => rv = none ∧ ∃ F, RdP tx n a F ∧ h = HP K.1 K.2 s (bf, kn, kp, ik, tx, nI n, F) e) := by
  refine ⟨ok_X9_read, ?_⟩
  have key2 : ∀ g x, g = cAt tx n a → x = (match klN g with | none => -1005 | some k => nI k) → Rch m_X9_read X0 (79, [(0, .ref 14), (1, .int g)], [.int x, .ref 14], HP K.1 K.2 s (bf, kn, kp, ik, tx, nI n, nI a, 0, k0, b0) e, 0, 0) (RetP m_X9_read (fun rv h => rv = none ∧ ∃ F, RdP tx n a F ∧ h = HP K.1 K.2 s (bf, kn, kp, ik, tx, nI n, F) e)) := by
    intro g x hg hx
    refine Rch.go rfl ?_
    refine Rch.z_ne rfl (fun _ => ?_) (fun q => absurd rfl q)
    refine Rch.go rfl ?_
    cases hk : klN g with
    | none =>
      rw [hk] at hx
      dsimp only at hx
      subst hx
      have hr : ∀ F : F4, F.1 = nI a → F.2.1 = 1 → RdP tx n a F := by
        intro F h1 h2
        unfold RdP
        rw [← hg, hk]
        exact ⟨h1, h2⟩
      refine Rch.i_ne rfl (fun _ => ?_) (fun q => absurd rfl q)
      refine Rch.go rfl ?_
      refine Rch.z_eq rfl (fun q => absurd (show (1 : Int32) = 0 from q) (by decide)) (fun _ => ?_)
      refine Rch.go rfl ?_
      refine Rch.i_ge rfl (fun q => absurd q (by decide)) (fun _ => ?_)
      refine Rch.eq (τ := (138, [(0, .ref 14), (1, .int g)], [.ref 14], HP K.1 K.2 s (bf, kn, kp, ik, tx, nI n, nI a, 1, -1005, b0) e, 0, 0)) (by show _ = ((138, [(0, .ref 14), (1, .int g)], [.ref 14], HP K.1 K.2 s (bf, kn, kp, ik, tx, nI n, nI a + 0, 1, -1005, b0) e, 0, 0) : AS); rw [Int32.add_zero]) ?_
      refine Rch.go rfl ?_
      refine Rch.call 0 (t_X9_sign K s bf kp tx kn ik e 1 48 52 (-1005) b0 hn ha (Or.inr rfl)) rfl rfl g_X9_127 om_X9_sign rfl (fun _ _ _ q => q) rfl rfl rfl rfl ⟨rfl, rfl⟩ ⟨by decide, by decide⟩ (fun _ _ q => by obtain ⟨_, rfl⟩ := q; first | with_reducible rfl | (rw [HP_len, HP_len]; done) | rw [HP_len, HP_len, uO_len, uO_len]) (fun rv9 h9 q9 => ?_)
      obtain ⟨rfl, rfl⟩ := q9
      rw [show sgP tx n a 1 48 52 (-1005) b0 = (nI a, 1, -1005, b0) from if_neg (fun q => absurd q.1 (by decide))]
      refine Rch.go rfl ?_
      refine Rch.i_le rfl (fun _ => ?_) (fun q => absurd (show (-1005 : Int32) ≤ 1 by decide) q)
      exact read_end K s bf kp tx kn ik e (nI a, 1, -1005, cAt tx n a - 48) g _ ⟨rfl, _, hr _ rfl rfl, rfl⟩
    | some k =>
      rw [hk] at hx
      dsimp only at hx
      subst hx
      have hk5 := klN_lt hk
      have han : a < n := by
        by_cases q : a < n
        · exact q
        · rw [hg, show cAt tx n a = 0 from if_neg q, klN_0] at hk
          cases hk
      refine Rch.i_ne rfl (fun q => absurd q (nI_ne5 (by omega))) (fun _ => ?_)
      refine Rch.go rfl ?_
      refine Rch.z_eq rfl (fun _ => ?_) (fun q => absurd rfl q)
      refine Rch.go rfl ?_
      have key3 : Rch m_X9_read X0 (163, [(0, .ref 14), (1, .int g)], [.int (cAt tx n (a + 1) - 48), .ref 14], HP K.1 K.2 s (bf, kn, kp, ik, tx, nI n, sgP tx n (a + 1) 0 (loK k) (hiK k) (nI k) b0) e, 0, 0) (RetP m_X9_read (fun rv h => rv = none ∧ ∃ F, RdP tx n a F ∧ h = HP K.1 K.2 s (bf, kn, kp, ik, tx, nI n, F) e)) := by
        by_cases hin : loK k ≤ cAt tx n (a + 1) ∧ cAt tx n (a + 1) ≤ hiK k
        rotate_left
        · rw [show sgP tx n (a + 1) 0 (loK k) (hiK k) (nI k) b0 = _ from if_neg (fun q => hin q.2)]
          have hr : ∀ F : F4, F.1 = nI (a + 1) → F.2.1 = 1 → RdP tx n a F := by
            intro F h1 h2
            unfold RdP
            rw [← hg, hk]
            dsimp only
            rw [if_neg hin]
            exact ⟨h1, h2⟩
          have fin := read_end K s bf kp tx kn ik e (n := n) (nI (a + 1), 1, nI k, cAt tx n (a + 1) - 48) g (fun rv h => rv = none ∧ ∃ F, RdP tx n a F ∧ h = HP K.1 K.2 s (bf, kn, kp, ik, tx, nI n, F) e) ⟨rfl, _, hr _ rfl rfl, rfl⟩
          refine Rch.go rfl ?_
          refine Rch.i_le rfl (fun z => ?_) (fun z => ?_)
          · exact fin
          · refine Rch.go rfl ?_
            refine Rch.z_ne rfl (fun q => absurd (show (1 : Int32) = 0 from q) (by decide)) (fun _ => ?_)
            exact fin
        rw [show sgP tx n (a + 1) 0 (loK k) (hiK k) (nI k) b0 = _ from if_pos ⟨rfl, hin⟩]
        have hr0 : ¬ go9 tx n a k → RdP tx n a (nI (a + 2), 0, nI k, cAt tx n (a + 1) - 48) := by
          intro q
          unfold RdP
          rw [← hg, hk]
          dsimp only
          rw [if_pos hin, if_neg q]
        have fin : ¬ go9 tx n a k → _ := fun q => read_end K s bf kp tx kn ik e (n := n) (nI (a + 1 + 1), 0, nI k, cAt tx n (a + 1) - 48) g (fun rv h => rv = none ∧ ∃ F, RdP tx n a F ∧ h = HP K.1 K.2 s (bf, kn, kp, ik, tx, nI n, F) e) ⟨rfl, _, hr0 q, rfl⟩
        refine Rch.go rfl ?_
        refine Rch.i_le rfl (fun z => ?_) (fun z => ?_)
        · exact fin (fun q => q.1 (Nat.lt_of_le_of_lt ((nI_leI (b := 1) (by omega) (by decide)).mp z) (by decide)))
        have hk2 : ¬ k < 2 := fun q => z ((nI_leI (b := 1) (by omega) (by decide)).mpr (by omega))
        have ha1 : a + 1 < n := by
          by_cases q : a + 1 < n
          · exact q
          · rw [show cAt tx n (a + 1) = 0 from if_neg q, show loK k = 49 from if_neg hk2] at hin
            exact absurd hin.1 (by decide)
        refine Rch.go rfl ?_
        refine Rch.z_ne rfl (fun _ => ?_) (fun q => absurd rfl q)
        refine Rch.go rfl ?_
        refine Rch.i_ge rfl (fun z2 => ?_) (fun z2 => ?_)
        · exact fin (fun q => absurd z2 (lo_in q.2.1 (by omega)))
        have ha2 : a + 2 < n := Nat.not_le.mp (fun q => z2 ((nI_leI (by omega) (by omega)).mpr q))
        refine Rch.go rfl ?_
        refine Rch.ia rfl rfl rfl (rfl) (by omega) (by decide) ?_
        refine Rch.go rfl ?_
        refine Rch.call 1 (t_X9_in _ _ _ _) rfl rfl g_X9_22 om_X9_in rfl (fun _ _ _ q => q) rfl rfl rfl rfl ⟨rfl, rfl⟩ ⟨by decide, by decide⟩ (fun _ _ q => by obtain ⟨_, rfl⟩ := q; first | with_reducible rfl | (rw [HP_len, HP_len]; done) | rw [HP_len, HP_len, uO_len, uO_len]) (fun rv9 h9 q9 => ?_)
        obtain ⟨rfl, rfl⟩ := q9
        refine Rch.z_eq rfl (fun z3 => ?_) (fun z3 => ?_)
        · exact fin (fun q => i0 z3 q.2.2.1)
        refine Rch.go rfl ?_
        refine Rch.ia rfl rfl rfl (rfl) (by omega) (by decide) ?_
        refine Rch.go rfl ?_
        refine Rch.i_gt rfl (fun z4 => ?_) (fun z4 => ?_)
        · exact fin (fun q => Int32.not_le.mpr z4 q.2.2.2)
        have hgo : go9 tx n a k := ⟨hk2, ha2, i1 z3, nlt_le z4⟩
        refine Rch.go rfl ?_
        refine Rch.z_eq rfl (fun q => absurd (show (1 : Int32) = 0 from q) (by decide)) (fun _ => ?_)
        refine Rch.go rfl ?_
        show Rch _ _ (259, _, _, HP K.1 K.2 s (bf, kn, kp, ik, tx, nI n, nI (a + 2), 0, nI k, cAt tx n (a + 1) - 48) e, 0, 0) _
        refine Rch.call 0 (t_X9_sign K s bf kp tx kn ik e 0 48 57 (nI k) (cAt tx n (a + 1) - 48) hn (a := a + 2) (by omega) (Or.inl rfl)) rfl rfl g_X9_127 om_X9_sign rfl (fun _ _ _ q => q) rfl rfl rfl rfl ⟨rfl, rfl⟩ ⟨by decide, by decide⟩ (fun _ _ q => by obtain ⟨_, rfl⟩ := q; first | with_reducible rfl | (rw [HP_len, HP_len]; done) | rw [HP_len, HP_len, uO_len, uO_len]) (fun rv9 h9 q9 => ?_)
        obtain ⟨rfl, rfl⟩ := q9
        have ec : cAt tx n (a + 2) = tx (a + 2) := if_pos ha2
        rw [show sgP tx n (a + 2) 0 48 57 (nI k) (cAt tx n (a + 1) - 48) = _ from if_pos ⟨rfl, by rw [ec]; exact i1 z3⟩, ec]
        refine Rch.go rfl ?_
        exact Rch.rv rfl rfl (by decide) (by decide) ⟨rfl, (nI (a + 3), 0, nI k, by2 tx n a), by unfold RdP; rw [← hg, hk]; dsimp only; rw [if_pos hin, if_pos hgo], rfl⟩
      have e1 : nI a + 1 = nI (a + 1) := nI_1 a
      by_cases h2 : k < 2
      · rw [show loK k = 48 from if_pos h2, show hiK k = 52 from if_pos h2] at key3
        refine Rch.i_ge rfl (fun z => absurd ((nI_leI (a := 2) (by decide) (by omega)).mp z) (by omega)) (fun _ => ?_)
        refine Rch.eq (τ := (138, [(0, .ref 14), (1, .int g)], [.ref 14], HP K.1 K.2 s (bf, kn, kp, ik, tx, nI n, nI (a + 1), 0, nI k, b0) e, 0, 0)) (by rw [← e1]; rfl) ?_
        refine Rch.go rfl ?_
        refine Rch.call 0 (t_X9_sign K s bf kp tx kn ik e 0 48 52 (nI k) b0 hn (a := a + 1) (by omega) (Or.inl rfl)) rfl rfl g_X9_127 om_X9_sign rfl (fun _ _ _ q => q) rfl rfl rfl rfl ⟨rfl, rfl⟩ ⟨by decide, by decide⟩ (fun _ _ q => by obtain ⟨_, rfl⟩ := q; first | with_reducible rfl | (rw [HP_len, HP_len]; done) | rw [HP_len, HP_len, uO_len, uO_len]) (fun rv9 h9 q9 => ?_)
        obtain ⟨rfl, rfl⟩ := q9
        refine Rch.st 3 rfl ?_
        exact key3
      · rw [show loK k = 49 from if_neg h2, show hiK k = 57 from if_neg h2] at key3
        refine Rch.i_ge rfl (fun _ => ?_) (fun z => absurd ((nI_leI (a := 2) (by decide) (by omega)).mpr (by omega)) z)
        refine Rch.eq (τ := (152, [(0, .ref 14), (1, .int g)], [.ref 14], HP K.1 K.2 s (bf, kn, kp, ik, tx, nI n, nI (a + 1), 0, nI k, b0) e, 0, 0)) (by rw [← e1]; rfl) ?_
        refine Rch.go rfl ?_
        refine Rch.call 0 (t_X9_sign K s bf kp tx kn ik e 0 49 57 (nI k) b0 hn (a := a + 1) (by omega) (Or.inl rfl)) rfl rfl g_X9_127 om_X9_sign rfl (fun _ _ _ q => q) rfl rfl rfl rfl ⟨rfl, rfl⟩ ⟨by decide, by decide⟩ (fun _ _ q => by obtain ⟨_, rfl⟩ := q; first | with_reducible rfl | (rw [HP_len, HP_len]; done) | rw [HP_len, HP_len, uO_len, uO_len]) (fun rv9 h9 q9 => ?_)
        obtain ⟨rfl, rfl⟩ := q9
        refine Rch.st 2 rfl ?_
        exact key3
  have key : ∀ g, g = cAt tx n a → Rch m_X9_read X0 (24, [(0, .ref 14)], [.int g], HP K.1 K.2 s (bf, kn, kp, ik, tx, nI n, nI a, 0, k0, b0) e, 0, 0) (RetP m_X9_read (fun rv h => rv = none ∧ ∃ F, RdP tx n a F ∧ h = HP K.1 K.2 s (bf, kn, kp, ik, tx, nI n, F) e)) := by
    intro g hg
    refine Rch.go rfl ?_
    refine Rch.i_ne rfl (fun z1 => ?_) (fun z1 => ?_)
    · refine Rch.st 2 rfl ?_
      exact key2 g 0 hg (by rw [z1]; rfl)
    refine Rch.go rfl ?_
    refine Rch.i_ne rfl (fun z2 => ?_) (fun z2 => ?_)
    · refine Rch.st 2 rfl ?_
      exact key2 g 1 hg (by rw [z2]; rfl)
    refine Rch.go rfl ?_
    refine Rch.i_ne rfl (fun z3 => ?_) (fun z3 => ?_)
    · refine Rch.st 2 rfl ?_
      exact key2 g 2 hg (by rw [z3]; rfl)
    refine Rch.go rfl ?_
    refine Rch.i_ne rfl (fun z4 => ?_) (fun z4 => ?_)
    · refine Rch.st 2 rfl ?_
      exact key2 g 3 hg (by rw [z4]; rfl)
    refine Rch.go rfl ?_
    refine Rch.i_ne rfl (fun z5 => ?_) (fun z5 => ?_)
    · refine Rch.st 2 rfl ?_
      exact key2 g 4 hg (by rw [z5]; rfl)
    refine Rch.st 1 rfl ?_
    exact key2 g (-1005) hg (by unfold klN; rw [if_neg z1, if_neg z2, if_neg z3, if_neg z4, if_neg z5])
  refine Rch.go rfl ?_
  refine Rch.i_ge rfl (fun z => ?_) (fun z => ?_)
  · have hl : ¬ a < n := fun q => absurd z (lo_in q (by omega))
    refine Rch.st 1 rfl ?_
    exact key 0 (if_neg hl).symm
  · have hl : a < n := Nat.not_le.mp (fun q => z ((nI_leI (by omega) (by omega)).mpr q))
    refine Rch.go rfl ?_
    refine Rch.ia rfl rfl rfl (rfl) (by omega) (by decide) ?_
    refine Rch.st 1 rfl ?_
    exact key _ (if_pos hl).symm
end MS
