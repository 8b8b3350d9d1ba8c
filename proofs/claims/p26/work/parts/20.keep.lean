/-! ===== what is kept of states ===== -/
theorem t_X6_copyFrom__9 (c : FA) (K : KS) (s : FA) (L : LS9) (e : AH) : Ct m_X6_copyFrom X0 [.ref 1, .ref 9] (HP c K s L e) (fun rv h => rv = none ∧ h = HP (cp K.2.2.2.1 c) K s L e) := by
  refine ⟨ok_X6_copyFrom, ?_⟩
  refine Rch.go rfl ?_
  refine Rch.i_ne rfl (fun _ => ?_) (fun q => absurd rfl q)
  refine Rch.go rfl ?_
  refine Rch.copy rfl (by decide +kernel) rfl (by decide +kernel) rfl rfl rfl rfl rfl (nn := 162) rfl (by decide) (by decide) (by decide) ?_
  exact Rch.rv rfl rfl (by decide) (by decide) ⟨rfl, rfl⟩
theorem t_X6_copyTo__9 (c : FA) (K : KS) (s : FA) (L : LS9) (e : AH) : Ct m_X6_copyTo X0 [.ref 1, .ref 9] (HP c K s L e) (fun rv h => rv = none ∧ h = HP c (K.1, K.2.1, K.2.2.1, cp c K.2.2.2.1, K.2.2.2.2) s L e) := by
  refine ⟨ok_X6_copyTo, ?_⟩
  refine Rch.go rfl ?_
  refine Rch.i_ne rfl (fun _ => ?_) (fun q => absurd rfl q)
  refine Rch.go rfl ?_
  refine Rch.copy rfl (by decide +kernel) rfl (by decide +kernel) rfl rfl rfl rfl rfl (nn := 162) rfl (by decide) (by decide) (by decide) ?_
  exact Rch.rv rfl rfl (by decide) (by decide) ⟨rfl, rfl⟩
theorem t_X6_copyTo__r0 (c : FA) (K : KS) (s : FA) (L : LS9) (e : AH) : Ct m_X6_copyTo X0 [.ref 1, .ref (5 + 0)] (HP c K s L e) (fun rv h => rv = none ∧ h = HP c (vup K.1 0 (cp c (K.1 0)), K.2) s L e) := by
  refine ⟨ok_X6_copyTo, ?_⟩
  refine Rch.go rfl ?_
  refine Rch.i_ne rfl (fun _ => ?_) (fun q => absurd rfl q)
  refine Rch.go rfl ?_
  refine Rch.copy rfl (by decide +kernel) rfl (by decide +kernel) rfl rfl rfl rfl rfl (nn := 162) rfl (by decide) (by decide) (by decide) ?_
  exact Rch.rv rfl rfl (by decide) (by decide) ⟨rfl, rfl⟩
theorem t_X6_copyFrom__r0 (c : FA) (K : KS) (s : FA) (L : LS9) (e : AH) : Ct m_X6_copyFrom X0 [.ref 1, .ref (5 + 0)] (HP c K s L e) (fun rv h => rv = none ∧ h = HP (cp (K.1 0) c) K s L e) := by
  refine ⟨ok_X6_copyFrom, ?_⟩
  refine Rch.go rfl ?_
  refine Rch.i_ne rfl (fun _ => ?_) (fun q => absurd rfl q)
  refine Rch.go rfl ?_
  refine Rch.copy rfl (by decide +kernel) rfl (by decide +kernel) rfl rfl rfl rfl rfl (nn := 162) rfl (by decide) (by decide) (by decide) ?_
  exact Rch.rv rfl rfl (by decide) (by decide) ⟨rfl, rfl⟩
theorem t_X6_copyTo__r1 (c : FA) (K : KS) (s : FA) (L : LS9) (e : AH) : Ct m_X6_copyTo X0 [.ref 1, .ref (5 + 1)] (HP c K s L e) (fun rv h => rv = none ∧ h = HP c (vup K.1 1 (cp c (K.1 1)), K.2) s L e) := by
  refine ⟨ok_X6_copyTo, ?_⟩
  refine Rch.go rfl ?_
  refine Rch.i_ne rfl (fun _ => ?_) (fun q => absurd rfl q)
  refine Rch.go rfl ?_
  refine Rch.copy rfl (by decide +kernel) rfl (by decide +kernel) rfl rfl rfl rfl rfl (nn := 162) rfl (by decide) (by decide) (by decide) ?_
  exact Rch.rv rfl rfl (by decide) (by decide) ⟨rfl, rfl⟩
theorem t_X6_copyFrom__r1 (c : FA) (K : KS) (s : FA) (L : LS9) (e : AH) : Ct m_X6_copyFrom X0 [.ref 1, .ref (5 + 1)] (HP c K s L e) (fun rv h => rv = none ∧ h = HP (cp (K.1 1) c) K s L e) := by
  refine ⟨ok_X6_copyFrom, ?_⟩
  refine Rch.go rfl ?_
  refine Rch.i_ne rfl (fun _ => ?_) (fun q => absurd rfl q)
  refine Rch.go rfl ?_
  refine Rch.copy rfl (by decide +kernel) rfl (by decide +kernel) rfl rfl rfl rfl rfl (nn := 162) rfl (by decide) (by decide) (by decide) ?_
  exact Rch.rv rfl rfl (by decide) (by decide) ⟨rfl, rfl⟩
theorem t_X6_copyTo__r2 (c : FA) (K : KS) (s : FA) (L : LS9) (e : AH) : Ct m_X6_copyTo X0 [.ref 1, .ref (5 + 2)] (HP c K s L e) (fun rv h => rv = none ∧ h = HP c (vup K.1 2 (cp c (K.1 2)), K.2) s L e) := by
  refine ⟨ok_X6_copyTo, ?_⟩
  refine Rch.go rfl ?_
  refine Rch.i_ne rfl (fun _ => ?_) (fun q => absurd rfl q)
  refine Rch.go rfl ?_
  refine Rch.copy rfl (by decide +kernel) rfl (by decide +kernel) rfl rfl rfl rfl rfl (nn := 162) rfl (by decide) (by decide) (by decide) ?_
  exact Rch.rv rfl rfl (by decide) (by decide) ⟨rfl, rfl⟩
theorem t_X6_copyFrom__r2 (c : FA) (K : KS) (s : FA) (L : LS9) (e : AH) : Ct m_X6_copyFrom X0 [.ref 1, .ref (5 + 2)] (HP c K s L e) (fun rv h => rv = none ∧ h = HP (cp (K.1 2) c) K s L e) := by
  refine ⟨ok_X6_copyFrom, ?_⟩
  refine Rch.go rfl ?_
  refine Rch.i_ne rfl (fun _ => ?_) (fun q => absurd rfl q)
  refine Rch.go rfl ?_
  refine Rch.copy rfl (by decide +kernel) rfl (by decide +kernel) rfl rfl rfl rfl rfl (nn := 162) rfl (by decide) (by decide) (by decide) ?_
  exact Rch.rv rfl rfl (by decide) (by decide) ⟨rfl, rfl⟩
theorem t_X6_copyTo__r3 (c : FA) (K : KS) (s : FA) (L : LS9) (e : AH) : Ct m_X6_copyTo X0 [.ref 1, .ref (5 + 3)] (HP c K s L e) (fun rv h => rv = none ∧ h = HP c (vup K.1 3 (cp c (K.1 3)), K.2) s L e) := by
  refine ⟨ok_X6_copyTo, ?_⟩
  refine Rch.go rfl ?_
  refine Rch.i_ne rfl (fun _ => ?_) (fun q => absurd rfl q)
  refine Rch.go rfl ?_
  refine Rch.copy rfl (by decide +kernel) rfl (by decide +kernel) rfl rfl rfl rfl rfl (nn := 162) rfl (by decide) (by decide) (by decide) ?_
  exact Rch.rv rfl rfl (by decide) (by decide) ⟨rfl, rfl⟩
theorem t_X6_copyFrom__r3 (c : FA) (K : KS) (s : FA) (L : LS9) (e : AH) : Ct m_X6_copyFrom X0 [.ref 1, .ref (5 + 3)] (HP c K s L e) (fun rv h => rv = none ∧ h = HP (cp (K.1 3) c) K s L e) := by
  refine ⟨ok_X6_copyFrom, ?_⟩
  refine Rch.go rfl ?_
  refine Rch.i_ne rfl (fun _ => ?_) (fun q => absurd rfl q)
  refine Rch.go rfl ?_
  refine Rch.copy rfl (by decide +kernel) rfl (by decide +kernel) rfl rfl rfl rfl rfl (nn := 162) rfl (by decide) (by decide) (by decide) ?_
  exact Rch.rv rfl rfl (by decide) (by decide) ⟨rfl, rfl⟩
def rc9 (c : FA) (K : KS) (n q : Nat) : KS := (vup K.1 n (cp c (K.1 n)), nI ((n + 1) % 4), nI (if q < 4 then q + 1 else 4), K.2.2.2)
theorem min4 {q : Nat} (hq : q ≤ 4) : (if (4 : Int32) < nI q + 1 then 4 else nI q + 1) = nI (if q < 4 then q + 1 else 4) := by
  match q, hq with
  | 0, _ => decide
  | 1, _ => decide
  | 2, _ => decide
  | 3, _ => decide
  | 4, _ => decide
theorem t_X0_length (c : FA) (K : KS) (s : FA) (L : LS9) (e : AH) : Ct m_X0_length X0 [.ref 3] (HP c K s L e) (fun rv h => rv = some (.int K.2.2.1) ∧ h = HP c K s L e) := by
  refine ⟨ok_X0_length, ?_⟩
  refine Rch.go rfl ?_
  exact Rch.ri rfl rfl rfl (by decide) (by decide) ⟨rfl, rfl⟩
theorem t_X0_record (c : FA) (r : Nat → FA) (K : FA × Int32 × FA × Int32 × FA × FA × Int32 × Int32) (s : FA) (L : LS9) (e : AH) {n q : Nat} (hn : n < 4) (hq : q ≤ 4) : Ct m_X0_record X0 [.ref 3, .ref 1] (HP c (r, nI n, nI q, K) s L e) (fun rv h => rv = none ∧ h = HP c (rc9 c (r, nI n, nI q, K) n q) s L e) := by
  refine ⟨ok_X0_record, ?_⟩
  match n, hn with
  | 0, _ =>
    refine Rch.go rfl ?_
    refine Rch.z_lt rfl (fun z => absurd (show nI 0 < 0 from z) (by decide)) (fun _ => ?_)
    refine Rch.go rfl ?_
    refine Rch.i_lt rfl (fun _ => ?_) (fun z => absurd (show nI 0 < 4 by decide) z)
    refine Rch.go rfl ?_
    refine Rch.st 1 (τ := (26, [(0, .ref 3), (1, .ref 1)], [.ref (5 + 0), .ref 1], HP c (r, nI 0, nI q, K) s L e, 0, 0)) rfl ?_
    refine Rch.call 0 (t_X6_copyTo__r0 c _ s L e) rfl rfl g_X0_25 om_X6_copyTo rfl (fun _ _ _ q => q) rfl rfl rfl rfl ⟨rfl, rfl⟩ ⟨by decide, by decide⟩ (fun _ _ q => by obtain ⟨_, rfl⟩ := q; first | with_reducible rfl | rw [HP_len, HP_len]) (fun rv9 h9 q9 => ?_)
    obtain ⟨rfl, rfl⟩ := q9
    refine Rch.go rfl ?_
    refine Rch.min rfl (by decide +kernel) rfl rfl rfl (by decide) (by decide) ?_
    rw [show (if (4 : Int32) < ((vup (r, nI 0, nI q, K).fst 0 (cp c ((r, nI 0, nI q, K).fst 0)), (r, nI 0, nI q, K).snd) : KS).2.2.1 + 1 then 4 else ((vup (r, nI 0, nI q, K).fst 0 (cp c ((r, nI 0, nI q, K).fst 0)), (r, nI 0, nI q, K).snd) : KS).2.2.1 + 1) = nI (if q < 4 then q + 1 else 4) from min4 hq]
    refine Rch.go rfl ?_
    refine Rch.rv rfl rfl (by decide) (by decide) ⟨rfl, ?_⟩
    show HP c (vup r 0 (cp c (r 0)), nI 0 + 1 - (nI 0 + 1) / 4 * 4, nI (if q < 4 then q + 1 else 4), K) s L e = _
    rw [show nI 0 + 1 - (nI 0 + 1) / 4 * 4 = nI ((0 + 1) % 4) by decide]
    rfl
  | 1, _ =>
    refine Rch.go rfl ?_
    refine Rch.z_lt rfl (fun z => absurd (show nI 1 < 0 from z) (by decide)) (fun _ => ?_)
    refine Rch.go rfl ?_
    refine Rch.i_lt rfl (fun _ => ?_) (fun z => absurd (show nI 1 < 4 by decide) z)
    refine Rch.go rfl ?_
    refine Rch.st 1 (τ := (26, [(0, .ref 3), (1, .ref 1)], [.ref (5 + 1), .ref 1], HP c (r, nI 1, nI q, K) s L e, 0, 0)) rfl ?_
    refine Rch.call 0 (t_X6_copyTo__r1 c _ s L e) rfl rfl g_X0_25 om_X6_copyTo rfl (fun _ _ _ q => q) rfl rfl rfl rfl ⟨rfl, rfl⟩ ⟨by decide, by decide⟩ (fun _ _ q => by obtain ⟨_, rfl⟩ := q; first | with_reducible rfl | rw [HP_len, HP_len]) (fun rv9 h9 q9 => ?_)
    obtain ⟨rfl, rfl⟩ := q9
    refine Rch.go rfl ?_
    refine Rch.min rfl (by decide +kernel) rfl rfl rfl (by decide) (by decide) ?_
    rw [show (if (4 : Int32) < ((vup (r, nI 1, nI q, K).fst 1 (cp c ((r, nI 1, nI q, K).fst 1)), (r, nI 1, nI q, K).snd) : KS).2.2.1 + 1 then 4 else ((vup (r, nI 1, nI q, K).fst 1 (cp c ((r, nI 1, nI q, K).fst 1)), (r, nI 1, nI q, K).snd) : KS).2.2.1 + 1) = nI (if q < 4 then q + 1 else 4) from min4 hq]
    refine Rch.go rfl ?_
    refine Rch.rv rfl rfl (by decide) (by decide) ⟨rfl, ?_⟩
    show HP c (vup r 1 (cp c (r 1)), nI 1 + 1 - (nI 1 + 1) / 4 * 4, nI (if q < 4 then q + 1 else 4), K) s L e = _
    rw [show nI 1 + 1 - (nI 1 + 1) / 4 * 4 = nI ((1 + 1) % 4) by decide]
    rfl
  | 2, _ =>
    refine Rch.go rfl ?_
    refine Rch.z_lt rfl (fun z => absurd (show nI 2 < 0 from z) (by decide)) (fun _ => ?_)
    refine Rch.go rfl ?_
    refine Rch.i_lt rfl (fun _ => ?_) (fun z => absurd (show nI 2 < 4 by decide) z)
    refine Rch.go rfl ?_
    refine Rch.st 1 (τ := (26, [(0, .ref 3), (1, .ref 1)], [.ref (5 + 2), .ref 1], HP c (r, nI 2, nI q, K) s L e, 0, 0)) rfl ?_
    refine Rch.call 0 (t_X6_copyTo__r2 c _ s L e) rfl rfl g_X0_25 om_X6_copyTo rfl (fun _ _ _ q => q) rfl rfl rfl rfl ⟨rfl, rfl⟩ ⟨by decide, by decide⟩ (fun _ _ q => by obtain ⟨_, rfl⟩ := q; first | with_reducible rfl | rw [HP_len, HP_len]) (fun rv9 h9 q9 => ?_)
    obtain ⟨rfl, rfl⟩ := q9
    refine Rch.go rfl ?_
    refine Rch.min rfl (by decide +kernel) rfl rfl rfl (by decide) (by decide) ?_
    rw [show (if (4 : Int32) < ((vup (r, nI 2, nI q, K).fst 2 (cp c ((r, nI 2, nI q, K).fst 2)), (r, nI 2, nI q, K).snd) : KS).2.2.1 + 1 then 4 else ((vup (r, nI 2, nI q, K).fst 2 (cp c ((r, nI 2, nI q, K).fst 2)), (r, nI 2, nI q, K).snd) : KS).2.2.1 + 1) = nI (if q < 4 then q + 1 else 4) from min4 hq]
    refine Rch.go rfl ?_
    refine Rch.rv rfl rfl (by decide) (by decide) ⟨rfl, ?_⟩
    show HP c (vup r 2 (cp c (r 2)), nI 2 + 1 - (nI 2 + 1) / 4 * 4, nI (if q < 4 then q + 1 else 4), K) s L e = _
    rw [show nI 2 + 1 - (nI 2 + 1) / 4 * 4 = nI ((2 + 1) % 4) by decide]
    rfl
  | 3, _ =>
    refine Rch.go rfl ?_
    refine Rch.z_lt rfl (fun z => absurd (show nI 3 < 0 from z) (by decide)) (fun _ => ?_)
    refine Rch.go rfl ?_
    refine Rch.i_lt rfl (fun _ => ?_) (fun z => absurd (show nI 3 < 4 by decide) z)
    refine Rch.go rfl ?_
    refine Rch.st 1 (τ := (26, [(0, .ref 3), (1, .ref 1)], [.ref (5 + 3), .ref 1], HP c (r, nI 3, nI q, K) s L e, 0, 0)) rfl ?_
    refine Rch.call 0 (t_X6_copyTo__r3 c _ s L e) rfl rfl g_X0_25 om_X6_copyTo rfl (fun _ _ _ q => q) rfl rfl rfl rfl ⟨rfl, rfl⟩ ⟨by decide, by decide⟩ (fun _ _ q => by obtain ⟨_, rfl⟩ := q; first | with_reducible rfl | rw [HP_len, HP_len]) (fun rv9 h9 q9 => ?_)
    obtain ⟨rfl, rfl⟩ := q9
    refine Rch.go rfl ?_
    refine Rch.min rfl (by decide +kernel) rfl rfl rfl (by decide) (by decide) ?_
    rw [show (if (4 : Int32) < ((vup (r, nI 3, nI q, K).fst 3 (cp c ((r, nI 3, nI q, K).fst 3)), (r, nI 3, nI q, K).snd) : KS).2.2.1 + 1 then 4 else ((vup (r, nI 3, nI q, K).fst 3 (cp c ((r, nI 3, nI q, K).fst 3)), (r, nI 3, nI q, K).snd) : KS).2.2.1 + 1) = nI (if q < 4 then q + 1 else 4) from min4 hq]
    refine Rch.go rfl ?_
    refine Rch.rv rfl rfl (by decide) (by decide) ⟨rfl, ?_⟩
    show HP c (vup r 3 (cp c (r 3)), nI 3 + 1 - (nI 3 + 1) / 4 * 4, nI (if q < 4 then q + 1 else 4), K) s L e = _
    rw [show nI 3 + 1 - (nI 3 + 1) / 4 * 4 = nI ((3 + 1) % 4) by decide]
    rfl
theorem t_X0_bringBack (c : FA) (r : Nat → FA) (K : FA × Int32 × FA × Int32 × FA × FA × Int32 × Int32) (s : FA) (L : LS9) (e : AH) {n q : Nat} (hn : n < 4) (hq0 : 0 < q) (hq : q ≤ 4) : Ct m_X0_bringBack X0 [.ref 3, .ref 1] (HP c (r, nI n, nI q, K) s L e) (fun rv h => rv = none ∧ h = HP (cp (r ((n + 3) % 4)) c) (r, nI ((n + 3) % 4), nI (q - 1), K) s L e) := by
  refine ⟨ok_X0_bringBack, ?_⟩
  have e1 : nI q - 1 = nI (q - 1) := by
    obtain ⟨q, rfl⟩ : ∃ p, q = p + 1 := ⟨q - 1, by omega⟩
    exact nI_pred q
  rw [← e1]
  match n, hn with
  | 0, _ =>
    refine Rch.go rfl ?_
    refine Rch.eq (τ := (15, [(0, .ref 3), (1, .ref 1), (2, .int (nI ((0 + 3) % 4)))], [.int (nI q)], HP c (r, nI 0, nI q, K) s L e, 0, 0)) (by
      show _ = ((15, [(0, .ref 3), (1, .ref 1), (2, .int (nI 0 + 4 - 1 - (nI 0 + 4 - 1) / 4 * 4))], [.int (nI q)], HP c (r, nI 0, nI q, K) s L e, 0, 0) : AS)
      rw [show nI 0 + 4 - 1 - (nI 0 + 4 - 1) / 4 * 4 = nI ((0 + 3) % 4) by decide]) ?_
    refine Rch.z_eq rfl (fun z => absurd z (nI_ne0 hq0 (by omega))) (fun _ => ?_)
    refine Rch.go rfl ?_
    refine Rch.z_lt rfl (fun z => absurd z (by decide)) (fun _ => ?_)
    refine Rch.go rfl ?_
    refine Rch.i_lt rfl (fun _ => ?_) (fun z => absurd (by decide) z)
    refine Rch.go rfl ?_
    refine Rch.st 1 (τ := (35, [(0, .ref 3), (1, .ref 1), (2, .int (nI ((0 + 3) % 4)))], [.ref (5 + (0 + 3) % 4), .ref 1], HP c (r, nI 0, nI q, K) s L e, 0, 0)) rfl ?_
    refine Rch.call 0 (t_X6_copyFrom__r3 c _ s L e) rfl rfl g_X0_35 om_X6_copyFrom rfl (fun _ _ _ q => q) rfl rfl rfl rfl ⟨rfl, rfl⟩ ⟨by decide, by decide⟩ (fun _ _ q => by obtain ⟨_, rfl⟩ := q; first | with_reducible rfl | rw [HP_len, HP_len]) (fun rv9 h9 q9 => ?_)
    obtain ⟨rfl, rfl⟩ := q9
    refine Rch.go rfl ?_
    exact Rch.rv rfl rfl (by decide) (by decide) ⟨rfl, rfl⟩
  | 1, _ =>
    refine Rch.go rfl ?_
    refine Rch.eq (τ := (15, [(0, .ref 3), (1, .ref 1), (2, .int (nI ((1 + 3) % 4)))], [.int (nI q)], HP c (r, nI 1, nI q, K) s L e, 0, 0)) (by
      show _ = ((15, [(0, .ref 3), (1, .ref 1), (2, .int (nI 1 + 4 - 1 - (nI 1 + 4 - 1) / 4 * 4))], [.int (nI q)], HP c (r, nI 1, nI q, K) s L e, 0, 0) : AS)
      rw [show nI 1 + 4 - 1 - (nI 1 + 4 - 1) / 4 * 4 = nI ((1 + 3) % 4) by decide]) ?_
    refine Rch.z_eq rfl (fun z => absurd z (nI_ne0 hq0 (by omega))) (fun _ => ?_)
    refine Rch.go rfl ?_
    refine Rch.z_lt rfl (fun z => absurd z (by decide)) (fun _ => ?_)
    refine Rch.go rfl ?_
    refine Rch.i_lt rfl (fun _ => ?_) (fun z => absurd (by decide) z)
    refine Rch.go rfl ?_
    refine Rch.st 1 (τ := (35, [(0, .ref 3), (1, .ref 1), (2, .int (nI ((1 + 3) % 4)))], [.ref (5 + (1 + 3) % 4), .ref 1], HP c (r, nI 1, nI q, K) s L e, 0, 0)) rfl ?_
    refine Rch.call 0 (t_X6_copyFrom__r0 c _ s L e) rfl rfl g_X0_35 om_X6_copyFrom rfl (fun _ _ _ q => q) rfl rfl rfl rfl ⟨rfl, rfl⟩ ⟨by decide, by decide⟩ (fun _ _ q => by obtain ⟨_, rfl⟩ := q; first | with_reducible rfl | rw [HP_len, HP_len]) (fun rv9 h9 q9 => ?_)
    obtain ⟨rfl, rfl⟩ := q9
    refine Rch.go rfl ?_
    exact Rch.rv rfl rfl (by decide) (by decide) ⟨rfl, rfl⟩
  | 2, _ =>
    refine Rch.go rfl ?_
    refine Rch.eq (τ := (15, [(0, .ref 3), (1, .ref 1), (2, .int (nI ((2 + 3) % 4)))], [.int (nI q)], HP c (r, nI 2, nI q, K) s L e, 0, 0)) (by
      show _ = ((15, [(0, .ref 3), (1, .ref 1), (2, .int (nI 2 + 4 - 1 - (nI 2 + 4 - 1) / 4 * 4))], [.int (nI q)], HP c (r, nI 2, nI q, K) s L e, 0, 0) : AS)
      rw [show nI 2 + 4 - 1 - (nI 2 + 4 - 1) / 4 * 4 = nI ((2 + 3) % 4) by decide]) ?_
    refine Rch.z_eq rfl (fun z => absurd z (nI_ne0 hq0 (by omega))) (fun _ => ?_)
    refine Rch.go rfl ?_
    refine Rch.z_lt rfl (fun z => absurd z (by decide)) (fun _ => ?_)
    refine Rch.go rfl ?_
    refine Rch.i_lt rfl (fun _ => ?_) (fun z => absurd (by decide) z)
    refine Rch.go rfl ?_
    refine Rch.st 1 (τ := (35, [(0, .ref 3), (1, .ref 1), (2, .int (nI ((2 + 3) % 4)))], [.ref (5 + (2 + 3) % 4), .ref 1], HP c (r, nI 2, nI q, K) s L e, 0, 0)) rfl ?_
    refine Rch.call 0 (t_X6_copyFrom__r1 c _ s L e) rfl rfl g_X0_35 om_X6_copyFrom rfl (fun _ _ _ q => q) rfl rfl rfl rfl ⟨rfl, rfl⟩ ⟨by decide, by decide⟩ (fun _ _ q => by obtain ⟨_, rfl⟩ := q; first | with_reducible rfl | rw [HP_len, HP_len]) (fun rv9 h9 q9 => ?_)
    obtain ⟨rfl, rfl⟩ := q9
    refine Rch.go rfl ?_
    exact Rch.rv rfl rfl (by decide) (by decide) ⟨rfl, rfl⟩
  | 3, _ =>
    refine Rch.go rfl ?_
    refine Rch.eq (τ := (15, [(0, .ref 3), (1, .ref 1), (2, .int (nI ((3 + 3) % 4)))], [.int (nI q)], HP c (r, nI 3, nI q, K) s L e, 0, 0)) (by
      show _ = ((15, [(0, .ref 3), (1, .ref 1), (2, .int (nI 3 + 4 - 1 - (nI 3 + 4 - 1) / 4 * 4))], [.int (nI q)], HP c (r, nI 3, nI q, K) s L e, 0, 0) : AS)
      rw [show nI 3 + 4 - 1 - (nI 3 + 4 - 1) / 4 * 4 = nI ((3 + 3) % 4) by decide]) ?_
    refine Rch.z_eq rfl (fun z => absurd z (nI_ne0 hq0 (by omega))) (fun _ => ?_)
    refine Rch.go rfl ?_
    refine Rch.z_lt rfl (fun z => absurd z (by decide)) (fun _ => ?_)
    refine Rch.go rfl ?_
    refine Rch.i_lt rfl (fun _ => ?_) (fun z => absurd (by decide) z)
    refine Rch.go rfl ?_
    refine Rch.st 1 (τ := (35, [(0, .ref 3), (1, .ref 1), (2, .int (nI ((3 + 3) % 4)))], [.ref (5 + (3 + 3) % 4), .ref 1], HP c (r, nI 3, nI q, K) s L e, 0, 0)) rfl ?_
    refine Rch.call 0 (t_X6_copyFrom__r2 c _ s L e) rfl rfl g_X0_35 om_X6_copyFrom rfl (fun _ _ _ q => q) rfl rfl rfl rfl ⟨rfl, rfl⟩ ⟨by decide, by decide⟩ (fun _ _ q => by obtain ⟨_, rfl⟩ := q; first | with_reducible rfl | rw [HP_len, HP_len]) (fun rv9 h9 q9 => ?_)
    obtain ⟨rfl, rfl⟩ := q9
    refine Rch.go rfl ?_
    exact Rch.rv rfl rfl (by decide) (by decide) ⟨rfl, rfl⟩
