/-! ===== the barge's own methods: acts ===== -/
abbrev KR : Type := FA × Int32 × FA × Int32 × FA × FA × Int32 × Int32
def hA (c : FA) (r : Nat → FA) (n q : Nat) (K : KR) (s : FA) (L : LS9) (o : Option FA) : AH := match o with
  | none => HP c (r, nI n, nI q, K) s L []
  | some c' => HP c' (rc9 c (r, nI n, nI q, K) n q) s L []
theorem hA_len {c : FA} {r : Nat → FA} {n q : Nat} {K : KR} {s : FA} {L : LS9} (o : Option FA) : (hA c r n q K s L o).length = (HP c (r, nI n, nI q, K) s L []).length := by
  cases o with
  | none => rw [HP_len]; exact HP_len _ _ s L _
  | some c' => rw [HP_len]; exact HP_len _ _ s L _
def ix (v : Int32) : Nat := v.toNatClampNeg
theorem ix_nI {j : Nat} (h : j < 2 ^ 31) : ix (nI j) = j := nI_clamp h
theorem i1 {p : Prop} [Decidable p] (z : ¬ (if p then (1 : Int32) else 0) = 0) : p := Decidable.not_not.mp (fun q => z (if10.mpr q))
theorem i0 {p : Prop} [Decidable p] (z : (if p then (1 : Int32) else 0) = 0) : ¬ p := if10.mp z
theorem rng {v M : Int32} {n : Nat} (hM : M = nI n) (hn : n < 2 ^ 31) (h : 0 ≤ v ∧ v ≤ M) : ∃ j, j ≤ n ∧ v = nI j := nI_of2 (hM ▸ nI_toInt hn) (fun q => absurd h.1 (Int32.not_le.mpr q)) h.2
def chg (c : FA) (j : Nat) (v : Int32) : Int32 × Option FA := if c j = v then (-1005, none) else (c j, some (upd c j v))
def lod (c : FA) (h l sh : Int32) : Int32 × Option FA :=
  if ¬ (0 ≤ h ∧ h ≤ 2) then (-1001, none) else if ¬ (0 ≤ l ∧ l ≤ 300) ∨ ¬ (-3 ≤ sh ∧ sh ≤ 3) then (-1002, none)
  else if c 130 < (wgt c - c (112 + ix h) + l) / 10 then (-1004, none)
  else if c (112 + ix h) = l ∧ c (115 + ix h) = sh then (-1005, none)
  else ((wgt c - c (112 + ix h) + l) / 10, some (upd (upd c (112 + ix h) l) (115 + ix h) sh))
def lek (c : FA) (t l : Int32) : Int32 × Option FA := if ¬ (0 ≤ t ∧ t ≤ 7) then (-1001, none) else if ¬ (0 ≤ l ∧ l ≤ 9) then (-1002, none) else chg c (8 + ix t) l
def sgr (c : FA) (g x : Int32) : Int32 × Option FA := if ¬ (0 ≤ g ∧ g ≤ 4) then (-1001, none) else if ¬ (1 ≤ x ∧ x ≤ 255) then (-1002, none) else chg c (118 + ix g) x
def leS (k : Nat) : Int32 := [(1 : Int32), 2, 50].getD k 0
def moS (k : Nat) : Int32 := [(9 : Int32), 99, 200].getD k 0
def stt (c : FA) (w v : Int32) : Int32 × Option FA := if ¬ (0 ≤ w ∧ w ≤ 2) ∨ ¬ (leS (ix w) ≤ v ∧ v ≤ moS (ix w)) then (-1002, none) else chg c (128 + ix w) v
def rby (k b : Int32) : Prop := if k = 0 ∨ k = 1 then 0 ≤ b ∧ b ≤ 4 else 1 ≤ b ∧ b ≤ 60
def ord (c : FA) (k b : Int32) (N : Nat) : Int32 × Option FA := if 12 ≤ N then (-1003, none) else (nI N + 1, some (upd (pat c N k b) 155 (nI N + 1)))
def stq (c : FA) (k : Int32) (N : Nat) : Int32 × Option FA := if ¬ (0 ≤ k ∧ k ≤ 4) then (-1002, none) else if hasB c k N = false then (-1005, none) else (nI N - nI (stk c k N).2, some (upd (stk c k N).1 155 (nI (stk c k N).2)))
def pas (c : FA) (m : Int32) (r : Nat) : Int32 × Option FA := if ¬ (1 ≤ m ∧ m ≤ 200) then (-1002, none) else (lst (mns (-1) (opn c 5) r c (ix m)), some (mns (-1) (opn c 5) r c (ix m)))
def sou (c : FA) (t : Int32) : Int32 × Option FA := if ¬ (0 ≤ t ∧ t ≤ 7) then (-1001, none) else (snd9 c (ix t) (ix t), some (snd9 c (ix t)))
section MA
theorem t_X8_isWithin (v lo hi : Int32) (h0 : AH) : Ct m_X8_isWithin X0 [.int v, .int lo, .int hi] h0 (fun rv h => rv = some (.int (if lo ≤ v ∧ v ≤ hi then 1 else 0)) ∧ h = h0) := by
  refine ⟨ok_X8_isWithin, ?_⟩
  refine Rch.go rfl ?_
  refine Rch.i_lt rfl (fun z => ?_) (fun z => ?_)
  · refine Rch.go rfl ?_
    exact Rch.ri rfl rfl rfl (by decide) (by decide) ⟨by rw [if_neg (fun q => Int32.not_le.mpr z q.1)], rfl⟩
  · refine Rch.go rfl ?_
    refine Rch.i_gt rfl (fun z2 => ?_) (fun z2 => ?_)
    · refine Rch.go rfl ?_
      exact Rch.ri rfl rfl rfl (by decide) (by decide) ⟨by rw [if_neg (fun q => Int32.not_le.mpr z2 q.2)], rfl⟩
    · refine Rch.go rfl ?_
      exact Rch.ri rfl rfl rfl (by decide) (by decide) ⟨by rw [if_pos ⟨nlt_le z, nlt_le z2⟩], rfl⟩
theorem t_X8_isRightBy (k b : Int32) (h0 : AH) : Ct m_X8_isRightBy X0 [.int k, .int b] h0 (fun rv h => (rv = some (.int 1) ∧ rby k b ∨ rv = some (.int 0) ∧ ¬ rby k b) ∧ h = h0) := by
  refine ⟨ok_X8_isRightBy, ?_⟩
  refine Rch.go rfl ?_
  refine Rch.call 1 (t_X8_isValve _ _) rfl rfl g_X8_187 om_X8_isValve rfl (fun _ _ _ q => q) rfl rfl rfl rfl ⟨rfl, rfl⟩ ⟨by decide, by decide⟩ (fun _ _ q => by obtain ⟨_, rfl⟩ := q; first | with_reducible rfl | (rw [HP_len, HP_len]; done) | rfl) (fun rv9 h9 q9 => ?_)
  obtain ⟨rfl, rfl⟩ := q9
  refine Rch.z_eq rfl (fun z => ?_) (fun z => ?_)
  · have e1 : rby k b = (1 ≤ b ∧ b ≤ 60) := if_neg (i0 z)
    refine Rch.go rfl ?_
    refine Rch.call 1 (t_X8_isWithin _ _ _ _) rfl rfl g_X8_34 om_X8_isWithin rfl (fun _ _ _ q => q) rfl rfl rfl rfl ⟨rfl, rfl⟩ ⟨by decide, by decide⟩ (fun _ _ q => by obtain ⟨_, rfl⟩ := q; first | with_reducible rfl | (rw [HP_len, HP_len]; done) | rfl) (fun rv9 h9 q9 => ?_)
    obtain ⟨rfl, rfl⟩ := q9
    refine Rch.go rfl ?_
    rw [e1]
    by_cases w : 1 ≤ b ∧ b ≤ 60
    · rw [if_pos w]
      exact Rch.ri rfl rfl rfl (by decide) (by decide) (⟨Or.inl ⟨rfl, w⟩, rfl⟩)
    · rw [if_neg w]
      exact Rch.ri rfl rfl rfl (by decide) (by decide) (⟨Or.inr ⟨rfl, w⟩, rfl⟩)
  · have e1 : rby k b = (0 ≤ b ∧ b ≤ 4) := if_pos (i1 z)
    refine Rch.go rfl ?_
    refine Rch.call 1 (t_X8_isWithin _ _ _ _) rfl rfl g_X8_34 om_X8_isWithin rfl (fun _ _ _ q => q) rfl rfl rfl rfl ⟨rfl, rfl⟩ ⟨by decide, by decide⟩ (fun _ _ q => by obtain ⟨_, rfl⟩ := q; first | with_reducible rfl | (rw [HP_len, HP_len]; done) | rfl) (fun rv9 h9 q9 => ?_)
    obtain ⟨rfl, rfl⟩ := q9
    refine Rch.go rfl ?_
    rw [e1]
    by_cases w : 0 ≤ b ∧ b ≤ 4
    · rw [if_pos w]
      exact Rch.ri rfl rfl rfl (by decide) (by decide) (⟨Or.inl ⟨rfl, w⟩, rfl⟩)
    · rw [if_neg w]
      exact Rch.ri rfl rfl rfl (by decide) (by decide) (⟨Or.inr ⟨rfl, w⟩, rfl⟩)
theorem t_X8_change (c : FA) (r : Nat → FA) (K : KR) (s : FA) (L : LS9) {n q : Nat} (hn : n < 4) (hq : q ≤ 4) {i : Int32} {j : Nat} (v : Int32) (hi : i = nI j) (hj : j < 162) : Ct m_X8_change X0 [.ref 0, .int i, .int v] (HP c (r, nI n, nI q, K) s L []) (fun rv h => rv = some (.int (chg c j v).1) ∧ h = hA c r n q K s L (chg c j v).2) := by
  refine ⟨ok_X8_change, ?_⟩
  refine Rch.go rfl ?_
  refine Rch.call 0 (t_X6_at c _ s L _ hi hj) rfl rfl g_X8_38 om_X6_at rfl (fun _ _ _ q => q) rfl rfl rfl rfl ⟨rfl, rfl⟩ ⟨by decide, by decide⟩ (fun _ _ q => by obtain ⟨_, rfl⟩ := q; first | with_reducible rfl | (rw [HP_len, HP_len]; done) | rfl) (fun rv9 h9 q9 => ?_)
  obtain ⟨rfl, rfl⟩ := q9
  refine Rch.go rfl ?_
  refine Rch.i_ne rfl (fun z => ?_) (fun z => ?_)
  · rw [show chg c j v = _ from if_pos z]
    refine Rch.go rfl ?_
    exact Rch.ri rfl rfl rfl (by decide) (by decide) ⟨rfl, rfl⟩
  · rw [show chg c j v = _ from if_neg z]
    refine Rch.go rfl ?_
    refine Rch.call 0 (t_X0_record c r K s L _ hn hq) rfl rfl g_X8_49 om_X0_record rfl (fun _ _ _ q => q) rfl rfl rfl rfl ⟨rfl, rfl⟩ ⟨by decide, by decide⟩ (fun _ _ q => by obtain ⟨_, rfl⟩ := q; first | with_reducible rfl | (rw [HP_len, HP_len]; done) | rfl) (fun rv9 h9 q9 => ?_)
    obtain ⟨rfl, rfl⟩ := q9
    refine Rch.go rfl ?_
    refine Rch.call 0 (t_X6_put c _ s L _ _ hi hj) rfl rfl g_X8_53 om_X6_put rfl (fun _ _ _ q => q) rfl rfl rfl rfl ⟨rfl, rfl⟩ ⟨by decide, by decide⟩ (fun _ _ q => by obtain ⟨_, rfl⟩ := q; first | with_reducible rfl | (rw [HP_len, HP_len]; done) | rfl) (fun rv9 h9 q9 => ?_)
    obtain ⟨rfl, rfl⟩ := q9
    refine Rch.go rfl ?_
    exact Rch.ri rfl rfl rfl (by decide) (by decide) ⟨rfl, rfl⟩
theorem t_X8_load (c : FA) (r : Nat → FA) (K : KR) (s : FA) (L : LS9) {n q : Nat} (hn : n < 4) (hq : q ≤ 4) (h l sh : Int32) : Ct m_X8_load X0 [.ref 0, .int h, .int l, .int sh] (HP c (r, nI n, nI q, K) s L []) (fun rv h9 => rv = some (.int (lod c h l sh).1) ∧ h9 = hA c r n q K s L (lod c h l sh).2) := by
  refine ⟨ok_X8_load, ?_⟩
  refine Rch.go rfl ?_
  refine Rch.call 1 (t_X8_isWithin _ _ _ _) rfl rfl g_X8_34 om_X8_isWithin rfl (fun _ _ _ q => q) rfl rfl rfl rfl ⟨rfl, rfl⟩ ⟨by decide, by decide⟩ (fun _ _ q => by obtain ⟨_, rfl⟩ := q; first | with_reducible rfl | (rw [HP_len, HP_len]; done) | rfl) (fun rv9 h9 q9 => ?_)
  obtain ⟨rfl, rfl⟩ := q9
  refine Rch.z_ne rfl (fun z => ?_) (fun z => ?_)
  · rw [show lod c h l sh = _ from if_pos (i0 z)]
    refine Rch.go rfl ?_
    exact Rch.ri rfl rfl rfl (by decide) (by decide) ⟨rfl, rfl⟩
  have w := i1 z
  obtain ⟨j, hj, rfl⟩ := rng (n := 2) rfl (by decide) w
  have ej : ix (nI j) = j := ix_nI (by omega)
  refine Rch.go rfl ?_
  refine Rch.call 1 (t_X8_isWithin _ _ _ _) rfl rfl g_X8_34 om_X8_isWithin rfl (fun _ _ _ q => q) rfl rfl rfl rfl ⟨rfl, rfl⟩ ⟨by decide, by decide⟩ (fun _ _ q => by obtain ⟨_, rfl⟩ := q; first | with_reducible rfl | (rw [HP_len, HP_len]; done) | rfl) (fun rv9 h9 q9 => ?_)
  obtain ⟨rfl, rfl⟩ := q9
  refine Rch.z_eq rfl (fun z1 => ?_) (fun z1 => ?_)
  · rw [show lod c (nI j) l sh = (-1002, none) by unfold lod; rw [if_neg (fun q => q w), if_pos (Or.inl (i0 z1))]]
    refine Rch.go rfl ?_
    exact Rch.ri rfl rfl rfl (by decide) (by decide) ⟨rfl, rfl⟩
  refine Rch.go rfl ?_
  refine Rch.call 1 (t_X8_isWithin _ _ _ _) rfl rfl g_X8_34 om_X8_isWithin rfl (fun _ _ _ q => q) rfl rfl rfl rfl ⟨rfl, rfl⟩ ⟨by decide, by decide⟩ (fun _ _ q => by obtain ⟨_, rfl⟩ := q; first | with_reducible rfl | (rw [HP_len, HP_len]; done) | rfl) (fun rv9 h9 q9 => ?_)
  obtain ⟨rfl, rfl⟩ := q9
  refine Rch.z_ne rfl (fun z2 => ?_) (fun z2 => ?_)
  · rw [show lod c (nI j) l sh = (-1002, none) by unfold lod; rw [if_neg (fun q => q w), if_pos (Or.inr (i0 z2))]]
    refine Rch.go rfl ?_
    exact Rch.ri rfl rfl rfl (by decide) (by decide) ⟨rfl, rfl⟩
  have w2 : ¬ (¬ (0 ≤ l ∧ l ≤ 300) ∨ ¬ (-3 ≤ sh ∧ sh ≤ 3)) := fun q => q.elim (fun q => q (i1 z1)) (fun q => q (i1 z2))
  refine Rch.go rfl ?_
  refine Rch.call 0 (t_X6_at c _ s L _ (nI_add 112 j) (by omega)) rfl rfl g_X8_38 om_X6_at rfl (fun _ _ _ q => q) rfl rfl rfl rfl ⟨rfl, rfl⟩ ⟨by decide, by decide⟩ (fun _ _ q => by obtain ⟨_, rfl⟩ := q; first | with_reducible rfl | (rw [HP_len, HP_len]; done) | rfl) (fun rv9 h9 q9 => ?_)
  obtain ⟨rfl, rfl⟩ := q9
  refine Rch.go rfl ?_
  refine Rch.call 0 (t_X6_weight c _ s L _) rfl rfl g_X8_42 om_X6_weight rfl (fun _ _ _ q => q) rfl rfl rfl rfl ⟨rfl, rfl⟩ ⟨by decide, by decide⟩ (fun _ _ q => by obtain ⟨_, rfl⟩ := q; first | with_reducible rfl | (rw [HP_len, HP_len]; done) | rfl) (fun rv9 h9 q9 => ?_)
  obtain ⟨rfl, rfl⟩ := q9
  refine Rch.go rfl ?_
  refine Rch.call 1 (t_X6_draughtOf _ _) rfl rfl g_X8_46 om_X6_draughtOf rfl (fun _ _ _ q => q) rfl rfl rfl rfl ⟨rfl, rfl⟩ ⟨by decide, by decide⟩ (fun _ _ q => by obtain ⟨_, rfl⟩ := q; first | with_reducible rfl | (rw [HP_len, HP_len]; done) | rfl) (fun rv9 h9 q9 => ?_)
  obtain ⟨rfl, rfl⟩ := q9
  refine Rch.go rfl ?_
  refine Rch.call 0 (t_X6_at c _ s L _ (j := 130) rfl (by decide)) rfl rfl g_X8_38 om_X6_at rfl (fun _ _ _ q => q) rfl rfl rfl rfl ⟨rfl, rfl⟩ ⟨by decide, by decide⟩ (fun _ _ q => by obtain ⟨_, rfl⟩ := q; first | with_reducible rfl | (rw [HP_len, HP_len]; done) | rfl) (fun rv9 h9 q9 => ?_)
  obtain ⟨rfl, rfl⟩ := q9
  refine Rch.i_le rfl (fun z3 => ?_) (fun z3 => ?_)
  rotate_left
  · rw [show lod c (nI j) l sh = (-1004, none) by unfold lod; rw [if_neg (fun q => q w), if_neg w2, ej, if_pos (nle_lt z3)]]
    refine Rch.go rfl ?_
    exact Rch.ri rfl rfl rfl (by decide) (by decide) ⟨rfl, rfl⟩
  have z3 := Int32.not_lt.mpr z3
  refine Rch.go rfl ?_
  have fin : ¬ (c (112 + j) = l ∧ c (115 + j) = sh) → Rch m_X8_load X0 (120, [(0, .ref 0), (1, .int (nI j)), (2, .int l), (3, .int sh), (4, .int (c (112 + j))), (5, .int ((wgt c - c (112 + j) + l) / 10))], [.ref 1, .ref 3], HP c (r, nI n, nI q, K) s L [], 0, 0) (RetP m_X8_load (fun rv h9 => rv = some (.int (lod c (nI j) l sh).1) ∧ h9 = hA c r n q K s L (lod c (nI j) l sh).2)) := by
    intro z4
    rw [show lod c (nI j) l sh = _ by unfold lod; rw [if_neg (fun q => q w), if_neg w2, ej, if_neg z3, if_neg z4]]
    refine Rch.call 0 (t_X0_record c r K s L _ hn hq) rfl rfl g_X8_49 om_X0_record rfl (fun _ _ _ q => q) rfl rfl rfl rfl ⟨rfl, rfl⟩ ⟨by decide, by decide⟩ (fun _ _ q => by obtain ⟨_, rfl⟩ := q; first | with_reducible rfl | (rw [HP_len, HP_len]; done) | rfl) (fun rv9 h9 q9 => ?_)
    obtain ⟨rfl, rfl⟩ := q9
    refine Rch.go rfl ?_
    refine Rch.call 0 (t_X6_put c _ s L _ _ (nI_add 112 j) (by omega)) rfl rfl g_X8_53 om_X6_put rfl (fun _ _ _ q => q) rfl rfl rfl rfl ⟨rfl, rfl⟩ ⟨by decide, by decide⟩ (fun _ _ q => by obtain ⟨_, rfl⟩ := q; first | with_reducible rfl | (rw [HP_len, HP_len]; done) | rfl) (fun rv9 h9 q9 => ?_)
    obtain ⟨rfl, rfl⟩ := q9
    refine Rch.go rfl ?_
    refine Rch.call 0 (t_X6_put _ _ s L _ _ (nI_add 115 j) (by omega)) rfl rfl g_X8_53 om_X6_put rfl (fun _ _ _ q => q) rfl rfl rfl rfl ⟨rfl, rfl⟩ ⟨by decide, by decide⟩ (fun _ _ q => by obtain ⟨_, rfl⟩ := q; first | with_reducible rfl | (rw [HP_len, HP_len]; done) | rfl) (fun rv9 h9 q9 => ?_)
    obtain ⟨rfl, rfl⟩ := q9
    refine Rch.go rfl ?_
    exact Rch.ri rfl rfl rfl (by decide) (by decide) ⟨rfl, rfl⟩
  refine Rch.i_ne rfl (fun z4 => ?_) (fun z4 => ?_)
  · refine Rch.go rfl ?_
    refine Rch.call 0 (t_X6_at c _ s L _ (nI_add 115 j) (by omega)) rfl rfl g_X8_38 om_X6_at rfl (fun _ _ _ q => q) rfl rfl rfl rfl ⟨rfl, rfl⟩ ⟨by decide, by decide⟩ (fun _ _ q => by obtain ⟨_, rfl⟩ := q; first | with_reducible rfl | (rw [HP_len, HP_len]; done) | rfl) (fun rv9 h9 q9 => ?_)
    obtain ⟨rfl, rfl⟩ := q9
    refine Rch.go rfl ?_
    refine Rch.i_ne rfl (fun z5 => ?_) (fun z5 => ?_)
    · rw [show lod c (nI j) l sh = (-1005, none) by unfold lod; rw [if_neg (fun q => q w), if_neg w2, ej, if_neg z3, if_pos ⟨z4, z5⟩]]
      refine Rch.go rfl ?_
      exact Rch.ri rfl rfl rfl (by decide) (by decide) ⟨rfl, rfl⟩
    · exact Rch.go rfl (fin (fun q => z5 q.2))
  · exact Rch.go rfl (fin (fun q => z4 q.1))
theorem t_X8_leak (c : FA) (r : Nat → FA) (K : KR) (s : FA) (L : LS9) {n q : Nat} (hn : n < 4) (hq : q ≤ 4) (t l : Int32) : Ct m_X8_leak X0 [.ref 0, .int t, .int l] (HP c (r, nI n, nI q, K) s L []) (fun rv h9 => rv = some (.int (lek c t l).1) ∧ h9 = hA c r n q K s L (lek c t l).2) := by
  refine ⟨ok_X8_leak, ?_⟩
  refine Rch.go rfl ?_
  refine Rch.call 1 (t_X8_isWithin _ _ _ _) rfl rfl g_X8_34 om_X8_isWithin rfl (fun _ _ _ q => q) rfl rfl rfl rfl ⟨rfl, rfl⟩ ⟨by decide, by decide⟩ (fun _ _ q => by obtain ⟨_, rfl⟩ := q; first | with_reducible rfl | (rw [HP_len, HP_len]; done) | rfl) (fun rv9 h9 q9 => ?_)
  obtain ⟨rfl, rfl⟩ := q9
  refine Rch.z_ne rfl (fun z => ?_) (fun z => ?_)
  · rw [show lek c t l = _ from if_pos (i0 z)]
    refine Rch.go rfl ?_
    exact Rch.ri rfl rfl rfl (by decide) (by decide) ⟨rfl, rfl⟩
  have w := i1 z
  obtain ⟨j, hj, rfl⟩ := rng (n := 7) rfl (by decide) w
  have ej : ix (nI j) = j := ix_nI (by omega)
  refine Rch.go rfl ?_
  refine Rch.call 1 (t_X8_isWithin _ _ _ _) rfl rfl g_X8_34 om_X8_isWithin rfl (fun _ _ _ q => q) rfl rfl rfl rfl ⟨rfl, rfl⟩ ⟨by decide, by decide⟩ (fun _ _ q => by obtain ⟨_, rfl⟩ := q; first | with_reducible rfl | (rw [HP_len, HP_len]; done) | rfl) (fun rv9 h9 q9 => ?_)
  obtain ⟨rfl, rfl⟩ := q9
  refine Rch.z_ne rfl (fun z1 => ?_) (fun z1 => ?_)
  · rw [show lek c (nI j) l = (-1002, none) by unfold lek; rw [if_neg (fun q => q w), if_pos (i0 z1)]]
    refine Rch.go rfl ?_
    exact Rch.ri rfl rfl rfl (by decide) (by decide) ⟨rfl, rfl⟩
  have w1 := i1 z1
  rw [show lek c (nI j) l = chg c (8 + j) l by unfold lek; rw [if_neg (fun q => q w), if_neg (fun q => q w1), ej]]
  refine Rch.go rfl ?_
  refine Rch.call 0 (t_X8_change c r K s L hn hq l (nI_add 8 j) (by omega)) rfl rfl g_X8_57 om_X8_change rfl (fun _ _ _ q => q) rfl rfl rfl rfl ⟨rfl, rfl⟩ ⟨by decide, by decide⟩ (fun _ _ q => by obtain ⟨_, rfl⟩ := q; exact hA_len _) (fun rv9 h9 q9 => ?_)
  obtain ⟨rfl, rfl⟩ := q9
  exact Rch.ri rfl rfl rfl (by decide) (by decide) ⟨rfl, rfl⟩
theorem t_X8_setGroup (c : FA) (r : Nat → FA) (K : KR) (s : FA) (L : LS9) {n q : Nat} (hn : n < 4) (hq : q ≤ 4) (t l : Int32) : Ct m_X8_setGroup X0 [.ref 0, .int t, .int l] (HP c (r, nI n, nI q, K) s L []) (fun rv h9 => rv = some (.int (sgr c t l).1) ∧ h9 = hA c r n q K s L (sgr c t l).2) := by
  refine ⟨ok_X8_setGroup, ?_⟩
  refine Rch.go rfl ?_
  refine Rch.call 1 (t_X8_isWithin _ _ _ _) rfl rfl g_X8_34 om_X8_isWithin rfl (fun _ _ _ q => q) rfl rfl rfl rfl ⟨rfl, rfl⟩ ⟨by decide, by decide⟩ (fun _ _ q => by obtain ⟨_, rfl⟩ := q; first | with_reducible rfl | (rw [HP_len, HP_len]; done) | rfl) (fun rv9 h9 q9 => ?_)
  obtain ⟨rfl, rfl⟩ := q9
  refine Rch.z_ne rfl (fun z => ?_) (fun z => ?_)
  · rw [show sgr c t l = _ from if_pos (i0 z)]
    refine Rch.go rfl ?_
    exact Rch.ri rfl rfl rfl (by decide) (by decide) ⟨rfl, rfl⟩
  have w := i1 z
  obtain ⟨j, hj, rfl⟩ := rng (n := 4) rfl (by decide) w
  have ej : ix (nI j) = j := ix_nI (by omega)
  refine Rch.go rfl ?_
  refine Rch.call 1 (t_X8_isWithin _ _ _ _) rfl rfl g_X8_34 om_X8_isWithin rfl (fun _ _ _ q => q) rfl rfl rfl rfl ⟨rfl, rfl⟩ ⟨by decide, by decide⟩ (fun _ _ q => by obtain ⟨_, rfl⟩ := q; first | with_reducible rfl | (rw [HP_len, HP_len]; done) | rfl) (fun rv9 h9 q9 => ?_)
  obtain ⟨rfl, rfl⟩ := q9
  refine Rch.z_ne rfl (fun z1 => ?_) (fun z1 => ?_)
  · rw [show sgr c (nI j) l = (-1002, none) by unfold sgr; rw [if_neg (fun q => q w), if_pos (i0 z1)]]
    refine Rch.go rfl ?_
    exact Rch.ri rfl rfl rfl (by decide) (by decide) ⟨rfl, rfl⟩
  have w1 := i1 z1
  rw [show sgr c (nI j) l = chg c (118 + j) l by unfold sgr; rw [if_neg (fun q => q w), if_neg (fun q => q w1), ej]]
  refine Rch.go rfl ?_
  refine Rch.call 0 (t_X8_change c r K s L hn hq l (nI_add 118 j) (by omega)) rfl rfl g_X8_57 om_X8_change rfl (fun _ _ _ q => q) rfl rfl rfl rfl ⟨rfl, rfl⟩ ⟨by decide, by decide⟩ (fun _ _ q => by obtain ⟨_, rfl⟩ := q; exact hA_len _) (fun rv9 h9 q9 => ?_)
  obtain ⟨rfl, rfl⟩ := q9
  exact Rch.ri rfl rfl rfl (by decide) (by decide) ⟨rfl, rfl⟩
theorem t_X8_set (c : FA) (r : Nat → FA) (K : KR) (s : FA) (L : LS9) {n q : Nat} (hn : n < 4) (hq : q ≤ 4) (t l : Int32) : Ct m_X8_set X0 [.ref 0, .int t, .int l] (HP c (r, nI n, nI q, K) s L []) (fun rv h9 => rv = some (.int (stt c t l).1) ∧ h9 = hA c r n q K s L (stt c t l).2) := by
  refine ⟨ok_X8_set, ?_⟩
  refine Rch.go rfl ?_
  refine Rch.call 1 (t_X8_isWithin _ _ _ _) rfl rfl g_X8_34 om_X8_isWithin rfl (fun _ _ _ q => q) rfl rfl rfl rfl ⟨rfl, rfl⟩ ⟨by decide, by decide⟩ (fun _ _ q => by obtain ⟨_, rfl⟩ := q; first | with_reducible rfl | (rw [HP_len, HP_len]; done) | rfl) (fun rv9 h9 q9 => ?_)
  obtain ⟨rfl, rfl⟩ := q9
  refine Rch.z_eq rfl (fun z => ?_) (fun z => ?_)
  · rw [show stt c t l = _ from if_pos (Or.inl (i0 z))]
    refine Rch.go rfl ?_
    exact Rch.ri rfl rfl rfl (by decide) (by decide) ⟨rfl, rfl⟩
  have w := i1 z
  obtain ⟨j, hj, rfl⟩ := rng (n := 2) rfl (by decide) w
  have ej : ix (nI j) = j := ix_nI (by omega)
  refine Rch.go rfl ?_
  refine Rch.xa rfl rfl rfl rfl (by omega) (by decide) ?_
  refine Rch.go rfl ?_
  refine Rch.xa rfl rfl rfl rfl (by omega) (by decide) ?_
  refine Rch.call 1 (t_X8_isWithin _ (leS j) (moS j) _) rfl rfl g_X8_34 om_X8_isWithin rfl (fun _ _ _ q => q) rfl rfl rfl rfl ⟨rfl, rfl⟩ ⟨by decide, by decide⟩ (fun _ _ q => by obtain ⟨_, rfl⟩ := q; first | with_reducible rfl | (rw [HP_len, HP_len]; done) | rfl) (fun rv9 h9 q9 => ?_)
  obtain ⟨rfl, rfl⟩ := q9
  refine Rch.z_ne rfl (fun z1 => ?_) (fun z1 => ?_)
  · rw [show stt c (nI j) l = (-1002, none) by unfold stt; rw [ej, if_pos (Or.inr (i0 z1))]]
    refine Rch.go rfl ?_
    exact Rch.ri rfl rfl rfl (by decide) (by decide) ⟨rfl, rfl⟩
  have w1 := i1 z1
  rw [show stt c (nI j) l = chg c (128 + j) l by unfold stt; rw [ej, if_neg (fun q => q.elim (fun q => q w) (fun q => q w1))]]
  refine Rch.go rfl ?_
  refine Rch.call 0 (t_X8_change c r K s L hn hq l (nI_add 128 j) (by omega)) rfl rfl g_X8_57 om_X8_change rfl (fun _ _ _ q => q) rfl rfl rfl rfl ⟨rfl, rfl⟩ ⟨by decide, by decide⟩ (fun _ _ q => by obtain ⟨_, rfl⟩ := q; exact hA_len _) (fun rv9 h9 q9 => ?_)
  obtain ⟨rfl, rfl⟩ := q9
  exact Rch.ri rfl rfl rfl (by decide) (by decide) ⟨rfl, rfl⟩
theorem t_X8_order (c : FA) (r : Nat → FA) (K : KR) (s : FA) (L : LS9) {n q : Nat} (hn : n < 4) (hq : q ≤ 4) (k b : Int32) {N : Nat} (hN : c 155 = nI N) (hN2 : N ≤ 12) : Ct m_X8_order X0 [.ref 0, .int k, .int b] (HP c (r, nI n, nI q, K) s L []) (fun rv h9 => ((0 ≤ k ∧ k ≤ 4) ∧ rby k b → rv = some (.int (ord c k b N).1) ∧ h9 = hA c r n q K s L (ord c k b N).2) ∧ (¬ ((0 ≤ k ∧ k ≤ 4) ∧ rby k b) → rv = some (.int (-1002)) ∧ h9 = HP c (r, nI n, nI q, K) s L [])) := by
  refine ⟨ok_X8_order, ?_⟩
  refine Rch.go rfl ?_
  refine Rch.call 1 (t_X8_isWithin _ _ _ _) rfl rfl g_X8_34 om_X8_isWithin rfl (fun _ _ _ q => q) rfl rfl rfl rfl ⟨rfl, rfl⟩ ⟨by decide, by decide⟩ (fun _ _ q => by obtain ⟨_, rfl⟩ := q; first | with_reducible rfl | (rw [HP_len, HP_len]; done) | rfl) (fun rv9 h9 q9 => ?_)
  obtain ⟨rfl, rfl⟩ := q9
  refine Rch.z_eq rfl (fun z => ?_) (fun z => ?_)
  · refine Rch.go rfl ?_
    exact Rch.ri rfl rfl rfl (by decide) (by decide) (⟨fun q => absurd q.1 (i0 z), fun _ => ⟨rfl, rfl⟩⟩)
  have w := i1 z
  refine Rch.go rfl ?_
  refine Rch.call 1 (t_X8_isRightBy _ _ _) rfl rfl g_X8_67 om_X8_isRightBy rfl (fun _ _ _ q => q) rfl rfl rfl rfl ⟨rfl, rfl⟩ ⟨by decide, by decide⟩ (fun _ _ q => by obtain ⟨_, rfl⟩ := q; first | with_reducible rfl | (rw [HP_len, HP_len]; done) | rfl) (fun rv9 h9 q9 => ?_)
  obtain ⟨⟨rfl, hb⟩ | ⟨rfl, hb⟩, rfl⟩ := q9
  rotate_left
  · refine Rch.z_ne rfl (fun _ => ?_) (fun q => absurd rfl q)
    refine Rch.go rfl ?_
    exact Rch.ri rfl rfl rfl (by decide) (by decide) (⟨fun q => absurd q.2 hb, fun _ => ⟨rfl, rfl⟩⟩)
  refine Rch.z_ne rfl (fun q => absurd q (by decide)) (fun _ => ?_)
  refine Rch.go rfl ?_
  refine Rch.call 0 (t_X6_at c _ s L _ (j := 155) rfl (by decide)) rfl rfl g_X8_38 om_X6_at rfl (fun _ _ _ q => q) rfl rfl rfl rfl ⟨rfl, rfl⟩ ⟨by decide, by decide⟩ (fun _ _ q => by obtain ⟨_, rfl⟩ := q; first | with_reducible rfl | (rw [HP_len, HP_len]; done) | rfl) (fun rv9 h9 q9 => ?_)
  obtain ⟨rfl, rfl⟩ := q9
  refine Rch.go rfl ?_
  rw [hN]
  refine Rch.i_lt rfl (fun z => ?_) (fun z => ?_)
  rotate_left
  · have hl : 12 ≤ N := Nat.not_lt.mp (fun q => z ((nI_ltI (by omega) (by decide)).mpr q : nI N < nI 12))
    refine Rch.go rfl ?_
    exact Rch.ri rfl rfl rfl (by decide) (by decide) (⟨fun _ => by rw [show ord c k b N = _ from if_pos hl]; exact ⟨rfl, rfl⟩, fun q => absurd ⟨w, hb⟩ q⟩)
  have hl : N < 12 := (nI_ltI (by omega) (by decide)).mp (show nI N < nI 12 from z)
  refine Rch.go rfl ?_
  refine Rch.call 0 (t_X0_record c r K s L _ hn hq) rfl rfl g_X8_49 om_X0_record rfl (fun _ _ _ q => q) rfl rfl rfl rfl ⟨rfl, rfl⟩ ⟨by decide, by decide⟩ (fun _ _ q => by obtain ⟨_, rfl⟩ := q; first | with_reducible rfl | (rw [HP_len, HP_len]; done) | rfl) (fun rv9 h9 q9 => ?_)
  obtain ⟨rfl, rfl⟩ := q9
  refine Rch.go rfl ?_
  refine Rch.call 1 (t_X2_append c _ s L _ k b hN (by omega)) rfl rfl g_X8_71 om_X2_append rfl (fun _ _ _ q => q) rfl rfl rfl rfl ⟨rfl, rfl⟩ ⟨by decide, by decide⟩ (fun _ _ q => by obtain ⟨_, rfl⟩ := q; first | with_reducible rfl | (rw [HP_len, HP_len]; done) | rfl) (fun rv9 h9 q9 => ?_)
  obtain ⟨rfl, rfl⟩ := q9
  refine Rch.go rfl ?_
  rw [show apd c N k b = _ from if_pos hl]
  refine Rch.call 0 (t_X6_at _ _ s L _ (j := 155) rfl (by decide)) rfl rfl g_X8_38 om_X6_at rfl (fun _ _ _ q => q) rfl rfl rfl rfl ⟨rfl, rfl⟩ ⟨by decide, by decide⟩ (fun _ _ q => by obtain ⟨_, rfl⟩ := q; first | with_reducible rfl | (rw [HP_len, HP_len]; done) | rfl) (fun rv9 h9 q9 => ?_)
  obtain ⟨rfl, rfl⟩ := q9
  exact Rch.ri rfl rfl rfl (by decide) (by decide) (⟨fun _ => by rw [show ord c k b N = _ from if_neg (by omega)]; exact ⟨rfl, rfl⟩, fun q => absurd ⟨w, hb⟩ q⟩)
theorem t_X8_strike (c : FA) (r : Nat → FA) (K : KR) (s : FA) (L : LS9) {n q : Nat} (hn : n < 4) (hq : q ≤ 4) (k : Int32) {N : Nat} (hN : c 155 = nI N) (hN2 : N ≤ 12) : Ct m_X8_strike X0 [.ref 0, .int k] (HP c (r, nI n, nI q, K) s L []) (fun rv h9 => rv = some (.int (stq c k N).1) ∧ h9 = hA c r n q K s L (stq c k N).2) := by
  refine ⟨ok_X8_strike, ?_⟩
  refine Rch.go rfl ?_
  refine Rch.call 1 (t_X8_isWithin _ _ _ _) rfl rfl g_X8_34 om_X8_isWithin rfl (fun _ _ _ q => q) rfl rfl rfl rfl ⟨rfl, rfl⟩ ⟨by decide, by decide⟩ (fun _ _ q => by obtain ⟨_, rfl⟩ := q; first | with_reducible rfl | (rw [HP_len, HP_len]; done) | rfl) (fun rv9 h9 q9 => ?_)
  obtain ⟨rfl, rfl⟩ := q9
  refine Rch.z_ne rfl (fun z => ?_) (fun z => ?_)
  · rw [show stq c k N = _ from if_pos (i0 z)]
    refine Rch.go rfl ?_
    exact Rch.ri rfl rfl rfl (by decide) (by decide) ⟨rfl, rfl⟩
  have w := i1 z
  refine Rch.go rfl ?_
  refine Rch.call 1 (t_X2_has c _ s L _ k hN hN2) rfl rfl g_X8_89 om_X2_has rfl (fun _ _ _ q => q) rfl rfl rfl rfl ⟨rfl, rfl⟩ ⟨by decide, by decide⟩ (fun _ _ q => by obtain ⟨_, rfl⟩ := q; first | with_reducible rfl | (rw [HP_len, HP_len]; done) | rfl) (fun rv9 h9 q9 => ?_)
  obtain ⟨rfl, rfl⟩ := q9
  refine Rch.z_ne rfl (fun z1 => ?_) (fun z1 => ?_)
  · have hf : hasB c k N = false := by
      cases h9 : hasB c k N with
      | false => rfl
      | true => exact absurd h9 (i0 z1)
    rw [show stq c k N = (-1005, none) by unfold stq; rw [if_neg (fun q => q w), if_pos hf]]
    refine Rch.go rfl ?_
    exact Rch.ri rfl rfl rfl (by decide) (by decide) ⟨rfl, rfl⟩
  have ht := i1 z1
  rw [show stq c k N = _ by unfold stq; rw [if_neg (fun q => q w), if_neg (by rw [ht]; decide)]]
  refine Rch.go rfl ?_
  refine Rch.call 0 (t_X0_record c r K s L _ hn hq) rfl rfl g_X8_49 om_X0_record rfl (fun _ _ _ q => q) rfl rfl rfl rfl ⟨rfl, rfl⟩ ⟨by decide, by decide⟩ (fun _ _ q => by obtain ⟨_, rfl⟩ := q; first | with_reducible rfl | (rw [HP_len, HP_len]; done) | rfl) (fun rv9 h9 q9 => ?_)
  obtain ⟨rfl, rfl⟩ := q9
  refine Rch.go rfl ?_
  refine Rch.call 1 (t_X2_strikeOut c _ s L _ k hN hN2) rfl rfl g_X8_93 om_X2_strikeOut rfl (fun _ _ _ q => q) rfl rfl rfl rfl ⟨rfl, rfl⟩ ⟨by decide, by decide⟩ (fun _ _ q => by obtain ⟨_, rfl⟩ := q; first | with_reducible rfl | (rw [HP_len, HP_len]; done) | rfl) (fun rv9 h9 q9 => ?_)
  obtain ⟨rfl, rfl⟩ := q9
  exact Rch.ri rfl rfl rfl (by decide) (by decide) ⟨rfl, rfl⟩
theorem t_X8_pass (c : FA) (r : Nat → FA) (K : KR) (s : FA) (L : LS9) {n q : Nat} (hn : n < 4) (hq : q ≤ 4) (m : Int32) {R : Nat} (hR : c 128 = nI R) (hR2 : R < 2 ^ 31) : Ct m_X8_pass X0 [.ref 0, .int m] (HP c (r, nI n, nI q, K) s L []) (fun rv h9 => rv = some (.int (pas c m R).1) ∧ h9 = hA c r n q K s L (pas c m R).2) := by
  refine ⟨ok_X8_pass, ?_⟩
  refine Rch.go rfl ?_
  refine Rch.call 1 (t_X8_isWithin _ _ _ _) rfl rfl g_X8_34 om_X8_isWithin rfl (fun _ _ _ q => q) rfl rfl rfl rfl ⟨rfl, rfl⟩ ⟨by decide, by decide⟩ (fun _ _ q => by obtain ⟨_, rfl⟩ := q; first | with_reducible rfl | (rw [HP_len, HP_len]; done) | rfl) (fun rv9 h9 q9 => ?_)
  obtain ⟨rfl, rfl⟩ := q9
  refine Rch.z_ne rfl (fun z => ?_) (fun z => ?_)
  · rw [show pas c m R = _ from if_pos (i0 z)]
    refine Rch.go rfl ?_
    exact Rch.ri rfl rfl rfl (by decide) (by decide) ⟨rfl, rfl⟩
  have w := i1 z
  obtain ⟨j, hj, rfl⟩ := rng (n := 200) rfl (by decide) ⟨Int32.le_trans (by decide) w.1, w.2⟩
  have ej : ix (nI j) = j := ix_nI (by omega)
  rw [show pas c (nI j) R = _ by unfold pas; rw [if_neg (fun q => q w), ej]]
  refine Rch.go rfl ?_
  refine Rch.call 0 (t_X0_record c r K s L _ hn hq) rfl rfl g_X8_49 om_X0_record rfl (fun _ _ _ q => q) rfl rfl rfl rfl ⟨rfl, rfl⟩ ⟨by decide, by decide⟩ (fun _ _ q => by obtain ⟨_, rfl⟩ := q; first | with_reducible rfl | (rw [HP_len, HP_len]; done) | rfl) (fun rv9 h9 q9 => ?_)
  obtain ⟨rfl, rfl⟩ := q9
  refine Rch.go rfl ?_
  refine Rch.call 1 (t_X1_run c _ s L _ (-1) (by omega) hR hR2) rfl rfl g_X8_100 om_X1_run rfl (fun _ _ _ q => q) rfl rfl rfl rfl ⟨rfl, rfl⟩ ⟨by decide, by decide⟩ (fun _ _ q => by obtain ⟨_, rfl⟩ := q; first | with_reducible rfl | (rw [HP_len, HP_len]; done) | rfl) (fun rv9 h9 q9 => ?_)
  obtain ⟨rfl, rfl⟩ := q9
  refine Rch.go rfl ?_
  refine Rch.call 0 (t_X6_list _ _ s L _) rfl rfl g_X8_105 om_X6_list rfl (fun _ _ _ q => q) rfl rfl rfl rfl ⟨rfl, rfl⟩ ⟨by decide, by decide⟩ (fun _ _ q => by obtain ⟨_, rfl⟩ := q; first | with_reducible rfl | (rw [HP_len, HP_len]; done) | rfl) (fun rv9 h9 q9 => ?_)
  obtain ⟨rfl, rfl⟩ := q9
  exact Rch.ri rfl rfl rfl (by decide) (by decide) ⟨rfl, rfl⟩
theorem t_X8_sound (c : FA) (r : Nat → FA) (K : KR) (s : FA) (L : LS9) {n q : Nat} (hn : n < 4) (hq : q ≤ 4) (t : Int32) : Ct m_X8_sound X0 [.ref 0, .int t] (HP c (r, nI n, nI q, K) s L []) (fun rv h9 => rv = some (.int (sou c t).1) ∧ h9 = hA c r n q K s L (sou c t).2) := by
  refine ⟨ok_X8_sound, ?_⟩
  refine Rch.go rfl ?_
  refine Rch.call 1 (t_X8_isWithin _ _ _ _) rfl rfl g_X8_34 om_X8_isWithin rfl (fun _ _ _ q => q) rfl rfl rfl rfl ⟨rfl, rfl⟩ ⟨by decide, by decide⟩ (fun _ _ q => by obtain ⟨_, rfl⟩ := q; first | with_reducible rfl | (rw [HP_len, HP_len]; done) | rfl) (fun rv9 h9 q9 => ?_)
  obtain ⟨rfl, rfl⟩ := q9
  refine Rch.z_ne rfl (fun z => ?_) (fun z => ?_)
  · rw [show sou c t = _ from if_pos (i0 z)]
    refine Rch.go rfl ?_
    exact Rch.ri rfl rfl rfl (by decide) (by decide) ⟨rfl, rfl⟩
  have w := i1 z
  obtain ⟨j, hj, rfl⟩ := rng (n := 7) rfl (by decide) w
  have ej : ix (nI j) = j := ix_nI (by omega)
  rw [show sou c (nI j) = _ by unfold sou; rw [if_neg (fun q => q w), ej]]
  refine Rch.go rfl ?_
  refine Rch.call 0 (t_X0_record c r K s L _ hn hq) rfl rfl g_X8_49 om_X0_record rfl (fun _ _ _ q => q) rfl rfl rfl rfl ⟨rfl, rfl⟩ ⟨by decide, by decide⟩ (fun _ _ q => by obtain ⟨_, rfl⟩ := q; first | with_reducible rfl | (rw [HP_len, HP_len]; done) | rfl) (fun rv9 h9 q9 => ?_)
  obtain ⟨rfl, rfl⟩ := q9
  refine Rch.go rfl ?_
  refine Rch.call 1 (t_X5_put c _ s L _ (by omega)) rfl rfl g_X8_108 om_X5_put rfl (fun _ _ _ q => q) rfl rfl rfl rfl ⟨rfl, rfl⟩ ⟨by decide, by decide⟩ (fun _ _ q => by obtain ⟨_, rfl⟩ := q; first | with_reducible rfl | (rw [HP_len, HP_len]; done) | rfl) (fun rv9 h9 q9 => ?_)
  obtain ⟨rfl, rfl⟩ := q9
  refine Rch.go rfl ?_
  refine Rch.call 0 (t_X6_at _ _ s L _ (zadd j) (by omega)) rfl rfl g_X8_38 om_X6_at rfl (fun _ _ _ q => q) rfl rfl rfl rfl ⟨rfl, rfl⟩ ⟨by decide, by decide⟩ (fun _ _ q => by obtain ⟨_, rfl⟩ := q; first | with_reducible rfl | (rw [HP_len, HP_len]; done) | rfl) (fun rv9 h9 q9 => ?_)
  obtain ⟨rfl, rfl⟩ := q9
  exact Rch.ri rfl rfl rfl (by decide) (by decide) ⟨rfl, rfl⟩
end MA
