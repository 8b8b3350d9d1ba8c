/-! ===== the pump, minutes: what they do to the barge's cells ===== -/
def ad (c : FA) (j : Nat) (v : Int32) : FA := upd c j (c j + v)
def abi (x : Int32) : Int32 := if 0 ≤ x then x else 0 - x
def tfi (c : FA) (x : Int32) : Option Nat := match emp c x 8 with
  | none => none
  | some k => if c k < 100 then (if (wgt c + 1) / 10 ≤ c 130 then some k else none) else none
def tem (c : FA) (x : Int32) : Option Nat := match ful c x 8 with
  | none => none
  | some k => if 0 < c k then some k else none
def tlo (c : FA) (x : Int32) : Option Nat := match ful c x 8 with
  | none => none
  | some f => match emp c x 8 with
    | none => none
    | some t => if c f - c t < 2 then none else some f
def mvb (c : FA) (k : Nat) (u : Int32) : FA := ad (ad c k u) (24 + k) 1
def mfu (c : FA) (o : Option Nat) : Option FA := match o with
  | none => none
  | some k => some (ad (mvb c k 1) 157 1)
def meu (c : FA) (o : Option Nat) : Option FA := match o with
  | none => none
  | some k => some (ad (mvb c k (-1)) 158 1)
def mlu (c : FA) (o o2 : Option Nat) : Option FA := match o with
  | none => none
  | some f => match o2 with
    | none => none
    | some t => some (ad (mvb (mvb c f (-1)) t 1) 159 1)
def mvu (m : Int32) (c : FA) (x : Int32) : Option FA :=
  if m = 2 then mfu c (tfi c x) else if m = 3 then meu c (tem c x) else if m = 4 then mlu c (tlo c x) (emp c x 8) else none
def mvr (o : Option FA) : Int32 := match o with
  | none => 0
  | some _ => 1
def mvc (c : FA) (o : Option FA) : FA := match o with
  | none => c
  | some d => d
def pmp (m x : Int32) : Nat → FA → FA
  | 0, c => c
  | d + 1, c => match mvu m c x with
    | some c' => pmp m x d c'
    | none => c
def lk (c : FA) : Nat → FA
  | 0 => c
  | n + 1 => ad (ad (lk c n) n (-(if lk c n n < lk c n (8 + n) then lk c n n else lk c n (8 + n)))) (16 + n) (if lk c n n < lk c n (8 + n) then lk c n n else lk c n (8 + n))
def shl (c : FA) (st : Int32) : Nat → FA
  | 0 => c
  | n + 1 => if 0 < shl c st n (112 + n) ∧ abi (shl c st n (115 + n) + st) ≤ 3 then ad (upd (shl c st n) (115 + n) (shl c st n (115 + n) + st)) 161 1 else shl c st n
def shf (c : FA) : FA := if c 129 < abi (lst c) then shl c (if 0 ≤ lst c then 1 else -1) 3 else c
def lkm (c : FA) : FA := if c 156 - c 156 / 10 * 10 = 0 then lk c 8 else c
/-- a minute of the pump's mode m over the open tanks x, at most r units -/
def mnt (m x : Int32) (r : Nat) (c : FA) : FA := shf (lkm (pmp m x r (ad c 156 1)))
def mns (m x : Int32) (r : Nat) (c : FA) : Nat → FA
  | 0 => c
  | n + 1 => mnt m x r (mns m x r c n)
theorem zadd (n : Nat) : (0 : Int32) + nI n = nI n := Int32.zero_add _
theorem tfi_lt {c : FA} {x : Int32} {k : Nat} (h : tfi c x = some k) : k < 8 := by
  unfold tfi at h
  split at h
  · cases h
  · next k2 hk =>
    split at h
    · split at h
      · cases h; exact emp_lt hk
      · cases h
    · cases h
theorem tem_lt {c : FA} {x : Int32} {k : Nat} (h : tem c x = some k) : k < 8 := by
  unfold tem at h
  split at h
  · cases h
  · next k2 hk =>
    split at h
    · cases h; exact ful_lt hk
    · cases h
theorem tlo_lt {c : FA} {x : Int32} {k : Nat} (h : tlo c x = some k) : k < 8 := by
  unfold tlo at h
  split at h
  · cases h
  · next k2 hk =>
    split at h
    · cases h
    · split at h
      · cases h
      · cases h; exact ful_lt hk
theorem nlt_le {a b : Int32} (h : ¬ a < b) : b ≤ a := Int32.not_lt.mp h
theorem nle_lt {a b : Int32} (h : ¬ a ≤ b) : b < a := Int32.not_le.mp h
section PU
theorem t_X4_tankToFill (c : FA) (K : KS) (s : FA) (L : LS9) (e : AH) (x : Int32) : Ct m_X4_tankToFill X0 [.ref 1, .int x] (HP c K s L e) (fun rv h => rv = some (.int (oI (tfi c x))) ∧ h = HP c K s L e) := by
  refine ⟨ok_X4_tankToFill, ?_⟩
  refine Rch.go rfl ?_
  refine Rch.call 0 (t_X6_emptiest c K s L e x) rfl rfl g_X4_9 om_X6_emptiest rfl (fun _ _ _ q => q) rfl rfl rfl rfl ⟨rfl, rfl⟩ ⟨by decide, by decide⟩ (fun _ _ q => by obtain ⟨_, rfl⟩ := q; first | with_reducible rfl | rw [HP_len, HP_len]) (fun rv9 h9 q9 => ?_)
  obtain ⟨rfl, rfl⟩ := q9
  refine Rch.go rfl ?_
  cases hk : emp c x 8 with
  | none =>
    have e1 : tfi c x = none := by unfold tfi; rw [hk]
    rw [e1]
    refine Rch.i_eq rfl (fun _ => ?_) (fun q => absurd rfl q)
    refine Rch.go rfl ?_
    exact Rch.ri rfl rfl rfl (by decide) (by decide) ⟨rfl, rfl⟩
  | some k =>
    have hlt := emp_lt hk
    have e1 : tfi c x = if c k < 100 then (if (wgt c + 1) / 10 ≤ c 130 then some k else none) else none := by unfold tfi; rw [hk]
    refine Rch.i_eq rfl (fun q => absurd q (nI_ne1 (by omega))) (fun _ => ?_)
    refine Rch.go rfl ?_
    refine Rch.call 0 (t_X6_at c K s L e (zadd k) (by omega)) rfl rfl g_X4_15 om_X6_at rfl (fun _ _ _ q => q) rfl rfl rfl rfl ⟨rfl, rfl⟩ ⟨by decide, by decide⟩ (fun _ _ q => by obtain ⟨_, rfl⟩ := q; first | with_reducible rfl | rw [HP_len, HP_len]) (fun rv9 h9 q9 => ?_)
    obtain ⟨rfl, rfl⟩ := q9
    refine Rch.go rfl ?_
    refine Rch.i_lt rfl (fun z => ?_) (fun z => ?_)
    · rw [if_pos z] at e1
      refine Rch.go rfl ?_
      refine Rch.call 0 (t_X6_weight c K s L e) rfl rfl g_X4_18 om_X6_weight rfl (fun _ _ _ q => q) rfl rfl rfl rfl ⟨rfl, rfl⟩ ⟨by decide, by decide⟩ (fun _ _ q => by obtain ⟨_, rfl⟩ := q; first | with_reducible rfl | rw [HP_len, HP_len]) (fun rv9 h9 q9 => ?_)
      obtain ⟨rfl, rfl⟩ := q9
      refine Rch.go rfl ?_
      refine Rch.call 1 (t_X6_draughtOf _ _) rfl rfl g_X4_22 om_X6_draughtOf rfl (fun _ _ _ q => q) rfl rfl rfl rfl ⟨rfl, rfl⟩ ⟨by decide, by decide⟩ (fun _ _ q => by obtain ⟨_, rfl⟩ := q; first | with_reducible rfl | rw [HP_len, HP_len]) (fun rv9 h9 q9 => ?_)
      obtain ⟨rfl, rfl⟩ := q9
      refine Rch.go rfl ?_
      refine Rch.call 0 (t_X6_at c K s L e (j := 130) rfl (by decide)) rfl rfl g_X4_15 om_X6_at rfl (fun _ _ _ q => q) rfl rfl rfl rfl ⟨rfl, rfl⟩ ⟨by decide, by decide⟩ (fun _ _ q => by obtain ⟨_, rfl⟩ := q; first | with_reducible rfl | rw [HP_len, HP_len]) (fun rv9 h9 q9 => ?_)
      obtain ⟨rfl, rfl⟩ := q9
      refine Rch.i_le rfl (fun w => ?_) (fun w => ?_)
      · rw [if_pos w] at e1
        rw [e1]
        refine Rch.go rfl ?_
        exact Rch.ri rfl rfl rfl (by decide) (by decide) ⟨rfl, rfl⟩
      · rw [if_neg w] at e1
        rw [e1]
        refine Rch.go rfl ?_
        exact Rch.ri rfl rfl rfl (by decide) (by decide) ⟨rfl, rfl⟩
    · rw [if_neg z] at e1
      rw [e1]
      refine Rch.go rfl ?_
      exact Rch.ri rfl rfl rfl (by decide) (by decide) ⟨rfl, rfl⟩
theorem t_X4_tankToEmpty (c : FA) (K : KS) (s : FA) (L : LS9) (e : AH) (x : Int32) : Ct m_X4_tankToEmpty X0 [.ref 1, .int x] (HP c K s L e) (fun rv h => rv = some (.int (oI (tem c x))) ∧ h = HP c K s L e) := by
  refine ⟨ok_X4_tankToEmpty, ?_⟩
  refine Rch.go rfl ?_
  refine Rch.call 0 (t_X6_fullest c K s L e x) rfl rfl g_X4_25 om_X6_fullest rfl (fun _ _ _ q => q) rfl rfl rfl rfl ⟨rfl, rfl⟩ ⟨by decide, by decide⟩ (fun _ _ q => by obtain ⟨_, rfl⟩ := q; first | with_reducible rfl | rw [HP_len, HP_len]) (fun rv9 h9 q9 => ?_)
  obtain ⟨rfl, rfl⟩ := q9
  refine Rch.go rfl ?_
  cases hk : ful c x 8 with
  | none =>
    have e1 : tem c x = none := by unfold tem; rw [hk]
    rw [e1]
    refine Rch.i_eq rfl (fun _ => ?_) (fun q => absurd rfl q)
    refine Rch.go rfl ?_
    exact Rch.ri rfl rfl rfl (by decide) (by decide) ⟨rfl, rfl⟩
  | some k =>
    have hlt := ful_lt hk
    have e1 : tem c x = if 0 < c k then some k else none := by unfold tem; rw [hk]
    refine Rch.i_eq rfl (fun q => absurd q (nI_ne1 (by omega))) (fun _ => ?_)
    refine Rch.go rfl ?_
    refine Rch.call 0 (t_X6_at c K s L e (zadd k) (by omega)) rfl rfl g_X4_15 om_X6_at rfl (fun _ _ _ q => q) rfl rfl rfl rfl ⟨rfl, rfl⟩ ⟨by decide, by decide⟩ (fun _ _ q => by obtain ⟨_, rfl⟩ := q; first | with_reducible rfl | rw [HP_len, HP_len]) (fun rv9 h9 q9 => ?_)
    obtain ⟨rfl, rfl⟩ := q9
    refine Rch.z_gt rfl (fun z => ?_) (fun z => ?_)
    · rw [if_pos z] at e1
      rw [e1]
      refine Rch.go rfl ?_
      exact Rch.ri rfl rfl rfl (by decide) (by decide) ⟨rfl, rfl⟩
    · rw [if_neg z] at e1
      rw [e1]
      refine Rch.go rfl ?_
      exact Rch.ri rfl rfl rfl (by decide) (by decide) ⟨rfl, rfl⟩
theorem t_X4_tankToLower (c : FA) (K : KS) (s : FA) (L : LS9) (e : AH) (x : Int32) : Ct m_X4_tankToLower X0 [.ref 1, .int x] (HP c K s L e) (fun rv h => rv = some (.int (oI (tlo c x))) ∧ h = HP c K s L e) := by
  refine ⟨ok_X4_tankToLower, ?_⟩
  refine Rch.go rfl ?_
  refine Rch.call 0 (t_X6_fullest c K s L e x) rfl rfl g_X4_25 om_X6_fullest rfl (fun _ _ _ q => q) rfl rfl rfl rfl ⟨rfl, rfl⟩ ⟨by decide, by decide⟩ (fun _ _ q => by obtain ⟨_, rfl⟩ := q; first | with_reducible rfl | rw [HP_len, HP_len]) (fun rv9 h9 q9 => ?_)
  obtain ⟨rfl, rfl⟩ := q9
  refine Rch.go rfl ?_
  refine Rch.call 0 (t_X6_emptiest c K s L e x) rfl rfl g_X4_9 om_X6_emptiest rfl (fun _ _ _ q => q) rfl rfl rfl rfl ⟨rfl, rfl⟩ ⟨by decide, by decide⟩ (fun _ _ q => by obtain ⟨_, rfl⟩ := q; first | with_reducible rfl | rw [HP_len, HP_len]) (fun rv9 h9 q9 => ?_)
  obtain ⟨rfl, rfl⟩ := q9
  refine Rch.go rfl ?_
  cases hf : ful c x 8 with
  | none =>
    have e1 : tlo c x = none := by unfold tlo; rw [hf]
    rw [e1]
    refine Rch.i_eq rfl (fun _ => ?_) (fun q => absurd rfl q)
    refine Rch.go rfl ?_
    exact Rch.ri rfl rfl rfl (by decide) (by decide) ⟨rfl, rfl⟩
  | some f =>
    have hlf := ful_lt hf
    refine Rch.i_eq rfl (fun q => absurd q (nI_ne1 (by omega))) (fun _ => ?_)
    refine Rch.go rfl ?_
    cases hk : emp c x 8 with
    | none =>
      have e1 : tlo c x = none := by unfold tlo; rw [hf, hk]
      rw [e1]
      refine Rch.i_ne rfl (fun _ => ?_) (fun q => absurd rfl q)
      refine Rch.go rfl ?_
      exact Rch.ri rfl rfl rfl (by decide) (by decide) ⟨rfl, rfl⟩
    | some k =>
      have hlt := emp_lt hk
      have e1 : tlo c x = if c f - c k < 2 then none else some f := by unfold tlo; rw [hf, hk]
      refine Rch.i_ne rfl (fun q => absurd q (nI_ne1 (by omega))) (fun _ => ?_)
      refine Rch.go rfl ?_
      refine Rch.call 0 (t_X6_at c K s L e (zadd f) (by omega)) rfl rfl g_X4_15 om_X6_at rfl (fun _ _ _ q => q) rfl rfl rfl rfl ⟨rfl, rfl⟩ ⟨by decide, by decide⟩ (fun _ _ q => by obtain ⟨_, rfl⟩ := q; first | with_reducible rfl | rw [HP_len, HP_len]) (fun rv9 h9 q9 => ?_)
      obtain ⟨rfl, rfl⟩ := q9
      refine Rch.go rfl ?_
      refine Rch.call 0 (t_X6_at c K s L e (zadd k) (by omega)) rfl rfl g_X4_15 om_X6_at rfl (fun _ _ _ q => q) rfl rfl rfl rfl ⟨rfl, rfl⟩ ⟨by decide, by decide⟩ (fun _ _ q => by obtain ⟨_, rfl⟩ := q; first | with_reducible rfl | rw [HP_len, HP_len]) (fun rv9 h9 q9 => ?_)
      obtain ⟨rfl, rfl⟩ := q9
      refine Rch.go rfl ?_
      refine Rch.i_lt rfl (fun z => ?_) (fun z => ?_)
      · rw [if_pos z] at e1
        rw [e1]
        refine Rch.go rfl ?_
        exact Rch.ri rfl rfl rfl (by decide) (by decide) ⟨rfl, rfl⟩
      · rw [if_neg z] at e1
        rw [e1]
        refine Rch.go rfl ?_
        exact Rch.ri rfl rfl rfl (by decide) (by decide) ⟨rfl, rfl⟩
theorem t_X4_moveBy (c : FA) (K : KS) (s : FA) (L : LS9) (e : AH) {k : Nat} (u : Int32) (hk : k < 8) : Ct m_X4_moveBy X0 [.ref 1, .int (nI k), .int u] (HP c K s L e) (fun rv h => rv = none ∧ h = HP (mvb c k u) K s L e) := by
  refine ⟨ok_X4_moveBy, ?_⟩
  refine Rch.go rfl ?_
  refine Rch.call 0 (t_X6_add c K s L e u (zadd k) (by omega)) rfl rfl g_X4_55 om_X6_add rfl (fun _ _ _ q => q) rfl rfl rfl rfl ⟨rfl, rfl⟩ ⟨by decide, by decide⟩ (fun _ _ q => by obtain ⟨_, rfl⟩ := q; first | with_reducible rfl | rw [HP_len, HP_len]) (fun rv9 h9 q9 => ?_)
  obtain ⟨rfl, rfl⟩ := q9
  refine Rch.go rfl ?_
  refine Rch.call 0 (t_X6_add _ K s L e 1 (nI_add 24 k) (by omega)) rfl rfl g_X4_55 om_X6_add rfl (fun _ _ _ q => q) rfl rfl rfl rfl ⟨rfl, rfl⟩ ⟨by decide, by decide⟩ (fun _ _ q => by obtain ⟨_, rfl⟩ := q; first | with_reducible rfl | rw [HP_len, HP_len]) (fun rv9 h9 q9 => ?_)
  obtain ⟨rfl, rfl⟩ := q9
  exact Rch.rv rfl rfl (by decide) (by decide) ⟨rfl, rfl⟩
theorem t_X4_fillUnit (c : FA) (K : KS) (s : FA) (L : LS9) (e : AH) (o : Option Nat) (ho : ∀ k, o = some k → k < 8) : Ct m_X4_fillUnit X0 [.ref 1, .int (oI o)] (HP c K s L e) (fun rv h => rv = some (.int (mvr (mfu c o))) ∧ h = HP (mvc c (mfu c o)) K s L e) := by
  refine ⟨ok_X4_fillUnit, ?_⟩
  refine Rch.go rfl ?_
  cases o with
  | none =>
    refine Rch.i_ne rfl (fun _ => ?_) (fun q => absurd rfl q)
    refine Rch.go rfl ?_
    exact Rch.ri rfl rfl rfl (by decide) (by decide) ⟨rfl, rfl⟩
  | some k =>
    have hk := ho k rfl
    refine Rch.i_ne rfl (fun q => absurd q (nI_ne1 (by omega))) (fun _ => ?_)
    refine Rch.go rfl ?_
    refine Rch.call 1 (t_X4_moveBy c K s L e 1 hk) rfl rfl g_X4_51 om_X4_moveBy rfl (fun _ _ _ q => q) rfl rfl rfl rfl ⟨rfl, rfl⟩ ⟨by decide, by decide⟩ (fun _ _ q => by obtain ⟨_, rfl⟩ := q; first | with_reducible rfl | rw [HP_len, HP_len]) (fun rv9 h9 q9 => ?_)
    obtain ⟨rfl, rfl⟩ := q9
    refine Rch.go rfl ?_
    refine Rch.call 0 (t_X6_add _ K s L e (j := 157) 1 rfl (by decide)) rfl rfl g_X4_55 om_X6_add rfl (fun _ _ _ q => q) rfl rfl rfl rfl ⟨rfl, rfl⟩ ⟨by decide, by decide⟩ (fun _ _ q => by obtain ⟨_, rfl⟩ := q; first | with_reducible rfl | rw [HP_len, HP_len]) (fun rv9 h9 q9 => ?_)
    obtain ⟨rfl, rfl⟩ := q9
    refine Rch.go rfl ?_
    exact Rch.ri rfl rfl rfl (by decide) (by decide) ⟨rfl, rfl⟩
theorem mvr_nar (o : Option FA) : narrow .boolean (.int (mvr o)) = .int (mvr o) := by
  cases o with
  | none => decide +kernel
  | some k => exact (show narrow .boolean (.int 1) = .int 1 by decide +kernel)
theorem t_X4_emptyUnit (c : FA) (K : KS) (s : FA) (L : LS9) (e : AH) (o : Option Nat) (ho : ∀ k, o = some k → k < 8) : Ct m_X4_emptyUnit X0 [.ref 1, .int (oI o)] (HP c K s L e) (fun rv h => rv = some (.int (mvr (meu c o))) ∧ h = HP (mvc c (meu c o)) K s L e) := by
  refine ⟨ok_X4_emptyUnit, ?_⟩
  refine Rch.go rfl ?_
  cases o with
  | none =>
    refine Rch.i_ne rfl (fun _ => ?_) (fun q => absurd rfl q)
    refine Rch.go rfl ?_
    exact Rch.ri rfl rfl rfl (by decide) (by decide) ⟨rfl, rfl⟩
  | some k =>
    have hk := ho k rfl
    refine Rch.i_ne rfl (fun q => absurd q (nI_ne1 (by omega))) (fun _ => ?_)
    refine Rch.go rfl ?_
    refine Rch.call 1 (t_X4_moveBy c K s L e (-1) hk) rfl rfl g_X4_51 om_X4_moveBy rfl (fun _ _ _ q => q) rfl rfl rfl rfl ⟨rfl, rfl⟩ ⟨by decide, by decide⟩ (fun _ _ q => by obtain ⟨_, rfl⟩ := q; first | with_reducible rfl | rw [HP_len, HP_len]) (fun rv9 h9 q9 => ?_)
    obtain ⟨rfl, rfl⟩ := q9
    refine Rch.go rfl ?_
    refine Rch.call 0 (t_X6_add _ K s L e (j := 158) 1 rfl (by decide)) rfl rfl g_X4_55 om_X6_add rfl (fun _ _ _ q => q) rfl rfl rfl rfl ⟨rfl, rfl⟩ ⟨by decide, by decide⟩ (fun _ _ q => by obtain ⟨_, rfl⟩ := q; first | with_reducible rfl | rw [HP_len, HP_len]) (fun rv9 h9 q9 => ?_)
    obtain ⟨rfl, rfl⟩ := q9
    refine Rch.go rfl ?_
    exact Rch.ri rfl rfl rfl (by decide) (by decide) ⟨rfl, rfl⟩
theorem t_X4_levelUnit (c : FA) (K : KS) (s : FA) (L : LS9) (e : AH) (o o2 : Option Nat) (ho : ∀ k, o = some k → k < 8) (ho2 : ∀ k, o2 = some k → k < 8) : Ct m_X4_levelUnit X0 [.ref 1, .int (oI o), .int (oI o2)] (HP c K s L e) (fun rv h => rv = some (.int (mvr (mlu c o o2))) ∧ h = HP (mvc c (mlu c o o2)) K s L e) := by
  refine ⟨ok_X4_levelUnit, ?_⟩
  refine Rch.go rfl ?_
  cases o with
  | none =>
    refine Rch.i_eq rfl (fun _ => ?_) (fun q => absurd rfl q)
    refine Rch.go rfl ?_
    exact Rch.ri rfl rfl rfl (by decide) (by decide) ⟨rfl, rfl⟩
  | some k =>
    have hk := ho k rfl
    refine Rch.i_eq rfl (fun q => absurd q (nI_ne1 (by omega))) (fun _ => ?_)
    refine Rch.go rfl ?_
    cases o2 with
    | none =>
      refine Rch.i_ne rfl (fun _ => ?_) (fun q => absurd rfl q)
      refine Rch.go rfl ?_
      exact Rch.ri rfl rfl rfl (by decide) (by decide) ⟨rfl, rfl⟩
    | some k2 =>
      have hk2 := ho2 k2 rfl
      refine Rch.i_ne rfl (fun q => absurd q (nI_ne1 (by omega))) (fun _ => ?_)
      refine Rch.go rfl ?_
      refine Rch.call 1 (t_X4_moveBy c K s L e (-1) hk) rfl rfl g_X4_51 om_X4_moveBy rfl (fun _ _ _ q => q) rfl rfl rfl rfl ⟨rfl, rfl⟩ ⟨by decide, by decide⟩ (fun _ _ q => by obtain ⟨_, rfl⟩ := q; first | with_reducible rfl | rw [HP_len, HP_len]) (fun rv9 h9 q9 => ?_)
      obtain ⟨rfl, rfl⟩ := q9
      refine Rch.go rfl ?_
      refine Rch.call 1 (t_X4_moveBy _ K s L e 1 hk2) rfl rfl g_X4_51 om_X4_moveBy rfl (fun _ _ _ q => q) rfl rfl rfl rfl ⟨rfl, rfl⟩ ⟨by decide, by decide⟩ (fun _ _ q => by obtain ⟨_, rfl⟩ := q; first | with_reducible rfl | rw [HP_len, HP_len]) (fun rv9 h9 q9 => ?_)
      obtain ⟨rfl, rfl⟩ := q9
      refine Rch.go rfl ?_
      refine Rch.call 0 (t_X6_add _ K s L e (j := 159) 1 rfl (by decide)) rfl rfl g_X4_55 om_X6_add rfl (fun _ _ _ q => q) rfl rfl rfl rfl ⟨rfl, rfl⟩ ⟨by decide, by decide⟩ (fun _ _ q => by obtain ⟨_, rfl⟩ := q; first | with_reducible rfl | rw [HP_len, HP_len]) (fun rv9 h9 q9 => ?_)
      obtain ⟨rfl, rfl⟩ := q9
      refine Rch.go rfl ?_
      exact Rch.ri rfl rfl rfl (by decide) (by decide) ⟨rfl, rfl⟩
theorem t_X4_moveUnit (c : FA) (K : KS) (s : FA) (L : LS9) (e : AH) (m x : Int32) : Ct m_X4_moveUnit X0 [.ref 1, .int m, .int x] (HP c K s L e) (fun rv h => rv = some (.int (mvr (mvu m c x))) ∧ h = HP (mvc c (mvu m c x)) K s L e) := by
  refine ⟨ok_X4_moveUnit, ?_⟩
  refine Rch.go rfl ?_
  by_cases h2 : m = 2
  · subst h2
    have e1 : mvu 2 c x = mfu c (tfi c x) := if_pos rfl
    refine Rch.sw (t := 28) rfl rfl ?_
    refine Rch.go rfl ?_
    refine Rch.call 1 (t_X4_tankToFill c K s L e x) rfl rfl g_X4_28 om_X4_tankToFill rfl (fun _ _ _ q => q) rfl rfl rfl rfl ⟨rfl, rfl⟩ ⟨by decide, by decide⟩ (fun _ _ q => by obtain ⟨_, rfl⟩ := q; first | with_reducible rfl | rw [HP_len, HP_len]) (fun rv9 h9 q9 => ?_)
    obtain ⟨rfl, rfl⟩ := q9
    refine Rch.call 1 (t_X4_fillUnit c K s L e (tfi c x) (fun k q => tfi_lt q)) rfl rfl g_X4_34 om_X4_fillUnit rfl (fun _ _ _ q => q) rfl rfl rfl rfl ⟨rfl, rfl⟩ ⟨by decide, by decide⟩ (fun _ _ q => by obtain ⟨_, rfl⟩ := q; first | with_reducible rfl | rw [HP_len, HP_len]) (fun rv9 h9 q9 => ?_)
    obtain ⟨rfl, rfl⟩ := q9
    rw [e1]
    cases tfi c x <;> exact Rch.ri rfl rfl (mvr_nar _) (by decide) (by decide) ⟨rfl, rfl⟩
  by_cases h3 : m = 3
  · subst h3
    have e1 : mvu 3 c x = meu c (tem c x) := by unfold mvu; rw [if_neg h2, if_pos rfl]
    refine Rch.sw (t := 38) rfl rfl ?_
    refine Rch.go rfl ?_
    refine Rch.call 1 (t_X4_tankToEmpty c K s L e x) rfl rfl g_X4_38 om_X4_tankToEmpty rfl (fun _ _ _ q => q) rfl rfl rfl rfl ⟨rfl, rfl⟩ ⟨by decide, by decide⟩ (fun _ _ q => by obtain ⟨_, rfl⟩ := q; first | with_reducible rfl | rw [HP_len, HP_len]) (fun rv9 h9 q9 => ?_)
    obtain ⟨rfl, rfl⟩ := q9
    refine Rch.call 1 (t_X4_emptyUnit c K s L e (tem c x) (fun k q => tem_lt q)) rfl rfl g_X4_41 om_X4_emptyUnit rfl (fun _ _ _ q => q) rfl rfl rfl rfl ⟨rfl, rfl⟩ ⟨by decide, by decide⟩ (fun _ _ q => by obtain ⟨_, rfl⟩ := q; first | with_reducible rfl | rw [HP_len, HP_len]) (fun rv9 h9 q9 => ?_)
    obtain ⟨rfl, rfl⟩ := q9
    rw [e1]
    cases tem c x <;> exact Rch.ri rfl rfl (mvr_nar _) (by decide) (by decide) ⟨rfl, rfl⟩
  by_cases h4 : m = 4
  · subst h4
    have e1 : mvu 4 c x = mlu c (tlo c x) (emp c x 8) := by unfold mvu; rw [if_neg h2, if_neg h3, if_pos rfl]
    refine Rch.sw (t := 48) rfl rfl ?_
    refine Rch.go rfl ?_
    refine Rch.call 1 (t_X4_tankToLower c K s L e x) rfl rfl g_X4_44 om_X4_tankToLower rfl (fun _ _ _ q => q) rfl rfl rfl rfl ⟨rfl, rfl⟩ ⟨by decide, by decide⟩ (fun _ _ q => by obtain ⟨_, rfl⟩ := q; first | with_reducible rfl | rw [HP_len, HP_len]) (fun rv9 h9 q9 => ?_)
    obtain ⟨rfl, rfl⟩ := q9
    refine Rch.go rfl ?_
    refine Rch.call 0 (t_X6_emptiest c K s L e x) rfl rfl g_X4_9 om_X6_emptiest rfl (fun _ _ _ q => q) rfl rfl rfl rfl ⟨rfl, rfl⟩ ⟨by decide, by decide⟩ (fun _ _ q => by obtain ⟨_, rfl⟩ := q; first | with_reducible rfl | rw [HP_len, HP_len]) (fun rv9 h9 q9 => ?_)
    obtain ⟨rfl, rfl⟩ := q9
    refine Rch.call 1 (t_X4_levelUnit c K s L e (tlo c x) (emp c x 8) (fun k q => tlo_lt q) (fun k q => emp_lt q)) rfl rfl g_X4_47 om_X4_levelUnit rfl (fun _ _ _ q => q) rfl rfl rfl rfl ⟨rfl, rfl⟩ ⟨by decide, by decide⟩ (fun _ _ q => by obtain ⟨_, rfl⟩ := q; first | with_reducible rfl | rw [HP_len, HP_len]) (fun rv9 h9 q9 => ?_)
    obtain ⟨rfl, rfl⟩ := q9
    rw [e1]
    cases tlo c x with
    | none => exact Rch.ri rfl rfl (mvr_nar _) (by decide) (by decide) ⟨rfl, rfl⟩
    | some f => cases emp c x 8 <;> exact Rch.ri rfl rfl (mvr_nar _) (by decide) (by decide) ⟨rfl, rfl⟩
  · have e1 : mvu m c x = none := by unfold mvu; rw [if_neg h2, if_neg h3, if_neg h4]
    have n2 := lv_neT (a := 2) h2 (by decide)
    have n3 := lv_neT (a := 3) h3 (by decide)
    have n4 := lv_neT (a := 4) h4 (by decide)
    refine Rch.sw (t := 63) rfl (if_pos (by omega)) ?_
    refine Rch.go rfl ?_
    rw [e1]
    exact Rch.ri rfl rfl rfl (by decide) (by decide) ⟨rfl, rfl⟩
end PU
