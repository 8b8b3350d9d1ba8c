/-! ===== the row of orders, the soundings, what is kept of states ===== -/
def pat (c : FA) (p : Nat) (k b : Int32) : FA := upd (upd c (131 + p) k) (143 + p) b
def apd (c : FA) (n : Nat) (k b : Int32) : FA := if n < 12 then upd (pat c n k b) 155 (nI n + 1) else c
def hasB (c : FA) (k : Int32) : Nat → Bool
  | 0 => false
  | n + 1 => hasB c k n || decide (c (131 + n) = k)
def stk (c : FA) (k : Int32) : Nat → FA × Nat
  | 0 => (c, 0)
  | n + 1 => if (stk c k n).1 (131 + n) = k then stk c k n else (pat (stk c k n).1 (stk c k n).2 ((stk c k n).1 (131 + n)) ((stk c k n).1 (143 + n)), (stk c k n).2 + 1)
theorem stk_le (c : FA) (k : Int32) : ∀ n, (stk c k n).2 ≤ n
  | 0 => Nat.le_refl _
  | n + 1 => by
    have := stk_le c k n
    unfold stk
    split
    · omega
    · show (stk c k n).2 + 1 ≤ n + 1; omega
def tkf (c : FA) : Nat → FA
  | 0 => c
  | q + 1 => pat (tkf c q) q (tkf c q (131 + (q + 1))) (tkf c q (143 + (q + 1)))
def tko (c : FA) (n : Nat) : FA := upd (tkf c (n - 1)) 155 (nI n - 1)
def rsn (c : FA) (k b : Nat) : Int32 := if k < 2 then (if c (123 + b) = (if k = 0 then 1 else 0) then 1 else 0) else if opn c 5 = 0 then 2 else
  if k = 2 then (if oI (tfi c (opn c 5)) = -1 then 3 else 0) else if k = 3 then (if oI (tem c (opn c 5)) = -1 then 4 else 0) else (if oI (tlo c (opn c 5)) = -1 then 5 else 0)
/-- the first order of n is done: kind k, by b, rate r -/
def wof (c : FA) (n k b r : Nat) : FA := if rsn (tko c n) k b = 0 then (if k < 2 then upd (tko c n) (123 + b) (if k = 0 then 1 else 0) else mns (nI k) (opn (tko c n) 5) r (tko c n) b) else ad (tko c n) 160 1
def sq (c : FA) (p : Nat) (m w u : Int32) : FA := upd (upd (upd c (40 + p) m) (64 + p) w) (88 + p) u
def sn1 (c : FA) (t : Nat) : FA := sq c (t * 3 + 2) (c (40 + (t * 3 + 1))) (c (64 + (t * 3 + 1))) (c (88 + (t * 3 + 1)))
def sn2 (c : FA) (t : Nat) : FA := sq (sn1 c t) (t * 3 + 1) (sn1 c t (40 + (t * 3 + 0))) (sn1 c t (64 + (t * 3 + 0))) (sn1 c t (88 + (t * 3 + 0)))
def sn3 (c : FA) (t : Nat) : FA := sq (sn2 c t) (t * 3 + 0) (sn2 c t 156) (sn2 c t t) (sn2 c t (24 + t))
def snd9 (c : FA) (t : Nat) : FA := upd (sn3 c t) (32 + t) (if 3 < sn3 c t (32 + t) + 1 then 3 else sn3 c t (32 + t) + 1)
def tldB (c : FA) (t : Nat) : Prop := 2 ≤ c (32 + t) ∧ c (88 + (t * 3 + 0)) = c (88 + (t * 3 + 1))
def los (c : FA) (t : Nat) : Int32 := c (64 + (t * 3 + 1)) - c (64 + (t * 3 + 0))
def cp (c r : FA) : FA := fun j => if j < 162 then c j else r j
def vup (f : Nat → FA) (k : Nat) (x : FA) : Nat → FA := fun j => if j = k then x else f j
section RO
theorem t_X2_putAt (c : FA) (K : KS) (s : FA) (L : LS9) (e : AH) {i : Int32} {p : Nat} (k b : Int32) (hi : i = nI p) (hp : p < 12) : Ct m_X2_putAt X0 [.ref 1, .int i, .int k, .int b] (HP c K s L e) (fun rv h => rv = none ∧ h = HP (pat c p k b) K s L e) := by
  subst hi
  refine ⟨ok_X2_putAt, ?_⟩
  refine Rch.go rfl ?_
  refine Rch.call 0 (t_X6_put c K s L e _ (nI_add 131 p) (by omega)) rfl rfl g_X2_21 om_X6_put rfl (fun _ _ _ q => q) rfl rfl rfl rfl ⟨rfl, rfl⟩ ⟨by decide, by decide⟩ (fun _ _ q => by obtain ⟨_, rfl⟩ := q; first | with_reducible rfl | rw [HP_len, HP_len]) (fun rv9 h9 q9 => ?_)
  obtain ⟨rfl, rfl⟩ := q9
  refine Rch.go rfl ?_
  refine Rch.call 0 (t_X6_put _ K s L e _ (nI_add 143 p) (by omega)) rfl rfl g_X2_21 om_X6_put rfl (fun _ _ _ q => q) rfl rfl rfl rfl ⟨rfl, rfl⟩ ⟨by decide, by decide⟩ (fun _ _ q => by obtain ⟨_, rfl⟩ := q; first | with_reducible rfl | rw [HP_len, HP_len]) (fun rv9 h9 q9 => ?_)
  obtain ⟨rfl, rfl⟩ := q9
  exact Rch.rv rfl rfl (by decide) (by decide) ⟨rfl, rfl⟩
theorem t_X2_append (c : FA) (K : KS) (s : FA) (L : LS9) (e : AH) {n : Nat} (k b : Int32) (hn : c 155 = nI n) (hn2 : n < 2 ^ 31) : Ct m_X2_append X0 [.ref 1, .int k, .int b] (HP c K s L e) (fun rv h => rv = none ∧ h = HP (apd c n k b) K s L e) := by
  refine ⟨ok_X2_append, ?_⟩
  refine Rch.go rfl ?_
  refine Rch.call 0 (t_X6_at c K s L e (j := 155) rfl (by decide)) rfl rfl g_X2_11 om_X6_at rfl (fun _ _ _ q => q) rfl rfl rfl rfl ⟨rfl, rfl⟩ ⟨by decide, by decide⟩ (fun _ _ q => by obtain ⟨_, rfl⟩ := q; first | with_reducible rfl | rw [HP_len, HP_len]) (fun rv9 h9 q9 => ?_)
  obtain ⟨rfl, rfl⟩ := q9
  refine Rch.go rfl ?_
  rw [hn]
  refine Rch.i_lt rfl (fun z => ?_) (fun z => ?_)
  · have hl : n < 12 := (nI_ltI hn2 (by decide)).mp (show nI n < nI 12 from z)
    have e1 : apd c n k b = _ := if_pos hl
    rw [e1]
    refine Rch.go rfl ?_
    refine Rch.call 1 (t_X2_putAt c K s L e _ _ rfl hl) rfl rfl g_X2_15 om_X2_putAt rfl (fun _ _ _ q => q) rfl rfl rfl rfl ⟨rfl, rfl⟩ ⟨by decide, by decide⟩ (fun _ _ q => by obtain ⟨_, rfl⟩ := q; first | with_reducible rfl | rw [HP_len, HP_len]) (fun rv9 h9 q9 => ?_)
    obtain ⟨rfl, rfl⟩ := q9
    refine Rch.go rfl ?_
    refine Rch.call 0 (t_X6_put _ K s L e (j := 155) _ rfl (by decide)) rfl rfl g_X2_21 om_X6_put rfl (fun _ _ _ q => q) rfl rfl rfl rfl ⟨rfl, rfl⟩ ⟨by decide, by decide⟩ (fun _ _ q => by obtain ⟨_, rfl⟩ := q; first | with_reducible rfl | rw [HP_len, HP_len]) (fun rv9 h9 q9 => ?_)
    obtain ⟨rfl, rfl⟩ := q9
    exact Rch.rv rfl rfl (by decide) (by decide) ⟨rfl, rfl⟩
  · have hl : ¬ n < 12 := fun q => z ((nI_ltI hn2 (by decide)).mpr q : nI n < nI 12)
    have e1 : apd c n k b = _ := if_neg hl
    rw [e1]
    exact Rch.rv rfl rfl (by decide) (by decide) ⟨rfl, rfl⟩
theorem has_go (c : FA) (K : KS) (s : FA) (L : LS9) (e : AH) {N : Nat} (k : Int32) (hN : N ≤ 12) : ∀ (d u : Nat), u + d = N → hasB c k u = false → Rch m_X2_has X0 (12, [(0, .ref 1), (1, .int k), (2, .int (nI N)), (3, .int (nI u))], [.int (nI N), .int (nI u)], HP c K s L e, 0, 0) (RetP m_X2_has (fun rv h => rv = some (.int (if hasB c k N = true then 1 else 0)) ∧ h = HP c K s L e)) := by
  intro d
  induction d with
  | zero =>
    intro u hu hf
    obtain rfl : u = N := by omega
    refine Rch.i_ge rfl (fun _ => ?_) (fun z => absurd (lo_out (by omega)) z)
    refine Rch.go rfl ?_
    exact Rch.ri rfl rfl rfl (by decide) (by decide) ⟨by rw [hf]; rfl, rfl⟩
  | succ d ih =>
    intro u hu hf
    refine Rch.i_ge rfl (fun z => absurd z (lo_in (by omega) (by omega))) (fun _ => ?_)
    refine Rch.go rfl ?_
    refine Rch.call 0 (t_X6_at c K s L e (nI_add 131 u) (by omega)) rfl rfl g_X2_11 om_X6_at rfl (fun _ _ _ q => q) rfl rfl rfl rfl ⟨rfl, rfl⟩ ⟨by decide, by decide⟩ (fun _ _ q => by obtain ⟨_, rfl⟩ := q; first | with_reducible rfl | rw [HP_len, HP_len]) (fun rv9 h9 q9 => ?_)
    obtain ⟨rfl, rfl⟩ := q9
    refine Rch.go rfl ?_
    refine Rch.i_ne rfl (fun z => ?_) (fun z => ?_)
    · have hT : ∀ d, hasB c k (u + 1 + d) = true := by
        intro d
        induction d with
        | zero => show (hasB c k u || decide (c (131 + u) = k)) = true; simp [z]
        | succ d ih2 => show (hasB c k (u + 1 + d) || _) = true; rw [ih2]; rfl
      have hT2 : hasB c k N = true := by have := hT d; rwa [show u + 1 + d = N by omega] at this
      refine Rch.go rfl ?_
      exact Rch.ri rfl rfl rfl (by decide) (by decide) ⟨by rw [hT2]; rfl, rfl⟩
    · refine Rch.go rfl ?_
      refine Rch.eq (τ := (12, [(0, .ref 1), (1, .int k), (2, .int (nI N)), (3, .int (nI (u + 1)))], [.int (nI N), .int (nI (u + 1))], HP c K s L e, 0, 0)) ?_ (ih (u + 1) (by omega) ?_)
      · rw [← nI_1]; rfl
      · show (hasB c k u || decide (c (131 + u) = k)) = false; simp [hf, z]
theorem t_X2_has (c : FA) (K : KS) (s : FA) (L : LS9) (e : AH) {n : Nat} (k : Int32) (hn : c 155 = nI n) (hn2 : n ≤ 12) : Ct m_X2_has X0 [.ref 1, .int k] (HP c K s L e) (fun rv h => rv = some (.int (if hasB c k n = true then 1 else 0)) ∧ h = HP c K s L e) := by
  refine ⟨ok_X2_has, ?_⟩
  refine Rch.go rfl ?_
  refine Rch.call 0 (t_X6_at c K s L e (j := 155) rfl (by decide)) rfl rfl g_X2_11 om_X6_at rfl (fun _ _ _ q => q) rfl rfl rfl rfl ⟨rfl, rfl⟩ ⟨by decide, by decide⟩ (fun _ _ q => by obtain ⟨_, rfl⟩ := q; first | with_reducible rfl | rw [HP_len, HP_len]) (fun rv9 h9 q9 => ?_)
  obtain ⟨rfl, rfl⟩ := q9
  rw [hn]
  refine Rch.go rfl ?_
  exact has_go c K s L e k hn2 n 0 (by omega) rfl
theorem t_X2_strikeOut (c : FA) (K : KS) (s : FA) (L : LS9) (e : AH) {N : Nat} (k : Int32) (hn : c 155 = nI N) (hn2 : N ≤ 12) : Ct m_X2_strikeOut X0 [.ref 1, .int k] (HP c K s L e) (fun rv h => rv = some (.int (nI N - nI (stk c k N).2)) ∧ h = HP (upd (stk c k N).1 155 (nI (stk c k N).2)) K s L e) := by
  refine ⟨ok_X2_strikeOut, ?_⟩
  refine Rch.go rfl ?_
  refine Rch.call 0 (t_X6_at c K s L e (j := 155) rfl (by decide)) rfl rfl g_X2_11 om_X6_at rfl (fun _ _ _ q => q) rfl rfl rfl rfl ⟨rfl, rfl⟩ ⟨by decide, by decide⟩ (fun _ _ q => by obtain ⟨_, rfl⟩ := q; first | with_reducible rfl | rw [HP_len, HP_len]) (fun rv9 h9 q9 => ?_)
  obtain ⟨rfl, rfl⟩ := q9
  rw [hn]
  refine Rch.go rfl ?_
  refine Rch.for N (fun n => (16, [(0, .ref 1), (1, .int k), (2, .int (nI N)), (3, .int (nI (stk c k n).2)), (4, .int (nI n))], [.int (nI N), .int (nI n)], HP (stk c k n).1 K s L e, 0, 0)) (fun n hn => ?_) ?_ 0 (by omega)
  · have hle := stk_le c k n
    refine Rch.i_ge rfl (fun z => absurd z (lo_in hn (by omega))) (fun _ => ?_)
    refine Rch.go rfl ?_
    refine Rch.call 0 (t_X6_at _ K s L e (nI_add 131 n) (by omega)) rfl rfl g_X2_11 om_X6_at rfl (fun _ _ _ q => q) rfl rfl rfl rfl ⟨rfl, rfl⟩ ⟨by decide, by decide⟩ (fun _ _ q => by obtain ⟨_, rfl⟩ := q; first | with_reducible rfl | rw [HP_len, HP_len]) (fun rv9 h9 q9 => ?_)
    obtain ⟨rfl, rfl⟩ := q9
    refine Rch.go rfl ?_
    refine Rch.i_eq rfl (fun z => ?_) (fun z => ?_)
    · refine Rch.go rfl ?_
      refine Rch.wp [0, 1, 2, 3, 4] rfl rfl (Rch.rf ?_)
      rw [nI_1, show stk c k (n + 1) = stk c k n from if_pos z]
      rfl
    · refine Rch.go rfl ?_
      refine Rch.call 0 (t_X6_at _ K s L e (nI_add 143 n) (by omega)) rfl rfl g_X2_11 om_X6_at rfl (fun _ _ _ q => q) rfl rfl rfl rfl ⟨rfl, rfl⟩ ⟨by decide, by decide⟩ (fun _ _ q => by obtain ⟨_, rfl⟩ := q; first | with_reducible rfl | rw [HP_len, HP_len]) (fun rv9 h9 q9 => ?_)
      obtain ⟨rfl, rfl⟩ := q9
      refine Rch.call 1 (t_X2_putAt _ K s L e _ _ rfl (by omega)) rfl rfl g_X2_15 om_X2_putAt rfl (fun _ _ _ q => q) rfl rfl rfl rfl ⟨rfl, rfl⟩ ⟨by decide, by decide⟩ (fun _ _ q => by obtain ⟨_, rfl⟩ := q; first | with_reducible rfl | rw [HP_len, HP_len]) (fun rv9 h9 q9 => ?_)
      obtain ⟨rfl, rfl⟩ := q9
      refine Rch.go rfl ?_
      refine Rch.wp [0, 1, 2, 3, 4] rfl rfl (Rch.rf ?_)
      rw [nI_1, nI_1, show stk c k (n + 1) = _ from if_neg z]
      rfl
  · have hle := stk_le c k N
    refine Rch.i_ge rfl (fun _ => ?_) (fun z => absurd (lo_out (by omega)) z)
    refine Rch.go rfl ?_
    refine Rch.call 0 (t_X6_put _ K s L e (j := 155) _ rfl (by decide)) rfl rfl g_X2_21 om_X6_put rfl (fun _ _ _ q => q) rfl rfl rfl rfl ⟨rfl, rfl⟩ ⟨by decide, by decide⟩ (fun _ _ q => by obtain ⟨_, rfl⟩ := q; first | with_reducible rfl | rw [HP_len, HP_len]) (fun rv9 h9 q9 => ?_)
    obtain ⟨rfl, rfl⟩ := q9
    refine Rch.go rfl ?_
    exact Rch.ri rfl rfl rfl (by decide) (by decide) ⟨rfl, rfl⟩
theorem t_X2_takeFirstOff (c : FA) (K : KS) (s : FA) (L : LS9) (e : AH) {N : Nat} (hn : c 155 = nI N) (h0 : 0 < N) (hn2 : N ≤ 12) : Ct m_X2_takeFirstOff X0 [.ref 1] (HP c K s L e) (fun rv h => rv = none ∧ h = HP (tko c N) K s L e) := by
  refine ⟨ok_X2_takeFirstOff, ?_⟩
  refine Rch.go rfl ?_
  refine Rch.call 0 (t_X6_at c K s L e (j := 155) rfl (by decide)) rfl rfl g_X2_11 om_X6_at rfl (fun _ _ _ q => q) rfl rfl rfl rfl ⟨rfl, rfl⟩ ⟨by decide, by decide⟩ (fun _ _ q => by obtain ⟨_, rfl⟩ := q; first | with_reducible rfl | rw [HP_len, HP_len]) (fun rv9 h9 q9 => ?_)
  obtain ⟨rfl, rfl⟩ := q9
  rw [hn]
  refine Rch.go rfl ?_
  obtain ⟨N1, rfl⟩ : ∃ q, N = q + 1 := ⟨N - 1, by omega⟩
  refine Rch.for N1 (fun n => (12, [(0, .ref 1), (1, .int (nI (N1 + 1))), (2, .int (nI (n + 1)))], [.int (nI (N1 + 1)), .int (nI (n + 1))], HP (tkf c n) K s L e, 0, 0)) (fun n hn => ?_) ?_ 0 (by omega)
  · refine Rch.i_ge rfl (fun z => absurd z (lo_in (by omega) (by omega))) (fun _ => ?_)
    refine Rch.go rfl ?_
    refine Rch.call 0 (t_X6_at _ K s L e (nI_add 131 (n + 1)) (by omega)) rfl rfl g_X2_11 om_X6_at rfl (fun _ _ _ q => q) rfl rfl rfl rfl ⟨rfl, rfl⟩ ⟨by decide, by decide⟩ (fun _ _ q => by obtain ⟨_, rfl⟩ := q; first | with_reducible rfl | rw [HP_len, HP_len]) (fun rv9 h9 q9 => ?_)
    obtain ⟨rfl, rfl⟩ := q9
    refine Rch.go rfl ?_
    refine Rch.call 0 (t_X6_at _ K s L e (nI_add 143 (n + 1)) (by omega)) rfl rfl g_X2_11 om_X6_at rfl (fun _ _ _ q => q) rfl rfl rfl rfl ⟨rfl, rfl⟩ ⟨by decide, by decide⟩ (fun _ _ q => by obtain ⟨_, rfl⟩ := q; first | with_reducible rfl | rw [HP_len, HP_len]) (fun rv9 h9 q9 => ?_)
    obtain ⟨rfl, rfl⟩ := q9
    refine Rch.call 1 (t_X2_putAt _ K s L e _ _ (nI_pred n) (by omega)) rfl rfl g_X2_15 om_X2_putAt rfl (fun _ _ _ q => q) rfl rfl rfl rfl ⟨rfl, rfl⟩ ⟨by decide, by decide⟩ (fun _ _ q => by obtain ⟨_, rfl⟩ := q; first | with_reducible rfl | rw [HP_len, HP_len]) (fun rv9 h9 q9 => ?_)
    obtain ⟨rfl, rfl⟩ := q9
    refine Rch.go rfl ?_
    refine Rch.wp [0, 1, 2] rfl rfl (Rch.rf ?_)
    rw [nI_1]
    rfl
  · refine Rch.i_ge rfl (fun _ => ?_) (fun z => absurd (lo_out (by omega)) z)
    refine Rch.go rfl ?_
    refine Rch.call 0 (t_X6_put _ K s L e (j := 155) _ rfl (by decide)) rfl rfl g_X2_21 om_X6_put rfl (fun _ _ _ q => q) rfl rfl rfl rfl ⟨rfl, rfl⟩ ⟨by decide, by decide⟩ (fun _ _ q => by obtain ⟨_, rfl⟩ := q; first | with_reducible rfl | rw [HP_len, HP_len]) (fun rv9 h9 q9 => ?_)
    obtain ⟨rfl, rfl⟩ := q9
    exact Rch.rv rfl rfl (by decide) (by decide) ⟨rfl, rfl⟩
theorem t_X8_isValve (k : Int32) (h0 : AH) : Ct m_X8_isValve X0 [.int k] h0 (fun rv h => rv = some (.int (if k = 0 ∨ k = 1 then 1 else 0)) ∧ h = h0) := by
  refine ⟨ok_X8_isValve, ?_⟩
  refine Rch.go rfl ?_
  refine Rch.z_eq rfl (fun z => ?_) (fun z => ?_)
  · refine Rch.go rfl ?_
    exact Rch.ri rfl rfl rfl (by decide) (by decide) ⟨by rw [if_pos (Or.inl z)], rfl⟩
  · refine Rch.go rfl ?_
    refine Rch.i_ne rfl (fun w => ?_) (fun w => ?_)
    · refine Rch.go rfl ?_
      exact Rch.ri rfl rfl rfl (by decide) (by decide) ⟨by rw [if_pos (Or.inr w)], rfl⟩
    · refine Rch.go rfl ?_
      exact Rch.ri rfl rfl rfl (by decide) (by decide) ⟨by rw [if_neg (fun q => q.elim z w)], rfl⟩
theorem t_X2_reasonToRefuse (c : FA) (K : KS) (s : FA) (L : LS9) (e : AH) {k b : Nat} {i j : Int32} (hi : i = nI k) (hj : j = nI b) (hk : k < 5) (hb : k < 2 → b < 5) : Ct m_X2_reasonToRefuse X0 [.ref 1, .int i, .int j] (HP c K s L e) (fun rv h => rv = some (.int (rsn c k b)) ∧ h = HP c K s L e) := by
  subst hi
  subst hj
  refine ⟨ok_X2_reasonToRefuse, ?_⟩
  refine Rch.go rfl ?_
  refine Rch.call 2 (t_X8_isValve _ _) rfl rfl g_X2_36 om_X8_isValve rfl (fun _ _ _ q => q) rfl rfl rfl rfl ⟨rfl, rfl⟩ ⟨by decide, by decide⟩ (fun _ _ q => by obtain ⟨_, rfl⟩ := q; first | with_reducible rfl | rw [HP_len, HP_len]) (fun rv9 h9 q9 => ?_)
  obtain ⟨rfl, rfl⟩ := q9
  have ev : (nI k = 0 ∨ nI k = 1) ↔ k < 2 := by
    rw [show (nI k = 0) = (nI k = nI 0) from rfl, show (nI k = 1) = (nI k = nI 1) from rfl, nI_eq (by omega) (by decide), nI_eq (by omega) (by decide)]
    omega
  refine Rch.z_eq rfl (fun z => ?_) (fun z => ?_)
  · have h2 : ¬ k < 2 := fun q => if10.mp z (ev.mpr q)
    have e1 : rsn c k b = _ := if_neg h2
    rw [e1]
    refine Rch.go rfl ?_
    refine Rch.call 0 (t_X6_openTanks c K s L e) rfl rfl g_X2_46 om_X6_openTanks rfl (fun _ _ _ q => q) rfl rfl rfl rfl ⟨rfl, rfl⟩ ⟨by decide, by decide⟩ (fun _ _ q => by obtain ⟨_, rfl⟩ := q; first | with_reducible rfl | rw [HP_len, HP_len]) (fun rv9 h9 q9 => ?_)
    obtain ⟨rfl, rfl⟩ := q9
    refine Rch.go rfl ?_
    refine Rch.z_ne rfl (fun w => ?_) (fun w => ?_)
    · rw [if_pos w]
      refine Rch.go rfl ?_
      exact Rch.ri rfl rfl rfl (by decide) (by decide) ⟨rfl, rfl⟩
    · rw [if_neg w]
      refine Rch.go rfl ?_
      match k, hk, h2 with
      | 2, _, _ =>
        refine Rch.sw (t := 72) rfl rfl ?_
        refine Rch.go rfl ?_
        refine Rch.call 1 (t_X4_tankToFill c K s L e _) rfl rfl g_X2_50 om_X4_tankToFill rfl (fun _ _ _ q => q) rfl rfl rfl rfl ⟨rfl, rfl⟩ ⟨by decide, by decide⟩ (fun _ _ q => by obtain ⟨_, rfl⟩ := q; first | with_reducible rfl | rw [HP_len, HP_len]) (fun rv9 h9 q9 => ?_)
        obtain ⟨rfl, rfl⟩ := q9
        refine Rch.go rfl ?_
        refine Rch.i_ne rfl (fun u => ?_) (fun u => ?_)
        · refine Rch.go rfl ?_
          exact Rch.ri rfl rfl rfl (by decide) (by decide) ⟨by rw [if_pos rfl, if_pos u], rfl⟩
        · refine Rch.go rfl ?_
          exact Rch.ri rfl rfl rfl (by decide) (by decide) ⟨by rw [if_pos rfl, if_neg u], rfl⟩
      | 3, _, _ =>
        refine Rch.sw (t := 87) rfl rfl ?_
        refine Rch.go rfl ?_
        refine Rch.call 1 (t_X4_tankToEmpty c K s L e _) rfl rfl g_X2_56 om_X4_tankToEmpty rfl (fun _ _ _ q => q) rfl rfl rfl rfl ⟨rfl, rfl⟩ ⟨by decide, by decide⟩ (fun _ _ q => by obtain ⟨_, rfl⟩ := q; first | with_reducible rfl | rw [HP_len, HP_len]) (fun rv9 h9 q9 => ?_)
        obtain ⟨rfl, rfl⟩ := q9
        refine Rch.go rfl ?_
        refine Rch.i_ne rfl (fun u => ?_) (fun u => ?_)
        · refine Rch.go rfl ?_
          exact Rch.ri rfl rfl rfl (by decide) (by decide) ⟨by rw [if_neg (by decide), if_pos rfl, if_pos u], rfl⟩
        · refine Rch.go rfl ?_
          exact Rch.ri rfl rfl rfl (by decide) (by decide) ⟨by rw [if_neg (by decide), if_pos rfl, if_neg u], rfl⟩
      | 4, _, _ =>
        refine Rch.sw (t := 102) rfl rfl ?_
        refine Rch.go rfl ?_
        refine Rch.call 1 (t_X4_tankToLower c K s L e _) rfl rfl g_X2_59 om_X4_tankToLower rfl (fun _ _ _ q => q) rfl rfl rfl rfl ⟨rfl, rfl⟩ ⟨by decide, by decide⟩ (fun _ _ q => by obtain ⟨_, rfl⟩ := q; first | with_reducible rfl | rw [HP_len, HP_len]) (fun rv9 h9 q9 => ?_)
        obtain ⟨rfl, rfl⟩ := q9
        refine Rch.go rfl ?_
        refine Rch.i_ne rfl (fun u => ?_) (fun u => ?_)
        · refine Rch.go rfl ?_
          exact Rch.ri rfl rfl rfl (by decide) (by decide) ⟨by rw [if_neg (by decide), if_neg (by decide), if_pos u], rfl⟩
        · refine Rch.go rfl ?_
          exact Rch.ri rfl rfl rfl (by decide) (by decide) ⟨by rw [if_neg (by decide), if_neg (by decide), if_neg u], rfl⟩
  · have h2 : k < 2 := Decidable.not_not.mp (fun q => z (if10.mpr (fun q2 => q (ev.mp q2))))
    have e1 : rsn c k b = _ := if_pos h2
    rw [e1]
    have hb2 := hb h2
    have key : ∀ w : Int32, Rch m_X2_reasonToRefuse X0 (22, [(0, .ref 1), (1, .int (nI k)), (2, .int (nI b)), (3, .int w)], [.int (123 + nI b), .ref 1], HP c K s L e, 0, 0) (RetP m_X2_reasonToRefuse (fun rv h => rv = some (.int (if c (123 + b) = w then 1 else 0)) ∧ h = HP c K s L e)) := by
      intro w
      refine Rch.call 0 (t_X6_at c K s L e (nI_add 123 b) (by omega)) rfl rfl g_X2_11 om_X6_at rfl (fun _ _ _ q => q) rfl rfl rfl rfl ⟨rfl, rfl⟩ ⟨by decide, by decide⟩ (fun _ _ q => by obtain ⟨_, rfl⟩ := q; first | with_reducible rfl | rw [HP_len, HP_len]) (fun rv9 h9 q9 => ?_)
      obtain ⟨rfl, rfl⟩ := q9
      refine Rch.go rfl ?_
      refine Rch.i_ne rfl (fun u => ?_) (fun u => ?_)
      · refine Rch.go rfl ?_
        exact Rch.ri rfl rfl rfl (by decide) (by decide) ⟨by rw [if_pos u], rfl⟩
      · refine Rch.go rfl ?_
        exact Rch.ri rfl rfl rfl (by decide) (by decide) ⟨by rw [if_neg u], rfl⟩
    refine Rch.go rfl ?_
    match k, h2 with
    | 0, _ =>
      refine Rch.z_ne rfl (fun _ => ?_) (fun q => absurd rfl q)
      refine Rch.go rfl ?_
      exact key 1
    | 1, _ =>
      refine Rch.z_ne rfl (fun q => absurd q (by decide)) (fun _ => ?_)
      refine Rch.go rfl ?_
      exact key 0
theorem t_X2_workFirst (c : FA) (K : KS) (s : FA) (L : LS9) (e : AH) {n k b r : Nat} (hn : c 155 = nI n) (h0 : 0 < n) (hn2 : n ≤ 12) (hk1 : c 131 = nI k) (hb1 : c 143 = nI b) (hk : k < 5) (hb : k < 2 → b < 5) (hb2 : b < 2 ^ 31) (hr : tko c n 128 = nI r) (hr2 : r < 2 ^ 31) : Ct m_X2_workFirst X0 [.ref 1] (HP c K s L e) (fun rv h => rv = none ∧ h = HP (wof c n k b r) K s L e) := by
  refine ⟨ok_X2_workFirst, ?_⟩
  refine Rch.go rfl ?_
  refine Rch.call 0 (t_X6_at c K s L e (j := 155) rfl (by decide)) rfl rfl g_X2_11 om_X6_at rfl (fun _ _ _ q => q) rfl rfl rfl rfl ⟨rfl, rfl⟩ ⟨by decide, by decide⟩ (fun _ _ q => by obtain ⟨_, rfl⟩ := q; first | with_reducible rfl | rw [HP_len, HP_len]) (fun rv9 h9 q9 => ?_)
  obtain ⟨rfl, rfl⟩ := q9
  rw [hn]
  refine Rch.z_ne rfl (fun q => absurd q (nI_ne0 h0 (by omega))) (fun _ => ?_)
  refine Rch.go rfl ?_
  refine Rch.call 0 (t_X6_at c K s L e (j := 131) rfl (by decide)) rfl rfl g_X2_11 om_X6_at rfl (fun _ _ _ q => q) rfl rfl rfl rfl ⟨rfl, rfl⟩ ⟨by decide, by decide⟩ (fun _ _ q => by obtain ⟨_, rfl⟩ := q; first | with_reducible rfl | rw [HP_len, HP_len]) (fun rv9 h9 q9 => ?_)
  obtain ⟨rfl, rfl⟩ := q9
  refine Rch.go rfl ?_
  refine Rch.call 0 (t_X6_at c K s L e (j := 143) rfl (by decide)) rfl rfl g_X2_11 om_X6_at rfl (fun _ _ _ q => q) rfl rfl rfl rfl ⟨rfl, rfl⟩ ⟨by decide, by decide⟩ (fun _ _ q => by obtain ⟨_, rfl⟩ := q; first | with_reducible rfl | rw [HP_len, HP_len]) (fun rv9 h9 q9 => ?_)
  obtain ⟨rfl, rfl⟩ := q9
  rw [hk1, hb1]
  refine Rch.go rfl ?_
  refine Rch.call 1 (t_X2_takeFirstOff c K s L e hn h0 hn2) rfl rfl g_X2_25 om_X2_takeFirstOff rfl (fun _ _ _ q => q) rfl rfl rfl rfl ⟨rfl, rfl⟩ ⟨by decide, by decide⟩ (fun _ _ q => by obtain ⟨_, rfl⟩ := q; first | with_reducible rfl | rw [HP_len, HP_len]) (fun rv9 h9 q9 => ?_)
  obtain ⟨rfl, rfl⟩ := q9
  refine Rch.go rfl ?_
  refine Rch.call 1 (t_X2_reasonToRefuse (tko c n) K s L e rfl rfl hk hb) rfl rfl g_X2_29 om_X2_reasonToRefuse rfl (fun _ _ _ q => q) rfl rfl rfl rfl ⟨rfl, rfl⟩ ⟨by decide, by decide⟩ (fun _ _ q => by obtain ⟨_, rfl⟩ := q; first | with_reducible rfl | rw [HP_len, HP_len]) (fun rv9 h9 q9 => ?_)
  obtain ⟨rfl, rfl⟩ := q9
  refine Rch.z_eq rfl (fun z => ?_) (fun z => ?_)
  · have e1 : wof c n k b r = _ := if_pos z
    rw [e1]
    refine Rch.go rfl ?_
    refine Rch.call 2 (t_X8_isValve _ _) rfl rfl g_X2_36 om_X8_isValve rfl (fun _ _ _ q => q) rfl rfl rfl rfl ⟨rfl, rfl⟩ ⟨by decide, by decide⟩ (fun _ _ q => by obtain ⟨_, rfl⟩ := q; first | with_reducible rfl | rw [HP_len, HP_len]) (fun rv9 h9 q9 => ?_)
    obtain ⟨rfl, rfl⟩ := q9
    have ev : (nI k = 0 ∨ nI k = 1) ↔ k < 2 := by
      rw [show (nI k = 0) = (nI k = nI 0) from rfl, show (nI k = 1) = (nI k = nI 1) from rfl, nI_eq (by omega) (by decide), nI_eq (by omega) (by decide)]
      omega
    refine Rch.z_eq rfl (fun w => ?_) (fun w => ?_)
    · rw [if_neg (fun q => if10.mp w (ev.mpr q))]
      refine Rch.go rfl ?_
      refine Rch.call 1 (t_X1_run (tko c n) K s L e _ hb2 hr hr2) rfl rfl g_X2_40 om_X1_run rfl (fun _ _ _ q => q) rfl rfl rfl rfl ⟨rfl, rfl⟩ ⟨by decide, by decide⟩ (fun _ _ q => by obtain ⟨_, rfl⟩ := q; first | with_reducible rfl | rw [HP_len, HP_len]) (fun rv9 h9 q9 => ?_)
      obtain ⟨rfl, rfl⟩ := q9
      refine Rch.go rfl ?_
      exact Rch.rv rfl rfl (by decide) (by decide) ⟨rfl, rfl⟩
    · have h2 : k < 2 := Decidable.not_not.mp (fun q => w (if10.mpr (fun q2 => q (ev.mp q2))))
      rw [if_pos h2]
      have hb3 := hb h2
      refine Rch.go rfl ?_
      match k, h2 with
      | 0, _ =>
        refine Rch.z_ne rfl (fun _ => ?_) (fun q => absurd rfl q)
        refine Rch.go rfl ?_
        refine Rch.call 0 (t_X6_put (tko c n) K s L e _ (nI_add 123 b) (by omega)) rfl rfl g_X2_21 om_X6_put rfl (fun _ _ _ q => q) rfl rfl rfl rfl ⟨rfl, rfl⟩ ⟨by decide, by decide⟩ (fun _ _ q => by obtain ⟨_, rfl⟩ := q; first | with_reducible rfl | rw [HP_len, HP_len]) (fun rv9 h9 q9 => ?_)
        obtain ⟨rfl, rfl⟩ := q9
        refine Rch.go rfl ?_
        exact Rch.rv rfl rfl (by decide) (by decide) ⟨rfl, rfl⟩
      | 1, _ =>
        refine Rch.z_ne rfl (fun q => absurd q (by decide)) (fun _ => ?_)
        refine Rch.go rfl ?_
        refine Rch.call 0 (t_X6_put (tko c n) K s L e _ (nI_add 123 b) (by omega)) rfl rfl g_X2_21 om_X6_put rfl (fun _ _ _ q => q) rfl rfl rfl rfl ⟨rfl, rfl⟩ ⟨by decide, by decide⟩ (fun _ _ q => by obtain ⟨_, rfl⟩ := q; first | with_reducible rfl | rw [HP_len, HP_len]) (fun rv9 h9 q9 => ?_)
        obtain ⟨rfl, rfl⟩ := q9
        refine Rch.go rfl ?_
        exact Rch.rv rfl rfl (by decide) (by decide) ⟨rfl, rfl⟩
  · have e1 : wof c n k b r = _ := if_neg z
    rw [e1]
    refine Rch.go rfl ?_
    refine Rch.call 0 (t_X6_add (tko c n) K s L e (j := 160) 1 rfl (by decide)) rfl rfl g_X2_33 om_X6_add rfl (fun _ _ _ q => q) rfl rfl rfl rfl ⟨rfl, rfl⟩ ⟨by decide, by decide⟩ (fun _ _ q => by obtain ⟨_, rfl⟩ := q; first | with_reducible rfl | rw [HP_len, HP_len]) (fun rv9 h9 q9 => ?_)
    obtain ⟨rfl, rfl⟩ := q9
    refine Rch.go rfl ?_
    exact Rch.rv rfl rfl (by decide) (by decide) ⟨rfl, rfl⟩
theorem t_X5_place (t b : Nat) {i j : Int32} (hi : i = nI t) (hj : j = nI b) (h0 : AH) : Ct m_X5_place X0 [.int i, .int j] h0 (fun rv h => rv = some (.int (nI (t * 3 + b))) ∧ h = h0) := by
  subst hi
  subst hj
  refine ⟨ok_X5_place, ?_⟩
  refine Rch.go rfl ?_
  exact Rch.ri rfl rfl rfl (by decide) (by decide) ⟨by rw [show nI t * 3 = nI t * nI 3 from rfl, nI_mul, nI_add], rfl⟩
theorem t_X5_putAt (c : FA) (K : KS) (s : FA) (L : LS9) (e : AH) {i : Int32} {p : Nat} (m w u : Int32) (hi : i = nI p) (hp : p < 24) : Ct m_X5_putAt X0 [.ref 1, .int i, .int m, .int w, .int u] (HP c K s L e) (fun rv h => rv = none ∧ h = HP (sq c p m w u) K s L e) := by
  subst hi
  refine ⟨ok_X5_putAt, ?_⟩
  refine Rch.go rfl ?_
  refine Rch.call 0 (t_X6_put c K s L e _ (nI_add 40 p) (by omega)) rfl rfl g_X5_30 om_X6_put rfl (fun _ _ _ q => q) rfl rfl rfl rfl ⟨rfl, rfl⟩ ⟨by decide, by decide⟩ (fun _ _ q => by obtain ⟨_, rfl⟩ := q; first | with_reducible rfl | rw [HP_len, HP_len]) (fun rv9 h9 q9 => ?_)
  obtain ⟨rfl, rfl⟩ := q9
  refine Rch.go rfl ?_
  refine Rch.call 0 (t_X6_put _ K s L e _ (nI_add 64 p) (by omega)) rfl rfl g_X5_30 om_X6_put rfl (fun _ _ _ q => q) rfl rfl rfl rfl ⟨rfl, rfl⟩ ⟨by decide, by decide⟩ (fun _ _ q => by obtain ⟨_, rfl⟩ := q; first | with_reducible rfl | rw [HP_len, HP_len]) (fun rv9 h9 q9 => ?_)
  obtain ⟨rfl, rfl⟩ := q9
  refine Rch.go rfl ?_
  refine Rch.call 0 (t_X6_put _ K s L e _ (nI_add 88 p) (by omega)) rfl rfl g_X5_30 om_X6_put rfl (fun _ _ _ q => q) rfl rfl rfl rfl ⟨rfl, rfl⟩ ⟨by decide, by decide⟩ (fun _ _ q => by obtain ⟨_, rfl⟩ := q; first | with_reducible rfl | rw [HP_len, HP_len]) (fun rv9 h9 q9 => ?_)
  obtain ⟨rfl, rfl⟩ := q9
  exact Rch.rv rfl rfl (by decide) (by decide) ⟨rfl, rfl⟩
theorem t_X5_put (c : FA) (K : KS) (s : FA) (L : LS9) (e : AH) {t : Nat} (ht : t < 8) : Ct m_X5_put X0 [.ref 1, .int (nI t)] (HP c K s L e) (fun rv h => rv = none ∧ h = HP (snd9 c t) K s L e) := by
  refine ⟨ok_X5_put, ?_⟩
  refine Rch.go rfl ?_
  refine Rch.call 1 (t_X5_place t 0 rfl rfl _) rfl rfl g_X5_9 om_X5_place rfl (fun _ _ _ q => q) rfl rfl rfl rfl ⟨rfl, rfl⟩ ⟨by decide, by decide⟩ (fun _ _ q => by obtain ⟨_, rfl⟩ := q; first | with_reducible rfl | rw [HP_len, HP_len]) (fun rv9 h9 q9 => ?_)
  obtain ⟨rfl, rfl⟩ := q9
  refine Rch.go rfl ?_
  refine Rch.z_le rfl (fun q => absurd q (by decide)) (fun _ => ?_)
  have e1 : nI (t * 3 + 0) + 2 - 1 = nI (t * 3 + 1) := by rw [show nI (t * 3 + 0) + 2 = nI (t * 3 + 0 + 2) from nI_add _ 2]; exact nI_pred (t * 3 + 1)
  have e2 : nI (t * 3 + 0) + (2 + -1) - 1 = nI (t * 3 + 0) := by rw [show nI (t * 3 + 0) + (2 + -1) = nI (t * 3 + 0 + 1) from nI_add _ 1]; exact nI_pred (t * 3 + 0)
  refine Rch.go rfl ?_
  rw [e1]
  refine Rch.call 0 (t_X6_at _ K s L e (nI_add 40 (t * 3 + 1)) (by omega)) rfl rfl g_X5_17 om_X6_at rfl (fun _ _ _ q => q) rfl rfl rfl rfl ⟨rfl, rfl⟩ ⟨by decide, by decide⟩ (fun _ _ q => by obtain ⟨_, rfl⟩ := q; first | with_reducible rfl | rw [HP_len, HP_len]) (fun rv9 h9 q9 => ?_)
  obtain ⟨rfl, rfl⟩ := q9
  refine Rch.go rfl ?_
  refine Rch.call 0 (t_X6_at _ K s L e (nI_add 64 (t * 3 + 1)) (by omega)) rfl rfl g_X5_17 om_X6_at rfl (fun _ _ _ q => q) rfl rfl rfl rfl ⟨rfl, rfl⟩ ⟨by decide, by decide⟩ (fun _ _ q => by obtain ⟨_, rfl⟩ := q; first | with_reducible rfl | rw [HP_len, HP_len]) (fun rv9 h9 q9 => ?_)
  obtain ⟨rfl, rfl⟩ := q9
  refine Rch.go rfl ?_
  refine Rch.call 0 (t_X6_at _ K s L e (nI_add 88 (t * 3 + 1)) (by omega)) rfl rfl g_X5_17 om_X6_at rfl (fun _ _ _ q => q) rfl rfl rfl rfl ⟨rfl, rfl⟩ ⟨by decide, by decide⟩ (fun _ _ q => by obtain ⟨_, rfl⟩ := q; first | with_reducible rfl | rw [HP_len, HP_len]) (fun rv9 h9 q9 => ?_)
  obtain ⟨rfl, rfl⟩ := q9
  refine Rch.call 1 (t_X5_putAt _ K s L e _ _ _ (nI_1 (t * 3 + 1)) (by omega)) rfl rfl g_X5_21 om_X5_putAt rfl (fun _ _ _ q => q) rfl rfl rfl rfl ⟨rfl, rfl⟩ ⟨by decide, by decide⟩ (fun _ _ q => by obtain ⟨_, rfl⟩ := q; first | with_reducible rfl | rw [HP_len, HP_len]) (fun rv9 h9 q9 => ?_)
  obtain ⟨rfl, rfl⟩ := q9
  refine Rch.go rfl ?_
  refine Rch.z_le rfl (fun q => absurd q (by decide)) (fun _ => ?_)
  refine Rch.go rfl ?_
  rw [e2]
  refine Rch.call 0 (t_X6_at _ K s L e (nI_add 40 (t * 3 + 0)) (by omega)) rfl rfl g_X5_17 om_X6_at rfl (fun _ _ _ q => q) rfl rfl rfl rfl ⟨rfl, rfl⟩ ⟨by decide, by decide⟩ (fun _ _ q => by obtain ⟨_, rfl⟩ := q; first | with_reducible rfl | rw [HP_len, HP_len]) (fun rv9 h9 q9 => ?_)
  obtain ⟨rfl, rfl⟩ := q9
  refine Rch.go rfl ?_
  refine Rch.call 0 (t_X6_at _ K s L e (nI_add 64 (t * 3 + 0)) (by omega)) rfl rfl g_X5_17 om_X6_at rfl (fun _ _ _ q => q) rfl rfl rfl rfl ⟨rfl, rfl⟩ ⟨by decide, by decide⟩ (fun _ _ q => by obtain ⟨_, rfl⟩ := q; first | with_reducible rfl | rw [HP_len, HP_len]) (fun rv9 h9 q9 => ?_)
  obtain ⟨rfl, rfl⟩ := q9
  refine Rch.go rfl ?_
  refine Rch.call 0 (t_X6_at _ K s L e (nI_add 88 (t * 3 + 0)) (by omega)) rfl rfl g_X5_17 om_X6_at rfl (fun _ _ _ q => q) rfl rfl rfl rfl ⟨rfl, rfl⟩ ⟨by decide, by decide⟩ (fun _ _ q => by obtain ⟨_, rfl⟩ := q; first | with_reducible rfl | rw [HP_len, HP_len]) (fun rv9 h9 q9 => ?_)
  obtain ⟨rfl, rfl⟩ := q9
  refine Rch.call 1 (t_X5_putAt _ K s L e _ _ _ (nI_1 (t * 3 + 0)) (by omega)) rfl rfl g_X5_21 om_X5_putAt rfl (fun _ _ _ q => q) rfl rfl rfl rfl ⟨rfl, rfl⟩ ⟨by decide, by decide⟩ (fun _ _ q => by obtain ⟨_, rfl⟩ := q; first | with_reducible rfl | rw [HP_len, HP_len]) (fun rv9 h9 q9 => ?_)
  obtain ⟨rfl, rfl⟩ := q9
  refine Rch.go rfl ?_
  refine Rch.z_le rfl (fun _ => ?_) (fun q => absurd (by decide) q)
  refine Rch.go rfl ?_
  refine Rch.call 0 (t_X6_at _ K s L e (j := 156) rfl (by decide)) rfl rfl g_X5_17 om_X6_at rfl (fun _ _ _ q => q) rfl rfl rfl rfl ⟨rfl, rfl⟩ ⟨by decide, by decide⟩ (fun _ _ q => by obtain ⟨_, rfl⟩ := q; first | with_reducible rfl | rw [HP_len, HP_len]) (fun rv9 h9 q9 => ?_)
  obtain ⟨rfl, rfl⟩ := q9
  refine Rch.go rfl ?_
  refine Rch.call 0 (t_X6_at _ K s L e (zadd t) (by omega)) rfl rfl g_X5_17 om_X6_at rfl (fun _ _ _ q => q) rfl rfl rfl rfl ⟨rfl, rfl⟩ ⟨by decide, by decide⟩ (fun _ _ q => by obtain ⟨_, rfl⟩ := q; first | with_reducible rfl | rw [HP_len, HP_len]) (fun rv9 h9 q9 => ?_)
  obtain ⟨rfl, rfl⟩ := q9
  refine Rch.go rfl ?_
  refine Rch.call 0 (t_X6_at _ K s L e (nI_add 24 t) (by omega)) rfl rfl g_X5_17 om_X6_at rfl (fun _ _ _ q => q) rfl rfl rfl rfl ⟨rfl, rfl⟩ ⟨by decide, by decide⟩ (fun _ _ q => by obtain ⟨_, rfl⟩ := q; first | with_reducible rfl | rw [HP_len, HP_len]) (fun rv9 h9 q9 => ?_)
  obtain ⟨rfl, rfl⟩ := q9
  refine Rch.call 1 (t_X5_putAt _ K s L e _ _ _ rfl (by omega)) rfl rfl g_X5_21 om_X5_putAt rfl (fun _ _ _ q => q) rfl rfl rfl rfl ⟨rfl, rfl⟩ ⟨by decide, by decide⟩ (fun _ _ q => by obtain ⟨_, rfl⟩ := q; first | with_reducible rfl | rw [HP_len, HP_len]) (fun rv9 h9 q9 => ?_)
  obtain ⟨rfl, rfl⟩ := q9
  refine Rch.go rfl ?_
  refine Rch.call 0 (t_X6_at _ K s L e (nI_add 32 t) (by omega)) rfl rfl g_X5_17 om_X6_at rfl (fun _ _ _ q => q) rfl rfl rfl rfl ⟨rfl, rfl⟩ ⟨by decide, by decide⟩ (fun _ _ q => by obtain ⟨_, rfl⟩ := q; first | with_reducible rfl | rw [HP_len, HP_len]) (fun rv9 h9 q9 => ?_)
  obtain ⟨rfl, rfl⟩ := q9
  refine Rch.go rfl ?_
  refine Rch.min rfl (by decide +kernel) rfl rfl rfl (by decide) (by decide) ?_
  refine Rch.call 0 (t_X6_put _ K s L e _ (nI_add 32 t) (by omega)) rfl rfl g_X5_30 om_X6_put rfl (fun _ _ _ q => q) rfl rfl rfl rfl ⟨rfl, rfl⟩ ⟨by decide, by decide⟩ (fun _ _ q => by obtain ⟨_, rfl⟩ := q; first | with_reducible rfl | rw [HP_len, HP_len]) (fun rv9 h9 q9 => ?_)
  obtain ⟨rfl, rfl⟩ := q9
  exact Rch.rv rfl rfl (by decide) (by decide) ⟨rfl, rfl⟩
theorem t_X5_isLossTold (c : FA) (K : KS) (s : FA) (L : LS9) (e : AH) {t : Nat} (ht : t < 8) : Ct m_X5_isLossTold X0 [.ref 1, .int (nI t)] (HP c K s L e) (fun rv h => (rv = some (.int 1) ∧ tldB c t ∨ rv = some (.int 0) ∧ ¬ tldB c t) ∧ h = HP c K s L e) := by
  refine ⟨ok_X5_isLossTold, ?_⟩
  refine Rch.go rfl ?_
  refine Rch.call 1 (t_X5_place t 0 rfl rfl _) rfl rfl g_X5_9 om_X5_place rfl (fun _ _ _ q => q) rfl rfl rfl rfl ⟨rfl, rfl⟩ ⟨by decide, by decide⟩ (fun _ _ q => by obtain ⟨_, rfl⟩ := q; first | with_reducible rfl | rw [HP_len, HP_len]) (fun rv9 h9 q9 => ?_)
  obtain ⟨rfl, rfl⟩ := q9
  refine Rch.go rfl ?_
  refine Rch.call 1 (t_X5_place t 1 rfl rfl _) rfl rfl g_X5_9 om_X5_place rfl (fun _ _ _ q => q) rfl rfl rfl rfl ⟨rfl, rfl⟩ ⟨by decide, by decide⟩ (fun _ _ q => by obtain ⟨_, rfl⟩ := q; first | with_reducible rfl | rw [HP_len, HP_len]) (fun rv9 h9 q9 => ?_)
  obtain ⟨rfl, rfl⟩ := q9
  refine Rch.go rfl ?_
  refine Rch.call 0 (t_X6_at _ K s L e (nI_add 32 t) (by omega)) rfl rfl g_X5_17 om_X6_at rfl (fun _ _ _ q => q) rfl rfl rfl rfl ⟨rfl, rfl⟩ ⟨by decide, by decide⟩ (fun _ _ q => by obtain ⟨_, rfl⟩ := q; first | with_reducible rfl | rw [HP_len, HP_len]) (fun rv9 h9 q9 => ?_)
  obtain ⟨rfl, rfl⟩ := q9
  refine Rch.go rfl ?_
  refine Rch.i_lt rfl (fun z => ?_) (fun z => ?_)
  · refine Rch.go rfl ?_
    exact Rch.ri rfl rfl rfl (by decide) (by decide) (⟨Or.inr ⟨rfl, fun q => Int32.not_le.mpr z q.1⟩, rfl⟩)
  · refine Rch.go rfl ?_
    refine Rch.call 0 (t_X6_at _ K s L e (nI_add 88 (t * 3 + 0)) (by omega)) rfl rfl g_X5_17 om_X6_at rfl (fun _ _ _ q => q) rfl rfl rfl rfl ⟨rfl, rfl⟩ ⟨by decide, by decide⟩ (fun _ _ q => by obtain ⟨_, rfl⟩ := q; first | with_reducible rfl | rw [HP_len, HP_len]) (fun rv9 h9 q9 => ?_)
    obtain ⟨rfl, rfl⟩ := q9
    refine Rch.go rfl ?_
    refine Rch.call 0 (t_X6_at _ K s L e (nI_add 88 (t * 3 + 1)) (by omega)) rfl rfl g_X5_17 om_X6_at rfl (fun _ _ _ q => q) rfl rfl rfl rfl ⟨rfl, rfl⟩ ⟨by decide, by decide⟩ (fun _ _ q => by obtain ⟨_, rfl⟩ := q; first | with_reducible rfl | rw [HP_len, HP_len]) (fun rv9 h9 q9 => ?_)
    obtain ⟨rfl, rfl⟩ := q9
    refine Rch.i_ne rfl (fun w => ?_) (fun w => ?_)
    · refine Rch.go rfl ?_
      exact Rch.ri rfl rfl rfl (by decide) (by decide) (⟨Or.inl ⟨rfl, nlt_le z, w⟩, rfl⟩)
    · refine Rch.go rfl ?_
      exact Rch.ri rfl rfl rfl (by decide) (by decide) (⟨Or.inr ⟨rfl, fun q => w q.2⟩, rfl⟩)
theorem t_X5_loss (c : FA) (K : KS) (s : FA) (L : LS9) (e : AH) {t : Nat} (ht : t < 8) : Ct m_X5_loss X0 [.ref 1, .int (nI t)] (HP c K s L e) (fun rv h => rv = some (.int (los c t)) ∧ h = HP c K s L e) := by
  refine ⟨ok_X5_loss, ?_⟩
  refine Rch.go rfl ?_
  refine Rch.call 1 (t_X5_place t 0 rfl rfl _) rfl rfl g_X5_9 om_X5_place rfl (fun _ _ _ q => q) rfl rfl rfl rfl ⟨rfl, rfl⟩ ⟨by decide, by decide⟩ (fun _ _ q => by obtain ⟨_, rfl⟩ := q; first | with_reducible rfl | rw [HP_len, HP_len]) (fun rv9 h9 q9 => ?_)
  obtain ⟨rfl, rfl⟩ := q9
  refine Rch.go rfl ?_
  refine Rch.call 1 (t_X5_place t 1 rfl rfl _) rfl rfl g_X5_9 om_X5_place rfl (fun _ _ _ q => q) rfl rfl rfl rfl ⟨rfl, rfl⟩ ⟨by decide, by decide⟩ (fun _ _ q => by obtain ⟨_, rfl⟩ := q; first | with_reducible rfl | rw [HP_len, HP_len]) (fun rv9 h9 q9 => ?_)
  obtain ⟨rfl, rfl⟩ := q9
  refine Rch.go rfl ?_
  refine Rch.call 0 (t_X6_at _ K s L e (nI_add 64 (t * 3 + 1)) (by omega)) rfl rfl g_X5_17 om_X6_at rfl (fun _ _ _ q => q) rfl rfl rfl rfl ⟨rfl, rfl⟩ ⟨by decide, by decide⟩ (fun _ _ q => by obtain ⟨_, rfl⟩ := q; first | with_reducible rfl | rw [HP_len, HP_len]) (fun rv9 h9 q9 => ?_)
  obtain ⟨rfl, rfl⟩ := q9
  refine Rch.go rfl ?_
  refine Rch.call 0 (t_X6_at _ K s L e (nI_add 64 (t * 3 + 0)) (by omega)) rfl rfl g_X5_17 om_X6_at rfl (fun _ _ _ q => q) rfl rfl rfl rfl ⟨rfl, rfl⟩ ⟨by decide, by decide⟩ (fun _ _ q => by obtain ⟨_, rfl⟩ := q; first | with_reducible rfl | rw [HP_len, HP_len]) (fun rv9 h9 q9 => ?_)
  obtain ⟨rfl, rfl⟩ := q9
  refine Rch.go rfl ?_
  exact Rch.ri rfl rfl rfl (by decide) (by decide) ⟨rfl, rfl⟩
end RO
