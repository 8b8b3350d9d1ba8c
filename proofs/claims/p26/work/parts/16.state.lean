/-! ===== the barge's cells: what State's methods answer ===== -/
/-- a sum, term by term -/
def fs (a : Int32) (f : Nat → Int32) : Nat → Int32
  | 0 => a
  | n + 1 => fs a f n + f n
abbrev bt (x : Int32) (t : Nat) : Prop := (x >>> (nI t &&& 31)) &&& 1 = 1
def secA (k : Nat) : Int32 := [(-30 : Int32), -10, 10, 30].getD k 0
def sidA (k : Nat) : Int32 := [(-4 : Int32), 4].getD k 0
def hldA (k : Nat) : Int32 := [(-20 : Int32), 0, 20].getD k 0
def wgt (c : FA) : Int32 := fs (fs 400 c 8) (fun h => c (112 + h)) 3
def lostS (c : FA) : Int32 := fs 0 (fun t => c (16 + t)) 8
def tmo (c : FA) (p : Int32) : Int32 := fs (fs (p * (wgt c - 400)) (fun t => c t * (secA (t / 2) - p)) 8) (fun h => c (112 + h) * (hldA h - p)) 3
def lmo (c : FA) : Int32 := fs (fs 0 (fun t => c t * sidA (t % 2)) 8) (fun h => c (112 + h) * c (115 + h)) 3
def lof (m w : Int32) : Int32 := if w ≤ 0 then 0 else 10 * m / w
def lst (c : FA) : Int32 := lof (lmo c) (wgt c)
def wti (c : FA) (x : Int32) : Int32 := fs 0 (fun t => if bt x t then c t else 0) 8
/-- the set of the open tanks, of the first n groups -/
def opn (c : FA) : Nat → Int32
  | 0 => 0
  | n + 1 => if c (123 + n) = 1 then opn c n ||| c (118 + n) else opn c n
def grw (c : FA) (t : Int32) : Nat → Int32
  | 0 => 0
  | n + 1 => if (c (118 + n) >>> (t &&& 31)) &&& 1 = 1 then grw c t n ||| (1 <<< (nI n &&& 31)) else grw c t n
/-- of the first n tanks that are in the set the first with the least water -/
def emp (c : FA) (x : Int32) : Nat → Option Nat
  | 0 => none
  | n + 1 => if bt x n then (match emp c x n with
    | none => some n
    | some k => if c k ≤ c n then some k else some n) else emp c x n
def ful (c : FA) (x : Int32) : Nat → Option Nat
  | 0 => none
  | n + 1 => if bt x n then (match ful c x n with
    | none => some n
    | some k => if c n ≤ c k then some k else some n) else ful c x n
def oI (o : Option Nat) : Int32 := match o with
  | none => -1
  | some k => nI k
theorem emp_lt {c : FA} {x : Int32} {n k : Nat} (h : emp c x n = some k) : k < n := by
  induction n with
  | zero => cases h
  | succ n ih =>
    unfold emp at h
    split at h
    · split at h
      · cases h; omega
      · next k2 hk2 =>
        split at h
        · cases h; have := ih hk2; omega
        · cases h; omega
    · have := ih h; omega
theorem ful_lt {c : FA} {x : Int32} {n k : Nat} (h : ful c x n = some k) : k < n := by
  induction n with
  | zero => cases h
  | succ n ih =>
    unfold ful at h
    split at h
    · split at h
      · cases h; omega
      · next k2 hk2 =>
        split at h
        · cases h; have := ih hk2; omega
        · cases h; omega
    · have := ih h; omega
theorem if10 {p : Prop} [Decidable p] : ((if p then (1 : Int32) else 0) = 0) ↔ ¬ p := by
  by_cases h : p <;> simp [h]
theorem nI_ne1 {k : Nat} (h : k < 2 ^ 31) : ¬ nI k = -1 := by
  intro e
  have := nI_pos h
  rw [e] at this
  exact absurd this (by decide)
theorem nI_div {k d : Nat} (h : k < 2 ^ 31) (hd : d < 2 ^ 31) : nI k / nI d = nI (k / d) := by
  apply Int32.toInt_inj.mp
  have h1 : k / d < 2 ^ 31 := Nat.lt_of_le_of_lt (Nat.div_le_self k d) h
  rw [Int32.toInt_div_of_ne_left _ _ (fun e => by have := nI_pos h; rw [e] at this; exact this (by decide)), nI_toInt h, nI_toInt hd, nI_toInt h1]
  rfl
theorem nI_sub {a b : Nat} (h : b ≤ a) : nI a - nI b = nI (a - b) := by
  have e : nI a = nI (a - b) + nI b := by rw [nI_add]; congr 1; omega
  rw [e, Int32.add_sub_cancel]
theorem nI_rem {k d : Nat} (h : k < 2 ^ 31) (hd : d < 2 ^ 31) : nI k - nI k / nI d * nI d = nI (k % d) := by
  rw [nI_div h hd, nI_mul, nI_sub (Nat.div_mul_le_self k d)]
  congr 1
  have := Nat.div_add_mod k d
  rw [Nat.mul_comm] at this
  omega
section ST
theorem t_X6_at (c : FA) (K : KS) (s : FA) (L : LS9) (e : AH) {i : Int32} {j : Nat} (hi : i = nI j) (hj : j < 162) : Ct m_X6_at X0 [.ref 1, .int i] (HP c K s L e) (fun rv h => rv = some (.int (c j)) ∧ h = HP c K s L e) := by
  subst hi
  refine ⟨ok_X6_at, ?_⟩
  refine Rch.go rfl ?_
  refine Rch.z_lt rfl (fun z => absurd z (nI_pos (by omega))) (fun _ => ?_)
  refine Rch.go rfl ?_
  refine Rch.i_ge rfl (fun z => absurd z (lo_in hj (by decide))) (fun _ => ?_)
  refine Rch.go rfl ?_
  refine Rch.ia rfl rfl rfl (rfl) (by omega) (by decide) ?_
  refine Rch.go rfl ?_
  exact Rch.ri rfl rfl rfl (by decide) (by decide) ⟨rfl, rfl⟩
theorem t_X6_put (c : FA) (K : KS) (s : FA) (L : LS9) (e : AH) {i : Int32} {j : Nat} (x : Int32) (hi : i = nI j) (hj : j < 162) : Ct m_X6_put X0 [.ref 1, .int i, .int x] (HP c K s L e) (fun rv h => rv = none ∧ h = HP (upd c j x) K s L e) := by
  subst hi
  refine ⟨ok_X6_put, ?_⟩
  refine Rch.go rfl ?_
  refine Rch.z_lt rfl (fun z => absurd z (nI_pos (by omega))) (fun _ => ?_)
  refine Rch.go rfl ?_
  refine Rch.i_ge rfl (fun z => absurd z (lo_in hj (by decide))) (fun _ => ?_)
  refine Rch.go rfl ?_
  refine Rch.ias rfl rfl rfl hj (by decide) ?_
  exact Rch.rv rfl rfl (by decide) (by decide) ⟨rfl, rfl⟩
theorem t_X6_add (c : FA) (K : KS) (s : FA) (L : LS9) (e : AH) {i : Int32} {j : Nat} (x : Int32) (hi : i = nI j) (hj : j < 162) : Ct m_X6_add X0 [.ref 1, .int i, .int x] (HP c K s L e) (fun rv h => rv = none ∧ h = HP (upd c j (c j + x)) K s L e) := by
  subst hi
  refine ⟨ok_X6_add, ?_⟩
  refine Rch.go rfl ?_
  refine Rch.z_lt rfl (fun z => absurd z (nI_pos (by omega))) (fun _ => ?_)
  refine Rch.go rfl ?_
  refine Rch.i_ge rfl (fun z => absurd z (lo_in hj (by decide))) (fun _ => ?_)
  refine Rch.go rfl ?_
  refine Rch.ia rfl rfl rfl (rfl) (by omega) (by decide) ?_
  refine Rch.go rfl ?_
  refine Rch.ias rfl rfl rfl hj (by decide) ?_
  exact Rch.rv rfl rfl (by decide) (by decide) ⟨rfl, rfl⟩
theorem t_X6_isIn (x t : Int32) (h0 : AH) : Ct m_X6_isIn X0 [.int x, .int t] h0 (fun rv h => rv = some (.int (if (x >>> (t &&& 31)) &&& 1 = 1 then 1 else 0)) ∧ h = h0) := by
  refine ⟨ok_X6_isIn, ?_⟩
  refine Rch.go rfl ?_
  refine Rch.i_ne rfl (fun z => ?_) (fun z => ?_)
  · refine Rch.go rfl ?_
    exact Rch.ri rfl rfl rfl (by decide) (by decide) ⟨by rw [if_pos z], rfl⟩
  · refine Rch.go rfl ?_
    exact Rch.ri rfl rfl rfl (by decide) (by decide) ⟨by rw [if_neg z], rfl⟩
theorem t_X6_waterIn (c : FA) (K : KS) (s : FA) (L : LS9) (e : AH) (x : Int32) : Ct m_X6_waterIn X0 [.ref 1, .int x] (HP c K s L e) (fun rv h => rv = some (.int (wti c x)) ∧ h = HP c K s L e) := by
  refine ⟨ok_X6_waterIn, ?_⟩
  refine Rch.go rfl ?_
  refine Rch.for 8 (fun n => (7, [(0, .ref 1), (1, .int x), (2, .int (fs 0 (fun t => if bt x t then c t else 0) n)), (3, .int (nI n))], [.int 8, .int (nI n)], HP c K s L e, 0, 0)) (fun n hn => ?_) ?_ 0 (by omega)
  · refine Rch.i_ge rfl (fun z => absurd z (lo_in hn (by decide))) (fun _ => ?_)
    refine Rch.go rfl ?_
    refine Rch.call 1 (t_X6_isIn _ _ _) rfl rfl g_X6_27 om_X6_isIn rfl (fun _ _ _ q => q) rfl rfl rfl rfl ⟨rfl, rfl⟩ ⟨by decide, by decide⟩ (fun _ _ q => by obtain ⟨_, rfl⟩ := q; first | with_reducible rfl | rw [HP_len, HP_len]) (fun rv9 h9 q9 => ?_)
    obtain ⟨rfl, rfl⟩ := q9
    refine Rch.z_eq rfl (fun z => ?_) (fun z => ?_)
    · refine Rch.go rfl (Rch.rf ?_)
      have e1 : fs 0 (fun t => if bt x t then c t else 0) (n + 1) = fs 0 (fun t => if bt x t then c t else 0) n := by
        show fs 0 (fun t => if bt x t then c t else 0) n + (if bt x n then c n else 0) = _
        rw [if_neg (if10.mp z), Int32.add_zero]
      rw [nI_1, ← e1]
      rfl
    · refine Rch.go rfl ?_
      refine Rch.ia rfl rfl rfl ((show (0 : Int32) + nI n = nI n from Int32.zero_add _)) (by omega) (by decide) ?_
      refine Rch.go rfl (Rch.rf ?_)
      rw [nI_1, ← show (if bt x n then c n else 0) = c n from if_pos (Decidable.not_not.mp (fun q => z (if10.mpr q)))]
      rfl
  · refine Rch.i_ge rfl (fun _ => ?_) (fun z => absurd (lo_out (by decide)) z)
    refine Rch.go rfl ?_
    exact Rch.ri rfl rfl rfl (by decide) (by decide) ⟨rfl, rfl⟩
theorem t_X6_lostByLeaks (c : FA) (K : KS) (s : FA) (L : LS9) (e : AH) : Ct m_X6_lostByLeaks X0 [.ref 1] (HP c K s L e) (fun rv h => rv = some (.int (lostS c)) ∧ h = HP c K s L e) := by
  refine ⟨ok_X6_lostByLeaks, ?_⟩
  refine Rch.go rfl ?_
  refine Rch.for 8 (fun n => (7, [(0, .ref 1), (1, .int (fs 0 (fun t => c (16 + t)) n)), (2, .int (nI n))], [.int 8, .int (nI n)], HP c K s L e, 0, 0)) (fun n hn => ?_) ?_ 0 (by omega)
  · refine Rch.i_ge rfl (fun z => absurd z (lo_in hn (by decide))) (fun _ => ?_)
    refine Rch.go rfl ?_
    refine Rch.ia rfl rfl rfl (nI_add 16 n) (by omega) (by decide) ?_
    refine Rch.go rfl (Rch.rf ?_)
    rw [nI_1]
    rfl
  · refine Rch.i_ge rfl (fun _ => ?_) (fun z => absurd (lo_out (by decide)) z)
    refine Rch.go rfl ?_
    exact Rch.ri rfl rfl rfl (by decide) (by decide) ⟨rfl, rfl⟩
theorem t_X6_weight (c : FA) (K : KS) (s : FA) (L : LS9) (e : AH) : Ct m_X6_weight X0 [.ref 1] (HP c K s L e) (fun rv h => rv = some (.int (wgt c)) ∧ h = HP c K s L e) := by
  refine ⟨ok_X6_weight, ?_⟩
  refine Rch.go rfl ?_
  refine Rch.for 8 (fun n => (9, [(0, .ref 1), (1, .int (fs 400 c n)), (2, .int (nI n))], [.int 8, .int (nI n)], HP c K s L e, 0, 0)) (fun n hn => ?_) ?_ 0 (by omega)
  · refine Rch.i_ge rfl (fun z => absurd z (lo_in hn (by decide))) (fun _ => ?_)
    refine Rch.go rfl ?_
    refine Rch.ia rfl rfl rfl ((show (0 : Int32) + nI n = nI n from Int32.zero_add _)) (by omega) (by decide) ?_
    refine Rch.go rfl (Rch.rf ?_)
    rw [nI_1]
    rfl
  · refine Rch.i_ge rfl (fun _ => ?_) (fun z => absurd (lo_out (by decide)) z)
    refine Rch.go rfl ?_
    refine Rch.for 3 (fun n => (33, [(0, .ref 1), (1, .int (fs (fs 400 c 8) (fun h => c (112 + h)) n)), (2, .int (nI n))], [.int 3, .int (nI n)], HP c K s L e, 0, 0)) (fun n hn => ?_) ?_ 0 (by omega)
    · refine Rch.i_ge rfl (fun z => absurd z (lo_in hn (by decide))) (fun _ => ?_)
      refine Rch.go rfl ?_
      refine Rch.ia rfl rfl rfl (nI_add 112 n) (by omega) (by decide) ?_
      refine Rch.go rfl (Rch.rf ?_)
      rw [nI_1]
      rfl
    · refine Rch.i_ge rfl (fun _ => ?_) (fun z => absurd (lo_out (by decide)) z)
      refine Rch.go rfl ?_
      exact Rch.ri rfl rfl rfl (by decide) (by decide) ⟨rfl, rfl⟩
theorem t_X6_trimMomentAbout (c : FA) (K : KS) (s : FA) (L : LS9) (e : AH) (p : Int32) : Ct m_X6_trimMomentAbout X0 [.ref 1, .int p] (HP c K s L e) (fun rv h => rv = some (.int (tmo c p)) ∧ h = HP c K s L e) := by
  refine ⟨ok_X6_trimMomentAbout, ?_⟩
  refine Rch.go rfl ?_
  refine Rch.call 0 (t_X6_weight c K s L e) rfl rfl g_X6_31 om_X6_weight rfl (fun _ _ _ q => q) rfl rfl rfl rfl ⟨rfl, rfl⟩ ⟨by decide, by decide⟩ (fun _ _ q => by obtain ⟨_, rfl⟩ := q; first | with_reducible rfl | rw [HP_len, HP_len]) (fun rv9 h9 q9 => ?_)
  obtain ⟨rfl, rfl⟩ := q9
  refine Rch.go rfl ?_
  refine Rch.for 8 (fun n => (16, [(0, .ref 1), (1, .int p), (2, .int (fs (p * (wgt c - 400)) (fun t => c t * (secA (t / 2) - p)) n)), (3, .int (nI n))], [.int 8, .int (nI n)], HP c K s L e, 0, 0)) (fun n hn => ?_) ?_ 0 (by omega)
  · refine Rch.i_ge rfl (fun z => absurd z (lo_in hn (by decide))) (fun _ => ?_)
    refine Rch.go rfl ?_
    refine Rch.ia rfl rfl rfl ((show (0 : Int32) + nI n = nI n from Int32.zero_add _)) (by omega) (by decide) ?_
    refine Rch.go rfl ?_
    refine Rch.div rfl (by decide) ?_
    refine Rch.xa rfl rfl rfl (nI_div (d := 2) (by omega) (by decide)) (by omega) (by decide) ?_
    refine Rch.go rfl (Rch.rf ?_)
    rw [nI_1]
    rfl
  · refine Rch.i_ge rfl (fun _ => ?_) (fun z => absurd (lo_out (by decide)) z)
    refine Rch.go rfl ?_
    refine Rch.for 3 (fun n => (50, [(0, .ref 1), (1, .int p), (2, .int (fs (fs (p * (wgt c - 400)) (fun t => c t * (secA (t / 2) - p)) 8) (fun h => c (112 + h) * (hldA h - p)) n)), (3, .int (nI n))], [.int 3, .int (nI n)], HP c K s L e, 0, 0)) (fun n hn => ?_) ?_ 0 (by omega)
    · refine Rch.i_ge rfl (fun z => absurd z (lo_in hn (by decide))) (fun _ => ?_)
      refine Rch.go rfl ?_
      refine Rch.ia rfl rfl rfl (nI_add 112 n) (by omega) (by decide) ?_
      refine Rch.go rfl ?_
      refine Rch.xa rfl rfl rfl rfl (by omega) (by decide) ?_
      refine Rch.go rfl (Rch.rf ?_)
      rw [nI_1]
      rfl
    · refine Rch.i_ge rfl (fun _ => ?_) (fun z => absurd (lo_out (by decide)) z)
      refine Rch.go rfl ?_
      exact Rch.ri rfl rfl rfl (by decide) (by decide) ⟨rfl, rfl⟩
theorem t_X6_trim (c : FA) (K : KS) (s : FA) (L : LS9) (e : AH) : Ct m_X6_trim X0 [.ref 1] (HP c K s L e) (fun rv h => rv = some (.int (tmo c 0 / 40)) ∧ h = HP c K s L e) := by
  refine ⟨ok_X6_trim, ?_⟩
  refine Rch.go rfl ?_
  refine Rch.call 0 (t_X6_trimMomentAbout c K s L e _) rfl rfl g_X6_41 om_X6_trimMomentAbout rfl (fun _ _ _ q => q) rfl rfl rfl rfl ⟨rfl, rfl⟩ ⟨by decide, by decide⟩ (fun _ _ q => by obtain ⟨_, rfl⟩ := q; first | with_reducible rfl | rw [HP_len, HP_len]) (fun rv9 h9 q9 => ?_)
  obtain ⟨rfl, rfl⟩ := q9
  refine Rch.go rfl ?_
  refine Rch.div rfl (by decide) ?_
  exact Rch.ri rfl rfl rfl (by decide) (by decide) ⟨rfl, rfl⟩
theorem t_X6_listMoment (c : FA) (K : KS) (s : FA) (L : LS9) (e : AH) : Ct m_X6_listMoment X0 [.ref 1] (HP c K s L e) (fun rv h => rv = some (.int (lmo c)) ∧ h = HP c K s L e) := by
  refine ⟨ok_X6_listMoment, ?_⟩
  refine Rch.go rfl ?_
  refine Rch.for 8 (fun n => (7, [(0, .ref 1), (1, .int (fs 0 (fun t => c t * sidA (t % 2)) n)), (2, .int (nI n))], [.int 8, .int (nI n)], HP c K s L e, 0, 0)) (fun n hn => ?_) ?_ 0 (by omega)
  · refine Rch.i_ge rfl (fun z => absurd z (lo_in hn (by decide))) (fun _ => ?_)
    refine Rch.go rfl ?_
    refine Rch.ia rfl rfl rfl ((show (0 : Int32) + nI n = nI n from Int32.zero_add _)) (by omega) (by decide) ?_
    refine Rch.go rfl ?_
    refine Rch.xa rfl rfl rfl (nI_rem (d := 2) (by omega) (by decide)) (by omega) (by decide) ?_
    refine Rch.go rfl (Rch.rf ?_)
    rw [nI_1]
    rfl
  · refine Rch.i_ge rfl (fun _ => ?_) (fun z => absurd (lo_out (by decide)) z)
    refine Rch.go rfl ?_
    refine Rch.for 3 (fun n => (39, [(0, .ref 1), (1, .int (fs (fs 0 (fun t => c t * sidA (t % 2)) 8) (fun h => c (112 + h) * c (115 + h)) n)), (2, .int (nI n))], [.int 3, .int (nI n)], HP c K s L e, 0, 0)) (fun n hn => ?_) ?_ 0 (by omega)
    · refine Rch.i_ge rfl (fun z => absurd z (lo_in hn (by decide))) (fun _ => ?_)
      refine Rch.go rfl ?_
      refine Rch.ia rfl rfl rfl (nI_add 112 n) (by omega) (by decide) ?_
      refine Rch.go rfl ?_
      refine Rch.ia rfl rfl rfl (nI_add 115 n) (by omega) (by decide) ?_
      refine Rch.go rfl (Rch.rf ?_)
      rw [nI_1]
      rfl
    · refine Rch.i_ge rfl (fun _ => ?_) (fun z => absurd (lo_out (by decide)) z)
      refine Rch.go rfl ?_
      exact Rch.ri rfl rfl rfl (by decide) (by decide) ⟨rfl, rfl⟩
theorem t_X6_listOf (m w : Int32) (h0 : AH) : Ct m_X6_listOf X0 [.int m, .int w] h0 (fun rv h => rv = some (.int (lof m w)) ∧ h = h0) := by
  refine ⟨ok_X6_listOf, ?_⟩
  refine Rch.go rfl ?_
  refine Rch.z_le rfl (fun z => ?_) (fun z => ?_)
  · refine Rch.go rfl ?_
    exact Rch.ri rfl rfl rfl (by decide) (by decide) ⟨by unfold lof; rw [if_pos z], rfl⟩
  · refine Rch.go rfl ?_
    refine Rch.div rfl (fun q => z (by rw [q]; exact Int32.le_refl _)) ?_
    refine Rch.go rfl ?_
    exact Rch.ri rfl rfl rfl (by decide) (by decide) ⟨by unfold lof; rw [if_neg z], rfl⟩
theorem t_X6_list (c : FA) (K : KS) (s : FA) (L : LS9) (e : AH) : Ct m_X6_list X0 [.ref 1] (HP c K s L e) (fun rv h => rv = some (.int (lst c)) ∧ h = HP c K s L e) := by
  refine ⟨ok_X6_list, ?_⟩
  refine Rch.go rfl ?_
  refine Rch.call 0 (t_X6_listMoment c K s L e) rfl rfl g_X6_48 om_X6_listMoment rfl (fun _ _ _ q => q) rfl rfl rfl rfl ⟨rfl, rfl⟩ ⟨by decide, by decide⟩ (fun _ _ q => by obtain ⟨_, rfl⟩ := q; first | with_reducible rfl | rw [HP_len, HP_len]) (fun rv9 h9 q9 => ?_)
  obtain ⟨rfl, rfl⟩ := q9
  refine Rch.go rfl ?_
  refine Rch.call 0 (t_X6_weight c K s L e) rfl rfl g_X6_31 om_X6_weight rfl (fun _ _ _ q => q) rfl rfl rfl rfl ⟨rfl, rfl⟩ ⟨by decide, by decide⟩ (fun _ _ q => by obtain ⟨_, rfl⟩ := q; first | with_reducible rfl | rw [HP_len, HP_len]) (fun rv9 h9 q9 => ?_)
  obtain ⟨rfl, rfl⟩ := q9
  refine Rch.go rfl ?_
  refine Rch.call 1 (t_X6_listOf _ _ _) rfl rfl g_X6_51 om_X6_listOf rfl (fun _ _ _ q => q) rfl rfl rfl rfl ⟨rfl, rfl⟩ ⟨by decide, by decide⟩ (fun _ _ q => by obtain ⟨_, rfl⟩ := q; first | with_reducible rfl | rw [HP_len, HP_len]) (fun rv9 h9 q9 => ?_)
  obtain ⟨rfl, rfl⟩ := q9
  exact Rch.ri rfl rfl rfl (by decide) (by decide) ⟨rfl, rfl⟩
theorem t_X6_draughtOf (w : Int32) (h0 : AH) : Ct m_X6_draughtOf X0 [.int w] h0 (fun rv h => rv = some (.int (w / 10)) ∧ h = h0) := by
  refine ⟨ok_X6_draughtOf, ?_⟩
  refine Rch.go rfl ?_
  refine Rch.div rfl (by decide) ?_
  exact Rch.ri rfl rfl rfl (by decide) (by decide) ⟨rfl, rfl⟩
theorem t_X6_openTanks (c : FA) (K : KS) (s : FA) (L : LS9) (e : AH) : Ct m_X6_openTanks X0 [.ref 1] (HP c K s L e) (fun rv h => rv = some (.int (opn c 5)) ∧ h = HP c K s L e) := by
  refine ⟨ok_X6_openTanks, ?_⟩
  refine Rch.go rfl ?_
  refine Rch.for 5 (fun n => (6, [(0, .ref 1), (1, .int (opn c n)), (2, .int (nI n))], [.int 5, .int (nI n)], HP c K s L e, 0, 0)) (fun n hn => ?_) ?_ 0 (by omega)
  · refine Rch.i_ge rfl (fun z => absurd z (lo_in hn (by decide))) (fun _ => ?_)
    refine Rch.go rfl ?_
    refine Rch.ia rfl rfl rfl (nI_add 123 n) (by omega) (by decide) ?_
    refine Rch.go rfl ?_
    refine Rch.i_ne rfl (fun z => ?_) (fun z => ?_)
    · refine Rch.go rfl ?_
      refine Rch.ia rfl rfl rfl (nI_add 118 n) (by omega) (by decide) ?_
      refine Rch.go rfl (Rch.rf ?_)
      rw [nI_1, ← show opn c (n + 1) = _ from if_pos z]
      rfl
    · refine Rch.go rfl (Rch.rf ?_)
      rw [nI_1, ← show opn c (n + 1) = _ from if_neg z]
      rfl
  · refine Rch.i_ge rfl (fun _ => ?_) (fun z => absurd (lo_out (by decide)) z)
    refine Rch.go rfl ?_
    exact Rch.ri rfl rfl rfl (by decide) (by decide) ⟨rfl, rfl⟩
theorem t_X6_groupsWith (c : FA) (K : KS) (s : FA) (L : LS9) (e : AH) (t : Int32) : Ct m_X6_groupsWith X0 [.ref 1, .int t] (HP c K s L e) (fun rv h => rv = some (.int (grw c t 5)) ∧ h = HP c K s L e) := by
  refine ⟨ok_X6_groupsWith, ?_⟩
  refine Rch.go rfl ?_
  refine Rch.for 5 (fun n => (6, [(0, .ref 1), (1, .int t), (2, .int (grw c t n)), (3, .int (nI n))], [.int 5, .int (nI n)], HP c K s L e, 0, 0)) (fun n hn => ?_) ?_ 0 (by omega)
  · refine Rch.i_ge rfl (fun z => absurd z (lo_in hn (by decide))) (fun _ => ?_)
    refine Rch.go rfl ?_
    refine Rch.ia rfl rfl rfl (nI_add 118 n) (by omega) (by decide) ?_
    refine Rch.go rfl ?_
    refine Rch.call 1 (t_X6_isIn _ _ _) rfl rfl g_X6_27 om_X6_isIn rfl (fun _ _ _ q => q) rfl rfl rfl rfl ⟨rfl, rfl⟩ ⟨by decide, by decide⟩ (fun _ _ q => by obtain ⟨_, rfl⟩ := q; first | with_reducible rfl | rw [HP_len, HP_len]) (fun rv9 h9 q9 => ?_)
    obtain ⟨rfl, rfl⟩ := q9
    refine Rch.z_eq rfl (fun z => ?_) (fun z => ?_)
    · refine Rch.go rfl (Rch.rf ?_)
      rw [nI_1, ← show grw c t (n + 1) = _ from if_neg (if10.mp z)]
      rfl
    · refine Rch.go rfl (Rch.rf ?_)
      rw [nI_1, ← show grw c t (n + 1) = _ from if_pos (Decidable.not_not.mp (fun q => z (if10.mpr q)))]
      rfl
  · refine Rch.i_ge rfl (fun _ => ?_) (fun z => absurd (lo_out (by decide)) z)
    refine Rch.go rfl ?_
    exact Rch.ri rfl rfl rfl (by decide) (by decide) ⟨rfl, rfl⟩
theorem t_X6_emptiest (c : FA) (K : KS) (s : FA) (L : LS9) (e : AH) (x : Int32) : Ct m_X6_emptiest X0 [.ref 1, .int x] (HP c K s L e) (fun rv h => rv = some (.int (oI (emp c x 8))) ∧ h = HP c K s L e) := by
  refine ⟨ok_X6_emptiest, ?_⟩
  refine Rch.go rfl ?_
  refine Rch.for 8 (fun n => (7, [(0, .ref 1), (1, .int x), (2, .int (oI (emp c x n))), (3, .int (nI n))], [.int 8, .int (nI n)], HP c K s L e, 0, 0)) (fun n hn => ?_) ?_ 0 (by omega)
  · refine Rch.i_ge rfl (fun z => absurd z (lo_in hn (by decide))) (fun _ => ?_)
    refine Rch.go rfl ?_
    refine Rch.call 1 (t_X6_isIn _ _ _) rfl rfl g_X6_27 om_X6_isIn rfl (fun _ _ _ q => q) rfl rfl rfl rfl ⟨rfl, rfl⟩ ⟨by decide, by decide⟩ (fun _ _ q => by obtain ⟨_, rfl⟩ := q; first | with_reducible rfl | rw [HP_len, HP_len]) (fun rv9 h9 q9 => ?_)
    obtain ⟨rfl, rfl⟩ := q9
    refine Rch.z_eq rfl (fun z => ?_) (fun z => ?_)
    · refine Rch.go rfl (Rch.rf ?_)
      rw [nI_1, ← show emp c x (n + 1) = _ from if_neg (if10.mp z)]
      rfl
    · have hb : bt x n := Decidable.not_not.mp (fun q => z (if10.mpr q))
      have e1 : emp c x (n + 1) = (match emp c x n with | none => some n | some k => if c k ≤ c n then some k else some n) := if_pos hb
      refine Rch.go rfl ?_
      cases hk : emp c x n with
      | none =>
        rw [hk] at e1
        refine Rch.i_eq rfl (fun _ => ?_) (fun q => absurd rfl q)
        refine Rch.go rfl (Rch.rf ?_)
        rw [nI_1, ← show oI (emp c x (n + 1)) = nI n by rw [e1]; rfl]
        rfl
      | some k =>
        rw [hk] at e1
        have hlt := emp_lt hk
        refine Rch.i_eq rfl (fun q => absurd q (nI_ne1 (by omega))) (fun _ => ?_)
        refine Rch.go rfl ?_
        refine Rch.ia rfl rfl rfl ((show (0 : Int32) + nI n = nI n from Int32.zero_add _)) (by omega) (by decide) ?_
        refine Rch.go rfl ?_
        refine Rch.ia rfl rfl rfl ((show (0 : Int32) + nI k = nI k from Int32.zero_add _)) (by omega) (by decide) ?_
        refine Rch.i_ge rfl (fun w => ?_) (fun w => ?_)
        · refine Rch.go rfl (Rch.rf ?_)
          rw [nI_1]
          show _ = (_, _)
          rw [show emp c x (n + 1) = some k by rw [e1]; dsimp only; rw [if_pos w]]
          rfl
        · refine Rch.go rfl (Rch.rf ?_)
          rw [nI_1]
          show _ = (_, _)
          rw [show emp c x (n + 1) = some n by rw [e1]; dsimp only; rw [if_neg w]]
          rfl
  · refine Rch.i_ge rfl (fun _ => ?_) (fun z => absurd (lo_out (by decide)) z)
    refine Rch.go rfl ?_
    exact Rch.ri rfl rfl rfl (by decide) (by decide) ⟨rfl, rfl⟩
theorem t_X6_fullest (c : FA) (K : KS) (s : FA) (L : LS9) (e : AH) (x : Int32) : Ct m_X6_fullest X0 [.ref 1, .int x] (HP c K s L e) (fun rv h => rv = some (.int (oI (ful c x 8))) ∧ h = HP c K s L e) := by
  refine ⟨ok_X6_fullest, ?_⟩
  refine Rch.go rfl ?_
  refine Rch.for 8 (fun n => (7, [(0, .ref 1), (1, .int x), (2, .int (oI (ful c x n))), (3, .int (nI n))], [.int 8, .int (nI n)], HP c K s L e, 0, 0)) (fun n hn => ?_) ?_ 0 (by omega)
  · refine Rch.i_ge rfl (fun z => absurd z (lo_in hn (by decide))) (fun _ => ?_)
    refine Rch.go rfl ?_
    refine Rch.call 1 (t_X6_isIn _ _ _) rfl rfl g_X6_27 om_X6_isIn rfl (fun _ _ _ q => q) rfl rfl rfl rfl ⟨rfl, rfl⟩ ⟨by decide, by decide⟩ (fun _ _ q => by obtain ⟨_, rfl⟩ := q; first | with_reducible rfl | rw [HP_len, HP_len]) (fun rv9 h9 q9 => ?_)
    obtain ⟨rfl, rfl⟩ := q9
    refine Rch.z_eq rfl (fun z => ?_) (fun z => ?_)
    · refine Rch.go rfl (Rch.rf ?_)
      rw [nI_1, ← show ful c x (n + 1) = _ from if_neg (if10.mp z)]
      rfl
    · have hb : bt x n := Decidable.not_not.mp (fun q => z (if10.mpr q))
      have e1 : ful c x (n + 1) = (match ful c x n with | none => some n | some k => if c n ≤ c k then some k else some n) := if_pos hb
      refine Rch.go rfl ?_
      cases hk : ful c x n with
      | none =>
        rw [hk] at e1
        refine Rch.i_eq rfl (fun _ => ?_) (fun q => absurd rfl q)
        refine Rch.go rfl (Rch.rf ?_)
        rw [nI_1, ← show oI (ful c x (n + 1)) = nI n by rw [e1]; rfl]
        rfl
      | some k =>
        rw [hk] at e1
        have hlt := ful_lt hk
        refine Rch.i_eq rfl (fun q => absurd q (nI_ne1 (by omega))) (fun _ => ?_)
        refine Rch.go rfl ?_
        refine Rch.ia rfl rfl rfl ((show (0 : Int32) + nI n = nI n from Int32.zero_add _)) (by omega) (by decide) ?_
        refine Rch.go rfl ?_
        refine Rch.ia rfl rfl rfl ((show (0 : Int32) + nI k = nI k from Int32.zero_add _)) (by omega) (by decide) ?_
        refine Rch.i_le rfl (fun w => ?_) (fun w => ?_)
        · refine Rch.go rfl (Rch.rf ?_)
          rw [nI_1]
          show _ = (_, _)
          rw [show ful c x (n + 1) = some k by rw [e1]; dsimp only; rw [if_pos w]]
          rfl
        · refine Rch.go rfl (Rch.rf ?_)
          rw [nI_1]
          show _ = (_, _)
          rw [show ful c x (n + 1) = some n by rw [e1]; dsimp only; rw [if_neg w]]
          rfl
  · refine Rch.i_ge rfl (fun _ => ?_) (fun z => absurd (lo_out (by decide)) z)
    refine Rch.go rfl ?_
    exact Rch.ri rfl rfl rfl (by decide) (by decide) ⟨rfl, rfl⟩
end ST
