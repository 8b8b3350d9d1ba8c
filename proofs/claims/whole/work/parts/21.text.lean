/-! ===== the text and the orders that are read from it ===== -/
/-- kinds, bys, how many orders, what is expected -/
abbrev TS : Type := FA × FA × Nat × Nat
def klN (g : Int32) : Option Nat := if g = 111 then some 0 else if g = 99 then some 1 else if g = 102 then some 2 else if g = 101 then some 3 else if g = 108 then some 4 else none
theorem klN_lt {g : Int32} {k : Nat} (h : klN g = some k) : k < 5 := by
  unfold klN at h
  split at h
  · cases h; decide
  · split at h
    · cases h; decide
    · split at h
      · cases h; decide
      · split at h
        · cases h; decide
        · split at h
          · cases h; decide
          · cases h
def tkL (g : Int32) (S : TS) : Option TS := match klN g with
  | none => none
  | some k => if S.2.2.1 < 60 then some (upd S.1 S.2.2.1 (nI k), upd S.2.1 S.2.2.1 0, S.2.2.1 + 1, if k < 2 then 1 else 2) else none
def tkF (g : Int32) (lo hi : Int32) (x : Nat) (S : TS) : Option TS := if lo ≤ g ∧ g ≤ hi ∧ 0 < S.2.2.1 then some (S.1, upd S.2.1 (S.2.2.1 - 1) (g - 48), S.2.2.1, x) else none
def tkE (g : Int32) (S : TS) : Option TS := if g = 59 then some (S.1, S.2.1, S.2.2.1, 0) else none
def tkN (g : Int32) (S : TS) : Option TS := if 48 ≤ g ∧ g ≤ 57 ∧ 0 < S.2.2.1 ∧ S.2.1 (S.2.2.1 - 1) * 10 + g - 48 ≤ 60 then some (S.1, upd S.2.1 (S.2.2.1 - 1) (S.2.1 (S.2.2.1 - 1) * 10 + g - 48), S.2.2.1, S.2.2.2) else none
def tkS (g : Int32) (S : TS) : Option TS := match S.2.2.2 with
  | 0 => tkL g S
  | 1 => tkF g 48 52 4 S
  | 2 => tkF g 49 57 3 S
  | 3 => match tkE g S with
    | some S' => some S'
    | none => tkN g S
  | _ => tkE g S
def oB (o : Option TS) : Int32 := match o with
  | none => 0
  | some _ => 1
def oS (S : TS) (o : Option TS) : TS := match o with
  | none => S
  | some S' => S'
/-- the signs from u on, d of them, are read: the state, and the place of a fault -/
def rdf (sg : FA) : Nat → Nat → TS → TS × Option Nat
  | 0, _, S => (S, none)
  | d + 1, u, S => match tkS (sg u) S with
    | none => (S, some u)
    | some S' => rdf sg d (u + 1) S'
def flt (tl : Int32) (q : TS × Option Nat) : Int32 := match q.2 with
  | some u => nI u
  | none => if q.1.2.2.2 = 3 ∨ q.1.2.2.2 = 4 then -1 else tl
def TOk (S : TS) : Prop := S.2.2.1 ≤ 60 ∧ S.2.2.2 < 5
theorem TOk.step {g : Int32} {S S' : TS} (h : TOk S) (hs : tkS g S = some S') : TOk S' := by
  have hF : ∀ lo hi x, x < 5 → tkF g lo hi x S = some S' → TOk S' := by
    intro lo hi x hx hs
    unfold tkF at hs
    split at hs
    · cases hs; exact ⟨h.1, hx⟩
    · cases hs
  have hE : tkE g S = some S' → TOk S' := by
    intro hs
    unfold tkE at hs
    split at hs
    · cases hs; exact ⟨h.1, by show 0 < 5; decide⟩
    · cases hs
  unfold tkS at hs
  split at hs
  · unfold tkL at hs
    split at hs
    · cases hs
    · split at hs
      · next h60 => cases hs; exact ⟨by show _ + 1 ≤ 60; omega, by show (if _ then 1 else 2) < 5; split <;> decide⟩
      · cases hs
  · exact hF _ _ _ (by decide) hs
  · exact hF _ _ _ (by decide) hs
  · split at hs
    · next he => cases hs; exact hE he
    · unfold tkN at hs
      split at hs
      · cases hs; exact h
      · cases hs
  · exact hE hs
/-- the barge's part of the heap with a text state -/
def KT (r : Nat → FA) (nx ln : Int32) (sn : FA) (hs : Int32) (sg : FA) (tl : Int32) (S : TS) : KS := (r, nx, ln, sn, hs, sg, tl, S.1, S.2.1, nI S.2.2.1, nI S.2.2.2)
section TE
theorem i1 {p : Prop} [Decidable p] (z : ¬ (if p then (1 : Int32) else 0) = 0) : p := Decidable.not_not.mp (fun q => z (if10.mpr q))
theorem i0 {p : Prop} [Decidable p] (z : (if p then (1 : Int32) else 0) = 0) : ¬ p := if10.mp z
theorem t_X8_isWithin (v lo hi : Int32) (h0 : AH) : Ct m_X8_isWithin X0 [.int v, .int lo, .int hi] h0 (fun rv h => rv = some (.int (if lo ≤ v ∧ v ≤ hi then 1 else 0)) ∧ h = h0) := by
  refine ⟨ok_X8_isWithin, ?_⟩
  refine Rch.go rfl ?_
  refine Rch.i_lt rfl (fun z => ?_) (fun z => ?_)
  · refine Rch.go rfl ?_
    exact Rch.ri rfl rfl rfl (by decide) (by decide) ⟨by rw [if_neg (fun q => Int32.not_le.mpr z q.1)], rfl⟩
  · refine Rch.go rfl ?_
    refine Rch.i_gt rfl (fun z2 => ?_) (fun z2 => ?_)
    · refine Rch.go rfl ?_
      exact Rch.ri rfl rfl rfl (by decide) (by decide) ⟨by rw [if_neg (fun q => Int32.not_le.mpr z2 q.2)], rfl⟩
    · refine Rch.go rfl ?_
      exact Rch.ri rfl rfl rfl (by decide) (by decide) ⟨by rw [if_pos ⟨nlt_le z, nlt_le z2⟩], rfl⟩
theorem t_X3_length (c : FA) (K : KS) (s : FA) (L : LS9) (e : AH) : Ct m_X3_length X0 [.ref 10] (HP c K s L e) (fun rv h => rv = some (.int K.2.2.2.2.2.2.1) ∧ h = HP c K s L e) := by
  refine ⟨ok_X3_length, ?_⟩
  refine Rch.go rfl ?_
  exact Rch.ri rfl rfl rfl (by decide) (by decide) ⟨rfl, rfl⟩
theorem t_X3_orders (c : FA) (K : KS) (s : FA) (L : LS9) (e : AH) : Ct m_X3_orders X0 [.ref 10] (HP c K s L e) (fun rv h => rv = some (.int K.2.2.2.2.2.2.2.2.2.1) ∧ h = HP c K s L e) := by
  refine ⟨ok_X3_orders, ?_⟩
  refine Rch.go rfl ?_
  exact Rch.ri rfl rfl rfl (by decide) (by decide) ⟨rfl, rfl⟩
theorem t_X3_clear (c : FA) (r : Nat → FA) (nx ln : Int32) (sn : FA) (hs : Int32) (sg : FA) (tl : Int32) (kd bb : FA) (od ex : Int32) (s : FA) (L : LS9) (e : AH) : Ct m_X3_clear X0 [.ref 10] (HP c (r, nx, ln, sn, hs, sg, tl, kd, bb, od, ex) s L e) (fun rv h => rv = none ∧ h = HP c (r, nx, ln, sn, hs, sg, 0, kd, bb, od, ex) s L e) := by
  refine ⟨ok_X3_clear, ?_⟩
  refine Rch.go rfl ?_
  exact Rch.rv rfl rfl (by decide) (by decide) ⟨rfl, rfl⟩
theorem wi59 {n : Nat} (h : n < 2 ^ 31) : ((0 : Int32) ≤ nI n ∧ nI n ≤ 59) ↔ n < 60 :=
  ⟨fun q => by have := (nI_leI (b := 59) h (by decide)).mp q.2; omega, fun q => ⟨Int32.not_lt.mp (nI_pos h), (nI_leI (b := 59) h (by decide)).mpr (by omega)⟩⟩
theorem wi60 {n : Nat} (h : n < 2 ^ 31) : ((1 : Int32) ≤ nI n ∧ nI n ≤ 60) ↔ 0 < n ∧ n ≤ 60 :=
  ⟨fun q => by have h1 := (nI_leI (a := 1) (by decide) h).mp q.1; have h2 := (nI_leI (b := 60) h (by decide)).mp q.2; omega, fun q => ⟨(nI_leI (a := 1) (by decide) h).mpr (by omega), (nI_leI (b := 60) h (by decide)).mpr q.2⟩⟩
theorem t_X3_add (c : FA) (r : Nat → FA) (nx ln : Int32) (sn : FA) (hs : Int32) (sg : FA) (kd bb : FA) (od ex : Int32) (s : FA) (L : LS9) (e : AH) {n : Nat} (g : Int32) (hn : n ≤ 60) : Ct m_X3_add X0 [.ref 10, .int g] (HP c (r, nx, ln, sn, hs, sg, nI n, kd, bb, od, ex) s L e) (fun rv h => rv = some (.int (if n < 60 then 1 else 0)) ∧ h = HP c (if n < 60 then (r, nx, ln, sn, hs, upd sg n (vp_nar .char g), nI n + 1, kd, bb, od, ex) else (r, nx, ln, sn, hs, sg, nI n, kd, bb, od, ex)) s L e) := by
  refine ⟨ok_X3_add, ?_⟩
  refine Rch.go rfl ?_
  refine Rch.call 2 (t_X8_isWithin _ _ _ _) rfl rfl g_X3_26 om_X8_isWithin rfl (fun _ _ _ q => q) rfl rfl rfl rfl ⟨rfl, rfl⟩ ⟨by decide, by decide⟩ (fun _ _ q => by obtain ⟨_, rfl⟩ := q; first | with_reducible rfl | rw [HP_len, HP_len]) (fun rv9 h9 q9 => ?_)
  obtain ⟨rfl, rfl⟩ := q9
  refine Rch.z_ne rfl (fun z => ?_) (fun z => ?_)
  · have hl : ¬ n < 60 := fun q => i0 z ((wi59 (by omega)).mpr q)
    rw [if_neg hl, if_neg hl]
    refine Rch.go rfl ?_
    exact Rch.ri rfl rfl rfl (by decide) (by decide) ⟨rfl, rfl⟩
  · have hl : n < 60 := (wi59 (by omega)).mp (i1 z)
    rw [if_pos hl, if_pos hl]
    refine Rch.go rfl ?_
    refine Rch.cas rfl rfl rfl hl (by decide) ?_
    refine Rch.go rfl ?_
    exact Rch.ri rfl rfl rfl (by decide) (by decide) ⟨rfl, rfl⟩
theorem t_X3_kindOf (c : FA) (r : Nat → FA) (nx ln : Int32) (sn : FA) (hs : Int32) (sg : FA) (tl : Int32) (S : TS) (s : FA) (L : LS9) (e : AH) {p : Nat} (hp : p < S.2.2.1) (hS : TOk S) : Ct m_X3_kindOf X0 [.ref 10, .int (nI p)] (HP c (KT r nx ln sn hs sg tl S) s L e) (fun rv h => rv = some (.int (S.1 p)) ∧ h = HP c (KT r nx ln sn hs sg tl S) s L e) := by
  have h60 := hS.1
  refine ⟨ok_X3_kindOf, ?_⟩
  refine Rch.go rfl ?_
  refine Rch.call 2 (t_X8_isWithin _ _ _ _) rfl rfl g_X3_26 om_X8_isWithin rfl (fun _ _ _ q => q) rfl rfl rfl rfl ⟨rfl, rfl⟩ ⟨by decide, by decide⟩ (fun _ _ q => by obtain ⟨_, rfl⟩ := q; first | with_reducible rfl | rw [HP_len, HP_len]) (fun rv9 h9 q9 => ?_)
  obtain ⟨rfl, rfl⟩ := q9
  refine Rch.z_eq rfl (fun z => absurd ((wi59 (by omega)).mpr (by omega)) (i0 z)) (fun _ => ?_)
  refine Rch.go rfl ?_
  refine Rch.ia rfl rfl rfl (rfl) (by omega) (by decide) ?_
  refine Rch.go rfl ?_
  exact Rch.ri rfl rfl rfl (by decide) (by decide) ⟨rfl, rfl⟩
theorem t_X3_byOf (c : FA) (r : Nat → FA) (nx ln : Int32) (sn : FA) (hs : Int32) (sg : FA) (tl : Int32) (S : TS) (s : FA) (L : LS9) (e : AH) {p : Nat} (hp : p < S.2.2.1) (hS : TOk S) : Ct m_X3_byOf X0 [.ref 10, .int (nI p)] (HP c (KT r nx ln sn hs sg tl S) s L e) (fun rv h => rv = some (.int (S.2.1 p)) ∧ h = HP c (KT r nx ln sn hs sg tl S) s L e) := by
  have h60 := hS.1
  refine ⟨ok_X3_byOf, ?_⟩
  refine Rch.go rfl ?_
  refine Rch.call 2 (t_X8_isWithin _ _ _ _) rfl rfl g_X3_26 om_X8_isWithin rfl (fun _ _ _ q => q) rfl rfl rfl rfl ⟨rfl, rfl⟩ ⟨by decide, by decide⟩ (fun _ _ q => by obtain ⟨_, rfl⟩ := q; first | with_reducible rfl | rw [HP_len, HP_len]) (fun rv9 h9 q9 => ?_)
  obtain ⟨rfl, rfl⟩ := q9
  refine Rch.z_eq rfl (fun z => absurd ((wi59 (by omega)).mpr (by omega)) (i0 z)) (fun _ => ?_)
  refine Rch.go rfl ?_
  refine Rch.ia rfl rfl rfl (rfl) (by omega) (by decide) ?_
  refine Rch.go rfl ?_
  exact Rch.ri rfl rfl rfl (by decide) (by decide) ⟨rfl, rfl⟩
theorem t_X3_kindOfLetter (g : Int32) (h0 : AH) : Ct m_X3_kindOfLetter X0 [.int g] h0 (fun rv h => rv = some (.int (oI (klN g))) ∧ h = h0) := by
  refine ⟨ok_X3_kindOfLetter, ?_⟩
  refine Rch.go rfl ?_
  refine Rch.i_ne rfl (fun z => ?_) (fun z => ?_)
  · refine Rch.go rfl ?_
    exact Rch.ri rfl rfl rfl (by decide) (by decide) ⟨by unfold klN; rw [if_pos z]; rfl, rfl⟩
  · refine Rch.go rfl ?_
    refine Rch.i_ne rfl (fun z2 => ?_) (fun z2 => ?_)
    · refine Rch.go rfl ?_
      exact Rch.ri rfl rfl rfl (by decide) (by decide) ⟨by unfold klN; rw [if_neg z, if_pos z2]; rfl, rfl⟩
    · refine Rch.go rfl ?_
      refine Rch.i_ne rfl (fun z3 => ?_) (fun z3 => ?_)
      · refine Rch.go rfl ?_
        exact Rch.ri rfl rfl rfl (by decide) (by decide) ⟨by unfold klN; rw [if_neg z, if_neg z2, if_pos z3]; rfl, rfl⟩
      · refine Rch.go rfl ?_
        refine Rch.i_ne rfl (fun z4 => ?_) (fun z4 => ?_)
        · refine Rch.go rfl ?_
          exact Rch.ri rfl rfl rfl (by decide) (by decide) ⟨by unfold klN; rw [if_neg z, if_neg z2, if_neg z3, if_pos z4]; rfl, rfl⟩
        · refine Rch.go rfl ?_
          refine Rch.i_ne rfl (fun z5 => ?_) (fun z5 => ?_)
          · refine Rch.go rfl ?_
            exact Rch.ri rfl rfl rfl (by decide) (by decide) ⟨by unfold klN; rw [if_neg z, if_neg z2, if_neg z3, if_neg z4, if_pos z5]; rfl, rfl⟩
          · refine Rch.go rfl ?_
            exact Rch.ri rfl rfl rfl (by decide) (by decide) ⟨by unfold klN; rw [if_neg z, if_neg z2, if_neg z3, if_neg z4, if_neg z5]; rfl, rfl⟩
theorem t_X3_takesEnd (c : FA) (r : Nat → FA) (nx ln : Int32) (sn : FA) (hs : Int32) (sg : FA) (tl : Int32) (S : TS) (s : FA) (L : LS9) (e : AH) (g : Int32) : Ct m_X3_takesEnd X0 [.ref 10, .int g] (HP c (KT r nx ln sn hs sg tl S) s L e) (fun rv h => rv = some (.int (oB (tkE g S))) ∧ h = HP c (KT r nx ln sn hs sg tl (oS S (tkE g S))) s L e) := by
  refine ⟨ok_X3_takesEnd, ?_⟩
  refine Rch.go rfl ?_
  refine Rch.i_eq rfl (fun z => ?_) (fun z => ?_)
  · rw [show tkE g S = _ from if_pos z]
    refine Rch.go rfl ?_
    exact Rch.ri rfl rfl rfl (by decide) (by decide) ⟨rfl, rfl⟩
  · rw [show tkE g S = _ from if_neg z]
    refine Rch.go rfl ?_
    exact Rch.ri rfl rfl rfl (by decide) (by decide) ⟨rfl, rfl⟩
theorem t_X3_takesFirstDigit (c : FA) (r : Nat → FA) (nx ln : Int32) (sn : FA) (hs : Int32) (sg : FA) (tl : Int32) (S : TS) (s : FA) (L : LS9) (e : AH) (g lo hi : Int32) (x : Nat) (hS : TOk S) : Ct m_X3_takesFirstDigit X0 [.ref 10, .int g, .int lo, .int hi, .int (nI x)] (HP c (KT r nx ln sn hs sg tl S) s L e) (fun rv h => rv = some (.int (oB (tkF g lo hi x S))) ∧ h = HP c (KT r nx ln sn hs sg tl (oS S (tkF g lo hi x S))) s L e) := by
  have h60 := hS.1
  refine ⟨ok_X3_takesFirstDigit, ?_⟩
  refine Rch.go rfl ?_
  refine Rch.call 2 (t_X8_isWithin _ _ _ _) rfl rfl g_X3_26 om_X8_isWithin rfl (fun _ _ _ q => q) rfl rfl rfl rfl ⟨rfl, rfl⟩ ⟨by decide, by decide⟩ (fun _ _ q => by obtain ⟨_, rfl⟩ := q; first | with_reducible rfl | rw [HP_len, HP_len]) (fun rv9 h9 q9 => ?_)
  obtain ⟨rfl, rfl⟩ := q9
  refine Rch.z_eq rfl (fun z => ?_) (fun z => ?_)
  · rw [show tkF g lo hi x S = _ from if_neg (fun q => i0 z ⟨q.1, q.2.1⟩)]
    refine Rch.go rfl ?_
    exact Rch.ri rfl rfl rfl (by decide) (by decide) ⟨rfl, rfl⟩
  · have z := i1 z
    refine Rch.go rfl ?_
    refine Rch.call 2 (t_X8_isWithin _ _ _ _) rfl rfl g_X3_26 om_X8_isWithin rfl (fun _ _ _ q => q) rfl rfl rfl rfl ⟨rfl, rfl⟩ ⟨by decide, by decide⟩ (fun _ _ q => by obtain ⟨_, rfl⟩ := q; first | with_reducible rfl | rw [HP_len, HP_len]) (fun rv9 h9 q9 => ?_)
    obtain ⟨rfl, rfl⟩ := q9
    refine Rch.z_ne rfl (fun z3 => ?_) (fun z3 => ?_)
    · rw [show tkF g lo hi x S = _ from if_neg (fun q => i0 z3 ((wi60 (by omega)).mpr ⟨q.2.2, h60⟩))]
      refine Rch.go rfl ?_
      exact Rch.ri rfl rfl rfl (by decide) (by decide) ⟨rfl, rfl⟩
    · have h0 : 0 < S.2.2.1 := ((wi60 (by omega)).mp (i1 z3)).1
      rw [show tkF g lo hi x S = _ from if_pos ⟨z.1, z.2, h0⟩]
      refine Rch.go rfl ?_
      refine Rch.ias rfl rfl (show nI S.2.2.1 - 1 = nI (S.2.2.1 - 1) from nI_sub (b := 1) h0) (by omega) (by decide) ?_
      refine Rch.go rfl ?_
      exact Rch.ri rfl rfl rfl (by decide) (by decide) ⟨rfl, rfl⟩
theorem t_X3_takesNextDigit (c : FA) (r : Nat → FA) (nx ln : Int32) (sn : FA) (hs : Int32) (sg : FA) (tl : Int32) (S : TS) (s : FA) (L : LS9) (e : AH) (g : Int32) (hS : TOk S) : Ct m_X3_takesNextDigit X0 [.ref 10, .int g] (HP c (KT r nx ln sn hs sg tl S) s L e) (fun rv h => rv = some (.int (oB (tkN g S))) ∧ h = HP c (KT r nx ln sn hs sg tl (oS S (tkN g S))) s L e) := by
  have h60 := hS.1
  refine ⟨ok_X3_takesNextDigit, ?_⟩
  refine Rch.go rfl ?_
  refine Rch.call 2 (t_X8_isWithin _ _ _ _) rfl rfl g_X3_26 om_X8_isWithin rfl (fun _ _ _ q => q) rfl rfl rfl rfl ⟨rfl, rfl⟩ ⟨by decide, by decide⟩ (fun _ _ q => by obtain ⟨_, rfl⟩ := q; first | with_reducible rfl | rw [HP_len, HP_len]) (fun rv9 h9 q9 => ?_)
  obtain ⟨rfl, rfl⟩ := q9
  refine Rch.z_eq rfl (fun z => ?_) (fun z => ?_)
  · rw [show tkN g S = _ from if_neg (fun q => i0 z ⟨q.1, q.2.1⟩)]
    refine Rch.go rfl ?_
    exact Rch.ri rfl rfl rfl (by decide) (by decide) ⟨rfl, rfl⟩
  · have z := i1 z
    refine Rch.go rfl ?_
    refine Rch.call 2 (t_X8_isWithin _ _ _ _) rfl rfl g_X3_26 om_X8_isWithin rfl (fun _ _ _ q => q) rfl rfl rfl rfl ⟨rfl, rfl⟩ ⟨by decide, by decide⟩ (fun _ _ q => by obtain ⟨_, rfl⟩ := q; first | with_reducible rfl | rw [HP_len, HP_len]) (fun rv9 h9 q9 => ?_)
    obtain ⟨rfl, rfl⟩ := q9
    refine Rch.z_ne rfl (fun z3 => ?_) (fun z3 => ?_)
    · rw [show tkN g S = _ from if_neg (fun q => i0 z3 ((wi60 (by omega)).mpr ⟨q.2.2.1, h60⟩))]
      refine Rch.go rfl ?_
      exact Rch.ri rfl rfl rfl (by decide) (by decide) ⟨rfl, rfl⟩
    · have h0 : 0 < S.2.2.1 := ((wi60 (by omega)).mp (i1 z3)).1
      refine Rch.go rfl ?_
      refine Rch.ia rfl rfl rfl (show nI S.2.2.1 - 1 = nI (S.2.2.1 - 1) from nI_sub (b := 1) h0) (by omega) (by decide) ?_
      refine Rch.go rfl ?_
      refine Rch.i_le rfl (fun z4 => ?_) (fun z4 => ?_)
      · rw [show tkN g S = _ from if_pos ⟨z.1, z.2, h0, z4⟩]
        refine Rch.go rfl ?_
        refine Rch.ias rfl rfl (show nI S.2.2.1 - 1 = nI (S.2.2.1 - 1) from nI_sub (b := 1) h0) (by omega) (by decide) ?_
        refine Rch.go rfl ?_
        exact Rch.ri rfl rfl rfl (by decide) (by decide) ⟨rfl, rfl⟩
      · rw [show tkN g S = _ from if_neg (fun q => z4 q.2.2.2)]
        refine Rch.go rfl ?_
        exact Rch.ri rfl rfl rfl (by decide) (by decide) ⟨rfl, rfl⟩
theorem t_X3_takesLetter (c : FA) (r : Nat → FA) (nx ln : Int32) (sn : FA) (hs : Int32) (sg : FA) (tl : Int32) (S : TS) (s : FA) (L : LS9) (e : AH) (g : Int32) (hS : TOk S) : Ct m_X3_takesLetter X0 [.ref 10, .int g] (HP c (KT r nx ln sn hs sg tl S) s L e) (fun rv h => rv = some (.int (oB (tkL g S))) ∧ h = HP c (KT r nx ln sn hs sg tl (oS S (tkL g S))) s L e) := by
  have h60 := hS.1
  refine ⟨ok_X3_takesLetter, ?_⟩
  refine Rch.go rfl ?_
  refine Rch.call 1 (t_X3_kindOfLetter g _) rfl rfl g_X3_53 om_X3_kindOfLetter rfl (fun _ _ _ q => q) rfl rfl rfl rfl ⟨rfl, rfl⟩ ⟨by decide, by decide⟩ (fun _ _ q => by obtain ⟨_, rfl⟩ := q; first | with_reducible rfl | rw [HP_len, HP_len]) (fun rv9 h9 q9 => ?_)
  obtain ⟨rfl, rfl⟩ := q9
  refine Rch.go rfl ?_
  cases hk : klN g with
  | none =>
    have e1 : tkL g S = none := by unfold tkL; rw [hk]
    rw [e1]
    refine Rch.i_eq rfl (fun _ => ?_) (fun q => absurd rfl q)
    refine Rch.go rfl ?_
    exact Rch.ri rfl rfl rfl (by decide) (by decide) ⟨rfl, rfl⟩
  | some k =>
    have hk5 := klN_lt hk
    have e1 : tkL g S = if S.2.2.1 < 60 then some (upd S.1 S.2.2.1 (nI k), upd S.2.1 S.2.2.1 0, S.2.2.1 + 1, if k < 2 then 1 else 2) else none := by unfold tkL; rw [hk]
    refine Rch.i_eq rfl (fun q => absurd q (nI_ne1 (by omega))) (fun _ => ?_)
    refine Rch.go rfl ?_
    refine Rch.call 2 (t_X8_isWithin _ _ _ _) rfl rfl g_X3_26 om_X8_isWithin rfl (fun _ _ _ q => q) rfl rfl rfl rfl ⟨rfl, rfl⟩ ⟨by decide, by decide⟩ (fun _ _ q => by obtain ⟨_, rfl⟩ := q; first | with_reducible rfl | rw [HP_len, HP_len]) (fun rv9 h9 q9 => ?_)
    obtain ⟨rfl, rfl⟩ := q9
    refine Rch.z_ne rfl (fun z => ?_) (fun z => ?_)
    rotate_left
    · have hl : S.2.2.1 < 60 := (wi59 (by omega)).mp (i1 z)
      rw [if_pos hl] at e1
      rw [e1]
      refine Rch.go rfl ?_
      refine Rch.ias rfl rfl rfl hl (by decide) ?_
      refine Rch.go rfl ?_
      refine Rch.ias rfl rfl rfl hl (by decide) ?_
      refine Rch.go rfl ?_
      refine Rch.eq (τ := (57, [(0, .ref 10), (1, .int g), (2, .int (nI k))], [.int (nI k), .ref 10], HP c (r, nx, ln, sn, hs, sg, tl, upd S.1 S.2.2.1 (nI k), upd S.2.1 S.2.2.1 0, nI (S.2.2.1 + 1), nI S.2.2.2) s L e, 0, 0)) (by rw [← nI_1]; rfl) ?_
      refine Rch.call 2 (t_X8_isValve _ _) rfl rfl g_X3_57 om_X8_isValve rfl (fun _ _ _ q => q) rfl rfl rfl rfl ⟨rfl, rfl⟩ ⟨by decide, by decide⟩ (fun _ _ q => by obtain ⟨_, rfl⟩ := q; first | with_reducible rfl | rw [HP_len, HP_len]) (fun rv9 h9 q9 => ?_)
      obtain ⟨rfl, rfl⟩ := q9
      have ev : (nI k = 0 ∨ nI k = 1) ↔ k < 2 := by
        rw [show (nI k = 0) = (nI k = nI 0) from rfl, show (nI k = 1) = (nI k = nI 1) from rfl, nI_eq (by omega) (by decide), nI_eq (by omega) (by decide)]
        omega
      refine Rch.z_eq rfl (fun w => ?_) (fun w => ?_)
      · rw [if_neg (fun q => if10.mp w (ev.mpr q))]
        refine Rch.go rfl ?_
        exact Rch.ri rfl rfl rfl (by decide) (by decide) ⟨rfl, rfl⟩
      · have h2 : k < 2 := Decidable.not_not.mp (fun q => w (if10.mpr (fun q2 => q (ev.mp q2))))
        rw [if_pos h2]
        refine Rch.go rfl ?_
        exact Rch.ri rfl rfl rfl (by decide) (by decide) ⟨rfl, rfl⟩
    · have hl : ¬ S.2.2.1 < 60 := fun q => i0 z ((wi59 (by omega)).mpr q)
      rw [if_neg hl] at e1
      rw [e1]
      refine Rch.go rfl ?_
      exact Rch.ri rfl rfl rfl (by decide) (by decide) ⟨rfl, rfl⟩
theorem oB_nar (o : Option TS) : narrow .boolean (.int (oB o)) = .int (oB o) := by
  cases o with
  | none => decide +kernel
  | some k => exact (show narrow .boolean (.int 1) = .int 1 by decide +kernel)
theorem t_X3_takes (c : FA) (r : Nat → FA) (nx ln : Int32) (sn : FA) (hs : Int32) (sg : FA) (tl : Int32) (S : TS) (s : FA) (L : LS9) (e : AH) (g : Int32) (hS : TOk S) : Ct m_X3_takes X0 [.ref 10, .int g] (HP c (KT r nx ln sn hs sg tl S) s L e) (fun rv h => rv = some (.int (oB (tkS g S))) ∧ h = HP c (KT r nx ln sn hs sg tl (oS S (tkS g S))) s L e) := by
  refine ⟨ok_X3_takes, ?_⟩
  obtain ⟨kd, bb, m, x⟩ := S
  have hx : x < 5 := hS.2
  refine Rch.go rfl ?_
  match x, hx, hS with
  | 0, _, hS =>
    refine Rch.sw (t := 36) rfl rfl ?_
    refine Rch.go rfl ?_
    refine Rch.call 0 (t_X3_takesLetter c r nx ln sn hs sg tl (kd, bb, m, 0) s L e g hS) rfl rfl g_X3_40 om_X3_takesLetter rfl (fun _ _ _ q => q) rfl rfl rfl rfl ⟨rfl, rfl⟩ ⟨by decide, by decide⟩ (fun _ _ q => by obtain ⟨_, rfl⟩ := q; first | with_reducible rfl | rw [HP_len, HP_len]) (fun rv9 h9 q9 => ?_)
    obtain ⟨rfl, rfl⟩ := q9
    exact Rch.ri rfl rfl (oB_nar _) (by decide) (by decide) ⟨rfl, rfl⟩
  | 1, _, hS =>
    refine Rch.sw (t := 42) rfl rfl ?_
    refine Rch.go rfl ?_
    refine Rch.call 0 (t_X3_takesFirstDigit c r nx ln sn hs sg tl (kd, bb, m, 1) s L e g 48 52 4 hS) rfl rfl g_X3_43 om_X3_takesFirstDigit rfl (fun _ _ _ q => q) rfl rfl rfl rfl ⟨rfl, rfl⟩ ⟨by decide, by decide⟩ (fun _ _ q => by obtain ⟨_, rfl⟩ := q; first | with_reducible rfl | rw [HP_len, HP_len]) (fun rv9 h9 q9 => ?_)
    obtain ⟨rfl, rfl⟩ := q9
    exact Rch.ri rfl rfl (oB_nar _) (by decide) (by decide) ⟨rfl, rfl⟩
  | 2, _, hS =>
    refine Rch.sw (t := 53) rfl rfl ?_
    refine Rch.go rfl ?_
    refine Rch.call 0 (t_X3_takesFirstDigit c r nx ln sn hs sg tl (kd, bb, m, 2) s L e g 49 57 3 hS) rfl rfl g_X3_43 om_X3_takesFirstDigit rfl (fun _ _ _ q => q) rfl rfl rfl rfl ⟨rfl, rfl⟩ ⟨by decide, by decide⟩ (fun _ _ q => by obtain ⟨_, rfl⟩ := q; first | with_reducible rfl | rw [HP_len, HP_len]) (fun rv9 h9 q9 => ?_)
    obtain ⟨rfl, rfl⟩ := q9
    exact Rch.ri rfl rfl (oB_nar _) (by decide) (by decide) ⟨rfl, rfl⟩
  | 3, _, hS =>
    refine Rch.sw (t := 64) rfl rfl ?_
    refine Rch.go rfl ?_
    refine Rch.call 0 (t_X3_takesEnd c r nx ln sn hs sg tl (kd, bb, m, 3) s L e g) rfl rfl g_X3_47 om_X3_takesEnd rfl (fun _ _ _ q => q) rfl rfl rfl rfl ⟨rfl, rfl⟩ ⟨by decide, by decide⟩ (fun _ _ q => by obtain ⟨_, rfl⟩ := q; first | with_reducible rfl | rw [HP_len, HP_len]) (fun rv9 h9 q9 => ?_)
    obtain ⟨rfl, rfl⟩ := q9
    have e0 : tkS g (kd, bb, m, 3) = (match tkE g (kd, bb, m, 3) with | some S' => some S' | none => tkN g (kd, bb, m, 3)) := rfl
    rw [e0]
    cases he : tkE g (kd, bb, m, 3) with
    | some S' =>
      refine Rch.z_ne rfl (fun q => absurd (show (1 : Int32) = 0 from q) (by decide)) (fun _ => ?_)
      refine Rch.go rfl ?_
      exact Rch.ri rfl rfl rfl (by decide) (by decide) ⟨rfl, rfl⟩
    | none =>
      refine Rch.z_ne rfl (fun _ => ?_) (fun q => absurd rfl q)
      refine Rch.go rfl ?_
      refine Rch.call 0 (t_X3_takesNextDigit c r nx ln sn hs sg tl (kd, bb, m, 3) s L e g hS) rfl rfl g_X3_50 om_X3_takesNextDigit rfl (fun _ _ _ q => q) rfl rfl rfl rfl ⟨rfl, rfl⟩ ⟨by decide, by decide⟩ (fun _ _ q => by obtain ⟨_, rfl⟩ := q; first | with_reducible rfl | rw [HP_len, HP_len]) (fun rv9 h9 q9 => ?_)
      obtain ⟨rfl, rfl⟩ := q9
      cases hn : tkN g (kd, bb, m, 3) with
      | some S' =>
        refine Rch.z_eq rfl (fun q => absurd (show (1 : Int32) = 0 from q) (by decide)) (fun _ => ?_)
        refine Rch.go rfl ?_
        exact Rch.ri rfl rfl rfl (by decide) (by decide) ⟨rfl, rfl⟩
      | none =>
        refine Rch.z_eq rfl (fun _ => ?_) (fun q => absurd rfl q)
        refine Rch.go rfl ?_
        exact Rch.ri rfl rfl rfl (by decide) (by decide) ⟨rfl, rfl⟩
  | 4, _, hS =>
    refine Rch.sw (t := 86) rfl rfl ?_
    refine Rch.go rfl ?_
    refine Rch.call 0 (t_X3_takesEnd c r nx ln sn hs sg tl (kd, bb, m, 4) s L e g) rfl rfl g_X3_47 om_X3_takesEnd rfl (fun _ _ _ q => q) rfl rfl rfl rfl ⟨rfl, rfl⟩ ⟨by decide, by decide⟩ (fun _ _ q => by obtain ⟨_, rfl⟩ := q; first | with_reducible rfl | rw [HP_len, HP_len]) (fun rv9 h9 q9 => ?_)
    obtain ⟨rfl, rfl⟩ := q9
    exact Rch.ri rfl rfl (oB_nar _) (by decide) (by decide) ⟨rfl, rfl⟩
theorem read_go (c : FA) (r : Nat → FA) (nx ln : Int32) (sn : FA) (hs : Int32) (sg : FA) (s : FA) (L : LS9) (e : AH) {N : Nat} (hN : N ≤ 60) : ∀ (d u : Nat) (S : TS), u + d = N → TOk S → Rch m_X3_read X0 (17, [(0, .ref 10), (1, .int (nI u))], [.int (nI N), .int (nI u)], HP c (KT r nx ln sn hs sg (nI N) S) s L e, 0, 0) (RetP m_X3_read (fun rv h => rv = some (.int (flt (nI N) (rdf sg d u S))) ∧ h = HP c (KT r nx ln sn hs sg (nI N) (rdf sg d u S).1) s L e)) := by
  intro d
  induction d with
  | zero =>
    intro u S hu hS
    obtain rfl : u = N := by omega
    refine Rch.i_ge rfl (fun _ => ?_) (fun z => absurd (lo_out (by omega)) z)
    refine Rch.go rfl ?_
    have hx := hS.2
    refine Rch.i_eq rfl (fun z => ?_) (fun z => ?_)
    · have h3 : S.2.2.2 = 3 := (nI_eq (by omega) (by decide)).mp (show nI S.2.2.2 = nI 3 from z)
      refine Rch.go rfl ?_
      exact Rch.ri rfl rfl rfl (by decide) (by decide) ⟨by show some (Value.int (-1)) = some (.int (if S.2.2.2 = 3 ∨ S.2.2.2 = 4 then (-1 : Int32) else nI u)); rw [if_pos (Or.inl h3)], rfl⟩
    · have h3 : ¬ S.2.2.2 = 3 := fun q => z ((nI_eq (by omega) (by decide)).mpr q : nI S.2.2.2 = nI 3)
      refine Rch.go rfl ?_
      refine Rch.i_ne rfl (fun z2 => ?_) (fun z2 => ?_)
      · have h4 : S.2.2.2 = 4 := (nI_eq (by omega) (by decide)).mp (show nI S.2.2.2 = nI 4 from z2)
        refine Rch.go rfl ?_
        exact Rch.ri rfl rfl rfl (by decide) (by decide) ⟨by show some (Value.int (-1)) = some (.int (if S.2.2.2 = 3 ∨ S.2.2.2 = 4 then (-1 : Int32) else nI u)); rw [if_pos (Or.inr h4)], rfl⟩
      · have h4 : ¬ S.2.2.2 = 4 := fun q => z2 ((nI_eq (by omega) (by decide)).mpr q : nI S.2.2.2 = nI 4)
        refine Rch.go rfl ?_
        exact Rch.ri rfl rfl rfl (by decide) (by decide) ⟨by show some (Value.int (nI u)) = some (.int (if S.2.2.2 = 3 ∨ S.2.2.2 = 4 then (-1 : Int32) else nI u)); rw [if_neg (fun q => q.elim h3 h4)], rfl⟩
  | succ d ih =>
    intro u S hu hS
    refine Rch.i_ge rfl (fun z => absurd z (lo_in (by omega) (by omega))) (fun _ => ?_)
    refine Rch.go rfl ?_
    refine Rch.i_ge rfl (fun z => absurd z (lo_in (N := 60) (by omega) (by decide))) (fun _ => ?_)
    refine Rch.go rfl ?_
    refine Rch.ca rfl rfl rfl (by omega) (by decide) ?_
    refine Rch.call 0 (t_X3_takes c r nx ln sn hs sg (nI N) S s L e (sg u) hS) rfl rfl g_X3_36 om_X3_takes rfl (fun _ _ _ q => q) rfl rfl rfl rfl ⟨rfl, rfl⟩ ⟨by decide, by decide⟩ (fun _ _ q => by obtain ⟨_, rfl⟩ := q; first | with_reducible rfl | rw [HP_len, HP_len]) (fun rv9 h9 q9 => ?_)
    obtain ⟨rfl, rfl⟩ := q9
    cases ht : tkS (sg u) S with
    | none =>
      have e1 : rdf sg (d + 1) u S = (S, some u) := by show (match tkS (sg u) S with | none => (S, some u) | some S' => rdf sg d (u + 1) S') = _; rw [ht]
      rw [e1]
      refine Rch.z_ne rfl (fun _ => ?_) (fun q => absurd rfl q)
      refine Rch.go rfl ?_
      exact Rch.ri rfl rfl rfl (by decide) (by decide) ⟨rfl, rfl⟩
    | some S' =>
      have e1 : rdf sg (d + 1) u S = rdf sg d (u + 1) S' := by show (match tkS (sg u) S with | none => (S, some u) | some S' => rdf sg d (u + 1) S') = _; rw [ht]
      rw [e1]
      refine Rch.z_ne rfl (fun q => absurd (show (1 : Int32) = 0 from q) (by decide)) (fun _ => ?_)
      refine Rch.go rfl ?_
      refine Rch.eq (τ := (17, [(0, .ref 10), (1, .int (nI (u + 1)))], [.int (nI N), .int (nI (u + 1))], HP c (KT r nx ln sn hs sg (nI N) S') s L e, 0, 0)) (by rw [← nI_1]; rfl) (ih (u + 1) S' (by omega) (hS.step ht))
theorem t_X3_read (c : FA) (r : Nat → FA) (nx ln : Int32) (sn : FA) (hs : Int32) (sg : FA) (kd bb : FA) (od ex : Int32) (s : FA) (L : LS9) (e : AH) {N : Nat} (hN : N ≤ 60) : Ct m_X3_read X0 [.ref 10] (HP c (r, nx, ln, sn, hs, sg, nI N, kd, bb, od, ex) s L e) (fun rv h => rv = some (.int (flt (nI N) (rdf sg N 0 (kd, bb, 0, 0)))) ∧ h = HP c (KT r nx ln sn hs sg (nI N) (rdf sg N 0 (kd, bb, 0, 0)).1) s L e) := by
  refine ⟨ok_X3_read, ?_⟩
  refine Rch.go rfl ?_
  exact read_go c r nx ln sn hs sg s L e hN N 0 (kd, bb, 0, 0) (by omega) ⟨by show 0 ≤ 60; decide, by show 0 < 5; decide⟩
end TE
