/-! ===== the reference's pump and minute, beside the barge's ===== -/
def R3d (d : Int32) (c s : FA) : Prop := s 51 + d = c 156 ∧ s 52 = c 157 ∧ s 53 = c 158 ∧ s 54 = lostS c ∧ s 55 = c 159 ∧ s 56 = c 160 ∧ s 57 = c 161
/-- the reference's row s and the barge's cells c say the same; d: the minutes that the barge is ahead; B: no tank was pumped oftener -/
def RR (d : Int32) (B N : Nat) (c s : FA) : Prop := R1 c s ∧ R2 c s ∧ R3d d c s ∧ R4 c s N ∧ R5 c s ∧ R6 B c s ∧ V9 c
theorem lostS_congr {c c' : FA} (h : ∀ t, t < 8 → c' (16 + t) = c (16 + t)) : lostS c' = lostS c := fs_congr h
theorem lostS_ad {c : FA} {n : Nat} {l : Int32} (hn : n < 8) : lostS (ad c (16 + n) l) = lostS c + l := by
  have key : ∀ N, (n < N → fs 0 (fun t => ad c (16 + n) l (16 + t)) N = fs 0 (fun t => c (16 + t)) N + l) ∧ (N ≤ n → fs 0 (fun t => ad c (16 + n) l (16 + t)) N = fs 0 (fun t => c (16 + t)) N) := by
    intro N
    induction N with
    | zero => exact ⟨fun h => absurd h (by omega), fun _ => rfl⟩
    | succ N ih =>
      constructor
      · intro h
        show fs 0 (fun t => ad c (16 + n) l (16 + t)) N + ad c (16 + n) l (16 + N) = fs 0 (fun t => c (16 + t)) N + c (16 + N) + l
        by_cases e : N = n
        · subst e
          rw [ih.2 (Nat.le_refl _)]
          unfold ad
          rw [pk_us, Int32.add_assoc]
        · rw [ih.1 (by omega), ad_ne (by omega), Int32.add_assoc, Int32.add_comm l, ← Int32.add_assoc]
      · intro h
        show fs 0 (fun t => ad c (16 + n) l (16 + t)) N + ad c (16 + n) l (16 + N) = fs 0 (fun t => c (16 + t)) N + c (16 + N)
        rw [ih.2 (by omega), ad_ne (by omega)]
  exact (key 8).1 hn
theorem R6.mono {B B' : Nat} {c s : FA} (h : R6 B c s) (hB : B ≤ B') : R6 B' c s := by
  intro t ht
  obtain ⟨k, p, p0, h1, h2, h3, h4⟩ := h t ht
  exact ⟨k, p, p0, h1, h2, by omega, h4⟩
theorem RR.mono {d : Int32} {B B' N : Nat} {c s : FA} (h : RR d B N c s) (hB : B ≤ B') : RR d B' N c s := by
  obtain ⟨h1, h2, h3, h4, h5, h6, h7⟩ := h
  exact ⟨h1, h2, h3, h4, h5, h6.mono hB, h7⟩
def mvM (s : FA) (k : Nat) (u : Int32) : FA := upd (upd s k (s k + u)) (24 + k) 1
theorem RR.move {d : Int32} {B N : Nat} {c s : FA} (h : RR d B N c s) {k : Nat} {u : Int32} (hk : k < 8) (hB : B < 2 ^ 30) (hw : ∃ w, w ≤ 100 ∧ c k + u = nI w) : RR d (B + 1) N (mvb c k u) (mvM s k u) := by
  obtain ⟨h1, h2, h3, h4, h5, h6, h7⟩ := h
  have ec : mvb c k u = upd (upd c k (c k + u)) (24 + k) (c (24 + k) + 1) := by
    show upd (upd c k (c k + u)) (24 + k) (upd c k (c k + u) (24 + k) + 1) = _
    rw [pk_un (f := c) (by omega)]
  rw [ec]
  unfold mvM
  refine ⟨fun i hi => ?_, fun i hi hi2 => ?_, ?_, ⟨h4.1.congr fun j g1 g2 => ?_, ?_, fun p hp => ?_⟩, fun t ht => ⟨?_, fun b hb => ⟨?_, ?_⟩⟩, fun t ht => ?_, fun t ht => ?_, fun t ht => ?_, fun t ht => ?_, fun t ht => ?_, ?_⟩
  · rw [pk_un (by omega), pk_un (f := upd c k (c k + u)) (by omega)]
    by_cases e : i = k
    · subst e; rw [pk_us, pk_us, h1 i hi]
    · rw [pk_un e, pk_un e]; exact h1 i hi
  · rw [pk_un (by omega), pk_un (by omega), pk_un (f := upd c k (c k + u)) (by omega), pk_un (by omega)]
    exact h2 i hi hi2
  · obtain ⟨g1, g2, g3, g4, g5, g6, g7⟩ := h3
    refine ⟨?_, ?_, ?_, ?_, ?_, ?_, ?_⟩
    · rw [pk_un (by omega), pk_un (by omega), pk_un (f := upd c k (c k + u)) (by omega), pk_un (by omega)]; exact g1
    · rw [pk_un (by omega), pk_un (by omega), pk_un (f := upd c k (c k + u)) (by omega), pk_un (by omega)]; exact g2
    · rw [pk_un (by omega), pk_un (by omega), pk_un (f := upd c k (c k + u)) (by omega), pk_un (by omega)]; exact g3
    · rw [pk_un (by omega), pk_un (by omega), g4]
      exact (lostS_congr fun t ht => by rw [pk_un (by omega), pk_un (by omega)]).symm
    · rw [pk_un (by omega), pk_un (by omega), pk_un (f := upd c k (c k + u)) (by omega), pk_un (by omega)]; exact g5
    · rw [pk_un (by omega), pk_un (by omega), pk_un (f := upd c k (c k + u)) (by omega), pk_un (by omega)]; exact g6
    · rw [pk_un (by omega), pk_un (by omega), pk_un (f := upd c k (c k + u)) (by omega), pk_un (by omega)]; exact g7
  · rw [pk_un (by omega), pk_un (by omega)]
  · rw [pk_un (by omega), pk_un (by omega)]; exact h4.2.1
  · have := h4.1.2.1
    rw [pk_un (by omega), pk_un (by omega), pk_un (f := upd s k (s k + u)) (by omega), pk_un (f := s) (by omega), pk_un (f := upd c k (c k + u)) (by omega), pk_un (f := c) (by omega), pk_un (f := upd c k (c k + u)) (by omega), pk_un (f := c) (by omega)]
    exact h4.2.2 p hp
  · rw [pk_un (by omega), pk_un (by omega), pk_un (f := upd c k (c k + u)) (by omega), pk_un (by omega)]; exact (h5 t ht).1
  · rw [pk_un (by omega), pk_un (by omega), pk_un (f := upd c k (c k + u)) (by omega), pk_un (by omega)]; exact ((h5 t ht).2 b hb).1
  · rw [pk_un (by omega), pk_un (by omega), pk_un (f := upd c k (c k + u)) (by omega), pk_un (by omega)]; exact ((h5 t ht).2 b hb).2
  · obtain ⟨k3, p, p0, a1, a2, a3, a4, a5, a6, a7, a8⟩ := h6 t ht
    have q1 : upd (upd c k (c k + u)) (24 + k) (c (24 + k) + 1) (32 + t) = c (32 + t) := by rw [pk_un (by omega), pk_un (by omega)]
    have q2 : upd (upd c k (c k + u)) (24 + k) (c (24 + k) + 1) (88 + (t * 3 + 0)) = c (88 + (t * 3 + 0)) := by rw [pk_un (by omega), pk_un (by omega)]
    have q3 : upd (upd c k (c k + u)) (24 + k) (c (24 + k) + 1) (88 + (t * 3 + 1)) = c (88 + (t * 3 + 1)) := by rw [pk_un (by omega), pk_un (by omega)]
    have q4 : upd (upd s k (s k + u)) (24 + k) 1 (83 + 10 * t + 3) = s (83 + 10 * t + 3) := by rw [pk_un (by omega), pk_un (by omega)]
    rw [q1, q2, q3, q4]
    by_cases e : t = k
    · subst e
      refine ⟨k3, p + 1, p0, a1, a2, by omega, by omega, by rw [pk_us, a5, nI_1], a6, fun _ => ?_, a8⟩
      rw [pk_us]
      exact ⟨fun q => absurd q (by decide), fun q => absurd q (by omega)⟩
    · refine ⟨k3, p, p0, a1, a2, by omega, a4, by rw [pk_un (by omega), pk_un (by omega)]; exact a5, a6, fun g => ?_, a8⟩
      rw [pk_un (by omega), pk_un (by omega)]
      exact a7 g
  · rw [pk_un (by omega)]
    by_cases e : t = k
    · subst e; rw [pk_us]; exact hw
    · rw [pk_un e]; exact h7.1 t ht
  · rw [pk_un (by omega), pk_un (by omega)]; exact h7.2.1 t ht
  · rw [pk_un (by omega), pk_un (by omega)]; exact h7.2.2.1 t ht
  · rw [pk_un (by omega), pk_un (by omega)]; exact h7.2.2.2.1 t ht
  · rw [pk_un (by omega), pk_un (by omega)]; exact h7.2.2.2.2
/-- a counter of both -/
theorem RR.cnt {d d' : Int32} {B N : Nat} {c s : FA} (h : RR d B N c s) {i j : Nat} {v w : Int32} (hi : 51 ≤ i ∧ i < 58) (hj : 156 ≤ j) (h3 : R3d d' (upd c j w) (upd s i v)) : RR d' B N (upd c j w) (upd s i v) := by
  obtain ⟨h1, h2, -, h4, h5, h6, h7⟩ := h
  have hN := h4.1.2.1
  have c1 : ∀ x, x < 156 → upd c j w x = c x := fun x hx => pk_un (by omega)
  have s1 : ∀ x, (x < 51 ∨ 58 ≤ x) → upd s i v x = s x := fun x hx => pk_un (by omega)
  refine ⟨fun i hi => ?_, fun i hi hi2 => ?_, h3, ⟨h4.1.congr fun j g1 g2 => c1 j (by omega), ?_, fun p hp => ?_⟩, fun t ht => ⟨?_, fun b hb => ⟨?_, ?_⟩⟩, fun t ht => ?_, fun t ht => ?_, fun t ht => ?_, fun t ht => ?_, fun t ht => ?_, ?_⟩
  · rw [s1 _ (by omega), c1 _ (by omega)]; exact h1 i hi
  · rw [s1 _ (by omega), c1 _ (by omega)]; exact h2 i hi hi2
  · rw [s1 _ (by omega)]; exact h4.2.1
  · rw [s1 _ (by omega), s1 _ (by omega), c1 _ (by omega), c1 _ (by omega)]; exact h4.2.2 p hp
  · rw [s1 _ (by omega), c1 _ (by omega)]; exact (h5 t ht).1
  · rw [s1 _ (by omega), c1 _ (by omega)]; exact ((h5 t ht).2 b hb).1
  · rw [s1 _ (by omega), c1 _ (by omega)]; exact ((h5 t ht).2 b hb).2
  · rw [s1 _ (by omega), s1 _ (by omega), c1 _ (by omega), c1 _ (by omega), c1 _ (by omega), c1 _ (by omega)]; exact h6 t ht
  · rw [c1 _ (by omega)]; exact h7.1 t ht
  · rw [c1 _ (by omega)]; exact h7.2.1 t ht
  · rw [c1 _ (by omega)]; exact h7.2.2.1 t ht
  · rw [c1 _ (by omega)]; exact h7.2.2.2.1 t ht
  · rw [c1 _ (by omega)]; exact h7.2.2.2.2
theorem lostS_hi {c : FA} {j : Nat} {w : Int32} (hj : 156 ≤ j) : lostS (upd c j w) = lostS c := lostS_congr fun t ht => pk_un (by omega)
theorem RR.c52 {d : Int32} {B N : Nat} {c s : FA} (h : RR d B N c s) (v : Int32) : RR d B N (ad c 157 v) (upd s 52 (s 52 + v)) := by
  refine h.cnt (by decide) (by decide) ?_
  obtain ⟨g1, g2, g3, g4, g5, g6, g7⟩ := h.2.2.1
  unfold R3d
  rw [lostS_hi (by decide)]
  simp only [upd, Nat.reduceEqDiff, if_false, if_true]
  refine ⟨?_, ?_, ?_, g4, ?_, ?_, ?_⟩ <;> first | assumption | rw [g2]
theorem RR.c53 {d : Int32} {B N : Nat} {c s : FA} (h : RR d B N c s) (v : Int32) : RR d B N (ad c 158 v) (upd s 53 (s 53 + v)) := by
  refine h.cnt (by decide) (by decide) ?_
  obtain ⟨g1, g2, g3, g4, g5, g6, g7⟩ := h.2.2.1
  unfold R3d
  rw [lostS_hi (by decide)]
  simp only [upd, Nat.reduceEqDiff, if_false, if_true]
  refine ⟨?_, ?_, ?_, g4, ?_, ?_, ?_⟩ <;> first | assumption | rw [g3]
theorem RR.c55 {d : Int32} {B N : Nat} {c s : FA} (h : RR d B N c s) (v : Int32) : RR d B N (ad c 159 v) (upd s 55 (s 55 + v)) := by
  refine h.cnt (by decide) (by decide) ?_
  obtain ⟨g1, g2, g3, g4, g5, g6, g7⟩ := h.2.2.1
  unfold R3d
  rw [lostS_hi (by decide)]
  simp only [upd, Nat.reduceEqDiff, if_false, if_true]
  refine ⟨?_, ?_, ?_, g4, ?_, ?_, ?_⟩ <;> first | assumption | rw [g5]
theorem RR.c56 {d : Int32} {B N : Nat} {c s : FA} (h : RR d B N c s) (v : Int32) : RR d B N (ad c 160 v) (upd s 56 (s 56 + v)) := by
  refine h.cnt (by decide) (by decide) ?_
  obtain ⟨g1, g2, g3, g4, g5, g6, g7⟩ := h.2.2.1
  unfold R3d
  rw [lostS_hi (by decide)]
  simp only [upd, Nat.reduceEqDiff, if_false, if_true]
  refine ⟨?_, ?_, ?_, g4, ?_, ?_, ?_⟩ <;> first | assumption | rw [g6]
theorem RR.c57 {d : Int32} {B N : Nat} {c s : FA} (h : RR d B N c s) (v : Int32) : RR d B N (ad c 161 v) (upd s 57 (s 57 + v)) := by
  refine h.cnt (by decide) (by decide) ?_
  obtain ⟨g1, g2, g3, g4, g5, g6, g7⟩ := h.2.2.1
  unfold R3d
  rw [lostS_hi (by decide)]
  simp only [upd, Nat.reduceEqDiff, if_false, if_true]
  refine ⟨?_, ?_, ?_, g4, ?_, ?_, ?_⟩ <;> first | assumption | rw [g7]
def pmM (m x : Int32) (c s : FA) : FA :=
  if m = 2 then (match tfi c x with
    | none => s
    | some k => upd (mvM s k 1) 52 (mvM s k 1 52 + 1))
  else if m = 3 then (match tem c x with
    | none => s
    | some k => upd (mvM s k (-1)) 53 (mvM s k (-1) 53 + 1))
  else if m = 4 then (match tlo c x with
    | none => s
    | some f => match emp c x 8 with
      | none => s
      | some t => upd (mvM (mvM s f (-1)) t 1) 55 (mvM (mvM s f (-1)) t 1 55 + 1))
  else s
theorem tfi_emp {c : FA} {x : Int32} {k : Nat} (h : tfi c x = some k) : emp c x 8 = some k ∧ c k < 100 := by
  unfold tfi at h
  split at h
  · cases h
  · next k2 hk =>
    split at h
    · next h1 =>
      split at h
      · cases h; exact ⟨hk, h1⟩
      · cases h
    · cases h
theorem tem_ful {c : FA} {x : Int32} {k : Nat} (h : tem c x = some k) : ful c x 8 = some k ∧ 0 < c k := by
  unfold tem at h
  split at h
  · cases h
  · next k2 hk =>
    split at h
    · next h1 => cases h; exact ⟨hk, h1⟩
    · cases h
theorem tlo_ful {c : FA} {x : Int32} {f : Nat} (h : tlo c x = some f) : ful c x 8 = some f ∧ ∃ t, emp c x 8 = some t ∧ ¬ c f - c t < 2 := by
  unfold tlo at h
  split at h
  · cases h
  · next f2 hf =>
    split at h
    · cases h
    · next t ht =>
      split at h
      · cases h
      · next h1 => cases h; exact ⟨hf, t, ht, h1⟩
theorem ge2 {a b : Nat} (ha : a ≤ 100) (hb : b ≤ 100) (h : ¬ nI a - nI b < 2) : b + 2 ≤ a := by
  apply Decidable.byContradiction
  intro q
  apply h
  by_cases e : b ≤ a
  · rw [nI_sub e]
    exact (nI_ltI (by omega) (by decide)).mpr (by omega : a - b < 2)
  · have e2 : nI a - nI b = -(nI (b - a)) := by rw [← nI_sub (by omega), Int32.neg_sub]
    rw [e2, Int32.lt_iff_toInt_lt, Int32.toInt_neg, nI_toInt (by omega)]
    have : (2 : Int32).toInt = 2 := rfl
    rw [this, Int.bmod_eq_of_le (by omega) (by omega)]
    omega
theorem pred9 {w : Nat} (h : 0 < w) : nI w + -1 = nI (w - 1) := by
  rw [← nI_sub (b := 1) h, Int32.sub_eq_add_neg]
  rfl
/-- a unit of the pump, beside the reference's -/
theorem RR.pump {d : Int32} {B N : Nat} {c s : FA} (h : RR d B N c s) (m x : Int32) (hB : B < 2 ^ 29) : RR d (B + 2) N (mvc c (mvu m c x)) (pmM m x c s) := by
  have hV := h.2.2.2.2.2.2
  by_cases h2 : m = 2
  · subst h2
    rw [show mvu 2 c x = mfu c (tfi c x) from if_pos rfl, show pmM 2 x c s = (match tfi c x with | none => s | some k => upd (mvM s k 1) 52 (mvM s k 1 52 + 1)) from if_pos rfl]
    cases hk : tfi c x with
    | none => exact h.mono (by omega)
    | some k =>
      obtain ⟨e1, e2⟩ := tfi_emp hk
      have hlt := emp_lt e1
      obtain ⟨w, w1, w2⟩ := hV.1 k hlt
      rw [w2] at e2
      have e3 : w < 100 := (nI_ltI (by omega) (by decide)).mp (show nI w < nI 100 from e2)
      exact ((h.move (u := 1) hlt (by omega) ⟨w + 1, by omega, by rw [w2, nI_1]⟩).c52 1).mono (by omega)
  by_cases h3 : m = 3
  · subst h3
    rw [show mvu 3 c x = meu c (tem c x) by unfold mvu; rw [if_neg h2, if_pos rfl], show pmM 3 x c s = (match tem c x with | none => s | some k => upd (mvM s k (-1)) 53 (mvM s k (-1) 53 + 1)) by unfold pmM; rw [if_neg h2, if_pos rfl]]
    cases hk : tem c x with
    | none => exact h.mono (by omega)
    | some k =>
      obtain ⟨e1, e2⟩ := tem_ful hk
      have hlt := ful_lt e1
      obtain ⟨w, w1, w2⟩ := hV.1 k hlt
      rw [w2] at e2
      have e3 : 0 < w := (nI_ltI (by decide) (by omega)).mp (show nI 0 < nI w from e2)
      exact ((h.move (u := -1) hlt (by omega) ⟨w - 1, by omega, by rw [w2, pred9 e3]⟩).c53 1).mono (by omega)
  by_cases h4 : m = 4
  · subst h4
    rw [show mvu 4 c x = mlu c (tlo c x) (emp c x 8) by unfold mvu; rw [if_neg h2, if_neg h3, if_pos rfl], show pmM 4 x c s = (match tlo c x with | none => s | some f => match emp c x 8 with | none => s | some t => upd (mvM (mvM s f (-1)) t 1) 55 (mvM (mvM s f (-1)) t 1 55 + 1)) by unfold pmM; rw [if_neg h2, if_neg h3, if_pos rfl]]
    cases hk : tlo c x with
    | none => exact h.mono (by omega)
    | some f =>
      obtain ⟨e1, t, e2, e3⟩ := tlo_ful hk
      have hlf := ful_lt e1
      have hlt := emp_lt e2
      obtain ⟨w, w1, w2⟩ := hV.1 f hlf
      obtain ⟨v, v1, v2⟩ := hV.1 t hlt
      rw [w2, v2] at e3
      have e4 := ge2 w1 v1 e3
      have hne : t ≠ f := by
        intro e
        subst e
        rw [w2] at v2
        have := (nI_eq (by omega) (by omega)).mp v2
        omega
      rw [e2]
      have g1 := h.move (u := -1) hlf (by omega) ⟨w - 1, by omega, by rw [w2, pred9 (by omega)]⟩
      have e5 : mvb c f (-1) t = nI v := by
        unfold mvb
        rw [ad_ne (by omega), ad_ne hne]
        exact v2
      exact ((g1.move (u := 1) hlt (by omega) ⟨v + 1, by omega, by rw [e5, nI_1]⟩).c55 1).mono (by omega)
  · rw [show mvu m c x = none by unfold mvu; rw [if_neg h2, if_neg h3, if_neg h4], show pmM m x c s = s by unfold pmM; rw [if_neg h2, if_neg h3, if_neg h4]]
    exact h.mono (by omega)
section MP
theorem t_X9_move (c : FA) (K : FA × KS) (s : FA) (L : LS9) (e : AH) {k : Nat} (u : Int32) (hk : k < 8) : Ct m_X9_move X0 [.ref 14, .int (nI k), .int u] (HP K.1 K.2 s L e) (fun rv h => rv = none ∧ h = HP K.1 K.2 (mvM s k u) L e) := by
  refine ⟨ok_X9_move, ?_⟩
  refine Rch.go rfl ?_
  refine Rch.ia rfl rfl rfl (zadd k) (by omega) (by decide) ?_
  refine Rch.go rfl ?_
  refine Rch.ias rfl rfl (zadd k) (by omega) (by decide) ?_
  refine Rch.go rfl ?_
  refine Rch.ias rfl rfl (nI_add 24 k) (by omega) (by decide) ?_
  exact Rch.rv rfl rfl (by decide) (by decide) ⟨rfl, rfl⟩
theorem t_X9_pump (c : FA) (K : FA × KS) (s : FA) (L : LS9) (e : AH) (m : Int32) (h1 : R1 c s) (h2 : R2 c s) : Ct m_X9_pump X0 [.ref 14, .int m] (HP K.1 K.2 s L e) (fun rv h => rv = none ∧ h = HP K.1 K.2 (pmM m (opn c 5) c s) L e) := by
  refine ⟨ok_X9_pump, ?_⟩
  refine Rch.go rfl ?_
  refine Rch.i_ne rfl (fun z2 => ?_) (fun z2 => ?_)
  · subst z2
    rw [show pmM 2 (opn c 5) c s = (match tfi c (opn c 5) with | none => s | some k => upd (mvM s k 1) 52 (mvM s k 1 52 + 1)) from if_pos rfl]
    refine Rch.go rfl ?_
    refine Rch.call 0 (t_X9_canFill c K s L e h1 h2) rfl rfl g_X9_51 om_X9_canFill rfl (fun _ _ _ q => q) rfl rfl rfl rfl ⟨rfl, rfl⟩ ⟨by decide, by decide⟩ (fun _ _ q => by obtain ⟨_, rfl⟩ := q; first | with_reducible rfl | (rw [HP_len, HP_len]; done) | rw [HP_len, HP_len, uO_len, uO_len]) (fun rv9 h9 q9 => ?_)
    obtain ⟨rfl, rfl⟩ := q9
    cases hk : tfi c (opn c 5) with
    | none =>
      refine Rch.z_eq rfl (fun _ => ?_) (fun q => absurd rfl q)
      refine Rch.go rfl ?_
      refine Rch.i_ne rfl (fun q => absurd q (by decide)) (fun _ => ?_)
      refine Rch.go rfl ?_
      refine Rch.i_ne rfl (fun q => absurd q (by decide)) (fun _ => ?_)
      exact Rch.rv rfl rfl (by decide) (by decide) ⟨rfl, rfl⟩
    | some k =>
      obtain ⟨e1, -⟩ := tfi_emp hk
      have hlt := emp_lt e1
      refine Rch.z_eq rfl (fun q => absurd (show (1 : Int32) = 0 from q) (by decide)) (fun _ => ?_)
      refine Rch.go rfl ?_
      refine Rch.call 0 (t_X9_outermost__0 c K s L e h1 h2) rfl rfl g_X9_47 om_X9_outermost rfl (fun _ _ _ q => q) rfl rfl rfl rfl ⟨rfl, rfl⟩ ⟨by decide, by decide⟩ (fun _ _ q => by obtain ⟨_, rfl⟩ := q; first | with_reducible rfl | (rw [HP_len, HP_len]; done) | rw [HP_len, HP_len, uO_len, uO_len]) (fun rv9 h9 q9 => ?_)
      obtain ⟨rfl, rfl⟩ := q9
      rw [e1]
      refine Rch.go rfl ?_
      refine Rch.call 0 (t_X9_move c K s L e 1 hlt) rfl rfl g_X9_55 om_X9_move rfl (fun _ _ _ q => q) rfl rfl rfl rfl ⟨rfl, rfl⟩ ⟨by decide, by decide⟩ (fun _ _ q => by obtain ⟨_, rfl⟩ := q; first | with_reducible rfl | (rw [HP_len, HP_len]; done) | rw [HP_len, HP_len, uO_len, uO_len]) (fun rv9 h9 q9 => ?_)
      obtain ⟨rfl, rfl⟩ := q9
      refine Rch.go rfl ?_
      refine Rch.ia (j := 52) rfl rfl rfl rfl (by decide) (by decide) ?_
      refine Rch.go rfl ?_
      refine Rch.ias (j := 52) rfl rfl rfl (by decide) (by decide) ?_
      refine Rch.go rfl ?_
      exact Rch.rv rfl rfl (by decide) (by decide) ⟨rfl, rfl⟩
  refine Rch.go rfl ?_
  refine Rch.i_ne rfl (fun z3 => ?_) (fun z3 => ?_)
  · subst z3
    rw [show pmM 3 (opn c 5) c s = (match tem c (opn c 5) with | none => s | some k => upd (mvM s k (-1)) 53 (mvM s k (-1) 53 + 1)) by unfold pmM; rw [if_neg z2, if_pos rfl]]
    refine Rch.go rfl ?_
    refine Rch.call 0 (t_X9_canEmpty c K s L e h1 h2) rfl rfl g_X9_59 om_X9_canEmpty rfl (fun _ _ _ q => q) rfl rfl rfl rfl ⟨rfl, rfl⟩ ⟨by decide, by decide⟩ (fun _ _ q => by obtain ⟨_, rfl⟩ := q; first | with_reducible rfl | (rw [HP_len, HP_len]; done) | rw [HP_len, HP_len, uO_len, uO_len]) (fun rv9 h9 q9 => ?_)
    obtain ⟨rfl, rfl⟩ := q9
    cases hk : tem c (opn c 5) with
    | none =>
      refine Rch.z_eq rfl (fun _ => ?_) (fun q => absurd rfl q)
      refine Rch.go rfl ?_
      refine Rch.i_ne rfl (fun q => absurd q (by decide)) (fun _ => ?_)
      exact Rch.rv rfl rfl (by decide) (by decide) ⟨rfl, rfl⟩
    | some k =>
      obtain ⟨e1, -⟩ := tem_ful hk
      have hlt := ful_lt e1
      refine Rch.z_eq rfl (fun q => absurd (show (1 : Int32) = 0 from q) (by decide)) (fun _ => ?_)
      refine Rch.go rfl ?_
      refine Rch.call 0 (t_X9_outermost__1 c K s L e h1 h2) rfl rfl g_X9_47 om_X9_outermost rfl (fun _ _ _ q => q) rfl rfl rfl rfl ⟨rfl, rfl⟩ ⟨by decide, by decide⟩ (fun _ _ q => by obtain ⟨_, rfl⟩ := q; first | with_reducible rfl | (rw [HP_len, HP_len]; done) | rw [HP_len, HP_len, uO_len, uO_len]) (fun rv9 h9 q9 => ?_)
      obtain ⟨rfl, rfl⟩ := q9
      rw [e1]
      refine Rch.go rfl ?_
      refine Rch.call 0 (t_X9_move c K s L e (-1) hlt) rfl rfl g_X9_55 om_X9_move rfl (fun _ _ _ q => q) rfl rfl rfl rfl ⟨rfl, rfl⟩ ⟨by decide, by decide⟩ (fun _ _ q => by obtain ⟨_, rfl⟩ := q; first | with_reducible rfl | (rw [HP_len, HP_len]; done) | rw [HP_len, HP_len, uO_len, uO_len]) (fun rv9 h9 q9 => ?_)
      obtain ⟨rfl, rfl⟩ := q9
      refine Rch.go rfl ?_
      refine Rch.ia (j := 53) rfl rfl rfl rfl (by decide) (by decide) ?_
      refine Rch.go rfl ?_
      refine Rch.ias (j := 53) rfl rfl rfl (by decide) (by decide) ?_
      refine Rch.go rfl ?_
      exact Rch.rv rfl rfl (by decide) (by decide) ⟨rfl, rfl⟩
  refine Rch.go rfl ?_
  refine Rch.i_ne rfl (fun z4 => ?_) (fun z4 => ?_)
  · subst z4
    rw [show pmM 4 (opn c 5) c s = (match tlo c (opn c 5) with | none => s | some f => match emp c (opn c 5) 8 with | none => s | some t => upd (mvM (mvM s f (-1)) t 1) 55 (mvM (mvM s f (-1)) t 1 55 + 1)) by unfold pmM; rw [if_neg z2, if_neg z3, if_pos rfl]]
    refine Rch.go rfl ?_
    refine Rch.call 0 (t_X9_canLevel c K s L e h1 h2) rfl rfl g_X9_62 om_X9_canLevel rfl (fun _ _ _ q => q) rfl rfl rfl rfl ⟨rfl, rfl⟩ ⟨by decide, by decide⟩ (fun _ _ q => by obtain ⟨_, rfl⟩ := q; first | with_reducible rfl | (rw [HP_len, HP_len]; done) | rw [HP_len, HP_len, uO_len, uO_len]) (fun rv9 h9 q9 => ?_)
    obtain ⟨rfl, rfl⟩ := q9
    cases hk : tlo c (opn c 5) with
    | none =>
      refine Rch.z_eq rfl (fun _ => ?_) (fun q => absurd rfl q)
      exact Rch.rv rfl rfl (by decide) (by decide) ⟨rfl, rfl⟩
    | some f =>
      obtain ⟨e1, t, e2, -⟩ := tlo_ful hk
      have hlf := ful_lt e1
      have hlt := emp_lt e2
      rw [e2]
      refine Rch.z_eq rfl (fun q => absurd (show (1 : Int32) = 0 from q) (by decide)) (fun _ => ?_)
      refine Rch.go rfl ?_
      refine Rch.call 0 (t_X9_outermost__1 c K s L e h1 h2) rfl rfl g_X9_47 om_X9_outermost rfl (fun _ _ _ q => q) rfl rfl rfl rfl ⟨rfl, rfl⟩ ⟨by decide, by decide⟩ (fun _ _ q => by obtain ⟨_, rfl⟩ := q; first | with_reducible rfl | (rw [HP_len, HP_len]; done) | rw [HP_len, HP_len, uO_len, uO_len]) (fun rv9 h9 q9 => ?_)
      obtain ⟨rfl, rfl⟩ := q9
      rw [e1]
      refine Rch.go rfl ?_
      refine Rch.call 0 (t_X9_outermost__0 c K s L e h1 h2) rfl rfl g_X9_47 om_X9_outermost rfl (fun _ _ _ q => q) rfl rfl rfl rfl ⟨rfl, rfl⟩ ⟨by decide, by decide⟩ (fun _ _ q => by obtain ⟨_, rfl⟩ := q; first | with_reducible rfl | (rw [HP_len, HP_len]; done) | rw [HP_len, HP_len, uO_len, uO_len]) (fun rv9 h9 q9 => ?_)
      obtain ⟨rfl, rfl⟩ := q9
      rw [e2]
      refine Rch.go rfl ?_
      refine Rch.call 0 (t_X9_move c K s L e (-1) hlf) rfl rfl g_X9_55 om_X9_move rfl (fun _ _ _ q => q) rfl rfl rfl rfl ⟨rfl, rfl⟩ ⟨by decide, by decide⟩ (fun _ _ q => by obtain ⟨_, rfl⟩ := q; first | with_reducible rfl | (rw [HP_len, HP_len]; done) | rw [HP_len, HP_len, uO_len, uO_len]) (fun rv9 h9 q9 => ?_)
      obtain ⟨rfl, rfl⟩ := q9
      refine Rch.go rfl ?_
      refine Rch.call 0 (t_X9_move c K _ L e 1 hlt) rfl rfl g_X9_55 om_X9_move rfl (fun _ _ _ q => q) rfl rfl rfl rfl ⟨rfl, rfl⟩ ⟨by decide, by decide⟩ (fun _ _ q => by obtain ⟨_, rfl⟩ := q; first | with_reducible rfl | (rw [HP_len, HP_len]; done) | rw [HP_len, HP_len, uO_len, uO_len]) (fun rv9 h9 q9 => ?_)
      obtain ⟨rfl, rfl⟩ := q9
      refine Rch.go rfl ?_
      refine Rch.ia (j := 55) rfl rfl rfl rfl (by decide) (by decide) ?_
      refine Rch.go rfl ?_
      refine Rch.ias (j := 55) rfl rfl rfl (by decide) (by decide) ?_
      exact Rch.rv rfl rfl (by decide) (by decide) ⟨rfl, rfl⟩
  · rw [show pmM m (opn c 5) c s = s by unfold pmM; rw [if_neg z2, if_neg z3, if_neg z4]]
    exact Rch.rv rfl rfl (by decide) (by decide) ⟨rfl, rfl⟩
end MP
