/-! ===== the reference strikes orders out ===== -/
abbrev PL9 : Type := List (Int32 × Int32)
def lC (c : FA) (n : Nat) : PL9 := (List.range n).map (fun p => (c (131 + p), c (143 + p)))
def lS (s : FA) (n : Nat) : PL9 := (List.range n).map (fun p => (s (59 + 2 * p), s (59 + 2 * p + 1)))
theorem lC_s (c : FA) (n : Nat) : lC c (n + 1) = lC c n ++ [(c (131 + n), c (143 + n))] := by
  unfold lC; rw [List.range_succ, List.map_append]; rfl
theorem lS_s (s : FA) (n : Nat) : lS s (n + 1) = lS s n ++ [(s (59 + 2 * n), s (59 + 2 * n + 1))] := by
  unfold lS; rw [List.range_succ, List.map_append]; rfl
theorem lC_len (c : FA) (n : Nat) : (lC c n).length = n := by simp [lC]
theorem lS_len (s : FA) (n : Nat) : (lS s n).length = n := by simp [lS]
theorem lC_congr {c d : FA} : ∀ {n : Nat}, (∀ p, p < n → d (131 + p) = c (131 + p) ∧ d (143 + p) = c (143 + p)) → lC d n = lC c n
  | 0, _ => rfl
  | n + 1, h => by rw [lC_s, lC_s, lC_congr (fun p hp => h p (by omega)), (h n (by omega)).1, (h n (by omega)).2]
theorem lSC {c s : FA} : ∀ {n : Nat}, (∀ p, p < n → s (59 + 2 * p) = c (131 + p) ∧ s (59 + 2 * p + 1) = c (143 + p)) → lS s n = lC c n
  | 0, _ => rfl
  | n + 1, h => by rw [lC_s, lS_s, lSC (fun p hp => h p (by omega)), (h n (by omega)).1, (h n (by omega)).2]
theorem lC_get {c : FA} {n p : Nat} (hp : p < n) : (lC c n)[p]? = some (c (131 + p), c (143 + p)) := by
  simp [lC, List.getElem?_range hp]
theorem lS_get {s : FA} {n p : Nat} (hp : p < n) : (lS s n)[p]? = some (s (59 + 2 * p), s (59 + 2 * p + 1)) := by
  simp [lS, List.getElem?_range hp]
theorem lSC_at {c s : FA} {n : Nat} (h : lS s n = lC c n) {p : Nat} (hp : p < n) : s (59 + 2 * p) = c (131 + p) ∧ s (59 + 2 * p + 1) = c (143 + p) := by
  have e : (lS s n)[p]? = (lC c n)[p]? := by rw [h]
  rw [lC_get hp, lS_get hp] at e
  have e2 := Option.some.inj e
  exact ⟨congrArg Prod.fst e2, congrArg Prod.snd e2⟩
def Gd (x : Int32 × Int32) : Prop := ∃ k b : Nat, x.1 = nI k ∧ x.2 = nI b ∧ k < 5 ∧ (k < 2 → b < 5) ∧ (2 ≤ k → 1 ≤ b) ∧ b ≤ 60
theorem rowok_l {c : FA} {N : Nat} (h1 : c 155 = nI N) (h2 : N ≤ 12) (h3 : ∀ x ∈ lC c N, Gd x) : RowOk c N := by
  refine ⟨h1, h2, fun p hp => ?_⟩
  exact h3 (c (131 + p), c (143 + p)) (List.mem_of_getElem? (lC_get hp))
theorem rowok_m {c : FA} {N : Nat} (h : RowOk c N) : ∀ x ∈ lC c N, Gd x := by
  intro x hx
  unfold lC at hx
  obtain ⟨p, hp, rfl⟩ := List.mem_map.mp hx
  exact h.2.2 p (List.mem_range.mp hp)
abbrev nk (k : Int32) (x : Int32 × Int32) : Bool := decide (¬ x.1 = k)
theorem stk_l (c : FA) (k : Int32) : ∀ n, n ≤ 12 → lC (stk c k n).1 (stk c k n).2 = (lC c n).filter (nk k) ∧ (∀ j, j < 131 ∨ 155 ≤ j → (stk c k n).1 j = c j) ∧ ∀ p, n ≤ p → p < 12 → (stk c k n).1 (131 + p) = c (131 + p) ∧ (stk c k n).1 (143 + p) = c (143 + p)
  | 0, _ => ⟨rfl, fun _ _ => rfl, fun _ _ _ => ⟨rfl, rfl⟩⟩
  | n + 1, hn => by
    obtain ⟨i1, i2, i3⟩ := stk_l c k n (by omega)
    have hle := stk_le c k n
    obtain ⟨e1, e2⟩ := i3 n (Nat.le_refl n) (by omega)
    by_cases q : c (131 + n) = k
    · have ee : stk c k (n + 1) = stk c k n := if_pos (e1.trans q)
      rw [ee, lC_s, List.filter_append, i1]
      refine ⟨?_, i2, fun p h1 h2 => i3 p (by omega) h2⟩
      rw [show List.filter (nk k) [(c (131 + n), c (143 + n))] = [] by simp [nk, q], List.append_nil]
    · have ee : stk c k (n + 1) = (pat (stk c k n).1 (stk c k n).2 (c (131 + n)) (c (143 + n)), (stk c k n).2 + 1) := by
        rw [← e1, ← e2]
        exact if_neg (fun q2 => q (e1.symm.trans q2))
      rw [ee, lC_s, lC_s, List.filter_append, ← i1]
      dsimp only
      generalize hS : stk c k n = S at *
      obtain ⟨d, m⟩ := S
      dsimp only at *
      have p1 : pat d m (c (131 + n)) (c (143 + n)) (131 + m) = c (131 + n) := by unfold pat; rw [pk_un (by omega), pk_us]
      have p2 : pat d m (c (131 + n)) (c (143 + n)) (143 + m) = c (143 + n) := by unfold pat; rw [pk_us]
      refine ⟨?_, fun j hj => ?_, fun p h1 h2 => ?_⟩
      · rw [p1, p2, show List.filter (nk k) [(c (131 + n), c (143 + n))] = [(c (131 + n), c (143 + n))] by simp [nk, q]]
        congr 1
        refine lC_congr (fun p hp => ?_)
        unfold pat
        exact ⟨by rw [pk_un (by omega), pk_un (by omega)], by rw [pk_un (by omega), pk_un (by omega)]⟩
      · unfold pat
        rw [pk_un (by omega), pk_un (by omega)]
        exact i2 j hj
      · unfold pat
        rw [pk_un (by omega), pk_un (by omega), pk_un (by omega), pk_un (by omega)]
        exact i3 p (by omega) h2
def cnK (c : FA) (k : Int32) : Nat → Nat
  | 0 => 0
  | n + 1 => if c (131 + n) = k then cnK c k n + 1 else cnK c k n
theorem cnK_stk (c : FA) (k : Int32) : ∀ n, n ≤ 12 → cnK c k n + (stk c k n).2 = n
  | 0, _ => rfl
  | n + 1, hn => by
    have ih := cnK_stk c k n (by omega)
    obtain ⟨e1, e2⟩ := (stk_l c k n (by omega)).2.2 n (Nat.le_refl n) (by omega)
    by_cases q : c (131 + n) = k
    · rw [show cnK c k (n + 1) = _ from if_pos q, show stk c k (n + 1) = stk c k n from if_pos (e1.trans q)]
      omega
    · rw [show cnK c k (n + 1) = _ from if_neg q, show stk c k (n + 1) = _ from if_neg (fun q2 => q (e1.symm.trans q2))]
      show cnK c k n + ((stk c k n).2 + 1) = n + 1
      omega
theorem cnK_has (c : FA) (k : Int32) : ∀ n, (cnK c k n = 0 ↔ hasB c k n = false)
  | 0 => by simp [cnK, hasB]
  | n + 1 => by
    have ih := cnK_has c k n
    unfold cnK hasB
    by_cases q : c (131 + n) = k
    · simp [q]
    · simp [q, ih]
theorem sAt_l {s : FA} {N p : Nat} (hp : p ≤ N) : lS (sAt s N p) N = (lS s (N + 1)).eraseIdx p := by
  apply List.ext_getElem?
  intro i
  rw [List.getElem?_eraseIdx]
  by_cases hi : i < N
  · rw [lS_get hi]
    by_cases h2 : i < p
    · rw [if_pos h2, lS_get (by omega)]
      unfold sAt sAm
      rw [if_neg (by omega), if_neg (by omega), if_neg (by omega), if_neg (by omega)]
    · rw [if_neg h2, lS_get (by omega)]
      unfold sAt sAm
      rw [if_neg (by omega), if_pos (by omega), if_neg (by omega), if_pos (by omega)]
      rfl
  · rw [List.getElem?_eq_none (by rw [lS_len]; omega)]
    by_cases h2 : i < p
    · omega
    · rw [if_neg h2, List.getElem?_eq_none (by rw [lS_len]; omega)]
theorem sAt_o {s : FA} {N p i : Nat} (hN : N < 12) (hi : i < 58 ∨ 82 < i) : sAt s N p i = s i := by
  unfold sAt sAm
  rw [if_neg (by omega), if_neg (by omega)]
section ME
theorem t_X9_ofKind (c : FA) (K : FA × KS) (s : FA) (L : LS9) (e : AH) (k : Int32) {N : Nat} (h4 : R4 c s N) : Ct m_X9_ofKind X0 [.ref 14, .int k] (HP K.1 K.2 s L e) (fun rv h => rv = some (.int (nI (cnK c k N))) ∧ h = HP K.1 K.2 s L e) := by
  have hN := h4.1.2.1
  refine ⟨ok_X9_ofKind, ?_⟩
  refine Rch.go rfl ?_
  refine Rch.for N (fun n => (11, [(0, .ref 14), (1, .int k), (2, .int (nI (cnK c k n))), (3, .int (nI n))], [.int 58, .ref 15, .int (nI n)], HP K.1 K.2 s L e, 0, 0)) (fun n hn => ?_) ?_ 0 (by omega)
  · refine Rch.ia (j := 58) rfl rfl rfl rfl (by decide) (by decide) ?_
    rw [h4.2.1]
    refine Rch.i_ge rfl (fun z => absurd z (lo_in hn (by omega))) (fun _ => ?_)
    refine Rch.go rfl ?_
    refine Rch.ia rfl rfl rfl (i59 n) (by omega) (by decide) ?_
    rw [(h4.2.2 n hn).1]
    refine Rch.go rfl ?_
    refine Rch.i_ne rfl (fun z => ?_) (fun z => ?_)
    · refine Rch.go rfl (Rch.rf ?_)
      rw [nI_1 n, show cnK c k (n + 1) = _ from if_pos z, ← nI_1 (cnK c k n)]
      rfl
    · refine Rch.go rfl (Rch.rf ?_)
      rw [nI_1, Int32.add_zero, show cnK c k (n + 1) = _ from if_neg z]
      rfl
  · refine Rch.ia (j := 58) rfl rfl rfl rfl (by decide) (by decide) ?_
    rw [h4.2.1]
    refine Rch.i_ge rfl (fun _ => ?_) (fun z => absurd (lo_out (by omega)) z)
    refine Rch.go rfl ?_
    exact Rch.ri rfl rfl rfl (by decide) (by decide) ⟨rfl, rfl⟩
theorem t_X9_strike (c : FA) (K : FA × KS) (s bf kp : FA) (ik : Int32) (tx : FA) (ty : Int32) (F : F4) (e : AH) {q : Nat} (hq : q ≤ 4) {B N : Nat} (h : RR 0 B N c s) (hB : B < 2 ^ 27) (k : Int32) : Ct m_X9_strike X0 [.ref 14, .int k] (HP K.1 K.2 s (bf, nI q, kp, ik, tx, ty, F) e) (RA K s bf kp ik tx ty e q B (stq c k N)) := by
  have h4 := h.2.2.2.1
  have hN := h4.1.2.1
  refine ⟨ok_X9_strike, ?_⟩
  refine Rch.go rfl ?_
  refine Rch.call 1 (t_X9_in _ _ _ _) rfl rfl g_X9_22 om_X9_in rfl (fun _ _ _ q => q) rfl rfl rfl rfl ⟨rfl, rfl⟩ ⟨by decide, by decide⟩ (fun _ _ q => by obtain ⟨_, rfl⟩ := q; first | with_reducible rfl | (rw [HP_len, HP_len]; done) | rw [HP_len, HP_len, uO_len, uO_len]) (fun rv9 h9 q9 => ?_)
  obtain ⟨rfl, rfl⟩ := q9
  refine Rch.z_ne rfl (fun z => ?_) (fun z => ?_)
  · rw [show stq c k N = _ from if_pos (i0 z)]
    refine Rch.go rfl ?_
    exact Rch.ri rfl rfl rfl (by decide) (by decide) ⟨rfl, F, Or.inl ⟨rfl, rfl⟩⟩
  have w := i1 z
  refine Rch.go rfl ?_
  refine Rch.call 0 (t_X9_ofKind c K s _ e k h4) rfl rfl g_X9_95 om_X9_ofKind rfl (fun _ _ _ q => q) rfl rfl rfl rfl ⟨rfl, rfl⟩ ⟨by decide, by decide⟩ (fun _ _ q => by obtain ⟨_, rfl⟩ := q; first | with_reducible rfl | (rw [HP_len, HP_len]; done) | rw [HP_len, HP_len, uO_len, uO_len]) (fun rv9 h9 q9 => ?_)
  obtain ⟨rfl, rfl⟩ := q9
  have hle := stk_le c k N
  have hcn := cnK_stk c k N hN
  refine Rch.go rfl ?_
  refine Rch.z_ne rfl (fun z1 => ?_) (fun z1 => ?_)
  · have e0 : cnK c k N = 0 := (nI_eq (by omega) (by decide)).mp (show nI (cnK c k N) = nI 0 from z1)
    rw [show stq c k N = (-1005, none) by unfold stq; rw [if_neg (fun q => q w), if_pos ((cnK_has c k N).mp e0)]]
    refine Rch.go rfl ?_
    exact Rch.ri rfl rfl rfl (by decide) (by decide) ⟨rfl, F, Or.inl ⟨rfl, rfl⟩⟩
  have e0 : ¬ cnK c k N = 0 := fun q => z1 (by rw [q]; rfl)
  rw [show stq c k N = (nI (cnK c k N), some (upd (stk c k N).1 155 (nI (stk c k N).2))) by unfold stq; rw [if_neg (fun q => q w), if_neg (fun q => e0 ((cnK_has c k N).mpr q)), nI_sub hle, show N - (stk c k N).2 = cnK c k N by omega]]
  refine Rch.go rfl ?_
  refine Rch.call 0 (t_X9_know K s bf (kp, ik, tx, ty, F) e hq) rfl rfl g_X9_79 om_X9_know rfl (fun _ _ _ q => q) rfl rfl rfl rfl ⟨rfl, rfl⟩ ⟨by decide, by decide⟩ (fun _ _ q => by obtain ⟨_, rfl⟩ := q; first | with_reducible rfl | (rw [HP_len, HP_len]; done) | rw [HP_len, HP_len, uO_len, uO_len]) (fun rv9 h9 q9 => ?_)
  obtain ⟨rfl, rfl⟩ := q9
  refine Rch.go rfl ?_
  refine Rch.ia (j := 58) rfl rfl rfl rfl (by decide) (by decide) ?_
  rw [h4.2.1]
  refine Rch.go rfl ?_
  refine Rch.forE N (fun m τ => ∃ s' M A C, lS s N = A ++ C ∧ A.length = N - m ∧ s' 58 = nI M ∧ lS s' M = A ++ C.filter (nk k) ∧ M = A.length + (C.filter (nk k)).length ∧ (∀ i, i < 58 ∨ 82 < i → s' i = s i) ∧ τ = (42, [(0, .ref 14), (1, .int k), (2, .int (nI (cnK c k N))), (3, .int (nI (N - m) - 1))], [.int (nI (N - m) - 1)], HP K.1 K.2 s' (knb s bf q, nI (kq q), kp, ik, tx, ty, F) e, 0, 0)) ?_ ?_ 0 (by omega) _ ⟨s, N, lS s N, [], (List.append_nil _).symm, lS_len s N, h4.2.1, (List.append_nil _).symm, by rw [lS_len]; rfl, fun _ _ => rfl, rfl⟩
  · rintro m hm τ ⟨s', M, A, C, a1, a2, a3, a4, a5, a6, rfl⟩
    obtain ⟨A', x, rfl⟩ : ∃ A' x, A = A' ++ [x] := by
      cases hA : A.reverse with
      | nil => rw [List.reverse_eq_nil_iff] at hA; rw [hA] at a2; simp at a2; omega
      | cons x l => exact ⟨l.reverse, x, by rw [← List.reverse_reverse A, hA, List.reverse_cons]⟩
    have la : A'.length = N - (m + 1) := by simp at a2; omega
    have e1 : N - m = N - (m + 1) + 1 := by omega
    rw [e1, nI_pred]
    generalize hr : N - (m + 1) = r at *
    have lC' := List.length_filter_le (nk k) C
    have l0 : (A' ++ [x] ++ C).length = N := by rw [← a1, lS_len]
    simp only [List.length_append, List.length_cons, List.length_nil] at a5 l0
    refine Rch.z_lt rfl (fun z => absurd z (nI_pos (by omega))) (fun _ => ?_)
    refine Rch.go rfl ?_
    refine Rch.ia rfl rfl rfl (i59 r) (by omega) (by decide) ?_
    have ex : s' (59 + 2 * r) = x.1 := by
      have e2 : (lS s' M)[r]? = (A' ++ [x] ++ C.filter (nk k))[r]? := by rw [a4]
      rw [lS_get (by omega), List.append_assoc, List.getElem?_append_right (by omega), show r - A'.length = 0 by omega] at e2
      exact congrArg Prod.fst (Option.some.inj e2)
    rw [ex]
    refine Rch.go rfl ?_
    refine Rch.i_ne rfl (fun z => ?_) (fun z => ?_)
    · refine Rch.go rfl ?_
      obtain ⟨M', rfl⟩ : ∃ M', M = M' + 1 := ⟨M - 1, by omega⟩
      refine Rch.call 0 (t_X9_strikeAt c K s' _ e rfl a3 (by omega) (by omega)) rfl rfl g_X9_98 om_X9_strikeAt rfl (fun _ _ _ q => q) rfl rfl rfl rfl ⟨rfl, rfl⟩ ⟨by decide, by decide⟩ (fun _ _ q => by obtain ⟨_, rfl⟩ := q; first | with_reducible rfl | (rw [HP_len, HP_len]; done) | rw [HP_len, HP_len, uO_len, uO_len]) (fun rv9 h9 q9 => ?_)
      obtain ⟨rfl, rfl⟩ := q9
      refine Rch.go rfl (Rch.rf ⟨sAt s' M' r, M', A', x :: C, by rw [a1, List.append_assoc]; rfl, la, ?_, ?_, ?_, ?_, ?_⟩)
      · unfold sAt sAm; rw [if_pos rfl]
      · rw [sAt_l (by omega), a4, List.filter_cons_of_neg (by simp [nk, z]), List.append_assoc, List.eraseIdx_append_of_length_le (by omega), show r - A'.length = 0 by omega]
        rfl
      · rw [List.filter_cons_of_neg (by simp [nk, z])]; omega
      · intro i hi
        rw [sAt_o (by omega) hi]
        exact a6 i hi
      · rw [Int32.sub_eq_add_neg]; rfl
    · refine Rch.go rfl (Rch.rf ⟨s', M, A', x :: C, by rw [a1, List.append_assoc]; rfl, la, a3, ?_, ?_, a6, ?_⟩)
      · rw [a4, List.filter_cons_of_pos (by simp [nk, z]), List.append_assoc]; rfl
      · rw [List.filter_cons_of_pos (by simp [nk, z]), List.length_cons]; omega
      · rw [Int32.sub_eq_add_neg]; rfl
  · rintro τ ⟨s', M, A, C, a1, a2, a3, a4, a5, a6, rfl⟩
    rw [Nat.sub_self] at a2 ⊢
    obtain rfl := List.eq_nil_of_length_eq_zero a2
    refine Rch.z_lt rfl (fun _ => ?_) (fun z => absurd (by decide) z)
    refine Rch.go rfl ?_
    have sl := stk_l c k N hN
    have eC : C = lC c N := by rw [← lSC h4.2.2, a1]; rfl
    have eM : M = (stk c k N).2 := by rw [← lC_len (stk c k N).1 (stk c k N).2, sl.1, ← eC, a5]; simp
    have eL : lS s' M = lC (stk c k N).1 (stk c k N).2 := by rw [a4, sl.1, eC]; rfl
    have ec : lC (upd (stk c k N).1 155 (nI (stk c k N).2)) (stk c k N).2 = lC (stk c k N).1 (stk c k N).2 := lC_congr (fun p hp => ⟨pk_un (by omega), pk_un (by omega)⟩)
    exact Rch.ri rfl rfl rfl (by decide) (by decide) ⟨rfl, F, Or.inr ⟨_, _, _, rfl, (h.row (N' := (stk c k N).2) (fun j hj => by rw [pk_un (by omega)]; exact sl.2.1 j (by omega)) a6 ⟨rowok_l pk_us (by omega) (fun x hx => by rw [ec, sl.1] at hx; exact rowok_m h4.1 x (List.mem_filter.mp hx).1), by rw [a3, eM], fun p hp => lSC_at (by rw [ec, ← eL, eM]) hp⟩).mono (by omega), rfl⟩⟩
end ME
