/-! ===== orders worked off; soundings ===== -/
theorem emp_cg {c d : FA} {x : Int32} : ∀ n, (∀ j, j < n → d j = c j) → emp d x n = emp c x n
  | 0, _ => rfl
  | n + 1, h => by
    have ih := emp_cg (x := x) n (fun j hj => h j (by omega))
    unfold emp
    rw [ih]
    cases e : emp c x n with
    | none => rfl
    | some k =>
      have hk := emp_lt e
      dsimp only
      rw [h k (by omega), h n (by omega)]
theorem ful_cg {c d : FA} {x : Int32} : ∀ n, (∀ j, j < n → d j = c j) → ful d x n = ful c x n
  | 0, _ => rfl
  | n + 1, h => by
    have ih := ful_cg (x := x) n (fun j hj => h j (by omega))
    unfold ful
    rw [ih]
    cases e : ful c x n with
    | none => rfl
    | some k =>
      have hk := ful_lt e
      dsimp only
      rw [h k (by omega), h n (by omega)]
theorem opn_cg {c d : FA} : ∀ n, n ≤ 5 → (∀ j, 118 ≤ j → j < 128 → d j = c j) → opn d n = opn c n
  | 0, _, _ => rfl
  | n + 1, hn, h => by
    unfold opn
    rw [opn_cg n (by omega) h, h (123 + n) (by omega) (by omega), h (118 + n) (by omega) (by omega)]
theorem wgt_cg {c d : FA} (h : ∀ j, j < 131 → d j = c j) : wgt d = wgt c := by
  rw [wgt_pz, wgt_pz, show pzT d = pzT c from fs_cong 8 (fun k hk => h k (by omega)), show pzL d = pzL c from fs_cong 3 (fun k hk => h (112 + k) (by omega))]
theorem rsn_cg {c d : FA} {k b : Nat} (hb : k < 2 → b < 5) (h : ∀ j, j < 131 → d j = c j) : rsn d k b = rsn c k b := by
  have e1 := opn_cg (c := c) (d := d) 5 (by decide) (fun j _ hj => h j (by omega))
  have e2 : ∀ x, emp d x 8 = emp c x 8 := fun x => emp_cg 8 (fun j hj => h j (by omega))
  have e3 : ∀ x, ful d x 8 = ful c x 8 := fun x => ful_cg 8 (fun j hj => h j (by omega))
  have t1 : ∀ x, tfi d x = tfi c x := by
    intro x
    unfold tfi
    rw [e2]
    cases e : emp c x 8 with
    | none => rfl
    | some i =>
      have := emp_lt e
      dsimp only
      rw [h i (by omega), wgt_cg h, h 130 (by decide)]
  have t2 : ∀ x, tem d x = tem c x := by
    intro x
    unfold tem
    rw [e3]
    cases e : ful c x 8 with
    | none => rfl
    | some i =>
      have := ful_lt e
      dsimp only
      rw [h i (by omega)]
  have t3 : ∀ x, tlo d x = tlo c x := by
    intro x
    unfold tlo
    rw [e3, e2]
    cases e : ful c x 8 with
    | none => rfl
    | some i =>
      have := ful_lt e
      cases f : emp c x 8 with
      | none => rfl
      | some t =>
        have := emp_lt f
        dsimp only
        rw [h i (by omega), h t (by omega)]
  unfold rsn
  by_cases hk : k < 2
  · rw [if_pos hk, if_pos hk, h (123 + b) (by have := hb hk; omega)]
  · rw [if_neg hk, if_neg hk, e1, t1, t2, t3]
theorem rsn_bd (c : FA) (k b : Nat) : 0 ≤ (rsn c k b).toInt ∧ (rsn c k b).toInt ≤ 5 := by
  unfold rsn
  repeat' split
  all_goals decide
/-- the first order is worked off: what is so behind it -/
theorem wof_A {B N k b r : Nat} {c : FA} (h : Gdz B c) (hR : RowOk c N) (h0 : 0 < N) (hk : k < 5) (hb : k < 2 → b < 5) (h6 : b ≤ 60) :
    Gdz (B + 60) (wof c N k b r) ∧ RowOk (wof c N k b r) (N - 1) ∧ wof c N k b r 156 = c 156 + (if rsn c k b = 0 ∧ 2 ≤ k then nI b else 0) ∧ (∃ l, l ≤ 180 ∧ wof c N k b r 161 = c 161 + nI l) ∧ wof c N k b r 160 = c 160 + (if rsn c k b = 0 then 0 else 1) ∧ (k < 2 → wof c N k b r (123 + b) = if k = 0 then 1 else 0) ∧ (k = 4 → pzT (wof c N k b r) + lostS (wof c N k b r) = pzT c + lostS c) ∧ (k = 2 → dpz c → dpz (wof c N k b r)) := by
  have hN := hR.2.1
  have hw : ∀ j, j < 131 ∨ 155 < j → tko c N j = c j := fun j hj => tko_fx hN hj
  have t := rowok_tko hR h0
  have ht : Gdz B (tko c N) := h.row hw t
  have eT : pzT (tko c N) = pzT c := fs_cong 8 (fun k hk => hw k (by omega))
  have eS : lostS (tko c N) = lostS c := fs_cong 8 (fun k hk => hw (16 + k) (by omega))
  have eR : rsn (tko c N) k b = rsn c k b := rsn_cg hb (fun j hj => hw j (by omega))
  have e0 : (0 : Int32) = nI 0 := rfl
  have hz : ∀ v : Int32, v = v + nI 0 := fun v => (Int32.add_zero v).symm
  have hd : dpz c → dpz (tko c N) := by
    unfold dpz
    rw [wgt_cg (c := c) (d := tko c N) (fun j hj => hw j (by omega)), hw 130 (by decide)]
    exact fun q => q
  unfold wof
  rw [eR]
  generalize tko c N = d at *
  by_cases z : rsn c k b = 0
  · rw [if_pos z]
    by_cases z2 : k < 2
    · have hb5 := hb z2
      have hv : (if k = 0 then (1 : Int32) else 0).toInt = 0 ∨ (if k = 0 then (1 : Int32) else 0).toInt = 1 := by split <;> decide
      rw [if_pos z2, if_neg (show ¬ (rsn c k b = 0 ∧ 2 ≤ k) from fun q => by have := q.2; omega), if_pos z]
      refine ⟨(ht.up (by omega) (by omega) (by omega) ?_).mono (by omega), t.cg (fun j h1 h2 => pk_un (by omega)), ?_, ⟨0, by decide, ?_⟩, ?_, fun _ => pk_us, fun q => by omega, fun q => by omega⟩
      · rw [pzR_123 hb5]; show 0 ≤ Int32.toInt _ ∧ Int32.toInt _ ≤ 1; omega
      · rw [pk_un (by omega), hw 156 (by omega)]; exact hz _
      · rw [pk_un (by omega), hw 161 (by omega)]; exact hz _
      · rw [pk_un (by omega), hw 160 (by omega)]; exact hz _
    · rw [if_neg z2, if_pos (show rsn c k b = 0 ∧ 2 ≤ k from ⟨z, by omega⟩), if_pos z]
      have G := mns_G ht (m := nI k) (x := opn d 5) (r := r) b
      have J := mns_J (m := nI k) (x := opn d 5) (r := r) ht.1 b
      obtain ⟨l, hl, e⟩ := mns_161 (nI k) (opn d 5) r d b
      refine ⟨G.mono (by omega), t.cg (fun j h1 h2 => mns_fx (by unfold fx; omega) b), ?_, ⟨l, by omega, ?_⟩, ?_, fun q => absurd q z2, fun q => ?_, fun q w => ?_⟩
      · rw [mns_156, hw 156 (by omega)]
      · rw [e, hw 161 (by omega)]
      · rw [mns_fx (by unfold fx; omega) b, hw 160 (by omega)]; exact hz _
      · rw [← eT, ← eS]; exact J.2.2.1 (by subst q; rfl)
      · exact J.2.2.2 (by subst q; rfl) (hd w)
  · rw [if_neg z, if_neg (show ¬ (rsn c k b = 0 ∧ 2 ≤ k) from fun q => z q.1), if_neg z]
    have hu : ∀ j, j ≠ 160 → ad d 160 1 j = d j := fun j hj => pk_un hj
    have hG : Gdz B (ad d 160 1) := by
      obtain ⟨g1, g2, ⟨N', g3⟩, ⟨M, g4, g5⟩, S, g6, g7⟩ := ht
      exact ⟨g1.fr (by unfold pzF; omega), g2.cg (fun i hi => hu i (by omega)), ⟨N', g3.cg (fun i a1 a2 => hu i (by omega))⟩, ⟨M, g4, (hu 156 (by omega)).trans g5⟩, S, g6, (hu 161 (by omega)).trans g7⟩
    refine ⟨hG.mono (by omega), t.cg (fun j h1 h2 => hu j (by omega)), ?_, ⟨0, by decide, ?_⟩, ?_, fun q => ?_, fun q => ?_, fun q w => ?_⟩
    · rw [hu 156 (by decide), hw 156 (by omega)]; exact hz _
    · rw [hu 161 (by decide), hw 161 (by omega)]; exact hz _
    · unfold ad; rw [pk_us, hw 160 (by omega)]
    · have hb5 := hb q
      rw [hu _ (by omega), hw _ (by omega)]
      unfold rsn at z
      rw [if_pos q] at z
      by_cases y : c (123 + b) = if k = 0 then 1 else 0
      · exact y
      · rw [if_neg y] at z; exact absurd rfl z
    · rw [show pzT (ad d 160 1) = pzT d from fs_cong 8 (fun k hk => hu k (by omega)), show lostS (ad d 160 1) = lostS d from fs_cong 8 (fun k hk => hu (16 + k) (by omega)), eT, eS]
    · have := hd w
      unfold dpz at this ⊢
      rw [wgt_cg (c := d) (fun j hj => hu j (by omega)), hu 130 (by decide)]
      exact this
theorem wf_A {B N : Nat} {c : FA} (h : Gdz B c) (hR : RowOk c N) : Gdz (B + 60) (wf c) ∧ RowOk (wf c) (N - 1) ∧ (∃ i, i ≤ 60 ∧ wf c 156 = c 156 + nI i) ∧ (∃ l, l ≤ 180 ∧ wf c 161 = c 161 + nI l) ∧ ∃ v, v ≤ 1 ∧ wf c 160 = c 160 + nI v := by
  have hN := hR.2.1
  have hz : ∀ v : Int32, v = v + nI 0 := fun v => (Int32.add_zero v).symm
  have n1 : ix (c 155) = N := by rw [hR.1]; exact ix_nI (by omega)
  unfold wf
  rw [n1]
  by_cases z : N = 0
  · rw [if_pos z]
    exact ⟨h.mono (by omega), by rw [show N - 1 = N by omega]; exact hR, ⟨0, by decide, hz _⟩, ⟨0, by decide, hz _⟩, 0, by decide, hz _⟩
  · rw [if_neg z]
    obtain ⟨k, b, e1, e2, e3, e4, e5, e6⟩ := hR.2.2 0 (by omega)
    have n2 : ix (c 131) = k := by rw [show c 131 = nI k from e1]; exact ix_nI (by omega)
    have n3 : ix (c 143) = b := by rw [show c 143 = nI b from e2]; exact ix_nI (by omega)
    rw [n2, n3]
    obtain ⟨a1, a2, a3, a4, a5, -⟩ := wof_A (r := ix (c 128)) h hR (by omega) e3 e4 e6
    refine ⟨a1, a2, ?_, a4, ?_⟩
    · by_cases y : rsn c k b = 0 ∧ 2 ≤ k
      · rw [if_pos y] at a3; exact ⟨b, e6, a3⟩
      · rw [if_neg y] at a3; exact ⟨0, by decide, a3⟩
    · by_cases y : rsn c k b = 0
      · rw [if_pos y] at a5; exact ⟨0, by decide, a5⟩
      · rw [if_neg y] at a5; exact ⟨1, by decide, a5⟩
theorem wfs_A {B N : Nat} {c : FA} (h : Gdz B c) (hR : RowOk c N) : ∀ n, Gdz (B + 60 * n) (wfs c n) ∧ RowOk (wfs c n) (N - n) ∧ (∃ i, i ≤ 60 * n ∧ wfs c n 156 = c 156 + nI i) ∧ (∃ l, l ≤ 180 * n ∧ wfs c n 161 = c 161 + nI l) ∧ ∃ v, v ≤ n ∧ wfs c n 160 = c 160 + nI v
  | 0 => ⟨h.mono (by omega), hR, ⟨0, by decide, (Int32.add_zero _).symm⟩, ⟨0, by decide, (Int32.add_zero _).symm⟩, 0, by decide, (Int32.add_zero _).symm⟩
  | n + 1 => by
    obtain ⟨a1, a2, ⟨i, a3, a4⟩, ⟨l, a5, a6⟩, v, a7, a8⟩ := wfs_A h hR n
    obtain ⟨b1, b2, ⟨i2, b3, b4⟩, ⟨l2, b5, b6⟩, v2, b7, b8⟩ := wf_A a1 a2
    refine ⟨b1.mono (by omega), by rw [show N - (n + 1) = N - n - 1 by omega]; exact b2, ⟨i + i2, by omega, ?_⟩, ⟨l + l2, by omega, ?_⟩, v + v2, by omega, ?_⟩
    · show wf (wfs c n) 156 = _; rw [b4, a4, Int32.add_assoc, nI_add]
    · show wf (wfs c n) 161 = _; rw [b6, a6, Int32.add_assoc, nI_add]
    · show wf (wfs c n) 160 = _; rw [b8, a8, Int32.add_assoc, nI_add]
theorem wrk_A {B N : Nat} {c : FA} (h : Gdz B c) (hR : RowOk c N) {o : Int32} (ho : 1 ≤ o ∧ o ≤ 12) : AOz B c (wrk c o) := by
  obtain ⟨j, hj, rfl⟩ := rng (n := 12) rfl (by decide) ⟨Int32.le_trans (by decide) ho.1, ho.2⟩
  have ej : ix (nI j) = j := ix_nI (by omega)
  unfold wrk
  rw [if_neg (fun q => q ho), ej]
  split
  · exact AOz.none (Or.inr (Or.inr (Or.inr rfl)))
  · obtain ⟨a1, a2, ⟨i, a3, a4⟩, ⟨l, a5, a6⟩, v, a7, a8⟩ := wfs_A h hR j
    refine ⟨Or.inl ?_, fun d q => ?_⟩
    · show -1000 ≤ (wfs c j 160 - c 160).toInt
      rw [a8, show c 160 + nI v - c 160 = nI v by grind, nI_toInt (by omega)]
      omega
    · cases q
      exact ⟨a1.mono (by omega), i, l, by omega, by omega, a4, a6⟩
/-! soundings -/
theorem snd_lo {c : FA} {t j : Nat} (ht : t < 8) (h : j < 32 ∨ 112 ≤ j) : snd9 c t j = c j := by
  unfold snd9 sn3 sn2 sn1 sq
  repeat rw [pk_un (by omega)]
theorem sn3_lo {c : FA} {t j : Nat} (ht : t < 8) (h : j < 40 ∨ 112 ≤ j) : sn3 c t j = c j := by
  unfold sn3 sn2 sn1 sq
  repeat rw [pk_un (by omega)]
theorem snd_ks {c : FA} {t : Nat} (ht : t < 8) : snd9 c t (32 + t) = if 3 < c (32 + t) + 1 then 3 else c (32 + t) + 1 := by
  unfold snd9
  rw [pk_us, sn3_lo ht (by omega)]
theorem snd_0 {c : FA} {t : Nat} (ht : t < 8) : snd9 c t (40 + (t * 3 + 0)) = c 156 ∧ snd9 c t (64 + (t * 3 + 0)) = c t ∧ snd9 c t (88 + (t * 3 + 0)) = c (24 + t) := by
  have e1 : ∀ j, j < 40 ∨ 112 ≤ j → sn2 c t j = c j := by
    intro j hj
    unfold sn2 sn1 sq
    repeat rw [pk_un (by omega)]
  unfold snd9 sn3
  rw [e1 156 (by omega), e1 t (by omega), e1 (24 + t) (by omega)]
  unfold sq
  refine ⟨?_, ?_, ?_⟩
  · rw [pk_un (by omega), pk_un (by omega), pk_un (by omega), pk_us]
  · rw [pk_un (by omega), pk_un (by omega), pk_us]
  · rw [pk_un (by omega), pk_us]
theorem snd_1 {c : FA} {t : Nat} (ht : t < 8) : snd9 c t (40 + (t * 3 + 1)) = c (40 + (t * 3 + 0)) ∧ snd9 c t (64 + (t * 3 + 1)) = c (64 + (t * 3 + 0)) ∧ snd9 c t (88 + (t * 3 + 1)) = c (88 + (t * 3 + 0)) := by
  have e1 : ∀ j, j = 40 + (t * 3 + 0) ∨ j = 64 + (t * 3 + 0) ∨ j = 88 + (t * 3 + 0) → sn1 c t j = c j := by
    intro j hj
    unfold sn1 sq
    repeat rw [pk_un (by omega)]
  unfold snd9 sn3
  generalize sn2 c t 156 = x1
  generalize sn2 c t t = x2
  generalize sn2 c t (24 + t) = x3
  unfold sn2
  rw [e1 (40 + (t * 3 + 0)) (by omega), e1 (64 + (t * 3 + 0)) (by omega), e1 (88 + (t * 3 + 0)) (by omega)]
  unfold sq
  refine ⟨?_, ?_, ?_⟩
  · rw [pk_un (by omega), pk_un (by omega), pk_un (by omega), pk_un (by omega), pk_un (by omega), pk_un (by omega), pk_us]
  · rw [pk_un (by omega), pk_un (by omega), pk_un (by omega), pk_un (by omega), pk_un (by omega), pk_us]
  · rw [pk_un (by omega), pk_un (by omega), pk_un (by omega), pk_un (by omega), pk_us]
theorem snd_G {B t : Nat} {c : FA} (h : Gdz B c) (ht : t < 8) : Gdz B (snd9 c t) := by
  obtain ⟨g1, g2, ⟨N, g3⟩, ⟨M, g4, g5⟩, S, g6, g7⟩ := h
  refine ⟨?_, g2.cg (fun j hj => snd_lo ht (by omega)), ⟨N, g3.cg (fun j h1 h2 => snd_lo ht (by omega))⟩, ⟨M, g4, (snd_lo ht (by omega)).trans g5⟩, S, g6, (snd_lo ht (by omega)).trans g7⟩
  have h3 : Rgz (sn3 c t) := g1.low (fun j hj hf => sn3_lo ht (by unfold pzF at hf; omega))
  unfold snd9
  refine h3.up ?_
  have hk := g1.s ht
  rw [pzR_32 ht, sn3_lo ht (by omega)]
  have e1 : (c (32 + t) + 1).toInt = (c (32 + t)).toInt + 1 := by rw [pzA (by rw [show (1 : Int32).toInt = 1 from rfl]; omega) (by rw [show (1 : Int32).toInt = 1 from rfl]; omega)]; rfl
  split
  · decide
  · next z =>
    rw [Int32.lt_iff_toInt_lt, e1, show (3 : Int32).toInt = 3 from rfl] at z
    show 0 ≤ (c (32 + t) + 1).toInt ∧ (c (32 + t) + 1).toInt ≤ 3
    omega
theorem sou_A {B : Nat} {c : FA} (h : Gdz B c) {t : Int32} (ht : 0 ≤ t ∧ t ≤ 7) : AOz B c (sou c t) := by
  obtain ⟨j, hj, rfl⟩ := rng (n := 7) rfl (by decide) ht
  have ej : ix (nI j) = j := ix_nI (by omega)
  unfold sou
  rw [if_neg (fun q => q ht), ej]
  refine AOz.same ?_ (snd_G h (by omega)) (snd_lo (by omega) (by omega)) (snd_lo (by omega) (by omega))
  rw [snd_lo (by omega) (by omega)]
  have := h.1.w (show j < 8 by omega)
  omega
