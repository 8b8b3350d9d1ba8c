/-! ===== the barge's own methods: the rest ===== -/
def RowOk (c : FA) (N : Nat) : Prop := c 155 = nI N ∧ N ≤ 12 ∧ ∀ p, p < N → ∃ k b : Nat, c (131 + p) = nI k ∧ c (143 + p) = nI b ∧ k < 5 ∧ (k < 2 → b < 5) ∧ (2 ≤ k → 1 ≤ b) ∧ b ≤ 60
/-- the cells that no minute changes -/
def fx (j : Nat) : Prop := (8 ≤ j ∧ j < 16) ∨ (32 ≤ j ∧ j < 115) ∨ (118 ≤ j ∧ j < 156) ∨ j = 160
theorem ad_ne {c : FA} {k j : Nat} {v : Int32} (h : j ≠ k) : ad c k v j = c j := pk_un h
theorem mvb_fx {c : FA} {k j : Nat} {u : Int32} (hk : k < 8) (h : fx j) : mvb c k u j = c j := by
  unfold fx at h
  unfold mvb
  rw [ad_ne (by omega), ad_ne (by omega)]
theorem mvu_fx {m x : Int32} {c d : FA} {j : Nat} (h : fx j) (hd : mvu m c x = some d) : d j = c j := by
  have h' := h
  unfold fx at h'
  unfold mvu at hd
  split at hd
  · unfold mfu at hd
    split at hd
    · cases hd
    · next k hk => cases hd; rw [ad_ne (by omega), mvb_fx (tfi_lt hk) h]
  · split at hd
    · unfold meu at hd
      split at hd
      · cases hd
      · next k hk => cases hd; rw [ad_ne (by omega), mvb_fx (tem_lt hk) h]
    · split at hd
      · unfold mlu at hd
        split at hd
        · cases hd
        · next f hf =>
          split at hd
          · cases hd
          · next t ht => cases hd; rw [ad_ne (by omega), mvb_fx (emp_lt ht) h, mvb_fx (tlo_lt hf) h]
      · cases hd
theorem pmp_fx {m x : Int32} {j : Nat} (h : fx j) : ∀ (d : Nat) (c : FA), pmp m x d c j = c j
  | 0, c => rfl
  | d + 1, c => by
    cases hv : mvu m c x with
    | none =>
      have e1 : pmp m x (d + 1) c = c := by show (match mvu m c x with | some c' => pmp m x d c' | none => c) = _; rw [hv]
      rw [e1]
    | some c' =>
      have e1 : pmp m x (d + 1) c = pmp m x d c' := by show (match mvu m c x with | some c' => pmp m x d c' | none => c) = _; rw [hv]
      rw [e1, pmp_fx h d c', mvu_fx h hv]
theorem lk_fx {c : FA} {j : Nat} (h : fx j) : ∀ n, n ≤ 8 → lk c n j = c j
  | 0, _ => rfl
  | n + 1, hn => by
    have h' := h
    unfold fx at h'
    unfold lk
    rw [ad_ne (by omega), ad_ne (by omega), lk_fx h n (by omega)]
theorem shl_fx {c : FA} {st : Int32} {j : Nat} (h : fx j) : ∀ n, n ≤ 3 → shl c st n j = c j
  | 0, _ => rfl
  | n + 1, hn => by
    have h' := h
    unfold fx at h'
    unfold shl
    split
    · rw [ad_ne (by omega), pk_un (by omega), shl_fx h n (by omega)]
    · exact shl_fx h n (by omega)
theorem shf_fx {c : FA} {j : Nat} (h : fx j) : shf c j = c j := by
  unfold shf
  split
  · exact shl_fx h 3 (Nat.le_refl 3)
  · rfl
theorem mnt_fx {m x : Int32} {r : Nat} {c : FA} {j : Nat} (h : fx j) : mnt m x r c j = c j := by
  have h' := h
  unfold fx at h'
  unfold mnt
  rw [shf_fx h]
  unfold lkm
  split
  · rw [lk_fx h 8 (Nat.le_refl 8), pmp_fx h, ad_ne (by omega)]
  · rw [pmp_fx h, ad_ne (by omega)]
theorem mns_fx {m x : Int32} {r : Nat} {c : FA} {j : Nat} (h : fx j) : ∀ n, mns m x r c n j = c j
  | 0 => rfl
  | n + 1 => by
    show mnt m x r (mns m x r c n) j = c j
    rw [mnt_fx h, mns_fx h n]
theorem tkf_at (c : FA) : ∀ q j, q ≤ 11 → tkf c q j = if (131 ≤ j ∧ j < 131 + q) ∨ (143 ≤ j ∧ j < 143 + q) then c (j + 1) else c j
  | 0, j, _ => by rw [if_neg (by omega)]; rfl
  | q + 1, j, hq => by
    have ih := fun j => tkf_at c q j (by omega)
    show upd (upd (tkf c q) (131 + q) (tkf c q (131 + (q + 1)))) (143 + q) (tkf c q (143 + (q + 1))) j = _
    by_cases h1 : j = 143 + q
    · subst h1
      rw [pk_us, ih, if_neg (by omega), if_pos (by omega)]
      rfl
    · rw [pk_un h1]
      by_cases h2 : j = 131 + q
      · subst h2
        rw [pk_us, ih, if_neg (by omega), if_pos (by omega)]
        rfl
      · rw [pk_un h2, ih]
        by_cases h3 : (131 ≤ j ∧ j < 131 + q) ∨ (143 ≤ j ∧ j < 143 + q)
        · rw [if_pos h3, if_pos (by omega)]
        · rw [if_neg h3, if_neg (by omega)]
theorem tko_fx {c : FA} {N j : Nat} (hN : N ≤ 12) (h : j < 131 ∨ 155 < j) : tko c N j = c j := by
  unfold tko
  rw [pk_un (by omega), tkf_at c _ _ (by omega), if_neg (by omega)]
theorem rowok_tko {c : FA} {N : Nat} (h : RowOk c N) (h0 : 0 < N) : RowOk (tko c N) (N - 1) := by
  obtain ⟨h1, h2, h3⟩ := h
  refine ⟨?_, by omega, fun p hp => ?_⟩
  · unfold tko
    rw [pk_us]
    exact nI_sub (b := 1) h0
  · obtain ⟨k, b, e1, e2, e3⟩ := h3 (p + 1) (by omega)
    refine ⟨k, b, ?_, ?_, e3⟩
    · unfold tko
      rw [pk_un (by omega), tkf_at c _ _ (by omega), if_pos (by omega)]
      exact e1
    · unfold tko
      rw [pk_un (by omega), tkf_at c _ _ (by omega), if_pos (by omega)]
      exact e2
theorem RowOk.congr {c d : FA} {N : Nat} (h : RowOk c N) (hd : ∀ j, 131 ≤ j → j ≤ 155 → d j = c j) : RowOk d N := by
  obtain ⟨h1, h2, h3⟩ := h
  refine ⟨by rw [hd 155 (by decide) (by decide)]; exact h1, h2, fun p hp => ?_⟩
  obtain ⟨k, b, e1, e2, e3⟩ := h3 p hp
  exact ⟨k, b, by rw [hd _ (by omega) (by omega)]; exact e1, by rw [hd _ (by omega) (by omega)]; exact e2, e3⟩
/-- the first order is done, if there is one -/
def wf (c : FA) : FA := if ix (c 155) = 0 then c else wof c (ix (c 155)) (ix (c 131)) (ix (c 143)) (ix (c 128))
def wfs (c : FA) : Nat → FA
  | 0 => c
  | n + 1 => wf (wfs c n)
theorem wof_fx {c : FA} {N k b r : Nat} (hN : N ≤ 12) (hb : k < 2 → b < 5) {j : Nat} (h : j = 128 ∨ (131 ≤ j ∧ j ≤ 155)) : wof c N k b r j = tko c N j := by
  unfold wof
  split
  · split
    · next h2 => have := hb h2; exact pk_un (by omega)
    · exact mns_fx (by unfold fx; omega) b
  · exact ad_ne (by omega)
theorem wf_ok {c : FA} {N : Nat} (h : RowOk c N) (h0 : 0 < N) : RowOk (wf c) (N - 1) ∧ wf c 128 = c 128 := by
  obtain ⟨k, b, e1, e2, e3, e4, e5, e6⟩ := h.2.2 0 h0
  have hN := h.2.1
  have n1 : ix (c 155) = N := by rw [h.1]; exact ix_nI (by omega)
  have n2 : ix (c 131) = k := by rw [show c 131 = nI k from e1]; exact ix_nI (by omega)
  have n3 : ix (c 143) = b := by rw [show c 143 = nI b from e2]; exact ix_nI (by omega)
  unfold wf
  rw [n1, if_neg (by omega), n2, n3]
  refine ⟨(rowok_tko h h0).congr fun j h1 h2 => wof_fx hN e4 (Or.inr ⟨h1, h2⟩), ?_⟩
  rw [wof_fx hN e4 (Or.inl rfl)]
  exact tko_fx hN (Or.inl (by decide))
theorem wfs_ok {c : FA} {N : Nat} (h : RowOk c N) : ∀ n, RowOk (wfs c n) (N - n) ∧ wfs c n 128 = c 128
  | 0 => ⟨h, rfl⟩
  | n + 1 => by
    obtain ⟨h1, h2⟩ := wfs_ok h n
    by_cases h0 : 0 < N - n
    · obtain ⟨h3, h4⟩ := wf_ok h1 h0
      exact ⟨by rw [show N - (n + 1) = N - n - 1 by omega]; exact h3, h4.trans h2⟩
    · have n1 : ix (wfs c n 155) = 0 := by rw [h1.1, show N - n = 0 by omega]; exact ix_nI (by decide)
      have e1 : wfs c (n + 1) = wfs c n := by show wf (wfs c n) = _; unfold wf; rw [if_pos n1]
      rw [e1, show N - (n + 1) = N - n by omega]
      exact ⟨h1, h2⟩
def wrk (c : FA) (o : Int32) : Int32 × Option FA := if ¬ (1 ≤ o ∧ o ≤ 12) then (-1002, none) else if c 155 = 0 then (-1005, none) else (wfs c (ix o) 160 - c 160, some (wfs c (ix o)))
def tnJ (c : FA) (j : Nat) : Nat → Int32
  | 0 => c j
  | 1 => c (8 + j)
  | 2 => if bt (opn c 5) j then 1 else 0
  | 3 => grw c (nI j) 5
  | 4 => c (32 + j)
  | 5 => if 2 ≤ c (32 + j) ∧ c (88 + (j * 3 + 0)) = c (88 + (j * 3 + 1)) then los c j else -1005
  | 6 => c (16 + j)
  | _ => -1002
def tnk (c : FA) (t w : Int32) : Int32 := if ¬ (0 ≤ t ∧ t ≤ 7) then -1001 else if 0 ≤ w ∧ w ≤ 6 then tnJ c (ix t) (ix w) else -1002
def sng (c : FA) (t b z : Int32) : Int32 := if ¬ (0 ≤ t ∧ t ≤ 7) then -1001 else if b < 0 then -1002 else if c (32 + ix t) ≤ b then -1005 else if z = 0 then c (64 + (ix t * 3 + ix b)) else c (40 + (ix t * 3 + ix b))
def hld (c : FA) (h w : Int32) : Int32 := if ¬ (0 ≤ h ∧ h ≤ 2) then -1001 else if w = 0 then c (112 + ix h) else if w = 1 then c (115 + ix h) else -1002
def grJ (c : FA) (j : Nat) : Nat → Int32
  | 0 => c (118 + j)
  | 1 => c (123 + j)
  | 2 => wti c (c (118 + j))
  | _ => -1002
def grp (c : FA) (g w : Int32) : Int32 := if ¬ (0 ≤ g ∧ g ≤ 4) then -1001 else if 0 ≤ w ∧ w ≤ 2 then grJ c (ix g) (ix w) else -1002
def wai (c : FA) (p w : Int32) : Int32 := if p < 0 ∨ ¬ (0 ≤ w ∧ w ≤ 2) then -1002 else if c 155 ≤ p then -1005 else if w = 0 then c (131 + ix p) else if w = 1 then c (143 + ix p) else rsn c (ix (c (131 + ix p))) (ix (c (143 + ix p)))
def tri (c : FA) (p : Int32) : Int32 := if ¬ (-50 ≤ p ∧ p ≤ 50) then -1002 else tmo c p
def upr (c : FA) (u w : Int32) : Int32 := if ¬ (1 ≤ u ∧ u ≤ 100) ∨ ¬ (0 ≤ w ∧ w ≤ 2) then -1002 else if w = 0 then (upo c (ix u)).1 else if w = 1 then (upo c (ix u)).2.1 else (upo c (ix u)).2.2
def coJ (c : FA) (ln tl : Int32) : Nat → Int32
  | 0 => wgt c
  | 1 => tmo c 0 / 40
  | 2 => lst c
  | 3 => wgt c / 10
  | 4 => tmo c 0
  | 5 => lmo c
  | 6 => wti c 255
  | 7 => c 156
  | 8 => c 157
  | 9 => c 158
  | 10 => lostS c
  | 11 => c 159
  | 12 => c 155
  | 13 => c 160
  | 14 => opn c 5
  | 15 => c 161
  | 16 => c 128
  | 17 => c 129
  | 18 => c 130
  | 19 => ln
  | 20 => tl
  | _ => -1002
def cou (c : FA) (ln tl w : Int32) : Int32 := if 0 ≤ w ∧ w ≤ 20 then coJ c ln tl (ix w) else -1002
theorem outr {w M : Int32} (h : ¬ (0 ≤ w ∧ w ≤ M)) : w.toInt < 0 ∨ M.toInt < w.toInt := by
  rw [Int32.le_iff_toInt_le, Int32.le_iff_toInt_le, Int32.toInt_zero] at h
  omega
section MB
theorem t_X3_length (c : FA) (K : KS) (s : FA) (L : LS9) (e : AH) : Ct m_X3_length X0 [.ref 10] (HP c K s L e) (fun rv h => rv = some (.int K.2.2.2.2.2.2.1) ∧ h = HP c K s L e) := by
  refine ⟨ok_X3_length, ?_⟩
  refine Rch.go rfl ?_
  exact Rch.ri rfl rfl rfl (by decide) (by decide) ⟨rfl, rfl⟩
theorem t_X2_workFirst__w (c : FA) (K : KS) (s : FA) (L : LS9) (e : AH) {N r : Nat} (h : RowOk c N) (hr : c 128 = nI r) (hr2 : r < 2 ^ 31) : Ct m_X2_workFirst X0 [.ref 1] (HP c K s L e) (fun rv h => rv = none ∧ h = HP (wf c) K s L e) := by
  have hN := h.2.1
  have n1 : ix (c 155) = N := by rw [h.1]; exact ix_nI (by omega)
  by_cases h0 : 0 < N
  · obtain ⟨k, b, e1, e2, e3, e4, e5, e6⟩ := h.2.2 0 h0
    have n2 : ix (c 131) = k := by rw [show c 131 = nI k from e1]; exact ix_nI (by omega)
    have n3 : ix (c 143) = b := by rw [show c 143 = nI b from e2]; exact ix_nI (by omega)
    have n4 : ix (c 128) = r := by rw [hr]; exact ix_nI hr2
    have ew : wf c = wof c N k b r := by unfold wf; rw [n1, if_neg (by omega), n2, n3, n4]
    rw [ew]
    exact t_X2_workFirst c K s L e h.1 h0 hN e1 e2 e3 e4 (by omega) (by rw [tko_fx hN (Or.inl (by decide))]; exact hr) hr2
  · have ew : wf c = c := by unfold wf; rw [n1, if_pos (by omega)]
    rw [ew]
    refine ⟨ok_X2_workFirst, ?_⟩
    refine Rch.go rfl ?_
    refine Rch.call 0 (t_X6_at c K s L e (j := 155) rfl (by decide)) rfl rfl g_X2_11 om_X6_at rfl (fun _ _ _ q => q) rfl rfl rfl rfl ⟨rfl, rfl⟩ ⟨by decide, by decide⟩ (fun _ _ q => by obtain ⟨_, rfl⟩ := q; first | with_reducible rfl | (rw [HP_len, HP_len]; done) | rfl) (fun rv9 h9 q9 => ?_)
    obtain ⟨rfl, rfl⟩ := q9
    rw [h.1, show N = 0 by omega]
    refine Rch.z_ne rfl (fun _ => ?_) (fun q => absurd rfl q)
    refine Rch.go rfl ?_
    exact Rch.rv rfl rfl (by decide) (by decide) ⟨rfl, rfl⟩
theorem t_X8_work (c : FA) (r : Nat → FA) (K : KR) (s : FA) (L : LS9) {n q : Nat} (hn : n < 4) (hq : q ≤ 4) (o : Int32) {N R : Nat} (h : RowOk c N) (hR : c 128 = nI R) (hR2 : R < 2 ^ 31) : Ct m_X8_work X0 [.ref 0, .int o] (HP c (r, nI n, nI q, K) s L []) (fun rv h9 => rv = some (.int (wrk c o).1) ∧ h9 = hA c r n q K s L (wrk c o).2) := by
  have hN := h.2.1
  refine ⟨ok_X8_work, ?_⟩
  refine Rch.go rfl ?_
  refine Rch.call 1 (t_X8_isWithin _ _ _ _) rfl rfl g_X8_34 om_X8_isWithin rfl (fun _ _ _ q => q) rfl rfl rfl rfl ⟨rfl, rfl⟩ ⟨by decide, by decide⟩ (fun _ _ q => by obtain ⟨_, rfl⟩ := q; first | with_reducible rfl | (rw [HP_len, HP_len]; done) | rfl) (fun rv9 h9 q9 => ?_)
  obtain ⟨rfl, rfl⟩ := q9
  refine Rch.z_ne rfl (fun z => ?_) (fun z => ?_)
  · rw [show wrk c o = _ from if_pos (i0 z)]
    refine Rch.go rfl ?_
    exact Rch.ri rfl rfl rfl (by decide) (by decide) ⟨rfl, rfl⟩
  have w := i1 z
  obtain ⟨j, hj, rfl⟩ := rng (n := 12) rfl (by decide) ⟨Int32.le_trans (by decide) w.1, w.2⟩
  have ej : ix (nI j) = j := ix_nI (by omega)
  refine Rch.go rfl ?_
  refine Rch.call 0 (t_X6_at c _ s L _ (j := 155) rfl (by decide)) rfl rfl g_X8_38 om_X6_at rfl (fun _ _ _ q => q) rfl rfl rfl rfl ⟨rfl, rfl⟩ ⟨by decide, by decide⟩ (fun _ _ q => by obtain ⟨_, rfl⟩ := q; first | with_reducible rfl | (rw [HP_len, HP_len]; done) | rfl) (fun rv9 h9 q9 => ?_)
  obtain ⟨rfl, rfl⟩ := q9
  refine Rch.z_ne rfl (fun z1 => ?_) (fun z1 => ?_)
  · rw [show wrk c (nI j) = (-1005, none) by unfold wrk; rw [if_neg (fun q => q w), if_pos z1]]
    refine Rch.go rfl ?_
    exact Rch.ri rfl rfl rfl (by decide) (by decide) ⟨rfl, rfl⟩
  rw [show wrk c (nI j) = _ by unfold wrk; rw [if_neg (fun q => q w), if_neg z1, ej]]
  refine Rch.go rfl ?_
  refine Rch.call 0 (t_X0_record c r K s L _ hn hq) rfl rfl g_X8_49 om_X0_record rfl (fun _ _ _ q => q) rfl rfl rfl rfl ⟨rfl, rfl⟩ ⟨by decide, by decide⟩ (fun _ _ q => by obtain ⟨_, rfl⟩ := q; first | with_reducible rfl | (rw [HP_len, HP_len]; done) | rfl) (fun rv9 h9 q9 => ?_)
  obtain ⟨rfl, rfl⟩ := q9
  refine Rch.go rfl ?_
  refine Rch.call 0 (t_X6_at c _ s L _ (j := 160) rfl (by decide)) rfl rfl g_X8_38 om_X6_at rfl (fun _ _ _ q => q) rfl rfl rfl rfl ⟨rfl, rfl⟩ ⟨by decide, by decide⟩ (fun _ _ q => by obtain ⟨_, rfl⟩ := q; first | with_reducible rfl | (rw [HP_len, HP_len]; done) | rfl) (fun rv9 h9 q9 => ?_)
  obtain ⟨rfl, rfl⟩ := q9
  refine Rch.go rfl ?_
  refine Rch.for j (fun i => (57, [(0, .ref 0), (1, .int (nI j)), (2, .int (c 160)), (3, .int (nI i))], [.int (nI j), .int (nI i)], HP (wfs c i) (rc9 c (r, nI n, nI q, K) n q) s L [], 0, 0)) (fun i hi => ?_) ?_ 0 (by omega)
  · refine Rch.i_ge rfl (fun z => absurd z (lo_in hi (by omega))) (fun _ => ?_)
    obtain ⟨w1, w2⟩ := wfs_ok h i
    refine Rch.go rfl ?_
    refine Rch.call 1 (t_X2_workFirst__w _ _ s L _ w1 (w2.trans hR) hR2) rfl rfl g_X8_97 om_X2_workFirst rfl (fun _ _ _ q => q) rfl rfl rfl rfl ⟨rfl, rfl⟩ ⟨by decide, by decide⟩ (fun _ _ q => by obtain ⟨_, rfl⟩ := q; first | with_reducible rfl | (rw [HP_len, HP_len]; done) | rfl) (fun rv9 h9 q9 => ?_)
    obtain ⟨rfl, rfl⟩ := q9
    refine Rch.go rfl (Rch.rf ?_)
    rw [nI_1]
    rfl
  · refine Rch.i_ge rfl (fun _ => ?_) (fun z => absurd (lo_out (by omega)) z)
    refine Rch.go rfl ?_
    refine Rch.call 0 (t_X6_at _ _ s L _ (j := 160) rfl (by decide)) rfl rfl g_X8_38 om_X6_at rfl (fun _ _ _ q => q) rfl rfl rfl rfl ⟨rfl, rfl⟩ ⟨by decide, by decide⟩ (fun _ _ q => by obtain ⟨_, rfl⟩ := q; first | with_reducible rfl | (rw [HP_len, HP_len]; done) | rfl) (fun rv9 h9 q9 => ?_)
    obtain ⟨rfl, rfl⟩ := q9
    refine Rch.go rfl ?_
    exact Rch.ri rfl rfl rfl (by decide) (by decide) ⟨rfl, rfl⟩
theorem t_X8_undo (c : FA) (r : Nat → FA) (K : KR) (s : FA) (L : LS9) {n q : Nat} (hn : n < 4) (hq : q ≤ 4) : Ct m_X8_undo X0 [.ref 0] (HP c (r, nI n, nI q, K) s L []) (fun rv h => rv = some (.int (if q = 0 then -1005 else nI (q - 1))) ∧ h = HP (if q = 0 then c else cp (r ((n + 3) % 4)) c) (if q = 0 then (r, nI n, nI q, K) else (r, nI ((n + 3) % 4), nI (q - 1), K)) s L []) := by
  refine ⟨ok_X8_undo, ?_⟩
  refine Rch.go rfl ?_
  refine Rch.call 0 (t_X0_length c _ s L _) rfl rfl g_X8_123 om_X0_length rfl (fun _ _ _ q => q) rfl rfl rfl rfl ⟨rfl, rfl⟩ ⟨by decide, by decide⟩ (fun _ _ q => by obtain ⟨_, rfl⟩ := q; first | with_reducible rfl | (rw [HP_len, HP_len]; done) | rfl) (fun rv9 h9 q9 => ?_)
  obtain ⟨rfl, rfl⟩ := q9
  by_cases h0 : q = 0
  · subst h0
    refine Rch.z_ne rfl (fun _ => ?_) (fun q => absurd rfl q)
    refine Rch.go rfl ?_
    exact Rch.ri rfl rfl rfl (by decide) (by decide) ⟨rfl, rfl⟩
  · rw [if_neg h0, if_neg h0, if_neg h0]
    refine Rch.z_ne rfl (fun q9 => absurd q9 (nI_ne0 (by omega) (by omega))) (fun _ => ?_)
    refine Rch.go rfl ?_
    refine Rch.call 0 (t_X0_bringBack c r K s L _ hn (by omega) hq) rfl rfl g_X8_124 om_X0_bringBack rfl (fun _ _ _ q => q) rfl rfl rfl rfl ⟨rfl, rfl⟩ ⟨by decide, by decide⟩ (fun _ _ q => by obtain ⟨_, rfl⟩ := q; first | with_reducible rfl | (rw [HP_len, HP_len]; done) | rfl) (fun rv9 h9 q9 => ?_)
    obtain ⟨rfl, rfl⟩ := q9
    refine Rch.go rfl ?_
    refine Rch.call 0 (t_X0_length _ _ s L _) rfl rfl g_X8_123 om_X0_length rfl (fun _ _ _ q => q) rfl rfl rfl rfl ⟨rfl, rfl⟩ ⟨by decide, by decide⟩ (fun _ _ q => by obtain ⟨_, rfl⟩ := q; first | with_reducible rfl | (rw [HP_len, HP_len]; done) | rfl) (fun rv9 h9 q9 => ?_)
    obtain ⟨rfl, rfl⟩ := q9
    exact Rch.ri rfl rfl rfl (by decide) (by decide) ⟨rfl, rfl⟩
theorem t_X8_tank (c : FA) (K : KS) (s : FA) (L : LS9) (e : AH) (t w : Int32) : Ct m_X8_tank X0 [.ref 0, .int t, .int w] (HP c K s L e) (fun rv h => rv = some (.int (tnk c t w)) ∧ h = HP c K s L e) := by
  refine ⟨ok_X8_tank, ?_⟩
  refine Rch.go rfl ?_
  refine Rch.call 1 (t_X8_isWithin _ _ _ _) rfl rfl g_X8_34 om_X8_isWithin rfl (fun _ _ _ q => q) rfl rfl rfl rfl ⟨rfl, rfl⟩ ⟨by decide, by decide⟩ (fun _ _ q => by obtain ⟨_, rfl⟩ := q; first | with_reducible rfl | (rw [HP_len, HP_len]; done) | rfl) (fun rv9 h9 q9 => ?_)
  obtain ⟨rfl, rfl⟩ := q9
  refine Rch.z_ne rfl (fun z => ?_) (fun z => ?_)
  · rw [show tnk c t w = _ from if_pos (i0 z)]
    refine Rch.go rfl ?_
    exact Rch.ri rfl rfl rfl (by decide) (by decide) ⟨rfl, rfl⟩
  have h1 := i1 z
  obtain ⟨j, hj, rfl⟩ := rng (n := 7) rfl (by decide) h1
  have ej : ix (nI j) = j := ix_nI (by omega)
  refine Rch.go rfl ?_
  by_cases hw : 0 ≤ w ∧ w ≤ 6
  rotate_left
  · rw [show tnk c (nI j) w = -1002 by unfold tnk; rw [if_neg (fun q => q h1), if_neg hw]]
    refine Rch.sw (t := 158) rfl (if_pos (outr hw)) ?_
    refine Rch.go rfl ?_
    exact Rch.ri rfl rfl rfl (by decide) (by decide) ⟨rfl, rfl⟩
  obtain ⟨i, hi, rfl⟩ := rng (n := 6) rfl (by decide) hw
  rw [show tnk c (nI j) (nI i) = tnJ c j i by unfold tnk; rw [if_neg (fun q => q h1), if_pos hw, ej, ix_nI (by omega)]]
  match i, hi with
  | 0, _ =>
    refine Rch.sw (t := 56) rfl rfl ?_
    refine Rch.go rfl ?_
    refine Rch.call 0 (t_X6_at c _ s L _ (zadd j) (by omega)) rfl rfl g_X8_38 om_X6_at rfl (fun _ _ _ q => q) rfl rfl rfl rfl ⟨rfl, rfl⟩ ⟨by decide, by decide⟩ (fun _ _ q => by obtain ⟨_, rfl⟩ := q; first | with_reducible rfl | (rw [HP_len, HP_len]; done) | rfl) (fun rv9 h9 q9 => ?_)
    obtain ⟨rfl, rfl⟩ := q9
    exact Rch.ri rfl rfl rfl (by decide) (by decide) ⟨rfl, rfl⟩
  | 1, _ =>
    refine Rch.sw (t := 67) rfl rfl ?_
    refine Rch.go rfl ?_
    refine Rch.call 0 (t_X6_at c _ s L _ (nI_add 8 j) (by omega)) rfl rfl g_X8_38 om_X6_at rfl (fun _ _ _ q => q) rfl rfl rfl rfl ⟨rfl, rfl⟩ ⟨by decide, by decide⟩ (fun _ _ q => by obtain ⟨_, rfl⟩ := q; first | with_reducible rfl | (rw [HP_len, HP_len]; done) | rfl) (fun rv9 h9 q9 => ?_)
    obtain ⟨rfl, rfl⟩ := q9
    exact Rch.ri rfl rfl rfl (by decide) (by decide) ⟨rfl, rfl⟩
  | 2, _ =>
    refine Rch.sw (t := 79) rfl rfl ?_
    refine Rch.go rfl ?_
    refine Rch.call 0 (t_X6_openTanks c _ s L _) rfl rfl g_X8_138 om_X6_openTanks rfl (fun _ _ _ q => q) rfl rfl rfl rfl ⟨rfl, rfl⟩ ⟨by decide, by decide⟩ (fun _ _ q => by obtain ⟨_, rfl⟩ := q; first | with_reducible rfl | (rw [HP_len, HP_len]; done) | rfl) (fun rv9 h9 q9 => ?_)
    obtain ⟨rfl, rfl⟩ := q9
    refine Rch.go rfl ?_
    refine Rch.call 1 (t_X6_isIn _ _ _) rfl rfl g_X8_141 om_X6_isIn rfl (fun _ _ _ q => q) rfl rfl rfl rfl ⟨rfl, rfl⟩ ⟨by decide, by decide⟩ (fun _ _ q => by obtain ⟨_, rfl⟩ := q; first | with_reducible rfl | (rw [HP_len, HP_len]; done) | rfl) (fun rv9 h9 q9 => ?_)
    obtain ⟨rfl, rfl⟩ := q9
    refine Rch.z_eq rfl (fun z => ?_) (fun z => ?_)
    · refine Rch.go rfl ?_
      exact Rch.ri rfl rfl rfl (by decide) (by decide) ⟨by show _ = some (Value.int (if bt (opn c 5) j then 1 else 0)); rw [if_neg (i0 z)], rfl⟩
    · refine Rch.go rfl ?_
      exact Rch.ri rfl rfl rfl (by decide) (by decide) ⟨by show _ = some (Value.int (if bt (opn c 5) j then 1 else 0)); rw [if_pos (i1 z)], rfl⟩
  | 3, _ =>
    refine Rch.sw (t := 99) rfl rfl ?_
    refine Rch.go rfl ?_
    refine Rch.call 0 (t_X6_groupsWith c _ s L _ _) rfl rfl g_X8_144 om_X6_groupsWith rfl (fun _ _ _ q => q) rfl rfl rfl rfl ⟨rfl, rfl⟩ ⟨by decide, by decide⟩ (fun _ _ q => by obtain ⟨_, rfl⟩ := q; first | with_reducible rfl | (rw [HP_len, HP_len]; done) | rfl) (fun rv9 h9 q9 => ?_)
    obtain ⟨rfl, rfl⟩ := q9
    exact Rch.ri rfl rfl rfl (by decide) (by decide) ⟨rfl, rfl⟩
  | 4, _ =>
    refine Rch.sw (t := 108) rfl rfl ?_
    refine Rch.go rfl ?_
    refine Rch.call 0 (t_X6_at c _ s L _ (nI_add 32 j) (by omega)) rfl rfl g_X8_38 om_X6_at rfl (fun _ _ _ q => q) rfl rfl rfl rfl ⟨rfl, rfl⟩ ⟨by decide, by decide⟩ (fun _ _ q => by obtain ⟨_, rfl⟩ := q; first | with_reducible rfl | (rw [HP_len, HP_len]; done) | rfl) (fun rv9 h9 q9 => ?_)
    obtain ⟨rfl, rfl⟩ := q9
    exact Rch.ri rfl rfl rfl (by decide) (by decide) ⟨rfl, rfl⟩
  | 5, _ =>
    refine Rch.sw (t := 120) rfl rfl ?_
    refine Rch.go rfl ?_
    refine Rch.call 1 (t_X5_isLossTold c _ s L _ (by omega)) rfl rfl g_X8_147 om_X5_isLossTold rfl (fun _ _ _ q => q) rfl rfl rfl rfl ⟨rfl, rfl⟩ ⟨by decide, by decide⟩ (fun _ _ q => by obtain ⟨_, rfl⟩ := q; first | with_reducible rfl | (rw [HP_len, HP_len]; done) | rfl) (fun rv9 h9 q9 => ?_)
    obtain ⟨⟨rfl, hb⟩ | ⟨rfl, hb⟩, rfl⟩ := q9
    · refine Rch.z_eq rfl (fun q => absurd q (by decide)) (fun _ => ?_)
      refine Rch.go rfl ?_
      refine Rch.call 1 (t_X5_loss c _ s L _ (by omega)) rfl rfl g_X8_150 om_X5_loss rfl (fun _ _ _ q => q) rfl rfl rfl rfl ⟨rfl, rfl⟩ ⟨by decide, by decide⟩ (fun _ _ q => by obtain ⟨_, rfl⟩ := q; first | with_reducible rfl | (rw [HP_len, HP_len]; done) | rfl) (fun rv9 h9 q9 => ?_)
      obtain ⟨rfl, rfl⟩ := q9
      refine Rch.go rfl ?_
      exact Rch.ri rfl rfl rfl (by decide) (by decide) ⟨by show _ = some (Value.int (if 2 ≤ c (32 + j) ∧ c (88 + (j * 3 + 0)) = c (88 + (j * 3 + 1)) then los c j else -1005)); rw [if_pos (show 2 ≤ c (32 + j) ∧ c (88 + (j * 3 + 0)) = c (88 + (j * 3 + 1)) from hb)], rfl⟩
    · refine Rch.z_eq rfl (fun _ => ?_) (fun q => absurd rfl q)
      refine Rch.go rfl ?_
      exact Rch.ri rfl rfl rfl (by decide) (by decide) ⟨by show _ = some (Value.int (if 2 ≤ c (32 + j) ∧ c (88 + (j * 3 + 0)) = c (88 + (j * 3 + 1)) then los c j else -1005)); rw [if_neg (show ¬ (2 ≤ c (32 + j) ∧ c (88 + (j * 3 + 0)) = c (88 + (j * 3 + 1))) from hb)], rfl⟩
  | 6, _ =>
    refine Rch.sw (t := 146) rfl rfl ?_
    refine Rch.go rfl ?_
    refine Rch.call 0 (t_X6_at c _ s L _ (nI_add 16 j) (by omega)) rfl rfl g_X8_38 om_X6_at rfl (fun _ _ _ q => q) rfl rfl rfl rfl ⟨rfl, rfl⟩ ⟨by decide, by decide⟩ (fun _ _ q => by obtain ⟨_, rfl⟩ := q; first | with_reducible rfl | (rw [HP_len, HP_len]; done) | rfl) (fun rv9 h9 q9 => ?_)
    obtain ⟨rfl, rfl⟩ := q9
    exact Rch.ri rfl rfl rfl (by decide) (by decide) ⟨rfl, rfl⟩
theorem t_X8_sounding (c : FA) (K : KS) (s : FA) (L : LS9) (e : AH) (t b z : Int32) (hc : ∀ j, j < 8 → ∃ k, k ≤ 3 ∧ c (32 + j) = nI k) : Ct m_X8_sounding X0 [.ref 0, .int t, .int b, .int z] (HP c K s L e) (fun rv h => rv = some (.int (sng c t b z)) ∧ h = HP c K s L e) := by
  refine ⟨ok_X8_sounding, ?_⟩
  refine Rch.go rfl ?_
  refine Rch.call 1 (t_X8_isWithin _ _ _ _) rfl rfl g_X8_34 om_X8_isWithin rfl (fun _ _ _ q => q) rfl rfl rfl rfl ⟨rfl, rfl⟩ ⟨by decide, by decide⟩ (fun _ _ q => by obtain ⟨_, rfl⟩ := q; first | with_reducible rfl | (rw [HP_len, HP_len]; done) | rfl) (fun rv9 h9 q9 => ?_)
  obtain ⟨rfl, rfl⟩ := q9
  refine Rch.z_ne rfl (fun z1 => ?_) (fun z1 => ?_)
  · rw [show sng c t b z = _ from if_pos (i0 z1)]
    refine Rch.go rfl ?_
    exact Rch.ri rfl rfl rfl (by decide) (by decide) ⟨rfl, rfl⟩
  have h1 := i1 z1
  obtain ⟨j, hj, rfl⟩ := rng (n := 7) rfl (by decide) h1
  have ej : ix (nI j) = j := ix_nI (by omega)
  refine Rch.go rfl ?_
  refine Rch.z_ge rfl (fun z2 => ?_) (fun z2 => ?_)
  rotate_left
  · rw [show sng c (nI j) b z = -1002 by unfold sng; rw [if_neg (fun q => q h1), if_pos (nle_lt z2)]]
    refine Rch.go rfl ?_
    exact Rch.ri rfl rfl rfl (by decide) (by decide) ⟨rfl, rfl⟩
  have h2 := Int32.not_lt.mpr z2
  refine Rch.go rfl ?_
  refine Rch.call 0 (t_X6_at c _ s L _ (nI_add 32 j) (by omega)) rfl rfl g_X8_38 om_X6_at rfl (fun _ _ _ q => q) rfl rfl rfl rfl ⟨rfl, rfl⟩ ⟨by decide, by decide⟩ (fun _ _ q => by obtain ⟨_, rfl⟩ := q; first | with_reducible rfl | (rw [HP_len, HP_len]; done) | rfl) (fun rv9 h9 q9 => ?_)
  obtain ⟨rfl, rfl⟩ := q9
  refine Rch.i_lt rfl (fun z3 => ?_) (fun z3 => ?_)
  rotate_left
  · rw [show sng c (nI j) b z = -1005 by unfold sng; rw [if_neg (fun q => q h1), if_neg h2, ej, if_pos (nlt_le z3)]]
    refine Rch.go rfl ?_
    exact Rch.ri rfl rfl rfl (by decide) (by decide) ⟨rfl, rfl⟩
  obtain ⟨k, hk, ek⟩ := hc j (by omega)
  obtain ⟨b', hb', rfl⟩ : ∃ b', b' < 3 ∧ b = nI b' := by
    rw [ek] at z3
    obtain ⟨b', hb, rfl⟩ := nI_of h2
    exact ⟨b', by have := (nI_ltI hb (by omega)).mp z3; omega, rfl⟩
  have eb : ix (nI b') = b' := ix_nI (by omega)
  rw [show sng c (nI j) (nI b') z = if z = 0 then c (64 + (j * 3 + b')) else c (40 + (j * 3 + b')) by unfold sng; rw [if_neg (fun q => q h1), if_neg h2, ej, eb, if_neg (Int32.not_le.mpr z3)]]
  refine Rch.go rfl ?_
  refine Rch.z_eq rfl (fun z4 => ?_) (fun z4 => ?_)
  · rw [if_pos z4]
    refine Rch.go rfl ?_
    refine Rch.call 1 (t_X5_place j b' rfl rfl _) rfl rfl g_X8_153 om_X5_place rfl (fun _ _ _ q => q) rfl rfl rfl rfl ⟨rfl, rfl⟩ ⟨by decide, by decide⟩ (fun _ _ q => by obtain ⟨_, rfl⟩ := q; first | with_reducible rfl | (rw [HP_len, HP_len]; done) | rfl) (fun rv9 h9 q9 => ?_)
    obtain ⟨rfl, rfl⟩ := q9
    refine Rch.go rfl ?_
    refine Rch.call 0 (t_X6_at c _ s L _ (nI_add 64 (j * 3 + b')) (by omega)) rfl rfl g_X8_38 om_X6_at rfl (fun _ _ _ q => q) rfl rfl rfl rfl ⟨rfl, rfl⟩ ⟨by decide, by decide⟩ (fun _ _ q => by obtain ⟨_, rfl⟩ := q; first | with_reducible rfl | (rw [HP_len, HP_len]; done) | rfl) (fun rv9 h9 q9 => ?_)
    obtain ⟨rfl, rfl⟩ := q9
    exact Rch.ri rfl rfl rfl (by decide) (by decide) ⟨rfl, rfl⟩
  · rw [if_neg z4]
    refine Rch.go rfl ?_
    refine Rch.call 1 (t_X5_place j b' rfl rfl _) rfl rfl g_X8_153 om_X5_place rfl (fun _ _ _ q => q) rfl rfl rfl rfl ⟨rfl, rfl⟩ ⟨by decide, by decide⟩ (fun _ _ q => by obtain ⟨_, rfl⟩ := q; first | with_reducible rfl | (rw [HP_len, HP_len]; done) | rfl) (fun rv9 h9 q9 => ?_)
    obtain ⟨rfl, rfl⟩ := q9
    refine Rch.go rfl ?_
    refine Rch.call 0 (t_X6_at c _ s L _ (nI_add 40 (j * 3 + b')) (by omega)) rfl rfl g_X8_38 om_X6_at rfl (fun _ _ _ q => q) rfl rfl rfl rfl ⟨rfl, rfl⟩ ⟨by decide, by decide⟩ (fun _ _ q => by obtain ⟨_, rfl⟩ := q; first | with_reducible rfl | (rw [HP_len, HP_len]; done) | rfl) (fun rv9 h9 q9 => ?_)
    obtain ⟨rfl, rfl⟩ := q9
    exact Rch.ri rfl rfl rfl (by decide) (by decide) ⟨rfl, rfl⟩
theorem t_X8_hold (c : FA) (K : KS) (s : FA) (L : LS9) (e : AH) (t w : Int32) : Ct m_X8_hold X0 [.ref 0, .int t, .int w] (HP c K s L e) (fun rv h => rv = some (.int (hld c t w)) ∧ h = HP c K s L e) := by
  refine ⟨ok_X8_hold, ?_⟩
  refine Rch.go rfl ?_
  refine Rch.call 1 (t_X8_isWithin _ _ _ _) rfl rfl g_X8_34 om_X8_isWithin rfl (fun _ _ _ q => q) rfl rfl rfl rfl ⟨rfl, rfl⟩ ⟨by decide, by decide⟩ (fun _ _ q => by obtain ⟨_, rfl⟩ := q; first | with_reducible rfl | (rw [HP_len, HP_len]; done) | rfl) (fun rv9 h9 q9 => ?_)
  obtain ⟨rfl, rfl⟩ := q9
  refine Rch.z_ne rfl (fun z => ?_) (fun z => ?_)
  · rw [show hld c t w = _ from if_pos (i0 z)]
    refine Rch.go rfl ?_
    exact Rch.ri rfl rfl rfl (by decide) (by decide) ⟨rfl, rfl⟩
  have h1 := i1 z
  obtain ⟨j, hj, rfl⟩ := rng (n := 2) rfl (by decide) h1
  have ej : ix (nI j) = j := ix_nI (by omega)
  rw [show hld c (nI j) w = if w = 0 then c (112 + j) else if w = 1 then c (115 + j) else -1002 by unfold hld; rw [if_neg (fun q => q h1), ej]]
  refine Rch.go rfl ?_
  by_cases h0 : w = 0
  · subst h0
    refine Rch.sw (t := 40) rfl rfl ?_
    refine Rch.go rfl ?_
    refine Rch.call 0 (t_X6_at c _ s L _ (nI_add 112 j) (by omega)) rfl rfl g_X8_38 om_X6_at rfl (fun _ _ _ q => q) rfl rfl rfl rfl ⟨rfl, rfl⟩ ⟨by decide, by decide⟩ (fun _ _ q => by obtain ⟨_, rfl⟩ := q; first | with_reducible rfl | (rw [HP_len, HP_len]; done) | rfl) (fun rv9 h9 q9 => ?_)
    obtain ⟨rfl, rfl⟩ := q9
    exact Rch.ri rfl rfl rfl (by decide) (by decide) ⟨rfl, rfl⟩
  rw [if_neg h0]
  by_cases h2 : w = 1
  · subst h2
    refine Rch.sw (t := 52) rfl rfl ?_
    refine Rch.go rfl ?_
    refine Rch.call 0 (t_X6_at c _ s L _ (nI_add 115 j) (by omega)) rfl rfl g_X8_38 om_X6_at rfl (fun _ _ _ q => q) rfl rfl rfl rfl ⟨rfl, rfl⟩ ⟨by decide, by decide⟩ (fun _ _ q => by obtain ⟨_, rfl⟩ := q; first | with_reducible rfl | (rw [HP_len, HP_len]; done) | rfl) (fun rv9 h9 q9 => ?_)
    obtain ⟨rfl, rfl⟩ := q9
    exact Rch.ri rfl rfl rfl (by decide) (by decide) ⟨rfl, rfl⟩
  rw [if_neg h2]
  refine Rch.sw (t := 64) rfl ?_ ?_
  · show some ((14 : Int) + Op.lookupswitch.offset [(0, 26), (1, 38)] 50 w.toInt) = some 64
    rw [lv_osw (a := 0) h0 rfl, lv_osw (a := 1) h2 rfl]
    rfl
  refine Rch.go rfl ?_
  exact Rch.ri rfl rfl rfl (by decide) (by decide) ⟨rfl, rfl⟩
theorem t_X8_group (c : FA) (K : KS) (s : FA) (L : LS9) (e : AH) (t w : Int32) : Ct m_X8_group X0 [.ref 0, .int t, .int w] (HP c K s L e) (fun rv h => rv = some (.int (grp c t w)) ∧ h = HP c K s L e) := by
  refine ⟨ok_X8_group, ?_⟩
  refine Rch.go rfl ?_
  refine Rch.call 1 (t_X8_isWithin _ _ _ _) rfl rfl g_X8_34 om_X8_isWithin rfl (fun _ _ _ q => q) rfl rfl rfl rfl ⟨rfl, rfl⟩ ⟨by decide, by decide⟩ (fun _ _ q => by obtain ⟨_, rfl⟩ := q; first | with_reducible rfl | (rw [HP_len, HP_len]; done) | rfl) (fun rv9 h9 q9 => ?_)
  obtain ⟨rfl, rfl⟩ := q9
  refine Rch.z_ne rfl (fun z => ?_) (fun z => ?_)
  · rw [show grp c t w = _ from if_pos (i0 z)]
    refine Rch.go rfl ?_
    exact Rch.ri rfl rfl rfl (by decide) (by decide) ⟨rfl, rfl⟩
  have h1 := i1 z
  obtain ⟨j, hj, rfl⟩ := rng (n := 4) rfl (by decide) h1
  have ej : ix (nI j) = j := ix_nI (by omega)
  refine Rch.go rfl ?_
  by_cases hw : 0 ≤ w ∧ w ≤ 2
  rotate_left
  · rw [show grp c (nI j) w = -1002 by unfold grp; rw [if_neg (fun q => q h1), if_neg hw]]
    refine Rch.sw (t := 83) rfl (if_pos (outr hw)) ?_
    refine Rch.go rfl ?_
    exact Rch.ri rfl rfl rfl (by decide) (by decide) ⟨rfl, rfl⟩
  obtain ⟨i, hi, rfl⟩ := rng (n := 2) rfl (by decide) hw
  rw [show grp c (nI j) (nI i) = grJ c j i by unfold grp; rw [if_neg (fun q => q h1), if_pos hw, ej, ix_nI (by omega)]]
  match i, hi with
  | 0, _ =>
    refine Rch.sw (t := 40) rfl rfl ?_
    refine Rch.go rfl ?_
    refine Rch.call 0 (t_X6_at c _ s L _ (nI_add 118 j) (by omega)) rfl rfl g_X8_38 om_X6_at rfl (fun _ _ _ q => q) rfl rfl rfl rfl ⟨rfl, rfl⟩ ⟨by decide, by decide⟩ (fun _ _ q => by obtain ⟨_, rfl⟩ := q; first | with_reducible rfl | (rw [HP_len, HP_len]; done) | rfl) (fun rv9 h9 q9 => ?_)
    obtain ⟨rfl, rfl⟩ := q9
    exact Rch.ri rfl rfl rfl (by decide) (by decide) ⟨rfl, rfl⟩
  | 1, _ =>
    refine Rch.sw (t := 52) rfl rfl ?_
    refine Rch.go rfl ?_
    refine Rch.call 0 (t_X6_at c _ s L _ (nI_add 123 j) (by omega)) rfl rfl g_X8_38 om_X6_at rfl (fun _ _ _ q => q) rfl rfl rfl rfl ⟨rfl, rfl⟩ ⟨by decide, by decide⟩ (fun _ _ q => by obtain ⟨_, rfl⟩ := q; first | with_reducible rfl | (rw [HP_len, HP_len]; done) | rfl) (fun rv9 h9 q9 => ?_)
    obtain ⟨rfl, rfl⟩ := q9
    exact Rch.ri rfl rfl rfl (by decide) (by decide) ⟨rfl, rfl⟩
  | 2, _ =>
    refine Rch.sw (t := 64) rfl rfl ?_
    refine Rch.go rfl ?_
    refine Rch.call 0 (t_X6_at c _ s L _ (nI_add 118 j) (by omega)) rfl rfl g_X8_38 om_X6_at rfl (fun _ _ _ q => q) rfl rfl rfl rfl ⟨rfl, rfl⟩ ⟨by decide, by decide⟩ (fun _ _ q => by obtain ⟨_, rfl⟩ := q; first | with_reducible rfl | (rw [HP_len, HP_len]; done) | rfl) (fun rv9 h9 q9 => ?_)
    obtain ⟨rfl, rfl⟩ := q9
    refine Rch.call 0 (t_X6_waterIn c _ s L _ _) rfl rfl g_X8_156 om_X6_waterIn rfl (fun _ _ _ q => q) rfl rfl rfl rfl ⟨rfl, rfl⟩ ⟨by decide, by decide⟩ (fun _ _ q => by obtain ⟨_, rfl⟩ := q; first | with_reducible rfl | (rw [HP_len, HP_len]; done) | rfl) (fun rv9 h9 q9 => ?_)
    obtain ⟨rfl, rfl⟩ := q9
    exact Rch.ri rfl rfl rfl (by decide) (by decide) ⟨rfl, rfl⟩
theorem t_X8_waiting (c : FA) (K : KS) (s : FA) (L : LS9) (e : AH) (p w : Int32) {N : Nat} (h : RowOk c N) : Ct m_X8_waiting X0 [.ref 0, .int p, .int w] (HP c K s L e) (fun rv h => rv = some (.int (wai c p w)) ∧ h = HP c K s L e) := by
  have hN := h.2.1
  refine ⟨ok_X8_waiting, ?_⟩
  refine Rch.go rfl ?_
  refine Rch.z_lt rfl (fun z => ?_) (fun z => ?_)
  · rw [show wai c p w = _ from if_pos (Or.inl z)]
    refine Rch.go rfl ?_
    exact Rch.ri rfl rfl rfl (by decide) (by decide) ⟨rfl, rfl⟩
  refine Rch.go rfl ?_
  refine Rch.call 1 (t_X8_isWithin _ _ _ _) rfl rfl g_X8_34 om_X8_isWithin rfl (fun _ _ _ q => q) rfl rfl rfl rfl ⟨rfl, rfl⟩ ⟨by decide, by decide⟩ (fun _ _ q => by obtain ⟨_, rfl⟩ := q; first | with_reducible rfl | (rw [HP_len, HP_len]; done) | rfl) (fun rv9 h9 q9 => ?_)
  obtain ⟨rfl, rfl⟩ := q9
  refine Rch.z_ne rfl (fun z1 => ?_) (fun z1 => ?_)
  · rw [show wai c p w = _ from if_pos (Or.inr (i0 z1))]
    refine Rch.go rfl ?_
    exact Rch.ri rfl rfl rfl (by decide) (by decide) ⟨rfl, rfl⟩
  have h1 := i1 z1
  have h0 : ¬ (p < 0 ∨ ¬ (0 ≤ w ∧ w ≤ 2)) := fun q => q.elim z (fun q => q h1)
  refine Rch.go rfl ?_
  refine Rch.call 0 (t_X6_at c _ s L _ (j := 155) rfl (by decide)) rfl rfl g_X8_38 om_X6_at rfl (fun _ _ _ q => q) rfl rfl rfl rfl ⟨rfl, rfl⟩ ⟨by decide, by decide⟩ (fun _ _ q => by obtain ⟨_, rfl⟩ := q; first | with_reducible rfl | (rw [HP_len, HP_len]; done) | rfl) (fun rv9 h9 q9 => ?_)
  obtain ⟨rfl, rfl⟩ := q9
  refine Rch.i_lt rfl (fun z3 => ?_) (fun z3 => ?_)
  rotate_left
  · rw [show wai c p w = -1005 by unfold wai; rw [if_neg h0, if_pos (nlt_le z3)]]
    refine Rch.go rfl ?_
    exact Rch.ri rfl rfl rfl (by decide) (by decide) ⟨rfl, rfl⟩
  obtain ⟨j, hj, rfl⟩ : ∃ b', b' < N ∧ p = nI b' := by
    rw [h.1] at z3
    obtain ⟨b', hb, rfl⟩ := nI_of z
    exact ⟨b', (nI_ltI hb (by omega)).mp z3, rfl⟩
  have ej : ix (nI j) = j := ix_nI (by omega)
  obtain ⟨k, b, e1, e2, e3, e4, e5, e6⟩ := h.2.2 j hj
  rw [show wai c (nI j) w = if w = 0 then c (131 + j) else if w = 1 then c (143 + j) else rsn c k b by unfold wai; rw [if_neg h0, if_neg (Int32.not_le.mpr z3), ej, e1, e2, ix_nI (by omega), ix_nI (by omega)]]
  refine Rch.go rfl ?_
  refine Rch.call 0 (t_X6_at c _ s L _ (nI_add 131 j) (by omega)) rfl rfl g_X8_38 om_X6_at rfl (fun _ _ _ q => q) rfl rfl rfl rfl ⟨rfl, rfl⟩ ⟨by decide, by decide⟩ (fun _ _ q => by obtain ⟨_, rfl⟩ := q; first | with_reducible rfl | (rw [HP_len, HP_len]; done) | rfl) (fun rv9 h9 q9 => ?_)
  obtain ⟨rfl, rfl⟩ := q9
  refine Rch.go rfl ?_
  refine Rch.call 0 (t_X6_at c _ s L _ (nI_add 143 j) (by omega)) rfl rfl g_X8_38 om_X6_at rfl (fun _ _ _ q => q) rfl rfl rfl rfl ⟨rfl, rfl⟩ ⟨by decide, by decide⟩ (fun _ _ q => by obtain ⟨_, rfl⟩ := q; first | with_reducible rfl | (rw [HP_len, HP_len]; done) | rfl) (fun rv9 h9 q9 => ?_)
  obtain ⟨rfl, rfl⟩ := q9
  refine Rch.go rfl ?_
  by_cases q0 : w = 0
  · subst q0
    refine Rch.sw (t := 88) rfl rfl ?_
    refine Rch.go rfl ?_
    exact Rch.ri rfl rfl rfl (by decide) (by decide) ⟨rfl, rfl⟩
  rw [if_neg q0]
  by_cases q2 : w = 1
  · subst q2
    refine Rch.sw (t := 90) rfl rfl ?_
    refine Rch.go rfl ?_
    exact Rch.ri rfl rfl rfl (by decide) (by decide) ⟨rfl, rfl⟩
  rw [if_neg q2]
  refine Rch.sw (t := 93) rfl ?_ ?_
  · show some ((63 : Int) + Op.lookupswitch.offset [(0, 25), (1, 27)] 30 w.toInt) = some 93
    rw [lv_osw (a := 0) q0 rfl, lv_osw (a := 1) q2 rfl]
    rfl
  refine Rch.go rfl ?_
  refine Rch.call 1 (t_X2_reasonToRefuse c _ s L _ e1 e2 e3 e4) rfl rfl g_X8_159 om_X2_reasonToRefuse rfl (fun _ _ _ q => q) rfl rfl rfl rfl ⟨rfl, rfl⟩ ⟨by decide, by decide⟩ (fun _ _ q => by obtain ⟨_, rfl⟩ := q; first | with_reducible rfl | (rw [HP_len, HP_len]; done) | rfl) (fun rv9 h9 q9 => ?_)
  obtain ⟨rfl, rfl⟩ := q9
  exact Rch.ri rfl rfl rfl (by decide) (by decide) ⟨rfl, rfl⟩
theorem t_X8_trimMoment (c : FA) (K : KS) (s : FA) (L : LS9) (e : AH) (p : Int32) : Ct m_X8_trimMoment X0 [.ref 0, .int p] (HP c K s L e) (fun rv h => rv = some (.int (tri c p)) ∧ h = HP c K s L e) := by
  refine ⟨ok_X8_trimMoment, ?_⟩
  refine Rch.go rfl ?_
  refine Rch.call 1 (t_X8_isWithin _ _ _ _) rfl rfl g_X8_34 om_X8_isWithin rfl (fun _ _ _ q => q) rfl rfl rfl rfl ⟨rfl, rfl⟩ ⟨by decide, by decide⟩ (fun _ _ q => by obtain ⟨_, rfl⟩ := q; first | with_reducible rfl | (rw [HP_len, HP_len]; done) | rfl) (fun rv9 h9 q9 => ?_)
  obtain ⟨rfl, rfl⟩ := q9
  refine Rch.z_ne rfl (fun z => ?_) (fun z => ?_)
  · rw [show tri c p = _ from if_pos (i0 z)]
    refine Rch.go rfl ?_
    exact Rch.ri rfl rfl rfl (by decide) (by decide) ⟨rfl, rfl⟩
  have h1 := i1 z
  rw [show tri c p = _ from if_neg (fun q => q h1)]
  refine Rch.go rfl ?_
  refine Rch.call 0 (t_X6_trimMomentAbout c _ s L _ _) rfl rfl g_X8_163 om_X6_trimMomentAbout rfl (fun _ _ _ q => q) rfl rfl rfl rfl ⟨rfl, rfl⟩ ⟨by decide, by decide⟩ (fun _ _ q => by obtain ⟨_, rfl⟩ := q; first | with_reducible rfl | (rw [HP_len, HP_len]; done) | rfl) (fun rv9 h9 q9 => ?_)
  obtain ⟨rfl, rfl⟩ := q9
  exact Rch.ri rfl rfl rfl (by decide) (by decide) ⟨rfl, rfl⟩
theorem t_X8_upright__0 (A B : US) (c : FA) (K : KS) (s : FA) (L : LS9) {j : Nat} (w : Int32) (h1 : 1 ≤ j) (hj : j ≤ 100) (h2 : 0 ≤ w ∧ w ≤ 2) : Ct m_X8_upright X0 [.ref 0, .int (nI j), .int w] (HP c K s L ([])) (fun rv h => rv = some (.int (if w = 0 then (upo c j).1 else if w = 1 then (upo c j).2.1 else (upo c j).2.2)) ∧ h = HP c K s L (uO (upo c j))) := by
  refine ⟨ok_X8_upright, ?_⟩
  refine Rch.go rfl ?_
  refine Rch.call 1 (t_X8_isWithin _ _ _ _) rfl rfl g_X8_34 om_X8_isWithin rfl (fun _ _ _ q => q) rfl rfl rfl rfl ⟨rfl, rfl⟩ ⟨by decide, by decide⟩ (fun _ _ q => by obtain ⟨_, rfl⟩ := q; first | with_reducible rfl | (rw [HP_len, HP_len]; done) | rfl) (fun rv9 h9 q9 => ?_)
  obtain ⟨rfl, rfl⟩ := q9
  refine Rch.z_eq rfl (fun z => absurd ⟨(nI_leI (a := 1) (by decide) (by omega)).mpr h1, (nI_leI (b := 100) (by omega) (by decide)).mpr hj⟩ (i0 z)) (fun _ => ?_)
  refine Rch.go rfl ?_
  refine Rch.call 1 (t_X8_isWithin _ _ _ _) rfl rfl g_X8_34 om_X8_isWithin rfl (fun _ _ _ q => q) rfl rfl rfl rfl ⟨rfl, rfl⟩ ⟨by decide, by decide⟩ (fun _ _ q => by obtain ⟨_, rfl⟩ := q; first | with_reducible rfl | (rw [HP_len, HP_len]; done) | rfl) (fun rv9 h9 q9 => ?_)
  obtain ⟨rfl, rfl⟩ := q9
  refine Rch.z_ne rfl (fun z => absurd h2 (i0 z)) (fun _ => ?_)
  refine Rch.go rfl ?_
  refine Rch.new (N := 3) (o := 14) (cc' := 1) (cs' := 3) (C := RX7) (T := TX7) (fs := [.int 0, .int 0, .int 0]) rfl rfl rfl rfl rfl rfl rfl rfl rfl rfl (by decide) (by decide) rfl ?_
  refine Rch.go rfl ?_
  refine Rch.callG 3 (t_X7_init__0 A B c K s L hj) rfl rfl g_X8_168 om_X7_init rfl (fun _ _ _ q => q) rfl rfl rfl rfl (cc' := 1) (cs' := 3) rfl rfl (by decide) (by decide) rfl rfl (fun rv9 h9 q9 => ?_)
  obtain ⟨rfl, rfl⟩ := q9
  refine Rch.go rfl ?_
  by_cases q0 : w = 0
  · subst q0
    refine Rch.sw (t := 64) rfl rfl ?_
    refine Rch.go rfl ?_
    exact Rch.ri rfl rfl rfl (by decide) (by decide) (⟨rfl, rfl⟩)
  rw [if_neg q0]
  by_cases q2 : w = 1
  · subst q2
    refine Rch.sw (t := 69) rfl rfl ?_
    refine Rch.go rfl ?_
    exact Rch.ri rfl rfl rfl (by decide) (by decide) (⟨rfl, rfl⟩)
  rw [if_neg q2]
  refine Rch.sw (t := 74) rfl ?_ ?_
  · show some ((37 : Int) + Op.lookupswitch.offset [(0, 27), (1, 32)] 37 w.toInt) = some 74
    rw [lv_osw (a := 0) q0 rfl, lv_osw (a := 1) q2 rfl]
    rfl
  refine Rch.go rfl ?_
  exact Rch.ri rfl rfl rfl (by decide) (by decide) (⟨rfl, rfl⟩)
theorem t_X8_upright__1 (A B : US) (c : FA) (K : KS) (s : FA) (L : LS9) {j : Nat} (w : Int32) (h1 : 1 ≤ j) (hj : j ≤ 100) (h2 : 0 ≤ w ∧ w ≤ 2) : Ct m_X8_upright X0 [.ref 0, .int (nI j), .int w] (HP c K s L (uO A)) (fun rv h => rv = some (.int (if w = 0 then (upo c j).1 else if w = 1 then (upo c j).2.1 else (upo c j).2.2)) ∧ h = HP c K s L (uP A (upo c j))) := by
  refine ⟨ok_X8_upright, ?_⟩
  refine Rch.go rfl ?_
  refine Rch.call 1 (t_X8_isWithin _ _ _ _) rfl rfl g_X8_34 om_X8_isWithin rfl (fun _ _ _ q => q) rfl rfl rfl rfl ⟨rfl, rfl⟩ ⟨by decide, by decide⟩ (fun _ _ q => by obtain ⟨_, rfl⟩ := q; first | with_reducible rfl | (rw [HP_len, HP_len]; done) | rfl) (fun rv9 h9 q9 => ?_)
  obtain ⟨rfl, rfl⟩ := q9
  refine Rch.z_eq rfl (fun z => absurd ⟨(nI_leI (a := 1) (by decide) (by omega)).mpr h1, (nI_leI (b := 100) (by omega) (by decide)).mpr hj⟩ (i0 z)) (fun _ => ?_)
  refine Rch.go rfl ?_
  refine Rch.call 1 (t_X8_isWithin _ _ _ _) rfl rfl g_X8_34 om_X8_isWithin rfl (fun _ _ _ q => q) rfl rfl rfl rfl ⟨rfl, rfl⟩ ⟨by decide, by decide⟩ (fun _ _ q => by obtain ⟨_, rfl⟩ := q; first | with_reducible rfl | (rw [HP_len, HP_len]; done) | rfl) (fun rv9 h9 q9 => ?_)
  obtain ⟨rfl, rfl⟩ := q9
  refine Rch.z_ne rfl (fun z => absurd h2 (i0 z)) (fun _ => ?_)
  refine Rch.go rfl ?_
  refine Rch.new (N := 3) (o := 15) (cc' := 1) (cs' := 3) (C := RX7) (T := TX7) (fs := [.int 0, .int 0, .int 0]) rfl rfl rfl rfl rfl rfl rfl rfl rfl rfl (by decide) (by decide) rfl ?_
  refine Rch.go rfl ?_
  refine Rch.callG 3 (t_X7_init__1 A B c K s L hj) rfl rfl g_X8_168 om_X7_init rfl (fun _ _ _ q => q) rfl rfl rfl rfl (cc' := 1) (cs' := 3) rfl rfl (by decide) (by decide) rfl rfl (fun rv9 h9 q9 => ?_)
  obtain ⟨rfl, rfl⟩ := q9
  refine Rch.go rfl ?_
  by_cases q0 : w = 0
  · subst q0
    refine Rch.sw (t := 64) rfl rfl ?_
    refine Rch.go rfl ?_
    exact Rch.ri rfl rfl rfl (by decide) (by decide) (⟨rfl, rfl⟩)
  rw [if_neg q0]
  by_cases q2 : w = 1
  · subst q2
    refine Rch.sw (t := 69) rfl rfl ?_
    refine Rch.go rfl ?_
    exact Rch.ri rfl rfl rfl (by decide) (by decide) (⟨rfl, rfl⟩)
  rw [if_neg q2]
  refine Rch.sw (t := 74) rfl ?_ ?_
  · show some ((37 : Int) + Op.lookupswitch.offset [(0, 27), (1, 32)] 37 w.toInt) = some 74
    rw [lv_osw (a := 0) q0 rfl, lv_osw (a := 1) q2 rfl]
    rfl
  refine Rch.go rfl ?_
  exact Rch.ri rfl rfl rfl (by decide) (by decide) (⟨rfl, rfl⟩)
theorem t_X8_upright__2 (A B : US) (c : FA) (K : KS) (s : FA) (L : LS9) {j : Nat} (w : Int32) (h1 : 1 ≤ j) (hj : j ≤ 100) (h2 : 0 ≤ w ∧ w ≤ 2) : Ct m_X8_upright X0 [.ref 0, .int (nI j), .int w] (HP c K s L (uP A B)) (fun rv h => rv = some (.int (if w = 0 then (upo c j).1 else if w = 1 then (upo c j).2.1 else (upo c j).2.2)) ∧ h = HP c K s L (uQ A B (upo c j))) := by
  refine ⟨ok_X8_upright, ?_⟩
  refine Rch.go rfl ?_
  refine Rch.call 1 (t_X8_isWithin _ _ _ _) rfl rfl g_X8_34 om_X8_isWithin rfl (fun _ _ _ q => q) rfl rfl rfl rfl ⟨rfl, rfl⟩ ⟨by decide, by decide⟩ (fun _ _ q => by obtain ⟨_, rfl⟩ := q; first | with_reducible rfl | (rw [HP_len, HP_len]; done) | rfl) (fun rv9 h9 q9 => ?_)
  obtain ⟨rfl, rfl⟩ := q9
  refine Rch.z_eq rfl (fun z => absurd ⟨(nI_leI (a := 1) (by decide) (by omega)).mpr h1, (nI_leI (b := 100) (by omega) (by decide)).mpr hj⟩ (i0 z)) (fun _ => ?_)
  refine Rch.go rfl ?_
  refine Rch.call 1 (t_X8_isWithin _ _ _ _) rfl rfl g_X8_34 om_X8_isWithin rfl (fun _ _ _ q => q) rfl rfl rfl rfl ⟨rfl, rfl⟩ ⟨by decide, by decide⟩ (fun _ _ q => by obtain ⟨_, rfl⟩ := q; first | with_reducible rfl | (rw [HP_len, HP_len]; done) | rfl) (fun rv9 h9 q9 => ?_)
  obtain ⟨rfl, rfl⟩ := q9
  refine Rch.z_ne rfl (fun z => absurd h2 (i0 z)) (fun _ => ?_)
  refine Rch.go rfl ?_
  refine Rch.new (N := 3) (o := 16) (cc' := 1) (cs' := 3) (C := RX7) (T := TX7) (fs := [.int 0, .int 0, .int 0]) rfl rfl rfl rfl rfl rfl rfl rfl rfl rfl (by decide) (by decide) rfl ?_
  refine Rch.go rfl ?_
  refine Rch.callG 3 (t_X7_init__2 A B c K s L hj) rfl rfl g_X8_168 om_X7_init rfl (fun _ _ _ q => q) rfl rfl rfl rfl (cc' := 1) (cs' := 3) rfl rfl (by decide) (by decide) rfl rfl (fun rv9 h9 q9 => ?_)
  obtain ⟨rfl, rfl⟩ := q9
  refine Rch.go rfl ?_
  by_cases q0 : w = 0
  · subst q0
    refine Rch.sw (t := 64) rfl rfl ?_
    refine Rch.go rfl ?_
    exact Rch.ri rfl rfl rfl (by decide) (by decide) (⟨rfl, rfl⟩)
  rw [if_neg q0]
  by_cases q2 : w = 1
  · subst q2
    refine Rch.sw (t := 69) rfl rfl ?_
    refine Rch.go rfl ?_
    exact Rch.ri rfl rfl rfl (by decide) (by decide) (⟨rfl, rfl⟩)
  rw [if_neg q2]
  refine Rch.sw (t := 74) rfl ?_ ?_
  · show some ((37 : Int) + Op.lookupswitch.offset [(0, 27), (1, 32)] 37 w.toInt) = some 74
    rw [lv_osw (a := 0) q0 rfl, lv_osw (a := 1) q2 rfl]
    rfl
  refine Rch.go rfl ?_
  exact Rch.ri rfl rfl rfl (by decide) (by decide) (⟨rfl, rfl⟩)
theorem t_X8_count (c : FA) (K : KS) (s : FA) (L : LS9) (e : AH) (w : Int32) : Ct m_X8_count X0 [.ref 0, .int w] (HP c K s L e) (fun rv h => rv = some (.int (cou c K.2.2.1 K.2.2.2.2.2.2.1 w)) ∧ h = HP c K s L e) := by
  refine ⟨ok_X8_count, ?_⟩
  refine Rch.go rfl ?_
  by_cases hw : 0 ≤ w ∧ w ≤ 20
  rotate_left
  · rw [show cou c K.2.2.1 K.2.2.2.2.2.2.1 w = -1002 from if_neg hw]
    refine Rch.sw (t := 305) rfl (if_pos (outr hw)) ?_
    refine Rch.go rfl ?_
    exact Rch.ri rfl rfl rfl (by decide) (by decide) ⟨rfl, rfl⟩
  obtain ⟨i, hi, rfl⟩ := rng (n := 20) rfl (by decide) hw
  rw [show cou c K.2.2.1 K.2.2.2.2.2.2.1 (nI i) = coJ c K.2.2.1 K.2.2.2.2.2.2.1 i by unfold cou; rw [if_pos hw, ix_nI (by omega)]]
  match i, hi with
  | 0, _ =>
    refine Rch.sw (t := 100) rfl rfl ?_
    refine Rch.go rfl ?_
    refine Rch.call 0 (t_X6_weight c _ s L _) rfl rfl g_X8_42 om_X6_weight rfl (fun _ _ _ q => q) rfl rfl rfl rfl ⟨rfl, rfl⟩ ⟨by decide, by decide⟩ (fun _ _ q => by obtain ⟨_, rfl⟩ := q; first | with_reducible rfl | (rw [HP_len, HP_len]; done) | rfl) (fun rv9 h9 q9 => ?_)
    obtain ⟨rfl, rfl⟩ := q9
    exact Rch.ri rfl rfl rfl (by decide) (by decide) ⟨rfl, rfl⟩
  | 1, _ =>
    refine Rch.sw (t := 108) rfl rfl ?_
    refine Rch.go rfl ?_
    refine Rch.call 0 (t_X6_trim c _ s L _) rfl rfl g_X8_178 om_X6_trim rfl (fun _ _ _ q => q) rfl rfl rfl rfl ⟨rfl, rfl⟩ ⟨by decide, by decide⟩ (fun _ _ q => by obtain ⟨_, rfl⟩ := q; first | with_reducible rfl | (rw [HP_len, HP_len]; done) | rfl) (fun rv9 h9 q9 => ?_)
    obtain ⟨rfl, rfl⟩ := q9
    exact Rch.ri rfl rfl rfl (by decide) (by decide) ⟨rfl, rfl⟩
  | 2, _ =>
    refine Rch.sw (t := 116) rfl rfl ?_
    refine Rch.go rfl ?_
    refine Rch.call 0 (t_X6_list c _ s L _) rfl rfl g_X8_105 om_X6_list rfl (fun _ _ _ q => q) rfl rfl rfl rfl ⟨rfl, rfl⟩ ⟨by decide, by decide⟩ (fun _ _ q => by obtain ⟨_, rfl⟩ := q; first | with_reducible rfl | (rw [HP_len, HP_len]; done) | rfl) (fun rv9 h9 q9 => ?_)
    obtain ⟨rfl, rfl⟩ := q9
    exact Rch.ri rfl rfl rfl (by decide) (by decide) ⟨rfl, rfl⟩
  | 4, _ =>
    refine Rch.sw (t := 135) rfl rfl ?_
    refine Rch.go rfl ?_
    refine Rch.call 0 (t_X6_trimMomentAbout c _ s L _ _) rfl rfl g_X8_163 om_X6_trimMomentAbout rfl (fun _ _ _ q => q) rfl rfl rfl rfl ⟨rfl, rfl⟩ ⟨by decide, by decide⟩ (fun _ _ q => by obtain ⟨_, rfl⟩ := q; first | with_reducible rfl | (rw [HP_len, HP_len]; done) | rfl) (fun rv9 h9 q9 => ?_)
    obtain ⟨rfl, rfl⟩ := q9
    exact Rch.ri rfl rfl rfl (by decide) (by decide) ⟨rfl, rfl⟩
  | 5, _ =>
    refine Rch.sw (t := 144) rfl rfl ?_
    refine Rch.go rfl ?_
    refine Rch.call 0 (t_X6_listMoment c _ s L _) rfl rfl g_X8_181 om_X6_listMoment rfl (fun _ _ _ q => q) rfl rfl rfl rfl ⟨rfl, rfl⟩ ⟨by decide, by decide⟩ (fun _ _ q => by obtain ⟨_, rfl⟩ := q; first | with_reducible rfl | (rw [HP_len, HP_len]; done) | rfl) (fun rv9 h9 q9 => ?_)
    obtain ⟨rfl, rfl⟩ := q9
    exact Rch.ri rfl rfl rfl (by decide) (by decide) ⟨rfl, rfl⟩
  | 6, _ =>
    refine Rch.sw (t := 152) rfl rfl ?_
    refine Rch.go rfl ?_
    refine Rch.call 0 (t_X6_waterIn c _ s L _ _) rfl rfl g_X8_156 om_X6_waterIn rfl (fun _ _ _ q => q) rfl rfl rfl rfl ⟨rfl, rfl⟩ ⟨by decide, by decide⟩ (fun _ _ q => by obtain ⟨_, rfl⟩ := q; first | with_reducible rfl | (rw [HP_len, HP_len]; done) | rfl) (fun rv9 h9 q9 => ?_)
    obtain ⟨rfl, rfl⟩ := q9
    exact Rch.ri rfl rfl rfl (by decide) (by decide) ⟨rfl, rfl⟩
  | 7, _ =>
    refine Rch.sw (t := 163) rfl rfl ?_
    refine Rch.go rfl ?_
    refine Rch.call 0 (t_X6_at c _ s L _ (j := 156) rfl (by decide)) rfl rfl g_X8_38 om_X6_at rfl (fun _ _ _ q => q) rfl rfl rfl rfl ⟨rfl, rfl⟩ ⟨by decide, by decide⟩ (fun _ _ q => by obtain ⟨_, rfl⟩ := q; first | with_reducible rfl | (rw [HP_len, HP_len]; done) | rfl) (fun rv9 h9 q9 => ?_)
    obtain ⟨rfl, rfl⟩ := q9
    exact Rch.ri rfl rfl rfl (by decide) (by decide) ⟨rfl, rfl⟩
  | 8, _ =>
    refine Rch.sw (t := 174) rfl rfl ?_
    refine Rch.go rfl ?_
    refine Rch.call 0 (t_X6_at c _ s L _ (j := 157) rfl (by decide)) rfl rfl g_X8_38 om_X6_at rfl (fun _ _ _ q => q) rfl rfl rfl rfl ⟨rfl, rfl⟩ ⟨by decide, by decide⟩ (fun _ _ q => by obtain ⟨_, rfl⟩ := q; first | with_reducible rfl | (rw [HP_len, HP_len]; done) | rfl) (fun rv9 h9 q9 => ?_)
    obtain ⟨rfl, rfl⟩ := q9
    exact Rch.ri rfl rfl rfl (by decide) (by decide) ⟨rfl, rfl⟩
  | 9, _ =>
    refine Rch.sw (t := 185) rfl rfl ?_
    refine Rch.go rfl ?_
    refine Rch.call 0 (t_X6_at c _ s L _ (j := 158) rfl (by decide)) rfl rfl g_X8_38 om_X6_at rfl (fun _ _ _ q => q) rfl rfl rfl rfl ⟨rfl, rfl⟩ ⟨by decide, by decide⟩ (fun _ _ q => by obtain ⟨_, rfl⟩ := q; first | with_reducible rfl | (rw [HP_len, HP_len]; done) | rfl) (fun rv9 h9 q9 => ?_)
    obtain ⟨rfl, rfl⟩ := q9
    exact Rch.ri rfl rfl rfl (by decide) (by decide) ⟨rfl, rfl⟩
  | 10, _ =>
    refine Rch.sw (t := 196) rfl rfl ?_
    refine Rch.go rfl ?_
    refine Rch.call 0 (t_X6_lostByLeaks c _ s L _) rfl rfl g_X8_184 om_X6_lostByLeaks rfl (fun _ _ _ q => q) rfl rfl rfl rfl ⟨rfl, rfl⟩ ⟨by decide, by decide⟩ (fun _ _ q => by obtain ⟨_, rfl⟩ := q; first | with_reducible rfl | (rw [HP_len, HP_len]; done) | rfl) (fun rv9 h9 q9 => ?_)
    obtain ⟨rfl, rfl⟩ := q9
    exact Rch.ri rfl rfl rfl (by decide) (by decide) ⟨rfl, rfl⟩
  | 11, _ =>
    refine Rch.sw (t := 204) rfl rfl ?_
    refine Rch.go rfl ?_
    refine Rch.call 0 (t_X6_at c _ s L _ (j := 159) rfl (by decide)) rfl rfl g_X8_38 om_X6_at rfl (fun _ _ _ q => q) rfl rfl rfl rfl ⟨rfl, rfl⟩ ⟨by decide, by decide⟩ (fun _ _ q => by obtain ⟨_, rfl⟩ := q; first | with_reducible rfl | (rw [HP_len, HP_len]; done) | rfl) (fun rv9 h9 q9 => ?_)
    obtain ⟨rfl, rfl⟩ := q9
    exact Rch.ri rfl rfl rfl (by decide) (by decide) ⟨rfl, rfl⟩
  | 12, _ =>
    refine Rch.sw (t := 215) rfl rfl ?_
    refine Rch.go rfl ?_
    refine Rch.call 0 (t_X6_at c _ s L _ (j := 155) rfl (by decide)) rfl rfl g_X8_38 om_X6_at rfl (fun _ _ _ q => q) rfl rfl rfl rfl ⟨rfl, rfl⟩ ⟨by decide, by decide⟩ (fun _ _ q => by obtain ⟨_, rfl⟩ := q; first | with_reducible rfl | (rw [HP_len, HP_len]; done) | rfl) (fun rv9 h9 q9 => ?_)
    obtain ⟨rfl, rfl⟩ := q9
    exact Rch.ri rfl rfl rfl (by decide) (by decide) ⟨rfl, rfl⟩
  | 13, _ =>
    refine Rch.sw (t := 226) rfl rfl ?_
    refine Rch.go rfl ?_
    refine Rch.call 0 (t_X6_at c _ s L _ (j := 160) rfl (by decide)) rfl rfl g_X8_38 om_X6_at rfl (fun _ _ _ q => q) rfl rfl rfl rfl ⟨rfl, rfl⟩ ⟨by decide, by decide⟩ (fun _ _ q => by obtain ⟨_, rfl⟩ := q; first | with_reducible rfl | (rw [HP_len, HP_len]; done) | rfl) (fun rv9 h9 q9 => ?_)
    obtain ⟨rfl, rfl⟩ := q9
    exact Rch.ri rfl rfl rfl (by decide) (by decide) ⟨rfl, rfl⟩
  | 14, _ =>
    refine Rch.sw (t := 237) rfl rfl ?_
    refine Rch.go rfl ?_
    refine Rch.call 0 (t_X6_openTanks c _ s L _) rfl rfl g_X8_138 om_X6_openTanks rfl (fun _ _ _ q => q) rfl rfl rfl rfl ⟨rfl, rfl⟩ ⟨by decide, by decide⟩ (fun _ _ q => by obtain ⟨_, rfl⟩ := q; first | with_reducible rfl | (rw [HP_len, HP_len]; done) | rfl) (fun rv9 h9 q9 => ?_)
    obtain ⟨rfl, rfl⟩ := q9
    exact Rch.ri rfl rfl rfl (by decide) (by decide) ⟨rfl, rfl⟩
  | 15, _ =>
    refine Rch.sw (t := 245) rfl rfl ?_
    refine Rch.go rfl ?_
    refine Rch.call 0 (t_X6_at c _ s L _ (j := 161) rfl (by decide)) rfl rfl g_X8_38 om_X6_at rfl (fun _ _ _ q => q) rfl rfl rfl rfl ⟨rfl, rfl⟩ ⟨by decide, by decide⟩ (fun _ _ q => by obtain ⟨_, rfl⟩ := q; first | with_reducible rfl | (rw [HP_len, HP_len]; done) | rfl) (fun rv9 h9 q9 => ?_)
    obtain ⟨rfl, rfl⟩ := q9
    exact Rch.ri rfl rfl rfl (by decide) (by decide) ⟨rfl, rfl⟩
  | 16, _ =>
    refine Rch.sw (t := 256) rfl rfl ?_
    refine Rch.go rfl ?_
    refine Rch.call 0 (t_X6_at c _ s L _ (j := 128) rfl (by decide)) rfl rfl g_X8_38 om_X6_at rfl (fun _ _ _ q => q) rfl rfl rfl rfl ⟨rfl, rfl⟩ ⟨by decide, by decide⟩ (fun _ _ q => by obtain ⟨_, rfl⟩ := q; first | with_reducible rfl | (rw [HP_len, HP_len]; done) | rfl) (fun rv9 h9 q9 => ?_)
    obtain ⟨rfl, rfl⟩ := q9
    exact Rch.ri rfl rfl rfl (by decide) (by decide) ⟨rfl, rfl⟩
  | 17, _ =>
    refine Rch.sw (t := 267) rfl rfl ?_
    refine Rch.go rfl ?_
    refine Rch.call 0 (t_X6_at c _ s L _ (j := 129) rfl (by decide)) rfl rfl g_X8_38 om_X6_at rfl (fun _ _ _ q => q) rfl rfl rfl rfl ⟨rfl, rfl⟩ ⟨by decide, by decide⟩ (fun _ _ q => by obtain ⟨_, rfl⟩ := q; first | with_reducible rfl | (rw [HP_len, HP_len]; done) | rfl) (fun rv9 h9 q9 => ?_)
    obtain ⟨rfl, rfl⟩ := q9
    exact Rch.ri rfl rfl rfl (by decide) (by decide) ⟨rfl, rfl⟩
  | 18, _ =>
    refine Rch.sw (t := 278) rfl rfl ?_
    refine Rch.go rfl ?_
    refine Rch.call 0 (t_X6_at c _ s L _ (j := 130) rfl (by decide)) rfl rfl g_X8_38 om_X6_at rfl (fun _ _ _ q => q) rfl rfl rfl rfl ⟨rfl, rfl⟩ ⟨by decide, by decide⟩ (fun _ _ q => by obtain ⟨_, rfl⟩ := q; first | with_reducible rfl | (rw [HP_len, HP_len]; done) | rfl) (fun rv9 h9 q9 => ?_)
    obtain ⟨rfl, rfl⟩ := q9
    exact Rch.ri rfl rfl rfl (by decide) (by decide) ⟨rfl, rfl⟩
  | 19, _ =>
    refine Rch.sw (t := 289) rfl rfl ?_
    refine Rch.go rfl ?_
    refine Rch.call 0 (t_X0_length c _ s L _) rfl rfl g_X8_123 om_X0_length rfl (fun _ _ _ q => q) rfl rfl rfl rfl ⟨rfl, rfl⟩ ⟨by decide, by decide⟩ (fun _ _ q => by obtain ⟨_, rfl⟩ := q; first | with_reducible rfl | (rw [HP_len, HP_len]; done) | rfl) (fun rv9 h9 q9 => ?_)
    obtain ⟨rfl, rfl⟩ := q9
    exact Rch.ri rfl rfl rfl (by decide) (by decide) ⟨rfl, rfl⟩
  | 20, _ =>
    refine Rch.sw (t := 297) rfl rfl ?_
    refine Rch.go rfl ?_
    refine Rch.call 0 (t_X3_length c _ s L _) rfl rfl g_X8_117 om_X3_length rfl (fun _ _ _ q => q) rfl rfl rfl rfl ⟨rfl, rfl⟩ ⟨by decide, by decide⟩ (fun _ _ q => by obtain ⟨_, rfl⟩ := q; first | with_reducible rfl | (rw [HP_len, HP_len]; done) | rfl) (fun rv9 h9 q9 => ?_)
    obtain ⟨rfl, rfl⟩ := q9
    exact Rch.ri rfl rfl rfl (by decide) (by decide) ⟨rfl, rfl⟩
  | 3, _ =>
    refine Rch.sw (t := 124) rfl rfl ?_
    refine Rch.go rfl ?_
    refine Rch.call 0 (t_X6_weight c _ s L _) rfl rfl g_X8_42 om_X6_weight rfl (fun _ _ _ q => q) rfl rfl rfl rfl ⟨rfl, rfl⟩ ⟨by decide, by decide⟩ (fun _ _ q => by obtain ⟨_, rfl⟩ := q; first | with_reducible rfl | (rw [HP_len, HP_len]; done) | rfl) (fun rv9 h9 q9 => ?_)
    obtain ⟨rfl, rfl⟩ := q9
    refine Rch.call 1 (t_X6_draughtOf _ _) rfl rfl g_X8_46 om_X6_draughtOf rfl (fun _ _ _ q => q) rfl rfl rfl rfl ⟨rfl, rfl⟩ ⟨by decide, by decide⟩ (fun _ _ q => by obtain ⟨_, rfl⟩ := q; first | with_reducible rfl | (rw [HP_len, HP_len]; done) | rfl) (fun rv9 h9 q9 => ?_)
    obtain ⟨rfl, rfl⟩ := q9
    exact Rch.ri rfl rfl rfl (by decide) (by decide) ⟨rfl, rfl⟩
  | i + 21, hi => exact absurd hi (by omega)
end MB
