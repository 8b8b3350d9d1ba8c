/-! ===== counters over minutes; with the pump off; acts on the cells ===== -/
theorem mvu_hi {m x : Int32} {c d : FA} (hd : mvu m c x = some d) {j : Nat} (hj : 32 ≤ j) (h1 : j < 157 ∨ 159 < j) : d j = c j := by
  unfold mvu at hd
  split at hd
  · unfold mfu at hd
    split at hd
    · cases hd
    · next k hk => cases hd; unfold ad; rw [pk_un (by omega), mvb_hi (tfi_lt hk) hj]
  · split at hd
    · unfold meu at hd
      split at hd
      · cases hd
      · next k hk => cases hd; unfold ad; rw [pk_un (by omega), mvb_hi (tem_lt hk) hj]
    · split at hd
      · unfold mlu at hd
        split at hd
        · cases hd
        · next f hf =>
          split at hd
          · cases hd
          · next t ht => cases hd; unfold ad; rw [pk_un (by omega), mvb_hi (emp_lt ht) hj, mvb_hi (tlo_lt hf) hj]
      · cases hd
theorem pmp_hi {m x : Int32} {j : Nat} (hj : 32 ≤ j) (h1 : j < 157 ∨ 159 < j) : ∀ (r : Nat) (c : FA), pmp m x r c j = c j
  | 0, c => rfl
  | r + 1, c => by
    rw [pmp_1]
    cases hv : mvu m c x with
    | none => rfl
    | some d => exact (pmp_hi hj h1 r d).trans (mvu_hi hv hj h1)
theorem lk_hi {c : FA} {j : Nat} (hj : 24 ≤ j) : ∀ n, n ≤ 8 → lk c n j = c j
  | 0, _ => rfl
  | n + 1, hn => by
    rw [lk_s]
    unfold ad
    rw [pk_un (by omega), pk_un (by omega)]
    exact lk_hi hj n (by omega)
theorem lkm_hi {c : FA} {j : Nat} (hj : 24 ≤ j) : lkm c j = c j := by
  unfold lkm
  split
  · exact lk_hi hj 8 (Nat.le_refl 8)
  · rfl
theorem shl_un {c : FA} {st : Int32} {j : Nat} (hj : j < 115 ∨ (118 ≤ j ∧ j ≠ 161)) : ∀ n, n ≤ 3 → shl c st n j = c j
  | 0, _ => rfl
  | n + 1, hn => by
    unfold shl
    split
    · unfold ad
      rw [pk_un (by omega), pk_un (by omega)]
      exact shl_un hj n (by omega)
    · exact shl_un hj n (by omega)
theorem shf_un {c : FA} {j : Nat} (hj : j < 115 ∨ (118 ≤ j ∧ j ≠ 161)) : shf c j = c j := by
  unfold shf
  split
  · exact shl_un hj 3 (Nat.le_refl 3)
  · rfl
theorem shl_161 {c : FA} {st : Int32} : ∀ n, n ≤ 3 → ∃ k, k ≤ n ∧ shl c st n 161 = c 161 + nI k
  | 0, _ => ⟨0, Nat.le_refl 0, (Int32.add_zero _).symm⟩
  | n + 1, hn => by
    obtain ⟨k, hk, e⟩ := shl_161 (c := c) (st := st) n (by omega)
    unfold shl
    split
    · refine ⟨k + 1, by omega, ?_⟩
      unfold ad
      rw [pk_us, pk_un (by omega), e, ← nI_1, Int32.add_assoc]
    · exact ⟨k, by omega, e⟩
theorem shf_161 (c : FA) : ∃ k, k ≤ 3 ∧ shf c 161 = c 161 + nI k := by
  unfold shf
  split
  · exact shl_161 3 (Nat.le_refl 3)
  · exact ⟨0, by decide, (Int32.add_zero _).symm⟩
theorem mnt_156 (m x : Int32) (r : Nat) (c : FA) : mnt m x r c 156 = c 156 + 1 := by
  unfold mnt
  rw [shf_un (by decide), lkm_hi (by decide), pmp_hi (by decide) (by decide)]
  exact pk_us
theorem mns_156 (m x : Int32) (r : Nat) (c : FA) : ∀ n, mns m x r c n 156 = c 156 + nI n
  | 0 => (Int32.add_zero _).symm
  | n + 1 => by
    show mnt m x r (mns m x r c n) 156 = _
    rw [mnt_156, mns_156 m x r c n, ← nI_1, Int32.add_assoc]
theorem mnt_161 (m x : Int32) (r : Nat) (c : FA) : ∃ k, k ≤ 3 ∧ mnt m x r c 161 = c 161 + nI k := by
  unfold mnt
  obtain ⟨k, hk, e⟩ := shf_161 (lkm (pmp m x r (ad c 156 1)))
  refine ⟨k, hk, e.trans ?_⟩
  rw [lkm_hi (by decide), pmp_hi (by decide) (by decide)]
  rw [show ad c 156 1 161 = c 161 from pk_un (by decide)]
theorem mns_161 (m x : Int32) (r : Nat) (c : FA) : ∀ n, ∃ k, k ≤ 3 * n ∧ mns m x r c n 161 = c 161 + nI k
  | 0 => ⟨0, by decide, (Int32.add_zero _).symm⟩
  | n + 1 => by
    obtain ⟨k, hk, e⟩ := mns_161 m x r c n
    obtain ⟨k2, hk2, e2⟩ := mnt_161 m x r (mns m x r c n)
    refine ⟨k + k2, by omega, ?_⟩
    show mnt m x r (mns m x r c n) 161 = _
    rw [e2, e, ← nI_add, Int32.add_assoc]
/-! with the pump off -/
theorem pmp_off (x : Int32) (r : Nat) (c : FA) : pmp (-1) x r c = c := by
  cases r with
  | zero => rfl
  | succ r => rfl
theorem lk_wl {c : FA} {t : Nat} (ht : t < 8) : ∀ n, n ≤ 8 → lk c n t + lk c n (16 + t) = c t + c (16 + t)
  | 0, _ => rfl
  | n + 1, hn => by
    have ih := lk_wl (c := c) ht n (by omega)
    rw [lk_s]
    generalize lkv c n = v
    generalize lk c n = d at *
    unfold ad
    by_cases e : t = n
    · subst e
      rw [pk_un (by omega), pk_us, pk_us, pk_un (by omega), ← ih]
      grind
    · rw [pk_un (by omega), pk_un e, pk_un (by omega), pk_un (by omega)]
      exact ih
theorem mnt_wl {c : FA} {x : Int32} {r t : Nat} (ht : t < 8) : mnt (-1) x r c t + mnt (-1) x r c (16 + t) = c t + c (16 + t) := by
  unfold mnt
  rw [pmp_off, shf_un (by omega), shf_un (by omega)]
  unfold lkm
  split
  · rw [lk_wl ht 8 (Nat.le_refl 8)]
    unfold ad
    rw [pk_un (by omega), pk_un (by omega)]
  · unfold ad
    rw [pk_un (by omega), pk_un (by omega)]
theorem mns_wl {c : FA} {x : Int32} {r t : Nat} (ht : t < 8) : ∀ n, mns (-1) x r c n t + mns (-1) x r c n (16 + t) = c t + c (16 + t)
  | 0 => rfl
  | n + 1 => by
    show mnt (-1) x r (mns (-1) x r c n) t + mnt (-1) x r (mns (-1) x r c n) (16 + t) = _
    rw [mnt_wl ht, mns_wl ht n]
theorem mns_off_un {c : FA} {x : Int32} {r j : Nat} (hj : 24 ≤ j) (h1 : j < 115 ∨ (118 ≤ j ∧ j ≠ 161 ∧ j ≠ 156)) : ∀ n, mns (-1) x r c n j = c j
  | 0 => rfl
  | n + 1 => by
    show mnt (-1) x r (mns (-1) x r c n) j = _
    unfold mnt
    rw [pmp_off, shf_un (by omega), lkm_hi hj]
    unfold ad
    rw [pk_un (by omega)]
    exact mns_off_un hj h1 n
