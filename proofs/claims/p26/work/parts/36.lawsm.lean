/-! ===== the law's small methods; what the class answers, number by number ===== -/
theorem Rch.rem {M : MI} {X : AX} {Ψ : AS → Prop} {pc len nx a b : Nat} {v : Int32} {ls : AL} {r : List Value} {h : AH} {cc cs : Nat} {x y : Int32} (hm : mk M pc = (.irem, len, nx, v, a, b)) (hy : ¬ y = 0) (k : Rch M X (nx, ls, .int (x - x / y * y) :: r, h, cc, cs) Ψ) : Rch M X (pc, ls, .int y :: .int x :: r, h, cc, cs) Ψ := by
  refine Rch.st1 ?_ k
  simp only [step1, hm, hy, decide_false, cond_false]
theorem mskz (v : Int32) : 0 ≤ (v &&& 2147483647).toInt := by
  have h : (v &&& 2147483647).toBitVec.msb = false := by
    rw [Int32.toBitVec_and, BitVec.msb_and]
    rw [show (2147483647 : Int32).toBitVec.msb = false by decide, Bool.and_false]
  rw [BitVec.msb_eq_toInt, decide_eq_false_iff_not] at h
  exact Int.not_lt.mp h
theorem lowz (v : Int32) {n : Nat} (h0 : 0 < n) (hn : n < 2 ^ 31) : ∃ k, k < n ∧ (v &&& 2147483647) - (v &&& 2147483647) / nI n * nI n = nI k := by
  have hx := mskz v
  have hb := pzB (v &&& 2147483647)
  generalize v &&& 2147483647 = x at *
  have en : (nI n).toInt = n := nI_toInt hn
  have e1 : (x / nI n).toInt = x.toInt / n := by
    rw [pzD (by intro q; rw [q] at en; exact absurd en (by rw [show (-1 : Int32).toInt = -1 from rfl]; omega)), en, Int.tdiv_eq_ediv_of_nonneg hx]
  have a1 : 0 ≤ x.toInt / n := Int.ediv_nonneg hx (by omega)
  have a2 : x.toInt / n * n ≤ x.toInt := Int.ediv_mul_le _ (by omega)
  have a3 : 0 ≤ x.toInt / n * n := Int.mul_nonneg a1 (by omega)
  have a4 : x.toInt - x.toInt / n * n < n := by
    have := Int.emod_lt_of_pos x.toInt (show (0 : Int) < n by omega)
    have e := Int.emod_def x.toInt n
    rw [Int.mul_comm] at e
    omega
  have e2 : (x / nI n * nI n).toInt = x.toInt / n * n := by rw [pzM (by rw [e1, en]; omega) (by rw [e1, en]; omega), e1, en]
  have e3 : (x - x / nI n * nI n).toInt = x.toInt - x.toInt / n * n := by rw [pzS (by rw [e2]; omega) (by rw [e2]; omega), e2]
  obtain ⟨k, q1, q2, q3⟩ := pzK (a := x - x / nI n * nI n) (by rw [e3]; omega)
  exact ⟨k, by omega, q1⟩
def XL (n : Nat) (f : FA) : AX := fun k => match k with
  | 7 => some (n, f)
  | k => X0 k
theorem XL_sub (n : Nat) (f : FA) : ∀ k n' f', X0 k = some (n', f') → XL n f k = some (n', f') := by
  intro k n' f' h
  unfold XL
  split
  · exact absurd h (by show ¬ none = _; intro q; cases q)
  · exact h
section LS
theorem t_L_low (v : Int32) {n : Nat} (h0 : AH) (hp : 0 < n) (hn : n < 2 ^ 31) : Ct m_L_low X0 [.int v, .int (nI n)] h0 (fun rv h => (∃ k, k < n ∧ rv = some (.int (nI k))) ∧ h = h0) := by
  obtain ⟨k, hk, e⟩ := lowz v hp hn
  refine ⟨ok_L_low, ?_⟩
  refine Rch.go rfl ?_
  refine Rch.ldc rfl (by decide +kernel) ?_
  refine Rch.st 2 rfl ?_
  refine Rch.rem rfl (nI_ne0 hp hn) ?_
  rw [e]
  exact Rch.ri rfl rfl rfl (by decide) (by decide) (⟨⟨k, hk, rfl⟩, rfl⟩)
theorem t_L_size (v : Int32) (h0 : AH) : Ct m_L_size X0 [.int v] h0 (fun rv h => rv = some (.int (abi v)) ∧ h = h0) := by
  refine ⟨ok_L_size, ?_⟩
  refine Rch.go rfl ?_
  refine Rch.z_ge rfl (fun z => ?_) (fun z => ?_)
  · refine Rch.go rfl ?_
    exact Rch.ri rfl rfl rfl (by decide) (by decide) ⟨by unfold abi; rw [if_pos z], rfl⟩
  · refine Rch.go rfl ?_
    exact Rch.ri rfl rfl rfl (by decide) (by decide) ⟨by unfold abi; rw [if_neg z, Int32.zero_sub], rfl⟩
theorem t_L_cell {n k : Nat} {f : FA} (h0 : AH) (hn : n ≤ 260) (hk : k < 56) : Ct m_L_cell (XL n f) [.ref 1007, .int (nI k)] h0 (fun rv h => (∃ x, rv = some (.int x)) ∧ h = h0) := by
  refine ⟨ok_L_cell, ?_⟩
  refine Rch.go rfl ?_
  refine Rch.i_ge rfl (fun z => ?_) (fun z => ?_)
  · refine Rch.go rfl ?_
    exact Rch.ri rfl rfl rfl (by decide) (by decide) (⟨⟨_, rfl⟩, rfl⟩)
  · have hl : k < n := Nat.not_le.mp (fun q => z ((nI_leI (by omega) (by omega)).mpr q : nI n ≤ nI k))
    refine Rch.go rfl ?_
    refine Rch.xa rfl rfl rfl rfl hl (by omega) ?_
    refine Rch.go rfl ?_
    exact Rch.ri rfl rfl rfl (by decide) (by decide) (⟨⟨_, rfl⟩, rfl⟩)
end LS
theorem in7z {t : Nat} (ht : t < 8) : (0 : Int32) ≤ nI t ∧ nI t ≤ 7 := (by decide : ∀ t, t < 8 → (0 : Int32) ≤ nI t ∧ nI t ≤ 7) t ht
theorem in4z {t : Nat} (ht : t < 5) : (0 : Int32) ≤ nI t ∧ nI t ≤ 4 := (by decide : ∀ t, t < 5 → (0 : Int32) ≤ nI t ∧ nI t ≤ 4) t ht
theorem in2z {t : Nat} (ht : t < 3) : (0 : Int32) ≤ nI t ∧ nI t ≤ 2 := (by decide : ∀ t, t < 3 → (0 : Int32) ≤ nI t ∧ nI t ≤ 2) t ht
theorem tnk_z {c : FA} {t : Nat} (ht : t < 8) {w : Nat} (hw : w < 7) : tnk c (nI t) (nI w) = tnJ c t w := by
  have h2 : (0 : Int32) ≤ nI w ∧ nI w ≤ 6 := (by decide : ∀ w, w < 7 → (0 : Int32) ≤ nI w ∧ nI w ≤ 6) w hw
  unfold tnk
  rw [if_neg (fun q => q (in7z ht)), if_pos h2, ix_nI (by omega), ix_nI (by omega)]
theorem tnk_0 {c : FA} {t : Nat} (ht : t < 8) : tnk c (nI t) 0 = c t := tnk_z ht (w := 0) (by decide)
theorem tnk_2 {c : FA} {t : Nat} (ht : t < 8) : tnk c (nI t) 2 = if bt (opn c 5) t then 1 else 0 := tnk_z ht (w := 2) (by decide)
theorem tnk_3 {c : FA} {t : Nat} (ht : t < 8) : tnk c (nI t) 3 = grw c (nI t) 5 := tnk_z ht (w := 3) (by decide)
theorem tnk_4 {c : FA} {t : Nat} (ht : t < 8) : tnk c (nI t) 4 = c (32 + t) := tnk_z ht (w := 4) (by decide)
theorem tnk_5 {c : FA} {t : Nat} (ht : t < 8) : tnk c (nI t) 5 = if 2 ≤ c (32 + t) ∧ c (88 + (t * 3 + 0)) = c (88 + (t * 3 + 1)) then los c t else -1005 := tnk_z ht (w := 5) (by decide)
theorem tnk_6 {c : FA} {t : Nat} (ht : t < 8) : tnk c (nI t) 6 = c (16 + t) := tnk_z ht (w := 6) (by decide)
theorem grp_0 {c : FA} {g : Nat} (hg : g < 5) : grp c (nI g) 0 = c (118 + g) := by
  unfold grp
  rw [if_neg (fun q => q (in4z hg)), if_pos (by decide), ix_nI (by omega)]
  rfl
theorem grp_1 {c : FA} {g : Nat} (hg : g < 5) : grp c (nI g) 1 = c (123 + g) := by
  unfold grp
  rw [if_neg (fun q => q (in4z hg)), if_pos (by decide), ix_nI (by omega)]
  rfl
theorem hld_0 {c : FA} {g : Nat} (hg : g < 3) : hld c (nI g) 0 = c (112 + g) := by
  unfold hld
  rw [if_neg (fun q => q (in2z hg)), if_pos rfl, ix_nI (by omega)]
theorem hld_1 {c : FA} {g : Nat} (hg : g < 3) : hld c (nI g) 1 = c (115 + g) := by
  unfold hld
  rw [if_neg (fun q => q (in2z hg)), if_neg (by decide), if_pos rfl, ix_nI (by omega)]
theorem couz (c : FA) (a b : Int32) {k : Nat} (hk : k < 21) : cou c a b (nI k) = coJ c a b k := by
  have h2 : (0 : Int32) ≤ nI k ∧ nI k ≤ 20 := (by decide : ∀ w, w < 21 → (0 : Int32) ≤ nI w ∧ nI w ≤ 20) k hk
  unfold cou
  rw [if_pos h2, ix_nI (by omega)]
theorem cou_0 (c : FA) (a b : Int32) : cou c a b 0 = wgt c := couz c a b (k := 0) (by decide)
theorem cou_1 (c : FA) (a b : Int32) : cou c a b 1 = tmo c 0 / 40 := couz c a b (k := 1) (by decide)
theorem cou_2 (c : FA) (a b : Int32) : cou c a b 2 = lst c := couz c a b (k := 2) (by decide)
theorem cou_3 (c : FA) (a b : Int32) : cou c a b 3 = wgt c / 10 := couz c a b (k := 3) (by decide)
theorem cou_4 (c : FA) (a b : Int32) : cou c a b 4 = tmo c 0 := couz c a b (k := 4) (by decide)
theorem cou_5 (c : FA) (a b : Int32) : cou c a b 5 = lmo c := couz c a b (k := 5) (by decide)
theorem cou_6 (c : FA) (a b : Int32) : cou c a b 6 = pzT c := (couz c a b (k := 6) (by decide)).trans (wti_T c)
theorem cou_7 (c : FA) (a b : Int32) : cou c a b 7 = c 156 := couz c a b (k := 7) (by decide)
theorem cou_8 (c : FA) (a b : Int32) : cou c a b 8 = c 157 := couz c a b (k := 8) (by decide)
theorem cou_9 (c : FA) (a b : Int32) : cou c a b 9 = c 158 := couz c a b (k := 9) (by decide)
theorem cou_10 (c : FA) (a b : Int32) : cou c a b 10 = lostS c := couz c a b (k := 10) (by decide)
theorem cou_12 (c : FA) (a b : Int32) : cou c a b 12 = c 155 := couz c a b (k := 12) (by decide)
theorem cou_13 (c : FA) (a b : Int32) : cou c a b 13 = c 160 := couz c a b (k := 13) (by decide)
theorem cou_14 (c : FA) (a b : Int32) : cou c a b 14 = opn c 5 := couz c a b (k := 14) (by decide)
theorem cou_15 (c : FA) (a b : Int32) : cou c a b 15 = c 161 := couz c a b (k := 15) (by decide)
theorem cou_18 (c : FA) (a b : Int32) : cou c a b 18 = c 130 := couz c a b (k := 18) (by decide)
