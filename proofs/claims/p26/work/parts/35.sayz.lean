/-! ===== what the law says of a barge's cells ===== -/
theorem and1z (a : Int32) : a &&& 1 = 1 ↔ a.toBitVec.getLsbD 0 = true := by
  rw [← Int32.toBitVec_inj, Int32.toBitVec_and]
  show a.toBitVec &&& 1#32 = 1#32 ↔ _
  rw [BitVec.and_one_eq_setWidth_ofBool_getLsbD]
  cases a.toBitVec.getLsbD 0 <;> decide
theorem bt_or (x y : Int32) (t : Nat) : bt (x ||| y) t ↔ bt x t ∨ bt y t := by
  show ((x ||| y) >>> (nI t &&& 31)) &&& 1 = 1 ↔ (x >>> (nI t &&& 31)) &&& 1 = 1 ∨ (y >>> (nI t &&& 31)) &&& 1 = 1
  rw [Int32.shiftRight_or, and1z, and1z, and1z, Int32.toBitVec_or, BitVec.getLsbD_or]
  simp
theorem bt_0 {t : Nat} (ht : t < 8) : ¬ bt 0 t := by
  have : ∀ t, t < 8 → ¬ bt 0 t := by decide
  exact this t ht
theorem nI_orz (a b : Nat) : nI a ||| nI b = nI (a ||| b) := by
  apply Int32.toBitVec_inj.mp
  rw [Int32.toBitVec_or]
  exact BitVec.ofNat_or.symm
theorem opn_bt {c : FA} (g t : Nat) : bt (opn c (g + 1)) t ↔ bt (opn c g) t ∨ (c (123 + g) = 1 ∧ bt (c (118 + g)) t) := by
  show bt (if c (123 + g) = 1 then opn c g ||| c (118 + g) else opn c g) t ↔ _
  by_cases z : c (123 + g) = 1
  · rw [if_pos z, bt_or]
    exact ⟨fun q => q.elim Or.inl (fun q => Or.inr ⟨z, q⟩), fun q => q.elim Or.inl (fun q => Or.inr q.2)⟩
  · rw [if_neg z]
    exact ⟨Or.inl, fun q => q.elim (fun q => q) (fun q => absurd q.1 z)⟩
theorem opn_nI {c : FA} (h : Rgz c) : ∀ g, g ≤ 5 → ∃ k, k < 256 ∧ opn c g = nI k
  | 0, _ => ⟨0, by decide, rfl⟩
  | g + 1, hg => by
    obtain ⟨k, hk, e⟩ := opn_nI h g (by omega)
    have b := h.g (show g < 5 by omega)
    obtain ⟨j, e1, e2, e3⟩ := pzK (a := c (118 + g)) (by omega)
    unfold opn
    split
    · refine ⟨k ||| j, Nat.or_lt_two_pow (n := 8) hk (by omega), ?_⟩
      rw [e, e1, nI_orz]
    · exact ⟨k, hk, e⟩
/-- the tanks of a set, put together again tank by tank -/
def ozz (x : Int32) : Nat → Int32
  | 0 => 0
  | n + 1 => ozz x n ||| (if bt x n then 1 <<< (nI n &&& 31) else 0)
theorem ozz_8 : ∀ k, k < 256 → ozz (nI k) 8 = nI k := by decide +kernel
theorem ozz_opn {c : FA} (h : Rgz c) : ozz (opn c 5) 8 = opn c 5 := by
  obtain ⟨k, hk, e⟩ := opn_nI h 5 (by decide)
  rw [e]
  exact ozz_8 k hk
theorem or_0z (x : Int32) : x ||| 0 = x := by simp
theorem wti_T (c : FA) : wti c 255 = pzT c := fs_cong 8 (fun k hk => if_pos ((by decide : ∀ k, k < 8 → bt 255 k) k hk))
theorem fs_mom (a p : Int32) (f g : Nat → Int32) : ∀ n, fs a (fun t => f t * (g t - p)) n + p * fs 0 f n = a + fs 0 (fun t => f t * g t) n
  | 0 => by show a + p * 0 = a + 0; grind
  | n + 1 => by
    have ih := fs_mom a p f g n
    show fs a (fun t => f t * (g t - p)) n + f n * (g n - p) + p * (fs 0 f n + f n) = a + (fs 0 (fun t => f t * g t) n + f n * g n)
    grind
theorem tmo_z (c : FA) (p : Int32) : tmo c p = fs 0 (fun t => c t * secA (t / 2)) 8 + fs 0 (fun h => c (112 + h) * hldA h) 3 := by
  have e1 : fs (p * (wgt c - 400)) (fun t => c t * (secA (t / 2) - p)) 8 + p * fs 0 c 8 = p * (wgt c - 400) + fs 0 (fun t => c t * secA (t / 2)) 8 := fs_mom (p * (wgt c - 400)) p c (fun t => secA (t / 2)) 8
  have e2 : fs (fs (p * (wgt c - 400)) (fun t => c t * (secA (t / 2) - p)) 8) (fun h => c (112 + h) * (hldA h - p)) 3 + p * fs 0 (fun h => c (112 + h)) 3 = fs (p * (wgt c - 400)) (fun t => c t * (secA (t / 2) - p)) 8 + fs 0 (fun h => c (112 + h) * hldA h) 3 := fs_mom (fs (p * (wgt c - 400)) (fun t => c t * (secA (t / 2) - p)) 8) p (fun h => c (112 + h)) hldA 3
  have e3 := wgt_pz c
  have e4 : fs 0 c 8 = pzT c := rfl
  have e5 : fs 0 (fun h => c (112 + h)) 3 = pzL c := rfl
  rw [e4] at e1
  rw [e5] at e2
  rw [e3] at e1 e2
  unfold tmo
  rw [e3]
  generalize fs (p * (400 + pzT c + pzL c - 400)) (fun t => c t * (secA (t / 2) - p)) 8 = I at *
  generalize fs I (fun h => c (112 + h) * (hldA h - p)) 3 = O at *
  generalize fs 0 (fun t => c t * secA (t / 2)) 8 = A at *
  generalize fs 0 (fun h => c (112 + h) * hldA h) 3 = H at *
  generalize pzT c = T at *
  generalize pzL c = L at *
  grind
/-- the law's own sums -/
def lz3 (c : FA) (n : Nat) : Int32 := fs 0 (fun t => c t * (20 * (nI t / 2) - 30)) n
def lz4 (c : FA) (n : Nat) : Int32 := fs 0 (fun t => c t * (8 * (nI t - nI t / 2 * 2) - 4)) n
def lh7 (c : FA) (n : Nat) : Int32 := fs (400 + pzT c) (fun h => c (112 + h)) n
def lh3 (c : FA) (n : Nat) : Int32 := fs (lz3 c 8) (fun h => c (112 + h) * (20 * nI h - 20)) n
def lh4 (c : FA) (n : Nat) : Int32 := fs (lz4 c 8) (fun h => c (112 + h) * c (115 + h)) n
theorem lh7_e (c : FA) : lh7 c 3 = wgt c := by
  unfold lh7
  rw [fs_z, wgt_pz]
  rfl
theorem lh3_e (c : FA) (p : Int32) : lh3 c 3 = tmo c p := by
  have e1 : lz3 c 8 = fs 0 (fun t => c t * secA (t / 2)) 8 := fs_cong 8 (fun k hk => by show c k * (20 * (nI k / 2) - 30) = c k * secA (k / 2); rw [(by decide : ∀ k, k < 8 → (20 : Int32) * (nI k / 2) - 30 = secA (k / 2)) k hk])
  have e2 : fs (lz3 c 8) (fun h => c (112 + h) * (20 * nI h - 20)) 3 = fs (lz3 c 8) (fun h => c (112 + h) * hldA h) 3 := fs_cong 3 (fun k hk => by show c (112 + k) * (20 * nI k - 20) = c (112 + k) * hldA k; rw [(by decide : ∀ k, k < 3 → (20 : Int32) * nI k - 20 = hldA k) k hk])
  rw [tmo_z, ← e1]
  unfold lh3
  rw [e2, fs_z]
theorem lh4_e (c : FA) : lh4 c 3 = lmo c := by
  have e1 : lz4 c 8 = fs 0 (fun t => c t * sidA (t % 2)) 8 := fs_cong 8 (fun k hk => by show c k * (8 * (nI k - nI k / 2 * 2) - 4) = c k * sidA (k % 2); rw [(by decide : ∀ k, k < 8 → (8 : Int32) * (nI k - nI k / 2 * 2) - 4 = sidA (k % 2)) k hk])
  unfold lh4 lmo
  rw [e1]
theorem lst_e {c : FA} (h : Rgz c) : lst c = 10 * lmo c / wgt c := if_neg (wgt_pos h)
theorem Wbz.e {c : FA} (h : Wbz c) : pzT c = 160 + c 157 - c 158 - lostS c := by
  unfold Wbz at h
  grind
/-! upright -/
/-- what she would list with ch units more in tank t -/
def wdz (c : FA) (t : Nat) (ch : Int32) : Int32 := 10 * (lmo c + ch * (8 * (nI t - nI t / 2 * 2) - 4)) / (wgt c + ch)
/-- (t, ch) may be tried: the water stays in the tank -/
def okz (c : FA) (t : Nat) (ch : Int32) : Prop := ¬ (c t + ch < 0) ∧ c t + ch ≤ 100
/-- what the best so far is, when the changes of P were tried -/
def bez (c : FA) (P : Nat → Int32 → Prop) (N : Nat) (U : US) : Prop :=
  (abi U.2.2).toInt ≤ (abi (lst c)).toInt ∧ (∀ t ch, t < 8 → P t ch → okz c t ch → (abi U.2.2).toInt ≤ (abi (wdz c t ch)).toInt) ∧
  ((U.1 = 0 ∧ U.2.1 = 0 ∧ U.2.2 = lst c) ∨ ∃ (t u : Nat) (ch : Int32), t < 8 ∧ 1 ≤ u ∧ u ≤ N ∧ (ch = nI u ∨ ch = -(nI u)) ∧ U = (nI t, ch, wdz c t ch))
theorem bez.weak {c : FA} {P Q : Nat → Int32 → Prop} {N : Nat} {U : US} (h : bez c P N U) (hq : ∀ t ch, t < 8 → Q t ch → okz c t ch → P t ch) : bez c Q N U := ⟨h.1, fun t ch ht hQ ho => h.2.1 t ch ht (hq t ch ht hQ ho) ho, h.2.2⟩
theorem bez.tak {c : FA} {P : Nat → Int32 → Prop} {N : Nat} {U : US} (h : bez c P N U) {t u : Nat} {ch li : Int32} (ht : t < 8) (h1 : 1 ≤ u) (h2 : u ≤ N) (hc : ch = nI u ∨ ch = -(nI u)) (hl : li = wdz c t ch) : bez c (fun t' ch' => P t' ch' ∨ (t' = t ∧ ch' = ch)) N (bet U (nI t) ch li) := by
  subst hl
  unfold bet
  by_cases z : abi (wdz c t ch) < abi U.2.2
  · rw [if_pos z]
    rw [Int32.lt_iff_toInt_lt] at z
    have h0 := h.1
    refine ⟨?_, fun t' ch' ht' hP ho => ?_, Or.inr ⟨t, u, ch, ht, h1, h2, hc, rfl⟩⟩
    · show (abi (wdz c t ch)).toInt ≤ _; omega
    · show (abi (wdz c t ch)).toInt ≤ _
      rcases hP with hP | ⟨rfl, rfl⟩
      · have := h.2.1 t' ch' ht' hP ho; omega
      · exact Int.le_refl _
  · rw [if_neg z]
    rw [Int32.lt_iff_toInt_lt] at z
    refine ⟨h.1, fun t' ch' ht' hP ho => ?_, h.2.2⟩
    rcases hP with hP | ⟨rfl, rfl⟩
    · exact h.2.1 t' ch' ht' hP ho
    · omega
theorem lof_wd {c : FA} (h : Rgz c) {t u : Nat} (ht : t < 8) (hu : u ≤ 100) (ch : Int32) (hc : ch = nI u ∨ ch = -(nI u)) : lof (lmo c + ch * sidA (t % 2)) (wgt c + ch) = wdz c t ch ∧ ¬ wgt c + ch = 0 := by
  have hw := wgt_bd h
  have hk : (nI u).toInt = u := nI_toInt (by omega)
  have hn : (-(nI u)).toInt = -u := by rw [pzNg (by omega), hk]
  have e1 : 0 < (wgt c + ch).toInt := by
    rcases hc with rfl | rfl
    · rw [pzA (by omega) (by omega)]; omega
    · rw [pzA (by omega) (by omega)]; omega
  have e2 : ¬ wgt c + ch ≤ 0 := by
    rw [Int32.le_iff_toInt_le, show (0 : Int32).toInt = 0 from rfl]; omega
  refine ⟨?_, fun e => e2 (by rw [e]; exact Int32.le_refl _)⟩
  unfold lof wdz
  rw [if_neg e2, (by decide : ∀ k, k < 8 → (8 : Int32) * (nI k - nI k / 2 * 2) - 4 = sidA (k % 2)) t ht]
theorem up_A {c : FA} (h : Rgz c) {P : Nat → Int32 → Prop} {N t u : Nat} {U : US} (g : bez c P N U) (ht : t < 8) (h1 : 1 ≤ u) (h2 : u ≤ N) (hN : N ≤ 100) : bez c (fun t' ch' => P t' ch' ∨ (t' = t ∧ (ch' = nI u ∨ ch' = -(nI u)))) N (up2 c u t (up1 c u t U)) := by
  have hw := h.w ht
  have hk : (nI u).toInt = u := nI_toInt (by omega)
  have g1 : bez c (fun t' ch' => P t' ch' ∨ (t' = t ∧ ch' = nI u)) N (up1 c u t U) := by
    unfold up1
    by_cases z : c t + nI u ≤ 100
    · rw [if_pos z]
      exact g.tak ht h1 h2 (Or.inl rfl) (lof_wd h ht (by omega) _ (Or.inl rfl)).1
    · rw [if_neg z]
      refine g.weak (fun t' ch' ht' hq ho => ?_)
      rcases hq with hq | ⟨rfl, rfl⟩
      · exact hq
      · exact absurd ho.2 z
  unfold up2
  by_cases z : c t - nI u < 0
  · rw [if_pos z]
    refine g1.weak (fun t' ch' ht' hq ho => ?_)
    rcases hq with hq | ⟨rfl, rfl | rfl⟩
    · exact Or.inl hq
    · exact Or.inr ⟨rfl, rfl⟩
    · exact absurd (by rw [← Int32.sub_eq_add_neg]; exact z) ho.1
  · rw [if_neg z]
    have e1 : lof (lmo c - nI u * sidA (t % 2)) (wgt c - nI u) = wdz c t (-(nI u)) := by
      rw [← (lof_wd h ht (show u ≤ 100 by omega) (-(nI u)) (Or.inr rfl)).1]
      congr 1
      · grind
      · grind
    refine (g1.tak ht h1 h2 (Or.inr rfl) e1).weak (fun t' ch' ht' hq ho => ?_)
    rcases hq with hq | ⟨rfl, rfl | rfl⟩
    · exact Or.inl (Or.inl hq)
    · exact Or.inl (Or.inr ⟨rfl, rfl⟩)
    · exact Or.inr ⟨rfl, rfl⟩
/-- all changes of at most n units -/
def upP (n : Nat) (ch : Int32) : Prop := ∃ u, 1 ≤ u ∧ u ≤ n ∧ (ch = nI u ∨ ch = -(nI u))
theorem upi_A {c : FA} (h : Rgz c) {N u : Nat} {P : Nat → Int32 → Prop} {U : US} (g : bez c P N U) (h1 : 1 ≤ u) (h2 : u ≤ N) (hN : N ≤ 100) : ∀ n, n ≤ 8 → bez c (fun t ch => P t ch ∨ (t < n ∧ (ch = nI u ∨ ch = -(nI u)))) N (upi c u U n)
  | 0, _ => g.weak (fun t ch _ hq _ => hq.elim (fun q => q) (fun q => absurd q.1 (Nat.not_lt_zero _)))
  | n + 1, hn => by
    refine (up_A h (upi_A h g h1 h2 hN n (by omega)) (by omega) h1 h2 hN).weak (fun t ch _ hq _ => ?_)
    rcases hq with hq | ⟨q1, q2⟩
    · exact Or.inl (Or.inl hq)
    · by_cases e : t = n
      · exact Or.inr ⟨e, q2⟩
      · exact Or.inl (Or.inr ⟨by omega, q2⟩)
theorem upo_A {c : FA} (h : Rgz c) {N : Nat} (hN : N ≤ 100) : ∀ n, n ≤ N → bez c (fun _ ch => upP n ch) N (upo c n)
  | 0, _ => ⟨Int.le_refl _, fun t ch _ hq _ => by obtain ⟨u, h1, h2, -⟩ := hq; omega, Or.inl ⟨rfl, rfl, rfl⟩⟩
  | n + 1, hn => by
    refine (upi_A h (upo_A h hN n (by omega)) (u := n + 1) (by omega) hn hN 8 (Nat.le_refl 8)).weak (fun t ch ht hq _ => ?_)
    obtain ⟨u, h1, h2, h3⟩ := hq
    by_cases e : u = n + 1
    · rw [e] at h3; exact Or.inr ⟨ht, h3⟩
    · exact Or.inl ⟨u, h1, by omega, h3⟩
