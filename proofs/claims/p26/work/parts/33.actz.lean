/-! ===== what each act keeps ===== -/
theorem lmo_bd {c : FA} (h : Rgz c) : -5900 ≤ (lmo c).toInt ∧ (lmo c).toInt ≤ 5900 := by
  have h1 : ∀ t, t < 8 → -400 ≤ (c t * sidA (t % 2)).toInt ∧ (c t * sidA (t % 2)).toInt ≤ 400 := by
    intro t ht
    have hw := h.w ht
    have e : (sidA (t % 2)).toInt = 4 ∨ (sidA (t % 2)).toInt = -4 := by
      rcases (show t % 2 = 0 ∨ t % 2 = 1 by omega) with e | e
      · rw [e]; exact Or.inr rfl
      · rw [e]; exact Or.inl rfl
    rcases e with e | e
    · rw [pzM (by rw [e]; omega) (by rw [e]; omega), e]; omega
    · rw [pzM (by rw [e]; omega) (by rw [e]; omega), e]; omega
  have h2 : ∀ k, k < 3 → -900 ≤ (c (112 + k) * c (115 + k)).toInt ∧ (c (112 + k) * c (115 + k)).toInt ≤ 900 := by
    intro k hk
    have hl := h.l hk
    have hf := h.f hk
    have e : (c (115 + k)).toInt = -3 ∨ (c (115 + k)).toInt = -2 ∨ (c (115 + k)).toInt = -1 ∨ (c (115 + k)).toInt = 0 ∨ (c (115 + k)).toInt = 1 ∨ (c (115 + k)).toInt = 2 ∨ (c (115 + k)).toInt = 3 := by omega
    rcases e with e | e | e | e | e | e | e
    all_goals
      rw [pzM (by rw [e]; omega) (by rw [e]; omega), e]; omega
  have i0 : (0 : Int32).toInt = 0 := rfl
  have b1 := fs_bd (a := 0) (f := fun t => c t * sidA (t % 2)) (lo := -400) (hi := 400) (by omega) (by omega) 8 h1 (by rw [i0]; omega) (by rw [i0]; omega)
  rw [i0] at b1
  have b2 := fs_bd (a := fs 0 (fun t => c t * sidA (t % 2)) 8) (f := fun h => c (112 + h) * c (115 + h)) (lo := -900) (hi := 900) (by omega) (by omega) 3 h2 (by omega) (by omega)
  unfold lmo
  omega
theorem wgt_pos {c : FA} (h : Rgz c) : ¬ wgt c ≤ 0 := by
  have := wgt_bd h
  rw [Int32.le_iff_toInt_le, show (0 : Int32).toInt = 0 from rfl]
  omega
theorem wgt_ne {c : FA} (h : Rgz c) : ¬ wgt c = 0 := fun e => wgt_pos h (by rw [e]; exact Int32.le_refl _)
theorem tdiv_lo {x w : Int} (h1 : -59000 ≤ x) (h2 : x ≤ 59000) (hw : 59 < w) : -1000 ≤ x.tdiv w ∧ x.tdiv w ≤ 1000 := by
  by_cases z : 0 ≤ x
  · rw [Int.tdiv_eq_ediv_of_nonneg z]
    have a1 := Int.ediv_nonneg z (show 0 ≤ w by omega)
    have a2 : x / w < 1001 := Int.ediv_lt_of_lt_mul (by omega) (by omega)
    omega
  · have e : x.tdiv w = -((-x).tdiv w) := by rw [Int.neg_tdiv, Int.neg_neg]
    rw [e, Int.tdiv_eq_ediv_of_nonneg (show 0 ≤ -x by omega)]
    have a1 := Int.ediv_nonneg (show 0 ≤ -x by omega) (show 0 ≤ w by omega)
    have a2 : -x / w < 1001 := Int.ediv_lt_of_lt_mul (by omega) (by omega)
    omega
theorem lof_bd {m w : Int32} (h1 : -5900 ≤ m.toInt) (h2 : m.toInt ≤ 5900) (hw : 59 < w.toInt) : -1000 ≤ (lof m w).toInt ∧ (lof m w).toInt ≤ 1000 := by
  unfold lof
  rw [if_neg (by rw [Int32.le_iff_toInt_le, show (0 : Int32).toInt = 0 from rfl]; omega)]
  have e : (10 * m).toInt = 10 * m.toInt := by rw [pzM (by rw [show (10 : Int32).toInt = 10 from rfl]; omega) (by rw [show (10 : Int32).toInt = 10 from rfl]; omega)]; rfl
  rw [pzD (by intro q; rw [q] at hw; exact absurd hw (by decide)), e]
  exact tdiv_lo (by omega) (by omega) hw
theorem lst_bd {c : FA} (h : Rgz c) : -1000 ≤ (lst c).toInt ∧ (lst c).toInt ≤ 1000 := by
  have h1 := lmo_bd h
  have h2 := wgt_bd h
  exact lof_bd h1.1 h1.2 (by omega)
/-- an act's answer is no refusal of its arguments, and the cells behind it are well -/
def AOz (B : Nat) (c : FA) (S : Int32 × Option FA) : Prop := (-1000 ≤ S.1.toInt ∨ S.1 = -1003 ∨ S.1 = -1004 ∨ S.1 = -1005) ∧ ∀ d, S.2 = some d → Gdz (B + 720) d ∧ ∃ k l : Nat, k ≤ 720 ∧ l ≤ 2160 ∧ d 156 = c 156 + nI k ∧ d 161 = c 161 + nI l
theorem Gdz.up {B : Nat} {c : FA} (h : Gdz B c) {j : Nat} {v : Int32} (h8 : 8 ≤ j) (h1 : j < 131) (h2 : j < 16 ∨ 24 ≤ j) (hv : (pzR j).1 ≤ v.toInt ∧ v.toInt ≤ (pzR j).2) : Gdz B (upd c j v) := by
  obtain ⟨g1, g2, ⟨N, g3⟩, ⟨M, g4, g5⟩, S, g6, g7⟩ := h
  exact ⟨g1.up hv, g2.cg (fun i hi => pk_un (by omega)), ⟨N, g3.cg (fun i a1 a2 => pk_un (by omega))⟩, ⟨M, g4, (pk_un (by omega)).trans g5⟩, S, g6, (pk_un (by omega)).trans g7⟩
theorem AOz.same {B : Nat} {c : FA} {v : Int32} {d : FA} (hv : -1000 ≤ v.toInt) (hd : Gdz B d) (e1 : d 156 = c 156) (e2 : d 161 = c 161) : AOz B c (v, some d) := by
  refine ⟨Or.inl hv, fun d' e => ?_⟩
  cases e
  exact ⟨hd.mono (by omega), 0, 0, by decide, by decide, e1.trans (Int32.add_zero _).symm, e2.trans (Int32.add_zero _).symm⟩
theorem AOz.none {B : Nat} {c : FA} {v : Int32} (hv : -1000 ≤ v.toInt ∨ v = -1003 ∨ v = -1004 ∨ v = -1005) : AOz B c (v, none) := ⟨hv, fun d e => by cases e⟩
theorem chg_A {B : Nat} {c : FA} (h : Gdz B c) {j : Nat} {v : Int32} (h8 : 8 ≤ j) (h1 : j < 131) (h2 : j < 16 ∨ 24 ≤ j) (hv : (pzR j).1 ≤ v.toInt ∧ v.toInt ≤ (pzR j).2) (ho : -1000 ≤ (c j).toInt) : AOz B c (chg c j v) := by
  unfold chg
  split
  · exact AOz.none (Or.inr (Or.inr (Or.inr rfl)))
  · exact AOz.same ho (h.up h8 h1 h2 hv) (pk_un (by omega)) (pk_un (by omega))
theorem pzle {a b : Int32} (h : a ≤ b) : a.toInt ≤ b.toInt := Int32.le_iff_toInt_le.mp h
theorem lek_A {B : Nat} {c : FA} (h : Gdz B c) {t l : Int32} (h1 : 0 ≤ t ∧ t ≤ 7) (h2 : 0 ≤ l ∧ l ≤ 9) : AOz B c (lek c t l) := by
  obtain ⟨j, hj, rfl⟩ := rng (n := 7) rfl (by decide) h1
  have ej : ix (nI j) = j := ix_nI (by omega)
  unfold lek
  rw [if_neg (fun q => q h1), if_neg (fun q => q h2), ej]
  have b := h.1.k (show j < 8 by omega)
  refine chg_A h (by omega) (by omega) (by omega) ?_ (by omega)
  rw [pzR_8 (by omega)]
  exact ⟨pzle h2.1, pzle h2.2⟩
theorem sgr_A {B : Nat} {c : FA} (h : Gdz B c) {g x : Int32} (h1 : 0 ≤ g ∧ g ≤ 4) (h2 : 1 ≤ x ∧ x ≤ 255) : AOz B c (sgr c g x) := by
  obtain ⟨j, hj, rfl⟩ := rng (n := 4) rfl (by decide) h1
  have ej : ix (nI j) = j := ix_nI (by omega)
  unfold sgr
  rw [if_neg (fun q => q h1), if_neg (fun q => q h2), ej]
  have b := h.1.g (show j < 5 by omega)
  refine chg_A h (by omega) (by omega) (by omega) ?_ (by omega)
  rw [pzR_118 (by omega)]
  exact ⟨pzle h2.1, pzle h2.2⟩
theorem stt_A {B : Nat} {c : FA} (h : Gdz B c) {j : Nat} {v : Int32} (hj : j < 3) (h2 : leS j ≤ v ∧ v ≤ moS j) : AOz B c (stt c (nI j) v) := by
  have ej : ix (nI j) = j := ix_nI (by omega)
  have h1 : 0 ≤ nI j ∧ nI j ≤ 2 := by
    match j, hj with
    | 0, _ => decide
    | 1, _ => decide
    | 2, _ => decide
    | j + 3, q => exact absurd q (by omega)
  unfold stt
  rw [ej, if_neg (fun q => q.elim (fun q => q h1) (fun q => q h2))]
  have a1 := pzle h2.1
  have a2 := pzle h2.2
  match j, hj, a1, a2 with
  | 0, _, a1, a2 => exact chg_A h (by decide) (by decide) (by decide) ⟨a1, a2⟩ (by have := h.1.q1; show -1000 ≤ (c 128).toInt; omega)
  | 1, _, a1, a2 => exact chg_A h (by decide) (by decide) (by decide) ⟨a1, a2⟩ (by have := h.1.q2; show -1000 ≤ (c 129).toInt; omega)
  | 2, _, a1, a2 => exact chg_A h (by decide) (by decide) (by decide) ⟨a1, a2⟩ (by have := h.1.q3; show -1000 ≤ (c 130).toInt; omega)
  | j + 3, q, _, _ => exact absurd q (by omega)
theorem lod_A {B : Nat} {c : FA} (h : Gdz B c) {k l s : Int32} (h1 : 0 ≤ k ∧ k ≤ 2) (h2 : 0 ≤ l ∧ l ≤ 300) (h3 : -3 ≤ s ∧ s ≤ 3) : AOz B c (lod c k l s) := by
  obtain ⟨j, hj, rfl⟩ := rng (n := 2) rfl (by decide) h1
  have ej : ix (nI j) = j := ix_nI (by omega)
  unfold lod
  rw [if_neg (fun q => q h1), if_neg (fun q => q.elim (fun q => q h2) (fun q => q h3)), ej]
  have a1 := pzle h2.1
  have a2 := pzle h2.2
  rw [show (0 : Int32).toInt = 0 from rfl] at a1
  rw [show (300 : Int32).toInt = 300 from rfl] at a2
  split
  · exact AOz.none (Or.inr (Or.inr (Or.inl rfl)))
  · split
    · exact AOz.none (Or.inr (Or.inr (Or.inr rfl)))
    · have b := h.1.l (show j < 3 by omega)
      have w := wgt_bd h.1
      refine AOz.same ?_ ((h.up (j := 112 + j) (by omega) (by omega) (by omega) ?_).up (j := 115 + j) (by omega) (by omega) (by omega) ?_) ?_ ?_
      · have e1 : (wgt c - c (112 + j)).toInt = (wgt c).toInt - (c (112 + j)).toInt := pzS (by omega) (by omega)
        have e2 : (wgt c - c (112 + j) + l).toInt = (wgt c).toInt - (c (112 + j)).toInt + l.toInt := by rw [pzA (by omega) (by omega), e1]
        rw [pzD (by decide), e2, show (10 : Int32).toInt = 10 from rfl, Int.tdiv_eq_ediv_of_nonneg (by omega)]
        omega
      · rw [pzR_112 (by omega)]; exact ⟨a1, a2⟩
      · rw [pzR_115 (by omega)]; exact ⟨pzle h3.1, pzle h3.2⟩
      · rw [pk_un (by omega), pk_un (by omega)]
      · rw [pk_un (by omega), pk_un (by omega)]
theorem ord_A {B N k b : Nat} {c : FA} (h : Gdz B c) (hN : RowOk c N) (hg : k < 5 ∧ (k < 2 → b < 5) ∧ (2 ≤ k → 1 ≤ b) ∧ b ≤ 60) : AOz B c (ord c (nI k) (nI b) N) := by
  unfold ord
  split
  · exact AOz.none (Or.inr (Or.inl rfl))
  · next z =>
    refine AOz.same ?_ (h.row (fun j hj => ?_) (rowok_wt hN (by omega) hg)) ?_ ?_
    · rw [nI_1, nI_toInt (by omega)]; omega
    · unfold pat; rw [pk_un (by omega), pk_un (by omega), pk_un (by omega)]
    · unfold pat; rw [pk_un (by omega), pk_un (by omega), pk_un (by omega)]
    · unfold pat; rw [pk_un (by omega), pk_un (by omega), pk_un (by omega)]
theorem stq_A {B N : Nat} {c : FA} (h : Gdz B c) (hN : RowOk c N) {k : Int32} (hk : 0 ≤ k ∧ k ≤ 4) : AOz B c (stq c k N) := by
  have h12 := hN.2.1
  have hle := stk_le c k N
  have hj := (stk_l c k N h12).2.1
  unfold stq
  rw [if_neg (fun q => q hk)]
  split
  · exact AOz.none (Or.inr (Or.inr (Or.inr rfl)))
  · refine AOz.same ?_ (h.row (fun j hq => ?_) (rowok_st hN)) ?_ ?_
    · rw [nI_sub hle, nI_toInt (by omega)]; omega
    · rw [pk_un (by omega)]; exact hj j (by omega)
    · rw [pk_un (by omega)]; exact hj 156 (by omega)
    · rw [pk_un (by omega)]; exact hj 161 (by omega)
theorem mns_G {B : Nat} {c : FA} (h : Gdz B c) {m x : Int32} {r : Nat} (n : Nat) : Gdz (B + n) (mns m x r c n) := by
  obtain ⟨g1, g2, ⟨N, g3⟩, ⟨M, g4, g5⟩, S, g6, g7⟩ := h
  have J := mns_J (m := m) (x := x) (r := r) g1 n
  obtain ⟨k, hk, e⟩ := mns_161 m x r c n
  refine ⟨J.1, J.2.1 g2, ⟨N, g3.cg (fun j h1 h2 => mns_fx (by unfold fx; omega) n)⟩, ⟨M + n, by omega, ?_⟩, S + k, by omega, ?_⟩
  · rw [mns_156, g5, nI_add]
  · rw [e, g7, nI_add]
theorem pas_A {B r : Nat} {c : FA} (h : Gdz B c) {m : Int32} (hm : 1 ≤ m ∧ m ≤ 200) : AOz B c (pas c m r) := by
  obtain ⟨j, hj, rfl⟩ := rng (n := 200) rfl (by decide) ⟨Int32.le_trans (by decide) hm.1, hm.2⟩
  have ej : ix (nI j) = j := ix_nI (by omega)
  unfold pas
  rw [if_neg (fun q => q hm), ej]
  have G := mns_G h (m := -1) (x := opn c 5) (r := r) j
  obtain ⟨k, hk, e⟩ := mns_161 (-1) (opn c 5) r c j
  refine ⟨Or.inl (lst_bd G.1).1, fun d q => ?_⟩
  cases q
  exact ⟨G.mono (by omega), j, k, by omega, by omega, mns_156 _ _ _ _ j, e⟩
