/-! ===== what minutes keep ===== -/
/-- from c to d, by the pump's mode m: ranges, balance, what levelling keeps, the draught when filling -/
def pzJ (m : Int32) (c d : FA) : Prop := Rgz d ∧ (Wbz c → Wbz d) ∧ (m = 4 → pzT d + lostS d = pzT c + lostS c) ∧ (m = 2 → dpz c → dpz d)
theorem pzJ.rf {m : Int32} {c : FA} (h : Rgz c) : pzJ m c c := ⟨h, fun q => q, fun _ => rfl, fun _ q => q⟩
theorem pzJ.tr {m : Int32} {c d e : FA} (h : pzJ m c d) (g : pzJ m d e) : pzJ m c e := ⟨g.1, fun q => g.2.1 (h.2.1 q), fun q => (g.2.2.1 q).trans (h.2.2.1 q), fun q z => g.2.2.2 q (h.2.2.2 q z)⟩
theorem tfi_in {c : FA} {x : Int32} {k : Nat} (h : tfi c x = some k) : c k < 100 ∧ (wgt c + 1) / 10 ≤ c 130 := by
  unfold tfi at h
  split at h
  · cases h
  · split at h
    · next h1 =>
      split at h
      · next h2 => cases h; exact ⟨h1, h2⟩
      · cases h
    · cases h
theorem tem_in {c : FA} {x : Int32} {k : Nat} (h : tem c x = some k) : 0 < c k := by
  unfold tem at h
  split at h
  · cases h
  · split at h
    · next h1 => cases h; exact h1
    · cases h
theorem tlo_in {c : FA} {x : Int32} {k : Nat} (h : tlo c x = some k) : ∃ t, emp c x 8 = some t ∧ ¬ c k - c t < 2 := by
  unfold tlo at h
  split at h
  · cases h
  · split at h
    · cases h
    · next t ht =>
      split at h
      · cases h
      · next z => cases h; exact ⟨t, ht, z⟩
theorem mvb_T {c : FA} {k : Nat} {u : Int32} (hk : k < 8) : pzT (mvb c k u) = pzT c + u := by
  unfold mvb
  rw [show ad (ad c k u) (24 + k) 1 = upd (ad c k u) (24 + k) (ad c k u (24 + k) + 1) from rfl, pzT_ne (by omega), pzT_ad hk]
theorem mvb_L {c : FA} {k : Nat} {u : Int32} (hk : k < 8) : pzL (mvb c k u) = pzL c := by
  unfold mvb ad
  rw [pzL_ne (by omega), pzL_ne (by omega)]
theorem mvb_lost {c : FA} {k : Nat} {u : Int32} (hk : k < 8) : lostS (mvb c k u) = lostS c := by
  unfold mvb ad
  rw [lostS_ne (by omega), lostS_ne (by omega)]
theorem mvb_hi {c : FA} {k j : Nat} {u : Int32} (hk : k < 8) (hj : 32 ≤ j) : mvb c k u j = c j := by
  unfold mvb ad
  rw [pk_un (by omega), pk_un (by omega)]
theorem mvb_k {c : FA} {k : Nat} {u : Int32} (hk : k < 8) : mvb c k u k = c k + u := by
  unfold mvb ad
  rw [pk_un (by omega), pk_us]
theorem mvb_o {c : FA} {k j : Nat} {u : Int32} (hj : j < 8) (h : j ≠ k) : mvb c k u j = c j := by
  unfold mvb ad
  rw [pk_un (by omega), pk_un h]
theorem mvb_R {c : FA} (h : Rgz c) {k : Nat} {u : Int32} (hk : k < 8) (hu : 0 ≤ (c k + u).toInt ∧ (c k + u).toInt ≤ 100) : Rgz (mvb c k u) := by
  unfold mvb
  refine Rgz.fr (Rgz.up h ?_) (by unfold pzF; omega)
  rw [pzR_0 hk]
  exact hu
theorem mvu_J {m x : Int32} {c d : FA} (h : Rgz c) (hd : mvu m c x = some d) : pzJ m c d := by
  have i1 : (1 : Int32).toInt = 1 := rfl
  have im : (-1 : Int32).toInt = -1 := rfl
  unfold mvu at hd
  by_cases e2 : m = 2
  · rw [if_pos e2] at hd
    cases ht : tfi c x with
    | none =>
      rw [ht] at hd
      cases (show (none : Option FA) = some d from hd)
    | some k =>
      rw [ht] at hd
      have hd : some (ad (mvb c k 1) 157 1) = some d := hd
      cases hd
      have hk := tfi_lt ht
      obtain ⟨t1, t2⟩ := tfi_in ht
      have hw := h.w hk
      rw [Int32.lt_iff_toInt_lt, show (100 : Int32).toInt = 100 from rfl] at t1
      have e3 : (c k + 1).toInt = (c k).toInt + 1 := by rw [pzA (by omega) (by omega), i1]
      have hR : Rgz (ad (mvb c k 1) 157 1) := Rgz.fr (mvb_R h hk (by omega)) (by unfold pzF; omega)
      have eT : pzT (ad (mvb c k 1) 157 1) = pzT c + 1 := by rw [show ad (mvb c k 1) 157 1 = upd (mvb c k 1) 157 (mvb c k 1 157 + 1) from rfl, pzT_ne (by decide), mvb_T hk]
      have eL : pzL (ad (mvb c k 1) 157 1) = pzL c := by rw [show ad (mvb c k 1) 157 1 = upd (mvb c k 1) 157 (mvb c k 1 157 + 1) from rfl, pzL_ne (by decide), mvb_L hk]
      have eS : lostS (ad (mvb c k 1) 157 1) = lostS c := by rw [show ad (mvb c k 1) 157 1 = upd (mvb c k 1) 157 (mvb c k 1 157 + 1) from rfl, lostS_ne (by decide), mvb_lost hk]
      refine ⟨hR, fun q => ?_, fun q => absurd (e2.symm.trans q) (by decide), fun _ _ => ?_⟩
      · unfold Wbz at q ⊢
        rw [eT, eS, show ad (mvb c k 1) 157 1 158 = c 158 by unfold ad; rw [pk_un (by decide), mvb_hi hk (by decide)], show ad (mvb c k 1) 157 1 157 = c 157 + 1 by unfold ad; rw [pk_us, mvb_hi hk (by decide)]]
        grind
      · unfold dpz
        rw [show wgt (ad (mvb c k 1) 157 1) = wgt c + 1 by rw [wgt_pz, wgt_pz, eT, eL]; grind, show ad (mvb c k 1) 157 1 130 = c 130 by unfold ad; rw [pk_un (by decide), mvb_hi hk (by decide)]]
        exact t2
  rw [if_neg e2] at hd
  by_cases e3 : m = 3
  · rw [if_pos e3] at hd
    cases ht : tem c x with
    | none =>
      rw [ht] at hd
      cases (show (none : Option FA) = some d from hd)
    | some k =>
      rw [ht] at hd
      have hd : some (ad (mvb c k (-1)) 158 1) = some d := hd
      cases hd
      have hk := tem_lt ht
      have t1 := tem_in ht
      have hw := h.w hk
      rw [Int32.lt_iff_toInt_lt, show (0 : Int32).toInt = 0 from rfl] at t1
      have e4 : (c k + -1).toInt = (c k).toInt + -1 := by rw [pzA (by omega) (by omega), im]
      have hR : Rgz (ad (mvb c k (-1)) 158 1) := Rgz.fr (mvb_R h hk (by omega)) (by unfold pzF; omega)
      refine ⟨hR, fun q => ?_, fun q => absurd (e3.symm.trans q) (by decide), fun q => absurd q e2⟩
      unfold Wbz at q ⊢
      rw [show ad (mvb c k (-1)) 158 1 = upd (mvb c k (-1)) 158 (mvb c k (-1) 158 + 1) from rfl, pzT_ne (by decide), mvb_T hk, lostS_ne (by decide), mvb_lost hk, pk_us, pk_un (by decide), mvb_hi hk (by decide), mvb_hi hk (by decide)]
      grind
  rw [if_neg e3] at hd
  by_cases e4 : m = 4
  · rw [if_pos e4] at hd
    cases ht : tlo c x with
    | none =>
      rw [ht] at hd
      cases (show (none : Option FA) = some d from hd)
    | some f =>
      rw [ht] at hd
      obtain ⟨t, he, hlt⟩ := tlo_in ht
      rw [he] at hd
      have hd : some (ad (mvb (mvb c f (-1)) t 1) 159 1) = some d := hd
      cases hd
      have hf := tlo_lt ht
      have htl := emp_lt he
      have wf := h.w hf
      have wt := h.w htl
      rw [Int32.lt_iff_toInt_lt, pzS (by omega) (by omega), show (2 : Int32).toInt = 2 from rfl] at hlt
      have hne : t ≠ f := fun e => by subst e; omega
      have a1 : (c f + -1).toInt = (c f).toInt + -1 := by rw [pzA (by omega) (by omega), im]
      have a2 : (c t + 1).toInt = (c t).toInt + 1 := by rw [pzA (by omega) (by omega), i1]
      have hR1 : Rgz (mvb c f (-1)) := mvb_R h hf (by omega)
      have hR : Rgz (ad (mvb (mvb c f (-1)) t 1) 159 1) := Rgz.fr (mvb_R hR1 htl (by rw [mvb_o htl hne]; omega)) (by unfold pzF; omega)
      have eT : pzT (ad (mvb (mvb c f (-1)) t 1) 159 1) = pzT c := by
        rw [show ad (mvb (mvb c f (-1)) t 1) 159 1 = upd (mvb (mvb c f (-1)) t 1) 159 (mvb (mvb c f (-1)) t 1 159 + 1) from rfl, pzT_ne (by decide), mvb_T htl, mvb_T hf]
        grind
      have eS : lostS (ad (mvb (mvb c f (-1)) t 1) 159 1) = lostS c := by
        rw [show ad (mvb (mvb c f (-1)) t 1) 159 1 = upd (mvb (mvb c f (-1)) t 1) 159 (mvb (mvb c f (-1)) t 1 159 + 1) from rfl, lostS_ne (by decide), mvb_lost htl, mvb_lost hf]
      refine ⟨hR, fun q => ?_, fun _ => by rw [eT, eS], fun q => absurd q e2⟩
      unfold Wbz at q ⊢
      rw [eT, eS, show ad (mvb (mvb c f (-1)) t 1) 159 1 158 = c 158 by unfold ad; rw [pk_un (by decide), mvb_hi htl (by decide), mvb_hi hf (by decide)], show ad (mvb (mvb c f (-1)) t 1) 159 1 157 = c 157 by unfold ad; rw [pk_un (by decide), mvb_hi htl (by decide), mvb_hi hf (by decide)]]
      exact q
  rw [if_neg e4] at hd
  cases hd
theorem pmp_1 {m x : Int32} {r : Nat} {c : FA} : pmp m x (r + 1) c = match mvu m c x with
    | some c' => pmp m x r c'
    | none => c := rfl
theorem pmp_J {m x : Int32} : ∀ (r : Nat) (c : FA), Rgz c → pzJ m c (pmp m x r c)
  | 0, c, h => pzJ.rf h
  | r + 1, c, h => by
    rw [pmp_1]
    cases hv : mvu m c x with
    | none => exact pzJ.rf h
    | some d =>
      have g := mvu_J h hv
      exact g.tr (pmp_J r d g.1)
/-- what leaks out of tank n -/
def lkv (c : FA) (n : Nat) : Int32 := if lk c n n < lk c n (8 + n) then lk c n n else lk c n (8 + n)
theorem lk_s (c : FA) (n : Nat) : lk c (n + 1) = ad (ad (lk c n) n (-(lkv c n))) (16 + n) (lkv c n) := rfl
theorem lk_J {m : Int32} {c : FA} (h : Rgz c) : ∀ n, n ≤ 8 → pzJ m c (lk c n)
  | 0, _ => pzJ.rf h
  | n + 1, hn => by
    have g := lk_J (m := m) h n (by omega)
    refine g.tr ?_
    have hn8 : n < 8 := by omega
    have hw := g.1.w hn8
    have hk := g.1.k hn8
    have hv : 0 ≤ (lkv c n).toInt ∧ (lkv c n).toInt ≤ (lk c n n).toInt := by
      unfold lkv
      split
      · omega
      · next z =>
        rw [Int32.lt_iff_toInt_lt] at z
        omega
    rw [lk_s]
    generalize lkv c n = v at hv ⊢
    generalize lk c n = d at *
    have e1 : (-v).toInt = -v.toInt := pzNg (by omega)
    have e2 : (d n + -v).toInt = (d n).toInt + -v.toInt := by rw [pzA (by omega) (by omega), e1]
    have hR : Rgz (ad (ad d n (-v)) (16 + n) v) := Rgz.fr (Rgz.up g.1 (by rw [pzR_0 hn8]; show 0 ≤ (d n + -v).toInt ∧ (d n + -v).toInt ≤ 100; omega)) (by unfold pzF; omega)
    have eT : pzT (ad (ad d n (-v)) (16 + n) v) = pzT d + -v := by
      rw [show ad (ad d n (-v)) (16 + n) v = upd (ad d n (-v)) (16 + n) (ad d n (-v) (16 + n) + v) from rfl, pzT_ne (by omega), pzT_ad hn8]
    have eL : pzL (ad (ad d n (-v)) (16 + n) v) = pzL d := by
      unfold ad
      rw [pzL_ne (by omega), pzL_ne (by omega)]
    have eS : lostS (ad (ad d n (-v)) (16 + n) v) = lostS d + v := by
      rw [lostS_ad hn8, show ad d n (-v) = upd d n (d n + -v) from rfl, lostS_ne (by omega)]
    have eh : ∀ j, 32 ≤ j → ad (ad d n (-v)) (16 + n) v j = d j := fun j hj => by unfold ad; rw [pk_un (by omega), pk_un (by omega)]
    refine ⟨hR, fun q => ?_, fun _ => ?_, fun _ q => ?_⟩
    · unfold Wbz at q ⊢
      rw [eT, eS, eh 158 (by decide), eh 157 (by decide)]
      grind
    · rw [eT, eS]
      grind
    · rw [dpz_in g.1] at q
      rw [dpz_in hR, wgt_in hR, eT, eL, eh 130 (by decide)]
      rw [wgt_in g.1] at q
      have b1 := pzT_bd g.1
      have b2 := pzT_bd hR
      rw [eT] at b2
      have e3 : (pzT d + -v).toInt = (pzT d).toInt + -v.toInt := by rw [pzA (by omega) (by omega), e1]
      omega
theorem lkm_J {m : Int32} {c : FA} (h : Rgz c) : pzJ m c (lkm c) := by
  unfold lkm
  split
  · exact lk_J h 8 (Nat.le_refl 8)
  · exact pzJ.rf h
theorem abi_in (x : Int32) (h : -2147483647 ≤ x.toInt) : (abi x).toInt = if 0 ≤ x.toInt then x.toInt else -x.toInt := by
  have i0 : (0 : Int32).toInt = 0 := rfl
  have h2 := pzB x
  unfold abi
  by_cases z : 0 ≤ x
  · rw [if_pos z]
    rw [Int32.le_iff_toInt_le, i0] at z
    rw [if_pos z]
  · rw [if_neg z]
    rw [Int32.le_iff_toInt_le, i0] at z
    rw [if_neg z, pzS (by omega) (by omega), i0]
    omega
theorem pzJ.un {m : Int32} {c d : FA} (hR : Rgz d) (e : ∀ j, j < 115 ∨ j = 130 ∨ j = 157 ∨ j = 158 → d j = c j) : pzJ m c d := by
  have eT : pzT d = pzT c := fs_cong 8 (fun k hk => e k (by omega))
  have eL : pzL d = pzL c := fs_cong 3 (fun k hk => e (112 + k) (by omega))
  have eS : lostS d = lostS c := fs_cong 8 (fun k hk => e (16 + k) (by omega))
  refine ⟨hR, fun q => ?_, fun _ => by rw [eT, eS], fun _ q => ?_⟩
  · unfold Wbz at q ⊢
    rw [eT, eS, e 158 (by omega), e 157 (by omega)]
    exact q
  · unfold dpz at q ⊢
    rw [wgt_pz, eT, eL, e 130 (by omega), ← wgt_pz]
    exact q
theorem shl_J {m : Int32} {c : FA} (h : Rgz c) {st : Int32} (hst : st = 1 ∨ st = -1) : ∀ n, n ≤ 3 → pzJ m c (shl c st n)
  | 0, _ => pzJ.rf h
  | n + 1, hn => by
    have g := shl_J (m := m) h hst n (by omega)
    refine g.tr ?_
    have hf := g.1.f (show n < 3 by omega)
    rw [show shl c st (n + 1) = if 0 < shl c st n (112 + n) ∧ abi (shl c st n (115 + n) + st) ≤ 3 then ad (upd (shl c st n) (115 + n) (shl c st n (115 + n) + st)) 161 1 else shl c st n from rfl]
    generalize shl c st n = d at *
    split
    · next z =>
      have e1 : (d (115 + n) + st).toInt = (d (115 + n)).toInt + st.toInt := by
        rcases hst with rfl | rfl
        · rw [pzA (by rw [show (1 : Int32).toInt = 1 from rfl]; omega) (by rw [show (1 : Int32).toInt = 1 from rfl]; omega)]
        · rw [pzA (by rw [show (-1 : Int32).toInt = -1 from rfl]; omega) (by rw [show (-1 : Int32).toInt = -1 from rfl]; omega)]
      have e2 : -1 ≤ st.toInt ∧ st.toInt ≤ 1 := by rcases hst with rfl | rfl <;> decide
      have z2 := z.2
      rw [Int32.le_iff_toInt_le, abi_in _ (by omega), show (3 : Int32).toInt = 3 from rfl] at z2
      have hR : Rgz (ad (upd d (115 + n) (d (115 + n) + st)) 161 1) := by
        refine Rgz.fr (Rgz.up g.1 ?_) (by unfold pzF; omega)
        rw [pzR_115 (by omega)]
        show -3 ≤ (d (115 + n) + st).toInt ∧ (d (115 + n) + st).toInt ≤ 3
        split at z2 <;> omega
      exact pzJ.un hR (fun j hj => by unfold ad; rw [pk_un (by omega), pk_un (by omega)])
    · exact pzJ.rf g.1
theorem shf_J {m : Int32} {c : FA} (h : Rgz c) : pzJ m c (shf c) := by
  unfold shf
  split
  · exact shl_J h (by split <;> simp) 3 (Nat.le_refl 3)
  · exact pzJ.rf h
theorem mnt_J {m x : Int32} {r : Nat} {c : FA} (h : Rgz c) : pzJ m c (mnt m x r c) := by
  have g1 : pzJ m c (ad c 156 1) := pzJ.un (Rgz.fr h (by unfold pzF; omega)) (fun j hj => by unfold ad; exact pk_un (by omega))
  have g2 := g1.tr (pmp_J (x := x) r _ g1.1)
  have g3 := g2.tr (lkm_J (m := m) g2.1)
  exact g3.tr (shf_J g3.1)
theorem mns_J {m x : Int32} {r : Nat} {c : FA} (h : Rgz c) : ∀ n, pzJ m c (mns m x r c n)
  | 0 => pzJ.rf h
  | n + 1 => (mns_J h n).tr (mnt_J (mns_J (m := m) (x := x) (r := r) h n).1)
