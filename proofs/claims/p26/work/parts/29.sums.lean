/-! ===== numbers, sums, the ranges of the cells, the balance of water ===== -/
theorem pzA {a b : Int32} (h1 : -2147483648 ≤ a.toInt + b.toInt) (h2 : a.toInt + b.toInt ≤ 2147483647) : (a + b).toInt = a.toInt + b.toInt := by
  rw [Int32.toInt_add]; exact Int.bmod_eq_of_le (by omega) (by omega)
theorem pzS {a b : Int32} (h1 : -2147483648 ≤ a.toInt - b.toInt) (h2 : a.toInt - b.toInt ≤ 2147483647) : (a - b).toInt = a.toInt - b.toInt := by
  rw [Int32.toInt_sub]; exact Int.bmod_eq_of_le (by omega) (by omega)
theorem pzM {a b : Int32} (h1 : -2147483648 ≤ a.toInt * b.toInt) (h2 : a.toInt * b.toInt ≤ 2147483647) : (a * b).toInt = a.toInt * b.toInt := by
  rw [Int32.toInt_mul]; exact Int.bmod_eq_of_le (by omega) (by omega)
theorem pzNg {a : Int32} (h1 : -2147483647 ≤ a.toInt) : (-a).toInt = -a.toInt := by
  have := Int32.toInt_lt a
  rw [Int32.toInt_neg]; exact Int.bmod_eq_of_le (by omega) (by omega)
theorem pzD {a b : Int32} (h : b ≠ -1) : (a / b).toInt = a.toInt.tdiv b.toInt := Int32.toInt_div_of_ne_right a b h
theorem pzlt {a b : Int32} : a < b ↔ a.toInt < b.toInt := Int32.lt_iff_toInt_lt
theorem pzE {a b : Int32} (h : a.toInt = b.toInt) : a = b := Int32.toInt_inj.mp h
theorem pzK {a : Int32} (h : 0 ≤ a.toInt) : ∃ k : Nat, a = nI k ∧ k < 2 ^ 31 ∧ (k : Int) = a.toInt := by
  have h2 := Int32.toInt_lt a
  have h3 : a.toInt.toNat < 2 ^ 31 := by omega
  exact ⟨a.toInt.toNat, pzE (by rw [nI_toInt h3]; omega), h3, by omega⟩
theorem pzB (a : Int32) : -2147483648 ≤ a.toInt ∧ a.toInt ≤ 2147483647 := by
  have h1 := Int32.toInt_lt a
  have h2 := Int32.le_toInt a
  omega
theorem fs_shift (a b : Int32) (f : Nat → Int32) : ∀ n, fs (a + b) f n = a + fs b f n
  | 0 => rfl
  | n + 1 => by
    show fs (a + b) f n + f n = a + (fs b f n + f n)
    rw [fs_shift a b f n, Int32.add_assoc]
theorem fs_z (a : Int32) (f : Nat → Int32) (n : Nat) : fs a f n = a + fs 0 f n := by rw [← fs_shift, Int32.add_zero]
theorem fs_cong {a : Int32} {f g : Nat → Int32} : ∀ n, (∀ k, k < n → f k = g k) → fs a f n = fs a g n
  | 0, _ => rfl
  | n + 1, h => by
    show fs a f n + f n = fs a g n + g n
    rw [fs_cong n (fun k hk => h k (by omega)), h n (by omega)]
theorem fs_upd {a : Int32} {f : Nat → Int32} {k : Nat} {v : Int32} : ∀ n, k < n → fs a (upd f k v) n = fs a f n + (v - f k)
  | 0, h => absurd h (Nat.not_lt_zero _)
  | n + 1, h => by
    show fs a (upd f k v) n + upd f k v n = fs a f n + f n + (v - f k)
    by_cases e : k = n
    · subst e
      rw [pk_us, show fs a (upd f k v) k = fs a f k from fs_cong k (fun j hj => pk_un (by omega))]
      grind
    · rw [pk_un (by omega), fs_upd n (by omega)]
      grind
theorem fs_bd {a : Int32} {f : Nat → Int32} {lo hi : Int} (hlo : lo ≤ 0) (hhi : 0 ≤ hi) : ∀ n : Nat, (∀ k, k < n → lo ≤ (f k).toInt ∧ (f k).toInt ≤ hi) → -2147483648 ≤ a.toInt + n * lo → a.toInt + n * hi ≤ 2147483647 → a.toInt + n * lo ≤ (fs a f n).toInt ∧ (fs a f n).toInt ≤ a.toInt + n * hi
  | 0, _, _, _ => by show a.toInt + ((0 : Nat) : Int) * lo ≤ a.toInt ∧ a.toInt ≤ a.toInt + ((0 : Nat) : Int) * hi; simp
  | n + 1, h, h1, h2 => by
    have e1 : ((n + 1 : Nat) : Int) * lo = (n : Int) * lo + lo := by rw [Int.natCast_succ, Int.add_mul, Int.one_mul]
    have e2 : ((n + 1 : Nat) : Int) * hi = (n : Int) * hi + hi := by rw [Int.natCast_succ, Int.add_mul, Int.one_mul]
    rw [e1] at h1 ⊢
    rw [e2] at h2 ⊢
    have ih := fs_bd (a := a) (f := f) hlo hhi n (fun k hk => h k (by omega)) (by omega) (by omega)
    have hn := h n (by omega)
    have e3 : (fs a f (n + 1)).toInt = (fs a f n).toInt + (f n).toInt := pzA (by omega) (by omega)
    omega
/-- the range of a cell -/
def pzR (j : Nat) : Int × Int := if j < 8 then (0, 100) else if j < 16 then (0, 9) else if j < 32 then (-2147483648, 2147483647) else if j < 40 then (0, 3) else if j < 112 then (-2147483648, 2147483647) else if j < 115 then (0, 300) else if j < 118 then (-3, 3) else if j < 123 then (1, 255) else if j < 128 then (0, 1) else if j = 128 then (1, 9) else if j = 129 then (2, 99) else if j = 130 then (50, 200) else (-2147483648, 2147483647)
def Rgz (c : FA) : Prop := ∀ j, j < 162 → (pzR j).1 ≤ (c j).toInt ∧ (c j).toInt ≤ (pzR j).2
def pzF (j : Nat) : Prop := (16 ≤ j ∧ j < 32) ∨ (40 ≤ j ∧ j < 112) ∨ 131 ≤ j
theorem pzR_F {j : Nat} (h : pzF j) : pzR j = (-2147483648, 2147483647) := by
  unfold pzF at h
  unfold pzR
  repeat' (first | rfl | (exfalso; omega) | split)
theorem pzR_0 {t : Nat} (h : t < 8) : pzR t = (0, 100) := if_pos h
theorem pzR_8 {t : Nat} (h : t < 8) : pzR (8 + t) = (0, 9) := by
  unfold pzR
  rw [if_neg (by omega), if_pos (by omega)]
theorem pzR_32 {t : Nat} (h : t < 8) : pzR (32 + t) = (0, 3) := by
  unfold pzR
  rw [if_neg (by omega), if_neg (by omega), if_neg (by omega), if_pos (by omega)]
theorem pzR_112 {t : Nat} (h : t < 3) : pzR (112 + t) = (0, 300) := by
  unfold pzR
  rw [if_neg (by omega), if_neg (by omega), if_neg (by omega), if_neg (by omega), if_neg (by omega), if_pos (by omega)]
theorem pzR_115 {t : Nat} (h : t < 3) : pzR (115 + t) = (-3, 3) := by
  unfold pzR
  rw [if_neg (by omega), if_neg (by omega), if_neg (by omega), if_neg (by omega), if_neg (by omega), if_neg (by omega), if_pos (by omega)]
theorem pzR_118 {t : Nat} (h : t < 5) : pzR (118 + t) = (1, 255) := by
  unfold pzR
  rw [if_neg (by omega), if_neg (by omega), if_neg (by omega), if_neg (by omega), if_neg (by omega), if_neg (by omega), if_neg (by omega), if_pos (by omega)]
theorem pzR_123 {t : Nat} (h : t < 5) : pzR (123 + t) = (0, 1) := by
  unfold pzR
  rw [if_neg (by omega), if_neg (by omega), if_neg (by omega), if_neg (by omega), if_neg (by omega), if_neg (by omega), if_neg (by omega), if_neg (by omega), if_pos (by omega)]
theorem Rgz.at {c : FA} (h : Rgz c) {j : Nat} {lo hi : Int} (e : pzR j = (lo, hi)) (hj : j < 162) : lo ≤ (c j).toInt ∧ (c j).toInt ≤ hi := by
  have := h j hj
  rw [e] at this
  exact this
theorem Rgz.w {c : FA} (h : Rgz c) {t : Nat} (ht : t < 8) : 0 ≤ (c t).toInt ∧ (c t).toInt ≤ 100 := h.at (pzR_0 ht) (by omega)
theorem Rgz.k {c : FA} (h : Rgz c) {t : Nat} (ht : t < 8) : 0 ≤ (c (8 + t)).toInt ∧ (c (8 + t)).toInt ≤ 9 := h.at (pzR_8 ht) (by omega)
theorem Rgz.s {c : FA} (h : Rgz c) {t : Nat} (ht : t < 8) : 0 ≤ (c (32 + t)).toInt ∧ (c (32 + t)).toInt ≤ 3 := h.at (pzR_32 ht) (by omega)
theorem Rgz.l {c : FA} (h : Rgz c) {t : Nat} (ht : t < 3) : 0 ≤ (c (112 + t)).toInt ∧ (c (112 + t)).toInt ≤ 300 := h.at (pzR_112 ht) (by omega)
theorem Rgz.f {c : FA} (h : Rgz c) {t : Nat} (ht : t < 3) : -3 ≤ (c (115 + t)).toInt ∧ (c (115 + t)).toInt ≤ 3 := h.at (pzR_115 ht) (by omega)
theorem Rgz.g {c : FA} (h : Rgz c) {t : Nat} (ht : t < 5) : 1 ≤ (c (118 + t)).toInt ∧ (c (118 + t)).toInt ≤ 255 := h.at (pzR_118 ht) (by omega)
theorem Rgz.o {c : FA} (h : Rgz c) {t : Nat} (ht : t < 5) : 0 ≤ (c (123 + t)).toInt ∧ (c (123 + t)).toInt ≤ 1 := h.at (pzR_123 ht) (by omega)
theorem Rgz.q1 {c : FA} (h : Rgz c) : 1 ≤ (c 128).toInt ∧ (c 128).toInt ≤ 9 := h.at rfl (by decide)
theorem Rgz.q2 {c : FA} (h : Rgz c) : 2 ≤ (c 129).toInt ∧ (c 129).toInt ≤ 99 := h.at rfl (by decide)
theorem Rgz.q3 {c : FA} (h : Rgz c) : 50 ≤ (c 130).toInt ∧ (c 130).toInt ≤ 200 := h.at rfl (by decide)
theorem Rgz.up {c : FA} (h : Rgz c) {j : Nat} {v : Int32} (hv : (pzR j).1 ≤ v.toInt ∧ v.toInt ≤ (pzR j).2) : Rgz (upd c j v) := by
  intro i hi
  by_cases e : i = j
  · subst e; rw [pk_us]; exact hv
  · rw [pk_un e]; exact h i hi
theorem Rgz.fr {c : FA} (h : Rgz c) {j : Nat} {v : Int32} (hj : pzF j) : Rgz (upd c j v) := h.up (by rw [pzR_F hj]; exact pzB v)
theorem Rgz.low {c d : FA} (h : Rgz c) (hd : ∀ j, j < 131 → ¬ pzF j → d j = c j) : Rgz d := by
  intro j hj
  by_cases e : pzF j
  · rw [pzR_F e]; exact pzB _
  · have : j < 131 := by unfold pzF at e; omega
    rw [hd j this e]; exact h j hj
/-- all the water; all the loads -/
def pzT (c : FA) : Int32 := fs 0 c 8
def pzL (c : FA) : Int32 := fs 0 (fun h => c (112 + h)) 3
theorem wgt_pz (c : FA) : wgt c = 400 + pzT c + pzL c := by
  unfold wgt pzT pzL
  rw [fs_z (fs 400 c 8) (fun h => c (112 + h)) 3, fs_z 400 c 8]
theorem pzT_bd {c : FA} (h : Rgz c) : 0 ≤ (pzT c).toInt ∧ (pzT c).toInt ≤ 800 := by
  have i0 : (0 : Int32).toInt = 0 := rfl
  have b := fs_bd (a := 0) (f := c) (lo := 0) (hi := 100) (by omega) (by omega) 8 (fun k hk => h.w hk) (by rw [i0]; omega) (by rw [i0]; omega)
  rw [i0] at b
  unfold pzT
  omega
theorem pzL_bd {c : FA} (h : Rgz c) : 0 ≤ (pzL c).toInt ∧ (pzL c).toInt ≤ 900 := by
  have i0 : (0 : Int32).toInt = 0 := rfl
  have b := fs_bd (a := 0) (f := fun h => c (112 + h)) (lo := 0) (hi := 300) (by omega) (by omega) 3 (fun k hk => h.l hk) (by rw [i0]; omega) (by rw [i0]; omega)
  rw [i0] at b
  unfold pzL
  omega
theorem wgt_in {c : FA} (h : Rgz c) : (wgt c).toInt = 400 + (pzT c).toInt + (pzL c).toInt := by
  have h1 := pzT_bd h
  have h2 := pzL_bd h
  rw [wgt_pz]
  have e0 : (400 : Int32).toInt = 400 := rfl
  have e1 : (400 + pzT c).toInt = 400 + (pzT c).toInt := by rw [pzA (by omega) (by omega), e0]
  rw [pzA (by omega) (by omega), e1]
theorem wgt_bd {c : FA} (h : Rgz c) : 400 ≤ (wgt c).toInt ∧ (wgt c).toInt ≤ 2100 := by
  have h1 := pzT_bd h
  have h2 := pzL_bd h
  rw [wgt_in h]
  omega
theorem pzT_ne {c : FA} {j : Nat} {v : Int32} (h : 8 ≤ j) : pzT (upd c j v) = pzT c := fs_cong 8 (fun k hk => pk_un (by omega))
theorem pzT_ad {c : FA} {k : Nat} {v : Int32} (h : k < 8) : pzT (ad c k v) = pzT c + v := by
  unfold pzT ad
  rw [fs_upd 8 h]
  grind
theorem pzL_ne {c : FA} {j : Nat} {v : Int32} (h : j < 112 ∨ 115 ≤ j) : pzL (upd c j v) = pzL c := fs_cong 3 (fun k hk => pk_un (by omega))
theorem lostS_ne {c : FA} {j : Nat} {v : Int32} (h : j < 16 ∨ 24 ≤ j) : lostS (upd c j v) = lostS c := fs_cong 8 (fun k hk => pk_un (by omega))
theorem lostS_ad {c : FA} {k : Nat} {v : Int32} (h : k < 8) : lostS (ad c (16 + k) v) = lostS c + v := by
  have e : lostS (ad c (16 + k) v) = fs 0 (upd (fun t => c (16 + t)) k (c (16 + k) + v)) 8 := fs_cong 8 (fun t ht => by
    by_cases e : t = k
    · subst e; exact Eq.trans pk_us pk_us.symm
    · exact Eq.trans (pk_un (by omega)) (show upd (fun t => c (16 + t)) k (c (16 + k) + v) t = c (16 + t) from pk_un e).symm)
  rw [e, fs_upd 8 h]
  unfold lostS
  grind
/-- the balance of water -/
def Wbz (c : FA) : Prop := pzT c + lostS c + c 158 = 160 + c 157
/-- not deeper than may be -/
def dpz (c : FA) : Prop := wgt c / 10 ≤ c 130
theorem dpz_in {c : FA} (h : Rgz c) : dpz c ↔ (wgt c).toInt < 10 * ((c 130).toInt + 1) := by
  have h1 := wgt_bd h
  have h3 := h.q3
  unfold dpz
  rw [Int32.le_iff_toInt_le, pzD (by decide), show (10 : Int32).toInt = 10 from rfl, Int.tdiv_eq_ediv_of_nonneg (by omega)]
  omega
