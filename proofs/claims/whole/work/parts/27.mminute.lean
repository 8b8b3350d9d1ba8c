/-! ===== the reference's minute, beside the barge's ===== -/
def pit (m x : Int32) (c : FA) : Nat → FA
  | 0 => c
  | n + 1 => mvc (pit m x c n) (mvu m (pit m x c n) x)
def pis (m x : Int32) (c s : FA) : Nat → FA
  | 0 => s
  | n + 1 => pmM m x (pit m x c n) (pis m x c s n)
theorem pit_succ (m x : Int32) (c : FA) : ∀ n, pit m x c (n + 1) = pit m x (mvc c (mvu m c x)) n
  | 0 => rfl
  | n + 1 => by
    show mvc (pit m x c (n + 1)) (mvu m (pit m x c (n + 1)) x) = _
    rw [pit_succ m x c n]
    rfl
theorem pit_none {m x : Int32} {c : FA} (h : mvu m c x = none) : ∀ n, pit m x c n = c
  | 0 => rfl
  | n + 1 => by
    show mvc (pit m x c n) (mvu m (pit m x c n) x) = c
    rw [pit_none h n, h]
    rfl
theorem pmp_pit (m x : Int32) : ∀ (d : Nat) (c : FA), pmp m x d c = pit m x c d
  | 0, _ => rfl
  | d + 1, c => by
    cases hv : mvu m c x with
    | none =>
      have e1 : pmp m x (d + 1) c = c := by show (match mvu m c x with | some c' => pmp m x d c' | none => c) = _; rw [hv]
      rw [e1, pit_none hv]
    | some c' =>
      have e1 : pmp m x (d + 1) c = pmp m x d c' := by show (match mvu m c x with | some c' => pmp m x d c' | none => c) = _; rw [hv]
      rw [e1, pmp_pit m x d c', pit_succ, hv]
      rfl
theorem RR.pit {d : Int32} {B N : Nat} {c s : FA} (h : RR d B N c s) (m x : Int32) : ∀ n, B + 2 * n < 2 ^ 29 → RR d (B + 2 * n) N (pit m x c n) (pis m x c s n)
  | 0, _ => h
  | n + 1, hB => ((RR.pit h m x n (by omega)).pump m x (by omega)).mono (by omega)
theorem opn_congr {c c' : FA} (h : ∀ j, 118 ≤ j → j < 128 → c' j = c j) : ∀ n, n ≤ 5 → opn c' n = opn c n
  | 0, _ => rfl
  | n + 1, hn => by
    unfold opn
    rw [h (123 + n) (by omega) (by omega), h (118 + n) (by omega) (by omega), opn_congr h n (by omega)]
theorem mvc_fx {m x : Int32} {c : FA} {j : Nat} (h : fx j) : mvc c (mvu m c x) j = c j := by
  cases hv : mvu m c x with
  | none => rfl
  | some d => exact mvu_fx h hv
theorem pit_fx {m x : Int32} {c : FA} {j : Nat} (h : fx j) : ∀ n, pit m x c n j = c j
  | 0 => rfl
  | n + 1 => by
    show mvc (pit m x c n) (mvu m (pit m x c n) x) j = c j
    rw [mvc_fx h, pit_fx h n]
/-- the barge's minute has begun -/
theorem RR.tick {B N : Nat} {c s : FA} (h : RR 0 B N c s) : RR 1 B N (ad c 156 1) s := by
  obtain ⟨h1, h2, h3, h4, h5, h6, h7⟩ := h
  have c1 : ∀ x, x < 156 → ad c 156 1 x = c x := fun x hx => ad_ne (by omega)
  obtain ⟨g1, g2, g3, g4, g5, g6, g7⟩ := h3
  refine ⟨fun i hi => by rw [c1 _ (by omega)]; exact h1 i hi, fun i hi hi2 => by rw [c1 _ (by omega)]; exact h2 i hi hi2, ⟨?_, by rw [ad_ne (by decide)]; exact g2, by rw [ad_ne (by decide)]; exact g3, by rw [g4]; exact (lostS_hi (by decide)).symm, by rw [ad_ne (by decide)]; exact g5, by rw [ad_ne (by decide)]; exact g6, by rw [ad_ne (by decide)]; exact g7⟩, ⟨h4.1.congr fun j q1 q2 => c1 j (by omega), h4.2.1, fun p hp => ?_⟩, fun t ht => ⟨by rw [c1 _ (by omega)]; exact (h5 t ht).1, fun b hb => ⟨by rw [c1 _ (by omega)]; exact ((h5 t ht).2 b hb).1, by rw [c1 _ (by omega)]; exact ((h5 t ht).2 b hb).2⟩⟩, fun t ht => ?_, fun t ht => by rw [c1 _ (by omega)]; exact h7.1 t ht, fun t ht => by rw [c1 _ (by omega)]; exact h7.2.1 t ht, fun t ht => by rw [c1 _ (by omega)]; exact h7.2.2.1 t ht, fun t ht => by rw [c1 _ (by omega)]; exact h7.2.2.2.1 t ht, by rw [c1 _ (by omega)]; exact h7.2.2.2.2⟩
  · unfold ad
    rw [pk_us, ← g1, Int32.add_zero]
  · have := h4.1.2.1
    rw [c1 _ (by omega), c1 _ (by omega)]; exact h4.2.2 p hp
  · rw [c1 _ (by omega), c1 _ (by omega), c1 _ (by omega), c1 _ (by omega)]; exact h6 t ht
theorem upd_self (c : FA) (j : Nat) : upd c j (c j) = c := by
  funext i
  unfold upd
  split
  · next e => rw [e]
  · rfl
/-- the reference's minute has begun too -/
theorem RR.tock {B N : Nat} {c s : FA} (h : RR 1 B N c s) : RR 0 B N c (upd s 51 (s 51 + 1)) := by
  have h3 := h.2.2.1
  have g := h.cnt (d' := 0) (i := 51) (j := 156) (v := s 51 + 1) (w := c 156) (by decide) (by decide) (by
    rw [upd_self]
    obtain ⟨g1, g2, g3, g4, g5, g6, g7⟩ := h3
    refine ⟨by rw [pk_us, Int32.add_zero]; exact g1, by rw [pk_un (by decide)]; exact g2, by rw [pk_un (by decide)]; exact g3, by rw [pk_un (by decide)]; exact g4, by rw [pk_un (by decide)]; exact g5, by rw [pk_un (by decide)]; exact g6, by rw [pk_un (by decide)]; exact g7⟩)
  rw [upd_self] at g
  exact g
/-- a cell of loads, shifts, groups, settings in both -/
theorem RR.put2 {d : Int32} {B N : Nat} {c s : FA} (h : RR d B N c s) {i : Nat} (v : Int32) (hi : 32 ≤ i ∧ i < 51) (hV : V9 (upd c (i + 80) v)) : RR d B N (upd c (i + 80) v) (upd s i v) := by
  obtain ⟨h1, h2, h3, h4, h5, h6, h7⟩ := h
  have hN := h4.1.2.1
  obtain ⟨g1, g2, g3, g4, g5, g6, g7⟩ := h3
  have c1 : ∀ x, (x < 112 ∨ 131 ≤ x) → upd c (i + 80) v x = c x := fun x hx => pk_un (by omega)
  have s1 : ∀ x, (x < 32 ∨ 51 ≤ x) → upd s i v x = s x := fun x hx => pk_un (by omega)
  refine ⟨fun j hj => ?_, fun j hj hj2 => ?_, ⟨by rw [s1 _ (by omega), c1 _ (by omega)]; exact g1, by rw [s1 _ (by omega), c1 _ (by omega)]; exact g2, by rw [s1 _ (by omega), c1 _ (by omega)]; exact g3, by rw [s1 _ (by omega), g4]; exact (lostS_congr fun t ht => c1 _ (by omega)).symm, by rw [s1 _ (by omega), c1 _ (by omega)]; exact g5, by rw [s1 _ (by omega), c1 _ (by omega)]; exact g6, by rw [s1 _ (by omega), c1 _ (by omega)]; exact g7⟩, ⟨h4.1.congr fun j q1 q2 => c1 j (by omega), by rw [s1 _ (by omega)]; exact h4.2.1, fun p hp => ?_⟩, fun t ht => ⟨?_, fun b hb => ⟨?_, ?_⟩⟩, fun t ht => ?_, hV⟩
  · rw [s1 _ (by omega), c1 _ (by omega)]; exact h1 j hj
  · by_cases e : j = i
    · subst e; rw [pk_us, pk_us]
    · rw [pk_un e, pk_un (by omega)]; exact h2 j hj hj2
  · rw [s1 _ (by omega), s1 _ (by omega), c1 _ (by omega), c1 _ (by omega)]; exact h4.2.2 p hp
  · rw [s1 _ (by omega), c1 _ (by omega)]; exact (h5 t ht).1
  · rw [s1 _ (by omega), c1 _ (by omega)]; exact ((h5 t ht).2 b hb).1
  · rw [s1 _ (by omega), c1 _ (by omega)]; exact ((h5 t ht).2 b hb).2
  · rw [s1 _ (by omega), s1 _ (by omega), c1 _ (by omega), c1 _ (by omega), c1 _ (by omega), c1 _ (by omega)]; exact h6 t ht
/-- a cell of waters, leaks in both -/
theorem RR.put1 {d : Int32} {B N : Nat} {c s : FA} (h : RR d B N c s) {i : Nat} (v : Int32) (hi : i < 16) (hV : V9 (upd c i v)) : RR d B N (upd c i v) (upd s i v) := by
  obtain ⟨h1, h2, h3, h4, h5, h6, h7⟩ := h
  have hN := h4.1.2.1
  obtain ⟨g1, g2, g3, g4, g5, g6, g7⟩ := h3
  have c1 : ∀ x, 16 ≤ x → upd c i v x = c x := fun x hx => pk_un (by omega)
  have s1 : ∀ x, 16 ≤ x → upd s i v x = s x := fun x hx => pk_un (by omega)
  refine ⟨fun j hj => ?_, fun j hj hj2 => ?_, ⟨by rw [s1 _ (by omega), c1 _ (by omega)]; exact g1, by rw [s1 _ (by omega), c1 _ (by omega)]; exact g2, by rw [s1 _ (by omega), c1 _ (by omega)]; exact g3, by rw [s1 _ (by omega), g4]; exact (lostS_congr fun t ht => c1 _ (by omega)).symm, by rw [s1 _ (by omega), c1 _ (by omega)]; exact g5, by rw [s1 _ (by omega), c1 _ (by omega)]; exact g6, by rw [s1 _ (by omega), c1 _ (by omega)]; exact g7⟩, ⟨h4.1.congr fun j q1 q2 => c1 j (by omega), by rw [s1 _ (by omega)]; exact h4.2.1, fun p hp => ?_⟩, fun t ht => ⟨?_, fun b hb => ⟨?_, ?_⟩⟩, fun t ht => ?_, hV⟩
  · by_cases e : j = i
    · subst e; rw [pk_us, pk_us]
    · rw [pk_un e, pk_un e]; exact h1 j hj
  · rw [s1 _ (by omega), c1 _ (by omega)]; exact h2 j hj hj2
  · rw [s1 _ (by omega), s1 _ (by omega), c1 _ (by omega), c1 _ (by omega)]; exact h4.2.2 p hp
  · rw [s1 _ (by omega), c1 _ (by omega)]; exact (h5 t ht).1
  · rw [s1 _ (by omega), c1 _ (by omega)]; exact ((h5 t ht).2 b hb).1
  · rw [s1 _ (by omega), c1 _ (by omega)]; exact ((h5 t ht).2 b hb).2
  · rw [s1 _ (by omega), s1 _ (by omega), c1 _ (by omega), c1 _ (by omega), c1 _ (by omega), c1 _ (by omega)]; exact h6 t ht
/-- a tank's loss, and all losses -/
theorem RR.lost {d : Int32} {B N : Nat} {c s : FA} (h : RR d B N c s) {n : Nat} (l : Int32) (hn : n < 8) : RR d B N (ad c (16 + n) l) (upd (upd s (16 + n) (s (16 + n) + l)) 54 (s 54 + l)) := by
  obtain ⟨h1, h2, h3, h4, h5, h6, h7⟩ := h
  have hN := h4.1.2.1
  obtain ⟨g1, g2, g3, g4, g5, g6, g7⟩ := h3
  have c1 : ∀ x, (x < 16 ∨ 24 ≤ x) → ad c (16 + n) l x = c x := fun x hx => ad_ne (by omega)
  have s1 : ∀ x, (x < 16 ∨ 24 ≤ x) → x ≠ 54 → upd (upd s (16 + n) (s (16 + n) + l)) 54 (s 54 + l) x = s x := fun x hx hy => by rw [pk_un hy, pk_un (by omega)]
  refine ⟨fun j hj => ?_, fun j hj hj2 => ?_, ⟨by rw [s1 _ (by omega) (by omega), c1 _ (by omega)]; exact g1, by rw [s1 _ (by omega) (by omega), c1 _ (by omega)]; exact g2, by rw [s1 _ (by omega) (by omega), c1 _ (by omega)]; exact g3, by rw [pk_us, lostS_ad hn, g4], by rw [s1 _ (by omega) (by omega), c1 _ (by omega)]; exact g5, by rw [s1 _ (by omega) (by omega), c1 _ (by omega)]; exact g6, by rw [s1 _ (by omega) (by omega), c1 _ (by omega)]; exact g7⟩, ⟨h4.1.congr fun j q1 q2 => c1 j (by omega), by rw [s1 _ (by omega) (by omega)]; exact h4.2.1, fun p hp => ?_⟩, fun t ht => ⟨?_, fun b hb => ⟨?_, ?_⟩⟩, fun t ht => ?_, fun t ht => by rw [c1 _ (by omega)]; exact h7.1 t ht, fun t ht => by rw [c1 _ (by omega)]; exact h7.2.1 t ht, fun t ht => by rw [c1 _ (by omega)]; exact h7.2.2.1 t ht, fun t ht => by rw [c1 _ (by omega)]; exact h7.2.2.2.1 t ht, by rw [c1 _ (by omega)]; exact h7.2.2.2.2⟩
  · rw [pk_un (by omega)]
    by_cases e : j = 16 + n
    · subst e; unfold ad; rw [pk_us, pk_us, h1 _ (by omega)]
    · rw [pk_un e, ad_ne e]; exact h1 j hj
  · rw [s1 _ (by omega) (by omega), c1 _ (by omega)]; exact h2 j hj hj2
  · rw [s1 _ (by omega) (by omega), s1 _ (by omega) (by omega), c1 _ (by omega), c1 _ (by omega)]; exact h4.2.2 p hp
  · rw [s1 _ (by omega) (by omega), c1 _ (by omega)]; exact (h5 t ht).1
  · rw [s1 _ (by omega) (by omega), c1 _ (by omega)]; exact ((h5 t ht).2 b hb).1
  · rw [s1 _ (by omega) (by omega), c1 _ (by omega)]; exact ((h5 t ht).2 b hb).2
  · rw [s1 _ (by omega) (by omega), s1 _ (by omega) (by omega), c1 _ (by omega), c1 _ (by omega), c1 _ (by omega), c1 _ (by omega)]; exact h6 t ht
theorem min_comm9 (a b : Int32) : (if a < b then a else b) = (if b < a then b else a) := by
  by_cases h1 : a < b
  · rw [if_pos h1, if_neg (fun q => by rw [Int32.lt_iff_toInt_lt] at h1 q; omega)]
  · rw [if_neg h1]
    by_cases h2 : b < a
    · rw [if_pos h2]
    · rw [if_neg h2]
      apply Int32.toInt_inj.mp
      rw [Int32.lt_iff_toInt_lt] at h1 h2
      omega
def lsM (s : FA) (n : Nat) : Int32 := if s (8 + n) < s n then s (8 + n) else s n
def lk1 (s : FA) (n : Nat) : FA := upd s n (s n - lsM s n)
def lk2 (s : FA) (n : Nat) : FA := upd (lk1 s n) (16 + n) (lk1 s n (16 + n) + lsM s n)
def lk3 (s : FA) (n : Nat) : FA := upd (lk2 s n) 54 (lk2 s n 54 + lsM s n)
def lkS (s : FA) : Nat → FA
  | 0 => s
  | n + 1 => lk3 (lkS s n) n
theorem RR.leak {d : Int32} {B N : Nat} {c s : FA} (h : RR d B N c s) : ∀ n, n ≤ 8 → RR d B N (lk c n) (lkS s n)
  | 0, _ => h
  | n + 1, hn => by
    have g := RR.leak h n (by omega)
    have gV := g.2.2.2.2.2.2
    have e1 : lsM (lkS s n) n = (if lk c n n < lk c n (8 + n) then lk c n n else lk c n (8 + n)) := by
      unfold lsM
      rw [g.1 (8 + n) (by omega), g.1 n (by omega), min_comm9]
    show RR d B N (ad (ad (lk c n) n (-(if lk c n n < lk c n (8 + n) then lk c n n else lk c n (8 + n)))) (16 + n) (if lk c n n < lk c n (8 + n) then lk c n n else lk c n (8 + n))) (lk3 (lkS s n) n)
    rw [← e1]
    generalize hl : lsM (lkS s n) n = l at e1
    obtain ⟨w, w1, w2⟩ := gV.1 n (by omega)
    obtain ⟨k, k1, k2⟩ := gV.2.1 n (by omega)
    obtain ⟨v, v1, v2⟩ : ∃ v, v ≤ w ∧ l = nI v := by
      rw [e1, w2, k2]
      by_cases q : nI w < nI k
      · exact ⟨w, Nat.le_refl _, if_pos q⟩
      · exact ⟨k, Nat.le_of_not_lt (fun z => q ((nI_ltI (a := w) (b := k) (by omega) (by omega)).mpr z)), if_neg q⟩
    have e2 : lk c n n + -l = nI (w - v) := by rw [w2, v2, ← Int32.sub_eq_add_neg, nI_sub v1]
    have g1 := g.put1 (i := n) (lk c n n + -l) (by omega) (by
      refine ⟨fun t ht => ?_, fun t ht => by rw [pk_un (by omega)]; exact gV.2.1 t ht, fun t ht => by rw [pk_un (by omega)]; exact gV.2.2.1 t ht, fun t ht => by rw [pk_un (by omega)]; exact gV.2.2.2.1 t ht, by rw [pk_un (by omega)]; exact gV.2.2.2.2⟩
      by_cases e : t = n
      · subst e; rw [pk_us]; exact ⟨w - v, by omega, e2⟩
      · rw [pk_un e]; exact gV.1 t ht)
    have g2 := g1.lost (n := n) l (by omega)
    have es : lk3 (lkS s n) n = upd (upd (upd (lkS s n) n (lk c n n + -l)) (16 + n) (upd (lkS s n) n (lk c n n + -l) (16 + n) + l)) 54 (upd (lkS s n) n (lk c n n + -l) 54 + l) := by
      unfold lk3 lk2 lk1
      rw [hl, g.1 n (by omega), Int32.sub_eq_add_neg, pk_un (j := 54) (k := 16 + n) (by omega)]
    rw [es]
    exact g2
theorem abi3 {v st : Int32} (hv : -3 ≤ v ∧ v ≤ 3) (hs : st = 1 ∨ st = -1) : abi (v + st) ≤ 3 ↔ (-3 ≤ v + st ∧ v + st ≤ 3) := by
  have h : v = -3 ∨ v = -2 ∨ v = -1 ∨ v = 0 ∨ v = 1 ∨ v = 2 ∨ v = 3 := by
    obtain ⟨h1, h2⟩ := hv
    rw [Int32.le_iff_toInt_le] at h1 h2
    have e1 : (-3 : Int32).toInt = -3 := rfl
    have e2 : (3 : Int32).toInt = 3 := rfl
    rw [e1] at h1
    rw [e2] at h2
    simp only [← Int32.toInt_inj]
    have f1 : (-2 : Int32).toInt = -2 := rfl
    have f2 : (-1 : Int32).toInt = -1 := rfl
    have f3 : (0 : Int32).toInt = 0 := rfl
    have f4 : (1 : Int32).toInt = 1 := rfl
    have f5 : (2 : Int32).toInt = 2 := rfl
    rw [e1, e2, f1, f2, f3, f4, f5]
    omega
  rcases h with rfl | rfl | rfl | rfl | rfl | rfl | rfl <;> rcases hs with rfl | rfl <;> decide
def shS (s : FA) (st : Int32) : Nat → FA
  | 0 => s
  | n + 1 => if 0 < shS s st n (32 + n) ∧ (-3 ≤ shS s st n (35 + n) + st ∧ shS s st n (35 + n) + st ≤ 3) then upd (upd (shS s st n) (35 + n) (shS s st n (35 + n) + st)) 57 (upd (shS s st n) (35 + n) (shS s st n (35 + n) + st) 57 + 1) else shS s st n
theorem RR.shift {d : Int32} {B N : Nat} {c s : FA} {st : Int32} (h : RR d B N c s) (hs : st = 1 ∨ st = -1) : ∀ n, n ≤ 3 → RR d B N (shl c st n) (shS s st n)
  | 0, _ => h
  | n + 1, hn => by
    have g := RR.shift h hs n (by omega)
    have gV := g.2.2.2.2.2.2
    have e1 : shS s st n (32 + n) = shl c st n (112 + n) := by rw [g.2.1 _ (by omega) (by omega), show 32 + n + 80 = 112 + n by omega]
    have e2 : shS s st n (35 + n) = shl c st n (115 + n) := by rw [g.2.1 _ (by omega) (by omega), show 35 + n + 80 = 115 + n by omega]
    have e3 := abi3 (gV.2.2.2.1 n (by omega)) hs
    by_cases q : 0 < shl c st n (112 + n) ∧ abi (shl c st n (115 + n) + st) ≤ 3
    · have q2 : 0 < shS s st n (32 + n) ∧ (-3 ≤ shS s st n (35 + n) + st ∧ shS s st n (35 + n) + st ≤ 3) := by rw [e1, e2]; exact ⟨q.1, e3.mp q.2⟩
      rw [show shl c st (n + 1) = _ from if_pos q, show shS s st (n + 1) = _ from if_pos q2, e2]
      have g1 := g.put2 (i := 35 + n) (shl c st n (115 + n) + st) (by omega) (by
        rw [show 35 + n + 80 = 115 + n by omega]
        refine ⟨fun t ht => by rw [pk_un (by omega)]; exact gV.1 t ht, fun t ht => by rw [pk_un (by omega)]; exact gV.2.1 t ht, fun t ht => by rw [pk_un (by omega)]; exact gV.2.2.1 t ht, fun t ht => ?_, by rw [pk_un (by omega)]; exact gV.2.2.2.2⟩
        by_cases e : t = n
        · subst e; rw [pk_us]; exact e3.mp q.2
        · rw [pk_un (by omega)]; exact gV.2.2.2.1 t ht)
      rw [show 35 + n + 80 = 115 + n by omega] at g1
      exact g1.c57 1
    · have q2 : ¬ (0 < shS s st n (32 + n) ∧ (-3 ≤ shS s st n (35 + n) + st ∧ shS s st n (35 + n) + st ≤ 3)) := by rw [e1, e2]; exact fun z => q ⟨z.1, e3.mpr z.2⟩
      rw [show shl c st (n + 1) = _ from if_neg q, show shS s st (n + 1) = _ from if_neg q2]
      exact g
section MM
theorem t_X9_minute (c : FA) (K : FA × KS) (s : FA) (L : LS9) (e : AH) (m : Int32) {B N r : Nat} (h : RR 0 B N c s) (hr : c 128 = nI r) (hr2 : r ≤ 9) (hB : B < 2 ^ 28) : Ct m_X9_minute X0 [.ref 14, .int m] (HP K.1 K.2 s L e) (fun rv h9 => rv = none ∧ ∃ s', RR 0 (B + 18) N (mnt m (opn c 5) r c) s' ∧ h9 = HP K.1 K.2 s' L e) := by
  have hx := h.tick
  have ox : opn (ad c 156 1) 5 = opn c 5 := opn_congr (fun j h1 h2 => ad_ne (by omega)) 5 (Nat.le_refl 5)
  have e128 : ad c 156 1 128 = nI r := by rw [ad_ne (by decide)]; exact hr
  have em : mnt m (opn c 5) r c = shf (lkm (pit m (opn c 5) (ad c 156 1) r)) := by unfold mnt; rw [pmp_pit]
  rw [em]
  rw [← ox] at *
  generalize ad c 156 1 = c1 at hx e128 ⊢
  have hp : ∀ n, n ≤ 9 → RR 1 (B + 2 * n) N (pit m (opn c1 5) c1 n) (pis m (opn c1 5) c1 s n) := fun n hn => hx.pit m (opn c1 5) n (by omega)
  have ho : ∀ n, opn (pit m (opn c1 5) c1 n) 5 = opn c1 5 := fun n => opn_congr (fun j h1 h2 => pit_fx (by unfold fx; omega) n) 5 (Nat.le_refl 5)
  generalize hX : opn c1 5 = x at hp ho ⊢
  have hs48 : ∀ n, n ≤ 9 → pis m x c1 s n 48 = nI r := fun n hn => by rw [(hp n hn).2.1 48 (by decide) (by decide), pit_fx (by unfold fx; omega) n]; exact e128
  refine ⟨ok_X9_minute, ?_⟩
  refine Rch.go rfl ?_
  refine Rch.for r (fun n => (9, [(0, .ref 14), (1, .int m), (2, .int (nI n))], [.int 48, .ref 15, .int (nI n)], HP K.1 K.2 (pis m x c1 s n) L e, 0, 0)) (fun n hn => ?_) ?_ 0 (by omega)
  · have g := hp n (by omega)
    refine Rch.ia (j := 48) rfl rfl rfl rfl (by decide) (by decide) ?_
    rw [hs48 n (by omega)]
    refine Rch.i_ge rfl (fun z => absurd z (lo_in hn (by omega))) (fun _ => ?_)
    refine Rch.go rfl ?_
    refine Rch.call 0 (t_X9_pump (pit m x c1 n) K _ L e m g.1 g.2.1) rfl rfl g_X9_65 om_X9_pump rfl (fun _ _ _ q => q) rfl rfl rfl rfl ⟨rfl, rfl⟩ ⟨by decide, by decide⟩ (fun _ _ q => by obtain ⟨_, rfl⟩ := q; first | with_reducible rfl | (rw [HP_len, HP_len]; done) | rw [HP_len, HP_len, uO_len, uO_len]) (fun rv9 h9 q9 => ?_)
    obtain ⟨rfl, rfl⟩ := q9
    rw [ho n]
    refine Rch.go rfl (Rch.rf ?_)
    rw [nI_1]
    rfl
  refine Rch.ia (j := 48) rfl rfl rfl rfl (by decide) (by decide) ?_
  rw [hs48 r hr2]
  refine Rch.i_ge rfl (fun _ => ?_) (fun z => absurd (lo_out (by omega)) z)
  have g2 := (hp r hr2).tock
  generalize pis m x c1 s r = s1 at g2 ⊢
  generalize pit m x c1 r = c2 at g2 ⊢
  refine Rch.go rfl ?_
  refine Rch.ia (j := 51) rfl rfl rfl rfl (by decide) (by decide) ?_
  refine Rch.go rfl ?_
  refine Rch.ias (j := 51) rfl rfl rfl (by decide) (by decide) ?_
  refine Rch.eq (τ := (35, [(0, .ref 14), (1, .int m), (2, .int (nI r))], [], HP K.1 K.2 (upd s1 51 (s1 51 + 1)) L e, 0, 0)) rfl ?_
  generalize upd s1 51 (s1 51 + 1) = s2 at g2 ⊢
  have fin : ∀ (c3 s3 : FA) (ls3 : AL), RR 0 (B + 2 * r) N c3 s3 → (ls3 = [(0, .ref 14), (1, .int m)] → Rch m_X9_minute X0 (139, ls3, [], HP K.1 K.2 s3 L e, 0, 0) (RetP m_X9_minute (fun rv h9 => rv = none ∧ ∃ s', RR 0 (B + 18) N (shf c3) s' ∧ h9 = HP K.1 K.2 s' L e))) := by
    intro c3 s3 ls3 g3 hls
    subst hls
    refine Rch.go rfl ?_
    refine Rch.call 0 (t_X9_list c3 K s3 L e g3.1 g3.2.1 g3.2.2.2.2.2.2) rfl rfl g_X9_69 om_X9_list rfl (fun _ _ _ q => q) rfl rfl rfl rfl ⟨rfl, rfl⟩ ⟨by decide, by decide⟩ (fun _ _ q => by obtain ⟨_, rfl⟩ := q; first | with_reducible rfl | (rw [HP_len, HP_len]; done) | rw [HP_len, HP_len, uO_len, uO_len]) (fun rv9 h9 q9 => ?_)
    obtain ⟨rfl, rfl⟩ := q9
    refine Rch.go rfl ?_
    have e49 : s3 49 = c3 129 := g3.2.1 49 (by decide) (by decide)
    by_cases hq : c3 129 < abi (lst c3)
    rotate_left
    · refine Rch.i_ge rfl (fun q => absurd q (by decide)) (fun _ => ?_)
      refine Rch.go rfl ?_
      refine Rch.call 1 (t_X9_size _ _) rfl rfl g_X9_72 om_X9_size rfl (fun _ _ _ q => q) rfl rfl rfl rfl ⟨rfl, rfl⟩ ⟨by decide, by decide⟩ (fun _ _ q => by obtain ⟨_, rfl⟩ := q; first | with_reducible rfl | (rw [HP_len, HP_len]; done) | rw [HP_len, HP_len, uO_len, uO_len]) (fun rv9 h9 q9 => ?_)
      obtain ⟨rfl, rfl⟩ := q9
      refine Rch.go rfl ?_
      refine Rch.ia (j := 49) rfl rfl rfl rfl (by decide) (by decide) ?_
      rw [e49]
      refine Rch.i_le rfl (fun _ => ?_) (fun q => absurd (Int32.not_lt.mp hq) q)
      rw [show shf c3 = c3 from if_neg hq]
      exact Rch.rv rfl rfl (by decide) (by decide) (⟨rfl, s3, g3.mono (by omega), rfl⟩)
    rw [show shf c3 = _ from if_pos hq]
    have hst : (if 0 ≤ lst c3 then (1 : Int32) else -1) = 1 ∨ (if 0 ≤ lst c3 then (1 : Int32) else -1) = -1 := by
      by_cases z : 0 ≤ lst c3
      · exact Or.inl (if_pos z)
      · exact Or.inr (if_neg z)
    generalize hS : (if 0 ≤ lst c3 then (1 : Int32) else -1) = st at hst ⊢
    have hsh : ∀ n, n ≤ 3 → RR 0 (B + 2 * r) N (shl c3 st n) (shS s3 st n) := fun n hn => g3.shift hst n hn
    refine Rch.for 3 (fun n => (148, [(0, .ref 14), (1, .int m), (2, .int (lst c3)), (3, .int (nI n))], [.int 3, .int (nI n)], HP K.1 K.2 (shS s3 st n) L e, 0, 0)) (fun n hn => ?_) ?_ 0 (by omega)
    · have g4 := hsh n (by omega)
      have e4 : shS s3 st n 49 = c3 129 := by rw [g4.2.1 49 (by decide) (by decide), shl_fx (by unfold fx; omega) n (by omega)]
      refine Rch.i_ge rfl (fun z => absurd z (lo_in hn (by decide))) (fun _ => ?_)
      refine Rch.go rfl ?_
      refine Rch.call 1 (t_X9_size _ _) rfl rfl g_X9_72 om_X9_size rfl (fun _ _ _ q => q) rfl rfl rfl rfl ⟨rfl, rfl⟩ ⟨by decide, by decide⟩ (fun _ _ q => by obtain ⟨_, rfl⟩ := q; first | with_reducible rfl | (rw [HP_len, HP_len]; done) | rw [HP_len, HP_len, uO_len, uO_len]) (fun rv9 h9 q9 => ?_)
      obtain ⟨rfl, rfl⟩ := q9
      refine Rch.go rfl ?_
      refine Rch.ia (j := 49) rfl rfl rfl rfl (by decide) (by decide) ?_
      rw [e4]
      refine Rch.i_le rfl (fun q => absurd hq (Int32.not_lt.mpr q)) (fun _ => ?_)
      refine Rch.go rfl ?_
      refine Rch.ia rfl rfl rfl (nI_add 35 n) (by omega) (by decide) ?_
      refine Rch.go rfl ?_
      have k2 : Rch m_X9_minute X0 (194, [(0, .ref 14), (1, .int m), (2, .int (lst c3)), (3, .int (nI n)), (4, .int (shS s3 st n (35 + n) + st))], [.int (32 + nI n), .ref 15], HP K.1 K.2 (shS s3 st n) L e, 0, 0) (fun τ => τ = (148, [(0, .ref 14), (1, .int m), (2, .int (lst c3)), (3, .int (nI (n + 1)))], [.int 3, .int (nI (n + 1))], HP K.1 K.2 (shS s3 st (n + 1)) L e, 0, 0)) := by
        refine Rch.ia rfl rfl rfl (nI_add 32 n) (by omega) (by decide) ?_
        refine Rch.z_le rfl (fun w => ?_) (fun w => ?_)
        · refine Rch.go rfl ?_
          refine Rch.wp [0, 1, 2, 3] rfl rfl (Rch.rf ?_)
          rw [nI_1, ← show shS s3 st (n + 1) = _ from if_neg (fun q => Int32.not_lt.mpr w q.1)]
          rfl
        · refine Rch.go rfl ?_
          refine Rch.call 1 (t_X9_in _ _ _ _) rfl rfl g_X9_22 om_X9_in rfl (fun _ _ _ q => q) rfl rfl rfl rfl ⟨rfl, rfl⟩ ⟨by decide, by decide⟩ (fun _ _ q => by obtain ⟨_, rfl⟩ := q; first | with_reducible rfl | (rw [HP_len, HP_len]; done) | rw [HP_len, HP_len, uO_len, uO_len]) (fun rv9 h9 q9 => ?_)
          obtain ⟨rfl, rfl⟩ := q9
          refine Rch.z_eq rfl (fun w2 => ?_) (fun w2 => ?_)
          · refine Rch.go rfl ?_
            refine Rch.wp [0, 1, 2, 3] rfl rfl (Rch.rf ?_)
            rw [nI_1, ← show shS s3 st (n + 1) = _ from if_neg (fun q => i0 w2 q.2)]
            rfl
          · refine Rch.go rfl ?_
            refine Rch.ias rfl rfl (nI_add 35 n) (by omega) (by decide) ?_
            refine Rch.go rfl ?_
            refine Rch.ia (j := 57) rfl rfl rfl rfl (by decide) (by decide) ?_
            refine Rch.go rfl ?_
            refine Rch.ias (j := 57) rfl rfl rfl (by decide) (by decide) ?_
            refine Rch.go rfl ?_
            refine Rch.wp [0, 1, 2, 3] rfl rfl (Rch.rf ?_)
            rw [nI_1, show shS s3 st (n + 1) = _ from if_pos ⟨nle_lt w, i1 w2⟩]
            rfl
      refine Rch.z_ge rfl (fun z => ?_) (fun z => ?_)
      · rw [if_pos z] at hS
        subst hS
        exact Rch.go rfl k2
      · rw [if_neg z] at hS
        subst hS
        exact Rch.go rfl k2
    · refine Rch.i_ge rfl (fun _ => ?_) (fun z => absurd (lo_out (by decide)) z)
      exact Rch.rv rfl rfl (by decide) (by decide) (⟨rfl, _, (hsh 3 (Nat.le_refl 3)).mono (by omega), rfl⟩)
  refine Rch.go rfl ?_
  have e51 : s2 51 = c2 156 := by have := g2.2.2.1.1; rwa [Int32.add_zero] at this
  by_cases hq : c2 156 - c2 156 / 10 * 10 = 0
  · rw [show lkm c2 = lk c2 8 from if_pos hq]
    have hl : ∀ n, n ≤ 8 → RR 0 (B + 2 * r) N (lk c2 n) (lkS s2 n) := fun n hn => g2.leak n hn
    have h156 : ∀ n, n ≤ 8 → lk c2 n 156 = c2 156 := by
      intro n
      induction n with
      | zero => intro _; rfl
      | succ n ih =>
        intro hn
        unfold lk
        rw [ad_ne (by omega), ad_ne (by omega), ih (by omega)]
    refine Rch.for 8 (fun n => (40, [(0, .ref 14), (1, .int m), (2, .int (nI n))], [.int 8, .int (nI n)], HP K.1 K.2 (lkS s2 n) L e, 0, 0)) (fun n hn => ?_) ?_ 0 (by omega)
    · have g4 := hl n (by omega)
      have e4 : lkS s2 n 51 = c2 156 := by have := g4.2.2.1.1; rw [Int32.add_zero] at this; rw [this, h156 n (by omega)]
      refine Rch.i_ge rfl (fun z => absurd z (lo_in hn (by decide))) (fun _ => ?_)
      refine Rch.go rfl ?_
      refine Rch.ia (j := 51) rfl rfl rfl rfl (by decide) (by decide) ?_
      rw [e4]
      refine Rch.go rfl ?_
      refine Rch.z_ne rfl (fun _ => ?_) (fun q => absurd hq q)
      refine Rch.go rfl ?_
      refine Rch.ia rfl rfl rfl (nI_add 8 n) (by omega) (by decide) ?_
      refine Rch.go rfl ?_
      refine Rch.ia rfl rfl rfl (zadd n) (by omega) (by decide) ?_
      have k2 : Rch m_X9_minute X0 (96, [(0, .ref 14), (1, .int m), (2, .int (nI n))], [.int (lsM (lkS s2 n) n)], HP K.1 K.2 (lkS s2 n) L e, 0, 0) (fun τ => τ = (40, [(0, .ref 14), (1, .int m), (2, .int (nI (n + 1)))], [.int 8, .int (nI (n + 1))], HP K.1 K.2 (lkS s2 (n + 1)) L e, 0, 0)) := by
        refine Rch.go rfl ?_
        refine Rch.ia rfl rfl rfl (zadd n) (by omega) (by decide) ?_
        refine Rch.go rfl ?_
        refine Rch.ias rfl rfl (zadd n) (by omega) (by decide) ?_
        refine Rch.go rfl ?_
        refine Rch.ia rfl rfl rfl (nI_add 16 n) (by omega) (by decide) ?_
        refine Rch.go rfl ?_
        refine Rch.ias rfl rfl (nI_add 16 n) (by omega) (by decide) ?_
        refine Rch.go rfl ?_
        refine Rch.ia (j := 54) rfl rfl rfl rfl (by decide) (by decide) ?_
        refine Rch.go rfl ?_
        refine Rch.ias (j := 54) rfl rfl rfl (by decide) (by decide) ?_
        refine Rch.go rfl ?_
        refine Rch.wp [0, 1, 2] rfl rfl (Rch.rf ?_)
        rw [nI_1]
        rfl
      refine Rch.i_ge rfl (fun w => ?_) (fun w => ?_)
      · refine Rch.go rfl ?_
        refine Rch.ia rfl rfl rfl (zadd n) (by omega) (by decide) ?_
        rw [show lsM (lkS s2 n) n = lkS s2 n n from if_neg (Int32.not_lt.mpr w)] at k2
        exact k2
      · refine Rch.go rfl ?_
        refine Rch.ia rfl rfl rfl (nI_add 8 n) (by omega) (by decide) ?_
        rw [show lsM (lkS s2 n) n = lkS s2 n (8 + n) from if_pos (nle_lt w)] at k2
        refine Rch.st 1 rfl ?_
        exact k2
    · refine Rch.i_ge rfl (fun _ => ?_) (fun z => absurd (lo_out (by decide)) z)
      exact Rch.wp [0, 1] rfl rfl (fin _ _ _ (hl 8 (Nat.le_refl 8)) rfl)
  · rw [show lkm c2 = c2 from if_neg hq]
    refine Rch.i_ge rfl (fun q => absurd q (by decide)) (fun _ => ?_)
    refine Rch.go rfl ?_
    refine Rch.ia (j := 51) rfl rfl rfl rfl (by decide) (by decide) ?_
    rw [e51]
    refine Rch.go rfl ?_
    refine Rch.z_ne rfl (fun q => absurd q hq) (fun _ => ?_)
    exact Rch.wp [0, 1] rfl rfl (fin _ _ _ g2 rfl)
end MM
