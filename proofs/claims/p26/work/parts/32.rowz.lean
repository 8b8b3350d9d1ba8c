/-! ===== what holds between two calls; the row of orders ===== -/
/-- the barge's cells between two calls; B bounds minutes -/
def Gdz (B : Nat) (c : FA) : Prop := Rgz c ∧ Wbz c ∧ (∃ N, RowOk c N) ∧ (∃ M, M ≤ B ∧ c 156 = nI M) ∧ ∃ S, S ≤ 3 * B ∧ c 161 = nI S
theorem Gdz.mono {B B' : Nat} {c : FA} (h : Gdz B c) (hB : B ≤ B') : Gdz B' c := by
  obtain ⟨h1, h2, h3, ⟨M, h4, h5⟩, S, h6, h7⟩ := h
  exact ⟨h1, h2, h3, ⟨M, by omega, h5⟩, S, by omega, h7⟩
theorem RowOk.cg {c d : FA} {N : Nat} (h : RowOk c N) (hd : ∀ j, 131 ≤ j → j < 156 → d j = c j) : RowOk d N := h.congr (fun j h1 h2 => hd j h1 (by omega))
theorem Wbz.cg {c d : FA} (h : Wbz c) (hd : ∀ j, j < 8 ∨ (16 ≤ j ∧ j < 24) ∨ j = 157 ∨ j = 158 → d j = c j) : Wbz d := by
  unfold Wbz at h ⊢
  rw [show pzT d = pzT c from fs_cong 8 (fun k hk => hd k (by omega)), show lostS d = lostS c from fs_cong 8 (fun k hk => hd (16 + k) (by omega)), hd 157 (by omega), hd 158 (by omega)]
  exact h
theorem Gdz.cg {B : Nat} {c d : FA} (h : Gdz B c) (hd : ∀ j, j < 162 → d j = c j) : Gdz B d := by
  obtain ⟨h1, h2, ⟨N, h3⟩, ⟨M, h4, h5⟩, S, h6, h7⟩ := h
  exact ⟨h1.low (fun j hj _ => hd j (by omega)), h2.cg (fun j hj => hd j (by omega)), ⟨N, h3.cg (fun j h1 h2 => hd j (by omega))⟩, ⟨M, h4, (hd 156 (by decide)).trans h5⟩, S, h6, (hd 161 (by decide)).trans h7⟩
theorem Gdz.rate {B : Nat} {c : FA} (h : Gdz B c) : ∃ r, r ≤ 9 ∧ c 128 = nI r := by
  have h1 := h.1.q1
  obtain ⟨k, e1, e2, e3⟩ := pzK (a := c 128) (by omega)
  exact ⟨k, by omega, e1⟩
/-- the row alone is another -/
theorem Gdz.row {B N : Nat} {c d : FA} (h : Gdz B c) (hd : ∀ j, j < 131 ∨ 155 < j → d j = c j) (hN : RowOk d N) : Gdz B d := by
  obtain ⟨h1, h2, -, ⟨M, h4, h5⟩, S, h6, h7⟩ := h
  exact ⟨h1.low (fun j hj _ => hd j (by omega)), h2.cg (fun j hj => hd j (by omega)), ⟨N, hN⟩, ⟨M, h4, (hd 156 (by decide)).trans h5⟩, S, h6, (hd 161 (by decide)).trans h7⟩
abbrev PZ9 : Type := List (Int32 × Int32)
def lC (c : FA) (n : Nat) : PZ9 := (List.range n).map (fun p => (c (131 + p), c (143 + p)))
theorem lC_s (c : FA) (n : Nat) : lC c (n + 1) = lC c n ++ [(c (131 + n), c (143 + n))] := by
  unfold lC; rw [List.range_succ, List.map_append]; rfl
theorem lC_congr {c d : FA} : ∀ {n : Nat}, (∀ p, p < n → d (131 + p) = c (131 + p) ∧ d (143 + p) = c (143 + p)) → lC d n = lC c n
  | 0, _ => rfl
  | n + 1, h => by rw [lC_s, lC_s, lC_congr (fun p hp => h p (by omega)), (h n (by omega)).1, (h n (by omega)).2]
theorem lC_get {c : FA} {n p : Nat} (hp : p < n) : (lC c n)[p]? = some (c (131 + p), c (143 + p)) := by
  simp [lC, List.getElem?_range hp]
def GdR (x : Int32 × Int32) : Prop := ∃ k b : Nat, x.1 = nI k ∧ x.2 = nI b ∧ k < 5 ∧ (k < 2 → b < 5) ∧ (2 ≤ k → 1 ≤ b) ∧ b ≤ 60
theorem rowok_l {c : FA} {N : Nat} (h1 : c 155 = nI N) (h2 : N ≤ 12) (h3 : ∀ x ∈ lC c N, GdR x) : RowOk c N := by
  refine ⟨h1, h2, fun p hp => ?_⟩
  exact h3 (c (131 + p), c (143 + p)) (List.mem_of_getElem? (lC_get hp))
theorem rowok_m {c : FA} {N : Nat} (h : RowOk c N) : ∀ x ∈ lC c N, GdR x := by
  intro x hx
  unfold lC at hx
  obtain ⟨p, hp, rfl⟩ := List.mem_map.mp hx
  exact h.2.2 p (List.mem_range.mp hp)
abbrev nkz (k : Int32) (x : Int32 × Int32) : Bool := decide (¬ x.1 = k)
theorem stk_l (c : FA) (k : Int32) : ∀ n, n ≤ 12 → lC (stk c k n).1 (stk c k n).2 = (lC c n).filter (nkz k) ∧ (∀ j, j < 131 ∨ 155 ≤ j → (stk c k n).1 j = c j) ∧ ∀ p, n ≤ p → p < 12 → (stk c k n).1 (131 + p) = c (131 + p) ∧ (stk c k n).1 (143 + p) = c (143 + p)
  | 0, _ => ⟨rfl, fun _ _ => rfl, fun _ _ _ => ⟨rfl, rfl⟩⟩
  | n + 1, hn => by
    obtain ⟨i1, i2, i3⟩ := stk_l c k n (by omega)
    have hle := stk_le c k n
    obtain ⟨e1, e2⟩ := i3 n (Nat.le_refl n) (by omega)
    by_cases q : c (131 + n) = k
    · have ee : stk c k (n + 1) = stk c k n := if_pos (e1.trans q)
      rw [ee, lC_s, List.filter_append, i1]
      refine ⟨?_, i2, fun p h1 h2 => i3 p (by omega) h2⟩
      rw [show List.filter (nkz k) [(c (131 + n), c (143 + n))] = [] by simp [nkz, q], List.append_nil]
    · have ee : stk c k (n + 1) = (pat (stk c k n).1 (stk c k n).2 (c (131 + n)) (c (143 + n)), (stk c k n).2 + 1) := by
        rw [← e1, ← e2]
        exact if_neg (fun q2 => q (e1.symm.trans q2))
      rw [ee, lC_s, lC_s, List.filter_append, ← i1]
      dsimp only
      generalize hS : stk c k n = S at *
      obtain ⟨d, m⟩ := S
      dsimp only at *
      have p1 : pat d m (c (131 + n)) (c (143 + n)) (131 + m) = c (131 + n) := by unfold pat; rw [pk_un (by omega), pk_us]
      have p2 : pat d m (c (131 + n)) (c (143 + n)) (143 + m) = c (143 + n) := by unfold pat; rw [pk_us]
      refine ⟨?_, fun j hj => ?_, fun p h1 h2 => ?_⟩
      · rw [p1, p2, show List.filter (nkz k) [(c (131 + n), c (143 + n))] = [(c (131 + n), c (143 + n))] by simp [nkz, q]]
        congr 1
        refine lC_congr (fun p hp => ?_)
        unfold pat
        exact ⟨by rw [pk_un (by omega), pk_un (by omega)], by rw [pk_un (by omega), pk_un (by omega)]⟩
      · unfold pat
        rw [pk_un (by omega), pk_un (by omega)]
        exact i2 j hj
      · unfold pat
        rw [pk_un (by omega), pk_un (by omega), pk_un (by omega), pk_un (by omega)]
        exact i3 p (by omega) h2
theorem rowok_st {c : FA} {k : Int32} {N : Nat} (h : RowOk c N) : RowOk (upd (stk c k N).1 155 (nI (stk c k N).2)) (stk c k N).2 := by
  have hN := h.2.1
  have hle := stk_le c k N
  obtain ⟨i1, -, -⟩ := stk_l c k N hN
  refine rowok_l pk_us (by omega) (fun x hx => ?_)
  rw [lC_congr (c := (stk c k N).1) (fun p hp => ⟨pk_un (by omega), pk_un (by omega)⟩), i1] at hx
  exact rowok_m h x (List.mem_filter.mp hx).1
theorem rowok_wt {c : FA} {N k b : Nat} (h : RowOk c N) (hN : N < 12) (hg : k < 5 ∧ (k < 2 → b < 5) ∧ (2 ≤ k → 1 ≤ b) ∧ b ≤ 60) : RowOk (upd (pat c N (nI k) (nI b)) 155 (nI N + 1)) (N + 1) := by
  refine ⟨by rw [pk_us, nI_1], by omega, fun p hp => ?_⟩
  rw [pk_un (by omega), pk_un (by omega)]
  unfold pat
  by_cases e : p = N
  · subst e
    exact ⟨k, b, by rw [pk_un (by omega), pk_us], by rw [pk_us], hg⟩
  · obtain ⟨k2, b2, e1, e2, e3⟩ := h.2.2 p (by omega)
    exact ⟨k2, b2, by rw [pk_un (by omega), pk_un (by omega)]; exact e1, by rw [pk_un (by omega), pk_un (by omega)]; exact e2, e3⟩
