/-! ===== the text, read by both ===== -/
theorem rdf_n {sg : FA} {d u : Nat} {S : TS} (h : tkS (sg u) S = none) : rdf sg (d + 1) u S = (S, some u) := by
  show (match tkS (sg u) S with | none => (S, some u) | some S' => rdf sg d (u + 1) S') = _
  rw [h]
theorem rdf_y {sg : FA} {d u : Nat} {S S' : TS} (h : tkS (sg u) S = some S') : rdf sg (d + 1) u S = rdf sg d (u + 1) S' := by
  show (match tkS (sg u) S with | none => (S, some u) | some S' => rdf sg d (u + 1) S') = _
  rw [h]
theorem upd_upd (f : FA) (i : Nat) (v w : Int32) : upd (upd f i v) i w = upd f i w := by
  funext j
  by_cases e : j = i
  · subst e; rw [pk_us, pk_us]
  · rw [pk_un e, pk_un e, pk_un e]
theorem digN {v lo hi : Int32} {l u : Nat} (hl : lo = nI l) (hu : hi = nI u) (h1 : l ≤ u) (h2 : u < 2 ^ 30) (h : lo ≤ v ∧ v ≤ hi) : ∃ p, l ≤ p ∧ p ≤ u ∧ v = nI p := by
  obtain ⟨p, hp, rfl⟩ := rng (v := v) (M := hi) hu (by omega) ⟨Int32.le_trans (by rw [hl]; exact (nI_leI (a := 0) (by decide) (by omega)).mpr (by omega)) h.1, h.2⟩
  refine ⟨p, ?_, hp, rfl⟩
  rw [hl] at h
  exact (nI_leI (by omega) (by omega)).mp h.1
theorem sub48 {p : Nat} (h : 48 ≤ p) : nI p - 48 = nI (p - 48) := nI_sub (b := 48) h
/-- after the last sign that an order needs -/
theorem rdf_end {sg tx : FA} {n a' x : Nat} {kd bb : FA} {m : Nat} (hs : ∀ i, i < n → sg i = tx i) (ha : a' ≤ n) (hx : x = 3 ∨ x = 4) (hn : x = 3 → a' < n → ¬ tx a' = 59 → tkN (tx a') (kd, bb, m, x) = none) :
    (a' = n → flt (nI n) (rdf sg (n - a') a' (kd, bb, m, x)) = -1 ∧ (rdf sg (n - a') a' (kd, bb, m, x)).1 = (kd, bb, m, x)) ∧
    (a' < n → tx a' = 59 → rdf sg (n - a') a' (kd, bb, m, x) = rdf sg (n - (a' + 1)) (a' + 1) (kd, bb, m, 0)) ∧
    (a' < n → ¬ tx a' = 59 → flt (nI n) (rdf sg (n - a') a' (kd, bb, m, x)) = nI a') := by
  refine ⟨fun q => ?_, fun q h => ?_, fun q h => ?_⟩
  · subst q
    rw [Nat.sub_self]
    refine ⟨?_, rfl⟩
    show (if x = 3 ∨ x = 4 then (-1 : Int32) else _) = -1
    rw [if_pos hx]
  · rw [show n - a' = n - (a' + 1) + 1 by omega]
    refine rdf_y ?_
    rw [hs a' q, h]
    rcases hx with rfl | rfl <;> rfl
  · rw [show n - a' = n - (a' + 1) + 1 by omega, rdf_n]
    · rfl
    · rw [hs a' q]
      have e1 : ∀ x, tkE (tx a') (kd, bb, m, x) = none := fun x => if_neg h
      rcases hx with rfl | rfl
      · show (match tkE (tx a') (kd, bb, m, 3) with | some S' => some S' | none => tkN (tx a') (kd, bb, m, 3)) = none
        rw [e1]
        exact hn rfl q h
      · exact e1 4
theorem rdf_one {sg tx : FA} {n a m : Nat} {kd bb : FA} {F : F4} (hs : ∀ i, i < n → sg i = tx i) (ha : a ≤ n) (hm : m < 60) (hF : RdP tx n a F) :
    (∃ f, f ≤ n ∧ F.1 = nI f ∧ F.2.1 = 1 ∧ flt (nI n) (rdf sg (n - a) a (kd, bb, m, 0)) = nI f) ∨
    ∃ (k : Nat) (b : Int32) (a' : Nat), Gd (nI k, b) ∧ F = (nI a', 0, nI k, b) ∧ a + 2 ≤ a' ∧ a' ≤ n ∧
      (a' = n → flt (nI n) (rdf sg (n - a) a (kd, bb, m, 0)) = -1 ∧ ∃ x, (rdf sg (n - a) a (kd, bb, m, 0)).1 = (upd kd m (nI k), upd bb m b, m + 1, x)) ∧
      (a' < n → tx a' = 59 → rdf sg (n - a) a (kd, bb, m, 0) = rdf sg (n - (a' + 1)) (a' + 1) (upd kd m (nI k), upd bb m b, m + 1, 0)) ∧
      (a' < n → ¬ tx a' = 59 → flt (nI n) (rdf sg (n - a) a (kd, bb, m, 0)) = nI a') := by
  unfold RdP at hF
  cases hk : klN (cAt tx n a) with
  | none =>
    rw [hk] at hF
    refine Or.inl ⟨a, ha, hF.1, hF.2, ?_⟩
    by_cases q : a < n
    · rw [show cAt tx n a = tx a from if_pos q] at hk
      rw [show n - a = n - (a + 1) + 1 by omega, rdf_n]
      · rfl
      · show tkL (sg a) (kd, bb, m, 0) = none
        unfold tkL
        rw [hs a q, hk]
    · obtain rfl : a = n := by omega
      rw [Nat.sub_self]
      exact (if_neg (by decide) : (if (0 = 3 ∨ 0 = 4) then (-1 : Int32) else nI a) = nI a)
  | some k =>
    rw [hk] at hF
    dsimp only at hF
    have hk5 := klN_lt hk
    have han : a < n := by
      by_cases q : a < n
      · exact q
      · rw [show cAt tx n a = 0 from if_neg q, klN_0] at hk
        cases hk
    have ek : klN (sg a) = some k := by rw [hs a han, ← hk]; unfold cAt; rw [if_pos han]
    have e1 : rdf sg (n - a) a (kd, bb, m, 0) = rdf sg (n - (a + 1)) (a + 1) (upd kd m (nI k), upd bb m 0, m + 1, if k < 2 then 1 else 2) := by
      rw [show n - a = n - (a + 1) + 1 by omega]
      refine rdf_y ?_
      show tkL (sg a) (kd, bb, m, 0) = _
      unfold tkL
      rw [ek]
      exact if_pos hm
    rw [e1]
    have e2 : ∀ g, tkS g (upd kd m (nI k), upd bb m 0, m + 1, if k < 2 then 1 else 2) = if loK k ≤ g ∧ g ≤ hiK k then some (upd kd m (nI k), upd bb m (g - 48), m + 1, if k < 2 then 4 else 3) else none := by
      intro g
      unfold loK hiK
      by_cases h2 : k < 2
      · rw [if_pos h2, if_pos h2, if_pos h2, if_pos h2]
        show (if 48 ≤ g ∧ g ≤ 52 ∧ 0 < m + 1 then some (upd kd m (nI k), upd (upd bb m 0) m (g - 48), m + 1, 4) else none) = _
        rw [upd_upd]
        by_cases q : 48 ≤ g ∧ g ≤ 52
        · rw [if_pos q, if_pos ⟨q.1, q.2, by omega⟩]
        · rw [if_neg q, if_neg (fun z => q ⟨z.1, z.2.1⟩)]
      · rw [if_neg h2, if_neg h2, if_neg h2, if_neg h2]
        show (if 49 ≤ g ∧ g ≤ 57 ∧ 0 < m + 1 then some (upd kd m (nI k), upd (upd bb m 0) m (g - 48), m + 1, 3) else none) = _
        rw [upd_upd]
        by_cases q : 49 ≤ g ∧ g ≤ 57
        · rw [if_pos q, if_pos ⟨q.1, q.2, by omega⟩]
        · rw [if_neg q, if_neg (fun z => q ⟨z.1, z.2.1⟩)]
    by_cases hin : loK k ≤ cAt tx n (a + 1) ∧ cAt tx n (a + 1) ≤ hiK k
    rotate_left
    · rw [if_neg hin] at hF
      refine Or.inl ⟨a + 1, by omega, hF.1, hF.2, ?_⟩
      by_cases q : a + 1 < n
      · rw [show cAt tx n (a + 1) = tx (a + 1) from if_pos q] at hin
        rw [show n - (a + 1) = n - (a + 1 + 1) + 1 by omega, rdf_n]
        · rfl
        · rw [e2, hs (a + 1) q, if_neg hin]
      · obtain rfl : a + 1 = n := by omega
        rw [Nat.sub_self]
        exact if_neg (by show ¬ ((if k < 2 then 1 else 2) = 3 ∨ (if k < 2 then 1 else 2) = 4); split <;> decide)
    rw [if_pos hin] at hF
    have ha1 : a + 1 < n := by
      by_cases q : a + 1 < n
      · exact q
      · rw [show cAt tx n (a + 1) = 0 from if_neg q] at hin
        exfalso
        revert hin
        unfold loK
        split
        · exact fun z => absurd z.1 (by decide)
        · exact fun z => absurd z.1 (by decide)
    have ec : cAt tx n (a + 1) = tx (a + 1) := if_pos ha1
    have e3 : rdf sg (n - (a + 1)) (a + 1) (upd kd m (nI k), upd bb m 0, m + 1, if k < 2 then 1 else 2) = rdf sg (n - (a + 2)) (a + 2) (upd kd m (nI k), upd bb m (tx (a + 1) - 48), m + 1, if k < 2 then 4 else 3) := by
      rw [show n - (a + 1) = n - (a + 2) + 1 by omega]
      refine rdf_y ?_
      rw [e2, hs (a + 1) ha1, if_pos (by rw [← ec]; exact hin)]
    rw [e3]
    rw [ec] at hin hF
    right
    by_cases h2 : k < 2
    · rw [show loK k = 48 from if_pos h2, show hiK k = 52 from if_pos h2] at hin
      obtain ⟨p, p1, p2, p3⟩ := digN (l := 48) (u := 52) rfl rfl (by decide) (by decide) hin
      rw [if_neg (fun q => q.1 h2)] at hF
      rw [if_pos h2]
      have he := rdf_end (kd := upd kd m (nI k)) (bb := upd bb m (tx (a + 1) - 48)) (m := m + 1) (a' := a + 2) hs (by omega) (Or.inr rfl) (fun q => absurd q (by decide))
      exact ⟨k, tx (a + 1) - 48, a + 2, ⟨k, p - 48, rfl, by rw [p3]; exact sub48 p1, hk5, by omega, by omega, by omega⟩, hF, Nat.le_refl _, by omega, fun q => ⟨(he.1 q).1, 4, (he.1 q).2⟩, he.2.1, he.2.2⟩
    rw [show loK k = 49 from if_neg h2, show hiK k = 57 from if_neg h2] at hin
    obtain ⟨p, p1, p2, p3⟩ := digN (l := 49) (u := 57) rfl rfl (by decide) (by decide) hin
    have eb : tx (a + 1) - 48 = nI (p - 48) := by rw [p3]; exact sub48 (by omega)
    rw [if_neg h2]
    by_cases hgo : go9 tx n a k
    rotate_left
    · rw [if_neg hgo] at hF
      have he := rdf_end (kd := upd kd m (nI k)) (bb := upd bb m (tx (a + 1) - 48)) (m := m + 1) (a' := a + 2) hs (by omega) (Or.inl rfl) (fun _ q h => by
        unfold tkN
        rw [if_neg]
        rintro ⟨q1, q2, q3, q4⟩
        refine hgo ⟨h2, q, ⟨q1, q2⟩, ?_⟩
        have q5 : upd bb m (tx (a + 1) - 48) m * 10 + tx (a + 2) - 48 ≤ 60 := q4
        rw [pk_us, Int32.mul_comm] at q5
        unfold by2
        rw [ec]
        exact q5)
      exact ⟨k, tx (a + 1) - 48, a + 2, ⟨k, p - 48, rfl, eb, hk5, by omega, by omega, by omega⟩, hF, Nat.le_refl _, by omega, fun q => ⟨(he.1 q).1, 3, (he.1 q).2⟩, he.2.1, he.2.2⟩
    rw [if_pos hgo] at hF
    obtain ⟨-, g2, g3, g4⟩ := hgo
    obtain ⟨r, r1, r2, r3⟩ := digN (l := 48) (u := 57) rfl rfl (by decide) (by decide) g3
    have ey : by2 tx n a = nI (10 * (p - 48) + r - 48) := by
      unfold by2
      rw [ec, eb, r3, show (10 : Int32) * nI (p - 48) = nI 10 * nI (p - 48) from rfl, nI_mul, nI_add]
      exact sub48 (by omega)
    rw [ey] at g4 hF
    have hy : 10 * (p - 48) + r - 48 ≤ 60 := (nI_leI (b := 60) (by omega) (by decide)).mp g4
    have e4 : rdf sg (n - (a + 2)) (a + 2) (upd kd m (nI k), upd bb m (tx (a + 1) - 48), m + 1, 3) = rdf sg (n - (a + 3)) (a + 3) (upd kd m (nI k), upd bb m (nI (10 * (p - 48) + r - 48)), m + 1, 3) := by
      rw [show n - (a + 2) = n - (a + 3) + 1 by omega]
      refine rdf_y ?_
      rw [hs (a + 2) g2]
      have n59 : ¬ tx (a + 2) = 59 := fun q => absurd g3.2 (by rw [q]; decide)
      show (match tkE (tx (a + 2)) (upd kd m (nI k), upd bb m (tx (a + 1) - 48), m + 1, 3) with | some S' => some S' | none => tkN (tx (a + 2)) (upd kd m (nI k), upd bb m (tx (a + 1) - 48), m + 1, 3)) = _
      rw [show tkE (tx (a + 2)) (upd kd m (nI k), upd bb m (tx (a + 1) - 48), m + 1, 3) = none from if_neg n59]
      have e5 : upd bb m (tx (a + 1) - 48) m * 10 + tx (a + 2) - 48 = nI (10 * (p - 48) + r - 48) := by
        rw [pk_us, Int32.mul_comm, ← ey]
        unfold by2
        rw [ec]
      show (if 48 ≤ tx (a + 2) ∧ tx (a + 2) ≤ 57 ∧ 0 < m + 1 ∧ upd bb m (tx (a + 1) - 48) m * 10 + tx (a + 2) - 48 ≤ 60 then some (upd kd m (nI k), upd (upd bb m (tx (a + 1) - 48)) m (upd bb m (tx (a + 1) - 48) m * 10 + tx (a + 2) - 48), m + 1, 3) else none) = _
      rw [e5, if_pos ⟨g3.1, g3.2, by omega, g4⟩, upd_upd]
    rw [e4]
    have he := rdf_end (kd := upd kd m (nI k)) (bb := upd bb m (nI (10 * (p - 48) + r - 48))) (m := m + 1) (a' := a + 3) hs (by omega) (Or.inl rfl) (fun _ q h => by
      unfold tkN
      rw [if_neg]
      rintro ⟨q1, q2, q3, q4⟩
      have q5 : upd bb m (nI (10 * (p - 48) + r - 48)) m * 10 + tx (a + 3) - 48 ≤ 60 := q4
      obtain ⟨w, w1, w2, w3⟩ := digN (l := 48) (u := 57) rfl rfl (by decide) (by decide) (And.intro (show (48 : Int32) ≤ tx (a + 3) from q1) (show tx (a + 3) ≤ 57 from q2))
      rw [pk_us, w3, show nI (10 * (p - 48) + r - 48) * 10 = nI (10 * (p - 48) + r - 48) * nI 10 from rfl, nI_mul, nI_add, sub48 (by omega)] at q5
      have := (nI_leI (b := 60) (by omega) (by decide)).mp q5
      omega)
    exact ⟨k, nI (10 * (p - 48) + r - 48), a + 3, ⟨k, 10 * (p - 48) + r - 48, rfl, rfl, hk5, by omega, by omega, by omega⟩, hF, by omega, by omega, fun q => ⟨(he.1 q).1, 3, (he.1 q).2⟩, he.2.1, he.2.2⟩
