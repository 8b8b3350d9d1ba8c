/-! ===== a new array of arrays ===== -/
theorem out9 (c : ClassId) (N h0 : Nat) : ∀ i : Nat, Jvm.Free.Multi.outerC c N h0 i = arrV c N (fun j => va_rf (if j < i then some (h0 + 1 + j) else none))
  | 0 => by
    show ({ cls := c, slots := Array.replicate N .null, vm := .none } : Cell) = _
    rw [arrV_new]
    exact congrArg (arrV c N) (funext fun j => by simp [va_rf])
  | i + 1 => by
    show (Jvm.Free.Multi.outerC c N h0 i).setSlot i (.ref (h0 + 1 + i)) = _
    rw [out9 c N h0 i, arrV_store]
    refine congrArg (arrV c N) (funext fun j => ?_)
    by_cases e : j = i
    · subst e
      simp [updV, va_rf]
    · by_cases h : j < i
      · simp [updV, e, h, Nat.lt_succ_of_lt h]
      · simp [updV, e, h, show ¬ j < i + 1 by omega]
theorem inn9 (c : ClassId) (M : Nat) : Jvm.Free.Multi.innerC c M (defaultValue .int) = arrV c M (fun _ => .int 0) := by
  show ({ cls := c, slots := Array.replicate M (.int 0), vm := .none } : Cell) = _
  rw [arrV_new]
/-- the five new places -/
def w5 (q : Nat) (cA cy : ClassId) : va_W := [(q, .inl (cA, 4, .inr (.inr (.inr (.inr (fun i => if i < 4 then some (q + 1 + i) else none)))))), (q + 1 + 0, .inl (cy, 162, .inl fun _ => 0)), (q + 1 + 1, .inl (cy, 162, .inl fun _ => 0)), (q + 1 + 2, .inl (cy, 162, .inl fun _ => 0)), (q + 1 + 3, .inl (cy, 162, .inl fun _ => 0))]
def a5 (o : Nat) : AH := [.inr (.inl (4, fun i => o + 1 + i)), .inl (.int, 162, fun _ => 0), .inl (.int, 162, fun _ => 0), .inl (.int, 162, fun _ => 0), .inl (.int, 162, fun _ => 0)]
theorem w5_at {q : Nat} {cA cy : ClassId} {k : Nat} {x : Nat × va_E} (h : (w5 q cA cy)[k]? = some x) : k < 5 ∧ x.1 = q + k := by
  match k, h with
  | 0, h => cases h; exact ⟨by decide, rfl⟩
  | 1, h => cases h; exact ⟨by decide, rfl⟩
  | 2, h => cases h; exact ⟨by decide, rfl⟩
  | 3, h => cases h; exact ⟨by decide, rfl⟩
  | 4, h => cases h; exact ⟨by decide, rfl⟩
  | k + 5, h => simp [w5] at h
theorem Rch.mna {M : MI} {X : AX} {Ψ : AS → Prop} {pc idx nx a b o cc' cs' : Nat} {v : Int32} {ls : AL} {st : List Value} {h : AH} {cc cs : Nat} (hm : mk M pc = (.multianewarray idx 2, 4, nx, v, a, b)) (hw : okw (.classLink (mo M) idx ("[" ++ (FieldType.array FieldType.int).toString)) = true) (hw2 : okw (.arrayClass .int) = true) (ho : h.length = o) (hcl : clH h = true) (hlt : Nat.ble (h.length + 5) 1000 = true) (hcl2 : st.all (clV h.length) = true) (hcl3 : ls.all (fun q => clV h.length q.2) = true) (hc' : cc' = cc + 5) (hs' : cs' = cs + 652) (hcc : cc' ≤ mC M) (hcs : cs' ≤ mS M)
    (k : Rch M X (nx, ls, .ref o :: st, h ++ a5 o, cc', cs') Ψ) : Rch M X (pc, ls, .int 162 :: .int 4 :: st, h, cc, cs) Ψ := by
  subst ho
  subst hc'
  subst hs'
  intro ok p l e R s m args below meth c D xa A am0 n0 Q cx f am H locs ws lsC hn0 ham hH hS hl hg
  dsimp only at hn0 ham hH hl hg ⊢
  obtain ⟨d, hnx⟩ := ok.at hm (nop_ne (by intro e; cases e))
  simp only [okI, Bool.and_eq_true, decide_eq_true_eq] at hnx
  replace hnx := hnx.1
  have g := k ok p l e R s m args below meth c D xa A am0 n0 Q cx f
  obtain ⟨hx, hb, hml, hts, hnw, hov, hown, hini, hA, hK, hZ, hT0, f1, f2, f3, f4, -⟩ := cx
  have hlt2 := Nat.le_of_ble_eq_true hlt
  have n4 : (4 : Int32).toNatClampNeg = 4 := by decide
  have n162 : (162 : Int32).toNatClampNeg = 162 := by decide
  have hov2 : (Cond.arrayOver (.array .int)).before args s = true := by
    unfold Cond.before Cond.holds at hov ⊢
    simpa only [Cond.value] using hov
  intro T hT Xs
  obtain ⟨vm₁, cA, cy, -, fA, fC, hO, hI, X', step⟩ := Xs.multianewarray2F hx hown (ty := .int) (hts _ (okw_in hw)) hov2 (hts _ (okw_in hw2)) (g := F0 m pc lsC ((.int 162 :: .int 4 :: st).map (cv am xa))) rfl (by rw [hb]; exact d) (n := 4) (k := 162) (rest := st.map (cv am xa)) rfl (by decide) (by decide) (by decide) (by decide) (by decide) rfl rfl (by rw [n4]; omega) (by rw [n4, n162]; omega)
  rw [n4, n162] at X' step
  generalize hF : Jvm.Free.Multi.fill (T.setVm vm₁) cA cy 4 162 (defaultValue .int) 4 = F at X' step
  have hTh : (T.setVm vm₁).heap = H := hT
  obtain ⟨h1, h2, -, -⟩ := Jvm.Free.Multi.fill_facts (T.setVm vm₁) cA cy 4 162 (defaultValue .int) 4
  rw [hF, hTh] at h1 h2
  have hold : ∀ x : Nat, x < H.size → F.heap[x]? = H[x]? := fun x hx => by
    have := Jvm.Free.Multi.fill_old (T.setVm vm₁) cA cy 4 162 (defaultValue .int) (a := x) (by rw [hTh]; exact hx) 4
    rw [hF, hTh] at this
    exact this
  have hrow : ∀ j : Nat, j < 4 → F.heap[H.size + 1 + j]? = some (vp_cell cy (162, .inl fun _ => 0)) := fun j hj => by
    have := Jvm.Free.Multi.fill_inner (T.setVm vm₁) cA cy 4 162 (defaultValue .int) 4 j hj
    rw [hF, hTh] at this
    rw [this, vp_cell_i]
    exact congrArg some (inn9 cy 162)
  have hout : Jvm.Free.Multi.outerC cA 4 H.size 4 = vp_cell cA (4, .inr (.inr (.inr (.inr (fun i => if i < 4 then some (H.size + 1 + i) else none))))) := by
    rw [vp_cell_q]
    exact out9 cA 4 H.size 4
  rw [hout] at h2
  have hP := hH.1
  have hD := hH.2.1
  have hP0 : va_P D vwCl ws F.heap := hP.kept (fun k9 x hx => hold x.1 ((hP k9 x hx).lt))
  have hP1 : va_P D vwCl (ws ++ w5 H.size cA cy) F.heap := hP0.app (fun k9 x hx => by
    match k9, hx with
    | 0, hx => cases hx; exact h2
    | 1, hx => cases hx; exact hrow 0 (by decide)
    | 2, hx => cases hx; exact hrow 1 (by decide)
    | 3, hx => cases hx; exact hrow 2 (by decide)
    | 4, hx => cases hx; exact hrow 3 (by decide)
    | k9 + 5, hx => simp [w5] at hx)
  have hle : ∀ (k9 : Nat) (x : Nat × va_E), ws[k9]? = some x → x.1 < H.size := fun k9 x hx => (hP k9 x hx).lt
  have hD1 : va_D A (ws ++ w5 H.size cA cy) := by
    refine ⟨fun i j x y hi hj hxy => ?_, fun k9 x hx => ?_⟩
    · by_cases q1 : i < ws.length <;> by_cases q2 : j < ws.length
      · rw [List.getElem?_append_left q1] at hi
        rw [List.getElem?_append_left q2] at hj
        exact hD.1 i j x y hi hj hxy
      · rw [List.getElem?_append_left q1] at hi
        rw [List.getElem?_append_right (by omega)] at hj
        have := hle _ _ hi
        have := w5_at hj
        omega
      · rw [List.getElem?_append_right (by omega)] at hi
        rw [List.getElem?_append_left q2] at hj
        have := hle _ _ hj
        have := w5_at hi
        omega
      · rw [List.getElem?_append_right (by omega)] at hi hj
        have := w5_at hi
        have := w5_at hj
        omega
    · by_cases q1 : k9 < ws.length
      · rw [List.getElem?_append_left q1] at hx
        exact hD.2 k9 x hx
      · rw [List.getElem?_append_right (by omega)] at hx
        have := w5_at hx
        exact hA _ (by have := hS.1; omega)
  have tA : aT s cA (.array .int) := by
    obtain ⟨-, k9, hk9, cm9, hkk9⟩ := (hO 0 0 0).1
    exact ⟨fun N9 z9 => ⟨(fun q hq => by cases hq), k9, hk9, cm9, hkk9⟩, fA⟩
  have tI : aT s cy .int := by
    obtain ⟨-, k9, hk9, cm9, hkk9⟩ := (hI 0 (.int 0)).1
    exact ⟨fun N9 z9 => ⟨(fun q hq => by cases hq), k9, hk9, cm9, hkk9⟩, fC⟩
  have hag : ∀ k9, k9 < h.length → (fun k => if h.length ≤ k ∧ k < h.length + 5 then H.size + (k - h.length) else am k) k9 = am k9 := fun k9 hk9 => if_neg (by omega)
  have hnew : ∀ j, j < 5 → (fun k => if h.length ≤ k ∧ k < h.length + 5 then H.size + (k - h.length) else am k) (h.length + j) = H.size + j := fun j hj => by
    show (if _ then _ else _) = _
    rw [if_pos (by omega)]
    omega
  generalize hamE : (fun k => if h.length ≤ k ∧ k < h.length + 5 then H.size + (k - h.length) else am k) = am' at hag hnew
  have hH' : HOk D s A am' xa (h ++ a5 h.length) F.heap (ws ++ w5 H.size cA cy) := by
    obtain ⟨-, -, h3, h4, h5⟩ := hH
    refine ⟨hP1, hD1, by simp [h3, w5, a5], by simp [a5]; omega, fun k9 o' hk => ?_⟩
    by_cases hl9 : k9 < h.length
    · rw [List.getElem?_append_left hl9] at hk
      rw [List.getElem?_append_left (by omega)]
      obtain ⟨e1, e2, e3⟩ := h5 k9 o' hk
      exact ⟨e1, by rw [e2, hag k9 hl9], co_cl hag (List.all_eq_true.mp hcl o' (List.mem_of_getElem? hk)) e3⟩
    · rw [List.getElem?_append_right (by omega)] at hk ⊢
      rw [h3]
      obtain ⟨j, rfl⟩ : ∃ j, k9 = h.length + j := ⟨k9 - h.length, by omega⟩
      rw [show h.length + j - h.length = j by omega] at hk ⊢
      match j, hk with
      | 0, hk =>
        cases hk
        refine ⟨_, by rw [hnew 0 (by decide)]; rfl, cA, ?_, tA⟩
        congr 7
        funext i
        by_cases hi : i < 4
        · rw [if_pos hi, if_pos hi]
          show some (H.size + 1 + i) = some (am' (h.length + 1 + i))
          rw [show h.length + 1 + i = h.length + (1 + i) by omega, hnew (1 + i) (by omega), show H.size + 1 + i = H.size + (1 + i) by omega]
        · rw [if_neg hi, if_neg hi]
      | 1, hk => cases hk; exact ⟨_, by rw [hnew 1 (by decide)]; rfl, cy, rfl, tI⟩
      | 2, hk => cases hk; exact ⟨_, by rw [hnew 2 (by decide)]; rfl, cy, rfl, tI⟩
      | 3, hk => cases hk; exact ⟨_, by rw [hnew 3 (by decide)]; rfl, cy, rfl, tI⟩
      | 4, hk => cases hk; exact ⟨_, by rw [hnew 4 (by decide)]; rfl, cy, rfl, tI⟩
      | j + 5, hk => simp [a5] at hk
  have hS' : va_S A s.heap F.heap locs := ⟨by rw [h1]; have := hS.1; omega, fun x q1 q2 => (hold x (Nat.lt_of_lt_of_le q1 hS.1)).trans (hS.2.1 x q1 q2), hS.2.2⟩
  have g2 := g am' F.heap locs (ws ++ w5 H.size cA cy) lsC (by simp; omega) (fun k9 hk9 => by
    dsimp only at hk9
    rw [List.length_append, show (a5 h.length).length = 5 from rfl] at hk9
    rw [← hamE]
    show (if h.length ≤ k9 ∧ k9 < h.length + 5 then _ else am k9) = am0 k9
    rw [if_neg (by omega)]
    exact ham k9 (by omega)) hH' hS' (by dsimp only; rw [lc_cls hag hcl3]; exact hl) hg
  dsimp only at g2
  have e0 : am' h.length = H.size := hnew 0 (by decide)
  rw [List.map_cons, cv_ref _ (by omega), cv_cls hag hcl2, e0] at g2
  rw [hnx] at g2
  obtain ⟨t, b1, b2⟩ := g2 F rfl X'
  refine ⟨t, step t ?_, b2⟩
  have e1 : T.heap.size = H.size := by rw [hT]
  rw [e1]
  exact b1
section BI
theorem t_X0_init : Ct m_X0_init X0 [.ref 3] [.inr (.inr (4, [.ref 1, .null, .null, .int 0, .null])), .inr (.inr (2, [.ref 2])), .inl (.int, 162, iS 3), .inr (.inr (0, [.null, .int 0, .int 0]))] (fun rv h => rv = none ∧ h = [.inr (.inr (4, [.ref 1, .null, .null, .int 0, .null])), .inr (.inr (2, [.ref 2])), .inl (.int, 162, iS 3), .inr (.inr (0, [.ref 4, .int 0, .int 0]))] ++ a5 4) := by
  refine ⟨ok_X0_init, ?_⟩
  refine Rch.go rfl ?_
  refine Rch.oi rfl (by decide +kernel) rfl rfl rfl ?_
  refine Rch.go rfl ?_
  refine Rch.mna (o := 4) (cc' := 5) (cs' := 652) rfl (by decide +kernel) (by decide +kernel) rfl rfl rfl rfl rfl rfl rfl (by decide) (by decide) ?_
  refine Rch.go rfl ?_
  exact Rch.rv rfl rfl (by decide) (by decide) ⟨rfl, rfl⟩
end BI
