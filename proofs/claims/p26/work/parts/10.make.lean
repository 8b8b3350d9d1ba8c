/-! ===== rules: new objects and arrays; what the JDK does ===== -/
def clO (n : Nat) (o : AO) : Bool := match o with
  | .inl _ => true
  | .inr (.inl (k, g)) => (List.range k).all fun i => Nat.ble (g i + 1) n
  | .inr (.inr (_, fs)) => fs.all (clV n)
def clH (h : AH) : Bool := h.all (clO h.length)
theorem co_cl {s : State} {am am' xa : Nat → Nat} {n : Nat} (h : ∀ k, k < n → am' k = am k) {o : AO} {e : va_E} (hc : clO n o = true) (ho : co s am xa o e) : co s am' xa o e := by
  match o, hc, ho with
  | .inl (ty, n, f), _, ho => exact ho
  | .inr (.inl (k, g)), hc, ⟨cA, h1, h2⟩ =>
    refine ⟨cA, ?_, h2⟩
    rw [h1]
    congr 7
    funext i
    by_cases hi : i < k
    · have h3 := List.all_eq_true.mp (show ((List.range k).all fun i => Nat.ble (g i + 1) n) = true from hc) i (List.mem_range.mpr hi)
      rw [if_pos hi, if_pos hi, h (g i) (Nat.lt_of_succ_le (Nat.le_of_ble_eq_true h3))]
    · rw [if_neg hi, if_neg hi]
  | .inr (.inr (ci, fs)), hc, ho =>
    show e = .inr (ci, fs.map (cv am' xa))
    rw [cv_cls h (show fs.all (clV n) = true from hc)]
    exact ho
theorem HOk.push {D : va_G} {s : State} {A : Nat → Prop} {am xa : Nat → Nat} {h : AH} {H H1 : Heap} {ws : va_W} (hH : HOk D s A am xa h H ws) (hcl : clH h = true) (hlt : Nat.ble (h.length + 1) 1000 = true) {q : Nat} {e : va_E} {o : AO} {am' : Nat → Nat} (ham : am' = fun k => if k = h.length then q else am k) (hP : va_P D vwCl (ws ++ [(q, e)]) H1) (hD : va_D A (ws ++ [(q, e)])) (ho : co s am' xa o e) : HOk D s A am' xa (h ++ [o]) H1 (ws ++ [(q, e)]) := by
  obtain ⟨-, -, h3, h4, h5⟩ := hH
  have hag : ∀ k, k < h.length → am' k = am k := fun k hk => by rw [ham]; exact if_neg (by omega)
  refine ⟨hP, hD, by simp [h3], by simpa using Nat.le_of_ble_eq_true hlt, fun k o' hk => ?_⟩
  by_cases hl : k < h.length
  · rw [List.getElem?_append_left hl] at hk
    rw [List.getElem?_append_left (by omega)]
    obtain ⟨e1, e2, e3⟩ := h5 k o' hk
    exact ⟨e1, by rw [e2, hag k hl], co_cl hag (List.all_eq_true.mp hcl o' (List.mem_of_getElem? hk)) e3⟩
  · rw [List.getElem?_append_right (by omega)] at hk
    have hz : k - h.length < 1 := (List.getElem?_eq_some_iff.mp hk).1
    have hk2 : k = h.length := by omega
    subst hk2
    rw [Nat.sub_self] at hk
    cases hk
    exact ⟨e, by rw [List.getElem?_append_right (by omega), h3, Nat.sub_self]; simp [ham], ho⟩
theorem Rch.new {M : MI} {X : AX} {Ψ : AS → Prop} {pc idx len nx a b N o cc' cs' : Nat} {v : Int32} {ls : AL} {st : List Value} {h : AH} {cc cs : Nat} {C : String} {T : u_T} {fs : List Value} (hm : mk M pc = (.new idx, len, nx, v, a, b)) (hc : vwCl[a]? = some (C, T, N)) (hfs : fs = (List.range N).map fun j => defaultValue (fty a j)) (ho : h.length = o) (hcl : clH h = true) (hlt : Nat.ble (h.length + 1) 1000 = true) (hcl2 : st.all (clV h.length) = true) (hcl3 : ls.all (fun q => clV h.length q.2) = true) (hc' : cc' = cc + 1) (hs' : cs' = cs + N) (hcc : cc' ≤ mC M) (hcs : cs' ≤ mS M) (hcf : fs.all (clV h.length) = true)
    (k : Rch M X (nx, ls, .ref o :: st, h ++ [.inr (.inr (a, fs))], cc', cs') Ψ) : Rch M X (pc, ls, st, h, cc, cs) Ψ := by
  subst ho
  subst hc'
  subst hs'
  intro ok p l e R s m args below meth c D xa A am0 n0 Q cx f am H locs ws lsC hn0 ham hH hS hl hg
  dsimp only at hn0 ham hH hl hg ⊢
  obtain ⟨d, hnx, o9⟩ := ok_at ok hm (by simp [ilen])
  simp only [okI, Bool.and_eq_true] at o9
  have hN := o9.2.2
  unfold okN at hN
  rw [hc] at hN
  simp only [Bool.and_eq_true] at hN
  obtain ⟨⟨w1, w2⟩, w3⟩ := hN
  have g := k ok p l e R s m args below meth c D xa A am0 n0 Q cx f
  obtain ⟨hx, hb, hml, hts, hnw, hov, hown, hini, hA, hK, hZ, hT, f1, f2, f3, f4, -⟩ := cx
  obtain ⟨i1, i2, i3⟩ := cl_in _ _ _ _ hc
  have hlt2 := Nat.le_of_ble_eq_true hlt
  have hdv : ∀ (am : Nat → Nat) (j : Nat), j < N → defaultValue (fty a j) = vp_V (fs.map (cv am xa)) j := by
    intro am j hj
    rw [hfs]
    simp only [vp_V, List.map_map, List.getD_eq_getElem?_getD, List.getElem?_map, List.getElem?_range hj, Option.map_some, Option.getD_some, Function.comp]
    cases fty a j <;> rfl
  refine va_new hx hb hts i1 (fty a) i2 hown (hts _ (okw_in w1)) (hts _ (okw_in w2)) (hts _ (okw_in w3)) hK hH.1 hH.2.1 hS hA hc (hdv am) (Nat.le_trans hcc f3) (Nat.le_trans hcs f4) d (fun q H1 hP1 hD1 hS1 => ?_)
  have hag : ∀ k9, k9 < h.length → (fun k => if k = h.length then q else am k) k9 = am k9 := fun k9 hk9 => if_neg (by omega)
  have g2 := g (fun k => if k = h.length then q else am k) H1 locs (ws ++ [(q, .inr (a, fs.map (cv am xa)))]) lsC (by simp; omega) (fun k9 hk9 => by
    dsimp only at hk9
    rw [List.length_append] at hk9
    show (if k9 = h.length then q else am k9) = am0 k9
    rw [if_neg (by simp at hk9; omega)]
    exact ham k9 (by simp at hk9; omega)) (hH.push hcl hlt rfl hP1 hD1 (by
      show _ = _
      rw [cv_cls hag hcf])) hS1 (by dsimp only; rw [lc_cls hag hcl3]; exact hl) hg
  dsimp only at g2
  rw [List.map_cons, cv_ref _ (by omega), cv_cls hag hcl2, if_pos rfl] at g2
  rw [hnx] at g2
  exact g2
theorem Rch.newa {M : MI} {X : AX} {Ψ : AS → Prop} {pc len nx a b N o cc' cs' : Nat} {v : Int32} {ls : AL} {st : List Value} {h : AH} {cc cs : Nat} {n : Int32} {ty : FieldType} {at9 : ArrayType} (hm : mk M pc = (.newarray at9, len, nx, v, a, b)) (hty : newarray.typeOf at9 = ty) (hdv : defaultValue ty = .int 0) (hw : okw (.arrayClass (newarray.typeOf at9)) = true) (hn : n = nI N) (hN : N < 2 ^ 31) (hby : N * componentBytes ty ≤ 536870912) (ho : h.length = o) (hcl : clH h = true) (hlt : Nat.ble (h.length + 1) 1000 = true) (hcl2 : st.all (clV h.length) = true) (hcl3 : ls.all (fun q => clV h.length q.2) = true) (hc' : cc' = cc + 1) (hs' : cs' = cs + N) (hcc : cc' ≤ mC M) (hcs : cs' ≤ mS M)
    (k : Rch M X (nx, ls, .ref o :: st, h ++ [.inl (ty, N, fun _ => 0)], cc', cs') Ψ) : Rch M X (pc, ls, .int n :: st, h, cc, cs) Ψ := by
  subst ho
  subst hc'
  subst hs'
  subst hn
  intro ok p l e R s m args below meth c D xa A am0 n0 Q cx f am H locs ws lsC hn0 ham hH hS hl hg
  dsimp only at hn0 ham hH hl hg ⊢
  obtain ⟨d, hnx, o9⟩ := ok_at ok hm (by simp [ilen])
  have g := k ok p l e R s m args below meth c D xa A am0 n0 Q cx f
  obtain ⟨hx, hb, hml, hts, hnw, hov, hown, hini, hA, hK, hZ, hT, f1, f2, f3, f4, -⟩ := cx
  have hlt2 := Nat.le_of_ble_eq_true hlt
  refine va_newa hx hb (hts _ (okw_in hw)) hty hK hH.1 hH.2.1 hS hA (a0 := (N, .inl fun _ => 0)) (fun cA => by rw [vp_cell_i, hdv]) (nI_nn hN) (clamp_nI hN) hby (Nat.le_trans hcc f3) (Nat.le_trans hcs f4) d (fun q cA H1 hK1 hP1 hD1 hS1 => ?_)
  have hag : ∀ k9, k9 < h.length → (fun k => if k = h.length then q else am k) k9 = am k9 := fun k9 hk9 => if_neg (by omega)
  have g2 := g (fun k => if k = h.length then q else am k) H1 locs (ws ++ [(q, .inl (cA, N, .inl fun _ => 0))]) lsC (by simp; omega) (fun k9 hk9 => by
    dsimp only at hk9
    rw [List.length_append] at hk9
    show (if k9 = h.length then q else am k9) = am0 k9
    rw [if_neg (by simp at hk9; omega)]
    exact ham k9 (by simp at hk9; omega)) (hH.push hcl hlt rfl hP1 hD1 ⟨cA, rfl, hK1.2 0 _ rfl⟩) hS1 (by dsimp only; rw [lc_cls hag hcl3]; exact hl) hg
  dsimp only at g2
  rw [List.map_cons, cv_ref _ (by omega), cv_cls hag hcl2, if_pos rfl] at g2
  rw [hnx] at g2
  exact g2
theorem Rch.oi {M : MI} {X : AX} {Ψ : AS → Prop} {pc idx len nx a b o : Nat} {v : Int32} {ls : AL} {st : List Value} {h : AH} {cc cs : Nat} (hm : mk M pc = (.invokespecial idx, len, nx, v, a, b)) (hw : okw (.methodLink (mo M) idx objectInit) = true) (hF : Nat.ble 1 (mF M) = true) (hW : Nat.ble 20 (mW M) = true) (hr : catOk st = true)
    (k : Rch M X (nx, ls, st, h, cc, cs) Ψ) : Rch M X (pc, ls, .ref o :: st, h, cc, cs) Ψ := by
  intro ok p l e R s m args below meth c D xa A am0 n0 Q cx f am H locs ws lsC hn0 ham hH hS hl hg
  dsimp only at hn0 ham hH hl hg ⊢
  obtain ⟨d, hnx, -⟩ := ok_at ok hm (by simp [ilen])
  have g := k ok p l e R s m args below meth c D xa A am0 n0 Q cx f am H locs ws lsC hn0 ham hH hS hl hg
  obtain ⟨hx, hb, hml, hts, hnw, hov, hown, hini, hA, hK, hZ, hT, f1, f2, f3, f4, -⟩ := cx
  rw [hnx] at g
  have h1 := Nat.le_of_ble_eq_true hF
  have h2 := Nat.le_of_ble_eq_true hW
  have h3 := cat_sum (am := am) (xa := xa) hr
  have h4 := lv_room (m := m) (pc := pc) (ls := lsC) (rest := (Value.ref o :: st).map (cv am xa)) h3
  exact W.objInit hx hb hown (hts _ (okw_in hw)) (hts _ (okw_in (by decide +kernel))) (hts _ (okw_in (by decide +kernel))) rfl (hl.1.trans hml.symm) (a := if o < 1000 then am o else xa (o - 1000)) rfl d (by omega) (by omega) g
theorem Rch.min {M : MI} {X : AX} {Ψ : AS → Prop} {pc idx len nx a b : Nat} {v x y : Int32} {ls : AL} {st : List Value} {h : AH} {cc cs : Nat} (hm : mk M pc = (.invokestatic idx, len, nx, v, a, b)) (hw : okw (.methodLink (mo M) idx Lib.Math.min.name) = true) (hF : Nat.ble 1 (mF M) = true) (hW : Nat.ble 21 (mW M) = true) (hr : catOk st = true) (hcc : cc ≤ mC M) (hcs : cs ≤ mS M)
    (k : Rch M X (nx, ls, .int (if y < x then y else x) :: st, h, cc, cs) Ψ) : Rch M X (pc, ls, .int y :: .int x :: st, h, cc, cs) Ψ := by
  intro ok p l e R s m args below meth c D xa A am0 n0 Q cx f am H locs ws lsC hn0 ham hH hS hl hg
  dsimp only at hn0 ham hH hl hg ⊢
  obtain ⟨d, hnx, -⟩ := ok_at ok hm (by simp [ilen])
  have g := k ok p l e R s m args below meth c D xa A am0 n0 Q cx f am H locs ws lsC hn0 ham hH hS hl hg
  obtain ⟨hx, hb, hml, hts, hnw, hov, hown, hini, hA, hK, hZ, hT, f1, f2, f3, f4, -⟩ := cx
  rw [hnx] at g
  have h1 := Nat.le_of_ble_eq_true hF
  have h2 := Nat.le_of_ble_eq_true hW
  have h3 := cat_sum (am := am) (xa := xa) hr
  exact va_mmin hx hb (hml.trans hl.1.symm) hown (hts _ (okw_in hw)) (hts _ (okw_in (by decide +kernel))) (hts _ (okw_in (by decide +kernel))) (hts _ (okw_in (by decide +kernel))) (by omega) (by omega) (by omega) (by omega) d g
theorem Rch.abs {M : MI} {X : AX} {Ψ : AS → Prop} {pc idx len nx a b : Nat} {v x : Int32} {ls : AL} {st : List Value} {h : AH} {cc cs : Nat} (hm : mk M pc = (.invokestatic idx, len, nx, v, a, b)) (hw : okw (.methodLink (mo M) idx Lib.Math.abs.name) = true) (hF : Nat.ble 1 (mF M) = true) (hW : Nat.ble 21 (mW M) = true) (hr : catOk st = true) (hcc : cc ≤ mC M) (hcs : cs ≤ mS M)
    (k : Rch M X (nx, ls, .int (if 0 ≤ x then x else 0 - x) :: st, h, cc, cs) Ψ) : Rch M X (pc, ls, .int x :: st, h, cc, cs) Ψ := by
  intro ok p l e R s m args below meth c D xa A am0 n0 Q cx f am H locs ws lsC hn0 ham hH hS hl hg
  dsimp only at hn0 ham hH hl hg ⊢
  obtain ⟨d, hnx, -⟩ := ok_at ok hm (by simp [ilen])
  have g := k ok p l e R s m args below meth c D xa A am0 n0 Q cx f am H locs ws lsC hn0 ham hH hS hl hg
  obtain ⟨hx, hb, hml, hts, hnw, hov, hown, hini, hA, hK, hZ, hT, f1, f2, f3, f4, -⟩ := cx
  rw [hnx] at g
  have h1 := Nat.le_of_ble_eq_true hF
  have h2 := Nat.le_of_ble_eq_true hW
  have h3 := cat_sum (am := am) (xa := xa) hr
  exact va_mabs hx hb (hml.trans hl.1.symm) hown (hts _ (okw_in hw)) (hts _ (okw_in (by decide +kernel))) (hts _ (okw_in (by decide +kernel))) (hts _ (okw_in (by decide +kernel))) (by omega) (by omega) (by omega) (by omega) d g
theorem Rch.copy {M : MI} {X : AX} {Ψ : AS → Prop} {pc idx len nx a b n0' n1' o0 o1 nn : Nat} {v z1 z2 z3 : Int32} {ls : AL} {st : List Value} {h : AH} {cc cs : Nat} {f0 f1 : Nat → Int32} (hm : mk M pc = (.invokestatic idx, len, nx, v, a, b)) (hw : okw (.methodLink (mo M) idx arraycopyName) = true) (hF : Nat.ble 1 (mF M) = true) (hW : Nat.ble (8 + (nativeFrameWords "java/lang/System" "arraycopy" 5 + 11)) (mW M) = true) (hr : catOk st = true)
    (h0 : nth h o0 = some (.inl (.int, n0', f0))) (h1 : nth h o1 = some (.inl (.int, n1', f1))) (hz1 : z1 = 0) (hz2 : z2 = 0) (hz3 : z3 = nI nn) (hnn : nn < 2 ^ 31) (hn0' : nn ≤ n0') (hn1' : nn ≤ n1')
    (k : Rch M X (nx, ls, st, setN h o1 (.inl (.int, n1', fun j => if j < nn then f0 j else f1 j)), cc, cs) Ψ) : Rch M X (pc, ls, .int z3 :: .int z2 :: .ref o1 :: .int z1 :: .ref o0 :: st, h, cc, cs) Ψ := by
  subst hz1
  subst hz2
  subst hz3
  intro ok p l e R s m args below meth c D xa A am0 n0 Q cx f am H locs ws lsC hn0 ham hH hS hl hg
  dsimp only at hn0 ham hH hl hg ⊢
  obtain ⟨d, hnx, -⟩ := ok_at ok hm (by simp [ilen])
  have g := k ok p l e R s m args below meth c D xa A am0 n0 Q cx f
  obtain ⟨hx, hb, hml, hts, hnw, hov, hown, hini, hA, hK, hZ, hT, r1, r2, r3, r4, -⟩ := cx
  rw [hnx] at g
  have g1 := Nat.le_of_ble_eq_true hF
  have g2 := Nat.le_of_ble_eq_true hW
  have g3 := cat_sum (am := am) (xa := xa) hr
  obtain ⟨k0, e0, he0, c0, rfl, t0⟩ := hH.at h0
  obtain ⟨k1, e1, he1, c1, rfl, t1⟩ := hH.at h1
  show W p l e R s m args below meth c H locs cc cs Q (F0 m pc lsC (.int (nI nn) :: .int 0 :: cv am xa (.ref o1) :: .int 0 :: cv am xa (.ref o0) :: st.map (cv am xa)))
  rw [cv_ref am k0, cv_ref am k1]
  have e9 : va_cpy f0 f1 (0 : Int32).toNatClampNeg (0 : Int32).toNatClampNeg (nI nn).toNatClampNeg = fun j => if j < nn then f0 j else f1 j := by
    funext j
    rw [clamp_nI hnn]
    show (if 0 ≤ j ∧ j < 0 + nn then f0 (0 + (j - 0)) else f1 j) = _
    simp
  refine va_copyi hx hb (hml.trans hl.1.symm) hown (hts _ (okw_in hw)) (hts _ (okw_in (by decide +kernel))) (hts _ (okw_in (by decide +kernel))) (hts _ (okw_in (by decide +kernel))) (tys := [(c0, .int), (c1, .int)]) ⟨hK.1, fun k9 q9 h9 => by
      match k9, h9 with
      | 0, h9 => cases h9; exact t0
      | 1, h9 => cases h9; exact t1
      | k9 + 2, h9 => simp at h9⟩ hH.1 hH.2.1 hS o0 o1 0 1 he0 he1 rfl rfl rfl (by decide) (by decide) (nI_nn hnn) ?_ ?_ (fun i hi => rfl) (by omega) (by omega) d ?_
  · rw [clamp_nI hnn]; show 0 + nn ≤ _; omega
  · rw [clamp_nI hnn]; show 0 + nn ≤ _; omega
  · rw [e9]
    intro H1 locs1 hP1 hD1 hS1
    exact g am H1 locs1 _ lsC (by simpa [setN_eq] using hn0) (by simpa [setN_eq] using ham) (hH.set hP1 hD1 ⟨c1, rfl, t1⟩) hS1 hl hg
def rowOk (M : MI) (pc : Nat) : Bool := decide (mk M pc = nopI) || match decode (mb M) pc with
  | .ok (i, l) => decide (i = (mk M pc).1) && (decide (l = (mk M pc).2.1) && okI (mo M) pc (mk M pc))
  | .error _ => false
theorem MOk.of {M : MI} {f : Nat → Ins} (h : (List.range (mN M)).all (rowOk M) = true) (hf : ∀ pc, mk M pc = cond (Nat.ble (mN M) pc) nopI (f pc)) : MOk M := by
  refine ⟨fun pc hpc => ?_, fun pc hpc => ?_⟩
  · have h1 := List.all_eq_true.mp h pc (List.mem_range.mpr hpc)
    unfold rowOk at h1
    simp only [Bool.or_eq_true, decide_eq_true_eq] at h1
    rcases h1 with h1 | h1
    · exact Or.inl h1
    · right
      split at h1
      · next i l hd =>
        simp only [Bool.and_eq_true, decide_eq_true_eq] at h1
        obtain ⟨rfl, rfl, h3⟩ := h1
        exact ⟨hd, h3⟩
      · cases h1
  · rw [hf, Nat.ble_eq_true_of_le hpc]; rfl
