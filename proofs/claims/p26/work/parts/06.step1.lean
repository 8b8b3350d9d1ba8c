theorem nw_before {a : String} {i : Nat} {b n d h : String} {s : State} (hZ : va_Nw (.fieldLinkNest a i b n d h) s) (args : Array Value) : (Cond.fieldLinkNest a i b n d h).before args s = true := hZ
theorem va_aldA {p : Program} {l : Launch} {e : Env} {R : Room} {s : State} {m : MethodId} {args : Array Value} {below : List Frame} {meth : Method} {c : Code} {H : Heap} {locs : List Loc} {cells slots : Nat} {Q : State → Prop} {cc : ByteArray} {pc : Nat} {ls : Array Slot} {rest : List Value} {D : va_G} {cl : List vw_C} {a : Nat} {ws : va_W} (hexec : p.tables.exec = Jvm.exec) (hb : c.code = cc) (hP : va_P D cl ws H) (q0 : Nat) {cA : ClassId} {n : Nat} {f : Nat → Option Nat} (ha : ws[q0]? = some (a, .inl (cA, n, .inr (.inr (.inr (.inr f)))))) (hT : ArrOfT s cA (.array .int)) {i : Int32} (hin : vp_in i n) (hdg : decode cc pc = .ok (.aaload, 1))
    (kk : W p l e R s m args below meth c H locs cells slots Q (F0 m (pc + 1) ls (va_rf (f i.toNatClampNeg) :: rest))) : W p l e R s m args below meth c H locs cells slots Q (F0 m pc ls (.int i :: .ref a :: rest)) := by
  have hlt : i.toNatClampNeg < n := Nat.not_le.mp fun q => hin (Or.inr q)
  exact W.aald (v := va_rf (f i.toNatClampNeg)) (ty := .array .int) hexec hb (hP q0 _ ha) (hT n (fun j => va_rf (f j))) rfl (fun q => by cases q) (by show ¬ (i < 0 ∨ (arrV _ _ _).slots.size ≤ _); rw [arrV_size]; exact hin) (by show (arrV _ _ _).slots[_]? = _; rw [arrV_read _ _ hlt]) rfl rfl hdg kk
theorem inB_lt {i : Int32} {n : Nat} (h : inB i n = true) : i.toNatClampNeg < n := by
  unfold inB at h
  simp only [Bool.and_eq_true] at h
  have := Nat.le_of_ble_eq_true h.2
  omega
theorem cond_some {α : Type} {b : Bool} {x : Option α} {t : α} (h : cond b x none = some t) : b = true ∧ x = some t := by
  cases b with
  | true => exact ⟨rfl, h⟩
  | false => cases h
theorem putOk_nf {ty : FieldType} {v : Value} (h : putOk ty v = true) : narrow ty v = v ∧ fits ty v = true := by
  unfold putOk at h
  split at h
  · exact ⟨rfl, rfl⟩
  · next x =>
    simp only [Bool.or_eq_true, decide_eq_true_eq] at h
    rcases h with rfl | rfl <;> exact ⟨rfl, rfl⟩
  · exact ⟨rfl, rfl⟩
  · exact ⟨rfl, rfl⟩
  · cases h
theorem putOk_cv {am xa : Nat → Nat} {ty : FieldType} {v : Value} (h : putOk ty v = true) : putOk ty (cv am xa v) = true := by
  cases v with
  | ref k => cases ty <;> first | exact h | cases h
  | _ => exact h
set_option maxHeartbeats 4000000 in
theorem step1_sat {M : MI} {X : AX} {p : Program} {l : Launch} {e : Env} {R : Room} {s : State} {m : MethodId} {args : Array Value} {below : List Frame} {meth : Method} {c : Code} {D : va_G} {xa : Nat → Nat} {A : Nat → Prop} {am0 : Nat → Nat} {n0 : Nat} {Q : State → Prop} (ok : MOk M) (cx : CxOk M X p R s m args meth c D xa A) {σ τ : AS} (hst : step1 M X σ = some τ) (k : Sat M p l e R s m args below meth c D xa A am0 n0 Q τ) : Sat M p l e R s m args below meth c D xa A am0 n0 Q σ := by
  obtain ⟨hx, hb, hml, hts, hnw, hov, hown, hini, hA, hK, hZ, hT, -⟩ := cx
  obtain ⟨pc, ls, st, h, cc, cs⟩ := σ
  intro am H locs ws lsC hn0 ham hH hS hl hg
  dsimp only at hn0 ham hH hl hg ⊢
  unfold step1 at hst
  dsimp only at hst
  generalize hq : mk M pc = q at hst
  obtain ⟨i, len, nx, v, a, b⟩ := q
  dsimp only at hst
  have go : ∀ {nx : Nat} {st' : List Value}, some (nx, ls, st', h, cc, cs) = some τ → W p l e R s m args below meth c H locs cc cs Q (F0 m nx lsC (st'.map (cv am xa))) := by
    intro nx st' e1
    cases e1
    exact k am H locs ws lsC hn0 ham hH hS hl hg
  have put : ∀ {nx : Nat} {st' : List Value} {h' : AH} {H1 : Heap} {locs1 : List Loc} {ws1 : va_W}, some (nx, ls, st', h', cc, cs) = some τ → h'.length = h.length → HOk D s A am xa h' H1 ws1 → va_S A s.heap H1 locs1 → W p l e R s m args below meth c H1 locs1 cc cs Q (F0 m nx lsC (st'.map (cv am xa))) := by
    intro nx st' h' H1 locs1 ws1 e1 e2 e3 e4
    cases e1
    exact k am H1 locs1 ws1 lsC (by dsimp only; omega) (by dsimp only; rw [e2]; exact ham) e3 e4 hl hg
  have sto : ∀ {nx : Nat} {st' : List Value} {i : Nat} {w : Value} (ls' : Array Slot), some (nx, setL ls i w, st', h, cc, cs) = some τ → w.category = 1 → lv_has ls' (mL M) ((i, cv am xa w) :: (lc am xa ls).filter (fun q => !(q.1 == i) && !(q.1 + 1 == i && q.2.category == 2))) → W p l e R s m args below meth c H locs cc cs Q (F0 m nx ls' (st'.map (cv am xa))) := by
    intro nx st' i w ls' e1 e2 e3
    cases e1
    exact k am H locs ws ls' hn0 ham hH hS (lc_set hg e3) (gL_set hg e2)
  cases i
  case iconst n =>
    dsimp only at hst
    obtain ⟨d, rfl, o⟩ := ok_at ok hq (by simp [ilen])
    simp only [okI, Bool.and_eq_true, decide_eq_true_eq] at o
    exact lv_iconst hx hb d o.2.2.symm (go hst)
  case bipush n =>
    dsimp only at hst
    obtain ⟨d, rfl, o⟩ := ok_at ok hq (by simp [ilen])
    simp only [okI, Bool.and_eq_true, decide_eq_true_eq] at o
    exact lv_bipush hx hb d o.2.2.symm (go hst)
  case sipush n =>
    dsimp only at hst
    obtain ⟨d, rfl, o⟩ := ok_at ok hq (by simp [ilen])
    simp only [okI, Bool.and_eq_true, decide_eq_true_eq] at o
    exact lv_sipush hx hb d o.2.2.symm (go hst)
  case iload n =>
    dsimp only at hst
    obtain ⟨d, rfl, o⟩ := ok_at ok hq (by simp [ilen])
    simp only [okI, Bool.and_eq_true, decide_eq_true_eq] at o
    split at hst
    · next x hx2 => exact lv_iload hx hb d (by rw [o.2.2]; exact lc_get hl hx2) (go hst)
    · cases hst
  case iload_n n =>
    dsimp only at hst
    obtain ⟨d, rfl, o⟩ := ok_at ok hq (by simp [ilen])
    simp only [okI, Bool.and_eq_true, decide_eq_true_eq] at o
    split at hst
    · next x hx2 => exact lv_iload_n hx hb d o.2.2 (lc_get hl hx2) (go hst)
    · cases hst
  case aload n =>
    dsimp only at hst
    obtain ⟨d, rfl, o⟩ := ok_at ok hq (by simp [ilen])
    simp only [okI, Bool.and_eq_true, decide_eq_true_eq] at o
    split at hst
    · next x hx2 => exact lv_aload hx hb d (by rw [o.2.2]; exact lc_get hl hx2) (go hst)
    · cases hst
  case aload_n n =>
    dsimp only at hst
    obtain ⟨d, rfl, o⟩ := ok_at ok hq (by simp [ilen])
    simp only [okI, Bool.and_eq_true, decide_eq_true_eq] at o
    split at hst
    · next x hx2 => exact lv_aload_n hx hb d o.2.2 (lc_get hl hx2) (go hst)
    · cases hst
  case istore n =>
    dsimp only at hst
    obtain ⟨d, rfl, o⟩ := ok_at ok hq (by simp [ilen])
    simp only [okI, Bool.and_eq_true, decide_eq_true_eq] at o
    obtain rfl := o.2.2
    split at hst
    · next x r =>
      obtain ⟨c1, c2⟩ := cond_some hst
      exact lv_istore hx hb d hl (Nat.lt_of_succ_le (Nat.le_of_ble_eq_true c1)) rfl (fun ls' hl' => sto ls' c2 rfl hl')
    · cases hst
  case istore_n n =>
    dsimp only at hst
    obtain ⟨d, rfl, o⟩ := ok_at ok hq (by simp [ilen])
    simp only [okI, Bool.and_eq_true, decide_eq_true_eq] at o
    split at hst
    · next x r =>
      obtain ⟨c1, c2⟩ := cond_some hst
      exact lv_istore_n hx hb d o.2.2 hl (Nat.lt_of_succ_le (Nat.le_of_ble_eq_true c1)) rfl (fun ls' hl' => sto ls' c2 rfl hl')
    · cases hst
  case astore_n n =>
    dsimp only at hst
    obtain ⟨d, rfl, o⟩ := ok_at ok hq (by simp [ilen])
    simp only [okI, Bool.and_eq_true, decide_eq_true_eq] at o
    split at hst
    · next x r =>
      obtain ⟨c1, c2⟩ := cond_some hst
      exact lv_astore_n hx hb d o.2.2 hl (Nat.lt_of_succ_le (Nat.le_of_ble_eq_true c1)) rfl (fun ls' hl' => sto ls' c2 rfl hl')
    · cases hst
  case iinc n z =>
    dsimp only at hst
    obtain ⟨d, rfl, o⟩ := ok_at ok hq (by simp [ilen])
    simp only [okI, Bool.and_eq_true, decide_eq_true_eq] at o
    obtain ⟨ov, rfl⟩ := o.2.2
    split at hst
    · next x hx2 =>
      obtain ⟨c1, c2⟩ := cond_some hst
      obtain ⟨j, hj⟩ := List.getElem?_of_mem (List.mem_map.mpr ⟨_, getL_mem hx2, rfl⟩ : (n, cv am xa (.int x)) ∈ lc am xa ls)
      exact lv_iinc hx hb d hl hj rfl (Nat.lt_of_succ_le (Nat.le_of_ble_eq_true c1)) rfl (fun ls' hl' => sto ls' c2 rfl (by rw [ov]; exact hl'))
    · cases hst
  case iadd =>
    dsimp only at hst
    obtain ⟨d, rfl, o⟩ := ok_at ok hq (by simp [ilen])
    split at hst
    · exact lv_iadd hx hb d (go hst)
    · cases hst
  case isub =>
    dsimp only at hst
    obtain ⟨d, rfl, o⟩ := ok_at ok hq (by simp [ilen])
    split at hst
    · exact lv_isub hx hb d (go hst)
    · cases hst
  case imul =>
    dsimp only at hst
    obtain ⟨d, rfl, o⟩ := ok_at ok hq (by simp [ilen])
    split at hst
    · exact lv_imul hx hb d (go hst)
    · cases hst
  case iand =>
    dsimp only at hst
    obtain ⟨d, rfl, o⟩ := ok_at ok hq (by simp [ilen])
    split at hst
    · exact lv_iand hx hb d (go hst)
    · cases hst
  case ior =>
    dsimp only at hst
    obtain ⟨d, rfl, o⟩ := ok_at ok hq (by simp [ilen])
    split at hst
    · exact lv_ior hx hb d (go hst)
    · cases hst
  case ishl =>
    dsimp only at hst
    obtain ⟨d, rfl, o⟩ := ok_at ok hq (by simp [ilen])
    split at hst
    · exact lv_ishl hx hb d (go hst)
    · cases hst
  case ishr =>
    dsimp only at hst
    obtain ⟨d, rfl, o⟩ := ok_at ok hq (by simp [ilen])
    split at hst
    · exact lv_ishr hx hb d (go hst)
    · cases hst
  case idiv =>
    dsimp only at hst
    obtain ⟨d, rfl, o⟩ := ok_at ok hq (by simp [ilen])
    split at hst
    · next y x r =>
      by_cases hy : y = 0
      · rw [show decide (y = 0) = true by simp [hy]] at hst; cases hst
      · rw [show decide (y = 0) = false by simp [hy]] at hst
        exact lv_idiv hx hb d hy (go hst)
    · cases hst
  case irem =>
    dsimp only at hst
    obtain ⟨d, rfl, o⟩ := ok_at ok hq (by simp [ilen])
    split at hst
    · next y x r =>
      by_cases hy : y = 0
      · rw [show decide (y = 0) = true by simp [hy]] at hst; cases hst
      · rw [show decide (y = 0) = false by simp [hy]] at hst
        exact lv_irem hx hb d hy (go hst)
    · cases hst
  case ineg =>
    dsimp only at hst
    obtain ⟨d, rfl, o⟩ := ok_at ok hq (by simp [ilen])
    split at hst
    · exact lv_ineg hx hb d (go hst)
    · cases hst
  case i2c =>
    dsimp only at hst
    obtain ⟨d, rfl, o⟩ := ok_at ok hq (by simp [ilen])
    split at hst
    · exact lv_i2c hx hb d rfl (go hst)
    · cases hst
  case dup =>
    dsimp only at hst
    obtain ⟨d, rfl, o⟩ := ok_at ok hq (by simp [ilen])
    split at hst
    · exact lv_dup hx hb d rfl (go hst)
    · exact lv_dup hx hb d rfl (go hst)
    · cases hst
  case dup2 =>
    dsimp only at hst
    obtain ⟨d, rfl, o⟩ := ok_at ok hq (by simp [ilen])
    split at hst
    · exact lv_dup2_11 hx hb d rfl rfl (go hst)
    · cases hst
  case goto off =>
    dsimp only at hst
    obtain ⟨d, rfl, o⟩ := ok_br ok hq (off := off) (Or.inl rfl)
    exact lv_goto hx hb d o (go hst)
  case if_icmp c1 off =>
    dsimp only at hst
    obtain ⟨d, rfl, o⟩ := ok_br ok hq (off := off) (Or.inr (Or.inl ⟨_, rfl⟩))
    split at hst
    · exact cmp_ic hx hb d o (fun z => go (by rw [z] at hst; exact hst)) (fun z => go (by rw [z] at hst; exact hst))
    · cases hst
  case ifCond c1 off =>
    dsimp only at hst
    obtain ⟨d, rfl, o⟩ := ok_br ok hq (off := off) (Or.inr (Or.inr (Or.inl ⟨_, rfl⟩)))
    split at hst
    · exact cmp_if hx hb d o (fun z => go (by rw [z] at hst; exact hst)) (fun z => go (by rw [z] at hst; exact hst))
    · cases hst
  case ifnull off =>
    dsimp only at hst
    obtain ⟨d, rfl, o⟩ := ok_br ok hq (off := off) (by simp)
    split at hst
    · exact lv_ifnull hx hb d (go hst)
    · cases hst
  case ifnonnull off =>
    dsimp only at hst
    obtain ⟨d, rfl, o⟩ := ok_br ok hq (off := off) (by simp)
    split at hst
    · exact lv_ifnonnull hx hb d o (go hst)
    · cases hst
  case getfield idx =>
    dsimp only at hst
    obtain ⟨d, rfl, o⟩ := ok_at ok hq (by simp [ilen])
    simp only [okI, Bool.and_eq_true] at o
    obtain ⟨C, T, N, hc, hk, hC, hlink⟩ := okF_some o.2.2
    split at hst
    · next o1 r =>
      split at hst
      · next ci fs hnt =>
        obtain ⟨c1, c2⟩ := cond_some hst
        have hci : ci = a := Nat.eq_of_beq_eq_true c1
        subst hci
        obtain ⟨hk1, e1, he1, he2⟩ := hH.at hnt
        obtain rfl : e1 = _ := he2
        split at c2
        · next w hw =>
          show W p l e R s m args below meth c H locs cc cs Q (F0 m pc lsC (cv am xa (.ref o1) :: r.map (cv am xa)))
          rw [cv_ref am hk1]
          exact va_get hx hb hts (cl_in _ _ _ _ hc).1 hown hK hH.1 o1 he1 hc b hk (hts _ hlink) (fun x hx2 => by rw [hC] at hx2; exact hx2) (by rw [List.getElem?_map, nth_some hw]; rfl) d (go c2)
        · cases c2
      · cases hst
    · cases hst
  case putfield idx =>
    dsimp only at hst
    obtain ⟨d, rfl, o⟩ := ok_at ok hq (by simp [ilen])
    simp only [okI, Bool.and_eq_true] at o
    obtain ⟨C, T, N, hc, hk, hC, hlink⟩ := okF_some o.2.2
    split at hst
    · next w o1 r =>
      split at hst
      · next ci fs hnt =>
        obtain ⟨c1, c2⟩ := cond_some hst
        simp only [Bool.and_eq_true] at c1
        obtain ⟨c1, c3, c4, c5⟩ := c1
        have hci : ci = a := Nat.eq_of_beq_eq_true c1
        subst hci
        obtain ⟨hk1, e1, he1, he2⟩ := hH.at hnt
        obtain rfl : e1 = _ := he2
        have hlen : b < fs.length := by have := Nat.le_of_ble_eq_true c5; omega
        obtain ⟨n1, n2⟩ := putOk_nf (putOk_cv (am := am) (xa := xa) c3)
        obtain ⟨i1, i2, i3⟩ := cl_in _ _ _ _ hc
        have fin : ∀ (H1 : Heap) (locs1 : List Loc), va_P D vwCl (ws.set o1 (am o1, .inr (ci, (fs.map (cv am xa)).set b (cv am xa w)))) H1 → va_D A (ws.set o1 (am o1, .inr (ci, (fs.map (cv am xa)).set b (cv am xa w)))) → va_S A s.heap H1 locs1 → W p l e R s m args below meth c H1 locs1 cc cs Q (F0 m (pc + 3) lsC (r.map (cv am xa))) := by
          intro H1 locs1 hP1 hD1 hS1
          exact put c2 (by simp [setN_eq]) (hH.set hP1 hD1 (by show _ = _; rw [setN_eq, List.map_set])) hS1
        show W p l e R s m args below meth c H locs cc cs Q (F0 m pc lsC (cv am xa w :: cv am xa (.ref o1) :: r.map (cv am xa)))
        rw [cv_ref am hk1]
        have hfin := c4
        unfold finOk at hfin
        rw [nth_eq, hc] at hfin
        simp only [Bool.or_eq_true, Bool.and_eq_true, decide_eq_true_eq] at hfin
        cases hf : (T b).2.2.2 with
        | false => exact va_put hx hb hts i1 (fty ci) i2 i3 hown hK hH.1 hH.2.1 hS o1 he1 hc b hk (hts _ hlink) (fun x hx2 => by rw [hC] at hx2; exact hx2) hf (i2 b hk) n1 n2 (by simpa using hlen) d fin
        | true =>
          rw [hf] at hfin
          rcases hfin with z | z
          · cases z
          · exact va_putF hx hb hts i1 (fty ci) i2 i3 hown hK hH.1 hH.2.1 hS o1 he1 hc b hk (hts _ hlink) (fun x hx2 => by rw [hC] at hx2; exact hx2) hf (hini z.1) z.2 (i2 b hk) n1 n2 (by simpa using hlen) d fin
      · cases hst
    · cases hst
  case getstatic idx =>
    dsimp only at hst
    obtain ⟨d, rfl, o⟩ := ok_at ok hq (by simp [ilen])
    simp only [okI, okS, Bool.and_eq_true, Bool.or_eq_true, decide_eq_true_eq] at o
    have hz := hZ a o.2.2.1
    have hc : cv am xa (.ref (1000 + a)) = .ref (xa a) := by rw [cv_ext am (Nat.le_add_right _ _), Nat.add_sub_cancel_left]
    have g := go hst
    rw [List.map_cons, hc] at g
    rcases o.2.2.2 with w | w
    · exact va_gets hx hb hz hS hown (hts _ (okw_in w)) (fun x hx2 => hx2) d g
    · exact va_getsN hx hb hz hS hown (nw_before (hnw _ w) args) (fun x hx2 => hx2) d g
  case arraylength =>
    dsimp only at hst
    obtain ⟨d, rfl, o⟩ := ok_at ok hq (by simp [ilen])
    split at hst
    · next o1 r =>
      cases hb1 : Nat.ble 1000 o1 with
      | true =>
        rw [hb1] at hst
        dsimp only [cond_true] at hst
        split at hst
        · next n f hX =>
          show W p l e R s m args below meth c H locs cc cs Q (F0 m pc lsC (cv am xa (.ref o1) :: r.map (cv am xa)))
          rw [cv_ext am (Nat.le_of_ble_eq_true hb1)]
          exact va_tlen hx hb (hT _ _ _ hX) hS rfl d (go hst)
        · cases hst
      | false =>
        rw [hb1] at hst
        dsimp only [cond_false] at hst
        split at hst
        · next ty n f hnt =>
          obtain ⟨hk1, e1, he1, cA, rfl, hTT⟩ := hH.at hnt
          show W p l e R s m args below meth c H locs cc cs Q (F0 m pc lsC (cv am xa (.ref o1) :: r.map (cv am xa)))
          rw [cv_ref am hk1]
          exact va_alen hx hb (tys := [(cA, ty)]) ⟨hK.1, fun k9 q9 h9 => by
            have : k9 < 1 := (List.getElem?_eq_some_iff.mp h9).1
            rw [show k9 = 0 by omega] at h9
            cases h9
            exact hTT⟩ hH.1 o1 0 he1 rfl rfl d (go hst)
        · cases hst
    · cases hst
  case iaload =>
    dsimp only at hst
    obtain ⟨d, rfl, o⟩ := ok_at ok hq (by simp [ilen])
    split at hst
    · next j o1 r =>
      cases hb1 : Nat.ble 1000 o1 with
      | true =>
        rw [hb1] at hst
        dsimp only [cond_true] at hst
        split at hst
        · next n f hX =>
          obtain ⟨c1, c2⟩ := cond_some hst
          show W p l e R s m args below meth c H locs cc cs Q (F0 m pc lsC (.int j :: cv am xa (.ref o1) :: r.map (cv am xa)))
          rw [cv_ext am (Nat.le_of_ble_eq_true hb1)]
          exact va_ti hx hb (hT _ _ _ hX) hS (inB_vp c1) rfl d (go c2)
        · cases hst
      | false =>
        rw [hb1] at hst
        dsimp only [cond_false] at hst
        split at hst
        · next n f hnt =>
          obtain ⟨c1, c2⟩ := cond_some hst
          obtain ⟨hk1, e1, he1, cA, rfl, hTT⟩ := hH.at hnt
          show W p l e R s m args below meth c H locs cc cs Q (F0 m pc lsC (.int j :: cv am xa (.ref o1) :: r.map (cv am xa)))
          rw [cv_ref am hk1]
          exact va_iald hx hb (tys := [(cA, .int)]) ⟨hK.1, fun k9 q9 h9 => by
            have : k9 < 1 := (List.getElem?_eq_some_iff.mp h9).1
            rw [show k9 = 0 by omega] at h9
            cases h9
            exact hTT⟩ hH.1 o1 0 he1 rfl (inB_vp c1) d (go c2)
        · cases hst
    · cases hst
  case caload =>
    dsimp only at hst
    obtain ⟨d, rfl, o⟩ := ok_at ok hq (by simp [ilen])
    split at hst
    · next j o1 r =>
      split at hst
      · next n f hnt =>
        obtain ⟨c1, c2⟩ := cond_some hst
        obtain ⟨hk1, e1, he1, cA, rfl, hTT⟩ := hH.at hnt
        show W p l e R s m args below meth c H locs cc cs Q (F0 m pc lsC (.int j :: cv am xa (.ref o1) :: r.map (cv am xa)))
        rw [cv_ref am hk1]
        exact va_cald hx hb (tys := [(cA, .char)]) ⟨hK.1, fun k9 q9 h9 => by
          have : k9 < 1 := (List.getElem?_eq_some_iff.mp h9).1
          rw [show k9 = 0 by omega] at h9
          cases h9
          exact hTT⟩ hH.1 o1 0 he1 rfl (inB_vp c1) d (go c2)
      · cases hst
    · cases hst
  case aaload =>
    dsimp only at hst
    obtain ⟨d, rfl, o⟩ := ok_at ok hq (by simp [ilen])
    split at hst
    · next j o1 r =>
      split at hst
      · next n g hnt =>
        obtain ⟨c1, c2⟩ := cond_some hst
        simp only [Bool.and_eq_true] at c1
        obtain ⟨hk1, e1, he1, cA, rfl, hTT⟩ := hH.at hnt
        have g2 := go c2
        rw [List.map_cons, cv_ref am (by have := Nat.le_of_ble_eq_true c1.2; omega)] at g2
        show W p l e R s m args below meth c H locs cc cs Q (F0 m pc lsC (.int j :: cv am xa (.ref o1) :: r.map (cv am xa)))
        rw [cv_ref am hk1]
        exact va_aldA hx hb hH.1 o1 he1 hTT.1 (inB_vp c1.1) d (by rw [if_pos (inB_lt c1.1)]; exact g2)
      · cases hst
    · cases hst
  case iastore =>
    dsimp only at hst
    obtain ⟨d, rfl, o⟩ := ok_at ok hq (by simp [ilen])
    split at hst
    · next x j o1 r =>
      split at hst
      · next n f hnt =>
        obtain ⟨c1, c2⟩ := cond_some hst
        obtain ⟨hk1, e1, he1, cA, rfl, hTT⟩ := hH.at hnt
        show W p l e R s m args below meth c H locs cc cs Q (F0 m pc lsC (.int x :: .int j :: cv am xa (.ref o1) :: r.map (cv am xa)))
        rw [cv_ref am hk1]
        exact va_iast hx hb (tys := [(cA, .int)]) ⟨hK.1, fun k9 q9 h9 => by
          have : k9 < 1 := (List.getElem?_eq_some_iff.mp h9).1
          rw [show k9 = 0 by omega] at h9
          cases h9
          exact hTT⟩ hH.1 hH.2.1 hS o1 0 he1 rfl (inB_vp c1) d (fun H1 locs1 hP1 hD1 hS1 => put c2 (by simp [setN_eq]) (hH.set hP1 hD1 ⟨cA, rfl, hTT⟩) hS1)
      · cases hst
    · cases hst
  case castore =>
    dsimp only at hst
    obtain ⟨d, rfl, o⟩ := ok_at ok hq (by simp [ilen])
    split at hst
    · next x j o1 r =>
      split at hst
      · next n f hnt =>
        obtain ⟨c1, c2⟩ := cond_some hst
        obtain ⟨hk1, e1, he1, cA, rfl, hTT⟩ := hH.at hnt
        show W p l e R s m args below meth c H locs cc cs Q (F0 m pc lsC (.int x :: .int j :: cv am xa (.ref o1) :: r.map (cv am xa)))
        rw [cv_ref am hk1]
        exact va_cast hx hb (tys := [(cA, .char)]) ⟨hK.1, fun k9 q9 h9 => by
          have : k9 < 1 := (List.getElem?_eq_some_iff.mp h9).1
          rw [show k9 = 0 by omega] at h9
          cases h9
          exact hTT⟩ hH.1 hH.2.1 hS o1 0 he1 rfl (inB_vp c1) d (fun H1 locs1 hP1 hD1 hS1 => put c2 (by simp [setN_eq]) (hH.set hP1 hD1 ⟨cA, rfl, hTT⟩) hS1)
      · cases hst
    · cases hst
  all_goals first | cases hst | (dsimp only at hst; cases hst)
theorem Rch.st1 {M : MI} {X : AX} {σ τ : AS} {Ψ : AS → Prop} (h : step1 M X σ = some τ) (k : Rch M X τ Ψ) : Rch M X σ Ψ :=
  fun ok p l e R s m args below meth c D xa A am0 n0 Q cx f => step1_sat ok cx h (k ok p l e R s m args below meth c D xa A am0 n0 Q cx f)
theorem Rch.st {M : MI} {X : AX} {Ψ : AS → Prop} (n : Nat) : ∀ {σ τ : AS}, stepN M X n σ = some τ → Rch M X τ Ψ → Rch M X σ Ψ := by
  induction n with
  | zero => intro σ τ h k; cases h; exact k
  | succ n ih =>
    intro σ τ h k
    unfold stepN at h
    split at h
    · next ρ hρ => exact Rch.st1 hρ (ih h k)
    · cases h
