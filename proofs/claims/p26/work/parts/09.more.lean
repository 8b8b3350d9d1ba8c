/-! ===== rules: branches, cells by a reckoned index, divisions, switches, what is made, what the JDK does ===== -/
theorem Rch.i_eq {M : MI} {X : AX} {Ψ : AS → Prop} {pc len nx a b : Nat} {v : Int32} {ls : AL} {r : List Value} {h : AH} {cc cs : Nat} {x y : Int32} {off : Int} (hm : mk M pc = (.if_icmp .eq off, len, nx, v, a, b)) (kt : x = y → Rch M X (a, ls, r, h, cc, cs) Ψ) (kf : ¬ x = y → Rch M X (nx, ls, r, h, cc, cs) Ψ) : Rch M X (pc, ls, .int y :: .int x :: r, h, cc, cs) Ψ := by
  by_cases z : x = y
  · exact Rch.st1 (by simp only [step1, hm, cmpB, z, decide_true, Bool.not_true]; rfl) (kt z)
  · exact Rch.st1 (by simp only [step1, hm, cmpB, z, decide_false, Bool.not_false]; rfl) (kf z)
theorem Rch.z_eq {M : MI} {X : AX} {Ψ : AS → Prop} {pc len nx a b : Nat} {v : Int32} {ls : AL} {r : List Value} {h : AH} {cc cs : Nat} {x : Int32} {off : Int} (hm : mk M pc = (.ifCond .eq off, len, nx, v, a, b)) (kt : x = 0 → Rch M X (a, ls, r, h, cc, cs) Ψ) (kf : ¬ x = 0 → Rch M X (nx, ls, r, h, cc, cs) Ψ) : Rch M X (pc, ls, .int x :: r, h, cc, cs) Ψ := by
  by_cases z : x = 0
  · exact Rch.st1 (by simp only [step1, hm, cmpB, z, decide_true, Bool.not_true]; rfl) (kt z)
  · exact Rch.st1 (by simp only [step1, hm, cmpB, z, decide_false, Bool.not_false]; rfl) (kf z)
theorem Rch.i_ne {M : MI} {X : AX} {Ψ : AS → Prop} {pc len nx a b : Nat} {v : Int32} {ls : AL} {r : List Value} {h : AH} {cc cs : Nat} {x y : Int32} {off : Int} (hm : mk M pc = (.if_icmp .ne off, len, nx, v, a, b)) (kt : x = y → Rch M X (nx, ls, r, h, cc, cs) Ψ) (kf : ¬ x = y → Rch M X (a, ls, r, h, cc, cs) Ψ) : Rch M X (pc, ls, .int y :: .int x :: r, h, cc, cs) Ψ := by
  by_cases z : x = y
  · exact Rch.st1 (by simp only [step1, hm, cmpB, z, decide_true, Bool.not_true]; rfl) (kt z)
  · exact Rch.st1 (by simp only [step1, hm, cmpB, z, decide_false, Bool.not_false]; rfl) (kf z)
theorem Rch.z_ne {M : MI} {X : AX} {Ψ : AS → Prop} {pc len nx a b : Nat} {v : Int32} {ls : AL} {r : List Value} {h : AH} {cc cs : Nat} {x : Int32} {off : Int} (hm : mk M pc = (.ifCond .ne off, len, nx, v, a, b)) (kt : x = 0 → Rch M X (nx, ls, r, h, cc, cs) Ψ) (kf : ¬ x = 0 → Rch M X (a, ls, r, h, cc, cs) Ψ) : Rch M X (pc, ls, .int x :: r, h, cc, cs) Ψ := by
  by_cases z : x = 0
  · exact Rch.st1 (by simp only [step1, hm, cmpB, z, decide_true, Bool.not_true]; rfl) (kt z)
  · exact Rch.st1 (by simp only [step1, hm, cmpB, z, decide_false, Bool.not_false]; rfl) (kf z)
theorem Rch.i_lt {M : MI} {X : AX} {Ψ : AS → Prop} {pc len nx a b : Nat} {v : Int32} {ls : AL} {r : List Value} {h : AH} {cc cs : Nat} {x y : Int32} {off : Int} (hm : mk M pc = (.if_icmp .lt off, len, nx, v, a, b)) (kt : x < y → Rch M X (a, ls, r, h, cc, cs) Ψ) (kf : ¬ x < y → Rch M X (nx, ls, r, h, cc, cs) Ψ) : Rch M X (pc, ls, .int y :: .int x :: r, h, cc, cs) Ψ := by
  by_cases z : x < y
  · exact Rch.st1 (by simp only [step1, hm, cmpB, z, decide_true, Bool.not_true]; rfl) (kt z)
  · exact Rch.st1 (by simp only [step1, hm, cmpB, z, decide_false, Bool.not_false]; rfl) (kf z)
theorem Rch.z_lt {M : MI} {X : AX} {Ψ : AS → Prop} {pc len nx a b : Nat} {v : Int32} {ls : AL} {r : List Value} {h : AH} {cc cs : Nat} {x : Int32} {off : Int} (hm : mk M pc = (.ifCond .lt off, len, nx, v, a, b)) (kt : x < 0 → Rch M X (a, ls, r, h, cc, cs) Ψ) (kf : ¬ x < 0 → Rch M X (nx, ls, r, h, cc, cs) Ψ) : Rch M X (pc, ls, .int x :: r, h, cc, cs) Ψ := by
  by_cases z : x < 0
  · exact Rch.st1 (by simp only [step1, hm, cmpB, z, decide_true, Bool.not_true]; rfl) (kt z)
  · exact Rch.st1 (by simp only [step1, hm, cmpB, z, decide_false, Bool.not_false]; rfl) (kf z)
theorem Rch.i_ge {M : MI} {X : AX} {Ψ : AS → Prop} {pc len nx a b : Nat} {v : Int32} {ls : AL} {r : List Value} {h : AH} {cc cs : Nat} {x y : Int32} {off : Int} (hm : mk M pc = (.if_icmp .ge off, len, nx, v, a, b)) (kt : y ≤ x → Rch M X (a, ls, r, h, cc, cs) Ψ) (kf : ¬ y ≤ x → Rch M X (nx, ls, r, h, cc, cs) Ψ) : Rch M X (pc, ls, .int y :: .int x :: r, h, cc, cs) Ψ := by
  by_cases z : y ≤ x
  · exact Rch.st1 (by simp only [step1, hm, cmpB, z, decide_true, Bool.not_true]; rfl) (kt z)
  · exact Rch.st1 (by simp only [step1, hm, cmpB, z, decide_false, Bool.not_false]; rfl) (kf z)
theorem Rch.z_ge {M : MI} {X : AX} {Ψ : AS → Prop} {pc len nx a b : Nat} {v : Int32} {ls : AL} {r : List Value} {h : AH} {cc cs : Nat} {x : Int32} {off : Int} (hm : mk M pc = (.ifCond .ge off, len, nx, v, a, b)) (kt : 0 ≤ x → Rch M X (a, ls, r, h, cc, cs) Ψ) (kf : ¬ 0 ≤ x → Rch M X (nx, ls, r, h, cc, cs) Ψ) : Rch M X (pc, ls, .int x :: r, h, cc, cs) Ψ := by
  by_cases z : 0 ≤ x
  · exact Rch.st1 (by simp only [step1, hm, cmpB, z, decide_true, Bool.not_true]; rfl) (kt z)
  · exact Rch.st1 (by simp only [step1, hm, cmpB, z, decide_false, Bool.not_false]; rfl) (kf z)
theorem Rch.i_gt {M : MI} {X : AX} {Ψ : AS → Prop} {pc len nx a b : Nat} {v : Int32} {ls : AL} {r : List Value} {h : AH} {cc cs : Nat} {x y : Int32} {off : Int} (hm : mk M pc = (.if_icmp .gt off, len, nx, v, a, b)) (kt : y < x → Rch M X (a, ls, r, h, cc, cs) Ψ) (kf : ¬ y < x → Rch M X (nx, ls, r, h, cc, cs) Ψ) : Rch M X (pc, ls, .int y :: .int x :: r, h, cc, cs) Ψ := by
  by_cases z : y < x
  · exact Rch.st1 (by simp only [step1, hm, cmpB, z, decide_true, Bool.not_true]; rfl) (kt z)
  · exact Rch.st1 (by simp only [step1, hm, cmpB, z, decide_false, Bool.not_false]; rfl) (kf z)
theorem Rch.z_gt {M : MI} {X : AX} {Ψ : AS → Prop} {pc len nx a b : Nat} {v : Int32} {ls : AL} {r : List Value} {h : AH} {cc cs : Nat} {x : Int32} {off : Int} (hm : mk M pc = (.ifCond .gt off, len, nx, v, a, b)) (kt : 0 < x → Rch M X (a, ls, r, h, cc, cs) Ψ) (kf : ¬ 0 < x → Rch M X (nx, ls, r, h, cc, cs) Ψ) : Rch M X (pc, ls, .int x :: r, h, cc, cs) Ψ := by
  by_cases z : 0 < x
  · exact Rch.st1 (by simp only [step1, hm, cmpB, z, decide_true, Bool.not_true]; rfl) (kt z)
  · exact Rch.st1 (by simp only [step1, hm, cmpB, z, decide_false, Bool.not_false]; rfl) (kf z)
theorem Rch.i_le {M : MI} {X : AX} {Ψ : AS → Prop} {pc len nx a b : Nat} {v : Int32} {ls : AL} {r : List Value} {h : AH} {cc cs : Nat} {x y : Int32} {off : Int} (hm : mk M pc = (.if_icmp .le off, len, nx, v, a, b)) (kt : x ≤ y → Rch M X (a, ls, r, h, cc, cs) Ψ) (kf : ¬ x ≤ y → Rch M X (nx, ls, r, h, cc, cs) Ψ) : Rch M X (pc, ls, .int y :: .int x :: r, h, cc, cs) Ψ := by
  by_cases z : x ≤ y
  · exact Rch.st1 (by simp only [step1, hm, cmpB, z, decide_true, Bool.not_true]; rfl) (kt z)
  · exact Rch.st1 (by simp only [step1, hm, cmpB, z, decide_false, Bool.not_false]; rfl) (kf z)
theorem Rch.z_le {M : MI} {X : AX} {Ψ : AS → Prop} {pc len nx a b : Nat} {v : Int32} {ls : AL} {r : List Value} {h : AH} {cc cs : Nat} {x : Int32} {off : Int} (hm : mk M pc = (.ifCond .le off, len, nx, v, a, b)) (kt : x ≤ 0 → Rch M X (a, ls, r, h, cc, cs) Ψ) (kf : ¬ x ≤ 0 → Rch M X (nx, ls, r, h, cc, cs) Ψ) : Rch M X (pc, ls, .int x :: r, h, cc, cs) Ψ := by
  by_cases z : x ≤ 0
  · exact Rch.st1 (by simp only [step1, hm, cmpB, z, decide_true, Bool.not_true]; rfl) (kt z)
  · exact Rch.st1 (by simp only [step1, hm, cmpB, z, decide_false, Bool.not_false]; rfl) (kf z)
theorem clamp_nI {j : Nat} (h : j < 2 ^ 31) : (nI j).toNatClampNeg = j := Int32.toNatClampNeg_ofNat_of_lt h
theorem nI_nn {j : Nat} (h : j < 2 ^ 31) : ¬ nI j < 0 := by
  have e1 := Int32.toInt_ofNat_small h
  simp only [nI, Int32.lt_iff_toInt_lt, Int32.toInt_zero, e1]
  omega
theorem inB_nI {j n : Nat} (h : j < n) (hn : n < 2 ^ 31) : inB (nI j) n = true := by
  unfold inB
  rw [clamp_nI (by omega)]
  simp only [nI_nn (show j < 2 ^ 31 by omega), decide_false, Bool.not_false, Bool.true_and]
  exact Nat.ble_eq_true_of_le h
theorem Rch.ia {M : MI} {X : AX} {Ψ : AS → Prop} {pc len nx a b : Nat} {v : Int32} {ls : AL} {r : List Value} {h : AH} {cc cs : Nat} {o n j : Nat} {f : Nat → Int32} {i : Int32} (hm : mk M pc = (.iaload, len, nx, v, a, b)) (ho : nth h o = some (.inl (.int, n, f))) (ho2 : Nat.ble 1000 o = false) (hi : i = nI j) (hj : j < n) (hn : n < 2 ^ 31) (k : Rch M X (nx, ls, .int (f j) :: r, h, cc, cs) Ψ) : Rch M X (pc, ls, .int i :: .ref o :: r, h, cc, cs) Ψ := by
  subst hi
  refine Rch.st1 ?_ k
  simp only [step1, hm, ho, ho2, cond_false, inB_nI hj hn, cond_true, clamp_nI (show j < 2 ^ 31 by omega)]
theorem Rch.xa {M : MI} {X : AX} {Ψ : AS → Prop} {pc len nx a b : Nat} {v : Int32} {ls : AL} {r : List Value} {h : AH} {cc cs : Nat} {o n j : Nat} {f : Nat → Int32} {i : Int32} (hm : mk M pc = (.iaload, len, nx, v, a, b)) (ho2 : Nat.ble 1000 o = true) (ho : X (o - 1000) = some (n, f)) (hi : i = nI j) (hj : j < n) (hn : n < 2 ^ 31) (k : Rch M X (nx, ls, .int (f j) :: r, h, cc, cs) Ψ) : Rch M X (pc, ls, .int i :: .ref o :: r, h, cc, cs) Ψ := by
  subst hi
  refine Rch.st1 ?_ k
  simp only [step1, hm, ho, ho2, cond_true, inB_nI hj hn, clamp_nI (show j < 2 ^ 31 by omega)]
theorem Rch.ca {M : MI} {X : AX} {Ψ : AS → Prop} {pc len nx a b : Nat} {v : Int32} {ls : AL} {r : List Value} {h : AH} {cc cs : Nat} {o n j : Nat} {f : Nat → Int32} {i : Int32} (hm : mk M pc = (.caload, len, nx, v, a, b)) (ho : nth h o = some (.inl (.char, n, f))) (hi : i = nI j) (hj : j < n) (hn : n < 2 ^ 31) (k : Rch M X (nx, ls, .int (f j) :: r, h, cc, cs) Ψ) : Rch M X (pc, ls, .int i :: .ref o :: r, h, cc, cs) Ψ := by
  subst hi
  refine Rch.st1 ?_ k
  simp only [step1, hm, ho, inB_nI hj hn, cond_true, clamp_nI (show j < 2 ^ 31 by omega)]
theorem Rch.ias {M : MI} {X : AX} {Ψ : AS → Prop} {pc len nx a b : Nat} {v : Int32} {ls : AL} {r : List Value} {h : AH} {cc cs : Nat} {o n j : Nat} {f : Nat → Int32} {i x : Int32} (hm : mk M pc = (.iastore, len, nx, v, a, b)) (ho : nth h o = some (.inl (.int, n, f))) (hi : i = nI j) (hj : j < n) (hn : n < 2 ^ 31) (k : Rch M X (nx, ls, r, setN h o (.inl (.int, n, upd f j x)), cc, cs) Ψ) : Rch M X (pc, ls, .int x :: .int i :: .ref o :: r, h, cc, cs) Ψ := by
  subst hi
  refine Rch.st1 ?_ k
  simp only [step1, hm, ho, inB_nI hj hn, cond_true, clamp_nI (show j < 2 ^ 31 by omega)]
theorem Rch.cas {M : MI} {X : AX} {Ψ : AS → Prop} {pc len nx a b : Nat} {v : Int32} {ls : AL} {r : List Value} {h : AH} {cc cs : Nat} {o n j : Nat} {f : Nat → Int32} {i x : Int32} (hm : mk M pc = (.castore, len, nx, v, a, b)) (ho : nth h o = some (.inl (.char, n, f))) (hi : i = nI j) (hj : j < n) (hn : n < 2 ^ 31) (k : Rch M X (nx, ls, r, setN h o (.inl (.char, n, upd f j (vp_nar .char x))), cc, cs) Ψ) : Rch M X (pc, ls, .int x :: .int i :: .ref o :: r, h, cc, cs) Ψ := by
  subst hi
  refine Rch.st1 ?_ k
  simp only [step1, hm, ho, inB_nI hj hn, cond_true, clamp_nI (show j < 2 ^ 31 by omega)]
theorem Rch.div {M : MI} {X : AX} {Ψ : AS → Prop} {pc len nx a b : Nat} {v : Int32} {ls : AL} {r : List Value} {h : AH} {cc cs : Nat} {x y : Int32} (hm : mk M pc = (.idiv, len, nx, v, a, b)) (hy : ¬ y = 0) (k : Rch M X (nx, ls, .int (x / y) :: r, h, cc, cs) Ψ) : Rch M X (pc, ls, .int y :: .int x :: r, h, cc, cs) Ψ := by
  refine Rch.st1 ?_ k
  simp only [step1, hm, hy, decide_false, cond_false]
theorem Rch.wl {M : MI} {X : AX} {Ψ : AS → Prop} {pc : Nat} {ls ls' : AL} {st : List Value} {h : AH} {cc cs : Nat} (hs : ∀ q ∈ ls', q ∈ ls) (hn : (ls'.map Prod.fst).Nodup) (k : Rch M X (pc, ls', st, h, cc, cs) Ψ) : Rch M X (pc, ls, st, h, cc, cs) Ψ := by
  intro ok p l e R s m args below meth c D xa A am0 n0 Q cx f am H locs ws lsC hn0 ham hH hS hl hg
  refine k ok p l e R s m args below meth c D xa A am0 n0 Q cx f am H locs ws lsC hn0 ham hH hS ⟨hl.1, hl.2.1, fun q hq => ?_⟩ ⟨hn, fun q hq => hg.2 q (hs q hq)⟩
  obtain ⟨q0, hq0, rfl⟩ := List.mem_map.mp hq
  exact hl.2.2 _ (List.mem_map.mpr ⟨q0, hs q0 hq0, rfl⟩)
/-- where a switch goes -/
def swT (pc : Nat) (i : Instr) (x : Int32) : Option Int := match i with
  | .tableswitch d lo hi offs => if x.toInt < lo ∨ hi < x.toInt then some ((pc : Int) + d) else (offs[(x.toInt - lo).toNat]?).map fun o => (pc : Int) + o
  | .lookupswitch d ps => if (ps.toList.zip (ps.toList.drop 1)).all (fun (a, next) => a.1 < next.1) = true then some ((pc : Int) + Op.lookupswitch.offset ps.toList d x.toInt) else none
  | _ => none
theorem Rch.sw {M : MI} {X : AX} {Ψ : AS → Prop} {pc len nx a b : Nat} {v : Int32} {ls : AL} {r : List Value} {h : AH} {cc cs : Nat} {i : Instr} {x : Int32} {t : Nat} (hm : mk M pc = (i, len, nx, v, a, b)) (ht : swT pc i x = some (t : Int)) (k : Rch M X (t, ls, r, h, cc, cs) Ψ) : Rch M X (pc, ls, .int x :: r, h, cc, cs) Ψ := by
  intro ok p l e R s m args below meth c D xa A am0 n0 Q cx f am H locs ws lsC hn0 ham hH hS hl hg
  have g := k ok p l e R s m args below meth c D xa A am0 n0 Q cx f am H locs ws lsC hn0 ham hH hS hl hg
  dsimp only at g ⊢
  have hne : i ≠ .nop := fun e => by rw [e] at ht; cases ht
  obtain ⟨d, -⟩ := ok.at hm (nop_ne hne)
  dsimp only at d
  unfold swT at ht
  split at ht
  · next dd lo hi offs =>
    split at ht
    · next hc => exact lv_tableOut cx.1 cx.2.1 d hc (Option.some.inj ht) g
    · next hc =>
      have h1 : ¬ x.toInt < lo := fun z => hc (Or.inl z)
      have h2 : ¬ hi < x.toInt := fun z => hc (Or.inr z)
      cases ho : offs[(x.toInt - lo).toNat]? with
      | none => rw [ho] at ht; cases ht
      | some off =>
        rw [ho] at ht
        exact lv_tableIn cx.1 cx.2.1 d h1 h2 ho (Option.some.inj ht) g
  · next dd ps =>
    split at ht
    · next hp => exact lv_lookup cx.1 cx.2.1 d hp rfl (Option.some.inj ht) g
    · cases ht
  · cases ht
