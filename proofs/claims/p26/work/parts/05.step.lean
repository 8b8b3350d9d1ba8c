/-! ===== a step of the small machine is a step of the machine ===== -/
theorem nth_some {α : Type} {l : List α} {n : Nat} {x : α} (h : nth l n = some x) : l[n]? = some x := (nth_eq l n) ▸ h
theorem cl_in : ∀ ci C T N, vwCl[ci]? = some (C, T, N) → (∀ w ∈ u_ws C T N, w ∈ gw) ∧ (∀ k, k < N → parseFieldDescriptor (T k).2.2.1 = some (fty ci k)) ∧ (∀ a, a < N → ∀ b, b < N → a ≠ b → (T a).2.1 ≠ (T b).2.1) := by
  intro ci C T N h
  match ci, h with
  | 0, h => cases h; exact ⟨okw_all (by decide +kernel), tyX0_ok, nmX0⟩
  | 1, h => cases h; exact ⟨okw_all (by decide +kernel), tyX3_ok, nmX3⟩
  | 2, h => cases h; exact ⟨okw_all (by decide +kernel), tyX6_ok, nmX6⟩
  | 3, h => cases h; exact ⟨okw_all (by decide +kernel), tyX7_ok, nmX7⟩
  | 4, h => cases h; exact ⟨okw_all (by decide +kernel), tyX8_ok, nmX8⟩
  | n + 5, h => simp [vwCl] at h
theorem okF_some {own : String} {idx ci k : Nat} (h : okF own idx ci k = true) : ∃ C T N, vwCl[ci]? = some (C, T, N) ∧ k < N ∧ (T k).1 = C ∧ Cond.fieldLink own idx C (T k).2.1 (T k).2.2.1 ∈ gw := by
  unfold okF at h
  split at h
  · next C T N hc =>
    simp only [Bool.and_eq_true, decide_eq_true_eq] at h
    exact ⟨C, T, N, hc, h.1.1, h.1.2, okw_in h.2⟩
  · cases h
section STEP
variable {M : MI} {X : AX} {p : Program} {l : Launch} {e : Env} {R : Room} {s : State} {m : MethodId} {args : Array Value} {below : List Frame} {meth : Method} {c : Code} {D : va_G} {xa : Nat → Nat} {A : Nat → Prop} {am0 : Nat → Nat} {n0 : Nat} {Q : State → Prop}
theorem HOk.at {am : Nat → Nat} {h : AH} {H : Heap} {ws : va_W} (hH : HOk D s A am xa h H ws) {k : Nat} {o : AO} (hk : nth h k = some o) : k < 1000 ∧ ∃ e, ws[k]? = some (am k, e) ∧ co s am xa o e := by
  have h1 := nth_some hk
  have h2 := (List.getElem?_eq_some_iff.mp h1).1
  exact ⟨by have := hH.2.2.2.1; omega, hH.2.2.2.2 k o h1⟩
theorem HOk.set {am : Nat → Nat} {h : AH} {H H1 : Heap} {ws : va_W} (hH : HOk D s A am xa h H ws) {k : Nat} {o : AO} {e : va_E} (hP : va_P D vwCl (ws.set k (am k, e)) H1) (hD : va_D A (ws.set k (am k, e))) (he : co s am xa o e) : HOk D s A am xa (setN h k o) H1 (ws.set k (am k, e)) := by
  obtain ⟨-, -, h3, h4, h5⟩ := hH
  rw [setN_eq]
  refine ⟨hP, hD, by simp [h3], by simpa using h4, fun j o' hj => ?_⟩
  rw [List.getElem?_set] at hj ⊢
  by_cases hkj : k = j
  · subst hkj
    rw [if_pos rfl] at hj ⊢
    by_cases hl : k < h.length
    · rw [if_pos hl] at hj
      cases hj
      rw [if_pos (by omega)]
      exact ⟨e, rfl, he⟩
    · rw [if_neg hl] at hj; cases hj
  · rw [if_neg hkj] at hj ⊢
    exact h5 j o' hj
theorem cv_int (am : Nat → Nat) (x : Int32) : cv am xa (.int x) = .int x := rfl
theorem cv_ref (am : Nat → Nat) {k : Nat} (h : k < 1000) : cv am xa (.ref k) = .ref (am k) := by simp [cv, h]
theorem cv_ext (am : Nat → Nat) {k : Nat} (h : 1000 ≤ k) : cv am xa (.ref k) = .ref (xa (k - 1000)) := by simp [cv, Nat.not_lt.mpr h]
theorem nop_ne {i : Instr} {r : Nat × Nat × Int32 × Nat × Nat} (h : i ≠ .nop) : ¬ (i, r) = nopI := fun e => h (congrArg Prod.fst e)
theorem ok_len {own : String} {pc : Nat} {q : Ins} (h : okI own pc q = true) (hz : ilen q.1 ≠ 0) : q.2.2.1 = pc + q.2.1 ∧ q.2.1 = ilen q.1 := by
  unfold okI at h
  simp only [Bool.and_eq_true, Bool.or_eq_true, decide_eq_true_eq] at h
  rcases h.2.1 with g | g
  · exact ⟨h.1, g.symm⟩
  · exact absurd g hz
/-- what the table says of an instruction, by its kind -/
theorem ok_at (ok : MOk M) {pc : Nat} {i : Instr} {len nx a b : Nat} {v : Int32} (hq : mk M pc = (i, len, nx, v, a, b)) (hz : ilen i ≠ 0) : decode (mb M) pc = .ok (i, ilen i) ∧ nx = pc + ilen i ∧ okI (mo M) pc (i, len, nx, v, a, b) = true := by
  obtain ⟨h1, h2⟩ := ok.at hq (nop_ne (fun e => hz (by rw [e]; rfl)))
  obtain ⟨h3, h4⟩ := ok_len h2 hz
  dsimp only at h1 h3 h4
  subst h4
  exact ⟨h1, h3, h2⟩
theorem ok_br (ok : MOk M) {pc : Nat} {i : Instr} {len nx a b : Nat} {v : Int32} (hq : mk M pc = (i, len, nx, v, a, b)) {off : Int} (hi : i = .goto off ∨ (∃ k, i = .if_icmp k off) ∨ (∃ k, i = .ifCond k off) ∨ i = .ifnull off ∨ i = .ifnonnull off) : decode (mb M) pc = .ok (i, 3) ∧ nx = pc + 3 ∧ (pc : Int) + off = (a : Int) := by
  rcases hi with rfl | ⟨k, rfl⟩ | ⟨k, rfl⟩ | rfl | rfl
  all_goals
    obtain ⟨h1, h2, h3⟩ := ok_at ok hq (by simp [ilen])
    simp only [okI, Bool.and_eq_true, decide_eq_true_eq] at h3
    exact ⟨h1, h2, h3.2.2⟩
theorem cmp_if {pc : Nat} {lsC : Array Slot} {rest : List Value} {H : Heap} {locs : List Loc} {cc cs : Nat} {k : Jvm.ClassFile.Cond} {off : Int} {x : Int32} {a : Nat} (hx : p.tables.exec = Jvm.exec) (hb : c.code = mb M) (hd : decode (mb M) pc = .ok (.ifCond k off, 3)) (ht : (pc : Int) + off = (a : Int))
    (kt : cmpB k x 0 = true → W p l e R s m args below meth c H locs cc cs Q (F0 m a lsC rest)) (kf : cmpB k x 0 = false → W p l e R s m args below meth c H locs cc cs Q (F0 m (pc + 3) lsC rest)) : W p l e R s m args below meth c H locs cc cs Q (F0 m pc lsC (.int x :: rest)) := by
  cases k with
  | eq => exact lv_if_eq hx hb hd ht (fun z => kt (by simp [cmpB, z])) (fun z => kf (by simp [cmpB, z]))
  | ne => exact lv_if_ne hx hb hd ht (fun z => kt (by simp [cmpB, z])) (fun z => kf (by simp [cmpB, z]))
  | lt => exact lv_if_lt hx hb hd ht (fun z => kt (by simp [cmpB, z])) (fun z => kf (by simp [cmpB, z]))
  | ge => exact lv_if_ge hx hb hd ht (fun z => kt (by simp only [cmpB, z, decide_true])) (fun z => kf (by simp only [cmpB, z, decide_false]))
  | gt => exact lv_if_gt hx hb hd ht (fun z => kt (by simp [cmpB, z])) (fun z => kf (by simp [cmpB, z]))
  | le => exact lv_if_le hx hb hd ht (fun z => kt (by simp only [cmpB, z, decide_true])) (fun z => kf (by simp only [cmpB, z, decide_false]))
theorem cmp_ic {pc : Nat} {lsC : Array Slot} {rest : List Value} {H : Heap} {locs : List Loc} {cc cs : Nat} {k : Jvm.ClassFile.Cond} {off : Int} {x y : Int32} {a : Nat} (hx : p.tables.exec = Jvm.exec) (hb : c.code = mb M) (hd : decode (mb M) pc = .ok (.if_icmp k off, 3)) (ht : (pc : Int) + off = (a : Int))
    (kt : cmpB k x y = true → W p l e R s m args below meth c H locs cc cs Q (F0 m a lsC rest)) (kf : cmpB k x y = false → W p l e R s m args below meth c H locs cc cs Q (F0 m (pc + 3) lsC rest)) : W p l e R s m args below meth c H locs cc cs Q (F0 m pc lsC (.int y :: .int x :: rest)) := by
  cases k with
  | eq => exact lv_icmp_eq hx hb hd ht (fun z => kt (by simp [cmpB, z])) (fun z => kf (by simp [cmpB, z]))
  | ne => exact lv_icmp_ne hx hb hd ht (fun z => kt (by simp [cmpB, z])) (fun z => kf (by simp [cmpB, z]))
  | lt => exact lv_icmp_lt hx hb hd ht (fun z => kt (by simp [cmpB, z])) (fun z => kf (by simp [cmpB, z]))
  | ge => exact lv_icmp_ge hx hb hd ht (fun z => kt (by simp only [cmpB, z, decide_true])) (fun z => kf (by simp only [cmpB, z, decide_false]))
  | gt => exact lv_icmp_gt hx hb hd ht (fun z => kt (by simp [cmpB, z])) (fun z => kf (by simp [cmpB, z]))
  | le => exact lv_icmp_le hx hb hd ht (fun z => kt (by simp only [cmpB, z, decide_true])) (fun z => kf (by simp only [cmpB, z, decide_false]))
end STEP
