/-! ===== contracts of the small machine, and calls ===== -/
theorem ao_moved {u U : State} (hvm : u.vm.Alike U.vm) (h : (Cond.arrayOver (.array .int)).before #[] u = true) : (Cond.arrayOver (.array .int)).before #[] U = true := by
  unfold Cond.before Cond.holds at h ⊢
  simp only [Cond.value] at h ⊢
  rw [hvm.findClass]
  cases hc : u.vm.findClass (FieldType.array FieldType.int).toString with
  | none => rw [hc] at h; simp at h
  | some comp =>
    rw [hc] at h
    simp only [Option.bind_some, beq_iff_eq, Option.bind_eq_some_iff, Option.map_eq_some_iff] at h
    obtain ⟨c, h2, k, hk, h3⟩ := h
    split at h3
    · next comp2 ty hkind =>
      simp only [Bool.and_eq_true, decide_eq_true_eq] at h3
      obtain ⟨rfl, h4⟩ := h3
      obtain ⟨k', hk', he⟩ := hvm.2.2 _ _ hk
      have hi : (U.vm.classes.findIdx? fun (x : Class) => match x.kind with | .array component _ => component == comp | _ => false) = some c := by
        have e1 := va_idx_bare U.vm comp
        have e2 := va_idx_bare u.vm comp
        have e3 : U.vm.bare = u.vm.bare := by first | exact hvm.bare_eq | exact hvm.bare_eq.symm
        rw [e3] at e1
        exact e1.symm.trans (e2.trans h2)
      have hkind' : k'.kind = .array comp2 (.array .int) := by rw [he]; exact hkind
      have f2 : U.vm.findClass ("[" ++ (FieldType.array FieldType.int).toString) = some c := by rw [hvm.findClass]; exact h4
      rw [Option.bind_some]
      refine (congrArg (fun o : Option Nat => (o.bind (fun c => (U.vm.classes[c]?).map fun (k : Class) => match k.kind with | .array _ ty => decide (ty = FieldType.array .int) && decide (U.vm.findClass ("[" ++ (FieldType.array .int).toString) = some c) | _ => false)) == some true) hi).trans ?_
      simp [hk', hkind', f2]
    · cases h3
def argL : Nat → List Value → AL
  | _, [] => []
  | i, v :: t => (i, v) :: argL (i + 1) t
def retAt (M : MI) (pc : Nat) (st : List Value) (rv : Option Value) : Prop := ((mk M pc).1 = .ireturn ∧ ∃ v ty, st = [.int v] ∧ rv = some (.int v) ∧ mr M = some ty ∧ narrow ty (.int v) = .int v) ∨ ((mk M pc).1 = .return_ ∧ st = [] ∧ rv = none ∧ mr M = none)
def RetP (M : MI) (Φ : Option Value → AH → Prop) (τ : AS) : Prop := τ.2.2.2.2.1 ≤ mC M ∧ τ.2.2.2.2.2 ≤ mS M ∧ ∃ rv, retAt M τ.1 τ.2.2.1 rv ∧ Φ rv τ.2.2.2.1
/-- the method, called with these arguments over this heap, returns, and answer and heap are Φ -/
def Ct (M : MI) (X : AX) (args : List Value) (h : AH) (Φ : Option Value → AH → Prop) : Prop := MOk M ∧ Rch M X (0, argL 0 args, [], h, 0, 0) (RetP M Φ)
def wm (M : MI) : List Cond := .code (my M) (mb M) (mL M) (mr M) :: gw
def rmM (M : MI) : Room := { frames := mF M, cells := mC M, slots := mS M, locals := mW M }
def PcU (X : AX) (D : va_G) (xa am : Nat → Nat) (h : AH) (ws : va_W) (sz : Nat) (U : State) : Prop :=
  U.heap.size = sz ∧ HOk D U (fun _ => True) am xa h U.heap ws ∧ va_K D vwCl [] U ∧ (∀ w ∈ nw, va_Nw w U) ∧ (Cond.arrayOver (.array .int)).before #[] U = true ∧ (∀ k, k < 7 → va_Z "BargeBallast" (stN k) "[I" (.ref (xa k)) (va_A ws sz) U U.heap) ∧ (∀ k n f, X k = some (n, f) → va_T .int (xa k) n (fun j => .int (f j)) (va_A ws sz) U U.heap)
def QcO (D : va_G) (xa am : Nat → Nat) (h : AH) (ws : va_W) (sz : Nat) (Φ : Option Value → AH → Prop) : Array Value → State → Outcome → State → Prop := fun _ st o t =>
  (∃ (rv : Option Value) (h' : AH) (am' : Nat → Nat) (ws' : va_W), o = .returned (rv.map (cv am' xa)) ∧ Φ rv h' ∧ (∀ k, (k < h.length ∨ h'.length ≤ k) → am' k = am k) ∧ h.length ≤ h'.length ∧ HOk D t (va_A ws sz) am' xa h' t.heap ws') ∧ va_F (va_A ws sz) st t
theorem aT.moved {u U : State} (hvm : u.vm.Alike U.vm) {cA : ClassId} {ty : FieldType} (h : aT u cA ty) : aT U cA ty := ⟨arrOfT_moved hvm h.1, h.2.moved hvm⟩
theorem co_moved {u U : State} (hvm : u.vm.Alike U.vm) {am xa : Nat → Nat} {o : AO} {e : va_E} (h : co u am xa o e) : co U am xa o e := by
  match o, h with
  | .inl (ty, n, f), ⟨cA, h1, h2⟩ => exact ⟨cA, h1, h2.moved hvm⟩
  | .inr (.inl (n, g)), ⟨cA, h1, h2⟩ => exact ⟨cA, h1, h2.moved hvm⟩
  | .inr (.inr (ci, fs)), h => exact h
theorem HOk.moved {D : va_G} {u U : State} (hvm : u.vm.Alike U.vm) {A : Nat → Prop} {am xa : Nat → Nat} {h : AH} {H : Heap} {ws : va_W} (hH : HOk D u A am xa h H ws) : HOk D U A am xa h H ws := by
  obtain ⟨h1, h2, h3, h4, h5⟩ := hH
  refine ⟨h1, h2, h3, h4, fun k o hk => ?_⟩
  obtain ⟨e, e1, e2⟩ := h5 k o hk
  exact ⟨e, e1, co_moved hvm e2⟩
theorem HOk.weak {D : va_G} {u : State} {A B : Nat → Prop} {am xa : Nat → Nat} {h : AH} {H : Heap} {ws : va_W} (hH : HOk D u A am xa h H ws) (hAB : ∀ (k : Nat) (q : Nat × va_E), ws[k]? = some q → A q.1 → B q.1) : HOk D u B am xa h H ws := by
  obtain ⟨h1, h2, h3, h4, h5⟩ := hH
  exact ⟨h1, h2.weaken (fun k q hk hA => hAB k q hk hA), h3, h4, h5⟩
theorem nw_moved {s U : State} (hW : s.WarmedH U.vm) (h : ∀ w ∈ nw, va_Nw w s) : ∀ w ∈ nw, va_Nw w U := by
  intro w hw
  have hs := h w hw
  simp only [nw, List.mem_cons, List.not_mem_nil, or_false] at hw
  rcases hw with rfl | rfl | rfl | rfl | rfl | rfl | rfl | rfl | rfl | rfl | rfl
  all_goals first | exact va_Nw.warmF hW hs | exact va_Nw.warmM hW hs
theorem argL_eq {am xa : Nat → Nat} : ∀ (vs : List Value) (i : Nat), (∀ v ∈ vs, v.category = 1) → lv_args i (vs.map (cv am xa)) = lc am xa (argL i vs)
  | [], _, _ => rfl
  | v :: t, i, h => by
    have h1 : ¬ v.category = 2 := by have := h v List.mem_cons_self; omega
    simp only [List.map_cons, lv_args, argL, lc, cv_cat, h1, if_false]
    exact congrArg _ (argL_eq t (i + 1) (fun v hv => h v (List.mem_cons_of_mem _ hv)))
theorem argL_fst : ∀ (vs : List Value) (i : Nat), (∀ q ∈ argL i vs, i ≤ q.1) ∧ ((argL i vs).map Prod.fst).Nodup
  | [], _ => ⟨(fun _ h => by cases h), List.nodup_nil⟩
  | v :: t, i => by
    obtain ⟨h1, h2⟩ := argL_fst t (i + 1)
    refine ⟨fun q hq => ?_, ?_⟩
    · rcases List.mem_cons.mp hq with e | e
      · rw [e]; exact Nat.le_refl _
      · have := h1 q e; omega
    · simp only [argL, List.map_cons, List.nodup_cons]
      refine ⟨fun hm => ?_, h2⟩
      obtain ⟨q, hq, e⟩ := List.mem_map.mp hm
      have := h1 q hq
      omega
theorem argL_cat : ∀ (vs : List Value) (i : Nat), (∀ v ∈ vs, v.category = 1) → ∀ q ∈ argL i vs, q.2.category = 1
  | [], _, _, _, h => by cases h
  | v :: t, i, h, q, hq => by
    rcases List.mem_cons.mp hq with e | e
    · rw [e]; exact h v List.mem_cons_self
    · exact argL_cat t (i + 1) (fun v hv => h v (List.mem_cons_of_mem _ hv)) q e
theorem lg_sl_len (vs : List Value) (h : ∀ v ∈ vs, v.category = 1) : (lg_sl vs).length = vs.length := by
  induction vs with
  | nil => rfl
  | cons v t ih =>
    have h1 : ¬ v.category = 2 := by have := h v List.mem_cons_self; omega
    have := ih (fun v hv => h v (List.mem_cons_of_mem _ hv))
    simp only [lg_sl, List.flatMap_cons, h1, if_false, List.length_append, List.length_cons, List.length_nil] at this ⊢
    unfold lg_sl at *
    omega
theorem cat_map {am xa : Nat → Nat} {vs : List Value} (h : ∀ v ∈ vs, v.category = 1) : ∀ v ∈ vs.map (cv am xa), v.category = 1 := by
  intro v hv
  obtain ⟨w, hw, rfl⟩ := List.mem_map.mp hv
  rw [cv_cat]; exact h w hw
set_option maxHeartbeats 1000000 in
theorem met_of {M : MI} {X : AX} {av : List Value} {h : AH} {Φ : Option Value → AH → Prop} (hC : Ct M X av h Φ) (hcat : ∀ v ∈ av, v.category = 1) (hlen : av.length ≤ mL M) (hy : plainName (my M).cls = true) (l : Launch) (D : va_G) (xa am : Nat → Nat) (ws : va_W) (sz : Nat) :
    Met l (my M) (wm M) (rmM M) (va_Pc (av.map (cv am xa)) (PcU X D xa am h ws sz)) (QcO D xa am h ws sz Φ) (mC M) (mS M) (va_A ws sz) := by
  refine Met.ofW (cc := mb M) (maxL := mL M) (ret := mr M) hy rfl ?_
  intro p e s m args below meth c s₁ B hml hv
  obtain ⟨rfl, hsz, hH, hK, hnw, hov, hZ, hT⟩ := hv
  subst hsz
  have hts : ∀ w ∈ gw, w.before (av.map (cv am xa)).toArray s = true := fun w hw => atoms_spec (ws := wm M) B.pre w (List.mem_cons_of_mem _ hw)
  have hown : s.vm.findClass (mo M) = some m.cls := findClass_of_methodNamed B.named
  have hA : ∀ q : Nat, s.heap.size ≤ q → va_A ws s.heap.size q := fun q hq => Or.inr hq
  have hin : (my M).name = "<init>" → meth.name = "<init>" := fun h9 => (name_of_methodNamed B.named B.method).1.trans h9
  have hlocks := B.notSynchronized
  have cx : CxOk M X p (headSpec (wm M) (rmM M)).room s m (av.map (cv am xa)).toArray meth c D xa (va_A ws s.heap.size) :=
    ⟨B.exec, B.bytes, hml, hts, hnw, hov, hown, hin, hA, hK, hZ, hT, Nat.le_refl _, Nat.le_refl _, Nat.le_refl _, Nat.le_refl _, hlocks⟩
  have hl := lv_entry (av.map (cv am xa)) (n := mL M) (by rw [lg_sl_len _ (cat_map hcat), List.length_map]; exact hlen)
  rw [argL_eq av 0 hcat] at hl
  rw [lg_entry_eq]
  refine hC.2 hC.1 p l e _ s m _ below meth c D xa (va_A ws s.heap.size) am h.length (MQ below (QcO D xa am h ws s.heap.size Φ) (av.map (cv am xa)).toArray s (mC M) (mS M) (va_A ws s.heap.size)) cx ?_ am s.heap [] ws _ (Nat.le_refl _) (fun _ _ => rfl) (hH.weak (fun k q hk _ => Or.inl ⟨k, q.2, hk⟩)) va_S.rf hl ⟨(argL_fst av 0).2, argL_cat av 0 hcat⟩
  rintro ⟨pc, ls, st, h', cc, cs⟩ ⟨hc1, hc2, rv, hret, hΦ⟩
  intro am' H locs ws' lsC hn0 ham hH' hS hl' hg
  dsimp only at hc1 hc2 hn0 ham hH' hl' hg hret hΦ ⊢
  refine W.widen hc1 hc2 ?_
  have fin : ∀ t : State, t.heap = H → s.WarmedH t.vm → QcO D xa am h ws s.heap.size Φ (av.map (cv am xa)).toArray s (.returned (rv.map (cv am' xa))) t := fun t ht hW =>
    ⟨⟨rv, h', am', ws', rfl, hΦ, ham, hn0, by rw [ht]; exact hH'.moved hW.alike⟩, hS.F ht⟩
  rcases hret with ⟨hi, v, ty, rfl, rfl, hr, hn⟩ | ⟨hi, rfl, rfl, hr⟩
  · generalize hq : mk M pc = q at hi
    obtain ⟨i, len, nx, v9, a, b⟩ := q
    dsimp only at hi
    subst hi
    obtain ⟨d, -, -⟩ := ok_at hC.1 hq (by simp [ilen])
    exact W.zret B.exec B.bytes (B.returns.trans hr) hn fin hS.2.2 d
  · generalize hq : mk M pc = q at hi
    obtain ⟨i, len, nx, v9, a, b⟩ := q
    dsimp only at hi
    subst hi
    obtain ⟨d, -, -⟩ := ok_at hC.1 hq (by simp [ilen])
    exact W.vret B.exec B.bytes (B.returns.trans hr) fin hS.2.2 d
theorem blind {X : AX} {D : va_G} {xa am : Nat → Nat} {h : AH} {ws : va_W} {sz : Nat} {av : List Value} : FrameBlind (va_Pc av (PcU X D xa am h ws sz)) := by
  intro a U g mk ⟨q0, q1, q2, q3, q4, q5, q6, q7⟩
  have hvm : U.vm.Alike (U.calling g mk a).vm := Vm.Alike.refl U.vm
  refine ⟨q0, q1, q2.moved hvm, va_K.moved hvm q3, fun w hw => ?_, ao_moved hvm q5, fun k hk => va_Z.moved hvm (q6 k hk), fun k n f hX => va_T.moved hvm (q7 k n f hX)⟩
  have hs := q4 w hw
  simp only [nw, List.mem_cons, List.not_mem_nil, or_false] at hw
  rcases hw with rfl | rfl | rfl | rfl | rfl | rfl | rfl | rfl | rfl | rfl | rfl
  all_goals exact va_Nw.same rfl (rfl : U.vm = (U.calling g mk a).vm) hs
