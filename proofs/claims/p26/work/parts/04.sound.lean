/-! ===== what the small machine's states mean, and that its steps are the machine's ===== -/
def cv (am xa : Nat → Nat) (v : Value) : Value := match v with
  | .ref k => .ref (if k < 1000 then am k else xa (k - 1000))
  | w => w
def aT (s : State) (cA : ClassId) (ty : FieldType) : Prop := ArrOfT s cA ty ∧ va_RA s cA ty
def co (s : State) (am xa : Nat → Nat) (o : AO) (e : va_E) : Prop := match o with
  | .inl (ty, n, f) => ∃ cA : ClassId, e = .inl (cA, n, .inl f) ∧ aT s cA ty
  | .inr (.inl (n, g)) => ∃ cA : ClassId, e = .inl (cA, n, .inr (.inr (.inr (.inr (fun i => if i < n then some (am (g i)) else none))))) ∧ aT s cA (.array .int)
  | .inr (.inr (ci, fs)) => e = .inr (ci, fs.map (cv am xa))
def HOk (D : va_G) (s : State) (A : Nat → Prop) (am xa : Nat → Nat) (h : AH) (H : Heap) (ws : va_W) : Prop :=
  va_P D vwCl ws H ∧ va_D A ws ∧ ws.length = h.length ∧ h.length ≤ 1000 ∧ ∀ (k : Nat) (o : AO), h[k]? = some o → ∃ e, ws[k]? = some (am k, e) ∧ co s am xa o e
def gL (ls : AL) : Prop := (ls.map Prod.fst).Nodup ∧ ∀ q ∈ ls, q.2.category = 1
def lc (am xa : Nat → Nat) (ls : AL) : AL := ls.map fun q => (q.1, cv am xa q.2)
def CxOk (M : MI) (X : AX) (p : Program) (R : Room) (s : State) (m : MethodId) (args : Array Value) (meth : Method) (c : Code) (D : va_G) (xa : Nat → Nat) (A : Nat → Prop) : Prop :=
  p.tables.exec = Jvm.exec ∧ c.code = mb M ∧ c.maxLocals = mL M ∧ (∀ w ∈ gw, w.before args s = true) ∧ (∀ w ∈ nw, va_Nw w s) ∧ (Cond.arrayOver (.array .int)).before #[] s = true ∧ s.vm.findClass (mo M) = some m.cls ∧ ((my M).name = "<init>" → meth.name = "<init>") ∧ (∀ q, s.heap.size ≤ q → A q) ∧ va_K D vwCl [] s ∧
  (∀ k, k < 7 → va_Z "BargeBallast" (stN k) "[I" (.ref (xa k)) A s s.heap) ∧ (∀ k n f, X k = some (n, f) → va_T .int (xa k) n (fun j => .int (f j)) A s s.heap) ∧ mF M ≤ R.frames ∧ mW M ≤ R.locals ∧ mC M ≤ R.cells ∧ mS M ≤ R.slots ∧ meth.locks = false
def Sat (M : MI) (p : Program) (l : Launch) (e : Env) (R : Room) (s : State) (m : MethodId) (args : Array Value) (below : List Frame) (meth : Method) (c : Code) (D : va_G) (xa : Nat → Nat) (A : Nat → Prop) (am0 : Nat → Nat) (n0 : Nat) (Q : State → Prop) (σ : AS) : Prop :=
  ∀ (am : Nat → Nat) (H : Heap) (locs : List Loc) (ws : va_W) (lsC : Array Slot), n0 ≤ σ.2.2.2.1.length → (∀ k, (k < n0 ∨ σ.2.2.2.1.length ≤ k) → am k = am0 k) → HOk D s A am xa σ.2.2.2.1 H ws → va_S A s.heap H locs → lv_has lsC (mL M) (lc am xa σ.2.1) → gL σ.2.1 →
    W p l e R s m args below meth c H locs σ.2.2.2.2.1 σ.2.2.2.2.2 Q (F0 m σ.1 lsC (σ.2.2.1.map (cv am xa)))
/-- from σ the method comes to a state that is Ψ -/
def Rch (M : MI) (X : AX) (σ : AS) (Ψ : AS → Prop) : Prop := MOk M → ∀ (p : Program) (l : Launch) (e : Env) (R : Room) (s : State) (m : MethodId) (args : Array Value) (below : List Frame) (meth : Method) (c : Code) (D : va_G) (xa : Nat → Nat) (A : Nat → Prop) (am0 : Nat → Nat) (n0 : Nat) (Q : State → Prop),
  CxOk M X p R s m args meth c D xa A → (∀ τ, Ψ τ → Sat M p l e R s m args below meth c D xa A am0 n0 Q τ) → Sat M p l e R s m args below meth c D xa A am0 n0 Q σ
theorem Rch.rf {M : MI} {X : AX} {σ : AS} {Ψ : AS → Prop} (h : Ψ σ) : Rch M X σ Ψ := fun _ _ _ _ _ _ _ _ _ _ _ _ _ _ _ _ _ _ k => k σ h
theorem Rch.tr {M : MI} {X : AX} {σ : AS} {Ψ Φ : AS → Prop} (h : Rch M X σ Ψ) (k : ∀ τ, Ψ τ → Rch M X τ Φ) : Rch M X σ Φ :=
  fun ok p l e R s m args below meth c D xa A am0 n0 Q cx f => h ok p l e R s m args below meth c D xa A am0 n0 Q cx (fun τ hτ => k τ hτ ok p l e R s m args below meth c D xa A am0 n0 Q cx f)
theorem Rch.mono {M : MI} {X : AX} {σ : AS} {Ψ Φ : AS → Prop} (h : Rch M X σ Ψ) (k : ∀ τ, Ψ τ → Φ τ) : Rch M X σ Φ := h.tr fun τ hτ => Rch.rf (k τ hτ)
theorem getL_mem {ls : AL} {i : Nat} {v : Value} (h : getL ls i = some v) : (i, v) ∈ ls := by
  induction ls with
  | nil => cases h
  | cons q t ih =>
    obtain ⟨j, w⟩ := q
    unfold getL at h
    cases hb : Nat.beq j i with
    | true =>
      rw [hb] at h
      have e : j = i := Nat.eq_of_beq_eq_true hb
      cases h
      subst e
      exact List.mem_cons_self
    | false =>
      rw [hb] at h
      exact List.mem_cons_of_mem _ (ih h)
theorem lc_get {am xa : Nat → Nat} {ls : AL} {i : Nat} {v : Value} {lsC : Array Slot} {n : Nat} (h : lv_has lsC n (lc am xa ls)) (g : getL ls i = some v) : lsC[i]? = some (.val (cv am xa v)) :=
  h.2.2 (i, cv am xa v) (List.mem_map.mpr ⟨(i, v), getL_mem g, rfl⟩)
theorem setL_mem {ls : AL} {i : Nat} {v : Value} {q : Nat × Value} (hn : (ls.map Prod.fst).Nodup) (h : q ∈ setL ls i v) : q = (i, v) ∨ (q ∈ ls ∧ q.1 ≠ i) := by
  induction ls with
  | nil => left; simpa [setL] using h
  | cons x t ih =>
    obtain ⟨j, w⟩ := x
    simp only [List.map_cons, List.nodup_cons] at hn
    unfold setL at h
    cases hb : Nat.beq j i with
    | true =>
      rw [hb] at h
      have e : j = i := Nat.eq_of_beq_eq_true hb
      subst e
      rcases List.mem_cons.mp h with h | h
      · exact Or.inl h
      · refine Or.inr ⟨List.mem_cons_of_mem _ h, fun e2 => hn.1 ?_⟩
        rw [← e2]
        exact List.mem_map.mpr ⟨q, h, rfl⟩
    | false =>
      rw [hb] at h
      have ne : ¬ j = i := fun e => by rw [e, Nat.beq_refl] at hb; cases hb
      rcases List.mem_cons.mp h with h | h
      · subst h
        exact Or.inr ⟨List.mem_cons_self, ne⟩
      · rcases ih hn.2 h with h | ⟨h, h2⟩
        · exact Or.inl h
        · exact Or.inr ⟨List.mem_cons_of_mem _ h, h2⟩
theorem setL_fst {ls : AL} {i : Nat} {v : Value} : (setL ls i v).map Prod.fst = if i ∈ ls.map Prod.fst then ls.map Prod.fst else ls.map Prod.fst ++ [i] := by
  induction ls with
  | nil => simp [setL]
  | cons x t ih =>
    obtain ⟨j, w⟩ := x
    unfold setL
    cases hb : Nat.beq j i with
    | true =>
      have e : j = i := Nat.eq_of_beq_eq_true hb
      subst e
      simp
    | false =>
      have ne : ¬ i = j := fun e => by rw [e, Nat.beq_refl] at hb; cases hb
      simp only [cond_false, List.map_cons, ih, List.mem_cons, ne, false_or]
      split <;> simp
theorem gL_set {ls : AL} {i : Nat} {v : Value} (h : gL ls) (hv : v.category = 1) : gL (setL ls i v) := by
  refine ⟨?_, fun q hq => ?_⟩
  · rw [setL_fst]
    split
    · exact h.1
    · next hn =>
      rw [List.nodup_append]
      exact ⟨h.1, by simp, fun a ha b hb => by rw [List.mem_singleton.mp hb]; exact fun e => hn (e ▸ ha)⟩
  · rcases setL_mem h.1 hq with e | ⟨e, -⟩
    · rw [e]; exact hv
    · exact h.2 q e
theorem cv_cat (am xa : Nat → Nat) (v : Value) : (cv am xa v).category = v.category := by cases v <;> rfl
theorem lc_set {am xa : Nat → Nat} {ls : AL} {i n : Nat} {v : Value} {lsC : Array Slot} (hg : gL ls) (h : lv_has lsC n ((i, cv am xa v) :: (lc am xa ls).filter (fun q => !(q.1 == i) && !(q.1 + 1 == i && q.2.category == 2)))) : lv_has lsC n (lc am xa (setL ls i v)) := by
  refine ⟨h.1, h.2.1, fun q hq => h.2.2 q ?_⟩
  obtain ⟨q0, hq0, rfl⟩ := List.mem_map.mp hq
  rcases setL_mem hg.1 hq0 with e | ⟨e, ne⟩
  · rw [e]; exact List.mem_cons_self
  · refine List.mem_cons_of_mem _ (List.mem_filter.mpr ⟨List.mem_map.mpr ⟨q0, e, rfl⟩, ?_⟩)
    have := hg.2 q0 e
    simp [ne, cv_cat, this]
theorem MOk.at {M : MI} (ok : MOk M) {pc : Nat} {q : Ins} (hq : mk M pc = q) (hn : ¬ q = nopI) : decode (mb M) pc = .ok (q.1, q.2.1) ∧ okI (mo M) pc q = true := by
  by_cases hp : pc < mN M
  · rcases ok.1 pc hp with h | h
    · exact absurd (hq.symm.trans h) hn
    · rw [hq] at h; exact h
  · exact absurd (hq.symm.trans (ok.2 pc (by omega))) hn
