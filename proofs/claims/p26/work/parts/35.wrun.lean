/-! ===== whole runs ===== -/
/-- as Rch, for a whole run alone: nothing stands in the heap at its start -/
def Rc0 (M : MI) (X : AX) (σ : AS) (Ψ : AS → Prop) : Prop := MOk M → ∀ (p : Program) (l : Launch) (e : Env) (R : Room) (s : State) (m : MethodId) (args : Array Value) (below : List Frame) (meth : Method) (c : Code) (D : va_G) (xa : Nat → Nat) (A : Nat → Prop) (am0 : Nat → Nat) (Q : State → Prop),
  CxOk M X p R s m args meth c D xa A → (∀ τ, Ψ τ → Sat M p l e R s m args below meth c D xa A am0 0 Q τ) → Sat M p l e R s m args below meth c D xa A am0 0 Q σ
theorem Rch.z {M : MI} {X : AX} {σ : AS} {Ψ : AS → Prop} (h : Rch M X σ Ψ) : Rc0 M X σ Ψ := fun ok p l e R s m args below meth c D xa A am0 Q cx f => h ok p l e R s m args below meth c D xa A am0 0 Q cx f
theorem Rc0.tr {M : MI} {X : AX} {σ : AS} {Ψ Φ : AS → Prop} (h : Rc0 M X σ Ψ) (k : ∀ τ, Ψ τ → Rc0 M X τ Φ) : Rc0 M X σ Φ :=
  fun ok p l e R s m args below meth c D xa A am0 Q cx f => h ok p l e R s m args below meth c D xa A am0 Q cx (fun τ hτ => k τ hτ ok p l e R s m args below meth c D xa A am0 Q cx f)

/-- objects that nothing names any more are left out -/
theorem Rc0.drop {M : MI} {X : AX} {pc : Nat} {ls : AL} {st : List Value} {h e9 : AH} {cc cs : Nat} {Ψ : AS → Prop} (hcl : clH h = true) (hcl2 : st.all (clV h.length) = true) (hcl3 : ls.all (fun q => clV h.length q.2) = true) (k : Rc0 M X (pc, ls, st, h, cc, cs) Ψ) : Rc0 M X (pc, ls, st, h ++ e9, cc, cs) Ψ := by
  intro ok p l e R s m args below meth c D xa A am0 Q cx f am H locs ws lsC hn0 ham hH hS hl hg
  have g := k ok p l e R s m args below meth c D xa A am0 Q cx f
  dsimp only at hn0 ham hH hl hg ⊢
  have hag : ∀ k9, k9 < h.length → (fun k => if k < h.length then am k else am0 k) k9 = am k9 := fun k9 hk9 => if_pos hk9
  have hag2 : ∀ k9, h.length ≤ k9 → (fun k => if k < h.length then am k else am0 k) k9 = am0 k9 := fun k9 hk9 => if_neg (by omega)
  generalize (fun k => if k < h.length then am k else am0 k) = am' at hag hag2
  have ht : ∀ (k9 : Nat) (x : Nat × va_E), (ws.take h.length)[k9]? = some x → k9 < h.length ∧ ws[k9]? = some x := by
    intro k9 x hx
    rw [List.getElem?_take] at hx
    by_cases q : k9 < h.length
    · rw [if_pos q] at hx; exact ⟨q, hx⟩
    · rw [if_neg q] at hx; cases hx
  have hH' : HOk D s A am' xa h H (ws.take h.length) := by
    obtain ⟨h1, h2, h3, h4, h5⟩ := hH
    rw [List.length_append] at h3 h4
    refine ⟨fun k9 x hx => h1 k9 x (ht k9 x hx).2, ⟨fun i j x y hi hj hxy => h2.1 i j x y (ht i x hi).2 (ht j y hj).2 hxy, fun k9 x hx => h2.2 k9 x (ht k9 x hx).2⟩, by rw [List.length_take]; omega, by omega, fun k9 o hk => ?_⟩
    have hl9 : k9 < h.length := (List.getElem?_eq_some_iff.mp hk).1
    obtain ⟨e1, e2, e3⟩ := h5 k9 o (by rw [List.getElem?_append_left hl9]; exact hk)
    exact ⟨e1, by rw [List.getElem?_take, if_pos hl9, e2, hag k9 hl9], co_cl hag (List.all_eq_true.mp hcl o (List.mem_of_getElem? hk)) e3⟩
  have g2 := g am' H locs (ws.take h.length) lsC (Nat.zero_le _) (fun k9 hk9 => by
    dsimp only at hk9
    exact hag2 k9 (by omega)) hH' hS (by dsimp only; rw [lc_cls hag hcl3]; exact hl) hg
  dsimp only at g2
  rw [cv_cls hag hcl2] at g2
  exact g2
