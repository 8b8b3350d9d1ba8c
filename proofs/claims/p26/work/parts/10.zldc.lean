/-! ===== a constant out of the class's own list ===== -/
theorem Rch.ldc {M : MI} {X : AX} {Ψ : AS → Prop} {pc idx len nx a b : Nat} {v : Int32} {ls : AL} {st : List Value} {h : AH} {cc cs : Nat} (hm : mk M pc = (.ldc idx, len, nx, v, a, b)) (hw : okw (.constant (mo M) idx v) = true)
    (k : Rch M X (nx, ls, .int v :: st, h, cc, cs) Ψ) : Rch M X (pc, ls, st, h, cc, cs) Ψ := by
  intro ok p l e R s m args below meth c D xa A am0 n0 Q cx f am H locs ws lsC hn0 ham hH hS hl hg
  dsimp only at hn0 ham hH hl hg ⊢
  obtain ⟨d, hnx, -⟩ := ok_at ok hm (by simp [ilen])
  have g := k ok p l e R s m args below meth c D xa A am0 n0 Q cx f am H locs ws lsC hn0 ham hH hS hl hg
  obtain ⟨hx, hb, hml, hts, hnw, hov, hown, hini, hA, hK, hZ, hT, f1, f2, f3, f4, -⟩ := cx
  rw [hnx] at g
  exact lv_ldc hx hb hown (hts _ (okw_in hw)) d g
