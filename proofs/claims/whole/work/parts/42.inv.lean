/-! ===== what holds between two calls of the law ===== -/
def INV (B : Nat) (c : FA) (r : Nat → FA) (n q : Nat) (sn : FA) (hs : Int32) (sg : FA) (t : Nat) (s bf kp : FA) (ik : Int32) (tx : FA) : Prop :=
  (∃ N, RR 0 B N c s) ∧ n < 4 ∧ q ≤ 4 ∧ (∀ j, j < q → ∃ N, RR 0 B N (r ((n + 4 - q + j) % 4)) (fun i => bf (163 * j + i))) ∧ ((hs = 0 ∧ ik = 0) ∨ (hs = 1 ∧ ik = 1 ∧ ∃ N, RR 0 B N sn kp)) ∧ t ≤ 60 ∧ ∀ i, i < t → sg i = tx i
theorem INV.mono {B B' : Nat} {c : FA} {r : Nat → FA} {n q : Nat} {sn : FA} {hs : Int32} {sg : FA} {t : Nat} {s bf kp : FA} {ik : Int32} {tx : FA} (h : INV B c r n q sn hs sg t s bf kp ik tx) (hB : B ≤ B') : INV B' c r n q sn hs sg t s bf kp ik tx := by
  obtain ⟨⟨N, h1⟩, h2, h3, h4, h5, h6, h7⟩ := h
  refine ⟨⟨N, h1.mono hB⟩, h2, h3, fun j hj => ?_, ?_, h6, h7⟩
  · obtain ⟨N', g⟩ := h4 j hj
    exact ⟨N', g.mono hB⟩
  · rcases h5 with g | ⟨g1, g2, N', g3⟩
    · exact Or.inl g
    · exact Or.inr ⟨g1, g2, N', g3.mono hB⟩
theorem INV.act {B B' N' : Nat} {c c' : FA} {r : Nat → FA} {n q : Nat} {sn : FA} {hs : Int32} {sg : FA} {t : Nat} {s s' bf kp : FA} {ik : Int32} {tx : FA} (h : INV B c r n q sn hs sg t s bf kp ik tx) (hR : RR 0 B' N' c' s') (hB : B ≤ B') : INV B' c' (vup r n (cp c (r n))) ((n + 1) % 4) (kq q) sn hs sg t s' (knb s bf q) kp ik tx := by
  obtain ⟨⟨N, h1⟩, h2, h3, h4, h5, h6, h7⟩ := h.mono hB
  have hc : ∀ d : FA, RR 0 B' N (cp c d) s := fun d => h1.congr (fun j hj => if_pos hj) (fun i _ => rfl)
  refine ⟨⟨N', hR⟩, Nat.mod_lt _ (by decide), by unfold kq; split <;> omega, fun j hj => ?_, h5, h6, h7⟩
  by_cases q4 : q < 4
  · have ek : kq q = q + 1 := if_pos q4
    have eb : knb s bf q = cpf s bf 0 (163 * q) 163 := if_pos q4
    rw [ek] at hj ⊢
    rw [eb, show ((n + 1) % 4 + 4 - (q + 1) + j) % 4 = (n + 4 - q + j) % 4 by omega]
    by_cases e : j = q
    · subst e
      have ei : (n + 4 - j + j) % 4 = n := by omega
      rw [ei, show vup r n (cp c (r n)) n = cp c (r n) from if_pos rfl]
      refine ⟨N, (hc (r n)).congr (fun _ _ => rfl) (fun i hi => ?_)⟩
      show cpf s bf 0 (163 * j) 163 (163 * j + i) = s i
      unfold cpf
      rw [if_pos (by omega)]
      congr 1
      omega
    · obtain ⟨N2, g⟩ := h4 j (by omega)
      have ei : ¬ (n + 4 - q + j) % 4 = n := by omega
      rw [show vup r n (cp c (r n)) ((n + 4 - q + j) % 4) = r ((n + 4 - q + j) % 4) from if_neg ei]
      refine ⟨N2, g.congr (fun _ _ => rfl) (fun i hi => ?_)⟩
      show cpf s bf 0 (163 * q) 163 (163 * j + i) = bf (163 * j + i)
      unfold cpf
      have : 163 * j + 163 ≤ 163 * q := by omega
      rw [if_neg (by omega)]
  · obtain rfl : q = 4 := by omega
    have ek : kq 4 = 4 := rfl
    have eb : knb s bf 4 = cpf s (cpf bf bf 163 0 489) 0 489 163 := if_neg q4
    rw [ek] at hj ⊢
    rw [eb]
    by_cases e : j = 3
    · subst e
      have ei : ((n + 1) % 4 + 4 - 4 + 3) % 4 = n := by omega
      rw [ei, show vup r n (cp c (r n)) n = cp c (r n) from if_pos rfl]
      refine ⟨N, (hc (r n)).congr (fun _ _ => rfl) (fun i hi => ?_)⟩
      show cpf s (cpf bf bf 163 0 489) 0 489 163 (163 * 3 + i) = s i
      unfold cpf
      rw [if_pos (by omega)]
      exact congrArg s (by omega)
    · obtain ⟨N2, g⟩ := h4 (j + 1) (by omega)
      have ei : ((n + 1) % 4 + 4 - 4 + j) % 4 = (n + 4 - 4 + (j + 1)) % 4 := by omega
      have ei2 : ¬ (n + 4 - 4 + (j + 1)) % 4 = n := by omega
      rw [ei, show vup r n (cp c (r n)) ((n + 4 - 4 + (j + 1)) % 4) = r ((n + 4 - 4 + (j + 1)) % 4) from if_neg ei2]
      refine ⟨N2, g.congr (fun _ _ => rfl) (fun i hi => ?_)⟩
      show cpf s (cpf bf bf 163 0 489) 0 489 163 (163 * j + i) = bf (163 * (j + 1) + i)
      unfold cpf
      rw [if_neg (by omega), if_pos (by omega)]
      congr 1
      omega
theorem INV.back {B : Nat} {c : FA} {r : Nat → FA} {n q : Nat} {sn : FA} {hs : Int32} {sg : FA} {t : Nat} {s bf kp : FA} {ik : Int32} {tx : FA} (h : INV B c r n q sn hs sg t s bf kp ik tx) (hq : ¬ q = 0) : INV B (cp (r ((n + 3) % 4)) c) r ((n + 3) % 4) (q - 1) sn hs sg t (cpf bf s (163 * (q - 1)) 0 163) bf kp ik tx := by
  obtain ⟨⟨N, h1⟩, h2, h3, h4, h5, h6, h7⟩ := h
  refine ⟨?_, Nat.mod_lt _ (by decide), by omega, fun j hj => ?_, h5, h6, h7⟩
  · obtain ⟨N2, g⟩ := h4 (q - 1) (by omega)
    rw [show (n + 4 - q + (q - 1)) % 4 = (n + 3) % 4 by omega] at g
    refine ⟨N2, g.congr (fun j hj => if_pos hj) (fun i hi => ?_)⟩
    unfold cpf
    rw [if_pos (by omega)]
    show bf (i - 0 + 163 * (q - 1)) = bf (163 * (q - 1) + i)
    congr 1
    omega
  · obtain ⟨N2, g⟩ := h4 j (by omega)
    rw [show ((n + 3) % 4 + 4 - (q - 1) + j) % 4 = (n + 4 - q + j) % 4 by omega]
    exact ⟨N2, g⟩
/-- as Rch, for a whole run alone: nothing stands in the heap at its start -/
def Rc0 (M : MI) (X : AX) (σ : AS) (Ψ : AS → Prop) : Prop := MOk M → ∀ (p : Program) (l : Launch) (e : Env) (R : Room) (s : State) (m : MethodId) (args : Array Value) (below : List Frame) (meth : Method) (c : Code) (D : va_G) (xa : Nat → Nat) (A : Nat → Prop) (am0 : Nat → Nat) (Q : State → Prop),
  CxOk M X p R s m args meth c D xa A → (∀ τ, Ψ τ → Sat M p l e R s m args below meth c D xa A am0 0 Q τ) → Sat M p l e R s m args below meth c D xa A am0 0 Q σ
theorem Rch.z {M : MI} {X : AX} {σ : AS} {Ψ : AS → Prop} (h : Rch M X σ Ψ) : Rc0 M X σ Ψ := fun ok p l e R s m args below meth c D xa A am0 Q cx f => h ok p l e R s m args below meth c D xa A am0 0 Q cx f
theorem Rc0.tr {M : MI} {X : AX} {σ : AS} {Ψ Φ : AS → Prop} (h : Rc0 M X σ Ψ) (k : ∀ τ, Ψ τ → Rc0 M X τ Φ) : Rc0 M X σ Φ :=
  fun ok p l e R s m args below meth c D xa A am0 Q cx f => h ok p l e R s m args below meth c D xa A am0 Q cx (fun τ hτ => k τ hτ ok p l e R s m args below meth c D xa A am0 Q cx f)

/-- objects that nothing names any more are left out -/
theorem Rc0.drop {M : MI} {X : AX} {pc : Nat} {ls : AL} {st : List Value} {h e9 : AH} {cc cs : Nat} {Ψ : AS → Prop} (hcl : clH h = true) (hcl2 : st.all (clV h.length) = true) (hcl3 : ls.all (fun q => clV h.length q.2) = true) (k : Rc0 M X (pc, ls, st, h, cc, cs) Ψ) : Rc0 M X (pc, ls, st, h ++ e9, cc, cs) Ψ := by
  intro ok p l e R s m args below meth c D xa A am0 Q cx f am H locs ws lsC hn0 ham hH hS hl hg
  have g := k ok p l e R s m args below meth c D xa A am0 Q cx f
  dsimp only at hn0 ham hH hl hg ⊢
  have hag : ∀ k9, k9 < h.length → (fun k => if k < h.length then am k else am0 k) k9 = am k9 := fun k9 hk9 => if_pos hk9
  have hag2 : ∀ k9, h.length ≤ k9 → (fun k => if k < h.length then am k else am0 k) k9 = am0 k9 := fun k9 hk9 => if_neg (by omega)
  generalize (fun k => if k < h.length then am k else am0 k) = am' at hag hag2
  have ht : ∀ (k9 : Nat) (x : Nat × va_E), (ws.take h.length)[k9]? = some x → k9 < h.length ∧ ws[k9]? = some x := by
    intro k9 x hx
    rw [List.getElem?_take] at hx
    by_cases q : k9 < h.length
    · rw [if_pos q] at hx; exact ⟨q, hx⟩
    · rw [if_neg q] at hx; cases hx
  have hH' : HOk D s A am' xa h H (ws.take h.length) := by
    obtain ⟨h1, h2, h3, h4, h5⟩ := hH
    rw [List.length_append] at h3 h4
    refine ⟨fun k9 x hx => h1 k9 x (ht k9 x hx).2, ⟨fun i j x y hi hj hxy => h2.1 i j x y (ht i x hi).2 (ht j y hj).2 hxy, fun k9 x hx => h2.2 k9 x (ht k9 x hx).2⟩, by rw [List.length_take]; omega, by omega, fun k9 o hk => ?_⟩
    have hl9 : k9 < h.length := (List.getElem?_eq_some_iff.mp hk).1
    obtain ⟨e1, e2, e3⟩ := h5 k9 o (by rw [List.getElem?_append_left hl9]; exact hk)
    exact ⟨e1, by rw [List.getElem?_take, if_pos hl9, e2, hag k9 hl9], co_cl hag (List.all_eq_true.mp hcl o (List.mem_of_getElem? hk)) e3⟩
  have g2 := g am' H locs (ws.take h.length) lsC (Nat.zero_le _) (fun k9 hk9 => by
    dsimp only at hk9
    exact hag2 k9 (by omega)) hH' hS (by dsimp only; rw [lc_cls hag hcl3]; exact hl) hg
  dsimp only at g2
  rw [cv_cls hag hcl2] at g2
  exact g2
