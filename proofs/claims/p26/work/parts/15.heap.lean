/-! ===== the heap of the law: the barge at 0; s, L: of the reference that whole has, here nothing ===== -/
abbrev FA : Type := Nat → Int32
/-- the barge beside its cells: rows, next, length; snapshot, hasSnapshot; signs, length, kinds, bys, orders, expected -/
abbrev KS : Type := (Nat → FA) × Int32 × Int32 × FA × Int32 × FA × Int32 × FA × FA × Int32 × Int32
/-- the reference beside its row: before, known, kept, isKept, text, typed, at, isWrong, kind, by -/
abbrev LS9 : Type := FA × Int32 × FA × Int32 × FA × Int32 × Int32 × Int32 × Int32 × Int32
def HP (c : FA) (K : KS) (_ : FA) (_ : LS9) (e : AH) : AH :=
  .inr (.inr (4, [.ref 1, .ref 3, .ref 9, .int K.2.2.2.2.1, .ref 10])) ::
  .inr (.inr (2, [.ref 2])) ::
  .inl (.int, 162, c) ::
  .inr (.inr (0, [.ref 4, .int K.2.1, .int K.2.2.1])) ::
  .inr (.inl (4, fun i => 5 + i)) ::
  .inl (.int, 162, K.1 0) ::
  .inl (.int, 162, K.1 1) ::
  .inl (.int, 162, K.1 2) ::
  .inl (.int, 162, K.1 3) ::
  .inl (.int, 162, K.2.2.2.1) ::
  .inr (.inr (1, [.ref 11, .int K.2.2.2.2.2.2.1, .ref 12, .ref 13, .int K.2.2.2.2.2.2.2.2.2.1, .int K.2.2.2.2.2.2.2.2.2.2])) ::
  .inl (.char, 60, K.2.2.2.2.2.1) ::
  .inl (.int, 60, K.2.2.2.2.2.2.2.1) ::
  .inl (.int, 60, K.2.2.2.2.2.2.2.2.1) ::
  e
theorem HP_len (c : FA) (K : KS) (s : FA) (L : LS9) (e : AH) : (HP c K s L e).length = e.length + 14 := rfl
/-- the static arrays -/
def X0 : AX := fun k => match k with
  | 0 => some (4, fun j => [(-30 : Int32), -10, 10, 30].getD j 0)
  | 1 => some (2, fun j => [(-4 : Int32), 4].getD j 0)
  | 2 => some (3, fun j => [(-20 : Int32), 0, 20].getD j 0)
  | 3 => some (5, fun j => [(3 : Int32), 12, 48, 192, 255].getD j 0)
  | 4 => some (3, fun j => [(1 : Int32), 2, 50].getD j 0)
  | 5 => some (3, fun j => [(4 : Int32), 12, 120].getD j 0)
  | 6 => some (3, fun j => [(9 : Int32), 99, 200].getD j 0)
  | _ => none
theorem Rch.for {M : MI} {X : AX} {Ψ : AS → Prop} (N : Nat) (st : Nat → AS) (step : ∀ n, n < N → Rch M X (st n) (fun τ => τ = st (n + 1))) (k : Rch M X (st N) Ψ) : ∀ n, n ≤ N → Rch M X (st n) Ψ := by
  intro n hn
  obtain ⟨d, hd⟩ : ∃ d, N = n + d := ⟨N - n, by omega⟩
  induction d generalizing n with
  | zero => rw [show n = N by omega]; exact k
  | succ d ih => exact (step n (by omega)).tr fun τ hτ => by rw [hτ]; exact ih (n + 1) (by omega) (by omega)
theorem Rch.ri {M : MI} {X : AX} {Φ : Option Value → AH → Prop} {pc len nx a b : Nat} {v x : Int32} {ls : AL} {h : AH} {cc cs : Nat} {ty : FieldType} (hm : mk M pc = (.ireturn, len, nx, v, a, b)) (hr : mr M = some ty) (hn : narrow ty (.int x) = .int x) (hcc : cc ≤ mC M) (hcs : cs ≤ mS M) (hΦ : Φ (some (.int x)) h) : Rch M X (pc, ls, [.int x], h, cc, cs) (RetP M Φ) :=
  Rch.rf ⟨hcc, hcs, _, Or.inl ⟨by show (mk M pc).1 = _; rw [hm], x, ty, rfl, rfl, hr, hn⟩, hΦ⟩
theorem Rch.rv {M : MI} {X : AX} {Φ : Option Value → AH → Prop} {pc len nx a b : Nat} {v : Int32} {ls : AL} {h : AH} {cc cs : Nat} (hm : mk M pc = (.return_, len, nx, v, a, b)) (hr : mr M = none) (hcc : cc ≤ mC M) (hcs : cs ≤ mS M) (hΦ : Φ none h) : Rch M X (pc, ls, [], h, cc, cs) (RetP M Φ) :=
  Rch.rf ⟨hcc, hcs, _, Or.inr ⟨by show (mk M pc).1 = _; rw [hm], rfl, rfl, hr⟩, hΦ⟩
theorem nj_lt {a b : Nat} (ha : a < 2 ^ 31) (hb : b < 2 ^ 31) : nI a < nI b ↔ a < b := by
  rw [Int32.lt_iff_toInt_lt, nI_toInt ha, nI_toInt hb]; omega
theorem nj_le {a b : Nat} (ha : a < 2 ^ 31) (hb : b < 2 ^ 31) : nI a ≤ nI b ↔ a ≤ b := by
  rw [Int32.le_iff_toInt_le, nI_toInt ha, nI_toInt hb]; omega
theorem nj_inj {a b : Nat} (ha : a < 2 ^ 31) (hb : b < 2 ^ 31) : nI a = nI b ↔ a = b := by
  rw [← Int32.toInt_inj, nI_toInt ha, nI_toInt hb]; omega
/-- the instructions that 'go' passes over -/
def easy (i : Instr) : Bool := match i with
  | .iconst _ => true
  | .bipush _ => true
  | .sipush _ => true
  | .iload _ => true
  | .iload_n _ => true
  | .aload _ => true
  | .aload_n _ => true
  | .istore _ => true
  | .istore_n _ => true
  | .astore_n _ => true
  | .iinc _ _ => true
  | .iadd => true
  | .isub => true
  | .imul => true
  | .iand => true
  | .ior => true
  | .ishl => true
  | .ishr => true
  | .ineg => true
  | .irem => true
  | .i2c => true
  | .dup => true
  | .dup2 => true
  | .goto _ => true
  | .getfield _ => true
  | .putfield _ => true
  | .getstatic _ => true
  | .ifnull _ => true
  | .ifnonnull _ => true
  | .arraylength => true
  | _ => false
def stepU (M : MI) (X : AX) : Nat → AS → Option AS
  | 0, σ => some σ
  | n + 1, σ => match easy (mk M σ.1).1 with
    | false => some σ
    | true => match step1 M X σ with
      | some τ => stepU M X n τ
      | none => none
theorem Rch.goN {M : MI} {X : AX} {Ψ : AS → Prop} (n : Nat) : ∀ {σ τ : AS}, stepU M X n σ = some τ → Rch M X τ Ψ → Rch M X σ Ψ := by
  induction n with
  | zero => intro σ τ h k; cases h; exact k
  | succ n ih =>
    intro σ τ h k
    unfold stepU at h
    split at h
    · cases h; exact k
    · split at h
      · next ρ hρ => exact Rch.st1 hρ (ih h k)
      · cases h
theorem Rch.go {M : MI} {X : AX} {Ψ : AS → Prop} {σ τ : AS} (h : stepU M X 40 σ = some τ) (k : Rch M X τ Ψ) : Rch M X σ Ψ := Rch.goN 40 h k
theorem Rch.eq {M : MI} {X : AX} {Ψ : AS → Prop} {σ τ : AS} (h : τ = σ) (k : Rch M X τ Ψ) : Rch M X σ Ψ := h ▸ k
theorem ij_add {a b : Int32} {x y : Nat} (h1 : a = nI x) (h2 : b = nI y) : a + b = nI (x + y) := by rw [h1, h2, nI_add]
theorem nI_mul (a b : Nat) : nI a * nI b = nI (a * b) := (Int32.ofNat_mul a b).symm
theorem ij_mul {a b : Int32} {x y : Nat} (h1 : a = nI x) (h2 : b = nI y) : a * b = nI (x * y) := by rw [h1, h2, nI_mul]
/-- a loop's counter: within, and at its end -/
theorem lo_in {n N : Nat} (h : n < N) (hN : N < 2 ^ 31) : ¬ nI N ≤ nI n := nI_ge h hN
theorem lo_out {N : Nat} (hN : N < 2 ^ 31) : nI N ≤ nI N := nI_le (Nat.le_refl N) hN

