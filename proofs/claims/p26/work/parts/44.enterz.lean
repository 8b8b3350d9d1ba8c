/-! ===== what the claim gives of the start: the static arrays, the classes, the script ===== -/
section LE
variable {args : Array Value} {s : State} {A : Nat → Prop}
theorem st_one {n : String} (L : List Int32) (hN : L.length < 2 ^ 31) (hl : (Cond.laysStatic "BargeBallast" n "[I").before args s = true) (hini : (Cond.initialized "BargeBallast").before args s = true) (ga : (Cond.arrayOf (.static "BargeBallast" n "[I") .int).before args s = true) (gl : (Cond.eq (.length (.static "BargeBallast" n "[I")) (.int (Int32.ofNat L.length))).before args s = true) (ge : ∀ j, j < L.length → (Cond.eq (.elem (.static "BargeBallast" n "[I") (.int (Int32.ofNat j))) (.int (L.getD j 0))).before args s = true) (hA : ∀ a : Nat, a < s.heap.size → ¬ A a) :
    ∃ t : Nat, va_Z "BargeBallast" n "[I" (.ref t) A s s.heap ∧ va_T .int t L.length (fun j => .int (L.getD j 0)) A s s.heap := by
  obtain ⟨t, ht, hT⟩ := va_Tof (f := fun j => .int (L.getD j 0)) (A := A) hN ga (va_eqt gl) (fun j hj => va_eqt (ge j hj)) hA
  exact ⟨t, va_Zof hl hini ht hA, hT⟩
theorem st_all (hts : ∀ w ∈ lw_tbl, w.before args s = true) (hgv : (Jvm.Cond.and given_1 narrow_1).before args s = true) (hA : ∀ a : Nat, a < s.heap.size → ¬ A a) : ∀ k : Nat, ∃ t : Nat, k < 7 → va_Z "BargeBallast" (stN k) "[I" (.ref t) A s s.heap ∧ ∀ n f, X0 k = some (n, f) → va_T .int t n (fun j => .int (f j)) A s s.heap := by
  have g := flat_of_before _ hgv
  have hini := hts (.initialized "BargeBallast") (by decide +kernel)
  intro k
  match k with
  | 0 =>
    obtain ⟨t, h1, h2⟩ := st_one (A := A) (n := "SECTION_ARM") [(-30 : Int32), -10, 10, 30] (by decide) (hts _ (by decide +kernel)) hini (g _ (by decide +kernel)) (g _ (by decide +kernel)) (fun j hj => g _ ((by decide +kernel : ∀ j, j < 4 → (Cond.eq (.elem (.static "BargeBallast" "SECTION_ARM" "[I") (.int (Int32.ofNat j))) (.int ([(-30 : Int32), -10, 10, 30].getD j 0))) ∈ flatC (Jvm.Cond.and given_1 narrow_1)) j hj)) hA
    exact ⟨t, fun _ => ⟨h1, fun n f h => by cases h; exact h2⟩⟩
  | 1 =>
    obtain ⟨t, h1, h2⟩ := st_one (A := A) (n := "SIDE_ARM") [(-4 : Int32), 4] (by decide) (hts _ (by decide +kernel)) hini (g _ (by decide +kernel)) (g _ (by decide +kernel)) (fun j hj => g _ ((by decide +kernel : ∀ j, j < 2 → (Cond.eq (.elem (.static "BargeBallast" "SIDE_ARM" "[I") (.int (Int32.ofNat j))) (.int ([(-4 : Int32), 4].getD j 0))) ∈ flatC (Jvm.Cond.and given_1 narrow_1)) j hj)) hA
    exact ⟨t, fun _ => ⟨h1, fun n f h => by cases h; exact h2⟩⟩
  | 2 =>
    obtain ⟨t, h1, h2⟩ := st_one (A := A) (n := "HOLD_ARM") [(-20 : Int32), 0, 20] (by decide) (hts _ (by decide +kernel)) hini (g _ (by decide +kernel)) (g _ (by decide +kernel)) (fun j hj => g _ ((by decide +kernel : ∀ j, j < 3 → (Cond.eq (.elem (.static "BargeBallast" "HOLD_ARM" "[I") (.int (Int32.ofNat j))) (.int ([(-20 : Int32), 0, 20].getD j 0))) ∈ flatC (Jvm.Cond.and given_1 narrow_1)) j hj)) hA
    exact ⟨t, fun _ => ⟨h1, fun n f h => by cases h; exact h2⟩⟩
  | 3 =>
    obtain ⟨t, h1, h2⟩ := st_one (A := A) (n := "FIRST_TANKS") [(3 : Int32), 12, 48, 192, 255] (by decide) (hts _ (by decide +kernel)) hini (g _ (by decide +kernel)) (g _ (by decide +kernel)) (fun j hj => g _ ((by decide +kernel : ∀ j, j < 5 → (Cond.eq (.elem (.static "BargeBallast" "FIRST_TANKS" "[I") (.int (Int32.ofNat j))) (.int ([(3 : Int32), 12, 48, 192, 255].getD j 0))) ∈ flatC (Jvm.Cond.and given_1 narrow_1)) j hj)) hA
    exact ⟨t, fun _ => ⟨h1, fun n f h => by cases h; exact h2⟩⟩
  | 4 =>
    obtain ⟨t, h1, h2⟩ := st_one (A := A) (n := "LEAST_SETTING") [(1 : Int32), 2, 50] (by decide) (hts _ (by decide +kernel)) hini (g _ (by decide +kernel)) (g _ (by decide +kernel)) (fun j hj => g _ ((by decide +kernel : ∀ j, j < 3 → (Cond.eq (.elem (.static "BargeBallast" "LEAST_SETTING" "[I") (.int (Int32.ofNat j))) (.int ([(1 : Int32), 2, 50].getD j 0))) ∈ flatC (Jvm.Cond.and given_1 narrow_1)) j hj)) hA
    exact ⟨t, fun _ => ⟨h1, fun n f h => by cases h; exact h2⟩⟩
  | 5 =>
    obtain ⟨t, h1, h2⟩ := st_one (A := A) (n := "FIRST_SETTING") [(4 : Int32), 12, 120] (by decide) (hts _ (by decide +kernel)) hini (g _ (by decide +kernel)) (g _ (by decide +kernel)) (fun j hj => g _ ((by decide +kernel : ∀ j, j < 3 → (Cond.eq (.elem (.static "BargeBallast" "FIRST_SETTING" "[I") (.int (Int32.ofNat j))) (.int ([(4 : Int32), 12, 120].getD j 0))) ∈ flatC (Jvm.Cond.and given_1 narrow_1)) j hj)) hA
    exact ⟨t, fun _ => ⟨h1, fun n f h => by cases h; exact h2⟩⟩
  | 6 =>
    obtain ⟨t, h1, h2⟩ := st_one (A := A) (n := "MOST_SETTING") [(9 : Int32), 99, 200] (by decide) (hts _ (by decide +kernel)) hini (g _ (by decide +kernel)) (g _ (by decide +kernel)) (fun j hj => g _ ((by decide +kernel : ∀ j, j < 3 → (Cond.eq (.elem (.static "BargeBallast" "MOST_SETTING" "[I") (.int (Int32.ofNat j))) (.int ([(9 : Int32), 99, 200].getD j 0))) ∈ flatC (Jvm.Cond.and given_1 narrow_1)) j hj)) hA
    exact ⟨t, fun _ => ⟨h1, fun n f h => by cases h; exact h2⟩⟩
  | k + 7 => exact ⟨0, fun h => absurd h (by omega)⟩
theorem kn_all (hts : ∀ w ∈ lw_tbl, w.before args s = true) : ∃ D : va_G, va_K D vwCl [] s := by
  have hin : ∀ ci C T N, vwCl[ci]? = some (C, T, N) → ∀ w ∈ u_ws C T N, w ∈ lw_tbl := fun ci C T N h w hw => (List.mem_filter.mp ((cl_in ci C T N h).1 w hw)).1
  obtain ⟨c0, i0, k0⟩ := u_known (C := RX0) (T := TX0) (N := 3) (n := 3) hts (hin 0 _ _ _ rfl) (hts (.instantiable RX0 3) (by decide +kernel))
  obtain ⟨c1, i1, k1⟩ := u_known (C := RX3) (T := TX3) (N := 6) (n := 6) hts (hin 1 _ _ _ rfl) (hts (.instantiable RX3 6) (by decide +kernel))
  obtain ⟨c2, i2, k2⟩ := u_known (C := RX6) (T := TX6) (N := 1) (n := 1) hts (hin 2 _ _ _ rfl) (hts (.instantiable RX6 1) (by decide +kernel))
  obtain ⟨c3, i3, k3⟩ := u_known (C := RX7) (T := TX7) (N := 3) (n := 3) hts (hin 3 _ _ _ rfl) (hts (.instantiable RX7 3) (by decide +kernel))
  obtain ⟨c4, i4, k4⟩ := u_known (C := RX8) (T := TX8) (N := 5) (n := 5) hts (hin 4 _ _ _ rfl) (hts (.instantiable RX8 5) (by decide +kernel))
  refine ⟨(fun k => match k with
    | 0 => c0
    | 1 => c1
    | 2 => c2
    | 3 => c3
    | _ => c4, fun k => match k with
    | 0 => i0
    | 1 => i1
    | 2 => i2
    | 3 => i3
    | _ => i4), ?_, fun k q h => by simp at h⟩
  intro k q hq
  match k, hq with
  | 0, hq => cases hq; exact k0
  | 1, hq => cases hq; exact k1
  | 2, hq => cases hq; exact k2
  | 3, hq => cases hq; exact k3
  | 4, hq => cases hq; exact k4
  | k + 5, hq => simp [vwCl] at hq
theorem nw_all (hts : ∀ w ∈ lw_tbl, w.before args s = true) : ∀ w ∈ nw, va_Nw w s := by
  have key : ∀ w ∈ nw, w ∈ lw_tbl ∧ w.onTables = true := by decide +kernel
  exact fun w hw => va_Nw.of (key w hw).2 (hts w (key w hw).1)
theorem ao_all (hts : ∀ w ∈ lw_tbl, w.before args s = true) : (Cond.arrayOver (.array .int)).before #[] s = true := by
  have h := hts (.arrayOver (.array .int)) (by decide +kernel)
  unfold Cond.before Cond.holds at h ⊢
  simp only [Cond.value] at h ⊢
  exact h
theorem gw_all (hts : ∀ w ∈ lw_tbl, w.before args s = true) : ∀ w ∈ gw, w.before args s = true := fun w hw => hts w (List.mem_filter.mp hw).1
end LE
