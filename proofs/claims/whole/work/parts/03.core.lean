/-! ===== the small machine: a state is (pc, locals, stack, heap, cells made, slots made); objects are named by their place in the heap, what stands outside by 1000 + k ===== -/
abbrev Ins : Type := Instr × Nat × Nat × Int32 × Nat × Nat
def nopI : Ins := (.nop, 0, 0, 0, 0, 0)
/-- a method: its name, bytes, locals, what it returns, (frames, locals, cells, slots) that it needs, its length, its instructions -/
abbrev MI : Type := MethodName × ByteArray × Nat × Option FieldType × (Nat × Nat × Nat × Nat) × Nat × (Nat → Ins)
def my (M : MI) : MethodName := M.1
def mb (M : MI) : ByteArray := M.2.1
def mL (M : MI) : Nat := M.2.2.1
def mr (M : MI) : Option FieldType := M.2.2.2.1
def mF (M : MI) : Nat := M.2.2.2.2.1.1
def mW (M : MI) : Nat := M.2.2.2.2.1.2.1
def mC (M : MI) : Nat := M.2.2.2.2.1.2.2.1
def mS (M : MI) : Nat := M.2.2.2.2.1.2.2.2
def mN (M : MI) : Nat := M.2.2.2.2.2.1
def mk (M : MI) : Nat → Ins := M.2.2.2.2.2.2
def mo (M : MI) : String := (my M).cls
abbrev AO : Type := (FieldType × Nat × (Nat → Int32)) ⊕ (Nat × (Nat → Nat)) ⊕ (Nat × List Value)
abbrev AH : Type := List AO
abbrev AL : Type := List (Nat × Value)
abbrev AS : Type := Nat × AL × List Value × AH × Nat × Nat
abbrev AX : Type := Nat → Option (Nat × (Nat → Int32))
def nth {α : Type} : List α → Nat → Option α
  | [], _ => none
  | x :: _, 0 => some x
  | _ :: t, n + 1 => nth t n
def setN {α : Type} : List α → Nat → α → List α
  | [], _, _ => []
  | _ :: t, 0, v => v :: t
  | x :: t, n + 1, v => x :: setN t n v
theorem nth_eq {α : Type} : ∀ (l : List α) (n : Nat), nth l n = l[n]?
  | [], n => by simp [nth]
  | x :: t, 0 => by simp [nth]
  | x :: t, n + 1 => by simp [nth, nth_eq t n]
theorem setN_eq {α : Type} : ∀ (l : List α) (n : Nat) (v : α), setN l n v = l.set n v
  | [], n, v => by simp [setN]
  | x :: t, 0, v => by simp [setN]
  | x :: t, n + 1, v => by simp [setN, setN_eq t n v]
def getL : AL → Nat → Option Value
  | [], _ => none
  | (j, w) :: t, i => cond (Nat.beq j i) (some w) (getL t i)
def setL : AL → Nat → Value → AL
  | [], i, v => [(i, v)]
  | (j, w) :: t, i, v => cond (Nat.beq j i) ((j, v) :: t) ((j, w) :: setL t i v)
/-- the tables' words that stay true behind a call; those of a nest, which are carried beside them -/
def gw : List Cond := lw_tbl.filter goodWord
def nw : List Cond := [.fieldLinkNest "BargeBallast$State" 15 "BargeBallast" "FIRST_TANKS" "[I" "BargeBallast", .fieldLinkNest "BargeBallast$State" 18 "BargeBallast" "FIRST_SETTING" "[I" "BargeBallast", .fieldLinkNest "BargeBallast$State" 45 "BargeBallast" "SIDE_ARM" "[I" "BargeBallast", .fieldLinkNest "BargeBallast$State" 35 "BargeBallast" "SECTION_ARM" "[I" "BargeBallast", .fieldLinkNest "BargeBallast$State" 38 "BargeBallast" "HOLD_ARM" "[I" "BargeBallast", .fieldLinkNest "BargeBallast$Uprighting" 32 "BargeBallast" "SIDE_ARM" "[I" "BargeBallast", .methodLinkNest "BargeBallast" 18 yX0_init "BargeBallast", .methodLinkNest "BargeBallast" 29 yX3_init "BargeBallast", .methodLinkNest "BargeBallast$OrderText" 57 yX8_isValve "BargeBallast", .methodLinkNest "BargeBallast$OrderText" 26 yX8_isWithin "BargeBallast", .methodLinkNest "BargeBallast$OrderRow" 36 yX8_isValve "BargeBallast"]
def okw (w : Cond) : Bool := decide (w ∈ lw_tbl) && goodWord w
theorem okw_in {w : Cond} (h : okw w = true) : w ∈ gw := by
  unfold okw at h
  simp only [Bool.and_eq_true, decide_eq_true_eq] at h
  exact List.mem_filter.mpr ⟨h.1, h.2⟩
theorem okw_all {ws : List Cond} (h : ws.all okw = true) : ∀ w ∈ ws, w ∈ gw := fun w hw => okw_in (List.all_eq_true.mp h w hw)
theorem gw_good : GoodIn gw gw := fun w h => ⟨h, good_of_word (List.mem_filter.mp h).2⟩
/-- the names of the static arrays that stand outside -/
def stN (k : Nat) : String := match k with
  | 0 => "SECTION_ARM"
  | 1 => "SIDE_ARM"
  | 2 => "HOLD_ARM"
  | 3 => "FIRST_TANKS"
  | 4 => "LEAST_SETTING"
  | 5 => "FIRST_SETTING"
  | _ => "MOST_SETTING"
def fty (ci : Nat) : Nat → FieldType := match ci with
  | 0 => tyX0
  | 1 => tyX3
  | 2 => tyX6
  | 3 => tyX7
  | 4 => tyX8
  | _ => tyX9
def okF (own : String) (idx ci k : Nat) : Bool := match vwCl[ci]? with
  | some (C, T, N) => decide (k < N) && decide ((T k).1 = C) && okw (Cond.fieldLink own idx C (T k).2.1 (T k).2.2.1)
  | none => false
def okS (own : String) (idx k : Nat) : Bool := decide (k < 7) && (okw (Cond.fieldLink own idx "BargeBallast" (stN k) "[I") || decide (Cond.fieldLinkNest own idx "BargeBallast" (stN k) "[I" "BargeBallast" ∈ nw))
def okN (own : String) (idx ci : Nat) : Bool := match vwCl[ci]? with
  | some (C, _, N) => okw (Cond.classLink own idx C) && okw (Cond.instantiable C N) && okw (Cond.initialized C)
  | none => false
/-- how long the instructions are -/
def ilen (i : Instr) : Nat := match i with
  | .iconst _ => 1
  | .iload_n _ => 1
  | .aload_n _ => 1
  | .istore_n _ => 1
  | .astore_n _ => 1
  | .iadd => 1
  | .isub => 1
  | .imul => 1
  | .iand => 1
  | .ior => 1
  | .ishl => 1
  | .ishr => 1
  | .idiv => 1
  | .irem => 1
  | .ineg => 1
  | .i2c => 1
  | .dup => 1
  | .dup2 => 1
  | .arraylength => 1
  | .iaload => 1
  | .caload => 1
  | .aaload => 1
  | .iastore => 1
  | .castore => 1
  | .ireturn => 1
  | .return_ => 1
  | .bipush _ => 2
  | .iload _ => 2
  | .aload _ => 2
  | .istore _ => 2
  | .newarray _ => 2
  | .sipush _ => 3
  | .iinc _ _ => 3
  | .goto _ => 3
  | .if_icmp _ _ => 3
  | .ifCond _ _ => 3
  | .ifnull _ => 3
  | .ifnonnull _ => 3
  | .getfield _ => 3
  | .putfield _ => 3
  | .getstatic _ => 3
  | .new _ => 3
  | .invokevirtual _ => 3
  | .invokestatic _ => 3
  | .invokespecial _ => 3
  | _ => 0
/-- what an instruction's row of the table must say -/
def okI (own : String) (pc : Nat) (q : Ins) : Bool := decide (q.2.2.1 = pc + q.2.1) && ((decide (ilen q.1 = q.2.1) || decide (ilen q.1 = 0)) && match q.1 with
  | .iconst n => decide (q.2.2.2.1 = Int32.ofInt n)
  | .bipush n => decide (q.2.2.2.1 = (Int8.ofInt n).toInt32)
  | .sipush n => decide (q.2.2.2.1 = (Int16.ofInt n).toInt32)
  | .iinc k n => decide (q.2.2.2.1 = Int32.ofInt n) && decide (k = q.2.2.2.2.1)
  | .iload k => decide (k = q.2.2.2.2.1)
  | .aload k => decide (k = q.2.2.2.2.1)
  | .istore k => decide (k = q.2.2.2.2.1)
  | .iload_n k => decide (k.val = q.2.2.2.2.1)
  | .aload_n k => decide (k.val = q.2.2.2.2.1)
  | .istore_n k => decide (k.val = q.2.2.2.2.1)
  | .astore_n k => decide (k.val = q.2.2.2.2.1)
  | .goto off => decide ((pc : Int) + off = (q.2.2.2.2.1 : Int))
  | .if_icmp _ off => decide ((pc : Int) + off = (q.2.2.2.2.1 : Int))
  | .ifCond _ off => decide ((pc : Int) + off = (q.2.2.2.2.1 : Int))
  | .ifnull off => decide ((pc : Int) + off = (q.2.2.2.2.1 : Int))
  | .ifnonnull off => decide ((pc : Int) + off = (q.2.2.2.2.1 : Int))
  | .getfield idx => okF own idx q.2.2.2.2.1 q.2.2.2.2.2
  | .putfield idx => okF own idx q.2.2.2.2.1 q.2.2.2.2.2
  | .getstatic idx => okS own idx q.2.2.2.2.1
  | .new idx => okN own idx q.2.2.2.2.1
  | _ => true)
def MOk (M : MI) : Prop := (∀ pc, pc < mN M → mk M pc = nopI ∨ (decode (mb M) pc = .ok ((mk M pc).1, (mk M pc).2.1) ∧ okI (mo M) pc (mk M pc) = true)) ∧ ∀ pc, mN M ≤ pc → mk M pc = nopI
def inB (i : Int32) (n : Nat) : Bool := !(decide (i < 0)) && Nat.ble (i.toNatClampNeg + 1) n
theorem inB_vp {i : Int32} {n : Nat} (h : inB i n = true) : vp_in i n := by
  unfold inB at h
  simp only [Bool.and_eq_true, Bool.not_eq_true', decide_eq_false_iff_not] at h
  have := Nat.le_of_ble_eq_true h.2
  intro q
  rcases q with q | q
  · exact h.1 q
  · omega
def cmpB (c : Jvm.ClassFile.Cond) (x y : Int32) : Bool := match c with
  | .eq => decide (x = y)
  | .ne => !decide (x = y)
  | .lt => decide (x < y)
  | .ge => decide (y ≤ x)
  | .gt => decide (y < x)
  | .le => decide (x ≤ y)
/-- what may be laid into a field of this type -/
def putOk (ty : FieldType) (v : Value) : Bool := match ty, v with
  | .int, .int _ => true
  | .boolean, .int x => decide (x = 0) || decide (x = 1)
  | .object _, .ref _ => true
  | .array _, .ref _ => true
  | _, _ => false
def finOk (M : MI) (ci k : Nat) : Bool := match nth vwCl ci with
  | some (_, T, _) => !(T k).2.2.2 || (decide ((my M).name = "<init>") && decide ((T k).1 = mo M))
  | none => false
/-- one step of an instruction that calls nothing and makes nothing -/
def step1 (M : MI) (X : AX) (σ : AS) : Option AS := match σ with
  | (pc, ls, st, h, cc, cs) => match mk M pc with
    | (i, _, nx, v, a, b) => match i with
      | .iconst _ => some (nx, ls, .int v :: st, h, cc, cs)
      | .bipush _ => some (nx, ls, .int v :: st, h, cc, cs)
      | .sipush _ => some (nx, ls, .int v :: st, h, cc, cs)
      | .iload _ => match getL ls a with
        | some (.int x) => some (nx, ls, .int x :: st, h, cc, cs)
        | _ => none
      | .iload_n _ => match getL ls a with
        | some (.int x) => some (nx, ls, .int x :: st, h, cc, cs)
        | _ => none
      | .aload _ => match getL ls a with
        | some (.ref x) => some (nx, ls, .ref x :: st, h, cc, cs)
        | _ => none
      | .aload_n _ => match getL ls a with
        | some (.ref x) => some (nx, ls, .ref x :: st, h, cc, cs)
        | _ => none
      | .istore _ => match st with
        | .int x :: r => cond (Nat.ble (a + 1) (mL M)) (some (nx, setL ls a (.int x), r, h, cc, cs)) none
        | _ => none
      | .istore_n _ => match st with
        | .int x :: r => cond (Nat.ble (a + 1) (mL M)) (some (nx, setL ls a (.int x), r, h, cc, cs)) none
        | _ => none
      | .astore_n _ => match st with
        | .ref x :: r => cond (Nat.ble (a + 1) (mL M)) (some (nx, setL ls a (.ref x), r, h, cc, cs)) none
        | _ => none
      | .iinc _ _ => match getL ls a with
        | some (.int x) => cond (Nat.ble (a + 1) (mL M)) (some (nx, setL ls a (.int (x + v)), st, h, cc, cs)) none
        | _ => none
      | .iadd => match st with
        | .int y :: .int x :: r => some (nx, ls, .int (x + y) :: r, h, cc, cs)
        | _ => none
      | .isub => match st with
        | .int y :: .int x :: r => some (nx, ls, .int (x - y) :: r, h, cc, cs)
        | _ => none
      | .imul => match st with
        | .int y :: .int x :: r => some (nx, ls, .int (x * y) :: r, h, cc, cs)
        | _ => none
      | .iand => match st with
        | .int y :: .int x :: r => some (nx, ls, .int (x &&& y) :: r, h, cc, cs)
        | _ => none
      | .ior => match st with
        | .int y :: .int x :: r => some (nx, ls, .int (x ||| y) :: r, h, cc, cs)
        | _ => none
      | .ishl => match st with
        | .int y :: .int x :: r => some (nx, ls, .int (x <<< (y &&& 31)) :: r, h, cc, cs)
        | _ => none
      | .ishr => match st with
        | .int y :: .int x :: r => some (nx, ls, .int (x >>> (y &&& 31)) :: r, h, cc, cs)
        | _ => none
      | .idiv => match st with
        | .int y :: .int x :: r => cond (decide (y = 0)) none (some (nx, ls, .int (x / y) :: r, h, cc, cs))
        | _ => none
      | .irem => match st with
        | .int y :: .int x :: r => cond (decide (y = 0)) none (some (nx, ls, .int (x - x / y * y) :: r, h, cc, cs))
        | _ => none
      | .ineg => match st with
        | .int x :: r => some (nx, ls, .int (-x) :: r, h, cc, cs)
        | _ => none
      | .i2c => match st with
        | .int x :: r => some (nx, ls, .int ((x.toUInt32 % 65536).toInt32) :: r, h, cc, cs)
        | _ => none
      | .dup => match st with
        | .int x :: r => some (nx, ls, .int x :: .int x :: r, h, cc, cs)
        | .ref x :: r => some (nx, ls, .ref x :: .ref x :: r, h, cc, cs)
        | _ => none
      | .dup2 => match st with
        | .int x :: .ref y :: r => some (nx, ls, .int x :: .ref y :: .int x :: .ref y :: r, h, cc, cs)
        | _ => none
      | .goto _ => some (a, ls, st, h, cc, cs)
      | .if_icmp c _ => match st with
        | .int y :: .int x :: r => cond (cmpB c x y) (some (a, ls, r, h, cc, cs)) (some (nx, ls, r, h, cc, cs))
        | _ => none
      | .ifCond c _ => match st with
        | .int x :: r => cond (cmpB c x 0) (some (a, ls, r, h, cc, cs)) (some (nx, ls, r, h, cc, cs))
        | _ => none
      | .ifnull _ => match st with
        | .ref _ :: r => some (nx, ls, r, h, cc, cs)
        | _ => none
      | .ifnonnull _ => match st with
        | .ref _ :: r => some (a, ls, r, h, cc, cs)
        | _ => none
      | .getfield _ => match st with
        | .ref o :: r => match nth h o with
          | some (.inr (.inr (ci, fs))) => cond (Nat.beq ci a) (match nth fs b with
            | some w => some (nx, ls, w :: r, h, cc, cs)
            | none => none) none
          | _ => none
        | _ => none
      | .putfield _ => match st with
        | w :: .ref o :: r => match nth h o with
          | some (.inr (.inr (ci, fs))) => cond (Nat.beq ci a && (putOk (fty a b) w && (finOk M a b && Nat.ble (b + 1) fs.length))) (some (nx, ls, r, setN h o (.inr (.inr (ci, setN fs b w))), cc, cs)) none
          | _ => none
        | _ => none
      | .getstatic _ => some (nx, ls, .ref (1000 + a) :: st, h, cc, cs)
      | .arraylength => match st with
        | .ref o :: r => cond (Nat.ble 1000 o) (match X (o - 1000) with
          | some (n, _) => some (nx, ls, .int (Int32.ofNat n) :: r, h, cc, cs)
          | none => none) (match nth h o with
          | some (.inl (_, n, _)) => some (nx, ls, .int (Int32.ofNat n) :: r, h, cc, cs)
          | _ => none)
        | _ => none
      | .iaload => match st with
        | .int j :: .ref o :: r => cond (Nat.ble 1000 o) (match X (o - 1000) with
          | some (n, f) => cond (inB j n) (some (nx, ls, .int (f j.toNatClampNeg) :: r, h, cc, cs)) none
          | none => none) (match nth h o with
          | some (.inl (.int, n, f)) => cond (inB j n) (some (nx, ls, .int (f j.toNatClampNeg) :: r, h, cc, cs)) none
          | _ => none)
        | _ => none
      | .caload => match st with
        | .int j :: .ref o :: r => match nth h o with
          | some (.inl (.char, n, f)) => cond (inB j n) (some (nx, ls, .int (f j.toNatClampNeg) :: r, h, cc, cs)) none
          | _ => none
        | _ => none
      | .aaload => match st with
        | .int j :: .ref o :: r => match nth h o with
          | some (.inr (.inl (n, g))) => cond (inB j n && Nat.ble (g j.toNatClampNeg + 1) 1000) (some (nx, ls, .ref (g j.toNatClampNeg) :: r, h, cc, cs)) none
          | _ => none
        | _ => none
      | .iastore => match st with
        | .int x :: .int j :: .ref o :: r => match nth h o with
          | some (.inl (.int, n, f)) => cond (inB j n) (some (nx, ls, r, setN h o (.inl (.int, n, upd f j.toNatClampNeg x)), cc, cs)) none
          | _ => none
        | _ => none
      | .castore => match st with
        | .int x :: .int j :: .ref o :: r => match nth h o with
          | some (.inl (.char, n, f)) => cond (inB j n) (some (nx, ls, r, setN h o (.inl (.char, n, upd f j.toNatClampNeg (vp_nar .char x))), cc, cs)) none
          | _ => none
        | _ => none
      | _ => none
def stepN (M : MI) (X : AX) : Nat → AS → Option AS
  | 0, σ => some σ
  | n + 1, σ => match step1 M X σ with
    | some τ => stepN M X n τ
    | none => none
