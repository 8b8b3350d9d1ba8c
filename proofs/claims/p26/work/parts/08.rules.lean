def okM (M : MI) : Bool := okw (.code (my M) (mb M) (mL M) (mr M)) && (okw (.initialized (my M).cls) && (decide ((my M).cls ≠ "java/lang/invoke/MethodHandle") && (decide ((my M).cls ≠ "java/lang/invoke/VarHandle") && plainName (my M).cls)))
def okD (y : MethodName) (n : Nat) : Bool := decide ((parseMethodDescriptor y.desc).map (fun d => d.parameters.length) = some n)
def okV (own : String) (idx : Nat) (M : MI) (n : Nat) : Bool := okw (.methodLink own idx (my M)) && (okw (.instanceMethod (my M)) && (okw (.selects (my M).cls (my M) (my M)) && okD (my M) n))
def okSt (own : String) (idx : Nat) (M : MI) (n : Nat) : Bool := okw (.methodLink own idx (my M)) && (okw (.static (my M)) && okD (my M) n)
def okIn (own : String) (idx : Nat) (M : MI) (n : Nat) : Bool := okw (.methodLink own idx (my M)) && (okw (.instanceMethod (my M)) && (decide ((my M).name = "<init>") && (decide (mr M = none) && okD (my M) n)))
def okSN (own : String) (idx : Nat) (M : MI) (n : Nat) : Bool := decide (Cond.methodLinkNest own idx (my M) "BargeBallast" ∈ nw) && (okw (.static (my M)) && okD (my M) n)
def okIN (own : String) (idx : Nat) (M : MI) (n : Nat) : Bool := decide (Cond.methodLinkNest own idx (my M) "BargeBallast" ∈ nw) && (okw (.instanceMethod (my M)) && (decide ((my M).name = "<init>") && (decide (mr M = none) && okD (my M) n)))
/-- the caller has room for the callee -/
def okR (M M' : MI) : Bool := Nat.ble (mF M' + 1) (mF M) && Nat.ble (8 + (mL M' + 11) + mW M') (mW M)
def catOk (rest : List Value) : Bool := Nat.ble ((rest.map fun v => v.category).sum) 8
def cat1 (vs : List Value) : Bool := vs.all fun v => Nat.beq v.category 1
theorem cat1_of {vs : List Value} (h : cat1 vs = true) : ∀ v ∈ vs, v.category = 1 := fun v hv => Nat.eq_of_beq_eq_true (List.all_eq_true.mp h v hv)
theorem okD_of {y : MethodName} {n : Nat} (h : okD y n = true) : ∀ sig, parseMethodDescriptor y.desc = some sig → n = sig.parameters.length := by
  intro sig hs
  unfold okD at h
  simp only [decide_eq_true_eq] at h
  rw [hs] at h
  exact (Option.some.inj h).symm
section CALL
variable {M M' : MI} {X X' : AX} {p : Program} {l : Launch} {e : Env} {R : Room} {s : State} {m : MethodId} {args : Array Value} {below : List Frame} {meth : Method} {c : Code} {D : va_G} {xa : Nat → Nat} {A : Nat → Prop} {am0 : Nat → Nat} {n0 : Nat} {Q : State → Prop}
theorem pcU_of (cx : CxOk M X p R s m args meth c D xa A) (hX : ∀ k n f, X' k = some (n, f) → X k = some (n, f)) {am : Nat → Nat} {h : AH} {H : Heap} {locs : List Loc} {ws : va_W} (hH : HOk D s A am xa h H ws) (hS : va_S A s.heap H locs) {U : State} (hU : U.heap = H) (hW : s.WarmedH U.vm) : PcU X' D xa am h ws H.size U := by
  obtain ⟨hx, hb, hml, hts, hnw, hov, hown, hini, hA, hK, hZ, hT, -⟩ := cx
  have sub : ∀ q, va_A ws H.size q → A q := by
    intro q hq
    rcases hq with ⟨k, e1, hk⟩ | hq
    · exact hH.2.1.2 k (q, e1) hk
    · exact hA q (Nat.le_trans hS.1 hq)
  refine ⟨by rw [hU], ?_, va_K.moved hW.alike hK, nw_moved hW hnw, ao_moved hW.alike hov, fun k hk => ?_, fun k n f hk => ?_⟩
  · rw [hU]; exact (hH.moved hW.alike).weak fun _ _ _ _ => trivial
  · rw [hU]; exact (va_Z.moved hW.alike ((hZ k hk).kept hS.2.1)).narrow sub
  · rw [hU]; exact (va_T.moved hW.alike ((hT k n f (hX k n f hk)).kept hS.2.1)).narrow sub
theorem call_W (cx : CxOk M X p R s m args meth c D xa A) {am : Nat → Nat} {h : AH} {H : Heap} {locs : List Loc} {ws : va_W} (hH : HOk D s A am xa h H ws) (hS : va_S A s.heap H locs) {cc cs mc ms pc : Nat} {lsC : Array Slot} {st0 rest : List Value} {Φ : Option Value → AH → Prop} {a : Array Value}
    (hr : va_Run p l e R s m args below meth c H locs cc cs mc ms (F0 m pc lsC st0) rest (QcO D xa am h ws H.size Φ a) (va_A ws H.size))
    (kk : ∀ (rv : Option Value) (h' : AH) (am' : Nat → Nat) (H' : Heap) (locs' : List Loc) (ws' : va_W), Φ rv h' → (∀ k, (k < h.length ∨ h'.length ≤ k) → am' k = am k) → h.length ≤ h'.length → HOk D s A am' xa h' H' ws' → va_S A s.heap H' locs' → W p l e R s m args below meth c H' locs' (cc + mc) (cs + ms) Q (F0 m (pc + 3) lsC ((rv.map (cv am' xa)).toList ++ rest))) :
    W p l e R s m args below meth c H locs cc cs Q (F0 m pc lsC st0) := by
  obtain ⟨hx, hb, hml, hts, hnw, hov, hown, hini, hA, hK, hZ, hT, -⟩ := cx
  have sub : ∀ q, va_A ws H.size q → A q := by
    intro q hq
    rcases hq with ⟨k, e1, hk⟩ | hq
    · exact hH.2.1.2 k (q, e1) hk
    · exact hA q (Nat.le_trans hS.1 hq)
  intro T hT0 X0
  obtain ⟨v, st₀, t, T', L, h0, X', hL, e1, e2, ⟨⟨rv, h', am', ws', ho, hΦ, ham, hle, hH'⟩, hz, hk⟩, st⟩ := hr T hT0 X0
  cases ho
  rw [h0] at hz hk
  have hal : s.vm.Alike t.vm := by rw [← e2]; exact X'.warmed.alike
  obtain ⟨t2, a1, b1⟩ := kk rv h' am' T'.heap (locs ++ L) ws' hΦ ham hle (by rw [e1]; exact (hH'.moved (Vm.Alike.symm hal)).weak (fun k q _ hq => sub _ hq))
    ⟨Nat.le_trans hS.1 (by rw [e1]; exact hz), fun q h1 h2 => by rw [e1, hk q (Nat.lt_of_lt_of_le h1 hS.1) (fun z => h2 (sub q z))]; exact hS.2.1 q h1 h2, fun q hq => by
      rcases List.mem_append.mp hq with h9 | h9
      · exact hS.2.2 q h9
      · exact sub _ (hL q h9)⟩ T' rfl X'
  exact ⟨t2, st t2 a1, b1⟩
theorem goodM (h : okM M' = true) : GoodIn gw (wm M') := by
  unfold okM at h
  simp only [Bool.and_eq_true] at h
  intro w hw
  rcases List.mem_cons.mp hw with rfl | hw
  · exact gw_good _ (okw_in h.1)
  · exact gw_good w hw
theorem callB_my (cx : CxOk M X p R s m args meth c D xa A) {idx n : Nat} (hM : okM M' = true) (hR : okR M M' = true) (hl : okw (.methodLink (mo M) idx (my M')) = true) (hd : okD (my M') n = true) :
    CallB R s args (mo M) idx (my M') (mb M') (mL M') (mr M') (wm M') (rmM M') (mC M') (mS M') n := by
  obtain ⟨hx, hb, hml, hts, hnw, hov, hown, hini, hA, hK, hZ, hT, f1, f2, f3, f4, hlk⟩ := cx
  have g := goodM hM
  unfold okM at hM
  unfold okR at hR
  simp only [Bool.and_eq_true, decide_eq_true_eq] at hM hR
  have r1 := Nat.le_of_ble_eq_true hR.1
  have r2 := Nat.le_of_ble_eq_true hR.2
  exact ⟨rfl, rfl, Nat.le_trans r1 f1, Nat.le_trans r2 f2, pay_in hts g, List.mem_cons_self, hts _ (okw_in hM.1), hts _ (okw_in hM.2.1), ⟨hM.2.2.1, hM.2.2.2.1⟩, okD_of hd, hts _ (okw_in hl)⟩
theorem callN_my (cx : CxOk M X p R s m args meth c D xa A) {idx n : Nat} (hM : okM M' = true) (hR : okR M M' = true) (hl : Cond.methodLinkNest (mo M) idx (my M') "BargeBallast" ∈ nw) (hd : okD (my M') n = true) :
    va_CN R s args (mo M) idx (my M') "BargeBallast" (mb M') (mL M') (mr M') (wm M') (rmM M') (mC M') (mS M') n := by
  obtain ⟨hx, hb, hml, hts, hnw, hov, hown, hini, hA, hK, hZ, hT, f1, f2, f3, f4, hlk⟩ := cx
  have g := goodM hM
  unfold okM at hM
  unfold okR at hR
  simp only [Bool.and_eq_true, decide_eq_true_eq] at hM hR
  have r1 := Nat.le_of_ble_eq_true hR.1
  have r2 := Nat.le_of_ble_eq_true hR.2
  exact ⟨⟨rfl, rfl, Nat.le_trans r1 f1, Nat.le_trans r2 f2, pay_in hts g, List.mem_cons_self⟩, hts _ (okw_in hM.1), hts _ (okw_in hM.2.1), ⟨hM.2.2.1, hM.2.2.2.1⟩, okD_of hd, va_Nw.use rfl (hnw _ hl)⟩
theorem cat_sum {am : Nat → Nat} {rest : List Value} (h : catOk rest = true) : ((rest.map (cv am xa)).map fun v => v.category).sum ≤ 8 := by
  rw [List.map_map]
  have e : ((fun v : Value => v.category) ∘ cv am xa) = fun v => v.category := by funext v; exact cv_cat am xa v
  rw [e]
  exact Nat.le_of_ble_eq_true h
/-- what a call's rule asks of the five kinds of call: 0 virtual, 1 static, 2 static across the nest, 3 a constructor, 4 a constructor across the nest -/
def okK (k : Nat) (own : String) (idx : Nat) (M' : MI) (n : Nat) : Bool := match k with
  | 0 => okV own idx M' n
  | 1 => okSt own idx M' n
  | 2 => okSN own idx M' n
  | 3 => okIn own idx M' n
  | _ => okIN own idx M' n
/-- the instruction of a kind of call -/
def insK (k : Nat) (idx : Nat) : Instr := match k with
  | 0 => .invokevirtual idx
  | 1 => .invokestatic idx
  | 2 => .invokestatic idx
  | _ => .invokespecial idx
/-- the stack ahead of a call, the receiver first among the arguments -/
def stK (k : Nat) (av rest : List Value) : List Value := av.reverse ++ rest
/-- a call's receiver is an object of the callee's class, or there is none -/
def rcv0 (M' : MI) (h : AH) (o : Nat) : Bool := match nth h o with
  | some (.inr (.inr (ci, _))) => match nth vwCl ci with
    | some (C, _, _) => decide (C = (my M').cls)
    | none => false
  | _ => false
def rcv (k : Nat) (M' : MI) (h : AH) (av : List Value) : Bool := match k with
  | 0 => match av with
    | .ref o :: _ => rcv0 M' h o
    | _ => false
  | 1 => true
  | 2 => true
  | _ => match av with
    | .ref o :: _ => Nat.ble (o + 1) 1000
    | _ => false
def nAr (k : Nat) (av : List Value) : Nat := match k with
  | 1 => av.length
  | 2 => av.length
  | _ => av.length - 1
set_option maxHeartbeats 2000000 in
theorem run_my (cx : CxOk M X p R s m args meth c D xa A) (hX : ∀ k n f, X' k = some (n, f) → X k = some (n, f)) {am : Nat → Nat} {h : AH} {H : Heap} {locs : List Loc} {ws : va_W} (hH : HOk D s A am xa h H ws) (hS : va_S A s.heap H locs) {cc cs pc k idx : Nat} {lsC : Array Slot} {av rest : List Value} {Φ : Option Value → AH → Prop}
    (hd : decode (mb M) pc = .ok (insK k idx, 3)) (hok : okK k (mo M) idx M' (nAr k av) = true) (hM : okM M' = true) (hR : okR M M' = true) (hC : Ct M' X' av h Φ) (hcat : cat1 av = true) (hlen : Nat.ble av.length (mL M') = true) (hrest : catOk rest = true) (hrcv : rcv k M' h av = true) (hsz : lsC.size = mL M) (hcc : cc + mC M' ≤ mC M) (hcs : cs + mS M' ≤ mS M) :
    ∃ a : Array Value, va_Run p l e R s m args below meth c H locs cc cs (mC M') (mS M') (F0 m pc lsC ((stK k av rest).map (cv am xa))) (rest.map (cv am xa)) (QcO D xa am h ws H.size Φ a) (va_A ws H.size) := by
  have hx := cx.1
  have hb := cx.2.1
  have hml := cx.2.2.1
  have hts := cx.2.2.2.1
  have hown := cx.2.2.2.2.2.2.1
  have hK := cx.2.2.2.2.2.2.2.2.2.1
  have f3 : mC M ≤ R.cells := cx.2.2.2.2.2.2.2.2.2.2.2.2.2.2.1
  have f4 : mS M ≤ R.slots := cx.2.2.2.2.2.2.2.2.2.2.2.2.2.2.2.1
  have hpl : plainName (my M').cls = true := by
    unfold okM at hM
    simp only [Bool.and_eq_true] at hM
    exact hM.2.2.2.2
  have met := met_of hC (cat1_of hcat) (Nat.le_of_ble_eq_true hlen) hpl l D xa am ws H.size
  have fix : CallFix p m c (mb M) (mL M) s args gw (mo M) := ⟨hx, hb, hml, hown, hts⟩
  have hroom := lv_room (m := m) (pc := pc) (ls := lsC) (rest := (stK k av rest).map (cv am xa)) (cat_sum (xa := xa) (am := am) hrest)
  have hf : cc + mC M' ≤ R.cells ∧ cs + mS M' ≤ R.slots := ⟨Nat.le_trans hcc f3, Nat.le_trans hcs f4⟩
  have pre : ∀ U : State, U.heap = H → s.WarmedH U.vm → va_Pc (av.map (cv am xa)) (PcU X' D xa am h ws H.size) (av.map (cv am xa)).toArray U := fun U hU hW => ⟨rfl, pcU_of cx hX hH hS hU hW⟩
  match k, hd, hok, hrcv with
  | 0, hd, hok, hrcv =>
    simp only [okK, okV, Bool.and_eq_true] at hok
    match av, hrcv with
    | .ref o :: t, hrcv =>
      have hrcv : rcv0 M' h o = true := hrcv
      unfold rcv0 at hrcv
      split at hrcv
      · next ci fs hnt =>
        split at hrcv
        · next C T N hcl =>
          simp only [decide_eq_true_eq] at hrcv
          obtain ⟨hk1, e1, he1, he2⟩ := hH.at hnt
          obtain rfl : e1 = _ := he2
          have rc := va_recv hK hH.1 (nth_some hcl) he1
          dsimp only at rc
          rw [hrcv] at rc
          refine ⟨_, va_runV (As := t.map (cv am xa)) (b := am o) fix met ⟨callB_my cx hM hR hok.1 hok.2.2.2, hts _ (okw_in hok.2.1), hts _ (okw_in hok.2.2.1)⟩ ⟨blind, rc, fun U hU hW => ?_⟩ rfl (by simp [nAr]) hsz ?_ hroom hd hf⟩
          · have := pre U hU hW
            rw [List.map_cons, cv_ref am hk1] at this
            exact ⟨by rw [List.map_cons, cv_ref am hk1], this.2⟩
          · show (stK 0 (.ref o :: t) rest).map (cv am xa) = _
            simp [stK, cv_ref am hk1]
        · cases hrcv
      · cases hrcv
  | 1, hd, hok, hrcv =>
    simp only [okK, okSt, Bool.and_eq_true] at hok
    exact ⟨_, va_runS (As := av.map (cv am xa)) fix met ⟨callB_my cx hM hR hok.1 hok.2.2, hts _ (okw_in hok.2.1)⟩ ⟨blind, pre⟩ rfl (by simp [nAr]) hsz (by simp [stK]) hroom hd hf⟩
  | 2, hd, hok, hrcv =>
    simp only [okK, okSN, Bool.and_eq_true, decide_eq_true_eq] at hok
    exact ⟨_, va_runSN (As := av.map (cv am xa)) fix met ⟨callN_my cx hM hR hok.1 hok.2.2, hts _ (okw_in hok.2.1), trivial⟩ ⟨blind, pre⟩ rfl (by simp [nAr]) hsz (by simp [stK]) hroom hd hf⟩
  | 3, hd, hok, hrcv =>
    simp only [okK, okIn, Bool.and_eq_true, decide_eq_true_eq] at hok
    unfold rcv at hrcv
    match av, hrcv with
    | .ref o :: t, hrcv =>
      have hk1 : o < 1000 := Nat.lt_of_succ_le (Nat.le_of_ble_eq_true hrcv)
      have cb := callB_my (X := X) cx hM hR hok.1 hok.2.2.2.2
      rw [hok.2.2.2.1] at cb
      refine ⟨_, va_runI (As := t.map (cv am xa)) (b := am o) fix met ⟨cb, hok.2.2.1, hts _ (okw_in hok.2.1)⟩ ⟨blind, fun U hU hW => ?_⟩ rfl (by simp [nAr]) hsz ?_ hroom hd hf⟩
      · have := pre U hU hW
        rw [List.map_cons, cv_ref am hk1] at this
        exact ⟨by rw [List.map_cons, cv_ref am hk1], this.2⟩
      · simp [stK, cv_ref am hk1]
  | k + 4, hd, hok, hrcv =>
    simp only [okK, okIN, Bool.and_eq_true, decide_eq_true_eq] at hok
    unfold rcv at hrcv
    match av, hrcv with
    | .ref o :: t, hrcv =>
      have hk1 : o < 1000 := Nat.lt_of_succ_le (Nat.le_of_ble_eq_true hrcv)
      have cb := callN_my (X := X) cx hM hR hok.1 hok.2.2.2.2
      rw [hok.2.2.2.1] at cb
      refine ⟨_, va_runIN (As := t.map (cv am xa)) (b := am o) fix met ⟨cb, hok.2.2.1, hts _ (okw_in hok.2.1)⟩ ⟨blind, fun U hU hW => ?_⟩ rfl (by simp [nAr]) hsz ?_ hroom hd hf⟩
      · have := pre U hU hW
        rw [List.map_cons, cv_ref am hk1] at this
        exact ⟨by rw [List.map_cons, cv_ref am hk1], this.2⟩
      · simp [stK, cv_ref am hk1]
end CALL
theorem insK_len (k idx : Nat) : ilen (insK k idx) = 3 := by
  match k with
  | 0 => rfl
  | 1 => rfl
  | 2 => rfl
  | k + 3 => rfl
/-- a call of a method that makes nothing -/
theorem Rch.call {M M' : MI} {X X' : AX} {Ψ : AS → Prop} {Φ : Option Value → AH → Prop} {pc idx len nx a b : Nat} {v : Int32} {ls : AL} {st av rest : List Value} {h : AH} {cc cs : Nat} (k : Nat)
    (hC : Ct M' X' av h Φ) (hm : mk M pc = (insK k idx, len, nx, v, a, b)) (hst : st = stK k av rest) (hok : okK k (mo M) idx M' (nAr k av) = true) (hM : okM M' = true) (hR : okR M M' = true) (hX : ∀ k n f, X' k = some (n, f) → X k = some (n, f))
    (hcat : cat1 av = true) (hlen : Nat.ble av.length (mL M') = true) (hrest : catOk rest = true) (hrcv : rcv k M' h av = true) (hz : mC M' = 0 ∧ mS M' = 0) (hcc : cc ≤ mC M ∧ cs ≤ mS M) (hN : ∀ rv h', Φ rv h' → h'.length = h.length)
    (kk : ∀ rv h', Φ rv h' → Rch M X (nx, ls, rv.toList ++ rest, h', cc, cs) Ψ) : Rch M X (pc, ls, st, h, cc, cs) Ψ := by
  intro ok p l e R s m args below meth c D xa A am0 n0 Q cx f am H locs ws lsC hn0 ham hH hS hl hg
  dsimp only at hn0 ham hH hl hg ⊢
  subst hst
  obtain ⟨d, hnx, -⟩ := ok_at ok hm (by rw [insK_len]; decide)
  rw [insK_len] at d hnx
  subst hnx
  obtain ⟨a9, hr⟩ := run_my (l := l) (e := e) (below := below) (cc := cc) (cs := cs) cx hX hH hS d hok hM hR hC hcat hlen hrest hrcv hl.1 (by omega) (by omega)
  refine call_W cx hH hS hr fun rv h' am' H' locs' ws' hΦ ham' hle hH' hS' => ?_
  have hlen' := hN rv h' hΦ
  have e1 : am' = am := by
    funext k9
    exact ham' k9 (by omega)
  subst e1
  rw [hz.1, hz.2]
  have g := kk rv h' hΦ ok p l e R s m args below meth c D xa A am0 n0 Q cx f am' H' locs' ws' lsC (by dsimp only; omega) (by dsimp only; rw [hlen']; exact ham) hH' hS' hl hg
  dsimp only at g
  rw [List.map_append] at g
  rw [Option.toList_map]
  exact g
def clV (n : Nat) (v : Value) : Bool := match v with
  | .ref k => Nat.ble (k + 1) n || Nat.ble 1000 k
  | _ => true
theorem cv_cl {am am' xa : Nat → Nat} {n : Nat} (h : ∀ k, k < n → am' k = am k) {v : Value} (hv : clV n v = true) : cv am' xa v = cv am xa v := by
  cases v with
  | ref k =>
    unfold clV at hv
    simp only [Bool.or_eq_true] at hv
    by_cases hk : k < 1000
    · rcases hv with z | z
      · have := Nat.le_of_ble_eq_true z
        simp [cv, hk, h k (by omega)]
      · exact absurd (Nat.le_of_ble_eq_true z) (Nat.not_le.mpr hk)
    · simp [cv, hk]
  | _ => rfl
theorem cv_cls {am am' xa : Nat → Nat} {n : Nat} (h : ∀ k, k < n → am' k = am k) {vs : List Value} (hv : vs.all (clV n) = true) : vs.map (cv am' xa) = vs.map (cv am xa) :=
  List.map_congr_left fun v hm => cv_cl h (List.all_eq_true.mp hv v hm)
theorem lc_cls {am am' xa : Nat → Nat} {n : Nat} (h : ∀ k, k < n → am' k = am k) {ls : AL} (hv : ls.all (fun q => clV n q.2) = true) : lc am' xa ls = lc am xa ls :=
  List.map_congr_left fun q hm => by rw [cv_cl h (List.all_eq_true.mp hv q hm)]
/-- a call of a method that makes cells -/
theorem Rch.callG {M M' : MI} {X X' : AX} {Ψ : AS → Prop} {Φ : Option Value → AH → Prop} {pc idx len nx a b : Nat} {v : Int32} {ls : AL} {st av rest : List Value} {h : AH} {cc cs cc' cs' : Nat} (k : Nat)
    (hC : Ct M' X' av h Φ) (hm : mk M pc = (insK k idx, len, nx, v, a, b)) (hst : st = stK k av rest) (hok : okK k (mo M) idx M' (nAr k av) = true) (hM : okM M' = true) (hR : okR M M' = true) (hX : ∀ k n f, X' k = some (n, f) → X k = some (n, f))
    (hcat : cat1 av = true) (hlen : Nat.ble av.length (mL M') = true) (hrest : catOk rest = true) (hrcv : rcv k M' h av = true) (hc' : cc' = cc + mC M') (hs' : cs' = cs + mS M') (hcc : cc' ≤ mC M) (hcs : cs' ≤ mS M) (hcl : rest.all (clV h.length) = true) (hcl2 : ls.all (fun q => clV h.length q.2) = true)
    (kk : ∀ rv h', Φ rv h' → Rch M X (nx, ls, rv.toList ++ rest, h', cc', cs') Ψ) : Rch M X (pc, ls, st, h, cc, cs) Ψ := by
  intro ok p l e R s m args below meth c D xa A am0 n0 Q cx f am H locs ws lsC hn0 ham hH hS hl hg
  dsimp only at hn0 ham hH hl hg ⊢
  subst hst
  subst hc'
  subst hs'
  obtain ⟨d, hnx, -⟩ := ok_at ok hm (by rw [insK_len]; decide)
  rw [insK_len] at d hnx
  subst hnx
  obtain ⟨a9, hr⟩ := run_my (l := l) (e := e) (below := below) (cc := cc) (cs := cs) cx hX hH hS d hok hM hR hC hcat hlen hrest hrcv hl.1 hcc hcs
  refine call_W cx hH hS hr fun rv h' am' H' locs' ws' hΦ ham' hle hH' hS' => ?_
  have hag : ∀ k, k < h.length → am' k = am k := fun k hk => ham' k (Or.inl hk)
  have g := kk rv h' hΦ ok p l e R s m args below meth c D xa A am0 n0 Q cx f am' H' locs' ws' lsC (by dsimp only; omega) (by
    dsimp only
    intro k hk
    rcases hk with hk | hk
    · rw [ham' k (Or.inl (by omega))]; exact ham k (Or.inl hk)
    · rw [ham' k (Or.inr hk)]; exact ham k (Or.inr (by omega))) hH' hS' (by dsimp only; rw [lc_cls hag hcl2]; exact hl) hg
  dsimp only at g
  rw [List.map_append, cv_cls hag hcl] at g
  rw [Option.toList_map]
  exact g
