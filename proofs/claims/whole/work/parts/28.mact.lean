/-! ===== the reference's acts ===== -/
abbrev F4 : Type := Int32 × Int32 × Int32 × Int32
/-- n cells of src from so on, put into dst from d0 on -/
def cpf (src dst : FA) (so d0 n : Nat) : FA := fun i => if d0 ≤ i ∧ i < d0 + n then src (i - d0 + so) else dst i
theorem cpf_0 (src dst : FA) (so d0 : Nat) : cpf src dst so d0 0 = dst := by
  funext i
  unfold cpf
  rw [if_neg (by omega)]
theorem cpf_s (src dst : FA) (so d0 n : Nat) : upd (cpf src dst so d0 n) (d0 + n) (src (so + n)) = cpf src dst so d0 (n + 1) := by
  funext i
  by_cases e : i = d0 + n
  · subst e
    rw [pk_us]
    unfold cpf
    rw [if_pos (by omega), show d0 + n - d0 + so = so + n by omega]
  · rw [pk_un e]
    unfold cpf
    by_cases g : d0 ≤ i ∧ i < d0 + n
    · rw [if_pos g, if_pos (by omega)]
    · rw [if_neg g, if_neg (by omega)]
def kq (q : Nat) : Nat := if q < 4 then q + 1 else 4
def knb (s bf : FA) (q : Nat) : FA := if q < 4 then cpf s bf 0 (163 * q) 163 else cpf s (cpf bf bf 163 0 489) 0 489 163
/-- an act's answer, and what it leaves: nothing changed, or a changed row and the earlier one known -/
def RA (K : FA × KS) (s bf kp : FA) (ik : Int32) (tx : FA) (ty : Int32) (e : AH) (q B : Nat) (S : Int32 × Option FA) (rv : Option Value) (h : AH) : Prop :=
  rv = some (.int S.1) ∧ ∃ F' : F4, (S.2 = none ∧ h = HP K.1 K.2 s (bf, nI q, kp, ik, tx, ty, F') e) ∨ ∃ c' N' s', S.2 = some c' ∧ RR 0 (B + 13000) N' c' s' ∧ h = HP K.1 K.2 s' (knb s bf q, nI (kq q), kp, ik, tx, ty, F') e
theorem RA_len {K : FA × KS} {s bf kp : FA} {ik : Int32} {tx : FA} {ty : Int32} {e : AH} {q B : Nat} {S : Int32 × Option FA} {rv : Option Value} {h : AH} (g : RA K s bf kp ik tx ty e q B S rv h) : h.length = e.length + 19 := by
  obtain ⟨-, F, ⟨-, rfl⟩ | ⟨c', N', s', -, -, rfl⟩⟩ := g
  · exact HP_len _ _ _ _ _
  · exact HP_len _ _ _ _ _
theorem V9.upd9 {c : FA} (h : V9 c) {i : Nat} {v : Int32} (h1 : i < 8 → ∃ k, k ≤ 100 ∧ v = nI k) (h2 : 8 ≤ i → i < 16 → ∃ k, k ≤ 9 ∧ v = nI k) (h3 : 112 ≤ i → i < 115 → ∃ k, k ≤ 300 ∧ v = nI k) (h4 : 115 ≤ i → i < 118 → -3 ≤ v ∧ v ≤ 3) (h5 : i = 128 → ∃ k, k ≤ 9 ∧ v = nI k) : V9 (upd c i v) := by
  refine ⟨fun t ht => ?_, fun t ht => ?_, fun t ht => ?_, fun t ht => ?_, ?_⟩
  · by_cases e : t = i
    · subst e; rw [pk_us]; exact h1 ht
    · rw [pk_un e]; exact h.1 t ht
  · by_cases e : 8 + t = i
    · subst e; rw [pk_us]; exact h2 (by omega) (by omega)
    · rw [pk_un e]; exact h.2.1 t ht
  · by_cases e : 112 + t = i
    · subst e; rw [pk_us]; exact h3 (by omega) (by omega)
    · rw [pk_un e]; exact h.2.2.1 t ht
  · by_cases e : 115 + t = i
    · subst e; rw [pk_us]; exact h4 (by omega) (by omega)
    · rw [pk_un e]; exact h.2.2.2.1 t ht
  · by_cases e : 128 = i
    · subst e; rw [pk_us]; exact h5 rfl
    · rw [pk_un e]; exact h.2.2.2.2
section MC
theorem know_2 (K : FA × KS) (s bf : FA) (T : FA × Int32 × FA × Int32 × F4) (e : AH) (v : Int32) {b : Nat} (hb : b ≤ 3) : Rch m_X9_know X0 (49, [(0, .ref 14)], [], HP K.1 K.2 s (bf, nI b, T) e, 0, 0) (RetP m_X9_know (fun rv h => rv = none ∧ h = HP K.1 K.2 s (cpf s bf 0 (163 * b) 163, nI (b + 1), T) e)) := by
  refine Rch.go rfl ?_
  have e0 : (bf, nI b, T) = (cpf s bf 0 (163 * b) 0, nI b, T) := by rw [cpf_0]
  rw [e0]
  refine Rch.for 163 (fun n => (55, [(0, .ref 14), (1, .int (nI n))], [.int 163, .int (nI n)], HP K.1 K.2 s (cpf s bf 0 (163 * b) n, nI b, T) e, 0, 0)) (fun n hn => ?_) ?_ 0 (by omega)
  · refine Rch.i_ge rfl (fun z => absurd z (lo_in hn (by decide))) (fun _ => ?_)
    refine Rch.go rfl ?_
    refine Rch.ia rfl rfl rfl (rfl) (by omega) (by decide) ?_
    refine Rch.ias rfl rfl (show 163 * nI b + nI n = nI (163 * b + n) by rw [show (163 : Int32) * nI b = nI 163 * nI b from rfl, nI_mul, nI_add]) (by omega) (by decide) ?_
    refine Rch.go rfl (Rch.rf ?_)
    rw [nI_1, ← cpf_s, show 0 + n = n from Nat.zero_add n]
    rfl
  · refine Rch.i_ge rfl (fun _ => ?_) (fun z => absurd (lo_out (by decide)) z)
    refine Rch.go rfl ?_
    exact Rch.rv rfl rfl (by decide) (by decide) ⟨rfl, by rw [← nI_1]; rfl⟩
theorem t_X9_know (K : FA × KS) (s bf : FA) (T : FA × Int32 × FA × Int32 × F4) (e : AH) {q : Nat} (hq : q ≤ 4) : Ct m_X9_know X0 [.ref 14] (HP K.1 K.2 s (bf, nI q, T) e) (fun rv h => rv = none ∧ h = HP K.1 K.2 s (knb s bf q, nI (kq q), T) e) := by
  refine ⟨ok_X9_know, ?_⟩
  refine Rch.go rfl ?_
  by_cases h4 : q < 4
  · rw [show knb s bf q = _ from if_pos h4, show kq q = _ from if_pos h4]
    refine Rch.i_ne rfl (fun z => absurd ((nI_eq (by omega) (by decide)).mp (show nI q = nI 4 from z)) (by omega)) (fun _ => ?_)
    exact know_2 K s bf T e 0 (by omega)
  · obtain rfl : q = 4 := by omega
    rw [show knb s bf 4 = _ from if_neg h4, show kq 4 = 4 from rfl]
    refine Rch.i_ne rfl (fun _ => ?_) (fun z => absurd rfl z)
    refine Rch.go rfl ?_
    have e0 : (bf, nI 4, T) = (cpf bf bf 163 0 0, nI 4, T) := by rw [cpf_0]
    rw [e0]
    refine Rch.for 489 (fun n => (14, [(0, .ref 14), (1, .int (nI n))], [.int 489, .int (nI n)], HP K.1 K.2 s (cpf bf bf 163 0 n, nI 4, T) e, 0, 0)) (fun n hn => ?_) ?_ 0 (by omega)
    · refine Rch.i_ge rfl (fun z => absurd z (lo_in hn (by decide))) (fun _ => ?_)
      refine Rch.go rfl ?_
      refine Rch.ia rfl rfl rfl (nI_add 163 n) (by omega) (by decide) ?_
      refine Rch.ias rfl rfl (show nI n = nI (0 + n) by rw [Nat.zero_add]) (by omega) (by decide) ?_
      refine Rch.go rfl (Rch.rf ?_)
      rw [nI_1, ← cpf_s]
      have e1 : cpf bf bf 163 0 n (163 + n) = bf (163 + n) := by unfold cpf; rw [if_neg (by omega)]
      rw [← e1]
      rfl
    · refine Rch.i_ge rfl (fun _ => ?_) (fun z => absurd (lo_out (by decide)) z)
      refine Rch.st 6 rfl ?_
      refine Rch.eq (τ := (49, [(0, .ref 14), (1, .int (nI 489))], [], HP K.1 K.2 s (cpf bf bf 163 0 489, nI 3, T) e, 0, 0)) (by rw [show nI 3 = nI 4 - 1 by decide]; rfl) ?_
      exact Rch.wp [0] rfl rfl (know_2 K s (cpf bf bf 163 0 489) T e 0 (b := 3) (by omega))
theorem t_X9_puts (c : FA) (K : FA × KS) (s : FA) (L : LS9) (e : AH) {i : Int32} {j : Nat} (v : Int32) (hi : i = nI j) (hj : j < 163) : Ct m_X9_puts X0 [.ref 14, .int i, .int v] (HP K.1 K.2 s L e) (fun rv h => rv = some (.int (s j)) ∧ h = HP K.1 K.2 (upd s j v) L e) := by
  subst hi
  refine ⟨ok_X9_puts, ?_⟩
  refine Rch.go rfl ?_
  refine Rch.ia rfl rfl rfl (rfl) (by omega) (by decide) ?_
  refine Rch.go rfl ?_
  refine Rch.ias rfl rfl rfl hj (by decide) ?_
  refine Rch.go rfl ?_
  exact Rch.ri rfl rfl rfl (by decide) (by decide) ⟨rfl, rfl⟩
theorem t_X9_leak (c : FA) (K : FA × KS) (s bf kp : FA) (ik : Int32) (tx : FA) (ty : Int32) (F : F4) (e : AH) {q : Nat} (hq : q ≤ 4) {B N : Nat} (h : RR 0 B N c s) (hB : B < 2 ^ 27) (t l : Int32) : Ct m_X9_leak X0 [.ref 14, .int t, .int l] (HP K.1 K.2 s (bf, nI q, kp, ik, tx, ty, F) e) (RA K s bf kp ik tx ty e q B (lek c t l)) := by
  refine ⟨ok_X9_leak, ?_⟩
  refine Rch.go rfl ?_
  refine Rch.call 1 (t_X9_isTank _ _) rfl rfl g_X9_82 om_X9_isTank rfl (fun _ _ _ q => q) rfl rfl rfl rfl ⟨rfl, rfl⟩ ⟨by decide, by decide⟩ (fun _ _ q => by obtain ⟨_, rfl⟩ := q; first | with_reducible rfl | (rw [HP_len, HP_len]; done) | rw [HP_len, HP_len, uO_len, uO_len]) (fun rv9 h9 q9 => ?_)
  obtain ⟨rfl, rfl⟩ := q9
  refine Rch.z_ne rfl (fun z => ?_) (fun z => ?_)
  · rw [show lek c t l = _ from if_pos (i0 z)]
    refine Rch.go rfl ?_
    exact Rch.ri rfl rfl rfl (by decide) (by decide) ⟨rfl, F, Or.inl ⟨rfl, rfl⟩⟩
  have w := i1 z
  obtain ⟨j, hj, rfl⟩ := rng (n := 7) rfl (by decide) w
  have ej : ix (nI j) = j := ix_nI (by omega)
  refine Rch.go rfl ?_
  refine Rch.call 1 (t_X9_in _ _ _ _) rfl rfl g_X9_22 om_X9_in rfl (fun _ _ _ q => q) rfl rfl rfl rfl ⟨rfl, rfl⟩ ⟨by decide, by decide⟩ (fun _ _ q => by obtain ⟨_, rfl⟩ := q; first | with_reducible rfl | (rw [HP_len, HP_len]; done) | rw [HP_len, HP_len, uO_len, uO_len]) (fun rv9 h9 q9 => ?_)
  obtain ⟨rfl, rfl⟩ := q9
  refine Rch.z_ne rfl (fun z1 => ?_) (fun z1 => ?_)
  · rw [show lek c (nI j) l = (-1002, none) by unfold lek; rw [if_neg (fun q => q w), if_pos (i0 z1)]]
    refine Rch.go rfl ?_
    exact Rch.ri rfl rfl rfl (by decide) (by decide) ⟨rfl, F, Or.inl ⟨rfl, rfl⟩⟩
  have w1 := i1 z1
  obtain ⟨l', hl', rfl⟩ := rng (n := 9) rfl (by decide) w1
  rw [show lek c (nI j) (nI l') = chg c (8 + j) (nI l') by unfold lek; rw [if_neg (fun q => q w), if_neg (fun q => q w1), ej]]
  have es : s (8 + j) = c (8 + j) := h.1 (8 + j) (by omega)
  refine Rch.go rfl ?_
  refine Rch.ia rfl rfl rfl (nI_add 8 j) (by omega) (by decide) ?_
  rw [es]
  refine Rch.go rfl ?_
  refine Rch.i_ne rfl (fun z => ?_) (fun z => ?_)
  · rw [show chg c (8 + j) (nI l') = _ from if_pos z]
    refine Rch.go rfl ?_
    exact Rch.ri rfl rfl rfl (by decide) (by decide) ⟨rfl, F, Or.inl ⟨rfl, rfl⟩⟩
  · rw [show chg c (8 + j) (nI l') = _ from if_neg z]
    refine Rch.go rfl ?_
    refine Rch.call 0 (t_X9_know K s bf (kp, ik, tx, ty, F) e hq) rfl rfl g_X9_79 om_X9_know rfl (fun _ _ _ q => q) rfl rfl rfl rfl ⟨rfl, rfl⟩ ⟨by decide, by decide⟩ (fun _ _ q => by obtain ⟨_, rfl⟩ := q; first | with_reducible rfl | (rw [HP_len, HP_len]; done) | rw [HP_len, HP_len, uO_len, uO_len]) (fun rv9 h9 q9 => ?_)
    obtain ⟨rfl, rfl⟩ := q9
    refine Rch.go rfl ?_
    refine Rch.call 0 (t_X9_puts c K s _ e (nI l') (nI_add 8 j) (by omega)) rfl rfl g_X9_85 om_X9_puts rfl (fun _ _ _ q => q) rfl rfl rfl rfl ⟨rfl, rfl⟩ ⟨by decide, by decide⟩ (fun _ _ q => by obtain ⟨_, rfl⟩ := q; first | with_reducible rfl | (rw [HP_len, HP_len]; done) | rw [HP_len, HP_len, uO_len, uO_len]) (fun rv9 h9 q9 => ?_)
    obtain ⟨rfl, rfl⟩ := q9
    rw [es]
    exact Rch.ri rfl rfl rfl (by decide) (by decide) ⟨rfl, F, Or.inr ⟨_, _, _, rfl, (h.put1 (nI l') (by omega) (h.2.2.2.2.2.2.upd9 (by omega) (fun _ _ => ⟨l', hl', rfl⟩) (by omega) (by omega) (by omega))).mono (by omega), rfl⟩⟩
theorem t_X9_setGroup (c : FA) (K : FA × KS) (s bf kp : FA) (ik : Int32) (tx : FA) (ty : Int32) (F : F4) (e : AH) {q : Nat} (hq : q ≤ 4) {B N : Nat} (h : RR 0 B N c s) (hB : B < 2 ^ 27) (t l : Int32) : Ct m_X9_setGroup X0 [.ref 14, .int t, .int l] (HP K.1 K.2 s (bf, nI q, kp, ik, tx, ty, F) e) (RA K s bf kp ik tx ty e q B (sgr c t l)) := by
  refine ⟨ok_X9_setGroup, ?_⟩
  refine Rch.go rfl ?_
  refine Rch.call 1 (t_X9_isGroup _ _) rfl rfl g_X9_89 om_X9_isGroup rfl (fun _ _ _ q => q) rfl rfl rfl rfl ⟨rfl, rfl⟩ ⟨by decide, by decide⟩ (fun _ _ q => by obtain ⟨_, rfl⟩ := q; first | with_reducible rfl | (rw [HP_len, HP_len]; done) | rw [HP_len, HP_len, uO_len, uO_len]) (fun rv9 h9 q9 => ?_)
  obtain ⟨rfl, rfl⟩ := q9
  refine Rch.z_ne rfl (fun z => ?_) (fun z => ?_)
  · rw [show sgr c t l = _ from if_pos (i0 z)]
    refine Rch.go rfl ?_
    exact Rch.ri rfl rfl rfl (by decide) (by decide) ⟨rfl, F, Or.inl ⟨rfl, rfl⟩⟩
  have w := i1 z
  obtain ⟨j, hj, rfl⟩ := rng (n := 4) rfl (by decide) w
  have ej : ix (nI j) = j := ix_nI (by omega)
  refine Rch.go rfl ?_
  refine Rch.call 1 (t_X9_in _ _ _ _) rfl rfl g_X9_22 om_X9_in rfl (fun _ _ _ q => q) rfl rfl rfl rfl ⟨rfl, rfl⟩ ⟨by decide, by decide⟩ (fun _ _ q => by obtain ⟨_, rfl⟩ := q; first | with_reducible rfl | (rw [HP_len, HP_len]; done) | rw [HP_len, HP_len, uO_len, uO_len]) (fun rv9 h9 q9 => ?_)
  obtain ⟨rfl, rfl⟩ := q9
  refine Rch.z_ne rfl (fun z1 => ?_) (fun z1 => ?_)
  · rw [show sgr c (nI j) l = (-1002, none) by unfold sgr; rw [if_neg (fun q => q w), if_pos (i0 z1)]]
    refine Rch.go rfl ?_
    exact Rch.ri rfl rfl rfl (by decide) (by decide) ⟨rfl, F, Or.inl ⟨rfl, rfl⟩⟩
  have w1 := i1 z1
  rw [show sgr c (nI j) l = chg c (118 + j) l by unfold sgr; rw [if_neg (fun q => q w), if_neg (fun q => q w1), ej]]
  have es : s (38 + j) = c (118 + j) := by rw [h.2.1 (38 + j) (by omega) (by omega), show 38 + j + 80 = 118 + j by omega]
  refine Rch.go rfl ?_
  refine Rch.ia rfl rfl rfl (nI_add 38 j) (by omega) (by decide) ?_
  rw [es]
  refine Rch.go rfl ?_
  refine Rch.i_ne rfl (fun z => ?_) (fun z => ?_)
  · rw [show chg c (118 + j) l = _ from if_pos z]
    refine Rch.go rfl ?_
    exact Rch.ri rfl rfl rfl (by decide) (by decide) ⟨rfl, F, Or.inl ⟨rfl, rfl⟩⟩
  · rw [show chg c (118 + j) l = _ from if_neg z]
    refine Rch.go rfl ?_
    refine Rch.call 0 (t_X9_know K s bf (kp, ik, tx, ty, F) e hq) rfl rfl g_X9_79 om_X9_know rfl (fun _ _ _ q => q) rfl rfl rfl rfl ⟨rfl, rfl⟩ ⟨by decide, by decide⟩ (fun _ _ q => by obtain ⟨_, rfl⟩ := q; first | with_reducible rfl | (rw [HP_len, HP_len]; done) | rw [HP_len, HP_len, uO_len, uO_len]) (fun rv9 h9 q9 => ?_)
    obtain ⟨rfl, rfl⟩ := q9
    refine Rch.go rfl ?_
    refine Rch.call 0 (t_X9_puts c K s _ e l (nI_add 38 j) (by omega)) rfl rfl g_X9_85 om_X9_puts rfl (fun _ _ _ q => q) rfl rfl rfl rfl ⟨rfl, rfl⟩ ⟨by decide, by decide⟩ (fun _ _ q => by obtain ⟨_, rfl⟩ := q; first | with_reducible rfl | (rw [HP_len, HP_len]; done) | rw [HP_len, HP_len, uO_len, uO_len]) (fun rv9 h9 q9 => ?_)
    obtain ⟨rfl, rfl⟩ := q9
    rw [es]
    have g := (h.put2 (i := 38 + j) l (by omega) (h.2.2.2.2.2.2.upd9 (by omega) (by omega) (by omega) (by omega) (by omega))).mono (B' := B + 13000) (by omega)
    rw [show 38 + j + 80 = 118 + j by omega] at g
    exact Rch.ri rfl rfl rfl (by decide) (by decide) ⟨rfl, F, Or.inr ⟨_, _, _, rfl, g, rfl⟩⟩
theorem t_X9_set (c : FA) (K : FA × KS) (s bf kp : FA) (ik : Int32) (tx : FA) (ty : Int32) (F : F4) (e : AH) {q : Nat} (hq : q ≤ 4) {B N : Nat} (h : RR 0 B N c s) (hB : B < 2 ^ 27) (t l : Int32) : Ct m_X9_set X0 [.ref 14, .int t, .int l] (HP K.1 K.2 s (bf, nI q, kp, ik, tx, ty, F) e) (RA K s bf kp ik tx ty e q B (stt c t l)) := by
  have key : ∀ a b : Int32, (0 ≤ t ∧ t ≤ 2 → a = leS (ix t) ∧ b = moS (ix t)) → Rch m_X9_set X0 (44, [(0, .ref 14), (1, .int t), (2, .int l), (3, .int a), (4, .int b)], [], HP K.1 K.2 s (bf, nI q, kp, ik, tx, ty, F) e, 0, 0) (RetP m_X9_set (RA K s bf kp ik tx ty e q B (stt c t l))) := by
    intro a b hab
    refine Rch.go rfl ?_
    refine Rch.call 1 (t_X9_in _ _ _ _) rfl rfl g_X9_22 om_X9_in rfl (fun _ _ _ q => q) rfl rfl rfl rfl ⟨rfl, rfl⟩ ⟨by decide, by decide⟩ (fun _ _ q => by obtain ⟨_, rfl⟩ := q; first | with_reducible rfl | (rw [HP_len, HP_len]; done) | rw [HP_len, HP_len, uO_len, uO_len]) (fun rv9 h9 q9 => ?_)
    obtain ⟨rfl, rfl⟩ := q9
    refine Rch.z_eq rfl (fun z => ?_) (fun z => ?_)
    · rw [show stt c t l = _ from if_pos (Or.inl (i0 z))]
      refine Rch.go rfl ?_
      exact Rch.ri rfl rfl rfl (by decide) (by decide) ⟨rfl, F, Or.inl ⟨rfl, rfl⟩⟩
    have w := i1 z
    obtain ⟨rfl, rfl⟩ := hab w
    obtain ⟨j, hj, rfl⟩ := rng (n := 2) rfl (by decide) w
    have ej : ix (nI j) = j := ix_nI (by omega)
    rw [ej]
    refine Rch.go rfl ?_
    refine Rch.call 1 (t_X9_in _ _ _ _) rfl rfl g_X9_22 om_X9_in rfl (fun _ _ _ q => q) rfl rfl rfl rfl ⟨rfl, rfl⟩ ⟨by decide, by decide⟩ (fun _ _ q => by obtain ⟨_, rfl⟩ := q; first | with_reducible rfl | (rw [HP_len, HP_len]; done) | rw [HP_len, HP_len, uO_len, uO_len]) (fun rv9 h9 q9 => ?_)
    obtain ⟨rfl, rfl⟩ := q9
    refine Rch.z_ne rfl (fun z1 => ?_) (fun z1 => ?_)
    · rw [show stt c (nI j) l = (-1002, none) by unfold stt; rw [ej, if_pos (Or.inr (i0 z1))]]
      refine Rch.go rfl ?_
      exact Rch.ri rfl rfl rfl (by decide) (by decide) ⟨rfl, F, Or.inl ⟨rfl, rfl⟩⟩
    have w1 := i1 z1
    rw [show stt c (nI j) l = chg c (128 + j) l by unfold stt; rw [ej, if_neg (fun q => q.elim (fun q => q w) (fun q => q w1))]]
    have es : s (48 + j) = c (128 + j) := by rw [h.2.1 (48 + j) (by omega) (by omega), show 48 + j + 80 = 128 + j by omega]
    refine Rch.go rfl ?_
    refine Rch.ia rfl rfl rfl (nI_add 48 j) (by omega) (by decide) ?_
    rw [es]
    refine Rch.go rfl ?_
    refine Rch.i_ne rfl (fun z => ?_) (fun z => ?_)
    · rw [show chg c (128 + j) l = _ from if_pos z]
      refine Rch.go rfl ?_
      exact Rch.ri rfl rfl rfl (by decide) (by decide) ⟨rfl, F, Or.inl ⟨rfl, rfl⟩⟩
    · rw [show chg c (128 + j) l = _ from if_neg z]
      refine Rch.go rfl ?_
      refine Rch.call 0 (t_X9_know K s bf (kp, ik, tx, ty, F) e hq) rfl rfl g_X9_79 om_X9_know rfl (fun _ _ _ q => q) rfl rfl rfl rfl ⟨rfl, rfl⟩ ⟨by decide, by decide⟩ (fun _ _ q => by obtain ⟨_, rfl⟩ := q; first | with_reducible rfl | (rw [HP_len, HP_len]; done) | rw [HP_len, HP_len, uO_len, uO_len]) (fun rv9 h9 q9 => ?_)
      obtain ⟨rfl, rfl⟩ := q9
      refine Rch.go rfl ?_
      refine Rch.call 0 (t_X9_puts c K s _ e l (nI_add 48 j) (by omega)) rfl rfl g_X9_85 om_X9_puts rfl (fun _ _ _ q => q) rfl rfl rfl rfl ⟨rfl, rfl⟩ ⟨by decide, by decide⟩ (fun _ _ q => by obtain ⟨_, rfl⟩ := q; first | with_reducible rfl | (rw [HP_len, HP_len]; done) | rw [HP_len, HP_len, uO_len, uO_len]) (fun rv9 h9 q9 => ?_)
      obtain ⟨rfl, rfl⟩ := q9
      rw [es]
      have g := (h.put2 (i := 48 + j) l (by omega) (h.2.2.2.2.2.2.upd9 (by omega) (by omega) (by omega) (by omega) (fun e0 => by
        obtain rfl : j = 0 := by omega
        obtain ⟨k, k1, k2⟩ := rng (v := l) (n := 9) rfl (by decide) ⟨Int32.le_trans (by decide) w1.1, w1.2⟩
        exact ⟨k, k1, k2⟩))).mono (B' := B + 13000) (by omega)
      rw [show 48 + j + 80 = 128 + j by omega] at g
      exact Rch.ri rfl rfl rfl (by decide) (by decide) ⟨rfl, F, Or.inr ⟨_, _, _, rfl, g, rfl⟩⟩
  refine ⟨ok_X9_set, ?_⟩
  refine Rch.go rfl ?_
  refine Rch.z_ne rfl (fun z => ?_) (fun z => ?_)
  · subst z
    refine Rch.go rfl ?_
    refine Rch.z_ne rfl (fun _ => ?_) (fun q => absurd rfl q)
    refine Rch.st 3 rfl ?_
    exact key 1 9 (fun _ => ⟨rfl, rfl⟩)
  · refine Rch.go rfl ?_
    refine Rch.i_ne rfl (fun z2 => ?_) (fun z2 => ?_)
    · subst z2
      refine Rch.go rfl ?_
      refine Rch.z_ne rfl (fun q => absurd q (by decide)) (fun _ => ?_)
      refine Rch.go rfl ?_
      refine Rch.i_ne rfl (fun _ => ?_) (fun q => absurd rfl q)
      refine Rch.st 3 rfl ?_
      exact key 2 99 (fun _ => ⟨rfl, rfl⟩)
    · refine Rch.go rfl ?_
      refine Rch.z_ne rfl (fun q => absurd q z) (fun _ => ?_)
      refine Rch.go rfl ?_
      refine Rch.i_ne rfl (fun q => absurd q z2) (fun _ => ?_)
      refine Rch.st 2 rfl ?_
      refine key 50 200 (fun w => ?_)
      obtain ⟨j, hj, rfl⟩ := rng (n := 2) rfl (by decide) w
      match j, hj with
      | 0, _ => exact absurd rfl z
      | 1, _ => exact absurd rfl z2
      | 2, _ => exact ⟨rfl, rfl⟩
theorem t_X9_load (c : FA) (K : FA × KS) (s bf kp : FA) (ik : Int32) (tx : FA) (ty : Int32) (F : F4) (e : AH) {q : Nat} (hq : q ≤ 4) {B N : Nat} (h : RR 0 B N c s) (hB : B < 2 ^ 27) (t l sh : Int32) : Ct m_X9_load X0 [.ref 14, .int t, .int l, .int sh] (HP K.1 K.2 s (bf, nI q, kp, ik, tx, ty, F) e) (RA K s bf kp ik tx ty e q B (lod c t l sh)) := by
  refine ⟨ok_X9_load, ?_⟩
  refine Rch.go rfl ?_
  refine Rch.call 1 (t_X9_isHold _ _) rfl rfl g_X9_75 om_X9_isHold rfl (fun _ _ _ q => q) rfl rfl rfl rfl ⟨rfl, rfl⟩ ⟨by decide, by decide⟩ (fun _ _ q => by obtain ⟨_, rfl⟩ := q; first | with_reducible rfl | (rw [HP_len, HP_len]; done) | rw [HP_len, HP_len, uO_len, uO_len]) (fun rv9 h9 q9 => ?_)
  obtain ⟨rfl, rfl⟩ := q9
  refine Rch.z_ne rfl (fun z => ?_) (fun z => ?_)
  · rw [show lod c t l sh = _ from if_pos (i0 z)]
    refine Rch.go rfl ?_
    exact Rch.ri rfl rfl rfl (by decide) (by decide) ⟨rfl, F, Or.inl ⟨rfl, rfl⟩⟩
  have w := i1 z
  obtain ⟨j, hj, rfl⟩ := rng (n := 2) rfl (by decide) w
  have ej : ix (nI j) = j := ix_nI (by omega)
  refine Rch.go rfl ?_
  refine Rch.call 1 (t_X9_in _ _ _ _) rfl rfl g_X9_22 om_X9_in rfl (fun _ _ _ q => q) rfl rfl rfl rfl ⟨rfl, rfl⟩ ⟨by decide, by decide⟩ (fun _ _ q => by obtain ⟨_, rfl⟩ := q; first | with_reducible rfl | (rw [HP_len, HP_len]; done) | rw [HP_len, HP_len, uO_len, uO_len]) (fun rv9 h9 q9 => ?_)
  obtain ⟨rfl, rfl⟩ := q9
  refine Rch.z_eq rfl (fun z1 => ?_) (fun z1 => ?_)
  · rw [show lod c (nI j) l sh = (-1002, none) by unfold lod; rw [if_neg (fun q => q w), if_pos (Or.inl (i0 z1))]]
    refine Rch.go rfl ?_
    exact Rch.ri rfl rfl rfl (by decide) (by decide) ⟨rfl, F, Or.inl ⟨rfl, rfl⟩⟩
  refine Rch.go rfl ?_
  refine Rch.call 1 (t_X9_in _ _ _ _) rfl rfl g_X9_22 om_X9_in rfl (fun _ _ _ q => q) rfl rfl rfl rfl ⟨rfl, rfl⟩ ⟨by decide, by decide⟩ (fun _ _ q => by obtain ⟨_, rfl⟩ := q; first | with_reducible rfl | (rw [HP_len, HP_len]; done) | rw [HP_len, HP_len, uO_len, uO_len]) (fun rv9 h9 q9 => ?_)
  obtain ⟨rfl, rfl⟩ := q9
  refine Rch.z_ne rfl (fun z2 => ?_) (fun z2 => ?_)
  · rw [show lod c (nI j) l sh = (-1002, none) by unfold lod; rw [if_neg (fun q => q w), if_pos (Or.inr (i0 z2))]]
    refine Rch.go rfl ?_
    exact Rch.ri rfl rfl rfl (by decide) (by decide) ⟨rfl, F, Or.inl ⟨rfl, rfl⟩⟩
  have w2 : ¬ (¬ (0 ≤ l ∧ l ≤ 300) ∨ ¬ (-3 ≤ sh ∧ sh ≤ 3)) := fun q => q.elim (fun q => q (i1 z1)) (fun q => q (i1 z2))
  have es : s (32 + j) = c (112 + j) := by rw [h.2.1 (32 + j) (by omega) (by omega), show 32 + j + 80 = 112 + j by omega]
  have es2 : s (35 + j) = c (115 + j) := by rw [h.2.1 (35 + j) (by omega) (by omega), show 35 + j + 80 = 115 + j by omega]
  have es3 : s 50 = c 130 := h.2.1 50 (by decide) (by decide)
  obtain ⟨l', hl', el⟩ := rng (n := 300) rfl (by decide) (i1 z1)
  refine Rch.go rfl ?_
  refine Rch.call 0 (t_X9_weight c K s _ e h.1 h.2.1) rfl rfl g_X9_34 om_X9_weight rfl (fun _ _ _ q => q) rfl rfl rfl rfl ⟨rfl, rfl⟩ ⟨by decide, by decide⟩ (fun _ _ q => by obtain ⟨_, rfl⟩ := q; first | with_reducible rfl | (rw [HP_len, HP_len]; done) | rw [HP_len, HP_len, uO_len, uO_len]) (fun rv9 h9 q9 => ?_)
  obtain ⟨rfl, rfl⟩ := q9
  refine Rch.go rfl ?_
  refine Rch.ia rfl rfl rfl (nI_add 32 j) (by omega) (by decide) ?_
  rw [es]
  refine Rch.go rfl ?_
  refine Rch.div rfl (by decide) ?_
  refine Rch.go rfl ?_
  refine Rch.ia (j := 50) rfl rfl rfl rfl (by decide) (by decide) ?_
  rw [es3]
  refine Rch.i_le rfl (fun z3 => ?_) (fun z3 => ?_)
  rotate_left
  · rw [show lod c (nI j) l sh = (-1004, none) by unfold lod; rw [if_neg (fun q => q w), if_neg w2, ej, if_pos (nle_lt z3)]]
    refine Rch.go rfl ?_
    exact Rch.ri rfl rfl rfl (by decide) (by decide) ⟨rfl, F, Or.inl ⟨rfl, rfl⟩⟩
  have z3 := Int32.not_lt.mpr z3
  refine Rch.go rfl ?_
  refine Rch.ia rfl rfl rfl (nI_add 32 j) (by omega) (by decide) ?_
  rw [es]
  have fin : ¬ (c (112 + j) = l ∧ c (115 + j) = sh) → Rch m_X9_load X0 (103, [(0, .ref 14), (1, .int (nI j)), (2, .int l), (3, .int sh), (4, .int ((wgt c - c (112 + j) + l) / 10))], [], HP K.1 K.2 s (bf, nI q, kp, ik, tx, ty, F) e, 0, 0) (RetP m_X9_load (RA K s bf kp ik tx ty e q B (lod c (nI j) l sh))) := by
    intro z4
    rw [show lod c (nI j) l sh = _ by unfold lod; rw [if_neg (fun q => q w), if_neg w2, ej, if_neg z3, if_neg z4]]
    refine Rch.go rfl ?_
    refine Rch.call 0 (t_X9_know K s bf (kp, ik, tx, ty, F) e hq) rfl rfl g_X9_79 om_X9_know rfl (fun _ _ _ q => q) rfl rfl rfl rfl ⟨rfl, rfl⟩ ⟨by decide, by decide⟩ (fun _ _ q => by obtain ⟨_, rfl⟩ := q; first | with_reducible rfl | (rw [HP_len, HP_len]; done) | rw [HP_len, HP_len, uO_len, uO_len]) (fun rv9 h9 q9 => ?_)
    obtain ⟨rfl, rfl⟩ := q9
    refine Rch.go rfl ?_
    refine Rch.ias rfl rfl (nI_add 32 j) (by omega) (by decide) ?_
    refine Rch.go rfl ?_
    refine Rch.ias rfl rfl (nI_add 35 j) (by omega) (by decide) ?_
    refine Rch.go rfl ?_
    have hV1 : V9 (upd c (32 + j + 80) l) := h.2.2.2.2.2.2.upd9 (by omega) (by omega) (fun _ _ => ⟨l', hl', el⟩) (by omega) (by omega)
    have g := ((h.put2 (i := 32 + j) l (by omega) hV1).put2 (i := 35 + j) sh (by omega) (hV1.upd9 (by omega) (by omega) (by omega) (fun _ _ => i1 z2) (by omega))).mono (B' := B + 13000) (by omega)
    rw [show 32 + j + 80 = 112 + j by omega, show 35 + j + 80 = 115 + j by omega] at g
    exact Rch.ri rfl rfl rfl (by decide) (by decide) ⟨rfl, F, Or.inr ⟨_, _, _, rfl, g, rfl⟩⟩
  refine Rch.go rfl ?_
  refine Rch.i_ne rfl (fun z4 => ?_) (fun z4 => ?_)
  · refine Rch.go rfl ?_
    refine Rch.ia rfl rfl rfl (nI_add 35 j) (by omega) (by decide) ?_
    rw [es2]
    refine Rch.go rfl ?_
    refine Rch.i_ne rfl (fun z5 => ?_) (fun z5 => ?_)
    · rw [show lod c (nI j) l sh = (-1005, none) by unfold lod; rw [if_neg (fun q => q w), if_neg w2, ej, if_neg z3, if_pos ⟨z4, z5⟩]]
      refine Rch.go rfl ?_
      exact Rch.ri rfl rfl rfl (by decide) (by decide) ⟨rfl, F, Or.inl ⟨rfl, rfl⟩⟩
    · exact fin (fun q => z5 q.2)
  · exact fin (fun q => z4 q.1)
end MC
