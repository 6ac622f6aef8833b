/-! Constructors: a mill, a text, the model. -/
theorem a_ob : Cond.instanceMethod objectInit ∈ j_ws ∧ Cond.code objectInit ⟨#[0xb1]⟩ 1 none ∈ j_ws := ⟨j_in (List.mem_of_getElem? (i := 62) (by decide +kernel)) rfl, j_in (List.mem_of_getElem? (i := 63) (by decide +kernel)) rfl⟩
theorem a_ai : Cond.arrayClass .int ∈ j_ws := j_in (List.mem_of_getElem? (i := 101) (by decide +kernel)) rfl
theorem a_az : Cond.arrayClass .boolean ∈ j_ws := j_in (List.mem_of_getElem? (i := 169) (by decide +kernel)) rfl
theorem a_al : Cond.arrayClass .long ∈ j_ws := j_in (List.mem_of_getElem? (i := 940) (by decide +kernel)) rfl
theorem a_n0 : Cond.instantiable RX0 5 ∈ j_ws := j_in (List.mem_of_getElem? (i := 74) (by decide +kernel)) rfl
theorem a_n1 : Cond.instantiable RX1 12 ∈ j_ws := j_in (List.mem_of_getElem? (i := 65) (by decide +kernel)) rfl
theorem a_n2 : Cond.instantiable RX2 2 ∈ j_ws := j_in (List.mem_of_getElem? (i := 155) (by decide +kernel)) rfl
theorem a_n3 : Cond.instantiable RX3 8 ∈ j_ws := j_in (List.mem_of_getElem? (i := 57) (by decide +kernel)) rfl
theorem a_n4 : Cond.instantiable RX4 10 ∈ j_ws := j_in (List.mem_of_getElem? (i := 628) (by decide +kernel)) rfl
/-- a row of numbers, all 0 -/
theorem J.newi {M : j_M} {Φ : j_F} {bc bs pc : Nat} {lv : j_L} {rest : List Value} {h : j_H} {n9 : Int32} (N bc1 bs1 : Nat) (hbc : bc1 + 1 ≤ bc) (hbs : bs1 + N ≤ bs) (hn : n9 = nI N ∧ N < 100000) (hd : decode (jm_b M) pc = .ok (.newarray .int, 2)) (ha : jm_a M = true) (hb : j_bdL h.length h) (hlv : (lv.all fun q => j_vb h.length q.2) = true) (hr : rest.all (j_vb h.length) = true) (hs : h.length + 1 ≤ j_sid)
    (k : J M Φ bc1 bs1 (pc + 2) lv (.ref h.length :: rest) (h ++ [.inl (0, N, .inl (fun _ => 0))])) : J M Φ bc bs pc lv (.int n9 :: rest) h :=
  J.less hbc hbs (J.newa (ty := .int) (atype := .int) 0 rfl rfl a_ai hn (fun _ => rfl) (fun _ => rfl) (by decide) hd ha hb hlv hr hs k)
theorem J.newz {M : j_M} {Φ : j_F} {bc bs pc : Nat} {lv : j_L} {rest : List Value} {h : j_H} {n9 : Int32} (N bc1 bs1 : Nat) (hbc : bc1 + 1 ≤ bc) (hbs : bs1 + N ≤ bs) (hn : n9 = nI N ∧ N < 100000) (hd : decode (jm_b M) pc = .ok (.newarray .boolean, 2)) (ha : jm_a M = true) (hb : j_bdL h.length h) (hlv : (lv.all fun q => j_vb h.length q.2) = true) (hr : rest.all (j_vb h.length) = true) (hs : h.length + 1 ≤ j_sid)
    (k : J M Φ bc1 bs1 (pc + 2) lv (.ref h.length :: rest) (h ++ [.inl (2, N, .inl (fun _ => 0))])) : J M Φ bc bs pc lv (.int n9 :: rest) h :=
  J.less hbc hbs (J.newa (ty := .boolean) (atype := .boolean) 2 rfl rfl a_az hn (fun _ => rfl) (fun _ => rfl) (by decide) hd ha hb hlv hr hs k)
theorem c_X0_init : Ct MX0_init 2 16 [.ref 0] [.inr (0, [.int 0, .int 0, .int 0, .null, .null])] (jd (.inl none) (milr 2 0 0 (fun _ => 0) (fun _ => 0))) := by
  refine Ct.of rfl rfl (by decide +kernel) rfl (Nat.le_of_ble_eq_true rfl) ?_
  refine J.run csX0_init 1 [] ?_
  refine J.objI mRX0_3 a_ob.1 a_ob.2 dX0_init_1 (by decide) (Nat.le_of_ble_eq_true rfl) ?_
  refine J.run csX0_init 30 [] ?_
  refine J.newi 8 1 8 (by decide) (by decide) ⟨rfl, by decide⟩ dX0_init_22 rfl ⟨rfl, trivial⟩ rfl rfl (by decide) ?_
  refine J.run csX0_init 30 [] ?_
  refine J.newi 8 0 0 (by decide) (by decide) ⟨rfl, by decide⟩ dX0_init_30 rfl ⟨rfl, trivial, trivial⟩ rfl rfl (by decide) ?_
  refine J.run csX0_init 30 [] ?_
  exact jd_i rfl rfl
theorem c_X2_init : Ct MX2_init 1 60 [.ref 0] [.inr (2, [.null, .int 0])] (jd (.inl none) (txt 0 (fun _ => 0))) := by
  refine Ct.of rfl rfl (by decide +kernel) rfl (Nat.le_of_ble_eq_true rfl) ?_
  refine J.run csX2_init 1 [] ?_
  refine J.objI mRX2_3 a_ob.1 a_ob.2 dX2_init_1 (by decide) (Nat.le_of_ble_eq_true rfl) ?_
  refine J.run csX2_init 30 [] ?_
  refine J.newi 60 0 0 (by decide) (by decide) ⟨rfl, by decide⟩ dX2_init_7 rfl ⟨rfl, trivial⟩ rfl rfl (by decide) ?_
  refine J.run csX2_init 30 [] ?_
  exact jd_i rfl rfl
/-- the model's row at the start -/
def zH : Nat → Nat → Int32
  | 0 => fun _ => 0
  | k + 1 => upd (upd (zH k) (2 * k) (nI (k % 8))) (2 * k + 1) (nI (k % 10))
def zVn : Nat → Nat → Int32
  | 0 => zH 24
  | k + 1 => upd (upd (upd (zVn k) (48 + 4 * k) (nI k)) (48 + 4 * k + 1) 2) (48 + 4 * k + 2) 1
def zMl : Nat → Nat → Int32
  | 0 => upd (zVn 6) 72 3
  | k + 1 => upd (zMl k) (74 + 19 * k) 2
theorem n_rem10 {a : Nat} (h : a < 2 ^ 31) : nI a - nI a / 10 * 10 = nI (a % 10) := pk_rem (d := 10) h (by decide) (by decide)
theorem n_ne10 : ¬ (10 : Int32) = 0 := by decide
theorem c_X4_init : Ct MX4_init 6 1562 [.ref 0] [.inr (4, [.int 0, .null, .null, .null, .int 0, .null, .null, .null, .int 0, .int 0])] (jd (.inl none) (mw (0, 0, 0, 0) (zMl 3) (fun _ => 0, fun _ => 0, fun _ => 0, fun _ => 0, fun _ => 0))) := by
  refine Ct.of rfl rfl (by decide +kernel) rfl (Nat.le_of_ble_eq_true rfl) ?_
  generalize hΦ : jd (.inl none) (mw (0, 0, 0, 0) (zMl 3) (fun _ => 0, fun _ => 0, fun _ => 0, fun _ => 0, fun _ => 0)) = Φ
  have L3 : ∀ d k : Nat, k + d = 3 → J MX4_init Φ 0 0 159 [(0, .ref 0), (1, .int (nI k))] [] (mw (0, 0, 0, 0) (zMl k) (fun _ => 0, fun _ => 0, fun _ => 0, fun _ => 0, fun _ => 0)) := by
    intro d
    induction d with
    | zero =>
      intro k hk
      refine J.run csX4_init 20 [] ?_
      refine ⟨fun _ => ?_, fun q => absurd ((n_le (a := 3) (b := k) (by decide) (by omega)).mpr (by omega)) q⟩
      rw [← hΦ]
      exact jd_i rfl (by rw [show k = 3 by omega])
    | succ d ih =>
      intro k hk
      have ih' := ih (k + 1) (by omega)
      have e : nI 74 + nI 19 * nI k + nI 0 = nI (74 + 19 * k) := by rw [n_mul, nI_add, nI_add, Nat.add_zero]
      have v : vp_in (nI 74 + nI 19 * nI k + nI 0) 150 := by
        rw [e]
        exact vp_n (by omega) (by decide)
      rw [nI_succ k] at ih'
      refine J.run csX4_init 30 [(159, 2)] ?_
      refine ⟨fun q => absurd ((n_le (a := 3) (b := k) (by decide) (by omega)).mp q) (by omega), fun _ => ⟨v, ?_⟩⟩
      refine J.cast ih' rfl rfl ?_
      show mw _ (upd (zMl k) (74 + 19 * k) 2) _ = mw (0, 0, 0, 0) (upd (zMl k) (nI 74 + nI 19 * nI k + nI 0).toNatClampNeg 2) (fun _ => 0, fun _ => 0, fun _ => 0, fun _ => 0, fun _ => 0)
      rw [e, cl_n (by omega)]
  have L2 : ∀ d k : Nat, k + d = 6 → J MX4_init Φ 0 0 97 [(0, .ref 0), (1, .int (nI k))] [] (mw (0, 0, 0, 0) (zVn k) (fun _ => 0, fun _ => 0, fun _ => 0, fun _ => 0, fun _ => 0)) := by
    intro d
    induction d with
    | zero =>
      intro k hk
      obtain rfl : k = 6 := by omega
      refine J.run csX4_init 20 [(159, 2)] ?_
      refine ⟨fun _ => ⟨vp_n (a := 72) (by decide) (by decide), ?_⟩, fun q => absurd ((n_le (a := 6) (b := 6) (by decide) (by omega)).mpr (by omega)) q⟩
      exact L3 3 0 rfl
    | succ d ih =>
      intro k hk
      have ih' := ih (k + 1) (by omega)
      have e : nI 48 + nI 4 * nI k = nI (48 + 4 * k) := by rw [n_mul, nI_add]
      have v0 : vp_in (nI 48 + nI 4 * nI k) 150 := by
        rw [e]
        exact vp_n (by omega) (by decide)
      have v1 : vp_in (nI 48 + nI 4 * nI k + nI 1) 150 := by
        rw [e, nI_add]
        exact vp_n (by omega) (by decide)
      have v2 : vp_in (nI 48 + nI 4 * nI k + nI 2) 150 := by
        rw [e, nI_add]
        exact vp_n (by omega) (by decide)
      rw [nI_succ k] at ih'
      refine J.run csX4_init 60 [(97, 2)] ?_
      refine ⟨fun q => absurd ((n_le (a := 6) (b := k) (by decide) (by omega)).mp q) (by omega), fun _ => ⟨v0, v1, v2, ?_⟩⟩
      refine J.cast ih' rfl rfl ?_
      show mw _ (upd (upd (upd (zVn k) (48 + 4 * k) (nI k)) (48 + 4 * k + 1) 2) (48 + 4 * k + 2) 1) _ = mw (0, 0, 0, 0) (upd (upd (upd (zVn k) (nI 48 + nI 4 * nI k).toNatClampNeg (nI k)) (nI 48 + nI 4 * nI k + nI 1).toNatClampNeg 2) (nI 48 + nI 4 * nI k + nI 2).toNatClampNeg 1) (fun _ => 0, fun _ => 0, fun _ => 0, fun _ => 0, fun _ => 0)
      rw [e, nI_add, nI_add, cl_n (by omega), cl_n (by omega), cl_n (by omega)]
  have L1 : ∀ d k : Nat, k + d = 24 → J MX4_init Φ 0 0 57 [(0, .ref 0), (1, .int (nI k))] [] (mw (0, 0, 0, 0) (zH k) (fun _ => 0, fun _ => 0, fun _ => 0, fun _ => 0, fun _ => 0)) := by
    intro d
    induction d with
    | zero =>
      intro k hk
      obtain rfl : k = 24 := by omega
      refine J.run csX4_init 20 [(97, 2)] ?_
      refine ⟨fun _ => ?_, fun q => absurd ((n_le (a := 24) (b := 24) (by decide) (by omega)).mpr (by omega)) q⟩
      exact L2 6 0 rfl
    | succ d ih =>
      intro k hk
      have ih' := ih (k + 1) (by omega)
      have e : nI 2 * nI k = nI (2 * k) := n_mul _ _
      have v0 : vp_in (nI 2 * nI k) 150 := by
        rw [e]
        exact vp_n (by omega) (by decide)
      have v1 : vp_in (nI 2 * nI k + nI 1) 150 := by
        rw [e, nI_add]
        exact vp_n (by omega) (by decide)
      rw [nI_succ k] at ih'
      refine J.run csX4_init 60 [(57, 2)] ?_
      refine ⟨fun q => absurd ((n_le (a := 24) (b := k) (by decide) (by omega)).mp q) (by omega), fun _ => ⟨n_ne8, v0, n_ne10, v1, ?_⟩⟩
      refine J.cast ih' rfl rfl ?_
      show mw _ (upd (upd (zH k) (2 * k) (nI (k % 8))) (2 * k + 1) (nI (k % 10))) _ = mw (0, 0, 0, 0) (upd (upd (zH k) (nI 2 * nI k).toNatClampNeg (nI k - nI k / 8 * 8)) (nI 2 * nI k + nI 1).toNatClampNeg (nI k - nI k / 10 * 10)) (fun _ => 0, fun _ => 0, fun _ => 0, fun _ => 0, fun _ => 0)
      rw [e, nI_add, cl_n (by omega), cl_n (by omega), n_rem8 (by omega), n_rem10 (by omega)]
  refine J.run csX4_init 1 [] ?_
  refine J.objI mRX4_1 a_ob.1 a_ob.2 dX4_init_1 (by decide) (Nat.le_of_ble_eq_true rfl) ?_
  refine J.run csX4_init 2 [] ?_
  refine J.newi 150 5 1412 (by decide) (by decide) ⟨rfl, by decide⟩ dX4_init_8 rfl ⟨rfl, trivial⟩ rfl rfl (by decide) ?_
  refine J.run csX4_init 3 [] ?_
  refine J.newi 150 4 1262 (by decide) (by decide) ⟨rfl, by decide⟩ dX4_init_17 rfl ⟨rfl, trivial, trivial⟩ rfl rfl (by decide) ?_
  refine J.run csX4_init 3 [] ?_
  refine J.newi 900 3 362 (by decide) (by decide) ⟨rfl, by decide⟩ dX4_init_26 rfl ⟨rfl, trivial, trivial, trivial⟩ rfl rfl (by decide) ?_
  refine J.run csX4_init 3 [] ?_
  refine J.newi 300 2 62 (by decide) (by decide) ⟨rfl, by decide⟩ dX4_init_35 rfl ⟨rfl, trivial, trivial, trivial, trivial⟩ rfl rfl (by decide) ?_
  refine J.run csX4_init 3 [] ?_
  refine J.newz 2 1 60 (by decide) (by decide) ⟨rfl, by decide⟩ dX4_init_42 rfl ⟨rfl, trivial, trivial, trivial, trivial, trivial⟩ rfl rfl (by decide) ?_
  refine J.run csX4_init 3 [] ?_
  refine J.newi 60 0 0 (by decide) (by decide) ⟨rfl, by decide⟩ dX4_init_50 rfl ⟨rfl, trivial, trivial, trivial, trivial, trivial, trivial⟩ rfl rfl (by decide) ?_
  refine J.run csX4_init 10 [(57, 2)] ?_
  exact L1 24 0 rfl
