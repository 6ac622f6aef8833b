/-! Constructors: a mill, a text, the model. -/
theorem a_ob : Cond.instanceMethod objectInit ∈ j_ws ∧ Cond.code objectInit ⟨#[0xb1]⟩ 1 none ∈ j_ws := ⟨j_in (List.mem_of_getElem? (i := 23) (by decide +kernel)) rfl, j_in (List.mem_of_getElem? (i := 24) (by decide +kernel)) rfl⟩
theorem a_ai : Cond.arrayClass .int ∈ j_ws := j_in (List.mem_of_getElem? (i := 62) (by decide +kernel)) rfl
theorem a_az : Cond.arrayClass .boolean ∈ j_ws := j_in (List.mem_of_getElem? (i := 126) (by decide +kernel)) rfl
theorem a_n0 : Cond.instantiable RX0 5 ∈ j_ws := j_in (List.mem_of_getElem? (i := 35) (by decide +kernel)) rfl
theorem a_n1 : Cond.instantiable RX1 12 ∈ j_ws := j_in (List.mem_of_getElem? (i := 26) (by decide +kernel)) rfl
theorem a_n2 : Cond.instantiable RX2 2 ∈ j_ws := j_in (List.mem_of_getElem? (i := 114) (by decide +kernel)) rfl
theorem a_n3 : Cond.instantiable RX3 8 ∈ j_ws := j_in (List.mem_of_getElem? (i := 18) (by decide +kernel)) rfl
/-- a row of numbers, all 0 -/
theorem J.newi {M : j_M} {Φ : j_F} {bc bs pc : Nat} {lv : j_L} {rest : List Value} {h : j_H} {n9 : Int32} (N bc1 bs1 : Nat) (hbc : bc1 + 1 ≤ bc) (hbs : bs1 + N ≤ bs) (hn : n9 = nI N ∧ N < 100000) (hd : decode (jm_b M) pc = .ok (.newarray .int, 2)) (ha : jm_a M = true) (hb : j_bdL h.length h) (hlv : (lv.all fun q => j_vb h.length q.2) = true) (hr : rest.all (j_vb h.length) = true) (hs : h.length + 1 ≤ j_sid)
    (k : J M Φ bc1 bs1 (pc + 2) lv (.ref h.length :: rest) (h ++ [.inl (0, N, .inl (fun _ => 0))])) : J M Φ bc bs pc lv (.int n9 :: rest) h :=
  J.less hbc hbs (J.newa (ty := .int) (atype := .int) 0 rfl rfl a_ai hn (fun _ => rfl) (fun _ => rfl) (by decide) hd ha hb hlv hr hs k)
theorem J.newz {M : j_M} {Φ : j_F} {bc bs pc : Nat} {lv : j_L} {rest : List Value} {h : j_H} {n9 : Int32} (N bc1 bs1 : Nat) (hbc : bc1 + 1 ≤ bc) (hbs : bs1 + N ≤ bs) (hn : n9 = nI N ∧ N < 100000) (hd : decode (jm_b M) pc = .ok (.newarray .boolean, 2)) (ha : jm_a M = true) (hb : j_bdL h.length h) (hlv : (lv.all fun q => j_vb h.length q.2) = true) (hr : rest.all (j_vb h.length) = true) (hs : h.length + 1 ≤ j_sid)
    (k : J M Φ bc1 bs1 (pc + 2) lv (.ref h.length :: rest) (h ++ [.inl (2, N, .inl (fun _ => 0))])) : J M Φ bc bs pc lv (.int n9 :: rest) h :=
  J.less hbc hbs (J.newa (ty := .boolean) (atype := .boolean) 2 rfl rfl a_az hn (fun _ => rfl) (fun _ => rfl) (by decide) hd ha hb hlv hr hs k)
theorem c_X0_init : Ct MX0_init 2 16 [.ref 0] [.inr (0, [.int 0, .int 0, .int 0, .null, .null])] (jd (.inl none) (milr 2 0 0 (fun _ => 0) (fun _ => 0))) := by
  refine Ct.of rfl rfl (by decide +kernel) rfl (Nat.le_of_ble_eq_true rfl) ?_
  refine J.run csX0_init 1 [] ?_
  refine J.objI mRX0_3 a_ob.1 a_ob.2 dX0_init_1 (by decide) (Nat.le_of_ble_eq_true rfl) ?_
  refine J.run csX0_init 30 [] ?_
  refine J.newi 8 1 8 (by decide) (by decide) ⟨rfl, by decide⟩ dX0_init_22 rfl ⟨rfl, trivial⟩ rfl rfl (by decide) ?_
  refine J.run csX0_init 30 [] ?_
  refine J.newi 8 0 0 (by decide) (by decide) ⟨rfl, by decide⟩ dX0_init_30 rfl ⟨rfl, trivial, trivial⟩ rfl rfl (by decide) ?_
  refine J.run csX0_init 30 [] ?_
  exact jd_i rfl rfl
theorem c_X2_init : Ct MX2_init 1 60 [.ref 0] [.inr (2, [.null, .int 0])] (jd (.inl none) (txt 0 (fun _ => 0))) := by
  refine Ct.of rfl rfl (by decide +kernel) rfl (Nat.le_of_ble_eq_true rfl) ?_
  refine J.run csX2_init 1 [] ?_
  refine J.objI mRX2_3 a_ob.1 a_ob.2 dX2_init_1 (by decide) (Nat.le_of_ble_eq_true rfl) ?_
  refine J.run csX2_init 30 [] ?_
  refine J.newi 60 0 0 (by decide) (by decide) ⟨rfl, by decide⟩ dX2_init_7 rfl ⟨rfl, trivial⟩ rfl rfl (by decide) ?_
  refine J.run csX2_init 30 [] ?_
  exact jd_i rfl rfl
/-- the model's row at the start -/
def zH : Nat → Nat → Int32
  | 0 => fun _ => 0
  | k + 1 => upd (upd (zH k) (2 * k) (nI (k % 8))) (2 * k + 1) (nI (k % 10))
def zVn : Nat → Nat → Int32
  | 0 => zH 24
  | k + 1 => upd (upd (upd (zVn k) (48 + 4 * k) (nI k)) (48 + 4 * k + 1) 2) (48 + 4 * k + 2) 1
def zMl : Nat → Nat → Int32
  | 0 => upd (zVn 6) 72 3
  | k + 1 => upd (zMl k) (74 + 19 * k) 2
theorem n_rem10 {a : Nat} (h : a < 2 ^ 31) : nI a - nI a / 10 * 10 = nI (a % 10) := pk_rem (d := 10) h (by decide) (by decide)
theorem n_ne10 : ¬ (10 : Int32) = 0 := by decide
