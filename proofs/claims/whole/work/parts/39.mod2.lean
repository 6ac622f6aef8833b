/-! The model's committee, hours, rates. -/
theorem com_s (A : aV) (hA : vOk A) (n : Nat) (hn : n < 6) : cntN (free A) (n + 1) = cntN (free A) n + (1 - v_vn A n 3) := by
  have h3 := (hA.2.2.2.1 n hn).2.2.2
  show cntN (free A) n + (if free A n = true then 1 else 0) = _
  unfold free
  by_cases q : v_vn A n 3 = 0
  · rw [if_pos (decide_eq_true q), q]
  · rw [if_neg (by rw [decide_eq_true_iff]; exact q)]
    omega
theorem c_X4_committee {A : aV} {t : mT} {z : Nat → Int32} {r : mR} (hA : vOk A) (hz : zRel A z) : Ct MX4_committee 0 0 [.ref 0] (mw t z r) (jd (.inl (some (.int (nI (com A))))) (mw t z r)) := by
  refine Ct.of rfl rfl (by decide +kernel) rfl (Nat.le_of_ble_eq_true rfl) ?_
  generalize hΦ : jd (.inl (some (.int (nI (com A))))) (mw t z r) = Φ
  have L : ∀ (d i : Nat), i + d = 6 → J MX4_committee Φ 0 0 4 [(0, .ref 0), (1, .int (nI (cntN (free A) i))), (2, .int (nI i))] [] (mw t z r) := by
    intro d
    induction d with
    | zero =>
      intro i hi
      refine J.run csX4_committee 20 [] ?_
      refine ⟨fun _ => ?_, fun h => absurd ((n_le (a := 6) (b := i) (by omega) (by omega)).mpr (by omega)) h⟩
      rw [← hΦ]
      exact jd_i (by rw [show i = 6 by omega]; rfl) rfl
    | succ d ih =>
      intro i hi
      have hi6 : i < 6 := by omega
      have h3 := (hA.2.2.2.1 i hi6).2.2.2
      have ih' := ih (i + 1) (by omega)
      rw [com_s A hA i hi6, ← nI_add, ← pk_sub (a := 1) (by omega), nI_succ i] at ih'
      refine J.run csX4_committee 3 [] ?_
      refine ⟨fun h => absurd ((n_le (a := 6) (b := i) (by omega) (by omega)).mp h) (by omega), fun _ => ?_⟩
      refine J.run csX4_committee 5 [] ?_
      refine J.callR [.int (nI 1), .int (nI (cntN (free A) i))] (c_X4_vaneAt hi6 (show 3 < 4 by decide)) kX4_vaneAt mRX4_43 dX4_committee_15 (by decide) rfl rfl (Nat.le_of_ble_eq_true rfl) (i0 := 0) rfl (ci := 4) rfl rfl ?_
      rw [hz.2.1 i hi6 3 (by decide)]
      refine J.run csX4_committee 10 [(4, 3)] ?_
      exact ih'
  refine J.run csX4_committee 10 [(4, 3)] ?_
  exact L 6 0 (Nat.zero_add _)
theorem c_X4_agreeing {A : aV} {t : mT} {z : Nat → Int32} {r : mR} {h : Nat} (hA : vOk A) (hz : zRel A z) (hh : h < 24) : Ct MX4_agreeing 0 0 [.ref 0, .int (nI h)] (mw t z r) (jd (.inl (some (.int (nI (vot A h))))) (mw t z r)) := by
  refine Ct.of rfl rfl (by decide +kernel) rfl (Nat.le_of_ble_eq_true rfl) ?_
  generalize hΦ : jd (.inl (some (.int (nI (vot A h))))) (mw t z r) = Φ
  have L : ∀ (d i : Nat), i + d = 6 → J MX4_agreeing Φ 0 0 4 [(0, .ref 0), (1, .int (nI h)), (2, .int (nI (cntN (fun i => free A i && agr A i h) i))), (3, .int (nI i))] [] (mw t z r) := by
    intro d
    induction d with
    | zero =>
      intro i hi
      refine J.run csX4_agreeing 20 [] ?_
      refine ⟨fun _ => ?_, fun h => absurd ((n_le (a := 6) (b := i) (by omega) (by omega)).mpr (by omega)) h⟩
      rw [← hΦ]
      exact jd_i (by rw [show i = 6 by omega]; rfl) rfl
    | succ d ih =>
      intro i hi
      have hi6 : i < 6 := by omega
      have h3 := (hA.2.2.2.1 i hi6).2.2.2
      have ih' := ih (i + 1) (by omega)
      rw [nI_succ i] at ih'
      have N : (free A i && agr A i h) = false → J MX4_agreeing Φ 0 0 4 [(0, .ref 0), (1, .int (nI h)), (2, .int (nI (cntN (fun i => free A i && agr A i h) i) + nI 0)), (3, .int (nI i + 1))] [] (mw t z r) := fun e => by
        rw [nI_add, Nat.add_zero]
        rw [cntN_n (p := fun i => free A i && agr A i h) e] at ih'
        exact ih'
      have Y : (free A i && agr A i h) = true → J MX4_agreeing Φ 0 0 4 [(0, .ref 0), (1, .int (nI h)), (2, .int (nI (cntN (fun i => free A i && agr A i h) i) + nI 1)), (3, .int (nI i + 1))] [] (mw t z r) := fun e => by
        rw [cntN_s (p := fun i => free A i && agr A i h) e] at ih'
        exact ih'
      refine J.run csX4_agreeing 3 [] ?_
      refine ⟨fun h => absurd ((n_le (a := 6) (b := i) (by omega) (by omega)).mp h) (by omega), fun _ => ?_⟩
      refine J.run csX4_agreeing 4 [] ?_
      refine J.callR [.int (nI (cntN (fun i => free A i && agr A i h) i))] (c_X4_vaneAt hi6 (show 3 < 4 by decide)) kX4_vaneAt mRX4_43 dX4_agreeing_14 (by decide) rfl rfl (Nat.le_of_ble_eq_true rfl) (i0 := 0) rfl (ci := 4) rfl rfl ?_
      rw [hz.2.1 i hi6 3 (by decide)]
      refine J.run csX4_agreeing 10 [(4, 4)] ?_
      refine ⟨fun q => ?_, fun q => ?_⟩
      · have q : ¬ nI (v_vn A i 3) = 0 := q
        rw [n_eq0 (by omega)] at q
        exact N (by unfold free; rw [decide_eq_false q]; rfl)
      · have q : nI (v_vn A i 3) = 0 := q
        rw [n_eq0 (by omega)] at q
        have hf : free A i = true := decide_eq_true q
        refine J.callR [.int (nI (cntN (fun i => free A i && agr A i h) i))] (c_X4_agrees hA hz hi6 hh) kX4_agrees mRX4_47 dX4_agreeing_23 (by decide) rfl rfl (Nat.le_of_ble_eq_true rfl) (i0 := 0) rfl (ci := 4) rfl rfl ?_
        cases ha : agr A i h with
        | true =>
          refine J.run csX4_agreeing 10 [(4, 4)] ?_
          exact ⟨fun q => absurd q (by decide), fun _ => Y (by rw [hf, ha]; rfl)⟩
        | false =>
          refine J.run csX4_agreeing 10 [(4, 4)] ?_
          exact ⟨fun _ => N (by rw [hf, ha]; rfl), fun q => absurd rfl q⟩
  refine J.run csX4_agreeing 10 [(4, 4)] ?_
  exact L 6 0 (Nat.zero_add _)
theorem c_X4_whyNot {A : aV} {t : mT} {z : Nat → Int32} {r : mR} {h : Nat} (hA : vOk A) (hz : zRel A z) (hh : h < 24) : Ct MX4_whyNot 0 0 [.ref 0, .int (nI h)] (mw t z r) (jd (.inl (some (.int (nI (vdi A h))))) (mw t z r)) := by
  have hc := com_le A
  have hv := vot_le A h
  obtain ⟨g1, g2, g3⟩ := hA.2.2.2.2.1
  have z0 : z 72 = nI (v_se A 0) := hz.2.2.1 0 (by decide)
  have z1 : z 73 = nI (v_se A 1) := hz.2.2.1 1 (by decide)
  have ev : vdi A h = if com A < v_se A 0 then 1 else if com A < 2 * vot A h ∨ (2 * vot A h = com A ∧ v_se A 1 = 1) then 0 else 2 := rfl
  refine Ct.of rfl rfl (by decide +kernel) rfl (Nat.le_of_ble_eq_true rfl) ?_
  generalize hΦ : jd (.inl (some (.int (nI (vdi A h))))) (mw t z r) = Φ
  refine J.run csX4_whyNot 1 [] ?_
  refine J.callR [] (c_X4_committee hA hz) kX4_committee mRX4_51 dX4_whyNot_1 (by decide) rfl rfl (Nat.le_of_ble_eq_true rfl) (i0 := 0) rfl (ci := 4) rfl rfl ?_
  refine J.run csX4_whyNot 12 [(18, 3)] ?_
  refine ⟨vp_c (by decide), fun q => ?_, fun q => ?_⟩
  · have q : z 72 ≤ nI (com A) := q
    rw [z0, n_le (by omega) (by omega)] at q
    refine J.run csX4_whyNot 3 [] ?_
    refine J.callR [.int (nI 2)] (c_X4_agreeing hA hz hh) kX4_agreeing mRX4_55 dX4_whyNot_21 (by decide) rfl rfl (Nat.le_of_ble_eq_true rfl) (i0 := 0) rfl (ci := 4) rfl rfl ?_
    have e2 : nI 2 * nI (vot A h) = nI (2 * vot A h) := n_mul _ _
    have T : com A < 2 * vot A h ∨ (2 * vot A h = com A ∧ v_se A 1 = 1) → Φ (.inl (some (.int 0))) (mw t z r) := fun w => by
      rw [← hΦ]
      exact jd_i (by rw [ev, if_neg (by omega), if_pos w]; rfl) rfl
    have F : ¬ (com A < 2 * vot A h ∨ (2 * vot A h = com A ∧ v_se A 1 = 1)) → Φ (.inl (some (.int 2))) (mw t z r) := fun w => by
      rw [← hΦ]
      exact jd_i (by rw [ev, if_neg (by omega), if_neg w]; rfl) rfl
    refine J.run csX4_whyNot 30 [] ?_
    refine ⟨fun q2 => ?_, fun q2 => ⟨vp_c (by decide), fun q3 => ?_, fun q3 => ⟨fun q4 => ?_, fun q4 => ?_⟩⟩⟩
    · have q2 : nI (com A) < nI 2 * nI (vot A h) := q2
      rw [e2, n_lt (by omega) (by omega)] at q2
      exact T (Or.inl q2)
    · have q2 : ¬ nI (com A) < nI 2 * nI (vot A h) := q2
      have q3 : ¬ z 73 = nI 1 := q3
      rw [e2, n_lt (by omega) (by omega)] at q2
      rw [z1, n_eq (by omega) (by omega)] at q3
      exact F (by omega)
    · have q2 : ¬ nI (com A) < nI 2 * nI (vot A h) := q2
      have q4 : ¬ nI 2 * nI (vot A h) = nI (com A) := q4
      rw [e2, n_lt (by omega) (by omega)] at q2
      rw [e2, n_eq (by omega) (by omega)] at q4
      exact F (by omega)
    · have q3 : z 73 = nI 1 := q3
      have q4 : nI 2 * nI (vot A h) = nI (com A) := q4
      rw [e2, n_eq (by omega) (by omega)] at q4
      rw [z1, n_eq (by omega) (by omega)] at q3
      exact T (Or.inr ⟨q4, q3⟩)
  · have q : ¬ z 72 ≤ nI (com A) := q
    rw [z0, n_le (by omega) (by omega)] at q
    rw [← hΦ]
    exact jd_i (by rw [ev, if_pos (by omega)]; rfl) rfl
theorem c_X4_hoursOfDay {A : aV} {t : mT} {z : Nat → Int32} {r : mR} (hA : vOk A) (hz : zRel A z) : Ct MX4_hoursOfDay 0 0 [.ref 0] (mw t z r) (jd (.inl (some (.int (nI (agh A))))) (mw t z r)) := by
  refine Ct.of rfl rfl (by decide +kernel) rfl (Nat.le_of_ble_eq_true rfl) ?_
  generalize hΦ : jd (.inl (some (.int (nI (agh A))))) (mw t z r) = Φ
  have L : ∀ (d i : Nat), i + d = 24 → J MX4_hoursOfDay Φ 0 0 4 [(0, .ref 0), (1, .int (nI (cntN (trn A) i))), (2, .int (nI i))] [] (mw t z r) := by
    intro d
    induction d with
    | zero =>
      intro i hi
      refine J.run csX4_hoursOfDay 20 [] ?_
      refine ⟨fun _ => ?_, fun h => absurd ((n_le (a := 24) (b := i) (by omega) (by omega)).mpr (by omega)) h⟩
      rw [← hΦ]
      exact jd_i (by rw [show i = 24 by omega]; rfl) rfl
    | succ d ih =>
      intro i hi
      have hi6 : i < 24 := by omega
      have hle := vdi_le A i
      have ih' := ih (i + 1) (by omega)
      rw [nI_succ i] at ih'
      refine J.run csX4_hoursOfDay 3 [] ?_
      refine ⟨fun h => absurd ((n_le (a := 24) (b := i) (by omega) (by omega)).mp h) (by omega), fun _ => ?_⟩
      refine J.run csX4_hoursOfDay 3 [] ?_
      refine J.callR [.int (nI (cntN (trn A) i))] (c_X4_whyNot hA hz hi6) kX4_whyNot mRX4_59 dX4_hoursOfDay_13 (by decide) rfl rfl (Nat.le_of_ble_eq_true rfl) (i0 := 0) rfl (ci := 4) rfl rfl ?_
      refine J.run csX4_hoursOfDay 10 [(4, 3)] ?_
      refine ⟨fun q => ?_, fun q => ?_⟩
      · have q : ¬ nI (vdi A i) = 0 := q
        rw [n_eq0 (by omega)] at q
        rw [cntN_n (by unfold trn; exact decide_eq_false q)] at ih'
        have X : J MX4_hoursOfDay Φ 0 0 4 [(0, .ref 0), (1, .int (nI (cntN (trn A) i) + nI 0)), (2, .int (nI i + 1))] [] (mw t z r) := by
          rw [nI_add]
          exact ih'
        exact X
      · have q : nI (vdi A i) = 0 := q
        rw [n_eq0 (by omega)] at q
        rw [cntN_s (by unfold trn; exact decide_eq_true q)] at ih'
        exact ih'
  refine J.run csX4_hoursOfDay 10 [(4, 3)] ?_
  exact L 24 0 (Nat.zero_add _)
theorem c_X4_much {A : aV} {t : mT} {z : Nat → Int32} {r : mR} {m h : Nat} (hA : vOk A) (hz : zRel A z) (hm : m < 3) (hh : h < 24) : Ct MX4_much 0 0 [.ref 0, .int (nI m), .int (nI h)] (mw t z r) (jd (.inl (some (.int (nI (rat A m h))))) (mw t z r)) := by
  have hle := vdi_le A h
  have hsg := (hA.2.2.1 h hh).2
  have hsp := (hA.2.2.2.2.2 m hm).1
  refine Ct.of rfl rfl (by decide +kernel) rfl (Nat.le_of_ble_eq_true rfl) ?_
  generalize hΦ : jd (.inl (some (.int (nI (rat A m h))))) (mw t z r) = Φ
  refine J.run csX4_much 2 [] ?_
  refine J.callR [] (c_X4_whyNot hA hz hh) kX4_whyNot mRX4_59 dX4_much_2 (by decide) rfl rfl (Nat.le_of_ble_eq_true rfl) (i0 := 0) rfl (ci := 4) rfl rfl ?_
  refine J.run csX4_much 1 [] ?_
  refine ⟨fun q => ?_, fun q => ?_⟩
  · have q : ¬ nI (vdi A h) = 0 := q
    rw [n_eq0 (by omega)] at q
    have e : rat A m h = 0 := if_neg (by unfold trn; rw [decide_eq_true_iff]; exact q)
    refine J.run csX4_much 4 [] ?_
    rw [← hΦ]
    exact jd_i (by rw [e]; rfl) rfl
  · have q : nI (vdi A h) = 0 := q
    rw [n_eq0 (by omega)] at q
    have e : rat A m h = m_sp (v_ml A m) * v_sg A h / 4 := if_pos (by unfold trn; exact decide_eq_true q)
    refine J.run csX4_much 3 [] ?_
    refine J.callR [] (c_X4_millAt hm (show 0 < 19 by decide)) kX4_millAt mRX4_62 dX4_much_11 (by decide) rfl rfl (Nat.le_of_ble_eq_true rfl) (i0 := 0) rfl (ci := 4) rfl rfl ?_
    rw [show 74 + 19 * m + 0 = 74 + 19 * m from rfl, (hz.2.2.2.1 m hm).1]
    have ei : nI 2 * nI h + nI 1 = nI (2 * h + 1) := by rw [n_mul, nI_add]
    have hb : m_sp (v_ml A m) * v_sg A h ≤ 9 * 9 := Nat.mul_le_mul hsp (by omega)
    refine J.run csX4_much 30 [] ?_
    refine ⟨?_, n_ne4, ?_⟩
    · show vp_in (nI 2 * nI h + nI 1) 150
      rw [ei]
      exact vp_n (by omega) (by decide)
    · rw [← hΦ]
      refine jd_i ?_ rfl
      show Sum.inl (some (Value.int (nI (m_sp (v_ml A m)) * z (nI 2 * nI h + nI 1).toNatClampNeg / 4))) = _
      rw [ei, cl_n (by omega), (hz.1 h hh).2, n_mul, n_div4 (by omega), e]
theorem c_X4_muchInDay {A : aV} {t : mT} {z : Nat → Int32} {r : mR} {m : Nat} (hA : vOk A) (hz : zRel A z) (hm : m < 3) : Ct MX4_muchInDay 0 0 [.ref 0, .int (nI m)] (mw t z r) (jd (.inl (some (.int (nI (day A m))))) (mw t z r)) := by
  refine Ct.of rfl rfl (by decide +kernel) rfl (Nat.le_of_ble_eq_true rfl) ?_
  generalize hΦ : jd (.inl (some (.int (nI (day A m))))) (mw t z r) = Φ
  have L : ∀ (d i : Nat), i + d = 24 → J MX4_muchInDay Φ 0 0 4 [(0, .ref 0), (1, .int (nI m)), (2, .int (nI (sumN (rat A m) i))), (3, .int (nI i))] [] (mw t z r) := by
    intro d
    induction d with
    | zero =>
      intro i hi
      refine J.run csX4_muchInDay 20 [] ?_
      refine ⟨fun _ => ?_, fun h => absurd ((n_le (a := 24) (b := i) (by omega) (by omega)).mpr (by omega)) h⟩
      rw [← hΦ]
      exact jd_i (by rw [show i = 24 by omega]; rfl) rfl
    | succ d ih =>
      intro i hi
      have ih' := ih (i + 1) (by omega)
      rw [sumN_s, nI_succ i] at ih'
      refine J.run csX4_muchInDay 3 [] ?_
      refine ⟨fun h => absurd ((n_le (a := 24) (b := i) (by omega) (by omega)).mp h) (by omega), fun _ => ?_⟩
      refine J.run csX4_muchInDay 4 [] ?_
      refine J.callR [.int (nI (sumN (rat A m) i))] (c_X4_much hA hz hm (by omega)) kX4_much mRX4_65 dX4_muchInDay_14 (by decide) rfl rfl (Nat.le_of_ble_eq_true rfl) (i0 := 0) rfl (ci := 4) rfl rfl ?_
      refine J.run csX4_muchInDay 10 [(4, 4)] ?_
      exact ih'
  refine J.run csX4_muchInDay 10 [(4, 4)] ?_
  exact L 24 0 (Nat.zero_add _)
