/-! The model's looks by number. -/
theorem c_X4_hourNow {A : aV} {t : mT} {z : Nat → Int32} {r : mR} {i w : Nat} (hA : vOk A) (hz : zRel A z) (hi : i < 24) (hw : w ≤ 4) : Ct MX4_hourNow 0 0 [.ref 0, .int (nI i), .int (nI w)] (mw t z r) (jd (.inl (some (.int (hoV A i w)))) (mw t z r)) := by
  refine Ct.of rfl rfl (by decide +kernel) rfl (Nat.le_of_ble_eq_true rfl) ?_
  generalize hΦ : jd (.inl (some (.int (hoV A i w)))) (mw t z r) = Φ
  have hc : w = 0 ∨ w = 1 ∨ w = 2 ∨ w = 3 ∨ w = 4 := by omega
  rcases hc with rfl | rfl | rfl | rfl | rfl
  · refine J.run csX4_hourNow 2 [(32, 3), (43, 3), (49, 3), (55, 3)] ?_
    refine ⟨fun _ => ?_, fun q => absurd rfl q⟩
    have e : nI 2 * nI i + nI 0 = nI (2 * i + 0) := by rw [n_mul, nI_add]
    refine J.run csX4_hourNow 20 [] ?_
    refine ⟨?_, ?_⟩
    · show vp_in (nI 2 * nI i + nI 0) 150
      rw [e]
      exact vp_n (by omega) (by decide)
    · rw [← hΦ]
      refine jd_i ?_ rfl
      show Sum.inl (some (Value.int (z (nI 2 * nI i + nI 0).toNatClampNeg))) = _
      rw [e, cl_n (by omega)]
      exact congrArg (fun x => Sum.inl (some (Value.int x))) (hz.1 i hi).1
  · refine J.run csX4_hourNow 2 [(32, 3), (43, 3), (49, 3), (55, 3)] ?_
    refine ⟨fun q => absurd q (by decide), fun _ => ⟨fun _ => ?_, fun q => absurd rfl q⟩⟩
    have e : nI 2 * nI i + nI 1 = nI (2 * i + 1) := by rw [n_mul, nI_add]
    refine J.run csX4_hourNow 20 [] ?_
    refine ⟨?_, ?_⟩
    · show vp_in (nI 2 * nI i + nI 1) 150
      rw [e]
      exact vp_n (by omega) (by decide)
    · rw [← hΦ]
      refine jd_i ?_ rfl
      show Sum.inl (some (Value.int (z (nI 2 * nI i + nI 1).toNatClampNeg))) = _
      rw [e, cl_n (by omega)]
      exact congrArg (fun x => Sum.inl (some (Value.int x))) (hz.1 i hi).2
  · refine J.run csX4_hourNow 2 [(32, 3), (43, 3), (49, 3), (55, 3)] ?_
    refine ⟨fun q => absurd q (by decide), fun _ => ⟨fun q => absurd q (by decide), fun _ => ⟨fun _ => ?_, fun q => absurd rfl q⟩⟩⟩
    refine J.run csX4_hourNow 20 [] ?_
    refine J.callR [] (c_X4_agreeing hA hz hi) kX4_agreeing mRX4_55 dX4_hourNow_45 (by decide) rfl rfl (Nat.le_of_ble_eq_true rfl) (i0 := 0) rfl (ci := 4) rfl rfl ?_
    refine J.run csX4_hourNow 5 [] ?_
    rw [← hΦ]
    exact jd_i rfl rfl
  · refine J.run csX4_hourNow 2 [(32, 3), (43, 3), (49, 3), (55, 3)] ?_
    refine ⟨fun q => absurd q (by decide), fun _ => ⟨fun q => absurd q (by decide), fun _ => ⟨fun q => absurd q (by decide), fun _ => ⟨fun _ => ?_, fun q => absurd rfl q⟩⟩⟩⟩
    refine J.run csX4_hourNow 20 [] ?_
    refine J.callR [] (c_X4_whyNot hA hz hi) kX4_whyNot mRX4_59 dX4_hourNow_51 (by decide) rfl rfl (Nat.le_of_ble_eq_true rfl) (i0 := 0) rfl (ci := 4) rfl rfl ?_
    refine J.run csX4_hourNow 5 [] ?_
    rw [← hΦ]
    exact jd_i rfl rfl
  · refine J.run csX4_hourNow 2 [(32, 3), (43, 3), (49, 3), (55, 3)] ?_
    refine ⟨fun q => absurd q (by decide), fun _ => ⟨fun q => absurd q (by decide), fun _ => ⟨fun q => absurd q (by decide), fun _ => ⟨fun q => absurd q (by decide), fun _ => ?_⟩⟩⟩⟩
    refine J.run csX4_hourNow 20 [] ?_
    refine J.callR [] (c_X4_much hA hz (show 0 < 3 by decide) hi) kX4_much mRX4_65 dX4_hourNow_58 (by decide) rfl rfl (Nat.le_of_ble_eq_true rfl) (i0 := 0) rfl (ci := 4) rfl rfl ?_
    refine J.run csX4_hourNow 20 [] ?_
    refine J.callR [.int (nI (rat A 0 i))] (c_X4_much hA hz (show 1 < 3 by decide) hi) kX4_much mRX4_65 dX4_hourNow_64 (by decide) rfl rfl (Nat.le_of_ble_eq_true rfl) (i0 := 0) rfl (ci := 4) rfl rfl ?_
    refine J.run csX4_hourNow 20 [] ?_
    refine J.callR [.int (nI (rat A 0 i) + nI (rat A 1 i))] (c_X4_much hA hz (show 2 < 3 by decide) hi) kX4_much mRX4_65 dX4_hourNow_71 (by decide) rfl rfl (Nat.le_of_ble_eq_true rfl) (i0 := 0) rfl (ci := 4) rfl rfl ?_
    refine J.run csX4_hourNow 5 [] ?_
    rw [← hΦ]
    refine jd_i ?_ rfl
    show Sum.inl (some (Value.int (nI (rat A 0 i) + nI (rat A 1 i) + nI (rat A 2 i)))) = _
    rw [nI_add, nI_add]
    rfl
theorem c_X4_vaneNow {A : aV} {t : mT} {z : Nat → Int32} {r : mR} {i w : Nat} (hA : vOk A) (hz : zRel A z) (hi : i < 6) (hw : w ≤ 5) : Ct MX4_vaneNow 0 0 [.ref 0, .int (nI i), .int (nI w)] (mw t z r) (jd (.inl (some (.int (vaV A i w)))) (mw t z r)) := by
  refine Ct.of rfl rfl (by decide +kernel) rfl (Nat.le_of_ble_eq_true rfl) ?_
  generalize hΦ : jd (.inl (some (.int (vaV A i w)))) (mw t z r) = Φ
  by_cases w4 : w < 4
  · have ev : vaV A i w = nI (v_vn A i w) := if_pos w4
    refine J.run csX4_vaneNow 3 [] ?_
    refine ⟨fun q => absurd ((n_le (a := 4) (b := w) (by decide) (by omega)).mp q) (by omega), fun _ => ?_⟩
    refine J.run csX4_vaneNow 20 [] ?_
    refine J.callR [] (c_X4_vaneAt hi w4) kX4_vaneAt mRX4_43 dX4_vaneNow_8 (by decide) rfl rfl (Nat.le_of_ble_eq_true rfl) (i0 := 0) rfl (ci := 4) rfl rfl ?_
    rw [hz.2.1 i hi w w4]
    refine J.run csX4_vaneNow 5 [] ?_
    rw [← hΦ]
    exact jd_i (by rw [ev]) rfl
  · have hc : w = 4 ∨ w = 5 := by omega
    rcases hc with rfl | rfl
    · refine J.run csX4_vaneNow 3 [] ?_
      refine ⟨fun _ => ?_, fun q => absurd (by decide) q⟩
      refine J.run csX4_vaneNow 3 [] ?_
      refine ⟨fun q => absurd rfl q, fun _ => ?_⟩
      refine J.run csX4_vaneNow 20 [] ?_
      refine J.callR [] (c_X4_agreeingHours hA hz hi) kX4_agreeingHours mRX4_119 dX4_vaneNow_21 (by decide) rfl rfl (Nat.le_of_ble_eq_true rfl) (i0 := 0) rfl (ci := 4) rfl rfl ?_
      refine J.run csX4_vaneNow 5 [] ?_
      rw [← hΦ]
      exact jd_i rfl rfl
    · refine J.run csX4_vaneNow 3 [] ?_
      refine ⟨fun _ => ?_, fun q => absurd (by decide) q⟩
      refine J.run csX4_vaneNow 3 [] ?_
      refine ⟨fun _ => ?_, fun q => absurd q (by decide)⟩
      refine J.run csX4_vaneNow 20 [] ?_
      refine J.callR [] (c_X4_matters hA hz hi) kX4_matters mRX4_122 dX4_vaneNow_29 (by decide) rfl rfl (Nat.le_of_ble_eq_true rfl) (i0 := 0) rfl (ci := 4) rfl rfl ?_
      refine J.run csX4_vaneNow 5 [] ?_
      rw [← hΦ]
      exact jd_i rfl rfl
theorem c_X4_millNow {A : aV} {t : mT} {z : Nat → Int32} {r : mR} {i w : Nat} (hA : vOk A) (hz : zRel A z) (hi : i < 3) (hw : w ≤ 5) : Ct MX4_millNow 0 0 [.ref 0, .int (nI i), .int (nI w)] (mw t z r) (jd (.inl (some (.int (miV A i w)))) (mw t z r)) := by
  refine Ct.of rfl rfl (by decide +kernel) rfl (Nat.le_of_ble_eq_true rfl) ?_
  generalize hΦ : jd (.inl (some (.int (miV A i w)))) (mw t z r) = Φ
  have hl : (v_lo A i).length ≤ 8 := (hA.2.2.2.2.2 i hi).2.1
  obtain ⟨z0, z1, z2, z3⟩ := hz.2.2.2.1 i hi
  have z1 : z (74 + 19 * i + 1) = nI (v_lo A i).length := by rw [← z1]; congr 1; omega
  have z2 : z (74 + 19 * i + 2) = nI (m_gr (v_ml A i)) := by rw [← z2]; congr 1; omega
  have hc : w = 0 ∨ w = 1 ∨ w = 2 ∨ w = 3 ∨ w = 4 ∨ w = 5 := by omega
  rcases hc with rfl | rfl | rfl | rfl | rfl | rfl
  · refine J.run csX4_millNow 2 [(36, 3), (43, 3), (50, 3), (56, 3), (63, 3), (83, 3)] ?_
    refine ⟨fun _ => ?_, fun q => absurd rfl q⟩
    refine J.run csX4_millNow 20 [] ?_
    refine J.callR [] (c_X4_millAt hi (show 0 < 19 by decide)) kX4_millAt mRX4_62 dX4_millNow_39 (by decide) rfl rfl (Nat.le_of_ble_eq_true rfl) (i0 := 0) rfl (ci := 4) rfl rfl ?_
    rw [show z (74 + 19 * i + 0) = _ from z0]
    refine J.run csX4_millNow 5 [] ?_
    rw [← hΦ]
    exact jd_i rfl rfl
  · refine J.run csX4_millNow 2 [(36, 3), (43, 3), (50, 3), (56, 3), (63, 3), (83, 3)] ?_
    refine ⟨fun q => absurd q (by decide), fun _ => ⟨fun _ => ?_, fun q => absurd rfl q⟩⟩
    refine J.run csX4_millNow 20 [] ?_
    refine J.callR [] (c_X4_millAt hi (show 1 < 19 by decide)) kX4_millAt mRX4_62 dX4_millNow_46 (by decide) rfl rfl (Nat.le_of_ble_eq_true rfl) (i0 := 0) rfl (ci := 4) rfl rfl ?_
    rw [z1]
    refine J.run csX4_millNow 5 [] ?_
    rw [← hΦ]
    exact jd_i rfl rfl
  · refine J.run csX4_millNow 2 [(36, 3), (43, 3), (50, 3), (56, 3), (63, 3), (83, 3)] ?_
    refine ⟨fun q => absurd q (by decide), fun _ => ⟨fun q => absurd q (by decide), fun _ => ⟨fun _ => ?_, fun q => absurd rfl q⟩⟩⟩
    refine J.run csX4_millNow 20 [] ?_
    refine J.callR [] (c_X4_waiting hA hz hi) kX4_waiting mRX4_91 dX4_millNow_52 (by decide) rfl rfl (Nat.le_of_ble_eq_true rfl) (i0 := 0) rfl (ci := 4) rfl rfl ?_
    refine J.run csX4_millNow 5 [] ?_
    rw [← hΦ]
    exact jd_i rfl rfl
  · refine J.run csX4_millNow 2 [(36, 3), (43, 3), (50, 3), (56, 3), (63, 3), (83, 3)] ?_
    refine ⟨fun q => absurd q (by decide), fun _ => ⟨fun q => absurd q (by decide), fun _ => ⟨fun q => absurd q (by decide), fun _ => ⟨fun _ => ?_, fun q => absurd rfl q⟩⟩⟩⟩
    refine J.run csX4_millNow 20 [] ?_
    refine J.callR [] (c_X4_millAt hi (show 2 < 19 by decide)) kX4_millAt mRX4_62 dX4_millNow_59 (by decide) rfl rfl (Nat.le_of_ble_eq_true rfl) (i0 := 0) rfl (ci := 4) rfl rfl ?_
    rw [z2]
    refine J.run csX4_millNow 5 [] ?_
    rw [← hΦ]
    exact jd_i rfl rfl
  · refine J.run csX4_millNow 2 [(36, 3), (43, 3), (50, 3), (56, 3), (63, 3), (83, 3)] ?_
    refine ⟨fun q => absurd q (by decide), fun _ => ⟨fun q => absurd q (by decide), fun _ => ⟨fun q => absurd q (by decide), fun _ => ⟨fun q => absurd q (by decide), fun _ => ⟨fun _ => ?_, fun q => absurd rfl q⟩⟩⟩⟩⟩
    refine J.run csX4_millNow 20 [] ?_
    refine J.callR [] (c_X4_millAt hi (show 1 < 19 by decide)) kX4_millAt mRX4_62 dX4_millNow_66 (by decide) rfl rfl (Nat.le_of_ble_eq_true rfl) (i0 := 0) rfl (ci := 4) rfl rfl ?_
    rw [z1]
    refine J.run csX4_millNow 1 [] ?_
    refine ⟨fun q => ?_, fun q => ?_⟩
    · have q : ¬ nI (v_lo A i).length = 0 := q
      rw [n_eq0 (by omega)] at q
      refine J.run csX4_millNow 20 [] ?_
      refine J.callR [] (c_X4_millAt hi (show 3 < 19 by decide)) kX4_millAt mRX4_62 dX4_millNow_79 (by decide) rfl rfl (Nat.le_of_ble_eq_true rfl) (i0 := 0) rfl (ci := 4) rfl rfl ?_
      rw [show 74 + 19 * i + 3 = 77 + 19 * i + 2 * 0 by omega, (z3 0 (by omega)).1]
      refine J.run csX4_millNow 5 [] ?_
      rw [← hΦ]
      exact jd_i (by rw [show miV A i 4 = nI (lo_o (v_lo A i) 0) from if_neg q]) rfl
    · have q : nI (v_lo A i).length = 0 := q
      rw [n_eq0 (by omega)] at q
      refine J.run csX4_millNow 5 [] ?_
      rw [← hΦ]
      exact jd_i (by rw [show miV A i 4 = -1 from if_pos q]) rfl
  · refine J.run csX4_millNow 2 [(36, 3), (43, 3), (50, 3), (56, 3), (63, 3), (83, 3)] ?_
    refine ⟨fun q => absurd q (by decide), fun _ => ⟨fun q => absurd q (by decide), fun _ => ⟨fun q => absurd q (by decide), fun _ => ⟨fun q => absurd q (by decide), fun _ => ⟨fun q => absurd q (by decide), fun _ => ?_⟩⟩⟩⟩⟩
    refine J.run csX4_millNow 20 [] ?_
    refine J.callR [] (c_X4_muchInDay hA hz hi) kX4_muchInDay mRX4_128 dX4_millNow_85 (by decide) rfl rfl (Nat.le_of_ble_eq_true rfl) (i0 := 0) rfl (ci := 4) rfl rfl ?_
    refine J.run csX4_millNow 5 [] ?_
    rw [← hΦ]
    exact jd_i rfl rfl
theorem c_X4_ownerNow {A : aV} {t : mT} {z : Nat → Int32} {r : mR} {i w : Nat} (hA : vOk A) (hz : zRel A z) (hi : i < 5) (hw : w ≤ 3) : Ct MX4_ownerNow 0 0 [.ref 0, .int (nI i), .int (nI w)] (mw t z r) (jd (.inl (some (.int (owV A i w)))) (mw t z r)) := by
  refine Ct.of rfl rfl (by decide +kernel) rfl (Nat.le_of_ble_eq_true rfl) ?_
  generalize hΦ : jd (.inl (some (.int (owV A i w)))) (mw t z r) = Φ
  obtain ⟨y0, y1, y2⟩ := hz.2.2.2.2.1 i hi
  have y1 : z (131 + 3 * i + 1) = nI (v_br A i) := by rw [← y1]; congr 1; omega
  have y2 : z (131 + 3 * i + 2) = nI (v_tk A i) := by rw [← y2]; congr 1; omega
  have hc : w = 0 ∨ w = 1 ∨ w = 2 ∨ w = 3 := by omega
  rcases hc with rfl | rfl | rfl | rfl
  · refine J.run csX4_ownerNow 2 [] ?_
    refine ⟨fun q => absurd rfl q, fun _ => ?_⟩
    refine J.run csX4_ownerNow 20 [] ?_
    refine J.callR [] (c_X4_waitingOf hA hz hi) kX4_waitingOf mRX4_134 dX4_ownerNow_6 (by decide) rfl rfl (Nat.le_of_ble_eq_true rfl) (i0 := 0) rfl (ci := 4) rfl rfl ?_
    refine J.run csX4_ownerNow 5 [] ?_
    rw [← hΦ]
    exact jd_i rfl rfl
  · have X : J MX4_ownerNow Φ 0 0 17 [(0, .ref 0), (1, .int (nI i)), (2, .int (nI 1))] [.int (nI 0), .int (nI i), .ref 0] (mw t z r) := by
      refine J.callR [] (c_X4_ownerAt hi (show 0 < 3 by decide)) kX4_ownerAt mRX4_137 dX4_ownerNow_17 (by decide) rfl rfl (Nat.le_of_ble_eq_true rfl) (i0 := 0) rfl (ci := 4) rfl rfl ?_
      rw [show z (131 + 3 * i + 0) = _ from y0]
      refine J.run csX4_ownerNow 5 [] ?_
      rw [← hΦ]
      exact jd_i rfl rfl
    rw [show nI 0 = nI 1 - nI 1 by decide] at X
    refine J.run csX4_ownerNow 2 [] ?_
    refine ⟨fun _ => ?_, fun q => absurd q (by decide)⟩
    refine J.run csX4_ownerNow 20 [] ?_
    exact X
  · have X : J MX4_ownerNow Φ 0 0 17 [(0, .ref 0), (1, .int (nI i)), (2, .int (nI 2))] [.int (nI 1), .int (nI i), .ref 0] (mw t z r) := by
      refine J.callR [] (c_X4_ownerAt hi (show 1 < 3 by decide)) kX4_ownerAt mRX4_137 dX4_ownerNow_17 (by decide) rfl rfl (Nat.le_of_ble_eq_true rfl) (i0 := 0) rfl (ci := 4) rfl rfl ?_
      rw [y1]
      refine J.run csX4_ownerNow 5 [] ?_
      rw [← hΦ]
      exact jd_i rfl rfl
    rw [show nI 1 = nI 2 - nI 1 by decide] at X
    refine J.run csX4_ownerNow 2 [] ?_
    refine ⟨fun _ => ?_, fun q => absurd q (by decide)⟩
    refine J.run csX4_ownerNow 20 [] ?_
    exact X
  · have X : J MX4_ownerNow Φ 0 0 17 [(0, .ref 0), (1, .int (nI i)), (2, .int (nI 3))] [.int (nI 2), .int (nI i), .ref 0] (mw t z r) := by
      refine J.callR [] (c_X4_ownerAt hi (show 2 < 3 by decide)) kX4_ownerAt mRX4_137 dX4_ownerNow_17 (by decide) rfl rfl (Nat.le_of_ble_eq_true rfl) (i0 := 0) rfl (ci := 4) rfl rfl ?_
      rw [y2]
      refine J.run csX4_ownerNow 5 [] ?_
      rw [← hΦ]
      exact jd_i rfl rfl
    rw [show nI 2 = nI 3 - nI 1 by decide] at X
    refine J.run csX4_ownerNow 2 [] ?_
    refine ⟨fun _ => ?_, fun q => absurd q (by decide)⟩
    refine J.run csX4_ownerNow 20 [] ?_
    exact X
theorem c_X4_countNow {S : aS} {t : mT} {z : Nat → Int32} {r : mR} {w : Nat} (hA : vOk S.1) (hz : zRel S.1 z) (hs : t.2.1 = nI S.2.2.1.length) (hw : w ≤ 8) : Ct MX4_countNow 0 0 [.ref 0, .int (nI w)] (mw t z r) (jd (.inl (some (.int (coV S w)))) (mw t z r)) := by
  refine Ct.of rfl rfl (by decide +kernel) rfl (Nat.le_of_ble_eq_true rfl) ?_
  generalize hΦ : jd (.inl (some (.int (coV S w)))) (mw t z r) = Φ
  obtain ⟨zh, zg, zt, zr⟩ := hz.2.2.2.2.2
  have hc : w = 0 ∨ w = 1 ∨ w = 2 ∨ w = 3 ∨ w = 4 ∨ w = 5 ∨ w = 6 ∨ w = 7 ∨ w = 8 := by omega
  rcases hc with rfl | rfl | rfl | rfl | rfl | rfl | rfl | rfl | rfl
  · refine J.run csX4_countNow 2 [(48, 2), (57, 2), (66, 2), (75, 2), (80, 2), (85, 2), (103, 2), (108, 2), (117, 2)] ?_
    refine ⟨fun _ => ?_, fun q => absurd rfl q⟩
    refine J.run csX4_countNow 20 [] ?_
    refine ⟨vp_c (by decide), ?_⟩
    rw [← hΦ]
    refine jd_i ?_ rfl
    show Sum.inl (some (Value.int (z 146))) = _
    rw [zh]
    rfl
  · refine J.run csX4_countNow 2 [(48, 2), (57, 2), (66, 2), (75, 2), (80, 2), (85, 2), (103, 2), (108, 2), (117, 2)] ?_
    refine ⟨fun q => absurd q (by decide), fun _ => ⟨fun _ => ?_, fun q => absurd rfl q⟩⟩
    refine J.run csX4_countNow 20 [] ?_
    refine ⟨vp_c (by decide), ?_⟩
    rw [← hΦ]
    refine jd_i ?_ rfl
    show Sum.inl (some (Value.int (z 147))) = _
    rw [zg]
    rfl
  · refine J.run csX4_countNow 2 [(48, 2), (57, 2), (66, 2), (75, 2), (80, 2), (85, 2), (103, 2), (108, 2), (117, 2)] ?_
    refine ⟨fun q => absurd q (by decide), fun _ => ⟨fun q => absurd q (by decide), fun _ => ⟨fun _ => ?_, fun q => absurd rfl q⟩⟩⟩
    refine J.run csX4_countNow 20 [] ?_
    refine ⟨vp_c (by decide), ?_⟩
    rw [← hΦ]
    refine jd_i ?_ rfl
    show Sum.inl (some (Value.int (z 148))) = _
    rw [zt]
    rfl
  · refine J.run csX4_countNow 2 [(48, 2), (57, 2), (66, 2), (75, 2), (80, 2), (85, 2), (103, 2), (108, 2), (117, 2)] ?_
    refine ⟨fun q => absurd q (by decide), fun _ => ⟨fun q => absurd q (by decide), fun _ => ⟨fun q => absurd q (by decide), fun _ => ⟨fun _ => ?_, fun q => absurd rfl q⟩⟩⟩⟩
    refine J.run csX4_countNow 20 [] ?_
    refine J.callR [] (c_X4_committee hA hz) kX4_committee mRX4_51 dX4_countNow_76 (by decide) rfl rfl (Nat.le_of_ble_eq_true rfl) (i0 := 0) rfl (ci := 4) rfl rfl ?_
    refine J.run csX4_countNow 5 [] ?_
    rw [← hΦ]
    exact jd_i rfl rfl
  · refine J.run csX4_countNow 2 [(48, 2), (57, 2), (66, 2), (75, 2), (80, 2), (85, 2), (103, 2), (108, 2), (117, 2)] ?_
    refine ⟨fun q => absurd q (by decide), fun _ => ⟨fun q => absurd q (by decide), fun _ => ⟨fun q => absurd q (by decide), fun _ => ⟨fun q => absurd q (by decide), fun _ => ⟨fun _ => ?_, fun q => absurd rfl q⟩⟩⟩⟩⟩
    refine J.run csX4_countNow 20 [] ?_
    refine J.callR [] (c_X4_hoursOfDay hA hz) kX4_hoursOfDay mRX4_113 dX4_countNow_81 (by decide) rfl rfl (Nat.le_of_ble_eq_true rfl) (i0 := 0) rfl (ci := 4) rfl rfl ?_
    refine J.run csX4_countNow 5 [] ?_
    rw [← hΦ]
    exact jd_i rfl rfl
  · refine J.run csX4_countNow 2 [(48, 2), (57, 2), (66, 2), (75, 2), (80, 2), (85, 2), (103, 2), (108, 2), (117, 2)] ?_
    refine ⟨fun q => absurd q (by decide), fun _ => ⟨fun q => absurd q (by decide), fun _ => ⟨fun q => absurd q (by decide), fun _ => ⟨fun q => absurd q (by decide), fun _ => ⟨fun q => absurd q (by decide), fun _ => ⟨fun _ => ?_, fun q => absurd rfl q⟩⟩⟩⟩⟩⟩
    refine J.run csX4_countNow 20 [] ?_
    refine J.callR [] (c_X4_waiting hA hz (show 0 < 3 by decide)) kX4_waiting mRX4_91 dX4_countNow_87 (by decide) rfl rfl (Nat.le_of_ble_eq_true rfl) (i0 := 0) rfl (ci := 4) rfl rfl ?_
    refine J.run csX4_countNow 20 [] ?_
    refine J.callR [.int (nI (swt (v_lo S.1 0)))] (c_X4_waiting hA hz (show 1 < 3 by decide)) kX4_waiting mRX4_91 dX4_countNow_92 (by decide) rfl rfl (Nat.le_of_ble_eq_true rfl) (i0 := 0) rfl (ci := 4) rfl rfl ?_
    refine J.run csX4_countNow 20 [] ?_
    refine J.callR [.int (nI (swt (v_lo S.1 0)) + nI (swt (v_lo S.1 1)))] (c_X4_waiting hA hz (show 2 < 3 by decide)) kX4_waiting mRX4_91 dX4_countNow_98 (by decide) rfl rfl (Nat.le_of_ble_eq_true rfl) (i0 := 0) rfl (ci := 4) rfl rfl ?_
    refine J.run csX4_countNow 5 [] ?_
    rw [← hΦ]
    refine jd_i ?_ rfl
    show Sum.inl (some (Value.int (nI (swt (v_lo S.1 0)) + nI (swt (v_lo S.1 1)) + nI (swt (v_lo S.1 2))))) = _
    rw [nI_add, nI_add]
    rfl
  · refine J.run csX4_countNow 2 [(48, 2), (57, 2), (66, 2), (75, 2), (80, 2), (85, 2), (103, 2), (108, 2), (117, 2)] ?_
    refine ⟨fun q => absurd q (by decide), fun _ => ⟨fun q => absurd q (by decide), fun _ => ⟨fun q => absurd q (by decide), fun _ => ⟨fun q => absurd q (by decide), fun _ => ⟨fun q => absurd q (by decide), fun _ => ⟨fun q => absurd q (by decide), fun _ => ⟨fun _ => ?_, fun q => absurd rfl q⟩⟩⟩⟩⟩⟩⟩
    refine J.run csX4_countNow 20 [] ?_
    refine J.callR [] (c_X4_allFlour hz) kX4_allFlour mRX4_143 dX4_countNow_104 (by decide) rfl rfl (Nat.le_of_ble_eq_true rfl) (i0 := 0) rfl (ci := 4) rfl rfl ?_
    refine J.run csX4_countNow 5 [] ?_
    rw [← hΦ]
    exact jd_i rfl rfl
  · refine J.run csX4_countNow 2 [(48, 2), (57, 2), (66, 2), (75, 2), (80, 2), (85, 2), (103, 2), (108, 2), (117, 2)] ?_
    refine ⟨fun q => absurd q (by decide), fun _ => ⟨fun q => absurd q (by decide), fun _ => ⟨fun q => absurd q (by decide), fun _ => ⟨fun q => absurd q (by decide), fun _ => ⟨fun q => absurd q (by decide), fun _ => ⟨fun q => absurd q (by decide), fun _ => ⟨fun q => absurd q (by decide), fun _ => ⟨fun _ => ?_, fun q => absurd rfl q⟩⟩⟩⟩⟩⟩⟩⟩
    refine J.run csX4_countNow 20 [] ?_
    refine ⟨vp_c (by decide), ?_⟩
    rw [← hΦ]
    refine jd_i ?_ rfl
    show Sum.inl (some (Value.int (z 149))) = _
    rw [zr]
    rfl
  · refine J.run csX4_countNow 2 [(48, 2), (57, 2), (66, 2), (75, 2), (80, 2), (85, 2), (103, 2), (108, 2), (117, 2)] ?_
    refine ⟨fun q => absurd q (by decide), fun _ => ⟨fun q => absurd q (by decide), fun _ => ⟨fun q => absurd q (by decide), fun _ => ⟨fun q => absurd q (by decide), fun _ => ⟨fun q => absurd q (by decide), fun _ => ⟨fun q => absurd q (by decide), fun _ => ⟨fun q => absurd q (by decide), fun _ => ⟨fun q => absurd q (by decide), fun _ => ?_⟩⟩⟩⟩⟩⟩⟩⟩
    refine J.run csX4_countNow 20 [] ?_
    rw [← hΦ]
    refine jd_i ?_ rfl
    show Sum.inl (some (Value.int t.2.1)) = _
    rw [hs]
    rfl
