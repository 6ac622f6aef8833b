/-! The model's looks with checks. -/
theorem c_X4_hourOf {S : aS} {t : mT} {z : Nat → Int32} {r : mR} (h : mRl S t z r) (a b : Int32) : Ct MX4_hourOf 0 0 [.ref 0, .int a, .int b] (mw t z r) (mQ (rHour S a b)) := by
  refine Ct.of rfl rfl (by decide +kernel) rfl (Nat.le_of_ble_eq_true rfl) ?_
  have X1 : rHour S a b = (1, S, 0) → J MX4_hourOf (mQ (rHour S a b)) 0 0 29 [(0, .ref 0), (1, .int a), (2, .int b)] [.int (nI 1), .ref 0] (mw t z r) := fun er => by
    refine J.run csX4_hourOf 20 [] ?_
    exact ⟨fun q => absurd (show nI 1 ≤ 0 from q) (by decide), fun _ => mQ_e (t := (nI 1, t.2)) (mRl_t h _) er rfl⟩
  have X2 : rHour S a b = (2, S, 0) → J MX4_hourOf (mQ (rHour S a b)) 0 0 29 [(0, .ref 0), (1, .int a), (2, .int b)] [.int (nI 2), .ref 0] (mw t z r) := fun er => by
    refine J.run csX4_hourOf 20 [] ?_
    exact ⟨fun q => absurd (show nI 2 ≤ 0 from q) (by decide), fun _ => mQ_e (t := (nI 2, t.2)) (mRl_t h _) er rfl⟩
  refine J.run csX4_hourOf 5 [] ?_
  refine J.inI 23 kX4_in mRX4_36 dX4_hourOf_5 (by decide) (Nat.le_of_ble_eq_true rfl) ⟨rfl, rfl, by decide⟩ (fun q => ?_) (fun i hi ea q1 => ?_)
  · refine J.run csX4_hourOf 10 [(29, 3)] ?_
    exact ⟨fun w => absurd rfl w, fun _ => X1 (if_pos q)⟩
  refine J.run csX4_hourOf 10 [(29, 3)] ?_
  refine ⟨fun _ => ?_, fun w => absurd (show (1 : Int32) = 0 from w) (by decide)⟩
  refine J.inR 0 4 kX4_in mRX4_36 dX4_hourOf_18 (by decide) (Nat.le_of_ble_eq_true rfl) ⟨rfl, rfl, by decide⟩ (fun q => ?_) (fun j hj1 hj eb q2 => ?_)
  · refine J.run csX4_hourOf 10 [(29, 3)] ?_
    exact ⟨fun _ => X2 ((if_neg q1).trans (if_pos q)), fun w => absurd rfl w⟩
  have er : rHour S a b = (0, S, hoV S.1 i j) := by
    unfold rHour
    rw [if_neg q1, if_neg q2, ea, eb, cN_n (by omega), cN_n (by omega)]
  have hA := h.1.1
  have hz := h.1.2.2
  subst ea eb
  refine J.run csX4_hourOf 20 [] ?_
  refine ⟨fun w => absurd (show (1 : Int32) = 0 from w) (by decide), fun _ => ⟨fun _ => ?_, fun w => absurd (show nI 0 ≤ 0 by decide) w⟩⟩
  refine J.callR [] (c_X4_hourNow (t := (nI 0, t.2)) (r := r) hA hz hi hj) kX4_hourNow mRX4_116 dX4_hourOf_46 (by decide) rfl rfl (Nat.le_of_ble_eq_true rfl) (i0 := 0) rfl (ci := 4) rfl rfl ?_
  refine J.run csX4_hourOf 5 [] ?_
  exact mQ_0 er (mRl_t h (nI 0)) rfl rfl rfl
theorem c_X4_vaneOf {S : aS} {t : mT} {z : Nat → Int32} {r : mR} (h : mRl S t z r) (a b : Int32) : Ct MX4_vaneOf 0 0 [.ref 0, .int a, .int b] (mw t z r) (mQ (rVaneOf S a b)) := by
  refine Ct.of rfl rfl (by decide +kernel) rfl (Nat.le_of_ble_eq_true rfl) ?_
  have X1 : rVaneOf S a b = (1, S, 0) → J MX4_vaneOf (mQ (rVaneOf S a b)) 0 0 28 [(0, .ref 0), (1, .int a), (2, .int b)] [.int (nI 1), .ref 0] (mw t z r) := fun er => by
    refine J.run csX4_vaneOf 20 [] ?_
    exact ⟨fun q => absurd (show nI 1 ≤ 0 from q) (by decide), fun _ => mQ_e (t := (nI 1, t.2)) (mRl_t h _) er rfl⟩
  have X2 : rVaneOf S a b = (2, S, 0) → J MX4_vaneOf (mQ (rVaneOf S a b)) 0 0 28 [(0, .ref 0), (1, .int a), (2, .int b)] [.int (nI 2), .ref 0] (mw t z r) := fun er => by
    refine J.run csX4_vaneOf 20 [] ?_
    exact ⟨fun q => absurd (show nI 2 ≤ 0 from q) (by decide), fun _ => mQ_e (t := (nI 2, t.2)) (mRl_t h _) er rfl⟩
  refine J.run csX4_vaneOf 5 [] ?_
  refine J.inI 5 kX4_in mRX4_36 dX4_vaneOf_4 (by decide) (Nat.le_of_ble_eq_true rfl) ⟨rfl, rfl, by decide⟩ (fun q => ?_) (fun i hi ea q1 => ?_)
  · refine J.run csX4_vaneOf 10 [(28, 3)] ?_
    exact ⟨fun w => absurd rfl w, fun _ => X1 (if_pos q)⟩
  refine J.run csX4_vaneOf 10 [(28, 3)] ?_
  refine ⟨fun _ => ?_, fun w => absurd (show (1 : Int32) = 0 from w) (by decide)⟩
  refine J.inR 0 5 kX4_in mRX4_36 dX4_vaneOf_17 (by decide) (Nat.le_of_ble_eq_true rfl) ⟨rfl, rfl, by decide⟩ (fun q => ?_) (fun j hj1 hj eb q2 => ?_)
  · refine J.run csX4_vaneOf 10 [(28, 3)] ?_
    exact ⟨fun _ => X2 ((if_neg q1).trans (if_pos q)), fun w => absurd rfl w⟩
  have er : rVaneOf S a b = (0, S, vaV S.1 i j) := by
    unfold rVaneOf
    rw [if_neg q1, if_neg q2, ea, eb, cN_n (by omega), cN_n (by omega)]
  have hA := h.1.1
  have hz := h.1.2.2
  subst ea eb
  refine J.run csX4_vaneOf 20 [] ?_
  refine ⟨fun w => absurd (show (1 : Int32) = 0 from w) (by decide), fun _ => ⟨fun _ => ?_, fun w => absurd (show nI 0 ≤ 0 by decide) w⟩⟩
  refine J.callR [] (c_X4_vaneNow (t := (nI 0, t.2)) (r := r) hA hz hi hj) kX4_vaneNow mRX4_125 dX4_vaneOf_45 (by decide) rfl rfl (Nat.le_of_ble_eq_true rfl) (i0 := 0) rfl (ci := 4) rfl rfl ?_
  refine J.run csX4_vaneOf 5 [] ?_
  exact mQ_0 er (mRl_t h (nI 0)) rfl rfl rfl
theorem c_X4_millOf {S : aS} {t : mT} {z : Nat → Int32} {r : mR} (h : mRl S t z r) (a b : Int32) : Ct MX4_millOf 0 0 [.ref 0, .int a, .int b] (mw t z r) (mQ (rMillOf S a b)) := by
  refine Ct.of rfl rfl (by decide +kernel) rfl (Nat.le_of_ble_eq_true rfl) ?_
  have X1 : rMillOf S a b = (1, S, 0) → J MX4_millOf (mQ (rMillOf S a b)) 0 0 28 [(0, .ref 0), (1, .int a), (2, .int b)] [.int (nI 1), .ref 0] (mw t z r) := fun er => by
    refine J.run csX4_millOf 20 [] ?_
    exact ⟨fun q => absurd (show nI 1 ≤ 0 from q) (by decide), fun _ => mQ_e (t := (nI 1, t.2)) (mRl_t h _) er rfl⟩
  have X2 : rMillOf S a b = (2, S, 0) → J MX4_millOf (mQ (rMillOf S a b)) 0 0 28 [(0, .ref 0), (1, .int a), (2, .int b)] [.int (nI 2), .ref 0] (mw t z r) := fun er => by
    refine J.run csX4_millOf 20 [] ?_
    exact ⟨fun q => absurd (show nI 2 ≤ 0 from q) (by decide), fun _ => mQ_e (t := (nI 2, t.2)) (mRl_t h _) er rfl⟩
  refine J.run csX4_millOf 5 [] ?_
  refine J.inI 2 kX4_in mRX4_36 dX4_millOf_4 (by decide) (Nat.le_of_ble_eq_true rfl) ⟨rfl, rfl, by decide⟩ (fun q => ?_) (fun i hi ea q1 => ?_)
  · refine J.run csX4_millOf 10 [(28, 3)] ?_
    exact ⟨fun w => absurd rfl w, fun _ => X1 (if_pos q)⟩
  refine J.run csX4_millOf 10 [(28, 3)] ?_
  refine ⟨fun _ => ?_, fun w => absurd (show (1 : Int32) = 0 from w) (by decide)⟩
  refine J.inR 0 5 kX4_in mRX4_36 dX4_millOf_17 (by decide) (Nat.le_of_ble_eq_true rfl) ⟨rfl, rfl, by decide⟩ (fun q => ?_) (fun j hj1 hj eb q2 => ?_)
  · refine J.run csX4_millOf 10 [(28, 3)] ?_
    exact ⟨fun _ => X2 ((if_neg q1).trans (if_pos q)), fun w => absurd rfl w⟩
  have er : rMillOf S a b = (0, S, miV S.1 i j) := by
    unfold rMillOf
    rw [if_neg q1, if_neg q2, ea, eb, cN_n (by omega), cN_n (by omega)]
  have hA := h.1.1
  have hz := h.1.2.2
  subst ea eb
  refine J.run csX4_millOf 20 [] ?_
  refine ⟨fun w => absurd (show (1 : Int32) = 0 from w) (by decide), fun _ => ⟨fun _ => ?_, fun w => absurd (show nI 0 ≤ 0 by decide) w⟩⟩
  refine J.callR [] (c_X4_millNow (t := (nI 0, t.2)) (r := r) hA hz hi hj) kX4_millNow mRX4_131 dX4_millOf_45 (by decide) rfl rfl (Nat.le_of_ble_eq_true rfl) (i0 := 0) rfl (ci := 4) rfl rfl ?_
  refine J.run csX4_millOf 5 [] ?_
  exact mQ_0 er (mRl_t h (nI 0)) rfl rfl rfl
theorem c_X4_ownerOf {S : aS} {t : mT} {z : Nat → Int32} {r : mR} (h : mRl S t z r) (a b : Int32) : Ct MX4_ownerOf 0 0 [.ref 0, .int a, .int b] (mw t z r) (mQ (rOwner S a b)) := by
  refine Ct.of rfl rfl (by decide +kernel) rfl (Nat.le_of_ble_eq_true rfl) ?_
  have X1 : rOwner S a b = (1, S, 0) → J MX4_ownerOf (mQ (rOwner S a b)) 0 0 28 [(0, .ref 0), (1, .int a), (2, .int b)] [.int (nI 1), .ref 0] (mw t z r) := fun er => by
    refine J.run csX4_ownerOf 20 [] ?_
    exact ⟨fun q => absurd (show nI 1 ≤ 0 from q) (by decide), fun _ => mQ_e (t := (nI 1, t.2)) (mRl_t h _) er rfl⟩
  have X2 : rOwner S a b = (2, S, 0) → J MX4_ownerOf (mQ (rOwner S a b)) 0 0 28 [(0, .ref 0), (1, .int a), (2, .int b)] [.int (nI 2), .ref 0] (mw t z r) := fun er => by
    refine J.run csX4_ownerOf 20 [] ?_
    exact ⟨fun q => absurd (show nI 2 ≤ 0 from q) (by decide), fun _ => mQ_e (t := (nI 2, t.2)) (mRl_t h _) er rfl⟩
  refine J.run csX4_ownerOf 5 [] ?_
  refine J.inI 4 kX4_in mRX4_36 dX4_ownerOf_4 (by decide) (Nat.le_of_ble_eq_true rfl) ⟨rfl, rfl, by decide⟩ (fun q => ?_) (fun i hi ea q1 => ?_)
  · refine J.run csX4_ownerOf 10 [(28, 3)] ?_
    exact ⟨fun w => absurd rfl w, fun _ => X1 (if_pos q)⟩
  refine J.run csX4_ownerOf 10 [(28, 3)] ?_
  refine ⟨fun _ => ?_, fun w => absurd (show (1 : Int32) = 0 from w) (by decide)⟩
  refine J.inR 0 3 kX4_in mRX4_36 dX4_ownerOf_17 (by decide) (Nat.le_of_ble_eq_true rfl) ⟨rfl, rfl, by decide⟩ (fun q => ?_) (fun j hj1 hj eb q2 => ?_)
  · refine J.run csX4_ownerOf 10 [(28, 3)] ?_
    exact ⟨fun _ => X2 ((if_neg q1).trans (if_pos q)), fun w => absurd rfl w⟩
  have er : rOwner S a b = (0, S, owV S.1 i j) := by
    unfold rOwner
    rw [if_neg q1, if_neg q2, ea, eb, cN_n (by omega), cN_n (by omega)]
  have hA := h.1.1
  have hz := h.1.2.2
  subst ea eb
  refine J.run csX4_ownerOf 20 [] ?_
  refine ⟨fun w => absurd (show (1 : Int32) = 0 from w) (by decide), fun _ => ⟨fun _ => ?_, fun w => absurd (show nI 0 ≤ 0 by decide) w⟩⟩
  refine J.callR [] (c_X4_ownerNow (t := (nI 0, t.2)) (r := r) hA hz hi hj) kX4_ownerNow mRX4_140 dX4_ownerOf_45 (by decide) rfl rfl (Nat.le_of_ble_eq_true rfl) (i0 := 0) rfl (ci := 4) rfl rfl ?_
  refine J.run csX4_ownerOf 5 [] ?_
  exact mQ_0 er (mRl_t h (nI 0)) rfl rfl rfl
theorem c_X4_doneIn {S : aS} {t : mT} {z : Nat → Int32} {r : mR} (h : mRl S t z r) (a b : Int32) : Ct MX4_doneIn 0 0 [.ref 0, .int a, .int b] (mw t z r) (mQ (rDone S a b)) := by
  refine Ct.of rfl rfl (by decide +kernel) rfl (Nat.le_of_ble_eq_true rfl) ?_
  have X1 : rDone S a b = (1, S, 0) → J MX4_doneIn (mQ (rDone S a b)) 0 0 28 [(0, .ref 0), (1, .int a), (2, .int b)] [.int (nI 1), .ref 0] (mw t z r) := fun er => by
    refine J.run csX4_doneIn 20 [] ?_
    exact ⟨fun q => absurd (show nI 1 ≤ 0 from q) (by decide), fun _ => mQ_e (t := (nI 1, t.2)) (mRl_t h _) er rfl⟩
  have X2 : rDone S a b = (2, S, 0) → J MX4_doneIn (mQ (rDone S a b)) 0 0 28 [(0, .ref 0), (1, .int a), (2, .int b)] [.int (nI 2), .ref 0] (mw t z r) := fun er => by
    refine J.run csX4_doneIn 20 [] ?_
    exact ⟨fun q => absurd (show nI 2 ≤ 0 from q) (by decide), fun _ => mQ_e (t := (nI 2, t.2)) (mRl_t h _) er rfl⟩
  refine J.run csX4_doneIn 5 [] ?_
  refine J.inI 2 kX4_in mRX4_36 dX4_doneIn_4 (by decide) (Nat.le_of_ble_eq_true rfl) ⟨rfl, rfl, by decide⟩ (fun q => ?_) (fun i hi ea q1 => ?_)
  · refine J.run csX4_doneIn 10 [(28, 3)] ?_
    exact ⟨fun w => absurd rfl w, fun _ => X1 (if_pos q)⟩
  refine J.run csX4_doneIn 10 [(28, 3)] ?_
  refine ⟨fun _ => ?_, fun w => absurd (show (1 : Int32) = 0 from w) (by decide)⟩
  refine J.inR 0 1 kX4_in mRX4_36 dX4_doneIn_17 (by decide) (Nat.le_of_ble_eq_true rfl) ⟨rfl, rfl, by decide⟩ (fun q => ?_) (fun j hj1 hj eb q2 => ?_)
  · refine J.run csX4_doneIn 10 [(28, 3)] ?_
    exact ⟨fun _ => X2 ((if_neg q1).trans (if_pos q)), fun w => absurd rfl w⟩
  have er : rDone S a b = (0, S, doV S.1 i) := by
    unfold rDone
    rw [if_neg q1, if_neg q2, ea, cN_n (by omega)]
  have hA := h.1.1
  have hz := h.1.2.2
  subst ea eb
  refine J.run csX4_doneIn 20 [] ?_
  refine ⟨fun w => absurd (show (1 : Int32) = 0 from w) (by decide), fun _ => ⟨fun _ => ?_, fun w => absurd (show nI 0 ≤ 0 by decide) w⟩⟩
  refine J.callR [] (c_X4_doneNow (t := (nI 0, t.2)) (r := r) hA hz hi) kX4_doneNow mRX4_149 dX4_doneIn_44 (by decide) rfl rfl (Nat.le_of_ble_eq_true rfl) (i0 := 0) rfl (ci := 4) rfl rfl ?_
  refine J.run csX4_doneIn 5 [] ?_
  exact mQ_0 er (mRl_t h (nI 0)) rfl rfl rfl
theorem c_X4_ifPassed {S : aS} {t : mT} {z : Nat → Int32} {r : mR} (h : mRl S t z r) (a b : Int32) : Ct MX4_ifPassed 0 0 [.ref 0, .int a, .int b] (mw t z r) (mQ (rIf S a b)) := by
  refine Ct.of rfl rfl (by decide +kernel) rfl (Nat.le_of_ble_eq_true rfl) ?_
  have X1 : rIf S a b = (1, S, 0) → J MX4_ifPassed (mQ (rIf S a b)) 0 0 29 [(0, .ref 0), (1, .int a), (2, .int b)] [.int (nI 1), .ref 0] (mw t z r) := fun er => by
    refine J.run csX4_ifPassed 20 [] ?_
    exact ⟨fun q => absurd (show nI 1 ≤ 0 from q) (by decide), fun _ => mQ_e (t := (nI 1, t.2)) (mRl_t h _) er rfl⟩
  have X2 : rIf S a b = (2, S, 0) → J MX4_ifPassed (mQ (rIf S a b)) 0 0 29 [(0, .ref 0), (1, .int a), (2, .int b)] [.int (nI 2), .ref 0] (mw t z r) := fun er => by
    refine J.run csX4_ifPassed 20 [] ?_
    exact ⟨fun q => absurd (show nI 2 ≤ 0 from q) (by decide), fun _ => mQ_e (t := (nI 2, t.2)) (mRl_t h _) er rfl⟩
  refine J.run csX4_ifPassed 5 [] ?_
  refine J.inI 4 kX4_in mRX4_36 dX4_ifPassed_4 (by decide) (Nat.le_of_ble_eq_true rfl) ⟨rfl, rfl, by decide⟩ (fun q => ?_) (fun i hi ea q1 => ?_)
  · refine J.run csX4_ifPassed 10 [(29, 3)] ?_
    exact ⟨fun w => absurd rfl w, fun _ => X1 (if_pos q)⟩
  refine J.run csX4_ifPassed 10 [(29, 3)] ?_
  refine ⟨fun _ => ?_, fun w => absurd (show (1 : Int32) = 0 from w) (by decide)⟩
  refine J.inR 1 99 kX4_in mRX4_36 dX4_ifPassed_18 (by decide) (Nat.le_of_ble_eq_true rfl) ⟨rfl, rfl, by decide⟩ (fun q => ?_) (fun j hj1 hj eb q2 => ?_)
  · refine J.run csX4_ifPassed 10 [(29, 3)] ?_
    exact ⟨fun _ => X2 ((if_neg q1).trans (if_pos q)), fun w => absurd rfl w⟩
  have er : rIf S a b = (0, S, nI (pF S.1 i j 3)) := by
    unfold rIf
    rw [if_neg q1, if_neg q2, ea, eb, cN_n (by omega), cN_n (by omega)]
  have hA := h.1.1
  have hz := h.1.2.2
  subst ea eb
  refine J.run csX4_ifPassed 20 [] ?_
  refine ⟨fun w => absurd (show (1 : Int32) = 0 from w) (by decide), fun _ => ⟨fun _ => ?_, fun w => absurd (show nI 0 ≤ 0 by decide) w⟩⟩
  refine J.callVI 0 0 [] (as := [.int (nI i), .int (nI j)]) (c_X4_passed (t := (nI 0, t.2)) (r := r) hA hz hi (show j < 100 by omega) (by have := h.1.2.1; omega)) kX4_passed mRX4_158 dX4_ifPassed_46 (by decide) (by decide) rfl rfl rfl (Nat.le_of_ble_eq_true rfl) (i0 := 0) rfl (ci := 4) rfl rfl (Nat.le_refl _) (Nat.le_refl _) ?_ ?_
  · rintro v h' ⟨hv, z', a', hz', rfl⟩
    cases hv
    refine ⟨rfl, ?_⟩
    refine J.run csX4_ifPassed 5 [] ?_
    exact mQ_0 er (t := (nI 0, t.2)) (z := z') (r := (a', r.2)) ⟨⟨hA, h.1.2.1, hz'⟩, h.2⟩ rfl rfl rfl
  · rintro E h' ⟨hv, -⟩
    cases hv
theorem c_X4_count {S : aS} {t : mT} {z : Nat → Int32} {r : mR} (h : mRl S t z r) (a : Int32) : Ct MX4_count 0 0 [.ref 0, .int a] (mw t z r) (mQ (rCount S a)) := by
  refine Ct.of rfl rfl (by decide +kernel) rfl (Nat.le_of_ble_eq_true rfl) ?_
  refine J.run csX4_count 5 [] ?_
  refine J.inR 0 8 kX4_in mRX4_36 dX4_count_5 (by decide) (Nat.le_of_ble_eq_true rfl) ⟨rfl, rfl, by decide⟩ (fun q => ?_) (fun i _ hi ea q1 => ?_)
  · refine J.run csX4_count 20 [] ?_
    exact ⟨fun _ => ⟨fun w => absurd (show nI 1 ≤ 0 from w) (by decide), fun _ => mQ_e (t := (nI 1, t.2)) (mRl_t h _) (if_pos q) rfl⟩, fun w => absurd rfl w⟩
  have er : rCount S a = (0, S, coV S i) := by
    unfold rCount
    rw [if_neg q1, ea, cN_n (by omega)]
  subst ea
  refine J.run csX4_count 20 [] ?_
  refine ⟨fun w => absurd (show (1 : Int32) = 0 from w) (by decide), fun _ => ⟨fun _ => ?_, fun w => absurd (show nI 0 ≤ 0 by decide) w⟩⟩
  refine J.callR [] (c_X4_countNow (S := S) (t := (nI 0, t.2)) (r := r) h.1.1 h.1.2.2 h.2.2.1.1 hi) kX4_countNow mRX4_146 dX4_count_32 (by decide) rfl rfl (Nat.le_of_ble_eq_true rfl) (i0 := 0) rfl (ci := 4) rfl rfl ?_
  refine J.run csX4_count 5 [] ?_
  exact mQ_0 er (mRl_t h (nI 0)) rfl rfl rfl
theorem c_X4_setting {S : aS} {t : mT} {z : Nat → Int32} {r : mR} (h : mRl S t z r) (a : Int32) : Ct MX4_setting 0 0 [.ref 0, .int a] (mw t z r) (mQ (rSetting S a)) := by
  refine Ct.of rfl rfl (by decide +kernel) rfl (Nat.le_of_ble_eq_true rfl) ?_
  refine J.run csX4_setting 5 [] ?_
  refine J.inI 1 kX4_in mRX4_36 dX4_setting_4 (by decide) (Nat.le_of_ble_eq_true rfl) ⟨rfl, rfl, by decide⟩ (fun q => ?_) (fun i hi ea q1 => ?_)
  · refine J.run csX4_setting 20 [] ?_
    exact ⟨fun _ => ⟨fun w => absurd (show nI 1 ≤ 0 from w) (by decide), fun _ => mQ_e (t := (nI 1, t.2)) (mRl_t h _) (if_pos q) rfl⟩, fun w => absurd rfl w⟩
  have er : rSetting S a = (0, S, nI (v_se S.1 i)) := by
    unfold rSetting
    rw [if_neg q1, ea, cN_n (by omega)]
  subst ea
  have z1 := h.1.2.2.2.2.1 i hi
  refine J.run csX4_setting 20 [] ?_
  refine ⟨fun w => absurd (show (1 : Int32) = 0 from w) (by decide), fun _ => ⟨fun _ => ⟨?_, ?_⟩, fun w => absurd (show nI 0 ≤ 0 by decide) w⟩⟩
  · show vp_in (nI 72 + nI i) 150
    rw [nI_add]
    exact vp_n (by omega) (by decide)
  · refine mQ_0 er (mRl_t h (nI 0)) rfl ?_ rfl
    show z (nI 72 + nI i).toNatClampNeg = _
    rw [nI_add, cl_n (by omega), z1]
theorem c_X4_turnsIn {S : aS} {t : mT} {z : Nat → Int32} {r : mR} (h : mRl S t z r) : Ct MX4_turnsIn 0 0 [.ref 0] (mw t z r) (mQ (0, S, trF S.1 24 0)) := by
  refine Ct.of rfl rfl (by decide +kernel) rfl (Nat.le_of_ble_eq_true rfl) ?_
  refine J.run csX4_turnsIn 5 [] ?_
  refine J.callR [] (c_X4_turnsNow (t := (nI 0, t.2)) (r := r) h.1.1 h.1.2.2) kX4_turnsNow mRX4_161 dX4_turnsIn_6 (by decide) rfl rfl (Nat.le_of_ble_eq_true rfl) (i0 := 0) rfl (ci := 4) rfl rfl ?_
  refine J.run csX4_turnsIn 5 [] ?_
  exact mQ_0 rfl (mRl_t h (nI 0)) rfl rfl rfl
theorem c_X4_mainVane {S : aS} {t : mT} {z : Nat → Int32} {r : mR} (h : mRl S t z r) : Ct MX4_mainVane 0 0 [.ref 0] (mw t z r) (mQ (0, S, nI (mvF S.1 5))) := by
  refine Ct.of rfl rfl (by decide +kernel) rfl (Nat.le_of_ble_eq_true rfl) ?_
  refine J.run csX4_mainVane 5 [] ?_
  refine J.callR [] (c_X4_findMain (t := (nI 0, t.2)) (r := r) h.1.1 h.1.2.2) kX4_findMain mRX4_164 dX4_mainVane_6 (by decide) rfl rfl (Nat.le_of_ble_eq_true rfl) (i0 := 0) rfl (ci := 4) rfl rfl ?_
  refine J.run csX4_mainVane 5 [] ?_
  exact mQ_0 rfl (mRl_t h (nI 0)) rfl rfl rfl
/-- the model's answers of other types -/
def mQD (S : aS) (v : Value) : j_F := fun o h' => o = .inl (some v) ∧ ∃ t z r, mRl S t z r ∧ h' = mw t z r
theorem c_X4_turnShare {S : aS} {t : mT} {z : Nat → Int32} {r : mR} (h : mRl S t z r) : Ct MX4_turnShare 0 0 [.ref 0] (mw t z r) (mQD S (.double (shD (agh S.1)))) := by
  have hle := agh_le S.1
  refine Ct.of rfl rfl (by decide +kernel) rfl (Nat.le_of_ble_eq_true rfl) ?_
  refine J.run csX4_turnShare 5 [] ?_
  refine J.callR [] (c_X4_hoursOfDay (t := (nI 0, t.2)) (r := r) h.1.1 h.1.2.2) kX4_hoursOfDay mRX4_113 dX4_turnShare_6 (by decide) rfl rfl (Nat.le_of_ble_eq_true rfl) (i0 := 0) rfl (ci := 4) rfl rfl ?_
  refine J.run csX4_turnShare 10 [] ?_
  exact ⟨vfb_i (shD_vf _ (by omega)), rfl, _, _, _, mRl_t h (nI 0), rfl⟩
theorem c_X4_thrown {t : mT} {z : Nat → Int32} {r : mR} : Ct MX4_thrown 0 0 [.ref 0] (mw t z r) (jd (.inl (some (.int t.1))) (mw t z r)) := by
  refine Ct.of rfl rfl (by decide +kernel) rfl (Nat.le_of_ble_eq_true rfl) ?_
  refine J.run csX4_thrown 5 [] ?_
  exact jd_i rfl rfl
theorem hrs_go : ∀ (n : Nat) (A : aV), v_go (hrs n A) = v_go A + n
  | 0, _ => rfl
  | n + 1, A => by
    show v_go (hrs n (hr1 A)) = v_go A + (n + 1)
    rw [hrs_go n]
    show v_go A + 1 + n = _
    omega
theorem c_X4_pass {S : aS} {t : mT} {z : Nat → Int32} {r : mR} (h : mRl S t z r) (a : Int32) : Ct MX4_pass 0 0 [.ref 0, .int a] (mw t z r) (mQ (rPass S a)) := by
  refine Ct.of rfl rfl (by decide +kernel) rfl (Nat.le_of_ble_eq_true rfl) ?_
  have hA := h.1.1
  have hg := h.1.2.1
  have hz := h.1.2.2
  have zg : z (nI 147).toNatClampNeg = nI (v_go S.1) := h.1.2.2.2.2.2.2.2.2.1
  refine J.run csX4_pass 5 [] ?_
  refine J.inR 1 99 kX4_in mRX4_36 dX4_pass_5 (by decide) (Nat.le_of_ble_eq_true rfl) ⟨rfl, rfl, by decide⟩ (fun q => ?_) (fun n hn1 hn ea q1 => ?_)
  · refine J.run csX4_pass 20 [] ?_
    exact ⟨fun w => absurd rfl w, fun _ => ⟨fun w => absurd (show nI 1 ≤ 0 from w) (by decide), fun _ => mQ_e (t := (nI 1, t.2)) (mRl_t h _) (if_pos q) rfl⟩⟩
  have er : rPass S a = if 99999 < v_go S.1 + n then (2, S, 0) else (0, sW (sS S) (hrs n S.1), nI (hrsG n S.1)) := by
    unfold rPass
    rw [if_neg q1, ea, cN_n (by omega)]
  subst ea
  refine J.run csX4_pass 20 [] ?_
  refine ⟨fun _ => ⟨vp_n (a := 147) (by decide) (by decide), fun q => ⟨fun _ => ?_, fun w => absurd (show nI 0 ≤ 0 by decide) w⟩, fun q => ⟨fun w => absurd (show nI 2 ≤ 0 from w) (by decide), fun _ => ?_⟩⟩, fun w => absurd (show (1 : Int32) = 0 from w) (by decide)⟩
  · have q : z (nI 147).toNatClampNeg + nI n ≤ nI 99999 := q
    rw [zg, nI_add, n_le (by omega) (by decide)] at q
    rw [if_neg (by omega)] at er
    refine J.rec [] (t := (nI 0, t.2)) (mRl_t h _) kX4_record mRX4_40 dX4_pass_48 (by decide) rfl (Nat.le_of_ble_eq_true rfl) (fun sv sd hr => ?_)
    refine J.run csX4_pass 5 [] ?_
    refine J.callVI 0 0 [] (as := [.int (nI n)]) (c_X4_doHours (t := (nI 0, sv, t.2.2)) (r := (r.1, sd, r.2.2)) hA hz (show n < 100 by omega) (by omega)) kX4_doHours mRX4_95 dX4_pass_53 (by decide) (by decide) rfl rfl rfl (Nat.le_of_ble_eq_true rfl) (i0 := 0) rfl (ci := 4) rfl rfl (Nat.le_refl _) (Nat.le_refl _) ?_ ?_
    · rintro v h' ⟨hv, z', hz', rfl⟩
      cases hv
      refine ⟨rfl, ?_⟩
      refine J.run csX4_pass 5 [] ?_
      exact mQ_0 er (mRl_w hr ⟨hrs_ok n hA (by omega), by rw [hrs_go]; exact q, hz'⟩) rfl rfl rfl
    · rintro E h' ⟨hv, -⟩
      cases hv
  · have q : ¬ z (nI 147).toNatClampNeg + nI n ≤ nI 99999 := q
    rw [zg, nI_add, n_le (by omega) (by decide)] at q
    exact mQ_e (t := (nI 2, t.2)) (mRl_t h _) (er.trans (if_pos (by omega))) rfl
