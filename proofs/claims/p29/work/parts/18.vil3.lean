/-! The village's sacks. -/
theorem n_div4 {a : Nat} (h : a < 2 ^ 31) : nI a / 4 = nI (a / 4) := pk_div (d := 4) h (by decide) (by decide)
theorem n_ne4 : ¬ (4 : Int32) = 0 := by decide
theorem rat_le {A : aV} (hA : vOk A) {m h : Nat} (hm : m < 3) (hh : h < 24) : rat A m h ≤ 20 := by
  have h1 := (hA.2.2.1 h hh).2
  have h2 := (hA.2.2.2.2.2 m hm).1
  unfold rat
  split
  · have : m_sp (v_ml A m) * v_sg A h ≤ 9 * 9 := Nat.mul_le_mul h2 (by omega)
    omega
  · omega
theorem c_X1_sacksGroundIn {A : aV} {z : vS} {h : Nat} (hA : vOk A) (hh : h < 24) : Ct MX1_sacksGroundIn 0 0 [.ref 0, .int (nI h)] (vil A z) (jd (.inl (some (.int (nI (sgi A h))))) (vil A z)) := by
  have hsg := (hA.2.2.1 h hh).2
  have hml := hA.2.2.2.2.2
  refine Ct.of rfl rfl (by decide +kernel) rfl (Nat.le_of_ble_eq_true rfl) ?_
  refine J.run csX1_sacksGroundIn 20 [] ?_
  refine J.callR [] (c_X1_verdictIn hA hh) kX1_verdictIn mRX1_81 dX1_sacksGroundIn_2 (by decide) rfl rfl (Nat.le_of_ble_eq_true rfl) rfl rfl rfl ?_
  have hle := vdi_le A h
  by_cases ht : vdi A h = 0
  · have et : trn A h = true := decide_eq_true ht
    have er : ∀ m, rat A m h = m_sp (v_ml A m) * v_sg A h / 4 := fun m => by unfold rat; rw [et]; rfl
    have L : ∀ (d i : Nat), i + d = 3 → J MX1_sacksGroundIn (jd (.inl (some (.int (nI (sgi A h))))) (vil A z)) 0 0 14 [(0, .ref 0), (1, .int (nI h)), (2, .int (nI (sumN (fun m => rat A m h) i))), (3, .int (nI i))] [] (vil A z) := by
      intro d
      induction d with
      | zero =>
        intro i hi
        refine J.run csX1_sacksGroundIn 20 [] ?_
        refine ⟨fun _ => ?_, fun h => absurd ((n_le (a := 3) (by omega) (by omega)).mpr (by omega)) h⟩
        exact jd_i (by rw [show i = 3 by omega]; unfold sgi; simp [sumN]) rfl
      | succ d ih =>
        intro i hi
        have ih' := ih (i + 1) (by omega)
        rw [sumN_s, nI_succ] at ih'
        have hsp := (hml i (by omega)).1
        have hb : m_sp (v_ml A i) * v_sg A h ≤ 9 * 9 := Nat.mul_le_mul hsp (by omega)
        have e : ∀ x : Int32, x = nI (m_sp (v_ml A i)) → nI (sumN (fun m => rat A m h) i) + x * nI (v_sg A (nI h).toNatClampNeg) / 4 = nI (sumN (fun m => rat A m h) i) + nI (rat A i h) := by
          rintro x rfl
          rw [cl_n (by omega), n_mul, n_div4 (by omega), er]
        have hc : i = 0 ∨ i = 1 ∨ i = 2 := by omega
        rcases hc with rfl | rfl | rfl
        all_goals
          refine J.run csX1_sacksGroundIn 40 [(14, 4)] ?_
          refine ⟨fun h => absurd h (by decide), fun _ => ⟨vp_c (by decide), vp_n (by omega) (by omega), n_ne4, ?_⟩⟩
          rw [← e _ rfl] at ih'
          exact ih'
    refine J.run csX1_sacksGroundIn 20 [(14, 4)] ?_
    refine ⟨fun _ => ?_, fun q => absurd ((n_eq0 (a := vdi A h) (by omega)).mpr ht) q⟩
    exact L _ 0 (Nat.zero_add _)
  · have et : trn A h = false := decide_eq_false ht
    refine J.run csX1_sacksGroundIn 20 [] ?_
    refine ⟨fun q => absurd ((n_eq0 (a := vdi A h) (by omega)).mp q) ht, fun _ => ?_⟩
    exact jd_i (by unfold sgi rat; rw [et]; rfl) rfl
theorem c_X1_sacksWaiting {A : aV} {z : vS} (hA : vOk A) (hz : vRel A z) : Ct MX1_sacksWaiting 0 0 [.ref 0] (vil A z) (jd (.inl (some (.int (nI (swa A))))) (vil A z)) := by
  have hml := hA.2.2.2.2.2
  refine Ct.of rfl rfl (by decide +kernel) rfl (Nat.le_of_ble_eq_true rfl) ?_
  have L : ∀ (d i : Nat), i + d = 3 → J MX1_sacksWaiting (jd (.inl (some (.int (nI (swa A))))) (vil A z)) 0 0 4 [(0, .ref 0), (1, .int (nI (sumN (fun m => swt (m_lo (v_ml A m))) i))), (2, .int (nI i))] [] (vil A z) := by
    intro d
    induction d with
    | zero =>
      intro i hi
      refine J.run csX1_sacksWaiting 20 [] ?_
      refine ⟨fun _ => ?_, fun h => absurd ((n_le (a := 3) (by omega) (by omega)).mpr (by omega)) h⟩
      exact jd_i (by rw [show i = 3 by omega]; unfold swa; simp [sumN]) rfl
    | succ d ih =>
      intro i hi
      have ih' := ih (i + 1) (by omega)
      rw [sumN_s, nI_succ] at ih'
      have hm := hml i (by omega)
      have hr := hz i (by omega)
      have C := c_X0_sacksWaiting hm hr
      have hc : i = 0 ∨ i = 1 ∨ i = 2 := by omega
      rcases hc with rfl | rfl | rfl
      · refine J.run csX1_sacksWaiting 40 [(4, 3)] ?_
        refine ⟨fun h => absurd h (by decide), fun _ => ⟨vp_c (by decide), ?_⟩⟩
        refine J.callV 0 0 [.int (nI (sumN (fun m => swt (m_lo (v_ml A m))) 0))] [15, 16, 17] C kX0_sacksWaiting mRX1_91 dX1_sacksWaiting_16 (by decide) (by decide) rfl rfl rfl (Nat.le_of_ble_eq_true rfl) (i0 := 0) rfl (ci := 0) rfl rfl rfl (by decide) (by decide) (by decide) ?_ ?_
        · rintro v h' ⟨hv, rfl⟩
          cases hv
          refine ⟨rfl, ?_⟩
          refine J.run csX1_sacksWaiting 20 [(4, 3)] ?_
          exact ih'
        · rintro E h' ⟨hv, -⟩
          cases hv
      · refine J.run csX1_sacksWaiting 40 [(4, 3)] ?_
        refine ⟨fun h => absurd h (by decide), fun _ => ⟨vp_c (by decide), ?_⟩⟩
        refine J.callV 0 0 [.int (nI (sumN (fun m => swt (m_lo (v_ml A m))) 1))] [18, 19, 20] C kX0_sacksWaiting mRX1_91 dX1_sacksWaiting_16 (by decide) (by decide) rfl rfl rfl (Nat.le_of_ble_eq_true rfl) (i0 := 0) rfl (ci := 0) rfl rfl rfl (by decide) (by decide) (by decide) ?_ ?_
        · rintro v h' ⟨hv, rfl⟩
          cases hv
          refine ⟨rfl, ?_⟩
          refine J.run csX1_sacksWaiting 20 [(4, 3)] ?_
          exact ih'
        · rintro E h' ⟨hv, -⟩
          cases hv
      · refine J.run csX1_sacksWaiting 40 [(4, 3)] ?_
        refine ⟨fun h => absurd h (by decide), fun _ => ⟨vp_c (by decide), ?_⟩⟩
        refine J.callV 0 0 [.int (nI (sumN (fun m => swt (m_lo (v_ml A m))) 2))] [21, 22, 23] C kX0_sacksWaiting mRX1_91 dX1_sacksWaiting_16 (by decide) (by decide) rfl rfl rfl (Nat.le_of_ble_eq_true rfl) (i0 := 0) rfl (ci := 0) rfl rfl rfl (by decide) (by decide) (by decide) ?_ ?_
        · rintro v h' ⟨hv, rfl⟩
          cases hv
          refine ⟨rfl, ?_⟩
          refine J.run csX1_sacksWaiting 20 [(4, 3)] ?_
          exact ih'
        · rintro E h' ⟨hv, -⟩
          cases hv
  refine J.run csX1_sacksWaiting 20 [(4, 3)] ?_
  exact L _ 0 (Nat.zero_add _)
theorem c_X1_sacksWaitingOf {A : aV} {z : vS} {o : Nat} (ho : o < 5) (hA : vOk A) (hz : vRel A z) : Ct MX1_sacksWaitingOf 0 0 [.ref 0, .int (nI o)] (vil A z) (jd (.inl (some (.int (nI (swoa A o))))) (vil A z)) := by
  have hml := hA.2.2.2.2.2
  refine Ct.of rfl rfl (by decide +kernel) rfl (Nat.le_of_ble_eq_true rfl) ?_
  have L : ∀ (d i : Nat), i + d = 3 → J MX1_sacksWaitingOf (jd (.inl (some (.int (nI (swoa A o))))) (vil A z)) 0 0 4 [(0, .ref 0), (1, .int (nI o)), (2, .int (nI (sumN (fun m => swo (m_lo (v_ml A m)) o) i))), (3, .int (nI i))] [] (vil A z) := by
    intro d
    induction d with
    | zero =>
      intro i hi
      refine J.run csX1_sacksWaitingOf 20 [] ?_
      refine ⟨fun _ => ?_, fun h => absurd ((n_le (a := 3) (by omega) (by omega)).mpr (by omega)) h⟩
      exact jd_i (by rw [show i = 3 by omega]; unfold swoa; simp [sumN]) rfl
    | succ d ih =>
      intro i hi
      have ih' := ih (i + 1) (by omega)
      rw [sumN_s, nI_succ] at ih'
      have hm := hml i (by omega)
      have hr := hz i (by omega)
      have C := c_X0_sacksWaitingOf ho hm hr
      have hc : i = 0 ∨ i = 1 ∨ i = 2 := by omega
      rcases hc with rfl | rfl | rfl
      · refine J.run csX1_sacksWaitingOf 40 [(4, 4)] ?_
        refine ⟨fun h => absurd h (by decide), fun _ => ⟨vp_c (by decide), ?_⟩⟩
        refine J.callV 0 0 [.int (nI (sumN (fun m => swo (m_lo (v_ml A m)) o) 0))] [15, 16, 17] C kX0_sacksWaitingOf mRX1_94 dX1_sacksWaitingOf_17 (by decide) (by decide) rfl rfl rfl (Nat.le_of_ble_eq_true rfl) (i0 := 0) rfl (ci := 0) rfl rfl rfl (by decide) (by decide) (by decide) ?_ ?_
        · rintro v h' ⟨hv, rfl⟩
          cases hv
          refine ⟨rfl, ?_⟩
          refine J.run csX1_sacksWaitingOf 20 [(4, 4)] ?_
          exact ih'
        · rintro E h' ⟨hv, -⟩
          cases hv
      · refine J.run csX1_sacksWaitingOf 40 [(4, 4)] ?_
        refine ⟨fun h => absurd h (by decide), fun _ => ⟨vp_c (by decide), ?_⟩⟩
        refine J.callV 0 0 [.int (nI (sumN (fun m => swo (m_lo (v_ml A m)) o) 1))] [18, 19, 20] C kX0_sacksWaitingOf mRX1_94 dX1_sacksWaitingOf_17 (by decide) (by decide) rfl rfl rfl (Nat.le_of_ble_eq_true rfl) (i0 := 0) rfl (ci := 0) rfl rfl rfl (by decide) (by decide) (by decide) ?_ ?_
        · rintro v h' ⟨hv, rfl⟩
          cases hv
          refine ⟨rfl, ?_⟩
          refine J.run csX1_sacksWaitingOf 20 [(4, 4)] ?_
          exact ih'
        · rintro E h' ⟨hv, -⟩
          cases hv
      · refine J.run csX1_sacksWaitingOf 40 [(4, 4)] ?_
        refine ⟨fun h => absurd h (by decide), fun _ => ⟨vp_c (by decide), ?_⟩⟩
        refine J.callV 0 0 [.int (nI (sumN (fun m => swo (m_lo (v_ml A m)) o) 2))] [21, 22, 23] C kX0_sacksWaitingOf mRX1_94 dX1_sacksWaitingOf_17 (by decide) (by decide) rfl rfl rfl (Nat.le_of_ble_eq_true rfl) (i0 := 0) rfl (ci := 0) rfl rfl rfl (by decide) (by decide) (by decide) ?_ ?_
        · rintro v h' ⟨hv, rfl⟩
          cases hv
          refine ⟨rfl, ?_⟩
          refine J.run csX1_sacksWaitingOf 20 [(4, 4)] ?_
          exact ih'
        · rintro E h' ⟨hv, -⟩
          cases hv
  refine J.run csX1_sacksWaitingOf 20 [(4, 4)] ?_
  exact L _ 0 (Nat.zero_add _)
theorem c_X1_flourOfAll {A : aV} {z : vS} : Ct MX1_flourOfAll 0 0 [.ref 0] (vil A z) (jd (.inl (some (.int (nI (fla A))))) (vil A z)) := by
  refine Ct.of rfl rfl (by decide +kernel) rfl (Nat.le_of_ble_eq_true rfl) ?_
  have L : ∀ (d i : Nat), i + d = 5 → J MX1_flourOfAll (jd (.inl (some (.int (nI (fla A))))) (vil A z)) 0 0 4 [(0, .ref 0), (1, .int (nI (sumN (v_fl A) i))), (2, .int (nI i))] [] (vil A z) := by
    intro d
    induction d with
    | zero =>
      intro i hi
      refine J.run csX1_flourOfAll 20 [] ?_
      refine ⟨fun _ => ?_, fun h => absurd ((n_le (a := 5) (by omega) (by omega)).mpr (by omega)) h⟩
      exact jd_i (by rw [show i = 5 by omega]; rfl) rfl
    | succ d ih =>
      intro i hi
      have ih' := ih (i + 1) (by omega)
      rw [sumN_s, nI_succ] at ih'
      refine J.run csX1_flourOfAll 30 [(4, 3)] ?_
      refine ⟨fun h => absurd ((n_le (a := 5) (by omega) (by omega)).mp h) (by omega), fun _ => ⟨vp_n (by omega) (by omega), ?_⟩⟩
      refine J.cast ih' ?_ rfl rfl
      rw [cl_n (by omega)]
  refine J.run csX1_flourOfAll 20 [(4, 3)] ?_
  exact L _ 0 (Nat.zero_add _)
