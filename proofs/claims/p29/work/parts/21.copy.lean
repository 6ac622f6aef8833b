/-! A village is copied. -/
abbrev R48 : List Nat := [24, 25, 26, 27, 28, 29, 30, 31, 32, 33, 34, 35, 36, 37, 38, 39, 40, 41, 42, 43, 44, 45, 46, 47]
def othv (B : aV) (y : vS) : j_H := (vil B y).map (j_rc (j_f R48))
theorem c_X1_copyFrom (A B : aV) (z y : vS) : Ct MX1_copyFrom 0 0 [.ref 0, .ref 24] (vil A z ++ othv B y) (jd (.inl none) (vil B y ++ othv B y)) := by
  refine Ct.of rfl rfl (by decide +kernel) rfl (Nat.le_of_ble_eq_true rfl) ?_
  generalize hΦ : jd (.inl none) (vil B y ++ othv B y) = Φ
  have E : J MX1_copyFrom Φ 0 0 136 [(0, .ref 0), (1, .ref 24)] [] (vil (B.1, v_sd B, v_sg B, v_vn B, v_se B, v_ml B, v_fl A, v_br A, v_tk A) y ++ othv B y) := by
    refine J.run csX1_copyFrom 80 [] ?_
    refine ⟨rfl, rfl, by decide, by decide, by decide, rfl, rfl, by decide, by decide, by decide, rfl, rfl, by decide, by decide, by decide, ?_⟩
    rw [← hΦ]
    exact jd_i rfl rfl
  have M : ∀ j, j < 3 → J MX1_copyFrom Φ 0 0 110 [(0, .ref 0), (1, .ref 24), (2, .int (nI (j + 1)))] [] (vil (B.1, v_sd B, v_sg B, v_vn B, v_se B, (fun m => if m < j + 1 then v_ml B m else v_ml A m), v_fl A, v_br A, v_tk A) (fun m => if m < j + 1 then y m else z m) ++ othv B y) →
      J MX1_copyFrom Φ 0 0 110 [(0, .ref 0), (1, .ref 24), (2, .int (nI j))] [] (vil (B.1, v_sd B, v_sg B, v_vn B, v_se B, (fun m => if m < j then v_ml B m else v_ml A m), v_fl A, v_br A, v_tk A) (fun m => if m < j then y m else z m) ++ othv B y) := by
    intro j hj ih
    have hc : j = 0 ∨ j = 1 ∨ j = 2 := by omega
    rcases hc with rfl | rfl | rfl
    · refine J.run csX1_copyFrom 40 [(110, 3)] ?_
      refine ⟨fun h => absurd h (by decide), fun _ => ⟨vp_c (by decide), vp_c (by decide), ?_⟩⟩
      refine J.callV 0 0 [] [15, 16, 17, 39, 40, 41] (c_X0_copyMill (mCo A z 0) (mCo B y 0)) kX0_copyMill mRX1_61 dX1_copyFrom_127 (by decide) (by decide) rfl rfl rfl (Nat.le_of_ble_eq_true rfl) (i0 := 0) rfl (ci := 0) rfl rfl rfl (by decide) (by decide) (by decide) ?_ ?_
      · rintro v h' ⟨hv, rfl⟩
        cases hv
        refine ⟨rfl, ?_⟩
        refine J.run csX1_copyFrom 20 [(110, 3)] ?_
        exact ih
      · rintro E9 h' ⟨hv, -⟩
        cases hv
    · refine J.run csX1_copyFrom 40 [(110, 3)] ?_
      refine ⟨fun h => absurd h (by decide), fun _ => ⟨vp_c (by decide), vp_c (by decide), ?_⟩⟩
      refine J.callV 0 0 [] [18, 19, 20, 42, 43, 44] (c_X0_copyMill (mCo A z 1) (mCo B y 1)) kX0_copyMill mRX1_61 dX1_copyFrom_127 (by decide) (by decide) rfl rfl rfl (Nat.le_of_ble_eq_true rfl) (i0 := 0) rfl (ci := 0) rfl rfl rfl (by decide) (by decide) (by decide) ?_ ?_
      · rintro v h' ⟨hv, rfl⟩
        cases hv
        refine ⟨rfl, ?_⟩
        refine J.run csX1_copyFrom 20 [(110, 3)] ?_
        exact ih
      · rintro E9 h' ⟨hv, -⟩
        cases hv
    · refine J.run csX1_copyFrom 40 [(110, 3)] ?_
      refine ⟨fun h => absurd h (by decide), fun _ => ⟨vp_c (by decide), vp_c (by decide), ?_⟩⟩
      refine J.callV 0 0 [] [21, 22, 23, 45, 46, 47] (c_X0_copyMill (mCo A z 2) (mCo B y 2)) kX0_copyMill mRX1_61 dX1_copyFrom_127 (by decide) (by decide) rfl rfl rfl (Nat.le_of_ble_eq_true rfl) (i0 := 0) rfl (ci := 0) rfl rfl rfl (by decide) (by decide) (by decide) ?_ ?_
      · rintro v h' ⟨hv, rfl⟩
        cases hv
        refine ⟨rfl, ?_⟩
        refine J.run csX1_copyFrom 20 [(110, 3)] ?_
        exact ih
      · rintro E9 h' ⟨hv, -⟩
        cases hv
  have M3 : J MX1_copyFrom Φ 0 0 110 [(0, .ref 0), (1, .ref 24), (2, .int (nI 3))] [] (vil (B.1, v_sd B, v_sg B, v_vn B, v_se B, (fun m => if m < 3 then v_ml B m else v_ml A m), v_fl A, v_br A, v_tk A) (fun m => if m < 3 then y m else z m) ++ othv B y) := by
    refine J.run csX1_copyFrom 20 [(136, 2)] ?_
    exact ⟨fun _ => E, fun h => absurd (by decide) h⟩
  have M0 := M 0 (by decide) (M 1 (by decide) (M 2 (by decide) M3))
  have V : ∀ i, i < 6 → J MX1_copyFrom Φ 0 0 64 [(0, .ref 0), (1, .ref 24), (2, .int (nI (i + 1)))] [] (vil (B.1, v_sd B, v_sg B, (fun j => if j < i + 1 then v_vn B j else v_vn A j), v_se A, v_ml A, v_fl A, v_br A, v_tk A) z ++ othv B y) →
      J MX1_copyFrom Φ 0 0 64 [(0, .ref 0), (1, .ref 24), (2, .int (nI i))] [] (vil (B.1, v_sd B, v_sg B, (fun j => if j < i then v_vn B j else v_vn A j), v_se A, v_ml A, v_fl A, v_br A, v_tk A) z ++ othv B y) := by
    intro i hi ih
    have hc : i = 0 ∨ i = 1 ∨ i = 2 ∨ i = 3 ∨ i = 4 ∨ i = 5 := by omega
    rcases hc with rfl | rfl | rfl | rfl | rfl | rfl
    all_goals
      refine J.run csX1_copyFrom 40 [(64, 3)] ?_
      refine ⟨fun h => absurd h (by decide), fun _ => ⟨vp_c (by decide), vp_c (by decide), rfl, rfl, by decide, by decide, by decide, ?_⟩⟩
      exact ih
  have V6 : J MX1_copyFrom Φ 0 0 64 [(0, .ref 0), (1, .ref 24), (2, .int (nI 6))] [] (vil (B.1, v_sd B, v_sg B, (fun j => if j < 6 then v_vn B j else v_vn A j), v_se A, v_ml A, v_fl A, v_br A, v_tk A) z ++ othv B y) := by
    refine J.run csX1_copyFrom 40 [(110, 3)] ?_
    refine ⟨fun _ => ⟨rfl, rfl, by decide, by decide, by decide, ?_⟩, fun h => absurd (by decide) h⟩
    exact M0
  have V0 := V 0 (by decide) (V 1 (by decide) (V 2 (by decide) (V 3 (by decide) (V 4 (by decide) (V 5 (by decide) V6)))))
  refine J.run csX1_copyFrom 60 [(64, 3)] ?_
  refine ⟨rfl, rfl, by decide, by decide, by decide, rfl, rfl, by decide, by decide, by decide, ?_⟩
  exact V0
