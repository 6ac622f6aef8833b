/-! The village's votes. -/
theorem ag_abs : ∀ a, a < 8 → ∀ d, d < 8 → (0 ≤ nI d - nI a → nI d - nI a = nI (d - a + (a - d))) ∧ (¬ 0 ≤ nI d - nI a → -(nI d - nI a) = nI (d - a + (a - d))) := by decide +kernel
theorem t_vaneAgrees {A : aV} {z : vS} {i h w : Nat} (hi : i < 6) (v1 : v_vn A i 1 < 5) (hw : w ≤ 8) : J MX1_vaneAgrees (jd (.inl (some (.int (if (decide (w ≤ v_vn A i 1) || decide (8 - w ≤ v_vn A i 1)) = true then 1 else 0)))) (vil A z)) 0 0 43 [(0, .ref 0), (1, .int (nI i)), (2, .int (nI h)), (3, .ref (4 + i)), (4, .int (nI w))] [] (vil A z) := by
  have hc : i = 0 ∨ i = 1 ∨ i = 2 ∨ i = 3 ∨ i = 4 ∨ i = 5 := by omega
  rcases hc with rfl | rfl | rfl | rfl | rfl | rfl
  all_goals
    refine J.run csX1_vaneAgrees 60 [] ?_
    refine ⟨vp_c (by decide), fun q => ?_, fun q => ⟨vp_c (by decide), fun q2 => ?_, fun q2 => ?_⟩⟩
    · have q : nI w ≤ nI (v_vn A _ 1) := q
      rw [n_le (by omega) (by omega)] at q
      refine ⟨Or.inr rfl, jd_i ?_ rfl⟩
      rw [decide_eq_true q]
      rfl
    · have q : ¬ nI w ≤ nI (v_vn A _ 1) := q
      rw [n_le (by omega) (by omega)] at q
      have q2 : nI (v_vn A _ 1) < nI 8 - nI w := q2
      rw [pk_sub (by omega), n_lt (by omega) (by omega)] at q2
      refine ⟨Or.inl rfl, jd_i ?_ rfl⟩
      rw [decide_eq_false q, decide_eq_false (by omega)]
      rfl
    · have q2 : ¬ nI (v_vn A _ 1) < nI 8 - nI w := q2
      rw [pk_sub (by omega), n_lt (by omega) (by omega)] at q2
      refine ⟨Or.inr rfl, jd_i ?_ rfl⟩
      rw [decide_eq_true (p := 8 - w ≤ _) (by omega), Bool.or_true]
      rfl
theorem c_X1_vaneAgrees {A : aV} {z : vS} {i h : Nat} (hA : vOk A) (hi : i < 6) (hh : h < 24) : Ct MX1_vaneAgrees 0 0 [.ref 0, .int (nI i), .int (nI h)] (vil A z) (jd (.inl (some (.int (if agr A i h = true then 1 else 0)))) (vil A z)) := by
  obtain ⟨-, -, hs, hv, -⟩ := hA
  obtain ⟨s1, s2⟩ := hs h hh
  obtain ⟨v0, v1, v2, -⟩ := hv i hi
  refine Ct.of rfl rfl (by decide +kernel) rfl (Nat.le_of_ble_eq_true rfl) ?_
  obtain ⟨w, hw⟩ : ∃ w, w = v_sd A h - v_vn A i 0 + (v_vn A i 0 - v_sd A h) := ⟨_, rfl⟩
  have hag : agr A i h = (decide (v_vn A i 2 ≤ v_sg A h) && (decide (w ≤ v_vn A i 1) || decide (8 - w ≤ v_vn A i 1))) := by rw [hw]; rfl
  obtain ⟨g1, g2⟩ := ag_abs _ v0 _ s1
  rw [← hw] at g1 g2
  have eh := cl_n (a := h) (by omega)
  obtain ⟨x, hx⟩ : ∃ x, x = (nI h).toNatClampNeg := ⟨_, rfl⟩
  have hc : i = 0 ∨ i = 1 ∨ i = 2 ∨ i = 3 ∨ i = 4 ∨ i = 5 := by omega
  rcases hc with rfl | rfl | rfl | rfl | rfl | rfl
  all_goals
    refine J.run csX1_vaneAgrees 60 [(43, 5)] ?_
    refine ⟨vp_c (by decide), vp_n (by omega) (by omega), vp_c (by decide), fun q => ?_, fun q => ?_⟩
    · have q : nI (v_vn A _ 2) ≤ nI (v_sg A (nI h).toNatClampNeg) := q
      rw [eh, n_le (by omega) (by omega)] at q
      rw [hag, decide_eq_true q, Bool.true_and]
      refine ⟨vp_n (by omega) (by omega), vp_c (by decide), ?_⟩
      have e2 : ∀ a : Int32, nI (v_sd A (nI h).toNatClampNeg) - a = nI (v_sd A h) - a := fun a => by rw [eh]
      refine ⟨fun q1 => ?_, fun q1 => ?_⟩
      · exact J.cast (t_vaneAgrees hi v1 (by omega)) (congrArg (fun y : Int32 => ([(0, .ref 0), (1, .int (nI _)), (2, .int (nI h)), (3, .ref _), (4, .int y)] : j_L)) ((g1 (e2 _ ▸ q1)).symm.trans (e2 _).symm)) rfl rfl
      · exact J.cast (t_vaneAgrees hi v1 (by omega)) (congrArg (fun y : Int32 => ([(0, .ref 0), (1, .int (nI _)), (2, .int (nI h)), (3, .ref _), (4, .int y)] : j_L)) ((g2 (e2 _ ▸ q1)).symm.trans (congrArg (fun a => -a) (e2 _).symm))) rfl rfl
    · have q : ¬ nI (v_vn A _ 2) ≤ nI (v_sg A (nI h).toNatClampNeg) := q
      rw [eh, n_le (by omega) (by omega)] at q
      refine ⟨Or.inl rfl, jd_i ?_ rfl⟩
      rw [hag, decide_eq_false q]
      rfl
theorem ag_0 {b : Bool} {P : Prop} (h : (if b = true then (1 : Int32) else 0) = 0 → P) (e : b = false) : P := h (by rw [e]; rfl)
theorem ag_if {b : Bool} : (if b = true then (1 : Int32) else 0) = 0 ↔ b = false := by cases b <;> decide
theorem c_X1_votesIn {A : aV} {z : vS} {h : Nat} (hA : vOk A) (hh : h < 24) : Ct MX1_votesIn 0 0 [.ref 0, .int (nI h)] (vil A z) (jd (.inl (some (.int (nI (vot A h))))) (vil A z)) := by
  have hv := hA.2.2.2.1
  refine Ct.of rfl rfl (by decide +kernel) rfl (Nat.le_of_ble_eq_true rfl) ?_
  have L : ∀ (d i : Nat), i + d = 6 → J MX1_votesIn (jd (.inl (some (.int (nI (vot A h))))) (vil A z)) 0 0 4 [(0, .ref 0), (1, .int (nI h)), (2, .int (nI (cntN (fun i => free A i && agr A i h) i))), (3, .int (nI i))] [] (vil A z) := by
    intro d
    induction d with
    | zero =>
      intro i hi
      refine J.run csX1_votesIn 20 [] ?_
      refine ⟨fun _ => ?_, fun h => absurd ((n_le (a := 6) (by omega) (by omega)).mpr (by omega)) h⟩
      exact jd_i (by rw [show i = 6 by omega]; rfl) rfl
    | succ d ih =>
      intro i hi
      have ih' := ih (i + 1) (by omega)
      have hlt : i < 6 := by omega
      have h3 := (hv i hlt).2.2.2
      have Kn : (free A i && agr A i h) = false → J MX1_votesIn (jd (.inl (some (.int (nI (vot A h))))) (vil A z)) 0 0 4 [(0, .ref 0), (1, .int (nI h)), (2, .int (nI (cntN (fun i => free A i && agr A i h) i))), (3, .int (nI i + 1))] [] (vil A z) := fun e => by
        rw [cntN_n (p := fun i => free A i && agr A i h) e, nI_succ] at ih'
        exact ih'
      have Ks : (free A i && agr A i h) = true → J MX1_votesIn (jd (.inl (some (.int (nI (vot A h))))) (vil A z)) 0 0 4 [(0, .ref 0), (1, .int (nI h)), (2, .int (nI (cntN (fun i => free A i && agr A i h) i) + 1)), (3, .int (nI i + 1))] [] (vil A z) := fun e => by
        rw [cntN_s (p := fun i => free A i && agr A i h) e, nI_succ] at ih'
        exact ih'
      have K2 : v_vn A i 3 = 0 → J MX1_votesIn (jd (.inl (some (.int (nI (vot A h))))) (vil A z)) 0 0 24 [(0, .ref 0), (1, .int (nI h)), (2, .int (nI (cntN (fun i => free A i && agr A i h) i))), (3, .int (nI i))] [.int (nI h), .int (nI i), .ref 0] (vil A z) := fun e => by
        refine J.callR [] (c_X1_vaneAgrees hA hlt hh) kX1_vaneAgrees mRX1_65 dX1_votesIn_24 (by decide) rfl rfl (Nat.le_of_ble_eq_true rfl) rfl rfl rfl ?_
        refine J.run csX1_votesIn 20 [(4, 4)] ?_
        refine ⟨fun q => Kn ?_, fun q => Ks ?_⟩
        · rw [ag_if.mp q, Bool.and_false]
        · cases hb : agr A i h with
          | false => exact absurd (ag_if.mpr hb) q
          | true => unfold free; rw [decide_eq_true e]; rfl
      have hc : i = 0 ∨ i = 1 ∨ i = 2 ∨ i = 3 ∨ i = 4 ∨ i = 5 := by omega
      rcases hc with rfl | rfl | rfl | rfl | rfl | rfl
      all_goals
        refine J.run csX1_votesIn 30 [(4, 4)] ?_
        refine ⟨fun h => absurd h (by decide), fun _ => ⟨vp_c (by decide), vp_c (by decide), fun q => Kn ?_, fun q => K2 ((n_eq0 (by omega)).mp q)⟩⟩
        have q : ¬ nI (v_vn A _ 3) = 0 := q
        rw [n_eq0 (by omega)] at q
        unfold free
        rw [decide_eq_false q]
        rfl
  refine J.run csX1_votesIn 20 [(4, 4)] ?_
  exact L _ 0 (Nat.zero_add _)
theorem vot_le (A : aV) (h : Nat) : vot A h ≤ 6 := cntN_le _ 6
theorem com_le (A : aV) : com A ≤ 6 := cntN_le _ 6
theorem ver_le (A : aV) (a b : Nat) : ver A a b ≤ 2 := by
  unfold ver
  split
  · omega
  · split <;> omega
theorem n_mul (a b : Nat) : nI a * nI b = nI (a * b) := pk_mul a b
theorem c_X1_verdictOf {A : aV} {z : vS} {a b : Nat} (hA : vOk A) (ha : a < 100) (hb : b < 100) : Ct MX1_verdictOf 0 0 [.ref 0, .int (nI a), .int (nI b)] (vil A z) (jd (.inl (some (.int (nI (ver A a b))))) (vil A z)) := by
  have hs := hA.2.2.2.2.1
  refine Ct.of rfl rfl (by decide +kernel) rfl (Nat.le_of_ble_eq_true rfl) ?_
  refine J.run csX1_verdictOf 60 [] ?_
  have e : nI 2 * nI b = nI (2 * b) := n_mul 2 b
  refine ⟨vp_c (by decide), fun q => ⟨fun q2 => ?_, fun q2 => ⟨fun q3 => ?_, fun q3 => ⟨vp_c (by decide), fun q4 => ?_, fun q4 => ?_⟩⟩⟩, fun q => ?_⟩
  · have q := (n_le (a := v_se A 0) (by omega) (by omega)).mp q
    have q2 : nI a < nI 2 * nI b := q2
    rw [e, n_lt (by omega) (by omega)] at q2
    refine jd_i ?_ rfl
    unfold ver
    rw [if_neg (by omega), if_pos (Or.inl q2)]
    rfl
  · have q := (n_le (a := v_se A 0) (by omega) (by omega)).mp q
    have q2 : ¬ nI a < nI 2 * nI b := q2
    rw [e, n_lt (by omega) (by omega)] at q2
    have q3 : ¬ nI 2 * nI b = nI a := q3
    rw [e, n_eq (by omega) (by omega)] at q3
    refine jd_i ?_ rfl
    unfold ver
    rw [if_neg (by omega), if_neg (by omega)]
    rfl
  · have q := (n_le (a := v_se A 0) (by omega) (by omega)).mp q
    have q2 : ¬ nI a < nI 2 * nI b := q2
    rw [e, n_lt (by omega) (by omega)] at q2
    have q4 : ¬ nI (v_se A 1) = nI 1 := q4
    rw [n_eq (by omega) (by omega)] at q4
    refine jd_i ?_ rfl
    unfold ver
    rw [if_neg (by omega), if_neg (by omega)]
    rfl
  · have q := (n_le (a := v_se A 0) (by omega) (by omega)).mp q
    have q3 : nI 2 * nI b = nI a := q3
    rw [e, n_eq (by omega) (by omega)] at q3
    have q4 : nI (v_se A 1) = nI 1 := q4
    rw [n_eq (by omega) (by omega)] at q4
    refine jd_i ?_ rfl
    unfold ver
    rw [if_neg (by omega), if_pos (Or.inr ⟨q3, q4⟩)]
    rfl
  · have q : ¬ v_se A 0 ≤ a := fun q0 => q ((n_le (a := v_se A 0) (b := a) (by omega) (by omega)).mpr q0)
    refine jd_i ?_ rfl
    unfold ver
    rw [if_pos (by omega)]
    rfl
theorem c_X1_verdictIn {A : aV} {z : vS} {h : Nat} (hA : vOk A) (hh : h < 24) : Ct MX1_verdictIn 0 0 [.ref 0, .int (nI h)] (vil A z) (jd (.inl (some (.int (nI (vdi A h))))) (vil A z)) := by
  refine Ct.of rfl rfl (by decide +kernel) rfl (Nat.le_of_ble_eq_true rfl) ?_
  refine J.run csX1_verdictIn 20 [] ?_
  refine J.callR [.ref 0] (c_X1_committee hA) kX1_committee mRX1_69 dX1_verdictIn_2 (by decide) rfl rfl (Nat.le_of_ble_eq_true rfl) rfl rfl rfl ?_
  refine J.run csX1_verdictIn 20 [] ?_
  refine J.callR [.int (nI (com A)), .ref 0] (c_X1_votesIn hA hh) kX1_votesIn mRX1_73 dX1_verdictIn_7 (by decide) rfl rfl (Nat.le_of_ble_eq_true rfl) rfl rfl rfl ?_
  refine J.callR [] (c_X1_verdictOf hA (Nat.lt_of_le_of_lt (com_le A) (by decide)) (Nat.lt_of_le_of_lt (vot_le A h) (by decide))) kX1_verdictOf mRX1_77 dX1_verdictIn_10 (by decide) rfl rfl (Nat.le_of_ble_eq_true rfl) rfl rfl rfl ?_
  refine J.run csX1_verdictIn 20 [] ?_
  exact jd_i rfl rfl
