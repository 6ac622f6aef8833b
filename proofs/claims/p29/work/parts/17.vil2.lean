/-! The village's hours. -/
theorem vdi_le (A : aV) (h : Nat) : vdi A h ≤ 2 := ver_le A _ _
theorem c_X1_agreeingHours {A : aV} {z : vS} (hA : vOk A) : Ct MX1_agreeingHours 0 0 [.ref 0] (vil A z) (jd (.inl (some (.int (nI (agh A))))) (vil A z)) := by
  refine Ct.of rfl rfl (by decide +kernel) rfl (Nat.le_of_ble_eq_true rfl) ?_
  have L : ∀ (d i : Nat), i + d = 24 → J MX1_agreeingHours (jd (.inl (some (.int (nI (agh A))))) (vil A z)) 0 0 4 [(0, .ref 0), (1, .int (nI (cntN (trn A) i))), (2, .int (nI i))] [] (vil A z) := by
    intro d
    induction d with
    | zero =>
      intro i hi
      refine J.run csX1_agreeingHours 20 [] ?_
      refine ⟨fun _ => ?_, fun h => absurd ((n_le (a := 24) (by omega) (by omega)).mpr (by omega)) h⟩
      exact jd_i (by rw [show i = 24 by omega]; rfl) rfl
    | succ d ih =>
      intro i hi
      have ih' := ih (i + 1) (by omega)
      refine J.run csX1_agreeingHours 30 [(4, 3)] ?_
      refine ⟨fun h => absurd ((n_le (a := 24) (by omega) (by omega)).mp h) (by omega), fun _ => ?_⟩
      refine J.callR [] (c_X1_verdictIn hA (h := i) (by omega)) kX1_verdictIn mRX1_81 dX1_agreeingHours_12 (by decide) rfl rfl (Nat.le_of_ble_eq_true rfl) rfl rfl rfl ?_
      refine J.run csX1_agreeingHours 30 [(4, 3)] ?_
      have hle := vdi_le A i
      refine ⟨fun q => ?_, fun q => ?_⟩
      · have q : ¬ nI (vdi A i) = 0 := q
        rw [n_eq0 (by omega)] at q
        rw [cntN_n (by unfold trn; exact decide_eq_false q), nI_succ] at ih'
        exact ih'
      · have q : nI (vdi A i) = 0 := q
        rw [n_eq0 (by omega)] at q
        rw [cntN_s (by unfold trn; exact decide_eq_true q), nI_succ] at ih'
        exact ih'
  refine J.run csX1_agreeingHours 20 [(4, 3)] ?_
  exact L _ 0 (Nat.zero_add _)
theorem c_X1_hoursOfVane {A : aV} {z : vS} {v : Nat} (hA : vOk A) (hv : v < 6) : Ct MX1_hoursOfVane 0 0 [.ref 0, .int (nI v)] (vil A z) (jd (.inl (some (.int (nI (hov A v))))) (vil A z)) := by
  refine Ct.of rfl rfl (by decide +kernel) rfl (Nat.le_of_ble_eq_true rfl) ?_
  have L : ∀ (d i : Nat), i + d = 24 → J MX1_hoursOfVane (jd (.inl (some (.int (nI (hov A v))))) (vil A z)) 0 0 4 [(0, .ref 0), (1, .int (nI v)), (2, .int (nI (cntN (agr A v) i))), (3, .int (nI i))] [] (vil A z) := by
    intro d
    induction d with
    | zero =>
      intro i hi
      refine J.run csX1_hoursOfVane 20 [] ?_
      refine ⟨fun _ => ?_, fun h => absurd ((n_le (a := 24) (by omega) (by omega)).mpr (by omega)) h⟩
      exact jd_i (by rw [show i = 24 by omega]; rfl) rfl
    | succ d ih =>
      intro i hi
      have ih' := ih (i + 1) (by omega)
      refine J.run csX1_hoursOfVane 30 [(4, 4)] ?_
      refine ⟨fun h => absurd ((n_le (a := 24) (by omega) (by omega)).mp h) (by omega), fun _ => ?_⟩
      refine J.callR [] (c_X1_vaneAgrees hA hv (h := i) (by omega)) kX1_vaneAgrees mRX1_65 dX1_hoursOfVane_13 (by decide) rfl rfl (Nat.le_of_ble_eq_true rfl) rfl rfl rfl ?_
      refine J.run csX1_hoursOfVane 30 [(4, 4)] ?_
      refine ⟨fun q => ?_, fun q => ?_⟩
      · rw [cntN_n (ag_if.mp q), nI_succ] at ih'
        exact ih'
      · rw [cntN_s (by cases hb : agr A v i with
          | false => exact absurd (ag_if.mpr hb) q
          | true => rfl), nI_succ] at ih'
        exact ih'
  refine J.run csX1_hoursOfVane 20 [(4, 4)] ?_
  exact L _ 0 (Nat.zero_add _)
/-- a vane the other way -/
theorem cntN_one {p q : Nat → Bool} {i : Nat} (h : ∀ j, j ≠ i → q j = p j) : ∀ n, cntN q n + (if i < n ∧ p i = true then 1 else 0) = cntN p n + (if i < n ∧ q i = true then 1 else 0)
  | 0 => by simp [cntN]
  | n + 1 => by
    have ih := cntN_one h n
    unfold cntN
    by_cases e : n = i
    · subst e
      rw [if_neg (by omega), if_neg (by omega)] at ih
      by_cases hp : p n = true <;> by_cases hq : q n = true <;> simp [hp, hq] <;> omega
    · rw [h n e]
      have e2 : (i < n + 1) ↔ (i < n) := by omega
      simp only [e2]
      omega
theorem flip_vn (A : aV) (i j w : Nat) : v_vn (flip A i) j w = if j = i ∧ w = 3 then 1 - v_vn A i 3 else v_vn A j w := rfl
theorem flip_ne {A : aV} {i j w : Nat} (h : j ≠ i ∨ w ≠ 3) : v_vn (flip A i) j w = v_vn A j w := by
  rw [flip_vn, if_neg]
  rintro ⟨h1, h2⟩
  rcases h with h | h
  · exact h h1
  · exact h h2
theorem flip_self (A : aV) (i : Nat) : v_vn (flip A i) i 3 = 1 - v_vn A i 3 := by rw [flip_vn, if_pos ⟨rfl, rfl⟩]
theorem flip_com {A : aV} {i : Nat} (hi : i < 6) : (v_vn A i 3 = 0 → com (flip A i) + 1 = com A) ∧ (v_vn A i 3 = 1 → com (flip A i) = com A + 1) := by
  have k := cntN_one (p := free A) (q := free (flip A i)) (i := i) (fun j hj => by unfold free; rw [flip_ne (Or.inl hj)]) 6
  have e1 : free (flip A i) i = decide (1 - v_vn A i 3 = 0) := by unfold free; rw [flip_self]
  unfold com
  refine ⟨fun h => ?_, fun h => ?_⟩
  · rw [e1] at k
    unfold free at k ⊢
    simp [h, hi] at k
    exact k
  · rw [e1] at k
    unfold free at k ⊢
    simp [h, hi] at k
    exact k
theorem flip_agr (A : aV) (i j h : Nat) : agr (flip A i) j h = agr A j h := by
  unfold agr
  rw [flip_ne (Or.inr (by decide)), flip_ne (Or.inr (by decide)), flip_ne (Or.inr (by decide))]
  rfl
theorem flip_vot {A : aV} {i h : Nat} (hi : i < 6) : (agr A i h = false → vot (flip A i) h = vot A h) ∧ (agr A i h = true → (v_vn A i 3 = 0 → vot (flip A i) h + 1 = vot A h) ∧ (v_vn A i 3 = 1 → vot (flip A i) h = vot A h + 1)) := by
  have k := cntN_one (p := fun j => free A j && agr A j h) (q := fun j => free (flip A i) j && agr (flip A i) j h) (i := i) (fun j hj => by rw [flip_agr]; unfold free; rw [flip_ne (Or.inl hj)]) 6
  have e1 : free (flip A i) i = decide (1 - v_vn A i 3 = 0) := by unfold free; rw [flip_self]
  rw [flip_agr, e1] at k
  refine ⟨fun ha => ?_, fun ha => ⟨fun h3 => ?_, fun h3 => ?_⟩⟩
  · rw [ha] at k
    simp at k
    exact k
  · rw [ha] at k
    unfold free at k
    simp [h3, hi] at k
    exact k
  · rw [ha] at k
    unfold free at k
    simp [h3, hi] at k
    exact k
theorem flip_trn (A : aV) (i h : Nat) : trn (flip A i) h = decide (ver A (com (flip A i)) (vot (flip A i) h) = 0) := rfl
theorem n_pred {a b : Nat} (h : a + 1 = b) : nI b + (-1) = nI a := by rw [← h]; exact pk_m1 a
theorem c_X1_hoursTurnedBy {A : aV} {z : vS} {v : Nat} (hA : vOk A) (hv : v < 6) : Ct MX1_hoursTurnedBy 0 0 [.ref 0, .int (nI v)] (vil A z) (jd (.inl (some (.int (nI (htb A v))))) (vil A z)) := by
  have h3 := (hA.2.2.2.1 v hv).2.2.2
  refine Ct.of rfl rfl (by decide +kernel) rfl (Nat.le_of_ble_eq_true rfl) ?_
  generalize hΦ : jd (.inl (some (.int (nI (htb A v))))) (vil A z) = Φ
  have hcf : com (flip A v) ≤ 6 := com_le _
  have main : ∀ st : Int32, nI (com A) + st = nI (com (flip A v)) → (∀ h, agr A v h = true → nI (vot A h) + st = nI (vot (flip A v) h)) → J MX1_hoursTurnedBy Φ 0 0 18 [(0, .ref 0), (1, .int (nI v)), (2, .int st)] [] (vil A z) := by
    intro st F1 F2
    have L : ∀ (d i : Nat), i + d = 24 → J MX1_hoursTurnedBy Φ 0 0 29 [(0, .ref 0), (1, .int (nI v)), (2, .int st), (3, .int (nI (com A))), (4, .int (nI (cntN (fun h => trn A h != trn (flip A v) h) i))), (5, .int (nI i))] [] (vil A z) := by
      intro d
      induction d with
      | zero =>
        intro i hi
        refine J.run csX1_hoursTurnedBy 20 [] ?_
        refine ⟨fun _ => ?_, fun h => absurd ((n_le (a := 24) (by omega) (by omega)).mpr (by omega)) h⟩
        rw [← hΦ]
        exact jd_i (by rw [show i = 24 by omega]; rfl) rfl
      | succ d ih =>
        intro i hi
        have ih' := ih (i + 1) (by omega)
        obtain ⟨C, hC⟩ : ∃ C, C = cntN (fun h => trn A h != trn (flip A v) h) i := ⟨_, rfl⟩
        -- behind both verdicts
        have K3 : J MX1_hoursTurnedBy Φ 0 0 99 [(0, .ref 0), (1, .int (nI v)), (2, .int st), (3, .int (nI (com A))), (4, .int (nI C)), (5, .int (nI i)), (6, .int (nI (vot A i))), (7, .int (nI (vot (flip A v) i))), (8, .int (if trn A i = true then 1 else 0))] [.int (if trn (flip A v) i = true then 1 else 0)] (vil A z) := by
          refine J.run csX1_hoursTurnedBy 20 [(29, 6)] ?_
          rw [hC]
          refine ⟨fun q => ?_, fun q => ?_⟩
          · have e : (trn A i != trn (flip A v) i) = false := by
              revert q
              cases trn A i <;> cases trn (flip A v) i <;> decide
            rw [cntN_n (p := fun h => trn A h != trn (flip A v) h) e, nI_succ] at ih'
            exact ih'
          · have e : (trn A i != trn (flip A v) i) = true := by
              revert q
              cases trn A i <;> cases trn (flip A v) i <;> decide
            rw [cntN_s (p := fun h => trn A h != trn (flip A v) h) e, nI_succ] at ih'
            exact ih'
        have K2 : J MX1_hoursTurnedBy Φ 0 0 80 [(0, .ref 0), (1, .int (nI v)), (2, .int st), (3, .int (nI (com A))), (4, .int (nI C)), (5, .int (nI i)), (6, .int (nI (vot A i))), (7, .int (nI (vot (flip A v) i)))] [.int (if trn A i = true then 1 else 0)] (vil A z) := by
          refine J.run csX1_hoursTurnedBy 20 [] ?_
          refine J.callR [] (as := [.int (nI (com (flip A v))), .int (nI (vot (flip A v) i))]) (c_X1_verdictOf hA (Nat.lt_of_le_of_lt hcf (by decide)) (Nat.lt_of_le_of_lt (vot_le _ i) (by decide))) kX1_verdictOf mRX1_77 dX1_hoursTurnedBy_88 (by decide) rfl (by rw [← F1]; rfl) (Nat.le_of_ble_eq_true rfl) rfl rfl rfl ?_
          have hle := ver_le A (com (flip A v)) (vot (flip A v) i)
          refine J.run csX1_hoursTurnedBy 20 [(99, 9)] ?_
          refine ⟨fun q => ?_, fun q => ?_⟩
          · have q : ¬ nI (ver A (com (flip A v)) (vot (flip A v) i)) = 0 := q
            rw [n_eq0 (by omega)] at q
            rw [flip_trn, decide_eq_false q] at K3
            exact K3
          · have q : nI (ver A (com (flip A v)) (vot (flip A v) i)) = 0 := q
            rw [n_eq0 (by omega)] at q
            rw [flip_trn, decide_eq_true q] at K3
            exact K3
        have K1 : J MX1_hoursTurnedBy Φ 0 0 63 [(0, .ref 0), (1, .int (nI v)), (2, .int st), (3, .int (nI (com A))), (4, .int (nI C)), (5, .int (nI i)), (6, .int (nI (vot A i)))] [.int (nI (vot (flip A v) i))] (vil A z) := by
          refine J.run csX1_hoursTurnedBy 20 [] ?_
          refine J.callR [] (c_X1_verdictOf hA (Nat.lt_of_le_of_lt (com_le A) (by decide)) (Nat.lt_of_le_of_lt (vot_le A i) (by decide))) kX1_verdictOf mRX1_77 dX1_hoursTurnedBy_69 (by decide) rfl rfl (Nat.le_of_ble_eq_true rfl) rfl rfl rfl ?_
          have hle := ver_le A (com A) (vot A i)
          refine J.run csX1_hoursTurnedBy 20 [(80, 8)] ?_
          refine ⟨fun q => ?_, fun q => ?_⟩
          · have q : ¬ nI (vdi A i) = 0 := q
            rw [n_eq0 (by have := vdi_le A i; omega)] at q
            have e : trn A i = false := decide_eq_false q
            rw [e] at K2
            exact K2
          · have q : nI (vdi A i) = 0 := q
            rw [n_eq0 (by have := vdi_le A i; omega)] at q
            have e : trn A i = true := decide_eq_true q
            rw [e] at K2
            exact K2
        rw [← hC]
        refine J.run csX1_hoursTurnedBy 30 [(29, 6)] ?_
        refine ⟨fun h => absurd ((n_le (a := 24) (by omega) (by omega)).mp h) (by omega), fun _ => ?_⟩
        refine J.callR [] (c_X1_votesIn hA (h := i) (by omega)) kX1_votesIn mRX1_73 dX1_hoursTurnedBy_39 (by decide) rfl rfl (Nat.le_of_ble_eq_true rfl) rfl rfl rfl ?_
        refine J.run csX1_hoursTurnedBy 30 [] ?_
        refine J.callR [] (c_X1_vaneAgrees hA hv (h := i) (by omega)) kX1_vaneAgrees mRX1_65 dX1_hoursTurnedBy_48 (by decide) rfl rfl (Nat.le_of_ble_eq_true rfl) rfl rfl rfl ?_
        refine J.run csX1_hoursTurnedBy 30 [(63, 7)] ?_
        refine ⟨fun q => ?_, fun q => ?_⟩
        · rw [(flip_vot hv).1 (ag_if.mp q)] at K1
          exact K1
        · have e := F2 i (by cases hb : agr A v i with
            | false => exact absurd (ag_if.mpr hb) q
            | true => rfl)
          rw [← e] at K1
          exact K1
    refine J.run csX1_hoursTurnedBy 20 [] ?_
    refine J.callR [] (c_X1_committee hA) kX1_committee mRX1_69 dX1_hoursTurnedBy_19 (by decide) rfl rfl (Nat.le_of_ble_eq_true rfl) rfl rfl rfl ?_
    refine J.run csX1_hoursTurnedBy 20 [(29, 6)] ?_
    exact L _ 0 (Nat.zero_add _)
  have P1 : v_vn A v 3 = 1 → J MX1_hoursTurnedBy Φ 0 0 18 [(0, .ref 0), (1, .int (nI v)), (2, .int 1)] [] (vil A z) := fun e => main 1 (by rw [(flip_com hv).2 e]; exact nI_1 _) (fun h ha => by rw [((flip_vot hv).2 ha).2 e]; exact nI_1 _)
  have P0 : v_vn A v 3 = 0 → J MX1_hoursTurnedBy Φ 0 0 18 [(0, .ref 0), (1, .int (nI v)), (2, .int (-1))] [] (vil A z) := fun e => main (-1) (n_pred ((flip_com hv).1 e)) (fun h ha => n_pred (((flip_vot hv).2 ha).1 e))
  have hc : v = 0 ∨ v = 1 ∨ v = 2 ∨ v = 3 ∨ v = 4 ∨ v = 5 := by omega
  rcases hc with rfl | rfl | rfl | rfl | rfl | rfl
  all_goals
    refine J.run csX1_hoursTurnedBy 30 [(18, 3)] ?_
    refine ⟨vp_c (by decide), vp_c (by decide), fun q => P0 ?_, fun q => P1 ?_⟩
    · have q : ¬ nI (v_vn A _ 3) = nI 1 := q
      rw [n_eq (by omega) (by omega)] at q
      omega
    · have q : nI (v_vn A _ 3) = nI 1 := q
      rw [n_eq (by omega) (by omega)] at q
      exact q
