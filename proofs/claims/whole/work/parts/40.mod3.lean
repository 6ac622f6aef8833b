/-! The model's sums; which vane matters. -/
theorem c_X4_waiting {A : aV} {t : mT} {z : Nat → Int32} {r : mR} {m : Nat} (hA : vOk A) (hz : zRel A z) (hm : m < 3) : Ct MX4_waiting 0 0 [.ref 0, .int (nI m)] (mw t z r) (jd (.inl (some (.int (nI (swt (v_lo A m)))))) (mw t z r)) := by
  have hl : (v_lo A m).length ≤ 8 := (hA.2.2.2.2.2 m hm).2.1
  obtain ⟨z0, z1, z2, z3⟩ := hz.2.2.2.1 m hm
  have z1 : z (74 + 19 * m + 1) = nI (v_lo A m).length := by rw [← z1]; congr 1; omega
  refine Ct.of rfl rfl (by decide +kernel) rfl (Nat.le_of_ble_eq_true rfl) ?_
  generalize hΦ : jd (.inl (some (.int (nI (swt (v_lo A m)))))) (mw t z r) = Φ
  have L : ∀ (d k : Nat), k + d = (v_lo A m).length → J MX4_waiting Φ 0 0 4 [(0, .ref 0), (1, .int (nI m)), (2, .int (nI (sumN (lo_s (v_lo A m)) k))), (3, .int (nI k))] [] (mw t z r) := by
    intro d
    induction d with
    | zero =>
      intro k hk
      refine J.run csX4_waiting 4 [] ?_
      refine J.callR [.int (nI k)] (c_X4_millAt hm (show 1 < 19 by decide)) kX4_millAt mRX4_62 dX4_waiting_8 (by decide) rfl rfl (Nat.le_of_ble_eq_true rfl) (i0 := 0) rfl (ci := 4) rfl rfl ?_
      rw [z1]
      refine J.run csX4_waiting 10 [] ?_
      refine ⟨fun _ => ?_, fun h => absurd ((n_le (a := (v_lo A m).length) (b := k) (by omega) (by omega)).mpr (by omega)) h⟩
      rw [← hΦ]
      exact jd_i (by rw [show k = (v_lo A m).length by omega]; rfl) rfl
    | succ d ih =>
      intro k hk
      have ih' := ih (k + 1) (by omega)
      rw [sumN_s, nI_succ k] at ih'
      refine J.run csX4_waiting 4 [] ?_
      refine J.callR [.int (nI k)] (c_X4_millAt hm (show 1 < 19 by decide)) kX4_millAt mRX4_62 dX4_waiting_8 (by decide) rfl rfl (Nat.le_of_ble_eq_true rfl) (i0 := 0) rfl (ci := 4) rfl rfl ?_
      rw [z1]
      refine J.run csX4_waiting 1 [] ?_
      refine ⟨fun h => absurd ((n_le (a := (v_lo A m).length) (b := k) (by omega) (by omega)).mp h) (by omega), fun _ => ?_⟩
      have e : nI 3 + nI 2 * nI k + nI 1 = nI (4 + 2 * k) := by
        rw [n_mul, nI_add, nI_add]
        congr 1
        omega
      have X : J MX4_waiting Φ 0 0 24 [(0, .ref 0), (1, .int (nI m)), (2, .int (nI (sumN (lo_s (v_lo A m)) k))), (3, .int (nI k))] [.int (nI (4 + 2 * k)), .int (nI m), .ref 0, .int (nI (sumN (lo_s (v_lo A m)) k))] (mw t z r) := by
        refine J.callR [.int (nI (sumN (lo_s (v_lo A m)) k))] (c_X4_millAt hm (show 4 + 2 * k < 19 by omega)) kX4_millAt mRX4_62 dX4_waiting_24 (by decide) rfl rfl (Nat.le_of_ble_eq_true rfl) (i0 := 0) rfl (ci := 4) rfl rfl ?_
        rw [show 74 + 19 * m + (4 + 2 * k) = 78 + 19 * m + 2 * k by omega, (z3 k (by omega)).2]
        refine J.run csX4_waiting 10 [(4, 4)] ?_
        exact ih'
      rw [← e] at X
      refine J.run csX4_waiting 30 [] ?_
      exact X
  refine J.run csX4_waiting 10 [(4, 4)] ?_
  exact L _ 0 (Nat.zero_add _)
def swoP (A : aV) (o : Nat) : Nat → Nat
  | 0 => 0
  | m + 1 => swoP A o m + swo (v_lo A m) o
theorem swoP_3 (A : aV) (o : Nat) : swoP A o 3 = swoa A o := by
  show 0 + swo (v_lo A 0) o + swo (v_lo A 1) o + swo (v_lo A 2) o = swo (v_lo A 0) o + swo (v_lo A 1) o + swo (v_lo A 2) o
  omega
theorem c_X4_waitingOf {A : aV} {t : mT} {z : Nat → Int32} {r : mR} {o : Nat} (hA : vOk A) (hz : zRel A z) (ho : o < 5) : Ct MX4_waitingOf 0 0 [.ref 0, .int (nI o)] (mw t z r) (jd (.inl (some (.int (nI (swoa A o))))) (mw t z r)) := by
  refine Ct.of rfl rfl (by decide +kernel) rfl (Nat.le_of_ble_eq_true rfl) ?_
  generalize hΦ : jd (.inl (some (.int (nI (swoa A o))))) (mw t z r) = Φ
  have L : ∀ (d m : Nat), m + d = 3 → J MX4_waitingOf Φ 0 0 4 [(0, .ref 0), (1, .int (nI o)), (2, .int (nI (swoP A o m))), (3, .int (nI m))] [] (mw t z r) := by
    intro d
    induction d with
    | zero =>
      intro m hm
      refine J.run csX4_waitingOf 10 [] ?_
      refine ⟨fun _ => ?_, fun h => absurd ((n_le (a := 3) (b := m) (by decide) (by omega)).mpr (by omega)) h⟩
      rw [← hΦ]
      exact jd_i (by rw [show m = 3 by omega, swoP_3]) rfl
    | succ d ih =>
      intro m hmd
      have hm : m < 3 := by omega
      have hmk := hA.2.2.2.2.2 m hm
      have hl : (v_lo A m).length ≤ 8 := hmk.2.1
      obtain ⟨z0, z1, z2, z3⟩ := hz.2.2.2.1 m hm
      have z1 : z (74 + 19 * m + 1) = nI (v_lo A m).length := by rw [← z1]; congr 1; omega
      have ih' := ih (m + 1) (by omega)
      rw [nI_succ m] at ih'
      have I : ∀ (d k : Nat), k + d = (v_lo A m).length → J MX4_waitingOf Φ 0 0 12 [(0, .ref 0), (1, .int (nI o)), (2, .int (nI (swoP A o m + sumN (fun k => if lo_o (v_lo A m) k = o then lo_s (v_lo A m) k else 0) k))), (3, .int (nI m)), (4, .int (nI k))] [] (mw t z r) := by
        intro d
        induction d with
        | zero =>
          intro k hk
          refine J.run csX4_waitingOf 4 [] ?_
          refine J.callR [.int (nI k)] (c_X4_millAt hm (show 1 < 19 by decide)) kX4_millAt mRX4_62 dX4_waitingOf_17 (by decide) rfl rfl (Nat.le_of_ble_eq_true rfl) (i0 := 0) rfl (ci := 4) rfl rfl ?_
          rw [z1]
          refine J.run csX4_waitingOf 10 [(4, 4)] ?_
          refine ⟨fun _ => ?_, fun h => absurd ((n_le (a := (v_lo A m).length) (b := k) (by omega) (by omega)).mpr (by omega)) h⟩
          rw [show k = (v_lo A m).length by omega]
          exact ih'
        | succ d ih2 =>
          intro k hk
          have ih2' := ih2 (k + 1) (by omega)
          rw [nI_succ k, show swoP A o m + sumN (fun k => if lo_o (v_lo A m) k = o then lo_s (v_lo A m) k else 0) (k + 1) = (swoP A o m + sumN (fun k => if lo_o (v_lo A m) k = o then lo_s (v_lo A m) k else 0) k) + (if lo_o (v_lo A m) k = o then lo_s (v_lo A m) k else 0) from (Nat.add_assoc _ _ _).symm, ← nI_add] at ih2'
          generalize swoP A o m + sumN (fun k => if lo_o (v_lo A m) k = o then lo_s (v_lo A m) k else 0) k = g at ih2'
          have hlo := (hmk.2.2 _ (lo_mem (l := v_lo A m) (k := k) (by omega))).1
          obtain ⟨y1, y2⟩ := z3 k (by omega)
          refine J.run csX4_waitingOf 4 [] ?_
          refine J.callR [.int (nI k)] (c_X4_millAt hm (show 1 < 19 by decide)) kX4_millAt mRX4_62 dX4_waitingOf_17 (by decide) rfl rfl (Nat.le_of_ble_eq_true rfl) (i0 := 0) rfl (ci := 4) rfl rfl ?_
          rw [z1]
          refine J.run csX4_waitingOf 1 [] ?_
          refine ⟨fun h => absurd ((n_le (a := (v_lo A m).length) (b := k) (by omega) (by omega)).mp h) (by omega), fun _ => ?_⟩
          have e : nI 3 + nI 2 * nI k + nI 1 = nI (4 + 2 * k) := by
            rw [n_mul, nI_add, nI_add]
            congr 1
            omega
          have e3 : nI 3 + nI 2 * nI k = nI (3 + 2 * k) := by rw [n_mul, nI_add]
          have X : lo_o (v_lo A m) k = o → J MX4_waitingOf Φ 0 0 49 [(0, .ref 0), (1, .int (nI o)), (2, .int (nI g)), (3, .int (nI m)), (4, .int (nI k))] [.int (nI (4 + 2 * k)), .int (nI m), .ref 0, .int (nI g)] (mw t z r) := by
            intro w
            refine J.callR [.int (nI g)] (c_X4_millAt hm (show 4 + 2 * k < 19 by omega)) kX4_millAt mRX4_62 dX4_waitingOf_49 (by decide) rfl rfl (Nat.le_of_ble_eq_true rfl) (i0 := 0) rfl (ci := 4) rfl rfl ?_
            rw [show 74 + 19 * m + (4 + 2 * k) = 78 + 19 * m + 2 * k by omega, y2]
            rw [if_pos w] at ih2'
            refine J.run csX4_waitingOf 10 [(12, 5)] ?_
            exact ih2'
          have Y : J MX4_waitingOf Φ 0 0 32 [(0, .ref 0), (1, .int (nI o)), (2, .int (nI g)), (3, .int (nI m)), (4, .int (nI k))] [.int (nI (3 + 2 * k)), .int (nI m), .ref 0, .int (nI g)] (mw t z r) := by
            refine J.callR [.int (nI g)] (c_X4_millAt hm (show 3 + 2 * k < 19 by omega)) kX4_millAt mRX4_62 dX4_waitingOf_32 (by decide) rfl rfl (Nat.le_of_ble_eq_true rfl) (i0 := 0) rfl (ci := 4) rfl rfl ?_
            rw [show 74 + 19 * m + (3 + 2 * k) = 77 + 19 * m + 2 * k by omega, y1]
            refine J.run csX4_waitingOf 2 [] ?_
            refine ⟨fun q => ?_, fun q => ?_⟩
            · have q : ¬ nI (lo_o (v_lo A m) k) = nI o := q
              rw [n_eq (by omega) (by omega)] at q
              rw [if_neg q] at ih2'
              refine J.run csX4_waitingOf 10 [(12, 5)] ?_
              exact ih2'
            · have q : nI (lo_o (v_lo A m) k) = nI o := q
              rw [n_eq (by omega) (by omega)] at q
              have X := X q
              rw [← e] at X
              refine J.run csX4_waitingOf 30 [] ?_
              exact X
          rw [← e3] at Y
          refine J.run csX4_waitingOf 30 [] ?_
          exact Y
      refine J.run csX4_waitingOf 3 [] ?_
      refine ⟨fun h => absurd ((n_le (a := 3) (b := m) (by decide) (by omega)).mp h) (by omega), fun _ => ?_⟩
      refine J.run csX4_waitingOf 2 [(12, 5)] ?_
      exact I _ 0 (Nat.zero_add _)
  refine J.run csX4_waitingOf 10 [(4, 4)] ?_
  exact L 3 0 (Nat.zero_add _)
theorem c_X4_allFlour {A : aV} {t : mT} {z : Nat → Int32} {r : mR} (hz : zRel A z) : Ct MX4_allFlour 0 0 [.ref 0] (mw t z r) (jd (.inl (some (.int (nI (fla A))))) (mw t z r)) := by
  refine Ct.of rfl rfl (by decide +kernel) rfl (Nat.le_of_ble_eq_true rfl) ?_
  generalize hΦ : jd (.inl (some (.int (nI (fla A))))) (mw t z r) = Φ
  have L : ∀ (d i : Nat), i + d = 5 → J MX4_allFlour Φ 0 0 4 [(0, .ref 0), (1, .int (nI (sumN (v_fl A) i))), (2, .int (nI i))] [] (mw t z r) := by
    intro d
    induction d with
    | zero =>
      intro i hi
      refine J.run csX4_allFlour 20 [] ?_
      refine ⟨fun _ => ?_, fun h => absurd ((n_le (a := 5) (b := i) (by omega) (by omega)).mpr (by omega)) h⟩
      rw [← hΦ]
      exact jd_i (by rw [show i = 5 by omega]; rfl) rfl
    | succ d ih =>
      intro i hi
      have hi5 : i < 5 := by omega
      have ih' := ih (i + 1) (by omega)
      rw [sumN_s, nI_succ i] at ih'
      refine J.run csX4_allFlour 3 [] ?_
      refine ⟨fun h => absurd ((n_le (a := 5) (b := i) (by omega) (by omega)).mp h) (by omega), fun _ => ?_⟩
      refine J.run csX4_allFlour 4 [] ?_
      refine J.callR [.int (nI (sumN (v_fl A) i))] (c_X4_ownerAt hi5 (show 0 < 3 by decide)) kX4_ownerAt mRX4_137 dX4_allFlour_13 (by decide) rfl rfl (Nat.le_of_ble_eq_true rfl) (i0 := 0) rfl (ci := 4) rfl rfl ?_
      rw [show 131 + 3 * i + 0 = 131 + 3 * i from rfl, (hz.2.2.2.2.1 i hi5).1]
      refine J.run csX4_allFlour 10 [(4, 3)] ?_
      exact ih'
  refine J.run csX4_allFlour 10 [(4, 3)] ?_
  exact L 5 0 (Nat.zero_add _)
theorem c_X4_agreeingHours {A : aV} {t : mT} {z : Nat → Int32} {r : mR} {v : Nat} (hA : vOk A) (hz : zRel A z) (hv : v < 6) : Ct MX4_agreeingHours 0 0 [.ref 0, .int (nI v)] (mw t z r) (jd (.inl (some (.int (nI (hov A v))))) (mw t z r)) := by
  refine Ct.of rfl rfl (by decide +kernel) rfl (Nat.le_of_ble_eq_true rfl) ?_
  generalize hΦ : jd (.inl (some (.int (nI (hov A v))))) (mw t z r) = Φ
  have L : ∀ (d i : Nat), i + d = 24 → J MX4_agreeingHours Φ 0 0 4 [(0, .ref 0), (1, .int (nI v)), (2, .int (nI (cntN (agr A v) i))), (3, .int (nI i))] [] (mw t z r) := by
    intro d
    induction d with
    | zero =>
      intro i hi
      refine J.run csX4_agreeingHours 20 [] ?_
      refine ⟨fun _ => ?_, fun h => absurd ((n_le (a := 24) (b := i) (by omega) (by omega)).mpr (by omega)) h⟩
      rw [← hΦ]
      exact jd_i (by rw [show i = 24 by omega]; rfl) rfl
    | succ d ih =>
      intro i hi
      have ih' := ih (i + 1) (by omega)
      rw [nI_succ i] at ih'
      refine J.run csX4_agreeingHours 3 [] ?_
      refine ⟨fun h => absurd ((n_le (a := 24) (b := i) (by omega) (by omega)).mp h) (by omega), fun _ => ?_⟩
      refine J.run csX4_agreeingHours 4 [] ?_
      refine J.callR [.int (nI (cntN (agr A v) i))] (c_X4_agrees hA hz hv (show i < 24 by omega)) kX4_agrees mRX4_47 dX4_agreeingHours_14 (by decide) rfl rfl (Nat.le_of_ble_eq_true rfl) (i0 := 0) rfl (ci := 4) rfl rfl ?_
      cases ha : agr A v i with
      | true =>
        rw [cntN_s ha] at ih'
        refine J.run csX4_agreeingHours 10 [(4, 4)] ?_
        exact ⟨fun q => absurd q (by decide), fun _ => ih'⟩
      | false =>
        rw [cntN_n ha] at ih'
        have X : J MX4_agreeingHours Φ 0 0 4 [(0, .ref 0), (1, .int (nI v)), (2, .int (nI (cntN (agr A v) i) + nI 0)), (3, .int (nI i + 1))] [] (mw t z r) := by
          rw [nI_add]
          exact ih'
        refine J.run csX4_agreeingHours 10 [(4, 4)] ?_
        exact ⟨fun _ => X, fun q => absurd rfl q⟩
  refine J.run csX4_agreeingHours 10 [(4, 4)] ?_
  exact L 24 0 (Nat.zero_add _)
theorem flipz {A : aV} {z : Nat → Int32} (hA : vOk A) (hz : zRel A z) {v : Nat} (hv : v < 6) : vOk (flip A v) ∧ zRel (flip A v) (upd z (51 + 4 * v) (nI 1 - z (51 + 4 * v))) ∧ upd (upd z (51 + 4 * v) (nI 1 - z (51 + 4 * v))) (51 + 4 * v) (nI 1 - upd z (51 + 4 * v) (nI 1 - z (51 + 4 * v)) (51 + 4 * v)) = z := by
  obtain ⟨h1, h2, h3, h4, h5, h6⟩ := hA
  obtain ⟨g1, g2, g3, g4, g5, g6⟩ := hz
  have h43 := (h4 v hv).2.2.2
  have zp : z (51 + 4 * v) = nI (v_vn A v 3) := by rw [← g2 v hv 3 (by decide)]; congr 1; omega
  have un : ∀ (p : Nat) (x : Int32), p ≠ 51 + 4 * v → upd z (51 + 4 * v) x p = z p := fun p x h => if_neg h
  refine ⟨⟨h1, h2, h3, fun j hj => ?_, h5, h6⟩, ⟨fun h hh => ?_, fun j hj w hw => ?_, fun s hs => ?_, fun m hm => ?_, fun o ho => ?_, ?_, ?_, ?_, ?_⟩, ?_⟩
  · obtain ⟨a, b, c, d⟩ := h4 j hj
    show (if j = v ∧ 0 = 3 then 1 - v_vn A v 3 else v_vn A j 0) < 8 ∧ (if j = v ∧ 1 = 3 then 1 - v_vn A v 3 else v_vn A j 1) < 5 ∧ (if j = v ∧ 2 = 3 then 1 - v_vn A v 3 else v_vn A j 2) < 10 ∧ (if j = v ∧ 3 = 3 then 1 - v_vn A v 3 else v_vn A j 3) < 2
    refine ⟨by rw [if_neg (by omega)]; exact a, by rw [if_neg (by omega)]; exact b, by rw [if_neg (by omega)]; exact c, ?_⟩
    split <;> omega
  · rw [un _ _ (by omega), un _ _ (by omega)]
    exact g1 h hh
  · show upd z (51 + 4 * v) (nI 1 - z (51 + 4 * v)) (48 + 4 * j + w) = nI (if j = v ∧ w = 3 then 1 - v_vn A v 3 else v_vn A j w)
    by_cases q : j = v ∧ w = 3
    · obtain ⟨rfl, rfl⟩ := q
      rw [if_pos ⟨rfl, rfl⟩, show 48 + 4 * j + 3 = 51 + 4 * j by omega]
      show (if 51 + 4 * j = 51 + 4 * j then nI 1 - z (51 + 4 * j) else z (51 + 4 * j)) = _
      rw [if_pos rfl, zp, pk_sub (by omega)]
    · rw [if_neg q, un _ _ (by omega)]
      exact g2 j hj w hw
  · rw [un _ _ (by omega)]
    exact g3 s hs
  · obtain ⟨a, b, c, d⟩ := g4 m hm
    rw [un _ _ (by omega), un _ _ (by omega), un _ _ (by omega)]
    refine ⟨a, b, c, fun k hk => ?_⟩
    rw [un _ _ (by omega), un _ _ (by omega)]
    exact d k hk
  · rw [un _ _ (by omega), un _ _ (by omega), un _ _ (by omega)]
    exact g5 o ho
  · rw [un _ _ (by omega)]; exact g6.1
  · rw [un _ _ (by omega)]; exact g6.2.1
  · rw [un _ _ (by omega)]; exact g6.2.2.1
  · rw [un _ _ (by omega)]; exact g6.2.2.2
  · funext k
    show (if k = 51 + 4 * v then nI 1 - (if 51 + 4 * v = 51 + 4 * v then nI 1 - z (51 + 4 * v) else z (51 + 4 * v)) else (if k = 51 + 4 * v then nI 1 - z (51 + 4 * v) else z k)) = z k
    by_cases q : k = 51 + 4 * v
    · rw [if_pos q, if_pos rfl, q, zp, pk_sub (by omega), pk_sub (by omega), show 1 - (1 - v_vn A v 3) = v_vn A v 3 by omega]
    · rw [if_neg q, if_neg q]
