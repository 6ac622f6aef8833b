/-! The model: its world, its looks. -/
abbrev mT : Type := Int32 × Int32 × Int32 × Int32
abbrev mR : Type := (Nat → Int32) × (Nat → Int32) × (Nat → Int32) × (Nat → Int32) × (Nat → Int32)
/-- thrown, saves, length, hour; the row; aside, saved, slots, isKept, text -/
def mw (t : mT) (z : Nat → Int32) (r : mR) : j_H := [.inr (4, [.int t.1, .ref 1, .ref 2, .ref 3, .int t.2.1, .ref 4, .ref 5, .ref 6, .int t.2.2.1, .int t.2.2.2]), .inl (0, 150, .inl z), .inl (0, 150, .inl r.1), .inl (0, 900, .inl r.2.1), .inl (0, 300, .inl r.2.2.1), .inl (2, 2, .inl r.2.2.2.1), .inl (0, 60, .inl r.2.2.2.2)]
def zRel (A : aV) (z : Nat → Int32) : Prop :=
  (∀ h, h < 24 → z (2 * h) = nI (v_sd A h) ∧ z (2 * h + 1) = nI (v_sg A h)) ∧ (∀ i, i < 6 → ∀ w, w < 4 → z (48 + 4 * i + w) = nI (v_vn A i w)) ∧ (∀ s, s < 2 → z (72 + s) = nI (v_se A s)) ∧
  (∀ m, m < 3 → z (74 + 19 * m) = nI (m_sp (v_ml A m)) ∧ z (75 + 19 * m) = nI (v_lo A m).length ∧ z (76 + 19 * m) = nI (m_gr (v_ml A m)) ∧ ∀ k, k < (v_lo A m).length → z (77 + 19 * m + 2 * k) = nI (lo_o (v_lo A m) k) ∧ z (78 + 19 * m + 2 * k) = nI (lo_s (v_lo A m) k)) ∧
  (∀ o, o < 5 → z (131 + 3 * o) = nI (v_fl A o) ∧ z (132 + 3 * o) = nI (v_br A o) ∧ z (133 + 3 * o) = nI (v_tk A o)) ∧ z 146 = nI (v_ho A) ∧ z 147 = nI (v_go A) ∧ z 148 = nI (v_tu A) ∧ z 149 = nI (v_re A)
theorem c_X4_in (v a b : Int32) : Ct MX4_in 0 0 [.int v, .int a, .int b] [] (jd (.inl (some (.int (if v < a ∨ b < v then 0 else 1)))) []) := by
  refine Ct.of rfl rfl (by decide +kernel) rfl (Nat.le_of_ble_eq_true rfl) ?_
  refine J.run csX4_in 20 [] ?_
  refine ⟨fun h1 => ?_, fun h1 => ⟨fun h2 => ?_, fun h2 => ?_⟩⟩
  · have h1 : v < a := h1
    exact ⟨Or.inl rfl, jd_i (by rw [if_pos (Or.inl h1)]) rfl⟩
  · have h2 : b < v := h2
    exact ⟨Or.inl rfl, jd_i (by rw [if_pos (Or.inr h2)]) rfl⟩
  · have h1 : ¬ v < a := h1
    have h2 : ¬ b < v := h2
    exact ⟨Or.inr rfl, jd_i (by rw [if_neg (by rintro (w | w); exact h1 w; exact h2 w)]) rfl⟩
theorem c_X4_vaneAt {t : mT} {z : Nat → Int32} {r : mR} {i w : Nat} (hi : i < 6) (hw : w < 4) : Ct MX4_vaneAt 0 0 [.ref 0, .int (nI i), .int (nI w)] (mw t z r) (jd (.inl (some (.int (z (48 + 4 * i + w))))) (mw t z r)) := by
  refine Ct.of rfl rfl (by decide +kernel) rfl (Nat.le_of_ble_eq_true rfl) ?_
  have e : nI 48 + nI 4 * nI i + nI w = nI (48 + 4 * i + w) := by rw [n_mul, nI_add, nI_add]
  refine J.run csX4_vaneAt 20 [] ?_
  refine ⟨?_, ?_⟩
  · show vp_in (nI 48 + nI 4 * nI i + nI w) 150
    rw [e]
    exact vp_n (by omega) (by decide)
  · refine jd_i ?_ rfl
    show Sum.inl (some (Value.int (z (nI 48 + nI 4 * nI i + nI w).toNatClampNeg))) = _
    rw [e, cl_n (by omega)]
theorem c_X4_millAt {t : mT} {z : Nat → Int32} {r : mR} {i w : Nat} (hi : i < 3) (hw : w < 19) : Ct MX4_millAt 0 0 [.ref 0, .int (nI i), .int (nI w)] (mw t z r) (jd (.inl (some (.int (z (74 + 19 * i + w))))) (mw t z r)) := by
  refine Ct.of rfl rfl (by decide +kernel) rfl (Nat.le_of_ble_eq_true rfl) ?_
  have e : nI 74 + nI 19 * nI i + nI w = nI (74 + 19 * i + w) := by rw [n_mul, nI_add, nI_add]
  refine J.run csX4_millAt 20 [] ?_
  refine ⟨?_, ?_⟩
  · show vp_in (nI 74 + nI 19 * nI i + nI w) 150
    rw [e]
    exact vp_n (by omega) (by decide)
  · refine jd_i ?_ rfl
    show Sum.inl (some (Value.int (z (nI 74 + nI 19 * nI i + nI w).toNatClampNeg))) = _
    rw [e, cl_n (by omega)]
theorem c_X4_ownerAt {t : mT} {z : Nat → Int32} {r : mR} {i w : Nat} (hi : i < 5) (hw : w < 3) : Ct MX4_ownerAt 0 0 [.ref 0, .int (nI i), .int (nI w)] (mw t z r) (jd (.inl (some (.int (z (131 + 3 * i + w))))) (mw t z r)) := by
  refine Ct.of rfl rfl (by decide +kernel) rfl (Nat.le_of_ble_eq_true rfl) ?_
  have e : nI 131 + nI 3 * nI i + nI w = nI (131 + 3 * i + w) := by rw [n_mul, nI_add, nI_add]
  refine J.run csX4_ownerAt 20 [] ?_
  refine ⟨?_, ?_⟩
  · show vp_in (nI 131 + nI 3 * nI i + nI w) 150
    rw [e]
    exact vp_n (by omega) (by decide)
  · refine jd_i ?_ rfl
    show Sum.inl (some (Value.int (z (nI 131 + nI 3 * nI i + nI w).toNatClampNeg))) = _
    rw [e, cl_n (by omega)]
theorem n_ne8 : ¬ (8 : Int32) = 0 := by decide
theorem n_rem8 {a : Nat} (h : a < 2 ^ 31) : nI a - nI a / 8 * 8 = nI (a % 8) := pk_rem (d := 8) h (by decide) (by decide)
theorem agr_steps {A : aV} {i h f s : Nat} (hs : v_sd A h < 8) (hf : v_vn A i 0 < 8) (e : f = (v_vn A i 0 + 8 - v_sd A h) % 8) (e2 : s = if 4 < f then 8 - f else f) : agr A i h = (decide (v_vn A i 2 ≤ v_sg A h) && decide (s ≤ v_vn A i 1)) := by
  unfold agr
  congr 1
  rw [← Bool.decide_or]
  apply decide_eq_decide.mpr
  split at e2 <;> omega
theorem c_X4_agrees {A : aV} {t : mT} {z : Nat → Int32} {r : mR} {i h : Nat} (hA : vOk A) (hz : zRel A z) (hi : i < 6) (hh : h < 24) : Ct MX4_agrees 0 0 [.ref 0, .int (nI i), .int (nI h)] (mw t z r) (jd (.inl (some (.int (if agr A i h = true then 1 else 0)))) (mw t z r)) := by
  obtain ⟨s1, s2⟩ := hA.2.2.1 h hh
  obtain ⟨v0, v1, v2, v3⟩ := hA.2.2.2.1 i hi
  obtain ⟨z1, z2⟩ := hz.1 h hh
  have zv := hz.2.1 i hi
  refine Ct.of rfl rfl (by decide +kernel) rfl (Nat.le_of_ble_eq_true rfl) ?_
  generalize hΦ : jd (.inl (some (.int (if agr A i h = true then 1 else 0)))) (mw t z r) = Φ
  have e2h : nI 2 * nI h = nI (2 * h) := n_mul _ _
  have ei : z (nI 2 * nI h).toNatClampNeg = nI (v_sd A h) := by rw [e2h, cl_n (by omega), z1]
  have ei2 : z (nI 2 * nI h + nI 1).toNatClampNeg = nI (v_sg A h) := by rw [e2h, nI_add, cl_n (by omega), z2]
  -- behind the steps
  have E : ∀ (f s : Nat), f = (v_vn A i 0 + 8 - v_sd A h) % 8 → (s = if 4 < f then 8 - f else f) → J MX4_agrees Φ 0 0 35 [(0, .ref 0), (1, .int (nI i)), (2, .int (nI h)), (3, .int (nI f))] [.int (nI s)] (mw t z r) := by
    intro f s e e2
    have hag := agr_steps (A := A) (i := i) (h := h) s1 v0 e e2
    have hs8 : s < 8 := by split at e2 <;> omega
    have G : J MX4_agrees Φ 0 0 50 [(0, .ref 0), (1, .int (nI i)), (2, .int (nI h)), (3, .int (nI f)), (4, .int (nI s))] [.int (nI 2), .int (nI i), .ref 0, .int (nI (v_sg A h))] (mw t z r) := by
      refine J.callR [.int (nI (v_sg A h))] (c_X4_vaneAt hi (show 2 < 4 by decide)) kX4_vaneAt mRX4_43 dX4_agrees_50 (by decide) rfl rfl (Nat.le_of_ble_eq_true rfl) (i0 := 0) rfl (ci := 4) rfl rfl ?_
      rw [zv 2 (by decide)]
      refine J.run csX4_agrees 5 [] ?_
      refine ⟨fun q => ?_, fun q => ?_⟩
      · have q : nI (v_sg A h) < nI (v_vn A i 2) := q
        rw [n_lt (by omega) (by omega)] at q
        rw [← hΦ]
        exact ⟨Or.inl rfl, jd_i (by rw [hag, decide_eq_false (show ¬ v_vn A i 2 ≤ v_sg A h by omega)]; rfl) rfl⟩
      · have q : ¬ nI (v_sg A h) < nI (v_vn A i 2) := q
        rw [n_lt (by omega) (by omega)] at q
        refine J.callR [.int (nI s)] (c_X4_vaneAt hi (show 1 < 4 by decide)) kX4_vaneAt mRX4_43 dX4_agrees_61 (by decide) rfl rfl (Nat.le_of_ble_eq_true rfl) (i0 := 0) rfl (ci := 4) rfl rfl ?_
        rw [zv 1 (by decide)]
        refine J.run csX4_agrees 5 [] ?_
        refine ⟨fun q2 => ?_, fun q2 => ?_⟩
        · have q2 : nI (v_vn A i 1) < nI s := q2
          rw [n_lt (by omega) (by omega)] at q2
          rw [← hΦ]
          exact ⟨Or.inl rfl, jd_i (by rw [hag, decide_eq_true (show v_vn A i 2 ≤ v_sg A h by omega), decide_eq_false (show ¬ s ≤ v_vn A i 1 by omega)]; rfl) rfl⟩
        · have q2 : ¬ nI (v_vn A i 1) < nI s := q2
          rw [n_lt (by omega) (by omega)] at q2
          rw [← hΦ]
          exact ⟨Or.inr rfl, jd_i (by rw [hag, decide_eq_true (show v_vn A i 2 ≤ v_sg A h by omega), decide_eq_true (show s ≤ v_vn A i 1 by omega)]; rfl) rfl⟩
    refine J.run csX4_agrees 13 [] ?_
    refine ⟨?_, ?_⟩
    · show vp_in (nI 2 * nI h + nI 1) 150
      rw [e2h, nI_add]
      exact vp_n (by omega) (by decide)
    · rw [← ei2] at G
      exact G
  have F : J MX4_agrees Φ 0 0 14 [(0, .ref 0), (1, .int (nI i)), (2, .int (nI h))] [.int (nI (v_sd A h)), .int (nI (v_vn A i 0))] (mw t z r) := by
    have e8 : nI (v_vn A i 0) - nI (v_sd A h) + nI 8 = nI (v_vn A i 0 + 8 - v_sd A h) := by
      rw [show nI (v_vn A i 0) - nI (v_sd A h) + nI 8 = nI (v_vn A i 0) + nI 8 - nI (v_sd A h) by rw [Int32.sub_eq_add_neg, Int32.sub_eq_add_neg, Int32.add_assoc, Int32.add_assoc, Int32.add_comm (-_)], nI_add, pk_sub (by omega)]
    have er : nI (v_vn A i 0) - nI (v_sd A h) + nI 8 - (nI (v_vn A i 0) - nI (v_sd A h) + nI 8) / 8 * 8 = nI ((v_vn A i 0 + 8 - v_sd A h) % 8) := by rw [e8, n_rem8 (by omega)]
    generalize hf : (v_vn A i 0 + 8 - v_sd A h) % 8 = f at er
    have hf8 : f < 8 := by omega
    have E1 := fun s => E f s hf.symm
    rw [← er] at E1
    refine J.run csX4_agrees 20 [(35, 4)] ?_
    refine ⟨n_ne8, fun q => ?_, fun q => ?_⟩
    · have q : nI (v_vn A i 0) - nI (v_sd A h) + nI 8 - (nI (v_vn A i 0) - nI (v_sd A h) + nI 8) / 8 * 8 ≤ nI 4 := q
      rw [er, n_le (by omega) (by omega)] at q
      have X := E1 f (by rw [if_neg (by omega)])
      rw [← er] at X
      exact X
    · have q : ¬ nI (v_vn A i 0) - nI (v_sd A h) + nI 8 - (nI (v_vn A i 0) - nI (v_sd A h) + nI 8) / 8 * 8 ≤ nI 4 := q
      rw [er, n_le (by omega) (by omega)] at q
      have X := E1 (8 - f) (by rw [if_pos (by omega)])
      rw [← pk_sub (by omega), ← er] at X
      exact X
  refine J.run csX4_agrees 3 [] ?_
  refine J.callR [] (c_X4_vaneAt hi (show 0 < 4 by decide)) kX4_vaneAt mRX4_43 dX4_agrees_3 (by decide) rfl rfl (Nat.le_of_ble_eq_true rfl) (i0 := 0) rfl (ci := 4) rfl rfl ?_
  rw [zv 0 (by decide)]
  refine J.run csX4_agrees 20 [(14, 3)] ?_
  refine ⟨?_, ?_⟩
  · show vp_in (nI 2 * nI h) 150
    rw [e2h]
    exact vp_n (by omega) (by decide)
  · rw [← ei] at F
    exact F
