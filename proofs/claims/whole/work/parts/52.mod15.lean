/-! The model's winds, vanes, mills, settings. -/
theorem ix_in {a : Int32} {n : Nat} (hn : n + 1 < 2 ^ 31) : (a < nI 0 ∨ nI n < a) ↔ (a < 0 ∨ nI (n + 1) ≤ a) := by
  rcases pk_ix a hn with w | w | ⟨j, hj, rfl⟩
  · exact ⟨fun _ => Or.inl w, fun _ => Or.inl w⟩
  · exact ⟨fun _ => Or.inr w, fun _ => Or.inr (Int32.lt_of_lt_of_le ((n_lt (by omega) (by omega)).mpr (Nat.lt_succ_self n)) w)⟩
  · constructor
    · rintro (w | w)
      · exact absurd ((n_lt (a := j) (b := 0) (by omega) (by decide)).mp w) (Nat.not_lt_zero j)
      · exact absurd ((n_lt (a := n) (b := j) (by omega) (by omega)).mp w) (by omega)
    · rintro (w | w)
      · exact absurd ((n_lt (a := j) (b := 0) (by omega) (by decide)).mp w) (Nat.not_lt_zero j)
      · exact absurd ((n_le (a := n + 1) (b := j) (by omega) (by omega)).mp w) (by omega)
theorem J.inI {M : j_M} {Φ : j_F} {bc bs pc idx : Nat} {lv : j_L} {rest : List Value} {h : j_H} {v a9 b9 : Int32} (n : Nat) (hk : j_kS MX4_in 3) (hl : Cond.methodLink (jm_o M) idx (jm_y MX4_in) ∈ j_ws) (hd : decode (jm_b M) pc = .ok (.invokestatic idx, 3)) (hR : jm_f MX4_in + 1 ≤ jm_f M ∧ 8 + (jm_n MX4_in + 11) + jm_l MX4_in ≤ jm_l M) (hcat : (rest.map fun v => v.category).sum ≤ 8)
    (hn : a9 = nI 0 ∧ b9 = nI n ∧ n + 1 < 2 ^ 31) (k0 : (v < 0 ∨ nI (n + 1) ≤ v) → J M Φ bc bs (pc + 3) lv (.int 0 :: rest) h) (k1 : ∀ i, i < n + 1 → v = nI i → ¬ (v < 0 ∨ nI (n + 1) ≤ v) → J M Φ bc bs (pc + 3) lv (.int 1 :: rest) h) : J M Φ bc bs pc lv (.int b9 :: .int a9 :: .int v :: rest) h := by
  obtain ⟨rfl, rfl, hN⟩ := hn
  refine J.inq hk hl hd hR hcat (fun q => k0 ((ix_in hN).mp q)) (fun q => ?_)
  have q' : ¬ (v < 0 ∨ nI (n + 1) ≤ v) := fun w => q ((ix_in hN).mpr w)
  rcases pk_ix v hN with w | w | ⟨j, hj, w⟩
  · exact absurd (Or.inl w) q'
  · exact absurd (Or.inr w) q'
  · exact k1 j hj w q'
theorem J.inR {M : j_M} {Φ : j_F} {bc bs pc idx : Nat} {lv : j_L} {rest : List Value} {h : j_H} {v a9 b9 : Int32} (a b : Nat) (hk : j_kS MX4_in 3) (hl : Cond.methodLink (jm_o M) idx (jm_y MX4_in) ∈ j_ws) (hd : decode (jm_b M) pc = .ok (.invokestatic idx, 3)) (hR : jm_f MX4_in + 1 ≤ jm_f M ∧ 8 + (jm_n MX4_in + 11) + jm_l MX4_in ≤ jm_l M) (hcat : (rest.map fun v => v.category).sum ≤ 8)
    (hn : a9 = nI a ∧ b9 = nI b ∧ a ≤ b ∧ b + 1 < 2 ^ 31) (k0 : (v < nI a ∨ nI b < v) → J M Φ bc bs (pc + 3) lv (.int 0 :: rest) h) (k1 : ∀ i, a ≤ i → i ≤ b → v = nI i → ¬ (v < nI a ∨ nI b < v) → J M Φ bc bs (pc + 3) lv (.int 1 :: rest) h) : J M Φ bc bs pc lv (.int b9 :: .int a9 :: .int v :: rest) h := by
  obtain ⟨rfl, rfl, hN⟩ := hn
  refine J.inq hk hl hd hR hcat k0 (fun q => ?_)
  obtain ⟨j, h1, h2, h3⟩ := rng hN q
  exact k1 j h1 h2 h3 q
theorem mRl_w {S : aS} {A : aV} {t : mT} {z z' : Nat → Int32} {r : mR} (h : mRl S t z r) (hz : mG A z') : mRl (sW S A) t z' r := ⟨hz, h.2⟩
theorem vOk_8 {A : aV} (h : vOk A) : ∀ j, j < 3 → (v_lo A j).length ≤ 8 := fun j hj => (h.2.2.2.2.2 j hj).2.1
theorem c_X4_change {S : aS} {t : mT} {z : Nat → Int32} {r : mR} (h : mRl S t z r) {p : Nat} (hp : p < 150) (x : Int32) : Ct MX4_change 0 0 [.ref 0, .int (nI p), .int x] (mw t z r) (fun o h' => o = .inl (some (.int (z p))) ∧ ∃ sv sd, mRl (sS S) (t.1, sv, t.2.2) z (r.1, sd, r.2.2) ∧ h' = mw (t.1, sv, t.2.2) (upd z p x) (r.1, sd, r.2.2)) := by
  refine Ct.of rfl rfl (by decide +kernel) rfl (Nat.le_of_ble_eq_true rfl) ?_
  generalize hΦ : (fun (o : j_O) (h' : j_H) => o = .inl (some (.int (z p))) ∧ ∃ sv sd, mRl (sS S) (t.1, sv, t.2.2) z (r.1, sd, r.2.2) ∧ h' = mw (t.1, sv, t.2.2) (upd z p x) (r.1, sd, r.2.2)) = Φ
  refine J.run csX4_change 5 [] ?_
  refine J.rec [] h kX4_record mRX4_40 dX4_change_1 (by decide) rfl (Nat.le_of_ble_eq_true rfl) (fun sv sd hr => ?_)
  refine J.run csX4_change 20 [] ?_
  refine ⟨vp_n hp (by decide), vp_n hp (by decide), ?_⟩
  rw [← hΦ]
  refine ⟨?_, sv, sd, hr, ?_⟩
  · show Sum.inl (some (Value.int (z (nI p).toNatClampNeg))) = _
    rw [cl_n (by omega)]
  · show mw (t.1, sv, t.2.2) (upd z (nI p).toNatClampNeg x) (r.1, sd, r.2.2) = _
    rw [cl_n (by omega)]
/-- a number of the row is changed, and that is all -/
theorem J.chg {M : j_M} {Φ : j_F} {bc bs pc idx : Nat} {lv : j_L} {st : List Value} (rest : List Value) {S : aS} {t : mT} {z : Nat → Int32} {r : mR} {p9 x : Int32} (h : mRl S t z r) {p : Nat} (hp : p < 150) (hk : j_kV MX4_change 2) (hl : Cond.methodLink (jm_o M) idx (jm_y MX4_change) ∈ j_ws) (hd : decode (jm_b M) pc = .ok (.invokevirtual idx, 3)) (hR : jm_f MX4_change + 1 ≤ jm_f M ∧ 8 + (jm_n MX4_change + 11) + jm_l MX4_change ≤ jm_l M ∧ jm_a MX4_change = false)
    (e : p9 = nI p) (hst : st = .int x :: .int p9 :: .ref 0 :: rest) (hcat : (rest.map fun v => v.category).sum ≤ 8) (k : ∀ sv sd, mRl (sS S) (t.1, sv, t.2.2) z (r.1, sd, r.2.2) → J M Φ bc bs (pc + 3) lv (.int (z p) :: rest) (mw (t.1, sv, t.2.2) (upd z p x) (r.1, sd, r.2.2))) : J M Φ bc bs pc lv st (mw t z r) := by
  subst e hst
  refine J.callVI bc bs rest (as := [.int (nI p), .int x]) (c_X4_change h hp x) hk hl hd hR.1 hR.2.1 hR.2.2 rfl rfl hcat (i0 := 0) rfl (ci := 4) rfl rfl (Nat.le_refl _) (Nat.le_refl _) ?_ ?_
  · rintro v h' ⟨hv, sv, sd, hr, rfl⟩
    cases hv
    exact ⟨rfl, k sv sd hr⟩
  · rintro E h' ⟨hv, -⟩
    cases hv
theorem c_X4_wind {S : aS} {t : mT} {z : Nat → Int32} {r : mR} (h : mRl S t z r) (a b c : Int32) : Ct MX4_wind 0 0 [.ref 0, .int a, .int b, .int c] (mw t z r) (mQ (rWind S a b c)) := by
  refine Ct.of rfl rfl (by decide +kernel) rfl (Nat.le_of_ble_eq_true rfl) ?_
  have X1 : rWind S a b c = (1, S, 0) → J MX4_wind (mQ (rWind S a b c)) 0 0 40 [(0, .ref 0), (1, .int a), (2, .int b), (3, .int c)] [.int (nI 1), .ref 0] (mw t z r) := fun er => by
    refine J.run csX4_wind 20 [] ?_
    exact ⟨fun q => absurd (show nI 1 ≤ 0 from q) (by decide), fun _ => mQ_e (t := (nI 1, t.2)) (mRl_t h _) er rfl⟩
  have X2 : rWind S a b c = (2, S, 0) → J MX4_wind (mQ (rWind S a b c)) 0 0 40 [(0, .ref 0), (1, .int a), (2, .int b), (3, .int c)] [.int (nI 2), .ref 0] (mw t z r) := fun er => by
    refine J.run csX4_wind 20 [] ?_
    exact ⟨fun q => absurd (show nI 2 ≤ 0 from q) (by decide), fun _ => mQ_e (t := (nI 2, t.2)) (mRl_t h _) er rfl⟩
  refine J.run csX4_wind 5 [] ?_
  refine J.inI 23 kX4_in mRX4_36 dX4_wind_5 (by decide) (Nat.le_of_ble_eq_true rfl) ⟨rfl, rfl, by decide⟩ (fun q => ?_) (fun i hi ea q1 => ?_)
  · refine J.run csX4_wind 10 [(40, 4)] ?_
    exact ⟨fun w => absurd rfl w, fun _ => X1 (if_pos q)⟩
  refine J.run csX4_wind 10 [(40, 4)] ?_
  refine ⟨fun _ => ?_, fun w => absurd (show (1 : Int32) = 0 from w) (by decide)⟩
  refine J.inR 0 7 kX4_in mRX4_36 dX4_wind_19 (by decide) (Nat.le_of_ble_eq_true rfl) ⟨rfl, rfl, by decide⟩ (fun q => ?_) (fun j _ hj eb q2 => ?_)
  · refine J.run csX4_wind 10 [(40, 4)] ?_
    exact ⟨fun _ => X2 ((if_neg q1).trans (if_pos (Or.inl q))), fun w => absurd rfl w⟩
  refine J.run csX4_wind 10 [(40, 4)] ?_
  refine ⟨fun w => absurd (show (1 : Int32) = 0 from w) (by decide), fun _ => ?_⟩
  refine J.inR 0 9 kX4_in mRX4_36 dX4_wind_29 (by decide) (Nat.le_of_ble_eq_true rfl) ⟨rfl, rfl, by decide⟩ (fun q => ?_) (fun k _ hk ec q3 => ?_)
  · refine J.run csX4_wind 10 [(40, 4)] ?_
    exact ⟨fun _ => X2 ((if_neg q1).trans (if_pos (Or.inr q))), fun w => absurd rfl w⟩
  have er : rWind S a b c = (0, sW (sS S) (swd S.1 i j k), nI (10 * v_sd S.1 i + v_sg S.1 i)) := by
    unfold rWind
    rw [if_neg q1, if_neg (by rintro (w | w); exact q2 w; exact q3 w), ea, eb, ec, cN_n (by omega), cN_n (by omega), cN_n (by omega)]
  have hA := h.1.1
  obtain ⟨z1, z2⟩ := h.1.2.2.1 i hi
  have e1 : nI 2 * nI i = nI (2 * i) := n_mul _ _
  subst ea eb ec
  have v1 : vp_in (nI 2 * nI i) 150 := by
    rw [e1]
    exact vp_n (by omega) (by decide)
  have v2 : vp_in (nI 2 * nI i + nI 1) 150 := by
    rw [e1, nI_add]
    exact vp_n (by omega) (by decide)
  refine J.run csX4_wind 20 [] ?_
  refine ⟨fun w => absurd (show (1 : Int32) = 0 from w) (by decide), fun _ => ⟨fun _ => ?_, fun w => absurd (show nI 0 ≤ 0 by decide) w⟩⟩
  refine J.rec [] (t := (nI 0, t.2)) (mRl_t h _) kX4_record mRX4_40 dX4_wind_53 (by decide) rfl (Nat.le_of_ble_eq_true rfl) (fun sv sd hr => ?_)
  refine J.run csX4_wind 60 [] ?_
  refine ⟨v1, v2, v1, v2, ?_⟩
  refine mQ_0 er (mRl_w hr ⟨swd_ok hA (by omega) (by omega), h.1.2.1, z_swd hi (vOk_8 hA) rfl h.1.2.2⟩) rfl ?_ ?_
  · show nI 10 * z (nI 2 * nI i).toNatClampNeg + z (nI 2 * nI i + nI 1).toNatClampNeg = _
    rw [e1, nI_add, cl_n (by omega), cl_n (by omega), z1, z2, n_mul, nI_add]
  · show mw (nI 0, sv, t.2.2) (upd (upd z (nI 2 * nI i).toNatClampNeg (nI j)) (nI 2 * nI i + nI 1).toNatClampNeg (nI k)) (r.1, sd, r.2.2) = _
    rw [e1, nI_add, cl_n (by omega), cl_n (by omega)]
theorem c_X4_most {w : Nat} (hw : w < 4) : Ct MX4_most 0 0 [.int (nI w)] [] (jd (.inl (some (.int (nI (vmx w))))) []) := by
  refine Ct.of rfl rfl (by decide +kernel) rfl (Nat.le_of_ble_eq_true rfl) ?_
  have hc : w = 0 ∨ w = 1 ∨ w = 2 ∨ w = 3 := by omega
  refine J.run csX4_most 20 [] ?_
  refine ⟨fun q => ⟨fun q1 => ⟨fun q2 => ?_, fun q2 => ?_⟩, fun q1 => ?_⟩, fun q => ?_⟩
  · have q : ¬ nI w = 0 := q
    have q1 : ¬ nI w = nI 1 := q1
    have q2 : ¬ nI w = nI 2 := q2
    rw [n_eq0 (by omega)] at q
    rw [n_eq (by omega) (by decide)] at q1 q2
    obtain rfl : w = 3 := by omega
    exact jd_i rfl rfl
  · have q2 : nI w = nI 2 := q2
    rw [n_eq (by omega) (by decide)] at q2
    obtain rfl : w = 2 := by omega
    exact jd_i rfl rfl
  · have q1 : nI w = nI 1 := q1
    rw [n_eq (by omega) (by decide)] at q1
    obtain rfl : w = 1 := by omega
    exact jd_i rfl rfl
  · have q : nI w = 0 := q
    rw [n_eq0 (by omega)] at q
    obtain rfl : w = 0 := by omega
    exact jd_i rfl rfl
theorem c_X4_vane {S : aS} {t : mT} {z : Nat → Int32} {r : mR} (h : mRl S t z r) (a b c : Int32) : Ct MX4_vane 0 0 [.ref 0, .int a, .int b, .int c] (mw t z r) (mQ (rVane S a b c)) := by
  refine Ct.of rfl rfl (by decide +kernel) rfl (Nat.le_of_ble_eq_true rfl) ?_
  have X1 : rVane S a b c = (1, S, 0) → J MX4_vane (mQ (rVane S a b c)) 0 0 40 [(0, .ref 0), (1, .int a), (2, .int b), (3, .int c)] [.int (nI 1), .ref 0] (mw t z r) := fun er => by
    refine J.run csX4_vane 20 [] ?_
    exact ⟨fun q => absurd (show nI 1 ≤ 0 from q) (by decide), fun _ => mQ_e (t := (nI 1, t.2)) (mRl_t h _) er rfl⟩
  have X2 : rVane S a b c = (2, S, 0) → J MX4_vane (mQ (rVane S a b c)) 0 0 40 [(0, .ref 0), (1, .int a), (2, .int b), (3, .int c)] [.int (nI 2), .ref 0] (mw t z r) := fun er => by
    refine J.run csX4_vane 20 [] ?_
    exact ⟨fun q => absurd (show nI 2 ≤ 0 from q) (by decide), fun _ => mQ_e (t := (nI 2, t.2)) (mRl_t h _) er rfl⟩
  refine J.run csX4_vane 5 [] ?_
  refine J.inI 5 kX4_in mRX4_36 dX4_vane_4 (by decide) (Nat.le_of_ble_eq_true rfl) ⟨rfl, rfl, by decide⟩ (fun q => ?_) (fun i hi ea q1 => ?_)
  · refine J.run csX4_vane 10 [(40, 4)] ?_
    exact ⟨fun w => absurd rfl w, fun _ => X1 (if_pos q)⟩
  refine J.run csX4_vane 10 [(40, 4)] ?_
  refine ⟨fun _ => ?_, fun w => absurd (show (1 : Int32) = 0 from w) (by decide)⟩
  refine J.inR 0 3 kX4_in mRX4_36 dX4_vane_17 (by decide) (Nat.le_of_ble_eq_true rfl) ⟨rfl, rfl, by decide⟩ (fun q => ?_) (fun j _ hj eb q2 => ?_)
  · refine J.run csX4_vane 10 [(40, 4)] ?_
    exact ⟨fun _ => X2 ((if_neg q1).trans (if_pos q)), fun w => absurd rfl w⟩
  subst eb
  have hm := vmx_le j
  have hb : cN (nI j) = j := cN_n (by omega)
  refine J.run csX4_vane 10 [(40, 4)] ?_
  refine ⟨fun w => absurd (show (1 : Int32) = 0 from w) (by decide), fun _ => ?_⟩
  refine J.callS 0 0 [.int (nI 0), .int c, .ref 0] [] (as := [.int (nI j)]) (c_X4_most (w := j) (by omega)) kX4_most mRX4_85 dX4_vane_26 (by decide) (by decide) rfl rfl rfl (Nat.le_of_ble_eq_true rfl) rfl rfl (Nat.le_refl _) (Nat.le_refl _) ?_ ?_
  rotate_left
  · rintro E h' ⟨hv, -⟩
    cases hv
  rintro u h' ⟨hv, rfl⟩
  cases hv
  refine ⟨rfl, ?_⟩
  refine J.run csX4_vane 5 [(40, 4)] ?_
  refine J.inR 0 (vmx j) kX4_in mRX4_36 dX4_vane_29 (by decide) (Nat.le_of_ble_eq_true rfl) ⟨rfl, rfl, by omega⟩ (fun q => ?_) (fun k _ hk ec q3 => ?_)
  · refine J.run csX4_vane 10 [(40, 4)] ?_
    exact ⟨fun _ => X2 ((if_neg q1).trans ((if_neg q2).trans (if_pos (by rw [hb]; exact q)))), fun w => absurd rfl w⟩
  have er : rVane S a (nI j) c = (0, sW (sS S) (svn S.1 i j k), nI (v_vn S.1 i j)) := by
    unfold rVane
    rw [if_neg q1, if_neg q2, hb, if_neg q3, ea, ec, cN_n (by omega), cN_n (by omega)]
  have hA := h.1.1
  have z1 := h.1.2.2.2.1 i hi j (by omega)
  have e1 : nI 48 + nI 4 * nI i + nI j = nI (48 + 4 * i + j) := by rw [n_mul, nI_add, nI_add]
  subst ea ec
  refine J.run csX4_vane 20 [] ?_
  refine ⟨fun w => absurd (show (1 : Int32) = 0 from w) (by decide), fun _ => ⟨fun _ => ?_, fun w => absurd (show nI 0 ≤ 0 by decide) w⟩⟩
  refine J.chg [] (t := (nI 0, t.2)) (mRl_t h _) (p := 48 + 4 * i + j) (by omega) kX4_change mRX4_88 dX4_vane_64 (by decide) e1 rfl (Nat.le_of_ble_eq_true rfl) (fun sv sd hr => ?_)
  refine J.run csX4_vane 5 [] ?_
  exact mQ_0 er (mRl_w hr ⟨svn_ok hA (by omega) hk, h.1.2.1, z_svn hi (by omega) (vOk_8 hA) rfl h.1.2.2⟩) rfl z1 rfl
theorem c_X4_mill {S : aS} {t : mT} {z : Nat → Int32} {r : mR} (h : mRl S t z r) (a b : Int32) : Ct MX4_mill 0 0 [.ref 0, .int a, .int b] (mw t z r) (mQ (rMill S a b)) := by
  refine Ct.of rfl rfl (by decide +kernel) rfl (Nat.le_of_ble_eq_true rfl) ?_
  have X1 : rMill S a b = (1, S, 0) → J MX4_mill (mQ (rMill S a b)) 0 0 29 [(0, .ref 0), (1, .int a), (2, .int b)] [.int (nI 1), .ref 0] (mw t z r) := fun er => by
    refine J.run csX4_mill 20 [] ?_
    exact ⟨fun q => absurd (show nI 1 ≤ 0 from q) (by decide), fun _ => mQ_e (t := (nI 1, t.2)) (mRl_t h _) er rfl⟩
  have X2 : rMill S a b = (2, S, 0) → J MX4_mill (mQ (rMill S a b)) 0 0 29 [(0, .ref 0), (1, .int a), (2, .int b)] [.int (nI 2), .ref 0] (mw t z r) := fun er => by
    refine J.run csX4_mill 20 [] ?_
    exact ⟨fun q => absurd (show nI 2 ≤ 0 from q) (by decide), fun _ => mQ_e (t := (nI 2, t.2)) (mRl_t h _) er rfl⟩
  refine J.run csX4_mill 5 [] ?_
  refine J.inI 2 kX4_in mRX4_36 dX4_mill_4 (by decide) (Nat.le_of_ble_eq_true rfl) ⟨rfl, rfl, by decide⟩ (fun q => ?_) (fun i hi ea q1 => ?_)
  · refine J.run csX4_mill 10 [(29, 3)] ?_
    exact ⟨fun w => absurd rfl w, fun _ => X1 (if_pos q)⟩
  refine J.run csX4_mill 10 [(29, 3)] ?_
  refine ⟨fun _ => ?_, fun w => absurd (show (1 : Int32) = 0 from w) (by decide)⟩
  refine J.inR 0 9 kX4_in mRX4_36 dX4_mill_18 (by decide) (Nat.le_of_ble_eq_true rfl) ⟨rfl, rfl, by decide⟩ (fun q => ?_) (fun j _ hj eb q2 => ?_)
  · refine J.run csX4_mill 10 [(29, 3)] ?_
    exact ⟨fun _ => X2 ((if_neg q1).trans (if_pos q)), fun w => absurd rfl w⟩
  have er : rMill S a b = (0, sW (sS S) (ssp S.1 i j), nI (m_sp (v_ml S.1 i))) := by
    unfold rMill
    rw [if_neg q1, if_neg q2, ea, eb, cN_n (by omega), cN_n (by omega)]
  have hA := h.1.1
  have z1 := (h.1.2.2.2.2.2.1 i hi).1
  have e1 : nI 74 + nI 19 * nI i + nI 0 = nI (74 + 19 * i) := by rw [n_mul, nI_add, nI_add, Nat.add_zero]
  subst ea eb
  refine J.run csX4_mill 20 [] ?_
  refine ⟨fun w => absurd (show (1 : Int32) = 0 from w) (by decide), fun _ => ⟨fun _ => ?_, fun w => absurd (show nI 0 ≤ 0 by decide) w⟩⟩
  refine J.chg [] (t := (nI 0, t.2)) (mRl_t h _) (p := 74 + 19 * i) (by omega) kX4_change mRX4_88 dX4_mill_54 (by decide) e1 rfl (Nat.le_of_ble_eq_true rfl) (fun sv sd hr => ?_)
  refine J.run csX4_mill 5 [] ?_
  exact mQ_0 er (mRl_w hr ⟨ssp_ok hA hj, h.1.2.1, z_ssp hi (vOk_8 hA) rfl h.1.2.2⟩) rfl z1 rfl
theorem c_X4_set {S : aS} {t : mT} {z : Nat → Int32} {r : mR} (h : mRl S t z r) (a b : Int32) : Ct MX4_set 0 0 [.ref 0, .int a, .int b] (mw t z r) (mQ (rSet S a b)) := by
  refine Ct.of rfl rfl (by decide +kernel) rfl (Nat.le_of_ble_eq_true rfl) ?_
  have X1 : rSet S a b = (1, S, 0) → J MX4_set (mQ (rSet S a b)) 0 0 39 [(0, .ref 0), (1, .int a), (2, .int b)] [.int (nI 1), .ref 0] (mw t z r) := fun er => by
    refine J.run csX4_set 20 [] ?_
    exact ⟨fun q => absurd (show nI 1 ≤ 0 from q) (by decide), fun _ => mQ_e (t := (nI 1, t.2)) (mRl_t h _) er rfl⟩
  have X2 : rSet S a b = (2, S, 0) → J MX4_set (mQ (rSet S a b)) 0 0 39 [(0, .ref 0), (1, .int a), (2, .int b)] [.int (nI 2), .ref 0] (mw t z r) := fun er => by
    refine J.run csX4_set 20 [] ?_
    exact ⟨fun q => absurd (show nI 2 ≤ 0 from q) (by decide), fun _ => mQ_e (t := (nI 2, t.2)) (mRl_t h _) er rfl⟩
  have hA := h.1.1
  -- behind the checks
  have Y : ∀ i j : Nat, i < 2 → a = nI i → b = nI j → 1 - i ≤ j → j ≤ (if i = 0 then 6 else 1) → rSet S a b = (0, sW (sS S) (sst S.1 i j), nI (v_se S.1 i)) → J MX4_set (mQ (rSet S a b)) 0 0 39 [(0, .ref 0), (1, .int a), (2, .int b)] [.int (nI 0), .ref 0] (mw t z r) := fun i j hi ea eb h1 h2 er => by
    have z1 := h.1.2.2.2.2.1 i hi
    have e1 : nI 72 + nI i = nI (72 + i) := nI_add _ _
    subst ea eb
    refine J.run csX4_set 20 [] ?_
    refine ⟨fun _ => ?_, fun w => absurd (show nI 0 ≤ 0 by decide) w⟩
    refine J.chg [] (t := (nI 0, t.2)) (mRl_t h _) (p := 72 + i) (by omega) kX4_change mRX4_88 dX4_set_59 (by decide) e1 rfl (Nat.le_of_ble_eq_true rfl) (fun sv sd hr => ?_)
    refine J.run csX4_set 5 [] ?_
    exact mQ_0 er (mRl_w hr ⟨sst_ok hA hi h1 h2, h.1.2.1, z_sst hi (vOk_8 hA) rfl h.1.2.2⟩) rfl z1 rfl
  refine J.run csX4_set 5 [] ?_
  refine J.inI 1 kX4_in mRX4_36 dX4_set_4 (by decide) (Nat.le_of_ble_eq_true rfl) ⟨rfl, rfl, by decide⟩ (fun q => ?_) (fun i hi ea q1 => ?_)
  · refine J.run csX4_set 10 [(39, 3)] ?_
    exact ⟨fun w => absurd rfl w, fun _ => X1 (if_pos q)⟩
  have hc : i = 0 ∨ i = 1 := by omega
  have hb : cN a = i := by rw [ea, cN_n (by omega)]
  rcases hc with rfl | rfl
  · subst ea
    refine J.run csX4_set 20 [(39, 3)] ?_
    refine ⟨fun _ => ⟨fun w => absurd (show nI 0 = 0 from rfl) w, fun _ => ?_⟩, fun w => absurd (show (1 : Int32) = 0 from w) (by decide)⟩
    refine J.inR (a9 := nI 1 - nI 0) (b9 := nI 6) 1 6 kX4_in mRX4_36 dX4_set_28 (by decide) (Nat.le_of_ble_eq_true rfl) ⟨by decide, rfl, by decide⟩ (fun q => ?_) (fun j hj1 hj eb q2 => ?_)
    · refine J.run csX4_set 10 [(39, 3)] ?_
      exact ⟨fun _ => X2 ((if_neg q1).trans (if_pos (by rw [hb]; exact q))), fun w => absurd rfl w⟩
    · refine J.run csX4_set 10 [(39, 3)] ?_
      refine ⟨fun w => absurd (show (1 : Int32) = 0 from w) (by decide), fun _ => ?_⟩
      refine Y 0 j (by decide) rfl eb hj1 hj ?_
      unfold rSet
      rw [if_neg q1, hb]
      exact (if_neg q2).trans (by rw [eb, cN_n (by omega)])
  · subst ea
    refine J.run csX4_set 20 [(39, 3)] ?_
    refine ⟨fun _ => ⟨fun _ => ?_, fun w => absurd (show nI 1 = 0 from w) (by decide)⟩, fun w => absurd (show (1 : Int32) = 0 from w) (by decide)⟩
    refine J.inR (a9 := nI 1 - nI 1) (b9 := nI 1) 0 1 kX4_in mRX4_36 dX4_set_28 (by decide) (Nat.le_of_ble_eq_true rfl) ⟨by decide, rfl, by decide⟩ (fun q => ?_) (fun j hj1 hj eb q2 => ?_)
    · refine J.run csX4_set 10 [(39, 3)] ?_
      exact ⟨fun _ => X2 ((if_neg q1).trans (if_pos (by rw [hb]; exact q))), fun w => absurd rfl w⟩
    · refine J.run csX4_set 10 [(39, 3)] ?_
      refine ⟨fun w => absurd (show (1 : Int32) = 0 from w) (by decide), fun _ => ?_⟩
      refine Y 1 j (by decide) rfl eb (Nat.zero_le _) hj ?_
      unfold rSet
      rw [if_neg q1, hb]
      exact (if_neg q2).trans (by rw [eb, cN_n (by omega)])
