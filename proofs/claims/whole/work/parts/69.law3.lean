/-! The law: the other cases, its loop. -/
theorem mQD_q {S : aS} {v : Value} (hv : ∀ ad : Nat → Nat, j_v ad v = v) : ∀ o h', mQD S v o h' → ∃ v t' z' r', o = .inl (some v) ∧ h' = mw t' z' r' ∧ ∀ ad : Nat → Nat, j_v ad v = v := by
  rintro o h' ⟨ho, t, z, r, -, hh⟩
  exact ⟨_, t, z, r, ho, hh, hv⟩
theorem lw_c700 {L : Nat} {xs : Nat → Int32} {Φ : j_F} {bc bs i : Nat} (hE : lwI L xs Φ bc bs 1527 i) : lwI L xs Φ bc bs 700 i := by
  intro S K t z r f hK hm
  refine J.run (csL_law_700 L xs) 5 [] ?_
  refine J.callVI bc bs [] (as := []) (c_X3_clearBuffer (y := mB t z r ++ [outc f]) hK) kX3_clearBuffer mRL_115 dL_law_701 (Nat.le_of_ble_eq_true rfl) (Nat.le_of_ble_eq_true rfl) rfl rfl rfl (Nat.le_of_ble_eq_true rfl) (i0 := 0) rfl (ci := 3) rfl rfl (Nat.le_refl _) (Nat.le_refl _) ?_ ?_
  rotate_left
  · rintro E h' ⟨hv, -⟩
    have hv : Sum.inr E = Sum.inl (some (Value.int (nI (s_t S).length))) := hv
    cases hv
  rintro v h' ⟨hv, K', hK', rfl⟩
  have hv : Sum.inl v = Sum.inl (some (Value.int (nI (s_t S).length))) := hv
  cases hv
  refine ⟨(clw_len _ _).trans ((clw_len K (mB t z r ++ [outc f])).symm), ?_⟩
  refine J.run (csL_law_700 L xs) 5 [] ?_
  refine J.callMd (K := K') (f := f) [.int (nI (s_t S).length)] (as := []) (c_X4_clearBuffer hm) kX4_clearBuffer mRL_118 dL_law_705 ⟨Nat.le_of_ble_eq_true rfl, Nat.le_of_ble_eq_true rfl, rfl⟩ rfl (fun _ => rfl) rfl (Nat.le_of_ble_eq_true rfl) rfl mQ_q ?_
  rintro v t' z' r' ⟨hv, t1, z1, r1, ht, hm', hh⟩
  cases hv
  rw [lawW_e hh]
  refine J.run (csL_law_700 L xs) 5 [(1527, 5)] ?_
  exact ⟨fun _ => hE _ _ _ _ _ _ hK' hm', fun q => absurd rfl q⟩
theorem lw_c713 {L : Nat} {xs : Nat → Int32} {Φ : j_F} {bc bs i : Nat} (hE : lwI L xs Φ bc bs 1527 i) : lwI L xs Φ bc bs 713 i := by
  intro S K t z r f hK hm
  refine J.run (csL_law_713 L xs) 5 [] ?_
  refine J.callVI bc bs [] (as := []) (c_X3_firstError (y := mB t z r ++ [outc f]) hK) kX3_firstError mRL_119 dL_law_714 (Nat.le_of_ble_eq_true rfl) (Nat.le_of_ble_eq_true rfl) rfl rfl rfl (Nat.le_of_ble_eq_true rfl) (i0 := 0) rfl (ci := 3) rfl rfl (Nat.le_refl _) (Nat.le_refl _) ?_ ?_
  rotate_left
  · rintro E h' ⟨hv, -⟩
    have hv : Sum.inr E = Sum.inl (some (Value.int (nI (fwL 0 (s_t S))))) := hv
    cases hv
  rintro v h' ⟨hv, K', hK', rfl⟩
  have hv : Sum.inl v = Sum.inl (some (Value.int (nI (fwL 0 (s_t S))))) := hv
  cases hv
  refine ⟨(clw_len _ _).trans ((clw_len K (mB t z r ++ [outc f])).symm), ?_⟩
  refine J.run (csL_law_713 L xs) 5 [] ?_
  refine J.callMd (K := K') (f := f) [.int (nI (fwL 0 (s_t S)))] (as := []) (c_X4_firstError hm) kX4_firstError mRL_122 dL_law_718 ⟨Nat.le_of_ble_eq_true rfl, Nat.le_of_ble_eq_true rfl, rfl⟩ rfl (fun _ => rfl) rfl (Nat.le_of_ble_eq_true rfl) rfl mQ_q ?_
  rintro v t' z' r' ⟨hv, t1, z1, r1, ht, hm', hh⟩
  cases hv
  rw [lawW_e hh]
  refine J.run (csL_law_713 L xs) 5 [(1527, 5)] ?_
  exact ⟨fun _ => hE _ _ _ _ _ _ hK' hm', fun q => absurd rfl q⟩
theorem lw_c1446 {L : Nat} {xs : Nat → Int32} {Φ : j_F} {bc bs i : Nat} (hE : lwI L xs Φ bc bs 1527 i) : lwI L xs Φ bc bs 1446 i := by
  intro S K t z r f hK hm
  refine J.run (csL_law_1446 L xs) 5 [] ?_
  refine J.look [] (as := []) (c_X3_turnsIn0 (y := mB t z r ++ [outc f]) hK) kX3_turnsIn mRL_160 dL_law_1447 ⟨Nat.le_of_ble_eq_true rfl, Nat.le_of_ble_eq_true rfl, rfl⟩ rfl rfl (Nat.le_of_ble_eq_true rfl) rfl (fun K' hK' => ?_)
  refine J.run (csL_law_1446 L xs) 5 [] ?_
  refine J.callMd (K := K') (f := f) [.int (trF S.1 24 0)] (as := []) (c_X4_turnsIn hm) kX4_turnsIn mRL_163 dL_law_1451 ⟨Nat.le_of_ble_eq_true rfl, Nat.le_of_ble_eq_true rfl, rfl⟩ rfl (fun _ => rfl) rfl (Nat.le_of_ble_eq_true rfl) rfl mQ_q ?_
  rintro v t' z' r' ⟨hv, t1, z1, r1, ht, hm', hh⟩
  cases hv
  rw [lawW_e hh]
  refine J.run (csL_law_1446 L xs) 5 [(1527, 5)] ?_
  exact ⟨fun _ => hE _ _ _ _ _ _ hK' hm', fun q => absurd rfl q⟩
theorem lw_c1459 {L : Nat} {xs : Nat → Int32} {Φ : j_F} {bc bs i : Nat} (hE : lwI L xs Φ bc bs 1527 i) : lwI L xs Φ bc bs 1459 i := by
  intro S K t z r f hK hm
  refine J.run (csL_law_1459 L xs) 5 [] ?_
  refine J.look [] (as := []) (c_X3_mainVane0 (y := mB t z r ++ [outc f]) hK) kX3_mainVane mRL_164 dL_law_1460 ⟨Nat.le_of_ble_eq_true rfl, Nat.le_of_ble_eq_true rfl, rfl⟩ rfl rfl (Nat.le_of_ble_eq_true rfl) rfl (fun K' hK' => ?_)
  refine J.run (csL_law_1459 L xs) 5 [] ?_
  refine J.callMd (K := K') (f := f) [.int (nI (mvF S.1 5))] (as := []) (c_X4_mainVane hm) kX4_mainVane mRL_167 dL_law_1464 ⟨Nat.le_of_ble_eq_true rfl, Nat.le_of_ble_eq_true rfl, rfl⟩ rfl (fun _ => rfl) rfl (Nat.le_of_ble_eq_true rfl) rfl mQ_q ?_
  rintro v t' z' r' ⟨hv, t1, z1, r1, ht, hm', hh⟩
  cases hv
  rw [lawW_e hh]
  refine J.run (csL_law_1459 L xs) 5 [(1527, 5)] ?_
  exact ⟨fun _ => hE _ _ _ _ _ _ hK' hm', fun q => absurd rfl q⟩
theorem lw_c1472 {L : Nat} {xs : Nat → Int32} {Φ : j_F} {bc bs i : Nat} (hE : lwI L xs Φ bc bs 1527 i) : lwI L xs Φ bc bs 1472 i := by
  intro S K t z r f hK hm
  have hn := shD_nan (agh S.1) (by have := agh_le S.1; omega)
  refine J.run (csL_law_1472 L xs) 1 [] ?_
  refine J.callVI bc bs [] (as := []) (c_X3_turnShare0 (y := mB t z r ++ [outc f]) hK) kX3_turnShare mRL_168 dL_law_1473 (Nat.le_of_ble_eq_true rfl) (Nat.le_of_ble_eq_true rfl) rfl rfl rfl (Nat.le_of_ble_eq_true rfl) (i0 := 0) rfl (ci := 3) rfl rfl (Nat.le_refl _) (Nat.le_refl _) ?_ ?_
  rotate_left
  · rintro E h' ⟨hv, -⟩
    cases hv
  rintro v h' ⟨hv, K', hK', rfl⟩
  cases hv
  refine ⟨(clw_len _ _).trans ((clw_len K (mB t z r ++ [outc f])).symm), ?_⟩
  refine J.run (csL_law_1472 L xs) 2 [] ?_
  refine J.callMd (K := K') (f := f) [] (as := []) (c_X4_turnShare hm) kX4_turnShare mRL_172 dL_law_1479 ⟨Nat.le_of_ble_eq_true rfl, Nat.le_of_ble_eq_true rfl, rfl⟩ rfl (fun _ => rfl) rfl (Nat.le_of_ble_eq_true rfl) rfl (mQD_q (fun _ => rfl)) ?_
  rintro v t' z' r' ⟨hv, t1, z1, r1, hm', hh⟩
  cases hv
  rw [lawW_e hh]
  refine J.run (csL_law_1472 L xs) 6 [(1527, 5)] ?_
  exact ⟨fun _ => hE _ _ _ _ _ _ hK' hm', fun q => absurd hn q⟩
theorem lw_c1513 {L : Nat} {xs : Nat → Int32} {Φ : j_F} {bc bs i : Nat} (hE : lwI L xs Φ bc bs 1527 i) : lwI L xs Φ bc bs 1513 i := by
  intro S K t z r f hK hm
  refine J.run (csL_law_1513 L xs) 1 [] ?_
  refine J.callVI bc bs [] (as := []) (c_X3_digest (y := mB t z r ++ [outc f]) hK) kX3_digest mRL_173 dL_law_1514 (Nat.le_of_ble_eq_true rfl) (Nat.le_of_ble_eq_true rfl) rfl rfl rfl (Nat.le_of_ble_eq_true rfl) (i0 := 0) rfl (ci := 3) rfl rfl (Nat.le_refl _) (Nat.le_refl _) ?_ ?_
  rotate_left
  · rintro E h' ⟨hv, -⟩
    cases hv
  rintro v h' ⟨hv, K', hK', rfl⟩
  cases hv
  refine ⟨(clw_len _ _).trans ((clw_len K (mB t z r ++ [outc f])).symm), ?_⟩
  refine J.run (csL_law_1513 L xs) 1 [] ?_
  refine J.callMd (K := K') (f := f) [.long (digV S)] (as := []) (c_X4_digest hm) kX4_digest mRL_177 dL_law_1518 ⟨Nat.le_of_ble_eq_true rfl, Nat.le_of_ble_eq_true rfl, rfl⟩ rfl (fun _ => rfl) rfl (Nat.le_of_ble_eq_true rfl) rfl (mQD_q (fun _ => rfl)) ?_
  rintro v t' z' r' ⟨hv, t1, z1, r1, hm', hh⟩
  cases hv
  rw [lawW_e hh]
  refine J.run (csL_law_1513 L xs) 5 [(1527, 5)] ?_
  exact ⟨fun _ => hE _ _ _ _ _ _ hK' hm', fun q => absurd (lg_cmp_0 rfl) q⟩
theorem lwI_less {L : Nat} {xs : Nat → Int32} {Φ : j_F} {bc bs pc i : Nat} (h : lwI L xs Φ bc bs pc i) : lwI L xs Φ (bc + 3) (bs + 18) pc i := fun S K t z r f hK hm => J.less (Nat.le_add_right _ _) (Nat.le_add_right _ _) (h S K t z r f hK hm)
theorem lw_end {L : Nat} {xs : Nat → Int32} {Φ : j_F} {bc bs : Nat} {lv : j_L} {h : j_H} (hΦ : ∀ h, Φ (.inl (some (.int 1))) h) : J (ML_law L xs) Φ bc bs 1533 lv [] h := by
  refine J.run (csL_law_1527 L xs) 5 [] ?_
  exact ⟨Or.inr rfl, hΦ _⟩
theorem n_subL {L i : Nat} (hL : L ≤ 2048) (hi : i ≤ 4096) : nI L - nI 4 < nI i ↔ L < i + 4 := by
  rw [Int32.lt_iff_toInt_lt, pk_sub_toInt (by omega) (by omega), nI_toInt (by omega)]
  omega
theorem lw_loop {L : Nat} {xs : Nat → Int32} {Φ : j_F} (hL : L ≤ 2048) (hΦ : ∀ h, Φ (.inl (some (.int 1))) h) : ∀ d i : Nat, L ≤ i + 4 * d + 3 → i + 4 * d ≤ 4096 → lwI L xs Φ (3 * d) (18 * d) 23 i := by
  intro d
  induction d with
  | zero =>
    intro i h1 h2 S K t z r f hK hm
    refine J.run (csL_law_0 L xs) 6 [(1533, 0)] ?_
    exact ⟨rfl, fun _ => lw_end hΦ, fun q => absurd ((n_subL hL (i := i) (by omega)).mpr (by omega)) q⟩
  | succ d ih =>
    intro i h1 h2
    have hE : lwI L xs Φ (3 * d) (18 * d) 1527 i := by
      intro S K t z r f hK hm
      have X := ih (i + 4) (by omega) (by omega) S K t z r f hK hm
      rw [← nI_add i 4] at X
      refine J.run (csL_law_1527 L xs) 5 [(23, 5)] ?_
      exact X
    intro S K t z r f hK hm
    by_cases hlt : i + 3 < L
    · refine J.run (csL_law_0 L xs) 20 [(1533, 0)] ?_
      refine ⟨rfl, fun _ => lw_end hΦ, fun q => ⟨rfl, vp_n (by omega) (by omega), ?_⟩⟩
      exact ⟨fun _ => lw_c156 hL hlt hE S K t z r f hK hm, fun _ => ⟨fun _ => lw_c236 hL hlt hE S K t z r f hK hm, fun _ => ⟨fun _ => lw_c316 hL hlt hE S K t z r f hK hm, fun _ => ⟨fun _ => lw_c384 hL hlt hE S K t z r f hK hm, fun _ => ⟨fun _ => lw_c452 hL hlt hE S K t z r f hK hm, fun _ => ⟨fun _ => lw_c532 hL hlt hE S K t z r f hK hm, fun _ => ⟨fun _ => lw_c588 hL hlt hE S K t z r f hK hm, fun _ => ⟨fun _ => lw_c644 hL hlt hE S K t z r f hK hm, fun _ => ⟨fun _ => lwI_less (lw_c700 hE) S K t z r f hK hm, fun _ => ⟨fun _ => lwI_less (lw_c713 hE) S K t z r f hK hm, fun _ => ⟨fun _ => lw_c726 hL hlt hE S K t z r f hK hm, fun _ => ⟨fun _ => lw_c770 hL hlt hE S K t z r f hK hm, fun _ => ⟨fun _ => lw_c826 hL hlt hE S K t z r f hK hm, fun _ => ⟨fun _ => lw_c882 hL hlt hE S K t z r f hK hm, fun _ => ⟨fun _ => lw_c926 hL hlt hE S K t z r f hK hm, fun _ => ⟨fun _ => lw_c994 hL hlt hE S K t z r f hK hm, fun _ => ⟨fun _ => lw_c1062 hL hlt hE S K t z r f hK hm, fun _ => ⟨fun _ => lw_c1130 hL hlt hE S K t z r f hK hm, fun _ => ⟨fun _ => lw_c1198 hL hlt hE S K t z r f hK hm, fun _ => ⟨fun _ => lw_c1254 hL hlt hE S K t z r f hK hm, fun _ => ⟨fun _ => lw_c1310 hL hlt hE S K t z r f hK hm, fun _ => ⟨fun _ => lw_c1378 hL hlt hE S K t z r f hK hm, fun _ => ⟨fun _ => lwI_less (lw_c1446 hE) S K t z r f hK hm, fun _ => ⟨fun _ => lwI_less (lw_c1459 hE) S K t z r f hK hm, fun _ => ⟨fun _ => lwI_less (lw_c1472 hE) S K t z r f hK hm, fun _ => ⟨fun _ => lwI_less (lw_c1513 hE) S K t z r f hK hm, fun _ => lwI_less hE S K t z r f hK hm⟩⟩⟩⟩⟩⟩⟩⟩⟩⟩⟩⟩⟩⟩⟩⟩⟩⟩⟩⟩⟩⟩⟩⟩⟩⟩
    · refine J.run (csL_law_0 L xs) 6 [(1533, 0)] ?_
      exact ⟨rfl, fun _ => lw_end hΦ, fun q => absurd ((n_subL hL (i := i) (by omega)).mpr (by omega)) q⟩
/-- the start: both sides tell it alike -/
def S0 : aS := (A0, fun _ => none, [], [])
theorem A0_ok : vOk A0 := by
  refine ⟨by decide, by decide, fun h hh => ?_, fun i hi => ?_, by decide, fun m hm => ⟨Nat.le_of_ble_eq_true rfl, Nat.zero_le _, fun q hq => by cases hq⟩⟩
  · show (if h < 24 then h % 8 else 0) < 8 ∧ (if h < 24 then h % 10 else 0) < 10
    rw [if_pos hh, if_pos hh]
    omega
  · show i < 8 ∧ 2 < 5 ∧ 1 < 10 ∧ 0 < 2
    omega
theorem A0_rel : vRel A0 z0 := fun m hm => by
  have e : m_lo (v_ml A0 m) = [] := rfl
  rw [e]
  exact fun k hk => absurd hk (Nat.not_lt_zero k)
theorem K0_rel : cRel S0 K0 := by
  refine ⟨⟨rfl, A0_ok, A0_rel⟩, fun i hi => ⟨fun _ => rfl, fun B e => by cases e⟩, ⟨rfl, by decide, by decide, fun i B e => by cases e⟩, ⟨rfl, t0_ok, t0_rel _⟩⟩
theorem zMl_rel : zRel A0 (zMl 3) := by
  have h1 : ∀ h, h < 24 → zMl 3 (2 * h) = nI (v_sd A0 h) ∧ zMl 3 (2 * h + 1) = nI (v_sg A0 h) := by decide +kernel
  have h2 : ∀ i, i < 6 → ∀ w, w < 4 → zMl 3 (48 + 4 * i + w) = nI (v_vn A0 i w) := by decide +kernel
  have h3 : ∀ s, s < 2 → zMl 3 (72 + s) = nI (v_se A0 s) := by decide +kernel
  have h4 : ∀ m, m < 3 → zMl 3 (74 + 19 * m) = nI 2 ∧ zMl 3 (75 + 19 * m) = nI 0 ∧ zMl 3 (76 + 19 * m) = nI 0 := by decide +kernel
  have h5 : ∀ o, o < 5 → zMl 3 (131 + 3 * o) = nI 0 ∧ zMl 3 (132 + 3 * o) = nI 0 ∧ zMl 3 (133 + 3 * o) = nI 0 := by decide +kernel
  have h6 : zMl 3 146 = nI 0 ∧ zMl 3 147 = nI 0 ∧ zMl 3 148 = nI 0 ∧ zMl 3 149 = nI 0 := by decide +kernel
  exact ⟨h1, h2, h3, fun m hm => ⟨(h4 m hm).1, (h4 m hm).2.1, (h4 m hm).2.2, fun k hk => absurd hk (Nat.not_lt_zero k)⟩, h5, h6⟩
theorem M0_rel : mRl S0 (0, 0, 0, 0) (zMl 3) (fun _ => 0, fun _ => 0, fun _ => 0, fun _ => 0, fun _ => 0) :=
  ⟨⟨A0_ok, by decide, zMl_rel⟩, fun i hi => ⟨fun _ => rfl, fun B e => by cases e⟩, ⟨rfl, by decide, fun i B e => by cases e⟩, ⟨rfl, t0_ok, t0_rel _⟩⟩
