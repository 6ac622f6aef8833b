/-! The law: its cases. -/
theorem lw_c156 {L : Nat} {xs : Nat → Int32} {Φ : j_F} {bc bs i : Nat} (hL : L ≤ 2048) (hi : i + 3 < L) (hE : lwI L xs Φ bc bs 1527 i) : lwI L xs Φ (bc + 3) (bs + 18) 156 i := by
  intro S K t z r f hK hm
  have v1 : vp_in (nI i + nI 1) L := by
    rw [nI_add]
    exact vp_n (by omega) (by omega)
  have v2 : vp_in (nI i + nI 2) L := by
    rw [nI_add]
    exact vp_n (by omega) (by omega)
  have v3 : vp_in (nI i + nI 3) L := by
    rw [nI_add]
    exact vp_n (by omega) (by omega)
  have hC1 := c_L_wind (y1 := mB t z r) (f := f) hK rfl (xs (nI i + nI 1).toNatClampNeg) (xs (nI i + nI 2).toNatClampNeg) (xs (nI i + nI 3).toNatClampNeg)
  have hC2 := c_X4_wind hm (xs (nI i + nI 1).toNatClampNeg) (xs (nI i + nI 2).toNatClampNeg) (xs (nI i + nI 3).toNatClampNeg)
  have hle := le_rWind S (xs (nI i + nI 1).toNatClampNeg) (xs (nI i + nI 2).toNatClampNeg) (xs (nI i + nI 3).toNatClampNeg)
  generalize rWind S (xs (nI i + nI 1).toNatClampNeg) (xs (nI i + nI 2).toNatClampNeg) (xs (nI i + nI 3).toNatClampNeg) = res at hC1 hC2 hle
  refine J.run (csL_law_156 L xs) 40 [] ?_
  refine ⟨rfl, v1, rfl, v2, rfl, v3, ?_⟩
  refine J.callHI bc bs [] hC1 kL_wind mRL_83 dL_law_176 (Nat.le_of_ble_eq_true rfl) (Nat.le_of_ble_eq_true rfl) rfl rfl rfl (Nat.le_of_ble_eq_true rfl) (by omega) (by omega) ?_ ?_
  rotate_left
  · rintro E h' ⟨hv, -⟩
    cases hv
  rintro v h' ⟨hv, K', g, hK', hg, rfl⟩
  cases hv
  refine ⟨(clw_len _ _).trans ((clw_len K (mB t z r ++ [outc f])).symm), ?_⟩
  refine J.run (csL_law_156 L xs) 40 [] ?_
  refine ⟨rfl, v1, rfl, v2, rfl, v3, ?_⟩
  refine J.callMd (K := K') (f := g) [] (as := [.int (xs (nI i + nI 1).toNatClampNeg), .int (xs (nI i + nI 2).toNatClampNeg), .int (xs (nI i + nI 3).toNatClampNeg)]) hC2 kX4_wind mRL_88 dL_law_200 ⟨Nat.le_of_ble_eq_true rfl, Nat.le_of_ble_eq_true rfl, rfl⟩ rfl (fun _ => rfl) rfl (Nat.le_of_ble_eq_true rfl) rfl mQ_q ?_
  rintro v t' z' r' ⟨hv, t1, z1, r1, ht, hm', hh⟩
  cases hv
  rw [lawW_e hh]
  refine J.run (csL_law_156 L xs) 5 [] ?_
  refine J.callMd (K := K') (f := g) [] (as := []) (c_X4_thrown (t := t1) (z := z1) (r := r1)) kX4_thrown mRL_89 dL_law_206 ⟨Nat.le_of_ble_eq_true rfl, Nat.le_of_ble_eq_true rfl, rfl⟩ rfl (fun _ => rfl) rfl (Nat.le_of_ble_eq_true rfl) rfl (fun o h' hq => ⟨_, _, _, _, hq.1, hq.2, fun _ => rfl⟩) ?_
  rintro v t2 z2 r2 ⟨hv, hh2⟩
  cases hv
  rw [lawW_e hh2, ht]
  refine J.run (csL_law_156 L xs) 6 [(1527, 5)] ?_
  refine ⟨fun _ => ⟨fun _ => hE _ _ _ _ _ _ hK' hm', fun q => ?_⟩, fun q => absurd rfl q⟩
  have q : nI res.1 = 0 := q
  rw [n_eq0 (by omega)] at q
  refine J.lald (i := 230) (n := 1) (f := g) dL_law_223 (lw_get rfl _) (vp_c (by decide)) ?_
  refine J.run (csL_law_156 L xs) 10 [(1527, 5)] ?_
  exact ⟨fun _ => hE _ _ _ _ _ _ hK' hm', fun q2 => absurd (lg_cmp_0 (hg q)) q2⟩
theorem lw_c236 {L : Nat} {xs : Nat → Int32} {Φ : j_F} {bc bs i : Nat} (hL : L ≤ 2048) (hi : i + 3 < L) (hE : lwI L xs Φ bc bs 1527 i) : lwI L xs Φ (bc + 3) (bs + 18) 236 i := by
  intro S K t z r f hK hm
  have v1 : vp_in (nI i + nI 1) L := by
    rw [nI_add]
    exact vp_n (by omega) (by omega)
  have v2 : vp_in (nI i + nI 2) L := by
    rw [nI_add]
    exact vp_n (by omega) (by omega)
  have v3 : vp_in (nI i + nI 3) L := by
    rw [nI_add]
    exact vp_n (by omega) (by omega)
  have hC1 := c_L_vane (y1 := mB t z r) (f := f) hK rfl (xs (nI i + nI 1).toNatClampNeg) (xs (nI i + nI 2).toNatClampNeg) (xs (nI i + nI 3).toNatClampNeg)
  have hC2 := c_X4_vane hm (xs (nI i + nI 1).toNatClampNeg) (xs (nI i + nI 2).toNatClampNeg) (xs (nI i + nI 3).toNatClampNeg)
  have hle := le_rVane S (xs (nI i + nI 1).toNatClampNeg) (xs (nI i + nI 2).toNatClampNeg) (xs (nI i + nI 3).toNatClampNeg)
  generalize rVane S (xs (nI i + nI 1).toNatClampNeg) (xs (nI i + nI 2).toNatClampNeg) (xs (nI i + nI 3).toNatClampNeg) = res at hC1 hC2 hle
  refine J.run (csL_law_236 L xs) 40 [] ?_
  refine ⟨rfl, v1, rfl, v2, rfl, v3, ?_⟩
  refine J.callHI bc bs [] hC1 kL_vane mRL_92 dL_law_256 (Nat.le_of_ble_eq_true rfl) (Nat.le_of_ble_eq_true rfl) rfl rfl rfl (Nat.le_of_ble_eq_true rfl) (by omega) (by omega) ?_ ?_
  rotate_left
  · rintro E h' ⟨hv, -⟩
    cases hv
  rintro v h' ⟨hv, K', g, hK', hg, rfl⟩
  cases hv
  refine ⟨(clw_len _ _).trans ((clw_len K (mB t z r ++ [outc f])).symm), ?_⟩
  refine J.run (csL_law_236 L xs) 40 [] ?_
  refine ⟨rfl, v1, rfl, v2, rfl, v3, ?_⟩
  refine J.callMd (K := K') (f := g) [] (as := [.int (xs (nI i + nI 1).toNatClampNeg), .int (xs (nI i + nI 2).toNatClampNeg), .int (xs (nI i + nI 3).toNatClampNeg)]) hC2 kX4_vane mRL_94 dL_law_280 ⟨Nat.le_of_ble_eq_true rfl, Nat.le_of_ble_eq_true rfl, rfl⟩ rfl (fun _ => rfl) rfl (Nat.le_of_ble_eq_true rfl) rfl mQ_q ?_
  rintro v t' z' r' ⟨hv, t1, z1, r1, ht, hm', hh⟩
  cases hv
  rw [lawW_e hh]
  refine J.run (csL_law_236 L xs) 5 [] ?_
  refine J.callMd (K := K') (f := g) [] (as := []) (c_X4_thrown (t := t1) (z := z1) (r := r1)) kX4_thrown mRL_89 dL_law_286 ⟨Nat.le_of_ble_eq_true rfl, Nat.le_of_ble_eq_true rfl, rfl⟩ rfl (fun _ => rfl) rfl (Nat.le_of_ble_eq_true rfl) rfl (fun o h' hq => ⟨_, _, _, _, hq.1, hq.2, fun _ => rfl⟩) ?_
  rintro v t2 z2 r2 ⟨hv, hh2⟩
  cases hv
  rw [lawW_e hh2, ht]
  refine J.run (csL_law_236 L xs) 6 [(1527, 5)] ?_
  refine ⟨fun _ => ⟨fun _ => hE _ _ _ _ _ _ hK' hm', fun q => ?_⟩, fun q => absurd rfl q⟩
  have q : nI res.1 = 0 := q
  rw [n_eq0 (by omega)] at q
  refine J.lald (i := 230) (n := 1) (f := g) dL_law_303 (lw_get rfl _) (vp_c (by decide)) ?_
  refine J.run (csL_law_236 L xs) 10 [(1527, 5)] ?_
  exact ⟨fun _ => hE _ _ _ _ _ _ hK' hm', fun q2 => absurd (lg_cmp_0 (hg q)) q2⟩
theorem lw_c316 {L : Nat} {xs : Nat → Int32} {Φ : j_F} {bc bs i : Nat} (hL : L ≤ 2048) (hi : i + 3 < L) (hE : lwI L xs Φ bc bs 1527 i) : lwI L xs Φ (bc + 3) (bs + 18) 316 i := by
  intro S K t z r f hK hm
  have v1 : vp_in (nI i + nI 1) L := by
    rw [nI_add]
    exact vp_n (by omega) (by omega)
  have v2 : vp_in (nI i + nI 2) L := by
    rw [nI_add]
    exact vp_n (by omega) (by omega)
  have hC1 := c_L_mill (y1 := mB t z r) (f := f) hK rfl (xs (nI i + nI 1).toNatClampNeg) (xs (nI i + nI 2).toNatClampNeg)
  have hC2 := c_X4_mill hm (xs (nI i + nI 1).toNatClampNeg) (xs (nI i + nI 2).toNatClampNeg)
  have hle := le_rMill S (xs (nI i + nI 1).toNatClampNeg) (xs (nI i + nI 2).toNatClampNeg)
  generalize rMill S (xs (nI i + nI 1).toNatClampNeg) (xs (nI i + nI 2).toNatClampNeg) = res at hC1 hC2 hle
  refine J.run (csL_law_316 L xs) 40 [] ?_
  refine ⟨rfl, v1, rfl, v2, ?_⟩
  refine J.callHI bc bs [] hC1 kL_mill mRL_95 dL_law_330 (Nat.le_of_ble_eq_true rfl) (Nat.le_of_ble_eq_true rfl) rfl rfl rfl (Nat.le_of_ble_eq_true rfl) (by omega) (by omega) ?_ ?_
  rotate_left
  · rintro E h' ⟨hv, -⟩
    cases hv
  rintro v h' ⟨hv, K', g, hK', hg, rfl⟩
  cases hv
  refine ⟨(clw_len _ _).trans ((clw_len K (mB t z r ++ [outc f])).symm), ?_⟩
  refine J.run (csL_law_316 L xs) 40 [] ?_
  refine ⟨rfl, v1, rfl, v2, ?_⟩
  refine J.callMd (K := K') (f := g) [] (as := [.int (xs (nI i + nI 1).toNatClampNeg), .int (xs (nI i + nI 2).toNatClampNeg)]) hC2 kX4_mill mRL_98 dL_law_348 ⟨Nat.le_of_ble_eq_true rfl, Nat.le_of_ble_eq_true rfl, rfl⟩ rfl (fun _ => rfl) rfl (Nat.le_of_ble_eq_true rfl) rfl mQ_q ?_
  rintro v t' z' r' ⟨hv, t1, z1, r1, ht, hm', hh⟩
  cases hv
  rw [lawW_e hh]
  refine J.run (csL_law_316 L xs) 5 [] ?_
  refine J.callMd (K := K') (f := g) [] (as := []) (c_X4_thrown (t := t1) (z := z1) (r := r1)) kX4_thrown mRL_89 dL_law_354 ⟨Nat.le_of_ble_eq_true rfl, Nat.le_of_ble_eq_true rfl, rfl⟩ rfl (fun _ => rfl) rfl (Nat.le_of_ble_eq_true rfl) rfl (fun o h' hq => ⟨_, _, _, _, hq.1, hq.2, fun _ => rfl⟩) ?_
  rintro v t2 z2 r2 ⟨hv, hh2⟩
  cases hv
  rw [lawW_e hh2, ht]
  refine J.run (csL_law_316 L xs) 6 [(1527, 5)] ?_
  refine ⟨fun _ => ⟨fun _ => hE _ _ _ _ _ _ hK' hm', fun q => ?_⟩, fun q => absurd rfl q⟩
  have q : nI res.1 = 0 := q
  rw [n_eq0 (by omega)] at q
  refine J.lald (i := 230) (n := 1) (f := g) dL_law_371 (lw_get rfl _) (vp_c (by decide)) ?_
  refine J.run (csL_law_316 L xs) 10 [(1527, 5)] ?_
  exact ⟨fun _ => hE _ _ _ _ _ _ hK' hm', fun q2 => absurd (lg_cmp_0 (hg q)) q2⟩
theorem lw_c384 {L : Nat} {xs : Nat → Int32} {Φ : j_F} {bc bs i : Nat} (hL : L ≤ 2048) (hi : i + 3 < L) (hE : lwI L xs Φ bc bs 1527 i) : lwI L xs Φ (bc + 3) (bs + 18) 384 i := by
  intro S K t z r f hK hm
  have v1 : vp_in (nI i + nI 1) L := by
    rw [nI_add]
    exact vp_n (by omega) (by omega)
  have v2 : vp_in (nI i + nI 2) L := by
    rw [nI_add]
    exact vp_n (by omega) (by omega)
  have hC1 := c_L_set (y1 := mB t z r) (f := f) hK rfl (xs (nI i + nI 1).toNatClampNeg) (xs (nI i + nI 2).toNatClampNeg)
  have hC2 := c_X4_set hm (xs (nI i + nI 1).toNatClampNeg) (xs (nI i + nI 2).toNatClampNeg)
  have hle := le_rSet S (xs (nI i + nI 1).toNatClampNeg) (xs (nI i + nI 2).toNatClampNeg)
  generalize rSet S (xs (nI i + nI 1).toNatClampNeg) (xs (nI i + nI 2).toNatClampNeg) = res at hC1 hC2 hle
  refine J.run (csL_law_384 L xs) 40 [] ?_
  refine ⟨rfl, v1, rfl, v2, ?_⟩
  refine J.callHI bc bs [] hC1 kL_set mRL_99 dL_law_398 (Nat.le_of_ble_eq_true rfl) (Nat.le_of_ble_eq_true rfl) rfl rfl rfl (Nat.le_of_ble_eq_true rfl) (by omega) (by omega) ?_ ?_
  rotate_left
  · rintro E h' ⟨hv, -⟩
    cases hv
  rintro v h' ⟨hv, K', g, hK', hg, rfl⟩
  cases hv
  refine ⟨(clw_len _ _).trans ((clw_len K (mB t z r ++ [outc f])).symm), ?_⟩
  refine J.run (csL_law_384 L xs) 40 [] ?_
  refine ⟨rfl, v1, rfl, v2, ?_⟩
  refine J.callMd (K := K') (f := g) [] (as := [.int (xs (nI i + nI 1).toNatClampNeg), .int (xs (nI i + nI 2).toNatClampNeg)]) hC2 kX4_set mRL_101 dL_law_416 ⟨Nat.le_of_ble_eq_true rfl, Nat.le_of_ble_eq_true rfl, rfl⟩ rfl (fun _ => rfl) rfl (Nat.le_of_ble_eq_true rfl) rfl mQ_q ?_
  rintro v t' z' r' ⟨hv, t1, z1, r1, ht, hm', hh⟩
  cases hv
  rw [lawW_e hh]
  refine J.run (csL_law_384 L xs) 5 [] ?_
  refine J.callMd (K := K') (f := g) [] (as := []) (c_X4_thrown (t := t1) (z := z1) (r := r1)) kX4_thrown mRL_89 dL_law_422 ⟨Nat.le_of_ble_eq_true rfl, Nat.le_of_ble_eq_true rfl, rfl⟩ rfl (fun _ => rfl) rfl (Nat.le_of_ble_eq_true rfl) rfl (fun o h' hq => ⟨_, _, _, _, hq.1, hq.2, fun _ => rfl⟩) ?_
  rintro v t2 z2 r2 ⟨hv, hh2⟩
  cases hv
  rw [lawW_e hh2, ht]
  refine J.run (csL_law_384 L xs) 6 [(1527, 5)] ?_
  refine ⟨fun _ => ⟨fun _ => hE _ _ _ _ _ _ hK' hm', fun q => ?_⟩, fun q => absurd rfl q⟩
  have q : nI res.1 = 0 := q
  rw [n_eq0 (by omega)] at q
  refine J.lald (i := 230) (n := 1) (f := g) dL_law_439 (lw_get rfl _) (vp_c (by decide)) ?_
  refine J.run (csL_law_384 L xs) 10 [(1527, 5)] ?_
  exact ⟨fun _ => hE _ _ _ _ _ _ hK' hm', fun q2 => absurd (lg_cmp_0 (hg q)) q2⟩
theorem lw_c452 {L : Nat} {xs : Nat → Int32} {Φ : j_F} {bc bs i : Nat} (hL : L ≤ 2048) (hi : i + 3 < L) (hE : lwI L xs Φ bc bs 1527 i) : lwI L xs Φ (bc + 3) (bs + 18) 452 i := by
  intro S K t z r f hK hm
  have v1 : vp_in (nI i + nI 1) L := by
    rw [nI_add]
    exact vp_n (by omega) (by omega)
  have v2 : vp_in (nI i + nI 2) L := by
    rw [nI_add]
    exact vp_n (by omega) (by omega)
  have v3 : vp_in (nI i + nI 3) L := by
    rw [nI_add]
    exact vp_n (by omega) (by omega)
  have hC1 := c_L_bring (y1 := mB t z r) (f := f) hK rfl (xs (nI i + nI 1).toNatClampNeg) (xs (nI i + nI 2).toNatClampNeg) (xs (nI i + nI 3).toNatClampNeg)
  have hC2 := c_X4_bring hm (xs (nI i + nI 1).toNatClampNeg) (xs (nI i + nI 2).toNatClampNeg) (xs (nI i + nI 3).toNatClampNeg)
  have hle := le_rBring S (xs (nI i + nI 1).toNatClampNeg) (xs (nI i + nI 2).toNatClampNeg) (xs (nI i + nI 3).toNatClampNeg)
  generalize rBring S (xs (nI i + nI 1).toNatClampNeg) (xs (nI i + nI 2).toNatClampNeg) (xs (nI i + nI 3).toNatClampNeg) = res at hC1 hC2 hle
  refine J.run (csL_law_452 L xs) 40 [] ?_
  refine ⟨rfl, v1, rfl, v2, rfl, v3, ?_⟩
  refine J.callHI bc bs [] hC1 kL_bring mRL_102 dL_law_472 (Nat.le_of_ble_eq_true rfl) (Nat.le_of_ble_eq_true rfl) rfl rfl rfl (Nat.le_of_ble_eq_true rfl) (by omega) (by omega) ?_ ?_
  rotate_left
  · rintro E h' ⟨hv, -⟩
    cases hv
  rintro v h' ⟨hv, K', g, hK', hg, rfl⟩
  cases hv
  refine ⟨(clw_len _ _).trans ((clw_len K (mB t z r ++ [outc f])).symm), ?_⟩
  refine J.run (csL_law_452 L xs) 40 [] ?_
  refine ⟨rfl, v1, rfl, v2, rfl, v3, ?_⟩
  refine J.callMd (K := K') (f := g) [] (as := [.int (xs (nI i + nI 1).toNatClampNeg), .int (xs (nI i + nI 2).toNatClampNeg), .int (xs (nI i + nI 3).toNatClampNeg)]) hC2 kX4_bring mRL_104 dL_law_496 ⟨Nat.le_of_ble_eq_true rfl, Nat.le_of_ble_eq_true rfl, rfl⟩ rfl (fun _ => rfl) rfl (Nat.le_of_ble_eq_true rfl) rfl mQ_q ?_
  rintro v t' z' r' ⟨hv, t1, z1, r1, ht, hm', hh⟩
  cases hv
  rw [lawW_e hh]
  refine J.run (csL_law_452 L xs) 5 [] ?_
  refine J.callMd (K := K') (f := g) [] (as := []) (c_X4_thrown (t := t1) (z := z1) (r := r1)) kX4_thrown mRL_89 dL_law_502 ⟨Nat.le_of_ble_eq_true rfl, Nat.le_of_ble_eq_true rfl, rfl⟩ rfl (fun _ => rfl) rfl (Nat.le_of_ble_eq_true rfl) rfl (fun o h' hq => ⟨_, _, _, _, hq.1, hq.2, fun _ => rfl⟩) ?_
  rintro v t2 z2 r2 ⟨hv, hh2⟩
  cases hv
  rw [lawW_e hh2, ht]
  refine J.run (csL_law_452 L xs) 6 [(1527, 5)] ?_
  refine ⟨fun _ => ⟨fun _ => hE _ _ _ _ _ _ hK' hm', fun q => ?_⟩, fun q => absurd rfl q⟩
  have q : nI res.1 = 0 := q
  rw [n_eq0 (by omega)] at q
  refine J.lald (i := 230) (n := 1) (f := g) dL_law_519 (lw_get rfl _) (vp_c (by decide)) ?_
  refine J.run (csL_law_452 L xs) 10 [(1527, 5)] ?_
  exact ⟨fun _ => hE _ _ _ _ _ _ hK' hm', fun q2 => absurd (lg_cmp_0 (hg q)) q2⟩
theorem lw_c532 {L : Nat} {xs : Nat → Int32} {Φ : j_F} {bc bs i : Nat} (hL : L ≤ 2048) (hi : i + 3 < L) (hE : lwI L xs Φ bc bs 1527 i) : lwI L xs Φ (bc + 3) (bs + 18) 532 i := by
  intro S K t z r f hK hm
  have v1 : vp_in (nI i + nI 1) L := by
    rw [nI_add]
    exact vp_n (by omega) (by omega)
  have hC1 := c_L_takeBack (y1 := mB t z r) (f := f) hK rfl (xs (nI i + nI 1).toNatClampNeg)
  have hC2 := c_X4_takeBack hm (xs (nI i + nI 1).toNatClampNeg)
  have hle := le_rTake S (xs (nI i + nI 1).toNatClampNeg)
  generalize rTake S (xs (nI i + nI 1).toNatClampNeg) = res at hC1 hC2 hle
  refine J.run (csL_law_532 L xs) 40 [] ?_
  refine ⟨rfl, v1, ?_⟩
  refine J.callHI bc bs [] hC1 kL_takeBack mRL_105 dL_law_540 (Nat.le_of_ble_eq_true rfl) (Nat.le_of_ble_eq_true rfl) rfl rfl rfl (Nat.le_of_ble_eq_true rfl) (by omega) (by omega) ?_ ?_
  rotate_left
  · rintro E h' ⟨hv, -⟩
    cases hv
  rintro v h' ⟨hv, K', g, hK', hg, rfl⟩
  cases hv
  refine ⟨(clw_len _ _).trans ((clw_len K (mB t z r ++ [outc f])).symm), ?_⟩
  refine J.run (csL_law_532 L xs) 40 [] ?_
  refine ⟨rfl, v1, ?_⟩
  refine J.callMd (K := K') (f := g) [] (as := [.int (xs (nI i + nI 1).toNatClampNeg)]) hC2 kX4_takeBack mRL_108 dL_law_552 ⟨Nat.le_of_ble_eq_true rfl, Nat.le_of_ble_eq_true rfl, rfl⟩ rfl (fun _ => rfl) rfl (Nat.le_of_ble_eq_true rfl) rfl mQ_q ?_
  rintro v t' z' r' ⟨hv, t1, z1, r1, ht, hm', hh⟩
  cases hv
  rw [lawW_e hh]
  refine J.run (csL_law_532 L xs) 5 [] ?_
  refine J.callMd (K := K') (f := g) [] (as := []) (c_X4_thrown (t := t1) (z := z1) (r := r1)) kX4_thrown mRL_89 dL_law_558 ⟨Nat.le_of_ble_eq_true rfl, Nat.le_of_ble_eq_true rfl, rfl⟩ rfl (fun _ => rfl) rfl (Nat.le_of_ble_eq_true rfl) rfl (fun o h' hq => ⟨_, _, _, _, hq.1, hq.2, fun _ => rfl⟩) ?_
  rintro v t2 z2 r2 ⟨hv, hh2⟩
  cases hv
  rw [lawW_e hh2, ht]
  refine J.run (csL_law_532 L xs) 6 [(1527, 5)] ?_
  refine ⟨fun _ => ⟨fun _ => hE _ _ _ _ _ _ hK' hm', fun q => ?_⟩, fun q => absurd rfl q⟩
  have q : nI res.1 = 0 := q
  rw [n_eq0 (by omega)] at q
  refine J.lald (i := 230) (n := 1) (f := g) dL_law_575 (lw_get rfl _) (vp_c (by decide)) ?_
  refine J.run (csL_law_532 L xs) 10 [(1527, 5)] ?_
  exact ⟨fun _ => hE _ _ _ _ _ _ hK' hm', fun q2 => absurd (lg_cmp_0 (hg q)) q2⟩
theorem lw_c588 {L : Nat} {xs : Nat → Int32} {Φ : j_F} {bc bs i : Nat} (hL : L ≤ 2048) (hi : i + 3 < L) (hE : lwI L xs Φ bc bs 1527 i) : lwI L xs Φ (bc + 3) (bs + 18) 588 i := by
  intro S K t z r f hK hm
  have v1 : vp_in (nI i + nI 1) L := by
    rw [nI_add]
    exact vp_n (by omega) (by omega)
  have hC1 := c_L_pass (y1 := mB t z r) (f := f) hK rfl (xs (nI i + nI 1).toNatClampNeg)
  have hC2 := c_X4_pass hm (xs (nI i + nI 1).toNatClampNeg)
  have hle := le_rPass S (xs (nI i + nI 1).toNatClampNeg)
  generalize rPass S (xs (nI i + nI 1).toNatClampNeg) = res at hC1 hC2 hle
  refine J.run (csL_law_588 L xs) 40 [] ?_
  refine ⟨rfl, v1, ?_⟩
  refine J.callHI bc bs [] hC1 kL_pass mRL_109 dL_law_596 (Nat.le_of_ble_eq_true rfl) (Nat.le_of_ble_eq_true rfl) rfl rfl rfl (Nat.le_of_ble_eq_true rfl) (by omega) (by omega) ?_ ?_
  rotate_left
  · rintro E h' ⟨hv, -⟩
    cases hv
  rintro v h' ⟨hv, K', g, hK', hg, rfl⟩
  cases hv
  refine ⟨(clw_len _ _).trans ((clw_len K (mB t z r ++ [outc f])).symm), ?_⟩
  refine J.run (csL_law_588 L xs) 40 [] ?_
  refine ⟨rfl, v1, ?_⟩
  refine J.callMd (K := K') (f := g) [] (as := [.int (xs (nI i + nI 1).toNatClampNeg)]) hC2 kX4_pass mRL_111 dL_law_608 ⟨Nat.le_of_ble_eq_true rfl, Nat.le_of_ble_eq_true rfl, rfl⟩ rfl (fun _ => rfl) rfl (Nat.le_of_ble_eq_true rfl) rfl mQ_q ?_
  rintro v t' z' r' ⟨hv, t1, z1, r1, ht, hm', hh⟩
  cases hv
  rw [lawW_e hh]
  refine J.run (csL_law_588 L xs) 5 [] ?_
  refine J.callMd (K := K') (f := g) [] (as := []) (c_X4_thrown (t := t1) (z := z1) (r := r1)) kX4_thrown mRL_89 dL_law_614 ⟨Nat.le_of_ble_eq_true rfl, Nat.le_of_ble_eq_true rfl, rfl⟩ rfl (fun _ => rfl) rfl (Nat.le_of_ble_eq_true rfl) rfl (fun o h' hq => ⟨_, _, _, _, hq.1, hq.2, fun _ => rfl⟩) ?_
  rintro v t2 z2 r2 ⟨hv, hh2⟩
  cases hv
  rw [lawW_e hh2, ht]
  refine J.run (csL_law_588 L xs) 6 [(1527, 5)] ?_
  refine ⟨fun _ => ⟨fun _ => hE _ _ _ _ _ _ hK' hm', fun q => ?_⟩, fun q => absurd rfl q⟩
  have q : nI res.1 = 0 := q
  rw [n_eq0 (by omega)] at q
  refine J.lald (i := 230) (n := 1) (f := g) dL_law_631 (lw_get rfl _) (vp_c (by decide)) ?_
  refine J.run (csL_law_588 L xs) 10 [(1527, 5)] ?_
  exact ⟨fun _ => hE _ _ _ _ _ _ hK' hm', fun q2 => absurd (lg_cmp_0 (hg q)) q2⟩
theorem lw_c644 {L : Nat} {xs : Nat → Int32} {Φ : j_F} {bc bs i : Nat} (hL : L ≤ 2048) (hi : i + 3 < L) (hE : lwI L xs Φ bc bs 1527 i) : lwI L xs Φ (bc + 3) (bs + 18) 644 i := by
  intro S K t z r f hK hm
  have v1 : vp_in (nI i + nI 1) L := by
    rw [nI_add]
    exact vp_n (by omega) (by omega)
  have hC1 := c_L_append (y1 := mB t z r) (f := f) hK rfl (xs (nI i + nI 1).toNatClampNeg)
  have hC2 := c_X4_append hm (xs (nI i + nI 1).toNatClampNeg)
  have hle := le_rApp S (xs (nI i + nI 1).toNatClampNeg)
  generalize rApp S (xs (nI i + nI 1).toNatClampNeg) = res at hC1 hC2 hle
  refine J.run (csL_law_644 L xs) 40 [] ?_
  refine ⟨rfl, v1, ?_⟩
  refine J.callHI bc bs [] hC1 kL_append mRL_112 dL_law_652 (Nat.le_of_ble_eq_true rfl) (Nat.le_of_ble_eq_true rfl) rfl rfl rfl (Nat.le_of_ble_eq_true rfl) (by omega) (by omega) ?_ ?_
  rotate_left
  · rintro E h' ⟨hv, -⟩
    cases hv
  rintro v h' ⟨hv, K', g, hK', hg, rfl⟩
  cases hv
  refine ⟨(clw_len _ _).trans ((clw_len K (mB t z r ++ [outc f])).symm), ?_⟩
  refine J.run (csL_law_644 L xs) 40 [] ?_
  refine ⟨rfl, v1, ?_⟩
  refine J.callMd (K := K') (f := g) [] (as := [.int (xs (nI i + nI 1).toNatClampNeg)]) hC2 kX4_append mRL_114 dL_law_664 ⟨Nat.le_of_ble_eq_true rfl, Nat.le_of_ble_eq_true rfl, rfl⟩ rfl (fun _ => rfl) rfl (Nat.le_of_ble_eq_true rfl) rfl mQ_q ?_
  rintro v t' z' r' ⟨hv, t1, z1, r1, ht, hm', hh⟩
  cases hv
  rw [lawW_e hh]
  refine J.run (csL_law_644 L xs) 5 [] ?_
  refine J.callMd (K := K') (f := g) [] (as := []) (c_X4_thrown (t := t1) (z := z1) (r := r1)) kX4_thrown mRL_89 dL_law_670 ⟨Nat.le_of_ble_eq_true rfl, Nat.le_of_ble_eq_true rfl, rfl⟩ rfl (fun _ => rfl) rfl (Nat.le_of_ble_eq_true rfl) rfl (fun o h' hq => ⟨_, _, _, _, hq.1, hq.2, fun _ => rfl⟩) ?_
  rintro v t2 z2 r2 ⟨hv, hh2⟩
  cases hv
  rw [lawW_e hh2, ht]
  refine J.run (csL_law_644 L xs) 6 [(1527, 5)] ?_
  refine ⟨fun _ => ⟨fun _ => hE _ _ _ _ _ _ hK' hm', fun q => ?_⟩, fun q => absurd rfl q⟩
  have q : nI res.1 = 0 := q
  rw [n_eq0 (by omega)] at q
  refine J.lald (i := 230) (n := 1) (f := g) dL_law_687 (lw_get rfl _) (vp_c (by decide)) ?_
  refine J.run (csL_law_644 L xs) 10 [(1527, 5)] ?_
  exact ⟨fun _ => hE _ _ _ _ _ _ hK' hm', fun q2 => absurd (lg_cmp_0 (hg q)) q2⟩
theorem lw_c726 {L : Nat} {xs : Nat → Int32} {Φ : j_F} {bc bs i : Nat} (hL : L ≤ 2048) (hi : i + 3 < L) (hE : lwI L xs Φ bc bs 1527 i) : lwI L xs Φ (bc + 3) (bs + 18) 726 i := by
  intro S K t z r f hK hm
  have hC1 := c_L_load (y1 := mB t z r) (f := f) hK rfl
  have hC2 := c_X4_load hm
  have hle := le_rLoad S
  generalize rLoad S = res at hC1 hC2 hle
  refine J.run (csL_law_726 L xs) 40 [] ?_
  refine J.callHI bc bs [] hC1 kL_load mRL_123 dL_law_728 (Nat.le_of_ble_eq_true rfl) (Nat.le_of_ble_eq_true rfl) rfl rfl rfl (Nat.le_of_ble_eq_true rfl) (by omega) (by omega) ?_ ?_
  rotate_left
  · rintro E h' ⟨hv, -⟩
    cases hv
  rintro v h' ⟨hv, K', g, hK', hg, rfl⟩
  cases hv
  refine ⟨(clw_len _ _).trans ((clw_len K (mB t z r ++ [outc f])).symm), ?_⟩
  refine J.run (csL_law_726 L xs) 40 [] ?_
  refine J.callMd (K := K') (f := g) [] (as := []) hC2 kX4_load mRL_126 dL_law_734 ⟨Nat.le_of_ble_eq_true rfl, Nat.le_of_ble_eq_true rfl, rfl⟩ rfl (fun _ => rfl) rfl (Nat.le_of_ble_eq_true rfl) rfl mQ_q ?_
  rintro v t' z' r' ⟨hv, t1, z1, r1, ht, hm', hh⟩
  cases hv
  rw [lawW_e hh]
  refine J.run (csL_law_726 L xs) 5 [] ?_
  refine J.callMd (K := K') (f := g) [] (as := []) (c_X4_thrown (t := t1) (z := z1) (r := r1)) kX4_thrown mRL_89 dL_law_740 ⟨Nat.le_of_ble_eq_true rfl, Nat.le_of_ble_eq_true rfl, rfl⟩ rfl (fun _ => rfl) rfl (Nat.le_of_ble_eq_true rfl) rfl (fun o h' hq => ⟨_, _, _, _, hq.1, hq.2, fun _ => rfl⟩) ?_
  rintro v t2 z2 r2 ⟨hv, hh2⟩
  cases hv
  rw [lawW_e hh2, ht]
  refine J.run (csL_law_726 L xs) 6 [(1527, 5)] ?_
  refine ⟨fun _ => ⟨fun _ => hE _ _ _ _ _ _ hK' hm', fun q => ?_⟩, fun q => absurd rfl q⟩
  have q : nI res.1 = 0 := q
  rw [n_eq0 (by omega)] at q
  refine J.lald (i := 230) (n := 1) (f := g) dL_law_757 (lw_get rfl _) (vp_c (by decide)) ?_
  refine J.run (csL_law_726 L xs) 10 [(1527, 5)] ?_
  exact ⟨fun _ => hE _ _ _ _ _ _ hK' hm', fun q2 => absurd (lg_cmp_0 (hg q)) q2⟩
theorem lw_c770 {L : Nat} {xs : Nat → Int32} {Φ : j_F} {bc bs i : Nat} (hL : L ≤ 2048) (hi : i + 3 < L) (hE : lwI L xs Φ bc bs 1527 i) : lwI L xs Φ (bc + 3) (bs + 18) 770 i := by
  intro S K t z r f hK hm
  have v1 : vp_in (nI i + nI 1) L := by
    rw [nI_add]
    exact vp_n (by omega) (by omega)
  have hC1 := c_L_keep (y1 := mB t z r) (f := f) hK rfl (xs (nI i + nI 1).toNatClampNeg)
  have hC2 := c_X4_keep hm (xs (nI i + nI 1).toNatClampNeg)
  have hle := le_rKeep S (xs (nI i + nI 1).toNatClampNeg)
  generalize rKeep S (xs (nI i + nI 1).toNatClampNeg) = res at hC1 hC2 hle
  refine J.run (csL_law_770 L xs) 40 [] ?_
  refine ⟨rfl, v1, ?_⟩
  refine J.callHI bc bs [] hC1 kL_keep mRL_127 dL_law_778 (Nat.le_of_ble_eq_true rfl) (Nat.le_of_ble_eq_true rfl) rfl rfl rfl (Nat.le_of_ble_eq_true rfl) (by omega) (by omega) ?_ ?_
  rotate_left
  · rintro E h' ⟨hv, -⟩
    cases hv
  rintro v h' ⟨hv, K', g, hK', hg, rfl⟩
  cases hv
  refine ⟨(clw_len _ _).trans ((clw_len K (mB t z r ++ [outc f])).symm), ?_⟩
  refine J.run (csL_law_770 L xs) 40 [] ?_
  refine ⟨rfl, v1, ?_⟩
  refine J.callMd (K := K') (f := g) [] (as := [.int (xs (nI i + nI 1).toNatClampNeg)]) hC2 kX4_keep mRL_129 dL_law_790 ⟨Nat.le_of_ble_eq_true rfl, Nat.le_of_ble_eq_true rfl, rfl⟩ rfl (fun _ => rfl) rfl (Nat.le_of_ble_eq_true rfl) rfl mQ_q ?_
  rintro v t' z' r' ⟨hv, t1, z1, r1, ht, hm', hh⟩
  cases hv
  rw [lawW_e hh]
  refine J.run (csL_law_770 L xs) 5 [] ?_
  refine J.callMd (K := K') (f := g) [] (as := []) (c_X4_thrown (t := t1) (z := z1) (r := r1)) kX4_thrown mRL_89 dL_law_796 ⟨Nat.le_of_ble_eq_true rfl, Nat.le_of_ble_eq_true rfl, rfl⟩ rfl (fun _ => rfl) rfl (Nat.le_of_ble_eq_true rfl) rfl (fun o h' hq => ⟨_, _, _, _, hq.1, hq.2, fun _ => rfl⟩) ?_
  rintro v t2 z2 r2 ⟨hv, hh2⟩
  cases hv
  rw [lawW_e hh2, ht]
  refine J.run (csL_law_770 L xs) 6 [(1527, 5)] ?_
  refine ⟨fun _ => ⟨fun _ => hE _ _ _ _ _ _ hK' hm', fun q => ?_⟩, fun q => absurd rfl q⟩
  have q : nI res.1 = 0 := q
  rw [n_eq0 (by omega)] at q
  refine J.lald (i := 230) (n := 1) (f := g) dL_law_813 (lw_get rfl _) (vp_c (by decide)) ?_
  refine J.run (csL_law_770 L xs) 10 [(1527, 5)] ?_
  exact ⟨fun _ => hE _ _ _ _ _ _ hK' hm', fun q2 => absurd (lg_cmp_0 (hg q)) q2⟩
theorem lw_c826 {L : Nat} {xs : Nat → Int32} {Φ : j_F} {bc bs i : Nat} (hL : L ≤ 2048) (hi : i + 3 < L) (hE : lwI L xs Φ bc bs 1527 i) : lwI L xs Φ (bc + 3) (bs + 18) 826 i := by
  intro S K t z r f hK hm
  have v1 : vp_in (nI i + nI 1) L := by
    rw [nI_add]
    exact vp_n (by omega) (by omega)
  have hC1 := c_L_goBack (y1 := mB t z r) (f := f) hK rfl (xs (nI i + nI 1).toNatClampNeg)
  have hC2 := c_X4_goBack hm (xs (nI i + nI 1).toNatClampNeg)
  have hle := le_rGo S (xs (nI i + nI 1).toNatClampNeg)
  generalize rGo S (xs (nI i + nI 1).toNatClampNeg) = res at hC1 hC2 hle
  refine J.run (csL_law_826 L xs) 40 [] ?_
  refine ⟨rfl, v1, ?_⟩
  refine J.callHI bc bs [] hC1 kL_goBack mRL_130 dL_law_834 (Nat.le_of_ble_eq_true rfl) (Nat.le_of_ble_eq_true rfl) rfl rfl rfl (Nat.le_of_ble_eq_true rfl) (by omega) (by omega) ?_ ?_
  rotate_left
  · rintro E h' ⟨hv, -⟩
    cases hv
  rintro v h' ⟨hv, K', g, hK', hg, rfl⟩
  cases hv
  refine ⟨(clw_len _ _).trans ((clw_len K (mB t z r ++ [outc f])).symm), ?_⟩
  refine J.run (csL_law_826 L xs) 40 [] ?_
  refine ⟨rfl, v1, ?_⟩
  refine J.callMd (K := K') (f := g) [] (as := [.int (xs (nI i + nI 1).toNatClampNeg)]) hC2 kX4_goBack mRL_132 dL_law_846 ⟨Nat.le_of_ble_eq_true rfl, Nat.le_of_ble_eq_true rfl, rfl⟩ rfl (fun _ => rfl) rfl (Nat.le_of_ble_eq_true rfl) rfl mQ_q ?_
  rintro v t' z' r' ⟨hv, t1, z1, r1, ht, hm', hh⟩
  cases hv
  rw [lawW_e hh]
  refine J.run (csL_law_826 L xs) 5 [] ?_
  refine J.callMd (K := K') (f := g) [] (as := []) (c_X4_thrown (t := t1) (z := z1) (r := r1)) kX4_thrown mRL_89 dL_law_852 ⟨Nat.le_of_ble_eq_true rfl, Nat.le_of_ble_eq_true rfl, rfl⟩ rfl (fun _ => rfl) rfl (Nat.le_of_ble_eq_true rfl) rfl (fun o h' hq => ⟨_, _, _, _, hq.1, hq.2, fun _ => rfl⟩) ?_
  rintro v t2 z2 r2 ⟨hv, hh2⟩
  cases hv
  rw [lawW_e hh2, ht]
  refine J.run (csL_law_826 L xs) 6 [(1527, 5)] ?_
  refine ⟨fun _ => ⟨fun _ => hE _ _ _ _ _ _ hK' hm', fun q => ?_⟩, fun q => absurd rfl q⟩
  have q : nI res.1 = 0 := q
  rw [n_eq0 (by omega)] at q
  refine J.lald (i := 230) (n := 1) (f := g) dL_law_869 (lw_get rfl _) (vp_c (by decide)) ?_
  refine J.run (csL_law_826 L xs) 10 [(1527, 5)] ?_
  exact ⟨fun _ => hE _ _ _ _ _ _ hK' hm', fun q2 => absurd (lg_cmp_0 (hg q)) q2⟩
theorem lw_c882 {L : Nat} {xs : Nat → Int32} {Φ : j_F} {bc bs i : Nat} (hL : L ≤ 2048) (hi : i + 3 < L) (hE : lwI L xs Φ bc bs 1527 i) : lwI L xs Φ (bc + 3) (bs + 18) 882 i := by
  intro S K t z r f hK hm
  have hC1 := c_L_undo (y1 := mB t z r) (f := f) hK rfl
  have hC2 := c_X4_undo hm
  have hle := le_rUndo S
  generalize rUndo S = res at hC1 hC2 hle
  refine J.run (csL_law_882 L xs) 40 [] ?_
  refine J.callHI bc bs [] hC1 kL_undo mRL_133 dL_law_884 (Nat.le_of_ble_eq_true rfl) (Nat.le_of_ble_eq_true rfl) rfl rfl rfl (Nat.le_of_ble_eq_true rfl) (by omega) (by omega) ?_ ?_
  rotate_left
  · rintro E h' ⟨hv, -⟩
    cases hv
  rintro v h' ⟨hv, K', g, hK', hg, rfl⟩
  cases hv
  refine ⟨(clw_len _ _).trans ((clw_len K (mB t z r ++ [outc f])).symm), ?_⟩
  refine J.run (csL_law_882 L xs) 40 [] ?_
  refine J.callMd (K := K') (f := g) [] (as := []) hC2 kX4_undo mRL_135 dL_law_890 ⟨Nat.le_of_ble_eq_true rfl, Nat.le_of_ble_eq_true rfl, rfl⟩ rfl (fun _ => rfl) rfl (Nat.le_of_ble_eq_true rfl) rfl mQ_q ?_
  rintro v t' z' r' ⟨hv, t1, z1, r1, ht, hm', hh⟩
  cases hv
  rw [lawW_e hh]
  refine J.run (csL_law_882 L xs) 5 [] ?_
  refine J.callMd (K := K') (f := g) [] (as := []) (c_X4_thrown (t := t1) (z := z1) (r := r1)) kX4_thrown mRL_89 dL_law_896 ⟨Nat.le_of_ble_eq_true rfl, Nat.le_of_ble_eq_true rfl, rfl⟩ rfl (fun _ => rfl) rfl (Nat.le_of_ble_eq_true rfl) rfl (fun o h' hq => ⟨_, _, _, _, hq.1, hq.2, fun _ => rfl⟩) ?_
  rintro v t2 z2 r2 ⟨hv, hh2⟩
  cases hv
  rw [lawW_e hh2, ht]
  refine J.run (csL_law_882 L xs) 6 [(1527, 5)] ?_
  refine ⟨fun _ => ⟨fun _ => hE _ _ _ _ _ _ hK' hm', fun q => ?_⟩, fun q => absurd rfl q⟩
  have q : nI res.1 = 0 := q
  rw [n_eq0 (by omega)] at q
  refine J.lald (i := 230) (n := 1) (f := g) dL_law_913 (lw_get rfl _) (vp_c (by decide)) ?_
  refine J.run (csL_law_882 L xs) 10 [(1527, 5)] ?_
  exact ⟨fun _ => hE _ _ _ _ _ _ hK' hm', fun q2 => absurd (lg_cmp_0 (hg q)) q2⟩
theorem lw_c926 {L : Nat} {xs : Nat → Int32} {Φ : j_F} {bc bs i : Nat} (hL : L ≤ 2048) (hi : i + 3 < L) (hE : lwI L xs Φ bc bs 1527 i) : lwI L xs Φ (bc + 3) (bs + 18) 926 i := by
  intro S K t z r f hK hm
  have v1 : vp_in (nI i + nI 1) L := by
    rw [nI_add]
    exact vp_n (by omega) (by omega)
  have v2 : vp_in (nI i + nI 2) L := by
    rw [nI_add]
    exact vp_n (by omega) (by omega)
  have hC1 := c_L_hourOf (y1 := mB t z r) (f := f) hK rfl (xs (nI i + nI 1).toNatClampNeg) (xs (nI i + nI 2).toNatClampNeg)
  have hC2 := c_X4_hourOf hm (xs (nI i + nI 1).toNatClampNeg) (xs (nI i + nI 2).toNatClampNeg)
  have hle := le_rHour S (xs (nI i + nI 1).toNatClampNeg) (xs (nI i + nI 2).toNatClampNeg)
  generalize rHour S (xs (nI i + nI 1).toNatClampNeg) (xs (nI i + nI 2).toNatClampNeg) = res at hC1 hC2 hle
  refine J.run (csL_law_926 L xs) 40 [] ?_
  refine ⟨rfl, v1, rfl, v2, ?_⟩
  refine J.callHI bc bs [] hC1 kL_hourOf mRL_136 dL_law_940 (Nat.le_of_ble_eq_true rfl) (Nat.le_of_ble_eq_true rfl) rfl rfl rfl (Nat.le_of_ble_eq_true rfl) (by omega) (by omega) ?_ ?_
  rotate_left
  · rintro E h' ⟨hv, -⟩
    cases hv
  rintro v h' ⟨hv, K', g, hK', hg, rfl⟩
  cases hv
  refine ⟨(clw_len _ _).trans ((clw_len K (mB t z r ++ [outc f])).symm), ?_⟩
  refine J.run (csL_law_926 L xs) 40 [] ?_
  refine ⟨rfl, v1, rfl, v2, ?_⟩
  refine J.callMd (K := K') (f := g) [] (as := [.int (xs (nI i + nI 1).toNatClampNeg), .int (xs (nI i + nI 2).toNatClampNeg)]) hC2 kX4_hourOf mRL_138 dL_law_958 ⟨Nat.le_of_ble_eq_true rfl, Nat.le_of_ble_eq_true rfl, rfl⟩ rfl (fun _ => rfl) rfl (Nat.le_of_ble_eq_true rfl) rfl mQ_q ?_
  rintro v t' z' r' ⟨hv, t1, z1, r1, ht, hm', hh⟩
  cases hv
  rw [lawW_e hh]
  refine J.run (csL_law_926 L xs) 5 [] ?_
  refine J.callMd (K := K') (f := g) [] (as := []) (c_X4_thrown (t := t1) (z := z1) (r := r1)) kX4_thrown mRL_89 dL_law_964 ⟨Nat.le_of_ble_eq_true rfl, Nat.le_of_ble_eq_true rfl, rfl⟩ rfl (fun _ => rfl) rfl (Nat.le_of_ble_eq_true rfl) rfl (fun o h' hq => ⟨_, _, _, _, hq.1, hq.2, fun _ => rfl⟩) ?_
  rintro v t2 z2 r2 ⟨hv, hh2⟩
  cases hv
  rw [lawW_e hh2, ht]
  refine J.run (csL_law_926 L xs) 6 [(1527, 5)] ?_
  refine ⟨fun _ => ⟨fun _ => hE _ _ _ _ _ _ hK' hm', fun q => ?_⟩, fun q => absurd rfl q⟩
  have q : nI res.1 = 0 := q
  rw [n_eq0 (by omega)] at q
  refine J.lald (i := 230) (n := 1) (f := g) dL_law_981 (lw_get rfl _) (vp_c (by decide)) ?_
  refine J.run (csL_law_926 L xs) 10 [(1527, 5)] ?_
  exact ⟨fun _ => hE _ _ _ _ _ _ hK' hm', fun q2 => absurd (lg_cmp_0 (hg q)) q2⟩
theorem lw_c994 {L : Nat} {xs : Nat → Int32} {Φ : j_F} {bc bs i : Nat} (hL : L ≤ 2048) (hi : i + 3 < L) (hE : lwI L xs Φ bc bs 1527 i) : lwI L xs Φ (bc + 3) (bs + 18) 994 i := by
  intro S K t z r f hK hm
  have v1 : vp_in (nI i + nI 1) L := by
    rw [nI_add]
    exact vp_n (by omega) (by omega)
  have v2 : vp_in (nI i + nI 2) L := by
    rw [nI_add]
    exact vp_n (by omega) (by omega)
  have hC1 := c_L_vaneOf (y1 := mB t z r) (f := f) hK rfl (xs (nI i + nI 1).toNatClampNeg) (xs (nI i + nI 2).toNatClampNeg)
  have hC2 := c_X4_vaneOf hm (xs (nI i + nI 1).toNatClampNeg) (xs (nI i + nI 2).toNatClampNeg)
  have hle := le_rVaneOf S (xs (nI i + nI 1).toNatClampNeg) (xs (nI i + nI 2).toNatClampNeg)
  generalize rVaneOf S (xs (nI i + nI 1).toNatClampNeg) (xs (nI i + nI 2).toNatClampNeg) = res at hC1 hC2 hle
  refine J.run (csL_law_994 L xs) 40 [] ?_
  refine ⟨rfl, v1, rfl, v2, ?_⟩
  refine J.callHI bc bs [] hC1 kL_vaneOf mRL_139 dL_law_1008 (Nat.le_of_ble_eq_true rfl) (Nat.le_of_ble_eq_true rfl) rfl rfl rfl (Nat.le_of_ble_eq_true rfl) (by omega) (by omega) ?_ ?_
  rotate_left
  · rintro E h' ⟨hv, -⟩
    cases hv
  rintro v h' ⟨hv, K', g, hK', hg, rfl⟩
  cases hv
  refine ⟨(clw_len _ _).trans ((clw_len K (mB t z r ++ [outc f])).symm), ?_⟩
  refine J.run (csL_law_994 L xs) 40 [] ?_
  refine ⟨rfl, v1, rfl, v2, ?_⟩
  refine J.callMd (K := K') (f := g) [] (as := [.int (xs (nI i + nI 1).toNatClampNeg), .int (xs (nI i + nI 2).toNatClampNeg)]) hC2 kX4_vaneOf mRL_141 dL_law_1026 ⟨Nat.le_of_ble_eq_true rfl, Nat.le_of_ble_eq_true rfl, rfl⟩ rfl (fun _ => rfl) rfl (Nat.le_of_ble_eq_true rfl) rfl mQ_q ?_
  rintro v t' z' r' ⟨hv, t1, z1, r1, ht, hm', hh⟩
  cases hv
  rw [lawW_e hh]
  refine J.run (csL_law_994 L xs) 5 [] ?_
  refine J.callMd (K := K') (f := g) [] (as := []) (c_X4_thrown (t := t1) (z := z1) (r := r1)) kX4_thrown mRL_89 dL_law_1032 ⟨Nat.le_of_ble_eq_true rfl, Nat.le_of_ble_eq_true rfl, rfl⟩ rfl (fun _ => rfl) rfl (Nat.le_of_ble_eq_true rfl) rfl (fun o h' hq => ⟨_, _, _, _, hq.1, hq.2, fun _ => rfl⟩) ?_
  rintro v t2 z2 r2 ⟨hv, hh2⟩
  cases hv
  rw [lawW_e hh2, ht]
  refine J.run (csL_law_994 L xs) 6 [(1527, 5)] ?_
  refine ⟨fun _ => ⟨fun _ => hE _ _ _ _ _ _ hK' hm', fun q => ?_⟩, fun q => absurd rfl q⟩
  have q : nI res.1 = 0 := q
  rw [n_eq0 (by omega)] at q
  refine J.lald (i := 230) (n := 1) (f := g) dL_law_1049 (lw_get rfl _) (vp_c (by decide)) ?_
  refine J.run (csL_law_994 L xs) 10 [(1527, 5)] ?_
  exact ⟨fun _ => hE _ _ _ _ _ _ hK' hm', fun q2 => absurd (lg_cmp_0 (hg q)) q2⟩
theorem lw_c1062 {L : Nat} {xs : Nat → Int32} {Φ : j_F} {bc bs i : Nat} (hL : L ≤ 2048) (hi : i + 3 < L) (hE : lwI L xs Φ bc bs 1527 i) : lwI L xs Φ (bc + 3) (bs + 18) 1062 i := by
  intro S K t z r f hK hm
  have v1 : vp_in (nI i + nI 1) L := by
    rw [nI_add]
    exact vp_n (by omega) (by omega)
  have v2 : vp_in (nI i + nI 2) L := by
    rw [nI_add]
    exact vp_n (by omega) (by omega)
  have hC1 := c_L_millOf (y1 := mB t z r) (f := f) hK rfl (xs (nI i + nI 1).toNatClampNeg) (xs (nI i + nI 2).toNatClampNeg)
  have hC2 := c_X4_millOf hm (xs (nI i + nI 1).toNatClampNeg) (xs (nI i + nI 2).toNatClampNeg)
  have hle := le_rMillOf S (xs (nI i + nI 1).toNatClampNeg) (xs (nI i + nI 2).toNatClampNeg)
  generalize rMillOf S (xs (nI i + nI 1).toNatClampNeg) (xs (nI i + nI 2).toNatClampNeg) = res at hC1 hC2 hle
  refine J.run (csL_law_1062 L xs) 40 [] ?_
  refine ⟨rfl, v1, rfl, v2, ?_⟩
  refine J.callHI bc bs [] hC1 kL_millOf mRL_142 dL_law_1076 (Nat.le_of_ble_eq_true rfl) (Nat.le_of_ble_eq_true rfl) rfl rfl rfl (Nat.le_of_ble_eq_true rfl) (by omega) (by omega) ?_ ?_
  rotate_left
  · rintro E h' ⟨hv, -⟩
    cases hv
  rintro v h' ⟨hv, K', g, hK', hg, rfl⟩
  cases hv
  refine ⟨(clw_len _ _).trans ((clw_len K (mB t z r ++ [outc f])).symm), ?_⟩
  refine J.run (csL_law_1062 L xs) 40 [] ?_
  refine ⟨rfl, v1, rfl, v2, ?_⟩
  refine J.callMd (K := K') (f := g) [] (as := [.int (xs (nI i + nI 1).toNatClampNeg), .int (xs (nI i + nI 2).toNatClampNeg)]) hC2 kX4_millOf mRL_144 dL_law_1094 ⟨Nat.le_of_ble_eq_true rfl, Nat.le_of_ble_eq_true rfl, rfl⟩ rfl (fun _ => rfl) rfl (Nat.le_of_ble_eq_true rfl) rfl mQ_q ?_
  rintro v t' z' r' ⟨hv, t1, z1, r1, ht, hm', hh⟩
  cases hv
  rw [lawW_e hh]
  refine J.run (csL_law_1062 L xs) 5 [] ?_
  refine J.callMd (K := K') (f := g) [] (as := []) (c_X4_thrown (t := t1) (z := z1) (r := r1)) kX4_thrown mRL_89 dL_law_1100 ⟨Nat.le_of_ble_eq_true rfl, Nat.le_of_ble_eq_true rfl, rfl⟩ rfl (fun _ => rfl) rfl (Nat.le_of_ble_eq_true rfl) rfl (fun o h' hq => ⟨_, _, _, _, hq.1, hq.2, fun _ => rfl⟩) ?_
  rintro v t2 z2 r2 ⟨hv, hh2⟩
  cases hv
  rw [lawW_e hh2, ht]
  refine J.run (csL_law_1062 L xs) 6 [(1527, 5)] ?_
  refine ⟨fun _ => ⟨fun _ => hE _ _ _ _ _ _ hK' hm', fun q => ?_⟩, fun q => absurd rfl q⟩
  have q : nI res.1 = 0 := q
  rw [n_eq0 (by omega)] at q
  refine J.lald (i := 230) (n := 1) (f := g) dL_law_1117 (lw_get rfl _) (vp_c (by decide)) ?_
  refine J.run (csL_law_1062 L xs) 10 [(1527, 5)] ?_
  exact ⟨fun _ => hE _ _ _ _ _ _ hK' hm', fun q2 => absurd (lg_cmp_0 (hg q)) q2⟩
theorem lw_c1130 {L : Nat} {xs : Nat → Int32} {Φ : j_F} {bc bs i : Nat} (hL : L ≤ 2048) (hi : i + 3 < L) (hE : lwI L xs Φ bc bs 1527 i) : lwI L xs Φ (bc + 3) (bs + 18) 1130 i := by
  intro S K t z r f hK hm
  have v1 : vp_in (nI i + nI 1) L := by
    rw [nI_add]
    exact vp_n (by omega) (by omega)
  have v2 : vp_in (nI i + nI 2) L := by
    rw [nI_add]
    exact vp_n (by omega) (by omega)
  have hC1 := c_L_ownerOf (y1 := mB t z r) (f := f) hK rfl (xs (nI i + nI 1).toNatClampNeg) (xs (nI i + nI 2).toNatClampNeg)
  have hC2 := c_X4_ownerOf hm (xs (nI i + nI 1).toNatClampNeg) (xs (nI i + nI 2).toNatClampNeg)
  have hle := le_rOwner S (xs (nI i + nI 1).toNatClampNeg) (xs (nI i + nI 2).toNatClampNeg)
  generalize rOwner S (xs (nI i + nI 1).toNatClampNeg) (xs (nI i + nI 2).toNatClampNeg) = res at hC1 hC2 hle
  refine J.run (csL_law_1130 L xs) 40 [] ?_
  refine ⟨rfl, v1, rfl, v2, ?_⟩
  refine J.callHI bc bs [] hC1 kL_ownerOf mRL_145 dL_law_1144 (Nat.le_of_ble_eq_true rfl) (Nat.le_of_ble_eq_true rfl) rfl rfl rfl (Nat.le_of_ble_eq_true rfl) (by omega) (by omega) ?_ ?_
  rotate_left
  · rintro E h' ⟨hv, -⟩
    cases hv
  rintro v h' ⟨hv, K', g, hK', hg, rfl⟩
  cases hv
  refine ⟨(clw_len _ _).trans ((clw_len K (mB t z r ++ [outc f])).symm), ?_⟩
  refine J.run (csL_law_1130 L xs) 40 [] ?_
  refine ⟨rfl, v1, rfl, v2, ?_⟩
  refine J.callMd (K := K') (f := g) [] (as := [.int (xs (nI i + nI 1).toNatClampNeg), .int (xs (nI i + nI 2).toNatClampNeg)]) hC2 kX4_ownerOf mRL_147 dL_law_1162 ⟨Nat.le_of_ble_eq_true rfl, Nat.le_of_ble_eq_true rfl, rfl⟩ rfl (fun _ => rfl) rfl (Nat.le_of_ble_eq_true rfl) rfl mQ_q ?_
  rintro v t' z' r' ⟨hv, t1, z1, r1, ht, hm', hh⟩
  cases hv
  rw [lawW_e hh]
  refine J.run (csL_law_1130 L xs) 5 [] ?_
  refine J.callMd (K := K') (f := g) [] (as := []) (c_X4_thrown (t := t1) (z := z1) (r := r1)) kX4_thrown mRL_89 dL_law_1168 ⟨Nat.le_of_ble_eq_true rfl, Nat.le_of_ble_eq_true rfl, rfl⟩ rfl (fun _ => rfl) rfl (Nat.le_of_ble_eq_true rfl) rfl (fun o h' hq => ⟨_, _, _, _, hq.1, hq.2, fun _ => rfl⟩) ?_
  rintro v t2 z2 r2 ⟨hv, hh2⟩
  cases hv
  rw [lawW_e hh2, ht]
  refine J.run (csL_law_1130 L xs) 6 [(1527, 5)] ?_
  refine ⟨fun _ => ⟨fun _ => hE _ _ _ _ _ _ hK' hm', fun q => ?_⟩, fun q => absurd rfl q⟩
  have q : nI res.1 = 0 := q
  rw [n_eq0 (by omega)] at q
  refine J.lald (i := 230) (n := 1) (f := g) dL_law_1185 (lw_get rfl _) (vp_c (by decide)) ?_
  refine J.run (csL_law_1130 L xs) 10 [(1527, 5)] ?_
  exact ⟨fun _ => hE _ _ _ _ _ _ hK' hm', fun q2 => absurd (lg_cmp_0 (hg q)) q2⟩
theorem lw_c1198 {L : Nat} {xs : Nat → Int32} {Φ : j_F} {bc bs i : Nat} (hL : L ≤ 2048) (hi : i + 3 < L) (hE : lwI L xs Φ bc bs 1527 i) : lwI L xs Φ (bc + 3) (bs + 18) 1198 i := by
  intro S K t z r f hK hm
  have v1 : vp_in (nI i + nI 1) L := by
    rw [nI_add]
    exact vp_n (by omega) (by omega)
  have hC1 := c_L_count (y1 := mB t z r) (f := f) hK rfl (xs (nI i + nI 1).toNatClampNeg)
  have hC2 := c_X4_count hm (xs (nI i + nI 1).toNatClampNeg)
  have hle := le_rCount S (xs (nI i + nI 1).toNatClampNeg)
  generalize rCount S (xs (nI i + nI 1).toNatClampNeg) = res at hC1 hC2 hle
  refine J.run (csL_law_1198 L xs) 40 [] ?_
  refine ⟨rfl, v1, ?_⟩
  refine J.callHI bc bs [] hC1 kL_count mRL_148 dL_law_1206 (Nat.le_of_ble_eq_true rfl) (Nat.le_of_ble_eq_true rfl) rfl rfl rfl (Nat.le_of_ble_eq_true rfl) (by omega) (by omega) ?_ ?_
  rotate_left
  · rintro E h' ⟨hv, -⟩
    cases hv
  rintro v h' ⟨hv, K', g, hK', hg, rfl⟩
  cases hv
  refine ⟨(clw_len _ _).trans ((clw_len K (mB t z r ++ [outc f])).symm), ?_⟩
  refine J.run (csL_law_1198 L xs) 40 [] ?_
  refine ⟨rfl, v1, ?_⟩
  refine J.callMd (K := K') (f := g) [] (as := [.int (xs (nI i + nI 1).toNatClampNeg)]) hC2 kX4_count mRL_150 dL_law_1218 ⟨Nat.le_of_ble_eq_true rfl, Nat.le_of_ble_eq_true rfl, rfl⟩ rfl (fun _ => rfl) rfl (Nat.le_of_ble_eq_true rfl) rfl mQ_q ?_
  rintro v t' z' r' ⟨hv, t1, z1, r1, ht, hm', hh⟩
  cases hv
  rw [lawW_e hh]
  refine J.run (csL_law_1198 L xs) 5 [] ?_
  refine J.callMd (K := K') (f := g) [] (as := []) (c_X4_thrown (t := t1) (z := z1) (r := r1)) kX4_thrown mRL_89 dL_law_1224 ⟨Nat.le_of_ble_eq_true rfl, Nat.le_of_ble_eq_true rfl, rfl⟩ rfl (fun _ => rfl) rfl (Nat.le_of_ble_eq_true rfl) rfl (fun o h' hq => ⟨_, _, _, _, hq.1, hq.2, fun _ => rfl⟩) ?_
  rintro v t2 z2 r2 ⟨hv, hh2⟩
  cases hv
  rw [lawW_e hh2, ht]
  refine J.run (csL_law_1198 L xs) 6 [(1527, 5)] ?_
  refine ⟨fun _ => ⟨fun _ => hE _ _ _ _ _ _ hK' hm', fun q => ?_⟩, fun q => absurd rfl q⟩
  have q : nI res.1 = 0 := q
  rw [n_eq0 (by omega)] at q
  refine J.lald (i := 230) (n := 1) (f := g) dL_law_1241 (lw_get rfl _) (vp_c (by decide)) ?_
  refine J.run (csL_law_1198 L xs) 10 [(1527, 5)] ?_
  exact ⟨fun _ => hE _ _ _ _ _ _ hK' hm', fun q2 => absurd (lg_cmp_0 (hg q)) q2⟩
theorem lw_c1254 {L : Nat} {xs : Nat → Int32} {Φ : j_F} {bc bs i : Nat} (hL : L ≤ 2048) (hi : i + 3 < L) (hE : lwI L xs Φ bc bs 1527 i) : lwI L xs Φ (bc + 3) (bs + 18) 1254 i := by
  intro S K t z r f hK hm
  have v1 : vp_in (nI i + nI 1) L := by
    rw [nI_add]
    exact vp_n (by omega) (by omega)
  have hC1 := c_L_setting (y1 := mB t z r) (f := f) hK rfl (xs (nI i + nI 1).toNatClampNeg)
  have hC2 := c_X4_setting hm (xs (nI i + nI 1).toNatClampNeg)
  have hle := le_rSetting S (xs (nI i + nI 1).toNatClampNeg)
  generalize rSetting S (xs (nI i + nI 1).toNatClampNeg) = res at hC1 hC2 hle
  refine J.run (csL_law_1254 L xs) 40 [] ?_
  refine ⟨rfl, v1, ?_⟩
  refine J.callHI bc bs [] hC1 kL_setting mRL_151 dL_law_1262 (Nat.le_of_ble_eq_true rfl) (Nat.le_of_ble_eq_true rfl) rfl rfl rfl (Nat.le_of_ble_eq_true rfl) (by omega) (by omega) ?_ ?_
  rotate_left
  · rintro E h' ⟨hv, -⟩
    cases hv
  rintro v h' ⟨hv, K', g, hK', hg, rfl⟩
  cases hv
  refine ⟨(clw_len _ _).trans ((clw_len K (mB t z r ++ [outc f])).symm), ?_⟩
  refine J.run (csL_law_1254 L xs) 40 [] ?_
  refine ⟨rfl, v1, ?_⟩
  refine J.callMd (K := K') (f := g) [] (as := [.int (xs (nI i + nI 1).toNatClampNeg)]) hC2 kX4_setting mRL_153 dL_law_1274 ⟨Nat.le_of_ble_eq_true rfl, Nat.le_of_ble_eq_true rfl, rfl⟩ rfl (fun _ => rfl) rfl (Nat.le_of_ble_eq_true rfl) rfl mQ_q ?_
  rintro v t' z' r' ⟨hv, t1, z1, r1, ht, hm', hh⟩
  cases hv
  rw [lawW_e hh]
  refine J.run (csL_law_1254 L xs) 5 [] ?_
  refine J.callMd (K := K') (f := g) [] (as := []) (c_X4_thrown (t := t1) (z := z1) (r := r1)) kX4_thrown mRL_89 dL_law_1280 ⟨Nat.le_of_ble_eq_true rfl, Nat.le_of_ble_eq_true rfl, rfl⟩ rfl (fun _ => rfl) rfl (Nat.le_of_ble_eq_true rfl) rfl (fun o h' hq => ⟨_, _, _, _, hq.1, hq.2, fun _ => rfl⟩) ?_
  rintro v t2 z2 r2 ⟨hv, hh2⟩
  cases hv
  rw [lawW_e hh2, ht]
  refine J.run (csL_law_1254 L xs) 6 [(1527, 5)] ?_
  refine ⟨fun _ => ⟨fun _ => hE _ _ _ _ _ _ hK' hm', fun q => ?_⟩, fun q => absurd rfl q⟩
  have q : nI res.1 = 0 := q
  rw [n_eq0 (by omega)] at q
  refine J.lald (i := 230) (n := 1) (f := g) dL_law_1297 (lw_get rfl _) (vp_c (by decide)) ?_
  refine J.run (csL_law_1254 L xs) 10 [(1527, 5)] ?_
  exact ⟨fun _ => hE _ _ _ _ _ _ hK' hm', fun q2 => absurd (lg_cmp_0 (hg q)) q2⟩
theorem lw_c1310 {L : Nat} {xs : Nat → Int32} {Φ : j_F} {bc bs i : Nat} (hL : L ≤ 2048) (hi : i + 3 < L) (hE : lwI L xs Φ bc bs 1527 i) : lwI L xs Φ (bc + 3) (bs + 18) 1310 i := by
  intro S K t z r f hK hm
  have v1 : vp_in (nI i + nI 1) L := by
    rw [nI_add]
    exact vp_n (by omega) (by omega)
  have v2 : vp_in (nI i + nI 2) L := by
    rw [nI_add]
    exact vp_n (by omega) (by omega)
  have hC1 := c_L_doneIn (y1 := mB t z r) (f := f) hK rfl (xs (nI i + nI 1).toNatClampNeg) (xs (nI i + nI 2).toNatClampNeg)
  have hC2 := c_X4_doneIn hm (xs (nI i + nI 1).toNatClampNeg) (xs (nI i + nI 2).toNatClampNeg)
  have hle := le_rDone S (xs (nI i + nI 1).toNatClampNeg) (xs (nI i + nI 2).toNatClampNeg)
  generalize rDone S (xs (nI i + nI 1).toNatClampNeg) (xs (nI i + nI 2).toNatClampNeg) = res at hC1 hC2 hle
  refine J.run (csL_law_1310 L xs) 40 [] ?_
  refine ⟨rfl, v1, rfl, v2, ?_⟩
  refine J.callHI bc bs [] hC1 kL_doneIn mRL_154 dL_law_1324 (Nat.le_of_ble_eq_true rfl) (Nat.le_of_ble_eq_true rfl) rfl rfl rfl (Nat.le_of_ble_eq_true rfl) (by omega) (by omega) ?_ ?_
  rotate_left
  · rintro E h' ⟨hv, -⟩
    cases hv
  rintro v h' ⟨hv, K', g, hK', hg, rfl⟩
  cases hv
  refine ⟨(clw_len _ _).trans ((clw_len K (mB t z r ++ [outc f])).symm), ?_⟩
  refine J.run (csL_law_1310 L xs) 40 [] ?_
  refine ⟨rfl, v1, rfl, v2, ?_⟩
  refine J.callMd (K := K') (f := g) [] (as := [.int (xs (nI i + nI 1).toNatClampNeg), .int (xs (nI i + nI 2).toNatClampNeg)]) hC2 kX4_doneIn mRL_156 dL_law_1342 ⟨Nat.le_of_ble_eq_true rfl, Nat.le_of_ble_eq_true rfl, rfl⟩ rfl (fun _ => rfl) rfl (Nat.le_of_ble_eq_true rfl) rfl mQ_q ?_
  rintro v t' z' r' ⟨hv, t1, z1, r1, ht, hm', hh⟩
  cases hv
  rw [lawW_e hh]
  refine J.run (csL_law_1310 L xs) 5 [] ?_
  refine J.callMd (K := K') (f := g) [] (as := []) (c_X4_thrown (t := t1) (z := z1) (r := r1)) kX4_thrown mRL_89 dL_law_1348 ⟨Nat.le_of_ble_eq_true rfl, Nat.le_of_ble_eq_true rfl, rfl⟩ rfl (fun _ => rfl) rfl (Nat.le_of_ble_eq_true rfl) rfl (fun o h' hq => ⟨_, _, _, _, hq.1, hq.2, fun _ => rfl⟩) ?_
  rintro v t2 z2 r2 ⟨hv, hh2⟩
  cases hv
  rw [lawW_e hh2, ht]
  refine J.run (csL_law_1310 L xs) 6 [(1527, 5)] ?_
  refine ⟨fun _ => ⟨fun _ => hE _ _ _ _ _ _ hK' hm', fun q => ?_⟩, fun q => absurd rfl q⟩
  have q : nI res.1 = 0 := q
  rw [n_eq0 (by omega)] at q
  refine J.lald (i := 230) (n := 1) (f := g) dL_law_1365 (lw_get rfl _) (vp_c (by decide)) ?_
  refine J.run (csL_law_1310 L xs) 10 [(1527, 5)] ?_
  exact ⟨fun _ => hE _ _ _ _ _ _ hK' hm', fun q2 => absurd (lg_cmp_0 (hg q)) q2⟩
theorem lw_c1378 {L : Nat} {xs : Nat → Int32} {Φ : j_F} {bc bs i : Nat} (hL : L ≤ 2048) (hi : i + 3 < L) (hE : lwI L xs Φ bc bs 1527 i) : lwI L xs Φ (bc + 3) (bs + 18) 1378 i := by
  intro S K t z r f hK hm
  have v1 : vp_in (nI i + nI 1) L := by
    rw [nI_add]
    exact vp_n (by omega) (by omega)
  have v2 : vp_in (nI i + nI 2) L := by
    rw [nI_add]
    exact vp_n (by omega) (by omega)
  have hC1 := c_L_ifPassed (y1 := mB t z r) (f := f) hK rfl (xs (nI i + nI 1).toNatClampNeg) (xs (nI i + nI 2).toNatClampNeg)
  have hC2 := c_X4_ifPassed hm (xs (nI i + nI 1).toNatClampNeg) (xs (nI i + nI 2).toNatClampNeg)
  have hle := le_rIf S (xs (nI i + nI 1).toNatClampNeg) (xs (nI i + nI 2).toNatClampNeg)
  generalize rIf S (xs (nI i + nI 1).toNatClampNeg) (xs (nI i + nI 2).toNatClampNeg) = res at hC1 hC2 hle
  refine J.run (csL_law_1378 L xs) 40 [] ?_
  refine ⟨rfl, v1, rfl, v2, ?_⟩
  refine J.callHI bc bs [] hC1 kL_ifPassed mRL_157 dL_law_1392 (Nat.le_of_ble_eq_true rfl) (Nat.le_of_ble_eq_true rfl) rfl rfl rfl (Nat.le_of_ble_eq_true rfl) (by omega) (by omega) ?_ ?_
  rotate_left
  · rintro E h' ⟨hv, -⟩
    cases hv
  rintro v h' ⟨hv, K', g, hK', hg, rfl⟩
  cases hv
  refine ⟨(clw_len _ _).trans ((clw_len K (mB t z r ++ [outc f])).symm), ?_⟩
  refine J.run (csL_law_1378 L xs) 40 [] ?_
  refine ⟨rfl, v1, rfl, v2, ?_⟩
  refine J.callMd (K := K') (f := g) [] (as := [.int (xs (nI i + nI 1).toNatClampNeg), .int (xs (nI i + nI 2).toNatClampNeg)]) hC2 kX4_ifPassed mRL_159 dL_law_1410 ⟨Nat.le_of_ble_eq_true rfl, Nat.le_of_ble_eq_true rfl, rfl⟩ rfl (fun _ => rfl) rfl (Nat.le_of_ble_eq_true rfl) rfl mQ_q ?_
  rintro v t' z' r' ⟨hv, t1, z1, r1, ht, hm', hh⟩
  cases hv
  rw [lawW_e hh]
  refine J.run (csL_law_1378 L xs) 5 [] ?_
  refine J.callMd (K := K') (f := g) [] (as := []) (c_X4_thrown (t := t1) (z := z1) (r := r1)) kX4_thrown mRL_89 dL_law_1416 ⟨Nat.le_of_ble_eq_true rfl, Nat.le_of_ble_eq_true rfl, rfl⟩ rfl (fun _ => rfl) rfl (Nat.le_of_ble_eq_true rfl) rfl (fun o h' hq => ⟨_, _, _, _, hq.1, hq.2, fun _ => rfl⟩) ?_
  rintro v t2 z2 r2 ⟨hv, hh2⟩
  cases hv
  rw [lawW_e hh2, ht]
  refine J.run (csL_law_1378 L xs) 6 [(1527, 5)] ?_
  refine ⟨fun _ => ⟨fun _ => hE _ _ _ _ _ _ hK' hm', fun q => ?_⟩, fun q => absurd rfl q⟩
  have q : nI res.1 = 0 := q
  rw [n_eq0 (by omega)] at q
  refine J.lald (i := 230) (n := 1) (f := g) dL_law_1433 (lw_get rfl _) (vp_c (by decide)) ?_
  refine J.run (csL_law_1378 L xs) 10 [(1527, 5)] ?_
  exact ⟨fun _ => hE _ _ _ _ _ _ hK' hm', fun q2 => absurd (lg_cmp_0 (hg q)) q2⟩
