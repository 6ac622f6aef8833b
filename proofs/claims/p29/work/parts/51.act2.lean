/-! act: sacks, hours, the choice. -/
/-- a lot is brought -/
theorem act_bring {S : aS} {K : cK} {h v g l o : Nat → Int32} {x y how : Int32} {m : Nat} (hm : m < 3) (hK : cRel S K) (hR0 : R5 S.1 h v g l o) : J ML_act (acQ S) 20 120 504 (aLv x y [(8, .int how), (9, .int (nI m))]) [] (LW h v g l o (clA K ++ [])) := by
  have hA := hK.1.2.1
  obtain ⟨hh, hv, hg, hl, ho⟩ := hR0
  have h8 : ∀ j, j < 3 → (v_lo S.1 j).length ≤ 8 := fun j hj => v_lo_len hA hj
  have h8m := h8 m hm
  have i9 : nI 9 + nI m = nI (9 + m) := nI_add 9 m
  have x9 : vp_in (nI 9 + nI m) 15 := by rw [i9]; exact vp_n (by omega) (by decide)
  have c9 : (nI 9 + nI m).toNatClampNeg = 9 + m := by rw [i9, cl_n (by omega)]
  have y9 : g (nI 9 + nI m).toNatClampNeg = nI (v_lo S.1 m).length := by rw [c9]; exact (hg.2.2 m hm).2.1
  refine J.run csL_act_430 6 [] ?_
  refine J.low 5 (by decide) (by decide) [] rfl kL_low mRL_109 dL_act_508 ⟨Nat.le_of_ble_eq_true rfl, Nat.le_of_ble_eq_true rfl⟩ (Nat.le_of_ble_eq_true rfl) (fun w hw => ?_)
  -- owner and sacks are known
  have E539 : ∀ s, 1 ≤ s → s ≤ 99 → J ML_act (acQ S) 20 120 539 (aLv x y [(8, .int how), (9, .int (nI m)), (10, .int (nI w)), (11, .int (nI s))]) [] (LW h v g l o (clA K ++ [])) := by
    intro s hs1 hs
    by_cases q8 : (v_lo S.1 m).length = 8
    · refine J.run csL_act_511 30 [] ?_
      refine ⟨x9, fun q => absurd (show g (nI 9 + nI m).toNatClampNeg = nI 8 by rw [y9, q8]) q, fun _ => ⟨rfl, rfl, vp_c (by decide), vp_c (by decide), ?_⟩⟩
      have hR1 := gR_srf hg
      obtain ⟨S1, hS1⟩ : ∃ S1, S1 = sW (sS S) (srf S.1) := ⟨_, rfl⟩
      have hC9 := c_L_bring hK (nI w) (nI m) (nI s)
      rw [rBring_ok S hw hm hs1 hs, if_pos (show 8 ≤ (v_lo S.1 m).length by omega), ← hS1] at hC9
      refine J.clH 17 102 [] (r := (0, S1, -1)) (c1 := -1) hC9 kL_bring mRL_121 dL_act_567 ⟨Nat.le_of_ble_eq_true rfl, Nat.le_of_ble_eq_true rfl, rfl⟩ rfl rfl rfl (Nat.le_of_ble_eq_true rfl) (by decide) (by decide) (fun K hK => ?_)
      clear hC9
      refine J.run csL_act_511 10 [] ?_
      refine ⟨fun q => absurd rfl q, fun _ => ?_⟩
      have hC9 := c_L_bring hK 5 (nI m) 0
      rw [show rBring S1 5 (nI m) 0 = (1, S1, 0) from if_pos (Or.inl (by decide +kernel))] at hC9
      refine J.clH 14 84 [] (r := (1, S1, 0)) (c1 := -31) hC9 kL_bring mRL_121 dL_act_579 ⟨Nat.le_of_ble_eq_true rfl, Nat.le_of_ble_eq_true rfl, rfl⟩ rfl rfl rfl (Nat.le_of_ble_eq_true rfl) (by decide) (by decide) (fun K hK => ?_)
      refine J.run csL_act_582 10 [] ?_
      refine ⟨fun q => absurd rfl q, fun _ => ⟨Or.inr rfl, rfl, S1, K, h, v, upd g 3 (g 3 + 1), l, o, hK, ?_, ?_, rfl⟩⟩
      · rw [hS1]
        exact ⟨hh, hv, hR1, hl, ho⟩
      · rw [hS1]
        exact Nat.le_add_right _ _
    · obtain ⟨n, hn⟩ : ∃ n, n = (v_lo S.1 m).length := ⟨_, rfl⟩
      have hn8 : n < 8 := by omega
      have il : nI 8 * nI m + g (nI 9 + nI m).toNatClampNeg = nI (8 * m + n) := by rw [y9, ← hn, n_mul, nI_add]
      have xl : vp_in (nI 8 * nI m + g (nI 9 + nI m).toNatClampNeg) 24 := by rw [il]; exact vp_n (by omega) (by decide)
      have cl : (nI 8 * nI m + g (nI 9 + nI m).toNatClampNeg).toNatClampNeg = 8 * m + n := by rw [il, cl_n (by omega)]
      have el : nI (100 * w + s) = nI 100 * nI w + nI s := by rw [n_mul, nI_add]
      have io : nI 3 * nI w + nI 1 = nI (3 * w + 1) := by rw [n_mul, nI_add]
      have xo : vp_in (nI 3 * nI w + nI 1) 15 := by rw [io]; exact vp_n (by omega) (by decide)
      have co : (nI 3 * nI w + nI 1).toNatClampNeg = 3 * w + 1 := by rw [io, cl_n (by omega)]
      refine J.run csL_act_511 9 [(593, 12)] ?_
      refine ⟨x9, fun _ => ?_, fun q => absurd (show nI n = nI 8 from (by rw [hn]; exact y9.symm.trans q)) (fun q9 => absurd ((n_eq (by omega) (by omega)).mp q9) (by omega))⟩
      refine J.run csL_act_582 30 [(618, 12)] ?_
      refine ⟨x9, xl, ?_⟩
      refine J.cast (lv := aLv x y [(8, .int how), (9, .int (nI m)), (10, .int (nI w)), (11, .int (nI s))]) (st := []) (h := LW h v g (upd l (8 * m + n) (nI (100 * w + s))) o (clA K ++ [])) ?_ rfl rfl (cg2 (fun (p : Nat) (z : Int32) => LW h v g (upd l p z) o (clA K ++ [])) cl.symm el)
      refine J.run csL_act_582 30 [(630, 12)] ?_
      refine ⟨rfl, rfl, x9, x9, ?_⟩
      refine J.cast (lv := aLv x y [(8, .int how), (9, .int (nI m)), (10, .int (nI w)), (11, .int (nI s))]) (st := []) (h := LW h v (upd g (9 + m) (g (9 + m) + 1)) (upd l (8 * m + n) (nI (100 * w + s))) o (clA K ++ [])) ?_ rfl rfl (congrArg (fun p : Nat => LW h v (upd g p (g p + 1)) (upd l (8 * m + n) (nI (100 * w + s))) o (clA K ++ [])) c9.symm)
      refine J.run csL_act_582 30 [(644, 12)] ?_
      refine ⟨rfl, rfl, xo, xo, ?_⟩
      refine J.cast (lv := aLv x y [(8, .int how), (9, .int (nI m)), (10, .int (nI w)), (11, .int (nI s))]) (st := []) (h := LW h v (upd g (9 + m) (g (9 + m) + 1)) (upd l (8 * m + n) (nI (100 * w + s))) (upd o (3 * w + 1) (o (3 * w + 1) + nI s)) (clA K ++ [])) ?_ rfl rfl (congrArg (fun p : Nat => LW h v (upd g (9 + m) (g (9 + m) + 1)) (upd l (8 * m + n) (nI (100 * w + s))) (upd o p (o p + nI s)) (clA K ++ [])) co.symm)
      obtain ⟨hR1, hR2, hR3⟩ := R_brg (s := s) ⟨hg, hl, ho⟩ hm hw h8 hn hn8
      generalize upd g (9 + m) (g (9 + m) + 1) = g1 at hR1 ⊢
      generalize upd l (8 * m + n) (nI (100 * w + s)) = l1 at hR2 ⊢
      generalize upd o (3 * w + 1) (o (3 * w + 1) + nI s) = o1 at hR3 ⊢
      obtain ⟨S1, hS1⟩ : ∃ S1, S1 = sW (sS S) (sbt (sml S.1 m (v_lo S.1 m ++ [(w, s)])) w s) := ⟨_, rfl⟩
      have eS : S1.1 = sbt (sml S.1 m (v_lo S.1 m ++ [(w, s)])) w s := by rw [hS1]; rfl
      rw [← eS] at hR1 hR2 hR3
      have eL : v_lo S1.1 m = v_lo S.1 m ++ [(w, s)] := by
        rw [eS]
        show m_lo (if m = m then (m_sp (v_ml S.1 m), m_gr (v_ml S.1 m), v_lo S.1 m ++ [(w, s)]) else v_ml S.1 m) = _
        rw [if_pos rfl]
      refine J.run csL_act_582 6 [] ?_
      have hC9 := c_L_bring hK (nI w) (nI m) (nI s)
      rw [rBring_ok S hw hm hs1 hs, if_neg (show ¬ 8 ≤ (v_lo S.1 m).length by omega), ← hS1, ← eL] at hC9
      refine J.clH 17 102 [] (r := (0, S1, nI (swt (v_lo S1.1 m)))) (c1 := nI (swt (v_lo S1.1 m))) hC9 kL_bring mRL_121 dL_act_651 ⟨Nat.le_of_ble_eq_true rfl, Nat.le_of_ble_eq_true rfl, rfl⟩ rfl rfl rfl (Nat.le_of_ble_eq_true rfl) (by decide) (by decide) (fun K hK => ?_)
      clear hC9
      refine J.run csL_act_654 5 [] ?_
      refine J.pureS [.int (nI (swt (v_lo S1.1 m)))] [2, 3] (c_L_waits hK.1.2.1 hR1 hR2 hm) kL_waits mRL_94 dL_act_660 ⟨Nat.le_of_ble_eq_true rfl, Nat.le_of_ble_eq_true rfl, rfl⟩ rfl rfl (Nat.le_of_ble_eq_true rfl) rfl rfl ?_
      refine J.run csL_act_654 10 [] ?_
      refine ⟨fun q => absurd rfl q, fun _ => ?_⟩
      have hC9 := c_L_bring hK (nI w) (nI m) 100
      rw [show rBring S1 (nI w) (nI m) 100 = (2, S1, 0) from (if_neg (not_or2 (not_ix hw (by decide)) (not_ix hm (by decide)))).trans (if_pos (by decide +kernel))] at hC9
      refine J.clH 14 84 [] (r := (2, S1, 0)) (c1 := -32) hC9 kL_bring mRL_121 dL_act_673 ⟨Nat.le_of_ble_eq_true rfl, Nat.le_of_ble_eq_true rfl, rfl⟩ rfl rfl rfl (Nat.le_of_ble_eq_true rfl) (by decide) (by decide) (fun K hK => ?_)
      clear hC9
      refine J.run csL_act_654 10 [] ?_
      refine ⟨fun q => absurd rfl q, fun _ => ?_⟩
      have hC9 := c_L_bring hK (nI w) 3 1
      rw [show rBring S1 (nI w) 3 1 = (1, S1, 0) from if_pos (Or.inr (by decide +kernel))] at hC9
      refine J.clH 11 66 [] (r := (1, S1, 0)) (c1 := -31) hC9 kL_bring mRL_121 dL_act_686 ⟨Nat.le_of_ble_eq_true rfl, Nat.le_of_ble_eq_true rfl, rfl⟩ rfl rfl rfl (Nat.le_of_ble_eq_true rfl) (by decide) (by decide) (fun K hK => ?_)
      refine J.run csL_act_654 10 [] ?_
      refine ⟨fun q => absurd rfl q, fun _ => ⟨Or.inr rfl, rfl, S1, K, h, v, g1, l1, o1, hK, ?_, ?_, rfl⟩⟩
      · refine ⟨?_, ?_, hR1, hR2, hR3⟩
        · rw [eS]
          exact hh
        · rw [eS]
          exact hv
      · rw [eS]
        exact Nat.le_add_right _ _
  have E533 : ∀ N, 0 < N → N ≤ 99 → J ML_act (acQ S) 20 120 533 (aLv x y [(8, .int how), (9, .int (nI m)), (10, .int (nI w))]) [.int (nI N), .int (y >>> ((5 : Int32) &&& 31)), .int 1] (LW h v g l o (clA K ++ [])) := by
    intro N hN0 hN
    refine J.low N hN0 (by omega) [.int 1] rfl kL_low mRL_109 dL_act_533 ⟨Nat.le_of_ble_eq_true rfl, Nat.le_of_ble_eq_true rfl⟩ (Nat.le_of_ble_eq_true rfl) (fun r hr => ?_)
    refine J.run csL_act_511 2 [(539, 12)] ?_
    exact J.cast (E539 (1 + r) (by omega) (by omega)) (congrArg (fun x9 : Int32 => aLv x y [(8, .int how), (9, .int (nI m)), (10, .int (nI w)), (11, .int x9)]) (nI_add 1 r).symm) rfl rfl
  refine J.run csL_act_511 30 [(533, 11)] ?_
  exact ⟨fun _ => E533 99 (by decide) (by decide), fun _ => E533 9 (by decide) (by decide)⟩
/-- a lot is taken back -/
theorem act_take {S : aS} {K : cK} {h v g l o : Nat → Int32} {x y how : Int32} {m : Nat} (hm : m < 3) (hK : cRel S K) (hR0 : R5 S.1 h v g l o) : J ML_act (acQ S) 20 120 707 (aLv x y [(8, .int how), (9, .int (nI m))]) [] (LW h v g l o (clA K ++ [])) := by
  have hA := hK.1.2.1
  obtain ⟨hh, hv, hg, hl, ho⟩ := hR0
  have h8m := v_lo_len hA hm
  have i9 : nI 9 + nI m = nI (9 + m) := nI_add 9 m
  have x9 : vp_in (nI 9 + nI m) 15 := by rw [i9]; exact vp_n (by omega) (by decide)
  have c9 : (nI 9 + nI m).toNatClampNeg = 9 + m := by rw [i9, cl_n (by omega)]
  have y9 : g (nI 9 + nI m).toNatClampNeg = nI (v_lo S.1 m).length := by rw [c9]; exact (hg.2.2 m hm).2.1
  by_cases q0 : (v_lo S.1 m).length = 0
  · refine J.run csL_act_654 30 [] ?_
    refine ⟨x9, fun q => absurd (show g (nI 9 + nI m).toNatClampNeg = 0 by rw [y9, q0]; rfl) q, fun _ => ⟨rfl, rfl, vp_c (by decide), vp_c (by decide), ?_⟩⟩
    have hR1 := gR_srf hg
    obtain ⟨S1, hS1⟩ : ∃ S1, S1 = sW (sS S) (srf S.1) := ⟨_, rfl⟩
    have hC9 := c_L_takeBack hK (nI m)
    rw [rTake_ok S hm, if_pos q0, ← hS1] at hC9
    refine J.clH 17 102 [] (r := (0, S1, -1)) (c1 := -1) hC9 kL_takeBack mRL_123 dL_act_729 ⟨Nat.le_of_ble_eq_true rfl, Nat.le_of_ble_eq_true rfl, rfl⟩ rfl rfl rfl (Nat.le_of_ble_eq_true rfl) (by decide) (by decide) (fun K hK => ?_)
    clear hC9
    refine J.run csL_act_654 10 [] ?_
    refine ⟨fun q => absurd rfl q, fun _ => ?_⟩
    have hC9 := c_L_takeBack hK 3
    rw [show rTake S1 3 = (1, S1, 0) from if_pos (by decide +kernel)] at hC9
    refine J.clH 14 84 [] (r := (1, S1, 0)) (c1 := -31) hC9 kL_takeBack mRL_123 dL_act_738 ⟨Nat.le_of_ble_eq_true rfl, Nat.le_of_ble_eq_true rfl, rfl⟩ rfl rfl rfl (Nat.le_of_ble_eq_true rfl) (by decide) (by decide) (fun K hK => ?_)
    refine J.run csL_act_741 10 [] ?_
    refine ⟨fun q => absurd rfl q, fun _ => ⟨Or.inr rfl, rfl, S1, K, h, v, upd g 3 (g 3 + 1), l, o, hK, ?_, ?_, rfl⟩⟩
    · rw [hS1]
      exact ⟨hh, hv, hR1, hl, ho⟩
    · rw [hS1]
      exact Nat.le_add_right _ _
  · obtain ⟨n, hn⟩ : ∃ n, (v_lo S.1 m).length = n + 1 := ⟨(v_lo S.1 m).length - 1, by omega⟩
    have hb := lot_bd hA hm (k := n) (by omega)
    obtain ⟨w, hw⟩ : ∃ w, w = lo_o (v_lo S.1 m) n := ⟨_, rfl⟩
    obtain ⟨s, hs⟩ : ∃ s, s = lo_s (v_lo S.1 m) n := ⟨_, rfl⟩
    rw [← hw, ← hs] at hb
    have elot : l (8 * m + n) = nI (100 * w + s) := by rw [hw, hs]; exact hl m hm n (by omega)
    have e9 : nI n = g (nI 9 + nI m).toNatClampNeg - nI 1 := by rw [y9, hn]; exact (n_pred1 (Nat.le_add_left 1 n)).symm
    have e9u : ∀ z : Int32, upd g (9 + m) z (nI 9 + nI m).toNatClampNeg = z := fun z => by rw [c9, pk_us]
    have il : nI 8 * nI m + upd g (9 + m) (nI n) (nI 9 + nI m).toNatClampNeg = nI (8 * m + n) := by rw [e9u, n_mul, nI_add]
    have xl : vp_in (nI 8 * nI m + upd g (9 + m) (nI n) (nI 9 + nI m).toNatClampNeg) 24 := by rw [il]; exact vp_n (by omega) (by decide)
    have yl : l (nI 8 * nI m + upd g (9 + m) (nI n) (nI 9 + nI m).toNatClampNeg).toNatClampNeg = nI (100 * w + s) := by rw [il, cl_n (by omega)]; exact elot
    have nz : ¬ (100 : Int32) = 0 := by decide
    have ed : nI (100 * w + s) / 100 = nI w := by
      rw [n_div100 (by omega)]
      congr 1
      omega
    have er : nI (100 * w + s) - nI (100 * w + s) / 100 * 100 = nI s := by
      rw [n_rem100 (by omega)]
      congr 1
      omega
    have io : nI 3 * (nI (100 * w + s) / 100) + nI 2 = nI (3 * w + 2) := by rw [ed, n_mul, nI_add]
    have xo : vp_in (nI 3 * (nI (100 * w + s) / 100) + nI 2) 15 := by rw [io]; exact vp_n (by omega) (by decide)
    have co : (nI 3 * (nI (100 * w + s) / 100) + nI 2).toNatClampNeg = 3 * w + 2 := by rw [io, cl_n (by omega)]
    refine J.run csL_act_654 9 [(752, 10)] ?_
    refine ⟨x9, fun _ => ?_, fun q => absurd ((n_eq0 (a := (v_lo S.1 m).length) (by omega)).mp (y9.symm.trans q)) q0⟩
    refine J.run csL_act_741 12 [(764, 10)] ?_
    refine ⟨rfl, rfl, x9, x9, ?_⟩
    refine J.cast (lv := aLv x y [(8, .int how), (9, .int (nI m))]) (st := []) (h := LW h v (upd g (9 + m) (nI n)) l o (clA K ++ [])) ?_ rfl rfl (cg2 (fun (p : Nat) (z : Int32) => LW h v (upd g p z) l o (clA K ++ [])) c9.symm e9)
    refine J.run csL_act_741 20 [(783, 11)] ?_
    refine ⟨x9, xl, ?_⟩
    refine J.cast (lv := aLv x y [(8, .int how), (9, .int (nI m)), (10, .int (nI (100 * w + s)))]) (st := []) ?_ (congrArg (fun z : Int32 => aLv x y [(8, .int how), (9, .int (nI m)), (10, .int z)]) yl.symm) rfl rfl
    refine J.run csL_act_741 30 [(803, 11)] ?_
    refine ⟨nz, rfl, rfl, xo, nz, xo, ?_⟩
    refine J.cast (lv := aLv x y [(8, .int how), (9, .int (nI m)), (10, .int (nI (100 * w + s)))]) (st := []) (h := LW h v (upd g (9 + m) (nI n)) l (upd o (3 * w + 2) (o (3 * w + 2) + nI s)) (clA K ++ [])) ?_ rfl rfl (cg2 (fun (p : Nat) (z : Int32) => LW h v (upd g (9 + m) (nI n)) l (upd o p (o p + z)) (clA K ++ [])) co.symm er.symm)
    obtain ⟨hR1, hR2, hR3⟩ := R_tkb (w := w) (s := s) ⟨hg, hl, ho⟩ hm hb.1 hn
    generalize upd g (9 + m) (nI n) = g1 at hR1 ⊢
    generalize upd o (3 * w + 2) (o (3 * w + 2) + nI s) = o1 at hR3 ⊢
    obtain ⟨S1, hS1⟩ : ∃ S1, S1 = sW (sS S) (stt (sml S.1 m (v_lo S.1 m).dropLast) w s) := ⟨_, rfl⟩
    refine J.run csL_act_741 4 [] ?_
    have hC9 := c_L_takeBack hK (nI m)
    rw [rTake_ok S hm, if_neg q0, hn, Nat.add_sub_cancel, ← hw, ← hs, ← hS1] at hC9
    refine J.clH 17 102 [] (r := (0, S1, nI s)) (c1 := nI s) hC9 kL_takeBack mRL_123 dL_act_806 ⟨Nat.le_of_ble_eq_true rfl, Nat.le_of_ble_eq_true rfl, rfl⟩ rfl rfl rfl (Nat.le_of_ble_eq_true rfl) (by decide) (by decide) (fun K hK => ?_)
    refine J.run csL_act_809 10 [] ?_
    refine ⟨nz, fun q => absurd er.symm q, fun _ => ⟨Or.inr rfl, rfl, S1, K, h, v, g1, l, o1, hK, ?_, ?_, rfl⟩⟩
    · rw [hS1]
      exact ⟨hh, hv, hR1, hR2, hR3⟩
    · rw [hS1]
      exact Nat.le_add_right _ _
/-- hours go by -/
theorem act_pass {S : aS} {K : cK} {h v g l o : Nat → Int32} {x y how m9 : Int32} (hK : cRel S K) (hR0 : R5 S.1 h v g l o) (hgo : v_go S.1 + 99 ≤ 99999) : J ML_act (acQ S) 20 120 823 (aLv x y [(8, .int how), (9, .int m9)]) [] (LW h v g l o (clA K ++ [])) := by
  have hA := hK.1.2.1
  obtain ⟨hh, hv, hg, hl, ho⟩ := hR0
  have E845 : ∀ n, 1 ≤ n → n ≤ 99 → J ML_act (acQ S) 20 120 847 (aLv x y [(8, .int how), (9, .int m9), (10, .int (nI n))]) [] (LW h v g l o (clA K ++ [])) := by
    intro n hn1 hn
    have LH : ∀ (d k : Nat), k + d = n → ∀ g l o : Nat → Int32, gR (hrs k S.1) g ∧ lR (hrs k S.1) l ∧ oR (hrs k S.1) o → J ML_act (acQ S) 20 120 853 (aLv x y [(8, .int how), (9, .int m9), (10, .int (nI n)), (11, .int (nI (hrsG k S.1))), (12, .int (nI k))]) [] (LW h v g l o (clA K ++ [])) := by
      intro d
      induction d with
      | zero =>
        intro k hk g l o hR1
        obtain rfl : k = n := by omega
        refine J.run csL_act_809 10 [] ?_
        refine ⟨fun _ => ?_, fun q => absurd ((n_le (by omega) (by omega)).mpr (Nat.le_refl k)) q⟩
        refine J.run csL_act_809 5 [] ?_
        obtain ⟨S1, hS1⟩ : ∃ S1, S1 = sW (sS S) (hrs k S.1) := ⟨_, rfl⟩
        have hC9 := c_L_pass hK (nI k)
        rw [rPass_ok S hn1 hn (by omega), ← hS1] at hC9
        refine J.clH 17 102 [] (r := (0, S1, nI (hrsG k S.1))) (c1 := nI (hrsG k S.1)) hC9 kL_pass mRL_126 dL_act_886 ⟨Nat.le_of_ble_eq_true rfl, Nat.le_of_ble_eq_true rfl, rfl⟩ rfl rfl rfl (Nat.le_of_ble_eq_true rfl) (by decide) (by decide) (fun K hK => ?_)
        clear hC9
        refine J.run csL_act_889 10 [] ?_
        refine ⟨fun q => absurd rfl q, fun _ => ?_⟩
        have hC9 := c_L_pass hK 0
        rw [show rPass S1 0 = (1, S1, 0) from if_pos (by decide +kernel)] at hC9
        refine J.clH 14 84 [] (r := (1, S1, 0)) (c1 := -32) hC9 kL_pass mRL_126 dL_act_896 ⟨Nat.le_of_ble_eq_true rfl, Nat.le_of_ble_eq_true rfl, rfl⟩ rfl rfl rfl (Nat.le_of_ble_eq_true rfl) (by decide) (by decide) (fun K hK => ?_)
        clear hC9
        refine J.run csL_act_889 10 [] ?_
        refine ⟨fun q => absurd rfl q, fun _ => ?_⟩
        have hC9 := c_L_pass hK 100
        rw [show rPass S1 100 = (1, S1, 0) from if_pos (by decide +kernel)] at hC9
        refine J.clH 11 66 [] (r := (1, S1, 0)) (c1 := -32) hC9 kL_pass mRL_126 dL_act_907 ⟨Nat.le_of_ble_eq_true rfl, Nat.le_of_ble_eq_true rfl, rfl⟩ rfl rfl rfl (Nat.le_of_ble_eq_true rfl) (by decide) (by decide) (fun K hK => ?_)
        refine J.run csL_act_889 10 [] ?_
        refine ⟨fun q => absurd rfl q, fun _ => ⟨Or.inr rfl, rfl, S1, K, h, v, g, l, o, hK, ?_, ?_, rfl⟩⟩
        · rw [hS1]
          exact ⟨hrs_hR hh k, hrs_vR hv k, hR1.1, hR1.2.1, hR1.2.2⟩
        · rw [hS1]
          show v_go (hrs k S.1) ≤ _
          rw [hrs_go]
          omega
      | succ d ih =>
        intro k hk g l o hR1
        have hok : vOk (hrs k S.1) := hrs_ok k hA (by omega)
        have hCh := c_L_hour hok (hrs_hR hh k) (hrs_vR hv k) hR1
        refine J.run csL_act_809 12 [] ?_
        refine ⟨fun q => absurd ((n_le (by omega) (by omega)).mp q) (by omega), fun _ => ?_⟩
        refine J.callS 20 120 [.int (nI (hrsG k S.1))] [0, 1, 2, 3, 4] hCh kL_hour mRL_102 dL_act_871 (Nat.le_of_ble_eq_true rfl) (Nat.le_of_ble_eq_true rfl) rfl rfl rfl (Nat.le_of_ble_eq_true rfl) rfl (by decide) (by decide) (by decide) ?_ ?_
        · rintro v9 h' ⟨hv9, g3, l3, o3, hR3, rfl⟩
          cases hv9
          refine ⟨rfl, ?_⟩
          rw [← hrs_s] at hR3
          have X := ih (k + 1) (by omega) g3 l3 o3 hR3
          show J ML_act (acQ S) 20 120 874 _ [.int (nI (hrG (hrs k S.1))), .int (nI (hrsG k S.1))] (LW h v g3 l3 o3 (clA K ++ []))
          refine J.run csL_act_809 5 [(853, 13)] ?_
          exact J.cast X (cg2 (fun z1 z2 : Int32 => aLv x y [(8, .int how), (9, .int m9), (10, .int (nI n)), (11, .int z1), (12, .int z2)]) (by rw [hrsG_s, nI_add]) (nI_succ k)) rfl rfl
        · rintro E h' ⟨hv9, -⟩
          cases hv9
    refine J.run csL_act_809 8 [(853, 13)] ?_
    exact LH n 0 (Nat.zero_add _) g l o ⟨hg, hl, ho⟩
  have E841 : ∀ N, 0 < N → N ≤ 99 → J ML_act (acQ S) 20 120 841 (aLv x y [(8, .int how), (9, .int m9)]) [.int (nI N), .int y, .int 1] (LW h v g l o (clA K ++ [])) := by
    intro N hN0 hN
    refine J.low N hN0 (by omega) [.int 1] rfl kL_low mRL_109 dL_act_841 ⟨Nat.le_of_ble_eq_true rfl, Nat.le_of_ble_eq_true rfl⟩ (Nat.le_of_ble_eq_true rfl) (fun r hr => ?_)
    refine J.run csL_act_809 2 [(847, 11)] ?_
    exact J.cast (E845 (1 + r) (by omega) (by omega)) (congrArg (fun z : Int32 => aLv x y [(8, .int how), (9, .int m9), (10, .int z)]) (nI_add 1 r).symm) rfl rfl
  refine J.run csL_act_809 30 [(841, 10)] ?_
  exact ⟨fun _ => E841 7 (by decide) (by decide), fun _ => E841 99 (by decide) (by decide)⟩
/-- the choice -/
theorem c_L_act {S : aS} {K : cK} {h v g l o : Nat → Int32} (x y : Int32) (hK : cRel S K) (hR0 : R5 S.1 h v g l o) (hgo : v_go S.1 + 99 ≤ 99999) : Ct ML_act 20 120 [.ref 5, .int x, .int y, .ref 0, .ref 1, .ref 2, .ref 3, .ref 4] (LW h v g l o (clA K ++ [])) (acQ S) := by
  refine Ct.of rfl rfl (by decide +kernel) rfl (Nat.le_of_ble_eq_true rfl) ?_
  refine J.run csL_act_0 5 [] ?_
  refine J.low 16 (by decide) (by decide) [] rfl kL_low mRL_109 dL_act_3 ⟨Nat.le_of_ble_eq_true rfl, Nat.le_of_ble_eq_true rfl⟩ (Nat.le_of_ble_eq_true rfl) (fun how hhow => ?_)
  refine J.run csL_act_0 6 [(142, 9), (14, 9)] ?_
  refine ⟨fun _ => ?_, fun _ => act_wind hK hR0⟩
  refine J.run csL_act_70 5 [(300, 9), (148, 9)] ?_
  refine ⟨fun _ => ?_, fun _ => act_vane hK hR0⟩
  refine J.run csL_act_240 5 [] ?_
  refine J.low 3 (by decide) (by decide) [] rfl kL_low mRL_109 dL_act_302 ⟨Nat.le_of_ble_eq_true rfl, Nat.le_of_ble_eq_true rfl⟩ (Nat.le_of_ble_eq_true rfl) (fun m hm => ?_)
  refine J.run csL_act_240 6 [(387, 10), (313, 10)] ?_
  refine ⟨fun _ => ?_, fun _ => act_mill hm hK hR0⟩
  refine J.run csL_act_338 5 [(497, 10), (394, 10)] ?_
  refine ⟨fun _ => ?_, fun _ => act_set hK hR0⟩
  refine J.run csL_act_430 5 [(700, 10), (504, 10)] ?_
  refine ⟨fun _ => ?_, fun _ => act_bring hm hK hR0⟩
  refine J.run csL_act_654 5 [(823, 10), (707, 10)] ?_
  exact ⟨fun _ => act_pass hK hR0 hgo, fun _ => act_take hm hK hR0⟩
