/-! doneIn -/
theorem swt_le {l : aL} (h : l.length ≤ 8) (h2 : ∀ q ∈ l, q.1 < 5 ∧ 1 ≤ q.2 ∧ q.2 ≤ 99) : swt l ≤ 792 := by
  have := sumN_le (f := lo_s l) (c := 99) l.length (fun i hi => (h2 _ (lo_mem hi)).2.2)
  unfold swt
  omega
theorem day_le {A : aV} (hA : vOk A) {m : Nat} (hm : m < 3) : day A m ≤ 480 := sumN_le 24 (fun i hi => rat_le hA hm hi)
theorem cnt_isH {A : aV} {m l H : Nat} (h : isH A m l H) : ∀ n, cntN (fun j => decide (cum A m j < l)) n = min n H
  | 0 => (Nat.zero_min H).symm
  | n + 1 => by
    have ih := cnt_isH h n
    unfold cntN
    rw [ih]
    by_cases q : n < H
    · rw [if_pos (decide_eq_true (h.2 n q))]
      omega
    · have := cum_mono A m (show H ≤ n by omega)
      have h1 := h.1
      rw [if_neg (by rw [decide_eq_true_iff]; omega)]
      omega
def hrF (A : aV) (m l : Nat) : Nat := cntN (fun j => decide (cum A m j < l)) 19008
theorem hrF_is {A : aV} {m l H : Nat} (h : isH A m l H) (hb : H ≤ 19008) : hrF A m l = H := by
  unfold hrF
  rw [cnt_isH h]
  omega
def doV (A : aV) (m : Nat) : Int32 := if swt (v_lo A m) = 0 then 0 else if day A m = 0 then -1 else nI (hrF A m (swt (v_lo A m)))
theorem done_ex {A : aV} (hA : vOk A) {m l : Nat} (hl : l ≤ 792) (hd : 0 < day A m) : ∃ H, H ≤ 19008 ∧ isH A m l H := by
  refine isH_ex 19008 ?_
  have e := cum_d hA.1 m 0 792
  rw [show 24 * 792 + 0 = 19008 by decide] at e
  rw [e]
  have := Nat.mul_le_mul_left 792 hd
  omega
def rDone (S : aS) (a b : Int32) : aR := if a < 0 ∨ nI 3 ≤ a then (1, S, 0) else if b < nI 0 ∨ nI 1 < b then (2, S, 0) else (0, S, doV S.1 (cN a))
theorem b_X3_doneIn {Φ : j_F} {S : aS} {K : cK} {y : j_H} (h : cRel S K) {i w : Nat} (hi : i < 3) (hw : w ≤ 1) (hΦ : hE Φ S y (doV S.1 i)) : J MX3_doneIn Φ 0 0 11 [(0, .ref 0), (1, .int (nI i)), (2, .int (nI w))] [] (clw K y) := by
  obtain ⟨⟨A, z⟩, c, ⟨fl, cs, rt⟩, sl, sv⟩ := K
  have hA : A = S.1 := h.1.1
  subst hA
  have hok := h.1.2.1
  have hz : vRel S.1 z := h.1.2.2
  have hmk := hok.2.2.2.2.2 i hi
  have hl : (v_lo S.1 i).length ≤ 8 := hmk.2.1
  have hsw : swt (v_lo S.1 i) ≤ 792 := swt_le hl hmk.2.2
  have hdy := day_le hok hi
  have hrt : ∀ k, k < 24 → rowr S.1 i 24 rt k = nI (rat S.1 i k) := fun k hk => if_pos hk
  have D : J MX3_doneIn Φ 0 0 25 [(0, .ref 0), (1, .int (nI i)), (2, .int (nI w)), (3, .ref (16 + 3 * i))] [.int (nI (swt (v_lo S.1 i)))] (clv (vil S.1 z) c (fl, cs, rt) (cX sl sv y)) := by
    refine J.run csX3_doneIn 20 [] ?_
    refine ⟨fun q => ?_, fun q => ?_⟩
    · have q : ¬ nI (swt (v_lo S.1 i)) = 0 := q
      rw [n_eq0 (by omega)] at q
      refine J.fill [] i hok hi kX1_fillRates mRX3_182 dX3_doneIn_43 (by decide) rfl (Nat.le_of_ble_eq_true rfl) ?_
      refine J.run csX3_doneIn 3 [] ?_
      refine ⟨fun q2 => ?_, fun q2 => ?_⟩
      · have q2 : 0 < nI (day S.1 i) := q2
        rw [n_gt0 (by omega)] at q2
        obtain ⟨H, hH1, hH2⟩ := done_ex (m := i) hok hsw q2
        have ev : doV S.1 i = nI H := (if_neg q).trans ((if_neg (by omega)).trans (by rw [hrF_is hH2 hH1]))
        have hc : w = 0 ∨ w = 1 := by omega
        rcases hc with rfl | rfl
        · refine J.run csX3_doneIn 5 [] ?_
          refine ⟨fun q => absurd rfl q, fun _ => ?_⟩
          refine J.callR [] (c_X3_hoursUntilGround (m := i) hok hi (by omega) (by omega) hrt hH2 hH1) kX3_hoursUntilGround mRX3_202 dX3_doneIn_62 (by decide) rfl rfl (Nat.le_of_ble_eq_true rfl) rfl (ci := 3) rfl rfl ?_
          refine J.run csX3_doneIn 5 [] ?_
          exact hΦ.f (cRel_r h (rowr S.1 i 24 rt)) ev.symm rfl
        · have hd1 : (swt (v_lo S.1 i) - 1) / day S.1 i * day S.1 i ≤ swt (v_lo S.1 i) - 1 := Nat.div_mul_le_self _ _
          have hd2 : swt (v_lo S.1 i) - 1 < ((swt (v_lo S.1 i) - 1) / day S.1 i + 1) * day S.1 i := by
            rw [Nat.mul_comm]
            exact Nat.lt_mul_div_succ _ q2
          rw [Nat.succ_mul] at hd2
          have hd3 : (swt (v_lo S.1 i) - 1) / day S.1 i ≤ 792 := Nat.le_trans (Nat.div_le_self _ _) (by omega)
          have e1 : nI (swt (v_lo S.1 i)) - nI 1 = nI (swt (v_lo S.1 i) - 1) := pk_sub (by omega)
          have e2 : nI (swt (v_lo S.1 i) - 1) / nI (day S.1 i) = nI ((swt (v_lo S.1 i) - 1) / day S.1 i) := pk_div (by omega) q2 (by omega)
          generalize hwd : (swt (v_lo S.1 i) - 1) / day S.1 i = wd at hd1 hd2 hd3 e2
          have hl' : day S.1 i = cum S.1 i (24 * 1 + 0) := by rw [cum_d hok.1]; show _ = 1 * day S.1 i + 0; omega
          obtain ⟨H', hb', hH'⟩ := isH_ex (A := S.1) (m := i) (l := swt (v_lo S.1 i) - wd * day S.1 i) (24 * 1 + 0) (by rw [← hl']; omega)
          have hU := isH_d (d := wd) hok.1 (by omega) hH' (by omega)
          rw [show wd * day S.1 i + (swt (v_lo S.1 i) - wd * day S.1 i) = swt (v_lo S.1 i) by omega] at hU
          have hHH := isH_one hH2 hU
          have X : J MX3_doneIn Φ 0 0 89 [(0, .ref 0), (1, .int (nI i)), (2, .int (nI 1)), (3, .ref (16 + 3 * i)), (4, .int (nI (swt (v_lo S.1 i)))), (5, .int (nI (day S.1 i))), (6, .int (nI wd))] [.int (nI (swt (v_lo S.1 i) - wd * day S.1 i)), .ref 0, .int (nI wd * 24)] (clv (vil S.1 z) c (fl, cs, rowr S.1 i 24 rt) (cX sl sv y)) := by
            refine J.callR [.int (nI wd * 24)] (c_X3_hoursUntilGround (m := i) hok hi (by omega) (by omega) hrt hH' (by omega)) kX3_hoursUntilGround mRX3_202 dX3_doneIn_89 (by decide) rfl rfl (Nat.le_of_ble_eq_true rfl) rfl (ci := 3) rfl rfl ?_
            refine J.run csX3_doneIn 5 [] ?_
            refine hΦ.f (cRel_r h (rowr S.1 i 24 rt)) ?_ rfl
            show nI wd * nI 24 + nI H' = _
            rw [ev, n_mul, nI_add, hHH]
            congr 1
            omega
          refine J.run csX3_doneIn 20 [(89, 7)] ?_
          refine ⟨fun _ => ?_, fun q => absurd q (by decide)⟩
          refine ⟨fun q => absurd ((n_eq0 (by omega)).mp q) (by omega), ?_⟩
          have e12 : (nI (swt (v_lo S.1 i)) - nI 1) / nI (day S.1 i) = nI wd := by rw [e1, e2]
          have e3 : nI (swt (v_lo S.1 i)) - (nI (swt (v_lo S.1 i)) - nI 1) / nI (day S.1 i) * nI (day S.1 i) = nI (swt (v_lo S.1 i) - wd * day S.1 i) := by
            rw [e12, n_mul, pk_sub (by omega)]
          have X2 := J.cast X (lv' := [(0, .ref 0), (1, .int (nI i)), (2, .int (nI 1)), (3, .ref (16 + 3 * i)), (4, .int (nI (swt (v_lo S.1 i)))), (5, .int (nI (day S.1 i))), (6, .int ((nI (swt (v_lo S.1 i)) - nI 1) / nI (day S.1 i)))]) (st' := [.int (nI (swt (v_lo S.1 i)) - (nI (swt (v_lo S.1 i)) - nI 1) / nI (day S.1 i) * nI (day S.1 i)), .ref 0, .int ((nI (swt (v_lo S.1 i)) - nI 1) / nI (day S.1 i) * 24)]) (by rw [e12]) (by rw [e3, e12]) rfl
          exact X2
      · have q2 : ¬ 0 < nI (day S.1 i) := q2
        rw [n_gt0 (by omega)] at q2
        refine J.run csX3_doneIn 5 [] ?_
        exact hΦ.f (cRel_r h (rowr S.1 i 24 rt)) ((if_neg q).trans (if_pos (by omega))).symm rfl
    · have q : nI (swt (v_lo S.1 i)) = 0 := q
      rw [n_eq0 (by omega)] at q
      exact hΦ.f h (if_pos q).symm rfl
  have hcm : i = 0 ∨ i = 1 ∨ i = 2 := by omega
  rcases hcm with rfl | rfl | rfl
  · refine J.run csX3_doneIn 20 [] ?_
    refine ⟨vp_n hi (by decide), ?_⟩
    refine J.callRV [] [16, 17, 18] (c_X0_sacksWaiting hmk (hz 0 hi)) kX0_sacksWaiting mRX3_99 dX3_doneIn_22 (by decide) rfl rfl rfl (Nat.le_of_ble_eq_true rfl) (i0 := 0) rfl (ci := 0) rfl rfl ?_
    exact D
  · refine J.run csX3_doneIn 20 [] ?_
    refine ⟨vp_n hi (by decide), ?_⟩
    refine J.callRV [] [19, 20, 21] (c_X0_sacksWaiting hmk (hz 1 hi)) kX0_sacksWaiting mRX3_99 dX3_doneIn_22 (by decide) rfl rfl rfl (Nat.le_of_ble_eq_true rfl) (i0 := 0) rfl (ci := 0) rfl rfl ?_
    exact D
  · refine J.run csX3_doneIn 20 [] ?_
    refine ⟨vp_n hi (by decide), ?_⟩
    refine J.callRV [] [22, 23, 24] (c_X0_sacksWaiting hmk (hz 2 hi)) kX0_sacksWaiting mRX3_99 dX3_doneIn_22 (by decide) rfl rfl rfl (Nat.le_of_ble_eq_true rfl) (i0 := 0) rfl (ci := 0) rfl rfl ?_
    exact D
theorem c_X3_doneIn {S : aS} {K : cK} {y : j_H} (h : cRel S K) (a b : Int32) : Ct MX3_doneIn 2 12 [.ref 0, .int a, .int b] (clw K y) (cQ eI eA y (rDone S a b)) := by
  refine Ct.of rfl rfl (by decide +kernel) rfl (Nat.le_of_ble_eq_true rfl) ?_
  refine J.run csX3_doneIn 5 [] ?_
  refine J.ckI 3 rfl kX3_needIndex mRX3_45 dX3_doneIn_2 (by decide) (Nat.le_of_ble_eq_true rfl) ⟨rfl, by decide⟩ (fun q => cQ_1 h (if_pos q)) (fun i hi ea q1 => ?_)
  refine J.run csX3_doneIn 5 [] ?_
  refine J.ckR 0 1 rfl kX3_needRange mRX3_49 dX3_doneIn_8 (by decide) (Nat.le_of_ble_eq_true rfl) ⟨rfl, rfl, by decide⟩ (fun q => cQ_2 h ((if_neg q1).trans (if_pos q))) (fun w _ hw eb q2 => ?_)
  have er : rDone S a b = (0, S, doV S.1 i) := by
    unfold rDone
    rw [if_neg q1, if_neg q2, ea, cN_n (by omega)]
  subst ea eb
  exact b_X3_doneIn h hi hw (fun K hK => cQ_L er hK)
theorem c_X3_doneIn0 {S : aS} {K : cK} {y : j_H} (h : cRel S K) {i w : Nat} (hi : i < 3) (hw : w ≤ 1) : Ct MX3_doneIn 0 0 [.ref 0, .int (nI i), .int (nI w)] (clw K y) (cL S y (doV S.1 i)) := by
  refine Ct.of rfl rfl (by decide +kernel) rfl (Nat.le_of_ble_eq_true rfl) ?_
  refine J.run csX3_doneIn 5 [] ?_
  refine J.okI kX3_needIndex mRX3_45 dX3_doneIn_2 (by decide) (Nat.le_of_ble_eq_true rfl) (nbad hi (by decide)) ?_
  refine J.run csX3_doneIn 5 [] ?_
  refine J.okR kX3_needRange mRX3_49 dX3_doneIn_8 (by decide) (Nat.le_of_ble_eq_true rfl) (nout (Nat.zero_le _) hw (by decide)) ?_
  exact b_X3_doneIn h hi hw (fun K hK => cL_L hK)
