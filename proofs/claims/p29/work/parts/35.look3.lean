/-! ifPassed, turnsIn, mainVane, turnShare -/
theorem n_ne24 : ¬ (24 : Int32) = 0 := by decide
theorem n_div24 {a : Nat} (h : a < 2 ^ 31) : nI a / 24 = nI (a / 24) := pk_div (d := 24) h (by decide) (by decide)
theorem n_rem24 {a : Nat} (h : a < 2 ^ 31) : nI a - nI a / 24 * 24 = nI (a % 24) := pk_rem (d := 24) h (by decide) (by decide)
def pF (A : aV) (o n : Nat) : Nat → Nat
  | 0 => 0
  | m + 1 => pF A o n m + grF o (cum A m n) (v_lo A m)
def rIf (S : aS) (a b : Int32) : aR := if a < 0 ∨ nI 5 ≤ a then (1, S, 0) else if b < nI 1 ∨ nI 99 < b then (2, S, 0) else (0, S, nI (pF S.1 (cN a) (cN b) 3))
theorem cum_n {A : aV} (h : v_ho A < 24) (m n : Nat) : cum A m n = n / 24 * day A m + cum A m (n % 24) := by
  rw [← cum_d h, show 24 * (n / 24) + n % 24 = n from Nat.div_add_mod n 24]
theorem b_X3_ifPassed {Φ : j_F} {S : aS} {K : cK} {y : j_H} (h : cRel S K) {i w : Nat} (hi : i < 5) (hw1 : 1 ≤ w) (hw : w ≤ 99) (hΦ : hE Φ S y (nI (pF S.1 i w 3))) : J MX3_ifPassed Φ 0 0 12 [(0, .ref 0), (1, .int (nI i)), (2, .int (nI w))] [] (clw K y) := by
  obtain ⟨⟨A, z⟩, c, ⟨fl, cs, rt⟩, sl, sv⟩ := K
  have hA : A = S.1 := h.1.1
  subst hA
  have hok := h.1.2.1
  have hho := hok.1
  have hz : vRel S.1 z := h.1.2.2
  have I : ∀ (m : Nat) (g : Nat) (rt : Nat → Int32), m < 3 → J MX3_ifPassed Φ 0 0 100 [(0, .ref 0), (1, .int (nI i)), (2, .int (nI w)), (3, .int (nI g)), (4, .int (nI m)), (5, .ref (16 + 3 * m)), (6, .int (nI (day S.1 m))), (7, .int (nI (cum S.1 m w)))] [] (clv (vil S.1 z) c (fl, cs, rowr S.1 m 24 rt) (cX sl sv y)) →
      ∀ (d k : Nat), k + d = w % 24 → J MX3_ifPassed Φ 0 0 62 [(0, .ref 0), (1, .int (nI i)), (2, .int (nI w)), (3, .int (nI g)), (4, .int (nI m)), (5, .ref (16 + 3 * m)), (6, .int (nI (day S.1 m))), (7, .int (nI (w / 24 * day S.1 m + cum S.1 m k))), (8, .int (nI k))] [] (clv (vil S.1 z) c (fl, cs, rowr S.1 m 24 rt) (cX sl sv y)) := by
    intro m g rt hm G d
    induction d with
    | zero =>
      intro k hk
      refine J.run csX3_ifPassed 20 [(100, 8)] ?_
      refine ⟨n_ne24, fun _ => ?_, fun q => ?_⟩
      · rw [cum_n hho, ← show k = w % 24 by omega] at G
        exact G
      · have q : ¬ nI w - nI w / 24 * 24 ≤ nI k := q
        rw [n_rem24 (by omega), n_le (by omega) (by omega)] at q
        omega
    | succ d ih =>
      intro k hk
      have ih' := ih (k + 1) (by omega)
      rw [cum_s, nI_succ k, ← Nat.add_assoc, ← nI_add _ (rat S.1 m ((v_ho S.1 + k) % 24))] at ih'
      have er : rowr S.1 m 24 rt (nI ((v_ho S.1 + k) % 24)).toNatClampNeg = nI (rat S.1 m ((v_ho S.1 + k) % 24)) := by
        rw [cl_n (by omega)]
        exact if_pos (Nat.mod_lt _ (by decide))
      have e1 : nI (v_ho S.1) + nI k - (nI (v_ho S.1) + nI k) / 24 * 24 = nI ((v_ho S.1 + k) % 24) := by
        rw [nI_add, n_rem24 (by omega)]
      refine J.run csX3_ifPassed 40 [(62, 9)] ?_
      refine ⟨n_ne24, fun q => ?_, fun _ => ⟨n_ne24, ?_, ?_⟩⟩
      · have q : nI w - nI w / 24 * 24 ≤ nI k := q
        rw [n_rem24 (by omega), n_le (by omega) (by omega)] at q
        omega
      · show vp_in (nI (v_ho S.1) + nI k - (nI (v_ho S.1) + nI k) / 24 * 24) 24
        rw [e1]
        exact vp_n (Nat.mod_lt _ (by decide)) (by decide)
      · rw [← er, ← e1] at ih'
        exact ih'
  have E : ∀ (rt : Nat → Int32), J MX3_ifPassed Φ 0 0 17 [(0, .ref 0), (1, .int (nI i)), (2, .int (nI w)), (3, .int (nI (pF S.1 i w 3))), (4, .int (nI 3))] [] (clv (vil S.1 z) c (fl, cs, rt) (cX sl sv y)) := by
    intro rt
    refine J.run csX3_ifPassed 20 [] ?_
    refine ⟨fun _ => hΦ.f (cRel_r h rt) rfl rfl, fun q => absurd (by decide) q⟩
  have L2 : ∀ (rt : Nat → Int32), J MX3_ifPassed Φ 0 0 17 [(0, .ref 0), (1, .int (nI i)), (2, .int (nI w)), (3, .int (nI (pF S.1 i w 2))), (4, .int (nI 2))] [] (clv (vil S.1 z) c (fl, cs, rt) (cX sl sv y)) := by
    intro rt
    refine J.run csX3_ifPassed 15 [] ?_
    refine ⟨fun q => absurd q (by decide), fun _ => ⟨vp_c (by decide), ?_⟩⟩
    refine J.fill [] 2 hok (by decide) kX1_fillRates mRX3_182 dX3_ifPassed_45 (by decide) rfl (Nat.le_of_ble_eq_true rfl) ?_
    have hmk := hok.2.2.2.2.2 2 (by decide)
    have G : J MX3_ifPassed Φ 0 0 100 [(0, .ref 0), (1, .int (nI i)), (2, .int (nI w)), (3, .int (nI (pF S.1 i w 2))), (4, .int (nI 2)), (5, .ref (16 + 3 * 2)), (6, .int (nI (day S.1 2))), (7, .int (nI (cum S.1 2 w)))] [] (clv (vil S.1 z) c (fl, cs, rowr S.1 2 24 rt) (cX sl sv y)) := by
      have hcu := cum_le hok (m := 2) (by decide) w
      refine J.run csX3_ifPassed 4 [] ?_
      refine J.callRV [.int (nI (pF S.1 i w 2))] [22, 23, 24] (c_X0_flourOf hi (by omega) hmk (hz 2 (by decide))) kX0_flourOf mRX3_205 dX3_ifPassed_106 (by decide) rfl rfl rfl (Nat.le_of_ble_eq_true rfl) (i0 := 0) rfl (ci := 0) rfl rfl ?_
      refine J.run csX3_ifPassed 6 [(17, 5)] ?_
      have X := E (rowr S.1 2 24 rt)
      rw [show pF S.1 i w 3 = pF S.1 i w 2 + grF i (cum S.1 2 w) (v_lo S.1 2) from rfl, ← nI_add] at X
      exact X
    have Y := I 2 (pF S.1 i w 2) rt (by decide) G (w % 24) 0 (Nat.zero_add _)
    rw [show cum S.1 2 0 = 0 from rfl, show w / 24 * day S.1 2 + 0 = w / 24 * day S.1 2 from rfl, ← n_mul (w / 24) (day S.1 2), ← n_div24 (a := w) (by omega)] at Y
    refine J.run csX3_ifPassed 20 [(62, 9)] ?_
    exact ⟨n_ne24, Y⟩
  have L1 : ∀ (rt : Nat → Int32), J MX3_ifPassed Φ 0 0 17 [(0, .ref 0), (1, .int (nI i)), (2, .int (nI w)), (3, .int (nI (pF S.1 i w 1))), (4, .int (nI 1))] [] (clv (vil S.1 z) c (fl, cs, rt) (cX sl sv y)) := by
    intro rt
    refine J.run csX3_ifPassed 15 [] ?_
    refine ⟨fun q => absurd q (by decide), fun _ => ⟨vp_c (by decide), ?_⟩⟩
    refine J.fill [] 1 hok (by decide) kX1_fillRates mRX3_182 dX3_ifPassed_45 (by decide) rfl (Nat.le_of_ble_eq_true rfl) ?_
    have hmk := hok.2.2.2.2.2 1 (by decide)
    have G : J MX3_ifPassed Φ 0 0 100 [(0, .ref 0), (1, .int (nI i)), (2, .int (nI w)), (3, .int (nI (pF S.1 i w 1))), (4, .int (nI 1)), (5, .ref (16 + 3 * 1)), (6, .int (nI (day S.1 1))), (7, .int (nI (cum S.1 1 w)))] [] (clv (vil S.1 z) c (fl, cs, rowr S.1 1 24 rt) (cX sl sv y)) := by
      have hcu := cum_le hok (m := 1) (by decide) w
      refine J.run csX3_ifPassed 4 [] ?_
      refine J.callRV [.int (nI (pF S.1 i w 1))] [19, 20, 21] (c_X0_flourOf hi (by omega) hmk (hz 1 (by decide))) kX0_flourOf mRX3_205 dX3_ifPassed_106 (by decide) rfl rfl rfl (Nat.le_of_ble_eq_true rfl) (i0 := 0) rfl (ci := 0) rfl rfl ?_
      refine J.run csX3_ifPassed 6 [(17, 5)] ?_
      have X := L2 (rowr S.1 1 24 rt)
      rw [show pF S.1 i w 2 = pF S.1 i w 1 + grF i (cum S.1 1 w) (v_lo S.1 1) from rfl, ← nI_add] at X
      exact X
    have Y := I 1 (pF S.1 i w 1) rt (by decide) G (w % 24) 0 (Nat.zero_add _)
    rw [show cum S.1 1 0 = 0 from rfl, show w / 24 * day S.1 1 + 0 = w / 24 * day S.1 1 from rfl, ← n_mul (w / 24) (day S.1 1), ← n_div24 (a := w) (by omega)] at Y
    refine J.run csX3_ifPassed 20 [(62, 9)] ?_
    exact ⟨n_ne24, Y⟩
  have L0 : ∀ (rt : Nat → Int32), J MX3_ifPassed Φ 0 0 17 [(0, .ref 0), (1, .int (nI i)), (2, .int (nI w)), (3, .int (nI (pF S.1 i w 0))), (4, .int (nI 0))] [] (clv (vil S.1 z) c (fl, cs, rt) (cX sl sv y)) := by
    intro rt
    refine J.run csX3_ifPassed 15 [] ?_
    refine ⟨fun q => absurd q (by decide), fun _ => ⟨vp_c (by decide), ?_⟩⟩
    refine J.fill [] 0 hok (by decide) kX1_fillRates mRX3_182 dX3_ifPassed_45 (by decide) rfl (Nat.le_of_ble_eq_true rfl) ?_
    have hmk := hok.2.2.2.2.2 0 (by decide)
    have G : J MX3_ifPassed Φ 0 0 100 [(0, .ref 0), (1, .int (nI i)), (2, .int (nI w)), (3, .int (nI (pF S.1 i w 0))), (4, .int (nI 0)), (5, .ref (16 + 3 * 0)), (6, .int (nI (day S.1 0))), (7, .int (nI (cum S.1 0 w)))] [] (clv (vil S.1 z) c (fl, cs, rowr S.1 0 24 rt) (cX sl sv y)) := by
      have hcu := cum_le hok (m := 0) (by decide) w
      refine J.run csX3_ifPassed 4 [] ?_
      refine J.callRV [.int (nI (pF S.1 i w 0))] [16, 17, 18] (c_X0_flourOf hi (by omega) hmk (hz 0 (by decide))) kX0_flourOf mRX3_205 dX3_ifPassed_106 (by decide) rfl rfl rfl (Nat.le_of_ble_eq_true rfl) (i0 := 0) rfl (ci := 0) rfl rfl ?_
      refine J.run csX3_ifPassed 6 [(17, 5)] ?_
      have X := L1 (rowr S.1 0 24 rt)
      rw [show pF S.1 i w 1 = pF S.1 i w 0 + grF i (cum S.1 0 w) (v_lo S.1 0) from rfl, ← nI_add] at X
      exact X
    have Y := I 0 (pF S.1 i w 0) rt (by decide) G (w % 24) 0 (Nat.zero_add _)
    rw [show cum S.1 0 0 = 0 from rfl, show w / 24 * day S.1 0 + 0 = w / 24 * day S.1 0 from rfl, ← n_mul (w / 24) (day S.1 0), ← n_div24 (a := w) (by omega)] at Y
    refine J.run csX3_ifPassed 20 [(62, 9)] ?_
    exact ⟨n_ne24, Y⟩
  refine J.run csX3_ifPassed 10 [(17, 5)] ?_
  exact L0 rt
theorem c_X3_ifPassed {S : aS} {K : cK} {y : j_H} (h : cRel S K) (a b : Int32) : Ct MX3_ifPassed 2 12 [.ref 0, .int a, .int b] (clw K y) (cQ eI eA y (rIf S a b)) := by
  refine Ct.of rfl rfl (by decide +kernel) rfl (Nat.le_of_ble_eq_true rfl) ?_
  refine J.run csX3_ifPassed 5 [] ?_
  refine J.ckI 5 rfl kX3_needIndex mRX3_45 dX3_ifPassed_2 (by decide) (Nat.le_of_ble_eq_true rfl) ⟨rfl, by decide⟩ (fun q => cQ_1 h (if_pos q)) (fun i hi ea q1 => ?_)
  refine J.run csX3_ifPassed 5 [] ?_
  refine J.ckR 1 99 rfl kX3_needRange mRX3_49 dX3_ifPassed_9 (by decide) (Nat.le_of_ble_eq_true rfl) ⟨rfl, rfl, by decide⟩ (fun q => cQ_2 h ((if_neg q1).trans (if_pos q))) (fun w hw1 hw eb q2 => ?_)
  have er : rIf S a b = (0, S, nI (pF S.1 i w 3)) := by
    unfold rIf
    rw [if_neg q1, if_neg q2, ea, eb, cN_n (by omega), cN_n (by omega)]
  subst ea eb
  exact b_X3_ifPassed h hi hw1 hw (fun K hK => cQ_L er hK)
theorem c_X3_ifPassed0 {S : aS} {K : cK} {y : j_H} (h : cRel S K) {i w : Nat} (hi : i < 5) (hw1 : 1 ≤ w) (hw : w ≤ 99) : Ct MX3_ifPassed 0 0 [.ref 0, .int (nI i), .int (nI w)] (clw K y) (cL S y (nI (pF S.1 i w 3))) := by
  refine Ct.of rfl rfl (by decide +kernel) rfl (Nat.le_of_ble_eq_true rfl) ?_
  refine J.run csX3_ifPassed 5 [] ?_
  refine J.okI kX3_needIndex mRX3_45 dX3_ifPassed_2 (by decide) (Nat.le_of_ble_eq_true rfl) (nbad hi (by decide)) ?_
  refine J.run csX3_ifPassed 5 [] ?_
  refine J.okR kX3_needRange mRX3_49 dX3_ifPassed_9 (by decide) (Nat.le_of_ble_eq_true rfl) (nout hw1 hw (by decide)) ?_
  exact b_X3_ifPassed h hi hw1 hw (fun K hK => cL_L hK)
def trF (A : aV) : Nat → Nat → Int32
  | 0, _ => -1
  | d + 1, k => if trn A ((v_ho A + k) % 24) then nI k else trF A d (k + 1)
theorem c_X3_turnsIn0 {S : aS} {K : cK} {y : j_H} (h : cRel S K) : Ct MX3_turnsIn 0 0 [.ref 0] (clw K y) (cL S y (trF S.1 24 0)) := by
  obtain ⟨⟨A, z⟩, c, ⟨fl, cs, rt⟩, sl, sv⟩ := K
  have hA : A = S.1 := h.1.1
  subst hA
  have hok := h.1.2.1
  have hho := hok.1
  refine Ct.of rfl rfl (by decide +kernel) rfl (Nat.le_of_ble_eq_true rfl) ?_
  have L : ∀ (d k : Nat), k + d = 24 → trF S.1 d k = trF S.1 24 0 → J MX3_turnsIn (cL S y (trF S.1 24 0)) 0 0 2 [(0, .ref 0), (1, .int (nI k))] [] (clv (vil S.1 z) c (fl, cs, rt) (cX sl sv y)) := by
    intro d
    induction d with
    | zero =>
      intro k hk e
      refine J.run csX3_turnsIn 20 [] ?_
      refine ⟨fun _ => cL_i h e rfl, fun q => absurd ((n_le (a := 24) (b := k) (by decide) (by omega)).mpr (by omega)) q⟩
    | succ d ih =>
      intro k hk e
      have e1 : nI (v_ho S.1) + nI k - (nI (v_ho S.1) + nI k) / 24 * 24 = nI ((v_ho S.1 + k) % 24) := by
        rw [nI_add, n_rem24 (by omega)]
      have hle := vdi_le S.1 ((v_ho S.1 + k) % 24)
      have X : J MX3_turnsIn (cL S y (trF S.1 24 0)) 0 0 24 [(0, .ref 0), (1, .int (nI k))] [.int (nI ((v_ho S.1 + k) % 24)), .ref 1] (clv (vil S.1 z) c (fl, cs, rt) (cX sl sv y)) := by
        refine J.callRV [] R1 (c_X1_verdictIn (z := z) (h := (v_ho S.1 + k) % 24) hok (Nat.mod_lt _ (by decide))) kX1_verdictIn mRX3_167 dX3_turnsIn_24 (by decide) rfl rfl rfl (Nat.le_of_ble_eq_true rfl) (i0 := 0) rfl (ci := 1) rfl rfl ?_
        refine J.run csX3_turnsIn 10 [(2, 2)] ?_
        refine ⟨fun q => ?_, fun q => ?_⟩
        · have q : ¬ nI (vdi S.1 ((v_ho S.1 + k) % 24)) = 0 := q
          rw [n_eq0 (by omega)] at q
          have ih' := ih (k + 1) (by omega) (by
            rw [← e]
            exact (if_neg (by unfold trn; rw [decide_eq_true_iff]; exact q)).symm)
          rw [nI_succ] at ih'
          exact ih'
        · have q : nI (vdi S.1 ((v_ho S.1 + k) % 24)) = 0 := q
          rw [n_eq0 (by omega)] at q
          refine cL_i h ?_ rfl
          rw [← e]
          exact (if_pos (by unfold trn; exact decide_eq_true q)).symm
      refine J.run csX3_turnsIn 20 [(24, 2)] ?_
      refine ⟨fun q => absurd ((n_le (a := 24) (b := k) (by decide) (by omega)).mp q) (by omega), fun _ => ⟨n_ne24, ?_⟩⟩
      rw [← e1] at X
      exact X
  refine J.run csX3_turnsIn 20 [(2, 2)] ?_
  exact L 24 0 (Nat.zero_add _) rfl
def mvF (A : aV) : Nat → Nat
  | 0 => 0
  | n + 1 => if htb A (mvF A n) < htb A (n + 1) then n + 1 else mvF A n
theorem mvF_le (A : aV) : ∀ n, mvF A n ≤ n
  | 0 => Nat.le_refl _
  | n + 1 => by
    have := mvF_le A n
    unfold mvF
    split <;> omega
theorem htb_le (A : aV) (v : Nat) : htb A v ≤ 24 := cntN_le _ _
theorem c_X3_mainVane0 {S : aS} {K : cK} {y : j_H} (h : cRel S K) : Ct MX3_mainVane 0 0 [.ref 0] (clw K y) (cL S y (nI (mvF S.1 5))) := by
  obtain ⟨⟨A, z⟩, c, ⟨fl, cs, rt⟩, sl, sv⟩ := K
  have hA : A = S.1 := h.1.1
  subst hA
  have hok := h.1.2.1
  refine Ct.of rfl rfl (by decide +kernel) rfl (Nat.le_of_ble_eq_true rfl) ?_
  have L : ∀ (d k : Nat), k + d = 5 → J MX3_mainVane (cL S y (nI (mvF S.1 5))) 0 0 13 [(0, .ref 0), (1, .int (nI (mvF S.1 k))), (2, .int (nI (htb S.1 (mvF S.1 k)))), (3, .int (nI (k + 1)))] [] (clv (vil S.1 z) c (fl, cs, rt) (cX sl sv y)) := by
    intro d
    induction d with
    | zero =>
      intro k hk
      refine J.run csX3_mainVane 20 [] ?_
      refine ⟨fun _ => cL_i h (by rw [← show k = 5 by omega]) rfl, fun q => absurd ((n_le (a := 6) (b := k + 1) (by decide) (by omega)).mpr (by omega)) q⟩
    | succ d ih =>
      intro k hk
      have ih' := ih (k + 1) (by omega)
      have h1 := htb_le S.1 (mvF S.1 k)
      have h2 := htb_le S.1 (k + 1)
      have em : mvF S.1 (k + 1) = if htb S.1 (mvF S.1 k) < htb S.1 (k + 1) then k + 1 else mvF S.1 k := rfl
      refine J.run csX3_mainVane 8 [] ?_
      refine ⟨fun q => absurd ((n_le (a := 6) (b := k + 1) (by decide) (by omega)).mp q) (by omega), fun _ => ?_⟩
      refine J.callRV [] R1 (c_X1_hoursTurnedBy (z := z) (v := k + 1) hok (by omega)) kX1_hoursTurnedBy mRX3_176 dX3_mainVane_24 (by decide) rfl rfl rfl (Nat.le_of_ble_eq_true rfl) (i0 := 0) rfl (ci := 1) rfl rfl ?_
      refine J.run csX3_mainVane 20 [(13, 4)] ?_
      refine ⟨fun q => ?_, fun q => ?_⟩
      · have q : nI (htb S.1 (k + 1)) ≤ nI (htb S.1 (mvF S.1 k)) := q
        rw [n_le (by omega) (by omega)] at q
        rw [em, if_neg (by omega), nI_succ (k + 1)] at ih'
        exact ih'
      · have q : ¬ nI (htb S.1 (k + 1)) ≤ nI (htb S.1 (mvF S.1 k)) := q
        rw [n_le (by omega) (by omega)] at q
        rw [em, if_pos (by omega), nI_succ (k + 1)] at ih'
        exact ih'
  refine J.run csX3_mainVane 5 [] ?_
  refine J.callRV [] R1 (c_X1_hoursTurnedBy (z := z) (v := 0) hok (by decide)) kX1_hoursTurnedBy mRX3_176 dX3_mainVane_7 (by decide) rfl rfl rfl (Nat.le_of_ble_eq_true rfl) (i0 := 0) rfl (ci := 1) rfl rfl ?_
  refine J.run csX3_mainVane 5 [(13, 4)] ?_
  exact L 5 0 (Nat.zero_add _)
