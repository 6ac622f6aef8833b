/-! Which vane matters; when the mills turn; when sacks are ground. -/
theorem c_X4_matters {A : aV} {t : mT} {z : Nat → Int32} {r : mR} {v : Nat} (hA : vOk A) (hz : zRel A z) (hv : v < 6) : Ct MX4_matters 0 0 [.ref 0, .int (nI v)] (mw t z r) (jd (.inl (some (.int (nI (htb A v))))) (mw t z r)) := by
  obtain ⟨fA, fz, fb⟩ := flipz hA hz hv
  generalize hZ : upd z (51 + 4 * v) (nI 1 - z (51 + 4 * v)) = Z at fz fb
  refine Ct.of rfl rfl (by decide +kernel) rfl (Nat.le_of_ble_eq_true rfl) ?_
  generalize hΦ : jd (.inl (some (.int (nI (htb A v))))) (mw t z r) = Φ
  have hcl : (nI (51 + 4 * v)).toNatClampNeg = 51 + 4 * v := cl_n (by omega)
  have L : ∀ (d h : Nat), h + d = 24 → J MX4_matters Φ 0 0 14 [(0, .ref 0), (1, .int (nI v)), (2, .int (nI (51 + 4 * v))), (3, .int (nI (cntN (fun h => trn A h != trn (flip A v) h) h))), (4, .int (nI h))] [] (mw t z r) := by
    intro d
    induction d with
    | zero =>
      intro h hh
      refine J.run csX4_matters 20 [] ?_
      refine ⟨fun _ => ?_, fun q => absurd ((n_le (a := 24) (b := h) (by omega) (by omega)).mpr (by omega)) q⟩
      rw [← hΦ]
      exact jd_i (by rw [show h = 24 by omega]; rfl) rfl
    | succ d ih =>
      intro h hh
      have hh24 : h < 24 := by omega
      have hle := vdi_le A h
      have hle2 := vdi_le (flip A v) h
      have ih' := ih (h + 1) (by omega)
      rw [nI_succ h] at ih'
      generalize hg : cntN (fun h => trn A h != trn (flip A v) h) h = g
      have E : ∀ (b x : Int32), J MX4_matters Φ 0 0 14 [(0, .ref 0), (1, .int (nI v)), (2, .int (nI (51 + 4 * v))), (3, .int (nI g + x)), (4, .int (nI h + 1))] [] (mw t z r) → J MX4_matters Φ 0 0 76 [(0, .ref 0), (1, .int (nI v)), (2, .int (nI (51 + 4 * v))), (3, .int (nI g)), (4, .int (nI h)), (5, .int b)] [.int x, .int (nI g)] (mw t Z r) := by
        intro b x k
        refine J.run csX4_matters 20 [(14, 5)] ?_
        refine ⟨vp_n (by omega) (by decide), vp_n (by omega) (by decide), ?_⟩
        have key : upd Z (nI (51 + 4 * v)).toNatClampNeg (nI 1 - Z (nI (51 + 4 * v)).toNatClampNeg) = z := by
          rw [hcl]
          exact fb
        exact J.cast k rfl rfl (congrArg (fun f => mw t f r) key.symm)
      have N0 : trn A h = trn (flip A v) h → J MX4_matters Φ 0 0 14 [(0, .ref 0), (1, .int (nI v)), (2, .int (nI (51 + 4 * v))), (3, .int (nI g + nI 0)), (4, .int (nI h + 1))] [] (mw t z r) := fun e => by
        rw [cntN_n (p := fun h => trn A h != trn (flip A v) h) (by rw [e]; cases trn (flip A v) h <;> rfl), hg] at ih'
        rw [nI_add]
        exact ih'
      have N1 : trn A h ≠ trn (flip A v) h → J MX4_matters Φ 0 0 14 [(0, .ref 0), (1, .int (nI v)), (2, .int (nI (51 + 4 * v))), (3, .int (nI g + 1)), (4, .int (nI h + 1))] [] (mw t z r) := fun e => by
        rw [cntN_s (p := fun h => trn A h != trn (flip A v) h) (by cases e1 : trn A h <;> cases e2 : trn (flip A v) h <;> first | rfl | exact absurd (e1.trans e2.symm) e), hg] at ih'
        exact ih'
      have G : J MX4_matters Φ 0 0 37 [(0, .ref 0), (1, .int (nI v)), (2, .int (nI (51 + 4 * v))), (3, .int (nI g)), (4, .int (nI h)), (5, .int (if trn A h = true then 1 else 0))] [] (mw t z r) := by
        have G2 : J MX4_matters Φ 0 0 55 [(0, .ref 0), (1, .int (nI v)), (2, .int (nI (51 + 4 * v))), (3, .int (nI g)), (4, .int (nI h)), (5, .int (if trn A h = true then 1 else 0))] [.int (nI h), .ref 0, .int (nI g)] (mw t Z r) := by
          refine J.callR [.int (nI g)] (c_X4_whyNot fA fz hh24) kX4_whyNot mRX4_59 dX4_matters_55 (by decide) rfl rfl (Nat.le_of_ble_eq_true rfl) (i0 := 0) rfl (ci := 4) rfl rfl ?_
          refine J.run csX4_matters 1 [] ?_
          refine ⟨fun q => ?_, fun q => ?_⟩
          · have q : ¬ nI (vdi (flip A v) h) = 0 := q
            rw [n_eq0 (by omega)] at q
            have e2 : trn (flip A v) h = false := decide_eq_false q
            cases e1 : trn A h with
            | true =>
              refine J.run csX4_matters 6 [(76, 6)] ?_
              exact ⟨fun q => absurd q (by decide), fun _ => E _ _ (N1 (by rw [e1, e2]; decide))⟩
            | false =>
              refine J.run csX4_matters 6 [(76, 6)] ?_
              exact ⟨fun _ => E _ _ (N0 (by rw [e1, e2])), fun q => absurd rfl q⟩
          · have q : nI (vdi (flip A v) h) = 0 := q
            rw [n_eq0 (by omega)] at q
            have e2 : trn (flip A v) h = true := decide_eq_true q
            cases e1 : trn A h with
            | true =>
              refine J.run csX4_matters 6 [(76, 6)] ?_
              exact ⟨fun _ => E _ _ (N0 (by rw [e1, e2])), fun q => absurd rfl q⟩
            | false =>
              refine J.run csX4_matters 6 [(76, 6)] ?_
              exact ⟨fun q => absurd q (by decide), fun _ => E _ _ (N1 (by rw [e1, e2]; decide))⟩
        refine J.run csX4_matters 20 [] ?_
        refine ⟨vp_n (by omega) (by decide), vp_n (by omega) (by decide), ?_⟩
        have key : upd z (nI (51 + 4 * v)).toNatClampNeg (nI 1 - z (nI (51 + 4 * v)).toNatClampNeg) = Z := by
          rw [hcl]
          exact hZ
        exact J.cast G2 rfl rfl (congrArg (fun f => mw t f r) key.symm)
      refine J.run csX4_matters 3 [] ?_
      refine ⟨fun q => absurd ((n_le (a := 24) (b := h) (by omega) (by omega)).mp q) (by omega), fun _ => ?_⟩
      refine J.run csX4_matters 20 [] ?_
      refine J.callR [] (c_X4_whyNot hA hz hh24) kX4_whyNot mRX4_59 dX4_matters_24 (by decide) rfl rfl (Nat.le_of_ble_eq_true rfl) (i0 := 0) rfl (ci := 4) rfl rfl ?_
      refine J.run csX4_matters 5 [(37, 6)] ?_
      refine ⟨fun q => ?_, fun q => ?_⟩
      · have q : ¬ nI (vdi A h) = 0 := q
        rw [n_eq0 (by omega)] at q
        rw [show trn A h = false from decide_eq_false q] at G
        exact G
      · have q : nI (vdi A h) = 0 := q
        rw [n_eq0 (by omega)] at q
        rw [show trn A h = true from decide_eq_true q] at G
        exact G
  have X := L 24 0 (Nat.zero_add _)
  have e : nI 48 + nI 4 * nI v + nI 3 = nI (51 + 4 * v) := by
    rw [n_mul, nI_add, nI_add]
    congr 1
    omega
  rw [← e] at X
  refine J.run csX4_matters 20 [(14, 5)] ?_
  exact X
theorem c_X4_findMain {A : aV} {t : mT} {z : Nat → Int32} {r : mR} (hA : vOk A) (hz : zRel A z) : Ct MX4_findMain 0 0 [.ref 0] (mw t z r) (jd (.inl (some (.int (nI (mvF A 5))))) (mw t z r)) := by
  refine Ct.of rfl rfl (by decide +kernel) rfl (Nat.le_of_ble_eq_true rfl) ?_
  generalize hΦ : jd (.inl (some (.int (nI (mvF A 5))))) (mw t z r) = Φ
  have L : ∀ (d k : Nat), k + d = 5 → J MX4_findMain Φ 0 0 4 [(0, .ref 0), (1, .int (nI (mvF A k))), (2, .int (nI (k + 1)))] [] (mw t z r) := by
    intro d
    induction d with
    | zero =>
      intro k hk
      refine J.run csX4_findMain 20 [] ?_
      refine ⟨fun _ => ?_, fun q => absurd ((n_le (a := 6) (b := k + 1) (by omega) (by omega)).mpr (by omega)) q⟩
      rw [← hΦ]
      exact jd_i (by rw [show k = 5 by omega]) rfl
    | succ d ih =>
      intro k hk
      have ih' := ih (k + 1) (by omega)
      have h0 := mvF_le A k
      have h1 := htb_le A (mvF A k)
      have h2 := htb_le A (k + 1)
      have em : mvF A (k + 1) = if htb A (mvF A k) < htb A (k + 1) then k + 1 else mvF A k := rfl
      refine J.run csX4_findMain 3 [] ?_
      refine ⟨fun q => absurd ((n_le (a := 6) (b := k + 1) (by omega) (by omega)).mp q) (by omega), fun _ => ?_⟩
      refine J.run csX4_findMain 20 [] ?_
      refine J.callR [] (c_X4_matters hA hz (show k + 1 < 6 by omega)) kX4_matters mRX4_122 dX4_findMain_12 (by decide) rfl rfl (Nat.le_of_ble_eq_true rfl) (i0 := 0) rfl (ci := 4) rfl rfl ?_
      refine J.run csX4_findMain 20 [] ?_
      refine J.callR [.int (nI (htb A (k + 1)))] (c_X4_matters hA hz (show mvF A k < 6 by omega)) kX4_matters mRX4_122 dX4_findMain_17 (by decide) rfl rfl (Nat.le_of_ble_eq_true rfl) (i0 := 0) rfl (ci := 4) rfl rfl ?_
      refine J.run csX4_findMain 20 [(4, 3)] ?_
      refine ⟨fun q => ?_, fun q => ?_⟩
      · have q : nI (htb A (k + 1)) ≤ nI (htb A (mvF A k)) := q
        rw [n_le (by omega) (by omega)] at q
        rw [em, if_neg (by omega), nI_succ (k + 1)] at ih'
        exact ih'
      · have q : ¬ nI (htb A (k + 1)) ≤ nI (htb A (mvF A k)) := q
        rw [n_le (by omega) (by omega)] at q
        rw [em, if_pos (by omega), nI_succ (k + 1)] at ih'
        exact ih'
  refine J.run csX4_findMain 20 [(4, 3)] ?_
  exact L 5 0 (Nat.zero_add _)
theorem c_X4_turnsNow {A : aV} {t : mT} {z : Nat → Int32} {r : mR} (hA : vOk A) (hz : zRel A z) : Ct MX4_turnsNow 0 0 [.ref 0] (mw t z r) (jd (.inl (some (.int (trF A 24 0)))) (mw t z r)) := by
  have hho := hA.1
  have zh : z 146 = nI (v_ho A) := hz.2.2.2.2.2.1
  refine Ct.of rfl rfl (by decide +kernel) rfl (Nat.le_of_ble_eq_true rfl) ?_
  generalize hΦ : jd (.inl (some (.int (trF A 24 0)))) (mw t z r) = Φ
  have L : ∀ (d k : Nat), k + d = 24 → trF A d k = trF A 24 0 → J MX4_turnsNow Φ 0 0 2 [(0, .ref 0), (1, .int (nI k))] [] (mw t z r) := by
    intro d
    induction d with
    | zero =>
      intro k hk e
      refine J.run csX4_turnsNow 20 [] ?_
      refine ⟨fun _ => ?_, fun q => absurd ((n_le (a := 24) (b := k) (by omega) (by omega)).mpr (by omega)) q⟩
      rw [← hΦ]
      exact jd_i (by rw [← e]; rfl) rfl
    | succ d ih =>
      intro k hk e
      have e1 : z 146 + nI k - (z 146 + nI k) / 24 * 24 = nI ((v_ho A + k) % 24) := by
        rw [zh, nI_add, n_rem24 (by omega)]
      have hle := vdi_le A ((v_ho A + k) % 24)
      have X : J MX4_turnsNow Φ 0 0 22 [(0, .ref 0), (1, .int (nI k))] [.int (nI ((v_ho A + k) % 24)), .ref 0] (mw t z r) := by
        refine J.callR [] (c_X4_whyNot hA hz (h := (v_ho A + k) % 24) (Nat.mod_lt _ (by decide))) kX4_whyNot mRX4_59 dX4_turnsNow_22 (by decide) rfl rfl (Nat.le_of_ble_eq_true rfl) (i0 := 0) rfl (ci := 4) rfl rfl ?_
        refine J.run csX4_turnsNow 10 [(2, 2)] ?_
        refine ⟨fun q => ?_, fun q => ?_⟩
        · have q : ¬ nI (vdi A ((v_ho A + k) % 24)) = 0 := q
          rw [n_eq0 (by omega)] at q
          have ih' := ih (k + 1) (by omega) (by
            rw [← e]
            exact (if_neg (by unfold trn; rw [decide_eq_true_iff]; exact q)).symm)
          rw [nI_succ k] at ih'
          exact ih'
        · have q : nI (vdi A ((v_ho A + k) % 24)) = 0 := q
          rw [n_eq0 (by omega)] at q
          rw [← hΦ]
          refine jd_i ?_ rfl
          rw [← e]
          exact congrArg (fun x => Sum.inl (some (Value.int x))) (if_pos (by unfold trn; exact decide_eq_true q)).symm
      refine J.run csX4_turnsNow 20 [] ?_
      refine ⟨fun q => absurd ((n_le (a := 24) (b := k) (by omega) (by omega)).mp q) (by omega), fun _ => ⟨vp_c (by decide), n_ne24, ?_⟩⟩
      rw [← e1] at X
      exact X
  refine J.run csX4_turnsNow 20 [(2, 2)] ?_
  exact L 24 0 (Nat.zero_add _) rfl
theorem c_X4_doneNow {A : aV} {t : mT} {z : Nat → Int32} {r : mR} {m : Nat} (hA : vOk A) (hz : zRel A z) (hm : m < 3) : Ct MX4_doneNow 0 0 [.ref 0, .int (nI m)] (mw t z r) (jd (.inl (some (.int (doV A m)))) (mw t z r)) := by
  have hho := hA.1
  have zh : z 146 = nI (v_ho A) := hz.2.2.2.2.2.1
  have hmk := hA.2.2.2.2.2 m hm
  have hsw : swt (v_lo A m) ≤ 792 := swt_le hmk.2.1 hmk.2.2
  have hdy := day_le hA hm
  refine Ct.of rfl rfl (by decide +kernel) rfl (Nat.le_of_ble_eq_true rfl) ?_
  generalize hΦ : jd (.inl (some (.int (doV A m)))) (mw t z r) = Φ
  have D : ∀ H, isH A m (swt (v_lo A m)) H → H ≤ 19008 → doV A m = nI H → ∀ (d k : Nat), k + d = H → cum A m k ≤ swt (v_lo A m) ∨ d = 0 → ∀ x : Int32, (k < H → x = nI (swt (v_lo A m) - cum A m k)) → (k = H → ¬ 0 < x) → J MX4_doneNow Φ 0 0 25 [(0, .ref 0), (1, .int (nI m)), (2, .int x), (3, .int (nI (day A m))), (4, .int (nI k))] [] (mw t z r) := by
    intro H hH hb ev d
    induction d with
    | zero =>
      intro k hk _ x _ hx
      have hx := hx (by omega)
      refine J.run csX4_doneNow 20 [] ?_
      refine ⟨fun _ => ?_, fun q => absurd (Int32.not_lt.mp hx) q⟩
      rw [← hΦ]
      exact jd_i (by rw [ev, ← show k = H by omega]) rfl
    | succ d ih =>
      intro k hk _ x hx _
      have hx := hx (by omega)
      subst hx
      have hlt := hH.2 k (by omega)
      have hr := rat_le hA hm (h := (v_ho A + k) % 24) (Nat.mod_lt _ (by decide))
      have e1 : z 146 + nI k - (z 146 + nI k) / 24 * 24 = nI ((v_ho A + k) % 24) := by
        rw [zh, nI_add, n_rem24 (by omega)]
      have ih' := ih (k + 1) (by omega) (by
        by_cases q : d = 0
        · exact Or.inr q
        · exact Or.inl (Nat.le_of_lt (hH.2 (k + 1) (by omega)))) (nI (swt (v_lo A m) - cum A m k) - nI (rat A m ((v_ho A + k) % 24))) (fun w => by
          have := hH.2 (k + 1) w
          rw [cum_s] at this ⊢
          rw [pk_sub (by omega), Nat.sub_sub]) (fun w => by
          have := hH.1
          rw [← w, cum_s] at this
          rw [n_subgt (by omega) (by omega)]
          omega)
      rw [nI_succ k] at ih'
      have X : J MX4_doneNow Φ 0 0 46 [(0, .ref 0), (1, .int (nI m)), (2, .int (nI (swt (v_lo A m) - cum A m k))), (3, .int (nI (day A m))), (4, .int (nI k))] [.int (nI ((v_ho A + k) % 24)), .int (nI m), .ref 0, .int (nI (swt (v_lo A m) - cum A m k))] (mw t z r) := by
        refine J.callR [.int (nI (swt (v_lo A m) - cum A m k))] (c_X4_much hA hz hm (h := (v_ho A + k) % 24) (Nat.mod_lt _ (by decide))) kX4_much mRX4_65 dX4_doneNow_46 (by decide) rfl rfl (Nat.le_of_ble_eq_true rfl) (i0 := 0) rfl (ci := 4) rfl rfl ?_
        refine J.run csX4_doneNow 10 [(25, 5)] ?_
        exact ih'
      rw [← e1] at X
      refine J.run csX4_doneNow 20 [] ?_
      refine ⟨fun q => absurd ((n_le0 (a := swt (v_lo A m) - cum A m k) (by omega)).mp q) (by omega), fun _ => ⟨vp_c (by decide), n_ne24, ?_⟩⟩
      exact X
  refine J.run csX4_doneNow 20 [] ?_
  refine J.callR [] (c_X4_waiting hA hz hm) kX4_waiting mRX4_91 dX4_doneNow_2 (by decide) rfl rfl (Nat.le_of_ble_eq_true rfl) (i0 := 0) rfl (ci := 4) rfl rfl ?_
  refine J.run csX4_doneNow 20 [] ?_
  refine J.callR [] (c_X4_muchInDay hA hz hm) kX4_muchInDay mRX4_128 dX4_doneNow_8 (by decide) rfl rfl (Nat.le_of_ble_eq_true rfl) (i0 := 0) rfl (ci := 4) rfl rfl ?_
  refine J.run csX4_doneNow 3 [(22, 4)] ?_
  refine ⟨fun q => ?_, fun q => ?_⟩
  · have q : nI (swt (v_lo A m)) ≤ 0 := q
    rw [n_le0 (by omega)] at q
    have X := D 0 ⟨by rw [q]; exact Nat.zero_le _, fun j hj => absurd hj (Nat.not_lt_zero _)⟩ (Nat.zero_le _) (if_pos q) 0 0 rfl (Or.inr rfl) (nI (swt (v_lo A m))) (fun w => absurd w (Nat.not_lt_zero _)) (fun _ => by rw [q]; decide)
    refine J.run csX4_doneNow 5 [(25, 5)] ?_
    exact X
  · have q : ¬ nI (swt (v_lo A m)) ≤ 0 := q
    rw [n_le0 (by omega)] at q
    refine J.run csX4_doneNow 4 [(22, 4)] ?_
    refine ⟨fun q2 => ?_, fun q2 => ?_⟩
    · have q2 : ¬ nI (day A m) = 0 := q2
      rw [n_eq0 (by omega)] at q2
      obtain ⟨H, hH1, hH2⟩ := done_ex (m := m) hA hsw (Nat.pos_of_ne_zero q2)
      have ev : doV A m = nI H := (if_neg q).trans ((if_neg q2).trans (by rw [hrF_is hH2 hH1]))
      have hH0 : 0 < H := by
        rcases Nat.eq_zero_or_pos H with e | e
        · have := hH2.1
          rw [e] at this
          have e : cum A m 0 = 0 := rfl
          omega
        · exact e
      have X := D H hH2 hH1 ev H 0 (Nat.zero_add _) (Or.inl (Nat.zero_le _)) (nI (swt (v_lo A m))) (fun _ => by rw [show cum A m 0 = 0 from rfl]; rfl) (fun w => absurd w (by omega))
      refine J.run csX4_doneNow 5 [(25, 5)] ?_
      exact X
    · have q2 : nI (day A m) = 0 := q2
      rw [n_eq0 (by omega)] at q2
      rw [← hΦ]
      exact jd_i (by rw [show doV A m = -1 from (if_neg q).trans (if_pos q2)]) rfl
