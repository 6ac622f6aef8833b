/-! The model's hour. -/
def aH (A : aV) : Nat → aV
  | 0 => A
  | m + 1 => sGr (aH A m) m (rat A m (v_ho A))
theorem sGr_rat (A : aV) (m n j h : Nat) : rat (sGr A m n) j h = rat A j h := by
  have e : m_sp (v_ml (sGr A m n) j) = m_sp (v_ml A j) := by
    show m_sp (if j = m then mGr n (v_ml A j) else v_ml A j) = _
    by_cases q : j = m
    · rw [if_pos q]
      rfl
    · rw [if_neg q]
  have e2 : trn (sGr A m n) h = trn A h := rfl
  unfold rat
  rw [e, e2]
  rfl
theorem sGr_ok {A : aV} (h : vOk A) (m n : Nat) : vOk (sGr A m n) := by
  obtain ⟨h1, h2, h3, h4, h5, h6⟩ := h
  refine ⟨h1, h2, h3, h4, h5, fun j hj => ?_⟩
  have h6 := h6 j hj
  show mOk (if j = m then mGr n (v_ml A j) else v_ml A j)
  by_cases q : j = m
  · rw [if_pos q]
    exact mGr_ok h6
  · rw [if_neg q]
    exact h6
theorem aH_ok {A : aV} (h : vOk A) : ∀ m, vOk (aH A m)
  | 0 => h
  | m + 1 => sGr_ok (aH_ok h m) _ _
theorem aH_rat (A : aV) (j h : Nat) : ∀ m, rat (aH A m) j h = rat A j h
  | 0 => rfl
  | m + 1 => (sGr_rat _ _ _ _ _).trans (aH_rat A j h m)
theorem aH_1 (A : aV) : ∀ m, (aH A m).1 = A.1
  | 0 => rfl
  | m + 1 => aH_1 A m
theorem aH_ml (A : aV) (j : Nat) : ∀ m, v_ml (aH A m) j = if j < m then mGr (rat A j (v_ho A)) (v_ml A j) else v_ml A j
  | 0 => rfl
  | m + 1 => by
    show (if j = m then mGr (rat A m (v_ho A)) (v_ml (aH A m) j) else v_ml (aH A m) j) = _
    rw [aH_ml A j m]
    by_cases q : j = m
    · rw [if_pos q, if_neg (by omega), if_pos (by omega), q]
    · rw [if_neg q]
      by_cases q2 : j < m
      · rw [if_pos q2, if_pos (by omega)]
      · rw [if_neg q2, if_neg (by omega)]
theorem aH_lo (A : aV) (m : Nat) : v_lo (aH A m) m = v_lo A m := by
  show m_lo (v_ml (aH A m) m) = _
  rw [aH_ml, if_neg (Nat.lt_irrefl m)]
theorem aH_vdi (A : aV) (h : Nat) : ∀ m, vdi (aH A m) h = vdi A h
  | 0 => rfl
  | m + 1 => aH_vdi A h m
theorem hr1_rel {A : aV} {z z' : Nat → Int32} (hA : vOk A) (hz : zRel (aH A 3) z) (e6 : z' 146 = nI (if v_ho A = 23 then 0 else v_ho A + 1)) (e7 : z' 147 = nI (v_go A + 1)) (e8 : z' 148 = nI (v_tu A + if trn A (v_ho A) then 1 else 0)) (un : ∀ p, p < 146 ∨ p = 149 → z' p = z p) : zRel (hr1 A) z' := by
  have g := hz
  obtain ⟨g1, g2, g3, g4, g5, g6⟩ := g
  have R : zRel ((if v_ho A = 23 then 0 else v_ho A + 1, v_go A + 1, v_tu A + (if trn A (v_ho A) then 1 else 0), v_re A), (aH A 3).2) z' := by
    refine ⟨fun h hh => ?_, fun j hj w hw => ?_, fun s hs => ?_, fun j hj => ?_, fun k hk => ?_, e6, e7, e8, ?_⟩
    · rw [un _ (by omega), un _ (by omega)]
      exact g1 h hh
    · rw [un _ (by omega)]
      exact g2 j hj w hw
    · rw [un _ (by omega)]
      exact g3 s hs
    · obtain ⟨a, b, c, d⟩ := g4 j hj
      have h8 : (v_lo (aH A 3) j).length ≤ 8 := ((aH_ok hA 3).2.2.2.2.2 j hj).2.1
      refine ⟨by rw [un _ (by omega)]; exact a, by rw [un _ (by omega)]; exact b, by rw [un _ (by omega)]; exact c, fun k hk => ?_⟩
      have hk : k < (v_lo (aH A 3) j).length := hk
      rw [un _ (by omega), un _ (by omega)]
      exact d k hk
    · rw [un _ (by omega), un _ (by omega), un _ (by omega)]
      exact g5 k hk
    · rw [un _ (by omega), g6.2.2.2]
      show nI (aH A 3).1.2.2.2 = _
      rw [aH_1]
  refine zRel_cg (A := ((if v_ho A = 23 then 0 else v_ho A + 1, v_go A + 1, v_tu A + (if trn A (v_ho A) then 1 else 0), v_re A), (aH A 3).2)) (B := hr1 A) rfl rfl rfl rfl rfl (fun m hm => ?_) (fun o ho => ?_) rfl rfl R
  · show mGr (rat A m (v_ho A)) (v_ml A m) = v_ml (aH A 3) m
    rw [aH_ml, if_pos hm]
  · show v_fl A o + (grF o (rat A 0 (v_ho A)) (v_lo A 0) + grF o (rat A 1 (v_ho A)) (v_lo A 1) + grF o (rat A 2 (v_ho A)) (v_lo A 2)) = v_fl A o + grF o (rat A 0 (v_ho A)) (v_lo (aH A 0) 0) + grF o (rat A 1 (v_ho A)) (v_lo (aH A 1) 1) + grF o (rat A 2 (v_ho A)) (v_lo (aH A 2) 2)
    rw [aH_lo, aH_lo, aH_lo]
    omega
theorem hpG_3 (A : aV) : hpG A 3 = hrG A := by
  show 0 + grS (rat A 0 (v_ho A)) (v_lo A 0) + grS (rat A 1 (v_ho A)) (v_lo A 1) + grS (rat A 2 (v_ho A)) (v_lo A 2) = grS (rat A 0 (v_ho A)) (v_lo A 0) + grS (rat A 1 (v_ho A)) (v_lo A 1) + grS (rat A 2 (v_ho A)) (v_lo A 2)
  omega
theorem c_X4_doHour {A : aV} {t : mT} {z : Nat → Int32} {r : mR} (hA : vOk A) (hz : zRel A z) : Ct MX4_doHour 0 0 [.ref 0] (mw t z r) (fun o h' => o = .inl (some (.int (nI (hrG A)))) ∧ ∃ z', zRel (hr1 A) z' ∧ h' = mw t z' r) := by
  have hho := hA.1
  refine Ct.of rfl rfl (by decide +kernel) rfl (Nat.le_of_ble_eq_true rfl) ?_
  generalize hΦ : (fun (o : j_O) (h' : j_H) => o = .inl (some (.int (nI (hrG A)))) ∧ ∃ z', zRel (hr1 A) z' ∧ h' = mw t z' r) = Φ
  -- behind the mills
  have E : ∀ z, zRel (aH A 3) z → J MX4_doHour Φ 0 0 38 [(0, .ref 0), (1, .int (nI (v_ho A))), (2, .int (nI (hrG A)))] [] (mw t z r) := by
    intro z hz
    have hle := vdi_le A (v_ho A)
    obtain ⟨g6, g7, g8, g9⟩ := hz.2.2.2.2.2
    have g7 : z 147 = nI (v_go A) := by rw [g7]; show nI (aH A 3).1.2.1 = _; rw [aH_1]
    have g8 : z 148 = nI (v_tu A) := by rw [g8]; show nI (aH A 3).1.2.2.1 = _; rw [aH_1]
    have hW := c_X4_whyNot (t := t) (r := r) (aH_ok hA 3) hz hho
    rw [aH_vdi] at hW
    have F : ∀ x, x = (if trn A (v_ho A) = true then 1 else 0) → J MX4_doHour Φ 0 0 60 [(0, .ref 0), (1, .int (nI (v_ho A))), (2, .int (nI (hrG A)))] [.int (nI x), .int (z 148), .int 148, .ref 1] (mw t z r) := by
      intro x hx
      have er : nI (v_ho A) + nI 1 - (nI (v_ho A) + nI 1) / 24 * 24 = nI (if v_ho A = 23 then 0 else v_ho A + 1) := by
        rw [nI_add, n_rem24 (by omega)]
        congr 1
        split <;> omega
      refine J.run csX4_doHour 40 [] ?_
      refine ⟨vp_c (by decide), rfl, rfl, vp_c (by decide), vp_c (by decide), n_ne24, vp_c (by decide), ?_⟩
      rw [← hΦ]
      refine ⟨rfl, _, ?_, rfl⟩
      refine hr1_rel hA hz ?_ ?_ ?_ ?_
      · show nI (v_ho A) + nI 1 - (nI (v_ho A) + nI 1) / 24 * 24 = _
        rw [er]
      · show z 147 + nI 1 = _
        rw [g7, nI_add]
      · show z 148 + nI x = _
        rw [g8, hx, nI_add]
      · intro p hp
        show (if p = 146 then _ else if p = 147 then _ else if p = 148 then _ else z p) = z p
        rw [if_neg (by omega), if_neg (by omega), if_neg (by omega)]
    refine J.run csX4_doHour 20 [] ?_
    refine ⟨rfl, rfl, vp_c (by decide), ?_⟩
    refine J.callR [.int (z 148), .int 148, .ref 1] hW kX4_whyNot mRX4_59 dX4_doHour_49 (by decide) rfl rfl (Nat.le_of_ble_eq_true rfl) (i0 := 0) rfl (ci := 4) rfl rfl ?_
    refine J.run csX4_doHour 5 [(60, 3)] ?_
    refine ⟨fun q => ?_, fun q => ?_⟩
    · have q : ¬ nI (vdi A (v_ho A)) = 0 := q
      rw [n_eq0 (by omega)] at q
      exact F 0 (by rw [if_neg (by unfold trn; rw [decide_eq_true_iff]; exact q)])
    · have q : nI (vdi A (v_ho A)) = 0 := q
      rw [n_eq0 (by omega)] at q
      exact F 1 (by rw [if_pos (by unfold trn; exact decide_eq_true q)])
  have L : ∀ (d m : Nat) (z : Nat → Int32), m + d = 3 → zRel (aH A m) z → J MX4_doHour Φ 0 0 13 [(0, .ref 0), (1, .int (nI (v_ho A))), (2, .int (nI (hpG A m))), (3, .int (nI m))] [] (mw t z r) := by
    intro d
    induction d with
    | zero =>
      intro m z hm hz
      have X := E z (by rw [← show m = 3 by omega]; exact hz)
      refine J.run csX4_doHour 3 [(38, 3)] ?_
      refine ⟨fun _ => ?_, fun q => absurd ((n_le (a := 3) (b := m) (by decide) (by omega)).mpr (by omega)) q⟩
      rw [← hpG_3, ← show m = 3 by omega] at X
      exact X
    | succ d ih =>
      intro m z hmd hz
      have hm : m < 3 := by omega
      have hM := c_X4_much (t := t) (r := r) (aH_ok hA m) hz hm hho
      rw [aH_rat] at hM
      have hra := rat_le hA hm hho
      refine J.run csX4_doHour 3 [] ?_
      refine ⟨fun q => absurd ((n_le (a := 3) (b := m) (by decide) (by omega)).mp q) (by omega), fun _ => ?_⟩
      refine J.run csX4_doHour 20 [] ?_
      refine J.callR [.int (nI m), .ref 0, .int (nI (hpG A m))] hM kX4_much mRX4_65 dX4_doHour_24 (by decide) rfl rfl (Nat.le_of_ble_eq_true rfl) (i0 := 0) rfl (ci := 4) rfl rfl ?_
      refine J.callVI 0 0 [.int (nI (hpG A m))] (as := [.int (nI m), .int (nI (rat A m (v_ho A)))]) (c_X4_grind (aH_ok hA m) hz hm (show rat A m (v_ho A) < 2 ^ 30 by omega)) kX4_grind mRX4_79 dX4_doHour_27 (by decide) (by decide) rfl rfl rfl (Nat.le_of_ble_eq_true rfl) (i0 := 0) rfl (ci := 4) rfl rfl (Nat.le_refl _) (Nat.le_refl _) ?_ ?_
      · rintro v h' ⟨hv, z', hz', rfl⟩
        cases hv
        refine ⟨rfl, ?_⟩
        rw [aH_lo]
        have ih' := ih (m + 1) z' (by omega) hz'
        rw [nI_succ m, show hpG A (m + 1) = hpG A m + grS (rat A m (v_ho A)) (v_lo A m) from rfl, ← nI_add] at ih'
        refine J.run csX4_doHour 5 [(13, 4)] ?_
        exact ih'
      · rintro E9 h' ⟨hv, -⟩
        cases hv
  have X := L 3 0 z (Nat.zero_add _) hz
  rw [← hz.2.2.2.2.2.1] at X
  refine J.run csX4_doHour 20 [(13, 4)] ?_
  refine ⟨vp_c (by decide), ?_⟩
  exact X
