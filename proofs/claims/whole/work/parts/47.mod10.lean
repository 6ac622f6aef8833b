/-! What would be. -/
theorem grF_add (o : Nat) : ∀ (l : aL) (a b : Nat), grF o (a + b) l = grF o a l + grF o b (grL a l)
  | [], _, _ => rfl
  | q :: t, a, b => by
    rw [grF_c, grF_c, grL_c]
    by_cases h0 : a = 0
    · rw [if_pos h0, h0, Nat.zero_add, Nat.zero_min, Nat.zero_sub, grF_0, grF_c]
      by_cases e : q.1 = o
      · rw [if_pos e, if_pos e]
        omega
      · rw [if_neg e, if_neg e]
        omega
    · rw [if_neg h0]
      by_cases h1 : a < q.2
      · rw [if_pos h1, show a - q.2 = 0 by omega, grF_0, grF_c]
        show (if q.1 = o then min (a + b) q.2 else 0) + grF o (a + b - q.2) t = (if q.1 = o then min a q.2 else 0) + 0 + ((if q.1 = o then min b (q.2 - a) else 0) + grF o (b - (q.2 - a)) t)
        rw [show a + b - q.2 = b - (q.2 - a) by omega]
        by_cases e : q.1 = o
        · rw [if_pos e, if_pos e, if_pos e]
          omega
        · rw [if_neg e, if_neg e, if_neg e]
          omega
      · rw [if_neg h1, show a + b - q.2 = a - q.2 + b by omega, grF_add o t (a - q.2) b]
        by_cases e : q.1 = o
        · rw [if_pos e, if_pos e]
          omega
        · rw [if_neg e, if_neg e]
          omega
theorem hr1_ratv {A : aV} (m h : Nat) : rat (hr1 A) m h = rat A m h := rfl
theorem hr1_cum {A : aV} (h : v_ho A < 24) (m n : Nat) : cum A m (n + 1) = rat A m (v_ho A) + cum (hr1 A) m n := by
  have e := sumN_add (fun k => rat A m ((v_ho A + k) % 24)) 1 n
  rw [Nat.add_comm 1 n] at e
  show sumN (fun k => rat A m ((v_ho A + k) % 24)) (n + 1) = rat A m (v_ho A) + sumN (fun k => rat (hr1 A) m ((v_ho (hr1 A) + k) % 24)) n
  rw [e]
  congr 1
  · show 0 + rat A m ((v_ho A + 0) % 24) = _
    rw [Nat.zero_add, Nat.add_zero, Nat.mod_eq_of_lt h]
  · refine sumN_congr _ (fun k _ => ?_)
    rw [hr1_ratv]
    show _ = rat A m (((if v_ho A = 23 then 0 else v_ho A + 1) + k) % 24)
    congr 1
    split <;> omega
theorem fl_hrs : ∀ (n : Nat) {A : aV} (_ : v_ho A < 24) (o : Nat), v_fl (hrs n A) o = v_fl A o + pF A o n 3
  | 0, A, _, o => by
    show v_fl A o = v_fl A o + (0 + grF o 0 (v_lo A 0) + grF o 0 (v_lo A 1) + grF o 0 (v_lo A 2))
    rw [grF_0, grF_0, grF_0]
    rfl
  | n + 1, A, h, o => by
    have h' : v_ho (hr1 A) < 24 := by
      show (if v_ho A = 23 then 0 else v_ho A + 1) < 24
      split <;> omega
    show v_fl (hrs n (hr1 A)) o = _
    rw [fl_hrs n h' o]
    show v_fl A o + (grF o (rat A 0 (v_ho A)) (v_lo A 0) + grF o (rat A 1 (v_ho A)) (v_lo A 1) + grF o (rat A 2 (v_ho A)) (v_lo A 2)) + (0 + grF o (cum (hr1 A) 0 n) (grL (rat A 0 (v_ho A)) (v_lo A 0)) + grF o (cum (hr1 A) 1 n) (grL (rat A 1 (v_ho A)) (v_lo A 1)) + grF o (cum (hr1 A) 2 n) (grL (rat A 2 (v_ho A)) (v_lo A 2))) = v_fl A o + (0 + grF o (cum A 0 (n + 1)) (v_lo A 0) + grF o (cum A 1 (n + 1)) (v_lo A 1) + grF o (cum A 2 (n + 1)) (v_lo A 2))
    rw [hr1_cum h, hr1_cum h, hr1_cum h, grF_add, grF_add, grF_add]
    omega
theorem zRel_z {A : aV} {z z' : Nat → Int32} (hA : vOk A) (e : ∀ j, j < 150 → z' j = z j) (h : zRel A z) : zRel A z' := by
  obtain ⟨g1, g2, g3, g4, g5, g6⟩ := h
  refine ⟨fun h hh => ?_, fun j hj w hw => ?_, fun s hs => ?_, fun j hj => ?_, fun k hk => ?_, ?_, ?_, ?_, ?_⟩
  · rw [e _ (by omega), e _ (by omega)]
    exact g1 h hh
  · rw [e _ (by omega)]
    exact g2 j hj w hw
  · rw [e _ (by omega)]
    exact g3 s hs
  · obtain ⟨a, b, c, d⟩ := g4 j hj
    have h8 : (v_lo A j).length ≤ 8 := (hA.2.2.2.2.2 j hj).2.1
    rw [e _ (by omega), e _ (by omega), e _ (by omega)]
    refine ⟨a, b, c, fun k hk => ?_⟩
    rw [e _ (by omega), e _ (by omega)]
    exact d k hk
  · rw [e _ (by omega), e _ (by omega), e _ (by omega)]
    exact g5 k hk
  · rw [e _ (by omega)]; exact g6.1
  · rw [e _ (by omega)]; exact g6.2.1
  · rw [e _ (by omega)]; exact g6.2.2.1
  · rw [e _ (by omega)]; exact g6.2.2.2
theorem c_X4_doHours {A : aV} {t : mT} {z : Nat → Int32} {r : mR} {n : Nat} (hA : vOk A) (hz : zRel A z) (hn : n < 100) (hg : v_go A + n ≤ 200000) : Ct MX4_doHours 0 0 [.ref 0, .int (nI n)] (mw t z r) (fun o h' => o = .inl (some (.int (nI (hrsG n A)))) ∧ ∃ z', zRel (hrs n A) z' ∧ h' = mw t z' r) := by
  refine Ct.of rfl rfl (by decide +kernel) rfl (Nat.le_of_ble_eq_true rfl) ?_
  generalize hF : hrs n A = F
  generalize hG : hrsG n A = G
  generalize hΦ : (fun (o : j_O) (h' : j_H) => o = .inl (some (.int (nI G))) ∧ ∃ z', zRel F z' ∧ h' = mw t z' r) = Φ
  have L : ∀ (d k g : Nat) (A : aV) (z : Nat → Int32), k + d = n → vOk A → zRel A z → v_go A + d ≤ 200000 → hrs d A = F → g + hrsG d A = G → J MX4_doHours Φ 0 0 4 [(0, .ref 0), (1, .int (nI n)), (2, .int (nI g)), (3, .int (nI k))] [] (mw t z r) := by
    intro d
    induction d with
    | zero =>
      intro k g A z hk hA hz hg hF hG
      have hF : A = F := hF
      have hG : g = G := hG
      subst hF hG
      refine J.run csX4_doHours 20 [] ?_
      refine ⟨fun _ => ?_, fun q => absurd ((n_le (a := n) (b := k) (by omega) (by omega)).mpr (by omega)) q⟩
      rw [← hΦ]
      exact ⟨rfl, z, hz, rfl⟩
    | succ d ih =>
      intro k g A z hk hA hz hg hF hG
      refine J.run csX4_doHours 3 [] ?_
      refine ⟨fun q => absurd ((n_le (a := n) (b := k) (by omega) (by omega)).mp q) (by omega), fun _ => ?_⟩
      refine J.run csX4_doHours 20 [] ?_
      refine J.callVI 0 0 [.int (nI g)] (as := []) (c_X4_doHour hA hz) kX4_doHour mRX4_82 dX4_doHours_11 (by decide) (by decide) rfl rfl rfl (Nat.le_of_ble_eq_true rfl) (i0 := 0) rfl (ci := 4) rfl rfl (Nat.le_refl _) (Nat.le_refl _) ?_ ?_
      · rintro v h' ⟨hv, z', hz', rfl⟩
        cases hv
        refine ⟨rfl, ?_⟩
        have ih' := ih (k + 1) (g + hrG A) (hr1 A) z' (by omega) (hr1_ok hA (by omega)) hz' (by show v_go A + 1 + d ≤ 200000; omega) hF (by rw [Nat.add_assoc]; exact hG)
        rw [nI_succ k, ← nI_add] at ih'
        refine J.run csX4_doHours 10 [(4, 4)] ?_
        exact ih'
      · rintro E9 h' ⟨hv, -⟩
        cases hv
  refine J.run csX4_doHours 10 [(4, 4)] ?_
  exact L n 0 0 A z (Nat.zero_add _) hA hz hg hF (by rw [Nat.zero_add]; exact hG)
/-- the first k of a row -/
def zC (k : Nat) (f g : Nat → Int32) : Nat → Int32 := fun j => if j < k then f j else g j
theorem zC_up {k : Nat} (hk : k < 2 ^ 31) (f g : Nat → Int32) : upd (zC k f g) (nI k).toNatClampNeg (f (nI k).toNatClampNeg) = zC (k + 1) f g := by
  rw [cl_n hk]
  funext j
  show (if j = k then f k else if j < k then f j else g j) = if j < k + 1 then f j else g j
  by_cases q : j = k
  · rw [if_pos q, if_pos (by omega), q]
  · rw [if_neg q]
    by_cases q2 : j < k
    · rw [if_pos q2, if_pos (by omega)]
    · rw [if_neg q2, if_neg (by omega)]
theorem zC_0 (f g : Nat → Int32) : zC 0 f g = g := funext fun j => if_neg (Nat.not_lt_zero j)
theorem c_X4_putAside {t : mT} {z : Nat → Int32} {r : mR} : Ct MX4_putAside 0 0 [.ref 0] (mw t z r) (jd (.inl none) (mw t z (zC 150 z r.1, r.2))) := by
  refine Ct.of rfl rfl (by decide +kernel) rfl (Nat.le_of_ble_eq_true rfl) ?_
  generalize hΦ : jd (.inl none) (mw t z (zC 150 z r.1, r.2)) = Φ
  have L : ∀ (d k : Nat), k + d = 150 → J MX4_putAside Φ 0 0 2 [(0, .ref 0), (1, .int (nI k))] [] (mw t z (zC k z r.1, r.2)) := by
    intro d
    induction d with
    | zero =>
      intro k hk
      refine J.run csX4_putAside 20 [] ?_
      refine ⟨fun _ => ?_, fun q => absurd ((n_le (a := 150) (b := k) (by omega) (by omega)).mpr (by omega)) q⟩
      rw [← hΦ]
      exact jd_i rfl (by rw [show k = 150 by omega])
    | succ d ih =>
      intro k hk
      have ih' := ih (k + 1) (by omega)
      rw [nI_succ k, ← zC_up (by omega)] at ih'
      refine J.run csX4_putAside 20 [(2, 2)] ?_
      refine ⟨fun q => absurd ((n_le (a := 150) (b := k) (by omega) (by omega)).mp q) (by omega), fun _ => ⟨vp_n (by omega) (by decide), vp_n (by omega) (by decide), ?_⟩⟩
      exact ih'
  have X := L 150 0 rfl
  rw [zC_0] at X
  refine J.run csX4_putAside 10 [(2, 2)] ?_
  exact X
theorem c_X4_putBack {t : mT} {z : Nat → Int32} {r : mR} : Ct MX4_putBack 0 0 [.ref 0] (mw t z r) (jd (.inl none) (mw t (zC 150 r.1 z) r)) := by
  refine Ct.of rfl rfl (by decide +kernel) rfl (Nat.le_of_ble_eq_true rfl) ?_
  generalize hΦ : jd (.inl none) (mw t (zC 150 r.1 z) r) = Φ
  have L : ∀ (d k : Nat), k + d = 150 → J MX4_putBack Φ 0 0 2 [(0, .ref 0), (1, .int (nI k))] [] (mw t (zC k r.1 z) r) := by
    intro d
    induction d with
    | zero =>
      intro k hk
      refine J.run csX4_putBack 20 [] ?_
      refine ⟨fun _ => ?_, fun q => absurd ((n_le (a := 150) (b := k) (by omega) (by omega)).mpr (by omega)) q⟩
      rw [← hΦ]
      exact jd_i rfl (by rw [show k = 150 by omega])
    | succ d ih =>
      intro k hk
      have ih' := ih (k + 1) (by omega)
      rw [nI_succ k, ← zC_up (by omega)] at ih'
      refine J.run csX4_putBack 20 [(2, 2)] ?_
      refine ⟨fun q => absurd ((n_le (a := 150) (b := k) (by omega) (by omega)).mp q) (by omega), fun _ => ⟨vp_n (by omega) (by decide), vp_n (by omega) (by decide), ?_⟩⟩
      exact ih'
  have X := L 150 0 rfl
  rw [zC_0] at X
  refine J.run csX4_putBack 10 [(2, 2)] ?_
  exact X
theorem c_X4_passed {A : aV} {t : mT} {z : Nat → Int32} {r : mR} {o n : Nat} (hA : vOk A) (hz : zRel A z) (ho : o < 5) (hn : n < 100) (hg : v_go A + n ≤ 200000) : Ct MX4_passed 0 0 [.ref 0, .int (nI o), .int (nI n)] (mw t z r) (fun u h' => u = .inl (some (.int (nI (pF A o n 3)))) ∧ ∃ z' a', zRel A z' ∧ h' = mw t z' (a', r.2)) := by
  refine Ct.of rfl rfl (by decide +kernel) rfl (Nat.le_of_ble_eq_true rfl) ?_
  generalize hΦ : (fun (u : j_O) (h' : j_H) => u = .inl (some (.int (nI (pF A o n 3)))) ∧ ∃ z' a', zRel A z' ∧ h' = mw t z' (a', r.2)) = Φ
  refine J.run csX4_passed 5 [] ?_
  refine J.callM [] (as := []) (c_X4_putAside (t := t) (z := z) (r := r)) kX4_putAside mRX4_152 dX4_passed_1 (by decide) rfl rfl (Nat.le_of_ble_eq_true rfl) rfl ?_
  refine J.run csX4_passed 5 [] ?_
  refine J.callR [] (c_X4_ownerAt ho (show 0 < 3 by decide)) kX4_ownerAt mRX4_137 dX4_passed_7 (by decide) rfl rfl (Nat.le_of_ble_eq_true rfl) (i0 := 0) rfl (ci := 4) rfl rfl ?_
  rw [show z (131 + 3 * o + 0) = nI (v_fl A o) from (hz.2.2.2.2.1 o ho).1]
  refine J.run csX4_passed 5 [] ?_
  refine J.callVI 0 0 [] (as := [.int (nI n)]) (c_X4_doHours hA hz hn hg) kX4_doHours mRX4_95 dX4_passed_13 (by decide) (by decide) rfl rfl rfl (Nat.le_of_ble_eq_true rfl) (i0 := 0) rfl (ci := 4) rfl rfl (Nat.le_refl _) (Nat.le_refl _) ?_ ?_
  · rintro v h' ⟨hv, z', hz', rfl⟩
    cases hv
    refine ⟨rfl, ?_⟩
    have hf := fl_hrs n hA.1 o
    refine J.run csX4_passed 5 [] ?_
    refine ⟨rfl, ?_⟩
    refine J.callR [] (c_X4_ownerAt ho (show 0 < 3 by decide)) kX4_ownerAt mRX4_137 dX4_passed_20 (by decide) rfl rfl (Nat.le_of_ble_eq_true rfl) (i0 := 0) rfl (ci := 4) rfl rfl ?_
    rw [show z' (131 + 3 * o + 0) = nI (v_fl (hrs n A) o) from (hz'.2.2.2.2.1 o ho).1, hf]
    refine J.run csX4_passed 5 [] ?_
    refine J.callM [] (as := []) c_X4_putBack kX4_putBack mRX4_155 dX4_passed_28 (by decide) rfl rfl (Nat.le_of_ble_eq_true rfl) rfl ?_
    refine J.run csX4_passed 5 [] ?_
    rw [← hΦ]
    refine ⟨?_, _, _, ?_, rfl⟩
    · show Sum.inl (some (Value.int (nI (v_fl A o + pF A o n 3) - nI (v_fl A o)))) = _
      rw [← nI_add, Int32.add_comm, Int32.add_sub_cancel]
    · refine zRel_z hA (fun j hj => ?_) hz
      show (if j < 150 then (if j < 150 then z j else r.1 j) else z' j) = z j
      rw [if_pos hj, if_pos hj]
  · rintro E9 h' ⟨hv, -⟩
    cases hv
