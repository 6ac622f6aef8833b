/-! grind, doHour, doHours -/
theorem sGr_nil {A : aV} {z : Nat → Int32} {m n : Nat} (hl : v_lo A m = [] ∨ n = 0) (hz : zRel A z) : zRel (sGr A m n) z := by
  refine zRel_cg (A := A) rfl rfl rfl rfl rfl (fun j _ => ?_) (fun o _ => ?_) rfl rfl hz
  · show (if j = m then mGr n (v_ml A j) else v_ml A j) = v_ml A j
    by_cases q : j = m
    · rw [if_pos q]
      rcases hl with hl | hl
      · subst q
        have hl : m_lo (v_ml A j) = [] := hl
        generalize v_ml A j = M at hl ⊢
        obtain ⟨a, b, l⟩ := M
        have hl : l = [] := hl
        subst hl
        show (a, b + min n 0, []) = (a, b, [])
        rw [Nat.min_zero, Nat.add_zero]
      · rw [hl, mGr_0]
    · rw [if_neg q]
  · show v_fl A o + grF o n (v_lo A m) = v_fl A o
    rcases hl with hl | hl
    · rw [hl]
      rfl
    · rw [hl, grF_0]
      rfl
theorem grS_c {n : Nat} {q : Nat × Nat} {t : aL} : grS n (q :: t) = min n (q.2 + swt t) := by
  unfold grS
  rw [swt_c]
theorem gr_loop {m : Nat} {t : mT} {r : mR} {Φ : j_F} {n0 : Nat} (hm : m < 3) : ∀ (l : aL) (A : aV) (z : Nat → Int32) (n : Nat), n < 2 ^ 30 → v_lo A m = l → (∀ j, j < 3 → (v_lo A j).length ≤ 8) → (∀ q ∈ l, q.1 < 5 ∧ 1 ≤ q.2 ∧ q.2 ≤ 99) → zRel A z → (∀ z', zRel (sGr A m n) z' → ∀ lv, (∀ q ∈ ([(0, .ref 0), (1, .int (nI m)), (2, .int (nI n0)), (3, .int (nI (n - grS n l)))] : j_L), q ∈ lv) → J MX4_grind Φ 0 0 87 lv [] (mw t z' r)) →
    J MX4_grind Φ 0 0 2 [(0, .ref 0), (1, .int (nI m)), (2, .int (nI n0)), (3, .int (nI n))] [] (mw t z r)
  | [], A, z, n, hn, hl, h8, hq, hz, K => by
    have X := K z (sGr_nil (Or.inl hl) hz) [(0, .ref 0), (1, .int (nI m)), (2, .int (nI n0)), (3, .int (nI n))] (by
      rw [show n - grS n [] = n by show n - min n 0 = n; omega]
      exact fun q h => h)
    obtain ⟨a, b, c, d⟩ := hz.2.2.2.1 m hm
    rw [hl] at b
    have b : z (74 + 19 * m + 1) = nI 0 := by rw [show 74 + 19 * m + 1 = 75 + 19 * m by omega]; exact b
    refine J.run csX4_grind 2 [(87, 9)] ?_
    refine ⟨fun _ => X, fun q => ?_⟩
    refine J.run csX4_grind 20 [] ?_
    refine J.callR [] (c_X4_millAt hm (show 1 < 19 by decide)) kX4_millAt mRX4_62 dX4_grind_9 (by decide) rfl rfl (Nat.le_of_ble_eq_true rfl) (i0 := 0) rfl (ci := 4) rfl rfl ?_
    rw [b]
    refine J.run csX4_grind 1 [(87, 9)] ?_
    exact ⟨fun _ => X, fun q => absurd (by decide) q⟩
  | (o, s) :: tl, A, z, n, hn, hl, h8, hq, hz, K => by
    obtain ⟨ho, hs1, hs⟩ := hq (o, s) List.mem_cons_self
    have ho : o < 5 := ho
    have hs1 : 1 ≤ s := hs1
    have hs : s ≤ 99 := hs
    have h8m := h8 m hm
    rw [hl] at h8m
    have h8m : tl.length + 1 ≤ 8 := h8m
    obtain ⟨a, b, c, d⟩ := hz.2.2.2.1 m hm
    rw [hl] at b d
    have b : z (74 + 19 * m + 1) = nI (tl.length + 1) := by rw [show 74 + 19 * m + 1 = 75 + 19 * m by omega]; exact b
    have d0 := d 0 (Nat.zero_lt_succ _)
    have do1 : z (74 + 19 * m + 3) = nI o := by rw [show 74 + 19 * m + 3 = 77 + 19 * m + 2 * 0 by omega]; exact d0.1
    have ds1 : z (74 + 19 * m + 4) = nI s := by rw [show 74 + 19 * m + 4 = 78 + 19 * m + 2 * 0 by omega]; exact d0.2
    by_cases hn0 : n = 0
    · have X := K z (sGr_nil (Or.inr hn0) hz) [(0, .ref 0), (1, .int (nI m)), (2, .int (nI n0)), (3, .int (nI n))] (by
        rw [hn0]
        exact fun q h => by
          rw [show 0 - grS 0 ((o, s) :: tl) = 0 by omega] at h
          exact h)
      refine J.run csX4_grind 2 [(87, 9)] ?_
      exact ⟨fun _ => X, fun q => absurd ((n_le0 (a := n) (by omega)).mpr hn0) q⟩
    -- behind what is ground of the first lot
    have E : ∀ x, x = min n s → J MX4_grind Φ 0 0 35 [(0, .ref 0), (1, .int (nI m)), (2, .int (nI n0)), (3, .int (nI n)), (4, .int (nI s))] [.int (nI x)] (mw t z r) := by
      intro x hx
      refine J.run csX4_grind 20 [] ?_
      refine J.callR [.ref 0] (c_X4_millAt hm (show 3 < 19 by decide)) kX4_millAt mRX4_62 dX4_grind_41 (by decide) rfl rfl (Nat.le_of_ble_eq_true rfl) (i0 := 0) rfl (ci := 4) rfl rfl ?_
      rw [do1]
      refine J.run csX4_grind 20 [] ?_
      generalize e1 : upd z (131 + 3 * o + 0) (z (131 + 3 * o + 0) + nI x) = z1
      refine J.callM [] (c_X4_addToOwner (x := nI x) ho (show 0 < 3 by decide)) kX4_addToOwner mRX4_72 dX4_grind_47 (by decide) rfl rfl (Nat.le_of_ble_eq_true rfl) rfl ?_
      rw [e1]
      refine J.run csX4_grind 20 [] ?_
      generalize e2 : upd z1 (74 + 19 * m + 2) (z1 (74 + 19 * m + 2) + nI x) = z2
      refine J.callM [] (c_X4_addToMill (x := nI x) hm (show 2 < 19 by decide)) kX4_addToMill mRX4_68 dX4_grind_55 (by decide) rfl rfl (Nat.le_of_ble_eq_true rfl) rfl ?_
      rw [e2]
      refine J.run csX4_grind 20 [] ?_
      generalize e3 : upd z2 (74 + 19 * m + 4) (z2 (74 + 19 * m + 4) + -nI x) = z3
      refine J.callM [] (c_X4_addToMill (x := -nI x) hm (show 4 < 19 by decide)) kX4_addToMill mRX4_68 dX4_grind_64 (by decide) rfl rfl (Nat.le_of_ble_eq_true rfl) rfl ?_
      rw [e3]
      have R := gx_rel hz hm ho hl h8 (x := x) (by omega) e1 e2 e3
      have h8' : ∀ j, j < 3 → (v_lo (sGx A m o x ((o, s - x) :: tl)) j).length ≤ 8 := fun j hj => by
        show (m_lo (if j = m then (m_sp (v_ml A j), m_gr (v_ml A j) + x, (o, s - x) :: tl) else v_ml A j)).length ≤ 8
        by_cases q : j = m
        · rw [if_pos q]
          exact h8m
        · rw [if_neg q]
          exact h8 j hj
      refine J.run csX4_grind 7 [] ?_
      refine ⟨fun q => ?_, fun q => ?_⟩
      · have q : ¬ nI x = nI s := q
        rw [n_eq (by omega) (by omega)] at q
        have hxn : x = n := by omega
        have hns : n < s := by omega
        subst hxn
        have Z : zRel (sGr A m x) z3 := by
          refine zRel_cg (A := sGx A m o x ((o, s - x) :: tl)) (B := sGr A m x) rfl rfl rfl rfl rfl (fun j _ => ?_) (fun k _ => ?_) rfl rfl R
          · show (if j = m then mGr x (v_ml A j) else v_ml A j) = (if j = m then (m_sp (v_ml A j), m_gr (v_ml A j) + x, (o, s - x) :: tl) else v_ml A j)
            by_cases q : j = m
            · rw [if_pos q, if_pos q, q]
              unfold mGr
              rw [show m_lo (v_ml A m) = (o, s) :: tl from hl, grS_c, grL_c, if_neg hn0, if_pos hns, show min x (s + swt tl) = x by omega]
            · rw [if_neg q, if_neg q]
          · show v_fl A k + grF k x (v_lo A m) = if k = o then v_fl A k + x else v_fl A k
            rw [hl, grF_c, show x - s = 0 by omega, grF_0, show min x s = x by omega]
            by_cases q : o = k
            · rw [if_pos q, if_pos q.symm]
              rfl
            · rw [if_neg q, if_neg (Ne.symm q)]
              rfl
        have X := K z3 Z [(0, .ref 0), (1, .int (nI m)), (2, .int (nI n0)), (3, .int (nI x - nI x)), (4, .int (nI s)), (5, .int (nI x))] (by
          rw [grS_c, show x - min x (s + swt tl) = x - x by omega, ← pk_sub (Nat.le_refl x)]
          intro q h
          rcases List.mem_cons.mp h with rfl | h
          · exact List.mem_cons_self
          rcases List.mem_cons.mp h with rfl | h
          · exact List.mem_cons_of_mem _ List.mem_cons_self
          rcases List.mem_cons.mp h with rfl | h
          · exact List.mem_cons_of_mem _ (List.mem_cons_of_mem _ List.mem_cons_self)
          rcases List.mem_cons.mp h with rfl | h
          · exact List.mem_cons_of_mem _ (List.mem_cons_of_mem _ (List.mem_cons_of_mem _ List.mem_cons_self))
          · cases h)
        refine J.run csX4_grind 3 [(87, 9)] ?_
        refine ⟨fun _ => X, fun q => absurd (show nI x - nI x ≤ 0 from ?_) q⟩
        rw [pk_sub (Nat.le_refl x), Nat.sub_self]
        decide
      · have q : nI x = nI s := q
        rw [n_eq (by omega) (by omega)] at q
        subst q
        have hxn : x ≤ n := by omega
        have hlx : v_lo (sGx A m o x ((o, x - x) :: tl)) m = (o, x - x) :: tl := by
          show m_lo (if m = m then (m_sp (v_ml A m), m_gr (v_ml A m) + x, (o, x - x) :: tl) else v_ml A m) = _
          rw [if_pos rfl]
        have D := drop_rel R hm hlx h8'
        have z75 : z3 (75 + 19 * m) = nI (tl.length + 1) := by
          have := (R.2.2.2.1 m hm).2.1
          rw [hlx] at this
          exact this
        have D2 : zRel (sGx A m o x tl) (zD (upd z3 (75 + 19 * m) (nI tl.length)) (77 + 19 * m) (2 * tl.length)) := by
          refine zRel_cg (A := sml (sGx A m o x ((o, x - x) :: tl)) m tl) (B := sGx A m o x tl) rfl rfl rfl rfl rfl (fun j _ => ?_) (fun k _ => rfl) rfl rfl D
          show (if j = m then (m_sp (v_ml A j), m_gr (v_ml A j) + x, tl) else v_ml A j) = (if j = m then (m_sp (if j = m then (m_sp (v_ml A j), m_gr (v_ml A j) + x, (o, x - x) :: tl) else v_ml A j), m_gr (if j = m then (m_sp (v_ml A j), m_gr (v_ml A j) + x, (o, x - x) :: tl) else v_ml A j), tl) else (if j = m then (m_sp (v_ml A j), m_gr (v_ml A j) + x, (o, x - x) :: tl) else v_ml A j))
          by_cases q : j = m
          · rw [if_pos q, if_pos q, if_pos q]
          · rw [if_neg q, if_neg q, if_neg q]
        have hlx2 : v_lo (sGx A m o x tl) m = tl := by
          show m_lo (if m = m then (m_sp (v_ml A m), m_gr (v_ml A m) + x, tl) else v_ml A m) = _
          rw [if_pos rfl]
        have h82 : ∀ j, j < 3 → (v_lo (sGx A m o x tl) j).length ≤ 8 := fun j hj => by
          show (m_lo (if j = m then (m_sp (v_ml A j), m_gr (v_ml A j) + x, tl) else v_ml A j)).length ≤ 8
          by_cases q : j = m
          · rw [if_pos q]
            show tl.length ≤ 8
            omega
          · rw [if_neg q]
            exact h8 j hj
        refine J.run csX4_grind 20 [] ?_
        refine J.callM [] (c_X4_dropFirst (n := tl.length) hm (by omega) z75) kX4_dropFirst mRX4_75 dX4_grind_81 (by decide) rfl rfl (Nat.le_of_ble_eq_true rfl) rfl ?_
        generalize zD (upd z3 (75 + 19 * m) (nI tl.length)) (77 + 19 * m) (2 * tl.length) = z4 at D2 ⊢
        have X := gr_loop (t := t) (r := r) (Φ := Φ) (n0 := n0) hm tl (sGx A m o x tl) z4 (n - x) (by omega) hlx2 h82 (fun q hq9 => hq q (List.mem_cons_of_mem _ hq9)) D2 (fun z' hz' lv hlv => K z' (by
          refine zRel_cg (A := sGr (sGx A m o x tl) m (n - x)) (B := sGr A m n) rfl rfl rfl rfl rfl (fun j _ => ?_) (fun k _ => ?_) rfl rfl hz'
          · show (if j = m then mGr n (v_ml A j) else v_ml A j) = (if j = m then mGr (n - x) (if j = m then (m_sp (v_ml A j), m_gr (v_ml A j) + x, tl) else v_ml A j) else (if j = m then (m_sp (v_ml A j), m_gr (v_ml A j) + x, tl) else v_ml A j))
            by_cases q : j = m
            · rw [if_pos q, if_pos q, if_pos q, q]
              unfold mGr
              rw [show m_lo (v_ml A m) = (o, x) :: tl from hl, grS_c, grL_c, if_neg hn0, if_neg (show ¬ n < x by omega)]
              show (m_sp (v_ml A m), m_gr (v_ml A m) + min n (x + swt tl), grL (n - x) tl) = (m_sp (v_ml A m), m_gr (v_ml A m) + x + min (n - x) (swt tl), grL (n - x) tl)
              rw [show m_gr (v_ml A m) + min n (x + swt tl) = m_gr (v_ml A m) + x + min (n - x) (swt tl) by omega]
            · rw [if_neg q, if_neg q, if_neg q]
          · show v_fl A k + grF k n (v_lo A m) = (if k = o then v_fl A k + x else v_fl A k) + grF k (n - x) (v_lo (sGx A m o x tl) m)
            rw [hlx2, hl, grF_c, show min n x = x by omega]
            by_cases q : o = k
            · rw [if_pos q, if_pos q.symm, Nat.add_assoc]
            · rw [if_neg q, if_neg (Ne.symm q), Nat.zero_add]) lv (by
          rw [grS_c, show n - min n (x + swt tl) = n - x - grS (n - x) tl by show n - min n (x + swt tl) = n - x - min (n - x) (swt tl); omega]
          exact hlv))
        rw [← pk_sub (show x ≤ n by omega)] at X
        refine J.run csX4_grind 20 [(2, 4)] ?_
        exact X
    refine J.run csX4_grind 2 [] ?_
    refine ⟨fun q => absurd ((n_le0 (a := n) (by omega)).mp q) hn0, fun _ => ?_⟩
    refine J.run csX4_grind 20 [] ?_
    refine J.callR [] (c_X4_millAt hm (show 1 < 19 by decide)) kX4_millAt mRX4_62 dX4_grind_9 (by decide) rfl rfl (Nat.le_of_ble_eq_true rfl) (i0 := 0) rfl (ci := 4) rfl rfl ?_
    rw [b]
    refine J.run csX4_grind 1 [] ?_
    refine ⟨fun q => absurd ((n_le0 (a := tl.length + 1) (by omega)).mp q) (by omega), fun _ => ?_⟩
    refine J.run csX4_grind 20 [] ?_
    refine J.callR [] (c_X4_millAt hm (show 4 < 19 by decide)) kX4_millAt mRX4_62 dX4_grind_18 (by decide) rfl rfl (Nat.le_of_ble_eq_true rfl) (i0 := 0) rfl (ci := 4) rfl rfl ?_
    rw [ds1]
    refine J.run csX4_grind 20 [(35, 5)] ?_
    refine ⟨fun q => ?_, fun q => ?_⟩
    · have q : nI n ≤ nI s := q
      rw [n_le (by omega) (by omega)] at q
      exact E n (by omega)
    · have q : ¬ nI n ≤ nI s := q
      rw [n_le (by omega) (by omega)] at q
      exact E s (by omega)
theorem c_X4_grind {A : aV} {t : mT} {z : Nat → Int32} {r : mR} {m n : Nat} (hA : vOk A) (hz : zRel A z) (hm : m < 3) (hn : n < 2 ^ 30) : Ct MX4_grind 0 0 [.ref 0, .int (nI m), .int (nI n)] (mw t z r) (fun o h' => o = .inl (some (.int (nI (grS n (v_lo A m))))) ∧ ∃ z', zRel (sGr A m n) z' ∧ h' = mw t z' r) := by
  refine Ct.of rfl rfl (by decide +kernel) rfl (Nat.le_of_ble_eq_true rfl) ?_
  have hle : grS n (v_lo A m) ≤ n := Nat.min_le_left _ _
  refine J.run csX4_grind 5 [(2, 4)] ?_
  refine gr_loop hm (v_lo A m) A z n hn rfl (fun j hj => (hA.2.2.2.2.2 j hj).2.1) (hA.2.2.2.2.2 m hm).2.2 hz (fun z' hz' lv hlv => ?_)
  refine J.fewer hlv ?_
  refine J.run csX4_grind 5 [] ?_
  refine ⟨?_, z', hz', rfl⟩
  show Sum.inl (some (Value.int (nI n - nI (n - grS n (v_lo A m))))) = _
  rw [pk_sub (by omega), show n - (n - grS n (v_lo A m)) = grS n (v_lo A m) by omega]
