/-! Sacks are brought and taken back; hours pass. -/
def srf (A : aV) : aV := ((v_ho A, v_go A, v_tu A, v_re A + 1), A.2)
def sml (A : aV) (m : Nat) (l : aL) : aV := (A.1, v_sd A, v_sg A, v_vn A, v_se A, (fun j => if j = m then (m_sp (v_ml A j), m_gr (v_ml A j), l) else v_ml A j), v_fl A, v_br A, v_tk A)
def sbt (A : aV) (o x : Nat) : aV := (A.1, v_sd A, v_sg A, v_vn A, v_se A, v_ml A, v_fl A, (fun k => if k = o then v_br A o + x else v_br A k), v_tk A)
def stt (A : aV) (o x : Nat) : aV := (A.1, v_sd A, v_sg A, v_vn A, v_se A, v_ml A, v_fl A, v_br A, (fun k => if k = o then v_tk A o + x else v_tk A k))
abbrev v_lo (A : aV) (m : Nat) : aL := m_lo (v_ml A m)
theorem srf_ok {A : aV} (h : vOk A) : vOk (srf A) := h
theorem sml_ok {A : aV} (h : vOk A) {m : Nat} {l : aL} (h1 : l.length ≤ 8) (h2 : ∀ q ∈ l, q.1 < 5 ∧ 1 ≤ q.2 ∧ q.2 ≤ 99) : vOk (sml A m l) := by
  obtain ⟨g1, g2, g3, g4, g5, g6⟩ := h
  refine ⟨g1, g2, g3, g4, g5, fun j hj => ?_⟩
  have g6 := g6 j hj
  show mOk (if j = m then (m_sp (v_ml A j), m_gr (v_ml A j), l) else v_ml A j)
  by_cases q : j = m
  · rw [if_pos q]
    exact ⟨g6.1, h1, h2⟩
  · rw [if_neg q]
    exact g6
def zU (z : vS) (m : Nat) (p : (Nat → Int32) × (Nat → Int32)) : vS := fun j => if j = m then p else z j
theorem sml_rel {A : aV} {z : vS} (h : vRel A z) {m : Nat} {l : aL} {p : (Nat → Int32) × (Nat → Int32)} (hp : mRel l p.1 p.2) : vRel (sml A m l) (zU z m p) := by
  intro j hj
  have := h j hj
  show mRel (m_lo (if j = m then (m_sp (v_ml A j), m_gr (v_ml A j), l) else v_ml A j)) (zU z m p j).1 (zU z m p j).2
  unfold zU
  by_cases q : j = m
  · rw [if_pos q, if_pos q]
    exact hp
  · rw [if_neg q, if_neg q]
    exact this
theorem lo_app {l : aL} {k o s : Nat} (hk : k < l.length + 1) : lo_o (l ++ [(o, s)]) k = (if k = l.length then o else lo_o l k) ∧ lo_s (l ++ [(o, s)]) k = (if k = l.length then s else lo_s l k) := by
  unfold lo_o lo_s
  rw [List.getD_eq_getElem?_getD, List.getD_eq_getElem?_getD]
  by_cases q : k = l.length
  · rw [if_pos q, if_pos q, List.getElem?_append_right (by omega), q, Nat.sub_self]
    exact ⟨rfl, rfl⟩
  · rw [if_neg q, if_neg q, List.getElem?_append_left (by omega)]
    exact ⟨rfl, rfl⟩
theorem mRel_app {l : aL} {ow sk : Nat → Int32} (h : mRel l ow sk) (o s : Nat) : mRel (l ++ [(o, s)]) (upd ow l.length (nI o)) (upd sk l.length (nI s)) := by
  intro k hk
  rw [List.length_append] at hk
  have hk : k < l.length + 1 := hk
  obtain ⟨e1, e2⟩ := lo_app (o := o) (s := s) hk
  rw [e1, e2]
  show (if k = l.length then nI o else ow k) = _ ∧ (if k = l.length then nI s else sk k) = _
  by_cases q : k = l.length
  · rw [if_pos q, if_pos q, if_pos q, if_pos q]
    exact ⟨rfl, rfl⟩
  · rw [if_neg q, if_neg q, if_neg q, if_neg q]
    exact h k (by omega)
def rBring (S : aS) (a b c : Int32) : aR := if (a < 0 ∨ nI 5 ≤ a) ∨ (b < 0 ∨ nI 3 ≤ b) then (1, S, 0) else if c < nI 1 ∨ nI 99 < c then (2, S, 0) else if 8 ≤ (v_lo S.1 (cN b)).length then (0, sW (sS S) (srf S.1), -1) else (0, sW (sS S) (sbt (sml S.1 (cN b) (v_lo S.1 (cN b) ++ [(cN a, cN c)])) (cN a) (cN c)), nI (swt (v_lo S.1 (cN b) ++ [(cN a, cN c)])))
theorem c_X3_bring {S : aS} {K : cK} {y : j_H} (h : cRel S K) (a b c : Int32) : Ct MX3_bring 3 18 [.ref 0, .int a, .int b, .int c] (clw K y) (cQ eI eA y (rBring S a b c)) := by
  refine Ct.of rfl rfl (by decide +kernel) rfl (Nat.le_of_ble_eq_true rfl) ?_
  refine J.run csX3_bring 5 [] ?_
  refine J.ckI 5 rfl kX3_needIndex mRX3_45 dX3_bring_2 (by decide) (Nat.le_of_ble_eq_true rfl) ⟨rfl, by decide⟩ (fun q => cQ_1 h (if_pos (Or.inl q))) (fun o ho ea q1 => ?_)
  refine J.run csX3_bring 5 [] ?_
  refine J.ckI 3 rfl kX3_needIndex mRX3_45 dX3_bring_7 (by decide) (Nat.le_of_ble_eq_true rfl) ⟨rfl, by decide⟩ (fun q => cQ_1 h (if_pos (Or.inr q))) (fun m hm eb q2 => ?_)
  have q12 : ¬ ((a < 0 ∨ nI 5 ≤ a) ∨ (b < 0 ∨ nI 3 ≤ b)) := by rintro (w | w); exact q1 w; exact q2 w
  refine J.run csX3_bring 5 [] ?_
  refine J.ckR 1 99 rfl kX3_needRange mRX3_49 dX3_bring_14 (by decide) (Nat.le_of_ble_eq_true rfl) ⟨rfl, rfl, by decide⟩ (fun q => cQ_2 h ((if_neg q12).trans (if_pos q))) (fun s hs1 hs ec q3 => ?_)
  have er : rBring S a b c = if 8 ≤ (v_lo S.1 m).length then (0, sW (sS S) (srf S.1), -1) else (0, sW (sS S) (sbt (sml S.1 m (v_lo S.1 m ++ [(o, s)])) o s), nI (swt (v_lo S.1 m ++ [(o, s)]))) := by
    unfold rBring
    rw [if_neg q12, if_neg q3, ea, eb, ec, cN_n (by omega), cN_n (by omega), cN_n (by omega)]
  refine J.run csX3_bring 5 [] ?_
  refine J.save [] h kX3_saveState mRX3_53 dX3_bring_18 (by decide) rfl (Nat.le_of_ble_eq_true rfl) (fun z c' r sl sv hr => ?_)
  subst ea eb ec
  generalize hΦ : cQ eI eA y (rBring S (nI o) (nI m) (nI s)) = Φ
  have hA := h.1.2.1
  have hmk := hA.2.2.2.2.2 m hm
  have hz := hr.1.2.2
  have hz : vRel S.1 z := hz
  have N8 : ∀ x : Int32, x = nI (v_lo S.1 m).length → ¬ x < nI 8 → Φ (.inl (some (.int (-1)))) (clv (vlg S.1 (nI (v_re S.1) + nI 1) (fun k => nI (v_sd S.1 k)) (fun k => nI (v_sg S.1 k)) (fun i k => nI (v_vn S.1 i k)) (fun k => nI (v_se S.1 k)) (mCo S.1 z) (fun k => nI (v_br S.1 k)) (fun k => nI (v_tk S.1 k))) c' r (cX sl sv y)) := by
    rintro x rfl w
    have hl : (v_lo S.1 m).length ≤ 8 := hmk.2.1
    rw [n_lt (by omega) (by omega)] at w
    rw [← hΦ]
    refine cQ_0 (er.trans (if_pos (by omega))) (cRel_w hr (z' := z) (srf_ok hA) hz) rfl ?_
    rw [nI_add]
    rfl
  have L8 : ∀ x : Int32, x = nI (v_lo S.1 m).length → x < nI 8 → (v_lo S.1 m).length < 8 := by
    rintro x rfl w
    have hl : (v_lo S.1 m).length ≤ 8 := hmk.2.1
    rw [n_lt (by omega) (by omega)] at w
    exact w
  have hbr : upd (fun k => nI (v_br S.1 k)) (nI o).toNatClampNeg (nI (v_br S.1 (nI o).toNatClampNeg) + nI s) = fun k => nI (if k = o then v_br S.1 o + s else v_br S.1 k) := by
    rw [upd_nI (f := v_br S.1) (h := o) (x := v_br S.1 o + s) (by omega) rfl, cl_n (by omega), nI_add]
  have W : (v_lo S.1 m).length < 8 → Φ (.inl (some (.int (nI (swt (v_lo S.1 m ++ [(o, s)])))))) (clv (vlg S.1 (nI (v_re S.1)) (fun k => nI (v_sd S.1 k)) (fun k => nI (v_sg S.1 k)) (fun i k => nI (v_vn S.1 i k)) (fun k => nI (v_se S.1 k)) (mCo (sml S.1 m (v_lo S.1 m ++ [(o, s)])) (zU z m (upd (z m).1 (v_lo S.1 m).length (nI o), upd (z m).2 (v_lo S.1 m).length (nI s)))) (upd (fun k => nI (v_br S.1 k)) (nI o).toNatClampNeg (nI (v_br S.1 (nI o).toNatClampNeg) + nI s)) (fun k => nI (v_tk S.1 k))) c' r (cX sl sv y)) := by
    intro hl
    rw [← hΦ, hbr]
    refine cQ_0 (er.trans (if_neg (by omega))) (cRel_w hr (z' := zU z m (upd (z m).1 (v_lo S.1 m).length (nI o), upd (z m).2 (v_lo S.1 m).length (nI s))) (A' := sbt (sml S.1 m (v_lo S.1 m ++ [(o, s)])) o s) ?_ ?_) rfl rfl
    · refine sml_ok hA (by rw [List.length_append]; exact hl) (fun q hq => ?_)
      rcases List.mem_append.mp hq with hq | hq
      · exact hmk.2.2 q hq
      · cases List.mem_singleton.mp hq
        exact ⟨ho, hs1, hs⟩
    · exact sml_rel hz (mRel_app (hz m hm) o s)
  have hc : m = 0 ∨ m = 1 ∨ m = 2 := by omega
  rcases hc with rfl | rfl | rfl
  · refine J.run csX3_bring 60 [] ?_
    refine ⟨vp_n hm (by decide), fun w => ?_, fun w => ⟨rfl, N8 _ rfl w⟩⟩
    have hl := L8 _ rfl w
    have hmk' : mOk (m_sp (v_ml S.1 0), m_gr (v_ml S.1 0), v_lo S.1 0 ++ [(o, s)]) := ⟨hmk.1, by rw [List.length_append]; exact hl, fun q hq => by
      rcases List.mem_append.mp hq with hq | hq
      · exact hmk.2.2 q hq
      · cases List.mem_singleton.mp hq
        exact ⟨ho, hs1, hs⟩⟩
    refine J.callV 0 0 [] [16, 17, 18] (c_X0_addLot (m := v_ml S.1 0) (ow := (z 0).1) (sk := (z 0).2) (o := o) (s := s) hl) kX0_addLot mRX3_93 dX3_bring_61 (by decide) (by decide) rfl rfl rfl (Nat.le_of_ble_eq_true rfl) (i0 := 0) rfl (ci := 0) rfl rfl rfl (by decide) (by decide) (by decide) ?_ ?_
    · rintro v h' ⟨hv, rfl⟩
      cases hv
      refine ⟨rfl, ?_⟩
      show J MX3_bring Φ 0 0 64 [(0, .ref 0), (1, .int (nI o)), (2, .int (nI 0)), (3, .int (nI s)), (4, .ref 16)] [] (clv (vlg S.1 (nI (v_re S.1)) (fun k => nI (v_sd S.1 k)) (fun k => nI (v_sg S.1 k)) (fun i k => nI (v_vn S.1 i k)) (fun k => nI (v_se S.1 k)) (mCo (sml S.1 0 (v_lo S.1 0 ++ [(o, s)])) (zU z 0 (upd (z 0).1 (v_lo S.1 0).length (nI o), upd (z 0).2 (v_lo S.1 0).length (nI s)))) (fun k => nI (v_br S.1 k)) (fun k => nI (v_tk S.1 k))) c' r (cX sl sv y))
      refine J.run csX3_bring 20 [] ?_
      refine ⟨rfl, rfl, vp_n ho (by decide), vp_n ho (by decide), ?_⟩
      refine J.callRV [] [16, 17, 18] (c_X0_sacksWaiting hmk' (mRel_app (hz 0 hm) o s)) kX0_sacksWaiting mRX3_99 dX3_bring_79 (by decide) rfl rfl rfl (Nat.le_of_ble_eq_true rfl) (i0 := 0) rfl (ci := 0) rfl rfl ?_
      refine J.run csX3_bring 5 [] ?_
      exact W hl
    · rintro E9 h' ⟨hv, -⟩
      cases hv
  · refine J.run csX3_bring 60 [] ?_
    refine ⟨vp_n hm (by decide), fun w => ?_, fun w => ⟨rfl, N8 _ rfl w⟩⟩
    have hl := L8 _ rfl w
    have hmk' : mOk (m_sp (v_ml S.1 1), m_gr (v_ml S.1 1), v_lo S.1 1 ++ [(o, s)]) := ⟨hmk.1, by rw [List.length_append]; exact hl, fun q hq => by
      rcases List.mem_append.mp hq with hq | hq
      · exact hmk.2.2 q hq
      · cases List.mem_singleton.mp hq
        exact ⟨ho, hs1, hs⟩⟩
    refine J.callV 0 0 [] [19, 20, 21] (c_X0_addLot (m := v_ml S.1 1) (ow := (z 1).1) (sk := (z 1).2) (o := o) (s := s) hl) kX0_addLot mRX3_93 dX3_bring_61 (by decide) (by decide) rfl rfl rfl (Nat.le_of_ble_eq_true rfl) (i0 := 0) rfl (ci := 0) rfl rfl rfl (by decide) (by decide) (by decide) ?_ ?_
    · rintro v h' ⟨hv, rfl⟩
      cases hv
      refine ⟨rfl, ?_⟩
      show J MX3_bring Φ 0 0 64 [(0, .ref 0), (1, .int (nI o)), (2, .int (nI 1)), (3, .int (nI s)), (4, .ref 19)] [] (clv (vlg S.1 (nI (v_re S.1)) (fun k => nI (v_sd S.1 k)) (fun k => nI (v_sg S.1 k)) (fun i k => nI (v_vn S.1 i k)) (fun k => nI (v_se S.1 k)) (mCo (sml S.1 1 (v_lo S.1 1 ++ [(o, s)])) (zU z 1 (upd (z 1).1 (v_lo S.1 1).length (nI o), upd (z 1).2 (v_lo S.1 1).length (nI s)))) (fun k => nI (v_br S.1 k)) (fun k => nI (v_tk S.1 k))) c' r (cX sl sv y))
      refine J.run csX3_bring 20 [] ?_
      refine ⟨rfl, rfl, vp_n ho (by decide), vp_n ho (by decide), ?_⟩
      refine J.callRV [] [19, 20, 21] (c_X0_sacksWaiting hmk' (mRel_app (hz 1 hm) o s)) kX0_sacksWaiting mRX3_99 dX3_bring_79 (by decide) rfl rfl rfl (Nat.le_of_ble_eq_true rfl) (i0 := 0) rfl (ci := 0) rfl rfl ?_
      refine J.run csX3_bring 5 [] ?_
      exact W hl
    · rintro E9 h' ⟨hv, -⟩
      cases hv
  · refine J.run csX3_bring 60 [] ?_
    refine ⟨vp_n hm (by decide), fun w => ?_, fun w => ⟨rfl, N8 _ rfl w⟩⟩
    have hl := L8 _ rfl w
    have hmk' : mOk (m_sp (v_ml S.1 2), m_gr (v_ml S.1 2), v_lo S.1 2 ++ [(o, s)]) := ⟨hmk.1, by rw [List.length_append]; exact hl, fun q hq => by
      rcases List.mem_append.mp hq with hq | hq
      · exact hmk.2.2 q hq
      · cases List.mem_singleton.mp hq
        exact ⟨ho, hs1, hs⟩⟩
    refine J.callV 0 0 [] [22, 23, 24] (c_X0_addLot (m := v_ml S.1 2) (ow := (z 2).1) (sk := (z 2).2) (o := o) (s := s) hl) kX0_addLot mRX3_93 dX3_bring_61 (by decide) (by decide) rfl rfl rfl (Nat.le_of_ble_eq_true rfl) (i0 := 0) rfl (ci := 0) rfl rfl rfl (by decide) (by decide) (by decide) ?_ ?_
    · rintro v h' ⟨hv, rfl⟩
      cases hv
      refine ⟨rfl, ?_⟩
      show J MX3_bring Φ 0 0 64 [(0, .ref 0), (1, .int (nI o)), (2, .int (nI 2)), (3, .int (nI s)), (4, .ref 22)] [] (clv (vlg S.1 (nI (v_re S.1)) (fun k => nI (v_sd S.1 k)) (fun k => nI (v_sg S.1 k)) (fun i k => nI (v_vn S.1 i k)) (fun k => nI (v_se S.1 k)) (mCo (sml S.1 2 (v_lo S.1 2 ++ [(o, s)])) (zU z 2 (upd (z 2).1 (v_lo S.1 2).length (nI o), upd (z 2).2 (v_lo S.1 2).length (nI s)))) (fun k => nI (v_br S.1 k)) (fun k => nI (v_tk S.1 k))) c' r (cX sl sv y))
      refine J.run csX3_bring 20 [] ?_
      refine ⟨rfl, rfl, vp_n ho (by decide), vp_n ho (by decide), ?_⟩
      refine J.callRV [] [22, 23, 24] (c_X0_sacksWaiting hmk' (mRel_app (hz 2 hm) o s)) kX0_sacksWaiting mRX3_99 dX3_bring_79 (by decide) rfl rfl rfl (Nat.le_of_ble_eq_true rfl) (i0 := 0) rfl (ci := 0) rfl rfl ?_
      refine J.run csX3_bring 5 [] ?_
      exact W hl
    · rintro E9 h' ⟨hv, -⟩
      cases hv
