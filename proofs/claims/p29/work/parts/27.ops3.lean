/-! Sacks are taken back; hours pass. -/
theorem lo_dropL {l : aL} {k : Nat} (hk : k < l.length - 1) : lo_o l.dropLast k = lo_o l k ∧ lo_s l.dropLast k = lo_s l k := by
  unfold lo_o lo_s
  rw [List.getD_eq_getElem?_getD, List.getD_eq_getElem?_getD, List.getElem?_dropLast, if_pos hk]
  exact ⟨rfl, rfl⟩
theorem mRel_drop {l : aL} {ow sk : Nat → Int32} (h : mRel l ow sk) : mRel l.dropLast ow sk := by
  intro k hk
  rw [List.length_dropLast] at hk
  rw [(lo_dropL hk).1, (lo_dropL hk).2]
  exact h k (by omega)
theorem clv_app (v X : j_H) (c : Nat × Nat × Nat) (r : (Nat → Int32) × (Nat → Int32) × (Nat → Int32)) : clv v c r X = [.inr (3, [.ref 1, .ref 25, .ref 26, .ref 27, .int (nI c.1), .int (nI c.2.1), .ref 28, .ref 30])] ++ (v.map (j_rc (j_f R1)) ++ ([.inl (5, 2, .inr (.inr (.inr (.inr slq)))), .inl (2, 2, .inl r.1), .inl (5, 6, .inr (.inr (.inr (.inr svq)))), .inr (2, [.ref 29, .int (nI c.2.2)]), .inl (0, 60, .inl r.2.1), .inl (0, 24, .inl r.2.2)] ++ X)) := by
  unfold clv
  exact congrArg (List.cons _) (List.append_assoc _ _ _)
theorem sc_r1 {v v' X : j_H} {c : Nat × Nat × Nat} {r : (Nat → Int32) × (Nat → Int32) × (Nat → Int32)} (h : v.length = 24) (h' : v'.length = 24) : j_sc R1 (v'.map (j_rc (j_f R1))) (clv v c r X) = clv v' c r X := by
  have e := sc_blk (v'.map (j_rc (j_f R1))) (v.map (j_rc (j_f R1))) [.inr (3, [.ref 1, .ref 25, .ref 26, .ref 27, .int (nI c.1), .int (nI c.2.1), .ref 28, .ref 30])] ([.inl (5, 2, .inr (.inr (.inr (.inr slq)))), .inl (2, 2, .inl r.1), .inl (5, 6, .inr (.inr (.inr (.inr svq)))), .inr (2, [.ref 29, .int (nI c.2.2)]), .inl (0, 60, .inl r.2.1), .inl (0, 24, .inl r.2.2)] ++ X) (by rw [List.length_map, List.length_map, h, h'])
  rw [List.length_map, h'] at e
  rw [clv_app, clv_app]
  exact e
def rTake (S : aS) (a : Int32) : aR := if a < 0 ∨ nI 3 ≤ a then (1, S, 0) else if (v_lo S.1 (cN a)).length = 0 then (0, sW (sS S) (srf S.1), -1) else (0, sW (sS S) (stt (sml S.1 (cN a) (v_lo S.1 (cN a)).dropLast) (lo_o (v_lo S.1 (cN a)) ((v_lo S.1 (cN a)).length - 1)) (lo_s (v_lo S.1 (cN a)) ((v_lo S.1 (cN a)).length - 1))), nI (lo_s (v_lo S.1 (cN a)) ((v_lo S.1 (cN a)).length - 1)))
theorem n_gt0 {a : Nat} (h : a < 2 ^ 31) : 0 < nI a ↔ 0 < a := by
  rw [show (0 : Int32) = nI 0 from rfl, n_lt (by decide) h]
theorem c_X3_takeBack {S : aS} {K : cK} {y : j_H} (h : cRel S K) (a : Int32) : Ct MX3_takeBack 1 6 [.ref 0, .int a] (clw K y) (cQ eI eA y (rTake S a)) := by
  refine Ct.of rfl rfl (by decide +kernel) rfl (Nat.le_of_ble_eq_true rfl) ?_
  refine J.run csX3_takeBack 5 [] ?_
  refine J.ckI 3 rfl kX3_needIndex mRX3_45 dX3_takeBack_2 (by decide) (Nat.le_of_ble_eq_true rfl) ⟨rfl, by decide⟩ (fun q => cQ_1 h (if_pos q)) (fun m hm ea q1 => ?_)
  have er : rTake S a = if (v_lo S.1 m).length = 0 then (0, sW (sS S) (srf S.1), -1) else (0, sW (sS S) (stt (sml S.1 m (v_lo S.1 m).dropLast) (lo_o (v_lo S.1 m) ((v_lo S.1 m).length - 1)) (lo_s (v_lo S.1 m) ((v_lo S.1 m).length - 1))), nI (lo_s (v_lo S.1 m) ((v_lo S.1 m).length - 1))) := by
    unfold rTake
    rw [if_neg q1, ea, cN_n (by omega)]
  refine J.run csX3_takeBack 5 [] ?_
  refine J.save [] h kX3_saveState mRX3_53 dX3_takeBack_6 (by decide) rfl (Nat.le_of_ble_eq_true rfl) (fun z c' r sl sv hr => ?_)
  subst ea
  generalize hΦ : cQ eI eA y (rTake S (nI m)) = Φ
  have hA := h.1.2.1
  have hmk := hA.2.2.2.2.2 m hm
  have hl : (v_lo S.1 m).length ≤ 8 := hmk.2.1
  have hz := hr.1.2.2
  have hz : vRel S.1 z := hz
  have N0 : ¬ 0 < nI (v_lo S.1 m).length → Φ (.inl (some (.int (-1)))) (clv (vlg S.1 (nI (v_re S.1) + nI 1) (fun k => nI (v_sd S.1 k)) (fun k => nI (v_sg S.1 k)) (fun i k => nI (v_vn S.1 i k)) (fun k => nI (v_se S.1 k)) (mCo S.1 z) (fun k => nI (v_br S.1 k)) (fun k => nI (v_tk S.1 k))) c' r (cX sl sv y)) := by
    intro w
    rw [n_gt0 (by omega)] at w
    rw [← hΦ]
    refine cQ_0 (er.trans (if_pos (by omega))) (cRel_w hr (z' := z) (srf_ok hA) hz) rfl ?_
    rw [nI_add]
    rfl
  have G0 : 0 < nI (v_lo S.1 m).length → 0 < (v_lo S.1 m).length := (n_gt0 (by omega)).mp
  have e1 : 0 < (v_lo S.1 m).length → nI (v_lo S.1 m).length - nI 1 = nI ((v_lo S.1 m).length - 1) := fun w => pk_sub (by omega)
  have V : 0 < (v_lo S.1 m).length → vp_in (nI (v_lo S.1 m).length - nI 1) 8 := fun w => by
    rw [e1 w]
    exact vp_n (by omega) (by decide)
  have eo : 0 < (v_lo S.1 m).length → (z m).1 (nI (v_lo S.1 m).length - nI 1).toNatClampNeg = nI (lo_o (v_lo S.1 m) ((v_lo S.1 m).length - 1)) ∧ (z m).2 (nI (v_lo S.1 m).length - nI 1).toNatClampNeg = nI (lo_s (v_lo S.1 m) ((v_lo S.1 m).length - 1)) := fun w => by
    rw [e1 w, cl_n (by omega)]
    exact hz m hm _ (by show (v_lo S.1 m).length - 1 < (v_lo S.1 m).length; omega)
  have hb : 0 < (v_lo S.1 m).length → lo_o (v_lo S.1 m) ((v_lo S.1 m).length - 1) < 5 := fun w => (hmk.2.2 _ (lo_mem (l := v_lo S.1 m) (by omega))).1
  have V2 : 0 < (v_lo S.1 m).length → vp_in ((z m).1 (nI (v_lo S.1 m).length - nI 1).toNatClampNeg) 5 := fun w => by
    rw [(eo w).1]
    exact vp_n (hb w) (by decide)
  have W : 0 < (v_lo S.1 m).length → Φ (.inl (some (.int ((z m).2 (nI (v_lo S.1 m).length - nI 1).toNatClampNeg)))) (clv (vlg S.1 (nI (v_re S.1)) (fun k => nI (v_sd S.1 k)) (fun k => nI (v_sg S.1 k)) (fun i k => nI (v_vn S.1 i k)) (fun k => nI (v_se S.1 k)) (fun j => if j = m then (nI (m_sp (v_ml S.1 j)), nI (m_gr (v_ml S.1 j)), nI (v_lo S.1 m).length - nI 1, (z j).1, (z j).2) else mCo S.1 z j) (fun k => nI (v_br S.1 k)) (upd (fun k => nI (v_tk S.1 k)) ((z m).1 (nI (v_lo S.1 m).length - nI 1).toNatClampNeg).toNatClampNeg (nI (v_tk S.1 ((z m).1 (nI (v_lo S.1 m).length - nI 1).toNatClampNeg).toNatClampNeg) + (z m).2 (nI (v_lo S.1 m).length - nI 1).toNatClampNeg))) c' r (cX sl sv y)) := by
    intro w
    obtain ⟨f1, f2⟩ := eo w
    have g := hb w
    rw [f1, f2, cl_n (show lo_o (v_lo S.1 m) ((v_lo S.1 m).length - 1) < 2 ^ 31 by omega), e1 w, nI_add, ← hΦ]
    refine cQ_0 (er.trans (if_neg (by omega))) (cRel_w hr (z' := z) (A' := stt (sml S.1 m (v_lo S.1 m).dropLast) (lo_o (v_lo S.1 m) ((v_lo S.1 m).length - 1)) (lo_s (v_lo S.1 m) ((v_lo S.1 m).length - 1))) ?_ ?_) rfl ?_
    · exact sml_ok hA (by rw [List.length_dropLast]; omega) (fun q hq => hmk.2.2 q ((List.dropLast_sublist _).subset hq))
    · intro j hj
      have := hz j hj
      show mRel (m_lo (if j = m then (m_sp (v_ml S.1 j), m_gr (v_ml S.1 j), (v_lo S.1 m).dropLast) else v_ml S.1 j)) (z j).1 (z j).2
      by_cases q : j = m
      · subst q
        rw [if_pos rfl]
        exact mRel_drop this
      · rw [if_neg q]
        exact this
    · have x1 : (fun j => if j = m then (nI (m_sp (v_ml S.1 j)), nI (m_gr (v_ml S.1 j)), nI ((v_lo S.1 m).length - 1), (z j).1, (z j).2) else mCo S.1 z j) = mCo (sml S.1 m (v_lo S.1 m).dropLast) z := by
        funext j
        show (if j = m then (nI (m_sp (v_ml S.1 j)), nI (m_gr (v_ml S.1 j)), nI ((v_lo S.1 m).length - 1), (z j).1, (z j).2) else mCo S.1 z j) = (nI (m_sp (if j = m then (m_sp (v_ml S.1 j), m_gr (v_ml S.1 j), (v_lo S.1 m).dropLast) else v_ml S.1 j)), nI (m_gr (if j = m then (m_sp (v_ml S.1 j), m_gr (v_ml S.1 j), (v_lo S.1 m).dropLast) else v_ml S.1 j)), nI (m_lo (if j = m then (m_sp (v_ml S.1 j), m_gr (v_ml S.1 j), (v_lo S.1 m).dropLast) else v_ml S.1 j)).length, (z j).1, (z j).2)
        by_cases q : j = m
        · rw [if_pos q, if_pos q, ← List.length_dropLast]
        · rw [if_neg q, if_neg q]
      have x2 : upd (fun k => nI (v_tk S.1 k)) (lo_o (v_lo S.1 m) ((v_lo S.1 m).length - 1)) (nI (v_tk S.1 (lo_o (v_lo S.1 m) ((v_lo S.1 m).length - 1)) + lo_s (v_lo S.1 m) ((v_lo S.1 m).length - 1))) = fun k => nI (v_tk (stt (sml S.1 m (v_lo S.1 m).dropLast) (lo_o (v_lo S.1 m) ((v_lo S.1 m).length - 1)) (lo_s (v_lo S.1 m) ((v_lo S.1 m).length - 1))) k) := by
        have := upd_nI (f := v_tk S.1) (h := lo_o (v_lo S.1 m) ((v_lo S.1 m).length - 1)) (x := v_tk S.1 (lo_o (v_lo S.1 m) ((v_lo S.1 m).length - 1)) + lo_s (v_lo S.1 m) ((v_lo S.1 m).length - 1)) (by omega) rfl
        rw [cl_n (by omega)] at this
        exact this.symm
      rw [x1, x2]
      rfl
  have hc : m = 0 ∨ m = 1 ∨ m = 2 := by omega
  rcases hc with rfl | rfl | rfl
  all_goals
    refine J.run csX3_takeBack 60 [] ?_
    refine ⟨vp_n hm (by decide), fun w => ?_, fun w => ⟨rfl, N0 w⟩⟩
    have w := G0 w
    exact ⟨rfl, V w, V w, rfl, rfl, V2 w, V2 w, W w⟩
theorem hr1_ok {A : aV} (h : vOk A) (hg : v_go A + 1 ≤ 200000) : vOk (hr1 A) := by
  obtain ⟨h1, h2, h3, h4, h5, h6⟩ := h
  refine ⟨?_, hg, h3, h4, h5, fun m hm => mGr_ok (h6 m hm)⟩
  show (if v_ho A = 23 then 0 else v_ho A + 1) < 24
  split <;> omega
theorem hrs_ok : ∀ (n : Nat) {A : aV}, vOk A → v_go A + n ≤ 200000 → vOk (hrs n A)
  | 0, _, h, _ => h
  | n + 1, A, h, hg => hrs_ok n (A := hr1 A) (hr1_ok h (by omega)) (by show v_go A + 1 + n ≤ 200000; omega)
def rPass (S : aS) (a : Int32) : aR := if a < nI 1 ∨ nI 99 < a then (1, S, 0) else if 99999 < v_go S.1 + cN a then (2, S, 0) else (0, sW (sS S) (hrs (cN a) S.1), nI (hrsG (cN a) S.1))
theorem c_X3_pass {S : aS} {K : cK} {y : j_H} (h : cRel S K) (a : Int32) : Ct MX3_pass 2 12 [.ref 0, .int a] (clw K y) (cQ eA eS y (rPass S a)) := by
  refine Ct.of rfl rfl (by decide +kernel) rfl (Nat.le_of_ble_eq_true rfl) ?_
  refine J.run csX3_pass 5 [] ?_
  refine J.ckR 1 99 rfl kX3_needRange mRX3_49 dX3_pass_4 (by decide) (Nat.le_of_ble_eq_true rfl) ⟨rfl, rfl, by decide⟩ (fun q => cQ_1 h (if_pos q)) (fun n hn1 hn ea q1 => ?_)
  have er : rPass S a = if 99999 < v_go S.1 + n then (2, S, 0) else (0, sW (sS S) (hrs n S.1), nI (hrsG n S.1)) := by
    unfold rPass
    rw [if_neg q1, ea, cN_n (by omega)]
  subst ea
  have hA := h.1.2.1
  have hgo : v_go S.1 ≤ 200000 := hA.2.1
  have hK : K.1.1 = S.1 := h.1.1
  have X : ¬ 99999 < v_go S.1 + n → J MX3_pass (cQ eA eS y (rPass S (nI n))) 1 6 31 [(0, .ref 0), (1, .int (nI n))] [] (clw K y) := by
    intro w
    refine J.run csX3_pass 1 [] ?_
    refine J.save [] h kX3_saveState mRX3_53 dX3_pass_32 (by decide) rfl (Nat.le_of_ble_eq_true rfl) (fun z c' r sl sv hr => ?_)
    rw [er, if_neg w]
    generalize hF : hrs n S.1 = F
    generalize hG : hrsG n S.1 = G
    have hFo : vOk F := by
      rw [← hF]
      exact hrs_ok n hA (by omega)
    have L : ∀ (d i g : Nat) (A : aV) (z : vS), i + d = n → vOk A → vRel A z → v_go A + d ≤ 99999 → hrs d A = F → g + hrsG d A = G → J MX3_pass (cQ eA eS y (0, sW (sS S) F, nI G)) 1 6 39 [(0, .ref 0), (1, .int (nI n)), (2, .int (nI g)), (3, .int (nI i))] [] (clv (vil A z) c' r (cX sl sv y)) := by
      intro d
      induction d with
      | zero =>
        intro i g A z hi hA hz hgo hF hG
        have hF : A = F := hF
        have hG : g = G := hG
        subst hF hG
        refine J.run csX3_pass 20 [] ?_
        refine ⟨fun _ => ?_, fun q => absurd ((n_le (by omega) (by omega)).mpr (by omega)) q⟩
        exact cQ_0 rfl (cRel_w hr hA hz) rfl rfl
      | succ d ih =>
        intro i g A z hi hA hz hgo hF hG
        refine J.run csX3_pass 20 [(39, 4)] ?_
        refine ⟨fun q => absurd ((n_le (by omega) (by omega)).mp q) (by omega), fun _ => ?_⟩
        refine J.callV 1 6 [.int (nI g)] R1 (c_X1_passHour hA hz) kX1_passHour mRX3_123 dX3_pass_49 (by decide) (by decide) rfl rfl rfl (Nat.le_of_ble_eq_true rfl) (i0 := 0) rfl (ci := 1) rfl rfl rfl (by decide) (by decide) (by decide) ?_ ?_
        · rintro v h' ⟨hv, z', hz', rfl⟩
          cases hv
          refine ⟨rfl, ?_⟩
          rw [sc_r1 rfl rfl]
          refine J.run csX3_pass 20 [(39, 4)] ?_
          have ih' := ih (i + 1) (g + hrG A) (hr1 A) z' (by omega) (hr1_ok hA (by omega)) hz' (by show v_go A + 1 + d ≤ 99999; omega) hF (by rw [Nat.add_assoc]; exact hG)
          rw [nI_succ, ← nI_add] at ih'
          exact ih'
        · rintro E9 h' ⟨hv, -⟩
          cases hv
    refine J.run csX3_pass 20 [(39, 4)] ?_
    exact L n 0 0 S.1 z (Nat.zero_add _) hA hr.1.2.2 (by omega) hF (by omega)
  obtain ⟨⟨A, z⟩, c', r, sl, sv⟩ := K
  have hK : A = S.1 := hK
  subst hK
  refine J.run csX3_pass 20 [(31, 2)] ?_
  refine ⟨fun q => ?_, fun q => ?_⟩
  · have q : nI (v_go S.1) + nI n ≤ nI 99999 := q
    rw [nI_add, n_le (by omega) (by omega)] at q
    exact X (by omega)
  · have q : ¬ nI (v_go S.1) + nI n ≤ nI 99999 := q
    rw [nI_add, n_le (by omega) (by omega)] at q
    exact cQ_2 h (er.trans (if_pos (by omega)))
