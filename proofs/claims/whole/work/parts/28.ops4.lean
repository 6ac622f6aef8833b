/-! The text, snapshots, going back. -/
abbrev s_t (S : aS) : List Nat := S.2.2.2
abbrev s_st (S : aS) : List aV := S.2.2.1
def clu (v : j_H) (sn sc n : Int32) (fl cs rt : Nat → Int32) (X : j_H) : j_H :=
  (.inr (3, [.ref 1, .ref 25, .ref 26, .ref 27, .int sn, .int sc, .ref 28, .ref 30]) :: (v.map (j_rc (j_f R1)) ++ [.inl (5, 2, .inr (.inr (.inr (.inr slq)))), .inl (2, 2, .inl fl), .inl (5, 6, .inr (.inr (.inr (.inr svq)))), .inr (2, [.ref 29, .int n]), .inl (0, 60, .inl cs), .inl (0, 24, .inl rt)])) ++ X
theorem cRel_t {S : aS} {K : cK} {t : List Nat} {cs : Nat → Int32} (h : cRel S K) (ht : tOk t) (hr : tRel t cs) : cRel (S.1, S.2.1, S.2.2.1, t) (K.1, (K.2.1.1, K.2.1.2.1, t.length), (K.2.2.1.1, cs, K.2.2.1.2.2), K.2.2.2.1, K.2.2.2.2) := ⟨h.1, h.2.1, h.2.2.1, rfl, ht, hr⟩
def rApp (S : aS) (a : Int32) : aR := if a < nI 33 ∨ nI 126 < a then (1, S, 0) else if 60 ≤ (s_t S).length then (2, S, 0) else (0, (S.1, S.2.1, S.2.2.1, s_t S ++ [cN a]), nI ((s_t S).length + 1))
theorem tRel_app {t : List Nat} {cs : Nat → Int32} (h : tRel t cs) (a : Nat) : tRel (t ++ [a]) (upd cs t.length (nI a)) := by
  intro k hk
  rw [List.length_append] at hk
  have hk : k < t.length + 1 := hk
  show (if k = t.length then nI a else cs k) = _
  rw [List.getD_eq_getElem?_getD]
  by_cases q : k = t.length
  · rw [if_pos q, List.getElem?_append_right (by omega), q, Nat.sub_self]
    rfl
  · rw [if_neg q, List.getElem?_append_left (by omega), ← List.getD_eq_getElem?_getD]
    exact h k (by omega)
theorem c_X3_append {S : aS} {K : cK} {y : j_H} (h : cRel S K) (a : Int32) : Ct MX3_append 2 12 [.ref 0, .int a] (clw K y) (cQ eA eS y (rApp S a)) := by
  refine Ct.of rfl rfl (by decide +kernel) rfl (Nat.le_of_ble_eq_true rfl) ?_
  refine J.run csX3_append 5 [] ?_
  refine J.ckR 33 126 rfl kX3_needRange mRX3_49 dX3_append_5 (by decide) (Nat.le_of_ble_eq_true rfl) ⟨rfl, rfl, by decide⟩ (fun q => cQ_1 h (if_pos q)) (fun j hj1 hj ea q1 => ?_)
  have er : rApp S a = if 60 ≤ (s_t S).length then (2, S, 0) else (0, (S.1, S.2.1, S.2.2.1, s_t S ++ [j]), nI ((s_t S).length + 1)) := by
    unfold rApp
    rw [if_neg q1, ea, cN_n (by omega)]
  subst ea
  obtain ⟨hn, ht, hr⟩ := h.2.2.2
  have hl : (s_t S).length ≤ 60 := ht.1
  have R : (s_t S).length < 60 → cRel (S.1, S.2.1, S.2.2.1, s_t S ++ [j]) _ := fun w => cRel_t h (t := s_t S ++ [j]) (cs := upd K.2.2.1.2.1 (s_t S).length (nI j)) ⟨by rw [List.length_append]; exact w, fun c hc => by
    rcases List.mem_append.mp hc with hc | hc
    · exact ht.2 c hc
    · cases List.mem_singleton.mp hc
      exact ⟨hj1, hj⟩⟩ (tRel_app hr j)
  obtain ⟨⟨A, z⟩, ⟨sn, sc, n⟩, ⟨fl, cs, rt⟩, sl, sv⟩ := K
  have hn : n = (s_t S).length := hn
  subst hn
  refine J.run csX3_append 40 [] ?_
  refine ⟨fun w => ?_, fun w => ?_⟩
  · have w : nI (s_t S).length < nI 60 := w
    rw [n_lt (by omega) (by omega)] at w
    refine ⟨vp_n w (by decide), rfl, ?_⟩
    refine cQ_0 (er.trans (if_neg (by omega))) (R w) (nI_add _ _) ?_
    have e : clu (vil A z) (nI sn) (nI sc) (nI (s_t S).length + nI 1) fl (upd cs (nI (s_t S).length).toNatClampNeg (nI j)) rt (cX sl sv y) = clu (vil A z) (nI sn) (nI sc) (nI (s_t S ++ [j]).length) fl (upd cs (s_t S).length (nI j)) rt (cX sl sv y) := by
      rw [nI_add, cl_n (by omega), List.length_append]
      rfl
    exact e
  · have w : ¬ nI (s_t S).length < nI 60 := w
    rw [n_lt (by omega) (by omega)] at w
    exact cQ_2 h (er.trans (if_pos (by omega)))
def rClear (S : aS) : aR := (0, (S.1, S.2.1, S.2.2.1, []), nI (s_t S).length)
theorem t0_ok : tOk [] := ⟨Nat.zero_le _, fun _ h => by cases h⟩
theorem t0_rel (cs : Nat → Int32) : tRel [] cs := fun k h => absurd h (Nat.not_lt_zero k)
theorem c_X3_clearBuffer {S : aS} {K : cK} {y : j_H} (h : cRel S K) : Ct MX3_clearBuffer 0 0 [.ref 0] (clw K y) (cQ eA eS y (rClear S)) := by
  refine Ct.of rfl rfl (by decide +kernel) rfl (Nat.le_of_ble_eq_true rfl) ?_
  have hn := h.2.2.2.1
  have R := cRel_t h t0_ok (t0_rel K.2.2.1.2.1)
  obtain ⟨⟨A, z⟩, ⟨sn, sc, n⟩, ⟨fl, cs, rt⟩, sl, sv⟩ := K
  have hn : n = (s_t S).length := hn
  subst hn
  refine J.run csX3_clearBuffer 40 [] ?_
  exact cQ_0 rfl R rfl rfl
def rFirst (S : aS) : aR := (0, S, nI (fwL 0 (s_t S)))
theorem c_X3_firstError {S : aS} {K : cK} {y : j_H} (h : cRel S K) : Ct MX3_firstError 0 0 [.ref 0] (clw K y) (cQ eA eS y (rFirst S)) := by
  refine Ct.of rfl rfl (by decide +kernel) rfl (Nat.le_of_ble_eq_true rfl) ?_
  obtain ⟨hn, ht, hr⟩ := id h.2.2.2
  obtain ⟨⟨A, z⟩, ⟨sn, sc, n⟩, ⟨fl, cs, rt⟩, sl, sv⟩ := K
  have hn : n = (s_t S).length := hn
  subst hn
  refine J.run csX3_firstError 5 [] ?_
  refine J.callRV [] [28, 29] (hm := txt (nI (s_t S).length) cs) (c_X2_firstWrong ht hr) kX2_firstWrong mRX3_134 dX3_firstError_4 (by decide) rfl rfl rfl (Nat.le_of_ble_eq_true rfl) (i0 := 0) rfl (ci := 2) rfl rfl ?_
  refine J.run csX3_firstError 5 [] ?_
  exact cQ_0 rfl h rfl rfl
def rLoad (S : aS) : aR := if stL 0 (s_t S) = 6 then (0, (blL 0 0 0 (s_t S) S.1, S.2.1, (S.1 :: S.2.2.1).take 6, []), nI (agh (blL 0 0 0 (s_t S) S.1))) else (1, S, 0)
abbrev Rbl : List Nat := [28, 29] ++ R1
theorem bl_map (n : Int32) (cs : Nat → Int32) (A : aV) (z : vS) : (txt n cs ++ (vil A z).map (j_rc (j_f R2))).map (j_rc (j_f Rbl)) = [.inr (2, [.ref 29, .int n]), .inl (0, 60, .inl cs)] ++ (vil A z).map (j_rc (j_f R1)) := by
  rw [List.map_append, vil_rr (r2 := j_f R1) (by decide +kernel)]
  rfl
theorem c_X3_load {S : aS} {K : cK} {y : j_H} (h : cRel S K) : Ct MX3_load 1 6 [.ref 0] (clw K y) (cQ eA eS y (rLoad S)) := by
  refine Ct.of rfl rfl (by decide +kernel) rfl (Nat.le_of_ble_eq_true rfl) ?_
  obtain ⟨hn, ht, hr⟩ := id h.2.2.2
  have X : stL 0 (s_t S) = 6 → J MX3_load (cQ eA eS y (rLoad S)) 1 6 20 [(0, .ref 0)] [] (clw K y) := by
    intro w
    refine J.run csX3_load 1 [] ?_
    refine J.save [] h kX3_saveState mRX3_53 dX3_load_21 (by decide) rfl (Nat.le_of_ble_eq_true rfl) (fun z c' r sl sv hr => ?_)
    obtain ⟨hn, ht, hrt⟩ := id hr.2.2.2
    obtain ⟨sn, sc, n⟩ := c'
    obtain ⟨fl, cs, rt⟩ := r
    have hn : n = (s_t S).length := hn
    subst hn
    have hB := blL_ok (s_t S) 0 0 0 S.1 h.1.2.1 (by decide) (by unfold bI; omega) w
    have R := cRel_t (cRel_w hr (z' := z) hB.1 (by intro m hm; rw [hB.2]; exact hr.1.2.2 m hm)) t0_ok (t0_rel cs)
    have er : rLoad S = (0, (blL 0 0 0 (s_t S) S.1, S.2.1, (S.1 :: S.2.2.1).take 6, []), nI (agh (blL 0 0 0 (s_t S) S.1))) := if_pos w
    refine J.run csX3_load 10 [] ?_
    refine J.callV 1 6 [] Rbl (c_X2_blowInto (t := s_t S) (cs := cs) ht hrt w S.1 z) kX2_blowInto mRX3_146 dX3_load_32 (by decide) (by decide) rfl rfl rfl (Nat.le_of_ble_eq_true rfl) (i0 := 0) rfl (ci := 2) rfl rfl (j_lies_of (bl_map _ _ _ _) rfl) (by decide) (by decide) (by decide) ?_ ?_
    · rintro v h' ⟨hv, rfl⟩
      cases hv
      refine ⟨rfl, ?_⟩
      have e1 : j_sc [28, 29] [.inr (2, [.ref 29, .int (nI (s_t S).length)]), .inl (0, 60, .inl cs)] (clv (vil S.1 z) (sn, sc, (s_t S).length) (fl, cs, rt) (cX sl sv y)) = clv (vil S.1 z) (sn, sc, (s_t S).length) (fl, cs, rt) (cX sl sv y) := j_sc_same _ _ _ rfl
      rw [bl_map, sc_app _ _ _ _ _ rfl, e1, sc_r1 rfl rfl]
      refine J.run csX3_load 10 [] ?_
      refine J.callRV [] R1 (c_X1_agreeingHours (z := z) hB.1) kX1_agreeingHours mRX3_150 dX3_load_47 (by decide) rfl rfl rfl (Nat.le_of_ble_eq_true rfl) (i0 := 0) rfl (ci := 1) rfl rfl ?_
      refine J.run csX3_load 10 [] ?_
      exact cQ_0 er R rfl rfl
    · rintro E9 h' ⟨hv, -⟩
      cases hv
  obtain ⟨⟨A, z⟩, ⟨sn, sc, n⟩, ⟨fl, cs, rt⟩, sl, sv⟩ := K
  have hn : n = (s_t S).length := hn
  subst hn
  refine J.run csX3_load 5 [] ?_
  refine J.callRV [] [28, 29] (hm := txt (nI (s_t S).length) cs) (c_X2_isWhole ht hr) kX2_isWhole mRX3_137 dX3_load_4 (by decide) rfl rfl rfl (Nat.le_of_ble_eq_true rfl) (i0 := 0) rfl (ci := 2) rfl rfl ?_
  by_cases w : stL 0 (s_t S) = 6
  · rw [if_pos w]
    refine J.run csX3_load 5 [(20, 1)] ?_
    exact ⟨fun _ => X w, fun q => absurd q (by decide)⟩
  · rw [if_neg w]
    refine J.run csX3_load 5 [(20, 1)] ?_
    exact ⟨fun q => absurd rfl q, fun _ => cQ_1 h (if_neg w)⟩
