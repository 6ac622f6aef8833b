/-! The law's own methods: a call of the class, its answer in a row, or which exception. -/
theorem JX.catchN {M : j_M} {Φ : j_F} {bc bs pc i : Nat} {kf : Fin 4} {lv lv' : j_L} {h : j_H} {E : String} (pre : List ExceptionTableEntry) (x : ExceptionTableEntry) (suf : List ExceptionTableEntry) (hsplit : tableOf (jm_h M) = pre ++ x :: suf)
    (hpass : ∀ z ∈ pre, covers z pc = false ∨ (z.catchType ≠ 0 ∧ ∃ nm : String, Cond.classLink (jm_o M) z.catchType nm ∈ j_ws ∧ (E, nm) ∈ j_nc)) (hcov : covers x pc = true) (h0 : x.catchType ≠ 0) (hlink : Cond.classLink (jm_o M) x.catchType E ∈ j_ws) (hE : E ∈ j_cs)
    (hd : decode (jm_b M) x.handlerPc = .ok (.astore_n kf, 1)) (hkf : (kf : Nat) = i) (hi : i < jm_n M) (hlv' : ∀ q ∈ lv', q ∈ lv.filter (j_k1 i)) (kk : J M Φ bc bs (x.handlerPc + 1) lv' [] h) : JX M Φ bc bs pc lv h E := by
  intro p l e R s m args below meth c D T A N ad0 mc ms hX ad H locs cells slots ls hI rest q ce hq hv hcl
  obtain ⟨hx, hb, hml, hown, hts, hret, hlk, hKk, hstk, hfr, hlo, hmc, hms, hA, hSx, htb, hnm, hsc⟩ := id hX
  obtain ⟨hc, hs, hlv, hP, hD, hSS, hN, hAl⟩ := id hI
  obtain ⟨u1, u2, u3, u4⟩ := hSx.2.2.2.2
  refine vx_catch hown pre x suf (htb.trans hsplit) (fun z hz => ?_) hcov h0 (hts _ hlink) (va_Nw.use rfl (u2 E hE)) hq hv hcl ?_
  · rcases hpass z hz with h | ⟨h1, nm, h2, h3⟩
    · exact Or.inl h
    · exact Or.inr ⟨h1, nm, hts _ h2, u3 _ h3⟩
  · refine lv_astore_n hx hb hd hkf hlv hi (congrArg _ (j_l_k1 ad i lv)) (fun ls' hl' => ?_)
    exact kk p l e R s m args below meth c D T A N ad0 mc ms hX ad H locs cells slots ls' (j_I.put hI ⟨hl'.1, hl'.2.1, fun z hz => hl'.2.2 z (List.mem_cons_of_mem _ (by
      obtain ⟨z0, h1, rfl⟩ := List.mem_map.mp hz
      exact List.mem_map.mpr ⟨z0, hlv' z0 h1, rfl⟩))⟩)
theorem J.last {M : j_M} {Φ : j_F} {bc bs pc : Nat} {lv : j_L} {r : List Value} {h : j_H} {i n : Nat} {x : Int32} {y : Int64} {f : Nat → Int64} (hd : decode (jm_b M) pc = .ok (.lastore, 1)) (h1 : h[i]? = some (.inl (1, n, .inr (.inl f)))) (hin : vp_in x n)
    (k : J M Φ bc bs (pc + 1) lv r (h.set i (.inl (1, n, .inr (.inl (vp_updL f x.toNatClampNeg y)))))) : J M Φ bc bs pc lv (.long y :: .int x :: .ref i :: r) h := by
  refine s_last hd Φ bc bs (J M Φ bc bs) (fun _ _ _ _ q => q) _ _ _ ?_
  show j_la 1 h i (fun n f => vp_in x n ∧ j_setk h i (.inl (1, n, .inr (.inl (vp_updL f x.toNatClampNeg y)))) (fun h' => J M Φ bc bs (pc + 1) lv r h'))
  unfold j_la
  rw [j_nth_eq, h1]
  refine ⟨hin, ?_⟩
  rw [j_setk_eq]
  exact k
/-- the row of the answers -/
def outc (f : Nat → Int64) : j_C := .inl (1, 1, .inr (.inl f))
theorem clw_app (K : cK) (y : j_H) : clw K y = clw K [] ++ y := by
  unfold clw cX
  simp only [List.append_assoc, List.append_nil]
theorem lw_eq (K : cK) (y1 : j_H) (c : j_C) : clw K (y1 ++ [c]) = (clw K [] ++ y1) ++ [c] := by
  rw [clw_app, List.append_assoc]
theorem lw_len {K : cK} {y1 : j_H} (hy : y1.length = 7) : (clw K [] ++ y1).length = 230 := by
  rw [List.length_append, clw_len, hy]
  rfl
theorem lw_get {K : cK} {y1 : j_H} (hy : y1.length = 7) (c : j_C) : (clw K (y1 ++ [c]))[230]? = some c := by
  rw [lw_eq, List.getElem?_append_right (by rw [lw_len hy]; exact Nat.le_refl _), lw_len hy]
  rfl
theorem lw_set {K : cK} {y1 : j_H} (hy : y1.length = 7) (c d : j_C) : (clw K (y1 ++ [c])).set 230 d = clw K (y1 ++ [d]) := by
  rw [lw_eq, lw_eq]
  have := set_app (clw K [] ++ y1) c d
  rw [lw_len hy] at this
  exact this
def wQ (res : aR) (y1 : j_H) : j_F := fun o h' => o = .inl (some (.int (nI res.1))) ∧ ∃ K g, cRel res.2.1 K ∧ (res.1 = 0 → g 0 = res.2.2.toInt64) ∧ h' = clw K (y1 ++ [outc g])
theorem wQ_x {res : aR} {y1 : j_H} {K : cK} {f : Nat → Int64} {n : Nat} (hn : res.1 = n) (h0 : n ≠ 0) (hK : cRel res.2.1 K) : wQ res y1 (.inl (some (.int (nI n)))) (clw K (y1 ++ [outc f])) := by
  subst hn
  exact ⟨rfl, K, f, hK, fun q => absurd q h0, rfl⟩
theorem wQ_0 {res : aR} {y1 : j_H} {K : cK} {f : Nat → Int64} (hn : res.1 = 0) (hK : cRel res.2.1 K) : wQ res y1 (.inl (some (.int (nI 0)))) (clw K (y1 ++ [outc (vp_updL f (0 : Int32).toNatClampNeg res.2.2.toInt64)])) :=
  ⟨by rw [hn], K, _, hK, fun _ => if_pos rfl, rfl⟩
theorem le_rWind (S : aS) (a : Int32) (b : Int32) (c : Int32) : (rWind S a b c).1 ≤ 2 := by
  unfold rWind
  repeat' split
  all_goals exact Nat.le_of_ble_eq_true rfl
theorem c_L_wind {S : aS} {K : cK} {y1 : j_H} {f : Nat → Int64} (h : cRel S K) (hy : y1.length = 7) (a : Int32) (b : Int32) (c : Int32) : Ct ML_wind 3 18 [.ref 0, .int a, .int b, .int c, .ref 230] (clw K (y1 ++ [outc f])) (wQ (rWind S a b c) y1) := by
  refine Ct.ofH (by decide) rfl (by decide +kernel) rfl (Nat.le_of_ble_eq_true rfl) ?_
  have hle := le_rWind S a b c
  have hC := c_X3_wind (y := y1 ++ [outc f]) h a b c
  generalize rWind S a b c = res at hC hle ⊢
  refine J.run csL_wind 20 [] ?_
  refine J.callVI 0 0 [.int 0, .ref 230] hC kX3_wind mRL_7 dL_wind_7 (by decide) (by decide) rfl rfl rfl (Nat.le_of_ble_eq_true rfl) (i0 := 0) rfl (ci := 3) rfl rfl (by decide) (by decide) ?_ ?_
  · rintro v h' ⟨hv, K', hK', rfl⟩
    refine ⟨by rw [clw_len, clw_len], ?_⟩
    by_cases q1 : res.1 = 1
    · rw [if_pos q1] at hv
      cases hv
    · by_cases q2 : res.1 = 2
      · rw [if_neg q1, if_pos q2] at hv
        cases hv
      · rw [if_neg q1, if_neg q2] at hv
        cases hv
        refine J.run csL_wind 1 [] ?_
        refine J.last (i := 230) (n := 1) (f := f) dL_wind_11 (lw_get hy _) (vp_c (by decide)) ?_
        rw [lw_set hy]
        refine J.run csL_wind 10 [] ?_
        exact wQ_0 (by omega) hK'
  · rintro E h' ⟨hv, K', hK', rfl⟩
    refine ⟨by rw [clw_len, clw_len], ?_⟩
    by_cases q1 : res.1 = 1
    · rw [if_pos q1] at hv
      cases hv
      refine JX.catch (lv' := []) [] ⟨0, 12, 15, 13⟩ [⟨0, 12, 19, 15⟩] rfl (fun z hz => by cases hz) (by decide) (by decide) lRL_13 (List.mem_cons_self) dL_wind_15 (by decide) (fun q hq => by cases hq) ?_
      refine J.run csL_wind 5 [] ?_
      exact wQ_x q1 (by decide) hK'
    · rw [if_neg q1] at hv
      by_cases q2 : res.1 = 2
      · rw [if_pos q2] at hv
        cases hv
        refine JX.catch (lv' := []) [⟨0, 12, 15, 13⟩] ⟨0, 12, 19, 15⟩ [] rfl (fun z hz => by
          cases List.mem_singleton.mp hz
          exact Or.inr ⟨by decide, eI, lRL_13, List.mem_cons_self⟩) (by decide) (by decide) lRL_15 (List.mem_cons_of_mem _ List.mem_cons_self) dL_wind_19 (by decide) (fun q hq => by cases hq) ?_
        refine J.run csL_wind 5 [] ?_
        exact wQ_x q2 (by decide) hK'
      · rw [if_neg q2] at hv
        cases hv
theorem le_rVane (S : aS) (a : Int32) (b : Int32) (c : Int32) : (rVane S a b c).1 ≤ 2 := by
  unfold rVane
  repeat' split
  all_goals exact Nat.le_of_ble_eq_true rfl
theorem c_L_vane {S : aS} {K : cK} {y1 : j_H} {f : Nat → Int64} (h : cRel S K) (hy : y1.length = 7) (a : Int32) (b : Int32) (c : Int32) : Ct ML_vane 3 18 [.ref 0, .int a, .int b, .int c, .ref 230] (clw K (y1 ++ [outc f])) (wQ (rVane S a b c) y1) := by
  refine Ct.ofH (by decide) rfl (by decide +kernel) rfl (Nat.le_of_ble_eq_true rfl) ?_
  have hle := le_rVane S a b c
  have hC := c_X3_vane (y := y1 ++ [outc f]) h a b c
  generalize rVane S a b c = res at hC hle ⊢
  refine J.run csL_vane 20 [] ?_
  refine J.callVI 0 0 [.int 0, .ref 230] hC kX3_vane mRL_17 dL_vane_7 (by decide) (by decide) rfl rfl rfl (Nat.le_of_ble_eq_true rfl) (i0 := 0) rfl (ci := 3) rfl rfl (by decide) (by decide) ?_ ?_
  · rintro v h' ⟨hv, K', hK', rfl⟩
    refine ⟨by rw [clw_len, clw_len], ?_⟩
    by_cases q1 : res.1 = 1
    · rw [if_pos q1] at hv
      cases hv
    · by_cases q2 : res.1 = 2
      · rw [if_neg q1, if_pos q2] at hv
        cases hv
      · rw [if_neg q1, if_neg q2] at hv
        cases hv
        refine J.run csL_vane 1 [] ?_
        refine J.last (i := 230) (n := 1) (f := f) dL_vane_11 (lw_get hy _) (vp_c (by decide)) ?_
        rw [lw_set hy]
        refine J.run csL_vane 10 [] ?_
        exact wQ_0 (by omega) hK'
  · rintro E h' ⟨hv, K', hK', rfl⟩
    refine ⟨by rw [clw_len, clw_len], ?_⟩
    by_cases q1 : res.1 = 1
    · rw [if_pos q1] at hv
      cases hv
      refine JX.catch (lv' := []) [] ⟨0, 12, 15, 13⟩ [⟨0, 12, 19, 15⟩] rfl (fun z hz => by cases hz) (by decide) (by decide) lRL_13 (List.mem_cons_self) dL_vane_15 (by decide) (fun q hq => by cases hq) ?_
      refine J.run csL_vane 5 [] ?_
      exact wQ_x q1 (by decide) hK'
    · rw [if_neg q1] at hv
      by_cases q2 : res.1 = 2
      · rw [if_pos q2] at hv
        cases hv
        refine JX.catch (lv' := []) [⟨0, 12, 15, 13⟩] ⟨0, 12, 19, 15⟩ [] rfl (fun z hz => by
          cases List.mem_singleton.mp hz
          exact Or.inr ⟨by decide, eI, lRL_13, List.mem_cons_self⟩) (by decide) (by decide) lRL_15 (List.mem_cons_of_mem _ List.mem_cons_self) dL_vane_19 (by decide) (fun q hq => by cases hq) ?_
        refine J.run csL_vane 5 [] ?_
        exact wQ_x q2 (by decide) hK'
      · rw [if_neg q2] at hv
        cases hv
theorem le_rMill (S : aS) (a : Int32) (b : Int32) : (rMill S a b).1 ≤ 2 := by
  unfold rMill
  repeat' split
  all_goals exact Nat.le_of_ble_eq_true rfl
theorem c_L_mill {S : aS} {K : cK} {y1 : j_H} {f : Nat → Int64} (h : cRel S K) (hy : y1.length = 7) (a : Int32) (b : Int32) : Ct ML_mill 2 12 [.ref 0, .int a, .int b, .ref 230] (clw K (y1 ++ [outc f])) (wQ (rMill S a b) y1) := by
  refine Ct.ofH (by decide) rfl (by decide +kernel) rfl (Nat.le_of_ble_eq_true rfl) ?_
  have hle := le_rMill S a b
  have hC := c_X3_mill (y := y1 ++ [outc f]) h a b
  generalize rMill S a b = res at hC hle ⊢
  refine J.run csL_mill 20 [] ?_
  refine J.callVI 0 0 [.int 0, .ref 230] hC kX3_mill mRL_20 dL_mill_5 (by decide) (by decide) rfl rfl rfl (Nat.le_of_ble_eq_true rfl) (i0 := 0) rfl (ci := 3) rfl rfl (by decide) (by decide) ?_ ?_
  · rintro v h' ⟨hv, K', hK', rfl⟩
    refine ⟨by rw [clw_len, clw_len], ?_⟩
    by_cases q1 : res.1 = 1
    · rw [if_pos q1] at hv
      cases hv
    · by_cases q2 : res.1 = 2
      · rw [if_neg q1, if_pos q2] at hv
        cases hv
      · rw [if_neg q1, if_neg q2] at hv
        cases hv
        refine J.run csL_mill 1 [] ?_
        refine J.last (i := 230) (n := 1) (f := f) dL_mill_9 (lw_get hy _) (vp_c (by decide)) ?_
        rw [lw_set hy]
        refine J.run csL_mill 10 [] ?_
        exact wQ_0 (by omega) hK'
  · rintro E h' ⟨hv, K', hK', rfl⟩
    refine ⟨by rw [clw_len, clw_len], ?_⟩
    by_cases q1 : res.1 = 1
    · rw [if_pos q1] at hv
      cases hv
      refine JX.catch (lv' := []) [] ⟨0, 10, 13, 13⟩ [⟨0, 10, 17, 15⟩] rfl (fun z hz => by cases hz) (by decide) (by decide) lRL_13 (List.mem_cons_self) dL_mill_13 (by decide) (fun q hq => by cases hq) ?_
      refine J.run csL_mill 5 [] ?_
      exact wQ_x q1 (by decide) hK'
    · rw [if_neg q1] at hv
      by_cases q2 : res.1 = 2
      · rw [if_pos q2] at hv
        cases hv
        refine JX.catch (lv' := []) [⟨0, 10, 13, 13⟩] ⟨0, 10, 17, 15⟩ [] rfl (fun z hz => by
          cases List.mem_singleton.mp hz
          exact Or.inr ⟨by decide, eI, lRL_13, List.mem_cons_self⟩) (by decide) (by decide) lRL_15 (List.mem_cons_of_mem _ List.mem_cons_self) dL_mill_17 (by decide) (fun q hq => by cases hq) ?_
        refine J.run csL_mill 5 [] ?_
        exact wQ_x q2 (by decide) hK'
      · rw [if_neg q2] at hv
        cases hv
theorem le_rSet (S : aS) (a : Int32) (b : Int32) : (rSet S a b).1 ≤ 2 := by
  unfold rSet
  repeat' split
  all_goals exact Nat.le_of_ble_eq_true rfl
theorem c_L_set {S : aS} {K : cK} {y1 : j_H} {f : Nat → Int64} (h : cRel S K) (hy : y1.length = 7) (a : Int32) (b : Int32) : Ct ML_set 2 12 [.ref 0, .int a, .int b, .ref 230] (clw K (y1 ++ [outc f])) (wQ (rSet S a b) y1) := by
  refine Ct.ofH (by decide) rfl (by decide +kernel) rfl (Nat.le_of_ble_eq_true rfl) ?_
  have hle := le_rSet S a b
  have hC := c_X3_set (y := y1 ++ [outc f]) h a b
  generalize rSet S a b = res at hC hle ⊢
  refine J.run csL_set 20 [] ?_
  refine J.callVI 0 0 [.int 0, .ref 230] hC kX3_set mRL_24 dL_set_5 (by decide) (by decide) rfl rfl rfl (Nat.le_of_ble_eq_true rfl) (i0 := 0) rfl (ci := 3) rfl rfl (by decide) (by decide) ?_ ?_
  · rintro v h' ⟨hv, K', hK', rfl⟩
    refine ⟨by rw [clw_len, clw_len], ?_⟩
    by_cases q1 : res.1 = 1
    · rw [if_pos q1] at hv
      cases hv
    · by_cases q2 : res.1 = 2
      · rw [if_neg q1, if_pos q2] at hv
        cases hv
      · rw [if_neg q1, if_neg q2] at hv
        cases hv
        refine J.run csL_set 1 [] ?_
        refine J.last (i := 230) (n := 1) (f := f) dL_set_9 (lw_get hy _) (vp_c (by decide)) ?_
        rw [lw_set hy]
        refine J.run csL_set 10 [] ?_
        exact wQ_0 (by omega) hK'
  · rintro E h' ⟨hv, K', hK', rfl⟩
    refine ⟨by rw [clw_len, clw_len], ?_⟩
    by_cases q1 : res.1 = 1
    · rw [if_pos q1] at hv
      cases hv
      refine JX.catch (lv' := []) [] ⟨0, 10, 13, 13⟩ [⟨0, 10, 17, 15⟩] rfl (fun z hz => by cases hz) (by decide) (by decide) lRL_13 (List.mem_cons_self) dL_set_13 (by decide) (fun q hq => by cases hq) ?_
      refine J.run csL_set 5 [] ?_
      exact wQ_x q1 (by decide) hK'
    · rw [if_neg q1] at hv
      by_cases q2 : res.1 = 2
      · rw [if_pos q2] at hv
        cases hv
        refine JX.catch (lv' := []) [⟨0, 10, 13, 13⟩] ⟨0, 10, 17, 15⟩ [] rfl (fun z hz => by
          cases List.mem_singleton.mp hz
          exact Or.inr ⟨by decide, eI, lRL_13, List.mem_cons_self⟩) (by decide) (by decide) lRL_15 (List.mem_cons_of_mem _ List.mem_cons_self) dL_set_17 (by decide) (fun q hq => by cases hq) ?_
        refine J.run csL_set 5 [] ?_
        exact wQ_x q2 (by decide) hK'
      · rw [if_neg q2] at hv
        cases hv
theorem le_rBring (S : aS) (a : Int32) (b : Int32) (c : Int32) : (rBring S a b c).1 ≤ 2 := by
  unfold rBring
  repeat' split
  all_goals exact Nat.le_of_ble_eq_true rfl
theorem c_L_bring {S : aS} {K : cK} {y1 : j_H} {f : Nat → Int64} (h : cRel S K) (hy : y1.length = 7) (a : Int32) (b : Int32) (c : Int32) : Ct ML_bring 3 18 [.ref 0, .int a, .int b, .int c, .ref 230] (clw K (y1 ++ [outc f])) (wQ (rBring S a b c) y1) := by
  refine Ct.ofH (by decide) rfl (by decide +kernel) rfl (Nat.le_of_ble_eq_true rfl) ?_
  have hle := le_rBring S a b c
  have hC := c_X3_bring (y := y1 ++ [outc f]) h a b c
  generalize rBring S a b c = res at hC hle ⊢
  refine J.run csL_bring 20 [] ?_
  refine J.callVI 0 0 [.int 0, .ref 230] hC kX3_bring mRL_27 dL_bring_7 (by decide) (by decide) rfl rfl rfl (Nat.le_of_ble_eq_true rfl) (i0 := 0) rfl (ci := 3) rfl rfl (by decide) (by decide) ?_ ?_
  · rintro v h' ⟨hv, K', hK', rfl⟩
    refine ⟨by rw [clw_len, clw_len], ?_⟩
    by_cases q1 : res.1 = 1
    · rw [if_pos q1] at hv
      cases hv
    · by_cases q2 : res.1 = 2
      · rw [if_neg q1, if_pos q2] at hv
        cases hv
      · rw [if_neg q1, if_neg q2] at hv
        cases hv
        refine J.run csL_bring 1 [] ?_
        refine J.last (i := 230) (n := 1) (f := f) dL_bring_11 (lw_get hy _) (vp_c (by decide)) ?_
        rw [lw_set hy]
        refine J.run csL_bring 10 [] ?_
        exact wQ_0 (by omega) hK'
  · rintro E h' ⟨hv, K', hK', rfl⟩
    refine ⟨by rw [clw_len, clw_len], ?_⟩
    by_cases q1 : res.1 = 1
    · rw [if_pos q1] at hv
      cases hv
      refine JX.catch (lv' := []) [] ⟨0, 12, 15, 13⟩ [⟨0, 12, 19, 15⟩] rfl (fun z hz => by cases hz) (by decide) (by decide) lRL_13 (List.mem_cons_self) dL_bring_15 (by decide) (fun q hq => by cases hq) ?_
      refine J.run csL_bring 5 [] ?_
      exact wQ_x q1 (by decide) hK'
    · rw [if_neg q1] at hv
      by_cases q2 : res.1 = 2
      · rw [if_pos q2] at hv
        cases hv
        refine JX.catch (lv' := []) [⟨0, 12, 15, 13⟩] ⟨0, 12, 19, 15⟩ [] rfl (fun z hz => by
          cases List.mem_singleton.mp hz
          exact Or.inr ⟨by decide, eI, lRL_13, List.mem_cons_self⟩) (by decide) (by decide) lRL_15 (List.mem_cons_of_mem _ List.mem_cons_self) dL_bring_19 (by decide) (fun q hq => by cases hq) ?_
        refine J.run csL_bring 5 [] ?_
        exact wQ_x q2 (by decide) hK'
      · rw [if_neg q2] at hv
        cases hv
theorem le_rTake (S : aS) (a : Int32) : (rTake S a).1 ≤ 1 := by
  unfold rTake
  repeat' split
  all_goals exact Nat.le_of_ble_eq_true rfl
theorem c_L_takeBack {S : aS} {K : cK} {y1 : j_H} {f : Nat → Int64} (h : cRel S K) (hy : y1.length = 7) (a : Int32) : Ct ML_takeBack 1 6 [.ref 0, .int a, .ref 230] (clw K (y1 ++ [outc f])) (wQ (rTake S a) y1) := by
  refine Ct.ofH (by decide) rfl (by decide +kernel) rfl (Nat.le_of_ble_eq_true rfl) ?_
  have hle := le_rTake S a
  have hC := c_X3_takeBack (y := y1 ++ [outc f]) h a
  generalize rTake S a = res at hC hle ⊢
  refine J.run csL_takeBack 20 [] ?_
  refine J.callVI 0 0 [.int 0, .ref 230] hC kX3_takeBack mRL_30 dL_takeBack_4 (by decide) (by decide) rfl rfl rfl (Nat.le_of_ble_eq_true rfl) (i0 := 0) rfl (ci := 3) rfl rfl (by decide) (by decide) ?_ ?_
  · rintro v h' ⟨hv, K', hK', rfl⟩
    refine ⟨by rw [clw_len, clw_len], ?_⟩
    by_cases q1 : res.1 = 1
    · rw [if_pos q1] at hv
      cases hv
    · by_cases q2 : res.1 = 2
      · rw [if_neg q1, if_pos q2] at hv
        cases hv
      · rw [if_neg q1, if_neg q2] at hv
        cases hv
        refine J.run csL_takeBack 1 [] ?_
        refine J.last (i := 230) (n := 1) (f := f) dL_takeBack_8 (lw_get hy _) (vp_c (by decide)) ?_
        rw [lw_set hy]
        refine J.run csL_takeBack 10 [] ?_
        exact wQ_0 (by omega) hK'
  · rintro E h' ⟨hv, K', hK', rfl⟩
    refine ⟨by rw [clw_len, clw_len], ?_⟩
    by_cases q1 : res.1 = 1
    · rw [if_pos q1] at hv
      cases hv
      refine JX.catchN (lv' := []) [] ⟨0, 9, 12, 13⟩ [] rfl (fun z hz => by cases hz) (by decide) (by decide) lRL_13 (List.mem_cons_self) dL_takeBack_12 rfl (by decide) (fun q hq => by cases hq) ?_
      refine J.run csL_takeBack 5 [] ?_
      exact wQ_x q1 (by decide) hK'
    · rw [if_neg q1] at hv
      rw [if_neg (by omega)] at hv
      cases hv
theorem le_rPass (S : aS) (a : Int32) : (rPass S a).1 ≤ 2 := by
  unfold rPass
  repeat' split
  all_goals exact Nat.le_of_ble_eq_true rfl
theorem c_L_pass {S : aS} {K : cK} {y1 : j_H} {f : Nat → Int64} (h : cRel S K) (hy : y1.length = 7) (a : Int32) : Ct ML_pass 2 12 [.ref 0, .int a, .ref 230] (clw K (y1 ++ [outc f])) (wQ (rPass S a) y1) := by
  refine Ct.ofH (by decide) rfl (by decide +kernel) rfl (Nat.le_of_ble_eq_true rfl) ?_
  have hle := le_rPass S a
  have hC := c_X3_pass (y := y1 ++ [outc f]) h a
  generalize rPass S a = res at hC hle ⊢
  refine J.run csL_pass 20 [] ?_
  refine J.callVI 0 0 [.int 0, .ref 230] hC kX3_pass mRL_34 dL_pass_4 (by decide) (by decide) rfl rfl rfl (Nat.le_of_ble_eq_true rfl) (i0 := 0) rfl (ci := 3) rfl rfl (by decide) (by decide) ?_ ?_
  · rintro v h' ⟨hv, K', hK', rfl⟩
    refine ⟨by rw [clw_len, clw_len], ?_⟩
    by_cases q1 : res.1 = 1
    · rw [if_pos q1] at hv
      cases hv
    · by_cases q2 : res.1 = 2
      · rw [if_neg q1, if_pos q2] at hv
        cases hv
      · rw [if_neg q1, if_neg q2] at hv
        cases hv
        refine J.run csL_pass 1 [] ?_
        refine J.last (i := 230) (n := 1) (f := f) dL_pass_8 (lw_get hy _) (vp_c (by decide)) ?_
        rw [lw_set hy]
        refine J.run csL_pass 10 [] ?_
        exact wQ_0 (by omega) hK'
  · rintro E h' ⟨hv, K', hK', rfl⟩
    refine ⟨by rw [clw_len, clw_len], ?_⟩
    by_cases q1 : res.1 = 1
    · rw [if_pos q1] at hv
      cases hv
      refine JX.catchN (lv' := []) [] ⟨0, 9, 12, 15⟩ [⟨0, 9, 15, 37⟩] rfl (fun z hz => by cases hz) (by decide) (by decide) lRL_15 (List.mem_cons_of_mem _ List.mem_cons_self) dL_pass_12 rfl (by decide) (fun q hq => by cases hq) ?_
      refine J.run csL_pass 5 [] ?_
      exact wQ_x q1 (by decide) hK'
    · rw [if_neg q1] at hv
      by_cases q2 : res.1 = 2
      · rw [if_pos q2] at hv
        cases hv
        refine JX.catchN (lv' := []) [⟨0, 9, 12, 15⟩] ⟨0, 9, 15, 37⟩ [] rfl (fun z hz => by
          cases List.mem_singleton.mp hz
          exact Or.inr ⟨by decide, eA, lRL_15, List.mem_cons_of_mem _ List.mem_cons_self⟩) (by decide) (by decide) lRL_37 (List.mem_cons_of_mem _ (List.mem_cons_of_mem _ List.mem_cons_self)) dL_pass_15 rfl (by decide) (fun q hq => by cases hq) ?_
        refine J.run csL_pass 5 [] ?_
        exact wQ_x q2 (by decide) hK'
      · rw [if_neg q2] at hv
        cases hv
theorem le_rApp (S : aS) (a : Int32) : (rApp S a).1 ≤ 2 := by
  unfold rApp
  repeat' split
  all_goals exact Nat.le_of_ble_eq_true rfl
theorem c_L_append {S : aS} {K : cK} {y1 : j_H} {f : Nat → Int64} (h : cRel S K) (hy : y1.length = 7) (a : Int32) : Ct ML_append 2 12 [.ref 0, .int a, .ref 230] (clw K (y1 ++ [outc f])) (wQ (rApp S a) y1) := by
  refine Ct.ofH (by decide) rfl (by decide +kernel) rfl (Nat.le_of_ble_eq_true rfl) ?_
  have hle := le_rApp S a
  have hC := c_X3_append (y := y1 ++ [outc f]) h a
  generalize rApp S a = res at hC hle ⊢
  refine J.run csL_append 20 [] ?_
  refine J.callVI 0 0 [.int 0, .ref 230] hC kX3_append mRL_39 dL_append_4 (by decide) (by decide) rfl rfl rfl (Nat.le_of_ble_eq_true rfl) (i0 := 0) rfl (ci := 3) rfl rfl (by decide) (by decide) ?_ ?_
  · rintro v h' ⟨hv, K', hK', rfl⟩
    refine ⟨by rw [clw_len, clw_len], ?_⟩
    by_cases q1 : res.1 = 1
    · rw [if_pos q1] at hv
      cases hv
    · by_cases q2 : res.1 = 2
      · rw [if_neg q1, if_pos q2] at hv
        cases hv
      · rw [if_neg q1, if_neg q2] at hv
        cases hv
        refine J.run csL_append 1 [] ?_
        refine J.last (i := 230) (n := 1) (f := f) dL_append_8 (lw_get hy _) (vp_c (by decide)) ?_
        rw [lw_set hy]
        refine J.run csL_append 10 [] ?_
        exact wQ_0 (by omega) hK'
  · rintro E h' ⟨hv, K', hK', rfl⟩
    refine ⟨by rw [clw_len, clw_len], ?_⟩
    by_cases q1 : res.1 = 1
    · rw [if_pos q1] at hv
      cases hv
      refine JX.catchN (lv' := []) [] ⟨0, 9, 12, 15⟩ [⟨0, 9, 15, 37⟩] rfl (fun z hz => by cases hz) (by decide) (by decide) lRL_15 (List.mem_cons_of_mem _ List.mem_cons_self) dL_append_12 rfl (by decide) (fun q hq => by cases hq) ?_
      refine J.run csL_append 5 [] ?_
      exact wQ_x q1 (by decide) hK'
    · rw [if_neg q1] at hv
      by_cases q2 : res.1 = 2
      · rw [if_pos q2] at hv
        cases hv
        refine JX.catchN (lv' := []) [⟨0, 9, 12, 15⟩] ⟨0, 9, 15, 37⟩ [] rfl (fun z hz => by
          cases List.mem_singleton.mp hz
          exact Or.inr ⟨by decide, eA, lRL_15, List.mem_cons_of_mem _ List.mem_cons_self⟩) (by decide) (by decide) lRL_37 (List.mem_cons_of_mem _ (List.mem_cons_of_mem _ List.mem_cons_self)) dL_append_15 rfl (by decide) (fun q hq => by cases hq) ?_
        refine J.run csL_append 5 [] ?_
        exact wQ_x q2 (by decide) hK'
      · rw [if_neg q2] at hv
        cases hv
theorem le_rLoad (S : aS) : (rLoad S).1 ≤ 1 := by
  unfold rLoad
  repeat' split
  all_goals exact Nat.le_of_ble_eq_true rfl
theorem c_L_load {S : aS} {K : cK} {y1 : j_H} {f : Nat → Int64} (h : cRel S K) (hy : y1.length = 7) : Ct ML_load 1 6 [.ref 0, .ref 230] (clw K (y1 ++ [outc f])) (wQ (rLoad S) y1) := by
  refine Ct.ofH (by decide) rfl (by decide +kernel) rfl (Nat.le_of_ble_eq_true rfl) ?_
  have hle := le_rLoad S
  have hC := c_X3_load (y := y1 ++ [outc f]) h
  generalize rLoad S = res at hC hle ⊢
  refine J.run csL_load 20 [] ?_
  refine J.callVI 0 0 [.int 0, .ref 230] hC kX3_load mRL_42 dL_load_3 (by decide) (by decide) rfl rfl rfl (Nat.le_of_ble_eq_true rfl) (i0 := 0) rfl (ci := 3) rfl rfl (by decide) (by decide) ?_ ?_
  · rintro v h' ⟨hv, K', hK', rfl⟩
    refine ⟨by rw [clw_len, clw_len], ?_⟩
    by_cases q1 : res.1 = 1
    · rw [if_pos q1] at hv
      cases hv
    · by_cases q2 : res.1 = 2
      · rw [if_neg q1, if_pos q2] at hv
        cases hv
      · rw [if_neg q1, if_neg q2] at hv
        cases hv
        refine J.run csL_load 1 [] ?_
        refine J.last (i := 230) (n := 1) (f := f) dL_load_7 (lw_get hy _) (vp_c (by decide)) ?_
        rw [lw_set hy]
        refine J.run csL_load 10 [] ?_
        exact wQ_0 (by omega) hK'
  · rintro E h' ⟨hv, K', hK', rfl⟩
    refine ⟨by rw [clw_len, clw_len], ?_⟩
    by_cases q1 : res.1 = 1
    · rw [if_pos q1] at hv
      cases hv
      refine JX.catchN (lv' := []) [] ⟨0, 8, 11, 15⟩ [] rfl (fun z hz => by cases hz) (by decide) (by decide) lRL_15 (List.mem_cons_of_mem _ List.mem_cons_self) dL_load_11 rfl (by decide) (fun q hq => by cases hq) ?_
      refine J.run csL_load 5 [] ?_
      exact wQ_x q1 (by decide) hK'
    · rw [if_neg q1] at hv
      rw [if_neg (by omega)] at hv
      cases hv
theorem le_rKeep (S : aS) (a : Int32) : (rKeep S a).1 ≤ 1 := by
  unfold rKeep
  repeat' split
  all_goals exact Nat.le_of_ble_eq_true rfl
theorem c_L_keep {S : aS} {K : cK} {y1 : j_H} {f : Nat → Int64} (h : cRel S K) (hy : y1.length = 7) (a : Int32) : Ct ML_keep 1 6 [.ref 0, .int a, .ref 230] (clw K (y1 ++ [outc f])) (wQ (rKeep S a) y1) := by
  refine Ct.ofH (by decide) rfl (by decide +kernel) rfl (Nat.le_of_ble_eq_true rfl) ?_
  have hle := le_rKeep S a
  have hC := c_X3_keep (y := y1 ++ [outc f]) h a
  generalize rKeep S a = res at hC hle ⊢
  refine J.run csL_keep 20 [] ?_
  refine J.callVI 0 0 [.int 0, .ref 230] hC kX3_keep mRL_46 dL_keep_4 (by decide) (by decide) rfl rfl rfl (Nat.le_of_ble_eq_true rfl) (i0 := 0) rfl (ci := 3) rfl rfl (by decide) (by decide) ?_ ?_
  · rintro v h' ⟨hv, K', hK', rfl⟩
    refine ⟨by rw [clw_len, clw_len], ?_⟩
    by_cases q1 : res.1 = 1
    · rw [if_pos q1] at hv
      cases hv
    · by_cases q2 : res.1 = 2
      · rw [if_neg q1, if_pos q2] at hv
        cases hv
      · rw [if_neg q1, if_neg q2] at hv
        cases hv
        refine J.run csL_keep 1 [] ?_
        refine J.last (i := 230) (n := 1) (f := f) dL_keep_8 (lw_get hy _) (vp_c (by decide)) ?_
        rw [lw_set hy]
        refine J.run csL_keep 10 [] ?_
        exact wQ_0 (by omega) hK'
  · rintro E h' ⟨hv, K', hK', rfl⟩
    refine ⟨by rw [clw_len, clw_len], ?_⟩
    by_cases q1 : res.1 = 1
    · rw [if_pos q1] at hv
      cases hv
      refine JX.catchN (lv' := []) [] ⟨0, 9, 12, 15⟩ [] rfl (fun z hz => by cases hz) (by decide) (by decide) lRL_15 (List.mem_cons_of_mem _ List.mem_cons_self) dL_keep_12 rfl (by decide) (fun q hq => by cases hq) ?_
      refine J.run csL_keep 5 [] ?_
      exact wQ_x q1 (by decide) hK'
    · rw [if_neg q1] at hv
      rw [if_neg (by omega)] at hv
      cases hv
theorem le_rGo (S : aS) (a : Int32) : (rGo S a).1 ≤ 2 := by
  unfold rGo
  repeat' split
  all_goals exact Nat.le_of_ble_eq_true rfl
theorem c_L_goBack {S : aS} {K : cK} {y1 : j_H} {f : Nat → Int64} (h : cRel S K) (hy : y1.length = 7) (a : Int32) : Ct ML_goBack 2 12 [.ref 0, .int a, .ref 230] (clw K (y1 ++ [outc f])) (wQ (rGo S a) y1) := by
  refine Ct.ofH (by decide) rfl (by decide +kernel) rfl (Nat.le_of_ble_eq_true rfl) ?_
  have hle := le_rGo S a
  have hC := c_X3_goBack (y := y1 ++ [outc f]) h a
  generalize rGo S a = res at hC hle ⊢
  refine J.run csL_goBack 20 [] ?_
  refine J.callVI 0 0 [.int 0, .ref 230] hC kX3_goBack mRL_49 dL_goBack_4 (by decide) (by decide) rfl rfl rfl (Nat.le_of_ble_eq_true rfl) (i0 := 0) rfl (ci := 3) rfl rfl (by decide) (by decide) ?_ ?_
  · rintro v h' ⟨hv, K', hK', rfl⟩
    refine ⟨by rw [clw_len, clw_len], ?_⟩
    by_cases q1 : res.1 = 1
    · rw [if_pos q1] at hv
      cases hv
    · by_cases q2 : res.1 = 2
      · rw [if_neg q1, if_pos q2] at hv
        cases hv
      · rw [if_neg q1, if_neg q2] at hv
        cases hv
        refine J.run csL_goBack 1 [] ?_
        refine J.last (i := 230) (n := 1) (f := f) dL_goBack_8 (lw_get hy _) (vp_c (by decide)) ?_
        rw [lw_set hy]
        refine J.run csL_goBack 10 [] ?_
        exact wQ_0 (by omega) hK'
  · rintro E h' ⟨hv, K', hK', rfl⟩
    refine ⟨by rw [clw_len, clw_len], ?_⟩
    by_cases q1 : res.1 = 1
    · rw [if_pos q1] at hv
      cases hv
      refine JX.catchN (lv' := []) [] ⟨0, 9, 12, 15⟩ [⟨0, 9, 15, 37⟩] rfl (fun z hz => by cases hz) (by decide) (by decide) lRL_15 (List.mem_cons_of_mem _ List.mem_cons_self) dL_goBack_12 rfl (by decide) (fun q hq => by cases hq) ?_
      refine J.run csL_goBack 5 [] ?_
      exact wQ_x q1 (by decide) hK'
    · rw [if_neg q1] at hv
      by_cases q2 : res.1 = 2
      · rw [if_pos q2] at hv
        cases hv
        refine JX.catchN (lv' := []) [⟨0, 9, 12, 15⟩] ⟨0, 9, 15, 37⟩ [] rfl (fun z hz => by
          cases List.mem_singleton.mp hz
          exact Or.inr ⟨by decide, eA, lRL_15, List.mem_cons_of_mem _ List.mem_cons_self⟩) (by decide) (by decide) lRL_37 (List.mem_cons_of_mem _ (List.mem_cons_of_mem _ List.mem_cons_self)) dL_goBack_15 rfl (by decide) (fun q hq => by cases hq) ?_
        refine J.run csL_goBack 5 [] ?_
        exact wQ_x q2 (by decide) hK'
      · rw [if_neg q2] at hv
        cases hv
theorem le_rUndo (S : aS) : (rUndo S).1 ≤ 1 := by
  unfold rUndo
  repeat' split
  all_goals exact Nat.le_of_ble_eq_true rfl
theorem c_L_undo {S : aS} {K : cK} {y1 : j_H} {f : Nat → Int64} (h : cRel S K) (hy : y1.length = 7) : Ct ML_undo 1 6 [.ref 0, .ref 230] (clw K (y1 ++ [outc f])) (wQ (rUndo S) y1) := by
  refine Ct.ofH (by decide) rfl (by decide +kernel) rfl (Nat.le_of_ble_eq_true rfl) ?_
  have hle := le_rUndo S
  have hC := c_X3_undo (y := y1 ++ [outc f]) h
  generalize rUndo S = res at hC hle ⊢
  refine J.run csL_undo 20 [] ?_
  refine J.callVI 0 0 [.int 0, .ref 230] hC kX3_undo mRL_52 dL_undo_3 (by decide) (by decide) rfl rfl rfl (Nat.le_of_ble_eq_true rfl) (i0 := 0) rfl (ci := 3) rfl rfl (by decide) (by decide) ?_ ?_
  · rintro v h' ⟨hv, K', hK', rfl⟩
    refine ⟨by rw [clw_len, clw_len], ?_⟩
    by_cases q1 : res.1 = 1
    · rw [if_pos q1] at hv
      cases hv
    · by_cases q2 : res.1 = 2
      · rw [if_neg q1, if_pos q2] at hv
        cases hv
      · rw [if_neg q1, if_neg q2] at hv
        cases hv
        refine J.run csL_undo 1 [] ?_
        refine J.last (i := 230) (n := 1) (f := f) dL_undo_7 (lw_get hy _) (vp_c (by decide)) ?_
        rw [lw_set hy]
        refine J.run csL_undo 10 [] ?_
        exact wQ_0 (by omega) hK'
  · rintro E h' ⟨hv, K', hK', rfl⟩
    refine ⟨by rw [clw_len, clw_len], ?_⟩
    by_cases q1 : res.1 = 1
    · rw [if_pos q1] at hv
      cases hv
      refine JX.catchN (lv' := []) [] ⟨0, 8, 11, 37⟩ [] rfl (fun z hz => by cases hz) (by decide) (by decide) lRL_37 (List.mem_cons_of_mem _ (List.mem_cons_of_mem _ List.mem_cons_self)) dL_undo_11 rfl (by decide) (fun q hq => by cases hq) ?_
      refine J.run csL_undo 5 [] ?_
      exact wQ_x q1 (by decide) hK'
    · rw [if_neg q1] at hv
      rw [if_neg (by omega)] at hv
      cases hv
theorem le_rHour (S : aS) (a : Int32) (b : Int32) : (rHour S a b).1 ≤ 2 := by
  unfold rHour
  repeat' split
  all_goals exact Nat.le_of_ble_eq_true rfl
theorem c_L_hourOf {S : aS} {K : cK} {y1 : j_H} {f : Nat → Int64} (h : cRel S K) (hy : y1.length = 7) (a : Int32) (b : Int32) : Ct ML_hourOf 2 12 [.ref 0, .int a, .int b, .ref 230] (clw K (y1 ++ [outc f])) (wQ (rHour S a b) y1) := by
  refine Ct.ofH (by decide) rfl (by decide +kernel) rfl (Nat.le_of_ble_eq_true rfl) ?_
  have hle := le_rHour S a b
  have hC := c_X3_hourOf (y := y1 ++ [outc f]) h a b
  generalize rHour S a b = res at hC hle ⊢
  refine J.run csL_hourOf 20 [] ?_
  refine J.callVI 0 0 [.int 0, .ref 230] hC kX3_hourOf mRL_55 dL_hourOf_5 (by decide) (by decide) rfl rfl rfl (Nat.le_of_ble_eq_true rfl) (i0 := 0) rfl (ci := 3) rfl rfl (by decide) (by decide) ?_ ?_
  · rintro v h' ⟨hv, K', hK', rfl⟩
    refine ⟨by rw [clw_len, clw_len], ?_⟩
    by_cases q1 : res.1 = 1
    · rw [if_pos q1] at hv
      cases hv
    · by_cases q2 : res.1 = 2
      · rw [if_neg q1, if_pos q2] at hv
        cases hv
      · rw [if_neg q1, if_neg q2] at hv
        cases hv
        refine J.run csL_hourOf 1 [] ?_
        refine J.last (i := 230) (n := 1) (f := f) dL_hourOf_9 (lw_get hy _) (vp_c (by decide)) ?_
        rw [lw_set hy]
        refine J.run csL_hourOf 10 [] ?_
        exact wQ_0 (by omega) hK'
  · rintro E h' ⟨hv, K', hK', rfl⟩
    refine ⟨by rw [clw_len, clw_len], ?_⟩
    by_cases q1 : res.1 = 1
    · rw [if_pos q1] at hv
      cases hv
      refine JX.catch (lv' := []) [] ⟨0, 10, 13, 13⟩ [⟨0, 10, 17, 15⟩] rfl (fun z hz => by cases hz) (by decide) (by decide) lRL_13 (List.mem_cons_self) dL_hourOf_13 (by decide) (fun q hq => by cases hq) ?_
      refine J.run csL_hourOf 5 [] ?_
      exact wQ_x q1 (by decide) hK'
    · rw [if_neg q1] at hv
      by_cases q2 : res.1 = 2
      · rw [if_pos q2] at hv
        cases hv
        refine JX.catch (lv' := []) [⟨0, 10, 13, 13⟩] ⟨0, 10, 17, 15⟩ [] rfl (fun z hz => by
          cases List.mem_singleton.mp hz
          exact Or.inr ⟨by decide, eI, lRL_13, List.mem_cons_self⟩) (by decide) (by decide) lRL_15 (List.mem_cons_of_mem _ List.mem_cons_self) dL_hourOf_17 (by decide) (fun q hq => by cases hq) ?_
        refine J.run csL_hourOf 5 [] ?_
        exact wQ_x q2 (by decide) hK'
      · rw [if_neg q2] at hv
        cases hv
theorem le_rVaneOf (S : aS) (a : Int32) (b : Int32) : (rVaneOf S a b).1 ≤ 2 := by
  unfold rVaneOf
  repeat' split
  all_goals exact Nat.le_of_ble_eq_true rfl
theorem c_L_vaneOf {S : aS} {K : cK} {y1 : j_H} {f : Nat → Int64} (h : cRel S K) (hy : y1.length = 7) (a : Int32) (b : Int32) : Ct ML_vaneOf 2 12 [.ref 0, .int a, .int b, .ref 230] (clw K (y1 ++ [outc f])) (wQ (rVaneOf S a b) y1) := by
  refine Ct.ofH (by decide) rfl (by decide +kernel) rfl (Nat.le_of_ble_eq_true rfl) ?_
  have hle := le_rVaneOf S a b
  have hC := c_X3_vaneOf (y := y1 ++ [outc f]) h a b
  generalize rVaneOf S a b = res at hC hle ⊢
  refine J.run csL_vaneOf 20 [] ?_
  refine J.callVI 0 0 [.int 0, .ref 230] hC kX3_vaneOf mRL_58 dL_vaneOf_5 (by decide) (by decide) rfl rfl rfl (Nat.le_of_ble_eq_true rfl) (i0 := 0) rfl (ci := 3) rfl rfl (by decide) (by decide) ?_ ?_
  · rintro v h' ⟨hv, K', hK', rfl⟩
    refine ⟨by rw [clw_len, clw_len], ?_⟩
    by_cases q1 : res.1 = 1
    · rw [if_pos q1] at hv
      cases hv
    · by_cases q2 : res.1 = 2
      · rw [if_neg q1, if_pos q2] at hv
        cases hv
      · rw [if_neg q1, if_neg q2] at hv
        cases hv
        refine J.run csL_vaneOf 1 [] ?_
        refine J.last (i := 230) (n := 1) (f := f) dL_vaneOf_9 (lw_get hy _) (vp_c (by decide)) ?_
        rw [lw_set hy]
        refine J.run csL_vaneOf 10 [] ?_
        exact wQ_0 (by omega) hK'
  · rintro E h' ⟨hv, K', hK', rfl⟩
    refine ⟨by rw [clw_len, clw_len], ?_⟩
    by_cases q1 : res.1 = 1
    · rw [if_pos q1] at hv
      cases hv
      refine JX.catch (lv' := []) [] ⟨0, 10, 13, 13⟩ [⟨0, 10, 17, 15⟩] rfl (fun z hz => by cases hz) (by decide) (by decide) lRL_13 (List.mem_cons_self) dL_vaneOf_13 (by decide) (fun q hq => by cases hq) ?_
      refine J.run csL_vaneOf 5 [] ?_
      exact wQ_x q1 (by decide) hK'
    · rw [if_neg q1] at hv
      by_cases q2 : res.1 = 2
      · rw [if_pos q2] at hv
        cases hv
        refine JX.catch (lv' := []) [⟨0, 10, 13, 13⟩] ⟨0, 10, 17, 15⟩ [] rfl (fun z hz => by
          cases List.mem_singleton.mp hz
          exact Or.inr ⟨by decide, eI, lRL_13, List.mem_cons_self⟩) (by decide) (by decide) lRL_15 (List.mem_cons_of_mem _ List.mem_cons_self) dL_vaneOf_17 (by decide) (fun q hq => by cases hq) ?_
        refine J.run csL_vaneOf 5 [] ?_
        exact wQ_x q2 (by decide) hK'
      · rw [if_neg q2] at hv
        cases hv
theorem le_rMillOf (S : aS) (a : Int32) (b : Int32) : (rMillOf S a b).1 ≤ 2 := by
  unfold rMillOf
  repeat' split
  all_goals exact Nat.le_of_ble_eq_true rfl
theorem c_L_millOf {S : aS} {K : cK} {y1 : j_H} {f : Nat → Int64} (h : cRel S K) (hy : y1.length = 7) (a : Int32) (b : Int32) : Ct ML_millOf 2 12 [.ref 0, .int a, .int b, .ref 230] (clw K (y1 ++ [outc f])) (wQ (rMillOf S a b) y1) := by
  refine Ct.ofH (by decide) rfl (by decide +kernel) rfl (Nat.le_of_ble_eq_true rfl) ?_
  have hle := le_rMillOf S a b
  have hC := c_X3_millOf (y := y1 ++ [outc f]) h a b
  generalize rMillOf S a b = res at hC hle ⊢
  refine J.run csL_millOf 20 [] ?_
  refine J.callVI 0 0 [.int 0, .ref 230] hC kX3_millOf mRL_61 dL_millOf_5 (by decide) (by decide) rfl rfl rfl (Nat.le_of_ble_eq_true rfl) (i0 := 0) rfl (ci := 3) rfl rfl (by decide) (by decide) ?_ ?_
  · rintro v h' ⟨hv, K', hK', rfl⟩
    refine ⟨by rw [clw_len, clw_len], ?_⟩
    by_cases q1 : res.1 = 1
    · rw [if_pos q1] at hv
      cases hv
    · by_cases q2 : res.1 = 2
      · rw [if_neg q1, if_pos q2] at hv
        cases hv
      · rw [if_neg q1, if_neg q2] at hv
        cases hv
        refine J.run csL_millOf 1 [] ?_
        refine J.last (i := 230) (n := 1) (f := f) dL_millOf_9 (lw_get hy _) (vp_c (by decide)) ?_
        rw [lw_set hy]
        refine J.run csL_millOf 10 [] ?_
        exact wQ_0 (by omega) hK'
  · rintro E h' ⟨hv, K', hK', rfl⟩
    refine ⟨by rw [clw_len, clw_len], ?_⟩
    by_cases q1 : res.1 = 1
    · rw [if_pos q1] at hv
      cases hv
      refine JX.catch (lv' := []) [] ⟨0, 10, 13, 13⟩ [⟨0, 10, 17, 15⟩] rfl (fun z hz => by cases hz) (by decide) (by decide) lRL_13 (List.mem_cons_self) dL_millOf_13 (by decide) (fun q hq => by cases hq) ?_
      refine J.run csL_millOf 5 [] ?_
      exact wQ_x q1 (by decide) hK'
    · rw [if_neg q1] at hv
      by_cases q2 : res.1 = 2
      · rw [if_pos q2] at hv
        cases hv
        refine JX.catch (lv' := []) [⟨0, 10, 13, 13⟩] ⟨0, 10, 17, 15⟩ [] rfl (fun z hz => by
          cases List.mem_singleton.mp hz
          exact Or.inr ⟨by decide, eI, lRL_13, List.mem_cons_self⟩) (by decide) (by decide) lRL_15 (List.mem_cons_of_mem _ List.mem_cons_self) dL_millOf_17 (by decide) (fun q hq => by cases hq) ?_
        refine J.run csL_millOf 5 [] ?_
        exact wQ_x q2 (by decide) hK'
      · rw [if_neg q2] at hv
        cases hv
theorem le_rOwner (S : aS) (a : Int32) (b : Int32) : (rOwner S a b).1 ≤ 2 := by
  unfold rOwner
  repeat' split
  all_goals exact Nat.le_of_ble_eq_true rfl
theorem c_L_ownerOf {S : aS} {K : cK} {y1 : j_H} {f : Nat → Int64} (h : cRel S K) (hy : y1.length = 7) (a : Int32) (b : Int32) : Ct ML_ownerOf 2 12 [.ref 0, .int a, .int b, .ref 230] (clw K (y1 ++ [outc f])) (wQ (rOwner S a b) y1) := by
  refine Ct.ofH (by decide) rfl (by decide +kernel) rfl (Nat.le_of_ble_eq_true rfl) ?_
  have hle := le_rOwner S a b
  have hC := c_X3_ownerOf (y := y1 ++ [outc f]) h a b
  generalize rOwner S a b = res at hC hle ⊢
  refine J.run csL_ownerOf 20 [] ?_
  refine J.callVI 0 0 [.int 0, .ref 230] hC kX3_ownerOf mRL_64 dL_ownerOf_5 (by decide) (by decide) rfl rfl rfl (Nat.le_of_ble_eq_true rfl) (i0 := 0) rfl (ci := 3) rfl rfl (by decide) (by decide) ?_ ?_
  · rintro v h' ⟨hv, K', hK', rfl⟩
    refine ⟨by rw [clw_len, clw_len], ?_⟩
    by_cases q1 : res.1 = 1
    · rw [if_pos q1] at hv
      cases hv
    · by_cases q2 : res.1 = 2
      · rw [if_neg q1, if_pos q2] at hv
        cases hv
      · rw [if_neg q1, if_neg q2] at hv
        cases hv
        refine J.run csL_ownerOf 1 [] ?_
        refine J.last (i := 230) (n := 1) (f := f) dL_ownerOf_9 (lw_get hy _) (vp_c (by decide)) ?_
        rw [lw_set hy]
        refine J.run csL_ownerOf 10 [] ?_
        exact wQ_0 (by omega) hK'
  · rintro E h' ⟨hv, K', hK', rfl⟩
    refine ⟨by rw [clw_len, clw_len], ?_⟩
    by_cases q1 : res.1 = 1
    · rw [if_pos q1] at hv
      cases hv
      refine JX.catch (lv' := []) [] ⟨0, 10, 13, 13⟩ [⟨0, 10, 17, 15⟩] rfl (fun z hz => by cases hz) (by decide) (by decide) lRL_13 (List.mem_cons_self) dL_ownerOf_13 (by decide) (fun q hq => by cases hq) ?_
      refine J.run csL_ownerOf 5 [] ?_
      exact wQ_x q1 (by decide) hK'
    · rw [if_neg q1] at hv
      by_cases q2 : res.1 = 2
      · rw [if_pos q2] at hv
        cases hv
        refine JX.catch (lv' := []) [⟨0, 10, 13, 13⟩] ⟨0, 10, 17, 15⟩ [] rfl (fun z hz => by
          cases List.mem_singleton.mp hz
          exact Or.inr ⟨by decide, eI, lRL_13, List.mem_cons_self⟩) (by decide) (by decide) lRL_15 (List.mem_cons_of_mem _ List.mem_cons_self) dL_ownerOf_17 (by decide) (fun q hq => by cases hq) ?_
        refine J.run csL_ownerOf 5 [] ?_
        exact wQ_x q2 (by decide) hK'
      · rw [if_neg q2] at hv
        cases hv
theorem le_rCount (S : aS) (a : Int32) : (rCount S a).1 ≤ 1 := by
  unfold rCount
  repeat' split
  all_goals exact Nat.le_of_ble_eq_true rfl
theorem c_L_count {S : aS} {K : cK} {y1 : j_H} {f : Nat → Int64} (h : cRel S K) (hy : y1.length = 7) (a : Int32) : Ct ML_count 1 6 [.ref 0, .int a, .ref 230] (clw K (y1 ++ [outc f])) (wQ (rCount S a) y1) := by
  refine Ct.ofH (by decide) rfl (by decide +kernel) rfl (Nat.le_of_ble_eq_true rfl) ?_
  have hle := le_rCount S a
  have hC := c_X3_count (y := y1 ++ [outc f]) h a
  generalize rCount S a = res at hC hle ⊢
  refine J.run csL_count 20 [] ?_
  refine J.callVI 0 0 [.int 0, .ref 230] hC kX3_count mRL_67 dL_count_4 (by decide) (by decide) rfl rfl rfl (Nat.le_of_ble_eq_true rfl) (i0 := 0) rfl (ci := 3) rfl rfl (by decide) (by decide) ?_ ?_
  · rintro v h' ⟨hv, K', hK', rfl⟩
    refine ⟨by rw [clw_len, clw_len], ?_⟩
    by_cases q1 : res.1 = 1
    · rw [if_pos q1] at hv
      cases hv
    · by_cases q2 : res.1 = 2
      · rw [if_neg q1, if_pos q2] at hv
        cases hv
      · rw [if_neg q1, if_neg q2] at hv
        cases hv
        refine J.run csL_count 1 [] ?_
        refine J.last (i := 230) (n := 1) (f := f) dL_count_8 (lw_get hy _) (vp_c (by decide)) ?_
        rw [lw_set hy]
        refine J.run csL_count 10 [] ?_
        exact wQ_0 (by omega) hK'
  · rintro E h' ⟨hv, K', hK', rfl⟩
    refine ⟨by rw [clw_len, clw_len], ?_⟩
    by_cases q1 : res.1 = 1
    · rw [if_pos q1] at hv
      cases hv
      refine JX.catchN (lv' := []) [] ⟨0, 9, 12, 15⟩ [] rfl (fun z hz => by cases hz) (by decide) (by decide) lRL_15 (List.mem_cons_of_mem _ List.mem_cons_self) dL_count_12 rfl (by decide) (fun q hq => by cases hq) ?_
      refine J.run csL_count 5 [] ?_
      exact wQ_x q1 (by decide) hK'
    · rw [if_neg q1] at hv
      rw [if_neg (by omega)] at hv
      cases hv
theorem le_rSetting (S : aS) (a : Int32) : (rSetting S a).1 ≤ 1 := by
  unfold rSetting
  repeat' split
  all_goals exact Nat.le_of_ble_eq_true rfl
theorem c_L_setting {S : aS} {K : cK} {y1 : j_H} {f : Nat → Int64} (h : cRel S K) (hy : y1.length = 7) (a : Int32) : Ct ML_setting 1 6 [.ref 0, .int a, .ref 230] (clw K (y1 ++ [outc f])) (wQ (rSetting S a) y1) := by
  refine Ct.ofH (by decide) rfl (by decide +kernel) rfl (Nat.le_of_ble_eq_true rfl) ?_
  have hle := le_rSetting S a
  have hC := c_X3_setting (y := y1 ++ [outc f]) h a
  generalize rSetting S a = res at hC hle ⊢
  refine J.run csL_setting 20 [] ?_
  refine J.callVI 0 0 [.int 0, .ref 230] hC kX3_setting mRL_70 dL_setting_4 (by decide) (by decide) rfl rfl rfl (Nat.le_of_ble_eq_true rfl) (i0 := 0) rfl (ci := 3) rfl rfl (by decide) (by decide) ?_ ?_
  · rintro v h' ⟨hv, K', hK', rfl⟩
    refine ⟨by rw [clw_len, clw_len], ?_⟩
    by_cases q1 : res.1 = 1
    · rw [if_pos q1] at hv
      cases hv
    · by_cases q2 : res.1 = 2
      · rw [if_neg q1, if_pos q2] at hv
        cases hv
      · rw [if_neg q1, if_neg q2] at hv
        cases hv
        refine J.run csL_setting 1 [] ?_
        refine J.last (i := 230) (n := 1) (f := f) dL_setting_8 (lw_get hy _) (vp_c (by decide)) ?_
        rw [lw_set hy]
        refine J.run csL_setting 10 [] ?_
        exact wQ_0 (by omega) hK'
  · rintro E h' ⟨hv, K', hK', rfl⟩
    refine ⟨by rw [clw_len, clw_len], ?_⟩
    by_cases q1 : res.1 = 1
    · rw [if_pos q1] at hv
      cases hv
      refine JX.catchN (lv' := []) [] ⟨0, 9, 12, 13⟩ [] rfl (fun z hz => by cases hz) (by decide) (by decide) lRL_13 (List.mem_cons_self) dL_setting_12 rfl (by decide) (fun q hq => by cases hq) ?_
      refine J.run csL_setting 5 [] ?_
      exact wQ_x q1 (by decide) hK'
    · rw [if_neg q1] at hv
      rw [if_neg (by omega)] at hv
      cases hv
theorem le_rDone (S : aS) (a : Int32) (b : Int32) : (rDone S a b).1 ≤ 2 := by
  unfold rDone
  repeat' split
  all_goals exact Nat.le_of_ble_eq_true rfl
theorem c_L_doneIn {S : aS} {K : cK} {y1 : j_H} {f : Nat → Int64} (h : cRel S K) (hy : y1.length = 7) (a : Int32) (b : Int32) : Ct ML_doneIn 2 12 [.ref 0, .int a, .int b, .ref 230] (clw K (y1 ++ [outc f])) (wQ (rDone S a b) y1) := by
  refine Ct.ofH (by decide) rfl (by decide +kernel) rfl (Nat.le_of_ble_eq_true rfl) ?_
  have hle := le_rDone S a b
  have hC := c_X3_doneIn (y := y1 ++ [outc f]) h a b
  generalize rDone S a b = res at hC hle ⊢
  refine J.run csL_doneIn 20 [] ?_
  refine J.callVI 0 0 [.int 0, .ref 230] hC kX3_doneIn mRL_73 dL_doneIn_5 (by decide) (by decide) rfl rfl rfl (Nat.le_of_ble_eq_true rfl) (i0 := 0) rfl (ci := 3) rfl rfl (by decide) (by decide) ?_ ?_
  · rintro v h' ⟨hv, K', hK', rfl⟩
    refine ⟨by rw [clw_len, clw_len], ?_⟩
    by_cases q1 : res.1 = 1
    · rw [if_pos q1] at hv
      cases hv
    · by_cases q2 : res.1 = 2
      · rw [if_neg q1, if_pos q2] at hv
        cases hv
      · rw [if_neg q1, if_neg q2] at hv
        cases hv
        refine J.run csL_doneIn 1 [] ?_
        refine J.last (i := 230) (n := 1) (f := f) dL_doneIn_9 (lw_get hy _) (vp_c (by decide)) ?_
        rw [lw_set hy]
        refine J.run csL_doneIn 10 [] ?_
        exact wQ_0 (by omega) hK'
  · rintro E h' ⟨hv, K', hK', rfl⟩
    refine ⟨by rw [clw_len, clw_len], ?_⟩
    by_cases q1 : res.1 = 1
    · rw [if_pos q1] at hv
      cases hv
      refine JX.catch (lv' := []) [] ⟨0, 10, 13, 13⟩ [⟨0, 10, 17, 15⟩] rfl (fun z hz => by cases hz) (by decide) (by decide) lRL_13 (List.mem_cons_self) dL_doneIn_13 (by decide) (fun q hq => by cases hq) ?_
      refine J.run csL_doneIn 5 [] ?_
      exact wQ_x q1 (by decide) hK'
    · rw [if_neg q1] at hv
      by_cases q2 : res.1 = 2
      · rw [if_pos q2] at hv
        cases hv
        refine JX.catch (lv' := []) [⟨0, 10, 13, 13⟩] ⟨0, 10, 17, 15⟩ [] rfl (fun z hz => by
          cases List.mem_singleton.mp hz
          exact Or.inr ⟨by decide, eI, lRL_13, List.mem_cons_self⟩) (by decide) (by decide) lRL_15 (List.mem_cons_of_mem _ List.mem_cons_self) dL_doneIn_17 (by decide) (fun q hq => by cases hq) ?_
        refine J.run csL_doneIn 5 [] ?_
        exact wQ_x q2 (by decide) hK'
      · rw [if_neg q2] at hv
        cases hv
theorem le_rIf (S : aS) (a : Int32) (b : Int32) : (rIf S a b).1 ≤ 2 := by
  unfold rIf
  repeat' split
  all_goals exact Nat.le_of_ble_eq_true rfl
theorem c_L_ifPassed {S : aS} {K : cK} {y1 : j_H} {f : Nat → Int64} (h : cRel S K) (hy : y1.length = 7) (a : Int32) (b : Int32) : Ct ML_ifPassed 2 12 [.ref 0, .int a, .int b, .ref 230] (clw K (y1 ++ [outc f])) (wQ (rIf S a b) y1) := by
  refine Ct.ofH (by decide) rfl (by decide +kernel) rfl (Nat.le_of_ble_eq_true rfl) ?_
  have hle := le_rIf S a b
  have hC := c_X3_ifPassed (y := y1 ++ [outc f]) h a b
  generalize rIf S a b = res at hC hle ⊢
  refine J.run csL_ifPassed 20 [] ?_
  refine J.callVI 0 0 [.int 0, .ref 230] hC kX3_ifPassed mRL_76 dL_ifPassed_5 (by decide) (by decide) rfl rfl rfl (Nat.le_of_ble_eq_true rfl) (i0 := 0) rfl (ci := 3) rfl rfl (by decide) (by decide) ?_ ?_
  · rintro v h' ⟨hv, K', hK', rfl⟩
    refine ⟨by rw [clw_len, clw_len], ?_⟩
    by_cases q1 : res.1 = 1
    · rw [if_pos q1] at hv
      cases hv
    · by_cases q2 : res.1 = 2
      · rw [if_neg q1, if_pos q2] at hv
        cases hv
      · rw [if_neg q1, if_neg q2] at hv
        cases hv
        refine J.run csL_ifPassed 1 [] ?_
        refine J.last (i := 230) (n := 1) (f := f) dL_ifPassed_9 (lw_get hy _) (vp_c (by decide)) ?_
        rw [lw_set hy]
        refine J.run csL_ifPassed 10 [] ?_
        exact wQ_0 (by omega) hK'
  · rintro E h' ⟨hv, K', hK', rfl⟩
    refine ⟨by rw [clw_len, clw_len], ?_⟩
    by_cases q1 : res.1 = 1
    · rw [if_pos q1] at hv
      cases hv
      refine JX.catch (lv' := []) [] ⟨0, 10, 13, 13⟩ [⟨0, 10, 17, 15⟩] rfl (fun z hz => by cases hz) (by decide) (by decide) lRL_13 (List.mem_cons_self) dL_ifPassed_13 (by decide) (fun q hq => by cases hq) ?_
      refine J.run csL_ifPassed 5 [] ?_
      exact wQ_x q1 (by decide) hK'
    · rw [if_neg q1] at hv
      by_cases q2 : res.1 = 2
      · rw [if_pos q2] at hv
        cases hv
        refine JX.catch (lv' := []) [⟨0, 10, 13, 13⟩] ⟨0, 10, 17, 15⟩ [] rfl (fun z hz => by
          cases List.mem_singleton.mp hz
          exact Or.inr ⟨by decide, eI, lRL_13, List.mem_cons_self⟩) (by decide) (by decide) lRL_15 (List.mem_cons_of_mem _ List.mem_cons_self) dL_ifPassed_17 (by decide) (fun q hq => by cases hq) ?_
        refine J.run csL_ifPassed 5 [] ?_
        exact wQ_x q2 (by decide) hK'
      · rw [if_neg q2] at hv
        cases hv
