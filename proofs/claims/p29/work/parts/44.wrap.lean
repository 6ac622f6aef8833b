/-! The law's own methods: a call of the class, its answer, or a number for the exception. -/
def wV (r : aR) (c1 c2 : Int32) : Int32 := if r.1 = 1 then c1 else if r.1 = 2 then c2 else r.2.2
def wP (r : aR) (c1 c2 : Int32) : j_F := fun o h' => o = .inl (some (.int (wV r c1 c2))) ∧ ∃ K, cRel r.2.1 K ∧ h' = clw K []
theorem wP_1 {r : aR} {c1 c2 : Int32} {K : cK} (h : r.1 = 1) (hK : cRel r.2.1 K) : wP r c1 c2 (.inl (some (.int c1))) (clw K []) := ⟨by unfold wV; rw [if_pos h], K, hK, rfl⟩
theorem wP_2 {r : aR} {c1 c2 : Int32} {K : cK} (h1 : ¬ r.1 = 1) (h : r.1 = 2) (hK : cRel r.2.1 K) : wP r c1 c2 (.inl (some (.int c2))) (clw K []) := ⟨by unfold wV; rw [if_neg h1, if_pos h], K, hK, rfl⟩
theorem wP_0 {r : aR} {c1 c2 : Int32} {K : cK} (h1 : ¬ r.1 = 1) (h : ¬ r.1 = 2) (hK : cRel r.2.1 K) : wP r c1 c2 (.inl (some (.int r.2.2))) (clw K []) := ⟨by unfold wV; rw [if_neg h1, if_neg h], K, hK, rfl⟩
theorem le_rWind (S : aS) (a : Int32) (b : Int32) (c : Int32) : (rWind S a b c).1 ≤ 2 := by
  unfold rWind
  repeat' split
  all_goals exact Nat.le_of_ble_eq_true rfl
theorem c_L_wind {S : aS} {K : cK} (h : cRel S K) (a : Int32) (b : Int32) (c : Int32) : Ct ML_wind 3 18 [.ref 0, .int a, .int b, .int c] (clw K []) (wP (rWind S a b c) (-31) (-32)) := by
  refine Ct.ofH (by decide) rfl (by decide +kernel) rfl (Nat.le_of_ble_eq_true rfl) ?_
  have hle := le_rWind S a b c
  have hC := c_X3_wind (y := []) h a b c
  generalize rWind S a b c = res at hC hle ⊢
  refine J.run csL_wind 20 [] ?_
  refine J.callVI 0 0 [] hC kX3_wind mRL_9 dL_wind_4 (by decide) (by decide) rfl rfl rfl (Nat.le_of_ble_eq_true rfl) (i0 := 0) rfl (ci := 3) rfl rfl (by decide) (by decide) ?_ ?_
  · rintro v h' ⟨hv, K', hK', rfl⟩
    refine ⟨by rw [clw_len, clw_len], ?_⟩
    by_cases q1 : res.1 = 1
    · rw [if_pos q1] at hv
      cases hv
    · by_cases q2 : res.1 = 2
      · rw [if_neg q1, if_pos q2] at hv
        cases hv
      · rw [if_neg q1, if_neg q2] at hv
        cases hv
        refine J.run csL_wind 10 [] ?_
        exact wP_0 q1 q2 hK'
  · rintro E h' ⟨hv, K', hK', rfl⟩
    refine ⟨by rw [clw_len, clw_len], ?_⟩
    by_cases q1 : res.1 = 1
    · rw [if_pos q1] at hv
      cases hv
      refine JX.catch (lv' := []) [] ⟨0, 9, 12, 15⟩ [⟨0, 9, 17, 17⟩] rfl (fun z hz => by cases hz) (by decide) (by decide) lRL_15 (List.mem_cons_self) dL_wind_12 (by decide) (fun q hq => by cases hq) ?_
      refine J.run csL_wind 5 [] ?_
      exact wP_1 q1 hK'
    · rw [if_neg q1] at hv
      by_cases q2 : res.1 = 2
      · rw [if_pos q2] at hv
        cases hv
        refine JX.catch (lv' := []) [⟨0, 9, 12, 15⟩] ⟨0, 9, 17, 17⟩ [] rfl (fun z hz => by
          cases List.mem_singleton.mp hz
          exact Or.inr ⟨by decide, eI, lRL_15, List.mem_cons_self⟩) (by decide) (by decide) lRL_17 (List.mem_cons_of_mem _ List.mem_cons_self) dL_wind_17 (by decide) (fun q hq => by cases hq) ?_
        refine J.run csL_wind 5 [] ?_
        exact wP_2 q1 q2 hK'
      · rw [if_neg q2] at hv
        cases hv
theorem le_rVane (S : aS) (a : Int32) (b : Int32) (c : Int32) : (rVane S a b c).1 ≤ 2 := by
  unfold rVane
  repeat' split
  all_goals exact Nat.le_of_ble_eq_true rfl
theorem c_L_vane {S : aS} {K : cK} (h : cRel S K) (a : Int32) (b : Int32) (c : Int32) : Ct ML_vane 3 18 [.ref 0, .int a, .int b, .int c] (clw K []) (wP (rVane S a b c) (-31) (-32)) := by
  refine Ct.ofH (by decide) rfl (by decide +kernel) rfl (Nat.le_of_ble_eq_true rfl) ?_
  have hle := le_rVane S a b c
  have hC := c_X3_vane (y := []) h a b c
  generalize rVane S a b c = res at hC hle ⊢
  refine J.run csL_vane 20 [] ?_
  refine J.callVI 0 0 [] hC kX3_vane mRL_19 dL_vane_4 (by decide) (by decide) rfl rfl rfl (Nat.le_of_ble_eq_true rfl) (i0 := 0) rfl (ci := 3) rfl rfl (by decide) (by decide) ?_ ?_
  · rintro v h' ⟨hv, K', hK', rfl⟩
    refine ⟨by rw [clw_len, clw_len], ?_⟩
    by_cases q1 : res.1 = 1
    · rw [if_pos q1] at hv
      cases hv
    · by_cases q2 : res.1 = 2
      · rw [if_neg q1, if_pos q2] at hv
        cases hv
      · rw [if_neg q1, if_neg q2] at hv
        cases hv
        refine J.run csL_vane 10 [] ?_
        exact wP_0 q1 q2 hK'
  · rintro E h' ⟨hv, K', hK', rfl⟩
    refine ⟨by rw [clw_len, clw_len], ?_⟩
    by_cases q1 : res.1 = 1
    · rw [if_pos q1] at hv
      cases hv
      refine JX.catch (lv' := []) [] ⟨0, 9, 12, 15⟩ [⟨0, 9, 17, 17⟩] rfl (fun z hz => by cases hz) (by decide) (by decide) lRL_15 (List.mem_cons_self) dL_vane_12 (by decide) (fun q hq => by cases hq) ?_
      refine J.run csL_vane 5 [] ?_
      exact wP_1 q1 hK'
    · rw [if_neg q1] at hv
      by_cases q2 : res.1 = 2
      · rw [if_pos q2] at hv
        cases hv
        refine JX.catch (lv' := []) [⟨0, 9, 12, 15⟩] ⟨0, 9, 17, 17⟩ [] rfl (fun z hz => by
          cases List.mem_singleton.mp hz
          exact Or.inr ⟨by decide, eI, lRL_15, List.mem_cons_self⟩) (by decide) (by decide) lRL_17 (List.mem_cons_of_mem _ List.mem_cons_self) dL_vane_17 (by decide) (fun q hq => by cases hq) ?_
        refine J.run csL_vane 5 [] ?_
        exact wP_2 q1 q2 hK'
      · rw [if_neg q2] at hv
        cases hv
theorem le_rMill (S : aS) (a : Int32) (b : Int32) : (rMill S a b).1 ≤ 2 := by
  unfold rMill
  repeat' split
  all_goals exact Nat.le_of_ble_eq_true rfl
theorem c_L_mill {S : aS} {K : cK} (h : cRel S K) (a : Int32) (b : Int32) : Ct ML_mill 2 12 [.ref 0, .int a, .int b] (clw K []) (wP (rMill S a b) (-31) (-32)) := by
  refine Ct.ofH (by decide) rfl (by decide +kernel) rfl (Nat.le_of_ble_eq_true rfl) ?_
  have hle := le_rMill S a b
  have hC := c_X3_mill (y := []) h a b
  generalize rMill S a b = res at hC hle ⊢
  refine J.run csL_mill 20 [] ?_
  refine J.callVI 0 0 [] hC kX3_mill mRL_22 dL_mill_3 (by decide) (by decide) rfl rfl rfl (Nat.le_of_ble_eq_true rfl) (i0 := 0) rfl (ci := 3) rfl rfl (by decide) (by decide) ?_ ?_
  · rintro v h' ⟨hv, K', hK', rfl⟩
    refine ⟨by rw [clw_len, clw_len], ?_⟩
    by_cases q1 : res.1 = 1
    · rw [if_pos q1] at hv
      cases hv
    · by_cases q2 : res.1 = 2
      · rw [if_neg q1, if_pos q2] at hv
        cases hv
      · rw [if_neg q1, if_neg q2] at hv
        cases hv
        refine J.run csL_mill 10 [] ?_
        exact wP_0 q1 q2 hK'
  · rintro E h' ⟨hv, K', hK', rfl⟩
    refine ⟨by rw [clw_len, clw_len], ?_⟩
    by_cases q1 : res.1 = 1
    · rw [if_pos q1] at hv
      cases hv
      refine JX.catch (lv' := []) [] ⟨0, 7, 10, 15⟩ [⟨0, 7, 15, 17⟩] rfl (fun z hz => by cases hz) (by decide) (by decide) lRL_15 (List.mem_cons_self) dL_mill_10 (by decide) (fun q hq => by cases hq) ?_
      refine J.run csL_mill 5 [] ?_
      exact wP_1 q1 hK'
    · rw [if_neg q1] at hv
      by_cases q2 : res.1 = 2
      · rw [if_pos q2] at hv
        cases hv
        refine JX.catch (lv' := []) [⟨0, 7, 10, 15⟩] ⟨0, 7, 15, 17⟩ [] rfl (fun z hz => by
          cases List.mem_singleton.mp hz
          exact Or.inr ⟨by decide, eI, lRL_15, List.mem_cons_self⟩) (by decide) (by decide) lRL_17 (List.mem_cons_of_mem _ List.mem_cons_self) dL_mill_15 (by decide) (fun q hq => by cases hq) ?_
        refine J.run csL_mill 5 [] ?_
        exact wP_2 q1 q2 hK'
      · rw [if_neg q2] at hv
        cases hv
theorem le_rSet (S : aS) (a : Int32) (b : Int32) : (rSet S a b).1 ≤ 2 := by
  unfold rSet
  repeat' split
  all_goals exact Nat.le_of_ble_eq_true rfl
theorem c_L_set {S : aS} {K : cK} (h : cRel S K) (a : Int32) (b : Int32) : Ct ML_set 2 12 [.ref 0, .int a, .int b] (clw K []) (wP (rSet S a b) (-31) (-32)) := by
  refine Ct.ofH (by decide) rfl (by decide +kernel) rfl (Nat.le_of_ble_eq_true rfl) ?_
  have hle := le_rSet S a b
  have hC := c_X3_set (y := []) h a b
  generalize rSet S a b = res at hC hle ⊢
  refine J.run csL_set 20 [] ?_
  refine J.callVI 0 0 [] hC kX3_set mRL_26 dL_set_3 (by decide) (by decide) rfl rfl rfl (Nat.le_of_ble_eq_true rfl) (i0 := 0) rfl (ci := 3) rfl rfl (by decide) (by decide) ?_ ?_
  · rintro v h' ⟨hv, K', hK', rfl⟩
    refine ⟨by rw [clw_len, clw_len], ?_⟩
    by_cases q1 : res.1 = 1
    · rw [if_pos q1] at hv
      cases hv
    · by_cases q2 : res.1 = 2
      · rw [if_neg q1, if_pos q2] at hv
        cases hv
      · rw [if_neg q1, if_neg q2] at hv
        cases hv
        refine J.run csL_set 10 [] ?_
        exact wP_0 q1 q2 hK'
  · rintro E h' ⟨hv, K', hK', rfl⟩
    refine ⟨by rw [clw_len, clw_len], ?_⟩
    by_cases q1 : res.1 = 1
    · rw [if_pos q1] at hv
      cases hv
      refine JX.catch (lv' := []) [] ⟨0, 7, 10, 15⟩ [⟨0, 7, 15, 17⟩] rfl (fun z hz => by cases hz) (by decide) (by decide) lRL_15 (List.mem_cons_self) dL_set_10 (by decide) (fun q hq => by cases hq) ?_
      refine J.run csL_set 5 [] ?_
      exact wP_1 q1 hK'
    · rw [if_neg q1] at hv
      by_cases q2 : res.1 = 2
      · rw [if_pos q2] at hv
        cases hv
        refine JX.catch (lv' := []) [⟨0, 7, 10, 15⟩] ⟨0, 7, 15, 17⟩ [] rfl (fun z hz => by
          cases List.mem_singleton.mp hz
          exact Or.inr ⟨by decide, eI, lRL_15, List.mem_cons_self⟩) (by decide) (by decide) lRL_17 (List.mem_cons_of_mem _ List.mem_cons_self) dL_set_15 (by decide) (fun q hq => by cases hq) ?_
        refine J.run csL_set 5 [] ?_
        exact wP_2 q1 q2 hK'
      · rw [if_neg q2] at hv
        cases hv
theorem le_rBring (S : aS) (a : Int32) (b : Int32) (c : Int32) : (rBring S a b c).1 ≤ 2 := by
  unfold rBring
  repeat' split
  all_goals exact Nat.le_of_ble_eq_true rfl
theorem c_L_bring {S : aS} {K : cK} (h : cRel S K) (a : Int32) (b : Int32) (c : Int32) : Ct ML_bring 3 18 [.ref 0, .int a, .int b, .int c] (clw K []) (wP (rBring S a b c) (-31) (-32)) := by
  refine Ct.ofH (by decide) rfl (by decide +kernel) rfl (Nat.le_of_ble_eq_true rfl) ?_
  have hle := le_rBring S a b c
  have hC := c_X3_bring (y := []) h a b c
  generalize rBring S a b c = res at hC hle ⊢
  refine J.run csL_bring 20 [] ?_
  refine J.callVI 0 0 [] hC kX3_bring mRL_29 dL_bring_4 (by decide) (by decide) rfl rfl rfl (Nat.le_of_ble_eq_true rfl) (i0 := 0) rfl (ci := 3) rfl rfl (by decide) (by decide) ?_ ?_
  · rintro v h' ⟨hv, K', hK', rfl⟩
    refine ⟨by rw [clw_len, clw_len], ?_⟩
    by_cases q1 : res.1 = 1
    · rw [if_pos q1] at hv
      cases hv
    · by_cases q2 : res.1 = 2
      · rw [if_neg q1, if_pos q2] at hv
        cases hv
      · rw [if_neg q1, if_neg q2] at hv
        cases hv
        refine J.run csL_bring 10 [] ?_
        exact wP_0 q1 q2 hK'
  · rintro E h' ⟨hv, K', hK', rfl⟩
    refine ⟨by rw [clw_len, clw_len], ?_⟩
    by_cases q1 : res.1 = 1
    · rw [if_pos q1] at hv
      cases hv
      refine JX.catch (lv' := []) [] ⟨0, 9, 12, 15⟩ [⟨0, 9, 17, 17⟩] rfl (fun z hz => by cases hz) (by decide) (by decide) lRL_15 (List.mem_cons_self) dL_bring_12 (by decide) (fun q hq => by cases hq) ?_
      refine J.run csL_bring 5 [] ?_
      exact wP_1 q1 hK'
    · rw [if_neg q1] at hv
      by_cases q2 : res.1 = 2
      · rw [if_pos q2] at hv
        cases hv
        refine JX.catch (lv' := []) [⟨0, 9, 12, 15⟩] ⟨0, 9, 17, 17⟩ [] rfl (fun z hz => by
          cases List.mem_singleton.mp hz
          exact Or.inr ⟨by decide, eI, lRL_15, List.mem_cons_self⟩) (by decide) (by decide) lRL_17 (List.mem_cons_of_mem _ List.mem_cons_self) dL_bring_17 (by decide) (fun q hq => by cases hq) ?_
        refine J.run csL_bring 5 [] ?_
        exact wP_2 q1 q2 hK'
      · rw [if_neg q2] at hv
        cases hv
theorem le_rTake (S : aS) (a : Int32) : (rTake S a).1 ≤ 1 := by
  unfold rTake
  repeat' split
  all_goals exact Nat.le_of_ble_eq_true rfl
theorem c_L_takeBack {S : aS} {K : cK} (h : cRel S K) (a : Int32) : Ct ML_takeBack 1 6 [.ref 0, .int a] (clw K []) (wP (rTake S a) (-31) (-32)) := by
  refine Ct.ofH (by decide) rfl (by decide +kernel) rfl (Nat.le_of_ble_eq_true rfl) ?_
  have hle := le_rTake S a
  have hC := c_X3_takeBack (y := []) h a
  generalize rTake S a = res at hC hle ⊢
  refine J.run csL_takeBack 20 [] ?_
  refine J.callVI 0 0 [] hC kX3_takeBack mRL_32 dL_takeBack_2 (by decide) (by decide) rfl rfl rfl (Nat.le_of_ble_eq_true rfl) (i0 := 0) rfl (ci := 3) rfl rfl (by decide) (by decide) ?_ ?_
  · rintro v h' ⟨hv, K', hK', rfl⟩
    refine ⟨by rw [clw_len, clw_len], ?_⟩
    by_cases q1 : res.1 = 1
    · rw [if_pos q1] at hv
      cases hv
    · by_cases q2 : res.1 = 2
      · rw [if_neg q1, if_pos q2] at hv
        cases hv
      · rw [if_neg q1, if_neg q2] at hv
        cases hv
        refine J.run csL_takeBack 10 [] ?_
        exact wP_0 q1 q2 hK'
  · rintro E h' ⟨hv, K', hK', rfl⟩
    refine ⟨by rw [clw_len, clw_len], ?_⟩
    by_cases q1 : res.1 = 1
    · rw [if_pos q1] at hv
      cases hv
      refine JX.catchN (lv' := []) [] ⟨0, 6, 9, 15⟩ [] rfl (fun z hz => by cases hz) (by decide) (by decide) lRL_15 (List.mem_cons_self) dL_takeBack_9 rfl (by decide) (fun q hq => by cases hq) ?_
      refine J.run csL_takeBack 5 [] ?_
      exact wP_1 q1 hK'
    · rw [if_neg q1] at hv
      rw [if_neg (by omega)] at hv
      cases hv
theorem le_rPass (S : aS) (a : Int32) : (rPass S a).1 ≤ 2 := by
  unfold rPass
  repeat' split
  all_goals exact Nat.le_of_ble_eq_true rfl
theorem c_L_pass {S : aS} {K : cK} (h : cRel S K) (a : Int32) : Ct ML_pass 2 12 [.ref 0, .int a] (clw K []) (wP (rPass S a) (-32) (-33)) := by
  refine Ct.ofH (by decide) rfl (by decide +kernel) rfl (Nat.le_of_ble_eq_true rfl) ?_
  have hle := le_rPass S a
  have hC := c_X3_pass (y := []) h a
  generalize rPass S a = res at hC hle ⊢
  refine J.run csL_pass 20 [] ?_
  refine J.callVI 0 0 [] hC kX3_pass mRL_36 dL_pass_2 (by decide) (by decide) rfl rfl rfl (Nat.le_of_ble_eq_true rfl) (i0 := 0) rfl (ci := 3) rfl rfl (by decide) (by decide) ?_ ?_
  · rintro v h' ⟨hv, K', hK', rfl⟩
    refine ⟨by rw [clw_len, clw_len], ?_⟩
    by_cases q1 : res.1 = 1
    · rw [if_pos q1] at hv
      cases hv
    · by_cases q2 : res.1 = 2
      · rw [if_neg q1, if_pos q2] at hv
        cases hv
      · rw [if_neg q1, if_neg q2] at hv
        cases hv
        refine J.run csL_pass 10 [] ?_
        exact wP_0 q1 q2 hK'
  · rintro E h' ⟨hv, K', hK', rfl⟩
    refine ⟨by rw [clw_len, clw_len], ?_⟩
    by_cases q1 : res.1 = 1
    · rw [if_pos q1] at hv
      cases hv
      refine JX.catchN (lv' := []) [] ⟨0, 6, 9, 17⟩ [⟨0, 6, 13, 39⟩] rfl (fun z hz => by cases hz) (by decide) (by decide) lRL_17 (List.mem_cons_of_mem _ List.mem_cons_self) dL_pass_9 rfl (by decide) (fun q hq => by cases hq) ?_
      refine J.run csL_pass 5 [] ?_
      exact wP_1 q1 hK'
    · rw [if_neg q1] at hv
      by_cases q2 : res.1 = 2
      · rw [if_pos q2] at hv
        cases hv
        refine JX.catchN (lv' := []) [⟨0, 6, 9, 17⟩] ⟨0, 6, 13, 39⟩ [] rfl (fun z hz => by
          cases List.mem_singleton.mp hz
          exact Or.inr ⟨by decide, eA, lRL_17, List.mem_cons_of_mem _ List.mem_cons_self⟩) (by decide) (by decide) lRL_39 (List.mem_cons_of_mem _ (List.mem_cons_of_mem _ List.mem_cons_self)) dL_pass_13 rfl (by decide) (fun q hq => by cases hq) ?_
        refine J.run csL_pass 5 [] ?_
        exact wP_2 q1 q2 hK'
      · rw [if_neg q2] at hv
        cases hv
theorem le_rUndo (S : aS) : (rUndo S).1 ≤ 1 := by
  unfold rUndo
  repeat' split
  all_goals exact Nat.le_of_ble_eq_true rfl
theorem c_L_undo {S : aS} {K : cK} (h : cRel S K) : Ct ML_undo 1 6 [.ref 0] (clw K []) (wP (rUndo S) (-33) (-32)) := by
  refine Ct.ofH (by decide) rfl (by decide +kernel) rfl (Nat.le_of_ble_eq_true rfl) ?_
  have hle := le_rUndo S
  have hC := c_X3_undo (y := []) h
  generalize rUndo S = res at hC hle ⊢
  refine J.run csL_undo 20 [] ?_
  refine J.callVI 0 0 [] hC kX3_undo mRL_41 dL_undo_1 (by decide) (by decide) rfl rfl rfl (Nat.le_of_ble_eq_true rfl) (i0 := 0) rfl (ci := 3) rfl rfl (by decide) (by decide) ?_ ?_
  · rintro v h' ⟨hv, K', hK', rfl⟩
    refine ⟨by rw [clw_len, clw_len], ?_⟩
    by_cases q1 : res.1 = 1
    · rw [if_pos q1] at hv
      cases hv
    · by_cases q2 : res.1 = 2
      · rw [if_neg q1, if_pos q2] at hv
        cases hv
      · rw [if_neg q1, if_neg q2] at hv
        cases hv
        refine J.run csL_undo 10 [] ?_
        exact wP_0 q1 q2 hK'
  · rintro E h' ⟨hv, K', hK', rfl⟩
    refine ⟨by rw [clw_len, clw_len], ?_⟩
    by_cases q1 : res.1 = 1
    · rw [if_pos q1] at hv
      cases hv
      refine JX.catchN (lv' := []) [] ⟨0, 5, 8, 39⟩ [] rfl (fun z hz => by cases hz) (by decide) (by decide) lRL_39 (List.mem_cons_of_mem _ (List.mem_cons_of_mem _ List.mem_cons_self)) dL_undo_8 rfl (by decide) (fun q hq => by cases hq) ?_
      refine J.run csL_undo 5 [] ?_
      exact wP_1 q1 hK'
    · rw [if_neg q1] at hv
      rw [if_neg (by omega)] at hv
      cases hv
theorem le_rHour (S : aS) (a : Int32) (b : Int32) : (rHour S a b).1 ≤ 2 := by
  unfold rHour
  repeat' split
  all_goals exact Nat.le_of_ble_eq_true rfl
theorem c_L_hourOf {S : aS} {K : cK} (h : cRel S K) (a : Int32) (b : Int32) : Ct ML_hourOf 2 12 [.ref 0, .int a, .int b] (clw K []) (wP (rHour S a b) (-31) (-32)) := by
  refine Ct.ofH (by decide) rfl (by decide +kernel) rfl (Nat.le_of_ble_eq_true rfl) ?_
  have hle := le_rHour S a b
  have hC := c_X3_hourOf (y := []) h a b
  generalize rHour S a b = res at hC hle ⊢
  refine J.run csL_hourOf 20 [] ?_
  refine J.callVI 0 0 [] hC kX3_hourOf mRL_45 dL_hourOf_3 (by decide) (by decide) rfl rfl rfl (Nat.le_of_ble_eq_true rfl) (i0 := 0) rfl (ci := 3) rfl rfl (by decide) (by decide) ?_ ?_
  · rintro v h' ⟨hv, K', hK', rfl⟩
    refine ⟨by rw [clw_len, clw_len], ?_⟩
    by_cases q1 : res.1 = 1
    · rw [if_pos q1] at hv
      cases hv
    · by_cases q2 : res.1 = 2
      · rw [if_neg q1, if_pos q2] at hv
        cases hv
      · rw [if_neg q1, if_neg q2] at hv
        cases hv
        refine J.run csL_hourOf 10 [] ?_
        exact wP_0 q1 q2 hK'
  · rintro E h' ⟨hv, K', hK', rfl⟩
    refine ⟨by rw [clw_len, clw_len], ?_⟩
    by_cases q1 : res.1 = 1
    · rw [if_pos q1] at hv
      cases hv
      refine JX.catch (lv' := []) [] ⟨0, 7, 10, 15⟩ [⟨0, 7, 15, 17⟩] rfl (fun z hz => by cases hz) (by decide) (by decide) lRL_15 (List.mem_cons_self) dL_hourOf_10 (by decide) (fun q hq => by cases hq) ?_
      refine J.run csL_hourOf 5 [] ?_
      exact wP_1 q1 hK'
    · rw [if_neg q1] at hv
      by_cases q2 : res.1 = 2
      · rw [if_pos q2] at hv
        cases hv
        refine JX.catch (lv' := []) [⟨0, 7, 10, 15⟩] ⟨0, 7, 15, 17⟩ [] rfl (fun z hz => by
          cases List.mem_singleton.mp hz
          exact Or.inr ⟨by decide, eI, lRL_15, List.mem_cons_self⟩) (by decide) (by decide) lRL_17 (List.mem_cons_of_mem _ List.mem_cons_self) dL_hourOf_15 (by decide) (fun q hq => by cases hq) ?_
        refine J.run csL_hourOf 5 [] ?_
        exact wP_2 q1 q2 hK'
      · rw [if_neg q2] at hv
        cases hv
theorem le_rVaneOf (S : aS) (a : Int32) (b : Int32) : (rVaneOf S a b).1 ≤ 2 := by
  unfold rVaneOf
  repeat' split
  all_goals exact Nat.le_of_ble_eq_true rfl
theorem c_L_vaneOf {S : aS} {K : cK} (h : cRel S K) (a : Int32) (b : Int32) : Ct ML_vaneOf 2 12 [.ref 0, .int a, .int b] (clw K []) (wP (rVaneOf S a b) (-31) (-32)) := by
  refine Ct.ofH (by decide) rfl (by decide +kernel) rfl (Nat.le_of_ble_eq_true rfl) ?_
  have hle := le_rVaneOf S a b
  have hC := c_X3_vaneOf (y := []) h a b
  generalize rVaneOf S a b = res at hC hle ⊢
  refine J.run csL_vaneOf 20 [] ?_
  refine J.callVI 0 0 [] hC kX3_vaneOf mRL_48 dL_vaneOf_3 (by decide) (by decide) rfl rfl rfl (Nat.le_of_ble_eq_true rfl) (i0 := 0) rfl (ci := 3) rfl rfl (by decide) (by decide) ?_ ?_
  · rintro v h' ⟨hv, K', hK', rfl⟩
    refine ⟨by rw [clw_len, clw_len], ?_⟩
    by_cases q1 : res.1 = 1
    · rw [if_pos q1] at hv
      cases hv
    · by_cases q2 : res.1 = 2
      · rw [if_neg q1, if_pos q2] at hv
        cases hv
      · rw [if_neg q1, if_neg q2] at hv
        cases hv
        refine J.run csL_vaneOf 10 [] ?_
        exact wP_0 q1 q2 hK'
  · rintro E h' ⟨hv, K', hK', rfl⟩
    refine ⟨by rw [clw_len, clw_len], ?_⟩
    by_cases q1 : res.1 = 1
    · rw [if_pos q1] at hv
      cases hv
      refine JX.catch (lv' := []) [] ⟨0, 7, 10, 15⟩ [⟨0, 7, 15, 17⟩] rfl (fun z hz => by cases hz) (by decide) (by decide) lRL_15 (List.mem_cons_self) dL_vaneOf_10 (by decide) (fun q hq => by cases hq) ?_
      refine J.run csL_vaneOf 5 [] ?_
      exact wP_1 q1 hK'
    · rw [if_neg q1] at hv
      by_cases q2 : res.1 = 2
      · rw [if_pos q2] at hv
        cases hv
        refine JX.catch (lv' := []) [⟨0, 7, 10, 15⟩] ⟨0, 7, 15, 17⟩ [] rfl (fun z hz => by
          cases List.mem_singleton.mp hz
          exact Or.inr ⟨by decide, eI, lRL_15, List.mem_cons_self⟩) (by decide) (by decide) lRL_17 (List.mem_cons_of_mem _ List.mem_cons_self) dL_vaneOf_15 (by decide) (fun q hq => by cases hq) ?_
        refine J.run csL_vaneOf 5 [] ?_
        exact wP_2 q1 q2 hK'
      · rw [if_neg q2] at hv
        cases hv
theorem le_rMillOf (S : aS) (a : Int32) (b : Int32) : (rMillOf S a b).1 ≤ 2 := by
  unfold rMillOf
  repeat' split
  all_goals exact Nat.le_of_ble_eq_true rfl
theorem c_L_millOf {S : aS} {K : cK} (h : cRel S K) (a : Int32) (b : Int32) : Ct ML_millOf 2 12 [.ref 0, .int a, .int b] (clw K []) (wP (rMillOf S a b) (-31) (-32)) := by
  refine Ct.ofH (by decide) rfl (by decide +kernel) rfl (Nat.le_of_ble_eq_true rfl) ?_
  have hle := le_rMillOf S a b
  have hC := c_X3_millOf (y := []) h a b
  generalize rMillOf S a b = res at hC hle ⊢
  refine J.run csL_millOf 20 [] ?_
  refine J.callVI 0 0 [] hC kX3_millOf mRL_51 dL_millOf_3 (by decide) (by decide) rfl rfl rfl (Nat.le_of_ble_eq_true rfl) (i0 := 0) rfl (ci := 3) rfl rfl (by decide) (by decide) ?_ ?_
  · rintro v h' ⟨hv, K', hK', rfl⟩
    refine ⟨by rw [clw_len, clw_len], ?_⟩
    by_cases q1 : res.1 = 1
    · rw [if_pos q1] at hv
      cases hv
    · by_cases q2 : res.1 = 2
      · rw [if_neg q1, if_pos q2] at hv
        cases hv
      · rw [if_neg q1, if_neg q2] at hv
        cases hv
        refine J.run csL_millOf 10 [] ?_
        exact wP_0 q1 q2 hK'
  · rintro E h' ⟨hv, K', hK', rfl⟩
    refine ⟨by rw [clw_len, clw_len], ?_⟩
    by_cases q1 : res.1 = 1
    · rw [if_pos q1] at hv
      cases hv
      refine JX.catch (lv' := []) [] ⟨0, 7, 10, 15⟩ [⟨0, 7, 15, 17⟩] rfl (fun z hz => by cases hz) (by decide) (by decide) lRL_15 (List.mem_cons_self) dL_millOf_10 (by decide) (fun q hq => by cases hq) ?_
      refine J.run csL_millOf 5 [] ?_
      exact wP_1 q1 hK'
    · rw [if_neg q1] at hv
      by_cases q2 : res.1 = 2
      · rw [if_pos q2] at hv
        cases hv
        refine JX.catch (lv' := []) [⟨0, 7, 10, 15⟩] ⟨0, 7, 15, 17⟩ [] rfl (fun z hz => by
          cases List.mem_singleton.mp hz
          exact Or.inr ⟨by decide, eI, lRL_15, List.mem_cons_self⟩) (by decide) (by decide) lRL_17 (List.mem_cons_of_mem _ List.mem_cons_self) dL_millOf_15 (by decide) (fun q hq => by cases hq) ?_
        refine J.run csL_millOf 5 [] ?_
        exact wP_2 q1 q2 hK'
      · rw [if_neg q2] at hv
        cases hv
theorem le_rOwner (S : aS) (a : Int32) (b : Int32) : (rOwner S a b).1 ≤ 2 := by
  unfold rOwner
  repeat' split
  all_goals exact Nat.le_of_ble_eq_true rfl
theorem c_L_ownerOf {S : aS} {K : cK} (h : cRel S K) (a : Int32) (b : Int32) : Ct ML_ownerOf 2 12 [.ref 0, .int a, .int b] (clw K []) (wP (rOwner S a b) (-31) (-32)) := by
  refine Ct.ofH (by decide) rfl (by decide +kernel) rfl (Nat.le_of_ble_eq_true rfl) ?_
  have hle := le_rOwner S a b
  have hC := c_X3_ownerOf (y := []) h a b
  generalize rOwner S a b = res at hC hle ⊢
  refine J.run csL_ownerOf 20 [] ?_
  refine J.callVI 0 0 [] hC kX3_ownerOf mRL_54 dL_ownerOf_3 (by decide) (by decide) rfl rfl rfl (Nat.le_of_ble_eq_true rfl) (i0 := 0) rfl (ci := 3) rfl rfl (by decide) (by decide) ?_ ?_
  · rintro v h' ⟨hv, K', hK', rfl⟩
    refine ⟨by rw [clw_len, clw_len], ?_⟩
    by_cases q1 : res.1 = 1
    · rw [if_pos q1] at hv
      cases hv
    · by_cases q2 : res.1 = 2
      · rw [if_neg q1, if_pos q2] at hv
        cases hv
      · rw [if_neg q1, if_neg q2] at hv
        cases hv
        refine J.run csL_ownerOf 10 [] ?_
        exact wP_0 q1 q2 hK'
  · rintro E h' ⟨hv, K', hK', rfl⟩
    refine ⟨by rw [clw_len, clw_len], ?_⟩
    by_cases q1 : res.1 = 1
    · rw [if_pos q1] at hv
      cases hv
      refine JX.catch (lv' := []) [] ⟨0, 7, 10, 15⟩ [⟨0, 7, 15, 17⟩] rfl (fun z hz => by cases hz) (by decide) (by decide) lRL_15 (List.mem_cons_self) dL_ownerOf_10 (by decide) (fun q hq => by cases hq) ?_
      refine J.run csL_ownerOf 5 [] ?_
      exact wP_1 q1 hK'
    · rw [if_neg q1] at hv
      by_cases q2 : res.1 = 2
      · rw [if_pos q2] at hv
        cases hv
        refine JX.catch (lv' := []) [⟨0, 7, 10, 15⟩] ⟨0, 7, 15, 17⟩ [] rfl (fun z hz => by
          cases List.mem_singleton.mp hz
          exact Or.inr ⟨by decide, eI, lRL_15, List.mem_cons_self⟩) (by decide) (by decide) lRL_17 (List.mem_cons_of_mem _ List.mem_cons_self) dL_ownerOf_15 (by decide) (fun q hq => by cases hq) ?_
        refine J.run csL_ownerOf 5 [] ?_
        exact wP_2 q1 q2 hK'
      · rw [if_neg q2] at hv
        cases hv
theorem le_rDone (S : aS) (a : Int32) (b : Int32) : (rDone S a b).1 ≤ 2 := by
  unfold rDone
  repeat' split
  all_goals exact Nat.le_of_ble_eq_true rfl
theorem c_L_doneIn {S : aS} {K : cK} (h : cRel S K) (a : Int32) (b : Int32) : Ct ML_doneIn 2 12 [.ref 0, .int a, .int b] (clw K []) (wP (rDone S a b) (-31) (-32)) := by
  refine Ct.ofH (by decide) rfl (by decide +kernel) rfl (Nat.le_of_ble_eq_true rfl) ?_
  have hle := le_rDone S a b
  have hC := c_X3_doneIn (y := []) h a b
  generalize rDone S a b = res at hC hle ⊢
  refine J.run csL_doneIn 20 [] ?_
  refine J.callVI 0 0 [] hC kX3_doneIn mRL_57 dL_doneIn_3 (by decide) (by decide) rfl rfl rfl (Nat.le_of_ble_eq_true rfl) (i0 := 0) rfl (ci := 3) rfl rfl (by decide) (by decide) ?_ ?_
  · rintro v h' ⟨hv, K', hK', rfl⟩
    refine ⟨by rw [clw_len, clw_len], ?_⟩
    by_cases q1 : res.1 = 1
    · rw [if_pos q1] at hv
      cases hv
    · by_cases q2 : res.1 = 2
      · rw [if_neg q1, if_pos q2] at hv
        cases hv
      · rw [if_neg q1, if_neg q2] at hv
        cases hv
        refine J.run csL_doneIn 10 [] ?_
        exact wP_0 q1 q2 hK'
  · rintro E h' ⟨hv, K', hK', rfl⟩
    refine ⟨by rw [clw_len, clw_len], ?_⟩
    by_cases q1 : res.1 = 1
    · rw [if_pos q1] at hv
      cases hv
      refine JX.catch (lv' := []) [] ⟨0, 7, 10, 15⟩ [⟨0, 7, 15, 17⟩] rfl (fun z hz => by cases hz) (by decide) (by decide) lRL_15 (List.mem_cons_self) dL_doneIn_10 (by decide) (fun q hq => by cases hq) ?_
      refine J.run csL_doneIn 5 [] ?_
      exact wP_1 q1 hK'
    · rw [if_neg q1] at hv
      by_cases q2 : res.1 = 2
      · rw [if_pos q2] at hv
        cases hv
        refine JX.catch (lv' := []) [⟨0, 7, 10, 15⟩] ⟨0, 7, 15, 17⟩ [] rfl (fun z hz => by
          cases List.mem_singleton.mp hz
          exact Or.inr ⟨by decide, eI, lRL_15, List.mem_cons_self⟩) (by decide) (by decide) lRL_17 (List.mem_cons_of_mem _ List.mem_cons_self) dL_doneIn_15 (by decide) (fun q hq => by cases hq) ?_
        refine J.run csL_doneIn 5 [] ?_
        exact wP_2 q1 q2 hK'
      · rw [if_neg q2] at hv
        cases hv
theorem le_rIf (S : aS) (a : Int32) (b : Int32) : (rIf S a b).1 ≤ 2 := by
  unfold rIf
  repeat' split
  all_goals exact Nat.le_of_ble_eq_true rfl
theorem c_L_ifPassed {S : aS} {K : cK} (h : cRel S K) (a : Int32) (b : Int32) : Ct ML_ifPassed 2 12 [.ref 0, .int a, .int b] (clw K []) (wP (rIf S a b) (-31) (-32)) := by
  refine Ct.ofH (by decide) rfl (by decide +kernel) rfl (Nat.le_of_ble_eq_true rfl) ?_
  have hle := le_rIf S a b
  have hC := c_X3_ifPassed (y := []) h a b
  generalize rIf S a b = res at hC hle ⊢
  refine J.run csL_ifPassed 20 [] ?_
  refine J.callVI 0 0 [] hC kX3_ifPassed mRL_60 dL_ifPassed_3 (by decide) (by decide) rfl rfl rfl (Nat.le_of_ble_eq_true rfl) (i0 := 0) rfl (ci := 3) rfl rfl (by decide) (by decide) ?_ ?_
  · rintro v h' ⟨hv, K', hK', rfl⟩
    refine ⟨by rw [clw_len, clw_len], ?_⟩
    by_cases q1 : res.1 = 1
    · rw [if_pos q1] at hv
      cases hv
    · by_cases q2 : res.1 = 2
      · rw [if_neg q1, if_pos q2] at hv
        cases hv
      · rw [if_neg q1, if_neg q2] at hv
        cases hv
        refine J.run csL_ifPassed 10 [] ?_
        exact wP_0 q1 q2 hK'
  · rintro E h' ⟨hv, K', hK', rfl⟩
    refine ⟨by rw [clw_len, clw_len], ?_⟩
    by_cases q1 : res.1 = 1
    · rw [if_pos q1] at hv
      cases hv
      refine JX.catch (lv' := []) [] ⟨0, 7, 10, 15⟩ [⟨0, 7, 15, 17⟩] rfl (fun z hz => by cases hz) (by decide) (by decide) lRL_15 (List.mem_cons_self) dL_ifPassed_10 (by decide) (fun q hq => by cases hq) ?_
      refine J.run csL_ifPassed 5 [] ?_
      exact wP_1 q1 hK'
    · rw [if_neg q1] at hv
      by_cases q2 : res.1 = 2
      · rw [if_pos q2] at hv
        cases hv
        refine JX.catch (lv' := []) [⟨0, 7, 10, 15⟩] ⟨0, 7, 15, 17⟩ [] rfl (fun z hz => by
          cases List.mem_singleton.mp hz
          exact Or.inr ⟨by decide, eI, lRL_15, List.mem_cons_self⟩) (by decide) (by decide) lRL_17 (List.mem_cons_of_mem _ List.mem_cons_self) dL_ifPassed_15 (by decide) (fun q hq => by cases hq) ?_
        refine J.run csL_ifPassed 5 [] ?_
        exact wP_2 q1 q2 hK'
      · rw [if_neg q2] at hv
        cases hv
