/-! The law: its body. -/
theorem j_v_id (v : Value) : j_v (fun i => i) v = v := by cases v <;> rfl
theorem j_rc_id (c : j_C) : j_rc (fun i => i) c = c := by
  rcases c with ⟨t, n, f⟩ | ⟨k, fs⟩
  · rcases f with f | f | f | f | f
    · rfl
    · rfl
    · rfl
    · rfl
    · show Sum.inl (t, n, Sum.inr (Sum.inr (Sum.inr (Sum.inr (fun j => (f j).map (fun i => i)))))) = Sum.inl (t, n, Sum.inr (Sum.inr (Sum.inr (Sum.inr f))))
      refine congrArg (fun g => Sum.inl (t, n, Sum.inr (Sum.inr (Sum.inr (Sum.inr g))))) (funext fun j => ?_)
      cases f j <;> rfl
  · refine congrArg (fun x => Sum.inr (k, x)) ?_
    rw [show j_v (fun i => i) = (fun v => v) from funext j_v_id]
    exact List.map_id' fs
theorem j_rcL_id {n : Nat} {r : Nat → Nat} (h : ∀ i, i < n → r i = i) (l : j_H) (hb : j_bdL n l) : l.map (j_rc r) = l := by
  rw [j_rcL_cg (r' := fun i => i) h l hb, show j_rc (fun i => i) = (fun c => c) from funext j_rc_id]
  exact List.map_id' l
theorem j_f_r0 {n i : Nat} (h : i < n) : j_f (List.range' 0 n) i = i := by
  show (List.range' 0 n).getD i 0 = i
  rw [List.getD_eq_getElem?_getD, List.getElem?_range' h]
  show 0 + 1 * i = i
  omega
theorem cl0_e : clw K0 [] = clq slq svq ++ yk 8 := by
  rw [yk_8]
  rfl
theorem cl0_bd : j_bdL 223 (clw K0 []) := by
  rw [cl0_e]
  have h1 := slk_bd (b := 31) (k := 2) (n := 223) (by decide)
  have h2 := slk_bd (b := 79) (k := 6) (n := 223) (by decide)
  rw [slk_2] at h1
  rw [slk_6] at h2
  exact j_bdL_app (clq_bd (by decide) h1 h2) (yk_bd 8)
theorem cl0_c : ∃ c0 cs, clw K0 [] = c0 :: cs ∧ cs.length = 222 := by
  have hl : (clw K0 []).length = 223 := clw_len K0 []
  cases e : clw K0 [] with
  | nil => rw [e] at hl; cases hl
  | cons c0 cs =>
    rw [e] at hl
    exact ⟨c0, cs, rfl, Nat.succ.inj hl⟩
theorem mB_bd (t : mT) (z : Nat → Int32) (r : mR) : j_bdL 230 (mB t z r) := by
  refine j_bdL_rc (n := 7) ?_ _ ⟨rfl, trivial, trivial, trivial, trivial, trivial, trivial, trivial⟩
  intro i hi
  show (List.range' 223 7).getD i 0 < 230
  rw [List.getD_eq_getElem?_getD, List.getElem?_range' hi]
  show 223 + 1 * i < 230
  omega
theorem X3_fs : ∀ j, j < 8 → defaultValue (tyX3 j) = vp_V [.null, .null, .null, .null, .int 0, .int 0, .null, .null] j := by
  intro j hj
  rcases (show j = 0 ∨ j = 1 ∨ j = 2 ∨ j = 3 ∨ j = 4 ∨ j = 5 ∨ j = 6 ∨ j = 7 by omega) with rfl | rfl | rfl | rfl | rfl | rfl | rfl | rfl <;> rfl
theorem X4_fs : ∀ j, j < 10 → defaultValue (tyX4 j) = vp_V [.int 0, .null, .null, .null, .int 0, .null, .null, .null, .int 0, .int 0] j := by
  intro j hj
  rcases (show j = 0 ∨ j = 1 ∨ j = 2 ∨ j = 3 ∨ j = 4 ∨ j = 5 ∨ j = 6 ∨ j = 7 ∨ j = 8 ∨ j = 9 by omega) with rfl | rfl | rfl | rfl | rfl | rfl | rfl | rfl | rfl | rfl <;> rfl
theorem lw_body {L : Nat} {xs : Nat → Int32} {Φ : j_F} (hL : L ≤ 2048) (hΦ : ∀ h, Φ (.inl (some (.int 1))) h) : J (ML_law L xs) Φ 1767 12450 0 [(0, .ref j_sid)] [] [] := by
  obtain ⟨c0, cs, he, hcs⟩ := cl0_c
  have hC3 := c_X3_init
  rw [he] at hC3
  have hbc := cl0_bd
  rw [he] at hbc
  refine J.make 1544 10789 (fs := [.null, .null, .null, .null, .int 0, .int 0, .null, .null]) hC3 rfl jnX3 tyX3_ok lRL_8 a_n3 kX3_init.2.2 X3_fs (fun _ => rfl) rfl rfl rfl kX3_init (Or.inl mRL_79) ⟨by decide +kernel, by decide +kernel, by decide +kernel⟩ dL_law_0 dL_law_3 dL_law_4 (Nat.le_of_ble_eq_true rfl) (Nat.le_of_ble_eq_true rfl) rfl (by decide) (by decide) (by decide) trivial rfl (by rw [hcs]; exact hbc) (by rfl) rfl (by rw [hcs]; decide) ?_
  have e1 : ([] : j_H) ++ (c0 :: cs).map (j_rc (j_f (List.range' ([] : j_H).length (cs.length + 1)))) = clw K0 [] := by
    rw [List.nil_append, hcs, he]
    exact j_rcL_id (n := 223) (fun i hi => j_f_r0 hi) _ hbc
  rw [e1]
  refine J.run (csL_law_0 L xs) 1 [] ?_
  have h223 : (clw K0 []).length = 223 := clw_len K0 []
  refine J.make 1537 9217 (fs := [.int 0, .null, .null, .null, .int 0, .null, .null, .null, .int 0, .int 0]) c_X4_init rfl jnX4 tyX4_ok lRL_80 a_n4 kX4_init.2.2 X4_fs (fun _ => rfl) rfl rfl rfl kX4_init (Or.inl mRL_82) ⟨by decide +kernel, by decide +kernel, by decide +kernel⟩ dL_law_8 dL_law_11 dL_law_12 (Nat.le_of_ble_eq_true rfl) (Nat.le_of_ble_eq_true rfl) rfl (by decide) (by decide) (by decide) (by rw [h223]; exact cl0_bd) rfl ⟨rfl, trivial, trivial, trivial, trivial, trivial, trivial, trivial⟩ ?_ rfl (by rw [h223]; decide) ?_
  · rw [h223]
    rfl
  rw [h223]
  show J (ML_law L xs) Φ 1537 9217 15 _ _ (clw K0 [] ++ mB (0, 0, 0, 0) (zMl 3) (fun _ => 0, fun _ => 0, fun _ => 0, fun _ => 0, fun _ => 0))
  have h230 : (clw K0 [] ++ mB (0, 0, 0, 0) (zMl 3) (fun _ => 0, fun _ => 0, fun _ => 0, fun _ => 0, fun _ => 0)).length = 230 := by
    rw [List.length_append, h223, mB_len]
  refine J.run (csL_law_0 L xs) 2 [] ?_
  refine J.newa (ty := .long) (atype := .long) (N := 1) (f := .inr (.inl (fun _ => 0))) 1 rfl rfl a_al ⟨rfl, by decide⟩ (fun _ => rfl) (fun _ => rfl) (by decide) dL_law_17 rfl (by rw [h230]; exact j_bdL_app (j_bdL_le (by decide) _ cl0_bd) (mB_bd _ _ _)) ?_ rfl (by rw [h230]; decide) ?_
  · rw [h230]
    rfl
  rw [h230]
  have e2 : (clw K0 [] ++ mB (0, 0, 0, 0) (zMl 3) (fun _ => 0, fun _ => 0, fun _ => 0, fun _ => 0, fun _ => 0)) ++ [.inl (1, 1, .inr (.inl (fun _ => 0)))] = lawW K0 (0, 0, 0, 0) (zMl 3) (fun _ => 0, fun _ => 0, fun _ => 0, fun _ => 0, fun _ => 0) (fun _ => 0) := by
    refine (List.append_assoc _ _ _).trans ?_
    exact (clw_app K0 (mB (0, 0, 0, 0) (zMl 3) (fun _ => 0, fun _ => 0, fun _ => 0, fun _ => 0, fun _ => 0) ++ [outc (fun _ => 0)])).symm
  rw [e2]
  refine J.run (csL_law_0 L xs) 3 [(23, 5)] ?_
  exact lw_loop hL hΦ 512 0 (by omega) (by decide) _ _ _ _ _ _ K0_rel M0_rel
