/-! isAhead. -/
def ahQ (S : aS) (h v g l o : Nat → Int32) : j_F := fun u w => u = .inl (some (.int 1)) ∧ ∃ K Y, cRel S K ∧ w = LW h v g l o (clA K ++ Y)
abbrev aL5 (n : Nat) (t : j_L) : j_L := (0, .ref 5) :: (1, .int (nI n)) :: (2, .ref 0) :: (3, .ref 1) :: (4, .ref 2) :: (5, .ref 3) :: (6, .ref 4) :: t
theorem gR_cg {A : aV} {g g' : Nat → Int32} (e : ∀ j, j < 15 → g' j = g j) (H : gR A g) : gR A g' := by
  obtain ⟨⟨a, b, c, d⟩, h2, h3⟩ := H
  refine ⟨⟨(e 0 (by decide)).trans a, (e 1 (by decide)).trans b, (e 2 (by decide)).trans c, (e 3 (by decide)).trans d⟩, fun s hs => (e _ (by omega)).trans (h2 s hs), fun m hm => ?_⟩
  obtain ⟨x, y, z⟩ := h3 m hm
  exact ⟨(e _ (by omega)).trans x, (e _ (by omega)).trans y, (e _ (by omega)).trans z⟩
theorem lR_cg {A : aV} {l l' : Nat → Int32} (hA : vOk A) (e : ∀ j, j < 24 → l' j = l j) (H : lR A l) : lR A l' := fun m hm k hk => by
  have := v_lo_len hA hm
  exact (e _ (by omega)).trans (H m hm k hk)
theorem oR_cg {A : aV} {o o' : Nat → Int32} (e : ∀ j, j < 15 → o' j = o j) (H : oR A o) : oR A o' := fun k hk => by
  obtain ⟨x, y, z⟩ := H k hk
  exact ⟨(e _ (by omega)).trans x, (e _ (by omega)).trans y, (e _ (by omega)).trans z⟩
theorem c_L_isAhead1 {S : aS} {K : cK} {h v g l o : Nat → Int32} {n : Nat} (hK : cRel S K) (hR0 : R5 S.1 h v g l o) (hn1 : 1 ≤ n) (hn : n ≤ 99) (hgo : v_go S.1 + n ≤ 200000) : Ct ML_isAhead 7 78 [.ref 5, .int (nI n), .ref 0, .ref 1, .ref 2, .ref 3, .ref 4] (LW h v g l o (clA K ++ [])) (ahQ S h v g l o) := by
  have hA := hK.1.2.1
  have hho := hA.1
  obtain ⟨hh, hv, hg, hl, ho⟩ := hR0
  refine Ct.of rfl rfl (by decide +kernel) rfl (Nat.le_of_ble_eq_true rfl) ?_
  -- the owners
  have LOw : ∀ (g2 l2 o2 : Nat → Int32), oR (hrs n S.1) o2 → ∀ (d k : Nat), k + d = 5 → ∀ K, cRel S K → J ML_isAhead (ahQ S h v g l o) 4 24 69 (aL5 n [(7, .ref 228), (8, .ref 229), (9, .ref 230), (10, .int (nI k))]) [] (LW h v g l o (clA K ++ [gC g2, vC l2, gC o2])) := by
    intro g2 l2 o2 hR2 d
    induction d with
    | zero =>
      intro k hk K hK
      obtain rfl : k = 5 := by omega
      have r1 : rIf S 5 0 = (1, S, 0) := if_pos (by decide)
      have r2 : rIf S 0 100 = (2, S, 0) := (if_neg (by decide)).trans (if_pos (by decide))
      have hC1 := c_L_ifPassed hK 5 0
      rw [r1] at hC1
      refine J.run csL_isAhead 8 [] ?_
      refine ⟨fun _ => ?_, fun q => absurd (by decide) q⟩
      refine J.clH 2 12 [] (r := (1, S, 0)) (c1 := -31) hC1 kL_ifPassed mRL_106 dL_isAhead_111 ⟨Nat.le_of_ble_eq_true rfl, Nat.le_of_ble_eq_true rfl, rfl⟩ rfl rfl rfl (Nat.le_of_ble_eq_true rfl) (by decide) (by decide) (fun K hK => ?_)
      have hC2 := c_L_ifPassed hK 0 100
      rw [r2] at hC2
      refine J.run csL_isAhead 8 [] ?_
      refine ⟨fun q => absurd rfl q, fun _ => ?_⟩
      refine J.clH 0 0 [] (r := (2, S, 0)) (c1 := -32) hC2 kL_ifPassed mRL_106 dL_isAhead_123 ⟨Nat.le_of_ble_eq_true rfl, Nat.le_of_ble_eq_true rfl, rfl⟩ rfl rfl rfl (Nat.le_of_ble_eq_true rfl) (by decide) (by decide) (fun K hK => ?_)
      refine J.run csL_isAhead 8 [] ?_
      exact ⟨fun q => absurd rfl q, fun _ => ⟨Or.inr rfl, rfl, K, _, hK, rfl⟩⟩
    | succ d ih =>
      intro k hk K hK
      have hk5 : k < 5 := by omega
      have ih' := ih (k + 1) (by omega)
      have i0 : nI 3 * nI k = nI (3 * k) := n_mul 3 k
      have x0 : vp_in (nI 3 * nI k) 15 := by rw [i0]; exact vp_n (by omega) (by decide)
      have y0 : o (nI 3 * nI k).toNatClampNeg = nI (v_fl S.1 k) := by rw [i0, cl_n (by omega)]; exact (ho k hk5).1
      have y2 : o2 (nI 3 * nI k).toNatClampNeg = nI (v_fl S.1 k + pF S.1 k n 3) := by rw [i0, cl_n (by omega), (hR2 k hk5).1, fl_hrs n hho]
      have ef : nI (pF S.1 k n 3) = o2 (nI 3 * nI k).toNatClampNeg - o (nI 3 * nI k).toNatClampNeg := by rw [y0, y2, pk_sub (Nat.le_add_right _ _), Nat.add_sub_cancel_left]
      refine J.run csL_isAhead 8 [] ?_
      refine ⟨fun q => absurd ((n_le (a := 5) (by omega) (by omega)).mp q) (by omega), fun _ => ?_⟩
      refine J.lk [] (c_X3_ifPassed0 (y := []) hK hk5 hn1 hn) kX3_ifPassed mRL_60 dL_isAhead_79 ⟨Nat.le_of_ble_eq_true rfl, Nat.le_of_ble_eq_true rfl, rfl⟩ rfl rfl rfl (Nat.le_of_ble_eq_true rfl) rfl (fun K hK => ?_)
      refine J.run csL_isAhead 4 [(88, 11)] ?_
      refine J.iald (i := 230) (n := 15) (f := o2) dL_isAhead_88 (LW_get h v g l o K [gC g2, vC l2, gC o2] 2) x0 ?_
      refine J.run csL_isAhead 14 [(69, 11)] ?_
      refine ⟨x0, fun _ => ?_, fun q => absurd ef q⟩
      exact J.cast (ih' K hK) (congrArg (fun x : Int32 => aL5 n [(7, .ref 228), (8, .ref 229), (9, .ref 230), (10, .int x)]) (nI_succ k)) rfl rfl
  -- the hours
  have LHr : ∀ (d k : Nat), k + d = n → ∀ (g2 l2 o2 : Nat → Int32), gR (hrs k S.1) g2 ∧ lR (hrs k S.1) l2 ∧ oR (hrs k S.1) o2 → J ML_isAhead (ahQ S h v g l o) 4 24 42 (aL5 n [(7, .ref 228), (8, .ref 229), (9, .ref 230), (10, .int (nI k))]) [] (LW h v g l o (clA K ++ [gC g2, vC l2, gC o2])) := by
    intro d
    induction d with
    | zero =>
      intro k hk g2 l2 o2 hR2
      obtain rfl : k = n := by omega
      refine J.run csL_isAhead 3 [(66, 10)] ?_
      refine ⟨fun _ => ?_, fun q => absurd ((n_le (by omega) (by omega)).mpr (Nat.le_refl k)) q⟩
      refine J.run csL_isAhead 2 [(69, 11)] ?_
      exact LOw g2 l2 o2 hR2.2.2 5 0 rfl K hK
    | succ d ih =>
      intro k hk g2 l2 o2 hR2
      have hok : vOk (hrs k S.1) := hrs_ok k hA (by omega)
      have hCh := c_L_hour hok (hrs_hR hh k) (hrs_vR hv k) hR2
      have lies : j_lies [0, 1, 228, 229, 230] (hw5 h v g2 l2 o2) (LW h v g l o (clA K ++ [gC g2, vC l2, gC o2])) := by
        show [some (hC h), some (vC v), j_nth (LW h v g l o (clA K ++ [gC g2, vC l2, gC o2])) 228, j_nth (LW h v g l o (clA K ++ [gC g2, vC l2, gC o2])) 229, j_nth (LW h v g l o (clA K ++ [gC g2, vC l2, gC o2])) 230] = _
        rw [j_nth_eq, j_nth_eq, j_nth_eq, LW_get h v g l o K [gC g2, vC l2, gC o2] 0, LW_get h v g l o K [gC g2, vC l2, gC o2] 1, LW_get h v g l o K [gC g2, vC l2, gC o2] 2]
        rfl
      refine J.run csL_isAhead 10 [] ?_
      refine ⟨fun q => absurd ((n_le (by omega) (by omega)).mp q) (by omega), fun _ => ?_⟩
      refine J.callS 4 24 [] [0, 1, 228, 229, 230] hCh kL_hour mRL_102 dL_isAhead_56 (Nat.le_of_ble_eq_true rfl) (Nat.le_of_ble_eq_true rfl) rfl rfl rfl (Nat.le_of_ble_eq_true rfl) lies (by decide) (by decide) (by decide) ?_ ?_
      · rintro v9 h' ⟨hv9, g3, l3, o3, hR3, rfl⟩
        cases hv9
        refine ⟨rfl, ?_⟩
        rw [← hrs_s] at hR3
        have X := ih (k + 1) (by omega) g3 l3 o3 hR3
        have eW : (((LW h v g l o (clA K ++ [gC g2, vC l2, gC o2])).set 228 (gC g3)).set 229 (vC l3)).set 230 (gC o3) = LW h v g l o (clA K ++ [gC g3, vC l3, gC o3]) := by
          rw [LW_set h v g l o K [gC g2, vC l2, gC o2] 0, LW_set h v g l o K _ 1, LW_set h v g l o K _ 2]
          rfl
        show J ML_isAhead (ahQ S h v g l o) 4 24 59 _ [.int (nI (hrG (hrs k S.1)))] ((((LW h v g l o (clA K ++ [gC g2, vC l2, gC o2])).set 228 (gC g3)).set 229 (vC l3)).set 230 (gC o3))
        rw [eW]
        refine J.run csL_isAhead 4 [(42, 11)] ?_
        refine ⟨rfl, ?_⟩
        exact J.cast X (congrArg (fun x : Int32 => aL5 n [(7, .ref 228), (8, .ref 229), (9, .ref 230), (10, .int x)]) (nI_succ k)) rfl rfl
      · rintro E h' ⟨hv9, -⟩
        cases hv9
  -- the rows
  have cpy : ∀ (N p j : Nat) (f f0 : Nat → Int32) (Y : j_H) (hY : Y[j]? = some (.inl (0, N, .inl f0))) (hp : j_nth (LW h v g l o (clA K ++ Y)) p = some (.inl (0, N, .inl f))), j_lies [p, 228 + j] [.inl (0, N, .inl f), .inl (0, N, .inl f0)] (LW h v g l o (clA K ++ Y)) := by
    intro N p j f f0 Y hY hp
    show [j_nth (LW h v g l o (clA K ++ Y)) p, j_nth (LW h v g l o (clA K ++ Y)) (228 + j)] = _
    rw [hp, j_nth_eq, LW_get, hY]
    rfl
  refine J.run csL_isAhead 1 [] ?_
  refine J.newL 15 6 63 [gC (fun _ => 0)] rfl (by decide) (by decide) ⟨rfl, by decide⟩ dL_isAhead_2 rfl trivial (by decide) rfl ?_
  refine J.run csL_isAhead 2 [] ?_
  refine J.newL 24 5 39 [gC (fun _ => 0), vC (fun _ => 0)] rfl (by decide) (by decide) ⟨rfl, by decide⟩ dL_isAhead_8 rfl ⟨trivial, trivial⟩ (by decide) rfl ?_
  refine J.run csL_isAhead 2 [] ?_
  refine J.newL 15 4 24 [gC (fun _ => 0), vC (fun _ => 0), gC (fun _ => 0)] rfl (by decide) (by decide) ⟨rfl, by decide⟩ dL_isAhead_14 rfl ⟨trivial, trivial, trivial⟩ (by decide) rfl ?_
  refine J.run csL_isAhead 3 [] ?_
  refine J.callS 4 24 [] [2, 228] (c_L_copy (n := 15) (by decide) g (fun _ => 0)) kL_copy mRL_98 dL_isAhead_22 (Nat.le_of_ble_eq_true rfl) (Nat.le_of_ble_eq_true rfl) rfl rfl rfl (Nat.le_of_ble_eq_true rfl) (cpy 15 2 0 g (fun _ => 0) _ rfl rfl) (by decide) (by decide) (by decide) ?_ (by
    rintro E h' ⟨hv9, -⟩
    cases hv9)
  rintro v9 h' ⟨hv9, g2, hg2, rfl⟩
  cases hv9
  refine ⟨rfl, ?_⟩
  show J ML_isAhead (ahQ S h v g l o) 4 24 25 (aL5 n [(7, .ref 228), (8, .ref 229), (9, .ref 230)]) [] ((LW h v g l o (clA K ++ [gC (fun _ => 0), vC (fun _ => 0), gC (fun _ => 0)])).set 228 (gC g2))
  rw [LW_set h v g l o K _ 0]
  refine J.run csL_isAhead 2 [] ?_
  refine J.callS 4 24 [] [3, 229] (c_L_copy (n := 24) (by decide) l (fun _ => 0)) kL_copy mRL_98 dL_isAhead_29 (Nat.le_of_ble_eq_true rfl) (Nat.le_of_ble_eq_true rfl) rfl rfl rfl (Nat.le_of_ble_eq_true rfl) (cpy 24 3 1 l (fun _ => 0) _ rfl rfl) (by decide) (by decide) (by decide) ?_ (by
    rintro E h' ⟨hv9, -⟩
    cases hv9)
  rintro v9 h' ⟨hv9, l2, hl2, rfl⟩
  cases hv9
  refine ⟨rfl, ?_⟩
  show J ML_isAhead (ahQ S h v g l o) 4 24 32 (aL5 n [(7, .ref 228), (8, .ref 229), (9, .ref 230)]) [] ((LW h v g l o (clA K ++ [gC g2, vC (fun _ => 0), gC (fun _ => 0)])).set 229 (vC l2))
  rw [LW_set h v g l o K _ 1]
  refine J.run csL_isAhead 2 [] ?_
  refine J.callS 4 24 [] [4, 230] (c_L_copy (n := 15) (by decide) o (fun _ => 0)) kL_copy mRL_98 dL_isAhead_36 (Nat.le_of_ble_eq_true rfl) (Nat.le_of_ble_eq_true rfl) rfl rfl rfl (Nat.le_of_ble_eq_true rfl) (cpy 15 4 2 o (fun _ => 0) _ rfl rfl) (by decide) (by decide) (by decide) ?_ (by
    rintro E h' ⟨hv9, -⟩
    cases hv9)
  rintro v9 h' ⟨hv9, o2, ho2, rfl⟩
  cases hv9
  refine ⟨rfl, ?_⟩
  show J ML_isAhead (ahQ S h v g l o) 4 24 39 (aL5 n [(7, .ref 228), (8, .ref 229), (9, .ref 230)]) [] ((LW h v g l o (clA K ++ [gC g2, vC l2, gC (fun _ => 0)])).set 230 (gC o2))
  rw [LW_set h v g l o K _ 2]
  refine J.run csL_isAhead 2 [(42, 11)] ?_
  exact LHr n 0 (Nat.zero_add _) g2 l2 o2 ⟨gR_cg hg2 hg, lR_cg hA hl2 hl, oR_cg ho2 ho⟩
/-- the same, its rows forgotten -/
def MI : j_M := (RL, yL_isAhead, cL_isAhead, 11, (some .boolean), 9, 166, [], none, false)
theorem c_L_isAhead {S : aS} {K : cK} {h v g l o : Nat → Int32} {n : Nat} (hK : cRel S K) (hR0 : R5 S.1 h v g l o) (hn1 : 1 ≤ n) (hn : n ≤ 99) (hgo : v_go S.1 + n ≤ 200000) : Ct MI 7 78 [.ref 5, .int (nI n), .ref 0, .ref 1, .ref 2, .ref 3, .ref 4] (LW h v g l o (clA K ++ [])) (okQ S h v g l o []) := by
  refine Ct.fix (Ct.take (c_L_isAhead1 hK hR0 hn1 hn hgo) (fun u w hq => ?_)) (fun u w hq => ?_)
  · obtain ⟨hu, K', Y, hK', rfl⟩ := hq
    refine ⟨LW h v g l o (clA K' ++ []), Y, ?_, hu, K', hK', rfl⟩
    rw [LW_app]
    rfl
  · obtain ⟨hu, K', hK', rfl⟩ := hq
    rw [LW_len, LW_len]
    exact ⟨rfl, LW_bd (Nat.le_refl _) h v g l o K' trivial, _, hu, fun _ => rfl⟩
