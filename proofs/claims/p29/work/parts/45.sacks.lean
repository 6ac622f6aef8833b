/-! areSacks. -/
abbrev R5 (A : aV) (h v g l o : Nat → Int32) : Prop := hR A h ∧ vR A v ∧ gR A g ∧ lR A l ∧ oR A o
def okQ (S : aS) (h v g l o : Nat → Int32) (Y : j_H) : j_F := fun u w => u = .inl (some (.int 1)) ∧ ∃ K, cRel S K ∧ w = LW h v g l o (clA K ++ Y)
abbrev sL (a b c : Int32) (t : j_L) : j_L := (0, .ref 5) :: (1, .ref 0) :: (2, .ref 1) :: (3, .ref 2) :: (4, .ref 3) :: (5, .ref 4) :: (6, .int a) :: (7, .int b) :: (8, .int c) :: t
theorem n_le0' {x : Int32} : x ≤ 0 ↔ ¬ 0 < x := Int32.not_lt.symm
theorem n_m1 {a : Nat} (h : 1 ≤ a) : nI a - 1 = nI (a - 1) := pk_sub h
/-- in how many hours a mill is done, by whole days and the rest -/
theorem done_days {A : aV} (hA : vOk A) {m : Nat} (hm : m < 3) (h0 : swt (v_lo A m) ≠ 0) (hd : day A m ≠ 0) : ∃ H, H ≤ 19008 ∧ isH A m (swt (v_lo A m) - (swt (v_lo A m) - 1) / day A m * day A m) H ∧ doV A m = nI (24 * ((swt (v_lo A m) - 1) / day A m) + H) ∧ 24 * ((swt (v_lo A m) - 1) / day A m) + H ≤ 19008 := by
  have hs := swt_le (v_lo_len hA hm) (vOk_q hA hm)
  obtain ⟨n, hn⟩ : ∃ n, n = swt (v_lo A m) := ⟨_, rfl⟩
  obtain ⟨D, hD⟩ : ∃ D, D = day A m := ⟨_, rfl⟩
  obtain ⟨q, hq⟩ : ∃ q, q = (n - 1) / D := ⟨_, rfl⟩
  rw [← hn] at h0 hs ⊢
  rw [← hD] at hd ⊢
  rw [← hq]
  have hdm := Nat.div_add_mod (n - 1) D
  have hml := Nat.mod_lt (n - 1) (show 0 < D by omega)
  rw [← hq, Nat.mul_comm] at hdm
  have h1 : 0 < n - q * D := by omega
  have h2 : n - q * D ≤ D := by omega
  obtain ⟨H, g1, g2⟩ := done_ex hA (m := m) (l := n - q * D) (by omega) (by omega)
  obtain ⟨H2, f1, f2⟩ := done_ex hA (m := m) (l := n) hs (by omega)
  have g3 := isH_d hA.1 (d := q) h1 g2 (by rw [← hD]; exact h2)
  rw [← hD, show q * D + (n - q * D) = n by omega] at g3
  have e := isH_one f2 g3
  refine ⟨H, g1, g2, ?_, by omega⟩
  unfold doV
  rw [← hn, if_neg h0, ← hD, if_neg hd, hrF_is f2 f1, e]
theorem c_L_areSacks {S : aS} {K : cK} {h v g l o : Nat → Int32} {Y : j_H} (hK : cRel S K) (hR0 : R5 S.1 h v g l o) : Ct ML_areSacks 0 0 [.ref 5, .ref 0, .ref 1, .ref 2, .ref 3, .ref 4] (LW h v g l o (clA K ++ Y)) (okQ S h v g l o Y) := by
  have hA := hK.1.2.1
  have hho := hA.1
  obtain ⟨hh, hv, hg, hl, ho⟩ := hR0
  refine Ct.of rfl rfl (by decide +kernel) rfl (Nat.le_of_ble_eq_true rfl) ?_
  -- the last counts
  have hW3 : sumN (fun j => swt (v_lo S.1 j)) 3 = swa S.1 := by
    show 0 + swt (v_lo S.1 0) + swt (v_lo S.1 1) + swt (v_lo S.1 2) = _
    rw [Nat.zero_add]
    rfl
  have E505 : ∀ x8 K, cRel S K → J ML_areSacks (okQ S h v g l o Y) 0 0 505 (sL (nI (swa S.1)) (nI (fla S.1)) x8 []) [] (LW h v g l o (clA K ++ Y)) := by
    intro x8 K hK
    refine J.run csL_areSacks_490 5 [] ?_
    refine J.lk [] (c_X3_count0 (y := []) hK (w := 5) (by decide)) kX3_count mRL_76 dL_areSacks_507 ⟨Nat.le_of_ble_eq_true rfl, Nat.le_of_ble_eq_true rfl, rfl⟩ rfl rfl rfl (Nat.le_of_ble_eq_true rfl) rfl (fun K hK => ?_)
    refine J.run csL_areSacks_490 5 [] ?_
    refine ⟨fun q => absurd rfl q, fun _ => ?_⟩
    refine J.lk [] (c_X3_count0 (y := []) hK (w := 6) (by decide)) kX3_count mRL_76 dL_areSacks_518 ⟨Nat.le_of_ble_eq_true rfl, Nat.le_of_ble_eq_true rfl, rfl⟩ rfl rfl rfl (Nat.le_of_ble_eq_true rfl) rfl (fun K hK => ?_)
    refine J.run csL_areSacks_490 5 [] ?_
    refine ⟨fun q => absurd rfl q, fun _ => ?_⟩
    refine J.lk [] (c_X3_count0 (y := []) hK (w := 7) (by decide)) kX3_count mRL_76 dL_areSacks_529 ⟨Nat.le_of_ble_eq_true rfl, Nat.le_of_ble_eq_true rfl, rfl⟩ rfl rfl rfl (Nat.le_of_ble_eq_true rfl) rfl (fun K hK => ?_)
    refine J.run csL_areSacks_490 20 [] ?_
    exact ⟨vp_c (by decide), fun q => absurd (show nI (v_re S.1) = g 3 from hg.1.2.2.2.symm) q, fun _ => ⟨Or.inr rfl, rfl, K, hK, rfl⟩⟩
  have LC : ∀ (d k : Nat), k + d = 3 → ∀ K, cRel S K → J ML_areSacks (okQ S h v g l o Y) 0 0 478 (sL (nI (swa S.1)) (nI (fla S.1)) (nI k) []) [] (LW h v g l o (clA K ++ Y)) := by
    intro d
    induction d with
    | zero =>
      intro k hk K hK
      obtain rfl : k = 3 := by omega
      refine J.run csL_areSacks_407 3 [(505, 9)] ?_
      exact ⟨fun _ => E505 _ K hK, fun q => absurd (by decide) q⟩
    | succ d ih =>
      intro k hk K hK
      have e : coV S k = g k := by
        rcases (show k = 0 ∨ k = 1 ∨ k = 2 by omega) with rfl | rfl | rfl
        · exact hg.1.1.symm
        · exact hg.1.2.1.symm
        · exact hg.1.2.2.1.symm
      have ck := cl_n (a := k) (by omega)
      refine J.run csL_areSacks_407 5 [] ?_
      refine ⟨fun q => absurd ((n_le (a := 3) (by omega) (by omega)).mp q) (by omega), fun _ => ?_⟩
      refine J.lk [] (c_X3_count0 (y := []) hK (w := k) (by omega)) kX3_count mRL_76 dL_areSacks_487 ⟨Nat.le_of_ble_eq_true rfl, Nat.le_of_ble_eq_true rfl, rfl⟩ rfl rfl rfl (Nat.le_of_ble_eq_true rfl) rfl (fun K hK => ?_)
      refine J.run csL_areSacks_490 20 [(478, 9)] ?_
      refine ⟨vp_n (by omega) (by omega), fun _ => ?_, fun q => absurd (show coV S k = g (nI k).toNatClampNeg by rw [ck]; exact e) q⟩
      exact J.cast (ih (k + 1) (by omega) K hK) (congrArg (fun x : Int32 => sL (nI (swa S.1)) (nI (fla S.1)) x []) (nI_succ k)) rfl rfl
  -- owners
  have LO : ∀ (d k : Nat), k + d = 5 → ∀ K, cRel S K → J ML_areSacks (okQ S h v g l o Y) 0 0 301 (sL (nI (swa S.1)) (nI (sumN (v_fl S.1) k)) (nI k) []) [] (LW h v g l o (clA K ++ Y)) := by
    intro d
    induction d with
    | zero =>
      intro k hk K hK
      obtain rfl : k = 5 := by omega
      refine J.run csL_areSacks_248 3 [(475, 9)] ?_
      refine ⟨fun _ => ?_, fun q => absurd (by decide) q⟩
      refine J.run csL_areSacks_407 2 [(478, 9)] ?_
      exact LC 3 0 rfl K hK
    | succ d ih =>
      intro k hk K hK
      have hk5 : k < 5 := by omega
      obtain ⟨o1, o2, o3⟩ := ho k hk5
      have i0 : nI 3 * nI k = nI (3 * k) := n_mul 3 k
      have i1 : nI 3 * nI k + nI 1 = nI (3 * k + 1) := by rw [i0, nI_add]
      have i2 : nI 3 * nI k + nI 2 = nI (3 * k + 2) := by rw [i0, nI_add]
      have x0 : vp_in (nI 3 * nI k) 15 := by rw [i0]; exact vp_n (by omega) (by decide)
      have x1 : vp_in (nI 3 * nI k + nI 1) 15 := by rw [i1]; exact vp_n (by omega) (by decide)
      have x2 : vp_in (nI 3 * nI k + nI 2) 15 := by rw [i2]; exact vp_n (by omega) (by decide)
      have y0 : o (nI 3 * nI k).toNatClampNeg = nI (v_fl S.1 k) := by rw [i0, cl_n (by omega)]; exact o1
      have y1 : o (nI 3 * nI k + nI 1).toNatClampNeg = nI (v_br S.1 k) := by rw [i1, cl_n (by omega)]; exact o2
      have y2 : o (nI 3 * nI k + nI 2).toNatClampNeg = nI (v_tk S.1 k) := by rw [i2, cl_n (by omega)]; exact o3
      have e3 : sumN (fun m => swo (v_lo S.1 m) k) 3 = swoa S.1 k := by
        show 0 + swo (v_lo S.1 0) k + swo (v_lo S.1 1) k + swo (v_lo S.1 2) k = _
        rw [Nat.zero_add]
        rfl
      have E388 : ∀ K, cRel S K → J ML_areSacks (okQ S h v g l o Y) 0 0 388 (sL (nI (swa S.1)) (nI (sumN (v_fl S.1) k)) (nI k) [(9, .int (nI (swoa S.1 k)))]) [] (LW h v g l o (clA K ++ Y)) := by
        intro K hK
        refine J.run csL_areSacks_248 20 [] ?_
        refine ⟨x0, ?_⟩
        refine J.lk [] (c_X3_ownerOf0 (y := []) hK hk5 (w := 0) (by decide)) kX3_ownerOf mRL_54 dL_areSacks_404 ⟨Nat.le_of_ble_eq_true rfl, Nat.le_of_ble_eq_true rfl, rfl⟩ rfl rfl rfl (Nat.le_of_ble_eq_true rfl) rfl (fun K hK => ?_)
        refine J.run csL_areSacks_407 12 [] ?_
        refine ⟨fun q => absurd rfl q, fun _ => ?_⟩
        refine J.lk [] (c_X3_ownerOf0 (y := []) hK hk5 (w := 1) (by decide)) kX3_ownerOf mRL_54 dL_areSacks_416 ⟨Nat.le_of_ble_eq_true rfl, Nat.le_of_ble_eq_true rfl, rfl⟩ rfl rfl rfl (Nat.le_of_ble_eq_true rfl) rfl (fun K hK => ?_)
        refine J.run csL_areSacks_407 12 [] ?_
        refine ⟨x0, fun q => absurd (show nI (v_fl S.1 k) = o (nI 3 * nI k).toNatClampNeg from y0.symm) q, fun _ => ?_⟩
        refine J.lk [] (c_X3_ownerOf0 (y := []) hK hk5 (w := 2) (by decide)) kX3_ownerOf mRL_54 dL_areSacks_433 ⟨Nat.le_of_ble_eq_true rfl, Nat.le_of_ble_eq_true rfl, rfl⟩ rfl rfl rfl (Nat.le_of_ble_eq_true rfl) rfl (fun K hK => ?_)
        refine J.run csL_areSacks_407 14 [] ?_
        refine ⟨x1, fun q => absurd (show nI (v_br S.1 k) = o (nI 3 * nI k + nI 1).toNatClampNeg from y1.symm) q, fun _ => ?_⟩
        refine J.lk [] (c_X3_ownerOf0 (y := []) hK hk5 (w := 3) (by decide)) kX3_ownerOf mRL_54 dL_areSacks_452 ⟨Nat.le_of_ble_eq_true rfl, Nat.le_of_ble_eq_true rfl, rfl⟩ rfl rfl rfl (Nat.le_of_ble_eq_true rfl) rfl (fun K hK => ?_)
        refine J.run csL_areSacks_407 14 [(301, 9)] ?_
        refine ⟨x2, fun _ => ?_, fun q => absurd (show nI (v_tk S.1 k) = o (nI 3 * nI k + nI 2).toNatClampNeg from y2.symm) q⟩
        exact J.cast (ih (k + 1) (by omega) K hK) (cg2 (fun x y : Int32 => sL (nI (swa S.1)) x y []) (show nI (sumN (v_fl S.1) (k + 1)) = nI (sumN (v_fl S.1) k) + o (nI 3 * nI k).toNatClampNeg by rw [sumN_s, y0]) (nI_succ k)) rfl rfl
      have LM : ∀ (d m : Nat), m + d = 3 → J ML_areSacks (okQ S h v g l o Y) 0 0 313 (sL (nI (swa S.1)) (nI (sumN (v_fl S.1) k)) (nI k) [(9, .int (nI (sumN (fun m => swo (v_lo S.1 m) k) m))), (10, .int (nI m))]) [] (LW h v g l o (clA K ++ Y)) := by
        intro d
        induction d with
        | zero =>
          intro m hm
          obtain rfl : m = 3 := by omega
          rw [e3]
          refine J.run csL_areSacks_248 3 [(388, 10)] ?_
          exact ⟨fun _ => E388 K hK, fun q => absurd (by decide) q⟩
        | succ d ih2 =>
          intro m hm
          have hm3 : m < 3 := by omega
          have ih2' := ih2 (m + 1) (by omega)
          have h8 := v_lo_len hA hm3
          have gm := (hg.2.2 m hm3).2.1
          have i9 : nI 9 + nI m = nI (9 + m) := nI_add 9 m
          have x9 : vp_in (nI 9 + nI m) 15 := by rw [i9]; exact vp_n (by omega) (by decide)
          have y9 : g (nI 9 + nI m).toNatClampNeg = nI (v_lo S.1 m).length := by rw [i9, cl_n (by omega)]; exact gm
          have LL : ∀ (d i : Nat), i + d = (v_lo S.1 m).length → J ML_areSacks (okQ S h v g l o Y) 0 0 322 (sL (nI (swa S.1)) (nI (sumN (v_fl S.1) k)) (nI k) [(9, .int (nI (sumN (fun m => swo (v_lo S.1 m) k) m) + nI (sumN (fun i => if lo_o (v_lo S.1 m) i = k then lo_s (v_lo S.1 m) i else 0) i))), (10, .int (nI m)), (11, .int (nI i))]) [] (LW h v g l o (clA K ++ Y)) := by
            intro d
            induction d with
            | zero =>
              intro i hi
              obtain rfl : i = (v_lo S.1 m).length := by omega
              refine J.run csL_areSacks_248 20 [(313, 11)] ?_
              refine ⟨x9, fun _ => ?_, fun q => absurd (show g (nI 9 + nI m).toNatClampNeg ≤ nI (v_lo S.1 m).length by rw [y9]; exact (n_le (by omega) (by omega)).mpr (Nat.le_refl _)) q⟩
              exact J.cast ih2' (cg2 (fun x y : Int32 => sL (nI (swa S.1)) (nI (sumN (v_fl S.1) k)) (nI k) [(9, .int x), (10, .int y)]) (sumN_s _ m) (nI_succ m)) rfl rfl
            | succ d ih3 =>
              intro i hi
              have ih3' := ih3 (i + 1) (by omega)
              have hb := lot_bd hA hm3 (k := i) (by omega)
              have il : nI 8 * nI m + nI i = nI (8 * m + i) := by rw [n_mul, nI_add]
              have xl : vp_in (nI 8 * nI m + nI i) 24 := by rw [il]; exact vp_n (by omega) (by decide)
              have yl : l (nI 8 * nI m + nI i).toNatClampNeg = nI (100 * lo_o (v_lo S.1 m) i + lo_s (v_lo S.1 m) i) := by rw [il, cl_n (by omega)]; exact hl m hm3 i (by omega)
              have yd : l (nI 8 * nI m + nI i).toNatClampNeg / 100 = nI (lo_o (v_lo S.1 m) i) := by
                rw [yl, n_div100 (by omega)]
                congr 1
                omega
              have yr : l (nI 8 * nI m + nI i).toNatClampNeg - l (nI 8 * nI m + nI i).toNatClampNeg / 100 * 100 = nI (lo_s (v_lo S.1 m) i) := by
                rw [yl, n_rem100 (by omega)]
                congr 1
                omega
              have nz : ¬ (100 : Int32) = 0 := by decide
              have fin : ∀ x : Int32, x = nI (if lo_o (v_lo S.1 m) i = k then lo_s (v_lo S.1 m) i else 0) → nI (sumN (fun m => swo (v_lo S.1 m) k) m) + nI (sumN (fun i => if lo_o (v_lo S.1 m) i = k then lo_s (v_lo S.1 m) i else 0) (i + 1)) = nI (sumN (fun m => swo (v_lo S.1 m) k) m) + nI (sumN (fun i => if lo_o (v_lo S.1 m) i = k then lo_s (v_lo S.1 m) i else 0) i) + x := by
                intro x hx
                rw [hx, sumN_s, Int32.add_assoc]
              refine J.run csL_areSacks_248 40 [(322, 12)] ?_
              refine ⟨x9, fun q => absurd (show g (nI 9 + nI m).toNatClampNeg ≤ nI i from q) (by rw [y9, n_le (by omega) (by omega)]; omega), fun _ => ⟨xl, nz, fun q => ?_, fun q => ⟨xl, nz, ?_⟩⟩⟩
              · have q : ¬ l (nI 8 * nI m + nI i).toNatClampNeg / 100 = nI k := q
                rw [yd, n_eq (by omega) (by omega)] at q
                exact J.cast ih3' (cg2 (fun x y : Int32 => sL (nI (swa S.1)) (nI (sumN (v_fl S.1) k)) (nI k) [(9, .int x), (10, .int (nI m)), (11, .int y)]) (fin 0 (by rw [if_neg q]; rfl)) (nI_succ i)) rfl rfl
              · have q : l (nI 8 * nI m + nI i).toNatClampNeg / 100 = nI k := q
                rw [yd, n_eq (by omega) (by omega)] at q
                exact J.cast ih3' (cg2 (fun x y : Int32 => sL (nI (swa S.1)) (nI (sumN (v_fl S.1) k)) (nI k) [(9, .int x), (10, .int (nI m)), (11, .int y)]) (fin (l (nI 8 * nI m + nI i).toNatClampNeg - l (nI 8 * nI m + nI i).toNatClampNeg / 100 * 100) (by rw [if_pos q, yr])) (nI_succ i)) rfl rfl
          have X := LL _ 0 (Nat.zero_add _)
          refine J.run csL_areSacks_248 6 [(322, 12)] ?_
          refine ⟨fun q => absurd ((n_le (a := 3) (by omega) (by omega)).mp q) (by omega), fun _ => ?_⟩
          exact J.cast X (congrArg (fun x : Int32 => sL (nI (swa S.1)) (nI (sumN (v_fl S.1) k)) (nI k) [(9, .int x), (10, .int (nI m)), (11, .int (nI 0))]) (Int32.add_zero _)) rfl rfl
      refine J.run csL_areSacks_248 10 [(313, 11)] ?_
      refine ⟨fun q => absurd ((n_le (a := 5) (by omega) (by omega)).mp q) (by omega), fun _ => ?_⟩
      exact LM 3 0 rfl
  -- mills
  have LM : ∀ (d m : Nat), m + d = 3 → ∀ K, cRel S K → J ML_areSacks (okQ S h v g l o Y) 0 0 9 (sL (nI (sumN (fun j => swt (v_lo S.1 j)) m)) 0 (nI m) []) [] (LW h v g l o (clA K ++ Y)) := by
    intro d
    induction d with
    | zero =>
      intro m hm K hK
      obtain rfl : m = 3 := by omega
      rw [hW3]
      refine J.run csL_areSacks_0 3 [(298, 9)] ?_
      refine ⟨fun _ => ?_, fun q => absurd (by decide) q⟩
      refine J.run csL_areSacks_248 2 [(301, 9)] ?_
      exact LO 5 0 rfl K hK
    | succ d ih =>
      intro m hm K hK
      have hm3 : m < 3 := by omega
      have h8 := v_lo_len hA hm3
      have hs792 := swt_le (v_lo_len hA hm3) (vOk_q hA hm3)
      have hd480 := day_le hA hm3
      obtain ⟨g6, g9, g12⟩ := hg.2.2 m hm3
      have i6 : nI 6 + nI m = nI (6 + m) := nI_add 6 m
      have i9 : nI 9 + nI m = nI (9 + m) := nI_add 9 m
      have i12 : nI 12 + nI m = nI (12 + m) := nI_add 12 m
      have x6 : vp_in (nI 6 + nI m) 15 := by rw [i6]; exact vp_n (by omega) (by decide)
      have x9 : vp_in (nI 9 + nI m) 15 := by rw [i9]; exact vp_n (by omega) (by decide)
      have x12 : vp_in (nI 12 + nI m) 15 := by rw [i12]; exact vp_n (by omega) (by decide)
      have y6 : g (nI 6 + nI m).toNatClampNeg = nI (m_sp (v_ml S.1 m)) := by rw [i6, cl_n (by omega)]; exact g6
      have y9 : g (nI 9 + nI m).toNatClampNeg = nI (v_lo S.1 m).length := by rw [i9, cl_n (by omega)]; exact g9
      have y12 : g (nI 12 + nI m).toNatClampNeg = nI (m_gr (v_ml S.1 m)) := by rw [i12, cl_n (by omega)]; exact g12
      obtain ⟨w1, hw1⟩ : ∃ w1, w1 = nI (sumN (fun j => swt (v_lo S.1 j)) (m + 1)) := ⟨_, rfl⟩
      have ih' := ih (m + 1) (by omega)
      rw [← hw1] at ih'
      have E266 : ∀ x10 K, cRel S K → J ML_areSacks (okQ S h v g l o Y) 0 0 266 (sL w1 0 (nI m) [(9, .int (nI (day S.1 m))), (10, .int x10), (11, .int (doV S.1 m))]) [] (LW h v g l o (clA K ++ Y)) := by
        intro x10 K hK
        refine J.run csL_areSacks_248 5 [] ?_
        refine J.lk [] (c_X3_doneIn0 (y := []) hK hm3 (w := 0) (by decide)) kX3_doneIn mRL_57 dL_areSacks_270 ⟨Nat.le_of_ble_eq_true rfl, Nat.le_of_ble_eq_true rfl, rfl⟩ rfl rfl rfl (Nat.le_of_ble_eq_true rfl) rfl (fun K hK => ?_)
        refine J.run csL_areSacks_248 8 [] ?_
        refine ⟨fun q => absurd rfl q, fun _ => ?_⟩
        refine J.lk [] (c_X3_doneIn0 (y := []) hK hm3 (w := 1) (by decide)) kX3_doneIn mRL_57 dL_areSacks_282 ⟨Nat.le_of_ble_eq_true rfl, Nat.le_of_ble_eq_true rfl, rfl⟩ rfl rfl rfl (Nat.le_of_ble_eq_true rfl) rfl (fun K hK => ?_)
        refine J.run csL_areSacks_248 8 [(9, 9)] ?_
        refine ⟨fun _ => ?_, fun q => absurd rfl q⟩
        exact J.cast (ih' K hK) (congrArg (fun x : Int32 => sL w1 0 x []) (nI_succ m)) rfl rfl
      have E178 : ∀ K, cRel S K → J ML_areSacks (okQ S h v g l o Y) 0 0 178 (sL w1 0 (nI m) [(9, .int (nI (day S.1 m))), (10, .int (nI (swt (v_lo S.1 m))))]) [] (LW h v g l o (clA K ++ Y)) := by
        intro K hK
        by_cases h0 : swt (v_lo S.1 m) = 0
        · have X := E266 (nI (swt (v_lo S.1 m))) K hK
          rw [show doV S.1 m = 0 from if_pos h0] at X
          refine J.run csL_areSacks_171 40 [(266, 12), (231, 13)] ?_
          refine ⟨fun q => absurd (show nI (swt (v_lo S.1 m)) = 0 by rw [h0]; rfl) q, fun _ => ⟨fun _ => X, fun q => absurd (show nI (swt (v_lo S.1 m)) ≤ 0 by rw [h0]; decide) q⟩⟩
        · by_cases hd : day S.1 m = 0
          · have X := E266 (nI (swt (v_lo S.1 m))) K hK
            rw [show doV S.1 m = -1 from (if_neg h0).trans (if_pos hd)] at X
            refine J.run csL_areSacks_171 40 [(266, 12), (231, 13)] ?_
            refine ⟨fun _ => ⟨fun _ => X, fun _ => ⟨fun _ => X, fun q => absurd (show nI (day S.1 m) ≤ 0 by rw [hd]; decide) q⟩⟩, fun q => absurd ((n_eq0 (a := swt (v_lo S.1 m)) (by omega)).mp q) h0⟩
          · obtain ⟨H, f1, f2, f3, f4⟩ := done_days hA hm3 h0 hd
            have hdm := Nat.div_mul_le_self (swt (v_lo S.1 m) - 1) (day S.1 m)
            have r792 : swt (v_lo S.1 m) - (swt (v_lo S.1 m) - 1) / day S.1 m * day S.1 m ≤ 792 := by omega
            have eq1 : (nI (swt (v_lo S.1 m)) - nI 1) / nI (day S.1 m) = nI ((swt (v_lo S.1 m) - 1) / day S.1 m) := by rw [pk_sub (by omega), pk_div (by omega) (by omega) (by omega)]
            have eq2 : nI (swt (v_lo S.1 m)) - (nI (swt (v_lo S.1 m)) - nI 1) / nI (day S.1 m) * nI (day S.1 m) = nI (swt (v_lo S.1 m) - (swt (v_lo S.1 m) - 1) / day S.1 m * day S.1 m) := by rw [eq1, n_mul, pk_sub (by omega)]
            generalize swt (v_lo S.1 m) - (swt (v_lo S.1 m) - 1) / day S.1 m * day S.1 m = r at f2 r792 eq2
            generalize (swt (v_lo S.1 m) - 1) / day S.1 m = qq at f3 f4 eq1
            have L231 : ∀ (d j : Nat), j + d = H → J ML_areSacks (okQ S h v g l o Y) 0 0 231 (sL w1 0 (nI m) [(9, .int (nI (day S.1 m))), (10, .int (nI r - nI (cum S.1 m j))), (11, .int (nI (24 * qq + j))), (12, .int (nI ((v_ho S.1 + j) % 24)))]) [] (LW h v g l o (clA K ++ Y)) := by
              intro d
              induction d with
              | zero =>
                intro j hj
                obtain rfl : j = H := by omega
                have hc := cum_le hA hm3 j
                have X := E266 (nI r - nI (cum S.1 m j)) K hK
                rw [f3] at X
                have z : nI r - nI (cum S.1 m j) ≤ 0 := by
                  rw [n_le0', n_subgt (by omega) (by omega)]
                  have := f2.1
                  omega
                refine J.run csL_areSacks_171 2 [(266, 12)] ?_
                exact ⟨fun _ => X, fun q => absurd z q⟩
              | succ d ih5 =>
                intro j hj
                have ih5' := ih5 (j + 1) (by omega)
                have hc := cum_le hA hm3 j
                have hh24 : (v_ho S.1 + j) % 24 < 24 := Nat.mod_lt _ (by decide)
                have z : ¬ nI r - nI (cum S.1 m j) ≤ 0 := by
                  rw [n_le0', Decidable.not_not, n_subgt (by omega) (by omega)]
                  exact f2.2 j (by omega)
                refine J.run csL_areSacks_171 12 [] ?_
                refine ⟨fun q => absurd q z, fun _ => ?_⟩
                refine J.pureS [.int (nI r - nI (cum S.1 m j))] [0, 1, 2] (c_L_much hA hh hv hg hm3 hh24) kL_much mRL_73 dL_areSacks_245 ⟨Nat.le_of_ble_eq_true rfl, Nat.le_of_ble_eq_true rfl, rfl⟩ rfl rfl (Nat.le_of_ble_eq_true rfl) rfl rfl ?_
                refine J.run csL_areSacks_248 12 [(231, 13)] ?_
                refine ⟨(by decide : ¬ (24 : Int32) = 0), ?_⟩
                have z1 : nI r - nI (cum S.1 m (j + 1)) = nI r - nI (cum S.1 m j) - nI (rat S.1 m ((v_ho S.1 + j) % 24)) := by
                  rw [cum_s, ← nI_add, Int32.sub_sub]
                have z2 : nI (24 * qq + (j + 1)) = nI (24 * qq + j) + nI 1 := by rw [nI_add, Nat.add_assoc]
                have z3 : nI ((v_ho S.1 + (j + 1)) % 24) = nI ((v_ho S.1 + j) % 24) + nI 1 - (nI ((v_ho S.1 + j) % 24) + nI 1) / 24 * 24 := by
                  rw [nI_add, n_rem24 (by omega), ← Nat.add_assoc, Nat.add_mod (v_ho S.1 + j) 1 24]
                exact J.cast ih5' (cg3 (fun x y z : Int32 => sL w1 0 (nI m) [(9, .int (nI (day S.1 m))), (10, .int x), (11, .int y), (12, .int z)]) z1 z2 z3) rfl rfl
            have X := L231 H 0 (Nat.zero_add _)
            have z4 : nI r - nI (cum S.1 m 0) = nI (swt (v_lo S.1 m)) - (nI (swt (v_lo S.1 m)) - nI 1) / nI (day S.1 m) * nI (day S.1 m) := by
              rw [eq2]
              show nI r - nI 0 = nI r
              rw [pk_sub (Nat.zero_le _), Nat.sub_zero]
            have z5 : nI (24 * qq + 0) = (nI (swt (v_lo S.1 m)) - nI 1) / nI (day S.1 m) * nI 24 := by rw [eq1, n_mul, Nat.add_zero, Nat.mul_comm]
            have z6 : nI ((v_ho S.1 + 0) % 24) = g 0 := by rw [Nat.add_zero, Nat.mod_eq_of_lt hho]; exact hg.1.1.symm
            have dz : ¬ nI (day S.1 m) = 0 := fun q => hd ((n_eq0 (by omega)).mp q)
            refine J.run csL_areSacks_171 60 [(266, 12), (231, 13)] ?_
            refine ⟨fun _ => ⟨fun q => absurd ((n_le0 (by omega)).mp q) h0, fun _ => ⟨fun q => absurd ((n_le0 (by omega)).mp q) hd, fun _ => ⟨dz, dz, vp_c (by decide), ?_⟩⟩⟩, fun q => absurd ((n_eq0 (a := swt (v_lo S.1 m)) (by omega)).mp q) h0⟩
            exact J.cast X (cg3 (fun x y z : Int32 => sL w1 0 (nI m) [(9, .int (nI (day S.1 m))), (10, .int x), (11, .int y), (12, .int z)]) z4 z5 z6) rfl rfl
      have E49 : ∀ K, cRel S K → J ML_areSacks (okQ S h v g l o Y) 0 0 49 (sL (nI (sumN (fun j => swt (v_lo S.1 j)) m)) 0 (nI m) [(9, .int (nI (day S.1 m)))]) [] (LW h v g l o (clA K ++ Y)) := by
        intro K hK
        refine J.run csL_areSacks_0 5 [] ?_
        refine J.pureS [] [2, 3] (c_L_waits hA hg hl hm3) kL_waits mRL_94 dL_areSacks_54 ⟨Nat.le_of_ble_eq_true rfl, Nat.le_of_ble_eq_true rfl, rfl⟩ rfl rfl (Nat.le_of_ble_eq_true rfl) rfl rfl ?_
        refine J.run csL_areSacks_0 20 [] ?_
        refine J.lk [] (c_X3_millOf0 (y := []) hK hm3 (w := 0) (by decide)) kX3_millOf mRL_51 dL_areSacks_70 ⟨Nat.le_of_ble_eq_true rfl, Nat.le_of_ble_eq_true rfl, rfl⟩ rfl rfl rfl (Nat.le_of_ble_eq_true rfl) rfl (fun K hK => ?_)
        refine J.run csL_areSacks_0 12 [] ?_
        refine ⟨x6, fun q => absurd (show nI (m_sp (v_ml S.1 m)) = g (nI 6 + nI m).toNatClampNeg from y6.symm) q, fun _ => ?_⟩
        refine J.lk [] (c_X3_millOf0 (y := []) hK hm3 (w := 1) (by decide)) kX3_millOf mRL_51 dL_areSacks_87 ⟨Nat.le_of_ble_eq_true rfl, Nat.le_of_ble_eq_true rfl, rfl⟩ rfl rfl rfl (Nat.le_of_ble_eq_true rfl) rfl (fun K hK => ?_)
        refine J.run csL_areSacks_90 12 [] ?_
        refine ⟨x9, fun q => absurd (show nI (v_lo S.1 m).length = g (nI 9 + nI m).toNatClampNeg from y9.symm) q, fun _ => ?_⟩
        refine J.lk [] (c_X3_millOf0 (y := []) hK hm3 (w := 2) (by decide)) kX3_millOf mRL_51 dL_areSacks_104 ⟨Nat.le_of_ble_eq_true rfl, Nat.le_of_ble_eq_true rfl, rfl⟩ rfl rfl rfl (Nat.le_of_ble_eq_true rfl) rfl (fun K hK => ?_)
        refine J.run csL_areSacks_90 12 [] ?_
        refine ⟨fun q => absurd rfl q, fun _ => ?_⟩
        refine J.lk [] (c_X3_millOf0 (y := []) hK hm3 (w := 3) (by decide)) kX3_millOf mRL_51 dL_areSacks_116 ⟨Nat.le_of_ble_eq_true rfl, Nat.le_of_ble_eq_true rfl, rfl⟩ rfl rfl rfl (Nat.le_of_ble_eq_true rfl) rfl (fun K hK => ?_)
        refine J.run csL_areSacks_90 12 [] ?_
        refine ⟨x12, fun q => absurd (show nI (m_gr (v_ml S.1 m)) = g (nI 12 + nI m).toNatClampNeg from y12.symm) q, fun _ => ?_⟩
        refine J.lk [] (c_X3_millOf0 (y := []) hK hm3 (w := 4) (by decide)) kX3_millOf mRL_51 dL_areSacks_133 ⟨Nat.le_of_ble_eq_true rfl, Nat.le_of_ble_eq_true rfl, rfl⟩ rfl rfl rfl (Nat.le_of_ble_eq_true rfl) rfl (fun K hK => ?_)
        -- behind the fifth look
        have E164 : ∀ K, cRel S K → J ML_areSacks (okQ S h v g l o Y) 0 0 164 (sL (nI (sumN (fun j => swt (v_lo S.1 j)) m) + nI (swt (v_lo S.1 m))) 0 (nI m) [(9, .int (nI (day S.1 m))), (10, .int (nI (swt (v_lo S.1 m))))]) [] (LW h v g l o (clA K ++ Y)) := by
          intro K hK
          refine J.run csL_areSacks_90 5 [] ?_
          refine J.lk [] (c_X3_millOf0 (y := []) hK hm3 (w := 5) (by decide)) kX3_millOf mRL_51 dL_areSacks_168 ⟨Nat.le_of_ble_eq_true rfl, Nat.le_of_ble_eq_true rfl, rfl⟩ rfl rfl rfl (Nat.le_of_ble_eq_true rfl) rfl (fun K hK => ?_)
          refine J.run csL_areSacks_171 2 [(178, 11)] ?_
          refine ⟨fun _ => ?_, fun q => absurd rfl q⟩
          exact J.cast (E178 K hK) (congrArg (fun x : Int32 => sL x 0 (nI m) [(9, .int (nI (day S.1 m))), (10, .int (nI (swt (v_lo S.1 m))))]) (hw1.trans (sumN_s _ m))) rfl rfl
        have i8 : nI 8 * nI m = nI (8 * m) := n_mul 8 m
        have x8 : vp_in (nI 8 * nI m) 24 := by rw [i8]; exact vp_n (by omega) (by decide)
        refine J.run csL_areSacks_90 20 [(164, 11)] ?_
        by_cases hl0 : (v_lo S.1 m).length = 0
        · refine ⟨x9, fun q => absurd (show g (nI 9 + nI m).toNatClampNeg = 0 by rw [y9, hl0]; rfl) q, fun _ => ⟨fun q => absurd (show miV S.1 m 4 = -1 from if_pos hl0) q, fun _ => E164 K hK⟩⟩
        · have hb := lot_bd hA hm3 (k := 0) (by omega)
          have ed : l (nI 8 * nI m).toNatClampNeg / 100 = nI (lo_o (v_lo S.1 m) 0) := by
            rw [i8, cl_n (by omega), show l (8 * m) = nI (100 * lo_o (v_lo S.1 m) 0 + lo_s (v_lo S.1 m) 0) from hl m hm3 0 (by omega), n_div100 (by omega)]
            congr 1
            omega
          refine ⟨x9, fun _ => ⟨x8, (by decide : ¬ (100 : Int32) = 0), fun q => absurd (show miV S.1 m 4 = l (nI 8 * nI m).toNatClampNeg / 100 from (if_neg hl0).trans ed.symm) q, fun _ => E164 K hK⟩, fun q => absurd ((n_eq0 (a := (v_lo S.1 m).length) (by omega)).mp (y9.symm.trans q)) hl0⟩
      have LD : ∀ (d k : Nat), k + d = 24 → J ML_areSacks (okQ S h v g l o Y) 0 0 21 (sL (nI (sumN (fun j => swt (v_lo S.1 j)) m)) 0 (nI m) [(9, .int (nI (sumN (rat S.1 m) k))), (10, .int (nI k))]) [] (LW h v g l o (clA K ++ Y)) := by
        intro d
        induction d with
        | zero =>
          intro k hk
          obtain rfl : k = 24 := by omega
          refine J.run csL_areSacks_0 3 [(49, 10)] ?_
          exact ⟨fun _ => E49 K hK, fun q => absurd (by decide) q⟩
        | succ d ih4 =>
          intro k hk
          refine J.run csL_areSacks_0 12 [] ?_
          refine ⟨fun q => absurd ((n_le (a := 24) (by omega) (by omega)).mp q) (by omega), fun _ => ?_⟩
          refine J.pureS [.int (nI (sumN (rat S.1 m) k))] [0, 1, 2] (c_L_much hA hh hv hg hm3 (show k < 24 by omega)) kL_much mRL_73 dL_areSacks_37 ⟨Nat.le_of_ble_eq_true rfl, Nat.le_of_ble_eq_true rfl, rfl⟩ rfl rfl (Nat.le_of_ble_eq_true rfl) rfl rfl ?_
          refine J.run csL_areSacks_0 6 [(21, 11)] ?_
          exact J.cast (ih4 (k + 1) (by omega)) (cg2 (fun x y : Int32 => sL (nI (sumN (fun j => swt (v_lo S.1 j)) m)) 0 (nI m) [(9, .int x), (10, .int y)]) (sumN_s _ k) (nI_succ k)) rfl rfl
      refine J.run csL_areSacks_0 10 [(21, 11)] ?_
      refine ⟨fun q => absurd ((n_le (a := 3) (by omega) (by omega)).mp q) (by omega), fun _ => ?_⟩
      exact LD 24 0 rfl
  refine J.run csL_areSacks_0 6 [(9, 9)] ?_
  exact LM 3 0 rfl K hK
