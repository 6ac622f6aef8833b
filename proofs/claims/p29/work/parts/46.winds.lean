/-! areWinds. -/
abbrev wL (t n : Int32) (l : j_L) : j_L := (0, .ref 5) :: (1, .ref 0) :: (2, .ref 1) :: (3, .ref 2) :: (4, .int t) :: (5, .int n) :: l
/-- the vane that matters the most of the first i, and how much it does -/
def mmI (A : aV) (i : Nat) : Int32 × Int32 := match i with
  | 0 => (0, -1)
  | i + 1 => (nI (mvF A i), nI (htb A (mvF A i)))
theorem mm_s (A : aV) (i : Nat) : (¬ nI (htb A i) ≤ (mmI A i).2 → mmI A (i + 1) = (nI i, nI (htb A i))) ∧ (nI (htb A i) ≤ (mmI A i).2 → mmI A (i + 1) = mmI A i) := by
  cases i with
  | zero =>
    have h24 := htb_le A 0
    have z : ¬ nI (htb A 0) ≤ -1 := (by decide +kernel : ∀ n, n < 25 → ¬ nI n ≤ -1) _ (by omega)
    exact ⟨fun _ => rfl, fun q => absurd q z⟩
  | succ i =>
    have h1 := htb_le A (mvF A i)
    have h2 := htb_le A (i + 1)
    have e : mvF A (i + 1) = if htb A (mvF A i) < htb A (i + 1) then i + 1 else mvF A i := rfl
    refine ⟨fun q => ?_, fun q => ?_⟩
    · have q : ¬ nI (htb A (i + 1)) ≤ nI (htb A (mvF A i)) := q
      rw [n_le (by omega) (by omega)] at q
      rw [if_pos (by omega)] at e
      show (nI (mvF A (i + 1)), nI (htb A (mvF A (i + 1)))) = _
      rw [e]
    · have q : nI (htb A (i + 1)) ≤ nI (htb A (mvF A i)) := q
      rw [n_le (by omega) (by omega)] at q
      rw [if_neg (by omega)] at e
      show (nI (mvF A (i + 1)), nI (htb A (mvF A (i + 1)))) = _
      rw [e]
      rfl
theorem ag_b {b : Bool} {x : Int32} : x = (if b = true then (1 : Int32) else 0) → (x = 0 ↔ b = false) := by
  intro h
  rw [h]
  exact ag_if
theorem bo_ne {a b : Bool} : ((if a = true then (1 : Int32) else 0) = (if b = true then 1 else 0)) ↔ (a != b) = false := by cases a <;> cases b <;> decide
theorem c_L_areWinds {S : aS} {K : cK} {h v g l o : Nat → Int32} {Y : j_H} (hK : cRel S K) (hR0 : R5 S.1 h v g l o) : Ct ML_areWinds 0 0 [.ref 5, .ref 0, .ref 1, .ref 2] (LW h v g l o (clA K ++ Y)) (okQ S h v g l o Y) := by
  have hA := hK.1.2.1
  have hho := hA.1
  obtain ⟨hh, hv, hg, -, -⟩ := hR0
  refine Ct.of rfl rfl (by decide +kernel) rfl (Nat.le_of_ble_eq_true rfl) ?_
  have hag := agh_le S.1
  -- the end
  have E475 : ∀ x7 K, cRel S K → J ML_areWinds (okQ S h v g l o Y) 0 0 475 (wL (nI (agh S.1)) (trF S.1 24 0) [(6, .int (nI (mvF S.1 5))), (7, .int x7), (8, .int (nI (com S.1)))]) [] (LW h v g l o (clA K ++ Y)) := by
    intro x7 K hK
    refine J.run csL_areWinds_391 5 [] ?_
    refine J.lk [] (c_X3_count0 (y := []) hK (w := 3) (by decide)) kX3_count mRL_76 dL_areWinds_477 ⟨Nat.le_of_ble_eq_true rfl, Nat.le_of_ble_eq_true rfl, rfl⟩ rfl rfl rfl (Nat.le_of_ble_eq_true rfl) rfl (fun K hK => ?_)
    refine J.run csL_areWinds_480 6 [] ?_
    refine ⟨fun q => absurd rfl q, fun _ => ?_⟩
    refine J.lk [] (c_X3_count0 (y := []) hK (w := 4) (by decide)) kX3_count mRL_76 dL_areWinds_487 ⟨Nat.le_of_ble_eq_true rfl, Nat.le_of_ble_eq_true rfl, rfl⟩ rfl rfl rfl (Nat.le_of_ble_eq_true rfl) rfl (fun K hK => ?_)
    refine J.run csL_areWinds_480 6 [] ?_
    refine ⟨fun q => absurd rfl q, fun _ => ?_⟩
    refine J.lk [] (as := []) (c_X3_turnsIn0 (y := []) hK) kX3_turnsIn mRL_79 dL_areWinds_496 ⟨Nat.le_of_ble_eq_true rfl, Nat.le_of_ble_eq_true rfl, rfl⟩ rfl rfl rfl (Nat.le_of_ble_eq_true rfl) rfl (fun K hK => ?_)
    refine J.run csL_areWinds_480 6 [] ?_
    refine ⟨fun q => absurd rfl q, fun _ => ?_⟩
    refine J.lk [] (as := []) (c_X3_mainVane0 (y := []) hK) kX3_mainVane mRL_82 dL_areWinds_505 ⟨Nat.le_of_ble_eq_true rfl, Nat.le_of_ble_eq_true rfl, rfl⟩ rfl rfl rfl (Nat.le_of_ble_eq_true rfl) rfl (fun K hK => ?_)
    refine J.run csL_areWinds_480 6 [] ?_
    refine ⟨fun q => absurd rfl q, fun _ => ?_⟩
    refine J.clV 0 0 [] (as := []) (c_X3_turnShare0 (y := []) hK) kX3_turnShare mRL_85 dL_areWinds_514 ⟨Nat.le_of_ble_eq_true rfl, Nat.le_of_ble_eq_true rfl, rfl⟩ rfl rfl rfl (Nat.le_of_ble_eq_true rfl) rfl (Nat.le_refl _) (Nat.le_refl _) (fun u w hq => by
      obtain ⟨-, K', -, e⟩ := hq
      exact ⟨K', e⟩) ?_ (fun E K' hq => by
      obtain ⟨hv, -⟩ := hq
      cases hv)
    rintro v9 K' ⟨hv9, K2, hK2, e⟩
    cases hv9
    rw [show clA K' = clA K2 from congrArg (fun x => List.map (j_rc (j_f (List.range' 5 223))) x) e]
    refine J.run csL_areWinds_480 12 [] ?_
    refine ⟨vfb_i (shD_vf _ (show agh S.1 < 25 by omega)), fun q => absurd (shD_nan (agh S.1) (by omega)) q, fun _ => ?_⟩
    refine J.lk [] (c_X3_setting0 (y := []) hK2 (i := 0) (by decide)) kX3_setting mRL_91 dL_areWinds_530 ⟨Nat.le_of_ble_eq_true rfl, Nat.le_of_ble_eq_true rfl, rfl⟩ rfl rfl rfl (Nat.le_of_ble_eq_true rfl) rfl (fun K hK => ?_)
    refine J.run csL_areWinds_480 8 [] ?_
    refine ⟨vp_c (by decide), fun q => absurd (show nI (v_se S.1 0) = g 4 from (hg.2.1 0 (by decide)).symm) q, fun _ => ?_⟩
    refine J.lk [] (c_X3_setting0 (y := []) hK (i := 1) (by decide)) kX3_setting mRL_91 dL_areWinds_541 ⟨Nat.le_of_ble_eq_true rfl, Nat.le_of_ble_eq_true rfl, rfl⟩ rfl rfl rfl (Nat.le_of_ble_eq_true rfl) rfl (fun K hK => ?_)
    refine J.run csL_areWinds_480 12 [] ?_
    exact ⟨vp_c (by decide), fun q => absurd (show nI (v_se S.1 1) = g 5 from (hg.2.1 1 (by decide)).symm) q, fun _ => ⟨Or.inr rfl, rfl, K, hK, rfl⟩⟩
  -- vanes
  have LV : ∀ (d i : Nat), i + d = 6 → ∀ K, cRel S K → J ML_areWinds (okQ S h v g l o Y) 0 0 260 (wL (nI (agh S.1)) (trF S.1 24 0) [(6, .int (mmI S.1 i).1), (7, .int (mmI S.1 i).2), (8, .int (nI (cntN (free S.1) i))), (9, .int (nI i))]) [] (LW h v g l o (clA K ++ Y)) := by
    intro d
    induction d with
    | zero =>
      intro i hi K hK
      obtain rfl : i = 6 := by omega
      refine J.run csL_areWinds_168 3 [(475, 9)] ?_
      exact ⟨fun _ => E475 _ K hK, fun q => absurd (by decide) q⟩
    | succ d ih =>
      intro i hi K hK
      have hi6 : i < 6 := by omega
      have ih' := ih (i + 1) (by omega)
      obtain ⟨m1, m2⟩ := mm_s S.1 i
      obtain ⟨c1, hc1⟩ : ∃ c1, c1 = nI (cntN (free S.1) (i + 1)) := ⟨_, rfl⟩
      obtain ⟨mo, hmo⟩ : ∃ mo, mo = mmI S.1 i := ⟨_, rfl⟩
      rw [← hmo] at m1 m2
      rw [← hc1] at ih'
      -- the vane's numbers are looked at
      have E437 : ∀ K, cRel S K → J ML_areWinds (okQ S h v g l o Y) 0 0 437 (wL (nI (agh S.1)) (trF S.1 24 0) [(6, .int mo.1), (7, .int mo.2), (8, .int c1), (9, .int (nI i)), (10, .int (nI (hov S.1 i))), (11, .int (nI (htb S.1 i)))]) [] (LW h v g l o (clA K ++ Y)) := by
        intro K hK
        have X := ih' K hK
        by_cases q9 : nI (htb S.1 i) ≤ mo.2
        · rw [m2 q9] at X
          refine J.run csL_areWinds_391 20 [(260, 10)] ?_
          refine ⟨fun _ => ⟨fun _ => ?_, fun q => absurd q9 q⟩, fun q => absurd q9 q⟩
          exact J.cast X (congrArg (fun x : Int32 => wL (nI (agh S.1)) (trF S.1 24 0) [(6, .int mo.1), (7, .int mo.2), (8, .int c1), (9, .int x)]) (nI_succ i)) rfl rfl
        · rw [m1 q9] at X
          refine J.run csL_areWinds_391 20 [(260, 10)] ?_
          refine ⟨fun q => absurd q q9, fun _ => ⟨fun q => absurd q q9, fun _ => ?_⟩⟩
          exact J.cast X (congrArg (fun x : Int32 => wL (nI (agh S.1)) (trF S.1 24 0) [(6, .int (nI i)), (7, .int (nI (htb S.1 i))), (8, .int c1), (9, .int x)]) (nI_succ i)) rfl rfl
      have E411 : ∀ K, cRel S K → J ML_areWinds (okQ S h v g l o Y) 0 0 411 (wL (nI (agh S.1)) (trF S.1 24 0) [(6, .int mo.1), (7, .int mo.2), (8, .int c1), (9, .int (nI i)), (10, .int (nI (hov S.1 i))), (11, .int (nI (htb S.1 i)))]) [] (LW h v g l o (clA K ++ Y)) := by
        intro K hK
        refine J.run csL_areWinds_391 5 [] ?_
        refine J.lk [] (c_X3_vaneOf0 (y := []) hK hi6 (w := 4) (by decide)) kX3_vaneOf mRL_48 dL_areWinds_415 ⟨Nat.le_of_ble_eq_true rfl, Nat.le_of_ble_eq_true rfl, rfl⟩ rfl rfl rfl (Nat.le_of_ble_eq_true rfl) rfl (fun K hK => ?_)
        refine J.run csL_areWinds_391 8 [] ?_
        refine ⟨fun q => absurd rfl q, fun _ => ?_⟩
        refine J.lk [] (c_X3_vaneOf0 (y := []) hK hi6 (w := 5) (by decide)) kX3_vaneOf mRL_48 dL_areWinds_427 ⟨Nat.le_of_ble_eq_true rfl, Nat.le_of_ble_eq_true rfl, rfl⟩ rfl rfl rfl (Nat.le_of_ble_eq_true rfl) rfl (fun K hK => ?_)
        refine J.run csL_areWinds_391 2 [(437, 12)] ?_
        exact ⟨fun _ => E437 K hK, fun q => absurd rfl q⟩
      have LK : ∀ (d w : Nat), w + d = 4 → ∀ K, cRel S K → J ML_areWinds (okQ S h v g l o Y) 0 0 377 (wL (nI (agh S.1)) (trF S.1 24 0) [(6, .int mo.1), (7, .int mo.2), (8, .int c1), (9, .int (nI i)), (10, .int (nI (hov S.1 i))), (11, .int (nI (htb S.1 i))), (12, .int (nI w))]) [] (LW h v g l o (clA K ++ Y)) := by
        intro d
        induction d with
        | zero =>
          intro w hw K hK
          obtain rfl : w = 4 := by omega
          refine J.run csL_areWinds_309 3 [(411, 12)] ?_
          exact ⟨fun _ => E411 K hK, fun q => absurd (by decide) q⟩
        | succ d ih2 =>
          intro w hw K hK
          have hw4 : w < 4 := by omega
          have iv : nI 4 * nI i + nI w = nI (4 * i + w) := n_add2 (ix_v i)
          have xv : vp_in (nI 4 * nI i + nI w) 24 := by rw [iv]; exact vp_n (by omega) (by decide)
          have yv : v (nI 4 * nI i + nI w).toNatClampNeg = nI (v_vn S.1 i w) := by rw [iv, cl_n (by omega)]; exact hv i hi6 w hw4
          refine J.run csL_areWinds_309 6 [] ?_
          refine ⟨fun q => absurd ((n_le (a := 4) (by omega) (by omega)).mp q) (by omega), fun _ => ?_⟩
          refine J.lk [] (c_X3_vaneOf0 (y := []) hK hi6 (w := w) (by omega)) kX3_vaneOf mRL_48 dL_areWinds_388 ⟨Nat.le_of_ble_eq_true rfl, Nat.le_of_ble_eq_true rfl, rfl⟩ rfl rfl rfl (Nat.le_of_ble_eq_true rfl) rfl (fun K hK => ?_)
          refine J.run csL_areWinds_391 14 [(377, 13)] ?_
          refine ⟨xv, fun _ => ?_, fun q => absurd (show vaV S.1 i w = v (nI 4 * nI i + nI w).toNatClampNeg from (if_pos hw4).trans yv.symm) q⟩
          exact J.cast (ih2 (w + 1) (by omega) K hK) (congrArg (fun x : Int32 => wL (nI (agh S.1)) (trF S.1 24 0) [(6, .int mo.1), (7, .int mo.2), (8, .int c1), (9, .int (nI i)), (10, .int (nI (hov S.1 i))), (11, .int (nI (htb S.1 i))), (12, .int x)]) (nI_succ w)) rfl rfl
      -- the hours of the vane
      have LH : ∀ (d k : Nat), k + d = 24 → J ML_areWinds (okQ S h v g l o Y) 0 0 291 (wL (nI (agh S.1)) (trF S.1 24 0) [(6, .int mo.1), (7, .int mo.2), (8, .int c1), (9, .int (nI i)), (10, .int (nI (cntN (agr S.1 i) k))), (11, .int (nI (cntN (fun h => trn S.1 h != trn (flip S.1 i) h) k))), (12, .int (nI k))]) [] (LW h v g l o (clA K ++ Y)) := by
        intro d
        induction d with
        | zero =>
          intro k hk
          obtain rfl : k = 24 := by omega
          refine J.run csL_areWinds_168 3 [(374, 12)] ?_
          refine ⟨fun _ => ?_, fun q => absurd (by decide) q⟩
          refine J.run csL_areWinds_309 2 [(377, 13)] ?_
          exact LK 4 0 rfl K hK
        | succ d ih4 =>
          intro k hk
          have hk24 : k < 24 := by omega
          have ih4' := ih4 (k + 1) (by omega)
          have e10 : nI (cntN (agr S.1 i) (k + 1)) = nI (cntN (agr S.1 i) k) + (if agr S.1 i k = true then 1 else 0) := by
            cases hb : agr S.1 i k with
            | false =>
              rw [cntN_n hb]
              exact (Int32.add_zero _).symm
            | true => exact cntN_s hb
          have e11 : nI (cntN (fun h => trn S.1 h != trn (flip S.1 i) h) (k + 1)) = nI (cntN (fun h => trn S.1 h != trn (flip S.1 i) h) k) + (if (trn S.1 k != trn (flip S.1 i) k) = true then 1 else 0) := by
            cases hb : (trn S.1 k != trn (flip S.1 i) k) with
            | false =>
              rw [cntN_n (p := fun h => trn S.1 h != trn (flip S.1 i) h) hb]
              exact (Int32.add_zero _).symm
            | true => exact cntN_s (p := fun h => trn S.1 h != trn (flip S.1 i) h) hb
          have fin : ∀ b : Bool, (trn S.1 k != trn (flip S.1 i) k) = b → J ML_areWinds (okQ S h v g l o Y) 0 0 365 (wL (nI (agh S.1)) (trF S.1 24 0) [(6, .int mo.1), (7, .int mo.2), (8, .int c1), (9, .int (nI i)), (10, .int (nI (cntN (agr S.1 i) (k + 1)))), (11, .int (nI (cntN (fun h => trn S.1 h != trn (flip S.1 i) h) k))), (12, .int (nI k))]) [.int (if b = true then 1 else 0), .int (nI (cntN (fun h => trn S.1 h != trn (flip S.1 i) h) k))] (LW h v g l o (clA K ++ Y)) := by
            intro b hb
            rw [hb] at e11
            refine J.run csL_areWinds_309 6 [(291, 13)] ?_
            exact J.cast ih4' (cg2 (fun x y : Int32 => wL (nI (agh S.1)) (trF S.1 24 0) [(6, .int mo.1), (7, .int mo.2), (8, .int c1), (9, .int (nI i)), (10, .int (nI (cntN (agr S.1 i) (k + 1)))), (11, .int x), (12, .int y)]) e11 (nI_succ k)) rfl rfl
          have vle := vdi_le S.1 k
          have vle2 := vdi_le (flip S.1 i) k
          have E339 : ∀ b : Bool, trn S.1 k = b → J ML_areWinds (okQ S h v g l o Y) 0 0 339 (wL (nI (agh S.1)) (trF S.1 24 0) [(6, .int mo.1), (7, .int mo.2), (8, .int c1), (9, .int (nI i)), (10, .int (nI (cntN (agr S.1 i) (k + 1)))), (11, .int (nI (cntN (fun h => trn S.1 h != trn (flip S.1 i) h) k))), (12, .int (nI k))]) [.int (if b = true then 1 else 0), .int (nI (cntN (fun h => trn S.1 h != trn (flip S.1 i) h) k))] (LW h v g l o (clA K ++ Y)) := by
            intro b hb
            refine J.run csL_areWinds_309 5 [] ?_
            refine J.pureS [.int (if b = true then 1 else 0), .int (nI (cntN (fun h => trn S.1 h != trn (flip S.1 i) h) k))] [0, 1, 2] (c_L_why (t := some i) hA hh hv hg (fun j h => by cases h; exact hi6) hk24) kL_why mRL_69 dL_areWinds_346 ⟨Nat.le_of_ble_eq_true rfl, Nat.le_of_ble_eq_true rfl, rfl⟩ rfl rfl (Nat.le_of_ble_eq_true rfl) rfl rfl ?_
            refine J.run csL_areWinds_309 8 [(365, 13)] ?_
            refine ⟨fun q => ⟨fun q2 => ?_, fun q2 => ?_⟩, fun q => ⟨fun q2 => ?_, fun q2 => ?_⟩⟩
            · have q : ¬ nI (vdi (flip S.1 i) k) = 0 := q
              rw [n_eq0 (by omega)] at q
              have e : trn (flip S.1 i) k = false := decide_eq_false q
              have q2 : (if b = true then (1 : Int32) else 0) = (if false = true then 1 else 0) := q2
              exact fin false (by rw [hb, e]; exact bo_ne.mp q2)
            · have q : ¬ nI (vdi (flip S.1 i) k) = 0 := q
              rw [n_eq0 (by omega)] at q
              have e : trn (flip S.1 i) k = false := decide_eq_false q
              have q2 : ¬ (if b = true then (1 : Int32) else 0) = (if false = true then 1 else 0) := q2
              exact fin true (by
                rw [hb, e]
                cases hx : (b != false) with
                | false => exact absurd (bo_ne.mpr hx) q2
                | true => rfl)
            · have q : nI (vdi (flip S.1 i) k) = 0 := q
              rw [n_eq0 (by omega)] at q
              have e : trn (flip S.1 i) k = true := decide_eq_true q
              have q2 : (if b = true then (1 : Int32) else 0) = (if true = true then 1 else 0) := q2
              exact fin false (by rw [hb, e]; exact bo_ne.mp q2)
            · have q : nI (vdi (flip S.1 i) k) = 0 := q
              rw [n_eq0 (by omega)] at q
              have e : trn (flip S.1 i) k = true := decide_eq_true q
              have q2 : ¬ (if b = true then (1 : Int32) else 0) = (if true = true then 1 else 0) := q2
              exact fin true (by
                rw [hb, e]
                cases hx : (b != true) with
                | false => exact absurd (bo_ne.mpr hx) q2
                | true => rfl)
          have E317 : J ML_areWinds (okQ S h v g l o Y) 0 0 320 (wL (nI (agh S.1)) (trF S.1 24 0) [(6, .int mo.1), (7, .int mo.2), (8, .int c1), (9, .int (nI i)), (10, .int (nI (cntN (agr S.1 i) (k + 1)))), (11, .int (nI (cntN (fun h => trn S.1 h != trn (flip S.1 i) h) k))), (12, .int (nI k))]) [] (LW h v g l o (clA K ++ Y)) := by
            refine J.run csL_areWinds_309 6 [] ?_
            refine J.pureS [.int (nI (cntN (fun h => trn S.1 h != trn (flip S.1 i) h) k))] [0, 1, 2] (c_L_why (t := none) hA hh hv hg (fun j h => by cases h) hk24) kL_why mRL_69 dL_areWinds_328 ⟨Nat.le_of_ble_eq_true rfl, Nat.le_of_ble_eq_true rfl, rfl⟩ rfl rfl (Nat.le_of_ble_eq_true rfl) rfl rfl ?_
            refine J.run csL_areWinds_309 4 [(339, 13)] ?_
            refine ⟨fun q => ?_, fun q => ?_⟩
            · have q : ¬ nI (vdi S.1 k) = 0 := q
              rw [n_eq0 (by omega)] at q
              exact E339 false (decide_eq_false q)
            · have q : nI (vdi S.1 k) = 0 := q
              rw [n_eq0 (by omega)] at q
              exact E339 true (decide_eq_true q)
          refine J.run csL_areWinds_168 10 [] ?_
          refine ⟨fun q => absurd ((n_le (a := 24) (by omega) (by omega)).mp q) (by omega), fun _ => ?_⟩
          refine J.pureS [.int (nI (cntN (agr S.1 i) k))] [0, 1] (c_L_agrees hA hh hv hi6 hk24) kL_agrees mRL_63 dL_areWinds_306 ⟨Nat.le_of_ble_eq_true rfl, Nat.le_of_ble_eq_true rfl, rfl⟩ rfl rfl (Nat.le_of_ble_eq_true rfl) rfl rfl ?_
          refine J.run csL_areWinds_309 5 [(320, 13)] ?_
          refine ⟨fun q => ?_, fun q => ?_⟩
          · rw [ag_if.mp q] at e10
            exact J.cast E317 (congrArg (fun x : Int32 => wL (nI (agh S.1)) (trF S.1 24 0) [(6, .int mo.1), (7, .int mo.2), (8, .int c1), (9, .int (nI i)), (10, .int x), (11, .int (nI (cntN (fun h => trn S.1 h != trn (flip S.1 i) h) k))), (12, .int (nI k))]) e10) rfl rfl
          · have hb : agr S.1 i k = true := by
              cases hb : agr S.1 i k with
              | false => exact absurd (ag_if.mpr hb) q
              | true => rfl
            rw [hb] at e10
            exact J.cast E317 (congrArg (fun x : Int32 => wL (nI (agh S.1)) (trF S.1 24 0) [(6, .int mo.1), (7, .int mo.2), (8, .int c1), (9, .int (nI i)), (10, .int x), (11, .int (nI (cntN (fun h => trn S.1 h != trn (flip S.1 i) h) k))), (12, .int (nI k))]) e10) rfl rfl
      have X := LH 24 0 rfl
      have h3 := (hA.2.2.2.1 i hi6).2.2.2
      have i3 : nI 4 * nI i + nI 3 = nI (4 * i + 3) := n_add2 (ix_v i)
      have x3 : vp_in (nI 4 * nI i + nI 3) 24 := by rw [i3]; exact vp_n (by omega) (by decide)
      have y3 : v (nI 4 * nI i + nI 3).toNatClampNeg = nI (v_vn S.1 i 3) := by rw [i3, cl_n (by omega)]; exact hv i hi6 3 (by decide)
      have e8 : c1 = nI (cntN (free S.1) i) + (nI 1 - v (nI 4 * nI i + nI 3).toNatClampNeg) := by
        rw [hc1, y3]
        by_cases q : v_vn S.1 i 3 = 0
        · rw [cntN_s (show free S.1 i = true from decide_eq_true q), q]
          rfl
        · rw [cntN_n (show free S.1 i = false from decide_eq_false q), show v_vn S.1 i 3 = 1 by omega]
          exact (Int32.add_zero _).symm
      rw [← hmo]
      refine J.run csL_areWinds_168 40 [(291, 13)] ?_
      refine ⟨fun q => absurd ((n_le (a := 6) (by omega) (by omega)).mp q) (by omega), fun _ => ⟨x3, ?_⟩⟩
      exact J.cast X (congrArg (fun x : Int32 => wL (nI (agh S.1)) (trF S.1 24 0) [(6, .int mo.1), (7, .int mo.2), (8, .int x), (9, .int (nI i)), (10, .int (nI 0)), (11, .int (nI 0)), (12, .int (nI 0))]) e8) rfl rfl
  -- in how many hours the mills turn
  have LN : ∀ (j d : Nat), j + d = 24 → ∀ K, cRel S K → J ML_areWinds (okQ S h v g l o Y) 0 0 209 (wL (nI (agh S.1)) (trF S.1 d (24 - d)) [(6, .int (nI j + (-1)))]) [] (LW h v g l o (clA K ++ Y)) := by
    intro j
    induction j with
    | zero =>
      intro d hd K hK
      obtain rfl : d = 24 := by omega
      refine J.run csL_areWinds_168 2 [(248, 6)] ?_
      refine ⟨fun _ => ?_, fun q => absurd (by decide) q⟩
      refine J.run csL_areWinds_168 8 [(260, 10)] ?_
      exact LV 6 0 rfl K hK
    | succ j ih =>
      intro d hd K hK
      have ih' := ih (d + 1) (by omega) K hK
      have e5 : trF S.1 (d + 1) (24 - (d + 1)) = if trn S.1 ((v_ho S.1 + j) % 24) = true then nI j else trF S.1 d (24 - d) := by
        rw [show 24 - (d + 1) = j by omega]
        show (if trn S.1 ((v_ho S.1 + j) % 24) = true then nI j else trF S.1 d (j + 1)) = _
        rw [show j + 1 = 24 - d by omega]
      have ej := pk_m1 j
      have hm24 : (v_ho S.1 + j) % 24 < 24 := Nat.mod_lt _ (by decide)
      have eg : nI ((v_ho S.1 + j) % 24) = g 0 + (nI (j + 1) + -1) - (g 0 + (nI (j + 1) + -1)) / 24 * 24 := by
        rw [ej, show g 0 = nI (v_ho S.1) from hg.1.1, nI_add, n_rem24 (by omega)]
      have vle := vdi_le S.1 ((v_ho S.1 + j) % 24)
      have e6 : nI j + (-1) = nI (j + 1) + (-1) + (-1) := by rw [ej]
      refine J.run csL_areWinds_168 20 [] ?_
      refine ⟨fun q => absurd (show nI (j + 1) + (-1) < 0 from q) (by rw [ej]; exact nI_pos (by omega)), fun _ => ⟨vp_c (by decide), (by decide : ¬ (24 : Int32) = 0), ?_⟩⟩
      refine J.cast (lv := wL (nI (agh S.1)) (trF S.1 d (24 - d)) [(6, .int (nI (j + 1) + (-1)))]) (st := [.int (-1), .int (nI ((v_ho S.1 + j) % 24)), .ref 2, .ref 1, .ref 0]) ?_ rfl (congrArg (fun x : Int32 => ([.int (-1), .int x, .ref 2, .ref 1, .ref 0] : List Value)) eg) rfl
      refine J.pureS [] [0, 1, 2] (c_L_why (t := none) hA hh hv hg (fun j h => by cases h) hm24) kL_why mRL_69 dL_areWinds_227 ⟨Nat.le_of_ble_eq_true rfl, Nat.le_of_ble_eq_true rfl, rfl⟩ rfl rfl (Nat.le_of_ble_eq_true rfl) rfl rfl ?_
      refine J.run csL_areWinds_168 12 [(209, 7)] ?_
      refine ⟨fun q => ?_, fun q => ?_⟩
      · have q : ¬ nI (vdi S.1 ((v_ho S.1 + j) % 24)) = 0 := q
        rw [n_eq0 (by omega)] at q
        rw [show trn S.1 ((v_ho S.1 + j) % 24) = false from decide_eq_false q] at e5
        exact J.cast ih' (cg2 (fun x y : Int32 => wL (nI (agh S.1)) x [(6, .int y)]) e5 e6) rfl rfl
      · have q : nI (vdi S.1 ((v_ho S.1 + j) % 24)) = 0 := q
        rw [n_eq0 (by omega)] at q
        rw [show trn S.1 ((v_ho S.1 + j) % 24) = true from decide_eq_true q] at e5
        exact J.cast ih' (cg2 (fun x y : Int32 => wL (nI (agh S.1)) x [(6, .int y)]) (e5.trans ej.symm) e6) rfl rfl
  -- the hours
  have LHo : ∀ (d k : Nat), k + d = 24 → ∀ K, cRel S K → J ML_areWinds (okQ S h v g l o Y) 0 0 9 (wL (nI (cntN (trn S.1) k)) (-1) [(6, .int (nI k))]) [] (LW h v g l o (clA K ++ Y)) := by
    intro d
    induction d with
    | zero =>
      intro k hk K hK
      obtain rfl : k = 24 := by omega
      refine J.run csL_areWinds_0 3 [(205, 6)] ?_
      refine ⟨fun _ => ?_, fun q => absurd (by decide) q⟩
      refine J.run csL_areWinds_168 2 [(209, 7)] ?_
      exact LN 24 0 rfl K hK
    | succ d ih =>
      intro k hk K hK
      have hk24 : k < 24 := by omega
      have ih' := ih (k + 1) (by omega)
      have vle := vdi_le S.1 k
      have i0 : nI 2 * nI k = nI (2 * k) := n_mul 2 k
      have i1 : nI 2 * nI k + nI 1 = nI (2 * k + 1) := n_add2 (ix_h k)
      have x0 : vp_in (nI 2 * nI k) 48 := by rw [i0]; exact vp_n (by omega) (by decide)
      have x1 : vp_in (nI 2 * nI k + nI 1) 48 := by rw [i1]; exact vp_n (by omega) (by decide)
      have y0 : h (nI 2 * nI k).toNatClampNeg = nI (v_sd S.1 k) := by rw [i0, cl_n (by omega)]; exact (hh k hk24).1
      have y1 : h (nI 2 * nI k + nI 1).toNatClampNeg = nI (v_sg S.1 k) := by rw [i1, cl_n (by omega)]; exact (hh k hk24).2
      -- looks
      have E127 : ∀ K, cRel S K → J ML_areWinds (okQ S h v g l o Y) 0 0 127 (wL (nI (cntN (trn S.1) (k + 1))) (-1) [(6, .int (nI k)), (7, .int (nI (vot S.1 k))), (8, .int (nI (vdi S.1 k))), (9, .int (nI (sgi S.1 k)))]) [] (LW h v g l o (clA K ++ Y)) := by
        intro K hK
        refine J.run csL_areWinds_77 5 [] ?_
        refine J.lk [] (c_X3_hourOf0 (y := []) hK hk24 (w := 0) (by decide)) kX3_hourOf mRL_45 dL_areWinds_131 ⟨Nat.le_of_ble_eq_true rfl, Nat.le_of_ble_eq_true rfl, rfl⟩ rfl rfl rfl (Nat.le_of_ble_eq_true rfl) rfl (fun K hK => ?_)
        refine J.run csL_areWinds_77 12 [] ?_
        refine ⟨x0, fun q => absurd (show nI (v_sd S.1 k) = h (nI 2 * nI k).toNatClampNeg from y0.symm) q, fun _ => ?_⟩
        refine J.lk [] (c_X3_hourOf0 (y := []) hK hk24 (w := 1) (by decide)) kX3_hourOf mRL_45 dL_areWinds_147 ⟨Nat.le_of_ble_eq_true rfl, Nat.le_of_ble_eq_true rfl, rfl⟩ rfl rfl rfl (Nat.le_of_ble_eq_true rfl) rfl (fun K hK => ?_)
        refine J.run csL_areWinds_77 14 [] ?_
        refine ⟨x1, fun q => absurd (show nI (v_sg S.1 k) = h (nI 2 * nI k + nI 1).toNatClampNeg from y1.symm) q, fun _ => ?_⟩
        refine J.lk [] (c_X3_hourOf0 (y := []) hK hk24 (w := 2) (by decide)) kX3_hourOf mRL_45 dL_areWinds_165 ⟨Nat.le_of_ble_eq_true rfl, Nat.le_of_ble_eq_true rfl, rfl⟩ rfl rfl rfl (Nat.le_of_ble_eq_true rfl) rfl (fun K hK => ?_)
        refine J.run csL_areWinds_168 8 [] ?_
        refine ⟨fun q => absurd rfl q, fun _ => ?_⟩
        refine J.lk [] (c_X3_hourOf0 (y := []) hK hk24 (w := 3) (by decide)) kX3_hourOf mRL_45 dL_areWinds_177 ⟨Nat.le_of_ble_eq_true rfl, Nat.le_of_ble_eq_true rfl, rfl⟩ rfl rfl rfl (Nat.le_of_ble_eq_true rfl) rfl (fun K hK => ?_)
        refine J.run csL_areWinds_168 8 [] ?_
        refine ⟨fun q => absurd rfl q, fun _ => ?_⟩
        refine J.lk [] (c_X3_hourOf0 (y := []) hK hk24 (w := 4) (by decide)) kX3_hourOf mRL_45 dL_areWinds_189 ⟨Nat.le_of_ble_eq_true rfl, Nat.le_of_ble_eq_true rfl, rfl⟩ rfl rfl rfl (Nat.le_of_ble_eq_true rfl) rfl (fun K hK => ?_)
        refine J.run csL_areWinds_168 5 [(9, 7)] ?_
        refine ⟨fun _ => ?_, fun q => absurd rfl q⟩
        exact J.cast (ih' K hK) (congrArg (fun x : Int32 => wL (nI (cntN (trn S.1) (k + 1))) (-1) [(6, .int x)]) (nI_succ k)) rfl rfl
      have e3 : sumN (fun m => rat S.1 m k) 3 = sgi S.1 k := by
        show 0 + rat S.1 0 k + rat S.1 1 k + rat S.1 2 k = _
        rw [Nat.zero_add]
        rfl
      have E112 : J ML_areWinds (okQ S h v g l o Y) 0 0 112 (wL (nI (cntN (trn S.1) k)) (-1) [(6, .int (nI k)), (7, .int (nI (vot S.1 k))), (8, .int (nI (vdi S.1 k))), (9, .int (nI (sgi S.1 k)))]) [] (LW h v g l o (clA K ++ Y)) := by
        refine J.run csL_areWinds_77 12 [(127, 10)] ?_
        refine ⟨fun q => ?_, fun q => ?_⟩
        · have q : ¬ nI (vdi S.1 k) = 0 := q
          rw [n_eq0 (by omega)] at q
          have e : nI (cntN (trn S.1) (k + 1)) = nI (cntN (trn S.1) k) + 0 := (cntN_n (show trn S.1 k = false from decide_eq_false q)).trans (Int32.add_zero _).symm
          exact J.cast (E127 K hK) (congrArg (fun x : Int32 => wL x (-1) [(6, .int (nI k)), (7, .int (nI (vot S.1 k))), (8, .int (nI (vdi S.1 k))), (9, .int (nI (sgi S.1 k)))]) e) rfl rfl
        · have q : nI (vdi S.1 k) = 0 := q
          rw [n_eq0 (by omega)] at q
          have e : nI (cntN (trn S.1) (k + 1)) = nI (cntN (trn S.1) k) + 1 := cntN_s (show trn S.1 k = true from decide_eq_true q)
          exact J.cast (E127 K hK) (congrArg (fun x : Int32 => wL x (-1) [(6, .int (nI k)), (7, .int (nI (vot S.1 k))), (8, .int (nI (vdi S.1 k))), (9, .int (nI (sgi S.1 k)))]) e) rfl rfl
      have LMu : ∀ (d m : Nat), m + d = 3 → J ML_areWinds (okQ S h v g l o Y) 0 0 85 (wL (nI (cntN (trn S.1) k)) (-1) [(6, .int (nI k)), (7, .int (nI (vot S.1 k))), (8, .int (nI (vdi S.1 k))), (9, .int (nI (sumN (fun m => rat S.1 m k) m))), (10, .int (nI m))]) [] (LW h v g l o (clA K ++ Y)) := by
        intro d
        induction d with
        | zero =>
          intro m hm
          obtain rfl : m = 3 := by omega
          rw [e3]
          refine J.run csL_areWinds_77 3 [(112, 10)] ?_
          exact ⟨fun _ => E112, fun q => absurd (by decide) q⟩
        | succ d ih2 =>
          intro m hm
          have hm3 : m < 3 := by omega
          refine J.run csL_areWinds_77 12 [] ?_
          refine ⟨fun q => absurd ((n_le (a := 3) (by omega) (by omega)).mp q) (by omega), fun _ => ?_⟩
          refine J.pureS [.int (nI (sumN (fun m => rat S.1 m k) m))] [0, 1, 2] (c_L_much hA hh hv hg hm3 hk24) kL_much mRL_73 dL_areWinds_100 ⟨Nat.le_of_ble_eq_true rfl, Nat.le_of_ble_eq_true rfl, rfl⟩ rfl rfl (Nat.le_of_ble_eq_true rfl) rfl rfl ?_
          refine J.run csL_areWinds_77 6 [(85, 11)] ?_
          exact J.cast (ih2 (m + 1) (by omega)) (cg2 (fun x y : Int32 => wL (nI (cntN (trn S.1) k)) (-1) [(6, .int (nI k)), (7, .int (nI (vot S.1 k))), (8, .int (nI (vdi S.1 k))), (9, .int x), (10, .int y)]) (sumN_s _ m) (nI_succ m)) rfl rfl
      have E68 : J ML_areWinds (okQ S h v g l o Y) 0 0 68 (wL (nI (cntN (trn S.1) k)) (-1) [(6, .int (nI k)), (7, .int (nI (vot S.1 k)))]) [] (LW h v g l o (clA K ++ Y)) := by
        refine J.run csL_areWinds_0 6 [] ?_
        refine J.pureS [] [0, 1, 2] (c_L_why (t := none) hA hh hv hg (fun j h => by cases h) hk24) kL_why mRL_69 dL_areWinds_74 ⟨Nat.le_of_ble_eq_true rfl, Nat.le_of_ble_eq_true rfl, rfl⟩ rfl rfl (Nat.le_of_ble_eq_true rfl) rfl rfl ?_
        refine J.run csL_areWinds_77 8 [(85, 11)] ?_
        exact LMu 3 0 rfl
      have LI : ∀ (d i : Nat), i + d = 6 → J ML_areWinds (okQ S h v g l o Y) 0 0 22 (wL (nI (cntN (trn S.1) k)) (-1) [(6, .int (nI k)), (7, .int (nI (cntN (fun i => free S.1 i && agr S.1 i k) i))), (8, .int (nI i))]) [] (LW h v g l o (clA K ++ Y)) := by
        intro d
        induction d with
        | zero =>
          intro i hi
          obtain rfl : i = 6 := by omega
          refine J.run csL_areWinds_0 3 [(68, 8)] ?_
          exact ⟨fun _ => E68, fun q => absurd (by decide) q⟩
        | succ d ih3 =>
          intro i hi
          have hi6 : i < 6 := by omega
          have ih3' := ih3 (i + 1) (by omega)
          have h3 := (hA.2.2.2.1 i hi6).2.2.2
          have i3 : nI 4 * nI i + nI 3 = nI (4 * i + 3) := n_add2 (ix_v i)
          have x3 : vp_in (nI 4 * nI i + nI 3) 24 := by rw [i3]; exact vp_n (by omega) (by decide)
          have y3 : v (nI 4 * nI i + nI 3).toNatClampNeg = nI (v_vn S.1 i 3) := by rw [i3, cl_n (by omega)]; exact hv i hi6 3 (by decide)
          have fin : ∀ b : Bool, (free S.1 i && agr S.1 i k) = b → nI (cntN (fun i => free S.1 i && agr S.1 i k) (i + 1)) = nI (cntN (fun i => free S.1 i && agr S.1 i k) i) + (if b = true then 1 else 0) := by
            intro b hb
            cases b with
            | false =>
              rw [cntN_n (p := fun i => free S.1 i && agr S.1 i k) hb]
              exact (Int32.add_zero _).symm
            | true => exact cntN_s (p := fun i => free S.1 i && agr S.1 i k) hb
          refine J.run csL_areWinds_0 30 [(22, 9)] ?_
          refine ⟨fun q => absurd ((n_le (a := 6) (by omega) (by omega)).mp q) (by omega), fun _ => ⟨x3, fun q => ?_, fun q => ?_⟩⟩
          · have q : ¬ v (nI 4 * nI i + nI 3).toNatClampNeg = 0 := q
            rw [y3, n_eq0 (by omega)] at q
            exact J.cast ih3' (cg2 (fun x y : Int32 => wL (nI (cntN (trn S.1) k)) (-1) [(6, .int (nI k)), (7, .int x), (8, .int y)]) (fin false (by rw [show free S.1 i = false from decide_eq_false q]; rfl)) (nI_succ i)) rfl rfl
          · have q : v (nI 4 * nI i + nI 3).toNatClampNeg = 0 := q
            rw [y3, n_eq0 (by omega)] at q
            have hf : free S.1 i = true := decide_eq_true q
            refine J.pureS [.int (nI (cntN (fun i => free S.1 i && agr S.1 i k) i))] [0, 1] (c_L_agrees hA hh hv hi6 hk24) kL_agrees mRL_63 dL_areWinds_48 ⟨Nat.le_of_ble_eq_true rfl, Nat.le_of_ble_eq_true rfl, rfl⟩ rfl rfl (Nat.le_of_ble_eq_true rfl) rfl rfl ?_
            refine J.run csL_areWinds_0 12 [(22, 9)] ?_
            refine ⟨fun q => ?_, fun q => ?_⟩
            · exact J.cast ih3' (cg2 (fun x y : Int32 => wL (nI (cntN (trn S.1) k)) (-1) [(6, .int (nI k)), (7, .int x), (8, .int y)]) (fin false (by rw [hf, ag_if.mp q]; rfl)) (nI_succ i)) rfl rfl
            · have hb : agr S.1 i k = true := by
                cases hb : agr S.1 i k with
                | false => exact absurd (ag_if.mpr hb) q
                | true => rfl
              exact J.cast ih3' (cg2 (fun x y : Int32 => wL (nI (cntN (trn S.1) k)) (-1) [(6, .int (nI k)), (7, .int x), (8, .int y)]) (fin true (by rw [hf, hb]; rfl)) (nI_succ i)) rfl rfl
      refine J.run csL_areWinds_0 10 [(22, 9)] ?_
      refine ⟨fun q => absurd ((n_le (a := 24) (by omega) (by omega)).mp q) (by omega), fun _ => ?_⟩
      exact LI 6 0 rfl
  refine J.run csL_areWinds_0 8 [(9, 7)] ?_
  exact LHo 24 0 rfl K hK
