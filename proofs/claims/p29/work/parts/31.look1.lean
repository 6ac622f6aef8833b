/-! Looks. -/
theorem c_X3_needIndex0 {i n : Int32} (h : ¬ (i < 0 ∨ n ≤ i)) : Ct MX3_needIndex 0 0 [.int i, .int n] [] (jd (.inl none) []) := by
  refine Ct.of rfl rfl (by decide +kernel) rfl (Nat.le_of_ble_eq_true rfl) ?_
  refine J.run csX3_needIndex 20 [(9, 2)] ?_
  exact ⟨fun h1 => absurd (Or.inl h1) h, fun h1 => ⟨fun h2 => jd_i rfl rfl, fun h2 => absurd (Or.inr (Int32.not_lt.mp h2)) h⟩⟩
theorem c_X3_needRange0 {v a b : Int32} (h : ¬ (v < a ∨ b < v)) : Ct MX3_needRange 0 0 [.int v, .int a, .int b] [] (jd (.inl none) []) := by
  refine Ct.of rfl rfl (by decide +kernel) rfl (Nat.le_of_ble_eq_true rfl) ?_
  refine J.run csX3_needRange 20 [(10, 3)] ?_
  exact ⟨fun h1 => absurd (Or.inl h1) h, fun h1 => ⟨fun h2 => jd_i rfl rfl, fun h2 => absurd (Or.inr (Int32.not_le.mp h2)) h⟩⟩
theorem J.okI {M : j_M} {Φ : j_F} {bc bs pc idx : Nat} {lv : j_L} {rest : List Value} {h : j_H} {a n9 : Int32} (hk : j_kS MX3_needIndex 2) (hl : Cond.methodLink (jm_o M) idx (jm_y MX3_needIndex) ∈ j_ws) (hd : decode (jm_b M) pc = .ok (.invokestatic idx, 3)) (hR : jm_f MX3_needIndex + 1 ≤ jm_f M ∧ 8 + (jm_n MX3_needIndex + 11) + jm_l MX3_needIndex ≤ jm_l M)
    (hcat : (rest.map fun v => v.category).sum ≤ 8) (hq : ¬ (a < 0 ∨ n9 ≤ a)) (kk : J M Φ bc bs (pc + 3) lv rest h) : J M Φ bc bs pc lv (.int n9 :: .int a :: rest) h := by
  refine J.callS bc bs rest [] (as := [.int a, .int n9]) (c_X3_needIndex0 hq) hk hl hd hR.1 hR.2 rfl rfl rfl hcat rfl rfl (Nat.le_refl _) (Nat.le_refl _) ?_ ?_
  · rintro v h' ⟨hv, rfl⟩
    cases hv
    exact ⟨rfl, kk⟩
  · rintro E h' ⟨hv, -⟩
    cases hv
theorem J.okR {M : j_M} {Φ : j_F} {bc bs pc idx : Nat} {lv : j_L} {rest : List Value} {h : j_H} {v a9 b9 : Int32} (hk : j_kS MX3_needRange 3) (hl : Cond.methodLink (jm_o M) idx (jm_y MX3_needRange) ∈ j_ws) (hd : decode (jm_b M) pc = .ok (.invokestatic idx, 3)) (hR : jm_f MX3_needRange + 1 ≤ jm_f M ∧ 8 + (jm_n MX3_needRange + 11) + jm_l MX3_needRange ≤ jm_l M)
    (hcat : (rest.map fun v => v.category).sum ≤ 8) (hq : ¬ (v < a9 ∨ b9 < v)) (kk : J M Φ bc bs (pc + 3) lv rest h) : J M Φ bc bs pc lv (.int b9 :: .int a9 :: .int v :: rest) h := by
  refine J.callS bc bs rest [] (as := [.int v, .int a9, .int b9]) (c_X3_needRange0 hq) hk hl hd hR.1 hR.2 rfl rfl rfl hcat rfl rfl (Nat.le_refl _) (Nat.le_refl _) ?_ ?_
  · rintro v h' ⟨hv, rfl⟩
    cases hv
    exact ⟨rfl, kk⟩
  · rintro E h' ⟨hv, -⟩
    cases hv
theorem nbad {i n : Nat} (hi : i < n) (hn : n < 2 ^ 31) : ¬ (nI i < 0 ∨ nI n ≤ nI i) := by
  rintro (w | w)
  · exact absurd w (nI_pos (by omega))
  · rw [n_le (by omega) (by omega)] at w
    omega
theorem nout {v a b : Nat} (h1 : a ≤ v) (h2 : v ≤ b) (hn : b < 2 ^ 31) : ¬ (nI v < nI a ∨ nI b < nI v) := by
  rw [n_lt (by omega) (by omega), n_lt (by omega) (by omega)]
  omega
/-- a look: an answer, nothing is changed -/
def cL (S : aS) (y : j_H) (v : Int32) : j_F := fun o h' => o = .inl (some (.int v)) ∧ ∃ K, cRel S K ∧ h' = clw K y
theorem cL_i {S : aS} {y : j_H} {v w : Int32} {K : cK} {h' : j_H} (h : cRel S K) (e : w = v) (eh : h' = clw K y) : cL S y v (.inl (some (.int w))) h' := by
  subst e eh
  exact ⟨rfl, K, h, rfl⟩
def hoV (A : aV) (i w : Nat) : Int32 := match w with
  | 0 => nI (v_sd A i)
  | 1 => nI (v_sg A i)
  | 2 => nI (vot A i)
  | 3 => nI (vdi A i)
  | _ => nI (sgi A i)
def vaV (A : aV) (v w : Nat) : Int32 := if w < 4 then nI (v_vn A v w) else if w = 4 then nI (hov A v) else nI (htb A v)
def owV (A : aV) (o w : Nat) : Int32 := match w with
  | 0 => nI (swoa A o)
  | 1 => nI (v_fl A o)
  | 2 => nI (v_br A o)
  | _ => nI (v_tk A o)
def coV (S : aS) (w : Nat) : Int32 := match w with
  | 0 => nI (v_ho S.1)
  | 1 => nI (v_go S.1)
  | 2 => nI (v_tu S.1)
  | 3 => nI (com S.1)
  | 4 => nI (agh S.1)
  | 5 => nI (swa S.1)
  | 6 => nI (fla S.1)
  | 7 => nI (v_re S.1)
  | _ => nI (S.2.2.1.length)
def rI (S : aS) (a : Int32) (n : Nat) (r : aR) : aR := if a < 0 ∨ nI n ≤ a then (1, S, 0) else r
def rHour (S : aS) (a b : Int32) : aR := if a < 0 ∨ nI 24 ≤ a then (1, S, 0) else if b < nI 0 ∨ nI 4 < b then (2, S, 0) else (0, S, hoV S.1 (cN a) (cN b))
def rVaneOf (S : aS) (a b : Int32) : aR := if a < 0 ∨ nI 6 ≤ a then (1, S, 0) else if b < nI 0 ∨ nI 5 < b then (2, S, 0) else (0, S, vaV S.1 (cN a) (cN b))
def rOwner (S : aS) (a b : Int32) : aR := if a < 0 ∨ nI 5 ≤ a then (1, S, 0) else if b < nI 0 ∨ nI 3 < b then (2, S, 0) else (0, S, owV S.1 (cN a) (cN b))
def rCount (S : aS) (a : Int32) : aR := if a < nI 0 ∨ nI 8 < a then (1, S, 0) else (0, S, coV S (cN a))
def rSetting (S : aS) (a : Int32) : aR := if a < 0 ∨ nI 2 ≤ a then (1, S, 0) else (0, S, nI (v_se S.1 (cN a)))
theorem cQ_L {E1 E2 : String} {y : j_H} {r : aR} {S : aS} {K : cK} {v : Int32} (e : r = (0, S, v)) (hK : cRel S K) : cQ E1 E2 y r (.inl (some (.int v))) (clw K y) := by
  subst e
  exact ⟨rfl, K, hK, rfl⟩
theorem cL_L {S : aS} {y : j_H} {v : Int32} {K : cK} (hK : cRel S K) : cL S y v (.inl (some (.int v))) (clw K y) := ⟨rfl, K, hK, rfl⟩
/-- what a look must tell, told of any world of the state -/
abbrev hE (Φ : j_F) (S : aS) (y : j_H) (v : Int32) : Prop := ∀ K, cRel S K → Φ (.inl (some (.int v))) (clw K y)
theorem hE.f {Φ : j_F} {S : aS} {y : j_H} {v w : Int32} (h : hE Φ S y v) {K : cK} {h' : j_H} (hK : cRel S K) (e : w = v) (eh : h' = clw K y) : Φ (.inl (some (.int w))) h' := by
  subst e eh
  exact h K hK
theorem b_X3_hourOf {Φ : j_F} {S : aS} {K : cK} {y : j_H} (h : cRel S K) {i w : Nat} (hi : i < 24) (hw : w ≤ 4) (hΦ : hE Φ S y (hoV S.1 i w)) : J MX3_hourOf Φ 0 0 12 [(0, .ref 0), (1, .int (nI i)), (2, .int (nI w))] [] (clw K y) := by
  obtain ⟨⟨A, z⟩, c, r, sl, sv⟩ := K
  have hA : A = S.1 := h.1.1
  subst hA
  have hok := h.1.2.1
  have hc : w = 0 ∨ w = 1 ∨ w = 2 ∨ w = 3 ∨ w = 4 := by omega
  rcases hc with rfl | rfl | rfl | rfl | rfl
  · refine J.run csX3_hourOf 2 [(44, 3), (54, 3), (64, 3), (73, 3), (82, 3)] ?_
    refine ⟨fun _ => ?_, fun q => absurd rfl q⟩
    refine J.run csX3_hourOf 20 [] ?_
    refine ⟨vp_n hi (by decide), ?_⟩
    exact hΦ.f h (by show nI (v_sd S.1 (nI i).toNatClampNeg) = nI (v_sd S.1 i); rw [cl_n (by omega)]) rfl
  · refine J.run csX3_hourOf 2 [(44, 3), (54, 3), (64, 3), (73, 3), (82, 3)] ?_
    refine ⟨fun q => absurd q (by decide), fun _ => ⟨fun _ => ?_, fun q => absurd rfl q⟩⟩
    refine J.run csX3_hourOf 20 [] ?_
    refine ⟨vp_n hi (by decide), ?_⟩
    exact hΦ.f h (by show nI (v_sg S.1 (nI i).toNatClampNeg) = nI (v_sg S.1 i); rw [cl_n (by omega)]) rfl
  · refine J.run csX3_hourOf 2 [(44, 3), (54, 3), (64, 3), (73, 3), (82, 3)] ?_
    refine ⟨fun q => absurd q (by decide), fun _ => ⟨fun q => absurd q (by decide), fun _ => ⟨fun _ => ?_, fun q => absurd rfl q⟩⟩⟩
    refine J.run csX3_hourOf 20 [] ?_
    refine J.callRV [] R1 (c_X1_votesIn (z := z) hok hi) kX1_votesIn mRX3_163 dX3_hourOf_69 (by decide) rfl rfl rfl (Nat.le_of_ble_eq_true rfl) (i0 := 0) rfl (ci := 1) rfl rfl ?_
    refine J.run csX3_hourOf 5 [] ?_
    exact hΦ.f h rfl rfl
  · refine J.run csX3_hourOf 2 [(44, 3), (54, 3), (64, 3), (73, 3), (82, 3)] ?_
    refine ⟨fun q => absurd q (by decide), fun _ => ⟨fun q => absurd q (by decide), fun _ => ⟨fun q => absurd q (by decide), fun _ => ⟨fun _ => ?_, fun q => absurd rfl q⟩⟩⟩⟩
    refine J.run csX3_hourOf 20 [] ?_
    refine J.callRV [] R1 (c_X1_verdictIn (z := z) hok hi) kX1_verdictIn mRX3_167 dX3_hourOf_78 (by decide) rfl rfl rfl (Nat.le_of_ble_eq_true rfl) (i0 := 0) rfl (ci := 1) rfl rfl ?_
    refine J.run csX3_hourOf 5 [] ?_
    exact hΦ.f h rfl rfl
  · refine J.run csX3_hourOf 2 [(44, 3), (54, 3), (64, 3), (73, 3), (82, 3)] ?_
    refine ⟨fun q => absurd q (by decide), fun _ => ⟨fun q => absurd q (by decide), fun _ => ⟨fun q => absurd q (by decide), fun _ => ⟨fun q => absurd q (by decide), fun _ => ?_⟩⟩⟩⟩
    refine J.run csX3_hourOf 20 [] ?_
    refine J.callRV [] R1 (c_X1_sacksGroundIn (z := z) hok hi) kX1_sacksGroundIn mRX3_170 dX3_hourOf_87 (by decide) rfl rfl rfl (Nat.le_of_ble_eq_true rfl) (i0 := 0) rfl (ci := 1) rfl rfl ?_
    refine J.run csX3_hourOf 5 [] ?_
    exact hΦ.f h rfl rfl
theorem c_X3_hourOf {S : aS} {K : cK} {y : j_H} (h : cRel S K) (a b : Int32) : Ct MX3_hourOf 2 12 [.ref 0, .int a, .int b] (clw K y) (cQ eI eA y (rHour S a b)) := by
  refine Ct.of rfl rfl (by decide +kernel) rfl (Nat.le_of_ble_eq_true rfl) ?_
  refine J.run csX3_hourOf 5 [] ?_
  refine J.ckI 24 rfl kX3_needIndex mRX3_45 dX3_hourOf_3 (by decide) (Nat.le_of_ble_eq_true rfl) ⟨rfl, by decide⟩ (fun q => cQ_1 h (if_pos q)) (fun i hi ea q1 => ?_)
  refine J.run csX3_hourOf 5 [] ?_
  refine J.ckR 0 4 rfl kX3_needRange mRX3_49 dX3_hourOf_9 (by decide) (Nat.le_of_ble_eq_true rfl) ⟨rfl, rfl, by decide⟩ (fun q => cQ_2 h ((if_neg q1).trans (if_pos q))) (fun w _ hw eb q2 => ?_)
  have er : rHour S a b = (0, S, hoV S.1 i w) := by
    unfold rHour
    rw [if_neg q1, if_neg q2, ea, eb, cN_n (by omega), cN_n (by omega)]
  subst ea eb
  exact b_X3_hourOf h hi hw (fun K hK => cQ_L er hK)
theorem c_X3_hourOf0 {S : aS} {K : cK} {y : j_H} (h : cRel S K) {i w : Nat} (hi : i < 24) (hw : w ≤ 4) : Ct MX3_hourOf 0 0 [.ref 0, .int (nI i), .int (nI w)] (clw K y) (cL S y (hoV S.1 i w)) := by
  refine Ct.of rfl rfl (by decide +kernel) rfl (Nat.le_of_ble_eq_true rfl) ?_
  refine J.run csX3_hourOf 5 [] ?_
  refine J.okI kX3_needIndex mRX3_45 dX3_hourOf_3 (by decide) (Nat.le_of_ble_eq_true rfl) (nbad hi (by decide)) ?_
  refine J.run csX3_hourOf 5 [] ?_
  refine J.okR kX3_needRange mRX3_49 dX3_hourOf_9 (by decide) (Nat.le_of_ble_eq_true rfl) (nout (Nat.zero_le _) hw (by decide)) ?_
  exact b_X3_hourOf h hi hw (fun K hK => cL_L hK)
theorem b_X3_vaneOf {Φ : j_F} {S : aS} {K : cK} {y : j_H} (h : cRel S K) {i w : Nat} (hi : i < 6) (hw : w ≤ 5) (hΦ : hE Φ S y (vaV S.1 i w)) : J MX3_vaneOf Φ 0 0 12 [(0, .ref 0), (1, .int (nI i)), (2, .int (nI w))] [] (clw K y) := by
  obtain ⟨⟨A, z⟩, c, r, sl, sv⟩ := K
  have hA : A = S.1 := h.1.1
  subst hA
  have hok := h.1.2.1
  by_cases w4 : w < 4
  · have ev : vaV S.1 i w = nI (v_vn S.1 i w) := if_pos w4
    have hc : i = 0 ∨ i = 1 ∨ i = 2 ∨ i = 3 ∨ i = 4 ∨ i = 5 := by omega
    rcases hc with rfl | rfl | rfl | rfl | rfl | rfl
    all_goals
      refine J.run csX3_vaneOf 20 [(29, 3)] ?_
      refine ⟨fun q => absurd ((n_le (a := 4) (b := w) (by decide) (by omega)).mp q) (by omega), fun _ => ⟨vp_c (by decide), vp_n w4 (by decide), ?_⟩⟩
      refine hΦ.f h ?_ rfl
      rw [ev, show (nI w).toNatClampNeg = w from cl_n (by omega)]
  · have hc : w = 4 ∨ w = 5 := by omega
    rcases hc with rfl | rfl
    · refine J.run csX3_vaneOf 3 [(29, 3)] ?_
      refine ⟨fun _ => ?_, fun q => absurd (by decide) q⟩
      refine J.run csX3_vaneOf 20 [] ?_
      refine ⟨fun q => absurd rfl q, fun _ => ?_⟩
      refine J.callRV [] R1 (c_X1_hoursOfVane (z := z) hok hi) kX1_hoursOfVane mRX3_173 dX3_vaneOf_39 (by decide) rfl rfl rfl (Nat.le_of_ble_eq_true rfl) (i0 := 0) rfl (ci := 1) rfl rfl ?_
      refine J.run csX3_vaneOf 5 [] ?_
      exact hΦ.f h rfl rfl
    · refine J.run csX3_vaneOf 3 [(29, 3)] ?_
      refine ⟨fun _ => ?_, fun q => absurd (by decide) q⟩
      refine J.run csX3_vaneOf 20 [] ?_
      refine ⟨fun _ => ?_, fun q => absurd q (by decide)⟩
      refine J.callRV [] R1 (c_X1_hoursTurnedBy (z := z) hok hi) kX1_hoursTurnedBy mRX3_176 dX3_vaneOf_50 (by decide) rfl rfl rfl (Nat.le_of_ble_eq_true rfl) (i0 := 0) rfl (ci := 1) rfl rfl ?_
      refine J.run csX3_vaneOf 5 [] ?_
      exact hΦ.f h rfl rfl
theorem c_X3_vaneOf {S : aS} {K : cK} {y : j_H} (h : cRel S K) (a b : Int32) : Ct MX3_vaneOf 2 12 [.ref 0, .int a, .int b] (clw K y) (cQ eI eA y (rVaneOf S a b)) := by
  refine Ct.of rfl rfl (by decide +kernel) rfl (Nat.le_of_ble_eq_true rfl) ?_
  refine J.run csX3_vaneOf 5 [] ?_
  refine J.ckI 6 rfl kX3_needIndex mRX3_45 dX3_vaneOf_3 (by decide) (Nat.le_of_ble_eq_true rfl) ⟨rfl, by decide⟩ (fun q => cQ_1 h (if_pos q)) (fun i hi ea q1 => ?_)
  refine J.run csX3_vaneOf 5 [] ?_
  refine J.ckR 0 5 rfl kX3_needRange mRX3_49 dX3_vaneOf_9 (by decide) (Nat.le_of_ble_eq_true rfl) ⟨rfl, rfl, by decide⟩ (fun q => cQ_2 h ((if_neg q1).trans (if_pos q))) (fun w _ hw eb q2 => ?_)
  have er : rVaneOf S a b = (0, S, vaV S.1 i w) := by
    unfold rVaneOf
    rw [if_neg q1, if_neg q2, ea, eb, cN_n (by omega), cN_n (by omega)]
  subst ea eb
  exact b_X3_vaneOf h hi hw (fun K hK => cQ_L er hK)
theorem c_X3_vaneOf0 {S : aS} {K : cK} {y : j_H} (h : cRel S K) {i w : Nat} (hi : i < 6) (hw : w ≤ 5) : Ct MX3_vaneOf 0 0 [.ref 0, .int (nI i), .int (nI w)] (clw K y) (cL S y (vaV S.1 i w)) := by
  refine Ct.of rfl rfl (by decide +kernel) rfl (Nat.le_of_ble_eq_true rfl) ?_
  refine J.run csX3_vaneOf 5 [] ?_
  refine J.okI kX3_needIndex mRX3_45 dX3_vaneOf_3 (by decide) (Nat.le_of_ble_eq_true rfl) (nbad hi (by decide)) ?_
  refine J.run csX3_vaneOf 5 [] ?_
  refine J.okR kX3_needRange mRX3_49 dX3_vaneOf_9 (by decide) (Nat.le_of_ble_eq_true rfl) (nout (Nat.zero_le _) hw (by decide)) ?_
  exact b_X3_vaneOf h hi hw (fun K hK => cL_L hK)
theorem b_X3_ownerOf {Φ : j_F} {S : aS} {K : cK} {y : j_H} (h : cRel S K) {i w : Nat} (hi : i < 5) (hw : w ≤ 3) (hΦ : hE Φ S y (owV S.1 i w)) : J MX3_ownerOf Φ 0 0 11 [(0, .ref 0), (1, .int (nI i)), (2, .int (nI w))] [] (clw K y) := by
  obtain ⟨⟨A, z⟩, c, r, sl, sv⟩ := K
  have hA : A = S.1 := h.1.1
  subst hA
  have hok := h.1.2.1
  have hz : vRel S.1 z := h.1.2.2
  have hc : w = 0 ∨ w = 1 ∨ w = 2 ∨ w = 3 := by omega
  rcases hc with rfl | rfl | rfl | rfl
  · refine J.run csX3_ownerOf 2 [(40, 3), (49, 3), (59, 3), (69, 3)] ?_
    refine ⟨fun _ => ?_, fun q => absurd rfl q⟩
    refine J.run csX3_ownerOf 20 [] ?_
    refine J.callRV [] R1 (c_X1_sacksWaitingOf hi hok hz) kX1_sacksWaitingOf mRX3_186 dX3_ownerOf_45 (by decide) rfl rfl rfl (Nat.le_of_ble_eq_true rfl) (i0 := 0) rfl (ci := 1) rfl rfl ?_
    refine J.run csX3_ownerOf 5 [] ?_
    exact hΦ.f h rfl rfl
  · refine J.run csX3_ownerOf 2 [(40, 3), (49, 3), (59, 3), (69, 3)] ?_
    refine ⟨fun q => absurd q (by decide), fun _ => ⟨fun _ => ?_, fun q => absurd rfl q⟩⟩
    refine J.run csX3_ownerOf 20 [] ?_
    refine ⟨vp_n hi (by decide), ?_⟩
    exact hΦ.f h (by show nI (v_fl S.1 (nI i).toNatClampNeg) = nI (v_fl S.1 i); rw [cl_n (by omega)]) rfl
  · refine J.run csX3_ownerOf 2 [(40, 3), (49, 3), (59, 3), (69, 3)] ?_
    refine ⟨fun q => absurd q (by decide), fun _ => ⟨fun q => absurd q (by decide), fun _ => ⟨fun _ => ?_, fun q => absurd rfl q⟩⟩⟩
    refine J.run csX3_ownerOf 20 [] ?_
    refine ⟨vp_n hi (by decide), ?_⟩
    exact hΦ.f h (by show nI (v_br S.1 (nI i).toNatClampNeg) = nI (v_br S.1 i); rw [cl_n (by omega)]) rfl
  · refine J.run csX3_ownerOf 2 [(40, 3), (49, 3), (59, 3), (69, 3)] ?_
    refine ⟨fun q => absurd q (by decide), fun _ => ⟨fun q => absurd q (by decide), fun _ => ⟨fun q => absurd q (by decide), fun _ => ?_⟩⟩⟩
    refine J.run csX3_ownerOf 20 [] ?_
    refine ⟨vp_n hi (by decide), ?_⟩
    exact hΦ.f h (by show nI (v_tk S.1 (nI i).toNatClampNeg) = nI (v_tk S.1 i); rw [cl_n (by omega)]) rfl
theorem c_X3_ownerOf {S : aS} {K : cK} {y : j_H} (h : cRel S K) (a b : Int32) : Ct MX3_ownerOf 2 12 [.ref 0, .int a, .int b] (clw K y) (cQ eI eA y (rOwner S a b)) := by
  refine Ct.of rfl rfl (by decide +kernel) rfl (Nat.le_of_ble_eq_true rfl) ?_
  refine J.run csX3_ownerOf 5 [] ?_
  refine J.ckI 5 rfl kX3_needIndex mRX3_45 dX3_ownerOf_2 (by decide) (Nat.le_of_ble_eq_true rfl) ⟨rfl, by decide⟩ (fun q => cQ_1 h (if_pos q)) (fun i hi ea q1 => ?_)
  refine J.run csX3_ownerOf 5 [] ?_
  refine J.ckR 0 3 rfl kX3_needRange mRX3_49 dX3_ownerOf_8 (by decide) (Nat.le_of_ble_eq_true rfl) ⟨rfl, rfl, by decide⟩ (fun q => cQ_2 h ((if_neg q1).trans (if_pos q))) (fun w _ hw eb q2 => ?_)
  have er : rOwner S a b = (0, S, owV S.1 i w) := by
    unfold rOwner
    rw [if_neg q1, if_neg q2, ea, eb, cN_n (by omega), cN_n (by omega)]
  subst ea eb
  exact b_X3_ownerOf h hi hw (fun K hK => cQ_L er hK)
theorem c_X3_ownerOf0 {S : aS} {K : cK} {y : j_H} (h : cRel S K) {i w : Nat} (hi : i < 5) (hw : w ≤ 3) : Ct MX3_ownerOf 0 0 [.ref 0, .int (nI i), .int (nI w)] (clw K y) (cL S y (owV S.1 i w)) := by
  refine Ct.of rfl rfl (by decide +kernel) rfl (Nat.le_of_ble_eq_true rfl) ?_
  refine J.run csX3_ownerOf 5 [] ?_
  refine J.okI kX3_needIndex mRX3_45 dX3_ownerOf_2 (by decide) (Nat.le_of_ble_eq_true rfl) (nbad hi (by decide)) ?_
  refine J.run csX3_ownerOf 5 [] ?_
  refine J.okR kX3_needRange mRX3_49 dX3_ownerOf_8 (by decide) (Nat.le_of_ble_eq_true rfl) (nout (Nat.zero_le _) hw (by decide)) ?_
  exact b_X3_ownerOf h hi hw (fun K hK => cL_L hK)
theorem b_X3_count {Φ : j_F} {S : aS} {K : cK} {y : j_H} (h : cRel S K) {w : Nat} (hw : w ≤ 8) (hΦ : hE Φ S y (coV S w)) : J MX3_count Φ 0 0 7 [(0, .ref 0), (1, .int (nI w))] [] (clw K y) := by
  obtain ⟨⟨A, z⟩, ⟨sn, sc, n⟩, r, sl, sv⟩ := K
  have hA : A = S.1 := h.1.1
  subst hA
  have hok := h.1.2.1
  have hz : vRel S.1 z := h.1.2.2
  have hsc : sc = S.2.2.1.length := h.2.2.1.1
  have hc : w = 0 ∨ w = 1 ∨ w = 2 ∨ w = 3 ∨ w = 4 ∨ w = 5 ∨ w = 6 ∨ w = 7 ∨ w = 8 := by omega
  rcases hc with rfl | rfl | rfl | rfl | rfl | rfl | rfl | rfl | rfl
  · refine J.run csX3_count 2 [(56, 2), (64, 2), (72, 2), (80, 2), (88, 2), (96, 2), (104, 2), (112, 2), (120, 2)] ?_
    refine ⟨fun _ => ?_, fun q => absurd rfl q⟩
    refine J.run csX3_count 20 [] ?_
    exact hΦ.f h rfl rfl
  · refine J.run csX3_count 2 [(56, 2), (64, 2), (72, 2), (80, 2), (88, 2), (96, 2), (104, 2), (112, 2), (120, 2)] ?_
    refine ⟨fun q => absurd q (by decide), fun _ => ⟨fun _ => ?_, fun q => absurd rfl q⟩⟩
    refine J.run csX3_count 20 [] ?_
    exact hΦ.f h rfl rfl
  · refine J.run csX3_count 2 [(56, 2), (64, 2), (72, 2), (80, 2), (88, 2), (96, 2), (104, 2), (112, 2), (120, 2)] ?_
    refine ⟨fun q => absurd q (by decide), fun _ => ⟨fun q => absurd q (by decide), fun _ => ⟨fun _ => ?_, fun q => absurd rfl q⟩⟩⟩
    refine J.run csX3_count 20 [] ?_
    exact hΦ.f h rfl rfl
  · refine J.run csX3_count 2 [(56, 2), (64, 2), (72, 2), (80, 2), (88, 2), (96, 2), (104, 2), (112, 2), (120, 2)] ?_
    refine ⟨fun q => absurd q (by decide), fun _ => ⟨fun q => absurd q (by decide), fun _ => ⟨fun q => absurd q (by decide), fun _ => ⟨fun _ => ?_, fun q => absurd rfl q⟩⟩⟩⟩
    refine J.run csX3_count 20 [] ?_
    refine J.callRV [] R1 (c_X1_committee (z := z) hok) kX1_committee mRX3_195 dX3_count_84 (by decide) rfl rfl rfl (Nat.le_of_ble_eq_true rfl) (i0 := 0) rfl (ci := 1) rfl rfl ?_
    refine J.run csX3_count 5 [] ?_
    exact hΦ.f h rfl rfl
  · refine J.run csX3_count 2 [(56, 2), (64, 2), (72, 2), (80, 2), (88, 2), (96, 2), (104, 2), (112, 2), (120, 2)] ?_
    refine ⟨fun q => absurd q (by decide), fun _ => ⟨fun q => absurd q (by decide), fun _ => ⟨fun q => absurd q (by decide), fun _ => ⟨fun q => absurd q (by decide), fun _ => ⟨fun _ => ?_, fun q => absurd rfl q⟩⟩⟩⟩⟩
    refine J.run csX3_count 20 [] ?_
    refine J.callRV [] R1 (c_X1_agreeingHours (z := z) hok) kX1_agreeingHours mRX3_150 dX3_count_92 (by decide) rfl rfl rfl (Nat.le_of_ble_eq_true rfl) (i0 := 0) rfl (ci := 1) rfl rfl ?_
    refine J.run csX3_count 5 [] ?_
    exact hΦ.f h rfl rfl
  · refine J.run csX3_count 2 [(56, 2), (64, 2), (72, 2), (80, 2), (88, 2), (96, 2), (104, 2), (112, 2), (120, 2)] ?_
    refine ⟨fun q => absurd q (by decide), fun _ => ⟨fun q => absurd q (by decide), fun _ => ⟨fun q => absurd q (by decide), fun _ => ⟨fun q => absurd q (by decide), fun _ => ⟨fun q => absurd q (by decide), fun _ => ⟨fun _ => ?_, fun q => absurd rfl q⟩⟩⟩⟩⟩⟩
    refine J.run csX3_count 20 [] ?_
    refine J.callRV [] R1 (c_X1_sacksWaiting hok hz) kX1_sacksWaiting mRX3_198 dX3_count_100 (by decide) rfl rfl rfl (Nat.le_of_ble_eq_true rfl) (i0 := 0) rfl (ci := 1) rfl rfl ?_
    refine J.run csX3_count 5 [] ?_
    exact hΦ.f h rfl rfl
  · refine J.run csX3_count 2 [(56, 2), (64, 2), (72, 2), (80, 2), (88, 2), (96, 2), (104, 2), (112, 2), (120, 2)] ?_
    refine ⟨fun q => absurd q (by decide), fun _ => ⟨fun q => absurd q (by decide), fun _ => ⟨fun q => absurd q (by decide), fun _ => ⟨fun q => absurd q (by decide), fun _ => ⟨fun q => absurd q (by decide), fun _ => ⟨fun q => absurd q (by decide), fun _ => ⟨fun _ => ?_, fun q => absurd rfl q⟩⟩⟩⟩⟩⟩⟩
    refine J.run csX3_count 20 [] ?_
    refine J.callRV [] R1 (c_X1_flourOfAll (A := S.1) (z := z)) kX1_flourOfAll mRX3_199 dX3_count_108 (by decide) rfl rfl rfl (Nat.le_of_ble_eq_true rfl) (i0 := 0) rfl (ci := 1) rfl rfl ?_
    refine J.run csX3_count 5 [] ?_
    exact hΦ.f h rfl rfl
  · refine J.run csX3_count 2 [(56, 2), (64, 2), (72, 2), (80, 2), (88, 2), (96, 2), (104, 2), (112, 2), (120, 2)] ?_
    refine ⟨fun q => absurd q (by decide), fun _ => ⟨fun q => absurd q (by decide), fun _ => ⟨fun q => absurd q (by decide), fun _ => ⟨fun q => absurd q (by decide), fun _ => ⟨fun q => absurd q (by decide), fun _ => ⟨fun q => absurd q (by decide), fun _ => ⟨fun q => absurd q (by decide), fun _ => ⟨fun _ => ?_, fun q => absurd rfl q⟩⟩⟩⟩⟩⟩⟩⟩
    refine J.run csX3_count 20 [] ?_
    exact hΦ.f h rfl rfl
  · refine J.run csX3_count 2 [(56, 2), (64, 2), (72, 2), (80, 2), (88, 2), (96, 2), (104, 2), (112, 2), (120, 2)] ?_
    refine ⟨fun q => absurd q (by decide), fun _ => ⟨fun q => absurd q (by decide), fun _ => ⟨fun q => absurd q (by decide), fun _ => ⟨fun q => absurd q (by decide), fun _ => ⟨fun q => absurd q (by decide), fun _ => ⟨fun q => absurd q (by decide), fun _ => ⟨fun q => absurd q (by decide), fun _ => ⟨fun q => absurd q (by decide), fun _ => ?_⟩⟩⟩⟩⟩⟩⟩⟩
    refine J.run csX3_count 20 [] ?_
    exact hΦ.f h (by rw [hsc]; rfl) rfl
theorem c_X3_count {S : aS} {K : cK} {y : j_H} (h : cRel S K) (a : Int32) : Ct MX3_count 1 6 [.ref 0, .int a] (clw K y) (cQ eA eI y (rCount S a)) := by
  refine Ct.of rfl rfl (by decide +kernel) rfl (Nat.le_of_ble_eq_true rfl) ?_
  refine J.run csX3_count 5 [] ?_
  refine J.ckR 0 8 rfl kX3_needRange mRX3_49 dX3_count_4 (by decide) (Nat.le_of_ble_eq_true rfl) ⟨rfl, rfl, by decide⟩ (fun q => cQ_1 h (if_pos q)) (fun w _ hw eb q2 => ?_)
  have er : rCount S a = (0, S, coV S w) := by
    unfold rCount
    rw [if_neg q2, eb, cN_n (by omega)]
  subst eb
  exact b_X3_count h hw (fun K hK => cQ_L er hK)
theorem c_X3_count0 {S : aS} {K : cK} {y : j_H} (h : cRel S K) {w : Nat} (hw : w ≤ 8) : Ct MX3_count 0 0 [.ref 0, .int (nI w)] (clw K y) (cL S y (coV S w)) := by
  refine Ct.of rfl rfl (by decide +kernel) rfl (Nat.le_of_ble_eq_true rfl) ?_
  refine J.run csX3_count 5 [] ?_
  refine J.okR kX3_needRange mRX3_49 dX3_count_4 (by decide) (Nat.le_of_ble_eq_true rfl) (nout (Nat.zero_le _) hw (by decide)) ?_
  exact b_X3_count h hw (fun K hK => cL_L hK)
theorem b_X3_setting {Φ : j_F} {S : aS} {K : cK} {y : j_H} (h : cRel S K) {i : Nat} (hi : i < 2) (hΦ : hE Φ S y (nI (v_se S.1 i))) : J MX3_setting Φ 0 0 5 [(0, .ref 0), (1, .int (nI i))] [] (clw K y) := by
  obtain ⟨⟨A, z⟩, c, r, sl, sv⟩ := K
  have hA : A = S.1 := h.1.1
  subst hA
  refine J.run csX3_setting 20 [] ?_
  refine ⟨vp_n hi (by decide), ?_⟩
  exact hΦ.f h (by show nI (v_se S.1 (nI i).toNatClampNeg) = nI (v_se S.1 i); rw [cl_n (by omega)]) rfl
theorem c_X3_setting {S : aS} {K : cK} {y : j_H} (h : cRel S K) (a : Int32) : Ct MX3_setting 1 6 [.ref 0, .int a] (clw K y) (cQ eI eA y (rSetting S a)) := by
  refine Ct.of rfl rfl (by decide +kernel) rfl (Nat.le_of_ble_eq_true rfl) ?_
  refine J.run csX3_setting 5 [] ?_
  refine J.ckI 2 rfl kX3_needIndex mRX3_45 dX3_setting_2 (by decide) (Nat.le_of_ble_eq_true rfl) ⟨rfl, by decide⟩ (fun q => cQ_1 h (if_pos q)) (fun i hi ea q1 => ?_)
  have er : rSetting S a = (0, S, nI (v_se S.1 i)) := by
    unfold rSetting
    rw [if_neg q1, ea, cN_n (by omega)]
  subst ea
  exact b_X3_setting h hi (fun K hK => cQ_L er hK)
theorem c_X3_setting0 {S : aS} {K : cK} {y : j_H} (h : cRel S K) {i : Nat} (hi : i < 2) : Ct MX3_setting 0 0 [.ref 0, .int (nI i)] (clw K y) (cL S y (nI (v_se S.1 i))) := by
  refine Ct.of rfl rfl (by decide +kernel) rfl (Nat.le_of_ble_eq_true rfl) ?_
  refine J.run csX3_setting 5 [] ?_
  refine J.okI kX3_needIndex mRX3_45 dX3_setting_2 (by decide) (Nat.le_of_ble_eq_true rfl) (nbad hi (by decide)) ?_
  exact b_X3_setting h hi (fun K hK => cL_L hK)
