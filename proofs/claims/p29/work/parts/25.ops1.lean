/-! The class's methods that change. -/
abbrev eI : String := "java/lang/IndexOutOfBoundsException"
abbrev eA : String := "java/lang/IllegalArgumentException"
abbrev eS : String := "java/lang/IllegalStateException"
theorem J.ckI {M : j_M} {Φ : j_F} {bc bs pc idx : Nat} {lv : j_L} {rest : List Value} {h : j_H} {a n9 : Int32} (n : Nat) (hh : jm_h M = []) (hk : j_kS MX3_needIndex 2) (hl : Cond.methodLink (jm_o M) idx (jm_y MX3_needIndex) ∈ j_ws) (hd : decode (jm_b M) pc = .ok (.invokestatic idx, 3)) (hR : jm_f MX3_needIndex + 1 ≤ jm_f M ∧ 8 + (jm_n MX3_needIndex + 11) + jm_l MX3_needIndex ≤ jm_l M)
    (hcat : (rest.map fun v => v.category).sum ≤ 8) (hn : n9 = nI n ∧ n < 2 ^ 31) (kE : (a < 0 ∨ nI n ≤ a) → Φ (.inr eI) h) (kk : ∀ i, i < n → a = nI i → ¬ (a < 0 ∨ nI n ≤ a) → J M Φ bc bs (pc + 3) lv rest h) : J M Φ (bc + 1) (bs + 6) pc lv (.int n9 :: .int a :: rest) h := by
  obtain ⟨rfl, hN⟩ := hn
  refine J.callS bc bs rest [] (as := [.int a, .int (nI n)]) (c_X3_needIndex a (nI n)) hk hl hd hR.1 hR.2 rfl rfl rfl hcat rfl rfl (Nat.le_refl _) (Nat.le_refl _) ?_ ?_
  · rintro v h' ⟨hv, rfl⟩
    by_cases q : a < 0 ∨ nI n ≤ a
    · rw [if_pos q] at hv
      cases hv
    · rw [if_neg q] at hv
      cases hv
      refine ⟨rfl, ?_⟩
      rcases pk_ix a hN with w | w | ⟨j, hj, w⟩
      · exact absurd (Or.inl w) q
      · exact absurd (Or.inr w) q
      · exact kk j hj w q
  · rintro E h' ⟨hv, rfl⟩
    by_cases q : a < 0 ∨ nI n ≤ a
    · rw [if_pos q] at hv
      cases hv
      exact ⟨rfl, JX.out hh (kE q)⟩
    · rw [if_neg q] at hv
      cases hv
theorem rng {v : Int32} {a b : Nat} (hab : a ≤ b ∧ b + 1 < 2 ^ 31) (h : ¬ (v < nI a ∨ nI b < v)) : ∃ j, a ≤ j ∧ j ≤ b ∧ v = nI j := by
  rcases pk_ix v hab.2 with w | w | ⟨j, hj, rfl⟩
  · refine absurd (Or.inl (Int32.lt_of_lt_of_le w ?_)) h
    exact (n_le (a := 0) (by decide) (by omega)).mpr (Nat.zero_le a)
  · refine absurd (Or.inr (Int32.lt_of_lt_of_le ?_ w)) h
    exact (n_lt (by omega) (by omega)).mpr (Nat.lt_succ_self b)
  · rw [n_lt (by omega) (by omega), n_lt (by omega) (by omega)] at h
    exact ⟨j, by omega, by omega, rfl⟩
theorem J.ckR {M : j_M} {Φ : j_F} {bc bs pc idx : Nat} {lv : j_L} {rest : List Value} {h : j_H} {v a9 b9 : Int32} (a b : Nat) (hh : jm_h M = []) (hk : j_kS MX3_needRange 3) (hl : Cond.methodLink (jm_o M) idx (jm_y MX3_needRange) ∈ j_ws) (hd : decode (jm_b M) pc = .ok (.invokestatic idx, 3)) (hR : jm_f MX3_needRange + 1 ≤ jm_f M ∧ 8 + (jm_n MX3_needRange + 11) + jm_l MX3_needRange ≤ jm_l M)
    (hcat : (rest.map fun v => v.category).sum ≤ 8) (hn : a9 = nI a ∧ b9 = nI b ∧ a ≤ b ∧ b + 1 < 2 ^ 31) (kE : (v < nI a ∨ nI b < v) → Φ (.inr eA) h) (kk : ∀ j, a ≤ j → j ≤ b → v = nI j → ¬ (v < nI a ∨ nI b < v) → J M Φ bc bs (pc + 3) lv rest h) : J M Φ (bc + 1) (bs + 6) pc lv (.int b9 :: .int a9 :: .int v :: rest) h := by
  obtain ⟨rfl, rfl, hN⟩ := hn
  refine J.callS bc bs rest [] (as := [.int v, .int (nI a), .int (nI b)]) (c_X3_needRange v (nI a) (nI b)) hk hl hd hR.1 hR.2 rfl rfl rfl hcat rfl rfl (Nat.le_refl _) (Nat.le_refl _) ?_ ?_
  · rintro v9 h' ⟨hv, rfl⟩
    by_cases q : v < nI a ∨ nI b < v
    · rw [if_pos q] at hv
      cases hv
    · rw [if_neg q] at hv
      cases hv
      refine ⟨rfl, ?_⟩
      obtain ⟨j, h1, h2, h3⟩ := rng hN q
      exact kk j h1 h2 h3 q
  · rintro E h' ⟨hv, rfl⟩
    by_cases q : v < nI a ∨ nI b < v
    · rw [if_pos q] at hv
      cases hv
      exact ⟨rfl, JX.out hh (kE q)⟩
    · rw [if_neg q] at hv
      cases hv
/-- what comes of a call: which exception, or none; what is then; the answer -/
abbrev aR : Type := Nat × aS × Int32
def cQ (E1 E2 : String) (y : j_H) (r : aR) : j_F := fun o h' => o = (if r.1 = 1 then .inr E1 else if r.1 = 2 then .inr E2 else .inl (some (.int r.2.2))) ∧ ∃ K, cRel r.2.1 K ∧ h' = clw K y
abbrev cN (x : Int32) : Nat := x.toNatClampNeg
def sW (S : aS) (A : aV) : aS := (A, S.2)
theorem cQ_1 {E1 E2 : String} {y : j_H} {r : aR} {S : aS} {K : cK} (hK : cRel S K) (e : r = (1, S, 0)) : cQ E1 E2 y r (.inr E1) (clw K y) := by
  subst e
  exact ⟨rfl, K, hK, rfl⟩
theorem cQ_2 {E1 E2 : String} {y : j_H} {r : aR} {S : aS} {K : cK} (hK : cRel S K) (e : r = (2, S, 0)) : cQ E1 E2 y r (.inr E2) (clw K y) := by
  subst e
  exact ⟨rfl, K, hK, rfl⟩
theorem cQ_0 {E1 E2 : String} {y : j_H} {r : aR} {S : aS} {K : cK} {v w : Int32} {h' : j_H} (e : r = (0, S, v)) (hK : cRel S K) (ev : w = v) (eh : h' = clw K y) : cQ E1 E2 y r (.inl (some (.int w))) h' := by
  subst e ev eh
  exact ⟨rfl, K, hK, rfl⟩
/-- the world with these cells of the village -/
def clv (v : j_H) (c : Nat × Nat × Nat) (r : (Nat → Int32) × (Nat → Int32) × (Nat → Int32)) (X : j_H) : j_H :=
  (.inr (3, [.ref 1, .ref 25, .ref 26, .ref 27, .int (nI c.1), .int (nI c.2.1), .ref 28, .ref 30]) :: (v.map (j_rc (j_f R1)) ++ [.inl (5, 2, .inr (.inr (.inr (.inr slq)))), .inl (2, 2, .inl r.1), .inl (5, 6, .inr (.inr (.inr (.inr svq)))), .inr (2, [.ref 29, .int (nI c.2.2)]), .inl (0, 60, .inl r.2.1), .inl (0, 24, .inl r.2.2)])) ++ X
theorem clw_len (K : cK) (y : j_H) : (clw K y).length = 223 + y.length := by
  unfold clw cX
  simp only [List.length_append]
  rw [show (clp K.1 K.2.1 K.2.2.1).length = 31 from rfl]
  rw [show ∀ q B, (blk q B).length = 24 from fun q B => rfl, show ∀ q B, (blk q B).length = 24 from fun q B => rfl]
  simp only [show ∀ q B, (blk q B).length = 24 from fun q B => rfl]
  omega
/-- the state is saved: then the village is what it was -/
theorem J.save {M : j_M} {Φ : j_F} {bc bs pc idx : Nat} {lv : j_L} {st : List Value} (rest : List Value) {S : aS} {K : cK} {y : j_H} (h : cRel S K) (hk : j_kV MX3_saveState 0) (hl : Cond.methodLink (jm_o M) idx (jm_y MX3_saveState) ∈ j_ws) (hd : decode (jm_b M) pc = .ok (.invokevirtual idx, 3)) (hR : jm_f MX3_saveState + 1 ≤ jm_f M ∧ 8 + (jm_n MX3_saveState + 11) + jm_l MX3_saveState ≤ jm_l M) (hst : st = .ref 0 :: rest) (hcat : (rest.map fun v => v.category).sum ≤ 8)
    (k : ∀ (z : vS) (c : Nat × Nat × Nat) (r : (Nat → Int32) × (Nat → Int32) × (Nat → Int32)) (sl sv : Nat → vZ), cRel (sS S) ((S.1, z), c, r, sl, sv) → J M Φ bc bs (pc + 3) lv rest (clv (vil S.1 z) c r (cX sl sv y))) : J M Φ bc bs pc lv st (clw K y) := by
  subst hst
  refine J.callVI bc bs rest (as := []) (c_X3_saveState h) hk hl hd hR.1 hR.2 rfl rfl rfl hcat (i0 := 0) rfl (ci := 3) rfl rfl (Nat.le_refl _) (Nat.le_refl _) ?_ ?_
  · rintro v h' ⟨hv, rfl⟩
    cases hv
    refine ⟨by rw [clw_len, clw_len], ?_⟩
    have hr := kS_rel h
    generalize kS K = K' at hr ⊢
    obtain ⟨⟨A, z⟩, c, r, sl, sv⟩ := K'
    have e : A = S.1 := hr.1.1
    subst e
    exact k z c r sl sv hr
  · rintro E9 h' ⟨hv, -⟩
    cases hv
/-- the same saved states with another village -/
theorem cRel_w {S : aS} {A A' : aV} {z z' : vS} {c : Nat × Nat × Nat} {r : (Nat → Int32) × (Nat → Int32) × (Nat → Int32)} {sl sv : Nat → vZ} (h : cRel S ((A, z), c, r, sl, sv)) (hA : vOk A') (hz : vRel A' z') : cRel (sW S A') ((A', z'), c, r, sl, sv) := ⟨⟨rfl, hA, hz⟩, h.2⟩
theorem cN_n {n : Nat} (h : n < 2 ^ 31) : cN (nI n) = n := nI_clamp h
/-- a village's cells with other rows -/
def vlg (A : aV) (re : Int32) (sd sg : Nat → Int32) (vn : Nat → Nat → Int32) (se : Nat → Int32) (ml : Nat → mC) (br tk : Nat → Int32) : j_H := vilr (nI (v_ho A)) (nI (v_go A)) (nI (v_tu A)) re sd sg vn se ml (fun k => nI (v_fl A k)) br tk
def rWind (S : aS) (a b c : Int32) : aR := if a < 0 ∨ nI 24 ≤ a then (1, S, 0) else if (b < nI 0 ∨ nI 7 < b) ∨ (c < nI 0 ∨ nI 9 < c) then (2, S, 0) else (0, sW (sS S) (swd S.1 (cN a) (cN b) (cN c)), nI (10 * v_sd S.1 (cN a) + v_sg S.1 (cN a)))
theorem c_X3_wind {S : aS} {K : cK} {y : j_H} (h : cRel S K) (a b c : Int32) : Ct MX3_wind 3 18 [.ref 0, .int a, .int b, .int c] (clw K y) (cQ eI eA y (rWind S a b c)) := by
  refine Ct.of rfl rfl (by decide +kernel) rfl (Nat.le_of_ble_eq_true rfl) ?_
  refine J.run csX3_wind 5 [] ?_
  refine J.ckI 24 rfl kX3_needIndex mRX3_45 dX3_wind_3 (by decide) (Nat.le_of_ble_eq_true rfl) ⟨rfl, by decide⟩ (fun q => cQ_1 h (if_pos q)) (fun i hi ea q1 => ?_)
  refine J.run csX3_wind 5 [] ?_
  refine J.ckR 0 7 rfl kX3_needRange mRX3_49 dX3_wind_10 (by decide) (Nat.le_of_ble_eq_true rfl) ⟨rfl, rfl, by decide⟩ (fun q => cQ_2 h ((if_neg q1).trans (if_pos (Or.inl q)))) (fun j _ hj eb q2 => ?_)
  refine J.run csX3_wind 5 [] ?_
  refine J.ckR 0 9 rfl kX3_needRange mRX3_49 dX3_wind_17 (by decide) (Nat.le_of_ble_eq_true rfl) ⟨rfl, rfl, by decide⟩ (fun q => cQ_2 h ((if_neg q1).trans (if_pos (Or.inr q)))) (fun k _ hk ec q3 => ?_)
  have er : rWind S a b c = (0, sW (sS S) (swd S.1 i j k), nI (10 * v_sd S.1 i + v_sg S.1 i)) := by
    unfold rWind
    rw [if_neg q1, if_neg (by rintro (w | w); exact q2 w; exact q3 w), ea, eb, ec, cN_n (by omega), cN_n (by omega), cN_n (by omega)]
  refine J.run csX3_wind 5 [] ?_
  refine J.save [] h kX3_saveState mRX3_53 dX3_wind_21 (by decide) rfl (Nat.le_of_ble_eq_true rfl) (fun z c' r sl sv hr => ?_)
  subst ea eb ec
  refine J.run csX3_wind 60 [] ?_
  refine ⟨vp_n hi (by decide), vp_n hi (by decide), vp_n hi (by decide), vp_n hi (by decide), ?_⟩
  have hA := h.1.2.1
  refine cQ_0 er (cRel_w hr (swd_ok hA (by omega) (by omega)) hr.1.2.2) ?_ ?_
  · show nI 10 * nI (v_sd S.1 (nI i).toNatClampNeg) + nI (v_sg S.1 (nI i).toNatClampNeg) = _
    rw [cl_n (by omega), n_mul, nI_add]
  · have e : vlg S.1 (nI (v_re S.1)) (upd (fun k => nI (v_sd S.1 k)) (nI i).toNatClampNeg (nI j)) (upd (fun k => nI (v_sg S.1 k)) (nI i).toNatClampNeg (nI k)) (fun i k => nI (v_vn S.1 i k)) (fun k => nI (v_se S.1 k)) (mCo S.1 z) (fun k => nI (v_br S.1 k)) (fun k => nI (v_tk S.1 k)) = vil (swd S.1 i j k) z := by
      rw [← upd_nI (f := v_sd S.1) (by omega) rfl, ← upd_nI (f := v_sg S.1) (by omega) rfl]
      rfl
    exact congrArg (fun v => clv v c' r (cX sl sv y)) e
/-- a vane's number -/
def svn (A : aV) (i w x : Nat) : aV := (A.1, v_sd A, v_sg A, (fun j k => if j = i then (if k = w then x else v_vn A j k) else v_vn A j k), v_se A, v_ml A, v_fl A, v_br A, v_tk A)
def vmx (w : Nat) : Nat := match w with
  | 0 => 7
  | 1 => 4
  | 2 => 9
  | _ => 1
theorem vmx_j {w : Nat} (h : w < 4) : j_vm (nI w).toNatClampNeg = nI (vmx w) := by
  have : ∀ w, w < 4 → j_vm (nI w).toNatClampNeg = nI (vmx w) := by decide +kernel
  exact this w h
theorem vmx_le (w : Nat) : vmx w ≤ 9 := by
  unfold vmx
  split <;> decide
theorem svn_ok {A : aV} (hA : vOk A) {i w x : Nat} (hw : w < 4) (hx : x ≤ vmx w) : vOk (svn A i w x) := by
  obtain ⟨h1, h2, h3, h4, h5⟩ := hA
  refine ⟨h1, h2, h3, fun j hj => ?_, h5⟩
  have h4 := h4 j hj
  show (if j = i then (if 0 = w then x else v_vn A j 0) else v_vn A j 0) < 8 ∧ (if j = i then (if 1 = w then x else v_vn A j 1) else v_vn A j 1) < 5 ∧ (if j = i then (if 2 = w then x else v_vn A j 2) else v_vn A j 2) < 10 ∧ (if j = i then (if 3 = w then x else v_vn A j 3) else v_vn A j 3) < 2
  by_cases q : j = i
  · rw [if_pos q, if_pos q, if_pos q, if_pos q]
    have hc : w = 0 ∨ w = 1 ∨ w = 2 ∨ w = 3 := by omega
    rcases hc with rfl | rfl | rfl | rfl
    · have hx : x ≤ 7 := hx
      rw [if_pos rfl, if_neg (by decide), if_neg (by decide), if_neg (by decide)]
      omega
    · have hx : x ≤ 4 := hx
      rw [if_pos rfl, if_neg (by decide), if_neg (by decide), if_neg (by decide)]
      omega
    · have hx : x ≤ 9 := hx
      rw [if_pos rfl, if_neg (by decide), if_neg (by decide), if_neg (by decide)]
      omega
    · have hx : x ≤ 1 := hx
      rw [if_pos rfl, if_neg (by decide), if_neg (by decide), if_neg (by decide)]
      omega
  · rw [if_neg q, if_neg q, if_neg q, if_neg q]
    exact h4
def rVane (S : aS) (a b c : Int32) : aR := if a < 0 ∨ nI 6 ≤ a then (1, S, 0) else if b < nI 0 ∨ nI 3 < b then (2, S, 0) else if c < nI 0 ∨ nI (vmx (cN b)) < c then (2, S, 0) else (0, sW (sS S) (svn S.1 (cN a) (cN b) (cN c)), nI (v_vn S.1 (cN a) (cN b)))
theorem c_X3_vane {S : aS} {K : cK} {y : j_H} (h : cRel S K) (a b c : Int32) : Ct MX3_vane 3 18 [.ref 0, .int a, .int b, .int c] (clw K y) (cQ eI eA y (rVane S a b c)) := by
  refine Ct.of rfl rfl (by decide +kernel) rfl (Nat.le_of_ble_eq_true rfl) ?_
  refine J.run csX3_vane 5 [] ?_
  refine J.ckI 6 rfl kX3_needIndex mRX3_45 dX3_vane_3 (by decide) (Nat.le_of_ble_eq_true rfl) ⟨rfl, by decide⟩ (fun q => cQ_1 h (if_pos q)) (fun i hi ea q1 => ?_)
  refine J.run csX3_vane 5 [] ?_
  refine J.ckR 0 3 rfl kX3_needRange mRX3_49 dX3_vane_9 (by decide) (Nat.le_of_ble_eq_true rfl) ⟨rfl, rfl, by decide⟩ (fun q => cQ_2 h ((if_neg q1).trans (if_pos q))) (fun j _ hj eb q2 => ?_)
  subst eb
  have hm := vmx_le j
  have hb : cN (nI j) = j := cN_n (by omega)
  refine J.run csX3_vane 5 [] ?_
  refine ⟨vp_n (by omega) (by decide), ?_⟩
  refine J.ckR 0 (vmx j) rfl kX3_needRange mRX3_49 dX3_vane_19 (by decide) (Nat.le_of_ble_eq_true rfl) ⟨rfl, vmx_j (by omega), by omega⟩ (fun q => cQ_2 h ((if_neg q1).trans ((if_neg q2).trans (if_pos (by rw [hb]; exact q))))) (fun k _ hk ec q3 => ?_)
  have er : rVane S a (nI j) c = (0, sW (sS S) (svn S.1 i j k), nI (v_vn S.1 i j)) := by
    unfold rVane
    rw [if_neg q1, if_neg q2, hb, if_neg q3, ea, ec, cN_n (by omega), cN_n (by omega)]
  refine J.run csX3_vane 5 [] ?_
  refine J.save [] h kX3_saveState mRX3_53 dX3_vane_23 (by decide) rfl (Nat.le_of_ble_eq_true rfl) (fun z c' r sl sv hr => ?_)
  subst ea ec
  have hA := svn_ok (i := i) (x := k) h.1.2.1 (show j < 4 by omega) hk
  have R := fun z => cRel_w hr hA (z' := z)
  have hu : ∀ i, upd (fun k => nI (v_vn S.1 i k)) (nI j).toNatClampNeg (nI k) = fun w => nI (if w = j then k else v_vn S.1 i w) := fun i => (upd_nI (f := v_vn S.1 i) (by omega) rfl).symm
  have hv : ∀ i, nI (v_vn S.1 i (nI j).toNatClampNeg) = nI (v_vn S.1 i j) := fun i => by rw [cl_n (by omega)]
  have hc : i = 0 ∨ i = 1 ∨ i = 2 ∨ i = 3 ∨ i = 4 ∨ i = 5 := by omega
  have hj4 : j < 4 := by omega
  have hw : ∀ I, clv (vlg S.1 (nI (v_re S.1)) (fun k => nI (v_sd S.1 k)) (fun k => nI (v_sg S.1 k)) (fun j' => if j' = I then upd (fun k => nI (v_vn S.1 I k)) (nI j).toNatClampNeg (nI k) else fun k => nI (v_vn S.1 j' k)) (fun k => nI (v_se S.1 k)) (mCo S.1 z) (fun k => nI (v_br S.1 k)) (fun k => nI (v_tk S.1 k))) c' r (cX sl sv y) = clv (vlg S.1 (nI (v_re S.1)) (fun k => nI (v_sd S.1 k)) (fun k => nI (v_sg S.1 k)) (fun j' => if j' = I then (fun w => nI (if w = j then k else v_vn S.1 I w)) else fun k => nI (v_vn S.1 j' k)) (fun k => nI (v_se S.1 k)) (mCo S.1 z) (fun k => nI (v_br S.1 k)) (fun k => nI (v_tk S.1 k))) c' r (cX sl sv y) := fun I => by rw [hu I]
  rcases hc with rfl | rfl | rfl | rfl | rfl | rfl
  · refine J.run csX3_vane 60 [] ?_
    refine ⟨vp_n hi (by decide), vp_n hj4 (by decide), vp_n hi (by decide), vp_n hj4 (by decide), ?_⟩
    exact cQ_0 er (R z hr.1.2.2) (hv _) (hw 0)
  · refine J.run csX3_vane 60 [] ?_
    refine ⟨vp_n hi (by decide), vp_n hj4 (by decide), vp_n hi (by decide), vp_n hj4 (by decide), ?_⟩
    exact cQ_0 er (R z hr.1.2.2) (hv _) (hw 1)
  · refine J.run csX3_vane 60 [] ?_
    refine ⟨vp_n hi (by decide), vp_n hj4 (by decide), vp_n hi (by decide), vp_n hj4 (by decide), ?_⟩
    exact cQ_0 er (R z hr.1.2.2) (hv _) (hw 2)
  · refine J.run csX3_vane 60 [] ?_
    refine ⟨vp_n hi (by decide), vp_n hj4 (by decide), vp_n hi (by decide), vp_n hj4 (by decide), ?_⟩
    exact cQ_0 er (R z hr.1.2.2) (hv _) (hw 3)
  · refine J.run csX3_vane 60 [] ?_
    refine ⟨vp_n hi (by decide), vp_n hj4 (by decide), vp_n hi (by decide), vp_n hj4 (by decide), ?_⟩
    exact cQ_0 er (R z hr.1.2.2) (hv _) (hw 4)
  · refine J.run csX3_vane 60 [] ?_
    refine ⟨vp_n hi (by decide), vp_n hj4 (by decide), vp_n hi (by decide), vp_n hj4 (by decide), ?_⟩
    exact cQ_0 er (R z hr.1.2.2) (hv _) (hw 5)
/-- a mill's speed -/
def ssp (A : aV) (m x : Nat) : aV := (A.1, v_sd A, v_sg A, v_vn A, v_se A, (fun j => if j = m then (x, (v_ml A j).2) else v_ml A j), v_fl A, v_br A, v_tk A)
theorem ssp_ok {A : aV} (hA : vOk A) {m x : Nat} (hx : x ≤ 9) : vOk (ssp A m x) := by
  obtain ⟨h1, h2, h3, h4, h5, h6⟩ := hA
  refine ⟨h1, h2, h3, h4, h5, fun j hj => ?_⟩
  have h6 := h6 j hj
  show mOk (if j = m then (x, (v_ml A j).2) else v_ml A j)
  by_cases q : j = m
  · rw [if_pos q]
    exact ⟨hx, h6.2⟩
  · rw [if_neg q]
    exact h6
theorem ssp_rel {A : aV} {z : vS} (h : vRel A z) (m x : Nat) : vRel (ssp A m x) z := by
  intro j hj
  have := h j hj
  show mRel (m_lo (if j = m then (x, (v_ml A j).2) else v_ml A j)) _ _
  by_cases q : j = m
  · rw [if_pos q]
    exact this
  · rw [if_neg q]
    exact this
def rMill (S : aS) (a b : Int32) : aR := if a < 0 ∨ nI 3 ≤ a then (1, S, 0) else if b < nI 0 ∨ nI 9 < b then (2, S, 0) else (0, sW (sS S) (ssp S.1 (cN a) (cN b)), nI (m_sp (v_ml S.1 (cN a))))
theorem c_X3_mill {S : aS} {K : cK} {y : j_H} (h : cRel S K) (a b : Int32) : Ct MX3_mill 2 12 [.ref 0, .int a, .int b] (clw K y) (cQ eI eA y (rMill S a b)) := by
  refine Ct.of rfl rfl (by decide +kernel) rfl (Nat.le_of_ble_eq_true rfl) ?_
  refine J.run csX3_mill 5 [] ?_
  refine J.ckI 3 rfl kX3_needIndex mRX3_45 dX3_mill_2 (by decide) (Nat.le_of_ble_eq_true rfl) ⟨rfl, by decide⟩ (fun q => cQ_1 h (if_pos q)) (fun i hi ea q1 => ?_)
  refine J.run csX3_mill 5 [] ?_
  refine J.ckR 0 9 rfl kX3_needRange mRX3_49 dX3_mill_9 (by decide) (Nat.le_of_ble_eq_true rfl) ⟨rfl, rfl, by decide⟩ (fun q => cQ_2 h ((if_neg q1).trans (if_pos q))) (fun j _ hj eb q2 => ?_)
  have er : rMill S a b = (0, sW (sS S) (ssp S.1 i j), nI (m_sp (v_ml S.1 i))) := by
    unfold rMill
    rw [if_neg q1, if_neg q2, ea, eb, cN_n (by omega), cN_n (by omega)]
  refine J.run csX3_mill 5 [] ?_
  refine J.save [] h kX3_saveState mRX3_53 dX3_mill_13 (by decide) rfl (Nat.le_of_ble_eq_true rfl) (fun z c' r sl sv hr => ?_)
  subst ea eb
  have R := cRel_w hr (ssp_ok (m := i) (x := j) h.1.2.1 hj) (ssp_rel hr.1.2.2 i j)
  have hc : i = 0 ∨ i = 1 ∨ i = 2 := by omega
  rcases hc with rfl | rfl | rfl
  all_goals
    refine J.run csX3_mill 60 [] ?_
    refine ⟨vp_n hi (by decide), vp_n hi (by decide), ?_⟩
    exact cQ_0 er R rfl rfl
/-- a setting -/
def sst (A : aV) (s x : Nat) : aV := (A.1, v_sd A, v_sg A, v_vn A, (fun k => if k = s then x else v_se A k), v_ml A, v_fl A, v_br A, v_tk A)
theorem sst_ok {A : aV} (hA : vOk A) {s x : Nat} (hs : s < 2) (h1 : 1 - s ≤ x) (h2 : x ≤ (if s = 0 then 6 else 1)) : vOk (sst A s x) := by
  obtain ⟨g1, g2, g3, g4, g5, g6⟩ := hA
  refine ⟨g1, g2, g3, g4, ?_, g6⟩
  show 1 ≤ (if 0 = s then x else v_se A 0) ∧ (if 0 = s then x else v_se A 0) ≤ 6 ∧ (if 1 = s then x else v_se A 1) ≤ 1
  have hc : s = 0 ∨ s = 1 := by omega
  rcases hc with rfl | rfl
  · have h2 : x ≤ 6 := h2
    rw [if_pos rfl, if_neg (by decide)]
    omega
  · have h2 : x ≤ 1 := h2
    rw [if_neg (by decide), if_pos rfl]
    omega
def rSet (S : aS) (a b : Int32) : aR := if a < 0 ∨ nI 2 ≤ a then (1, S, 0) else if b < nI (1 - cN a) ∨ nI (if cN a = 0 then 6 else 1) < b then (2, S, 0) else (0, sW (sS S) (sst S.1 (cN a) (cN b)), nI (v_se S.1 (cN a)))
theorem c_X3_set {S : aS} {K : cK} {y : j_H} (h : cRel S K) (a b : Int32) : Ct MX3_set 2 12 [.ref 0, .int a, .int b] (clw K y) (cQ eI eA y (rSet S a b)) := by
  refine Ct.of rfl rfl (by decide +kernel) rfl (Nat.le_of_ble_eq_true rfl) ?_
  refine J.run csX3_set 5 [] ?_
  refine J.ckI 2 rfl kX3_needIndex mRX3_45 dX3_set_2 (by decide) (Nat.le_of_ble_eq_true rfl) ⟨rfl, by decide⟩ (fun q => cQ_1 h (if_pos q)) (fun i hi ea q1 => ?_)
  subst ea
  have ha : cN (nI i) = i := cN_n (by omega)
  have e1 : ∀ i, i < 2 → j_sl (nI i).toNatClampNeg = nI (1 - i) ∧ j_sm (nI i).toNatClampNeg = nI (if i = 0 then 6 else 1) := by decide +kernel
  refine J.run csX3_set 5 [] ?_
  refine ⟨vp_n hi (by decide), vp_n hi (by decide), ?_⟩
  refine J.ckR (1 - i) (if i = 0 then 6 else 1) rfl kX3_needRange mRX3_49 dX3_set_16 (by decide) (Nat.le_of_ble_eq_true rfl) ⟨(e1 i hi).1, (e1 i hi).2, by split <;> omega⟩ (fun q => cQ_2 h ((if_neg q1).trans (if_pos (by rw [ha]; exact q)))) (fun j hj1 hj eb q2 => ?_)
  have er : rSet S (nI i) b = (0, sW (sS S) (sst S.1 i j), nI (v_se S.1 i)) := by
    unfold rSet
    rw [if_neg q1, ha, if_neg q2, eb, cN_n (by split at hj <;> omega)]
  refine J.run csX3_set 5 [] ?_
  refine J.save [] h kX3_saveState mRX3_53 dX3_set_20 (by decide) rfl (Nat.le_of_ble_eq_true rfl) (fun z c' r sl sv hr => ?_)
  subst eb
  have R := cRel_w (z' := z) hr (sst_ok h.1.2.1 hi hj1 hj) hr.1.2.2
  refine J.run csX3_set 60 [] ?_
  refine ⟨vp_n hi (by decide), vp_n hi (by decide), ?_⟩
  refine cQ_0 er R ?_ ?_
  · show nI (v_se S.1 (nI i).toNatClampNeg) = _
    rw [cl_n (by omega)]
  · have e : vlg S.1 (nI (v_re S.1)) (fun k => nI (v_sd S.1 k)) (fun k => nI (v_sg S.1 k)) (fun i k => nI (v_vn S.1 i k)) (upd (fun k => nI (v_se S.1 k)) (nI i).toNatClampNeg (nI j)) (mCo S.1 z) (fun k => nI (v_br S.1 k)) (fun k => nI (v_tk S.1 k)) = vil (sst S.1 i j) z := by
      rw [← upd_nI (f := v_se S.1) (by omega) rfl]
      rfl
    exact congrArg (fun v => clv v c' r (cX sl sv y)) e
