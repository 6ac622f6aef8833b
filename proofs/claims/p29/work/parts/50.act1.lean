/-! act: its pieces. -/
abbrev aLv (x y : Int32) (t : j_L) : j_L := (0, .ref 5) :: (1, .int x) :: (2, .int y) :: (3, .ref 0) :: (4, .ref 1) :: (5, .ref 2) :: (6, .ref 3) :: (7, .ref 4) :: t
def acQ (S : aS) : j_F := fun u w => u = .inl (some (.int 1)) ∧ ∃ S' K h v g l o, cRel S' K ∧ R5 S'.1 h v g l o ∧ v_go S'.1 ≤ v_go S.1 + 99 ∧ w = LW h v g l o (clA K ++ [])
theorem J.low {M : j_M} {Φ : j_F} {bc bs pc idx : Nat} {lv : j_L} {x n9 : Int32} {h : j_H} (n : Nat) (h0 : 0 < n) (hn : n < 2 ^ 31) (rest : List Value) (e9 : n9 = nI n) (hk : j_kS ML_low 2) (hl : Cond.methodLink (jm_o M) idx (jm_y ML_low) ∈ j_ws) (hd : decode (jm_b M) pc = .ok (.invokestatic idx, 3)) (hR : jm_f ML_low + 1 ≤ jm_f M ∧ 8 + (jm_n ML_low + 11) + jm_l ML_low ≤ jm_l M) (hcat : (rest.map fun v => v.category).sum ≤ 8)
    (k : ∀ r, r < n → J M Φ bc bs (pc + 3) lv (.int (nI r) :: rest) h) : J M Φ bc bs pc lv (.int n9 :: .int x :: rest) h := by
  subst e9
  refine J.callS bc bs rest [] (c_L_low x h0 hn) hk hl hd hR.1 hR.2 rfl rfl rfl hcat rfl rfl (Nat.le_refl _) (Nat.le_refl _) ?_ ?_
  · rintro v h' ⟨⟨r, hr, hv⟩, rfl⟩
    cases hv
    exact ⟨rfl, k r hr⟩
  · rintro E h' ⟨⟨r, hr, hv⟩, -⟩
    cases hv
theorem cg4 {α β γ δ ε : Type} (f : α → β → γ → δ → ε) {a a' : α} {b b' : β} {c c' : γ} {d d' : δ} (h1 : a = a') (h2 : b = b') (h3 : c = c') (h4 : d = d') : f a b c d = f a' b' c' d' := by rw [h1, h2, h3, h4]
/-- a wind is changed -/
theorem act_wind {S : aS} {K : cK} {h v g l o : Nat → Int32} {x y how : Int32} (hK : cRel S K) (hR0 : R5 S.1 h v g l o) : J ML_act (acQ S) 20 120 14 (aLv x y [(8, .int how)]) [] (LW h v g l o (clA K ++ [])) := by
  obtain ⟨hh, hv, hg, hl, ho⟩ := hR0
  refine J.run csL_act_0 5 [] ?_
  refine J.low 24 (by decide) (by decide) [] rfl kL_low mRL_109 dL_act_17 ⟨Nat.le_of_ble_eq_true rfl, Nat.le_of_ble_eq_true rfl⟩ (Nat.le_of_ble_eq_true rfl) (fun a ha => ?_)
  obtain ⟨s, hs, es⟩ := pk_andE (y >>> ((5 : Int32) &&& 31)) (m := 7) 3 (by decide)
  have hs : s < 8 := hs
  have i0 : nI 2 * nI a = nI (2 * a) := n_mul 2 a
  have i1 : nI 2 * nI a + nI 1 = nI (2 * a + 1) := by rw [i0, nI_add]
  have x0 : vp_in (nI 2 * nI a) 48 := by rw [i0]; exact vp_n (by omega) (by decide)
  have x1 : vp_in (nI 2 * nI a + nI 1) 48 := by rw [i1]; exact vp_n (by omega) (by decide)
  have c0 : (nI 2 * nI a).toNatClampNeg = 2 * a := by rw [i0, cl_n (by omega)]
  have c1 : (nI 2 * nI a + nI 1).toNatClampNeg = 2 * a + 1 := by rw [i1, cl_n (by omega)]
  refine J.run csL_act_0 60 [] ?_
  refine ⟨x0, x1, x0, ?_⟩
  refine J.low 10 (by decide) (by decide) [.int (nI 2 * nI a + nI 1), .ref 0] rfl kL_low mRL_109 dL_act_67 ⟨Nat.le_of_ble_eq_true rfl, Nat.le_of_ble_eq_true rfl⟩ (Nat.le_of_ble_eq_true rfl) (fun t ht => ?_)
  refine J.run csL_act_70 30 [] ?_
  refine ⟨x1, x0, x1, ?_⟩
  have eH : upd (upd h (2 * a) (nI s)) (2 * a + 1) (nI t) = upd (upd h (nI 2 * nI a).toNatClampNeg ((y >>> ((5 : Int32) &&& 31)) &&& 7)) (nI 2 * nI a + nI 1).toNatClampNeg (nI t) := by rw [c0, c1, es]
  have e10 : nI (10 * v_sd S.1 a + v_sg S.1 a) = nI 10 * h (nI 2 * nI a).toNatClampNeg + h (nI 2 * nI a + nI 1).toNatClampNeg := by rw [c0, c1, (hh a ha).1, (hh a ha).2, n_mul, nI_add]
  have e1 : nI t = upd (upd h (nI 2 * nI a).toNatClampNeg ((y >>> ((5 : Int32) &&& 31)) &&& 7)) (nI 2 * nI a + nI 1).toNatClampNeg (nI t) (nI 2 * nI a + nI 1).toNatClampNeg := pk_us.symm
  have e2 : nI s = upd (upd h (nI 2 * nI a).toNatClampNeg ((y >>> ((5 : Int32) &&& 31)) &&& 7)) (nI 2 * nI a + nI 1).toNatClampNeg (nI t) (nI 2 * nI a).toNatClampNeg := by rw [← eH, c0, pk_un (by omega), pk_us]
  refine J.cast (lv := aLv x y [(8, .int how), (9, .int (nI a)), (10, .int (nI (10 * v_sd S.1 a + v_sg S.1 a)))]) (st := [.int (nI t), .int (nI s), .int (nI a), .ref 5]) (h := LW (upd (upd h (2 * a) (nI s)) (2 * a + 1) (nI t)) v g l o (clA K ++ [])) ?_ (congrArg (fun x9 : Int32 => aLv x y [(8, .int how), (9, .int (nI a)), (10, .int x9)]) e10) (cg2 (fun x8 x9 : Int32 => ([.int x8, .int x9, .int (nI a), .ref 5] : List Value)) e1 e2) (congrArg (fun H : Nat → Int32 => LW H v g l o (clA K ++ [])) eH)
  have hR1 := hR_swd (s := s) (t := t) hh ha
  obtain ⟨S1, hS1⟩ : ∃ S1, S1 = sW (sS S) (swd S.1 a s t) := ⟨_, rfl⟩
  have hC9 := c_L_wind hK (nI a) (nI s) (nI t)
  rw [rWind_ok S ha hs ht, ← hS1] at hC9
  refine J.clH 17 102 [] (r := (0, S1, nI (10 * v_sd S.1 a + v_sg S.1 a))) (c1 := nI (10 * v_sd S.1 a + v_sg S.1 a)) hC9 kL_wind mRL_112 dL_act_88 ⟨Nat.le_of_ble_eq_true rfl, Nat.le_of_ble_eq_true rfl, rfl⟩ rfl rfl rfl (Nat.le_of_ble_eq_true rfl) (by decide) (by decide) (fun K hK => ?_)
  clear hC9
  refine J.run csL_act_70 10 [] ?_
  refine ⟨fun q => absurd rfl q, fun _ => ?_⟩
  have hC9 := c_L_wind hK 24 8 0
  rw [show rWind S1 24 8 0 = (1, S1, 0) from if_pos (by decide +kernel)] at hC9
  refine J.clH 14 84 [] (r := (1, S1, 0)) (c1 := -31) hC9 kL_wind mRL_112 dL_act_102 ⟨Nat.le_of_ble_eq_true rfl, Nat.le_of_ble_eq_true rfl, rfl⟩ rfl rfl rfl (Nat.le_of_ble_eq_true rfl) (by decide) (by decide) (fun K hK => ?_)
  clear hC9
  refine J.run csL_act_70 10 [] ?_
  refine ⟨fun q => absurd rfl q, fun _ => ?_⟩
  have hC9 := c_L_wind hK 0 8 0
  rw [show rWind S1 0 8 0 = (2, S1, 0) from (if_neg (by decide +kernel)).trans (if_pos (by decide +kernel))] at hC9
  refine J.clH 11 66 [] (r := (2, S1, 0)) (c1 := -32) hC9 kL_wind mRL_112 dL_act_115 ⟨Nat.le_of_ble_eq_true rfl, Nat.le_of_ble_eq_true rfl, rfl⟩ rfl rfl rfl (Nat.le_of_ble_eq_true rfl) (by decide) (by decide) (fun K hK => ?_)
  clear hC9
  refine J.run csL_act_70 10 [] ?_
  refine ⟨fun q => absurd rfl q, fun _ => ?_⟩
  have hC9 := c_L_wind hK 0 0 10
  rw [show rWind S1 0 0 10 = (2, S1, 0) from (if_neg (by decide +kernel)).trans (if_pos (by decide +kernel))] at hC9
  refine J.clH 8 48 [] (r := (2, S1, 0)) (c1 := -32) hC9 kL_wind mRL_112 dL_act_128 ⟨Nat.le_of_ble_eq_true rfl, Nat.le_of_ble_eq_true rfl, rfl⟩ rfl rfl rfl (Nat.le_of_ble_eq_true rfl) (by decide) (by decide) (fun K hK => ?_)
  refine J.run csL_act_70 10 [] ?_
  refine ⟨fun q => absurd rfl q, fun _ => ⟨Or.inr rfl, rfl, S1, K, _, v, g, l, o, hK, ?_, ?_, rfl⟩⟩
  · rw [hS1]
    exact ⟨hR1, hv, hg, hl, ho⟩
  · rw [hS1]
    exact Nat.le_add_right _ _
/-- a vane is changed -/
theorem act_vane {S : aS} {K : cK} {h v g l o : Nat → Int32} {x y how : Int32} (hK : cRel S K) (hR0 : R5 S.1 h v g l o) : J ML_act (acQ S) 20 120 148 (aLv x y [(8, .int how)]) [] (LW h v g l o (clA K ++ [])) := by
  obtain ⟨hh, hv, hg, hl, ho⟩ := hR0
  refine J.run csL_act_70 5 [] ?_
  refine J.low 24 (by decide) (by decide) [] rfl kL_low mRL_109 dL_act_151 ⟨Nat.le_of_ble_eq_true rfl, Nat.le_of_ble_eq_true rfl⟩ (Nat.le_of_ble_eq_true rfl) (fun p hp => ?_)
  obtain ⟨w, hw⟩ : ∃ w, w = p % 4 := ⟨_, rfl⟩
  obtain ⟨i, hi⟩ : ∃ i, i = p / 4 := ⟨_, rfl⟩
  have hw4 : w < 4 := by omega
  have hi6 : i < 6 := by omega
  have hpe : p = 4 * i + w := by omega
  have xp : vp_in (nI p) 24 := vp_n hp (by decide)
  have cp : (nI p).toNatClampNeg = p := cl_n (by omega)
  have n4 : ¬ (4 : Int32) = 0 := by decide
  have er : nI p - nI p / 4 * 4 = nI w := by rw [hw]; exact pk_rem (d := 4) (by omega) (by decide) (by decide)
  have ed : nI p / 4 = nI i := by rw [hi]; exact pk_div (d := 4) (by omega) (by decide) (by decide)
  have ev : v (nI p).toNatClampNeg = nI (v_vn S.1 i w) := by rw [cp, hpe]; exact hv i hi6 w hw4
  have E221 : ∀ N, 0 < N → N ≤ vmx w + 1 → J ML_act (acQ S) 20 120 221 (aLv x y [(8, .int how), (9, .int (nI p)), (10, .int (nI (v_vn S.1 i w))), (11, .int (nI w))]) [.int (nI N), .int (y >>> ((5 : Int32) &&& 31)), .int (nI p), .ref 1] (LW h v g l o (clA K ++ [])) := by
    intro N hN0 hN
    have h9 := vmx_le w
    refine J.low N hN0 (by omega) [.int (nI p), .ref 1] rfl kL_low mRL_109 dL_act_221 ⟨Nat.le_of_ble_eq_true rfl, Nat.le_of_ble_eq_true rfl⟩ (Nat.le_of_ble_eq_true rfl) (fun r hr => ?_)
    refine J.run csL_act_154 20 [] ?_
    refine ⟨xp, n4, xp, ?_⟩
    have e1 : nI r = upd v (nI p).toNatClampNeg (nI r) (nI p).toNatClampNeg := pk_us.symm
    refine J.cast (lv := aLv x y [(8, .int how), (9, .int (nI p)), (10, .int (nI (v_vn S.1 i w))), (11, .int (nI w))]) (st := [.int (nI r), .int (nI w), .int (nI i), .ref 5]) (h := LW h (upd v p (nI r)) g l o (clA K ++ [])) ?_ rfl (cg2 (fun x8 x9 : Int32 => ([.int x8, .int (nI w), .int x9, .ref 5] : List Value)) e1 ed.symm) (congrArg (fun x9 : Nat => LW h (upd v x9 (nI r)) g l o (clA K ++ [])) cp.symm)
    have hR1 := vR_svn (x := r) hv hi6 hw4 hpe
    obtain ⟨S1, hS1⟩ : ∃ S1, S1 = sW (sS S) (svn S.1 i w r) := ⟨_, rfl⟩
    have hC9 := c_L_vane hK (nI i) (nI w) (nI r)
    rw [rVane_ok S hi6 hw4 (show r ≤ vmx w by omega), ← hS1] at hC9
    refine J.clH 17 102 [] (r := (0, S1, nI (v_vn S.1 i w))) (c1 := nI (v_vn S.1 i w)) hC9 kL_vane mRL_115 dL_act_237 ⟨Nat.le_of_ble_eq_true rfl, Nat.le_of_ble_eq_true rfl, rfl⟩ rfl rfl rfl (Nat.le_of_ble_eq_true rfl) (by decide) (by decide) (fun K hK => ?_)
    clear hC9
    refine J.run csL_act_240 10 [] ?_
    refine ⟨fun q => absurd rfl q, fun _ => ?_⟩
    have hC9 := c_L_vane hK 6 4 0
    rw [show rVane S1 6 4 0 = (1, S1, 0) from if_pos (by decide +kernel)] at hC9
    refine J.clH 14 84 [] (r := (1, S1, 0)) (c1 := -31) hC9 kL_vane mRL_115 dL_act_250 ⟨Nat.le_of_ble_eq_true rfl, Nat.le_of_ble_eq_true rfl, rfl⟩ rfl rfl rfl (Nat.le_of_ble_eq_true rfl) (by decide) (by decide) (fun K hK => ?_)
    clear hC9
    refine J.run csL_act_240 10 [] ?_
    refine ⟨fun q => absurd rfl q, fun _ => ?_⟩
    have hC9 := c_L_vane hK 0 4 0
    rw [show rVane S1 0 4 0 = (2, S1, 0) from (if_neg (by decide +kernel)).trans (if_pos (by decide +kernel))] at hC9
    refine J.clH 11 66 [] (r := (2, S1, 0)) (c1 := -32) hC9 kL_vane mRL_115 dL_act_262 ⟨Nat.le_of_ble_eq_true rfl, Nat.le_of_ble_eq_true rfl, rfl⟩ rfl rfl rfl (Nat.le_of_ble_eq_true rfl) (by decide) (by decide) (fun K hK => ?_)
    clear hC9
    refine J.run csL_act_240 10 [] ?_
    refine ⟨fun q => absurd rfl q, fun _ => ?_⟩
    have hC9 := c_L_vane hK 0 1 5
    rw [show rVane S1 0 1 5 = (2, S1, 0) from (if_neg (by decide +kernel)).trans ((if_neg (by decide +kernel)).trans (if_pos (by decide +kernel)))] at hC9
    refine J.clH 8 48 [] (r := (2, S1, 0)) (c1 := -32) hC9 kL_vane mRL_115 dL_act_274 ⟨Nat.le_of_ble_eq_true rfl, Nat.le_of_ble_eq_true rfl, rfl⟩ rfl rfl rfl (Nat.le_of_ble_eq_true rfl) (by decide) (by decide) (fun K hK => ?_)
    clear hC9
    refine J.run csL_act_240 10 [] ?_
    refine ⟨fun q => absurd rfl q, fun _ => ?_⟩
    have hC9 := c_L_vane hK 0 3 2
    rw [show rVane S1 0 3 2 = (2, S1, 0) from (if_neg (by decide +kernel)).trans ((if_neg (by decide +kernel)).trans (if_pos (by decide +kernel)))] at hC9
    refine J.clH 5 30 [] (r := (2, S1, 0)) (c1 := -32) hC9 kL_vane mRL_115 dL_act_286 ⟨Nat.le_of_ble_eq_true rfl, Nat.le_of_ble_eq_true rfl, rfl⟩ rfl rfl rfl (Nat.le_of_ble_eq_true rfl) (by decide) (by decide) (fun K hK => ?_)
    refine J.run csL_act_240 10 [] ?_
    refine ⟨fun q => absurd rfl q, fun _ => ⟨Or.inr rfl, rfl, S1, K, h, _, g, l, o, hK, ?_, ?_, rfl⟩⟩
    · rw [hS1]
      exact ⟨hh, hR1, hg, hl, ho⟩
    · rw [hS1]
      exact Nat.le_add_right _ _
  have E176 : J ML_act (acQ S) 20 120 176 (aLv x y [(8, .int how), (9, .int (nI p)), (10, .int (nI (v_vn S.1 i w))), (11, .int (nI w))]) [.int (y >>> ((5 : Int32) &&& 31)), .int (nI p), .ref 1] (LW h v g l o (clA K ++ [])) := by
    clear hw er hpe ev
    rcases (show w = 0 ∨ w = 1 ∨ w = 2 ∨ w = 3 by omega) with rfl | rfl | rfl | rfl
    · refine J.run csL_act_154 20 [(221, 12)] ?_
      exact ⟨fun q => absurd rfl q, fun _ => E221 8 (by decide) (by decide)⟩
    · refine J.run csL_act_154 20 [(221, 12)] ?_
      exact ⟨fun _ => ⟨fun q => absurd rfl q, fun _ => E221 5 (by decide) (by decide)⟩, fun q => absurd q (by decide)⟩
    · refine J.run csL_act_154 20 [(221, 12)] ?_
      exact ⟨fun _ => ⟨fun _ => ⟨fun q => absurd rfl q, fun _ => ⟨fun _ => E221 10 (by decide) (by decide), fun _ => E221 4 (by decide) (by decide)⟩⟩, fun q => absurd q (by decide)⟩, fun q => absurd q (by decide)⟩
    · refine J.run csL_act_154 20 [(221, 12)] ?_
      exact ⟨fun _ => ⟨fun _ => ⟨fun _ => E221 2 (by decide) (by decide), fun q => absurd q (by decide)⟩, fun q => absurd q (by decide)⟩, fun q => absurd q (by decide)⟩
  refine J.run csL_act_154 30 [(176, 12)] ?_
  refine ⟨xp, n4, ?_⟩
  exact J.cast E176 (cg2 (fun x8 x9 : Int32 => aLv x y [(8, .int how), (9, .int (nI p)), (10, .int x8), (11, .int x9)]) ev.symm er.symm) rfl rfl
/-- a mill's speed is changed -/
theorem act_mill {S : aS} {K : cK} {h v g l o : Nat → Int32} {x y how : Int32} {m : Nat} (hm : m < 3) (hK : cRel S K) (hR0 : R5 S.1 h v g l o) : J ML_act (acQ S) 20 120 313 (aLv x y [(8, .int how), (9, .int (nI m))]) [] (LW h v g l o (clA K ++ [])) := by
  obtain ⟨hh, hv, hg, hl, ho⟩ := hR0
  have i6 : nI 6 + nI m = nI (6 + m) := nI_add 6 m
  have x6 : vp_in (nI 6 + nI m) 15 := by rw [i6]; exact vp_n (by omega) (by decide)
  have c6 : (nI 6 + nI m).toNatClampNeg = 6 + m := by rw [i6, cl_n (by omega)]
  have y6 : g (nI 6 + nI m).toNatClampNeg = nI (m_sp (v_ml S.1 m)) := by rw [c6]; exact (hg.2.2 m hm).1
  refine J.run csL_act_240 30 [] ?_
  refine ⟨x6, ?_⟩
  refine J.low 10 (by decide) (by decide) [.int (nI 6 + nI m), .ref 2] rfl kL_low mRL_109 dL_act_335 ⟨Nat.le_of_ble_eq_true rfl, Nat.le_of_ble_eq_true rfl⟩ (Nat.le_of_ble_eq_true rfl) (fun r hr => ?_)
  refine J.run csL_act_338 20 [] ?_
  refine ⟨x6, x6, ?_⟩
  have e1 : nI r = upd g (nI 6 + nI m).toNatClampNeg (nI r) (nI 6 + nI m).toNatClampNeg := pk_us.symm
  refine J.cast (lv := aLv x y [(8, .int how), (9, .int (nI m)), (10, .int (nI (m_sp (v_ml S.1 m))))]) (st := [.int (nI r), .int (nI m), .ref 5]) (h := LW h v (upd g (6 + m) (nI r)) l o (clA K ++ [])) ?_ (congrArg (fun x9 : Int32 => aLv x y [(8, .int how), (9, .int (nI m)), (10, .int x9)]) y6.symm) (congrArg (fun x8 : Int32 => ([.int x8, .int (nI m), .ref 5] : List Value)) e1) (congrArg (fun x9 : Nat => LW h v (upd g x9 (nI r)) l o (clA K ++ [])) c6.symm)
  have hR1 := gR_ssp (x := r) hg hm
  have hR2 := lR_ssp hl m r
  obtain ⟨S1, hS1⟩ : ∃ S1, S1 = sW (sS S) (ssp S.1 m r) := ⟨_, rfl⟩
  have hC9 := c_L_mill hK (nI m) (nI r)
  rw [rMill_ok S hm (show r ≤ 9 by omega), ← hS1] at hC9
  refine J.clH 17 102 [] (r := (0, S1, nI (m_sp (v_ml S.1 m)))) (c1 := nI (m_sp (v_ml S.1 m))) hC9 kL_mill mRL_117 dL_act_350 ⟨Nat.le_of_ble_eq_true rfl, Nat.le_of_ble_eq_true rfl, rfl⟩ rfl rfl rfl (Nat.le_of_ble_eq_true rfl) (by decide) (by decide) (fun K hK => ?_)
  clear hC9
  refine J.run csL_act_338 10 [] ?_
  refine ⟨fun q => absurd rfl q, fun _ => ?_⟩
  have hC9 := c_L_mill hK 3 0
  rw [show rMill S1 3 0 = (1, S1, 0) from if_pos (by decide +kernel)] at hC9
  refine J.clH 14 84 [] (r := (1, S1, 0)) (c1 := -31) hC9 kL_mill mRL_117 dL_act_361 ⟨Nat.le_of_ble_eq_true rfl, Nat.le_of_ble_eq_true rfl, rfl⟩ rfl rfl rfl (Nat.le_of_ble_eq_true rfl) (by decide) (by decide) (fun K hK => ?_)
  clear hC9
  refine J.run csL_act_338 10 [] ?_
  refine ⟨fun q => absurd rfl q, fun _ => ?_⟩
  have hC9 := c_L_mill hK 0 10
  rw [show rMill S1 0 10 = (2, S1, 0) from (if_neg (by decide +kernel)).trans (if_pos (by decide +kernel))] at hC9
  refine J.clH 11 66 [] (r := (2, S1, 0)) (c1 := -32) hC9 kL_mill mRL_117 dL_act_373 ⟨Nat.le_of_ble_eq_true rfl, Nat.le_of_ble_eq_true rfl, rfl⟩ rfl rfl rfl (Nat.le_of_ble_eq_true rfl) (by decide) (by decide) (fun K hK => ?_)
  refine J.run csL_act_338 10 [] ?_
  refine ⟨fun q => absurd rfl q, fun _ => ⟨Or.inr rfl, rfl, S1, K, h, v, _, l, o, hK, ?_, ?_, rfl⟩⟩
  · rw [hS1]
    exact ⟨hh, hv, hR1, hR2, ho⟩
  · rw [hS1]
    exact Nat.le_add_right _ _
/-- a setting is changed -/
theorem act_set {S : aS} {K : cK} {h v g l o : Nat → Int32} {x y how : Int32} {m9 : Int32} (hK : cRel S K) (hR0 : R5 S.1 h v g l o) : J ML_act (acQ S) 20 120 394 (aLv x y [(8, .int how), (9, .int m9)]) [] (LW h v g l o (clA K ++ [])) := by
  obtain ⟨hh, hv, hg, hl, ho⟩ := hR0
  obtain ⟨b, hb, eb⟩ := pk_andE (y >>> ((2 : Int32) &&& 31)) (m := 1) 1 (by decide)
  obtain ⟨b3, hb3, eb3⟩ := pk_andE (y >>> ((3 : Int32) &&& 31)) (m := 1) 1 (by decide)
  have hb : b < 2 := hb
  have hb3 : b3 < 2 := hb3
  have i4 : nI 4 + nI b = nI (4 + b) := nI_add 4 b
  have x4 : vp_in (nI 4 + nI b) 15 := by rw [i4]; exact vp_n (by omega) (by decide)
  have c4 : (nI 4 + nI b).toNatClampNeg = 4 + b := by rw [i4, cl_n (by omega)]
  have y4 : g (nI 4 + nI b).toNatClampNeg = nI (v_se S.1 b) := by rw [c4]; exact hg.2.1 b hb
  have E439 : ∀ r, 1 - b ≤ r → r ≤ (if b = 0 then 6 else 1) → J ML_act (acQ S) 20 120 439 (aLv x y [(8, .int how), (9, .int m9), (10, .int (nI b)), (11, .int (nI (v_se S.1 b)))]) [.int (nI r), .int (nI 4 + nI b), .ref 2] (LW h v g l o (clA K ++ [])) := by
    intro r hr1 hr2
    refine J.run csL_act_430 20 [] ?_
    refine ⟨x4, x4, ?_⟩
    have e1 : nI r = upd g (nI 4 + nI b).toNatClampNeg (nI r) (nI 4 + nI b).toNatClampNeg := pk_us.symm
    refine J.cast (lv := aLv x y [(8, .int how), (9, .int m9), (10, .int (nI b)), (11, .int (nI (v_se S.1 b)))]) (st := [.int (nI r), .int (nI b), .ref 5]) (h := LW h v (upd g (4 + b) (nI r)) l o (clA K ++ [])) ?_ rfl (congrArg (fun x8 : Int32 => ([.int x8, .int (nI b), .ref 5] : List Value)) e1) (congrArg (fun x9 : Nat => LW h v (upd g x9 (nI r)) l o (clA K ++ [])) c4.symm)
    have hR1 := gR_sst (x := r) hg hb
    obtain ⟨S1, hS1⟩ : ∃ S1, S1 = sW (sS S) (sst S.1 b r) := ⟨_, rfl⟩
    have hC9 := c_L_set hK (nI b) (nI r)
    rw [rSet_ok S hb hr1 hr2, ← hS1] at hC9
    refine J.clH 17 102 [] (r := (0, S1, nI (v_se S.1 b))) (c1 := nI (v_se S.1 b)) hC9 kL_set mRL_119 dL_act_450 ⟨Nat.le_of_ble_eq_true rfl, Nat.le_of_ble_eq_true rfl, rfl⟩ rfl rfl rfl (Nat.le_of_ble_eq_true rfl) (by decide) (by decide) (fun K hK => ?_)
    clear hC9
    refine J.run csL_act_430 10 [] ?_
    refine ⟨fun q => absurd rfl q, fun _ => ?_⟩
    have hC9 := c_L_set hK 0 0
    rw [show rSet S1 0 0 = (2, S1, 0) from (if_neg (by decide +kernel)).trans (if_pos (by decide +kernel))] at hC9
    refine J.clH 14 84 [] (r := (2, S1, 0)) (c1 := -32) hC9 kL_set mRL_119 dL_act_461 ⟨Nat.le_of_ble_eq_true rfl, Nat.le_of_ble_eq_true rfl, rfl⟩ rfl rfl rfl (Nat.le_of_ble_eq_true rfl) (by decide) (by decide) (fun K hK => ?_)
    clear hC9
    refine J.run csL_act_430 10 [] ?_
    refine ⟨fun q => absurd rfl q, fun _ => ?_⟩
    have hC9 := c_L_set hK 1 2
    rw [show rSet S1 1 2 = (2, S1, 0) from (if_neg (by decide +kernel)).trans (if_pos (by decide +kernel))] at hC9
    refine J.clH 11 66 [] (r := (2, S1, 0)) (c1 := -32) hC9 kL_set mRL_119 dL_act_472 ⟨Nat.le_of_ble_eq_true rfl, Nat.le_of_ble_eq_true rfl, rfl⟩ rfl rfl rfl (Nat.le_of_ble_eq_true rfl) (by decide) (by decide) (fun K hK => ?_)
    clear hC9
    refine J.run csL_act_430 10 [] ?_
    refine ⟨fun q => absurd rfl q, fun _ => ?_⟩
    have hC9 := c_L_set hK 2 0
    rw [show rSet S1 2 0 = (1, S1, 0) from if_pos (by decide +kernel)] at hC9
    refine J.clH 8 48 [] (r := (1, S1, 0)) (c1 := -31) hC9 kL_set mRL_119 dL_act_483 ⟨Nat.le_of_ble_eq_true rfl, Nat.le_of_ble_eq_true rfl, rfl⟩ rfl rfl rfl (Nat.le_of_ble_eq_true rfl) (by decide) (by decide) (fun K hK => ?_)
    refine J.run csL_act_430 10 [] ?_
    refine ⟨fun q => absurd rfl q, fun _ => ⟨Or.inr rfl, rfl, S1, K, h, v, _, l, o, hK, ?_, ?_, rfl⟩⟩
    · rw [hS1]
      exact ⟨hh, hv, hR1, hl, ho⟩
    · rw [hS1]
      exact Nat.le_add_right _ _
  refine J.run csL_act_338 6 [(401, 11)] ?_
  refine J.cast (lv := aLv x y [(8, .int how), (9, .int m9), (10, .int (nI b))]) (st := []) ?_ (congrArg (fun x9 : Int32 => aLv x y [(8, .int how), (9, .int m9), (10, .int x9)]) eb.symm) rfl rfl
  refine J.run csL_act_338 6 [(410, 12)] ?_
  refine ⟨x4, ?_⟩
  refine J.cast (lv := aLv x y [(8, .int how), (9, .int m9), (10, .int (nI b)), (11, .int (nI (v_se S.1 b)))]) (st := []) ?_ (congrArg (fun x9 : Int32 => aLv x y [(8, .int how), (9, .int m9), (10, .int (nI b)), (11, .int x9)]) y4.symm) rfl rfl
  rcases (show b = 0 ∨ b = 1 by omega) with rfl | rfl
  · refine J.run csL_act_338 20 [(439, 12)] ?_
    refine ⟨fun q => absurd rfl q, fun _ => ?_⟩
    refine J.low 6 (by decide) (by decide) [.int 1, .int (nI 4 + nI 0), .ref 2] rfl kL_low mRL_109 dL_act_427 ⟨Nat.le_of_ble_eq_true rfl, Nat.le_of_ble_eq_true rfl⟩ (Nat.le_of_ble_eq_true rfl) (fun r hr => ?_)
    refine J.run csL_act_430 3 [(439, 12)] ?_
    refine J.cast (E439 (1 + r) (by omega) (by rw [if_pos rfl]; omega)) rfl ?_ rfl
    exact congrArg (fun x9 : Int32 => ([.int x9, .int (nI 4 + nI 0), .ref 2] : List Value)) (nI_add 1 r).symm
  · refine J.run csL_act_338 20 [(439, 12)] ?_
    refine ⟨fun _ => ?_, fun q => absurd q (by decide)⟩
    refine J.run csL_act_430 10 [(439, 12)] ?_
    refine J.cast (E439 b3 (by omega) (by rw [if_neg (by decide)]; omega)) rfl ?_ rfl
    exact congrArg (fun x9 : Int32 => ([.int x9, .int (nI 4 + nI 1), .ref 2] : List Value)) eb3.symm
