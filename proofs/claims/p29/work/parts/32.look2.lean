/-! A mill's numbers. -/
theorem fill_map (A : aV) (z : vS) (f : Nat → Int32) : (vil A z ++ ([.inl (0, 24, .inl f)] : j_H)).map (j_rc (j_f (R1 ++ [30]))) = (vil A z).map (j_rc (j_f R1)) ++ ([.inl (0, 24, .inl f)] : j_H) := by
  rw [List.map_append, vil_cg (r' := j_f R1) (by decide +kernel)]
  rfl
theorem fill_at {m : Nat} (h : m < 3) : j_f (R1 ++ [30]) (15 + 3 * m) = 16 + 3 * m := by
  have : ∀ m, m < 3 → j_f (R1 ++ [30]) (15 + 3 * m) = 16 + 3 * m := by decide +kernel
  exact this m h
theorem J.fill {M : j_M} {Φ : j_F} {bc bs pc idx : Nat} {lv : j_L} {st : List Value} (rest : List Value) {A : aV} {z : vS} {c : Nat × Nat × Nat} {r : (Nat → Int32) × (Nat → Int32) × (Nat → Int32)} {X : j_H} (m : Nat) (hA : vOk A) (hm : m < 3) (hk : j_kV MX1_fillRates 2) (hl : Cond.methodLink (jm_o M) idx (jm_y MX1_fillRates) ∈ j_ws) (hd : decode (jm_b M) pc = .ok (.invokevirtual idx, 3)) (hR : jm_f MX1_fillRates + 1 ≤ jm_f M ∧ 8 + (jm_n MX1_fillRates + 11) + jm_l MX1_fillRates ≤ jm_l M)
    (hst : st = .ref 30 :: .ref (16 + 3 * m) :: .ref 1 :: rest) (hcat : (rest.map fun v => v.category).sum ≤ 8)
    (k : J M Φ bc bs (pc + 3) lv (.int (nI (day A m)) :: rest) (clv (vil A z) c (r.1, r.2.1, rowr A m 24 r.2.2) X)) : J M Φ bc bs pc lv st (clv (vil A z) c r X) := by
  refine J.callV bc bs rest (R1 ++ [30]) (c_X1_fillRates (z := z) (f := r.2.2) hA hm) hk hl hd hR.1 hR.2 rfl rfl (by rw [hst, ← fill_at hm]; rfl) hcat (i0 := 0) rfl (ci := 1) rfl rfl (j_lies_of (fill_map _ _ _) rfl) (by decide) (Nat.le_refl _) (Nat.le_refl _) ?_ ?_
  · rintro v h' ⟨hv, rfl⟩
    cases hv
    refine ⟨rfl, ?_⟩
    rw [fill_map, sc_app _ _ _ _ _ rfl, sc_r1 rfl rfl]
    exact k
  · rintro E9 h' ⟨hv, -⟩
    cases hv
theorem cRel_r {S : aS} {q : vZ} {c : Nat × Nat × Nat} {fl cs rt : Nat → Int32} {sl sv : Nat → vZ} (h : cRel S (q, c, (fl, cs, rt), sl, sv)) (rt' : Nat → Int32) : cRel S (q, c, (fl, cs, rt'), sl, sv) := h
def miV (A : aV) (m w : Nat) : Int32 := match w with
  | 0 => nI (m_sp (v_ml A m))
  | 1 => nI (v_lo A m).length
  | 2 => nI (swt (v_lo A m))
  | 3 => nI (m_gr (v_ml A m))
  | 4 => if (v_lo A m).length = 0 then -1 else nI (lo_o (v_lo A m) 0)
  | _ => nI (day A m)
def rMillOf (S : aS) (a b : Int32) : aR := if a < 0 ∨ nI 3 ≤ a then (1, S, 0) else if b < nI 0 ∨ nI 5 < b then (2, S, 0) else (0, S, miV S.1 (cN a) (cN b))
theorem b_X3_millOf {Φ : j_F} {S : aS} {K : cK} {y : j_H} (h : cRel S K) {i w : Nat} (hi : i < 3) (hw : w ≤ 5) (hΦ : hE Φ S y (miV S.1 i w)) : J MX3_millOf Φ 0 0 11 [(0, .ref 0), (1, .int (nI i)), (2, .int (nI w))] [] (clw K y) := by
  obtain ⟨⟨A, z⟩, c, ⟨fl, cs, rt⟩, sl, sv⟩ := K
  have hA : A = S.1 := h.1.1
  subst hA
  have hok := h.1.2.1
  have hz : vRel S.1 z := h.1.2.2
  have hmk := hok.2.2.2.2.2 i hi
  have hl : (v_lo S.1 i).length ≤ 8 := hmk.2.1
  have h4 : ∀ x : Int32, ((x ≤ 0 → Φ (.inl (some (.int (-1)))) (clw ((S.1, z), c, (fl, cs, rt), sl, sv) y)) ∧ (¬ x ≤ 0 → vp_in 0 8 ∧ Φ (.inl (some (.int ((z i).1 (0 : Int32).toNatClampNeg)))) (clw ((S.1, z), c, (fl, cs, rt), sl, sv) y))) ∨ w ≠ 4 ∨ x ≠ nI (v_lo S.1 i).length := by
    intro x
    by_cases w4 : w = 4
    · by_cases ex : x = nI (v_lo S.1 i).length
      · subst w4 ex
        refine Or.inl ⟨fun q => ?_, fun q => ⟨vp_c (by decide), ?_⟩⟩
        · rw [n_le0 (by omega)] at q
          exact hΦ.f h (by rw [show miV S.1 i 4 = if (v_lo S.1 i).length = 0 then -1 else nI (lo_o (v_lo S.1 i) 0) from rfl, if_pos q]) rfl
        · rw [n_le0 (by omega)] at q
          exact hΦ.f h (by rw [show miV S.1 i 4 = if (v_lo S.1 i).length = 0 then -1 else nI (lo_o (v_lo S.1 i) 0) from rfl, if_neg q]; exact (hz i hi 0 (Nat.pos_of_ne_zero q)).1) rfl
      · exact Or.inr (Or.inr ex)
    · exact Or.inr (Or.inl w4)
  have hcm : i = 0 ∨ i = 1 ∨ i = 2 := by omega
  have hc : w = 0 ∨ w = 1 ∨ w = 2 ∨ w = 3 ∨ w = 4 ∨ w = 5 := by omega
  rcases hcm with rfl | rfl | rfl
  · rcases hc with rfl | rfl | rfl | rfl | rfl | rfl
    · refine J.run csX3_millOf 20 [(56, 4), (61, 4), (66, 4), (71, 4), (76, 4), (94, 4)] ?_
      refine ⟨vp_n hi (by decide), ?_⟩
      refine ⟨fun _ => ?_, fun q => absurd rfl q⟩
      refine J.run csX3_millOf 20 [] ?_
      exact hΦ.f h rfl rfl
    · refine J.run csX3_millOf 20 [(56, 4), (61, 4), (66, 4), (71, 4), (76, 4), (94, 4)] ?_
      refine ⟨vp_n hi (by decide), ?_⟩
      refine ⟨fun q => absurd q (by decide), fun _ => ⟨fun _ => ?_, fun q => absurd rfl q⟩⟩
      refine J.run csX3_millOf 20 [] ?_
      exact hΦ.f h rfl rfl
    · refine J.run csX3_millOf 20 [(56, 4), (61, 4), (66, 4), (71, 4), (76, 4), (94, 4)] ?_
      refine ⟨vp_n hi (by decide), ?_⟩
      refine ⟨fun q => absurd q (by decide), fun _ => ⟨fun q => absurd q (by decide), fun _ => ⟨fun _ => ?_, fun q => absurd rfl q⟩⟩⟩
      refine J.run csX3_millOf 1 [] ?_
      refine J.callRV [] [16, 17, 18] (c_X0_sacksWaiting hmk (hz 0 hi)) kX0_sacksWaiting mRX3_99 dX3_millOf_67 (by decide) rfl rfl rfl (Nat.le_of_ble_eq_true rfl) (i0 := 0) rfl (ci := 0) rfl rfl ?_
      refine J.run csX3_millOf 20 [] ?_
      exact hΦ.f h rfl rfl
    · refine J.run csX3_millOf 20 [(56, 4), (61, 4), (66, 4), (71, 4), (76, 4), (94, 4)] ?_
      refine ⟨vp_n hi (by decide), ?_⟩
      refine ⟨fun q => absurd q (by decide), fun _ => ⟨fun q => absurd q (by decide), fun _ => ⟨fun q => absurd q (by decide), fun _ => ⟨fun _ => ?_, fun q => absurd rfl q⟩⟩⟩⟩
      refine J.run csX3_millOf 20 [] ?_
      exact hΦ.f h rfl rfl
    · refine J.run csX3_millOf 20 [(56, 4), (61, 4), (66, 4), (71, 4), (76, 4), (94, 4)] ?_
      refine ⟨vp_n hi (by decide), ?_⟩
      refine ⟨fun q => absurd q (by decide), fun _ => ⟨fun q => absurd q (by decide), fun _ => ⟨fun q => absurd q (by decide), fun _ => ⟨fun q => absurd q (by decide), fun _ => ⟨fun _ => ?_, fun q => absurd rfl q⟩⟩⟩⟩⟩
      refine J.run csX3_millOf 20 [] ?_
      rcases h4 _ with q | q | q
      · exact q
      · exact absurd rfl q
      · exact absurd rfl q
    · refine J.run csX3_millOf 20 [(56, 4), (61, 4), (66, 4), (71, 4), (76, 4), (94, 4)] ?_
      refine ⟨vp_n hi (by decide), ?_⟩
      refine ⟨fun q => absurd q (by decide), fun _ => ⟨fun q => absurd q (by decide), fun _ => ⟨fun q => absurd q (by decide), fun _ => ⟨fun q => absurd q (by decide), fun _ => ⟨fun q => absurd q (by decide), fun _ => ?_⟩⟩⟩⟩⟩
      refine J.run csX3_millOf 9 [] ?_
      refine J.fill [] 0 hok hi kX1_fillRates mRX3_182 dX3_millOf_103 (by decide) rfl (Nat.le_of_ble_eq_true rfl) ?_
      refine J.run csX3_millOf 20 [] ?_
      exact hΦ.f (cRel_r h (rowr S.1 0 24 rt)) rfl rfl
  · rcases hc with rfl | rfl | rfl | rfl | rfl | rfl
    · refine J.run csX3_millOf 20 [(56, 4), (61, 4), (66, 4), (71, 4), (76, 4), (94, 4)] ?_
      refine ⟨vp_n hi (by decide), ?_⟩
      refine ⟨fun _ => ?_, fun q => absurd rfl q⟩
      refine J.run csX3_millOf 20 [] ?_
      exact hΦ.f h rfl rfl
    · refine J.run csX3_millOf 20 [(56, 4), (61, 4), (66, 4), (71, 4), (76, 4), (94, 4)] ?_
      refine ⟨vp_n hi (by decide), ?_⟩
      refine ⟨fun q => absurd q (by decide), fun _ => ⟨fun _ => ?_, fun q => absurd rfl q⟩⟩
      refine J.run csX3_millOf 20 [] ?_
      exact hΦ.f h rfl rfl
    · refine J.run csX3_millOf 20 [(56, 4), (61, 4), (66, 4), (71, 4), (76, 4), (94, 4)] ?_
      refine ⟨vp_n hi (by decide), ?_⟩
      refine ⟨fun q => absurd q (by decide), fun _ => ⟨fun q => absurd q (by decide), fun _ => ⟨fun _ => ?_, fun q => absurd rfl q⟩⟩⟩
      refine J.run csX3_millOf 1 [] ?_
      refine J.callRV [] [19, 20, 21] (c_X0_sacksWaiting hmk (hz 1 hi)) kX0_sacksWaiting mRX3_99 dX3_millOf_67 (by decide) rfl rfl rfl (Nat.le_of_ble_eq_true rfl) (i0 := 0) rfl (ci := 0) rfl rfl ?_
      refine J.run csX3_millOf 20 [] ?_
      exact hΦ.f h rfl rfl
    · refine J.run csX3_millOf 20 [(56, 4), (61, 4), (66, 4), (71, 4), (76, 4), (94, 4)] ?_
      refine ⟨vp_n hi (by decide), ?_⟩
      refine ⟨fun q => absurd q (by decide), fun _ => ⟨fun q => absurd q (by decide), fun _ => ⟨fun q => absurd q (by decide), fun _ => ⟨fun _ => ?_, fun q => absurd rfl q⟩⟩⟩⟩
      refine J.run csX3_millOf 20 [] ?_
      exact hΦ.f h rfl rfl
    · refine J.run csX3_millOf 20 [(56, 4), (61, 4), (66, 4), (71, 4), (76, 4), (94, 4)] ?_
      refine ⟨vp_n hi (by decide), ?_⟩
      refine ⟨fun q => absurd q (by decide), fun _ => ⟨fun q => absurd q (by decide), fun _ => ⟨fun q => absurd q (by decide), fun _ => ⟨fun q => absurd q (by decide), fun _ => ⟨fun _ => ?_, fun q => absurd rfl q⟩⟩⟩⟩⟩
      refine J.run csX3_millOf 20 [] ?_
      rcases h4 _ with q | q | q
      · exact q
      · exact absurd rfl q
      · exact absurd rfl q
    · refine J.run csX3_millOf 20 [(56, 4), (61, 4), (66, 4), (71, 4), (76, 4), (94, 4)] ?_
      refine ⟨vp_n hi (by decide), ?_⟩
      refine ⟨fun q => absurd q (by decide), fun _ => ⟨fun q => absurd q (by decide), fun _ => ⟨fun q => absurd q (by decide), fun _ => ⟨fun q => absurd q (by decide), fun _ => ⟨fun q => absurd q (by decide), fun _ => ?_⟩⟩⟩⟩⟩
      refine J.run csX3_millOf 9 [] ?_
      refine J.fill [] 1 hok hi kX1_fillRates mRX3_182 dX3_millOf_103 (by decide) rfl (Nat.le_of_ble_eq_true rfl) ?_
      refine J.run csX3_millOf 20 [] ?_
      exact hΦ.f (cRel_r h (rowr S.1 1 24 rt)) rfl rfl
  · rcases hc with rfl | rfl | rfl | rfl | rfl | rfl
    · refine J.run csX3_millOf 20 [(56, 4), (61, 4), (66, 4), (71, 4), (76, 4), (94, 4)] ?_
      refine ⟨vp_n hi (by decide), ?_⟩
      refine ⟨fun _ => ?_, fun q => absurd rfl q⟩
      refine J.run csX3_millOf 20 [] ?_
      exact hΦ.f h rfl rfl
    · refine J.run csX3_millOf 20 [(56, 4), (61, 4), (66, 4), (71, 4), (76, 4), (94, 4)] ?_
      refine ⟨vp_n hi (by decide), ?_⟩
      refine ⟨fun q => absurd q (by decide), fun _ => ⟨fun _ => ?_, fun q => absurd rfl q⟩⟩
      refine J.run csX3_millOf 20 [] ?_
      exact hΦ.f h rfl rfl
    · refine J.run csX3_millOf 20 [(56, 4), (61, 4), (66, 4), (71, 4), (76, 4), (94, 4)] ?_
      refine ⟨vp_n hi (by decide), ?_⟩
      refine ⟨fun q => absurd q (by decide), fun _ => ⟨fun q => absurd q (by decide), fun _ => ⟨fun _ => ?_, fun q => absurd rfl q⟩⟩⟩
      refine J.run csX3_millOf 1 [] ?_
      refine J.callRV [] [22, 23, 24] (c_X0_sacksWaiting hmk (hz 2 hi)) kX0_sacksWaiting mRX3_99 dX3_millOf_67 (by decide) rfl rfl rfl (Nat.le_of_ble_eq_true rfl) (i0 := 0) rfl (ci := 0) rfl rfl ?_
      refine J.run csX3_millOf 20 [] ?_
      exact hΦ.f h rfl rfl
    · refine J.run csX3_millOf 20 [(56, 4), (61, 4), (66, 4), (71, 4), (76, 4), (94, 4)] ?_
      refine ⟨vp_n hi (by decide), ?_⟩
      refine ⟨fun q => absurd q (by decide), fun _ => ⟨fun q => absurd q (by decide), fun _ => ⟨fun q => absurd q (by decide), fun _ => ⟨fun _ => ?_, fun q => absurd rfl q⟩⟩⟩⟩
      refine J.run csX3_millOf 20 [] ?_
      exact hΦ.f h rfl rfl
    · refine J.run csX3_millOf 20 [(56, 4), (61, 4), (66, 4), (71, 4), (76, 4), (94, 4)] ?_
      refine ⟨vp_n hi (by decide), ?_⟩
      refine ⟨fun q => absurd q (by decide), fun _ => ⟨fun q => absurd q (by decide), fun _ => ⟨fun q => absurd q (by decide), fun _ => ⟨fun q => absurd q (by decide), fun _ => ⟨fun _ => ?_, fun q => absurd rfl q⟩⟩⟩⟩⟩
      refine J.run csX3_millOf 20 [] ?_
      rcases h4 _ with q | q | q
      · exact q
      · exact absurd rfl q
      · exact absurd rfl q
    · refine J.run csX3_millOf 20 [(56, 4), (61, 4), (66, 4), (71, 4), (76, 4), (94, 4)] ?_
      refine ⟨vp_n hi (by decide), ?_⟩
      refine ⟨fun q => absurd q (by decide), fun _ => ⟨fun q => absurd q (by decide), fun _ => ⟨fun q => absurd q (by decide), fun _ => ⟨fun q => absurd q (by decide), fun _ => ⟨fun q => absurd q (by decide), fun _ => ?_⟩⟩⟩⟩⟩
      refine J.run csX3_millOf 9 [] ?_
      refine J.fill [] 2 hok hi kX1_fillRates mRX3_182 dX3_millOf_103 (by decide) rfl (Nat.le_of_ble_eq_true rfl) ?_
      refine J.run csX3_millOf 20 [] ?_
      exact hΦ.f (cRel_r h (rowr S.1 2 24 rt)) rfl rfl
theorem c_X3_millOf {S : aS} {K : cK} {y : j_H} (h : cRel S K) (a b : Int32) : Ct MX3_millOf 2 12 [.ref 0, .int a, .int b] (clw K y) (cQ eI eA y (rMillOf S a b)) := by
  refine Ct.of rfl rfl (by decide +kernel) rfl (Nat.le_of_ble_eq_true rfl) ?_
  refine J.run csX3_millOf 5 [] ?_
  refine J.ckI 3 rfl kX3_needIndex mRX3_45 dX3_millOf_2 (by decide) (Nat.le_of_ble_eq_true rfl) ⟨rfl, by decide⟩ (fun q => cQ_1 h (if_pos q)) (fun i hi ea q1 => ?_)
  refine J.run csX3_millOf 5 [] ?_
  refine J.ckR 0 5 rfl kX3_needRange mRX3_49 dX3_millOf_8 (by decide) (Nat.le_of_ble_eq_true rfl) ⟨rfl, rfl, by decide⟩ (fun q => cQ_2 h ((if_neg q1).trans (if_pos q))) (fun w _ hw eb q2 => ?_)
  have er : rMillOf S a b = (0, S, miV S.1 i w) := by
    unfold rMillOf
    rw [if_neg q1, if_neg q2, ea, eb, cN_n (by omega), cN_n (by omega)]
  subst ea eb
  exact b_X3_millOf h hi hw (fun K hK => cQ_L er hK)
theorem c_X3_millOf0 {S : aS} {K : cK} {y : j_H} (h : cRel S K) {i w : Nat} (hi : i < 3) (hw : w ≤ 5) : Ct MX3_millOf 0 0 [.ref 0, .int (nI i), .int (nI w)] (clw K y) (cL S y (miV S.1 i w)) := by
  refine Ct.of rfl rfl (by decide +kernel) rfl (Nat.le_of_ble_eq_true rfl) ?_
  refine J.run csX3_millOf 5 [] ?_
  refine J.okI kX3_needIndex mRX3_45 dX3_millOf_2 (by decide) (Nat.le_of_ble_eq_true rfl) (nbad hi (by decide)) ?_
  refine J.run csX3_millOf 5 [] ?_
  refine J.okR kX3_needRange mRX3_49 dX3_millOf_8 (by decide) (Nat.le_of_ble_eq_true rfl) (nout (Nat.zero_le _) hw (by decide)) ?_
  exact b_X3_millOf h hi hw (fun K hK => cL_L hK)
