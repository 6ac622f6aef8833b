/-! The law's body. -/
abbrev gL (t : j_L) : j_L := (0, .ref j_sid) :: (1, .ref 0) :: (2, .ref 223) :: (3, .ref 224) :: (4, .ref 225) :: (5, .ref 226) :: (6, .ref 227) :: t
theorem okQ_q {S : aS} {h v g l o : Nat → Int32} : ∀ u w, okQ S h v g l o [] u w → ∃ x K' h' v' g' l' o', u = .inl (some (.int x)) ∧ w = LW h' v' g' l' o' (clA K' ++ []) := by
  rintro u w ⟨hu, K, hK, hw⟩
  exact ⟨1, K, h, v, g, l, o, hu, hw⟩
theorem acQ_q {S : aS} : ∀ u w, acQ S u w → ∃ x K' h' v' g' l' o', u = .inl (some (.int x)) ∧ w = LW h' v' g' l' o' (clA K' ++ []) := by
  rintro u w ⟨hu, S', K, h, v, g, l, o, hK, hR, hg, hw⟩
  exact ⟨1, K, h, v, g, l, o, hu, hw⟩
/-- a world told in two ways is the same one -/
theorem LW_to_MW {K K' : cK} {h v g l o h' v' g' l' o' : Nat → Int32} (e : LW h v g l o (clA K ++ []) = LW h' v' g' l' o' (clA K' ++ [])) : MW K h v g l o = MW K' h' v' g' l' o' := by
  have e2 := congrArg (fun w : j_H => j_sc ρM (w.map (j_rc (j_f ρM))) (MW K h v g l o)) e
  have e3 : j_sc ρM ((LW h v g l o (clA K ++ [])).map (j_rc (j_f ρM))) (MW K h v g l o) = j_sc ρM ((LW h' v' g' l' o' (clA K' ++ [])).map (j_rc (j_f ρM))) (MW K h v g l o) := e2
  rw [MW_back, MW_back] at e3
  exact e3
/-- a check of all: it answers 1, nothing else has changed -/
theorem J.ok {M M' : j_M} {Φ : j_F} {bc bs : Nat} (bc1 bs1 : Nat) {mc1 ms1 pc idx n : Nat} {lv : j_L} {st : List Value} {as : List Value} {S : aS} {K : cK} {h v g l o : Nat → Int32}
    (hC9 : Ct M' mc1 ms1 as (LW h v g l o (clA K ++ [])) (okQ S h v g l o [])) (hk : j_kS M' n) (hl : Cond.methodLink (jm_o M) idx (jm_y M') ∈ j_ws) (hd : decode (jm_b M) pc = .ok (.invokestatic idx, 3)) (hR : jm_f M' + 1 ≤ jm_f M ∧ 8 + (jm_n M' + 11) + jm_l M' ≤ jm_l M ∧ jm_a M' = false)
    (hn : as.length = n) (hst9 : st = (as.map (j_v (j_f ρM))).reverse ++ []) (hb1 : bc1 + mc1 ≤ bc) (hb2 : bs1 + ms1 ≤ bs)
    (kk : ∀ K', cRel S K' → J M Φ bc1 bs1 (pc + 3) lv [.int 1] (MW K' h v g l o)) : J M Φ bc bs pc lv st (MW K h v g l o) := by
  refine J.mc bc1 bs1 [] hC9 hk hl hd hR hn hst9 (Nat.le_of_ble_eq_true rfl) hb1 hb2 okQ_q (fun x K' h' v' g' l' o' hq => ?_)
  obtain ⟨hu, K2, hK2, hw⟩ := hq
  cases hu
  rw [LW_to_MW hw]
  exact kk K2 hK2
/-- the last calls -/
theorem law_end {L : Nat} {xs : Nat → Int32} {Φ : j_F} {S : aS} {K : cK} {Y : j_H} (t : j_L) (hΦ : ∀ h, Φ (.inl (some (.int 1))) h) (hK : cRel S K) : J (ML_law L xs) Φ 20 120 322 (gL t) [] (clw K [] ++ Y) := by
  refine J.run (csL_law_243 L xs) 5 [] ?_
  have h1 := c_L_hourOf hK 24 5
  rw [show rHour S 24 5 = (1, S, 0) from if_pos (by decide +kernel)] at h1
  refine J.mH 18 108 [] (r := (1, S, 0)) (c1 := -31) h1 kL_hourOf mRL_152 dL_law_326 ⟨Nat.le_of_ble_eq_true rfl, Nat.le_of_ble_eq_true rfl, rfl⟩ rfl rfl rfl (Nat.le_of_ble_eq_true rfl) (by decide) (by decide) (fun K hK => ?_)
  refine J.run (csL_law_329 L xs) 10 [] ?_
  refine ⟨fun q => absurd rfl q, fun _ => ?_⟩
  clear h1
  have h1 := c_L_hourOf hK 0 5
  rw [show rHour S 0 5 = (2, S, 0) from (if_neg (by decide +kernel)).trans (if_pos (by decide +kernel))] at h1
  refine J.mH 16 96 [] (r := (2, S, 0)) (c1 := -32) h1 kL_hourOf mRL_152 dL_law_337 ⟨Nat.le_of_ble_eq_true rfl, Nat.le_of_ble_eq_true rfl, rfl⟩ rfl rfl rfl (Nat.le_of_ble_eq_true rfl) (by decide) (by decide) (fun K hK => ?_)
  refine J.run (csL_law_329 L xs) 10 [] ?_
  refine ⟨fun q => absurd rfl q, fun _ => ?_⟩
  clear h1
  have h1 := c_L_vaneOf hK 6 6
  rw [show rVaneOf S 6 6 = (1, S, 0) from if_pos (by decide +kernel)] at h1
  refine J.mH 14 84 [] (r := (1, S, 0)) (c1 := -31) h1 kL_vaneOf mRL_154 dL_law_350 ⟨Nat.le_of_ble_eq_true rfl, Nat.le_of_ble_eq_true rfl, rfl⟩ rfl rfl rfl (Nat.le_of_ble_eq_true rfl) (by decide) (by decide) (fun K hK => ?_)
  refine J.run (csL_law_329 L xs) 10 [] ?_
  refine ⟨fun q => absurd rfl q, fun _ => ?_⟩
  clear h1
  have h1 := c_L_vaneOf hK 0 6
  rw [show rVaneOf S 0 6 = (2, S, 0) from (if_neg (by decide +kernel)).trans (if_pos (by decide +kernel))] at h1
  refine J.mH 12 72 [] (r := (2, S, 0)) (c1 := -32) h1 kL_vaneOf mRL_154 dL_law_362 ⟨Nat.le_of_ble_eq_true rfl, Nat.le_of_ble_eq_true rfl, rfl⟩ rfl rfl rfl (Nat.le_of_ble_eq_true rfl) (by decide) (by decide) (fun K hK => ?_)
  refine J.run (csL_law_329 L xs) 10 [] ?_
  refine ⟨fun q => absurd rfl q, fun _ => ?_⟩
  clear h1
  have h1 := c_L_millOf hK 3 6
  rw [show rMillOf S 3 6 = (1, S, 0) from if_pos (by decide +kernel)] at h1
  refine J.mH 10 60 [] (r := (1, S, 0)) (c1 := -31) h1 kL_millOf mRL_156 dL_law_374 ⟨Nat.le_of_ble_eq_true rfl, Nat.le_of_ble_eq_true rfl, rfl⟩ rfl rfl rfl (Nat.le_of_ble_eq_true rfl) (by decide) (by decide) (fun K hK => ?_)
  refine J.run (csL_law_329 L xs) 10 [] ?_
  refine ⟨fun q => absurd rfl q, fun _ => ?_⟩
  clear h1
  have h1 := c_L_millOf hK 0 6
  rw [show rMillOf S 0 6 = (2, S, 0) from (if_neg (by decide +kernel)).trans (if_pos (by decide +kernel))] at h1
  refine J.mH 8 48 [] (r := (2, S, 0)) (c1 := -32) h1 kL_millOf mRL_156 dL_law_386 ⟨Nat.le_of_ble_eq_true rfl, Nat.le_of_ble_eq_true rfl, rfl⟩ rfl rfl rfl (Nat.le_of_ble_eq_true rfl) (by decide) (by decide) (fun K hK => ?_)
  refine J.run (csL_law_329 L xs) 10 [] ?_
  refine ⟨fun q => absurd rfl q, fun _ => ?_⟩
  clear h1
  have h1 := c_L_ownerOf hK 5 4
  rw [show rOwner S 5 4 = (1, S, 0) from if_pos (by decide +kernel)] at h1
  refine J.mH 6 36 [] (r := (1, S, 0)) (c1 := -31) h1 kL_ownerOf mRL_158 dL_law_397 ⟨Nat.le_of_ble_eq_true rfl, Nat.le_of_ble_eq_true rfl, rfl⟩ rfl rfl rfl (Nat.le_of_ble_eq_true rfl) (by decide) (by decide) (fun K hK => ?_)
  refine J.run (csL_law_329 L xs) 10 [] ?_
  refine ⟨fun q => absurd rfl q, fun _ => ?_⟩
  clear h1
  have h1 := c_L_ownerOf hK 0 4
  rw [show rOwner S 0 4 = (2, S, 0) from (if_neg (by decide +kernel)).trans (if_pos (by decide +kernel))] at h1
  refine J.mH 4 24 [] (r := (2, S, 0)) (c1 := -32) h1 kL_ownerOf mRL_158 dL_law_408 ⟨Nat.le_of_ble_eq_true rfl, Nat.le_of_ble_eq_true rfl, rfl⟩ rfl rfl rfl (Nat.le_of_ble_eq_true rfl) (by decide) (by decide) (fun K hK => ?_)
  refine J.run (csL_law_329 L xs) 10 [] ?_
  refine ⟨fun q => absurd rfl q, fun _ => ?_⟩
  clear h1
  have h1 := c_L_doneIn hK 3 2
  rw [show rDone S 3 2 = (1, S, 0) from if_pos (by decide +kernel)] at h1
  refine J.mH 2 12 [] (r := (1, S, 0)) (c1 := -31) h1 kL_doneIn mRL_160 dL_law_419 ⟨Nat.le_of_ble_eq_true rfl, Nat.le_of_ble_eq_true rfl, rfl⟩ rfl rfl rfl (Nat.le_of_ble_eq_true rfl) (by decide) (by decide) (fun K hK => ?_)
  refine J.run (csL_law_422 L xs) 10 [] ?_
  refine ⟨fun q => absurd rfl q, fun _ => ?_⟩
  clear h1
  have h1 := c_L_doneIn hK 0 2
  rw [show rDone S 0 2 = (2, S, 0) from (if_neg (by decide +kernel)).trans (if_pos (by decide +kernel))] at h1
  refine J.mH 0 0 [] (r := (2, S, 0)) (c1 := -32) h1 kL_doneIn mRL_160 dL_law_430 ⟨Nat.le_of_ble_eq_true rfl, Nat.le_of_ble_eq_true rfl, rfl⟩ rfl rfl rfl (Nat.le_of_ble_eq_true rfl) (by decide) (by decide) (fun K hK => ?_)
  refine J.run (csL_law_422 L xs) 10 [] ?_
  exact ⟨fun q => absurd rfl q, fun _ => ⟨Or.inr rfl, hΦ _⟩⟩
/-- the turns -/
theorem law_turns {L : Nat} {xs : Nat → Int32} {Φ : j_F} (hL : L ≤ 260) (hΦ : ∀ h, Φ (.inl (some (.int 1))) h) : ∀ (d t : Nat), t + d = 50 → ∀ (S : aS) (K : cK) (h v g l o : Nat → Int32), cRel S K → R5 S.1 h v g l o → v_go S.1 ≤ 99 * t → J (ML_law L xs) Φ (27 * d + 20) (198 * d + 120) 187 (gL [(7, .int (nI t))]) [] (MW K h v g l o) := by
  intro d
  induction d with
  | zero =>
    intro t ht S K h v g l o hK hR0 hgo
    obtain rfl : t = 50 := by omega
    refine J.run (csL_law_155 L xs) 3 [(322, 8)] ?_
    exact ⟨fun _ => law_end _ hΦ hK, fun q => absurd (by decide) q⟩
  | succ d ih =>
    intro t ht S K h v g l o hK hR0 hgo
    have n2 : ¬ (2 : Int32) = 0 := by decide
    have n5 : ¬ (5 : Int32) = 0 := by decide
    have e2 : nI 2 * nI t = nI (2 * t) := n_mul 2 t
    have e21 : nI 2 * nI t + nI 1 = nI (2 * t + 1) := by rw [e2, nI_add]
    have r2 : nI t - nI t / 2 * 2 = nI (t % 2) := pk_rem (d := 2) (by omega) (by decide) (by decide)
    have r5 : nI t - nI t / 5 * 5 = nI (t % 5) := pk_rem (d := 5) (by omega) (by decide) (by decide)
    -- the next turn
    have E316 : ∀ (x9 y9 : Int32) (S : aS) (K : cK) (h v g l o : Nat → Int32), cRel S K → R5 S.1 h v g l o → v_go S.1 ≤ 99 * (t + 1) → J (ML_law L xs) Φ (27 * d + 20) (198 * d + 120) 316 (gL [(7, .int (nI t)), (8, .int x9), (9, .int y9)]) [] (MW K h v g l o) := by
      intro x9 y9 S K h v g l o hK hR1 hgo1
      refine J.run (csL_law_243 L xs) 3 [(187, 8)] ?_
      exact J.cast (ih (t + 1) (by omega) S K h v g l o hK hR1 hgo1) (congrArg (fun x : Int32 => gL [(7, .int x)]) (nI_succ t)) rfl rfl
    have E280 : ∀ (x9 y9 : Int32) (S : aS) (K : cK) (h v g l o : Nat → Int32), cRel S K → R5 S.1 h v g l o → v_go S.1 ≤ 99 * (t + 1) → J (ML_law L xs) Φ (27 * d + 27) (198 * d + 198) 280 (gL [(7, .int (nI t)), (8, .int x9), (9, .int y9)]) [] (MW K h v g l o) := by
      intro x9 y9 S K h v g l o hK hR1 hgo1
      refine J.run (csL_law_243 L xs) 12 [(316, 10)] ?_
      refine ⟨n5, fun _ => J.less (by omega) (by omega) (E316 x9 y9 S K h v g l o hK hR1 hgo1), fun _ => ?_⟩
      refine J.low 99 (by decide) (by decide) [.int 1, .ref 0] rfl kL_low mRL_109 dL_law_296 ⟨Nat.le_of_ble_eq_true rfl, Nat.le_of_ble_eq_true rfl⟩ (Nat.le_of_ble_eq_true rfl) (fun r hr => ?_)
      refine J.run (csL_law_243 L xs) 12 [] ?_
      refine J.cast (lv := gL [(7, .int (nI t)), (8, .int x9), (9, .int y9)]) (st := [.ref 227, .ref 226, .ref 225, .ref 224, .ref 223, .int (nI (1 + r)), .ref 0]) ?_ rfl (congrArg (fun z : Int32 => ([.ref 227, .ref 226, .ref 225, .ref 224, .ref 223, .int z, .ref 0] : List Value)) (nI_add 1 r).symm) rfl
      refine J.ok (27 * d + 20) (198 * d + 120) (c_L_isAhead hK hR1 (show 1 ≤ 1 + r by omega) (show 1 + r ≤ 99 by omega) (by omega)) (show j_kS MI 7 from kL_isAhead) mRL_148 dL_law_308 ⟨Nat.le_of_ble_eq_true rfl, Nat.le_of_ble_eq_true rfl, rfl⟩ rfl rfl (Nat.le_refl _) (Nat.le_refl _) (fun K hK => ?_)
      refine J.run (csL_law_243 L xs) 2 [(316, 10)] ?_
      exact ⟨fun _ => E316 x9 y9 S K h v g l o hK hR1 hgo1, fun q => absurd q (by decide)⟩
    have E243 : ∀ (x9 y9 : Int32) (S : aS) (K : cK) (h v g l o : Nat → Int32), cRel S K → R5 S.1 h v g l o → v_go S.1 ≤ 99 * (t + 1) → J (ML_law L xs) Φ (27 * d + 27) (198 * d + 198) 243 (gL [(7, .int (nI t)), (8, .int x9), (9, .int y9)]) [.int 1] (MW K h v g l o) := by
      intro x9 y9 S K h v g l o hK hR1 hgo1
      refine J.run (csL_law_243 L xs) 10 [] ?_
      refine ⟨fun q => absurd q (by decide), fun _ => ?_⟩
      refine J.ok (27 * d + 27) (198 * d + 198) (c_L_areSacks (Y := []) hK hR1) kL_areSacks mRL_133 dL_law_255 ⟨Nat.le_of_ble_eq_true rfl, Nat.le_of_ble_eq_true rfl, rfl⟩ rfl rfl (Nat.le_refl _) (Nat.le_refl _) (fun K hK => ?_)
      refine J.run (csL_law_243 L xs) 12 [(280, 10)] ?_
      refine ⟨fun q => absurd q (by decide), fun _ => ⟨n2, fun _ => E280 x9 y9 S K h v g l o hK hR1 hgo1, fun _ => ?_⟩⟩
      refine J.ok (27 * d + 27) (198 * d + 198) (c_L_areWinds (Y := []) hK hR1) kL_areWinds mRL_129 dL_law_274 ⟨Nat.le_of_ble_eq_true rfl, Nat.le_of_ble_eq_true rfl, rfl⟩ rfl rfl (Nat.le_refl _) (Nat.le_refl _) (fun K hK => ?_)
      refine J.run (csL_law_243 L xs) 2 [(280, 10)] ?_
      exact ⟨fun q => absurd q (by decide), fun _ => E280 x9 y9 S K h v g l o hK hR1 hgo1⟩
    have E230 : ∀ (x9 y9 z9 : Int32), J (ML_law L xs) Φ (27 * (d + 1) + 20) (198 * (d + 1) + 120) 230 (gL [(7, .int (nI t)), (8, .int x9), (9, .int y9)]) [.int z9, .ref 0] (MW K h v g l o) := by
      intro x9 y9 z9
      refine J.run (csL_law_155 L xs) 12 [] ?_
      refine J.mc (27 * d + 27) (198 * d + 198) [] (c_L_act z9 y9 hK hR0 (by omega)) kL_act mRL_144 dL_law_240 ⟨Nat.le_of_ble_eq_true rfl, Nat.le_of_ble_eq_true rfl, rfl⟩ rfl rfl (Nat.le_of_ble_eq_true rfl) (by omega) (by omega) acQ_q (fun x K' h' v' g' l' o' hq => ?_)
      obtain ⟨hu, S2, K2, h2, v2, g2, l2, o2, hK2, hR2, hg2, hw⟩ := hq
      cases hu
      rw [LW_to_MW hw]
      exact E243 x9 y9 S2 K2 h2 v2 g2 l2 o2 hK2 hR2 (by omega)
    refine J.run (csL_law_155 L xs) 10 [] ?_
    refine ⟨fun q => absurd ((n_le (a := 50) (by omega) (by omega)).mp q) (by omega), fun _ => ?_⟩
    refine J.cast (lv := gL [(7, .int (nI t))]) (st := [.int (nI (2 * t)), .ref j_sid]) ?_ rfl (congrArg (fun z : Int32 => ([.int z, .ref j_sid] : List Value)) e2.symm) rfl
    refine J.cell hL (show 2 * t < 1000 by omega) mRL_140 dL_law_199 (fun x9 => ?_)
    refine J.run (csL_law_155 L xs) 10 [] ?_
    refine J.cast (lv := gL [(7, .int (nI t)), (8, .int x9)]) (st := [.int (nI (2 * t + 1)), .ref j_sid]) ?_ rfl (congrArg (fun z : Int32 => ([.int z, .ref j_sid] : List Value)) e21.symm) rfl
    refine J.cell hL (show 2 * t + 1 < 1000 by omega) mRL_140 dL_law_211 (fun y9 => ?_)
    refine J.run (csL_law_155 L xs) 12 [(230, 10)] ?_
    exact ⟨fun _ => E230 x9 y9 x9, fun _ => E230 x9 y9 7⟩
