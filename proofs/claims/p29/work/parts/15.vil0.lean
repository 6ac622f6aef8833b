/-! Calls that hand the whole world on; the village's world. -/
theorem J.callVI {M M' : j_M} {Φ Φ' : j_F} {bc bs : Nat} (bc1 bs1 : Nat) {mc1 ms1 pc idx n ci i0 : Nat} {lv : j_L} {st : List Value} (rest : List Value) {as : List Value} {h : j_H} {fs : List Value} {q : vw_C}
    (hC : Ct M' mc1 ms1 (.ref i0 :: as) h Φ') (hk : j_kV M' n) (hl : Cond.methodLink (jm_o M) idx (jm_y M') ∈ j_ws) (hd : decode (jm_b M) pc = .ok (.invokevirtual idx, 3)) (hRf : jm_f M' + 1 ≤ jm_f M) (hRl : 8 + (jm_n M' + 11) + jm_l M' ≤ jm_l M)
    (ha : jm_a M' = false) (hn : as.length = n) (hst9 : st = (Value.ref i0 :: as).reverse ++ rest) (hcat : (rest.map fun v => v.category).sum ≤ 8) (hrc : h[i0]? = some (.inr (ci, fs))) (hcl : vwCl[ci]? = some q) (hcn : q.1 = (jm_y M').cls)
    (hb1 : bc1 + mc1 ≤ bc) (hb2 : bs1 + ms1 ≤ bs)
    (kk : ∀ v h', Φ' (.inl v) h' → h'.length = h.length ∧ J M Φ bc1 bs1 (pc + 3) lv (v.toList ++ rest) h')
    (kx : ∀ E h', Φ' (.inr E) h' → h'.length = h.length ∧ JX M Φ bc1 bs1 pc lv h' E) : J M Φ bc bs pc lv st h := by
  intro p l e R s m args below meth c D T A N ad0 mc ms hX ad H locs cells slots ls hI
  obtain ⟨hx, hb, hml, hown, hts, hret, hlk, hKk, hstk, hfr, hlo, hmc, hms, hA, hSx, htb, hnm, hsc⟩ := id hX
  obtain ⟨hc, hs, hlv, hP, hD, hSS, hN, hAl⟩ := id hI
  obtain ⟨k1, k2, k3, k4, k5, k6, k7, k8⟩ := hk
  have hM := hC l hstk D T ad H.size
  have hsub : ∀ q, va_A (j_w T ad h) H.size q → A q := by
    intro q hq
    rcases hq with ⟨k, e9, hk⟩ | hq
    · exact hD.2 k _ hk
    · exact hA q (Nat.le_trans hSS.1 hq)
  have hGd : GoodIn j_ws (wsV (jm_o M) idx (jm_y M').cls (jm_y M') (j_mw M')) := j_goodL hl (j_goodL k3 (j_goodL k4 (j_goodL k5 (j_goodL k2 j_good))))
  have hr := vx_runV (n := n) (b := ad i0) (As := as.map (j_v ad)) (rest := rest.map (j_v ad)) (g := F0 m pc ls (st.map (j_v ad))) (e := e) (H := H) (locs := locs) (cells := cells) (slots := slots) (below := below) (meth := meth) ⟨hx, hb, hml, hown, hts⟩ hM
    (cwV n hts hGd (congrArg (· :: j_ws) (j_cd_nil k1)) rfl rfl ⟨rfl, k6, k7, k8⟩ ⟨Nat.le_trans hRf hfr, Nat.le_trans hRl hlo⟩)
    ⟨j_P_blind, hcn ▸ va_recv hKk hP hcl (j_w_get hrc), fun U hU hW => ⟨rfl, by rw [hU], by rw [hU]; exact hP, va_K.moved hW.alike hKk, hD.weaken (fun _ _ _ _ => trivial), hSx.call hSS hU hW hsub⟩⟩
    rfl (by rw [List.length_map]; exact hn) hlv.1 (by
      show st.map (j_v ad) = _
      rw [hst9, List.map_append, List.map_reverse, List.map_cons, List.reverse_cons, List.append_assoc]
      rfl) (lv_room (by rw [j_cat_sum]; exact hcat)) (by exact hd) ⟨by omega, by omega⟩
  intro T0 hT X
  rcases hr T0 hT X with ⟨v, st₀, t, T', L, h0, X', hL, e1, e2, ⟨⟨v', hm', ad'', hv, hΦ, hN', hP1, hD1⟩, hF⟩, stp⟩ | ⟨q, st₀, t, T', L, E, ce, h0, X', hL, e1, e2, ⟨⟨hm', ad'', hΦ, hN', hP1, hD1⟩, hF⟩, hce, hcv, hcl9, stp⟩
  · have hv : v = v'.map (j_v ad'') := Outcome.returned.inj hv
    obtain ⟨k1, k2, k3⟩ := vx_keep h0 e1 hSS (fun q _ h => hsub q h) hsub hL hF
    have ea : ad'' = ad := funext fun i => hN' i (fun h => by rw [ha] at h; cases h)
    rw [ea] at hP1 hv hD1
    obtain ⟨hlen, hk⟩ := kk v' hm' hΦ
    rw [← e1] at hP1
    obtain ⟨t2, a1, b1⟩ := hk p l e R s m args below meth c D T A N ad0 mc ms hX ad T'.heap (locs ++ L) (cells + mc1) (slots + ms1) ls
      ⟨by omega, by omega, hlv, hP1, hD1.weaken (fun _ q _ h => hsub q.1 h), k3, hN, fun h1 i h2 => hAl h1 i (by rw [hlen] at h2; exact h2)⟩ T' rfl X'
    refine ⟨t2, stp t2 ?_, b1⟩
    have e3 : (v'.toList ++ rest).map (j_v ad) = v.toList ++ rest.map (j_v ad) := by
      rw [hv]
      cases v' with
      | none => rfl
      | some w => rfl
    rw [e3] at a1
    exact a1
  · obtain ⟨k1, k2, k3⟩ := vx_keep h0 e1 hSS (fun q _ h => hsub q h) hsub hL hF
    have ea : ad'' = ad := funext fun i => hN' i (fun h => by rw [ha] at h; cases h)
    rw [ea] at hP1 hD1
    obtain ⟨hlen, hk⟩ := kx E hm' hΦ
    rw [← e1] at hP1
    obtain ⟨t2, a1, b1⟩ := hk p l e R s m args below meth c D T A N ad0 mc ms hX ad T'.heap (locs ++ L) (cells + mc1) (slots + ms1) ls
      ⟨by omega, by omega, hlv, hP1, hD1.weaken (fun _ q _ h => hsub q.1 h), k3, hN, fun h1 i h2 => hAl h1 i (by rw [hlen] at h2; exact h2)⟩ (rest.map (j_v ad)) q ce (by rw [e1]; exact hce) hcv hcl9 T' rfl X'
    exact ⟨t2, stp.trans a1, b1⟩
/-- a callee that answers and changes nothing -/
theorem J.callR {M M' : j_M} {Φ : j_F} {bc bs pc idx n ci i0 : Nat} {lv : j_L} {st : List Value} (rest : List Value) {as : List Value} {h : j_H} {fs : List Value} {q : vw_C} {o : Option Value}
    (hC : Ct M' 0 0 (.ref i0 :: as) h (jd (.inl o) h)) (hk : j_kV M' n) (hl : Cond.methodLink (jm_o M) idx (jm_y M') ∈ j_ws) (hd : decode (jm_b M) pc = .ok (.invokevirtual idx, 3)) (hR : jm_f M' + 1 ≤ jm_f M ∧ 8 + (jm_n M' + 11) + jm_l M' ≤ jm_l M ∧ jm_a M' = false)
    (hn : as.length = n) (hst9 : st = (Value.ref i0 :: as).reverse ++ rest) (hcat : (rest.map fun v => v.category).sum ≤ 8) (hrc : h[i0]? = some (.inr (ci, fs))) (hcl : vwCl[ci]? = some q) (hcn : q.1 = (jm_y M').cls)
    (k : J M Φ bc bs (pc + 3) lv (o.toList ++ rest) h) : J M Φ bc bs pc lv st h := by
  refine J.callVI bc bs rest hC hk hl hd hR.1 hR.2.1 hR.2.2 hn hst9 hcat hrc hcl hcn (Nat.le_refl _) (Nat.le_refl _) ?_ ?_
  · rintro v h' ⟨hv, rfl⟩
    cases hv
    exact ⟨rfl, k⟩
  · rintro E h' ⟨hv, -⟩
    cases hv
/-- the rows of the vanes, the mills -/
def vq (j : Nat) : Option Nat := match j with
  | 0 => some 4
  | 1 => some 5
  | 2 => some 6
  | 3 => some 7
  | 4 => some 8
  | 5 => some 9
  | _ => none
def mq (j : Nat) : Option Nat := match j with
  | 0 => some 15
  | 1 => some 18
  | 2 => some 21
  | _ => none
abbrev mC : Type := Int32 × Int32 × Int32 × (Nat → Int32) × (Nat → Int32)
def vilr (ho go tu re : Int32) (sd sg : Nat → Int32) (vn : Nat → Nat → Int32) (se : Nat → Int32) (ml : Nat → mC) (fl br tk : Nat → Int32) : j_H :=
  [.inr (1, [.int ho, .int go, .int tu, .int re, .ref 1, .ref 2, .ref 3, .ref 10, .ref 11, .ref 12, .ref 13, .ref 14]), .inl (0, 24, .inl sd), .inl (0, 24, .inl sg), .inl (3, 6, .inr (.inr (.inr (.inr vq)))),
   .inl (0, 4, .inl (vn 0)), .inl (0, 4, .inl (vn 1)), .inl (0, 4, .inl (vn 2)), .inl (0, 4, .inl (vn 3)), .inl (0, 4, .inl (vn 4)), .inl (0, 4, .inl (vn 5)), .inl (0, 2, .inl se), .inl (4, 3, .inr (.inr (.inr (.inr mq)))), .inl (0, 5, .inl fl), .inl (0, 5, .inl br), .inl (0, 5, .inl tk),
   .inr (0, [.int (ml 0).1, .int (ml 0).2.1, .int (ml 0).2.2.1, .ref 16, .ref 17]), .inl (0, 8, .inl (ml 0).2.2.2.1), .inl (0, 8, .inl (ml 0).2.2.2.2),
   .inr (0, [.int (ml 1).1, .int (ml 1).2.1, .int (ml 1).2.2.1, .ref 19, .ref 20]), .inl (0, 8, .inl (ml 1).2.2.2.1), .inl (0, 8, .inl (ml 1).2.2.2.2),
   .inr (0, [.int (ml 2).1, .int (ml 2).2.1, .int (ml 2).2.2.1, .ref 22, .ref 23]), .inl (0, 8, .inl (ml 2).2.2.2.1), .inl (0, 8, .inl (ml 2).2.2.2.2)]
/-- what lies in the mills' rows -/
abbrev vS : Type := Nat → (Nat → Int32) × (Nat → Int32)
abbrev mCo (A : aV) (z : vS) : Nat → mC := fun m => (nI (m_sp (v_ml A m)), nI (m_gr (v_ml A m)), nI (m_lo (v_ml A m)).length, (z m).1, (z m).2)
def vil (A : aV) (z : vS) : j_H := vilr (nI (v_ho A)) (nI (v_go A)) (nI (v_tu A)) (nI (v_re A)) (fun k => nI (v_sd A k)) (fun k => nI (v_sg A k)) (fun i k => nI (v_vn A i k)) (fun k => nI (v_se A k)) (mCo A z) (fun k => nI (v_fl A k)) (fun k => nI (v_br A k)) (fun k => nI (v_tk A k))
def vRel (A : aV) (z : vS) : Prop := ∀ m, m < 3 → mRel (m_lo (v_ml A m)) (z m).1 (z m).2
theorem lt6 {i : Nat} {P : Nat → Prop} (hi : i < 6) (h0 : P 0) (h1 : P 1) (h2 : P 2) (h3 : P 3) (h4 : P 4) (h5 : P 5) : P i := by
  match i, hi with
  | 0, _ => exact h0
  | 1, _ => exact h1
  | 2, _ => exact h2
  | 3, _ => exact h3
  | 4, _ => exact h4
  | 5, _ => exact h5
theorem lt3 {i : Nat} {P : Nat → Prop} (hi : i < 3) (h0 : P 0) (h1 : P 1) (h2 : P 2) : P i := by
  match i, hi with
  | 0, _ => exact h0
  | 1, _ => exact h1
  | 2, _ => exact h2
theorem vp_c {a : Int32} {n : Nat} (h : (decide (a < 0) || decide (n ≤ a.toNatClampNeg)) = false) : vp_in a n := by
  intro q
  rw [Bool.or_eq_false_iff] at h
  rcases q with q | q
  · exact absurd q (of_decide_eq_false h.1)
  · exact absurd q (of_decide_eq_false h.2)
theorem n_eq0 {a : Nat} (h : a < 2 ^ 31) : nI a = 0 ↔ a = 0 := by
  rw [show (0 : Int32) = nI 0 from rfl, n_eq h (by decide)]
theorem c_X1_committee {A : aV} {z : vS} (hA : vOk A) : Ct MX1_committee 0 0 [.ref 0] (vil A z) (jd (.inl (some (.int (nI (com A))))) (vil A z)) := by
  obtain ⟨-, -, -, hv, -⟩ := hA
  refine Ct.of rfl rfl (by decide +kernel) rfl (Nat.le_of_ble_eq_true rfl) ?_
  have L : ∀ (d i : Nat), i + d = 6 → J MX1_committee (jd (.inl (some (.int (nI (com A))))) (vil A z)) 0 0 4 [(0, .ref 0), (1, .int (nI (cntN (free A) i))), (2, .int (nI i))] [] (vil A z) := by
    intro d
    induction d with
    | zero =>
      intro i hi
      refine J.run csX1_committee 20 [] ?_
      refine ⟨fun _ => ?_, fun h => absurd ((n_le (a := 6) (by omega) (by omega)).mpr (by omega)) h⟩
      exact jd_i (by rw [show i = 6 by omega]; rfl) rfl
    | succ d ih =>
      intro i hi
      have ih' := ih (i + 1) (by omega)
      have hlt : i < 6 := by omega
      have key : ∀ c : Int32, c = nI (v_vn A i 3) → (¬ c = 0 → J MX1_committee (jd (.inl (some (.int (nI (com A))))) (vil A z)) 0 0 4 [(0, .ref 0), (1, .int (nI (cntN (free A) i))), (2, .int (nI i + 1))] [] (vil A z)) ∧ (c = 0 → J MX1_committee (jd (.inl (some (.int (nI (com A))))) (vil A z)) 0 0 4 [(0, .ref 0), (1, .int (nI (cntN (free A) i) + 1)), (2, .int (nI i + 1))] [] (vil A z)) := by
        rintro c rfl
        rw [n_eq0 (by have := hv i hlt; omega)]
        refine ⟨fun h => ?_, fun h => ?_⟩
        · rw [cntN_n (by unfold free; exact decide_eq_false h), nI_succ] at ih'
          exact ih'
        · rw [cntN_s (by unfold free; exact decide_eq_true h), nI_succ] at ih'
          exact ih'
      refine J.run csX1_committee 30 [(4, 3)] ?_
      revert key
      refine lt6 (P := fun i => (∀ c : Int32, c = nI (v_vn A i 3) → (¬ c = 0 → J MX1_committee (jd (.inl (some (.int (nI (com A))))) (vil A z)) 0 0 4 [(0, .ref 0), (1, .int (nI (cntN (free A) i))), (2, .int (nI i + 1))] [] (vil A z)) ∧ (c = 0 → J MX1_committee (jd (.inl (some (.int (nI (com A))))) (vil A z)) 0 0 4 [(0, .ref 0), (1, .int (nI (cntN (free A) i) + 1)), (2, .int (nI i + 1))] [] (vil A z))) → wp cdX1_committee [(4, 3)] (jd (.inl (some (.int (nI (com A))))) (vil A z)) 0 0 (J MX1_committee (jd (.inl (some (.int (nI (com A))))) (vil A z)) 0 0) 30 4 [(0, .ref 0), (1, .int (nI (cntN (free A) i))), (2, .int (nI i))] [] (vil A z)) hlt ?_ ?_ ?_ ?_ ?_ ?_
      all_goals
        intro key
        refine ⟨fun h => absurd h (by decide), fun _ => ?_⟩
        refine ⟨vp_c (by decide), vp_c (by decide), ?_⟩
        exact key _ rfl
  refine J.run csX1_committee 20 [(4, 3)] ?_
  exact L _ 0 (Nat.zero_add _)
