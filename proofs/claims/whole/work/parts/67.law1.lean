/-! The law: its world, its calls. -/
def mB (t : mT) (z : Nat → Int32) (r : mR) : j_H := (mw t z r).map (j_rc (j_f (List.range' 223 7)))
def lawW (K : cK) (t : mT) (z : Nat → Int32) (r : mR) (f : Nat → Int64) : j_H := clw K (mB t z r ++ [outc f])
theorem mB_len (t : mT) (z : Nat → Int32) (r : mR) : (mB t z r).length = 7 := rfl
/-- a call of a static method with handlers, the whole world handed on -/
theorem J.callHI {M M' : j_M} {Φ Φ' : j_F} {bc bs : Nat} (bc1 bs1 : Nat) {mc1 ms1 pc idx n : Nat} {lv : j_L} {st : List Value} (rest : List Value) {as : List Value} {h : j_H}
    (hC : Ct M' mc1 ms1 as h Φ') (hk : j_kH M' n) (hl : Cond.methodLink (jm_o M) idx (jm_y M') ∈ j_ws) (hd : decode (jm_b M) pc = .ok (.invokestatic idx, 3)) (hRf : jm_f M' + 1 ≤ jm_f M) (hRl : 8 + (jm_n M' + 11) + jm_l M' ≤ jm_l M)
    (ha : jm_a M' = false) (hn : as.length = n) (hst9 : st = as.reverse ++ rest) (hcat : (rest.map fun v => v.category).sum ≤ 8) (hb1 : bc1 + mc1 ≤ bc) (hb2 : bs1 + ms1 ≤ bs)
    (kk : ∀ v h', Φ' (.inl v) h' → h'.length = h.length ∧ J M Φ bc1 bs1 (pc + 3) lv (v.toList ++ rest) h')
    (kx : ∀ E h', Φ' (.inr E) h' → h'.length = h.length ∧ JX M Φ bc1 bs1 pc lv h' E) : J M Φ bc bs pc lv st h := by
  intro p l e R s m args below meth c D T A N ad0 mc ms hX ad H locs cells slots ls hI
  obtain ⟨hx, hb, hml, hown, hts, hret, hlk, hKk, hstk, hfr, hlo, hmc, hms, hA, hSx, htb, hnm, hsc⟩ := id hX
  obtain ⟨hc, hs, hlv, hP, hD, hSS, hN, hAl⟩ := id hI
  obtain ⟨k1, k2, k3, k5, k6, k7, k8⟩ := hk
  have hM := hC l hstk D T ad H.size
  have hsub : ∀ q, va_A (j_w T ad h) H.size q → A q := by
    intro q hq
    rcases hq with ⟨k, e9, hk⟩ | hq
    · exact hD.2 k _ hk
    · exact hA q (Nat.le_trans hSS.1 hq)
  have hGd : GoodIn j_ws (va_wsS (jm_o M) idx (jm_y M') (j_mw M')) := j_goodL hl (j_goodL k3 (j_goodL k5 (j_goodL k2 j_good)))
  have hr := vx_runSX (n := n) (As := as.map (j_v ad)) (rest := rest.map (j_v ad)) (g := F0 m pc ls (st.map (j_v ad))) (e := e) (H := H) (locs := locs) (cells := cells) (slots := slots) (below := below) (meth := meth) ⟨hx, hb, hml, hown, hts⟩ hM
    (vx_cwSW n hts hGd (congrArg (· :: j_ws) (j_cd_hh k1)) rfl rfl ⟨k6, k7, k8⟩ ⟨Nat.le_trans hRf hfr, Nat.le_trans hRl hlo⟩)
    ⟨j_P_blind, fun U hU hW => ⟨rfl, by rw [hU], by rw [hU]; exact hP, va_K.moved hW.alike hKk, hD.weaken (fun _ _ _ _ => trivial), hSx.call hSS hU hW hsub⟩⟩
    rfl (by rw [List.length_map]; exact hn) hlv.1 (by
      show st.map (j_v ad) = _
      rw [hst9, List.map_append, List.map_reverse]) (lv_room (by rw [j_cat_sum]; exact hcat)) (by exact hd) ⟨by omega, by omega⟩
  intro T0 hT X
  rcases hr T0 hT X with ⟨v, st₀, t, T', L, h0, X', hL, e1, e2, ⟨⟨v', hm', ad'', hv, hΦ, hN', hP1, hD1⟩, hF⟩, stp⟩ | ⟨q, st₀, t, T', L, E, ce, h0, X', hL, e1, e2, ⟨⟨hm', ad'', hΦ, hN', hP1, hD1⟩, hF⟩, hce, hcv, hcl9, stp⟩
  · have hv : v = v'.map (j_v ad'') := Outcome.returned.inj hv
    obtain ⟨k1, k2, k3⟩ := vx_keep h0 e1 hSS (fun q _ h => hsub q h) hsub hL hF
    have ea : ad'' = ad := funext fun i => hN' i (fun h => by rw [ha] at h; cases h)
    rw [ea] at hP1 hv hD1
    obtain ⟨hlen, hk⟩ := kk v' hm' hΦ
    rw [← e1] at hP1
    obtain ⟨t2, a1, b1⟩ := hk p l e R s m args below meth c D T A N ad0 mc ms hX ad T'.heap (locs ++ L) (cells + mc1) (slots + ms1) ls
      ⟨by omega, by omega, hlv, hP1, hD1.weaken (fun _ q _ h => hsub q.1 h), k3, hN, fun h1 i h2 => hAl h1 i (by rw [hlen] at h2; exact h2)⟩ T' rfl X'
    refine ⟨t2, stp t2 ?_, b1⟩
    have e3 : (v'.toList ++ rest).map (j_v ad) = v.toList ++ rest.map (j_v ad) := by
      rw [hv]
      cases v' with
      | none => rfl
      | some w => rfl
    rw [e3] at a1
    exact a1
  · obtain ⟨k1, k2, k3⟩ := vx_keep h0 e1 hSS (fun q _ h => hsub q h) hsub hL hF
    have ea : ad'' = ad := funext fun i => hN' i (fun h => by rw [ha] at h; cases h)
    rw [ea] at hP1 hD1
    obtain ⟨hlen, hk⟩ := kx E hm' hΦ
    rw [← e1] at hP1
    obtain ⟨t2, a1, b1⟩ := hk p l e R s m args below meth c D T A N ad0 mc ms hX ad T'.heap (locs ++ L) (cells + mc1) (slots + ms1) ls
      ⟨by omega, by omega, hlv, hP1, hD1.weaken (fun _ q _ h => hsub q.1 h), k3, hN, fun h1 i h2 => hAl h1 i (by rw [hlen] at h2; exact h2)⟩ (rest.map (j_v ad)) q ce (by rw [e1]; exact hce) hcv hcl9 T' rfl X'
    exact ⟨t2, stp.trans a1, b1⟩
/-- a call of the model -/
theorem J.callMd {M M' : j_M} {Φ Φ' : j_F} {bc bs pc idx n : Nat} {lv : j_L} {st : List Value} (rest : List Value) {as : List Value} {K : cK} {t : mT} {z : Nat → Int32} {r : mR} {f : Nat → Int64}
    (hC : Ct M' 0 0 (.ref 0 :: as) (mw t z r) Φ') (hk : j_kV M' n) (hl : Cond.methodLink (jm_o M) idx (jm_y M') ∈ j_ws) (hd : decode (jm_b M) pc = .ok (.invokevirtual idx, 3)) (hR : jm_f M' + 1 ≤ jm_f M ∧ 8 + (jm_n M' + 11) + jm_l M' ≤ jm_l M ∧ jm_a M' = false)
    (hn : as.length = n) (has : ∀ ad : Nat → Nat, as.map (j_v ad) = as) (hst9 : st = as.reverse ++ (.ref 223 :: rest)) (hcat : (rest.map fun v => v.category).sum ≤ 8) (hcn : RX4 = (jm_y M').cls)
    (hq : ∀ o h', Φ' o h' → ∃ v t' z' r', o = .inl (some v) ∧ h' = mw t' z' r' ∧ ∀ ad : Nat → Nat, j_v ad v = v)
    (k : ∀ v t' z' r', Φ' (.inl (some v)) (mw t' z' r') → J M Φ bc bs (pc + 3) lv (v :: rest) (lawW K t' z' r' f)) : J M Φ bc bs pc lv st (lawW K t z r f) := by
  have e0 : ∀ t z r, lawW K t z r f = clw K [] ++ (mB t z r ++ [outc f]) := fun t z r => clw_app _ _
  have h223 : (clw K []).length = 223 := clw_len K []
  have hlies : j_lies (List.range' 223 7) (mw t z r) (lawW K t z r f) := by
    refine j_lies_of (X := mB t z r) rfl ?_
    rw [e0]
    have := nth_blk (clw K []) (mB t z r) [outc f]
    rw [h223, mB_len] at this
    exact this
  refine J.callV bc bs rest (List.range' 223 7) hC hk hl hd hR.1 hR.2.1 hR.2.2 hn ?_ hcat (i0 := 0) rfl (ci := 4) rfl hcn hlies (by decide) (Nat.le_refl _) (Nat.le_refl _) ?_ ?_
  · rw [hst9, List.map_cons, has, List.reverse_cons, List.append_assoc]
    rfl
  · intro v h' hΦ
    obtain ⟨v', t', z', r', hv, rfl, hv2⟩ := hq _ _ hΦ
    have hv : v = some v' := Sum.inl.inj hv
    subst hv
    refine ⟨rfl, ?_⟩
    have X := k v' t' z' r' hΦ
    have e1 : j_sc (List.range' 223 7) ((mw t' z' r').map (j_rc (j_f (List.range' 223 7)))) (lawW K t z r f) = lawW K t' z' r' f := by
      rw [e0, e0]
      have := sc_blk (mB t' z' r') (mB t z r) (clw K []) [outc f] rfl
      rw [h223, mB_len] at this
      exact this
    rw [e1]
    show J M Φ bc bs (pc + 3) lv (j_v _ v' :: rest) _
    rw [hv2]
    exact X
  · intro E h' hΦ
    obtain ⟨v', t', z', r', hv, -⟩ := hq _ _ hΦ
    cases hv
theorem J.lald {M : j_M} {Φ : j_F} {bc bs pc : Nat} {lv : j_L} {r : List Value} {h : j_H} {i n : Nat} {x : Int32} {f : Nat → Int64} (hd : decode (jm_b M) pc = .ok (.laload, 1)) (h1 : h[i]? = some (.inl (1, n, .inr (.inl f)))) (hin : vp_in x n)
    (k : J M Φ bc bs (pc + 1) lv (.long (f x.toNatClampNeg) :: r) h) : J M Φ bc bs pc lv (.int x :: .ref i :: r) h := by
  refine s_lald hd Φ bc bs (J M Φ bc bs) (fun _ _ _ _ q => q) _ _ _ ?_
  show j_la 1 h i (fun n f => vp_in x n ∧ J M Φ bc bs (pc + 1) lv (.long (f x.toNatClampNeg) :: r) h)
  unfold j_la
  rw [j_nth_eq, h1]
  exact ⟨hin, k⟩
theorem lg_cmp_0 {x y : Int64} (h : x = y) : lg_cmp x y = 0 := by
  subst h
  unfold lg_cmp
  simp
theorem mQ_q {res : aR} : ∀ o h', mQ res o h' → ∃ v t' z' r', o = .inl (some v) ∧ h' = mw t' z' r' ∧ ∀ ad : Nat → Nat, j_v ad v = v := by
  rintro o h' ⟨ho, t, z, r, -, -, hh⟩
  exact ⟨_, t, z, r, ho, hh, fun _ => rfl⟩
theorem lawW_e {K : cK} {t t' : mT} {z z' : Nat → Int32} {r r' : mR} {f : Nat → Int64} (h : mw t z r = mw t' z' r') : lawW K t z r f = lawW K t' z' r' f := by
  unfold lawW mB
  rw [h]
/-- what holds at a place of the law's loop -/
abbrev lwI (L : Nat) (xs : Nat → Int32) (Φ : j_F) (bc bs pc i : Nat) : Prop := ∀ S K t z r f, cRel S K → mRl S t z r → J (ML_law L xs) Φ bc bs pc [(0, .ref j_sid), (1, .ref 0), (2, .ref 223), (3, .ref 230), (4, .int (nI i))] [] (lawW K t z r f)
