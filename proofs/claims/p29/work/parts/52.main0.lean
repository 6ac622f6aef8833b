/-! The law's own world: the class, then five rows; its calls; the script's cells. -/
theorem kL_cell (L : Nat) (xs : Nat → Int32) : j_kS (ML_cell L xs) 2 := by
  have h : j_kS (RL, yL_cell, cL_cell, 2, some .int, 1, 21, [], none, false) 2 := ⟨rfl, j_in (List.mem_of_getElem? (i := 154) (by decide +kernel)) rfl, j_in (List.mem_of_getElem? (i := 153) (by decide +kernel)) rfl, j_in (List.mem_of_getElem? (i := 4) (by decide +kernel)) rfl, by decide +kernel, by decide +kernel, by decide +kernel⟩
  exact h
theorem c_L_cell {L : Nat} {xs : Nat → Int32} {k : Nat} (hL : L ≤ 260) (hk : k < 1000) : ∀ (l : Launch), l.stackTraces = false → ∀ (D : va_G) (T : Nat → ClassId) (ad : Nat → Nat) (sz : Nat),
    vx_Met l yL_cell (j_mw (ML_cell L xs)) (j_rm (ML_cell L xs) 0 0) (va_Pc [.ref (ad j_sid), .int (nI k)] (fun U => j_P D T ad [] sz U ∧ va_X (ad j_sid) L xs U U.heap ∧ ad j_sid < sz)) (j_Q (fun u w => (∃ v, u = .inl (some (.int v))) ∧ w = []) D T (va_A (j_w T ad []) sz) ad (fun i => i = j_sid)) (j_E (fun u w => (∃ v, u = .inl (some (.int v))) ∧ w = []) D T (va_A (j_w T ad []) sz) ad (fun i => i = j_sid)) 0 0 (va_A (j_w T ad []) sz) := by
  have k0 : J (ML_cell L xs) (fun u w => (∃ v, u = .inl (some (.int v))) ∧ w = []) 0 0 0 [(0, .ref j_sid), (1, .int (nI k))] [] [] := by
    refine J.run (csL_cell L xs) 20 [] ?_
    refine ⟨rfl, fun _ => ⟨⟨_, rfl⟩, rfl⟩, fun q => ⟨rfl, ?_, ⟨_, rfl⟩, rfl⟩⟩
    have q : ¬ nI L ≤ nI k := q
    rw [n_le (by omega) (by omega)] at q
    exact vp_n (by omega) (by omega)
  intro l hst D T ad sz
  refine vx_ofW (cc := cL_cell) (maxL := 2) (ret := some .int) (by decide +kernel) (congrArg (· :: j_ws) (j_cd_nil (M := ML_cell L xs) rfl)) ?_
  intro p e s m args below meth c s₁ B hml ht hv
  obtain ⟨rfl, ⟨hsz, hP, hK, hD0, hS0⟩, hX, hlt⟩ := hv
  have hts := atoms_spec (ws := j_mw (ML_cell L xs)) B.pre
  subst hsz
  have hl := lv_entry ([.ref (ad j_sid), .int (nI k)]) (n := 2) (Nat.le_of_ble_eq_true rfl)
  rw [lg_entry_eq]
  refine k0 p l e (j_rm (ML_cell L xs) 0 0) s m _ below meth c D T (va_A (j_w T ad []) s.heap.size) (fun i => i = j_sid) ad 0 0 ⟨B.exec, B.bytes, hml, findClass_of_methodNamed B.named, fun w hw => hts w (List.mem_cons_of_mem _ hw), B.returns, B.notSynchronized, hK, hst, Nat.le_refl _, Nat.le_refl _, Nat.le_refl _, Nat.le_refl _, fun q h => Or.inr h, hS0, ?_, (name_of_methodNamed B.named B.method).1, ⟨rfl, hX, hlt, ?_⟩⟩ ad s.heap [] 0 0 _ ⟨by omega, by omega, hl, hP, hD0.self, va_S.rf, fun _ _ => rfl, fun h1 => by cases h1⟩
  · exact List.eq_nil_iff_forall_not_mem.mpr fun x hx => ht x hx
  · rintro (⟨k9, e9, h9⟩ | h9)
    · cases h9
    · exact absurd hlt (Nat.not_lt.mpr h9)
theorem j_PX_blind {D : va_G} {T : Nat → ClassId} {ad : Nat → Nat} {h : j_H} {sz b L : Nat} {xs : Nat → Int32} {av : List Value} : FrameBlind (va_Pc av (fun U => j_P D T ad h sz U ∧ va_X b L xs U U.heap ∧ b < sz)) := by
  intro a U g mk q
  obtain ⟨q0, ⟨q1, qP, qK, qD, qS⟩, qX, ql⟩ := q
  exact ⟨q0, ⟨q1, qP, va_K.moved (u := U) (U := U.calling g mk a) (Vm.Alike.refl U.vm) qK, qD, qS.blind g mk a⟩, va_X.moved (u := U) (U := U.calling g mk a) (Vm.Alike.refl U.vm) qX, ql⟩
/-- a cell of the script is read -/
theorem J.cell {L : Nat} {xs : Nat → Int32} {Φ : j_F} {bc bs pc idx k : Nat} {lv : j_L} {h : j_H} (hL : L ≤ 260) (hk9 : k < 1000) (hl : Cond.methodLink RL idx yL_cell ∈ j_ws) (hd : decode cL_law pc = .ok (.invokestatic idx, 3))
    (kk : ∀ v, J (ML_law L xs) Φ bc bs (pc + 3) lv [.int v] h) : J (ML_law L xs) Φ bc bs pc lv [.int (nI k), .ref j_sid] h := by
  intro p l e R s m args below meth c D T A N ad0 mc ms hX ad H locs cells slots ls hI
  obtain ⟨hx, hb, hml, hown, hts, hret, hlk, hKk, hstk, hfr, hlo, hmc, hms, hA, hSx, htb, hnm, hsc⟩ := id hX
  obtain ⟨hc, hs, hlv, hP, hD, hSS, hN, hAl⟩ := id hI
  obtain ⟨k1, k2, k3, k5, k6, k7, k8⟩ := kL_cell L xs
  obtain ⟨n1, n2, n3, n4⟩ := (show N j_sid ∧ va_X (ad0 j_sid) L xs s s.heap ∧ ad0 j_sid < s.heap.size ∧ ¬ A (ad0 j_sid) from hsc)
  have had : ad j_sid = ad0 j_sid := hN _ n1
  rw [← had] at n2 n3 n4
  have hM := c_L_cell (xs := xs) hL hk9 l hstk D T ad H.size
  have hsub : ∀ q, va_A (j_w T ad []) H.size q → A q := by
    rintro q (⟨k9, e9, h9⟩ | hq)
    · cases h9
    · exact hA q (Nat.le_trans hSS.1 hq)
  have hGd : GoodIn j_ws (va_wsS RL idx yL_cell (j_mw (ML_cell L xs))) := j_goodL hl (j_goodL k3 (j_goodL k5 (j_goodL k2 j_good)))
  have hr := vx_runS (n := 2) (As := [.ref (ad j_sid), .int (nI k)]) (rest := []) (g := F0 m pc ls [.int (nI k), .ref (ad j_sid)]) (e := e) (H := H) (locs := locs) (cells := cells) (slots := slots) (below := below) (meth := meth) ⟨hx, hb, hml, hown, hts⟩ hM
    (va_cwS 2 hts hGd (congrArg (· :: j_ws) (j_cd_nil k1)) rfl rfl ⟨k6, k7, k8⟩ ⟨Nat.le_trans (Nat.le_of_ble_eq_true rfl) hfr, Nat.le_trans (Nat.le_of_ble_eq_true rfl) hlo⟩)
    ⟨j_PX_blind, fun U hU hW => ⟨rfl, ⟨by rw [hU], fun k9 q9 h9 => by simp [j_w] at h9, va_K.moved hW.alike hKk, ⟨fun i j p q h => by simp [j_w] at h, fun k q h => by simp [j_w] at h⟩, hSx.call hSS hU hW hsub⟩, by
      rw [hU]
      exact va_X.moved hW.alike (va_X.kept n2 (hSS.2.1 _ n3 n4)), Nat.lt_of_lt_of_le n3 hSS.1⟩⟩
    rfl rfl hlv.1 rfl (lv_room (by decide)) (by exact hd) ⟨by omega, by omega⟩
  intro T0 hT X
  rcases hr T0 hT X with ⟨v, st₀, t, T', Lc, h0, X', hLc, e1, e2, ⟨⟨v', hm', ad'', hv, hΦ, hN', hP1, hD1⟩, hF⟩, stp⟩ | ⟨q, st₀, t, T', Lc, E, ce, h0, X', hLc, e1, e2, ⟨⟨hm', ad'', hΦ, hN', hP1, hD1⟩, hF⟩, hce, hcv, hcl9, stp⟩
  · obtain ⟨⟨v2, hv2⟩, rfl⟩ := hΦ
    have hv2 : v' = some (.int v2) := Sum.inl.inj hv2
    subst hv2
    have hv : v = some (.int v2) := Outcome.returned.inj hv
    subst hv
    obtain ⟨g1, g2, g3⟩ := vx_keep h0 e1 hSS (fun q _ h => hsub q h) hsub hLc hF
    rw [← e1] at hP1
    have hP2 : va_P D vwCl (j_w T ad h) T'.heap := j_back_P (ρ := []) (hm := []) (hm' := []) (h := h) rfl hP hD rfl g2 (fun k9 q9 h9 => by simp [j_w] at h9)
    obtain ⟨t2, a1, b1⟩ := kk v2 p l e R s m args below meth c D T A N ad0 mc ms hX ad T'.heap (locs ++ Lc) (cells + 0) (slots + 0) ls
      ⟨by omega, by omega, hlv, hP2, hD, g3, hN, hAl⟩ T' rfl X'
    exact ⟨t2, stp t2 a1, b1⟩
  · obtain ⟨⟨v2, hv2⟩, -⟩ := hΦ
    cases hv2
abbrev MW (K : cK) (h v g l o : Nat → Int32) : j_H := clw K [] ++ [hC h, vC v, gC g, vC l, gC o]
abbrev ρM : List Nat := [223, 224, 225, 226, 227] ++ List.range' 0 223
theorem clw_223 (K : cK) : (clw K []).length = 223 := clw_len K []
theorem MW_get (K : cK) (Y : j_H) (j : Nat) : (clw K [] ++ Y)[223 + j]? = Y[j]? := by
  rw [List.getElem?_append_right (by rw [clw_223]; exact Nat.le_add_right _ _), clw_223]
  exact congrArg (fun i => Y[i]?) (show 223 + j - 223 = j by omega)
theorem MW_set (K : cK) (Y : j_H) (j : Nat) (c : j_C) : (clw K [] ++ Y).set (223 + j) c = clw K [] ++ Y.set j c := by
  rw [List.set_append_right _ _ (by rw [clw_223]; exact Nat.le_add_right _ _), clw_223, show 223 + j - 223 = j by omega]
theorem rM_id : ∀ i, i < 223 → j_f ρM (j_f (List.range' 5 223) i) = i := by decide +kernel
theorem clA_back (K : cK) : (clA K).map (j_rc (j_f ρM)) = clw K [] := by
  unfold clA
  rw [List.map_map, show j_rc (j_f ρM) ∘ j_rc (j_f (List.range' 5 223)) = j_rc (fun i => j_f ρM (j_f (List.range' 5 223) i)) from funext fun c => j_rc_rc _ _ c]
  exact j_rcL_id rM_id _ (clw_bd K)
theorem LW_map (K : cK) (h v g l o : Nat → Int32) : (LW h v g l o (clA K ++ [])).map (j_rc (j_f ρM)) = [hC h, vC v, gC g, vC l, gC o] ++ clw K [] := by
  rw [← clA_back, List.append_nil]
  rfl
theorem nth_cl (K : cK) (Y : j_H) : (List.range' 0 223).map (j_nth (clw K [] ++ Y)) = (clw K []).map some := by
  have := nth_blk [] (clw K []) Y
  rw [clw_223] at this
  exact this
theorem MW_lies (K : cK) (h v g l o : Nat → Int32) : j_lies ρM (LW h v g l o (clA K ++ [])) (MW K h v g l o) := by
  refine j_lies_of (LW_map K h v g l o) ?_
  rw [List.map_append, nth_cl, List.map_append]
  refine congrArg (fun x : List (Option j_C) => x ++ (clw K []).map some) ?_
  show [j_nth (MW K h v g l o) 223, j_nth (MW K h v g l o) 224, j_nth (MW K h v g l o) 225, j_nth (MW K h v g l o) 226, j_nth (MW K h v g l o) 227] = _
  rw [j_nth_eq, j_nth_eq, j_nth_eq, j_nth_eq, j_nth_eq, MW_get K _ 0, MW_get K _ 1, MW_get K _ 2, MW_get K _ 3, MW_get K _ 4]
  rfl
theorem sc_cl (K K' : cK) (Y : j_H) : j_sc (List.range' 0 223) (clw K' []) (clw K [] ++ Y) = clw K' [] ++ Y := by
  have := sc_blk (clw K' []) (clw K []) [] Y (by rw [clw_223, clw_223])
  rw [clw_223] at this
  exact this
theorem MW_back (K K' : cK) (h v g l o h' v' g' l' o' : Nat → Int32) : j_sc ρM ((LW h' v' g' l' o' (clA K' ++ [])).map (j_rc (j_f ρM))) (MW K h v g l o) = MW K' h' v' g' l' o' := by
  rw [LW_map, sc_app _ _ _ _ _ rfl]
  have := sc_blk [hC h', vC v', gC g', vC l', gC o'] [hC h, vC v, gC g, vC l, gC o] (clw K []) [] rfl
  rw [clw_223, List.append_nil, List.append_nil] at this
  rw [show j_sc [223, 224, 225, 226, 227] [hC h', vC v', gC g', vC l', gC o'] (MW K h v g l o) = clw K [] ++ [hC h', vC v', gC g', vC l', gC o'] from this]
  exact sc_cl K K' _
/-- a call of one of the law's methods on all of the world -/
theorem J.mc {M M' : j_M} {Φ Φ' : j_F} {bc bs : Nat} (bc1 bs1 : Nat) {mc1 ms1 pc idx n : Nat} {lv : j_L} {st : List Value} (rest : List Value) {as : List Value} {K : cK} {h v g l o : Nat → Int32}
    (hC9 : Ct M' mc1 ms1 as (LW h v g l o (clA K ++ [])) Φ') (hk : j_kS M' n) (hl : Cond.methodLink (jm_o M) idx (jm_y M') ∈ j_ws) (hd : decode (jm_b M) pc = .ok (.invokestatic idx, 3)) (hR : jm_f M' + 1 ≤ jm_f M ∧ 8 + (jm_n M' + 11) + jm_l M' ≤ jm_l M ∧ jm_a M' = false)
    (hn : as.length = n) (hst9 : st = (as.map (j_v (j_f ρM))).reverse ++ rest) (hcat : (rest.map fun v => v.category).sum ≤ 8) (hb1 : bc1 + mc1 ≤ bc) (hb2 : bs1 + ms1 ≤ bs)
    (hq : ∀ u w, Φ' u w → ∃ x K' h' v' g' l' o', u = .inl (some (.int x)) ∧ w = LW h' v' g' l' o' (clA K' ++ []))
    (kk : ∀ x K' h' v' g' l' o', Φ' (.inl (some (.int x))) (LW h' v' g' l' o' (clA K' ++ [])) → J M Φ bc1 bs1 (pc + 3) lv (.int x :: rest) (MW K' h' v' g' l' o')) : J M Φ bc bs pc lv st (MW K h v g l o) := by
  refine J.callS bc1 bs1 rest ρM hC9 hk hl hd hR.1 hR.2.1 hR.2.2 hn hst9 hcat (MW_lies K h v g l o) (by decide +kernel) hb1 hb2 ?_ ?_
  · intro u w hΦ
    obtain ⟨x, K', h', v', g', l', o', hu, rfl⟩ := hq _ _ hΦ
    have hu : u = some (.int x) := Sum.inl.inj hu
    subst hu
    refine ⟨by rw [LW_len, LW_len], ?_⟩
    rw [MW_back]
    exact kk x K' h' v' g' l' o' hΦ
  · intro E w hΦ
    obtain ⟨x, K', h', v', g', l', o', hu, -⟩ := hq _ _ hΦ
    cases hu
theorem cl_id (K : cK) : (clw K []).map (j_rc (j_f (List.range' 0 223))) = clw K [] := j_rcL_id (fun i hi => j_f_r0 hi) _ (clw_bd K)
/-- a call of one of the law's own methods with handlers -/
theorem J.mH {M M' : j_M} {Φ : j_F} {bc bs : Nat} (bc1 bs1 : Nat) {mc1 ms1 pc idx n : Nat} {lv : j_L} {st : List Value} (rest : List Value) {as : List Value} {K : cK} {r : aR} {c1 : Int32} {Y : j_H}
    (hC9 : Ct M' mc1 ms1 (.ref 0 :: as) (clw K []) (fun u w => u = .inl (some (.int c1)) ∧ ∃ K, cRel r.2.1 K ∧ w = clw K [])) (hk : j_kH M' n) (hl : Cond.methodLink (jm_o M) idx (jm_y M') ∈ j_ws) (hd : decode (jm_b M) pc = .ok (.invokestatic idx, 3)) (hR : jm_f M' + 1 ≤ jm_f M ∧ 8 + (jm_n M' + 11) + jm_l M' ≤ jm_l M ∧ jm_a M' = false)
    (hn : (Value.ref 0 :: as).length = n) (has : as.map (j_v (j_f (List.range' 0 223))) = as) (hst9 : st = as.reverse ++ (.ref 0 :: rest)) (hcat : (rest.map fun v => v.category).sum ≤ 8) (hb1 : bc1 + mc1 ≤ bc) (hb2 : bs1 + ms1 ≤ bs)
    (k : ∀ K', cRel r.2.1 K' → J M Φ bc1 bs1 (pc + 3) lv (.int c1 :: rest) (clw K' [] ++ Y)) : J M Φ bc bs pc lv st (clw K [] ++ Y) := by
  refine J.callH bc1 bs1 rest (List.range' 0 223) hC9 hk hl hd hR.1 hR.2.1 hR.2.2 hn ?_ hcat (j_lies_of (cl_id K) (nth_cl K Y)) (by decide +kernel) hb1 hb2 ?_ ?_
  · rw [hst9, List.map_cons, has, List.reverse_cons, List.append_assoc]
    rfl
  · rintro v9 h' ⟨hv, K', hK', rfl⟩
    cases hv
    refine ⟨by rw [clw_len, clw_len], ?_⟩
    rw [cl_id, sc_cl]
    exact k K' hK'
  · rintro E h' ⟨hv, -⟩
    cases hv
/-- a row is made behind all -/
theorem J.newM {M : j_M} {Φ : j_F} {bc bs pc : Nat} {lv : j_L} {n9 : Int32} {K : cK} {Y : j_H} (N bc1 bs1 : Nat) (Y' : j_H) (hY : Y' = Y ++ [.inl (0, N, .inl (fun _ => 0))]) (hbc : bc1 + 1 ≤ bc) (hbs : bs1 + N ≤ bs) (hn : n9 = nI N ∧ N < 100000) (hd : decode (jm_b M) pc = .ok (.newarray .int, 2)) (ha : jm_a M = true) (hYb : j_bdL 223 Y) (hYl : Y.length ≤ 1000) (hlv : (lv.all fun q => j_vb (223 + Y.length) q.2) = true)
    (k : J M Φ bc1 bs1 (pc + 2) lv [.ref (223 + Y.length)] (clw K [] ++ Y')) : J M Φ bc bs pc lv [.int n9] (clw K [] ++ Y) := by
  have hlen : (clw K [] ++ Y).length = 223 + Y.length := by rw [List.length_append, clw_223]
  refine J.newi N bc1 bs1 hbc hbs hn hd ha ?_ ?_ rfl ?_ ?_
  · rw [hlen]
    exact j_bdL_app (j_bdL_le (Nat.le_add_right _ _) _ (clw_bd K)) (j_bdL_le (Nat.le_add_right _ _) _ hYb)
  · rw [hlen]
    exact hlv
  · rw [hlen]
    show 223 + Y.length + 1 ≤ 1000000
    omega
  · rw [hlen, List.append_assoc, ← hY]
    exact k
