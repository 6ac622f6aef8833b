/-! Calls by contract, entries, throws and handlers, over worlds by numbers. -/
theorem j_v_v (ad r : Nat → Nat) (v : Value) : j_v ad (j_v r v) = j_v (fun i => ad (r i)) v := by cases v <;> rfl
theorem j_v_m (ad r : Nat → Nat) (l : List Value) : (l.map (j_v r)).map (j_v ad) = l.map (j_v fun i => ad (r i)) := by
  rw [List.map_map]
  exact List.map_congr_left fun v _ => j_v_v ad r v
def j_rc (r : Nat → Nat) : j_C → j_C
  | .inl (t, a) => .inl (t, j_a r a)
  | .inr (c, fs) => .inr (c, fs.map (j_v r))
theorem j_a_a (ad r : Nat → Nat) (a : vp_A) : j_a ad (j_a r a) = j_a (fun i => ad (r i)) a := by
  obtain ⟨n, f⟩ := a
  rcases f with f | f | f | f | f
  · rfl
  · rfl
  · rfl
  · rfl
  · show (n, _) = (n, _)
    refine congrArg (fun g => (n, Sum.inr (Sum.inr (Sum.inr (Sum.inr g))))) (funext fun j => ?_)
    show Option.map ad (Option.map r (f j)) = _
    cases f j <;> rfl
theorem j_c_rc (T : Nat → ClassId) (ad r : Nat → Nat) (c : j_C) : j_c T ad (j_rc r c) = j_c T (fun i => ad (r i)) c := by
  rcases c with ⟨t, a⟩ | ⟨k, fs⟩
  · show Sum.inl (T t, _) = Sum.inl (T t, _)
    rw [j_a_a]
  · show Sum.inr (k, _) = Sum.inr (k, _)
    rw [j_v_m]
def j_f (ρ : List Nat) : Nat → Nat := fun i => ρ.getD i 0
/-- the world h with the cells cs at the places ρ -/
def j_sc : List Nat → List j_C → j_H → j_H
  | i :: ρ, c :: cs, h => j_sc ρ cs (h.set i c)
  | _, _, h => h
theorem j_sc_len : ∀ (ρ : List Nat) (cs : List j_C) (h : j_H), (j_sc ρ cs h).length = h.length
  | [], _, h => rfl
  | _ :: _, [], h => rfl
  | i :: ρ, c :: cs, h => by
    show (j_sc ρ cs (h.set i c)).length = _
    rw [j_sc_len ρ cs, List.length_set]
theorem j_sc_get : ∀ (ρ : List Nat) (cs : List j_C) (h : j_H), ρ.length = cs.length → ∀ (j : Nat) (c : j_C), (j_sc ρ cs h)[j]? = some c → (∃ k : Nat, ρ[k]? = some j ∧ cs[k]? = some c) ∨ (j ∉ ρ ∧ h[j]? = some c)
  | [], _, h, _, j, c, e => Or.inr ⟨List.not_mem_nil, e⟩
  | _ :: _, [], h, hl, j, c, e => by simp at hl
  | i :: ρ, c0 :: cs, h, hl, j, c, e => by
    rcases j_sc_get ρ cs (h.set i c0) (by simpa using hl) j c e with ⟨k, h1, h2⟩ | ⟨h1, h2⟩
    · exact Or.inl ⟨k + 1, by simpa using h1, by simpa using h2⟩
    · by_cases hij : i = j
      · subst hij
        by_cases hlt : i < h.length
        · rw [List.getElem?_set_self hlt] at h2
          exact Or.inl ⟨0, rfl, h2⟩
        · rw [List.getElem?_eq_none (by simpa using hlt)] at h2
          cases h2
      · rw [List.getElem?_set_ne hij] at h2
        exact Or.inr ⟨fun hm => by
          rcases List.mem_cons.mp hm with h | h
          · exact hij h.symm
          · exact h1 h, h2⟩
/-- the callee's world hm lies in the caller's world h at the places ρ -/
def j_lies (ρ : List Nat) (hm h : j_H) : Prop := ρ.map (j_nth h) = hm.map (fun c => some (j_rc (j_f ρ) c))
theorem j_lies_at {ρ : List Nat} {hm h : j_H} (hg : j_lies ρ hm h) {k : Nat} {c : j_C} (hk : hm[k]? = some c) : ∃ i, ρ[k]? = some i ∧ j_f ρ k = i ∧ h[i]? = some (j_rc (j_f ρ) c) := by
  have h1 : (ρ.map (j_nth h))[k]? = some (some (j_rc (j_f ρ) c)) := by rw [hg, List.getElem?_map, hk]; rfl
  rw [List.getElem?_map] at h1
  cases hi : ρ[k]? with
  | none => rw [hi] at h1; cases h1
  | some i =>
    rw [hi] at h1
    refine ⟨i, rfl, ?_, ?_⟩
    · unfold j_f; rw [List.getD_eq_getElem?_getD, hi]; rfl
    · rw [← j_nth_eq]; exact Option.some.inj h1
theorem j_lies_len {ρ : List Nat} {hm h : j_H} (hg : j_lies ρ hm h) : ρ.length = hm.length := by
  have := congrArg List.length hg
  simpa using this
section JCALL
variable {D : va_G} {T : Nat → ClassId} {A : Nat → Prop} {ad : Nat → Nat} {ρ : List Nat} {h hm hm' : j_H} {H H1 : Heap}
theorem j_sub_P (hg : j_lies ρ hm h) (hP : va_P D vwCl (j_w T ad h) H) : va_P D vwCl (j_w T (fun i => ad (j_f ρ i)) hm) H := by
  intro k q hq
  obtain ⟨c, hc, rfl⟩ := j_w_inv hq
  obtain ⟨i, -, h2, h3⟩ := j_lies_at hg hc
  have h4 := hP i _ (j_w_get h3)
  rw [j_c_rc] at h4
  show va_at D vwCl (ad (j_f ρ k), _) H
  rw [h2]
  exact h4
theorem j_sub_D (hg : j_lies ρ hm h) (hn : va_nd ρ = true) (hD : va_D A (j_w T ad h)) : va_D A (j_w T (fun i => ad (j_f ρ i)) hm) := by
  refine ⟨fun a b x y hx hy hxy => ?_, fun k q hq => ?_⟩
  · obtain ⟨c, hc, rfl⟩ := j_w_inv hx
    obtain ⟨c2, hc2, rfl⟩ := j_w_inv hy
    obtain ⟨i, g1, g2, g3⟩ := j_lies_at hg hc
    obtain ⟨i2, g4, g5, g6⟩ := j_lies_at hg hc2
    have hxy : ad (j_f ρ a) = ad (j_f ρ b) := hxy
    rw [g2, g5] at hxy
    have := hD.1 i i2 _ _ (j_w_get g3) (j_w_get g6) hxy
    subst this
    exact va_nd_inj ρ hn a b i g1 g4
  · obtain ⟨c, hc, rfl⟩ := j_w_inv hq
    obtain ⟨i, -, g2, g3⟩ := j_lies_at hg hc
    have := hD.2 i _ (j_w_get g3)
    show A (ad (j_f ρ k))
    rw [g2]
    exact this
theorem j_sub_A {H0 : Heap} {locs : List Loc} (hg : j_lies ρ hm h) (hD : va_D A (j_w T ad h)) (hS : va_S A H0 H locs) (hA : ∀ q, H0.size ≤ q → A q) : ∀ q, va_A (j_w T (fun i => ad (j_f ρ i)) hm) H.size q → A q := by
  intro q hq
  rcases hq with ⟨k, e, hk⟩ | hq
  · obtain ⟨c, hc, he⟩ := j_w_inv hk
    obtain ⟨i, -, g2, g3⟩ := j_lies_at hg hc
    have := hD.2 i _ (j_w_get g3)
    have e2 : q = ad (j_f ρ k) := congrArg Prod.fst he
    rw [e2, g2]
    exact this
  · exact hA q (Nat.le_trans hS.1 hq)
theorem j_back_P (hg : j_lies ρ hm h) (hP : va_P D vwCl (j_w T ad h) H) (hD : va_D A (j_w T ad h)) (hlen : hm'.length = hm.length) (hk : ∀ q : Nat, q < H.size → ¬ va_A (j_w T (fun i => ad (j_f ρ i)) hm) H.size q → H1[q]? = H[q]?)
    (hP1 : va_P D vwCl (j_w T (fun i => ad (j_f ρ i)) hm') H1) : va_P D vwCl (j_w T ad (j_sc ρ (hm'.map (j_rc (j_f ρ))) h)) H1 := by
  intro j q hq
  obtain ⟨c, hc, rfl⟩ := j_w_inv hq
  rcases j_sc_get ρ _ h (by rw [List.length_map, hlen]; exact j_lies_len hg) j c hc with ⟨k, h1, h2⟩ | ⟨h1, h2⟩
  · rw [List.getElem?_map] at h2
    cases hc' : hm'[k]? with
    | none => rw [hc'] at h2; cases h2
    | some c' =>
      rw [hc'] at h2
      cases h2
      have h3 := hP1 k _ (j_w_get hc')
      rw [j_c_rc]
      have e : j_f ρ k = j := by unfold j_f; rw [List.getD_eq_getElem?_getD, h1]; rfl
      rw [← e]
      exact h3
  · have h3 := hP j _ (j_w_get h2)
    refine h3.kept (hk _ h3.lt fun hA => ?_)
    rcases hA with ⟨k, e, hk⟩ | hA
    · obtain ⟨c2, hc2, he⟩ := j_w_inv hk
      obtain ⟨i, g1, g2, g3⟩ := j_lies_at hg hc2
      have e2 : ad j = ad (j_f ρ k) := congrArg Prod.fst he
      rw [g2] at e2
      have := hD.1 j i _ _ (j_w_get h2) (j_w_get g3) e2
      subst this
      exact h1 (List.mem_of_getElem? g1)
    · exact absurd h3.lt (Nat.not_lt.mpr hA)
theorem j_back_D (cs : List j_C) (hD : va_D A (j_w T ad h)) : va_D A (j_w T ad (j_sc ρ cs h)) := by
  have key : ∀ (k : Nat) (q : Nat × va_E), (j_w T ad (j_sc ρ cs h))[k]? = some q → ∃ q0, (j_w T ad h)[k]? = some q0 ∧ q0.1 = q.1 := by
    intro k q hq
    have hl : k < h.length := by
      have := (List.getElem?_eq_some_iff.mp hq).1
      rw [j_w_len, j_sc_len] at this
      exact this
    obtain ⟨c, -, rfl⟩ := j_w_inv hq
    exact ⟨_, j_w_get (List.getElem?_eq_getElem hl), rfl⟩
  refine ⟨fun a b x y hx hy hxy => ?_, fun k q hq => ?_⟩
  · obtain ⟨x0, h1, h2⟩ := key a x hx
    obtain ⟨y0, h3, h4⟩ := key b y hy
    exact hD.1 a b x0 y0 h1 h3 (h2.trans (hxy.trans h4.symm))
  · obtain ⟨q0, h1, h2⟩ := key k q hq
    rw [← h2]
    exact hD.2 k q0 h1
end JCALL
/-- behind a call -/
theorem j_after {M M' : j_M} {Φ Φ' : j_F} {bc bs bc1 bs1 mc1 ms1 pc : Nat} {lv : j_L} {rest : List Value} {h hm : j_H} {ρ : List Nat} {st0 : List Value} {aa : Array Value}
    {p : Program} {l : Launch} {e : Env} {R : Room} {s : State} {m : MethodId} {args : Array Value} {below : List Frame} {meth : Method} {c : Code} {D : va_G} {T : Nat → ClassId} {A : Nat → Prop} {N : Nat → Prop} {ad0 : Nat → Nat} {mc ms : Nat}
    (hX : j_X M p l R s m args meth c D T A N ad0 mc ms) {ad : Nat → Nat} {H : Heap} {locs : List Loc} {cells slots : Nat} {ls : Array Slot} (hI : j_I M s D T A N ad0 mc ms ad H locs cells slots ls bc bs lv h)
    (ha : jm_a M' = false) (hg : j_lies ρ hm h) (hb1 : bc1 + mc1 ≤ bc) (hb2 : bs1 + ms1 ≤ bs)
    (hr : vx_Run p l e R s m args below meth c H locs cells slots mc1 ms1 (F0 m pc ls st0) (rest.map (j_v ad)) (j_Q Φ' D T (va_A (j_w T (fun i => ad (j_f ρ i)) hm) H.size) (fun i => ad (j_f ρ i)) (fun i => jm_a M' = true → i < hm.length) aa)
      (j_E Φ' D T (va_A (j_w T (fun i => ad (j_f ρ i)) hm) H.size) (fun i => ad (j_f ρ i)) (fun i => jm_a M' = true → i < hm.length)) (va_A (j_w T (fun i => ad (j_f ρ i)) hm) H.size))
    (kk : ∀ v hm', Φ' (.inl v) hm' → hm'.length = hm.length ∧ J M Φ bc1 bs1 (pc + 3) lv ((v.map (j_v (j_f ρ))).toList ++ rest) (j_sc ρ (hm'.map (j_rc (j_f ρ))) h))
    (kx : ∀ E hm', Φ' (.inr E) hm' → hm'.length = hm.length ∧ JX M Φ bc1 bs1 pc lv (j_sc ρ (hm'.map (j_rc (j_f ρ))) h) E) :
    W p l e R s m args below meth c H locs cells slots (vx_MQ below (j_Q Φ D T A ad0 N) (j_E Φ D T A ad0 N) args s mc ms A) (F0 m pc ls st0) := by
  obtain ⟨hx, hb, hml, hown, hts, hret, hlk, hKk, hst, hfr, hlo, hmc, hms, hA, hSx, htb, hnm, hsc⟩ := id hX
  obtain ⟨hc, hs, hl, hP, hD, hSS, hN, hAl⟩ := id hI
  have hsub := j_sub_A hg hD hSS hA
  intro T0 hT X
  rcases hr T0 hT X with ⟨v, st₀, t, T', L, h0, X', hL, e1, e2, ⟨⟨v', hm', ad'', hv, hΦ, hN', hP1, hD1⟩, hF⟩, st⟩ | ⟨q, st₀, t, T', L, E, ce, h0, X', hL, e1, e2, ⟨⟨hm', ad'', hΦ, hN', hP1, hD1⟩, hF⟩, hce, hcv, hcl9, st⟩
  · have hv : v = v'.map (j_v ad'') := Outcome.returned.inj hv
    obtain ⟨k1, k2, k3⟩ := vx_keep h0 e1 hSS (fun q _ h => hsub q h) hsub hL hF
    have ea : ad'' = fun i => ad (j_f ρ i) := funext fun i => hN' i (fun h => by rw [ha] at h; cases h)
    rw [ea] at hP1 hv
    obtain ⟨hlen, hk⟩ := kk v' hm' hΦ
    rw [← e1] at hP1
    obtain ⟨t2, a1, b1⟩ := hk p l e R s m args below meth c D T A N ad0 mc ms hX ad T'.heap (locs ++ L) (cells + mc1) (slots + ms1) ls
      ⟨by omega, by omega, hl, j_back_P hg hP hD hlen k2 hP1, j_back_D _ hD, k3, hN, fun h1 i h2 => hAl h1 i (by rw [j_sc_len] at h2; exact h2)⟩ T' rfl X'
    refine ⟨t2, st t2 ?_, b1⟩
    have e3 : ((v'.map (j_v (j_f ρ))).toList ++ rest).map (j_v ad) = v.toList ++ rest.map (j_v ad) := by
      rw [hv]
      cases v' with
      | none => rfl
      | some w => simp [j_v_v]
    rw [e3] at a1
    exact a1
  · obtain ⟨k1, k2, k3⟩ := vx_keep h0 e1 hSS (fun q _ h => hsub q h) hsub hL hF
    have ea : ad'' = fun i => ad (j_f ρ i) := funext fun i => hN' i (fun h => by rw [ha] at h; cases h)
    rw [ea] at hP1
    obtain ⟨hlen, hk⟩ := kx E hm' hΦ
    rw [← e1] at hP1
    obtain ⟨t2, a1, b1⟩ := hk p l e R s m args below meth c D T A N ad0 mc ms hX ad T'.heap (locs ++ L) (cells + mc1) (slots + ms1) ls
      ⟨by omega, by omega, hl, j_back_P hg hP hD hlen k2 hP1, j_back_D _ hD, k3, hN, fun h1 i h2 => hAl h1 i (by rw [j_sc_len] at h2; exact h2)⟩ (rest.map (j_v ad)) q ce (by rw [e1]; exact hce) hcv hcl9 T' rfl X'
    exact ⟨t2, st.trans a1, b1⟩
theorem j_P_blind {D : va_G} {T : Nat → ClassId} {ad : Nat → Nat} {h : j_H} {sz : Nat} {av : List Value} : FrameBlind (va_Pc av (j_P D T ad h sz)) := by
  intro a U g mk q
  obtain ⟨q0, q1, qP, qK, qD, qS⟩ := q
  exact ⟨q0, q1, qP, va_K.moved (u := U) (U := U.calling g mk a) (Vm.Alike.refl U.vm) qK, qD, qS.blind g mk a⟩
/-- what a call needs of the tables, by the callee: of an instance's method, of a static one, of a static one with a table -/
def j_kV (M' : j_M) (n : Nat) : Prop := jm_h M' = [] ∧ j_cd M' ∈ j_ws ∧ Cond.instanceMethod (jm_y M') ∈ j_ws ∧ Cond.selects (jm_y M').cls (jm_y M') (jm_y M') ∈ j_ws ∧ Cond.initialized (jm_y M').cls ∈ j_ws ∧ (jm_y M').cls ≠ "java/lang/invoke/MethodHandle" ∧ (jm_y M').cls ≠ "java/lang/invoke/VarHandle" ∧ (parseMethodDescriptor (jm_y M').desc).map (fun d => d.parameters.length) = some n
def j_kS (M' : j_M) (n : Nat) : Prop := jm_h M' = [] ∧ j_cd M' ∈ j_ws ∧ Cond.static (jm_y M') ∈ j_ws ∧ Cond.initialized (jm_y M').cls ∈ j_ws ∧ (jm_y M').cls ≠ "java/lang/invoke/MethodHandle" ∧ (jm_y M').cls ≠ "java/lang/invoke/VarHandle" ∧ (parseMethodDescriptor (jm_y M').desc).map (fun d => d.parameters.length) = some n
def j_kH (M' : j_M) (n : Nat) : Prop := jm_h M' ≠ [] ∧ j_cd M' ∈ j_ws ∧ Cond.static (jm_y M') ∈ j_ws ∧ Cond.initialized (jm_y M').cls ∈ j_ws ∧ (jm_y M').cls ≠ "java/lang/invoke/MethodHandle" ∧ (jm_y M').cls ≠ "java/lang/invoke/VarHandle" ∧ (parseMethodDescriptor (jm_y M').desc).map (fun d => d.parameters.length) = some n
theorem j_cd_nil {M : j_M} (h : jm_h M = []) : j_cd M = .code (jm_y M) (jm_b M) (jm_n M) (jm_r M) := by
  unfold j_cd
  rw [h]
theorem j_cd_hh {M : j_M} (h : jm_h M ≠ []) : j_cd M = .codeWith (jm_y M) (jm_b M) (jm_n M) (jm_r M) (jm_h M) := by
  unfold j_cd
  split
  · rename_i e; exact absurd e h
  · rename_i e; rw [e]
theorem j_goodL {w : Cond} {ws : List Cond} (hw : w ∈ j_ws) (h : GoodIn j_ws ws) : GoodIn j_ws (w :: ws) := fun x hx => by
  rcases List.mem_cons.mp hx with rfl | hx
  · exact j_good _ hw
  · exact h x hx
theorem J.callV {M M' : j_M} {Φ Φ' : j_F} {bc bs : Nat} (bc1 bs1 : Nat) {mc1 ms1 pc idx n ci i0 : Nat} {lv : j_L} {st : List Value} (rest : List Value) {as : List Value} {h hm : j_H} (ρ : List Nat) {fs : List Value} {q : vw_C}
    (hC : Ct M' mc1 ms1 (.ref i0 :: as) hm Φ') (hk : j_kV M' n) (hl : Cond.methodLink (jm_o M) idx (jm_y M') ∈ j_ws) (hd : decode (jm_b M) pc = .ok (.invokevirtual idx, 3)) (hRf : jm_f M' + 1 ≤ jm_f M) (hRl : 8 + (jm_n M' + 11) + jm_l M' ≤ jm_l M)
    (ha : jm_a M' = false) (hn : as.length = n) (hst9 : st = ((Value.ref i0 :: as).map (j_v (j_f ρ))).reverse ++ rest) (hcat : (rest.map fun v => v.category).sum ≤ 8) (hrc : hm[i0]? = some (.inr (ci, fs))) (hcl : vwCl[ci]? = some q) (hcn : q.1 = (jm_y M').cls)
    (hg : j_lies ρ hm h) (hnd : va_nd ρ = true) (hb1 : bc1 + mc1 ≤ bc) (hb2 : bs1 + ms1 ≤ bs)
    (kk : ∀ v hm', Φ' (.inl v) hm' → hm'.length = hm.length ∧ J M Φ bc1 bs1 (pc + 3) lv ((v.map (j_v (j_f ρ))).toList ++ rest) (j_sc ρ (hm'.map (j_rc (j_f ρ))) h))
    (kx : ∀ E hm', Φ' (.inr E) hm' → hm'.length = hm.length ∧ JX M Φ bc1 bs1 pc lv (j_sc ρ (hm'.map (j_rc (j_f ρ))) h) E) : J M Φ bc bs pc lv st h := by
  intro p l e R s m args below meth c D T A N ad0 mc ms hX ad H locs cells slots ls hI
  obtain ⟨hx, hb, hml, hown, hts, hret, hlk, hKk, hstk, hfr, hlo, hmc, hms, hA, hSx, htb, hnm, hsc⟩ := id hX
  obtain ⟨hc, hs, hlv, hP, hD, hSS, hN, hAl⟩ := id hI
  obtain ⟨k1, k2, k3, k4, k5, k6, k7, k8⟩ := hk
  have hM := hC l hstk D T (fun i => ad (j_f ρ i)) H.size
  have hPm := j_sub_P hg hP
  have hDm := j_sub_D hg hnd hD
  have hsub := j_sub_A hg hD hSS hA
  have hGd : GoodIn j_ws (wsV (jm_o M) idx (jm_y M').cls (jm_y M') (j_mw M')) := j_goodL hl (j_goodL k3 (j_goodL k4 (j_goodL k5 (j_goodL k2 j_good))))
  refine j_after hX hI ha hg hb1 hb2 (vx_runV (n := n) (b := ad (j_f ρ i0)) (As := as.map (j_v fun i => ad (j_f ρ i))) (rest := rest.map (j_v ad)) ⟨hx, hb, hml, hown, hts⟩ hM
    (cwV n hts hGd (congrArg (· :: j_ws) (j_cd_nil k1)) rfl rfl ⟨rfl, k6, k7, k8⟩ ⟨Nat.le_trans hRf hfr, Nat.le_trans hRl hlo⟩)
    ⟨j_P_blind, hcn ▸ va_recv hKk hPm hcl (j_w_get hrc), fun U hU hW => ⟨rfl, by rw [hU], by rw [hU]; exact hPm, va_K.moved hW.alike hKk, hDm.weaken (fun _ _ _ _ => trivial), hSx.call hSS hU hW hsub⟩⟩
    rfl (by rw [List.length_map]; exact hn) hlv.1 ?_ (lv_room ?_) (by exact hd) ⟨by omega, by omega⟩) kk kx
  · show st.map (j_v ad) = _
    rw [hst9, List.map_append, List.map_reverse, j_v_m, List.map_cons, List.reverse_cons, List.append_assoc]
    rfl
  · rw [List.map_map]
    refine Nat.le_trans (Nat.le_of_eq ?_) hcat
    exact congrArg List.sum (List.map_congr_left fun v _ => j_v_cat ad v)
theorem J.callS {M M' : j_M} {Φ Φ' : j_F} {bc bs : Nat} (bc1 bs1 : Nat) {mc1 ms1 pc idx n : Nat} {lv : j_L} {st : List Value} (rest : List Value) {as : List Value} {h hm : j_H} (ρ : List Nat)
    (hC : Ct M' mc1 ms1 as hm Φ') (hk : j_kS M' n) (hl : Cond.methodLink (jm_o M) idx (jm_y M') ∈ j_ws) (hd : decode (jm_b M) pc = .ok (.invokestatic idx, 3)) (hRf : jm_f M' + 1 ≤ jm_f M) (hRl : 8 + (jm_n M' + 11) + jm_l M' ≤ jm_l M)
    (ha : jm_a M' = false) (hn : as.length = n) (hst9 : st = (as.map (j_v (j_f ρ))).reverse ++ rest) (hcat : (rest.map fun v => v.category).sum ≤ 8)
    (hg : j_lies ρ hm h) (hnd : va_nd ρ = true) (hb1 : bc1 + mc1 ≤ bc) (hb2 : bs1 + ms1 ≤ bs)
    (kk : ∀ v hm', Φ' (.inl v) hm' → hm'.length = hm.length ∧ J M Φ bc1 bs1 (pc + 3) lv ((v.map (j_v (j_f ρ))).toList ++ rest) (j_sc ρ (hm'.map (j_rc (j_f ρ))) h))
    (kx : ∀ E hm', Φ' (.inr E) hm' → hm'.length = hm.length ∧ JX M Φ bc1 bs1 pc lv (j_sc ρ (hm'.map (j_rc (j_f ρ))) h) E) : J M Φ bc bs pc lv st h := by
  intro p l e R s m args below meth c D T A N ad0 mc ms hX ad H locs cells slots ls hI
  obtain ⟨hx, hb, hml, hown, hts, hret, hlk, hKk, hstk, hfr, hlo, hmc, hms, hA, hSx, htb, hnm, hsc⟩ := id hX
  obtain ⟨hc, hs, hlv, hP, hD, hSS, hN, hAl⟩ := id hI
  obtain ⟨k1, k2, k3, k5, k6, k7, k8⟩ := hk
  have hM := hC l hstk D T (fun i => ad (j_f ρ i)) H.size
  have hPm := j_sub_P hg hP
  have hDm := j_sub_D hg hnd hD
  have hsub := j_sub_A hg hD hSS hA
  have hGd : GoodIn j_ws (va_wsS (jm_o M) idx (jm_y M') (j_mw M')) := j_goodL hl (j_goodL k3 (j_goodL k5 (j_goodL k2 j_good)))
  refine j_after hX hI ha hg hb1 hb2 (vx_runS (n := n) (As := as.map (j_v fun i => ad (j_f ρ i))) (rest := rest.map (j_v ad)) ⟨hx, hb, hml, hown, hts⟩ hM
    (va_cwS n hts hGd (congrArg (· :: j_ws) (j_cd_nil k1)) rfl rfl ⟨k6, k7, k8⟩ ⟨Nat.le_trans hRf hfr, Nat.le_trans hRl hlo⟩)
    ⟨j_P_blind, fun U hU hW => ⟨rfl, by rw [hU], by rw [hU]; exact hPm, va_K.moved hW.alike hKk, hDm.weaken (fun _ _ _ _ => trivial), hSx.call hSS hU hW hsub⟩⟩
    rfl (by rw [List.length_map]; exact hn) hlv.1 ?_ (lv_room ?_) (by exact hd) ⟨by omega, by omega⟩) kk kx
  · show st.map (j_v ad) = _
    rw [hst9, List.map_append, List.map_reverse, j_v_m]
  · rw [List.map_map]
    refine Nat.le_trans (Nat.le_of_eq ?_) hcat
    exact congrArg List.sum (List.map_congr_left fun v _ => j_v_cat ad v)
theorem J.callH {M M' : j_M} {Φ Φ' : j_F} {bc bs : Nat} (bc1 bs1 : Nat) {mc1 ms1 pc idx n : Nat} {lv : j_L} {st : List Value} (rest : List Value) {as : List Value} {h hm : j_H} (ρ : List Nat)
    (hC : Ct M' mc1 ms1 as hm Φ') (hk : j_kH M' n) (hl : Cond.methodLink (jm_o M) idx (jm_y M') ∈ j_ws) (hd : decode (jm_b M) pc = .ok (.invokestatic idx, 3)) (hRf : jm_f M' + 1 ≤ jm_f M) (hRl : 8 + (jm_n M' + 11) + jm_l M' ≤ jm_l M)
    (ha : jm_a M' = false) (hn : as.length = n) (hst9 : st = (as.map (j_v (j_f ρ))).reverse ++ rest) (hcat : (rest.map fun v => v.category).sum ≤ 8)
    (hg : j_lies ρ hm h) (hnd : va_nd ρ = true) (hb1 : bc1 + mc1 ≤ bc) (hb2 : bs1 + ms1 ≤ bs)
    (kk : ∀ v hm', Φ' (.inl v) hm' → hm'.length = hm.length ∧ J M Φ bc1 bs1 (pc + 3) lv ((v.map (j_v (j_f ρ))).toList ++ rest) (j_sc ρ (hm'.map (j_rc (j_f ρ))) h))
    (kx : ∀ E hm', Φ' (.inr E) hm' → hm'.length = hm.length ∧ JX M Φ bc1 bs1 pc lv (j_sc ρ (hm'.map (j_rc (j_f ρ))) h) E) : J M Φ bc bs pc lv st h := by
  intro p l e R s m args below meth c D T A N ad0 mc ms hX ad H locs cells slots ls hI
  obtain ⟨hx, hb, hml, hown, hts, hret, hlk, hKk, hstk, hfr, hlo, hmc, hms, hA, hSx, htb, hnm, hsc⟩ := id hX
  obtain ⟨hc, hs, hlv, hP, hD, hSS, hN, hAl⟩ := id hI
  obtain ⟨k1, k2, k3, k5, k6, k7, k8⟩ := hk
  have hM := hC l hstk D T (fun i => ad (j_f ρ i)) H.size
  have hPm := j_sub_P hg hP
  have hDm := j_sub_D hg hnd hD
  have hsub := j_sub_A hg hD hSS hA
  have hGd : GoodIn j_ws (va_wsS (jm_o M) idx (jm_y M') (j_mw M')) := j_goodL hl (j_goodL k3 (j_goodL k5 (j_goodL k2 j_good)))
  refine j_after hX hI ha hg hb1 hb2 (vx_runSX (n := n) (As := as.map (j_v fun i => ad (j_f ρ i))) (rest := rest.map (j_v ad)) ⟨hx, hb, hml, hown, hts⟩ hM
    (vx_cwSW n hts hGd (congrArg (· :: j_ws) (j_cd_hh k1)) rfl rfl ⟨k6, k7, k8⟩ ⟨Nat.le_trans hRf hfr, Nat.le_trans hRl hlo⟩)
    ⟨j_P_blind, fun U hU hW => ⟨rfl, by rw [hU], by rw [hU]; exact hPm, va_K.moved hW.alike hKk, hDm.weaken (fun _ _ _ _ => trivial), hSx.call hSS hU hW hsub⟩⟩
    rfl (by rw [List.length_map]; exact hn) hlv.1 ?_ (lv_room ?_) (by exact hd) ⟨by omega, by omega⟩) kk kx
  · show st.map (j_v ad) = _
    rw [hst9, List.map_append, List.map_reverse, j_v_m]
  · rw [List.map_map]
    refine Nat.le_trans (Nat.le_of_eq ?_) hcat
    exact congrArg List.sum (List.map_congr_left fun v _ => j_v_cat ad v)
/-- a method's entry -/
theorem j_args (ad : Nat → Nat) : ∀ (i : Nat) (vs : List Value), lv_args i (vs.map (j_v ad)) = j_l ad (lv_args i vs)
  | _, [] => rfl
  | i, v :: vs => by
    show (i, j_v ad v) :: lv_args _ (vs.map (j_v ad)) = (i, j_v ad v) :: _
    rw [j_v_cat, j_args ad _ vs]
theorem j_slen (ad : Nat → Nat) (vs : List Value) : (lg_sl (vs.map (j_v ad))).length = (lg_sl vs).length := by
  unfold lg_sl
  rw [List.length_flatMap, List.length_flatMap, List.map_map]
  refine congrArg List.sum (List.map_congr_left fun v _ => ?_)
  show (if (j_v ad v).category = 2 then [Slot.val (j_v ad v), Slot.second] else [Slot.val (j_v ad v)]).length = (if v.category = 2 then [Slot.val v, Slot.second] else [Slot.val v]).length
  rw [j_v_cat]
  split <;> rfl
theorem Ct.of {M : j_M} {mc ms : Nat} {as : List Value} {h : j_H} {Φ : j_F} (hh : jm_h M = []) (hs : jm_s M = none) (hy : plainName (jm_y M).cls = true) (ho : (jm_y M).cls = jm_o M) (hn : (lg_sl as).length ≤ jm_n M) (k : J M Φ mc ms 0 (lv_args 0 as) [] h) : Ct M mc ms as h Φ := by
  intro l hst D T ad sz
  refine vx_ofW (cc := jm_b M) (maxL := jm_n M) (ret := jm_r M) hy (congrArg (· :: j_ws) (j_cd_nil hh)) ?_
  intro p e s m args below meth c s₁ B hml ht hv
  obtain ⟨rfl, hsz, hP, hK, hD0, hS0⟩ := hv
  have hts := atoms_spec (ws := j_mw M) B.pre
  subst hsz
  have hl := lv_entry (as.map (j_v ad)) (n := jm_n M) (by rw [j_slen]; exact hn)
  rw [lg_entry_eq]
  rw [j_args] at hl
  refine k p l e (j_rm M mc ms) s m _ below meth c D T (va_A (j_w T ad h) s.heap.size) (fun i => jm_a M = true → i < h.length) ad mc ms ⟨B.exec, B.bytes, hml, ho ▸ findClass_of_methodNamed B.named, fun w hw => hts w (List.mem_cons_of_mem _ hw), B.returns, B.notSynchronized, hK, hst, Nat.le_refl _, Nat.le_refl _, Nat.le_refl _, Nat.le_refl _, fun q h => Or.inr h, hS0, ?_, (name_of_methodNamed B.named B.method).1, ?_⟩ ad s.heap [] 0 0 _ ⟨by omega, by omega, hl, hP, hD0.self, va_S.rf, fun _ _ => rfl, fun h1 i h2 _ h4 => absurd (h4 h1) (by omega)⟩
  · rw [hh]
    exact List.eq_nil_iff_forall_not_mem.mpr fun x hx => ht x hx
  · unfold j_scr; rw [hs]; trivial
theorem Ct.ofH {M : j_M} {mc ms : Nat} {as : List Value} {h : j_H} {Φ : j_F} (hh : jm_h M ≠ []) (hs : jm_s M = none) (hy : plainName (jm_y M).cls = true) (ho : (jm_y M).cls = jm_o M) (hn : (lg_sl as).length ≤ jm_n M) (k : J M Φ mc ms 0 (lv_args 0 as) [] h) : Ct M mc ms as h Φ := by
  intro l hst D T ad sz
  refine vx_ofWH (cc := jm_b M) (maxL := jm_n M) (ret := jm_r M) (hh := jm_h M) hy (congrArg (· :: j_ws) (j_cd_hh hh)) ?_
  intro p e s m args below meth c s₁ B hml hv
  obtain ⟨rfl, hsz, hP, hK, hD0, hS0⟩ := hv
  have hts := atoms_spec (ws := j_mw M) B.pre
  subst hsz
  have hl := lv_entry (as.map (j_v ad)) (n := jm_n M) (by rw [j_slen]; exact hn)
  rw [lg_entry_eq]
  rw [j_args] at hl
  refine k p l e (j_rm M mc ms) s m _ below meth c D T (va_A (j_w T ad h) s.heap.size) (fun i => jm_a M = true → i < h.length) ad mc ms ⟨B.exec, B.bytes, hml, ho ▸ findClass_of_methodNamed B.named, fun w hw => hts w (List.mem_cons_of_mem _ hw), B.returns, B.notSynchronized, hK, hst, Nat.le_refl _, Nat.le_refl _, Nat.le_refl _, Nat.le_refl _, fun q h => Or.inr h, hS0, ?_, (name_of_methodNamed B.named B.method).1, ?_⟩ ad s.heap [] 0 0 _ ⟨by omega, by omega, hl, hP, hD0.self, va_S.rf, fun _ _ => rfl, fun h1 i h2 _ h4 => absurd (h4 h1) (by omega)⟩
  · refine vx_table (x := jm_y M) B (bytes := jm_b M) (maxL' := jm_n M) (ret' := jm_r M) ?_
    have := hts _ List.mem_cons_self
    rw [j_cd_hh hh] at this
    exact this
  · unfold j_scr; rw [hs]; trivial
/-- an exception leaves a method without a table -/
theorem JX.out {M : j_M} {Φ : j_F} {bc bs pc : Nat} {lv : j_L} {h : j_H} {E : String} (hh : jm_h M = []) (hΦ : Φ (.inr E) h) : JX M Φ bc bs pc lv h E := by
  intro p l e R s m args below meth c D T A N ad0 mc ms hX ad H locs cells slots ls hI rest q ce hq hv hcl
  obtain ⟨hx, hb, hml, hown, hts, hret, hlk, hKk, hstk, hfr, hlo, hmc, hms, hA, hSx, htb, hnm, hsc⟩ := id hX
  obtain ⟨hc, hs, hlv, hP, hD, hSS, hN, hAl⟩ := id hI
  refine vx_out (by rw [htb, hh]; intro x hx; cases hx) hlk hq hv hcl (fun t ht hal => ⟨⟨h, ad, hΦ, hN, by rw [ht]; exact hP, hD⟩, hSS.F ht⟩) hSS.2.2 (by omega) (by omega)
/-- caught by the row x of the table, past the rows pre; the handler stores it away -/
theorem JX.catch {M : j_M} {Φ : j_F} {bc bs pc i : Nat} {lv lv' : j_L} {h : j_H} {E : String} (pre : List ExceptionTableEntry) (x : ExceptionTableEntry) (suf : List ExceptionTableEntry) (hsplit : tableOf (jm_h M) = pre ++ x :: suf)
    (hpass : ∀ z ∈ pre, covers z pc = false ∨ (z.catchType ≠ 0 ∧ ∃ nm : String, Cond.classLink (jm_o M) z.catchType nm ∈ j_ws ∧ (E, nm) ∈ j_nc)) (hcov : covers x pc = true) (h0 : x.catchType ≠ 0) (hlink : Cond.classLink (jm_o M) x.catchType E ∈ j_ws) (hE : E ∈ j_cs)
    (hd : decode (jm_b M) x.handlerPc = .ok (.astore i, 2)) (hi : i < jm_n M) (hlv' : ∀ q ∈ lv', q ∈ lv.filter (j_k1 i)) (kk : J M Φ bc bs (x.handlerPc + 2) lv' [] h) : JX M Φ bc bs pc lv h E := by
  intro p l e R s m args below meth c D T A N ad0 mc ms hX ad H locs cells slots ls hI rest q ce hq hv hcl
  obtain ⟨hx, hb, hml, hown, hts, hret, hlk, hKk, hstk, hfr, hlo, hmc, hms, hA, hSx, htb, hnm, hsc⟩ := id hX
  obtain ⟨hc, hs, hlv, hP, hD, hSS, hN, hAl⟩ := id hI
  obtain ⟨u1, u2, u3, u4⟩ := hSx.2.2.2.2
  refine vx_catch hown pre x suf (htb.trans hsplit) (fun z hz => ?_) hcov h0 (hts _ hlink) (va_Nw.use rfl (u2 E hE)) hq hv hcl ?_
  · rcases hpass z hz with h | ⟨h1, nm, h2, h3⟩
    · exact Or.inl h
    · exact Or.inr ⟨h1, nm, hts _ h2, u3 _ h3⟩
  · refine lv_astore hx hb hd hlv hi (congrArg _ (j_l_k1 ad i lv)) (fun ls' hl' => ?_)
    exact kk p l e R s m args below meth c D T A N ad0 mc ms hX ad H locs cells slots ls' (j_I.put hI ⟨hl'.1, hl'.2.1, fun z hz => hl'.2.2 z (List.mem_cons_of_mem _ (by
      obtain ⟨z0, h1, rfl⟩ := List.mem_map.mp hz
      exact List.mem_map.mpr ⟨z0, hlv' z0 h1, rfl⟩))⟩)
/-- 'throw new E(text)' -/
def e_thr (E : String) : j_T := fun Φ bc bs _ _ st h => match st with
  | [] => match Nat.ble 1 bc && Nat.ble 6 bs with
    | true => Φ (.inr E) h
    | false => False
  | _ => False
abbrev j_nms : List String := ["java/lang/RuntimeException", "java/lang/Exception"]
def j_at (w : Cond) : Prop := w ∈ j_ws ∨ (∃ x ∈ j_dc, w = .declares x) ∨ (∃ x ∈ j_cs, w = .castable x x)
theorem j_at_use {s : State} {args : Array Value} {w : Cond} (h : j_at w) (hts : ∀ w ∈ j_ws, w.before args s = true) (hU : j_U s) : w.before args s = true := by
  rcases h with h | ⟨x, hx, rfl⟩ | ⟨x, hx, rfl⟩
  · exact hts _ h
  · exact va_Nw.use rfl (hU.1 x hx)
  · exact va_Nw.use rfl (hU.2.1 x hx)
theorem s_thr {M : j_M} {pc ik is ic : Nat} {E text : String} (hh : jm_h M = []) (hE : Bundle.fit E = true) (hk : Cond.classLink (jm_o M) ik E ∈ j_ws) (hini : Cond.initialized E ∈ j_ws) (hstr : (jm_o M, is, text) ∈ j_str) (hat : ∀ w ∈ vx_atS (jm_o M) ic E j_nms, j_at w)
    (hgood : ∀ w ∈ Cond.classLink (jm_o M) ik E :: Cond.initialized E :: vx_atS (jm_o M) ic E j_nms, vx_ot w = true) (hf : 6 ≤ jm_f M) (hlo9 : 82 ≤ jm_l M)
    (d0 : decode (jm_b M) pc = .ok (.new ik, 3)) (d3 : decode (jm_b M) (pc + 3) = .ok (.dup, 1)) (d4 : decode (jm_b M) (pc + 4) = .ok (.ldc is, 2)) (d6 : decode (jm_b M) (pc + 6) = .ok (.invokespecial ic, 3)) (d9 : decode (jm_b M) (pc + 9) = .ok (.athrow, 1)) : Snd M pc (e_thr E) := by
  intro Φ bc bs K hK lv st h hS
  unfold e_thr at hS
  split at hS
  · split at hS
    · rename_i hbl
      have hbl : 1 ≤ bc ∧ 6 ≤ bs := by simpa using hbl
      intro p l e R s m args below meth c D T A N ad0 mc ms hX ad H locs cells slots ls hI
      obtain ⟨hx, hb, hml, hown, hts, hret, hlk, hKk, hst, hfr, hlo, hmc, hms, hA, hSx, htb, hnm, hsc⟩ := id hX
      obtain ⟨hc, hs, hl, hP, hD, hSS, hN, hAl⟩ := id hI
      obtain ⟨sa, hsa⟩ := hSx.2.2.1 _ hstr
      refine vx_throwS (A := A) hx hb hst hown hE (by decide +kernel) (hts _ hk) (hts _ hini) hsa (fun w hw => j_at_use (hat w hw) hts hSx.2.2.2.2) hgood hSx.1 hSx.2.1 hSS (hl.1.trans hml.symm) d0 d3 d4 d6 d9 (by rw [htb, hh]; intro x hx; cases hx) (Nat.lt_of_lt_of_le (Nat.lt_of_lt_of_le (by decide) hf) hfr) (Nat.le_trans (by exact hlo9) hlo) (by omega) (by omega) hlk (fun t hal hsz hkp => ⟨⟨h, ad, hS, hN, ?_, hD⟩, ?_⟩) hSS.2.2 (by omega) (by omega)
      · exact hP.kept (fun k q hq => hkp _ (hP k q hq).lt)
      · refine ⟨Nat.le_trans hSS.1 hsz, fun q h1 h2 => ?_⟩
        rw [hkp q (Nat.lt_of_lt_of_le h1 hSS.1)]
        exact hSS.2.1 q h1 h2
    · exact hS.elim
  · exact hS.elim
theorem s_thrW {M : j_M} {pc ik is ic : Nat} {E text : String} (hh : jm_h M = []) (hE : Bundle.fit E = true) (hk : Cond.classLink (jm_o M) ik E ∈ j_ws) (hini : Cond.initialized E ∈ j_ws) (hstr : (jm_o M, is, text) ∈ j_str) (hat : ∀ w ∈ vx_atS (jm_o M) ic E j_nms, j_at w)
    (hgood : ∀ w ∈ Cond.classLink (jm_o M) ik E :: Cond.initialized E :: vx_atS (jm_o M) ic E j_nms, vx_ot w = true) (hf : 6 ≤ jm_f M) (hlo9 : 82 ≤ jm_l M)
    (d0 : decode (jm_b M) pc = .ok (.new ik, 3)) (d3 : decode (jm_b M) (pc + 3) = .ok (.dup, 1)) (d4 : decode (jm_b M) (pc + 4) = .ok (.ldc_w is, 3)) (d6 : decode (jm_b M) (pc + 7) = .ok (.invokespecial ic, 3)) (d9 : decode (jm_b M) (pc + 10) = .ok (.athrow, 1)) : Snd M pc (e_thr E) := by
  intro Φ bc bs K hK lv st h hS
  unfold e_thr at hS
  split at hS
  · split at hS
    · rename_i hbl
      have hbl : 1 ≤ bc ∧ 6 ≤ bs := by simpa using hbl
      intro p l e R s m args below meth c D T A N ad0 mc ms hX ad H locs cells slots ls hI
      obtain ⟨hx, hb, hml, hown, hts, hret, hlk, hKk, hst, hfr, hlo, hmc, hms, hA, hSx, htb, hnm, hsc⟩ := id hX
      obtain ⟨hc, hs, hl, hP, hD, hSS, hN, hAl⟩ := id hI
      obtain ⟨sa, hsa⟩ := hSx.2.2.1 _ hstr
      refine vx_throwSW (A := A) hx hb hst hown hE (by decide +kernel) (hts _ hk) (hts _ hini) hsa (fun w hw => j_at_use (hat w hw) hts hSx.2.2.2.2) hgood hSx.1 hSx.2.1 hSS (hl.1.trans hml.symm) d0 d3 d4 d6 d9 (by rw [htb, hh]; intro x hx; cases hx) (Nat.lt_of_lt_of_le (Nat.lt_of_lt_of_le (by decide) hf) hfr) (Nat.le_trans (by exact hlo9) hlo) (by omega) (by omega) hlk (fun t hal hsz hkp => ⟨⟨h, ad, hS, hN, ?_, hD⟩, ?_⟩) hSS.2.2 (by omega) (by omega)
      · exact hP.kept (fun k q hq => hkp _ (hP k q hq).lt)
      · refine ⟨Nat.le_trans hSS.1 hsz, fun q h1 h2 => ?_⟩
        rw [hkp q (Nat.lt_of_lt_of_le h1 hSS.1)]
        exact hSS.2.1 q h1 h2
    · exact hS.elim
  · exact hS.elim
