/-! Constructors that make cells. -/
theorem vx_plain {l : Launch} {y : MethodName} {ws : List Cond} {rm : Room} {Pc : Array Value → State → Prop} {Qc : Array Value → State → Outcome → State → Prop} {XC : String → State → State → Prop} {mc ms : Nat} {free : Addr → Prop} (hX : ∀ E st t, ¬ XC E st t) (h : vx_Met l y ws rm Pc Qc XC mc ms free) : Met l y ws rm Pc Qc mc ms free := by
  refine MetFree.mono h (fun _ _ hp => hp) (fun _ _ _ _ _ hk => hk) (fun a s o t _ hq => ?_)
  rcases hq with hq | ⟨q, -, E, ce, L, hx, -⟩
  · exact hq
  · exact absurd hx (hX _ _ _)
theorem app_get {i : Nat} {x : j_C} {h ys : j_H} {j : Nat} {c : j_C} (e : ((h.set i x) ++ ys)[j]? = some c) : (j < h.length ∧ ((j = i ∧ c = x) ∨ (j ≠ i ∧ h[j]? = some c))) ∨ ∃ k, j = h.length + k ∧ ys[k]? = some c := by
  by_cases q : j < h.length
  · rw [List.getElem?_append_left (by rw [List.length_set]; exact q)] at e
    refine Or.inl ⟨q, ?_⟩
    by_cases w : i = j
    · subst w
      rw [List.getElem?_set_self q] at e
      exact Or.inl ⟨rfl, (Option.some.inj e).symm⟩
    · rw [List.getElem?_set_ne w] at e
      exact Or.inr ⟨fun z => w z.symm, e⟩
  · rw [List.getElem?_append_right (by rw [List.length_set]; omega), List.length_set] at e
    exact Or.inr ⟨j - h.length, by omega, e⟩
/-- where the callee's cells lie: its object at i, what it makes from n on -/
def j_R (i n k : Nat) : Nat → Nat := j_f (i :: List.range' n k)
theorem j_R_0 (i n k : Nat) : j_R i n k 0 = i := rfl
theorem j_R_s {i n k j : Nat} (h : j < k) : j_R i n k (j + 1) = n + j := by
  show (List.range' n k).getD j 0 = n + j
  rw [List.getD_eq_getElem?_getD, List.getElem?_range' h]
  simp
/-- a constructor's call: it makes the cells cs -/
theorem J.callN {M M' : j_M} {Φ : j_F} {bc bs : Nat} (bc1 bs1 : Nat) {mc1 ms1 pc idx : Nat} {lv : j_L} {st : List Value} (rest : List Value) {h : j_H} {c c0 : j_C} {cs : List j_C} (i : Nat)
    (hC : Ct M' mc1 ms1 [.ref 0] [c] (jd (.inl none) (c0 :: cs))) (hh : jm_h M' = []) (hrt : jm_r M' = none) (hy : (jm_y M').name = "<init>") (hk : j_cd M' ∈ j_ws ∧ Cond.instanceMethod (jm_y M') ∈ j_ws ∧ Cond.initialized (jm_y M').cls ∈ j_ws) (hl : Cond.methodLink (jm_o M) idx (jm_y M') ∈ j_ws ∨ ∃ host, (jm_o M, idx, jm_y M', host) ∈ j_nl)
    (hyd : (jm_y M').cls ≠ "java/lang/invoke/MethodHandle" ∧ (jm_y M').cls ≠ "java/lang/invoke/VarHandle" ∧ (parseMethodDescriptor (jm_y M').desc).map (fun d => d.parameters.length) = some 0)
    (hd : decode (jm_b M) pc = .ok (.invokespecial idx, 3)) (hRf : jm_f M' + 1 ≤ jm_f M) (hRl : 8 + (jm_n M' + 11) + jm_l M' ≤ jm_l M) (ha : jm_a M = true) (hst9 : st = .ref i :: rest) (hcat : (rest.map fun v => v.category).sum ≤ 8)
    (hg : j_lies [i] [c] h) (hb1 : bc1 + mc1 ≤ bc) (hb2 : bs1 + ms1 ≤ bs) (hb : j_bdL h.length h) (hbc : j_bdL (cs.length + 1) (c0 :: cs)) (hlv : (lv.all fun q => j_vb h.length q.2) = true) (hr : rest.all (j_vb h.length) = true) (hs : h.length + cs.length ≤ j_sid)
    (k : J M Φ bc1 bs1 (pc + 3) lv rest ((h.set i (j_rc (j_R i h.length cs.length) c0)) ++ cs.map (j_rc (j_R i h.length cs.length)))) : J M Φ bc bs pc lv st h := by
  intro p l e R s m args below meth c9 D T A N ad0 mc ms hX ad H locs cells slots ls hI
  obtain ⟨hx, hb9, hml, hown, hts, hret, hlk, hKk, hstk, hfr, hlo, hmc, hms, hA, hSx, htb, hnm, hsc⟩ := id hX
  obtain ⟨hc, hsl, hlv9, hP, hD, hSS, hN, hAl⟩ := id hI
  subst hst9
  obtain ⟨k2, k3, k5⟩ := hk
  have hM := vx_plain (fun E st t hx => by
    obtain ⟨⟨hm', ad', ⟨w, -⟩, -⟩, -⟩ := hx
    cases w) (hC l hstk D T (fun i' => ad (j_f [i] i')) H.size)
  have hPm := j_sub_P hg hP
  have hDm := j_sub_D hg rfl hD
  have hsub := j_sub_A hg hD hSS hA
  have hil : i < h.length := by
    obtain ⟨i', h1, h2, h3⟩ := j_lies_at hg (k := 0) rfl
    have : i = i' := Option.some.inj h1
    subst this
    exact (List.getElem?_eq_some_iff.mp h3).1
  have hpre : PreS s H (va_Pc ([Value.ref 0].map (j_v fun i' => ad (j_f [i] i'))) (j_P D T (fun i' => ad (j_f [i] i')) [c] H.size)) (.ref (ad i) :: []) :=
    ⟨j_P_blind, fun U hU hW => ⟨rfl, by rw [hU], by rw [hU]; exact hPm, va_K.moved hW.alike hKk, hDm.weaken (fun _ _ _ _ => trivial), hSx.call hSS hU hW hsub⟩⟩
  have hGd : GoodIn j_ws (j_mw M') := j_goodL k2 j_good
  have hrm : lv_has ls (jm_n M) (j_l ad lv) := hlv9
  have hrun : va_Run p l e R s m args below meth c9 H locs cells slots mc1 ms1 (F0 m pc ls ((Value.ref i :: rest).map (j_v ad))) (rest.map (j_v ad)) (j_Q (jd (.inl none) (c0 :: cs)) D T (va_A (j_w T (fun i' => ad (j_f [i] i')) [c]) H.size) (fun i' => ad (j_f [i] i')) (fun i' => jm_a M' = true → i' < 1) (Value.ref (ad i) :: ([] : List Value)).toArray) (va_A (j_w T (fun i' => ad (j_f [i] i')) [c]) H.size) := by
    have hroom : 2 * (F0 m pc ls ((Value.ref i :: rest).map (j_v ad))).monitorRoom + ((rest.map (j_v ad)).map fun v => v.category).sum ≤ 8 := by
      have := j_cat_sum ad rest
      show 2 * 0 + ((rest.map (j_v ad)).map fun v => v.category).sum ≤ 8
      omega
    have hws : j_mw M' = Cond.code (jm_y M') (jm_b M') (jm_n M') none :: j_ws := by
      show j_cd M' :: j_ws = _
      rw [j_cd_nil hh, hrt]
    rcases hl with hl | ⟨host, hl⟩
    · exact va_runI (As := []) (rest := rest.map (j_v ad)) ⟨hx, hb9, hml, hown, hts⟩ hM (cwI 0 hts hGd hws rfl rfl (hts _ k5) (hts _ hl) (hts _ k3) hy hyd ⟨Nat.le_trans hRf hfr, Nat.le_trans hRl hlo⟩) hpre rfl rfl hlv9.1 rfl hroom hd ⟨by omega, by omega⟩
    · exact va_runIN (As := []) (rest := rest.map (j_v ad)) ⟨hx, hb9, hml, hown, hts⟩ hM ⟨va_cnB 0 hts hGd hws rfl rfl (hSx.2.2.2.2.2.2.2.1 _ hl) (hts _ k5) hyd ⟨Nat.le_trans hRf hfr, Nat.le_trans hRl hlo⟩, hy, hts _ k3⟩ hpre rfl rfl hlv9.1 rfl hroom hd ⟨by omega, by omega⟩
  intro T0 hT X
  obtain ⟨v, st₀, t, T', L, h0, X', hL, e1, e2, ⟨⟨v', hm', ad'', hv, hΦ, hN', hP1, hD1⟩, hF⟩, stp⟩ := hrun T0 hT X
  obtain ⟨w1, rfl⟩ := hΦ
  have w1 : v' = none := Sum.inl.inj w1
  subst w1
  have hv : v = none := Outcome.returned.inj hv
  subst hv
  obtain ⟨kk1, kk2, kk3⟩ := vx_keep h0 e1 hSS (fun q _ h => hsub q h) hsub hL hF
  rw [← e1] at hP1
  have h00 : ad'' 0 = ad i := hN' 0 (fun _ => Nat.zero_lt_one)
  -- the new numbering
  have had : ∃ ad' : Nat → Nat, (∀ j, j < h.length ∨ h.length + cs.length ≤ j → ad' j = ad j) ∧ ∀ j, j < cs.length → ad' (h.length + j) = ad'' (j + 1) := by
    refine ⟨fun j => if h.length ≤ j ∧ j < h.length + cs.length then ad'' (j - h.length + 1) else ad j, fun j hj => if_neg (by omega), fun j hj => ?_⟩
    show (if h.length ≤ h.length + j ∧ h.length + j < h.length + cs.length then ad'' (h.length + j - h.length + 1) else ad (h.length + j)) = _
    rw [if_pos (by omega), show h.length + j - h.length + 1 = j + 1 by omega]
  obtain ⟨ad', hag, hnew⟩ := had
  have hcomp : ∀ j, j < cs.length + 1 → ad' (j_R i h.length cs.length j) = ad'' j := by
    intro j hj
    cases j with
    | zero =>
      rw [j_R_0, hag i (Or.inl hil), h00]
    | succ j => rw [j_R_s (by omega), hnew j (by omega)]
  have hcell : ∀ c ∈ c0 :: cs, j_c T ad' (j_rc (j_R i h.length cs.length) c) = j_c T ad'' c := fun c hc => by
    rw [j_c_rc]
    exact j_c_cg hcomp c (j_bdL_mem hbc c hc)
  have hold : ∀ j, j < h.length → ad' j = ad j := fun j hj => hag j (Or.inl hj)
  have hge : ∀ j, j < cs.length → H.size ≤ ad'' (j + 1) := by
    intro j hj
    obtain ⟨cj, hcj⟩ : ∃ cj, cs[j]? = some cj := ⟨_, List.getElem?_eq_getElem hj⟩
    have hA1 := hD1.2 (j + 1) (ad'' (j + 1), j_c T ad'' cj) (j_w_get (h := c0 :: cs) (i := j + 1) hcj)
    rcases hA1 with ⟨q, e9, hq⟩ | hq
    · obtain ⟨c', hc', he⟩ := j_w_inv hq
      have hq1 : q < 1 := (List.getElem?_eq_some_iff.mp hc').1
      obtain rfl : q = 0 := by omega
      have he : ad'' (j + 1) = ad i := congrArg Prod.fst he
      have := hD1.1 (j + 1) 0 _ _ (j_w_get (h := c0 :: cs) (i := j + 1) hcj) (j_w_get (h := c0 :: cs) (i := 0) rfl) (he.trans h00.symm)
      cases this
    · exact hq
  have hP2 : va_P D vwCl (j_w T ad' ((h.set i (j_rc (j_R i h.length cs.length) c0)) ++ cs.map (j_rc (j_R i h.length cs.length)))) T'.heap := by
    intro j q hq
    obtain ⟨c, hc, rfl⟩ := j_w_inv hq
    rcases app_get hc with ⟨hj, ⟨rfl, rfl⟩ | ⟨hji, hcj⟩⟩ | ⟨k, rfl, hck⟩
    · rw [hcell c0 List.mem_cons_self, hold j hj, ← h00]
      exact hP1 0 _ (j_w_get (h := c0 :: cs) (i := 0) rfl)
    · rw [hold j hj, j_c_cg hold c (j_bdL_mem hb c (List.mem_of_getElem? hcj))]
      have h3 := hP j _ (j_w_get hcj)
      refine h3.kept (kk2 _ h3.lt fun hA9 => ?_)
      rcases hA9 with ⟨q, e9, hq⟩ | hq
      · obtain ⟨c2, hc2, he⟩ := j_w_inv hq
        have hq1 : q < 1 := (List.getElem?_eq_some_iff.mp hc2).1
        obtain rfl : q = 0 := by omega
        have he : ad j = ad i := congrArg Prod.fst he
        obtain ⟨i', g1, g2, g3⟩ := j_lies_at hg (k := 0) rfl
        have : i = i' := Option.some.inj g1
        subst this
        exact hji (hD.1 j i _ _ (j_w_get hcj) (j_w_get g3) he)
      · exact absurd h3.lt (Nat.not_lt.mpr hq)
    · rw [List.getElem?_map] at hck
      cases hcs : cs[k]? with
      | none => rw [hcs] at hck; cases hck
      | some c' =>
        rw [hcs] at hck
        cases hck
        have hk := (List.getElem?_eq_some_iff.mp hcs).1
        rw [hcell c' (List.mem_cons_of_mem _ (List.mem_of_getElem? hcs)), hnew k hk]
        exact hP1 (k + 1) _ (j_w_get (h := c0 :: cs) (i := k + 1) hcs)
  have hadr : ∀ j, j < h.length → ad' j < H.size ∧ A (ad' j) := fun j hj => by
    rw [hold j hj]
    obtain ⟨cj, hcj⟩ : ∃ cj, h[j]? = some cj := ⟨_, List.getElem?_eq_getElem hj⟩
    exact ⟨(hP j _ (j_w_get hcj)).lt, hD.2 j _ (j_w_get hcj)⟩
  have hD2 : va_D A (j_w T ad' ((h.set i (j_rc (j_R i h.length cs.length) c0)) ++ cs.map (j_rc (j_R i h.length cs.length)))) := by
    have key : ∀ (j : Nat) (q : Nat × va_E), (j_w T ad' ((h.set i (j_rc (j_R i h.length cs.length) c0)) ++ cs.map (j_rc (j_R i h.length cs.length))))[j]? = some q → q.1 = ad' j ∧ (j < h.length ∨ ∃ k, j = h.length + k ∧ k < cs.length) := by
      intro j q hq
      obtain ⟨c, hc, rfl⟩ := j_w_inv hq
      refine ⟨rfl, ?_⟩
      rcases app_get hc with ⟨hj, -⟩ | ⟨k, rfl, hck⟩
      · exact Or.inl hj
      · have := (List.getElem?_eq_some_iff.mp hck).1
        rw [List.length_map] at this
        exact Or.inr ⟨k, rfl, this⟩
    refine ⟨fun a b x y hx hy hxy => ?_, fun j q hq => ?_⟩
    · obtain ⟨ex, hx⟩ := key a x hx
      obtain ⟨ey, hy⟩ := key b y hy
      rw [ex, ey] at hxy
      rcases hx with hx | ⟨k, rfl, hk⟩
      · rcases hy with hy | ⟨k', rfl, hk'⟩
        · obtain ⟨ca, hca⟩ : ∃ cj, h[a]? = some cj := ⟨_, List.getElem?_eq_getElem hx⟩
          obtain ⟨cb, hcb⟩ : ∃ cj, h[b]? = some cj := ⟨_, List.getElem?_eq_getElem hy⟩
          rw [hold a hx, hold b hy] at hxy
          exact hD.1 a b _ _ (j_w_get hca) (j_w_get hcb) hxy
        · have h1 := (hadr a hx).1
          have h2 := hge k' hk'
          rw [hnew k' hk'] at hxy
          omega
      · rcases hy with hy | ⟨k', rfl, hk'⟩
        · have h1 := (hadr b hy).1
          have h2 := hge k hk
          rw [hnew k hk] at hxy
          omega
        · rw [hnew k hk, hnew k' hk'] at hxy
          obtain ⟨ca, hca⟩ : ∃ cj, cs[k]? = some cj := ⟨_, List.getElem?_eq_getElem hk⟩
          obtain ⟨cb, hcb⟩ : ∃ cj, cs[k']? = some cj := ⟨_, List.getElem?_eq_getElem hk'⟩
          have := hD1.1 (k + 1) (k' + 1) _ _ (j_w_get (h := c0 :: cs) (i := k + 1) hca) (j_w_get (h := c0 :: cs) (i := k' + 1) hcb) hxy
          omega
    · obtain ⟨eq, hq⟩ := key j q hq
      rw [eq]
      rcases hq with hq | ⟨k, rfl, hk⟩
      · exact (hadr j hq).2
      · rw [hnew k hk]
        exact hA _ (Nat.le_trans hSS.1 (hge k hk))
  obtain ⟨t2, a1, b1⟩ := k p l e R s m args below meth c9 D T A N ad0 mc ms hX ad' T'.heap (locs ++ L) (cells + mc1) (slots + ms1) ls (hI.grow ha hag hs (by rw [List.length_append, List.length_set]; exact Nat.le_add_right _ _) hlv hP2 hD2 kk3 (by omega) (by omega)) T' rfl X'
  refine ⟨t2, stp t2 ?_, b1⟩
  rw [j_st_ag hag hs hr] at a1
  exact a1
theorem set_app (h : j_H) (x y : j_C) : (h ++ [x]).set h.length y = h ++ [y] := by
  rw [List.set_append_right _ _ (Nat.le_refl _), Nat.sub_self]
  rfl
/-- 'new C()': an object and what its constructor makes -/
theorem J.make {M M' : j_M} {Φ : j_F} {bc bs : Nat} (bc1 bs1 : Nat) {mc1 ms1 pc idx idx2 ci N : Nat} {lv : j_L} {rest : List Value} {h : j_H} {C : String} {F : u_T} {ty : Nat → FieldType} {fs : List Value} {c0 : j_C} {cs : List j_C}
    (hC : Ct M' mc1 ms1 [.ref 0] [.inr (ci, fs)] (jd (.inl none) (c0 :: cs))) (hcl : vwCl[ci]? = some (C, F, N)) (hin : ∀ w ∈ u_ws C F N, w ∈ j_ws) (hty : ∀ k, k < N → parseFieldDescriptor (F k).2.2.1 = some (ty k)) (hw : Cond.classLink (jm_o M) idx C ∈ j_ws) (hinst : Cond.instantiable C N ∈ j_ws) (hini : Cond.initialized C ∈ j_ws) (hfs : ∀ j, j < N → defaultValue (ty j) = vp_V fs j) (hnr : ∀ ad : Nat → Nat, fs.map (j_v ad) = fs)
    (hh : jm_h M' = []) (hrt : jm_r M' = none) (hy : (jm_y M').name = "<init>") (hk : j_cd M' ∈ j_ws ∧ Cond.instanceMethod (jm_y M') ∈ j_ws ∧ Cond.initialized (jm_y M').cls ∈ j_ws) (hl : Cond.methodLink (jm_o M) idx2 (jm_y M') ∈ j_ws ∨ ∃ host, (jm_o M, idx2, jm_y M', host) ∈ j_nl)
    (hyd : (jm_y M').cls ≠ "java/lang/invoke/MethodHandle" ∧ (jm_y M').cls ≠ "java/lang/invoke/VarHandle" ∧ (parseMethodDescriptor (jm_y M').desc).map (fun d => d.parameters.length) = some 0)
    (hd0 : decode (jm_b M) pc = .ok (.new idx, 3)) (hd3 : decode (jm_b M) (pc + 3) = .ok (.dup, 1)) (hd4 : decode (jm_b M) (pc + 4) = .ok (.invokespecial idx2, 3)) (hRf : jm_f M' + 1 ≤ jm_f M) (hRl : 8 + (jm_n M' + 11) + jm_l M' ≤ jm_l M) (ha : jm_a M = true) (hcat : (rest.map fun v => v.category).sum ≤ 7)
    (hb1 : bc1 + mc1 + 1 ≤ bc) (hb2 : bs1 + ms1 + N ≤ bs) (hb : j_bdL h.length h) (hbf : j_bd 0 (.inr (ci, fs))) (hbc : j_bdL (cs.length + 1) (c0 :: cs)) (hlv : (lv.all fun q => j_vb h.length q.2) = true) (hr : rest.all (j_vb h.length) = true) (hs : h.length + (cs.length + 1) ≤ j_sid)
    (k : J M Φ bc1 bs1 (pc + 7) lv (.ref h.length :: rest) (h ++ (c0 :: cs).map (j_rc (j_f (List.range' h.length (cs.length + 1)))))) : J M Φ bc bs pc lv rest h := by
  have vb : ∀ v, j_vb h.length v = true → j_vb (h.length + 1) v = true := fun v hv => by
    cases v with
    | ref i =>
      have hv : (Nat.blt i h.length || Nat.beq i j_sid) = true := hv
      show (Nat.blt i (h.length + 1) || Nat.beq i j_sid) = true
      rcases Bool.or_eq_true _ _ ▸ hv with w | w
      · rw [Nat.blt_eq.mpr (Nat.lt_succ_of_lt (Nat.blt_eq.mp w))]
        rfl
      · rw [w, Bool.or_true]
    | _ => rfl
  have hlen : (h ++ [(.inr (ci, fs) : j_C)]).length = h.length + 1 := by rw [List.length_append]; rfl
  refine J.less (bc' := bc1 + mc1 + 1) (bs' := bs1 + ms1 + N) hb1 hb2 ?_
  refine J.newo hcl hin hty hw hinst hini hfs hnr hd0 ha hb hlv hr (by omega) ?_
  refine s_dup hd3 Φ _ _ (J M Φ (bc1 + mc1) (bs1 + ms1)) (fun _ _ _ _ q => q) _ _ _ ⟨rfl, ?_⟩
  have hg : j_lies [h.length] [.inr (ci, fs)] (h ++ [.inr (ci, fs)]) := by
    show [j_nth (h ++ [(.inr (ci, fs) : j_C)]) h.length] = [some (.inr (ci, fs.map (j_v (j_f [h.length]))))]
    rw [j_nth_eq, List.getElem?_append_right (Nat.le_refl _), Nat.sub_self, hnr]
    rfl
  refine J.callN bc1 bs1 (.ref h.length :: rest) h.length hC hh hrt hy hk hl hyd hd4 hRf hRl ha rfl ?_ hg (Nat.le_refl _) (Nat.le_refl _) ?_ hbc ?_ ?_ (by rw [hlen]; omega) ?_
  · show 1 + (rest.map fun v => v.category).sum ≤ 8
    omega
  · rw [hlen]
    exact j_bdL_app (j_bdL_le (Nat.le_succ _) h hb) ⟨j_bd_le (Nat.zero_le _) _ hbf, trivial⟩
  · rw [hlen]
    exact List.all_eq_true.mpr fun q hq => vb _ (List.all_eq_true.mp hlv q hq)
  · rw [hlen]
    show ((Nat.blt h.length (h.length + 1) || Nat.beq h.length j_sid) && rest.all (j_vb (h.length + 1))) = true
    rw [Nat.blt_eq.mpr (Nat.lt_succ_self _), Bool.true_or, Bool.true_and]
    exact List.all_eq_true.mpr fun q hq => vb _ (List.all_eq_true.mp hr q hq)
  · rw [set_app, hlen, List.append_assoc]
    exact k
