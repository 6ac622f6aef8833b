/-! Cells that are made: the world grows. -/
def j_vb (n : Nat) : Value → Bool
  | .ref i => Nat.blt i n || Nat.beq i j_sid
  | _ => true
theorem j_v_ag {n k : Nat} {ad ad' : Nat → Nat} (h : ∀ i, i < n ∨ n + k ≤ i → ad' i = ad i) (hs : n + k ≤ j_sid) {v : Value} (hv : j_vb n v = true) : j_v ad' v = j_v ad v := by
  cases v with
  | ref i =>
    refine congrArg Value.ref (h i ?_)
    have hv : (Nat.blt i n || Nat.beq i j_sid) = true := hv
    rcases Bool.or_eq_true _ _ ▸ hv with w | w
    · exact Or.inl (Nat.blt_eq.mp w)
    · have := Nat.eq_of_beq_eq_true w
      exact Or.inr (by omega)
  | _ => rfl
theorem j_c_cg {T : Nat → ClassId} {n : Nat} {r r' : Nat → Nat} (h : ∀ i, i < n → r i = r' i) : ∀ c, j_bd n c → j_c T r c = j_c T r' c := by
  intro c hb
  rcases c with ⟨t, m, a⟩ | ⟨k, fs⟩
  · rcases a with f | f | f | f | f
    · rfl
    · rfl
    · rfl
    · rfl
    · show Sum.inl (T t, m, Sum.inr (Sum.inr (Sum.inr (Sum.inr (fun j => (f j).map r))))) = Sum.inl (T t, m, Sum.inr (Sum.inr (Sum.inr (Sum.inr (fun j => (f j).map r')))))
      refine congrArg (fun g => Sum.inl (T t, m, Sum.inr (Sum.inr (Sum.inr (Sum.inr g))))) (funext fun j => ?_)
      cases e : f j with
      | none => rfl
      | some i => exact congrArg some (h i (hb j i e))
  · refine congrArg (fun x => Sum.inr (k, x)) (List.map_congr_left fun v hv => ?_)
    have := List.all_eq_true.mp hb v hv
    cases v with
    | ref i => exact congrArg Value.ref (h i (of_decide_eq_true this))
    | _ => rfl
theorem j_bdL_mem {n : Nat} : ∀ {h : j_H}, j_bdL n h → ∀ c ∈ h, j_bd n c
  | [], _, _, hc => by cases hc
  | c0 :: t, hb, c, hc => by
    rcases List.mem_cons.mp hc with rfl | hc
    · exact hb.1
    · exact j_bdL_mem hb.2 c hc
theorem j_bdL_app {n : Nat} : ∀ {h h2 : j_H}, j_bdL n h → j_bdL n h2 → j_bdL n (h ++ h2)
  | [], _, _, h2 => h2
  | _ :: _, _, h1, h2 => ⟨h1.1, j_bdL_app h1.2 h2⟩
theorem j_bd_le {n m : Nat} (hnm : n ≤ m) : ∀ c, j_bd n c → j_bd m c := by
  intro c hb
  rcases c with ⟨t, k, a⟩ | ⟨k, fs⟩
  · rcases a with f | f | f | f | f
    · trivial
    · trivial
    · trivial
    · trivial
    · exact fun j i e => Nat.lt_of_lt_of_le (hb j i e) hnm
  · refine List.all_eq_true.mpr fun v hv => ?_
    have := List.all_eq_true.mp hb v hv
    cases v with
    | ref i => exact decide_eq_true (Nat.lt_of_lt_of_le (of_decide_eq_true this) hnm)
    | _ => rfl
theorem j_bdL_le {n m : Nat} (hnm : n ≤ m) : ∀ h, j_bdL n h → j_bdL m h
  | [], _ => trivial
  | c :: t, hb => ⟨j_bd_le hnm c hb.1, j_bdL_le hnm t hb.2⟩
theorem j_bd_rc {n m : Nat} {r : Nat → Nat} (h : ∀ i, i < n → r i < m) : ∀ c, j_bd n c → j_bd m (j_rc r c) := by
  intro c hb
  rcases c with ⟨t, k, a⟩ | ⟨k, fs⟩
  · rcases a with f | f | f | f | f
    · trivial
    · trivial
    · trivial
    · trivial
    · intro j i e
      have e : (f j).map r = some i := e
      cases w : f j with
      | none => rw [w] at e; cases e
      | some i' =>
        rw [w] at e
        cases e
        exact h i' (hb j i' w)
  · show (fs.map (j_v r)).all _ = true
    rw [List.all_map]
    refine List.all_eq_true.mpr fun v hv => ?_
    have := List.all_eq_true.mp hb v hv
    cases v with
    | ref i => exact decide_eq_true (h i (of_decide_eq_true this))
    | _ => rfl
theorem j_bdL_rc {n m : Nat} {r : Nat → Nat} (h : ∀ i, i < n → r i < m) : ∀ l, j_bdL n l → j_bdL m (l.map (j_rc r))
  | [], _ => trivial
  | c :: t, hb => ⟨j_bd_rc h c hb.1, j_bdL_rc h t hb.2⟩
theorem j_w_ag {T : Nat → ClassId} {ad ad' : Nat → Nat} {h : j_H} (hb : j_bdL h.length h) (hag : ∀ i, i < h.length → ad' i = ad i) : j_w T ad' h = j_w T ad h := by
  apply List.ext_getElem?
  intro k
  unfold j_w
  rw [List.getElem?_mapIdx, List.getElem?_mapIdx]
  cases e : h[k]? with
  | none => rfl
  | some c =>
    have hk := (List.getElem?_eq_some_iff.mp e).1
    show some (ad' k, j_c T ad' c) = some (ad k, j_c T ad c)
    rw [hag k hk, j_c_cg hag c (j_bdL_mem hb c (List.mem_of_getElem? e))]
theorem j_w_1 {T : Nat → ClassId} {ad ad' : Nat → Nat} {h : j_H} {c : j_C} (hb : j_bdL h.length h) (hag : ∀ i, i < h.length → ad' i = ad i) : j_w T ad' (h ++ [c]) = j_w T ad h ++ [(ad' h.length, j_c T ad' c)] := by
  rw [← j_w_ag hb hag]
  unfold j_w
  rw [List.mapIdx_append]
  simp
theorem j_I.grow {M : j_M} {s : State} {D : va_G} {T : Nat → ClassId} {A N : Nat → Prop} {ad0 ad ad' : Nat → Nat} {mc ms cells slots cells1 slots1 bc bs bc1 bs1 k : Nat} {H H1 : Heap} {locs locs1 : List Loc} {ls : Array Slot} {lv : j_L} {h h' : j_H}
    (hI : j_I M s D T A N ad0 mc ms ad H locs cells slots ls bc bs lv h) (ha : jm_a M = true) (hag : ∀ i, i < h.length ∨ h.length + k ≤ i → ad' i = ad i) (hs : h.length + k ≤ j_sid) (hle : h.length ≤ h'.length) (hlv : (lv.all fun q => j_vb h.length q.2) = true)
    (hP : va_P D vwCl (j_w T ad' h') H1) (hD : va_D A (j_w T ad' h')) (hS : va_S A s.heap H1 locs1) (hc : cells1 + bc1 ≤ mc) (hsl : slots1 + bs1 ≤ ms) : j_I M s D T A N ad0 mc ms ad' H1 locs1 cells1 slots1 ls bc1 bs1 lv h' := by
  refine ⟨hc, hsl, ?_, hP, hD, hS, fun i hi => ?_, fun h1 i h2 => hI.2.2.2.2.2.2.2 h1 i (Nat.le_trans hle h2)⟩
  · have e : j_l ad' lv = j_l ad lv := List.map_congr_left fun q hq => by
      show (q.1, j_v ad' q.2) = (q.1, j_v ad q.2)
      rw [j_v_ag hag hs (List.all_eq_true.mp hlv q hq)]
    rw [e]
    exact hI.2.2.1
  · have hn := hI.2.2.2.2.2.2.2 ha i
    by_cases q : i < h.length
    · rw [hag i (Or.inl q)]
      exact hI.2.2.2.2.2.2.1 i hi
    · by_cases q2 : i < j_sid
      · exact absurd hi (hn (by omega) q2)
      · rw [hag i (Or.inr (by omega))]
        exact hI.2.2.2.2.2.2.1 i hi
theorem j_st_ag {n k : Nat} {ad ad' : Nat → Nat} (h : ∀ i, i < n ∨ n + k ≤ i → ad' i = ad i) (hs : n + k ≤ j_sid) {st : List Value} (hv : st.all (j_vb n) = true) : st.map (j_v ad') = st.map (j_v ad) := List.map_congr_left fun v hq => j_v_ag h hs (List.all_eq_true.mp hv v hq)
def j_ad (ad : Nat → Nat) (n q : Nat) : Nat → Nat := fun i => if i = n then q else ad i
theorem j_ad_ag (ad : Nat → Nat) (n q : Nat) : ∀ i, i < n ∨ n + 1 ≤ i → j_ad ad n q i = ad i := fun i h => if_neg (by omega)
/-- an object is made -/
theorem J.newo {M : j_M} {Φ : j_F} {bc bs pc idx ci N : Nat} {lv : j_L} {rest : List Value} {h : j_H} {C : String} {F : u_T} {ty : Nat → FieldType} {fs : List Value} (hcl : vwCl[ci]? = some (C, F, N)) (hin : ∀ w ∈ u_ws C F N, w ∈ j_ws) (hty : ∀ k, k < N → parseFieldDescriptor (F k).2.2.1 = some (ty k)) (hw : Cond.classLink (jm_o M) idx C ∈ j_ws) (hinst : Cond.instantiable C N ∈ j_ws) (hini : Cond.initialized C ∈ j_ws) (hfs : ∀ j, j < N → defaultValue (ty j) = vp_V fs j) (hnr : ∀ ad : Nat → Nat, fs.map (j_v ad) = fs)
    (hd : decode (jm_b M) pc = .ok (.new idx, 3)) (ha : jm_a M = true) (hb : j_bdL h.length h) (hlv : (lv.all fun q => j_vb h.length q.2) = true) (hr : rest.all (j_vb h.length) = true) (hs : h.length + 1 ≤ j_sid)
    (k : J M Φ bc bs (pc + 3) lv (.ref h.length :: rest) (h ++ [.inr (ci, fs)])) : J M Φ (bc + 1) (bs + N) pc lv rest h := by
  intro p l e R s m args below meth c D T A N9 ad0 mc ms hX ad H locs cells slots ls hI
  obtain ⟨hx, hb9, hml, hown, hts, hret, hlk, hKk, hstk, hfr, hlo, hmc, hms, hA, hSx, htb, hnm, hsc⟩ := id hX
  obtain ⟨hc, hsl, hlv9, hP, hD, hSS, hN, hAl⟩ := id hI
  refine va_new hx hb9 hts hin ty hty hown (hts _ hw) (hts _ hinst) (hts _ hini) hKk hP hD hSS hA hcl hfs (by omega) (by omega) hd (fun q H1 hP1 hD1 hS1 => ?_)
  have hag := j_ad_ag ad h.length q
  have e1 : j_w T (j_ad ad h.length q) (h ++ [.inr (ci, fs)]) = j_w T ad h ++ [(q, .inr (ci, fs))] := by
    rw [j_w_1 hb (fun i hi => hag i (Or.inl hi))]
    show _ ++ [((if h.length = h.length then q else _), Sum.inr (ci, fs.map (j_v _)))] = _
    rw [if_pos rfl, hnr]
  have X := k p l e R s m args below meth c D T A N9 ad0 mc ms hX (j_ad ad h.length q) H1 locs (cells + 1) (slots + N) ls (hI.grow ha hag hs (by rw [List.length_append]; exact Nat.le_add_right _ _) hlv (by rw [e1]; exact hP1) (by rw [e1]; exact hD1) hS1 (by omega) (by omega))
  rw [List.map_cons, j_st_ag hag hs hr] at X
  have e2 : j_v (j_ad ad h.length q) (.ref h.length) = .ref q := congrArg Value.ref (if_pos rfl)
  rw [e2] at X
  exact X
theorem va_RA_one {U : State} {a b : ClassId} {ty : FieldType} (h1 : va_RA U a ty) (h2 : va_RA U b ty) : a = b := by
  cases ty with
  | object C =>
    obtain ⟨_, _, _, _, _, x⟩ := h1
    obtain ⟨_, _, _, _, _, y⟩ := h2
    exact Option.some.inj (x.symm.trans y)
  | _ => exact Option.some.inj (Eq.trans (Eq.symm h1) h2)
/-- a row of numbers is made -/
theorem J.newa {M : j_M} {Φ : j_F} {bc bs pc N : Nat} {lv : j_L} {rest : List Value} {h : j_H} {n9 : Int32} {ty : FieldType} {atype : ArrayType} {f : (Nat → Int32) ⊕ (Nat → Int64) ⊕ (Nat → UInt32) ⊕ (Nat → UInt64) ⊕ (Nat → Option Nat)} (t : Nat) (hat : newarray.typeOf atype = ty) (hT : j_ty[t]? = some ty) (harr : Cond.arrayClass ty ∈ j_ws) (hn : n9 = nI N ∧ N < 100000) (ha0 : ∀ cA : ClassId, vp_cell cA (N, f) = arrV cA N (fun _ => defaultValue ty)) (hnr : ∀ ad : Nat → Nat, j_a ad (N, f) = (N, f)) (hcb : componentBytes ty ≤ 8)
    (hd : decode (jm_b M) pc = .ok (.newarray atype, 2)) (ha : jm_a M = true) (hb : j_bdL h.length h) (hlv : (lv.all fun q => j_vb h.length q.2) = true) (hr : rest.all (j_vb h.length) = true) (hs : h.length + 1 ≤ j_sid)
    (k : J M Φ bc bs (pc + 2) lv (.ref h.length :: rest) (h ++ [.inl (t, N, f)])) : J M Φ (bc + 1) (bs + N) pc lv (.int n9 :: rest) h := by
  intro p l e R s m args below meth c D T A N9 ad0 mc ms hX ad H locs cells slots ls hI
  obtain ⟨hx, hb9, hml, hown, hts, hret, hlk, hKk, hstk, hfr, hlo, hmc, hms, hA, hSx, htb, hnm, hsc⟩ := id hX
  obtain ⟨hc, hsl, hlv9, hP, hD, hSS, hN, hAl⟩ := id hI
  obtain ⟨rfl, hn⟩ := hn
  have hbytes : N * componentBytes ty ≤ 536870912 := Nat.le_trans (Nat.mul_le_mul (Nat.le_of_lt hn) hcb) (by decide)
  refine va_newa (a0 := (N, f)) hx hb9 (by rw [hat]; exact hts _ harr) hat hKk hP hD hSS hA ha0 (nI_pos (by omega)) (nI_clamp (by omega)) hbytes (by omega) (by omega) hd (fun q cA H1 hK1 hP1 hD1 hS1 => ?_)
  have hcA : cA = T t := by
    have g1 := (hK1.2 (j_tys T).length (cA, ty) (by rw [List.getElem?_append_right (Nat.le_refl _), Nat.sub_self]; rfl)).2
    have g2 := (hKk.2 t _ (j_tys_get hT)).2
    exact va_RA_one g1 g2
  subst hcA
  have hag := j_ad_ag ad h.length q
  have e1 : j_w T (j_ad ad h.length q) (h ++ [.inl (t, N, f)]) = j_w T ad h ++ [(q, .inl (T t, N, f))] := by
    rw [j_w_1 hb (fun i hi => hag i (Or.inl hi))]
    show _ ++ [((if h.length = h.length then q else _), Sum.inl (T t, j_a _ (N, f)))] = _
    rw [if_pos rfl, hnr]
  have X := k p l e R s m args below meth c D T A N9 ad0 mc ms hX (j_ad ad h.length q) H1 locs (cells + 1) (slots + N) ls (hI.grow ha hag hs (by rw [List.length_append]; exact Nat.le_add_right _ _) hlv (by rw [e1]; exact hP1) (by rw [e1]; exact hD1) hS1 (by omega) (by omega))
  rw [List.map_cons, j_st_ag hag hs hr] at X
  have e2 : j_v (j_ad ad h.length q) (.ref h.length) = .ref q := congrArg Value.ref (if_pos rfl)
  rw [e2] at X
  exact X
/-- a row of references is made -/
theorem J.newq {M : j_M} {Φ : j_F} {bc bs pc idx N : Nat} {lv : j_L} {rest : List Value} {h : j_H} {n9 : Int32} {C : String} (t : Nat) (hT : j_ty[t]? = some (.object C)) (hw : Cond.classLink (jm_o M) idx C ∈ j_ws) (hC : C ∈ j_ao) (hn : n9 = nI N ∧ N < 100000)
    (hd : decode (jm_b M) pc = .ok (.anewarray idx, 3)) (ha : jm_a M = true) (hb : j_bdL h.length h) (hlv : (lv.all fun q => j_vb h.length q.2) = true) (hr : rest.all (j_vb h.length) = true) (hs : h.length + 1 ≤ j_sid)
    (k : J M Φ bc bs (pc + 3) lv (.ref h.length :: rest) (h ++ [.inl (t, N, .inr (.inr (.inr (.inr (fun _ => none)))))])) : J M Φ (bc + 1) (bs + N) pc lv (.int n9 :: rest) h := by
  intro p l e R s m args below meth c D T A N9 ad0 mc ms hX ad H locs cells slots ls hI
  obtain ⟨hx, hb9, hml, hown, hts, hret, hlk, hKk, hstk, hfr, hlo, hmc, hms, hA, hSx, htb, hnm, hsc⟩ := id hX
  obtain ⟨hc, hsl, hlv9, hP, hD, hSS, hN, hAl⟩ := id hI
  obtain ⟨rfl, hn⟩ := hn
  refine va_newq hx hb9 hown (hts _ hw) (hSx.2.2.2.2.2.2.2.2.1 C hC) hKk hP hD hSS hA (nI_pos (by omega)) (nI_clamp (by omega)) (by omega) (by omega) (by omega) hd (fun q cA H1 hK1 hP1 hD1 hS1 => ?_)
  have hcA : cA = T t := by
    have g1 := (hK1.2 (j_tys T).length (cA, .object C) (by rw [List.getElem?_append_right (Nat.le_refl _), Nat.sub_self]; rfl)).2
    have g2 := (hKk.2 t _ (j_tys_get hT)).2
    exact va_RA_one g1 g2
  subst hcA
  have hag := j_ad_ag ad h.length q
  have e1 : j_w T (j_ad ad h.length q) (h ++ [.inl (t, N, .inr (.inr (.inr (.inr (fun _ => none)))))]) = j_w T ad h ++ [(q, .inl (T t, N, .inr (.inr (.inr (.inr (fun _ => none))))))] := by
    rw [j_w_1 hb (fun i hi => hag i (Or.inl hi))]
    show _ ++ [((if h.length = h.length then q else _), _)] = _
    rw [if_pos rfl]
    rfl
  have X := k p l e R s m args below meth c D T A N9 ad0 mc ms hX (j_ad ad h.length q) H1 locs (cells + 1) (slots + N) ls (hI.grow ha hag hs (by rw [List.length_append]; exact Nat.le_add_right _ _) hlv (by rw [e1]; exact hP1) (by rw [e1]; exact hD1) hS1 (by omega) (by omega))
  rw [List.map_cons, j_st_ag hag hs hr] at X
  have e2 : j_v (j_ad ad h.length q) (.ref h.length) = .ref q := congrArg Value.ref (if_pos rfl)
  rw [e2] at X
  exact X
/-- Object's own constructor -/
theorem J.objI {M : j_M} {Φ : j_F} {bc bs pc idx i : Nat} {lv : j_L} {rest : List Value} {h : j_H} (hl : Cond.methodLink (jm_o M) idx objectInit ∈ j_ws) (h2 : Cond.instanceMethod objectInit ∈ j_ws) (h3 : Cond.code objectInit ⟨#[0xb1]⟩ 1 none ∈ j_ws) (hd : decode (jm_b M) pc = .ok (.invokespecial idx, 3)) (hf : 1 ≤ jm_f M) (hlo9 : (rest.map fun v => v.category).sum + 12 ≤ jm_l M)
    (k : J M Φ bc bs (pc + 3) lv rest h) : J M Φ bc bs pc lv (.ref i :: rest) h := by
  intro p l e R s m args below meth c D T A N9 ad0 mc ms hX ad H locs cells slots ls hI
  obtain ⟨hx, hb9, hml, hown, hts, hret, hlk, hKk, hstk, hfr, hlo, hmc, hms, hA, hSx, htb, hnm, hsc⟩ := id hX
  obtain ⟨hc, hsl, hlv9, hP, hD, hSS, hN, hAl⟩ := id hI
  refine W.objInit hx hb9 hown (hts _ hl) (hts _ h2) (hts _ h3) rfl (hlv9.1.trans hml.symm) rfl hd (Nat.le_trans hf hfr) ?_ ?_
  · have := j_cat_sum ad rest
    show 2 * 0 + ((rest.map (j_v ad)).map fun v => v.category).sum + 12 ≤ R.locals
    omega
  · exact k p l e R s m args below meth c D T A N9 ad0 mc ms hX ad H locs cells slots ls hI
