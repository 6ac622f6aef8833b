/-! Reading callees on a part of the world; rates; an hour goes by. -/
theorem j_sc_same : ∀ (ρ : List Nat) (cs : List j_C) (h : j_H), ρ.map (j_nth h) = cs.map some → j_sc ρ cs h = h
  | [], _, h, _ => rfl
  | _ :: _, [], h, e => by simp at e
  | i :: ρ, c :: cs, h, e => by
    have e1 : j_nth h i = some c := by
      have := congrArg List.head? e
      simpa using this
    have e2 : ρ.map (j_nth h) = cs.map some := by
      have := congrArg List.tail e
      simpa using this
    rw [j_nth_eq] at e1
    have e3 : h.set i c = h := by
      apply List.ext_getElem?
      intro k
      by_cases hk : i = k
      · subst hk
        rw [List.getElem?_set_self (List.getElem?_eq_some_iff.mp e1).1, e1]
      · rw [List.getElem?_set_ne hk]
    show j_sc ρ cs (h.set i c) = h
    rw [e3]
    exact j_sc_same ρ cs h e2
theorem j_sc_lies {ρ : List Nat} {hm h : j_H} (hg : j_lies ρ hm h) : j_sc ρ (hm.map (j_rc (j_f ρ))) h = h := j_sc_same ρ _ h (by rw [List.map_map]; exact hg)
/-- a callee that answers and changes nothing, on a part of the world -/
theorem J.callRV {M M' : j_M} {Φ : j_F} {bc bs pc idx n ci i0 : Nat} {lv : j_L} {st : List Value} (rest : List Value) {as : List Value} {h hm : j_H} (ρ : List Nat) {fs : List Value} {q : vw_C} {o : Option Value}
    (hC : Ct M' 0 0 (.ref i0 :: as) hm (jd (.inl o) hm)) (hk : j_kV M' n) (hl : Cond.methodLink (jm_o M) idx (jm_y M') ∈ j_ws) (hd : decode (jm_b M) pc = .ok (.invokevirtual idx, 3)) (hR : jm_f M' + 1 ≤ jm_f M ∧ 8 + (jm_n M' + 11) + jm_l M' ≤ jm_l M ∧ jm_a M' = false ∧ va_nd ρ = true)
    (hg : j_lies ρ hm h) (hn : as.length = n) (hst9 : st = ((Value.ref i0 :: as).map (j_v (j_f ρ))).reverse ++ rest) (hcat : (rest.map fun v => v.category).sum ≤ 8) (hrc : hm[i0]? = some (.inr (ci, fs))) (hcl : vwCl[ci]? = some q) (hcn : q.1 = (jm_y M').cls)
    (k : J M Φ bc bs (pc + 3) lv ((o.map (j_v (j_f ρ))).toList ++ rest) h) : J M Φ bc bs pc lv st h := by
  refine J.callV bc bs rest ρ hC hk hl hd hR.1 hR.2.1 hR.2.2.1 hn hst9 hcat hrc hcl hcn hg hR.2.2.2 (Nat.le_refl _) (Nat.le_refl _) ?_ ?_
  · rintro v h' ⟨hv, rfl⟩
    cases hv
    rw [j_sc_lies hg]
    exact ⟨rfl, k⟩
  · rintro E h' ⟨hv, -⟩
    cases hv
abbrev R24 : List Nat := [0, 1, 2, 3, 4, 5, 6, 7, 8, 9, 10, 11, 12, 13, 14, 15, 16, 17, 18, 19, 20, 21, 22, 23]
theorem vq_map (r : Nat → Nat) (h : ∀ i, i < 24 → r i = i) : (fun j => (vq j).map r) = vq := by
  funext j
  unfold vq
  split <;> first | rfl | exact congrArg some (h _ (by decide))
theorem mq_map (r : Nat → Nat) (h : ∀ i, i < 24 → r i = i) : (fun j => (mq j).map r) = mq := by
  funext j
  unfold mq
  split <;> first | rfl | exact congrArg some (h _ (by decide))
theorem R24_id : ∀ i, i < 24 → j_f R24 i = i := by decide +kernel
theorem vil_id (A : aV) (z : vS) : (vil A z).map (j_rc (j_f R24)) = vil A z := by
  have e1 := vq_map (j_f R24) R24_id
  have e2 := mq_map (j_f R24) R24_id
  show [_, _, _, Sum.inl (3, 6, Sum.inr (Sum.inr (Sum.inr (Sum.inr (fun j => (vq j).map (j_f R24)))))), _, _, _, _, _, _, _, Sum.inl (4, 3, Sum.inr (Sum.inr (Sum.inr (Sum.inr (fun j => (mq j).map (j_f R24)))))), _, _, _, _, _, _, _, _, _, _, _, _] = _
  rw [e1, e2]
  rfl
theorem vil_lies (A : aV) (z : vS) (ex : j_H) : j_lies R24 (vil A z) (vil A z ++ ex) := by
  unfold j_lies
  have e : (vil A z).map (fun c => some (j_rc (j_f R24) c)) = ((vil A z).map (j_rc (j_f R24))).map some := by rw [List.map_map]; rfl
  rw [e, vil_id]
  rfl
def rowr (A : aV) (m i : Nat) (f : Nat → Int32) : Nat → Int32 := fun k => if k < i then nI (rat A m k) else f k
theorem c_X1_fillRates {A : aV} {z : vS} {m : Nat} {f : Nat → Int32} (hA : vOk A) (hm : m < 3) : Ct MX1_fillRates 0 0 [.ref 0, .ref (15 + 3 * m), .ref 24] (vil A z ++ [.inl (0, 24, .inl f)]) (jd (.inl (some (.int (nI (day A m))))) (vil A z ++ [.inl (0, 24, .inl (rowr A m 24 f))])) := by
  have hsp := (hA.2.2.2.2.2 m hm).1
  refine Ct.of rfl rfl (by decide +kernel) rfl (Nat.le_of_ble_eq_true rfl) ?_
  generalize hΦ : jd (.inl (some (.int (nI (day A m))))) (vil A z ++ [.inl (0, 24, .inl (rowr A m 24 f))]) = Φ
  have L : ∀ (d i : Nat), i + d = 24 → J MX1_fillRates Φ 0 0 5 [(0, .ref 0), (1, .ref (15 + 3 * m)), (2, .ref 24), (3, .int (nI (sumN (rat A m) i))), (4, .int (nI i))] [] (vil A z ++ [.inl (0, 24, .inl (rowr A m i f))]) := by
    intro d
    induction d with
    | zero =>
      intro i hi
      refine J.run csX1_fillRates 20 [] ?_
      refine ⟨fun _ => ?_, fun h => absurd ((n_le (a := 24) (by omega) (by omega)).mpr (by omega)) h⟩
      rw [← hΦ, show i = 24 by omega]
      exact jd_i rfl rfl
    | succ d ih =>
      intro i hi
      have hil : i < 24 := by omega
      have hsg := (hA.2.2.1 i hil).2
      have ih' := ih (i + 1) (by omega)
      rw [sumN_s, nI_succ] at ih'
      have er : upd (rowr A m i f) (nI i).toNatClampNeg (nI (rat A m i)) = rowr A m (i + 1) f := by
        rw [cl_n (by omega)]
        funext k
        unfold upd rowr
        by_cases h1 : k = i
        · subst h1; rw [if_pos rfl, if_pos (by omega)]
        · rw [if_neg h1]
          by_cases h2 : k < i
          · rw [if_pos h2, if_pos (by omega)]
          · rw [if_neg h2, if_neg (by omega)]
      -- behind the rate
      have K : J MX1_fillRates Φ 0 0 42 [(0, .ref 0), (1, .ref (15 + 3 * m)), (2, .ref 24), (3, .int (nI (sumN (rat A m) i))), (4, .int (nI i))] [.int (nI (rat A m i)), .int (nI i), .ref 24] (vil A z ++ [.inl (0, 24, .inl (rowr A m i f))]) := by
        refine J.run csX1_fillRates 30 [(5, 5)] ?_
        refine ⟨vp_n (by omega) (by omega), vp_n (by omega) (by omega), ?_⟩
        have e2 : upd (rowr A m i f) (nI i).toNatClampNeg (nI (rat A m i)) (nI i).toNatClampNeg = nI (rat A m i) := pk_us
        refine J.cast ih' ?_ rfl ?_
        · rw [e2]
        · rw [← er]
          rfl
      refine J.run csX1_fillRates 30 [(5, 5)] ?_
      refine ⟨fun h => absurd ((n_le (a := 24) (by omega) (by omega)).mp h) (by omega), fun _ => ?_⟩
      refine J.callRV [.int (nI i), .ref 24] R24 (hm := vil A z) (c_X1_verdictIn hA hil) kX1_verdictIn mRX1_81 dX1_fillRates_18 (by decide) (vil_lies A z _) rfl rfl (Nat.le_of_ble_eq_true rfl) rfl rfl rfl ?_
      have hle := vdi_le A i
      by_cases ht : vdi A i = 0
      · have et : trn A i = true := decide_eq_true ht
        have hb : m_sp (v_ml A m) * v_sg A i ≤ 9 * 9 := Nat.mul_le_mul hsp (by omega)
        have e : ∀ x : Int32, x = nI (m_sp (v_ml A m)) → x * nI (v_sg A (nI i).toNatClampNeg) / 4 = nI (rat A m i) := by
          rintro x rfl
          rw [cl_n (by omega), n_mul, n_div4 (by omega)]
          unfold rat
          rw [et]
          rfl
        have hc : m = 0 ∨ m = 1 ∨ m = 2 := by omega
        rcases hc with rfl | rfl | rfl
        all_goals
          refine J.run csX1_fillRates 30 [(42, 5)] ?_
          refine ⟨fun q => absurd ((n_eq0 (a := vdi A i) (by omega)).mpr ht) q, fun _ => ⟨vp_n (by omega) (by omega), n_ne4, ?_⟩⟩
          rw [← e _ rfl] at K
          exact K
      · have et : trn A i = false := decide_eq_false ht
        have e0 : rat A m i = 0 := by unfold rat; rw [et]; rfl
        refine J.run csX1_fillRates 30 [(42, 5)] ?_
        refine ⟨fun _ => ?_, fun q => absurd ((n_eq0 (a := vdi A i) (by omega)).mp q) ht⟩
        rw [e0] at K
        exact K
  have e0 : rowr A m 0 f = f := funext fun k => if_neg (Nat.not_lt_zero k)
  have X := L _ 0 (Nat.zero_add _)
  rw [e0] at X
  refine J.run csX1_fillRates 20 [(5, 5)] ?_
  exact X
