/-! The law's numbers beside a village; its small methods. -/
/-- winds, vanes, the clock's and mills' numbers, lots, owners -/
def hR (A : aV) (h : Nat → Int32) : Prop := ∀ k, k < 24 → h (2 * k) = nI (v_sd A k) ∧ h (2 * k + 1) = nI (v_sg A k)
def vR (A : aV) (v : Nat → Int32) : Prop := ∀ i, i < 6 → ∀ w, w < 4 → v (4 * i + w) = nI (v_vn A i w)
def gR (A : aV) (g : Nat → Int32) : Prop := (g 0 = nI (v_ho A) ∧ g 1 = nI (v_go A) ∧ g 2 = nI (v_tu A) ∧ g 3 = nI (v_re A)) ∧ (∀ s, s < 2 → g (4 + s) = nI (v_se A s)) ∧ ∀ m, m < 3 → g (6 + m) = nI (m_sp (v_ml A m)) ∧ g (9 + m) = nI (v_lo A m).length ∧ g (12 + m) = nI (m_gr (v_ml A m))
def lR (A : aV) (l : Nat → Int32) : Prop := ∀ m, m < 3 → ∀ k, k < (v_lo A m).length → l (8 * m + k) = nI (100 * lo_o (v_lo A m) k + lo_s (v_lo A m) k)
def oR (A : aV) (o : Nat → Int32) : Prop := ∀ k, k < 5 → o (3 * k) = nI (v_fl A k) ∧ o (3 * k + 1) = nI (v_br A k) ∧ o (3 * k + 2) = nI (v_tk A k)
abbrev hC (h : Nat → Int32) : j_C := .inl (0, 48, .inl h)
abbrev vC (v : Nat → Int32) : j_C := .inl (0, 24, .inl v)
abbrev gC (g : Nat → Int32) : j_C := .inl (0, 15, .inl g)
/-- a call of a static method that changes nothing -/
theorem J.pureS {M M' : j_M} {Φ : j_F} {bc bs pc idx n : Nat} {lv : j_L} {st : List Value} (rest : List Value) {as : List Value} {h hm : j_H} {o : Option Value} (ρ : List Nat)
    (hC : Ct M' 0 0 as hm (jd (.inl o) hm)) (hk : j_kS M' n) (hl : Cond.methodLink (jm_o M) idx (jm_y M') ∈ j_ws) (hd : decode (jm_b M) pc = .ok (.invokestatic idx, 3)) (hR : jm_f M' + 1 ≤ jm_f M ∧ 8 + (jm_n M' + 11) + jm_l M' ≤ jm_l M ∧ jm_a M' = false)
    (hn : as.length = n) (hst9 : st = (as.map (j_v (j_f ρ))).reverse ++ rest) (hcat : (rest.map fun v => v.category).sum ≤ 8) (hg : j_lies ρ hm h) (hnd : va_nd ρ = true)
    (k : J M Φ bc bs (pc + 3) lv ((o.map (j_v (j_f ρ))).toList ++ rest) h) : J M Φ bc bs pc lv st h := by
  refine J.callS bc bs rest ρ hC hk hl hd hR.1 hR.2.1 hR.2.2 hn hst9 hcat hg hnd (Nat.le_refl _) (Nat.le_refl _) ?_ ?_
  · rintro v h' ⟨hv, rfl⟩
    cases hv
    refine ⟨rfl, ?_⟩
    rw [j_sc_same]
    · exact k
    · rw [List.map_map]
      exact hg
  · rintro E h' ⟨hv, -⟩
    cases hv
theorem n_mulc (a b : Nat) (x : Int32) (e : x = nI b := by rfl) : nI a * x = nI (a * b) := by rw [e, n_mul]
theorem n_add2 {x : Int32} {a b : Nat} (e : x = nI a) : x + nI b = nI (a + b) := by rw [e, nI_add]
/-- the places of the rows -/
theorem ix_h (k : Nat) : nI 2 * nI k = nI (2 * k) := n_mul 2 k
theorem ix_v (i : Nat) : nI 4 * nI i = nI (4 * i) := n_mul 4 i
theorem c_L_low (x : Int32) {n : Nat} (h0 : 0 < n) (hn : n < 2 ^ 31) : Ct ML_low 0 0 [.int x, .int (nI n)] [] (fun o h' => (∃ r, r < n ∧ o = .inl (some (.int (nI r)))) ∧ h' = []) := by
  refine Ct.of rfl rfl (by decide +kernel) rfl (Nat.le_of_ble_eq_true rfl) ?_
  obtain ⟨j, hj, e⟩ := pk_andE x (m := 2147483647) 31 (by decide +kernel)
  refine J.run csL_low 20 [] ?_
  refine ⟨nI_ne0 h0 hn, ⟨j % n, Nat.mod_lt _ h0, ?_⟩, rfl⟩
  show Sum.inl (some (Value.int ((x &&& 2147483647) - (x &&& 2147483647) / nI n * nI n))) = _
  rw [e, pk_rem hj h0 hn]
theorem cg2 {α β γ : Type} (f : α → β → γ) {a a' : α} {b b' : β} (h1 : a = a') (h2 : b = b') : f a b = f a' b' := by rw [h1, h2]
theorem cg3 {α β γ δ : Type} (f : α → β → γ → δ) {a a' : α} {b b' : β} {c c' : γ} (h1 : a = a') (h2 : b = b') (h3 : c = c') : f a b c = f a' b' c' := by rw [h1, h2, h3]
/-- agrees -/
theorem c_L_agrees {A : aV} {h v : Nat → Int32} {i k : Nat} (hA : vOk A) (hh : hR A h) (hv : vR A v) (hi : i < 6) (hk : k < 24) : Ct ML_agrees 0 0 [.ref 0, .ref 1, .int (nI i), .int (nI k)] [hC h, vC v] (jd (.inl (some (.int (if agr A i k = true then 1 else 0)))) [hC h, vC v]) := by
  obtain ⟨-, -, hs, hvn, -⟩ := hA
  obtain ⟨s1, s2⟩ := hs k hk
  obtain ⟨v0, v1, v2, -⟩ := hvn i hi
  obtain ⟨e0, e1⟩ := hh k hk
  have f0 := hv i hi 0 (by decide)
  have f1 := hv i hi 1 (by decide)
  have f2 := hv i hi 2 (by decide)
  refine Ct.of rfl rfl (by decide +kernel) rfl (Nat.le_of_ble_eq_true rfl) ?_
  obtain ⟨w, hw⟩ : ∃ w, w = v_sd A k - v_vn A i 0 + (v_vn A i 0 - v_sd A k) := ⟨_, rfl⟩
  have hag : agr A i k = (decide (v_vn A i 2 ≤ v_sg A k) && (decide (w ≤ v_vn A i 1) || decide (8 - w ≤ v_vn A i 1))) := by rw [hw]; rfl
  obtain ⟨g1, g2⟩ := ag_abs _ v0 _ s1
  rw [← hw] at g1 g2
  generalize hΦ : jd (.inl (some (.int (if agr A i k = true then 1 else 0)))) [hC h, vC v] = Φ
  have F : ∀ f, f = (if 4 < w then 8 - w else w) → J ML_agrees Φ 0 0 46 [(0, .ref 0), (1, .ref 1), (2, .int (nI i)), (3, .int (nI k)), (4, .int (nI f))] [] [hC h, vC v] := by
    intro f hf
    have hf8 : f ≤ 8 := by split at hf <;> omega
    have i1 : (nI 4 * nI i + nI 1) = nI (4 * i + 1) := n_add2 (ix_v i)
    have i2 : (nI 4 * nI i + nI 2) = nI (4 * i + 2) := n_add2 (ix_v i)
    have i3 : (nI 2 * nI k + nI 1) = nI (2 * k + 1) := n_add2 (ix_h k)
    refine J.run csL_agrees 40 [] ?_
    have x1 : vp_in (nI 4 * nI i + nI 1) 24 := by rw [i1]; exact vp_n (by omega) (by decide)
    have x2 : vp_in (nI 4 * nI i + nI 2) 24 := by rw [i2]; exact vp_n (by omega) (by decide)
    have x3 : vp_in (nI 2 * nI k + nI 1) 48 := by rw [i3]; exact vp_n (by omega) (by decide)
    have y1 : v (nI 4 * nI i + nI 1).toNatClampNeg = nI (v_vn A i 1) := by rw [i1, cl_n (by omega)]; exact f1
    have y2 : v (nI 4 * nI i + nI 2).toNatClampNeg = nI (v_vn A i 2) := by rw [i2, cl_n (by omega)]; exact f2
    have y3 : h (nI 2 * nI k + nI 1).toNatClampNeg = nI (v_sg A k) := by rw [i3, cl_n (by omega)]; exact e1
    refine ⟨x1, fun q => ?_, fun q => ⟨x3, x2, fun q2 => ?_, fun q2 => ?_⟩⟩
    · have q : v (nI 4 * nI i + nI 1).toNatClampNeg < nI f := q
      rw [y1, n_lt (by omega) (by omega)] at q
      rw [← hΦ]
      refine ⟨Or.inl rfl, jd_i ?_ rfl⟩
      rw [hag, decide_eq_false (p := w ≤ v_vn A i 1) (by split at hf <;> omega), decide_eq_false (p := 8 - w ≤ v_vn A i 1) (by split at hf <;> omega), Bool.or_false, Bool.and_false]
      rfl
    · have q : ¬ v (nI 4 * nI i + nI 1).toNatClampNeg < nI f := q
      rw [y1, n_lt (by omega) (by omega)] at q
      have q2 : h (nI 2 * nI k + nI 1).toNatClampNeg < v (nI 4 * nI i + nI 2).toNatClampNeg := q2
      rw [y2, y3, n_lt (by omega) (by omega)] at q2
      rw [← hΦ]
      refine ⟨Or.inl rfl, jd_i ?_ rfl⟩
      rw [hag, decide_eq_false (p := v_vn A i 2 ≤ v_sg A k) (by omega)]
      rfl
    · have q : ¬ v (nI 4 * nI i + nI 1).toNatClampNeg < nI f := q
      rw [y1, n_lt (by omega) (by omega)] at q
      have q2 : ¬ h (nI 2 * nI k + nI 1).toNatClampNeg < v (nI 4 * nI i + nI 2).toNatClampNeg := q2
      rw [y2, y3, n_lt (by omega) (by omega)] at q2
      rw [← hΦ]
      refine ⟨Or.inr rfl, jd_i ?_ rfl⟩
      rw [hag, decide_eq_true (p := v_vn A i 2 ≤ v_sg A k) (by omega), Bool.true_and]
      by_cases q3 : w ≤ v_vn A i 1
      · rw [decide_eq_true q3]
        rfl
      · rw [decide_eq_true (p := 8 - w ≤ v_vn A i 1) (by split at hf <;> omega), Bool.or_true]
        rfl
  have E : J ML_agrees Φ 0 0 28 [(0, .ref 0), (1, .ref 1), (2, .int (nI i)), (3, .int (nI k)), (4, .int (nI w))] [] [hC h, vC v] := by
    refine J.run csL_agrees 20 [(46, 5)] ?_
    refine ⟨fun q => ?_, fun q => ?_⟩
    · have q : nI w ≤ nI 4 := q
      rw [n_le (by omega) (by omega)] at q
      exact F w (by rw [if_neg (by omega)])
    · have q : ¬ nI w ≤ nI 4 := q
      rw [n_le (by omega) (by omega)] at q
      exact J.cast (F (8 - w) (by rw [if_pos (by omega)])) (congrArg (fun y : Int32 => ([(0, .ref 0), (1, .ref 1), (2, .int (nI i)), (3, .int (nI k)), (4, .int y)] : j_L)) (pk_sub (show w ≤ 8 by omega)).symm) rfl rfl
  have x1 : vp_in (nI 2 * nI k) 48 := by rw [ix_h]; exact vp_n (by omega) (by decide)
  have x2 : vp_in (nI 4 * nI i) 24 := by rw [ix_v]; exact vp_n (by omega) (by decide)
  have ed : h (nI 2 * nI k).toNatClampNeg - v (nI 4 * nI i).toNatClampNeg = nI (v_sd A k) - nI (v_vn A i 0) := by
    rw [ix_h, ix_v, cl_n (by omega), cl_n (by omega), e0, show v (4 * i) = nI (v_vn A i 0) from f0]
  refine J.run csL_agrees 12 [(28, 5)] ?_
  refine ⟨x1, x2, ?_⟩
  refine J.run csL_agrees 20 [(28, 5)] ?_
  refine ⟨fun q => ?_, fun q => ?_⟩
  · have q : 0 ≤ h (nI 2 * nI k).toNatClampNeg - v (nI 4 * nI i).toNatClampNeg := q
    rw [ed] at q
    exact J.cast E (congrArg (fun y : Int32 => ([(0, .ref 0), (1, .ref 1), (2, .int (nI i)), (3, .int (nI k)), (4, .int y)] : j_L)) ((g1 q).symm.trans ed.symm)) rfl rfl
  · have q : ¬ 0 ≤ h (nI 2 * nI k).toNatClampNeg - v (nI 4 * nI i).toNatClampNeg := q
    rw [ed] at q
    exact J.cast E (congrArg (fun y : Int32 => ([(0, .ref 0), (1, .ref 1), (2, .int (nI i)), (3, .int (nI k)), (4, .int y)] : j_L)) ((g2 q).symm.trans (congrArg (fun a => -a) ed.symm))) rfl rfl
