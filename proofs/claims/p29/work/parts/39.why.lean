/-! why, much, waits. -/
theorem cntN_mono {p q : Nat → Bool} : ∀ n, (∀ i, i < n → p i = true → q i = true) → cntN p n ≤ cntN q n
  | 0, _ => Nat.le_refl _
  | n + 1, h => by
    have ih := cntN_mono n (fun i hi => h i (by omega))
    have hn := h n (by omega)
    show cntN p n + (if p n = true then 1 else 0) ≤ cntN q n + (if q n = true then 1 else 0)
    by_cases e : p n = true
    · rw [if_pos e, if_pos (hn e)]
      omega
    · rw [if_neg e]
      split <;> omega
def tuA (A : aV) (t : Option Nat) : aV := match t with
  | none => A
  | some i => flip A i
def tuI (t : Option Nat) : Int32 := match t with
  | none => -1
  | some i => nI i
theorem tu_free {A : aV} (hA : vOk A) {t : Option Nat} {i : Nat} (hi : i < 6) : free (tuA A t) i = ((decide (v_vn A i 3 = 0)) != decide (t = some i)) := by
  have h3 := (hA.2.2.2.1 i hi).2.2.2
  cases t with
  | none =>
    show decide (v_vn A i 3 = 0) = (decide (v_vn A i 3 = 0) != decide ((none : Option Nat) = some i))
    rw [decide_eq_false (p := (none : Option Nat) = some i) (fun h => by cases h)]
    cases decide (v_vn A i 3 = 0) <;> rfl
  | some j =>
    show decide (v_vn (flip A j) i 3 = 0) = (decide (v_vn A i 3 = 0) != decide (some j = some i))
    by_cases e : i = j
    · subst e
      rw [flip_self, decide_eq_true (p := some i = some i) rfl]
      by_cases q : v_vn A i 3 = 0
      · rw [q]
        rfl
      · rw [show v_vn A i 3 = 1 by omega]
        rfl
    · rw [flip_ne (Or.inl e), decide_eq_false (p := some j = some i) (fun h => e (Option.some.inj h).symm)]
      cases decide (v_vn A i 3 = 0) <;> rfl
theorem tu_agr (A : aV) (t : Option Nat) (i k : Nat) : agr (tuA A t) i k = agr A i k := by
  cases t with
  | none => rfl
  | some j => exact flip_agr A j i k
theorem tu_se (A : aV) (t : Option Nat) : v_se (tuA A t) = v_se A := by cases t <;> rfl
theorem tu_eq {t : Option Nat} {i : Nat} (ht : ∀ j, t = some j → j < 6) (hi : i < 6) : nI i = tuI t ↔ t = some i := by
  cases t with
  | none =>
    refine ⟨fun h => ?_, fun h => by cases h⟩
    have h : nI i = -1 := h
    exact absurd h ((by decide +kernel : ∀ i, i < 6 → ¬ nI i = -1) i hi)
  | some j =>
    have hj := ht j rfl
    show nI i = nI j ↔ _
    rw [n_eq (by omega) (by omega)]
    exact ⟨fun h => by rw [h], fun h => (Option.some.inj h).symm⟩
theorem c_L_why {A : aV} {h v g : Nat → Int32} {t : Option Nat} {k : Nat} (hA : vOk A) (hh : hR A h) (hv : vR A v) (hg : gR A g) (ht : ∀ j, t = some j → j < 6) (hk : k < 24) : Ct ML_why 0 0 [.ref 0, .ref 1, .ref 2, .int (nI k), .int (tuI t)] [hC h, vC v, gC g] (jd (.inl (some (.int (nI (vdi (tuA A t) k))))) [hC h, vC v, gC g]) := by
  refine Ct.of rfl rfl (by decide +kernel) rfl (Nat.le_of_ble_eq_true rfl) ?_
  obtain ⟨B, hB⟩ : ∃ B, B = tuA A t := ⟨_, rfl⟩
  rw [← hB]
  have hfree : ∀ i, i < 6 → free B i = ((decide (v_vn A i 3 = 0)) != decide (t = some i)) := fun i hi => by rw [hB]; exact tu_free hA hi
  have hagr : ∀ i, agr B i k = agr A i k := fun i => by rw [hB]; exact tu_agr A t i k
  have hse : v_se B = v_se A := by rw [hB]; exact tu_se A t
  clear hB
  generalize hΦ : jd (.inl (some (.int (nI (vdi B k))))) [hC h, vC v, gC g] = Φ
  obtain ⟨-, gs, -⟩ := hg
  have g4 : g 4 = nI (v_se B 0) := by rw [hse]; exact gs 0 (by decide)
  have g5 : g 5 = nI (v_se B 1) := by rw [hse]; exact gs 1 (by decide)
  have hs : 1 ≤ v_se B 0 ∧ v_se B 0 ≤ 6 ∧ v_se B 1 ≤ 1 := by rw [hse]; exact hA.2.2.2.2.1
  -- the end
  have E : ∀ lv, J ML_why Φ 0 0 101 ([(0, .ref 0), (1, .ref 1), (2, .ref 2), (3, .int (nI k)), (4, .int (tuI t)), (5, .int (nI (com B))), (6, .int (nI (vot B k)))] ++ lv) [] [hC h, vC v, gC g] := by
    intro lv
    have c6 := com_le B
    have v6 := vot_le B k
    have hle : vot B k ≤ com B := cntN_mono 6 (fun i _ h => by
      cases hf : free B i with
      | false => rw [hf] at h; cases h
      | true => rfl)
    have es : nI (com B) - nI (vot B k) = nI (com B - vot B k) := pk_sub hle
    refine J.fewer (lv := [(0, .ref 0), (1, .ref 1), (2, .ref 2), (3, .int (nI k)), (4, .int (tuI t)), (5, .int (nI (com B))), (6, .int (nI (vot B k)))]) (fun q hq => List.mem_append_left _ hq) ?_
    refine J.run csL_why 40 [] ?_
    refine ⟨vp_c (by decide), fun q => ⟨fun q2 => ?_, fun q2 => ⟨vp_c (by decide), fun q3 => ?_, fun q3 => ⟨fun q4 => ?_, fun q4 => ?_⟩⟩⟩, fun q => ?_⟩
    · have q : g 4 ≤ nI (com B) := q
      rw [g4, n_le (by omega) (by omega)] at q
      have q2 : nI (com B) - nI (vot B k) < nI (vot B k) := q2
      rw [es, n_lt (by omega) (by omega)] at q2
      rw [← hΦ]
      refine jd_i ?_ rfl
      unfold vdi ver
      rw [if_neg (by omega), if_pos (Or.inl (by omega))]
      rfl
    · have q : g 4 ≤ nI (com B) := q
      rw [g4, n_le (by omega) (by omega)] at q
      have q2 : ¬ nI (com B) - nI (vot B k) < nI (vot B k) := q2
      rw [es, n_lt (by omega) (by omega)] at q2
      have q3 : ¬ g 5 = nI 1 := q3
      rw [g5, n_eq (by omega) (by omega)] at q3
      rw [← hΦ]
      refine jd_i ?_ rfl
      unfold vdi ver
      rw [if_neg (by omega), if_neg (by omega)]
      rfl
    · have q : g 4 ≤ nI (com B) := q
      rw [g4, n_le (by omega) (by omega)] at q
      have q2 : ¬ nI (com B) - nI (vot B k) < nI (vot B k) := q2
      rw [es, n_lt (by omega) (by omega)] at q2
      have q4 : ¬ nI (vot B k) = nI (com B) - nI (vot B k) := q4
      rw [es, n_eq (by omega) (by omega)] at q4
      rw [← hΦ]
      refine jd_i ?_ rfl
      unfold vdi ver
      rw [if_neg (by omega), if_neg (by omega)]
      rfl
    · have q : g 4 ≤ nI (com B) := q
      rw [g4, n_le (by omega) (by omega)] at q
      have q2 : ¬ nI (com B) - nI (vot B k) < nI (vot B k) := q2
      rw [es, n_lt (by omega) (by omega)] at q2
      have q3 : g 5 = nI 1 := q3
      rw [g5, n_eq (by omega) (by omega)] at q3
      have q4 : nI (vot B k) = nI (com B) - nI (vot B k) := q4
      rw [es, n_eq (by omega) (by omega)] at q4
      rw [← hΦ]
      refine jd_i ?_ rfl
      unfold vdi ver
      rw [if_neg (by omega), if_pos (Or.inr ⟨by omega, q3⟩)]
      rfl
    · have q : ¬ g 4 ≤ nI (com B) := q
      rw [g4, n_le (by omega) (by omega)] at q
      rw [← hΦ]
      refine jd_i ?_ rfl
      unfold vdi ver
      rw [if_pos (by omega)]
      rfl
  have L : ∀ (d i : Nat), i + d = 6 → J ML_why Φ 0 0 9 [(0, .ref 0), (1, .ref 1), (2, .ref 2), (3, .int (nI k)), (4, .int (tuI t)), (5, .int (nI (cntN (free B) i))), (6, .int (nI (cntN (fun i => free B i && agr B i k) i))), (7, .int (nI i))] [] [hC h, vC v, gC g] := by
    intro d
    induction d with
    | zero =>
      intro i hi
      obtain rfl : i = 6 := by omega
      refine J.run csL_why 3 [] ?_
      exact ⟨fun _ => E [(7, .int (nI 6))], fun h => absurd ((n_le (a := 6) (by omega) (by omega)).mpr (by omega)) h⟩
    | succ d ih =>
      intro i hi
      have ih' := ih (i + 1) (by omega)
      have hlt : i < 6 := by omega
      have h3 := (hA.2.2.2.1 i hlt).2.2.2
      have f3 := hv i hlt 3 (by decide)
      have hf := hfree i hlt
      have ha := hagr i
      have i3 : (nI 4 * nI i + nI 3) = nI (4 * i + 3) := n_add2 (ix_v i)
      have x3 : vp_in (nI 4 * nI i + nI 3) 24 := by rw [i3]; exact vp_n (by omega) (by decide)
      have y3 : v (nI 4 * nI i + nI 3).toNatClampNeg = nI (v_vn A i 3) := by rw [i3, cl_n (by omega)]; exact f3
      -- behind the vote
      have G : ∀ b : Bool, (free B i && agr B i k) = b → ∀ lv, J ML_why Φ 0 0 92 ([(0, .ref 0), (1, .ref 1), (2, .ref 2), (3, .int (nI k)), (4, .int (tuI t)), (5, .int (nI (cntN (free B) (i + 1)))), (6, .int (nI (cntN (fun i => free B i && agr B i k) i))), (7, .int (nI i))] ++ lv) [.int (if b = true then 1 else 0), .int (nI (cntN (fun i => free B i && agr B i k) i))] [hC h, vC v, gC g] := by
        intro b hb lv
        refine J.fewer (lv := [(0, .ref 0), (1, .ref 1), (2, .ref 2), (3, .int (nI k)), (4, .int (tuI t)), (5, .int (nI (cntN (free B) (i + 1)))), (6, .int (nI (cntN (fun i => free B i && agr B i k) i))), (7, .int (nI i))]) (fun q hq => List.mem_append_left _ hq) ?_
        refine J.run csL_why 10 [(9, 8)] ?_
        have e6 : nI (cntN (fun i => free B i && agr B i k) (i + 1)) = nI (cntN (fun i => free B i && agr B i k) i) + (if b = true then 1 else 0) := by
          cases b with
          | false =>
            rw [cntN_n (p := fun i => free B i && agr B i k) hb]
            exact (Int32.add_zero _).symm
          | true => exact cntN_s (p := fun i => free B i && agr B i k) hb
        exact J.cast ih' (cg2 (fun x y : Int32 => ([(0, .ref 0), (1, .ref 1), (2, .ref 2), (3, .int (nI k)), (4, .int (tuI t)), (5, .int (nI (cntN (free B) (i + 1)))), (6, .int x), (7, .int y)] : j_L)) e6 (nI_succ i)) rfl rfl
      have V : ∀ b : Bool, free B i = b → ∀ lv, J ML_why Φ 0 0 52 ([(0, .ref 0), (1, .ref 1), (2, .ref 2), (3, .int (nI k)), (4, .int (tuI t)), (5, .int (nI (cntN (free B) i))), (6, .int (nI (cntN (fun i => free B i && agr B i k) i))), (7, .int (nI i))] ++ lv) [.int (if b = true then 1 else 0)] [hC h, vC v, gC g] := by
        intro b hb lv
        refine J.fewer (lv := [(0, .ref 0), (1, .ref 1), (2, .ref 2), (3, .int (nI k)), (4, .int (tuI t)), (5, .int (nI (cntN (free B) i))), (6, .int (nI (cntN (fun i => free B i && agr B i k) i))), (7, .int (nI i))]) (fun q hq => List.mem_append_left _ hq) ?_
        cases b with
        | false =>
          refine J.run csL_why 30 [(92, 9)] ?_
          refine ⟨fun _ => ⟨fun _ => ?_, fun q => absurd rfl q⟩, fun q => absurd rfl q⟩
          have ea : nI (cntN (free B) (i + 1)) = nI (cntN (free B) i) + 0 := (cntN_n hb).trans (Int32.add_zero _).symm
          exact J.cast (G false (by rw [hb]; rfl) [(8, .int 0)]) (congrArg (fun x : Int32 => ([(0, .ref 0), (1, .ref 1), (2, .ref 2), (3, .int (nI k)), (4, .int (tuI t)), (5, .int x), (6, .int (nI (cntN (fun i => free B i && agr B i k) i))), (7, .int (nI i)), (8, .int 0)] : j_L)) ea) rfl rfl
        | true =>
          refine J.run csL_why 30 [] ?_
          refine ⟨fun q => absurd q (by decide), fun _ => ⟨fun q => absurd q (by decide), fun _ => ?_⟩⟩
          refine J.pureS [.int (nI (cntN (fun i => free B i && agr B i k) i))] [0, 1] (c_L_agrees hA hh hv hlt hk) kL_agrees mRL_63 dL_why_81 ⟨Nat.le_of_ble_eq_true rfl, Nat.le_of_ble_eq_true rfl, rfl⟩ rfl rfl (Nat.le_of_ble_eq_true rfl) rfl rfl ?_
          refine J.run csL_why 5 [(92, 9)] ?_
          have ea : nI (cntN (free B) (i + 1)) = nI (cntN (free B) i) + 1 := cntN_s hb
          refine ⟨fun q => ?_, fun q => ?_⟩
          · exact J.cast (G false (by rw [hb, ha, ag_if.mp q]; rfl) [(8, .int 1)]) (congrArg (fun x : Int32 => ([(0, .ref 0), (1, .ref 1), (2, .ref 2), (3, .int (nI k)), (4, .int (tuI t)), (5, .int x), (6, .int (nI (cntN (fun i => free B i && agr B i k) i))), (7, .int (nI i)), (8, .int 1)] : j_L)) ea) rfl rfl
          · exact J.cast (G true (by
              rw [hb, ha]
              cases hc : agr A i k with
              | false => exact absurd (ag_if.mpr hc) q
              | true => rfl) [(8, .int 1)]) (congrArg (fun x : Int32 => ([(0, .ref 0), (1, .ref 1), (2, .ref 2), (3, .int (nI k)), (4, .int (tuI t)), (5, .int x), (6, .int (nI (cntN (fun i => free B i && agr B i k) i))), (7, .int (nI i)), (8, .int 1)] : j_L)) ea) rfl rfl
      have e0 : (v_vn A i 3 = 0) ↔ nI (v_vn A i 3) = 0 := (n_eq0 (by omega)).symm
      refine J.run csL_why 40 [(52, 8)] ?_
      refine ⟨fun h => absurd ((n_le (a := 6) (by omega) (by omega)).mp h) (by omega), fun _ => ⟨x3, fun q => ⟨fun q2 => ⟨fun _ => ?_, fun q => absurd rfl q⟩, fun q2 => ⟨fun q => absurd q (by decide), fun _ => ?_⟩⟩, fun q => ⟨fun q2 => ⟨fun q => absurd q (by decide), fun _ => ?_⟩, fun q2 => ⟨fun _ => ?_, fun q => absurd rfl q⟩⟩⟩⟩
      · have q : ¬ v (nI 4 * nI i + nI 3).toNatClampNeg = 0 := q
        rw [y3, ← e0] at q
        have q2 : ¬ nI i = tuI t := q2
        rw [tu_eq ht hlt] at q2
        exact V false (by rw [hf, decide_eq_false q, decide_eq_false q2]; rfl) []
      · have q : ¬ v (nI 4 * nI i + nI 3).toNatClampNeg = 0 := q
        rw [y3, ← e0] at q
        have q2 : nI i = tuI t := q2
        rw [tu_eq ht hlt] at q2
        exact V true (by rw [hf, decide_eq_false q, decide_eq_true q2]; rfl) []
      · have q : v (nI 4 * nI i + nI 3).toNatClampNeg = 0 := q
        rw [y3, ← e0] at q
        have q2 : ¬ nI i = tuI t := q2
        rw [tu_eq ht hlt] at q2
        exact V true (by rw [hf, decide_eq_true q, decide_eq_false q2]; rfl) []
      · have q : v (nI 4 * nI i + nI 3).toNatClampNeg = 0 := q
        rw [y3, ← e0] at q
        have q2 : nI i = tuI t := q2
        rw [tu_eq ht hlt] at q2
        exact V false (by rw [hf, decide_eq_true q, decide_eq_true q2]; rfl) []
  refine J.run csL_why 6 [(9, 8)] ?_
  exact L 6 0 rfl
theorem v_lo_len {A : aV} (hA : vOk A) {m : Nat} (hm : m < 3) : (v_lo A m).length ≤ 8 := (hA.2.2.2.2.2 m hm).2.1
/-- much -/
theorem c_L_much {A : aV} {h v g : Nat → Int32} {m k : Nat} (hA : vOk A) (hh : hR A h) (hv : vR A v) (hg : gR A g) (hm : m < 3) (hk : k < 24) : Ct ML_much 0 0 [.ref 0, .ref 1, .ref 2, .int (nI m), .int (nI k)] [hC h, vC v, gC g] (jd (.inl (some (.int (nI (rat A m k))))) [hC h, vC v, gC g]) := by
  refine Ct.of rfl rfl (by decide +kernel) rfl (Nat.le_of_ble_eq_true rfl) ?_
  refine J.run csL_much 20 [] ?_
  refine J.pureS [] [0, 1, 2] (c_L_why (t := none) hA hh hv hg (fun j h => by cases h) hk) kL_why mRL_69 dL_much_6 ⟨Nat.le_of_ble_eq_true rfl, Nat.le_of_ble_eq_true rfl, rfl⟩ rfl rfl (Nat.le_of_ble_eq_true rfl) rfl rfl ?_
  have hle := vdi_le A k
  have hsp := (hA.2.2.2.2.2 m hm).1
  have hsg := (hA.2.2.1 k hk).2
  have gm := (hg.2.2 m hm).1
  have i1 : (nI 6 + nI m) = nI (6 + m) := nI_add 6 m
  have i2 : (nI 2 * nI k + nI 1) = nI (2 * k + 1) := n_add2 (ix_h k)
  have x1 : vp_in (nI 6 + nI m) 15 := by rw [i1]; exact vp_n (by omega) (by decide)
  have x2 : vp_in (nI 2 * nI k + nI 1) 48 := by rw [i2]; exact vp_n (by omega) (by decide)
  refine J.run csL_much 30 [] ?_
  refine ⟨fun q => ?_, fun q => ⟨x1, x2, (by decide : ¬ (4 : Int32) = 0), ?_⟩⟩
  · have q : ¬ nI (vdi A k) = 0 := q
    rw [n_eq0 (by omega)] at q
    refine jd_i ?_ rfl
    unfold rat trn
    rw [decide_eq_false q]
    rfl
  · have q : nI (vdi A k) = 0 := q
    rw [n_eq0 (by omega)] at q
    refine jd_i ?_ rfl
    show Sum.inl (some (Value.int (g (nI 6 + nI m).toNatClampNeg * h (nI 2 * nI k + nI 1).toNatClampNeg / 4))) = _
    have hb : m_sp (v_ml A m) * v_sg A k ≤ 9 * 9 := Nat.mul_le_mul hsp (by omega)
    rw [i1, i2, cl_n (by omega), cl_n (by omega), gm, (hh k hk).2, n_mul, n_div4 (by omega)]
    unfold rat trn
    rw [decide_eq_true q]
    rfl
theorem n_rem100 {a : Nat} (h : a < 2 ^ 31) : nI a - nI a / 100 * 100 = nI (a % 100) := pk_rem (d := 100) h (by decide) (by decide)
theorem n_div100 {a : Nat} (h : a < 2 ^ 31) : nI a / 100 = nI (a / 100) := pk_div (d := 100) h (by decide) (by decide)
theorem lot_bd {A : aV} (hA : vOk A) {m k : Nat} (hm : m < 3) (hk : k < (v_lo A m).length) : lo_o (v_lo A m) k < 5 ∧ 1 ≤ lo_s (v_lo A m) k ∧ lo_s (v_lo A m) k ≤ 99 := lo_bd (hA.2.2.2.2.2 m hm) hk
/-- waits -/
theorem c_L_waits {A : aV} {g l : Nat → Int32} {m : Nat} (hA : vOk A) (hg : gR A g) (hl : lR A l) (hm : m < 3) : Ct ML_waits 0 0 [.ref 0, .ref 1, .int (nI m)] [gC g, vC l] (jd (.inl (some (.int (nI (swt (v_lo A m)))))) [gC g, vC l]) := by
  refine Ct.of rfl rfl (by decide +kernel) rfl (Nat.le_of_ble_eq_true rfl) ?_
  have h8 := v_lo_len hA hm
  have gm := (hg.2.2 m hm).2.1
  have i1 : (nI 9 + nI m) = nI (9 + m) := nI_add 9 m
  have x1 : vp_in (nI 9 + nI m) 15 := by rw [i1]; exact vp_n (by omega) (by decide)
  have y1 : g (nI 9 + nI m).toNatClampNeg = nI (v_lo A m).length := by rw [i1, cl_n (by omega)]; exact gm
  have L : ∀ (d k : Nat), k + d = (v_lo A m).length → J ML_waits (jd (.inl (some (.int (nI (swt (v_lo A m)))))) [gC g, vC l]) 0 0 5 [(0, .ref 0), (1, .ref 1), (2, .int (nI m)), (3, .int (nI (sumN (lo_s (v_lo A m)) k))), (4, .int (nI k))] [] [gC g, vC l] := by
    intro d
    induction d with
    | zero =>
      intro k hk
      refine J.run csL_waits 20 [] ?_
      refine ⟨x1, fun _ => ?_, fun q => ?_⟩
      · exact jd_i (by rw [show k = (v_lo A m).length by omega]; rfl) rfl
      · have q : ¬ g (nI 9 + nI m).toNatClampNeg ≤ nI k := q
        rw [y1, n_le (by omega) (by omega)] at q
        exact absurd (by omega) q
    | succ d ih =>
      intro k hk
      have ih' := ih (k + 1) (by omega)
      have hb := lot_bd hA hm (k := k) (by omega)
      have i2 : (nI 8 * nI m + nI k) = nI (8 * m + k) := by rw [n_mul, nI_add]
      have x2 : vp_in (nI 8 * nI m + nI k) 24 := by rw [i2]; exact vp_n (by omega) (by decide)
      refine J.run csL_waits 30 [(5, 5)] ?_
      refine ⟨x1, fun q => ?_, fun _ => ⟨x2, (by decide : ¬ (100 : Int32) = 0), ?_⟩⟩
      · have q : g (nI 9 + nI m).toNatClampNeg ≤ nI k := q
        rw [y1, n_le (by omega) (by omega)] at q
        exact absurd q (by omega)
      · have e : l (nI 8 * nI m + nI k).toNatClampNeg - l (nI 8 * nI m + nI k).toNatClampNeg / 100 * 100 = nI (lo_s (v_lo A m) k) := by
          rw [i2, cl_n (by omega), hl m hm k (by omega), n_rem100 (by omega)]
          congr 1
          omega
        have e3 : nI (sumN (lo_s (v_lo A m)) (k + 1)) = nI (sumN (lo_s (v_lo A m)) k) + (l (nI 8 * nI m + nI k).toNatClampNeg - l (nI 8 * nI m + nI k).toNatClampNeg / 100 * 100) := by rw [sumN_s, e]
        exact J.cast ih' (cg2 (fun x y : Int32 => ([(0, .ref 0), (1, .ref 1), (2, .int (nI m)), (3, .int x), (4, .int y)] : j_L)) e3 (nI_succ k)) rfl rfl
  refine J.run csL_waits 20 [(5, 5)] ?_
  exact L _ 0 (Nat.zero_add _)
