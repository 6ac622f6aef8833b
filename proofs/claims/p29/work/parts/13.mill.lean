/-! Mill. -/
/-- a mill's world: its object, owners, sacks; beyond the lots that wait anything may lie -/
def milr (sp gr lo : Int32) (ow sk : Nat → Int32) : j_H := [.inr (0, [.int sp, .int gr, .int lo, .ref 1, .ref 2]), .inl (0, 8, .inl ow), .inl (0, 8, .inl sk)]
abbrev mil (m : aM) (ow sk : Nat → Int32) : j_H := milr (nI (m_sp m)) (nI (m_gr m)) (nI (m_lo m).length) ow sk
def mRel (l : aL) (ow sk : Nat → Int32) : Prop := ∀ k, k < l.length → ow k = nI (lo_o l k) ∧ sk k = nI (lo_s l k)
theorem lo_mem {l : aL} {k : Nat} (h : k < l.length) : (lo_o l k, lo_s l k) ∈ l := by
  have e : l.getD k (0, 0) = l[k] := by rw [List.getD_eq_getElem?_getD, List.getElem?_eq_getElem h]; rfl
  have : (lo_o l k, lo_s l k) = l[k] := by unfold lo_o lo_s; rw [e]
  rw [this]
  exact List.getElem_mem h
theorem lo_bd {m : aM} (hm : mOk m) {k : Nat} (h : k < (m_lo m).length) : lo_o (m_lo m) k < 5 ∧ 1 ≤ lo_s (m_lo m) k ∧ lo_s (m_lo m) k ≤ 99 := hm.2.2 _ (lo_mem h)
theorem lo_drop {l : aL} {k : Nat} (h : k < l.length) : l.drop k = (lo_o l k, lo_s l k) :: l.drop (k + 1) := by
  rw [List.drop_eq_getElem_cons h]
  congr 1
  have e : l.getD k (0, 0) = l[k] := by rw [List.getD_eq_getElem?_getD, List.getElem?_eq_getElem h]; rfl
  unfold lo_o lo_s
  rw [e]
theorem n_min {a b : Nat} (ha : a < 2 ^ 31) (hb : b < 2 ^ 31) : (if nI b < nI a then nI b else nI a) = nI (min a b) := by
  by_cases h : b < a
  · rw [if_pos ((n_lt hb ha).mpr h), Nat.min_eq_right (by omega)]
  · rw [if_neg (fun q => h ((n_lt hb ha).mp q)), Nat.min_eq_left (by omega)]
theorem grF_c (o n : Nat) (q : Nat × Nat) (t : aL) : grF o n (q :: t) = (if q.1 = o then min n q.2 else 0) + grF o (n - q.2) t := rfl
theorem grL_c (n : Nat) (q : Nat × Nat) (t : aL) : grL n (q :: t) = if n = 0 then q :: t else if n < q.2 then (q.1, q.2 - n) :: t else grL (n - q.2) t := rfl
theorem grF_0 (o : Nat) : ∀ l, grF o 0 l = 0
  | [] => rfl
  | q :: t => by
    unfold grF
    rw [Nat.zero_sub, grF_0 o t, Nat.zero_min]
    split <;> rfl
theorem grL_0 : ∀ l, grL 0 l = l
  | [] => rfl
  | q :: t => by unfold grL; rw [if_pos rfl]
theorem n_le0 {a : Nat} (h : a < 2 ^ 31) : nI a ≤ 0 ↔ a = 0 := by
  have := n_le (a := a) (b := 0) h (by decide)
  rw [show (0 : Int32) = nI 0 from rfl, this]
  omega
theorem c_X0_sacksWaiting {m : aM} {ow sk : Nat → Int32} (hm : mOk m) (hr : mRel (m_lo m) ow sk) : Ct MX0_sacksWaiting 0 0 [.ref 0] (mil m ow sk) (jd (.inl (some (.int (nI (swt (m_lo m)))))) (mil m ow sk)) := by
  obtain ⟨-, h8, -⟩ := hm
  refine Ct.of rfl rfl (by decide +kernel) rfl (Nat.le_of_ble_eq_true rfl) ?_
  have L : ∀ (d i : Nat), i + d = (m_lo m).length → J MX0_sacksWaiting (jd (.inl (some (.int (nI (swt (m_lo m)))))) (mil m ow sk)) 0 0 4 [(0, .ref 0), (1, .int (nI (sumN (lo_s (m_lo m)) i))), (2, .int (nI i))] [] (mil m ow sk) := by
    intro d
    induction d with
    | zero =>
      intro i hi
      refine J.run csX0_sacksWaiting 20 [] ?_
      refine ⟨fun _ => ?_, fun h => absurd ((n_le (by omega) (by omega)).mpr (by omega)) h⟩
      exact jd_i (by rw [show i = (m_lo m).length by omega]; rfl) rfl
    | succ d ih =>
      intro i hi
      have ih' := ih (i + 1) (by omega)
      refine J.run csX0_sacksWaiting 20 [(4, 3)] ?_
      refine ⟨fun h => absurd ((n_le (by omega) (by omega)).mp h) (by omega), fun _ => ?_⟩
      refine ⟨vp_n (by omega) (by omega), ?_⟩
      refine J.cast ih' ?_ rfl rfl
      rw [sumN_s, cl_n (by omega), (hr i (by omega)).2, nI_succ]
  refine J.run csX0_sacksWaiting 20 [(4, 3)] ?_
  exact L _ 0 (Nat.zero_add _)
theorem c_X0_sacksWaitingOf {m : aM} {ow sk : Nat → Int32} {o : Nat} (ho : o < 5) (hm : mOk m) (hr : mRel (m_lo m) ow sk) : Ct MX0_sacksWaitingOf 0 0 [.ref 0, .int (nI o)] (mil m ow sk) (jd (.inl (some (.int (nI (swo (m_lo m) o))))) (mil m ow sk)) := by
  have h8 := hm.2.1
  refine Ct.of rfl rfl (by decide +kernel) rfl (Nat.le_of_ble_eq_true rfl) ?_
  have L : ∀ (d i : Nat), i + d = (m_lo m).length → J MX0_sacksWaitingOf (jd (.inl (some (.int (nI (swo (m_lo m) o))))) (mil m ow sk)) 0 0 4 [(0, .ref 0), (1, .int (nI o)), (2, .int (nI (sumN (fun k => if lo_o (m_lo m) k = o then lo_s (m_lo m) k else 0) i))), (3, .int (nI i))] [] (mil m ow sk) := by
    intro d
    induction d with
    | zero =>
      intro i hi
      refine J.run csX0_sacksWaitingOf 20 [] ?_
      refine ⟨fun _ => ?_, fun h => absurd ((n_le (by omega) (by omega)).mpr (by omega)) h⟩
      exact jd_i (by rw [show i = (m_lo m).length by omega]; rfl) rfl
    | succ d ih =>
      intro i hi
      have ih' := ih (i + 1) (by omega)
      have hb := lo_bd hm (k := i) (by omega)
      refine J.run csX0_sacksWaitingOf 30 [(4, 4)] ?_
      refine ⟨fun h => absurd ((n_le (by omega) (by omega)).mp h) (by omega), fun _ => ?_⟩
      refine ⟨vp_n (by omega) (by omega), ?_⟩
      rw [sumN_s, nI_succ] at ih'
      refine ⟨fun h => ?_, fun h => ?_⟩
      · have h : ¬ ow (nI i).toNatClampNeg = nI o := h
        rw [cl_n (by omega), (hr i (by omega)).1, n_eq (by omega) (by omega)] at h
        rw [if_neg h, show nI 0 = 0 from rfl, Int32.add_zero] at ih'
        exact ih'
      · have h : ¬ ¬ ow (nI i).toNatClampNeg = nI o := fun q => q h
        rw [cl_n (by omega), (hr i (by omega)).1, n_eq (by omega) (by omega)] at h
        rw [if_pos (Decidable.not_not.mp h)] at ih'
        refine ⟨vp_n (by omega) (by omega), ?_⟩
        refine J.cast ih' ?_ rfl rfl
        rw [cl_n (by omega), (hr i (by omega)).2]
  refine J.run csX0_sacksWaitingOf 20 [(4, 4)] ?_
  exact L _ 0 (Nat.zero_add _)
theorem c_X0_flourOf {m : aM} {ow sk : Nat → Int32} {o n : Nat} (ho : o < 5) (hn : n < 2 ^ 31) (hm : mOk m) (hr : mRel (m_lo m) ow sk) : Ct MX0_flourOf 0 0 [.ref 0, .int (nI o), .int (nI n)] (mil m ow sk) (jd (.inl (some (.int (nI (grF o n (m_lo m)))))) (mil m ow sk)) := by
  have h8 := hm.2.1
  refine Ct.of rfl rfl (by decide +kernel) rfl (Nat.le_of_ble_eq_true rfl) ?_
  have L : ∀ (d i r s : Nat), i + d = (m_lo m).length → r < 2 ^ 31 → s + grF o r ((m_lo m).drop i) = grF o n (m_lo m) → J MX0_flourOf (jd (.inl (some (.int (nI (grF o n (m_lo m)))))) (mil m ow sk)) 0 0 8 [(0, .ref 0), (1, .int (nI o)), (2, .int (nI n)), (3, .int (nI r)), (4, .int (nI s)), (5, .int (nI i))] [] (mil m ow sk) := by
    intro d
    induction d with
    | zero =>
      intro i r s hi hr9 hs
      refine J.run csX0_flourOf 20 [] ?_
      refine ⟨fun _ => ?_, fun h => absurd ((n_le (by omega) (by omega)).mpr (by omega)) h⟩
      rw [show i = (m_lo m).length by omega, List.drop_length] at hs
      exact jd_i (by rw [← hs]; rfl) rfl
    | succ d ih =>
      intro i r s hi hr9 hs
      have hb := lo_bd hm (k := i) (by omega)
      refine J.run csX0_flourOf 40 [(8, 6)] ?_
      refine ⟨fun h => absurd ((n_le (by omega) (by omega)).mp h) (by omega), fun _ => ?_⟩
      refine ⟨fun h => ?_, fun h => ?_⟩
      · have h := (n_le0 hr9).mp h
        subst h
        rw [grF_0] at hs
        exact jd_i (by rw [← hs]; rfl) rfl
      · refine ⟨vp_n (by omega) (by omega), Nat.le_of_ble_eq_true rfl, ?_⟩
        rw [lo_drop (by omega), grF_c] at hs
        dsimp only at hs
        have e1 : (if sk (nI i).toNatClampNeg < nI r then sk (nI i).toNatClampNeg else nI r) = nI (min r (lo_s (m_lo m) i)) := by
          rw [cl_n (by omega), (hr i (by omega)).2, n_min hr9 (by omega)]
        have e2 : nI r - (if sk (nI i).toNatClampNeg < nI r then sk (nI i).toNatClampNeg else nI r) = nI (r - lo_s (m_lo m) i) := by
          rw [e1, pk_sub (Nat.min_le_left _ _)]
          congr 1
          omega
        refine ⟨vp_n (by omega) (by omega), ?_⟩
        refine ⟨fun h => ?_, fun h => ?_⟩
        · have h : ¬ ow (nI i).toNatClampNeg = nI o := h
          rw [cl_n (by omega), (hr i (by omega)).1, n_eq (by omega) (by omega)] at h
          rw [if_neg h, Nat.zero_add] at hs
          have ih' := ih (i + 1) (r - lo_s (m_lo m) i) s (by omega) (by omega) hs
          refine J.cast ih' ?_ rfl rfl
          rw [← e2, nI_succ]
        · have h : ow (nI i).toNatClampNeg = nI o := h
          rw [cl_n (by omega), (hr i (by omega)).1, n_eq (by omega) (by omega)] at h
          rw [if_pos h] at hs
          have ih' := ih (i + 1) (r - lo_s (m_lo m) i) (s + min r (lo_s (m_lo m) i)) (by omega) (by omega) (by omega)
          refine J.cast ih' ?_ rfl rfl
          rw [← e2, nI_succ, ← nI_add, ← e1]
  refine J.run csX0_flourOf 20 [(8, 6)] ?_
  exact L _ 0 n 0 (Nat.zero_add _) hn (by rw [List.drop_zero, Nat.zero_add])
