/-! The class at its start. -/
/-- the start: both sides tell it alike -/
def S0 : aS := (A0, fun _ => none, [], [])
theorem A0_ok : vOk A0 := by
  refine ⟨by decide, by decide, fun h hh => ?_, fun i hi => ?_, by decide, fun m hm => ⟨Nat.le_of_ble_eq_true rfl, Nat.zero_le _, fun q hq => by cases hq⟩⟩
  · show (if h < 24 then h % 8 else 0) < 8 ∧ (if h < 24 then h % 10 else 0) < 10
    rw [if_pos hh, if_pos hh]
    omega
  · show i < 8 ∧ 2 < 5 ∧ 1 < 10 ∧ 0 < 2
    omega
theorem A0_rel : vRel A0 z0 := fun m hm => by
  have e : m_lo (v_ml A0 m) = [] := rfl
  rw [e]
  exact fun k hk => absurd hk (Nat.not_lt_zero k)
theorem K0_rel : cRel S0 K0 := by
  refine ⟨⟨rfl, A0_ok, A0_rel⟩, fun i hi => ⟨fun _ => rfl, fun B e => by cases e⟩, ⟨rfl, by decide, by decide, fun i B e => by cases e⟩, ⟨rfl, t0_ok, t0_rel _⟩⟩
theorem j_v_id (v : Value) : j_v (fun i => i) v = v := by cases v <;> rfl
theorem j_rc_id (c : j_C) : j_rc (fun i => i) c = c := by
  rcases c with ⟨t, n, f⟩ | ⟨k, fs⟩
  · rcases f with f | f | f | f | f
    · rfl
    · rfl
    · rfl
    · rfl
    · show Sum.inl (t, n, Sum.inr (Sum.inr (Sum.inr (Sum.inr (fun j => (f j).map (fun i => i)))))) = Sum.inl (t, n, Sum.inr (Sum.inr (Sum.inr (Sum.inr f))))
      refine congrArg (fun g => Sum.inl (t, n, Sum.inr (Sum.inr (Sum.inr (Sum.inr g))))) (funext fun j => ?_)
      cases f j <;> rfl
  · refine congrArg (fun x => Sum.inr (k, x)) ?_
    rw [show j_v (fun i => i) = (fun v => v) from funext j_v_id]
    exact List.map_id' fs
theorem j_rcL_id {n : Nat} {r : Nat → Nat} (h : ∀ i, i < n → r i = i) (l : j_H) (hb : j_bdL n l) : l.map (j_rc r) = l := by
  rw [j_rcL_cg (r' := fun i => i) h l hb, show j_rc (fun i => i) = (fun c => c) from funext j_rc_id]
  exact List.map_id' l
theorem j_f_r0 {n i : Nat} (h : i < n) : j_f (List.range' 0 n) i = i := by
  show (List.range' 0 n).getD i 0 = i
  rw [List.getD_eq_getElem?_getD, List.getElem?_range' h]
  show 0 + 1 * i = i
  omega
theorem cl0_e : clw K0 [] = clq slq svq ++ yk 8 := by
  rw [yk_8]
  rfl
theorem cl0_bd : j_bdL 223 (clw K0 []) := by
  rw [cl0_e]
  have h1 := slk_bd (b := 31) (k := 2) (n := 223) (by decide)
  have h2 := slk_bd (b := 79) (k := 6) (n := 223) (by decide)
  rw [slk_2] at h1
  rw [slk_6] at h2
  exact j_bdL_app (clq_bd (by decide) h1 h2) (yk_bd 8)
theorem cl0_c : ∃ c0 cs, clw K0 [] = c0 :: cs ∧ cs.length = 222 := by
  have hl : (clw K0 []).length = 223 := clw_len K0 []
  cases e : clw K0 [] with
  | nil => rw [e] at hl; cases hl
  | cons c0 cs =>
    rw [e] at hl
    exact ⟨c0, cs, rfl, Nat.succ.inj hl⟩
theorem X3_fs : ∀ j, j < 8 → defaultValue (tyX3 j) = vp_V [.null, .null, .null, .null, .int 0, .int 0, .null, .null] j := by
  intro j hj
  rcases (show j = 0 ∨ j = 1 ∨ j = 2 ∨ j = 3 ∨ j = 4 ∨ j = 5 ∨ j = 6 ∨ j = 7 by omega) with rfl | rfl | rfl | rfl | rfl | rfl | rfl | rfl <;> rfl
