/-! Lots are ground one by one. -/
def sGx (A : aV) (m o x : Nat) (l : aL) : aV := (A.1, v_sd A, v_sg A, v_vn A, v_se A, (fun j => if j = m then (m_sp (v_ml A j), m_gr (v_ml A j) + x, l) else v_ml A j), (fun k => if k = o then v_fl A k + x else v_fl A k), v_br A, v_tk A)
def sGr (A : aV) (m n : Nat) : aV := (A.1, v_sd A, v_sg A, v_vn A, v_se A, (fun j => if j = m then mGr n (v_ml A j) else v_ml A j), (fun k => v_fl A k + grF k n (v_lo A m)), v_br A, v_tk A)
theorem n_addneg {a b : Nat} (h : b ≤ a) : nI a + -nI b = nI (a - b) := by rw [← Int32.sub_eq_add_neg, pk_sub h]
theorem lo_c0 (q : Nat × Nat) (t : aL) : lo_o (q :: t) 0 = q.1 ∧ lo_s (q :: t) 0 = q.2 := ⟨rfl, rfl⟩
theorem lo_cs (q : Nat × Nat) (t : aL) (k : Nat) : lo_o (q :: t) (k + 1) = lo_o t k ∧ lo_s (q :: t) (k + 1) = lo_s t k := ⟨rfl, rfl⟩
theorem gx_rel {A : aV} {z z1 z2 z3 : Nat → Int32} (hz : zRel A z) {m o s x : Nat} {tl : aL} (hm : m < 3) (ho : o < 5) (hl : v_lo A m = (o, s) :: tl) (h8 : ∀ j, j < 3 → (v_lo A j).length ≤ 8) (hx : x ≤ s) (e1 : upd z (131 + 3 * o + 0) (z (131 + 3 * o + 0) + nI x) = z1) (e2 : upd z1 (74 + 19 * m + 2) (z1 (74 + 19 * m + 2) + nI x) = z2) (e3 : upd z2 (74 + 19 * m + 4) (z2 (74 + 19 * m + 4) + -nI x) = z3) : zRel (sGx A m o x ((o, s - x) :: tl)) z3 := by
  have un : ∀ p, p ≠ 131 + 3 * o → p ≠ 76 + 19 * m → p ≠ 78 + 19 * m → z3 p = z p := by
    intro p h1 h2 h3
    rw [← e3]
    show (if p = 74 + 19 * m + 4 then _ else z2 p) = z p
    rw [if_neg (by omega), ← e2]
    show (if p = 74 + 19 * m + 2 then _ else z1 p) = z p
    rw [if_neg (by omega), ← e1]
    show (if p = 131 + 3 * o + 0 then _ else z p) = z p
    rw [if_neg (by omega)]
  obtain ⟨g1, g2, g3, g4, g5, g6⟩ := hz
  have f1 : z3 (131 + 3 * o) = z (131 + 3 * o) + nI x := by
    rw [← e3]
    show (if 131 + 3 * o = 74 + 19 * m + 4 then _ else z2 (131 + 3 * o)) = _
    rw [if_neg (by omega), ← e2]
    show (if 131 + 3 * o = 74 + 19 * m + 2 then _ else z1 (131 + 3 * o)) = _
    rw [if_neg (by omega), ← e1]
    exact if_pos rfl
  have f2 : z3 (76 + 19 * m) = z (76 + 19 * m) + nI x := by
    rw [← e3]
    show (if 76 + 19 * m = 74 + 19 * m + 4 then _ else z2 (76 + 19 * m)) = _
    rw [if_neg (by omega), ← e2, show 76 + 19 * m = 74 + 19 * m + 2 by omega]
    show (if 74 + 19 * m + 2 = 74 + 19 * m + 2 then z1 (74 + 19 * m + 2) + nI x else z1 (74 + 19 * m + 2)) = _
    rw [if_pos rfl, ← e1]
    show (if 74 + 19 * m + 2 = 131 + 3 * o + 0 then _ else z (74 + 19 * m + 2)) + nI x = _
    rw [if_neg (by omega)]
  have f3 : z3 (78 + 19 * m) = z (78 + 19 * m) + -nI x := by
    rw [← e3, show 78 + 19 * m = 74 + 19 * m + 4 by omega]
    show (if 74 + 19 * m + 4 = 74 + 19 * m + 4 then z2 (74 + 19 * m + 4) + -nI x else z2 (74 + 19 * m + 4)) = _
    rw [if_pos rfl, ← e2]
    show (if 74 + 19 * m + 4 = 74 + 19 * m + 2 then _ else z1 (74 + 19 * m + 4)) + -nI x = _
    rw [if_neg (by omega), ← e1]
    show (if 74 + 19 * m + 4 = 131 + 3 * o + 0 then _ else z (74 + 19 * m + 4)) + -nI x = _
    rw [if_neg (by omega)]
  refine ⟨fun h hh => ?_, fun j hj w hw => ?_, fun s hs => ?_, fun j hj => ?_, fun k hk => ?_, ?_, ?_, ?_, ?_⟩
  · rw [un _ (by omega) (by omega) (by omega), un _ (by omega) (by omega) (by omega)]
    exact g1 h hh
  · rw [un _ (by omega) (by omega) (by omega)]
    exact g2 j hj w hw
  · rw [un _ (by omega) (by omega) (by omega)]
    exact g3 s hs
  · obtain ⟨a, b, c, d⟩ := g4 j hj
    by_cases q : j = m
    · subst q
      have em : v_ml (sGx A j o x ((o, s - x) :: tl)) j = (m_sp (v_ml A j), m_gr (v_ml A j) + x, (o, s - x) :: tl) := if_pos rfl
      show z3 (74 + 19 * j) = nI (m_sp (v_ml (sGx A j o x ((o, s - x) :: tl)) j)) ∧ z3 (75 + 19 * j) = nI (m_lo (v_ml (sGx A j o x ((o, s - x) :: tl)) j)).length ∧ z3 (76 + 19 * j) = nI (m_gr (v_ml (sGx A j o x ((o, s - x) :: tl)) j)) ∧ ∀ k, k < (m_lo (v_ml (sGx A j o x ((o, s - x) :: tl)) j)).length → z3 (77 + 19 * j + 2 * k) = nI (lo_o (m_lo (v_ml (sGx A j o x ((o, s - x) :: tl)) j)) k) ∧ z3 (78 + 19 * j + 2 * k) = nI (lo_s (m_lo (v_ml (sGx A j o x ((o, s - x) :: tl)) j)) k)
      rw [em]
      have h8 := h8 j hj
      rw [hl] at b d h8
      have h8 : tl.length + 1 ≤ 8 := h8
      refine ⟨by rw [un _ (by omega) (by omega) (by omega)]; exact a, by rw [un _ (by omega) (by omega) (by omega)]; exact b, by rw [f2, c, nI_add], fun k hk => ?_⟩
      have hk : k < tl.length + 1 := hk
      obtain ⟨d1, d2⟩ := d k hk
      cases k with
      | zero =>
        refine ⟨by rw [un _ (by omega) (by omega) (by omega)]; exact d1, ?_⟩
        have d2 : z (78 + 19 * j) = nI s := d2
        show z3 (78 + 19 * j) = nI (s - x)
        rw [f3, d2, n_addneg hx]
      | succ k =>
        rw [un _ (by omega) (by omega) (by omega), un _ (by omega) (by omega) (by omega)]
        exact ⟨d1, d2⟩
    · have em : v_ml (sGx A m o x ((o, s - x) :: tl)) j = v_ml A j := if_neg q
      show z3 (74 + 19 * j) = nI (m_sp (v_ml (sGx A m o x ((o, s - x) :: tl)) j)) ∧ z3 (75 + 19 * j) = nI (m_lo (v_ml (sGx A m o x ((o, s - x) :: tl)) j)).length ∧ z3 (76 + 19 * j) = nI (m_gr (v_ml (sGx A m o x ((o, s - x) :: tl)) j)) ∧ ∀ k, k < (m_lo (v_ml (sGx A m o x ((o, s - x) :: tl)) j)).length → z3 (77 + 19 * j + 2 * k) = nI (lo_o (m_lo (v_ml (sGx A m o x ((o, s - x) :: tl)) j)) k) ∧ z3 (78 + 19 * j + 2 * k) = nI (lo_s (m_lo (v_ml (sGx A m o x ((o, s - x) :: tl)) j)) k)
      rw [em]
      have h8 := h8 j hj
      refine ⟨by rw [un _ (by omega) (by omega) (by omega)]; exact a, by rw [un _ (by omega) (by omega) (by omega)]; exact b, by rw [un _ (by omega) (by omega) (by omega)]; exact c, fun k hk => ?_⟩
      have hk : k < (v_lo A j).length := hk
      rw [un _ (by omega) (by omega) (by omega), un _ (by omega) (by omega) (by omega)]
      exact d k hk
  · obtain ⟨a, b, c⟩ := g5 k hk
    rw [un (132 + 3 * k) (by omega) (by omega) (by omega), un (133 + 3 * k) (by omega) (by omega) (by omega)]
    refine ⟨?_, b, c⟩
    show z3 (131 + 3 * k) = nI (if k = o then v_fl A k + x else v_fl A k)
    by_cases q : k = o
    · rw [if_pos q, q, f1, ← q, a, nI_add]
    · rw [if_neg q, un _ (by omega) (by omega) (by omega)]
      exact a
  · rw [un _ (by omega) (by omega) (by omega)]; exact g6.1
  · rw [un _ (by omega) (by omega) (by omega)]; exact g6.2.1
  · rw [un _ (by omega) (by omega) (by omega)]; exact g6.2.2.1
  · rw [un _ (by omega) (by omega) (by omega)]; exact g6.2.2.2
theorem drop_rel {B : aV} {z : Nat → Int32} (hz : zRel B z) {m : Nat} {q : Nat × Nat} {tl : aL} (hm : m < 3) (hl : v_lo B m = q :: tl) (h8 : ∀ j, j < 3 → (v_lo B j).length ≤ 8) : zRel (sml B m tl) (zD (upd z (75 + 19 * m) (nI tl.length)) (77 + 19 * m) (2 * tl.length)) := by
  have h8m := h8 m hm
  rw [hl] at h8m
  have h8m : tl.length + 1 ≤ 8 := h8m
  have un : ∀ p, p ≠ 75 + 19 * m → ¬ (77 + 19 * m ≤ p ∧ p < 77 + 19 * m + 2 * tl.length) → zD (upd z (75 + 19 * m) (nI tl.length)) (77 + 19 * m) (2 * tl.length) p = z p := by
    intro p h1 h2
    show (if 77 + 19 * m ≤ p ∧ p < 77 + 19 * m + 2 * tl.length then _ else upd z (75 + 19 * m) (nI tl.length) p) = z p
    rw [if_neg h2]
    exact if_neg h1
  have ui : ∀ p, 77 + 19 * m ≤ p → p < 77 + 19 * m + 2 * tl.length → zD (upd z (75 + 19 * m) (nI tl.length)) (77 + 19 * m) (2 * tl.length) p = z (p + 2) := by
    intro p h1 h2
    show (if 77 + 19 * m ≤ p ∧ p < 77 + 19 * m + 2 * tl.length then upd z (75 + 19 * m) (nI tl.length) (p + 2) else _) = z (p + 2)
    rw [if_pos ⟨h1, h2⟩]
    exact if_neg (by omega)
  have u75 : zD (upd z (75 + 19 * m) (nI tl.length)) (77 + 19 * m) (2 * tl.length) (75 + 19 * m) = nI tl.length := by
    show (if 77 + 19 * m ≤ 75 + 19 * m ∧ 75 + 19 * m < 77 + 19 * m + 2 * tl.length then _ else upd z (75 + 19 * m) (nI tl.length) (75 + 19 * m)) = _
    rw [if_neg (by omega)]
    exact if_pos rfl
  generalize zD (upd z (75 + 19 * m) (nI tl.length)) (77 + 19 * m) (2 * tl.length) = Z at un ui u75
  obtain ⟨g1, g2, g3, g4, g5, g6⟩ := hz
  refine ⟨fun h hh => ?_, fun j hj w hw => ?_, fun s hs => ?_, fun j hj => ?_, fun k hk => ?_, ?_, ?_, ?_, ?_⟩
  · rw [un _ (by omega) (by omega), un _ (by omega) (by omega)]
    exact g1 h hh
  · rw [un _ (by omega) (by omega)]
    exact g2 j hj w hw
  · rw [un _ (by omega) (by omega)]
    exact g3 s hs
  · obtain ⟨a, b, c, d⟩ := g4 j hj
    show Z (74 + 19 * j) = nI (m_sp (v_ml (sml B m tl) j)) ∧ Z (75 + 19 * j) = nI (m_lo (v_ml (sml B m tl) j)).length ∧ Z (76 + 19 * j) = nI (m_gr (v_ml (sml B m tl) j)) ∧ ∀ k, k < (m_lo (v_ml (sml B m tl) j)).length → Z (77 + 19 * j + 2 * k) = nI (lo_o (m_lo (v_ml (sml B m tl) j)) k) ∧ Z (78 + 19 * j + 2 * k) = nI (lo_s (m_lo (v_ml (sml B m tl) j)) k)
    by_cases q9 : j = m
    · subst q9
      have em : v_ml (sml B j tl) j = (m_sp (v_ml B j), m_gr (v_ml B j), tl) := if_pos rfl
      rw [em]
      rw [hl] at d
      refine ⟨by rw [un _ (by omega) (by omega)]; exact a, u75, by rw [un _ (by omega) (by omega)]; exact c, fun k hk => ?_⟩
      have hk : k < tl.length := hk
      obtain ⟨d1, d2⟩ := d (k + 1) (by show k + 1 < tl.length + 1; omega)
      rw [ui _ (by omega) (by omega), ui _ (by omega) (by omega)]
      exact ⟨d1, d2⟩
    · have em : v_ml (sml B m tl) j = v_ml B j := if_neg q9
      rw [em]
      have h8 := h8 j hj
      refine ⟨by rw [un _ (by omega) (by omega)]; exact a, by rw [un _ (by omega) (by omega)]; exact b, by rw [un _ (by omega) (by omega)]; exact c, fun k hk => ?_⟩
      have hk : k < (v_lo B j).length := hk
      rw [un _ (by omega) (by omega), un _ (by omega) (by omega)]
      exact d k hk
  · rw [un _ (by omega) (by omega), un _ (by omega) (by omega), un _ (by omega) (by omega)]
    exact g5 k hk
  · rw [un _ (by omega) (by omega)]; exact g6.1
  · rw [un _ (by omega) (by omega)]; exact g6.2.1
  · rw [un _ (by omega) (by omega)]; exact g6.2.2.1
  · rw [un _ (by omega) (by omega)]; exact g6.2.2.2
