/-! How the model's row follows the operations. -/
theorem z_swd {A : aV} {z z' : Nat → Int32} {i x y : Nat} (hi : i < 24) (h8 : ∀ j, j < 3 → (v_lo A j).length ≤ 8) (e : z' = upd (upd z (2 * i) (nI x)) (2 * i + 1) (nI y)) (hz : zRel A z) : zRel (swd A i x y) z' := by
  have un : ∀ p, p ≠ 2 * i → p ≠ 2 * i + 1 → z' p = z p := by
    intro p u0 u1
    rw [e]
    show (if p = 2 * i + 1 then nI y else if p = 2 * i then nI x else z p) = z p
    rw [if_neg u1, if_neg u0]
  obtain ⟨g1, g2, g3, g4, g5, g6⟩ := hz
  refine ⟨fun h hh => ?_, fun j hj w hw => ?_, fun s hs => ?_, fun j hj => ?_, fun k hk => ?_, ?_, ?_, ?_, ?_⟩
  · rw [e]
    show (if 2 * h = 2 * i + 1 then nI y else if 2 * h = 2 * i then nI x else z (2 * h)) = nI (if h = i then x else v_sd A h) ∧ (if 2 * h + 1 = 2 * i + 1 then nI y else if 2 * h + 1 = 2 * i then nI x else z (2 * h + 1)) = nI (if h = i then y else v_sg A h)
    by_cases q : h = i
    · rw [if_neg (by omega), if_pos (by omega), if_pos q, if_pos (by omega), if_pos q]
      exact ⟨rfl, rfl⟩
    · rw [if_neg (by omega), if_neg (by omega), if_neg q, if_neg (by omega), if_neg (by omega), if_neg q]
      exact g1 h hh
  · rw [un _ (by omega) (by omega)]
    exact g2 j hj w hw
  · rw [un _ (by omega) (by omega)]
    exact g3 s hs
  · obtain ⟨a, b, c, d⟩ := g4 j hj
    have h8 := h8 j hj
    rw [un _ (by omega) (by omega), un _ (by omega) (by omega), un _ (by omega) (by omega)]
    refine ⟨a, b, c, fun k hk => ?_⟩
    have hk : k < (v_lo A j).length := hk
    rw [un _ (by omega) (by omega), un _ (by omega) (by omega)]
    exact d k hk
  · rw [un _ (by omega) (by omega), un _ (by omega) (by omega), un _ (by omega) (by omega)]
    exact g5 k hk
  · rw [un _ (by omega) (by omega)]; exact g6.1
  · rw [un _ (by omega) (by omega)]; exact g6.2.1
  · rw [un _ (by omega) (by omega)]; exact g6.2.2.1
  · rw [un _ (by omega) (by omega)]; exact g6.2.2.2
theorem z_svn {A : aV} {z z' : Nat → Int32} {i v x : Nat} (hi : i < 6) (hv : v < 4) (h8 : ∀ j, j < 3 → (v_lo A j).length ≤ 8) (e : z' = upd z (48 + 4 * i + v) (nI x)) (hz : zRel A z) : zRel (svn A i v x) z' := by
  have un : ∀ p, p ≠ 48 + 4 * i + v → z' p = z p := by
    intro p u0
    rw [e]
    show (if p = 48 + 4 * i + v then nI x else z p) = z p
    rw [if_neg u0]
  obtain ⟨g1, g2, g3, g4, g5, g6⟩ := hz
  refine ⟨fun h hh => ?_, fun j hj w hw => ?_, fun s hs => ?_, fun j hj => ?_, fun k hk => ?_, ?_, ?_, ?_, ?_⟩
  · rw [un _ (by omega), un _ (by omega)]
    exact g1 h hh
  · rw [e]
    show (if 48 + 4 * j + w = 48 + 4 * i + v then nI x else z (48 + 4 * j + w)) = nI (if j = i then (if w = v then x else v_vn A j w) else v_vn A j w)
    by_cases q : j = i
    · by_cases q2 : w = v
      · rw [if_pos (by omega), if_pos q, if_pos q2]
      · rw [if_neg (by omega), if_pos q, if_neg q2]
        exact g2 j hj w hw
    · rw [if_neg (by omega), if_neg q]
      exact g2 j hj w hw
  · rw [un _ (by omega)]
    exact g3 s hs
  · obtain ⟨a, b, c, d⟩ := g4 j hj
    have h8 := h8 j hj
    rw [un _ (by omega), un _ (by omega), un _ (by omega)]
    refine ⟨a, b, c, fun k hk => ?_⟩
    have hk : k < (v_lo A j).length := hk
    rw [un _ (by omega), un _ (by omega)]
    exact d k hk
  · rw [un _ (by omega), un _ (by omega), un _ (by omega)]
    exact g5 k hk
  · rw [un _ (by omega)]; exact g6.1
  · rw [un _ (by omega)]; exact g6.2.1
  · rw [un _ (by omega)]; exact g6.2.2.1
  · rw [un _ (by omega)]; exact g6.2.2.2
theorem z_ssp {A : aV} {z z' : Nat → Int32} {m x : Nat} (hm : m < 3) (h8 : ∀ j, j < 3 → (v_lo A j).length ≤ 8) (e : z' = upd z (74 + 19 * m) (nI x)) (hz : zRel A z) : zRel (ssp A m x) z' := by
  have un : ∀ p, p ≠ 74 + 19 * m → z' p = z p := by
    intro p u0
    rw [e]
    show (if p = 74 + 19 * m then nI x else z p) = z p
    rw [if_neg u0]
  obtain ⟨g1, g2, g3, g4, g5, g6⟩ := hz
  refine ⟨fun h hh => ?_, fun j hj w hw => ?_, fun s hs => ?_, fun j hj => ?_, fun k hk => ?_, ?_, ?_, ?_, ?_⟩
  · rw [un _ (by omega), un _ (by omega)]
    exact g1 h hh
  · rw [un _ (by omega)]
    exact g2 j hj w hw
  · rw [un _ (by omega)]
    exact g3 s hs
  · obtain ⟨a, b, c, d⟩ := g4 j hj
    have h8 := h8 j hj
    show z' (74 + 19 * j) = nI (m_sp (v_ml (ssp A m x) j)) ∧ z' (75 + 19 * j) = nI (m_lo (v_ml (ssp A m x) j)).length ∧ z' (76 + 19 * j) = nI (m_gr (v_ml (ssp A m x) j)) ∧ ∀ k, k < (m_lo (v_ml (ssp A m x) j)).length → z' (77 + 19 * j + 2 * k) = nI (lo_o (m_lo (v_ml (ssp A m x) j)) k) ∧ z' (78 + 19 * j + 2 * k) = nI (lo_s (m_lo (v_ml (ssp A m x) j)) k)
    by_cases q : j = m
    · have em : v_ml (ssp A m x) j = (x, (v_ml A j).2) := if_pos q
      rw [em]
      refine ⟨?_, ?_, ?_, fun k hk => ?_⟩
      · rw [e, q]
        exact if_pos rfl
      · rw [un _ (by omega)]
        exact b
      · rw [un _ (by omega)]
        exact c
      · have hk : k < (v_lo A j).length := hk
        rw [un _ (by omega), un _ (by omega)]
        exact d k hk
    · have em : v_ml (ssp A m x) j = v_ml A j := if_neg q
      rw [em, un _ (by omega), un _ (by omega), un _ (by omega)]
      refine ⟨a, b, c, fun k hk => ?_⟩
      have hk : k < (v_lo A j).length := hk
      rw [un _ (by omega), un _ (by omega)]
      exact d k hk
  · rw [un _ (by omega), un _ (by omega), un _ (by omega)]
    exact g5 k hk
  · rw [un _ (by omega)]; exact g6.1
  · rw [un _ (by omega)]; exact g6.2.1
  · rw [un _ (by omega)]; exact g6.2.2.1
  · rw [un _ (by omega)]; exact g6.2.2.2
theorem z_sst {A : aV} {z z' : Nat → Int32} {i x : Nat} (hi : i < 2) (h8 : ∀ j, j < 3 → (v_lo A j).length ≤ 8) (e : z' = upd z (72 + i) (nI x)) (hz : zRel A z) : zRel (sst A i x) z' := by
  have un : ∀ p, p ≠ 72 + i → z' p = z p := by
    intro p u0
    rw [e]
    show (if p = 72 + i then nI x else z p) = z p
    rw [if_neg u0]
  obtain ⟨g1, g2, g3, g4, g5, g6⟩ := hz
  refine ⟨fun h hh => ?_, fun j hj w hw => ?_, fun s hs => ?_, fun j hj => ?_, fun k hk => ?_, ?_, ?_, ?_, ?_⟩
  · rw [un _ (by omega), un _ (by omega)]
    exact g1 h hh
  · rw [un _ (by omega)]
    exact g2 j hj w hw
  · rw [e]
    show (if 72 + s = 72 + i then nI x else z (72 + s)) = nI (if s = i then x else v_se A s)
    by_cases q : s = i
    · rw [if_pos (by omega), if_pos q]
    · rw [if_neg (by omega), if_neg q]
      exact g3 s hs
  · obtain ⟨a, b, c, d⟩ := g4 j hj
    have h8 := h8 j hj
    rw [un _ (by omega), un _ (by omega), un _ (by omega)]
    refine ⟨a, b, c, fun k hk => ?_⟩
    have hk : k < (v_lo A j).length := hk
    rw [un _ (by omega), un _ (by omega)]
    exact d k hk
  · rw [un _ (by omega), un _ (by omega), un _ (by omega)]
    exact g5 k hk
  · rw [un _ (by omega)]; exact g6.1
  · rw [un _ (by omega)]; exact g6.2.1
  · rw [un _ (by omega)]; exact g6.2.2.1
  · rw [un _ (by omega)]; exact g6.2.2.2
theorem z_srf {A : aV} {z z' : Nat → Int32} (h8 : ∀ j, j < 3 → (v_lo A j).length ≤ 8) (e : z' = upd z 149 (nI (v_re A + 1))) (hz : zRel A z) : zRel (srf A) z' := by
  have un : ∀ p, p ≠ 149 → z' p = z p := by
    intro p u0
    rw [e]
    show (if p = 149 then nI (v_re A + 1) else z p) = z p
    rw [if_neg u0]
  obtain ⟨g1, g2, g3, g4, g5, g6⟩ := hz
  refine ⟨fun h hh => ?_, fun j hj w hw => ?_, fun s hs => ?_, fun j hj => ?_, fun k hk => ?_, ?_, ?_, ?_, ?_⟩
  · rw [un _ (by omega), un _ (by omega)]
    exact g1 h hh
  · rw [un _ (by omega)]
    exact g2 j hj w hw
  · rw [un _ (by omega)]
    exact g3 s hs
  · obtain ⟨a, b, c, d⟩ := g4 j hj
    have h8 := h8 j hj
    rw [un _ (by omega), un _ (by omega), un _ (by omega)]
    refine ⟨a, b, c, fun k hk => ?_⟩
    have hk : k < (v_lo A j).length := hk
    rw [un _ (by omega), un _ (by omega)]
    exact d k hk
  · rw [un _ (by omega), un _ (by omega), un _ (by omega)]
    exact g5 k hk
  · rw [un _ (by omega)]; exact g6.1
  · rw [un _ (by omega)]; exact g6.2.1
  · rw [un _ (by omega)]; exact g6.2.2.1
  · rw [e]
    exact if_pos rfl
theorem z_brg {A : aV} {z z' : Nat → Int32} {m o s : Nat} (hm : m < 3) (ho : o < 5) (h8 : ∀ j, j < 3 → (v_lo A j).length ≤ 8) (h7 : (v_lo A m).length < 8) (e : z' = upd (upd (upd (upd z (77 + 19 * m + 2 * (v_lo A m).length) (nI o)) (78 + 19 * m + 2 * (v_lo A m).length) (nI s)) (75 + 19 * m) (nI ((v_lo A m).length + 1))) (132 + 3 * o) (nI (v_br A o + s))) (hz : zRel A z) : zRel (sbt (sml A m (v_lo A m ++ [(o, s)])) o s) z' := by
  have un : ∀ p, p ≠ 77 + 19 * m + 2 * (v_lo A m).length → p ≠ 78 + 19 * m + 2 * (v_lo A m).length → p ≠ 75 + 19 * m → p ≠ 132 + 3 * o → z' p = z p := by
    intro p u0 u1 u2 u3
    rw [e]
    show (if p = 132 + 3 * o then nI (v_br A o + s) else if p = 75 + 19 * m then nI ((v_lo A m).length + 1) else if p = 78 + 19 * m + 2 * (v_lo A m).length then nI s else if p = 77 + 19 * m + 2 * (v_lo A m).length then nI o else z p) = z p
    rw [if_neg u3, if_neg u2, if_neg u1, if_neg u0]
  obtain ⟨g1, g2, g3, g4, g5, g6⟩ := hz
  refine ⟨fun h hh => ?_, fun j hj w hw => ?_, fun s hs => ?_, fun j hj => ?_, fun k hk => ?_, ?_, ?_, ?_, ?_⟩
  · rw [un _ (by omega) (by omega) (by omega) (by omega), un _ (by omega) (by omega) (by omega) (by omega)]
    exact g1 h hh
  · rw [un _ (by omega) (by omega) (by omega) (by omega)]
    exact g2 j hj w hw
  · rw [un _ (by omega) (by omega) (by omega) (by omega)]
    exact g3 s hs
  · obtain ⟨a, b, c, d⟩ := g4 j hj
    have h8 := h8 j hj
    show z' (74 + 19 * j) = nI (m_sp (v_ml (sbt (sml A m (v_lo A m ++ [(o, s)])) o s) j)) ∧ z' (75 + 19 * j) = nI (m_lo (v_ml (sbt (sml A m (v_lo A m ++ [(o, s)])) o s) j)).length ∧ z' (76 + 19 * j) = nI (m_gr (v_ml (sbt (sml A m (v_lo A m ++ [(o, s)])) o s) j)) ∧ ∀ k, k < (m_lo (v_ml (sbt (sml A m (v_lo A m ++ [(o, s)])) o s) j)).length → z' (77 + 19 * j + 2 * k) = nI (lo_o (m_lo (v_ml (sbt (sml A m (v_lo A m ++ [(o, s)])) o s) j)) k) ∧ z' (78 + 19 * j + 2 * k) = nI (lo_s (m_lo (v_ml (sbt (sml A m (v_lo A m ++ [(o, s)])) o s) j)) k)
    by_cases q : j = m
    · have em : v_ml (sbt (sml A m (v_lo A m ++ [(o, s)])) o s) j = (m_sp (v_ml A j), m_gr (v_ml A j), v_lo A m ++ [(o, s)]) := if_pos q
      rw [em]
      subst q
      have hlen : (v_lo A j ++ [(o, s)]).length = (v_lo A j).length + 1 := by rw [List.length_append]; rfl
      refine ⟨?_, ?_, ?_, fun k hk => ?_⟩
      · rw [un _ (by omega) (by omega) (by omega) (by omega)]
        exact a
      · rw [e]
        show (if 75 + 19 * j = 132 + 3 * o then nI (v_br A o + s) else if 75 + 19 * j = 75 + 19 * j then nI ((v_lo A j).length + 1) else if 75 + 19 * j = 78 + 19 * j + 2 * (v_lo A j).length then nI s else if 75 + 19 * j = 77 + 19 * j + 2 * (v_lo A j).length then nI o else z (75 + 19 * j)) = nI (v_lo A j ++ [(o, s)]).length
        rw [if_neg (by omega), if_pos rfl, hlen]
      · rw [un _ (by omega) (by omega) (by omega) (by omega)]
        exact c
      · have hk : k < (v_lo A j ++ [(o, s)]).length := hk
        rw [hlen] at hk
        obtain ⟨l1, l2⟩ := lo_app (l := v_lo A j) (o := o) (s := s) hk
        show z' (77 + 19 * j + 2 * k) = nI (lo_o (v_lo A j ++ [(o, s)]) k) ∧ z' (78 + 19 * j + 2 * k) = nI (lo_s (v_lo A j ++ [(o, s)]) k)
        rw [l1, l2]
        by_cases q2 : k = (v_lo A j).length
        · rw [if_pos q2, if_pos q2, e, q2]
          constructor
          · show (if 77 + 19 * j + 2 * (v_lo A j).length = 132 + 3 * o then nI (v_br A o + s) else if 77 + 19 * j + 2 * (v_lo A j).length = 75 + 19 * j then nI ((v_lo A j).length + 1) else if 77 + 19 * j + 2 * (v_lo A j).length = 78 + 19 * j + 2 * (v_lo A j).length then nI s else if 77 + 19 * j + 2 * (v_lo A j).length = 77 + 19 * j + 2 * (v_lo A j).length then nI o else z (77 + 19 * j + 2 * (v_lo A j).length)) = nI o
            rw [if_neg (by omega), if_neg (by omega), if_neg (by omega), if_pos rfl]
          · show (if 78 + 19 * j + 2 * (v_lo A j).length = 132 + 3 * o then nI (v_br A o + s) else if 78 + 19 * j + 2 * (v_lo A j).length = 75 + 19 * j then nI ((v_lo A j).length + 1) else if 78 + 19 * j + 2 * (v_lo A j).length = 78 + 19 * j + 2 * (v_lo A j).length then nI s else if 78 + 19 * j + 2 * (v_lo A j).length = 77 + 19 * j + 2 * (v_lo A j).length then nI o else z (78 + 19 * j + 2 * (v_lo A j).length)) = nI s
            rw [if_neg (by omega), if_neg (by omega), if_pos rfl]
        · rw [if_neg q2, if_neg q2, un _ (by omega) (by omega) (by omega) (by omega), un _ (by omega) (by omega) (by omega) (by omega)]
          exact d k (by omega)
    · have em : v_ml (sbt (sml A m (v_lo A m ++ [(o, s)])) o s) j = v_ml A j := if_neg q
      rw [em, un _ (by omega) (by omega) (by omega) (by omega), un _ (by omega) (by omega) (by omega) (by omega), un _ (by omega) (by omega) (by omega) (by omega)]
      refine ⟨a, b, c, fun k hk => ?_⟩
      have hk : k < (v_lo A j).length := hk
      rw [un _ (by omega) (by omega) (by omega) (by omega), un _ (by omega) (by omega) (by omega) (by omega)]
      exact d k hk
  · obtain ⟨a, b, c⟩ := g5 k hk
    rw [un (131 + 3 * k) (by omega) (by omega) (by omega) (by omega), un (133 + 3 * k) (by omega) (by omega) (by omega) (by omega)]
    refine ⟨a, ?_, c⟩
    show z' (132 + 3 * k) = nI (if k = o then v_br A o + s else v_br A k)
    by_cases q : k = o
    · rw [if_pos q, e, q]
      exact if_pos rfl
    · rw [if_neg q, un _ (by omega) (by omega) (by omega) (by omega)]
      exact b
  · rw [un _ (by omega) (by omega) (by omega) (by omega)]; exact g6.1
  · rw [un _ (by omega) (by omega) (by omega) (by omega)]; exact g6.2.1
  · rw [un _ (by omega) (by omega) (by omega) (by omega)]; exact g6.2.2.1
  · rw [un _ (by omega) (by omega) (by omega) (by omega)]; exact g6.2.2.2
theorem z_tkb {A : aV} {z z' : Nat → Int32} {m n o s : Nat} (hm : m < 3) (ho : o < 5) (h8 : ∀ j, j < 3 → (v_lo A j).length ≤ 8) (hn : (v_lo A m).length = n + 1) (e : z' = upd (upd z (75 + 19 * m) (nI n)) (133 + 3 * o) (nI (v_tk A o + s))) (hz : zRel A z) : zRel (stt (sml A m (v_lo A m).dropLast) o s) z' := by
  have un : ∀ p, p ≠ 75 + 19 * m → p ≠ 133 + 3 * o → z' p = z p := by
    intro p u0 u1
    rw [e]
    show (if p = 133 + 3 * o then nI (v_tk A o + s) else if p = 75 + 19 * m then nI n else z p) = z p
    rw [if_neg u1, if_neg u0]
  obtain ⟨g1, g2, g3, g4, g5, g6⟩ := hz
  refine ⟨fun h hh => ?_, fun j hj w hw => ?_, fun s hs => ?_, fun j hj => ?_, fun k hk => ?_, ?_, ?_, ?_, ?_⟩
  · rw [un _ (by omega) (by omega), un _ (by omega) (by omega)]
    exact g1 h hh
  · rw [un _ (by omega) (by omega)]
    exact g2 j hj w hw
  · rw [un _ (by omega) (by omega)]
    exact g3 s hs
  · obtain ⟨a, b, c, d⟩ := g4 j hj
    have h8 := h8 j hj
    show z' (74 + 19 * j) = nI (m_sp (v_ml (stt (sml A m (v_lo A m).dropLast) o s) j)) ∧ z' (75 + 19 * j) = nI (m_lo (v_ml (stt (sml A m (v_lo A m).dropLast) o s) j)).length ∧ z' (76 + 19 * j) = nI (m_gr (v_ml (stt (sml A m (v_lo A m).dropLast) o s) j)) ∧ ∀ k, k < (m_lo (v_ml (stt (sml A m (v_lo A m).dropLast) o s) j)).length → z' (77 + 19 * j + 2 * k) = nI (lo_o (m_lo (v_ml (stt (sml A m (v_lo A m).dropLast) o s) j)) k) ∧ z' (78 + 19 * j + 2 * k) = nI (lo_s (m_lo (v_ml (stt (sml A m (v_lo A m).dropLast) o s) j)) k)
    by_cases q : j = m
    · have em : v_ml (stt (sml A m (v_lo A m).dropLast) o s) j = (m_sp (v_ml A j), m_gr (v_ml A j), (v_lo A m).dropLast) := if_pos q
      rw [em]
      subst q
      have hlen : (v_lo A j).dropLast.length = n := by rw [List.length_dropLast, hn]; rfl
      refine ⟨?_, ?_, ?_, fun k hk => ?_⟩
      · rw [un _ (by omega) (by omega)]
        exact a
      · rw [e]
        show (if 75 + 19 * j = 133 + 3 * o then nI (v_tk A o + s) else if 75 + 19 * j = 75 + 19 * j then nI n else z (75 + 19 * j)) = nI (v_lo A j).dropLast.length
        rw [if_neg (by omega), if_pos rfl, hlen]
      · rw [un _ (by omega) (by omega)]
        exact c
      · have hk : k < (v_lo A j).dropLast.length := hk
        rw [hlen] at hk
        obtain ⟨l1, l2⟩ := lo_dropL (l := v_lo A j) (k := k) (by omega)
        show z' (77 + 19 * j + 2 * k) = nI (lo_o (v_lo A j).dropLast k) ∧ z' (78 + 19 * j + 2 * k) = nI (lo_s (v_lo A j).dropLast k)
        rw [l1, l2, un _ (by omega) (by omega), un _ (by omega) (by omega)]
        exact d k (by omega)
    · have em : v_ml (stt (sml A m (v_lo A m).dropLast) o s) j = v_ml A j := if_neg q
      rw [em, un _ (by omega) (by omega), un _ (by omega) (by omega), un _ (by omega) (by omega)]
      refine ⟨a, b, c, fun k hk => ?_⟩
      have hk : k < (v_lo A j).length := hk
      rw [un _ (by omega) (by omega), un _ (by omega) (by omega)]
      exact d k hk
  · obtain ⟨a, b, c⟩ := g5 k hk
    rw [un (131 + 3 * k) (by omega) (by omega), un (132 + 3 * k) (by omega) (by omega)]
    refine ⟨a, b, ?_⟩
    show z' (133 + 3 * k) = nI (if k = o then v_tk A o + s else v_tk A k)
    by_cases q : k = o
    · rw [if_pos q, e, q]
      exact if_pos rfl
    · rw [if_neg q, un _ (by omega) (by omega)]
      exact c
  · rw [un _ (by omega) (by omega)]; exact g6.1
  · rw [un _ (by omega) (by omega)]; exact g6.2.1
  · rw [un _ (by omega) (by omega)]; exact g6.2.2.1
  · rw [un _ (by omega) (by omega)]; exact g6.2.2.2
