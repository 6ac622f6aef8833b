/-! Changes of a village, told by the law's numbers; what the class's changes answer. -/
theorem not_ix {a n : Nat} (h : a < n) (hn : n < 2 ^ 31) : ¬ (nI a < 0 ∨ nI n ≤ nI a) := by
  rintro (q | q)
  · exact nI_pos (by omega) q
  · rw [n_le (by omega) (by omega)] at q
    omega
theorem not_rg {x a b : Nat} (h1 : a ≤ x) (h2 : x ≤ b) (hb : b < 2 ^ 31) : ¬ (nI x < nI a ∨ nI b < nI x) := by
  rintro (q | q)
  · rw [n_lt (by omega) (by omega)] at q
    omega
  · rw [n_lt (by omega) (by omega)] at q
    omega
theorem not_or2 {P Q : Prop} (h1 : ¬ P) (h2 : ¬ Q) : ¬ (P ∨ Q) := fun h => h.elim h1 h2
theorem rWind_ok (S : aS) {a s t : Nat} (ha : a < 24) (hs : s < 8) (ht : t < 10) : rWind S (nI a) (nI s) (nI t) = (0, sW (sS S) (swd S.1 a s t), nI (10 * v_sd S.1 a + v_sg S.1 a)) := by
  unfold rWind
  rw [if_neg (not_ix ha (by decide)), if_neg (not_or2 (not_rg (Nat.zero_le _) (by omega) (by decide)) (not_rg (Nat.zero_le _) (by omega) (by decide))), cN_n (n := a) (by omega), cN_n (n := s) (by omega), cN_n (n := t) (by omega)]
theorem rVane_ok (S : aS) {i w x : Nat} (hi : i < 6) (hw : w < 4) (hx : x ≤ vmx w) : rVane S (nI i) (nI w) (nI x) = (0, sW (sS S) (svn S.1 i w x), nI (v_vn S.1 i w)) := by
  have h9 := vmx_le w
  unfold rVane
  rw [if_neg (not_ix hi (by decide)), if_neg (not_rg (Nat.zero_le _) (by omega) (by decide)), cN_n (n := w) (by omega), if_neg (not_rg (Nat.zero_le _) hx (by omega)), cN_n (n := i) (by omega), cN_n (n := x) (by omega)]
theorem rMill_ok (S : aS) {m x : Nat} (hm : m < 3) (hx : x ≤ 9) : rMill S (nI m) (nI x) = (0, sW (sS S) (ssp S.1 m x), nI (m_sp (v_ml S.1 m))) := by
  unfold rMill
  rw [if_neg (not_ix hm (by decide)), if_neg (not_rg (Nat.zero_le _) hx (by decide)), cN_n (n := m) (by omega), cN_n (n := x) (by omega)]
theorem rSet_ok (S : aS) {s x : Nat} (hs : s < 2) (h1 : 1 - s ≤ x) (h2 : x ≤ (if s = 0 then 6 else 1)) : rSet S (nI s) (nI x) = (0, sW (sS S) (sst S.1 s x), nI (v_se S.1 s)) := by
  have h6 : (if s = 0 then 6 else 1) ≤ 6 := by split <;> decide
  unfold rSet
  rw [if_neg (not_ix hs (by decide)), cN_n (n := s) (by omega), if_neg (not_rg h1 h2 (by omega)), cN_n (n := x) (by omega)]
theorem rBring_ok (S : aS) {w m s : Nat} (hw : w < 5) (hm : m < 3) (h1 : 1 ≤ s) (h2 : s ≤ 99) : rBring S (nI w) (nI m) (nI s) = if 8 ≤ (v_lo S.1 m).length then (0, sW (sS S) (srf S.1), -1) else (0, sW (sS S) (sbt (sml S.1 m (v_lo S.1 m ++ [(w, s)])) w s), nI (swt (v_lo S.1 m ++ [(w, s)]))) := by
  unfold rBring
  rw [if_neg (not_or2 (not_ix hw (by decide)) (not_ix hm (by decide))), if_neg (not_rg h1 h2 (by decide)), cN_n (n := w) (by omega), cN_n (n := m) (by omega), cN_n (n := s) (by omega)]
theorem rTake_ok (S : aS) {m : Nat} (hm : m < 3) : rTake S (nI m) = if (v_lo S.1 m).length = 0 then (0, sW (sS S) (srf S.1), -1) else (0, sW (sS S) (stt (sml S.1 m (v_lo S.1 m).dropLast) (lo_o (v_lo S.1 m) ((v_lo S.1 m).length - 1)) (lo_s (v_lo S.1 m) ((v_lo S.1 m).length - 1))), nI (lo_s (v_lo S.1 m) ((v_lo S.1 m).length - 1))) := by
  unfold rTake
  rw [if_neg (not_ix hm (by decide)), cN_n (n := m) (by omega)]
theorem rPass_ok (S : aS) {n : Nat} (h1 : 1 ≤ n) (h2 : n ≤ 99) (hg : v_go S.1 + n ≤ 99999) : rPass S (nI n) = (0, sW (sS S) (hrs n S.1), nI (hrsG n S.1)) := by
  unfold rPass
  rw [if_neg (not_rg h1 h2 (by decide)), cN_n (n := n) (by omega), if_neg (by omega)]
theorem hR_swd {A : aV} {h : Nat → Int32} (H : hR A h) {a s t : Nat} (ha : a < 24) : hR (swd A a s t) (upd (upd h (2 * a) (nI s)) (2 * a + 1) (nI t)) := fun k hk => by
  obtain ⟨h1, h2⟩ := H k hk
  show _ = nI (if k = a then s else v_sd A k) ∧ _ = nI (if k = a then t else v_sg A k)
  by_cases q : k = a
  · subst q
    rw [if_pos rfl, if_pos rfl, pk_us, pk_un (by omega), pk_us]
    exact ⟨rfl, rfl⟩
  · rw [if_neg q, if_neg q, pk_un (by omega), pk_un (by omega), pk_un (by omega), pk_un (by omega)]
    exact ⟨h1, h2⟩
theorem vR_svn {A : aV} {v : Nat → Int32} (H : vR A v) {i w x p : Nat} (hi : i < 6) (hw : w < 4) (hp : p = 4 * i + w) : vR (svn A i w x) (upd v p (nI x)) := fun j hj u hu => by
  subst hp
  have h1 := H j hj u hu
  show _ = nI (if j = i then (if u = w then x else v_vn A j u) else v_vn A j u)
  by_cases q : j = i
  · subst q
    by_cases q2 : u = w
    · subst q2
      rw [if_pos rfl, if_pos rfl, pk_us]
    · rw [if_pos rfl, if_neg q2, pk_un (by omega)]
      exact h1
  · rw [if_neg q, pk_un (by omega)]
    exact h1
theorem gR_ssp {A : aV} {g : Nat → Int32} (H : gR A g) {m x : Nat} (hm : m < 3) : gR (ssp A m x) (upd g (6 + m) (nI x)) := by
  obtain ⟨⟨a, b, c, d⟩, h2, h3⟩ := H
  refine ⟨⟨?_, ?_, ?_, ?_⟩, fun s hs => ?_, fun j hj => ?_⟩
  · exact (pk_un (by omega)).trans a
  · exact (pk_un (by omega)).trans b
  · exact (pk_un (by omega)).trans c
  · exact (pk_un (by omega)).trans d
  · exact (pk_un (by omega)).trans (h2 s hs)
  · obtain ⟨x1, x2, x3⟩ := h3 j hj
    rw [pk_un (show 9 + j ≠ 6 + m by omega), pk_un (show 12 + j ≠ 6 + m by omega)]
    by_cases q : j = m
    · subst q
      have e : v_ml (ssp A j x) j = (x, (v_ml A j).2) := if_pos rfl
      show upd g (6 + j) (nI x) (6 + j) = nI (m_sp (v_ml (ssp A j x) j)) ∧ g (9 + j) = nI (m_lo (v_ml (ssp A j x) j)).length ∧ g (12 + j) = nI (m_gr (v_ml (ssp A j x) j))
      rw [e, pk_us]
      exact ⟨rfl, x2, x3⟩
    · have e : v_ml (ssp A m x) j = v_ml A j := if_neg q
      show upd g (6 + m) (nI x) (6 + j) = nI (m_sp (v_ml (ssp A m x) j)) ∧ g (9 + j) = nI (m_lo (v_ml (ssp A m x) j)).length ∧ g (12 + j) = nI (m_gr (v_ml (ssp A m x) j))
      rw [e, pk_un (show 6 + j ≠ 6 + m by omega)]
      exact ⟨x1, x2, x3⟩
theorem lR_ssp {A : aV} {l : Nat → Int32} (H : lR A l) (m x : Nat) : lR (ssp A m x) l := fun j hj => by
  have e : m_lo (v_ml (ssp A m x) j) = v_lo A j := by
    show m_lo (if j = m then (x, (v_ml A j).2) else v_ml A j) = _
    split <;> rfl
  show ∀ k, k < (m_lo (v_ml (ssp A m x) j)).length → l (8 * j + k) = nI (100 * lo_o (m_lo (v_ml (ssp A m x) j)) k + lo_s (m_lo (v_ml (ssp A m x) j)) k)
  rw [e]
  exact H j hj
theorem gR_sst {A : aV} {g : Nat → Int32} (H : gR A g) {s x : Nat} (hs : s < 2) : gR (sst A s x) (upd g (4 + s) (nI x)) := by
  obtain ⟨⟨a, b, c, d⟩, h2, h3⟩ := H
  refine ⟨⟨?_, ?_, ?_, ?_⟩, fun u hu => ?_, fun j hj => ?_⟩
  · exact (pk_un (by omega)).trans a
  · exact (pk_un (by omega)).trans b
  · exact (pk_un (by omega)).trans c
  · exact (pk_un (by omega)).trans d
  · show _ = nI (if u = s then x else v_se A u)
    by_cases q : u = s
    · subst q
      rw [if_pos rfl, pk_us]
    · rw [if_neg q, pk_un (by omega)]
      exact h2 u hu
  · rw [pk_un (by omega), pk_un (by omega), pk_un (by omega)]
    exact h3 j hj
theorem gR_srf {A : aV} {g : Nat → Int32} (H : gR A g) : gR (srf A) (upd g 3 (g 3 + 1)) := by
  obtain ⟨⟨a, b, c, d⟩, h2, h3⟩ := H
  refine ⟨⟨?_, ?_, ?_, ?_⟩, fun u hu => ?_, fun j hj => ?_⟩
  · exact (pk_un (by omega)).trans a
  · exact (pk_un (by omega)).trans b
  · exact (pk_un (by omega)).trans c
  · rw [pk_us, d, nI_1]
    rfl
  · rw [pk_un (by omega)]
    exact h2 u hu
  · rw [pk_un (by omega), pk_un (by omega), pk_un (by omega)]
    exact h3 j hj
/-- a lot is brought -/
theorem R_brg {A : aV} {g l o : Nat → Int32} (H : gR A g ∧ lR A l ∧ oR A o) {m w s n : Nat} (hm : m < 3) (hw : w < 5) (h8 : ∀ j, j < 3 → (v_lo A j).length ≤ 8) (hn : n = (v_lo A m).length) (hn8 : n < 8) :
    gR (sbt (sml A m (v_lo A m ++ [(w, s)])) w s) (upd g (9 + m) (g (9 + m) + 1)) ∧ lR (sbt (sml A m (v_lo A m ++ [(w, s)])) w s) (upd l (8 * m + n) (nI (100 * w + s))) ∧ oR (sbt (sml A m (v_lo A m ++ [(w, s)])) w s) (upd o (3 * w + 1) (o (3 * w + 1) + nI s)) := by
  subst hn
  obtain ⟨⟨g1, g2, g3⟩, hl, ho⟩ := H
  have eM : ∀ j, v_ml (sbt (sml A m (v_lo A m ++ [(w, s)])) w s) j = if j = m then (m_sp (v_ml A j), m_gr (v_ml A j), v_lo A m ++ [(w, s)]) else v_ml A j := fun j => rfl
  have hlen : (v_lo A m ++ [(w, s)]).length = (v_lo A m).length + 1 := by rw [List.length_append]; rfl
  refine ⟨⟨?_, fun i hi => ?_, fun j hj => ?_⟩, fun j hj k hk => ?_, fun k hk => ?_⟩
  · rw [pk_un (by omega), pk_un (by omega), pk_un (by omega), pk_un (by omega)]
    exact g1
  · rw [pk_un (by omega)]
    exact g2 i hi
  · obtain ⟨a1, a2, a3⟩ := g3 j hj
    rw [pk_un (show 6 + j ≠ 9 + m by omega), pk_un (show 12 + j ≠ 9 + m by omega)]
    show g (6 + j) = nI (m_sp (v_ml (sbt (sml A m (v_lo A m ++ [(w, s)])) w s) j)) ∧ upd g (9 + m) (g (9 + m) + 1) (9 + j) = nI (m_lo (v_ml (sbt (sml A m (v_lo A m ++ [(w, s)])) w s) j)).length ∧ g (12 + j) = nI (m_gr (v_ml (sbt (sml A m (v_lo A m ++ [(w, s)])) w s) j))
    by_cases q : j = m
    · subst q
      rw [eM, if_pos rfl, pk_us, a2, nI_1]
      exact ⟨a1, congrArg nI hlen.symm, a3⟩
    · rw [eM, if_neg q, pk_un (show 9 + j ≠ 9 + m by omega)]
      exact ⟨a1, a2, a3⟩
  · have hk : k < (m_lo (v_ml (sbt (sml A m (v_lo A m ++ [(w, s)])) w s) j)).length := hk
    show _ = nI (100 * lo_o (m_lo (v_ml (sbt (sml A m (v_lo A m ++ [(w, s)])) w s) j)) k + lo_s (m_lo (v_ml (sbt (sml A m (v_lo A m ++ [(w, s)])) w s) j)) k)
    have h8 := h8 j hj
    by_cases q : j = m
    · subst q
      rw [eM, if_pos rfl] at hk ⊢
      have hk : k < (v_lo A j ++ [(w, s)]).length := hk
      rw [hlen] at hk
      obtain ⟨l1, l2⟩ := lo_app (l := v_lo A j) (o := w) (s := s) hk
      show _ = nI (100 * lo_o (v_lo A j ++ [(w, s)]) k + lo_s (v_lo A j ++ [(w, s)]) k)
      rw [l1, l2]
      by_cases q2 : k = (v_lo A j).length
      · subst q2
        rw [if_pos rfl, if_pos rfl, pk_us]
      · rw [if_neg q2, if_neg q2, pk_un (by omega)]
        exact hl j hj k (by omega)
    · rw [eM, if_neg q] at hk ⊢
      have hk : k < (v_lo A j).length := hk
      rw [pk_un (by omega)]
      exact hl j hj k hk
  · obtain ⟨a1, a2, a3⟩ := ho k hk
    rw [pk_un (show 3 * k ≠ 3 * w + 1 by omega), pk_un (show 3 * k + 2 ≠ 3 * w + 1 by omega)]
    refine ⟨a1, ?_, a3⟩
    show _ = nI (if k = w then v_br A w + s else v_br A k)
    by_cases q : k = w
    · subst q
      rw [if_pos rfl, pk_us, a2, nI_add]
    · rw [if_neg q, pk_un (by omega)]
      exact a2
/-- a lot is taken back -/
theorem R_tkb {A : aV} {g l o : Nat → Int32} (H : gR A g ∧ lR A l ∧ oR A o) {m w s n : Nat} (hm : m < 3) (hw : w < 5) (hn : (v_lo A m).length = n + 1) :
    gR (stt (sml A m (v_lo A m).dropLast) w s) (upd g (9 + m) (nI n)) ∧ lR (stt (sml A m (v_lo A m).dropLast) w s) l ∧ oR (stt (sml A m (v_lo A m).dropLast) w s) (upd o (3 * w + 2) (o (3 * w + 2) + nI s)) := by
  obtain ⟨⟨g1, g2, g3⟩, hl, ho⟩ := H
  have eM : ∀ j, v_ml (stt (sml A m (v_lo A m).dropLast) w s) j = if j = m then (m_sp (v_ml A j), m_gr (v_ml A j), (v_lo A m).dropLast) else v_ml A j := fun j => rfl
  have hlen : (v_lo A m).dropLast.length = n := by rw [List.length_dropLast, hn]; rfl
  refine ⟨⟨?_, fun i hi => ?_, fun j hj => ?_⟩, fun j hj k hk => ?_, fun k hk => ?_⟩
  · rw [pk_un (by omega), pk_un (by omega), pk_un (by omega), pk_un (by omega)]
    exact g1
  · rw [pk_un (by omega)]
    exact g2 i hi
  · obtain ⟨a1, a2, a3⟩ := g3 j hj
    rw [pk_un (show 6 + j ≠ 9 + m by omega), pk_un (show 12 + j ≠ 9 + m by omega)]
    show g (6 + j) = nI (m_sp (v_ml (stt (sml A m (v_lo A m).dropLast) w s) j)) ∧ upd g (9 + m) (nI n) (9 + j) = nI (m_lo (v_ml (stt (sml A m (v_lo A m).dropLast) w s) j)).length ∧ g (12 + j) = nI (m_gr (v_ml (stt (sml A m (v_lo A m).dropLast) w s) j))
    by_cases q : j = m
    · subst q
      rw [eM, if_pos rfl, pk_us]
      exact ⟨a1, congrArg nI hlen.symm, a3⟩
    · rw [eM, if_neg q, pk_un (show 9 + j ≠ 9 + m by omega)]
      exact ⟨a1, a2, a3⟩
  · have hk : k < (m_lo (v_ml (stt (sml A m (v_lo A m).dropLast) w s) j)).length := hk
    show _ = nI (100 * lo_o (m_lo (v_ml (stt (sml A m (v_lo A m).dropLast) w s) j)) k + lo_s (m_lo (v_ml (stt (sml A m (v_lo A m).dropLast) w s) j)) k)
    by_cases q : j = m
    · subst q
      rw [eM, if_pos rfl] at hk ⊢
      have hk : k < (v_lo A j).dropLast.length := hk
      rw [hlen] at hk
      obtain ⟨l1, l2⟩ := lo_dropL (l := v_lo A j) (k := k) (by omega)
      show _ = nI (100 * lo_o (v_lo A j).dropLast k + lo_s (v_lo A j).dropLast k)
      rw [l1, l2]
      exact hl j hj k (by omega)
    · rw [eM, if_neg q] at hk ⊢
      exact hl j hj k hk
  · obtain ⟨a1, a2, a3⟩ := ho k hk
    rw [pk_un (show 3 * k ≠ 3 * w + 2 by omega), pk_un (show 3 * k + 1 ≠ 3 * w + 2 by omega)]
    refine ⟨a1, a2, ?_⟩
    show _ = nI (if k = w then v_tk A w + s else v_tk A k)
    by_cases q : k = w
    · subst q
      rw [if_pos rfl, pk_us, a3, nI_add]
    · rw [if_neg q, pk_un (by omega)]
      exact a3
