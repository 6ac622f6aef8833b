/-! Snapshots; going back; the last change is undone. -/
theorem nth_blk' {pre cs post W : j_H} {ρ : List Nat} (hW : W = pre ++ (cs ++ post)) (h : ρ = List.range' pre.length cs.length) : ρ.map (j_nth W) = cs.map some := by
  subst hW h
  exact nth_blk pre cs post
theorem clv_sp (v X : j_H) (c : Nat × Nat × Nat) (r : (Nat → Int32) × (Nat → Int32) × (Nat → Int32)) : clv v c r X = clv v c r [] ++ X := by
  unfold clv
  rw [List.append_nil]
theorem clv_len {v : j_H} (h : v.length = 24) (c : Nat × Nat × Nat) (r : (Nat → Int32) × (Nat → Int32) × (Nat → Int32)) : (clv v c r []).length = 31 := by
  unfold clv
  rw [List.append_nil, List.length_cons, List.length_append, List.length_map, h]
  rfl
theorem blk_len (q : vZ) (B : List Nat) : (blk q B).length = 24 := rfl
def bS (i : Nat) : List Nat := if i = 0 then B31 else B55
def bV (i : Nat) : List Nat := if i = 0 then B79 else if i = 1 then B103 else if i = 2 then B127 else if i = 3 then B151 else if i = 4 then B175 else B199
theorem x_nth0 {P : j_H} (hP : P.length = 31) (sl sv : Nat → vZ) (y : j_H) : (B31).map (j_nth (P ++ cX sl sv y)) = (blk (sl 0) B31).map some := by
  refine nth_blk' (pre := P) (post := blk (sl 1) B55 ++ (blk (sv 0) B79 ++ (blk (sv 1) B103 ++ (blk (sv 2) B127 ++ (blk (sv 3) B151 ++ (blk (sv 4) B175 ++ (blk (sv 5) B199 ++ (y)))))))) (by unfold cX; simp only [List.append_assoc]) ?_
  simp only [List.length_append, hP, blk_len]
  rfl
theorem x_nth1 {P : j_H} (hP : P.length = 31) (sl sv : Nat → vZ) (y : j_H) : (B55).map (j_nth (P ++ cX sl sv y)) = (blk (sl 1) B55).map some := by
  refine nth_blk' (pre := P ++ blk (sl 0) B31) (post := blk (sv 0) B79 ++ (blk (sv 1) B103 ++ (blk (sv 2) B127 ++ (blk (sv 3) B151 ++ (blk (sv 4) B175 ++ (blk (sv 5) B199 ++ (y))))))) (by unfold cX; simp only [List.append_assoc]) ?_
  simp only [List.length_append, hP, blk_len]
  rfl
theorem x_nth2 {P : j_H} (hP : P.length = 31) (sl sv : Nat → vZ) (y : j_H) : (B79).map (j_nth (P ++ cX sl sv y)) = (blk (sv 0) B79).map some := by
  refine nth_blk' (pre := P ++ blk (sl 0) B31 ++ blk (sl 1) B55) (post := blk (sv 1) B103 ++ (blk (sv 2) B127 ++ (blk (sv 3) B151 ++ (blk (sv 4) B175 ++ (blk (sv 5) B199 ++ (y)))))) (by unfold cX; simp only [List.append_assoc]) ?_
  simp only [List.length_append, hP, blk_len]
  rfl
theorem x_nth3 {P : j_H} (hP : P.length = 31) (sl sv : Nat → vZ) (y : j_H) : (B103).map (j_nth (P ++ cX sl sv y)) = (blk (sv 1) B103).map some := by
  refine nth_blk' (pre := P ++ blk (sl 0) B31 ++ blk (sl 1) B55 ++ blk (sv 0) B79) (post := blk (sv 2) B127 ++ (blk (sv 3) B151 ++ (blk (sv 4) B175 ++ (blk (sv 5) B199 ++ (y))))) (by unfold cX; simp only [List.append_assoc]) ?_
  simp only [List.length_append, hP, blk_len]
  rfl
theorem x_nth4 {P : j_H} (hP : P.length = 31) (sl sv : Nat → vZ) (y : j_H) : (B127).map (j_nth (P ++ cX sl sv y)) = (blk (sv 2) B127).map some := by
  refine nth_blk' (pre := P ++ blk (sl 0) B31 ++ blk (sl 1) B55 ++ blk (sv 0) B79 ++ blk (sv 1) B103) (post := blk (sv 3) B151 ++ (blk (sv 4) B175 ++ (blk (sv 5) B199 ++ (y)))) (by unfold cX; simp only [List.append_assoc]) ?_
  simp only [List.length_append, hP, blk_len]
  rfl
theorem x_nth5 {P : j_H} (hP : P.length = 31) (sl sv : Nat → vZ) (y : j_H) : (B151).map (j_nth (P ++ cX sl sv y)) = (blk (sv 3) B151).map some := by
  refine nth_blk' (pre := P ++ blk (sl 0) B31 ++ blk (sl 1) B55 ++ blk (sv 0) B79 ++ blk (sv 1) B103 ++ blk (sv 2) B127) (post := blk (sv 4) B175 ++ (blk (sv 5) B199 ++ (y))) (by unfold cX; simp only [List.append_assoc]) ?_
  simp only [List.length_append, hP, blk_len]
  rfl
theorem x_nth6 {P : j_H} (hP : P.length = 31) (sl sv : Nat → vZ) (y : j_H) : (B175).map (j_nth (P ++ cX sl sv y)) = (blk (sv 4) B175).map some := by
  refine nth_blk' (pre := P ++ blk (sl 0) B31 ++ blk (sl 1) B55 ++ blk (sv 0) B79 ++ blk (sv 1) B103 ++ blk (sv 2) B127 ++ blk (sv 3) B151) (post := blk (sv 5) B199 ++ (y)) (by unfold cX; simp only [List.append_assoc]) ?_
  simp only [List.length_append, hP, blk_len]
  rfl
theorem x_nth7 {P : j_H} (hP : P.length = 31) (sl sv : Nat → vZ) (y : j_H) : (B199).map (j_nth (P ++ cX sl sv y)) = (blk (sv 5) B199).map some := by
  refine nth_blk' (pre := P ++ blk (sl 0) B31 ++ blk (sl 1) B55 ++ blk (sv 0) B79 ++ blk (sv 1) B103 ++ blk (sv 2) B127 ++ blk (sv 3) B151 ++ blk (sv 4) B175) (post := y) (by unfold cX; simp only [List.append_assoc]) ?_
  simp only [List.length_append, hP, blk_len]
  rfl
theorem sl_nth {P : j_H} (hP : P.length = 31) (sl sv : Nat → vZ) (y : j_H) (i : Nat) (hi : i < 2) : (bS i).map (j_nth (P ++ cX sl sv y)) = (blk (sl i) (bS i)).map some := by
  have hc : i = 0 ∨ i = 1 := by omega
  rcases hc with rfl | rfl
  · exact x_nth0 hP sl sv y
  · exact x_nth1 hP sl sv y
theorem sv_nth {P : j_H} (hP : P.length = 31) (sl sv : Nat → vZ) (y : j_H) (i : Nat) (hi : i < 6) : (bV i).map (j_nth (P ++ cX sl sv y)) = (blk (sv i) (bV i)).map some := by
  have hc : i = 0 ∨ i = 1 ∨ i = 2 ∨ i = 3 ∨ i = 4 ∨ i = 5 := by omega
  rcases hc with rfl | rfl | rfl | rfl | rfl | rfl
  · exact x_nth2 hP sl sv y
  · exact x_nth3 hP sl sv y
  · exact x_nth4 hP sl sv y
  · exact x_nth5 hP sl sv y
  · exact x_nth6 hP sl sv y
  · exact x_nth7 hP sl sv y
/-- a village is copied from a block outside -/
theorem J.back {M : j_M} {Φ : j_F} {bc bs pc idx : Nat} {lv : j_L} {st : List Value} (rest : List Value) {A : aV} {z : vS} {q : vZ} {c : Nat × Nat × Nat} {r : (Nat → Int32) × (Nat → Int32) × (Nat → Int32)} {X : j_H} (B : List Nat) (hk : j_kV MX1_copyFrom 1) (hl : Cond.methodLink (jm_o M) idx (jm_y MX1_copyFrom) ∈ j_ws) (hd : decode (jm_b M) pc = .ok (.invokevirtual idx, 3)) (hR : jm_f MX1_copyFrom + 1 ≤ jm_f M ∧ 8 + (jm_n MX1_copyFrom + 11) + jm_l MX1_copyFrom ≤ jm_l M)
    (hst : st = .ref (j_f B 0) :: .ref 1 :: rest) (hcat : (rest.map fun v => v.category).sum ≤ 8) (hnd : va_nd (R1 ++ B) = true) (hB : ∀ i, i < 24 → j_f (R1 ++ B) i = j_f R1 i) (hB2 : ∀ i, i < 24 → j_f (R1 ++ B) (j_f R48 i) = j_f B i) (hX : ∀ P : j_H, P.length = 31 → B.map (j_nth (P ++ X)) = (blk q B).map some)
    (k : J M Φ bc bs (pc + 3) lv rest (clv (vil q.1 q.2) c r X)) : J M Φ bc bs pc lv st (clv (vil A z) c r X) := by
  have em : ∀ (A B' : aV) (z y : vS), (vil A z ++ othv B' y).map (j_rc (j_f (R1 ++ B))) = (vil A z).map (j_rc (j_f R1)) ++ (vil B' y).map (j_rc (j_f B)) := fun A B' z y => cp_map hB hB2
  have hx : ∀ (A : aV) (z : vS), B.map (j_nth (clv (vil A z) c r X)) = (blk q B).map some := fun A z => by
    rw [clv_sp]
    exact hX _ (clv_len rfl c r)
  have e24 : j_f (R1 ++ B) 24 = j_f B 0 := hB2 0 (by decide)
  refine J.callV bc bs rest (R1 ++ B) (c_X1_copyFrom A q.1 z q.2) hk hl hd hR.1 hR.2 rfl rfl (by rw [hst, ← e24]; rfl) hcat (i0 := 0) rfl (ci := 1) rfl rfl ?_ hnd (Nat.le_refl _) (Nat.le_refl _) ?_ ?_
  · exact lies_copy (clv_app _ _ _ _) rfl (hx A z) (em _ _ _ _)
  · rintro v h' ⟨hv, rfl⟩
    cases hv
    refine ⟨rfl, ?_⟩
    have sc := sc_copy (ρ1 := R1) (ρ2 := B) (c1 := (vil q.1 q.2).map (j_rc (j_f R1))) (c2 := blk q B) (clv_app (vil A z) X c r) rfl rfl (by rw [← clv_app]; exact hx _ _)
    rw [← clv_app] at sc
    rw [em]
    exact J.cast k rfl rfl sc.symm
  · rintro E9 h' ⟨hv, -⟩
    cases hv
def rGo (S : aS) (a : Int32) : aR := if a < nI 0 ∨ nI 1 < a then (1, S, 0) else match S.2.1 (cN a) with
  | none => (2, S, 0)
  | some B => (0, sW (sS S) B, nI (v_ho B))
