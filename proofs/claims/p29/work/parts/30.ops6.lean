/-! A snapshot is kept; the last change is undone. -/
def sKp (S : aS) (i : Nat) : aS := (S.1, (fun j => if j = i then some S.1 else S.2.1 j), S.2.2)
def rKeep (S : aS) (a : Int32) : aR := if a < nI 0 ∨ nI 1 < a then (1, S, 0) else (0, sKp S (cN a), nI (v_ho S.1))
theorem sKp_rel {S : aS} {q : vZ} {c : Nat × Nat × Nat} {fl cs rt : Nat → Int32} {sl sv : Nat → vZ} (h : cRel S (q, c, (fl, cs, rt), sl, sv)) (i : Nat) : cRel (sKp S i) (q, c, (upd fl i 1, cs, rt), svU sl i q, sv) := by
  refine ⟨h.1, fun j hj => ?_, h.2.2⟩
  obtain ⟨g1, g2⟩ := h.2.1 j hj
  show ((if j = i then some S.1 else S.2.1 j) = none → (if j = i then 1 else fl j) = 0) ∧ ∀ B, (if j = i then some S.1 else S.2.1 j) = some B → (if j = i then 1 else fl j) = 1 ∧ vG (if j = i then q else sl j) B
  by_cases e : j = i
  · rw [if_pos e, if_pos e, if_pos e]
    refine ⟨fun w => (by cases w), fun B w => ?_⟩
    cases w
    exact ⟨rfl, h.1⟩
  · rw [if_neg e, if_neg e, if_neg e]
    exact ⟨g1, g2⟩
def rUndo (S : aS) : aR := match S.2.2.1 with
  | [] => (1, S, 0)
  | B :: t => (0, (B, S.2.1, t, S.2.2.2), nI t.length)
theorem undo_rel {S : aS} {q : vZ} {sn sc n : Nat} {r : (Nat → Int32) × (Nat → Int32) × (Nat → Int32)} {sl sv : Nat → vZ} {B : aV} {t : List aV} (h : cRel S (q, (sn, sc, n), r, sl, sv)) (e : S.2.2.1 = B :: t) : cRel (B, S.2.1, t, S.2.2.2) (sv ((sn + 5) % 6), ((sn + 5) % 6, sc - 1, n), r, sl, sv) ∧ sc = t.length + 1 := by
  obtain ⟨h1, h2, ⟨h3, h4, h5, h6⟩, h7⟩ := h
  have h3 : sc = S.2.2.1.length := h3
  have h5 : sn < 6 := h5
  rw [e] at h3 h4
  have h4 : t.length + 1 ≤ 6 := h4
  have h3 : sc = t.length + 1 := h3
  refine ⟨⟨?_, h2, ⟨?_, ?_, ?_, ?_⟩, h7⟩, h3⟩
  · have := h6 0 B (by rw [e]; rfl)
    exact this
  · show sc - 1 = t.length
    omega
  · show t.length ≤ 6
    omega
  · show (sn + 5) % 6 < 6
    omega
  · intro i C w
    have w : t[i]? = some C := w
    have hi := (List.getElem?_eq_some_iff.mp w).1
    have := h6 (i + 1) C (by rw [e]; exact w)
    show vG (sv (((sn + 5) % 6 + 5 - i) % 6)) C
    rw [show ((sn + 5) % 6 + 5 - i) % 6 = (sn + 5 - (i + 1)) % 6 by omega]
    exact this
theorem c_X3_undo {S : aS} {K : cK} {y : j_H} (h : cRel S K) : Ct MX3_undo 1 6 [.ref 0] (clw K y) (cQ eS eA y (rUndo S)) := by
  refine Ct.of rfl rfl (by decide +kernel) rfl (Nat.le_of_ble_eq_true rfl) ?_
  obtain ⟨⟨A, z⟩, ⟨sn, sc, n⟩, r, sl, sv⟩ := K
  have hsc : sc = S.2.2.1.length := h.2.2.1.1
  have h6 : S.2.2.1.length ≤ 6 := h.2.2.1.2.1
  have hsn : sn < 6 := h.2.2.1.2.2.1
  cases e : S.2.2.1 with
  | nil =>
    have er : rUndo S = (1, S, 0) := by
      unfold rUndo
      rw [e]
    rw [e] at hsc
    have hsc : sc = 0 := hsc
    subst hsc
    refine J.run csX3_undo 5 [(17, 1)] ?_
    exact ⟨fun q => absurd (show (0 : Int32) < nI 0 from q) (by decide), fun _ => cQ_1 h er⟩
  | cons B t =>
    have er : rUndo S = (0, (B, S.2.1, t, S.2.2.2), nI t.length) := by
      unfold rUndo
      rw [e]
    obtain ⟨R, hst⟩ := undo_rel h e
    rw [e] at h6
    have h6 : t.length + 1 ≤ 6 := h6
    have X : J MX3_undo (cQ eS eA y (rUndo S)) 1 6 17 [(0, .ref 0)] [] (clw ((A, z), (sn, sc, n), r, sl, sv) y) := by
      have hc : sn = 0 ∨ sn = 1 ∨ sn = 2 ∨ sn = 3 ∨ sn = 4 ∨ sn = 5 := by omega
      have hs : nI sc - nI 1 = nI (sc - 1) := pk_sub (by omega)
      rcases hc with rfl | rfl | rfl | rfl | rfl | rfl
      · have vi : vp_in (nI 5) 6 := vp_c (by decide)
        have Y : J MX3_undo (cQ eS eA y (rUndo S)) 1 6 48 [(0, .ref 0)] [] (clv (vil A z) (5, sc - 1, n) r (cX sl sv y)) := by
          refine J.run csX3_undo 20 [] ?_
          refine ⟨vi, ?_⟩
          refine J.back [] B199 (q := sv 5) kX1_copyFrom mRX3_153 dX3_undo_61 (by decide) rfl (Nat.le_of_ble_eq_true rfl) (by decide +kernel) (by decide +kernel) (by decide +kernel) (fun P hP => x_nth7 hP sl sv y) ?_
          refine J.run csX3_undo 20 [] ?_
          exact cQ_0 er R (by rw [hst]; rfl) rfl
        have Z : J MX3_undo (cQ eS eA y (rUndo S)) 1 6 48 [(0, .ref 0)] [] (clu (vil A z) (nI 5) (nI sc - nI 1) (nI n) r.1 r.2.1 r.2.2 (cX sl sv y)) := by
          rw [hs]
          exact Y
        refine J.run csX3_undo 30 [(48, 1)] ?_
        exact ⟨fun _ => ⟨rfl, Z⟩, fun q => absurd (show nI 0 ≤ 0 by decide) q⟩
      · have vi : vp_in (nI 0) 6 := vp_c (by decide)
        have Y : J MX3_undo (cQ eS eA y (rUndo S)) 1 6 48 [(0, .ref 0)] [] (clv (vil A z) (0, sc - 1, n) r (cX sl sv y)) := by
          refine J.run csX3_undo 20 [] ?_
          refine ⟨vi, ?_⟩
          refine J.back [] B79 (q := sv 0) kX1_copyFrom mRX3_153 dX3_undo_61 (by decide) rfl (Nat.le_of_ble_eq_true rfl) (by decide +kernel) (by decide +kernel) (by decide +kernel) (fun P hP => x_nth2 hP sl sv y) ?_
          refine J.run csX3_undo 20 [] ?_
          exact cQ_0 er R (by rw [hst]; rfl) rfl
        have Z : J MX3_undo (cQ eS eA y (rUndo S)) 1 6 48 [(0, .ref 0)] [] (clu (vil A z) (nI 1 - nI 1) (nI sc - nI 1) (nI n) r.1 r.2.1 r.2.2 (cX sl sv y)) := by
          rw [hs, show nI 1 - nI 1 = nI 0 by decide]
          exact Y
        refine J.run csX3_undo 30 [(48, 1)] ?_
        exact ⟨fun q => absurd (show nI 1 ≤ 0 from q) (by decide), fun _ => ⟨rfl, Z⟩⟩
      · have vi : vp_in (nI 1) 6 := vp_c (by decide)
        have Y : J MX3_undo (cQ eS eA y (rUndo S)) 1 6 48 [(0, .ref 0)] [] (clv (vil A z) (1, sc - 1, n) r (cX sl sv y)) := by
          refine J.run csX3_undo 20 [] ?_
          refine ⟨vi, ?_⟩
          refine J.back [] B103 (q := sv 1) kX1_copyFrom mRX3_153 dX3_undo_61 (by decide) rfl (Nat.le_of_ble_eq_true rfl) (by decide +kernel) (by decide +kernel) (by decide +kernel) (fun P hP => x_nth3 hP sl sv y) ?_
          refine J.run csX3_undo 20 [] ?_
          exact cQ_0 er R (by rw [hst]; rfl) rfl
        have Z : J MX3_undo (cQ eS eA y (rUndo S)) 1 6 48 [(0, .ref 0)] [] (clu (vil A z) (nI 2 - nI 1) (nI sc - nI 1) (nI n) r.1 r.2.1 r.2.2 (cX sl sv y)) := by
          rw [hs, show nI 2 - nI 1 = nI 1 by decide]
          exact Y
        refine J.run csX3_undo 30 [(48, 1)] ?_
        exact ⟨fun q => absurd (show nI 2 ≤ 0 from q) (by decide), fun _ => ⟨rfl, Z⟩⟩
      · have vi : vp_in (nI 2) 6 := vp_c (by decide)
        have Y : J MX3_undo (cQ eS eA y (rUndo S)) 1 6 48 [(0, .ref 0)] [] (clv (vil A z) (2, sc - 1, n) r (cX sl sv y)) := by
          refine J.run csX3_undo 20 [] ?_
          refine ⟨vi, ?_⟩
          refine J.back [] B127 (q := sv 2) kX1_copyFrom mRX3_153 dX3_undo_61 (by decide) rfl (Nat.le_of_ble_eq_true rfl) (by decide +kernel) (by decide +kernel) (by decide +kernel) (fun P hP => x_nth4 hP sl sv y) ?_
          refine J.run csX3_undo 20 [] ?_
          exact cQ_0 er R (by rw [hst]; rfl) rfl
        have Z : J MX3_undo (cQ eS eA y (rUndo S)) 1 6 48 [(0, .ref 0)] [] (clu (vil A z) (nI 3 - nI 1) (nI sc - nI 1) (nI n) r.1 r.2.1 r.2.2 (cX sl sv y)) := by
          rw [hs, show nI 3 - nI 1 = nI 2 by decide]
          exact Y
        refine J.run csX3_undo 30 [(48, 1)] ?_
        exact ⟨fun q => absurd (show nI 3 ≤ 0 from q) (by decide), fun _ => ⟨rfl, Z⟩⟩
      · have vi : vp_in (nI 3) 6 := vp_c (by decide)
        have Y : J MX3_undo (cQ eS eA y (rUndo S)) 1 6 48 [(0, .ref 0)] [] (clv (vil A z) (3, sc - 1, n) r (cX sl sv y)) := by
          refine J.run csX3_undo 20 [] ?_
          refine ⟨vi, ?_⟩
          refine J.back [] B151 (q := sv 3) kX1_copyFrom mRX3_153 dX3_undo_61 (by decide) rfl (Nat.le_of_ble_eq_true rfl) (by decide +kernel) (by decide +kernel) (by decide +kernel) (fun P hP => x_nth5 hP sl sv y) ?_
          refine J.run csX3_undo 20 [] ?_
          exact cQ_0 er R (by rw [hst]; rfl) rfl
        have Z : J MX3_undo (cQ eS eA y (rUndo S)) 1 6 48 [(0, .ref 0)] [] (clu (vil A z) (nI 4 - nI 1) (nI sc - nI 1) (nI n) r.1 r.2.1 r.2.2 (cX sl sv y)) := by
          rw [hs, show nI 4 - nI 1 = nI 3 by decide]
          exact Y
        refine J.run csX3_undo 30 [(48, 1)] ?_
        exact ⟨fun q => absurd (show nI 4 ≤ 0 from q) (by decide), fun _ => ⟨rfl, Z⟩⟩
      · have vi : vp_in (nI 4) 6 := vp_c (by decide)
        have Y : J MX3_undo (cQ eS eA y (rUndo S)) 1 6 48 [(0, .ref 0)] [] (clv (vil A z) (4, sc - 1, n) r (cX sl sv y)) := by
          refine J.run csX3_undo 20 [] ?_
          refine ⟨vi, ?_⟩
          refine J.back [] B175 (q := sv 4) kX1_copyFrom mRX3_153 dX3_undo_61 (by decide) rfl (Nat.le_of_ble_eq_true rfl) (by decide +kernel) (by decide +kernel) (by decide +kernel) (fun P hP => x_nth6 hP sl sv y) ?_
          refine J.run csX3_undo 20 [] ?_
          exact cQ_0 er R (by rw [hst]; rfl) rfl
        have Z : J MX3_undo (cQ eS eA y (rUndo S)) 1 6 48 [(0, .ref 0)] [] (clu (vil A z) (nI 5 - nI 1) (nI sc - nI 1) (nI n) r.1 r.2.1 r.2.2 (cX sl sv y)) := by
          rw [hs, show nI 5 - nI 1 = nI 4 by decide]
          exact Y
        refine J.run csX3_undo 30 [(48, 1)] ?_
        exact ⟨fun q => absurd (show nI 5 ≤ 0 from q) (by decide), fun _ => ⟨rfl, Z⟩⟩
    refine J.run csX3_undo 5 [(17, 1)] ?_
    exact ⟨fun _ => X, fun q => absurd ((n_gt0 (a := sc) (by omega)).mpr (by omega)) q⟩
