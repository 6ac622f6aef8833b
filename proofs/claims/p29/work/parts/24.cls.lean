/-! The class's world. -/
theorem j_rc_rc (r r' : Nat → Nat) (c : j_C) : j_rc r (j_rc r' c) = j_rc (fun i => r (r' i)) c := by
  rcases c with ⟨t, a⟩ | ⟨k, fs⟩
  · show Sum.inl (t, _) = Sum.inl (t, _)
    rw [j_a_a]
  · show Sum.inr (k, _) = Sum.inr (k, _)
    rw [j_v_m]
def j_bd (n : Nat) : j_C → Prop
  | .inl (_, _, .inr (.inr (.inr (.inr f)))) => ∀ j i, f j = some i → i < n
  | .inl _ => True
  | .inr (_, fs) => fs.all (fun v => match v with
    | .ref i => decide (i < n)
    | _ => true) = true
def j_bdL (n : Nat) : j_H → Prop
  | [] => True
  | c :: t => j_bd n c ∧ j_bdL n t
theorem j_rc_cg {n : Nat} {r r' : Nat → Nat} (h : ∀ i, i < n → r i = r' i) : ∀ c, j_bd n c → j_rc r c = j_rc r' c := by
  intro c hb
  rcases c with ⟨t, m, a⟩ | ⟨k, fs⟩
  · rcases a with f | f | f | f | f
    · rfl
    · rfl
    · rfl
    · rfl
    · show Sum.inl (t, m, Sum.inr (Sum.inr (Sum.inr (Sum.inr (fun j => (f j).map r))))) = Sum.inl (t, m, Sum.inr (Sum.inr (Sum.inr (Sum.inr (fun j => (f j).map r')))))
      refine congrArg (fun g => Sum.inl (t, m, Sum.inr (Sum.inr (Sum.inr (Sum.inr g))))) (funext fun j => ?_)
      cases e : f j with
      | none => rfl
      | some i => exact congrArg some (h i (hb j i e))
  · refine congrArg (fun x => Sum.inr (k, x)) (List.map_congr_left fun v hv => ?_)
    have := List.all_eq_true.mp hb v hv
    cases v with
    | ref i => exact congrArg Value.ref (h i (of_decide_eq_true this))
    | _ => rfl
theorem j_rcL_cg {n : Nat} {r r' : Nat → Nat} (h : ∀ i, i < n → r i = r' i) : ∀ l, j_bdL n l → l.map (j_rc r) = l.map (j_rc r')
  | [], _ => rfl
  | c :: t, hb => by
    rw [List.map_cons, List.map_cons, j_rc_cg h c hb.1, j_rcL_cg h t hb.2]
theorem vq_bd : ∀ j i, vq j = some i → i < 24 := by
  intro j i
  unfold vq
  split <;> intro h <;> first | (cases h; decide) | cases h
theorem mq_bd : ∀ j i, mq j = some i → i < 24 := by
  intro j i
  unfold mq
  split <;> intro h <;> first | (cases h; decide) | cases h
theorem vil_bd (A : aV) (z : vS) : j_bdL 24 (vil A z) := ⟨rfl, trivial, trivial, vq_bd, trivial, trivial, trivial, trivial, trivial, trivial, trivial, mq_bd, trivial, trivial, trivial, rfl, trivial, trivial, rfl, trivial, trivial, rfl, trivial, trivial, trivial⟩
theorem vil_cg {A : aV} {z : vS} {r r' : Nat → Nat} (h : ∀ i, i < 24 → r i = r' i) : (vil A z).map (j_rc r) = (vil A z).map (j_rc r') := j_rcL_cg h _ (vil_bd A z)
theorem vil_rr {A : aV} {z : vS} {r r' r2 : Nat → Nat} (h : ∀ i, i < 24 → r (r' i) = r2 i) : ((vil A z).map (j_rc r')).map (j_rc r) = (vil A z).map (j_rc r2) := by
  rw [List.map_map, show j_rc r ∘ j_rc r' = j_rc (fun i => r (r' i)) from funext fun c => j_rc_rc r r' c]
  exact vil_cg h
theorem j_lies_of {ρ : List Nat} {hm h X : j_H} (e : hm.map (j_rc (j_f ρ)) = X) (g : ρ.map (j_nth h) = X.map some) : j_lies ρ hm h := by
  unfold j_lies
  rw [g, ← e, List.map_map]
  rfl
theorem cp_map {A B : aV} {z y : vS} {ρ B1 B2 : List Nat} (h1 : ∀ i, i < 24 → j_f ρ i = j_f B1 i) (h2 : ∀ i, i < 24 → j_f ρ (j_f R48 i) = j_f B2 i) : (vil A z ++ othv B y).map (j_rc (j_f ρ)) = (vil A z).map (j_rc (j_f B1)) ++ (vil B y).map (j_rc (j_f B2)) := by
  rw [List.map_append, vil_cg h1]
  unfold othv
  rw [vil_rr h2]
abbrev vZ : Type := aV × vS
def vG (q : vZ) (A : aV) : Prop := q.1 = A ∧ vOk A ∧ vRel A q.2
abbrev R1 : List Nat := [1, 2, 3, 4, 5, 6, 7, 8, 9, 10, 11, 12, 13, 14, 15, 16, 17, 18, 19, 20, 21, 22, 23, 24]
abbrev B31 : List Nat := [31, 32, 33, 34, 35, 36, 37, 38, 39, 40, 41, 42, 43, 44, 45, 46, 47, 48, 49, 50, 51, 52, 53, 54]
abbrev B55 : List Nat := [55, 56, 57, 58, 59, 60, 61, 62, 63, 64, 65, 66, 67, 68, 69, 70, 71, 72, 73, 74, 75, 76, 77, 78]
abbrev B79 : List Nat := [79, 80, 81, 82, 83, 84, 85, 86, 87, 88, 89, 90, 91, 92, 93, 94, 95, 96, 97, 98, 99, 100, 101, 102]
abbrev B103 : List Nat := [103, 104, 105, 106, 107, 108, 109, 110, 111, 112, 113, 114, 115, 116, 117, 118, 119, 120, 121, 122, 123, 124, 125, 126]
abbrev B127 : List Nat := [127, 128, 129, 130, 131, 132, 133, 134, 135, 136, 137, 138, 139, 140, 141, 142, 143, 144, 145, 146, 147, 148, 149, 150]
abbrev B151 : List Nat := [151, 152, 153, 154, 155, 156, 157, 158, 159, 160, 161, 162, 163, 164, 165, 166, 167, 168, 169, 170, 171, 172, 173, 174]
abbrev B175 : List Nat := [175, 176, 177, 178, 179, 180, 181, 182, 183, 184, 185, 186, 187, 188, 189, 190, 191, 192, 193, 194, 195, 196, 197, 198]
abbrev B199 : List Nat := [199, 200, 201, 202, 203, 204, 205, 206, 207, 208, 209, 210, 211, 212, 213, 214, 215, 216, 217, 218, 219, 220, 221, 222]
def slq (j : Nat) : Option Nat := match j with
  | 0 => some 31
  | 1 => some 55
  | _ => none
def svq (j : Nat) : Option Nat := match j with
  | 0 => some 79
  | 1 => some 103
  | 2 => some 127
  | 3 => some 151
  | 4 => some 175
  | 5 => some 199
  | _ => none
/-- a class's object: its village; next, count, length of the text; filled, codes, rates; slots, saved -/
abbrev cK : Type := vZ × (Nat × Nat × Nat) × ((Nat → Int32) × (Nat → Int32) × (Nat → Int32)) × (Nat → vZ) × (Nat → vZ)
def clp (q : vZ) (c : Nat × Nat × Nat) (r : (Nat → Int32) × (Nat → Int32) × (Nat → Int32)) : j_H :=
  .inr (3, [.ref 1, .ref 25, .ref 26, .ref 27, .int (nI c.1), .int (nI c.2.1), .ref 28, .ref 30]) :: ((vil q.1 q.2).map (j_rc (j_f R1)) ++ [.inl (5, 2, .inr (.inr (.inr (.inr slq)))), .inl (2, 2, .inl r.1), .inl (5, 6, .inr (.inr (.inr (.inr svq)))), .inr (2, [.ref 29, .int (nI c.2.2)]), .inl (0, 60, .inl r.2.1), .inl (0, 24, .inl r.2.2)])
def blk (q : vZ) (B : List Nat) : j_H := (vil q.1 q.2).map (j_rc (j_f B))
def cX (sl sv : Nat → vZ) (y : j_H) : j_H := blk (sl 0) B31 ++ (blk (sl 1) B55 ++ (blk (sv 0) B79 ++ (blk (sv 1) B103 ++ (blk (sv 2) B127 ++ (blk (sv 3) B151 ++ (blk (sv 4) B175 ++ (blk (sv 5) B199 ++ y)))))))
def clw (K : cK) (y : j_H) : j_H := clp K.1 K.2.1 K.2.2.1 ++ cX K.2.2.2.1 K.2.2.2.2 y
/-- a class's object, as the document tells it: the village, snapshots, saved states, the text -/
abbrev aS : Type := aV × (Nat → Option aV) × List aV × List Nat
def cRel (S : aS) (K : cK) : Prop :=
  vG K.1 S.1 ∧ (∀ i, i < 2 → (S.2.1 i = none → K.2.2.1.1 i = 0) ∧ ∀ B, S.2.1 i = some B → K.2.2.1.1 i = 1 ∧ vG (K.2.2.2.1 i) B) ∧
  (K.2.1.2.1 = S.2.2.1.length ∧ S.2.2.1.length ≤ 6 ∧ K.2.1.1 < 6 ∧ ∀ i B, S.2.2.1[i]? = some B → vG (K.2.2.2.2 ((K.2.1.1 + 5 - i) % 6)) B) ∧
  (K.2.1.2.2 = S.2.2.2.length ∧ tOk S.2.2.2 ∧ tRel S.2.2.2 K.2.2.1.2.1)
def svU (sv : Nat → vZ) (j : Nat) (q : vZ) : Nat → vZ := fun i => if i = j then q else sv i
/-- the state is saved -/
def kS (K : cK) : cK := (K.1, (if K.2.1.1 + 1 < 6 then K.2.1.1 + 1 else 0, if K.2.1.2.1 < 6 then K.2.1.2.1 + 1 else K.2.1.2.1, K.2.1.2.2), K.2.2.1, K.2.2.2.1, svU K.2.2.2.2 K.2.1.1 K.1)
def sS (S : aS) : aS := (S.1, S.2.1, (S.1 :: S.2.2.1).take 6, S.2.2.2)
theorem kS_rel {S : aS} {K : cK} (h : cRel S K) : cRel (sS S) (kS K) := by
  obtain ⟨h1, h2, ⟨h3, h4, h5, h6⟩, h7⟩ := h
  refine ⟨h1, h2, ⟨?_, ?_, ?_, ?_⟩, h7⟩
  · show (if K.2.1.2.1 < 6 then K.2.1.2.1 + 1 else K.2.1.2.1) = ((S.1 :: S.2.2.1).take 6).length
    rw [List.length_take, List.length_cons, ← h3]
    split <;> omega
  · show ((S.1 :: S.2.2.1).take 6).length ≤ 6
    rw [List.length_take]
    omega
  · show (if K.2.1.1 + 1 < 6 then K.2.1.1 + 1 else 0) < 6
    split <;> omega
  · intro i B e
    have e : ((S.1 :: S.2.2.1).take 6)[i]? = some B := e
    show vG (svU K.2.2.2.2 K.2.1.1 K.1 (((if K.2.1.1 + 1 < 6 then K.2.1.1 + 1 else 0) + 5 - i) % 6)) B
    have hi : i < 6 := by
      have := (List.getElem?_eq_some_iff.mp e).1
      rw [List.length_take] at this
      omega
    rw [List.getElem?_take, if_pos hi] at e
    unfold svU
    cases i with
    | zero =>
      cases e
      rw [if_pos (by split <;> omega)]
      exact h1
    | succ i =>
      rw [if_neg (by split <;> omega)]
      have := h6 i B e
      rw [show ((if K.2.1.1 + 1 < 6 then K.2.1.1 + 1 else 0) + 5 - (i + 1)) % 6 = (K.2.1.1 + 5 - i) % 6 by split <;> omega]
      exact this
theorem nth_blk (pre cs post : j_H) : (List.range' pre.length cs.length).map (j_nth (pre ++ (cs ++ post))) = cs.map some := by
  apply List.ext_getElem?
  intro i
  rw [List.getElem?_map, List.getElem?_map]
  by_cases hi : i < cs.length
  · rw [List.getElem?_range' (by exact hi), Option.map_some, j_nth_eq, List.getElem?_append_right (by omega), show pre.length + 1 * i - pre.length = i by omega, List.getElem?_append_left hi, List.getElem?_eq_getElem hi]
    rfl
  · rw [List.getElem?_eq_none (by rw [List.length_range']; omega), List.getElem?_eq_none (by omega)]
    rfl
theorem sc_blk : ∀ (cs old pre post : j_H), old.length = cs.length → j_sc (List.range' pre.length cs.length) cs (pre ++ (old ++ post)) = pre ++ (cs ++ post)
  | [], [], pre, post, _ => rfl
  | [], _ :: _, _, _, h => by simp at h
  | _ :: _, [], _, _, h => by simp at h
  | c :: cs, o :: old, pre, post, h => by
    have ih := sc_blk cs old (pre ++ [c]) post (by simpa using h)
    rw [List.length_append, List.append_assoc, List.append_assoc] at ih
    show j_sc (List.range' (pre.length + 1) cs.length) cs ((pre ++ (o :: old ++ post)).set pre.length c) = _
    rw [List.set_append_right _ _ (Nat.le_refl _), Nat.sub_self]
    exact ih
theorem sc_app : ∀ (ρ1 ρ2 : List Nat) (c1 c2 : List j_C) (h : j_H), ρ1.length = c1.length → j_sc (ρ1 ++ ρ2) (c1 ++ c2) h = j_sc ρ2 c2 (j_sc ρ1 c1 h)
  | [], _, [], _, _, _ => rfl
  | [], _, _ :: _, _, _, h => by simp at h
  | _ :: _, _, [], _, _, h => by simp at h
  | i :: ρ1, ρ2, c :: c1, c2, h, hl => sc_app ρ1 ρ2 c1 c2 (h.set i c) (by simpa using hl)
theorem sc_copy {pre post old c1 c2 W : j_H} {ρ1 ρ2 : List Nat} (hW : W = pre ++ (old ++ post)) (h1 : ρ1 = List.range' pre.length c1.length) (ho : old.length = c1.length) (h2 : ρ2.map (j_nth (pre ++ (c1 ++ post))) = c2.map some) : j_sc (ρ1 ++ ρ2) (c1 ++ c2) W = pre ++ (c1 ++ post) := by
  rw [sc_app _ _ _ _ _ (by rw [h1, List.length_range']), hW, h1, sc_blk _ _ _ _ ho, j_sc_same _ _ _ h2]
theorem lies_copy {pre post old hm c2 W : j_H} {ρ1 ρ2 : List Nat} (hW : W = pre ++ (old ++ post)) (h1 : ρ1 = List.range' pre.length old.length) (h2 : ρ2.map (j_nth W) = c2.map some) (e : hm.map (j_rc (j_f (ρ1 ++ ρ2))) = old ++ c2) : j_lies (ρ1 ++ ρ2) hm W := by
  refine j_lies_of e ?_
  rw [List.map_append, List.map_append, h2, hW, h1, nth_blk]
theorem vil_len (A : aV) (z : vS) (r : Nat → Nat) : ((vil A z).map (j_rc r)).length = 24 := rfl
theorem r1_lies (q : vZ) (c : Nat × Nat × Nat) (r : (Nat → Int32) × (Nat → Int32) × (Nat → Int32)) (X : j_H) : R1.map (j_nth (clp q c r ++ X)) = (blk q R1).map some := rfl
theorem c_X3_saveState {S : aS} {K : cK} {y : j_H} (h : cRel S K) : Ct MX3_saveState 0 0 [.ref 0] (clw K y) (jd (.inl none) (clw (kS K) y)) := by
  obtain ⟨h1, h2, ⟨h3, h4, h5, h6⟩, h7⟩ := h
  obtain ⟨q, ⟨sn, sc, n⟩, r, sl, sv⟩ := K
  have h5 : sn < 6 := h5
  have h3 : sc ≤ 6 := by rw [show sc = _ from h3]; exact h4
  clear h1 h2 h4 h6 h7
  refine Ct.of rfl rfl (by decide +kernel) rfl (Nat.le_of_ble_eq_true rfl) ?_
  generalize hΦ : jd (.inl none) (clw (kS (q, (sn, sc, n), r, sl, sv)) y) = Φ
  have E : ∀ sv', sv' = svU sv sn q → J MX3_saveState Φ 0 0 16 [(0, .ref 0)] [] (clp q (sn, sc, n) r ++ cX sl sv' y) := by
    rintro sv' rfl
    have F : ∀ sn', sn' = (if sn + 1 < 6 then sn + 1 else 0) → J MX3_saveState Φ 0 0 41 [(0, .ref 0)] [] (clp q (sn', sc, n) r ++ cX sl (svU sv sn q) y) := by
      rintro sn' rfl
      refine J.run csX3_saveState 20 [] ?_
      refine ⟨fun w => ?_, fun w => ⟨rfl, ?_⟩⟩
      · have w : nI 6 ≤ nI sc := w
        rw [n_le (by omega) (by omega)] at w
        rw [← hΦ]
        refine jd_i rfl ?_
        show _ = clw (q, (if sn + 1 < 6 then sn + 1 else 0, if sc < 6 then sc + 1 else sc, n), r, sl, svU sv sn q) y
        rw [if_neg (show ¬ sc < 6 by omega)]
        rfl
      · have w : ¬ nI 6 ≤ nI sc := w
        rw [n_le (by omega) (by omega)] at w
        rw [← hΦ]
        refine jd_i rfl ?_
        show _ = clw (q, (if sn + 1 < 6 then sn + 1 else 0, if sc < 6 then sc + 1 else sc, n), r, sl, svU sv sn q) y
        rw [if_pos (show sc < 6 by omega)]
        rw [show clw (q, (if sn + 1 < 6 then sn + 1 else 0, sc + 1, n), r, sl, svU sv sn q) y = .inr (3, [.ref 1, .ref 25, .ref 26, .ref 27, .int (nI (if sn + 1 < 6 then sn + 1 else 0)), .int (nI (sc + 1)), .ref 28, .ref 30]) :: (((vil q.1 q.2).map (j_rc (j_f R1)) ++ [.inl (5, 2, .inr (.inr (.inr (.inr slq)))), .inl (2, 2, .inl r.1), .inl (5, 6, .inr (.inr (.inr (.inr svq)))), .inr (2, [.ref 29, .int (nI n)]), .inl (0, 60, .inl r.2.1), .inl (0, 24, .inl r.2.2)]) ++ cX sl (svU sv sn q) y) from rfl, ← nI_1]
        rfl
    refine J.run csX3_saveState 20 [(41, 1)] ?_
    refine ⟨fun w => ?_, fun w => ?_⟩
    · have w : nI 6 ≤ nI sn + nI 1 := w
      rw [nI_add, n_le (by omega) (by omega)] at w
      exact F 0 (by rw [if_neg (by omega)])
    · have w : ¬ nI 6 ≤ nI sn + nI 1 := w
      rw [nI_add, n_le (by omega) (by omega)] at w
      have X := F (sn + 1) (by rw [if_pos (by omega)])
      refine J.cast X rfl rfl ?_
      rw [show clp q (sn + 1, sc, n) r = .inr (3, [.ref 1, .ref 25, .ref 26, .ref 27, .int (nI (sn + 1)), .int (nI sc), .ref 28, .ref 30]) :: ((vil q.1 q.2).map (j_rc (j_f R1)) ++ [.inl (5, 2, .inr (.inr (.inr (.inr slq)))), .inl (2, 2, .inl r.1), .inl (5, 6, .inr (.inr (.inr (.inr svq)))), .inr (2, [.ref 29, .int (nI n)]), .inl (0, 60, .inl r.2.1), .inl (0, 24, .inl r.2.2)]) from rfl, ← nI_1]
      rfl
  have hc : sn = 0 ∨ sn = 1 ∨ sn = 2 ∨ sn = 3 ∨ sn = 4 ∨ sn = 5 := by omega
  rcases hc with rfl | rfl | rfl | rfl | rfl | rfl
  · have em : ∀ (A B : aV) (z y : vS), (vil A z ++ othv B y).map (j_rc (j_f (B79 ++ R1))) = (vil A z).map (j_rc (j_f B79)) ++ (vil B y).map (j_rc (j_f R1)) := fun A B z y => cp_map (by decide +kernel) (by decide +kernel)
    have eW : clw (q, (0, sc, n), r, sl, sv) y = (clp q (0, sc, n) r ++ (blk (sl 0) B31 ++ (blk (sl 1) B55))) ++ (blk (sv 0) B79 ++ (blk (sv 1) B103 ++ (blk (sv 2) B127 ++ (blk (sv 3) B151 ++ (blk (sv 4) B175 ++ (blk (sv 5) B199 ++ (y))))))) := by
      unfold clw cX
      simp only [List.append_assoc]
    have eW2 : clp q (0, sc, n) r ++ cX sl (svU sv 0 q) y = (clp q (0, sc, n) r ++ (blk (sl 0) B31 ++ (blk (sl 1) B55))) ++ (blk q B79 ++ (blk (sv 1) B103 ++ (blk (sv 2) B127 ++ (blk (sv 3) B151 ++ (blk (sv 4) B175 ++ (blk (sv 5) B199 ++ (y))))))) := by
      simp only [List.append_assoc]
      rfl
    have vi : vp_in (nI 0) 6 := vp_c (by decide)
    refine J.run csX3_saveState 20 [] ?_
    refine ⟨vi, ?_⟩
    refine J.callV 0 0 [] (B79 ++ R1) (c_X1_copyFrom (sv 0).1 q.1 (sv 0).2 q.2) kX1_copyFrom mRX3_153 dX3_saveState_13 (by decide) (by decide) rfl rfl rfl (Nat.le_of_ble_eq_true rfl) (i0 := 0) rfl (ci := 1) rfl rfl (lies_copy eW rfl rfl (em _ _ _ _)) (by decide) (by decide) (by decide) ?_ ?_
    · rintro v h' ⟨hv, rfl⟩
      cases hv
      refine ⟨rfl, ?_⟩
      have h2 : R1.map (j_nth ((clp q (0, sc, n) r ++ (blk (sl 0) B31 ++ (blk (sl 1) B55))) ++ (blk q B79 ++ (blk (sv 1) B103 ++ (blk (sv 2) B127 ++ (blk (sv 3) B151 ++ (blk (sv 4) B175 ++ (blk (sv 5) B199 ++ (y))))))))) = (blk q R1).map some := by
        rw [← eW2]
        rfl
      have sc := sc_copy (c1 := blk q B79) (c2 := blk q R1) (ρ1 := B79) (ρ2 := R1) eW rfl rfl h2
      rw [em]
      exact J.cast (E _ rfl) rfl rfl (eW2.trans sc.symm)
    · rintro E9 h' ⟨hv, -⟩
      cases hv
  · have em : ∀ (A B : aV) (z y : vS), (vil A z ++ othv B y).map (j_rc (j_f (B103 ++ R1))) = (vil A z).map (j_rc (j_f B103)) ++ (vil B y).map (j_rc (j_f R1)) := fun A B z y => cp_map (by decide +kernel) (by decide +kernel)
    have eW : clw (q, (1, sc, n), r, sl, sv) y = (clp q (1, sc, n) r ++ (blk (sl 0) B31 ++ (blk (sl 1) B55 ++ (blk (sv 0) B79)))) ++ (blk (sv 1) B103 ++ (blk (sv 2) B127 ++ (blk (sv 3) B151 ++ (blk (sv 4) B175 ++ (blk (sv 5) B199 ++ (y)))))) := by
      unfold clw cX
      simp only [List.append_assoc]
    have eW2 : clp q (1, sc, n) r ++ cX sl (svU sv 1 q) y = (clp q (1, sc, n) r ++ (blk (sl 0) B31 ++ (blk (sl 1) B55 ++ (blk (sv 0) B79)))) ++ (blk q B103 ++ (blk (sv 2) B127 ++ (blk (sv 3) B151 ++ (blk (sv 4) B175 ++ (blk (sv 5) B199 ++ (y)))))) := by
      simp only [List.append_assoc]
      rfl
    have vi : vp_in (nI 1) 6 := vp_c (by decide)
    refine J.run csX3_saveState 20 [] ?_
    refine ⟨vi, ?_⟩
    refine J.callV 0 0 [] (B103 ++ R1) (c_X1_copyFrom (sv 1).1 q.1 (sv 1).2 q.2) kX1_copyFrom mRX3_153 dX3_saveState_13 (by decide) (by decide) rfl rfl rfl (Nat.le_of_ble_eq_true rfl) (i0 := 0) rfl (ci := 1) rfl rfl (lies_copy eW rfl rfl (em _ _ _ _)) (by decide) (by decide) (by decide) ?_ ?_
    · rintro v h' ⟨hv, rfl⟩
      cases hv
      refine ⟨rfl, ?_⟩
      have h2 : R1.map (j_nth ((clp q (1, sc, n) r ++ (blk (sl 0) B31 ++ (blk (sl 1) B55 ++ (blk (sv 0) B79)))) ++ (blk q B103 ++ (blk (sv 2) B127 ++ (blk (sv 3) B151 ++ (blk (sv 4) B175 ++ (blk (sv 5) B199 ++ (y)))))))) = (blk q R1).map some := by
        rw [← eW2]
        rfl
      have sc := sc_copy (c1 := blk q B103) (c2 := blk q R1) (ρ1 := B103) (ρ2 := R1) eW rfl rfl h2
      rw [em]
      exact J.cast (E _ rfl) rfl rfl (eW2.trans sc.symm)
    · rintro E9 h' ⟨hv, -⟩
      cases hv
  · have em : ∀ (A B : aV) (z y : vS), (vil A z ++ othv B y).map (j_rc (j_f (B127 ++ R1))) = (vil A z).map (j_rc (j_f B127)) ++ (vil B y).map (j_rc (j_f R1)) := fun A B z y => cp_map (by decide +kernel) (by decide +kernel)
    have eW : clw (q, (2, sc, n), r, sl, sv) y = (clp q (2, sc, n) r ++ (blk (sl 0) B31 ++ (blk (sl 1) B55 ++ (blk (sv 0) B79 ++ (blk (sv 1) B103))))) ++ (blk (sv 2) B127 ++ (blk (sv 3) B151 ++ (blk (sv 4) B175 ++ (blk (sv 5) B199 ++ (y))))) := by
      unfold clw cX
      simp only [List.append_assoc]
    have eW2 : clp q (2, sc, n) r ++ cX sl (svU sv 2 q) y = (clp q (2, sc, n) r ++ (blk (sl 0) B31 ++ (blk (sl 1) B55 ++ (blk (sv 0) B79 ++ (blk (sv 1) B103))))) ++ (blk q B127 ++ (blk (sv 3) B151 ++ (blk (sv 4) B175 ++ (blk (sv 5) B199 ++ (y))))) := by
      simp only [List.append_assoc]
      rfl
    have vi : vp_in (nI 2) 6 := vp_c (by decide)
    refine J.run csX3_saveState 20 [] ?_
    refine ⟨vi, ?_⟩
    refine J.callV 0 0 [] (B127 ++ R1) (c_X1_copyFrom (sv 2).1 q.1 (sv 2).2 q.2) kX1_copyFrom mRX3_153 dX3_saveState_13 (by decide) (by decide) rfl rfl rfl (Nat.le_of_ble_eq_true rfl) (i0 := 0) rfl (ci := 1) rfl rfl (lies_copy eW rfl rfl (em _ _ _ _)) (by decide) (by decide) (by decide) ?_ ?_
    · rintro v h' ⟨hv, rfl⟩
      cases hv
      refine ⟨rfl, ?_⟩
      have h2 : R1.map (j_nth ((clp q (2, sc, n) r ++ (blk (sl 0) B31 ++ (blk (sl 1) B55 ++ (blk (sv 0) B79 ++ (blk (sv 1) B103))))) ++ (blk q B127 ++ (blk (sv 3) B151 ++ (blk (sv 4) B175 ++ (blk (sv 5) B199 ++ (y))))))) = (blk q R1).map some := by
        rw [← eW2]
        rfl
      have sc := sc_copy (c1 := blk q B127) (c2 := blk q R1) (ρ1 := B127) (ρ2 := R1) eW rfl rfl h2
      rw [em]
      exact J.cast (E _ rfl) rfl rfl (eW2.trans sc.symm)
    · rintro E9 h' ⟨hv, -⟩
      cases hv
  · have em : ∀ (A B : aV) (z y : vS), (vil A z ++ othv B y).map (j_rc (j_f (B151 ++ R1))) = (vil A z).map (j_rc (j_f B151)) ++ (vil B y).map (j_rc (j_f R1)) := fun A B z y => cp_map (by decide +kernel) (by decide +kernel)
    have eW : clw (q, (3, sc, n), r, sl, sv) y = (clp q (3, sc, n) r ++ (blk (sl 0) B31 ++ (blk (sl 1) B55 ++ (blk (sv 0) B79 ++ (blk (sv 1) B103 ++ (blk (sv 2) B127)))))) ++ (blk (sv 3) B151 ++ (blk (sv 4) B175 ++ (blk (sv 5) B199 ++ (y)))) := by
      unfold clw cX
      simp only [List.append_assoc]
    have eW2 : clp q (3, sc, n) r ++ cX sl (svU sv 3 q) y = (clp q (3, sc, n) r ++ (blk (sl 0) B31 ++ (blk (sl 1) B55 ++ (blk (sv 0) B79 ++ (blk (sv 1) B103 ++ (blk (sv 2) B127)))))) ++ (blk q B151 ++ (blk (sv 4) B175 ++ (blk (sv 5) B199 ++ (y)))) := by
      simp only [List.append_assoc]
      rfl
    have vi : vp_in (nI 3) 6 := vp_c (by decide)
    refine J.run csX3_saveState 20 [] ?_
    refine ⟨vi, ?_⟩
    refine J.callV 0 0 [] (B151 ++ R1) (c_X1_copyFrom (sv 3).1 q.1 (sv 3).2 q.2) kX1_copyFrom mRX3_153 dX3_saveState_13 (by decide) (by decide) rfl rfl rfl (Nat.le_of_ble_eq_true rfl) (i0 := 0) rfl (ci := 1) rfl rfl (lies_copy eW rfl rfl (em _ _ _ _)) (by decide) (by decide) (by decide) ?_ ?_
    · rintro v h' ⟨hv, rfl⟩
      cases hv
      refine ⟨rfl, ?_⟩
      have h2 : R1.map (j_nth ((clp q (3, sc, n) r ++ (blk (sl 0) B31 ++ (blk (sl 1) B55 ++ (blk (sv 0) B79 ++ (blk (sv 1) B103 ++ (blk (sv 2) B127)))))) ++ (blk q B151 ++ (blk (sv 4) B175 ++ (blk (sv 5) B199 ++ (y)))))) = (blk q R1).map some := by
        rw [← eW2]
        rfl
      have sc := sc_copy (c1 := blk q B151) (c2 := blk q R1) (ρ1 := B151) (ρ2 := R1) eW rfl rfl h2
      rw [em]
      exact J.cast (E _ rfl) rfl rfl (eW2.trans sc.symm)
    · rintro E9 h' ⟨hv, -⟩
      cases hv
  · have em : ∀ (A B : aV) (z y : vS), (vil A z ++ othv B y).map (j_rc (j_f (B175 ++ R1))) = (vil A z).map (j_rc (j_f B175)) ++ (vil B y).map (j_rc (j_f R1)) := fun A B z y => cp_map (by decide +kernel) (by decide +kernel)
    have eW : clw (q, (4, sc, n), r, sl, sv) y = (clp q (4, sc, n) r ++ (blk (sl 0) B31 ++ (blk (sl 1) B55 ++ (blk (sv 0) B79 ++ (blk (sv 1) B103 ++ (blk (sv 2) B127 ++ (blk (sv 3) B151))))))) ++ (blk (sv 4) B175 ++ (blk (sv 5) B199 ++ (y))) := by
      unfold clw cX
      simp only [List.append_assoc]
    have eW2 : clp q (4, sc, n) r ++ cX sl (svU sv 4 q) y = (clp q (4, sc, n) r ++ (blk (sl 0) B31 ++ (blk (sl 1) B55 ++ (blk (sv 0) B79 ++ (blk (sv 1) B103 ++ (blk (sv 2) B127 ++ (blk (sv 3) B151))))))) ++ (blk q B175 ++ (blk (sv 5) B199 ++ (y))) := by
      simp only [List.append_assoc]
      rfl
    have vi : vp_in (nI 4) 6 := vp_c (by decide)
    refine J.run csX3_saveState 20 [] ?_
    refine ⟨vi, ?_⟩
    refine J.callV 0 0 [] (B175 ++ R1) (c_X1_copyFrom (sv 4).1 q.1 (sv 4).2 q.2) kX1_copyFrom mRX3_153 dX3_saveState_13 (by decide) (by decide) rfl rfl rfl (Nat.le_of_ble_eq_true rfl) (i0 := 0) rfl (ci := 1) rfl rfl (lies_copy eW rfl rfl (em _ _ _ _)) (by decide) (by decide) (by decide) ?_ ?_
    · rintro v h' ⟨hv, rfl⟩
      cases hv
      refine ⟨rfl, ?_⟩
      have h2 : R1.map (j_nth ((clp q (4, sc, n) r ++ (blk (sl 0) B31 ++ (blk (sl 1) B55 ++ (blk (sv 0) B79 ++ (blk (sv 1) B103 ++ (blk (sv 2) B127 ++ (blk (sv 3) B151))))))) ++ (blk q B175 ++ (blk (sv 5) B199 ++ (y))))) = (blk q R1).map some := by
        rw [← eW2]
        rfl
      have sc := sc_copy (c1 := blk q B175) (c2 := blk q R1) (ρ1 := B175) (ρ2 := R1) eW rfl rfl h2
      rw [em]
      exact J.cast (E _ rfl) rfl rfl (eW2.trans sc.symm)
    · rintro E9 h' ⟨hv, -⟩
      cases hv
  · have em : ∀ (A B : aV) (z y : vS), (vil A z ++ othv B y).map (j_rc (j_f (B199 ++ R1))) = (vil A z).map (j_rc (j_f B199)) ++ (vil B y).map (j_rc (j_f R1)) := fun A B z y => cp_map (by decide +kernel) (by decide +kernel)
    have eW : clw (q, (5, sc, n), r, sl, sv) y = (clp q (5, sc, n) r ++ (blk (sl 0) B31 ++ (blk (sl 1) B55 ++ (blk (sv 0) B79 ++ (blk (sv 1) B103 ++ (blk (sv 2) B127 ++ (blk (sv 3) B151 ++ (blk (sv 4) B175)))))))) ++ (blk (sv 5) B199 ++ (y)) := by
      unfold clw cX
      simp only [List.append_assoc]
    have eW2 : clp q (5, sc, n) r ++ cX sl (svU sv 5 q) y = (clp q (5, sc, n) r ++ (blk (sl 0) B31 ++ (blk (sl 1) B55 ++ (blk (sv 0) B79 ++ (blk (sv 1) B103 ++ (blk (sv 2) B127 ++ (blk (sv 3) B151 ++ (blk (sv 4) B175)))))))) ++ (blk q B199 ++ (y)) := by
      simp only [List.append_assoc]
      rfl
    have vi : vp_in (nI 5) 6 := vp_c (by decide)
    refine J.run csX3_saveState 20 [] ?_
    refine ⟨vi, ?_⟩
    refine J.callV 0 0 [] (B199 ++ R1) (c_X1_copyFrom (sv 5).1 q.1 (sv 5).2 q.2) kX1_copyFrom mRX3_153 dX3_saveState_13 (by decide) (by decide) rfl rfl rfl (Nat.le_of_ble_eq_true rfl) (i0 := 0) rfl (ci := 1) rfl rfl (lies_copy eW rfl rfl (em _ _ _ _)) (by decide) (by decide) (by decide) ?_ ?_
    · rintro v h' ⟨hv, rfl⟩
      cases hv
      refine ⟨rfl, ?_⟩
      have h2 : R1.map (j_nth ((clp q (5, sc, n) r ++ (blk (sl 0) B31 ++ (blk (sl 1) B55 ++ (blk (sv 0) B79 ++ (blk (sv 1) B103 ++ (blk (sv 2) B127 ++ (blk (sv 3) B151 ++ (blk (sv 4) B175)))))))) ++ (blk q B199 ++ (y)))) = (blk q R1).map some := by
        rw [← eW2]
        rfl
      have sc := sc_copy (c1 := blk q B199) (c2 := blk q R1) (ρ1 := B199) (ρ2 := R1) eW rfl rfl h2
      rw [em]
      exact J.cast (E _ rfl) rfl rfl (eW2.trans sc.symm)
    · rintro E9 h' ⟨hv, -⟩
      cases hv
