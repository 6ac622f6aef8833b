/-! The text, snapshots, going back. -/
abbrev s_t (S : aS) : List Nat := S.2.2.2
abbrev s_st (S : aS) : List aV := S.2.2.1
def clu (v : j_H) (sn sc n : Int32) (fl cs rt : Nat → Int32) (X : j_H) : j_H :=
  (.inr (3, [.ref 1, .ref 25, .ref 26, .ref 27, .int sn, .int sc, .ref 28, .ref 30]) :: (v.map (j_rc (j_f R1)) ++ [.inl (5, 2, .inr (.inr (.inr (.inr slq)))), .inl (2, 2, .inl fl), .inl (5, 6, .inr (.inr (.inr (.inr svq)))), .inr (2, [.ref 29, .int n]), .inl (0, 60, .inl cs), .inl (0, 24, .inl rt)])) ++ X
theorem cRel_t {S : aS} {K : cK} {t : List Nat} {cs : Nat → Int32} (h : cRel S K) (ht : tOk t) (hr : tRel t cs) : cRel (S.1, S.2.1, S.2.2.1, t) (K.1, (K.2.1.1, K.2.1.2.1, t.length), (K.2.2.1.1, cs, K.2.2.1.2.2), K.2.2.2.1, K.2.2.2.2) := ⟨h.1, h.2.1, h.2.2.1, rfl, ht, hr⟩
def rApp (S : aS) (a : Int32) : aR := if a < nI 33 ∨ nI 126 < a then (1, S, 0) else if 60 ≤ (s_t S).length then (2, S, 0) else (0, (S.1, S.2.1, S.2.2.1, s_t S ++ [cN a]), nI ((s_t S).length + 1))
theorem tRel_app {t : List Nat} {cs : Nat → Int32} (h : tRel t cs) (a : Nat) : tRel (t ++ [a]) (upd cs t.length (nI a)) := by
  intro k hk
  rw [List.length_append] at hk
  have hk : k < t.length + 1 := hk
  show (if k = t.length then nI a else cs k) = _
  rw [List.getD_eq_getElem?_getD]
  by_cases q : k = t.length
  · rw [if_pos q, List.getElem?_append_right (by omega), q, Nat.sub_self]
    rfl
  · rw [if_neg q, List.getElem?_append_left (by omega), ← List.getD_eq_getElem?_getD]
    exact h k (by omega)
def rClear (S : aS) : aR := (0, (S.1, S.2.1, S.2.2.1, []), nI (s_t S).length)
theorem t0_ok : tOk [] := ⟨Nat.zero_le _, fun _ h => by cases h⟩
theorem t0_rel (cs : Nat → Int32) : tRel [] cs := fun k h => absurd h (Nat.not_lt_zero k)
def rFirst (S : aS) : aR := (0, S, nI (fwL 0 (s_t S)))
def rLoad (S : aS) : aR := if stL 0 (s_t S) = 6 then (0, (blL 0 0 0 (s_t S) S.1, S.2.1, (S.1 :: S.2.2.1).take 6, []), nI (agh (blL 0 0 0 (s_t S) S.1))) else (1, S, 0)
abbrev Rbl : List Nat := [28, 29] ++ R1
theorem bl_map (n : Int32) (cs : Nat → Int32) (A : aV) (z : vS) : (txt n cs ++ (vil A z).map (j_rc (j_f R2))).map (j_rc (j_f Rbl)) = [.inr (2, [.ref 29, .int n]), .inl (0, 60, .inl cs)] ++ (vil A z).map (j_rc (j_f R1)) := by
  rw [List.map_append, vil_rr (r2 := j_f R1) (by decide +kernel)]
  rfl
