/-! The model reads winds: what it reads, beside the automaton. -/
theorem pa0 (c : Nat) : pa 0 c = if c = 49 then 1 else if c = 50 then 2 else if 48 ≤ c ∧ c ≤ 57 then 3 else 7 := rfl
theorem pa1 (c : Nat) : pa 1 c = if 48 ≤ c ∧ c ≤ 57 then 3 else if c = 61 then 4 else 7 := rfl
theorem pa2 (c : Nat) : pa 2 c = if 48 ≤ c ∧ c ≤ 51 then 3 else if c = 61 then 4 else 7 := rfl
theorem pa3 (c : Nat) : pa 3 c = if c = 61 then 4 else 7 := rfl
theorem pa4 (c : Nat) : pa 4 c = if 48 ≤ c ∧ c ≤ 55 then 5 else 7 := rfl
theorem pa5 (c : Nat) : pa 5 c = if 48 ≤ c ∧ c ≤ 57 then 6 else 7 := rfl
theorem pa6 (c : Nat) : pa 6 c = if c = 59 then 0 else 7 := rfl
theorem blL_c (p h s c : Nat) (t : List Nat) (A : aV) : blL p h s (c :: t) A = if p = 0 then blL (pa p c) (c - 48) s t A else if p = 4 then blL (pa p c) h (c - 48) t A else if p = 5 then blL (pa p c) h s t (swd A h s (c - 48)) else if 48 ≤ c ∧ c ≤ 57 then blL (pa p c) (10 * h + (c - 48)) s t A else blL (pa p c) h s t A := rfl
theorem w_L5 : ∀ m : List Nat, (¬ (48 ≤ m.getD 0 0 ∧ m.getD 0 0 ≤ 57) → fwL 5 m = 0 ∧ stL 5 m ≠ 6) ∧ ((48 ≤ m.getD 0 0 ∧ m.getD 0 0 ≤ 57) → fwL 5 m = 1 + fwL 6 (m.drop 1) ∧ stL 5 m = stL 6 (m.drop 1) ∧ 1 ≤ m.length ∧ ∀ h s A, blL 5 h s m A = blL 6 h s (m.drop 1) (swd A h s (m.getD 0 0 - 48)))
  | [] => ⟨fun _ => ⟨rfl, by decide⟩, fun h => absurd h.1 (by decide)⟩
  | c :: t => by
    show (¬ (48 ≤ c ∧ c ≤ 57) → fwL 5 (c :: t) = 0 ∧ stL 5 (c :: t) ≠ 6) ∧ ((48 ≤ c ∧ c ≤ 57) → fwL 5 (c :: t) = 1 + fwL 6 t ∧ stL 5 (c :: t) = stL 6 t ∧ 1 ≤ t.length + 1 ∧ ∀ h s A, blL 5 h s (c :: t) A = blL 6 h s t (swd A h s (c - 48)))
    refine ⟨fun h => ?_, fun h => ?_⟩
    · have e : pa 5 c = 7 := by rw [pa5, if_neg h]
      rw [fwL_c, stL_c, e, if_pos rfl, stL_7]
      exact ⟨rfl, by decide⟩
    · have e : pa 5 c = 6 := by rw [pa5, if_pos h]
      rw [fwL_c, stL_c, e, if_neg (by decide)]
      refine ⟨rfl, rfl, by omega, fun h s A => ?_⟩
      rw [blL_c, if_neg (by decide), if_neg (by decide), if_pos rfl, e]
theorem w_L4 : ∀ m : List Nat, (¬ (48 ≤ m.getD 0 0 ∧ m.getD 0 0 ≤ 55) → fwL 4 m = 0 ∧ stL 4 m ≠ 6) ∧ ((48 ≤ m.getD 0 0 ∧ m.getD 0 0 ≤ 55) → fwL 4 m = 1 + fwL 5 (m.drop 1) ∧ stL 4 m = stL 5 (m.drop 1) ∧ 1 ≤ m.length ∧ ∀ h s A, blL 4 h s m A = blL 5 h (m.getD 0 0 - 48) (m.drop 1) A)
  | [] => ⟨fun _ => ⟨rfl, by decide⟩, fun h => absurd h.1 (by decide)⟩
  | c :: t => by
    show (¬ (48 ≤ c ∧ c ≤ 55) → fwL 4 (c :: t) = 0 ∧ stL 4 (c :: t) ≠ 6) ∧ ((48 ≤ c ∧ c ≤ 55) → fwL 4 (c :: t) = 1 + fwL 5 t ∧ stL 4 (c :: t) = stL 5 t ∧ 1 ≤ t.length + 1 ∧ ∀ h s A, blL 4 h s (c :: t) A = blL 5 h (c - 48) t A)
    refine ⟨fun h => ?_, fun h => ?_⟩
    · have e : pa 4 c = 7 := by rw [pa4, if_neg h]
      rw [fwL_c, stL_c, e, if_pos rfl, stL_7]
      exact ⟨rfl, by decide⟩
    · have e : pa 4 c = 5 := by rw [pa4, if_pos h]
      rw [fwL_c, stL_c, e, if_neg (by decide)]
      refine ⟨rfl, rfl, by omega, fun h s A => ?_⟩
      rw [blL_c, if_neg (by decide), if_pos rfl, e]
theorem w_L3 {p : Nat} (hp : p = 1 ∨ p = 2 ∨ p = 3) : ∀ m : List Nat, (∀ c t, m = c :: t → pa p c = pa 3 c) → (¬ m.getD 0 0 = 61 → fwL p m = 0 ∧ stL p m ≠ 6) ∧ (m.getD 0 0 = 61 → fwL p m = 1 + fwL 4 (m.drop 1) ∧ stL p m = stL 4 (m.drop 1) ∧ 1 ≤ m.length ∧ ∀ h s A, blL p h s m A = blL 4 h s (m.drop 1) A)
  | [], _ => ⟨fun _ => ⟨rfl, by show p ≠ 6; omega⟩, fun h => absurd h (by decide)⟩
  | c :: t, hm => by
    have hm := hm c t rfl
    show (¬ c = 61 → fwL p (c :: t) = 0 ∧ stL p (c :: t) ≠ 6) ∧ (c = 61 → fwL p (c :: t) = 1 + fwL 4 t ∧ stL p (c :: t) = stL 4 t ∧ 1 ≤ t.length + 1 ∧ ∀ h s A, blL p h s (c :: t) A = blL 4 h s t A)
    refine ⟨fun h => ?_, fun h => ?_⟩
    · have e : pa p c = 7 := by rw [hm, pa3, if_neg h]
      rw [fwL_c, stL_c, e, if_pos rfl, stL_7]
      exact ⟨rfl, by decide⟩
    · have e : pa p c = 4 := by rw [hm, pa3, if_pos h]
      rw [fwL_c, stL_c, e, if_neg (by decide)]
      refine ⟨rfl, rfl, by omega, fun h s A => ?_⟩
      rw [blL_c, if_neg (by omega), if_neg (by omega), if_neg (by omega), if_neg (by omega), e]
/-- what is read: whether the hour has two digits; behind the hour; the hour; where it ends, or the first error -/
def rdD (l : List Nat) : Bool := decide (49 ≤ l.getD 0 0 ∧ 48 ≤ l.getD 1 0 ∧ l.getD 1 0 ≤ 57 ∧ 10 * (l.getD 0 0 - 48) + l.getD 1 0 - 48 < 24)
def rdP (l : List Nat) : Nat := if rdD l = true then 2 else 1
def rdH (l : List Nat) : Nat := if rdD l = true then 10 * (l.getD 0 0 - 48) + l.getD 1 0 - 48 else l.getD 0 0 - 48
def rdR (l : List Nat) : Nat × Bool := if ¬ (48 ≤ l.getD 0 0 ∧ l.getD 0 0 ≤ 57) then (0, false) else if ¬ l.getD (rdP l) 0 = 61 then (rdP l, false) else if ¬ (48 ≤ l.getD (rdP l + 1) 0 ∧ l.getD (rdP l + 1) 0 ≤ 55) then (rdP l + 1, false) else if ¬ (48 ≤ l.getD (rdP l + 2) 0 ∧ l.getD (rdP l + 2) 0 ≤ 57) then (rdP l + 2, false) else (rdP l + 3, true)
theorem gd_drop (l : List Nat) (k j : Nat) : (l.drop k).getD j 0 = l.getD (k + j) 0 := by
  rw [List.getD_eq_getElem?_getD, List.getD_eq_getElem?_getD, List.getElem?_drop]
theorem rd_key : ∀ l : List Nat, (48 ≤ l.getD 0 0 ∧ l.getD 0 0 ≤ 57) → ∃ q, (q = 1 ∨ q = 2 ∨ q = 3) ∧ fwL 0 l = rdP l + fwL q (l.drop (rdP l)) ∧ stL 0 l = stL q (l.drop (rdP l)) ∧ (∀ h s A, blL 0 h s l A = blL q (rdH l) s (l.drop (rdP l)) A) ∧ (∀ c t, l.drop (rdP l) = c :: t → pa q c = pa 3 c) ∧ rdP l ≤ l.length ∧ rdH l < 24
  | [], h => absurd h.1 (by decide)
  | a :: t, h => by
    have h : 48 ≤ a ∧ a ≤ 57 := h
    have hq : pa 0 a = 1 ∧ a = 49 ∨ pa 0 a = 2 ∧ a = 50 ∨ pa 0 a = 3 ∧ a ≠ 49 ∧ a ≠ 50 := by
      rw [pa0]
      by_cases h1 : a = 49
      · rw [if_pos h1]; exact Or.inl ⟨rfl, h1⟩
      · by_cases h2 : a = 50
        · rw [if_neg h1, if_pos h2]; exact Or.inr (Or.inl ⟨rfl, h2⟩)
        · rw [if_neg h1, if_neg h2, if_pos h]; exact Or.inr (Or.inr ⟨rfl, h1, h2⟩)
    have hn : ¬ pa 0 a = 7 := by omega
    have f0 : fwL 0 (a :: t) = 1 + fwL (pa 0 a) t := by rw [fwL_c, if_neg hn]
    have s0 : stL 0 (a :: t) = stL (pa 0 a) t := stL_c _ _ _
    have b0 : ∀ h s A, blL 0 h s (a :: t) A = blL (pa 0 a) (a - 48) s t A := fun h s A => by rw [blL_c, if_pos rfl]
    by_cases d : rdD (a :: t) = true
    · have eP : rdP (a :: t) = 2 := if_pos d
      have eH : rdH (a :: t) = 10 * (a - 48) + t.getD 0 0 - 48 := if_pos d
      have d : 49 ≤ a ∧ 48 ≤ t.getD 0 0 ∧ t.getD 0 0 ≤ 57 ∧ 10 * (a - 48) + t.getD 0 0 - 48 < 24 := of_decide_eq_true d
      cases t with
      | nil => exact absurd d.2.1 (by decide)
      | cons b u =>
        have d : 49 ≤ a ∧ 48 ≤ b ∧ b ≤ 57 ∧ 10 * (a - 48) + b - 48 < 24 := d
        have eH : rdH (a :: b :: u) = 10 * (a - 48) + b - 48 := eH
        have e3 : pa (pa 0 a) b = 3 := by
          rcases hq with ⟨w, w2⟩ | ⟨w, w2⟩ | ⟨w, w2⟩
          · rw [w, pa1, if_pos ⟨d.2.1, d.2.2.1⟩]
          · rw [w, pa2, if_pos (by omega)]
          · omega
        refine ⟨3, Or.inr (Or.inr rfl), ?_, ?_, fun h s A => ?_, fun _ _ _ => rfl, by rw [eP]; show 2 ≤ u.length + 1 + 1; omega, by rw [eH]; exact d.2.2.2⟩
        · rw [f0, eP, fwL_c, e3, if_neg (by decide), ← Nat.add_assoc]
          rfl
        · rw [s0, eP, stL_c, e3]
          rfl
        · rw [b0, eP, eH, blL_c, e3, if_neg (by omega), if_neg (by omega), if_neg (by omega), if_pos ⟨d.2.1, d.2.2.1⟩, show 10 * (a - 48) + (b - 48) = 10 * (a - 48) + b - 48 by omega]
          rfl
    · have eP : rdP (a :: t) = 1 := if_neg d
      have eH : rdH (a :: t) = a - 48 := if_neg d
      have d : ¬ (49 ≤ a ∧ 48 ≤ t.getD 0 0 ∧ t.getD 0 0 ≤ 57 ∧ 10 * (a - 48) + t.getD 0 0 - 48 < 24) := fun w => d (decide_eq_true w)
      refine ⟨pa 0 a, by omega, by rw [f0, eP]; rfl, by rw [s0, eP]; rfl, fun h s A => by rw [b0, eP, eH]; rfl, fun c u w => ?_, by rw [eP]; show 1 ≤ t.length + 1; omega, by rw [eH]; omega⟩
      rw [eP] at w
      have w : t = c :: u := w
      subst w
      have d : ¬ (49 ≤ a ∧ 48 ≤ c ∧ c ≤ 57 ∧ 10 * (a - 48) + c - 48 < 24) := d
      rcases hq with ⟨w, w2⟩ | ⟨w, w2⟩ | ⟨w, w2⟩
      · rw [w, pa1, pa3, if_neg (by omega)]
      · rw [w, pa2, pa3, if_neg (by omega)]
      · rw [w]
theorem rd_all (l : List Nat) : ((rdR l).2 = false → fwL 0 l = (rdR l).1 ∧ stL 0 l ≠ 6) ∧ ((rdR l).2 = true → (48 ≤ l.getD 0 0 ∧ l.getD 0 0 ≤ 57) ∧ (48 ≤ l.getD (rdP l + 1) 0 ∧ l.getD (rdP l + 1) 0 ≤ 55) ∧ (48 ≤ l.getD (rdP l + 2) 0 ∧ l.getD (rdP l + 2) 0 ≤ 57) ∧ rdH l < 24 ∧ (rdR l).1 = rdP l + 3 ∧ rdP l + 3 ≤ l.length ∧ fwL 0 l = rdP l + 3 + fwL 6 (l.drop (rdP l + 3)) ∧ stL 0 l = stL 6 (l.drop (rdP l + 3)) ∧ ∀ h s A, blL 0 h s l A = blL 6 (rdH l) (l.getD (rdP l + 1) 0 - 48) (l.drop (rdP l + 3)) (swd A (rdH l) (l.getD (rdP l + 1) 0 - 48) (l.getD (rdP l + 2) 0 - 48))) := by
  by_cases c0 : 48 ≤ l.getD 0 0 ∧ l.getD 0 0 ≤ 57
  · obtain ⟨q, k1, k2, k3, k4, k5, k6, k7⟩ := rd_key l c0
    obtain ⟨x1, x2⟩ := w_L3 k1 _ k5
    obtain ⟨y1, y2⟩ := w_L4 ((l.drop (rdP l)).drop 1)
    obtain ⟨w1, w2⟩ := w_L5 (((l.drop (rdP l)).drop 1).drop 1)
    have g0 : (l.drop (rdP l)).getD 0 0 = l.getD (rdP l) 0 := gd_drop _ _ _
    have d1 : (l.drop (rdP l)).drop 1 = l.drop (rdP l + 1) := List.drop_drop
    have d2 : (l.drop (rdP l + 1)).drop 1 = l.drop (rdP l + 2) := List.drop_drop
    have d3 : (l.drop (rdP l + 2)).drop 1 = l.drop (rdP l + 3) := List.drop_drop
    have g1 : (l.drop (rdP l + 1)).getD 0 0 = l.getD (rdP l + 1) 0 := gd_drop _ _ _
    have g2 : (l.drop (rdP l + 2)).getD 0 0 = l.getD (rdP l + 2) 0 := gd_drop _ _ _
    rw [g0] at x1 x2
    rw [d1] at x2 y1 y2 w1 w2
    rw [d2] at y2 w1 w2
    rw [d3] at w2
    rw [g1] at y1 y2
    rw [g2] at w1 w2
    by_cases c1 : l.getD (rdP l) 0 = 61
    · obtain ⟨x2, x3, x4, x5⟩ := x2 c1
      by_cases c2 : 48 ≤ l.getD (rdP l + 1) 0 ∧ l.getD (rdP l + 1) 0 ≤ 55
      · obtain ⟨y2, y3, y4, y5⟩ := y2 c2
        by_cases c3 : 48 ≤ l.getD (rdP l + 2) 0 ∧ l.getD (rdP l + 2) 0 ≤ 57
        · obtain ⟨w2, w3, w4, w5⟩ := w2 c3
          have e : rdR l = (rdP l + 3, true) := by
            unfold rdR
            rw [if_neg (fun h => h c0), if_neg (fun h => h c1), if_neg (fun h => h c2), if_neg (fun h => h c3)]
          rw [e]
          rw [List.length_drop] at w4
          refine ⟨fun h => (by cases h), fun _ => ⟨c0, c2, c3, k7, rfl, by omega, ?_, ?_, fun h s A => ?_⟩⟩
          · rw [k2, x2, y2, w2]
            omega
          · rw [k3, x3, y3, w3]
          · rw [k4, x5, y5, w5]
        · obtain ⟨w1, w2⟩ := w1 c3
          have e : rdR l = (rdP l + 2, false) := by
            unfold rdR
            rw [if_neg (fun h => h c0), if_neg (fun h => h c1), if_neg (fun h => h c2), if_pos c3]
          rw [e]
          refine ⟨fun _ => ⟨?_, ?_⟩, fun h => (by cases h)⟩
          · rw [k2, x2, y2, w1]
          · rw [k3, x3, y3]
            exact w2
      · obtain ⟨y1, y2⟩ := y1 c2
        have e : rdR l = (rdP l + 1, false) := by
          unfold rdR
          rw [if_neg (fun h => h c0), if_neg (fun h => h c1), if_pos c2]
        rw [e]
        refine ⟨fun _ => ⟨?_, ?_⟩, fun h => (by cases h)⟩
        · rw [k2, x2, y1]
        · rw [k3, x3]
          exact y2
    · obtain ⟨x1, x2⟩ := x1 c1
      have e : rdR l = (rdP l, false) := by
        unfold rdR
        rw [if_neg (fun h => h c0), if_pos c1]
      rw [e]
      refine ⟨fun _ => ⟨?_, ?_⟩, fun h => (by cases h)⟩
      · rw [k2, x1]
        rfl
      · rw [k3]
        exact x2
  · have e : rdR l = (0, false) := if_pos c0
    rw [e]
    refine ⟨fun _ => ?_, fun h => (by cases h)⟩
    cases l with
    | nil => exact ⟨rfl, by decide⟩
    | cons c t =>
      have c0 : ¬ (48 ≤ c ∧ c ≤ 57) := c0
      have e7 : pa 0 c = 7 := by rw [pa0, if_neg (by omega), if_neg (by omega), if_neg c0]
      rw [fwL_c, stL_c, e7, if_pos rfl, stL_7]
      exact ⟨rfl, by decide⟩
theorem fw_len : ∀ (t : List Nat) (p : Nat), stL p t = 6 → fwL p t = t.length
  | [], _, _ => rfl
  | c :: t, p, h => by
    rw [stL_c] at h
    have hn : ¬ pa p c = 7 := fun q => by
      rw [q, stL_7] at h
      cases h
    rw [fwL_c, if_neg hn, fw_len t _ h, List.length_cons, Nat.add_comm]
theorem fwL_le : ∀ (l : List Nat) (p : Nat), fwL p l ≤ l.length
  | [], _ => Nat.zero_le _
  | c :: u, p => by
    rw [fwL_c]
    split
    · exact Nat.zero_le _
    · have := fwL_le u (pa p c)
      rw [List.length_cons]
      omega
