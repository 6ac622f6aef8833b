/-! Winds are blown into a village. -/
def swd (A : aV) (h s g : Nat) : aV := (A.1, (fun k => if k = h then s else v_sd A k), (fun k => if k = h then g else v_sg A k), v_vn A, v_se A, v_ml A, v_fl A, v_br A, v_tk A)
def blL : Nat → Nat → Nat → List Nat → aV → aV
  | _, _, _, [], A => A
  | p, h, s, c :: t, A => if p = 0 then blL (pa p c) (c - 48) s t A else if p = 4 then blL (pa p c) h (c - 48) t A else if p = 5 then blL (pa p c) h s t (swd A h s (c - 48)) else if 48 ≤ c ∧ c ≤ 57 then blL (pa p c) (10 * h + (c - 48)) s t A else blL (pa p c) h s t A
def bI (p h s : Nat) : Prop := (p = 1 → h = 1) ∧ (p = 2 → h = 2) ∧ (p = 3 → h < 24) ∧ (p = 4 → h < 24) ∧ (p = 5 → h < 24 ∧ s < 8)
theorem bI_0 {c s : Nat} (h : pa 0 c ≠ 7) : bI (pa 0 c) (c - 48) s ∧ 48 ≤ c ∧ c ≤ 57 := by
  have e : pa 0 c = if c = 49 then 1 else if c = 50 then 2 else if 48 ≤ c ∧ c ≤ 57 then 3 else 7 := rfl
  rw [e] at h ⊢
  unfold bI
  repeat' split
  all_goals (try (exfalso; simp_all; done))
  all_goals omega
theorem bI_4 {c h s : Nat} (hb : bI 4 h s) (hn : pa 4 c ≠ 7) : bI (pa 4 c) h (c - 48) ∧ 48 ≤ c ∧ c ≤ 55 := by
  have e : pa 4 c = if 48 ≤ c ∧ c ≤ 55 then 5 else 7 := rfl
  have hh := hb.2.2.2.1 rfl
  by_cases q : 48 ≤ c ∧ c ≤ 55
  · rw [e, if_pos q]
    unfold bI
    omega
  · exact absurd (e.trans (if_neg q)) hn
theorem bI_5 {c h s : Nat} (hn : pa 5 c ≠ 7) : bI (pa 5 c) h s ∧ 48 ≤ c ∧ c ≤ 57 := by
  have e : pa 5 c = if 48 ≤ c ∧ c ≤ 57 then 6 else 7 := rfl
  by_cases q : 48 ≤ c ∧ c ≤ 57
  · rw [e, if_pos q]
    unfold bI
    omega
  · exact absurd (e.trans (if_neg q)) hn
theorem bI_d {p c h s : Nat} (hp : p < 7) (hb : bI p h s) (h0 : p ≠ 0) (h4 : p ≠ 4) (h5 : p ≠ 5) (hn : pa p c ≠ 7) (hd : 48 ≤ c ∧ c ≤ 57) : bI (pa p c) (10 * h + (c - 48)) s ∧ 10 * h + (c - 48) < 24 := by
  have hc : p = 1 ∨ p = 2 ∨ p = 3 ∨ p = 6 := by omega
  unfold bI at hb
  rcases hc with rfl | rfl | rfl | rfl
  · have e : pa 1 c = 3 := if_pos hd
    rw [e]
    unfold bI
    omega
  · by_cases q : 48 ≤ c ∧ c ≤ 51
    · have e : pa 2 c = 3 := if_pos q
      rw [e]
      unfold bI
      omega
    · have e : pa 2 c = 7 := (if_neg q).trans (if_neg (by omega))
      exact absurd e hn
  · have e : pa 3 c = 7 := if_neg (by omega)
    exact absurd e hn
  · have e : pa 6 c = 7 := if_neg (by omega)
    exact absurd e hn
theorem bI_n {p c h s : Nat} (hp : p < 7) (hb : bI p h s) (h0 : p ≠ 0) (h4 : p ≠ 4) (h5 : p ≠ 5) (hn : pa p c ≠ 7) (hd : ¬ (48 ≤ c ∧ c ≤ 57)) : bI (pa p c) h s := by
  have hc : p = 1 ∨ p = 2 ∨ p = 3 ∨ p = 6 := by omega
  unfold bI at hb
  rcases hc with rfl | rfl | rfl | rfl
  · by_cases q : c = 61
    · have e : pa 1 c = 4 := (if_neg hd).trans (if_pos q)
      rw [e]
      unfold bI
      omega
    · have e : pa 1 c = 7 := (if_neg hd).trans (if_neg q)
      exact absurd e hn
  · by_cases q : c = 61
    · have e : pa 2 c = 4 := (if_neg (by omega)).trans (if_pos q)
      rw [e]
      unfold bI
      omega
    · have e : pa 2 c = 7 := (if_neg (by omega)).trans (if_neg q)
      exact absurd e hn
  · by_cases q : c = 61
    · have e : pa 3 c = 4 := if_pos q
      rw [e]
      unfold bI
      omega
    · have e : pa 3 c = 7 := if_neg q
      exact absurd e hn
  · by_cases q : c = 59
    · have e : pa 6 c = 0 := if_pos q
      rw [e]
      unfold bI
      omega
    · have e : pa 6 c = 7 := if_neg q
      exact absurd e hn
abbrev R2 : List Nat := [2, 3, 4, 5, 6, 7, 8, 9, 10, 11, 12, 13, 14, 15, 16, 17, 18, 19, 20, 21, 22, 23, 24, 25]
def blW (n : Int32) (cs : Nat → Int32) (A : aV) (z : vS) (sd sg : Nat → Int32) : j_H := txt n cs ++ (vilr (nI (v_ho A)) (nI (v_go A)) (nI (v_tu A)) (nI (v_re A)) sd sg (fun i k => nI (v_vn A i k)) (fun k => nI (v_se A k)) (mCo A z) (fun k => nI (v_fl A k)) (fun k => nI (v_br A k)) (fun k => nI (v_tk A k))).map (j_rc (j_f R2))
theorem upd_nI {f : Nat → Nat} {h x : Nat} {y : Int32} (hh : h < 2 ^ 31) (hy : nI x = y) : (fun k => nI (if k = h then x else f k)) = upd (fun k => nI (f k)) (nI h).toNatClampNeg y := by
  funext k
  rw [cl_n hh]
  show nI (if k = h then x else f k) = if k = h then y else nI (f k)
  by_cases q : k = h
  · rw [if_pos q, if_pos q, hy]
  · rw [if_neg q, if_neg q]
theorem swd_ok {A : aV} (hA : vOk A) {h s g : Nat} (hs : s < 8) (hg : g < 10) : vOk (swd A h s g) := by
  obtain ⟨h1, h2, h3, h4⟩ := hA
  refine ⟨h1, h2, fun k hk => ?_, h4⟩
  show (if k = h then s else v_sd A k) < 8 ∧ (if k = h then g else v_sg A k) < 10
  by_cases q : k = h
  · rw [if_pos q, if_pos q]
    exact ⟨hs, hg⟩
  · rw [if_neg q, if_neg q]
    exact h3 k hk
theorem blL_ok : ∀ (t : List Nat) (p h s : Nat) (A : aV), vOk A → p < 7 → bI p h s → stL p t = 6 → vOk (blL p h s t A) ∧ v_ml (blL p h s t A) = v_ml A
  | [], _, _, _, _, hA, _, _, _ => ⟨hA, rfl⟩
  | c :: t, p, h, s, A, hA, hp, hb, hs => by
    rw [stL_c] at hs
    have hne : pa p c ≠ 7 := fun q => by
      rw [q, stL_7] at hs
      cases hs
    have hp' : pa p c < 7 := by have := pa_le p c; omega
    unfold blL
    by_cases q0 : p = 0
    · rw [if_pos q0]
      subst q0
      exact blL_ok t _ _ _ _ hA hp' (bI_0 hne).1 hs
    rw [if_neg q0]
    by_cases q4 : p = 4
    · rw [if_pos q4]
      subst q4
      exact blL_ok t _ _ _ _ hA hp' (bI_4 hb hne).1 hs
    rw [if_neg q4]
    by_cases q5 : p = 5
    · rw [if_pos q5]
      subst q5
      obtain ⟨b1, b2, b3⟩ := bI_5 (h := h) (s := s) hne
      exact blL_ok t _ _ _ _ (swd_ok hA (hb.2.2.2.2 rfl).2 (by omega)) hp' b1 hs
    rw [if_neg q5]
    by_cases qd : 48 ≤ c ∧ c ≤ 57
    · rw [if_pos qd]
      exact blL_ok t _ _ _ _ hA hp' (bI_d hp hb q0 q4 q5 hne qd).1 hs
    · rw [if_neg qd]
      exact blL_ok t _ _ _ _ hA hp' (bI_n hp hb q0 q4 q5 hne qd) hs
