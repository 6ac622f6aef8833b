/-! First contracts. -/
/-- an outcome and a world, no others -/
def jd (o : j_O) (h : j_H) : j_F := fun o' h' => o' = o ∧ h' = h
theorem jd_i {o o' : j_O} {h h' : j_H} (e : o' = o) (e2 : h' = h) : jd o h o' h' := ⟨e, e2⟩
theorem J.cast {M : j_M} {Φ : j_F} {bc bs pc : Nat} {lv lv' : j_L} {st st' : List Value} {h h' : j_H} (k : J M Φ bc bs pc lv st h) (e1 : lv = lv') (e2 : st = st') (e3 : h = h') : J M Φ bc bs pc lv' st' h' := by
  subst e1; subst e2; subst e3; exact k
theorem J.run {M : j_M} {cd : List (Nat × j_T)} (hcd : ∀ q ∈ cd, Snd M q.1 q.2) (n : Nat) (stops : List (Nat × Nat)) {Φ : j_F} {bc bs pc : Nat} {lv : j_L} {st : List Value} {h : j_H} (k : wp cd stops Φ bc bs (J M Φ bc bs) n pc lv st h) : J M Φ bc bs pc lv st h := wp_J hcd n pc lv st h k
theorem c_X3_needIndex (i n : Int32) : Ct MX3_needIndex 1 6 [.int i, .int n] [] (jd (if i < 0 ∨ n ≤ i then .inr "java/lang/IndexOutOfBoundsException" else .inl none) []) := by
  refine Ct.of rfl rfl (by decide +kernel) rfl (Nat.le_of_ble_eq_true rfl) ?_
  refine J.run csX3_needIndex 20 [] ?_
  refine ⟨fun h1 => ?_, fun h1 => ⟨fun h2 => ?_, fun h2 => ?_⟩⟩
  · exact jd_i (by rw [if_pos (Or.inl h1)]) rfl
  · exact jd_i (by rw [if_neg (by rintro (h | h); exact h1 h; exact absurd h2 (Int32.not_lt.mpr h))]) rfl
  · exact jd_i (by rw [if_pos (Or.inr (Int32.not_lt.mp h2))]) rfl
theorem c_X3_needRange (v a b : Int32) : Ct MX3_needRange 1 6 [.int v, .int a, .int b] [] (jd (if v < a ∨ b < v then .inr "java/lang/IllegalArgumentException" else .inl none) []) := by
  refine Ct.of rfl rfl (by decide +kernel) rfl (Nat.le_of_ble_eq_true rfl) ?_
  refine J.run csX3_needRange 20 [] ?_
  refine ⟨fun h1 => ?_, fun h1 => ⟨fun h2 => ?_, fun h2 => ?_⟩⟩
  · exact jd_i (by rw [if_pos (Or.inl h1)]) rfl
  · exact jd_i (by rw [if_neg (by rintro (h | h); exact h1 h; exact absurd h2 (Int32.not_le.mpr h))]) rfl
  · exact jd_i (by rw [if_pos (Or.inr (Int32.not_le.mp h2))]) rfl
