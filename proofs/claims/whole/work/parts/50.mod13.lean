/-! The model's operations that change numbers. -/
theorem J.inq {M : j_M} {Φ : j_F} {bc bs pc idx : Nat} {lv : j_L} {rest : List Value} {h : j_H} {v a b : Int32} (hk : j_kS MX4_in 3) (hl : Cond.methodLink (jm_o M) idx (jm_y MX4_in) ∈ j_ws) (hd : decode (jm_b M) pc = .ok (.invokestatic idx, 3)) (hR : jm_f MX4_in + 1 ≤ jm_f M ∧ 8 + (jm_n MX4_in + 11) + jm_l MX4_in ≤ jm_l M) (hcat : (rest.map fun v => v.category).sum ≤ 8)
    (k0 : v < a ∨ b < v → J M Φ bc bs (pc + 3) lv (.int 0 :: rest) h) (k1 : ¬ (v < a ∨ b < v) → J M Φ bc bs (pc + 3) lv (.int 1 :: rest) h) : J M Φ bc bs pc lv (.int b :: .int a :: .int v :: rest) h := by
  refine J.callS bc bs rest [] (as := [.int v, .int a, .int b]) (c_X4_in v a b) hk hl hd hR.1 hR.2 rfl rfl rfl hcat rfl rfl (Nat.le_refl _) (Nat.le_refl _) ?_ ?_
  · rintro u h' ⟨hv, rfl⟩
    cases hv
    refine ⟨rfl, ?_⟩
    by_cases q : v < a ∨ b < v
    · rw [if_pos q]
      exact k0 q
    · rw [if_neg q]
      exact k1 q
  · rintro E h' ⟨hv, -⟩
    cases hv
