/-! The law's world: five rows, then the class. -/
def clA (K : cK) : j_H := (clw K []).map (j_rc (j_f (List.range' 5 223)))
theorem clA_len (K : cK) : (clA K).length = 223 := by
  unfold clA
  rw [List.length_map, clw_len]
  rfl
abbrev LW (h v g l o : Nat → Int32) (T : j_H) : j_H := hC h :: vC v :: gC g :: vC l :: gC o :: T
theorem LW_lies (h v g l o : Nat → Int32) (K : cK) (Y : j_H) : j_lies (List.range' 5 223) (clw K []) (LW h v g l o (clA K ++ Y)) := by
  refine j_lies_of (X := clA K) rfl ?_
  have := nth_blk [hC h, vC v, gC g, vC l, gC o] (clA K) Y
  rw [clA_len] at this
  exact this
theorem LW_back (h v g l o : Nat → Int32) (K K' : cK) (Y : j_H) : j_sc (List.range' 5 223) ((clw K' []).map (j_rc (j_f (List.range' 5 223)))) (LW h v g l o (clA K ++ Y)) = LW h v g l o (clA K' ++ Y) := by
  have := sc_blk (clA K') (clA K) [hC h, vC v, gC g, vC l, gC o] Y (by rw [clA_len, clA_len])
  rw [clA_len] at this
  exact this
/-- a call of the class -/
theorem J.clV {M M' : j_M} {Φ Φ' : j_F} {bc bs : Nat} (bc1 bs1 : Nat) {mc1 ms1 pc idx n : Nat} {lv : j_L} {st : List Value} (rest : List Value) {as : List Value} {K : cK} {h v g l o : Nat → Int32} {Y : j_H}
    (hC : Ct M' mc1 ms1 (.ref 0 :: as) (clw K []) Φ') (hk : j_kV M' n) (hl : Cond.methodLink (jm_o M) idx (jm_y M') ∈ j_ws) (hd : decode (jm_b M) pc = .ok (.invokevirtual idx, 3)) (hR : jm_f M' + 1 ≤ jm_f M ∧ 8 + (jm_n M' + 11) + jm_l M' ≤ jm_l M ∧ jm_a M' = false)
    (hn : as.length = n) (has : as.map (j_v (j_f (List.range' 5 223))) = as) (hst9 : st = as.reverse ++ (.ref 5 :: rest)) (hcat : (rest.map fun v => v.category).sum ≤ 8) (hcn : RX3 = (jm_y M').cls) (hb1 : bc1 + mc1 ≤ bc) (hb2 : bs1 + ms1 ≤ bs)
    (hq : ∀ u w, Φ' u w → ∃ K', w = clw K' [])
    (kk : ∀ v9 K', Φ' (.inl v9) (clw K' []) → J M Φ bc1 bs1 (pc + 3) lv ((v9.map (j_v (j_f (List.range' 5 223)))).toList ++ rest) (LW h v g l o (clA K' ++ Y)))
    (kx : ∀ E K', Φ' (.inr E) (clw K' []) → JX M Φ bc1 bs1 pc lv (LW h v g l o (clA K' ++ Y)) E) : J M Φ bc bs pc lv st (LW h v g l o (clA K ++ Y)) := by
  refine J.callV bc1 bs1 rest (List.range' 5 223) hC hk hl hd hR.1 hR.2.1 hR.2.2 hn ?_ hcat (i0 := 0) rfl (ci := 3) rfl hcn (LW_lies h v g l o K Y) (by decide +kernel) hb1 hb2 ?_ ?_
  · rw [hst9, List.map_cons, has, List.reverse_cons, List.append_assoc]
    rfl
  · intro v9 h' hΦ
    obtain ⟨K', rfl⟩ := hq _ _ hΦ
    refine ⟨by rw [clw_len, clw_len], ?_⟩
    rw [LW_back]
    exact kk v9 K' hΦ
  · intro E h' hΦ
    obtain ⟨K', rfl⟩ := hq _ _ hΦ
    refine ⟨by rw [clw_len, clw_len], ?_⟩
    rw [LW_back]
    exact kx E K' hΦ
/-- a look at the class -/
theorem J.lk {M M' : j_M} {Φ : j_F} {bc bs pc idx n : Nat} {lv : j_L} {st : List Value} (rest : List Value) {as : List Value} {S : aS} {K : cK} {w : Int32} {h v g l o : Nat → Int32} {Y : j_H}
    (hC : Ct M' 0 0 (.ref 0 :: as) (clw K []) (cL S [] w)) (hk : j_kV M' n) (hl : Cond.methodLink (jm_o M) idx (jm_y M') ∈ j_ws) (hd : decode (jm_b M) pc = .ok (.invokevirtual idx, 3)) (hR : jm_f M' + 1 ≤ jm_f M ∧ 8 + (jm_n M' + 11) + jm_l M' ≤ jm_l M ∧ jm_a M' = false)
    (hn : as.length = n) (has : as.map (j_v (j_f (List.range' 5 223))) = as) (hst9 : st = as.reverse ++ (.ref 5 :: rest)) (hcat : (rest.map fun v => v.category).sum ≤ 8) (hcn : RX3 = (jm_y M').cls)
    (k : ∀ K', cRel S K' → J M Φ bc bs (pc + 3) lv (.int w :: rest) (LW h v g l o (clA K' ++ Y))) : J M Φ bc bs pc lv st (LW h v g l o (clA K ++ Y)) := by
  refine J.clV bc bs rest hC hk hl hd hR hn has hst9 hcat hcn (Nat.le_refl _) (Nat.le_refl _) (fun u w hq => ?_) (fun v9 K' hq => ?_) (fun E K' hq => ?_)
  · obtain ⟨-, K', -, e⟩ := hq
    exact ⟨K', e⟩
  · obtain ⟨hv, K2, hK2, e⟩ := hq
    cases hv
    have e2 : clA K' = clA K2 := congrArg (fun x => List.map (j_rc (j_f (List.range' 5 223))) x) e
    rw [e2]
    exact k K2 hK2
  · obtain ⟨hv, -⟩ := hq
    cases hv
/-- a call of one of the law's own methods with handlers -/
theorem J.clH {M M' : j_M} {Φ : j_F} {bc bs : Nat} (bc1 bs1 : Nat) {mc1 ms1 pc idx n : Nat} {lv : j_L} {st : List Value} (rest : List Value) {as : List Value} {K : cK} {r : aR} {c1 : Int32} {h v g l o : Nat → Int32} {Y : j_H}
    (hC : Ct M' mc1 ms1 (.ref 0 :: as) (clw K []) (fun u w => u = .inl (some (.int c1)) ∧ ∃ K, cRel r.2.1 K ∧ w = clw K [])) (hk : j_kH M' n) (hl : Cond.methodLink (jm_o M) idx (jm_y M') ∈ j_ws) (hd : decode (jm_b M) pc = .ok (.invokestatic idx, 3)) (hR : jm_f M' + 1 ≤ jm_f M ∧ 8 + (jm_n M' + 11) + jm_l M' ≤ jm_l M ∧ jm_a M' = false)
    (hn : (Value.ref 0 :: as).length = n) (has : as.map (j_v (j_f (List.range' 5 223))) = as) (hst9 : st = as.reverse ++ (.ref 5 :: rest)) (hcat : (rest.map fun v => v.category).sum ≤ 8) (hb1 : bc1 + mc1 ≤ bc) (hb2 : bs1 + ms1 ≤ bs)
    (k : ∀ K', cRel r.2.1 K' → J M Φ bc1 bs1 (pc + 3) lv (.int c1 :: rest) (LW h v g l o (clA K' ++ Y))) : J M Φ bc bs pc lv st (LW h v g l o (clA K ++ Y)) := by
  refine J.callH bc1 bs1 rest (List.range' 5 223) hC hk hl hd hR.1 hR.2.1 hR.2.2 hn ?_ hcat (LW_lies h v g l o K Y) (by decide +kernel) hb1 hb2 ?_ ?_
  · rw [hst9, List.map_cons, has, List.reverse_cons, List.append_assoc]
    rfl
  · rintro v9 h' ⟨hv, K', hK', rfl⟩
    cases hv
    refine ⟨by rw [clw_len, clw_len], ?_⟩
    rw [LW_back]
    exact k K' hK'
  · rintro E h' ⟨hv, -⟩
    cases hv
