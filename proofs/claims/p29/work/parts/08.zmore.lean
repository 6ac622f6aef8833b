/-! More instructions: a shift, a length of a row; one at a time, by its cell. -/
def e_ishr (nx : Nat) : j_T := fun _ _ _ K lv st h => match st with
  | .int y :: .int x :: r => K nx lv (.int (x >>> (y &&& 31)) :: r) h
  | _ => False
theorem s_ishr {M : j_M} {pc : Nat} (hd : decode (jm_b M) pc = .ok (.ishr, 1)) : Snd M pc (e_ishr (pc + 1)) := by
  intro Φ bc bs K hK lv st h hS
  unfold e_ishr at hS
  split at hS
  · intro p l e R s m args below meth c D T A N ad0 mc ms hX ad H locs cells slots ls hI
    obtain ⟨hx, hb, hml, hown, hts, hret, hlk, hKk, hst, hfr, hlo, hmc, hms, hA, hSx, htb, hnm, hsc⟩ := id hX
    obtain ⟨hc, hs, hl, hP, hD, hSS, hN, hAl⟩ := id hI
    exact lv_ishr hx hb hd (hK _ _ _ _ hS p l e R s m args below meth c D T A N ad0 mc ms hX ad H locs cells slots ls hI)
  · exact hS.elim
def e_alen (nx : Nat) : j_T := fun _ _ _ K lv st h => match st with
  | .ref i :: r => j_ia 0 h i (fun n _ => K nx lv (.int (nI n) :: r) h)
  | _ => False
theorem s_alen {M : j_M} {pc : Nat} (hd : decode (jm_b M) pc = .ok (.arraylength, 1)) : Snd M pc (e_alen (pc + 1)) := by
  intro Φ bc bs K hK lv st h hS
  unfold e_alen at hS
  split at hS
  · rename_i i r
    obtain ⟨n, f, hf, hS⟩ := j_ia_inv hS
    intro p l e R s m args below meth c D T A N ad0 mc ms hX ad H locs cells slots ls hI
    obtain ⟨hx, hb, hml, hown, hts, hret, hlk, hKk, hst, hfr, hlo, hmc, hms, hA, hSx, htb, hnm, hsc⟩ := id hX
    obtain ⟨hc, hs, hl, hP, hD, hSS, hN, hAl⟩ := id hI
    exact va_alen hx hb hKk hP i 0 (j_w_get hf) (j_tys_get rfl) rfl hd (hK _ _ _ _ hS p l e R s m args below meth c D T A N ad0 mc ms hX ad H locs cells slots ls hI)
  · exact hS.elim
/-- a row's number is read, the row told by its place -/
theorem J.iald {M : j_M} {Φ : j_F} {bc bs pc : Nat} {lv : j_L} {r : List Value} {h : j_H} {i n : Nat} {x : Int32} {f : Nat → Int32} (hd : decode (jm_b M) pc = .ok (.iaload, 1)) (h1 : h[i]? = some (.inl (0, n, .inl f))) (hin : vp_in x n)
    (k : J M Φ bc bs (pc + 1) lv (.int (f x.toNatClampNeg) :: r) h) : J M Φ bc bs pc lv (.int x :: .ref i :: r) h := by
  refine s_iald hd Φ bc bs (J M Φ bc bs) (fun _ _ _ _ q => q) _ _ _ ?_
  show j_ia 0 h i (fun n f => vp_in x n ∧ J M Φ bc bs (pc + 1) lv (.int (f x.toNatClampNeg) :: r) h)
  unfold j_ia
  rw [j_nth_eq, h1]
  exact ⟨hin, k⟩
theorem J.iast {M : j_M} {Φ : j_F} {bc bs pc : Nat} {lv : j_L} {r : List Value} {h : j_H} {i n : Nat} {x y : Int32} {f : Nat → Int32} (hd : decode (jm_b M) pc = .ok (.iastore, 1)) (h1 : h[i]? = some (.inl (0, n, .inl f))) (hin : vp_in x n)
    (k : J M Φ bc bs (pc + 1) lv r (h.set i (.inl (0, n, .inl (upd f x.toNatClampNeg y))))) : J M Φ bc bs pc lv (.int y :: .int x :: .ref i :: r) h := by
  refine s_iast hd Φ bc bs (J M Φ bc bs) (fun _ _ _ _ q => q) _ _ _ ?_
  show j_ia 0 h i (fun n f => vp_in x n ∧ j_setk h i (.inl (0, n, .inl (upd f x.toNatClampNeg y))) (fun h' => J M Φ bc bs (pc + 1) lv r h'))
  unfold j_ia
  rw [j_nth_eq, h1]
  refine ⟨hin, ?_⟩
  rw [j_setk_eq]
  exact k
