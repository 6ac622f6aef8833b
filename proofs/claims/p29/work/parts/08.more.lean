/-! More instructions: Math.min, System.arraycopy of whole rows, a static row read at a local, switches, the bits of a double. -/
theorem j_cat_sum (ad : Nat → Nat) (r : List Value) : ((r.map (j_v ad)).map fun v => v.category).sum = (r.map fun v => v.category).sum := by
  rw [List.map_map]
  exact congrArg List.sum (List.map_congr_left fun v _ => j_v_cat ad v)
def e_min (nx : Nat) : j_T := fun _ _ _ K lv st h => match st with
  | .int y :: .int x :: r => (r.map fun v => v.category).sum ≤ 8 ∧ K nx lv (.int (if y < x then y else x) :: r) h
  | _ => False
theorem s_min {M : j_M} {pc idx : Nat} (h1 : Cond.methodLink (jm_o M) idx Lib.Math.min.name ∈ j_ws) (h2 : Cond.static Lib.Math.min.name ∈ j_ws) (h3 : Cond.initialized "java/lang/Math" ∈ j_ws) (h4 : Cond.code Lib.Math.min.name Lib.Math.min.code 2 (some .int) ∈ j_ws) (hf : 1 ≤ jm_f M) (hlo9 : 21 ≤ jm_l M) (hd : decode (jm_b M) pc = .ok (.invokestatic idx, 3)) : Snd M pc (e_min (pc + 3)) := by
  intro Φ bc bs K hK lv st h hS
  unfold e_min at hS
  split at hS
  · rename_i y x r
    obtain ⟨hcat, hS⟩ := hS
    intro p l e R s m args below meth c D T A N ad0 mc ms hX ad H locs cells slots ls hI
    obtain ⟨hx, hb, hml, hown, hts, hret, hlk, hKk, hst, hfr, hlo, hmc, hms, hA, hSx, htb, hnm, hsc⟩ := id hX
    obtain ⟨hc, hs, hl, hP, hD, hSS, hN, hAl⟩ := id hI
    refine va_mmin hx hb (hml.trans hl.1.symm) hown (hts _ h1) (hts _ h2) (hts _ h3) (hts _ h4) (Nat.le_trans hf hfr) ?_ (by omega) (by omega) hd ?_
    · have := j_cat_sum ad r
      omega
    · exact hK _ _ _ _ hS p l e R s m args below meth c D T A N ad0 mc ms hX ad H locs cells slots ls hI
  · exact hS.elim
theorem j_arr_ext {c : ClassId} {n : Nat} {f g : Nat → Value} (h : ∀ j, j < n → f j = g j) : arrV c n f = arrV c n g := by
  unfold arrV
  congr 1
  apply Array.ext
  · simp
  · intro j h1 h2
    simp only [Array.getElem_ofFn]
    exact h j (by simpa using h1)
def e_acpy (nx : Nat) : j_T := fun _ _ _ K lv st h => match st with
  | [.int n, .int dp, .ref a, .int sp, .ref a0] => j_ia 0 h a0 (fun n0 f => j_ia 0 h a (fun n1 _ => sp = 0 ∧ dp = 0 ∧ ¬ n < 0 ∧ n.toNatClampNeg = n1 ∧ n1 ≤ n0 ∧ j_setk h a (.inl (0, n1, .inl f)) (fun h' => K nx lv [] h')))
  | _ => False
theorem s_acpy {M : j_M} {pc idx : Nat} (h1 : Cond.methodLink (jm_o M) idx arraycopyName ∈ j_ws) (h2 : Cond.native arraycopyName ∈ j_ws) (h3 : Cond.static arraycopyName ∈ j_ws) (h4 : Cond.initialized "java/lang/System" ∈ j_ws) (hf : 1 ≤ jm_f M) (hlo9 : nativeFrameWords "java/lang/System" "arraycopy" 5 + 11 ≤ jm_l M) (hd : decode (jm_b M) pc = .ok (.invokestatic idx, 3)) : Snd M pc (e_acpy (pc + 3)) := by
  intro Φ bc bs K hK lv st h hS
  unfold e_acpy at hS
  split at hS
  · rename_i n dp a sp a0
    obtain ⟨n0, f, hf0, hS⟩ := j_ia_inv hS
    obtain ⟨n1, g, hg0, rfl, rfl, g3, g4, g5, hS⟩ := j_ia_inv hS
    rw [j_setk_eq] at hS
    intro p l e R s m args below meth c D T A N ad0 mc ms hX ad H locs cells slots ls hI
    obtain ⟨hx, hb, hml, hown, hts, hret, hlk, hKk, hst, hfr, hlo, hmc, hms, hA, hSx, htb, hnm, hsc⟩ := id hX
    obtain ⟨hc, hs, hl, hP, hD, hSS, hN, hAl⟩ := id hI
    refine va_copyi (ty := .int) hx hb (hml.trans hl.1.symm) hown (hts _ h1) (hts _ h2) (hts _ h3) (hts _ h4) hKk hP hD hSS a0 a 0 0 (j_w_get hf0) (j_w_get hg0) (j_tys_get rfl) (j_tys_get rfl) rfl (by decide) (by decide) g3 (by rw [g4]; show 0 + n1 ≤ n0; omega) (by rw [g4]; show 0 + n1 ≤ n1; omega) (fun _ _ => rfl) (Nat.le_trans hf hfr) (by show 0 + _ ≤ _; omega) hd (fun H1 locs1 hP1 hD1 hS1 => ?_)
    refine hK _ _ _ _ hS p l e R s m args below meth c D T A N ad0 mc ms hX ad H1 locs1 cells slots ls (j_I.world hI (c := .inl (0, n1, .inl f)) rfl ?_ ?_ hS1)
    · intro k q hq
      by_cases hk : k = a
      · subst hk
        have hlt : k < (j_w T ad h).length := by rw [j_w_len]; exact (List.getElem?_eq_some_iff.mp hg0).1
        rw [List.getElem?_set_self hlt] at hq
        cases hq
        have h9 := hP1 k (ad k, .inl (T 0, n1, .inl (va_cpy f g (0 : Int32).toNatClampNeg (0 : Int32).toNatClampNeg n.toNatClampNeg))) (List.getElem?_set_self hlt)
        have h8 : H1[ad k]? = some (arrV (T 0) n1 (fun j => .int (va_cpy f g (0 : Int32).toNatClampNeg (0 : Int32).toNatClampNeg n.toNatClampNeg j))) := h9
        show H1[ad k]? = some (arrV (T 0) n1 (fun j => .int (f j)))
        rw [h8]
        refine congrArg some (j_arr_ext fun j hj => ?_)
        show Value.int (if 0 ≤ j ∧ j < 0 + n.toNatClampNeg then f (0 + (j - 0)) else g j) = _
        rw [if_pos ⟨Nat.zero_le _, by omega⟩]
        rw [Nat.zero_add, Nat.sub_zero]
      · rw [List.getElem?_set_ne (Ne.symm hk)] at hq
        exact hP1 k q (by rw [List.getElem?_set_ne (Ne.symm hk)]; exact hq)
    · exact hD.set (j_w_get hg0)
  · exact hS.elim
/-- getstatic of a row; a local; iaload -/
def e_gsld (n : Nat) (f : Nat → Int32) (i nx : Nat) : j_T := fun _ _ _ K lv st h => match j_look i lv with
  | some (.int x) => vp_in x n ∧ K nx lv (.int (f x.toNatClampNeg) :: st) h
  | _ => False
theorem s_gsld {M : j_M} {pc idx : Nat} {k : Fin 4} {nm : String} {n : Nat} {f : Nat → Int32} (hq : (nm, n, f) ∈ j_sta) (hw : Cond.fieldLink (jm_o M) idx "VaneVotes" nm "[I" ∈ j_ws) (hd0 : decode (jm_b M) pc = .ok (.getstatic idx, 3)) (hd3 : decode (jm_b M) (pc + 3) = .ok (.iload_n k, 1)) (hd4 : decode (jm_b M) (pc + 4) = .ok (.iaload, 1)) : Snd M pc (e_gsld n f k (pc + 5)) := by
  intro Φ bc bs K hK lv st h hS
  unfold e_gsld at hS
  split at hS
  · rename_i x hg
    obtain ⟨hin, hS⟩ := hS
    intro p l e R s m args below meth c D T A N ad0 mc ms hX ad H locs cells slots ls hI
    obtain ⟨hx, hb, hml, hown, hts, hret, hlk, hKk, hst, hfr, hlo, hmc, hms, hA, hSx, htb, hnm, hsc⟩ := id hX
    obtain ⟨hc, hs, hl, hP, hD, hSS, hN, hAl⟩ := id hI
    obtain ⟨t, hZ, cell, c1, c2, c3, c4, c5, c6, c7⟩ := hSx.2.2.2.1 _ hq
    refine va_gets hx hb hZ hSS hown (hts _ hw) (fun _ h9 => h9) hd0 ?_
    refine lv_iload_n hx hb hd3 rfl (j_lget hl hg) ?_
    have hlt : x.toNatClampNeg < n := Nat.not_le.mp fun q => hin (Or.inr q)
    refine W.iald (v := .int (f x.toNatClampNeg)) hx hb (by rw [hSS.2.1 t (Array.getElem?_eq_some_iff.mp c1).1 c7]; exact c1) c2 c3 (fun h => by
      rcases h with h | h
      · exact hin (Or.inl h)
      · exact absurd (Nat.le_trans c4 h) (Nat.not_le.mpr hlt)) (c6 _ hlt) rfl rfl hd4 ?_
    exact hK _ _ _ _ hS p l e R s m args below meth c D T A N ad0 mc ms hX ad H locs cells slots ls hI
  · exact hS.elim
def j_sw (x : Int32) (d : Nat) (k : Nat → Prop) : List (Int32 × Nat) → Prop
  | [] => k d
  | q :: r => (x = q.1 → k q.2) ∧ (¬ x = q.1 → j_sw x d k r)
theorem j_sw_inv {x : Int32} {d : Nat} {k : Nat → Prop} : ∀ (l : List (Int32 × Nat)), j_sw x d k l → (∃ q ∈ l, x = q.1 ∧ k q.2) ∨ ((∀ q ∈ l, x ≠ q.1) ∧ k d)
  | [], h => Or.inr ⟨(fun _ h9 => by cases h9), h⟩
  | q :: r, h => by
    by_cases e : x = q.1
    · exact Or.inl ⟨q, List.mem_cons_self, e, h.1 e⟩
    · rcases j_sw_inv r (h.2 e) with ⟨z, h1, h2⟩ | ⟨h1, h2⟩
      · exact Or.inl ⟨z, List.mem_cons_of_mem _ h1, h2⟩
      · exact Or.inr ⟨fun z hz => by
          rcases List.mem_cons.mp hz with rfl | hz
          · exact e
          · exact h1 z hz, h2⟩
def e_tsw (l : List (Int32 × Nat)) (d : Nat) : j_T := fun _ _ _ K lv st h => match st with
  | .int x :: r => j_sw x d (fun t => K t lv r h) l
  | _ => False
theorem s_tsw {M : j_M} {pc len d : Nat} {l : List (Int32 × Nat)} {dflt lo hi : Int} {offs : Array Int} (hd : decode (jm_b M) pc = .ok (.tableswitch dflt lo hi offs, len)) (h1 : ∀ q ∈ l, lo ≤ q.1.toInt ∧ q.1.toInt ≤ hi ∧ (offs[(q.1.toInt - lo).toNat]?).map (fun o => (pc : Int) + o) = some (q.2 : Int))
    (h2 : ∀ k : Nat, k < (hi - lo + 1).toNat → ∃ q ∈ l, q.1.toInt = lo + k) (h3 : (pc : Int) + dflt = (d : Int)) : Snd M pc (e_tsw l d) := by
  intro Φ bc bs K hK lv st h hS
  unfold e_tsw at hS
  split at hS
  · rename_i x r
    intro p l9 e R s m args below meth c D T A N ad0 mc ms hX ad H locs cells slots ls hI
    obtain ⟨hx, hb, hml, hown, hts, hret, hlk, hKk, hst, hfr, hlo, hmc, hms, hA, hSx, htb, hnm, hsc⟩ := id hX
    rcases j_sw_inv l hS with ⟨q, hq, rfl, hS2⟩ | ⟨hne, hS2⟩
    · obtain ⟨g1, g2, g3⟩ := h1 q hq
      cases ho : offs[(q.1.toInt - lo).toNat]? with
      | none => rw [ho] at g3; cases g3
      | some o =>
        rw [ho] at g3
        exact lv_tableIn hx hb hd (by omega) (by omega) ho (Option.some.inj g3) (hK _ _ _ _ hS2 p l9 e R s m args below meth c D T A N ad0 mc ms hX ad H locs cells slots ls hI)
    · refine lv_tableOut hx hb hd ?_ h3 (hK _ _ _ _ hS2 p l9 e R s m args below meth c D T A N ad0 mc ms hX ad H locs cells slots ls hI)
      by_cases hin : x.toInt < lo ∨ hi < x.toInt
      · exact hin
      · exfalso
        obtain ⟨q, hq, e1⟩ := h2 (x.toInt - lo).toNat (by omega)
        exact hne q hq (Int32.toInt_inj.mp (by omega))
  · exact hS.elim
def e_d2raw (nx : Nat) : j_T := fun _ _ _ K lv st h => match st with
  | .double b :: r => (r.map fun v => v.category).sum ≤ 8 ∧ K nx lv (.long b.toInt64 :: r) h
  | _ => False
theorem s_d2raw {M : j_M} {pc idx : Nat} (h1 : Cond.methodLink (jm_o M) idx ⟨"java/lang/Double", "doubleToRawLongBits", "(D)J"⟩ ∈ j_ws) (h2 : Cond.native ⟨"java/lang/Double", "doubleToRawLongBits", "(D)J"⟩ ∈ j_ws) (h3 : Cond.static ⟨"java/lang/Double", "doubleToRawLongBits", "(D)J"⟩ ∈ j_ws) (h4 : Cond.initialized "java/lang/Double" ∈ j_ws) (hf : 1 ≤ jm_f M) (hlo9 : 23 ≤ jm_l M) (hd : decode (jm_b M) pc = .ok (.invokestatic idx, 3)) : Snd M pc (e_d2raw (pc + 3)) := by
  intro Φ bc bs K hK lv st h hS
  unfold e_d2raw at hS
  split at hS
  · rename_i b r
    obtain ⟨hcat, hS⟩ := hS
    intro p l e R s m args below meth c D T A N ad0 mc ms hX ad H locs cells slots ls hI
    obtain ⟨hx, hb, hml, hown, hts, hret, hlk, hKk, hst, hfr, hlo, hmc, hms, hA, hSx, htb, hnm, hsc⟩ := id hX
    obtain ⟨hc, hs, hl, hP, hD, hSS, hN, hAl⟩ := id hI
    refine vn_d2l hx hb (hml.trans hl.1.symm) hown (hts _ h1) (hts _ h2) (hts _ h3) (hts _ h4) (Nat.le_trans hf hfr) ?_ hd ?_
    · have := j_cat_sum ad r
      omega
    · exact hK _ _ _ _ hS p l e R s m args below meth c D T A N ad0 mc ms hX ad H locs cells slots ls hI
  · exact hS.elim
