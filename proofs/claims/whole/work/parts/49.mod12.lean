/-! The model's operations. -/
theorem mRec_rel {S : aS} {t : mT} {z a sd sl kp tx : Nat → Int32} (h : mRl S t z (a, sd, sl, kp, tx)) (u : Int32) : mRl (sS S) (u, nI (if S.2.2.1.length = 6 then 6 else S.2.2.1.length + 1), t.2.2) z (a, mRec S.2.2.1.length z sd, sl, kp, tx) := by
  obtain ⟨h1, h2, ⟨h3, h4, h5⟩, h6⟩ := h
  have hl : (sS S).2.2.1.length = if S.2.2.1.length = 6 then 6 else S.2.2.1.length + 1 := by
    show ((S.1 :: S.2.2.1).take 6).length = _
    rw [List.length_take, List.length_cons]
    split <;> omega
  refine ⟨h1, h2, ⟨by rw [hl], by rw [hl]; split <;> omega, fun i B e => ?_⟩, h6⟩
  rw [hl]
  have e : ((S.1 :: S.2.2.1).take 6)[i]? = some B := e
  have hi : i < 6 := by
    have := (List.getElem?_eq_some_iff.mp e).1
    rw [List.length_take] at this
    omega
  rw [List.getElem?_take, if_pos hi] at e
  cases i with
  | zero =>
    cases e
    refine mG_z (fun j hj => ?_) h1
    show mRec S.2.2.1.length z sd (150 * ((if S.2.2.1.length = 6 then 6 else S.2.2.1.length + 1) - 1 - 0) + j) = z j
    unfold mRec
    by_cases q : S.2.2.1.length = 6
    · rw [if_pos q, if_pos q]
      show (if 750 ≤ 150 * (6 - 1 - 0) + j ∧ 150 * (6 - 1 - 0) + j < 750 + 150 then z (150 * (6 - 1 - 0) + j - 750) else _) = z j
      rw [if_pos (by omega), show 150 * (6 - 1 - 0) + j - 750 = j by omega]
    · rw [if_neg q, if_neg q]
      show (if 150 * S.2.2.1.length ≤ 150 * (S.2.2.1.length + 1 - 1 - 0) + j ∧ 150 * (S.2.2.1.length + 1 - 1 - 0) + j < 150 * S.2.2.1.length + 150 then z (150 * (S.2.2.1.length + 1 - 1 - 0) + j - 150 * S.2.2.1.length) else _) = z j
      rw [if_pos (by omega), show 150 * (S.2.2.1.length + 1 - 1 - 0) + j - 150 * S.2.2.1.length = j by omega]
  | succ i =>
    have e : S.2.2.1[i]? = some B := e
    have hil := (List.getElem?_eq_some_iff.mp e).1
    refine mG_z (fun j hj => ?_) (h5 i B e)
    show mRec S.2.2.1.length z sd (150 * ((if S.2.2.1.length = 6 then 6 else S.2.2.1.length + 1) - 1 - (i + 1)) + j) = sd (150 * (S.2.2.1.length - 1 - i) + j)
    unfold mRec
    by_cases q : S.2.2.1.length = 6
    · rw [if_pos q, if_pos q, q]
      show (if 750 ≤ 150 * (6 - 1 - (i + 1)) + j ∧ 150 * (6 - 1 - (i + 1)) + j < 750 + 150 then _ else (if 150 * (6 - 1 - (i + 1)) + j < 750 then sd (150 + (150 * (6 - 1 - (i + 1)) + j)) else sd (150 * (6 - 1 - (i + 1)) + j))) = _
      rw [if_neg (by omega), if_pos (by omega), show 150 + (150 * (6 - 1 - (i + 1)) + j) = 150 * (6 - 1 - i) + j by omega]
    · rw [if_neg q, if_neg q]
      show (if 150 * S.2.2.1.length ≤ 150 * (S.2.2.1.length + 1 - 1 - (i + 1)) + j ∧ 150 * (S.2.2.1.length + 1 - 1 - (i + 1)) + j < 150 * S.2.2.1.length + 150 then _ else sd (150 * (S.2.2.1.length + 1 - 1 - (i + 1)) + j)) = _
      rw [if_neg (by omega), show 150 * (S.2.2.1.length + 1 - 1 - (i + 1)) + j = 150 * (S.2.2.1.length - 1 - i) + j by omega]
/-- what a call of the model gives -/
def mQ (res : aR) : j_F := fun o h' => o = .inl (some (.int res.2.2)) ∧ ∃ t z r, t.1 = nI res.1 ∧ mRl res.2.1 t z r ∧ h' = mw t z r
theorem mRl_t {S : aS} {t : mT} {z : Nat → Int32} {r : mR} (h : mRl S t z r) (u : Int32) : mRl S (u, t.2) z r := h
theorem mQ_e {res : aR} {S : aS} {n : Nat} {t : mT} {z : Nat → Int32} {r : mR} (h : mRl S t z r) (e : res = (n, S, 0)) (ht : t.1 = nI n) : mQ res (.inl (some (.int 0))) (mw t z r) := by
  subst e
  exact ⟨rfl, t, z, r, ht, h, rfl⟩
theorem mQ_0 {res : aR} {S : aS} {t : mT} {z : Nat → Int32} {r : mR} {v w : Int32} {h' : j_H} (e : res = (0, S, v)) (h : mRl S t z r) (ht : t.1 = 0) (ev : w = v) (eh : h' = mw t z r) : mQ res (.inl (some (.int w))) h' := by
  subst e ev eh
  exact ⟨rfl, t, z, r, ht, h, rfl⟩
/-- the state is recorded -/
theorem J.rec {M : j_M} {Φ : j_F} {bc bs pc idx : Nat} {lv : j_L} {st : List Value} (rest : List Value) {S : aS} {t : mT} {z : Nat → Int32} {r : mR} (h : mRl S t z r) (hk : j_kV MX4_record 0) (hl : Cond.methodLink (jm_o M) idx (jm_y MX4_record) ∈ j_ws) (hd : decode (jm_b M) pc = .ok (.invokevirtual idx, 3)) (hR : jm_f MX4_record + 1 ≤ jm_f M ∧ 8 + (jm_n MX4_record + 11) + jm_l MX4_record ≤ jm_l M ∧ jm_a MX4_record = false)
    (hst : st = .ref 0 :: rest) (hcat : (rest.map fun v => v.category).sum ≤ 8) (k : ∀ sv sd, mRl (sS S) (t.1, sv, t.2.2) z (r.1, sd, r.2.2) → J M Φ bc bs (pc + 3) lv rest (mw (t.1, sv, t.2.2) z (r.1, sd, r.2.2))) : J M Φ bc bs pc lv st (mw t z r) := by
  obtain ⟨a, sd, sl, kp, tx⟩ := r
  have hs : t.2.1 = nI S.2.2.1.length := h.2.2.1.1
  have h6 := h.2.2.1.2.1
  have hR' := mRec_rel h t.1
  obtain ⟨t0, sv, ln, hr⟩ := t
  have hs : sv = nI S.2.2.1.length := hs
  subst hs hst
  refine J.callM rest (as := []) (c_X4_record h6) hk hl hd hR rfl rfl hcat rfl ?_
  exact k _ _ hR'
