/-! Grinding by hours, the class at its start, calls with handlers. -/
def sGx (A : aV) (m o x : Nat) (l : aL) : aV := (A.1, v_sd A, v_sg A, v_vn A, v_se A, (fun j => if j = m then (m_sp (v_ml A j), m_gr (v_ml A j) + x, l) else v_ml A j), (fun k => if k = o then v_fl A k + x else v_fl A k), v_br A, v_tk A)
def sGr (A : aV) (m n : Nat) : aV := (A.1, v_sd A, v_sg A, v_vn A, v_se A, (fun j => if j = m then mGr n (v_ml A j) else v_ml A j), (fun k => v_fl A k + grF k n (v_lo A m)), v_br A, v_tk A)
theorem n_addneg {a b : Nat} (h : b ≤ a) : nI a + -nI b = nI (a - b) := by rw [← Int32.sub_eq_add_neg, pk_sub h]
theorem lo_c0 (q : Nat × Nat) (t : aL) : lo_o (q :: t) 0 = q.1 ∧ lo_s (q :: t) 0 = q.2 := ⟨rfl, rfl⟩
theorem lo_cs (q : Nat × Nat) (t : aL) (k : Nat) : lo_o (q :: t) (k + 1) = lo_o t k ∧ lo_s (q :: t) (k + 1) = lo_s t k := ⟨rfl, rfl⟩
theorem grS_c {n : Nat} {q : Nat × Nat} {t : aL} : grS n (q :: t) = min n (q.2 + swt t) := by
  unfold grS
  rw [swt_c]
def aH (A : aV) : Nat → aV
  | 0 => A
  | m + 1 => sGr (aH A m) m (rat A m (v_ho A))
theorem sGr_rat (A : aV) (m n j h : Nat) : rat (sGr A m n) j h = rat A j h := by
  have e : m_sp (v_ml (sGr A m n) j) = m_sp (v_ml A j) := by
    show m_sp (if j = m then mGr n (v_ml A j) else v_ml A j) = _
    by_cases q : j = m
    · rw [if_pos q]
      rfl
    · rw [if_neg q]
  have e2 : trn (sGr A m n) h = trn A h := rfl
  unfold rat
  rw [e, e2]
  rfl
theorem sGr_ok {A : aV} (h : vOk A) (m n : Nat) : vOk (sGr A m n) := by
  obtain ⟨h1, h2, h3, h4, h5, h6⟩ := h
  refine ⟨h1, h2, h3, h4, h5, fun j hj => ?_⟩
  have h6 := h6 j hj
  show mOk (if j = m then mGr n (v_ml A j) else v_ml A j)
  by_cases q : j = m
  · rw [if_pos q]
    exact mGr_ok h6
  · rw [if_neg q]
    exact h6
theorem aH_ok {A : aV} (h : vOk A) : ∀ m, vOk (aH A m)
  | 0 => h
  | m + 1 => sGr_ok (aH_ok h m) _ _
theorem aH_rat (A : aV) (j h : Nat) : ∀ m, rat (aH A m) j h = rat A j h
  | 0 => rfl
  | m + 1 => (sGr_rat _ _ _ _ _).trans (aH_rat A j h m)
theorem aH_1 (A : aV) : ∀ m, (aH A m).1 = A.1
  | 0 => rfl
  | m + 1 => aH_1 A m
theorem aH_ml (A : aV) (j : Nat) : ∀ m, v_ml (aH A m) j = if j < m then mGr (rat A j (v_ho A)) (v_ml A j) else v_ml A j
  | 0 => rfl
  | m + 1 => by
    show (if j = m then mGr (rat A m (v_ho A)) (v_ml (aH A m) j) else v_ml (aH A m) j) = _
    rw [aH_ml A j m]
    by_cases q : j = m
    · rw [if_pos q, if_neg (by omega), if_pos (by omega), q]
    · rw [if_neg q]
      by_cases q2 : j < m
      · rw [if_pos q2, if_pos (by omega)]
      · rw [if_neg q2, if_neg (by omega)]
theorem aH_lo (A : aV) (m : Nat) : v_lo (aH A m) m = v_lo A m := by
  show m_lo (v_ml (aH A m) m) = _
  rw [aH_ml, if_neg (Nat.lt_irrefl m)]
theorem aH_vdi (A : aV) (h : Nat) : ∀ m, vdi (aH A m) h = vdi A h
  | 0 => rfl
  | m + 1 => aH_vdi A h m
theorem grF_add (o : Nat) : ∀ (l : aL) (a b : Nat), grF o (a + b) l = grF o a l + grF o b (grL a l)
  | [], _, _ => rfl
  | q :: t, a, b => by
    rw [grF_c, grF_c, grL_c]
    by_cases h0 : a = 0
    · rw [if_pos h0, h0, Nat.zero_add, Nat.zero_min, Nat.zero_sub, grF_0, grF_c]
      by_cases e : q.1 = o
      · rw [if_pos e, if_pos e]
        omega
      · rw [if_neg e, if_neg e]
        omega
    · rw [if_neg h0]
      by_cases h1 : a < q.2
      · rw [if_pos h1, show a - q.2 = 0 by omega, grF_0, grF_c]
        show (if q.1 = o then min (a + b) q.2 else 0) + grF o (a + b - q.2) t = (if q.1 = o then min a q.2 else 0) + 0 + ((if q.1 = o then min b (q.2 - a) else 0) + grF o (b - (q.2 - a)) t)
        rw [show a + b - q.2 = b - (q.2 - a) by omega]
        by_cases e : q.1 = o
        · rw [if_pos e, if_pos e, if_pos e]
          omega
        · rw [if_neg e, if_neg e, if_neg e]
          omega
      · rw [if_neg h1, show a + b - q.2 = a - q.2 + b by omega, grF_add o t (a - q.2) b]
        by_cases e : q.1 = o
        · rw [if_pos e, if_pos e]
          omega
        · rw [if_neg e, if_neg e]
          omega
theorem hr1_ratv {A : aV} (m h : Nat) : rat (hr1 A) m h = rat A m h := rfl
theorem hr1_cum {A : aV} (h : v_ho A < 24) (m n : Nat) : cum A m (n + 1) = rat A m (v_ho A) + cum (hr1 A) m n := by
  have e := sumN_add (fun k => rat A m ((v_ho A + k) % 24)) 1 n
  rw [Nat.add_comm 1 n] at e
  show sumN (fun k => rat A m ((v_ho A + k) % 24)) (n + 1) = rat A m (v_ho A) + sumN (fun k => rat (hr1 A) m ((v_ho (hr1 A) + k) % 24)) n
  rw [e]
  congr 1
  · show 0 + rat A m ((v_ho A + 0) % 24) = _
    rw [Nat.zero_add, Nat.add_zero, Nat.mod_eq_of_lt h]
  · refine sumN_congr _ (fun k _ => ?_)
    rw [hr1_ratv]
    show _ = rat A m (((if v_ho A = 23 then 0 else v_ho A + 1) + k) % 24)
    congr 1
    split <;> omega
theorem fl_hrs : ∀ (n : Nat) {A : aV} (_ : v_ho A < 24) (o : Nat), v_fl (hrs n A) o = v_fl A o + pF A o n 3
  | 0, A, _, o => by
    show v_fl A o = v_fl A o + (0 + grF o 0 (v_lo A 0) + grF o 0 (v_lo A 1) + grF o 0 (v_lo A 2))
    rw [grF_0, grF_0, grF_0]
    rfl
  | n + 1, A, h, o => by
    have h' : v_ho (hr1 A) < 24 := by
      show (if v_ho A = 23 then 0 else v_ho A + 1) < 24
      split <;> omega
    show v_fl (hrs n (hr1 A)) o = _
    rw [fl_hrs n h' o]
    show v_fl A o + (grF o (rat A 0 (v_ho A)) (v_lo A 0) + grF o (rat A 1 (v_ho A)) (v_lo A 1) + grF o (rat A 2 (v_ho A)) (v_lo A 2)) + (0 + grF o (cum (hr1 A) 0 n) (grL (rat A 0 (v_ho A)) (v_lo A 0)) + grF o (cum (hr1 A) 1 n) (grL (rat A 1 (v_ho A)) (v_lo A 1)) + grF o (cum (hr1 A) 2 n) (grL (rat A 2 (v_ho A)) (v_lo A 2))) = v_fl A o + (0 + grF o (cum A 0 (n + 1)) (v_lo A 0) + grF o (cum A 1 (n + 1)) (v_lo A 1) + grF o (cum A 2 (n + 1)) (v_lo A 2))
    rw [hr1_cum h, hr1_cum h, hr1_cum h, grF_add, grF_add, grF_add]
    omega
theorem ix_in {a : Int32} {n : Nat} (hn : n + 1 < 2 ^ 31) : (a < nI 0 ∨ nI n < a) ↔ (a < 0 ∨ nI (n + 1) ≤ a) := by
  rcases pk_ix a hn with w | w | ⟨j, hj, rfl⟩
  · exact ⟨fun _ => Or.inl w, fun _ => Or.inl w⟩
  · exact ⟨fun _ => Or.inr w, fun _ => Or.inr (Int32.lt_of_lt_of_le ((n_lt (by omega) (by omega)).mpr (Nat.lt_succ_self n)) w)⟩
  · constructor
    · rintro (w | w)
      · exact absurd ((n_lt (a := j) (b := 0) (by omega) (by decide)).mp w) (Nat.not_lt_zero j)
      · exact absurd ((n_lt (a := n) (b := j) (by omega) (by omega)).mp w) (by omega)
    · rintro (w | w)
      · exact absurd ((n_lt (a := j) (b := 0) (by omega) (by decide)).mp w) (Nat.not_lt_zero j)
      · exact absurd ((n_le (a := n + 1) (b := j) (by omega) (by omega)).mp w) (by omega)
theorem hrs_go : ∀ (n : Nat) (A : aV), v_go (hrs n A) = v_go A + n
  | 0, _ => rfl
  | n + 1, A => by
    show v_go (hrs n (hr1 A)) = v_go A + (n + 1)
    rw [hrs_go n]
    show v_go A + 1 + n = _
    omega
theorem v_lo_sml (A : aV) (m : Nat) (l : aL) : v_lo (sml A m l) m = l := by
  show m_lo (if m = m then _ else _) = l
  rw [if_pos rfl]
theorem shD_nan : ∀ n, n < 25 → Op.cmpValue (FP.dcmp (shD n) (shD n)) .l = 0 := by decide +kernel
theorem JX.catchN {M : j_M} {Φ : j_F} {bc bs pc i : Nat} {kf : Fin 4} {lv lv' : j_L} {h : j_H} {E : String} (pre : List ExceptionTableEntry) (x : ExceptionTableEntry) (suf : List ExceptionTableEntry) (hsplit : tableOf (jm_h M) = pre ++ x :: suf)
    (hpass : ∀ z ∈ pre, covers z pc = false ∨ (z.catchType ≠ 0 ∧ ∃ nm : String, Cond.classLink (jm_o M) z.catchType nm ∈ j_ws ∧ (E, nm) ∈ j_nc)) (hcov : covers x pc = true) (h0 : x.catchType ≠ 0) (hlink : Cond.classLink (jm_o M) x.catchType E ∈ j_ws) (hE : E ∈ j_cs)
    (hd : decode (jm_b M) x.handlerPc = .ok (.astore_n kf, 1)) (hkf : (kf : Nat) = i) (hi : i < jm_n M) (hlv' : ∀ q ∈ lv', q ∈ lv.filter (j_k1 i)) (kk : J M Φ bc bs (x.handlerPc + 1) lv' [] h) : JX M Φ bc bs pc lv h E := by
  intro p l e R s m args below meth c D T A N ad0 mc ms hX ad H locs cells slots ls hI rest q ce hq hv hcl
  obtain ⟨hx, hb, hml, hown, hts, hret, hlk, hKk, hstk, hfr, hlo, hmc, hms, hA, hSx, htb, hnm, hsc⟩ := id hX
  obtain ⟨hc, hs, hlv, hP, hD, hSS, hN, hAl⟩ := id hI
  obtain ⟨u1, u2, u3, u4⟩ := hSx.2.2.2.2
  refine vx_catch hown pre x suf (htb.trans hsplit) (fun z hz => ?_) hcov h0 (hts _ hlink) (va_Nw.use rfl (u2 E hE)) hq hv hcl ?_
  · rcases hpass z hz with h | ⟨h1, nm, h2, h3⟩
    · exact Or.inl h
    · exact Or.inr ⟨h1, nm, hts _ h2, u3 _ h3⟩
  · refine lv_astore_n hx hb hd hkf hlv hi (congrArg _ (j_l_k1 ad i lv)) (fun ls' hl' => ?_)
    exact kk p l e R s m args below meth c D T A N ad0 mc ms hX ad H locs cells slots ls' (j_I.put hI ⟨hl'.1, hl'.2.1, fun z hz => hl'.2.2 z (List.mem_cons_of_mem _ (by
      obtain ⟨z0, h1, rfl⟩ := List.mem_map.mp hz
      exact List.mem_map.mpr ⟨z0, hlv' z0 h1, rfl⟩))⟩)
/-- a call of a static method with handlers, the whole world handed on -/
theorem J.callHI {M M' : j_M} {Φ Φ' : j_F} {bc bs : Nat} (bc1 bs1 : Nat) {mc1 ms1 pc idx n : Nat} {lv : j_L} {st : List Value} (rest : List Value) {as : List Value} {h : j_H}
    (hC : Ct M' mc1 ms1 as h Φ') (hk : j_kH M' n) (hl : Cond.methodLink (jm_o M) idx (jm_y M') ∈ j_ws) (hd : decode (jm_b M) pc = .ok (.invokestatic idx, 3)) (hRf : jm_f M' + 1 ≤ jm_f M) (hRl : 8 + (jm_n M' + 11) + jm_l M' ≤ jm_l M)
    (ha : jm_a M' = false) (hn : as.length = n) (hst9 : st = as.reverse ++ rest) (hcat : (rest.map fun v => v.category).sum ≤ 8) (hb1 : bc1 + mc1 ≤ bc) (hb2 : bs1 + ms1 ≤ bs)
    (kk : ∀ v h', Φ' (.inl v) h' → h'.length = h.length ∧ J M Φ bc1 bs1 (pc + 3) lv (v.toList ++ rest) h')
    (kx : ∀ E h', Φ' (.inr E) h' → h'.length = h.length ∧ JX M Φ bc1 bs1 pc lv h' E) : J M Φ bc bs pc lv st h := by
  intro p l e R s m args below meth c D T A N ad0 mc ms hX ad H locs cells slots ls hI
  obtain ⟨hx, hb, hml, hown, hts, hret, hlk, hKk, hstk, hfr, hlo, hmc, hms, hA, hSx, htb, hnm, hsc⟩ := id hX
  obtain ⟨hc, hs, hlv, hP, hD, hSS, hN, hAl⟩ := id hI
  obtain ⟨k1, k2, k3, k5, k6, k7, k8⟩ := hk
  have hM := hC l hstk D T ad H.size
  have hsub : ∀ q, va_A (j_w T ad h) H.size q → A q := by
    intro q hq
    rcases hq with ⟨k, e9, hk⟩ | hq
    · exact hD.2 k _ hk
    · exact hA q (Nat.le_trans hSS.1 hq)
  have hGd : GoodIn j_ws (va_wsS (jm_o M) idx (jm_y M') (j_mw M')) := j_goodL hl (j_goodL k3 (j_goodL k5 (j_goodL k2 j_good)))
  have hr := vx_runSX (n := n) (As := as.map (j_v ad)) (rest := rest.map (j_v ad)) (g := F0 m pc ls (st.map (j_v ad))) (e := e) (H := H) (locs := locs) (cells := cells) (slots := slots) (below := below) (meth := meth) ⟨hx, hb, hml, hown, hts⟩ hM
    (vx_cwSW n hts hGd (congrArg (· :: j_ws) (j_cd_hh k1)) rfl rfl ⟨k6, k7, k8⟩ ⟨Nat.le_trans hRf hfr, Nat.le_trans hRl hlo⟩)
    ⟨j_P_blind, fun U hU hW => ⟨rfl, by rw [hU], by rw [hU]; exact hP, va_K.moved hW.alike hKk, hD.weaken (fun _ _ _ _ => trivial), hSx.call hSS hU hW hsub⟩⟩
    rfl (by rw [List.length_map]; exact hn) hlv.1 (by
      show st.map (j_v ad) = _
      rw [hst9, List.map_append, List.map_reverse]) (lv_room (by rw [j_cat_sum]; exact hcat)) (by exact hd) ⟨by omega, by omega⟩
  intro T0 hT X
  rcases hr T0 hT X with ⟨v, st₀, t, T', L, h0, X', hL, e1, e2, ⟨⟨v', hm', ad'', hv, hΦ, hN', hP1, hD1⟩, hF⟩, stp⟩ | ⟨q, st₀, t, T', L, E, ce, h0, X', hL, e1, e2, ⟨⟨hm', ad'', hΦ, hN', hP1, hD1⟩, hF⟩, hce, hcv, hcl9, stp⟩
  · have hv : v = v'.map (j_v ad'') := Outcome.returned.inj hv
    obtain ⟨k1, k2, k3⟩ := vx_keep h0 e1 hSS (fun q _ h => hsub q h) hsub hL hF
    have ea : ad'' = ad := funext fun i => hN' i (fun h => by rw [ha] at h; cases h)
    rw [ea] at hP1 hv hD1
    obtain ⟨hlen, hk⟩ := kk v' hm' hΦ
    rw [← e1] at hP1
    obtain ⟨t2, a1, b1⟩ := hk p l e R s m args below meth c D T A N ad0 mc ms hX ad T'.heap (locs ++ L) (cells + mc1) (slots + ms1) ls
      ⟨by omega, by omega, hlv, hP1, hD1.weaken (fun _ q _ h => hsub q.1 h), k3, hN, fun h1 i h2 => hAl h1 i (by rw [hlen] at h2; exact h2)⟩ T' rfl X'
    refine ⟨t2, stp t2 ?_, b1⟩
    have e3 : (v'.toList ++ rest).map (j_v ad) = v.toList ++ rest.map (j_v ad) := by
      rw [hv]
      cases v' with
      | none => rfl
      | some w => rfl
    rw [e3] at a1
    exact a1
  · obtain ⟨k1, k2, k3⟩ := vx_keep h0 e1 hSS (fun q _ h => hsub q h) hsub hL hF
    have ea : ad'' = ad := funext fun i => hN' i (fun h => by rw [ha] at h; cases h)
    rw [ea] at hP1 hD1
    obtain ⟨hlen, hk⟩ := kx E hm' hΦ
    rw [← e1] at hP1
    obtain ⟨t2, a1, b1⟩ := hk p l e R s m args below meth c D T A N ad0 mc ms hX ad T'.heap (locs ++ L) (cells + mc1) (slots + ms1) ls
      ⟨by omega, by omega, hlv, hP1, hD1.weaken (fun _ q _ h => hsub q.1 h), k3, hN, fun h1 i h2 => hAl h1 i (by rw [hlen] at h2; exact h2)⟩ (rest.map (j_v ad)) q ce (by rw [e1]; exact hce) hcv hcl9 T' rfl X'
    exact ⟨t2, stp.trans a1, b1⟩
