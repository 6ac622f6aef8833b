/-! The model grinds. -/
theorem zRel_cg {A B : aV} {z : Nat → Int32} (h1 : B.1 = A.1) (h2 : v_sd B = v_sd A) (h3 : v_sg B = v_sg A) (h4 : v_vn B = v_vn A) (h5 : v_se B = v_se A) (h6 : ∀ m, m < 3 → v_ml B m = v_ml A m) (h7 : ∀ o, o < 5 → v_fl B o = v_fl A o) (h8 : v_br B = v_br A) (h9 : v_tk B = v_tk A) (h : zRel A z) : zRel B z := by
  obtain ⟨g1, g2, g3, g4, g5, g6⟩ := h
  refine ⟨fun k hk => ?_, fun i hi w hw => ?_, fun s hs => ?_, fun m hm => ?_, fun o ho => ?_, ?_⟩
  · rw [h2, h3]; exact g1 k hk
  · rw [h4]; exact g2 i hi w hw
  · rw [h5]; exact g3 s hs
  · show z (74 + 19 * m) = nI (m_sp (v_ml B m)) ∧ z (75 + 19 * m) = nI (m_lo (v_ml B m)).length ∧ z (76 + 19 * m) = nI (m_gr (v_ml B m)) ∧ ∀ k, k < (m_lo (v_ml B m)).length → z (77 + 19 * m + 2 * k) = nI (lo_o (m_lo (v_ml B m)) k) ∧ z (78 + 19 * m + 2 * k) = nI (lo_s (m_lo (v_ml B m)) k)
    rw [h6 m hm]
    exact g4 m hm
  · rw [h7 o ho, h8, h9]; exact g5 o ho
  · show z 146 = nI B.1.1 ∧ z 147 = nI B.1.2.1 ∧ z 148 = nI B.1.2.2.1 ∧ z 149 = nI B.1.2.2.2
    rw [h1]
    exact g6
theorem c_X4_addToMill {t : mT} {z : Nat → Int32} {r : mR} {i w : Nat} {x : Int32} (hi : i < 3) (hw : w < 19) : Ct MX4_addToMill 0 0 [.ref 0, .int (nI i), .int (nI w), .int x] (mw t z r) (jd (.inl none) (mw t (upd z (74 + 19 * i + w) (z (74 + 19 * i + w) + x)) r)) := by
  refine Ct.of rfl rfl (by decide +kernel) rfl (Nat.le_of_ble_eq_true rfl) ?_
  have e : nI 74 + nI 19 * nI i + nI w = nI (74 + 19 * i + w) := by rw [n_mul, nI_add, nI_add]
  have ec : (nI 74 + nI 19 * nI i + nI w).toNatClampNeg = 74 + 19 * i + w := by rw [e, cl_n (by omega)]
  have v : vp_in (nI 74 + nI 19 * nI i + nI w) 150 := by
    rw [e]
    exact vp_n (by omega) (by decide)
  refine J.run csX4_addToMill 20 [] ?_
  refine ⟨rfl, rfl, v, v, ?_⟩
  refine jd_i rfl ?_
  show mw t (upd z (nI 74 + nI 19 * nI i + nI w).toNatClampNeg (z (nI 74 + nI 19 * nI i + nI w).toNatClampNeg + x)) r = _
  rw [ec]
theorem c_X4_addToOwner {t : mT} {z : Nat → Int32} {r : mR} {i w : Nat} {x : Int32} (hi : i < 5) (hw : w < 3) : Ct MX4_addToOwner 0 0 [.ref 0, .int (nI i), .int (nI w), .int x] (mw t z r) (jd (.inl none) (mw t (upd z (131 + 3 * i + w) (z (131 + 3 * i + w) + x)) r)) := by
  refine Ct.of rfl rfl (by decide +kernel) rfl (Nat.le_of_ble_eq_true rfl) ?_
  have e : nI 131 + nI 3 * nI i + nI w = nI (131 + 3 * i + w) := by rw [n_mul, nI_add, nI_add]
  have ec : (nI 131 + nI 3 * nI i + nI w).toNatClampNeg = 131 + 3 * i + w := by rw [e, cl_n (by omega)]
  have v : vp_in (nI 131 + nI 3 * nI i + nI w) 150 := by
    rw [e]
    exact vp_n (by omega) (by decide)
  refine J.run csX4_addToOwner 20 [] ?_
  refine ⟨rfl, rfl, v, v, ?_⟩
  refine jd_i rfl ?_
  show mw t (upd z (nI 131 + nI 3 * nI i + nI w).toNatClampNeg (z (nI 131 + nI 3 * nI i + nI w).toNatClampNeg + x)) r = _
  rw [ec]
/-- a call that changes the model's world -/
theorem J.callM {M M' : j_M} {Φ : j_F} {bc bs pc idx n : Nat} {lv : j_L} {st : List Value} (rest : List Value) {as : List Value} {t : mT} {z : Nat → Int32} {r : mR} {o : Option Value} {t' : mT} {z' : Nat → Int32} {r' : mR}
    (hC : Ct M' 0 0 (.ref 0 :: as) (mw t z r) (jd (.inl o) (mw t' z' r'))) (hk : j_kV M' n) (hl : Cond.methodLink (jm_o M) idx (jm_y M') ∈ j_ws) (hd : decode (jm_b M) pc = .ok (.invokevirtual idx, 3)) (hR : jm_f M' + 1 ≤ jm_f M ∧ 8 + (jm_n M' + 11) + jm_l M' ≤ jm_l M ∧ jm_a M' = false)
    (hn : as.length = n) (hst9 : st = (Value.ref 0 :: as).reverse ++ rest) (hcat : (rest.map fun v => v.category).sum ≤ 8) (hcn : RX4 = (jm_y M').cls)
    (k : J M Φ bc bs (pc + 3) lv (o.toList ++ rest) (mw t' z' r')) : J M Φ bc bs pc lv st (mw t z r) := by
  refine J.callVI bc bs rest hC hk hl hd hR.1 hR.2.1 hR.2.2 hn hst9 hcat (i0 := 0) rfl (ci := 4) rfl hcn (Nat.le_refl _) (Nat.le_refl _) ?_ ?_
  · rintro v h' ⟨hv, rfl⟩
    cases hv
    exact ⟨rfl, k⟩
  · rintro E h' ⟨hv, -⟩
    cases hv
/-- the first lot is dropped -/
def zD (z : Nat → Int32) (a n : Nat) : Nat → Int32 := fun j => if a ≤ j ∧ j < a + n then z (j + 2) else z j
theorem c_X4_dropFirst {t : mT} {z : Nat → Int32} {r : mR} {i n : Nat} (hi : i < 3) (hn : n < 8) (hz : z (75 + 19 * i) = nI (n + 1)) : Ct MX4_dropFirst 0 0 [.ref 0, .int (nI i)] (mw t z r) (jd (.inl none) (mw t (zD (upd z (75 + 19 * i) (nI n)) (77 + 19 * i) (2 * n)) r)) := by
  refine Ct.of rfl rfl (by decide +kernel) rfl (Nat.le_of_ble_eq_true rfl) ?_
  generalize hZ : upd z (75 + 19 * i) (nI n) = Z
  have hZ1 : Z (75 + 19 * i) = nI n := by
    rw [← hZ]
    exact if_pos rfl
  generalize hΦ : jd (.inl none) (mw t (zD Z (77 + 19 * i) (2 * n)) r) = Φ
  have L : ∀ (d k : Nat), k + d = 2 * n → J MX4_dropFirst Φ 0 0 19 [(0, .ref 0), (1, .int (nI i)), (2, .int (nI (77 + 19 * i))), (3, .int (nI (77 + 19 * i + k)))] [] (mw t (zD Z (77 + 19 * i) k) r) := by
    intro d
    induction d with
    | zero =>
      intro k hk
      have e1 : zD Z (77 + 19 * i) k (74 + 19 * i + 1) = nI n := by
        show (if 77 + 19 * i ≤ 74 + 19 * i + 1 ∧ 74 + 19 * i + 1 < 77 + 19 * i + k then _ else Z (74 + 19 * i + 1)) = nI n
        rw [if_neg (by omega), show 74 + 19 * i + 1 = 75 + 19 * i by omega, hZ1]
      refine J.run csX4_dropFirst 20 [] ?_
      refine J.callR [.int (nI 2), .int (nI (77 + 19 * i)), .int (nI (77 + 19 * i + k))] (c_X4_millAt hi (show 1 < 19 by decide)) kX4_millAt mRX4_62 dX4_dropFirst_25 (by decide) rfl rfl (Nat.le_of_ble_eq_true rfl) (i0 := 0) rfl (ci := 4) rfl rfl ?_
      rw [e1]
      refine J.run csX4_dropFirst 20 [] ?_
      refine ⟨fun _ => ?_, fun q => absurd ?_ q⟩
      · rw [← hΦ]
        exact jd_i rfl (by rw [show k = 2 * n by omega])
      · show nI (77 + 19 * i) + nI 2 * nI n ≤ nI (77 + 19 * i + k)
        rw [n_mul, nI_add, n_le (by omega) (by omega)]
        omega
    | succ d ih =>
      intro k hk
      have ih' := ih (k + 1) (by omega)
      have e1 : zD Z (77 + 19 * i) k (74 + 19 * i + 1) = nI n := by
        show (if 77 + 19 * i ≤ 74 + 19 * i + 1 ∧ 74 + 19 * i + 1 < 77 + 19 * i + k then _ else Z (74 + 19 * i + 1)) = nI n
        rw [if_neg (by omega), show 74 + 19 * i + 1 = 75 + 19 * i by omega, hZ1]
      have e2 : (nI (77 + 19 * i + k) + nI 2).toNatClampNeg = 77 + 19 * i + k + 2 := by rw [nI_add, cl_n (by omega)]
      have e3 : (nI (77 + 19 * i + k)).toNatClampNeg = 77 + 19 * i + k := cl_n (by omega)
      have e4 : upd (zD Z (77 + 19 * i) k) (nI (77 + 19 * i + k)).toNatClampNeg (zD Z (77 + 19 * i) k (nI (77 + 19 * i + k) + nI 2).toNatClampNeg) = zD Z (77 + 19 * i) (k + 1) := by
        rw [e2, e3]
        funext j
        show (if j = 77 + 19 * i + k then (if 77 + 19 * i ≤ 77 + 19 * i + k + 2 ∧ 77 + 19 * i + k + 2 < 77 + 19 * i + k then Z (77 + 19 * i + k + 2 + 2) else Z (77 + 19 * i + k + 2)) else (if 77 + 19 * i ≤ j ∧ j < 77 + 19 * i + k then Z (j + 2) else Z j)) = if 77 + 19 * i ≤ j ∧ j < 77 + 19 * i + (k + 1) then Z (j + 2) else Z j
        by_cases q : j = 77 + 19 * i + k
        · rw [if_pos q, if_neg (by omega), if_pos (by omega), q]
        · rw [if_neg q]
          by_cases q2 : 77 + 19 * i ≤ j ∧ j < 77 + 19 * i + k
          · rw [if_pos q2, if_pos (by omega)]
          · rw [if_neg q2, if_neg (by omega)]
      refine J.run csX4_dropFirst 20 [] ?_
      refine J.callR [.int (nI 2), .int (nI (77 + 19 * i)), .int (nI (77 + 19 * i + k))] (c_X4_millAt hi (show 1 < 19 by decide)) kX4_millAt mRX4_62 dX4_dropFirst_25 (by decide) rfl rfl (Nat.le_of_ble_eq_true rfl) (i0 := 0) rfl (ci := 4) rfl rfl ?_
      rw [e1]
      refine J.run csX4_dropFirst 20 [(19, 4)] ?_
      refine ⟨fun q => absurd (show nI (77 + 19 * i) + nI 2 * nI n ≤ nI (77 + 19 * i + k) from q) ?_, fun _ => ⟨?_, ?_, ?_⟩⟩
      · rw [n_mul, nI_add, n_le (by omega) (by omega)]
        omega
      · show vp_in (nI (77 + 19 * i + k) + nI 2) 150
        rw [nI_add]
        exact vp_n (by omega) (by decide)
      · exact vp_n (by omega) (by decide)
      · rw [← Nat.add_assoc, nI_succ (77 + 19 * i + k), ← e4] at ih'
        exact ih'
  have e0 : upd z (74 + 19 * i + 1) (z (74 + 19 * i + 1) + (-1)) = Z := by
    rw [← hZ, show 74 + 19 * i + 1 = 75 + 19 * i by omega, hz, pk_m1]
  refine J.run csX4_dropFirst 20 [] ?_
  refine J.callM [] (c_X4_addToMill (x := -1) hi (show 1 < 19 by decide)) kX4_addToMill mRX4_68 dX4_dropFirst_4 (by decide) rfl rfl (Nat.le_of_ble_eq_true rfl) rfl ?_
  have X := L (2 * n) 0 (Nat.zero_add _)
  have e1 : nI 74 + nI 19 * nI i + nI 3 = nI (77 + 19 * i) := by
    rw [n_mul, nI_add, nI_add]
    congr 1
    omega
  rw [show 77 + 19 * i + 0 = 77 + 19 * i from rfl, ← e1] at X
  rw [e0]
  refine J.run csX4_dropFirst 20 [(19, 4)] ?_
  refine J.cast X rfl rfl ?_
  refine congrArg (fun f => mw t f r) (funext fun j => ?_)
  show (if _ ≤ j ∧ j < _ + 0 then Z (j + 2) else Z j) = Z j
  rw [if_neg (by omega)]
