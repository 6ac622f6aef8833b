/-! An hour goes by; a village is copied. -/
/-- the village while its mills grind: the first i have -/
def hpF (A : aV) : Nat → Nat → Nat
  | 0 => v_fl A
  | i + 1 => fun o => hpF A i o + grF o (rat A i (v_ho A)) (m_lo (v_ml A i))
def hpA (A : aV) (i : Nat) : aV := ((v_ho A, v_go A, v_tu A + 1, v_re A), v_sd A, v_sg A, v_vn A, v_se A, (fun m => if m < i then mGr (rat A m (v_ho A)) (v_ml A m) else v_ml A m), hpF A i, v_br A, v_tk A)
def hpG (A : aV) : Nat → Nat
  | 0 => 0
  | i + 1 => hpG A i + grS (rat A i (v_ho A)) (m_lo (v_ml A i))
theorem grS_0 (l : aL) : grS 0 l = 0 := Nat.zero_min _
theorem mGr_0 (m : aM) : mGr 0 m = m := by
  unfold mGr
  rw [grS_0, grL_0]
  rfl
theorem grL_mem : ∀ (n : Nat) (l : aL), (∀ q ∈ l, q.1 < 5 ∧ 1 ≤ q.2 ∧ q.2 ≤ 99) → ∀ q ∈ grL n l, q.1 < 5 ∧ 1 ≤ q.2 ∧ q.2 ≤ 99
  | _, [], _, q, hq => by cases hq
  | n, a :: t, h, q, hq => by
    have ha := h a List.mem_cons_self
    rw [grL_c] at hq
    split at hq
    · exact h q hq
    · split at hq
      · rcases List.mem_cons.mp hq with rfl | hq
        · exact ⟨ha.1, by show 1 ≤ a.2 - n; omega, by show a.2 - n ≤ 99; omega⟩
        · exact h q (List.mem_cons_of_mem _ hq)
      · exact grL_mem _ t (fun x hx => h x (List.mem_cons_of_mem _ hx)) q hq
theorem mGr_ok {n : Nat} {m : aM} (h : mOk m) : mOk (mGr n m) := ⟨h.1, Nat.le_trans (grL_len n _) h.2.1, grL_mem n _ h.2.2⟩
theorem rat_lt {A : aV} (hA : vOk A) {m h : Nat} (hm : m < 3) (hh : h < 24) : rat A m h < 2 ^ 31 := by
  have := rat_le hA hm hh
  omega
def vilx (A : aV) (z : vS) (ho go tu re : Int32) : j_H := vilr ho go tu re (fun k => nI (v_sd A k)) (fun k => nI (v_sg A k)) (fun i k => nI (v_vn A i k)) (fun k => nI (v_se A k)) (mCo A z) (fun k => nI (v_fl A k)) (fun k => nI (v_br A k)) (fun k => nI (v_tk A k))
theorem vil_hr {A : aV} {z z' : vS} {g t : Nat} (hg : g = v_go A + 1) (ht : t = v_tu A + (if trn A (v_ho A) = true then 1 else 0)) {ml : Nat → aM} (hml : ∀ m, m < 3 → ml m = mGr (rat A m (v_ho A)) (v_ml A m)) {fl : Nat → Nat} (hfl : ∀ o, fl o = v_fl (hr1 A) o) {ho : Nat} (hho : ho = v_ho (hr1 A)) (hz : z = z') :
    vil ((ho, g, t, v_re A), v_sd A, v_sg A, v_vn A, v_se A, ml, fl, v_br A, v_tk A) z = vil (hr1 A) z' := by
  subst hz hho hg ht
  have e : fl = v_fl (hr1 A) := funext hfl
  subst e
  unfold vil vilr
  show [_, _, _, _, _, _, _, _, _, _, _, _, _, _, _, Sum.inr (0, [Value.int (nI (m_sp (ml 0))), Value.int (nI (m_gr (ml 0))), Value.int (nI (m_lo (ml 0)).length), _, _]), _, _, Sum.inr (0, [Value.int (nI (m_sp (ml 1))), Value.int (nI (m_gr (ml 1))), Value.int (nI (m_lo (ml 1)).length), _, _]), _, _, Sum.inr (0, [Value.int (nI (m_sp (ml 2))), Value.int (nI (m_gr (ml 2))), Value.int (nI (m_lo (ml 2)).length), _, _]), _, _] = _
  rw [hml 0 (by decide), hml 1 (by decide), hml 2 (by decide)]
  rfl
theorem c_X1_passHour {A : aV} {z : vS} (hA : vOk A) (hz : vRel A z) : Ct MX1_passHour 0 0 [.ref 0] (vil A z) (fun o h' => o = .inl (some (.int (nI (hrG A)))) ∧ ∃ z', vRel (hr1 A) z' ∧ h' = vil (hr1 A) z') := by
  have hho := hA.1
  have hsg := (hA.2.2.1 _ hho).2
  refine Ct.of rfl rfl (by decide +kernel) rfl (Nat.le_of_ble_eq_true rfl) ?_
  generalize hΦ : (fun (o : j_O) (h' : j_H) => o = .inl (some (.int (nI (hrG A)))) ∧ ∃ z', vRel (hr1 A) z' ∧ h' = vil (hr1 A) z') = Φ
  -- behind the mills
  have E : ∀ (lv : j_L) (g : Nat) (t : Nat) (ml : Nat → aM) (fl : Nat → Nat) (z' : vS), (lv = [(0, .ref 0), (1, .int (nI g)), (2, .int 3)] ∨ lv = [(0, .ref 0), (1, .int (nI g))]) → g = hrG A → t = v_tu A + (if trn A (v_ho A) = true then 1 else 0) → (∀ m, m < 3 → ml m = mGr (rat A m (v_ho A)) (v_ml A m)) → (∀ o, fl o = v_fl (hr1 A) o) → (∀ m, m < 3 → mRel (m_lo (ml m)) (z' m).1 (z' m).2) →
      J MX1_passHour Φ 0 0 70 lv [] (vil ((v_ho A, v_go A, t, v_re A), v_sd A, v_sg A, v_vn A, v_se A, ml, fl, v_br A, v_tk A) z') := by
    intro lv g t ml fl z' hlv hg ht hml hfl hrel
    have hlv : ∀ q ∈ ([(0, .ref 0), (1, .int (nI g))] : j_L), q ∈ lv := by
      rcases hlv with rfl | rfl
      · intro q hq
        rcases List.mem_cons.mp hq with rfl | hq
        · exact List.mem_cons_self
        · exact List.mem_cons_of_mem _ (List.mem_cons.mpr (Or.inl (List.mem_singleton.mp hq)))
      · exact fun q h => h
    refine J.fewer hlv ?_
    refine J.run csX1_passHour 60 [] ?_
    refine ⟨rfl, fun q => ?_, fun q => ?_⟩
    · have q : nI 24 ≤ nI (v_ho A) + nI 1 := q
      rw [nI_add, n_le (by omega) (by omega)] at q
      rw [← hΦ]
      refine ⟨by rw [← hg], z', fun m hm => by show mRel (m_lo (mGr (rat A m (v_ho A)) (v_ml A m))) _ _; rw [← hml m hm]; exact hrel m hm, ?_⟩
      rw [← vil_hr (z := z') rfl ht hml hfl (ho := 0) (by show 0 = (if v_ho A = 23 then 0 else v_ho A + 1); rw [if_pos (by omega)]) rfl]
      exact congrArg (fun x => vilx ((0, 0, 0, 0), v_sd A, v_sg A, v_vn A, v_se A, ml, fl, v_br A, v_tk A) z' 0 x (nI t) (nI (v_re A))) (nI_1 (v_go A))
    · have q : ¬ nI 24 ≤ nI (v_ho A) + nI 1 := q
      rw [nI_add, n_le (by omega) (by omega)] at q
      rw [← hΦ]
      refine ⟨by rw [← hg], z', fun m hm => by show mRel (m_lo (mGr (rat A m (v_ho A)) (v_ml A m))) _ _; rw [← hml m hm]; exact hrel m hm, ?_⟩
      rw [← vil_hr (z := z') rfl ht hml hfl (ho := v_ho A + 1) (by show v_ho A + 1 = (if v_ho A = 23 then 0 else v_ho A + 1); rw [if_neg (by omega)]) rfl]
      show vilx ((0, 0, 0, 0), v_sd A, v_sg A, v_vn A, v_se A, ml, fl, v_br A, v_tk A) z' (nI (v_ho A) + 1) (nI (v_go A) + 1) (nI t) (nI (v_re A)) = vilx ((0, 0, 0, 0), v_sd A, v_sg A, v_vn A, v_se A, ml, fl, v_br A, v_tk A) z' (nI (v_ho A + 1)) (nI (v_go A + 1)) (nI t) (nI (v_re A))
      rw [nI_1, nI_1]
  have hle := vdi_le A (v_ho A)
  refine J.run csX1_passHour 20 [] ?_
  refine J.callR [] (c_X1_verdictIn hA hho) kX1_verdictIn mRX1_81 dX1_passHour_7 (by decide) rfl rfl (Nat.le_of_ble_eq_true rfl) rfl rfl rfl ?_
  by_cases ht : vdi A (v_ho A) = 0
  · have et : trn A (v_ho A) = true := decide_eq_true ht
    have er : ∀ m (x : Int32), m < 3 → x = nI (m_sp (v_ml A m)) → x * nI (v_sg A (nI (v_ho A)).toNatClampNeg) / 4 = nI (rat A m (v_ho A)) := by
      rintro m x hm rfl
      have hsp := (hA.2.2.2.2.2 m hm).1
      have hb : m_sp (v_ml A m) * v_sg A (v_ho A) ≤ 9 * 9 := Nat.mul_le_mul hsp (by omega)
      rw [cl_n (by omega), n_mul, n_div4 (by omega)]
      unfold rat
      rw [et]
      rfl
    have m0 := hA.2.2.2.2.2 0 (by decide)
    have m1 := hA.2.2.2.2.2 1 (by decide)
    have m2 := hA.2.2.2.2.2 2 (by decide)
    -- the third mill
    have L2 : ∀ z', mRel (m_lo (v_ml (hpA A 2) 0)) (z' 0).1 (z' 0).2 → mRel (m_lo (v_ml (hpA A 2) 1)) (z' 1).1 (z' 1).2 → mRel (m_lo (v_ml A 2)) (z' 2).1 (z' 2).2 → J MX1_passHour Φ 0 0 25 [(0, .ref 0), (1, .int (nI (hpG A 2))), (2, .int (nI 2))] [] (vil (hpA A 2) z') := by
      intro z' r0 r1 r2
      refine J.run csX1_passHour 40 [(25, 3)] ?_
      refine ⟨fun h => absurd h (by decide), fun _ => ⟨vp_c (by decide), vp_n (a := v_ho A) hho (by decide), n_ne4, ?_⟩⟩
      refine J.callV 0 0 [.int (nI (hpG A 2))] [21, 22, 23, 12] (as := [.int (nI (rat A 2 (v_ho A))), .ref 3]) (c_X0_grind (f := hpF A 2) (rat_lt hA (by decide) hho) m2 r2) kX0_grind mRX1_87 dX1_passHour_59 (by decide) (by decide) rfl rfl (by rw [← er 2 _ (by decide) rfl]; rfl) (Nat.le_of_ble_eq_true rfl) (i0 := 0) rfl (ci := 0) rfl rfl rfl (by decide) (by decide) (by decide) ?_ ?_
      · rintro v h' ⟨hv, ow', sk', hr', rfl⟩
        cases hv
        refine ⟨rfl, ?_⟩
        show J MX1_passHour Φ 0 0 62 [(0, .ref 0), (1, .int (nI (hpG A 2))), (2, .int (nI 2)), (3, .ref 21)] [.int (nI (grS (rat A 2 (v_ho A)) (m_lo (v_ml A 2)))), .int (nI (hpG A 2))] (vil (hpA A 3) (va_up z' 2 (ow', sk')))
        refine J.run csX1_passHour 20 [(25, 3)] ?_
        have X : J MX1_passHour Φ 0 0 25 [(0, .ref 0), (1, .int (nI (hpG A 3))), (2, .int (nI 3))] [] (vil (hpA A 3) (va_up z' 2 (ow', sk'))) := by
          refine J.run csX1_passHour 20 [(70, 3)] ?_
          refine ⟨fun _ => ?_, fun h => absurd (by decide) h⟩
          refine E _ (hpG A 3) (v_tu A + 1) _ (hpF A 3) _ (Or.inl rfl) ?_ (by rw [et]; rfl) (fun m hm => if_pos hm) ?_ ?_
          · show 0 + grS (rat A 0 (v_ho A)) (m_lo (v_ml A 0)) + grS (rat A 1 (v_ho A)) (m_lo (v_ml A 1)) + grS (rat A 2 (v_ho A)) (m_lo (v_ml A 2)) = grS (rat A 0 (v_ho A)) (m_lo (v_ml A 0)) + grS (rat A 1 (v_ho A)) (m_lo (v_ml A 1)) + grS (rat A 2 (v_ho A)) (m_lo (v_ml A 2))
            omega
          · intro o
            show v_fl A o + grF o (rat A 0 (v_ho A)) (m_lo (v_ml A 0)) + grF o (rat A 1 (v_ho A)) (m_lo (v_ml A 1)) + grF o (rat A 2 (v_ho A)) (m_lo (v_ml A 2)) = v_fl A o + (grF o (rat A 0 (v_ho A)) (m_lo (v_ml A 0)) + grF o (rat A 1 (v_ho A)) (m_lo (v_ml A 1)) + grF o (rat A 2 (v_ho A)) (m_lo (v_ml A 2)))
            omega
          · intro m hm
            have hc : m = 0 ∨ m = 1 ∨ m = 2 := by omega
            rcases hc with rfl | rfl | rfl
            · exact r0
            · exact r1
            · exact hr'
        refine J.cast X ?_ rfl rfl
        rw [show hpG A 3 = hpG A 2 + grS (rat A 2 (v_ho A)) (m_lo (v_ml A 2)) from rfl, ← nI_add]
        rfl
      · rintro E9 h' ⟨hv, -⟩
        cases hv
    have L1 : ∀ z', mRel (m_lo (v_ml (hpA A 1) 0)) (z' 0).1 (z' 0).2 → mRel (m_lo (v_ml A 1)) (z' 1).1 (z' 1).2 → mRel (m_lo (v_ml A 2)) (z' 2).1 (z' 2).2 → J MX1_passHour Φ 0 0 25 [(0, .ref 0), (1, .int (nI (hpG A 1))), (2, .int (nI 1))] [] (vil (hpA A 1) z') := by
      intro z' r0 r1 r2
      refine J.run csX1_passHour 40 [(25, 3)] ?_
      refine ⟨fun h => absurd h (by decide), fun _ => ⟨vp_c (by decide), vp_n (a := v_ho A) hho (by decide), n_ne4, ?_⟩⟩
      refine J.callV 0 0 [.int (nI (hpG A 1))] [18, 19, 20, 12] (as := [.int (nI (rat A 1 (v_ho A))), .ref 3]) (c_X0_grind (f := hpF A 1) (rat_lt hA (by decide) hho) m1 r1) kX0_grind mRX1_87 dX1_passHour_59 (by decide) (by decide) rfl rfl (by rw [← er 1 _ (by decide) rfl]; rfl) (Nat.le_of_ble_eq_true rfl) (i0 := 0) rfl (ci := 0) rfl rfl rfl (by decide) (by decide) (by decide) ?_ ?_
      · rintro v h' ⟨hv, ow', sk', hr', rfl⟩
        cases hv
        refine ⟨rfl, ?_⟩
        show J MX1_passHour Φ 0 0 62 [(0, .ref 0), (1, .int (nI (hpG A 1))), (2, .int (nI 1)), (3, .ref 18)] [.int (nI (grS (rat A 1 (v_ho A)) (m_lo (v_ml A 1)))), .int (nI (hpG A 1))] (vil (hpA A 2) (va_up z' 1 (ow', sk')))
        refine J.run csX1_passHour 20 [(25, 3)] ?_
        refine J.cast (L2 (va_up z' 1 (ow', sk')) r0 hr' r2) ?_ rfl rfl
        rw [show hpG A 2 = hpG A 1 + grS (rat A 1 (v_ho A)) (m_lo (v_ml A 1)) from rfl, ← nI_add]
        rfl
      · rintro E9 h' ⟨hv, -⟩
        cases hv
    have L0 : J MX1_passHour Φ 0 0 25 [(0, .ref 0), (1, .int (nI (hpG A 0))), (2, .int (nI 0))] [] (vil (hpA A 0) z) := by
      refine J.run csX1_passHour 40 [(25, 3)] ?_
      refine ⟨fun h => absurd h (by decide), fun _ => ⟨vp_c (by decide), vp_n (a := v_ho A) hho (by decide), n_ne4, ?_⟩⟩
      refine J.callV 0 0 [.int (nI (hpG A 0))] [15, 16, 17, 12] (as := [.int (nI (rat A 0 (v_ho A))), .ref 3]) (c_X0_grind (f := hpF A 0) (rat_lt hA (by decide) hho) m0 (hz 0 (by decide))) kX0_grind mRX1_87 dX1_passHour_59 (by decide) (by decide) rfl rfl (by rw [← er 0 _ (by decide) rfl]; rfl) (Nat.le_of_ble_eq_true rfl) (i0 := 0) rfl (ci := 0) rfl rfl rfl (by decide) (by decide) (by decide) ?_ ?_
      · rintro v h' ⟨hv, ow', sk', hr', rfl⟩
        cases hv
        refine ⟨rfl, ?_⟩
        show J MX1_passHour Φ 0 0 62 [(0, .ref 0), (1, .int (nI (hpG A 0))), (2, .int (nI 0)), (3, .ref 15)] [.int (nI (grS (rat A 0 (v_ho A)) (m_lo (v_ml A 0)))), .int (nI (hpG A 0))] (vil (hpA A 1) (va_up z 0 (ow', sk')))
        refine J.run csX1_passHour 20 [(25, 3)] ?_
        refine J.cast (L1 (va_up z 0 (ow', sk')) hr' (hz 1 (by decide)) (hz 2 (by decide))) ?_ rfl rfl
        rw [show hpG A 1 = hpG A 0 + grS (rat A 0 (v_ho A)) (m_lo (v_ml A 0)) from rfl, ← nI_add]
        rfl
      · rintro E9 h' ⟨hv, -⟩
        cases hv
    refine J.run csX1_passHour 30 [(25, 3)] ?_
    refine ⟨fun q => absurd ((n_eq0 (a := vdi A (v_ho A)) (by omega)).mpr ht) q, fun _ => ⟨rfl, ?_⟩⟩
    refine J.cast L0 rfl rfl ?_
    exact congrArg (fun x => vilx A z (nI (v_ho A)) (nI (v_go A)) x (nI (v_re A))) (nI_1 (v_tu A)).symm
  · have et : trn A (v_ho A) = false := decide_eq_false ht
    have e0 : ∀ m, rat A m (v_ho A) = 0 := fun m => by unfold rat; rw [et]; rfl
    refine J.run csX1_passHour 20 [(70, 2)] ?_
    refine ⟨fun _ => ?_, fun q => absurd ((n_eq0 (a := vdi A (v_ho A)) (by omega)).mp q) ht⟩
    refine E _ 0 (v_tu A) (v_ml A) (v_fl A) z (Or.inr rfl) ?_ (by rw [et]; rfl) (fun m _ => by rw [e0, mGr_0]) (fun o => ?_) hz
    · unfold hrG
      rw [e0, e0, e0, grS_0, grS_0, grS_0]
    · show v_fl A o = v_fl A o + (grF o (rat A 0 (v_ho A)) _ + grF o (rat A 1 (v_ho A)) _ + grF o (rat A 2 (v_ho A)) _)
      rw [e0, e0, e0, grF_0, grF_0, grF_0]
      rfl
