/-! The model's sacks, its text. -/
theorem v_lo_sml (A : aV) (m : Nat) (l : aL) : v_lo (sml A m l) m = l := by
  show m_lo (if m = m then _ else _) = l
  rw [if_pos rfl]
theorem c_X4_bring {S : aS} {t : mT} {z : Nat → Int32} {r : mR} (h : mRl S t z r) (a b c : Int32) : Ct MX4_bring 0 0 [.ref 0, .int a, .int b, .int c] (mw t z r) (mQ (rBring S a b c)) := by
  refine Ct.of rfl rfl (by decide +kernel) rfl (Nat.le_of_ble_eq_true rfl) ?_
  have X1 : rBring S a b c = (1, S, 0) → J MX4_bring (mQ (rBring S a b c)) 0 0 38 [(0, .ref 0), (1, .int a), (2, .int b), (3, .int c)] [.int (nI 1), .ref 0] (mw t z r) := fun er => by
    refine J.run csX4_bring 20 [] ?_
    exact ⟨fun q => absurd (show nI 1 ≤ 0 from q) (by decide), fun _ => mQ_e (t := (nI 1, t.2)) (mRl_t h _) er rfl⟩
  have X2 : rBring S a b c = (2, S, 0) → J MX4_bring (mQ (rBring S a b c)) 0 0 38 [(0, .ref 0), (1, .int a), (2, .int b), (3, .int c)] [.int (nI 2), .ref 0] (mw t z r) := fun er => by
    refine J.run csX4_bring 20 [] ?_
    exact ⟨fun q => absurd (show nI 2 ≤ 0 from q) (by decide), fun _ => mQ_e (t := (nI 2, t.2)) (mRl_t h _) er rfl⟩
  refine J.run csX4_bring 5 [] ?_
  refine J.inI 4 kX4_in mRX4_36 dX4_bring_4 (by decide) (Nat.le_of_ble_eq_true rfl) ⟨rfl, rfl, by decide⟩ (fun q => ?_) (fun o ho ea q1 => ?_)
  · refine J.run csX4_bring 10 [(38, 4)] ?_
    exact ⟨fun _ => X1 (if_pos (Or.inl q)), fun w => absurd rfl w⟩
  refine J.run csX4_bring 10 [(38, 4)] ?_
  refine ⟨fun w => absurd (show (1 : Int32) = 0 from w) (by decide), fun _ => ?_⟩
  refine J.inI 2 kX4_in mRX4_36 dX4_bring_13 (by decide) (Nat.le_of_ble_eq_true rfl) ⟨rfl, rfl, by decide⟩ (fun q => ?_) (fun m hm eb q2 => ?_)
  · refine J.run csX4_bring 10 [(38, 4)] ?_
    exact ⟨fun w => absurd rfl w, fun _ => X1 (if_pos (Or.inr q))⟩
  have q12 : ¬ ((a < 0 ∨ nI 5 ≤ a) ∨ (b < 0 ∨ nI 3 ≤ b)) := by rintro (w | w); exact q1 w; exact q2 w
  refine J.run csX4_bring 10 [(38, 4)] ?_
  refine ⟨fun _ => ?_, fun w => absurd (show (1 : Int32) = 0 from w) (by decide)⟩
  refine J.inR 1 99 kX4_in mRX4_36 dX4_bring_27 (by decide) (Nat.le_of_ble_eq_true rfl) ⟨rfl, rfl, by decide⟩ (fun q => ?_) (fun s hs1 hs ec q3 => ?_)
  · refine J.run csX4_bring 10 [(38, 4)] ?_
    exact ⟨fun _ => X2 ((if_neg q12).trans (if_pos q)), fun w => absurd rfl w⟩
  have er : rBring S a b c = if 8 ≤ (v_lo S.1 m).length then (0, sW (sS S) (srf S.1), -1) else (0, sW (sS S) (sbt (sml S.1 m (v_lo S.1 m ++ [(o, s)])) o s), nI (swt (v_lo S.1 m ++ [(o, s)]))) := by
    unfold rBring
    rw [if_neg q12, if_neg q3, ea, eb, ec, cN_n (by omega), cN_n (by omega), cN_n (by omega)]
  have hA := h.1.1
  have h8 := vOk_8 hA
  have h8m := h8 m hm
  have hz := h.1.2.2
  have zl : z (74 + 19 * m + 1) = nI (v_lo S.1 m).length := by
    rw [show 74 + 19 * m + 1 = 75 + 19 * m by omega]
    exact (hz.2.2.2.1 m hm).2.1
  have zr : z (nI 149).toNatClampNeg = nI (v_re S.1) := hz.2.2.2.2.2.2.2.2
  have zb : z (132 + 3 * o) = nI (v_br S.1 o) := (hz.2.2.2.2.1 o ho).2.1
  subst ea eb ec
  refine J.run csX4_bring 20 [] ?_
  refine ⟨fun w => absurd (show (1 : Int32) = 0 from w) (by decide), fun _ => ⟨fun _ => ?_, fun w => absurd (show nI 0 ≤ 0 by decide) w⟩⟩
  refine J.rec [] (t := (nI 0, t.2)) (mRl_t h _) kX4_record mRX4_40 dX4_bring_51 (by decide) rfl (Nat.le_of_ble_eq_true rfl) (fun sv sd hr => ?_)
  refine J.run csX4_bring 5 [] ?_
  refine J.callR [] (c_X4_millAt (t := (nI 0, sv, t.2.2)) (z := z) (r := (r.1, sd, r.2.2)) hm (show 1 < 19 by decide)) kX4_millAt mRX4_62 dX4_bring_57 (by decide) rfl rfl (Nat.le_of_ble_eq_true rfl) (i0 := 0) rfl (ci := 4) rfl rfl ?_
  rw [zl]
  refine J.run csX4_bring 30 [(79, 4)] ?_
  refine ⟨fun q => ?_, fun q => ⟨rfl, rfl, vp_n (a := 149) (by decide) (by decide), vp_n (a := 149) (by decide) (by decide), ?_⟩⟩
  · have q : ¬ nI (v_lo S.1 m).length = nI 8 := q
    rw [n_eq (by omega) (by decide)] at q
    have h7 : (v_lo S.1 m).length < 8 := by omega
    rw [if_neg (by omega)] at er
    generalize hn : (v_lo S.1 m).length = n at *
    have ep : nI 74 + nI 19 * nI m + nI 3 + nI 2 * nI n = nI (77 + 19 * m + 2 * n) := by
      rw [n_mul, n_mul, nI_add, nI_add, nI_add]
      congr 1
      omega
    have hB : vOk (sml S.1 m (v_lo S.1 m ++ [(o, s)])) := by
      refine sml_ok hA (by rw [List.length_append, hn]; exact h7) (fun q hq => ?_)
      rcases List.mem_append.mp hq with hq | hq
      · exact (hA.2.2.2.2.2 m hm).2.2 q hq
      · cases List.mem_singleton.mp hq
        exact ⟨ho, hs1, hs⟩
    -- the lot is written
    have G2 : J MX4_bring (mQ (rBring S (nI o) (nI m) (nI s))) 0 0 117 [(0, .ref 0), (1, .int (nI o)), (2, .int (nI m)), (3, .int (nI s)), (4, .int (nI (77 + 19 * m + 2 * n)))] [] (mw (nI 0, sv, t.2.2) (upd (upd z (77 + 19 * m + 2 * n) (nI o)) (78 + 19 * m + 2 * n) (nI s)) (r.1, sd, r.2.2)) := by
      generalize hZ : upd (upd z (77 + 19 * m + 2 * n) (nI o)) (78 + 19 * m + 2 * n) (nI s) = Z
      have z1 : Z (74 + 19 * m + 1) = nI n := by
        rw [← hZ, ← zl]
        show (if 74 + 19 * m + 1 = 78 + 19 * m + 2 * n then nI s else if 74 + 19 * m + 1 = 77 + 19 * m + 2 * n then nI o else z (74 + 19 * m + 1)) = _
        rw [if_neg (by omega), if_neg (by omega)]
      have z2 : Z (132 + 3 * o) = nI (v_br S.1 o) := by
        rw [← hZ, ← zb]
        show (if 132 + 3 * o = 78 + 19 * m + 2 * n then nI s else if 132 + 3 * o = 77 + 19 * m + 2 * n then nI o else z (132 + 3 * o)) = _
        rw [if_neg (by omega), if_neg (by omega)]
      have e1 : upd Z (74 + 19 * m + 1) (Z (74 + 19 * m + 1) + nI 1) = upd Z (75 + 19 * m) (nI (n + 1)) := by
        rw [z1, nI_add, show 74 + 19 * m + 1 = 75 + 19 * m by omega]
      have e2 : upd (upd Z (75 + 19 * m) (nI (n + 1))) (131 + 3 * o + 1) (upd Z (75 + 19 * m) (nI (n + 1)) (131 + 3 * o + 1) + nI s) = upd (upd Z (75 + 19 * m) (nI (n + 1))) (132 + 3 * o) (nI (v_br S.1 o + s)) := by
        have e3 : upd Z (75 + 19 * m) (nI (n + 1)) (131 + 3 * o + 1) = nI (v_br S.1 o) := by
          rw [← z2]
          show (if 131 + 3 * o + 1 = 75 + 19 * m then nI (n + 1) else Z (131 + 3 * o + 1)) = _
          rw [if_neg (by omega), show 131 + 3 * o + 1 = 132 + 3 * o by omega]
        rw [e3, nI_add, show 131 + 3 * o + 1 = 132 + 3 * o by omega]
      have hz2 : zRel (sbt (sml S.1 m (v_lo S.1 m ++ [(o, s)])) o s) (upd (upd Z (75 + 19 * m) (nI (n + 1))) (132 + 3 * o) (nI (v_br S.1 o + s))) := z_brg hm ho h8 (by rw [hn]; exact h7) (by rw [hn, hZ]) hz
      refine J.run csX4_bring 5 [] ?_
      refine J.callM [] (as := [.int (nI m), .int (nI 1), .int (nI 1)]) (c_X4_addToMill (t := (nI 0, sv, t.2.2)) (z := Z) (r := (r.1, sd, r.2.2)) (x := nI 1) hm (show 1 < 19 by decide)) kX4_addToMill mRX4_68 dX4_bring_121 (by decide) rfl rfl (Nat.le_of_ble_eq_true rfl) rfl ?_
      rw [e1]
      refine J.run csX4_bring 5 [] ?_
      refine J.callM [] (as := [.int (nI o), .int (nI 1), .int (nI s)]) (c_X4_addToOwner (t := (nI 0, sv, t.2.2)) (z := upd Z (75 + 19 * m) (nI (n + 1))) (r := (r.1, sd, r.2.2)) (x := nI s) ho (show 1 < 3 by decide)) kX4_addToOwner mRX4_72 dX4_bring_128 (by decide) rfl rfl (Nat.le_of_ble_eq_true rfl) rfl ?_
      rw [e2]
      refine J.run csX4_bring 5 [] ?_
      refine J.callR [] (c_X4_waiting (A := sbt (sml S.1 m (v_lo S.1 m ++ [(o, s)])) o s) (t := (nI 0, sv, t.2.2)) (r := (r.1, sd, r.2.2)) hB hz2 hm) kX4_waiting mRX4_91 dX4_bring_133 (by decide) rfl rfl (Nat.le_of_ble_eq_true rfl) (i0 := 0) rfl (ci := 4) rfl rfl ?_
      refine J.run csX4_bring 5 [] ?_
      exact mQ_0 er (mRl_w hr ⟨hB, h.1.2.1, hz2⟩) rfl (congrArg (fun l => nI (swt l)) (v_lo_sml S.1 m _)) rfl
    have G : J MX4_bring (mQ (rBring S (nI o) (nI m) (nI s))) 0 0 99 [(0, .ref 0), (1, .int (nI o)), (2, .int (nI m)), (3, .int (nI s)), (4, .int (nI (77 + 19 * m + 2 * n)))] [] (mw (nI 0, sv, t.2.2) z (r.1, sd, r.2.2)) := by
      have v2 : vp_in (nI (77 + 19 * m + 2 * n) + nI 1) 150 := by
        rw [nI_add]
        exact vp_n (by omega) (by decide)
      refine J.run csX4_bring 20 [(117, 5)] ?_
      refine ⟨vp_n (by omega) (by decide), v2, ?_⟩
      refine J.cast G2 rfl rfl ?_
      show _ = mw (nI 0, sv, t.2.2) (upd (upd z (nI (77 + 19 * m + 2 * n)).toNatClampNeg (nI o)) (nI (77 + 19 * m + 2 * n) + nI 1).toNatClampNeg (nI s)) (r.1, sd, r.2.2)
      rw [nI_add, cl_n (by omega), cl_n (by omega), show 77 + 19 * m + 2 * n + 1 = 78 + 19 * m + 2 * n by omega]
    refine J.run csX4_bring 20 [] ?_
    refine J.callR [.int (nI 2), .int (nI 74 + nI 19 * nI m + nI 3)] (c_X4_millAt (t := (nI 0, sv, t.2.2)) (z := z) (r := (r.1, sd, r.2.2)) hm (show 1 < 19 by decide)) kX4_millAt mRX4_62 dX4_bring_92 (by decide) rfl rfl (Nat.le_of_ble_eq_true rfl) (i0 := 0) rfl (ci := 4) rfl rfl ?_
    rw [zl]
    rw [← ep] at G
    refine J.run csX4_bring 10 [(99, 5)] ?_
    exact G
  · have q : nI (v_lo S.1 m).length = nI 8 := q
    rw [n_eq (by omega) (by decide)] at q
    refine mQ_0 (er.trans (if_pos (by omega))) (mRl_w hr ⟨srf_ok hA, h.1.2.1, z_srf h8 rfl hz⟩) rfl rfl ?_
    show mw (nI 0, sv, t.2.2) (upd z (nI 149).toNatClampNeg (z (nI 149).toNatClampNeg + nI 1)) (r.1, sd, r.2.2) = _
    rw [zr, nI_add]
    rfl
theorem c_X4_takeBack {S : aS} {t : mT} {z : Nat → Int32} {r : mR} (h : mRl S t z r) (a : Int32) : Ct MX4_takeBack 0 0 [.ref 0, .int a] (mw t z r) (mQ (rTake S a)) := by
  refine Ct.of rfl rfl (by decide +kernel) rfl (Nat.le_of_ble_eq_true rfl) ?_
  refine J.run csX4_takeBack 5 [] ?_
  refine J.inI 2 kX4_in mRX4_36 dX4_takeBack_4 (by decide) (Nat.le_of_ble_eq_true rfl) ⟨rfl, rfl, by decide⟩ (fun q => ?_) (fun m hm ea q1 => ?_)
  · refine J.run csX4_takeBack 20 [] ?_
    exact ⟨fun _ => ⟨fun w => absurd (show nI 1 ≤ 0 from w) (by decide), fun _ => mQ_e (t := (nI 1, t.2)) (mRl_t h _) (if_pos q) rfl⟩, fun w => absurd rfl w⟩
  have er : rTake S a = if (v_lo S.1 m).length = 0 then (0, sW (sS S) (srf S.1), -1) else (0, sW (sS S) (stt (sml S.1 m (v_lo S.1 m).dropLast) (lo_o (v_lo S.1 m) ((v_lo S.1 m).length - 1)) (lo_s (v_lo S.1 m) ((v_lo S.1 m).length - 1))), nI (lo_s (v_lo S.1 m) ((v_lo S.1 m).length - 1))) := by
    unfold rTake
    rw [if_neg q1, ea, cN_n (by omega)]
  have hA := h.1.1
  have h8 := vOk_8 hA
  have h8m := h8 m hm
  have hz := h.1.2.2
  have zl : z (74 + 19 * m + 1) = nI (v_lo S.1 m).length := by
    rw [show 74 + 19 * m + 1 = 75 + 19 * m by omega]
    exact (hz.2.2.2.1 m hm).2.1
  have zr : z (nI 149).toNatClampNeg = nI (v_re S.1) := hz.2.2.2.2.2.2.2.2
  subst ea
  refine J.run csX4_takeBack 20 [] ?_
  refine ⟨fun w => absurd (show (1 : Int32) = 0 from w) (by decide), fun _ => ⟨fun _ => ?_, fun w => absurd (show nI 0 ≤ 0 by decide) w⟩⟩
  refine J.rec [] (t := (nI 0, t.2)) (mRl_t h _) kX4_record mRX4_40 dX4_takeBack_28 (by decide) rfl (Nat.le_of_ble_eq_true rfl) (fun sv sd hr => ?_)
  refine J.run csX4_takeBack 5 [] ?_
  refine J.callR [] (c_X4_millAt (t := (nI 0, sv, t.2.2)) (z := z) (r := (r.1, sd, r.2.2)) hm (show 1 < 19 by decide)) kX4_millAt mRX4_62 dX4_takeBack_34 (by decide) rfl rfl (Nat.le_of_ble_eq_true rfl) (i0 := 0) rfl (ci := 4) rfl rfl ?_
  rw [zl]
  refine J.run csX4_takeBack 30 [(54, 2)] ?_
  refine ⟨fun q => ?_, fun q => ⟨rfl, rfl, vp_n (a := 149) (by decide) (by decide), vp_n (a := 149) (by decide) (by decide), ?_⟩⟩
  · have q : ¬ nI (v_lo S.1 m).length = 0 := q
    rw [n_eq0 (by omega)] at q
    rw [if_neg q] at er
    obtain ⟨n, hn⟩ : ∃ n, (v_lo S.1 m).length = n + 1 := ⟨(v_lo S.1 m).length - 1, by omega⟩
    rw [hn, Nat.add_sub_cancel] at er
    rw [hn] at zl h8m
    obtain ⟨ho, hs1, hs⟩ := lo_bd (hA.2.2.2.2.2 m hm) (k := n) (show n < (v_lo S.1 m).length by omega)
    have ho : lo_o (v_lo S.1 m) n < 5 := ho
    obtain ⟨zo, zs⟩ := (hz.2.2.2.1 m hm).2.2.2 n (show n < (v_lo S.1 m).length by omega)
    have zt := (hz.2.2.2.2.1 _ ho).2.2
    generalize lo_o (v_lo S.1 m) n = o at *
    generalize lo_s (v_lo S.1 m) n = s at *
    have e0 : upd z (74 + 19 * m + 1) (z (74 + 19 * m + 1) + (-1)) = upd z (75 + 19 * m) (nI n) := by
      rw [zl, pk_m1, show 74 + 19 * m + 1 = 75 + 19 * m by omega]
    have z1 : upd z (75 + 19 * m) (nI n) (74 + 19 * m + 1) = nI n := by
      rw [show 74 + 19 * m + 1 = 75 + 19 * m by omega]
      exact if_pos rfl
    have z2 : upd z (75 + 19 * m) (nI n) (74 + 19 * m + (3 + 2 * n)) = nI o := by
      rw [← zo]
      show (if 74 + 19 * m + (3 + 2 * n) = 75 + 19 * m then nI n else z (74 + 19 * m + (3 + 2 * n))) = _
      rw [if_neg (by omega), show 74 + 19 * m + (3 + 2 * n) = 77 + 19 * m + 2 * n by omega]
    have z3 : upd z (75 + 19 * m) (nI n) (74 + 19 * m + (3 + 2 * n + 1)) = nI s := by
      rw [← zs]
      show (if 74 + 19 * m + (3 + 2 * n + 1) = 75 + 19 * m then nI n else z (74 + 19 * m + (3 + 2 * n + 1))) = _
      rw [if_neg (by omega), show 74 + 19 * m + (3 + 2 * n + 1) = 78 + 19 * m + 2 * n by omega]
    have z4 : upd z (75 + 19 * m) (nI n) (131 + 3 * o + 2) = nI (v_tk S.1 o) := by
      rw [← zt]
      show (if 131 + 3 * o + 2 = 75 + 19 * m then nI n else z (131 + 3 * o + 2)) = _
      rw [if_neg (by omega), show 131 + 3 * o + 2 = 133 + 3 * o by omega]
    have hB : vOk (sml S.1 m (v_lo S.1 m).dropLast) := sml_ok hA (by rw [List.length_dropLast]; omega) (fun q hq => (hA.2.2.2.2.2 m hm).2.2 q (List.dropLast_subset _ hq))
    have hz2 : zRel (stt (sml S.1 m (v_lo S.1 m).dropLast) o s) (upd (upd z (75 + 19 * m) (nI n)) (133 + 3 * o) (nI (v_tk S.1 o + s))) := z_tkb hm ho h8 hn rfl hz
    have z5 : upd (upd z (75 + 19 * m) (nI n)) (133 + 3 * o) (nI (v_tk S.1 o + s)) (74 + 19 * m + (3 + 2 * n + 1)) = nI s := by
      rw [← z3]
      show (if 74 + 19 * m + (3 + 2 * n + 1) = 133 + 3 * o then _ else _) = _
      rw [if_neg (by omega)]
    generalize hZ : upd z (75 + 19 * m) (nI n) = Z at *
    have e2 : upd Z (131 + 3 * o + 2) (Z (131 + 3 * o + 2) + nI s) = upd Z (133 + 3 * o) (nI (v_tk S.1 o + s)) := by
      rw [z4, nI_add, show 131 + 3 * o + 2 = 133 + 3 * o by omega]
    have e3 : nI (3 + 2 * n) + nI 1 = nI (3 + 2 * n + 1) := nI_add _ _
    have ea : nI 3 + nI 2 * nI n = nI (3 + 2 * n) := by rw [n_mul, nI_add]
    -- behind the place of the lot
    have G : J MX4_takeBack (mQ (rTake S (nI m))) 0 0 72 [(0, .ref 0), (1, .int (nI m)), (2, .int (nI (3 + 2 * n)))] [] (mw (nI 0, sv, t.2.2) Z (r.1, sd, r.2.2)) := by
      refine J.run csX4_takeBack 5 [] ?_
      refine J.callR [.ref 0] (c_X4_millAt (t := (nI 0, sv, t.2.2)) (z := Z) (r := (r.1, sd, r.2.2)) hm (show 3 + 2 * n < 19 by omega)) kX4_millAt mRX4_62 dX4_takeBack_76 (by decide) rfl rfl (Nat.le_of_ble_eq_true rfl) (i0 := 0) rfl (ci := 4) rfl rfl ?_
      rw [z2]
      refine J.run csX4_takeBack 8 [] ?_
      refine J.callR [.int (nI 2), .int (nI o), .ref 0] (as := [.int (nI m), .int (nI (3 + 2 * n + 1))]) (c_X4_millAt (t := (nI 0, sv, t.2.2)) (z := Z) (r := (r.1, sd, r.2.2)) hm (show 3 + 2 * n + 1 < 19 by omega)) kX4_millAt mRX4_62 dX4_takeBack_85 (by decide) rfl (by rw [← e3]; rfl) (Nat.le_of_ble_eq_true rfl) (i0 := 0) rfl (ci := 4) rfl rfl ?_
      rw [z3]
      refine J.callM [] (as := [.int (nI o), .int (nI 2), .int (nI s)]) (c_X4_addToOwner (t := (nI 0, sv, t.2.2)) (z := Z) (r := (r.1, sd, r.2.2)) (x := nI s) ho (show 2 < 3 by decide)) kX4_addToOwner mRX4_72 dX4_takeBack_88 (by decide) rfl rfl (Nat.le_of_ble_eq_true rfl) rfl ?_
      rw [e2]
      refine J.run csX4_takeBack 5 [] ?_
      refine J.callR [] (as := [.int (nI m), .int (nI (3 + 2 * n + 1))]) (c_X4_millAt (t := (nI 0, sv, t.2.2)) (z := upd Z (133 + 3 * o) (nI (v_tk S.1 o + s))) (r := (r.1, sd, r.2.2)) hm (show 3 + 2 * n + 1 < 19 by omega)) kX4_millAt mRX4_62 dX4_takeBack_96 (by decide) rfl (by rw [← e3]; rfl) (Nat.le_of_ble_eq_true rfl) (i0 := 0) rfl (ci := 4) rfl rfl ?_
      rw [z5]
      refine J.run csX4_takeBack 5 [] ?_
      exact mQ_0 er (mRl_w hr ⟨hB, h.1.2.1, hz2⟩) rfl rfl rfl
    refine J.run csX4_takeBack 5 [] ?_
    refine J.callM [] (as := [.int (nI m), .int (nI 1), .int (-1)]) (c_X4_addToMill (t := (nI 0, sv, t.2.2)) (z := z) (r := (r.1, sd, r.2.2)) (x := -1) hm (show 1 < 19 by decide)) kX4_addToMill mRX4_68 dX4_takeBack_58 (by decide) rfl rfl (Nat.le_of_ble_eq_true rfl) rfl ?_
    rw [e0]
    refine J.run csX4_takeBack 5 [] ?_
    refine J.callR [.int (nI 2), .int (nI 3)] (c_X4_millAt (t := (nI 0, sv, t.2.2)) (z := Z) (r := (r.1, sd, r.2.2)) hm (show 1 < 19 by decide)) kX4_millAt mRX4_62 dX4_takeBack_66 (by decide) rfl rfl (Nat.le_of_ble_eq_true rfl) (i0 := 0) rfl (ci := 4) rfl rfl ?_
    rw [z1]
    rw [← ea] at G
    refine J.run csX4_takeBack 5 [(72, 3)] ?_
    exact G
  · have q : nI (v_lo S.1 m).length = 0 := q
    rw [n_eq0 (by omega)] at q
    refine mQ_0 (er.trans (if_pos (by omega))) (mRl_w hr ⟨srf_ok hA, h.1.2.1, z_srf h8 rfl hz⟩) rfl rfl ?_
    show mw (nI 0, sv, t.2.2) (upd z (nI 149).toNatClampNeg (z (nI 149).toNatClampNeg + nI 1)) (r.1, sd, r.2.2) = _
    rw [zr, nI_add]
    rfl
theorem mRl_x {S : aS} {t : mT} {z : Nat → Int32} {a sd sl kp tx tx' : Nat → Int32} {l : List Nat} {u ln : Int32} (h : mRl S t z (a, sd, sl, kp, tx)) (e : ln = nI l.length) (h1 : tOk l) (h2 : tRel l tx') : mRl (S.1, S.2.1, S.2.2.1, l) (u, t.2.1, ln, t.2.2.2) z (a, sd, sl, kp, tx') := ⟨h.1, h.2.1, h.2.2.1, e, h1, h2⟩
theorem c_X4_append {S : aS} {t : mT} {z : Nat → Int32} {r : mR} (h : mRl S t z r) (c : Int32) : Ct MX4_append 0 0 [.ref 0, .int c] (mw t z r) (mQ (rApp S c)) := by
  refine Ct.of rfl rfl (by decide +kernel) rfl (Nat.le_of_ble_eq_true rfl) ?_
  obtain ⟨a, sd, sl, kp, tx⟩ := r
  obtain ⟨t0, sv, ln, hr⟩ := t
  obtain ⟨h3, h4, h5⟩ := id h.2.2.2
  have h3 : ln = nI (s_t S).length := h3
  have h4 : tOk (s_t S) := h4
  have h60 : (s_t S).length ≤ 60 := h4.1
  subst h3
  refine J.run csX4_append 5 [] ?_
  refine J.inR 33 126 kX4_in mRX4_36 dX4_append_6 (by decide) (Nat.le_of_ble_eq_true rfl) ⟨rfl, rfl, by decide⟩ (fun q => ?_) (fun n hn1 hn ec q1 => ?_)
  · refine J.run csX4_append 20 [] ?_
    exact ⟨fun w => absurd rfl w, fun _ => ⟨fun w => absurd (show nI 1 ≤ 0 from w) (by decide), fun _ => mQ_e (t := (nI 1, sv, nI (s_t S).length, hr)) (mRl_t h _) (if_pos q) rfl⟩⟩
  have er : rApp S c = if 60 ≤ (s_t S).length then (2, S, 0) else (0, (S.1, S.2.1, S.2.2.1, s_t S ++ [n]), nI ((s_t S).length + 1)) := by
    unfold rApp
    rw [if_neg q1, ec, cN_n (by omega)]
  subst ec
  refine J.run csX4_append 40 [] ?_
  refine ⟨fun _ => ⟨fun q => ⟨fun _ => ?_, fun w => absurd (show nI 0 ≤ 0 by decide) w⟩, fun q => ⟨fun w => absurd (show nI 2 ≤ 0 from w) (by decide), fun _ => ?_⟩⟩, fun w => absurd (show (1 : Int32) = 0 from w) (by decide)⟩
  · have q : ¬ nI (s_t S).length = nI 60 := q
    rw [n_eq (by omega) (by decide)] at q
    rw [if_neg (by omega)] at er
    refine ⟨vp_n (by omega) (by decide), rfl, ?_⟩
    refine mQ_0 er (mRl_x (u := nI 0) (l := s_t S ++ [n]) (tx' := upd tx (s_t S).length (nI n)) (ln := nI (s_t S).length + nI 1) h ?_ ?_ (tRel_app h5 n)) rfl (nI_add _ _) ?_
    · rw [nI_add, List.length_append]
      rfl
    · refine ⟨by rw [List.length_append]; show (s_t S).length + 1 ≤ 60; omega, fun x hx => ?_⟩
      rcases List.mem_append.mp hx with hx | hx
      · exact h4.2 x hx
      · cases List.mem_singleton.mp hx
        exact ⟨hn1, hn⟩
    · show mw (nI 0, sv, nI (s_t S).length + nI 1, hr) z (a, sd, sl, kp, upd tx (nI (s_t S).length).toNatClampNeg (nI n)) = _
      rw [cl_n (by omega)]
  · have q : nI (s_t S).length = nI 60 := q
    rw [n_eq (by omega) (by decide)] at q
    exact mQ_e (t := (nI 2, sv, nI (s_t S).length, hr)) (mRl_t h _) (er.trans (if_pos (by omega))) rfl
theorem c_X4_clearBuffer {S : aS} {t : mT} {z : Nat → Int32} {r : mR} (h : mRl S t z r) : Ct MX4_clearBuffer 0 0 [.ref 0] (mw t z r) (mQ (rClear S)) := by
  refine Ct.of rfl rfl (by decide +kernel) rfl (Nat.le_of_ble_eq_true rfl) ?_
  obtain ⟨a, sd, sl, kp, tx⟩ := r
  obtain ⟨t0, sv, ln, hr⟩ := t
  have h3 : ln = nI (s_t S).length := h.2.2.2.1
  subst h3
  refine J.run csX4_clearBuffer 20 [] ?_
  exact mQ_0 rfl (mRl_x (u := nI 0) (l := []) (tx' := tx) (ln := nI 0) h rfl t0_ok (t0_rel _)) rfl rfl rfl
