/-! hour: a mill is ground, a sack at a time. -/
abbrev hw5 (h v g l o : Nat → Int32) : j_H := [hC h, vC v, gC g, vC l, gC o]
abbrev hL (a m : Nat) (t : j_L) : j_L := (0, .ref 0) :: (1, .ref 1) :: (2, .ref 2) :: (3, .ref 3) :: (4, .ref 4) :: (5, .int (nI a)) :: (6, .int (nI m)) :: t
theorem n_pred1 {a : Nat} (h : 1 ≤ a) : nI a - nI 1 = nI (a - 1) := pk_sub h
theorem gr_loop {Φ : j_F} {h v : Nat → Int32} {m : Nat} (hm : m < 3) : ∀ (n : Nat) (B : aV) (g l o : Nat → Int32) (a : Nat), n < 100 → (∀ j, j < 3 → (v_lo B j).length ≤ 8) → (∀ q ∈ v_lo B m, q.1 < 5 ∧ 1 ≤ q.2 ∧ q.2 ≤ 99) → (gR B g ∧ lR B l ∧ oR B o) →
    (∀ g' l' o' a', a' = a + grS n (v_lo B m) → gR (sGr B m n) g' ∧ lR (sGr B m n) l' ∧ oR (sGr B m n) o' → J ML_hour Φ 0 0 160 (hL a' m []) [] (hw5 h v g' l' o')) →
    J ML_hour Φ 0 0 25 (hL a m [(7, .int (nI n))]) [] (hw5 h v g l o)
  | 0, B, g, l, o, a, hn, h8, hq, hR, K => by
    obtain ⟨k1, k2⟩ := sGr_nilR (n := 0) (Or.inr rfl) hR
    have X := K g l o a (by rw [k2, Nat.add_zero]) k1
    refine J.run csL_hour 2 [(160, 7)] ?_
    exact ⟨fun _ => X, fun q => absurd (by decide) q⟩
  | n + 1, B, g, l, o, a, hn, h8, hq, hR, K => by
    have gm := (hR.1.2.2 m hm).2.1
    have i9 : nI 9 + nI m = nI (9 + m) := nI_add 9 m
    have x9 : vp_in (nI 9 + nI m) 15 := by rw [i9]; exact vp_n (by omega) (by decide)
    have c9 : (nI 9 + nI m).toNatClampNeg = 9 + m := by rw [i9, cl_n (by omega)]
    have y9 : g (nI 9 + nI m).toNatClampNeg = nI (v_lo B m).length := by rw [c9]; exact gm
    have hn0 : ¬ nI (n + 1) ≤ 0 := fun q => absurd ((n_le0 (by omega)).mp q) (by omega)
    cases hlo : v_lo B m with
    | nil =>
      obtain ⟨k1, k2⟩ := sGr_nilR (n := n + 1) (Or.inl hlo) hR
      have X := K g l o a (by rw [k2, Nat.add_zero]) k1
      refine J.run csL_hour 40 [(160, 7), (59, 8)] ?_
      refine ⟨fun _ => X, fun _ => ⟨x9, fun _ => X, fun q => absurd ?_ q⟩⟩
      show g (nI 9 + nI m).toNatClampNeg ≤ 0
      rw [y9, hlo]
      decide
    | cons q0 tl =>
      obtain ⟨w, s⟩ := q0
      obtain ⟨hw, hs1, hs⟩ := hq (w, s) (by rw [hlo]; exact List.mem_cons_self)
      have hw : w < 5 := hw
      have hs1 : 1 ≤ s := hs1
      have hs : s ≤ 99 := hs
      have h8m := h8 m hm
      rw [hlo] at h8m
      have h8m : tl.length + 1 ≤ 8 := h8m
      have lm : l (8 * m) = nI (100 * w + s) := by
        have b := hR.2.1 m hm 0 (by rw [hlo]; exact Nat.zero_lt_succ _)
        rw [hlo] at b
        exact b
      have i8 : nI 8 * nI m = nI (8 * m) := n_mul 8 m
      have x8 : vp_in (nI 8 * nI m) 24 := by rw [i8]; exact vp_n (by omega) (by decide)
      have c8 : (nI 8 * nI m).toNatClampNeg = 8 * m := by rw [i8, cl_n (by omega)]
      have io : nI 3 * (l (nI 8 * nI m).toNatClampNeg / 100) = nI (3 * w) := by
        rw [c8, lm, n_div100 (by omega), show (100 * w + s) / 100 = w by omega, n_mul]
      have xo : vp_in (nI 3 * (l (nI 8 * nI m).toNatClampNeg / 100)) 15 := by rw [io]; exact vp_n (by omega) (by decide)
      have co : (nI 3 * (l (nI 8 * nI m).toNatClampNeg / 100)).toNatClampNeg = 3 * w := by rw [io, cl_n (by omega)]
      have i12 : nI 12 + nI m = nI (12 + m) := nI_add 12 m
      have x12 : vp_in (nI 12 + nI m) 15 := by rw [i12]; exact vp_n (by omega) (by decide)
      have c12 : (nI 12 + nI m).toNatClampNeg = 12 + m := by rw [i12, cl_n (by omega)]
      -- a sack is ground
      have hX := gx_R hm hw hs1 hlo h8 hR
      obtain ⟨hY1, hY2⟩ := one_R (B := B) (g := upd g (12 + m) (g (12 + m) + 1)) (l := upd l (8 * m) (l (8 * m) - 1)) (o := upd o (3 * w) (o (3 * w) + 1)) hlo hs1
      -- what is behind it
      have e1 : grS 1 (v_lo B m) = 1 := by
        rw [hlo, grS_c]
        show min 1 (s + swt tl) = 1
        omega
      have eS : a + 1 + grS n (v_lo (sGr B m 1) m) = a + grS (n + 1) (v_lo B m) := by
        have e9 : v_lo (sGr B m 1) m = grL 1 (v_lo B m) := by
          show m_lo (if m = m then mGr 1 (v_ml B m) else v_ml B m) = _
          rw [if_pos rfl]
          rfl
        rw [e9, show n + 1 = 1 + n by omega, grS_add, e1]
        omega
      have T : ∀ g1 l1 o1, gR (sGr B m 1) g1 ∧ lR (sGr B m 1) l1 ∧ oR (sGr B m 1) o1 → J ML_hour Φ 0 0 154 (hL (a + 1) m [(7, .int (nI (n + 1)))]) [] (hw5 h v g1 l1 o1) := by
        intro g1 l1 o1 hR1
        have X := gr_loop hm n (sGr B m 1) g1 l1 o1 (a + 1) (by omega) (fun j hj => by
          show (m_lo (if j = m then mGr 1 (v_ml B j) else v_ml B j)).length ≤ 8
          by_cases q : j = m
          · rw [if_pos q]
            exact Nat.le_trans (grL_len 1 _) (h8 j hj)
          · rw [if_neg q]
            exact h8 j hj) (fun q hq9 => by
          have e9 : v_lo (sGr B m 1) m = grL 1 (v_lo B m) := by
            show m_lo (if m = m then mGr 1 (v_ml B m) else v_ml B m) = _
            rw [if_pos rfl]
            rfl
          rw [e9] at hq9
          exact grL_mem 1 _ hq q hq9) hR1 (fun g' l' o' a' ha' hR' => K g' l' o' a' (by rw [ha', eS]) (by
          have := sGr_add (a := 1) (b := n) hR'
          rw [Nat.add_comm 1 n] at this
          exact this))
        refine J.run csL_hour 2 [(25, 8)] ?_
        exact J.cast X (congrArg (fun x : Int32 => hL (a + 1) m [(7, .int x)]) (pk_m1 n).symm) rfl rfl
      -- the lot is gone: the row is moved
      have S : ∀ (d i : Nat), i + d = tl.length → s = 1 → J ML_hour Φ 0 0 114 (hL (a + 1) m [(7, .int (nI (n + 1))), (8, .int (nI i))]) [] (hw5 h v (upd (upd g (12 + m) (g (12 + m) + 1)) (9 + m) (nI tl.length)) (shL (upd l (8 * m) (l (8 * m) - 1)) (8 * m) i) (upd o (3 * w) (o (3 * w) + 1))) := by
        intro d
        induction d with
        | zero =>
          intro i hi hs9
          obtain rfl : i = tl.length := by omega
          have D := drop_R (tl := tl) (q9 := (w, s - 1)) hm (B := sGx B m w 1 ((w, s - 1) :: tl)) (show m_lo (if m = m then (m_sp (v_ml B m), m_gr (v_ml B m) + 1, (w, s - 1) :: tl) else v_ml B m) = _ by rw [if_pos rfl]) (fun j hj => by
            show (m_lo (if j = m then (m_sp (v_ml B j), m_gr (v_ml B j) + 1, (w, s - 1) :: tl) else v_ml B j)).length ≤ 8
            by_cases q : j = m
            · rw [if_pos q]
              exact h8m
            · rw [if_neg q]
              exact h8 j hj) hX
          have X := T _ _ _ ((one_R (B := B) hlo hs1).2 hs9 D)
          refine J.run csL_hour 20 [(154, 8)] ?_
          refine ⟨x9, fun _ => X, fun q => absurd ?_ q⟩
          show (upd (upd g (12 + m) (g (12 + m) + 1)) (9 + m) (nI tl.length)) (nI 9 + nI m).toNatClampNeg ≤ nI tl.length
          rw [c9, pk_us]
          exact (n_le (by omega) (by omega)).mpr (Nat.le_refl _)
        | succ d ih =>
          intro i hi hs9
          have ih' := ih (i + 1) (by omega) hs9
          have j1 : nI 8 * nI m + nI i = nI (8 * m + i) := by rw [i8, nI_add]
          have j2 : nI 8 * nI m + nI i + nI 1 = nI (8 * m + i + 1) := by rw [j1, nI_add]
          have v1 : vp_in (nI 8 * nI m + nI i) 24 := by rw [j1]; exact vp_n (by omega) (by decide)
          have v2 : vp_in (nI 8 * nI m + nI i + nI 1) 24 := by rw [j2]; exact vp_n (by omega) (by decide)
          have w1 : (nI 8 * nI m + nI i).toNatClampNeg = 8 * m + i := by rw [j1, cl_n (by omega)]
          have w2 : (nI 8 * nI m + nI i + nI 1).toNatClampNeg = 8 * m + i + 1 := by rw [j2, cl_n (by omega)]
          have ez : shL (upd l (8 * m) (l (8 * m) - 1)) (8 * m) i (8 * m + i + 1) = upd l (8 * m) (l (8 * m) - 1) (8 * m + i + 1) := if_neg (by omega)
          have eU : shL (upd l (8 * m) (l (8 * m) - 1)) (8 * m) (i + 1) = upd (shL (upd l (8 * m) (l (8 * m) - 1)) (8 * m) i) (nI 8 * nI m + nI i).toNatClampNeg (shL (upd l (8 * m) (l (8 * m) - 1)) (8 * m) i (nI 8 * nI m + nI i + nI 1).toNatClampNeg) := by
            rw [w1, w2, ez, shL_s]
          refine J.run csL_hour 40 [(114, 9)] ?_
          refine ⟨x9, fun q => absurd (show (upd (upd g (12 + m) (g (12 + m) + 1)) (9 + m) (nI tl.length)) (nI 9 + nI m).toNatClampNeg ≤ nI i from q) ?_, fun _ => ⟨v2, v1, ?_⟩⟩
          · rw [c9, pk_us, n_le (by omega) (by omega)]
            omega
          · exact J.cast ih' (congrArg (fun x : Int32 => hL (a + 1) m [(7, .int (nI (n + 1))), (8, .int x)]) (nI_succ i)) rfl (congrArg (fun x : Nat → Int32 => hw5 h v (upd (upd g (12 + m) (g (12 + m) + 1)) (9 + m) (nI tl.length)) x (upd o (3 * w) (o (3 * w) + 1))) eU)
      -- the walk of it
      have P4 : J ML_hour Φ 0 0 84 (hL (a + 1) m [(7, .int (nI (n + 1)))]) [] (hw5 h v (upd g (12 + m) (g (12 + m) + 1)) (upd l (8 * m) (l (8 * m) - 1)) (upd o (3 * w) (o (3 * w) + 1))) := by
        have ev : upd l (8 * m) (l (8 * m) - 1) (nI 8 * nI m).toNatClampNeg = nI (100 * w + (s - 1)) := by
          rw [c8, pk_us, lm, show 100 * w + s = 100 * w + (s - 1) + 1 by omega, nI_pred]
        have er : upd l (8 * m) (l (8 * m) - 1) (nI 8 * nI m).toNatClampNeg - upd l (8 * m) (l (8 * m) - 1) (nI 8 * nI m).toNatClampNeg / 100 * 100 = nI (s - 1) := by
          rw [ev, n_rem100 (by omega)]
          congr 1
          omega
        refine J.run csL_hour 12 [(154, 8), (100, 8)] ?_
        refine ⟨x8, (by decide : ¬ (100 : Int32) = 0), fun q => ?_, fun q => ?_⟩
        · have q : upd l (8 * m) (l (8 * m) - 1) (nI 8 * nI m).toNatClampNeg - upd l (8 * m) (l (8 * m) - 1) (nI 8 * nI m).toNatClampNeg / 100 * 100 ≤ 0 := q
          rw [er, n_le0 (by omega)] at q
          have hs9 : s = 1 := by omega
          have y9' : upd g (12 + m) (g (12 + m) + 1) (nI 9 + nI m).toNatClampNeg - nI 1 = nI tl.length := by
            rw [c9, pk_un (by omega), show g (9 + m) = nI (v_lo B m).length from gm, hlo]
            exact n_pred1 (Nat.le_add_left 1 _)
          have X := S tl.length 0 (Nat.zero_add _) hs9
          rw [shL_0] at X
          refine J.run csL_hour 20 [(114, 9)] ?_
          refine ⟨rfl, rfl, x9, x9, ?_⟩
          refine J.cast X rfl rfl ?_
          exact congrArg (fun x : Nat → Int32 => hw5 h v x (upd l (8 * m) (l (8 * m) - 1)) (upd o (3 * w) (o (3 * w) + 1))) (cg2 (fun (x : Nat) (y : Int32) => upd (upd g (12 + m) (g (12 + m) + 1)) x y) c9.symm y9'.symm)
        · have q : ¬ upd l (8 * m) (l (8 * m) - 1) (nI 8 * nI m).toNatClampNeg - upd l (8 * m) (l (8 * m) - 1) (nI 8 * nI m).toNatClampNeg / 100 * 100 ≤ 0 := q
          rw [er, n_le0 (by omega)] at q
          exact T _ _ _ (hY1 (by omega) hX)
      have P3 : J ML_hour Φ 0 0 70 (hL a m [(7, .int (nI (n + 1)))]) [] (hw5 h v g (upd l (8 * m) (l (8 * m) - 1)) (upd o (3 * w) (o (3 * w) + 1))) := by
        refine J.run csL_hour 12 [(84, 8)] ?_
        refine ⟨rfl, rfl, x12, x12, ?_⟩
        exact J.cast P4 (congrArg (fun x : Int32 => (0, Value.ref 0) :: (1, .ref 1) :: (2, .ref 2) :: (3, .ref 3) :: (4, .ref 4) :: (5, .int x) :: (6, .int (nI m)) :: [(7, Value.int (nI (n + 1)))]) (nI_succ a)) rfl (congrArg (fun x : Nat => hw5 h v (upd g x (g x + 1)) (upd l (8 * m) (l (8 * m) - 1)) (upd o (3 * w) (o (3 * w) + 1))) c12.symm)
      have P2 : J ML_hour Φ 0 0 59 (hL a m [(7, .int (nI (n + 1)))]) [] (hw5 h v g l (upd o (3 * w) (o (3 * w) + 1))) := by
        refine J.run csL_hour 10 [(70, 8)] ?_
        refine ⟨rfl, rfl, x8, x8, ?_⟩
        exact J.cast P3 rfl rfl (congrArg (fun x : Nat => hw5 h v g (upd l x (l x - 1)) (upd o (3 * w) (o (3 * w) + 1))) c8.symm)
      refine J.run csL_hour 40 [(160, 7), (59, 8)] ?_
      refine ⟨fun q => absurd q hn0, fun _ => ⟨x9, fun q => absurd (show g (nI 9 + nI m).toNatClampNeg ≤ 0 from q) ?_, fun _ => ⟨x8, (by decide : ¬ (100 : Int32) = 0), rfl, rfl, xo, xo, ?_⟩⟩⟩
      · rw [y9, hlo]
        exact fun q9 => absurd ((n_le0 (a := tl.length + 1) (by omega)).mp q9) (Nat.succ_ne_zero _)
      · exact J.cast P2 rfl rfl (congrArg (fun x : Nat => hw5 h v g l (upd o x (o x + 1))) co.symm)
