/-! Mill: what changes it. -/
theorem milr_c {sp gr lo lo' : Int32} {ow ow' sk sk' : Nat → Int32} (h0 : lo = lo') (h1 : ow = ow') (h2 : sk = sk') : milr sp gr lo ow sk = milr sp gr lo' ow' sk' := by rw [h0, h1, h2]
theorem c_X0_dropFirst {sp gr : Int32} {k g : Nat} {ow sk : Nat → Int32} (hk : k ≤ 8) (hg : g ≤ k) : Ct MX0_dropFirst 0 0 [.ref 0, .int (nI g)] (milr sp gr (nI k) ow sk) (jd (.inl none) (milr sp gr (nI (k - g)) (fun j => if j < k - g then ow (j + g) else ow j) (fun j => if j < k - g then sk (j + g) else sk j))) := by
  refine Ct.of rfl rfl (by decide +kernel) rfl (Nat.le_of_ble_eq_true rfl) ?_
  have L : ∀ (d i : Nat), i + d = k - g → J MX0_dropFirst (jd (.inl none) (milr sp gr (nI (k - g)) (fun j => if j < k - g then ow (j + g) else ow j) (fun j => if j < k - g then sk (j + g) else sk j))) 0 0 12 [(0, .ref 0), (1, .int (nI g)), (2, .int (nI i))] []
      (milr sp gr (nI (k - g)) (fun j => if j < i then ow (j + g) else ow j) (fun j => if j < i then sk (j + g) else sk j)) := by
    intro d
    induction d with
    | zero =>
      intro i hi
      refine J.run csX0_dropFirst 20 [] ?_
      refine ⟨fun _ => ?_, fun h => absurd ((n_le (by omega) (by omega)).mpr (by omega)) h⟩
      exact jd_i rfl (by rw [show i = k - g by omega])
    | succ d ih =>
      intro i hi
      have ih' := ih (i + 1) (by omega)
      refine J.run csX0_dropFirst 60 [(12, 3)] ?_
      refine ⟨fun h => absurd ((n_le (by omega) (by omega)).mp h) (by omega), fun _ => ?_⟩
      have e : nI i + nI g = nI (i + g) := nI_add i g
      refine ⟨by rw [e]; exact vp_n (by omega) (by omega), vp_n (by omega) (by omega), by rw [e]; exact vp_n (by omega) (by omega), vp_n (by omega) (by omega), ?_⟩
      have q : ∀ f : Nat → Int32, upd (fun j => if j < i then f (j + g) else f j) (nI i).toNatClampNeg ((fun j => if j < i then f (j + g) else f j) (nI i + nI g).toNatClampNeg) = fun j => if j < i + 1 then f (j + g) else f j := by
        intro f
        rw [e, cl_n (by omega), cl_n (by omega)]
        funext j
        show (if j = i then (if i + g < i then f (i + g + g) else f (i + g)) else (if j < i then f (j + g) else f j)) = if j < i + 1 then f (j + g) else f j
        rw [if_neg (by omega : ¬ i + g < i)]
        by_cases h1 : j = i
        · subst h1
          rw [if_pos rfl, if_pos (by omega)]
        · rw [if_neg h1]
          by_cases h2 : j < i
          · rw [if_pos h2, if_pos (by omega)]
          · rw [if_neg h2, if_neg (by omega)]
      refine J.cast ih' ?_ rfl ?_
      · rw [nI_succ]
      · exact milr_c rfl (q ow).symm (q sk).symm
  refine J.run csX0_dropFirst 20 [(12, 3)] ?_
  have X := J.cast (h' := milr sp gr (nI k - nI g) ow sk) (L _ 0 (Nat.zero_add _)) rfl rfl (milr_c (pk_sub hg).symm (funext fun j => if_neg (Nat.not_lt_zero j)) (funext fun j => if_neg (Nat.not_lt_zero j)))
  exact ⟨rfl, X⟩
theorem c_X0_addLot {m : aM} {ow sk : Nat → Int32} {o s : Nat} (h8 : (m_lo m).length < 8) : Ct MX0_addLot 0 0 [.ref 0, .int (nI o), .int (nI s)] (mil m ow sk) (jd (.inl none) (mil (m_sp m, m_gr m, m_lo m ++ [(o, s)]) (upd ow (m_lo m).length (nI o)) (upd sk (m_lo m).length (nI s)))) := by
  refine Ct.of rfl rfl (by decide +kernel) rfl (Nat.le_of_ble_eq_true rfl) ?_
  refine J.run csX0_addLot 40 [] ?_
  refine ⟨vp_n (by omega) (by omega), vp_n (by omega) (by omega), rfl, ?_⟩
  refine jd_i rfl ?_
  show milr _ _ (nI (m_lo m).length + 1) (upd ow (nI (m_lo m).length).toNatClampNeg (nI o)) (upd sk (nI (m_lo m).length).toNatClampNeg (nI s)) = milr _ _ (nI (m_lo m ++ [(o, s)]).length) _ _
  rw [cl_n (by omega), List.length_append, nI_1]
  rfl
theorem mRel_add {l : aL} {ow sk : Nat → Int32} {o s : Nat} (hr : mRel l ow sk) : mRel (l ++ [(o, s)]) (upd ow l.length (nI o)) (upd sk l.length (nI s)) := by
  intro k hk
  rw [List.length_append] at hk
  have hk : k < l.length + 1 := hk
  by_cases e : k = l.length
  · subst e
    have e2 : (l ++ [(o, s)]).getD l.length (0, 0) = (o, s) := by simp [List.getD_eq_getElem?_getD]
    unfold lo_o lo_s upd
    rw [e2, if_pos rfl, if_pos rfl]
    exact ⟨rfl, rfl⟩
  · have e2 : (l ++ [(o, s)]).getD k (0, 0) = l.getD k (0, 0) := by
      rw [List.getD_eq_getElem?_getD, List.getD_eq_getElem?_getD, List.getElem?_append_left (by omega)]
    have := hr k (by omega)
    unfold lo_o lo_s upd
    rw [e2, if_neg e, if_neg e]
    exact this
/-- two mills, the second at the places 3 to 5 -/
def mil2 (a b : Int32 × Int32 × Int32 × (Nat → Int32) × (Nat → Int32)) : j_H := [.inr (0, [.int a.1, .int a.2.1, .int a.2.2.1, .ref 1, .ref 2]), .inl (0, 8, .inl a.2.2.2.1), .inl (0, 8, .inl a.2.2.2.2), .inr (0, [.int b.1, .int b.2.1, .int b.2.2.1, .ref 4, .ref 5]), .inl (0, 8, .inl b.2.2.2.1), .inl (0, 8, .inl b.2.2.2.2)]
theorem c_X0_copyMill (a b : Int32 × Int32 × Int32 × (Nat → Int32) × (Nat → Int32)) : Ct MX0_copyMill 0 0 [.ref 0, .ref 3] (mil2 a b) (jd (.inl none) (mil2 b b)) := by
  refine Ct.of rfl rfl (by decide +kernel) rfl (Nat.le_of_ble_eq_true rfl) ?_
  refine J.run csX0_copyMill 60 [] ?_
  refine ⟨rfl, rfl, by decide, by decide, by decide, rfl, rfl, by decide, by decide, by decide, ?_⟩
  exact jd_i rfl rfl
/-- a mill and the row of flour -/
def milf (sp gr lo : Int32) (ow sk fl : Nat → Int32) : j_H := [.inr (0, [.int sp, .int gr, .int lo, .ref 1, .ref 2]), .inl (0, 8, .inl ow), .inl (0, 8, .inl sk), .inl (0, 5, .inl fl)]
theorem grL_len : ∀ (n : Nat) (l : aL), (grL n l).length ≤ l.length
  | _, [] => Nat.le_refl _
  | n, q :: t => by
    rw [grL_c]
    have := grL_len (n - q.2) t
    split
    · exact Nat.le_refl _
    · split
      · simp
      · simp only [List.length_cons]; omega
theorem swt_c (q : Nat × Nat) (t : aL) : swt (q :: t) = q.2 + swt t := by
  have key : ∀ n, sumN (lo_s (q :: t)) (n + 1) = q.2 + sumN (lo_s t) n := by
    intro n
    induction n with
    | zero => simp [sumN, lo_s]
    | succ n ih =>
      rw [show sumN (lo_s (q :: t)) (n + 1 + 1) = sumN (lo_s (q :: t)) (n + 1) + lo_s (q :: t) (n + 1) from rfl, ih]
      rw [show lo_s (q :: t) (n + 1) = lo_s t n by unfold lo_s; simp]
      rw [show sumN (lo_s t) (n + 1) = sumN (lo_s t) n + lo_s t n from rfl]
      omega
  exact key t.length
theorem c_X0_grind {m : aM} {ow sk : Nat → Int32} {n : Nat} {f : Nat → Nat} (hn : n < 2 ^ 31) (hm : mOk m) (hr : mRel (m_lo m) ow sk) : Ct MX0_grind 0 0 [.ref 0, .int (nI n), .ref 3] (milf (nI (m_sp m)) (nI (m_gr m)) (nI (m_lo m).length) ow sk (fun k => nI (f k)))
    (fun o h' => o = .inl (some (.int (nI (grS n (m_lo m))))) ∧ ∃ ow' sk', mRel (grL n (m_lo m)) ow' sk' ∧ h' = milf (nI (m_sp m)) (nI (m_gr m + grS n (m_lo m))) (nI (grL n (m_lo m)).length) ow' sk' (fun k => nI (f k + grF k n (m_lo m)))) := by
  have h8 := hm.2.1
  refine Ct.of rfl rfl (by decide +kernel) rfl (Nat.le_of_ble_eq_true rfl) ?_
  generalize hΦ : (fun (o : j_O) (h' : j_H) => o = .inl (some (.int (nI (grS n (m_lo m))))) ∧ ∃ ow' sk', mRel (grL n (m_lo m)) ow' sk' ∧ h' = milf (nI (m_sp m)) (nI (m_gr m + grS n (m_lo m))) (nI (grL n (m_lo m)).length) ow' sk' (fun k => nI (f k + grF k n (m_lo m)))) = Φ
  -- behind the loop: g lots are gone, r is left
  have E : ∀ (r g i : Nat) (sk' : Nat → Int32), r ≤ n → n - r = grS n (m_lo m) → g ≤ (m_lo m).length → (grL n (m_lo m)).length = (m_lo m).length - g → mRel (grL n (m_lo m)) (fun j => ow (j + g)) (fun j => sk' (j + g)) →
      J MX0_grind Φ 0 0 84 [(0, .ref 0), (1, .int (nI n)), (2, .ref 3), (3, .int (nI r)), (4, .int (nI g)), (5, .int (nI i))] [] (milf (nI (m_sp m)) (nI (m_gr m)) (nI (m_lo m).length) ow sk' (fun k => nI (f k + grF k n (m_lo m)))) := by
    intro r g i sk' hrn hS hg hlen hrel
    refine J.run csX0_grind 20 [] ?_
    refine J.callV 0 0 [] [0, 1, 2] (c_X0_dropFirst (sp := nI (m_sp m)) (gr := nI (m_gr m)) (ow := ow) (sk := sk') (by omega) hg) kX0_dropFirst mRX0_40 dX0_grind_87 (by decide) (by decide) rfl rfl rfl (by decide) (i0 := 0) rfl (ci := 0) rfl rfl rfl (by decide) (by decide) (by decide) ?_ ?_
    · rintro v h' ⟨hv, rfl⟩
      cases hv
      refine ⟨rfl, ?_⟩
      show J MX0_grind Φ 0 0 90 [(0, .ref 0), (1, .int (nI n)), (2, .ref 3), (3, .int (nI r)), (4, .int (nI g)), (5, .int (nI i))] [] (milf (nI (m_sp m)) (nI (m_gr m)) (nI ((m_lo m).length - g)) (fun j => if j < (m_lo m).length - g then ow (j + g) else ow j) (fun j => if j < (m_lo m).length - g then sk' (j + g) else sk' j) (fun k => nI (f k + grF k n (m_lo m))))
      refine J.run csX0_grind 40 [] ?_
      refine ⟨rfl, ?_⟩
      rw [← hΦ]
      refine ⟨?_, (fun j => if j < (m_lo m).length - g then ow (j + g) else ow j), (fun j => if j < (m_lo m).length - g then sk' (j + g) else sk' j), ?_, ?_⟩
      · rw [← hS, ← pk_sub hrn]
      · intro k hk
        have h9 := hrel k hk
        exact ⟨(if_pos (by omega)).trans h9.1, (if_pos (by omega)).trans h9.2⟩
      · rw [hlen, ← hS, ← nI_add, ← pk_sub hrn]
        rfl
    · rintro E h' ⟨hv, -⟩
      cases hv
  have L : ∀ (d i r : Nat) (sk' : Nat → Int32) (f' : Nat → Nat), i + d = (m_lo m).length → r ≤ n → (∀ j, i ≤ j → j < (m_lo m).length → sk' j = nI (lo_s (m_lo m) j)) → grL n (m_lo m) = grL r ((m_lo m).drop i) → (∀ o, f' o + grF o r ((m_lo m).drop i) = f o + grF o n (m_lo m)) → n - r + min r (swt ((m_lo m).drop i)) = grS n (m_lo m) →
      J MX0_grind Φ 0 0 8 [(0, .ref 0), (1, .int (nI n)), (2, .ref 3), (3, .int (nI r)), (4, .int (nI i)), (5, .int (nI i))] [] (milf (nI (m_sp m)) (nI (m_gr m)) (nI (m_lo m).length) ow sk' (fun k => nI (f' k))) := by
    intro d
    induction d with
    | zero =>
      intro i r sk' f' hi hrn hsk hL hF hS
      have hi : i = (m_lo m).length := by omega
      rw [hi, List.drop_length] at hL hS
      have hF2 : ∀ o, f' o = f o + grF o n (m_lo m) := fun o => by
        have := hF o
        rw [hi, List.drop_length] at this
        exact this
      refine J.run csX0_grind 20 [(84, 6)] ?_
      refine ⟨fun _ => ?_, fun h => absurd ((n_le (by omega) (by omega)).mpr (by omega)) h⟩
      refine J.cast (E r i i sk' hrn ?_ (by omega) (by rw [hL]; show 0 = _; omega) (by rw [hL]; intro k hk; exact absurd hk (Nat.not_lt_zero k))) rfl rfl ?_
      · have : swt ([] : aL) = 0 := rfl
        rw [this] at hS
        omega
      · exact congrArg (fun a => milf (nI (m_sp m)) (nI (m_gr m)) (nI (m_lo m).length) ow sk' a) (funext fun k => by rw [hF2])
    | succ d ih =>
      intro i r sk' f' hi hrn hsk hL hF hS
      have hb := lo_bd hm (k := i) (by omega)
      refine J.run csX0_grind 80 [(8, 6), (84, 6)] ?_
      refine ⟨fun h => absurd ((n_le (by omega) (by omega)).mp h) (by omega), fun _ => ?_⟩
      refine ⟨fun h => ?_, fun h => ?_⟩
      · have h := (n_le0 (by omega)).mp h
        subst h
        rw [grL_0] at hL
        rw [Nat.zero_min] at hS
        have hF2 : ∀ o, f' o = f o + grF o n (m_lo m) := fun o => by
          have := hF o
          rw [grF_0] at this
          exact this
        refine J.cast (E 0 i i sk' hrn hS (by omega) (by rw [hL, List.length_drop]) ?_) rfl rfl ?_
        · rw [hL]
          intro k hk
          rw [List.length_drop] at hk
          have e : ((m_lo m).drop i).getD k (0, 0) = (m_lo m).getD (k + i) (0, 0) := by
            rw [List.getD_eq_getElem?_getD, List.getD_eq_getElem?_getD, List.getElem?_drop, Nat.add_comm]
          refine ⟨?_, ?_⟩
          · show ow (k + i) = nI (((m_lo m).drop i).getD k (0, 0)).1
            rw [e]
            exact (hr (k + i) (by omega)).1
          · show sk' (k + i) = nI (((m_lo m).drop i).getD k (0, 0)).2
            rw [e]
            exact hsk (k + i) (by omega) (by omega)
        · exact congrArg (fun a => milf (nI (m_sp m)) (nI (m_gr m)) (nI (m_lo m).length) ow sk' a) (funext fun k => by rw [hF2])
      · refine ⟨vp_n (by omega) (by omega), Nat.le_of_ble_eq_true rfl, ?_⟩
        rw [lo_drop (by omega)] at hL hS
        have hF3 : ∀ o, f' o + ((if lo_o (m_lo m) i = o then min r (lo_s (m_lo m) i) else 0) + grF o (r - lo_s (m_lo m) i) ((m_lo m).drop (i + 1))) = f o + grF o n (m_lo m) := fun o => by
          have := hF o
          rw [lo_drop (by omega), grF_c] at this
          exact this
        rw [swt_c] at hS
        have e0 : sk' (nI i).toNatClampNeg = nI (lo_s (m_lo m) i) := by rw [cl_n (by omega)]; exact hsk i (by omega) (by omega)
        have e1 : (if sk' (nI i).toNatClampNeg < nI r then sk' (nI i).toNatClampNeg else nI r) = nI (min r (lo_s (m_lo m) i)) := by
          rw [e0, n_min (by omega) (by omega)]
        have e2 : nI r - (if sk' (nI i).toNatClampNeg < nI r then sk' (nI i).toNatClampNeg else nI r) = nI (r - lo_s (m_lo m) i) := by
          rw [e1, pk_sub (Nat.min_le_left _ _)]
          congr 1
          omega
        refine ⟨rfl, rfl, vp_n (by omega) (by omega), vp_n (by omega) (by omega), vp_n (by omega) (by omega), ?_⟩
        have e3 : ow (nI i).toNatClampNeg = nI (lo_o (m_lo m) i) := by rw [cl_n (by omega)]; exact (hr i (by omega)).1
        refine ⟨rfl, rfl, by rw [e3]; exact vp_n (by omega) (by omega), by rw [e3]; exact vp_n (by omega) (by omega), vp_n (by omega) (by omega), ?_⟩
        -- the worlds behind
        obtain ⟨sk2, hsk2⟩ : ∃ z, z = upd sk' i (nI (lo_s (m_lo m) i - min r (lo_s (m_lo m) i))) := ⟨_, rfl⟩
        obtain ⟨f2, hf2⟩ : ∃ z : Nat → Nat, z = fun o => f' o + (if lo_o (m_lo m) i = o then min r (lo_s (m_lo m) i) else 0) := ⟨_, rfl⟩
        have w1 : upd sk' (nI i).toNatClampNeg (sk' (nI i).toNatClampNeg - (if sk' (nI i).toNatClampNeg < nI r then sk' (nI i).toNatClampNeg else nI r)) = sk2 := by
          rw [e1, e0, cl_n (by omega), hsk2, pk_sub (Nat.min_le_right _ _)]
        have w2 : upd (fun k => nI (f' k)) (ow (nI i).toNatClampNeg).toNatClampNeg ((fun k => nI (f' k)) (ow (nI i).toNatClampNeg).toNatClampNeg + (if sk' (nI i).toNatClampNeg < nI r then sk' (nI i).toNatClampNeg else nI r)) = fun k => nI (f2 k) := by
          rw [e1, e3, cl_n (by omega), hf2]
          funext k
          show (if k = lo_o (m_lo m) i then nI (f' (lo_o (m_lo m) i)) + nI (min r (lo_s (m_lo m) i)) else nI (f' k)) = nI (f' k + (if lo_o (m_lo m) i = k then min r (lo_s (m_lo m) i) else 0))
          by_cases hk : k = lo_o (m_lo m) i
          · subst hk
            rw [if_pos rfl, if_pos rfl, nI_add]
          · rw [if_neg hk, if_neg (fun h => hk h.symm)]
            rfl
        have s2i : sk2 i = nI (lo_s (m_lo m) i - min r (lo_s (m_lo m) i)) := by rw [hsk2]; exact pk_us
        have s2j : ∀ j, i + 1 ≤ j → j < (m_lo m).length → sk2 j = nI (lo_s (m_lo m) j) := fun j h1 h2 => by
          rw [hsk2, pk_un (by omega)]
          exact hsk j (by omega) h2
        have hz : upd sk' (nI i).toNatClampNeg (sk' (nI i).toNatClampNeg - (if sk' (nI i).toNatClampNeg < nI r then sk' (nI i).toNatClampNeg else nI r)) (nI i).toNatClampNeg = sk2 i := by
          rw [w1, cl_n (by omega)]
        refine ⟨fun h => ?_, fun h => ?_⟩
        · -- some of the lot is left: nothing more is ground
          have h : ¬ (upd sk' (nI i).toNatClampNeg (sk' (nI i).toNatClampNeg - (if sk' (nI i).toNatClampNeg < nI r then sk' (nI i).toNatClampNeg else nI r)) (nI i).toNatClampNeg) = 0 := h
          rw [hz, s2i, show (0 : Int32) = nI 0 from rfl, n_eq (by omega) (by omega)] at h
          have hlt : r < lo_s (m_lo m) i := by omega
          have hr0 : r ≠ 0 := fun q => by
            have : ¬ nI r ≤ 0 := by assumption
            exact this ((n_le0 (by omega)).mpr q)
          rw [grL_c, if_neg hr0, if_pos hlt] at hL
          have hF2 : ∀ o, f2 o = f o + grF o n (m_lo m) := fun o => by
            have := hF3 o
            rw [show r - lo_s (m_lo m) i = 0 by omega, grF_0] at this
            rw [hf2]
            exact this
          have hS2 : n - 0 = grS n (m_lo m) := by omega
          have X := E 0 i (i + 1) sk2 (Nat.zero_le _) hS2 (by omega) (by rw [hL]; simp only [List.length_cons, List.length_drop]; omega) (by
            rw [hL]
            intro k hk
            simp only [List.length_cons, List.length_drop] at hk
            cases k with
            | zero =>
              refine ⟨?_, ?_⟩
              · show ow (0 + i) = _
                rw [Nat.zero_add]
                exact (hr i (by omega)).1
              · show sk2 (0 + i) = nI (lo_s (m_lo m) i - r)
                rw [Nat.zero_add, s2i, Nat.min_eq_left (by omega)]
            | succ k =>
              have e : ((m_lo m).drop (i + 1)).getD k (0, 0) = (m_lo m).getD (k + 1 + i) (0, 0) := by
                rw [List.getD_eq_getElem?_getD, List.getD_eq_getElem?_getD, List.getElem?_drop, show i + 1 + k = k + 1 + i by omega]
              refine ⟨?_, ?_⟩
              · show ow (k + 1 + i) = nI (((m_lo m).drop (i + 1)).getD k (0, 0)).1
                rw [e]
                exact (hr _ (by omega)).1
              · show sk2 (k + 1 + i) = nI (((m_lo m).drop (i + 1)).getD k (0, 0)).2
                rw [e]
                exact s2j _ (by omega) (by omega))
          have Y : J MX0_grind Φ 0 0 8 [(0, .ref 0), (1, .int (nI n)), (2, .ref 3), (3, .int (nI 0)), (4, .int (nI i)), (5, .int (nI (i + 1)))] [] (milf (nI (m_sp m)) (nI (m_gr m)) (nI (m_lo m).length) ow sk2 (fun k => nI (f2 k))) := by
            have X2 := J.cast X rfl rfl (h' := milf (nI (m_sp m)) (nI (m_gr m)) (nI (m_lo m).length) ow sk2 (fun k => nI (f2 k))) (congrArg (fun a => milf (nI (m_sp m)) (nI (m_gr m)) (nI (m_lo m).length) ow sk2 a) (funext fun k => by rw [hF2]))
            refine J.run csX0_grind 20 [(84, 6)] ?_
            exact ⟨fun _ => X2, fun _ => ⟨fun _ => X2, fun h => absurd (by decide) h⟩⟩
          refine J.cast Y ?_ rfl ?_
          · rw [← show nI r - (if sk' (nI i).toNatClampNeg < nI r then sk' (nI i).toNatClampNeg else nI r) = nI 0 by rw [e2]; congr 1; omega, nI_succ]
          · rw [← w1, ← w2]; rfl
        · have h : (upd sk' (nI i).toNatClampNeg (sk' (nI i).toNatClampNeg - (if sk' (nI i).toNatClampNeg < nI r then sk' (nI i).toNatClampNeg else nI r)) (nI i).toNatClampNeg) = 0 := h
          rw [hz, s2i, show (0 : Int32) = nI 0 from rfl, n_eq (by omega) (by omega)] at h
          have hlt : lo_s (m_lo m) i ≤ r := by omega
          rw [grL_c, if_neg (by omega), if_neg (by omega)] at hL
          have ih' := ih (i + 1) (r - lo_s (m_lo m) i) sk2 f2 (by omega) (by omega) s2j hL (fun o => by
            have := hF3 o
            rw [hf2]
            dsimp only
            omega) (by dsimp only at hS; omega)
          refine J.cast ih' ?_ rfl ?_
          · rw [← e2, nI_succ]
          · rw [← w1, ← w2]; rfl
  refine J.run csX0_grind 20 [(8, 6)] ?_
  exact L _ 0 n sk f (Nat.zero_add _) (Nat.le_refl _) (fun j _ h => (hr j h).2) (by rw [List.drop_zero]) (fun o => by rw [List.drop_zero]) (by rw [List.drop_zero]; unfold grS; omega)
