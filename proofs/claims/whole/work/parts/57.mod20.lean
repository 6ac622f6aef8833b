/-! The model's texts. -/
def xT (T : List Nat) (t : mT) (r : mR) : Prop := t.2.2.1 = nI T.length ∧ tOk T ∧ tRel T r.2.2.2.2
theorem xT_h {T : List Nat} {t : mT} {r : mR} (h : xT T t r) (x y : Int32) : xT T (x, t.2.1, t.2.2.1, y) r := h
theorem gd_le {T : List Nat} (h : tOk T) (p : Nat) : T.getD p 0 < 127 := by
  by_cases q : p < T.length
  · have := t_bd h q
    omega
  · rw [List.getD_eq_getElem?_getD, List.getElem?_eq_none (by omega)]
    decide
theorem c_X4_at {T : List Nat} {t : mT} {z : Nat → Int32} {r : mR} (h : xT T t r) {p : Nat} (hp : p < 100) : Ct MX4_at 0 0 [.ref 0, .int (nI p)] (mw t z r) (jd (.inl (some (.int (nI (T.getD p 0))))) (mw t z r)) := by
  refine Ct.of rfl rfl (by decide +kernel) rfl (Nat.le_of_ble_eq_true rfl) ?_
  obtain ⟨t0, sv, ln, hr⟩ := t
  obtain ⟨h1, h2, h3⟩ := h
  have h1 : ln = nI T.length := h1
  have h60 : T.length ≤ 60 := h2.1
  subst h1
  refine J.run csX4_at 20 [] ?_
  refine ⟨fun q => ?_, fun q => ⟨?_, ?_⟩⟩
  · have q : nI T.length ≤ nI p := q
    rw [n_le (by omega) (by omega)] at q
    refine jd_i ?_ rfl
    rw [List.getD_eq_getElem?_getD, List.getElem?_eq_none q]
    rfl
  · have q : ¬ nI T.length ≤ nI p := q
    rw [n_le (by omega) (by omega)] at q
    exact vp_n (by omega) (by decide)
  · have q : ¬ nI T.length ≤ nI p := q
    rw [n_le (by omega) (by omega)] at q
    refine jd_i ?_ rfl
    show Sum.inl (some (Value.int (r.2.2.2.2 (nI p).toNatClampNeg))) = _
    rw [cl_n (by omega), h3 p (by omega)]
theorem dig_in : ∀ d, d < 127 → ((nI d - nI 48 < nI 0 ∨ nI 9 < nI d - nI 48) ↔ ¬ (48 ≤ d ∧ d ≤ 57)) := by decide +kernel
theorem neg_v : ∀ a, a < 100 → (-1 : Int32) - nI a < 0 ∧ (-1 : Int32) - (-1 - nI a) = nI a ∧ (-2 : Int32) - nI a = -1 - nI (a + 1) ∧ (-3 : Int32) - nI a = -1 - nI (a + 2) := by decide +kernel
theorem rng_n {d a b : Nat} (hd : d < 127) (ha : a < 127) (hb : b < 127) : (nI d < nI a ∨ nI b < nI d) ↔ ¬ (a ≤ d ∧ d ≤ b) := by
  rw [n_lt (by omega) (by omega), n_lt (by omega) (by omega)]
  omega
/-- a look at a place of the text -/
theorem J.at {M : j_M} {Φ : j_F} {bc bs pc idx : Nat} {lv : j_L} {st : List Value} (rest : List Value) {T : List Nat} {t : mT} {z : Nat → Int32} {r : mR} {p9 : Int32} (h : xT T t r) (p : Nat) (hp : p9 = nI p ∧ p < 100) (hk : j_kV MX4_at 1) (hl : Cond.methodLink (jm_o M) idx (jm_y MX4_at) ∈ j_ws) (hd : decode (jm_b M) pc = .ok (.invokevirtual idx, 3)) (hR : jm_f MX4_at + 1 ≤ jm_f M ∧ 8 + (jm_n MX4_at + 11) + jm_l MX4_at ≤ jm_l M ∧ jm_a MX4_at = false)
    (hst : st = .int p9 :: .ref 0 :: rest) (hcat : (rest.map fun v => v.category).sum ≤ 8) (k : J M Φ bc bs (pc + 3) lv (.int (nI (T.getD p 0)) :: rest) (mw t z r)) : J M Φ bc bs pc lv st (mw t z r) := by
  obtain ⟨rfl, hp⟩ := hp
  subst hst
  exact J.callR rest (as := [.int (nI p)]) (c_X4_at h hp) hk hl hd hR rfl rfl hcat (i0 := 0) rfl (ci := 4) rfl rfl k
def rdV (T : List Nat) (p : Nat) : Int32 := if (rdR (T.drop p)).2 = true then nI (p + (rdR (T.drop p)).1) else -1 - nI (p + (rdR (T.drop p)).1)
def rdQ (T : List Nat) (p : Nat) (t : mT) (z : Nat → Int32) (r : mR) : j_F := fun o h' => ∃ hr, o = .inl (some (.int (rdV T p))) ∧ ((rdR (T.drop p)).2 = true → hr = nI (rdH (T.drop p))) ∧ h' = mw (t.1, t.2.1, t.2.2.1, hr) z r
theorem rdQ_e {T : List Nat} {p : Nat} {t : mT} {z : Nat → Int32} {r : mR} {e : Nat} {v hr : Int32} {h' : j_H} (he : rdR (T.drop p) = (e, false)) (hv : v = -1 - nI (p + e)) (hh : h' = mw (t.1, t.2.1, t.2.2.1, hr) z r) : rdQ T p t z r (.inl (some (.int v))) h' := by
  subst hh hv
  refine ⟨hr, ?_, fun q => ?_, rfl⟩
  · unfold rdV
    rw [he]
    rfl
  · rw [he] at q
    cases q
theorem c_X4_readWind {T : List Nat} {t : mT} {z : Nat → Int32} {r : mR} (h : xT T t r) {p : Nat} (hp : p ≤ T.length) : Ct MX4_readWind 0 0 [.ref 0, .int (nI p)] (mw t z r) (rdQ T p t z r) := by
  refine Ct.of rfl rfl (by decide +kernel) rfl (Nat.le_of_ble_eq_true rfl) ?_
  have h60 : T.length ≤ 60 := h.2.1.1
  have hd : ∀ j, (T.drop p).getD j 0 < 127 := fun j => by
    rw [gd_drop]
    exact gd_le h.2.1 _
  have hg : ∀ j, T.getD (p + j) 0 = (T.drop p).getD j 0 := fun j => (gd_drop T p j).symm
  generalize hL : T.drop p = L at hd hg
  generalize hΦ : rdQ T p t z r = Φ
  have hP : rdP L ≤ 2 := by
    unfold rdP
    split <;> omega
  -- behind the hour
  have G : (48 ≤ L.getD 0 0 ∧ L.getD 0 0 ≤ 57) → J MX4_readWind Φ 0 0 99 [(0, .ref 0), (1, .int (nI p)), (2, .int (nI (p + rdP L)))] [] (mw (t.1, t.2.1, t.2.2.1, nI (rdH L)) z r) := by
    intro c0
    have h' := xT_h h t.1 (nI (rdH L))
    refine J.run csX4_readWind 5 [] ?_
    refine J.at [] (t := (t.1, t.2.1, t.2.2.1, nI (rdH L))) h' (p + rdP L) ⟨rfl, by omega⟩ kX4_at mRX4_101 dX4_readWind_101 (by decide) rfl (Nat.le_of_ble_eq_true rfl) ?_
    rw [hg]
    have hd0 := hd (rdP L)
    have hd1 := hd (rdP L + 1)
    have hd2 := hd (rdP L + 2)
    refine J.run csX4_readWind 20 [] ?_
    refine ⟨fun q => ?_, fun q => ?_⟩
    · have q : nI (L.getD (rdP L) 0) = nI 61 := q
      rw [n_eq (by omega) (by decide)] at q
      refine J.at [] (t := (t.1, t.2.1, t.2.2.1, nI (rdH L))) h' (p + (rdP L + 1)) ⟨nI_add (p + rdP L) 1, by omega⟩ kX4_at mRX4_101 dX4_readWind_117 (by decide) rfl (Nat.le_of_ble_eq_true rfl) ?_
      rw [hg]
      refine J.run csX4_readWind 5 [] ?_
      refine J.inq kX4_in mRX4_36 dX4_readWind_124 (by decide) (Nat.le_of_ble_eq_true rfl) (fun q1 => ?_) (fun q1 => ?_)
      · have q1 := (rng_n (a := 48) (b := 55) hd1 (by decide) (by decide)).mp q1
        have e : rdR L = (rdP L + 1, false) := by
          unfold rdR
          rw [if_neg (fun h => h c0), if_neg (fun h => h q), if_pos q1]
        refine J.run csX4_readWind 20 [] ?_
        refine ⟨fun w => absurd rfl w, fun _ => ?_⟩
        rw [← hΦ]
        refine rdQ_e (by rw [hL]; exact e) ?_ rfl
        show (-2 : Int32) - nI (p + rdP L) = _
        rw [(neg_v (p + rdP L) (by omega)).2.2.1, Nat.add_assoc]
      · have q1 := Decidable.of_not_not (fun w => q1 ((rng_n (a := 48) (b := 55) hd1 (by decide) (by decide)).mpr w))
        refine J.run csX4_readWind 20 [] ?_
        refine ⟨fun _ => ?_, fun w => absurd (show (1 : Int32) = 0 from w) (by decide)⟩
        refine J.at [] (t := (t.1, t.2.1, t.2.2.1, nI (rdH L))) h' (p + (rdP L + 2)) ⟨nI_add (p + rdP L) 2, by omega⟩ kX4_at mRX4_101 dX4_readWind_139 (by decide) rfl (Nat.le_of_ble_eq_true rfl) ?_
        rw [hg]
        refine J.run csX4_readWind 5 [] ?_
        refine J.inq kX4_in mRX4_36 dX4_readWind_146 (by decide) (Nat.le_of_ble_eq_true rfl) (fun q2 => ?_) (fun q2 => ?_)
        · have q2 := (rng_n (a := 48) (b := 57) hd2 (by decide) (by decide)).mp q2
          have e : rdR L = (rdP L + 2, false) := by
            unfold rdR
            rw [if_neg (fun h => h c0), if_neg (fun h => h q), if_neg (fun h => h q1), if_pos q2]
          refine J.run csX4_readWind 20 [] ?_
          refine ⟨fun _ => ?_, fun w => absurd rfl w⟩
          rw [← hΦ]
          refine rdQ_e (by rw [hL]; exact e) ?_ rfl
          show (-3 : Int32) - nI (p + rdP L) = _
          rw [(neg_v (p + rdP L) (by omega)).2.2.2, Nat.add_assoc]
        · have q2 := Decidable.of_not_not (fun w => q2 ((rng_n (a := 48) (b := 57) hd2 (by decide) (by decide)).mpr w))
          have e : rdR L = (rdP L + 3, true) := by
            unfold rdR
            rw [if_neg (fun h => h c0), if_neg (fun h => h q), if_neg (fun h => h q1), if_neg (fun h => h q2)]
          refine J.run csX4_readWind 20 [] ?_
          refine ⟨fun w => absurd (show (1 : Int32) = 0 from w) (by decide), fun _ => ?_⟩
          rw [← hΦ]
          refine ⟨nI (rdH L), ?_, fun _ => by rw [hL], rfl⟩
          unfold rdV
          rw [hL, e, if_pos rfl]
          show Sum.inl (some (Value.int (nI (p + rdP L) + nI 3))) = _
          rw [nI_add, Nat.add_assoc]
    · have q : ¬ nI (L.getD (rdP L) 0) = nI 61 := q
      rw [n_eq (by omega) (by decide)] at q
      have e : rdR L = (rdP L, false) := by
        unfold rdR
        rw [if_neg (fun h => h c0), if_pos q]
      rw [← hΦ]
      exact rdQ_e (by rw [hL]; exact e) rfl rfl
  -- behind the first digit
  have G33 : (48 ≤ L.getD 0 0 ∧ L.getD 0 0 ≤ 57) → J MX4_readWind Φ 0 0 33 [(0, .ref 0), (1, .int (nI p)), (2, .int (nI (p + 1)))] [] (mw (t.1, t.2.1, t.2.2.1, nI (L.getD 0 0 - 48)) z r) := by
    intro c0
    have h' := xT_h h t.1 (nI (L.getD 0 0 - 48))
    have hd1 := hd 1
    have G := G c0
    have N1 : ¬ (49 ≤ L.getD 0 0 ∧ 48 ≤ L.getD 1 0 ∧ L.getD 1 0 ≤ 57 ∧ 10 * (L.getD 0 0 - 48) + L.getD 1 0 - 48 < 24) → J MX4_readWind Φ 0 0 99 [(0, .ref 0), (1, .int (nI p)), (2, .int (nI (p + 1)))] [] (mw (t.1, t.2.1, t.2.2.1, nI (L.getD 0 0 - 48)) z r) := fun w => by
      have d : ¬ rdD L = true := fun q => w (of_decide_eq_true q)
      have eP : rdP L = 1 := if_neg d
      have eH : rdH L = L.getD 0 0 - 48 := if_neg d
      rw [eP, eH] at G
      exact G
    refine J.run csX4_readWind 10 [(99, 3)] ?_
    refine ⟨fun q => ?_, fun q => ?_⟩
    · have q : nI (L.getD 0 0 - 48) ≤ 0 := q
      rw [n_le0 (by omega)] at q
      exact N1 (by omega)
    · have q : ¬ nI (L.getD 0 0 - 48) ≤ 0 := q
      rw [n_le0 (by omega)] at q
      refine J.at [] (t := (t.1, t.2.1, t.2.2.1, nI (L.getD 0 0 - 48))) h' (p + 1) ⟨rfl, by omega⟩ kX4_at mRX4_101 dX4_readWind_42 (by decide) rfl (Nat.le_of_ble_eq_true rfl) ?_
      rw [hg]
      refine J.run csX4_readWind 5 [] ?_
      refine J.inq kX4_in mRX4_36 dX4_readWind_49 (by decide) (Nat.le_of_ble_eq_true rfl) (fun q1 => ?_) (fun q1 => ?_)
      · have q1 := (rng_n (a := 48) (b := 57) hd1 (by decide) (by decide)).mp q1
        refine J.run csX4_readWind 20 [(99, 3)] ?_
        exact ⟨fun _ => N1 (by omega), fun w => absurd rfl w⟩
      · have q1 := Decidable.of_not_not (fun w => q1 ((rng_n (a := 48) (b := 57) hd1 (by decide) (by decide)).mpr w))
        have ev : nI 10 * nI (L.getD 0 0 - 48) + nI (L.getD 1 0) - nI 48 = nI (10 * (L.getD 0 0 - 48) + L.getD 1 0 - 48) := by rw [n_mul, nI_add, pk_sub (by omega)]
        refine J.run csX4_readWind 20 [(99, 3)] ?_
        refine ⟨fun w => absurd (show (1 : Int32) = 0 from w) (by decide), fun _ => ?_⟩
        refine J.at [.int (nI 10 * nI (L.getD 0 0 - 48))] (t := (t.1, t.2.1, t.2.2.1, nI (L.getD 0 0 - 48))) h' (p + 1) ⟨rfl, by omega⟩ kX4_at mRX4_101 dX4_readWind_64 (by decide) rfl (Nat.le_of_ble_eq_true rfl) ?_
        rw [hg]
        refine J.run csX4_readWind 20 [(99, 3)] ?_
        refine ⟨fun q2 => ?_, fun q2 => ?_⟩
        · have q2 : nI 24 ≤ nI 10 * nI (L.getD 0 0 - 48) + nI (L.getD 1 0) - nI 48 := q2
          rw [ev, n_le (by omega) (by omega)] at q2
          exact N1 (by omega)
        · have q2 : ¬ nI 24 ≤ nI 10 * nI (L.getD 0 0 - 48) + nI (L.getD 1 0) - nI 48 := q2
          rw [ev, n_le (by omega) (by omega)] at q2
          have d : rdD L = true := decide_eq_true ⟨by omega, by omega, by omega, by omega⟩
          have eP : rdP L = 2 := if_pos d
          have eH : rdH L = 10 * (L.getD 0 0 - 48) + L.getD 1 0 - 48 := if_pos d
          refine J.at [.int (nI 10 * nI (L.getD 0 0 - 48)), .ref 0] (t := (t.1, t.2.1, t.2.2.1, nI (L.getD 0 0 - 48))) h' (p + 1) ⟨rfl, by omega⟩ kX4_at mRX4_101 dX4_readWind_86 (by decide) rfl (Nat.le_of_ble_eq_true rfl) ?_
          rw [hg]
          rw [eP, eH, ← ev, show p + 2 = p + 1 + 1 from rfl, nI_succ (p + 1)] at G
          refine J.run csX4_readWind 20 [(99, 3)] ?_
          exact G
  refine J.run csX4_readWind 10 [] ?_
  refine J.at [.ref 0] h (p + 0) ⟨rfl, by omega⟩ kX4_at mRX4_101 dX4_readWind_7 (by decide) rfl (Nat.le_of_ble_eq_true rfl) ?_
  rw [hg]
  have hd0 := hd 0
  refine J.run csX4_readWind 10 [] ?_
  refine J.inq kX4_in mRX4_36 dX4_readWind_23 (by decide) (Nat.le_of_ble_eq_true rfl) (fun q => ?_) (fun q => ?_)
  · have q := (dig_in _ hd0).mp q
    have e : rdR L = (0, false) := if_pos q
    refine J.run csX4_readWind 10 [] ?_
    refine ⟨fun w => absurd rfl w, fun _ => ?_⟩
    rw [← hΦ]
    exact rdQ_e (e := 0) (hr := nI (L.getD 0 0) - nI 48) (by rw [hL]; exact e) rfl rfl
  · have q := Decidable.of_not_not (fun w => q ((dig_in _ hd0).mpr w))
    have G := G33 q
    rw [← pk_sub q.1, ← nI_add] at G
    refine J.run csX4_readWind 10 [(33, 3)] ?_
    exact ⟨fun _ => G, fun w => absurd (show (1 : Int32) = 0 from w) (by decide)⟩
theorem c_X4_findError {T : List Nat} {t : mT} {z : Nat → Int32} {r : mR} (h : xT T t r) : Ct MX4_findError 0 0 [.ref 0] (mw t z r) (fun o h' => o = .inl (some (.int (if stL 0 T = 6 then -1 else nI (fwL 0 T)))) ∧ ∃ hr, h' = mw (t.1, t.2.1, t.2.2.1, hr) z r) := by
  refine Ct.of rfl rfl (by decide +kernel) rfl (Nat.le_of_ble_eq_true rfl) ?_
  generalize hΦ : (fun (o : j_O) (h' : j_H) => o = .inl (some (.int (if stL 0 T = 6 then -1 else nI (fwL 0 T)))) ∧ ∃ hr, h' = mw (t.1, t.2.1, t.2.2.1, hr) z r) = Φ
  obtain ⟨t0, sv, ln, hr0⟩ := t
  have h60 : T.length ≤ 60 := h.2.1.1
  have hln : ln = nI T.length := h.1
  subst hln
  have E : ∀ v hr, v = (if stL 0 T = 6 then -1 else nI (fwL 0 T)) → Φ (.inl (some (.int v))) (mw (t0, sv, nI T.length, hr) z r) := by
    rintro v hr rfl
    rw [← hΦ]
    exact ⟨rfl, hr, rfl⟩
  have L : ∀ (d p : Nat) (hr : Int32), T.length - p = d → p ≤ T.length → fwL 0 T = p + fwL 0 (T.drop p) → stL 0 T = stL 0 (T.drop p) → J MX4_findError Φ 0 0 2 [(0, .ref 0), (1, .int (nI p))] [] (mw (t0, sv, nI T.length, hr) z r) := by
    intro d
    induction d using Nat.strongRecOn with
    | ind d ih =>
      intro p hr hd hp hf hs
      have h' : xT T (t0, sv, nI T.length, hr) r := h
      refine J.run csX4_findError 5 [] ?_
      refine J.callVI 0 0 [] (as := [.int (nI p)]) (c_X4_readWind h' hp) kX4_readWind mRX4_107 dX4_findError_4 (by decide) (by decide) rfl rfl rfl (Nat.le_of_ble_eq_true rfl) (i0 := 0) rfl (ci := 4) rfl rfl (Nat.le_refl _) (Nat.le_refl _) ?_ ?_
      · rintro v h9 ⟨hr1, hv, -, rfl⟩
        cases hv
        refine ⟨rfl, ?_⟩
        obtain ⟨r1, r2⟩ := rd_all (T.drop p)
        cases hb : (rdR (T.drop p)).2 with
        | false =>
          obtain ⟨f1, f2⟩ := r1 hb
          have hle2 : p + (rdR (T.drop p)).1 < 100 := by
            have := fwL_le (T.drop p) 0
            rw [List.length_drop, f1] at this
            omega
          rw [f1] at hf
          have ev : rdV T p = -1 - nI (p + (rdR (T.drop p)).1) := by
            unfold rdV
            rw [hb]
            rfl
          obtain ⟨n1, n2, -, -⟩ := neg_v _ hle2
          rw [ev]
          refine J.run csX4_findError 10 [] ?_
          refine ⟨fun q => absurd n1 (Int32.not_lt.mpr q), fun _ => E _ _ ?_⟩
          rw [if_neg (by rw [hs]; exact f2), hf]
          exact n2
        | true =>
          obtain ⟨-, -, -, -, k1, k2, k3, k4, -⟩ := r2 hb
          have hk : rdP (T.drop p) + 3 ≤ T.length - p := by
            rw [List.length_drop] at k2
            exact k2
          have hP : 1 ≤ rdP (T.drop p) := by
            unfold rdP
            split <;> omega
          have ev : rdV T p = nI (p + (rdP (T.drop p) + 3)) := by
            unfold rdV
            rw [if_pos hb, k1]
          rw [ev]
          generalize rdP (T.drop p) + 3 = k at *
          have dd : (T.drop p).drop k = T.drop (p + k) := List.drop_drop
          rw [dd] at k3 k4
          refine J.run csX4_findError 20 [(2, 2)] ?_
          refine ⟨fun _ => ⟨fun q => ?_, fun q => ?_⟩, fun q => absurd (nI_pos' (by omega)) q⟩
          · have q : ¬ nI (p + k) = nI T.length := q
            rw [n_eq (by omega) (by omega)] at q
            have hlt : p + k < T.length := by omega
            have hx : r.2.2.2.2 (nI (p + k)).toNatClampNeg = nI (T.getD (p + k) 0) := by
              rw [cl_n (by omega)]
              exact h.2.2 (p + k) hlt
            have hg := gd_le h.2.1 (p + k)
            have hd2 := t_drop hlt
            rw [hd2, fwL_c, pa6] at k3
            rw [hd2, stL_c, pa6] at k4
            refine ⟨vp_n (by omega) (by decide), fun q2 => ?_, fun q2 => ?_⟩
            · have q2 : r.2.2.2.2 (nI (p + k)).toNatClampNeg = nI 59 := q2
              rw [hx, n_eq (by omega) (by decide)] at q2
              rw [if_pos q2, if_neg (by decide)] at k3
              rw [if_pos q2] at k4
              have X := ih (T.length - (p + k + 1)) (by omega) (p + k + 1) hr1 rfl (by omega) (by rw [hf, k3]; omega) (by rw [hs, k4])
              rw [nI_succ (p + k)] at X
              exact X
            · have q2 : ¬ r.2.2.2.2 (nI (p + k)).toNatClampNeg = nI 59 := q2
              rw [hx, n_eq (by omega) (by decide)] at q2
              rw [if_neg q2, if_pos rfl] at k3
              rw [if_neg q2, stL_7] at k4
              refine E _ _ ?_
              rw [if_neg (by rw [hs, k4]; decide), hf, k3]
              rfl
          · have q : nI (p + k) = nI T.length := q
            rw [n_eq (by omega) (by omega)] at q
            refine E _ _ ?_
            rw [if_pos]
            rw [hs, k4, q, List.drop_length]
            rfl
      · rintro E9 h9 ⟨hr1, hv, -⟩
        cases hv
  refine J.run csX4_findError 5 [(2, 2)] ?_
  exact L T.length 0 hr0 rfl (Nat.zero_le _) (by rw [Nat.zero_add]; rfl) rfl
theorem mRl_xT {S : aS} {t : mT} {z : Nat → Int32} {r : mR} (h : mRl S t z r) : xT (s_t S) t r := h.2.2.2
theorem mRl_hr {S : aS} {t0 sv ln hr : Int32} {z : Nat → Int32} {r : mR} (h : mRl S (t0, sv, ln, hr) z r) (u w : Int32) : mRl S (u, sv, ln, w) z r := h
theorem c_X4_firstError {S : aS} {t : mT} {z : Nat → Int32} {r : mR} (h : mRl S t z r) : Ct MX4_firstError 0 0 [.ref 0] (mw t z r) (mQ (rFirst S)) := by
  refine Ct.of rfl rfl (by decide +kernel) rfl (Nat.le_of_ble_eq_true rfl) ?_
  obtain ⟨t0, sv, ln, hr⟩ := t
  have hx := mRl_xT h
  have h60 : (s_t S).length ≤ 60 := hx.2.1.1
  have hln : ln = nI (s_t S).length := hx.1
  subst hln
  refine J.run csX4_firstError 5 [] ?_
  refine J.callVI 0 0 [] (as := []) (c_X4_findError (t := (nI 0, sv, nI (s_t S).length, hr)) hx) kX4_findError mRX4_110 dX4_firstError_6 (by decide) (by decide) rfl rfl rfl (Nat.le_of_ble_eq_true rfl) (i0 := 0) rfl (ci := 4) rfl rfl (Nat.le_refl _) (Nat.le_refl _) ?_ ?_
  · rintro v h9 ⟨hv, hr1, rfl⟩
    cases hv
    refine ⟨rfl, ?_⟩
    by_cases q : stL 0 (s_t S) = 6
    · rw [if_pos q]
      refine J.run csX4_firstError 10 [] ?_
      refine ⟨fun w => absurd (show (0 : Int32) ≤ -1 from w) (by decide), fun _ => ?_⟩
      refine mQ_0 (t := (nI 0, sv, nI (s_t S).length, hr1)) rfl (mRl_hr h _ _) rfl ?_ rfl
      rw [fw_len _ _ q]
    · rw [if_neg q]
      have hle := fwL_le (s_t S) 0
      refine J.run csX4_firstError 10 [] ?_
      refine ⟨fun _ => ?_, fun w => absurd (nI_pos' (by omega)) w⟩
      exact mQ_0 (t := (nI 0, sv, nI (s_t S).length, hr1)) rfl (mRl_hr h _ _) rfl rfl rfl
  · rintro E9 h9 ⟨hv, -⟩
    cases hv
theorem mRl_load {S : aS} {t : mT} {z z' : Nat → Int32} {r : mR} {B : aV} (h : mRl S t z r) (hB : mG B z') (u w : Int32) : mRl (B, S.2.1, S.2.2.1, []) (u, t.2.1, nI 0, w) z' r := ⟨hB, h.2.1, h.2.2.1, rfl, t0_ok, t0_rel _⟩
theorem c_X4_load {S : aS} {t : mT} {z : Nat → Int32} {r : mR} (h : mRl S t z r) : Ct MX4_load 0 0 [.ref 0] (mw t z r) (mQ (rLoad S)) := by
  refine Ct.of rfl rfl (by decide +kernel) rfl (Nat.le_of_ble_eq_true rfl) ?_
  obtain ⟨t0, sv, ln, hr⟩ := t
  have hx := mRl_xT h
  have h60 : (s_t S).length ≤ 60 := hx.2.1.1
  have hln : ln = nI (s_t S).length := hx.1
  subst hln
  have hsS : s_t (sS S) = s_t S := rfl
  generalize hT : s_t S = T at *
  refine J.run csX4_load 5 [] ?_
  refine J.callVI 0 0 [.ref 0] (as := []) (c_X4_findError (t := (t0, sv, nI T.length, hr)) hx) kX4_findError mRX4_110 dX4_load_2 (by decide) (by decide) rfl rfl rfl (Nat.le_of_ble_eq_true rfl) (i0 := 0) rfl (ci := 4) rfl rfl (Nat.le_refl _) (Nat.le_refl _) ?_ ?_
  rotate_left
  · rintro E9 h9 ⟨hv, -⟩
    cases hv
  rintro v h9 ⟨hv, hr1, rfl⟩
  cases hv
  refine ⟨rfl, ?_⟩
  by_cases q : stL 0 T = 6
  · have er : rLoad S = (0, (blL 0 0 0 T S.1, S.2.1, (S.1 :: S.2.2.1).take 6, []), nI (agh (blL 0 0 0 T S.1))) := by
      rw [← hT] at q ⊢
      exact if_pos q
    rw [if_pos q]
    refine J.run csX4_load 20 [] ?_
    refine ⟨fun w => absurd (show (0 : Int32) ≤ -1 from w) (by decide), fun _ => ⟨fun _ => ?_, fun w => absurd (show nI 0 ≤ 0 by decide) w⟩⟩
    refine J.rec [] (t := (nI 0, sv, nI T.length, hr1)) (mRl_hr h _ _) kX4_record mRX4_40 dX4_load_26 (by decide) rfl (Nat.le_of_ble_eq_true rfl) (fun sv' sd hm => ?_)
    have hx : xT T (nI 0, sv', nI T.length, hr1) (r.1, sd, r.2.2) := hx
    -- the end
    have F : ∀ (p : Nat) (z' : Nat → Int32) (hr' : Int32), T.length ≤ p → p < 1000 → mG (blL 0 0 0 T S.1) z' → J MX4_load (mQ (rLoad S)) 0 0 31 [(0, .ref 0), (1, .int (nI p))] [] (mw (nI 0, sv', nI T.length, hr') z' (r.1, sd, r.2.2)) := by
      intro p z' hr' hp hp2 hG
      refine J.run csX4_load 20 [] ?_
      refine ⟨fun _ => ?_, fun w => absurd ((n_le (a := T.length) (b := p) (by omega) (by omega)).mpr hp) w⟩
      refine J.callR [] (c_X4_hoursOfDay (t := (nI 0, sv', nI 0, hr')) (r := (r.1, sd, r.2.2)) hG.1 hG.2.2) kX4_hoursOfDay mRX4_113 dX4_load_102 (by decide) rfl rfl (Nat.le_of_ble_eq_true rfl) (i0 := 0) rfl (ci := 4) rfl rfl ?_
      refine J.run csX4_load 5 [] ?_
      exact mQ_0 (t := (nI 0, sv', nI 0, hr')) er (mRl_load hm hG (nI 0) hr') rfl rfl rfl
    have L : ∀ (d p : Nat) (hr' : Int32) (z' : Nat → Int32) (A : aV) (h0 s0 : Nat), T.length - p = d → p ≤ T.length → stL 0 (T.drop p) = 6 → mG A z' → blL 0 0 0 T S.1 = blL 0 h0 s0 (T.drop p) A → J MX4_load (mQ (rLoad S)) 0 0 31 [(0, .ref 0), (1, .int (nI p))] [] (mw (nI 0, sv', nI T.length, hr') z' (r.1, sd, r.2.2)) := by
      intro d
      induction d using Nat.strongRecOn with
      | ind d ih =>
        intro p hr' z' A h0 s0 hd hp hs hG hB
        have hx' : xT T (nI 0, sv', nI T.length, hr') (r.1, sd, r.2.2) := hx
        obtain ⟨r1, r2⟩ := rd_all (T.drop p)
        have hb : (rdR (T.drop p)).2 = true := by
          cases hb : (rdR (T.drop p)).2 with
          | true => rfl
          | false => exact absurd hs (r1 hb).2
        obtain ⟨-, c1, c2, c3, k1, k2, k3, k4, k5⟩ := r2 hb
        have hk : rdP (T.drop p) + 3 ≤ T.length - p := by
          rw [List.length_drop] at k2
          exact k2
        have ev : rdV T p = nI (p + (rdP (T.drop p) + 3)) := by
          unfold rdV
          rw [if_pos hb, k1]
        have g1 := gd_drop T p (rdP (T.drop p) + 1)
        have g2 := gd_drop T p (rdP (T.drop p) + 2)
        rw [g1] at c1 k5
        rw [g2] at c2 k5
        have dd : (T.drop p).drop (rdP (T.drop p) + 3) = T.drop (p + (rdP (T.drop p) + 3)) := List.drop_drop
        rw [dd] at k3 k4 k5
        generalize hRP : rdP (T.drop p) = k at *
        generalize hRH : rdH (T.drop p) = H at *
        have hA2 : mG (swd A H (T.getD (p + (k + 1)) 0 - 48) (T.getD (p + (k + 2)) 0 - 48)) (upd (upd z' (2 * H) (nI (T.getD (p + (k + 1)) 0 - 48))) (2 * H + 1) (nI (T.getD (p + (k + 2)) 0 - 48))) := ⟨swd_ok hG.1 (by omega) (by omega), hG.2.1, z_swd c3 (vOk_8 hG.1) rfl hG.2.2⟩
        have hlt : p < T.length := by omega
        -- behind the wind
        have N : ∀ hr2, J MX4_load (mQ (rLoad S)) 0 0 31 [(0, .ref 0), (1, .int (nI (p + (k + 3) + 1)))] [] (mw (nI 0, sv', nI T.length, hr2) (upd (upd z' (2 * H) (nI (T.getD (p + (k + 1)) 0 - 48))) (2 * H + 1) (nI (T.getD (p + (k + 2)) 0 - 48))) (r.1, sd, r.2.2)) := by
          intro hr2
          rw [k4] at hs
          rw [k5] at hB
          by_cases qe : p + (k + 3) < T.length
          · have hd2 := t_drop qe
            rw [hd2, stL_c, pa6] at hs
            by_cases q59 : T.getD (p + (k + 3)) 0 = 59
            · rw [if_pos q59] at hs
              rw [hd2, q59, blL_c, if_neg (by decide), if_neg (by decide), if_neg (by decide), if_neg (by decide)] at hB
              exact ih (T.length - (p + (k + 3) + 1)) (by omega) (p + (k + 3) + 1) hr2 _ _ _ _ rfl (by omega) hs hA2 hB
            · rw [if_neg q59, stL_7] at hs
              exact absurd hs (by decide)
          · have hd2 : T.drop (p + (k + 3)) = [] := List.drop_eq_nil_of_le (by omega)
            rw [hd2] at hB
            refine F _ _ hr2 (by omega) (by omega) ?_
            rw [hB]
            exact hA2
        refine J.run csX4_load 10 [] ?_
        refine ⟨fun w => absurd ((n_le (a := T.length) (b := p) (by omega) (by omega)).mp w) (by omega), fun _ => ?_⟩
        refine J.callVI 0 0 [] (as := [.int (nI p)]) (c_X4_readWind hx' hp) kX4_readWind mRX4_107 dX4_load_41 (by decide) (by decide) rfl rfl rfl (Nat.le_of_ble_eq_true rfl) (i0 := 0) rfl (ci := 4) rfl rfl (Nat.le_refl _) (Nat.le_refl _) ?_ ?_
        rotate_left
        · rintro E9 h9 ⟨hr2, hv, -⟩
          cases hv
        rintro v h9 ⟨hr2, hv, hH, rfl⟩
        cases hv
        refine ⟨rfl, ?_⟩
        have hH : hr2 = nI H := by
          rw [hH hb, hRH]
        subst hH
        rw [ev]
        have e1 : nI 2 * nI H = nI (2 * H) := n_mul _ _
        have ep : nI (p + (k + 3)) + nI 1 = nI (p + (k + 3) + 1) := nI_add _ _
        have p3 : nI (p + (k + 3) + 1) - nI 3 = nI (p + (k + 1)) := by
          rw [pk_sub (by omega)]
          congr 1
        have p2 : nI (p + (k + 3) + 1) - nI 2 = nI (p + (k + 2)) := by
          rw [pk_sub (by omega)]
          congr 1
        have x3 : r.2.2.2.2 (nI (p + (k + 3) + 1) - nI 3).toNatClampNeg - nI 48 = nI (T.getD (p + (k + 1)) 0 - 48) := by
          rw [p3, cl_n (by omega), hx.2.2 (p + (k + 1)) (by omega), pk_sub c1.1]
        have x2 : r.2.2.2.2 (nI (p + (k + 3) + 1) - nI 2).toNatClampNeg - nI 48 = nI (T.getD (p + (k + 2)) 0 - 48) := by
          rw [p2, cl_n (by omega), hx.2.2 (p + (k + 2)) (by omega), pk_sub c2.1]
        have v1 : vp_in (nI 2 * nI H) 150 := by
          rw [e1]
          exact vp_n (by omega) (by decide)
        have v2 : vp_in (nI 2 * nI H + nI 1) 150 := by
          rw [e1, nI_add]
          exact vp_n (by omega) (by decide)
        have v3 : vp_in (nI (p + (k + 3) + 1) - nI 3) 60 := by
          rw [p3]
          exact vp_n (by omega) (by decide)
        have v4 : vp_in (nI (p + (k + 3) + 1) - nI 2) 60 := by
          rw [p2]
          exact vp_n (by omega) (by decide)
        have X := N (nI H)
        rw [← x3, ← x2] at X
        have Y : J MX4_load (mQ (rLoad S)) 0 0 47 [(0, .ref 0), (1, .int (nI (p + (k + 3) + 1)))] [] (mw (nI 0, sv', nI T.length, nI H) z' (r.1, sd, r.2.2)) := by
          refine J.run csX4_load 60 [(31, 2)] ?_
          refine ⟨v3, v1, v4, v2, ?_⟩
          refine J.cast X rfl rfl ?_
          show _ = mw (nI 0, sv', nI T.length, nI H) (upd (upd z' (nI 2 * nI H).toNatClampNeg (r.2.2.2.2 (nI (p + (k + 3) + 1) - nI 3).toNatClampNeg - nI 48)) (nI 2 * nI H + nI 1).toNatClampNeg (r.2.2.2.2 (nI (p + (k + 3) + 1) - nI 2).toNatClampNeg - nI 48)) (r.1, sd, r.2.2)
          rw [e1, nI_add, cl_n (show 2 * H < 2 ^ 31 by omega), cl_n (show 2 * H + 1 < 2 ^ 31 by omega)]
        rw [← ep] at Y
        refine J.run csX4_load 4 [(47, 2)] ?_
        exact Y
    refine J.run csX4_load 5 [(31, 2)] ?_
    exact L T.length 0 hr1 z S.1 0 0 rfl (Nat.zero_le _) q hm.1 rfl
  · have er : rLoad S = (1, S, 0) := by
      rw [← hT] at q
      exact if_neg q
    rw [if_neg q]
    have hle := fwL_le T 0
    refine J.run csX4_load 20 [] ?_
    refine ⟨fun _ => ⟨fun w => absurd (show nI 1 ≤ 0 from w) (by decide), fun _ => ?_⟩, fun w => absurd (nI_pos' (by omega)) w⟩
    exact mQ_e (t := (nI 1, sv, nI T.length, hr1)) (mRl_hr h _ _) er rfl
