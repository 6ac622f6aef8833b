/-! The model's digest. -/
theorem hz_app (f : Nat → Int32) : ∀ (a b k : Nat) (h : Int64), hz f (a + b) k h = hz f b (k + a) (hz f a k h)
  | 0, b, k, h => by rw [Nat.zero_add]; rfl
  | a + 1, b, k, h => by
    rw [Nat.add_right_comm]
    show hz f (a + b) (k + 1) (hN h (f k)) = hz f b (k + (a + 1)) (hz f a (k + 1) (hN h (f k)))
    rw [hz_app f a b, Nat.add_right_comm, Nat.add_assoc k a 1]
theorem hz_sh (f g : Nat → Int32) : ∀ (a k j : Nat) (h : Int64), (∀ i, i < a → f (k + i) = g (j + i)) → hz f a k h = hz g a j h
  | 0, _, _, _, _ => rfl
  | a + 1, k, j, h, e => by
    show hz f a (k + 1) (hN h (f k)) = hz g a (j + 1) (hN h (g j))
    rw [show f k = g j from e 0 (by omega)]
    refine hz_sh f g a (k + 1) (j + 1) _ (fun i hi => ?_)
    have := e (i + 1) (by omega)
    rw [show k + 1 + i = k + (i + 1) by omega, show j + 1 + i = j + (i + 1) by omega]
    exact this
theorem hz_flat (f : Nat → Nat → Int32) {m : Nat} (hm : 0 < m) : ∀ (d i : Nat) (h : Int64), hz2 f m (fun _ h => h) d i h = hz (fun k => f (k / m) (k % m)) (m * d) (m * i) h
  | 0, _, _ => rfl
  | d + 1, i, h => by
    show hz2 f m (fun _ h => h) d (i + 1) (hz (f i) m 0 h) = _
    rw [hz_flat f hm d (i + 1), show m * (d + 1) = m + m * d by rw [Nat.mul_succ, Nat.add_comm], hz_app, show m * i + m = m * (i + 1) from (Nat.mul_succ m i).symm]
    congr 1
    refine hz_sh _ _ m 0 (m * i) h (fun j hj => ?_)
    show f i (0 + j) = f ((m * i + j) / m) ((m * i + j) % m)
    rw [Nat.zero_add, Nat.mul_add_div hm, Nat.mul_add_mod, Nat.div_eq_of_lt hj, Nat.mod_eq_of_lt hj, Nat.add_zero]
abbrev mdP (S : aS) (r : Int64) (pc : Nat) (G : aS → Int64 → Int64) : Prop := ∀ t z rr h, mRl S t z rr → G S h = r → J MX4_digest (mQD S (.long r)) 0 0 pc [(0, .ref 0), (1, .long h)] [] (mw t z rr)
theorem md_T11 {S : aS} {r : Int64} : mdP S r 351 dg11 := by
  intro t z rr h hm e
  obtain ⟨hn, ht, htr⟩ := id hm.2.2.2
  obtain ⟨t0, sv, ln, hr0⟩ := t
  have hn : ln = nI (s_t S).length := hn
  have hl : (s_t S).length ≤ 60 := ht.1
  subst hn
  have L : ∀ (d k : Nat) (h : Int64), k + d = (s_t S).length → hz (fun k => nI ((s_t S).getD k 0)) d k h = r → J MX4_digest (mQD S (.long r)) 0 0 353 [(0, .ref 0), (1, .long h), (3, .int (nI k))] [] (mw (t0, sv, nI (s_t S).length, hr0) z rr) := by
    intro d
    induction d with
    | zero =>
      intro k h hk e
      refine J.run csX4_digest 20 [] ?_
      refine ⟨fun _ => ⟨by rw [← e]; rfl, _, _, _, hm, rfl⟩, fun q => absurd ((n_le (a := (s_t S).length) (b := k) (by omega) (by omega)).mpr (by omega)) q⟩
    | succ d ih =>
      intro k h hk e
      have ih' := ih (k + 1) (hN h (nI ((s_t S).getD k 0))) (by omega) e
      have ec : rr.2.2.2.2 (nI k).toNatClampNeg = nI ((s_t S).getD k 0) := by
        rw [cl_n (by omega)]
        exact htr k (by show k < (s_t S).length; omega)
      rw [nI_succ k, ← ec] at ih'
      refine J.run csX4_digest 40 [(353, 4)] ?_
      refine ⟨fun q => absurd ((n_le (a := (s_t S).length) (b := k) (by omega) (by omega)).mp q) (by omega), fun _ => ⟨vp_n (by omega) (by decide), ?_⟩⟩
      exact ih'
  refine J.run csX4_digest 5 [(353, 4)] ?_
  exact L _ 0 h (Nat.zero_add _) e
theorem md_T10 {S : aS} {r : Int64} : mdP S r 339 dg10 := by
  intro t z rr h hm e
  have X := md_T11 t z rr _ hm e
  obtain ⟨t0, sv, ln, hr0⟩ := t
  have hn : ln = nI (s_t S).length := hm.2.2.2.1
  subst hn
  refine J.run csX4_digest 20 [(351, 3)] ?_
  exact X
theorem md_T9 {S : aS} {r : Int64} : mdP S r 297 dg9 := by
  intro t z rr h hm e
  have X : J MX4_digest (mQD S (.long r)) 0 0 339 [(0, .ref 0), (1, .long (hN (hN h (if (S.2.1 0).isSome then 1 else 0)) (if (S.2.1 1).isSome then 1 else 0)))] [] (mw t z rr) := md_T10 t z rr _ hm e
  have ef : ∀ i, i < 2 → rr.2.2.2.1 (nI i).toNatClampNeg = if (S.2.1 i).isSome then 1 else 0 := fun i hi => by
    obtain ⟨g1, g2⟩ := hm.2.1 i hi
    rw [cl_n (by omega)]
    cases w : S.2.1 i with
    | none => exact g1 w
    | some B => exact (g2 B w).1
  have k0 := ef 0 (by decide)
  have k1 := ef 1 (by decide)
  have v0 : vp_in (nI 0) 2 := vp_n (by decide) (by decide)
  have v1 : vp_in (nI 1) 2 := vp_n (by decide) (by decide)
  cases w0 : (S.2.1 0).isSome with
  | false =>
    have k0 : rr.2.2.2.1 (nI 0).toNatClampNeg = 0 := by rw [k0, w0]; rfl
    cases w1 : (S.2.1 1).isSome with
    | false =>
      have k1 : rr.2.2.2.1 (nI 1).toNatClampNeg = 0 := by rw [k1, w1]; rfl
      rw [w0, w1] at X
      refine J.run csX4_digest 60 [(339, 3)] ?_
      exact ⟨v0, fun _ => ⟨v1, fun _ => X, fun q => absurd k1 q⟩, fun q => absurd k0 q⟩
    | true =>
      have k1 : rr.2.2.2.1 (nI 1).toNatClampNeg = 1 := by rw [k1, w1]; rfl
      rw [w0, w1] at X
      refine J.run csX4_digest 60 [(339, 3)] ?_
      exact ⟨v0, fun _ => ⟨v1, fun q => absurd (k1.symm.trans q) (by decide), fun _ => X⟩, fun q => absurd k0 q⟩
  | true =>
    have k0 : rr.2.2.2.1 (nI 0).toNatClampNeg = 1 := by rw [k0, w0]; rfl
    cases w1 : (S.2.1 1).isSome with
    | false =>
      have k1 : rr.2.2.2.1 (nI 1).toNatClampNeg = 0 := by rw [k1, w1]; rfl
      rw [w0, w1] at X
      refine J.run csX4_digest 60 [(339, 3)] ?_
      exact ⟨v0, fun q => absurd (k0.symm.trans q) (by decide), fun _ => ⟨v1, fun _ => X, fun q => absurd k1 q⟩⟩
    | true =>
      have k1 : rr.2.2.2.1 (nI 1).toNatClampNeg = 1 := by rw [k1, w1]; rfl
      rw [w0, w1] at X
      refine J.run csX4_digest 60 [(339, 3)] ?_
      exact ⟨v0, fun q => absurd (k0.symm.trans q) (by decide), fun _ => ⟨v1, fun q => absurd (k1.symm.trans q) (by decide), fun _ => X⟩⟩
theorem shD_nan : ∀ n, n < 25 → Op.cmpValue (FP.dcmp (shD n) (shD n)) .l = 0 := by decide +kernel
theorem c_isNaN {x : UInt64} (h : Op.cmpValue (FP.dcmp x x) .l = 0) : Ct MJxe99ae_isNaN_b9ae7 0 0 [.double x] [] (jd (.inl (some (.int 0))) []) := by
  refine Ct.of rfl rfl (by decide +kernel) rfl (Nat.le_of_ble_eq_true rfl) ?_
  refine J.run csJxe99ae_isNaN_b9ae7 20 [] ?_
  exact ⟨fun _ => ⟨Or.inl rfl, jd_i rfl rfl⟩, fun q => absurd h q⟩
theorem c_dlb {x : UInt64} (h : Op.cmpValue (FP.dcmp x x) .l = 0) : Ct MJxe99ae_doubleToLongBits_ccdee 0 0 [.double x] [] (jd (.inl (some (.long x.toInt64))) []) := by
  refine Ct.of rfl rfl (by decide +kernel) rfl (Nat.le_of_ble_eq_true rfl) ?_
  refine J.run csJxe99ae_doubleToLongBits_ccdee 1 [] ?_
  refine J.callS 0 0 [] [] (as := [.double x]) (c_isNaN h) kJxe99ae_isNaN_b9ae7 mRJxe99ae_122 dJxe99ae_doubleToLongBits_ccdee_1 (by decide) (by decide) rfl rfl rfl (Nat.le_of_ble_eq_true rfl) rfl rfl (Nat.le_refl _) (Nat.le_refl _) ?_ ?_
  · rintro v h' ⟨hv, rfl⟩
    cases hv
    refine ⟨rfl, ?_⟩
    refine J.run csJxe99ae_doubleToLongBits_ccdee 10 [] ?_
    exact ⟨fun q => absurd rfl q, fun _ => ⟨Nat.le_of_ble_eq_true rfl, jd_i rfl rfl⟩⟩
  · rintro E h' ⟨hv, -⟩
    cases hv
theorem md_T8 {S : aS} {r : Int64} : mdP S r 278 dg8 := by
  intro t z rr h hm e
  have hle := agh_le S.1
  refine J.run csX4_digest 5 [] ?_
  refine J.callR [.long (31 * h)] (c_X4_hoursOfDay (t := t) (r := rr) hm.1.1 hm.1.2.2) kX4_hoursOfDay mRX4_113 dX4_digest_284 (by decide) rfl rfl (Nat.le_of_ble_eq_true rfl) (i0 := 0) rfl (ci := 4) rfl rfl ?_
  refine J.run csX4_digest 5 [] ?_
  refine ⟨vfb_i (shD_vf _ (by omega)), ?_⟩
  refine J.callS 0 0 [.long (31 * h)] [] (as := [.double (shD (agh S.1))]) (c_dlb (shD_nan _ (by omega))) kJxe99ae_doubleToLongBits_ccdee mRX4_173 dX4_digest_292 (by decide) (by decide) rfl rfl rfl (Nat.le_of_ble_eq_true rfl) rfl rfl (Nat.le_refl _) (Nat.le_refl _) ?_ ?_
  · rintro v h' ⟨hv, rfl⟩
    cases hv
    refine ⟨rfl, ?_⟩
    refine J.run csX4_digest 5 [(297, 3)] ?_
    exact md_T9 t z rr _ hm e
  · rintro E h' ⟨hv, -⟩
    cases hv
theorem md_T7 {S : aS} {r : Int64} : mdP S r 256 dg7 := by
  intro t z rr h hm e
  refine J.run csX4_digest 6 [] ?_
  refine J.callR [.long (31 * h), .long 31] (c_X4_turnsNow (t := t) (r := rr) hm.1.1 hm.1.2.2) kX4_turnsNow mRX4_161 dX4_digest_265 (by decide) rfl rfl (Nat.le_of_ble_eq_true rfl) (i0 := 0) rfl (ci := 4) rfl rfl ?_
  refine J.run csX4_digest 8 [] ?_
  refine J.callR [.long (31 * hN h (trF S.1 24 0))] (c_X4_findMain (t := t) (r := rr) hm.1.1 hm.1.2.2) kX4_findMain mRX4_164 dX4_digest_272 (by decide) rfl rfl (Nat.le_of_ble_eq_true rfl) (i0 := 0) rfl (ci := 4) rfl rfl ?_
  refine J.run csX4_digest 4 [(278, 3)] ?_
  exact md_T8 t z rr _ hm e
theorem md_T6 {S : aS} {r : Int64} : mdP S r 198 dg6 := by
  intro t z rr h hm e
  have L : ∀ (d i : Nat) (h : Int64) (z : Nat → Int32) (rr : mR), mRl S t z rr → i + d = 5 → dg7 S (hz2 (owV S.1) 4 (fun o h => hN h (nI (pF S.1 o 9 3))) d i h) = r → J MX4_digest (mQD S (.long r)) 0 0 200 [(0, .ref 0), (1, .long h), (3, .int (nI i))] [] (mw t z rr) := by
    intro d
    induction d with
    | zero =>
      intro i h z rr hm hi e
      refine J.run csX4_digest 20 [(256, 3)] ?_
      refine ⟨fun _ => md_T7 t z rr h hm e, fun q => absurd ((n_le (a := 5) (b := i) (by decide) (by omega)).mpr (by omega)) q⟩
    | succ d ih =>
      intro i h z rr hm hi e
      have hin : i < 5 := by omega
      have I : ∀ (d' w : Nat) (h : Int64), w + d' = 4 → dg7 S (hz2 (owV S.1) 4 (fun o h => hN h (nI (pF S.1 o 9 3))) d (i + 1) (((fun o h => hN h (nI (pF S.1 o 9 3))) : Nat → Int64 → Int64) i (hz ((owV S.1) i) d' w h))) = r → J MX4_digest (mQD S (.long r)) 0 0 208 [(0, .ref 0), (1, .long h), (3, .int (nI i)), (4, .int (nI w))] [] (mw t z rr) := by
        intro d'
        induction d' with
        | zero =>
          intro w h hw e
          have ih' := fun z rr hm => ih (i + 1) _ z rr hm (by omega) e
          rw [nI_succ i] at ih'
          refine J.run csX4_digest 3 [(235, 4)] ?_
          refine ⟨fun _ => ?_, fun q => absurd ((n_le (a := 4) (b := w) (by decide) (by omega)).mpr (by omega)) q⟩
          refine J.run csX4_digest 6 [] ?_
          refine J.callVI 0 0 [.long (31 * h)] (as := [.int (nI i), .int (nI 9)]) (c_X4_passed (t := t) (r := rr) hm.1.1 hm.1.2.2 hin (show 9 < 100 by decide) (by have := hm.1.2.1; omega)) kX4_passed mRX4_158 dX4_digest_244 (by decide) (by decide) rfl rfl rfl (Nat.le_of_ble_eq_true rfl) (i0 := 0) rfl (ci := 4) rfl rfl (Nat.le_refl _) (Nat.le_refl _) ?_ ?_
          · rintro v h' ⟨hv, z', a', hz', rfl⟩
            cases hv
            refine ⟨rfl, ?_⟩
            refine J.run csX4_digest 8 [(200, 4)] ?_
            exact ih' z' (a', rr.2) ⟨⟨hm.1.1, hm.1.2.1, hz'⟩, hm.2⟩
          · rintro E h' ⟨hv, -⟩
            cases hv
        | succ d' ih2 =>
          intro w h hw e
          have hwm : w < 4 := by omega
          have ih2' := ih2 (w + 1) _ (by omega) e
          rw [nI_succ w] at ih2'
          refine J.run csX4_digest 3 [] ?_
          refine ⟨fun q => absurd ((n_le (a := 4) (b := w) (by decide) (by omega)).mp q) (by omega), fun _ => ?_⟩
          refine J.run csX4_digest 6 [] ?_
          refine J.callR [.long (31 * h)] (c_X4_ownerNow (t := t) (r := rr) hm.1.1 hm.1.2.2 hin (show w ≤ 3 by omega)) kX4_ownerNow mRX4_140 dX4_digest_223 (by decide) rfl rfl (Nat.le_of_ble_eq_true rfl) (i0 := 0) rfl (ci := 4) rfl rfl ?_
          refine J.run csX4_digest 10 [(208, 5)] ?_
          exact ih2'
      refine J.run csX4_digest 3 [] ?_
      refine ⟨fun q => absurd ((n_le (a := 5) (b := i) (by decide) (by omega)).mp q) (by omega), fun _ => ?_⟩
      refine J.run csX4_digest 3 [(208, 5)] ?_
      exact I 4 0 h (Nat.zero_add _) e
  refine J.run csX4_digest 5 [(200, 4)] ?_
  exact L 5 0 h z rr hm (Nat.zero_add _) e
theorem md_T5 {S : aS} {r : Int64} : mdP S r 130 dg5 := by
  intro t z rr h hm e
  have L : ∀ (d i : Nat) (h : Int64) (z : Nat → Int32) (rr : mR), mRl S t z rr → i + d = 3 → dg6 S (hz2 (miV S.1) 6 (fun m h => hN (hN h (doV S.1 m)) (doV S.1 m)) d i h) = r → J MX4_digest (mQD S (.long r)) 0 0 132 [(0, .ref 0), (1, .long h), (3, .int (nI i))] [] (mw t z rr) := by
    intro d
    induction d with
    | zero =>
      intro i h z rr hm hi e
      refine J.run csX4_digest 20 [(198, 3)] ?_
      refine ⟨fun _ => md_T6 t z rr h hm e, fun q => absurd ((n_le (a := 3) (b := i) (by decide) (by omega)).mpr (by omega)) q⟩
    | succ d ih =>
      intro i h z rr hm hi e
      have hin : i < 3 := by omega
      have I : ∀ (d' w : Nat) (h : Int64), w + d' = 6 → dg6 S (hz2 (miV S.1) 6 (fun m h => hN (hN h (doV S.1 m)) (doV S.1 m)) d (i + 1) (((fun m h => hN (hN h (doV S.1 m)) (doV S.1 m)) : Nat → Int64 → Int64) i (hz ((miV S.1) i) d' w h))) = r → J MX4_digest (mQD S (.long r)) 0 0 140 [(0, .ref 0), (1, .long h), (3, .int (nI i)), (4, .int (nI w))] [] (mw t z rr) := by
        intro d'
        induction d' with
        | zero =>
          intro w h hw e
          have ih' := fun z rr hm => ih (i + 1) _ z rr hm (by omega) e
          rw [nI_succ i] at ih'
          refine J.run csX4_digest 3 [(168, 4)] ?_
          refine ⟨fun _ => ?_, fun q => absurd ((n_le (a := 6) (b := w) (by decide) (by omega)).mpr (by omega)) q⟩
          refine J.run csX4_digest 7 [] ?_
          refine J.callR [.long (31 * h), .long 31] (c_X4_doneNow (t := t) (r := rr) hm.1.1 hm.1.2.2 hin) kX4_doneNow mRX4_149 dX4_digest_178 (by decide) rfl rfl (Nat.le_of_ble_eq_true rfl) (i0 := 0) rfl (ci := 4) rfl rfl ?_
          refine J.run csX4_digest 8 [] ?_
          refine J.callR [.long (31 * hN h (doV S.1 i))] (c_X4_doneNow (t := t) (r := rr) hm.1.1 hm.1.2.2 hin) kX4_doneNow mRX4_149 dX4_digest_186 (by decide) rfl rfl (Nat.le_of_ble_eq_true rfl) (i0 := 0) rfl (ci := 4) rfl rfl ?_
          refine J.run csX4_digest 8 [(132, 4)] ?_
          exact ih' z rr hm
        | succ d' ih2 =>
          intro w h hw e
          have hwm : w < 6 := by omega
          have ih2' := ih2 (w + 1) _ (by omega) e
          rw [nI_succ w] at ih2'
          refine J.run csX4_digest 3 [] ?_
          refine ⟨fun q => absurd ((n_le (a := 6) (b := w) (by decide) (by omega)).mp q) (by omega), fun _ => ?_⟩
          refine J.run csX4_digest 6 [] ?_
          refine J.callR [.long (31 * h)] (c_X4_millNow (t := t) (r := rr) hm.1.1 hm.1.2.2 hin (show w ≤ 5 by omega)) kX4_millNow mRX4_131 dX4_digest_156 (by decide) rfl rfl (Nat.le_of_ble_eq_true rfl) (i0 := 0) rfl (ci := 4) rfl rfl ?_
          refine J.run csX4_digest 10 [(140, 5)] ?_
          exact ih2'
      refine J.run csX4_digest 3 [] ?_
      refine ⟨fun q => absurd ((n_le (a := 3) (b := i) (by decide) (by omega)).mp q) (by omega), fun _ => ?_⟩
      refine J.run csX4_digest 3 [(140, 5)] ?_
      exact I 6 0 h (Nat.zero_add _) e
  refine J.run csX4_digest 5 [(132, 4)] ?_
  exact L 3 0 h z rr hm (Nat.zero_add _) e
theorem md_T4 {S : aS} {r : Int64} : mdP S r 96 dg4 := by
  intro t z rr h hm e
  have e : dg5 S (hz (fun k => vaV S.1 (k / 6) (k % 6)) 36 0 h) = r := by
    rw [← e]
    exact congrArg (dg5 S) (hz_flat (vaV S.1) (by decide) 6 0 h).symm
  have L : ∀ (d k : Nat) (h : Int64), k + d = 36 → dg5 S (hz (fun k => vaV S.1 (k / 6) (k % 6)) d k h) = r → J MX4_digest (mQD S (.long r)) 0 0 98 [(0, .ref 0), (1, .long h), (3, .int (nI k))] [] (mw t z rr) := by
    intro d
    induction d with
    | zero =>
      intro k h hk e
      refine J.run csX4_digest 20 [(130, 3)] ?_
      refine ⟨fun _ => md_T5 t z rr h hm e, fun q => absurd ((n_le (a := 36) (b := k) (by decide) (by omega)).mpr (by omega)) q⟩
    | succ d ih =>
      intro k h hk e
      have ih' := ih (k + 1) _ (by omega) e
      rw [nI_succ k] at ih'
      have ne : ¬ (6 : Int32) = 0 := by decide
      have ed : nI k / nI 6 = nI (k / 6) := pk_div (by omega) (by decide) (by decide)
      have em : nI k - nI k / nI 6 * nI 6 = nI (k % 6) := pk_rem (by omega) (by decide) (by decide)
      refine J.run csX4_digest 3 [] ?_
      refine ⟨fun q => absurd ((n_le (a := 36) (b := k) (by decide) (by omega)).mp q) (by omega), fun _ => ?_⟩
      refine J.run csX4_digest 20 [] ?_
      refine ⟨ne, ne, ?_⟩
      refine J.callR [.long (31 * h)] (as := [.int (nI (k / 6)), .int (nI (k % 6))]) (c_X4_vaneNow (t := t) (r := rr) hm.1.1 hm.1.2.2 (show k / 6 < 6 by omega) (show k % 6 ≤ 5 by omega)) kX4_vaneNow mRX4_125 dX4_digest_118 (by decide) rfl (by rw [← ed, ← em]; rfl) (Nat.le_of_ble_eq_true rfl) (i0 := 0) rfl (ci := 4) rfl rfl ?_
      refine J.run csX4_digest 10 [(98, 4)] ?_
      exact ih'
  refine J.run csX4_digest 5 [(98, 4)] ?_
  exact L 36 0 h (Nat.zero_add _) e
theorem md_T3 {S : aS} {r : Int64} : mdP S r 64 dg3 := by
  intro t z rr h hm e
  have e : dg4 S (hz (fun k => hoV S.1 (k / 5) (k % 5)) 120 0 h) = r := by
    rw [← e]
    exact congrArg (dg4 S) (hz_flat (hoV S.1) (by decide) 24 0 h).symm
  have L : ∀ (d k : Nat) (h : Int64), k + d = 120 → dg4 S (hz (fun k => hoV S.1 (k / 5) (k % 5)) d k h) = r → J MX4_digest (mQD S (.long r)) 0 0 66 [(0, .ref 0), (1, .long h), (3, .int (nI k))] [] (mw t z rr) := by
    intro d
    induction d with
    | zero =>
      intro k h hk e
      refine J.run csX4_digest 20 [(96, 3)] ?_
      refine ⟨fun _ => md_T4 t z rr h hm e, fun q => absurd ((n_le (a := 120) (b := k) (by decide) (by omega)).mpr (by omega)) q⟩
    | succ d ih =>
      intro k h hk e
      have ih' := ih (k + 1) _ (by omega) e
      rw [nI_succ k] at ih'
      have ne : ¬ (5 : Int32) = 0 := by decide
      have ed : nI k / nI 5 = nI (k / 5) := pk_div (by omega) (by decide) (by decide)
      have em : nI k - nI k / nI 5 * nI 5 = nI (k % 5) := pk_rem (by omega) (by decide) (by decide)
      refine J.run csX4_digest 3 [] ?_
      refine ⟨fun q => absurd ((n_le (a := 120) (b := k) (by decide) (by omega)).mp q) (by omega), fun _ => ?_⟩
      refine J.run csX4_digest 20 [] ?_
      refine ⟨ne, ne, ?_⟩
      refine J.callR [.long (31 * h)] (as := [.int (nI (k / 5)), .int (nI (k % 5))]) (c_X4_hourNow (t := t) (r := rr) hm.1.1 hm.1.2.2 (show k / 5 < 24 by omega) (show k % 5 ≤ 4 by omega)) kX4_hourNow mRX4_116 dX4_digest_84 (by decide) rfl (by rw [← ed, ← em]; rfl) (Nat.le_of_ble_eq_true rfl) (i0 := 0) rfl (ci := 4) rfl rfl ?_
      refine J.run csX4_digest 10 [(66, 4)] ?_
      exact ih'
  refine J.run csX4_digest 5 [(66, 4)] ?_
  exact L 120 0 h (Nat.zero_add _) e
theorem md_T2 {S : aS} {r : Int64} : mdP S r 36 dg2 := by
  intro t z rr h hm e
  have X : J MX4_digest (mQD S (.long r)) 0 0 64 [(0, .ref 0), (1, .long (hN (hN h (nI (v_se S.1 0))) (nI (v_se S.1 1))))] [] (mw t z rr) := md_T3 t z rr _ hm e
  have z0 : z (nI 72).toNatClampNeg = nI (v_se S.1 0) := hm.1.2.2.2.2.1 0 (by decide)
  have z1 : z (nI 73).toNatClampNeg = nI (v_se S.1 1) := hm.1.2.2.2.2.1 1 (by decide)
  rw [← z0, ← z1] at X
  refine J.run csX4_digest 40 [(64, 3)] ?_
  exact ⟨vp_n (a := 72) (by decide) (by decide), vp_n (a := 73) (by decide) (by decide), X⟩
theorem md_T1 {S : aS} {r : Int64} : mdP S r 9 dg1 := by
  intro t z rr h hm e
  have L : ∀ (d k : Nat) (h : Int64), k + d = 9 → dg2 S (hz (coV S) d k h) = r → J MX4_digest (mQD S (.long r)) 0 0 11 [(0, .ref 0), (1, .long h), (3, .int (nI k))] [] (mw t z rr) := by
    intro d
    induction d with
    | zero =>
      intro k h hk e
      refine J.run csX4_digest 20 [(36, 3)] ?_
      refine ⟨fun _ => md_T2 t z rr h hm e, fun q => absurd ((n_le (a := 9) (b := k) (by decide) (by omega)).mpr (by omega)) q⟩
    | succ d ih =>
      intro k h hk e
      have ih' := ih (k + 1) _ (by omega) e
      rw [nI_succ k] at ih'
      refine J.run csX4_digest 3 [] ?_
      refine ⟨fun q => absurd ((n_le (a := 9) (b := k) (by decide) (by omega)).mp q) (by omega), fun _ => ?_⟩
      refine J.run csX4_digest 10 [] ?_
      refine J.callR [.long (31 * h)] (c_X4_countNow (S := S) (t := t) (r := rr) hm.1.1 hm.1.2.2 hm.2.2.1.1 (show k ≤ 8 by omega)) kX4_countNow mRX4_146 dX4_digest_24 (by decide) rfl rfl (Nat.le_of_ble_eq_true rfl) (i0 := 0) rfl (ci := 4) rfl rfl ?_
      refine J.run csX4_digest 10 [(11, 4)] ?_
      exact ih'
  refine J.run csX4_digest 5 [(11, 4)] ?_
  exact L 9 0 h (Nat.zero_add _) e
theorem c_X4_digest {S : aS} {t : mT} {z : Nat → Int32} {r : mR} (h : mRl S t z r) : Ct MX4_digest 0 0 [.ref 0] (mw t z r) (mQD S (.long (digV S))) := by
  refine Ct.of rfl rfl (by decide +kernel) rfl (Nat.le_of_ble_eq_true rfl) ?_
  refine J.run csX4_digest 6 [(9, 3)] ?_
  exact md_T1 (nI 0, t.2) z r 3671 (mRl_t h _) rfl
