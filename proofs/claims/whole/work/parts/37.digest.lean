/-! The digest. -/
def hN (h : Int64) (x : Int32) : Int64 := 31 * h + x.toInt64
def hz (f : Nat → Int32) : Nat → Nat → Int64 → Int64
  | 0, _, h => h
  | d + 1, k, h => hz f d (k + 1) (hN h (f k))
def hz2 (f : Nat → Nat → Int32) (m : Nat) (g : Nat → Int64 → Int64) : Nat → Nat → Int64 → Int64
  | 0, _, h => h
  | d + 1, i, h => hz2 f m g d (i + 1) (g i (hz (f i) m 0 h))
def dg11 (S : aS) (h : Int64) : Int64 := hz (fun k => nI ((s_t S).getD k 0)) (s_t S).length 0 h
def dg10 (S : aS) (h : Int64) : Int64 := dg11 S (hN h (nI (s_t S).length))
def dg9 (S : aS) (h : Int64) : Int64 := dg10 S (hz (fun i => if (S.2.1 i).isSome then 1 else 0) 2 0 h)
def dg8 (S : aS) (h : Int64) : Int64 := dg9 S (31 * h + (shD (agh S.1)).toInt64)
def dg7 (S : aS) (h : Int64) : Int64 := dg8 S (hN (hN h (trF S.1 24 0)) (nI (mvF S.1 5)))
def dg6 (S : aS) (h : Int64) : Int64 := dg7 S (hz2 (owV S.1) 4 (fun o h => hN h (nI (pF S.1 o 9 3))) 5 0 h)
def dg5 (S : aS) (h : Int64) : Int64 := dg6 S (hz2 (miV S.1) 6 (fun m h => hN (hN h (doV S.1 m)) (doV S.1 m)) 3 0 h)
def dg4 (S : aS) (h : Int64) : Int64 := dg5 S (hz2 (vaV S.1) 6 (fun _ h => h) 6 0 h)
def dg3 (S : aS) (h : Int64) : Int64 := dg4 S (hz2 (hoV S.1) 5 (fun _ h => h) 24 0 h)
def dg2 (S : aS) (h : Int64) : Int64 := dg3 S (hz (fun i => nI (v_se S.1 i)) 2 0 h)
def dg1 (S : aS) (h : Int64) : Int64 := dg2 S (hz (coV S) 9 0 h)
def digV (S : aS) : Int64 := dg1 S 3671
/-- a look on the whole world -/
theorem J.look {M M' : j_M} {Φ : j_F} {bc bs pc idx n : Nat} {lv : j_L} {st : List Value} (rest : List Value) {as : List Value} {S : aS} {K : cK} {y : j_H} {w : Int32} (hC : Ct M' 0 0 (.ref 0 :: as) (clw K y) (cL S y w)) (hk : j_kV M' n) (hl : Cond.methodLink (jm_o M) idx (jm_y M') ∈ j_ws) (hd : decode (jm_b M) pc = .ok (.invokevirtual idx, 3)) (hR : jm_f M' + 1 ≤ jm_f M ∧ 8 + (jm_n M' + 11) + jm_l M' ≤ jm_l M ∧ jm_a M' = false)
    (hn : as.length = n) (hst9 : st = (Value.ref 0 :: as).reverse ++ rest) (hcat : (rest.map fun v => v.category).sum ≤ 8) (hcn : RX3 = (jm_y M').cls) (k : ∀ K, cRel S K → J M Φ bc bs (pc + 3) lv (.int w :: rest) (clw K y)) : J M Φ bc bs pc lv st (clw K y) := by
  refine J.callVI bc bs rest hC hk hl hd hR.1 hR.2.1 hR.2.2 hn hst9 hcat (i0 := 0) rfl (ci := 3) rfl hcn (Nat.le_refl _) (Nat.le_refl _) ?_ ?_
  · rintro v h' ⟨hv, K', hK', rfl⟩
    cases hv
    exact ⟨by rw [clw_len, clw_len], k K' hK'⟩
  · rintro E h' ⟨hv, -⟩
    cases hv
abbrev dgP (S : aS) (y : j_H) (r : Int64) (pc : Nat) (G : aS → Int64 → Int64) : Prop := ∀ K h, cRel S K → G S h = r → J MX3_digest (cLD S y (.long r)) 0 0 pc [(0, .ref 0), (1, .long h)] [] (clw K y)
theorem dg_T11 {S : aS} {y : j_H} {r : Int64} : dgP S y r 362 dg11 := by
  intro K h hK e
  obtain ⟨⟨A, z⟩, ⟨sn, sc, n⟩, ⟨fl, cs, rt⟩, sl, sv⟩ := K
  obtain ⟨hn, ht, hr⟩ := id hK.2.2.2
  have hn : n = (s_t S).length := hn
  have hl : (s_t S).length ≤ 60 := ht.1
  subst hn
  have L : ∀ (d k : Nat) (h : Int64), k + d = (s_t S).length → hz (fun k => nI ((s_t S).getD k 0)) d k h = r → J MX3_digest (cLD S y (.long r)) 0 0 364 [(0, .ref 0), (1, .long h), (3, .int (nI k))] [] (clw ((A, z), (sn, sc, (s_t S).length), (fl, cs, rt), sl, sv) y) := by
    intro d
    induction d with
    | zero =>
      intro k h hk e
      refine J.run csX3_digest 20 [] ?_
      refine ⟨fun _ => ⟨by rw [← e]; rfl, _, hK, rfl⟩, fun q => absurd ((n_le (a := (s_t S).length) (b := k) (by omega) (by omega)).mpr (by omega)) q⟩
    | succ d ih =>
      intro k h hk e
      have ih' := ih (k + 1) (hN h (nI ((s_t S).getD k 0))) (by omega) e
      have ec : cs (nI k).toNatClampNeg = nI ((s_t S).getD k 0) := by
        rw [cl_n (by omega)]
        exact hr k (by show k < (s_t S).length; omega)
      rw [nI_succ k, ← ec] at ih'
      refine J.run csX3_digest 40 [(364, 4)] ?_
      refine ⟨fun q => absurd ((n_le (a := (s_t S).length) (b := k) (by omega) (by omega)).mp q) (by omega), fun _ => ⟨vp_n (by omega) (by decide), ?_⟩⟩
      exact ih'
  refine J.run csX3_digest 5 [(364, 4)] ?_
  exact L _ 0 h (Nat.zero_add _) e
theorem dg_T10 {S : aS} {y : j_H} {r : Int64} : dgP S y r 347 dg10 := by
  intro K h hK e
  have hn := hK.2.2.2.1
  have X := dg_T11 (y := y) K _ hK e
  obtain ⟨⟨A, z⟩, ⟨sn, sc, n⟩, ⟨fl, cs, rt⟩, sl, sv⟩ := K
  have hn : n = (s_t S).length := hn
  subst hn
  refine J.run csX3_digest 20 [(362, 3)] ?_
  exact X
theorem dg_T9 {S : aS} {y : j_H} {r : Int64} : dgP S y r 312 dg9 := by
  intro K h hK e
  have L : ∀ (d k : Nat) (h : Int64), k + d = 2 → dg10 S (hz (fun i => if (S.2.1 i).isSome then 1 else 0) d k h) = r → J MX3_digest (cLD S y (.long r)) 0 0 314 [(0, .ref 0), (1, .long h), (3, .int (nI k))] [] (clw K y) := by
    intro d
    induction d with
    | zero =>
      intro k h hk e
      refine J.run csX3_digest 20 [(347, 3)] ?_
      refine ⟨fun _ => dg_T10 K h hK e, fun q => absurd ((n_le (a := 2) (by omega) (by omega)).mpr (by omega)) q⟩
    | succ d ih =>
      intro k h hk e
      have hk2 : k < 2 := by omega
      have ih' := ih (k + 1) (hN h (if (S.2.1 k).isSome then 1 else 0)) (by omega) e
      obtain ⟨g1, g2⟩ := hK.2.1 k hk2
      have ef : K.2.2.1.1 (nI k).toNatClampNeg = if (S.2.1 k).isSome then 1 else 0 := by
        rw [cl_n (by omega)]
        cases w : S.2.1 k with
        | none => exact g1 w
        | some B => exact (g2 B w).1
      rw [nI_succ k] at ih'
      refine J.run csX3_digest 40 [(314, 4)] ?_
      refine ⟨fun q => absurd ((n_le (a := 2) (b := k) (by omega) (by omega)).mp q) (by omega), fun _ => ⟨vp_n hk2 (by decide), fun q => ?_, fun q => ?_⟩⟩
      · have q : K.2.2.1.1 (nI k).toNatClampNeg = 0 := q
        rw [ef] at q
        have q : ¬ (S.2.1 k).isSome = true := fun w => by rw [if_pos w] at q; exact absurd q (by decide)
        rw [if_neg q] at ih'
        exact ih'
      · have q : ¬ K.2.2.1.1 (nI k).toNatClampNeg = 0 := q
        rw [ef] at q
        have q : (S.2.1 k).isSome = true := by
          cases w : (S.2.1 k).isSome with
          | true => rfl
          | false => exact absurd (by rw [w]; rfl) q
        rw [if_pos q] at ih'
        exact ih'
  refine J.run csX3_digest 5 [(314, 4)] ?_
  exact L 2 0 h (Nat.zero_add _) e
theorem dg_T8 {S : aS} {y : j_H} {r : Int64} : dgP S y r 298 dg8 := by
  intro K h hK e
  refine J.run csX3_digest 5 [] ?_
  refine J.callVI 0 0 [.long (31 * h)] (as := []) (c_X3_turnShare0 hK) kX3_turnShare mRX3_245 dX3_digest_304 (by decide) (by decide) rfl rfl rfl (Nat.le_of_ble_eq_true rfl) (i0 := 0) rfl (ci := 3) rfl rfl (Nat.le_refl _) (Nat.le_refl _) ?_ ?_
  · rintro v h' ⟨hv, K', hK', rfl⟩
    cases hv
    refine ⟨by rw [clw_len, clw_len], ?_⟩
    have hle := agh_le S.1
    refine J.callS 0 0 [.long (31 * h)] [] (as := [.double (shD (agh S.1))]) (c_X3_bitsSh (by omega)) kX3_bitsOf mRX3_249 dX3_digest_307 (by decide) (by decide) rfl rfl rfl (Nat.le_of_ble_eq_true rfl) rfl rfl (Nat.le_refl _) (Nat.le_refl _) ?_ ?_
    · rintro v h' ⟨hv, rfl⟩
      cases hv
      refine ⟨rfl, ?_⟩
      refine J.run csX3_digest 5 [(312, 3)] ?_
      exact dg_T9 K' _ hK' e
    · rintro E h' ⟨hv, -⟩
      cases hv
  · rintro E h' ⟨hv, -⟩
    cases hv
theorem dg_T7 {S : aS} {y : j_H} {r : Int64} : dgP S y r 274 dg7 := by
  intro K h hK e
  refine J.run csX3_digest 5 [] ?_
  refine J.look [.long (31 * h)] (as := []) (c_X3_turnsIn0 hK) kX3_turnsIn mRX3_239 dX3_digest_280 (by decide) rfl rfl (Nat.le_of_ble_eq_true rfl) rfl (fun K hK => ?_)
  refine J.run csX3_digest 8 [] ?_
  refine J.look [.long (31 * hN h (trF S.1 24 0))] (as := []) (c_X3_mainVane0 hK) kX3_mainVane mRX3_242 dX3_digest_292 (by decide) rfl rfl (Nat.le_of_ble_eq_true rfl) rfl (fun K hK => ?_)
  refine J.run csX3_digest 3 [(298, 3)] ?_
  exact dg_T8 K _ hK e
theorem dg_T6 {S : aS} {y : j_H} {r : Int64} : dgP S y r 216 dg6 := by
  intro K h hK e
  have L : ∀ (d i : Nat) (h : Int64) (K : cK), cRel S K → i + d = 5 → dg7 S (hz2 (owV S.1) 4 (fun o h => hN h (nI (pF S.1 o 9 3))) d i h) = r → J MX3_digest (cLD S y (.long r)) 0 0 218 [(0, .ref 0), (1, .long h), (3, .int (nI i))] [] (clw K y) := by
    intro d
    induction d with
    | zero =>
      intro i h K hK hi e
      refine J.run csX3_digest 20 [(274, 3)] ?_
      refine ⟨fun _ => dg_T7 K h hK e, fun q => absurd ((n_le (a := 5) (b := i) (by decide) (by omega)).mpr (by omega)) q⟩
    | succ d ih =>
      intro i h K hK hi e
      have hin : i < 5 := by omega
      have I : ∀ (d' w : Nat) (h : Int64) (K : cK), cRel S K → w + d' = 4 → dg7 S (hz2 (owV S.1) 4 (fun o h => hN h (nI (pF S.1 o 9 3))) d (i + 1) (((fun o h => hN h (nI (pF S.1 o 9 3))) : Nat → Int64 → Int64) i (hz ((owV S.1) i) d' w h))) = r → J MX3_digest (cLD S y (.long r)) 0 0 226 [(0, .ref 0), (1, .long h), (3, .int (nI i)), (4, .int (nI w))] [] (clw K y) := by
        intro d'
        induction d' with
        | zero =>
          intro w h K hK hw e
          have ih' := fun K hK => ih (i + 1) _ K hK (by omega) e
          rw [nI_succ i] at ih'
          refine J.run csX3_digest 3 [(253, 4)] ?_
          refine ⟨fun _ => ?_, fun q => absurd ((n_lt (a := 3) (b := w) (by decide) (by omega)).mpr (by omega)) q⟩
          refine J.run csX3_digest 6 [] ?_
          refine J.look [.long (31 * h)] (as := [.int (nI i), .int (nI 9)]) (c_X3_ifPassed0 hK hin (show 1 ≤ 9 by decide) (show 9 ≤ 99 by decide)) kX3_ifPassed mRX3_236 dX3_digest_262 (by decide) rfl rfl (Nat.le_of_ble_eq_true rfl) rfl (fun K hK => ?_)
          refine J.run csX3_digest 8 [(218, 4)] ?_
          exact ih' K hK
        | succ d' ih2 =>
          intro w h K hK hw e
          have hwm : w < 4 := by omega
          have ih2' := fun K hK => ih2 (w + 1) _ K hK (by omega) e
          rw [nI_succ w] at ih2'
          refine J.run csX3_digest 3 [] ?_
          refine ⟨fun q => absurd ((n_lt (a := 3) (b := w) (by decide) (by omega)).mp q) (by omega), fun _ => ?_⟩
          refine J.run csX3_digest 6 [] ?_
          refine J.look [.long (31 * h)] (as := [.int (nI i), .int (nI w)]) (c_X3_ownerOf0 hK hin (show w ≤ 3 by omega)) kX3_ownerOf mRX3_233 dX3_digest_241 (by decide) rfl rfl (Nat.le_of_ble_eq_true rfl) rfl (fun K hK => ?_)
          refine J.run csX3_digest 10 [(226, 5)] ?_
          exact ih2' K hK
      refine J.run csX3_digest 3 [] ?_
      refine ⟨fun q => absurd ((n_le (a := 5) (b := i) (by decide) (by omega)).mp q) (by omega), fun _ => ?_⟩
      refine J.run csX3_digest 3 [(226, 5)] ?_
      exact I 4 0 h K hK (Nat.zero_add _) e
  refine J.run csX3_digest 5 [(218, 4)] ?_
  exact L 5 0 h K hK (Nat.zero_add _) e
theorem dg_T5 {S : aS} {y : j_H} {r : Int64} : dgP S y r 145 dg5 := by
  intro K h hK e
  have L : ∀ (d i : Nat) (h : Int64) (K : cK), cRel S K → i + d = 3 → dg6 S (hz2 (miV S.1) 6 (fun m h => hN (hN h (doV S.1 m)) (doV S.1 m)) d i h) = r → J MX3_digest (cLD S y (.long r)) 0 0 147 [(0, .ref 0), (1, .long h), (3, .int (nI i))] [] (clw K y) := by
    intro d
    induction d with
    | zero =>
      intro i h K hK hi e
      refine J.run csX3_digest 20 [(216, 3)] ?_
      refine ⟨fun _ => dg_T6 K h hK e, fun q => absurd ((n_le (a := 3) (b := i) (by decide) (by omega)).mpr (by omega)) q⟩
    | succ d ih =>
      intro i h K hK hi e
      have hin : i < 3 := by omega
      have I : ∀ (d' w : Nat) (h : Int64) (K : cK), cRel S K → w + d' = 6 → dg6 S (hz2 (miV S.1) 6 (fun m h => hN (hN h (doV S.1 m)) (doV S.1 m)) d (i + 1) (((fun m h => hN (hN h (doV S.1 m)) (doV S.1 m)) : Nat → Int64 → Int64) i (hz ((miV S.1) i) d' w h))) = r → J MX3_digest (cLD S y (.long r)) 0 0 155 [(0, .ref 0), (1, .long h), (3, .int (nI i)), (4, .int (nI w))] [] (clw K y) := by
        intro d'
        induction d' with
        | zero =>
          intro w h K hK hw e
          have ih' := fun K hK => ih (i + 1) _ K hK (by omega) e
          rw [nI_succ i] at ih'
          refine J.run csX3_digest 3 [(182, 4)] ?_
          refine ⟨fun _ => ?_, fun q => absurd ((n_lt (a := 5) (b := w) (by decide) (by omega)).mpr (by omega)) q⟩
          refine J.run csX3_digest 6 [] ?_
          refine J.look [.long (31 * h)] (as := [.int (nI i), .int (nI 0)]) (c_X3_doneIn0 hK hin (show 0 ≤ 1 by decide)) kX3_doneIn mRX3_230 dX3_digest_190 (by decide) rfl rfl (Nat.le_of_ble_eq_true rfl) rfl (fun K hK => ?_)
          refine J.run csX3_digest 9 [] ?_
          refine J.look [.long (31 * hN h (doV S.1 i))] (as := [.int (nI i), .int (nI 1)]) (c_X3_doneIn0 hK hin (show 1 ≤ 1 by decide)) kX3_doneIn mRX3_230 dX3_digest_204 (by decide) rfl rfl (Nat.le_of_ble_eq_true rfl) rfl (fun K hK => ?_)
          refine J.run csX3_digest 8 [(147, 4)] ?_
          exact ih' K hK
        | succ d' ih2 =>
          intro w h K hK hw e
          have hwm : w < 6 := by omega
          have ih2' := fun K hK => ih2 (w + 1) _ K hK (by omega) e
          rw [nI_succ w] at ih2'
          refine J.run csX3_digest 3 [] ?_
          refine ⟨fun q => absurd ((n_lt (a := 5) (b := w) (by decide) (by omega)).mp q) (by omega), fun _ => ?_⟩
          refine J.run csX3_digest 6 [] ?_
          refine J.look [.long (31 * h)] (as := [.int (nI i), .int (nI w)]) (c_X3_millOf0 hK hin (show w ≤ 5 by omega)) kX3_millOf mRX3_227 dX3_digest_170 (by decide) rfl rfl (Nat.le_of_ble_eq_true rfl) rfl (fun K hK => ?_)
          refine J.run csX3_digest 10 [(155, 5)] ?_
          exact ih2' K hK
      refine J.run csX3_digest 3 [] ?_
      refine ⟨fun q => absurd ((n_le (a := 3) (b := i) (by decide) (by omega)).mp q) (by omega), fun _ => ?_⟩
      refine J.run csX3_digest 3 [(155, 5)] ?_
      exact I 6 0 h K hK (Nat.zero_add _) e
  refine J.run csX3_digest 5 [(147, 4)] ?_
  exact L 3 0 h K hK (Nat.zero_add _) e
theorem dg_T4 {S : aS} {y : j_H} {r : Int64} : dgP S y r 101 dg4 := by
  intro K h hK e
  have L : ∀ (d i : Nat) (h : Int64) (K : cK), cRel S K → i + d = 6 → dg5 S (hz2 (vaV S.1) 6 (fun _ h => h) d i h) = r → J MX3_digest (cLD S y (.long r)) 0 0 103 [(0, .ref 0), (1, .long h), (3, .int (nI i))] [] (clw K y) := by
    intro d
    induction d with
    | zero =>
      intro i h K hK hi e
      refine J.run csX3_digest 20 [(145, 3)] ?_
      refine ⟨fun _ => dg_T5 K h hK e, fun q => absurd ((n_le (a := 6) (b := i) (by decide) (by omega)).mpr (by omega)) q⟩
    | succ d ih =>
      intro i h K hK hi e
      have hin : i < 6 := by omega
      have I : ∀ (d' w : Nat) (h : Int64) (K : cK), cRel S K → w + d' = 6 → dg5 S (hz2 (vaV S.1) 6 (fun _ h => h) d (i + 1) (((fun _ h => h) : Nat → Int64 → Int64) i (hz ((vaV S.1) i) d' w h))) = r → J MX3_digest (cLD S y (.long r)) 0 0 112 [(0, .ref 0), (1, .long h), (3, .int (nI i)), (4, .int (nI w))] [] (clw K y) := by
        intro d'
        induction d' with
        | zero =>
          intro w h K hK hw e
          have ih' := fun K hK => ih (i + 1) _ K hK (by omega) e
          rw [nI_succ i] at ih'
          refine J.run csX3_digest 3 [(139, 4)] ?_
          refine ⟨fun _ => ?_, fun q => absurd ((n_lt (a := 5) (b := w) (by decide) (by omega)).mpr (by omega)) q⟩
          refine J.run csX3_digest 3 [(103, 4)] ?_
          exact ih' K hK
        | succ d' ih2 =>
          intro w h K hK hw e
          have hwm : w < 6 := by omega
          have ih2' := fun K hK => ih2 (w + 1) _ K hK (by omega) e
          rw [nI_succ w] at ih2'
          refine J.run csX3_digest 3 [] ?_
          refine ⟨fun q => absurd ((n_lt (a := 5) (b := w) (by decide) (by omega)).mp q) (by omega), fun _ => ?_⟩
          refine J.run csX3_digest 6 [] ?_
          refine J.look [.long (31 * h)] (as := [.int (nI i), .int (nI w)]) (c_X3_vaneOf0 hK hin (show w ≤ 5 by omega)) kX3_vaneOf mRX3_224 dX3_digest_127 (by decide) rfl rfl (Nat.le_of_ble_eq_true rfl) rfl (fun K hK => ?_)
          refine J.run csX3_digest 10 [(112, 5)] ?_
          exact ih2' K hK
      refine J.run csX3_digest 3 [] ?_
      refine ⟨fun q => absurd ((n_le (a := 6) (b := i) (by decide) (by omega)).mp q) (by omega), fun _ => ?_⟩
      refine J.run csX3_digest 3 [(112, 5)] ?_
      exact I 6 0 h K hK (Nat.zero_add _) e
  refine J.run csX3_digest 5 [(103, 4)] ?_
  exact L 6 0 h K hK (Nat.zero_add _) e
theorem dg_T3 {S : aS} {y : j_H} {r : Int64} : dgP S y r 57 dg3 := by
  intro K h hK e
  have L : ∀ (d i : Nat) (h : Int64) (K : cK), cRel S K → i + d = 24 → dg4 S (hz2 (hoV S.1) 5 (fun _ h => h) d i h) = r → J MX3_digest (cLD S y (.long r)) 0 0 59 [(0, .ref 0), (1, .long h), (3, .int (nI i))] [] (clw K y) := by
    intro d
    induction d with
    | zero =>
      intro i h K hK hi e
      refine J.run csX3_digest 20 [(101, 3)] ?_
      refine ⟨fun _ => dg_T4 K h hK e, fun q => absurd ((n_le (a := 24) (b := i) (by decide) (by omega)).mpr (by omega)) q⟩
    | succ d ih =>
      intro i h K hK hi e
      have hin : i < 24 := by omega
      have I : ∀ (d' w : Nat) (h : Int64) (K : cK), cRel S K → w + d' = 5 → dg4 S (hz2 (hoV S.1) 5 (fun _ h => h) d (i + 1) (((fun _ h => h) : Nat → Int64 → Int64) i (hz ((hoV S.1) i) d' w h))) = r → J MX3_digest (cLD S y (.long r)) 0 0 68 [(0, .ref 0), (1, .long h), (3, .int (nI i)), (4, .int (nI w))] [] (clw K y) := by
        intro d'
        induction d' with
        | zero =>
          intro w h K hK hw e
          have ih' := fun K hK => ih (i + 1) _ K hK (by omega) e
          rw [nI_succ i] at ih'
          refine J.run csX3_digest 3 [(95, 4)] ?_
          refine ⟨fun _ => ?_, fun q => absurd ((n_lt (a := 4) (b := w) (by decide) (by omega)).mpr (by omega)) q⟩
          refine J.run csX3_digest 3 [(59, 4)] ?_
          exact ih' K hK
        | succ d' ih2 =>
          intro w h K hK hw e
          have hwm : w < 5 := by omega
          have ih2' := fun K hK => ih2 (w + 1) _ K hK (by omega) e
          rw [nI_succ w] at ih2'
          refine J.run csX3_digest 3 [] ?_
          refine ⟨fun q => absurd ((n_lt (a := 4) (b := w) (by decide) (by omega)).mp q) (by omega), fun _ => ?_⟩
          refine J.run csX3_digest 6 [] ?_
          refine J.look [.long (31 * h)] (as := [.int (nI i), .int (nI w)]) (c_X3_hourOf0 hK hin (show w ≤ 4 by omega)) kX3_hourOf mRX3_221 dX3_digest_83 (by decide) rfl rfl (Nat.le_of_ble_eq_true rfl) rfl (fun K hK => ?_)
          refine J.run csX3_digest 10 [(68, 5)] ?_
          exact ih2' K hK
      refine J.run csX3_digest 3 [] ?_
      refine ⟨fun q => absurd ((n_le (a := 24) (b := i) (by decide) (by omega)).mp q) (by omega), fun _ => ?_⟩
      refine J.run csX3_digest 3 [(68, 5)] ?_
      exact I 5 0 h K hK (Nat.zero_add _) e
  refine J.run csX3_digest 5 [(59, 4)] ?_
  exact L 24 0 h K hK (Nat.zero_add _) e
theorem dg_T2 {S : aS} {y : j_H} {r : Int64} : dgP S y r 31 dg2 := by
  intro K h hK e
  have L : ∀ (d k : Nat) (h : Int64) (K : cK), cRel S K → k + d = 2 → dg3 S (hz (fun i => nI (v_se S.1 i)) d k h) = r → J MX3_digest (cLD S y (.long r)) 0 0 33 [(0, .ref 0), (1, .long h), (3, .int (nI k))] [] (clw K y) := by
    intro d
    induction d with
    | zero =>
      intro k h K hK hk e
      refine J.run csX3_digest 20 [(57, 3)] ?_
      refine ⟨fun _ => dg_T3 K h hK e, fun q => absurd ((n_le (a := 2) (b := k) (by decide) (by omega)).mpr (by omega)) q⟩
    | succ d ih =>
      intro k h K hK hk e
      have ih' := fun K hK => ih (k + 1) _ K hK (by omega) e
      rw [nI_succ k] at ih'
      refine J.run csX3_digest 3 [] ?_
      refine ⟨fun q => absurd ((n_le (a := 2) (b := k) (by decide) (by omega)).mp q) (by omega), fun _ => ?_⟩
      refine J.run csX3_digest 5 [] ?_
      refine J.look [.long (31 * h)] (as := [.int (nI k)]) (c_X3_setting0 hK (show k < 2 by omega)) kX3_setting mRX3_218 dX3_digest_45 (by decide) rfl rfl (Nat.le_of_ble_eq_true rfl) rfl (fun K hK => ?_)
      refine J.run csX3_digest 8 [(33, 4)] ?_
      exact ih' K hK
  refine J.run csX3_digest 5 [(33, 4)] ?_
  exact L 2 0 h K hK (Nat.zero_add _) e
theorem dg_T1 {S : aS} {y : j_H} {r : Int64} : dgP S y r 4 dg1 := by
  intro K h hK e
  have L : ∀ (d k : Nat) (h : Int64) (K : cK), cRel S K → k + d = 9 → dg2 S (hz (coV S) d k h) = r → J MX3_digest (cLD S y (.long r)) 0 0 6 [(0, .ref 0), (1, .long h), (3, .int (nI k))] [] (clw K y) := by
    intro d
    induction d with
    | zero =>
      intro k h K hK hk e
      refine J.run csX3_digest 20 [(31, 3)] ?_
      refine ⟨fun _ => dg_T2 K h hK e, fun q => absurd ((n_lt (a := 8) (b := k) (by decide) (by omega)).mpr (by omega)) q⟩
    | succ d ih =>
      intro k h K hK hk e
      have ih' := fun K hK => ih (k + 1) _ K hK (by omega) e
      rw [nI_succ k] at ih'
      refine J.run csX3_digest 3 [] ?_
      refine ⟨fun q => absurd ((n_lt (a := 8) (b := k) (by decide) (by omega)).mp q) (by omega), fun _ => ?_⟩
      refine J.run csX3_digest 5 [] ?_
      refine J.look [.long (31 * h)] (as := [.int (nI k)]) (c_X3_count0 hK (show k ≤ 8 by omega)) kX3_count mRX3_215 dX3_digest_19 (by decide) rfl rfl (Nat.le_of_ble_eq_true rfl) rfl (fun K hK => ?_)
      refine J.run csX3_digest 8 [(6, 4)] ?_
      exact ih' K hK
  refine J.run csX3_digest 5 [(6, 4)] ?_
  exact L 9 0 h K hK (Nat.zero_add _) e
theorem c_X3_digest {S : aS} {K : cK} {y : j_H} (h : cRel S K) : Ct MX3_digest 0 0 [.ref 0] (clw K y) (cLD S y (.long (digV S))) := by
  refine Ct.of rfl rfl (by decide +kernel) rfl (Nat.le_of_ble_eq_true rfl) ?_
  refine J.run csX3_digest 2 [] ?_
  exact dg_T1 K 3671 h rfl
