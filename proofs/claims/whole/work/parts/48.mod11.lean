/-! The model's state; it is recorded. -/
def mG (A : aV) (z : Nat → Int32) : Prop := vOk A ∧ v_go A ≤ 99999 ∧ zRel A z
theorem mG_z {A : aV} {z z' : Nat → Int32} (e : ∀ j, j < 150 → z' j = z j) (h : mG A z) : mG A z' := ⟨h.1, h.2.1, zRel_z h.1 e h.2.2⟩
def mRl (S : aS) (t : mT) (z : Nat → Int32) (r : mR) : Prop :=
  mG S.1 z ∧ (∀ i, i < 2 → (S.2.1 i = none → r.2.2.2.1 i = 0) ∧ ∀ B, S.2.1 i = some B → r.2.2.2.1 i = 1 ∧ mG B (fun j => r.2.2.1 (150 * i + j))) ∧
  (t.2.1 = nI S.2.2.1.length ∧ S.2.2.1.length ≤ 6 ∧ ∀ i B, S.2.2.1[i]? = some B → mG B (fun j => r.2.1 (150 * (S.2.2.1.length - 1 - i) + j))) ∧
  (t.2.2.1 = nI S.2.2.2.length ∧ tOk S.2.2.2 ∧ tRel S.2.2.2 r.2.2.2.2)
/-- rows are shifted, a row is put -/
def zS (k : Nat) (f : Nat → Int32) : Nat → Int32 := fun j => if j < k then f (150 + j) else f j
def zP (b k : Nat) (z f : Nat → Int32) : Nat → Int32 := fun j => if b ≤ j ∧ j < b + k then z (j - b) else f j
theorem zS_up {k : Nat} (hk : k < 750) (f : Nat → Int32) : upd (zS k f) (nI k).toNatClampNeg (zS k f (nI 150 + nI k).toNatClampNeg) = zS (k + 1) f := by
  rw [nI_add, cl_n (by omega), cl_n (by omega)]
  funext j
  show (if j = k then (if 150 + k < k then f (150 + (150 + k)) else f (150 + k)) else if j < k then f (150 + j) else f j) = if j < k + 1 then f (150 + j) else f j
  by_cases q : j = k
  · rw [if_pos q, if_neg (by omega), if_pos (by omega), q]
  · rw [if_neg q]
    by_cases q2 : j < k
    · rw [if_pos q2, if_pos (by omega)]
    · rw [if_neg q2, if_neg (by omega)]
theorem zP_up {b k : Nat} (hb : b + k < 2 ^ 31) (z f : Nat → Int32) : upd (zP b k z f) (nI b + nI k).toNatClampNeg (z (nI k).toNatClampNeg) = zP b (k + 1) z f := by
  rw [nI_add, cl_n hb, cl_n (by omega)]
  funext j
  show (if j = b + k then z k else if b ≤ j ∧ j < b + k then z (j - b) else f j) = if b ≤ j ∧ j < b + (k + 1) then z (j - b) else f j
  by_cases q : j = b + k
  · rw [if_pos q, if_pos (by omega), q, show b + k - b = k by omega]
  · rw [if_neg q]
    by_cases q2 : b ≤ j ∧ j < b + k
    · rw [if_pos q2, if_pos (by omega)]
    · rw [if_neg q2, if_neg (by omega)]
/-- what is recorded -/
def mRec (n : Nat) (z sd : Nat → Int32) : Nat → Int32 := if n = 6 then zP 750 150 z (zS 750 sd) else zP (150 * n) 150 z sd
theorem c_X4_record {t0 ln hr : Int32} {z : Nat → Int32} {a sd : Nat → Int32} {r : (Nat → Int32) × (Nat → Int32) × (Nat → Int32)} {n : Nat} (hn : n ≤ 6) : Ct MX4_record 0 0 [.ref 0] (mw (t0, nI n, ln, hr) z (a, sd, r)) (jd (.inl none) (mw (t0, nI (if n = 6 then 6 else n + 1), ln, hr) z (a, mRec n z sd, r))) := by
  refine Ct.of rfl rfl (by decide +kernel) rfl (Nat.le_of_ble_eq_true rfl) ?_
  generalize hΦ : jd (.inl none) (mw (t0, nI (if n = 6 then 6 else n + 1), ln, hr) z (a, mRec n z sd, r)) = Φ
  have P : ∀ (m : Nat) (f : Nat → Int32), m < 6 → (Φ (.inl none) (mw (t0, nI (m + 1), ln, hr) z (a, zP (150 * m) 150 z f, r))) → ∀ (x : Int32) (d k : Nat), k + d = 150 → J MX4_record Φ 0 0 52 [(0, .ref 0), (1, .int (nI k))] [] (mw (t0, nI m, ln, hr) z (a, zP (150 * m) k z f, r)) := by
    intro m f hm hE x d
    induction d with
    | zero =>
      intro k hk
      obtain rfl : k = 150 := by omega
      refine J.run csX4_record 20 [] ?_
      refine ⟨fun _ => ⟨rfl, ?_⟩, fun q => absurd ((n_le (a := 150) (b := 150) (by omega) (by omega)).mpr (by omega)) q⟩
      rw [← nI_1] at hE
      exact hE
    | succ d ih =>
      intro k hk
      have ih' := ih (k + 1) (by omega)
      rw [nI_succ k, ← zP_up (by omega)] at ih'
      have e : nI 150 * nI m = nI (150 * m) := n_mul _ _
      refine J.run csX4_record 30 [(52, 2)] ?_
      refine ⟨fun q => absurd ((n_le (a := 150) (b := k) (by omega) (by omega)).mp q) (by omega), fun _ => ⟨vp_n (by omega) (by decide), ?_, ?_⟩⟩
      · show vp_in (nI 150 * nI m + nI k) 900
        rw [e, nI_add]
        exact vp_n (by omega) (by decide)
      · rw [← e] at ih'
        exact ih'
  have zP0 : ∀ b z f, zP b 0 z f = f := fun b z f => funext fun j => if_neg (by omega)
  by_cases h6 : n = 6
  · subst h6
    have L : ∀ (d k : Nat), k + d = 750 → J MX4_record Φ 0 0 11 [(0, .ref 0), (1, .int (nI k))] [] (mw (t0, nI 6, ln, hr) z (a, zS k sd, r)) := by
      intro d
      induction d with
      | zero =>
        intro k hk
        have X := P 5 (zS 750 sd) (by decide) (by rw [← hΦ]; exact jd_i rfl rfl) 0 150 0 rfl
        rw [zP0, show nI 5 = nI 6 - nI 1 by decide, ← show k = 750 by omega] at X
        refine J.run csX4_record 20 [(52, 2)] ?_
        refine ⟨fun _ => ⟨rfl, ?_⟩, fun q => absurd ((n_le (a := 750) (b := k) (by omega) (by omega)).mpr (by omega)) q⟩
        exact X
      | succ d ih =>
        intro k hk
        have ih' := ih (k + 1) (by omega)
        rw [nI_succ k, ← zS_up (by omega)] at ih'
        refine J.run csX4_record 30 [(11, 2)] ?_
        refine ⟨fun q => absurd ((n_le (a := 750) (b := k) (by omega) (by omega)).mp q) (by omega), fun _ => ⟨?_, vp_n (by omega) (by decide), ?_⟩⟩
        · show vp_in (nI 150 + nI k) 900
          rw [nI_add]
          exact vp_n (by omega) (by decide)
        · exact ih'
    have X := L 750 0 rfl
    rw [show zS 0 sd = sd from funext fun j => if_neg (Nat.not_lt_zero j)] at X
    refine J.run csX4_record 20 [(11, 2)] ?_
    exact ⟨fun q => absurd rfl q, fun _ => X⟩
  · have X := P n sd (by omega) (by
      rw [← hΦ]
      refine jd_i rfl ?_
      unfold mRec
      rw [if_neg h6, if_neg h6]) 0 150 0 rfl
    rw [zP0] at X
    refine J.run csX4_record 20 [(52, 2)] ?_
    refine ⟨fun _ => X, fun q => absurd ((n_eq (a := n) (b := 6) (by omega) (by decide)).mp q) h6⟩
