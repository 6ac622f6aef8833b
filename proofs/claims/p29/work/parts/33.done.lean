/-! In how many hours sacks are ground. -/
theorem sumN_add (f : Nat → Nat) (a : Nat) : ∀ b, sumN f (a + b) = sumN f a + sumN (fun k => f (a + k)) b
  | 0 => rfl
  | b + 1 => by
    show sumN f (a + b) + f (a + b) = sumN f a + (sumN (fun k => f (a + k)) b + f (a + b))
    rw [sumN_add f a b, Nat.add_assoc]
/-- what a mill could grind in the next n hours -/
def cum (A : aV) (m n : Nat) : Nat := sumN (fun k => rat A m ((v_ho A + k) % 24)) n
theorem cum_s (A : aV) (m n : Nat) : cum A m (n + 1) = cum A m n + rat A m ((v_ho A + n) % 24) := rfl
theorem cum_24 {A : aV} (h : v_ho A < 24) (m : Nat) : cum A m 24 = day A m := by
  have e := sumN_add (fun k => rat A m ((v_ho A + k) % 24)) (24 - v_ho A) (v_ho A)
  rw [show 24 - v_ho A + v_ho A = 24 by omega] at e
  have e2 := sumN_add (rat A m) (v_ho A) (24 - v_ho A)
  rw [show v_ho A + (24 - v_ho A) = 24 by omega] at e2
  show sumN (fun k => rat A m ((v_ho A + k) % 24)) 24 = sumN (rat A m) 24
  rw [e, e2, Nat.add_comm]
  congr 1
  · exact sumN_congr _ (fun i hi => by rw [show (v_ho A + (24 - v_ho A + i)) % 24 = i by omega])
  · exact sumN_congr _ (fun i hi => by rw [show (v_ho A + i) % 24 = v_ho A + i by omega])
theorem cum_d {A : aV} (h : v_ho A < 24) (m j : Nat) : ∀ d, cum A m (24 * d + j) = d * day A m + cum A m j
  | 0 => by rw [Nat.mul_zero, Nat.zero_add, Nat.zero_mul, Nat.zero_add]
  | d + 1 => by
    have ih := cum_d h m j d
    rw [show 24 * (d + 1) + j = 24 + (24 * d + j) by omega]
    have e := sumN_add (fun k => rat A m ((v_ho A + k) % 24)) 24 (24 * d + j)
    show sumN (fun k => rat A m ((v_ho A + k) % 24)) (24 + (24 * d + j)) = _
    rw [e]
    have e2 : sumN (fun k => rat A m ((v_ho A + (24 + k)) % 24)) (24 * d + j) = cum A m (24 * d + j) := sumN_congr _ (fun i _ => by rw [show (v_ho A + (24 + i)) % 24 = (v_ho A + i) % 24 by omega])
    have e3 : sumN (fun k => rat A m ((v_ho A + k) % 24)) 24 = day A m := cum_24 h m
    rw [e2, e3, ih, Nat.succ_mul]
    omega
theorem cum_le {A : aV} (hA : vOk A) {m : Nat} (hm : m < 3) (n : Nat) : cum A m n ≤ n * 20 := sumN_le n (fun i _ => rat_le hA hm (Nat.mod_lt _ (by decide)))
theorem cum_mono (A : aV) (m : Nat) {a b : Nat} (h : a ≤ b) : cum A m a ≤ cum A m b := by
  have e := sumN_add (fun k => rat A m ((v_ho A + k) % 24)) a (b - a)
  rw [show a + (b - a) = b by omega] at e
  show sumN _ a ≤ sumN _ b
  rw [e]
  exact Nat.le_add_right _ _
/-- after so many hours, and no fewer, so many sacks are ground -/
def isH (A : aV) (m l H : Nat) : Prop := l ≤ cum A m H ∧ ∀ j, j < H → cum A m j < l
theorem isH_one {A : aV} {m l H H' : Nat} (h : isH A m l H) (h' : isH A m l H') : H = H' := by
  rcases Nat.lt_trichotomy H H' with w | w | w
  · have := h'.2 H w
    have := h.1
    omega
  · exact w
  · have := h.2 H' w
    have := h'.1
    omega
theorem isH_ex {A : aV} {m l : Nat} : ∀ n, l ≤ cum A m n → ∃ H, H ≤ n ∧ isH A m l H
  | 0, h => ⟨0, Nat.le_refl _, h, fun j hj => absurd hj (Nat.not_lt_zero _)⟩
  | n + 1, h => by
    by_cases q : l ≤ cum A m n
    · obtain ⟨H, h1, h2⟩ := isH_ex n q
      exact ⟨H, by omega, h2⟩
    · refine ⟨n + 1, Nat.le_refl _, h, fun j hj => ?_⟩
      have := cum_mono A m (show j ≤ n by omega)
      omega
theorem isH_d {A : aV} (h : v_ho A < 24) {m l d H : Nat} (h0 : 0 < l) (hH : isH A m l H) (hd : l ≤ day A m) : isH A m (d * day A m + l) (24 * d + H) := by
  refine ⟨?_, fun j hj => ?_⟩
  · rw [cum_d h]
    have := hH.1
    omega
  · by_cases q : 24 * d ≤ j
    · rw [show j = 24 * d + (j - 24 * d) by omega, cum_d h]
      have := hH.2 (j - 24 * d) (by omega)
      omega
    · have := cum_mono A m (show j ≤ 24 * d + 0 by omega)
      rw [cum_d h] at this
      have e : cum A m 0 = 0 := rfl
      omega
theorem n_subgt {a b : Nat} (ha : a < 2 ^ 30) (hb : b < 2 ^ 30) : 0 < nI a - nI b ↔ b < a := by
  rw [Int32.lt_iff_toInt_lt, pk_sub_toInt ha hb]
  show (0 : Int) < _ ↔ _
  omega
theorem c_X3_hoursUntilGround {A : aV} {z : vS} {c : Nat × Nat × Nat} {fl cs rt : Nat → Int32} {X : j_H} {m l H : Nat} (hA : vOk A) (hm : m < 3) (hl : l < 2 ^ 20) (h0 : 0 < l) (hrt : ∀ k, k < 24 → rt k = nI (rat A m k)) (hH : isH A m l H) (hb : H ≤ 19008) : Ct MX3_hoursUntilGround 0 0 [.ref 0, .int (nI l)] (clv (vil A z) c (fl, cs, rt) X) (jd (.inl (some (.int (nI H)))) (clv (vil A z) c (fl, cs, rt) X)) := by
  have hho := hA.1
  refine Ct.of rfl rfl (by decide +kernel) rfl (Nat.le_of_ble_eq_true rfl) ?_
  generalize hΦ : jd (.inl (some (.int (nI H)))) (clv (vil A z) c (fl, cs, rt) X) = Φ
  have hH0 : 0 < H := by
    rcases Nat.eq_zero_or_pos H with e | e
    · have := hH.1
      rw [e] at this
      have e : cum A m 0 = 0 := rfl
      omega
    · exact e
  have L : ∀ (d j : Nat), j + d + 1 = H → J MX3_hoursUntilGround Φ 0 0 18 [(0, .ref 0), (1, .int (nI l)), (2, .int (nI (l - cum A m j))), (3, .int (nI ((v_ho A + j) % 24))), (4, .int (nI 19008)), (5, .int (nI (j + 1)))] [] (clv (vil A z) c (fl, cs, rt) X) := by
    intro d
    induction d with
    | zero =>
      intro j hj
      have hlt := hH.2 j (by omega)
      have hge := hH.1
      rw [← show j + 1 = H by omega, cum_s] at hge
      have hr := rat_le hA hm (h := (v_ho A + j) % 24) (Nat.mod_lt _ (by decide))
      have er : rt (nI ((v_ho A + j) % 24)).toNatClampNeg = nI (rat A m ((v_ho A + j) % 24)) := by rw [cl_n (by omega), hrt _ (Nat.mod_lt _ (by decide))]
      refine J.run csX3_hoursUntilGround 20 [(41, 6)] ?_
      refine ⟨fun q => absurd ((n_lt (a := 19008) (by decide) (by omega)).mp q) (by omega), fun _ => ⟨vp_n (Nat.mod_lt _ (by decide)) (by decide), fun q => ?_, fun _ => ?_⟩⟩
      · have q : 0 < nI (l - cum A m j) - rt (nI ((v_ho A + j) % 24)).toNatClampNeg := q
        rw [er, n_subgt (by omega) (by omega)] at q
        omega
      · rw [← hΦ]
        exact jd_i (by rw [← show j + 1 = H by omega]) rfl
    | succ d ih =>
      intro j hj
      have hlt := hH.2 (j + 1) (by omega)
      rw [cum_s] at hlt
      have hr := rat_le hA hm (h := (v_ho A + j) % 24) (Nat.mod_lt _ (by decide))
      have er : rt (nI ((v_ho A + j) % 24)).toNatClampNeg = nI (rat A m ((v_ho A + j) % 24)) := by rw [cl_n (by omega), hrt _ (Nat.mod_lt _ (by decide))]
      have ih' := ih (j + 1) (by omega)
      rw [cum_s] at ih'
      have es : nI (l - cum A m j) - rt (nI ((v_ho A + j) % 24)).toNatClampNeg = nI (l - (cum A m j + rat A m ((v_ho A + j) % 24))) := by
        rw [er, pk_sub (by omega), Nat.sub_sub]
      refine J.run csX3_hoursUntilGround 40 [(18, 6)] ?_
      refine ⟨fun q => absurd ((n_lt (a := 19008) (by decide) (by omega)).mp q) (by omega), fun _ => ⟨vp_n (Nat.mod_lt _ (by decide)) (by decide), fun q => ?_, fun q => ?_⟩⟩
      · refine ⟨fun w => ?_, fun w => ?_⟩
        · have w : nI 24 ≤ nI ((v_ho A + j) % 24) + nI 1 := w
          rw [nI_add, n_le (by decide) (by omega)] at w
          rw [← es, show (v_ho A + (j + 1)) % 24 = 0 by omega, nI_succ (j + 1)] at ih'
          exact ih'
        · have w : ¬ nI 24 ≤ nI ((v_ho A + j) % 24) + nI 1 := w
          rw [nI_add, n_le (by decide) (by omega)] at w
          rw [← es, show (v_ho A + (j + 1)) % 24 = (v_ho A + j) % 24 + 1 by omega, nI_succ (j + 1), ← nI_1 ((v_ho A + j) % 24)] at ih'
          exact ih'
      · have q : ¬ 0 < nI (l - cum A m j) - rt (nI ((v_ho A + j) % 24)).toNatClampNeg := q
        rw [er, n_subgt (by omega) (by omega)] at q
        omega
  have X := L (H - 1) 0 (by omega)
  rw [show (v_ho A + 0) % 24 = v_ho A by omega] at X
  refine J.run csX3_hoursUntilGround 20 [(18, 6)] ?_
  exact X
