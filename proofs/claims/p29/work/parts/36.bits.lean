/-! The share and its bits. -/
/-- n of the day's hours -/
def shD (n : Nat) : UInt64 := FP.ddiv (FP.i2d (nI n)) 4627448617123184640
def vfb (r : UInt64) : Bool := decide (r &&& 0x7fffffffffffffff ≤ 0x7ff0000000000000)
theorem vfb_i {r : UInt64} (h : vfb r = true) : vf_n64 r := of_decide_eq_true (p := r &&& 0x7fffffffffffffff ≤ 0x7ff0000000000000) h
def bF (sc : UInt64) (ex : Int64) : Int64 := (ex <<< ((52 : Int32).toInt64 &&& 63)) ||| FP.d2l (FP.dmul (FP.dsub sc FP.dconst1) 4841369599423283200)
def bl : Nat → UInt64 → Int64 → Int64 → Bool
  | 0, _, _, _ => false
  | d + 1, sc, ex, r => if 0 ≤ Op.cmpValue (FP.dcmp sc FP.dconst1) .g then vfb (FP.dsub sc FP.dconst1) && vfb (FP.dmul (FP.dsub sc FP.dconst1) 4841369599423283200) && decide (r = bF sc ex) else vfb (FP.dmul sc 4611686018427387904) && bl d (FP.dmul sc 4611686018427387904) (ex - 1) r
theorem shD_bits : ∀ n, n < 25 → if n = 0 then ¬ (0 < Op.cmpValue (FP.dcmp (shD n) FP.dconst0) .g) ∧ (shD n).toInt64 = 0 else 0 < Op.cmpValue (FP.dcmp (shD n) FP.dconst0) .g ∧ bl 40 (shD n) 1023 (shD n).toInt64 = true := by decide +kernel
theorem shD_vf : ∀ n, n < 25 → vfb (shD n) = true := by decide +kernel
def cLD (S : aS) (y : j_H) (v : Value) : j_F := fun o h' => o = .inl (some v) ∧ ∃ K, cRel S K ∧ h' = clw K y
theorem agh_le (A : aV) : agh A ≤ 24 := cntN_le _ _
theorem c_X3_turnShare0 {S : aS} {K : cK} {y : j_H} (h : cRel S K) : Ct MX3_turnShare 0 0 [.ref 0] (clw K y) (cLD S y (.double (shD (agh S.1)))) := by
  obtain ⟨⟨A, z⟩, c, ⟨fl, cs, rt⟩, sl, sv⟩ := K
  have hA : A = S.1 := h.1.1
  subst hA
  have hok := h.1.2.1
  have hle := agh_le S.1
  refine Ct.of rfl rfl (by decide +kernel) rfl (Nat.le_of_ble_eq_true rfl) ?_
  refine J.run csX3_turnShare 5 [] ?_
  refine J.callRV [] R1 (c_X1_agreeingHours (z := z) hok) kX1_agreeingHours mRX3_150 dX3_turnShare_4 (by decide) rfl rfl rfl (Nat.le_of_ble_eq_true rfl) (i0 := 0) rfl (ci := 1) rfl rfl ?_
  refine J.run csX3_turnShare 10 [] ?_
  exact ⟨vfb_i (shD_vf _ (by omega)), rfl, ((S.1, z), c, (fl, cs, rt), sl, sv), h, rfl⟩
