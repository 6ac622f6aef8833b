/-! Constructors: a village. -/
def A0 : aV := ((0, 0, 0, 0), (fun h => if h < 24 then h % 8 else 0), (fun h => if h < 24 then h % 10 else 0), (fun i w => if w = 0 then i else if w = 1 then 2 else if w = 2 then 1 else 0), (fun s => if s = 0 then 3 else 0), (fun _ => (2, 0, [])), (fun _ => 0), (fun _ => 0), (fun _ => 0))
def z0 : vS := fun _ => (fun _ => 0, fun _ => 0)
def rowR (m k : Nat) : Nat → Int32 := fun j => nI (if j < k then j % m else 0)
theorem rowR_0 (m : Nat) : rowR m 0 = fun _ => 0 := funext fun j => by
  show nI (if j < 0 then j % m else 0) = 0
  rw [if_neg (Nat.not_lt_zero j)]
  rfl
theorem rowR_up {m k : Nat} (hk : k < 2 ^ 31) : upd (rowR m k) (nI k).toNatClampNeg (nI (k % m)) = rowR m (k + 1) := by
  rw [cl_n hk]
  funext j
  show (if j = k then nI (k % m) else nI (if j < k then j % m else 0)) = nI (if j < k + 1 then j % m else 0)
  by_cases q : j = k
  · rw [if_pos q, if_pos (by omega), q]
  · rw [if_neg q]
    by_cases q2 : j < k
    · rw [if_pos q2, if_pos (by omega)]
    · rw [if_neg q2, if_neg (by omega)]
def rowV (i : Nat) : Nat → Int32 := fun w => nI (if w = 0 then i else if w = 1 then 2 else if w = 2 then 1 else 0)
theorem rowV_up {i : Nat} {a b c x y z : Int32} (ha : a.toNatClampNeg = 0) (hb : b.toNatClampNeg = 1) (hc : c.toNatClampNeg = 2) (hx : x = nI i) (hy : y = nI 2) (hz : z = nI 1) : upd (upd (upd (fun _ => 0) a.toNatClampNeg x) b.toNatClampNeg y) c.toNatClampNeg z = rowV i := by
  rw [ha, hb, hc, hx, hy, hz]
  funext w
  show (if w = 2 then nI 1 else if w = 1 then nI 2 else if w = 0 then nI i else 0) = nI (if w = 0 then i else if w = 1 then 2 else if w = 2 then 1 else 0)
  by_cases q0 : w = 0
  · rw [if_neg (by omega), if_neg (by omega), if_pos q0, if_pos q0]
  · by_cases q1 : w = 1
    · rw [if_neg (by omega), if_pos q1, if_neg q0, if_pos q1]
    · by_cases q2 : w = 2
      · rw [if_pos q2, if_neg q0, if_neg q1, if_pos q2]
      · rw [if_neg q2, if_neg q1, if_neg q0, if_neg q0, if_neg q1, if_neg q2]
        rfl
theorem rowS_up : upd (fun _ => 0) (nI 0).toNatClampNeg (nI 3) = fun k => nI (v_se A0 k) := by
  funext k
  show (if k = (nI 0).toNatClampNeg then nI 3 else 0) = nI (if k = 0 then 3 else 0)
  rw [cl_n (by decide)]
  split <;> rfl
def g0 : Nat → Option Nat := fun j => if j < 6 then some (3 + 1 + j) else none
theorem g0_vq : g0 = vq := by
  funext j
  match j with
  | 0 => rfl
  | 1 => rfl
  | 2 => rfl
  | 3 => rfl
  | 4 => rfl
  | 5 => rfl
  | n + 6 => exact if_neg (by omega)
theorem g0_bd : ∀ j i, g0 j = some i → i < 10 := by
  intro j i h
  unfold g0 at h
  split at h
  · cases h
    omega
  · cases h
def mqk (k : Nat) : Nat → Option Nat := fun j => if j < k then some (15 + 3 * j) else none
theorem mqk_bd (k : Nat) : ∀ j i, mqk k j = some i → i < 15 + 3 * k := by
  intro j i h
  unfold mqk at h
  split at h
  · cases h
    omega
  · cases h
theorem mqk_0 : (fun _ => none) = mqk 0 := funext fun j => (if_neg (Nat.not_lt_zero j)).symm
theorem mqk_up {k v : Nat} {x : Int32} (hx : x.toNatClampNeg = k) (hv : v = 15 + 3 * k) : va_up (mqk k) x.toNatClampNeg (some v) = mqk (k + 1) := by
  rw [hx, hv]
  funext j
  show (if j = k then some (15 + 3 * k) else if j < k then some (15 + 3 * j) else none) = if j < k + 1 then some (15 + 3 * j) else none
  by_cases q : j = k
  · rw [if_pos q, if_pos (by omega), q]
  · rw [if_neg q]
    by_cases q2 : j < k
    · rw [if_pos q2, if_pos (by omega)]
    · rw [if_neg q2, if_neg (by omega)]
theorem mqk_3 : mqk 3 = mq := by
  funext j
  match j with
  | 0 => rfl
  | 1 => rfl
  | 2 => rfl
  | n + 3 => exact if_neg (by omega)
theorem vq_bd9 : ∀ j i, vq j = some i → i < 15 := fun j i e => Nat.lt_trans (g0_bd j i (by rw [g0_vq]; exact e)) (by decide)
/-- the village while it is made -/
def w1 (g : Nat → Option Nat) (sd sg v0 v1 v2 v3 v4 v5 : Nat → Int32) (f : Nat → Option Nat) : j_H :=
  [.inr (1, [.int 0, .int 0, .int 0, .int 0, .ref 1, .ref 2, .ref 3, .ref 10, .ref 11, .ref 12, .ref 13, .ref 14]), .inl (0, 24, .inl sd), .inl (0, 24, .inl sg), .inl (3, 6, .inr (.inr (.inr (.inr g)))), .inl (0, 4, .inl v0), .inl (0, 4, .inl v1), .inl (0, 4, .inl v2), .inl (0, 4, .inl v3), .inl (0, 4, .inl v4), .inl (0, 4, .inl v5), .inl (0, 2, .inl (fun _ => 0)), .inl (4, 3, .inr (.inr (.inr (.inr f)))), .inl (0, 5, .inl (fun _ => 0)), .inl (0, 5, .inl (fun _ => 0)), .inl (0, 5, .inl (fun _ => 0))]
def w1m (k : Nat) : j_H := [.inr (0, [.int 2, .int 0, .int 0, .ref (16 + 3 * k), .ref (17 + 3 * k)]), .inl (0, 8, .inl (fun _ => 0)), .inl (0, 8, .inl (fun _ => 0))]
theorem X0_fs : ∀ j, j < 5 → defaultValue (tyX0 j) = vp_V [.int 0, .int 0, .int 0, .null, .null] j := by
  intro j hj
  rcases (show j = 0 ∨ j = 1 ∨ j = 2 ∨ j = 3 ∨ j = 4 by omega) with rfl | rfl | rfl | rfl | rfl <;> rfl
abbrev w1V (f : Nat → Option Nat) : j_H := w1 vq (rowR 8 24) (rowR 10 24) (rowV 0) (rowV 1) (rowV 2) (rowV 3) (rowV 4) (rowV 5) f
theorem w1V_bd {n k : Nat} (hn : 15 + 3 * k ≤ n) : j_bdL n (w1V (mqk k)) :=
  ⟨j_bd_le (n := 15) (Nat.le_trans (Nat.le_add_right 15 (3 * k)) hn) (.inr (1, [.int 0, .int 0, .int 0, .int 0, .ref 1, .ref 2, .ref 3, .ref 10, .ref 11, .ref 12, .ref 13, .ref 14])) rfl, trivial, trivial, (fun j i e => Nat.lt_of_lt_of_le (vq_bd9 j i e) (Nat.le_trans (Nat.le_add_right 15 (3 * k)) hn)), trivial, trivial, trivial, trivial, trivial, trivial, trivial, (fun j i e => Nat.lt_of_lt_of_le (mqk_bd k j i e) hn), trivial, trivial, trivial, trivial⟩
theorem w1m_bd {n k : Nat} (hn : 18 + 3 * k ≤ n) : j_bdL n (w1m k) := by
  refine ⟨?_, trivial, trivial, trivial⟩
  show (true && (true && (true && (decide (16 + 3 * k < n) && (decide (17 + 3 * k < n) && true))))) = true
  rw [decide_eq_true (by omega), decide_eq_true (by omega)]
  rfl
set_option maxHeartbeats 4000000 in
theorem c_X1_init : Ct MX1_init 23 161 [.ref 0] [.inr (1, [.int 0, .int 0, .int 0, .int 0, .null, .null, .null, .null, .null, .null, .null, .null])] (jd (.inl none) (vil A0 z0)) := by
  refine Ct.of rfl rfl (by decide +kernel) rfl (Nat.le_of_ble_eq_true rfl) ?_
  generalize hΦ : jd (.inl none) (vil A0 z0) = Φ
  have fin : J MX1_init Φ 0 0 164 [(0, .ref 0), (1, .int (nI 0 + 1 + 1 + 1))] [] (w1V (mqk 3) ++ (w1m 0 ++ (w1m 1 ++ w1m 2))) := by
    refine J.run csX1_init 30 [] ?_
    refine ⟨fun _ => ⟨vp_c (by decide), ?_⟩, fun q => absurd (show nI 3 ≤ nI 0 + 1 + 1 + 1 by decide) q⟩
    rw [← hΦ, mqk_3]
    refine jd_i rfl ?_
    exact congrArg (fun se => vilr (nI 0) (nI 0) (nI 0) (nI 0) (fun k => nI (v_sd A0 k)) (fun k => nI (v_sg A0 k)) (fun i k => nI (v_vn A0 i k)) se (mCo A0 z0) (fun k => nI (v_fl A0 k)) (fun k => nI (v_br A0 k)) (fun k => nI (v_tk A0 k))) rowS_up
  have M2 : J MX1_init Φ 3 21 164 [(0, .ref 0), (1, .int (nI 0 + 1 + 1))] [] (w1V (mqk 2) ++ (w1m 0 ++ w1m 1)) := by
    refine J.run csX1_init 30 [] ?_
    refine ⟨fun q => absurd (show nI 3 ≤ nI 0 + 1 + 1 from q) (by decide), fun _ => ?_⟩
    refine J.make 0 0 (rest := [.int (nI 0 + 1 + 1), .ref 11]) (h := w1V (mqk 2) ++ (w1m 0 ++ w1m 1)) (fs := [.int 0, .int 0, .int 0, .null, .null]) c_X0_init rfl jnX0 tyX0_ok lRX1_39 a_n0 kX0_init.2.2 X0_fs (fun _ => rfl) rfl rfl rfl kX0_init (Or.inr ⟨"VaneVotes", List.mem_cons_self⟩) ⟨by decide +kernel, by decide +kernel, by decide +kernel⟩ dX1_init_174 dX1_init_177 dX1_init_178 (by decide) (by decide) rfl (Nat.le_of_ble_eq_true rfl) (by decide) (by decide) (j_bdL_app (w1V_bd (by decide)) (j_bdL_app (w1m_bd (by decide)) (w1m_bd (by decide)))) rfl ⟨rfl, trivial, trivial, trivial⟩ rfl rfl (by decide) ?_
    refine J.run csX1_init 30 [(164, 2)] ?_
    refine ⟨vp_c (by decide), ?_⟩
    refine J.cast fin rfl rfl ?_
    exact congrArg (fun f => w1V f ++ (w1m 0 ++ (w1m 1 ++ w1m 2))) (mqk_up (k := 2) (v := 21) (x := nI 0 + 1 + 1) (by decide) rfl).symm
  have M1 : J MX1_init Φ 6 42 164 [(0, .ref 0), (1, .int (nI 0 + 1))] [] (w1V (mqk 1) ++ w1m 0) := by
    refine J.run csX1_init 30 [] ?_
    refine ⟨fun q => absurd (show nI 3 ≤ nI 0 + 1 from q) (by decide), fun _ => ?_⟩
    refine J.make 3 21 (rest := [.int (nI 0 + 1), .ref 11]) (h := w1V (mqk 1) ++ w1m 0) (fs := [.int 0, .int 0, .int 0, .null, .null]) c_X0_init rfl jnX0 tyX0_ok lRX1_39 a_n0 kX0_init.2.2 X0_fs (fun _ => rfl) rfl rfl rfl kX0_init (Or.inr ⟨"VaneVotes", List.mem_cons_self⟩) ⟨by decide +kernel, by decide +kernel, by decide +kernel⟩ dX1_init_174 dX1_init_177 dX1_init_178 (by decide) (by decide) rfl (Nat.le_of_ble_eq_true rfl) (by decide) (by decide) (j_bdL_app (w1V_bd (by decide)) (w1m_bd (by decide))) rfl ⟨rfl, trivial, trivial, trivial⟩ rfl rfl (by decide) ?_
    refine J.run csX1_init 30 [(164, 2)] ?_
    refine ⟨vp_c (by decide), ?_⟩
    refine J.cast M2 rfl rfl ?_
    exact congrArg (fun f => w1V f ++ (w1m 0 ++ w1m 1)) (mqk_up (k := 1) (v := 18) (x := nI 0 + 1) (by decide) rfl).symm
  have M0 : J MX1_init Φ 9 63 164 [(0, .ref 0), (1, .int (nI 0))] [] (w1V (mqk 0)) := by
    refine J.run csX1_init 30 [] ?_
    refine ⟨fun q => absurd (show nI 3 ≤ nI 0 from q) (by decide), fun _ => ?_⟩
    refine J.make 6 42 (rest := [.int (nI 0), .ref 11]) (h := w1V (mqk 0)) (fs := [.int 0, .int 0, .int 0, .null, .null]) c_X0_init rfl jnX0 tyX0_ok lRX1_39 a_n0 kX0_init.2.2 X0_fs (fun _ => rfl) rfl rfl rfl kX0_init (Or.inr ⟨"VaneVotes", List.mem_cons_self⟩) ⟨by decide +kernel, by decide +kernel, by decide +kernel⟩ dX1_init_174 dX1_init_177 dX1_init_178 (by decide) (by decide) rfl (Nat.le_of_ble_eq_true rfl) (by decide) (by decide) (w1V_bd (by decide)) rfl ⟨rfl, trivial, trivial, trivial⟩ rfl rfl (by decide) ?_
    refine J.run csX1_init 30 [(164, 2)] ?_
    refine ⟨vp_c (by decide), ?_⟩
    refine J.cast M1 rfl rfl ?_
    exact congrArg (fun f => w1V f ++ w1m 0) (mqk_up (k := 0) (v := 15) (x := nI 0) (by decide) rfl).symm
  have V6 : J MX1_init Φ 9 63 123 [(0, .ref 0), (1, .int (nI 0 + 1 + 1 + 1 + 1 + 1 + 1))] [] (w1 vq (rowR 8 24) (rowR 10 24) (rowV 0) (rowV 1) (rowV 2) (rowV 3) (rowV 4) (rowV 5) (mqk 0)) := by
    refine J.run csX1_init 30 [(164, 2)] ?_
    exact ⟨fun _ => M0, fun q => absurd (show nI 6 ≤ nI 0 + 1 + 1 + 1 + 1 + 1 + 1 by decide) q⟩
  have V5 : J MX1_init Φ 9 63 123 [(0, .ref 0), (1, .int (nI 0 + 1 + 1 + 1 + 1 + 1))] [] (w1 vq (rowR 8 24) (rowR 10 24) (rowV 0) (rowV 1) (rowV 2) (rowV 3) (rowV 4) (fun _ => 0) (mqk 0)) := by
    refine J.run csX1_init 60 [(123, 2)] ?_
    refine ⟨fun q => absurd (show nI 6 ≤ nI 0 + 1 + 1 + 1 + 1 + 1 from q) (by decide), fun _ => ⟨vp_c (by decide), vp_c (by decide), vp_c (by decide), vp_c (by decide), vp_c (by decide), vp_c (by decide), ?_⟩⟩
    refine J.cast V6 rfl rfl ?_
    exact congrArg (fun r => w1 vq (rowR 8 24) (rowR 10 24) (rowV 0) (rowV 1) (rowV 2) (rowV 3) (rowV 4) r (mqk 0)) (rowV_up (i := 5) (a := nI 0) (b := nI 1) (c := nI 2) (x := nI 0 + 1 + 1 + 1 + 1 + 1) (y := nI 2) (z := nI 1) (by decide) (by decide) (by decide) (by decide) rfl rfl).symm
  have V4 : J MX1_init Φ 9 63 123 [(0, .ref 0), (1, .int (nI 0 + 1 + 1 + 1 + 1))] [] (w1 vq (rowR 8 24) (rowR 10 24) (rowV 0) (rowV 1) (rowV 2) (rowV 3) (fun _ => 0) (fun _ => 0) (mqk 0)) := by
    refine J.run csX1_init 60 [(123, 2)] ?_
    refine ⟨fun q => absurd (show nI 6 ≤ nI 0 + 1 + 1 + 1 + 1 from q) (by decide), fun _ => ⟨vp_c (by decide), vp_c (by decide), vp_c (by decide), vp_c (by decide), vp_c (by decide), vp_c (by decide), ?_⟩⟩
    refine J.cast V5 rfl rfl ?_
    exact congrArg (fun r => w1 vq (rowR 8 24) (rowR 10 24) (rowV 0) (rowV 1) (rowV 2) (rowV 3) r (fun _ => 0) (mqk 0)) (rowV_up (i := 4) (a := nI 0) (b := nI 1) (c := nI 2) (x := nI 0 + 1 + 1 + 1 + 1) (y := nI 2) (z := nI 1) (by decide) (by decide) (by decide) (by decide) rfl rfl).symm
  have V3 : J MX1_init Φ 9 63 123 [(0, .ref 0), (1, .int (nI 0 + 1 + 1 + 1))] [] (w1 vq (rowR 8 24) (rowR 10 24) (rowV 0) (rowV 1) (rowV 2) (fun _ => 0) (fun _ => 0) (fun _ => 0) (mqk 0)) := by
    refine J.run csX1_init 60 [(123, 2)] ?_
    refine ⟨fun q => absurd (show nI 6 ≤ nI 0 + 1 + 1 + 1 from q) (by decide), fun _ => ⟨vp_c (by decide), vp_c (by decide), vp_c (by decide), vp_c (by decide), vp_c (by decide), vp_c (by decide), ?_⟩⟩
    refine J.cast V4 rfl rfl ?_
    exact congrArg (fun r => w1 vq (rowR 8 24) (rowR 10 24) (rowV 0) (rowV 1) (rowV 2) r (fun _ => 0) (fun _ => 0) (mqk 0)) (rowV_up (i := 3) (a := nI 0) (b := nI 1) (c := nI 2) (x := nI 0 + 1 + 1 + 1) (y := nI 2) (z := nI 1) (by decide) (by decide) (by decide) (by decide) rfl rfl).symm
  have V2 : J MX1_init Φ 9 63 123 [(0, .ref 0), (1, .int (nI 0 + 1 + 1))] [] (w1 vq (rowR 8 24) (rowR 10 24) (rowV 0) (rowV 1) (fun _ => 0) (fun _ => 0) (fun _ => 0) (fun _ => 0) (mqk 0)) := by
    refine J.run csX1_init 60 [(123, 2)] ?_
    refine ⟨fun q => absurd (show nI 6 ≤ nI 0 + 1 + 1 from q) (by decide), fun _ => ⟨vp_c (by decide), vp_c (by decide), vp_c (by decide), vp_c (by decide), vp_c (by decide), vp_c (by decide), ?_⟩⟩
    refine J.cast V3 rfl rfl ?_
    exact congrArg (fun r => w1 vq (rowR 8 24) (rowR 10 24) (rowV 0) (rowV 1) r (fun _ => 0) (fun _ => 0) (fun _ => 0) (mqk 0)) (rowV_up (i := 2) (a := nI 0) (b := nI 1) (c := nI 2) (x := nI 0 + 1 + 1) (y := nI 2) (z := nI 1) (by decide) (by decide) (by decide) (by decide) rfl rfl).symm
  have V1 : J MX1_init Φ 9 63 123 [(0, .ref 0), (1, .int (nI 0 + 1))] [] (w1 vq (rowR 8 24) (rowR 10 24) (rowV 0) (fun _ => 0) (fun _ => 0) (fun _ => 0) (fun _ => 0) (fun _ => 0) (mqk 0)) := by
    refine J.run csX1_init 60 [(123, 2)] ?_
    refine ⟨fun q => absurd (show nI 6 ≤ nI 0 + 1 from q) (by decide), fun _ => ⟨vp_c (by decide), vp_c (by decide), vp_c (by decide), vp_c (by decide), vp_c (by decide), vp_c (by decide), ?_⟩⟩
    refine J.cast V2 rfl rfl ?_
    exact congrArg (fun r => w1 vq (rowR 8 24) (rowR 10 24) (rowV 0) r (fun _ => 0) (fun _ => 0) (fun _ => 0) (fun _ => 0) (mqk 0)) (rowV_up (i := 1) (a := nI 0) (b := nI 1) (c := nI 2) (x := nI 0 + 1) (y := nI 2) (z := nI 1) (by decide) (by decide) (by decide) (by decide) rfl rfl).symm
  have V0 : J MX1_init Φ 9 63 123 [(0, .ref 0), (1, .int (nI 0))] [] (w1 vq (rowR 8 24) (rowR 10 24) (fun _ => 0) (fun _ => 0) (fun _ => 0) (fun _ => 0) (fun _ => 0) (fun _ => 0) (mqk 0)) := by
    refine J.run csX1_init 60 [(123, 2)] ?_
    refine ⟨fun q => absurd (show nI 6 ≤ nI 0 from q) (by decide), fun _ => ⟨vp_c (by decide), vp_c (by decide), vp_c (by decide), vp_c (by decide), vp_c (by decide), vp_c (by decide), ?_⟩⟩
    refine J.cast V1 rfl rfl ?_
    exact congrArg (fun r => w1 vq (rowR 8 24) (rowR 10 24) r (fun _ => 0) (fun _ => 0) (fun _ => 0) (fun _ => 0) (fun _ => 0) (mqk 0)) (rowV_up (i := 0) (a := nI 0) (b := nI 1) (c := nI 2) (x := nI 0) (y := nI 2) (z := nI 1) (by decide) (by decide) (by decide) (by decide) rfl rfl).symm
  have L : ∀ d k : Nat, k + d = 24 → J MX1_init Φ 9 63 89 [(0, .ref 0), (1, .int (nI k))] [] (w1 vq (rowR 8 k) (rowR 10 k) (fun _ => 0) (fun _ => 0) (fun _ => 0) (fun _ => 0) (fun _ => 0) (fun _ => 0) (mqk 0)) := by
    intro d
    induction d with
    | zero =>
      intro k hk
      obtain rfl : k = 24 := by omega
      refine J.run csX1_init 20 [(123, 2)] ?_
      exact ⟨fun _ => V0, fun q => absurd ((n_le (a := 24) (b := 24) (by decide) (by omega)).mpr (by omega)) q⟩
    | succ d ih =>
      intro k hk
      have ih' := ih (k + 1) (by omega)
      rw [nI_succ k, ← rowR_up (m := 8) (k := k) (by omega), ← rowR_up (m := 10) (k := k) (by omega), ← n_rem8 (by omega), ← n_rem10 (by omega)] at ih'
      refine J.run csX1_init 60 [(89, 2)] ?_
      refine ⟨fun q => absurd ((n_le (a := 24) (b := k) (by decide) (by omega)).mp q) (by omega), fun _ => ⟨n_ne8, vp_n (by omega) (by decide), n_ne10, vp_n (by omega) (by decide), ?_⟩⟩
      exact ih'
  have g0b : ∀ n, 10 ≤ n → ∀ j i, g0 j = some i → i < n := fun n hn j i e => Nat.lt_of_lt_of_le (g0_bd j i e) hn
  have nob : ∀ n, ∀ j i : Nat, (none : Option Nat) = some i → i < n := fun n j i e => by cases e
  refine J.run csX1_init 1 [] ?_
  refine J.objI mRX1_3 a_ob.1 a_ob.2 dX1_init_1 (by decide) (Nat.le_of_ble_eq_true rfl) ?_
  refine J.run csX1_init 30 [] ?_
  refine J.newi 24 22 137 (by decide) (by decide) ⟨rfl, by decide⟩ dX1_init_27 rfl ⟨rfl, trivial⟩ rfl rfl (by decide) ?_
  refine J.run csX1_init 3 [] ?_
  refine J.newi 24 21 113 (by decide) (by decide) ⟨rfl, by decide⟩ dX1_init_35 rfl ⟨rfl, trivial, trivial⟩ rfl rfl (by decide) ?_
  refine J.run csX1_init 4 [] ?_
  refine J.less (bc' := 14 + (1 + 6)) (bs' := 83 + (6 + 6 * 4)) (by decide) (by decide) ?_
  refine J.newm 6 4 ⟨rfl, by decide⟩ ⟨rfl, by decide⟩ lRX1_31 a_ai dX1_init_44 rfl ⟨rfl, trivial, trivial, trivial⟩ rfl rfl (by decide) ?_
  refine J.run csX1_init 3 [] ?_
  refine J.newi 2 13 81 (by decide) (by decide) ⟨rfl, by decide⟩ dX1_init_53 rfl ⟨rfl, trivial, trivial, g0b 10 (by decide), trivial, trivial, trivial, trivial, trivial, trivial, trivial⟩ rfl rfl (by decide) ?_
  refine J.run csX1_init 3 [] ?_
  refine J.less (bc' := 12 + 1) (bs' := 78 + 3) (by decide) (by decide) ?_
  refine J.newq 4 rfl lRX1_39 List.mem_cons_self ⟨rfl, by decide⟩ dX1_init_60 rfl ⟨rfl, trivial, trivial, g0b 11 (by decide), trivial, trivial, trivial, trivial, trivial, trivial, trivial, trivial⟩ rfl rfl (by decide) ?_
  refine J.run csX1_init 3 [] ?_
  refine J.newi 5 11 73 (by decide) (by decide) ⟨rfl, by decide⟩ dX1_init_68 rfl ⟨rfl, trivial, trivial, g0b 12 (by decide), trivial, trivial, trivial, trivial, trivial, trivial, trivial, nob 12, trivial⟩ rfl rfl (by decide) ?_
  refine J.run csX1_init 3 [] ?_
  refine J.newi 5 10 68 (by decide) (by decide) ⟨rfl, by decide⟩ dX1_init_75 rfl ⟨rfl, trivial, trivial, g0b 13 (by decide), trivial, trivial, trivial, trivial, trivial, trivial, trivial, nob 13, trivial, trivial⟩ rfl rfl (by decide) ?_
  refine J.run csX1_init 3 [] ?_
  refine J.newi 5 9 63 (by decide) (by decide) ⟨rfl, by decide⟩ dX1_init_82 rfl ⟨rfl, trivial, trivial, g0b 14 (by decide), trivial, trivial, trivial, trivial, trivial, trivial, trivial, nob 14, trivial, trivial, trivial⟩ rfl rfl (by decide) ?_
  refine J.run csX1_init 10 [(89, 2)] ?_
  have X := L 24 0 rfl
  rw [rowR_0, rowR_0, ← g0_vq, ← mqk_0] at X
  exact X
