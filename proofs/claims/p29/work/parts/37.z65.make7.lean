/-! Constructors: the class. -/
theorem J.aast {M : j_M} {Φ : j_F} {bc bs pc : Nat} {lv : j_L} {r : List Value} {h : j_H} {v i n : Nat} {x : Int32} {f : Nat → Option Nat} {fs : List Value} (hd : decode (jm_b M) pc = .ok (.aastore, 1)) (h1 : h[i]? = some (.inl (5, n, .inr (.inr (.inr (.inr f)))))) (h2 : h[v]? = some (.inr (1, fs))) (hin : vp_in x n)
    (k : J M Φ bc bs (pc + 1) lv r (h.set i (.inl (5, n, .inr (.inr (.inr (.inr (va_up f x.toNatClampNeg (some v))))))))) : J M Φ bc bs pc lv (.ref v :: .int x :: .ref i :: r) h := by
  refine s_aast (ci := 1) (t := 5) rfl rfl hd Φ bc bs (J M Φ bc bs) (fun _ _ _ _ q => q) _ _ _ ?_
  show j_qa 5 h i (fun n f => vp_in x n ∧ j_obj h v 1 (fun _ => j_setk h i (.inl (5, n, .inr (.inr (.inr (.inr (va_up f x.toNatClampNeg (some v))))))) (fun h' => J M Φ bc bs (pc + 1) lv r h')))
  unfold j_qa
  rw [j_nth_eq, h1]
  refine ⟨hin, ?_⟩
  unfold j_obj
  rw [j_nth_eq, h2]
  show j_setk h i _ _
  rw [j_setk_eq]
  exact k
def slk (b k : Nat) : Nat → Option Nat := fun j => if j < k then some (b + 24 * j) else none
theorem slk_0 (b : Nat) : slk b 0 = fun _ => none := funext fun j => if_neg (Nat.not_lt_zero j)
theorem slk_up {b k v : Nat} {x : Int32} (hx : x.toNatClampNeg = k) (hv : v = b + 24 * k) : va_up (slk b k) x.toNatClampNeg (some v) = slk b (k + 1) := by
  rw [hx, hv]
  funext j
  show (if j = k then some (b + 24 * k) else if j < k then some (b + 24 * j) else none) = if j < k + 1 then some (b + 24 * j) else none
  by_cases q : j = k
  · rw [if_pos q, if_pos (by omega), q]
  · rw [if_neg q]
    by_cases q2 : j < k
    · rw [if_pos q2, if_pos (by omega)]
    · rw [if_neg q2, if_neg (by omega)]
theorem slk_bd {b k n : Nat} (hn : b + 24 * k ≤ n) : ∀ j i, slk b k j = some i → i < n := by
  intro j i h
  unfold slk at h
  split at h
  · cases h
    omega
  · cases h
theorem slk_2 : slk 31 2 = slq := by
  funext j
  match j with
  | 0 => rfl
  | 1 => rfl
  | n + 2 => exact if_neg (by omega)
theorem slk_6 : slk 79 6 = svq := by
  funext j
  match j with
  | 0 => rfl
  | 1 => rfl
  | 2 => rfl
  | 3 => rfl
  | 4 => rfl
  | 5 => rfl
  | n + 6 => exact if_neg (by omega)
/-- the class while it is made -/
def clq (sl sv : Nat → Option Nat) : j_H :=
  .inr (3, [.ref 1, .ref 25, .ref 26, .ref 27, .int 0, .int 0, .ref 28, .ref 30]) :: ((vil A0 z0).map (j_rc (j_f R1)) ++ [.inl (5, 2, .inr (.inr (.inr (.inr sl)))), .inl (2, 2, .inl (fun _ => 0)), .inl (5, 6, .inr (.inr (.inr (.inr sv)))), .inr (2, [.ref 29, .int 0]), .inl (0, 60, .inl (fun _ => 0)), .inl (0, 24, .inl (fun _ => 0))])
def yk : Nat → j_H
  | 0 => []
  | k + 1 => yk k ++ (vil A0 z0).map (j_rc (j_f (List.range' (31 + 24 * k) 24)))
theorem yk_len : ∀ k, (yk k).length = 24 * k
  | 0 => rfl
  | k + 1 => by
    show (yk k ++ (vil A0 z0).map _).length = _
    rw [List.length_append, yk_len k, List.length_map]
    show 24 * k + 24 = _
    omega
theorem rg_bd {b n : Nat} (hn : b + 24 ≤ n) : ∀ i, i < 24 → j_f (List.range' b 24) i < n := fun i hi => by
  show (List.range' b 24).getD i 0 < n
  rw [List.getD_eq_getElem?_getD, List.getElem?_range' hi]
  show b + 1 * i < n
  omega
theorem yk_bd : ∀ k, j_bdL (31 + 24 * k) (yk k)
  | 0 => trivial
  | k + 1 => j_bdL_app (j_bdL_le (by omega) _ (yk_bd k)) (j_bdL_rc (rg_bd (by omega)) _ (vil_bd A0 z0))
theorem R1_bd : ∀ i, i < 24 → j_f R1 i < 31 := by decide
theorem clq_bd {n : Nat} {sl sv : Nat → Option Nat} (hn : 31 ≤ n) (h1 : ∀ j i, sl j = some i → i < n) (h2 : ∀ j i, sv j = some i → i < n) : j_bdL n (clq sl sv) :=
  ⟨j_bd_le (n := 31) hn (.inr (3, [.ref 1, .ref 25, .ref 26, .ref 27, .int 0, .int 0, .ref 28, .ref 30])) rfl, j_bdL_app (j_bdL_rc (fun i hi => Nat.lt_of_lt_of_le (R1_bd i hi) hn) _ (vil_bd A0 z0)) ⟨h1, trivial, h2, j_bd_le (n := 31) hn (.inr (2, [.ref 29, .int 0])) rfl, trivial, trivial, trivial⟩⟩
theorem clq_len (sl sv : Nat → Option Nat) (k : Nat) : (clq sl sv ++ yk k).length = 31 + 24 * k := by
  rw [List.length_append, yk_len]
  rfl
theorem X1_fs : ∀ j, j < 12 → defaultValue (tyX1 j) = vp_V [.int 0, .int 0, .int 0, .int 0, .null, .null, .null, .null, .null, .null, .null, .null] j := by
  intro j hj
  rcases (show j = 0 ∨ j = 1 ∨ j = 2 ∨ j = 3 ∨ j = 4 ∨ j = 5 ∨ j = 6 ∨ j = 7 ∨ j = 8 ∨ j = 9 ∨ j = 10 ∨ j = 11 by omega) with rfl | rfl | rfl | rfl | rfl | rfl | rfl | rfl | rfl | rfl | rfl | rfl <;> rfl
theorem X2_fs : ∀ j, j < 2 → defaultValue (tyX2 j) = vp_V [.null, .int 0] j := by
  intro j hj
  rcases (show j = 0 ∨ j = 1 by omega) with rfl | rfl <;> rfl
theorem vilA0_bd : j_bdL (23 + 1) (vil A0 z0) := vil_bd A0 z0
/-- 'new Village()' in the class's constructor, over the blocks that lie there -/
theorem J.mkV {Φ : j_F} {bc bs : Nat} (bc1 bs1 : Nat) {pc : Nat} {lv : j_L} {rest : List Value} {h : j_H} (n : Nat) (hl : h.length = n) (hd0 : decode (jm_b MX3_init) pc = .ok (.new 7, 3)) (hd3 : decode (jm_b MX3_init) (pc + 3) = .ok (.dup, 1)) (hd4 : decode (jm_b MX3_init) (pc + 4) = .ok (.invokespecial 9, 3)) (hcat : (rest.map fun v => v.category).sum ≤ 7) (hb1 : bc1 + 24 ≤ bc) (hb2 : bs1 + 173 ≤ bs) (hb : j_bdL n h) (hlv : (lv.all fun q => j_vb n q.2) = true) (hr : rest.all (j_vb n) = true) (hs : n + 24 ≤ j_sid)
    (k : J MX3_init Φ bc1 bs1 (pc + 7) lv (.ref n :: rest) (h ++ (vil A0 z0).map (j_rc (j_f (List.range' n 24))))) : J MX3_init Φ bc bs pc lv rest h := by
  subst hl
  exact J.make bc1 bs1 (fs := [.int 0, .int 0, .int 0, .int 0, .null, .null, .null, .null, .null, .null, .null, .null]) c_X1_init rfl jnX1 tyX1_ok lRX3_7 a_n1 kX1_init.2.2 X1_fs (fun _ => rfl) rfl rfl rfl kX1_init (Or.inl mRX3_9) ⟨by decide +kernel, by decide +kernel, by decide +kernel⟩ hd0 hd3 hd4 (by decide) (by decide) rfl hcat hb1 hb2 hb rfl vilA0_bd hlv hr hs k
def K0 : cK := ((A0, z0), (0, 0, 0), (fun _ => 0, fun _ => 0, fun _ => 0), fun _ => (A0, z0), fun _ => (A0, z0))
theorem yk_8 : yk 8 = cX (fun _ => (A0, z0)) (fun _ => (A0, z0)) [] := by
  show ((((((([] ++ _) ++ _) ++ _) ++ _) ++ _) ++ _) ++ _) ++ _ = _
  unfold cX
  rw [List.nil_append, List.append_nil]
  simp only [List.append_assoc]
  rfl
theorem c_X3_init : Ct MX3_init 222 1653 [.ref 0] [.inr (3, [.null, .null, .null, .null, .int 0, .int 0, .null, .null])] (jd (.inl none) (clw K0 [])) := by
  refine Ct.of rfl rfl (by decide +kernel) rfl (Nat.le_of_ble_eq_true rfl) ?_
  generalize hΦ : jd (.inl none) (clw K0 []) = Φ
  have n31 : ∀ {k : Nat}, 31 ≤ 31 + 24 * k := fun {k} => Nat.le_add_right _ _
  have vb : ∀ (a n : Nat), a < n → j_vb n (.ref a) = true := fun a n h => by
    show (Nat.blt a n || Nat.beq a j_sid) = true
    rw [Nat.blt_eq.mpr h]
    rfl
  have L2 : ∀ d k : Nat, k + d = 6 → J MX3_init Φ (24 * d) (173 * d) 96 [(0, .ref 0), (1, .int (nI k))] [] (clq (slk 31 2) (slk 79 k) ++ yk (2 + k)) := by
    intro d
    induction d with
    | zero =>
      intro k hk
      obtain rfl : k = 6 := by omega
      refine J.run csX3_init 20 [] ?_
      refine ⟨fun _ => ?_, fun q => absurd ((n_le (a := 6) (b := 6) (by decide) (by omega)).mpr (by omega)) q⟩
      rw [← hΦ, slk_2, slk_6]
      refine jd_i rfl ?_
      show clq slq svq ++ yk 8 = _
      rw [yk_8]
      rfl
    | succ d ih =>
      intro k hk
      have ih' := ih (k + 1) (by omega)
      rw [nI_succ k] at ih'
      have hl := clq_len (slk 31 2) (slk 79 k) (2 + k)
      refine J.run csX3_init 10 [] ?_
      refine ⟨fun q => absurd ((n_le (a := 6) (b := k) (by decide) (by omega)).mp q) (by omega), fun _ => ?_⟩
      refine J.mkV (24 * d) (173 * d) (rest := [.int (nI k), .ref 27]) (h := clq (slk 31 2) (slk 79 k) ++ yk (2 + k)) (31 + 24 * (2 + k)) hl dX3_init_107 dX3_init_110 dX3_init_111 (Nat.le_of_ble_eq_true rfl) (by omega) (by omega) (j_bdL_app (clq_bd n31 (slk_bd (by omega)) (slk_bd (by omega))) (yk_bd _)) ?_ ?_ (by show 31 + 24 * (2 + k) + 24 ≤ 1000000; omega) ?_
      · show (j_vb _ (.ref 0) && true) = true
        rw [vb 0 _ (by omega)]
        rfl
      · show (j_vb _ (.int (nI k)) && (j_vb _ (.ref 27) && true)) = true
        rw [vb 27 _ (by omega)]
        rfl
      refine J.aast (n := 6) (f := slk 79 k) (fs := [.int (nI 0), .int (nI 0), .int (nI 0), .int (nI 0), .ref (31 + 24 * (2 + k) + 1), .ref (31 + 24 * (2 + k) + 2), .ref (31 + 24 * (2 + k) + 3), .ref (31 + 24 * (2 + k) + 10), .ref (31 + 24 * (2 + k) + 11), .ref (31 + 24 * (2 + k) + 12), .ref (31 + 24 * (2 + k) + 13), .ref (31 + 24 * (2 + k) + 14)]) dX3_init_114 ?_ ?_ (vp_n (by omega) (by decide)) ?_
      · rw [← j_nth_eq]
        rfl
      · rw [List.getElem?_append_right (by rw [hl]; exact Nat.le_refl _), hl, Nat.sub_self]
        rfl
      refine J.run csX3_init 5 [(96, 2)] ?_
      refine J.cast ih' rfl rfl ?_
      rw [← slk_up (b := 79) (k := k) (v := 31 + 24 * (2 + k)) (x := nI k) (cl_n (by omega)) (by omega), List.append_assoc]
      rfl
  have L1 : ∀ d k : Nat, k + d = 2 → J MX3_init Φ (24 * d + 144) (173 * d + 1038) 70 [(0, .ref 0), (1, .int (nI k))] [] (clq (slk 31 k) (slk 79 0) ++ yk k) := by
    intro d
    induction d with
    | zero =>
      intro k hk
      obtain rfl : k = 2 := by omega
      refine J.run csX3_init 20 [(96, 2)] ?_
      exact ⟨fun _ => L2 6 0 rfl, fun q => absurd ((n_le (a := 2) (b := 2) (by decide) (by omega)).mpr (by omega)) q⟩
    | succ d ih =>
      intro k hk
      have ih' := ih (k + 1) (by omega)
      rw [nI_succ k] at ih'
      have hl := clq_len (slk 31 k) (slk 79 0) k
      refine J.run csX3_init 10 [] ?_
      refine ⟨fun q => absurd ((n_le (a := 2) (b := k) (by decide) (by omega)).mp q) (by omega), fun _ => ?_⟩
      refine J.mkV (24 * d + 144) (173 * d + 1038) (rest := [.int (nI k), .ref 25]) (h := clq (slk 31 k) (slk 79 0) ++ yk k) (31 + 24 * k) hl dX3_init_80 dX3_init_83 dX3_init_84 (Nat.le_of_ble_eq_true rfl) (by omega) (by omega) (j_bdL_app (clq_bd n31 (slk_bd (by omega)) (by rw [slk_0]; intro j i e; cases e)) (yk_bd _)) ?_ ?_ (by show 31 + 24 * k + 24 ≤ 1000000; omega) ?_
      · show (j_vb _ (.ref 0) && true) = true
        rw [vb 0 _ (by omega)]
        rfl
      · show (j_vb _ (.int (nI k)) && (j_vb _ (.ref 25) && true)) = true
        rw [vb 25 _ (by omega)]
        rfl
      refine J.aast (n := 2) (f := slk 31 k) (fs := [.int (nI 0), .int (nI 0), .int (nI 0), .int (nI 0), .ref (31 + 24 * k + 1), .ref (31 + 24 * k + 2), .ref (31 + 24 * k + 3), .ref (31 + 24 * k + 10), .ref (31 + 24 * k + 11), .ref (31 + 24 * k + 12), .ref (31 + 24 * k + 13), .ref (31 + 24 * k + 14)]) dX3_init_87 ?_ ?_ (vp_n (by omega) (by decide)) ?_
      · rw [← j_nth_eq]
        rfl
      · rw [List.getElem?_append_right (by rw [hl]; exact Nat.le_refl _), hl, Nat.sub_self]
        rfl
      refine J.run csX3_init 5 [(70, 2)] ?_
      refine J.cast ih' rfl rfl ?_
      rw [← slk_up (b := 31) (k := k) (v := 31 + 24 * k) (x := nI k) (cl_n (by omega)) rfl, List.append_assoc]
      rfl
  have nob : ∀ n, ∀ j i : Nat, (none : Option Nat) = some i → i < n := fun n j i e => by cases e
  have vbd : ∀ n, 25 ≤ n → j_bdL n ((vil A0 z0).map (j_rc (j_f (List.range' 1 24)))) := fun n hn => j_bdL_rc (rg_bd (by omega)) _ (vil_bd A0 z0)
  refine J.run csX3_init 1 [] ?_
  refine J.objI mRX3_1 a_ob.1 a_ob.2 dX3_init_1 (by decide) (Nat.le_of_ble_eq_true rfl) ?_
  refine J.run csX3_init 1 [] ?_
  refine J.mkV 198 1480 (rest := [.ref 0]) 1 rfl dX3_init_5 dX3_init_8 dX3_init_9 (Nat.le_of_ble_eq_true rfl) (by decide) (by decide) ⟨rfl, trivial⟩ rfl rfl (by decide) ?_
  refine J.run csX3_init 3 [] ?_
  refine J.less (bc' := 197 + 1) (bs' := 1478 + 2) (by decide) (by decide) ?_
  refine J.newq 5 rfl lRX3_7 (List.mem_cons_of_mem _ List.mem_cons_self) ⟨rfl, by decide⟩ dX3_init_17 rfl ⟨rfl, vbd 25 (by decide)⟩ rfl rfl (by decide) ?_
  refine J.run csX3_init 3 [] ?_
  refine J.newz 2 196 1476 (by decide) (by decide) ⟨rfl, by decide⟩ dX3_init_25 rfl ⟨rfl, j_bdL_app (vbd 26 (by decide)) ⟨nob 26, trivial⟩⟩ rfl rfl (by decide) ?_
  refine J.run csX3_init 3 [] ?_
  refine J.less (bc' := 195 + 1) (bs' := 1470 + 6) (by decide) (by decide) ?_
  refine J.newq 5 rfl lRX3_7 (List.mem_cons_of_mem _ List.mem_cons_self) ⟨rfl, by decide⟩ dX3_init_33 rfl ⟨rfl, j_bdL_app (j_bdL_app (vbd 27 (by decide)) ⟨nob 27, trivial⟩) ⟨trivial, trivial⟩⟩ rfl rfl (by decide) ?_
  refine J.run csX3_init 20 [] ?_
  refine J.make 193 1408 (rest := [.ref 0]) (fs := [.null, .int 0]) c_X2_init rfl jnX2 tyX2_ok lRX3_34 a_n2 kX2_init.2.2 X2_fs (fun _ => rfl) rfl rfl rfl kX2_init (Or.inr ⟨"VaneVotes", List.mem_cons_of_mem _ List.mem_cons_self⟩) ⟨by decide +kernel, by decide +kernel, by decide +kernel⟩ dX3_init_50 dX3_init_53 dX3_init_54 (by decide) (by decide) rfl (Nat.le_of_ble_eq_true rfl) (by decide) (by decide) ⟨rfl, j_bdL_app (j_bdL_app (j_bdL_app (vbd 28 (by decide)) ⟨nob 28, trivial⟩) ⟨trivial, trivial⟩) ⟨nob 28, trivial⟩⟩ rfl ⟨rfl, trivial, trivial⟩ rfl rfl (by decide) ?_
  refine J.run csX3_init 3 [] ?_
  refine J.newi 24 192 1384 (by decide) (by decide) ⟨rfl, by decide⟩ dX3_init_63 rfl ⟨rfl, j_bdL_app (j_bdL_app (j_bdL_app (j_bdL_app (vbd 30 (by decide)) ⟨nob 30, trivial⟩) ⟨trivial, trivial⟩) ⟨nob 30, trivial⟩) ⟨rfl, trivial, trivial⟩⟩ rfl rfl (by decide) ?_
  refine J.run csX3_init 5 [(70, 2)] ?_
  have X := L1 2 0 rfl
  rw [slk_0, slk_0] at X
  refine J.cast X rfl rfl ?_
  show clq (fun _ => none) (fun _ => none) ++ [] = _
  rw [List.append_nil]
  rfl
