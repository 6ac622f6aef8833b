/-! hour: the mills one by one, then the clock. -/
theorem aH_w (A : aV) : ∀ m, v_sd (aH A m) = v_sd A ∧ v_sg (aH A m) = v_sg A ∧ v_vn (aH A m) = v_vn A ∧ v_se (aH A m) = v_se A ∧ v_br (aH A m) = v_br A ∧ v_tk (aH A m) = v_tk A
  | 0 => ⟨rfl, rfl, rfl, rfl, rfl, rfl⟩
  | m + 1 => aH_w A m
theorem aH_hR {A : aV} {h : Nat → Int32} (H : hR A h) (m : Nat) : hR (aH A m) h := by
  unfold hR
  rw [(aH_w A m).1, (aH_w A m).2.1]
  exact H
theorem aH_vR {A : aV} {v : Nat → Int32} (H : vR A v) (m : Nat) : vR (aH A m) v := by
  unfold vR
  rw [(aH_w A m).2.2.1]
  exact H
/-- sacks ground by the first mills -/
def hpQ (A : aV) : Nat → Nat
  | 0 => 0
  | m + 1 => hpQ A m + grS (rat A m (v_ho A)) (v_lo A m)
theorem hpQ_3 (A : aV) : hpQ A 3 = hrG A := by
  show 0 + grS (rat A 0 (v_ho A)) (v_lo A 0) + grS (rat A 1 (v_ho A)) (v_lo A 1) + grS (rat A 2 (v_ho A)) (v_lo A 2) = _
  rw [Nat.zero_add]
  rfl
theorem aH_fl (A : aV) (k : Nat) : v_fl (aH A 3) k = v_fl (hr1 A) k := by
  show v_fl A k + grF k (rat A 0 (v_ho A)) (v_lo (aH A 0) 0) + grF k (rat A 1 (v_ho A)) (v_lo (aH A 1) 1) + grF k (rat A 2 (v_ho A)) (v_lo (aH A 2) 2) = v_fl A k + (grF k (rat A 0 (v_ho A)) (v_lo A 0) + grF k (rat A 1 (v_ho A)) (v_lo A 1) + grF k (rat A 2 (v_ho A)) (v_lo A 2))
  rw [aH_lo, aH_lo, aH_lo]
  omega
/-- the clock goes on -/
theorem hr1_R {A : aV} {g l o g1 : Nat → Int32} (h : gR (aH A 3) g ∧ lR (aH A 3) l ∧ oR (aH A 3) o) (e0 : g1 0 = nI (if v_ho A = 23 then 0 else v_ho A + 1)) (e1 : g1 1 = nI (v_go A + 1)) (e2 : g1 2 = nI (v_tu A + if trn A (v_ho A) = true then 1 else 0)) (un : ∀ j, 3 ≤ j → g1 j = g j) : gR (hr1 A) g1 ∧ lR (hr1 A) l ∧ oR (hr1 A) o := by
  obtain ⟨⟨g1', g2, g3⟩, hl, ho⟩ := h
  have e3 : g 3 = nI (v_re A) := by
    have := g1'.2.2.2
    rw [show v_re (aH A 3) = (aH A 3).1.2.2.2 from rfl, aH_1] at this
    exact this
  have em : ∀ j, j < 3 → v_ml (hr1 A) j = v_ml (aH A 3) j := fun j hj => by
    rw [aH_ml, if_pos hj]
    rfl
  refine ⟨⟨⟨e0, e1, e2, (un 3 (Nat.le_refl _)).trans e3⟩, fun s hs => ?_, fun m hm => ?_⟩, fun m hm => ?_, fun k hk => ?_⟩
  · rw [un _ (by omega), g2 s hs, (aH_w A 3).2.2.2.1]
    rfl
  · rw [un _ (by omega), un _ (by omega), un _ (by omega)]
    show _ ∧ g (9 + m) = nI (m_lo (v_ml (hr1 A) m)).length ∧ _
    rw [em m hm]
    exact g3 m hm
  · show ∀ k, k < (m_lo (v_ml (hr1 A) m)).length → l (8 * m + k) = nI (100 * lo_o (m_lo (v_ml (hr1 A) m)) k + lo_s (m_lo (v_ml (hr1 A) m)) k)
    rw [em m hm]
    exact hl m hm
  · have := ho k hk
    rw [aH_fl, (aH_w A 3).2.2.2.2.1, (aH_w A 3).2.2.2.2.2] at this
    exact this
/-- an hour, told: what is ground, and the numbers behind it -/
def hQ (A : aV) (h v : Nat → Int32) : j_F := fun u w => u = .inl (some (.int (nI (hrG A)))) ∧ ∃ g l o, (gR (hr1 A) g ∧ lR (hr1 A) l ∧ oR (hr1 A) o) ∧ w = hw5 h v g l o
theorem vOk_q {A : aV} (h : vOk A) {m : Nat} (hm : m < 3) : ∀ q ∈ v_lo A m, q.1 < 5 ∧ 1 ≤ q.2 ∧ q.2 ≤ 99 := (h.2.2.2.2.2 m hm).2.2
theorem c_L_hour {A : aV} {h v g l o : Nat → Int32} (hA : vOk A) (hh : hR A h) (hv : vR A v) (hR0 : gR A g ∧ lR A l ∧ oR A o) : Ct ML_hour 0 0 [.ref 0, .ref 1, .ref 2, .ref 3, .ref 4] (hw5 h v g l o) (hQ A h v) := by
  have hho := hA.1
  refine Ct.of rfl rfl (by decide +kernel) rfl (Nat.le_of_ble_eq_true rfl) ?_
  -- the clock
  have Z : ∀ g l o, gR (aH A 3) g ∧ lR (aH A 3) l ∧ oR (aH A 3) o → J ML_hour (hQ A h v) 0 0 166 (hL (hrG A) 3 []) [] (hw5 h v g l o) := by
    intro g l o hR3
    obtain ⟨⟨k0, k1, k2, k3⟩, kk⟩ := hR3.1
    have k0 : g 0 = nI (v_ho A) := by rw [show v_ho (aH A 3) = (aH A 3).1.1 from rfl, aH_1] at k0; exact k0
    have k1 : g 1 = nI (v_go A) := by rw [show v_go (aH A 3) = (aH A 3).1.2.1 from rfl, aH_1] at k1; exact k1
    have k2 : g 2 = nI (v_tu A) := by rw [show v_tu (aH A 3) = (aH A 3).1.2.2.1 from rfl, aH_1] at k2; exact k2
    have hle := vdi_le A (v_ho A)
    -- behind the vote
    have G : ∀ b : Bool, trn A (v_ho A) = b → J ML_hour (hQ A h v) 0 0 188 (hL (hrG A) 3 []) [.int (if b = true then 1 else 0), .int (g 2), .int 2, .ref 2] (hw5 h v g l o) := by
      intro b hb
      have q2 : nI (v_tu A + if trn A (v_ho A) = true then 1 else 0) = g 2 + (if b = true then 1 else 0) := by
        rw [hb, k2]
        cases b with
        | false => exact (Int32.add_zero _).symm
        | true => exact nI_succ _
      have E : ∀ x, x = nI (if v_ho A = 23 then 0 else v_ho A + 1) → hQ A h v (.inl (some (.int (nI (hrG A))))) (hw5 h v (upd (upd (upd g 2 (g 2 + (if b = true then 1 else 0))) 1 (g 1 + 1)) 0 x) l o) := by
        intro x hx
        refine ⟨rfl, _, l, o, hr1_R hR3 ?_ ?_ ?_ (fun j hj => ?_), rfl⟩
        · rw [pk_us, hx]
        · rw [pk_un (by decide), pk_us, k1, nI_1]
        · rw [pk_un (by decide), pk_un (by decide), pk_us, q2]
        · rw [pk_un (by omega), pk_un (by omega), pk_un (by omega)]
      have f0 : ∀ y z : Int32, upd (upd g 2 y) 1 z 0 = nI (v_ho A) := fun y z => by
        rw [pk_un (by decide), pk_un (by decide)]
        exact k0
      refine J.run csL_hour 40 [] ?_
      refine ⟨vp_c (by decide), rfl, rfl, vp_c (by decide), vp_c (by decide), vp_c (by decide), fun q => ⟨vp_c (by decide), vp_c (by decide), ?_⟩, fun q => ⟨vp_c (by decide), ?_⟩⟩
      · have q : ¬ upd (upd g 2 (g 2 + (if b = true then 1 else 0))) 1 (g 1 + 1) 0 = nI 23 := q
        rw [f0, n_eq (by omega) (by omega)] at q
        refine E _ ?_
        show upd (upd g 2 (g 2 + (if b = true then 1 else 0))) 1 (g 1 + 1) 0 + 1 = _
        rw [f0, if_neg q, nI_1]
      · have q : upd (upd g 2 (g 2 + (if b = true then 1 else 0))) 1 (g 1 + 1) 0 = nI 23 := q
        rw [f0, n_eq (by omega) (by omega)] at q
        refine E _ ?_
        rw [if_pos q]
        rfl
    refine J.run csL_hour 20 [] ?_
    refine ⟨rfl, rfl, vp_c (by decide), vp_c (by decide), ?_⟩
    have eg : g (0 : Int32).toNatClampNeg = nI (v_ho A) := k0
    have hC := c_L_why (t := none) (aH_ok hA 3) (aH_hR hh 3) (aH_vR hv 3) hR3.1 (fun j h => by cases h) hho
    rw [show vdi (tuA (aH A 3) none) (v_ho A) = vdi A (v_ho A) from aH_vdi A (v_ho A) 3] at hC
    refine J.cast (lv := hL (hrG A) 3 []) (st := [.int (-1), .int (nI (v_ho A)), .ref 2, .ref 1, .ref 0, .int (g 2), .int 2, .ref 2]) ?_ rfl (congrArg (fun x : Int32 => ([.int (-1), .int x, .ref 2, .ref 1, .ref 0, .int (g 2), .int 2, .ref 2] : List Value)) eg.symm) rfl
    refine J.pureS [.int (g 2), .int 2, .ref 2] [0, 1, 2] hC kL_why mRL_69 dL_hour_177 ⟨Nat.le_of_ble_eq_true rfl, Nat.le_of_ble_eq_true rfl, rfl⟩ rfl rfl (Nat.le_of_ble_eq_true rfl) rfl rfl ?_
    refine J.run csL_hour 5 [(188, 7)] ?_
    refine ⟨fun q => ?_, fun q => ?_⟩
    · have q : ¬ nI (vdi A (v_ho A)) = 0 := q
      rw [n_eq0 (by omega)] at q
      exact G false (by unfold trn; exact decide_eq_false q)
    · have q : nI (vdi A (v_ho A)) = 0 := q
      rw [n_eq0 (by omega)] at q
      exact G true (by unfold trn; exact decide_eq_true q)
  have L : ∀ (d m : Nat), m + d = 3 → ∀ g l o, gR (aH A m) g ∧ lR (aH A m) l ∧ oR (aH A m) o → J ML_hour (hQ A h v) 0 0 6 (hL (hpQ A m) m []) [] (hw5 h v g l o) := by
    intro d
    induction d with
    | zero =>
      intro m hm g l o hRm
      obtain rfl : m = 3 := by omega
      have X := Z g l o hRm
      rw [← hpQ_3] at X
      refine J.run csL_hour 3 [(166, 7)] ?_
      exact ⟨fun _ => X, fun q => absurd (by decide) q⟩
    | succ d ih =>
      intro m hm g l o hRm
      have hlt : m < 3 := by omega
      have hok := aH_ok hA m
      have k0 : g 0 = nI (v_ho A) := by
        have := hRm.1.1.1
        rw [show v_ho (aH A m) = (aH A m).1.1 from rfl, aH_1] at this
        exact this
      have er : rat (aH A m) m (v_ho A) = rat A m (v_ho A) := aH_rat A m (v_ho A) m
      have hrl := rat_le hA hlt hho
      have eg : g (0 : Int32).toNatClampNeg = nI (v_ho A) := k0
      have hC := c_L_much hok (aH_hR hh m) (aH_vR hv m) hRm.1 hlt hho
      rw [er] at hC
      refine J.run csL_hour 20 [] ?_
      refine ⟨fun q => absurd ((n_le (a := 3) (by omega) (by omega)).mp q) (by omega), fun _ => ⟨vp_c (by decide), ?_⟩⟩
      refine J.cast (lv := hL (hpQ A m) m []) (st := [.int (nI (v_ho A)), .int (nI m), .ref 2, .ref 1, .ref 0]) ?_ rfl (congrArg (fun x : Int32 => ([.int x, .int (nI m), .ref 2, .ref 1, .ref 0] : List Value)) eg.symm) rfl
      refine J.pureS [] [0, 1, 2] hC kL_much mRL_73 dL_hour_20 ⟨Nat.le_of_ble_eq_true rfl, Nat.le_of_ble_eq_true rfl, rfl⟩ rfl rfl (Nat.le_of_ble_eq_true rfl) rfl rfl ?_
      refine J.run csL_hour 1 [(25, 8)] ?_
      refine gr_loop hlt (rat A m (v_ho A)) (aH A m) g l o (hpQ A m) (by omega) (fun j hj => v_lo_len hok hj) (vOk_q hok hlt) hRm (fun g' l' o' a' ha' hR' => ?_)
      rw [aH_lo] at ha'
      have X := ih (m + 1) (by omega) g' l' o' hR'
      rw [show hpQ A (m + 1) = a' from ha'.symm] at X
      refine J.run csL_hour 3 [(6, 7)] ?_
      exact J.cast X (congrArg (fun x : Int32 => (0, Value.ref 0) :: (1, .ref 1) :: (2, .ref 2) :: (3, .ref 3) :: (4, .ref 4) :: (5, .int (nI a')) :: [(6, Value.int x)]) (nI_succ m)) rfl rfl
  refine J.run csL_hour 4 [(6, 7)] ?_
  exact L 3 0 rfl g l o hR0
/-- copy -/
theorem c_L_copy {n : Nat} (hn : n < 1000) (f g : Nat → Int32) : Ct ML_copy 0 0 [.ref 0, .ref 1] [.inl (0, n, .inl f), .inl (0, n, .inl g)] (fun u w => u = .inl none ∧ ∃ g', (∀ j, j < n → g' j = f j) ∧ w = [.inl (0, n, .inl f), .inl (0, n, .inl g')]) := by
  refine Ct.of rfl rfl (by decide +kernel) rfl (Nat.le_of_ble_eq_true rfl) ?_
  have L : ∀ (d i : Nat), i + d = n → ∀ g : Nat → Int32, (∀ j, j < i → g j = f j) → J ML_copy (fun u w => u = .inl none ∧ ∃ g', (∀ j, j < n → g' j = f j) ∧ w = [.inl (0, n, .inl f), .inl (0, n, .inl g')]) 0 0 2 [(0, .ref 0), (1, .ref 1), (2, .int (nI i))] [] [.inl (0, n, .inl f), .inl (0, n, .inl g)] := by
    intro d
    induction d with
    | zero =>
      intro i hi g hg
      obtain rfl : i = n := by omega
      refine J.run csL_copy 20 [] ?_
      exact ⟨fun _ => ⟨rfl, g, hg, rfl⟩, fun q => absurd ((n_le (by omega) (by omega)).mpr (Nat.le_refl i)) q⟩
    | succ d ih =>
      intro i hi g hg
      have ci := cl_n (a := i) (by omega)
      have ih' := ih (i + 1) (by omega) (upd g (nI i).toNatClampNeg (f (nI i).toNatClampNeg)) (fun j hj => by
        rw [ci]
        by_cases q : j = i
        · subst q
          exact pk_us
        · rw [pk_un q]
          exact hg j (by omega))
      refine J.run csL_copy 20 [(2, 3)] ?_
      refine ⟨fun q => absurd ((n_le (by omega) (by omega)).mp q) (by omega), fun _ => ⟨vp_n (by omega) (by omega), vp_n (by omega) (by omega), ?_⟩⟩
      exact J.cast ih' (congrArg (fun x : Int32 => ([(0, .ref 0), (1, .ref 1), (2, .int x)] : j_L)) (nI_succ i)) rfl rfl
  refine J.run csL_copy 2 [(2, 3)] ?_
  exact L n 0 (Nat.zero_add _) g (fun j hj => absurd hj (Nat.not_lt_zero j))
