/-! The model's undo, keep, goBack. -/
theorem zC_u {k : Nat} (hk : k < 2 ^ 31) {y : Int32} {f g : Nat → Int32} (e : y = f k) : upd (zC k f g) (nI k).toNatClampNeg y = zC (k + 1) f g := by
  rw [← zC_up hk, cl_n hk, e]
theorem mRl_undo {S : aS} {t0 sv ln hr : Int32} {z a sd sl kp tx : Nat → Int32} (h : mRl S (t0, sv, ln, hr) z (a, sd, sl, kp, tx)) {B : aV} {l : List aV} (e : S.2.2.1 = B :: l) {x : Int32} (hx : x = nI l.length) (u : Int32) : mRl (B, S.2.1, l, S.2.2.2) (u, x, ln, hr) (zC 150 (fun j => sd (150 * l.length + j)) z) (a, sd, sl, kp, tx) := by
  obtain ⟨h1, h2, ⟨h3, h4, h5⟩, h6⟩ := h
  rw [e] at h4
  have h4 : l.length + 1 ≤ 6 := h4
  refine ⟨mG_z (fun j hj => ?_) (h5 0 B (by rw [e]; rfl)), h2, ⟨hx, by show l.length ≤ 6; omega, fun i C w => ?_⟩, h6⟩
  · show (if j < 150 then sd (150 * l.length + j) else z j) = sd (150 * (S.2.2.1.length - 1 - 0) + j)
    rw [if_pos hj, e]
    rfl
  · have w : l[i]? = some C := w
    refine mG_z (fun j hj => ?_) (h5 (i + 1) C (by rw [e]; exact w))
    show sd (150 * (l.length - 1 - i) + j) = sd (150 * (S.2.2.1.length - 1 - (i + 1)) + j)
    rw [e]
    show sd (150 * (l.length - 1 - i) + j) = sd (150 * (l.length + 1 - 1 - (i + 1)) + j)
    rw [show l.length + 1 - 1 - (i + 1) = l.length - 1 - i by omega]
theorem c_X4_undo {S : aS} {t : mT} {z : Nat → Int32} {r : mR} (h : mRl S t z r) : Ct MX4_undo 0 0 [.ref 0] (mw t z r) (mQ (rUndo S)) := by
  refine Ct.of rfl rfl (by decide +kernel) rfl (Nat.le_of_ble_eq_true rfl) ?_
  obtain ⟨t0, sv, ln, hr⟩ := t
  obtain ⟨a, sd, sl, kp, tx⟩ := r
  have h3 : sv = nI S.2.2.1.length := h.2.2.1.1
  have h4 : S.2.2.1.length ≤ 6 := h.2.2.1.2.1
  cases e : S.2.2.1 with
  | nil =>
    have er : rUndo S = (1, S, 0) := by
      unfold rUndo
      rw [e]
    rw [e] at h3
    have h3 : sv = nI 0 := h3
    subst h3
    refine J.run csX4_undo 30 [] ?_
    exact ⟨fun q => absurd (show nI 0 = 0 from rfl) q, fun _ => ⟨fun q => absurd (show nI 1 ≤ 0 from q) (by decide), fun _ => mQ_e (t := (nI 1, nI 0, ln, hr)) (mRl_t h _) er rfl⟩⟩
  | cons B l =>
    have er : rUndo S = (0, (B, S.2.1, l, S.2.2.2), nI l.length) := by
      unfold rUndo
      rw [e]
    rw [e] at h3 h4
    have h3 : sv = nI (l.length + 1) := h3
    have h4 : l.length + 1 ≤ 6 := h4
    subst h3
    have hs : nI (l.length + 1) - nI 1 = nI l.length := pk_sub (by omega)
    have L : ∀ x : Int32, x = nI l.length → ∀ d k : Nat, k + d = 150 → J MX4_undo (mQ (rUndo S)) 0 0 37 [(0, .ref 0), (1, .int (nI k))] [] (mw (nI 0, x, ln, hr) (zC k (fun j => sd (150 * l.length + j)) z) (a, sd, sl, kp, tx)) := by
      intro x hx d
      have hv : ∀ k, k < 150 → (nI 150 * x + nI k).toNatClampNeg = 150 * l.length + k := fun k hk => by rw [hx, n_mul, nI_add, cl_n (by omega)]
      have hi : ∀ k, k < 150 → vp_in (nI 150 * x + nI k) 900 := fun k hk => by
        rw [hx, n_mul, nI_add]
        exact vp_n (by omega) (by decide)
      induction d with
      | zero =>
        intro k hk
        obtain rfl : k = 150 := by omega
        refine J.run csX4_undo 20 [] ?_
        refine ⟨fun _ => ?_, fun q => absurd ((n_le (a := 150) (b := 150) (by omega) (by omega)).mpr (by omega)) q⟩
        exact mQ_0 er (mRl_undo h e hx (nI 0)) rfl hx rfl
      | succ d ih =>
        intro k hk
        have ih' := ih (k + 1) (by omega)
        rw [nI_succ k, ← zC_u (k := k) (y := sd (nI 150 * x + nI k).toNatClampNeg) (f := fun j => sd (150 * l.length + j)) (by omega) (congrArg sd (hv k (by omega)))] at ih'
        refine J.run csX4_undo 30 [(37, 2)] ?_
        refine ⟨fun q => absurd ((n_le (a := 150) (b := k) (by omega) (by omega)).mp q) (by omega), fun _ => ⟨hi k (by omega), vp_n (by omega) (by decide), ?_⟩⟩
        exact ih'
    have X := L _ hs 150 0 rfl
    rw [zC_0] at X
    refine J.run csX4_undo 30 [(37, 2)] ?_
    refine ⟨fun _ => ⟨fun _ => ⟨rfl, X⟩, fun q => absurd (show nI 0 ≤ 0 by decide) q⟩, fun q => absurd ((n_eq0 (by omega)).mp (show nI (l.length + 1) = 0 from q)) (by omega)⟩
theorem mRl_keep {S : aS} {t : mT} {z a sd sl kp tx : Nat → Int32} (h : mRl S t z (a, sd, sl, kp, tx)) (i : Nat) (hi : i < 2) : mRl (sKp S i) t z (a, sd, zP (150 * i) 150 z sl, upd kp i 1, tx) := by
  refine ⟨h.1, fun j hj => ?_, h.2.2⟩
  obtain ⟨g1, g2⟩ := h.2.1 j hj
  show ((if j = i then some S.1 else S.2.1 j) = none → (if j = i then 1 else kp j) = 0) ∧ ∀ B, (if j = i then some S.1 else S.2.1 j) = some B → (if j = i then 1 else kp j) = 1 ∧ mG B (fun k => zP (150 * i) 150 z sl (150 * j + k))
  by_cases e : j = i
  · rw [if_pos e, if_pos e]
    refine ⟨fun w => (by cases w), fun B w => ?_⟩
    cases w
    refine ⟨rfl, mG_z (fun k hk => ?_) h.1⟩
    show (if 150 * i ≤ 150 * j + k ∧ 150 * j + k < 150 * i + 150 then z (150 * j + k - 150 * i) else sl (150 * j + k)) = z k
    rw [if_pos (by omega), show 150 * j + k - 150 * i = k by omega]
  · rw [if_neg e, if_neg e]
    refine ⟨g1, fun B w => ?_⟩
    obtain ⟨k1, k2⟩ := g2 B w
    refine ⟨k1, mG_z (fun k hk => ?_) k2⟩
    show (if 150 * i ≤ 150 * j + k ∧ 150 * j + k < 150 * i + 150 then z (150 * j + k - 150 * i) else sl (150 * j + k)) = sl (150 * j + k)
    rw [if_neg (by omega)]
theorem c_X4_keep {S : aS} {t : mT} {z : Nat → Int32} {r : mR} (h : mRl S t z r) (c : Int32) : Ct MX4_keep 0 0 [.ref 0, .int c] (mw t z r) (mQ (rKeep S c)) := by
  refine Ct.of rfl rfl (by decide +kernel) rfl (Nat.le_of_ble_eq_true rfl) ?_
  obtain ⟨a, sd, sl, kp, tx⟩ := r
  refine J.run csX4_keep 5 [] ?_
  refine J.inR 0 1 kX4_in mRX4_36 dX4_keep_4 (by decide) (Nat.le_of_ble_eq_true rfl) ⟨rfl, rfl, by decide⟩ (fun q => ?_) (fun i _ hi ec q1 => ?_)
  · refine J.run csX4_keep 20 [] ?_
    exact ⟨fun _ => ⟨fun w => absurd (show nI 1 ≤ 0 from w) (by decide), fun _ => mQ_e (t := (nI 1, t.2)) (mRl_t h _) (if_pos q) rfl⟩, fun w => absurd rfl w⟩
  have er : rKeep S c = (0, sKp S i, nI (v_ho S.1)) := by
    unfold rKeep
    rw [if_neg q1, ec, cN_n (by omega)]
  subst ec
  have zP0 : ∀ b z f, zP b 0 z f = f := fun b z f => funext fun j => if_neg (by omega)
  have e1 : nI 150 * nI i = nI (150 * i) := n_mul _ _
  have hh : z 146 = nI (v_ho S.1) := h.1.2.2.2.2.2.2.2.1
  have L : ∀ d k : Nat, k + d = 150 → J MX4_keep (mQ (rKeep S (nI i))) 0 0 29 [(0, .ref 0), (1, .int (nI i)), (2, .int (nI k))] [] (mw (nI 0, t.2) z (a, sd, zP (150 * i) k z sl, kp, tx)) := by
    intro d
    induction d with
    | zero =>
      intro k hk
      obtain rfl : k = 150 := by omega
      refine J.run csX4_keep 30 [] ?_
      refine ⟨fun _ => ⟨vp_n (by omega) (by decide), vp_n (a := 146) (by omega) (by decide), ?_⟩, fun q => absurd ((n_le (a := 150) (b := 150) (by omega) (by omega)).mpr (by omega)) q⟩
      refine mQ_0 er (mRl_keep (mRl_t h (nI 0)) i (by omega)) rfl hh ?_
      show mw (nI 0, t.2) z (a, sd, zP (150 * i) 150 z sl, upd kp (nI i).toNatClampNeg (vp_nar .boolean (nI 1)), tx) = _
      rw [cl_n (by omega)]
      rfl
    | succ d ih =>
      intro k hk
      have ih' := ih (k + 1) (by omega)
      rw [nI_succ k, ← zP_up (by omega), ← e1] at ih'
      refine J.run csX4_keep 30 [(29, 3)] ?_
      refine ⟨fun q => absurd ((n_le (a := 150) (b := k) (by omega) (by omega)).mp q) (by omega), fun _ => ⟨vp_n (by omega) (by decide), ?_, ?_⟩⟩
      · show vp_in (nI 150 * nI i + nI k) 300
        rw [e1, nI_add]
        exact vp_n (by omega) (by decide)
      · exact ih'
  have X := L 150 0 rfl
  rw [zP0] at X
  refine J.run csX4_keep 20 [(29, 3)] ?_
  exact ⟨fun w => absurd (show (1 : Int32) = 0 from w) (by decide), fun _ => ⟨fun _ => X, fun w => absurd (show nI 0 ≤ 0 by decide) w⟩⟩
theorem c_X4_goBack {S : aS} {t : mT} {z : Nat → Int32} {r : mR} (h : mRl S t z r) (c : Int32) : Ct MX4_goBack 0 0 [.ref 0, .int c] (mw t z r) (mQ (rGo S c)) := by
  refine Ct.of rfl rfl (by decide +kernel) rfl (Nat.le_of_ble_eq_true rfl) ?_
  obtain ⟨a, sd, sl, kp, tx⟩ := r
  refine J.run csX4_goBack 5 [] ?_
  refine J.inR 0 1 kX4_in mRX4_36 dX4_goBack_4 (by decide) (Nat.le_of_ble_eq_true rfl) ⟨rfl, rfl, by decide⟩ (fun q => ?_) (fun i _ hi ec q1 => ?_)
  · refine J.run csX4_goBack 20 [] ?_
    exact ⟨fun w => absurd rfl w, fun _ => ⟨fun w => absurd (show nI 1 ≤ 0 from w) (by decide), fun _ => mQ_e (t := (nI 1, t.2)) (mRl_t h _) (if_pos q) rfl⟩⟩
  have er : rGo S c = match S.2.1 i with
      | none => (2, S, 0)
      | some B => (0, sW (sS S) B, nI (v_ho B)) := by
    unfold rGo
    rw [if_neg q1, ec, cN_n (by omega)]
    cases S.2.1 i <;> rfl
  subst ec
  obtain ⟨g1, g2⟩ := h.2.1 i (by omega)
  have hcl : (nI i).toNatClampNeg = i := cl_n (by omega)
  cases e : S.2.1 i with
  | none =>
    rw [e] at er
    have gk : kp (nI i).toNatClampNeg = 0 := by
      rw [hcl]
      exact g1 e
    refine J.run csX4_goBack 20 [] ?_
    exact ⟨fun _ => ⟨vp_n (by omega) (by decide), fun _ => ⟨fun w => absurd (show nI 2 ≤ 0 from w) (by decide), fun _ => mQ_e (t := (nI 2, t.2)) (mRl_t h _) er rfl⟩, fun w => absurd gk w⟩, fun w => absurd (show (1 : Int32) = 0 from w) (by decide)⟩
  | some B =>
    rw [e] at er
    obtain ⟨gk, gB⟩ := g2 B e
    have gk : kp (nI i).toNatClampNeg = 1 := by
      rw [hcl]
      exact gk
    have gB : mG B (fun j => sl (150 * i + j)) := gB
    have hv : ∀ k, k < 150 → (nI 150 * nI i + nI k).toNatClampNeg = 150 * i + k := fun k hk => by rw [n_mul, nI_add, cl_n (by omega)]
    have hin : ∀ k, k < 150 → vp_in (nI 150 * nI i + nI k) 300 := fun k hk => by
      rw [n_mul, nI_add]
      exact vp_n (by omega) (by decide)
    have hh : zC 150 (fun j => sl (150 * i + j)) z 146 = nI (v_ho B) := (show zC 150 (fun j => sl (150 * i + j)) z 146 = sl (150 * i + 146) from if_pos (by decide)).trans gB.2.2.2.2.2.2.2.1
    have L : ∀ sv sd', mRl (sS S) (nI 0, sv, t.2.2) z (a, sd', sl, kp, tx) → ∀ d k : Nat, k + d = 150 → J MX4_goBack (mQ (rGo S (nI i))) 0 0 46 [(0, .ref 0), (1, .int (nI i)), (2, .int (nI k))] [] (mw (nI 0, sv, t.2.2) (zC k (fun j => sl (150 * i + j)) z) (a, sd', sl, kp, tx)) := by
      intro sv sd' hr d
      induction d with
      | zero =>
        intro k hk
        obtain rfl : k = 150 := by omega
        refine J.run csX4_goBack 30 [] ?_
        refine ⟨fun _ => ⟨vp_n (a := 146) (by omega) (by decide), ?_⟩, fun q => absurd ((n_le (a := 150) (b := 150) (by omega) (by omega)).mpr (by omega)) q⟩
        exact mQ_0 er (mRl_w hr (mG_z (fun j hj => if_pos hj) gB)) rfl hh rfl
      | succ d ih =>
        intro k hk
        have ih' := ih (k + 1) (by omega)
        rw [nI_succ k, ← zC_u (k := k) (y := sl (nI 150 * nI i + nI k).toNatClampNeg) (f := fun j => sl (150 * i + j)) (by omega) (congrArg sl (hv k (by omega)))] at ih'
        refine J.run csX4_goBack 30 [(46, 3)] ?_
        refine ⟨fun q => absurd ((n_le (a := 150) (b := k) (by omega) (by omega)).mp q) (by omega), fun _ => ⟨hin k (by omega), vp_n (by omega) (by decide), ?_⟩⟩
        exact ih'
    have Y : J MX4_goBack (mQ (rGo S (nI i))) 0 0 28 [(0, .ref 0), (1, .int (nI i))] [.int (nI 0), .ref 0] (mw t z (a, sd, sl, kp, tx)) := by
      refine J.run csX4_goBack 20 [] ?_
      refine ⟨fun _ => ?_, fun w => absurd (show nI 0 ≤ 0 by decide) w⟩
      refine J.rec [] (t := (nI 0, t.2)) (mRl_t h _) kX4_record mRX4_40 dX4_goBack_41 (by decide) rfl (Nat.le_of_ble_eq_true rfl) (fun sv sd' hr => ?_)
      have X := L sv sd' hr 150 0 rfl
      rw [zC_0] at X
      refine J.run csX4_goBack 20 [(46, 3)] ?_
      exact X
    refine J.run csX4_goBack 20 [(28, 2)] ?_
    exact ⟨fun _ => ⟨vp_n (by omega) (by decide), fun w => absurd (w.symm.trans gk) (by decide), fun _ => Y⟩, fun w => absurd (show (1 : Int32) = 0 from w) (by decide)⟩
