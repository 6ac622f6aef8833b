/-! The law's body: its start. -/
def iH (k : Nat) (h : Nat → Int32) : Prop := ∀ j, j < k → h (2 * j) = nI (j % 8) ∧ h (2 * j + 1) = nI (j % 10)
def iV (k : Nat) (v : Nat → Int32) : Prop := ∀ j, j < 6 → v (4 * j + 3) = nI 0 ∧ (j < k → v (4 * j) = nI j ∧ v (4 * j + 1) = nI 2 ∧ v (4 * j + 2) = nI 1)
def iG (m : Nat) (g : Nat → Int32) : Prop := ∀ j, g j = if j = 4 then nI 3 else if 6 ≤ j ∧ j < 6 + m then nI 2 else nI 0
theorem iH_s {k : Nat} {h : Nat → Int32} (H : iH k h) {p1 p2 : Nat} {x y : Int32} (e1 : p1 = 2 * k) (e2 : p2 = 2 * k + 1) (ex : x = nI (k % 8)) (ey : y = nI (k % 10)) : iH (k + 1) (upd (upd h p1 x) p2 y) := by
  subst e1 e2 ex ey
  intro j hj
  by_cases q : j = k
  · subst q
    rw [pk_un (by omega), pk_us, pk_us]
    exact ⟨rfl, rfl⟩
  · rw [pk_un (by omega), pk_un (by omega), pk_un (by omega), pk_un (by omega)]
    exact H j (by omega)
theorem iV_s {k : Nat} {v : Nat → Int32} (H : iV k v) (hk : k < 6) {p0 p1 p2 : Nat} {x : Int32} (e0 : p0 = 4 * k) (e1 : p1 = 4 * k + 1) (e2 : p2 = 4 * k + 2) (ex : x = nI k) : iV (k + 1) (upd (upd (upd v p0 x) p1 (nI 2)) p2 (nI 1)) := by
  subst e0 e1 e2 ex
  intro j hj
  obtain ⟨h3, h4⟩ := H j hj
  rw [pk_un (show 4 * j + 3 ≠ 4 * k + 2 by omega), pk_un (show 4 * j + 3 ≠ 4 * k + 1 by omega), pk_un (show 4 * j + 3 ≠ 4 * k by omega)]
  refine ⟨h3, fun hj2 => ?_⟩
  by_cases q : j = k
  · subst q
    rw [pk_un (show 4 * j ≠ 4 * j + 2 by omega), pk_un (show 4 * j ≠ 4 * j + 1 by omega), pk_us, pk_un (show 4 * j + 1 ≠ 4 * j + 2 by omega), pk_us, pk_us]
    exact ⟨rfl, rfl, rfl⟩
  · rw [pk_un (show 4 * j ≠ 4 * k + 2 by omega), pk_un (show 4 * j ≠ 4 * k + 1 by omega), pk_un (show 4 * j ≠ 4 * k by omega), pk_un (show 4 * j + 1 ≠ 4 * k + 2 by omega), pk_un (show 4 * j + 1 ≠ 4 * k + 1 by omega), pk_un (show 4 * j + 1 ≠ 4 * k by omega), pk_un (show 4 * j + 2 ≠ 4 * k + 2 by omega), pk_un (show 4 * j + 2 ≠ 4 * k + 1 by omega), pk_un (show 4 * j + 2 ≠ 4 * k by omega)]
    exact h4 (by omega)
theorem iG_s {m : Nat} {g : Nat → Int32} (H : iG m g) {p : Nat} (e : p = 6 + m) : iG (m + 1) (upd g p (nI 2)) := by
  subst e
  intro j
  by_cases q : j = 6 + m
  · subst q
    rw [pk_us, if_neg (by omega), if_pos (by omega)]
  · rw [pk_un q, H j]
    by_cases q4 : j = 4
    · rw [if_pos q4, if_pos q4]
    · rw [if_neg q4, if_neg q4]
      by_cases q6 : 6 ≤ j ∧ j < 6 + m
      · rw [if_pos q6, if_pos (by omega)]
      · rw [if_neg q6, if_neg (by omega)]
theorem i_R5 {h v g : Nat → Int32} (hh : iH 24 h) (hv : iV 6 v) (hg : iG 3 g) : R5 A0 h v g (fun _ => 0) (fun _ => 0) := by
  refine ⟨fun k hk => ?_, fun i hi w hw => ?_, ⟨⟨?_, ?_, ?_, ?_⟩, fun s hs => ?_, fun m hm => ?_⟩, fun m hm k hk => ?_, fun k hk => ⟨rfl, rfl, rfl⟩⟩
  · obtain ⟨a, b⟩ := hh k hk
    show _ = nI (if k < 24 then k % 8 else 0) ∧ _ = nI (if k < 24 then k % 10 else 0)
    rw [if_pos hk, if_pos hk]
    exact ⟨a, b⟩
  · obtain ⟨a, b⟩ := hv i hi
    obtain ⟨b0, b1, b2⟩ := b hi
    show _ = nI (if w = 0 then i else if w = 1 then 2 else if w = 2 then 1 else 0)
    rcases (show w = 0 ∨ w = 1 ∨ w = 2 ∨ w = 3 by omega) with rfl | rfl | rfl | rfl
    · exact b0
    · exact b1
    · exact b2
    · exact a
  · exact (hg 0).trans rfl
  · exact (hg 1).trans rfl
  · exact (hg 2).trans rfl
  · exact (hg 3).trans rfl
  · rcases (show s = 0 ∨ s = 1 by omega) with rfl | rfl
    · exact (hg 4).trans rfl
    · exact (hg 5).trans rfl
  · refine ⟨?_, ?_, ?_⟩
    · rw [hg (6 + m), if_neg (by omega), if_pos (by omega)]
      rfl
    · rw [hg (9 + m), if_neg (by omega), if_neg (by omega)]
      rfl
    · rw [hg (12 + m), if_neg (by omega), if_neg (by omega)]
      rfl
  · exact absurd hk (Nat.not_lt_zero k)
theorem law_h {L : Nat} {xs : Nat → Int32} {Φ : j_F} {bc bs : Nat} {K : cK} {v g l o : Nat → Int32} (kk : ∀ h, iH 24 h → J (ML_law L xs) Φ bc bs 76 (gL []) [] (MW K h v g l o)) : ∀ (d k : Nat), k + d = 24 → ∀ h : Nat → Int32, iH k h → J (ML_law L xs) Φ bc bs 39 (gL [(7, .int (nI k))]) [] (MW K h v g l o) := by
  intro d
  induction d with
  | zero =>
    intro k hk h hh
    obtain rfl : k = 24 := by omega
    refine J.run (csL_law_3 L xs) 3 [(76, 7)] ?_
    exact ⟨fun _ => kk h hh, fun q => absurd (by decide) q⟩
  | succ d ih =>
    intro k hk h hh
    have i0 : nI 2 * nI k = nI (2 * k) := n_mul 2 k
    have i1 : nI 2 * nI k + nI 1 = nI (2 * k + 1) := by rw [i0, nI_add]
    have x0 : vp_in (nI 2 * nI k) 48 := by rw [i0]; exact vp_n (by omega) (by decide)
    have x1 : vp_in (nI 2 * nI k + nI 1) 48 := by rw [i1]; exact vp_n (by omega) (by decide)
    have c0 : (nI 2 * nI k).toNatClampNeg = 2 * k := by rw [i0, cl_n (by omega)]
    have c1 : (nI 2 * nI k + nI 1).toNatClampNeg = 2 * k + 1 := by rw [i1, cl_n (by omega)]
    refine J.run (csL_law_3 L xs) 20 [(76, 7), (56, 8)] ?_
    refine ⟨fun q => absurd ((n_le (a := 24) (by omega) (by omega)).mp q) (by omega), fun _ => ⟨(by decide : ¬ (8 : Int32) = 0), ?_⟩⟩
    refine J.iast (i := 223) (n := 48) (f := h) dL_law_56 (MW_get K _ 0) x0 ?_
    rw [MW_set K _ 0]
    refine J.run (csL_law_3 L xs) 20 [(69, 8)] ?_
    refine ⟨(by decide : ¬ (10 : Int32) = 0), ?_⟩
    refine J.iast (i := 223) (n := 48) (f := upd h (nI 2 * nI k).toNatClampNeg (nI k - nI k / 8 * 8)) dL_law_69 (MW_get K _ 0) x1 ?_
    rw [MW_set K _ 0]
    have X := ih (k + 1) (by omega) (upd (upd h (nI 2 * nI k).toNatClampNeg (nI k - nI k / 8 * 8)) (nI 2 * nI k + nI 1).toNatClampNeg (nI k - nI k / 10 * 10)) (iH_s hh c0 c1 (n_rem8 (by omega)) (n_rem10 (by omega)))
    refine J.run (csL_law_3 L xs) 3 [(39, 8)] ?_
    exact J.cast X (congrArg (fun x : Int32 => gL [(7, .int x)]) (nI_succ k)) rfl rfl
theorem law_v {L : Nat} {xs : Nat → Int32} {Φ : j_F} {bc bs : Nat} {K : cK} {h g l o : Nat → Int32} (kk : ∀ v, iV 6 v → J (ML_law L xs) Φ bc bs 118 (gL []) [] (MW K h v g l o)) : ∀ (d k : Nat), k + d = 6 → ∀ v : Nat → Int32, iV k v → J (ML_law L xs) Φ bc bs 79 (gL [(7, .int (nI k))]) [] (MW K h v g l o) := by
  intro d
  induction d with
  | zero =>
    intro k hk v hv
    obtain rfl : k = 6 := by omega
    refine J.run (csL_law_3 L xs) 3 [(118, 7)] ?_
    exact ⟨fun _ => kk v hv, fun q => absurd (by decide) q⟩
  | succ d ih =>
    intro k hk v hv
    have i0 : nI 4 * nI k = nI (4 * k) := n_mul 4 k
    have i1 : nI 4 * nI k + nI 1 = nI (4 * k + 1) := by rw [i0, nI_add]
    have i2 : nI 4 * nI k + nI 2 = nI (4 * k + 2) := by rw [i0, nI_add]
    have x0 : vp_in (nI 4 * nI k) 24 := by rw [i0]; exact vp_n (by omega) (by decide)
    have x1 : vp_in (nI 4 * nI k + nI 1) 24 := by rw [i1]; exact vp_n (by omega) (by decide)
    have x2 : vp_in (nI 4 * nI k + nI 2) 24 := by rw [i2]; exact vp_n (by omega) (by decide)
    have c0 : (nI 4 * nI k).toNatClampNeg = 4 * k := by rw [i0, cl_n (by omega)]
    have c1 : (nI 4 * nI k + nI 1).toNatClampNeg = 4 * k + 1 := by rw [i1, cl_n (by omega)]
    have c2 : (nI 4 * nI k + nI 2).toNatClampNeg = 4 * k + 2 := by rw [i2, cl_n (by omega)]
    refine J.run (csL_law_3 L xs) 20 [(118, 7), (93, 8)] ?_
    refine ⟨fun q => absurd ((n_le (a := 6) (by omega) (by omega)).mp q) (by omega), fun _ => ?_⟩
    refine J.iast (i := 224) (n := 24) (f := v) dL_law_93 (MW_get K _ 1) x0 ?_
    rw [MW_set K _ 1]
    refine J.run (csL_law_3 L xs) 20 [(102, 8)] ?_
    refine J.iast (i := 224) (n := 24) (f := upd v (nI 4 * nI k).toNatClampNeg (nI k)) dL_law_102 (MW_get K _ 1) x1 ?_
    rw [MW_set K _ 1]
    refine J.run (csL_law_3 L xs) 20 [(111, 8)] ?_
    refine J.iast (i := 224) (n := 24) (f := upd (upd v (nI 4 * nI k).toNatClampNeg (nI k)) (nI 4 * nI k + nI 1).toNatClampNeg (nI 2)) dL_law_111 (MW_get K _ 1) x2 ?_
    rw [MW_set K _ 1]
    have X := ih (k + 1) (by omega) _ (iV_s hv (by omega) c0 c1 c2 rfl)
    refine J.run (csL_law_3 L xs) 3 [(79, 8)] ?_
    exact J.cast X (congrArg (fun x : Int32 => gL [(7, .int x)]) (nI_succ k)) rfl rfl
theorem law_g {L : Nat} {xs : Nat → Int32} {Φ : j_F} {bc bs : Nat} {K : cK} {h v l o : Nat → Int32} (kk : ∀ g, iG 3 g → J (ML_law L xs) Φ bc bs 147 (gL []) [] (MW K h v g l o)) : ∀ (d m : Nat), m + d = 3 → ∀ g : Nat → Int32, iG m g → J (ML_law L xs) Φ bc bs 126 (gL [(7, .int (nI m))]) [] (MW K h v g l o) := by
  intro d
  induction d with
  | zero =>
    intro m hm g hg
    obtain rfl : m = 3 := by omega
    refine J.run (csL_law_3 L xs) 3 [(147, 7)] ?_
    exact ⟨fun _ => kk g hg, fun q => absurd (by decide) q⟩
  | succ d ih =>
    intro m hm g hg
    have i6 : nI 6 + nI m = nI (6 + m) := nI_add 6 m
    have x6 : vp_in (nI 6 + nI m) 15 := by rw [i6]; exact vp_n (by omega) (by decide)
    have c6 : (nI 6 + nI m).toNatClampNeg = 6 + m := by rw [i6, cl_n (by omega)]
    refine J.run (csL_law_3 L xs) 20 [(147, 7), (140, 8)] ?_
    refine ⟨fun q => absurd ((n_le (a := 3) (by omega) (by omega)).mp q) (by omega), fun _ => ?_⟩
    refine J.iast (i := 225) (n := 15) (f := g) dL_law_140 (MW_get K _ 2) x6 ?_
    rw [MW_set K _ 2]
    have X := ih (m + 1) (by omega) _ (iG_s hg c6)
    refine J.run (csL_law_3 L xs) 3 [(126, 8)] ?_
    exact J.cast X (congrArg (fun x : Int32 => gL [(7, .int x)]) (nI_succ m)) rfl rfl
theorem law_147 {L : Nat} {xs : Nat → Int32} {Φ : j_F} (hL : L ≤ 260) (hΦ : ∀ h, Φ (.inl (some (.int 1))) h) {K : cK} {h v g : Nat → Int32} (hK : cRel S0 K) (hR0 : R5 A0 h v g (fun _ => 0) (fun _ => 0)) : J (ML_law L xs) Φ 1371 10026 147 (gL []) [] (MW K h v g (fun _ => 0) (fun _ => 0)) := by
  refine J.run (csL_law_3 L xs) 6 [] ?_
  refine J.ok 1371 10026 (c_L_areWinds (Y := []) hK hR0) kL_areWinds mRL_129 dL_law_152 ⟨Nat.le_of_ble_eq_true rfl, Nat.le_of_ble_eq_true rfl, rfl⟩ rfl rfl (Nat.le_refl _) (Nat.le_refl _) (fun K hK => ?_)
  refine J.run (csL_law_155 L xs) 12 [] ?_
  refine ⟨fun q => absurd q (by decide), fun _ => ?_⟩
  refine J.ok 1371 10026 (c_L_areSacks (Y := []) hK hR0) kL_areSacks mRL_133 dL_law_167 ⟨Nat.le_of_ble_eq_true rfl, Nat.le_of_ble_eq_true rfl, rfl⟩ rfl rfl (Nat.le_refl _) (Nat.le_refl _) (fun K hK => ?_)
  refine J.run (csL_law_155 L xs) 5 [] ?_
  refine ⟨fun q => absurd q (by decide), fun _ => ?_⟩
  have h1 := c_L_undo hK
  rw [show rUndo S0 = (1, S0, 0) from rfl] at h1
  refine J.mH 1370 10020 [] (r := (1, S0, 0)) (c1 := -33) h1 kL_undo mRL_137 dL_law_174 ⟨Nat.le_of_ble_eq_true rfl, Nat.le_of_ble_eq_true rfl, rfl⟩ rfl rfl rfl (Nat.le_of_ble_eq_true rfl) (Nat.le_of_ble_eq_true rfl) (Nat.le_of_ble_eq_true rfl) (fun K hK => ?_)
  refine J.run (csL_law_155 L xs) 8 [(187, 8)] ?_
  refine ⟨fun _ => ?_, fun q => absurd rfl q⟩
  exact law_turns hL hΦ 50 0 rfl S0 K h v g _ _ hK hR0 (Nat.zero_le _)
theorem lw_body {L : Nat} {xs : Nat → Int32} {Φ : j_F} (hL : L ≤ 260) (hΦ : ∀ h, Φ (.inl (some (.int 1))) h) : J (ML_law L xs) Φ 1599 11813 0 [(0, .ref j_sid)] [] [] := by
  obtain ⟨c0, cs, he, hcs⟩ := cl0_c
  have hC3 := c_X3_init
  rw [he] at hC3
  have hbc := cl0_bd
  rw [he] at hbc
  refine J.make 1376 10152 (fs := [.null, .null, .null, .null, .int 0, .int 0, .null, .null]) hC3 rfl jnX3 tyX3_ok lRL_10 a_n3 kX3_init.2.2 X3_fs (fun _ => rfl) rfl rfl rfl kX3_init (Or.inl mRL_128) ⟨by decide +kernel, by decide +kernel, by decide +kernel⟩ dL_law_0 dL_law_3 dL_law_4 (Nat.le_of_ble_eq_true rfl) (Nat.le_of_ble_eq_true rfl) rfl (by decide) (Nat.le_of_ble_eq_true rfl) (Nat.le_of_ble_eq_true rfl) trivial rfl (by rw [hcs]; exact hbc) (by rfl) rfl (by rw [hcs]; decide) ?_
  have e1 : ([] : j_H) ++ (c0 :: cs).map (j_rc (j_f (List.range' ([] : j_H).length (cs.length + 1)))) = clw K0 [] ++ [] := by
    rw [List.nil_append, hcs, he, List.append_nil]
    exact j_rcL_id (n := 223) (fun i hi => j_f_r0 hi) _ hbc
  rw [e1]
  refine J.run (csL_law_3 L xs) 2 [] ?_
  refine J.newM 48 1375 10104 [hC (fun _ => 0)] rfl (Nat.le_of_ble_eq_true rfl) (Nat.le_of_ble_eq_true rfl) ⟨rfl, by decide⟩ dL_law_10 rfl trivial (Nat.zero_le _) rfl ?_
  refine J.run (csL_law_3 L xs) 2 [] ?_
  refine J.newM 24 1374 10080 [hC (fun _ => 0), vC (fun _ => 0)] rfl (Nat.le_of_ble_eq_true rfl) (Nat.le_of_ble_eq_true rfl) ⟨rfl, by decide⟩ dL_law_15 rfl ⟨trivial, trivial⟩ (by decide) rfl ?_
  refine J.run (csL_law_3 L xs) 2 [] ?_
  refine J.newM 15 1373 10065 [hC (fun _ => 0), vC (fun _ => 0), gC (fun _ => 0)] rfl (Nat.le_of_ble_eq_true rfl) (Nat.le_of_ble_eq_true rfl) ⟨rfl, by decide⟩ dL_law_20 rfl ⟨trivial, trivial, trivial⟩ (by decide) rfl ?_
  refine J.run (csL_law_3 L xs) 2 [] ?_
  refine J.newM 24 1372 10041 [hC (fun _ => 0), vC (fun _ => 0), gC (fun _ => 0), vC (fun _ => 0)] rfl (Nat.le_of_ble_eq_true rfl) (Nat.le_of_ble_eq_true rfl) ⟨rfl, by decide⟩ dL_law_26 rfl ⟨trivial, trivial, trivial, trivial⟩ (by decide) rfl ?_
  refine J.run (csL_law_3 L xs) 2 [] ?_
  refine J.newM 15 1371 10026 [hC (fun _ => 0), vC (fun _ => 0), gC (fun _ => 0), vC (fun _ => 0), gC (fun _ => 0)] rfl (Nat.le_of_ble_eq_true rfl) (Nat.le_of_ble_eq_true rfl) ⟨rfl, by decide⟩ dL_law_32 rfl ⟨trivial, trivial, trivial, trivial, trivial⟩ (by decide) rfl ?_
  refine J.run (csL_law_3 L xs) 3 [(39, 8)] ?_
  refine law_h (fun h hh => ?_) 24 0 rfl _ (fun j hj => absurd hj (Nat.not_lt_zero j))
  refine J.run (csL_law_3 L xs) 2 [(79, 8)] ?_
  refine law_v (fun v hv => ?_) 6 0 rfl _ (fun j hj => ⟨rfl, fun h0 => absurd h0 (Nat.not_lt_zero j)⟩)
  refine J.run (csL_law_3 L xs) 3 [(122, 7)] ?_
  refine J.iast (i := 225) (n := 15) (f := fun _ => 0) dL_law_122 (MW_get K0 _ 2) (vp_c (by decide)) ?_
  rw [MW_set K0 _ 2]
  refine J.run (csL_law_3 L xs) 2 [(126, 8)] ?_
  refine law_g (fun g hg => law_147 hL hΦ K0_rel (i_R5 hh hv hg)) 3 0 rfl _ (fun j => ?_)
  by_cases q : j = 4
  · rw [if_pos q]
    exact if_pos q
  · rw [if_neg q, if_neg (by omega)]
    exact if_neg q
