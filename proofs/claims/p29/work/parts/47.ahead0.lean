/-! Cells that are made and forgotten; bounds; the law's world with rows behind the class. -/
theorem j_w_pre {T : Nat → ClassId} {ad : Nat → Nat} {w ys : j_H} {k : Nat} {q : Nat × va_E} (h : (j_w T ad w)[k]? = some q) : (j_w T ad (w ++ ys))[k]? = some q := by
  obtain ⟨c, hc, rfl⟩ := j_w_inv h
  exact j_w_get (by rw [List.getElem?_append_left (List.getElem?_eq_some_iff.mp hc).1]; exact hc)
theorem Ct.take {M : j_M} {mc ms : Nat} {as : List Value} {h : j_H} {Φ Φ' : j_F} (hC : Ct M mc ms as h Φ) (hw : ∀ u w, Φ u w → ∃ w2 ys, w = w2 ++ ys ∧ Φ' u w2) : Ct M mc ms as h Φ' := by
  intro l hst D T ad sz
  refine MetFree.mono (hC l hst D T ad sz) (fun _ _ hp => hp) (fun _ _ _ _ _ hk => hk) (fun a s o t _ hq => ?_)
  have sP : ∀ (w2 ys : j_H) (ad' : Nat → Nat), va_P D vwCl (j_w T ad' (w2 ++ ys)) t.heap → va_P D vwCl (j_w T ad' w2) t.heap := fun w2 ys ad' hP k q hq => hP k q (j_w_pre hq)
  have sD : ∀ (w2 ys : j_H) (ad' : Nat → Nat) (A : Nat → Prop), va_D A (j_w T ad' (w2 ++ ys)) → va_D A (j_w T ad' w2) := fun w2 ys ad' A hD => ⟨fun a b x y hx hy hxy => hD.1 a b x y (j_w_pre hx) (j_w_pre hy) hxy, fun k q hq => hD.2 k q (j_w_pre hq)⟩
  rcases hq with ⟨⟨⟨v, h', ad', ho, hΦ, hN, hP, hD⟩, hF⟩, hL⟩ | ⟨q, ho, E, ce, L, ⟨⟨h', ad', hΦ, hN, hP, hD⟩, hF⟩, rest⟩
  · obtain ⟨w2, ys, rfl, h2⟩ := hw _ _ hΦ
    exact Or.inl ⟨⟨⟨v, w2, ad', ho, h2, hN, sP _ _ _ hP, sD _ _ _ _ hD⟩, hF⟩, hL⟩
  · obtain ⟨w2, ys, rfl, h2⟩ := hw _ _ hΦ
    exact Or.inr ⟨q, ho, E, ce, L, ⟨⟨w2, ad', h2, hN, sP _ _ _ hP, sD _ _ _ _ hD⟩, hF⟩, rest⟩
/-- what comes back closed needs no new places -/
theorem Ct.fix {ow : String} {y : MethodName} {b : ByteArray} {n : Nat} {r : Option FieldType} {f l : Nat} {t : List (Nat × Nat × Nat × Nat)} {s : Option (Nat × (Nat → Int32))} {mc ms : Nat} {as : List Value} {h : j_H} {Φ : j_F} (hC : Ct (ow, y, b, n, r, f, l, t, s, true) mc ms as h Φ)
    (hb : ∀ u w, Φ u w → w.length = h.length ∧ j_bdL h.length w ∧ ∃ v, u = .inl (some v) ∧ ∀ ad, j_v ad v = v) : Ct (ow, y, b, n, r, f, l, t, s, false) mc ms as h Φ := by
  intro l9 hst D T ad sz
  refine MetFree.mono (hC l9 hst D T ad sz) (fun _ _ hp => hp) (fun _ _ _ _ _ hk => hk) (fun a s o t _ hq => ?_)
  rcases hq with ⟨⟨⟨v, h', ad', ho, hΦ, hN, hP, hD⟩, hF⟩, hL⟩ | ⟨q, ho, E, ce, L, ⟨⟨h', ad', hΦ, hN, hP, hD⟩, hF⟩, rest⟩
  · obtain ⟨h1, h2, v2, hv2, hv3⟩ := hb _ _ hΦ
    have hv2 : v = some v2 := Sum.inl.inj hv2
    subst hv2
    have e : j_w T ad' h' = j_w T ad h' := j_w_ag (by rw [h1]; exact h2) (fun i hi => hN i (fun _ => by rw [← h1]; exact hi))
    rw [e] at hP hD
    refine Or.inl ⟨⟨⟨some v2, h', ad, ?_, hΦ, fun _ _ => rfl, hP, hD⟩, hF⟩, hL⟩
    rw [ho]
    show Outcome.returned (some (j_v ad' v2)) = Outcome.returned (some (j_v ad v2))
    rw [hv3, hv3]
  · obtain ⟨h1, h2, v2, hv2, hv3⟩ := hb _ _ hΦ
    cases hv2
theorem slq_bd : ∀ j i, slq j = some i → i < 223 := by
  intro j i
  unfold slq
  split <;> intro h <;> first | (cases h; decide) | cases h
theorem svq_bd : ∀ j i, svq j = some i → i < 223 := by
  intro j i
  unfold svq
  split <;> intro h <;> first | (cases h; decide) | cases h
theorem blk_bd (q : vZ) {B : List Nat} (h : ∀ i, i < 24 → j_f B i < 223) : j_bdL 223 (blk q B) := j_bdL_rc h _ (vil_bd q.1 q.2)
theorem clw_bd (K : cK) : j_bdL 223 (clw K []) := by
  unfold clw cX clp
  refine j_bdL_app ⟨rfl, j_bdL_app (j_bdL_rc (by decide +kernel) _ (vil_bd K.1.1 K.1.2)) ⟨slq_bd, trivial, svq_bd, rfl, trivial, trivial, trivial⟩⟩ ?_
  refine j_bdL_app (blk_bd _ (by decide +kernel)) (j_bdL_app (blk_bd _ (by decide +kernel)) (j_bdL_app (blk_bd _ (by decide +kernel)) (j_bdL_app (blk_bd _ (by decide +kernel)) (j_bdL_app (blk_bd _ (by decide +kernel)) (j_bdL_app (blk_bd _ (by decide +kernel)) (j_bdL_app (blk_bd _ (by decide +kernel)) (j_bdL_app (blk_bd _ (by decide +kernel)) trivial)))))))
theorem rg5_bd : ∀ i, i < 223 → j_f (List.range' 5 223) i < 228 := fun i hi => by
  show (List.range' 5 223).getD i 0 < 228
  rw [List.getD_eq_getElem?_getD, List.getElem?_range' hi]
  show 5 + 1 * i < 228
  omega
theorem clA_bd (K : cK) : j_bdL 228 (clA K) := j_bdL_rc rg5_bd _ (clw_bd K)
theorem LW_len (h v g l o : Nat → Int32) (K : cK) (Y : j_H) : (LW h v g l o (clA K ++ Y)).length = 228 + Y.length := by
  show (clA K ++ Y).length + 1 + 1 + 1 + 1 + 1 = _
  rw [List.length_append, clA_len]
  omega
theorem LW_bd {n : Nat} (hn : 228 ≤ n) (h v g l o : Nat → Int32) (K : cK) {Y : j_H} (hY : j_bdL n Y) : j_bdL n (LW h v g l o (clA K ++ Y)) := ⟨trivial, trivial, trivial, trivial, trivial, j_bdL_app (j_bdL_le hn _ (clA_bd K)) hY⟩
theorem LW_app (h v g l o : Nat → Int32) (K : cK) (Y Z : j_H) : LW h v g l o (clA K ++ Y) ++ Z = LW h v g l o (clA K ++ (Y ++ Z)) := by
  show LW h v g l o ((clA K ++ Y) ++ Z) = _
  rw [List.append_assoc]
theorem LW_get (h v g l o : Nat → Int32) (K : cK) (Y : j_H) (j : Nat) : (LW h v g l o (clA K ++ Y))[228 + j]? = Y[j]? := by
  show ([hC h, vC v, gC g, vC l, gC o] ++ (clA K ++ Y))[228 + j]? = _
  rw [List.getElem?_append_right (by show 5 ≤ 228 + j; omega), List.getElem?_append_right (by rw [clA_len]; show 223 ≤ 228 + j - 5; omega), clA_len]
  exact congrArg (fun i => Y[i]?) (show 228 + j - 5 - 223 = j by omega)
theorem LW_set (h v g l o : Nat → Int32) (K : cK) (Y : j_H) (j : Nat) (c : j_C) : (LW h v g l o (clA K ++ Y)).set (228 + j) c = LW h v g l o (clA K ++ Y.set j c) := by
  show ([hC h, vC v, gC g, vC l, gC o] ++ (clA K ++ Y)).set (228 + j) c = _
  rw [List.set_append_right _ _ (by show 5 ≤ 228 + j; omega), List.set_append_right _ _ (by rw [clA_len]; show 223 ≤ 228 + j - 5; omega), clA_len, show 228 + j - [hC h, vC v, gC g, vC l, gC o].length - 223 = j by show 228 + j - 5 - 223 = j; omega]
  rfl
/-- a row is made behind all -/
theorem J.newL {M : j_M} {Φ : j_F} {bc bs pc : Nat} {lv : j_L} {n9 : Int32} {h v g l o : Nat → Int32} {K : cK} {Y : j_H} (N bc1 bs1 : Nat) (Y' : j_H) (hY : Y' = Y ++ [.inl (0, N, .inl (fun _ => 0))]) (hbc : bc1 + 1 ≤ bc) (hbs : bs1 + N ≤ bs) (hn : n9 = nI N ∧ N < 100000) (hd : decode (jm_b M) pc = .ok (.newarray .int, 2)) (ha : jm_a M = true) (hYb : j_bdL 228 Y) (hYl : Y.length ≤ 1000) (hlv : (lv.all fun q => j_vb (228 + Y.length) q.2) = true)
    (k : J M Φ bc1 bs1 (pc + 2) lv [.ref (228 + Y.length)] (LW h v g l o (clA K ++ Y'))) : J M Φ bc bs pc lv [.int n9] (LW h v g l o (clA K ++ Y)) := by
  refine J.newi N bc1 bs1 hbc hbs hn hd ha ?_ ?_ rfl ?_ ?_
  · rw [LW_len]
    exact LW_bd (Nat.le_add_right _ _) h v g l o K (j_bdL_le (Nat.le_add_right _ _) _ hYb)
  · rw [LW_len]
    exact hlv
  · rw [LW_len]
    show 228 + Y.length + 1 ≤ 1000000
    omega
  · rw [LW_len, LW_app, ← hY]
    exact k
/-- villages behind some hours -/
theorem hrs_s : ∀ (n : Nat) (A : aV), hrs (n + 1) A = hr1 (hrs n A)
  | 0, _ => rfl
  | n + 1, A => hrs_s n (hr1 A)
theorem hrs_w : ∀ (n : Nat) (A : aV), v_sd (hrs n A) = v_sd A ∧ v_sg (hrs n A) = v_sg A ∧ v_vn (hrs n A) = v_vn A ∧ v_se (hrs n A) = v_se A ∧ v_br (hrs n A) = v_br A ∧ v_tk (hrs n A) = v_tk A
  | 0, _ => ⟨rfl, rfl, rfl, rfl, rfl, rfl⟩
  | n + 1, A => hrs_w n (hr1 A)
theorem hrs_hR {A : aV} {h : Nat → Int32} (H : hR A h) (m : Nat) : hR (hrs m A) h := by
  unfold hR
  rw [(hrs_w m A).1, (hrs_w m A).2.1]
  exact H
theorem hrs_vR {A : aV} {v : Nat → Int32} (H : vR A v) (m : Nat) : vR (hrs m A) v := by
  unfold vR
  rw [(hrs_w m A).2.2.1]
  exact H
theorem hrsG_s : ∀ (n : Nat) (A : aV), hrsG (n + 1) A = hrsG n A + hrG (hrs n A)
  | 0, A => by
    show hrG A + 0 = 0 + hrG A
    rw [Nat.zero_add, Nat.add_zero]
  | n + 1, A => by
    show hrG A + hrsG (n + 1) (hr1 A) = hrG A + hrsG n (hr1 A) + hrG (hrs n (hr1 A))
    rw [hrsG_s n (hr1 A), Nat.add_assoc]
