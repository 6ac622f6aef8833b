/-! The instruction that makes rows of rows. -/
theorem mm_top (s : State) (f : JFrame) (c d : ClassId) (N M : Nat) : ∀ i, mm_st (s.setTop f) c d N M i = (mm_st s c d N M i).setTop f
  | 0 => rfl
  | i + 1 => by simp only [mm_st, mm_top s f c d N M i, State.heap_setTop, State.pushCell_setTop, State.setCell_setTop]
section MMS
variable {p : Program} {l : Launch} {e : Env} {R : Room} {s : State} {m : MethodId} {args : Array Value} {below : List Frame} {meth : Method} {c : Code} {T : State} {locs : List Loc} {cells slots : Nat}
theorem mm_stand (X : Stand p l e R s m args below meth c T locs cells slots) (cA cd : ClassId) (N M : Nat) : ∀ i, Stand p l e R s m args below meth c (mm_st T cA cd N M i) locs (cells + 1 + i) (slots + N + i * M)
  | 0 => by
    have h := X.pushed (mm_o cA N T.heap.size 0)
    rw [(mm_o_f _ _ _ _).2.2] at h
    rw [Nat.zero_mul]
    exact h
  | i + 1 => by
    have Xi := mm_stand X cA cd N M i
    obtain ⟨f1, f2, f3, f4⟩ := mm_f T cA cd N M i
    have hlt : T.heap.size < (mm_st T cA cd N M i).heap.size := by omega
    have hcell : ((mm_st T cA cd N M i).pushCell (arrV cd M (fun _ => .int 0))).heap[T.heap.size]? = some (mm_o cA N T.heap.size i) := by
      rw [State.heap_pushCell_of_lt _ _ hlt]
      exact f2
    have h := (Xi.pushed (arrV cd M (fun _ => .int 0))).stored hcell i (.ref (T.heap.size + 1 + i))
    rw [mm_o_s, arrV_size] at h
    have h := h.dropFresh (J := [⟨T.heap.size, i⟩]) (fun x hx => by
      cases List.mem_singleton.mp hx
      exact X.heapGrown)
    rw [show slots + N + (i + 1) * M = slots + N + i * M + M by rw [Nat.succ_mul]; omega]
    exact h
theorem mm_W {H : Heap} {Q : State → Prop} {cc : ByteArray} {pc : Nat} {ls : Array Slot} {rest : List Value} {own : String} {index : Nat} (hexec : p.tables.exec = Jvm.exec) (hb : c.code = cc) (hown : s.vm.findClass own = some m.cls) (hclink : (Cond.classLink own index "[[I").before args s = true) (hMA : j_MA s) (harr : (Cond.arrayClass .int).before args s = true) (hdg : decode cc pc = .ok (.multianewarray index 2, 4)) (N M : Nat) (hN : N < 1000) (hM : M < 1000) (hcells : cells + (1 + N) ≤ R.cells) (hslots : slots + (N + N * M) ≤ R.slots)
    (kk : ∀ (cA cI : ClassId) (H1 : Heap), s.vm.findClass "[I" = some cI → s.vm.findClass "[[I" = some cA → H1.size = H.size + 1 + N → (∀ q : Nat, q < H.size → H1[q]? = H[q]?) → H1[H.size]? = some (mm_o cA N H.size N) → (∀ j : Nat, j < N → H1[H.size + 1 + j]? = some (arrV cI M (fun _ => .int 0))) → W p l e R s m args below meth c H1 locs (cells + (1 + N)) (slots + (N + N * M)) Q (F0 m (pc + 4) ls (.ref H.size :: rest))) :
    W p l e R s m args below meth c H locs cells slots Q (F0 m pc ls (.int (nI M) :: .int (nI N) :: rest)) := by
  intro T hT X
  subst hb
  subst hT
  obtain ⟨comp, cA, kA, hcomp, hnameA, hkA, hkindA⟩ := hMA
  obtain ⟨comp', kC, cc, hcomp', hkC, hkindC⟩ := Cond.arrayClass_spec harr
  have e9 : comp' = comp := Option.some.inj (hcomp'.symm.trans hcomp)
  subst e9
  have hpl : e.platform.magicAccessors = ({} : Platform).magicAccessors := by rw [X.admits.platform]
  obtain ⟨c0, hfc0, hcl⟩ := Cond.classLink_spec hown hclink e.platform hpl
  cases hnameA.symm.trans hfc0
  obtain ⟨hg₁, hwarm₁, hready₁⟩ := State.classEntry (e := e) X.warmed hcl
  generalize T.vm.noted m.cls index (.cls cA) = vm₁ at hg₁ hwarm₁ hready₁
  have hal : s.vm.Alike vm₁ := hwarm₁.alike
  obtain ⟨kA₁, hkA₁, heA⟩ := hal.2.2 _ _ hkA
  obtain ⟨kC₁, hkC₁, heC⟩ := hal.2.2 _ _ hkC
  have hkindA₁ : kA₁.kind = .array comp' (.array .int) := by rw [heA]; exact hkindA
  have hkindC₁ : kC₁.kind = .array cc .int := by rw [heC]; exact hkindC
  have X₁ := X.noted hwarm₁
  obtain ⟨hr1, hr2⟩ := X.roomAbove hcells hslots
  have XF := mm_stand X₁ cA comp' N M N
  obtain ⟨f1, f2, f3, f4⟩ := mm_f (T.setVm vm₁) cA comp' N M N
  have ec : cells + 1 + N = cells + (1 + N) := by omega
  have es : slots + N + N * M = slots + (N + N * M) := by omega
  rw [ec, es] at XF
  obtain ⟨t, a1, b1⟩ := kk cA comp' (mm_st (T.setVm vm₁) cA comp' N M N).heap hcomp hnameA f1 (fun q hq => mm_old (T.setVm vm₁) cA comp' N M hq N) f2 (fun j hj => mm_row (T.setVm vm₁) cA comp' N M N j hj) _ rfl XF
  refine ⟨t, ?_, b1⟩
  generalize hg : F0 m pc ls (.int (nI M) :: .int (nI N) :: rest) = g
  have hgm : g.method = m := by rw [← hg]
  have hgp : g.pc = pc := by rw [← hg]
  have hgs : g.stack = .int (nI M) :: .int (nI N) :: rest := by rw [← hg]
  have hge : ({ g with pc := g.pc + 4, stack := .ref T.heap.size :: rest } : JFrame) = F0 m (pc + 4) ls (.ref T.heap.size :: rest) := by rw [← hg]
  have hdg : decode c.code g.pc = .ok (.multianewarray index 2, 4) := by rw [hgp]; exact hdg
  subst hgm
  rw [← hge] at a1
  clear hg hge
  jvm_step X.here [hexec, hdg]
  simp only [multianewarray.sem, wp_bind', W.resolveClassAt_links (State.method?_setTop g X.here.top) hg₁]
  rw [W.popN, if_neg (by decide)]
  refine ⟨g, State.topJava?_setTop' (s := T.setVm vm₁) g X.here.top, [.int (nI N), .int (nI M)], rest, rfl, hgs, ?_⟩
  simp only [List.mapM_cons, List.mapM_nil, wp_bind', wp_pure']
  refine mm_make (k := kA₁) (kc := kC₁) (cd := comp') (cc := cc) rfl rfl hN hM hkA₁ hkindA₁ hkC₁ hkindC₁ ?_ ?_ ?_ ?_ (fun d' acts' => ?_)
  · rw [Launch.admits_arrayLengthLimit X.admits]; decide
  · rw [Launch.admits_maxHeapBytes X.admits]; decide
  · show T.heap.size + 1 + N ≤ _
    omega
  · show T.slotsUsed + (N + N * M) ≤ _
    omega
  have eS : ((T.setTop g).setVm vm₁).setTop { g with stack := rest } = (T.setVm vm₁).setTop { g with stack := rest } := by
    show ((T.setVm vm₁).setTop g).setTop _ = _
    rw [State.setTop_setTop]
  rw [eS, mm_top]
  simp only [wp_bind', W.mark, W.pushRef, State.topJava?_setTop' _ XF.here.top, Option.some.injEq, exists_eq_left', State.setTop_setTop, State.heap_setTop]
  intro acts
  simp [jvm, XF.here.top]
  exact a1
end MMS
theorem J.newm {M : j_M} {Φ : j_F} {bc bs pc idx : Nat} {lv : j_L} {rest : List Value} {h : j_H} {n9 k9 : Int32} (N K : Nat) (hn : n9 = nI N ∧ N < 1000) (hk : k9 = nI K ∧ K < 1000) (hw : Cond.classLink (jm_o M) idx "[[I" ∈ j_ws) (harr : Cond.arrayClass .int ∈ j_ws) (hd : decode (jm_b M) pc = .ok (.multianewarray idx 2, 4)) (ha : jm_a M = true) (hb : j_bdL h.length h) (hlv : (lv.all fun q => j_vb h.length q.2) = true) (hr : rest.all (j_vb h.length) = true) (hs : h.length + (1 + N) ≤ j_sid)
    (k : J M Φ bc bs (pc + 4) lv (.ref h.length :: rest) (h ++ (.inl (3, N, .inr (.inr (.inr (.inr (fun j => if j < N then some (h.length + 1 + j) else none))))) :: List.replicate N (.inl (0, K, .inl (fun _ => 0)))))) : J M Φ (bc + (1 + N)) (bs + (N + N * K)) pc lv (.int k9 :: .int n9 :: rest) h := by
  intro p l e R s m args below meth c D T A N9 ad0 mc ms hX ad H locs cells slots ls hI
  obtain ⟨hx, hb9, hml, hown, hts, hret, hlk, hKk, hstk, hfr, hlo, hmc, hms, hA, hSx, htb, hnm, hsc⟩ := id hX
  obtain ⟨hc, hsl, hlv9, hP, hD, hSS, hN, hAl⟩ := id hI
  obtain ⟨rfl, hn⟩ := hn
  obtain ⟨rfl, hk⟩ := hk
  refine mm_W hx hb9 hown (hts _ hw) hSx.2.2.2.2.2.2.2.2.2 (hts _ harr) hd N K hn hk (by omega) (by omega) (fun cA cI H1 hcI hcA z1 o1 x1 x2 => ?_)
  have hT3 : cA = T 3 := by
    have g2 : s.vm.findClass "[[I" = some (T 3) := (hKk.2 3 _ (j_tys_get rfl)).2
    exact Option.some.inj (hcA.symm.trans g2)
  have hT0 : cI = T 0 := by
    have g2 : s.vm.findClass "[I" = some (T 0) := (hKk.2 0 _ (j_tys_get rfl)).2
    exact Option.some.inj (hcI.symm.trans g2)
  subst hT3 hT0
  obtain ⟨ad', hag, hnew⟩ : ∃ ad' : Nat → Nat, (∀ i, i < h.length ∨ h.length + (1 + N) ≤ i → ad' i = ad i) ∧ ∀ d, d < 1 + N → ad' (h.length + d) = H.size + d := by
    refine ⟨fun i => if h.length ≤ i ∧ i < h.length + (1 + N) then H.size + (i - h.length) else ad i, fun i hi => if_neg (by omega), fun d hd => ?_⟩
    show (if h.length ≤ h.length + d ∧ h.length + d < h.length + (1 + N) then H.size + (h.length + d - h.length) else ad (h.length + d)) = _
    rw [if_pos (by omega), Nat.add_sub_cancel_left]
  have hold : ∀ j, j < h.length → ad' j = ad j := fun j hj => hag j (Or.inl hj)
  have hlen : (.inl (3, N, .inr (.inr (.inr (.inr (fun j => if j < N then some (h.length + 1 + j) else none))))) :: List.replicate N (.inl (0, K, .inl (fun _ => 0))) : j_H).length = 1 + N := by
    rw [List.length_cons, List.length_replicate, Nat.add_comm]
  generalize hcs : (.inl (3, N, .inr (.inr (.inr (.inr (fun j => if j < N then some (h.length + 1 + j) else none))))) :: List.replicate N (.inl (0, K, .inl (fun _ => 0))) : j_H) = cs at k hlen
  have hcell : ∀ d c, cs[d]? = some c → va_at D vwCl (H.size + d, j_c T ad' c) H1 := by
    intro d c hd
    rw [← hcs] at hd
    cases d with
    | zero =>
      cases hd
      show H1[H.size]? = some (vp_cell (T 3) (N, .inr (.inr (.inr (.inr (fun j => (if j < N then some (h.length + 1 + j) else none).map ad'))))))
      rw [x1, vp_cell_q]
      refine congrArg some (congrArg (arrV (T 3) N) (funext fun j => ?_))
      by_cases q : j < N
      · have := hnew (1 + j) (by omega)
        rw [if_pos q, if_pos q]
        show Value.ref (H.size + 1 + j) = Value.ref (ad' (h.length + 1 + j))
        rw [Nat.add_assoc h.length 1 j, this, Nat.add_assoc]
      · rw [if_neg q, if_neg q]
        rfl
    | succ d =>
      have hd : (List.replicate N (.inl (0, K, .inl (fun _ => 0)) : j_C))[d]? = some c := hd
      have hdN : d < N := by
        have := (List.getElem?_eq_some_iff.mp hd).1
        rw [List.length_replicate] at this
        exact this
      rw [List.getElem?_replicate, if_pos hdN] at hd
      cases hd
      show H1[H.size + (d + 1)]? = some (arrV (T 0) K (fun _ => .int 0))
      rw [show H.size + (d + 1) = H.size + 1 + d by omega]
      exact x2 d hdN
  have hget : ∀ (j : Nat) (c : j_C), (h ++ cs)[j]? = some c → (j < h.length ∧ h[j]? = some c) ∨ ∃ d, d < 1 + N ∧ j = h.length + d ∧ cs[d]? = some c := by
    intro j c hj
    by_cases q : j < h.length
    · rw [List.getElem?_append_left q] at hj
      exact Or.inl ⟨q, hj⟩
    · rw [List.getElem?_append_right (by omega)] at hj
      have := (List.getElem?_eq_some_iff.mp hj).1
      exact Or.inr ⟨j - h.length, by omega, by omega, hj⟩
  have hP2 : va_P D vwCl (j_w T ad' (h ++ cs)) H1 := by
    intro j q hq
    obtain ⟨c, hc, rfl⟩ := j_w_inv hq
    rcases hget j c hc with ⟨hj, hcj⟩ | ⟨d, hd, rfl, hcd⟩
    · rw [hold j hj, j_c_cg hold c (j_bdL_mem hb c (List.mem_of_getElem? hcj))]
      have h3 := hP j _ (j_w_get hcj)
      exact h3.kept (o1 _ h3.lt)
    · rw [hnew d hd]
      exact hcell d c hcd
  have hD2 : va_D A (j_w T ad' (h ++ cs)) := by
    have key : ∀ (j : Nat) (q : Nat × va_E), (j_w T ad' (h ++ cs))[j]? = some q → (j < h.length ∧ q.1 = ad j ∧ ∃ c, h[j]? = some c) ∨ ∃ d, d < 1 + N ∧ j = h.length + d ∧ q.1 = H.size + d := by
      intro j q hq
      obtain ⟨c, hc, rfl⟩ := j_w_inv hq
      rcases hget j c hc with ⟨hj, hcj⟩ | ⟨d, hd, rfl, hcd⟩
      · exact Or.inl ⟨hj, hold j hj, c, hcj⟩
      · exact Or.inr ⟨d, hd, rfl, hnew d hd⟩
    refine ⟨fun a b x y hx hy hxy => ?_, fun j q hq => ?_⟩
    · rcases key a x hx with ⟨ha1, ha2, ca, hca⟩ | ⟨d, hd, rfl, ha2⟩
      · rcases key b y hy with ⟨hb1, hb2, cb, hcb⟩ | ⟨d', hd', rfl, hb2⟩
        · exact hD.1 a b _ _ (j_w_get hca) (j_w_get hcb) (ha2.symm.trans (hxy.trans hb2))
        · have h1 : ad a < H.size := (hP a _ (j_w_get hca)).lt
          omega
      · rcases key b y hy with ⟨hb1, hb2, cb, hcb⟩ | ⟨d', hd', rfl, hb2⟩
        · have h1 : ad b < H.size := (hP b _ (j_w_get hcb)).lt
          omega
        · omega
    · rcases key j q hq with ⟨h1, h2, c, hc⟩ | ⟨d, hd, rfl, h2⟩
      · rw [h2]
        exact hD.2 j _ (j_w_get hc)
      · rw [h2]
        exact hA _ (Nat.le_trans hSS.1 (Nat.le_add_right _ _))
  have hS2 : va_S A s.heap H1 locs := ⟨Nat.le_trans hSS.1 (by omega), fun q h1 h2 => (o1 q (Nat.lt_of_lt_of_le h1 hSS.1)).trans (hSS.2.1 q h1 h2), hSS.2.2⟩
  have X := k p l e R s m args below meth c D T A N9 ad0 mc ms hX ad' H1 locs (cells + (1 + N)) (slots + (N + N * K)) ls (hI.grow ha hag hs (by rw [List.length_append]; exact Nat.le_add_right _ _) hlv hP2 hD2 hS2 (by omega) (by omega))
  rw [List.map_cons, j_st_ag hag hs hr] at X
  have e2 : j_v ad' (.ref h.length) = .ref H.size := congrArg Value.ref (hnew 0 (by omega))
  rw [e2] at X
  exact X
