/-! Rows of rows: six rows of four numbers are made at once. -/
/-- the outer row, when i of its places are filled -/
def mm_o (c : ClassId) (N a i : Nat) : Cell := arrV c N (fun j => if j < i then .ref (a + 1 + j) else .null)
/-- the state behind i inner rows -/
def mm_st (s : State) (c d : ClassId) (N M : Nat) : Nat → State
  | 0 => s.pushCell (mm_o c N s.heap.size 0)
  | i + 1 => ((mm_st s c d N M i).pushCell (arrV d M (fun _ => .int 0))).setCell s.heap.size (mm_o c N s.heap.size (i + 1))
theorem mm_o_s (c : ClassId) (N a i : Nat) : (mm_o c N a i).setSlot i (.ref (a + 1 + i)) = mm_o c N a (i + 1) := by
  unfold mm_o
  rw [arrV_store]
  congr 1
  funext j
  unfold updV
  by_cases e : j = i
  · rw [if_pos e, if_pos (by omega), e]
  · rw [if_neg e]
    show (if j < i then Value.ref (a + 1 + j) else Value.null) = if j < i + 1 then Value.ref (a + 1 + j) else Value.null
    by_cases q : j < i
    · rw [if_pos q, if_pos (by omega)]
    · rw [if_neg q, if_neg (by omega)]
theorem mm_new (c : ClassId) (N a : Nat) : ({ cls := c, slots := Array.replicate N .null, vm := .none } : Cell) = mm_o c N a 0 := by
  rw [arrV_new]
  unfold mm_o
  congr 1
theorem mm_o_f (c : ClassId) (N a i : Nat) : (mm_o c N a i).cls = c ∧ (mm_o c N a i).vm = .none ∧ (mm_o c N a i).slots.size = N := ⟨rfl, rfl, arrV_size _ _ _⟩
theorem mm_f (s : State) (c d : ClassId) (N M : Nat) : ∀ i, (mm_st s c d N M i).heap.size = s.heap.size + 1 + i ∧ (mm_st s c d N M i).heap[s.heap.size]? = some (mm_o c N s.heap.size i) ∧ (mm_st s c d N M i).vm = s.vm ∧ (mm_st s c d N M i).slotsUsed = s.slotsUsed + N + i * M
  | 0 => by
    refine ⟨?_, ?_, rfl, ?_⟩
    · show (s.pushCell _).heap.size = _
      simp
    · show (s.pushCell _).heap[s.heap.size]? = _
      exact State.heap_pushCell_size _ _
    · show (s.pushCell _).slotsUsed = _
      rw [State.slotsUsed_pushCell, (mm_o_f _ _ _ _).2.2]
      omega
  | i + 1 => by
    obtain ⟨f1, f2, f3, f4⟩ := mm_f s c d N M i
    have hz : ((mm_st s c d N M i).pushCell (arrV d M (fun _ => .int 0))).heap.size = s.heap.size + 1 + i + 1 := by simp [f1]
    refine ⟨?_, ?_, ?_, ?_⟩
    · show (((mm_st s c d N M i).pushCell (arrV d M (fun _ => .int 0))).heap.setIfInBounds _ _).size = _
      rw [Array.size_setIfInBounds, hz]
      omega
    · show (((mm_st s c d N M i).pushCell (arrV d M (fun _ => .int 0))).heap.setIfInBounds s.heap.size _)[s.heap.size]? = _
      rw [Array.getElem?_setIfInBounds, if_pos rfl, if_pos (by rw [hz]; omega)]
    · show (mm_st s c d N M i).vm = _
      exact f3
    · show ((mm_st s c d N M i).pushCell _).slotsUsed = _
      rw [State.slotsUsed_pushCell, f4, arrV_size, Nat.succ_mul]
      omega
theorem mm_old (s : State) (c d : ClassId) (N M : Nat) {a : Nat} (ha : a < s.heap.size) : ∀ i, (mm_st s c d N M i).heap[a]? = s.heap[a]?
  | 0 => State.heap_pushCell_of_lt _ _ ha
  | i + 1 => by
    have f1 := (mm_f s c d N M i).1
    show (((mm_st s c d N M i).pushCell (arrV d M (fun _ => .int 0))).heap.setIfInBounds s.heap.size _)[a]? = _
    have hlt : a < (mm_st s c d N M i).heap.size := by omega
    rw [Array.getElem?_setIfInBounds, if_neg (by omega), State.heap_pushCell_of_lt _ _ hlt]
    exact mm_old s c d N M ha i
theorem mm_row (s : State) (c d : ClassId) (N M : Nat) : ∀ i j, j < i → (mm_st s c d N M i).heap[s.heap.size + 1 + j]? = some (arrV d M (fun _ => .int 0))
  | 0, _, h => absurd h (Nat.not_lt_zero _)
  | i + 1, j, h => by
    have f1 := (mm_f s c d N M i).1
    show (((mm_st s c d N M i).pushCell (arrV d M (fun _ => .int 0))).heap.setIfInBounds s.heap.size _)[s.heap.size + 1 + j]? = _
    rw [Array.getElem?_setIfInBounds, if_neg (by omega)]
    by_cases q : j < i
    · have hlt : s.heap.size + 1 + j < (mm_st s c d N M i).heap.size := by omega
      rw [State.heap_pushCell_of_lt _ _ hlt]
      exact mm_row s c d N M i j q
    · obtain rfl : j = i := by omega
      rw [← f1]
      exact State.heap_pushCell_size _ _
section MMW
variable {E : CtlPost} {e : Env} {d : Bool} {acts : List Action} {s : State}
/-- a loop over numbers, from i on -/
theorem mm_loop {c cd : ClassId} {N M : Nat} {f : Nat → PUnit → Sem (ForInStep PUnit)} {Q : PUnit → Pre}
    (hf : ∀ i d' acts' (Q' : ForInStep PUnit → Pre), i < N → (∀ d'' acts'', Q' (.yield PUnit.unit) d'' acts'' (mm_st s c cd N M (i + 1))) → Sem.wp (f i PUnit.unit) Q' E e d' acts' (mm_st s c cd N M i))
    (hq : ∀ d' acts', Q PUnit.unit d' acts' (mm_st s c cd N M N)) : ∀ (k i : Nat) (d : Bool) (acts : List Action), i + k = N → Sem.wp (forIn (List.range' i k 1) PUnit.unit f) Q E e d acts (mm_st s c cd N M i)
  | 0, i, d, acts, h => by
    obtain rfl : i = N := by omega
    simp only [List.range'_zero, List.forIn_nil, wp_pure']
    exact hq _ _
  | k + 1, i, d, acts, h => by
    rw [List.range'_succ]
    simp only [List.forIn_cons, wp_bind']
    refine hf i d acts _ (by omega) (fun d'' acts'' => ?_)
    exact mm_loop hf hq k (i + 1) d'' acts'' (by omega)
theorem mm_fr {t : FieldType} (h : t.isReference = true) (v : Value) (hv : v = .null ∨ ∃ a, v = .ref a) : fits t v = true := by
  rcases hv with rfl | ⟨a, rfl⟩ <;> cases t <;> first | rfl | cases h
theorem mm_make {c cd cc : ClassId} {k kc : Class} {n m : Int32} {N M : Nat} (hN : n = nI N) (hM : m = nI M) (hN9 : N < 1000) (hM9 : M < 1000) (hk : s.vm.classes[c]? = some k) (hkind : k.kind = .array cd (.array .int)) (hkc : s.vm.classes[cd]? = some kc) (hkindc : kc.kind = .array cc .int)
    (hl : 1000 ≤ e.platform.arrayLengthLimit) (hh : 8000 ≤ e.platform.maxHeapBytes) (hc : s.heap.size + 1 + N ≤ e.platform.maxCells) (hs : s.slotsUsed + (N + N * M) ≤ e.platform.maxSlots)
    {Q : Addr → Pre} (hq : ∀ d' acts', Q s.heap.size d' acts' (mm_st s c cd N M N)) : Sem.wp (multianewarray.make c [n, m]) Q E e d acts s := by
  subst hN hM
  have hn : ¬ nI N < 0 := nI_pos (by omega)
  have hm : ¬ nI M < 0 := nI_pos (by omega)
  have cn : (nI N).toNatClampNeg = N := cl_n (by omega)
  have cm : (nI M).toNatClampNeg = M := cl_n (by omega)
  have hfind : ([nI M].find? (· < 0)) = none := by simp [hm]
  rw [multianewarray.make]
  simp only [wp_bind', W.ite, hn, if_false, wp_pure', W.theClass, hk, hkind, Option.some.injEq, exists_eq_left', cn]
  refine W.newArray_of hk hkind (by omega) ?_ (by omega) (by omega) (mm_fr rfl _ (Or.inl rfl)) (fun acts' => ?_)
  · show ¬ N * 4 > e.platform.maxHeapBytes
    omega
  simp only [hfind]
  rw [ite_self, wp_bind', Std.Legacy.Range.forIn_eq_forIn_range']
  have hsz : ([:N] : Std.Legacy.Range).size = N := by simp [Std.Legacy.Range.size]
  rw [hsz, mm_new c N s.heap.size]
  show Sem.wp (forIn (List.range' 0 N 1) PUnit.unit _) _ E e d acts' (mm_st s c cd N M 0)
  refine mm_loop (fun i d' acts2 Q' hi hnext => ?_) (fun d' acts2 => ?_) N 0 d acts' (Nat.zero_add _)
  · obtain ⟨f1, f2, f3, f4⟩ := mm_f s c cd N M i
    obtain ⟨o1, o2, o3⟩ := mm_o_f c N s.heap.size i
    have hmul : i * M + M ≤ N * M := by
      have := Nat.mul_le_mul_right M (show i + 1 ≤ N from hi)
      rw [Nat.succ_mul] at this
      exact this
    simp only [wp_bind']
    rw [multianewarray.make]
    simp only [wp_bind', W.ite, hm, if_false, wp_pure', W.theClass, f3, hkc, hkindc, Option.some.injEq, exists_eq_left', cm]
    refine W.newArray_of (by rw [f3]; exact hkc) hkindc (by omega) ?_ (by rw [f1]; omega) (by rw [f4]; omega) rfl (fun acts3 => ?_)
    · show ¬ M * 4 > e.platform.maxHeapBytes
      omega
    rw [show ({ cls := cd, slots := Array.replicate M (defaultValue .int) } : Cell) = arrV cd M (fun _ => .int 0) from arrV_new cd M (.int 0)]
    simp only [wp_bind', W.writeLoc, wp_pure']
    refine ⟨mm_o c N s.heap.size i, ?_, by rw [o2]; simp, by rw [o3]; exact hi, ?_, ?_⟩
    · have hlt : s.heap.size < (mm_st s c cd N M i).heap.size := by omega
      rw [State.heap_pushCell_of_lt _ _ hlt]
      exact f2
    · rw [o1, o2]
      simp [State.fitsSlot, State.slotType?, f3, hk, hkind, mm_fr (t := .array .int) rfl _ (Or.inr ⟨_, rfl⟩)]
    · rw [f1, mm_o_s]
      exact hnext _ _
  · simp only [wp_pure']
    exact hq _ _
end MMW
