/-! A program logic over the kit: worlds by numbers. A cell's references are places in a list; 'ad' sends a place to its address. -/
abbrev j_C : Type := (Nat × vp_A) ⊕ (Nat × List Value)
abbrev j_H : Type := List j_C
abbrev j_L : Type := List (Nat × Value)
abbrev j_O : Type := Option Value ⊕ String
abbrev j_F : Type := j_O → j_H → Prop
/-- a method: own class, name, bytes, locals, answer, frames below it, words of locals below it, its table, the law's script, whether it makes cells -/
abbrev j_M : Type := String × MethodName × ByteArray × Nat × Option FieldType × Nat × Nat × List (Nat × Nat × Nat × Nat) × Option (Nat × (Nat → Int32)) × Bool
abbrev jm_o (M : j_M) : String := M.1
abbrev jm_y (M : j_M) : MethodName := M.2.1
abbrev jm_b (M : j_M) : ByteArray := M.2.2.1
abbrev jm_n (M : j_M) : Nat := M.2.2.2.1
abbrev jm_r (M : j_M) : Option FieldType := M.2.2.2.2.1
abbrev jm_f (M : j_M) : Nat := M.2.2.2.2.2.1
abbrev jm_l (M : j_M) : Nat := M.2.2.2.2.2.2.1
abbrev jm_h (M : j_M) : List (Nat × Nat × Nat × Nat) := M.2.2.2.2.2.2.2.1
abbrev jm_s (M : j_M) : Option (Nat × (Nat → Int32)) := M.2.2.2.2.2.2.2.2.1
/-- whether it may make cells that are told -/
abbrev jm_a (M : j_M) : Bool := M.2.2.2.2.2.2.2.2.2
def j_v (ad : Nat → Nat) : Value → Value
  | .ref i => .ref (ad i)
  | v => v
def j_a (ad : Nat → Nat) : vp_A → vp_A
  | (n, .inr (.inr (.inr (.inr f)))) => (n, .inr (.inr (.inr (.inr (fun j => (f j).map ad)))))
  | a => a
def j_c (T : Nat → ClassId) (ad : Nat → Nat) : j_C → va_E
  | .inl (t, a) => .inl (T t, j_a ad a)
  | .inr (c, fs) => .inr (c, fs.map (j_v ad))
def j_w (T : Nat → ClassId) (ad : Nat → Nat) (h : j_H) : va_W := h.mapIdx fun i c => (ad i, j_c T ad c)
abbrev j_l (ad : Nat → Nat) (lv : j_L) : j_L := lv.map fun q => (q.1, j_v ad q.2)
theorem j_w_get {T : Nat → ClassId} {ad : Nat → Nat} {h : j_H} {i : Nat} {c : j_C} (e : h[i]? = some c) : (j_w T ad h)[i]? = some (ad i, j_c T ad c) := by
  unfold j_w
  rw [List.getElem?_mapIdx, e]
  rfl
theorem j_w_inv {T : Nat → ClassId} {ad : Nat → Nat} {h : j_H} {i : Nat} {q : Nat × va_E} (e : (j_w T ad h)[i]? = some q) : ∃ c, h[i]? = some c ∧ q = (ad i, j_c T ad c) := by
  unfold j_w at e
  rw [List.getElem?_mapIdx] at e
  cases hc : h[i]? with
  | none => rw [hc] at e; cases e
  | some c => rw [hc] at e; cases e; exact ⟨c, rfl, rfl⟩
theorem j_w_set {T : Nat → ClassId} {ad : Nat → Nat} {h : j_H} {i : Nat} {c : j_C} : (j_w T ad h).set i (ad i, j_c T ad c) = j_w T ad (h.set i c) := by
  apply List.ext_getElem?
  intro k
  unfold j_w
  rw [List.getElem?_mapIdx]
  by_cases e : i = k
  · subst e
    by_cases hl : i < h.length
    · rw [List.getElem?_set_self (by simpa using hl), List.getElem?_set_self hl]; rfl
    · rw [List.getElem?_eq_none (by simpa using hl), List.getElem?_eq_none (by simpa using hl)]; rfl
  · rw [List.getElem?_set_ne e, List.getElem?_set_ne e, List.getElem?_mapIdx]
theorem j_w_len {T : Nat → ClassId} {ad : Nat → Nat} {h : j_H} : (j_w T ad h).length = h.length := by simp [j_w]
/-- the types of arrays, by their places -/
abbrev j_ty : List FieldType := [.int, .int, .boolean, .array .int, .object "VaneVotes$Mill", .object "VaneVotes$Village"]
def j_tys (T : Nat → ClassId) : List (ClassId × FieldType) := j_ty.mapIdx fun i ty => (T i, ty)
theorem j_tys_get {T : Nat → ClassId} {i : Nat} {ty : FieldType} (e : j_ty[i]? = some ty) : (j_tys T)[i]? = some (T i, ty) := by
  unfold j_tys
  rw [List.getElem?_mapIdx, e]
  rfl
/-- the words that every method may use -/
def j_ws : List Cond := lw_tbl.filter goodWord
theorem j_in {w : Cond} (h : w ∈ lw_tbl) (g : goodWord w = true) : w ∈ j_ws := List.mem_filter.mpr ⟨h, g⟩
theorem j_good : GoodIn j_ws j_ws := fun _ h => ⟨h, good_of_word (List.mem_filter.mp h).2⟩
def j_cd (M : j_M) : Cond := match jm_h M with
  | [] => .code (jm_y M) (jm_b M) (jm_n M) (jm_r M)
  | q :: t => .codeWith (jm_y M) (jm_b M) (jm_n M) (jm_r M) (q :: t)
def j_mw (M : j_M) : List Cond := j_cd M :: j_ws
def j_rm (M : j_M) (mc ms : Nat) : Room := { frames := jm_f M, cells := mc, slots := ms, locals := jm_l M }
/-- texts and static rows that methods read -/
def j_vm (k : Nat) : Int32 := match k with
  | 0 => 7
  | 1 => 4
  | 2 => 9
  | _ => 1
def j_sl (k : Nat) : Int32 := match k with
  | 0 => 1
  | _ => 0
def j_sm (k : Nat) : Int32 := match k with
  | 0 => 6
  | _ => 1
abbrev j_str : List (String × Nat × String) := [("VaneVotes", 118, "too many hours would have gone by"), ("VaneVotes", 161, "there is no saved state"), ("VaneVotes", 255, "there is no such number"), ("VaneVotes", 258, "a value is out of range")]
abbrev j_sta : List (String × Nat × (Nat → Int32)) := [("VANE_MOST", 4, j_vm), ("SETTING_LEAST", 2, j_sl), ("SETTING_MOST", 2, j_sm)]
/-- words of the tables that are no good words: each is carried by itself -/
abbrev j_dc : List MethodName := [⟨"java/lang/RuntimeException", "<init>", "(Ljava/lang/String;)V"⟩, ⟨"java/lang/Exception", "<init>", "(Ljava/lang/String;)V"⟩, ⟨"java/lang/Throwable", "<init>", "(Ljava/lang/String;)V"⟩]
abbrev j_cs : List String := ["java/lang/IndexOutOfBoundsException", "java/lang/IllegalArgumentException", "java/lang/IllegalStateException"]
abbrev j_nc : List (String × String) := [("java/lang/IllegalArgumentException", "java/lang/IndexOutOfBoundsException"), ("java/lang/IllegalStateException", "java/lang/IllegalArgumentException")]
abbrev j_nl : List (String × Nat × MethodName × String) := [("VaneVotes$Village", 54, ⟨"VaneVotes$Mill", "<init>", "()V"⟩, "VaneVotes"), ("VaneVotes", 36, ⟨"VaneVotes$WindText", "<init>", "()V"⟩, "VaneVotes")]
abbrev j_ao : List String := ["VaneVotes$Mill", "VaneVotes$Village"]
/-- rows of rows of numbers: what their making needs of the classes -/
def j_MA (U : State) : Prop := ∃ (comp c : ClassId) (k : Class), U.vm.findClass "[I" = some comp ∧ U.vm.findClass "[[I" = some c ∧ U.vm.classes[c]? = some k ∧ k.kind = .array comp (.array .int)
theorem j_MA.moved {u U : State} (hvm : u.vm.Alike U.vm) (h : j_MA u) : j_MA U := by
  obtain ⟨comp, c, k, h1, h2, h3, h4⟩ := h
  obtain ⟨k', h5, h6⟩ := hvm.2.2 _ _ h3
  exact ⟨comp, c, k', by rw [hvm.findClass]; exact h1, by rw [hvm.findClass]; exact h2, h5, by rw [h6]; exact h4⟩
def j_U (U : State) : Prop := (∀ x ∈ j_dc, va_Nw (.declares x) U) ∧ (∀ x ∈ j_cs, va_Nw (.castable x x) U) ∧ (∀ q ∈ j_nc, va_Nc q.1 q.2 U) ∧ (∀ q ∈ j_nl, va_Nw (.methodLinkNest q.1 q.2.1 q.2.2.1 q.2.2.2) U) ∧ (∀ C ∈ j_ao, va_AO C U) ∧ j_MA U
theorem j_U.warm {s U : State} (hW : s.WarmedH U.vm) (h : j_U s) : j_U U := ⟨fun x hx => va_Nw.warmD hW (h.1 x hx), fun x hx => va_Nw.warmC hW (h.2.1 x hx), fun q hq => va_Nc.moved hW.alike (h.2.2.1 q hq), fun q hq => va_Nw.warmM hW (h.2.2.2.1 q hq), fun C hC => va_AO.moved hW.alike (h.2.2.2.2.1 C hC), j_MA.moved hW.alike h.2.2.2.2.2⟩
theorem j_U.same {s U : State} (e : s.vm = U.vm) (h : j_U s) : j_U U := ⟨fun x hx => va_Nw.same rfl e (h.1 x hx), fun x hx => va_Nw.same rfl e (h.2.1 x hx), fun q hq => va_Nc.moved (by rw [e]; exact Vm.Alike.refl _) (h.2.2.1 q hq), fun q hq => va_Nw.same rfl e (h.2.2.2.1 q hq), fun C hC => va_AO.moved (by rw [e]; exact Vm.Alike.refl _) (h.2.2.2.2.1 C hC), j_MA.moved (by rw [e]; exact Vm.Alike.refl _) h.2.2.2.2.2⟩
def j_S (A : Nat → Prop) (U : State) (H : Heap) : Prop :=
  vx_Zq Bundle.tN "UNASSIGNED_STACK" Bundle.steD A U H ∧ vx_Zq Bundle.tN "SUPPRESSED_SENTINEL" Bundle.listD A U H ∧ (∀ q ∈ j_str, ∃ sa, vk_R q.1 q.2.1 q.2.2 sa U) ∧
  (∀ q ∈ j_sta, ∃ t, va_Z "VaneVotes" q.1 "[I" (.ref t) A U H ∧ va_T .int t q.2.1 (fun j => .int (q.2.2 j)) A U H) ∧ j_U U
theorem j_S.blind {A : Nat → Prop} {U : State} (g : JFrame) (mk : MethodId) (a : Array Value) (h : j_S A U U.heap) : j_S A (U.calling g mk a) (U.calling g mk a).heap := by
  obtain ⟨h1, h2, h3, h4, h5⟩ := h
  refine ⟨vx_Zq.moved (u := U) (Vm.Alike.refl U.vm) h1, vx_Zq.moved (u := U) (Vm.Alike.refl U.vm) h2, fun q hq => ?_, fun q hq => ?_, j_U.same (s := U) rfl h5⟩
  · obtain ⟨sa, hs⟩ := h3 q hq
    exact ⟨sa, vk_R.same (u := U) rfl hs⟩
  · obtain ⟨t, ht1, ht2⟩ := h4 q hq
    exact ⟨t, va_Z.moved (u := U) (Vm.Alike.refl U.vm) ht1, va_T.moved (u := U) (Vm.Alike.refl U.vm) ht2⟩
theorem j_S.call {A A' : Nat → Prop} {s U : State} {H : Heap} {locs : List Loc} (h : j_S A s s.heap) (hS : va_S A s.heap H locs) (hU : U.heap = H) (hW : s.WarmedH U.vm) (hAA : ∀ q, A' q → A q) : j_S A' U U.heap := by
  obtain ⟨h1, h2, h3, h4, h5⟩ := h
  rw [hU]
  have hk : ∀ a : Nat, a < s.heap.size → ¬ A a → H[a]? = s.heap[a]? := fun a ha hn => hS.2.1 a ha hn
  refine ⟨((h1.kept hk).moved hW.alike).narrow hAA, ((h2.kept hk).moved hW.alike).narrow hAA, fun q hq => ?_, fun q hq => ?_, h5.warm hW⟩
  · obtain ⟨sa, hs⟩ := h3 q hq
    exact ⟨sa, vk_R.warm hW hs⟩
  · obtain ⟨t, ht1, ht2⟩ := h4 q hq
    exact ⟨t, ((ht1.kept hk).moved hW.alike).narrow hAA, ((ht2.kept hk).moved hW.alike).narrow hAA⟩
/-- a method's start, its end by an answer, its end by an exception -/
def j_P (D : va_G) (T : Nat → ClassId) (ad : Nat → Nat) (h : j_H) (sz : Nat) : State → Prop := fun U =>
  U.heap.size = sz ∧ va_P D vwCl (j_w T ad h) U.heap ∧ va_K D vwCl (j_tys T) U ∧ va_D (fun _ => True) (j_w T ad h) ∧ j_S (va_A (j_w T ad h) sz) U U.heap
def j_Q (Φ : j_F) (D : va_G) (T : Nat → ClassId) (A : Nat → Prop) (ad : Nat → Nat) (N : Nat → Prop) : Array Value → State → Outcome → State → Prop := fun _ st o t =>
  (∃ (v : Option Value) (h' : j_H) (ad' : Nat → Nat), o = .returned (v.map (j_v ad')) ∧ Φ (.inl v) h' ∧ (∀ i, N i → ad' i = ad i) ∧ va_P D vwCl (j_w T ad' h') t.heap ∧ va_D A (j_w T ad' h')) ∧ va_F A st t
def j_E (Φ : j_F) (D : va_G) (T : Nat → ClassId) (A : Nat → Prop) (ad : Nat → Nat) (N : Nat → Prop) : String → State → State → Prop := fun E st t =>
  (∃ (h' : j_H) (ad' : Nat → Nat), Φ (.inr E) h' ∧ (∀ i, N i → ad' i = ad i) ∧ va_P D vwCl (j_w T ad' h') t.heap ∧ va_D A (j_w T ad' h')) ∧ va_F A st t
/-- a contract: from the world h with the arguments as, the method ends as Φ says -/
def Ct (M : j_M) (mc ms : Nat) (as : List Value) (h : j_H) (Φ : j_F) : Prop :=
  ∀ (l : Launch), l.stackTraces = false → ∀ (D : va_G) (T : Nat → ClassId) (ad : Nat → Nat) (sz : Nat),
    vx_Met l (jm_y M) (j_mw M) (j_rm M mc ms) (va_Pc (as.map (j_v ad)) (j_P D T ad h sz)) (j_Q Φ D T (va_A (j_w T ad h) sz) ad (fun i => jm_a M = true → i < h.length)) (j_E Φ D T (va_A (j_w T ad h) sz) ad (fun i => jm_a M = true → i < h.length)) mc ms (va_A (j_w T ad h) sz)
/-- the script's number -/
abbrev j_sid : Nat := 1000000
def j_scr (M : j_M) (N : Nat → Prop) (ad0 : Nat → Nat) (A : Nat → Prop) (s : State) : Prop := match jm_s M with
  | none => True
  | some q => N j_sid ∧ va_X (ad0 j_sid) q.1 q.2 s s.heap ∧ ad0 j_sid < s.heap.size ∧ ¬ A (ad0 j_sid)
/-- what holds all through a method's body -/
def j_X (M : j_M) (p : Program) (l : Launch) (R : Room) (s : State) (m : MethodId) (args : Array Value) (meth : Method) (c : Code) (D : va_G) (T : Nat → ClassId) (A : Nat → Prop) (N : Nat → Prop) (ad0 : Nat → Nat) (mc ms : Nat) : Prop :=
  p.tables.exec = Jvm.exec ∧ c.code = jm_b M ∧ c.maxLocals = jm_n M ∧ s.vm.findClass (jm_o M) = some m.cls ∧ (∀ w ∈ j_ws, w.before args s = true) ∧ meth.sig.returnType = jm_r M ∧ meth.locks = false ∧ va_K D vwCl (j_tys T) s ∧ l.stackTraces = false ∧
  jm_f M ≤ R.frames ∧ jm_l M ≤ R.locals ∧ mc ≤ R.cells ∧ ms ≤ R.slots ∧ (∀ q, s.heap.size ≤ q → A q) ∧ j_S A s s.heap ∧ c.exceptionTable.toList = tableOf (jm_h M) ∧ meth.name = (jm_y M).name ∧ j_scr M N ad0 A s
/-- what holds at a place of it -/
def j_I (M : j_M) (s : State) (D : va_G) (T : Nat → ClassId) (A : Nat → Prop) (N : Nat → Prop) (ad0 : Nat → Nat) (mc ms : Nat) (ad : Nat → Nat) (H : Heap) (locs : List Loc) (cells slots : Nat) (ls : Array Slot) (bc bs : Nat) (lv : j_L) (h : j_H) : Prop :=
  cells + bc ≤ mc ∧ slots + bs ≤ ms ∧ lv_has ls (jm_n M) (j_l ad lv) ∧ va_P D vwCl (j_w T ad h) H ∧ va_D A (j_w T ad h) ∧ va_S A s.heap H locs ∧ (∀ i, N i → ad i = ad0 i) ∧ (jm_a M = true → ∀ i, h.length ≤ i → i < j_sid → ¬ N i)
/-- from pc with these locals, this stack and this world, the method ends as Φ says; bc cells of bs slots may still be made -/
def J (M : j_M) (Φ : j_F) (bc bs pc : Nat) (lv : j_L) (st : List Value) (h : j_H) : Prop :=
  ∀ (p : Program) (l : Launch) (e : Env) (R : Room) (s : State) (m : MethodId) (args : Array Value) (below : List Frame) (meth : Method) (c : Code) (D : va_G) (T : Nat → ClassId) (A : Nat → Prop) (N : Nat → Prop) (ad0 : Nat → Nat) (mc ms : Nat),
    j_X M p l R s m args meth c D T A N ad0 mc ms → ∀ (ad : Nat → Nat) (H : Heap) (locs : List Loc) (cells slots : Nat) (ls : Array Slot), j_I M s D T A N ad0 mc ms ad H locs cells slots ls bc bs lv h →
      W p l e R s m args below meth c H locs cells slots (vx_MQ below (j_Q Φ D T A ad0 N) (j_E Φ D T A ad0 N) args s mc ms A) (F0 m pc ls (st.map (j_v ad)))
/-- the same with an exception of the class E thrown at pc -/
def JX (M : j_M) (Φ : j_F) (bc bs pc : Nat) (lv : j_L) (h : j_H) (E : String) : Prop :=
  ∀ (p : Program) (l : Launch) (e : Env) (R : Room) (s : State) (m : MethodId) (args : Array Value) (below : List Frame) (meth : Method) (c : Code) (D : va_G) (T : Nat → ClassId) (A : Nat → Prop) (N : Nat → Prop) (ad0 : Nat → Nat) (mc ms : Nat),
    j_X M p l R s m args meth c D T A N ad0 mc ms → ∀ (ad : Nat → Nat) (H : Heap) (locs : List Loc) (cells slots : Nat) (ls : Array Slot), j_I M s D T A N ad0 mc ms ad H locs cells slots ls bc bs lv h →
      ∀ (rest : List Value) (q : Addr) (ce : Cell), H[q]? = some ce → ce.vm = .none → s.vm.findClass E = some ce.cls →
      vx_W p l e R s m args below meth c H locs cells slots (vx_MQ below (j_Q Φ D T A ad0 N) (j_E Φ D T A ad0 N) args s mc ms A) (F0 m pc ls rest) q
/-- what an instruction does: a transformer; the exits by Φ, all else by K -/
abbrev j_K : Type := Nat → j_L → List Value → j_H → Prop
abbrev j_T : Type := j_F → Nat → Nat → j_K → j_L → List Value → j_H → Prop
def Snd (M : j_M) (pc : Nat) (S : j_T) : Prop := ∀ (Φ : j_F) (bc bs : Nat) (K : j_K), (∀ pc lv st h, K pc lv st h → J M Φ bc bs pc lv st h) → ∀ lv st h, S Φ bc bs K lv st h → J M Φ bc bs pc lv st h
def j_look {α : Type} (pc : Nat) : List (Nat × α) → Option α
  | [] => none
  | q :: t => match Nat.beq pc q.1 with
    | true => some q.2
    | false => j_look pc t
/-- fewer locals: those below n -/
def j_cut (n : Nat) : j_L → (j_L → Prop) → Prop
  | [], k => k []
  | q :: t, k => match Nat.blt q.1 n with
    | true => j_cut n t (fun t' => k (q :: t'))
    | false => j_cut n t k
/-- n instructions from pc on; at a stop (pc, n) the locals below n are kept -/
def wp (cd : List (Nat × j_T)) (stops : List (Nat × Nat)) (Φ : j_F) (bc bs : Nat) (K : j_K) : Nat → j_K
  | 0, pc, lv, st, h => K pc lv st h
  | n + 1, pc, lv, st, h => match j_look pc cd with
    | none => K pc lv st h
    | some S => S Φ bc bs (fun pc' lv' st' h' => match j_look pc' stops with
      | some k => j_cut k lv' (fun l => K pc' l st' h')
      | none => wp cd stops Φ bc bs K n pc' lv' st' h') lv st h
theorem J.fewer {M : j_M} {Φ : j_F} {bc bs pc : Nat} {lv lv' : j_L} {st : List Value} {h : j_H} (hs : ∀ q ∈ lv, q ∈ lv') (k : J M Φ bc bs pc lv st h) : J M Φ bc bs pc lv' st h := by
  intro p l e R s m args below meth c D T A N ad0 mc ms hX ad H locs cells slots ls hI
  refine k p l e R s m args below meth c D T A N ad0 mc ms hX ad H locs cells slots ls ?_
  obtain ⟨h1, h2, h3, h4⟩ := hI
  refine ⟨h1, h2, ⟨h3.1, h3.2.1, fun q hq => h3.2.2 q ?_⟩, h4⟩
  obtain ⟨q0, hq0, rfl⟩ := List.mem_map.mp hq
  exact List.mem_map.mpr ⟨q0, hs q0 hq0, rfl⟩
theorem J.less {M : j_M} {Φ : j_F} {bc bs bc' bs' pc : Nat} {lv : j_L} {st : List Value} {h : j_H} (h1 : bc' ≤ bc) (h2 : bs' ≤ bs) (k : J M Φ bc' bs' pc lv st h) : J M Φ bc bs pc lv st h := by
  intro p l e R s m args below meth c D T A N ad0 mc ms hX ad H locs cells slots ls hI
  refine k p l e R s m args below meth c D T A N ad0 mc ms hX ad H locs cells slots ls ?_
  obtain ⟨g1, g2, g3⟩ := hI
  exact ⟨by omega, by omega, g3⟩
theorem j_cut_inv (n : Nat) : ∀ (l : j_L) (k : j_L → Prop), j_cut n l k → ∃ l', k l' ∧ ∀ q ∈ l', q ∈ l
  | [], k, h => ⟨[], h, fun _ h => h⟩
  | q :: t, k, h => by
    unfold j_cut at h
    split at h
    · obtain ⟨l', h1, h2⟩ := j_cut_inv n t _ h
      exact ⟨q :: l', h1, fun z hz => by
        rcases List.mem_cons.mp hz with rfl | hz
        · exact List.mem_cons_self
        · exact List.mem_cons_of_mem _ (h2 z hz)⟩
    · obtain ⟨l', h1, h2⟩ := j_cut_inv n t _ h
      exact ⟨l', h1, fun z hz => List.mem_cons_of_mem _ (h2 z hz)⟩
theorem j_look_in {α : Type} {pc : Nat} {S : α} : ∀ (l : List (Nat × α)), j_look pc l = some S → (pc, S) ∈ l
  | [], h => by cases h
  | q :: t, h => by
    unfold j_look at h
    split at h
    · rename_i e
      cases h
      have := Nat.eq_of_beq_eq_true e
      subst this
      exact List.mem_cons_self
    · exact List.mem_cons_of_mem _ (j_look_in t h)
theorem wp_J {M : j_M} {cd : List (Nat × j_T)} (hcd : ∀ q ∈ cd, Snd M q.1 q.2) {stops : List (Nat × Nat)} {Φ : j_F} {bc bs : Nat} : ∀ (n pc : Nat) (lv : j_L) (st : List Value) (h : j_H), wp cd stops Φ bc bs (J M Φ bc bs) n pc lv st h → J M Φ bc bs pc lv st h
  | 0, _, _, _, _, k => k
  | n + 1, pc, lv, st, h, k => by
    unfold wp at k
    split at k
    · exact k
    · rename_i S hS
      refine hcd _ (j_look_in _ hS) Φ bc bs _ ?_ lv st h k
      intro pc' lv' st' h' k'
      split at k'
      · obtain ⟨l', k2, hl⟩ := j_cut_inv _ _ _ k'
        exact J.fewer hl k2
      · exact wp_J hcd n pc' lv' st' h' k'
