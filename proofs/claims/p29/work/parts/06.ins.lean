/-! Instructions: e_ what one does, s_ that it is so. -/
def j_nth {α : Type} : List α → Nat → Option α
  | [], _ => none
  | a :: _, 0 => some a
  | _ :: t, n + 1 => j_nth t n
theorem j_nth_eq {α : Type} : ∀ (l : List α) (i : Nat), j_nth l i = l[i]?
  | [], i => by simp [j_nth]
  | a :: t, 0 => by simp [j_nth]
  | a :: t, n + 1 => by simp [j_nth, j_nth_eq t n]
def j_setk {α : Type} : List α → Nat → α → (List α → Prop) → Prop
  | [], _, _, k => k []
  | _ :: t, 0, x, k => k (x :: t)
  | a :: t, n + 1, x, k => j_setk t n x (fun t' => k (a :: t'))
theorem j_setk_eq {α : Type} : ∀ (l : List α) (i : Nat) (x : α) (k : List α → Prop), j_setk l i x k = k (l.set i x)
  | [], i, x, k => by simp [j_setk]
  | a :: t, 0, x, k => by simp [j_setk]
  | a :: t, n + 1, x, k => by simp [j_setk, j_setk_eq t n]
def j_flt {α : Type} (P : α → Bool) : List α → (List α → Prop) → Prop
  | [], k => k []
  | q :: t, k => match P q with
    | true => j_flt P t (fun t' => k (q :: t'))
    | false => j_flt P t k
theorem j_flt_eq {α : Type} (P : α → Bool) : ∀ (l : List α) (k : List α → Prop), j_flt P l k = k (l.filter P)
  | [], k => by simp [j_flt]
  | q :: t, k => by
    unfold j_flt
    split
    · rename_i e; rw [j_flt_eq P t, List.filter_cons_of_pos e]
    · rename_i e; rw [j_flt_eq P t, List.filter_cons_of_neg (by simp [e])]
def j_ins (i : Nat) (v : Value) : j_L → (j_L → Prop) → Prop
  | [], k => k [(i, v)]
  | q :: t, k => match Nat.blt i q.1 with
    | true => k ((i, v) :: q :: t)
    | false => j_ins i v t (fun t' => k (q :: t'))
theorem j_ins_inv (i : Nat) (v : Value) : ∀ (l : j_L) (k : j_L → Prop), j_ins i v l k → ∃ l', k l' ∧ ∀ q ∈ l', q = (i, v) ∨ q ∈ l
  | [], k, h => ⟨_, h, fun q hq => Or.inl (List.mem_singleton.mp hq)⟩
  | a :: t, k, h => by
    unfold j_ins at h
    split at h
    · exact ⟨_, h, fun q hq => List.mem_cons.mp hq⟩
    · obtain ⟨l', h1, h2⟩ := j_ins_inv i v t _ h
      refine ⟨_, h1, fun q hq => ?_⟩
      rcases List.mem_cons.mp hq with rfl | hq
      · exact Or.inr List.mem_cons_self
      · rcases h2 q hq with h | h
        · exact Or.inl h
        · exact Or.inr (List.mem_cons_of_mem _ h)
abbrev j_k1 (i : Nat) : Nat × Value → Bool := fun q => !(q.1 == i) && !(q.1 + 1 == i && q.2.category == 2)
abbrev j_k2 (i : Nat) : Nat × Value → Bool := fun q => !(q.1 == i) && (!(q.1 == i + 1) && !(q.1 + 1 == i && q.2.category == 2))
def j_put (P : Nat × Value → Bool) (i : Nat) (v : Value) (lv : j_L) (k : j_L → Prop) : Prop := j_flt P lv (fun l => j_ins i v l k)
theorem j_put_inv {P : Nat × Value → Bool} {i : Nat} {v : Value} {lv : j_L} {k : j_L → Prop} (h : j_put P i v lv k) : ∃ l', k l' ∧ ∀ q ∈ l', q = (i, v) ∨ q ∈ lv.filter P := by
  unfold j_put at h
  rw [j_flt_eq] at h
  exact j_ins_inv i v _ k h
theorem j_v_cat (ad : Nat → Nat) (v : Value) : (j_v ad v).category = v.category := by cases v <;> rfl
theorem j_l_k1 (ad : Nat → Nat) (i : Nat) (lv : j_L) : (j_l ad lv).filter (fun q => !(q.1 == i) && !(q.1 + 1 == i && q.2.category == 2)) = j_l ad (lv.filter (j_k1 i)) := by
  unfold j_l
  rw [List.filter_map]
  congr 1
  apply List.filter_congr
  intro q _
  simp [j_v_cat, j_k1, j_k2]
theorem j_l_k2 (ad : Nat → Nat) (i : Nat) (lv : j_L) : (j_l ad lv).filter (fun q => !(q.1 == i) && (!(q.1 == i + 1) && !(q.1 + 1 == i && q.2.category == 2))) = j_l ad (lv.filter (j_k2 i)) := by
  unfold j_l
  rw [List.filter_map]
  congr 1
  apply List.filter_congr
  intro q _
  simp [j_v_cat, j_k1, j_k2]
theorem j_has_sub {ls : Array Slot} {n i : Nat} {v : Value} {ad : Nat → Nat} {lv l' : j_L} {P : Nat × Value → Bool} (h : lv_has ls n ((i, j_v ad v) :: j_l ad (lv.filter P))) (hs : ∀ q ∈ l', q = (i, v) ∨ q ∈ lv.filter P) : lv_has ls n (j_l ad l') := by
  refine ⟨h.1, h.2.1, fun q hq => h.2.2 q ?_⟩
  obtain ⟨q0, hq0, rfl⟩ := List.mem_map.mp hq
  rcases hs q0 hq0 with rfl | h
  · exact List.mem_cons_self
  · exact List.mem_cons_of_mem _ (List.mem_map.mpr ⟨q0, h, rfl⟩)
theorem j_lget {ls : Array Slot} {n i : Nat} {v : Value} {ad : Nat → Nat} {lv : j_L} (hl : lv_has ls n (j_l ad lv)) (e : j_look i lv = some v) : ls[i]? = some (.val (j_v ad v)) :=
  hl.2.2 (i, j_v ad v) (List.mem_map.mpr ⟨(i, v), j_look_in _ e, rfl⟩)
theorem j_I.put {M : j_M} {s : State} {D : va_G} {T : Nat → ClassId} {A N : Nat → Prop} {ad0 ad : Nat → Nat} {mc ms cells slots bc bs : Nat} {H : Heap} {locs : List Loc} {ls ls' : Array Slot} {lv l' : j_L} {h : j_H}
    (hI : j_I M s D T A N ad0 mc ms ad H locs cells slots ls bc bs lv h) (hl : lv_has ls' (jm_n M) (j_l ad l')) : j_I M s D T A N ad0 mc ms ad H locs cells slots ls' bc bs l' h :=
  ⟨hI.1, hI.2.1, hl, hI.2.2.2⟩
theorem j_I.world {M : j_M} {s : State} {D : va_G} {T : Nat → ClassId} {A N : Nat → Prop} {ad0 ad : Nat → Nat} {mc ms cells slots bc bs : Nat} {H H1 : Heap} {locs locs1 : List Loc} {ls : Array Slot} {lv : j_L} {h : j_H} {i : Nat} {c : j_C} {e : Nat × va_E}
    (hI : j_I M s D T A N ad0 mc ms ad H locs cells slots ls bc bs lv h) (he : e = (ad i, j_c T ad c)) (hP : va_P D vwCl ((j_w T ad h).set i e) H1) (hD : va_D A ((j_w T ad h).set i e)) (hS : va_S A s.heap H1 locs1) : j_I M s D T A N ad0 mc ms ad H1 locs1 cells slots ls bc bs lv (h.set i c) := by
  subst he
  rw [j_w_set] at hP hD
  exact ⟨hI.1, hI.2.1, hI.2.2.1, hP, hD, hS, hI.2.2.2.2.2.2.1, fun h1 i h2 => hI.2.2.2.2.2.2.2 h1 i (by rw [List.length_set] at h2; exact h2)⟩
/-- an object of the class ci at the place i -/
def j_obj (h : j_H) (i ci : Nat) (k : List Value → Prop) : Prop := match j_nth h i with
  | some (.inr (c, fs)) => match Nat.beq c ci with
    | true => k fs
    | false => False
  | _ => False
theorem j_obj_inv {h : j_H} {i ci : Nat} {k : List Value → Prop} (e : j_obj h i ci k) : ∃ fs, h[i]? = some (.inr (ci, fs)) ∧ k fs := by
  unfold j_obj at e
  rw [j_nth_eq] at e
  split at e
  · rename_i c fs h1
    split at e
    · rename_i h2
      have := Nat.eq_of_beq_eq_true h2
      subst this
      exact ⟨fs, h1, e⟩
    · exact e.elim
  · exact e.elim
/-- a row of ints (or of booleans) of the type t at the place i -/
def j_ia (t : Nat) (h : j_H) (i : Nat) (k : Nat → (Nat → Int32) → Prop) : Prop := match j_nth h i with
  | some (.inl (t', n, .inl f)) => match Nat.beq t' t with
    | true => k n f
    | false => False
  | _ => False
theorem j_ia_inv {t : Nat} {h : j_H} {i : Nat} {k : Nat → (Nat → Int32) → Prop} (e : j_ia t h i k) : ∃ n f, h[i]? = some (.inl (t, n, .inl f)) ∧ k n f := by
  unfold j_ia at e
  rw [j_nth_eq] at e
  split at e
  · rename_i c n f h1
    split at e
    · rename_i h2
      have := Nat.eq_of_beq_eq_true h2
      subst this
      exact ⟨n, f, h1, e⟩
    · exact e.elim
  · exact e.elim
def j_qa (t : Nat) (h : j_H) (i : Nat) (k : Nat → (Nat → Option Nat) → Prop) : Prop := match j_nth h i with
  | some (.inl (t', n, .inr (.inr (.inr (.inr f))))) => match Nat.beq t' t with
    | true => k n f
    | false => False
  | _ => False
theorem j_qa_inv {t : Nat} {h : j_H} {i : Nat} {k : Nat → (Nat → Option Nat) → Prop} (e : j_qa t h i k) : ∃ n f, h[i]? = some (.inl (t, n, .inr (.inr (.inr (.inr f))))) ∧ k n f := by
  unfold j_qa at e
  rw [j_nth_eq] at e
  split at e
  · rename_i c n f h1
    split at e
    · rename_i h2
      have := Nat.eq_of_beq_eq_true h2
      subst this
      exact ⟨n, f, h1, e⟩
    · exact e.elim
  · exact e.elim

def e_iadd (nx : Nat) : j_T := fun _ _ _ K lv st h => match st with
  | .int y :: .int x :: r => K nx lv (.int (x + y) :: r) h
  | _ => False
theorem s_iadd {M : j_M} {pc : Nat}  (hd : decode (jm_b M) pc = .ok (.iadd, 1)) : Snd M pc (e_iadd  (pc + 1)) := by
  intro Φ bc bs K hK lv st h hS
  unfold e_iadd at hS
  split at hS
  · intro p l e R s m args below meth c D T A N ad0 mc ms hX ad H locs cells slots ls hI
    obtain ⟨hx, hb, hml, hown, hts, hret, hlk, hKk, hst, hfr, hlo, hmc, hms, hA, hSx, htb, hnm, hsc⟩ := id hX
    obtain ⟨hc, hs, hl, hP, hD, hSS, hN, hAl⟩ := id hI
    exact lv_iadd hx hb hd (hK _ _ _ _ hS p l e R s m args below meth c D T A N ad0 mc ms hX ad H locs cells slots ls hI)
  · exact hS.elim
def e_isub (nx : Nat) : j_T := fun _ _ _ K lv st h => match st with
  | .int y :: .int x :: r => K nx lv (.int (x - y) :: r) h
  | _ => False
theorem s_isub {M : j_M} {pc : Nat}  (hd : decode (jm_b M) pc = .ok (.isub, 1)) : Snd M pc (e_isub  (pc + 1)) := by
  intro Φ bc bs K hK lv st h hS
  unfold e_isub at hS
  split at hS
  · intro p l e R s m args below meth c D T A N ad0 mc ms hX ad H locs cells slots ls hI
    obtain ⟨hx, hb, hml, hown, hts, hret, hlk, hKk, hst, hfr, hlo, hmc, hms, hA, hSx, htb, hnm, hsc⟩ := id hX
    obtain ⟨hc, hs, hl, hP, hD, hSS, hN, hAl⟩ := id hI
    exact lv_isub hx hb hd (hK _ _ _ _ hS p l e R s m args below meth c D T A N ad0 mc ms hX ad H locs cells slots ls hI)
  · exact hS.elim
def e_imul (nx : Nat) : j_T := fun _ _ _ K lv st h => match st with
  | .int y :: .int x :: r => K nx lv (.int (x * y) :: r) h
  | _ => False
theorem s_imul {M : j_M} {pc : Nat}  (hd : decode (jm_b M) pc = .ok (.imul, 1)) : Snd M pc (e_imul  (pc + 1)) := by
  intro Φ bc bs K hK lv st h hS
  unfold e_imul at hS
  split at hS
  · intro p l e R s m args below meth c D T A N ad0 mc ms hX ad H locs cells slots ls hI
    obtain ⟨hx, hb, hml, hown, hts, hret, hlk, hKk, hst, hfr, hlo, hmc, hms, hA, hSx, htb, hnm, hsc⟩ := id hX
    obtain ⟨hc, hs, hl, hP, hD, hSS, hN, hAl⟩ := id hI
    exact lv_imul hx hb hd (hK _ _ _ _ hS p l e R s m args below meth c D T A N ad0 mc ms hX ad H locs cells slots ls hI)
  · exact hS.elim
def e_iand (nx : Nat) : j_T := fun _ _ _ K lv st h => match st with
  | .int y :: .int x :: r => K nx lv (.int (x &&& y) :: r) h
  | _ => False
theorem s_iand {M : j_M} {pc : Nat}  (hd : decode (jm_b M) pc = .ok (.iand, 1)) : Snd M pc (e_iand  (pc + 1)) := by
  intro Φ bc bs K hK lv st h hS
  unfold e_iand at hS
  split at hS
  · intro p l e R s m args below meth c D T A N ad0 mc ms hX ad H locs cells slots ls hI
    obtain ⟨hx, hb, hml, hown, hts, hret, hlk, hKk, hst, hfr, hlo, hmc, hms, hA, hSx, htb, hnm, hsc⟩ := id hX
    obtain ⟨hc, hs, hl, hP, hD, hSS, hN, hAl⟩ := id hI
    exact lv_iand hx hb hd (hK _ _ _ _ hS p l e R s m args below meth c D T A N ad0 mc ms hX ad H locs cells slots ls hI)
  · exact hS.elim
def e_ior (nx : Nat) : j_T := fun _ _ _ K lv st h => match st with
  | .int y :: .int x :: r => K nx lv (.int (x ||| y) :: r) h
  | _ => False
theorem s_ior {M : j_M} {pc : Nat}  (hd : decode (jm_b M) pc = .ok (.ior, 1)) : Snd M pc (e_ior  (pc + 1)) := by
  intro Φ bc bs K hK lv st h hS
  unfold e_ior at hS
  split at hS
  · intro p l e R s m args below meth c D T A N ad0 mc ms hX ad H locs cells slots ls hI
    obtain ⟨hx, hb, hml, hown, hts, hret, hlk, hKk, hst, hfr, hlo, hmc, hms, hA, hSx, htb, hnm, hsc⟩ := id hX
    obtain ⟨hc, hs, hl, hP, hD, hSS, hN, hAl⟩ := id hI
    exact lv_ior hx hb hd (hK _ _ _ _ hS p l e R s m args below meth c D T A N ad0 mc ms hX ad H locs cells slots ls hI)
  · exact hS.elim
def e_idiv (nx : Nat) : j_T := fun _ _ _ K lv st h => match st with
  | .int y :: .int x :: r => (¬ y = 0) ∧ K nx lv (.int (x / y) :: r) h
  | _ => False
theorem s_idiv {M : j_M} {pc : Nat}  (hd : decode (jm_b M) pc = .ok (.idiv, 1)) : Snd M pc (e_idiv  (pc + 1)) := by
  intro Φ bc bs K hK lv st h hS
  unfold e_idiv at hS
  split at hS
  · obtain ⟨hcond, hS⟩ := hS
    intro p l e R s m args below meth c D T A N ad0 mc ms hX ad H locs cells slots ls hI
    obtain ⟨hx, hb, hml, hown, hts, hret, hlk, hKk, hst, hfr, hlo, hmc, hms, hA, hSx, htb, hnm, hsc⟩ := id hX
    obtain ⟨hc, hs, hl, hP, hD, hSS, hN, hAl⟩ := id hI
    exact lv_idiv hx hb hd hcond (hK _ _ _ _ hS p l e R s m args below meth c D T A N ad0 mc ms hX ad H locs cells slots ls hI)
  · exact hS.elim
def e_irem (nx : Nat) : j_T := fun _ _ _ K lv st h => match st with
  | .int y :: .int x :: r => (¬ y = 0) ∧ K nx lv (.int (x - x / y * y) :: r) h
  | _ => False
theorem s_irem {M : j_M} {pc : Nat}  (hd : decode (jm_b M) pc = .ok (.irem, 1)) : Snd M pc (e_irem  (pc + 1)) := by
  intro Φ bc bs K hK lv st h hS
  unfold e_irem at hS
  split at hS
  · obtain ⟨hcond, hS⟩ := hS
    intro p l e R s m args below meth c D T A N ad0 mc ms hX ad H locs cells slots ls hI
    obtain ⟨hx, hb, hml, hown, hts, hret, hlk, hKk, hst, hfr, hlo, hmc, hms, hA, hSx, htb, hnm, hsc⟩ := id hX
    obtain ⟨hc, hs, hl, hP, hD, hSS, hN, hAl⟩ := id hI
    exact lv_irem hx hb hd hcond (hK _ _ _ _ hS p l e R s m args below meth c D T A N ad0 mc ms hX ad H locs cells slots ls hI)
  · exact hS.elim
def e_ineg (nx : Nat) : j_T := fun _ _ _ K lv st h => match st with
  | .int x :: r => K nx lv (.int (-x) :: r) h
  | _ => False
theorem s_ineg {M : j_M} {pc : Nat}  (hd : decode (jm_b M) pc = .ok (.ineg, 1)) : Snd M pc (e_ineg  (pc + 1)) := by
  intro Φ bc bs K hK lv st h hS
  unfold e_ineg at hS
  split at hS
  · intro p l e R s m args below meth c D T A N ad0 mc ms hX ad H locs cells slots ls hI
    obtain ⟨hx, hb, hml, hown, hts, hret, hlk, hKk, hst, hfr, hlo, hmc, hms, hA, hSx, htb, hnm, hsc⟩ := id hX
    obtain ⟨hc, hs, hl, hP, hD, hSS, hN, hAl⟩ := id hI
    exact lv_ineg hx hb hd (hK _ _ _ _ hS p l e R s m args below meth c D T A N ad0 mc ms hX ad H locs cells slots ls hI)
  · exact hS.elim
def e_ladd (nx : Nat) : j_T := fun _ _ _ K lv st h => match st with
  | .long y :: .long x :: r => K nx lv (.long (x + y) :: r) h
  | _ => False
theorem s_ladd {M : j_M} {pc : Nat}  (hd : decode (jm_b M) pc = .ok (.ladd, 1)) : Snd M pc (e_ladd  (pc + 1)) := by
  intro Φ bc bs K hK lv st h hS
  unfold e_ladd at hS
  split at hS
  · intro p l e R s m args below meth c D T A N ad0 mc ms hX ad H locs cells slots ls hI
    obtain ⟨hx, hb, hml, hown, hts, hret, hlk, hKk, hst, hfr, hlo, hmc, hms, hA, hSx, htb, hnm, hsc⟩ := id hX
    obtain ⟨hc, hs, hl, hP, hD, hSS, hN, hAl⟩ := id hI
    exact lv_ladd hx hb hd (hK _ _ _ _ hS p l e R s m args below meth c D T A N ad0 mc ms hX ad H locs cells slots ls hI)
  · exact hS.elim
def e_lsub (nx : Nat) : j_T := fun _ _ _ K lv st h => match st with
  | .long y :: .long x :: r => K nx lv (.long (x - y) :: r) h
  | _ => False
theorem s_lsub {M : j_M} {pc : Nat}  (hd : decode (jm_b M) pc = .ok (.lsub, 1)) : Snd M pc (e_lsub  (pc + 1)) := by
  intro Φ bc bs K hK lv st h hS
  unfold e_lsub at hS
  split at hS
  · intro p l e R s m args below meth c D T A N ad0 mc ms hX ad H locs cells slots ls hI
    obtain ⟨hx, hb, hml, hown, hts, hret, hlk, hKk, hst, hfr, hlo, hmc, hms, hA, hSx, htb, hnm, hsc⟩ := id hX
    obtain ⟨hc, hs, hl, hP, hD, hSS, hN, hAl⟩ := id hI
    exact lv_lsub hx hb hd (hK _ _ _ _ hS p l e R s m args below meth c D T A N ad0 mc ms hX ad H locs cells slots ls hI)
  · exact hS.elim
def e_lmul (nx : Nat) : j_T := fun _ _ _ K lv st h => match st with
  | .long y :: .long x :: r => K nx lv (.long (x * y) :: r) h
  | _ => False
theorem s_lmul {M : j_M} {pc : Nat}  (hd : decode (jm_b M) pc = .ok (.lmul, 1)) : Snd M pc (e_lmul  (pc + 1)) := by
  intro Φ bc bs K hK lv st h hS
  unfold e_lmul at hS
  split at hS
  · intro p l e R s m args below meth c D T A N ad0 mc ms hX ad H locs cells slots ls hI
    obtain ⟨hx, hb, hml, hown, hts, hret, hlk, hKk, hst, hfr, hlo, hmc, hms, hA, hSx, htb, hnm, hsc⟩ := id hX
    obtain ⟨hc, hs, hl, hP, hD, hSS, hN, hAl⟩ := id hI
    exact lv_lmul hx hb hd (hK _ _ _ _ hS p l e R s m args below meth c D T A N ad0 mc ms hX ad H locs cells slots ls hI)
  · exact hS.elim
def e_lor (nx : Nat) : j_T := fun _ _ _ K lv st h => match st with
  | .long y :: .long x :: r => K nx lv (.long (x ||| y) :: r) h
  | _ => False
theorem s_lor {M : j_M} {pc : Nat}  (hd : decode (jm_b M) pc = .ok (.lor, 1)) : Snd M pc (e_lor  (pc + 1)) := by
  intro Φ bc bs K hK lv st h hS
  unfold e_lor at hS
  split at hS
  · intro p l e R s m args below meth c D T A N ad0 mc ms hX ad H locs cells slots ls hI
    obtain ⟨hx, hb, hml, hown, hts, hret, hlk, hKk, hst, hfr, hlo, hmc, hms, hA, hSx, htb, hnm, hsc⟩ := id hX
    obtain ⟨hc, hs, hl, hP, hD, hSS, hN, hAl⟩ := id hI
    exact lv_lor hx hb hd (hK _ _ _ _ hS p l e R s m args below meth c D T A N ad0 mc ms hX ad H locs cells slots ls hI)
  · exact hS.elim
def e_lshl (nx : Nat) : j_T := fun _ _ _ K lv st h => match st with
  | .int y :: .long x :: r => K nx lv (.long (x <<< (y.toInt64 &&& 63)) :: r) h
  | _ => False
theorem s_lshl {M : j_M} {pc : Nat} (hd : decode (jm_b M) pc = .ok (.lshl, 1)) : Snd M pc (e_lshl (pc + 1)) := by
  intro Φ bc bs K hK lv st h hS
  unfold e_lshl at hS
  split at hS
  · intro p l e R s m args below meth c D T A N ad0 mc ms hX ad H locs cells slots ls hI
    obtain ⟨hx, hb, hml, hown, hts, hret, hlk, hKk, hst, hfr, hlo, hmc, hms, hA, hSx, htb, hnm, hsc⟩ := id hX
    obtain ⟨hc, hs, hl, hP, hD, hSS, hN, hAl⟩ := id hI
    exact lv_lshl hx hb hd rfl (hK _ _ _ _ hS p l e R s m args below meth c D T A N ad0 mc ms hX ad H locs cells slots ls hI)
  · exact hS.elim
def e_lcmp (nx : Nat) : j_T := fun _ _ _ K lv st h => match st with
  | .long y :: .long x :: r => K nx lv (.int (lg_cmp x y) :: r) h
  | _ => False
theorem s_lcmp {M : j_M} {pc : Nat}  (hd : decode (jm_b M) pc = .ok (.lcmp, 1)) : Snd M pc (e_lcmp  (pc + 1)) := by
  intro Φ bc bs K hK lv st h hS
  unfold e_lcmp at hS
  split at hS
  · intro p l e R s m args below meth c D T A N ad0 mc ms hX ad H locs cells slots ls hI
    obtain ⟨hx, hb, hml, hown, hts, hret, hlk, hKk, hst, hfr, hlo, hmc, hms, hA, hSx, htb, hnm, hsc⟩ := id hX
    obtain ⟨hc, hs, hl, hP, hD, hSS, hN, hAl⟩ := id hI
    exact W.lcmp hx hb hd (hK _ _ _ _ hS p l e R s m args below meth c D T A N ad0 mc ms hX ad H locs cells slots ls hI)
  · exact hS.elim
def e_dmul (nx : Nat) : j_T := fun _ _ _ K lv st h => match st with
  | .double y :: .double x :: r => vf_n64 (FP.dmul x y) ∧ K nx lv (.double (FP.dmul x y) :: r) h
  | _ => False
theorem s_dmul {M : j_M} {pc : Nat}  (hd : decode (jm_b M) pc = .ok (.dmul, 1)) : Snd M pc (e_dmul  (pc + 1)) := by
  intro Φ bc bs K hK lv st h hS
  unfold e_dmul at hS
  split at hS
  · obtain ⟨hcond, hS⟩ := hS
    intro p l e R s m args below meth c D T A N ad0 mc ms hX ad H locs cells slots ls hI
    obtain ⟨hx, hb, hml, hown, hts, hret, hlk, hKk, hst, hfr, hlo, hmc, hms, hA, hSx, htb, hnm, hsc⟩ := id hX
    obtain ⟨hc, hs, hl, hP, hD, hSS, hN, hAl⟩ := id hI
    exact lv_dmul hx hb hd hcond (hK _ _ _ _ hS p l e R s m args below meth c D T A N ad0 mc ms hX ad H locs cells slots ls hI)
  · exact hS.elim
def e_dsub (nx : Nat) : j_T := fun _ _ _ K lv st h => match st with
  | .double y :: .double x :: r => vf_n64 (FP.dsub x y) ∧ K nx lv (.double (FP.dsub x y) :: r) h
  | _ => False
theorem s_dsub {M : j_M} {pc : Nat}  (hd : decode (jm_b M) pc = .ok (.dsub, 1)) : Snd M pc (e_dsub  (pc + 1)) := by
  intro Φ bc bs K hK lv st h hS
  unfold e_dsub at hS
  split at hS
  · obtain ⟨hcond, hS⟩ := hS
    intro p l e R s m args below meth c D T A N ad0 mc ms hX ad H locs cells slots ls hI
    obtain ⟨hx, hb, hml, hown, hts, hret, hlk, hKk, hst, hfr, hlo, hmc, hms, hA, hSx, htb, hnm, hsc⟩ := id hX
    obtain ⟨hc, hs, hl, hP, hD, hSS, hN, hAl⟩ := id hI
    exact lv_dsub hx hb hd hcond (hK _ _ _ _ hS p l e R s m args below meth c D T A N ad0 mc ms hX ad H locs cells slots ls hI)
  · exact hS.elim
def e_ddiv (nx : Nat) : j_T := fun _ _ _ K lv st h => match st with
  | .double y :: .double x :: r => vf_n64 (FP.ddiv x y) ∧ K nx lv (.double (FP.ddiv x y) :: r) h
  | _ => False
theorem s_ddiv {M : j_M} {pc : Nat}  (hd : decode (jm_b M) pc = .ok (.ddiv, 1)) : Snd M pc (e_ddiv  (pc + 1)) := by
  intro Φ bc bs K hK lv st h hS
  unfold e_ddiv at hS
  split at hS
  · obtain ⟨hcond, hS⟩ := hS
    intro p l e R s m args below meth c D T A N ad0 mc ms hX ad H locs cells slots ls hI
    obtain ⟨hx, hb, hml, hown, hts, hret, hlk, hKk, hst, hfr, hlo, hmc, hms, hA, hSx, htb, hnm, hsc⟩ := id hX
    obtain ⟨hc, hs, hl, hP, hD, hSS, hN, hAl⟩ := id hI
    exact lv_ddiv hx hb hd hcond (hK _ _ _ _ hS p l e R s m args below meth c D T A N ad0 mc ms hX ad H locs cells slots ls hI)
  · exact hS.elim
def e_i2d (nx : Nat) : j_T := fun _ _ _ K lv st h => match st with
  | .int x :: r => K nx lv (.double (FP.i2d x) :: r) h
  | _ => False
theorem s_i2d {M : j_M} {pc : Nat}  (hd : decode (jm_b M) pc = .ok (.i2d, 1)) : Snd M pc (e_i2d  (pc + 1)) := by
  intro Φ bc bs K hK lv st h hS
  unfold e_i2d at hS
  split at hS
  · intro p l e R s m args below meth c D T A N ad0 mc ms hX ad H locs cells slots ls hI
    obtain ⟨hx, hb, hml, hown, hts, hret, hlk, hKk, hst, hfr, hlo, hmc, hms, hA, hSx, htb, hnm, hsc⟩ := id hX
    obtain ⟨hc, hs, hl, hP, hD, hSS, hN, hAl⟩ := id hI
    exact lv_i2d hx hb hd (hK _ _ _ _ hS p l e R s m args below meth c D T A N ad0 mc ms hX ad H locs cells slots ls hI)
  · exact hS.elim
def e_d2l (nx : Nat) : j_T := fun _ _ _ K lv st h => match st with
  | .double x :: r => K nx lv (.long (FP.d2l x) :: r) h
  | _ => False
theorem s_d2l {M : j_M} {pc : Nat}  (hd : decode (jm_b M) pc = .ok (.d2l, 1)) : Snd M pc (e_d2l  (pc + 1)) := by
  intro Φ bc bs K hK lv st h hS
  unfold e_d2l at hS
  split at hS
  · intro p l e R s m args below meth c D T A N ad0 mc ms hX ad H locs cells slots ls hI
    obtain ⟨hx, hb, hml, hown, hts, hret, hlk, hKk, hst, hfr, hlo, hmc, hms, hA, hSx, htb, hnm, hsc⟩ := id hX
    obtain ⟨hc, hs, hl, hP, hD, hSS, hN, hAl⟩ := id hI
    exact lv_d2l hx hb hd (hK _ _ _ _ hS p l e R s m args below meth c D T A N ad0 mc ms hX ad H locs cells slots ls hI)
  · exact hS.elim
def e_i2l (nx : Nat) : j_T := fun _ _ _ K lv st h => match st with
  | .int x :: r => K nx lv (.long x.toInt64 :: r) h
  | _ => False
theorem s_i2l {M : j_M} {pc : Nat} (hd : decode (jm_b M) pc = .ok (.i2l, 1)) : Snd M pc (e_i2l (pc + 1)) := by
  intro Φ bc bs K hK lv st h hS
  unfold e_i2l at hS
  split at hS
  · intro p l e R s m args below meth c D T A N ad0 mc ms hX ad H locs cells slots ls hI
    obtain ⟨hx, hb, hml, hown, hts, hret, hlk, hKk, hst, hfr, hlo, hmc, hms, hA, hSx, htb, hnm, hsc⟩ := id hX
    obtain ⟨hc, hs, hl, hP, hD, hSS, hN, hAl⟩ := id hI
    exact lv_i2l hx hb hd rfl (hK _ _ _ _ hS p l e R s m args below meth c D T A N ad0 mc ms hX ad H locs cells slots ls hI)
  · exact hS.elim
def e_dcmp (op : CmpOp) (nx : Nat) : j_T := fun _ _ _ K lv st h => match st with
  | .double y :: .double x :: r => K nx lv (.int (Op.cmpValue (FP.dcmp x y) op) :: r) h
  | _ => False
theorem s_dcmp {M : j_M} {pc : Nat} {op : CmpOp} (hd : decode (jm_b M) pc = .ok (.dcmp op, 1)) : Snd M pc (e_dcmp op (pc + 1)) := by
  intro Φ bc bs K hK lv st h hS
  unfold e_dcmp at hS
  split at hS
  · intro p l e R s m args below meth c D T A N ad0 mc ms hX ad H locs cells slots ls hI
    obtain ⟨hx, hb, hml, hown, hts, hret, hlk, hKk, hst, hfr, hlo, hmc, hms, hA, hSx, htb, hnm, hsc⟩ := id hX
    obtain ⟨hc, hs, hl, hP, hD, hSS, hN, hAl⟩ := id hI
    exact lv_dcmp hx hb hd (hK _ _ _ _ hS p l e R s m args below meth c D T A N ad0 mc ms hX ad H locs cells slots ls hI)
  · exact hS.elim
def e_dup (nx : Nat) : j_T := fun _ _ _ K lv st h => match st with
  | v :: r => v.category = 1 ∧ K nx lv (v :: v :: r) h
  | _ => False
theorem s_dup {M : j_M} {pc : Nat} (hd : decode (jm_b M) pc = .ok (.dup, 1)) : Snd M pc (e_dup (pc + 1)) := by
  intro Φ bc bs K hK lv st h hS
  unfold e_dup at hS
  split at hS
  · rename_i v r
    obtain ⟨hcat, hS⟩ := hS
    intro p l e R s m args below meth c D T A N ad0 mc ms hX ad H locs cells slots ls hI
    obtain ⟨hx, hb, hml, hown, hts, hret, hlk, hKk, hst, hfr, hlo, hmc, hms, hA, hSx, htb, hnm, hsc⟩ := id hX
    obtain ⟨hc, hs, hl, hP, hD, hSS, hN, hAl⟩ := id hI
    exact lv_dup hx hb hd ((j_v_cat ad v).trans hcat) (hK _ _ _ _ hS p l e R s m args below meth c D T A N ad0 mc ms hX ad H locs cells slots ls hI)
  · exact hS.elim
def e_dup2 (nx : Nat) : j_T := fun _ _ _ K lv st h => match st with
  | v :: u :: r => v.category = 1 ∧ u.category = 1 ∧ K nx lv (v :: u :: v :: u :: r) h
  | _ => False
theorem s_dup2 {M : j_M} {pc : Nat} (hd : decode (jm_b M) pc = .ok (.dup2, 1)) : Snd M pc (e_dup2 (pc + 1)) := by
  intro Φ bc bs K hK lv st h hS
  unfold e_dup2 at hS
  split at hS
  · rename_i v u r
    obtain ⟨hcat, hcat2, hS⟩ := hS
    intro p l e R s m args below meth c D T A N ad0 mc ms hX ad H locs cells slots ls hI
    obtain ⟨hx, hb, hml, hown, hts, hret, hlk, hKk, hst, hfr, hlo, hmc, hms, hA, hSx, htb, hnm, hsc⟩ := id hX
    obtain ⟨hc, hs, hl, hP, hD, hSS, hN, hAl⟩ := id hI
    exact lv_dup2_11 hx hb hd ((j_v_cat ad v).trans hcat) ((j_v_cat ad u).trans hcat2) (hK _ _ _ _ hS p l e R s m args below meth c D T A N ad0 mc ms hX ad H locs cells slots ls hI)
  · exact hS.elim
def e_pop (nx : Nat) : j_T := fun _ _ _ K lv st h => match st with
  | v :: r => v.category = 1 ∧ K nx lv r h
  | _ => False
theorem s_pop {M : j_M} {pc : Nat} (hd : decode (jm_b M) pc = .ok (.pop, 1)) : Snd M pc (e_pop (pc + 1)) := by
  intro Φ bc bs K hK lv st h hS
  unfold e_pop at hS
  split at hS
  · rename_i v r
    obtain ⟨hcat, hS⟩ := hS
    intro p l e R s m args below meth c D T A N ad0 mc ms hX ad H locs cells slots ls hI
    obtain ⟨hx, hb, hml, hown, hts, hret, hlk, hKk, hst, hfr, hlo, hmc, hms, hA, hSx, htb, hnm, hsc⟩ := id hX
    obtain ⟨hc, hs, hl, hP, hD, hSS, hN, hAl⟩ := id hI
    exact lv_pop hx hb hd ((j_v_cat ad v).trans hcat) (hK _ _ _ _ hS p l e R s m args below meth c D T A N ad0 mc ms hX ad H locs cells slots ls hI)
  · exact hS.elim
def e_ci (v : Int32) (nx : Nat) : j_T := fun _ _ _ K lv st h => K nx lv (.int v :: st) h
def e_cl (v : Int64) (nx : Nat) : j_T := fun _ _ _ K lv st h => K nx lv (.long v :: st) h
def e_cd (v : UInt64) (nx : Nat) : j_T := fun _ _ _ K lv st h => K nx lv (.double v :: st) h
theorem s_iconst {M : j_M} {pc : Nat} {n : Int} {v : Int32} (hd : decode (jm_b M) pc = .ok (.iconst n, 1)) (hv : Int32.ofInt n = v) : Snd M pc (e_ci v (pc + 1)) := by
  intro Φ bc bs K hK lv st h hS
  intro p l e R s m args below meth c D T A N ad0 mc ms hX ad H locs cells slots ls hI
  obtain ⟨hx, hb, hml, hown, hts, hret, hlk, hKk, hst, hfr, hlo, hmc, hms, hA, hSx, htb, hnm, hsc⟩ := id hX
  obtain ⟨hc, hs, hl, hP, hD, hSS, hN, hAl⟩ := id hI
  exact lv_iconst hx hb hd hv (hK _ _ _ _ hS p l e R s m args below meth c D T A N ad0 mc ms hX ad H locs cells slots ls hI)
theorem s_bipush {M : j_M} {pc : Nat} {n : Int} {v : Int32} (hd : decode (jm_b M) pc = .ok (.bipush n, 2)) (hv : (Int8.ofInt n).toInt32 = v) : Snd M pc (e_ci v (pc + 2)) := by
  intro Φ bc bs K hK lv st h hS
  intro p l e R s m args below meth c D T A N ad0 mc ms hX ad H locs cells slots ls hI
  obtain ⟨hx, hb, hml, hown, hts, hret, hlk, hKk, hst, hfr, hlo, hmc, hms, hA, hSx, htb, hnm, hsc⟩ := id hX
  obtain ⟨hc, hs, hl, hP, hD, hSS, hN, hAl⟩ := id hI
  exact lv_bipush hx hb hd hv (hK _ _ _ _ hS p l e R s m args below meth c D T A N ad0 mc ms hX ad H locs cells slots ls hI)
theorem s_sipush {M : j_M} {pc : Nat} {n : Int} {v : Int32} (hd : decode (jm_b M) pc = .ok (.sipush n, 3)) (hv : (Int16.ofInt n).toInt32 = v) : Snd M pc (e_ci v (pc + 3)) := by
  intro Φ bc bs K hK lv st h hS
  intro p l e R s m args below meth c D T A N ad0 mc ms hX ad H locs cells slots ls hI
  obtain ⟨hx, hb, hml, hown, hts, hret, hlk, hKk, hst, hfr, hlo, hmc, hms, hA, hSx, htb, hnm, hsc⟩ := id hX
  obtain ⟨hc, hs, hl, hP, hD, hSS, hN, hAl⟩ := id hI
  exact lv_sipush hx hb hd hv (hK _ _ _ _ hS p l e R s m args below meth c D T A N ad0 mc ms hX ad H locs cells slots ls hI)
theorem s_lconst {M : j_M} {pc : Nat} {n : Fin 2} {v : Int64} (hd : decode (jm_b M) pc = .ok (.lconst n, 1)) (hv : Int64.ofNat (n : Nat) = v) : Snd M pc (e_cl v (pc + 1)) := by
  intro Φ bc bs K hK lv st h hS
  intro p l e R s m args below meth c D T A N ad0 mc ms hX ad H locs cells slots ls hI
  obtain ⟨hx, hb, hml, hown, hts, hret, hlk, hKk, hst, hfr, hlo, hmc, hms, hA, hSx, htb, hnm, hsc⟩ := id hX
  obtain ⟨hc, hs, hl, hP, hD, hSS, hN, hAl⟩ := id hI
  exact lv_lconst hx hb hd hv (hK _ _ _ _ hS p l e R s m args below meth c D T A N ad0 mc ms hX ad H locs cells slots ls hI)
theorem s_ldc {M : j_M} {pc : Nat} {ix : Nat} {v : Int32} (hd : decode (jm_b M) pc = .ok (.ldc ix, 2)) (hw : Jvm.Cond.constant (jm_o M) ix v ∈ j_ws) : Snd M pc (e_ci v (pc + 2)) := by
  intro Φ bc bs K hK lv st h hS
  intro p l e R s m args below meth c D T A N ad0 mc ms hX ad H locs cells slots ls hI
  obtain ⟨hx, hb, hml, hown, hts, hret, hlk, hKk, hst, hfr, hlo, hmc, hms, hA, hSx, htb, hnm, hsc⟩ := id hX
  obtain ⟨hc, hs, hl, hP, hD, hSS, hN, hAl⟩ := id hI
  exact lv_ldc hx hb hown (hts _ hw) hd (hK _ _ _ _ hS p l e R s m args below meth c D T A N ad0 mc ms hX ad H locs cells slots ls hI)
theorem s_ldcw {M : j_M} {pc : Nat} {ix : Nat} {v : Int32} (hd : decode (jm_b M) pc = .ok (.ldc_w ix, 3)) (hw : Jvm.Cond.constant (jm_o M) ix v ∈ j_ws) : Snd M pc (e_ci v (pc + 3)) := by
  intro Φ bc bs K hK lv st h hS
  intro p l e R s m args below meth c D T A N ad0 mc ms hX ad H locs cells slots ls hI
  obtain ⟨hx, hb, hml, hown, hts, hret, hlk, hKk, hst, hfr, hlo, hmc, hms, hA, hSx, htb, hnm, hsc⟩ := id hX
  obtain ⟨hc, hs, hl, hP, hD, hSS, hN, hAl⟩ := id hI
  exact lv_ldcw hx hb hown (hts _ hw) hd (hK _ _ _ _ hS p l e R s m args below meth c D T A N ad0 mc ms hX ad H locs cells slots ls hI)
theorem s_ldc2 {M : j_M} {pc : Nat} {ix : Nat} {v : Int64} (hd : decode (jm_b M) pc = .ok (.ldc2_w ix, 3)) (hw : Jvm.Cond.constantLong (jm_o M) ix v ∈ j_ws) : Snd M pc (e_cl v (pc + 3)) := by
  intro Φ bc bs K hK lv st h hS
  intro p l e R s m args below meth c D T A N ad0 mc ms hX ad H locs cells slots ls hI
  obtain ⟨hx, hb, hml, hown, hts, hret, hlk, hKk, hst, hfr, hlo, hmc, hms, hA, hSx, htb, hnm, hsc⟩ := id hX
  obtain ⟨hc, hs, hl, hP, hD, hSS, hN, hAl⟩ := id hI
  exact lv_ldc2 hx hb hown (hts _ hw) hd (hK _ _ _ _ hS p l e R s m args below meth c D T A N ad0 mc ms hX ad H locs cells slots ls hI)
theorem s_ldc2d {M : j_M} {pc : Nat} {ix : Nat} {v : UInt64} (hd : decode (jm_b M) pc = .ok (.ldc2_w ix, 3)) (hw : Jvm.Cond.constantDouble (jm_o M) ix v ∈ j_ws) : Snd M pc (e_cd v (pc + 3)) := by
  intro Φ bc bs K hK lv st h hS
  intro p l e R s m args below meth c D T A N ad0 mc ms hX ad H locs cells slots ls hI
  obtain ⟨hx, hb, hml, hown, hts, hret, hlk, hKk, hst, hfr, hlo, hmc, hms, hA, hSx, htb, hnm, hsc⟩ := id hX
  obtain ⟨hc, hs, hl, hP, hD, hSS, hN, hAl⟩ := id hI
  exact lv_ldc2d hx hb hown (hts _ hw) hd (hK _ _ _ _ hS p l e R s m args below meth c D T A N ad0 mc ms hX ad H locs cells slots ls hI)
theorem s_dconst0 {M : j_M} {pc : Nat} (hd : decode (jm_b M) pc = .ok (.dconst 0, 1)) : Snd M pc (e_cd FP.dconst0 (pc + 1)) := by
  intro Φ bc bs K hK lv st h hS
  intro p l e R s m args below meth c D T A N ad0 mc ms hX ad H locs cells slots ls hI
  obtain ⟨hx, hb, hml, hown, hts, hret, hlk, hKk, hst, hfr, hlo, hmc, hms, hA, hSx, htb, hnm, hsc⟩ := id hX
  obtain ⟨hc, hs, hl, hP, hD, hSS, hN, hAl⟩ := id hI
  exact lv_dconst0 hx hb hd (hK _ _ _ _ hS p l e R s m args below meth c D T A N ad0 mc ms hX ad H locs cells slots ls hI)
theorem s_dconst1 {M : j_M} {pc : Nat} (hd : decode (jm_b M) pc = .ok (.dconst 1, 1)) : Snd M pc (e_cd FP.dconst1 (pc + 1)) := by
  intro Φ bc bs K hK lv st h hS
  intro p l e R s m args below meth c D T A N ad0 mc ms hX ad H locs cells slots ls hI
  obtain ⟨hx, hb, hml, hown, hts, hret, hlk, hKk, hst, hfr, hlo, hmc, hms, hA, hSx, htb, hnm, hsc⟩ := id hX
  obtain ⟨hc, hs, hl, hP, hD, hSS, hN, hAl⟩ := id hI
  exact lv_dconst1 hx hb hd (hK _ _ _ _ hS p l e R s m args below meth c D T A N ad0 mc ms hX ad H locs cells slots ls hI)
def e_ild (i nx : Nat) : j_T := fun _ _ _ K lv st h => match j_look i lv with
  | some (.int x) => K nx lv (.int x :: st) h
  | _ => False
theorem s_iload_n {M : j_M} {pc : Nat} {k : Fin 4} {i : Nat} (hd : decode (jm_b M) pc = .ok (.iload_n k, 1)) (hk : (k : Nat) = i) : Snd M pc (e_ild i (pc + 1)) := by
  intro Φ bc bs K hK lv st h hS
  unfold e_ild at hS
  split at hS
  · rename_i x hg
    intro p l e R s m args below meth c D T A N ad0 mc ms hX ad H locs cells slots ls hI
    obtain ⟨hx, hb, hml, hown, hts, hret, hlk, hKk, hst, hfr, hlo, hmc, hms, hA, hSx, htb, hnm, hsc⟩ := id hX
    obtain ⟨hc, hs, hl, hP, hD, hSS, hN, hAl⟩ := id hI
    exact lv_iload_n hx hb hd hk (j_lget hl hg) (hK _ _ _ _ hS p l e R s m args below meth c D T A N ad0 mc ms hX ad H locs cells slots ls hI)
  · exact hS.elim
theorem s_iload {M : j_M} {pc : Nat} {i : Nat} (hd : decode (jm_b M) pc = .ok (.iload i, 2)) : Snd M pc (e_ild i (pc + 2)) := by
  intro Φ bc bs K hK lv st h hS
  unfold e_ild at hS
  split at hS
  · rename_i x hg
    intro p l e R s m args below meth c D T A N ad0 mc ms hX ad H locs cells slots ls hI
    obtain ⟨hx, hb, hml, hown, hts, hret, hlk, hKk, hst, hfr, hlo, hmc, hms, hA, hSx, htb, hnm, hsc⟩ := id hX
    obtain ⟨hc, hs, hl, hP, hD, hSS, hN, hAl⟩ := id hI
    exact lv_iload hx hb hd (j_lget hl hg) (hK _ _ _ _ hS p l e R s m args below meth c D T A N ad0 mc ms hX ad H locs cells slots ls hI)
  · exact hS.elim
def e_ist (i nx : Nat) : j_T := fun _ _ _ K lv st h => match st with
  | .int x :: r => j_put (j_k1 i) i (.int x) lv (fun l' => K nx l' r h)
  | _ => False
theorem s_istore_n {M : j_M} {pc : Nat} {k : Fin 4} {i : Nat} (hd : decode (jm_b M) pc = .ok (.istore_n k, 1)) (hk : (k : Nat) = i) (hi : i < jm_n M) : Snd M pc (e_ist i (pc + 1)) := by
  intro Φ bc bs K hK lv st h hS
  unfold e_ist at hS
  split at hS
  · rename_i x r
    obtain ⟨l', hS, hsub⟩ := j_put_inv hS
    intro p l e R s m args below meth c D T A N ad0 mc ms hX ad H locs cells slots ls hI
    obtain ⟨hx, hb, hml, hown, hts, hret, hlk, hKk, hst, hfr, hlo, hmc, hms, hA, hSx, htb, hnm, hsc⟩ := id hX
    obtain ⟨hc, hs, hl, hP, hD, hSS, hN, hAl⟩ := id hI
    refine lv_istore_n hx hb hd hk hl hi (congrArg _ (j_l_k1 ad i lv)) (fun ls' hl' => ?_)
    exact hK _ _ _ _ hS p l e R s m args below meth c D T A N ad0 mc ms hX ad H locs cells slots ls' (j_I.put hI (j_has_sub (v := .int x) hl' hsub))
  · exact hS.elim
theorem s_istore {M : j_M} {pc : Nat} {i : Nat} (hd : decode (jm_b M) pc = .ok (.istore i, 2)) (hi : i < jm_n M) : Snd M pc (e_ist i (pc + 2)) := by
  intro Φ bc bs K hK lv st h hS
  unfold e_ist at hS
  split at hS
  · rename_i x r
    obtain ⟨l', hS, hsub⟩ := j_put_inv hS
    intro p l e R s m args below meth c D T A N ad0 mc ms hX ad H locs cells slots ls hI
    obtain ⟨hx, hb, hml, hown, hts, hret, hlk, hKk, hst, hfr, hlo, hmc, hms, hA, hSx, htb, hnm, hsc⟩ := id hX
    obtain ⟨hc, hs, hl, hP, hD, hSS, hN, hAl⟩ := id hI
    refine lv_istore hx hb hd hl hi (congrArg _ (j_l_k1 ad i lv)) (fun ls' hl' => ?_)
    exact hK _ _ _ _ hS p l e R s m args below meth c D T A N ad0 mc ms hX ad H locs cells slots ls' (j_I.put hI (j_has_sub (v := .int x) hl' hsub))
  · exact hS.elim
def e_lld (i nx : Nat) : j_T := fun _ _ _ K lv st h => match j_look i lv with
  | some (.long x) => K nx lv (.long x :: st) h
  | _ => False
theorem s_lload_n {M : j_M} {pc : Nat} {k : Fin 4} {i : Nat} (hd : decode (jm_b M) pc = .ok (.lload_n k, 1)) (hk : (k : Nat) = i) : Snd M pc (e_lld i (pc + 1)) := by
  intro Φ bc bs K hK lv st h hS
  unfold e_lld at hS
  split at hS
  · rename_i x hg
    intro p l e R s m args below meth c D T A N ad0 mc ms hX ad H locs cells slots ls hI
    obtain ⟨hx, hb, hml, hown, hts, hret, hlk, hKk, hst, hfr, hlo, hmc, hms, hA, hSx, htb, hnm, hsc⟩ := id hX
    obtain ⟨hc, hs, hl, hP, hD, hSS, hN, hAl⟩ := id hI
    exact lv_lload_n hx hb hd hk (j_lget hl hg) (hK _ _ _ _ hS p l e R s m args below meth c D T A N ad0 mc ms hX ad H locs cells slots ls hI)
  · exact hS.elim
theorem s_lload {M : j_M} {pc : Nat} {i : Nat} (hd : decode (jm_b M) pc = .ok (.lload i, 2)) : Snd M pc (e_lld i (pc + 2)) := by
  intro Φ bc bs K hK lv st h hS
  unfold e_lld at hS
  split at hS
  · rename_i x hg
    intro p l e R s m args below meth c D T A N ad0 mc ms hX ad H locs cells slots ls hI
    obtain ⟨hx, hb, hml, hown, hts, hret, hlk, hKk, hst, hfr, hlo, hmc, hms, hA, hSx, htb, hnm, hsc⟩ := id hX
    obtain ⟨hc, hs, hl, hP, hD, hSS, hN, hAl⟩ := id hI
    exact lv_lload hx hb hd (j_lget hl hg) (hK _ _ _ _ hS p l e R s m args below meth c D T A N ad0 mc ms hX ad H locs cells slots ls hI)
  · exact hS.elim
def e_lst (i nx : Nat) : j_T := fun _ _ _ K lv st h => match st with
  | .long x :: r => j_put (j_k2 i) i (.long x) lv (fun l' => K nx l' r h)
  | _ => False
theorem s_lstore_n {M : j_M} {pc : Nat} {k : Fin 4} {i : Nat} (hd : decode (jm_b M) pc = .ok (.lstore_n k, 1)) (hk : (k : Nat) = i) (hi : i + 1 < jm_n M) : Snd M pc (e_lst i (pc + 1)) := by
  intro Φ bc bs K hK lv st h hS
  unfold e_lst at hS
  split at hS
  · rename_i x r
    obtain ⟨l', hS, hsub⟩ := j_put_inv hS
    intro p l e R s m args below meth c D T A N ad0 mc ms hX ad H locs cells slots ls hI
    obtain ⟨hx, hb, hml, hown, hts, hret, hlk, hKk, hst, hfr, hlo, hmc, hms, hA, hSx, htb, hnm, hsc⟩ := id hX
    obtain ⟨hc, hs, hl, hP, hD, hSS, hN, hAl⟩ := id hI
    refine lv_lstore_n hx hb hd hk hl hi (congrArg _ (j_l_k2 ad i lv)) (fun ls' hl' => ?_)
    exact hK _ _ _ _ hS p l e R s m args below meth c D T A N ad0 mc ms hX ad H locs cells slots ls' (j_I.put hI (j_has_sub (v := .long x) hl' hsub))
  · exact hS.elim
theorem s_lstore {M : j_M} {pc : Nat} {i : Nat} (hd : decode (jm_b M) pc = .ok (.lstore i, 2)) (hi : i + 1 < jm_n M) : Snd M pc (e_lst i (pc + 2)) := by
  intro Φ bc bs K hK lv st h hS
  unfold e_lst at hS
  split at hS
  · rename_i x r
    obtain ⟨l', hS, hsub⟩ := j_put_inv hS
    intro p l e R s m args below meth c D T A N ad0 mc ms hX ad H locs cells slots ls hI
    obtain ⟨hx, hb, hml, hown, hts, hret, hlk, hKk, hst, hfr, hlo, hmc, hms, hA, hSx, htb, hnm, hsc⟩ := id hX
    obtain ⟨hc, hs, hl, hP, hD, hSS, hN, hAl⟩ := id hI
    refine lv_lstore hx hb hd hl hi (congrArg _ (j_l_k2 ad i lv)) (fun ls' hl' => ?_)
    exact hK _ _ _ _ hS p l e R s m args below meth c D T A N ad0 mc ms hX ad H locs cells slots ls' (j_I.put hI (j_has_sub (v := .long x) hl' hsub))
  · exact hS.elim
def e_dld (i nx : Nat) : j_T := fun _ _ _ K lv st h => match j_look i lv with
  | some (.double x) => K nx lv (.double x :: st) h
  | _ => False
theorem s_dload_n {M : j_M} {pc : Nat} {k : Fin 4} {i : Nat} (hd : decode (jm_b M) pc = .ok (.dload_n k, 1)) (hk : (k : Nat) = i) : Snd M pc (e_dld i (pc + 1)) := by
  intro Φ bc bs K hK lv st h hS
  unfold e_dld at hS
  split at hS
  · rename_i x hg
    intro p l e R s m args below meth c D T A N ad0 mc ms hX ad H locs cells slots ls hI
    obtain ⟨hx, hb, hml, hown, hts, hret, hlk, hKk, hst, hfr, hlo, hmc, hms, hA, hSx, htb, hnm, hsc⟩ := id hX
    obtain ⟨hc, hs, hl, hP, hD, hSS, hN, hAl⟩ := id hI
    exact lv_dload_n hx hb hd hk (j_lget hl hg) (hK _ _ _ _ hS p l e R s m args below meth c D T A N ad0 mc ms hX ad H locs cells slots ls hI)
  · exact hS.elim
theorem s_dload {M : j_M} {pc : Nat} {i : Nat} (hd : decode (jm_b M) pc = .ok (.dload i, 2)) : Snd M pc (e_dld i (pc + 2)) := by
  intro Φ bc bs K hK lv st h hS
  unfold e_dld at hS
  split at hS
  · rename_i x hg
    intro p l e R s m args below meth c D T A N ad0 mc ms hX ad H locs cells slots ls hI
    obtain ⟨hx, hb, hml, hown, hts, hret, hlk, hKk, hst, hfr, hlo, hmc, hms, hA, hSx, htb, hnm, hsc⟩ := id hX
    obtain ⟨hc, hs, hl, hP, hD, hSS, hN, hAl⟩ := id hI
    exact lv_dload hx hb hd (j_lget hl hg) (hK _ _ _ _ hS p l e R s m args below meth c D T A N ad0 mc ms hX ad H locs cells slots ls hI)
  · exact hS.elim
def e_dst (i nx : Nat) : j_T := fun _ _ _ K lv st h => match st with
  | .double x :: r => j_put (j_k2 i) i (.double x) lv (fun l' => K nx l' r h)
  | _ => False
theorem s_dstore_n {M : j_M} {pc : Nat} {k : Fin 4} {i : Nat} (hd : decode (jm_b M) pc = .ok (.dstore_n k, 1)) (hk : (k : Nat) = i) (hi : i + 1 < jm_n M) : Snd M pc (e_dst i (pc + 1)) := by
  intro Φ bc bs K hK lv st h hS
  unfold e_dst at hS
  split at hS
  · rename_i x r
    obtain ⟨l', hS, hsub⟩ := j_put_inv hS
    intro p l e R s m args below meth c D T A N ad0 mc ms hX ad H locs cells slots ls hI
    obtain ⟨hx, hb, hml, hown, hts, hret, hlk, hKk, hst, hfr, hlo, hmc, hms, hA, hSx, htb, hnm, hsc⟩ := id hX
    obtain ⟨hc, hs, hl, hP, hD, hSS, hN, hAl⟩ := id hI
    refine lv_dstore_n hx hb hd hk hl hi (congrArg _ (j_l_k2 ad i lv)) (fun ls' hl' => ?_)
    exact hK _ _ _ _ hS p l e R s m args below meth c D T A N ad0 mc ms hX ad H locs cells slots ls' (j_I.put hI (j_has_sub (v := .double x) hl' hsub))
  · exact hS.elim
theorem s_dstore {M : j_M} {pc : Nat} {i : Nat} (hd : decode (jm_b M) pc = .ok (.dstore i, 2)) (hi : i + 1 < jm_n M) : Snd M pc (e_dst i (pc + 2)) := by
  intro Φ bc bs K hK lv st h hS
  unfold e_dst at hS
  split at hS
  · rename_i x r
    obtain ⟨l', hS, hsub⟩ := j_put_inv hS
    intro p l e R s m args below meth c D T A N ad0 mc ms hX ad H locs cells slots ls hI
    obtain ⟨hx, hb, hml, hown, hts, hret, hlk, hKk, hst, hfr, hlo, hmc, hms, hA, hSx, htb, hnm, hsc⟩ := id hX
    obtain ⟨hc, hs, hl, hP, hD, hSS, hN, hAl⟩ := id hI
    refine lv_dstore hx hb hd hl hi (congrArg _ (j_l_k2 ad i lv)) (fun ls' hl' => ?_)
    exact hK _ _ _ _ hS p l e R s m args below meth c D T A N ad0 mc ms hX ad H locs cells slots ls' (j_I.put hI (j_has_sub (v := .double x) hl' hsub))
  · exact hS.elim
def e_ald (i nx : Nat) : j_T := fun _ _ _ K lv st h => match j_look i lv with
  | some (.ref x) => K nx lv (.ref x :: st) h
  | _ => False
theorem s_aload_n {M : j_M} {pc : Nat} {k : Fin 4} {i : Nat} (hd : decode (jm_b M) pc = .ok (.aload_n k, 1)) (hk : (k : Nat) = i) : Snd M pc (e_ald i (pc + 1)) := by
  intro Φ bc bs K hK lv st h hS
  unfold e_ald at hS
  split at hS
  · rename_i x hg
    intro p l e R s m args below meth c D T A N ad0 mc ms hX ad H locs cells slots ls hI
    obtain ⟨hx, hb, hml, hown, hts, hret, hlk, hKk, hst, hfr, hlo, hmc, hms, hA, hSx, htb, hnm, hsc⟩ := id hX
    obtain ⟨hc, hs, hl, hP, hD, hSS, hN, hAl⟩ := id hI
    exact lv_aload_n hx hb hd hk (j_lget hl hg) (hK _ _ _ _ hS p l e R s m args below meth c D T A N ad0 mc ms hX ad H locs cells slots ls hI)
  · exact hS.elim
theorem s_aload {M : j_M} {pc : Nat} {i : Nat} (hd : decode (jm_b M) pc = .ok (.aload i, 2)) : Snd M pc (e_ald i (pc + 2)) := by
  intro Φ bc bs K hK lv st h hS
  unfold e_ald at hS
  split at hS
  · rename_i x hg
    intro p l e R s m args below meth c D T A N ad0 mc ms hX ad H locs cells slots ls hI
    obtain ⟨hx, hb, hml, hown, hts, hret, hlk, hKk, hst, hfr, hlo, hmc, hms, hA, hSx, htb, hnm, hsc⟩ := id hX
    obtain ⟨hc, hs, hl, hP, hD, hSS, hN, hAl⟩ := id hI
    exact lv_aload hx hb hd (j_lget hl hg) (hK _ _ _ _ hS p l e R s m args below meth c D T A N ad0 mc ms hX ad H locs cells slots ls hI)
  · exact hS.elim
def e_ast (i nx : Nat) : j_T := fun _ _ _ K lv st h => match st with
  | .ref x :: r => j_put (j_k1 i) i (.ref x) lv (fun l' => K nx l' r h)
  | _ => False
theorem s_astore_n {M : j_M} {pc : Nat} {k : Fin 4} {i : Nat} (hd : decode (jm_b M) pc = .ok (.astore_n k, 1)) (hk : (k : Nat) = i) (hi : i < jm_n M) : Snd M pc (e_ast i (pc + 1)) := by
  intro Φ bc bs K hK lv st h hS
  unfold e_ast at hS
  split at hS
  · rename_i x r
    obtain ⟨l', hS, hsub⟩ := j_put_inv hS
    intro p l e R s m args below meth c D T A N ad0 mc ms hX ad H locs cells slots ls hI
    obtain ⟨hx, hb, hml, hown, hts, hret, hlk, hKk, hst, hfr, hlo, hmc, hms, hA, hSx, htb, hnm, hsc⟩ := id hX
    obtain ⟨hc, hs, hl, hP, hD, hSS, hN, hAl⟩ := id hI
    refine lv_astore_n hx hb hd hk hl hi (congrArg _ (j_l_k1 ad i lv)) (fun ls' hl' => ?_)
    exact hK _ _ _ _ hS p l e R s m args below meth c D T A N ad0 mc ms hX ad H locs cells slots ls' (j_I.put hI (j_has_sub (v := .ref x) hl' hsub))
  · exact hS.elim
theorem s_astore {M : j_M} {pc : Nat} {i : Nat} (hd : decode (jm_b M) pc = .ok (.astore i, 2)) (hi : i < jm_n M) : Snd M pc (e_ast i (pc + 2)) := by
  intro Φ bc bs K hK lv st h hS
  unfold e_ast at hS
  split at hS
  · rename_i x r
    obtain ⟨l', hS, hsub⟩ := j_put_inv hS
    intro p l e R s m args below meth c D T A N ad0 mc ms hX ad H locs cells slots ls hI
    obtain ⟨hx, hb, hml, hown, hts, hret, hlk, hKk, hst, hfr, hlo, hmc, hms, hA, hSx, htb, hnm, hsc⟩ := id hX
    obtain ⟨hc, hs, hl, hP, hD, hSS, hN, hAl⟩ := id hI
    refine lv_astore hx hb hd hl hi (congrArg _ (j_l_k1 ad i lv)) (fun ls' hl' => ?_)
    exact hK _ _ _ _ hS p l e R s m args below meth c D T A N ad0 mc ms hX ad H locs cells slots ls' (j_I.put hI (j_has_sub (v := .ref x) hl' hsub))
  · exact hS.elim
def e_iinc (i : Nat) (d : Int32) (nx : Nat) : j_T := fun _ _ _ K lv st h => match j_look i lv with
  | some (.int x) => j_put (j_k1 i) i (.int (x + d)) lv (fun l' => K nx l' st h)
  | _ => False
theorem s_iinc {M : j_M} {pc : Nat} {i : Nat} {n : Int} {d : Int32} (hd : decode (jm_b M) pc = .ok (.iinc i n, 3)) (hn : Int32.ofInt n = d) (hi : i < jm_n M) : Snd M pc (e_iinc i d (pc + 3)) := by
  intro Φ bc bs K hK lv st h hS
  unfold e_iinc at hS
  split at hS
  · rename_i x hg
    obtain ⟨l', hS, hsub⟩ := j_put_inv hS
    intro p l e R s m args below meth c D T A N ad0 mc ms hX ad H locs cells slots ls hI
    obtain ⟨hx, hb, hml, hown, hts, hret, hlk, hKk, hst, hfr, hlo, hmc, hms, hA, hSx, htb, hnm, hsc⟩ := id hX
    obtain ⟨hc, hs, hl, hP, hD, hSS, hN, hAl⟩ := id hI
    obtain ⟨k, hk⟩ := List.getElem?_of_mem (List.mem_map.mpr ⟨(i, .int x), j_look_in _ hg, rfl⟩ : (i, j_v ad (.int x)) ∈ j_l ad lv)
    refine lv_iinc hx hb hd hl hk (by rw [hn]) hi (congrArg _ (j_l_k1 ad i lv)) (fun ls' hl' => ?_)
    exact hK _ _ _ _ hS p l e R s m args below meth c D T A N ad0 mc ms hX ad H locs cells slots ls' (j_I.put hI (j_has_sub (v := .int (x + d)) hl' hsub))
  · exact hS.elim
def e_ifeq (tgt nx : Nat) : j_T := fun _ _ _ K lv st h => match st with
  | .int x :: r => (x = 0 → K tgt lv r h) ∧ (¬ x = 0 → K nx lv r h)
  | _ => False
theorem s_ifeq {M : j_M} {pc : Nat} {off : Int} {tgt : Nat} (hd : decode (jm_b M) pc = .ok (.ifCond .eq off, 3)) (ht : (pc : Int) + off = (tgt : Int)) : Snd M pc (e_ifeq tgt (pc + 3)) := by
  intro Φ bc bs K hK lv st h hS
  unfold e_ifeq at hS
  split at hS
  · obtain ⟨hS1, hS2⟩ := hS
    intro p l e R s m args below meth c D T A N ad0 mc ms hX ad H locs cells slots ls hI
    obtain ⟨hx, hb, hml, hown, hts, hret, hlk, hKk, hst, hfr, hlo, hmc, hms, hA, hSx, htb, hnm, hsc⟩ := id hX
    obtain ⟨hc, hs, hl, hP, hD, hSS, hN, hAl⟩ := id hI
    exact lv_if_eq hx hb hd ht (fun h9 => hK _ _ _ _ (hS1 h9) p l e R s m args below meth c D T A N ad0 mc ms hX ad H locs cells slots ls hI) (fun h9 => hK _ _ _ _ (hS2 h9) p l e R s m args below meth c D T A N ad0 mc ms hX ad H locs cells slots ls hI)
  · exact hS.elim
def e_iceq (tgt nx : Nat) : j_T := fun _ _ _ K lv st h => match st with
  | .int y :: .int x :: r => (x = y → K tgt lv r h) ∧ (¬ x = y → K nx lv r h)
  | _ => False
theorem s_iceq {M : j_M} {pc : Nat} {off : Int} {tgt : Nat} (hd : decode (jm_b M) pc = .ok (.if_icmp .eq off, 3)) (ht : (pc : Int) + off = (tgt : Int)) : Snd M pc (e_iceq tgt (pc + 3)) := by
  intro Φ bc bs K hK lv st h hS
  unfold e_iceq at hS
  split at hS
  · obtain ⟨hS1, hS2⟩ := hS
    intro p l e R s m args below meth c D T A N ad0 mc ms hX ad H locs cells slots ls hI
    obtain ⟨hx, hb, hml, hown, hts, hret, hlk, hKk, hst, hfr, hlo, hmc, hms, hA, hSx, htb, hnm, hsc⟩ := id hX
    obtain ⟨hc, hs, hl, hP, hD, hSS, hN, hAl⟩ := id hI
    exact lv_icmp_eq hx hb hd ht (fun h9 => hK _ _ _ _ (hS1 h9) p l e R s m args below meth c D T A N ad0 mc ms hX ad H locs cells slots ls hI) (fun h9 => hK _ _ _ _ (hS2 h9) p l e R s m args below meth c D T A N ad0 mc ms hX ad H locs cells slots ls hI)
  · exact hS.elim
def e_ifne (tgt nx : Nat) : j_T := fun _ _ _ K lv st h => match st with
  | .int x :: r => (¬ x = 0 → K tgt lv r h) ∧ (x = 0 → K nx lv r h)
  | _ => False
theorem s_ifne {M : j_M} {pc : Nat} {off : Int} {tgt : Nat} (hd : decode (jm_b M) pc = .ok (.ifCond .ne off, 3)) (ht : (pc : Int) + off = (tgt : Int)) : Snd M pc (e_ifne tgt (pc + 3)) := by
  intro Φ bc bs K hK lv st h hS
  unfold e_ifne at hS
  split at hS
  · obtain ⟨hS1, hS2⟩ := hS
    intro p l e R s m args below meth c D T A N ad0 mc ms hX ad H locs cells slots ls hI
    obtain ⟨hx, hb, hml, hown, hts, hret, hlk, hKk, hst, hfr, hlo, hmc, hms, hA, hSx, htb, hnm, hsc⟩ := id hX
    obtain ⟨hc, hs, hl, hP, hD, hSS, hN, hAl⟩ := id hI
    exact lv_if_ne hx hb hd ht (fun h9 => hK _ _ _ _ (hS1 h9) p l e R s m args below meth c D T A N ad0 mc ms hX ad H locs cells slots ls hI) (fun h9 => hK _ _ _ _ (hS2 h9) p l e R s m args below meth c D T A N ad0 mc ms hX ad H locs cells slots ls hI)
  · exact hS.elim
def e_icne (tgt nx : Nat) : j_T := fun _ _ _ K lv st h => match st with
  | .int y :: .int x :: r => (¬ x = y → K tgt lv r h) ∧ (x = y → K nx lv r h)
  | _ => False
theorem s_icne {M : j_M} {pc : Nat} {off : Int} {tgt : Nat} (hd : decode (jm_b M) pc = .ok (.if_icmp .ne off, 3)) (ht : (pc : Int) + off = (tgt : Int)) : Snd M pc (e_icne tgt (pc + 3)) := by
  intro Φ bc bs K hK lv st h hS
  unfold e_icne at hS
  split at hS
  · obtain ⟨hS1, hS2⟩ := hS
    intro p l e R s m args below meth c D T A N ad0 mc ms hX ad H locs cells slots ls hI
    obtain ⟨hx, hb, hml, hown, hts, hret, hlk, hKk, hst, hfr, hlo, hmc, hms, hA, hSx, htb, hnm, hsc⟩ := id hX
    obtain ⟨hc, hs, hl, hP, hD, hSS, hN, hAl⟩ := id hI
    exact lv_icmp_ne hx hb hd ht (fun h9 => hK _ _ _ _ (hS1 h9) p l e R s m args below meth c D T A N ad0 mc ms hX ad H locs cells slots ls hI) (fun h9 => hK _ _ _ _ (hS2 h9) p l e R s m args below meth c D T A N ad0 mc ms hX ad H locs cells slots ls hI)
  · exact hS.elim
def e_iflt (tgt nx : Nat) : j_T := fun _ _ _ K lv st h => match st with
  | .int x :: r => (x < 0 → K tgt lv r h) ∧ (¬ x < 0 → K nx lv r h)
  | _ => False
theorem s_iflt {M : j_M} {pc : Nat} {off : Int} {tgt : Nat} (hd : decode (jm_b M) pc = .ok (.ifCond .lt off, 3)) (ht : (pc : Int) + off = (tgt : Int)) : Snd M pc (e_iflt tgt (pc + 3)) := by
  intro Φ bc bs K hK lv st h hS
  unfold e_iflt at hS
  split at hS
  · obtain ⟨hS1, hS2⟩ := hS
    intro p l e R s m args below meth c D T A N ad0 mc ms hX ad H locs cells slots ls hI
    obtain ⟨hx, hb, hml, hown, hts, hret, hlk, hKk, hst, hfr, hlo, hmc, hms, hA, hSx, htb, hnm, hsc⟩ := id hX
    obtain ⟨hc, hs, hl, hP, hD, hSS, hN, hAl⟩ := id hI
    exact lv_if_lt hx hb hd ht (fun h9 => hK _ _ _ _ (hS1 h9) p l e R s m args below meth c D T A N ad0 mc ms hX ad H locs cells slots ls hI) (fun h9 => hK _ _ _ _ (hS2 h9) p l e R s m args below meth c D T A N ad0 mc ms hX ad H locs cells slots ls hI)
  · exact hS.elim
def e_iclt (tgt nx : Nat) : j_T := fun _ _ _ K lv st h => match st with
  | .int y :: .int x :: r => (x < y → K tgt lv r h) ∧ (¬ x < y → K nx lv r h)
  | _ => False
theorem s_iclt {M : j_M} {pc : Nat} {off : Int} {tgt : Nat} (hd : decode (jm_b M) pc = .ok (.if_icmp .lt off, 3)) (ht : (pc : Int) + off = (tgt : Int)) : Snd M pc (e_iclt tgt (pc + 3)) := by
  intro Φ bc bs K hK lv st h hS
  unfold e_iclt at hS
  split at hS
  · obtain ⟨hS1, hS2⟩ := hS
    intro p l e R s m args below meth c D T A N ad0 mc ms hX ad H locs cells slots ls hI
    obtain ⟨hx, hb, hml, hown, hts, hret, hlk, hKk, hst, hfr, hlo, hmc, hms, hA, hSx, htb, hnm, hsc⟩ := id hX
    obtain ⟨hc, hs, hl, hP, hD, hSS, hN, hAl⟩ := id hI
    exact lv_icmp_lt hx hb hd ht (fun h9 => hK _ _ _ _ (hS1 h9) p l e R s m args below meth c D T A N ad0 mc ms hX ad H locs cells slots ls hI) (fun h9 => hK _ _ _ _ (hS2 h9) p l e R s m args below meth c D T A N ad0 mc ms hX ad H locs cells slots ls hI)
  · exact hS.elim
def e_ifge (tgt nx : Nat) : j_T := fun _ _ _ K lv st h => match st with
  | .int x :: r => (0 ≤ x → K tgt lv r h) ∧ (¬ 0 ≤ x → K nx lv r h)
  | _ => False
theorem s_ifge {M : j_M} {pc : Nat} {off : Int} {tgt : Nat} (hd : decode (jm_b M) pc = .ok (.ifCond .ge off, 3)) (ht : (pc : Int) + off = (tgt : Int)) : Snd M pc (e_ifge tgt (pc + 3)) := by
  intro Φ bc bs K hK lv st h hS
  unfold e_ifge at hS
  split at hS
  · obtain ⟨hS1, hS2⟩ := hS
    intro p l e R s m args below meth c D T A N ad0 mc ms hX ad H locs cells slots ls hI
    obtain ⟨hx, hb, hml, hown, hts, hret, hlk, hKk, hst, hfr, hlo, hmc, hms, hA, hSx, htb, hnm, hsc⟩ := id hX
    obtain ⟨hc, hs, hl, hP, hD, hSS, hN, hAl⟩ := id hI
    exact lv_if_ge hx hb hd ht (fun h9 => hK _ _ _ _ (hS1 h9) p l e R s m args below meth c D T A N ad0 mc ms hX ad H locs cells slots ls hI) (fun h9 => hK _ _ _ _ (hS2 h9) p l e R s m args below meth c D T A N ad0 mc ms hX ad H locs cells slots ls hI)
  · exact hS.elim
def e_icge (tgt nx : Nat) : j_T := fun _ _ _ K lv st h => match st with
  | .int y :: .int x :: r => (y ≤ x → K tgt lv r h) ∧ (¬ y ≤ x → K nx lv r h)
  | _ => False
theorem s_icge {M : j_M} {pc : Nat} {off : Int} {tgt : Nat} (hd : decode (jm_b M) pc = .ok (.if_icmp .ge off, 3)) (ht : (pc : Int) + off = (tgt : Int)) : Snd M pc (e_icge tgt (pc + 3)) := by
  intro Φ bc bs K hK lv st h hS
  unfold e_icge at hS
  split at hS
  · obtain ⟨hS1, hS2⟩ := hS
    intro p l e R s m args below meth c D T A N ad0 mc ms hX ad H locs cells slots ls hI
    obtain ⟨hx, hb, hml, hown, hts, hret, hlk, hKk, hst, hfr, hlo, hmc, hms, hA, hSx, htb, hnm, hsc⟩ := id hX
    obtain ⟨hc, hs, hl, hP, hD, hSS, hN, hAl⟩ := id hI
    exact lv_icmp_ge hx hb hd ht (fun h9 => hK _ _ _ _ (hS1 h9) p l e R s m args below meth c D T A N ad0 mc ms hX ad H locs cells slots ls hI) (fun h9 => hK _ _ _ _ (hS2 h9) p l e R s m args below meth c D T A N ad0 mc ms hX ad H locs cells slots ls hI)
  · exact hS.elim
def e_ifgt (tgt nx : Nat) : j_T := fun _ _ _ K lv st h => match st with
  | .int x :: r => (0 < x → K tgt lv r h) ∧ (¬ 0 < x → K nx lv r h)
  | _ => False
theorem s_ifgt {M : j_M} {pc : Nat} {off : Int} {tgt : Nat} (hd : decode (jm_b M) pc = .ok (.ifCond .gt off, 3)) (ht : (pc : Int) + off = (tgt : Int)) : Snd M pc (e_ifgt tgt (pc + 3)) := by
  intro Φ bc bs K hK lv st h hS
  unfold e_ifgt at hS
  split at hS
  · obtain ⟨hS1, hS2⟩ := hS
    intro p l e R s m args below meth c D T A N ad0 mc ms hX ad H locs cells slots ls hI
    obtain ⟨hx, hb, hml, hown, hts, hret, hlk, hKk, hst, hfr, hlo, hmc, hms, hA, hSx, htb, hnm, hsc⟩ := id hX
    obtain ⟨hc, hs, hl, hP, hD, hSS, hN, hAl⟩ := id hI
    exact lv_if_gt hx hb hd ht (fun h9 => hK _ _ _ _ (hS1 h9) p l e R s m args below meth c D T A N ad0 mc ms hX ad H locs cells slots ls hI) (fun h9 => hK _ _ _ _ (hS2 h9) p l e R s m args below meth c D T A N ad0 mc ms hX ad H locs cells slots ls hI)
  · exact hS.elim
def e_icgt (tgt nx : Nat) : j_T := fun _ _ _ K lv st h => match st with
  | .int y :: .int x :: r => (y < x → K tgt lv r h) ∧ (¬ y < x → K nx lv r h)
  | _ => False
theorem s_icgt {M : j_M} {pc : Nat} {off : Int} {tgt : Nat} (hd : decode (jm_b M) pc = .ok (.if_icmp .gt off, 3)) (ht : (pc : Int) + off = (tgt : Int)) : Snd M pc (e_icgt tgt (pc + 3)) := by
  intro Φ bc bs K hK lv st h hS
  unfold e_icgt at hS
  split at hS
  · obtain ⟨hS1, hS2⟩ := hS
    intro p l e R s m args below meth c D T A N ad0 mc ms hX ad H locs cells slots ls hI
    obtain ⟨hx, hb, hml, hown, hts, hret, hlk, hKk, hst, hfr, hlo, hmc, hms, hA, hSx, htb, hnm, hsc⟩ := id hX
    obtain ⟨hc, hs, hl, hP, hD, hSS, hN, hAl⟩ := id hI
    exact lv_icmp_gt hx hb hd ht (fun h9 => hK _ _ _ _ (hS1 h9) p l e R s m args below meth c D T A N ad0 mc ms hX ad H locs cells slots ls hI) (fun h9 => hK _ _ _ _ (hS2 h9) p l e R s m args below meth c D T A N ad0 mc ms hX ad H locs cells slots ls hI)
  · exact hS.elim
def e_ifle (tgt nx : Nat) : j_T := fun _ _ _ K lv st h => match st with
  | .int x :: r => (x ≤ 0 → K tgt lv r h) ∧ (¬ x ≤ 0 → K nx lv r h)
  | _ => False
theorem s_ifle {M : j_M} {pc : Nat} {off : Int} {tgt : Nat} (hd : decode (jm_b M) pc = .ok (.ifCond .le off, 3)) (ht : (pc : Int) + off = (tgt : Int)) : Snd M pc (e_ifle tgt (pc + 3)) := by
  intro Φ bc bs K hK lv st h hS
  unfold e_ifle at hS
  split at hS
  · obtain ⟨hS1, hS2⟩ := hS
    intro p l e R s m args below meth c D T A N ad0 mc ms hX ad H locs cells slots ls hI
    obtain ⟨hx, hb, hml, hown, hts, hret, hlk, hKk, hst, hfr, hlo, hmc, hms, hA, hSx, htb, hnm, hsc⟩ := id hX
    obtain ⟨hc, hs, hl, hP, hD, hSS, hN, hAl⟩ := id hI
    exact lv_if_le hx hb hd ht (fun h9 => hK _ _ _ _ (hS1 h9) p l e R s m args below meth c D T A N ad0 mc ms hX ad H locs cells slots ls hI) (fun h9 => hK _ _ _ _ (hS2 h9) p l e R s m args below meth c D T A N ad0 mc ms hX ad H locs cells slots ls hI)
  · exact hS.elim
def e_icle (tgt nx : Nat) : j_T := fun _ _ _ K lv st h => match st with
  | .int y :: .int x :: r => (x ≤ y → K tgt lv r h) ∧ (¬ x ≤ y → K nx lv r h)
  | _ => False
theorem s_icle {M : j_M} {pc : Nat} {off : Int} {tgt : Nat} (hd : decode (jm_b M) pc = .ok (.if_icmp .le off, 3)) (ht : (pc : Int) + off = (tgt : Int)) : Snd M pc (e_icle tgt (pc + 3)) := by
  intro Φ bc bs K hK lv st h hS
  unfold e_icle at hS
  split at hS
  · obtain ⟨hS1, hS2⟩ := hS
    intro p l e R s m args below meth c D T A N ad0 mc ms hX ad H locs cells slots ls hI
    obtain ⟨hx, hb, hml, hown, hts, hret, hlk, hKk, hst, hfr, hlo, hmc, hms, hA, hSx, htb, hnm, hsc⟩ := id hX
    obtain ⟨hc, hs, hl, hP, hD, hSS, hN, hAl⟩ := id hI
    exact lv_icmp_le hx hb hd ht (fun h9 => hK _ _ _ _ (hS1 h9) p l e R s m args below meth c D T A N ad0 mc ms hX ad H locs cells slots ls hI) (fun h9 => hK _ _ _ _ (hS2 h9) p l e R s m args below meth c D T A N ad0 mc ms hX ad H locs cells slots ls hI)
  · exact hS.elim
def e_goto (tgt : Nat) : j_T := fun _ _ _ K lv st h => K tgt lv st h
theorem s_goto {M : j_M} {pc : Nat} {off : Int} {tgt : Nat} (hd : decode (jm_b M) pc = .ok (.goto off, 3)) (ht : (pc : Int) + off = (tgt : Int)) : Snd M pc (e_goto tgt) := by
  intro Φ bc bs K hK lv st h hS
  intro p l e R s m args below meth c D T A N ad0 mc ms hX ad H locs cells slots ls hI
  obtain ⟨hx, hb, hml, hown, hts, hret, hlk, hKk, hst, hfr, hlo, hmc, hms, hA, hSx, htb, hnm, hsc⟩ := id hX
  obtain ⟨hc, hs, hl, hP, hD, hSS, hN, hAl⟩ := id hI
  exact lv_goto hx hb hd ht (hK _ _ _ _ hS p l e R s m args below meth c D T A N ad0 mc ms hX ad H locs cells slots ls hI)
def e_getf (ci k nx : Nat) : j_T := fun _ _ _ K lv st h => match st with
  | .ref i :: r => j_obj h i ci (fun fs => match j_nth fs k with
    | some v => K nx lv (v :: r) h
    | none => False)
  | _ => False
theorem s_getf {M : j_M} {pc ci k idx : Nat} {C : String} {F : u_T} {n : Nat} (hcl : vwCl[ci]? = some (C, F, n)) (hin : ∀ w ∈ u_ws C F n, w ∈ j_ws) (hk : k < n) (hw : Cond.fieldLink (jm_o M) idx (F k).1 (F k).2.1 (F k).2.2.1 ∈ j_ws) (hd : decode (jm_b M) pc = .ok (.getfield idx, 3)) : Snd M pc (e_getf ci k (pc + 3)) := by
  intro Φ bc bs K hK lv st h hS
  unfold e_getf at hS
  split at hS
  · rename_i i r
    obtain ⟨fs, hfs, hS⟩ := j_obj_inv hS
    rw [j_nth_eq] at hS
    split at hS
    · rename_i v hv
      intro p l e R s m args below meth c D T A N ad0 mc ms hX ad H locs cells slots ls hI
      obtain ⟨hx, hb, hml, hown, hts, hret, hlk, hKk, hst, hfr, hlo, hmc, hms, hA, hSx, htb, hnm, hsc⟩ := id hX
      obtain ⟨hc, hs, hl, hP, hD, hSS, hN, hAl⟩ := id hI
      exact va_get hx hb hts hin hown hKk hP i (j_w_get hfs) hcl k hk (hts _ hw) (fun _ h9 => h9) (by rw [List.getElem?_map, hv]; rfl) hd (hK _ _ _ _ hS p l e R s m args below meth c D T A N ad0 mc ms hX ad H locs cells slots ls hI)
    · exact hS.elim
  · exact hS.elim
def e_puti (ci k nx : Nat) : j_T := fun _ _ _ K lv st h => match st with
  | .int x :: .ref i :: r => j_obj h i ci (fun fs => match Nat.blt k fs.length with
    | true => j_setk fs k (.int x) (fun fs' => j_setk h i (.inr (ci, fs')) (fun h' => K nx lv r h'))
    | false => False)
  | _ => False
theorem s_puti {M : j_M} {pc ci k idx : Nat} {C : String} {F : u_T} {n : Nat} {ty : Nat → FieldType} (hcl : vwCl[ci]? = some (C, F, n)) (hin : ∀ w ∈ u_ws C F n, w ∈ j_ws) (hty : ∀ k, k < n → parseFieldDescriptor (F k).2.2.1 = some (ty k)) (hnm9 : ∀ a, a < n → ∀ b, b < n → a ≠ b → (F a).2.1 ≠ (F b).2.1) (hk : k < n) (hw : Cond.fieldLink (jm_o M) idx (F k).1 (F k).2.1 (F k).2.2.1 ∈ j_ws) (hfin : (F k).2.2.2 = false) (hdi : parseFieldDescriptor (F k).2.2.1 = some .int) (hd : decode (jm_b M) pc = .ok (.putfield idx, 3)) : Snd M pc (e_puti ci k (pc + 3)) := by
  intro Φ bc bs K hK lv st h hS
  unfold e_puti at hS
  split at hS
  · rename_i x i r
    obtain ⟨fs, hfs, hS⟩ := j_obj_inv hS
    split at hS
    · rename_i hkl
      have hkl : k < fs.length := by simpa using hkl
      rw [j_setk_eq, j_setk_eq] at hS
      intro p l e R s m args below meth c D T A N ad0 mc ms hX ad H locs cells slots ls hI
      obtain ⟨hx, hb, hml, hown, hts, hret, hlk, hKk, hst, hfr, hlo, hmc, hms, hA, hSx, htb, hnm, hsc⟩ := id hX
      obtain ⟨hc, hs, hl, hP, hD, hSS, hN, hAl⟩ := id hI
      refine va_put (v := .int x) (ty := .int) hx hb hts hin ty hty hnm9 hown hKk hP hD hSS i (j_w_get hfs) hcl k hk (hts _ hw) (fun _ h9 => h9) hfin hdi rfl rfl (by rw [List.length_map]; exact hkl) hd (fun H1 locs1 hP1 hD1 hS1 => ?_)
      exact hK _ _ _ _ hS p l e R s m args below meth c D T A N ad0 mc ms hX ad H1 locs1 cells slots ls (j_I.world hI (c := .inr (ci, fs.set k (.int x))) (by show _ = (ad i, Sum.inr (ci, (fs.set k (.int x)).map (j_v ad))); rw [List.map_set]; rfl) hP1 hD1 hS1)
    · exact hS.elim
  · exact hS.elim
/-- a reference into a final field, in a constructor -/
def e_putq (ci k nx : Nat) : j_T := fun _ _ _ K lv st h => match st with
  | .ref x :: .ref i :: r => j_obj h i ci (fun fs => match Nat.blt k fs.length with
    | true => j_setk fs k (.ref x) (fun fs' => j_setk h i (.inr (ci, fs')) (fun h' => K nx lv r h'))
    | false => False)
  | _ => False
theorem s_putq {M : j_M} {pc ci k idx : Nat} {C : String} {F : u_T} {n : Nat} {ty : Nat → FieldType} {fty : FieldType} (hcl : vwCl[ci]? = some (C, F, n)) (hin : ∀ w ∈ u_ws C F n, w ∈ j_ws) (hty : ∀ k, k < n → parseFieldDescriptor (F k).2.2.1 = some (ty k)) (hnm9 : ∀ a, a < n → ∀ b, b < n → a ≠ b → (F a).2.1 ≠ (F b).2.1) (hk : k < n) (hw : Cond.fieldLink (jm_o M) idx (F k).1 (F k).2.1 (F k).2.2.1 ∈ j_ws) (hfin : (F k).2.2.2 = true) (hinit : (jm_y M).name = "<init>") (hdecl : (F k).1 = jm_o M) (hdi : parseFieldDescriptor (F k).2.2.1 = some fty) (hna : ∀ a, narrow fty (.ref a) = .ref a) (hfi : ∀ a, fits fty (.ref a) = true) (hd : decode (jm_b M) pc = .ok (.putfield idx, 3)) : Snd M pc (e_putq ci k (pc + 3)) := by
  intro Φ bc bs K hK lv st h hS
  unfold e_putq at hS
  split at hS
  · rename_i x i r
    obtain ⟨fs, hfs, hS⟩ := j_obj_inv hS
    split at hS
    · rename_i hkl
      have hkl : k < fs.length := by simpa using hkl
      rw [j_setk_eq, j_setk_eq] at hS
      intro p l e R s m args below meth c D T A N ad0 mc ms hX ad H locs cells slots ls hI
      obtain ⟨hx, hb, hml, hown, hts, hret, hlk, hKk, hst, hfr, hlo, hmc, hms, hA, hSx, htb, hnm, hsc⟩ := id hX
      obtain ⟨hc, hs, hl, hP, hD, hSS, hN, hAl⟩ := id hI
      refine va_putF (v := .ref (ad x)) (ty := fty) hx hb hts hin ty hty hnm9 hown hKk hP hD hSS i (j_w_get hfs) hcl k hk (hts _ hw) (fun _ h9 => h9) hfin (hnm.trans hinit) hdecl hdi (hna _) (hfi _) (by rw [List.length_map]; exact hkl) hd (fun H1 locs1 hP1 hD1 hS1 => ?_)
      exact hK _ _ _ _ hS p l e R s m args below meth c D T A N ad0 mc ms hX ad H1 locs1 cells slots ls (j_I.world hI (c := .inr (ci, fs.set k (.ref x))) (by show _ = (ad i, Sum.inr (ci, (fs.set k (.ref x)).map (j_v ad))); rw [List.map_set]; rfl) hP1 hD1 hS1)
    · exact hS.elim
  · exact hS.elim
def e_iald (nx : Nat) : j_T := fun _ _ _ K lv st h => match st with
  | .int x :: .ref i :: r => j_ia 0 h i (fun n f => vp_in x n ∧ K nx lv (.int (f x.toNatClampNeg) :: r) h)
  | _ => False
theorem s_iald {M : j_M} {pc : Nat} (hd : decode (jm_b M) pc = .ok (.iaload, 1)) : Snd M pc (e_iald (pc + 1)) := by
  intro Φ bc bs K hK lv st h hS
  unfold e_iald at hS
  split at hS
  · rename_i x i r
    obtain ⟨n, f, hf, hin, hS⟩ := j_ia_inv hS
    intro p l e R s m args below meth c D T A N ad0 mc ms hX ad H locs cells slots ls hI
    obtain ⟨hx, hb, hml, hown, hts, hret, hlk, hKk, hst, hfr, hlo, hmc, hms, hA, hSx, htb, hnm, hsc⟩ := id hX
    obtain ⟨hc, hs, hl, hP, hD, hSS, hN, hAl⟩ := id hI
    exact va_iald hx hb hKk hP i 0 (j_w_get hf) (j_tys_get rfl) hin hd (hK _ _ _ _ hS p l e R s m args below meth c D T A N ad0 mc ms hX ad H locs cells slots ls hI)
  · exact hS.elim
def e_zald (nx : Nat) : j_T := fun _ _ _ K lv st h => match st with
  | .int x :: .ref i :: r => j_ia 2 h i (fun n f => vp_in x n ∧ K nx lv (.int (f x.toNatClampNeg) :: r) h)
  | _ => False
theorem s_zald {M : j_M} {pc : Nat} (hd : decode (jm_b M) pc = .ok (.baload, 1)) : Snd M pc (e_zald (pc + 1)) := by
  intro Φ bc bs K hK lv st h hS
  unfold e_zald at hS
  split at hS
  · rename_i x i r
    obtain ⟨n, f, hf, hin, hS⟩ := j_ia_inv hS
    intro p l e R s m args below meth c D T A N ad0 mc ms hX ad H locs cells slots ls hI
    obtain ⟨hx, hb, hml, hown, hts, hret, hlk, hKk, hst, hfr, hlo, hmc, hms, hA, hSx, htb, hnm, hsc⟩ := id hX
    obtain ⟨hc, hs, hl, hP, hD, hSS, hN, hAl⟩ := id hI
    exact va_zald hx hb hKk hP i 2 (j_w_get hf) (j_tys_get rfl) hin hd (hK _ _ _ _ hS p l e R s m args below meth c D T A N ad0 mc ms hX ad H locs cells slots ls hI)
  · exact hS.elim
def e_aald (t nx : Nat) : j_T := fun _ _ _ K lv st h => match st with
  | .int x :: .ref i :: r => j_qa t h i (fun n f => vp_in x n ∧ (match f x.toNatClampNeg with
    | some a => K nx lv (.ref a :: r) h
    | none => False))
  | _ => False
theorem s_aald {M : j_M} {pc t : Nat} {ty : FieldType} (ht : j_ty[t]? = some ty) (hr : ty.isReference = true) (hd : decode (jm_b M) pc = .ok (.aaload, 1)) : Snd M pc (e_aald t (pc + 1)) := by
  intro Φ bc bs K hK lv st h hS
  unfold e_aald at hS
  split at hS
  · rename_i x i r
    obtain ⟨n, f, hf, hin, hS⟩ := j_qa_inv hS
    split at hS
    · rename_i a ha
      intro p l e R s m args below meth c D T A N ad0 mc ms hX ad H locs cells slots ls hI
      obtain ⟨hx, hb, hml, hown, hts, hret, hlk, hKk, hst, hfr, hlo, hmc, hms, hA, hSx, htb, hnm, hsc⟩ := id hX
      obtain ⟨hc, hs, hl, hP, hD, hSS, hN, hAl⟩ := id hI
      have hlt : x.toNatClampNeg < n := Nat.not_le.mp fun q => hin (Or.inr q)
      refine W.aald (v := .ref (ad a)) (ty := ty) hx hb (hP i _ (j_w_get hf)) ((hKk.2 t _ (j_tys_get ht)).1 n (fun j => va_rf ((f j).map ad))) hr (fun q => by cases q) (by show ¬ (x < 0 ∨ (arrV _ _ _).slots.size ≤ _); rw [arrV_size]; exact hin) (by show (arrV (T t) n (fun j => va_rf ((f j).map ad))).slots[_]? = _; rw [arrV_read _ _ hlt, ha]; rfl) rfl rfl hd ?_
      exact hK _ _ _ _ hS p l e R s m args below meth c D T A N ad0 mc ms hX ad H locs cells slots ls hI
    · exact hS.elim
  · exact hS.elim
def e_iast (nx : Nat) : j_T := fun _ _ _ K lv st h => match st with
  | .int y :: .int x :: .ref i :: r => j_ia 0 h i (fun n f => vp_in x n ∧ j_setk h i (.inl (0, n, .inl (upd f x.toNatClampNeg y))) (fun h' => K nx lv r h'))
  | _ => False
theorem s_iast {M : j_M} {pc : Nat} (hd : decode (jm_b M) pc = .ok (.iastore, 1)) : Snd M pc (e_iast (pc + 1)) := by
  intro Φ bc bs K hK lv st h hS
  unfold e_iast at hS
  split at hS
  · rename_i y x i r
    obtain ⟨n, f, hf, hin, hS⟩ := j_ia_inv hS
    rw [j_setk_eq] at hS
    intro p l e R s m args below meth c D T A N ad0 mc ms hX ad H locs cells slots ls hI
    obtain ⟨hx, hb, hml, hown, hts, hret, hlk, hKk, hst, hfr, hlo, hmc, hms, hA, hSx, htb, hnm, hsc⟩ := id hX
    obtain ⟨hc, hs, hl, hP, hD, hSS, hN, hAl⟩ := id hI
    refine va_iast hx hb hKk hP hD hSS i 0 (j_w_get hf) (j_tys_get rfl) hin hd (fun H1 locs1 hP1 hD1 hS1 => ?_)
    exact hK _ _ _ _ hS p l e R s m args below meth c D T A N ad0 mc ms hX ad H1 locs1 cells slots ls (j_I.world hI (c := .inl (0, n, .inl (upd f x.toNatClampNeg y))) rfl hP1 hD1 hS1)
  · exact hS.elim
def e_zast (nx : Nat) : j_T := fun _ _ _ K lv st h => match st with
  | .int y :: .int x :: .ref i :: r => j_ia 2 h i (fun n f => vp_in x n ∧ j_setk h i (.inl (2, n, .inl (upd f x.toNatClampNeg (vp_nar .boolean y)))) (fun h' => K nx lv r h'))
  | _ => False
theorem s_zast {M : j_M} {pc : Nat} (hd : decode (jm_b M) pc = .ok (.bastore, 1)) : Snd M pc (e_zast (pc + 1)) := by
  intro Φ bc bs K hK lv st h hS
  unfold e_zast at hS
  split at hS
  · rename_i y x i r
    obtain ⟨n, f, hf, hin, hS⟩ := j_ia_inv hS
    rw [j_setk_eq] at hS
    intro p l e R s m args below meth c D T A N ad0 mc ms hX ad H locs cells slots ls hI
    obtain ⟨hx, hb, hml, hown, hts, hret, hlk, hKk, hst, hfr, hlo, hmc, hms, hA, hSx, htb, hnm, hsc⟩ := id hX
    obtain ⟨hc, hs, hl, hP, hD, hSS, hN, hAl⟩ := id hI
    refine va_zast hx hb hKk hP hD hSS i 2 (j_w_get hf) (j_tys_get rfl) hin hd (fun H1 locs1 hP1 hD1 hS1 => ?_)
    exact hK _ _ _ _ hS p l e R s m args below meth c D T A N ad0 mc ms hX ad H1 locs1 cells slots ls (j_I.world hI (c := .inl (2, n, .inl (upd f x.toNatClampNeg (vp_nar .boolean y)))) rfl hP1 hD1 hS1)
  · exact hS.elim
/-- a reference into a row of references to objects of the class ci -/
def e_aast (t ci nx : Nat) : j_T := fun _ _ _ K lv st h => match st with
  | .ref v :: .int x :: .ref i :: r => j_qa t h i (fun n f => vp_in x n ∧ j_obj h v ci (fun _ => j_setk h i (.inl (t, n, .inr (.inr (.inr (.inr (va_up f x.toNatClampNeg (some v))))))) (fun h' => K nx lv r h')))
  | _ => False
theorem j_map_up {f : Nat → Option Nat} {k v : Nat} {ad : Nat → Nat} : (fun j => (va_up f k (some v) j).map ad) = va_up (fun j => (f j).map ad) k (some (ad v)) := by
  funext j
  unfold va_up
  split <;> rfl
theorem s_aast {M : j_M} {pc t ci : Nat} {q : vw_C} (hcl : vwCl[ci]? = some q) (ht : j_ty[t]? = some (.object q.1)) (hd : decode (jm_b M) pc = .ok (.aastore, 1)) : Snd M pc (e_aast t ci (pc + 1)) := by
  intro Φ bc bs K hK lv st h hS
  unfold e_aast at hS
  split at hS
  · rename_i v x i r
    obtain ⟨n, f, hf, hin, hS⟩ := j_qa_inv hS
    obtain ⟨fs, hfs, hS⟩ := j_obj_inv hS
    rw [j_setk_eq] at hS
    intro p l e R s m args below meth c D T A N ad0 mc ms hX ad H locs cells slots ls hI
    obtain ⟨hx, hb, hml, hown, hts, hret, hlk, hKk, hst, hfr, hlo, hmc, hms, hA, hSx, htb, hnm, hsc⟩ := id hX
    obtain ⟨hc, hs, hl, hP, hD, hSS, hN, hAl⟩ := id hI
    refine va_astq hx hb hKk hP hD hSS i t v ci (j_w_get hf) (j_tys_get ht) (j_w_get hfs) hcl hin hd (fun H1 locs1 hP1 hD1 hS1 => ?_)
    exact hK _ _ _ _ hS p l e R s m args below meth c D T A N ad0 mc ms hX ad H1 locs1 cells slots ls (j_I.world hI (c := .inl (t, n, .inr (.inr (.inr (.inr (va_up f x.toNatClampNeg (some v))))))) (by rw [← j_map_up]; rfl) hP1 hD1 hS1)
  · exact hS.elim
def e_slen (L nx : Nat) : j_T := fun _ _ _ K lv st h => match st with
  | .ref i :: r => i = j_sid ∧ K nx lv (.int (Int32.ofNat L) :: r) h
  | _ => False
theorem s_slen {M : j_M} {pc L : Nat} {xs : Nat → Int32} (hM : jm_s M = some (L, xs)) (hd : decode (jm_b M) pc = .ok (.arraylength, 1)) : Snd M pc (e_slen L (pc + 1)) := by
  intro Φ bc bs K hK lv st h hS
  unfold e_slen at hS
  split at hS
  · obtain ⟨rfl, hS⟩ := hS
    intro p l e R s m args below meth c D T A N ad0 mc ms hX ad H locs cells slots ls hI
    obtain ⟨hx, hb, hml, hown, hts, hret, hlk, hKk, hst, hfr, hlo, hmc, hms, hA, hSx, htb, hnm, hsc⟩ := id hX
    obtain ⟨hc, hs, hl, hP, hD, hSS, hN, hAl⟩ := id hI
    unfold j_scr at hsc
    rw [hM] at hsc
    obtain ⟨hs1, hs2, hs3, hs4⟩ := hsc
    rw [← hN _ hs1] at hs2 hs3 hs4
    exact va_slen hx hb hs2 hs3 hs4 hSS hd (hK _ _ _ _ hS p l e R s m args below meth c D T A N ad0 mc ms hX ad H locs cells slots ls hI)
  · exact hS.elim
def e_sld (L : Nat) (xs : Nat → Int32) (nx : Nat) : j_T := fun _ _ _ K lv st h => match st with
  | .int x :: .ref i :: r => i = j_sid ∧ vp_in x L ∧ K nx lv (.int (xs x.toNatClampNeg) :: r) h
  | _ => False
theorem s_sld {M : j_M} {pc L : Nat} {xs : Nat → Int32} (hM : jm_s M = some (L, xs)) (hd : decode (jm_b M) pc = .ok (.iaload, 1)) : Snd M pc (e_sld L xs (pc + 1)) := by
  intro Φ bc bs K hK lv st h hS
  unfold e_sld at hS
  split at hS
  · obtain ⟨rfl, hin, hS⟩ := hS
    intro p l e R s m args below meth c D T A N ad0 mc ms hX ad H locs cells slots ls hI
    obtain ⟨hx, hb, hml, hown, hts, hret, hlk, hKk, hst, hfr, hlo, hmc, hms, hA, hSx, htb, hnm, hsc⟩ := id hX
    obtain ⟨hc, hs, hl, hP, hD, hSS, hN, hAl⟩ := id hI
    unfold j_scr at hsc
    rw [hM] at hsc
    obtain ⟨hs1, hs2, hs3, hs4⟩ := hsc
    rw [← hN _ hs1] at hs2 hs3 hs4
    exact va_sld hx hb hs2 hs3 hs4 hSS hin hd (hK _ _ _ _ hS p l e R s m args below meth c D T A N ad0 mc ms hX ad H locs cells slots ls hI)
  · exact hS.elim
def e_iret : j_T := fun Φ _ _ _ _ st h => match st with
  | [.int x] => Φ (.inl (some (.int x))) h
  | _ => False
theorem s_iret {M : j_M} {pc : Nat} (hr : jm_r M = some .int) (hd : decode (jm_b M) pc = .ok (.ireturn, 1)) : Snd M pc e_iret := by
  intro Φ bc bs K hK lv st h hS
  unfold e_iret at hS
  split at hS
  · rename_i x
    intro p l e R s m args below meth c D T A N ad0 mc ms hX ad H locs cells slots ls hI
    obtain ⟨hx, hb, hml, hown, hts, hret, hlk, hKk, hst, hfr, hlo, hmc, hms, hA, hSx, htb, hnm, hsc⟩ := id hX
    obtain ⟨hc, hs, hl, hP, hD, hSS, hN, hAl⟩ := id hI
    refine W.widen (k := mc) (n := ms) (by omega) (by omega) (vx_ret ?_)
    exact W.iret (v := x) hx hb (hret.trans hr) (fun t ht hW => ⟨⟨some (.int x), h, ad, rfl, hS, hN, by rw [ht]; exact hP, hD⟩, hSS.F ht⟩) hSS.2.2 hd hlk
  · exact hS.elim
def e_lret : j_T := fun Φ _ _ _ _ st h => match st with
  | [.long x] => Φ (.inl (some (.long x))) h
  | _ => False
theorem s_lret {M : j_M} {pc : Nat} (hr : jm_r M = some .long) (hd : decode (jm_b M) pc = .ok (.lreturn, 1)) : Snd M pc e_lret := by
  intro Φ bc bs K hK lv st h hS
  unfold e_lret at hS
  split at hS
  · rename_i x
    intro p l e R s m args below meth c D T A N ad0 mc ms hX ad H locs cells slots ls hI
    obtain ⟨hx, hb, hml, hown, hts, hret, hlk, hKk, hst, hfr, hlo, hmc, hms, hA, hSx, htb, hnm, hsc⟩ := id hX
    obtain ⟨hc, hs, hl, hP, hD, hSS, hN, hAl⟩ := id hI
    refine W.widen (k := mc) (n := ms) (by omega) (by omega) (vx_ret ?_)
    exact W.lret (v := x) hx hb (hret.trans hr) (fun t ht hW => ⟨⟨some (.long x), h, ad, rfl, hS, hN, by rw [ht]; exact hP, hD⟩, hSS.F ht⟩) hSS.2.2 hd hlk
  · exact hS.elim
def e_dret : j_T := fun Φ _ _ _ _ st h => match st with
  | [.double x] => Φ (.inl (some (.double x))) h
  | _ => False
theorem s_dret {M : j_M} {pc : Nat} (hr : jm_r M = some .double) (hd : decode (jm_b M) pc = .ok (.dreturn, 1)) : Snd M pc e_dret := by
  intro Φ bc bs K hK lv st h hS
  unfold e_dret at hS
  split at hS
  · rename_i x
    intro p l e R s m args below meth c D T A N ad0 mc ms hX ad H locs cells slots ls hI
    obtain ⟨hx, hb, hml, hown, hts, hret, hlk, hKk, hst, hfr, hlo, hmc, hms, hA, hSx, htb, hnm, hsc⟩ := id hX
    obtain ⟨hc, hs, hl, hP, hD, hSS, hN, hAl⟩ := id hI
    refine W.widen (k := mc) (n := ms) (by omega) (by omega) (vx_ret ?_)
    exact W.dret (v := x) hx hb (hret.trans hr) (fun t ht hW => ⟨⟨some (.double x), h, ad, rfl, hS, hN, by rw [ht]; exact hP, hD⟩, hSS.F ht⟩) hSS.2.2 hd hlk
  · exact hS.elim
def e_zret : j_T := fun Φ _ _ _ _ st h => match st with
  | [.int x] => (x = 0 ∨ x = 1) ∧ Φ (.inl (some (.int x))) h
  | _ => False
theorem s_zret {M : j_M} {pc : Nat} (hr : jm_r M = some .boolean) (hd : decode (jm_b M) pc = .ok (.ireturn, 1)) : Snd M pc e_zret := by
  intro Φ bc bs K hK lv st h hS
  unfold e_zret at hS
  split at hS
  · rename_i x
    obtain ⟨h01, hS⟩ := hS
    intro p l e R s m args below meth c D T A N ad0 mc ms hX ad H locs cells slots ls hI
    obtain ⟨hx, hb, hml, hown, hts, hret, hlk, hKk, hst, hfr, hlo, hmc, hms, hA, hSx, htb, hnm, hsc⟩ := id hX
    obtain ⟨hc, hs, hl, hP, hD, hSS, hN, hAl⟩ := id hI
    refine W.widen (k := mc) (n := ms) (by omega) (by omega) (vx_ret ?_)
    refine W.zret (v := x) hx hb (hret.trans hr) (by rcases h01 with rfl | rfl <;> rfl) (fun t ht hW => ⟨⟨some (.int x), h, ad, rfl, hS, hN, by rw [ht]; exact hP, hD⟩, hSS.F ht⟩) hSS.2.2 hd hlk
  · exact hS.elim
def e_vret : j_T := fun Φ _ _ _ _ st h => match st with
  | [] => Φ (.inl none) h
  | _ => False
theorem s_vret {M : j_M} {pc : Nat} (hr : jm_r M = none) (hd : decode (jm_b M) pc = .ok (.return_, 1)) : Snd M pc e_vret := by
  intro Φ bc bs K hK lv st h hS
  unfold e_vret at hS
  split at hS
  · intro p l e R s m args below meth c D T A N ad0 mc ms hX ad H locs cells slots ls hI
    obtain ⟨hx, hb, hml, hown, hts, hret, hlk, hKk, hst, hfr, hlo, hmc, hms, hA, hSx, htb, hnm, hsc⟩ := id hX
    obtain ⟨hc, hs, hl, hP, hD, hSS, hN, hAl⟩ := id hI
    refine W.widen (k := mc) (n := ms) (by omega) (by omega) (vx_ret ?_)
    exact W.vret hx hb (hret.trans hr) (fun t ht hW => ⟨⟨none, h, ad, rfl, hS, hN, by rw [ht]; exact hP, hD⟩, hSS.F ht⟩) hSS.2.2 hd hlk
  · exact hS.elim
