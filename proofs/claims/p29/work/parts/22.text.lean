/-! Winds as texts: an automaton; 7 is the place of what is wrong. -/
def pa (p c : Nat) : Nat := match p with
  | 0 => if c = 49 then 1 else if c = 50 then 2 else if 48 ≤ c ∧ c ≤ 57 then 3 else 7
  | 1 => if 48 ≤ c ∧ c ≤ 57 then 3 else if c = 61 then 4 else 7
  | 2 => if 48 ≤ c ∧ c ≤ 51 then 3 else if c = 61 then 4 else 7
  | 3 => if c = 61 then 4 else 7
  | 4 => if 48 ≤ c ∧ c ≤ 55 then 5 else 7
  | 5 => if 48 ≤ c ∧ c ≤ 57 then 6 else 7
  | 6 => if c = 59 then 0 else 7
  | _ => 7
def pI (p : Nat) : Int32 := if p = 7 then -1 else nI p
def stL : Nat → List Nat → Nat
  | p, [] => p
  | p, c :: t => stL (pa p c) t
def fwL : Nat → List Nat → Nat
  | _, [] => 0
  | p, c :: t => if pa p c = 7 then 0 else 1 + fwL (pa p c) t
def tOk (t : List Nat) : Prop := t.length ≤ 60 ∧ ∀ c ∈ t, 33 ≤ c ∧ c ≤ 126
theorem pa_le (p c : Nat) : pa p c ≤ 7 := by
  unfold pa
  split <;> (repeat' split) <;> omega
theorem stL_7 : ∀ t, stL 7 t = 7
  | [] => rfl
  | _ :: t => stL_7 t
theorem j_and {A B : Prop} (a : A) (b : B) : A ∧ B := ⟨a, b⟩
/-- the text's world -/
def txt (n : Int32) (cs : Nat → Int32) : j_H := [.inr (2, [.ref 1, .int n]), .inl (0, 60, .inl cs)]
def tRel (t : List Nat) (cs : Nat → Int32) : Prop := ∀ k, k < t.length → cs k = nI (t.getD k 0)
theorem t_bd {t : List Nat} (ht : tOk t) {k : Nat} (hk : k < t.length) : 33 ≤ t.getD k 0 ∧ t.getD k 0 ≤ 126 := by
  have : t.getD k 0 ∈ t := by
    rw [List.getD_eq_getElem?_getD, List.getElem?_eq_getElem hk]
    exact List.getElem_mem hk
  exact ht.2 _ this
theorem t_drop {t : List Nat} {k : Nat} (h : k < t.length) : t.drop k = t.getD k 0 :: t.drop (k + 1) := by
  rw [List.drop_eq_getElem_cons h]
  congr 1
  rw [List.getD_eq_getElem?_getD, List.getElem?_eq_getElem h]
  rfl
theorem fwL_c (p c : Nat) (t : List Nat) : fwL p (c :: t) = if pa p c = 7 then 0 else 1 + fwL (pa p c) t := rfl
theorem stL_c (p c : Nat) (t : List Nat) : stL p (c :: t) = stL (pa p c) t := rfl
theorem pI_n {p : Nat} (h : p ≠ 7) : pI p = nI p := if_neg h
theorem pI_eq {p : Nat} (h : p ≤ 7) : pI p = -1 ↔ p = 7 := by
  have : ∀ p, p < 8 → (pI p = -1 ↔ p = 7) := by decide +kernel
  exact this p (by omega)
