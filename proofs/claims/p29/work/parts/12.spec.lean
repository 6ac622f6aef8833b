/-! What the document says, over natural numbers. -/
/-- how many of the first n have p -/
def cntN (p : Nat → Bool) : Nat → Nat
  | 0 => 0
  | n + 1 => cntN p n + (if p n then 1 else 0)
def sumN (f : Nat → Nat) : Nat → Nat
  | 0 => 0
  | n + 1 => sumN f n + f n
theorem cntN_le (p : Nat → Bool) : ∀ n, cntN p n ≤ n
  | 0 => Nat.le_refl _
  | n + 1 => by
    have := cntN_le p n
    unfold cntN
    split <;> omega
theorem cntN_congr {p q : Nat → Bool} : ∀ n, (∀ i, i < n → p i = q i) → cntN p n = cntN q n
  | 0, _ => rfl
  | n + 1, h => by
    unfold cntN
    rw [cntN_congr n (fun i hi => h i (by omega)), h n (by omega)]
theorem sumN_congr {f g : Nat → Nat} : ∀ n, (∀ i, i < n → f i = g i) → sumN f n = sumN g n
  | 0, _ => rfl
  | n + 1, h => by
    unfold sumN
    rw [sumN_congr n (fun i hi => h i (by omega)), h n (by omega)]
theorem sumN_le {f : Nat → Nat} {c : Nat} : ∀ n, (∀ i, i < n → f i ≤ c) → sumN f n ≤ n * c
  | 0, _ => by simp [sumN]
  | n + 1, h => by
    have h1 := sumN_le n (fun i hi => h i (by omega))
    have h2 := h n (by omega)
    unfold sumN
    rw [Nat.succ_mul]
    omega
theorem cntN_s {p : Nat → Bool} {n : Nat} (h : p n = true) : nI (cntN p (n + 1)) = nI (cntN p n) + 1 := by
  rw [show cntN p (n + 1) = cntN p n + 1 by simp [cntN, h]]
  exact (nI_1 _).symm
theorem cntN_n {p : Nat → Bool} {n : Nat} (h : p n = false) : nI (cntN p (n + 1)) = nI (cntN p n) := by
  rw [show cntN p (n + 1) = cntN p n by simp [cntN, h]]
theorem sumN_s (f : Nat → Nat) (n : Nat) : nI (sumN f (n + 1)) = nI (sumN f n) + nI (f n) := by
  rw [nI_add]
  rfl
/-- lots: owner and sacks -/
abbrev aL : Type := List (Nat × Nat)
/-- a mill: speed, ground so far, lots -/
abbrev aM : Type := Nat × Nat × aL
/-- a village: (hour, hours gone, hours turned, refused), sides, strengths, vanes, settings, mills, flour, brought, taken back -/
abbrev aV : Type := (Nat × Nat × Nat × Nat) × (Nat → Nat) × (Nat → Nat) × (Nat → Nat → Nat) × (Nat → Nat) × (Nat → aM) × (Nat → Nat) × (Nat → Nat) × (Nat → Nat)
abbrev v_ho (A : aV) : Nat := A.1.1
abbrev v_go (A : aV) : Nat := A.1.2.1
abbrev v_tu (A : aV) : Nat := A.1.2.2.1
abbrev v_re (A : aV) : Nat := A.1.2.2.2
abbrev v_sd (A : aV) : Nat → Nat := A.2.1
abbrev v_sg (A : aV) : Nat → Nat := A.2.2.1
abbrev v_vn (A : aV) : Nat → Nat → Nat := A.2.2.2.1
abbrev v_se (A : aV) : Nat → Nat := A.2.2.2.2.1
abbrev v_ml (A : aV) : Nat → aM := A.2.2.2.2.2.1
abbrev v_fl (A : aV) : Nat → Nat := A.2.2.2.2.2.2.1
abbrev v_br (A : aV) : Nat → Nat := A.2.2.2.2.2.2.2.1
abbrev v_tk (A : aV) : Nat → Nat := A.2.2.2.2.2.2.2.2
abbrev m_sp (m : aM) : Nat := m.1
abbrev m_gr (m : aM) : Nat := m.2.1
abbrev m_lo (m : aM) : aL := m.2.2
/-- the lot at a place -/
def lo_o (l : aL) (k : Nat) : Nat := (l.getD k (0, 0)).1
def lo_s (l : aL) (k : Nat) : Nat := (l.getD k (0, 0)).2
def mOk (m : aM) : Prop := m_sp m ≤ 9 ∧ (m_lo m).length ≤ 8 ∧ ∀ q ∈ m_lo m, q.1 < 5 ∧ 1 ≤ q.2 ∧ q.2 ≤ 99
def vOk (A : aV) : Prop := v_ho A < 24 ∧ v_go A ≤ 200000 ∧ (∀ h, h < 24 → v_sd A h < 8 ∧ v_sg A h < 10) ∧ (∀ i, i < 6 → v_vn A i 0 < 8 ∧ v_vn A i 1 < 5 ∧ v_vn A i 2 < 10 ∧ v_vn A i 3 < 2) ∧ (1 ≤ v_se A 0 ∧ v_se A 0 ≤ 6 ∧ v_se A 1 ≤ 1) ∧ (∀ m, m < 3 → mOk (v_ml A m))
/-- sacks that wait, of all and of an owner -/
def swt (l : aL) : Nat := sumN (lo_s l) l.length
def swo (l : aL) (o : Nat) : Nat := sumN (fun k => if lo_o l k = o then lo_s l k else 0) l.length
/-- grinding: what is left of the lots; what comes of them for an owner -/
def grL : Nat → aL → aL
  | _, [] => []
  | n, q :: t => if n = 0 then q :: t else if n < q.2 then (q.1, q.2 - n) :: t else grL (n - q.2) t
def grF (o : Nat) : Nat → aL → Nat
  | _, [] => 0
  | n, q :: t => (if q.1 = o then min n q.2 else 0) + grF o (n - q.2) t
/-- sacks that are ground -/
def grS (n : Nat) (l : aL) : Nat := min n (swt l)
/-- whether a vane agrees with the wind of an hour -/
def agr (A : aV) (i h : Nat) : Bool := decide (v_vn A i 2 ≤ v_sg A h) && (decide (v_sd A h - v_vn A i 0 + (v_vn A i 0 - v_sd A h) ≤ v_vn A i 1) || decide (8 - (v_sd A h - v_vn A i 0 + (v_vn A i 0 - v_sd A h)) ≤ v_vn A i 1))
def free (A : aV) (i : Nat) : Bool := decide (v_vn A i 3 = 0)
def com (A : aV) : Nat := cntN (free A) 6
def vot (A : aV) (h : Nat) : Nat := cntN (fun i => free A i && agr A i h) 6
def ver (A : aV) (size votes : Nat) : Nat := if size < v_se A 0 then 1 else if size < 2 * votes ∨ (2 * votes = size ∧ v_se A 1 = 1) then 0 else 2
def vdi (A : aV) (h : Nat) : Nat := ver A (com A) (vot A h)
def trn (A : aV) (h : Nat) : Bool := decide (vdi A h = 0)
def agh (A : aV) : Nat := cntN (trn A) 24
def hov (A : aV) (i : Nat) : Nat := cntN (agr A i) 24
/-- the village with a vane the other way -/
def flip (A : aV) (i : Nat) : aV := (A.1, v_sd A, v_sg A, (fun j w => if j = i ∧ w = 3 then 1 - v_vn A i 3 else v_vn A j w), v_se A, v_ml A, v_fl A, v_br A, v_tk A)
def htb (A : aV) (i : Nat) : Nat := cntN (fun h => trn A h != trn (flip A i) h) 24
def rat (A : aV) (m h : Nat) : Nat := if trn A h then m_sp (v_ml A m) * v_sg A h / 4 else 0
def day (A : aV) (m : Nat) : Nat := sumN (rat A m) 24
def sgi (A : aV) (h : Nat) : Nat := rat A 0 h + rat A 1 h + rat A 2 h
def swa (A : aV) : Nat := swt (m_lo (v_ml A 0)) + swt (m_lo (v_ml A 1)) + swt (m_lo (v_ml A 2))
def swoa (A : aV) (o : Nat) : Nat := swo (m_lo (v_ml A 0)) o + swo (m_lo (v_ml A 1)) o + swo (m_lo (v_ml A 2)) o
def fla (A : aV) : Nat := sumN (v_fl A) 5
/-- an hour goes by -/
def mGr (n : Nat) (m : aM) : aM := (m_sp m, m_gr m + grS n (m_lo m), grL n (m_lo m))
def hr1 (A : aV) : aV := ((if v_ho A = 23 then 0 else v_ho A + 1, v_go A + 1, v_tu A + (if trn A (v_ho A) then 1 else 0), v_re A), v_sd A, v_sg A, v_vn A, v_se A, (fun m => mGr (rat A m (v_ho A)) (v_ml A m)),
  (fun o => v_fl A o + (grF o (rat A 0 (v_ho A)) (m_lo (v_ml A 0)) + grF o (rat A 1 (v_ho A)) (m_lo (v_ml A 1)) + grF o (rat A 2 (v_ho A)) (m_lo (v_ml A 2)))), v_br A, v_tk A)
def hrG (A : aV) : Nat := grS (rat A 0 (v_ho A)) (m_lo (v_ml A 0)) + grS (rat A 1 (v_ho A)) (m_lo (v_ml A 1)) + grS (rat A 2 (v_ho A)) (m_lo (v_ml A 2))
def hrs : Nat → aV → aV
  | 0, A => A
  | n + 1, A => hrs n (hr1 A)
def hrsG : Nat → aV → Nat
  | 0, _ => 0
  | n + 1, A => hrG A + hrsG n (hr1 A)
/-- comparisons of small numbers -/
theorem n_lt {a b : Nat} (ha : a < 2 ^ 31) (hb : b < 2 ^ 31) : nI a < nI b ↔ a < b := nI_ltI ha hb
theorem n_le {a b : Nat} (ha : a < 2 ^ 31) (hb : b < 2 ^ 31) : nI a ≤ nI b ↔ a ≤ b := nI_leI ha hb
theorem n_eq {a b : Nat} (ha : a < 2 ^ 31) (hb : b < 2 ^ 31) : nI a = nI b ↔ a = b := nI_eq ha hb
theorem vp_n {a n : Nat} (h : a < n) (hn : n < 2 ^ 31) : vp_in (nI a) n := vp_in_nI h hn
theorem cl_n {a : Nat} (h : a < 2 ^ 31) : (nI a).toNatClampNeg = a := nI_clamp h
