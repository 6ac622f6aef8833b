/-! Winds as texts: an automaton; 7 is the place of what is wrong. -/
def pa (p c : Nat) : Nat := match p with
  | 0 => if c = 49 then 1 else if c = 50 then 2 else if 48 ≤ c ∧ c ≤ 57 then 3 else 7
  | 1 => if 48 ≤ c ∧ c ≤ 57 then 3 else if c = 61 then 4 else 7
  | 2 => if 48 ≤ c ∧ c ≤ 51 then 3 else if c = 61 then 4 else 7
  | 3 => if c = 61 then 4 else 7
  | 4 => if 48 ≤ c ∧ c ≤ 55 then 5 else 7
  | 5 => if 48 ≤ c ∧ c ≤ 57 then 6 else 7
  | 6 => if c = 59 then 0 else 7
  | _ => 7
def pI (p : Nat) : Int32 := if p = 7 then -1 else nI p
def stL : Nat → List Nat → Nat
  | p, [] => p
  | p, c :: t => stL (pa p c) t
def fwL : Nat → List Nat → Nat
  | _, [] => 0
  | p, c :: t => if pa p c = 7 then 0 else 1 + fwL (pa p c) t
def tOk (t : List Nat) : Prop := t.length ≤ 60 ∧ ∀ c ∈ t, 33 ≤ c ∧ c ≤ 126
theorem pa_le (p c : Nat) : pa p c ≤ 7 := by
  unfold pa
  split <;> (repeat' split) <;> omega
theorem stL_7 : ∀ t, stL 7 t = 7
  | [] => rfl
  | _ :: t => stL_7 t
theorem j_and {A B : Prop} (a : A) (b : B) : A ∧ B := ⟨a, b⟩
theorem c_X2_afterHour {c : Nat} (hc : c < 127) : Ct MX2_afterHour 0 0 [.int (nI c)] [] (jd (.inl (some (.int (pI (pa 3 c))))) []) := by
  refine Ct.of rfl rfl (by decide +kernel) rfl (Nat.le_of_ble_eq_true rfl) ?_
  refine J.run csX2_afterHour 20 [] ?_
  refine ⟨fun q => ?_, fun q => ?_⟩
  · have q : ¬ nI c = nI 61 := q
    rw [n_eq (by omega) (by omega)] at q
    exact jd_i (by rw [show pa 3 c = 7 from if_neg q]; rfl) rfl
  · have q : nI c = nI 61 := q
    rw [n_eq (by omega) (by omega)] at q
    exact jd_i (by rw [show pa 3 c = 4 from if_pos q]; rfl) rfl
theorem c_X2_afterFirstDigit {c : Nat} (hc : c < 127) : Ct MX2_afterFirstDigit 0 0 [.int (nI c)] [] (jd (.inl (some (.int (pI (pa 0 c))))) []) := by
  refine Ct.of rfl rfl (by decide +kernel) rfl (Nat.le_of_ble_eq_true rfl) ?_
  refine J.run csX2_afterFirstDigit 30 [] ?_
  refine ⟨fun q => ⟨fun q2 => ⟨fun q3 => ?_, fun q3 => ⟨fun q4 => ?_, fun q4 => ?_⟩⟩, fun q2 => ?_⟩, fun q => ?_⟩
  · have q : ¬ nI c = nI 49 := q
    have q2 : ¬ nI c = nI 50 := q2
    have q3 : nI c < nI 48 := q3
    rw [n_eq (by omega) (by omega)] at q q2
    rw [n_lt (by omega) (by omega)] at q3
    exact jd_i (by rw [show pa 0 c = 7 from (if_neg q).trans ((if_neg q2).trans (if_neg (by omega)))]; rfl) rfl
  · have q : ¬ nI c = nI 49 := q
    have q2 : ¬ nI c = nI 50 := q2
    have q4 : nI 57 < nI c := q4
    rw [n_eq (by omega) (by omega)] at q q2
    rw [n_lt (by omega) (by omega)] at q4
    exact jd_i (by rw [show pa 0 c = 7 from (if_neg q).trans ((if_neg q2).trans (if_neg (by omega)))]; rfl) rfl
  · have q : ¬ nI c = nI 49 := q
    have q2 : ¬ nI c = nI 50 := q2
    have q3 : ¬ nI c < nI 48 := q3
    have q4 : ¬ nI 57 < nI c := q4
    rw [n_eq (by omega) (by omega)] at q q2
    rw [n_lt (by omega) (by omega)] at q3 q4
    exact jd_i (by rw [show pa 0 c = 3 from (if_neg q).trans ((if_neg q2).trans (if_pos (by omega)))]; rfl) rfl
  · have q2 : nI c = nI 50 := q2
    rw [n_eq (by omega) (by omega)] at q2
    subst q2
    exact jd_i rfl rfl
  · have q : nI c = nI 49 := q
    rw [n_eq (by omega) (by omega)] at q
    subst q
    exact jd_i rfl rfl
theorem c_X2_placeAfter {p c : Nat} (hp : p < 7) (hc : c < 127) : Ct MX2_placeAfter 0 0 [.int (nI p), .int (nI c)] [] (jd (.inl (some (.int (pI (pa p c))))) []) := by
  refine Ct.of rfl rfl (by decide +kernel) rfl (Nat.le_of_ble_eq_true rfl) ?_
  have H : ∀ (lv : j_L), J MX2_placeAfter (jd (.inl (some (.int (pI (pa 3 c))))) []) 0 0 66 lv [.int (nI c)] [] ∧ J MX2_placeAfter (jd (.inl (some (.int (pI (pa 3 c))))) []) 0 0 87 lv [.int (nI c)] [] ∧ J MX2_placeAfter (jd (.inl (some (.int (pI (pa 3 c))))) []) 0 0 92 lv [.int (nI c)] [] := by
    intro lv
    refine ⟨?_, ?_, ?_⟩
    · refine J.callS 0 0 [] [] (c_X2_afterHour hc) kX2_afterHour mRX2_35 dX2_placeAfter_66 (by decide) (by decide) rfl rfl rfl (Nat.le_of_ble_eq_true rfl) rfl (by decide) (by decide) (by decide) ?_ ?_
      · rintro v h' ⟨hv, rfl⟩
        cases hv
        exact ⟨rfl, J.run csX2_placeAfter 5 [] (jd_i rfl rfl)⟩
      · rintro E9 h' ⟨hv, -⟩
        cases hv
    · refine J.callS 0 0 [] [] (c_X2_afterHour hc) kX2_afterHour mRX2_35 dX2_placeAfter_87 (by decide) (by decide) rfl rfl rfl (Nat.le_of_ble_eq_true rfl) rfl (by decide) (by decide) (by decide) ?_ ?_
      · rintro v h' ⟨hv, rfl⟩
        cases hv
        exact ⟨rfl, J.run csX2_placeAfter 5 [] (jd_i rfl rfl)⟩
      · rintro E9 h' ⟨hv, -⟩
        cases hv
    · refine J.callS 0 0 [] [] (c_X2_afterHour hc) kX2_afterHour mRX2_35 dX2_placeAfter_92 (by decide) (by decide) rfl rfl rfl (Nat.le_of_ble_eq_true rfl) rfl (by decide) (by decide) (by decide) ?_ ?_
      · rintro v h' ⟨hv, rfl⟩
        cases hv
        exact ⟨rfl, J.run csX2_placeAfter 5 [] (jd_i rfl rfl)⟩
      · rintro E9 h' ⟨hv, -⟩
        cases hv
  have hcase : p = 0 ∨ p = 1 ∨ p = 2 ∨ p = 3 ∨ p = 4 ∨ p = 5 ∨ p = 6 := by omega
  rcases hcase with rfl | rfl | rfl | rfl | rfl | rfl | rfl
  · refine J.run csX2_placeAfter 30 [] ?_
    refine ⟨fun _ => ?_, fun h => absurd rfl h⟩
    refine J.callS 0 0 [] [] (c_X2_afterFirstDigit hc) kX2_afterFirstDigit mRX2_31 dX2_placeAfter_45 (by decide) (by decide) rfl rfl rfl (Nat.le_of_ble_eq_true rfl) rfl (by decide) (by decide) (by decide) ?_ ?_
    · rintro v h' ⟨hv, rfl⟩
      cases hv
      exact ⟨rfl, J.run csX2_placeAfter 5 [] (jd_i rfl rfl)⟩
    · rintro E9 h' ⟨hv, -⟩
      cases hv
  · have X : ¬ (48 ≤ c ∧ c ≤ 57) → pa 1 c = pa 3 c := fun h => if_neg h
    refine J.run csX2_placeAfter 30 [] ?_
    refine ⟨fun h => absurd h (by decide), fun _ => ⟨fun _ => ⟨fun q => ?_, fun q => ⟨fun q2 => ?_, fun q2 => ?_⟩⟩, fun h => absurd rfl h⟩⟩
    · have q : nI c < nI 48 := q
      rw [n_lt (by omega) (by omega)] at q
      rw [X (by omega)]
      exact (H _).1
    · have q2 : nI 57 < nI c := q2
      rw [n_lt (by omega) (by omega)] at q2
      rw [X (by omega)]
      exact (H _).1
    · have q : ¬ nI c < nI 48 := q
      have q2 : ¬ nI 57 < nI c := q2
      rw [n_lt (by omega) (by omega)] at q q2
      exact jd_i (by rw [show pa 1 c = 3 from if_pos (by omega)]; rfl) rfl
  · have X : ¬ (48 ≤ c ∧ c ≤ 51) → pa 2 c = pa 3 c := fun h => if_neg h
    refine J.run csX2_placeAfter 30 [] ?_
    refine ⟨fun h => absurd h (by decide), fun _ => ⟨fun h => absurd h (by decide), fun _ => ⟨fun _ => ⟨fun q => ?_, fun q => ⟨fun q2 => ?_, fun q2 => ?_⟩⟩, fun h => absurd rfl h⟩⟩⟩
    · have q : nI c < nI 48 := q
      rw [n_lt (by omega) (by omega)] at q
      rw [X (by omega)]
      exact (H _).2.1
    · have q2 : nI 51 < nI c := q2
      rw [n_lt (by omega) (by omega)] at q2
      rw [X (by omega)]
      exact (H _).2.1
    · have q : ¬ nI c < nI 48 := q
      have q2 : ¬ nI 51 < nI c := q2
      rw [n_lt (by omega) (by omega)] at q q2
      exact jd_i (by rw [show pa 2 c = 3 from if_pos (by omega)]; rfl) rfl
  · refine J.run csX2_placeAfter 30 [] ?_
    refine ⟨fun h => absurd h (by decide), fun _ => ⟨fun h => absurd h (by decide), fun _ => ⟨fun h => absurd h (by decide), fun _ => ⟨fun _ => ?_, fun h => absurd rfl h⟩⟩⟩⟩
    exact (H _).2.2
  · refine J.run csX2_placeAfter 30 [] ?_
    refine ⟨fun h => absurd h (by decide), fun _ => ⟨fun h => absurd h (by decide), fun _ => ⟨fun h => absurd h (by decide), fun _ => ⟨fun h => absurd h (by decide), fun _ => ⟨fun _ => ⟨fun q => ?_, fun q => ⟨fun q2 => ?_, fun q2 => ?_⟩⟩, fun h => absurd rfl h⟩⟩⟩⟩⟩
    · have q : nI c < nI 48 := q
      rw [n_lt (by omega) (by omega)] at q
      exact jd_i (by rw [show pa 4 c = 7 from if_neg (by omega)]; rfl) rfl
    · have q2 : nI 55 < nI c := q2
      rw [n_lt (by omega) (by omega)] at q2
      exact jd_i (by rw [show pa 4 c = 7 from if_neg (by omega)]; rfl) rfl
    · have q : ¬ nI c < nI 48 := q
      have q2 : ¬ nI 55 < nI c := q2
      rw [n_lt (by omega) (by omega)] at q q2
      exact jd_i (by rw [show pa 4 c = 5 from if_pos (by omega)]; rfl) rfl
  · refine J.run csX2_placeAfter 30 [] ?_
    refine ⟨fun h => absurd h (by decide), fun _ => ⟨fun h => absurd h (by decide), fun _ => ⟨fun h => absurd h (by decide), fun _ => ⟨fun h => absurd h (by decide), fun _ => ⟨fun h => absurd h (by decide), fun _ => ⟨fun _ => ⟨fun q => ?_, fun q => ⟨fun q2 => ?_, fun q2 => ?_⟩⟩, fun h => absurd rfl h⟩⟩⟩⟩⟩⟩
    · have q : nI c < nI 48 := q
      rw [n_lt (by omega) (by omega)] at q
      exact jd_i (by rw [show pa 5 c = 7 from if_neg (by omega)]; rfl) rfl
    · have q2 : nI 57 < nI c := q2
      rw [n_lt (by omega) (by omega)] at q2
      exact jd_i (by rw [show pa 5 c = 7 from if_neg (by omega)]; rfl) rfl
    · have q : ¬ nI c < nI 48 := q
      have q2 : ¬ nI 57 < nI c := q2
      rw [n_lt (by omega) (by omega)] at q q2
      exact jd_i (by rw [show pa 5 c = 6 from if_pos (by omega)]; rfl) rfl
  · refine J.run csX2_placeAfter 30 [] ?_
    refine ⟨fun h => absurd h (by decide), fun _ => ⟨fun h => absurd h (by decide), fun _ => ⟨fun h => absurd h (by decide), fun _ => ⟨fun h => absurd h (by decide), fun _ => ⟨fun h => absurd h (by decide), fun _ => ⟨fun h => absurd h (by decide), fun _ => ⟨fun _ => ⟨fun q => ?_, fun q => ?_⟩, fun h => absurd rfl h⟩⟩⟩⟩⟩⟩⟩
    · have q : ¬ nI c = nI 59 := q
      rw [n_eq (by omega) (by omega)] at q
      exact jd_i (by rw [show pa 6 c = 7 from if_neg q]; rfl) rfl
    · have q : nI c = nI 59 := q
      rw [n_eq (by omega) (by omega)] at q
      exact jd_i (by rw [show pa 6 c = 0 from if_pos q]; rfl) rfl
/-- the text's world -/
def txt (n : Int32) (cs : Nat → Int32) : j_H := [.inr (2, [.ref 1, .int n]), .inl (0, 60, .inl cs)]
def tRel (t : List Nat) (cs : Nat → Int32) : Prop := ∀ k, k < t.length → cs k = nI (t.getD k 0)
theorem t_bd {t : List Nat} (ht : tOk t) {k : Nat} (hk : k < t.length) : 33 ≤ t.getD k 0 ∧ t.getD k 0 ≤ 126 := by
  have : t.getD k 0 ∈ t := by
    rw [List.getD_eq_getElem?_getD, List.getElem?_eq_getElem hk]
    exact List.getElem_mem hk
  exact ht.2 _ this
theorem t_drop {t : List Nat} {k : Nat} (h : k < t.length) : t.drop k = t.getD k 0 :: t.drop (k + 1) := by
  rw [List.drop_eq_getElem_cons h]
  congr 1
  rw [List.getD_eq_getElem?_getD, List.getElem?_eq_getElem h]
  rfl
theorem fwL_c (p c : Nat) (t : List Nat) : fwL p (c :: t) = if pa p c = 7 then 0 else 1 + fwL (pa p c) t := rfl
theorem stL_c (p c : Nat) (t : List Nat) : stL p (c :: t) = stL (pa p c) t := rfl
theorem pI_n {p : Nat} (h : p ≠ 7) : pI p = nI p := if_neg h
theorem pI_eq {p : Nat} (h : p ≤ 7) : pI p = -1 ↔ p = 7 := by
  have : ∀ p, p < 8 → (pI p = -1 ↔ p = 7) := by decide +kernel
  exact this p (by omega)
theorem c_X2_firstWrong {t : List Nat} {cs : Nat → Int32} (ht : tOk t) (hr : tRel t cs) : Ct MX2_firstWrong 0 0 [.ref 0] (txt (nI t.length) cs) (jd (.inl (some (.int (nI (fwL 0 t))))) (txt (nI t.length) cs)) := by
  have hlen := ht.1
  refine Ct.of rfl rfl (by decide +kernel) rfl (Nat.le_of_ble_eq_true rfl) ?_
  have L : ∀ (d i p : Nat), i + d = t.length → p < 7 → i + fwL p (t.drop i) = fwL 0 t → J MX2_firstWrong (jd (.inl (some (.int (nI (fwL 0 t))))) (txt (nI t.length) cs)) 0 0 4 [(0, .ref 0), (1, .int (nI p)), (2, .int (nI i))] [] (txt (nI t.length) cs) := by
    intro d
    induction d with
    | zero =>
      intro i p hi hp hs
      refine J.run csX2_firstWrong 20 [] ?_
      refine ⟨fun _ => ?_, fun h => absurd ((n_le (by omega) (by omega)).mpr (by omega)) h⟩
      rw [show i = t.length by omega, List.drop_length] at hs
      exact jd_i (by rw [← hs]; rfl) rfl
    | succ d ih =>
      intro i p hi hp hs
      have hb := t_bd ht (k := i) (by omega)
      rw [t_drop (by omega), fwL_c] at hs
      refine J.run csX2_firstWrong 30 [(4, 3)] ?_
      refine ⟨fun h => absurd ((n_le (by omega) (by omega)).mp h) (by omega), fun _ => ⟨vp_n (by omega) (by omega), ?_⟩⟩
      have e : cs (nI i).toNatClampNeg = nI (t.getD i 0) := by rw [cl_n (by omega)]; exact hr i (by omega)
      refine J.callS 0 0 [] [] (as := [.int (nI p), .int (nI (t.getD i 0))]) (c_X2_placeAfter hp (by omega)) kX2_placeAfter mRX2_19 dX2_firstWrong_19 (by decide) (by decide) rfl rfl (by rw [← e]; rfl) (Nat.le_of_ble_eq_true rfl) rfl (by decide) (by decide) (by decide) ?_ ?_
      · rintro v h' ⟨hv, rfl⟩
        cases hv
        refine ⟨rfl, ?_⟩
        refine J.run csX2_firstWrong 30 [(4, 3)] ?_
        refine ⟨fun q => ?_, fun q => ?_⟩
        · have q : ¬ pI (pa p (t.getD i 0)) = -1 := q
          rw [pI_eq (pa_le _ _)] at q
          rw [if_neg q] at hs
          have ih' := ih (i + 1) (pa p (t.getD i 0)) (by omega) (by have := pa_le p (t.getD i 0); omega) (by omega)
          rw [← pI_n q, nI_succ] at ih'
          exact ih'
        · have q : pI (pa p (t.getD i 0)) = -1 := q
          rw [pI_eq (pa_le _ _)] at q
          rw [if_pos q] at hs
          exact jd_i (by rw [← hs]; rfl) rfl
      · rintro E9 h' ⟨hv, -⟩
        cases hv
  refine J.run csX2_firstWrong 20 [(4, 3)] ?_
  exact L _ 0 0 (Nat.zero_add _) (by decide) (Nat.zero_add _)
theorem c_X2_isWhole {t : List Nat} {cs : Nat → Int32} (ht : tOk t) (hr : tRel t cs) : Ct MX2_isWhole 0 0 [.ref 0] (txt (nI t.length) cs) (jd (.inl (some (.int (if stL 0 t = 6 then 1 else 0)))) (txt (nI t.length) cs)) := by
  have hlen := ht.1
  refine Ct.of rfl rfl (by decide +kernel) rfl (Nat.le_of_ble_eq_true rfl) ?_
  generalize hΦ : jd (.inl (some (.int (if stL 0 t = 6 then 1 else 0)))) (txt (nI t.length) cs) = Φ
  have E : ∀ p i, p ≤ 7 → p = stL 0 t → J MX2_isWhole Φ 0 0 34 [(0, .ref 0), (1, .int (pI p)), (2, .int i)] [] (txt (nI t.length) cs) := by
    intro p i hp he
    have key : pI p = 6 ↔ p = 6 := by
      have : ∀ p, p < 8 → (pI p = 6 ↔ p = 6) := by decide +kernel
      exact this p (by omega)
    refine J.run csX2_isWhole 20 [] ?_
    rw [← hΦ]
    refine ⟨fun q => ?_, fun q => ?_⟩
    · have q : ¬ pI p = 6 := q
      rw [key] at q
      exact ⟨Or.inl rfl, jd_i (by rw [if_neg (by rw [← he]; exact q)]) rfl⟩
    · have q : pI p = 6 := q
      rw [key] at q
      exact ⟨Or.inr rfl, jd_i (by rw [if_pos (by rw [← he]; exact q)]) rfl⟩
  have L : ∀ (d i p : Nat), i + d = t.length → p ≤ 7 → stL p (t.drop i) = stL 0 t → J MX2_isWhole Φ 0 0 4 [(0, .ref 0), (1, .int (pI p)), (2, .int (nI i))] [] (txt (nI t.length) cs) := by
    intro d
    induction d with
    | zero =>
      intro i p hi hp hs
      rw [show i = t.length by omega, List.drop_length] at hs
      refine J.run csX2_isWhole 20 [(34, 3)] ?_
      refine ⟨fun _ => E p _ hp hs, fun h => absurd ((n_le (by omega) (by omega)).mpr (by omega)) h⟩
    | succ d ih =>
      intro i p hi hp hs
      have hb := t_bd ht (k := i) (by omega)
      rw [t_drop (by omega), stL_c] at hs
      refine J.run csX2_isWhole 30 [(4, 3), (34, 3)] ?_
      refine ⟨fun h => absurd ((n_le (by omega) (by omega)).mp h) (by omega), fun _ => ⟨fun q => ?_, fun q => ⟨vp_n (by omega) (by omega), ?_⟩⟩⟩
      · have q : pI p = -1 := q
        rw [pI_eq hp] at q
        refine E p _ hp ?_
        rw [q] at hs ⊢
        rw [show pa 7 (t.getD i 0) = 7 from rfl, stL_7] at hs
        exact hs
      · have q : ¬ pI p = -1 := q
        rw [pI_eq hp] at q
        have e : cs (nI i).toNatClampNeg = nI (t.getD i 0) := by rw [cl_n (by omega)]; exact hr i (by omega)
        refine J.callS 0 0 [] [] (as := [.int (nI p), .int (nI (t.getD i 0))]) (c_X2_placeAfter (by omega) (by omega)) kX2_placeAfter mRX2_19 dX2_isWhole_24 (by decide) (by decide) rfl rfl (by rw [← e, ← pI_n q]; rfl) (Nat.le_of_ble_eq_true rfl) rfl (by decide) (by decide) (by decide) ?_ ?_
        · rintro v h' ⟨hv, rfl⟩
          cases hv
          refine ⟨rfl, ?_⟩
          refine J.run csX2_isWhole 30 [(4, 3)] ?_
          have ih' := ih (i + 1) (pa p (t.getD i 0)) (by omega) (pa_le _ _) hs
          rw [nI_succ] at ih'
          exact ih'
        · rintro E9 h' ⟨hv, -⟩
          cases hv
  refine J.run csX2_isWhole 20 [(4, 3)] ?_
  exact L _ 0 0 (Nat.zero_add _) (by decide) rfl
