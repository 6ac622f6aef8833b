/-! Grinding a sack at a time, told by the law's numbers. -/
theorem R_cg {A B : aV} {g l o : Nat → Int32} (h1 : B.1 = A.1) (h5 : v_se B = v_se A) (h6 : ∀ m, m < 3 → v_ml B m = v_ml A m) (h7 : ∀ k, k < 5 → v_fl B k = v_fl A k) (h8 : v_br B = v_br A) (h9 : v_tk B = v_tk A) (h : gR A g ∧ lR A l ∧ oR A o) : gR B g ∧ lR B l ∧ oR B o := by
  obtain ⟨⟨g1, g2, g3⟩, hl, ho⟩ := h
  refine ⟨⟨?_, ?_, fun m hm => ?_⟩, fun m hm => ?_, fun k hk => ?_⟩
  · show g 0 = nI B.1.1 ∧ g 1 = nI B.1.2.1 ∧ g 2 = nI B.1.2.2.1 ∧ g 3 = nI B.1.2.2.2
    rw [h1]
    exact g1
  · rw [h5]
    exact g2
  · show _ ∧ g (9 + m) = nI (m_lo (v_ml B m)).length ∧ _
    rw [h6 m hm]
    exact g3 m hm
  · show ∀ k, k < (m_lo (v_ml B m)).length → l (8 * m + k) = nI (100 * lo_o (m_lo (v_ml B m)) k + lo_s (m_lo (v_ml B m)) k)
    rw [h6 m hm]
    exact hl m hm
  · rw [h7 k hk, h8, h9]
    exact ho k hk
theorem grL_add : ∀ (l : aL) (a b : Nat), grL (a + b) l = grL b (grL a l)
  | [], _, _ => rfl
  | q :: t, a, b => by
    rw [grL_c, grL_c]
    by_cases h0 : a = 0
    · subst h0
      rw [if_pos rfl, Nat.zero_add, grL_c]
    · rw [if_neg h0, if_neg (show ¬ a + b = 0 by omega)]
      by_cases h1 : a < q.2
      · rw [if_pos h1, grL_c]
        show _ = if b = 0 then (q.1, q.2 - a) :: t else if b < q.2 - a then (q.1, q.2 - a - b) :: t else grL (b - (q.2 - a)) t
        by_cases hb : b = 0
        · subst hb
          rw [if_pos rfl, if_pos (by omega), Nat.add_zero]
        · rw [if_neg hb]
          by_cases h2 : a + b < q.2
          · rw [if_pos h2, if_pos (by omega), Nat.sub_sub]
          · rw [if_neg h2, if_neg (by omega), show a + b - q.2 = b - (q.2 - a) by omega]
      · rw [if_neg h1, if_neg (by omega), show a + b - q.2 = a - q.2 + b by omega, grL_add t]
theorem swt_nil : swt [] = 0 := rfl
theorem grL_swt : ∀ (l : aL) (a : Nat), swt (grL a l) = swt l - a
  | [], a => by
    show swt [] = swt [] - a
    rw [swt_nil, Nat.zero_sub]
  | q :: t, a => by
    rw [grL_c]
    by_cases h0 : a = 0
    · subst h0
      rw [if_pos rfl, Nat.sub_zero]
    · rw [if_neg h0]
      by_cases h1 : a < q.2
      · rw [if_pos h1, swt_c, swt_c]
        show q.2 - a + swt t = _
        omega
      · rw [if_neg h1, grL_swt t, swt_c]
        omega
theorem grS_add (l : aL) (a b : Nat) : grS (a + b) l = grS a l + grS b (grL a l) := by
  unfold grS
  rw [grL_swt]
  omega
theorem mGr_add (m : aM) (a b : Nat) : mGr (a + b) m = mGr b (mGr a m) := by
  unfold mGr
  show _ = (m_sp m, m_gr m + grS a (m_lo m) + grS b (grL a (m_lo m)), grL b (grL a (m_lo m)))
  rw [grS_add, grL_add, Nat.add_assoc]
theorem sGr_add {B : aV} {g l o : Nat → Int32} {m a b : Nat} (h : gR (sGr (sGr B m a) m b) g ∧ lR (sGr (sGr B m a) m b) l ∧ oR (sGr (sGr B m a) m b) o) : gR (sGr B m (a + b)) g ∧ lR (sGr B m (a + b)) l ∧ oR (sGr B m (a + b)) o := by
  have e9 : v_lo (sGr B m a) m = grL a (v_lo B m) := by
    show m_lo (if m = m then mGr a (v_ml B m) else v_ml B m) = _
    rw [if_pos rfl]
    rfl
  refine R_cg (A := sGr (sGr B m a) m b) rfl rfl (fun j _ => ?_) (fun k _ => ?_) rfl rfl h
  · show (if j = m then mGr (a + b) (v_ml B j) else v_ml B j) = (if j = m then mGr b (if j = m then mGr a (v_ml B j) else v_ml B j) else (if j = m then mGr a (v_ml B j) else v_ml B j))
    by_cases q : j = m
    · rw [if_pos q, if_pos q, if_pos q, mGr_add]
    · rw [if_neg q, if_neg q, if_neg q]
  · show v_fl B k + grF k (a + b) (v_lo B m) = v_fl B k + grF k a (v_lo B m) + grF k b (v_lo (sGr B m a) m)
    rw [grF_add, e9, Nat.add_assoc]
theorem sGr_nilR {B : aV} {g l o : Nat → Int32} {m n : Nat} (hl : v_lo B m = [] ∨ n = 0) (h : gR B g ∧ lR B l ∧ oR B o) : (gR (sGr B m n) g ∧ lR (sGr B m n) l ∧ oR (sGr B m n) o) ∧ grS n (v_lo B m) = 0 := by
  refine ⟨R_cg (A := B) rfl rfl (fun j _ => ?_) (fun k _ => ?_) rfl rfl h, ?_⟩
  · show (if j = m then mGr n (v_ml B j) else v_ml B j) = v_ml B j
    by_cases q : j = m
    · rw [if_pos q]
      rcases hl with hl | hl
      · subst q
        have hl : m_lo (v_ml B j) = [] := hl
        generalize v_ml B j = M at hl ⊢
        obtain ⟨a, b, l⟩ := M
        have hl : l = [] := hl
        subst hl
        show (a, b + min n 0, []) = (a, b, [])
        rw [Nat.min_zero, Nat.add_zero]
      · rw [hl, mGr_0]
    · rw [if_neg q]
  · show v_fl B k + grF k n (v_lo B m) = v_fl B k
    rcases hl with hl | hl
    · rw [hl]
      rfl
    · rw [hl, grF_0]
      rfl
  · rcases hl with hl | hl
    · rw [hl]
      exact Nat.min_zero n
    · rw [hl]
      exact Nat.zero_min _
/-- a sack of the first lot is ground; a row is moved by one from b on -/
def shL (f : Nat → Int32) (b n : Nat) : Nat → Int32 := fun j => if b ≤ j ∧ j < b + n then f (j + 1) else f j
theorem shL_0 (f : Nat → Int32) (b : Nat) : shL f b 0 = f := funext fun j => if_neg (by omega)
theorem shL_s (f : Nat → Int32) (b n : Nat) : upd (shL f b n) (b + n) (f (b + n + 1)) = shL f b (n + 1) := by
  funext j
  show (if j = b + n then f (b + n + 1) else shL f b n j) = if b ≤ j ∧ j < b + (n + 1) then f (j + 1) else f j
  by_cases q : j = b + n
  · subst q
    rw [if_pos rfl, if_pos (by omega)]
  · rw [if_neg q]
    show (if b ≤ j ∧ j < b + n then f (j + 1) else f j) = _
    by_cases q2 : b ≤ j ∧ j < b + n
    · rw [if_pos q2, if_pos (by omega)]
    · rw [if_neg q2, if_neg (by omega)]
theorem gx_R {B : aV} {g l o : Nat → Int32} {m w s : Nat} {tl : aL} (hm : m < 3) (hw : w < 5) (hs : 1 ≤ s) (hl9 : v_lo B m = (w, s) :: tl) (h8 : ∀ j, j < 3 → (v_lo B j).length ≤ 8) (h : gR B g ∧ lR B l ∧ oR B o) :
    gR (sGx B m w 1 ((w, s - 1) :: tl)) (upd g (12 + m) (g (12 + m) + 1)) ∧ lR (sGx B m w 1 ((w, s - 1) :: tl)) (upd l (8 * m) (l (8 * m) - 1)) ∧ oR (sGx B m w 1 ((w, s - 1) :: tl)) (upd o (3 * w) (o (3 * w) + 1)) := by
  obtain ⟨⟨g1, g2, g3⟩, hl, ho⟩ := h
  have el : ∀ j, v_lo (sGx B m w 1 ((w, s - 1) :: tl)) j = if j = m then (w, s - 1) :: tl else v_lo B j := fun j => by
    show m_lo (if j = m then (m_sp (v_ml B j), m_gr (v_ml B j) + 1, (w, s - 1) :: tl) else v_ml B j) = _
    by_cases q : j = m
    · rw [if_pos q, if_pos q]
    · rw [if_neg q, if_neg q]
  refine ⟨⟨?_, fun i hi => ?_, fun j hj => ?_⟩, fun j hj k hk => ?_, fun k hk => ?_⟩
  · rw [pk_un (by omega), pk_un (by omega), pk_un (by omega), pk_un (by omega)]
    exact g1
  · rw [pk_un (by omega)]
    exact g2 i hi
  · obtain ⟨a1, a2, a3⟩ := g3 j hj
    rw [el j, pk_un (show 6 + j ≠ 12 + m by omega), pk_un (show 9 + j ≠ 12 + m by omega)]
    by_cases q : j = m
    · subst q
      rw [if_pos rfl, pk_us]
      have e : v_ml (sGx B j w 1 ((w, s - 1) :: tl)) j = (m_sp (v_ml B j), m_gr (v_ml B j) + 1, (w, s - 1) :: tl) := if_pos rfl
      rw [e, a3, nI_1]
      rw [hl9] at a2
      exact ⟨a1, a2, rfl⟩
    · have e : v_ml (sGx B m w 1 ((w, s - 1) :: tl)) j = v_ml B j := if_neg q
      rw [if_neg q, pk_un (show 12 + j ≠ 12 + m by omega), e]
      exact ⟨a1, a2, a3⟩
  · rw [el j] at hk ⊢
    by_cases q : j = m
    · subst q
      rw [if_pos rfl] at hk ⊢
      have b := hl j hj k (by rw [hl9]; exact hk)
      rw [hl9] at b
      cases k with
      | zero =>
        have b : l (8 * j) = nI (100 * w + s) := b
        show upd l (8 * j) (l (8 * j) - 1) (8 * j) = nI (100 * w + (s - 1))
        rw [pk_us, b, show 100 * w + s = 100 * w + (s - 1) + 1 by omega, nI_pred]
      | succ k =>
        rw [pk_un (by omega)]
        exact b
    · rw [if_neg q] at hk ⊢
      have := h8 j hj
      rw [pk_un (by omega)]
      exact hl j hj k hk
  · obtain ⟨a1, a2, a3⟩ := ho k hk
    rw [pk_un (show 3 * k + 1 ≠ 3 * w by omega), pk_un (show 3 * k + 2 ≠ 3 * w by omega)]
    refine ⟨?_, a2, a3⟩
    show _ = nI (if k = w then v_fl B k + 1 else v_fl B k)
    by_cases q : k = w
    · subst q
      rw [if_pos rfl, pk_us, a1, nI_1]
    · rw [if_neg q, pk_un (by omega)]
      exact a1
theorem drop_R {B : aV} {g l o : Nat → Int32} {m : Nat} {q9 : Nat × Nat} {tl : aL} (hm : m < 3) (hl9 : v_lo B m = q9 :: tl) (h8 : ∀ j, j < 3 → (v_lo B j).length ≤ 8) (h : gR B g ∧ lR B l ∧ oR B o) :
    gR (sml B m tl) (upd g (9 + m) (nI tl.length)) ∧ lR (sml B m tl) (shL l (8 * m) tl.length) ∧ oR (sml B m tl) o := by
  obtain ⟨⟨g1, g2, g3⟩, hl, ho⟩ := h
  have el : ∀ j, v_lo (sml B m tl) j = if j = m then tl else v_lo B j := fun j => by
    show m_lo (if j = m then (m_sp (v_ml B j), m_gr (v_ml B j), tl) else v_ml B j) = _
    by_cases q : j = m
    · rw [if_pos q, if_pos q]
    · rw [if_neg q, if_neg q]
  have h8m := h8 m hm
  rw [hl9] at h8m
  have h8m : tl.length + 1 ≤ 8 := h8m
  refine ⟨⟨?_, fun i hi => ?_, fun j hj => ?_⟩, fun j hj k hk => ?_, ho⟩
  · rw [pk_un (by omega), pk_un (by omega), pk_un (by omega), pk_un (by omega)]
    exact g1
  · rw [pk_un (by omega)]
    exact g2 i hi
  · obtain ⟨a1, a2, a3⟩ := g3 j hj
    rw [el j, pk_un (show 6 + j ≠ 9 + m by omega), pk_un (show 12 + j ≠ 9 + m by omega)]
    by_cases q : j = m
    · subst q
      have e : v_ml (sml B j tl) j = (m_sp (v_ml B j), m_gr (v_ml B j), tl) := if_pos rfl
      rw [if_pos rfl, pk_us, e]
      exact ⟨a1, rfl, a3⟩
    · have e : v_ml (sml B m tl) j = v_ml B j := if_neg q
      rw [if_neg q, pk_un (show 9 + j ≠ 9 + m by omega), e]
      exact ⟨a1, a2, a3⟩
  · rw [el j] at hk ⊢
    by_cases q : j = m
    · subst q
      rw [if_pos rfl] at hk ⊢
      have b := hl j hj (k + 1) (by rw [hl9]; exact Nat.succ_lt_succ hk)
      rw [hl9] at b
      show (if 8 * j ≤ 8 * j + k ∧ 8 * j + k < 8 * j + tl.length then l (8 * j + k + 1) else l (8 * j + k)) = _
      rw [if_pos (by omega)]
      exact b
    · rw [if_neg q] at hk ⊢
      have := h8 j hj
      show (if 8 * m ≤ 8 * j + k ∧ 8 * j + k < 8 * m + tl.length then l (8 * j + k + 1) else l (8 * j + k)) = _
      rw [if_neg (by omega)]
      exact hl j hj k hk
/-- a sack that is ground, told as grinding one: more of the lot is left, or nothing -/
theorem one_R {B : aV} {g l o : Nat → Int32} {m w s : Nat} {tl : aL} (hl9 : v_lo B m = (w, s) :: tl) (hs : 1 ≤ s) : (1 < s → gR (sGx B m w 1 ((w, s - 1) :: tl)) g ∧ lR (sGx B m w 1 ((w, s - 1) :: tl)) l ∧ oR (sGx B m w 1 ((w, s - 1) :: tl)) o → gR (sGr B m 1) g ∧ lR (sGr B m 1) l ∧ oR (sGr B m 1) o) ∧
    (s = 1 → gR (sml (sGx B m w 1 ((w, s - 1) :: tl)) m tl) g ∧ lR (sml (sGx B m w 1 ((w, s - 1) :: tl)) m tl) l ∧ oR (sml (sGx B m w 1 ((w, s - 1) :: tl)) m tl) o → gR (sGr B m 1) g ∧ lR (sGr B m 1) l ∧ oR (sGr B m 1) o) := by
  have e1 : grS 1 ((w, s) :: tl) = 1 := by
    rw [grS_c]
    show min 1 (s + swt tl) = 1
    omega
  have eF : ∀ k, grF k 1 ((w, s) :: tl) = if w = k then 1 else 0 := fun k => by
    rw [grF_c]
    show (if w = k then min 1 s else 0) + grF k (1 - s) tl = _
    rw [show 1 - s = 0 by omega, grF_0, show min 1 s = 1 by omega]
    rfl
  have eM : mGr 1 (v_ml B m) = (m_sp (v_ml B m), m_gr (v_ml B m) + 1, grL 1 ((w, s) :: tl)) := by
    unfold mGr
    rw [show m_lo (v_ml B m) = (w, s) :: tl from hl9, e1]
  have F : ∀ k, v_fl (sGr B m 1) k = if k = w then v_fl B k + 1 else v_fl B k := fun k => by
    show v_fl B k + grF k 1 (v_lo B m) = _
    rw [hl9, eF]
    by_cases q : k = w
    · rw [if_pos q, if_pos q.symm]
    · rw [if_neg q, if_neg (Ne.symm q)]
      rfl
  refine ⟨fun h1 h => ?_, fun h1 h => ?_⟩
  · refine R_cg (A := sGx B m w 1 ((w, s - 1) :: tl)) rfl rfl (fun j _ => ?_) (fun k _ => F k) rfl rfl h
    show (if j = m then mGr 1 (v_ml B j) else v_ml B j) = (if j = m then (m_sp (v_ml B j), m_gr (v_ml B j) + 1, (w, s - 1) :: tl) else v_ml B j)
    by_cases q : j = m
    · subst q
      rw [if_pos rfl, if_pos rfl, eM, grL_c, if_neg (by decide), if_pos h1]
    · rw [if_neg q, if_neg q]
  · refine R_cg (A := sml (sGx B m w 1 ((w, s - 1) :: tl)) m tl) rfl rfl (fun j _ => ?_) (fun k _ => F k) rfl rfl h
    show (if j = m then mGr 1 (v_ml B j) else v_ml B j) = (if j = m then (m_sp (v_ml (sGx B m w 1 ((w, s - 1) :: tl)) j), m_gr (v_ml (sGx B m w 1 ((w, s - 1) :: tl)) j), tl) else v_ml (sGx B m w 1 ((w, s - 1) :: tl)) j)
    by_cases q : j = m
    · subst q
      have e : v_ml (sGx B j w 1 ((w, s - 1) :: tl)) j = (m_sp (v_ml B j), m_gr (v_ml B j) + 1, (w, s - 1) :: tl) := if_pos rfl
      rw [if_pos rfl, if_pos rfl, eM, e, grL_c, if_neg (by decide), if_neg (show ¬ 1 < s by omega)]
      show (_, _, grL (1 - s) tl) = _
      rw [show 1 - s = 0 by omega, grL_0]
    · have e : v_ml (sGx B m w 1 ((w, s - 1) :: tl)) j = v_ml B j := if_neg q
      rw [if_neg q, if_neg q, e]
