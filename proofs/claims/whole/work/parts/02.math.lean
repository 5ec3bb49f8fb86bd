theorem cm_i5 (i j : Nat) : (5 : Int32) * nI i + nI j = nI (5 * i + j) := by
  have h : (5 : Int32) = nI 5 := by decide
  rw [h, pk_mul, nI_add]
theorem cm_i4 (i j : Nat) : (4 : Int32) * nI i + nI j = nI (4 * i + j) := by
  have h : (4 : Int32) = nI 4 := by decide
  rw [h, pk_mul, nI_add]
theorem cm_neg1 {n : Nat} (h : n < 2 ^ 31) : ¬ (-1 : Int32) = nI n := by
  intro e
  have h1 := congrArg Int32.toInt e
  rw [nI_toInt h, show (-1 : Int32).toInt = -1 from by decide] at h1
  omega
theorem cm_nar1 : ¬ vp_nar .boolean 1 = 0 := by decide
theorem cm_nar0 : vp_nar .boolean 0 = 0 := by decide
/-- how many of the slots i .. i + d - 1 show the sheet x -/
def cm_c (st : Nat → Int32) (x : Int32) : Nat → Nat → Nat
  | 0, _ => 0
  | d + 1, i => if st i = x then cm_c st x d (i + 1) + 1 else cm_c st x d (i + 1)
theorem cm_c_le (st : Nat → Int32) (x : Int32) : ∀ d i, cm_c st x d i ≤ d := by
  intro d
  induction d with
  | zero => intro i; exact Nat.le_refl 0
  | succ d ih =>
    intro i
    have h := ih (i + 1)
    rw [cm_c]
    split <;> omega
theorem cm_c_ex (st : Nat → Int32) (x : Int32) : ∀ d i, cm_c st x d i ≠ 0 → ∃ t, t < i + d ∧ st t = x := by
  intro d
  induction d with
  | zero => intro i h; exact absurd rfl h
  | succ d ih =>
    intro i h
    by_cases e : st i = x
    · exact ⟨i, by omega, e⟩
    · rw [cm_c, if_neg e] at h
      obtain ⟨t, ht, et⟩ := ih (i + 1) h
      exact ⟨t, by omega, et⟩
/-- the first of the sheets i .. i + d that no slot shows; i + d unasked -/
def cm_f (st : Nat → Int32) : Nat → Nat → Nat
  | 0, i => i
  | d + 1, i => if cm_c st (nI i) 20 0 = 0 then i else cm_f st d (i + 1)
theorem cm_f_le (st : Nat → Int32) : ∀ d i, cm_f st d i ≤ i + d := by
  intro d
  induction d with
  | zero => intro i; exact Nat.le_refl i
  | succ d ih =>
    intro i
    have h := ih (i + 1)
    rw [cm_f]
    split <;> omega
/-- pigeonhole: m slots show at most m sheets -/
theorem cm_pg : ∀ n, n < 2 ^ 31 → ∀ (m : Nat) (f : Nat → Int32), (∀ s, s < n → ∃ t, t < m ∧ f t = nI s) → n ≤ m := by
  intro n
  induction n with
  | zero => intro _ m f _; exact Nat.zero_le m
  | succ n ih =>
    intro hn m f h
    obtain ⟨t0, ht0, e0⟩ := h n (by omega)
    have h2 : n ≤ m - 1 := by
      refine ih (by omega) (m - 1) (fun t => if t < t0 then f t else f (t + 1)) ?_
      intro s hs
      obtain ⟨t, ht, e⟩ := h s (by omega)
      have hne : t ≠ t0 := by
        intro z
        rw [z, e0, nI_eq (by omega) (by omega)] at e
        omega
      by_cases hlt : t < t0
      · refine ⟨t, by omega, ?_⟩
        show (if t < t0 then f t else f (t + 1)) = nI s
        rw [if_pos hlt]; exact e
      · refine ⟨t - 1, by omega, ?_⟩
        show (if t - 1 < t0 then f (t - 1) else f (t - 1 + 1)) = nI s
        rw [if_neg (by omega), show t - 1 + 1 = t from by omega]; exact e
    omega
/-- where one of the twenty slots shows nothing, one of the twenty sheets is not shown -/
theorem cm_free (st : Nat → Int32) (t0 : Nat) (h0 : t0 < 20) (e0 : st t0 = -1) : ∃ s, 0 ≤ s ∧ s < 20 ∧ cm_c st (nI s) 20 0 = 0 := by
  by_cases h : ∃ s, 0 ≤ s ∧ s < 20 ∧ cm_c st (nI s) 20 0 = 0
  · exact h
  · exfalso
    have h2 : ∀ s, s < 20 → ∃ t, t < 19 ∧ (fun t => if t < t0 then st t else st (t + 1)) t = nI s := by
      intro s hs
      have h3 : cm_c st (nI s) 20 0 ≠ 0 := fun z => h ⟨s, Nat.zero_le s, hs, z⟩
      obtain ⟨t, ht, e⟩ := cm_c_ex st (nI s) 20 0 h3
      have hne : t ≠ t0 := by
        intro z
        rw [z, e0] at e
        exact cm_neg1 (by omega) e
      by_cases hlt : t < t0
      · refine ⟨t, by omega, ?_⟩
        show (if t < t0 then st t else st (t + 1)) = nI s
        rw [if_pos hlt]; exact e
      · refine ⟨t - 1, by omega, ?_⟩
        show (if t - 1 < t0 then st (t - 1) else st (t - 1 + 1)) = nI s
        rw [if_neg (by omega), show t - 1 + 1 = t from by omega]; exact e
    have h4 := cm_pg 20 (by decide) 19 _ h2
    omega
/-- the cells of sheet s, from its cell i on, d of them, set to zero -/
def cm_clr (s : Nat) : Nat → Nat → (Nat → Int32) → (Nat → Int32)
  | 0, _, va => va
  | d + 1, i, va => cm_clr s d (i + 1) (upd va (4 * s + i) 0)
/-- the cells of sheet o copied to sheet s, from cell i on, d of them -/
def cm_cpy (o s : Nat) : Nat → Nat → (Nat → Int32) → (Nat → Int32)
  | 0, _, va => va
  | d + 1, i, va => cm_cpy o s d (i + 1) (upd va (4 * s + i) (va (4 * o + i)))
/-- the sum of the cells of sheet s, from cell i on, d of them, onto a -/
def cm_sum (va : Nat → Int32) (s : Nat) : Nat → Nat → Int64 → Int64
  | 0, _, a => a
  | d + 1, i, a => cm_sum va s d (i + 1) (a + (va (4 * s + i)).toInt64)
theorem cm_sum_add (va : Nat → Int32) (s : Nat) : ∀ d i (x a : Int64), x + cm_sum va s d i a = cm_sum va s d i (x + a) := by
  intro d
  induction d with
  | zero => intro i x a; rfl
  | succ d ih =>
    intro i x a
    rw [cm_sum, cm_sum, ih, Int64.add_assoc]
/-- a slot on both sides: unmapped, or showing the same sheet, as freely -/
def cm_S (mp sh so st op : Nat → Int32) (t : Nat) : Prop :=
  (mp t = 0 ∧ st t = -1) ∨ (¬ mp t = 0 ∧ sh t = op t ∧ ∃ s, s < 20 ∧ so t = nI s ∧ st t = nI s)
def cm_T (mp sh so st op : Nat → Int32) : Prop := ∀ t, t < 20 → cm_S mp sh so st op t
/-- a dead process has no mapped page -/
def cm_D (al mp : Nat → Int32) : Prop := ∀ i j, i < 4 → j < 5 → al i = 0 → mp (5 * i + j) = 0
def i_Rel (_ : Nat) (u : SX) (v : SY) : Prop :=
  ∃ (fr : Int32) (al mp sh so va st op : Nat → Int32), u = (fr, al, mp, sh, so, va) ∧ v = (al, st, op, va) ∧ cm_T mp sh so st op ∧ cm_D al mp
theorem i_up {k : Nat} {u : SX} {v : SY} (h : i_Rel k u v) : i_Rel (k + 4) u v := h
/-- X counts what Y counts -/
theorem cm_iff {mp sh so st op : Nat → Int32} (T : cm_T mp sh so st op) {s t : Nat} (hs : s < 2 ^ 31) (ht : t < 20) : (¬ mp t = 0 ∧ so t = nI s) ↔ st t = nI s := by
  rcases T t ht with ⟨a, b⟩ | ⟨a, _, q, hq, b, c⟩
  · rw [b]
    exact ⟨fun z => absurd a z.1, fun z => absurd z (cm_neg1 hs)⟩
  · rw [b, c]
    exact ⟨fun z => z.2, fun z => ⟨a, z⟩⟩
theorem cm_put {mp sh so st op : Nat → Int32} (T : cm_T mp sh so st op) {t s : Nat} (hs : s < 20) (b : Int32) :
    cm_T (upd mp t (vp_nar .boolean 1)) (upd sh t b) (upd so t (nI s)) (upd st t (nI s)) (upd op t b) := by
  intro t' ht'
  by_cases e : t' = t
  · subst e
    refine Or.inr ⟨?_, ?_, s, hs, ?_, ?_⟩
    · rw [pk_us]; exact cm_nar1
    · rw [pk_us, pk_us]
    · rw [pk_us]
    · rw [pk_us]
  · unfold cm_S
    rw [pk_un e, pk_un e, pk_un e, pk_un e, pk_un e]
    exact T t' ht'
theorem cm_drop {mp sh so st op : Nat → Int32} (T : cm_T mp sh so st op) {t : Nat} :
    cm_T (upd mp t (vp_nar .boolean 0)) sh so (upd st t (-1)) op := by
  intro t' ht'
  by_cases e : t' = t
  · subst e
    refine Or.inl ⟨?_, ?_⟩
    · rw [pk_us]; exact cm_nar0
    · rw [pk_us]
  · unfold cm_S
    rw [pk_un e, pk_un e]
    exact T t' ht'
theorem cm_drop0 {mp sh so st op : Nat → Int32} (T : cm_T mp sh so st op) {t : Nat} (h : mp t = 0) :
    cm_T mp sh so (upd st t (-1)) op := by
  intro t' ht'
  by_cases e : t' = t
  · subst e
    refine Or.inl ⟨h, ?_⟩
    rw [pk_us]
  · unfold cm_S
    rw [pk_un e]
    exact T t' ht'
theorem cm_un {mp sh so st op : Nat → Int32} (T : cm_T mp sh so st op) {t : Nat} (ht : t < 20) (h : mp t = 0) : st t = -1 := by
  rcases T t ht with ⟨_, b⟩ | ⟨a, _⟩
  · exact b
  · exact absurd h a
theorem cm_ma {mp sh so st op : Nat → Int32} (T : cm_T mp sh so st op) {t : Nat} (ht : t < 20) (h : ¬ mp t = 0) : sh t = op t ∧ ∃ s, s < 20 ∧ so t = nI s ∧ st t = nI s := by
  rcases T t ht with ⟨a, _⟩ | ⟨_, b⟩
  · exact absurd a h
  · exact b
theorem cm_D_put {al mp : Nat → Int32} (D : cm_D al mp) {i j : Nat} (hj : j < 5) (ha : ¬ al i = 0) (b : Int32) : cm_D al (upd mp (5 * i + j) b) := by
  intro i' j' hi' hj' h
  by_cases e : 5 * i' + j' = 5 * i + j
  · have : i' = i := by omega
    subst this
    exact absurd h ha
  · rw [pk_un e]; exact D i' j' hi' hj' h
theorem cm_D_drop {al mp : Nat → Int32} (D : cm_D al mp) {t : Nat} : cm_D al (upd mp t (vp_nar .boolean 0)) := by
  intro i' j' hi' hj' h
  by_cases e : 5 * i' + j' = t
  · rw [e, pk_us]; exact cm_nar0
  · rw [pk_un e]; exact D i' j' hi' hj' h
